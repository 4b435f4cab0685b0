section
variable {p : Program} {l : Launch} {e : Env} {s : State} {m : MethodId} {args : Array Value} {below : List Frame} {meth : Method} {c : Code} {Q : State → Prop} {G : GG} {A : Nat → Prop} {N B : Nat} {E : Nat → va_E} {X : va_W}
abbrev wc_X9_list : List Cond := Cond.code yX9_list cX9_list 4 (some .int) :: TG
abbrev rm_X9_list : Room := { frames := 4, cells := 0, slots := 0, locals := 145 }
theorem cd_X9_list : yX9_list.cls = RX9 ∧ yX9_list.cls ≠ "java/lang/invoke/MethodHandle" ∧ yX9_list.cls ≠ "java/lang/invoke/VarHandle" ∧ (parseMethodDescriptor yX9_list.desc).map (fun d => d.parameters.length) = some 2 := by decide +kernel
theorem dX9_list_0 : decode cX9_list 0 = .ok (.iload_n 1, 1) := by decide +kernel
theorem dX9_list_1 : decode cX9_list 1 = .ok (.invokestatic 306, 3) := by decide +kernel
theorem dX9_list_4 : decode cX9_list 4 = .ok (.ifCond .ne 5, 3) := by decide +kernel
theorem dX9_list_7 : decode cX9_list 7 = .ok (.iconst (-1), 1) := by decide +kernel
theorem dX9_list_8 : decode cX9_list 8 = .ok (.ireturn, 1) := by decide +kernel
theorem dX9_list_9 : decode cX9_list 9 = .ok (.iload_n 2, 1) := by decide +kernel
theorem dX9_list_10 : decode cX9_list 10 = .ok (.bipush 12, 2) := by decide +kernel
theorem dX9_list_12 : decode cX9_list 12 = .ok (.if_icmp .le 6, 3) := by decide +kernel
theorem dX9_list_15 : decode cX9_list 15 = .ok (.bipush (-2), 2) := by decide +kernel
theorem dX9_list_17 : decode cX9_list 17 = .ok (.ireturn, 1) := by decide +kernel
theorem dX9_list_18 : decode cX9_list 18 = .ok (.iload_n 2, 1) := by decide +kernel
theorem dX9_list_19 : decode cX9_list 19 = .ok (.ifCond .ge 6, 3) := by decide +kernel
theorem dX9_list_22 : decode cX9_list 22 = .ok (.bipush (-14), 2) := by decide +kernel
theorem dX9_list_24 : decode cX9_list 24 = .ok (.ireturn, 1) := by decide +kernel
theorem dX9_list_25 : decode cX9_list 25 = .ok (.aload_n 0, 1) := by decide +kernel
theorem dX9_list_26 : decode cX9_list 26 = .ok (.getfield 87, 3) := by decide +kernel
theorem dX9_list_29 : decode cX9_list 29 = .ok (.iload_n 1, 1) := by decide +kernel
theorem dX9_list_30 : decode cX9_list 30 = .ok (.iload_n 2, 1) := by decide +kernel
theorem dX9_list_31 : decode cX9_list 31 = .ok (.iastore, 1) := by decide +kernel
theorem dX9_list_32 : decode cX9_list 32 = .ok (.iconst 0, 1) := by decide +kernel
theorem dX9_list_33 : decode cX9_list 33 = .ok (.istore_n 3, 1) := by decide +kernel
theorem dX9_list_34 : decode cX9_list 34 = .ok (.iload_n 3, 1) := by decide +kernel
theorem dX9_list_35 : decode cX9_list 35 = .ok (.bipush 12, 2) := by decide +kernel
theorem dX9_list_37 : decode cX9_list 37 = .ok (.if_icmp .ge 21, 3) := by decide +kernel
theorem dX9_list_40 : decode cX9_list 40 = .ok (.aload_n 0, 1) := by decide +kernel
theorem dX9_list_41 : decode cX9_list 41 = .ok (.getfield 90, 3) := by decide +kernel
theorem dX9_list_44 : decode cX9_list 44 = .ok (.bipush 12, 2) := by decide +kernel
theorem dX9_list_46 : decode cX9_list 46 = .ok (.iload_n 1, 1) := by decide +kernel
theorem dX9_list_47 : decode cX9_list 47 = .ok (.imul, 1) := by decide +kernel
theorem dX9_list_48 : decode cX9_list 48 = .ok (.iload_n 3, 1) := by decide +kernel
theorem dX9_list_49 : decode cX9_list 49 = .ok (.iadd, 1) := by decide +kernel
theorem dX9_list_50 : decode cX9_list 50 = .ok (.iconst 0, 1) := by decide +kernel
theorem dX9_list_51 : decode cX9_list 51 = .ok (.iastore, 1) := by decide +kernel
theorem dX9_list_52 : decode cX9_list 52 = .ok (.iinc 3 1, 3) := by decide +kernel
theorem dX9_list_55 : decode cX9_list 55 = .ok (.goto (-21), 3) := by decide +kernel
theorem dX9_list_58 : decode cX9_list 58 = .ok (.iconst 1, 1) := by decide +kernel
theorem dX9_list_59 : decode cX9_list 59 = .ok (.ireturn, 1) := by decide +kernel
set_option maxRecDepth 100000 in
set_option maxHeartbeats 4000000 in
theorem kb_X9_list_34 {x1 : Int32} {st : Int32 × Mem} {r : (Int32 × Mem) ⊕ ((Mem))} {H : Heap} {locs : List Loc} {ls : Array Slot} (C : CX p s m args meth c cX9_list 4 RX9 wc_X9_list (some .int))  (hG : Gd s G A 28 B (entM G B st.2) X H locs) (hl : lv_has ls 4 [(0, .ref (B + 0)), (1, .int x1), (3, .int st.1)]) (hf : sh_X9_list_s34 x1 st = some r)
    (kL : ∀ st' : Int32 × Mem, r = Sum.inl st' → ∀ (H : Heap) (locs : List Loc) (ls : Array Slot), Gd s G A 28 B (entM G B st'.2) X H locs → lv_has ls 4 [(0, .ref (B + 0)), (1, .int x1), (3, .int st'.1)] → W p l e rm_X9_list s m args below meth c H locs 0 0 Q (F0 m 34 ls []))
    (kX0 : ∀ y' : Mem, r = Sum.inr y' → ∀ (H : Heap) (locs : List Loc) (ls : Array Slot), Gd s G A 28 B (entM G B y') X H locs → lv_has ls 4 [] → W p l e rm_X9_list s m args below meth c H locs 0 0 Q (F0 m 58 ls [])) :
    W p l e rm_X9_list s m args below meth c H locs 0 0 Q (F0 m 34 ls []) := by
  refine lv_iload_n C.1 C.2.1 dX9_list_34 rfl (lv_at hl 2 rfl) ?_
  refine lv_bipush (v := nI 12) C.1 C.2.1 dX9_list_35 (by decide) ?_
  rcases of_ite hf with ⟨c1, hf⟩ | ⟨c1, hf⟩
  · refine lv_icmp_ge (tgt := 58) C.1 C.2.1 dX9_list_37 (by decide) (fun _ => ?_) (fun q => absurd c1 q)
    obtain rfl := Option.some.inj hf
    exact kX0 _ rfl _ _ _ hG (lv_sub hl [] rfl)
  · refine lv_icmp_ge (tgt := 58) C.1 C.2.1 dX9_list_37 (by decide) (fun q => absurd q c1) (fun _ => ?_)
    refine lv_aload_n C.1 C.2.1 dX9_list_40 rfl (lv_at hl 0 rfl) ?_
    refine gf_X9_90 C hG rfl dX9_list_41 ?_
    refine lv_bipush (v := nI 12) C.1 C.2.1 dX9_list_44 (by decide) ?_
    refine lv_iload_n C.1 C.2.1 dX9_list_46 rfl (lv_at hl 1 rfl) ?_
    refine lv_imul C.1 C.2.1 dX9_list_47 ?_
    refine lv_iload_n C.1 C.2.1 dX9_list_48 rfl (lv_at hl 2 rfl) ?_
    refine lv_iadd C.1 C.2.1 dX9_list_49 ?_
    refine lv_iconst (v := nI 0) C.1 C.2.1 dX9_list_50 (by decide) ?_
    obtain ⟨w2, hw2, hf⟩ := of_bind hf
    obtain ⟨bw2, ew2⟩ := of_stM hw2
    refine r_iast C hG (c0 := 27) (by decide) (entM_I (n := 48) rfl) bw2 (E' := (entM G B w2)) (by rw [ew2]; exact upM_I (n := 48) rfl) dX9_list_51 (fun H locs hG => ?_)
    obtain ⟨v3, ev3, hf⟩ := of_letv hf
    refine lv_iinc (v := v3) (lv' := [(3, .int v3), (0, .ref (B + 0)), (1, .int x1)]) C.1 C.2.1 dX9_list_52 hl (k := 2) rfl (by rw [ev3, show Int32.ofInt (1) = nI 1 from by decide]) (by decide) rfl (fun ls hl => ?_)
    refine lv_goto (tgt := 34) C.1 C.2.1 dX9_list_55 (by decide) ?_
    obtain rfl := Option.some.inj hf
    exact kL _ rfl _ _ _ hG (lv_sub hl [1, 2, 0] rfl)
set_option maxRecDepth 100000 in
set_option maxHeartbeats 4000000 in
theorem kl_X9_list_34 {x1 : Int32} (C : CX p s m args meth c cX9_list 4 RX9 wc_X9_list (some .int))  : ∀ (n : Nat) (st : Int32 × Mem) (x : (Mem)) (H : Heap) (locs : List Loc) (ls : Array Slot), Gd s G A 28 B (entM G B st.2) X H locs → lv_has ls 4 [(0, .ref (B + 0)), (1, .int x1), (3, .int st.1)] → lpw (sh_X9_list_s34 x1) n st = some x →
    (∀ y' : Mem, x = y' → ∀ (H : Heap) (locs : List Loc) (ls : Array Slot), Gd s G A 28 B (entM G B y') X H locs → lv_has ls 4 [] → W p l e rm_X9_list s m args below meth c H locs 0 0 Q (F0 m 58 ls [])) → W p l e rm_X9_list s m args below meth c H locs 0 0 Q (F0 m 34 ls []) := by
  intro n
  induction n with
  | zero =>
    intro st x H locs ls hG hl hf
    cases hf
  | succ n ih =>
    intro st x H locs ls hG hl hf kX0
    obtain ⟨r, hr, hh⟩ := of_lpw hf
    refine kb_X9_list_34 C  hG hl hr (fun st2 e1 H locs ls hG hl => ?_) (fun y2 e1 H locs ls hG hl => ?_)
    · rcases hh with ⟨s3, e2, hh⟩ | e2
      · rw [e2] at e1
        cases e1
        exact ih _ _ _ _ _ hG hl hh kX0
      · rw [e2] at e1
        cases e1
    · rcases hh with ⟨s3, e2, hh⟩ | e2
      · rw [e2] at e1
        cases e1
      · rw [e2] at e1
        cases e1
        exact kX0 _ rfl _ _ _ hG hl
set_option maxRecDepth 100000 in
set_option maxHeartbeats 4000000 in
theorem kb_X9_list_0 {x1 : Int32} {x2 : Int32} {w : Mem} {out : Int32 × Mem} {H : Heap} {locs : List Loc} {ls : Array Slot} (C : CX p s m args meth c cX9_list 4 RX9 wc_X9_list (some .int))  (hG : Gd s G A 28 B (entM G B w) X H locs) (hl : lv_has ls 4 [(0, .ref (B + 0)), (1, .int x1), (2, .int x2)]) (hf : sh_X9_list x1 x2 w = some out) :
    W p l e rm_X9_list s m args below meth c H locs 0 0 (MQ below (CPost G A 28 B (entM G B out.2) X (some (.int out.1))) args s 0 0 A) (F0 m 0 ls []) := by
  refine lv_iload_n C.1 C.2.1 dX9_list_0 rfl (lv_at hl 1 rfl) ?_
  obtain ⟨v1, hv1, hf⟩ := of_bind hf
  refine r_callS1 C hG hl.1 (As := [.int x1]) (mt_X9_isList l  hv1) (va_cwS 1 C.2.2.2.2.1 (gd_S tg_6_28 tg_6_29 tg_1_10 tg_6_30) rfl rfl rfl cd_X9_isList.2 ⟨Nat.le_of_ble_eq_true rfl, Nat.le_of_ble_eq_true rfl⟩) rfl rfl (Nat.le_of_ble_eq_true rfl) dX9_list_1 (fun H locs hG => ?_)
  rcases of_ite hf with ⟨c2, hf⟩ | ⟨c2, hf⟩
  · refine lv_if_ne (tgt := 9) C.1 C.2.1 dX9_list_4 (by decide) (fun q => absurd c2 q) (fun _ => ?_)
    refine lv_iconst (v := (-1 : Int32)) C.1 C.2.1 dX9_list_7 (by decide) ?_
    obtain rfl := Option.some.inj hf
    exact r_iret C hG dX9_list_8
  · refine lv_if_ne (tgt := 9) C.1 C.2.1 dX9_list_4 (by decide) (fun _ => ?_) (fun q => absurd q c2)
    refine lv_iload_n C.1 C.2.1 dX9_list_9 rfl (lv_at hl 2 rfl) ?_
    refine lv_bipush (v := nI 12) C.1 C.2.1 dX9_list_10 (by decide) ?_
    rcases of_ite hf with ⟨c3, hf⟩ | ⟨c3, hf⟩
    · refine lv_icmp_le (tgt := 18) C.1 C.2.1 dX9_list_12 (by decide) (fun _ => ?_) (fun q => absurd c3 q)
      refine lv_iload_n C.1 C.2.1 dX9_list_18 rfl (lv_at hl 2 rfl) ?_
      rcases of_ite hf with ⟨c4, hf⟩ | ⟨c4, hf⟩
      · refine lv_if_ge (tgt := 25) C.1 C.2.1 dX9_list_19 (by decide) (fun _ => ?_) (fun q => absurd c4 q)
        refine lv_aload_n C.1 C.2.1 dX9_list_25 rfl (lv_at hl 0 rfl) ?_
        refine gf_X9_87 C hG rfl dX9_list_26 ?_
        refine lv_iload_n C.1 C.2.1 dX9_list_29 rfl (lv_at hl 1 rfl) ?_
        refine lv_iload_n C.1 C.2.1 dX9_list_30 rfl (lv_at hl 2 rfl) ?_
        obtain ⟨w5, hw5, hf⟩ := of_bind hf
        obtain ⟨bw5, ew5⟩ := of_stM hw5
        refine r_iast C hG (c0 := 26) (by decide) (entM_I (n := 4) rfl) bw5 (E' := (entM G B w5)) (by rw [ew5]; exact upM_I (n := 4) rfl) dX9_list_31 (fun H locs hG => ?_)
        refine lv_iconst (v := nI 0) C.1 C.2.1 dX9_list_32 (by decide) ?_
        refine lv_istore_n (lv' := [(3, .int (nI 0)), (0, .ref (B + 0)), (1, .int x1), (2, .int x2)]) C.1 C.2.1 dX9_list_33 rfl hl (by decide) rfl (fun ls hl => ?_)
        obtain ⟨ex6, hex6, hf⟩ := of_bind hf
        refine kl_X9_list_34 C  FU (nI 0, w5) ex6 _ _ _ hG (lv_sub hl [1, 2, 0] rfl) hex6 (fun y e0 H locs ls hG hl => ?_)
        subst e0
        refine lv_iconst (v := nI 1) C.1 C.2.1 dX9_list_58 (by decide) ?_
        obtain rfl := Option.some.inj hf
        exact r_iret C hG dX9_list_59
      · refine lv_if_ge (tgt := 25) C.1 C.2.1 dX9_list_19 (by decide) (fun q => absurd q c4) (fun _ => ?_)
        refine lv_bipush (v := (-14 : Int32)) C.1 C.2.1 dX9_list_22 (by decide) ?_
        obtain rfl := Option.some.inj hf
        exact r_iret C hG dX9_list_24
    · refine lv_icmp_le (tgt := 18) C.1 C.2.1 dX9_list_12 (by decide) (fun q => absurd q c3) (fun _ => ?_)
      refine lv_bipush (v := (-2 : Int32)) C.1 C.2.1 dX9_list_15 (by decide) ?_
      obtain rfl := Option.some.inj hf
      exact r_iret C hG dX9_list_17
set_option maxRecDepth 100000 in
set_option maxHeartbeats 4000000 in
theorem mt_X9_list (l : Launch) {G : GG} {A : Nat → Prop} {B : Nat} {X : va_W} {x1 : Int32} {x2 : Int32} {w : Mem} {out : Int32 × Mem}  (hf : sh_X9_list x1 x2 w = some out) : MetW l yX9_list wc_X9_list rm_X9_list G A 28 B (entM G B w) X [.ref (B + 0), .int x1, .int x2] (some (.int out.1)) (entM G B out.2) := by
  refine Met.ofW (cc := cX9_list) (maxL := 4) (ret := (some .int)) (by decide) rfl ?_
  intro p e s m args below meth c s₁ B0 hml hv
  obtain ⟨rfl, hEv, hWd⟩ := hv
  have C : CX p s m _ meth c cX9_list 4 RX9 wc_X9_list (some .int) := ⟨B0.exec, B0.bytes, hml, findClass_of_methodNamed B0.named, atoms_spec (ws := wc_X9_list) B0.pre, B0.returns, B0.notSynchronized⟩
  have hl := lv_entry [.ref (B + 0), .int x1, .int x2] (n := 4) (Nat.le_of_ble_eq_true rfl)
  rw [lg_entry_eq]
  generalize (lg_sl [.ref (B + 0), .int x1, .int x2] ++ List.replicate (4 - (lg_sl [.ref (B + 0), .int x1, .int x2]).length) Slot.unset).toArray = ls at hl ⊢
  have hl : lv_has ls 4 [(0, .ref (B + 0)), (1, .int x1), (2, .int x2)] := hl
  exact kb_X9_list_0 C  ⟨hEv, hWd, va_S.rf⟩ hl hf
abbrev wc_X9_put : List Cond := Cond.code yX9_put cX9_put 4 (some .int) :: TG
abbrev rm_X9_put : Room := { frames := 4, cells := 0, slots := 0, locals := 147 }
theorem cd_X9_put : yX9_put.cls = RX9 ∧ yX9_put.cls ≠ "java/lang/invoke/MethodHandle" ∧ yX9_put.cls ≠ "java/lang/invoke/VarHandle" ∧ (parseMethodDescriptor yX9_put.desc).map (fun d => d.parameters.length) = some 3 := by decide +kernel
theorem dX9_put_0 : decode cX9_put 0 = .ok (.iload_n 1, 1) := by decide +kernel
theorem dX9_put_1 : decode cX9_put 1 = .ok (.invokestatic 306, 3) := by decide +kernel
theorem dX9_put_4 : decode cX9_put 4 = .ok (.ifCond .ne 5, 3) := by decide +kernel
theorem dX9_put_7 : decode cX9_put 7 = .ok (.iconst (-1), 1) := by decide +kernel
theorem dX9_put_8 : decode cX9_put 8 = .ok (.ireturn, 1) := by decide +kernel
theorem dX9_put_9 : decode cX9_put 9 = .ok (.aload_n 0, 1) := by decide +kernel
theorem dX9_put_10 : decode cX9_put 10 = .ok (.getfield 87, 3) := by decide +kernel
theorem dX9_put_13 : decode cX9_put 13 = .ok (.iload_n 1, 1) := by decide +kernel
theorem dX9_put_14 : decode cX9_put 14 = .ok (.iaload, 1) := by decide +kernel
theorem dX9_put_15 : decode cX9_put 15 = .ok (.ifCond .ge 6, 3) := by decide +kernel
theorem dX9_put_18 : decode cX9_put 18 = .ok (.bipush (-11), 2) := by decide +kernel
theorem dX9_put_20 : decode cX9_put 20 = .ok (.ireturn, 1) := by decide +kernel
theorem dX9_put_21 : decode cX9_put 21 = .ok (.aload_n 0, 1) := by decide +kernel
theorem dX9_put_22 : decode cX9_put 22 = .ok (.iload_n 1, 1) := by decide +kernel
theorem dX9_put_23 : decode cX9_put 23 = .ok (.iload_n 2, 1) := by decide +kernel
theorem dX9_put_24 : decode cX9_put 24 = .ok (.invokevirtual 309, 3) := by decide +kernel
theorem dX9_put_27 : decode cX9_put 27 = .ok (.ifCond .ne 6, 3) := by decide +kernel
theorem dX9_put_30 : decode cX9_put 30 = .ok (.bipush (-13), 2) := by decide +kernel
theorem dX9_put_32 : decode cX9_put 32 = .ok (.ireturn, 1) := by decide +kernel
theorem dX9_put_33 : decode cX9_put 33 = .ok (.aload_n 0, 1) := by decide +kernel
theorem dX9_put_34 : decode cX9_put 34 = .ok (.getfield 90, 3) := by decide +kernel
theorem dX9_put_37 : decode cX9_put 37 = .ok (.bipush 12, 2) := by decide +kernel
theorem dX9_put_39 : decode cX9_put 39 = .ok (.iload_n 1, 1) := by decide +kernel
theorem dX9_put_40 : decode cX9_put 40 = .ok (.imul, 1) := by decide +kernel
theorem dX9_put_41 : decode cX9_put 41 = .ok (.iload_n 2, 1) := by decide +kernel
theorem dX9_put_42 : decode cX9_put 42 = .ok (.iadd, 1) := by decide +kernel
theorem dX9_put_43 : decode cX9_put 43 = .ok (.iload_n 3, 1) := by decide +kernel
theorem dX9_put_44 : decode cX9_put 44 = .ok (.iastore, 1) := by decide +kernel
theorem dX9_put_45 : decode cX9_put 45 = .ok (.iconst 1, 1) := by decide +kernel
theorem dX9_put_46 : decode cX9_put 46 = .ok (.ireturn, 1) := by decide +kernel
set_option maxRecDepth 100000 in
set_option maxHeartbeats 4000000 in
theorem kb_X9_put_0 {x1 : Int32} {x2 : Int32} {x3 : Int32} {w : Mem} {out : Int32 × Mem} {H : Heap} {locs : List Loc} {ls : Array Slot} (C : CX p s m args meth c cX9_put 4 RX9 wc_X9_put (some .int))  (hG : Gd s G A 28 B (entM G B w) X H locs) (hl : lv_has ls 4 [(0, .ref (B + 0)), (1, .int x1), (2, .int x2), (3, .int x3)]) (hf : sh_X9_put x1 x2 x3 w = some out) :
    W p l e rm_X9_put s m args below meth c H locs 0 0 (MQ below (CPost G A 28 B (entM G B out.2) X (some (.int out.1))) args s 0 0 A) (F0 m 0 ls []) := by
  refine lv_iload_n C.1 C.2.1 dX9_put_0 rfl (lv_at hl 1 rfl) ?_
  obtain ⟨v1, hv1, hf⟩ := of_bind hf
  refine r_callS1 C hG hl.1 (As := [.int x1]) (mt_X9_isList l  hv1) (va_cwS 1 C.2.2.2.2.1 (gd_S tg_6_28 tg_6_29 tg_1_10 tg_6_30) rfl rfl rfl cd_X9_isList.2 ⟨Nat.le_of_ble_eq_true rfl, Nat.le_of_ble_eq_true rfl⟩) rfl rfl (Nat.le_of_ble_eq_true rfl) dX9_put_1 (fun H locs hG => ?_)
  rcases of_ite hf with ⟨c2, hf⟩ | ⟨c2, hf⟩
  · refine lv_if_ne (tgt := 9) C.1 C.2.1 dX9_put_4 (by decide) (fun q => absurd c2 q) (fun _ => ?_)
    refine lv_iconst (v := (-1 : Int32)) C.1 C.2.1 dX9_put_7 (by decide) ?_
    obtain rfl := Option.some.inj hf
    exact r_iret C hG dX9_put_8
  · refine lv_if_ne (tgt := 9) C.1 C.2.1 dX9_put_4 (by decide) (fun _ => ?_) (fun q => absurd q c2)
    refine lv_aload_n C.1 C.2.1 dX9_put_9 rfl (lv_at hl 0 rfl) ?_
    refine gf_X9_87 C hG rfl dX9_put_10 ?_
    refine lv_iload_n C.1 C.2.1 dX9_put_13 rfl (lv_at hl 1 rfl) ?_
    obtain ⟨v3, hv3, hf⟩ := of_bind hf
    obtain ⟨bv3, ev3⟩ := of_ldS hv3
    refine r_iald C hG (c0 := 26) (by decide) (entM_I (n := 4) rfl) bv3 dX9_put_14 ?_
    refine r_top ev3 ?_
    rcases of_ite hf with ⟨c4, hf⟩ | ⟨c4, hf⟩
    · refine lv_if_ge (tgt := 21) C.1 C.2.1 dX9_put_15 (by decide) (fun _ => ?_) (fun q => absurd c4 q)
      refine lv_aload_n C.1 C.2.1 dX9_put_21 rfl (lv_at hl 0 rfl) ?_
      refine lv_iload_n C.1 C.2.1 dX9_put_22 rfl (lv_at hl 1 rfl) ?_
      refine lv_iload_n C.1 C.2.1 dX9_put_23 rfl (lv_at hl 2 rfl) ?_
      obtain ⟨v5, hv5, hf⟩ := of_bind hf
      refine r_callV1 C hG hl.1 (c0 := 0) (As := [.int x1, .int x2]) (by decide) (entM_O (n := 35) rfl) rfl (mt_X9_isCell l  hv5) (cwV 2 C.2.2.2.2.1 (gd_V tg_6_39 tg_6_41 tgp_65 tg_1_10 tg_6_42) rfl rfl rfl cd_X9_isCell ⟨Nat.le_of_ble_eq_true rfl, Nat.le_of_ble_eq_true rfl⟩) rfl rfl (Nat.le_of_ble_eq_true rfl) dX9_put_24 (fun H locs hG => ?_)
      rcases of_ite hf with ⟨c6, hf⟩ | ⟨c6, hf⟩
      · refine lv_if_ne (tgt := 33) C.1 C.2.1 dX9_put_27 (by decide) (fun q => absurd c6 q) (fun _ => ?_)
        refine lv_bipush (v := (-13 : Int32)) C.1 C.2.1 dX9_put_30 (by decide) ?_
        obtain rfl := Option.some.inj hf
        exact r_iret C hG dX9_put_32
      · refine lv_if_ne (tgt := 33) C.1 C.2.1 dX9_put_27 (by decide) (fun _ => ?_) (fun q => absurd q c6)
        refine lv_aload_n C.1 C.2.1 dX9_put_33 rfl (lv_at hl 0 rfl) ?_
        refine gf_X9_90 C hG rfl dX9_put_34 ?_
        refine lv_bipush (v := nI 12) C.1 C.2.1 dX9_put_37 (by decide) ?_
        refine lv_iload_n C.1 C.2.1 dX9_put_39 rfl (lv_at hl 1 rfl) ?_
        refine lv_imul C.1 C.2.1 dX9_put_40 ?_
        refine lv_iload_n C.1 C.2.1 dX9_put_41 rfl (lv_at hl 2 rfl) ?_
        refine lv_iadd C.1 C.2.1 dX9_put_42 ?_
        refine lv_iload_n C.1 C.2.1 dX9_put_43 rfl (lv_at hl 3 rfl) ?_
        obtain ⟨w7, hw7, hf⟩ := of_bind hf
        obtain ⟨bw7, ew7⟩ := of_stM hw7
        refine r_iast C hG (c0 := 27) (by decide) (entM_I (n := 48) rfl) bw7 (E' := (entM G B w7)) (by rw [ew7]; exact upM_I (n := 48) rfl) dX9_put_44 (fun H locs hG => ?_)
        refine lv_iconst (v := nI 1) C.1 C.2.1 dX9_put_45 (by decide) ?_
        obtain rfl := Option.some.inj hf
        exact r_iret C hG dX9_put_46
    · refine lv_if_ge (tgt := 21) C.1 C.2.1 dX9_put_15 (by decide) (fun q => absurd q c4) (fun _ => ?_)
      refine lv_bipush (v := (-11 : Int32)) C.1 C.2.1 dX9_put_18 (by decide) ?_
      obtain rfl := Option.some.inj hf
      exact r_iret C hG dX9_put_20
set_option maxRecDepth 100000 in
set_option maxHeartbeats 4000000 in
theorem mt_X9_put (l : Launch) {G : GG} {A : Nat → Prop} {B : Nat} {X : va_W} {x1 : Int32} {x2 : Int32} {x3 : Int32} {w : Mem} {out : Int32 × Mem}  (hf : sh_X9_put x1 x2 x3 w = some out) : MetW l yX9_put wc_X9_put rm_X9_put G A 28 B (entM G B w) X [.ref (B + 0), .int x1, .int x2, .int x3] (some (.int out.1)) (entM G B out.2) := by
  refine Met.ofW (cc := cX9_put) (maxL := 4) (ret := (some .int)) (by decide) rfl ?_
  intro p e s m args below meth c s₁ B0 hml hv
  obtain ⟨rfl, hEv, hWd⟩ := hv
  have C : CX p s m _ meth c cX9_put 4 RX9 wc_X9_put (some .int) := ⟨B0.exec, B0.bytes, hml, findClass_of_methodNamed B0.named, atoms_spec (ws := wc_X9_put) B0.pre, B0.returns, B0.notSynchronized⟩
  have hl := lv_entry [.ref (B + 0), .int x1, .int x2, .int x3] (n := 4) (Nat.le_of_ble_eq_true rfl)
  rw [lg_entry_eq]
  generalize (lg_sl [.ref (B + 0), .int x1, .int x2, .int x3] ++ List.replicate (4 - (lg_sl [.ref (B + 0), .int x1, .int x2, .int x3]).length) Slot.unset).toArray = ls at hl ⊢
  have hl : lv_has ls 4 [(0, .ref (B + 0)), (1, .int x1), (2, .int x2), (3, .int x3)] := hl
  exact kb_X9_put_0 C  ⟨hEv, hWd, va_S.rf⟩ hl hf
abbrev wc_X9_get : List Cond := Cond.code yX9_get cX9_get 3 (some .long) :: TG
abbrev rm_X9_get : Room := { frames := 4, cells := 0, slots := 0, locals := 147 }
theorem cd_X9_get : yX9_get.cls = RX9 ∧ yX9_get.cls ≠ "java/lang/invoke/MethodHandle" ∧ yX9_get.cls ≠ "java/lang/invoke/VarHandle" ∧ (parseMethodDescriptor yX9_get.desc).map (fun d => d.parameters.length) = some 2 := by decide +kernel
theorem dX9_get_0 : decode cX9_get 0 = .ok (.iload_n 1, 1) := by decide +kernel
theorem dX9_get_1 : decode cX9_get 1 = .ok (.invokestatic 306, 3) := by decide +kernel
theorem dX9_get_4 : decode cX9_get 4 = .ok (.ifCond .eq 27, 3) := by decide +kernel
theorem dX9_get_7 : decode cX9_get 7 = .ok (.aload_n 0, 1) := by decide +kernel
theorem dX9_get_8 : decode cX9_get 8 = .ok (.iload_n 1, 1) := by decide +kernel
theorem dX9_get_9 : decode cX9_get 9 = .ok (.iload_n 2, 1) := by decide +kernel
theorem dX9_get_10 : decode cX9_get 10 = .ok (.invokevirtual 309, 3) := by decide +kernel
theorem dX9_get_13 : decode cX9_get 13 = .ok (.ifCond .eq 18, 3) := by decide +kernel
theorem dX9_get_16 : decode cX9_get 16 = .ok (.aload_n 0, 1) := by decide +kernel
theorem dX9_get_17 : decode cX9_get 17 = .ok (.getfield 90, 3) := by decide +kernel
theorem dX9_get_20 : decode cX9_get 20 = .ok (.bipush 12, 2) := by decide +kernel
theorem dX9_get_22 : decode cX9_get 22 = .ok (.iload_n 1, 1) := by decide +kernel
theorem dX9_get_23 : decode cX9_get 23 = .ok (.imul, 1) := by decide +kernel
theorem dX9_get_24 : decode cX9_get 24 = .ok (.iload_n 2, 1) := by decide +kernel
theorem dX9_get_25 : decode cX9_get 25 = .ok (.iadd, 1) := by decide +kernel
theorem dX9_get_26 : decode cX9_get 26 = .ok (.iaload, 1) := by decide +kernel
theorem dX9_get_27 : decode cX9_get 27 = .ok (.i2l, 1) := by decide +kernel
theorem dX9_get_28 : decode cX9_get 28 = .ok (.goto 6, 3) := by decide +kernel
theorem dX9_get_31 : decode cX9_get 31 = .ok (.ldc2_w 298, 3) := by decide +kernel
theorem dX9_get_34 : decode cX9_get 34 = .ok (.lreturn, 1) := by decide +kernel
set_option maxRecDepth 100000 in
set_option maxHeartbeats 4000000 in
theorem kb_X9_get_0 {x1 : Int32} {x2 : Int32} {w : Mem} {out : Int64} {H : Heap} {locs : List Loc} {ls : Array Slot} (C : CX p s m args meth c cX9_get 3 RX9 wc_X9_get (some .long))  (hG : Gd s G A 28 B (entM G B w) X H locs) (hl : lv_has ls 3 [(0, .ref (B + 0)), (1, .int x1), (2, .int x2)]) (hf : sh_X9_get x1 x2 w = some out) :
    W p l e rm_X9_get s m args below meth c H locs 0 0 (MQ below (CPost G A 28 B (entM G B w) X (some (.long out))) args s 0 0 A) (F0 m 0 ls []) := by
  refine lv_iload_n C.1 C.2.1 dX9_get_0 rfl (lv_at hl 1 rfl) ?_
  obtain ⟨v1, hv1, hf⟩ := of_bind hf
  refine r_callS1 C hG hl.1 (As := [.int x1]) (mt_X9_isList l  hv1) (va_cwS 1 C.2.2.2.2.1 (gd_S tg_6_28 tg_6_29 tg_1_10 tg_6_30) rfl rfl rfl cd_X9_isList.2 ⟨Nat.le_of_ble_eq_true rfl, Nat.le_of_ble_eq_true rfl⟩) rfl rfl (Nat.le_of_ble_eq_true rfl) dX9_get_1 (fun H locs hG => ?_)
  rcases of_ite hf with ⟨c2, hf⟩ | ⟨c2, hf⟩
  · refine lv_if_eq (tgt := 31) C.1 C.2.1 dX9_get_4 (by decide) (fun _ => ?_) (fun q => absurd c2 q)
    refine lv_ldc2 (v := (-9223372036854775808 : Int64)) C.1 C.2.1 C.2.2.2.1 (C.2.2.2.2.1 _ (List.mem_cons_of_mem _ tg_6_0)) dX9_get_31 ?_
    obtain rfl := Option.some.inj hf
    exact r_lret C hG dX9_get_34
  · refine lv_if_eq (tgt := 31) C.1 C.2.1 dX9_get_4 (by decide) (fun q => absurd q c2) (fun _ => ?_)
    refine lv_aload_n C.1 C.2.1 dX9_get_7 rfl (lv_at hl 0 rfl) ?_
    refine lv_iload_n C.1 C.2.1 dX9_get_8 rfl (lv_at hl 1 rfl) ?_
    refine lv_iload_n C.1 C.2.1 dX9_get_9 rfl (lv_at hl 2 rfl) ?_
    obtain ⟨v3, hv3, hf⟩ := of_bind hf
    refine r_callV1 C hG hl.1 (c0 := 0) (As := [.int x1, .int x2]) (by decide) (entM_O (n := 35) rfl) rfl (mt_X9_isCell l  hv3) (cwV 2 C.2.2.2.2.1 (gd_V tg_6_39 tg_6_41 tgp_65 tg_1_10 tg_6_42) rfl rfl rfl cd_X9_isCell ⟨Nat.le_of_ble_eq_true rfl, Nat.le_of_ble_eq_true rfl⟩) rfl rfl (Nat.le_of_ble_eq_true rfl) dX9_get_10 (fun H locs hG => ?_)
    rcases of_ite hf with ⟨c4, hf⟩ | ⟨c4, hf⟩
    · refine lv_if_eq (tgt := 31) C.1 C.2.1 dX9_get_13 (by decide) (fun _ => ?_) (fun q => absurd c4 q)
      refine lv_ldc2 (v := (-9223372036854775808 : Int64)) C.1 C.2.1 C.2.2.2.1 (C.2.2.2.2.1 _ (List.mem_cons_of_mem _ tg_6_0)) dX9_get_31 ?_
      obtain rfl := Option.some.inj hf
      exact r_lret C hG dX9_get_34
    · refine lv_if_eq (tgt := 31) C.1 C.2.1 dX9_get_13 (by decide) (fun q => absurd q c4) (fun _ => ?_)
      refine lv_aload_n C.1 C.2.1 dX9_get_16 rfl (lv_at hl 0 rfl) ?_
      refine gf_X9_90 C hG rfl dX9_get_17 ?_
      refine lv_bipush (v := nI 12) C.1 C.2.1 dX9_get_20 (by decide) ?_
      refine lv_iload_n C.1 C.2.1 dX9_get_22 rfl (lv_at hl 1 rfl) ?_
      refine lv_imul C.1 C.2.1 dX9_get_23 ?_
      refine lv_iload_n C.1 C.2.1 dX9_get_24 rfl (lv_at hl 2 rfl) ?_
      refine lv_iadd C.1 C.2.1 dX9_get_25 ?_
      obtain ⟨v5, hv5, hf⟩ := of_bind hf
      obtain ⟨bv5, ev5⟩ := of_ldS hv5
      refine r_iald C hG (c0 := 27) (by decide) (entM_I (n := 48) rfl) bv5 dX9_get_26 ?_
      refine r_top ev5 ?_
      refine lv_i2l C.1 C.2.1 dX9_get_27 rfl ?_
      refine lv_goto (tgt := 34) C.1 C.2.1 dX9_get_28 (by decide) ?_
      obtain rfl := Option.some.inj hf
      exact r_lret C hG dX9_get_34
set_option maxRecDepth 100000 in
set_option maxHeartbeats 4000000 in
theorem mt_X9_get (l : Launch) {G : GG} {A : Nat → Prop} {B : Nat} {X : va_W} {x1 : Int32} {x2 : Int32} {w : Mem} {out : Int64}  (hf : sh_X9_get x1 x2 w = some out) : MetW l yX9_get wc_X9_get rm_X9_get G A 28 B (entM G B w) X [.ref (B + 0), .int x1, .int x2] (some (.long out)) (entM G B w) := by
  refine Met.ofW (cc := cX9_get) (maxL := 3) (ret := (some .long)) (by decide) rfl ?_
  intro p e s m args below meth c s₁ B0 hml hv
  obtain ⟨rfl, hEv, hWd⟩ := hv
  have C : CX p s m _ meth c cX9_get 3 RX9 wc_X9_get (some .long) := ⟨B0.exec, B0.bytes, hml, findClass_of_methodNamed B0.named, atoms_spec (ws := wc_X9_get) B0.pre, B0.returns, B0.notSynchronized⟩
  have hl := lv_entry [.ref (B + 0), .int x1, .int x2] (n := 3) (Nat.le_of_ble_eq_true rfl)
  rw [lg_entry_eq]
  generalize (lg_sl [.ref (B + 0), .int x1, .int x2] ++ List.replicate (3 - (lg_sl [.ref (B + 0), .int x1, .int x2]).length) Slot.unset).toArray = ls at hl ⊢
  have hl : lv_has ls 3 [(0, .ref (B + 0)), (1, .int x1), (2, .int x2)] := hl
  exact kb_X9_get_0 C  ⟨hEv, hWd, va_S.rf⟩ hl hf
abbrev wc_X9_image : List Cond := Cond.code yX9_image cX9_image 2 (some .int) :: TG
abbrev rm_X9_image : Room := { frames := 2, cells := 0, slots := 0, locals := 100 }
theorem cd_X9_image : yX9_image.cls = RX9 ∧ yX9_image.cls ≠ "java/lang/invoke/MethodHandle" ∧ yX9_image.cls ≠ "java/lang/invoke/VarHandle" ∧ (parseMethodDescriptor yX9_image.desc).map (fun d => d.parameters.length) = some 0 := by decide +kernel
theorem dX9_image_0 : decode cX9_image 0 = .ok (.iconst 0, 1) := by decide +kernel
theorem dX9_image_1 : decode cX9_image 1 = .ok (.istore_n 1, 1) := by decide +kernel
theorem dX9_image_2 : decode cX9_image 2 = .ok (.iload_n 1, 1) := by decide +kernel
theorem dX9_image_3 : decode cX9_image 3 = .ok (.sipush 130, 3) := by decide +kernel
theorem dX9_image_6 : decode cX9_image 6 = .ok (.if_icmp .ge 21, 3) := by decide +kernel
theorem dX9_image_9 : decode cX9_image 9 = .ok (.aload_n 0, 1) := by decide +kernel
theorem dX9_image_10 : decode cX9_image 10 = .ok (.getfield 15, 3) := by decide +kernel
theorem dX9_image_13 : decode cX9_image 13 = .ok (.iload_n 1, 1) := by decide +kernel
theorem dX9_image_14 : decode cX9_image 14 = .ok (.aload_n 0, 1) := by decide +kernel
theorem dX9_image_15 : decode cX9_image 15 = .ok (.getfield 11, 3) := by decide +kernel
theorem dX9_image_18 : decode cX9_image 18 = .ok (.iload_n 1, 1) := by decide +kernel
theorem dX9_image_19 : decode cX9_image 19 = .ok (.iaload, 1) := by decide +kernel
theorem dX9_image_20 : decode cX9_image 20 = .ok (.iastore, 1) := by decide +kernel
theorem dX9_image_21 : decode cX9_image 21 = .ok (.iinc 1 1, 3) := by decide +kernel
theorem dX9_image_24 : decode cX9_image 24 = .ok (.goto (-22), 3) := by decide +kernel
theorem dX9_image_27 : decode cX9_image 27 = .ok (.aload_n 0, 1) := by decide +kernel
theorem dX9_image_28 : decode cX9_image 28 = .ok (.iconst 1, 1) := by decide +kernel
theorem dX9_image_29 : decode cX9_image 29 = .ok (.putfield 312, 3) := by decide +kernel
theorem dX9_image_32 : decode cX9_image 32 = .ok (.aload_n 0, 1) := by decide +kernel
theorem dX9_image_33 : decode cX9_image 33 = .ok (.getfield 11, 3) := by decide +kernel
theorem dX9_image_36 : decode cX9_image 36 = .ok (.iconst 0, 1) := by decide +kernel
theorem dX9_image_37 : decode cX9_image 37 = .ok (.iaload, 1) := by decide +kernel
theorem dX9_image_38 : decode cX9_image 38 = .ok (.ireturn, 1) := by decide +kernel
set_option maxRecDepth 100000 in
set_option maxHeartbeats 4000000 in
theorem kb_X9_image_2  {st : Int32 × Mem} {r : (Int32 × Mem) ⊕ ((Mem))} {H : Heap} {locs : List Loc} {ls : Array Slot} (C : CX p s m args meth c cX9_image 2 RX9 wc_X9_image (some .int))  (hG : Gd s G A 28 B (entM G B st.2) X H locs) (hl : lv_has ls 2 [(0, .ref (B + 0)), (1, .int st.1)]) (hf : sh_X9_image_s2  st = some r)
    (kL : ∀ st' : Int32 × Mem, r = Sum.inl st' → ∀ (H : Heap) (locs : List Loc) (ls : Array Slot), Gd s G A 28 B (entM G B st'.2) X H locs → lv_has ls 2 [(0, .ref (B + 0)), (1, .int st'.1)] → W p l e rm_X9_image s m args below meth c H locs 0 0 Q (F0 m 2 ls []))
    (kX0 : ∀ y' : Mem, r = Sum.inr y' → ∀ (H : Heap) (locs : List Loc) (ls : Array Slot), Gd s G A 28 B (entM G B y') X H locs → lv_has ls 2 [(0, .ref (B + 0))] → W p l e rm_X9_image s m args below meth c H locs 0 0 Q (F0 m 27 ls [])) :
    W p l e rm_X9_image s m args below meth c H locs 0 0 Q (F0 m 2 ls []) := by
  refine lv_iload_n C.1 C.2.1 dX9_image_2 rfl (lv_at hl 1 rfl) ?_
  refine lv_sipush (v := nI 130) C.1 C.2.1 dX9_image_3 (by decide) ?_
  rcases of_ite hf with ⟨c1, hf⟩ | ⟨c1, hf⟩
  · refine lv_icmp_ge (tgt := 27) C.1 C.2.1 dX9_image_6 (by decide) (fun _ => ?_) (fun q => absurd c1 q)
    obtain rfl := Option.some.inj hf
    exact kX0 _ rfl _ _ _ hG (lv_sub hl [0] rfl)
  · refine lv_icmp_ge (tgt := 27) C.1 C.2.1 dX9_image_6 (by decide) (fun q => absurd q c1) (fun _ => ?_)
    refine lv_aload_n C.1 C.2.1 dX9_image_9 rfl (lv_at hl 0 rfl) ?_
    refine gf_X9_15 C hG rfl dX9_image_10 ?_
    refine lv_iload_n C.1 C.2.1 dX9_image_13 rfl (lv_at hl 1 rfl) ?_
    refine lv_aload_n C.1 C.2.1 dX9_image_14 rfl (lv_at hl 0 rfl) ?_
    refine gf_X9_11 C hG rfl dX9_image_15 ?_
    refine lv_iload_n C.1 C.2.1 dX9_image_18 rfl (lv_at hl 1 rfl) ?_
    obtain ⟨v2, hv2, hf⟩ := of_bind hf
    obtain ⟨bv2, ev2⟩ := of_ldS hv2
    refine r_iald C hG (c0 := 1) (by decide) (entM_I (n := 130) rfl) bv2 dX9_image_19 ?_
    refine r_top ev2 ?_
    obtain ⟨w3, hw3, hf⟩ := of_bind hf
    obtain ⟨bw3, ew3⟩ := of_stM hw3
    refine r_iast C hG (c0 := 2) (by decide) (entM_I (n := 130) rfl) bw3 (E' := (entM G B w3)) (by rw [ew3]; exact upM_I (n := 130) rfl) dX9_image_20 (fun H locs hG => ?_)
    obtain ⟨v4, ev4, hf⟩ := of_letv hf
    refine lv_iinc (v := v4) (lv' := [(1, .int v4), (0, .ref (B + 0))]) C.1 C.2.1 dX9_image_21 hl (k := 1) rfl (by rw [ev4, show Int32.ofInt (1) = nI 1 from by decide]) (by decide) rfl (fun ls hl => ?_)
    refine lv_goto (tgt := 2) C.1 C.2.1 dX9_image_24 (by decide) ?_
    obtain rfl := Option.some.inj hf
    exact kL _ rfl _ _ _ hG (lv_sub hl [1, 0] rfl)
set_option maxRecDepth 100000 in
set_option maxHeartbeats 4000000 in
theorem kl_X9_image_2  (C : CX p s m args meth c cX9_image 2 RX9 wc_X9_image (some .int))  : ∀ (n : Nat) (st : Int32 × Mem) (x : (Mem)) (H : Heap) (locs : List Loc) (ls : Array Slot), Gd s G A 28 B (entM G B st.2) X H locs → lv_has ls 2 [(0, .ref (B + 0)), (1, .int st.1)] → lpw (sh_X9_image_s2 ) n st = some x →
    (∀ y' : Mem, x = y' → ∀ (H : Heap) (locs : List Loc) (ls : Array Slot), Gd s G A 28 B (entM G B y') X H locs → lv_has ls 2 [(0, .ref (B + 0))] → W p l e rm_X9_image s m args below meth c H locs 0 0 Q (F0 m 27 ls [])) → W p l e rm_X9_image s m args below meth c H locs 0 0 Q (F0 m 2 ls []) := by
  intro n
  induction n with
  | zero =>
    intro st x H locs ls hG hl hf
    cases hf
  | succ n ih =>
    intro st x H locs ls hG hl hf kX0
    obtain ⟨r, hr, hh⟩ := of_lpw hf
    refine kb_X9_image_2 C  hG hl hr (fun st2 e1 H locs ls hG hl => ?_) (fun y2 e1 H locs ls hG hl => ?_)
    · rcases hh with ⟨s3, e2, hh⟩ | e2
      · rw [e2] at e1
        cases e1
        exact ih _ _ _ _ _ hG hl hh kX0
      · rw [e2] at e1
        cases e1
    · rcases hh with ⟨s3, e2, hh⟩ | e2
      · rw [e2] at e1
        cases e1
      · rw [e2] at e1
        cases e1
        exact kX0 _ rfl _ _ _ hG hl
set_option maxRecDepth 100000 in
set_option maxHeartbeats 4000000 in
theorem kb_X9_image_0 {w : Mem} {out : Int32 × Mem} {H : Heap} {locs : List Loc} {ls : Array Slot} (C : CX p s m args meth c cX9_image 2 RX9 wc_X9_image (some .int))  (hG : Gd s G A 28 B (entM G B w) X H locs) (hl : lv_has ls 2 [(0, .ref (B + 0))]) (hf : sh_X9_image w = some out) :
    W p l e rm_X9_image s m args below meth c H locs 0 0 (MQ below (CPost G A 28 B (entM G B out.2) X (some (.int out.1))) args s 0 0 A) (F0 m 0 ls []) := by
  refine lv_iconst (v := nI 0) C.1 C.2.1 dX9_image_0 (by decide) ?_
  refine lv_istore_n (lv' := [(1, .int (nI 0)), (0, .ref (B + 0))]) C.1 C.2.1 dX9_image_1 rfl hl (by decide) rfl (fun ls hl => ?_)
  obtain ⟨ex1, hex1, hf⟩ := of_bind hf
  refine kl_X9_image_2 C  FU (nI 0, w) ex1 _ _ _ hG (lv_sub hl [1, 0] rfl) hex1 (fun y e0 H locs ls hG hl => ?_)
  subst e0
  refine lv_aload_n C.1 C.2.1 dX9_image_27 rfl (lv_at hl 0 rfl) ?_
  refine lv_iconst (v := nI 1) C.1 C.2.1 dX9_image_28 (by decide) ?_
  obtain ⟨w2, ew2, hf⟩ := of_letv hf
  refine pf_X9_312 C hG (Or.inr rfl) rfl dX9_image_29 (fun H locs hG => ?_)
  rw [← ew2] at hG
  refine lv_aload_n C.1 C.2.1 dX9_image_32 rfl (lv_at hl 0 rfl) ?_
  refine gf_X9_11 C hG rfl dX9_image_33 ?_
  refine lv_iconst (v := nI 0) C.1 C.2.1 dX9_image_36 (by decide) ?_
  obtain ⟨v3, hv3, hf⟩ := of_bind hf
  obtain ⟨bv3, ev3⟩ := of_ldS hv3
  refine r_iald C hG (c0 := 1) (by decide) (entM_I (n := 130) rfl) bv3 dX9_image_37 ?_
  refine r_top ev3 ?_
  obtain rfl := Option.some.inj hf
  exact r_iret C hG dX9_image_38
set_option maxRecDepth 100000 in
set_option maxHeartbeats 4000000 in
theorem mt_X9_image (l : Launch) {G : GG} {A : Nat → Prop} {B : Nat} {X : va_W} {w : Mem} {out : Int32 × Mem}  (hf : sh_X9_image w = some out) : MetW l yX9_image wc_X9_image rm_X9_image G A 28 B (entM G B w) X [.ref (B + 0)] (some (.int out.1)) (entM G B out.2) := by
  refine Met.ofW (cc := cX9_image) (maxL := 2) (ret := (some .int)) (by decide) rfl ?_
  intro p e s m args below meth c s₁ B0 hml hv
  obtain ⟨rfl, hEv, hWd⟩ := hv
  have C : CX p s m _ meth c cX9_image 2 RX9 wc_X9_image (some .int) := ⟨B0.exec, B0.bytes, hml, findClass_of_methodNamed B0.named, atoms_spec (ws := wc_X9_image) B0.pre, B0.returns, B0.notSynchronized⟩
  have hl := lv_entry [.ref (B + 0)] (n := 2) (Nat.le_of_ble_eq_true rfl)
  rw [lg_entry_eq]
  generalize (lg_sl [.ref (B + 0)] ++ List.replicate (2 - (lg_sl [.ref (B + 0)]).length) Slot.unset).toArray = ls at hl ⊢
  have hl : lv_has ls 2 [(0, .ref (B + 0))] := hl
  exact kb_X9_image_0 C  ⟨hEv, hWd, va_S.rf⟩ hl hf
abbrev wc_X9_undo : List Cond := Cond.code yX9_undo cX9_undo 2 (some .int) :: TG
abbrev rm_X9_undo : Room := { frames := 2, cells := 0, slots := 0, locals := 100 }
theorem cd_X9_undo : yX9_undo.cls = RX9 ∧ yX9_undo.cls ≠ "java/lang/invoke/MethodHandle" ∧ yX9_undo.cls ≠ "java/lang/invoke/VarHandle" ∧ (parseMethodDescriptor yX9_undo.desc).map (fun d => d.parameters.length) = some 0 := by decide +kernel
theorem dX9_undo_0 : decode cX9_undo 0 = .ok (.aload_n 0, 1) := by decide +kernel
theorem dX9_undo_1 : decode cX9_undo 1 = .ok (.getfield 312, 3) := by decide +kernel
theorem dX9_undo_4 : decode cX9_undo 4 = .ok (.ifCond .ne 6, 3) := by decide +kernel
theorem dX9_undo_7 : decode cX9_undo 7 = .ok (.bipush (-3), 2) := by decide +kernel
theorem dX9_undo_9 : decode cX9_undo 9 = .ok (.ireturn, 1) := by decide +kernel
theorem dX9_undo_10 : decode cX9_undo 10 = .ok (.iconst 0, 1) := by decide +kernel
theorem dX9_undo_11 : decode cX9_undo 11 = .ok (.istore_n 1, 1) := by decide +kernel
theorem dX9_undo_12 : decode cX9_undo 12 = .ok (.iload_n 1, 1) := by decide +kernel
theorem dX9_undo_13 : decode cX9_undo 13 = .ok (.sipush 130, 3) := by decide +kernel
theorem dX9_undo_16 : decode cX9_undo 16 = .ok (.if_icmp .ge 21, 3) := by decide +kernel
theorem dX9_undo_19 : decode cX9_undo 19 = .ok (.aload_n 0, 1) := by decide +kernel
theorem dX9_undo_20 : decode cX9_undo 20 = .ok (.getfield 11, 3) := by decide +kernel
theorem dX9_undo_23 : decode cX9_undo 23 = .ok (.iload_n 1, 1) := by decide +kernel
theorem dX9_undo_24 : decode cX9_undo 24 = .ok (.aload_n 0, 1) := by decide +kernel
theorem dX9_undo_25 : decode cX9_undo 25 = .ok (.getfield 15, 3) := by decide +kernel
theorem dX9_undo_28 : decode cX9_undo 28 = .ok (.iload_n 1, 1) := by decide +kernel
theorem dX9_undo_29 : decode cX9_undo 29 = .ok (.iaload, 1) := by decide +kernel
theorem dX9_undo_30 : decode cX9_undo 30 = .ok (.iastore, 1) := by decide +kernel
theorem dX9_undo_31 : decode cX9_undo 31 = .ok (.iinc 1 1, 3) := by decide +kernel
theorem dX9_undo_34 : decode cX9_undo 34 = .ok (.goto (-22), 3) := by decide +kernel
theorem dX9_undo_37 : decode cX9_undo 37 = .ok (.aload_n 0, 1) := by decide +kernel
theorem dX9_undo_38 : decode cX9_undo 38 = .ok (.getfield 11, 3) := by decide +kernel
theorem dX9_undo_41 : decode cX9_undo 41 = .ok (.iconst 0, 1) := by decide +kernel
theorem dX9_undo_42 : decode cX9_undo 42 = .ok (.iaload, 1) := by decide +kernel
theorem dX9_undo_43 : decode cX9_undo 43 = .ok (.ireturn, 1) := by decide +kernel
set_option maxRecDepth 100000 in
set_option maxHeartbeats 4000000 in
theorem kb_X9_undo_12  {st : Int32 × Mem} {r : (Int32 × Mem) ⊕ ((Mem))} {H : Heap} {locs : List Loc} {ls : Array Slot} (C : CX p s m args meth c cX9_undo 2 RX9 wc_X9_undo (some .int))  (hG : Gd s G A 28 B (entM G B st.2) X H locs) (hl : lv_has ls 2 [(0, .ref (B + 0)), (1, .int st.1)]) (hf : sh_X9_undo_s12  st = some r)
    (kL : ∀ st' : Int32 × Mem, r = Sum.inl st' → ∀ (H : Heap) (locs : List Loc) (ls : Array Slot), Gd s G A 28 B (entM G B st'.2) X H locs → lv_has ls 2 [(0, .ref (B + 0)), (1, .int st'.1)] → W p l e rm_X9_undo s m args below meth c H locs 0 0 Q (F0 m 12 ls []))
    (kX0 : ∀ y' : Mem, r = Sum.inr y' → ∀ (H : Heap) (locs : List Loc) (ls : Array Slot), Gd s G A 28 B (entM G B y') X H locs → lv_has ls 2 [(0, .ref (B + 0))] → W p l e rm_X9_undo s m args below meth c H locs 0 0 Q (F0 m 37 ls [])) :
    W p l e rm_X9_undo s m args below meth c H locs 0 0 Q (F0 m 12 ls []) := by
  refine lv_iload_n C.1 C.2.1 dX9_undo_12 rfl (lv_at hl 1 rfl) ?_
  refine lv_sipush (v := nI 130) C.1 C.2.1 dX9_undo_13 (by decide) ?_
  rcases of_ite hf with ⟨c1, hf⟩ | ⟨c1, hf⟩
  · refine lv_icmp_ge (tgt := 37) C.1 C.2.1 dX9_undo_16 (by decide) (fun _ => ?_) (fun q => absurd c1 q)
    obtain rfl := Option.some.inj hf
    exact kX0 _ rfl _ _ _ hG (lv_sub hl [0] rfl)
  · refine lv_icmp_ge (tgt := 37) C.1 C.2.1 dX9_undo_16 (by decide) (fun q => absurd q c1) (fun _ => ?_)
    refine lv_aload_n C.1 C.2.1 dX9_undo_19 rfl (lv_at hl 0 rfl) ?_
    refine gf_X9_11 C hG rfl dX9_undo_20 ?_
    refine lv_iload_n C.1 C.2.1 dX9_undo_23 rfl (lv_at hl 1 rfl) ?_
    refine lv_aload_n C.1 C.2.1 dX9_undo_24 rfl (lv_at hl 0 rfl) ?_
    refine gf_X9_15 C hG rfl dX9_undo_25 ?_
    refine lv_iload_n C.1 C.2.1 dX9_undo_28 rfl (lv_at hl 1 rfl) ?_
    obtain ⟨v2, hv2, hf⟩ := of_bind hf
    obtain ⟨bv2, ev2⟩ := of_ldS hv2
    refine r_iald C hG (c0 := 2) (by decide) (entM_I (n := 130) rfl) bv2 dX9_undo_29 ?_
    refine r_top ev2 ?_
    obtain ⟨w3, hw3, hf⟩ := of_bind hf
    obtain ⟨bw3, ew3⟩ := of_stM hw3
    refine r_iast C hG (c0 := 1) (by decide) (entM_I (n := 130) rfl) bw3 (E' := (entM G B w3)) (by rw [ew3]; exact upM_I (n := 130) rfl) dX9_undo_30 (fun H locs hG => ?_)
    obtain ⟨v4, ev4, hf⟩ := of_letv hf
    refine lv_iinc (v := v4) (lv' := [(1, .int v4), (0, .ref (B + 0))]) C.1 C.2.1 dX9_undo_31 hl (k := 1) rfl (by rw [ev4, show Int32.ofInt (1) = nI 1 from by decide]) (by decide) rfl (fun ls hl => ?_)
    refine lv_goto (tgt := 12) C.1 C.2.1 dX9_undo_34 (by decide) ?_
    obtain rfl := Option.some.inj hf
    exact kL _ rfl _ _ _ hG (lv_sub hl [1, 0] rfl)
set_option maxRecDepth 100000 in
set_option maxHeartbeats 4000000 in
theorem kl_X9_undo_12  (C : CX p s m args meth c cX9_undo 2 RX9 wc_X9_undo (some .int))  : ∀ (n : Nat) (st : Int32 × Mem) (x : (Mem)) (H : Heap) (locs : List Loc) (ls : Array Slot), Gd s G A 28 B (entM G B st.2) X H locs → lv_has ls 2 [(0, .ref (B + 0)), (1, .int st.1)] → lpw (sh_X9_undo_s12 ) n st = some x →
    (∀ y' : Mem, x = y' → ∀ (H : Heap) (locs : List Loc) (ls : Array Slot), Gd s G A 28 B (entM G B y') X H locs → lv_has ls 2 [(0, .ref (B + 0))] → W p l e rm_X9_undo s m args below meth c H locs 0 0 Q (F0 m 37 ls [])) → W p l e rm_X9_undo s m args below meth c H locs 0 0 Q (F0 m 12 ls []) := by
  intro n
  induction n with
  | zero =>
    intro st x H locs ls hG hl hf
    cases hf
  | succ n ih =>
    intro st x H locs ls hG hl hf kX0
    obtain ⟨r, hr, hh⟩ := of_lpw hf
    refine kb_X9_undo_12 C  hG hl hr (fun st2 e1 H locs ls hG hl => ?_) (fun y2 e1 H locs ls hG hl => ?_)
    · rcases hh with ⟨s3, e2, hh⟩ | e2
      · rw [e2] at e1
        cases e1
        exact ih _ _ _ _ _ hG hl hh kX0
      · rw [e2] at e1
        cases e1
    · rcases hh with ⟨s3, e2, hh⟩ | e2
      · rw [e2] at e1
        cases e1
      · rw [e2] at e1
        cases e1
        exact kX0 _ rfl _ _ _ hG hl
set_option maxRecDepth 100000 in
set_option maxHeartbeats 4000000 in
theorem kb_X9_undo_0 {w : Mem} {out : Int32 × Mem} {H : Heap} {locs : List Loc} {ls : Array Slot} (C : CX p s m args meth c cX9_undo 2 RX9 wc_X9_undo (some .int))  (hG : Gd s G A 28 B (entM G B w) X H locs) (hl : lv_has ls 2 [(0, .ref (B + 0))]) (hf : sh_X9_undo w = some out) :
    W p l e rm_X9_undo s m args below meth c H locs 0 0 (MQ below (CPost G A 28 B (entM G B out.2) X (some (.int out.1))) args s 0 0 A) (F0 m 0 ls []) := by
  refine lv_aload_n C.1 C.2.1 dX9_undo_0 rfl (lv_at hl 0 rfl) ?_
  refine gf_X9_312 C hG rfl dX9_undo_1 ?_
  rcases of_ite hf with ⟨c1, hf⟩ | ⟨c1, hf⟩
  · refine lv_if_ne (tgt := 10) C.1 C.2.1 dX9_undo_4 (by decide) (fun q => absurd c1 q) (fun _ => ?_)
    refine lv_bipush (v := (-3 : Int32)) C.1 C.2.1 dX9_undo_7 (by decide) ?_
    obtain rfl := Option.some.inj hf
    exact r_iret C hG dX9_undo_9
  · refine lv_if_ne (tgt := 10) C.1 C.2.1 dX9_undo_4 (by decide) (fun _ => ?_) (fun q => absurd q c1)
    refine lv_iconst (v := nI 0) C.1 C.2.1 dX9_undo_10 (by decide) ?_
    refine lv_istore_n (lv' := [(1, .int (nI 0)), (0, .ref (B + 0))]) C.1 C.2.1 dX9_undo_11 rfl hl (by decide) rfl (fun ls hl => ?_)
    obtain ⟨ex2, hex2, hf⟩ := of_bind hf
    refine kl_X9_undo_12 C  FU (nI 0, w) ex2 _ _ _ hG (lv_sub hl [1, 0] rfl) hex2 (fun y e0 H locs ls hG hl => ?_)
    subst e0
    refine lv_aload_n C.1 C.2.1 dX9_undo_37 rfl (lv_at hl 0 rfl) ?_
    refine gf_X9_11 C hG rfl dX9_undo_38 ?_
    refine lv_iconst (v := nI 0) C.1 C.2.1 dX9_undo_41 (by decide) ?_
    obtain ⟨v3, hv3, hf⟩ := of_bind hf
    obtain ⟨bv3, ev3⟩ := of_ldS hv3
    refine r_iald C hG (c0 := 1) (by decide) (entM_I (n := 130) rfl) bv3 dX9_undo_42 ?_
    refine r_top ev3 ?_
    obtain rfl := Option.some.inj hf
    exact r_iret C hG dX9_undo_43
set_option maxRecDepth 100000 in
set_option maxHeartbeats 4000000 in
theorem mt_X9_undo (l : Launch) {G : GG} {A : Nat → Prop} {B : Nat} {X : va_W} {w : Mem} {out : Int32 × Mem}  (hf : sh_X9_undo w = some out) : MetW l yX9_undo wc_X9_undo rm_X9_undo G A 28 B (entM G B w) X [.ref (B + 0)] (some (.int out.1)) (entM G B out.2) := by
  refine Met.ofW (cc := cX9_undo) (maxL := 2) (ret := (some .int)) (by decide) rfl ?_
  intro p e s m args below meth c s₁ B0 hml hv
  obtain ⟨rfl, hEv, hWd⟩ := hv
  have C : CX p s m _ meth c cX9_undo 2 RX9 wc_X9_undo (some .int) := ⟨B0.exec, B0.bytes, hml, findClass_of_methodNamed B0.named, atoms_spec (ws := wc_X9_undo) B0.pre, B0.returns, B0.notSynchronized⟩
  have hl := lv_entry [.ref (B + 0)] (n := 2) (Nat.le_of_ble_eq_true rfl)
  rw [lg_entry_eq]
  generalize (lg_sl [.ref (B + 0)] ++ List.replicate (2 - (lg_sl [.ref (B + 0)]).length) Slot.unset).toArray = ls at hl ⊢
  have hl : lv_has ls 2 [(0, .ref (B + 0))] := hl
  exact kb_X9_undo_0 C  ⟨hEv, hWd, va_S.rf⟩ hl hf
abbrev wc_X9_count : List Cond := Cond.code yX9_count cX9_count 2 (some .int) :: TG
abbrev rm_X9_count : Room := { frames := 2, cells := 0, slots := 0, locals := 100 }
theorem cd_X9_count : yX9_count.cls = RX9 ∧ yX9_count.cls ≠ "java/lang/invoke/MethodHandle" ∧ yX9_count.cls ≠ "java/lang/invoke/VarHandle" ∧ (parseMethodDescriptor yX9_count.desc).map (fun d => d.parameters.length) = some 1 := by decide +kernel
theorem dX9_count_0 : decode cX9_count 0 = .ok (.iload_n 1, 1) := by decide +kernel
theorem dX9_count_1 : decode cX9_count 1 = .ok (.tableswitch 92 0 4 #[35, 42, 74, 79, 84], 35) := by decide +kernel
theorem dX9_count_36 : decode cX9_count 36 = .ok (.aload_n 0, 1) := by decide +kernel
theorem dX9_count_37 : decode cX9_count 37 = .ok (.getfield 11, 3) := by decide +kernel
theorem dX9_count_40 : decode cX9_count 40 = .ok (.iconst 0, 1) := by decide +kernel
theorem dX9_count_41 : decode cX9_count 41 = .ok (.iaload, 1) := by decide +kernel
theorem dX9_count_42 : decode cX9_count 42 = .ok (.ireturn, 1) := by decide +kernel
theorem dX9_count_43 : decode cX9_count 43 = .ok (.aload_n 0, 1) := by decide +kernel
theorem dX9_count_44 : decode cX9_count 44 = .ok (.getfield 11, 3) := by decide +kernel
theorem dX9_count_47 : decode cX9_count 47 = .ok (.bipush 13, 2) := by decide +kernel
theorem dX9_count_49 : decode cX9_count 49 = .ok (.iaload, 1) := by decide +kernel
theorem dX9_count_50 : decode cX9_count 50 = .ok (.aload_n 0, 1) := by decide +kernel
theorem dX9_count_51 : decode cX9_count 51 = .ok (.getfield 11, 3) := by decide +kernel
theorem dX9_count_54 : decode cX9_count 54 = .ok (.bipush 14, 2) := by decide +kernel
theorem dX9_count_56 : decode cX9_count 56 = .ok (.iaload, 1) := by decide +kernel
theorem dX9_count_57 : decode cX9_count 57 = .ok (.iadd, 1) := by decide +kernel
theorem dX9_count_58 : decode cX9_count 58 = .ok (.aload_n 0, 1) := by decide +kernel
theorem dX9_count_59 : decode cX9_count 59 = .ok (.getfield 11, 3) := by decide +kernel
theorem dX9_count_62 : decode cX9_count 62 = .ok (.bipush 15, 2) := by decide +kernel
theorem dX9_count_64 : decode cX9_count 64 = .ok (.iaload, 1) := by decide +kernel
theorem dX9_count_65 : decode cX9_count 65 = .ok (.iadd, 1) := by decide +kernel
theorem dX9_count_66 : decode cX9_count 66 = .ok (.aload_n 0, 1) := by decide +kernel
theorem dX9_count_67 : decode cX9_count 67 = .ok (.getfield 11, 3) := by decide +kernel
theorem dX9_count_70 : decode cX9_count 70 = .ok (.bipush 16, 2) := by decide +kernel
theorem dX9_count_72 : decode cX9_count 72 = .ok (.iaload, 1) := by decide +kernel
theorem dX9_count_73 : decode cX9_count 73 = .ok (.iadd, 1) := by decide +kernel
theorem dX9_count_74 : decode cX9_count 74 = .ok (.ireturn, 1) := by decide +kernel
theorem dX9_count_75 : decode cX9_count 75 = .ok (.aload_n 0, 1) := by decide +kernel
theorem dX9_count_76 : decode cX9_count 76 = .ok (.getfield 185, 3) := by decide +kernel
theorem dX9_count_79 : decode cX9_count 79 = .ok (.ireturn, 1) := by decide +kernel
theorem dX9_count_80 : decode cX9_count 80 = .ok (.aload_n 0, 1) := by decide +kernel
theorem dX9_count_81 : decode cX9_count 81 = .ok (.getfield 303, 3) := by decide +kernel
theorem dX9_count_84 : decode cX9_count 84 = .ok (.ireturn, 1) := by decide +kernel
theorem dX9_count_85 : decode cX9_count 85 = .ok (.aload_n 0, 1) := by decide +kernel
theorem dX9_count_86 : decode cX9_count 86 = .ok (.getfield 11, 3) := by decide +kernel
theorem dX9_count_89 : decode cX9_count 89 = .ok (.bipush 113, 2) := by decide +kernel
theorem dX9_count_91 : decode cX9_count 91 = .ok (.iaload, 1) := by decide +kernel
theorem dX9_count_92 : decode cX9_count 92 = .ok (.ireturn, 1) := by decide +kernel
theorem dX9_count_93 : decode cX9_count 93 = .ok (.bipush (-2), 2) := by decide +kernel
theorem dX9_count_95 : decode cX9_count 95 = .ok (.ireturn, 1) := by decide +kernel
set_option maxRecDepth 100000 in
set_option maxHeartbeats 4000000 in
theorem kb_X9_count_0 {x1 : Int32} {w : Mem} {out : Int32} {H : Heap} {locs : List Loc} {ls : Array Slot} (C : CX p s m args meth c cX9_count 2 RX9 wc_X9_count (some .int))  (hG : Gd s G A 28 B (entM G B w) X H locs) (hl : lv_has ls 2 [(0, .ref (B + 0)), (1, .int x1)]) (hf : sh_X9_count x1 w = some out) :
    W p l e rm_X9_count s m args below meth c H locs 0 0 (MQ below (CPost G A 28 B (entM G B w) X (some (.int out))) args s 0 0 A) (F0 m 0 ls []) := by
  refine lv_iload_n C.1 C.2.1 dX9_count_0 rfl (lv_at hl 1 rfl) ?_
  rcases of_ite hf with ⟨c1, hf⟩ | ⟨c1, hf⟩
  · refine lv_tableIn (tgt := 36) (off := 35) C.1 C.2.1 dX9_count_1 (by rw [c1]; decide) (by rw [c1]; decide) (by rw [c1]; rfl) (by decide) ?_
    refine lv_aload_n C.1 C.2.1 dX9_count_36 rfl (lv_at hl 0 rfl) ?_
    refine gf_X9_11 C hG rfl dX9_count_37 ?_
    refine lv_iconst (v := nI 0) C.1 C.2.1 dX9_count_40 (by decide) ?_
    obtain ⟨v2, hv2, hf⟩ := of_bind hf
    obtain ⟨bv2, ev2⟩ := of_ldS hv2
    refine r_iald C hG (c0 := 1) (by decide) (entM_I (n := 130) rfl) bv2 dX9_count_41 ?_
    refine r_top ev2 ?_
    obtain rfl := Option.some.inj hf
    exact r_iret C hG dX9_count_42
  · skip
    rcases of_ite hf with ⟨c3, hf⟩ | ⟨c3, hf⟩
    · refine lv_tableIn (tgt := 43) (off := 42) C.1 C.2.1 dX9_count_1 (by rw [c3]; decide) (by rw [c3]; decide) (by rw [c3]; rfl) (by decide) ?_
      refine lv_aload_n C.1 C.2.1 dX9_count_43 rfl (lv_at hl 0 rfl) ?_
      refine gf_X9_11 C hG rfl dX9_count_44 ?_
      refine lv_bipush (v := nI 13) C.1 C.2.1 dX9_count_47 (by decide) ?_
      obtain ⟨v4, hv4, hf⟩ := of_bind hf
      obtain ⟨bv4, ev4⟩ := of_ldS hv4
      refine r_iald C hG (c0 := 1) (by decide) (entM_I (n := 130) rfl) bv4 dX9_count_49 ?_
      refine r_top ev4 ?_
      refine lv_aload_n C.1 C.2.1 dX9_count_50 rfl (lv_at hl 0 rfl) ?_
      refine gf_X9_11 C hG rfl dX9_count_51 ?_
      refine lv_bipush (v := nI 14) C.1 C.2.1 dX9_count_54 (by decide) ?_
      obtain ⟨v5, hv5, hf⟩ := of_bind hf
      obtain ⟨bv5, ev5⟩ := of_ldS hv5
      refine r_iald C hG (c0 := 1) (by decide) (entM_I (n := 130) rfl) bv5 dX9_count_56 ?_
      refine r_top ev5 ?_
      refine lv_iadd C.1 C.2.1 dX9_count_57 ?_
      refine lv_aload_n C.1 C.2.1 dX9_count_58 rfl (lv_at hl 0 rfl) ?_
      refine gf_X9_11 C hG rfl dX9_count_59 ?_
      refine lv_bipush (v := nI 15) C.1 C.2.1 dX9_count_62 (by decide) ?_
      obtain ⟨v6, hv6, hf⟩ := of_bind hf
      obtain ⟨bv6, ev6⟩ := of_ldS hv6
      refine r_iald C hG (c0 := 1) (by decide) (entM_I (n := 130) rfl) bv6 dX9_count_64 ?_
      refine r_top ev6 ?_
      refine lv_iadd C.1 C.2.1 dX9_count_65 ?_
      refine lv_aload_n C.1 C.2.1 dX9_count_66 rfl (lv_at hl 0 rfl) ?_
      refine gf_X9_11 C hG rfl dX9_count_67 ?_
      refine lv_bipush (v := nI 16) C.1 C.2.1 dX9_count_70 (by decide) ?_
      obtain ⟨v7, hv7, hf⟩ := of_bind hf
      obtain ⟨bv7, ev7⟩ := of_ldS hv7
      refine r_iald C hG (c0 := 1) (by decide) (entM_I (n := 130) rfl) bv7 dX9_count_72 ?_
      refine r_top ev7 ?_
      refine lv_iadd C.1 C.2.1 dX9_count_73 ?_
      obtain rfl := Option.some.inj hf
      exact r_iret C hG dX9_count_74
    · skip
      rcases of_ite hf with ⟨c8, hf⟩ | ⟨c8, hf⟩
      · refine lv_tableIn (tgt := 75) (off := 74) C.1 C.2.1 dX9_count_1 (by rw [c8]; decide) (by rw [c8]; decide) (by rw [c8]; rfl) (by decide) ?_
        refine lv_aload_n C.1 C.2.1 dX9_count_75 rfl (lv_at hl 0 rfl) ?_
        refine gf_X9_185 C hG rfl dX9_count_76 ?_
        obtain rfl := Option.some.inj hf
        exact r_iret C hG dX9_count_79
      · skip
        rcases of_ite hf with ⟨c9, hf⟩ | ⟨c9, hf⟩
        · refine lv_tableIn (tgt := 80) (off := 79) C.1 C.2.1 dX9_count_1 (by rw [c9]; decide) (by rw [c9]; decide) (by rw [c9]; rfl) (by decide) ?_
          refine lv_aload_n C.1 C.2.1 dX9_count_80 rfl (lv_at hl 0 rfl) ?_
          refine gf_X9_303 C hG rfl dX9_count_81 ?_
          obtain rfl := Option.some.inj hf
          exact r_iret C hG dX9_count_84
        · skip
          rcases of_ite hf with ⟨c10, hf⟩ | ⟨c10, hf⟩
          · refine lv_tableIn (tgt := 85) (off := 84) C.1 C.2.1 dX9_count_1 (by rw [c10]; decide) (by rw [c10]; decide) (by rw [c10]; rfl) (by decide) ?_
            refine lv_aload_n C.1 C.2.1 dX9_count_85 rfl (lv_at hl 0 rfl) ?_
            refine gf_X9_11 C hG rfl dX9_count_86 ?_
            refine lv_bipush (v := nI 113) C.1 C.2.1 dX9_count_89 (by decide) ?_
            obtain ⟨v11, hv11, hf⟩ := of_bind hf
            obtain ⟨bv11, ev11⟩ := of_ldS hv11
            refine r_iald C hG (c0 := 1) (by decide) (entM_I (n := 130) rfl) bv11 dX9_count_91 ?_
            refine r_top ev11 ?_
            obtain rfl := Option.some.inj hf
            exact r_iret C hG dX9_count_92
          · skip
            refine lv_tableOut (tgt := 93) C.1 C.2.1 dX9_count_1 (sw_out (n := 5) (by decide) (lt_s (lt_s (lt_s (lt_s (lt_s lt_0 c1) c3) c8) c9) c10)) (by decide) ?_
            refine lv_bipush (v := (-2 : Int32)) C.1 C.2.1 dX9_count_93 (by decide) ?_
            obtain rfl := Option.some.inj hf
            exact r_iret C hG dX9_count_95
set_option maxRecDepth 100000 in
set_option maxHeartbeats 4000000 in
theorem mt_X9_count (l : Launch) {G : GG} {A : Nat → Prop} {B : Nat} {X : va_W} {x1 : Int32} {w : Mem} {out : Int32}  (hf : sh_X9_count x1 w = some out) : MetW l yX9_count wc_X9_count rm_X9_count G A 28 B (entM G B w) X [.ref (B + 0), .int x1] (some (.int out)) (entM G B w) := by
  refine Met.ofW (cc := cX9_count) (maxL := 2) (ret := (some .int)) (by decide) rfl ?_
  intro p e s m args below meth c s₁ B0 hml hv
  obtain ⟨rfl, hEv, hWd⟩ := hv
  have C : CX p s m _ meth c cX9_count 2 RX9 wc_X9_count (some .int) := ⟨B0.exec, B0.bytes, hml, findClass_of_methodNamed B0.named, atoms_spec (ws := wc_X9_count) B0.pre, B0.returns, B0.notSynchronized⟩
  have hl := lv_entry [.ref (B + 0), .int x1] (n := 2) (Nat.le_of_ble_eq_true rfl)
  rw [lg_entry_eq]
  generalize (lg_sl [.ref (B + 0), .int x1] ++ List.replicate (2 - (lg_sl [.ref (B + 0), .int x1]).length) Slot.unset).toArray = ls at hl ⊢
  have hl : lv_has ls 2 [(0, .ref (B + 0)), (1, .int x1)] := hl
  exact kb_X9_count_0 C  ⟨hEv, hWd, va_S.rf⟩ hl hf
end
