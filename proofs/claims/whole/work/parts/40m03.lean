section
variable {p : Program} {l : Launch} {e : Env} {s : State} {m : MethodId} {args : Array Value} {below : List Frame} {meth : Method} {c : Code} {Q : State → Prop} {G : GG} {A : Nat → Prop} {N B : Nat} {E : Nat → va_E} {X : va_W}
abbrev wc_X9_partAt : List Cond := Cond.code yX9_partAt cX9_partAt 4 (some .int) :: TG
abbrev rm_X9_partAt : Room := { frames := 2, cells := 0, slots := 0, locals := 100 }
theorem cd_X9_partAt : yX9_partAt.cls = RX9 ∧ yX9_partAt.cls ≠ "java/lang/invoke/MethodHandle" ∧ yX9_partAt.cls ≠ "java/lang/invoke/VarHandle" ∧ (parseMethodDescriptor yX9_partAt.desc).map (fun d => d.parameters.length) = some 1 := by decide +kernel
theorem dX9_partAt_0 : decode cX9_partAt 0 = .ok (.iload_n 1, 1) := by decide +kernel
theorem dX9_partAt_1 : decode cX9_partAt 1 = .ok (.istore_n 2, 1) := by decide +kernel
theorem dX9_partAt_2 : decode cX9_partAt 2 = .ok (.iconst 0, 1) := by decide +kernel
theorem dX9_partAt_3 : decode cX9_partAt 3 = .ok (.istore_n 3, 1) := by decide +kernel
theorem dX9_partAt_4 : decode cX9_partAt 4 = .ok (.iload_n 3, 1) := by decide +kernel
theorem dX9_partAt_5 : decode cX9_partAt 5 = .ok (.aload_n 0, 1) := by decide +kernel
theorem dX9_partAt_6 : decode cX9_partAt 6 = .ok (.getfield 217, 3) := by decide +kernel
theorem dX9_partAt_9 : decode cX9_partAt 9 = .ok (.if_icmp .ge 28, 3) := by decide +kernel
theorem dX9_partAt_12 : decode cX9_partAt 12 = .ok (.aload_n 0, 1) := by decide +kernel
theorem dX9_partAt_13 : decode cX9_partAt 13 = .ok (.getfield 54, 3) := by decide +kernel
theorem dX9_partAt_16 : decode cX9_partAt 16 = .ok (.iload_n 3, 1) := by decide +kernel
theorem dX9_partAt_17 : decode cX9_partAt 17 = .ok (.iaload, 1) := by decide +kernel
theorem dX9_partAt_18 : decode cX9_partAt 18 = .ok (.iload_n 3, 1) := by decide +kernel
theorem dX9_partAt_19 : decode cX9_partAt 19 = .ok (.if_icmp .ne 12, 3) := by decide +kernel
theorem dX9_partAt_22 : decode cX9_partAt 22 = .ok (.iload_n 2, 1) := by decide +kernel
theorem dX9_partAt_23 : decode cX9_partAt 23 = .ok (.ifCond .ne 5, 3) := by decide +kernel
theorem dX9_partAt_26 : decode cX9_partAt 26 = .ok (.iload_n 3, 1) := by decide +kernel
theorem dX9_partAt_27 : decode cX9_partAt 27 = .ok (.ireturn, 1) := by decide +kernel
theorem dX9_partAt_28 : decode cX9_partAt 28 = .ok (.iinc 2 (-1), 3) := by decide +kernel
theorem dX9_partAt_31 : decode cX9_partAt 31 = .ok (.iinc 3 1, 3) := by decide +kernel
theorem dX9_partAt_34 : decode cX9_partAt 34 = .ok (.goto (-30), 3) := by decide +kernel
theorem dX9_partAt_37 : decode cX9_partAt 37 = .ok (.iconst (-1), 1) := by decide +kernel
theorem dX9_partAt_38 : decode cX9_partAt 38 = .ok (.ireturn, 1) := by decide +kernel
set_option maxRecDepth 100000 in
set_option maxHeartbeats 4000000 in
theorem kb_X9_partAt_4 {w : Mem} {st : Int32 × Int32} {r : (Int32 × Int32) ⊕ ((Int32) ⊕ (Unit))} {H : Heap} {locs : List Loc} {ls : Array Slot} (C : CX p s m args meth c cX9_partAt 4 RX9 wc_X9_partAt (some .int))  (hG : Gd s G A 28 B (entM G B w) X H locs) (hl : lv_has ls 4 [(0, .ref (B + 0)), (2, .int st.1), (3, .int st.2)]) (hf : sh_X9_partAt_s4 w st = some r)
    (kL : ∀ st' : Int32 × Int32, r = Sum.inl st' → ∀ (H : Heap) (locs : List Loc) (ls : Array Slot), Gd s G A 28 B (entM G B w) X H locs → lv_has ls 4 [(0, .ref (B + 0)), (2, .int st'.1), (3, .int st'.2)] → W p l e rm_X9_partAt s m args below meth c H locs 0 0 Q (F0 m 4 ls []))
    (kX0 : ∀ y' : Int32, r = Sum.inr (Sum.inl y') → ∀ (H : Heap) (locs : List Loc) (ls : Array Slot), Gd s G A 28 B (entM G B w) X H locs → lv_has ls 4 [(3, .int y')] → W p l e rm_X9_partAt s m args below meth c H locs 0 0 Q (F0 m 26 ls []))
    (kX1 : ∀ y' : Unit, r = Sum.inr (Sum.inr y') → ∀ (H : Heap) (locs : List Loc) (ls : Array Slot), Gd s G A 28 B (entM G B w) X H locs → lv_has ls 4 [] → W p l e rm_X9_partAt s m args below meth c H locs 0 0 Q (F0 m 37 ls [])) :
    W p l e rm_X9_partAt s m args below meth c H locs 0 0 Q (F0 m 4 ls []) := by
  refine lv_iload_n C.1 C.2.1 dX9_partAt_4 rfl (lv_at hl 2 rfl) ?_
  refine lv_aload_n C.1 C.2.1 dX9_partAt_5 rfl (lv_at hl 0 rfl) ?_
  refine gf_X9_217 C hG rfl dX9_partAt_6 ?_
  rcases of_ite hf with ⟨c1, hf⟩ | ⟨c1, hf⟩
  · refine lv_icmp_ge (tgt := 37) C.1 C.2.1 dX9_partAt_9 (by decide) (fun _ => ?_) (fun q => absurd c1 q)
    obtain rfl := Option.some.inj hf
    exact kX1 _ rfl _ _ _ hG (lv_sub hl [] rfl)
  · refine lv_icmp_ge (tgt := 37) C.1 C.2.1 dX9_partAt_9 (by decide) (fun q => absurd q c1) (fun _ => ?_)
    refine lv_aload_n C.1 C.2.1 dX9_partAt_12 rfl (lv_at hl 0 rfl) ?_
    refine gf_X9_54 C hG rfl dX9_partAt_13 ?_
    refine lv_iload_n C.1 C.2.1 dX9_partAt_16 rfl (lv_at hl 2 rfl) ?_
    obtain ⟨v2, hv2, hf⟩ := of_bind hf
    obtain ⟨bv2, ev2⟩ := of_ldS hv2
    refine r_iald C hG (c0 := 15) (by decide) (entM_I (n := 24) rfl) bv2 dX9_partAt_17 ?_
    refine r_top ev2 ?_
    refine lv_iload_n C.1 C.2.1 dX9_partAt_18 rfl (lv_at hl 2 rfl) ?_
    rcases of_ite hf with ⟨c3, hf⟩ | ⟨c3, hf⟩
    · refine lv_icmp_ne (tgt := 31) C.1 C.2.1 dX9_partAt_19 (by decide) (fun q => absurd c3 q) (fun _ => ?_)
      refine lv_iload_n C.1 C.2.1 dX9_partAt_22 rfl (lv_at hl 1 rfl) ?_
      rcases of_ite hf with ⟨c5, hf⟩ | ⟨c5, hf⟩
      · refine lv_if_ne (tgt := 28) C.1 C.2.1 dX9_partAt_23 (by decide) (fun q => absurd c5 q) (fun _ => ?_)
        obtain rfl := Option.some.inj hf
        exact kX0 _ rfl _ _ _ hG (lv_sub hl [2] rfl)
      · refine lv_if_ne (tgt := 28) C.1 C.2.1 dX9_partAt_23 (by decide) (fun _ => ?_) (fun q => absurd q c5)
        obtain ⟨v6, ev6, hf⟩ := of_letv hf
        refine lv_iinc (v := v6) (lv' := [(2, .int v6), (0, .ref (B + 0)), (3, .int st.2)]) C.1 C.2.1 dX9_partAt_28 hl (k := 1) rfl (by rw [ev6, show Int32.ofInt (-1) = (-1 : Int32) from by decide]) (by decide) rfl (fun ls hl => ?_)
        obtain ⟨v7, ev7, hf⟩ := of_letv hf
        refine lv_iinc (v := v7) (lv' := [(3, .int v7), (2, .int v6), (0, .ref (B + 0))]) C.1 C.2.1 dX9_partAt_31 hl (k := 2) rfl (by rw [ev7, show Int32.ofInt (1) = nI 1 from by decide]) (by decide) rfl (fun ls hl => ?_)
        refine lv_goto (tgt := 4) C.1 C.2.1 dX9_partAt_34 (by decide) ?_
        obtain rfl := Option.some.inj hf
        exact kL _ rfl _ _ _ hG (lv_sub hl [2, 1, 0] rfl)
    · refine lv_icmp_ne (tgt := 31) C.1 C.2.1 dX9_partAt_19 (by decide) (fun _ => ?_) (fun q => absurd q c3)
      obtain ⟨v4, ev4, hf⟩ := of_letv hf
      refine lv_iinc (v := v4) (lv' := [(3, .int v4), (0, .ref (B + 0)), (2, .int st.1)]) C.1 C.2.1 dX9_partAt_31 hl (k := 2) rfl (by rw [ev4, show Int32.ofInt (1) = nI 1 from by decide]) (by decide) rfl (fun ls hl => ?_)
      refine lv_goto (tgt := 4) C.1 C.2.1 dX9_partAt_34 (by decide) ?_
      obtain rfl := Option.some.inj hf
      exact kL _ rfl _ _ _ hG (lv_sub hl [1, 2, 0] rfl)
set_option maxRecDepth 100000 in
set_option maxHeartbeats 4000000 in
theorem kl_X9_partAt_4 {w : Mem} (C : CX p s m args meth c cX9_partAt 4 RX9 wc_X9_partAt (some .int))  : ∀ (n : Nat) (st : Int32 × Int32) (x : (Int32) ⊕ (Unit)) (H : Heap) (locs : List Loc) (ls : Array Slot), Gd s G A 28 B (entM G B w) X H locs → lv_has ls 4 [(0, .ref (B + 0)), (2, .int st.1), (3, .int st.2)] → lpw (sh_X9_partAt_s4 w) n st = some x →
    (∀ y' : Int32, x = (Sum.inl y') → ∀ (H : Heap) (locs : List Loc) (ls : Array Slot), Gd s G A 28 B (entM G B w) X H locs → lv_has ls 4 [(3, .int y')] → W p l e rm_X9_partAt s m args below meth c H locs 0 0 Q (F0 m 26 ls [])) →
    (∀ y' : Unit, x = (Sum.inr y') → ∀ (H : Heap) (locs : List Loc) (ls : Array Slot), Gd s G A 28 B (entM G B w) X H locs → lv_has ls 4 [] → W p l e rm_X9_partAt s m args below meth c H locs 0 0 Q (F0 m 37 ls [])) → W p l e rm_X9_partAt s m args below meth c H locs 0 0 Q (F0 m 4 ls []) := by
  intro n
  induction n with
  | zero =>
    intro st x H locs ls hG hl hf
    cases hf
  | succ n ih =>
    intro st x H locs ls hG hl hf kX0 kX1
    obtain ⟨r, hr, hh⟩ := of_lpw hf
    refine kb_X9_partAt_4 C  hG hl hr (fun st2 e1 H locs ls hG hl => ?_) (fun y2 e1 H locs ls hG hl => ?_) (fun y2 e1 H locs ls hG hl => ?_)
    · rcases hh with ⟨s3, e2, hh⟩ | e2
      · rw [e2] at e1
        cases e1
        exact ih _ _ _ _ _ hG hl hh kX0 kX1
      · rw [e2] at e1
        cases e1
    · rcases hh with ⟨s3, e2, hh⟩ | e2
      · rw [e2] at e1
        cases e1
      · rw [e2] at e1
        cases e1
        exact kX0 _ rfl _ _ _ hG hl
    · rcases hh with ⟨s3, e2, hh⟩ | e2
      · rw [e2] at e1
        cases e1
      · rw [e2] at e1
        cases e1
        exact kX1 _ rfl _ _ _ hG hl
set_option maxRecDepth 100000 in
set_option maxHeartbeats 4000000 in
theorem kb_X9_partAt_0 {x1 : Int32} {w : Mem} {out : Int32} {H : Heap} {locs : List Loc} {ls : Array Slot} (C : CX p s m args meth c cX9_partAt 4 RX9 wc_X9_partAt (some .int))  (hG : Gd s G A 28 B (entM G B w) X H locs) (hl : lv_has ls 4 [(0, .ref (B + 0)), (1, .int x1)]) (hf : sh_X9_partAt x1 w = some out) :
    W p l e rm_X9_partAt s m args below meth c H locs 0 0 (MQ below (CPost G A 28 B (entM G B w) X (some (.int out))) args s 0 0 A) (F0 m 0 ls []) := by
  refine lv_iload_n C.1 C.2.1 dX9_partAt_0 rfl (lv_at hl 1 rfl) ?_
  refine lv_istore_n (lv' := [(2, .int x1), (0, .ref (B + 0)), (1, .int x1)]) C.1 C.2.1 dX9_partAt_1 rfl hl (by decide) rfl (fun ls hl => ?_)
  refine lv_iconst (v := nI 0) C.1 C.2.1 dX9_partAt_2 (by decide) ?_
  refine lv_istore_n (lv' := [(3, .int (nI 0)), (2, .int x1), (0, .ref (B + 0)), (1, .int x1)]) C.1 C.2.1 dX9_partAt_3 rfl hl (by decide) rfl (fun ls hl => ?_)
  obtain ⟨ex1, hex1, hf⟩ := of_bind hf
  refine kl_X9_partAt_4 C  FU (x1, nI 0) ex1 _ _ _ hG (lv_sub hl [2, 1, 0] rfl) hex1 (fun y2 e0 H locs ls hG hl => ?_) (fun y3 e0 H locs ls hG hl => ?_)
  · subst e0
    simp only [Sum.elim_inl, Sum.elim_inr] at hf
    refine lv_iload_n C.1 C.2.1 dX9_partAt_26 rfl (lv_at hl 0 rfl) ?_
    obtain rfl := Option.some.inj hf
    exact r_iret C hG dX9_partAt_27
  · subst e0
    simp only [Sum.elim_inl, Sum.elim_inr] at hf
    refine lv_iconst (v := (-1 : Int32)) C.1 C.2.1 dX9_partAt_37 (by decide) ?_
    obtain rfl := Option.some.inj hf
    exact r_iret C hG dX9_partAt_38
set_option maxRecDepth 100000 in
set_option maxHeartbeats 4000000 in
theorem mt_X9_partAt (l : Launch) {G : GG} {A : Nat → Prop} {B : Nat} {X : va_W} {x1 : Int32} {w : Mem} {out : Int32}  (hf : sh_X9_partAt x1 w = some out) : MetW l yX9_partAt wc_X9_partAt rm_X9_partAt G A 28 B (entM G B w) X [.ref (B + 0), .int x1] (some (.int out)) (entM G B w) := by
  refine Met.ofW (cc := cX9_partAt) (maxL := 4) (ret := (some .int)) (by decide) rfl ?_
  intro p e s m args below meth c s₁ B0 hml hv
  obtain ⟨rfl, hEv, hWd⟩ := hv
  have C : CX p s m _ meth c cX9_partAt 4 RX9 wc_X9_partAt (some .int) := ⟨B0.exec, B0.bytes, hml, findClass_of_methodNamed B0.named, atoms_spec (ws := wc_X9_partAt) B0.pre, B0.returns, B0.notSynchronized⟩
  have hl := lv_entry [.ref (B + 0), .int x1] (n := 4) (Nat.le_of_ble_eq_true rfl)
  rw [lg_entry_eq]
  generalize (lg_sl [.ref (B + 0), .int x1] ++ List.replicate (4 - (lg_sl [.ref (B + 0), .int x1]).length) Slot.unset).toArray = ls at hl ⊢
  have hl : lv_has ls 4 [(0, .ref (B + 0)), (1, .int x1)] := hl
  exact kb_X9_partAt_0 C  ⟨hEv, hWd, va_S.rf⟩ hl hf
abbrev wc_X9_parts : List Cond := Cond.code yX9_parts cX9_parts 3 (some .int) :: TG
abbrev rm_X9_parts : Room := { frames := 2, cells := 0, slots := 0, locals := 100 }
theorem cd_X9_parts : yX9_parts.cls = RX9 ∧ yX9_parts.cls ≠ "java/lang/invoke/MethodHandle" ∧ yX9_parts.cls ≠ "java/lang/invoke/VarHandle" ∧ (parseMethodDescriptor yX9_parts.desc).map (fun d => d.parameters.length) = some 0 := by decide +kernel
theorem dX9_parts_0 : decode cX9_parts 0 = .ok (.iconst 0, 1) := by decide +kernel
theorem dX9_parts_1 : decode cX9_parts 1 = .ok (.istore_n 1, 1) := by decide +kernel
theorem dX9_parts_2 : decode cX9_parts 2 = .ok (.iconst 0, 1) := by decide +kernel
theorem dX9_parts_3 : decode cX9_parts 3 = .ok (.istore_n 2, 1) := by decide +kernel
theorem dX9_parts_4 : decode cX9_parts 4 = .ok (.iload_n 2, 1) := by decide +kernel
theorem dX9_parts_5 : decode cX9_parts 5 = .ok (.aload_n 0, 1) := by decide +kernel
theorem dX9_parts_6 : decode cX9_parts 6 = .ok (.getfield 217, 3) := by decide +kernel
theorem dX9_parts_9 : decode cX9_parts 9 = .ok (.if_icmp .ge 27, 3) := by decide +kernel
theorem dX9_parts_12 : decode cX9_parts 12 = .ok (.iload_n 1, 1) := by decide +kernel
theorem dX9_parts_13 : decode cX9_parts 13 = .ok (.aload_n 0, 1) := by decide +kernel
theorem dX9_parts_14 : decode cX9_parts 14 = .ok (.getfield 54, 3) := by decide +kernel
theorem dX9_parts_17 : decode cX9_parts 17 = .ok (.iload_n 2, 1) := by decide +kernel
theorem dX9_parts_18 : decode cX9_parts 18 = .ok (.iaload, 1) := by decide +kernel
theorem dX9_parts_19 : decode cX9_parts 19 = .ok (.iload_n 2, 1) := by decide +kernel
theorem dX9_parts_20 : decode cX9_parts 20 = .ok (.if_icmp .ne 7, 3) := by decide +kernel
theorem dX9_parts_23 : decode cX9_parts 23 = .ok (.iconst 1, 1) := by decide +kernel
theorem dX9_parts_24 : decode cX9_parts 24 = .ok (.goto 4, 3) := by decide +kernel
theorem dX9_parts_27 : decode cX9_parts 27 = .ok (.iconst 0, 1) := by decide +kernel
theorem dX9_parts_28 : decode cX9_parts 28 = .ok (.iadd, 1) := by decide +kernel
theorem dX9_parts_29 : decode cX9_parts 29 = .ok (.istore_n 1, 1) := by decide +kernel
theorem dX9_parts_30 : decode cX9_parts 30 = .ok (.iinc 2 1, 3) := by decide +kernel
theorem dX9_parts_33 : decode cX9_parts 33 = .ok (.goto (-29), 3) := by decide +kernel
theorem dX9_parts_36 : decode cX9_parts 36 = .ok (.iload_n 1, 1) := by decide +kernel
theorem dX9_parts_37 : decode cX9_parts 37 = .ok (.ireturn, 1) := by decide +kernel
set_option maxRecDepth 100000 in
set_option maxHeartbeats 4000000 in
theorem kb_X9_parts_4 {w : Mem} {st : Int32 × Int32} {r : (Int32 × Int32) ⊕ ((Int32))} {H : Heap} {locs : List Loc} {ls : Array Slot} (C : CX p s m args meth c cX9_parts 3 RX9 wc_X9_parts (some .int))  (hG : Gd s G A 28 B (entM G B w) X H locs) (hl : lv_has ls 3 [(0, .ref (B + 0)), (1, .int st.1), (2, .int st.2)]) (hf : sh_X9_parts_s4 w st = some r)
    (kL : ∀ st' : Int32 × Int32, r = Sum.inl st' → ∀ (H : Heap) (locs : List Loc) (ls : Array Slot), Gd s G A 28 B (entM G B w) X H locs → lv_has ls 3 [(0, .ref (B + 0)), (1, .int st'.1), (2, .int st'.2)] → W p l e rm_X9_parts s m args below meth c H locs 0 0 Q (F0 m 4 ls []))
    (kX0 : ∀ y' : Int32, r = Sum.inr y' → ∀ (H : Heap) (locs : List Loc) (ls : Array Slot), Gd s G A 28 B (entM G B w) X H locs → lv_has ls 3 [(1, .int y')] → W p l e rm_X9_parts s m args below meth c H locs 0 0 Q (F0 m 36 ls [])) :
    W p l e rm_X9_parts s m args below meth c H locs 0 0 Q (F0 m 4 ls []) := by
  refine lv_iload_n C.1 C.2.1 dX9_parts_4 rfl (lv_at hl 2 rfl) ?_
  refine lv_aload_n C.1 C.2.1 dX9_parts_5 rfl (lv_at hl 0 rfl) ?_
  refine gf_X9_217 C hG rfl dX9_parts_6 ?_
  rcases of_ite hf with ⟨c1, hf⟩ | ⟨c1, hf⟩
  · refine lv_icmp_ge (tgt := 36) C.1 C.2.1 dX9_parts_9 (by decide) (fun _ => ?_) (fun q => absurd c1 q)
    obtain rfl := Option.some.inj hf
    exact kX0 _ rfl _ _ _ hG (lv_sub hl [1] rfl)
  · refine lv_icmp_ge (tgt := 36) C.1 C.2.1 dX9_parts_9 (by decide) (fun q => absurd q c1) (fun _ => ?_)
    refine lv_iload_n C.1 C.2.1 dX9_parts_12 rfl (lv_at hl 1 rfl) ?_
    refine lv_aload_n C.1 C.2.1 dX9_parts_13 rfl (lv_at hl 0 rfl) ?_
    refine gf_X9_54 C hG rfl dX9_parts_14 ?_
    refine lv_iload_n C.1 C.2.1 dX9_parts_17 rfl (lv_at hl 2 rfl) ?_
    obtain ⟨v2, hv2, hf⟩ := of_bind hf
    obtain ⟨bv2, ev2⟩ := of_ldS hv2
    refine r_iald C hG (c0 := 15) (by decide) (entM_I (n := 24) rfl) bv2 dX9_parts_18 ?_
    refine r_top ev2 ?_
    refine lv_iload_n C.1 C.2.1 dX9_parts_19 rfl (lv_at hl 2 rfl) ?_
    rcases of_ite hf with ⟨c3, hf⟩ | ⟨c3, hf⟩
    · refine lv_icmp_ne (tgt := 27) C.1 C.2.1 dX9_parts_20 (by decide) (fun q => absurd c3 q) (fun _ => ?_)
      refine lv_iconst (v := nI 1) C.1 C.2.1 dX9_parts_23 (by decide) ?_
      refine lv_goto (tgt := 28) C.1 C.2.1 dX9_parts_24 (by decide) ?_
      refine lv_iadd C.1 C.2.1 dX9_parts_28 ?_
      obtain ⟨v6, ev6, hf⟩ := of_letv hf
      refine r_top ev6 ?_
      refine lv_istore_n (lv' := [(1, .int v6), (0, .ref (B + 0)), (2, .int st.2)]) C.1 C.2.1 dX9_parts_29 rfl hl (by decide) rfl (fun ls hl => ?_)
      obtain ⟨v7, ev7, hf⟩ := of_letv hf
      refine lv_iinc (v := v7) (lv' := [(2, .int v7), (1, .int v6), (0, .ref (B + 0))]) C.1 C.2.1 dX9_parts_30 hl (k := 2) rfl (by rw [ev7, show Int32.ofInt (1) = nI 1 from by decide]) (by decide) rfl (fun ls hl => ?_)
      refine lv_goto (tgt := 4) C.1 C.2.1 dX9_parts_33 (by decide) ?_
      obtain rfl := Option.some.inj hf
      exact kL _ rfl _ _ _ hG (lv_sub hl [2, 1, 0] rfl)
    · refine lv_icmp_ne (tgt := 27) C.1 C.2.1 dX9_parts_20 (by decide) (fun _ => ?_) (fun q => absurd q c3)
      refine lv_iconst (v := nI 0) C.1 C.2.1 dX9_parts_27 (by decide) ?_
      refine lv_iadd C.1 C.2.1 dX9_parts_28 ?_
      obtain ⟨v4, ev4, hf⟩ := of_letv hf
      refine r_top ev4 ?_
      refine lv_istore_n (lv' := [(1, .int v4), (0, .ref (B + 0)), (2, .int st.2)]) C.1 C.2.1 dX9_parts_29 rfl hl (by decide) rfl (fun ls hl => ?_)
      obtain ⟨v5, ev5, hf⟩ := of_letv hf
      refine lv_iinc (v := v5) (lv' := [(2, .int v5), (1, .int v4), (0, .ref (B + 0))]) C.1 C.2.1 dX9_parts_30 hl (k := 2) rfl (by rw [ev5, show Int32.ofInt (1) = nI 1 from by decide]) (by decide) rfl (fun ls hl => ?_)
      refine lv_goto (tgt := 4) C.1 C.2.1 dX9_parts_33 (by decide) ?_
      obtain rfl := Option.some.inj hf
      exact kL _ rfl _ _ _ hG (lv_sub hl [2, 1, 0] rfl)
set_option maxRecDepth 100000 in
set_option maxHeartbeats 4000000 in
theorem kl_X9_parts_4 {w : Mem} (C : CX p s m args meth c cX9_parts 3 RX9 wc_X9_parts (some .int))  : ∀ (n : Nat) (st : Int32 × Int32) (x : (Int32)) (H : Heap) (locs : List Loc) (ls : Array Slot), Gd s G A 28 B (entM G B w) X H locs → lv_has ls 3 [(0, .ref (B + 0)), (1, .int st.1), (2, .int st.2)] → lpw (sh_X9_parts_s4 w) n st = some x →
    (∀ y' : Int32, x = y' → ∀ (H : Heap) (locs : List Loc) (ls : Array Slot), Gd s G A 28 B (entM G B w) X H locs → lv_has ls 3 [(1, .int y')] → W p l e rm_X9_parts s m args below meth c H locs 0 0 Q (F0 m 36 ls [])) → W p l e rm_X9_parts s m args below meth c H locs 0 0 Q (F0 m 4 ls []) := by
  intro n
  induction n with
  | zero =>
    intro st x H locs ls hG hl hf
    cases hf
  | succ n ih =>
    intro st x H locs ls hG hl hf kX0
    obtain ⟨r, hr, hh⟩ := of_lpw hf
    refine kb_X9_parts_4 C  hG hl hr (fun st2 e1 H locs ls hG hl => ?_) (fun y2 e1 H locs ls hG hl => ?_)
    · rcases hh with ⟨s3, e2, hh⟩ | e2
      · rw [e2] at e1
        cases e1
        exact ih _ _ _ _ _ hG hl hh kX0
      · rw [e2] at e1
        cases e1
    · rcases hh with ⟨s3, e2, hh⟩ | e2
      · rw [e2] at e1
        cases e1
      · rw [e2] at e1
        cases e1
        exact kX0 _ rfl _ _ _ hG hl
set_option maxRecDepth 100000 in
set_option maxHeartbeats 4000000 in
theorem kb_X9_parts_0 {w : Mem} {out : Int32} {H : Heap} {locs : List Loc} {ls : Array Slot} (C : CX p s m args meth c cX9_parts 3 RX9 wc_X9_parts (some .int))  (hG : Gd s G A 28 B (entM G B w) X H locs) (hl : lv_has ls 3 [(0, .ref (B + 0))]) (hf : sh_X9_parts w = some out) :
    W p l e rm_X9_parts s m args below meth c H locs 0 0 (MQ below (CPost G A 28 B (entM G B w) X (some (.int out))) args s 0 0 A) (F0 m 0 ls []) := by
  refine lv_iconst (v := nI 0) C.1 C.2.1 dX9_parts_0 (by decide) ?_
  refine lv_istore_n (lv' := [(1, .int (nI 0)), (0, .ref (B + 0))]) C.1 C.2.1 dX9_parts_1 rfl hl (by decide) rfl (fun ls hl => ?_)
  refine lv_iconst (v := nI 0) C.1 C.2.1 dX9_parts_2 (by decide) ?_
  refine lv_istore_n (lv' := [(2, .int (nI 0)), (1, .int (nI 0)), (0, .ref (B + 0))]) C.1 C.2.1 dX9_parts_3 rfl hl (by decide) rfl (fun ls hl => ?_)
  obtain ⟨ex1, hex1, hf⟩ := of_bind hf
  refine kl_X9_parts_4 C  FU (nI 0, nI 0) ex1 _ _ _ hG (lv_sub hl [2, 1, 0] rfl) hex1 (fun y e0 H locs ls hG hl => ?_)
  subst e0
  refine lv_iload_n C.1 C.2.1 dX9_parts_36 rfl (lv_at hl 0 rfl) ?_
  obtain rfl := Option.some.inj hf
  exact r_iret C hG dX9_parts_37
set_option maxRecDepth 100000 in
set_option maxHeartbeats 4000000 in
theorem mt_X9_parts (l : Launch) {G : GG} {A : Nat → Prop} {B : Nat} {X : va_W} {w : Mem} {out : Int32}  (hf : sh_X9_parts w = some out) : MetW l yX9_parts wc_X9_parts rm_X9_parts G A 28 B (entM G B w) X [.ref (B + 0)] (some (.int out)) (entM G B w) := by
  refine Met.ofW (cc := cX9_parts) (maxL := 3) (ret := (some .int)) (by decide) rfl ?_
  intro p e s m args below meth c s₁ B0 hml hv
  obtain ⟨rfl, hEv, hWd⟩ := hv
  have C : CX p s m _ meth c cX9_parts 3 RX9 wc_X9_parts (some .int) := ⟨B0.exec, B0.bytes, hml, findClass_of_methodNamed B0.named, atoms_spec (ws := wc_X9_parts) B0.pre, B0.returns, B0.notSynchronized⟩
  have hl := lv_entry [.ref (B + 0)] (n := 3) (Nat.le_of_ble_eq_true rfl)
  rw [lg_entry_eq]
  generalize (lg_sl [.ref (B + 0)] ++ List.replicate (3 - (lg_sl [.ref (B + 0)]).length) Slot.unset).toArray = ls at hl ⊢
  have hl : lv_has ls 3 [(0, .ref (B + 0))] := hl
  exact kb_X9_parts_0 C  ⟨hEv, hWd, va_S.rf⟩ hl hf
abbrev wc_X9_areAlike : List Cond := Cond.code yX9_areAlike cX9_areAlike 3 (some .boolean) :: TG
abbrev rm_X9_areAlike : Room := { frames := 2, cells := 0, slots := 0, locals := 100 }
theorem cd_X9_areAlike : yX9_areAlike.cls = RX9 ∧ yX9_areAlike.cls ≠ "java/lang/invoke/MethodHandle" ∧ yX9_areAlike.cls ≠ "java/lang/invoke/VarHandle" ∧ (parseMethodDescriptor yX9_areAlike.desc).map (fun d => d.parameters.length) = some 2 := by decide +kernel
theorem dX9_areAlike_0 : decode cX9_areAlike 0 = .ok (.aload_n 0, 1) := by decide +kernel
theorem dX9_areAlike_1 : decode cX9_areAlike 1 = .ok (.getfield 60, 3) := by decide +kernel
theorem dX9_areAlike_4 : decode cX9_areAlike 4 = .ok (.iload_n 1, 1) := by decide +kernel
theorem dX9_areAlike_5 : decode cX9_areAlike 5 = .ok (.iaload, 1) := by decide +kernel
theorem dX9_areAlike_6 : decode cX9_areAlike 6 = .ok (.aload_n 0, 1) := by decide +kernel
theorem dX9_areAlike_7 : decode cX9_areAlike 7 = .ok (.getfield 60, 3) := by decide +kernel
theorem dX9_areAlike_10 : decode cX9_areAlike 10 = .ok (.iload_n 2, 1) := by decide +kernel
theorem dX9_areAlike_11 : decode cX9_areAlike 11 = .ok (.iaload, 1) := by decide +kernel
theorem dX9_areAlike_12 : decode cX9_areAlike 12 = .ok (.if_icmp .ne 37, 3) := by decide +kernel
theorem dX9_areAlike_15 : decode cX9_areAlike 15 = .ok (.aload_n 0, 1) := by decide +kernel
theorem dX9_areAlike_16 : decode cX9_areAlike 16 = .ok (.getfield 57, 3) := by decide +kernel
theorem dX9_areAlike_19 : decode cX9_areAlike 19 = .ok (.iload_n 1, 1) := by decide +kernel
theorem dX9_areAlike_20 : decode cX9_areAlike 20 = .ok (.iaload, 1) := by decide +kernel
theorem dX9_areAlike_21 : decode cX9_areAlike 21 = .ok (.aload_n 0, 1) := by decide +kernel
theorem dX9_areAlike_22 : decode cX9_areAlike 22 = .ok (.getfield 57, 3) := by decide +kernel
theorem dX9_areAlike_25 : decode cX9_areAlike 25 = .ok (.iload_n 2, 1) := by decide +kernel
theorem dX9_areAlike_26 : decode cX9_areAlike 26 = .ok (.iaload, 1) := by decide +kernel
theorem dX9_areAlike_27 : decode cX9_areAlike 27 = .ok (.if_icmp .ne 22, 3) := by decide +kernel
theorem dX9_areAlike_30 : decode cX9_areAlike 30 = .ok (.aload_n 0, 1) := by decide +kernel
theorem dX9_areAlike_31 : decode cX9_areAlike 31 = .ok (.getfield 63, 3) := by decide +kernel
theorem dX9_areAlike_34 : decode cX9_areAlike 34 = .ok (.iload_n 1, 1) := by decide +kernel
theorem dX9_areAlike_35 : decode cX9_areAlike 35 = .ok (.iaload, 1) := by decide +kernel
theorem dX9_areAlike_36 : decode cX9_areAlike 36 = .ok (.aload_n 0, 1) := by decide +kernel
theorem dX9_areAlike_37 : decode cX9_areAlike 37 = .ok (.getfield 63, 3) := by decide +kernel
theorem dX9_areAlike_40 : decode cX9_areAlike 40 = .ok (.iload_n 2, 1) := by decide +kernel
theorem dX9_areAlike_41 : decode cX9_areAlike 41 = .ok (.iaload, 1) := by decide +kernel
theorem dX9_areAlike_42 : decode cX9_areAlike 42 = .ok (.if_icmp .ne 7, 3) := by decide +kernel
theorem dX9_areAlike_45 : decode cX9_areAlike 45 = .ok (.iconst 1, 1) := by decide +kernel
theorem dX9_areAlike_46 : decode cX9_areAlike 46 = .ok (.goto 4, 3) := by decide +kernel
theorem dX9_areAlike_49 : decode cX9_areAlike 49 = .ok (.iconst 0, 1) := by decide +kernel
theorem dX9_areAlike_50 : decode cX9_areAlike 50 = .ok (.ireturn, 1) := by decide +kernel
set_option maxRecDepth 100000 in
set_option maxHeartbeats 4000000 in
theorem kb_X9_areAlike_0 {x1 : Int32} {x2 : Int32} {w : Mem} {out : Int32} {H : Heap} {locs : List Loc} {ls : Array Slot} (C : CX p s m args meth c cX9_areAlike 3 RX9 wc_X9_areAlike (some .boolean))  (hG : Gd s G A 28 B (entM G B w) X H locs) (hl : lv_has ls 3 [(0, .ref (B + 0)), (1, .int x1), (2, .int x2)]) (hf : sh_X9_areAlike x1 x2 w = some out) :
    W p l e rm_X9_areAlike s m args below meth c H locs 0 0 (MQ below (CPost G A 28 B (entM G B w) X (some (.int out))) args s 0 0 A) (F0 m 0 ls []) := by
  refine lv_aload_n C.1 C.2.1 dX9_areAlike_0 rfl (lv_at hl 0 rfl) ?_
  refine gf_X9_60 C hG rfl dX9_areAlike_1 ?_
  refine lv_iload_n C.1 C.2.1 dX9_areAlike_4 rfl (lv_at hl 1 rfl) ?_
  obtain ⟨v1, hv1, hf⟩ := of_bind hf
  obtain ⟨bv1, ev1⟩ := of_ldS hv1
  refine r_iald C hG (c0 := 17) (by decide) (entM_I (n := 24) rfl) bv1 dX9_areAlike_5 ?_
  refine r_top ev1 ?_
  refine lv_aload_n C.1 C.2.1 dX9_areAlike_6 rfl (lv_at hl 0 rfl) ?_
  refine gf_X9_60 C hG rfl dX9_areAlike_7 ?_
  refine lv_iload_n C.1 C.2.1 dX9_areAlike_10 rfl (lv_at hl 2 rfl) ?_
  obtain ⟨v2, hv2, hf⟩ := of_bind hf
  obtain ⟨bv2, ev2⟩ := of_ldS hv2
  refine r_iald C hG (c0 := 17) (by decide) (entM_I (n := 24) rfl) bv2 dX9_areAlike_11 ?_
  refine r_top ev2 ?_
  rcases of_ite hf with ⟨c3, hf⟩ | ⟨c3, hf⟩
  · refine lv_icmp_ne (tgt := 49) C.1 C.2.1 dX9_areAlike_12 (by decide) (fun q => absurd c3 q) (fun _ => ?_)
    refine lv_aload_n C.1 C.2.1 dX9_areAlike_15 rfl (lv_at hl 0 rfl) ?_
    refine gf_X9_57 C hG rfl dX9_areAlike_16 ?_
    refine lv_iload_n C.1 C.2.1 dX9_areAlike_19 rfl (lv_at hl 1 rfl) ?_
    obtain ⟨v4, hv4, hf⟩ := of_bind hf
    obtain ⟨bv4, ev4⟩ := of_ldS hv4
    refine r_iald C hG (c0 := 16) (by decide) (entM_I (n := 24) rfl) bv4 dX9_areAlike_20 ?_
    refine r_top ev4 ?_
    refine lv_aload_n C.1 C.2.1 dX9_areAlike_21 rfl (lv_at hl 0 rfl) ?_
    refine gf_X9_57 C hG rfl dX9_areAlike_22 ?_
    refine lv_iload_n C.1 C.2.1 dX9_areAlike_25 rfl (lv_at hl 2 rfl) ?_
    obtain ⟨v5, hv5, hf⟩ := of_bind hf
    obtain ⟨bv5, ev5⟩ := of_ldS hv5
    refine r_iald C hG (c0 := 16) (by decide) (entM_I (n := 24) rfl) bv5 dX9_areAlike_26 ?_
    refine r_top ev5 ?_
    rcases of_ite hf with ⟨c6, hf⟩ | ⟨c6, hf⟩
    · refine lv_icmp_ne (tgt := 49) C.1 C.2.1 dX9_areAlike_27 (by decide) (fun q => absurd c6 q) (fun _ => ?_)
      refine lv_aload_n C.1 C.2.1 dX9_areAlike_30 rfl (lv_at hl 0 rfl) ?_
      refine gf_X9_63 C hG rfl dX9_areAlike_31 ?_
      refine lv_iload_n C.1 C.2.1 dX9_areAlike_34 rfl (lv_at hl 1 rfl) ?_
      obtain ⟨v7, hv7, hf⟩ := of_bind hf
      obtain ⟨bv7, ev7⟩ := of_ldS hv7
      refine r_iald C hG (c0 := 18) (by decide) (entM_I (n := 24) rfl) bv7 dX9_areAlike_35 ?_
      refine r_top ev7 ?_
      refine lv_aload_n C.1 C.2.1 dX9_areAlike_36 rfl (lv_at hl 0 rfl) ?_
      refine gf_X9_63 C hG rfl dX9_areAlike_37 ?_
      refine lv_iload_n C.1 C.2.1 dX9_areAlike_40 rfl (lv_at hl 2 rfl) ?_
      obtain ⟨v8, hv8, hf⟩ := of_bind hf
      obtain ⟨bv8, ev8⟩ := of_ldS hv8
      refine r_iald C hG (c0 := 18) (by decide) (entM_I (n := 24) rfl) bv8 dX9_areAlike_41 ?_
      refine r_top ev8 ?_
      rcases of_ite hf with ⟨c9, hf⟩ | ⟨c9, hf⟩
      · refine lv_icmp_ne (tgt := 49) C.1 C.2.1 dX9_areAlike_42 (by decide) (fun q => absurd c9 q) (fun _ => ?_)
        refine lv_iconst (v := nI 1) C.1 C.2.1 dX9_areAlike_45 (by decide) ?_
        refine lv_goto (tgt := 50) C.1 C.2.1 dX9_areAlike_46 (by decide) ?_
        obtain rfl := Option.some.inj hf
        exact r_zret C hG (Or.inr rfl) dX9_areAlike_50
      · refine lv_icmp_ne (tgt := 49) C.1 C.2.1 dX9_areAlike_42 (by decide) (fun _ => ?_) (fun q => absurd q c9)
        refine lv_iconst (v := nI 0) C.1 C.2.1 dX9_areAlike_49 (by decide) ?_
        obtain rfl := Option.some.inj hf
        exact r_zret C hG (Or.inl rfl) dX9_areAlike_50
    · refine lv_icmp_ne (tgt := 49) C.1 C.2.1 dX9_areAlike_27 (by decide) (fun _ => ?_) (fun q => absurd q c6)
      refine lv_iconst (v := nI 0) C.1 C.2.1 dX9_areAlike_49 (by decide) ?_
      obtain rfl := Option.some.inj hf
      exact r_zret C hG (Or.inl rfl) dX9_areAlike_50
  · refine lv_icmp_ne (tgt := 49) C.1 C.2.1 dX9_areAlike_12 (by decide) (fun _ => ?_) (fun q => absurd q c3)
    refine lv_iconst (v := nI 0) C.1 C.2.1 dX9_areAlike_49 (by decide) ?_
    obtain rfl := Option.some.inj hf
    exact r_zret C hG (Or.inl rfl) dX9_areAlike_50
set_option maxRecDepth 100000 in
set_option maxHeartbeats 4000000 in
theorem mt_X9_areAlike (l : Launch) {G : GG} {A : Nat → Prop} {B : Nat} {X : va_W} {x1 : Int32} {x2 : Int32} {w : Mem} {out : Int32}  (hf : sh_X9_areAlike x1 x2 w = some out) : MetW l yX9_areAlike wc_X9_areAlike rm_X9_areAlike G A 28 B (entM G B w) X [.ref (B + 0), .int x1, .int x2] (some (.int out)) (entM G B w) := by
  refine Met.ofW (cc := cX9_areAlike) (maxL := 3) (ret := (some .boolean)) (by decide) rfl ?_
  intro p e s m args below meth c s₁ B0 hml hv
  obtain ⟨rfl, hEv, hWd⟩ := hv
  have C : CX p s m _ meth c cX9_areAlike 3 RX9 wc_X9_areAlike (some .boolean) := ⟨B0.exec, B0.bytes, hml, findClass_of_methodNamed B0.named, atoms_spec (ws := wc_X9_areAlike) B0.pre, B0.returns, B0.notSynchronized⟩
  have hl := lv_entry [.ref (B + 0), .int x1, .int x2] (n := 3) (Nat.le_of_ble_eq_true rfl)
  rw [lg_entry_eq]
  generalize (lg_sl [.ref (B + 0), .int x1, .int x2] ++ List.replicate (3 - (lg_sl [.ref (B + 0), .int x1, .int x2]).length) Slot.unset).toArray = ls at hl ⊢
  have hl : lv_has ls 3 [(0, .ref (B + 0)), (1, .int x1), (2, .int x2)] := hl
  exact kb_X9_areAlike_0 C  ⟨hEv, hWd, va_S.rf⟩ hl hf
abbrev wc_X9_unlike : List Cond := Cond.code yX9_unlike cX9_unlike 5 (some .int) :: TG
abbrev rm_X9_unlike : Room := { frames := 3, cells := 0, slots := 0, locals := 122 }
theorem cd_X9_unlike : yX9_unlike.cls = RX9 ∧ yX9_unlike.cls ≠ "java/lang/invoke/MethodHandle" ∧ yX9_unlike.cls ≠ "java/lang/invoke/VarHandle" ∧ (parseMethodDescriptor yX9_unlike.desc).map (fun d => d.parameters.length) = some 0 := by decide +kernel
theorem dX9_unlike_0 : decode cX9_unlike 0 = .ok (.iconst 0, 1) := by decide +kernel
theorem dX9_unlike_1 : decode cX9_unlike 1 = .ok (.istore_n 1, 1) := by decide +kernel
theorem dX9_unlike_2 : decode cX9_unlike 2 = .ok (.iconst 0, 1) := by decide +kernel
theorem dX9_unlike_3 : decode cX9_unlike 3 = .ok (.istore_n 2, 1) := by decide +kernel
theorem dX9_unlike_4 : decode cX9_unlike 4 = .ok (.iload_n 2, 1) := by decide +kernel
theorem dX9_unlike_5 : decode cX9_unlike 5 = .ok (.aload_n 0, 1) := by decide +kernel
theorem dX9_unlike_6 : decode cX9_unlike 6 = .ok (.getfield 217, 3) := by decide +kernel
theorem dX9_unlike_9 : decode cX9_unlike 9 = .ok (.if_icmp .ge 84, 3) := by decide +kernel
theorem dX9_unlike_12 : decode cX9_unlike 12 = .ok (.aload_n 0, 1) := by decide +kernel
theorem dX9_unlike_13 : decode cX9_unlike 13 = .ok (.getfield 54, 3) := by decide +kernel
theorem dX9_unlike_16 : decode cX9_unlike 16 = .ok (.iload_n 2, 1) := by decide +kernel
theorem dX9_unlike_17 : decode cX9_unlike 17 = .ok (.iaload, 1) := by decide +kernel
theorem dX9_unlike_18 : decode cX9_unlike 18 = .ok (.iload_n 2, 1) := by decide +kernel
theorem dX9_unlike_19 : decode cX9_unlike 19 = .ok (.if_icmp .ne 7, 3) := by decide +kernel
theorem dX9_unlike_22 : decode cX9_unlike 22 = .ok (.iconst 1, 1) := by decide +kernel
theorem dX9_unlike_23 : decode cX9_unlike 23 = .ok (.goto 4, 3) := by decide +kernel
theorem dX9_unlike_26 : decode cX9_unlike 26 = .ok (.iconst 0, 1) := by decide +kernel
theorem dX9_unlike_27 : decode cX9_unlike 27 = .ok (.istore_n 3, 1) := by decide +kernel
theorem dX9_unlike_28 : decode cX9_unlike 28 = .ok (.iconst 0, 1) := by decide +kernel
theorem dX9_unlike_29 : decode cX9_unlike 29 = .ok (.istore 4, 2) := by decide +kernel
theorem dX9_unlike_31 : decode cX9_unlike 31 = .ok (.iload 4, 2) := by decide +kernel
theorem dX9_unlike_33 : decode cX9_unlike 33 = .ok (.iload_n 2, 1) := by decide +kernel
theorem dX9_unlike_34 : decode cX9_unlike 34 = .ok (.if_icmp .ge 41, 3) := by decide +kernel
theorem dX9_unlike_37 : decode cX9_unlike 37 = .ok (.iload_n 3, 1) := by decide +kernel
theorem dX9_unlike_38 : decode cX9_unlike 38 = .ok (.ifCond .eq 37, 3) := by decide +kernel
theorem dX9_unlike_41 : decode cX9_unlike 41 = .ok (.aload_n 0, 1) := by decide +kernel
theorem dX9_unlike_42 : decode cX9_unlike 42 = .ok (.getfield 54, 3) := by decide +kernel
theorem dX9_unlike_45 : decode cX9_unlike 45 = .ok (.iload 4, 2) := by decide +kernel
theorem dX9_unlike_47 : decode cX9_unlike 47 = .ok (.iaload, 1) := by decide +kernel
theorem dX9_unlike_48 : decode cX9_unlike 48 = .ok (.iload 4, 2) := by decide +kernel
theorem dX9_unlike_50 : decode cX9_unlike 50 = .ok (.if_icmp .ne 13, 3) := by decide +kernel
theorem dX9_unlike_53 : decode cX9_unlike 53 = .ok (.aload_n 0, 1) := by decide +kernel
theorem dX9_unlike_54 : decode cX9_unlike 54 = .ok (.iload_n 2, 1) := by decide +kernel
theorem dX9_unlike_55 : decode cX9_unlike 55 = .ok (.iload 4, 2) := by decide +kernel
theorem dX9_unlike_57 : decode cX9_unlike 57 = .ok (.invokevirtual 231, 3) := by decide +kernel
theorem dX9_unlike_60 : decode cX9_unlike 60 = .ok (.ifCond .ne 7, 3) := by decide +kernel
theorem dX9_unlike_63 : decode cX9_unlike 63 = .ok (.iconst 1, 1) := by decide +kernel
theorem dX9_unlike_64 : decode cX9_unlike 64 = .ok (.goto 4, 3) := by decide +kernel
theorem dX9_unlike_67 : decode cX9_unlike 67 = .ok (.iconst 0, 1) := by decide +kernel
theorem dX9_unlike_68 : decode cX9_unlike 68 = .ok (.istore_n 3, 1) := by decide +kernel
theorem dX9_unlike_69 : decode cX9_unlike 69 = .ok (.iinc 4 1, 3) := by decide +kernel
theorem dX9_unlike_72 : decode cX9_unlike 72 = .ok (.goto (-41), 3) := by decide +kernel
theorem dX9_unlike_75 : decode cX9_unlike 75 = .ok (.iload_n 1, 1) := by decide +kernel
theorem dX9_unlike_76 : decode cX9_unlike 76 = .ok (.iload_n 3, 1) := by decide +kernel
theorem dX9_unlike_77 : decode cX9_unlike 77 = .ok (.ifCond .eq 7, 3) := by decide +kernel
theorem dX9_unlike_80 : decode cX9_unlike 80 = .ok (.iconst 1, 1) := by decide +kernel
theorem dX9_unlike_81 : decode cX9_unlike 81 = .ok (.goto 4, 3) := by decide +kernel
theorem dX9_unlike_84 : decode cX9_unlike 84 = .ok (.iconst 0, 1) := by decide +kernel
theorem dX9_unlike_85 : decode cX9_unlike 85 = .ok (.iadd, 1) := by decide +kernel
theorem dX9_unlike_86 : decode cX9_unlike 86 = .ok (.istore_n 1, 1) := by decide +kernel
theorem dX9_unlike_87 : decode cX9_unlike 87 = .ok (.iinc 2 1, 3) := by decide +kernel
theorem dX9_unlike_90 : decode cX9_unlike 90 = .ok (.goto (-86), 3) := by decide +kernel
theorem dX9_unlike_93 : decode cX9_unlike 93 = .ok (.iload_n 1, 1) := by decide +kernel
theorem dX9_unlike_94 : decode cX9_unlike 94 = .ok (.ireturn, 1) := by decide +kernel
set_option maxRecDepth 100000 in
set_option maxHeartbeats 4000000 in
theorem kb_X9_unlike_31 {x1 : Int32} {x2 : Int32} {w : Mem} {st : Int32 × Int32} {r : (Int32 × Int32) ⊕ ((Int32))} {H : Heap} {locs : List Loc} {ls : Array Slot} (C : CX p s m args meth c cX9_unlike 5 RX9 wc_X9_unlike (some .int))  (hG : Gd s G A 28 B (entM G B w) X H locs) (hl : lv_has ls 5 [(0, .ref (B + 0)), (1, .int x1), (2, .int x2), (3, .int st.1), (4, .int st.2)]) (hf : sh_X9_unlike_s31 x1 x2 w st = some r)
    (kL : ∀ st' : Int32 × Int32, r = Sum.inl st' → ∀ (H : Heap) (locs : List Loc) (ls : Array Slot), Gd s G A 28 B (entM G B w) X H locs → lv_has ls 5 [(0, .ref (B + 0)), (1, .int x1), (2, .int x2), (3, .int st'.1), (4, .int st'.2)] → W p l e rm_X9_unlike s m args below meth c H locs 0 0 Q (F0 m 31 ls []))
    (kX0 : ∀ y' : Int32, r = Sum.inr y' → ∀ (H : Heap) (locs : List Loc) (ls : Array Slot), Gd s G A 28 B (entM G B w) X H locs → lv_has ls 5 [(0, .ref (B + 0)), (1, .int x1), (2, .int x2), (3, .int y')] → W p l e rm_X9_unlike s m args below meth c H locs 0 0 Q (F0 m 75 ls [])) :
    W p l e rm_X9_unlike s m args below meth c H locs 0 0 Q (F0 m 31 ls []) := by
  refine lv_iload C.1 C.2.1 dX9_unlike_31 (lv_at hl 4 rfl) ?_
  refine lv_iload_n C.1 C.2.1 dX9_unlike_33 rfl (lv_at hl 2 rfl) ?_
  rcases of_ite hf with ⟨c1, hf⟩ | ⟨c1, hf⟩
  · refine lv_icmp_ge (tgt := 75) C.1 C.2.1 dX9_unlike_34 (by decide) (fun _ => ?_) (fun q => absurd c1 q)
    obtain rfl := Option.some.inj hf
    exact kX0 _ rfl _ _ _ hG (lv_sub hl [0, 1, 2, 3] rfl)
  · refine lv_icmp_ge (tgt := 75) C.1 C.2.1 dX9_unlike_34 (by decide) (fun q => absurd q c1) (fun _ => ?_)
    refine lv_iload_n C.1 C.2.1 dX9_unlike_37 rfl (lv_at hl 3 rfl) ?_
    rcases of_ite hf with ⟨c2, hf⟩ | ⟨c2, hf⟩
    · refine lv_if_eq (tgt := 75) C.1 C.2.1 dX9_unlike_38 (by decide) (fun _ => ?_) (fun q => absurd c2 q)
      obtain rfl := Option.some.inj hf
      exact kX0 _ rfl _ _ _ hG (lv_sub hl [0, 1, 2, 3] rfl)
    · refine lv_if_eq (tgt := 75) C.1 C.2.1 dX9_unlike_38 (by decide) (fun q => absurd q c2) (fun _ => ?_)
      refine lv_aload_n C.1 C.2.1 dX9_unlike_41 rfl (lv_at hl 0 rfl) ?_
      refine gf_X9_54 C hG rfl dX9_unlike_42 ?_
      refine lv_iload C.1 C.2.1 dX9_unlike_45 (lv_at hl 4 rfl) ?_
      obtain ⟨v3, hv3, hf⟩ := of_bind hf
      obtain ⟨bv3, ev3⟩ := of_ldS hv3
      refine r_iald C hG (c0 := 15) (by decide) (entM_I (n := 24) rfl) bv3 dX9_unlike_47 ?_
      refine r_top ev3 ?_
      refine lv_iload C.1 C.2.1 dX9_unlike_48 (lv_at hl 4 rfl) ?_
      rcases of_ite hf with ⟨c4, hf⟩ | ⟨c4, hf⟩
      · refine lv_icmp_ne (tgt := 63) C.1 C.2.1 dX9_unlike_50 (by decide) (fun q => absurd c4 q) (fun _ => ?_)
        refine lv_aload_n C.1 C.2.1 dX9_unlike_53 rfl (lv_at hl 0 rfl) ?_
        refine lv_iload_n C.1 C.2.1 dX9_unlike_54 rfl (lv_at hl 2 rfl) ?_
        refine lv_iload C.1 C.2.1 dX9_unlike_55 (lv_at hl 4 rfl) ?_
        obtain ⟨v6, hv6, hf⟩ := of_bind hf
        refine r_callV1 C hG hl.1 (c0 := 0) (As := [.int x2, .int st.2]) (by decide) (entM_O (n := 35) rfl) rfl (mt_X9_areAlike l  hv6) (cwV 2 C.2.2.2.2.1 (gd_V tg_5_137 tg_5_139 tgp_49 tg_1_10 tg_5_140) rfl rfl rfl cd_X9_areAlike ⟨Nat.le_of_ble_eq_true rfl, Nat.le_of_ble_eq_true rfl⟩) rfl rfl (Nat.le_of_ble_eq_true rfl) dX9_unlike_57 (fun H locs hG => ?_)
        rcases of_ite hf with ⟨c7, hf⟩ | ⟨c7, hf⟩
        · refine lv_if_ne (tgt := 67) C.1 C.2.1 dX9_unlike_60 (by decide) (fun q => absurd c7 q) (fun _ => ?_)
          refine lv_iconst (v := nI 1) C.1 C.2.1 dX9_unlike_63 (by decide) ?_
          refine lv_goto (tgt := 68) C.1 C.2.1 dX9_unlike_64 (by decide) ?_
          refine lv_istore_n (lv' := [(3, .int (nI 1)), (0, .ref (B + 0)), (1, .int x1), (2, .int x2), (4, .int st.2)]) C.1 C.2.1 dX9_unlike_68 rfl hl (by decide) rfl (fun ls hl => ?_)
          obtain ⟨v9, ev9, hf⟩ := of_letv hf
          refine lv_iinc (v := v9) (lv' := [(4, .int v9), (3, .int (nI 1)), (0, .ref (B + 0)), (1, .int x1), (2, .int x2)]) C.1 C.2.1 dX9_unlike_69 hl (k := 4) rfl (by rw [ev9, show Int32.ofInt (1) = nI 1 from by decide]) (by decide) rfl (fun ls hl => ?_)
          refine lv_goto (tgt := 31) C.1 C.2.1 dX9_unlike_72 (by decide) ?_
          obtain rfl := Option.some.inj hf
          exact kL _ rfl _ _ _ hG (lv_sub hl [2, 3, 4, 1, 0] rfl)
        · refine lv_if_ne (tgt := 67) C.1 C.2.1 dX9_unlike_60 (by decide) (fun _ => ?_) (fun q => absurd q c7)
          refine lv_iconst (v := nI 0) C.1 C.2.1 dX9_unlike_67 (by decide) ?_
          refine lv_istore_n (lv' := [(3, .int (nI 0)), (0, .ref (B + 0)), (1, .int x1), (2, .int x2), (4, .int st.2)]) C.1 C.2.1 dX9_unlike_68 rfl hl (by decide) rfl (fun ls hl => ?_)
          obtain ⟨v8, ev8, hf⟩ := of_letv hf
          refine lv_iinc (v := v8) (lv' := [(4, .int v8), (3, .int (nI 0)), (0, .ref (B + 0)), (1, .int x1), (2, .int x2)]) C.1 C.2.1 dX9_unlike_69 hl (k := 4) rfl (by rw [ev8, show Int32.ofInt (1) = nI 1 from by decide]) (by decide) rfl (fun ls hl => ?_)
          refine lv_goto (tgt := 31) C.1 C.2.1 dX9_unlike_72 (by decide) ?_
          obtain rfl := Option.some.inj hf
          exact kL _ rfl _ _ _ hG (lv_sub hl [2, 3, 4, 1, 0] rfl)
      · refine lv_icmp_ne (tgt := 63) C.1 C.2.1 dX9_unlike_50 (by decide) (fun _ => ?_) (fun q => absurd q c4)
        refine lv_iconst (v := nI 1) C.1 C.2.1 dX9_unlike_63 (by decide) ?_
        refine lv_goto (tgt := 68) C.1 C.2.1 dX9_unlike_64 (by decide) ?_
        refine lv_istore_n (lv' := [(3, .int (nI 1)), (0, .ref (B + 0)), (1, .int x1), (2, .int x2), (4, .int st.2)]) C.1 C.2.1 dX9_unlike_68 rfl hl (by decide) rfl (fun ls hl => ?_)
        obtain ⟨v5, ev5, hf⟩ := of_letv hf
        refine lv_iinc (v := v5) (lv' := [(4, .int v5), (3, .int (nI 1)), (0, .ref (B + 0)), (1, .int x1), (2, .int x2)]) C.1 C.2.1 dX9_unlike_69 hl (k := 4) rfl (by rw [ev5, show Int32.ofInt (1) = nI 1 from by decide]) (by decide) rfl (fun ls hl => ?_)
        refine lv_goto (tgt := 31) C.1 C.2.1 dX9_unlike_72 (by decide) ?_
        obtain rfl := Option.some.inj hf
        exact kL _ rfl _ _ _ hG (lv_sub hl [2, 3, 4, 1, 0] rfl)
set_option maxRecDepth 100000 in
set_option maxHeartbeats 4000000 in
theorem kl_X9_unlike_31 {x1 : Int32} {x2 : Int32} {w : Mem} (C : CX p s m args meth c cX9_unlike 5 RX9 wc_X9_unlike (some .int))  : ∀ (n : Nat) (st : Int32 × Int32) (x : (Int32)) (H : Heap) (locs : List Loc) (ls : Array Slot), Gd s G A 28 B (entM G B w) X H locs → lv_has ls 5 [(0, .ref (B + 0)), (1, .int x1), (2, .int x2), (3, .int st.1), (4, .int st.2)] → lpw (sh_X9_unlike_s31 x1 x2 w) n st = some x →
    (∀ y' : Int32, x = y' → ∀ (H : Heap) (locs : List Loc) (ls : Array Slot), Gd s G A 28 B (entM G B w) X H locs → lv_has ls 5 [(0, .ref (B + 0)), (1, .int x1), (2, .int x2), (3, .int y')] → W p l e rm_X9_unlike s m args below meth c H locs 0 0 Q (F0 m 75 ls [])) → W p l e rm_X9_unlike s m args below meth c H locs 0 0 Q (F0 m 31 ls []) := by
  intro n
  induction n with
  | zero =>
    intro st x H locs ls hG hl hf
    cases hf
  | succ n ih =>
    intro st x H locs ls hG hl hf kX0
    obtain ⟨r, hr, hh⟩ := of_lpw hf
    refine kb_X9_unlike_31 C  hG hl hr (fun st2 e1 H locs ls hG hl => ?_) (fun y2 e1 H locs ls hG hl => ?_)
    · rcases hh with ⟨s3, e2, hh⟩ | e2
      · rw [e2] at e1
        cases e1
        exact ih _ _ _ _ _ hG hl hh kX0
      · rw [e2] at e1
        cases e1
    · rcases hh with ⟨s3, e2, hh⟩ | e2
      · rw [e2] at e1
        cases e1
      · rw [e2] at e1
        cases e1
        exact kX0 _ rfl _ _ _ hG hl
set_option maxRecDepth 100000 in
set_option maxHeartbeats 4000000 in
theorem kb_X9_unlike_75 {x1 : Int32} {x2 : Int32} {x3 : Int32} {w : Mem} {r : (Int32 × Int32) ⊕ ((Int32))} {H : Heap} {locs : List Loc} {ls : Array Slot} (C : CX p s m args meth c cX9_unlike 5 RX9 wc_X9_unlike (some .int))  (hG : Gd s G A 28 B (entM G B w) X H locs) (hl : lv_has ls 5 [(0, .ref (B + 0)), (1, .int x1), (2, .int x2), (3, .int x3)]) (hf : sh_X9_unlike_j75 x1 x2 x3 w = some r)
    (kL : ∀ st' : Int32 × Int32, r = Sum.inl st' → ∀ (H : Heap) (locs : List Loc) (ls : Array Slot), Gd s G A 28 B (entM G B w) X H locs → lv_has ls 5 [(0, .ref (B + 0)), (1, .int st'.1), (2, .int st'.2)] → W p l e rm_X9_unlike s m args below meth c H locs 0 0 Q (F0 m 4 ls []))
    (kX0 : ∀ y' : Int32, r = Sum.inr y' → ∀ (H : Heap) (locs : List Loc) (ls : Array Slot), Gd s G A 28 B (entM G B w) X H locs → lv_has ls 5 [(1, .int y')] → W p l e rm_X9_unlike s m args below meth c H locs 0 0 Q (F0 m 93 ls [])) :
    W p l e rm_X9_unlike s m args below meth c H locs 0 0 Q (F0 m 75 ls []) := by
  refine lv_iload_n C.1 C.2.1 dX9_unlike_75 rfl (lv_at hl 1 rfl) ?_
  refine lv_iload_n C.1 C.2.1 dX9_unlike_76 rfl (lv_at hl 3 rfl) ?_
  rcases of_ite hf with ⟨c1, hf⟩ | ⟨c1, hf⟩
  · refine lv_if_eq (tgt := 84) C.1 C.2.1 dX9_unlike_77 (by decide) (fun _ => ?_) (fun q => absurd c1 q)
    refine lv_iconst (v := nI 0) C.1 C.2.1 dX9_unlike_84 (by decide) ?_
    refine lv_iadd C.1 C.2.1 dX9_unlike_85 ?_
    obtain ⟨v2, ev2, hf⟩ := of_letv hf
    refine r_top ev2 ?_
    refine lv_istore_n (lv' := [(1, .int v2), (0, .ref (B + 0)), (2, .int x2), (3, .int x3)]) C.1 C.2.1 dX9_unlike_86 rfl hl (by decide) rfl (fun ls hl => ?_)
    obtain ⟨v3, ev3, hf⟩ := of_letv hf
    refine lv_iinc (v := v3) (lv' := [(2, .int v3), (1, .int v2), (0, .ref (B + 0)), (3, .int x3)]) C.1 C.2.1 dX9_unlike_87 hl (k := 2) rfl (by rw [ev3, show Int32.ofInt (1) = nI 1 from by decide]) (by decide) rfl (fun ls hl => ?_)
    refine lv_goto (tgt := 4) C.1 C.2.1 dX9_unlike_90 (by decide) ?_
    obtain rfl := Option.some.inj hf
    exact kL _ rfl _ _ _ hG (lv_sub hl [2, 1, 0] rfl)
  · refine lv_if_eq (tgt := 84) C.1 C.2.1 dX9_unlike_77 (by decide) (fun q => absurd q c1) (fun _ => ?_)
    refine lv_iconst (v := nI 1) C.1 C.2.1 dX9_unlike_80 (by decide) ?_
    refine lv_goto (tgt := 85) C.1 C.2.1 dX9_unlike_81 (by decide) ?_
    refine lv_iadd C.1 C.2.1 dX9_unlike_85 ?_
    obtain ⟨v4, ev4, hf⟩ := of_letv hf
    refine r_top ev4 ?_
    refine lv_istore_n (lv' := [(1, .int v4), (0, .ref (B + 0)), (2, .int x2), (3, .int x3)]) C.1 C.2.1 dX9_unlike_86 rfl hl (by decide) rfl (fun ls hl => ?_)
    obtain ⟨v5, ev5, hf⟩ := of_letv hf
    refine lv_iinc (v := v5) (lv' := [(2, .int v5), (1, .int v4), (0, .ref (B + 0)), (3, .int x3)]) C.1 C.2.1 dX9_unlike_87 hl (k := 2) rfl (by rw [ev5, show Int32.ofInt (1) = nI 1 from by decide]) (by decide) rfl (fun ls hl => ?_)
    refine lv_goto (tgt := 4) C.1 C.2.1 dX9_unlike_90 (by decide) ?_
    obtain rfl := Option.some.inj hf
    exact kL _ rfl _ _ _ hG (lv_sub hl [2, 1, 0] rfl)
set_option maxRecDepth 100000 in
set_option maxHeartbeats 4000000 in
theorem kb_X9_unlike_27 {x1 : Int32} {x2 : Int32} {s0 : Int32} {w : Mem} {r : (Int32 × Int32) ⊕ ((Int32))} {H : Heap} {locs : List Loc} {ls : Array Slot} (C : CX p s m args meth c cX9_unlike 5 RX9 wc_X9_unlike (some .int))  (hG : Gd s G A 28 B (entM G B w) X H locs) (hl : lv_has ls 5 [(0, .ref (B + 0)), (1, .int x1), (2, .int x2)]) (hf : sh_X9_unlike_j27 x1 x2 s0 w = some r)
    (kL : ∀ st' : Int32 × Int32, r = Sum.inl st' → ∀ (H : Heap) (locs : List Loc) (ls : Array Slot), Gd s G A 28 B (entM G B w) X H locs → lv_has ls 5 [(0, .ref (B + 0)), (1, .int st'.1), (2, .int st'.2)] → W p l e rm_X9_unlike s m args below meth c H locs 0 0 Q (F0 m 4 ls []))
    (kX0 : ∀ y' : Int32, r = Sum.inr y' → ∀ (H : Heap) (locs : List Loc) (ls : Array Slot), Gd s G A 28 B (entM G B w) X H locs → lv_has ls 5 [(1, .int y')] → W p l e rm_X9_unlike s m args below meth c H locs 0 0 Q (F0 m 93 ls [])) :
    W p l e rm_X9_unlike s m args below meth c H locs 0 0 Q (F0 m 27 ls [.int s0]) := by
  refine lv_istore_n (lv' := [(3, .int s0), (0, .ref (B + 0)), (1, .int x1), (2, .int x2)]) C.1 C.2.1 dX9_unlike_27 rfl hl (by decide) rfl (fun ls hl => ?_)
  refine lv_iconst (v := nI 0) C.1 C.2.1 dX9_unlike_28 (by decide) ?_
  refine lv_istore (lv' := [(4, .int (nI 0)), (3, .int s0), (0, .ref (B + 0)), (1, .int x1), (2, .int x2)]) C.1 C.2.1 dX9_unlike_29 hl (by decide) rfl (fun ls hl => ?_)
  obtain ⟨ex1, hex1, hf⟩ := of_bind hf
  refine kl_X9_unlike_31 C  FU (s0, nI 0) ex1 _ _ _ hG (lv_sub hl [2, 3, 4, 1, 0] rfl) hex1 (fun y e0 H locs ls hG hl => ?_)
  subst e0
  exact kb_X9_unlike_75 C  hG hl hf kL kX0
set_option maxRecDepth 100000 in
set_option maxHeartbeats 4000000 in
theorem kb_X9_unlike_4 {w : Mem} {st : Int32 × Int32} {r : (Int32 × Int32) ⊕ ((Int32))} {H : Heap} {locs : List Loc} {ls : Array Slot} (C : CX p s m args meth c cX9_unlike 5 RX9 wc_X9_unlike (some .int))  (hG : Gd s G A 28 B (entM G B w) X H locs) (hl : lv_has ls 5 [(0, .ref (B + 0)), (1, .int st.1), (2, .int st.2)]) (hf : sh_X9_unlike_s4 w st = some r)
    (kL : ∀ st' : Int32 × Int32, r = Sum.inl st' → ∀ (H : Heap) (locs : List Loc) (ls : Array Slot), Gd s G A 28 B (entM G B w) X H locs → lv_has ls 5 [(0, .ref (B + 0)), (1, .int st'.1), (2, .int st'.2)] → W p l e rm_X9_unlike s m args below meth c H locs 0 0 Q (F0 m 4 ls []))
    (kX0 : ∀ y' : Int32, r = Sum.inr y' → ∀ (H : Heap) (locs : List Loc) (ls : Array Slot), Gd s G A 28 B (entM G B w) X H locs → lv_has ls 5 [(1, .int y')] → W p l e rm_X9_unlike s m args below meth c H locs 0 0 Q (F0 m 93 ls [])) :
    W p l e rm_X9_unlike s m args below meth c H locs 0 0 Q (F0 m 4 ls []) := by
  refine lv_iload_n C.1 C.2.1 dX9_unlike_4 rfl (lv_at hl 2 rfl) ?_
  refine lv_aload_n C.1 C.2.1 dX9_unlike_5 rfl (lv_at hl 0 rfl) ?_
  refine gf_X9_217 C hG rfl dX9_unlike_6 ?_
  rcases of_ite hf with ⟨c1, hf⟩ | ⟨c1, hf⟩
  · refine lv_icmp_ge (tgt := 93) C.1 C.2.1 dX9_unlike_9 (by decide) (fun _ => ?_) (fun q => absurd c1 q)
    obtain rfl := Option.some.inj hf
    exact kX0 _ rfl _ _ _ hG (lv_sub hl [1] rfl)
  · refine lv_icmp_ge (tgt := 93) C.1 C.2.1 dX9_unlike_9 (by decide) (fun q => absurd q c1) (fun _ => ?_)
    refine lv_aload_n C.1 C.2.1 dX9_unlike_12 rfl (lv_at hl 0 rfl) ?_
    refine gf_X9_54 C hG rfl dX9_unlike_13 ?_
    refine lv_iload_n C.1 C.2.1 dX9_unlike_16 rfl (lv_at hl 2 rfl) ?_
    obtain ⟨v2, hv2, hf⟩ := of_bind hf
    obtain ⟨bv2, ev2⟩ := of_ldS hv2
    refine r_iald C hG (c0 := 15) (by decide) (entM_I (n := 24) rfl) bv2 dX9_unlike_17 ?_
    refine r_top ev2 ?_
    refine lv_iload_n C.1 C.2.1 dX9_unlike_18 rfl (lv_at hl 2 rfl) ?_
    rcases of_ite hf with ⟨c3, hf⟩ | ⟨c3, hf⟩
    · refine lv_icmp_ne (tgt := 26) C.1 C.2.1 dX9_unlike_19 (by decide) (fun q => absurd c3 q) (fun _ => ?_)
      refine lv_iconst (v := nI 1) C.1 C.2.1 dX9_unlike_22 (by decide) ?_
      refine lv_goto (tgt := 27) C.1 C.2.1 dX9_unlike_23 (by decide) ?_
      exact kb_X9_unlike_27 C  hG hl hf kL kX0
    · refine lv_icmp_ne (tgt := 26) C.1 C.2.1 dX9_unlike_19 (by decide) (fun _ => ?_) (fun q => absurd q c3)
      refine lv_iconst (v := nI 0) C.1 C.2.1 dX9_unlike_26 (by decide) ?_
      exact kb_X9_unlike_27 C  hG hl hf kL kX0
set_option maxRecDepth 100000 in
set_option maxHeartbeats 4000000 in
theorem kl_X9_unlike_4 {w : Mem} (C : CX p s m args meth c cX9_unlike 5 RX9 wc_X9_unlike (some .int))  : ∀ (n : Nat) (st : Int32 × Int32) (x : (Int32)) (H : Heap) (locs : List Loc) (ls : Array Slot), Gd s G A 28 B (entM G B w) X H locs → lv_has ls 5 [(0, .ref (B + 0)), (1, .int st.1), (2, .int st.2)] → lpw (sh_X9_unlike_s4 w) n st = some x →
    (∀ y' : Int32, x = y' → ∀ (H : Heap) (locs : List Loc) (ls : Array Slot), Gd s G A 28 B (entM G B w) X H locs → lv_has ls 5 [(1, .int y')] → W p l e rm_X9_unlike s m args below meth c H locs 0 0 Q (F0 m 93 ls [])) → W p l e rm_X9_unlike s m args below meth c H locs 0 0 Q (F0 m 4 ls []) := by
  intro n
  induction n with
  | zero =>
    intro st x H locs ls hG hl hf
    cases hf
  | succ n ih =>
    intro st x H locs ls hG hl hf kX0
    obtain ⟨r, hr, hh⟩ := of_lpw hf
    refine kb_X9_unlike_4 C  hG hl hr (fun st2 e1 H locs ls hG hl => ?_) (fun y2 e1 H locs ls hG hl => ?_)
    · rcases hh with ⟨s3, e2, hh⟩ | e2
      · rw [e2] at e1
        cases e1
        exact ih _ _ _ _ _ hG hl hh kX0
      · rw [e2] at e1
        cases e1
    · rcases hh with ⟨s3, e2, hh⟩ | e2
      · rw [e2] at e1
        cases e1
      · rw [e2] at e1
        cases e1
        exact kX0 _ rfl _ _ _ hG hl
set_option maxRecDepth 100000 in
set_option maxHeartbeats 4000000 in
theorem kb_X9_unlike_0 {w : Mem} {out : Int32} {H : Heap} {locs : List Loc} {ls : Array Slot} (C : CX p s m args meth c cX9_unlike 5 RX9 wc_X9_unlike (some .int))  (hG : Gd s G A 28 B (entM G B w) X H locs) (hl : lv_has ls 5 [(0, .ref (B + 0))]) (hf : sh_X9_unlike w = some out) :
    W p l e rm_X9_unlike s m args below meth c H locs 0 0 (MQ below (CPost G A 28 B (entM G B w) X (some (.int out))) args s 0 0 A) (F0 m 0 ls []) := by
  refine lv_iconst (v := nI 0) C.1 C.2.1 dX9_unlike_0 (by decide) ?_
  refine lv_istore_n (lv' := [(1, .int (nI 0)), (0, .ref (B + 0))]) C.1 C.2.1 dX9_unlike_1 rfl hl (by decide) rfl (fun ls hl => ?_)
  refine lv_iconst (v := nI 0) C.1 C.2.1 dX9_unlike_2 (by decide) ?_
  refine lv_istore_n (lv' := [(2, .int (nI 0)), (1, .int (nI 0)), (0, .ref (B + 0))]) C.1 C.2.1 dX9_unlike_3 rfl hl (by decide) rfl (fun ls hl => ?_)
  obtain ⟨ex1, hex1, hf⟩ := of_bind hf
  refine kl_X9_unlike_4 C  FU (nI 0, nI 0) ex1 _ _ _ hG (lv_sub hl [2, 1, 0] rfl) hex1 (fun y e0 H locs ls hG hl => ?_)
  subst e0
  refine lv_iload_n C.1 C.2.1 dX9_unlike_93 rfl (lv_at hl 0 rfl) ?_
  obtain rfl := Option.some.inj hf
  exact r_iret C hG dX9_unlike_94
set_option maxRecDepth 100000 in
set_option maxHeartbeats 4000000 in
theorem mt_X9_unlike (l : Launch) {G : GG} {A : Nat → Prop} {B : Nat} {X : va_W} {w : Mem} {out : Int32}  (hf : sh_X9_unlike w = some out) : MetW l yX9_unlike wc_X9_unlike rm_X9_unlike G A 28 B (entM G B w) X [.ref (B + 0)] (some (.int out)) (entM G B w) := by
  refine Met.ofW (cc := cX9_unlike) (maxL := 5) (ret := (some .int)) (by decide) rfl ?_
  intro p e s m args below meth c s₁ B0 hml hv
  obtain ⟨rfl, hEv, hWd⟩ := hv
  have C : CX p s m _ meth c cX9_unlike 5 RX9 wc_X9_unlike (some .int) := ⟨B0.exec, B0.bytes, hml, findClass_of_methodNamed B0.named, atoms_spec (ws := wc_X9_unlike) B0.pre, B0.returns, B0.notSynchronized⟩
  have hl := lv_entry [.ref (B + 0)] (n := 5) (Nat.le_of_ble_eq_true rfl)
  rw [lg_entry_eq]
  generalize (lg_sl [.ref (B + 0)] ++ List.replicate (5 - (lg_sl [.ref (B + 0)]).length) Slot.unset).toArray = ls at hl ⊢
  have hl : lv_has ls 5 [(0, .ref (B + 0))] := hl
  exact kb_X9_unlike_0 C  ⟨hEv, hWd, va_S.rf⟩ hl hf
abbrev wc_X9_eulerOfAll : List Cond := Cond.code yX9_eulerOfAll cX9_eulerOfAll 3 (some .int) :: TG
abbrev rm_X9_eulerOfAll : Room := { frames := 2, cells := 0, slots := 0, locals := 100 }
theorem cd_X9_eulerOfAll : yX9_eulerOfAll.cls = RX9 ∧ yX9_eulerOfAll.cls ≠ "java/lang/invoke/MethodHandle" ∧ yX9_eulerOfAll.cls ≠ "java/lang/invoke/VarHandle" ∧ (parseMethodDescriptor yX9_eulerOfAll.desc).map (fun d => d.parameters.length) = some 0 := by decide +kernel
theorem dX9_eulerOfAll_0 : decode cX9_eulerOfAll 0 = .ok (.iconst 0, 1) := by decide +kernel
theorem dX9_eulerOfAll_1 : decode cX9_eulerOfAll 1 = .ok (.istore_n 1, 1) := by decide +kernel
theorem dX9_eulerOfAll_2 : decode cX9_eulerOfAll 2 = .ok (.iconst 0, 1) := by decide +kernel
theorem dX9_eulerOfAll_3 : decode cX9_eulerOfAll 3 = .ok (.istore_n 2, 1) := by decide +kernel
theorem dX9_eulerOfAll_4 : decode cX9_eulerOfAll 4 = .ok (.iload_n 2, 1) := by decide +kernel
theorem dX9_eulerOfAll_5 : decode cX9_eulerOfAll 5 = .ok (.aload_n 0, 1) := by decide +kernel
theorem dX9_eulerOfAll_6 : decode cX9_eulerOfAll 6 = .ok (.getfield 217, 3) := by decide +kernel
theorem dX9_eulerOfAll_9 : decode cX9_eulerOfAll 9 = .ok (.if_icmp .ge 32, 3) := by decide +kernel
theorem dX9_eulerOfAll_12 : decode cX9_eulerOfAll 12 = .ok (.iload_n 1, 1) := by decide +kernel
theorem dX9_eulerOfAll_13 : decode cX9_eulerOfAll 13 = .ok (.aload_n 0, 1) := by decide +kernel
theorem dX9_eulerOfAll_14 : decode cX9_eulerOfAll 14 = .ok (.getfield 54, 3) := by decide +kernel
theorem dX9_eulerOfAll_17 : decode cX9_eulerOfAll 17 = .ok (.iload_n 2, 1) := by decide +kernel
theorem dX9_eulerOfAll_18 : decode cX9_eulerOfAll 18 = .ok (.iaload, 1) := by decide +kernel
theorem dX9_eulerOfAll_19 : decode cX9_eulerOfAll 19 = .ok (.iload_n 2, 1) := by decide +kernel
theorem dX9_eulerOfAll_20 : decode cX9_eulerOfAll 20 = .ok (.if_icmp .ne 12, 3) := by decide +kernel
theorem dX9_eulerOfAll_23 : decode cX9_eulerOfAll 23 = .ok (.aload_n 0, 1) := by decide +kernel
theorem dX9_eulerOfAll_24 : decode cX9_eulerOfAll 24 = .ok (.getfield 57, 3) := by decide +kernel
theorem dX9_eulerOfAll_27 : decode cX9_eulerOfAll 27 = .ok (.iload_n 2, 1) := by decide +kernel
theorem dX9_eulerOfAll_28 : decode cX9_eulerOfAll 28 = .ok (.iaload, 1) := by decide +kernel
theorem dX9_eulerOfAll_29 : decode cX9_eulerOfAll 29 = .ok (.goto 4, 3) := by decide +kernel
theorem dX9_eulerOfAll_32 : decode cX9_eulerOfAll 32 = .ok (.iconst 0, 1) := by decide +kernel
theorem dX9_eulerOfAll_33 : decode cX9_eulerOfAll 33 = .ok (.iadd, 1) := by decide +kernel
theorem dX9_eulerOfAll_34 : decode cX9_eulerOfAll 34 = .ok (.istore_n 1, 1) := by decide +kernel
theorem dX9_eulerOfAll_35 : decode cX9_eulerOfAll 35 = .ok (.iinc 2 1, 3) := by decide +kernel
theorem dX9_eulerOfAll_38 : decode cX9_eulerOfAll 38 = .ok (.goto (-34), 3) := by decide +kernel
theorem dX9_eulerOfAll_41 : decode cX9_eulerOfAll 41 = .ok (.iload_n 1, 1) := by decide +kernel
theorem dX9_eulerOfAll_42 : decode cX9_eulerOfAll 42 = .ok (.ireturn, 1) := by decide +kernel
set_option maxRecDepth 100000 in
set_option maxHeartbeats 4000000 in
theorem kb_X9_eulerOfAll_4 {w : Mem} {st : Int32 × Int32} {r : (Int32 × Int32) ⊕ ((Int32))} {H : Heap} {locs : List Loc} {ls : Array Slot} (C : CX p s m args meth c cX9_eulerOfAll 3 RX9 wc_X9_eulerOfAll (some .int))  (hG : Gd s G A 28 B (entM G B w) X H locs) (hl : lv_has ls 3 [(0, .ref (B + 0)), (1, .int st.1), (2, .int st.2)]) (hf : sh_X9_eulerOfAll_s4 w st = some r)
    (kL : ∀ st' : Int32 × Int32, r = Sum.inl st' → ∀ (H : Heap) (locs : List Loc) (ls : Array Slot), Gd s G A 28 B (entM G B w) X H locs → lv_has ls 3 [(0, .ref (B + 0)), (1, .int st'.1), (2, .int st'.2)] → W p l e rm_X9_eulerOfAll s m args below meth c H locs 0 0 Q (F0 m 4 ls []))
    (kX0 : ∀ y' : Int32, r = Sum.inr y' → ∀ (H : Heap) (locs : List Loc) (ls : Array Slot), Gd s G A 28 B (entM G B w) X H locs → lv_has ls 3 [(1, .int y')] → W p l e rm_X9_eulerOfAll s m args below meth c H locs 0 0 Q (F0 m 41 ls [])) :
    W p l e rm_X9_eulerOfAll s m args below meth c H locs 0 0 Q (F0 m 4 ls []) := by
  refine lv_iload_n C.1 C.2.1 dX9_eulerOfAll_4 rfl (lv_at hl 2 rfl) ?_
  refine lv_aload_n C.1 C.2.1 dX9_eulerOfAll_5 rfl (lv_at hl 0 rfl) ?_
  refine gf_X9_217 C hG rfl dX9_eulerOfAll_6 ?_
  rcases of_ite hf with ⟨c1, hf⟩ | ⟨c1, hf⟩
  · refine lv_icmp_ge (tgt := 41) C.1 C.2.1 dX9_eulerOfAll_9 (by decide) (fun _ => ?_) (fun q => absurd c1 q)
    obtain rfl := Option.some.inj hf
    exact kX0 _ rfl _ _ _ hG (lv_sub hl [1] rfl)
  · refine lv_icmp_ge (tgt := 41) C.1 C.2.1 dX9_eulerOfAll_9 (by decide) (fun q => absurd q c1) (fun _ => ?_)
    refine lv_iload_n C.1 C.2.1 dX9_eulerOfAll_12 rfl (lv_at hl 1 rfl) ?_
    refine lv_aload_n C.1 C.2.1 dX9_eulerOfAll_13 rfl (lv_at hl 0 rfl) ?_
    refine gf_X9_54 C hG rfl dX9_eulerOfAll_14 ?_
    refine lv_iload_n C.1 C.2.1 dX9_eulerOfAll_17 rfl (lv_at hl 2 rfl) ?_
    obtain ⟨v2, hv2, hf⟩ := of_bind hf
    obtain ⟨bv2, ev2⟩ := of_ldS hv2
    refine r_iald C hG (c0 := 15) (by decide) (entM_I (n := 24) rfl) bv2 dX9_eulerOfAll_18 ?_
    refine r_top ev2 ?_
    refine lv_iload_n C.1 C.2.1 dX9_eulerOfAll_19 rfl (lv_at hl 2 rfl) ?_
    rcases of_ite hf with ⟨c3, hf⟩ | ⟨c3, hf⟩
    · refine lv_icmp_ne (tgt := 32) C.1 C.2.1 dX9_eulerOfAll_20 (by decide) (fun q => absurd c3 q) (fun _ => ?_)
      refine lv_aload_n C.1 C.2.1 dX9_eulerOfAll_23 rfl (lv_at hl 0 rfl) ?_
      refine gf_X9_57 C hG rfl dX9_eulerOfAll_24 ?_
      refine lv_iload_n C.1 C.2.1 dX9_eulerOfAll_27 rfl (lv_at hl 2 rfl) ?_
      obtain ⟨v6, hv6, hf⟩ := of_bind hf
      obtain ⟨bv6, ev6⟩ := of_ldS hv6
      refine r_iald C hG (c0 := 16) (by decide) (entM_I (n := 24) rfl) bv6 dX9_eulerOfAll_28 ?_
      refine r_top ev6 ?_
      refine lv_goto (tgt := 33) C.1 C.2.1 dX9_eulerOfAll_29 (by decide) ?_
      refine lv_iadd C.1 C.2.1 dX9_eulerOfAll_33 ?_
      obtain ⟨v7, ev7, hf⟩ := of_letv hf
      refine r_top ev7 ?_
      refine lv_istore_n (lv' := [(1, .int v7), (0, .ref (B + 0)), (2, .int st.2)]) C.1 C.2.1 dX9_eulerOfAll_34 rfl hl (by decide) rfl (fun ls hl => ?_)
      obtain ⟨v8, ev8, hf⟩ := of_letv hf
      refine lv_iinc (v := v8) (lv' := [(2, .int v8), (1, .int v7), (0, .ref (B + 0))]) C.1 C.2.1 dX9_eulerOfAll_35 hl (k := 2) rfl (by rw [ev8, show Int32.ofInt (1) = nI 1 from by decide]) (by decide) rfl (fun ls hl => ?_)
      refine lv_goto (tgt := 4) C.1 C.2.1 dX9_eulerOfAll_38 (by decide) ?_
      obtain rfl := Option.some.inj hf
      exact kL _ rfl _ _ _ hG (lv_sub hl [2, 1, 0] rfl)
    · refine lv_icmp_ne (tgt := 32) C.1 C.2.1 dX9_eulerOfAll_20 (by decide) (fun _ => ?_) (fun q => absurd q c3)
      refine lv_iconst (v := nI 0) C.1 C.2.1 dX9_eulerOfAll_32 (by decide) ?_
      refine lv_iadd C.1 C.2.1 dX9_eulerOfAll_33 ?_
      obtain ⟨v4, ev4, hf⟩ := of_letv hf
      refine r_top ev4 ?_
      refine lv_istore_n (lv' := [(1, .int v4), (0, .ref (B + 0)), (2, .int st.2)]) C.1 C.2.1 dX9_eulerOfAll_34 rfl hl (by decide) rfl (fun ls hl => ?_)
      obtain ⟨v5, ev5, hf⟩ := of_letv hf
      refine lv_iinc (v := v5) (lv' := [(2, .int v5), (1, .int v4), (0, .ref (B + 0))]) C.1 C.2.1 dX9_eulerOfAll_35 hl (k := 2) rfl (by rw [ev5, show Int32.ofInt (1) = nI 1 from by decide]) (by decide) rfl (fun ls hl => ?_)
      refine lv_goto (tgt := 4) C.1 C.2.1 dX9_eulerOfAll_38 (by decide) ?_
      obtain rfl := Option.some.inj hf
      exact kL _ rfl _ _ _ hG (lv_sub hl [2, 1, 0] rfl)
set_option maxRecDepth 100000 in
set_option maxHeartbeats 4000000 in
theorem kl_X9_eulerOfAll_4 {w : Mem} (C : CX p s m args meth c cX9_eulerOfAll 3 RX9 wc_X9_eulerOfAll (some .int))  : ∀ (n : Nat) (st : Int32 × Int32) (x : (Int32)) (H : Heap) (locs : List Loc) (ls : Array Slot), Gd s G A 28 B (entM G B w) X H locs → lv_has ls 3 [(0, .ref (B + 0)), (1, .int st.1), (2, .int st.2)] → lpw (sh_X9_eulerOfAll_s4 w) n st = some x →
    (∀ y' : Int32, x = y' → ∀ (H : Heap) (locs : List Loc) (ls : Array Slot), Gd s G A 28 B (entM G B w) X H locs → lv_has ls 3 [(1, .int y')] → W p l e rm_X9_eulerOfAll s m args below meth c H locs 0 0 Q (F0 m 41 ls [])) → W p l e rm_X9_eulerOfAll s m args below meth c H locs 0 0 Q (F0 m 4 ls []) := by
  intro n
  induction n with
  | zero =>
    intro st x H locs ls hG hl hf
    cases hf
  | succ n ih =>
    intro st x H locs ls hG hl hf kX0
    obtain ⟨r, hr, hh⟩ := of_lpw hf
    refine kb_X9_eulerOfAll_4 C  hG hl hr (fun st2 e1 H locs ls hG hl => ?_) (fun y2 e1 H locs ls hG hl => ?_)
    · rcases hh with ⟨s3, e2, hh⟩ | e2
      · rw [e2] at e1
        cases e1
        exact ih _ _ _ _ _ hG hl hh kX0
      · rw [e2] at e1
        cases e1
    · rcases hh with ⟨s3, e2, hh⟩ | e2
      · rw [e2] at e1
        cases e1
      · rw [e2] at e1
        cases e1
        exact kX0 _ rfl _ _ _ hG hl
set_option maxRecDepth 100000 in
set_option maxHeartbeats 4000000 in
theorem kb_X9_eulerOfAll_0 {w : Mem} {out : Int32} {H : Heap} {locs : List Loc} {ls : Array Slot} (C : CX p s m args meth c cX9_eulerOfAll 3 RX9 wc_X9_eulerOfAll (some .int))  (hG : Gd s G A 28 B (entM G B w) X H locs) (hl : lv_has ls 3 [(0, .ref (B + 0))]) (hf : sh_X9_eulerOfAll w = some out) :
    W p l e rm_X9_eulerOfAll s m args below meth c H locs 0 0 (MQ below (CPost G A 28 B (entM G B w) X (some (.int out))) args s 0 0 A) (F0 m 0 ls []) := by
  refine lv_iconst (v := nI 0) C.1 C.2.1 dX9_eulerOfAll_0 (by decide) ?_
  refine lv_istore_n (lv' := [(1, .int (nI 0)), (0, .ref (B + 0))]) C.1 C.2.1 dX9_eulerOfAll_1 rfl hl (by decide) rfl (fun ls hl => ?_)
  refine lv_iconst (v := nI 0) C.1 C.2.1 dX9_eulerOfAll_2 (by decide) ?_
  refine lv_istore_n (lv' := [(2, .int (nI 0)), (1, .int (nI 0)), (0, .ref (B + 0))]) C.1 C.2.1 dX9_eulerOfAll_3 rfl hl (by decide) rfl (fun ls hl => ?_)
  obtain ⟨ex1, hex1, hf⟩ := of_bind hf
  refine kl_X9_eulerOfAll_4 C  FU (nI 0, nI 0) ex1 _ _ _ hG (lv_sub hl [2, 1, 0] rfl) hex1 (fun y e0 H locs ls hG hl => ?_)
  subst e0
  refine lv_iload_n C.1 C.2.1 dX9_eulerOfAll_41 rfl (lv_at hl 0 rfl) ?_
  obtain rfl := Option.some.inj hf
  exact r_iret C hG dX9_eulerOfAll_42
set_option maxRecDepth 100000 in
set_option maxHeartbeats 4000000 in
theorem mt_X9_eulerOfAll (l : Launch) {G : GG} {A : Nat → Prop} {B : Nat} {X : va_W} {w : Mem} {out : Int32}  (hf : sh_X9_eulerOfAll w = some out) : MetW l yX9_eulerOfAll wc_X9_eulerOfAll rm_X9_eulerOfAll G A 28 B (entM G B w) X [.ref (B + 0)] (some (.int out)) (entM G B w) := by
  refine Met.ofW (cc := cX9_eulerOfAll) (maxL := 3) (ret := (some .int)) (by decide) rfl ?_
  intro p e s m args below meth c s₁ B0 hml hv
  obtain ⟨rfl, hEv, hWd⟩ := hv
  have C : CX p s m _ meth c cX9_eulerOfAll 3 RX9 wc_X9_eulerOfAll (some .int) := ⟨B0.exec, B0.bytes, hml, findClass_of_methodNamed B0.named, atoms_spec (ws := wc_X9_eulerOfAll) B0.pre, B0.returns, B0.notSynchronized⟩
  have hl := lv_entry [.ref (B + 0)] (n := 3) (Nat.le_of_ble_eq_true rfl)
  rw [lg_entry_eq]
  generalize (lg_sl [.ref (B + 0)] ++ List.replicate (3 - (lg_sl [.ref (B + 0)]).length) Slot.unset).toArray = ls at hl ⊢
  have hl : lv_has ls 3 [(0, .ref (B + 0))] := hl
  exact kb_X9_eulerOfAll_0 C  ⟨hEv, hWd, va_S.rf⟩ hl hf
abbrev wc_X9_withoutRims : List Cond := Cond.code yX9_withoutRims cX9_withoutRims 3 (some .int) :: TG
abbrev rm_X9_withoutRims : Room := { frames := 2, cells := 0, slots := 0, locals := 100 }
theorem cd_X9_withoutRims : yX9_withoutRims.cls = RX9 ∧ yX9_withoutRims.cls ≠ "java/lang/invoke/MethodHandle" ∧ yX9_withoutRims.cls ≠ "java/lang/invoke/VarHandle" ∧ (parseMethodDescriptor yX9_withoutRims.desc).map (fun d => d.parameters.length) = some 0 := by decide +kernel
theorem dX9_withoutRims_0 : decode cX9_withoutRims 0 = .ok (.iconst 0, 1) := by decide +kernel
theorem dX9_withoutRims_1 : decode cX9_withoutRims 1 = .ok (.istore_n 1, 1) := by decide +kernel
theorem dX9_withoutRims_2 : decode cX9_withoutRims 2 = .ok (.iconst 0, 1) := by decide +kernel
theorem dX9_withoutRims_3 : decode cX9_withoutRims 3 = .ok (.istore_n 2, 1) := by decide +kernel
theorem dX9_withoutRims_4 : decode cX9_withoutRims 4 = .ok (.iload_n 2, 1) := by decide +kernel
theorem dX9_withoutRims_5 : decode cX9_withoutRims 5 = .ok (.aload_n 0, 1) := by decide +kernel
theorem dX9_withoutRims_6 : decode cX9_withoutRims 6 = .ok (.getfield 217, 3) := by decide +kernel
theorem dX9_withoutRims_9 : decode cX9_withoutRims 9 = .ok (.if_icmp .ge 36, 3) := by decide +kernel
theorem dX9_withoutRims_12 : decode cX9_withoutRims 12 = .ok (.iload_n 1, 1) := by decide +kernel
theorem dX9_withoutRims_13 : decode cX9_withoutRims 13 = .ok (.aload_n 0, 1) := by decide +kernel
theorem dX9_withoutRims_14 : decode cX9_withoutRims 14 = .ok (.getfield 54, 3) := by decide +kernel
theorem dX9_withoutRims_17 : decode cX9_withoutRims 17 = .ok (.iload_n 2, 1) := by decide +kernel
theorem dX9_withoutRims_18 : decode cX9_withoutRims 18 = .ok (.iaload, 1) := by decide +kernel
theorem dX9_withoutRims_19 : decode cX9_withoutRims 19 = .ok (.iload_n 2, 1) := by decide +kernel
theorem dX9_withoutRims_20 : decode cX9_withoutRims 20 = .ok (.if_icmp .ne 16, 3) := by decide +kernel
theorem dX9_withoutRims_23 : decode cX9_withoutRims 23 = .ok (.aload_n 0, 1) := by decide +kernel
theorem dX9_withoutRims_24 : decode cX9_withoutRims 24 = .ok (.getfield 60, 3) := by decide +kernel
theorem dX9_withoutRims_27 : decode cX9_withoutRims 27 = .ok (.iload_n 2, 1) := by decide +kernel
theorem dX9_withoutRims_28 : decode cX9_withoutRims 28 = .ok (.iaload, 1) := by decide +kernel
theorem dX9_withoutRims_29 : decode cX9_withoutRims 29 = .ok (.ifCond .ne 7, 3) := by decide +kernel
theorem dX9_withoutRims_32 : decode cX9_withoutRims 32 = .ok (.iconst 1, 1) := by decide +kernel
theorem dX9_withoutRims_33 : decode cX9_withoutRims 33 = .ok (.goto 4, 3) := by decide +kernel
theorem dX9_withoutRims_36 : decode cX9_withoutRims 36 = .ok (.iconst 0, 1) := by decide +kernel
theorem dX9_withoutRims_37 : decode cX9_withoutRims 37 = .ok (.iadd, 1) := by decide +kernel
theorem dX9_withoutRims_38 : decode cX9_withoutRims 38 = .ok (.istore_n 1, 1) := by decide +kernel
theorem dX9_withoutRims_39 : decode cX9_withoutRims 39 = .ok (.iinc 2 1, 3) := by decide +kernel
theorem dX9_withoutRims_42 : decode cX9_withoutRims 42 = .ok (.goto (-38), 3) := by decide +kernel
theorem dX9_withoutRims_45 : decode cX9_withoutRims 45 = .ok (.iload_n 1, 1) := by decide +kernel
theorem dX9_withoutRims_46 : decode cX9_withoutRims 46 = .ok (.ireturn, 1) := by decide +kernel
set_option maxRecDepth 100000 in
set_option maxHeartbeats 4000000 in
theorem kb_X9_withoutRims_4 {w : Mem} {st : Int32 × Int32} {r : (Int32 × Int32) ⊕ ((Int32))} {H : Heap} {locs : List Loc} {ls : Array Slot} (C : CX p s m args meth c cX9_withoutRims 3 RX9 wc_X9_withoutRims (some .int))  (hG : Gd s G A 28 B (entM G B w) X H locs) (hl : lv_has ls 3 [(0, .ref (B + 0)), (1, .int st.1), (2, .int st.2)]) (hf : sh_X9_withoutRims_s4 w st = some r)
    (kL : ∀ st' : Int32 × Int32, r = Sum.inl st' → ∀ (H : Heap) (locs : List Loc) (ls : Array Slot), Gd s G A 28 B (entM G B w) X H locs → lv_has ls 3 [(0, .ref (B + 0)), (1, .int st'.1), (2, .int st'.2)] → W p l e rm_X9_withoutRims s m args below meth c H locs 0 0 Q (F0 m 4 ls []))
    (kX0 : ∀ y' : Int32, r = Sum.inr y' → ∀ (H : Heap) (locs : List Loc) (ls : Array Slot), Gd s G A 28 B (entM G B w) X H locs → lv_has ls 3 [(1, .int y')] → W p l e rm_X9_withoutRims s m args below meth c H locs 0 0 Q (F0 m 45 ls [])) :
    W p l e rm_X9_withoutRims s m args below meth c H locs 0 0 Q (F0 m 4 ls []) := by
  refine lv_iload_n C.1 C.2.1 dX9_withoutRims_4 rfl (lv_at hl 2 rfl) ?_
  refine lv_aload_n C.1 C.2.1 dX9_withoutRims_5 rfl (lv_at hl 0 rfl) ?_
  refine gf_X9_217 C hG rfl dX9_withoutRims_6 ?_
  rcases of_ite hf with ⟨c1, hf⟩ | ⟨c1, hf⟩
  · refine lv_icmp_ge (tgt := 45) C.1 C.2.1 dX9_withoutRims_9 (by decide) (fun _ => ?_) (fun q => absurd c1 q)
    obtain rfl := Option.some.inj hf
    exact kX0 _ rfl _ _ _ hG (lv_sub hl [1] rfl)
  · refine lv_icmp_ge (tgt := 45) C.1 C.2.1 dX9_withoutRims_9 (by decide) (fun q => absurd q c1) (fun _ => ?_)
    refine lv_iload_n C.1 C.2.1 dX9_withoutRims_12 rfl (lv_at hl 1 rfl) ?_
    refine lv_aload_n C.1 C.2.1 dX9_withoutRims_13 rfl (lv_at hl 0 rfl) ?_
    refine gf_X9_54 C hG rfl dX9_withoutRims_14 ?_
    refine lv_iload_n C.1 C.2.1 dX9_withoutRims_17 rfl (lv_at hl 2 rfl) ?_
    obtain ⟨v2, hv2, hf⟩ := of_bind hf
    obtain ⟨bv2, ev2⟩ := of_ldS hv2
    refine r_iald C hG (c0 := 15) (by decide) (entM_I (n := 24) rfl) bv2 dX9_withoutRims_18 ?_
    refine r_top ev2 ?_
    refine lv_iload_n C.1 C.2.1 dX9_withoutRims_19 rfl (lv_at hl 2 rfl) ?_
    rcases of_ite hf with ⟨c3, hf⟩ | ⟨c3, hf⟩
    · refine lv_icmp_ne (tgt := 36) C.1 C.2.1 dX9_withoutRims_20 (by decide) (fun q => absurd c3 q) (fun _ => ?_)
      refine lv_aload_n C.1 C.2.1 dX9_withoutRims_23 rfl (lv_at hl 0 rfl) ?_
      refine gf_X9_60 C hG rfl dX9_withoutRims_24 ?_
      refine lv_iload_n C.1 C.2.1 dX9_withoutRims_27 rfl (lv_at hl 2 rfl) ?_
      obtain ⟨v6, hv6, hf⟩ := of_bind hf
      obtain ⟨bv6, ev6⟩ := of_ldS hv6
      refine r_iald C hG (c0 := 17) (by decide) (entM_I (n := 24) rfl) bv6 dX9_withoutRims_28 ?_
      refine r_top ev6 ?_
      rcases of_ite hf with ⟨c7, hf⟩ | ⟨c7, hf⟩
      · refine lv_if_ne (tgt := 36) C.1 C.2.1 dX9_withoutRims_29 (by decide) (fun q => absurd c7 q) (fun _ => ?_)
        refine lv_iconst (v := nI 1) C.1 C.2.1 dX9_withoutRims_32 (by decide) ?_
        refine lv_goto (tgt := 37) C.1 C.2.1 dX9_withoutRims_33 (by decide) ?_
        refine lv_iadd C.1 C.2.1 dX9_withoutRims_37 ?_
        obtain ⟨v10, ev10, hf⟩ := of_letv hf
        refine r_top ev10 ?_
        refine lv_istore_n (lv' := [(1, .int v10), (0, .ref (B + 0)), (2, .int st.2)]) C.1 C.2.1 dX9_withoutRims_38 rfl hl (by decide) rfl (fun ls hl => ?_)
        obtain ⟨v11, ev11, hf⟩ := of_letv hf
        refine lv_iinc (v := v11) (lv' := [(2, .int v11), (1, .int v10), (0, .ref (B + 0))]) C.1 C.2.1 dX9_withoutRims_39 hl (k := 2) rfl (by rw [ev11, show Int32.ofInt (1) = nI 1 from by decide]) (by decide) rfl (fun ls hl => ?_)
        refine lv_goto (tgt := 4) C.1 C.2.1 dX9_withoutRims_42 (by decide) ?_
        obtain rfl := Option.some.inj hf
        exact kL _ rfl _ _ _ hG (lv_sub hl [2, 1, 0] rfl)
      · refine lv_if_ne (tgt := 36) C.1 C.2.1 dX9_withoutRims_29 (by decide) (fun _ => ?_) (fun q => absurd q c7)
        refine lv_iconst (v := nI 0) C.1 C.2.1 dX9_withoutRims_36 (by decide) ?_
        refine lv_iadd C.1 C.2.1 dX9_withoutRims_37 ?_
        obtain ⟨v8, ev8, hf⟩ := of_letv hf
        refine r_top ev8 ?_
        refine lv_istore_n (lv' := [(1, .int v8), (0, .ref (B + 0)), (2, .int st.2)]) C.1 C.2.1 dX9_withoutRims_38 rfl hl (by decide) rfl (fun ls hl => ?_)
        obtain ⟨v9, ev9, hf⟩ := of_letv hf
        refine lv_iinc (v := v9) (lv' := [(2, .int v9), (1, .int v8), (0, .ref (B + 0))]) C.1 C.2.1 dX9_withoutRims_39 hl (k := 2) rfl (by rw [ev9, show Int32.ofInt (1) = nI 1 from by decide]) (by decide) rfl (fun ls hl => ?_)
        refine lv_goto (tgt := 4) C.1 C.2.1 dX9_withoutRims_42 (by decide) ?_
        obtain rfl := Option.some.inj hf
        exact kL _ rfl _ _ _ hG (lv_sub hl [2, 1, 0] rfl)
    · refine lv_icmp_ne (tgt := 36) C.1 C.2.1 dX9_withoutRims_20 (by decide) (fun _ => ?_) (fun q => absurd q c3)
      refine lv_iconst (v := nI 0) C.1 C.2.1 dX9_withoutRims_36 (by decide) ?_
      refine lv_iadd C.1 C.2.1 dX9_withoutRims_37 ?_
      obtain ⟨v4, ev4, hf⟩ := of_letv hf
      refine r_top ev4 ?_
      refine lv_istore_n (lv' := [(1, .int v4), (0, .ref (B + 0)), (2, .int st.2)]) C.1 C.2.1 dX9_withoutRims_38 rfl hl (by decide) rfl (fun ls hl => ?_)
      obtain ⟨v5, ev5, hf⟩ := of_letv hf
      refine lv_iinc (v := v5) (lv' := [(2, .int v5), (1, .int v4), (0, .ref (B + 0))]) C.1 C.2.1 dX9_withoutRims_39 hl (k := 2) rfl (by rw [ev5, show Int32.ofInt (1) = nI 1 from by decide]) (by decide) rfl (fun ls hl => ?_)
      refine lv_goto (tgt := 4) C.1 C.2.1 dX9_withoutRims_42 (by decide) ?_
      obtain rfl := Option.some.inj hf
      exact kL _ rfl _ _ _ hG (lv_sub hl [2, 1, 0] rfl)
set_option maxRecDepth 100000 in
set_option maxHeartbeats 4000000 in
theorem kl_X9_withoutRims_4 {w : Mem} (C : CX p s m args meth c cX9_withoutRims 3 RX9 wc_X9_withoutRims (some .int))  : ∀ (n : Nat) (st : Int32 × Int32) (x : (Int32)) (H : Heap) (locs : List Loc) (ls : Array Slot), Gd s G A 28 B (entM G B w) X H locs → lv_has ls 3 [(0, .ref (B + 0)), (1, .int st.1), (2, .int st.2)] → lpw (sh_X9_withoutRims_s4 w) n st = some x →
    (∀ y' : Int32, x = y' → ∀ (H : Heap) (locs : List Loc) (ls : Array Slot), Gd s G A 28 B (entM G B w) X H locs → lv_has ls 3 [(1, .int y')] → W p l e rm_X9_withoutRims s m args below meth c H locs 0 0 Q (F0 m 45 ls [])) → W p l e rm_X9_withoutRims s m args below meth c H locs 0 0 Q (F0 m 4 ls []) := by
  intro n
  induction n with
  | zero =>
    intro st x H locs ls hG hl hf
    cases hf
  | succ n ih =>
    intro st x H locs ls hG hl hf kX0
    obtain ⟨r, hr, hh⟩ := of_lpw hf
    refine kb_X9_withoutRims_4 C  hG hl hr (fun st2 e1 H locs ls hG hl => ?_) (fun y2 e1 H locs ls hG hl => ?_)
    · rcases hh with ⟨s3, e2, hh⟩ | e2
      · rw [e2] at e1
        cases e1
        exact ih _ _ _ _ _ hG hl hh kX0
      · rw [e2] at e1
        cases e1
    · rcases hh with ⟨s3, e2, hh⟩ | e2
      · rw [e2] at e1
        cases e1
      · rw [e2] at e1
        cases e1
        exact kX0 _ rfl _ _ _ hG hl
set_option maxRecDepth 100000 in
set_option maxHeartbeats 4000000 in
theorem kb_X9_withoutRims_0 {w : Mem} {out : Int32} {H : Heap} {locs : List Loc} {ls : Array Slot} (C : CX p s m args meth c cX9_withoutRims 3 RX9 wc_X9_withoutRims (some .int))  (hG : Gd s G A 28 B (entM G B w) X H locs) (hl : lv_has ls 3 [(0, .ref (B + 0))]) (hf : sh_X9_withoutRims w = some out) :
    W p l e rm_X9_withoutRims s m args below meth c H locs 0 0 (MQ below (CPost G A 28 B (entM G B w) X (some (.int out))) args s 0 0 A) (F0 m 0 ls []) := by
  refine lv_iconst (v := nI 0) C.1 C.2.1 dX9_withoutRims_0 (by decide) ?_
  refine lv_istore_n (lv' := [(1, .int (nI 0)), (0, .ref (B + 0))]) C.1 C.2.1 dX9_withoutRims_1 rfl hl (by decide) rfl (fun ls hl => ?_)
  refine lv_iconst (v := nI 0) C.1 C.2.1 dX9_withoutRims_2 (by decide) ?_
  refine lv_istore_n (lv' := [(2, .int (nI 0)), (1, .int (nI 0)), (0, .ref (B + 0))]) C.1 C.2.1 dX9_withoutRims_3 rfl hl (by decide) rfl (fun ls hl => ?_)
  obtain ⟨ex1, hex1, hf⟩ := of_bind hf
  refine kl_X9_withoutRims_4 C  FU (nI 0, nI 0) ex1 _ _ _ hG (lv_sub hl [2, 1, 0] rfl) hex1 (fun y e0 H locs ls hG hl => ?_)
  subst e0
  refine lv_iload_n C.1 C.2.1 dX9_withoutRims_45 rfl (lv_at hl 0 rfl) ?_
  obtain rfl := Option.some.inj hf
  exact r_iret C hG dX9_withoutRims_46
set_option maxRecDepth 100000 in
set_option maxHeartbeats 4000000 in
theorem mt_X9_withoutRims (l : Launch) {G : GG} {A : Nat → Prop} {B : Nat} {X : va_W} {w : Mem} {out : Int32}  (hf : sh_X9_withoutRims w = some out) : MetW l yX9_withoutRims wc_X9_withoutRims rm_X9_withoutRims G A 28 B (entM G B w) X [.ref (B + 0)] (some (.int out)) (entM G B w) := by
  refine Met.ofW (cc := cX9_withoutRims) (maxL := 3) (ret := (some .int)) (by decide) rfl ?_
  intro p e s m args below meth c s₁ B0 hml hv
  obtain ⟨rfl, hEv, hWd⟩ := hv
  have C : CX p s m _ meth c cX9_withoutRims 3 RX9 wc_X9_withoutRims (some .int) := ⟨B0.exec, B0.bytes, hml, findClass_of_methodNamed B0.named, atoms_spec (ws := wc_X9_withoutRims) B0.pre, B0.returns, B0.notSynchronized⟩
  have hl := lv_entry [.ref (B + 0)] (n := 3) (Nat.le_of_ble_eq_true rfl)
  rw [lg_entry_eq]
  generalize (lg_sl [.ref (B + 0)] ++ List.replicate (3 - (lg_sl [.ref (B + 0)]).length) Slot.unset).toArray = ls at hl ⊢
  have hl : lv_has ls 3 [(0, .ref (B + 0))] := hl
  exact kb_X9_withoutRims_0 C  ⟨hEv, hWd, va_S.rf⟩ hl hf
abbrev wc_X9_shape : List Cond := Cond.code yX9_shape cX9_shape 3 (some .int) :: TG
abbrev rm_X9_shape : Room := { frames := 4, cells := 0, slots := 0, locals := 149 }
theorem cd_X9_shape : yX9_shape.cls = RX9 ∧ yX9_shape.cls ≠ "java/lang/invoke/MethodHandle" ∧ yX9_shape.cls ≠ "java/lang/invoke/VarHandle" ∧ (parseMethodDescriptor yX9_shape.desc).map (fun d => d.parameters.length) = some 2 := by decide +kernel
theorem dX9_shape_0 : decode cX9_shape 0 = .ok (.iload_n 1, 1) := by decide +kernel
theorem dX9_shape_1 : decode cX9_shape 1 = .ok (.invokestatic 205, 3) := by decide +kernel
theorem dX9_shape_4 : decode cX9_shape 4 = .ok (.ifCond .ne 5, 3) := by decide +kernel
theorem dX9_shape_7 : decode cX9_shape 7 = .ok (.iconst (-1), 1) := by decide +kernel
theorem dX9_shape_8 : decode cX9_shape 8 = .ok (.ireturn, 1) := by decide +kernel
theorem dX9_shape_9 : decode cX9_shape 9 = .ok (.aload_n 0, 1) := by decide +kernel
theorem dX9_shape_10 : decode cX9_shape 10 = .ok (.iload_n 1, 1) := by decide +kernel
theorem dX9_shape_11 : decode cX9_shape 11 = .ok (.invokevirtual 214, 3) := by decide +kernel
theorem dX9_shape_14 : decode cX9_shape 14 = .ok (.aload_n 0, 1) := by decide +kernel
theorem dX9_shape_15 : decode cX9_shape 15 = .ok (.invokevirtual 234, 3) := by decide +kernel
theorem dX9_shape_18 : decode cX9_shape 18 = .ok (.iload_n 2, 1) := by decide +kernel
theorem dX9_shape_19 : decode cX9_shape 19 = .ok (.tableswitch 70 0 5 #[37, 42, 47, 52, 57, 62], 37) := by decide +kernel
theorem dX9_shape_56 : decode cX9_shape 56 = .ok (.aload_n 0, 1) := by decide +kernel
theorem dX9_shape_57 : decode cX9_shape 57 = .ok (.getfield 170, 3) := by decide +kernel
theorem dX9_shape_60 : decode cX9_shape 60 = .ok (.ireturn, 1) := by decide +kernel
theorem dX9_shape_61 : decode cX9_shape 61 = .ok (.aload_n 0, 1) := by decide +kernel
theorem dX9_shape_62 : decode cX9_shape 62 = .ok (.invokevirtual 176, 3) := by decide +kernel
theorem dX9_shape_65 : decode cX9_shape 65 = .ok (.ireturn, 1) := by decide +kernel
theorem dX9_shape_66 : decode cX9_shape 66 = .ok (.aload_n 0, 1) := by decide +kernel
theorem dX9_shape_67 : decode cX9_shape 67 = .ok (.invokevirtual 237, 3) := by decide +kernel
theorem dX9_shape_70 : decode cX9_shape 70 = .ok (.ireturn, 1) := by decide +kernel
theorem dX9_shape_71 : decode cX9_shape 71 = .ok (.aload_n 0, 1) := by decide +kernel
theorem dX9_shape_72 : decode cX9_shape 72 = .ok (.invokevirtual 240, 3) := by decide +kernel
theorem dX9_shape_75 : decode cX9_shape 75 = .ok (.ireturn, 1) := by decide +kernel
theorem dX9_shape_76 : decode cX9_shape 76 = .ok (.aload_n 0, 1) := by decide +kernel
theorem dX9_shape_77 : decode cX9_shape 77 = .ok (.invokevirtual 243, 3) := by decide +kernel
theorem dX9_shape_80 : decode cX9_shape 80 = .ok (.ireturn, 1) := by decide +kernel
theorem dX9_shape_81 : decode cX9_shape 81 = .ok (.bipush 100, 2) := by decide +kernel
theorem dX9_shape_83 : decode cX9_shape 83 = .ok (.aload_n 0, 1) := by decide +kernel
theorem dX9_shape_84 : decode cX9_shape 84 = .ok (.invokevirtual 246, 3) := by decide +kernel
theorem dX9_shape_87 : decode cX9_shape 87 = .ok (.iadd, 1) := by decide +kernel
theorem dX9_shape_88 : decode cX9_shape 88 = .ok (.ireturn, 1) := by decide +kernel
theorem dX9_shape_89 : decode cX9_shape 89 = .ok (.iconst (-1), 1) := by decide +kernel
theorem dX9_shape_90 : decode cX9_shape 90 = .ok (.ireturn, 1) := by decide +kernel
set_option maxRecDepth 100000 in
set_option maxHeartbeats 4000000 in
theorem kb_X9_shape_0 {x1 : Int32} {x2 : Int32} {w : Mem} {out : Int32 × Mem} {H : Heap} {locs : List Loc} {ls : Array Slot} (C : CX p s m args meth c cX9_shape 3 RX9 wc_X9_shape (some .int))  (hG : Gd s G A 28 B (entM G B w) X H locs) (hl : lv_has ls 3 [(0, .ref (B + 0)), (1, .int x1), (2, .int x2)]) (hf : sh_X9_shape x1 x2 w = some out) :
    W p l e rm_X9_shape s m args below meth c H locs 0 0 (MQ below (CPost G A 28 B (entM G B out.2) X (some (.int out.1))) args s 0 0 A) (F0 m 0 ls []) := by
  refine lv_iload_n C.1 C.2.1 dX9_shape_0 rfl (lv_at hl 1 rfl) ?_
  obtain ⟨v1, hv1, hf⟩ := of_bind hf
  refine r_callS1 C hG hl.1 (As := [.int x1]) (mt_X9_isSurface l  hv1) (va_cwS 1 C.2.2.2.2.1 (gd_S tg_5_64 tg_5_65 tg_1_10 tg_5_66) rfl rfl rfl cd_X9_isSurface.2 ⟨Nat.le_of_ble_eq_true rfl, Nat.le_of_ble_eq_true rfl⟩) rfl rfl (Nat.le_of_ble_eq_true rfl) dX9_shape_1 (fun H locs hG => ?_)
  rcases of_ite hf with ⟨c2, hf⟩ | ⟨c2, hf⟩
  · refine lv_if_ne (tgt := 9) C.1 C.2.1 dX9_shape_4 (by decide) (fun q => absurd c2 q) (fun _ => ?_)
    refine lv_iconst (v := (-1 : Int32)) C.1 C.2.1 dX9_shape_7 (by decide) ?_
    obtain rfl := Option.some.inj hf
    exact r_iret C hG dX9_shape_8
  · refine lv_if_ne (tgt := 9) C.1 C.2.1 dX9_shape_4 (by decide) (fun _ => ?_) (fun q => absurd q c2)
    refine lv_aload_n C.1 C.2.1 dX9_shape_9 rfl (lv_at hl 0 rfl) ?_
    refine lv_iload_n C.1 C.2.1 dX9_shape_10 rfl (lv_at hl 1 rfl) ?_
    obtain ⟨w3, hw3, hf⟩ := of_bind hf
    refine r_callV0 C hG hl.1 (c0 := 0) (As := [.int x1]) (by decide) (entM_O (n := 35) rfl) rfl (mt_X9_loads l  hw3) (cwV 1 C.2.2.2.2.1 (gd_V tg_5_107 tg_5_109 tgp_44 tg_1_10 tg_5_110) rfl rfl rfl cd_X9_loads ⟨Nat.le_of_ble_eq_true rfl, Nat.le_of_ble_eq_true rfl⟩) rfl rfl (Nat.le_of_ble_eq_true rfl) dX9_shape_11 (fun H locs hG => ?_)
    refine lv_aload_n C.1 C.2.1 dX9_shape_14 rfl (lv_at hl 0 rfl) ?_
    obtain ⟨w4, hw4, hf⟩ := of_bind hf
    refine r_callV0 C hG hl.1 (c0 := 0) (As := []) (by decide) (entM_O (n := 35) rfl) rfl (mt_X9_partsOf l  hw4) (cwV 0 C.2.2.2.2.1 (gd_V tg_5_119 tg_5_121 tgp_45 tg_1_10 tg_5_122) rfl rfl rfl cd_X9_partsOf ⟨Nat.le_of_ble_eq_true rfl, Nat.le_of_ble_eq_true rfl⟩) rfl rfl (Nat.le_of_ble_eq_true rfl) dX9_shape_15 (fun H locs hG => ?_)
    refine lv_iload_n C.1 C.2.1 dX9_shape_18 rfl (lv_at hl 2 rfl) ?_
    rcases of_ite hf with ⟨c5, hf⟩ | ⟨c5, hf⟩
    · refine lv_tableIn (tgt := 56) (off := 37) C.1 C.2.1 dX9_shape_19 (by rw [c5]; decide) (by rw [c5]; decide) (by rw [c5]; rfl) (by decide) ?_
      refine lv_aload_n C.1 C.2.1 dX9_shape_56 rfl (lv_at hl 0 rfl) ?_
      refine gf_X9_170 C hG rfl dX9_shape_57 ?_
      obtain rfl := Option.some.inj hf
      exact r_iret C hG dX9_shape_60
    · skip
      rcases of_ite hf with ⟨c6, hf⟩ | ⟨c6, hf⟩
      · refine lv_tableIn (tgt := 61) (off := 42) C.1 C.2.1 dX9_shape_19 (by rw [c6]; decide) (by rw [c6]; decide) (by rw [c6]; rfl) (by decide) ?_
        refine lv_aload_n C.1 C.2.1 dX9_shape_61 rfl (lv_at hl 0 rfl) ?_
        obtain ⟨v7, hv7, hf⟩ := of_bind hf
        refine r_callV1 C hG hl.1 (c0 := 0) (As := []) (by decide) (entM_O (n := 35) rfl) rfl (mt_X9_circles l  hv7) (cwV 0 C.2.2.2.2.1 (gd_V tg_5_88 tg_5_90 tgp_41 tg_1_10 tg_5_91) rfl rfl rfl cd_X9_circles ⟨Nat.le_of_ble_eq_true rfl, Nat.le_of_ble_eq_true rfl⟩) rfl rfl (Nat.le_of_ble_eq_true rfl) dX9_shape_62 (fun H locs hG => ?_)
        obtain rfl := Option.some.inj hf
        exact r_iret C hG dX9_shape_65
      · skip
        rcases of_ite hf with ⟨c8, hf⟩ | ⟨c8, hf⟩
        · refine lv_tableIn (tgt := 66) (off := 47) C.1 C.2.1 dX9_shape_19 (by rw [c8]; decide) (by rw [c8]; decide) (by rw [c8]; rfl) (by decide) ?_
          refine lv_aload_n C.1 C.2.1 dX9_shape_66 rfl (lv_at hl 0 rfl) ?_
          obtain ⟨v9, hv9, hf⟩ := of_bind hf
          refine r_callV1 C hG hl.1 (c0 := 0) (As := []) (by decide) (entM_O (n := 35) rfl) rfl (mt_X9_parts l  hv9) (cwV 0 C.2.2.2.2.1 (gd_V tg_5_129 tg_5_131 tgp_47 tg_1_10 tg_5_132) rfl rfl rfl cd_X9_parts ⟨Nat.le_of_ble_eq_true rfl, Nat.le_of_ble_eq_true rfl⟩) rfl rfl (Nat.le_of_ble_eq_true rfl) dX9_shape_67 (fun H locs hG => ?_)
          obtain rfl := Option.some.inj hf
          exact r_iret C hG dX9_shape_70
        · skip
          rcases of_ite hf with ⟨c10, hf⟩ | ⟨c10, hf⟩
          · refine lv_tableIn (tgt := 71) (off := 52) C.1 C.2.1 dX9_shape_19 (by rw [c10]; decide) (by rw [c10]; decide) (by rw [c10]; rfl) (by decide) ?_
            refine lv_aload_n C.1 C.2.1 dX9_shape_71 rfl (lv_at hl 0 rfl) ?_
            obtain ⟨v11, hv11, hf⟩ := of_bind hf
            refine r_callV1 C hG hl.1 (c0 := 0) (As := []) (by decide) (entM_O (n := 35) rfl) rfl (mt_X9_unlike l  hv11) (cwV 0 C.2.2.2.2.1 (gd_V tg_5_133 tg_5_135 tgp_48 tg_1_10 tg_5_136) rfl rfl rfl cd_X9_unlike ⟨Nat.le_of_ble_eq_true rfl, Nat.le_of_ble_eq_true rfl⟩) rfl rfl (Nat.le_of_ble_eq_true rfl) dX9_shape_72 (fun H locs hG => ?_)
            obtain rfl := Option.some.inj hf
            exact r_iret C hG dX9_shape_75
          · skip
            rcases of_ite hf with ⟨c12, hf⟩ | ⟨c12, hf⟩
            · refine lv_tableIn (tgt := 76) (off := 57) C.1 C.2.1 dX9_shape_19 (by rw [c12]; decide) (by rw [c12]; decide) (by rw [c12]; rfl) (by decide) ?_
              refine lv_aload_n C.1 C.2.1 dX9_shape_76 rfl (lv_at hl 0 rfl) ?_
              obtain ⟨v13, hv13, hf⟩ := of_bind hf
              refine r_callV1 C hG hl.1 (c0 := 0) (As := []) (by decide) (entM_O (n := 35) rfl) rfl (mt_X9_withoutRims l  hv13) (cwV 0 C.2.2.2.2.1 (gd_V tg_5_141 tg_5_143 tgp_50 tg_1_10 tg_5_144) rfl rfl rfl cd_X9_withoutRims ⟨Nat.le_of_ble_eq_true rfl, Nat.le_of_ble_eq_true rfl⟩) rfl rfl (Nat.le_of_ble_eq_true rfl) dX9_shape_77 (fun H locs hG => ?_)
              obtain rfl := Option.some.inj hf
              exact r_iret C hG dX9_shape_80
            · skip
              rcases of_ite hf with ⟨c14, hf⟩ | ⟨c14, hf⟩
              · refine lv_tableIn (tgt := 81) (off := 62) C.1 C.2.1 dX9_shape_19 (by rw [c14]; decide) (by rw [c14]; decide) (by rw [c14]; rfl) (by decide) ?_
                refine lv_bipush (v := nI 100) C.1 C.2.1 dX9_shape_81 (by decide) ?_
                refine lv_aload_n C.1 C.2.1 dX9_shape_83 rfl (lv_at hl 0 rfl) ?_
                obtain ⟨v15, hv15, hf⟩ := of_bind hf
                refine r_callV1 C hG hl.1 (c0 := 0) (As := []) (by decide) (entM_O (n := 35) rfl) rfl (mt_X9_eulerOfAll l  hv15) (cwV 0 C.2.2.2.2.1 (gd_V tg_5_145 tg_5_147 tgp_51 tg_1_10 tg_5_148) rfl rfl rfl cd_X9_eulerOfAll ⟨Nat.le_of_ble_eq_true rfl, Nat.le_of_ble_eq_true rfl⟩) rfl rfl (Nat.le_of_ble_eq_true rfl) dX9_shape_84 (fun H locs hG => ?_)
                refine lv_iadd C.1 C.2.1 dX9_shape_87 ?_
                obtain rfl := Option.some.inj hf
                exact r_iret C hG dX9_shape_88
              · skip
                refine lv_tableOut (tgt := 89) C.1 C.2.1 dX9_shape_19 (sw_out (n := 6) (by decide) (lt_s (lt_s (lt_s (lt_s (lt_s (lt_s lt_0 c5) c6) c8) c10) c12) c14)) (by decide) ?_
                refine lv_iconst (v := (-1 : Int32)) C.1 C.2.1 dX9_shape_89 (by decide) ?_
                obtain rfl := Option.some.inj hf
                exact r_iret C hG dX9_shape_90
set_option maxRecDepth 100000 in
set_option maxHeartbeats 4000000 in
theorem mt_X9_shape (l : Launch) {G : GG} {A : Nat → Prop} {B : Nat} {X : va_W} {x1 : Int32} {x2 : Int32} {w : Mem} {out : Int32 × Mem}  (hf : sh_X9_shape x1 x2 w = some out) : MetW l yX9_shape wc_X9_shape rm_X9_shape G A 28 B (entM G B w) X [.ref (B + 0), .int x1, .int x2] (some (.int out.1)) (entM G B out.2) := by
  refine Met.ofW (cc := cX9_shape) (maxL := 3) (ret := (some .int)) (by decide) rfl ?_
  intro p e s m args below meth c s₁ B0 hml hv
  obtain ⟨rfl, hEv, hWd⟩ := hv
  have C : CX p s m _ meth c cX9_shape 3 RX9 wc_X9_shape (some .int) := ⟨B0.exec, B0.bytes, hml, findClass_of_methodNamed B0.named, atoms_spec (ws := wc_X9_shape) B0.pre, B0.returns, B0.notSynchronized⟩
  have hl := lv_entry [.ref (B + 0), .int x1, .int x2] (n := 3) (Nat.le_of_ble_eq_true rfl)
  rw [lg_entry_eq]
  generalize (lg_sl [.ref (B + 0), .int x1, .int x2] ++ List.replicate (3 - (lg_sl [.ref (B + 0), .int x1, .int x2]).length) Slot.unset).toArray = ls at hl ⊢
  have hl : lv_has ls 3 [(0, .ref (B + 0)), (1, .int x1), (2, .int x2)] := hl
  exact kb_X9_shape_0 C  ⟨hEv, hWd, va_S.rf⟩ hl hf
abbrev wc_X9_part : List Cond := Cond.code yX9_part cX9_part 6 (some .int) :: TG
abbrev rm_X9_part : Room := { frames := 4, cells := 0, slots := 0, locals := 149 }
theorem cd_X9_part : yX9_part.cls = RX9 ∧ yX9_part.cls ≠ "java/lang/invoke/MethodHandle" ∧ yX9_part.cls ≠ "java/lang/invoke/VarHandle" ∧ (parseMethodDescriptor yX9_part.desc).map (fun d => d.parameters.length) = some 3 := by decide +kernel
theorem dX9_part_0 : decode cX9_part 0 = .ok (.iload_n 1, 1) := by decide +kernel
theorem dX9_part_1 : decode cX9_part 1 = .ok (.invokestatic 205, 3) := by decide +kernel
theorem dX9_part_4 : decode cX9_part 4 = .ok (.ifCond .eq 7, 3) := by decide +kernel
theorem dX9_part_7 : decode cX9_part 7 = .ok (.iload_n 2, 1) := by decide +kernel
theorem dX9_part_8 : decode cX9_part 8 = .ok (.ifCond .ge 5, 3) := by decide +kernel
theorem dX9_part_11 : decode cX9_part 11 = .ok (.iconst (-1), 1) := by decide +kernel
theorem dX9_part_12 : decode cX9_part 12 = .ok (.ireturn, 1) := by decide +kernel
theorem dX9_part_13 : decode cX9_part 13 = .ok (.aload_n 0, 1) := by decide +kernel
theorem dX9_part_14 : decode cX9_part 14 = .ok (.iload_n 1, 1) := by decide +kernel
theorem dX9_part_15 : decode cX9_part 15 = .ok (.invokevirtual 214, 3) := by decide +kernel
theorem dX9_part_18 : decode cX9_part 18 = .ok (.aload_n 0, 1) := by decide +kernel
theorem dX9_part_19 : decode cX9_part 19 = .ok (.invokevirtual 234, 3) := by decide +kernel
theorem dX9_part_22 : decode cX9_part 22 = .ok (.aload_n 0, 1) := by decide +kernel
theorem dX9_part_23 : decode cX9_part 23 = .ok (.iload_n 2, 1) := by decide +kernel
theorem dX9_part_24 : decode cX9_part 24 = .ok (.invokevirtual 249, 3) := by decide +kernel
theorem dX9_part_27 : decode cX9_part 27 = .ok (.istore 4, 2) := by decide +kernel
theorem dX9_part_29 : decode cX9_part 29 = .ok (.iload 4, 2) := by decide +kernel
theorem dX9_part_31 : decode cX9_part 31 = .ok (.iconst (-1), 1) := by decide +kernel
theorem dX9_part_32 : decode cX9_part 32 = .ok (.if_icmp .ne 5, 3) := by decide +kernel
theorem dX9_part_35 : decode cX9_part 35 = .ok (.iconst (-1), 1) := by decide +kernel
theorem dX9_part_36 : decode cX9_part 36 = .ok (.ireturn, 1) := by decide +kernel
theorem dX9_part_37 : decode cX9_part 37 = .ok (.iconst 2, 1) := by decide +kernel
theorem dX9_part_38 : decode cX9_part 38 = .ok (.aload_n 0, 1) := by decide +kernel
theorem dX9_part_39 : decode cX9_part 39 = .ok (.getfield 57, 3) := by decide +kernel
theorem dX9_part_42 : decode cX9_part 42 = .ok (.iload 4, 2) := by decide +kernel
theorem dX9_part_44 : decode cX9_part 44 = .ok (.iaload, 1) := by decide +kernel
theorem dX9_part_45 : decode cX9_part 45 = .ok (.isub, 1) := by decide +kernel
theorem dX9_part_46 : decode cX9_part 46 = .ok (.aload_n 0, 1) := by decide +kernel
theorem dX9_part_47 : decode cX9_part 47 = .ok (.getfield 60, 3) := by decide +kernel
theorem dX9_part_50 : decode cX9_part 50 = .ok (.iload 4, 2) := by decide +kernel
theorem dX9_part_52 : decode cX9_part 52 = .ok (.iaload, 1) := by decide +kernel
theorem dX9_part_53 : decode cX9_part 53 = .ok (.isub, 1) := by decide +kernel
theorem dX9_part_54 : decode cX9_part 54 = .ok (.istore 5, 2) := by decide +kernel
theorem dX9_part_56 : decode cX9_part 56 = .ok (.iload_n 3, 1) := by decide +kernel
theorem dX9_part_57 : decode cX9_part 57 = .ok (.tableswitch 79 0 3 #[31, 39, 50, 58], 31) := by decide +kernel
theorem dX9_part_88 : decode cX9_part 88 = .ok (.aload_n 0, 1) := by decide +kernel
theorem dX9_part_89 : decode cX9_part 89 = .ok (.getfield 60, 3) := by decide +kernel
theorem dX9_part_92 : decode cX9_part 92 = .ok (.iload 4, 2) := by decide +kernel
theorem dX9_part_94 : decode cX9_part 94 = .ok (.iaload, 1) := by decide +kernel
theorem dX9_part_95 : decode cX9_part 95 = .ok (.ireturn, 1) := by decide +kernel
theorem dX9_part_96 : decode cX9_part 96 = .ok (.bipush 100, 2) := by decide +kernel
theorem dX9_part_98 : decode cX9_part 98 = .ok (.aload_n 0, 1) := by decide +kernel
theorem dX9_part_99 : decode cX9_part 99 = .ok (.getfield 57, 3) := by decide +kernel
theorem dX9_part_102 : decode cX9_part 102 = .ok (.iload 4, 2) := by decide +kernel
theorem dX9_part_104 : decode cX9_part 104 = .ok (.iaload, 1) := by decide +kernel
theorem dX9_part_105 : decode cX9_part 105 = .ok (.iadd, 1) := by decide +kernel
theorem dX9_part_106 : decode cX9_part 106 = .ok (.ireturn, 1) := by decide +kernel
theorem dX9_part_107 : decode cX9_part 107 = .ok (.aload_n 0, 1) := by decide +kernel
theorem dX9_part_108 : decode cX9_part 108 = .ok (.getfield 63, 3) := by decide +kernel
theorem dX9_part_111 : decode cX9_part 111 = .ok (.iload 4, 2) := by decide +kernel
theorem dX9_part_113 : decode cX9_part 113 = .ok (.iaload, 1) := by decide +kernel
theorem dX9_part_114 : decode cX9_part 114 = .ok (.ireturn, 1) := by decide +kernel
theorem dX9_part_115 : decode cX9_part 115 = .ok (.aload_n 0, 1) := by decide +kernel
theorem dX9_part_116 : decode cX9_part 116 = .ok (.getfield 63, 3) := by decide +kernel
theorem dX9_part_119 : decode cX9_part 119 = .ok (.iload 4, 2) := by decide +kernel
theorem dX9_part_121 : decode cX9_part 121 = .ok (.iaload, 1) := by decide +kernel
theorem dX9_part_122 : decode cX9_part 122 = .ok (.iconst 1, 1) := by decide +kernel
theorem dX9_part_123 : decode cX9_part 123 = .ok (.if_icmp .ne 8, 3) := by decide +kernel
theorem dX9_part_126 : decode cX9_part 126 = .ok (.iload 5, 2) := by decide +kernel
theorem dX9_part_128 : decode cX9_part 128 = .ok (.goto 7, 3) := by decide +kernel
theorem dX9_part_131 : decode cX9_part 131 = .ok (.iload 5, 2) := by decide +kernel
theorem dX9_part_133 : decode cX9_part 133 = .ok (.iconst 2, 1) := by decide +kernel
theorem dX9_part_134 : decode cX9_part 134 = .ok (.idiv, 1) := by decide +kernel
theorem dX9_part_135 : decode cX9_part 135 = .ok (.ireturn, 1) := by decide +kernel
theorem dX9_part_136 : decode cX9_part 136 = .ok (.iconst (-1), 1) := by decide +kernel
theorem dX9_part_137 : decode cX9_part 137 = .ok (.ireturn, 1) := by decide +kernel
set_option maxRecDepth 100000 in
set_option maxHeartbeats 4000000 in
theorem kb_X9_part_0 {x1 : Int32} {x2 : Int32} {x3 : Int32} {w : Mem} {out : Int32 × Mem} {H : Heap} {locs : List Loc} {ls : Array Slot} (C : CX p s m args meth c cX9_part 6 RX9 wc_X9_part (some .int))  (hG : Gd s G A 28 B (entM G B w) X H locs) (hl : lv_has ls 6 [(0, .ref (B + 0)), (1, .int x1), (2, .int x2), (3, .int x3)]) (hf : sh_X9_part x1 x2 x3 w = some out) :
    W p l e rm_X9_part s m args below meth c H locs 0 0 (MQ below (CPost G A 28 B (entM G B out.2) X (some (.int out.1))) args s 0 0 A) (F0 m 0 ls []) := by
  refine lv_iload_n C.1 C.2.1 dX9_part_0 rfl (lv_at hl 1 rfl) ?_
  obtain ⟨v1, hv1, hf⟩ := of_bind hf
  refine r_callS1 C hG hl.1 (As := [.int x1]) (mt_X9_isSurface l  hv1) (va_cwS 1 C.2.2.2.2.1 (gd_S tg_5_64 tg_5_65 tg_1_10 tg_5_66) rfl rfl rfl cd_X9_isSurface.2 ⟨Nat.le_of_ble_eq_true rfl, Nat.le_of_ble_eq_true rfl⟩) rfl rfl (Nat.le_of_ble_eq_true rfl) dX9_part_1 (fun H locs hG => ?_)
  rcases of_ite hf with ⟨c2, hf⟩ | ⟨c2, hf⟩
  · refine lv_if_eq (tgt := 11) C.1 C.2.1 dX9_part_4 (by decide) (fun _ => ?_) (fun q => absurd c2 q)
    refine lv_iconst (v := (-1 : Int32)) C.1 C.2.1 dX9_part_11 (by decide) ?_
    obtain rfl := Option.some.inj hf
    exact r_iret C hG dX9_part_12
  · refine lv_if_eq (tgt := 11) C.1 C.2.1 dX9_part_4 (by decide) (fun q => absurd q c2) (fun _ => ?_)
    refine lv_iload_n C.1 C.2.1 dX9_part_7 rfl (lv_at hl 2 rfl) ?_
    rcases of_ite hf with ⟨c3, hf⟩ | ⟨c3, hf⟩
    · refine lv_if_ge (tgt := 13) C.1 C.2.1 dX9_part_8 (by decide) (fun _ => ?_) (fun q => absurd c3 q)
      refine lv_aload_n C.1 C.2.1 dX9_part_13 rfl (lv_at hl 0 rfl) ?_
      refine lv_iload_n C.1 C.2.1 dX9_part_14 rfl (lv_at hl 1 rfl) ?_
      obtain ⟨w4, hw4, hf⟩ := of_bind hf
      refine r_callV0 C hG hl.1 (c0 := 0) (As := [.int x1]) (by decide) (entM_O (n := 35) rfl) rfl (mt_X9_loads l  hw4) (cwV 1 C.2.2.2.2.1 (gd_V tg_5_107 tg_5_109 tgp_44 tg_1_10 tg_5_110) rfl rfl rfl cd_X9_loads ⟨Nat.le_of_ble_eq_true rfl, Nat.le_of_ble_eq_true rfl⟩) rfl rfl (Nat.le_of_ble_eq_true rfl) dX9_part_15 (fun H locs hG => ?_)
      refine lv_aload_n C.1 C.2.1 dX9_part_18 rfl (lv_at hl 0 rfl) ?_
      obtain ⟨w5, hw5, hf⟩ := of_bind hf
      refine r_callV0 C hG hl.1 (c0 := 0) (As := []) (by decide) (entM_O (n := 35) rfl) rfl (mt_X9_partsOf l  hw5) (cwV 0 C.2.2.2.2.1 (gd_V tg_5_119 tg_5_121 tgp_45 tg_1_10 tg_5_122) rfl rfl rfl cd_X9_partsOf ⟨Nat.le_of_ble_eq_true rfl, Nat.le_of_ble_eq_true rfl⟩) rfl rfl (Nat.le_of_ble_eq_true rfl) dX9_part_19 (fun H locs hG => ?_)
      refine lv_aload_n C.1 C.2.1 dX9_part_22 rfl (lv_at hl 0 rfl) ?_
      refine lv_iload_n C.1 C.2.1 dX9_part_23 rfl (lv_at hl 2 rfl) ?_
      obtain ⟨v6, hv6, hf⟩ := of_bind hf
      refine r_callV1 C hG hl.1 (c0 := 0) (As := [.int x2]) (by decide) (entM_O (n := 35) rfl) rfl (mt_X9_partAt l  hv6) (cwV 1 C.2.2.2.2.1 (gd_V tg_5_153 tg_5_155 tgp_52 tg_1_10 tg_5_156) rfl rfl rfl cd_X9_partAt ⟨Nat.le_of_ble_eq_true rfl, Nat.le_of_ble_eq_true rfl⟩) rfl rfl (Nat.le_of_ble_eq_true rfl) dX9_part_24 (fun H locs hG => ?_)
      refine lv_istore (lv' := [(4, .int v6), (0, .ref (B + 0)), (1, .int x1), (2, .int x2), (3, .int x3)]) C.1 C.2.1 dX9_part_27 hl (by decide) rfl (fun ls hl => ?_)
      refine lv_iload C.1 C.2.1 dX9_part_29 (lv_at hl 0 rfl) ?_
      refine lv_iconst (v := (-1 : Int32)) C.1 C.2.1 dX9_part_31 (by decide) ?_
      rcases of_ite hf with ⟨c7, hf⟩ | ⟨c7, hf⟩
      · refine lv_icmp_ne (tgt := 37) C.1 C.2.1 dX9_part_32 (by decide) (fun q => absurd c7 q) (fun _ => ?_)
        refine lv_iconst (v := (-1 : Int32)) C.1 C.2.1 dX9_part_35 (by decide) ?_
        obtain rfl := Option.some.inj hf
        exact r_iret C hG dX9_part_36
      · refine lv_icmp_ne (tgt := 37) C.1 C.2.1 dX9_part_32 (by decide) (fun _ => ?_) (fun q => absurd q c7)
        refine lv_iconst (v := nI 2) C.1 C.2.1 dX9_part_37 (by decide) ?_
        refine lv_aload_n C.1 C.2.1 dX9_part_38 rfl (lv_at hl 1 rfl) ?_
        refine gf_X9_57 C hG rfl dX9_part_39 ?_
        refine lv_iload C.1 C.2.1 dX9_part_42 (lv_at hl 0 rfl) ?_
        obtain ⟨v8, hv8, hf⟩ := of_bind hf
        obtain ⟨bv8, ev8⟩ := of_ldS hv8
        refine r_iald C hG (c0 := 16) (by decide) (entM_I (n := 24) rfl) bv8 dX9_part_44 ?_
        refine r_top ev8 ?_
        refine lv_isub C.1 C.2.1 dX9_part_45 ?_
        refine lv_aload_n C.1 C.2.1 dX9_part_46 rfl (lv_at hl 1 rfl) ?_
        refine gf_X9_60 C hG rfl dX9_part_47 ?_
        refine lv_iload C.1 C.2.1 dX9_part_50 (lv_at hl 0 rfl) ?_
        obtain ⟨v9, hv9, hf⟩ := of_bind hf
        obtain ⟨bv9, ev9⟩ := of_ldS hv9
        refine r_iald C hG (c0 := 17) (by decide) (entM_I (n := 24) rfl) bv9 dX9_part_52 ?_
        refine r_top ev9 ?_
        refine lv_isub C.1 C.2.1 dX9_part_53 ?_
        obtain ⟨v10, ev10, hf⟩ := of_letv hf
        refine r_top ev10 ?_
        refine lv_istore (lv' := [(5, .int v10), (4, .int v6), (0, .ref (B + 0)), (1, .int x1), (2, .int x2), (3, .int x3)]) C.1 C.2.1 dX9_part_54 hl (by decide) rfl (fun ls hl => ?_)
        refine lv_iload_n C.1 C.2.1 dX9_part_56 rfl (lv_at hl 5 rfl) ?_
        rcases of_ite hf with ⟨c11, hf⟩ | ⟨c11, hf⟩
        · refine lv_tableIn (tgt := 88) (off := 31) C.1 C.2.1 dX9_part_57 (by rw [c11]; decide) (by rw [c11]; decide) (by rw [c11]; rfl) (by decide) ?_
          refine lv_aload_n C.1 C.2.1 dX9_part_88 rfl (lv_at hl 2 rfl) ?_
          refine gf_X9_60 C hG rfl dX9_part_89 ?_
          refine lv_iload C.1 C.2.1 dX9_part_92 (lv_at hl 1 rfl) ?_
          obtain ⟨v12, hv12, hf⟩ := of_bind hf
          obtain ⟨bv12, ev12⟩ := of_ldS hv12
          refine r_iald C hG (c0 := 17) (by decide) (entM_I (n := 24) rfl) bv12 dX9_part_94 ?_
          refine r_top ev12 ?_
          obtain rfl := Option.some.inj hf
          exact r_iret C hG dX9_part_95
        · skip
          rcases of_ite hf with ⟨c13, hf⟩ | ⟨c13, hf⟩
          · refine lv_tableIn (tgt := 96) (off := 39) C.1 C.2.1 dX9_part_57 (by rw [c13]; decide) (by rw [c13]; decide) (by rw [c13]; rfl) (by decide) ?_
            refine lv_bipush (v := nI 100) C.1 C.2.1 dX9_part_96 (by decide) ?_
            refine lv_aload_n C.1 C.2.1 dX9_part_98 rfl (lv_at hl 2 rfl) ?_
            refine gf_X9_57 C hG rfl dX9_part_99 ?_
            refine lv_iload C.1 C.2.1 dX9_part_102 (lv_at hl 1 rfl) ?_
            obtain ⟨v14, hv14, hf⟩ := of_bind hf
            obtain ⟨bv14, ev14⟩ := of_ldS hv14
            refine r_iald C hG (c0 := 16) (by decide) (entM_I (n := 24) rfl) bv14 dX9_part_104 ?_
            refine r_top ev14 ?_
            refine lv_iadd C.1 C.2.1 dX9_part_105 ?_
            obtain rfl := Option.some.inj hf
            exact r_iret C hG dX9_part_106
          · skip
            rcases of_ite hf with ⟨c15, hf⟩ | ⟨c15, hf⟩
            · refine lv_tableIn (tgt := 107) (off := 50) C.1 C.2.1 dX9_part_57 (by rw [c15]; decide) (by rw [c15]; decide) (by rw [c15]; rfl) (by decide) ?_
              refine lv_aload_n C.1 C.2.1 dX9_part_107 rfl (lv_at hl 2 rfl) ?_
              refine gf_X9_63 C hG rfl dX9_part_108 ?_
              refine lv_iload C.1 C.2.1 dX9_part_111 (lv_at hl 1 rfl) ?_
              obtain ⟨v16, hv16, hf⟩ := of_bind hf
              obtain ⟨bv16, ev16⟩ := of_ldS hv16
              refine r_iald C hG (c0 := 18) (by decide) (entM_I (n := 24) rfl) bv16 dX9_part_113 ?_
              refine r_top ev16 ?_
              obtain rfl := Option.some.inj hf
              exact r_iret C hG dX9_part_114
            · skip
              rcases of_ite hf with ⟨c17, hf⟩ | ⟨c17, hf⟩
              · refine lv_tableIn (tgt := 115) (off := 58) C.1 C.2.1 dX9_part_57 (by rw [c17]; decide) (by rw [c17]; decide) (by rw [c17]; rfl) (by decide) ?_
                refine lv_aload_n C.1 C.2.1 dX9_part_115 rfl (lv_at hl 2 rfl) ?_
                refine gf_X9_63 C hG rfl dX9_part_116 ?_
                refine lv_iload C.1 C.2.1 dX9_part_119 (lv_at hl 1 rfl) ?_
                obtain ⟨v18, hv18, hf⟩ := of_bind hf
                obtain ⟨bv18, ev18⟩ := of_ldS hv18
                refine r_iald C hG (c0 := 18) (by decide) (entM_I (n := 24) rfl) bv18 dX9_part_121 ?_
                refine r_top ev18 ?_
                refine lv_iconst (v := nI 1) C.1 C.2.1 dX9_part_122 (by decide) ?_
                rcases of_ite hf with ⟨c19, hf⟩ | ⟨c19, hf⟩
                · refine lv_icmp_ne (tgt := 131) C.1 C.2.1 dX9_part_123 (by decide) (fun q => absurd c19 q) (fun _ => ?_)
                  refine lv_iload C.1 C.2.1 dX9_part_126 (lv_at hl 0 rfl) ?_
                  refine lv_goto (tgt := 135) C.1 C.2.1 dX9_part_128 (by decide) ?_
                  obtain rfl := Option.some.inj hf
                  exact r_iret C hG dX9_part_135
                · refine lv_icmp_ne (tgt := 131) C.1 C.2.1 dX9_part_123 (by decide) (fun _ => ?_) (fun q => absurd q c19)
                  refine lv_iload C.1 C.2.1 dX9_part_131 (lv_at hl 0 rfl) ?_
                  refine lv_iconst (v := nI 2) C.1 C.2.1 dX9_part_133 (by decide) ?_
                  refine lv_idiv C.1 C.2.1 dX9_part_134 (by decide) ?_
                  obtain rfl := Option.some.inj hf
                  exact r_iret C hG dX9_part_135
              · skip
                refine lv_tableOut (tgt := 136) C.1 C.2.1 dX9_part_57 (sw_out (n := 4) (by decide) (lt_s (lt_s (lt_s (lt_s lt_0 c11) c13) c15) c17)) (by decide) ?_
                refine lv_iconst (v := (-1 : Int32)) C.1 C.2.1 dX9_part_136 (by decide) ?_
                obtain rfl := Option.some.inj hf
                exact r_iret C hG dX9_part_137
    · refine lv_if_ge (tgt := 13) C.1 C.2.1 dX9_part_8 (by decide) (fun q => absurd q c3) (fun _ => ?_)
      refine lv_iconst (v := (-1 : Int32)) C.1 C.2.1 dX9_part_11 (by decide) ?_
      obtain rfl := Option.some.inj hf
      exact r_iret C hG dX9_part_12
set_option maxRecDepth 100000 in
set_option maxHeartbeats 4000000 in
theorem mt_X9_part (l : Launch) {G : GG} {A : Nat → Prop} {B : Nat} {X : va_W} {x1 : Int32} {x2 : Int32} {x3 : Int32} {w : Mem} {out : Int32 × Mem}  (hf : sh_X9_part x1 x2 x3 w = some out) : MetW l yX9_part wc_X9_part rm_X9_part G A 28 B (entM G B w) X [.ref (B + 0), .int x1, .int x2, .int x3] (some (.int out.1)) (entM G B out.2) := by
  refine Met.ofW (cc := cX9_part) (maxL := 6) (ret := (some .int)) (by decide) rfl ?_
  intro p e s m args below meth c s₁ B0 hml hv
  obtain ⟨rfl, hEv, hWd⟩ := hv
  have C : CX p s m _ meth c cX9_part 6 RX9 wc_X9_part (some .int) := ⟨B0.exec, B0.bytes, hml, findClass_of_methodNamed B0.named, atoms_spec (ws := wc_X9_part) B0.pre, B0.returns, B0.notSynchronized⟩
  have hl := lv_entry [.ref (B + 0), .int x1, .int x2, .int x3] (n := 6) (Nat.le_of_ble_eq_true rfl)
  rw [lg_entry_eq]
  generalize (lg_sl [.ref (B + 0), .int x1, .int x2, .int x3] ++ List.replicate (6 - (lg_sl [.ref (B + 0), .int x1, .int x2, .int x3]).length) Slot.unset).toArray = ls at hl ⊢
  have hl : lv_has ls 6 [(0, .ref (B + 0)), (1, .int x1), (2, .int x2), (3, .int x3)] := hl
  exact kb_X9_part_0 C  ⟨hEv, hWd, va_S.rf⟩ hl hf
abbrev wc_X9_rim : List Cond := Cond.code yX9_rim cX9_rim 6 (some .int) :: TG
abbrev rm_X9_rim : Room := { frames := 4, cells := 0, slots := 0, locals := 149 }
theorem cd_X9_rim : yX9_rim.cls = RX9 ∧ yX9_rim.cls ≠ "java/lang/invoke/MethodHandle" ∧ yX9_rim.cls ≠ "java/lang/invoke/VarHandle" ∧ (parseMethodDescriptor yX9_rim.desc).map (fun d => d.parameters.length) = some 2 := by decide +kernel
theorem dX9_rim_0 : decode cX9_rim 0 = .ok (.iload_n 1, 1) := by decide +kernel
theorem dX9_rim_1 : decode cX9_rim 1 = .ok (.invokestatic 205, 3) := by decide +kernel
theorem dX9_rim_4 : decode cX9_rim 4 = .ok (.ifCond .ne 5, 3) := by decide +kernel
theorem dX9_rim_7 : decode cX9_rim 7 = .ok (.iconst (-1), 1) := by decide +kernel
theorem dX9_rim_8 : decode cX9_rim 8 = .ok (.ireturn, 1) := by decide +kernel
theorem dX9_rim_9 : decode cX9_rim 9 = .ok (.aload_n 0, 1) := by decide +kernel
theorem dX9_rim_10 : decode cX9_rim 10 = .ok (.iload_n 1, 1) := by decide +kernel
theorem dX9_rim_11 : decode cX9_rim 11 = .ok (.invokevirtual 214, 3) := by decide +kernel
theorem dX9_rim_14 : decode cX9_rim 14 = .ok (.iload_n 2, 1) := by decide +kernel
theorem dX9_rim_15 : decode cX9_rim 15 = .ok (.i2l, 1) := by decide +kernel
theorem dX9_rim_16 : decode cX9_rim 16 = .ok (.lconst 0, 1) := by decide +kernel
theorem dX9_rim_17 : decode cX9_rim 17 = .ok (.aload_n 0, 1) := by decide +kernel
theorem dX9_rim_18 : decode cX9_rim 18 = .ok (.invokevirtual 176, 3) := by decide +kernel
theorem dX9_rim_21 : decode cX9_rim 21 = .ok (.iconst 1, 1) := by decide +kernel
theorem dX9_rim_22 : decode cX9_rim 22 = .ok (.isub, 1) := by decide +kernel
theorem dX9_rim_23 : decode cX9_rim 23 = .ok (.i2l, 1) := by decide +kernel
theorem dX9_rim_24 : decode cX9_rim 24 = .ok (.invokestatic 93, 3) := by decide +kernel
theorem dX9_rim_27 : decode cX9_rim 27 = .ok (.ifCond .ne 5, 3) := by decide +kernel
theorem dX9_rim_30 : decode cX9_rim 30 = .ok (.iconst (-1), 1) := by decide +kernel
theorem dX9_rim_31 : decode cX9_rim 31 = .ok (.ireturn, 1) := by decide +kernel
theorem dX9_rim_32 : decode cX9_rim 32 = .ok (.aload_n 0, 1) := by decide +kernel
theorem dX9_rim_33 : decode cX9_rim 33 = .ok (.invokevirtual 234, 3) := by decide +kernel
theorem dX9_rim_36 : decode cX9_rim 36 = .ok (.aload_n 0, 1) := by decide +kernel
theorem dX9_rim_37 : decode cX9_rim 37 = .ok (.aload_n 0, 1) := by decide +kernel
theorem dX9_rim_38 : decode cX9_rim 38 = .ok (.getfield 51, 3) := by decide +kernel
theorem dX9_rim_41 : decode cX9_rim 41 = .ok (.iload_n 2, 1) := by decide +kernel
theorem dX9_rim_42 : decode cX9_rim 42 = .ok (.iaload, 1) := by decide +kernel
theorem dX9_rim_43 : decode cX9_rim 43 = .ok (.invokevirtual 220, 3) := by decide +kernel
theorem dX9_rim_46 : decode cX9_rim 46 = .ok (.istore_n 3, 1) := by decide +kernel
theorem dX9_rim_47 : decode cX9_rim 47 = .ok (.iconst 0, 1) := by decide +kernel
theorem dX9_rim_48 : decode cX9_rim 48 = .ok (.istore 4, 2) := by decide +kernel
theorem dX9_rim_50 : decode cX9_rim 50 = .ok (.iconst 0, 1) := by decide +kernel
theorem dX9_rim_51 : decode cX9_rim 51 = .ok (.istore 5, 2) := by decide +kernel
theorem dX9_rim_53 : decode cX9_rim 53 = .ok (.iload 5, 2) := by decide +kernel
theorem dX9_rim_55 : decode cX9_rim 55 = .ok (.iload_n 3, 1) := by decide +kernel
theorem dX9_rim_56 : decode cX9_rim 56 = .ok (.if_icmp .ge 31, 3) := by decide +kernel
theorem dX9_rim_59 : decode cX9_rim 59 = .ok (.iload 4, 2) := by decide +kernel
theorem dX9_rim_61 : decode cX9_rim 61 = .ok (.aload_n 0, 1) := by decide +kernel
theorem dX9_rim_62 : decode cX9_rim 62 = .ok (.getfield 54, 3) := by decide +kernel
theorem dX9_rim_65 : decode cX9_rim 65 = .ok (.iload 5, 2) := by decide +kernel
theorem dX9_rim_67 : decode cX9_rim 67 = .ok (.iaload, 1) := by decide +kernel
theorem dX9_rim_68 : decode cX9_rim 68 = .ok (.iload 5, 2) := by decide +kernel
theorem dX9_rim_70 : decode cX9_rim 70 = .ok (.if_icmp .ne 7, 3) := by decide +kernel
theorem dX9_rim_73 : decode cX9_rim 73 = .ok (.iconst 1, 1) := by decide +kernel
theorem dX9_rim_74 : decode cX9_rim 74 = .ok (.goto 4, 3) := by decide +kernel
theorem dX9_rim_77 : decode cX9_rim 77 = .ok (.iconst 0, 1) := by decide +kernel
theorem dX9_rim_78 : decode cX9_rim 78 = .ok (.iadd, 1) := by decide +kernel
theorem dX9_rim_79 : decode cX9_rim 79 = .ok (.istore 4, 2) := by decide +kernel
theorem dX9_rim_81 : decode cX9_rim 81 = .ok (.iinc 5 1, 3) := by decide +kernel
theorem dX9_rim_84 : decode cX9_rim 84 = .ok (.goto (-31), 3) := by decide +kernel
theorem dX9_rim_87 : decode cX9_rim 87 = .ok (.iload 4, 2) := by decide +kernel
theorem dX9_rim_89 : decode cX9_rim 89 = .ok (.ireturn, 1) := by decide +kernel
set_option maxRecDepth 100000 in
set_option maxHeartbeats 4000000 in
theorem kb_X9_rim_53 {x3 : Int32} {w : Mem} {st : Int32 × Int32} {r : (Int32 × Int32) ⊕ ((Int32))} {H : Heap} {locs : List Loc} {ls : Array Slot} (C : CX p s m args meth c cX9_rim 6 RX9 wc_X9_rim (some .int))  (hG : Gd s G A 28 B (entM G B w) X H locs) (hl : lv_has ls 6 [(0, .ref (B + 0)), (3, .int x3), (4, .int st.1), (5, .int st.2)]) (hf : sh_X9_rim_s53 x3 w st = some r)
    (kL : ∀ st' : Int32 × Int32, r = Sum.inl st' → ∀ (H : Heap) (locs : List Loc) (ls : Array Slot), Gd s G A 28 B (entM G B w) X H locs → lv_has ls 6 [(0, .ref (B + 0)), (3, .int x3), (4, .int st'.1), (5, .int st'.2)] → W p l e rm_X9_rim s m args below meth c H locs 0 0 Q (F0 m 53 ls []))
    (kX0 : ∀ y' : Int32, r = Sum.inr y' → ∀ (H : Heap) (locs : List Loc) (ls : Array Slot), Gd s G A 28 B (entM G B w) X H locs → lv_has ls 6 [(4, .int y')] → W p l e rm_X9_rim s m args below meth c H locs 0 0 Q (F0 m 87 ls [])) :
    W p l e rm_X9_rim s m args below meth c H locs 0 0 Q (F0 m 53 ls []) := by
  refine lv_iload C.1 C.2.1 dX9_rim_53 (lv_at hl 3 rfl) ?_
  refine lv_iload_n C.1 C.2.1 dX9_rim_55 rfl (lv_at hl 1 rfl) ?_
  rcases of_ite hf with ⟨c1, hf⟩ | ⟨c1, hf⟩
  · refine lv_icmp_ge (tgt := 87) C.1 C.2.1 dX9_rim_56 (by decide) (fun _ => ?_) (fun q => absurd c1 q)
    obtain rfl := Option.some.inj hf
    exact kX0 _ rfl _ _ _ hG (lv_sub hl [2] rfl)
  · refine lv_icmp_ge (tgt := 87) C.1 C.2.1 dX9_rim_56 (by decide) (fun q => absurd q c1) (fun _ => ?_)
    refine lv_iload C.1 C.2.1 dX9_rim_59 (lv_at hl 2 rfl) ?_
    refine lv_aload_n C.1 C.2.1 dX9_rim_61 rfl (lv_at hl 0 rfl) ?_
    refine gf_X9_54 C hG rfl dX9_rim_62 ?_
    refine lv_iload C.1 C.2.1 dX9_rim_65 (lv_at hl 3 rfl) ?_
    obtain ⟨v2, hv2, hf⟩ := of_bind hf
    obtain ⟨bv2, ev2⟩ := of_ldS hv2
    refine r_iald C hG (c0 := 15) (by decide) (entM_I (n := 24) rfl) bv2 dX9_rim_67 ?_
    refine r_top ev2 ?_
    refine lv_iload C.1 C.2.1 dX9_rim_68 (lv_at hl 3 rfl) ?_
    rcases of_ite hf with ⟨c3, hf⟩ | ⟨c3, hf⟩
    · refine lv_icmp_ne (tgt := 77) C.1 C.2.1 dX9_rim_70 (by decide) (fun q => absurd c3 q) (fun _ => ?_)
      refine lv_iconst (v := nI 1) C.1 C.2.1 dX9_rim_73 (by decide) ?_
      refine lv_goto (tgt := 78) C.1 C.2.1 dX9_rim_74 (by decide) ?_
      refine lv_iadd C.1 C.2.1 dX9_rim_78 ?_
      obtain ⟨v6, ev6, hf⟩ := of_letv hf
      refine r_top ev6 ?_
      refine lv_istore (lv' := [(4, .int v6), (0, .ref (B + 0)), (3, .int x3), (5, .int st.2)]) C.1 C.2.1 dX9_rim_79 hl (by decide) rfl (fun ls hl => ?_)
      obtain ⟨v7, ev7, hf⟩ := of_letv hf
      refine lv_iinc (v := v7) (lv' := [(5, .int v7), (4, .int v6), (0, .ref (B + 0)), (3, .int x3)]) C.1 C.2.1 dX9_rim_81 hl (k := 3) rfl (by rw [ev7, show Int32.ofInt (1) = nI 1 from by decide]) (by decide) rfl (fun ls hl => ?_)
      refine lv_goto (tgt := 53) C.1 C.2.1 dX9_rim_84 (by decide) ?_
      obtain rfl := Option.some.inj hf
      exact kL _ rfl _ _ _ hG (lv_sub hl [2, 3, 1, 0] rfl)
    · refine lv_icmp_ne (tgt := 77) C.1 C.2.1 dX9_rim_70 (by decide) (fun _ => ?_) (fun q => absurd q c3)
      refine lv_iconst (v := nI 0) C.1 C.2.1 dX9_rim_77 (by decide) ?_
      refine lv_iadd C.1 C.2.1 dX9_rim_78 ?_
      obtain ⟨v4, ev4, hf⟩ := of_letv hf
      refine r_top ev4 ?_
      refine lv_istore (lv' := [(4, .int v4), (0, .ref (B + 0)), (3, .int x3), (5, .int st.2)]) C.1 C.2.1 dX9_rim_79 hl (by decide) rfl (fun ls hl => ?_)
      obtain ⟨v5, ev5, hf⟩ := of_letv hf
      refine lv_iinc (v := v5) (lv' := [(5, .int v5), (4, .int v4), (0, .ref (B + 0)), (3, .int x3)]) C.1 C.2.1 dX9_rim_81 hl (k := 3) rfl (by rw [ev5, show Int32.ofInt (1) = nI 1 from by decide]) (by decide) rfl (fun ls hl => ?_)
      refine lv_goto (tgt := 53) C.1 C.2.1 dX9_rim_84 (by decide) ?_
      obtain rfl := Option.some.inj hf
      exact kL _ rfl _ _ _ hG (lv_sub hl [2, 3, 1, 0] rfl)
set_option maxRecDepth 100000 in
set_option maxHeartbeats 4000000 in
theorem kl_X9_rim_53 {x3 : Int32} {w : Mem} (C : CX p s m args meth c cX9_rim 6 RX9 wc_X9_rim (some .int))  : ∀ (n : Nat) (st : Int32 × Int32) (x : (Int32)) (H : Heap) (locs : List Loc) (ls : Array Slot), Gd s G A 28 B (entM G B w) X H locs → lv_has ls 6 [(0, .ref (B + 0)), (3, .int x3), (4, .int st.1), (5, .int st.2)] → lpw (sh_X9_rim_s53 x3 w) n st = some x →
    (∀ y' : Int32, x = y' → ∀ (H : Heap) (locs : List Loc) (ls : Array Slot), Gd s G A 28 B (entM G B w) X H locs → lv_has ls 6 [(4, .int y')] → W p l e rm_X9_rim s m args below meth c H locs 0 0 Q (F0 m 87 ls [])) → W p l e rm_X9_rim s m args below meth c H locs 0 0 Q (F0 m 53 ls []) := by
  intro n
  induction n with
  | zero =>
    intro st x H locs ls hG hl hf
    cases hf
  | succ n ih =>
    intro st x H locs ls hG hl hf kX0
    obtain ⟨r, hr, hh⟩ := of_lpw hf
    refine kb_X9_rim_53 C  hG hl hr (fun st2 e1 H locs ls hG hl => ?_) (fun y2 e1 H locs ls hG hl => ?_)
    · rcases hh with ⟨s3, e2, hh⟩ | e2
      · rw [e2] at e1
        cases e1
        exact ih _ _ _ _ _ hG hl hh kX0
      · rw [e2] at e1
        cases e1
    · rcases hh with ⟨s3, e2, hh⟩ | e2
      · rw [e2] at e1
        cases e1
      · rw [e2] at e1
        cases e1
        exact kX0 _ rfl _ _ _ hG hl
set_option maxRecDepth 100000 in
set_option maxHeartbeats 4000000 in
theorem kb_X9_rim_0 {x1 : Int32} {x2 : Int32} {w : Mem} {out : Int32 × Mem} {H : Heap} {locs : List Loc} {ls : Array Slot} (C : CX p s m args meth c cX9_rim 6 RX9 wc_X9_rim (some .int))  (hG : Gd s G A 28 B (entM G B w) X H locs) (hl : lv_has ls 6 [(0, .ref (B + 0)), (1, .int x1), (2, .int x2)]) (hf : sh_X9_rim x1 x2 w = some out) :
    W p l e rm_X9_rim s m args below meth c H locs 0 0 (MQ below (CPost G A 28 B (entM G B out.2) X (some (.int out.1))) args s 0 0 A) (F0 m 0 ls []) := by
  refine lv_iload_n C.1 C.2.1 dX9_rim_0 rfl (lv_at hl 1 rfl) ?_
  obtain ⟨v1, hv1, hf⟩ := of_bind hf
  refine r_callS1 C hG hl.1 (As := [.int x1]) (mt_X9_isSurface l  hv1) (va_cwS 1 C.2.2.2.2.1 (gd_S tg_5_64 tg_5_65 tg_1_10 tg_5_66) rfl rfl rfl cd_X9_isSurface.2 ⟨Nat.le_of_ble_eq_true rfl, Nat.le_of_ble_eq_true rfl⟩) rfl rfl (Nat.le_of_ble_eq_true rfl) dX9_rim_1 (fun H locs hG => ?_)
  rcases of_ite hf with ⟨c2, hf⟩ | ⟨c2, hf⟩
  · refine lv_if_ne (tgt := 9) C.1 C.2.1 dX9_rim_4 (by decide) (fun q => absurd c2 q) (fun _ => ?_)
    refine lv_iconst (v := (-1 : Int32)) C.1 C.2.1 dX9_rim_7 (by decide) ?_
    obtain rfl := Option.some.inj hf
    exact r_iret C hG dX9_rim_8
  · refine lv_if_ne (tgt := 9) C.1 C.2.1 dX9_rim_4 (by decide) (fun _ => ?_) (fun q => absurd q c2)
    refine lv_aload_n C.1 C.2.1 dX9_rim_9 rfl (lv_at hl 0 rfl) ?_
    refine lv_iload_n C.1 C.2.1 dX9_rim_10 rfl (lv_at hl 1 rfl) ?_
    obtain ⟨w3, hw3, hf⟩ := of_bind hf
    refine r_callV0 C hG hl.1 (c0 := 0) (As := [.int x1]) (by decide) (entM_O (n := 35) rfl) rfl (mt_X9_loads l  hw3) (cwV 1 C.2.2.2.2.1 (gd_V tg_5_107 tg_5_109 tgp_44 tg_1_10 tg_5_110) rfl rfl rfl cd_X9_loads ⟨Nat.le_of_ble_eq_true rfl, Nat.le_of_ble_eq_true rfl⟩) rfl rfl (Nat.le_of_ble_eq_true rfl) dX9_rim_11 (fun H locs hG => ?_)
    refine lv_iload_n C.1 C.2.1 dX9_rim_14 rfl (lv_at hl 2 rfl) ?_
    refine lv_i2l C.1 C.2.1 dX9_rim_15 rfl ?_
    refine lv_lconst (v := lN 0) C.1 C.2.1 dX9_rim_16 rfl ?_
    refine lv_aload_n C.1 C.2.1 dX9_rim_17 rfl (lv_at hl 0 rfl) ?_
    obtain ⟨v4, hv4, hf⟩ := of_bind hf
    refine r_callV1 C hG hl.1 (c0 := 0) (As := []) (by decide) (entM_O (n := 35) rfl) rfl (mt_X9_circles l  hv4) (cwV 0 C.2.2.2.2.1 (gd_V tg_5_88 tg_5_90 tgp_41 tg_1_10 tg_5_91) rfl rfl rfl cd_X9_circles ⟨Nat.le_of_ble_eq_true rfl, Nat.le_of_ble_eq_true rfl⟩) rfl rfl (Nat.le_of_ble_eq_true rfl) dX9_rim_18 (fun H locs hG => ?_)
    refine lv_iconst (v := nI 1) C.1 C.2.1 dX9_rim_21 (by decide) ?_
    refine lv_isub C.1 C.2.1 dX9_rim_22 ?_
    refine lv_i2l C.1 C.2.1 dX9_rim_23 rfl ?_
    obtain ⟨v5, hv5, hf⟩ := of_bind hf
    refine r_callS1 C hG hl.1 (As := [.long x2.toInt64, .long (lN 0), .long ((v4 - (nI 1)).toInt64)]) (mt_X9_isIn l  hv5) (va_cwS 3 C.2.2.2.2.1 (gd_S tg_4_195 tg_4_196 tg_1_10 tg_4_197) rfl rfl rfl cd_X9_isIn.2 ⟨Nat.le_of_ble_eq_true rfl, Nat.le_of_ble_eq_true rfl⟩) rfl rfl (Nat.le_of_ble_eq_true rfl) dX9_rim_24 (fun H locs hG => ?_)
    rcases of_ite hf with ⟨c6, hf⟩ | ⟨c6, hf⟩
    · refine lv_if_ne (tgt := 32) C.1 C.2.1 dX9_rim_27 (by decide) (fun q => absurd c6 q) (fun _ => ?_)
      refine lv_iconst (v := (-1 : Int32)) C.1 C.2.1 dX9_rim_30 (by decide) ?_
      obtain rfl := Option.some.inj hf
      exact r_iret C hG dX9_rim_31
    · refine lv_if_ne (tgt := 32) C.1 C.2.1 dX9_rim_27 (by decide) (fun _ => ?_) (fun q => absurd q c6)
      refine lv_aload_n C.1 C.2.1 dX9_rim_32 rfl (lv_at hl 0 rfl) ?_
      obtain ⟨w7, hw7, hf⟩ := of_bind hf
      refine r_callV0 C hG hl.1 (c0 := 0) (As := []) (by decide) (entM_O (n := 35) rfl) rfl (mt_X9_partsOf l  hw7) (cwV 0 C.2.2.2.2.1 (gd_V tg_5_119 tg_5_121 tgp_45 tg_1_10 tg_5_122) rfl rfl rfl cd_X9_partsOf ⟨Nat.le_of_ble_eq_true rfl, Nat.le_of_ble_eq_true rfl⟩) rfl rfl (Nat.le_of_ble_eq_true rfl) dX9_rim_33 (fun H locs hG => ?_)
      refine lv_aload_n C.1 C.2.1 dX9_rim_36 rfl (lv_at hl 0 rfl) ?_
      refine lv_aload_n C.1 C.2.1 dX9_rim_37 rfl (lv_at hl 0 rfl) ?_
      refine gf_X9_51 C hG rfl dX9_rim_38 ?_
      refine lv_iload_n C.1 C.2.1 dX9_rim_41 rfl (lv_at hl 2 rfl) ?_
      obtain ⟨v8, hv8, hf⟩ := of_bind hf
      obtain ⟨bv8, ev8⟩ := of_ldS hv8
      refine r_iald C hG (c0 := 14) (by decide) (entM_I (n := 3) rfl) bv8 dX9_rim_42 ?_
      refine r_top ev8 ?_
      obtain ⟨v9, hv9, hf⟩ := of_bind hf
      refine r_callV1 C hG hl.1 (c0 := 0) (As := [.int v8]) (by decide) (entM_O (n := 35) rfl) rfl (mt_X9_first l  hv9) (cwV 1 C.2.2.2.2.1 (gd_V tg_5_123 tg_5_125 tgp_46 tg_1_10 tg_5_126) rfl rfl rfl cd_X9_first ⟨Nat.le_of_ble_eq_true rfl, Nat.le_of_ble_eq_true rfl⟩) rfl rfl (Nat.le_of_ble_eq_true rfl) dX9_rim_43 (fun H locs hG => ?_)
      refine lv_istore_n (lv' := [(3, .int v9), (0, .ref (B + 0)), (1, .int x1), (2, .int x2)]) C.1 C.2.1 dX9_rim_46 rfl hl (by decide) rfl (fun ls hl => ?_)
      refine lv_iconst (v := nI 0) C.1 C.2.1 dX9_rim_47 (by decide) ?_
      refine lv_istore (lv' := [(4, .int (nI 0)), (3, .int v9), (0, .ref (B + 0)), (1, .int x1), (2, .int x2)]) C.1 C.2.1 dX9_rim_48 hl (by decide) rfl (fun ls hl => ?_)
      refine lv_iconst (v := nI 0) C.1 C.2.1 dX9_rim_50 (by decide) ?_
      refine lv_istore (lv' := [(5, .int (nI 0)), (4, .int (nI 0)), (3, .int v9), (0, .ref (B + 0)), (1, .int x1), (2, .int x2)]) C.1 C.2.1 dX9_rim_51 hl (by decide) rfl (fun ls hl => ?_)
      obtain ⟨ex10, hex10, hf⟩ := of_bind hf
      refine kl_X9_rim_53 C  FU (nI 0, nI 0) ex10 _ _ _ hG (lv_sub hl [3, 2, 1, 0] rfl) hex10 (fun y e0 H locs ls hG hl => ?_)
      subst e0
      refine lv_iload C.1 C.2.1 dX9_rim_87 (lv_at hl 0 rfl) ?_
      obtain rfl := Option.some.inj hf
      exact r_iret C hG dX9_rim_89
set_option maxRecDepth 100000 in
set_option maxHeartbeats 4000000 in
theorem mt_X9_rim (l : Launch) {G : GG} {A : Nat → Prop} {B : Nat} {X : va_W} {x1 : Int32} {x2 : Int32} {w : Mem} {out : Int32 × Mem}  (hf : sh_X9_rim x1 x2 w = some out) : MetW l yX9_rim wc_X9_rim rm_X9_rim G A 28 B (entM G B w) X [.ref (B + 0), .int x1, .int x2] (some (.int out.1)) (entM G B out.2) := by
  refine Met.ofW (cc := cX9_rim) (maxL := 6) (ret := (some .int)) (by decide) rfl ?_
  intro p e s m args below meth c s₁ B0 hml hv
  obtain ⟨rfl, hEv, hWd⟩ := hv
  have C : CX p s m _ meth c cX9_rim 6 RX9 wc_X9_rim (some .int) := ⟨B0.exec, B0.bytes, hml, findClass_of_methodNamed B0.named, atoms_spec (ws := wc_X9_rim) B0.pre, B0.returns, B0.notSynchronized⟩
  have hl := lv_entry [.ref (B + 0), .int x1, .int x2] (n := 6) (Nat.le_of_ble_eq_true rfl)
  rw [lg_entry_eq]
  generalize (lg_sl [.ref (B + 0), .int x1, .int x2] ++ List.replicate (6 - (lg_sl [.ref (B + 0), .int x1, .int x2]).length) Slot.unset).toArray = ls at hl ⊢
  have hl : lv_has ls 6 [(0, .ref (B + 0)), (1, .int x1), (2, .int x2)] := hl
  exact kb_X9_rim_0 C  ⟨hEv, hWd, va_S.rf⟩ hl hf
abbrev wc_X9_match : List Cond := Cond.code yX9_match cX9_match 8 (some .int) :: TG
abbrev rm_X9_match : Room := { frames := 4, cells := 0, slots := 0, locals := 149 }
theorem cd_X9_match : yX9_match.cls = RX9 ∧ yX9_match.cls ≠ "java/lang/invoke/MethodHandle" ∧ yX9_match.cls ≠ "java/lang/invoke/VarHandle" ∧ (parseMethodDescriptor yX9_match.desc).map (fun d => d.parameters.length) = some 2 := by decide +kernel
theorem dX9_match_0 : decode cX9_match 0 = .ok (.iload_n 1, 1) := by decide +kernel
theorem dX9_match_1 : decode cX9_match 1 = .ok (.invokestatic 205, 3) := by decide +kernel
theorem dX9_match_4 : decode cX9_match 4 = .ok (.ifCond .eq 10, 3) := by decide +kernel
theorem dX9_match_7 : decode cX9_match 7 = .ok (.iload_n 2, 1) := by decide +kernel
theorem dX9_match_8 : decode cX9_match 8 = .ok (.invokestatic 205, 3) := by decide +kernel
theorem dX9_match_11 : decode cX9_match 11 = .ok (.ifCond .ne 5, 3) := by decide +kernel
theorem dX9_match_14 : decode cX9_match 14 = .ok (.iconst (-1), 1) := by decide +kernel
theorem dX9_match_15 : decode cX9_match 15 = .ok (.ireturn, 1) := by decide +kernel
theorem dX9_match_16 : decode cX9_match 16 = .ok (.aload_n 0, 1) := by decide +kernel
theorem dX9_match_17 : decode cX9_match 17 = .ok (.iload_n 2, 1) := by decide +kernel
theorem dX9_match_18 : decode cX9_match 18 = .ok (.invokevirtual 214, 3) := by decide +kernel
theorem dX9_match_21 : decode cX9_match 21 = .ok (.aload_n 0, 1) := by decide +kernel
theorem dX9_match_22 : decode cX9_match 22 = .ok (.invokevirtual 234, 3) := by decide +kernel
theorem dX9_match_25 : decode cX9_match 25 = .ok (.iconst 0, 1) := by decide +kernel
theorem dX9_match_26 : decode cX9_match 26 = .ok (.istore_n 3, 1) := by decide +kernel
theorem dX9_match_27 : decode cX9_match 27 = .ok (.iconst 0, 1) := by decide +kernel
theorem dX9_match_28 : decode cX9_match 28 = .ok (.istore 4, 2) := by decide +kernel
theorem dX9_match_30 : decode cX9_match 30 = .ok (.iload 4, 2) := by decide +kernel
theorem dX9_match_32 : decode cX9_match 32 = .ok (.aload_n 0, 1) := by decide +kernel
theorem dX9_match_33 : decode cX9_match 33 = .ok (.getfield 217, 3) := by decide +kernel
theorem dX9_match_36 : decode cX9_match 36 = .ok (.if_icmp .ge 63, 3) := by decide +kernel
theorem dX9_match_39 : decode cX9_match 39 = .ok (.aload_n 0, 1) := by decide +kernel
theorem dX9_match_40 : decode cX9_match 40 = .ok (.getfield 54, 3) := by decide +kernel
theorem dX9_match_43 : decode cX9_match 43 = .ok (.iload 4, 2) := by decide +kernel
theorem dX9_match_45 : decode cX9_match 45 = .ok (.iaload, 1) := by decide +kernel
theorem dX9_match_46 : decode cX9_match 46 = .ok (.iload 4, 2) := by decide +kernel
theorem dX9_match_48 : decode cX9_match 48 = .ok (.if_icmp .ne 45, 3) := by decide +kernel
theorem dX9_match_51 : decode cX9_match 51 = .ok (.aload_n 0, 1) := by decide +kernel
theorem dX9_match_52 : decode cX9_match 52 = .ok (.getfield 66, 3) := by decide +kernel
theorem dX9_match_55 : decode cX9_match 55 = .ok (.iload_n 3, 1) := by decide +kernel
theorem dX9_match_56 : decode cX9_match 56 = .ok (.aload_n 0, 1) := by decide +kernel
theorem dX9_match_57 : decode cX9_match 57 = .ok (.getfield 60, 3) := by decide +kernel
theorem dX9_match_60 : decode cX9_match 60 = .ok (.iload 4, 2) := by decide +kernel
theorem dX9_match_62 : decode cX9_match 62 = .ok (.iaload, 1) := by decide +kernel
theorem dX9_match_63 : decode cX9_match 63 = .ok (.iastore, 1) := by decide +kernel
theorem dX9_match_64 : decode cX9_match 64 = .ok (.aload_n 0, 1) := by decide +kernel
theorem dX9_match_65 : decode cX9_match 65 = .ok (.getfield 69, 3) := by decide +kernel
theorem dX9_match_68 : decode cX9_match 68 = .ok (.iload_n 3, 1) := by decide +kernel
theorem dX9_match_69 : decode cX9_match 69 = .ok (.aload_n 0, 1) := by decide +kernel
theorem dX9_match_70 : decode cX9_match 70 = .ok (.getfield 57, 3) := by decide +kernel
theorem dX9_match_73 : decode cX9_match 73 = .ok (.iload 4, 2) := by decide +kernel
theorem dX9_match_75 : decode cX9_match 75 = .ok (.iaload, 1) := by decide +kernel
theorem dX9_match_76 : decode cX9_match 76 = .ok (.iastore, 1) := by decide +kernel
theorem dX9_match_77 : decode cX9_match 77 = .ok (.aload_n 0, 1) := by decide +kernel
theorem dX9_match_78 : decode cX9_match 78 = .ok (.getfield 72, 3) := by decide +kernel
theorem dX9_match_81 : decode cX9_match 81 = .ok (.iload_n 3, 1) := by decide +kernel
theorem dX9_match_82 : decode cX9_match 82 = .ok (.aload_n 0, 1) := by decide +kernel
theorem dX9_match_83 : decode cX9_match 83 = .ok (.getfield 63, 3) := by decide +kernel
theorem dX9_match_86 : decode cX9_match 86 = .ok (.iload 4, 2) := by decide +kernel
theorem dX9_match_88 : decode cX9_match 88 = .ok (.iaload, 1) := by decide +kernel
theorem dX9_match_89 : decode cX9_match 89 = .ok (.iastore, 1) := by decide +kernel
theorem dX9_match_90 : decode cX9_match 90 = .ok (.iinc 3 1, 3) := by decide +kernel
theorem dX9_match_93 : decode cX9_match 93 = .ok (.iinc 4 1, 3) := by decide +kernel
theorem dX9_match_96 : decode cX9_match 96 = .ok (.goto (-66), 3) := by decide +kernel
theorem dX9_match_99 : decode cX9_match 99 = .ok (.aload_n 0, 1) := by decide +kernel
theorem dX9_match_100 : decode cX9_match 100 = .ok (.iload_n 1, 1) := by decide +kernel
theorem dX9_match_101 : decode cX9_match 101 = .ok (.invokevirtual 214, 3) := by decide +kernel
theorem dX9_match_104 : decode cX9_match 104 = .ok (.aload_n 0, 1) := by decide +kernel
theorem dX9_match_105 : decode cX9_match 105 = .ok (.invokevirtual 234, 3) := by decide +kernel
theorem dX9_match_108 : decode cX9_match 108 = .ok (.iconst 0, 1) := by decide +kernel
theorem dX9_match_109 : decode cX9_match 109 = .ok (.istore 4, 2) := by decide +kernel
theorem dX9_match_111 : decode cX9_match 111 = .ok (.iconst 0, 1) := by decide +kernel
theorem dX9_match_112 : decode cX9_match 112 = .ok (.istore 5, 2) := by decide +kernel
theorem dX9_match_114 : decode cX9_match 114 = .ok (.iload 5, 2) := by decide +kernel
theorem dX9_match_116 : decode cX9_match 116 = .ok (.aload_n 0, 1) := by decide +kernel
theorem dX9_match_117 : decode cX9_match 117 = .ok (.getfield 217, 3) := by decide +kernel
theorem dX9_match_120 : decode cX9_match 120 = .ok (.if_icmp .ge 113, 3) := by decide +kernel
theorem dX9_match_123 : decode cX9_match 123 = .ok (.aload_n 0, 1) := by decide +kernel
theorem dX9_match_124 : decode cX9_match 124 = .ok (.getfield 54, 3) := by decide +kernel
theorem dX9_match_127 : decode cX9_match 127 = .ok (.iload 5, 2) := by decide +kernel
theorem dX9_match_129 : decode cX9_match 129 = .ok (.iaload, 1) := by decide +kernel
theorem dX9_match_130 : decode cX9_match 130 = .ok (.iload 5, 2) := by decide +kernel
theorem dX9_match_132 : decode cX9_match 132 = .ok (.if_icmp .ne 7, 3) := by decide +kernel
theorem dX9_match_135 : decode cX9_match 135 = .ok (.iconst 1, 1) := by decide +kernel
theorem dX9_match_136 : decode cX9_match 136 = .ok (.goto 4, 3) := by decide +kernel
theorem dX9_match_139 : decode cX9_match 139 = .ok (.iconst 0, 1) := by decide +kernel
theorem dX9_match_140 : decode cX9_match 140 = .ok (.istore 6, 2) := by decide +kernel
theorem dX9_match_142 : decode cX9_match 142 = .ok (.iconst 0, 1) := by decide +kernel
theorem dX9_match_143 : decode cX9_match 143 = .ok (.istore 7, 2) := by decide +kernel
theorem dX9_match_145 : decode cX9_match 145 = .ok (.iload 7, 2) := by decide +kernel
theorem dX9_match_147 : decode cX9_match 147 = .ok (.iload_n 3, 1) := by decide +kernel
theorem dX9_match_148 : decode cX9_match 148 = .ok (.if_icmp .ge 79, 3) := by decide +kernel
theorem dX9_match_151 : decode cX9_match 151 = .ok (.iload 6, 2) := by decide +kernel
theorem dX9_match_153 : decode cX9_match 153 = .ok (.ifCond .eq 74, 3) := by decide +kernel
theorem dX9_match_156 : decode cX9_match 156 = .ok (.aload_n 0, 1) := by decide +kernel
theorem dX9_match_157 : decode cX9_match 157 = .ok (.getfield 66, 3) := by decide +kernel
theorem dX9_match_160 : decode cX9_match 160 = .ok (.iload 7, 2) := by decide +kernel
theorem dX9_match_162 : decode cX9_match 162 = .ok (.iaload, 1) := by decide +kernel
theorem dX9_match_163 : decode cX9_match 163 = .ok (.aload_n 0, 1) := by decide +kernel
theorem dX9_match_164 : decode cX9_match 164 = .ok (.getfield 60, 3) := by decide +kernel
theorem dX9_match_167 : decode cX9_match 167 = .ok (.iload 5, 2) := by decide +kernel
theorem dX9_match_169 : decode cX9_match 169 = .ok (.iaload, 1) := by decide +kernel
theorem dX9_match_170 : decode cX9_match 170 = .ok (.if_icmp .ne 51, 3) := by decide +kernel
theorem dX9_match_173 : decode cX9_match 173 = .ok (.aload_n 0, 1) := by decide +kernel
theorem dX9_match_174 : decode cX9_match 174 = .ok (.getfield 69, 3) := by decide +kernel
theorem dX9_match_177 : decode cX9_match 177 = .ok (.iload 7, 2) := by decide +kernel
theorem dX9_match_179 : decode cX9_match 179 = .ok (.iaload, 1) := by decide +kernel
theorem dX9_match_180 : decode cX9_match 180 = .ok (.aload_n 0, 1) := by decide +kernel
theorem dX9_match_181 : decode cX9_match 181 = .ok (.getfield 57, 3) := by decide +kernel
theorem dX9_match_184 : decode cX9_match 184 = .ok (.iload 5, 2) := by decide +kernel
theorem dX9_match_186 : decode cX9_match 186 = .ok (.iaload, 1) := by decide +kernel
theorem dX9_match_187 : decode cX9_match 187 = .ok (.if_icmp .ne 34, 3) := by decide +kernel
theorem dX9_match_190 : decode cX9_match 190 = .ok (.aload_n 0, 1) := by decide +kernel
theorem dX9_match_191 : decode cX9_match 191 = .ok (.getfield 72, 3) := by decide +kernel
theorem dX9_match_194 : decode cX9_match 194 = .ok (.iload 7, 2) := by decide +kernel
theorem dX9_match_196 : decode cX9_match 196 = .ok (.iaload, 1) := by decide +kernel
theorem dX9_match_197 : decode cX9_match 197 = .ok (.aload_n 0, 1) := by decide +kernel
theorem dX9_match_198 : decode cX9_match 198 = .ok (.getfield 63, 3) := by decide +kernel
theorem dX9_match_201 : decode cX9_match 201 = .ok (.iload 5, 2) := by decide +kernel
theorem dX9_match_203 : decode cX9_match 203 = .ok (.iaload, 1) := by decide +kernel
theorem dX9_match_204 : decode cX9_match 204 = .ok (.if_icmp .ne 17, 3) := by decide +kernel
theorem dX9_match_207 : decode cX9_match 207 = .ok (.aload_n 0, 1) := by decide +kernel
theorem dX9_match_208 : decode cX9_match 208 = .ok (.getfield 66, 3) := by decide +kernel
theorem dX9_match_211 : decode cX9_match 211 = .ok (.iload 7, 2) := by decide +kernel
theorem dX9_match_213 : decode cX9_match 213 = .ok (.iconst (-1), 1) := by decide +kernel
theorem dX9_match_214 : decode cX9_match 214 = .ok (.iastore, 1) := by decide +kernel
theorem dX9_match_215 : decode cX9_match 215 = .ok (.iconst 0, 1) := by decide +kernel
theorem dX9_match_216 : decode cX9_match 216 = .ok (.istore 6, 2) := by decide +kernel
theorem dX9_match_218 : decode cX9_match 218 = .ok (.iinc 4 1, 3) := by decide +kernel
theorem dX9_match_221 : decode cX9_match 221 = .ok (.iinc 7 1, 3) := by decide +kernel
theorem dX9_match_224 : decode cX9_match 224 = .ok (.goto (-79), 3) := by decide +kernel
theorem dX9_match_227 : decode cX9_match 227 = .ok (.iinc 5 1, 3) := by decide +kernel
theorem dX9_match_230 : decode cX9_match 230 = .ok (.goto (-116), 3) := by decide +kernel
theorem dX9_match_233 : decode cX9_match 233 = .ok (.iload 4, 2) := by decide +kernel
theorem dX9_match_235 : decode cX9_match 235 = .ok (.ireturn, 1) := by decide +kernel
set_option maxRecDepth 100000 in
set_option maxHeartbeats 4000000 in
theorem kb_X9_match_30 {x1 : Int32} {st : Int32 × Int32 × Mem} {r : (Int32 × Int32 × Mem) ⊕ ((Int32 × Mem))} {H : Heap} {locs : List Loc} {ls : Array Slot} (C : CX p s m args meth c cX9_match 8 RX9 wc_X9_match (some .int))  (hG : Gd s G A 28 B (entM G B st.2.2) X H locs) (hl : lv_has ls 8 [(0, .ref (B + 0)), (1, .int x1), (3, .int st.1), (4, .int st.2.1)]) (hf : sh_X9_match_s30 x1 st = some r)
    (kL : ∀ st' : Int32 × Int32 × Mem, r = Sum.inl st' → ∀ (H : Heap) (locs : List Loc) (ls : Array Slot), Gd s G A 28 B (entM G B st'.2.2) X H locs → lv_has ls 8 [(0, .ref (B + 0)), (1, .int x1), (3, .int st'.1), (4, .int st'.2.1)] → W p l e rm_X9_match s m args below meth c H locs 0 0 Q (F0 m 30 ls []))
    (kX0 : ∀ y' : Int32 × Mem, r = Sum.inr y' → ∀ (H : Heap) (locs : List Loc) (ls : Array Slot), Gd s G A 28 B (entM G B y'.2) X H locs → lv_has ls 8 [(0, .ref (B + 0)), (1, .int x1), (3, .int y'.1)] → W p l e rm_X9_match s m args below meth c H locs 0 0 Q (F0 m 99 ls [])) :
    W p l e rm_X9_match s m args below meth c H locs 0 0 Q (F0 m 30 ls []) := by
  refine lv_iload C.1 C.2.1 dX9_match_30 (lv_at hl 3 rfl) ?_
  refine lv_aload_n C.1 C.2.1 dX9_match_32 rfl (lv_at hl 0 rfl) ?_
  refine gf_X9_217 C hG rfl dX9_match_33 ?_
  rcases of_ite hf with ⟨c1, hf⟩ | ⟨c1, hf⟩
  · refine lv_icmp_ge (tgt := 99) C.1 C.2.1 dX9_match_36 (by decide) (fun _ => ?_) (fun q => absurd c1 q)
    obtain rfl := Option.some.inj hf
    exact kX0 _ rfl _ _ _ hG (lv_sub hl [0, 1, 2] rfl)
  · refine lv_icmp_ge (tgt := 99) C.1 C.2.1 dX9_match_36 (by decide) (fun q => absurd q c1) (fun _ => ?_)
    refine lv_aload_n C.1 C.2.1 dX9_match_39 rfl (lv_at hl 0 rfl) ?_
    refine gf_X9_54 C hG rfl dX9_match_40 ?_
    refine lv_iload C.1 C.2.1 dX9_match_43 (lv_at hl 3 rfl) ?_
    obtain ⟨v2, hv2, hf⟩ := of_bind hf
    obtain ⟨bv2, ev2⟩ := of_ldS hv2
    refine r_iald C hG (c0 := 15) (by decide) (entM_I (n := 24) rfl) bv2 dX9_match_45 ?_
    refine r_top ev2 ?_
    refine lv_iload C.1 C.2.1 dX9_match_46 (lv_at hl 3 rfl) ?_
    rcases of_ite hf with ⟨c3, hf⟩ | ⟨c3, hf⟩
    · refine lv_icmp_ne (tgt := 93) C.1 C.2.1 dX9_match_48 (by decide) (fun q => absurd c3 q) (fun _ => ?_)
      refine lv_aload_n C.1 C.2.1 dX9_match_51 rfl (lv_at hl 0 rfl) ?_
      refine gf_X9_66 C hG rfl dX9_match_52 ?_
      refine lv_iload_n C.1 C.2.1 dX9_match_55 rfl (lv_at hl 2 rfl) ?_
      refine lv_aload_n C.1 C.2.1 dX9_match_56 rfl (lv_at hl 0 rfl) ?_
      refine gf_X9_60 C hG rfl dX9_match_57 ?_
      refine lv_iload C.1 C.2.1 dX9_match_60 (lv_at hl 3 rfl) ?_
      obtain ⟨v5, hv5, hf⟩ := of_bind hf
      obtain ⟨bv5, ev5⟩ := of_ldS hv5
      refine r_iald C hG (c0 := 17) (by decide) (entM_I (n := 24) rfl) bv5 dX9_match_62 ?_
      refine r_top ev5 ?_
      obtain ⟨w6, hw6, hf⟩ := of_bind hf
      obtain ⟨bw6, ew6⟩ := of_stM hw6
      refine r_iast C hG (c0 := 19) (by decide) (entM_I (n := 24) rfl) bw6 (E' := (entM G B w6)) (by rw [ew6]; exact upM_I (n := 24) rfl) dX9_match_63 (fun H locs hG => ?_)
      refine lv_aload_n C.1 C.2.1 dX9_match_64 rfl (lv_at hl 0 rfl) ?_
      refine gf_X9_69 C hG rfl dX9_match_65 ?_
      refine lv_iload_n C.1 C.2.1 dX9_match_68 rfl (lv_at hl 2 rfl) ?_
      refine lv_aload_n C.1 C.2.1 dX9_match_69 rfl (lv_at hl 0 rfl) ?_
      refine gf_X9_57 C hG rfl dX9_match_70 ?_
      refine lv_iload C.1 C.2.1 dX9_match_73 (lv_at hl 3 rfl) ?_
      obtain ⟨v7, hv7, hf⟩ := of_bind hf
      obtain ⟨bv7, ev7⟩ := of_ldS hv7
      refine r_iald C hG (c0 := 16) (by decide) (entM_I (n := 24) rfl) bv7 dX9_match_75 ?_
      refine r_top ev7 ?_
      obtain ⟨w8, hw8, hf⟩ := of_bind hf
      obtain ⟨bw8, ew8⟩ := of_stM hw8
      refine r_iast C hG (c0 := 20) (by decide) (entM_I (n := 24) rfl) bw8 (E' := (entM G B w8)) (by rw [ew8]; exact upM_I (n := 24) rfl) dX9_match_76 (fun H locs hG => ?_)
      refine lv_aload_n C.1 C.2.1 dX9_match_77 rfl (lv_at hl 0 rfl) ?_
      refine gf_X9_72 C hG rfl dX9_match_78 ?_
      refine lv_iload_n C.1 C.2.1 dX9_match_81 rfl (lv_at hl 2 rfl) ?_
      refine lv_aload_n C.1 C.2.1 dX9_match_82 rfl (lv_at hl 0 rfl) ?_
      refine gf_X9_63 C hG rfl dX9_match_83 ?_
      refine lv_iload C.1 C.2.1 dX9_match_86 (lv_at hl 3 rfl) ?_
      obtain ⟨v9, hv9, hf⟩ := of_bind hf
      obtain ⟨bv9, ev9⟩ := of_ldS hv9
      refine r_iald C hG (c0 := 18) (by decide) (entM_I (n := 24) rfl) bv9 dX9_match_88 ?_
      refine r_top ev9 ?_
      obtain ⟨w10, hw10, hf⟩ := of_bind hf
      obtain ⟨bw10, ew10⟩ := of_stM hw10
      refine r_iast C hG (c0 := 21) (by decide) (entM_I (n := 24) rfl) bw10 (E' := (entM G B w10)) (by rw [ew10]; exact upM_I (n := 24) rfl) dX9_match_89 (fun H locs hG => ?_)
      obtain ⟨v11, ev11, hf⟩ := of_letv hf
      refine lv_iinc (v := v11) (lv' := [(3, .int v11), (0, .ref (B + 0)), (1, .int x1), (4, .int st.2.1)]) C.1 C.2.1 dX9_match_90 hl (k := 2) rfl (by rw [ev11, show Int32.ofInt (1) = nI 1 from by decide]) (by decide) rfl (fun ls hl => ?_)
      obtain ⟨v12, ev12, hf⟩ := of_letv hf
      refine lv_iinc (v := v12) (lv' := [(4, .int v12), (3, .int v11), (0, .ref (B + 0)), (1, .int x1)]) C.1 C.2.1 dX9_match_93 hl (k := 3) rfl (by rw [ev12, show Int32.ofInt (1) = nI 1 from by decide]) (by decide) rfl (fun ls hl => ?_)
      refine lv_goto (tgt := 30) C.1 C.2.1 dX9_match_96 (by decide) ?_
      obtain rfl := Option.some.inj hf
      exact kL _ rfl _ _ _ hG (lv_sub hl [2, 3, 1, 0] rfl)
    · refine lv_icmp_ne (tgt := 93) C.1 C.2.1 dX9_match_48 (by decide) (fun _ => ?_) (fun q => absurd q c3)
      obtain ⟨v4, ev4, hf⟩ := of_letv hf
      refine lv_iinc (v := v4) (lv' := [(4, .int v4), (0, .ref (B + 0)), (1, .int x1), (3, .int st.1)]) C.1 C.2.1 dX9_match_93 hl (k := 3) rfl (by rw [ev4, show Int32.ofInt (1) = nI 1 from by decide]) (by decide) rfl (fun ls hl => ?_)
      refine lv_goto (tgt := 30) C.1 C.2.1 dX9_match_96 (by decide) ?_
      obtain rfl := Option.some.inj hf
      exact kL _ rfl _ _ _ hG (lv_sub hl [1, 2, 3, 0] rfl)
set_option maxRecDepth 100000 in
set_option maxHeartbeats 4000000 in
theorem kl_X9_match_30 {x1 : Int32} (C : CX p s m args meth c cX9_match 8 RX9 wc_X9_match (some .int))  : ∀ (n : Nat) (st : Int32 × Int32 × Mem) (x : (Int32 × Mem)) (H : Heap) (locs : List Loc) (ls : Array Slot), Gd s G A 28 B (entM G B st.2.2) X H locs → lv_has ls 8 [(0, .ref (B + 0)), (1, .int x1), (3, .int st.1), (4, .int st.2.1)] → lpw (sh_X9_match_s30 x1) n st = some x →
    (∀ y' : Int32 × Mem, x = y' → ∀ (H : Heap) (locs : List Loc) (ls : Array Slot), Gd s G A 28 B (entM G B y'.2) X H locs → lv_has ls 8 [(0, .ref (B + 0)), (1, .int x1), (3, .int y'.1)] → W p l e rm_X9_match s m args below meth c H locs 0 0 Q (F0 m 99 ls [])) → W p l e rm_X9_match s m args below meth c H locs 0 0 Q (F0 m 30 ls []) := by
  intro n
  induction n with
  | zero =>
    intro st x H locs ls hG hl hf
    cases hf
  | succ n ih =>
    intro st x H locs ls hG hl hf kX0
    obtain ⟨r, hr, hh⟩ := of_lpw hf
    refine kb_X9_match_30 C  hG hl hr (fun st2 e1 H locs ls hG hl => ?_) (fun y2 e1 H locs ls hG hl => ?_)
    · rcases hh with ⟨s3, e2, hh⟩ | e2
      · rw [e2] at e1
        cases e1
        exact ih _ _ _ _ _ hG hl hh kX0
      · rw [e2] at e1
        cases e1
    · rcases hh with ⟨s3, e2, hh⟩ | e2
      · rw [e2] at e1
        cases e1
      · rw [e2] at e1
        cases e1
        exact kX0 _ rfl _ _ _ hG hl
set_option maxRecDepth 100000 in
set_option maxHeartbeats 4000000 in
theorem kb_X9_match_145 {x3 : Int32} {x5 : Int32} {st : Int32 × Int32 × Int32 × Mem} {r : (Int32 × Int32 × Int32 × Mem) ⊕ ((Int32 × Mem))} {H : Heap} {locs : List Loc} {ls : Array Slot} (C : CX p s m args meth c cX9_match 8 RX9 wc_X9_match (some .int))  (hG : Gd s G A 28 B (entM G B st.2.2.2) X H locs) (hl : lv_has ls 8 [(0, .ref (B + 0)), (3, .int x3), (4, .int st.1), (5, .int x5), (6, .int st.2.1), (7, .int st.2.2.1)]) (hf : sh_X9_match_s145 x3 x5 st = some r)
    (kL : ∀ st' : Int32 × Int32 × Int32 × Mem, r = Sum.inl st' → ∀ (H : Heap) (locs : List Loc) (ls : Array Slot), Gd s G A 28 B (entM G B st'.2.2.2) X H locs → lv_has ls 8 [(0, .ref (B + 0)), (3, .int x3), (4, .int st'.1), (5, .int x5), (6, .int st'.2.1), (7, .int st'.2.2.1)] → W p l e rm_X9_match s m args below meth c H locs 0 0 Q (F0 m 145 ls []))
    (kX0 : ∀ y' : Int32 × Mem, r = Sum.inr y' → ∀ (H : Heap) (locs : List Loc) (ls : Array Slot), Gd s G A 28 B (entM G B y'.2) X H locs → lv_has ls 8 [(0, .ref (B + 0)), (3, .int x3), (4, .int y'.1), (5, .int x5)] → W p l e rm_X9_match s m args below meth c H locs 0 0 Q (F0 m 227 ls [])) :
    W p l e rm_X9_match s m args below meth c H locs 0 0 Q (F0 m 145 ls []) := by
  refine lv_iload C.1 C.2.1 dX9_match_145 (lv_at hl 5 rfl) ?_
  refine lv_iload_n C.1 C.2.1 dX9_match_147 rfl (lv_at hl 1 rfl) ?_
  rcases of_ite hf with ⟨c1, hf⟩ | ⟨c1, hf⟩
  · refine lv_icmp_ge (tgt := 227) C.1 C.2.1 dX9_match_148 (by decide) (fun _ => ?_) (fun q => absurd c1 q)
    obtain rfl := Option.some.inj hf
    exact kX0 _ rfl _ _ _ hG (lv_sub hl [0, 1, 2, 3] rfl)
  · refine lv_icmp_ge (tgt := 227) C.1 C.2.1 dX9_match_148 (by decide) (fun q => absurd q c1) (fun _ => ?_)
    refine lv_iload C.1 C.2.1 dX9_match_151 (lv_at hl 4 rfl) ?_
    rcases of_ite hf with ⟨c2, hf⟩ | ⟨c2, hf⟩
    · refine lv_if_eq (tgt := 227) C.1 C.2.1 dX9_match_153 (by decide) (fun _ => ?_) (fun q => absurd c2 q)
      obtain rfl := Option.some.inj hf
      exact kX0 _ rfl _ _ _ hG (lv_sub hl [0, 1, 2, 3] rfl)
    · refine lv_if_eq (tgt := 227) C.1 C.2.1 dX9_match_153 (by decide) (fun q => absurd q c2) (fun _ => ?_)
      refine lv_aload_n C.1 C.2.1 dX9_match_156 rfl (lv_at hl 0 rfl) ?_
      refine gf_X9_66 C hG rfl dX9_match_157 ?_
      refine lv_iload C.1 C.2.1 dX9_match_160 (lv_at hl 5 rfl) ?_
      obtain ⟨v3, hv3, hf⟩ := of_bind hf
      obtain ⟨bv3, ev3⟩ := of_ldS hv3
      refine r_iald C hG (c0 := 19) (by decide) (entM_I (n := 24) rfl) bv3 dX9_match_162 ?_
      refine r_top ev3 ?_
      refine lv_aload_n C.1 C.2.1 dX9_match_163 rfl (lv_at hl 0 rfl) ?_
      refine gf_X9_60 C hG rfl dX9_match_164 ?_
      refine lv_iload C.1 C.2.1 dX9_match_167 (lv_at hl 3 rfl) ?_
      obtain ⟨v4, hv4, hf⟩ := of_bind hf
      obtain ⟨bv4, ev4⟩ := of_ldS hv4
      refine r_iald C hG (c0 := 17) (by decide) (entM_I (n := 24) rfl) bv4 dX9_match_169 ?_
      refine r_top ev4 ?_
      rcases of_ite hf with ⟨c5, hf⟩ | ⟨c5, hf⟩
      · refine lv_icmp_ne (tgt := 221) C.1 C.2.1 dX9_match_170 (by decide) (fun q => absurd c5 q) (fun _ => ?_)
        refine lv_aload_n C.1 C.2.1 dX9_match_173 rfl (lv_at hl 0 rfl) ?_
        refine gf_X9_69 C hG rfl dX9_match_174 ?_
        refine lv_iload C.1 C.2.1 dX9_match_177 (lv_at hl 5 rfl) ?_
        obtain ⟨v7, hv7, hf⟩ := of_bind hf
        obtain ⟨bv7, ev7⟩ := of_ldS hv7
        refine r_iald C hG (c0 := 20) (by decide) (entM_I (n := 24) rfl) bv7 dX9_match_179 ?_
        refine r_top ev7 ?_
        refine lv_aload_n C.1 C.2.1 dX9_match_180 rfl (lv_at hl 0 rfl) ?_
        refine gf_X9_57 C hG rfl dX9_match_181 ?_
        refine lv_iload C.1 C.2.1 dX9_match_184 (lv_at hl 3 rfl) ?_
        obtain ⟨v8, hv8, hf⟩ := of_bind hf
        obtain ⟨bv8, ev8⟩ := of_ldS hv8
        refine r_iald C hG (c0 := 16) (by decide) (entM_I (n := 24) rfl) bv8 dX9_match_186 ?_
        refine r_top ev8 ?_
        rcases of_ite hf with ⟨c9, hf⟩ | ⟨c9, hf⟩
        · refine lv_icmp_ne (tgt := 221) C.1 C.2.1 dX9_match_187 (by decide) (fun q => absurd c9 q) (fun _ => ?_)
          refine lv_aload_n C.1 C.2.1 dX9_match_190 rfl (lv_at hl 0 rfl) ?_
          refine gf_X9_72 C hG rfl dX9_match_191 ?_
          refine lv_iload C.1 C.2.1 dX9_match_194 (lv_at hl 5 rfl) ?_
          obtain ⟨v11, hv11, hf⟩ := of_bind hf
          obtain ⟨bv11, ev11⟩ := of_ldS hv11
          refine r_iald C hG (c0 := 21) (by decide) (entM_I (n := 24) rfl) bv11 dX9_match_196 ?_
          refine r_top ev11 ?_
          refine lv_aload_n C.1 C.2.1 dX9_match_197 rfl (lv_at hl 0 rfl) ?_
          refine gf_X9_63 C hG rfl dX9_match_198 ?_
          refine lv_iload C.1 C.2.1 dX9_match_201 (lv_at hl 3 rfl) ?_
          obtain ⟨v12, hv12, hf⟩ := of_bind hf
          obtain ⟨bv12, ev12⟩ := of_ldS hv12
          refine r_iald C hG (c0 := 18) (by decide) (entM_I (n := 24) rfl) bv12 dX9_match_203 ?_
          refine r_top ev12 ?_
          rcases of_ite hf with ⟨c13, hf⟩ | ⟨c13, hf⟩
          · refine lv_icmp_ne (tgt := 221) C.1 C.2.1 dX9_match_204 (by decide) (fun q => absurd c13 q) (fun _ => ?_)
            refine lv_aload_n C.1 C.2.1 dX9_match_207 rfl (lv_at hl 0 rfl) ?_
            refine gf_X9_66 C hG rfl dX9_match_208 ?_
            refine lv_iload C.1 C.2.1 dX9_match_211 (lv_at hl 5 rfl) ?_
            refine lv_iconst (v := (-1 : Int32)) C.1 C.2.1 dX9_match_213 (by decide) ?_
            obtain ⟨w15, hw15, hf⟩ := of_bind hf
            obtain ⟨bw15, ew15⟩ := of_stM hw15
            refine r_iast C hG (c0 := 19) (by decide) (entM_I (n := 24) rfl) bw15 (E' := (entM G B w15)) (by rw [ew15]; exact upM_I (n := 24) rfl) dX9_match_214 (fun H locs hG => ?_)
            refine lv_iconst (v := nI 0) C.1 C.2.1 dX9_match_215 (by decide) ?_
            refine lv_istore (lv' := [(6, .int (nI 0)), (0, .ref (B + 0)), (3, .int x3), (4, .int st.1), (5, .int x5), (7, .int st.2.2.1)]) C.1 C.2.1 dX9_match_216 hl (by decide) rfl (fun ls hl => ?_)
            obtain ⟨v16, ev16, hf⟩ := of_letv hf
            refine lv_iinc (v := v16) (lv' := [(4, .int v16), (6, .int (nI 0)), (0, .ref (B + 0)), (3, .int x3), (5, .int x5), (7, .int st.2.2.1)]) C.1 C.2.1 dX9_match_218 hl (k := 3) rfl (by rw [ev16, show Int32.ofInt (1) = nI 1 from by decide]) (by decide) rfl (fun ls hl => ?_)
            obtain ⟨v17, ev17, hf⟩ := of_letv hf
            refine lv_iinc (v := v17) (lv' := [(7, .int v17), (4, .int v16), (6, .int (nI 0)), (0, .ref (B + 0)), (3, .int x3), (5, .int x5)]) C.1 C.2.1 dX9_match_221 hl (k := 5) rfl (by rw [ev17, show Int32.ofInt (1) = nI 1 from by decide]) (by decide) rfl (fun ls hl => ?_)
            refine lv_goto (tgt := 145) C.1 C.2.1 dX9_match_224 (by decide) ?_
            obtain rfl := Option.some.inj hf
            exact kL _ rfl _ _ _ hG (lv_sub hl [3, 4, 1, 5, 2, 0] rfl)
          · refine lv_icmp_ne (tgt := 221) C.1 C.2.1 dX9_match_204 (by decide) (fun _ => ?_) (fun q => absurd q c13)
            obtain ⟨v14, ev14, hf⟩ := of_letv hf
            refine lv_iinc (v := v14) (lv' := [(7, .int v14), (0, .ref (B + 0)), (3, .int x3), (4, .int st.1), (5, .int x5), (6, .int st.2.1)]) C.1 C.2.1 dX9_match_221 hl (k := 5) rfl (by rw [ev14, show Int32.ofInt (1) = nI 1 from by decide]) (by decide) rfl (fun ls hl => ?_)
            refine lv_goto (tgt := 145) C.1 C.2.1 dX9_match_224 (by decide) ?_
            obtain rfl := Option.some.inj hf
            exact kL _ rfl _ _ _ hG (lv_sub hl [1, 2, 3, 4, 5, 0] rfl)
        · refine lv_icmp_ne (tgt := 221) C.1 C.2.1 dX9_match_187 (by decide) (fun _ => ?_) (fun q => absurd q c9)
          obtain ⟨v10, ev10, hf⟩ := of_letv hf
          refine lv_iinc (v := v10) (lv' := [(7, .int v10), (0, .ref (B + 0)), (3, .int x3), (4, .int st.1), (5, .int x5), (6, .int st.2.1)]) C.1 C.2.1 dX9_match_221 hl (k := 5) rfl (by rw [ev10, show Int32.ofInt (1) = nI 1 from by decide]) (by decide) rfl (fun ls hl => ?_)
          refine lv_goto (tgt := 145) C.1 C.2.1 dX9_match_224 (by decide) ?_
          obtain rfl := Option.some.inj hf
          exact kL _ rfl _ _ _ hG (lv_sub hl [1, 2, 3, 4, 5, 0] rfl)
      · refine lv_icmp_ne (tgt := 221) C.1 C.2.1 dX9_match_170 (by decide) (fun _ => ?_) (fun q => absurd q c5)
        obtain ⟨v6, ev6, hf⟩ := of_letv hf
        refine lv_iinc (v := v6) (lv' := [(7, .int v6), (0, .ref (B + 0)), (3, .int x3), (4, .int st.1), (5, .int x5), (6, .int st.2.1)]) C.1 C.2.1 dX9_match_221 hl (k := 5) rfl (by rw [ev6, show Int32.ofInt (1) = nI 1 from by decide]) (by decide) rfl (fun ls hl => ?_)
        refine lv_goto (tgt := 145) C.1 C.2.1 dX9_match_224 (by decide) ?_
        obtain rfl := Option.some.inj hf
        exact kL _ rfl _ _ _ hG (lv_sub hl [1, 2, 3, 4, 5, 0] rfl)
set_option maxRecDepth 100000 in
set_option maxHeartbeats 4000000 in
theorem kl_X9_match_145 {x3 : Int32} {x5 : Int32} (C : CX p s m args meth c cX9_match 8 RX9 wc_X9_match (some .int))  : ∀ (n : Nat) (st : Int32 × Int32 × Int32 × Mem) (x : (Int32 × Mem)) (H : Heap) (locs : List Loc) (ls : Array Slot), Gd s G A 28 B (entM G B st.2.2.2) X H locs → lv_has ls 8 [(0, .ref (B + 0)), (3, .int x3), (4, .int st.1), (5, .int x5), (6, .int st.2.1), (7, .int st.2.2.1)] → lpw (sh_X9_match_s145 x3 x5) n st = some x →
    (∀ y' : Int32 × Mem, x = y' → ∀ (H : Heap) (locs : List Loc) (ls : Array Slot), Gd s G A 28 B (entM G B y'.2) X H locs → lv_has ls 8 [(0, .ref (B + 0)), (3, .int x3), (4, .int y'.1), (5, .int x5)] → W p l e rm_X9_match s m args below meth c H locs 0 0 Q (F0 m 227 ls [])) → W p l e rm_X9_match s m args below meth c H locs 0 0 Q (F0 m 145 ls []) := by
  intro n
  induction n with
  | zero =>
    intro st x H locs ls hG hl hf
    cases hf
  | succ n ih =>
    intro st x H locs ls hG hl hf kX0
    obtain ⟨r, hr, hh⟩ := of_lpw hf
    refine kb_X9_match_145 C  hG hl hr (fun st2 e1 H locs ls hG hl => ?_) (fun y2 e1 H locs ls hG hl => ?_)
    · rcases hh with ⟨s3, e2, hh⟩ | e2
      · rw [e2] at e1
        cases e1
        exact ih _ _ _ _ _ hG hl hh kX0
      · rw [e2] at e1
        cases e1
    · rcases hh with ⟨s3, e2, hh⟩ | e2
      · rw [e2] at e1
        cases e1
      · rw [e2] at e1
        cases e1
        exact kX0 _ rfl _ _ _ hG hl
set_option maxRecDepth 100000 in
set_option maxHeartbeats 4000000 in
theorem kb_X9_match_140 {x3 : Int32} {x4 : Int32} {x5 : Int32} {s0 : Int32} {w : Mem} {r : (Int32 × Int32 × Mem) ⊕ ((Int32 × Mem))} {H : Heap} {locs : List Loc} {ls : Array Slot} (C : CX p s m args meth c cX9_match 8 RX9 wc_X9_match (some .int))  (hG : Gd s G A 28 B (entM G B w) X H locs) (hl : lv_has ls 8 [(0, .ref (B + 0)), (3, .int x3), (4, .int x4), (5, .int x5)]) (hf : sh_X9_match_j140 x3 x4 x5 s0 w = some r)
    (kL : ∀ st' : Int32 × Int32 × Mem, r = Sum.inl st' → ∀ (H : Heap) (locs : List Loc) (ls : Array Slot), Gd s G A 28 B (entM G B st'.2.2) X H locs → lv_has ls 8 [(0, .ref (B + 0)), (3, .int x3), (4, .int st'.1), (5, .int st'.2.1)] → W p l e rm_X9_match s m args below meth c H locs 0 0 Q (F0 m 114 ls []))
    (kX0 : ∀ y' : Int32 × Mem, r = Sum.inr y' → ∀ (H : Heap) (locs : List Loc) (ls : Array Slot), Gd s G A 28 B (entM G B y'.2) X H locs → lv_has ls 8 [(4, .int y'.1)] → W p l e rm_X9_match s m args below meth c H locs 0 0 Q (F0 m 233 ls [])) :
    W p l e rm_X9_match s m args below meth c H locs 0 0 Q (F0 m 140 ls [.int s0]) := by
  refine lv_istore (lv' := [(6, .int s0), (0, .ref (B + 0)), (3, .int x3), (4, .int x4), (5, .int x5)]) C.1 C.2.1 dX9_match_140 hl (by decide) rfl (fun ls hl => ?_)
  refine lv_iconst (v := nI 0) C.1 C.2.1 dX9_match_142 (by decide) ?_
  refine lv_istore (lv' := [(7, .int (nI 0)), (6, .int s0), (0, .ref (B + 0)), (3, .int x3), (4, .int x4), (5, .int x5)]) C.1 C.2.1 dX9_match_143 hl (by decide) rfl (fun ls hl => ?_)
  obtain ⟨ex1, hex1, hf⟩ := of_bind hf
  refine kl_X9_match_145 C  FU (x4, s0, nI 0, w) ex1 _ _ _ hG (lv_sub hl [2, 3, 4, 5, 1, 0] rfl) hex1 (fun y e0 H locs ls hG hl => ?_)
  subst e0
  obtain ⟨v2, ev2, hf⟩ := of_letv hf
  refine lv_iinc (v := v2) (lv' := [(5, .int v2), (0, .ref (B + 0)), (3, .int x3), (4, .int ex1.1)]) C.1 C.2.1 dX9_match_227 hl (k := 3) rfl (by rw [ev2, show Int32.ofInt (1) = nI 1 from by decide]) (by decide) rfl (fun ls hl => ?_)
  refine lv_goto (tgt := 114) C.1 C.2.1 dX9_match_230 (by decide) ?_
  obtain rfl := Option.some.inj hf
  exact kL _ rfl _ _ _ hG (lv_sub hl [1, 2, 3, 0] rfl)
set_option maxRecDepth 100000 in
set_option maxHeartbeats 4000000 in
theorem kb_X9_match_114 {x3 : Int32} {st : Int32 × Int32 × Mem} {r : (Int32 × Int32 × Mem) ⊕ ((Int32 × Mem))} {H : Heap} {locs : List Loc} {ls : Array Slot} (C : CX p s m args meth c cX9_match 8 RX9 wc_X9_match (some .int))  (hG : Gd s G A 28 B (entM G B st.2.2) X H locs) (hl : lv_has ls 8 [(0, .ref (B + 0)), (3, .int x3), (4, .int st.1), (5, .int st.2.1)]) (hf : sh_X9_match_s114 x3 st = some r)
    (kL : ∀ st' : Int32 × Int32 × Mem, r = Sum.inl st' → ∀ (H : Heap) (locs : List Loc) (ls : Array Slot), Gd s G A 28 B (entM G B st'.2.2) X H locs → lv_has ls 8 [(0, .ref (B + 0)), (3, .int x3), (4, .int st'.1), (5, .int st'.2.1)] → W p l e rm_X9_match s m args below meth c H locs 0 0 Q (F0 m 114 ls []))
    (kX0 : ∀ y' : Int32 × Mem, r = Sum.inr y' → ∀ (H : Heap) (locs : List Loc) (ls : Array Slot), Gd s G A 28 B (entM G B y'.2) X H locs → lv_has ls 8 [(4, .int y'.1)] → W p l e rm_X9_match s m args below meth c H locs 0 0 Q (F0 m 233 ls [])) :
    W p l e rm_X9_match s m args below meth c H locs 0 0 Q (F0 m 114 ls []) := by
  refine lv_iload C.1 C.2.1 dX9_match_114 (lv_at hl 3 rfl) ?_
  refine lv_aload_n C.1 C.2.1 dX9_match_116 rfl (lv_at hl 0 rfl) ?_
  refine gf_X9_217 C hG rfl dX9_match_117 ?_
  rcases of_ite hf with ⟨c1, hf⟩ | ⟨c1, hf⟩
  · refine lv_icmp_ge (tgt := 233) C.1 C.2.1 dX9_match_120 (by decide) (fun _ => ?_) (fun q => absurd c1 q)
    obtain rfl := Option.some.inj hf
    exact kX0 _ rfl _ _ _ hG (lv_sub hl [2] rfl)
  · refine lv_icmp_ge (tgt := 233) C.1 C.2.1 dX9_match_120 (by decide) (fun q => absurd q c1) (fun _ => ?_)
    refine lv_aload_n C.1 C.2.1 dX9_match_123 rfl (lv_at hl 0 rfl) ?_
    refine gf_X9_54 C hG rfl dX9_match_124 ?_
    refine lv_iload C.1 C.2.1 dX9_match_127 (lv_at hl 3 rfl) ?_
    obtain ⟨v2, hv2, hf⟩ := of_bind hf
    obtain ⟨bv2, ev2⟩ := of_ldS hv2
    refine r_iald C hG (c0 := 15) (by decide) (entM_I (n := 24) rfl) bv2 dX9_match_129 ?_
    refine r_top ev2 ?_
    refine lv_iload C.1 C.2.1 dX9_match_130 (lv_at hl 3 rfl) ?_
    rcases of_ite hf with ⟨c3, hf⟩ | ⟨c3, hf⟩
    · refine lv_icmp_ne (tgt := 139) C.1 C.2.1 dX9_match_132 (by decide) (fun q => absurd c3 q) (fun _ => ?_)
      refine lv_iconst (v := nI 1) C.1 C.2.1 dX9_match_135 (by decide) ?_
      refine lv_goto (tgt := 140) C.1 C.2.1 dX9_match_136 (by decide) ?_
      exact kb_X9_match_140 C  hG hl hf kL kX0
    · refine lv_icmp_ne (tgt := 139) C.1 C.2.1 dX9_match_132 (by decide) (fun _ => ?_) (fun q => absurd q c3)
      refine lv_iconst (v := nI 0) C.1 C.2.1 dX9_match_139 (by decide) ?_
      exact kb_X9_match_140 C  hG hl hf kL kX0
set_option maxRecDepth 100000 in
set_option maxHeartbeats 4000000 in
theorem kl_X9_match_114 {x3 : Int32} (C : CX p s m args meth c cX9_match 8 RX9 wc_X9_match (some .int))  : ∀ (n : Nat) (st : Int32 × Int32 × Mem) (x : (Int32 × Mem)) (H : Heap) (locs : List Loc) (ls : Array Slot), Gd s G A 28 B (entM G B st.2.2) X H locs → lv_has ls 8 [(0, .ref (B + 0)), (3, .int x3), (4, .int st.1), (5, .int st.2.1)] → lpw (sh_X9_match_s114 x3) n st = some x →
    (∀ y' : Int32 × Mem, x = y' → ∀ (H : Heap) (locs : List Loc) (ls : Array Slot), Gd s G A 28 B (entM G B y'.2) X H locs → lv_has ls 8 [(4, .int y'.1)] → W p l e rm_X9_match s m args below meth c H locs 0 0 Q (F0 m 233 ls [])) → W p l e rm_X9_match s m args below meth c H locs 0 0 Q (F0 m 114 ls []) := by
  intro n
  induction n with
  | zero =>
    intro st x H locs ls hG hl hf
    cases hf
  | succ n ih =>
    intro st x H locs ls hG hl hf kX0
    obtain ⟨r, hr, hh⟩ := of_lpw hf
    refine kb_X9_match_114 C  hG hl hr (fun st2 e1 H locs ls hG hl => ?_) (fun y2 e1 H locs ls hG hl => ?_)
    · rcases hh with ⟨s3, e2, hh⟩ | e2
      · rw [e2] at e1
        cases e1
        exact ih _ _ _ _ _ hG hl hh kX0
      · rw [e2] at e1
        cases e1
    · rcases hh with ⟨s3, e2, hh⟩ | e2
      · rw [e2] at e1
        cases e1
      · rw [e2] at e1
        cases e1
        exact kX0 _ rfl _ _ _ hG hl
set_option maxRecDepth 100000 in
set_option maxHeartbeats 4000000 in
theorem kb_X9_match_0 {x1 : Int32} {x2 : Int32} {w : Mem} {out : Int32 × Mem} {H : Heap} {locs : List Loc} {ls : Array Slot} (C : CX p s m args meth c cX9_match 8 RX9 wc_X9_match (some .int))  (hG : Gd s G A 28 B (entM G B w) X H locs) (hl : lv_has ls 8 [(0, .ref (B + 0)), (1, .int x1), (2, .int x2)]) (hf : sh_X9_match x1 x2 w = some out) :
    W p l e rm_X9_match s m args below meth c H locs 0 0 (MQ below (CPost G A 28 B (entM G B out.2) X (some (.int out.1))) args s 0 0 A) (F0 m 0 ls []) := by
  refine lv_iload_n C.1 C.2.1 dX9_match_0 rfl (lv_at hl 1 rfl) ?_
  obtain ⟨v1, hv1, hf⟩ := of_bind hf
  refine r_callS1 C hG hl.1 (As := [.int x1]) (mt_X9_isSurface l  hv1) (va_cwS 1 C.2.2.2.2.1 (gd_S tg_5_64 tg_5_65 tg_1_10 tg_5_66) rfl rfl rfl cd_X9_isSurface.2 ⟨Nat.le_of_ble_eq_true rfl, Nat.le_of_ble_eq_true rfl⟩) rfl rfl (Nat.le_of_ble_eq_true rfl) dX9_match_1 (fun H locs hG => ?_)
  rcases of_ite hf with ⟨c2, hf⟩ | ⟨c2, hf⟩
  · refine lv_if_eq (tgt := 14) C.1 C.2.1 dX9_match_4 (by decide) (fun _ => ?_) (fun q => absurd c2 q)
    refine lv_iconst (v := (-1 : Int32)) C.1 C.2.1 dX9_match_14 (by decide) ?_
    obtain rfl := Option.some.inj hf
    exact r_iret C hG dX9_match_15
  · refine lv_if_eq (tgt := 14) C.1 C.2.1 dX9_match_4 (by decide) (fun q => absurd q c2) (fun _ => ?_)
    refine lv_iload_n C.1 C.2.1 dX9_match_7 rfl (lv_at hl 2 rfl) ?_
    obtain ⟨v3, hv3, hf⟩ := of_bind hf
    refine r_callS1 C hG hl.1 (As := [.int x2]) (mt_X9_isSurface l  hv3) (va_cwS 1 C.2.2.2.2.1 (gd_S tg_5_64 tg_5_65 tg_1_10 tg_5_66) rfl rfl rfl cd_X9_isSurface.2 ⟨Nat.le_of_ble_eq_true rfl, Nat.le_of_ble_eq_true rfl⟩) rfl rfl (Nat.le_of_ble_eq_true rfl) dX9_match_8 (fun H locs hG => ?_)
    rcases of_ite hf with ⟨c4, hf⟩ | ⟨c4, hf⟩
    · refine lv_if_ne (tgt := 16) C.1 C.2.1 dX9_match_11 (by decide) (fun q => absurd c4 q) (fun _ => ?_)
      refine lv_iconst (v := (-1 : Int32)) C.1 C.2.1 dX9_match_14 (by decide) ?_
      obtain rfl := Option.some.inj hf
      exact r_iret C hG dX9_match_15
    · refine lv_if_ne (tgt := 16) C.1 C.2.1 dX9_match_11 (by decide) (fun _ => ?_) (fun q => absurd q c4)
      refine lv_aload_n C.1 C.2.1 dX9_match_16 rfl (lv_at hl 0 rfl) ?_
      refine lv_iload_n C.1 C.2.1 dX9_match_17 rfl (lv_at hl 2 rfl) ?_
      obtain ⟨w5, hw5, hf⟩ := of_bind hf
      refine r_callV0 C hG hl.1 (c0 := 0) (As := [.int x2]) (by decide) (entM_O (n := 35) rfl) rfl (mt_X9_loads l  hw5) (cwV 1 C.2.2.2.2.1 (gd_V tg_5_107 tg_5_109 tgp_44 tg_1_10 tg_5_110) rfl rfl rfl cd_X9_loads ⟨Nat.le_of_ble_eq_true rfl, Nat.le_of_ble_eq_true rfl⟩) rfl rfl (Nat.le_of_ble_eq_true rfl) dX9_match_18 (fun H locs hG => ?_)
      refine lv_aload_n C.1 C.2.1 dX9_match_21 rfl (lv_at hl 0 rfl) ?_
      obtain ⟨w6, hw6, hf⟩ := of_bind hf
      refine r_callV0 C hG hl.1 (c0 := 0) (As := []) (by decide) (entM_O (n := 35) rfl) rfl (mt_X9_partsOf l  hw6) (cwV 0 C.2.2.2.2.1 (gd_V tg_5_119 tg_5_121 tgp_45 tg_1_10 tg_5_122) rfl rfl rfl cd_X9_partsOf ⟨Nat.le_of_ble_eq_true rfl, Nat.le_of_ble_eq_true rfl⟩) rfl rfl (Nat.le_of_ble_eq_true rfl) dX9_match_22 (fun H locs hG => ?_)
      refine lv_iconst (v := nI 0) C.1 C.2.1 dX9_match_25 (by decide) ?_
      refine lv_istore_n (lv' := [(3, .int (nI 0)), (0, .ref (B + 0)), (1, .int x1), (2, .int x2)]) C.1 C.2.1 dX9_match_26 rfl hl (by decide) rfl (fun ls hl => ?_)
      refine lv_iconst (v := nI 0) C.1 C.2.1 dX9_match_27 (by decide) ?_
      refine lv_istore (lv' := [(4, .int (nI 0)), (3, .int (nI 0)), (0, .ref (B + 0)), (1, .int x1), (2, .int x2)]) C.1 C.2.1 dX9_match_28 hl (by decide) rfl (fun ls hl => ?_)
      obtain ⟨ex7, hex7, hf⟩ := of_bind hf
      refine kl_X9_match_30 C  FU (nI 0, nI 0, w6) ex7 _ _ _ hG (lv_sub hl [2, 3, 1, 0] rfl) hex7 (fun y e0 H locs ls hG hl => ?_)
      subst e0
      refine lv_aload_n C.1 C.2.1 dX9_match_99 rfl (lv_at hl 0 rfl) ?_
      refine lv_iload_n C.1 C.2.1 dX9_match_100 rfl (lv_at hl 1 rfl) ?_
      obtain ⟨w8, hw8, hf⟩ := of_bind hf
      refine r_callV0 C hG hl.1 (c0 := 0) (As := [.int x1]) (by decide) (entM_O (n := 35) rfl) rfl (mt_X9_loads l  hw8) (cwV 1 C.2.2.2.2.1 (gd_V tg_5_107 tg_5_109 tgp_44 tg_1_10 tg_5_110) rfl rfl rfl cd_X9_loads ⟨Nat.le_of_ble_eq_true rfl, Nat.le_of_ble_eq_true rfl⟩) rfl rfl (Nat.le_of_ble_eq_true rfl) dX9_match_101 (fun H locs hG => ?_)
      refine lv_aload_n C.1 C.2.1 dX9_match_104 rfl (lv_at hl 0 rfl) ?_
      obtain ⟨w9, hw9, hf⟩ := of_bind hf
      refine r_callV0 C hG hl.1 (c0 := 0) (As := []) (by decide) (entM_O (n := 35) rfl) rfl (mt_X9_partsOf l  hw9) (cwV 0 C.2.2.2.2.1 (gd_V tg_5_119 tg_5_121 tgp_45 tg_1_10 tg_5_122) rfl rfl rfl cd_X9_partsOf ⟨Nat.le_of_ble_eq_true rfl, Nat.le_of_ble_eq_true rfl⟩) rfl rfl (Nat.le_of_ble_eq_true rfl) dX9_match_105 (fun H locs hG => ?_)
      refine lv_iconst (v := nI 0) C.1 C.2.1 dX9_match_108 (by decide) ?_
      refine lv_istore (lv' := [(4, .int (nI 0)), (0, .ref (B + 0)), (1, .int x1), (3, .int ex7.1)]) C.1 C.2.1 dX9_match_109 hl (by decide) rfl (fun ls hl => ?_)
      refine lv_iconst (v := nI 0) C.1 C.2.1 dX9_match_111 (by decide) ?_
      refine lv_istore (lv' := [(5, .int (nI 0)), (4, .int (nI 0)), (0, .ref (B + 0)), (1, .int x1), (3, .int ex7.1)]) C.1 C.2.1 dX9_match_112 hl (by decide) rfl (fun ls hl => ?_)
      obtain ⟨ex10, hex10, hf⟩ := of_bind hf
      refine kl_X9_match_114 C  FU (nI 0, nI 0, w9) ex10 _ _ _ hG (lv_sub hl [2, 4, 1, 0] rfl) hex10 (fun y e0 H locs ls hG hl => ?_)
      subst e0
      refine lv_iload C.1 C.2.1 dX9_match_233 (lv_at hl 0 rfl) ?_
      obtain rfl := Option.some.inj hf
      exact r_iret C hG dX9_match_235
set_option maxRecDepth 100000 in
set_option maxHeartbeats 4000000 in
theorem mt_X9_match (l : Launch) {G : GG} {A : Nat → Prop} {B : Nat} {X : va_W} {x1 : Int32} {x2 : Int32} {w : Mem} {out : Int32 × Mem}  (hf : sh_X9_match x1 x2 w = some out) : MetW l yX9_match wc_X9_match rm_X9_match G A 28 B (entM G B w) X [.ref (B + 0), .int x1, .int x2] (some (.int out.1)) (entM G B out.2) := by
  refine Met.ofW (cc := cX9_match) (maxL := 8) (ret := (some .int)) (by decide) rfl ?_
  intro p e s m args below meth c s₁ B0 hml hv
  obtain ⟨rfl, hEv, hWd⟩ := hv
  have C : CX p s m _ meth c cX9_match 8 RX9 wc_X9_match (some .int) := ⟨B0.exec, B0.bytes, hml, findClass_of_methodNamed B0.named, atoms_spec (ws := wc_X9_match) B0.pre, B0.returns, B0.notSynchronized⟩
  have hl := lv_entry [.ref (B + 0), .int x1, .int x2] (n := 8) (Nat.le_of_ble_eq_true rfl)
  rw [lg_entry_eq]
  generalize (lg_sl [.ref (B + 0), .int x1, .int x2] ++ List.replicate (8 - (lg_sl [.ref (B + 0), .int x1, .int x2]).length) Slot.unset).toArray = ls at hl ⊢
  have hl : lv_has ls 8 [(0, .ref (B + 0)), (1, .int x1), (2, .int x2)] := hl
  exact kb_X9_match_0 C  ⟨hEv, hWd, va_S.rf⟩ hl hf
abbrev wc_X9_power : List Cond := Cond.code yX9_power cX9_power 4 (some .int) :: TG
abbrev rm_X9_power : Room := { frames := 2, cells := 0, slots := 0, locals := 100 }
theorem cd_X9_power : yX9_power.cls = RX9 ∧ yX9_power.cls ≠ "java/lang/invoke/MethodHandle" ∧ yX9_power.cls ≠ "java/lang/invoke/VarHandle" ∧ (parseMethodDescriptor yX9_power.desc).map (fun d => d.parameters.length) = some 1 := by decide +kernel
theorem dX9_power_0 : decode cX9_power 0 = .ok (.iconst 1, 1) := by decide +kernel
theorem dX9_power_1 : decode cX9_power 1 = .ok (.istore_n 2, 1) := by decide +kernel
theorem dX9_power_2 : decode cX9_power 2 = .ok (.iconst 0, 1) := by decide +kernel
theorem dX9_power_3 : decode cX9_power 3 = .ok (.istore_n 3, 1) := by decide +kernel
theorem dX9_power_4 : decode cX9_power 4 = .ok (.iload_n 3, 1) := by decide +kernel
theorem dX9_power_5 : decode cX9_power 5 = .ok (.iload_n 1, 1) := by decide +kernel
theorem dX9_power_6 : decode cX9_power 6 = .ok (.if_icmp .ge 16, 3) := by decide +kernel
theorem dX9_power_9 : decode cX9_power 9 = .ok (.iload_n 2, 1) := by decide +kernel
theorem dX9_power_10 : decode cX9_power 10 = .ok (.aload_n 0, 1) := by decide +kernel
theorem dX9_power_11 : decode cX9_power 11 = .ok (.getfield 117, 3) := by decide +kernel
theorem dX9_power_14 : decode cX9_power 14 = .ok (.imul, 1) := by decide +kernel
theorem dX9_power_15 : decode cX9_power 15 = .ok (.istore_n 2, 1) := by decide +kernel
theorem dX9_power_16 : decode cX9_power 16 = .ok (.iinc 3 1, 3) := by decide +kernel
theorem dX9_power_19 : decode cX9_power 19 = .ok (.goto (-15), 3) := by decide +kernel
theorem dX9_power_22 : decode cX9_power 22 = .ok (.iload_n 2, 1) := by decide +kernel
theorem dX9_power_23 : decode cX9_power 23 = .ok (.ireturn, 1) := by decide +kernel
set_option maxRecDepth 100000 in
set_option maxHeartbeats 4000000 in
theorem kb_X9_power_4 {x1 : Int32} {w : Mem} {st : Int32 × Int32} {r : (Int32 × Int32) ⊕ ((Int32))} {H : Heap} {locs : List Loc} {ls : Array Slot} (C : CX p s m args meth c cX9_power 4 RX9 wc_X9_power (some .int))  (hG : Gd s G A 28 B (entM G B w) X H locs) (hl : lv_has ls 4 [(0, .ref (B + 0)), (1, .int x1), (2, .int st.1), (3, .int st.2)]) (hf : sh_X9_power_s4 x1 w st = some r)
    (kL : ∀ st' : Int32 × Int32, r = Sum.inl st' → ∀ (H : Heap) (locs : List Loc) (ls : Array Slot), Gd s G A 28 B (entM G B w) X H locs → lv_has ls 4 [(0, .ref (B + 0)), (1, .int x1), (2, .int st'.1), (3, .int st'.2)] → W p l e rm_X9_power s m args below meth c H locs 0 0 Q (F0 m 4 ls []))
    (kX0 : ∀ y' : Int32, r = Sum.inr y' → ∀ (H : Heap) (locs : List Loc) (ls : Array Slot), Gd s G A 28 B (entM G B w) X H locs → lv_has ls 4 [(2, .int y')] → W p l e rm_X9_power s m args below meth c H locs 0 0 Q (F0 m 22 ls [])) :
    W p l e rm_X9_power s m args below meth c H locs 0 0 Q (F0 m 4 ls []) := by
  refine lv_iload_n C.1 C.2.1 dX9_power_4 rfl (lv_at hl 3 rfl) ?_
  refine lv_iload_n C.1 C.2.1 dX9_power_5 rfl (lv_at hl 1 rfl) ?_
  rcases of_ite hf with ⟨c1, hf⟩ | ⟨c1, hf⟩
  · refine lv_icmp_ge (tgt := 22) C.1 C.2.1 dX9_power_6 (by decide) (fun _ => ?_) (fun q => absurd c1 q)
    obtain rfl := Option.some.inj hf
    exact kX0 _ rfl _ _ _ hG (lv_sub hl [2] rfl)
  · refine lv_icmp_ge (tgt := 22) C.1 C.2.1 dX9_power_6 (by decide) (fun q => absurd q c1) (fun _ => ?_)
    refine lv_iload_n C.1 C.2.1 dX9_power_9 rfl (lv_at hl 2 rfl) ?_
    refine lv_aload_n C.1 C.2.1 dX9_power_10 rfl (lv_at hl 0 rfl) ?_
    refine gf_X9_117 C hG rfl dX9_power_11 ?_
    refine lv_imul C.1 C.2.1 dX9_power_14 ?_
    obtain ⟨v2, ev2, hf⟩ := of_letv hf
    refine r_top ev2 ?_
    refine lv_istore_n (lv' := [(2, .int v2), (0, .ref (B + 0)), (1, .int x1), (3, .int st.2)]) C.1 C.2.1 dX9_power_15 rfl hl (by decide) rfl (fun ls hl => ?_)
    obtain ⟨v3, ev3, hf⟩ := of_letv hf
    refine lv_iinc (v := v3) (lv' := [(3, .int v3), (2, .int v2), (0, .ref (B + 0)), (1, .int x1)]) C.1 C.2.1 dX9_power_16 hl (k := 3) rfl (by rw [ev3, show Int32.ofInt (1) = nI 1 from by decide]) (by decide) rfl (fun ls hl => ?_)
    refine lv_goto (tgt := 4) C.1 C.2.1 dX9_power_19 (by decide) ?_
    obtain rfl := Option.some.inj hf
    exact kL _ rfl _ _ _ hG (lv_sub hl [2, 3, 1, 0] rfl)
set_option maxRecDepth 100000 in
set_option maxHeartbeats 4000000 in
theorem kl_X9_power_4 {x1 : Int32} {w : Mem} (C : CX p s m args meth c cX9_power 4 RX9 wc_X9_power (some .int))  : ∀ (n : Nat) (st : Int32 × Int32) (x : (Int32)) (H : Heap) (locs : List Loc) (ls : Array Slot), Gd s G A 28 B (entM G B w) X H locs → lv_has ls 4 [(0, .ref (B + 0)), (1, .int x1), (2, .int st.1), (3, .int st.2)] → lpw (sh_X9_power_s4 x1 w) n st = some x →
    (∀ y' : Int32, x = y' → ∀ (H : Heap) (locs : List Loc) (ls : Array Slot), Gd s G A 28 B (entM G B w) X H locs → lv_has ls 4 [(2, .int y')] → W p l e rm_X9_power s m args below meth c H locs 0 0 Q (F0 m 22 ls [])) → W p l e rm_X9_power s m args below meth c H locs 0 0 Q (F0 m 4 ls []) := by
  intro n
  induction n with
  | zero =>
    intro st x H locs ls hG hl hf
    cases hf
  | succ n ih =>
    intro st x H locs ls hG hl hf kX0
    obtain ⟨r, hr, hh⟩ := of_lpw hf
    refine kb_X9_power_4 C  hG hl hr (fun st2 e1 H locs ls hG hl => ?_) (fun y2 e1 H locs ls hG hl => ?_)
    · rcases hh with ⟨s3, e2, hh⟩ | e2
      · rw [e2] at e1
        cases e1
        exact ih _ _ _ _ _ hG hl hh kX0
      · rw [e2] at e1
        cases e1
    · rcases hh with ⟨s3, e2, hh⟩ | e2
      · rw [e2] at e1
        cases e1
      · rw [e2] at e1
        cases e1
        exact kX0 _ rfl _ _ _ hG hl
set_option maxRecDepth 100000 in
set_option maxHeartbeats 4000000 in
theorem kb_X9_power_0 {x1 : Int32} {w : Mem} {out : Int32} {H : Heap} {locs : List Loc} {ls : Array Slot} (C : CX p s m args meth c cX9_power 4 RX9 wc_X9_power (some .int))  (hG : Gd s G A 28 B (entM G B w) X H locs) (hl : lv_has ls 4 [(0, .ref (B + 0)), (1, .int x1)]) (hf : sh_X9_power x1 w = some out) :
    W p l e rm_X9_power s m args below meth c H locs 0 0 (MQ below (CPost G A 28 B (entM G B w) X (some (.int out))) args s 0 0 A) (F0 m 0 ls []) := by
  refine lv_iconst (v := nI 1) C.1 C.2.1 dX9_power_0 (by decide) ?_
  refine lv_istore_n (lv' := [(2, .int (nI 1)), (0, .ref (B + 0)), (1, .int x1)]) C.1 C.2.1 dX9_power_1 rfl hl (by decide) rfl (fun ls hl => ?_)
  refine lv_iconst (v := nI 0) C.1 C.2.1 dX9_power_2 (by decide) ?_
  refine lv_istore_n (lv' := [(3, .int (nI 0)), (2, .int (nI 1)), (0, .ref (B + 0)), (1, .int x1)]) C.1 C.2.1 dX9_power_3 rfl hl (by decide) rfl (fun ls hl => ?_)
  obtain ⟨ex1, hex1, hf⟩ := of_bind hf
  refine kl_X9_power_4 C  FU (nI 1, nI 0) ex1 _ _ _ hG (lv_sub hl [2, 3, 1, 0] rfl) hex1 (fun y e0 H locs ls hG hl => ?_)
  subst e0
  refine lv_iload_n C.1 C.2.1 dX9_power_22 rfl (lv_at hl 0 rfl) ?_
  obtain rfl := Option.some.inj hf
  exact r_iret C hG dX9_power_23
set_option maxRecDepth 100000 in
set_option maxHeartbeats 4000000 in
theorem mt_X9_power (l : Launch) {G : GG} {A : Nat → Prop} {B : Nat} {X : va_W} {x1 : Int32} {w : Mem} {out : Int32}  (hf : sh_X9_power x1 w = some out) : MetW l yX9_power wc_X9_power rm_X9_power G A 28 B (entM G B w) X [.ref (B + 0), .int x1] (some (.int out)) (entM G B w) := by
  refine Met.ofW (cc := cX9_power) (maxL := 4) (ret := (some .int)) (by decide) rfl ?_
  intro p e s m args below meth c s₁ B0 hml hv
  obtain ⟨rfl, hEv, hWd⟩ := hv
  have C : CX p s m _ meth c cX9_power 4 RX9 wc_X9_power (some .int) := ⟨B0.exec, B0.bytes, hml, findClass_of_methodNamed B0.named, atoms_spec (ws := wc_X9_power) B0.pre, B0.returns, B0.notSynchronized⟩
  have hl := lv_entry [.ref (B + 0), .int x1] (n := 4) (Nat.le_of_ble_eq_true rfl)
  rw [lg_entry_eq]
  generalize (lg_sl [.ref (B + 0), .int x1] ++ List.replicate (4 - (lg_sl [.ref (B + 0), .int x1]).length) Slot.unset).toArray = ls at hl ⊢
  have hl : lv_has ls 4 [(0, .ref (B + 0)), (1, .int x1)] := hl
  exact kb_X9_power_0 C  ⟨hEv, hWd, va_S.rf⟩ hl hf
abbrev wc_X9_counts : List Cond := Cond.code yX9_counts cX9_counts 4 none :: TG
abbrev rm_X9_counts : Room := { frames := 2, cells := 0, slots := 0, locals := 100 }
theorem cd_X9_counts : yX9_counts.cls = RX9 ∧ yX9_counts.cls ≠ "java/lang/invoke/MethodHandle" ∧ yX9_counts.cls ≠ "java/lang/invoke/VarHandle" ∧ (parseMethodDescriptor yX9_counts.desc).map (fun d => d.parameters.length) = some 2 := by decide +kernel
theorem dX9_counts_0 : decode cX9_counts 0 = .ok (.aload_n 0, 1) := by decide +kernel
theorem dX9_counts_1 : decode cX9_counts 1 = .ok (.getfield 78, 3) := by decide +kernel
theorem dX9_counts_4 : decode cX9_counts 4 = .ok (.iload_n 1, 1) := by decide +kernel
theorem dX9_counts_5 : decode cX9_counts 5 = .ok (.aload_n 0, 1) := by decide +kernel
theorem dX9_counts_6 : decode cX9_counts 6 = .ok (.getfield 78, 3) := by decide +kernel
theorem dX9_counts_9 : decode cX9_counts 9 = .ok (.iload_n 1, 1) := by decide +kernel
theorem dX9_counts_10 : decode cX9_counts 10 = .ok (.iaload, 1) := by decide +kernel
theorem dX9_counts_11 : decode cX9_counts 11 = .ok (.i2l, 1) := by decide +kernel
theorem dX9_counts_12 : decode cX9_counts 12 = .ok (.lload_n 2, 1) := by decide +kernel
theorem dX9_counts_13 : decode cX9_counts 13 = .ok (.ladd, 1) := by decide +kernel
theorem dX9_counts_14 : decode cX9_counts 14 = .ok (.ldc2_w 99, 3) := by decide +kernel
theorem dX9_counts_17 : decode cX9_counts 17 = .ok (.lrem, 1) := by decide +kernel
theorem dX9_counts_18 : decode cX9_counts 18 = .ok (.l2i, 1) := by decide +kernel
theorem dX9_counts_19 : decode cX9_counts 19 = .ok (.iastore, 1) := by decide +kernel
theorem dX9_counts_20 : decode cX9_counts 20 = .ok (.return_, 1) := by decide +kernel
set_option maxRecDepth 100000 in
set_option maxHeartbeats 4000000 in
theorem kb_X9_counts_0 {x1 : Int32} {x2 : Int64} {w : Mem} {out : Mem} {H : Heap} {locs : List Loc} {ls : Array Slot} (C : CX p s m args meth c cX9_counts 4 RX9 wc_X9_counts none)  (hG : Gd s G A 28 B (entM G B w) X H locs) (hl : lv_has ls 4 [(0, .ref (B + 0)), (1, .int x1), (2, .long x2)]) (hf : sh_X9_counts x1 x2 w = some out) :
    W p l e rm_X9_counts s m args below meth c H locs 0 0 (MQ below (CPost G A 28 B (entM G B out) X none) args s 0 0 A) (F0 m 0 ls []) := by
  refine lv_aload_n C.1 C.2.1 dX9_counts_0 rfl (lv_at hl 0 rfl) ?_
  refine gf_X9_78 C hG rfl dX9_counts_1 ?_
  refine lv_iload_n C.1 C.2.1 dX9_counts_4 rfl (lv_at hl 1 rfl) ?_
  refine lv_aload_n C.1 C.2.1 dX9_counts_5 rfl (lv_at hl 0 rfl) ?_
  refine gf_X9_78 C hG rfl dX9_counts_6 ?_
  refine lv_iload_n C.1 C.2.1 dX9_counts_9 rfl (lv_at hl 1 rfl) ?_
  obtain ⟨v1, hv1, hf⟩ := of_bind hf
  obtain ⟨bv1, ev1⟩ := of_ldS hv1
  refine r_iald C hG (c0 := 23) (by decide) (entM_I (n := 216) rfl) bv1 dX9_counts_10 ?_
  refine r_top ev1 ?_
  refine lv_i2l C.1 C.2.1 dX9_counts_11 rfl ?_
  refine lv_lload_n C.1 C.2.1 dX9_counts_12 rfl (lv_at hl 2 rfl) ?_
  refine lv_ladd C.1 C.2.1 dX9_counts_13 ?_
  refine lv_ldc2 (v := lN 9973) C.1 C.2.1 C.2.2.2.1 (C.2.2.2.2.1 _ (List.mem_cons_of_mem _ tg_5_6)) dX9_counts_14 ?_
  refine r_lrem C dX9_counts_17 (by decide) ?_
  refine lv_l2i C.1 C.2.1 dX9_counts_18 rfl ?_
  obtain ⟨w2, hw2, hf⟩ := of_bind hf
  obtain ⟨bw2, ew2⟩ := of_stM hw2
  refine r_iast C hG (c0 := 23) (by decide) (entM_I (n := 216) rfl) bw2 (E' := (entM G B w2)) (by rw [ew2]; exact upM_I (n := 216) rfl) dX9_counts_19 (fun H locs hG => ?_)
  obtain rfl := Option.some.inj hf
  exact r_vret C hG dX9_counts_20
set_option maxRecDepth 100000 in
set_option maxHeartbeats 4000000 in
theorem mt_X9_counts (l : Launch) {G : GG} {A : Nat → Prop} {B : Nat} {X : va_W} {x1 : Int32} {x2 : Int64} {w : Mem} {out : Mem}  (hf : sh_X9_counts x1 x2 w = some out) : MetW l yX9_counts wc_X9_counts rm_X9_counts G A 28 B (entM G B w) X [.ref (B + 0), .int x1, .long x2] none (entM G B out) := by
  refine Met.ofW (cc := cX9_counts) (maxL := 4) (ret := none) (by decide) rfl ?_
  intro p e s m args below meth c s₁ B0 hml hv
  obtain ⟨rfl, hEv, hWd⟩ := hv
  have C : CX p s m _ meth c cX9_counts 4 RX9 wc_X9_counts none := ⟨B0.exec, B0.bytes, hml, findClass_of_methodNamed B0.named, atoms_spec (ws := wc_X9_counts) B0.pre, B0.returns, B0.notSynchronized⟩
  have hl := lv_entry [.ref (B + 0), .int x1, .long x2] (n := 4) (Nat.le_of_ble_eq_true rfl)
  rw [lg_entry_eq]
  generalize (lg_sl [.ref (B + 0), .int x1, .long x2] ++ List.replicate (4 - (lg_sl [.ref (B + 0), .int x1, .long x2]).length) Slot.unset).toArray = ls at hl ⊢
  have hl : lv_has ls 4 [(0, .ref (B + 0)), (1, .int x1), (2, .long x2)] := hl
  exact kb_X9_counts_0 C  ⟨hEv, hWd, va_S.rf⟩ hl hf
abbrev wc_X9_turns : List Cond := Cond.code yX9_turns cX9_turns 10 none :: TG
abbrev rm_X9_turns : Room := { frames := 4, cells := 0, slots := 0, locals := 147 }
theorem cd_X9_turns : yX9_turns.cls = RX9 ∧ yX9_turns.cls ≠ "java/lang/invoke/MethodHandle" ∧ yX9_turns.cls ≠ "java/lang/invoke/VarHandle" ∧ (parseMethodDescriptor yX9_turns.desc).map (fun d => d.parameters.length) = some 3 := by decide +kernel
theorem dX9_turns_0 : decode cX9_turns 0 = .ok (.aload_n 0, 1) := by decide +kernel
theorem dX9_turns_1 : decode cX9_turns 1 = .ok (.getfield 75, 3) := by decide +kernel
theorem dX9_turns_4 : decode cX9_turns 4 = .ok (.iload_n 2, 1) := by decide +kernel
theorem dX9_turns_5 : decode cX9_turns 5 = .ok (.iaload, 1) := by decide +kernel
theorem dX9_turns_6 : decode cX9_turns 6 = .ok (.i2l, 1) := by decide +kernel
theorem dX9_turns_7 : decode cX9_turns 7 = .ok (.lstore 4, 2) := by decide +kernel
theorem dX9_turns_9 : decode cX9_turns 9 = .ok (.iload_n 2, 1) := by decide +kernel
theorem dX9_turns_10 : decode cX9_turns 10 = .ok (.iload_n 3, 1) := by decide +kernel
theorem dX9_turns_11 : decode cX9_turns 11 = .ok (.idiv, 1) := by decide +kernel
theorem dX9_turns_12 : decode cX9_turns 12 = .ok (.istore 6, 2) := by decide +kernel
theorem dX9_turns_14 : decode cX9_turns 14 = .ok (.iload_n 2, 1) := by decide +kernel
theorem dX9_turns_15 : decode cX9_turns 15 = .ok (.iload_n 3, 1) := by decide +kernel
theorem dX9_turns_16 : decode cX9_turns 16 = .ok (.irem, 1) := by decide +kernel
theorem dX9_turns_17 : decode cX9_turns 17 = .ok (.istore 7, 2) := by decide +kernel
theorem dX9_turns_19 : decode cX9_turns 19 = .ok (.iload_n 1, 1) := by decide +kernel
theorem dX9_turns_20 : decode cX9_turns 20 = .ok (.lookupswitch 130 #[(2, 28), (3, 106)], 28) := by decide +kernel
theorem dX9_turns_48 : decode cX9_turns 48 = .ok (.iconst 0, 1) := by decide +kernel
theorem dX9_turns_49 : decode cX9_turns 49 = .ok (.istore 8, 2) := by decide +kernel
theorem dX9_turns_51 : decode cX9_turns 51 = .ok (.iload 8, 2) := by decide +kernel
theorem dX9_turns_53 : decode cX9_turns 53 = .ok (.aload_n 0, 1) := by decide +kernel
theorem dX9_turns_54 : decode cX9_turns 54 = .ok (.getfield 117, 3) := by decide +kernel
theorem dX9_turns_57 : decode cX9_turns 57 = .ok (.if_icmp .ge 66, 3) := by decide +kernel
theorem dX9_turns_60 : decode cX9_turns 60 = .ok (.iconst 0, 1) := by decide +kernel
theorem dX9_turns_61 : decode cX9_turns 61 = .ok (.istore 9, 2) := by decide +kernel
theorem dX9_turns_63 : decode cX9_turns 63 = .ok (.iload 9, 2) := by decide +kernel
theorem dX9_turns_65 : decode cX9_turns 65 = .ok (.aload_n 0, 1) := by decide +kernel
theorem dX9_turns_66 : decode cX9_turns 66 = .ok (.getfield 117, 3) := by decide +kernel
theorem dX9_turns_69 : decode cX9_turns 69 = .ok (.if_icmp .ge 48, 3) := by decide +kernel
theorem dX9_turns_72 : decode cX9_turns 72 = .ok (.aload_n 0, 1) := by decide +kernel
theorem dX9_turns_73 : decode cX9_turns 73 = .ok (.iload 7, 2) := by decide +kernel
theorem dX9_turns_75 : decode cX9_turns 75 = .ok (.iload_n 3, 1) := by decide +kernel
theorem dX9_turns_76 : decode cX9_turns 76 = .ok (.iload 8, 2) := by decide +kernel
theorem dX9_turns_78 : decode cX9_turns 78 = .ok (.imul, 1) := by decide +kernel
theorem dX9_turns_79 : decode cX9_turns 79 = .ok (.iadd, 1) := by decide +kernel
theorem dX9_turns_80 : decode cX9_turns 80 = .ok (.iload_n 3, 1) := by decide +kernel
theorem dX9_turns_81 : decode cX9_turns 81 = .ok (.aload_n 0, 1) := by decide +kernel
theorem dX9_turns_82 : decode cX9_turns 82 = .ok (.getfield 117, 3) := by decide +kernel
theorem dX9_turns_85 : decode cX9_turns 85 = .ok (.imul, 1) := by decide +kernel
theorem dX9_turns_86 : decode cX9_turns 86 = .ok (.iload 9, 2) := by decide +kernel
theorem dX9_turns_88 : decode cX9_turns 88 = .ok (.imul, 1) := by decide +kernel
theorem dX9_turns_89 : decode cX9_turns 89 = .ok (.iadd, 1) := by decide +kernel
theorem dX9_turns_90 : decode cX9_turns 90 = .ok (.lload 4, 2) := by decide +kernel
theorem dX9_turns_92 : decode cX9_turns 92 = .ok (.aload_n 0, 1) := by decide +kernel
theorem dX9_turns_93 : decode cX9_turns 93 = .ok (.iload 6, 2) := by decide +kernel
theorem dX9_turns_95 : decode cX9_turns 95 = .ok (.iload 8, 2) := by decide +kernel
theorem dX9_turns_97 : decode cX9_turns 97 = .ok (.iload 9, 2) := by decide +kernel
theorem dX9_turns_99 : decode cX9_turns 99 = .ok (.invokevirtual 157, 3) := by decide +kernel
theorem dX9_turns_102 : decode cX9_turns 102 = .ok (.i2l, 1) := by decide +kernel
theorem dX9_turns_103 : decode cX9_turns 103 = .ok (.lmul, 1) := by decide +kernel
theorem dX9_turns_104 : decode cX9_turns 104 = .ok (.ldc2_w 99, 3) := by decide +kernel
theorem dX9_turns_107 : decode cX9_turns 107 = .ok (.lrem, 1) := by decide +kernel
theorem dX9_turns_108 : decode cX9_turns 108 = .ok (.invokevirtual 252, 3) := by decide +kernel
theorem dX9_turns_111 : decode cX9_turns 111 = .ok (.iinc 9 1, 3) := by decide +kernel
theorem dX9_turns_114 : decode cX9_turns 114 = .ok (.goto (-51), 3) := by decide +kernel
theorem dX9_turns_117 : decode cX9_turns 117 = .ok (.iinc 8 1, 3) := by decide +kernel
theorem dX9_turns_120 : decode cX9_turns 120 = .ok (.goto (-69), 3) := by decide +kernel
theorem dX9_turns_123 : decode cX9_turns 123 = .ok (.goto 117, 3) := by decide +kernel
theorem dX9_turns_126 : decode cX9_turns 126 = .ok (.aload_n 0, 1) := by decide +kernel
theorem dX9_turns_127 : decode cX9_turns 127 = .ok (.iload 7, 2) := by decide +kernel
theorem dX9_turns_129 : decode cX9_turns 129 = .ok (.lload 4, 2) := by decide +kernel
theorem dX9_turns_131 : decode cX9_turns 131 = .ok (.aload_n 0, 1) := by decide +kernel
theorem dX9_turns_132 : decode cX9_turns 132 = .ok (.getfield 24, 3) := by decide +kernel
theorem dX9_turns_135 : decode cX9_turns 135 = .ok (.iload 6, 2) := by decide +kernel
theorem dX9_turns_137 : decode cX9_turns 137 = .ok (.iaload, 1) := by decide +kernel
theorem dX9_turns_138 : decode cX9_turns 138 = .ok (.i2l, 1) := by decide +kernel
theorem dX9_turns_139 : decode cX9_turns 139 = .ok (.lmul, 1) := by decide +kernel
theorem dX9_turns_140 : decode cX9_turns 140 = .ok (.ldc2_w 99, 3) := by decide +kernel
theorem dX9_turns_143 : decode cX9_turns 143 = .ok (.lrem, 1) := by decide +kernel
theorem dX9_turns_144 : decode cX9_turns 144 = .ok (.invokevirtual 252, 3) := by decide +kernel
theorem dX9_turns_147 : decode cX9_turns 147 = .ok (.goto 93, 3) := by decide +kernel
theorem dX9_turns_150 : decode cX9_turns 150 = .ok (.iload_n 1, 1) := by decide +kernel
theorem dX9_turns_151 : decode cX9_turns 151 = .ok (.iconst 5, 1) := by decide +kernel
theorem dX9_turns_152 : decode cX9_turns 152 = .ok (.if_icmp .ne 10, 3) := by decide +kernel
theorem dX9_turns_155 : decode cX9_turns 155 = .ok (.aload_n 0, 1) := by decide +kernel
theorem dX9_turns_156 : decode cX9_turns 156 = .ok (.getfield 33, 3) := by decide +kernel
theorem dX9_turns_159 : decode cX9_turns 159 = .ok (.goto 7, 3) := by decide +kernel
theorem dX9_turns_162 : decode cX9_turns 162 = .ok (.aload_n 0, 1) := by decide +kernel
theorem dX9_turns_163 : decode cX9_turns 163 = .ok (.getfield 36, 3) := by decide +kernel
theorem dX9_turns_166 : decode cX9_turns 166 = .ok (.astore 8, 2) := by decide +kernel
theorem dX9_turns_168 : decode cX9_turns 168 = .ok (.iconst 0, 1) := by decide +kernel
theorem dX9_turns_169 : decode cX9_turns 169 = .ok (.istore 9, 2) := by decide +kernel
theorem dX9_turns_171 : decode cX9_turns 171 = .ok (.iload 9, 2) := by decide +kernel
theorem dX9_turns_173 : decode cX9_turns 173 = .ok (.aload_n 0, 1) := by decide +kernel
theorem dX9_turns_174 : decode cX9_turns 174 = .ok (.getfield 117, 3) := by decide +kernel
theorem dX9_turns_177 : decode cX9_turns 177 = .ok (.if_icmp .ge 63, 3) := by decide +kernel
theorem dX9_turns_180 : decode cX9_turns 180 = .ok (.aload_n 0, 1) := by decide +kernel
theorem dX9_turns_181 : decode cX9_turns 181 = .ok (.iload 7, 2) := by decide +kernel
theorem dX9_turns_183 : decode cX9_turns 183 = .ok (.iload_n 3, 1) := by decide +kernel
theorem dX9_turns_184 : decode cX9_turns 184 = .ok (.aload_n 0, 1) := by decide +kernel
theorem dX9_turns_185 : decode cX9_turns 185 = .ok (.getfield 18, 3) := by decide +kernel
theorem dX9_turns_188 : decode cX9_turns 188 = .ok (.aload_n 0, 1) := by decide +kernel
theorem dX9_turns_189 : decode cX9_turns 189 = .ok (.iload 6, 2) := by decide +kernel
theorem dX9_turns_191 : decode cX9_turns 191 = .ok (.iload 9, 2) := by decide +kernel
theorem dX9_turns_193 : decode cX9_turns 193 = .ok (.invokevirtual 128, 3) := by decide +kernel
theorem dX9_turns_196 : decode cX9_turns 196 = .ok (.iaload, 1) := by decide +kernel
theorem dX9_turns_197 : decode cX9_turns 197 = .ok (.imul, 1) := by decide +kernel
theorem dX9_turns_198 : decode cX9_turns 198 = .ok (.iadd, 1) := by decide +kernel
theorem dX9_turns_199 : decode cX9_turns 199 = .ok (.lload 4, 2) := by decide +kernel
theorem dX9_turns_201 : decode cX9_turns 201 = .ok (.aload 8, 2) := by decide +kernel
theorem dX9_turns_203 : decode cX9_turns 203 = .ok (.iload 9, 2) := by decide +kernel
theorem dX9_turns_205 : decode cX9_turns 205 = .ok (.iaload, 1) := by decide +kernel
theorem dX9_turns_206 : decode cX9_turns 206 = .ok (.i2l, 1) := by decide +kernel
theorem dX9_turns_207 : decode cX9_turns 207 = .ok (.lmul, 1) := by decide +kernel
theorem dX9_turns_208 : decode cX9_turns 208 = .ok (.ldc2_w 99, 3) := by decide +kernel
theorem dX9_turns_211 : decode cX9_turns 211 = .ok (.lrem, 1) := by decide +kernel
theorem dX9_turns_212 : decode cX9_turns 212 = .ok (.aload_n 0, 1) := by decide +kernel
theorem dX9_turns_213 : decode cX9_turns 213 = .ok (.getfield 21, 3) := by decide +kernel
theorem dX9_turns_216 : decode cX9_turns 216 = .ok (.aload_n 0, 1) := by decide +kernel
theorem dX9_turns_217 : decode cX9_turns 217 = .ok (.iload 6, 2) := by decide +kernel
theorem dX9_turns_219 : decode cX9_turns 219 = .ok (.iload 9, 2) := by decide +kernel
theorem dX9_turns_221 : decode cX9_turns 221 = .ok (.invokevirtual 128, 3) := by decide +kernel
theorem dX9_turns_224 : decode cX9_turns 224 = .ok (.iaload, 1) := by decide +kernel
theorem dX9_turns_225 : decode cX9_turns 225 = .ok (.i2l, 1) := by decide +kernel
theorem dX9_turns_226 : decode cX9_turns 226 = .ok (.lmul, 1) := by decide +kernel
theorem dX9_turns_227 : decode cX9_turns 227 = .ok (.ldc2_w 99, 3) := by decide +kernel
theorem dX9_turns_230 : decode cX9_turns 230 = .ok (.lrem, 1) := by decide +kernel
theorem dX9_turns_231 : decode cX9_turns 231 = .ok (.invokevirtual 252, 3) := by decide +kernel
theorem dX9_turns_234 : decode cX9_turns 234 = .ok (.iinc 9 1, 3) := by decide +kernel
theorem dX9_turns_237 : decode cX9_turns 237 = .ok (.goto (-66), 3) := by decide +kernel
theorem dX9_turns_240 : decode cX9_turns 240 = .ok (.return_, 1) := by decide +kernel
set_option maxRecDepth 100000 in
set_option maxHeartbeats 4000000 in
theorem kb_X9_turns_63 {x3 : Int32} {x4 : Int64} {x6 : Int32} {x7 : Int32} {x8 : Int32} {st : Int32 × Mem} {r : (Int32 × Mem) ⊕ ((Mem))} {H : Heap} {locs : List Loc} {ls : Array Slot} (C : CX p s m args meth c cX9_turns 10 RX9 wc_X9_turns none)  (hG : Gd s G A 28 B (entM G B st.2) X H locs) (hl : lv_has ls 10 [(0, .ref (B + 0)), (3, .int x3), (4, .long x4), (6, .int x6), (7, .int x7), (8, .int x8), (9, .int st.1)]) (hf : sh_X9_turns_s63 x3 x4 x6 x7 x8 st = some r)
    (kL : ∀ st' : Int32 × Mem, r = Sum.inl st' → ∀ (H : Heap) (locs : List Loc) (ls : Array Slot), Gd s G A 28 B (entM G B st'.2) X H locs → lv_has ls 10 [(0, .ref (B + 0)), (3, .int x3), (4, .long x4), (6, .int x6), (7, .int x7), (8, .int x8), (9, .int st'.1)] → W p l e rm_X9_turns s m args below meth c H locs 0 0 Q (F0 m 63 ls []))
    (kX0 : ∀ y' : Mem, r = Sum.inr y' → ∀ (H : Heap) (locs : List Loc) (ls : Array Slot), Gd s G A 28 B (entM G B y') X H locs → lv_has ls 10 [(0, .ref (B + 0)), (3, .int x3), (4, .long x4), (6, .int x6), (7, .int x7), (8, .int x8)] → W p l e rm_X9_turns s m args below meth c H locs 0 0 Q (F0 m 117 ls [])) :
    W p l e rm_X9_turns s m args below meth c H locs 0 0 Q (F0 m 63 ls []) := by
  refine lv_iload C.1 C.2.1 dX9_turns_63 (lv_at hl 6 rfl) ?_
  refine lv_aload_n C.1 C.2.1 dX9_turns_65 rfl (lv_at hl 0 rfl) ?_
  refine gf_X9_117 C hG rfl dX9_turns_66 ?_
  rcases of_ite hf with ⟨c1, hf⟩ | ⟨c1, hf⟩
  · refine lv_icmp_ge (tgt := 117) C.1 C.2.1 dX9_turns_69 (by decide) (fun _ => ?_) (fun q => absurd c1 q)
    obtain rfl := Option.some.inj hf
    exact kX0 _ rfl _ _ _ hG (lv_sub hl [0, 1, 2, 3, 4, 5] rfl)
  · refine lv_icmp_ge (tgt := 117) C.1 C.2.1 dX9_turns_69 (by decide) (fun q => absurd q c1) (fun _ => ?_)
    refine lv_aload_n C.1 C.2.1 dX9_turns_72 rfl (lv_at hl 0 rfl) ?_
    refine lv_iload C.1 C.2.1 dX9_turns_73 (lv_at hl 4 rfl) ?_
    refine lv_iload_n C.1 C.2.1 dX9_turns_75 rfl (lv_at hl 1 rfl) ?_
    refine lv_iload C.1 C.2.1 dX9_turns_76 (lv_at hl 5 rfl) ?_
    refine lv_imul C.1 C.2.1 dX9_turns_78 ?_
    refine lv_iadd C.1 C.2.1 dX9_turns_79 ?_
    refine lv_iload_n C.1 C.2.1 dX9_turns_80 rfl (lv_at hl 1 rfl) ?_
    refine lv_aload_n C.1 C.2.1 dX9_turns_81 rfl (lv_at hl 0 rfl) ?_
    refine gf_X9_117 C hG rfl dX9_turns_82 ?_
    refine lv_imul C.1 C.2.1 dX9_turns_85 ?_
    refine lv_iload C.1 C.2.1 dX9_turns_86 (lv_at hl 6 rfl) ?_
    refine lv_imul C.1 C.2.1 dX9_turns_88 ?_
    refine lv_iadd C.1 C.2.1 dX9_turns_89 ?_
    refine lv_lload C.1 C.2.1 dX9_turns_90 (lv_at hl 2 rfl) ?_
    refine lv_aload_n C.1 C.2.1 dX9_turns_92 rfl (lv_at hl 0 rfl) ?_
    refine lv_iload C.1 C.2.1 dX9_turns_93 (lv_at hl 3 rfl) ?_
    refine lv_iload C.1 C.2.1 dX9_turns_95 (lv_at hl 5 rfl) ?_
    refine lv_iload C.1 C.2.1 dX9_turns_97 (lv_at hl 6 rfl) ?_
    obtain ⟨v2, hv2, hf⟩ := of_bind hf
    refine r_callV1 C hG hl.1 (c0 := 0) (As := [.int x6, .int x8, .int st.1]) (by decide) (entM_O (n := 35) rfl) rfl (mt_X9_splitOf l  hv2) (cwV 3 C.2.2.2.2.1 (gd_V tg_5_30 tg_5_32 tgp_35 tg_1_10 tg_5_33) rfl rfl rfl cd_X9_splitOf ⟨Nat.le_of_ble_eq_true rfl, Nat.le_of_ble_eq_true rfl⟩) rfl rfl (Nat.le_of_ble_eq_true rfl) dX9_turns_99 (fun H locs hG => ?_)
    refine lv_i2l C.1 C.2.1 dX9_turns_102 rfl ?_
    refine lv_lmul C.1 C.2.1 dX9_turns_103 ?_
    refine lv_ldc2 (v := lN 9973) C.1 C.2.1 C.2.2.2.1 (C.2.2.2.2.1 _ (List.mem_cons_of_mem _ tg_5_6)) dX9_turns_104 ?_
    refine r_lrem C dX9_turns_107 (by decide) ?_
    obtain ⟨w3, hw3, hf⟩ := of_bind hf
    refine r_callV0 C hG hl.1 (c0 := 0) (As := [.int ((x7 + (x3 * x8)) + ((x3 * (st.2 0 3)) * st.1)), .long (remL (x4 * v2.toInt64) (lN 9973))]) (by decide) (entM_O (n := 35) rfl) rfl (mt_X9_counts l  hw3) (cwV 2 C.2.2.2.2.1 (gd_V tg_5_181 tg_5_183 tgp_56 tg_1_10 tg_5_184) rfl rfl rfl cd_X9_counts ⟨Nat.le_of_ble_eq_true rfl, Nat.le_of_ble_eq_true rfl⟩) rfl rfl (Nat.le_of_ble_eq_true rfl) dX9_turns_108 (fun H locs hG => ?_)
    obtain ⟨v4, ev4, hf⟩ := of_letv hf
    refine lv_iinc (v := v4) (lv' := [(9, .int v4), (0, .ref (B + 0)), (3, .int x3), (4, .long x4), (6, .int x6), (7, .int x7), (8, .int x8)]) C.1 C.2.1 dX9_turns_111 hl (k := 6) rfl (by rw [ev4, show Int32.ofInt (1) = nI 1 from by decide]) (by decide) rfl (fun ls hl => ?_)
    refine lv_goto (tgt := 63) C.1 C.2.1 dX9_turns_114 (by decide) ?_
    obtain rfl := Option.some.inj hf
    exact kL _ rfl _ _ _ hG (lv_sub hl [1, 2, 3, 4, 5, 6, 0] rfl)
set_option maxRecDepth 100000 in
set_option maxHeartbeats 4000000 in
theorem kl_X9_turns_63 {x3 : Int32} {x4 : Int64} {x6 : Int32} {x7 : Int32} {x8 : Int32} (C : CX p s m args meth c cX9_turns 10 RX9 wc_X9_turns none)  : ∀ (n : Nat) (st : Int32 × Mem) (x : (Mem)) (H : Heap) (locs : List Loc) (ls : Array Slot), Gd s G A 28 B (entM G B st.2) X H locs → lv_has ls 10 [(0, .ref (B + 0)), (3, .int x3), (4, .long x4), (6, .int x6), (7, .int x7), (8, .int x8), (9, .int st.1)] → lpw (sh_X9_turns_s63 x3 x4 x6 x7 x8) n st = some x →
    (∀ y' : Mem, x = y' → ∀ (H : Heap) (locs : List Loc) (ls : Array Slot), Gd s G A 28 B (entM G B y') X H locs → lv_has ls 10 [(0, .ref (B + 0)), (3, .int x3), (4, .long x4), (6, .int x6), (7, .int x7), (8, .int x8)] → W p l e rm_X9_turns s m args below meth c H locs 0 0 Q (F0 m 117 ls [])) → W p l e rm_X9_turns s m args below meth c H locs 0 0 Q (F0 m 63 ls []) := by
  intro n
  induction n with
  | zero =>
    intro st x H locs ls hG hl hf
    cases hf
  | succ n ih =>
    intro st x H locs ls hG hl hf kX0
    obtain ⟨r, hr, hh⟩ := of_lpw hf
    refine kb_X9_turns_63 C  hG hl hr (fun st2 e1 H locs ls hG hl => ?_) (fun y2 e1 H locs ls hG hl => ?_)
    · rcases hh with ⟨s3, e2, hh⟩ | e2
      · rw [e2] at e1
        cases e1
        exact ih _ _ _ _ _ hG hl hh kX0
      · rw [e2] at e1
        cases e1
    · rcases hh with ⟨s3, e2, hh⟩ | e2
      · rw [e2] at e1
        cases e1
      · rw [e2] at e1
        cases e1
        exact kX0 _ rfl _ _ _ hG hl
set_option maxRecDepth 100000 in
set_option maxHeartbeats 4000000 in
theorem kb_X9_turns_51 {x3 : Int32} {x4 : Int64} {x6 : Int32} {x7 : Int32} {st : Int32 × Mem} {r : (Int32 × Mem) ⊕ ((Mem))} {H : Heap} {locs : List Loc} {ls : Array Slot} (C : CX p s m args meth c cX9_turns 10 RX9 wc_X9_turns none)  (hG : Gd s G A 28 B (entM G B st.2) X H locs) (hl : lv_has ls 10 [(0, .ref (B + 0)), (3, .int x3), (4, .long x4), (6, .int x6), (7, .int x7), (8, .int st.1)]) (hf : sh_X9_turns_s51 x3 x4 x6 x7 st = some r)
    (kL : ∀ st' : Int32 × Mem, r = Sum.inl st' → ∀ (H : Heap) (locs : List Loc) (ls : Array Slot), Gd s G A 28 B (entM G B st'.2) X H locs → lv_has ls 10 [(0, .ref (B + 0)), (3, .int x3), (4, .long x4), (6, .int x6), (7, .int x7), (8, .int st'.1)] → W p l e rm_X9_turns s m args below meth c H locs 0 0 Q (F0 m 51 ls []))
    (kX0 : ∀ y' : Mem, r = Sum.inr y' → ∀ (H : Heap) (locs : List Loc) (ls : Array Slot), Gd s G A 28 B (entM G B y') X H locs → lv_has ls 10 [] → W p l e rm_X9_turns s m args below meth c H locs 0 0 Q (F0 m 123 ls [])) :
    W p l e rm_X9_turns s m args below meth c H locs 0 0 Q (F0 m 51 ls []) := by
  refine lv_iload C.1 C.2.1 dX9_turns_51 (lv_at hl 5 rfl) ?_
  refine lv_aload_n C.1 C.2.1 dX9_turns_53 rfl (lv_at hl 0 rfl) ?_
  refine gf_X9_117 C hG rfl dX9_turns_54 ?_
  rcases of_ite hf with ⟨c1, hf⟩ | ⟨c1, hf⟩
  · refine lv_icmp_ge (tgt := 123) C.1 C.2.1 dX9_turns_57 (by decide) (fun _ => ?_) (fun q => absurd c1 q)
    obtain rfl := Option.some.inj hf
    exact kX0 _ rfl _ _ _ hG (lv_sub hl [] rfl)
  · refine lv_icmp_ge (tgt := 123) C.1 C.2.1 dX9_turns_57 (by decide) (fun q => absurd q c1) (fun _ => ?_)
    refine lv_iconst (v := nI 0) C.1 C.2.1 dX9_turns_60 (by decide) ?_
    refine lv_istore (lv' := [(9, .int (nI 0)), (0, .ref (B + 0)), (3, .int x3), (4, .long x4), (6, .int x6), (7, .int x7), (8, .int st.1)]) C.1 C.2.1 dX9_turns_61 hl (by decide) rfl (fun ls hl => ?_)
    obtain ⟨ex2, hex2, hf⟩ := of_bind hf
    refine kl_X9_turns_63 C  FU (nI 0, st.2) ex2 _ _ _ hG (lv_sub hl [1, 2, 3, 4, 5, 6, 0] rfl) hex2 (fun y e0 H locs ls hG hl => ?_)
    subst e0
    obtain ⟨v3, ev3, hf⟩ := of_letv hf
    refine lv_iinc (v := v3) (lv' := [(8, .int v3), (0, .ref (B + 0)), (3, .int x3), (4, .long x4), (6, .int x6), (7, .int x7)]) C.1 C.2.1 dX9_turns_117 hl (k := 5) rfl (by rw [ev3, show Int32.ofInt (1) = nI 1 from by decide]) (by decide) rfl (fun ls hl => ?_)
    refine lv_goto (tgt := 51) C.1 C.2.1 dX9_turns_120 (by decide) ?_
    obtain rfl := Option.some.inj hf
    exact kL _ rfl _ _ _ hG (lv_sub hl [1, 2, 3, 4, 5, 0] rfl)
set_option maxRecDepth 100000 in
set_option maxHeartbeats 4000000 in
theorem kl_X9_turns_51 {x3 : Int32} {x4 : Int64} {x6 : Int32} {x7 : Int32} (C : CX p s m args meth c cX9_turns 10 RX9 wc_X9_turns none)  : ∀ (n : Nat) (st : Int32 × Mem) (x : (Mem)) (H : Heap) (locs : List Loc) (ls : Array Slot), Gd s G A 28 B (entM G B st.2) X H locs → lv_has ls 10 [(0, .ref (B + 0)), (3, .int x3), (4, .long x4), (6, .int x6), (7, .int x7), (8, .int st.1)] → lpw (sh_X9_turns_s51 x3 x4 x6 x7) n st = some x →
    (∀ y' : Mem, x = y' → ∀ (H : Heap) (locs : List Loc) (ls : Array Slot), Gd s G A 28 B (entM G B y') X H locs → lv_has ls 10 [] → W p l e rm_X9_turns s m args below meth c H locs 0 0 Q (F0 m 123 ls [])) → W p l e rm_X9_turns s m args below meth c H locs 0 0 Q (F0 m 51 ls []) := by
  intro n
  induction n with
  | zero =>
    intro st x H locs ls hG hl hf
    cases hf
  | succ n ih =>
    intro st x H locs ls hG hl hf kX0
    obtain ⟨r, hr, hh⟩ := of_lpw hf
    refine kb_X9_turns_51 C  hG hl hr (fun st2 e1 H locs ls hG hl => ?_) (fun y2 e1 H locs ls hG hl => ?_)
    · rcases hh with ⟨s3, e2, hh⟩ | e2
      · rw [e2] at e1
        cases e1
        exact ih _ _ _ _ _ hG hl hh kX0
      · rw [e2] at e1
        cases e1
    · rcases hh with ⟨s3, e2, hh⟩ | e2
      · rw [e2] at e1
        cases e1
      · rw [e2] at e1
        cases e1
        exact kX0 _ rfl _ _ _ hG hl
set_option maxRecDepth 100000 in
set_option maxHeartbeats 4000000 in
theorem kb_X9_turns_171 {x3 : Int32} {x4 : Int64} {x6 : Int32} {x7 : Int32} {x8 : Nat} {st : Int32 × Mem} {r : (Int32 × Mem) ⊕ ((Mem))} {H : Heap} {locs : List Loc} {ls : Array Slot} (C : CX p s m args meth c cX9_turns 10 RX9 wc_X9_turns none) (h8 : KDm x8 = (10, 6)) (hG : Gd s G A 28 B (entM G B st.2) X H locs) (hl : lv_has ls 10 [(0, .ref (B + 0)), (3, .int x3), (4, .long x4), (6, .int x6), (7, .int x7), (8, .ref (B + x8)), (9, .int st.1)]) (hf : sh_X9_turns_s171 x3 x4 x6 x7 x8 st = some r)
    (kL : ∀ st' : Int32 × Mem, r = Sum.inl st' → ∀ (H : Heap) (locs : List Loc) (ls : Array Slot), Gd s G A 28 B (entM G B st'.2) X H locs → lv_has ls 10 [(0, .ref (B + 0)), (3, .int x3), (4, .long x4), (6, .int x6), (7, .int x7), (8, .ref (B + x8)), (9, .int st'.1)] → W p l e rm_X9_turns s m args below meth c H locs 0 0 Q (F0 m 171 ls []))
    (kX0 : ∀ y' : Mem, r = Sum.inr y' → ∀ (H : Heap) (locs : List Loc) (ls : Array Slot), Gd s G A 28 B (entM G B y') X H locs → lv_has ls 10 [] → W p l e rm_X9_turns s m args below meth c H locs 0 0 Q (F0 m 240 ls [])) :
    W p l e rm_X9_turns s m args below meth c H locs 0 0 Q (F0 m 171 ls []) := by
  refine lv_iload C.1 C.2.1 dX9_turns_171 (lv_at hl 6 rfl) ?_
  refine lv_aload_n C.1 C.2.1 dX9_turns_173 rfl (lv_at hl 0 rfl) ?_
  refine gf_X9_117 C hG rfl dX9_turns_174 ?_
  rcases of_ite hf with ⟨c1, hf⟩ | ⟨c1, hf⟩
  · refine lv_icmp_ge (tgt := 240) C.1 C.2.1 dX9_turns_177 (by decide) (fun _ => ?_) (fun q => absurd c1 q)
    obtain rfl := Option.some.inj hf
    exact kX0 _ rfl _ _ _ hG (lv_sub hl [] rfl)
  · refine lv_icmp_ge (tgt := 240) C.1 C.2.1 dX9_turns_177 (by decide) (fun q => absurd q c1) (fun _ => ?_)
    refine lv_aload_n C.1 C.2.1 dX9_turns_180 rfl (lv_at hl 0 rfl) ?_
    refine lv_iload C.1 C.2.1 dX9_turns_181 (lv_at hl 4 rfl) ?_
    refine lv_iload_n C.1 C.2.1 dX9_turns_183 rfl (lv_at hl 1 rfl) ?_
    refine lv_aload_n C.1 C.2.1 dX9_turns_184 rfl (lv_at hl 0 rfl) ?_
    refine gf_X9_18 C hG rfl dX9_turns_185 ?_
    refine lv_aload_n C.1 C.2.1 dX9_turns_188 rfl (lv_at hl 0 rfl) ?_
    refine lv_iload C.1 C.2.1 dX9_turns_189 (lv_at hl 3 rfl) ?_
    refine lv_iload C.1 C.2.1 dX9_turns_191 (lv_at hl 6 rfl) ?_
    obtain ⟨v2, hv2, hf⟩ := of_bind hf
    refine r_callV1 C hG hl.1 (c0 := 0) (As := [.int x6, .int st.1]) (by decide) (entM_O (n := 35) rfl) rfl (mt_X9_at l  hv2) (cwV 2 C.2.2.2.2.1 (gd_V tg_4_239 tg_5_1 tgp_32 tg_1_10 tg_5_2) rfl rfl rfl cd_X9_at ⟨Nat.le_of_ble_eq_true rfl, Nat.le_of_ble_eq_true rfl⟩) rfl rfl (Nat.le_of_ble_eq_true rfl) dX9_turns_193 (fun H locs hG => ?_)
    obtain ⟨v3, hv3, hf⟩ := of_bind hf
    obtain ⟨bv3, ev3⟩ := of_ldS hv3
    refine r_iald C hG (c0 := 3) (by decide) (entM_I (n := 36) rfl) bv3 dX9_turns_196 ?_
    refine r_top ev3 ?_
    refine lv_imul C.1 C.2.1 dX9_turns_197 ?_
    refine lv_iadd C.1 C.2.1 dX9_turns_198 ?_
    refine lv_lload C.1 C.2.1 dX9_turns_199 (lv_at hl 2 rfl) ?_
    refine lv_aload C.1 C.2.1 dX9_turns_201 (lv_at hl 5 rfl) ?_
    refine lv_iload C.1 C.2.1 dX9_turns_203 (lv_at hl 6 rfl) ?_
    obtain ⟨v4, hv4, hf⟩ := of_bind hf
    obtain ⟨bv4, ev4⟩ := of_ldS hv4
    refine r_iald C hG (c0 := x8) (kdm_lt h8 (by decide)) (entM_I h8) bv4 dX9_turns_205 ?_
    refine r_top ev4 ?_
    refine lv_i2l C.1 C.2.1 dX9_turns_206 rfl ?_
    refine lv_lmul C.1 C.2.1 dX9_turns_207 ?_
    refine lv_ldc2 (v := lN 9973) C.1 C.2.1 C.2.2.2.1 (C.2.2.2.2.1 _ (List.mem_cons_of_mem _ tg_5_6)) dX9_turns_208 ?_
    refine r_lrem C dX9_turns_211 (by decide) ?_
    refine lv_aload_n C.1 C.2.1 dX9_turns_212 rfl (lv_at hl 0 rfl) ?_
    refine gf_X9_21 C hG rfl dX9_turns_213 ?_
    refine lv_aload_n C.1 C.2.1 dX9_turns_216 rfl (lv_at hl 0 rfl) ?_
    refine lv_iload C.1 C.2.1 dX9_turns_217 (lv_at hl 3 rfl) ?_
    refine lv_iload C.1 C.2.1 dX9_turns_219 (lv_at hl 6 rfl) ?_
    obtain ⟨v5, hv5, hf⟩ := of_bind hf
    refine r_callV1 C hG hl.1 (c0 := 0) (As := [.int x6, .int st.1]) (by decide) (entM_O (n := 35) rfl) rfl (mt_X9_at l  hv5) (cwV 2 C.2.2.2.2.1 (gd_V tg_4_239 tg_5_1 tgp_32 tg_1_10 tg_5_2) rfl rfl rfl cd_X9_at ⟨Nat.le_of_ble_eq_true rfl, Nat.le_of_ble_eq_true rfl⟩) rfl rfl (Nat.le_of_ble_eq_true rfl) dX9_turns_221 (fun H locs hG => ?_)
    obtain ⟨v6, hv6, hf⟩ := of_bind hf
    obtain ⟨bv6, ev6⟩ := of_ldS hv6
    refine r_iald C hG (c0 := 4) (by decide) (entM_I (n := 36) rfl) bv6 dX9_turns_224 ?_
    refine r_top ev6 ?_
    refine lv_i2l C.1 C.2.1 dX9_turns_225 rfl ?_
    refine lv_lmul C.1 C.2.1 dX9_turns_226 ?_
    refine lv_ldc2 (v := lN 9973) C.1 C.2.1 C.2.2.2.1 (C.2.2.2.2.1 _ (List.mem_cons_of_mem _ tg_5_6)) dX9_turns_227 ?_
    refine r_lrem C dX9_turns_230 (by decide) ?_
    obtain ⟨w7, hw7, hf⟩ := of_bind hf
    refine r_callV0 C hG hl.1 (c0 := 0) (As := [.int (x7 + (x3 * v3)), .long (remL ((remL (x4 * v4.toInt64) (lN 9973)) * v6.toInt64) (lN 9973))]) (by decide) (entM_O (n := 35) rfl) rfl (mt_X9_counts l  hw7) (cwV 2 C.2.2.2.2.1 (gd_V tg_5_181 tg_5_183 tgp_56 tg_1_10 tg_5_184) rfl rfl rfl cd_X9_counts ⟨Nat.le_of_ble_eq_true rfl, Nat.le_of_ble_eq_true rfl⟩) rfl rfl (Nat.le_of_ble_eq_true rfl) dX9_turns_231 (fun H locs hG => ?_)
    obtain ⟨v8, ev8, hf⟩ := of_letv hf
    refine lv_iinc (v := v8) (lv' := [(9, .int v8), (0, .ref (B + 0)), (3, .int x3), (4, .long x4), (6, .int x6), (7, .int x7), (8, .ref (B + x8))]) C.1 C.2.1 dX9_turns_234 hl (k := 6) rfl (by rw [ev8, show Int32.ofInt (1) = nI 1 from by decide]) (by decide) rfl (fun ls hl => ?_)
    refine lv_goto (tgt := 171) C.1 C.2.1 dX9_turns_237 (by decide) ?_
    obtain rfl := Option.some.inj hf
    exact kL _ rfl _ _ _ hG (lv_sub hl [1, 2, 3, 4, 5, 6, 0] rfl)
set_option maxRecDepth 100000 in
set_option maxHeartbeats 4000000 in
theorem kl_X9_turns_171 {x3 : Int32} {x4 : Int64} {x6 : Int32} {x7 : Int32} {x8 : Nat} (C : CX p s m args meth c cX9_turns 10 RX9 wc_X9_turns none) (h8 : KDm x8 = (10, 6)) : ∀ (n : Nat) (st : Int32 × Mem) (x : (Mem)) (H : Heap) (locs : List Loc) (ls : Array Slot), Gd s G A 28 B (entM G B st.2) X H locs → lv_has ls 10 [(0, .ref (B + 0)), (3, .int x3), (4, .long x4), (6, .int x6), (7, .int x7), (8, .ref (B + x8)), (9, .int st.1)] → lpw (sh_X9_turns_s171 x3 x4 x6 x7 x8) n st = some x →
    (∀ y' : Mem, x = y' → ∀ (H : Heap) (locs : List Loc) (ls : Array Slot), Gd s G A 28 B (entM G B y') X H locs → lv_has ls 10 [] → W p l e rm_X9_turns s m args below meth c H locs 0 0 Q (F0 m 240 ls [])) → W p l e rm_X9_turns s m args below meth c H locs 0 0 Q (F0 m 171 ls []) := by
  intro n
  induction n with
  | zero =>
    intro st x H locs ls hG hl hf
    cases hf
  | succ n ih =>
    intro st x H locs ls hG hl hf kX0
    obtain ⟨r, hr, hh⟩ := of_lpw hf
    refine kb_X9_turns_171 C h8 hG hl hr (fun st2 e1 H locs ls hG hl => ?_) (fun y2 e1 H locs ls hG hl => ?_)
    · rcases hh with ⟨s3, e2, hh⟩ | e2
      · rw [e2] at e1
        cases e1
        exact ih _ _ _ _ _ hG hl hh kX0
      · rw [e2] at e1
        cases e1
    · rcases hh with ⟨s3, e2, hh⟩ | e2
      · rw [e2] at e1
        cases e1
      · rw [e2] at e1
        cases e1
        exact kX0 _ rfl _ _ _ hG hl
set_option maxRecDepth 100000 in
set_option maxHeartbeats 4000000 in
theorem kb_X9_turns_166 {x3 : Int32} {x4 : Int64} {x6 : Int32} {x7 : Int32} {s0 : Nat} {w : Mem} {out : Mem} {H : Heap} {locs : List Loc} {ls : Array Slot} (C : CX p s m args meth c cX9_turns 10 RX9 wc_X9_turns none) (hs0 : KDm s0 = (10, 6)) (hG : Gd s G A 28 B (entM G B w) X H locs) (hl : lv_has ls 10 [(0, .ref (B + 0)), (3, .int x3), (4, .long x4), (6, .int x6), (7, .int x7)]) (hf : sh_X9_turns_j166 x3 x4 x6 x7 s0 w = some out) :
    W p l e rm_X9_turns s m args below meth c H locs 0 0 (MQ below (CPost G A 28 B (entM G B out) X none) args s 0 0 A) (F0 m 166 ls [.ref (B + s0)]) := by
  refine lv_astore (lv' := [(8, .ref (B + s0)), (0, .ref (B + 0)), (3, .int x3), (4, .long x4), (6, .int x6), (7, .int x7)]) C.1 C.2.1 dX9_turns_166 hl (by decide) rfl (fun ls hl => ?_)
  refine lv_iconst (v := nI 0) C.1 C.2.1 dX9_turns_168 (by decide) ?_
  refine lv_istore (lv' := [(9, .int (nI 0)), (8, .ref (B + s0)), (0, .ref (B + 0)), (3, .int x3), (4, .long x4), (6, .int x6), (7, .int x7)]) C.1 C.2.1 dX9_turns_169 hl (by decide) rfl (fun ls hl => ?_)
  obtain ⟨ex1, hex1, hf⟩ := of_bind hf
  refine kl_X9_turns_171 C hs0 FU (nI 0, w) ex1 _ _ _ hG (lv_sub hl [2, 3, 4, 5, 6, 1, 0] rfl) hex1 (fun y e0 H locs ls hG hl => ?_)
  subst e0
  obtain rfl := Option.some.inj hf
  exact r_vret C hG dX9_turns_240
set_option maxRecDepth 100000 in
set_option maxHeartbeats 4000000 in
theorem kb_X9_turns_0 {x1 : Int32} {x2 : Int32} {x3 : Int32} {w : Mem} {out : Mem} {H : Heap} {locs : List Loc} {ls : Array Slot} (C : CX p s m args meth c cX9_turns 10 RX9 wc_X9_turns none)  (hG : Gd s G A 28 B (entM G B w) X H locs) (hl : lv_has ls 10 [(0, .ref (B + 0)), (1, .int x1), (2, .int x2), (3, .int x3)]) (hf : sh_X9_turns x1 x2 x3 w = some out) :
    W p l e rm_X9_turns s m args below meth c H locs 0 0 (MQ below (CPost G A 28 B (entM G B out) X none) args s 0 0 A) (F0 m 0 ls []) := by
  refine lv_aload_n C.1 C.2.1 dX9_turns_0 rfl (lv_at hl 0 rfl) ?_
  refine gf_X9_75 C hG rfl dX9_turns_1 ?_
  refine lv_iload_n C.1 C.2.1 dX9_turns_4 rfl (lv_at hl 2 rfl) ?_
  obtain ⟨v1, hv1, hf⟩ := of_bind hf
  obtain ⟨bv1, ev1⟩ := of_ldS hv1
  refine r_iald C hG (c0 := 22) (by decide) (entM_I (n := 216) rfl) bv1 dX9_turns_5 ?_
  refine r_top ev1 ?_
  refine lv_i2l C.1 C.2.1 dX9_turns_6 rfl ?_
  refine lv_lstore (lv' := [(4, .long v1.toInt64), (0, .ref (B + 0)), (1, .int x1), (2, .int x2), (3, .int x3)]) C.1 C.2.1 dX9_turns_7 hl (by decide) rfl (fun ls hl => ?_)
  refine lv_iload_n C.1 C.2.1 dX9_turns_9 rfl (lv_at hl 3 rfl) ?_
  refine lv_iload_n C.1 C.2.1 dX9_turns_10 rfl (lv_at hl 4 rfl) ?_
  obtain ⟨c2, hf⟩ := of_grd hf
  refine lv_idiv C.1 C.2.1 dX9_turns_11 c2 ?_
  obtain ⟨v3, ev3, hf⟩ := of_letv hf
  refine r_top ev3 ?_
  refine lv_istore (lv' := [(6, .int v3), (4, .long v1.toInt64), (0, .ref (B + 0)), (1, .int x1), (2, .int x2), (3, .int x3)]) C.1 C.2.1 dX9_turns_12 hl (by decide) rfl (fun ls hl => ?_)
  refine lv_iload_n C.1 C.2.1 dX9_turns_14 rfl (lv_at hl 4 rfl) ?_
  refine lv_iload_n C.1 C.2.1 dX9_turns_15 rfl (lv_at hl 5 rfl) ?_
  obtain ⟨c4, hf⟩ := of_grd hf
  refine r_irem C dX9_turns_16 c4 ?_
  obtain ⟨v5, ev5, hf⟩ := of_letv hf
  refine r_top ev5 ?_
  refine lv_istore (lv' := [(7, .int v5), (6, .int v3), (4, .long v1.toInt64), (0, .ref (B + 0)), (1, .int x1), (2, .int x2), (3, .int x3)]) C.1 C.2.1 dX9_turns_17 hl (by decide) rfl (fun ls hl => ?_)
  refine lv_iload_n C.1 C.2.1 dX9_turns_19 rfl (lv_at hl 4 rfl) ?_
  rcases of_ite hf with ⟨c6, hf⟩ | ⟨c6, hf⟩
  · refine lv_lookup (tgt := 48) (off := 28) C.1 C.2.1 dX9_turns_20 (by decide) (by rw [c6]; rfl) (by decide) ?_
    refine lv_iconst (v := nI 0) C.1 C.2.1 dX9_turns_48 (by decide) ?_
    refine lv_istore (lv' := [(8, .int (nI 0)), (7, .int v5), (6, .int v3), (4, .long v1.toInt64), (0, .ref (B + 0)), (1, .int x1), (2, .int x2), (3, .int x3)]) C.1 C.2.1 dX9_turns_49 hl (by decide) rfl (fun ls hl => ?_)
    obtain ⟨ex7, hex7, hf⟩ := of_bind hf
    refine kl_X9_turns_51 C  FU (nI 0, w) ex7 _ _ _ hG (lv_sub hl [4, 7, 3, 2, 1, 0] rfl) hex7 (fun y e0 H locs ls hG hl => ?_)
    subst e0
    refine lv_goto (tgt := 240) C.1 C.2.1 dX9_turns_123 (by decide) ?_
    obtain rfl := Option.some.inj hf
    exact r_vret C hG dX9_turns_240
  · skip
    rcases of_ite hf with ⟨c8, hf⟩ | ⟨c8, hf⟩
    · refine lv_lookup (tgt := 126) (off := 106) C.1 C.2.1 dX9_turns_20 (by decide) (by rw [c8]; rfl) (by decide) ?_
      refine lv_aload_n C.1 C.2.1 dX9_turns_126 rfl (lv_at hl 3 rfl) ?_
      refine lv_iload C.1 C.2.1 dX9_turns_127 (lv_at hl 0 rfl) ?_
      refine lv_lload C.1 C.2.1 dX9_turns_129 (lv_at hl 2 rfl) ?_
      refine lv_aload_n C.1 C.2.1 dX9_turns_131 rfl (lv_at hl 3 rfl) ?_
      refine gf_X9_24 C hG rfl dX9_turns_132 ?_
      refine lv_iload C.1 C.2.1 dX9_turns_135 (lv_at hl 1 rfl) ?_
      obtain ⟨v9, hv9, hf⟩ := of_bind hf
      obtain ⟨bv9, ev9⟩ := of_ldS hv9
      refine r_iald C hG (c0 := 5) (by decide) (entM_I (n := 6) rfl) bv9 dX9_turns_137 ?_
      refine r_top ev9 ?_
      refine lv_i2l C.1 C.2.1 dX9_turns_138 rfl ?_
      refine lv_lmul C.1 C.2.1 dX9_turns_139 ?_
      refine lv_ldc2 (v := lN 9973) C.1 C.2.1 C.2.2.2.1 (C.2.2.2.2.1 _ (List.mem_cons_of_mem _ tg_5_6)) dX9_turns_140 ?_
      refine r_lrem C dX9_turns_143 (by decide) ?_
      obtain ⟨w10, hw10, hf⟩ := of_bind hf
      refine r_callV0 C hG hl.1 (c0 := 0) (As := [.int v5, .long (remL (v1.toInt64 * v9.toInt64) (lN 9973))]) (by decide) (entM_O (n := 35) rfl) rfl (mt_X9_counts l  hw10) (cwV 2 C.2.2.2.2.1 (gd_V tg_5_181 tg_5_183 tgp_56 tg_1_10 tg_5_184) rfl rfl rfl cd_X9_counts ⟨Nat.le_of_ble_eq_true rfl, Nat.le_of_ble_eq_true rfl⟩) rfl rfl (Nat.le_of_ble_eq_true rfl) dX9_turns_144 (fun H locs hG => ?_)
      refine lv_goto (tgt := 240) C.1 C.2.1 dX9_turns_147 (by decide) ?_
      obtain rfl := Option.some.inj hf
      exact r_vret C hG dX9_turns_240
    · skip
      refine lv_lookup (tgt := 150) (off := 130) C.1 C.2.1 dX9_turns_20 (by decide) (lk_outM c6 c8) (by decide) ?_
      refine lv_iload_n C.1 C.2.1 dX9_turns_150 rfl (lv_at hl 4 rfl) ?_
      refine lv_iconst (v := nI 5) C.1 C.2.1 dX9_turns_151 (by decide) ?_
      rcases of_ite hf with ⟨c11, hf⟩ | ⟨c11, hf⟩
      · refine lv_icmp_ne (tgt := 162) C.1 C.2.1 dX9_turns_152 (by decide) (fun q => absurd c11 q) (fun _ => ?_)
        refine lv_aload_n C.1 C.2.1 dX9_turns_155 rfl (lv_at hl 3 rfl) ?_
        refine gf_X9_33 C hG rfl dX9_turns_156 ?_
        refine lv_goto (tgt := 166) C.1 C.2.1 dX9_turns_159 (by decide) ?_
        exact kb_X9_turns_166 C rfl hG (lv_sub hl [3, 6, 2, 1, 0] rfl) hf
      · refine lv_icmp_ne (tgt := 162) C.1 C.2.1 dX9_turns_152 (by decide) (fun _ => ?_) (fun q => absurd q c11)
        refine lv_aload_n C.1 C.2.1 dX9_turns_162 rfl (lv_at hl 3 rfl) ?_
        refine gf_X9_36 C hG rfl dX9_turns_163 ?_
        exact kb_X9_turns_166 C rfl hG (lv_sub hl [3, 6, 2, 1, 0] rfl) hf
set_option maxRecDepth 100000 in
set_option maxHeartbeats 4000000 in
theorem mt_X9_turns (l : Launch) {G : GG} {A : Nat → Prop} {B : Nat} {X : va_W} {x1 : Int32} {x2 : Int32} {x3 : Int32} {w : Mem} {out : Mem}  (hf : sh_X9_turns x1 x2 x3 w = some out) : MetW l yX9_turns wc_X9_turns rm_X9_turns G A 28 B (entM G B w) X [.ref (B + 0), .int x1, .int x2, .int x3] none (entM G B out) := by
  refine Met.ofW (cc := cX9_turns) (maxL := 10) (ret := none) (by decide) rfl ?_
  intro p e s m args below meth c s₁ B0 hml hv
  obtain ⟨rfl, hEv, hWd⟩ := hv
  have C : CX p s m _ meth c cX9_turns 10 RX9 wc_X9_turns none := ⟨B0.exec, B0.bytes, hml, findClass_of_methodNamed B0.named, atoms_spec (ws := wc_X9_turns) B0.pre, B0.returns, B0.notSynchronized⟩
  have hl := lv_entry [.ref (B + 0), .int x1, .int x2, .int x3] (n := 10) (Nat.le_of_ble_eq_true rfl)
  rw [lg_entry_eq]
  generalize (lg_sl [.ref (B + 0), .int x1, .int x2, .int x3] ++ List.replicate (10 - (lg_sl [.ref (B + 0), .int x1, .int x2, .int x3]).length) Slot.unset).toArray = ls at hl ⊢
  have hl : lv_has ls 10 [(0, .ref (B + 0)), (1, .int x1), (2, .int x2), (3, .int x3)] := hl
  exact kb_X9_turns_0 C  ⟨hEv, hWd, va_S.rf⟩ hl hf
end
