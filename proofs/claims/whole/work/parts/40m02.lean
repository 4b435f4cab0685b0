section
variable {p : Program} {l : Launch} {e : Env} {s : State} {m : MethodId} {args : Array Value} {below : List Frame} {meth : Method} {c : Code} {Q : State → Prop} {G : GG} {A : Nat → Prop} {N B : Nat} {E : Nat → va_E} {X : va_W}
abbrev wc_X9_saves : List Cond := Cond.code yX9_saves cX9_saves 3 none :: TG
abbrev rm_X9_saves : Room := { frames := 2, cells := 0, slots := 0, locals := 100 }
theorem cd_X9_saves : yX9_saves.cls = RX9 ∧ yX9_saves.cls ≠ "java/lang/invoke/MethodHandle" ∧ yX9_saves.cls ≠ "java/lang/invoke/VarHandle" ∧ (parseMethodDescriptor yX9_saves.desc).map (fun d => d.parameters.length) = some 1 := by decide +kernel
theorem dX9_saves_0 : decode cX9_saves 0 = .ok (.aload_n 0, 1) := by decide +kernel
theorem dX9_saves_1 : decode cX9_saves 1 = .ok (.getfield 11, 3) := by decide +kernel
theorem dX9_saves_4 : decode cX9_saves 4 = .ok (.bipush 13, 2) := by decide +kernel
theorem dX9_saves_6 : decode cX9_saves 6 = .ok (.iload_n 1, 1) := by decide +kernel
theorem dX9_saves_7 : decode cX9_saves 7 = .ok (.iadd, 1) := by decide +kernel
theorem dX9_saves_8 : decode cX9_saves 8 = .ok (.aload_n 0, 1) := by decide +kernel
theorem dX9_saves_9 : decode cX9_saves 9 = .ok (.getfield 170, 3) := by decide +kernel
theorem dX9_saves_12 : decode cX9_saves 12 = .ok (.iastore, 1) := by decide +kernel
theorem dX9_saves_13 : decode cX9_saves 13 = .ok (.iconst 0, 1) := by decide +kernel
theorem dX9_saves_14 : decode cX9_saves 14 = .ok (.istore_n 2, 1) := by decide +kernel
theorem dX9_saves_15 : decode cX9_saves 15 = .ok (.iload_n 2, 1) := by decide +kernel
theorem dX9_saves_16 : decode cX9_saves 16 = .ok (.aload_n 0, 1) := by decide +kernel
theorem dX9_saves_17 : decode cX9_saves 17 = .ok (.getfield 170, 3) := by decide +kernel
theorem dX9_saves_20 : decode cX9_saves 20 = .ok (.if_icmp .ge 29, 3) := by decide +kernel
theorem dX9_saves_23 : decode cX9_saves 23 = .ok (.aload_n 0, 1) := by decide +kernel
theorem dX9_saves_24 : decode cX9_saves 24 = .ok (.getfield 11, 3) := by decide +kernel
theorem dX9_saves_27 : decode cX9_saves 27 = .ok (.bipush 17, 2) := by decide +kernel
theorem dX9_saves_29 : decode cX9_saves 29 = .ok (.bipush 24, 2) := by decide +kernel
theorem dX9_saves_31 : decode cX9_saves 31 = .ok (.iload_n 1, 1) := by decide +kernel
theorem dX9_saves_32 : decode cX9_saves 32 = .ok (.imul, 1) := by decide +kernel
theorem dX9_saves_33 : decode cX9_saves 33 = .ok (.iadd, 1) := by decide +kernel
theorem dX9_saves_34 : decode cX9_saves 34 = .ok (.iload_n 2, 1) := by decide +kernel
theorem dX9_saves_35 : decode cX9_saves 35 = .ok (.iadd, 1) := by decide +kernel
theorem dX9_saves_36 : decode cX9_saves 36 = .ok (.aload_n 0, 1) := by decide +kernel
theorem dX9_saves_37 : decode cX9_saves 37 = .ok (.getfield 45, 3) := by decide +kernel
theorem dX9_saves_40 : decode cX9_saves 40 = .ok (.iload_n 2, 1) := by decide +kernel
theorem dX9_saves_41 : decode cX9_saves 41 = .ok (.iaload, 1) := by decide +kernel
theorem dX9_saves_42 : decode cX9_saves 42 = .ok (.iastore, 1) := by decide +kernel
theorem dX9_saves_43 : decode cX9_saves 43 = .ok (.iinc 2 1, 3) := by decide +kernel
theorem dX9_saves_46 : decode cX9_saves 46 = .ok (.goto (-31), 3) := by decide +kernel
theorem dX9_saves_49 : decode cX9_saves 49 = .ok (.return_, 1) := by decide +kernel
set_option maxRecDepth 100000 in
set_option maxHeartbeats 4000000 in
theorem kb_X9_saves_15 {x1 : Int32} {st : Int32 × Mem} {r : (Int32 × Mem) ⊕ ((Mem))} {H : Heap} {locs : List Loc} {ls : Array Slot} (C : CX p s m args meth c cX9_saves 3 RX9 wc_X9_saves none)  (hG : Gd s G A 28 B (entM G B st.2) X H locs) (hl : lv_has ls 3 [(0, .ref (B + 0)), (1, .int x1), (2, .int st.1)]) (hf : sh_X9_saves_s15 x1 st = some r)
    (kL : ∀ st' : Int32 × Mem, r = Sum.inl st' → ∀ (H : Heap) (locs : List Loc) (ls : Array Slot), Gd s G A 28 B (entM G B st'.2) X H locs → lv_has ls 3 [(0, .ref (B + 0)), (1, .int x1), (2, .int st'.1)] → W p l e rm_X9_saves s m args below meth c H locs 0 0 Q (F0 m 15 ls []))
    (kX0 : ∀ y' : Mem, r = Sum.inr y' → ∀ (H : Heap) (locs : List Loc) (ls : Array Slot), Gd s G A 28 B (entM G B y') X H locs → lv_has ls 3 [] → W p l e rm_X9_saves s m args below meth c H locs 0 0 Q (F0 m 49 ls [])) :
    W p l e rm_X9_saves s m args below meth c H locs 0 0 Q (F0 m 15 ls []) := by
  refine lv_iload_n C.1 C.2.1 dX9_saves_15 rfl (lv_at hl 2 rfl) ?_
  refine lv_aload_n C.1 C.2.1 dX9_saves_16 rfl (lv_at hl 0 rfl) ?_
  refine gf_X9_170 C hG rfl dX9_saves_17 ?_
  rcases of_ite hf with ⟨c1, hf⟩ | ⟨c1, hf⟩
  · refine lv_icmp_ge (tgt := 49) C.1 C.2.1 dX9_saves_20 (by decide) (fun _ => ?_) (fun q => absurd c1 q)
    obtain rfl := Option.some.inj hf
    exact kX0 _ rfl _ _ _ hG (lv_sub hl [] rfl)
  · refine lv_icmp_ge (tgt := 49) C.1 C.2.1 dX9_saves_20 (by decide) (fun q => absurd q c1) (fun _ => ?_)
    refine lv_aload_n C.1 C.2.1 dX9_saves_23 rfl (lv_at hl 0 rfl) ?_
    refine gf_X9_11 C hG rfl dX9_saves_24 ?_
    refine lv_bipush (v := nI 17) C.1 C.2.1 dX9_saves_27 (by decide) ?_
    refine lv_bipush (v := nI 24) C.1 C.2.1 dX9_saves_29 (by decide) ?_
    refine lv_iload_n C.1 C.2.1 dX9_saves_31 rfl (lv_at hl 1 rfl) ?_
    refine lv_imul C.1 C.2.1 dX9_saves_32 ?_
    refine lv_iadd C.1 C.2.1 dX9_saves_33 ?_
    refine lv_iload_n C.1 C.2.1 dX9_saves_34 rfl (lv_at hl 2 rfl) ?_
    refine lv_iadd C.1 C.2.1 dX9_saves_35 ?_
    refine lv_aload_n C.1 C.2.1 dX9_saves_36 rfl (lv_at hl 0 rfl) ?_
    refine gf_X9_45 C hG rfl dX9_saves_37 ?_
    refine lv_iload_n C.1 C.2.1 dX9_saves_40 rfl (lv_at hl 2 rfl) ?_
    obtain ⟨v2, hv2, hf⟩ := of_bind hf
    obtain ⟨bv2, ev2⟩ := of_ldS hv2
    refine r_iald C hG (c0 := 12) (by decide) (entM_I (n := 48) rfl) bv2 dX9_saves_41 ?_
    refine r_top ev2 ?_
    obtain ⟨w3, hw3, hf⟩ := of_bind hf
    obtain ⟨bw3, ew3⟩ := of_stM hw3
    refine r_iast C hG (c0 := 1) (by decide) (entM_I (n := 130) rfl) bw3 (E' := (entM G B w3)) (by rw [ew3]; exact upM_I (n := 130) rfl) dX9_saves_42 (fun H locs hG => ?_)
    obtain ⟨v4, ev4, hf⟩ := of_letv hf
    refine lv_iinc (v := v4) (lv' := [(2, .int v4), (0, .ref (B + 0)), (1, .int x1)]) C.1 C.2.1 dX9_saves_43 hl (k := 2) rfl (by rw [ev4, show Int32.ofInt (1) = nI 1 from by decide]) (by decide) rfl (fun ls hl => ?_)
    refine lv_goto (tgt := 15) C.1 C.2.1 dX9_saves_46 (by decide) ?_
    obtain rfl := Option.some.inj hf
    exact kL _ rfl _ _ _ hG (lv_sub hl [1, 2, 0] rfl)
set_option maxRecDepth 100000 in
set_option maxHeartbeats 4000000 in
theorem kl_X9_saves_15 {x1 : Int32} (C : CX p s m args meth c cX9_saves 3 RX9 wc_X9_saves none)  : ∀ (n : Nat) (st : Int32 × Mem) (x : (Mem)) (H : Heap) (locs : List Loc) (ls : Array Slot), Gd s G A 28 B (entM G B st.2) X H locs → lv_has ls 3 [(0, .ref (B + 0)), (1, .int x1), (2, .int st.1)] → lpw (sh_X9_saves_s15 x1) n st = some x →
    (∀ y' : Mem, x = y' → ∀ (H : Heap) (locs : List Loc) (ls : Array Slot), Gd s G A 28 B (entM G B y') X H locs → lv_has ls 3 [] → W p l e rm_X9_saves s m args below meth c H locs 0 0 Q (F0 m 49 ls [])) → W p l e rm_X9_saves s m args below meth c H locs 0 0 Q (F0 m 15 ls []) := by
  intro n
  induction n with
  | zero =>
    intro st x H locs ls hG hl hf
    cases hf
  | succ n ih =>
    intro st x H locs ls hG hl hf kX0
    obtain ⟨r, hr, hh⟩ := of_lpw hf
    refine kb_X9_saves_15 C  hG hl hr (fun st2 e1 H locs ls hG hl => ?_) (fun y2 e1 H locs ls hG hl => ?_)
    · rcases hh with ⟨s3, e2, hh⟩ | e2
      · rw [e2] at e1
        cases e1
        exact ih _ _ _ _ _ hG hl hh kX0
      · rw [e2] at e1
        cases e1
    · rcases hh with ⟨s3, e2, hh⟩ | e2
      · rw [e2] at e1
        cases e1
      · rw [e2] at e1
        cases e1
        exact kX0 _ rfl _ _ _ hG hl
set_option maxRecDepth 100000 in
set_option maxHeartbeats 4000000 in
theorem kb_X9_saves_0 {x1 : Int32} {w : Mem} {out : Mem} {H : Heap} {locs : List Loc} {ls : Array Slot} (C : CX p s m args meth c cX9_saves 3 RX9 wc_X9_saves none)  (hG : Gd s G A 28 B (entM G B w) X H locs) (hl : lv_has ls 3 [(0, .ref (B + 0)), (1, .int x1)]) (hf : sh_X9_saves x1 w = some out) :
    W p l e rm_X9_saves s m args below meth c H locs 0 0 (MQ below (CPost G A 28 B (entM G B out) X none) args s 0 0 A) (F0 m 0 ls []) := by
  refine lv_aload_n C.1 C.2.1 dX9_saves_0 rfl (lv_at hl 0 rfl) ?_
  refine gf_X9_11 C hG rfl dX9_saves_1 ?_
  refine lv_bipush (v := nI 13) C.1 C.2.1 dX9_saves_4 (by decide) ?_
  refine lv_iload_n C.1 C.2.1 dX9_saves_6 rfl (lv_at hl 1 rfl) ?_
  refine lv_iadd C.1 C.2.1 dX9_saves_7 ?_
  refine lv_aload_n C.1 C.2.1 dX9_saves_8 rfl (lv_at hl 0 rfl) ?_
  refine gf_X9_170 C hG rfl dX9_saves_9 ?_
  obtain ⟨w1, hw1, hf⟩ := of_bind hf
  obtain ⟨bw1, ew1⟩ := of_stM hw1
  refine r_iast C hG (c0 := 1) (by decide) (entM_I (n := 130) rfl) bw1 (E' := (entM G B w1)) (by rw [ew1]; exact upM_I (n := 130) rfl) dX9_saves_12 (fun H locs hG => ?_)
  refine lv_iconst (v := nI 0) C.1 C.2.1 dX9_saves_13 (by decide) ?_
  refine lv_istore_n (lv' := [(2, .int (nI 0)), (0, .ref (B + 0)), (1, .int x1)]) C.1 C.2.1 dX9_saves_14 rfl hl (by decide) rfl (fun ls hl => ?_)
  obtain ⟨ex2, hex2, hf⟩ := of_bind hf
  refine kl_X9_saves_15 C  FU (nI 0, w1) ex2 _ _ _ hG (lv_sub hl [1, 2, 0] rfl) hex2 (fun y e0 H locs ls hG hl => ?_)
  subst e0
  obtain rfl := Option.some.inj hf
  exact r_vret C hG dX9_saves_49
set_option maxRecDepth 100000 in
set_option maxHeartbeats 4000000 in
theorem mt_X9_saves (l : Launch) {G : GG} {A : Nat → Prop} {B : Nat} {X : va_W} {x1 : Int32} {w : Mem} {out : Mem}  (hf : sh_X9_saves x1 w = some out) : MetW l yX9_saves wc_X9_saves rm_X9_saves G A 28 B (entM G B w) X [.ref (B + 0), .int x1] none (entM G B out) := by
  refine Met.ofW (cc := cX9_saves) (maxL := 3) (ret := none) (by decide) rfl ?_
  intro p e s m args below meth c s₁ B0 hml hv
  obtain ⟨rfl, hEv, hWd⟩ := hv
  have C : CX p s m _ meth c cX9_saves 3 RX9 wc_X9_saves none := ⟨B0.exec, B0.bytes, hml, findClass_of_methodNamed B0.named, atoms_spec (ws := wc_X9_saves) B0.pre, B0.returns, B0.notSynchronized⟩
  have hl := lv_entry [.ref (B + 0), .int x1] (n := 3) (Nat.le_of_ble_eq_true rfl)
  rw [lg_entry_eq]
  generalize (lg_sl [.ref (B + 0), .int x1] ++ List.replicate (3 - (lg_sl [.ref (B + 0), .int x1]).length) Slot.unset).toArray = ls at hl ⊢
  have hl : lv_has ls 3 [(0, .ref (B + 0)), (1, .int x1)] := hl
  exact kb_X9_saves_0 C  ⟨hEv, hWd, va_S.rf⟩ hl hf
abbrev wc_X9_behind : List Cond := Cond.code yX9_behind cX9_behind 5 (some .int) :: TG
abbrev rm_X9_behind : Room := { frames := 2, cells := 0, slots := 0, locals := 100 }
theorem cd_X9_behind : yX9_behind.cls = RX9 ∧ yX9_behind.cls ≠ "java/lang/invoke/MethodHandle" ∧ yX9_behind.cls ≠ "java/lang/invoke/VarHandle" ∧ (parseMethodDescriptor yX9_behind.desc).map (fun d => d.parameters.length) = some 3 := by decide +kernel
theorem dX9_behind_0 : decode cX9_behind 0 = .ok (.iload_n 1, 1) := by decide +kernel
theorem dX9_behind_1 : decode cX9_behind 1 = .ok (.ifCond .ne 7, 3) := by decide +kernel
theorem dX9_behind_4 : decode cX9_behind 4 = .ok (.iconst 0, 1) := by decide +kernel
theorem dX9_behind_5 : decode cX9_behind 5 = .ok (.goto 18, 3) := by decide +kernel
theorem dX9_behind_8 : decode cX9_behind 8 = .ok (.iload_n 1, 1) := by decide +kernel
theorem dX9_behind_9 : decode cX9_behind 9 = .ok (.iconst 1, 1) := by decide +kernel
theorem dX9_behind_10 : decode cX9_behind 10 = .ok (.if_icmp .eq 8, 3) := by decide +kernel
theorem dX9_behind_13 : decode cX9_behind 13 = .ok (.iload_n 1, 1) := by decide +kernel
theorem dX9_behind_14 : decode cX9_behind 14 = .ok (.iconst 4, 1) := by decide +kernel
theorem dX9_behind_15 : decode cX9_behind 15 = .ok (.if_icmp .ne 7, 3) := by decide +kernel
theorem dX9_behind_18 : decode cX9_behind 18 = .ok (.iconst 2, 1) := by decide +kernel
theorem dX9_behind_19 : decode cX9_behind 19 = .ok (.goto 4, 3) := by decide +kernel
theorem dX9_behind_22 : decode cX9_behind 22 = .ok (.iconst 1, 1) := by decide +kernel
theorem dX9_behind_23 : decode cX9_behind 23 = .ok (.istore_n 3, 1) := by decide +kernel
theorem dX9_behind_24 : decode cX9_behind 24 = .ok (.iload_n 1, 1) := by decide +kernel
theorem dX9_behind_25 : decode cX9_behind 25 = .ok (.ifCond .eq 8, 3) := by decide +kernel
theorem dX9_behind_28 : decode cX9_behind 28 = .ok (.iload_n 1, 1) := by decide +kernel
theorem dX9_behind_29 : decode cX9_behind 29 = .ok (.iconst 2, 1) := by decide +kernel
theorem dX9_behind_30 : decode cX9_behind 30 = .ok (.if_icmp .ne 7, 3) := by decide +kernel
theorem dX9_behind_33 : decode cX9_behind 33 = .ok (.iconst 1, 1) := by decide +kernel
theorem dX9_behind_34 : decode cX9_behind 34 = .ok (.goto 18, 3) := by decide +kernel
theorem dX9_behind_37 : decode cX9_behind 37 = .ok (.iload_n 1, 1) := by decide +kernel
theorem dX9_behind_38 : decode cX9_behind 38 = .ok (.iconst 1, 1) := by decide +kernel
theorem dX9_behind_39 : decode cX9_behind 39 = .ok (.if_icmp .eq 8, 3) := by decide +kernel
theorem dX9_behind_42 : decode cX9_behind 42 = .ok (.iload_n 1, 1) := by decide +kernel
theorem dX9_behind_43 : decode cX9_behind 43 = .ok (.iconst 3, 1) := by decide +kernel
theorem dX9_behind_44 : decode cX9_behind 44 = .ok (.if_icmp .ne 7, 3) := by decide +kernel
theorem dX9_behind_47 : decode cX9_behind 47 = .ok (.iconst (-1), 1) := by decide +kernel
theorem dX9_behind_48 : decode cX9_behind 48 = .ok (.goto 4, 3) := by decide +kernel
theorem dX9_behind_51 : decode cX9_behind 51 = .ok (.iconst 0, 1) := by decide +kernel
theorem dX9_behind_52 : decode cX9_behind 52 = .ok (.istore 4, 2) := by decide +kernel
theorem dX9_behind_54 : decode cX9_behind 54 = .ok (.iload_n 0, 1) := by decide +kernel
theorem dX9_behind_55 : decode cX9_behind 55 = .ok (.iload_n 3, 1) := by decide +kernel
theorem dX9_behind_56 : decode cX9_behind 56 = .ok (.if_icmp .lt 11, 3) := by decide +kernel
theorem dX9_behind_59 : decode cX9_behind 59 = .ok (.iload_n 0, 1) := by decide +kernel
theorem dX9_behind_60 : decode cX9_behind 60 = .ok (.iload 4, 2) := by decide +kernel
theorem dX9_behind_62 : decode cX9_behind 62 = .ok (.iadd, 1) := by decide +kernel
theorem dX9_behind_63 : decode cX9_behind 63 = .ok (.iload_n 2, 1) := by decide +kernel
theorem dX9_behind_64 : decode cX9_behind 64 = .ok (.if_icmp .le 7, 3) := by decide +kernel
theorem dX9_behind_67 : decode cX9_behind 67 = .ok (.iconst (-1), 1) := by decide +kernel
theorem dX9_behind_68 : decode cX9_behind 68 = .ok (.goto 7, 3) := by decide +kernel
theorem dX9_behind_71 : decode cX9_behind 71 = .ok (.iload_n 0, 1) := by decide +kernel
theorem dX9_behind_72 : decode cX9_behind 72 = .ok (.iload 4, 2) := by decide +kernel
theorem dX9_behind_74 : decode cX9_behind 74 = .ok (.iadd, 1) := by decide +kernel
theorem dX9_behind_75 : decode cX9_behind 75 = .ok (.ireturn, 1) := by decide +kernel
set_option maxRecDepth 100000 in
set_option maxHeartbeats 4000000 in
theorem kb_X9_behind_52 {x0 : Int32} {x2 : Int32} {x3 : Int32} {s0 : Int32} {out : Int32} {H : Heap} {locs : List Loc} {ls : Array Slot} (C : CX p s m args meth c cX9_behind 5 RX9 wc_X9_behind (some .int))  (hG : Gd s G A N B E X H locs) (hl : lv_has ls 5 [(0, .int x0), (2, .int x2), (3, .int x3)]) (hf : sh_X9_behind_j52 x0 x2 x3 s0 = some out) :
    W p l e rm_X9_behind s m args below meth c H locs 0 0 (MQ below (CPost G A N B E X (some (.int out))) args s 0 0 A) (F0 m 52 ls [.int s0]) := by
  refine lv_istore (lv' := [(4, .int s0), (0, .int x0), (2, .int x2), (3, .int x3)]) C.1 C.2.1 dX9_behind_52 hl (by decide) rfl (fun ls hl => ?_)
  refine lv_iload_n C.1 C.2.1 dX9_behind_54 rfl (lv_at hl 1 rfl) ?_
  refine lv_iload_n C.1 C.2.1 dX9_behind_55 rfl (lv_at hl 3 rfl) ?_
  rcases of_ite hf with ⟨c1, hf⟩ | ⟨c1, hf⟩
  · refine lv_icmp_lt (tgt := 67) C.1 C.2.1 dX9_behind_56 (by decide) (fun _ => ?_) (fun q => absurd c1 q)
    refine lv_iconst (v := (-1 : Int32)) C.1 C.2.1 dX9_behind_67 (by decide) ?_
    refine lv_goto (tgt := 75) C.1 C.2.1 dX9_behind_68 (by decide) ?_
    obtain rfl := Option.some.inj hf
    exact r_iret C hG dX9_behind_75
  · refine lv_icmp_lt (tgt := 67) C.1 C.2.1 dX9_behind_56 (by decide) (fun q => absurd q c1) (fun _ => ?_)
    refine lv_iload_n C.1 C.2.1 dX9_behind_59 rfl (lv_at hl 1 rfl) ?_
    refine lv_iload C.1 C.2.1 dX9_behind_60 (lv_at hl 0 rfl) ?_
    refine lv_iadd C.1 C.2.1 dX9_behind_62 ?_
    refine lv_iload_n C.1 C.2.1 dX9_behind_63 rfl (lv_at hl 2 rfl) ?_
    rcases of_ite hf with ⟨c2, hf⟩ | ⟨c2, hf⟩
    · refine lv_icmp_le (tgt := 71) C.1 C.2.1 dX9_behind_64 (by decide) (fun _ => ?_) (fun q => absurd c2 q)
      refine lv_iload_n C.1 C.2.1 dX9_behind_71 rfl (lv_at hl 1 rfl) ?_
      refine lv_iload C.1 C.2.1 dX9_behind_72 (lv_at hl 0 rfl) ?_
      refine lv_iadd C.1 C.2.1 dX9_behind_74 ?_
      obtain rfl := Option.some.inj hf
      exact r_iret C hG dX9_behind_75
    · refine lv_icmp_le (tgt := 71) C.1 C.2.1 dX9_behind_64 (by decide) (fun q => absurd q c2) (fun _ => ?_)
      refine lv_iconst (v := (-1 : Int32)) C.1 C.2.1 dX9_behind_67 (by decide) ?_
      refine lv_goto (tgt := 75) C.1 C.2.1 dX9_behind_68 (by decide) ?_
      obtain rfl := Option.some.inj hf
      exact r_iret C hG dX9_behind_75
set_option maxRecDepth 100000 in
set_option maxHeartbeats 4000000 in
theorem kb_X9_behind_33 {x0 : Int32} {x2 : Int32} {x3 : Int32} {out : Int32} {H : Heap} {locs : List Loc} {ls : Array Slot} (C : CX p s m args meth c cX9_behind 5 RX9 wc_X9_behind (some .int))  (hG : Gd s G A N B E X H locs) (hl : lv_has ls 5 [(0, .int x0), (2, .int x2), (3, .int x3)]) (hf : sh_X9_behind_j33 x0 x2 x3 = some out) :
    W p l e rm_X9_behind s m args below meth c H locs 0 0 (MQ below (CPost G A N B E X (some (.int out))) args s 0 0 A) (F0 m 33 ls []) := by
  refine lv_iconst (v := nI 1) C.1 C.2.1 dX9_behind_33 (by decide) ?_
  refine lv_goto (tgt := 52) C.1 C.2.1 dX9_behind_34 (by decide) ?_
  exact kb_X9_behind_52 C  hG hl hf
set_option maxRecDepth 100000 in
set_option maxHeartbeats 4000000 in
theorem kb_X9_behind_47 {x0 : Int32} {x2 : Int32} {x3 : Int32} {out : Int32} {H : Heap} {locs : List Loc} {ls : Array Slot} (C : CX p s m args meth c cX9_behind 5 RX9 wc_X9_behind (some .int))  (hG : Gd s G A N B E X H locs) (hl : lv_has ls 5 [(0, .int x0), (2, .int x2), (3, .int x3)]) (hf : sh_X9_behind_j47 x0 x2 x3 = some out) :
    W p l e rm_X9_behind s m args below meth c H locs 0 0 (MQ below (CPost G A N B E X (some (.int out))) args s 0 0 A) (F0 m 47 ls []) := by
  refine lv_iconst (v := (-1 : Int32)) C.1 C.2.1 dX9_behind_47 (by decide) ?_
  refine lv_goto (tgt := 52) C.1 C.2.1 dX9_behind_48 (by decide) ?_
  exact kb_X9_behind_52 C  hG hl hf
set_option maxRecDepth 100000 in
set_option maxHeartbeats 4000000 in
theorem kb_X9_behind_23 {x0 : Int32} {x1 : Int32} {x2 : Int32} {s0 : Int32} {out : Int32} {H : Heap} {locs : List Loc} {ls : Array Slot} (C : CX p s m args meth c cX9_behind 5 RX9 wc_X9_behind (some .int))  (hG : Gd s G A N B E X H locs) (hl : lv_has ls 5 [(0, .int x0), (1, .int x1), (2, .int x2)]) (hf : sh_X9_behind_j23 x0 x1 x2 s0 = some out) :
    W p l e rm_X9_behind s m args below meth c H locs 0 0 (MQ below (CPost G A N B E X (some (.int out))) args s 0 0 A) (F0 m 23 ls [.int s0]) := by
  refine lv_istore_n (lv' := [(3, .int s0), (0, .int x0), (1, .int x1), (2, .int x2)]) C.1 C.2.1 dX9_behind_23 rfl hl (by decide) rfl (fun ls hl => ?_)
  refine lv_iload_n C.1 C.2.1 dX9_behind_24 rfl (lv_at hl 2 rfl) ?_
  rcases of_ite hf with ⟨c1, hf⟩ | ⟨c1, hf⟩
  · refine lv_if_eq (tgt := 33) C.1 C.2.1 dX9_behind_25 (by decide) (fun _ => ?_) (fun q => absurd c1 q)
    exact kb_X9_behind_33 C  hG (lv_sub hl [1, 3, 0] rfl) hf
  · refine lv_if_eq (tgt := 33) C.1 C.2.1 dX9_behind_25 (by decide) (fun q => absurd q c1) (fun _ => ?_)
    refine lv_iload_n C.1 C.2.1 dX9_behind_28 rfl (lv_at hl 2 rfl) ?_
    refine lv_iconst (v := nI 2) C.1 C.2.1 dX9_behind_29 (by decide) ?_
    rcases of_ite hf with ⟨c2, hf⟩ | ⟨c2, hf⟩
    · refine lv_icmp_ne (tgt := 37) C.1 C.2.1 dX9_behind_30 (by decide) (fun q => absurd c2 q) (fun _ => ?_)
      exact kb_X9_behind_33 C  hG (lv_sub hl [1, 3, 0] rfl) hf
    · refine lv_icmp_ne (tgt := 37) C.1 C.2.1 dX9_behind_30 (by decide) (fun _ => ?_) (fun q => absurd q c2)
      refine lv_iload_n C.1 C.2.1 dX9_behind_37 rfl (lv_at hl 2 rfl) ?_
      refine lv_iconst (v := nI 1) C.1 C.2.1 dX9_behind_38 (by decide) ?_
      rcases of_ite hf with ⟨c3, hf⟩ | ⟨c3, hf⟩
      · refine lv_icmp_eq (tgt := 47) C.1 C.2.1 dX9_behind_39 (by decide) (fun _ => ?_) (fun q => absurd c3 q)
        exact kb_X9_behind_47 C  hG (lv_sub hl [1, 3, 0] rfl) hf
      · refine lv_icmp_eq (tgt := 47) C.1 C.2.1 dX9_behind_39 (by decide) (fun q => absurd q c3) (fun _ => ?_)
        refine lv_iload_n C.1 C.2.1 dX9_behind_42 rfl (lv_at hl 2 rfl) ?_
        refine lv_iconst (v := nI 3) C.1 C.2.1 dX9_behind_43 (by decide) ?_
        rcases of_ite hf with ⟨c4, hf⟩ | ⟨c4, hf⟩
        · refine lv_icmp_ne (tgt := 51) C.1 C.2.1 dX9_behind_44 (by decide) (fun q => absurd c4 q) (fun _ => ?_)
          exact kb_X9_behind_47 C  hG (lv_sub hl [1, 3, 0] rfl) hf
        · refine lv_icmp_ne (tgt := 51) C.1 C.2.1 dX9_behind_44 (by decide) (fun _ => ?_) (fun q => absurd q c4)
          refine lv_iconst (v := nI 0) C.1 C.2.1 dX9_behind_51 (by decide) ?_
          exact kb_X9_behind_52 C  hG (lv_sub hl [1, 3, 0] rfl) hf
set_option maxRecDepth 100000 in
set_option maxHeartbeats 4000000 in
theorem kb_X9_behind_18 {x0 : Int32} {x1 : Int32} {x2 : Int32} {out : Int32} {H : Heap} {locs : List Loc} {ls : Array Slot} (C : CX p s m args meth c cX9_behind 5 RX9 wc_X9_behind (some .int))  (hG : Gd s G A N B E X H locs) (hl : lv_has ls 5 [(0, .int x0), (1, .int x1), (2, .int x2)]) (hf : sh_X9_behind_j18 x0 x1 x2 = some out) :
    W p l e rm_X9_behind s m args below meth c H locs 0 0 (MQ below (CPost G A N B E X (some (.int out))) args s 0 0 A) (F0 m 18 ls []) := by
  refine lv_iconst (v := nI 2) C.1 C.2.1 dX9_behind_18 (by decide) ?_
  refine lv_goto (tgt := 23) C.1 C.2.1 dX9_behind_19 (by decide) ?_
  exact kb_X9_behind_23 C  hG hl hf
set_option maxRecDepth 100000 in
set_option maxHeartbeats 4000000 in
theorem kb_X9_behind_0 {x0 : Int32} {x1 : Int32} {x2 : Int32} {out : Int32} {H : Heap} {locs : List Loc} {ls : Array Slot} (C : CX p s m args meth c cX9_behind 5 RX9 wc_X9_behind (some .int))  (hG : Gd s G A N B E X H locs) (hl : lv_has ls 5 [(0, .int x0), (1, .int x1), (2, .int x2)]) (hf : sh_X9_behind x0 x1 x2 = some out) :
    W p l e rm_X9_behind s m args below meth c H locs 0 0 (MQ below (CPost G A N B E X (some (.int out))) args s 0 0 A) (F0 m 0 ls []) := by
  refine lv_iload_n C.1 C.2.1 dX9_behind_0 rfl (lv_at hl 1 rfl) ?_
  rcases of_ite hf with ⟨c1, hf⟩ | ⟨c1, hf⟩
  · refine lv_if_ne (tgt := 8) C.1 C.2.1 dX9_behind_1 (by decide) (fun q => absurd c1 q) (fun _ => ?_)
    refine lv_iconst (v := nI 0) C.1 C.2.1 dX9_behind_4 (by decide) ?_
    refine lv_goto (tgt := 23) C.1 C.2.1 dX9_behind_5 (by decide) ?_
    exact kb_X9_behind_23 C  hG hl hf
  · refine lv_if_ne (tgt := 8) C.1 C.2.1 dX9_behind_1 (by decide) (fun _ => ?_) (fun q => absurd q c1)
    refine lv_iload_n C.1 C.2.1 dX9_behind_8 rfl (lv_at hl 1 rfl) ?_
    refine lv_iconst (v := nI 1) C.1 C.2.1 dX9_behind_9 (by decide) ?_
    rcases of_ite hf with ⟨c2, hf⟩ | ⟨c2, hf⟩
    · refine lv_icmp_eq (tgt := 18) C.1 C.2.1 dX9_behind_10 (by decide) (fun _ => ?_) (fun q => absurd c2 q)
      exact kb_X9_behind_18 C  hG hl hf
    · refine lv_icmp_eq (tgt := 18) C.1 C.2.1 dX9_behind_10 (by decide) (fun q => absurd q c2) (fun _ => ?_)
      refine lv_iload_n C.1 C.2.1 dX9_behind_13 rfl (lv_at hl 1 rfl) ?_
      refine lv_iconst (v := nI 4) C.1 C.2.1 dX9_behind_14 (by decide) ?_
      rcases of_ite hf with ⟨c3, hf⟩ | ⟨c3, hf⟩
      · refine lv_icmp_ne (tgt := 22) C.1 C.2.1 dX9_behind_15 (by decide) (fun q => absurd c3 q) (fun _ => ?_)
        exact kb_X9_behind_18 C  hG hl hf
      · refine lv_icmp_ne (tgt := 22) C.1 C.2.1 dX9_behind_15 (by decide) (fun _ => ?_) (fun q => absurd q c3)
        refine lv_iconst (v := nI 1) C.1 C.2.1 dX9_behind_22 (by decide) ?_
        exact kb_X9_behind_23 C  hG hl hf
set_option maxRecDepth 100000 in
set_option maxHeartbeats 4000000 in
theorem mt_X9_behind (l : Launch) {G : GG} {A : Nat → Prop} {N B : Nat} {E : Nat → va_E} {X : va_W} {x0 : Int32} {x1 : Int32} {x2 : Int32} {out : Int32}  (hf : sh_X9_behind x0 x1 x2 = some out) : MetW l yX9_behind wc_X9_behind rm_X9_behind G A N B E X [.int x0, .int x1, .int x2] (some (.int out)) E := by
  refine Met.ofW (cc := cX9_behind) (maxL := 5) (ret := (some .int)) (by decide) rfl ?_
  intro p e s m args below meth c s₁ B0 hml hv
  obtain ⟨rfl, hEv, hWd⟩ := hv
  have C : CX p s m _ meth c cX9_behind 5 RX9 wc_X9_behind (some .int) := ⟨B0.exec, B0.bytes, hml, findClass_of_methodNamed B0.named, atoms_spec (ws := wc_X9_behind) B0.pre, B0.returns, B0.notSynchronized⟩
  have hl := lv_entry [.int x0, .int x1, .int x2] (n := 5) (Nat.le_of_ble_eq_true rfl)
  rw [lg_entry_eq]
  generalize (lg_sl [.int x0, .int x1, .int x2] ++ List.replicate (5 - (lg_sl [.int x0, .int x1, .int x2]).length) Slot.unset).toArray = ls at hl ⊢
  have hl : lv_has ls 5 [(0, .int x0), (1, .int x1), (2, .int x2)] := hl
  exact kb_X9_behind_0 C  ⟨hEv, hWd, va_S.rf⟩ hl hf
abbrev wc_X9_circles : List Cond := Cond.code yX9_circles cX9_circles 3 (some .int) :: TG
abbrev rm_X9_circles : Room := { frames := 3, cells := 0, slots := 0, locals := 124 }
theorem cd_X9_circles : yX9_circles.cls = RX9 ∧ yX9_circles.cls ≠ "java/lang/invoke/MethodHandle" ∧ yX9_circles.cls ≠ "java/lang/invoke/VarHandle" ∧ (parseMethodDescriptor yX9_circles.desc).map (fun d => d.parameters.length) = some 0 := by decide +kernel
theorem dX9_circles_0 : decode cX9_circles 0 = .ok (.iconst 0, 1) := by decide +kernel
theorem dX9_circles_1 : decode cX9_circles 1 = .ok (.istore_n 1, 1) := by decide +kernel
theorem dX9_circles_2 : decode cX9_circles 2 = .ok (.iconst 0, 1) := by decide +kernel
theorem dX9_circles_3 : decode cX9_circles 3 = .ok (.istore_n 2, 1) := by decide +kernel
theorem dX9_circles_4 : decode cX9_circles 4 = .ok (.iload_n 2, 1) := by decide +kernel
theorem dX9_circles_5 : decode cX9_circles 5 = .ok (.aload_n 0, 1) := by decide +kernel
theorem dX9_circles_6 : decode cX9_circles 6 = .ok (.getfield 170, 3) := by decide +kernel
theorem dX9_circles_9 : decode cX9_circles 9 = .ok (.if_icmp .ge 21, 3) := by decide +kernel
theorem dX9_circles_12 : decode cX9_circles 12 = .ok (.iload_n 1, 1) := by decide +kernel
theorem dX9_circles_13 : decode cX9_circles 13 = .ok (.aload_n 0, 1) := by decide +kernel
theorem dX9_circles_14 : decode cX9_circles 14 = .ok (.getfield 45, 3) := by decide +kernel
theorem dX9_circles_17 : decode cX9_circles 17 = .ok (.iload_n 2, 1) := by decide +kernel
theorem dX9_circles_18 : decode cX9_circles 18 = .ok (.iaload, 1) := by decide +kernel
theorem dX9_circles_19 : decode cX9_circles 19 = .ok (.iconst 3, 1) := by decide +kernel
theorem dX9_circles_20 : decode cX9_circles 20 = .ok (.invokestatic 173, 3) := by decide +kernel
theorem dX9_circles_23 : decode cX9_circles 23 = .ok (.istore_n 1, 1) := by decide +kernel
theorem dX9_circles_24 : decode cX9_circles 24 = .ok (.iinc 2 1, 3) := by decide +kernel
theorem dX9_circles_27 : decode cX9_circles 27 = .ok (.goto (-23), 3) := by decide +kernel
theorem dX9_circles_30 : decode cX9_circles 30 = .ok (.iload_n 1, 1) := by decide +kernel
theorem dX9_circles_31 : decode cX9_circles 31 = .ok (.ireturn, 1) := by decide +kernel
set_option maxRecDepth 100000 in
set_option maxHeartbeats 4000000 in
theorem kb_X9_circles_4 {w : Mem} {st : Int32 × Int32} {r : (Int32 × Int32) ⊕ ((Int32))} {H : Heap} {locs : List Loc} {ls : Array Slot} (C : CX p s m args meth c cX9_circles 3 RX9 wc_X9_circles (some .int))  (hG : Gd s G A 28 B (entM G B w) X H locs) (hl : lv_has ls 3 [(0, .ref (B + 0)), (1, .int st.1), (2, .int st.2)]) (hf : sh_X9_circles_s4 w st = some r)
    (kL : ∀ st' : Int32 × Int32, r = Sum.inl st' → ∀ (H : Heap) (locs : List Loc) (ls : Array Slot), Gd s G A 28 B (entM G B w) X H locs → lv_has ls 3 [(0, .ref (B + 0)), (1, .int st'.1), (2, .int st'.2)] → W p l e rm_X9_circles s m args below meth c H locs 0 0 Q (F0 m 4 ls []))
    (kX0 : ∀ y' : Int32, r = Sum.inr y' → ∀ (H : Heap) (locs : List Loc) (ls : Array Slot), Gd s G A 28 B (entM G B w) X H locs → lv_has ls 3 [(1, .int y')] → W p l e rm_X9_circles s m args below meth c H locs 0 0 Q (F0 m 30 ls [])) :
    W p l e rm_X9_circles s m args below meth c H locs 0 0 Q (F0 m 4 ls []) := by
  refine lv_iload_n C.1 C.2.1 dX9_circles_4 rfl (lv_at hl 2 rfl) ?_
  refine lv_aload_n C.1 C.2.1 dX9_circles_5 rfl (lv_at hl 0 rfl) ?_
  refine gf_X9_170 C hG rfl dX9_circles_6 ?_
  rcases of_ite hf with ⟨c1, hf⟩ | ⟨c1, hf⟩
  · refine lv_icmp_ge (tgt := 30) C.1 C.2.1 dX9_circles_9 (by decide) (fun _ => ?_) (fun q => absurd c1 q)
    obtain rfl := Option.some.inj hf
    exact kX0 _ rfl _ _ _ hG (lv_sub hl [1] rfl)
  · refine lv_icmp_ge (tgt := 30) C.1 C.2.1 dX9_circles_9 (by decide) (fun q => absurd q c1) (fun _ => ?_)
    refine lv_iload_n C.1 C.2.1 dX9_circles_12 rfl (lv_at hl 1 rfl) ?_
    refine lv_aload_n C.1 C.2.1 dX9_circles_13 rfl (lv_at hl 0 rfl) ?_
    refine gf_X9_45 C hG rfl dX9_circles_14 ?_
    refine lv_iload_n C.1 C.2.1 dX9_circles_17 rfl (lv_at hl 2 rfl) ?_
    obtain ⟨v2, hv2, hf⟩ := of_bind hf
    obtain ⟨bv2, ev2⟩ := of_ldS hv2
    refine r_iald C hG (c0 := 12) (by decide) (entM_I (n := 48) rfl) bv2 dX9_circles_18 ?_
    refine r_top ev2 ?_
    refine lv_iconst (v := nI 3) C.1 C.2.1 dX9_circles_19 (by decide) ?_
    obtain ⟨v3, hv3, hf⟩ := of_bind hf
    refine r_callS1 C hG hl.1 (As := [.int st.1, .int v2, .int (nI 3)]) (mt_X9_behind l  hv3) (va_cwS 3 C.2.2.2.2.1 (gd_S tg_5_92 tg_5_93 tg_1_10 tg_5_94) rfl rfl rfl cd_X9_behind.2 ⟨Nat.le_of_ble_eq_true rfl, Nat.le_of_ble_eq_true rfl⟩) rfl rfl (Nat.le_of_ble_eq_true rfl) dX9_circles_20 (fun H locs hG => ?_)
    refine lv_istore_n (lv' := [(1, .int v3), (0, .ref (B + 0)), (2, .int st.2)]) C.1 C.2.1 dX9_circles_23 rfl hl (by decide) rfl (fun ls hl => ?_)
    obtain ⟨v4, ev4, hf⟩ := of_letv hf
    refine lv_iinc (v := v4) (lv' := [(2, .int v4), (1, .int v3), (0, .ref (B + 0))]) C.1 C.2.1 dX9_circles_24 hl (k := 2) rfl (by rw [ev4, show Int32.ofInt (1) = nI 1 from by decide]) (by decide) rfl (fun ls hl => ?_)
    refine lv_goto (tgt := 4) C.1 C.2.1 dX9_circles_27 (by decide) ?_
    obtain rfl := Option.some.inj hf
    exact kL _ rfl _ _ _ hG (lv_sub hl [2, 1, 0] rfl)
set_option maxRecDepth 100000 in
set_option maxHeartbeats 4000000 in
theorem kl_X9_circles_4 {w : Mem} (C : CX p s m args meth c cX9_circles 3 RX9 wc_X9_circles (some .int))  : ∀ (n : Nat) (st : Int32 × Int32) (x : (Int32)) (H : Heap) (locs : List Loc) (ls : Array Slot), Gd s G A 28 B (entM G B w) X H locs → lv_has ls 3 [(0, .ref (B + 0)), (1, .int st.1), (2, .int st.2)] → lpw (sh_X9_circles_s4 w) n st = some x →
    (∀ y' : Int32, x = y' → ∀ (H : Heap) (locs : List Loc) (ls : Array Slot), Gd s G A 28 B (entM G B w) X H locs → lv_has ls 3 [(1, .int y')] → W p l e rm_X9_circles s m args below meth c H locs 0 0 Q (F0 m 30 ls [])) → W p l e rm_X9_circles s m args below meth c H locs 0 0 Q (F0 m 4 ls []) := by
  intro n
  induction n with
  | zero =>
    intro st x H locs ls hG hl hf
    cases hf
  | succ n ih =>
    intro st x H locs ls hG hl hf kX0
    obtain ⟨r, hr, hh⟩ := of_lpw hf
    refine kb_X9_circles_4 C  hG hl hr (fun st2 e1 H locs ls hG hl => ?_) (fun y2 e1 H locs ls hG hl => ?_)
    · rcases hh with ⟨s3, e2, hh⟩ | e2
      · rw [e2] at e1
        cases e1
        exact ih _ _ _ _ _ hG hl hh kX0
      · rw [e2] at e1
        cases e1
    · rcases hh with ⟨s3, e2, hh⟩ | e2
      · rw [e2] at e1
        cases e1
      · rw [e2] at e1
        cases e1
        exact kX0 _ rfl _ _ _ hG hl
set_option maxRecDepth 100000 in
set_option maxHeartbeats 4000000 in
theorem kb_X9_circles_0 {w : Mem} {out : Int32} {H : Heap} {locs : List Loc} {ls : Array Slot} (C : CX p s m args meth c cX9_circles 3 RX9 wc_X9_circles (some .int))  (hG : Gd s G A 28 B (entM G B w) X H locs) (hl : lv_has ls 3 [(0, .ref (B + 0))]) (hf : sh_X9_circles w = some out) :
    W p l e rm_X9_circles s m args below meth c H locs 0 0 (MQ below (CPost G A 28 B (entM G B w) X (some (.int out))) args s 0 0 A) (F0 m 0 ls []) := by
  refine lv_iconst (v := nI 0) C.1 C.2.1 dX9_circles_0 (by decide) ?_
  refine lv_istore_n (lv' := [(1, .int (nI 0)), (0, .ref (B + 0))]) C.1 C.2.1 dX9_circles_1 rfl hl (by decide) rfl (fun ls hl => ?_)
  refine lv_iconst (v := nI 0) C.1 C.2.1 dX9_circles_2 (by decide) ?_
  refine lv_istore_n (lv' := [(2, .int (nI 0)), (1, .int (nI 0)), (0, .ref (B + 0))]) C.1 C.2.1 dX9_circles_3 rfl hl (by decide) rfl (fun ls hl => ?_)
  obtain ⟨ex1, hex1, hf⟩ := of_bind hf
  refine kl_X9_circles_4 C  FU (nI 0, nI 0) ex1 _ _ _ hG (lv_sub hl [2, 1, 0] rfl) hex1 (fun y e0 H locs ls hG hl => ?_)
  subst e0
  refine lv_iload_n C.1 C.2.1 dX9_circles_30 rfl (lv_at hl 0 rfl) ?_
  obtain rfl := Option.some.inj hf
  exact r_iret C hG dX9_circles_31
set_option maxRecDepth 100000 in
set_option maxHeartbeats 4000000 in
theorem mt_X9_circles (l : Launch) {G : GG} {A : Nat → Prop} {B : Nat} {X : va_W} {w : Mem} {out : Int32}  (hf : sh_X9_circles w = some out) : MetW l yX9_circles wc_X9_circles rm_X9_circles G A 28 B (entM G B w) X [.ref (B + 0)] (some (.int out)) (entM G B w) := by
  refine Met.ofW (cc := cX9_circles) (maxL := 3) (ret := (some .int)) (by decide) rfl ?_
  intro p e s m args below meth c s₁ B0 hml hv
  obtain ⟨rfl, hEv, hWd⟩ := hv
  have C : CX p s m _ meth c cX9_circles 3 RX9 wc_X9_circles (some .int) := ⟨B0.exec, B0.bytes, hml, findClass_of_methodNamed B0.named, atoms_spec (ws := wc_X9_circles) B0.pre, B0.returns, B0.notSynchronized⟩
  have hl := lv_entry [.ref (B + 0)] (n := 3) (Nat.le_of_ble_eq_true rfl)
  rw [lg_entry_eq]
  generalize (lg_sl [.ref (B + 0)] ++ List.replicate (3 - (lg_sl [.ref (B + 0)]).length) Slot.unset).toArray = ls at hl ⊢
  have hl : lv_has ls 3 [(0, .ref (B + 0))] := hl
  exact kb_X9_circles_0 C  ⟨hEv, hWd, va_S.rf⟩ hl hf
abbrev wc_X9_canStand : List Cond := Cond.code yX9_canStand cX9_canStand 2 (some .boolean) :: TG
abbrev rm_X9_canStand : Room := { frames := 4, cells := 0, slots := 0, locals := 146 }
theorem cd_X9_canStand : yX9_canStand.cls = RX9 ∧ yX9_canStand.cls ≠ "java/lang/invoke/MethodHandle" ∧ yX9_canStand.cls ≠ "java/lang/invoke/VarHandle" ∧ (parseMethodDescriptor yX9_canStand.desc).map (fun d => d.parameters.length) = some 1 := by decide +kernel
theorem dX9_canStand_0 : decode cX9_canStand 0 = .ok (.aload_n 0, 1) := by decide +kernel
theorem dX9_canStand_1 : decode cX9_canStand 1 = .ok (.invokevirtual 176, 3) := by decide +kernel
theorem dX9_canStand_4 : decode cX9_canStand 4 = .ok (.iload_n 1, 1) := by decide +kernel
theorem dX9_canStand_5 : decode cX9_canStand 5 = .ok (.iconst 3, 1) := by decide +kernel
theorem dX9_canStand_6 : decode cX9_canStand 6 = .ok (.invokestatic 173, 3) := by decide +kernel
theorem dX9_canStand_9 : decode cX9_canStand 9 = .ok (.ifCond .lt 7, 3) := by decide +kernel
theorem dX9_canStand_12 : decode cX9_canStand 12 = .ok (.iconst 1, 1) := by decide +kernel
theorem dX9_canStand_13 : decode cX9_canStand 13 = .ok (.goto 4, 3) := by decide +kernel
theorem dX9_canStand_16 : decode cX9_canStand 16 = .ok (.iconst 0, 1) := by decide +kernel
theorem dX9_canStand_17 : decode cX9_canStand 17 = .ok (.ireturn, 1) := by decide +kernel
set_option maxRecDepth 100000 in
set_option maxHeartbeats 4000000 in
theorem kb_X9_canStand_0 {x1 : Int32} {w : Mem} {out : Int32} {H : Heap} {locs : List Loc} {ls : Array Slot} (C : CX p s m args meth c cX9_canStand 2 RX9 wc_X9_canStand (some .boolean))  (hG : Gd s G A 28 B (entM G B w) X H locs) (hl : lv_has ls 2 [(0, .ref (B + 0)), (1, .int x1)]) (hf : sh_X9_canStand x1 w = some out) :
    W p l e rm_X9_canStand s m args below meth c H locs 0 0 (MQ below (CPost G A 28 B (entM G B w) X (some (.int out))) args s 0 0 A) (F0 m 0 ls []) := by
  refine lv_aload_n C.1 C.2.1 dX9_canStand_0 rfl (lv_at hl 0 rfl) ?_
  obtain ⟨v1, hv1, hf⟩ := of_bind hf
  refine r_callV1 C hG hl.1 (c0 := 0) (As := []) (by decide) (entM_O (n := 35) rfl) rfl (mt_X9_circles l  hv1) (cwV 0 C.2.2.2.2.1 (gd_V tg_5_88 tg_5_90 tgp_41 tg_1_10 tg_5_91) rfl rfl rfl cd_X9_circles ⟨Nat.le_of_ble_eq_true rfl, Nat.le_of_ble_eq_true rfl⟩) rfl rfl (Nat.le_of_ble_eq_true rfl) dX9_canStand_1 (fun H locs hG => ?_)
  refine lv_iload_n C.1 C.2.1 dX9_canStand_4 rfl (lv_at hl 1 rfl) ?_
  refine lv_iconst (v := nI 3) C.1 C.2.1 dX9_canStand_5 (by decide) ?_
  obtain ⟨v2, hv2, hf⟩ := of_bind hf
  refine r_callS1 C hG hl.1 (As := [.int v1, .int x1, .int (nI 3)]) (mt_X9_behind l  hv2) (va_cwS 3 C.2.2.2.2.1 (gd_S tg_5_92 tg_5_93 tg_1_10 tg_5_94) rfl rfl rfl cd_X9_behind.2 ⟨Nat.le_of_ble_eq_true rfl, Nat.le_of_ble_eq_true rfl⟩) rfl rfl (Nat.le_of_ble_eq_true rfl) dX9_canStand_6 (fun H locs hG => ?_)
  rcases of_ite hf with ⟨c3, hf⟩ | ⟨c3, hf⟩
  · refine lv_if_lt (tgt := 16) C.1 C.2.1 dX9_canStand_9 (by decide) (fun _ => ?_) (fun q => absurd c3 q)
    refine lv_iconst (v := nI 0) C.1 C.2.1 dX9_canStand_16 (by decide) ?_
    obtain rfl := Option.some.inj hf
    exact r_zret C hG (Or.inl rfl) dX9_canStand_17
  · refine lv_if_lt (tgt := 16) C.1 C.2.1 dX9_canStand_9 (by decide) (fun q => absurd q c3) (fun _ => ?_)
    refine lv_iconst (v := nI 1) C.1 C.2.1 dX9_canStand_12 (by decide) ?_
    refine lv_goto (tgt := 17) C.1 C.2.1 dX9_canStand_13 (by decide) ?_
    obtain rfl := Option.some.inj hf
    exact r_zret C hG (Or.inr rfl) dX9_canStand_17
set_option maxRecDepth 100000 in
set_option maxHeartbeats 4000000 in
theorem mt_X9_canStand (l : Launch) {G : GG} {A : Nat → Prop} {B : Nat} {X : va_W} {x1 : Int32} {w : Mem} {out : Int32}  (hf : sh_X9_canStand x1 w = some out) : MetW l yX9_canStand wc_X9_canStand rm_X9_canStand G A 28 B (entM G B w) X [.ref (B + 0), .int x1] (some (.int out)) (entM G B w) := by
  refine Met.ofW (cc := cX9_canStand) (maxL := 2) (ret := (some .boolean)) (by decide) rfl ?_
  intro p e s m args below meth c s₁ B0 hml hv
  obtain ⟨rfl, hEv, hWd⟩ := hv
  have C : CX p s m _ meth c cX9_canStand 2 RX9 wc_X9_canStand (some .boolean) := ⟨B0.exec, B0.bytes, hml, findClass_of_methodNamed B0.named, atoms_spec (ws := wc_X9_canStand) B0.pre, B0.returns, B0.notSynchronized⟩
  have hl := lv_entry [.ref (B + 0), .int x1] (n := 2) (Nat.le_of_ble_eq_true rfl)
  rw [lg_entry_eq]
  generalize (lg_sl [.ref (B + 0), .int x1] ++ List.replicate (2 - (lg_sl [.ref (B + 0), .int x1]).length) Slot.unset).toArray = ls at hl ⊢
  have hl : lv_has ls 2 [(0, .ref (B + 0)), (1, .int x1)] := hl
  exact kb_X9_canStand_0 C  ⟨hEv, hWd, va_S.rf⟩ hl hf
abbrev wc_X9_adds : List Cond := Cond.code yX9_adds cX9_adds 2 none :: TG
abbrev rm_X9_adds : Room := { frames := 2, cells := 0, slots := 0, locals := 100 }
theorem cd_X9_adds : yX9_adds.cls = RX9 ∧ yX9_adds.cls ≠ "java/lang/invoke/MethodHandle" ∧ yX9_adds.cls ≠ "java/lang/invoke/VarHandle" ∧ (parseMethodDescriptor yX9_adds.desc).map (fun d => d.parameters.length) = some 1 := by decide +kernel
theorem dX9_adds_0 : decode cX9_adds 0 = .ok (.aload_n 0, 1) := by decide +kernel
theorem dX9_adds_1 : decode cX9_adds 1 = .ok (.getfield 45, 3) := by decide +kernel
theorem dX9_adds_4 : decode cX9_adds 4 = .ok (.aload_n 0, 1) := by decide +kernel
theorem dX9_adds_5 : decode cX9_adds 5 = .ok (.getfield 170, 3) := by decide +kernel
theorem dX9_adds_8 : decode cX9_adds 8 = .ok (.iload_n 1, 1) := by decide +kernel
theorem dX9_adds_9 : decode cX9_adds 9 = .ok (.iastore, 1) := by decide +kernel
theorem dX9_adds_10 : decode cX9_adds 10 = .ok (.aload_n 0, 1) := by decide +kernel
theorem dX9_adds_11 : decode cX9_adds 11 = .ok (.dup, 1) := by decide +kernel
theorem dX9_adds_12 : decode cX9_adds 12 = .ok (.getfield 170, 3) := by decide +kernel
theorem dX9_adds_15 : decode cX9_adds 15 = .ok (.iconst 1, 1) := by decide +kernel
theorem dX9_adds_16 : decode cX9_adds 16 = .ok (.iadd, 1) := by decide +kernel
theorem dX9_adds_17 : decode cX9_adds 17 = .ok (.putfield 170, 3) := by decide +kernel
theorem dX9_adds_20 : decode cX9_adds 20 = .ok (.return_, 1) := by decide +kernel
set_option maxRecDepth 100000 in
set_option maxHeartbeats 4000000 in
theorem kb_X9_adds_0 {x1 : Int32} {w : Mem} {out : Mem} {H : Heap} {locs : List Loc} {ls : Array Slot} (C : CX p s m args meth c cX9_adds 2 RX9 wc_X9_adds none)  (hG : Gd s G A 28 B (entM G B w) X H locs) (hl : lv_has ls 2 [(0, .ref (B + 0)), (1, .int x1)]) (hf : sh_X9_adds x1 w = some out) :
    W p l e rm_X9_adds s m args below meth c H locs 0 0 (MQ below (CPost G A 28 B (entM G B out) X none) args s 0 0 A) (F0 m 0 ls []) := by
  refine lv_aload_n C.1 C.2.1 dX9_adds_0 rfl (lv_at hl 0 rfl) ?_
  refine gf_X9_45 C hG rfl dX9_adds_1 ?_
  refine lv_aload_n C.1 C.2.1 dX9_adds_4 rfl (lv_at hl 0 rfl) ?_
  refine gf_X9_170 C hG rfl dX9_adds_5 ?_
  refine lv_iload_n C.1 C.2.1 dX9_adds_8 rfl (lv_at hl 1 rfl) ?_
  obtain ⟨w1, hw1, hf⟩ := of_bind hf
  obtain ⟨bw1, ew1⟩ := of_stM hw1
  refine r_iast C hG (c0 := 12) (by decide) (entM_I (n := 48) rfl) bw1 (E' := (entM G B w1)) (by rw [ew1]; exact upM_I (n := 48) rfl) dX9_adds_9 (fun H locs hG => ?_)
  refine lv_aload_n C.1 C.2.1 dX9_adds_10 rfl (lv_at hl 0 rfl) ?_
  refine lv_dup C.1 C.2.1 dX9_adds_11 rfl ?_
  refine gf_X9_170 C hG rfl dX9_adds_12 ?_
  refine lv_iconst (v := nI 1) C.1 C.2.1 dX9_adds_15 (by decide) ?_
  refine lv_iadd C.1 C.2.1 dX9_adds_16 ?_
  obtain ⟨w2, ew2, hf⟩ := of_letv hf
  refine pf_X9_170 C hG rfl dX9_adds_17 (fun H locs hG => ?_)
  rw [← ew2] at hG
  obtain rfl := Option.some.inj hf
  exact r_vret C hG dX9_adds_20
set_option maxRecDepth 100000 in
set_option maxHeartbeats 4000000 in
theorem mt_X9_adds (l : Launch) {G : GG} {A : Nat → Prop} {B : Nat} {X : va_W} {x1 : Int32} {w : Mem} {out : Mem}  (hf : sh_X9_adds x1 w = some out) : MetW l yX9_adds wc_X9_adds rm_X9_adds G A 28 B (entM G B w) X [.ref (B + 0), .int x1] none (entM G B out) := by
  refine Met.ofW (cc := cX9_adds) (maxL := 2) (ret := none) (by decide) rfl ?_
  intro p e s m args below meth c s₁ B0 hml hv
  obtain ⟨rfl, hEv, hWd⟩ := hv
  have C : CX p s m _ meth c cX9_adds 2 RX9 wc_X9_adds none := ⟨B0.exec, B0.bytes, hml, findClass_of_methodNamed B0.named, atoms_spec (ws := wc_X9_adds) B0.pre, B0.returns, B0.notSynchronized⟩
  have hl := lv_entry [.ref (B + 0), .int x1] (n := 2) (Nat.le_of_ble_eq_true rfl)
  rw [lg_entry_eq]
  generalize (lg_sl [.ref (B + 0), .int x1] ++ List.replicate (2 - (lg_sl [.ref (B + 0), .int x1]).length) Slot.unset).toArray = ls at hl ⊢
  have hl : lv_has ls 2 [(0, .ref (B + 0)), (1, .int x1)] := hl
  exact kb_X9_adds_0 C  ⟨hEv, hWd, va_S.rf⟩ hl hf
abbrev wc_X9_letterOf : List Cond := Cond.code yX9_letterOf cX9_letterOf 1 (some .int) :: TG
abbrev rm_X9_letterOf : Room := { frames := 2, cells := 0, slots := 0, locals := 100 }
theorem cd_X9_letterOf : yX9_letterOf.cls = RX9 ∧ yX9_letterOf.cls ≠ "java/lang/invoke/MethodHandle" ∧ yX9_letterOf.cls ≠ "java/lang/invoke/VarHandle" ∧ (parseMethodDescriptor yX9_letterOf.desc).map (fun d => d.parameters.length) = some 1 := by decide +kernel
theorem dX9_letterOf_0 : decode cX9_letterOf 0 = .ok (.iload_n 0, 1) := by decide +kernel
theorem dX9_letterOf_1 : decode cX9_letterOf 1 = .ok (.tableswitch 57 0 5 #[39, 42, 45, 48, 51, 54], 39) := by decide +kernel
theorem dX9_letterOf_40 : decode cX9_letterOf 40 = .ok (.bipush 111, 2) := by decide +kernel
theorem dX9_letterOf_42 : decode cX9_letterOf 42 = .ok (.ireturn, 1) := by decide +kernel
theorem dX9_letterOf_43 : decode cX9_letterOf 43 = .ok (.bipush 109, 2) := by decide +kernel
theorem dX9_letterOf_45 : decode cX9_letterOf 45 = .ok (.ireturn, 1) := by decide +kernel
theorem dX9_letterOf_46 : decode cX9_letterOf 46 = .ok (.bipush 119, 2) := by decide +kernel
theorem dX9_letterOf_48 : decode cX9_letterOf 48 = .ok (.ireturn, 1) := by decide +kernel
theorem dX9_letterOf_49 : decode cX9_letterOf 49 = .ok (.bipush 99, 2) := by decide +kernel
theorem dX9_letterOf_51 : decode cX9_letterOf 51 = .ok (.ireturn, 1) := by decide +kernel
theorem dX9_letterOf_52 : decode cX9_letterOf 52 = .ok (.bipush 120, 2) := by decide +kernel
theorem dX9_letterOf_54 : decode cX9_letterOf 54 = .ok (.ireturn, 1) := by decide +kernel
theorem dX9_letterOf_55 : decode cX9_letterOf 55 = .ok (.bipush 104, 2) := by decide +kernel
theorem dX9_letterOf_57 : decode cX9_letterOf 57 = .ok (.ireturn, 1) := by decide +kernel
theorem dX9_letterOf_58 : decode cX9_letterOf 58 = .ok (.bipush 107, 2) := by decide +kernel
theorem dX9_letterOf_60 : decode cX9_letterOf 60 = .ok (.ireturn, 1) := by decide +kernel
set_option maxRecDepth 100000 in
set_option maxHeartbeats 4000000 in
theorem kb_X9_letterOf_0 {x0 : Int32} {out : Int32} {H : Heap} {locs : List Loc} {ls : Array Slot} (C : CX p s m args meth c cX9_letterOf 1 RX9 wc_X9_letterOf (some .int))  (hG : Gd s G A N B E X H locs) (hl : lv_has ls 1 [(0, .int x0)]) (hf : sh_X9_letterOf x0 = some out) :
    W p l e rm_X9_letterOf s m args below meth c H locs 0 0 (MQ below (CPost G A N B E X (some (.int out))) args s 0 0 A) (F0 m 0 ls []) := by
  refine lv_iload_n C.1 C.2.1 dX9_letterOf_0 rfl (lv_at hl 0 rfl) ?_
  rcases of_ite hf with ⟨c1, hf⟩ | ⟨c1, hf⟩
  · refine lv_tableIn (tgt := 40) (off := 39) C.1 C.2.1 dX9_letterOf_1 (by rw [c1]; decide) (by rw [c1]; decide) (by rw [c1]; rfl) (by decide) ?_
    refine lv_bipush (v := nI 111) C.1 C.2.1 dX9_letterOf_40 (by decide) ?_
    obtain rfl := Option.some.inj hf
    exact r_iret C hG dX9_letterOf_42
  · skip
    rcases of_ite hf with ⟨c2, hf⟩ | ⟨c2, hf⟩
    · refine lv_tableIn (tgt := 43) (off := 42) C.1 C.2.1 dX9_letterOf_1 (by rw [c2]; decide) (by rw [c2]; decide) (by rw [c2]; rfl) (by decide) ?_
      refine lv_bipush (v := nI 109) C.1 C.2.1 dX9_letterOf_43 (by decide) ?_
      obtain rfl := Option.some.inj hf
      exact r_iret C hG dX9_letterOf_45
    · skip
      rcases of_ite hf with ⟨c3, hf⟩ | ⟨c3, hf⟩
      · refine lv_tableIn (tgt := 46) (off := 45) C.1 C.2.1 dX9_letterOf_1 (by rw [c3]; decide) (by rw [c3]; decide) (by rw [c3]; rfl) (by decide) ?_
        refine lv_bipush (v := nI 119) C.1 C.2.1 dX9_letterOf_46 (by decide) ?_
        obtain rfl := Option.some.inj hf
        exact r_iret C hG dX9_letterOf_48
      · skip
        rcases of_ite hf with ⟨c4, hf⟩ | ⟨c4, hf⟩
        · refine lv_tableIn (tgt := 49) (off := 48) C.1 C.2.1 dX9_letterOf_1 (by rw [c4]; decide) (by rw [c4]; decide) (by rw [c4]; rfl) (by decide) ?_
          refine lv_bipush (v := nI 99) C.1 C.2.1 dX9_letterOf_49 (by decide) ?_
          obtain rfl := Option.some.inj hf
          exact r_iret C hG dX9_letterOf_51
        · skip
          rcases of_ite hf with ⟨c5, hf⟩ | ⟨c5, hf⟩
          · refine lv_tableIn (tgt := 52) (off := 51) C.1 C.2.1 dX9_letterOf_1 (by rw [c5]; decide) (by rw [c5]; decide) (by rw [c5]; rfl) (by decide) ?_
            refine lv_bipush (v := nI 120) C.1 C.2.1 dX9_letterOf_52 (by decide) ?_
            obtain rfl := Option.some.inj hf
            exact r_iret C hG dX9_letterOf_54
          · skip
            rcases of_ite hf with ⟨c6, hf⟩ | ⟨c6, hf⟩
            · refine lv_tableIn (tgt := 55) (off := 54) C.1 C.2.1 dX9_letterOf_1 (by rw [c6]; decide) (by rw [c6]; decide) (by rw [c6]; rfl) (by decide) ?_
              refine lv_bipush (v := nI 104) C.1 C.2.1 dX9_letterOf_55 (by decide) ?_
              obtain rfl := Option.some.inj hf
              exact r_iret C hG dX9_letterOf_57
            · skip
              refine lv_tableOut (tgt := 58) C.1 C.2.1 dX9_letterOf_1 (sw_out (n := 6) (by decide) (lt_s (lt_s (lt_s (lt_s (lt_s (lt_s lt_0 c1) c2) c3) c4) c5) c6)) (by decide) ?_
              refine lv_bipush (v := nI 107) C.1 C.2.1 dX9_letterOf_58 (by decide) ?_
              obtain rfl := Option.some.inj hf
              exact r_iret C hG dX9_letterOf_60
set_option maxRecDepth 100000 in
set_option maxHeartbeats 4000000 in
theorem mt_X9_letterOf (l : Launch) {G : GG} {A : Nat → Prop} {N B : Nat} {E : Nat → va_E} {X : va_W} {x0 : Int32} {out : Int32}  (hf : sh_X9_letterOf x0 = some out) : MetW l yX9_letterOf wc_X9_letterOf rm_X9_letterOf G A N B E X [.int x0] (some (.int out)) E := by
  refine Met.ofW (cc := cX9_letterOf) (maxL := 1) (ret := (some .int)) (by decide) rfl ?_
  intro p e s m args below meth c s₁ B0 hml hv
  obtain ⟨rfl, hEv, hWd⟩ := hv
  have C : CX p s m _ meth c cX9_letterOf 1 RX9 wc_X9_letterOf (some .int) := ⟨B0.exec, B0.bytes, hml, findClass_of_methodNamed B0.named, atoms_spec (ws := wc_X9_letterOf) B0.pre, B0.returns, B0.notSynchronized⟩
  have hl := lv_entry [.int x0] (n := 1) (Nat.le_of_ble_eq_true rfl)
  rw [lg_entry_eq]
  generalize (lg_sl [.int x0] ++ List.replicate (1 - (lg_sl [.int x0]).length) Slot.unset).toArray = ls at hl ⊢
  have hl : lv_has ls 1 [(0, .int x0)] := hl
  exact kb_X9_letterOf_0 C  ⟨hEv, hWd, va_S.rf⟩ hl hf
abbrev wc_X9_pieceBy : List Cond := Cond.code yX9_pieceBy cX9_pieceBy 2 (some .int) :: TG
abbrev rm_X9_pieceBy : Room := { frames := 3, cells := 0, slots := 0, locals := 120 }
theorem cd_X9_pieceBy : yX9_pieceBy.cls = RX9 ∧ yX9_pieceBy.cls ≠ "java/lang/invoke/MethodHandle" ∧ yX9_pieceBy.cls ≠ "java/lang/invoke/VarHandle" ∧ (parseMethodDescriptor yX9_pieceBy.desc).map (fun d => d.parameters.length) = some 1 := by decide +kernel
theorem dX9_pieceBy_0 : decode cX9_pieceBy 0 = .ok (.iconst 0, 1) := by decide +kernel
theorem dX9_pieceBy_1 : decode cX9_pieceBy 1 = .ok (.istore_n 1, 1) := by decide +kernel
theorem dX9_pieceBy_2 : decode cX9_pieceBy 2 = .ok (.iload_n 1, 1) := by decide +kernel
theorem dX9_pieceBy_3 : decode cX9_pieceBy 3 = .ok (.bipush 7, 2) := by decide +kernel
theorem dX9_pieceBy_5 : decode cX9_pieceBy 5 = .ok (.if_icmp .ge 19, 3) := by decide +kernel
theorem dX9_pieceBy_8 : decode cX9_pieceBy 8 = .ok (.iload_n 1, 1) := by decide +kernel
theorem dX9_pieceBy_9 : decode cX9_pieceBy 9 = .ok (.invokestatic 180, 3) := by decide +kernel
theorem dX9_pieceBy_12 : decode cX9_pieceBy 12 = .ok (.iload_n 0, 1) := by decide +kernel
theorem dX9_pieceBy_13 : decode cX9_pieceBy 13 = .ok (.if_icmp .ne 5, 3) := by decide +kernel
theorem dX9_pieceBy_16 : decode cX9_pieceBy 16 = .ok (.iload_n 1, 1) := by decide +kernel
theorem dX9_pieceBy_17 : decode cX9_pieceBy 17 = .ok (.ireturn, 1) := by decide +kernel
theorem dX9_pieceBy_18 : decode cX9_pieceBy 18 = .ok (.iinc 1 1, 3) := by decide +kernel
theorem dX9_pieceBy_21 : decode cX9_pieceBy 21 = .ok (.goto (-19), 3) := by decide +kernel
theorem dX9_pieceBy_24 : decode cX9_pieceBy 24 = .ok (.iconst (-1), 1) := by decide +kernel
theorem dX9_pieceBy_25 : decode cX9_pieceBy 25 = .ok (.ireturn, 1) := by decide +kernel
set_option maxRecDepth 100000 in
set_option maxHeartbeats 4000000 in
theorem kb_X9_pieceBy_2 {x0 : Int32} {st : Int32} {r : (Int32) ⊕ ((Int32) ⊕ (Unit))} {H : Heap} {locs : List Loc} {ls : Array Slot} (C : CX p s m args meth c cX9_pieceBy 2 RX9 wc_X9_pieceBy (some .int))  (hG : Gd s G A N B E X H locs) (hl : lv_has ls 2 [(0, .int x0), (1, .int st)]) (hf : sh_X9_pieceBy_s2 x0 st = some r)
    (kL : ∀ st' : Int32, r = Sum.inl st' → ∀ (H : Heap) (locs : List Loc) (ls : Array Slot), Gd s G A N B E X H locs → lv_has ls 2 [(0, .int x0), (1, .int st')] → W p l e rm_X9_pieceBy s m args below meth c H locs 0 0 Q (F0 m 2 ls []))
    (kX0 : ∀ y' : Int32, r = Sum.inr (Sum.inl y') → ∀ (H : Heap) (locs : List Loc) (ls : Array Slot), Gd s G A N B E X H locs → lv_has ls 2 [(1, .int y')] → W p l e rm_X9_pieceBy s m args below meth c H locs 0 0 Q (F0 m 16 ls []))
    (kX1 : ∀ y' : Unit, r = Sum.inr (Sum.inr y') → ∀ (H : Heap) (locs : List Loc) (ls : Array Slot), Gd s G A N B E X H locs → lv_has ls 2 [] → W p l e rm_X9_pieceBy s m args below meth c H locs 0 0 Q (F0 m 24 ls [])) :
    W p l e rm_X9_pieceBy s m args below meth c H locs 0 0 Q (F0 m 2 ls []) := by
  refine lv_iload_n C.1 C.2.1 dX9_pieceBy_2 rfl (lv_at hl 1 rfl) ?_
  refine lv_bipush (v := nI 7) C.1 C.2.1 dX9_pieceBy_3 (by decide) ?_
  rcases of_ite hf with ⟨c1, hf⟩ | ⟨c1, hf⟩
  · refine lv_icmp_ge (tgt := 24) C.1 C.2.1 dX9_pieceBy_5 (by decide) (fun _ => ?_) (fun q => absurd c1 q)
    obtain rfl := Option.some.inj hf
    exact kX1 _ rfl _ _ _ hG (lv_sub hl [] rfl)
  · refine lv_icmp_ge (tgt := 24) C.1 C.2.1 dX9_pieceBy_5 (by decide) (fun q => absurd q c1) (fun _ => ?_)
    refine lv_iload_n C.1 C.2.1 dX9_pieceBy_8 rfl (lv_at hl 1 rfl) ?_
    obtain ⟨v2, hv2, hf⟩ := of_bind hf
    refine r_callS1 C hG hl.1 (As := [.int st]) (mt_X9_letterOf l  hv2) (va_cwS 1 C.2.2.2.2.1 (gd_S tg_5_75 tg_5_76 tg_1_10 tg_5_77) rfl rfl rfl cd_X9_letterOf.2 ⟨Nat.le_of_ble_eq_true rfl, Nat.le_of_ble_eq_true rfl⟩) rfl rfl (Nat.le_of_ble_eq_true rfl) dX9_pieceBy_9 (fun H locs hG => ?_)
    refine lv_iload_n C.1 C.2.1 dX9_pieceBy_12 rfl (lv_at hl 0 rfl) ?_
    rcases of_ite hf with ⟨c3, hf⟩ | ⟨c3, hf⟩
    · refine lv_icmp_ne (tgt := 18) C.1 C.2.1 dX9_pieceBy_13 (by decide) (fun q => absurd c3 q) (fun _ => ?_)
      obtain rfl := Option.some.inj hf
      exact kX0 _ rfl _ _ _ hG (lv_sub hl [1] rfl)
    · refine lv_icmp_ne (tgt := 18) C.1 C.2.1 dX9_pieceBy_13 (by decide) (fun _ => ?_) (fun q => absurd q c3)
      obtain ⟨v4, ev4, hf⟩ := of_letv hf
      refine lv_iinc (v := v4) (lv' := [(1, .int v4), (0, .int x0)]) C.1 C.2.1 dX9_pieceBy_18 hl (k := 1) rfl (by rw [ev4, show Int32.ofInt (1) = nI 1 from by decide]) (by decide) rfl (fun ls hl => ?_)
      refine lv_goto (tgt := 2) C.1 C.2.1 dX9_pieceBy_21 (by decide) ?_
      obtain rfl := Option.some.inj hf
      exact kL _ rfl _ _ _ hG (lv_sub hl [1, 0] rfl)
set_option maxRecDepth 100000 in
set_option maxHeartbeats 4000000 in
theorem kl_X9_pieceBy_2 {x0 : Int32} (C : CX p s m args meth c cX9_pieceBy 2 RX9 wc_X9_pieceBy (some .int))  : ∀ (n : Nat) (st : Int32) (x : (Int32) ⊕ (Unit)) (H : Heap) (locs : List Loc) (ls : Array Slot), Gd s G A N B E X H locs → lv_has ls 2 [(0, .int x0), (1, .int st)] → lpw (sh_X9_pieceBy_s2 x0) n st = some x →
    (∀ y' : Int32, x = (Sum.inl y') → ∀ (H : Heap) (locs : List Loc) (ls : Array Slot), Gd s G A N B E X H locs → lv_has ls 2 [(1, .int y')] → W p l e rm_X9_pieceBy s m args below meth c H locs 0 0 Q (F0 m 16 ls [])) →
    (∀ y' : Unit, x = (Sum.inr y') → ∀ (H : Heap) (locs : List Loc) (ls : Array Slot), Gd s G A N B E X H locs → lv_has ls 2 [] → W p l e rm_X9_pieceBy s m args below meth c H locs 0 0 Q (F0 m 24 ls [])) → W p l e rm_X9_pieceBy s m args below meth c H locs 0 0 Q (F0 m 2 ls []) := by
  intro n
  induction n with
  | zero =>
    intro st x H locs ls hG hl hf
    cases hf
  | succ n ih =>
    intro st x H locs ls hG hl hf kX0 kX1
    obtain ⟨r, hr, hh⟩ := of_lpw hf
    refine kb_X9_pieceBy_2 C  hG hl hr (fun st2 e1 H locs ls hG hl => ?_) (fun y2 e1 H locs ls hG hl => ?_) (fun y2 e1 H locs ls hG hl => ?_)
    · rcases hh with ⟨s3, e2, hh⟩ | e2
      · rw [e2] at e1
        cases e1
        exact ih _ _ _ _ _ hG hl hh kX0 kX1
      · rw [e2] at e1
        cases e1
    · rcases hh with ⟨s3, e2, hh⟩ | e2
      · rw [e2] at e1
        cases e1
      · rw [e2] at e1
        cases e1
        exact kX0 _ rfl _ _ _ hG hl
    · rcases hh with ⟨s3, e2, hh⟩ | e2
      · rw [e2] at e1
        cases e1
      · rw [e2] at e1
        cases e1
        exact kX1 _ rfl _ _ _ hG hl
set_option maxRecDepth 100000 in
set_option maxHeartbeats 4000000 in
theorem kb_X9_pieceBy_0 {x0 : Int32} {out : Int32} {H : Heap} {locs : List Loc} {ls : Array Slot} (C : CX p s m args meth c cX9_pieceBy 2 RX9 wc_X9_pieceBy (some .int))  (hG : Gd s G A N B E X H locs) (hl : lv_has ls 2 [(0, .int x0)]) (hf : sh_X9_pieceBy x0 = some out) :
    W p l e rm_X9_pieceBy s m args below meth c H locs 0 0 (MQ below (CPost G A N B E X (some (.int out))) args s 0 0 A) (F0 m 0 ls []) := by
  refine lv_iconst (v := nI 0) C.1 C.2.1 dX9_pieceBy_0 (by decide) ?_
  refine lv_istore_n (lv' := [(1, .int (nI 0)), (0, .int x0)]) C.1 C.2.1 dX9_pieceBy_1 rfl hl (by decide) rfl (fun ls hl => ?_)
  obtain ⟨ex1, hex1, hf⟩ := of_bind hf
  refine kl_X9_pieceBy_2 C  FU (nI 0) ex1 _ _ _ hG (lv_sub hl [1, 0] rfl) hex1 (fun y2 e0 H locs ls hG hl => ?_) (fun y3 e0 H locs ls hG hl => ?_)
  · subst e0
    simp only [Sum.elim_inl, Sum.elim_inr] at hf
    refine lv_iload_n C.1 C.2.1 dX9_pieceBy_16 rfl (lv_at hl 0 rfl) ?_
    obtain rfl := Option.some.inj hf
    exact r_iret C hG dX9_pieceBy_17
  · subst e0
    simp only [Sum.elim_inl, Sum.elim_inr] at hf
    refine lv_iconst (v := (-1 : Int32)) C.1 C.2.1 dX9_pieceBy_24 (by decide) ?_
    obtain rfl := Option.some.inj hf
    exact r_iret C hG dX9_pieceBy_25
set_option maxRecDepth 100000 in
set_option maxHeartbeats 4000000 in
theorem mt_X9_pieceBy (l : Launch) {G : GG} {A : Nat → Prop} {N B : Nat} {E : Nat → va_E} {X : va_W} {x0 : Int32} {out : Int32}  (hf : sh_X9_pieceBy x0 = some out) : MetW l yX9_pieceBy wc_X9_pieceBy rm_X9_pieceBy G A N B E X [.int x0] (some (.int out)) E := by
  refine Met.ofW (cc := cX9_pieceBy) (maxL := 2) (ret := (some .int)) (by decide) rfl ?_
  intro p e s m args below meth c s₁ B0 hml hv
  obtain ⟨rfl, hEv, hWd⟩ := hv
  have C : CX p s m _ meth c cX9_pieceBy 2 RX9 wc_X9_pieceBy (some .int) := ⟨B0.exec, B0.bytes, hml, findClass_of_methodNamed B0.named, atoms_spec (ws := wc_X9_pieceBy) B0.pre, B0.returns, B0.notSynchronized⟩
  have hl := lv_entry [.int x0] (n := 2) (Nat.le_of_ble_eq_true rfl)
  rw [lg_entry_eq]
  generalize (lg_sl [.int x0] ++ List.replicate (2 - (lg_sl [.int x0]).length) Slot.unset).toArray = ls at hl ⊢
  have hl : lv_has ls 2 [(0, .int x0)] := hl
  exact kb_X9_pieceBy_0 C  ⟨hEv, hWd, va_S.rf⟩ hl hf
abbrev wc_X9_feed : List Cond := Cond.code yX9_feed cX9_feed 2 (some .int) :: TG
abbrev rm_X9_feed : Room := { frames := 3, cells := 0, slots := 0, locals := 125 }
theorem cd_X9_feed : yX9_feed.cls = RX9 ∧ yX9_feed.cls ≠ "java/lang/invoke/MethodHandle" ∧ yX9_feed.cls ≠ "java/lang/invoke/VarHandle" ∧ (parseMethodDescriptor yX9_feed.desc).map (fun d => d.parameters.length) = some 1 := by decide +kernel
theorem dX9_feed_0 : decode cX9_feed 0 = .ok (.iload_n 1, 1) := by decide +kernel
theorem dX9_feed_1 : decode cX9_feed 1 = .ok (.i2l, 1) := by decide +kernel
theorem dX9_feed_2 : decode cX9_feed 2 = .ok (.lconst 1, 1) := by decide +kernel
theorem dX9_feed_3 : decode cX9_feed 3 = .ok (.ldc2_w 183, 3) := by decide +kernel
theorem dX9_feed_6 : decode cX9_feed 6 = .ok (.invokestatic 93, 3) := by decide +kernel
theorem dX9_feed_9 : decode cX9_feed 9 = .ok (.ifCond .ne 6, 3) := by decide +kernel
theorem dX9_feed_12 : decode cX9_feed 12 = .ok (.bipush (-2), 2) := by decide +kernel
theorem dX9_feed_14 : decode cX9_feed 14 = .ok (.ireturn, 1) := by decide +kernel
theorem dX9_feed_15 : decode cX9_feed 15 = .ok (.aload_n 0, 1) := by decide +kernel
theorem dX9_feed_16 : decode cX9_feed 16 = .ok (.getfield 185, 3) := by decide +kernel
theorem dX9_feed_19 : decode cX9_feed 19 = .ok (.bipush 60, 2) := by decide +kernel
theorem dX9_feed_21 : decode cX9_feed 21 = .ok (.if_icmp .ne 6, 3) := by decide +kernel
theorem dX9_feed_24 : decode cX9_feed 24 = .ok (.bipush (-4), 2) := by decide +kernel
theorem dX9_feed_26 : decode cX9_feed 26 = .ok (.ireturn, 1) := by decide +kernel
theorem dX9_feed_27 : decode cX9_feed 27 = .ok (.aload_n 0, 1) := by decide +kernel
theorem dX9_feed_28 : decode cX9_feed 28 = .ok (.getfield 48, 3) := by decide +kernel
theorem dX9_feed_31 : decode cX9_feed 31 = .ok (.aload_n 0, 1) := by decide +kernel
theorem dX9_feed_32 : decode cX9_feed 32 = .ok (.getfield 185, 3) := by decide +kernel
theorem dX9_feed_35 : decode cX9_feed 35 = .ok (.iload_n 1, 1) := by decide +kernel
theorem dX9_feed_36 : decode cX9_feed 36 = .ok (.iastore, 1) := by decide +kernel
theorem dX9_feed_37 : decode cX9_feed 37 = .ok (.aload_n 0, 1) := by decide +kernel
theorem dX9_feed_38 : decode cX9_feed 38 = .ok (.dup, 1) := by decide +kernel
theorem dX9_feed_39 : decode cX9_feed 39 = .ok (.getfield 185, 3) := by decide +kernel
theorem dX9_feed_42 : decode cX9_feed 42 = .ok (.iconst 1, 1) := by decide +kernel
theorem dX9_feed_43 : decode cX9_feed 43 = .ok (.iadd, 1) := by decide +kernel
theorem dX9_feed_44 : decode cX9_feed 44 = .ok (.putfield 185, 3) := by decide +kernel
theorem dX9_feed_47 : decode cX9_feed 47 = .ok (.aload_n 0, 1) := by decide +kernel
theorem dX9_feed_48 : decode cX9_feed 48 = .ok (.getfield 185, 3) := by decide +kernel
theorem dX9_feed_51 : decode cX9_feed 51 = .ok (.ireturn, 1) := by decide +kernel
set_option maxRecDepth 100000 in
set_option maxHeartbeats 4000000 in
theorem kb_X9_feed_0 {x1 : Int32} {w : Mem} {out : Int32 × Mem} {H : Heap} {locs : List Loc} {ls : Array Slot} (C : CX p s m args meth c cX9_feed 2 RX9 wc_X9_feed (some .int))  (hG : Gd s G A 28 B (entM G B w) X H locs) (hl : lv_has ls 2 [(0, .ref (B + 0)), (1, .int x1)]) (hf : sh_X9_feed x1 w = some out) :
    W p l e rm_X9_feed s m args below meth c H locs 0 0 (MQ below (CPost G A 28 B (entM G B out.2) X (some (.int out.1))) args s 0 0 A) (F0 m 0 ls []) := by
  refine lv_iload_n C.1 C.2.1 dX9_feed_0 rfl (lv_at hl 1 rfl) ?_
  refine lv_i2l C.1 C.2.1 dX9_feed_1 rfl ?_
  refine lv_lconst (v := lN 1) C.1 C.2.1 dX9_feed_2 rfl ?_
  refine lv_ldc2 (v := lN 127) C.1 C.2.1 C.2.2.2.1 (C.2.2.2.2.1 _ (List.mem_cons_of_mem _ tg_5_59)) dX9_feed_3 ?_
  obtain ⟨v1, hv1, hf⟩ := of_bind hf
  refine r_callS1 C hG hl.1 (As := [.long x1.toInt64, .long (lN 1), .long (lN 127)]) (mt_X9_isIn l  hv1) (va_cwS 3 C.2.2.2.2.1 (gd_S tg_4_195 tg_4_196 tg_1_10 tg_4_197) rfl rfl rfl cd_X9_isIn.2 ⟨Nat.le_of_ble_eq_true rfl, Nat.le_of_ble_eq_true rfl⟩) rfl rfl (Nat.le_of_ble_eq_true rfl) dX9_feed_6 (fun H locs hG => ?_)
  rcases of_ite hf with ⟨c2, hf⟩ | ⟨c2, hf⟩
  · refine lv_if_ne (tgt := 15) C.1 C.2.1 dX9_feed_9 (by decide) (fun q => absurd c2 q) (fun _ => ?_)
    refine lv_bipush (v := (-2 : Int32)) C.1 C.2.1 dX9_feed_12 (by decide) ?_
    obtain rfl := Option.some.inj hf
    exact r_iret C hG dX9_feed_14
  · refine lv_if_ne (tgt := 15) C.1 C.2.1 dX9_feed_9 (by decide) (fun _ => ?_) (fun q => absurd q c2)
    refine lv_aload_n C.1 C.2.1 dX9_feed_15 rfl (lv_at hl 0 rfl) ?_
    refine gf_X9_185 C hG rfl dX9_feed_16 ?_
    refine lv_bipush (v := nI 60) C.1 C.2.1 dX9_feed_19 (by decide) ?_
    rcases of_ite hf with ⟨c3, hf⟩ | ⟨c3, hf⟩
    · refine lv_icmp_ne (tgt := 27) C.1 C.2.1 dX9_feed_21 (by decide) (fun q => absurd c3 q) (fun _ => ?_)
      refine lv_bipush (v := (-4 : Int32)) C.1 C.2.1 dX9_feed_24 (by decide) ?_
      obtain rfl := Option.some.inj hf
      exact r_iret C hG dX9_feed_26
    · refine lv_icmp_ne (tgt := 27) C.1 C.2.1 dX9_feed_21 (by decide) (fun _ => ?_) (fun q => absurd q c3)
      refine lv_aload_n C.1 C.2.1 dX9_feed_27 rfl (lv_at hl 0 rfl) ?_
      refine gf_X9_48 C hG rfl dX9_feed_28 ?_
      refine lv_aload_n C.1 C.2.1 dX9_feed_31 rfl (lv_at hl 0 rfl) ?_
      refine gf_X9_185 C hG rfl dX9_feed_32 ?_
      refine lv_iload_n C.1 C.2.1 dX9_feed_35 rfl (lv_at hl 1 rfl) ?_
      obtain ⟨w4, hw4, hf⟩ := of_bind hf
      obtain ⟨bw4, ew4⟩ := of_stM hw4
      refine r_iast C hG (c0 := 13) (by decide) (entM_I (n := 60) rfl) bw4 (E' := (entM G B w4)) (by rw [ew4]; exact upM_I (n := 60) rfl) dX9_feed_36 (fun H locs hG => ?_)
      refine lv_aload_n C.1 C.2.1 dX9_feed_37 rfl (lv_at hl 0 rfl) ?_
      refine lv_dup C.1 C.2.1 dX9_feed_38 rfl ?_
      refine gf_X9_185 C hG rfl dX9_feed_39 ?_
      refine lv_iconst (v := nI 1) C.1 C.2.1 dX9_feed_42 (by decide) ?_
      refine lv_iadd C.1 C.2.1 dX9_feed_43 ?_
      obtain ⟨w5, ew5, hf⟩ := of_letv hf
      refine pf_X9_185 C hG rfl dX9_feed_44 (fun H locs hG => ?_)
      rw [← ew5] at hG
      refine lv_aload_n C.1 C.2.1 dX9_feed_47 rfl (lv_at hl 0 rfl) ?_
      refine gf_X9_185 C hG rfl dX9_feed_48 ?_
      obtain rfl := Option.some.inj hf
      exact r_iret C hG dX9_feed_51
set_option maxRecDepth 100000 in
set_option maxHeartbeats 4000000 in
theorem mt_X9_feed (l : Launch) {G : GG} {A : Nat → Prop} {B : Nat} {X : va_W} {x1 : Int32} {w : Mem} {out : Int32 × Mem}  (hf : sh_X9_feed x1 w = some out) : MetW l yX9_feed wc_X9_feed rm_X9_feed G A 28 B (entM G B w) X [.ref (B + 0), .int x1] (some (.int out.1)) (entM G B out.2) := by
  refine Met.ofW (cc := cX9_feed) (maxL := 2) (ret := (some .int)) (by decide) rfl ?_
  intro p e s m args below meth c s₁ B0 hml hv
  obtain ⟨rfl, hEv, hWd⟩ := hv
  have C : CX p s m _ meth c cX9_feed 2 RX9 wc_X9_feed (some .int) := ⟨B0.exec, B0.bytes, hml, findClass_of_methodNamed B0.named, atoms_spec (ws := wc_X9_feed) B0.pre, B0.returns, B0.notSynchronized⟩
  have hl := lv_entry [.ref (B + 0), .int x1] (n := 2) (Nat.le_of_ble_eq_true rfl)
  rw [lg_entry_eq]
  generalize (lg_sl [.ref (B + 0), .int x1] ++ List.replicate (2 - (lg_sl [.ref (B + 0), .int x1]).length) Slot.unset).toArray = ls at hl ⊢
  have hl : lv_has ls 2 [(0, .ref (B + 0)), (1, .int x1)] := hl
  exact kb_X9_feed_0 C  ⟨hEv, hWd, va_S.rf⟩ hl hf
abbrev wc_X9_comes : List Cond := Cond.code yX9_comes cX9_comes 4 (some .boolean) :: TG
abbrev rm_X9_comes : Room := { frames := 5, cells := 0, slots := 0, locals := 167 }
theorem cd_X9_comes : yX9_comes.cls = RX9 ∧ yX9_comes.cls ≠ "java/lang/invoke/MethodHandle" ∧ yX9_comes.cls ≠ "java/lang/invoke/VarHandle" ∧ (parseMethodDescriptor yX9_comes.desc).map (fun d => d.parameters.length) = some 2 := by decide +kernel
theorem dX9_comes_0 : decode cX9_comes 0 = .ok (.iconst 0, 1) := by decide +kernel
theorem dX9_comes_1 : decode cX9_comes 1 = .ok (.istore_n 3, 1) := by decide +kernel
theorem dX9_comes_2 : decode cX9_comes 2 = .ok (.iload_n 3, 1) := by decide +kernel
theorem dX9_comes_3 : decode cX9_comes 3 = .ok (.iload_n 2, 1) := by decide +kernel
theorem dX9_comes_4 : decode cX9_comes 4 = .ok (.if_icmp .ge 33, 3) := by decide +kernel
theorem dX9_comes_7 : decode cX9_comes 7 = .ok (.aload_n 0, 1) := by decide +kernel
theorem dX9_comes_8 : decode cX9_comes 8 = .ok (.getfield 170, 3) := by decide +kernel
theorem dX9_comes_11 : decode cX9_comes 11 = .ok (.bipush 24, 2) := by decide +kernel
theorem dX9_comes_13 : decode cX9_comes 13 = .ok (.if_icmp .eq 11, 3) := by decide +kernel
theorem dX9_comes_16 : decode cX9_comes 16 = .ok (.aload_n 0, 1) := by decide +kernel
theorem dX9_comes_17 : decode cX9_comes 17 = .ok (.iload_n 1, 1) := by decide +kernel
theorem dX9_comes_18 : decode cX9_comes 18 = .ok (.invokevirtual 188, 3) := by decide +kernel
theorem dX9_comes_21 : decode cX9_comes 21 = .ok (.ifCond .ne 5, 3) := by decide +kernel
theorem dX9_comes_24 : decode cX9_comes 24 = .ok (.iconst 0, 1) := by decide +kernel
theorem dX9_comes_25 : decode cX9_comes 25 = .ok (.ireturn, 1) := by decide +kernel
theorem dX9_comes_26 : decode cX9_comes 26 = .ok (.aload_n 0, 1) := by decide +kernel
theorem dX9_comes_27 : decode cX9_comes 27 = .ok (.iload_n 1, 1) := by decide +kernel
theorem dX9_comes_28 : decode cX9_comes 28 = .ok (.invokevirtual 191, 3) := by decide +kernel
theorem dX9_comes_31 : decode cX9_comes 31 = .ok (.iinc 3 1, 3) := by decide +kernel
theorem dX9_comes_34 : decode cX9_comes 34 = .ok (.goto (-32), 3) := by decide +kernel
theorem dX9_comes_37 : decode cX9_comes 37 = .ok (.iconst 1, 1) := by decide +kernel
theorem dX9_comes_38 : decode cX9_comes 38 = .ok (.ireturn, 1) := by decide +kernel
set_option maxRecDepth 100000 in
set_option maxHeartbeats 4000000 in
theorem kb_X9_comes_2 {x1 : Int32} {x2 : Int32} {st : Int32 × Mem} {r : (Int32 × Mem) ⊕ ((Mem) ⊕ (Mem))} {H : Heap} {locs : List Loc} {ls : Array Slot} (C : CX p s m args meth c cX9_comes 4 RX9 wc_X9_comes (some .boolean))  (hG : Gd s G A 28 B (entM G B st.2) X H locs) (hl : lv_has ls 4 [(0, .ref (B + 0)), (1, .int x1), (2, .int x2), (3, .int st.1)]) (hf : sh_X9_comes_s2 x1 x2 st = some r)
    (kL : ∀ st' : Int32 × Mem, r = Sum.inl st' → ∀ (H : Heap) (locs : List Loc) (ls : Array Slot), Gd s G A 28 B (entM G B st'.2) X H locs → lv_has ls 4 [(0, .ref (B + 0)), (1, .int x1), (2, .int x2), (3, .int st'.1)] → W p l e rm_X9_comes s m args below meth c H locs 0 0 Q (F0 m 2 ls []))
    (kX0 : ∀ y' : Mem, r = Sum.inr (Sum.inl y') → ∀ (H : Heap) (locs : List Loc) (ls : Array Slot), Gd s G A 28 B (entM G B y') X H locs → lv_has ls 4 [] → W p l e rm_X9_comes s m args below meth c H locs 0 0 Q (F0 m 24 ls []))
    (kX1 : ∀ y' : Mem, r = Sum.inr (Sum.inr y') → ∀ (H : Heap) (locs : List Loc) (ls : Array Slot), Gd s G A 28 B (entM G B y') X H locs → lv_has ls 4 [] → W p l e rm_X9_comes s m args below meth c H locs 0 0 Q (F0 m 37 ls [])) :
    W p l e rm_X9_comes s m args below meth c H locs 0 0 Q (F0 m 2 ls []) := by
  refine lv_iload_n C.1 C.2.1 dX9_comes_2 rfl (lv_at hl 3 rfl) ?_
  refine lv_iload_n C.1 C.2.1 dX9_comes_3 rfl (lv_at hl 2 rfl) ?_
  rcases of_ite hf with ⟨c1, hf⟩ | ⟨c1, hf⟩
  · refine lv_icmp_ge (tgt := 37) C.1 C.2.1 dX9_comes_4 (by decide) (fun _ => ?_) (fun q => absurd c1 q)
    obtain rfl := Option.some.inj hf
    exact kX1 _ rfl _ _ _ hG (lv_sub hl [] rfl)
  · refine lv_icmp_ge (tgt := 37) C.1 C.2.1 dX9_comes_4 (by decide) (fun q => absurd q c1) (fun _ => ?_)
    refine lv_aload_n C.1 C.2.1 dX9_comes_7 rfl (lv_at hl 0 rfl) ?_
    refine gf_X9_170 C hG rfl dX9_comes_8 ?_
    refine lv_bipush (v := nI 24) C.1 C.2.1 dX9_comes_11 (by decide) ?_
    rcases of_ite hf with ⟨c2, hf⟩ | ⟨c2, hf⟩
    · refine lv_icmp_eq (tgt := 24) C.1 C.2.1 dX9_comes_13 (by decide) (fun _ => ?_) (fun q => absurd c2 q)
      obtain rfl := Option.some.inj hf
      exact kX0 _ rfl _ _ _ hG (lv_sub hl [] rfl)
    · refine lv_icmp_eq (tgt := 24) C.1 C.2.1 dX9_comes_13 (by decide) (fun q => absurd q c2) (fun _ => ?_)
      refine lv_aload_n C.1 C.2.1 dX9_comes_16 rfl (lv_at hl 0 rfl) ?_
      refine lv_iload_n C.1 C.2.1 dX9_comes_17 rfl (lv_at hl 1 rfl) ?_
      obtain ⟨v3, hv3, hf⟩ := of_bind hf
      refine r_callV1 C hG hl.1 (c0 := 0) (As := [.int x1]) (by decide) (entM_O (n := 35) rfl) rfl (mt_X9_canStand l  hv3) (cwV 1 C.2.2.2.2.1 (gd_V tg_5_84 tg_5_86 tgp_40 tg_1_10 tg_5_87) rfl rfl rfl cd_X9_canStand ⟨Nat.le_of_ble_eq_true rfl, Nat.le_of_ble_eq_true rfl⟩) rfl rfl (Nat.le_of_ble_eq_true rfl) dX9_comes_18 (fun H locs hG => ?_)
      rcases of_ite hf with ⟨c4, hf⟩ | ⟨c4, hf⟩
      · refine lv_if_ne (tgt := 26) C.1 C.2.1 dX9_comes_21 (by decide) (fun q => absurd c4 q) (fun _ => ?_)
        obtain rfl := Option.some.inj hf
        exact kX0 _ rfl _ _ _ hG (lv_sub hl [] rfl)
      · refine lv_if_ne (tgt := 26) C.1 C.2.1 dX9_comes_21 (by decide) (fun _ => ?_) (fun q => absurd q c4)
        refine lv_aload_n C.1 C.2.1 dX9_comes_26 rfl (lv_at hl 0 rfl) ?_
        refine lv_iload_n C.1 C.2.1 dX9_comes_27 rfl (lv_at hl 1 rfl) ?_
        obtain ⟨w5, hw5, hf⟩ := of_bind hf
        refine r_callV0 C hG hl.1 (c0 := 0) (As := [.int x1]) (by decide) (entM_O (n := 35) rfl) rfl (mt_X9_adds l  hw5) (cwV 1 C.2.2.2.2.1 (gd_V tg_5_95 tg_5_97 tgp_42 tg_1_10 tg_5_98) rfl rfl rfl cd_X9_adds ⟨Nat.le_of_ble_eq_true rfl, Nat.le_of_ble_eq_true rfl⟩) rfl rfl (Nat.le_of_ble_eq_true rfl) dX9_comes_28 (fun H locs hG => ?_)
        obtain ⟨v6, ev6, hf⟩ := of_letv hf
        refine lv_iinc (v := v6) (lv' := [(3, .int v6), (0, .ref (B + 0)), (1, .int x1), (2, .int x2)]) C.1 C.2.1 dX9_comes_31 hl (k := 3) rfl (by rw [ev6, show Int32.ofInt (1) = nI 1 from by decide]) (by decide) rfl (fun ls hl => ?_)
        refine lv_goto (tgt := 2) C.1 C.2.1 dX9_comes_34 (by decide) ?_
        obtain rfl := Option.some.inj hf
        exact kL _ rfl _ _ _ hG (lv_sub hl [1, 2, 3, 0] rfl)
set_option maxRecDepth 100000 in
set_option maxHeartbeats 4000000 in
theorem kl_X9_comes_2 {x1 : Int32} {x2 : Int32} (C : CX p s m args meth c cX9_comes 4 RX9 wc_X9_comes (some .boolean))  : ∀ (n : Nat) (st : Int32 × Mem) (x : (Mem) ⊕ (Mem)) (H : Heap) (locs : List Loc) (ls : Array Slot), Gd s G A 28 B (entM G B st.2) X H locs → lv_has ls 4 [(0, .ref (B + 0)), (1, .int x1), (2, .int x2), (3, .int st.1)] → lpw (sh_X9_comes_s2 x1 x2) n st = some x →
    (∀ y' : Mem, x = (Sum.inl y') → ∀ (H : Heap) (locs : List Loc) (ls : Array Slot), Gd s G A 28 B (entM G B y') X H locs → lv_has ls 4 [] → W p l e rm_X9_comes s m args below meth c H locs 0 0 Q (F0 m 24 ls [])) →
    (∀ y' : Mem, x = (Sum.inr y') → ∀ (H : Heap) (locs : List Loc) (ls : Array Slot), Gd s G A 28 B (entM G B y') X H locs → lv_has ls 4 [] → W p l e rm_X9_comes s m args below meth c H locs 0 0 Q (F0 m 37 ls [])) → W p l e rm_X9_comes s m args below meth c H locs 0 0 Q (F0 m 2 ls []) := by
  intro n
  induction n with
  | zero =>
    intro st x H locs ls hG hl hf
    cases hf
  | succ n ih =>
    intro st x H locs ls hG hl hf kX0 kX1
    obtain ⟨r, hr, hh⟩ := of_lpw hf
    refine kb_X9_comes_2 C  hG hl hr (fun st2 e1 H locs ls hG hl => ?_) (fun y2 e1 H locs ls hG hl => ?_) (fun y2 e1 H locs ls hG hl => ?_)
    · rcases hh with ⟨s3, e2, hh⟩ | e2
      · rw [e2] at e1
        cases e1
        exact ih _ _ _ _ _ hG hl hh kX0 kX1
      · rw [e2] at e1
        cases e1
    · rcases hh with ⟨s3, e2, hh⟩ | e2
      · rw [e2] at e1
        cases e1
      · rw [e2] at e1
        cases e1
        exact kX0 _ rfl _ _ _ hG hl
    · rcases hh with ⟨s3, e2, hh⟩ | e2
      · rw [e2] at e1
        cases e1
      · rw [e2] at e1
        cases e1
        exact kX1 _ rfl _ _ _ hG hl
set_option maxRecDepth 100000 in
set_option maxHeartbeats 4000000 in
theorem kb_X9_comes_0 {x1 : Int32} {x2 : Int32} {w : Mem} {out : Int32 × Mem} {H : Heap} {locs : List Loc} {ls : Array Slot} (C : CX p s m args meth c cX9_comes 4 RX9 wc_X9_comes (some .boolean))  (hG : Gd s G A 28 B (entM G B w) X H locs) (hl : lv_has ls 4 [(0, .ref (B + 0)), (1, .int x1), (2, .int x2)]) (hf : sh_X9_comes x1 x2 w = some out) :
    W p l e rm_X9_comes s m args below meth c H locs 0 0 (MQ below (CPost G A 28 B (entM G B out.2) X (some (.int out.1))) args s 0 0 A) (F0 m 0 ls []) := by
  refine lv_iconst (v := nI 0) C.1 C.2.1 dX9_comes_0 (by decide) ?_
  refine lv_istore_n (lv' := [(3, .int (nI 0)), (0, .ref (B + 0)), (1, .int x1), (2, .int x2)]) C.1 C.2.1 dX9_comes_1 rfl hl (by decide) rfl (fun ls hl => ?_)
  obtain ⟨ex1, hex1, hf⟩ := of_bind hf
  refine kl_X9_comes_2 C  FU (nI 0, w) ex1 _ _ _ hG (lv_sub hl [1, 2, 3, 0] rfl) hex1 (fun y2 e0 H locs ls hG hl => ?_) (fun y3 e0 H locs ls hG hl => ?_)
  · subst e0
    simp only [Sum.elim_inl, Sum.elim_inr] at hf
    refine lv_iconst (v := nI 0) C.1 C.2.1 dX9_comes_24 (by decide) ?_
    obtain rfl := Option.some.inj hf
    exact r_zret C hG (Or.inl rfl) dX9_comes_25
  · subst e0
    simp only [Sum.elim_inl, Sum.elim_inr] at hf
    refine lv_iconst (v := nI 1) C.1 C.2.1 dX9_comes_37 (by decide) ?_
    obtain rfl := Option.some.inj hf
    exact r_zret C hG (Or.inr rfl) dX9_comes_38
set_option maxRecDepth 100000 in
set_option maxHeartbeats 4000000 in
theorem mt_X9_comes (l : Launch) {G : GG} {A : Nat → Prop} {B : Nat} {X : va_W} {x1 : Int32} {x2 : Int32} {w : Mem} {out : Int32 × Mem}  (hf : sh_X9_comes x1 x2 w = some out) : MetW l yX9_comes wc_X9_comes rm_X9_comes G A 28 B (entM G B w) X [.ref (B + 0), .int x1, .int x2] (some (.int out.1)) (entM G B out.2) := by
  refine Met.ofW (cc := cX9_comes) (maxL := 4) (ret := (some .boolean)) (by decide) rfl ?_
  intro p e s m args below meth c s₁ B0 hml hv
  obtain ⟨rfl, hEv, hWd⟩ := hv
  have C : CX p s m _ meth c cX9_comes 4 RX9 wc_X9_comes (some .boolean) := ⟨B0.exec, B0.bytes, hml, findClass_of_methodNamed B0.named, atoms_spec (ws := wc_X9_comes) B0.pre, B0.returns, B0.notSynchronized⟩
  have hl := lv_entry [.ref (B + 0), .int x1, .int x2] (n := 4) (Nat.le_of_ble_eq_true rfl)
  rw [lg_entry_eq]
  generalize (lg_sl [.ref (B + 0), .int x1, .int x2] ++ List.replicate (4 - (lg_sl [.ref (B + 0), .int x1, .int x2]).length) Slot.unset).toArray = ls at hl ⊢
  have hl : lv_has ls 4 [(0, .ref (B + 0)), (1, .int x1), (2, .int x2)] := hl
  exact kb_X9_comes_0 C  ⟨hEv, hWd, va_S.rf⟩ hl hf
abbrev wc_X9_fault : List Cond := Cond.code yX9_fault cX9_fault 4 (some .int) :: TG
abbrev rm_X9_fault : Room := { frames := 6, cells := 0, slots := 0, locals := 190 }
theorem cd_X9_fault : yX9_fault.cls = RX9 ∧ yX9_fault.cls ≠ "java/lang/invoke/MethodHandle" ∧ yX9_fault.cls ≠ "java/lang/invoke/VarHandle" ∧ (parseMethodDescriptor yX9_fault.desc).map (fun d => d.parameters.length) = some 0 := by decide +kernel
theorem dX9_fault_0 : decode cX9_fault 0 = .ok (.aload_n 0, 1) := by decide +kernel
theorem dX9_fault_1 : decode cX9_fault 1 = .ok (.iconst 0, 1) := by decide +kernel
theorem dX9_fault_2 : decode cX9_fault 2 = .ok (.putfield 170, 3) := by decide +kernel
theorem dX9_fault_5 : decode cX9_fault 5 = .ok (.iconst (-1), 1) := by decide +kernel
theorem dX9_fault_6 : decode cX9_fault 6 = .ok (.istore_n 1, 1) := by decide +kernel
theorem dX9_fault_7 : decode cX9_fault 7 = .ok (.iconst 0, 1) := by decide +kernel
theorem dX9_fault_8 : decode cX9_fault 8 = .ok (.istore_n 2, 1) := by decide +kernel
theorem dX9_fault_9 : decode cX9_fault 9 = .ok (.iload_n 2, 1) := by decide +kernel
theorem dX9_fault_10 : decode cX9_fault 10 = .ok (.aload_n 0, 1) := by decide +kernel
theorem dX9_fault_11 : decode cX9_fault 11 = .ok (.getfield 185, 3) := by decide +kernel
theorem dX9_fault_14 : decode cX9_fault 14 = .ok (.if_icmp .ge 85, 3) := by decide +kernel
theorem dX9_fault_17 : decode cX9_fault 17 = .ok (.aload_n 0, 1) := by decide +kernel
theorem dX9_fault_18 : decode cX9_fault 18 = .ok (.getfield 48, 3) := by decide +kernel
theorem dX9_fault_21 : decode cX9_fault 21 = .ok (.iload_n 2, 1) := by decide +kernel
theorem dX9_fault_22 : decode cX9_fault 22 = .ok (.iaload, 1) := by decide +kernel
theorem dX9_fault_23 : decode cX9_fault 23 = .ok (.invokestatic 194, 3) := by decide +kernel
theorem dX9_fault_26 : decode cX9_fault 26 = .ok (.istore_n 3, 1) := by decide +kernel
theorem dX9_fault_27 : decode cX9_fault 27 = .ok (.iload_n 3, 1) := by decide +kernel
theorem dX9_fault_28 : decode cX9_fault 28 = .ok (.iconst (-1), 1) := by decide +kernel
theorem dX9_fault_29 : decode cX9_fault 29 = .ok (.if_icmp .ne 46, 3) := by decide +kernel
theorem dX9_fault_32 : decode cX9_fault 32 = .ok (.iload_n 1, 1) := by decide +kernel
theorem dX9_fault_33 : decode cX9_fault 33 = .ok (.iconst (-1), 1) := by decide +kernel
theorem dX9_fault_34 : decode cX9_fault 34 = .ok (.if_icmp .eq 39, 3) := by decide +kernel
theorem dX9_fault_37 : decode cX9_fault 37 = .ok (.aload_n 0, 1) := by decide +kernel
theorem dX9_fault_38 : decode cX9_fault 38 = .ok (.getfield 48, 3) := by decide +kernel
theorem dX9_fault_41 : decode cX9_fault 41 = .ok (.iload_n 2, 1) := by decide +kernel
theorem dX9_fault_42 : decode cX9_fault 42 = .ok (.iaload, 1) := by decide +kernel
theorem dX9_fault_43 : decode cX9_fault 43 = .ok (.i2l, 1) := by decide +kernel
theorem dX9_fault_44 : decode cX9_fault 44 = .ok (.ldc2_w 197, 3) := by decide +kernel
theorem dX9_fault_47 : decode cX9_fault 47 = .ok (.ldc2_w 199, 3) := by decide +kernel
theorem dX9_fault_50 : decode cX9_fault 50 = .ok (.invokestatic 93, 3) := by decide +kernel
theorem dX9_fault_53 : decode cX9_fault 53 = .ok (.ifCond .eq 20, 3) := by decide +kernel
theorem dX9_fault_56 : decode cX9_fault 56 = .ok (.aload_n 0, 1) := by decide +kernel
theorem dX9_fault_57 : decode cX9_fault 57 = .ok (.iload_n 1, 1) := by decide +kernel
theorem dX9_fault_58 : decode cX9_fault 58 = .ok (.aload_n 0, 1) := by decide +kernel
theorem dX9_fault_59 : decode cX9_fault 59 = .ok (.getfield 48, 3) := by decide +kernel
theorem dX9_fault_62 : decode cX9_fault 62 = .ok (.iload_n 2, 1) := by decide +kernel
theorem dX9_fault_63 : decode cX9_fault 63 = .ok (.iaload, 1) := by decide +kernel
theorem dX9_fault_64 : decode cX9_fault 64 = .ok (.bipush 49, 2) := by decide +kernel
theorem dX9_fault_66 : decode cX9_fault 66 = .ok (.isub, 1) := by decide +kernel
theorem dX9_fault_67 : decode cX9_fault 67 = .ok (.invokevirtual 201, 3) := by decide +kernel
theorem dX9_fault_70 : decode cX9_fault 70 = .ok (.ifCond .ne 5, 3) := by decide +kernel
theorem dX9_fault_73 : decode cX9_fault 73 = .ok (.iload_n 2, 1) := by decide +kernel
theorem dX9_fault_74 : decode cX9_fault 74 = .ok (.ireturn, 1) := by decide +kernel
theorem dX9_fault_75 : decode cX9_fault 75 = .ok (.iload_n 3, 1) := by decide +kernel
theorem dX9_fault_76 : decode cX9_fault 76 = .ok (.iconst (-1), 1) := by decide +kernel
theorem dX9_fault_77 : decode cX9_fault 77 = .ok (.if_icmp .eq 14, 3) := by decide +kernel
theorem dX9_fault_80 : decode cX9_fault 80 = .ok (.aload_n 0, 1) := by decide +kernel
theorem dX9_fault_81 : decode cX9_fault 81 = .ok (.iload_n 3, 1) := by decide +kernel
theorem dX9_fault_82 : decode cX9_fault 82 = .ok (.iconst 1, 1) := by decide +kernel
theorem dX9_fault_83 : decode cX9_fault 83 = .ok (.invokevirtual 201, 3) := by decide +kernel
theorem dX9_fault_86 : decode cX9_fault 86 = .ok (.ifCond .ne 5, 3) := by decide +kernel
theorem dX9_fault_89 : decode cX9_fault 89 = .ok (.iload_n 2, 1) := by decide +kernel
theorem dX9_fault_90 : decode cX9_fault 90 = .ok (.ireturn, 1) := by decide +kernel
theorem dX9_fault_91 : decode cX9_fault 91 = .ok (.iload_n 3, 1) := by decide +kernel
theorem dX9_fault_92 : decode cX9_fault 92 = .ok (.istore_n 1, 1) := by decide +kernel
theorem dX9_fault_93 : decode cX9_fault 93 = .ok (.iinc 2 1, 3) := by decide +kernel
theorem dX9_fault_96 : decode cX9_fault 96 = .ok (.goto (-87), 3) := by decide +kernel
theorem dX9_fault_99 : decode cX9_fault 99 = .ok (.aload_n 0, 1) := by decide +kernel
theorem dX9_fault_100 : decode cX9_fault 100 = .ok (.getfield 185, 3) := by decide +kernel
theorem dX9_fault_103 : decode cX9_fault 103 = .ok (.ifCond .ne 7, 3) := by decide +kernel
theorem dX9_fault_106 : decode cX9_fault 106 = .ok (.iconst 0, 1) := by decide +kernel
theorem dX9_fault_107 : decode cX9_fault 107 = .ok (.goto 4, 3) := by decide +kernel
theorem dX9_fault_110 : decode cX9_fault 110 = .ok (.iconst (-1), 1) := by decide +kernel
theorem dX9_fault_111 : decode cX9_fault 111 = .ok (.ireturn, 1) := by decide +kernel
set_option maxRecDepth 100000 in
set_option maxHeartbeats 4000000 in
theorem kb_X9_fault_75 {x2 : Int32} {x3 : Int32} {w : Mem} {r : (Int32 × Int32 × Mem) ⊕ ((Int32 × Mem) ⊕ (Int32 × Mem) ⊕ (Mem))} {H : Heap} {locs : List Loc} {ls : Array Slot} (C : CX p s m args meth c cX9_fault 4 RX9 wc_X9_fault (some .int))  (hG : Gd s G A 28 B (entM G B w) X H locs) (hl : lv_has ls 4 [(0, .ref (B + 0)), (2, .int x2), (3, .int x3)]) (hf : sh_X9_fault_j75 x2 x3 w = some r)
    (kL : ∀ st' : Int32 × Int32 × Mem, r = Sum.inl st' → ∀ (H : Heap) (locs : List Loc) (ls : Array Slot), Gd s G A 28 B (entM G B st'.2.2) X H locs → lv_has ls 4 [(0, .ref (B + 0)), (1, .int st'.1), (2, .int st'.2.1)] → W p l e rm_X9_fault s m args below meth c H locs 0 0 Q (F0 m 9 ls []))
    (kX0 : ∀ y' : Int32 × Mem, r = Sum.inr (Sum.inl y') → ∀ (H : Heap) (locs : List Loc) (ls : Array Slot), Gd s G A 28 B (entM G B y'.2) X H locs → lv_has ls 4 [(2, .int y'.1)] → W p l e rm_X9_fault s m args below meth c H locs 0 0 Q (F0 m 73 ls []))
    (kX1 : ∀ y' : Int32 × Mem, r = Sum.inr (Sum.inr (Sum.inl y')) → ∀ (H : Heap) (locs : List Loc) (ls : Array Slot), Gd s G A 28 B (entM G B y'.2) X H locs → lv_has ls 4 [(2, .int y'.1)] → W p l e rm_X9_fault s m args below meth c H locs 0 0 Q (F0 m 89 ls []))
    (kX2 : ∀ y' : Mem, r = Sum.inr (Sum.inr (Sum.inr y')) → ∀ (H : Heap) (locs : List Loc) (ls : Array Slot), Gd s G A 28 B (entM G B y') X H locs → lv_has ls 4 [(0, .ref (B + 0))] → W p l e rm_X9_fault s m args below meth c H locs 0 0 Q (F0 m 99 ls [])) :
    W p l e rm_X9_fault s m args below meth c H locs 0 0 Q (F0 m 75 ls []) := by
  refine lv_iload_n C.1 C.2.1 dX9_fault_75 rfl (lv_at hl 2 rfl) ?_
  refine lv_iconst (v := (-1 : Int32)) C.1 C.2.1 dX9_fault_76 (by decide) ?_
  rcases of_ite hf with ⟨c1, hf⟩ | ⟨c1, hf⟩
  · refine lv_icmp_eq (tgt := 91) C.1 C.2.1 dX9_fault_77 (by decide) (fun _ => ?_) (fun q => absurd c1 q)
    refine lv_iload_n C.1 C.2.1 dX9_fault_91 rfl (lv_at hl 2 rfl) ?_
    refine lv_istore_n (lv' := [(1, .int x3), (0, .ref (B + 0)), (2, .int x2), (3, .int x3)]) C.1 C.2.1 dX9_fault_92 rfl hl (by decide) rfl (fun ls hl => ?_)
    obtain ⟨v2, ev2, hf⟩ := of_letv hf
    refine lv_iinc (v := v2) (lv' := [(2, .int v2), (1, .int x3), (0, .ref (B + 0)), (3, .int x3)]) C.1 C.2.1 dX9_fault_93 hl (k := 2) rfl (by rw [ev2, show Int32.ofInt (1) = nI 1 from by decide]) (by decide) rfl (fun ls hl => ?_)
    refine lv_goto (tgt := 9) C.1 C.2.1 dX9_fault_96 (by decide) ?_
    obtain rfl := Option.some.inj hf
    exact kL _ rfl _ _ _ hG (lv_sub hl [2, 1, 0] rfl)
  · refine lv_icmp_eq (tgt := 91) C.1 C.2.1 dX9_fault_77 (by decide) (fun q => absurd q c1) (fun _ => ?_)
    refine lv_aload_n C.1 C.2.1 dX9_fault_80 rfl (lv_at hl 0 rfl) ?_
    refine lv_iload_n C.1 C.2.1 dX9_fault_81 rfl (lv_at hl 2 rfl) ?_
    refine lv_iconst (v := nI 1) C.1 C.2.1 dX9_fault_82 (by decide) ?_
    obtain ⟨v3, hv3, hf⟩ := of_bind hf
    refine r_callV1 C hG hl.1 (c0 := 0) (As := [.int x3, .int (nI 1)]) (by decide) (entM_O (n := 35) rfl) rfl (mt_X9_comes l  hv3) (cwV 2 C.2.2.2.2.1 (gd_V tg_5_80 tg_5_82 tgp_39 tg_1_10 tg_5_83) rfl rfl rfl cd_X9_comes ⟨Nat.le_of_ble_eq_true rfl, Nat.le_of_ble_eq_true rfl⟩) rfl rfl (Nat.le_of_ble_eq_true rfl) dX9_fault_83 (fun H locs hG => ?_)
    rcases of_ite hf with ⟨c4, hf⟩ | ⟨c4, hf⟩
    · refine lv_if_ne (tgt := 91) C.1 C.2.1 dX9_fault_86 (by decide) (fun q => absurd c4 q) (fun _ => ?_)
      obtain rfl := Option.some.inj hf
      exact kX1 _ rfl _ _ _ hG (lv_sub hl [1] rfl)
    · refine lv_if_ne (tgt := 91) C.1 C.2.1 dX9_fault_86 (by decide) (fun _ => ?_) (fun q => absurd q c4)
      refine lv_iload_n C.1 C.2.1 dX9_fault_91 rfl (lv_at hl 2 rfl) ?_
      refine lv_istore_n (lv' := [(1, .int x3), (0, .ref (B + 0)), (2, .int x2), (3, .int x3)]) C.1 C.2.1 dX9_fault_92 rfl hl (by decide) rfl (fun ls hl => ?_)
      obtain ⟨v5, ev5, hf⟩ := of_letv hf
      refine lv_iinc (v := v5) (lv' := [(2, .int v5), (1, .int x3), (0, .ref (B + 0)), (3, .int x3)]) C.1 C.2.1 dX9_fault_93 hl (k := 2) rfl (by rw [ev5, show Int32.ofInt (1) = nI 1 from by decide]) (by decide) rfl (fun ls hl => ?_)
      refine lv_goto (tgt := 9) C.1 C.2.1 dX9_fault_96 (by decide) ?_
      obtain rfl := Option.some.inj hf
      exact kL _ rfl _ _ _ hG (lv_sub hl [2, 1, 0] rfl)
set_option maxRecDepth 100000 in
set_option maxHeartbeats 4000000 in
theorem kb_X9_fault_9  {st : Int32 × Int32 × Mem} {r : (Int32 × Int32 × Mem) ⊕ ((Int32 × Mem) ⊕ (Int32 × Mem) ⊕ (Mem))} {H : Heap} {locs : List Loc} {ls : Array Slot} (C : CX p s m args meth c cX9_fault 4 RX9 wc_X9_fault (some .int))  (hG : Gd s G A 28 B (entM G B st.2.2) X H locs) (hl : lv_has ls 4 [(0, .ref (B + 0)), (1, .int st.1), (2, .int st.2.1)]) (hf : sh_X9_fault_s9  st = some r)
    (kL : ∀ st' : Int32 × Int32 × Mem, r = Sum.inl st' → ∀ (H : Heap) (locs : List Loc) (ls : Array Slot), Gd s G A 28 B (entM G B st'.2.2) X H locs → lv_has ls 4 [(0, .ref (B + 0)), (1, .int st'.1), (2, .int st'.2.1)] → W p l e rm_X9_fault s m args below meth c H locs 0 0 Q (F0 m 9 ls []))
    (kX0 : ∀ y' : Int32 × Mem, r = Sum.inr (Sum.inl y') → ∀ (H : Heap) (locs : List Loc) (ls : Array Slot), Gd s G A 28 B (entM G B y'.2) X H locs → lv_has ls 4 [(2, .int y'.1)] → W p l e rm_X9_fault s m args below meth c H locs 0 0 Q (F0 m 73 ls []))
    (kX1 : ∀ y' : Int32 × Mem, r = Sum.inr (Sum.inr (Sum.inl y')) → ∀ (H : Heap) (locs : List Loc) (ls : Array Slot), Gd s G A 28 B (entM G B y'.2) X H locs → lv_has ls 4 [(2, .int y'.1)] → W p l e rm_X9_fault s m args below meth c H locs 0 0 Q (F0 m 89 ls []))
    (kX2 : ∀ y' : Mem, r = Sum.inr (Sum.inr (Sum.inr y')) → ∀ (H : Heap) (locs : List Loc) (ls : Array Slot), Gd s G A 28 B (entM G B y') X H locs → lv_has ls 4 [(0, .ref (B + 0))] → W p l e rm_X9_fault s m args below meth c H locs 0 0 Q (F0 m 99 ls [])) :
    W p l e rm_X9_fault s m args below meth c H locs 0 0 Q (F0 m 9 ls []) := by
  refine lv_iload_n C.1 C.2.1 dX9_fault_9 rfl (lv_at hl 2 rfl) ?_
  refine lv_aload_n C.1 C.2.1 dX9_fault_10 rfl (lv_at hl 0 rfl) ?_
  refine gf_X9_185 C hG rfl dX9_fault_11 ?_
  rcases of_ite hf with ⟨c1, hf⟩ | ⟨c1, hf⟩
  · refine lv_icmp_ge (tgt := 99) C.1 C.2.1 dX9_fault_14 (by decide) (fun _ => ?_) (fun q => absurd c1 q)
    obtain rfl := Option.some.inj hf
    exact kX2 _ rfl _ _ _ hG (lv_sub hl [0] rfl)
  · refine lv_icmp_ge (tgt := 99) C.1 C.2.1 dX9_fault_14 (by decide) (fun q => absurd q c1) (fun _ => ?_)
    refine lv_aload_n C.1 C.2.1 dX9_fault_17 rfl (lv_at hl 0 rfl) ?_
    refine gf_X9_48 C hG rfl dX9_fault_18 ?_
    refine lv_iload_n C.1 C.2.1 dX9_fault_21 rfl (lv_at hl 2 rfl) ?_
    obtain ⟨v2, hv2, hf⟩ := of_bind hf
    obtain ⟨bv2, ev2⟩ := of_ldS hv2
    refine r_iald C hG (c0 := 13) (by decide) (entM_I (n := 60) rfl) bv2 dX9_fault_22 ?_
    refine r_top ev2 ?_
    obtain ⟨v3, hv3, hf⟩ := of_bind hf
    refine r_callS1 C hG hl.1 (As := [.int v2]) (mt_X9_pieceBy l  hv3) (va_cwS 1 C.2.2.2.2.1 (gd_S tg_5_72 tg_5_73 tg_1_10 tg_5_74) rfl rfl rfl cd_X9_pieceBy.2 ⟨Nat.le_of_ble_eq_true rfl, Nat.le_of_ble_eq_true rfl⟩) rfl rfl (Nat.le_of_ble_eq_true rfl) dX9_fault_23 (fun H locs hG => ?_)
    refine lv_istore_n (lv' := [(3, .int v3), (0, .ref (B + 0)), (1, .int st.1), (2, .int st.2.1)]) C.1 C.2.1 dX9_fault_26 rfl hl (by decide) rfl (fun ls hl => ?_)
    refine lv_iload_n C.1 C.2.1 dX9_fault_27 rfl (lv_at hl 0 rfl) ?_
    refine lv_iconst (v := (-1 : Int32)) C.1 C.2.1 dX9_fault_28 (by decide) ?_
    rcases of_ite hf with ⟨c4, hf⟩ | ⟨c4, hf⟩
    · refine lv_icmp_ne (tgt := 75) C.1 C.2.1 dX9_fault_29 (by decide) (fun q => absurd c4 q) (fun _ => ?_)
      refine lv_iload_n C.1 C.2.1 dX9_fault_32 rfl (lv_at hl 2 rfl) ?_
      refine lv_iconst (v := (-1 : Int32)) C.1 C.2.1 dX9_fault_33 (by decide) ?_
      rcases of_ite hf with ⟨c5, hf⟩ | ⟨c5, hf⟩
      · refine lv_icmp_eq (tgt := 73) C.1 C.2.1 dX9_fault_34 (by decide) (fun _ => ?_) (fun q => absurd c5 q)
        obtain rfl := Option.some.inj hf
        exact kX0 _ rfl _ _ _ hG (lv_sub hl [3] rfl)
      · refine lv_icmp_eq (tgt := 73) C.1 C.2.1 dX9_fault_34 (by decide) (fun q => absurd q c5) (fun _ => ?_)
        refine lv_aload_n C.1 C.2.1 dX9_fault_37 rfl (lv_at hl 1 rfl) ?_
        refine gf_X9_48 C hG rfl dX9_fault_38 ?_
        refine lv_iload_n C.1 C.2.1 dX9_fault_41 rfl (lv_at hl 3 rfl) ?_
        obtain ⟨v6, hv6, hf⟩ := of_bind hf
        obtain ⟨bv6, ev6⟩ := of_ldS hv6
        refine r_iald C hG (c0 := 13) (by decide) (entM_I (n := 60) rfl) bv6 dX9_fault_42 ?_
        refine r_top ev6 ?_
        refine lv_i2l C.1 C.2.1 dX9_fault_43 rfl ?_
        refine lv_ldc2 (v := lN 50) C.1 C.2.1 C.2.2.2.1 (C.2.2.2.2.1 _ (List.mem_cons_of_mem _ tg_5_78)) dX9_fault_44 ?_
        refine lv_ldc2 (v := lN 57) C.1 C.2.1 C.2.2.2.1 (C.2.2.2.2.1 _ (List.mem_cons_of_mem _ tg_5_79)) dX9_fault_47 ?_
        obtain ⟨v7, hv7, hf⟩ := of_bind hf
        refine r_callS1 C hG hl.1 (As := [.long v6.toInt64, .long (lN 50), .long (lN 57)]) (mt_X9_isIn l  hv7) (va_cwS 3 C.2.2.2.2.1 (gd_S tg_4_195 tg_4_196 tg_1_10 tg_4_197) rfl rfl rfl cd_X9_isIn.2 ⟨Nat.le_of_ble_eq_true rfl, Nat.le_of_ble_eq_true rfl⟩) rfl rfl (Nat.le_of_ble_eq_true rfl) dX9_fault_50 (fun H locs hG => ?_)
        rcases of_ite hf with ⟨c8, hf⟩ | ⟨c8, hf⟩
        · refine lv_if_eq (tgt := 73) C.1 C.2.1 dX9_fault_53 (by decide) (fun _ => ?_) (fun q => absurd c8 q)
          obtain rfl := Option.some.inj hf
          exact kX0 _ rfl _ _ _ hG (lv_sub hl [3] rfl)
        · refine lv_if_eq (tgt := 73) C.1 C.2.1 dX9_fault_53 (by decide) (fun q => absurd q c8) (fun _ => ?_)
          refine lv_aload_n C.1 C.2.1 dX9_fault_56 rfl (lv_at hl 1 rfl) ?_
          refine lv_iload_n C.1 C.2.1 dX9_fault_57 rfl (lv_at hl 2 rfl) ?_
          refine lv_aload_n C.1 C.2.1 dX9_fault_58 rfl (lv_at hl 1 rfl) ?_
          refine gf_X9_48 C hG rfl dX9_fault_59 ?_
          refine lv_iload_n C.1 C.2.1 dX9_fault_62 rfl (lv_at hl 3 rfl) ?_
          obtain ⟨v9, hv9, hf⟩ := of_bind hf
          obtain ⟨bv9, ev9⟩ := of_ldS hv9
          refine r_iald C hG (c0 := 13) (by decide) (entM_I (n := 60) rfl) bv9 dX9_fault_63 ?_
          refine r_top ev9 ?_
          refine lv_bipush (v := nI 49) C.1 C.2.1 dX9_fault_64 (by decide) ?_
          refine lv_isub C.1 C.2.1 dX9_fault_66 ?_
          obtain ⟨v10, hv10, hf⟩ := of_bind hf
          refine r_callV1 C hG hl.1 (c0 := 0) (As := [.int st.1, .int (v9 - (nI 49))]) (by decide) (entM_O (n := 35) rfl) rfl (mt_X9_comes l  hv10) (cwV 2 C.2.2.2.2.1 (gd_V tg_5_80 tg_5_82 tgp_39 tg_1_10 tg_5_83) rfl rfl rfl cd_X9_comes ⟨Nat.le_of_ble_eq_true rfl, Nat.le_of_ble_eq_true rfl⟩) rfl rfl (Nat.le_of_ble_eq_true rfl) dX9_fault_67 (fun H locs hG => ?_)
          rcases of_ite hf with ⟨c11, hf⟩ | ⟨c11, hf⟩
          · refine lv_if_ne (tgt := 75) C.1 C.2.1 dX9_fault_70 (by decide) (fun q => absurd c11 q) (fun _ => ?_)
            obtain rfl := Option.some.inj hf
            exact kX0 _ rfl _ _ _ hG (lv_sub hl [3] rfl)
          · refine lv_if_ne (tgt := 75) C.1 C.2.1 dX9_fault_70 (by decide) (fun _ => ?_) (fun q => absurd q c11)
            exact kb_X9_fault_75 C  hG (lv_sub hl [1, 3, 0] rfl) hf kL kX0 kX1 kX2
    · refine lv_icmp_ne (tgt := 75) C.1 C.2.1 dX9_fault_29 (by decide) (fun _ => ?_) (fun q => absurd q c4)
      exact kb_X9_fault_75 C  hG (lv_sub hl [1, 3, 0] rfl) hf kL kX0 kX1 kX2
set_option maxRecDepth 100000 in
set_option maxHeartbeats 4000000 in
theorem kl_X9_fault_9  (C : CX p s m args meth c cX9_fault 4 RX9 wc_X9_fault (some .int))  : ∀ (n : Nat) (st : Int32 × Int32 × Mem) (x : (Int32 × Mem) ⊕ (Int32 × Mem) ⊕ (Mem)) (H : Heap) (locs : List Loc) (ls : Array Slot), Gd s G A 28 B (entM G B st.2.2) X H locs → lv_has ls 4 [(0, .ref (B + 0)), (1, .int st.1), (2, .int st.2.1)] → lpw (sh_X9_fault_s9 ) n st = some x →
    (∀ y' : Int32 × Mem, x = (Sum.inl y') → ∀ (H : Heap) (locs : List Loc) (ls : Array Slot), Gd s G A 28 B (entM G B y'.2) X H locs → lv_has ls 4 [(2, .int y'.1)] → W p l e rm_X9_fault s m args below meth c H locs 0 0 Q (F0 m 73 ls [])) →
    (∀ y' : Int32 × Mem, x = (Sum.inr (Sum.inl y')) → ∀ (H : Heap) (locs : List Loc) (ls : Array Slot), Gd s G A 28 B (entM G B y'.2) X H locs → lv_has ls 4 [(2, .int y'.1)] → W p l e rm_X9_fault s m args below meth c H locs 0 0 Q (F0 m 89 ls [])) →
    (∀ y' : Mem, x = (Sum.inr (Sum.inr y')) → ∀ (H : Heap) (locs : List Loc) (ls : Array Slot), Gd s G A 28 B (entM G B y') X H locs → lv_has ls 4 [(0, .ref (B + 0))] → W p l e rm_X9_fault s m args below meth c H locs 0 0 Q (F0 m 99 ls [])) → W p l e rm_X9_fault s m args below meth c H locs 0 0 Q (F0 m 9 ls []) := by
  intro n
  induction n with
  | zero =>
    intro st x H locs ls hG hl hf
    cases hf
  | succ n ih =>
    intro st x H locs ls hG hl hf kX0 kX1 kX2
    obtain ⟨r, hr, hh⟩ := of_lpw hf
    refine kb_X9_fault_9 C  hG hl hr (fun st2 e1 H locs ls hG hl => ?_) (fun y2 e1 H locs ls hG hl => ?_) (fun y2 e1 H locs ls hG hl => ?_) (fun y2 e1 H locs ls hG hl => ?_)
    · rcases hh with ⟨s3, e2, hh⟩ | e2
      · rw [e2] at e1
        cases e1
        exact ih _ _ _ _ _ hG hl hh kX0 kX1 kX2
      · rw [e2] at e1
        cases e1
    · rcases hh with ⟨s3, e2, hh⟩ | e2
      · rw [e2] at e1
        cases e1
      · rw [e2] at e1
        cases e1
        exact kX0 _ rfl _ _ _ hG hl
    · rcases hh with ⟨s3, e2, hh⟩ | e2
      · rw [e2] at e1
        cases e1
      · rw [e2] at e1
        cases e1
        exact kX1 _ rfl _ _ _ hG hl
    · rcases hh with ⟨s3, e2, hh⟩ | e2
      · rw [e2] at e1
        cases e1
      · rw [e2] at e1
        cases e1
        exact kX2 _ rfl _ _ _ hG hl
set_option maxRecDepth 100000 in
set_option maxHeartbeats 4000000 in
theorem kb_X9_fault_0 {w : Mem} {out : Int32 × Mem} {H : Heap} {locs : List Loc} {ls : Array Slot} (C : CX p s m args meth c cX9_fault 4 RX9 wc_X9_fault (some .int))  (hG : Gd s G A 28 B (entM G B w) X H locs) (hl : lv_has ls 4 [(0, .ref (B + 0))]) (hf : sh_X9_fault w = some out) :
    W p l e rm_X9_fault s m args below meth c H locs 0 0 (MQ below (CPost G A 28 B (entM G B out.2) X (some (.int out.1))) args s 0 0 A) (F0 m 0 ls []) := by
  refine lv_aload_n C.1 C.2.1 dX9_fault_0 rfl (lv_at hl 0 rfl) ?_
  refine lv_iconst (v := nI 0) C.1 C.2.1 dX9_fault_1 (by decide) ?_
  obtain ⟨w1, ew1, hf⟩ := of_letv hf
  refine pf_X9_170 C hG rfl dX9_fault_2 (fun H locs hG => ?_)
  rw [← ew1] at hG
  refine lv_iconst (v := (-1 : Int32)) C.1 C.2.1 dX9_fault_5 (by decide) ?_
  refine lv_istore_n (lv' := [(1, .int (-1 : Int32)), (0, .ref (B + 0))]) C.1 C.2.1 dX9_fault_6 rfl hl (by decide) rfl (fun ls hl => ?_)
  refine lv_iconst (v := nI 0) C.1 C.2.1 dX9_fault_7 (by decide) ?_
  refine lv_istore_n (lv' := [(2, .int (nI 0)), (1, .int (-1 : Int32)), (0, .ref (B + 0))]) C.1 C.2.1 dX9_fault_8 rfl hl (by decide) rfl (fun ls hl => ?_)
  obtain ⟨ex2, hex2, hf⟩ := of_bind hf
  refine kl_X9_fault_9 C  FU ((-1 : Int32), nI 0, w1) ex2 _ _ _ hG (lv_sub hl [2, 1, 0] rfl) hex2 (fun y3 e0 H locs ls hG hl => ?_) (fun y4 e0 H locs ls hG hl => ?_) (fun y5 e0 H locs ls hG hl => ?_)
  · subst e0
    simp only [Sum.elim_inl, Sum.elim_inr] at hf
    refine lv_iload_n C.1 C.2.1 dX9_fault_73 rfl (lv_at hl 0 rfl) ?_
    obtain rfl := Option.some.inj hf
    exact r_iret C hG dX9_fault_74
  · subst e0
    simp only [Sum.elim_inl, Sum.elim_inr] at hf
    refine lv_iload_n C.1 C.2.1 dX9_fault_89 rfl (lv_at hl 0 rfl) ?_
    obtain rfl := Option.some.inj hf
    exact r_iret C hG dX9_fault_90
  · subst e0
    simp only [Sum.elim_inl, Sum.elim_inr] at hf
    refine lv_aload_n C.1 C.2.1 dX9_fault_99 rfl (lv_at hl 0 rfl) ?_
    refine gf_X9_185 C hG rfl dX9_fault_100 ?_
    rcases of_ite hf with ⟨c6, hf⟩ | ⟨c6, hf⟩
    · refine lv_if_ne (tgt := 110) C.1 C.2.1 dX9_fault_103 (by decide) (fun q => absurd c6 q) (fun _ => ?_)
      refine lv_iconst (v := nI 0) C.1 C.2.1 dX9_fault_106 (by decide) ?_
      refine lv_goto (tgt := 111) C.1 C.2.1 dX9_fault_107 (by decide) ?_
      obtain rfl := Option.some.inj hf
      exact r_iret C hG dX9_fault_111
    · refine lv_if_ne (tgt := 110) C.1 C.2.1 dX9_fault_103 (by decide) (fun _ => ?_) (fun q => absurd q c6)
      refine lv_iconst (v := (-1 : Int32)) C.1 C.2.1 dX9_fault_110 (by decide) ?_
      obtain rfl := Option.some.inj hf
      exact r_iret C hG dX9_fault_111
set_option maxRecDepth 100000 in
set_option maxHeartbeats 4000000 in
theorem mt_X9_fault (l : Launch) {G : GG} {A : Nat → Prop} {B : Nat} {X : va_W} {w : Mem} {out : Int32 × Mem}  (hf : sh_X9_fault w = some out) : MetW l yX9_fault wc_X9_fault rm_X9_fault G A 28 B (entM G B w) X [.ref (B + 0)] (some (.int out.1)) (entM G B out.2) := by
  refine Met.ofW (cc := cX9_fault) (maxL := 4) (ret := (some .int)) (by decide) rfl ?_
  intro p e s m args below meth c s₁ B0 hml hv
  obtain ⟨rfl, hEv, hWd⟩ := hv
  have C : CX p s m _ meth c cX9_fault 4 RX9 wc_X9_fault (some .int) := ⟨B0.exec, B0.bytes, hml, findClass_of_methodNamed B0.named, atoms_spec (ws := wc_X9_fault) B0.pre, B0.returns, B0.notSynchronized⟩
  have hl := lv_entry [.ref (B + 0)] (n := 4) (Nat.le_of_ble_eq_true rfl)
  rw [lg_entry_eq]
  generalize (lg_sl [.ref (B + 0)] ++ List.replicate (4 - (lg_sl [.ref (B + 0)]).length) Slot.unset).toArray = ls at hl ⊢
  have hl : lv_has ls 4 [(0, .ref (B + 0))] := hl
  exact kb_X9_fault_0 C  ⟨hEv, hWd, va_S.rf⟩ hl hf
abbrev wc_X9_surface : List Cond := Cond.code yX9_surface cX9_surface 3 (some .int) :: TG
abbrev rm_X9_surface : Room := { frames := 7, cells := 0, slots := 0, locals := 213 }
theorem cd_X9_surface : yX9_surface.cls = RX9 ∧ yX9_surface.cls ≠ "java/lang/invoke/MethodHandle" ∧ yX9_surface.cls ≠ "java/lang/invoke/VarHandle" ∧ (parseMethodDescriptor yX9_surface.desc).map (fun d => d.parameters.length) = some 1 := by decide +kernel
theorem dX9_surface_0 : decode cX9_surface 0 = .ok (.iload_n 1, 1) := by decide +kernel
theorem dX9_surface_1 : decode cX9_surface 1 = .ok (.invokestatic 205, 3) := by decide +kernel
theorem dX9_surface_4 : decode cX9_surface 4 = .ok (.ifCond .ne 5, 3) := by decide +kernel
theorem dX9_surface_7 : decode cX9_surface 7 = .ok (.iconst (-1), 1) := by decide +kernel
theorem dX9_surface_8 : decode cX9_surface 8 = .ok (.ireturn, 1) := by decide +kernel
theorem dX9_surface_9 : decode cX9_surface 9 = .ok (.aload_n 0, 1) := by decide +kernel
theorem dX9_surface_10 : decode cX9_surface 10 = .ok (.invokevirtual 208, 3) := by decide +kernel
theorem dX9_surface_13 : decode cX9_surface 13 = .ok (.istore_n 2, 1) := by decide +kernel
theorem dX9_surface_14 : decode cX9_surface 14 = .ok (.aload_n 0, 1) := by decide +kernel
theorem dX9_surface_15 : decode cX9_surface 15 = .ok (.iconst 0, 1) := by decide +kernel
theorem dX9_surface_16 : decode cX9_surface 16 = .ok (.putfield 185, 3) := by decide +kernel
theorem dX9_surface_19 : decode cX9_surface 19 = .ok (.iload_n 2, 1) := by decide +kernel
theorem dX9_surface_20 : decode cX9_surface 20 = .ok (.iconst (-1), 1) := by decide +kernel
theorem dX9_surface_21 : decode cX9_surface 21 = .ok (.if_icmp .eq 8, 3) := by decide +kernel
theorem dX9_surface_24 : decode cX9_surface 24 = .ok (.bipush (-100), 2) := by decide +kernel
theorem dX9_surface_26 : decode cX9_surface 26 = .ok (.iload_n 2, 1) := by decide +kernel
theorem dX9_surface_27 : decode cX9_surface 27 = .ok (.isub, 1) := by decide +kernel
theorem dX9_surface_28 : decode cX9_surface 28 = .ok (.ireturn, 1) := by decide +kernel
theorem dX9_surface_29 : decode cX9_surface 29 = .ok (.aload_n 0, 1) := by decide +kernel
theorem dX9_surface_30 : decode cX9_surface 30 = .ok (.iload_n 1, 1) := by decide +kernel
theorem dX9_surface_31 : decode cX9_surface 31 = .ok (.invokevirtual 211, 3) := by decide +kernel
theorem dX9_surface_34 : decode cX9_surface 34 = .ok (.aload_n 0, 1) := by decide +kernel
theorem dX9_surface_35 : decode cX9_surface 35 = .ok (.getfield 170, 3) := by decide +kernel
theorem dX9_surface_38 : decode cX9_surface 38 = .ok (.ireturn, 1) := by decide +kernel
set_option maxRecDepth 100000 in
set_option maxHeartbeats 4000000 in
theorem kb_X9_surface_0 {x1 : Int32} {w : Mem} {out : Int32 × Mem} {H : Heap} {locs : List Loc} {ls : Array Slot} (C : CX p s m args meth c cX9_surface 3 RX9 wc_X9_surface (some .int))  (hG : Gd s G A 28 B (entM G B w) X H locs) (hl : lv_has ls 3 [(0, .ref (B + 0)), (1, .int x1)]) (hf : sh_X9_surface x1 w = some out) :
    W p l e rm_X9_surface s m args below meth c H locs 0 0 (MQ below (CPost G A 28 B (entM G B out.2) X (some (.int out.1))) args s 0 0 A) (F0 m 0 ls []) := by
  refine lv_iload_n C.1 C.2.1 dX9_surface_0 rfl (lv_at hl 1 rfl) ?_
  obtain ⟨v1, hv1, hf⟩ := of_bind hf
  refine r_callS1 C hG hl.1 (As := [.int x1]) (mt_X9_isSurface l  hv1) (va_cwS 1 C.2.2.2.2.1 (gd_S tg_5_64 tg_5_65 tg_1_10 tg_5_66) rfl rfl rfl cd_X9_isSurface.2 ⟨Nat.le_of_ble_eq_true rfl, Nat.le_of_ble_eq_true rfl⟩) rfl rfl (Nat.le_of_ble_eq_true rfl) dX9_surface_1 (fun H locs hG => ?_)
  rcases of_ite hf with ⟨c2, hf⟩ | ⟨c2, hf⟩
  · refine lv_if_ne (tgt := 9) C.1 C.2.1 dX9_surface_4 (by decide) (fun q => absurd c2 q) (fun _ => ?_)
    refine lv_iconst (v := (-1 : Int32)) C.1 C.2.1 dX9_surface_7 (by decide) ?_
    obtain rfl := Option.some.inj hf
    exact r_iret C hG dX9_surface_8
  · refine lv_if_ne (tgt := 9) C.1 C.2.1 dX9_surface_4 (by decide) (fun _ => ?_) (fun q => absurd q c2)
    refine lv_aload_n C.1 C.2.1 dX9_surface_9 rfl (lv_at hl 0 rfl) ?_
    obtain ⟨v3, hv3, hf⟩ := of_bind hf
    refine r_callV1 C hG hl.1 (c0 := 0) (As := []) (by decide) (entM_O (n := 35) rfl) rfl (mt_X9_fault l  hv3) (cwV 0 C.2.2.2.2.1 (gd_V tg_5_68 tg_5_70 tgp_38 tg_1_10 tg_5_71) rfl rfl rfl cd_X9_fault ⟨Nat.le_of_ble_eq_true rfl, Nat.le_of_ble_eq_true rfl⟩) rfl rfl (Nat.le_of_ble_eq_true rfl) dX9_surface_10 (fun H locs hG => ?_)
    refine lv_istore_n (lv' := [(2, .int v3.1), (0, .ref (B + 0)), (1, .int x1)]) C.1 C.2.1 dX9_surface_13 rfl hl (by decide) rfl (fun ls hl => ?_)
    refine lv_aload_n C.1 C.2.1 dX9_surface_14 rfl (lv_at hl 1 rfl) ?_
    refine lv_iconst (v := nI 0) C.1 C.2.1 dX9_surface_15 (by decide) ?_
    obtain ⟨w4, ew4, hf⟩ := of_letv hf
    refine pf_X9_185 C hG rfl dX9_surface_16 (fun H locs hG => ?_)
    rw [← ew4] at hG
    refine lv_iload_n C.1 C.2.1 dX9_surface_19 rfl (lv_at hl 0 rfl) ?_
    refine lv_iconst (v := (-1 : Int32)) C.1 C.2.1 dX9_surface_20 (by decide) ?_
    rcases of_ite hf with ⟨c5, hf⟩ | ⟨c5, hf⟩
    · refine lv_icmp_eq (tgt := 29) C.1 C.2.1 dX9_surface_21 (by decide) (fun _ => ?_) (fun q => absurd c5 q)
      refine lv_aload_n C.1 C.2.1 dX9_surface_29 rfl (lv_at hl 1 rfl) ?_
      refine lv_iload_n C.1 C.2.1 dX9_surface_30 rfl (lv_at hl 2 rfl) ?_
      obtain ⟨w6, hw6, hf⟩ := of_bind hf
      refine r_callV0 C hG hl.1 (c0 := 0) (As := [.int x1]) (by decide) (entM_O (n := 35) rfl) rfl (mt_X9_saves l  hw6) (cwV 1 C.2.2.2.2.1 (gd_V tg_5_99 tg_5_101 tgp_43 tg_1_10 tg_5_102) rfl rfl rfl cd_X9_saves ⟨Nat.le_of_ble_eq_true rfl, Nat.le_of_ble_eq_true rfl⟩) rfl rfl (Nat.le_of_ble_eq_true rfl) dX9_surface_31 (fun H locs hG => ?_)
      refine lv_aload_n C.1 C.2.1 dX9_surface_34 rfl (lv_at hl 1 rfl) ?_
      refine gf_X9_170 C hG rfl dX9_surface_35 ?_
      obtain rfl := Option.some.inj hf
      exact r_iret C hG dX9_surface_38
    · refine lv_icmp_eq (tgt := 29) C.1 C.2.1 dX9_surface_21 (by decide) (fun q => absurd q c5) (fun _ => ?_)
      refine lv_bipush (v := (-100 : Int32)) C.1 C.2.1 dX9_surface_24 (by decide) ?_
      refine lv_iload_n C.1 C.2.1 dX9_surface_26 rfl (lv_at hl 0 rfl) ?_
      refine lv_isub C.1 C.2.1 dX9_surface_27 ?_
      obtain rfl := Option.some.inj hf
      exact r_iret C hG dX9_surface_28
set_option maxRecDepth 100000 in
set_option maxHeartbeats 4000000 in
theorem mt_X9_surface (l : Launch) {G : GG} {A : Nat → Prop} {B : Nat} {X : va_W} {x1 : Int32} {w : Mem} {out : Int32 × Mem}  (hf : sh_X9_surface x1 w = some out) : MetW l yX9_surface wc_X9_surface rm_X9_surface G A 28 B (entM G B w) X [.ref (B + 0), .int x1] (some (.int out.1)) (entM G B out.2) := by
  refine Met.ofW (cc := cX9_surface) (maxL := 3) (ret := (some .int)) (by decide) rfl ?_
  intro p e s m args below meth c s₁ B0 hml hv
  obtain ⟨rfl, hEv, hWd⟩ := hv
  have C : CX p s m _ meth c cX9_surface 3 RX9 wc_X9_surface (some .int) := ⟨B0.exec, B0.bytes, hml, findClass_of_methodNamed B0.named, atoms_spec (ws := wc_X9_surface) B0.pre, B0.returns, B0.notSynchronized⟩
  have hl := lv_entry [.ref (B + 0), .int x1] (n := 3) (Nat.le_of_ble_eq_true rfl)
  rw [lg_entry_eq]
  generalize (lg_sl [.ref (B + 0), .int x1] ++ List.replicate (3 - (lg_sl [.ref (B + 0), .int x1]).length) Slot.unset).toArray = ls at hl ⊢
  have hl : lv_has ls 3 [(0, .ref (B + 0)), (1, .int x1)] := hl
  exact kb_X9_surface_0 C  ⟨hEv, hWd, va_S.rf⟩ hl hf
abbrev wc_X9_piece : List Cond := Cond.code yX9_piece cX9_piece 3 (some .int) :: TG
abbrev rm_X9_piece : Room := { frames := 5, cells := 0, slots := 0, locals := 167 }
theorem cd_X9_piece : yX9_piece.cls = RX9 ∧ yX9_piece.cls ≠ "java/lang/invoke/MethodHandle" ∧ yX9_piece.cls ≠ "java/lang/invoke/VarHandle" ∧ (parseMethodDescriptor yX9_piece.desc).map (fun d => d.parameters.length) = some 2 := by decide +kernel
theorem dX9_piece_0 : decode cX9_piece 0 = .ok (.iload_n 1, 1) := by decide +kernel
theorem dX9_piece_1 : decode cX9_piece 1 = .ok (.invokestatic 205, 3) := by decide +kernel
theorem dX9_piece_4 : decode cX9_piece 4 = .ok (.ifCond .eq 15, 3) := by decide +kernel
theorem dX9_piece_7 : decode cX9_piece 7 = .ok (.iload_n 2, 1) := by decide +kernel
theorem dX9_piece_8 : decode cX9_piece 8 = .ok (.i2l, 1) := by decide +kernel
theorem dX9_piece_9 : decode cX9_piece 9 = .ok (.lconst 0, 1) := by decide +kernel
theorem dX9_piece_10 : decode cX9_piece 10 = .ok (.ldc2_w 105, 3) := by decide +kernel
theorem dX9_piece_13 : decode cX9_piece 13 = .ok (.invokestatic 93, 3) := by decide +kernel
theorem dX9_piece_16 : decode cX9_piece 16 = .ok (.ifCond .ne 5, 3) := by decide +kernel
theorem dX9_piece_19 : decode cX9_piece 19 = .ok (.iconst (-1), 1) := by decide +kernel
theorem dX9_piece_20 : decode cX9_piece 20 = .ok (.ireturn, 1) := by decide +kernel
theorem dX9_piece_21 : decode cX9_piece 21 = .ok (.aload_n 0, 1) := by decide +kernel
theorem dX9_piece_22 : decode cX9_piece 22 = .ok (.iload_n 1, 1) := by decide +kernel
theorem dX9_piece_23 : decode cX9_piece 23 = .ok (.invokevirtual 214, 3) := by decide +kernel
theorem dX9_piece_26 : decode cX9_piece 26 = .ok (.aload_n 0, 1) := by decide +kernel
theorem dX9_piece_27 : decode cX9_piece 27 = .ok (.iload_n 2, 1) := by decide +kernel
theorem dX9_piece_28 : decode cX9_piece 28 = .ok (.invokevirtual 188, 3) := by decide +kernel
theorem dX9_piece_31 : decode cX9_piece 31 = .ok (.ifCond .ne 6, 3) := by decide +kernel
theorem dX9_piece_34 : decode cX9_piece 34 = .ok (.bipush (-3), 2) := by decide +kernel
theorem dX9_piece_36 : decode cX9_piece 36 = .ok (.ireturn, 1) := by decide +kernel
theorem dX9_piece_37 : decode cX9_piece 37 = .ok (.aload_n 0, 1) := by decide +kernel
theorem dX9_piece_38 : decode cX9_piece 38 = .ok (.getfield 170, 3) := by decide +kernel
theorem dX9_piece_41 : decode cX9_piece 41 = .ok (.bipush 24, 2) := by decide +kernel
theorem dX9_piece_43 : decode cX9_piece 43 = .ok (.if_icmp .ne 6, 3) := by decide +kernel
theorem dX9_piece_46 : decode cX9_piece 46 = .ok (.bipush (-4), 2) := by decide +kernel
theorem dX9_piece_48 : decode cX9_piece 48 = .ok (.ireturn, 1) := by decide +kernel
theorem dX9_piece_49 : decode cX9_piece 49 = .ok (.aload_n 0, 1) := by decide +kernel
theorem dX9_piece_50 : decode cX9_piece 50 = .ok (.iload_n 2, 1) := by decide +kernel
theorem dX9_piece_51 : decode cX9_piece 51 = .ok (.invokevirtual 191, 3) := by decide +kernel
theorem dX9_piece_54 : decode cX9_piece 54 = .ok (.aload_n 0, 1) := by decide +kernel
theorem dX9_piece_55 : decode cX9_piece 55 = .ok (.iload_n 1, 1) := by decide +kernel
theorem dX9_piece_56 : decode cX9_piece 56 = .ok (.invokevirtual 211, 3) := by decide +kernel
theorem dX9_piece_59 : decode cX9_piece 59 = .ok (.aload_n 0, 1) := by decide +kernel
theorem dX9_piece_60 : decode cX9_piece 60 = .ok (.getfield 170, 3) := by decide +kernel
theorem dX9_piece_63 : decode cX9_piece 63 = .ok (.ireturn, 1) := by decide +kernel
set_option maxRecDepth 100000 in
set_option maxHeartbeats 4000000 in
theorem kb_X9_piece_0 {x1 : Int32} {x2 : Int32} {w : Mem} {out : Int32 × Mem} {H : Heap} {locs : List Loc} {ls : Array Slot} (C : CX p s m args meth c cX9_piece 3 RX9 wc_X9_piece (some .int))  (hG : Gd s G A 28 B (entM G B w) X H locs) (hl : lv_has ls 3 [(0, .ref (B + 0)), (1, .int x1), (2, .int x2)]) (hf : sh_X9_piece x1 x2 w = some out) :
    W p l e rm_X9_piece s m args below meth c H locs 0 0 (MQ below (CPost G A 28 B (entM G B out.2) X (some (.int out.1))) args s 0 0 A) (F0 m 0 ls []) := by
  refine lv_iload_n C.1 C.2.1 dX9_piece_0 rfl (lv_at hl 1 rfl) ?_
  obtain ⟨v1, hv1, hf⟩ := of_bind hf
  refine r_callS1 C hG hl.1 (As := [.int x1]) (mt_X9_isSurface l  hv1) (va_cwS 1 C.2.2.2.2.1 (gd_S tg_5_64 tg_5_65 tg_1_10 tg_5_66) rfl rfl rfl cd_X9_isSurface.2 ⟨Nat.le_of_ble_eq_true rfl, Nat.le_of_ble_eq_true rfl⟩) rfl rfl (Nat.le_of_ble_eq_true rfl) dX9_piece_1 (fun H locs hG => ?_)
  rcases of_ite hf with ⟨c2, hf⟩ | ⟨c2, hf⟩
  · refine lv_if_eq (tgt := 19) C.1 C.2.1 dX9_piece_4 (by decide) (fun _ => ?_) (fun q => absurd c2 q)
    refine lv_iconst (v := (-1 : Int32)) C.1 C.2.1 dX9_piece_19 (by decide) ?_
    obtain rfl := Option.some.inj hf
    exact r_iret C hG dX9_piece_20
  · refine lv_if_eq (tgt := 19) C.1 C.2.1 dX9_piece_4 (by decide) (fun q => absurd q c2) (fun _ => ?_)
    refine lv_iload_n C.1 C.2.1 dX9_piece_7 rfl (lv_at hl 2 rfl) ?_
    refine lv_i2l C.1 C.2.1 dX9_piece_8 rfl ?_
    refine lv_lconst (v := lN 0) C.1 C.2.1 dX9_piece_9 rfl ?_
    refine lv_ldc2 (v := lN 6) C.1 C.2.1 C.2.2.2.1 (C.2.2.2.2.1 _ (List.mem_cons_of_mem _ tg_4_199)) dX9_piece_10 ?_
    obtain ⟨v3, hv3, hf⟩ := of_bind hf
    refine r_callS1 C hG hl.1 (As := [.long x2.toInt64, .long (lN 0), .long (lN 6)]) (mt_X9_isIn l  hv3) (va_cwS 3 C.2.2.2.2.1 (gd_S tg_4_195 tg_4_196 tg_1_10 tg_4_197) rfl rfl rfl cd_X9_isIn.2 ⟨Nat.le_of_ble_eq_true rfl, Nat.le_of_ble_eq_true rfl⟩) rfl rfl (Nat.le_of_ble_eq_true rfl) dX9_piece_13 (fun H locs hG => ?_)
    rcases of_ite hf with ⟨c4, hf⟩ | ⟨c4, hf⟩
    · refine lv_if_ne (tgt := 21) C.1 C.2.1 dX9_piece_16 (by decide) (fun q => absurd c4 q) (fun _ => ?_)
      refine lv_iconst (v := (-1 : Int32)) C.1 C.2.1 dX9_piece_19 (by decide) ?_
      obtain rfl := Option.some.inj hf
      exact r_iret C hG dX9_piece_20
    · refine lv_if_ne (tgt := 21) C.1 C.2.1 dX9_piece_16 (by decide) (fun _ => ?_) (fun q => absurd q c4)
      refine lv_aload_n C.1 C.2.1 dX9_piece_21 rfl (lv_at hl 0 rfl) ?_
      refine lv_iload_n C.1 C.2.1 dX9_piece_22 rfl (lv_at hl 1 rfl) ?_
      obtain ⟨w5, hw5, hf⟩ := of_bind hf
      refine r_callV0 C hG hl.1 (c0 := 0) (As := [.int x1]) (by decide) (entM_O (n := 35) rfl) rfl (mt_X9_loads l  hw5) (cwV 1 C.2.2.2.2.1 (gd_V tg_5_107 tg_5_109 tgp_44 tg_1_10 tg_5_110) rfl rfl rfl cd_X9_loads ⟨Nat.le_of_ble_eq_true rfl, Nat.le_of_ble_eq_true rfl⟩) rfl rfl (Nat.le_of_ble_eq_true rfl) dX9_piece_23 (fun H locs hG => ?_)
      refine lv_aload_n C.1 C.2.1 dX9_piece_26 rfl (lv_at hl 0 rfl) ?_
      refine lv_iload_n C.1 C.2.1 dX9_piece_27 rfl (lv_at hl 2 rfl) ?_
      obtain ⟨v6, hv6, hf⟩ := of_bind hf
      refine r_callV1 C hG hl.1 (c0 := 0) (As := [.int x2]) (by decide) (entM_O (n := 35) rfl) rfl (mt_X9_canStand l  hv6) (cwV 1 C.2.2.2.2.1 (gd_V tg_5_84 tg_5_86 tgp_40 tg_1_10 tg_5_87) rfl rfl rfl cd_X9_canStand ⟨Nat.le_of_ble_eq_true rfl, Nat.le_of_ble_eq_true rfl⟩) rfl rfl (Nat.le_of_ble_eq_true rfl) dX9_piece_28 (fun H locs hG => ?_)
      rcases of_ite hf with ⟨c7, hf⟩ | ⟨c7, hf⟩
      · refine lv_if_ne (tgt := 37) C.1 C.2.1 dX9_piece_31 (by decide) (fun q => absurd c7 q) (fun _ => ?_)
        refine lv_bipush (v := (-3 : Int32)) C.1 C.2.1 dX9_piece_34 (by decide) ?_
        obtain rfl := Option.some.inj hf
        exact r_iret C hG dX9_piece_36
      · refine lv_if_ne (tgt := 37) C.1 C.2.1 dX9_piece_31 (by decide) (fun _ => ?_) (fun q => absurd q c7)
        refine lv_aload_n C.1 C.2.1 dX9_piece_37 rfl (lv_at hl 0 rfl) ?_
        refine gf_X9_170 C hG rfl dX9_piece_38 ?_
        refine lv_bipush (v := nI 24) C.1 C.2.1 dX9_piece_41 (by decide) ?_
        rcases of_ite hf with ⟨c8, hf⟩ | ⟨c8, hf⟩
        · refine lv_icmp_ne (tgt := 49) C.1 C.2.1 dX9_piece_43 (by decide) (fun q => absurd c8 q) (fun _ => ?_)
          refine lv_bipush (v := (-4 : Int32)) C.1 C.2.1 dX9_piece_46 (by decide) ?_
          obtain rfl := Option.some.inj hf
          exact r_iret C hG dX9_piece_48
        · refine lv_icmp_ne (tgt := 49) C.1 C.2.1 dX9_piece_43 (by decide) (fun _ => ?_) (fun q => absurd q c8)
          refine lv_aload_n C.1 C.2.1 dX9_piece_49 rfl (lv_at hl 0 rfl) ?_
          refine lv_iload_n C.1 C.2.1 dX9_piece_50 rfl (lv_at hl 2 rfl) ?_
          obtain ⟨w9, hw9, hf⟩ := of_bind hf
          refine r_callV0 C hG hl.1 (c0 := 0) (As := [.int x2]) (by decide) (entM_O (n := 35) rfl) rfl (mt_X9_adds l  hw9) (cwV 1 C.2.2.2.2.1 (gd_V tg_5_95 tg_5_97 tgp_42 tg_1_10 tg_5_98) rfl rfl rfl cd_X9_adds ⟨Nat.le_of_ble_eq_true rfl, Nat.le_of_ble_eq_true rfl⟩) rfl rfl (Nat.le_of_ble_eq_true rfl) dX9_piece_51 (fun H locs hG => ?_)
          refine lv_aload_n C.1 C.2.1 dX9_piece_54 rfl (lv_at hl 0 rfl) ?_
          refine lv_iload_n C.1 C.2.1 dX9_piece_55 rfl (lv_at hl 1 rfl) ?_
          obtain ⟨w10, hw10, hf⟩ := of_bind hf
          refine r_callV0 C hG hl.1 (c0 := 0) (As := [.int x1]) (by decide) (entM_O (n := 35) rfl) rfl (mt_X9_saves l  hw10) (cwV 1 C.2.2.2.2.1 (gd_V tg_5_99 tg_5_101 tgp_43 tg_1_10 tg_5_102) rfl rfl rfl cd_X9_saves ⟨Nat.le_of_ble_eq_true rfl, Nat.le_of_ble_eq_true rfl⟩) rfl rfl (Nat.le_of_ble_eq_true rfl) dX9_piece_56 (fun H locs hG => ?_)
          refine lv_aload_n C.1 C.2.1 dX9_piece_59 rfl (lv_at hl 0 rfl) ?_
          refine gf_X9_170 C hG rfl dX9_piece_60 ?_
          obtain rfl := Option.some.inj hf
          exact r_iret C hG dX9_piece_63
set_option maxRecDepth 100000 in
set_option maxHeartbeats 4000000 in
theorem mt_X9_piece (l : Launch) {G : GG} {A : Nat → Prop} {B : Nat} {X : va_W} {x1 : Int32} {x2 : Int32} {w : Mem} {out : Int32 × Mem}  (hf : sh_X9_piece x1 x2 w = some out) : MetW l yX9_piece wc_X9_piece rm_X9_piece G A 28 B (entM G B w) X [.ref (B + 0), .int x1, .int x2] (some (.int out.1)) (entM G B out.2) := by
  refine Met.ofW (cc := cX9_piece) (maxL := 3) (ret := (some .int)) (by decide) rfl ?_
  intro p e s m args below meth c s₁ B0 hml hv
  obtain ⟨rfl, hEv, hWd⟩ := hv
  have C : CX p s m _ meth c cX9_piece 3 RX9 wc_X9_piece (some .int) := ⟨B0.exec, B0.bytes, hml, findClass_of_methodNamed B0.named, atoms_spec (ws := wc_X9_piece) B0.pre, B0.returns, B0.notSynchronized⟩
  have hl := lv_entry [.ref (B + 0), .int x1, .int x2] (n := 3) (Nat.le_of_ble_eq_true rfl)
  rw [lg_entry_eq]
  generalize (lg_sl [.ref (B + 0), .int x1, .int x2] ++ List.replicate (3 - (lg_sl [.ref (B + 0), .int x1, .int x2]).length) Slot.unset).toArray = ls at hl ⊢
  have hl : lv_has ls 3 [(0, .ref (B + 0)), (1, .int x1), (2, .int x2)] := hl
  exact kb_X9_piece_0 C  ⟨hEv, hWd, va_S.rf⟩ hl hf
abbrev wc_X9_pieceOf : List Cond := Cond.code yX9_pieceOf cX9_pieceOf 3 (some .int) :: TG
abbrev rm_X9_pieceOf : Room := { frames := 4, cells := 0, slots := 0, locals := 145 }
theorem cd_X9_pieceOf : yX9_pieceOf.cls = RX9 ∧ yX9_pieceOf.cls ≠ "java/lang/invoke/MethodHandle" ∧ yX9_pieceOf.cls ≠ "java/lang/invoke/VarHandle" ∧ (parseMethodDescriptor yX9_pieceOf.desc).map (fun d => d.parameters.length) = some 2 := by decide +kernel
theorem dX9_pieceOf_0 : decode cX9_pieceOf 0 = .ok (.iload_n 1, 1) := by decide +kernel
theorem dX9_pieceOf_1 : decode cX9_pieceOf 1 = .ok (.invokestatic 205, 3) := by decide +kernel
theorem dX9_pieceOf_4 : decode cX9_pieceOf 4 = .ok (.ifCond .eq 41, 3) := by decide +kernel
theorem dX9_pieceOf_7 : decode cX9_pieceOf 7 = .ok (.iload_n 2, 1) := by decide +kernel
theorem dX9_pieceOf_8 : decode cX9_pieceOf 8 = .ok (.i2l, 1) := by decide +kernel
theorem dX9_pieceOf_9 : decode cX9_pieceOf 9 = .ok (.lconst 0, 1) := by decide +kernel
theorem dX9_pieceOf_10 : decode cX9_pieceOf 10 = .ok (.aload_n 0, 1) := by decide +kernel
theorem dX9_pieceOf_11 : decode cX9_pieceOf 11 = .ok (.getfield 11, 3) := by decide +kernel
theorem dX9_pieceOf_14 : decode cX9_pieceOf 14 = .ok (.bipush 13, 2) := by decide +kernel
theorem dX9_pieceOf_16 : decode cX9_pieceOf 16 = .ok (.iload_n 1, 1) := by decide +kernel
theorem dX9_pieceOf_17 : decode cX9_pieceOf 17 = .ok (.iadd, 1) := by decide +kernel
theorem dX9_pieceOf_18 : decode cX9_pieceOf 18 = .ok (.iaload, 1) := by decide +kernel
theorem dX9_pieceOf_19 : decode cX9_pieceOf 19 = .ok (.iconst 1, 1) := by decide +kernel
theorem dX9_pieceOf_20 : decode cX9_pieceOf 20 = .ok (.isub, 1) := by decide +kernel
theorem dX9_pieceOf_21 : decode cX9_pieceOf 21 = .ok (.i2l, 1) := by decide +kernel
theorem dX9_pieceOf_22 : decode cX9_pieceOf 22 = .ok (.invokestatic 93, 3) := by decide +kernel
theorem dX9_pieceOf_25 : decode cX9_pieceOf 25 = .ok (.ifCond .eq 20, 3) := by decide +kernel
theorem dX9_pieceOf_28 : decode cX9_pieceOf 28 = .ok (.aload_n 0, 1) := by decide +kernel
theorem dX9_pieceOf_29 : decode cX9_pieceOf 29 = .ok (.getfield 11, 3) := by decide +kernel
theorem dX9_pieceOf_32 : decode cX9_pieceOf 32 = .ok (.bipush 17, 2) := by decide +kernel
theorem dX9_pieceOf_34 : decode cX9_pieceOf 34 = .ok (.bipush 24, 2) := by decide +kernel
theorem dX9_pieceOf_36 : decode cX9_pieceOf 36 = .ok (.iload_n 1, 1) := by decide +kernel
theorem dX9_pieceOf_37 : decode cX9_pieceOf 37 = .ok (.imul, 1) := by decide +kernel
theorem dX9_pieceOf_38 : decode cX9_pieceOf 38 = .ok (.iadd, 1) := by decide +kernel
theorem dX9_pieceOf_39 : decode cX9_pieceOf 39 = .ok (.iload_n 2, 1) := by decide +kernel
theorem dX9_pieceOf_40 : decode cX9_pieceOf 40 = .ok (.iadd, 1) := by decide +kernel
theorem dX9_pieceOf_41 : decode cX9_pieceOf 41 = .ok (.iaload, 1) := by decide +kernel
theorem dX9_pieceOf_42 : decode cX9_pieceOf 42 = .ok (.goto 4, 3) := by decide +kernel
theorem dX9_pieceOf_45 : decode cX9_pieceOf 45 = .ok (.iconst (-1), 1) := by decide +kernel
theorem dX9_pieceOf_46 : decode cX9_pieceOf 46 = .ok (.ireturn, 1) := by decide +kernel
set_option maxRecDepth 100000 in
set_option maxHeartbeats 4000000 in
theorem kb_X9_pieceOf_0 {x1 : Int32} {x2 : Int32} {w : Mem} {out : Int32} {H : Heap} {locs : List Loc} {ls : Array Slot} (C : CX p s m args meth c cX9_pieceOf 3 RX9 wc_X9_pieceOf (some .int))  (hG : Gd s G A 28 B (entM G B w) X H locs) (hl : lv_has ls 3 [(0, .ref (B + 0)), (1, .int x1), (2, .int x2)]) (hf : sh_X9_pieceOf x1 x2 w = some out) :
    W p l e rm_X9_pieceOf s m args below meth c H locs 0 0 (MQ below (CPost G A 28 B (entM G B w) X (some (.int out))) args s 0 0 A) (F0 m 0 ls []) := by
  refine lv_iload_n C.1 C.2.1 dX9_pieceOf_0 rfl (lv_at hl 1 rfl) ?_
  obtain ⟨v1, hv1, hf⟩ := of_bind hf
  refine r_callS1 C hG hl.1 (As := [.int x1]) (mt_X9_isSurface l  hv1) (va_cwS 1 C.2.2.2.2.1 (gd_S tg_5_64 tg_5_65 tg_1_10 tg_5_66) rfl rfl rfl cd_X9_isSurface.2 ⟨Nat.le_of_ble_eq_true rfl, Nat.le_of_ble_eq_true rfl⟩) rfl rfl (Nat.le_of_ble_eq_true rfl) dX9_pieceOf_1 (fun H locs hG => ?_)
  rcases of_ite hf with ⟨c2, hf⟩ | ⟨c2, hf⟩
  · refine lv_if_eq (tgt := 45) C.1 C.2.1 dX9_pieceOf_4 (by decide) (fun _ => ?_) (fun q => absurd c2 q)
    refine lv_iconst (v := (-1 : Int32)) C.1 C.2.1 dX9_pieceOf_45 (by decide) ?_
    obtain rfl := Option.some.inj hf
    exact r_iret C hG dX9_pieceOf_46
  · refine lv_if_eq (tgt := 45) C.1 C.2.1 dX9_pieceOf_4 (by decide) (fun q => absurd q c2) (fun _ => ?_)
    refine lv_iload_n C.1 C.2.1 dX9_pieceOf_7 rfl (lv_at hl 2 rfl) ?_
    refine lv_i2l C.1 C.2.1 dX9_pieceOf_8 rfl ?_
    refine lv_lconst (v := lN 0) C.1 C.2.1 dX9_pieceOf_9 rfl ?_
    refine lv_aload_n C.1 C.2.1 dX9_pieceOf_10 rfl (lv_at hl 0 rfl) ?_
    refine gf_X9_11 C hG rfl dX9_pieceOf_11 ?_
    refine lv_bipush (v := nI 13) C.1 C.2.1 dX9_pieceOf_14 (by decide) ?_
    refine lv_iload_n C.1 C.2.1 dX9_pieceOf_16 rfl (lv_at hl 1 rfl) ?_
    refine lv_iadd C.1 C.2.1 dX9_pieceOf_17 ?_
    obtain ⟨v3, hv3, hf⟩ := of_bind hf
    obtain ⟨bv3, ev3⟩ := of_ldS hv3
    refine r_iald C hG (c0 := 1) (by decide) (entM_I (n := 130) rfl) bv3 dX9_pieceOf_18 ?_
    refine r_top ev3 ?_
    refine lv_iconst (v := nI 1) C.1 C.2.1 dX9_pieceOf_19 (by decide) ?_
    refine lv_isub C.1 C.2.1 dX9_pieceOf_20 ?_
    refine lv_i2l C.1 C.2.1 dX9_pieceOf_21 rfl ?_
    obtain ⟨v4, hv4, hf⟩ := of_bind hf
    refine r_callS1 C hG hl.1 (As := [.long x2.toInt64, .long (lN 0), .long ((v3 - (nI 1)).toInt64)]) (mt_X9_isIn l  hv4) (va_cwS 3 C.2.2.2.2.1 (gd_S tg_4_195 tg_4_196 tg_1_10 tg_4_197) rfl rfl rfl cd_X9_isIn.2 ⟨Nat.le_of_ble_eq_true rfl, Nat.le_of_ble_eq_true rfl⟩) rfl rfl (Nat.le_of_ble_eq_true rfl) dX9_pieceOf_22 (fun H locs hG => ?_)
    rcases of_ite hf with ⟨c5, hf⟩ | ⟨c5, hf⟩
    · refine lv_if_eq (tgt := 45) C.1 C.2.1 dX9_pieceOf_25 (by decide) (fun _ => ?_) (fun q => absurd c5 q)
      refine lv_iconst (v := (-1 : Int32)) C.1 C.2.1 dX9_pieceOf_45 (by decide) ?_
      obtain rfl := Option.some.inj hf
      exact r_iret C hG dX9_pieceOf_46
    · refine lv_if_eq (tgt := 45) C.1 C.2.1 dX9_pieceOf_25 (by decide) (fun q => absurd q c5) (fun _ => ?_)
      refine lv_aload_n C.1 C.2.1 dX9_pieceOf_28 rfl (lv_at hl 0 rfl) ?_
      refine gf_X9_11 C hG rfl dX9_pieceOf_29 ?_
      refine lv_bipush (v := nI 17) C.1 C.2.1 dX9_pieceOf_32 (by decide) ?_
      refine lv_bipush (v := nI 24) C.1 C.2.1 dX9_pieceOf_34 (by decide) ?_
      refine lv_iload_n C.1 C.2.1 dX9_pieceOf_36 rfl (lv_at hl 1 rfl) ?_
      refine lv_imul C.1 C.2.1 dX9_pieceOf_37 ?_
      refine lv_iadd C.1 C.2.1 dX9_pieceOf_38 ?_
      refine lv_iload_n C.1 C.2.1 dX9_pieceOf_39 rfl (lv_at hl 2 rfl) ?_
      refine lv_iadd C.1 C.2.1 dX9_pieceOf_40 ?_
      obtain ⟨v6, hv6, hf⟩ := of_bind hf
      obtain ⟨bv6, ev6⟩ := of_ldS hv6
      refine r_iald C hG (c0 := 1) (by decide) (entM_I (n := 130) rfl) bv6 dX9_pieceOf_41 ?_
      refine r_top ev6 ?_
      refine lv_goto (tgt := 46) C.1 C.2.1 dX9_pieceOf_42 (by decide) ?_
      obtain rfl := Option.some.inj hf
      exact r_iret C hG dX9_pieceOf_46
set_option maxRecDepth 100000 in
set_option maxHeartbeats 4000000 in
theorem mt_X9_pieceOf (l : Launch) {G : GG} {A : Nat → Prop} {B : Nat} {X : va_W} {x1 : Int32} {x2 : Int32} {w : Mem} {out : Int32}  (hf : sh_X9_pieceOf x1 x2 w = some out) : MetW l yX9_pieceOf wc_X9_pieceOf rm_X9_pieceOf G A 28 B (entM G B w) X [.ref (B + 0), .int x1, .int x2] (some (.int out)) (entM G B w) := by
  refine Met.ofW (cc := cX9_pieceOf) (maxL := 3) (ret := (some .int)) (by decide) rfl ?_
  intro p e s m args below meth c s₁ B0 hml hv
  obtain ⟨rfl, hEv, hWd⟩ := hv
  have C : CX p s m _ meth c cX9_pieceOf 3 RX9 wc_X9_pieceOf (some .int) := ⟨B0.exec, B0.bytes, hml, findClass_of_methodNamed B0.named, atoms_spec (ws := wc_X9_pieceOf) B0.pre, B0.returns, B0.notSynchronized⟩
  have hl := lv_entry [.ref (B + 0), .int x1, .int x2] (n := 3) (Nat.le_of_ble_eq_true rfl)
  rw [lg_entry_eq]
  generalize (lg_sl [.ref (B + 0), .int x1, .int x2] ++ List.replicate (3 - (lg_sl [.ref (B + 0), .int x1, .int x2]).length) Slot.unset).toArray = ls at hl ⊢
  have hl : lv_has ls 3 [(0, .ref (B + 0)), (1, .int x1), (2, .int x2)] := hl
  exact kb_X9_pieceOf_0 C  ⟨hEv, hWd, va_S.rf⟩ hl hf
abbrev wc_X9_first : List Cond := Cond.code yX9_first cX9_first 3 (some .int) :: TG
abbrev rm_X9_first : Room := { frames := 2, cells := 0, slots := 0, locals := 100 }
theorem cd_X9_first : yX9_first.cls = RX9 ∧ yX9_first.cls ≠ "java/lang/invoke/MethodHandle" ∧ yX9_first.cls ≠ "java/lang/invoke/VarHandle" ∧ (parseMethodDescriptor yX9_first.desc).map (fun d => d.parameters.length) = some 1 := by decide +kernel
theorem dX9_first_0 : decode cX9_first 0 = .ok (.iload_n 1, 1) := by decide +kernel
theorem dX9_first_1 : decode cX9_first 1 = .ok (.istore_n 2, 1) := by decide +kernel
theorem dX9_first_2 : decode cX9_first 2 = .ok (.aload_n 0, 1) := by decide +kernel
theorem dX9_first_3 : decode cX9_first 3 = .ok (.getfield 54, 3) := by decide +kernel
theorem dX9_first_6 : decode cX9_first 6 = .ok (.iload_n 2, 1) := by decide +kernel
theorem dX9_first_7 : decode cX9_first 7 = .ok (.iaload, 1) := by decide +kernel
theorem dX9_first_8 : decode cX9_first 8 = .ok (.iload_n 2, 1) := by decide +kernel
theorem dX9_first_9 : decode cX9_first 9 = .ok (.if_icmp .eq 13, 3) := by decide +kernel
theorem dX9_first_12 : decode cX9_first 12 = .ok (.aload_n 0, 1) := by decide +kernel
theorem dX9_first_13 : decode cX9_first 13 = .ok (.getfield 54, 3) := by decide +kernel
theorem dX9_first_16 : decode cX9_first 16 = .ok (.iload_n 2, 1) := by decide +kernel
theorem dX9_first_17 : decode cX9_first 17 = .ok (.iaload, 1) := by decide +kernel
theorem dX9_first_18 : decode cX9_first 18 = .ok (.istore_n 2, 1) := by decide +kernel
theorem dX9_first_19 : decode cX9_first 19 = .ok (.goto (-17), 3) := by decide +kernel
theorem dX9_first_22 : decode cX9_first 22 = .ok (.iload_n 2, 1) := by decide +kernel
theorem dX9_first_23 : decode cX9_first 23 = .ok (.ireturn, 1) := by decide +kernel
set_option maxRecDepth 100000 in
set_option maxHeartbeats 4000000 in
theorem kb_X9_first_2 {w : Mem} {st : Int32} {r : (Int32) ⊕ ((Int32))} {H : Heap} {locs : List Loc} {ls : Array Slot} (C : CX p s m args meth c cX9_first 3 RX9 wc_X9_first (some .int))  (hG : Gd s G A 28 B (entM G B w) X H locs) (hl : lv_has ls 3 [(0, .ref (B + 0)), (2, .int st)]) (hf : sh_X9_first_s2 w st = some r)
    (kL : ∀ st' : Int32, r = Sum.inl st' → ∀ (H : Heap) (locs : List Loc) (ls : Array Slot), Gd s G A 28 B (entM G B w) X H locs → lv_has ls 3 [(0, .ref (B + 0)), (2, .int st')] → W p l e rm_X9_first s m args below meth c H locs 0 0 Q (F0 m 2 ls []))
    (kX0 : ∀ y' : Int32, r = Sum.inr y' → ∀ (H : Heap) (locs : List Loc) (ls : Array Slot), Gd s G A 28 B (entM G B w) X H locs → lv_has ls 3 [(2, .int y')] → W p l e rm_X9_first s m args below meth c H locs 0 0 Q (F0 m 22 ls [])) :
    W p l e rm_X9_first s m args below meth c H locs 0 0 Q (F0 m 2 ls []) := by
  refine lv_aload_n C.1 C.2.1 dX9_first_2 rfl (lv_at hl 0 rfl) ?_
  refine gf_X9_54 C hG rfl dX9_first_3 ?_
  refine lv_iload_n C.1 C.2.1 dX9_first_6 rfl (lv_at hl 1 rfl) ?_
  obtain ⟨v1, hv1, hf⟩ := of_bind hf
  obtain ⟨bv1, ev1⟩ := of_ldS hv1
  refine r_iald C hG (c0 := 15) (by decide) (entM_I (n := 24) rfl) bv1 dX9_first_7 ?_
  refine r_top ev1 ?_
  refine lv_iload_n C.1 C.2.1 dX9_first_8 rfl (lv_at hl 1 rfl) ?_
  rcases of_ite hf with ⟨c2, hf⟩ | ⟨c2, hf⟩
  · refine lv_icmp_eq (tgt := 22) C.1 C.2.1 dX9_first_9 (by decide) (fun _ => ?_) (fun q => absurd c2 q)
    obtain rfl := Option.some.inj hf
    exact kX0 _ rfl _ _ _ hG (lv_sub hl [1] rfl)
  · refine lv_icmp_eq (tgt := 22) C.1 C.2.1 dX9_first_9 (by decide) (fun q => absurd q c2) (fun _ => ?_)
    refine lv_aload_n C.1 C.2.1 dX9_first_12 rfl (lv_at hl 0 rfl) ?_
    refine gf_X9_54 C hG rfl dX9_first_13 ?_
    refine lv_iload_n C.1 C.2.1 dX9_first_16 rfl (lv_at hl 1 rfl) ?_
    obtain ⟨v3, hv3, hf⟩ := of_bind hf
    obtain ⟨bv3, ev3⟩ := of_ldS hv3
    refine r_iald C hG (c0 := 15) (by decide) (entM_I (n := 24) rfl) bv3 dX9_first_17 ?_
    refine r_top ev3 ?_
    refine lv_istore_n (lv' := [(2, .int v3), (0, .ref (B + 0))]) C.1 C.2.1 dX9_first_18 rfl hl (by decide) rfl (fun ls hl => ?_)
    refine lv_goto (tgt := 2) C.1 C.2.1 dX9_first_19 (by decide) ?_
    obtain rfl := Option.some.inj hf
    exact kL _ rfl _ _ _ hG (lv_sub hl [1, 0] rfl)
set_option maxRecDepth 100000 in
set_option maxHeartbeats 4000000 in
theorem kl_X9_first_2 {w : Mem} (C : CX p s m args meth c cX9_first 3 RX9 wc_X9_first (some .int))  : ∀ (n : Nat) (st : Int32) (x : (Int32)) (H : Heap) (locs : List Loc) (ls : Array Slot), Gd s G A 28 B (entM G B w) X H locs → lv_has ls 3 [(0, .ref (B + 0)), (2, .int st)] → lpw (sh_X9_first_s2 w) n st = some x →
    (∀ y' : Int32, x = y' → ∀ (H : Heap) (locs : List Loc) (ls : Array Slot), Gd s G A 28 B (entM G B w) X H locs → lv_has ls 3 [(2, .int y')] → W p l e rm_X9_first s m args below meth c H locs 0 0 Q (F0 m 22 ls [])) → W p l e rm_X9_first s m args below meth c H locs 0 0 Q (F0 m 2 ls []) := by
  intro n
  induction n with
  | zero =>
    intro st x H locs ls hG hl hf
    cases hf
  | succ n ih =>
    intro st x H locs ls hG hl hf kX0
    obtain ⟨r, hr, hh⟩ := of_lpw hf
    refine kb_X9_first_2 C  hG hl hr (fun st2 e1 H locs ls hG hl => ?_) (fun y2 e1 H locs ls hG hl => ?_)
    · rcases hh with ⟨s3, e2, hh⟩ | e2
      · rw [e2] at e1
        cases e1
        exact ih _ _ _ _ _ hG hl hh kX0
      · rw [e2] at e1
        cases e1
    · rcases hh with ⟨s3, e2, hh⟩ | e2
      · rw [e2] at e1
        cases e1
      · rw [e2] at e1
        cases e1
        exact kX0 _ rfl _ _ _ hG hl
set_option maxRecDepth 100000 in
set_option maxHeartbeats 4000000 in
theorem kb_X9_first_0 {x1 : Int32} {w : Mem} {out : Int32} {H : Heap} {locs : List Loc} {ls : Array Slot} (C : CX p s m args meth c cX9_first 3 RX9 wc_X9_first (some .int))  (hG : Gd s G A 28 B (entM G B w) X H locs) (hl : lv_has ls 3 [(0, .ref (B + 0)), (1, .int x1)]) (hf : sh_X9_first x1 w = some out) :
    W p l e rm_X9_first s m args below meth c H locs 0 0 (MQ below (CPost G A 28 B (entM G B w) X (some (.int out))) args s 0 0 A) (F0 m 0 ls []) := by
  refine lv_iload_n C.1 C.2.1 dX9_first_0 rfl (lv_at hl 1 rfl) ?_
  refine lv_istore_n (lv' := [(2, .int x1), (0, .ref (B + 0)), (1, .int x1)]) C.1 C.2.1 dX9_first_1 rfl hl (by decide) rfl (fun ls hl => ?_)
  obtain ⟨ex1, hex1, hf⟩ := of_bind hf
  refine kl_X9_first_2 C  FU x1 ex1 _ _ _ hG (lv_sub hl [1, 0] rfl) hex1 (fun y e0 H locs ls hG hl => ?_)
  subst e0
  refine lv_iload_n C.1 C.2.1 dX9_first_22 rfl (lv_at hl 0 rfl) ?_
  obtain rfl := Option.some.inj hf
  exact r_iret C hG dX9_first_23
set_option maxRecDepth 100000 in
set_option maxHeartbeats 4000000 in
theorem mt_X9_first (l : Launch) {G : GG} {A : Nat → Prop} {B : Nat} {X : va_W} {x1 : Int32} {w : Mem} {out : Int32}  (hf : sh_X9_first x1 w = some out) : MetW l yX9_first wc_X9_first rm_X9_first G A 28 B (entM G B w) X [.ref (B + 0), .int x1] (some (.int out)) (entM G B w) := by
  refine Met.ofW (cc := cX9_first) (maxL := 3) (ret := (some .int)) (by decide) rfl ?_
  intro p e s m args below meth c s₁ B0 hml hv
  obtain ⟨rfl, hEv, hWd⟩ := hv
  have C : CX p s m _ meth c cX9_first 3 RX9 wc_X9_first (some .int) := ⟨B0.exec, B0.bytes, hml, findClass_of_methodNamed B0.named, atoms_spec (ws := wc_X9_first) B0.pre, B0.returns, B0.notSynchronized⟩
  have hl := lv_entry [.ref (B + 0), .int x1] (n := 3) (Nat.le_of_ble_eq_true rfl)
  rw [lg_entry_eq]
  generalize (lg_sl [.ref (B + 0), .int x1] ++ List.replicate (3 - (lg_sl [.ref (B + 0), .int x1]).length) Slot.unset).toArray = ls at hl ⊢
  have hl : lv_has ls 3 [(0, .ref (B + 0)), (1, .int x1)] := hl
  exact kb_X9_first_0 C  ⟨hEv, hWd, va_S.rf⟩ hl hf
abbrev wc_X9_partsOf : List Cond := Cond.code yX9_partsOf cX9_partsOf 8 none :: TG
abbrev rm_X9_partsOf : Room := { frames := 3, cells := 0, slots := 0, locals := 122 }
theorem cd_X9_partsOf : yX9_partsOf.cls = RX9 ∧ yX9_partsOf.cls ≠ "java/lang/invoke/MethodHandle" ∧ yX9_partsOf.cls ≠ "java/lang/invoke/VarHandle" ∧ (parseMethodDescriptor yX9_partsOf.desc).map (fun d => d.parameters.length) = some 0 := by decide +kernel
theorem dX9_partsOf_0 : decode cX9_partsOf 0 = .ok (.aload_n 0, 1) := by decide +kernel
theorem dX9_partsOf_1 : decode cX9_partsOf 1 = .ok (.iconst 0, 1) := by decide +kernel
theorem dX9_partsOf_2 : decode cX9_partsOf 2 = .ok (.putfield 217, 3) := by decide +kernel
theorem dX9_partsOf_5 : decode cX9_partsOf 5 = .ok (.iconst 0, 1) := by decide +kernel
theorem dX9_partsOf_6 : decode cX9_partsOf 6 = .ok (.istore_n 1, 1) := by decide +kernel
theorem dX9_partsOf_7 : decode cX9_partsOf 7 = .ok (.iconst 0, 1) := by decide +kernel
theorem dX9_partsOf_8 : decode cX9_partsOf 8 = .ok (.istore_n 2, 1) := by decide +kernel
theorem dX9_partsOf_9 : decode cX9_partsOf 9 = .ok (.iload_n 2, 1) := by decide +kernel
theorem dX9_partsOf_10 : decode cX9_partsOf 10 = .ok (.aload_n 0, 1) := by decide +kernel
theorem dX9_partsOf_11 : decode cX9_partsOf 11 = .ok (.getfield 170, 3) := by decide +kernel
theorem dX9_partsOf_14 : decode cX9_partsOf 14 = .ok (.if_icmp .ge 332, 3) := by decide +kernel
theorem dX9_partsOf_17 : decode cX9_partsOf 17 = .ok (.aload_n 0, 1) := by decide +kernel
theorem dX9_partsOf_18 : decode cX9_partsOf 18 = .ok (.getfield 45, 3) := by decide +kernel
theorem dX9_partsOf_21 : decode cX9_partsOf 21 = .ok (.iload_n 2, 1) := by decide +kernel
theorem dX9_partsOf_22 : decode cX9_partsOf 22 = .ok (.iaload, 1) := by decide +kernel
theorem dX9_partsOf_23 : decode cX9_partsOf 23 = .ok (.istore_n 3, 1) := by decide +kernel
theorem dX9_partsOf_24 : decode cX9_partsOf 24 = .ok (.iload_n 3, 1) := by decide +kernel
theorem dX9_partsOf_25 : decode cX9_partsOf 25 = .ok (.ifCond .ne 69, 3) := by decide +kernel
theorem dX9_partsOf_28 : decode cX9_partsOf 28 = .ok (.aload_n 0, 1) := by decide +kernel
theorem dX9_partsOf_29 : decode cX9_partsOf 29 = .ok (.getfield 54, 3) := by decide +kernel
theorem dX9_partsOf_32 : decode cX9_partsOf 32 = .ok (.aload_n 0, 1) := by decide +kernel
theorem dX9_partsOf_33 : decode cX9_partsOf 33 = .ok (.getfield 217, 3) := by decide +kernel
theorem dX9_partsOf_36 : decode cX9_partsOf 36 = .ok (.aload_n 0, 1) := by decide +kernel
theorem dX9_partsOf_37 : decode cX9_partsOf 37 = .ok (.getfield 217, 3) := by decide +kernel
theorem dX9_partsOf_40 : decode cX9_partsOf 40 = .ok (.iastore, 1) := by decide +kernel
theorem dX9_partsOf_41 : decode cX9_partsOf 41 = .ok (.aload_n 0, 1) := by decide +kernel
theorem dX9_partsOf_42 : decode cX9_partsOf 42 = .ok (.getfield 57, 3) := by decide +kernel
theorem dX9_partsOf_45 : decode cX9_partsOf 45 = .ok (.aload_n 0, 1) := by decide +kernel
theorem dX9_partsOf_46 : decode cX9_partsOf 46 = .ok (.getfield 217, 3) := by decide +kernel
theorem dX9_partsOf_49 : decode cX9_partsOf 49 = .ok (.iconst 0, 1) := by decide +kernel
theorem dX9_partsOf_50 : decode cX9_partsOf 50 = .ok (.iastore, 1) := by decide +kernel
theorem dX9_partsOf_51 : decode cX9_partsOf 51 = .ok (.aload_n 0, 1) := by decide +kernel
theorem dX9_partsOf_52 : decode cX9_partsOf 52 = .ok (.getfield 60, 3) := by decide +kernel
theorem dX9_partsOf_55 : decode cX9_partsOf 55 = .ok (.aload_n 0, 1) := by decide +kernel
theorem dX9_partsOf_56 : decode cX9_partsOf 56 = .ok (.getfield 217, 3) := by decide +kernel
theorem dX9_partsOf_59 : decode cX9_partsOf 59 = .ok (.iconst 0, 1) := by decide +kernel
theorem dX9_partsOf_60 : decode cX9_partsOf 60 = .ok (.iastore, 1) := by decide +kernel
theorem dX9_partsOf_61 : decode cX9_partsOf 61 = .ok (.aload_n 0, 1) := by decide +kernel
theorem dX9_partsOf_62 : decode cX9_partsOf 62 = .ok (.getfield 63, 3) := by decide +kernel
theorem dX9_partsOf_65 : decode cX9_partsOf 65 = .ok (.aload_n 0, 1) := by decide +kernel
theorem dX9_partsOf_66 : decode cX9_partsOf 66 = .ok (.getfield 217, 3) := by decide +kernel
theorem dX9_partsOf_69 : decode cX9_partsOf 69 = .ok (.iconst 0, 1) := by decide +kernel
theorem dX9_partsOf_70 : decode cX9_partsOf 70 = .ok (.iastore, 1) := by decide +kernel
theorem dX9_partsOf_71 : decode cX9_partsOf 71 = .ok (.aload_n 0, 1) := by decide +kernel
theorem dX9_partsOf_72 : decode cX9_partsOf 72 = .ok (.getfield 51, 3) := by decide +kernel
theorem dX9_partsOf_75 : decode cX9_partsOf 75 = .ok (.iload_n 1, 1) := by decide +kernel
theorem dX9_partsOf_76 : decode cX9_partsOf 76 = .ok (.aload_n 0, 1) := by decide +kernel
theorem dX9_partsOf_77 : decode cX9_partsOf 77 = .ok (.getfield 217, 3) := by decide +kernel
theorem dX9_partsOf_80 : decode cX9_partsOf 80 = .ok (.iastore, 1) := by decide +kernel
theorem dX9_partsOf_81 : decode cX9_partsOf 81 = .ok (.aload_n 0, 1) := by decide +kernel
theorem dX9_partsOf_82 : decode cX9_partsOf 82 = .ok (.dup, 1) := by decide +kernel
theorem dX9_partsOf_83 : decode cX9_partsOf 83 = .ok (.getfield 217, 3) := by decide +kernel
theorem dX9_partsOf_86 : decode cX9_partsOf 86 = .ok (.iconst 1, 1) := by decide +kernel
theorem dX9_partsOf_87 : decode cX9_partsOf 87 = .ok (.iadd, 1) := by decide +kernel
theorem dX9_partsOf_88 : decode cX9_partsOf 88 = .ok (.putfield 217, 3) := by decide +kernel
theorem dX9_partsOf_91 : decode cX9_partsOf 91 = .ok (.iinc 1 1, 3) := by decide +kernel
theorem dX9_partsOf_94 : decode cX9_partsOf 94 = .ok (.iload_n 3, 1) := by decide +kernel
theorem dX9_partsOf_95 : decode cX9_partsOf 95 = .ok (.iconst 4, 1) := by decide +kernel
theorem dX9_partsOf_96 : decode cX9_partsOf 96 = .ok (.if_icmp .ne 42, 3) := by decide +kernel
theorem dX9_partsOf_99 : decode cX9_partsOf 99 = .ok (.aload_n 0, 1) := by decide +kernel
theorem dX9_partsOf_100 : decode cX9_partsOf 100 = .ok (.getfield 51, 3) := by decide +kernel
theorem dX9_partsOf_103 : decode cX9_partsOf 103 = .ok (.iload_n 1, 1) := by decide +kernel
theorem dX9_partsOf_104 : decode cX9_partsOf 104 = .ok (.iconst 1, 1) := by decide +kernel
theorem dX9_partsOf_105 : decode cX9_partsOf 105 = .ok (.isub, 1) := by decide +kernel
theorem dX9_partsOf_106 : decode cX9_partsOf 106 = .ok (.iaload, 1) := by decide +kernel
theorem dX9_partsOf_107 : decode cX9_partsOf 107 = .ok (.istore 4, 2) := by decide +kernel
theorem dX9_partsOf_109 : decode cX9_partsOf 109 = .ok (.aload_n 0, 1) := by decide +kernel
theorem dX9_partsOf_110 : decode cX9_partsOf 110 = .ok (.getfield 51, 3) := by decide +kernel
theorem dX9_partsOf_113 : decode cX9_partsOf 113 = .ok (.iload_n 1, 1) := by decide +kernel
theorem dX9_partsOf_114 : decode cX9_partsOf 114 = .ok (.iconst 1, 1) := by decide +kernel
theorem dX9_partsOf_115 : decode cX9_partsOf 115 = .ok (.isub, 1) := by decide +kernel
theorem dX9_partsOf_116 : decode cX9_partsOf 116 = .ok (.aload_n 0, 1) := by decide +kernel
theorem dX9_partsOf_117 : decode cX9_partsOf 117 = .ok (.getfield 51, 3) := by decide +kernel
theorem dX9_partsOf_120 : decode cX9_partsOf 120 = .ok (.iload_n 1, 1) := by decide +kernel
theorem dX9_partsOf_121 : decode cX9_partsOf 121 = .ok (.iconst 2, 1) := by decide +kernel
theorem dX9_partsOf_122 : decode cX9_partsOf 122 = .ok (.isub, 1) := by decide +kernel
theorem dX9_partsOf_123 : decode cX9_partsOf 123 = .ok (.iaload, 1) := by decide +kernel
theorem dX9_partsOf_124 : decode cX9_partsOf 124 = .ok (.iastore, 1) := by decide +kernel
theorem dX9_partsOf_125 : decode cX9_partsOf 125 = .ok (.aload_n 0, 1) := by decide +kernel
theorem dX9_partsOf_126 : decode cX9_partsOf 126 = .ok (.getfield 51, 3) := by decide +kernel
theorem dX9_partsOf_129 : decode cX9_partsOf 129 = .ok (.iload_n 1, 1) := by decide +kernel
theorem dX9_partsOf_130 : decode cX9_partsOf 130 = .ok (.iconst 2, 1) := by decide +kernel
theorem dX9_partsOf_131 : decode cX9_partsOf 131 = .ok (.isub, 1) := by decide +kernel
theorem dX9_partsOf_132 : decode cX9_partsOf 132 = .ok (.iload 4, 2) := by decide +kernel
theorem dX9_partsOf_134 : decode cX9_partsOf 134 = .ok (.iastore, 1) := by decide +kernel
theorem dX9_partsOf_135 : decode cX9_partsOf 135 = .ok (.goto 205, 3) := by decide +kernel
theorem dX9_partsOf_138 : decode cX9_partsOf 138 = .ok (.aload_n 0, 1) := by decide +kernel
theorem dX9_partsOf_139 : decode cX9_partsOf 139 = .ok (.aload_n 0, 1) := by decide +kernel
theorem dX9_partsOf_140 : decode cX9_partsOf 140 = .ok (.getfield 51, 3) := by decide +kernel
theorem dX9_partsOf_143 : decode cX9_partsOf 143 = .ok (.iload_n 1, 1) := by decide +kernel
theorem dX9_partsOf_144 : decode cX9_partsOf 144 = .ok (.iconst 1, 1) := by decide +kernel
theorem dX9_partsOf_145 : decode cX9_partsOf 145 = .ok (.isub, 1) := by decide +kernel
theorem dX9_partsOf_146 : decode cX9_partsOf 146 = .ok (.iaload, 1) := by decide +kernel
theorem dX9_partsOf_147 : decode cX9_partsOf 147 = .ok (.invokevirtual 220, 3) := by decide +kernel
theorem dX9_partsOf_150 : decode cX9_partsOf 150 = .ok (.istore 4, 2) := by decide +kernel
theorem dX9_partsOf_152 : decode cX9_partsOf 152 = .ok (.iload_n 3, 1) := by decide +kernel
theorem dX9_partsOf_153 : decode cX9_partsOf 153 = .ok (.iconst 1, 1) := by decide +kernel
theorem dX9_partsOf_154 : decode cX9_partsOf 154 = .ok (.if_icmp .ne 102, 3) := by decide +kernel
theorem dX9_partsOf_157 : decode cX9_partsOf 157 = .ok (.aload_n 0, 1) := by decide +kernel
theorem dX9_partsOf_158 : decode cX9_partsOf 158 = .ok (.aload_n 0, 1) := by decide +kernel
theorem dX9_partsOf_159 : decode cX9_partsOf 159 = .ok (.getfield 51, 3) := by decide +kernel
theorem dX9_partsOf_162 : decode cX9_partsOf 162 = .ok (.iload_n 1, 1) := by decide +kernel
theorem dX9_partsOf_163 : decode cX9_partsOf 163 = .ok (.iconst 2, 1) := by decide +kernel
theorem dX9_partsOf_164 : decode cX9_partsOf 164 = .ok (.isub, 1) := by decide +kernel
theorem dX9_partsOf_165 : decode cX9_partsOf 165 = .ok (.iaload, 1) := by decide +kernel
theorem dX9_partsOf_166 : decode cX9_partsOf 166 = .ok (.invokevirtual 220, 3) := by decide +kernel
theorem dX9_partsOf_169 : decode cX9_partsOf 169 = .ok (.istore 5, 2) := by decide +kernel
theorem dX9_partsOf_171 : decode cX9_partsOf 171 = .ok (.iload 4, 2) := by decide +kernel
theorem dX9_partsOf_173 : decode cX9_partsOf 173 = .ok (.iload 5, 2) := by decide +kernel
theorem dX9_partsOf_175 : decode cX9_partsOf 175 = .ok (.invokestatic 223, 3) := by decide +kernel
theorem dX9_partsOf_178 : decode cX9_partsOf 178 = .ok (.istore 6, 2) := by decide +kernel
theorem dX9_partsOf_180 : decode cX9_partsOf 180 = .ok (.iload 4, 2) := by decide +kernel
theorem dX9_partsOf_182 : decode cX9_partsOf 182 = .ok (.iload 5, 2) := by decide +kernel
theorem dX9_partsOf_184 : decode cX9_partsOf 184 = .ok (.invokestatic 228, 3) := by decide +kernel
theorem dX9_partsOf_187 : decode cX9_partsOf 187 = .ok (.istore 7, 2) := by decide +kernel
theorem dX9_partsOf_189 : decode cX9_partsOf 189 = .ok (.iload 7, 2) := by decide +kernel
theorem dX9_partsOf_191 : decode cX9_partsOf 191 = .ok (.iload 6, 2) := by decide +kernel
theorem dX9_partsOf_193 : decode cX9_partsOf 193 = .ok (.if_icmp .eq 46, 3) := by decide +kernel
theorem dX9_partsOf_196 : decode cX9_partsOf 196 = .ok (.aload_n 0, 1) := by decide +kernel
theorem dX9_partsOf_197 : decode cX9_partsOf 197 = .ok (.getfield 54, 3) := by decide +kernel
theorem dX9_partsOf_200 : decode cX9_partsOf 200 = .ok (.iload 7, 2) := by decide +kernel
theorem dX9_partsOf_202 : decode cX9_partsOf 202 = .ok (.iload 6, 2) := by decide +kernel
theorem dX9_partsOf_204 : decode cX9_partsOf 204 = .ok (.iastore, 1) := by decide +kernel
theorem dX9_partsOf_205 : decode cX9_partsOf 205 = .ok (.aload_n 0, 1) := by decide +kernel
theorem dX9_partsOf_206 : decode cX9_partsOf 206 = .ok (.getfield 57, 3) := by decide +kernel
theorem dX9_partsOf_209 : decode cX9_partsOf 209 = .ok (.iload 6, 2) := by decide +kernel
theorem dX9_partsOf_211 : decode cX9_partsOf 211 = .ok (.dup2, 1) := by decide +kernel
theorem dX9_partsOf_212 : decode cX9_partsOf 212 = .ok (.iaload, 1) := by decide +kernel
theorem dX9_partsOf_213 : decode cX9_partsOf 213 = .ok (.aload_n 0, 1) := by decide +kernel
theorem dX9_partsOf_214 : decode cX9_partsOf 214 = .ok (.getfield 57, 3) := by decide +kernel
theorem dX9_partsOf_217 : decode cX9_partsOf 217 = .ok (.iload 7, 2) := by decide +kernel
theorem dX9_partsOf_219 : decode cX9_partsOf 219 = .ok (.iaload, 1) := by decide +kernel
theorem dX9_partsOf_220 : decode cX9_partsOf 220 = .ok (.iadd, 1) := by decide +kernel
theorem dX9_partsOf_221 : decode cX9_partsOf 221 = .ok (.iastore, 1) := by decide +kernel
theorem dX9_partsOf_222 : decode cX9_partsOf 222 = .ok (.aload_n 0, 1) := by decide +kernel
theorem dX9_partsOf_223 : decode cX9_partsOf 223 = .ok (.getfield 63, 3) := by decide +kernel
theorem dX9_partsOf_226 : decode cX9_partsOf 226 = .ok (.iload 6, 2) := by decide +kernel
theorem dX9_partsOf_228 : decode cX9_partsOf 228 = .ok (.dup2, 1) := by decide +kernel
theorem dX9_partsOf_229 : decode cX9_partsOf 229 = .ok (.iaload, 1) := by decide +kernel
theorem dX9_partsOf_230 : decode cX9_partsOf 230 = .ok (.aload_n 0, 1) := by decide +kernel
theorem dX9_partsOf_231 : decode cX9_partsOf 231 = .ok (.getfield 63, 3) := by decide +kernel
theorem dX9_partsOf_234 : decode cX9_partsOf 234 = .ok (.iload 7, 2) := by decide +kernel
theorem dX9_partsOf_236 : decode cX9_partsOf 236 = .ok (.iaload, 1) := by decide +kernel
theorem dX9_partsOf_237 : decode cX9_partsOf 237 = .ok (.ior, 1) := by decide +kernel
theorem dX9_partsOf_238 : decode cX9_partsOf 238 = .ok (.iastore, 1) := by decide +kernel
theorem dX9_partsOf_239 : decode cX9_partsOf 239 = .ok (.iload 6, 2) := by decide +kernel
theorem dX9_partsOf_241 : decode cX9_partsOf 241 = .ok (.istore 4, 2) := by decide +kernel
theorem dX9_partsOf_243 : decode cX9_partsOf 243 = .ok (.iinc 1 (-1), 3) := by decide +kernel
theorem dX9_partsOf_246 : decode cX9_partsOf 246 = .ok (.aload_n 0, 1) := by decide +kernel
theorem dX9_partsOf_247 : decode cX9_partsOf 247 = .ok (.getfield 51, 3) := by decide +kernel
theorem dX9_partsOf_250 : decode cX9_partsOf 250 = .ok (.iload_n 1, 1) := by decide +kernel
theorem dX9_partsOf_251 : decode cX9_partsOf 251 = .ok (.iconst 1, 1) := by decide +kernel
theorem dX9_partsOf_252 : decode cX9_partsOf 252 = .ok (.isub, 1) := by decide +kernel
theorem dX9_partsOf_253 : decode cX9_partsOf 253 = .ok (.iload 6, 2) := by decide +kernel
theorem dX9_partsOf_255 : decode cX9_partsOf 255 = .ok (.iastore, 1) := by decide +kernel
theorem dX9_partsOf_256 : decode cX9_partsOf 256 = .ok (.iload_n 3, 1) := by decide +kernel
theorem dX9_partsOf_257 : decode cX9_partsOf 257 = .ok (.iconst 2, 1) := by decide +kernel
theorem dX9_partsOf_258 : decode cX9_partsOf 258 = .ok (.if_icmp .ne 14, 3) := by decide +kernel
theorem dX9_partsOf_261 : decode cX9_partsOf 261 = .ok (.aload_n 0, 1) := by decide +kernel
theorem dX9_partsOf_262 : decode cX9_partsOf 262 = .ok (.getfield 51, 3) := by decide +kernel
theorem dX9_partsOf_265 : decode cX9_partsOf 265 = .ok (.iload_n 1, 1) := by decide +kernel
theorem dX9_partsOf_266 : decode cX9_partsOf 266 = .ok (.iload 4, 2) := by decide +kernel
theorem dX9_partsOf_268 : decode cX9_partsOf 268 = .ok (.iastore, 1) := by decide +kernel
theorem dX9_partsOf_269 : decode cX9_partsOf 269 = .ok (.iinc 1 1, 3) := by decide +kernel
theorem dX9_partsOf_272 : decode cX9_partsOf 272 = .ok (.iload_n 1, 1) := by decide +kernel
theorem dX9_partsOf_273 : decode cX9_partsOf 273 = .ok (.iload_n 3, 1) := by decide +kernel
theorem dX9_partsOf_274 : decode cX9_partsOf 274 = .ok (.iconst 3, 1) := by decide +kernel
theorem dX9_partsOf_275 : decode cX9_partsOf 275 = .ok (.if_icmp .ne 7, 3) := by decide +kernel
theorem dX9_partsOf_278 : decode cX9_partsOf 278 = .ok (.iconst 1, 1) := by decide +kernel
theorem dX9_partsOf_279 : decode cX9_partsOf 279 = .ok (.goto 4, 3) := by decide +kernel
theorem dX9_partsOf_282 : decode cX9_partsOf 282 = .ok (.iconst 0, 1) := by decide +kernel
theorem dX9_partsOf_283 : decode cX9_partsOf 283 = .ok (.isub, 1) := by decide +kernel
theorem dX9_partsOf_284 : decode cX9_partsOf 284 = .ok (.istore_n 1, 1) := by decide +kernel
theorem dX9_partsOf_285 : decode cX9_partsOf 285 = .ok (.aload_n 0, 1) := by decide +kernel
theorem dX9_partsOf_286 : decode cX9_partsOf 286 = .ok (.getfield 63, 3) := by decide +kernel
theorem dX9_partsOf_289 : decode cX9_partsOf 289 = .ok (.iload 4, 2) := by decide +kernel
theorem dX9_partsOf_291 : decode cX9_partsOf 291 = .ok (.dup2, 1) := by decide +kernel
theorem dX9_partsOf_292 : decode cX9_partsOf 292 = .ok (.iaload, 1) := by decide +kernel
theorem dX9_partsOf_293 : decode cX9_partsOf 293 = .ok (.iload_n 3, 1) := by decide +kernel
theorem dX9_partsOf_294 : decode cX9_partsOf 294 = .ok (.bipush 6, 2) := by decide +kernel
theorem dX9_partsOf_296 : decode cX9_partsOf 296 = .ok (.if_icmp .ne 7, 3) := by decide +kernel
theorem dX9_partsOf_299 : decode cX9_partsOf 299 = .ok (.iconst 1, 1) := by decide +kernel
theorem dX9_partsOf_300 : decode cX9_partsOf 300 = .ok (.goto 4, 3) := by decide +kernel
theorem dX9_partsOf_303 : decode cX9_partsOf 303 = .ok (.iconst 0, 1) := by decide +kernel
theorem dX9_partsOf_304 : decode cX9_partsOf 304 = .ok (.ior, 1) := by decide +kernel
theorem dX9_partsOf_305 : decode cX9_partsOf 305 = .ok (.iastore, 1) := by decide +kernel
theorem dX9_partsOf_306 : decode cX9_partsOf 306 = .ok (.aload_n 0, 1) := by decide +kernel
theorem dX9_partsOf_307 : decode cX9_partsOf 307 = .ok (.getfield 57, 3) := by decide +kernel
theorem dX9_partsOf_310 : decode cX9_partsOf 310 = .ok (.iload 4, 2) := by decide +kernel
theorem dX9_partsOf_312 : decode cX9_partsOf 312 = .ok (.dup2, 1) := by decide +kernel
theorem dX9_partsOf_313 : decode cX9_partsOf 313 = .ok (.iaload, 1) := by decide +kernel
theorem dX9_partsOf_314 : decode cX9_partsOf 314 = .ok (.iload_n 3, 1) := by decide +kernel
theorem dX9_partsOf_315 : decode cX9_partsOf 315 = .ok (.ifCond .eq 8, 3) := by decide +kernel
theorem dX9_partsOf_318 : decode cX9_partsOf 318 = .ok (.iload_n 3, 1) := by decide +kernel
theorem dX9_partsOf_319 : decode cX9_partsOf 319 = .ok (.iconst 3, 1) := by decide +kernel
theorem dX9_partsOf_320 : decode cX9_partsOf 320 = .ok (.if_icmp .ne 7, 3) := by decide +kernel
theorem dX9_partsOf_323 : decode cX9_partsOf 323 = .ok (.iconst 1, 1) := by decide +kernel
theorem dX9_partsOf_324 : decode cX9_partsOf 324 = .ok (.goto 14, 3) := by decide +kernel
theorem dX9_partsOf_327 : decode cX9_partsOf 327 = .ok (.iload_n 3, 1) := by decide +kernel
theorem dX9_partsOf_328 : decode cX9_partsOf 328 = .ok (.iconst 5, 1) := by decide +kernel
theorem dX9_partsOf_329 : decode cX9_partsOf 329 = .ok (.if_icmp .ne 8, 3) := by decide +kernel
theorem dX9_partsOf_332 : decode cX9_partsOf 332 = .ok (.bipush (-2), 2) := by decide +kernel
theorem dX9_partsOf_334 : decode cX9_partsOf 334 = .ok (.goto 4, 3) := by decide +kernel
theorem dX9_partsOf_337 : decode cX9_partsOf 337 = .ok (.iconst (-1), 1) := by decide +kernel
theorem dX9_partsOf_338 : decode cX9_partsOf 338 = .ok (.iadd, 1) := by decide +kernel
theorem dX9_partsOf_339 : decode cX9_partsOf 339 = .ok (.iastore, 1) := by decide +kernel
theorem dX9_partsOf_340 : decode cX9_partsOf 340 = .ok (.iinc 2 1, 3) := by decide +kernel
theorem dX9_partsOf_343 : decode cX9_partsOf 343 = .ok (.goto (-334), 3) := by decide +kernel
theorem dX9_partsOf_346 : decode cX9_partsOf 346 = .ok (.iconst 0, 1) := by decide +kernel
theorem dX9_partsOf_347 : decode cX9_partsOf 347 = .ok (.istore_n 2, 1) := by decide +kernel
theorem dX9_partsOf_348 : decode cX9_partsOf 348 = .ok (.iload_n 2, 1) := by decide +kernel
theorem dX9_partsOf_349 : decode cX9_partsOf 349 = .ok (.iload_n 1, 1) := by decide +kernel
theorem dX9_partsOf_350 : decode cX9_partsOf 350 = .ok (.if_icmp .ge 28, 3) := by decide +kernel
theorem dX9_partsOf_353 : decode cX9_partsOf 353 = .ok (.aload_n 0, 1) := by decide +kernel
theorem dX9_partsOf_354 : decode cX9_partsOf 354 = .ok (.getfield 60, 3) := by decide +kernel
theorem dX9_partsOf_357 : decode cX9_partsOf 357 = .ok (.aload_n 0, 1) := by decide +kernel
theorem dX9_partsOf_358 : decode cX9_partsOf 358 = .ok (.aload_n 0, 1) := by decide +kernel
theorem dX9_partsOf_359 : decode cX9_partsOf 359 = .ok (.getfield 51, 3) := by decide +kernel
theorem dX9_partsOf_362 : decode cX9_partsOf 362 = .ok (.iload_n 2, 1) := by decide +kernel
theorem dX9_partsOf_363 : decode cX9_partsOf 363 = .ok (.iaload, 1) := by decide +kernel
theorem dX9_partsOf_364 : decode cX9_partsOf 364 = .ok (.invokevirtual 220, 3) := by decide +kernel
theorem dX9_partsOf_367 : decode cX9_partsOf 367 = .ok (.dup2, 1) := by decide +kernel
theorem dX9_partsOf_368 : decode cX9_partsOf 368 = .ok (.iaload, 1) := by decide +kernel
theorem dX9_partsOf_369 : decode cX9_partsOf 369 = .ok (.iconst 1, 1) := by decide +kernel
theorem dX9_partsOf_370 : decode cX9_partsOf 370 = .ok (.iadd, 1) := by decide +kernel
theorem dX9_partsOf_371 : decode cX9_partsOf 371 = .ok (.iastore, 1) := by decide +kernel
theorem dX9_partsOf_372 : decode cX9_partsOf 372 = .ok (.iinc 2 1, 3) := by decide +kernel
theorem dX9_partsOf_375 : decode cX9_partsOf 375 = .ok (.goto (-27), 3) := by decide +kernel
theorem dX9_partsOf_378 : decode cX9_partsOf 378 = .ok (.return_, 1) := by decide +kernel
set_option maxRecDepth 100000 in
set_option maxHeartbeats 4000000 in
theorem kb_X9_partsOf_338 {x1 : Int32} {x2 : Int32} {s0 : Nat} {s1 : Int32} {s2 : Int32} {s3 : Int32} {w : Mem} {r : (Int32 × Int32 × Mem) ⊕ ((Int32 × Mem))} {H : Heap} {locs : List Loc} {ls : Array Slot} (C : CX p s m args meth c cX9_partsOf 8 RX9 wc_X9_partsOf none) (hs0 : KDm s0 = (10, 24)) (hG : Gd s G A 28 B (entM G B w) X H locs) (hl : lv_has ls 8 [(0, .ref (B + 0)), (1, .int x1), (2, .int x2)]) (hf : sh_X9_partsOf_j338 x1 x2 s0 s1 s2 s3 w = some r)
    (kL : ∀ st' : Int32 × Int32 × Mem, r = Sum.inl st' → ∀ (H : Heap) (locs : List Loc) (ls : Array Slot), Gd s G A 28 B (entM G B st'.2.2) X H locs → lv_has ls 8 [(0, .ref (B + 0)), (1, .int st'.1), (2, .int st'.2.1)] → W p l e rm_X9_partsOf s m args below meth c H locs 0 0 Q (F0 m 9 ls []))
    (kX0 : ∀ y' : Int32 × Mem, r = Sum.inr y' → ∀ (H : Heap) (locs : List Loc) (ls : Array Slot), Gd s G A 28 B (entM G B y'.2) X H locs → lv_has ls 8 [(0, .ref (B + 0)), (1, .int y'.1)] → W p l e rm_X9_partsOf s m args below meth c H locs 0 0 Q (F0 m 346 ls [])) :
    W p l e rm_X9_partsOf s m args below meth c H locs 0 0 Q (F0 m 338 ls [.int s3, .int s2, .int s1, .ref (B + s0)]) := by
  refine lv_iadd C.1 C.2.1 dX9_partsOf_338 ?_
  obtain ⟨w1, hw1, hf⟩ := of_bind hf
  obtain ⟨bw1, ew1⟩ := of_stM hw1
  refine r_iast C hG (c0 := s0) (kdm_lt hs0 (by decide)) (entM_I hs0) bw1 (E' := (entM G B w1)) (by rw [ew1]; exact upM_I hs0) dX9_partsOf_339 (fun H locs hG => ?_)
  obtain ⟨v2, ev2, hf⟩ := of_letv hf
  refine lv_iinc (v := v2) (lv' := [(2, .int v2), (0, .ref (B + 0)), (1, .int x1)]) C.1 C.2.1 dX9_partsOf_340 hl (k := 2) rfl (by rw [ev2, show Int32.ofInt (1) = nI 1 from by decide]) (by decide) rfl (fun ls hl => ?_)
  refine lv_goto (tgt := 9) C.1 C.2.1 dX9_partsOf_343 (by decide) ?_
  obtain rfl := Option.some.inj hf
  exact kL _ rfl _ _ _ hG (lv_sub hl [1, 2, 0] rfl)
set_option maxRecDepth 100000 in
set_option maxHeartbeats 4000000 in
theorem kb_X9_partsOf_323 {x1 : Int32} {x2 : Int32} {s0 : Nat} {s1 : Int32} {s2 : Int32} {w : Mem} {r : (Int32 × Int32 × Mem) ⊕ ((Int32 × Mem))} {H : Heap} {locs : List Loc} {ls : Array Slot} (C : CX p s m args meth c cX9_partsOf 8 RX9 wc_X9_partsOf none) (hs0 : KDm s0 = (10, 24)) (hG : Gd s G A 28 B (entM G B w) X H locs) (hl : lv_has ls 8 [(0, .ref (B + 0)), (1, .int x1), (2, .int x2)]) (hf : sh_X9_partsOf_j323 x1 x2 s0 s1 s2 w = some r)
    (kL : ∀ st' : Int32 × Int32 × Mem, r = Sum.inl st' → ∀ (H : Heap) (locs : List Loc) (ls : Array Slot), Gd s G A 28 B (entM G B st'.2.2) X H locs → lv_has ls 8 [(0, .ref (B + 0)), (1, .int st'.1), (2, .int st'.2.1)] → W p l e rm_X9_partsOf s m args below meth c H locs 0 0 Q (F0 m 9 ls []))
    (kX0 : ∀ y' : Int32 × Mem, r = Sum.inr y' → ∀ (H : Heap) (locs : List Loc) (ls : Array Slot), Gd s G A 28 B (entM G B y'.2) X H locs → lv_has ls 8 [(0, .ref (B + 0)), (1, .int y'.1)] → W p l e rm_X9_partsOf s m args below meth c H locs 0 0 Q (F0 m 346 ls [])) :
    W p l e rm_X9_partsOf s m args below meth c H locs 0 0 Q (F0 m 323 ls [.int s2, .int s1, .ref (B + s0)]) := by
  refine lv_iconst (v := nI 1) C.1 C.2.1 dX9_partsOf_323 (by decide) ?_
  refine lv_goto (tgt := 338) C.1 C.2.1 dX9_partsOf_324 (by decide) ?_
  exact kb_X9_partsOf_338 C hs0 hG hl hf kL kX0
set_option maxRecDepth 100000 in
set_option maxHeartbeats 4000000 in
theorem kb_X9_partsOf_304 {x1 : Int32} {x2 : Int32} {x3 : Int32} {x4 : Int32} {s0 : Nat} {s1 : Int32} {s2 : Int32} {s3 : Int32} {w : Mem} {r : (Int32 × Int32 × Mem) ⊕ ((Int32 × Mem))} {H : Heap} {locs : List Loc} {ls : Array Slot} (C : CX p s m args meth c cX9_partsOf 8 RX9 wc_X9_partsOf none) (hs0 : KDm s0 = (10, 24)) (hG : Gd s G A 28 B (entM G B w) X H locs) (hl : lv_has ls 8 [(0, .ref (B + 0)), (1, .int x1), (2, .int x2), (3, .int x3), (4, .int x4)]) (hf : sh_X9_partsOf_j304 x1 x2 x3 x4 s0 s1 s2 s3 w = some r)
    (kL : ∀ st' : Int32 × Int32 × Mem, r = Sum.inl st' → ∀ (H : Heap) (locs : List Loc) (ls : Array Slot), Gd s G A 28 B (entM G B st'.2.2) X H locs → lv_has ls 8 [(0, .ref (B + 0)), (1, .int st'.1), (2, .int st'.2.1)] → W p l e rm_X9_partsOf s m args below meth c H locs 0 0 Q (F0 m 9 ls []))
    (kX0 : ∀ y' : Int32 × Mem, r = Sum.inr y' → ∀ (H : Heap) (locs : List Loc) (ls : Array Slot), Gd s G A 28 B (entM G B y'.2) X H locs → lv_has ls 8 [(0, .ref (B + 0)), (1, .int y'.1)] → W p l e rm_X9_partsOf s m args below meth c H locs 0 0 Q (F0 m 346 ls [])) :
    W p l e rm_X9_partsOf s m args below meth c H locs 0 0 Q (F0 m 304 ls [.int s3, .int s2, .int s1, .ref (B + s0)]) := by
  refine lv_ior C.1 C.2.1 dX9_partsOf_304 ?_
  obtain ⟨w1, hw1, hf⟩ := of_bind hf
  obtain ⟨bw1, ew1⟩ := of_stM hw1
  refine r_iast C hG (c0 := s0) (kdm_lt hs0 (by decide)) (entM_I hs0) bw1 (E' := (entM G B w1)) (by rw [ew1]; exact upM_I hs0) dX9_partsOf_305 (fun H locs hG => ?_)
  refine lv_aload_n C.1 C.2.1 dX9_partsOf_306 rfl (lv_at hl 0 rfl) ?_
  refine gf_X9_57 C hG rfl dX9_partsOf_307 ?_
  refine lv_iload C.1 C.2.1 dX9_partsOf_310 (lv_at hl 4 rfl) ?_
  refine lv_dup2_11 C.1 C.2.1 dX9_partsOf_312 rfl rfl ?_
  obtain ⟨v2, hv2, hf⟩ := of_bind hf
  obtain ⟨bv2, ev2⟩ := of_ldS hv2
  refine r_iald C hG (c0 := 16) (by decide) (entM_I (n := 24) rfl) bv2 dX9_partsOf_313 ?_
  refine r_top ev2 ?_
  refine lv_iload_n C.1 C.2.1 dX9_partsOf_314 rfl (lv_at hl 3 rfl) ?_
  rcases of_ite hf with ⟨c3, hf⟩ | ⟨c3, hf⟩
  · refine lv_if_eq (tgt := 323) C.1 C.2.1 dX9_partsOf_315 (by decide) (fun _ => ?_) (fun q => absurd c3 q)
    exact kb_X9_partsOf_323 C rfl hG (lv_sub hl [0, 1, 2] rfl) hf kL kX0
  · refine lv_if_eq (tgt := 323) C.1 C.2.1 dX9_partsOf_315 (by decide) (fun q => absurd q c3) (fun _ => ?_)
    refine lv_iload_n C.1 C.2.1 dX9_partsOf_318 rfl (lv_at hl 3 rfl) ?_
    refine lv_iconst (v := nI 3) C.1 C.2.1 dX9_partsOf_319 (by decide) ?_
    rcases of_ite hf with ⟨c4, hf⟩ | ⟨c4, hf⟩
    · refine lv_icmp_ne (tgt := 327) C.1 C.2.1 dX9_partsOf_320 (by decide) (fun q => absurd c4 q) (fun _ => ?_)
      exact kb_X9_partsOf_323 C rfl hG (lv_sub hl [0, 1, 2] rfl) hf kL kX0
    · refine lv_icmp_ne (tgt := 327) C.1 C.2.1 dX9_partsOf_320 (by decide) (fun _ => ?_) (fun q => absurd q c4)
      refine lv_iload_n C.1 C.2.1 dX9_partsOf_327 rfl (lv_at hl 3 rfl) ?_
      refine lv_iconst (v := nI 5) C.1 C.2.1 dX9_partsOf_328 (by decide) ?_
      rcases of_ite hf with ⟨c5, hf⟩ | ⟨c5, hf⟩
      · refine lv_icmp_ne (tgt := 337) C.1 C.2.1 dX9_partsOf_329 (by decide) (fun q => absurd c5 q) (fun _ => ?_)
        refine lv_bipush (v := (-2 : Int32)) C.1 C.2.1 dX9_partsOf_332 (by decide) ?_
        refine lv_goto (tgt := 338) C.1 C.2.1 dX9_partsOf_334 (by decide) ?_
        exact kb_X9_partsOf_338 C rfl hG (lv_sub hl [0, 1, 2] rfl) hf kL kX0
      · refine lv_icmp_ne (tgt := 337) C.1 C.2.1 dX9_partsOf_329 (by decide) (fun _ => ?_) (fun q => absurd q c5)
        refine lv_iconst (v := (-1 : Int32)) C.1 C.2.1 dX9_partsOf_337 (by decide) ?_
        exact kb_X9_partsOf_338 C rfl hG (lv_sub hl [0, 1, 2] rfl) hf kL kX0
set_option maxRecDepth 100000 in
set_option maxHeartbeats 4000000 in
theorem kb_X9_partsOf_283 {x2 : Int32} {x3 : Int32} {x4 : Int32} {s0 : Int32} {s1 : Int32} {w : Mem} {r : (Int32 × Int32 × Mem) ⊕ ((Int32 × Mem))} {H : Heap} {locs : List Loc} {ls : Array Slot} (C : CX p s m args meth c cX9_partsOf 8 RX9 wc_X9_partsOf none)  (hG : Gd s G A 28 B (entM G B w) X H locs) (hl : lv_has ls 8 [(0, .ref (B + 0)), (2, .int x2), (3, .int x3), (4, .int x4)]) (hf : sh_X9_partsOf_j283 x2 x3 x4 s0 s1 w = some r)
    (kL : ∀ st' : Int32 × Int32 × Mem, r = Sum.inl st' → ∀ (H : Heap) (locs : List Loc) (ls : Array Slot), Gd s G A 28 B (entM G B st'.2.2) X H locs → lv_has ls 8 [(0, .ref (B + 0)), (1, .int st'.1), (2, .int st'.2.1)] → W p l e rm_X9_partsOf s m args below meth c H locs 0 0 Q (F0 m 9 ls []))
    (kX0 : ∀ y' : Int32 × Mem, r = Sum.inr y' → ∀ (H : Heap) (locs : List Loc) (ls : Array Slot), Gd s G A 28 B (entM G B y'.2) X H locs → lv_has ls 8 [(0, .ref (B + 0)), (1, .int y'.1)] → W p l e rm_X9_partsOf s m args below meth c H locs 0 0 Q (F0 m 346 ls [])) :
    W p l e rm_X9_partsOf s m args below meth c H locs 0 0 Q (F0 m 283 ls [.int s1, .int s0]) := by
  refine lv_isub C.1 C.2.1 dX9_partsOf_283 ?_
  obtain ⟨v1, ev1, hf⟩ := of_letv hf
  refine r_top ev1 ?_
  refine lv_istore_n (lv' := [(1, .int v1), (0, .ref (B + 0)), (2, .int x2), (3, .int x3), (4, .int x4)]) C.1 C.2.1 dX9_partsOf_284 rfl hl (by decide) rfl (fun ls hl => ?_)
  refine lv_aload_n C.1 C.2.1 dX9_partsOf_285 rfl (lv_at hl 1 rfl) ?_
  refine gf_X9_63 C hG rfl dX9_partsOf_286 ?_
  refine lv_iload C.1 C.2.1 dX9_partsOf_289 (lv_at hl 4 rfl) ?_
  refine lv_dup2_11 C.1 C.2.1 dX9_partsOf_291 rfl rfl ?_
  obtain ⟨v2, hv2, hf⟩ := of_bind hf
  obtain ⟨bv2, ev2⟩ := of_ldS hv2
  refine r_iald C hG (c0 := 18) (by decide) (entM_I (n := 24) rfl) bv2 dX9_partsOf_292 ?_
  refine r_top ev2 ?_
  refine lv_iload_n C.1 C.2.1 dX9_partsOf_293 rfl (lv_at hl 3 rfl) ?_
  refine lv_bipush (v := nI 6) C.1 C.2.1 dX9_partsOf_294 (by decide) ?_
  rcases of_ite hf with ⟨c3, hf⟩ | ⟨c3, hf⟩
  · refine lv_icmp_ne (tgt := 303) C.1 C.2.1 dX9_partsOf_296 (by decide) (fun q => absurd c3 q) (fun _ => ?_)
    refine lv_iconst (v := nI 1) C.1 C.2.1 dX9_partsOf_299 (by decide) ?_
    refine lv_goto (tgt := 304) C.1 C.2.1 dX9_partsOf_300 (by decide) ?_
    exact kb_X9_partsOf_304 C rfl hG (lv_sub hl [1, 0, 2, 3, 4] rfl) hf kL kX0
  · refine lv_icmp_ne (tgt := 303) C.1 C.2.1 dX9_partsOf_296 (by decide) (fun _ => ?_) (fun q => absurd q c3)
    refine lv_iconst (v := nI 0) C.1 C.2.1 dX9_partsOf_303 (by decide) ?_
    exact kb_X9_partsOf_304 C rfl hG (lv_sub hl [1, 0, 2, 3, 4] rfl) hf kL kX0
set_option maxRecDepth 100000 in
set_option maxHeartbeats 4000000 in
theorem kb_X9_partsOf_272 {x1 : Int32} {x2 : Int32} {x3 : Int32} {x4 : Int32} {w : Mem} {r : (Int32 × Int32 × Mem) ⊕ ((Int32 × Mem))} {H : Heap} {locs : List Loc} {ls : Array Slot} (C : CX p s m args meth c cX9_partsOf 8 RX9 wc_X9_partsOf none)  (hG : Gd s G A 28 B (entM G B w) X H locs) (hl : lv_has ls 8 [(0, .ref (B + 0)), (1, .int x1), (2, .int x2), (3, .int x3), (4, .int x4)]) (hf : sh_X9_partsOf_j272 x1 x2 x3 x4 w = some r)
    (kL : ∀ st' : Int32 × Int32 × Mem, r = Sum.inl st' → ∀ (H : Heap) (locs : List Loc) (ls : Array Slot), Gd s G A 28 B (entM G B st'.2.2) X H locs → lv_has ls 8 [(0, .ref (B + 0)), (1, .int st'.1), (2, .int st'.2.1)] → W p l e rm_X9_partsOf s m args below meth c H locs 0 0 Q (F0 m 9 ls []))
    (kX0 : ∀ y' : Int32 × Mem, r = Sum.inr y' → ∀ (H : Heap) (locs : List Loc) (ls : Array Slot), Gd s G A 28 B (entM G B y'.2) X H locs → lv_has ls 8 [(0, .ref (B + 0)), (1, .int y'.1)] → W p l e rm_X9_partsOf s m args below meth c H locs 0 0 Q (F0 m 346 ls [])) :
    W p l e rm_X9_partsOf s m args below meth c H locs 0 0 Q (F0 m 272 ls []) := by
  refine lv_iload_n C.1 C.2.1 dX9_partsOf_272 rfl (lv_at hl 1 rfl) ?_
  refine lv_iload_n C.1 C.2.1 dX9_partsOf_273 rfl (lv_at hl 3 rfl) ?_
  refine lv_iconst (v := nI 3) C.1 C.2.1 dX9_partsOf_274 (by decide) ?_
  rcases of_ite hf with ⟨c1, hf⟩ | ⟨c1, hf⟩
  · refine lv_icmp_ne (tgt := 282) C.1 C.2.1 dX9_partsOf_275 (by decide) (fun q => absurd c1 q) (fun _ => ?_)
    refine lv_iconst (v := nI 1) C.1 C.2.1 dX9_partsOf_278 (by decide) ?_
    refine lv_goto (tgt := 283) C.1 C.2.1 dX9_partsOf_279 (by decide) ?_
    exact kb_X9_partsOf_283 C  hG (lv_sub hl [0, 2, 3, 4] rfl) hf kL kX0
  · refine lv_icmp_ne (tgt := 282) C.1 C.2.1 dX9_partsOf_275 (by decide) (fun _ => ?_) (fun q => absurd q c1)
    refine lv_iconst (v := nI 0) C.1 C.2.1 dX9_partsOf_282 (by decide) ?_
    exact kb_X9_partsOf_283 C  hG (lv_sub hl [0, 2, 3, 4] rfl) hf kL kX0
set_option maxRecDepth 100000 in
set_option maxHeartbeats 4000000 in
theorem kb_X9_partsOf_256 {x1 : Int32} {x2 : Int32} {x3 : Int32} {x4 : Int32} {w : Mem} {r : (Int32 × Int32 × Mem) ⊕ ((Int32 × Mem))} {H : Heap} {locs : List Loc} {ls : Array Slot} (C : CX p s m args meth c cX9_partsOf 8 RX9 wc_X9_partsOf none)  (hG : Gd s G A 28 B (entM G B w) X H locs) (hl : lv_has ls 8 [(0, .ref (B + 0)), (1, .int x1), (2, .int x2), (3, .int x3), (4, .int x4)]) (hf : sh_X9_partsOf_j256 x1 x2 x3 x4 w = some r)
    (kL : ∀ st' : Int32 × Int32 × Mem, r = Sum.inl st' → ∀ (H : Heap) (locs : List Loc) (ls : Array Slot), Gd s G A 28 B (entM G B st'.2.2) X H locs → lv_has ls 8 [(0, .ref (B + 0)), (1, .int st'.1), (2, .int st'.2.1)] → W p l e rm_X9_partsOf s m args below meth c H locs 0 0 Q (F0 m 9 ls []))
    (kX0 : ∀ y' : Int32 × Mem, r = Sum.inr y' → ∀ (H : Heap) (locs : List Loc) (ls : Array Slot), Gd s G A 28 B (entM G B y'.2) X H locs → lv_has ls 8 [(0, .ref (B + 0)), (1, .int y'.1)] → W p l e rm_X9_partsOf s m args below meth c H locs 0 0 Q (F0 m 346 ls [])) :
    W p l e rm_X9_partsOf s m args below meth c H locs 0 0 Q (F0 m 256 ls []) := by
  refine lv_iload_n C.1 C.2.1 dX9_partsOf_256 rfl (lv_at hl 3 rfl) ?_
  refine lv_iconst (v := nI 2) C.1 C.2.1 dX9_partsOf_257 (by decide) ?_
  rcases of_ite hf with ⟨c1, hf⟩ | ⟨c1, hf⟩
  · refine lv_icmp_ne (tgt := 272) C.1 C.2.1 dX9_partsOf_258 (by decide) (fun q => absurd c1 q) (fun _ => ?_)
    refine lv_aload_n C.1 C.2.1 dX9_partsOf_261 rfl (lv_at hl 0 rfl) ?_
    refine gf_X9_51 C hG rfl dX9_partsOf_262 ?_
    refine lv_iload_n C.1 C.2.1 dX9_partsOf_265 rfl (lv_at hl 1 rfl) ?_
    refine lv_iload C.1 C.2.1 dX9_partsOf_266 (lv_at hl 4 rfl) ?_
    obtain ⟨w2, hw2, hf⟩ := of_bind hf
    obtain ⟨bw2, ew2⟩ := of_stM hw2
    refine r_iast C hG (c0 := 14) (by decide) (entM_I (n := 3) rfl) bw2 (E' := (entM G B w2)) (by rw [ew2]; exact upM_I (n := 3) rfl) dX9_partsOf_268 (fun H locs hG => ?_)
    obtain ⟨v3, ev3, hf⟩ := of_letv hf
    refine lv_iinc (v := v3) (lv' := [(1, .int v3), (0, .ref (B + 0)), (2, .int x2), (3, .int x3), (4, .int x4)]) C.1 C.2.1 dX9_partsOf_269 hl (k := 1) rfl (by rw [ev3, show Int32.ofInt (1) = nI 1 from by decide]) (by decide) rfl (fun ls hl => ?_)
    exact kb_X9_partsOf_272 C  hG (lv_sub hl [1, 0, 2, 3, 4] rfl) hf kL kX0
  · refine lv_icmp_ne (tgt := 272) C.1 C.2.1 dX9_partsOf_258 (by decide) (fun _ => ?_) (fun q => absurd q c1)
    exact kb_X9_partsOf_272 C  hG hl hf kL kX0
set_option maxRecDepth 100000 in
set_option maxHeartbeats 4000000 in
theorem kb_X9_partsOf_239 {x1 : Int32} {x2 : Int32} {x3 : Int32} {x6 : Int32} {w : Mem} {r : (Int32 × Int32 × Mem) ⊕ ((Int32 × Mem))} {H : Heap} {locs : List Loc} {ls : Array Slot} (C : CX p s m args meth c cX9_partsOf 8 RX9 wc_X9_partsOf none)  (hG : Gd s G A 28 B (entM G B w) X H locs) (hl : lv_has ls 8 [(0, .ref (B + 0)), (1, .int x1), (2, .int x2), (3, .int x3), (6, .int x6)]) (hf : sh_X9_partsOf_j239 x1 x2 x3 x6 w = some r)
    (kL : ∀ st' : Int32 × Int32 × Mem, r = Sum.inl st' → ∀ (H : Heap) (locs : List Loc) (ls : Array Slot), Gd s G A 28 B (entM G B st'.2.2) X H locs → lv_has ls 8 [(0, .ref (B + 0)), (1, .int st'.1), (2, .int st'.2.1)] → W p l e rm_X9_partsOf s m args below meth c H locs 0 0 Q (F0 m 9 ls []))
    (kX0 : ∀ y' : Int32 × Mem, r = Sum.inr y' → ∀ (H : Heap) (locs : List Loc) (ls : Array Slot), Gd s G A 28 B (entM G B y'.2) X H locs → lv_has ls 8 [(0, .ref (B + 0)), (1, .int y'.1)] → W p l e rm_X9_partsOf s m args below meth c H locs 0 0 Q (F0 m 346 ls [])) :
    W p l e rm_X9_partsOf s m args below meth c H locs 0 0 Q (F0 m 239 ls []) := by
  refine lv_iload C.1 C.2.1 dX9_partsOf_239 (lv_at hl 4 rfl) ?_
  refine lv_istore (lv' := [(4, .int x6), (0, .ref (B + 0)), (1, .int x1), (2, .int x2), (3, .int x3), (6, .int x6)]) C.1 C.2.1 dX9_partsOf_241 hl (by decide) rfl (fun ls hl => ?_)
  obtain ⟨v1, ev1, hf⟩ := of_letv hf
  refine lv_iinc (v := v1) (lv' := [(1, .int v1), (4, .int x6), (0, .ref (B + 0)), (2, .int x2), (3, .int x3), (6, .int x6)]) C.1 C.2.1 dX9_partsOf_243 hl (k := 2) rfl (by rw [ev1, show Int32.ofInt (-1) = (-1 : Int32) from by decide]) (by decide) rfl (fun ls hl => ?_)
  refine lv_aload_n C.1 C.2.1 dX9_partsOf_246 rfl (lv_at hl 2 rfl) ?_
  refine gf_X9_51 C hG rfl dX9_partsOf_247 ?_
  refine lv_iload_n C.1 C.2.1 dX9_partsOf_250 rfl (lv_at hl 0 rfl) ?_
  refine lv_iconst (v := nI 1) C.1 C.2.1 dX9_partsOf_251 (by decide) ?_
  refine lv_isub C.1 C.2.1 dX9_partsOf_252 ?_
  refine lv_iload C.1 C.2.1 dX9_partsOf_253 (lv_at hl 5 rfl) ?_
  obtain ⟨w2, hw2, hf⟩ := of_bind hf
  obtain ⟨bw2, ew2⟩ := of_stM hw2
  refine r_iast C hG (c0 := 14) (by decide) (entM_I (n := 3) rfl) bw2 (E' := (entM G B w2)) (by rw [ew2]; exact upM_I (n := 3) rfl) dX9_partsOf_255 (fun H locs hG => ?_)
  exact kb_X9_partsOf_256 C  hG (lv_sub hl [2, 0, 3, 4, 1] rfl) hf kL kX0
set_option maxRecDepth 100000 in
set_option maxHeartbeats 4000000 in
theorem kb_X9_partsOf_94 {x1 : Int32} {x2 : Int32} {x3 : Int32} {w : Mem} {r : (Int32 × Int32 × Mem) ⊕ ((Int32 × Mem))} {H : Heap} {locs : List Loc} {ls : Array Slot} (C : CX p s m args meth c cX9_partsOf 8 RX9 wc_X9_partsOf none)  (hG : Gd s G A 28 B (entM G B w) X H locs) (hl : lv_has ls 8 [(0, .ref (B + 0)), (1, .int x1), (2, .int x2), (3, .int x3)]) (hf : sh_X9_partsOf_j94 x1 x2 x3 w = some r)
    (kL : ∀ st' : Int32 × Int32 × Mem, r = Sum.inl st' → ∀ (H : Heap) (locs : List Loc) (ls : Array Slot), Gd s G A 28 B (entM G B st'.2.2) X H locs → lv_has ls 8 [(0, .ref (B + 0)), (1, .int st'.1), (2, .int st'.2.1)] → W p l e rm_X9_partsOf s m args below meth c H locs 0 0 Q (F0 m 9 ls []))
    (kX0 : ∀ y' : Int32 × Mem, r = Sum.inr y' → ∀ (H : Heap) (locs : List Loc) (ls : Array Slot), Gd s G A 28 B (entM G B y'.2) X H locs → lv_has ls 8 [(0, .ref (B + 0)), (1, .int y'.1)] → W p l e rm_X9_partsOf s m args below meth c H locs 0 0 Q (F0 m 346 ls [])) :
    W p l e rm_X9_partsOf s m args below meth c H locs 0 0 Q (F0 m 94 ls []) := by
  refine lv_iload_n C.1 C.2.1 dX9_partsOf_94 rfl (lv_at hl 3 rfl) ?_
  refine lv_iconst (v := nI 4) C.1 C.2.1 dX9_partsOf_95 (by decide) ?_
  rcases of_ite hf with ⟨c1, hf⟩ | ⟨c1, hf⟩
  · refine lv_icmp_ne (tgt := 138) C.1 C.2.1 dX9_partsOf_96 (by decide) (fun q => absurd c1 q) (fun _ => ?_)
    refine lv_aload_n C.1 C.2.1 dX9_partsOf_99 rfl (lv_at hl 0 rfl) ?_
    refine gf_X9_51 C hG rfl dX9_partsOf_100 ?_
    refine lv_iload_n C.1 C.2.1 dX9_partsOf_103 rfl (lv_at hl 1 rfl) ?_
    refine lv_iconst (v := nI 1) C.1 C.2.1 dX9_partsOf_104 (by decide) ?_
    refine lv_isub C.1 C.2.1 dX9_partsOf_105 ?_
    obtain ⟨v17, hv17, hf⟩ := of_bind hf
    obtain ⟨bv17, ev17⟩ := of_ldS hv17
    refine r_iald C hG (c0 := 14) (by decide) (entM_I (n := 3) rfl) bv17 dX9_partsOf_106 ?_
    refine r_top ev17 ?_
    refine lv_istore (lv' := [(4, .int v17), (0, .ref (B + 0)), (1, .int x1), (2, .int x2), (3, .int x3)]) C.1 C.2.1 dX9_partsOf_107 hl (by decide) rfl (fun ls hl => ?_)
    refine lv_aload_n C.1 C.2.1 dX9_partsOf_109 rfl (lv_at hl 1 rfl) ?_
    refine gf_X9_51 C hG rfl dX9_partsOf_110 ?_
    refine lv_iload_n C.1 C.2.1 dX9_partsOf_113 rfl (lv_at hl 2 rfl) ?_
    refine lv_iconst (v := nI 1) C.1 C.2.1 dX9_partsOf_114 (by decide) ?_
    refine lv_isub C.1 C.2.1 dX9_partsOf_115 ?_
    refine lv_aload_n C.1 C.2.1 dX9_partsOf_116 rfl (lv_at hl 1 rfl) ?_
    refine gf_X9_51 C hG rfl dX9_partsOf_117 ?_
    refine lv_iload_n C.1 C.2.1 dX9_partsOf_120 rfl (lv_at hl 2 rfl) ?_
    refine lv_iconst (v := nI 2) C.1 C.2.1 dX9_partsOf_121 (by decide) ?_
    refine lv_isub C.1 C.2.1 dX9_partsOf_122 ?_
    obtain ⟨v18, hv18, hf⟩ := of_bind hf
    obtain ⟨bv18, ev18⟩ := of_ldS hv18
    refine r_iald C hG (c0 := 14) (by decide) (entM_I (n := 3) rfl) bv18 dX9_partsOf_123 ?_
    refine r_top ev18 ?_
    obtain ⟨w19, hw19, hf⟩ := of_bind hf
    obtain ⟨bw19, ew19⟩ := of_stM hw19
    refine r_iast C hG (c0 := 14) (by decide) (entM_I (n := 3) rfl) bw19 (E' := (entM G B w19)) (by rw [ew19]; exact upM_I (n := 3) rfl) dX9_partsOf_124 (fun H locs hG => ?_)
    refine lv_aload_n C.1 C.2.1 dX9_partsOf_125 rfl (lv_at hl 1 rfl) ?_
    refine gf_X9_51 C hG rfl dX9_partsOf_126 ?_
    refine lv_iload_n C.1 C.2.1 dX9_partsOf_129 rfl (lv_at hl 2 rfl) ?_
    refine lv_iconst (v := nI 2) C.1 C.2.1 dX9_partsOf_130 (by decide) ?_
    refine lv_isub C.1 C.2.1 dX9_partsOf_131 ?_
    refine lv_iload C.1 C.2.1 dX9_partsOf_132 (lv_at hl 0 rfl) ?_
    obtain ⟨w20, hw20, hf⟩ := of_bind hf
    obtain ⟨bw20, ew20⟩ := of_stM hw20
    refine r_iast C hG (c0 := 14) (by decide) (entM_I (n := 3) rfl) bw20 (E' := (entM G B w20)) (by rw [ew20]; exact upM_I (n := 3) rfl) dX9_partsOf_134 (fun H locs hG => ?_)
    refine lv_goto (tgt := 340) C.1 C.2.1 dX9_partsOf_135 (by decide) ?_
    obtain ⟨v21, ev21, hf⟩ := of_letv hf
    refine lv_iinc (v := v21) (lv' := [(2, .int v21), (4, .int v17), (0, .ref (B + 0)), (1, .int x1), (3, .int x3)]) C.1 C.2.1 dX9_partsOf_340 hl (k := 3) rfl (by rw [ev21, show Int32.ofInt (1) = nI 1 from by decide]) (by decide) rfl (fun ls hl => ?_)
    refine lv_goto (tgt := 9) C.1 C.2.1 dX9_partsOf_343 (by decide) ?_
    obtain rfl := Option.some.inj hf
    exact kL _ rfl _ _ _ hG (lv_sub hl [2, 3, 0] rfl)
  · refine lv_icmp_ne (tgt := 138) C.1 C.2.1 dX9_partsOf_96 (by decide) (fun _ => ?_) (fun q => absurd q c1)
    refine lv_aload_n C.1 C.2.1 dX9_partsOf_138 rfl (lv_at hl 0 rfl) ?_
    refine lv_aload_n C.1 C.2.1 dX9_partsOf_139 rfl (lv_at hl 0 rfl) ?_
    refine gf_X9_51 C hG rfl dX9_partsOf_140 ?_
    refine lv_iload_n C.1 C.2.1 dX9_partsOf_143 rfl (lv_at hl 1 rfl) ?_
    refine lv_iconst (v := nI 1) C.1 C.2.1 dX9_partsOf_144 (by decide) ?_
    refine lv_isub C.1 C.2.1 dX9_partsOf_145 ?_
    obtain ⟨v2, hv2, hf⟩ := of_bind hf
    obtain ⟨bv2, ev2⟩ := of_ldS hv2
    refine r_iald C hG (c0 := 14) (by decide) (entM_I (n := 3) rfl) bv2 dX9_partsOf_146 ?_
    refine r_top ev2 ?_
    obtain ⟨v3, hv3, hf⟩ := of_bind hf
    refine r_callV1 C hG hl.1 (c0 := 0) (As := [.int v2]) (by decide) (entM_O (n := 35) rfl) rfl (mt_X9_first l  hv3) (cwV 1 C.2.2.2.2.1 (gd_V tg_5_123 tg_5_125 tgp_46 tg_1_10 tg_5_126) rfl rfl rfl cd_X9_first ⟨Nat.le_of_ble_eq_true rfl, Nat.le_of_ble_eq_true rfl⟩) rfl rfl (Nat.le_of_ble_eq_true rfl) dX9_partsOf_147 (fun H locs hG => ?_)
    refine lv_istore (lv' := [(4, .int v3), (0, .ref (B + 0)), (1, .int x1), (2, .int x2), (3, .int x3)]) C.1 C.2.1 dX9_partsOf_150 hl (by decide) rfl (fun ls hl => ?_)
    refine lv_iload_n C.1 C.2.1 dX9_partsOf_152 rfl (lv_at hl 4 rfl) ?_
    refine lv_iconst (v := nI 1) C.1 C.2.1 dX9_partsOf_153 (by decide) ?_
    rcases of_ite hf with ⟨c4, hf⟩ | ⟨c4, hf⟩
    · refine lv_icmp_ne (tgt := 256) C.1 C.2.1 dX9_partsOf_154 (by decide) (fun q => absurd c4 q) (fun _ => ?_)
      refine lv_aload_n C.1 C.2.1 dX9_partsOf_157 rfl (lv_at hl 1 rfl) ?_
      refine lv_aload_n C.1 C.2.1 dX9_partsOf_158 rfl (lv_at hl 1 rfl) ?_
      refine gf_X9_51 C hG rfl dX9_partsOf_159 ?_
      refine lv_iload_n C.1 C.2.1 dX9_partsOf_162 rfl (lv_at hl 2 rfl) ?_
      refine lv_iconst (v := nI 2) C.1 C.2.1 dX9_partsOf_163 (by decide) ?_
      refine lv_isub C.1 C.2.1 dX9_partsOf_164 ?_
      obtain ⟨v5, hv5, hf⟩ := of_bind hf
      obtain ⟨bv5, ev5⟩ := of_ldS hv5
      refine r_iald C hG (c0 := 14) (by decide) (entM_I (n := 3) rfl) bv5 dX9_partsOf_165 ?_
      refine r_top ev5 ?_
      obtain ⟨v6, hv6, hf⟩ := of_bind hf
      refine r_callV1 C hG hl.1 (c0 := 0) (As := [.int v5]) (by decide) (entM_O (n := 35) rfl) rfl (mt_X9_first l  hv6) (cwV 1 C.2.2.2.2.1 (gd_V tg_5_123 tg_5_125 tgp_46 tg_1_10 tg_5_126) rfl rfl rfl cd_X9_first ⟨Nat.le_of_ble_eq_true rfl, Nat.le_of_ble_eq_true rfl⟩) rfl rfl (Nat.le_of_ble_eq_true rfl) dX9_partsOf_166 (fun H locs hG => ?_)
      refine lv_istore (lv' := [(5, .int v6), (4, .int v3), (0, .ref (B + 0)), (1, .int x1), (2, .int x2), (3, .int x3)]) C.1 C.2.1 dX9_partsOf_169 hl (by decide) rfl (fun ls hl => ?_)
      refine lv_iload C.1 C.2.1 dX9_partsOf_171 (lv_at hl 1 rfl) ?_
      refine lv_iload C.1 C.2.1 dX9_partsOf_173 (lv_at hl 0 rfl) ?_
      refine r_min C hl.1 (List.mem_cons_of_mem _ tg_5_127) (List.mem_cons_of_mem _ tg_2_208) (List.mem_cons_of_mem _ tg_1_12) (List.mem_cons_of_mem _ tg_2_209) (Nat.le_of_ble_eq_true rfl) (Nat.le_of_ble_eq_true rfl) dX9_partsOf_175 ?_
      obtain ⟨v7, ev7, hf⟩ := of_letv hf
      refine r_top ev7 ?_
      refine lv_istore (lv' := [(6, .int v7), (5, .int v6), (4, .int v3), (0, .ref (B + 0)), (1, .int x1), (2, .int x2), (3, .int x3)]) C.1 C.2.1 dX9_partsOf_178 hl (by decide) rfl (fun ls hl => ?_)
      refine lv_iload C.1 C.2.1 dX9_partsOf_180 (lv_at hl 2 rfl) ?_
      refine lv_iload C.1 C.2.1 dX9_partsOf_182 (lv_at hl 1 rfl) ?_
      refine r_max C hl.1 (List.mem_cons_of_mem _ tg_5_128) (List.mem_cons_of_mem _ tg_2_211) (List.mem_cons_of_mem _ tg_1_12) (List.mem_cons_of_mem _ tg_2_212) (Nat.le_of_ble_eq_true rfl) (Nat.le_of_ble_eq_true rfl) dX9_partsOf_184 ?_
      obtain ⟨v8, ev8, hf⟩ := of_letv hf
      refine r_top ev8 ?_
      refine lv_istore (lv' := [(7, .int v8), (6, .int v7), (5, .int v6), (4, .int v3), (0, .ref (B + 0)), (1, .int x1), (2, .int x2), (3, .int x3)]) C.1 C.2.1 dX9_partsOf_187 hl (by decide) rfl (fun ls hl => ?_)
      refine lv_iload C.1 C.2.1 dX9_partsOf_189 (lv_at hl 0 rfl) ?_
      refine lv_iload C.1 C.2.1 dX9_partsOf_191 (lv_at hl 1 rfl) ?_
      rcases of_ite hf with ⟨c9, hf⟩ | ⟨c9, hf⟩
      · refine lv_icmp_eq (tgt := 239) C.1 C.2.1 dX9_partsOf_193 (by decide) (fun _ => ?_) (fun q => absurd c9 q)
        exact kb_X9_partsOf_239 C  hG (lv_sub hl [4, 5, 6, 7, 1] rfl) hf kL kX0
      · refine lv_icmp_eq (tgt := 239) C.1 C.2.1 dX9_partsOf_193 (by decide) (fun q => absurd q c9) (fun _ => ?_)
        refine lv_aload_n C.1 C.2.1 dX9_partsOf_196 rfl (lv_at hl 4 rfl) ?_
        refine gf_X9_54 C hG rfl dX9_partsOf_197 ?_
        refine lv_iload C.1 C.2.1 dX9_partsOf_200 (lv_at hl 0 rfl) ?_
        refine lv_iload C.1 C.2.1 dX9_partsOf_202 (lv_at hl 1 rfl) ?_
        obtain ⟨w10, hw10, hf⟩ := of_bind hf
        obtain ⟨bw10, ew10⟩ := of_stM hw10
        refine r_iast C hG (c0 := 15) (by decide) (entM_I (n := 24) rfl) bw10 (E' := (entM G B w10)) (by rw [ew10]; exact upM_I (n := 24) rfl) dX9_partsOf_204 (fun H locs hG => ?_)
        refine lv_aload_n C.1 C.2.1 dX9_partsOf_205 rfl (lv_at hl 4 rfl) ?_
        refine gf_X9_57 C hG rfl dX9_partsOf_206 ?_
        refine lv_iload C.1 C.2.1 dX9_partsOf_209 (lv_at hl 1 rfl) ?_
        refine lv_dup2_11 C.1 C.2.1 dX9_partsOf_211 rfl rfl ?_
        obtain ⟨v11, hv11, hf⟩ := of_bind hf
        obtain ⟨bv11, ev11⟩ := of_ldS hv11
        refine r_iald C hG (c0 := 16) (by decide) (entM_I (n := 24) rfl) bv11 dX9_partsOf_212 ?_
        refine r_top ev11 ?_
        refine lv_aload_n C.1 C.2.1 dX9_partsOf_213 rfl (lv_at hl 4 rfl) ?_
        refine gf_X9_57 C hG rfl dX9_partsOf_214 ?_
        refine lv_iload C.1 C.2.1 dX9_partsOf_217 (lv_at hl 0 rfl) ?_
        obtain ⟨v12, hv12, hf⟩ := of_bind hf
        obtain ⟨bv12, ev12⟩ := of_ldS hv12
        refine r_iald C hG (c0 := 16) (by decide) (entM_I (n := 24) rfl) bv12 dX9_partsOf_219 ?_
        refine r_top ev12 ?_
        refine lv_iadd C.1 C.2.1 dX9_partsOf_220 ?_
        obtain ⟨w13, hw13, hf⟩ := of_bind hf
        obtain ⟨bw13, ew13⟩ := of_stM hw13
        refine r_iast C hG (c0 := 16) (by decide) (entM_I (n := 24) rfl) bw13 (E' := (entM G B w13)) (by rw [ew13]; exact upM_I (n := 24) rfl) dX9_partsOf_221 (fun H locs hG => ?_)
        refine lv_aload_n C.1 C.2.1 dX9_partsOf_222 rfl (lv_at hl 4 rfl) ?_
        refine gf_X9_63 C hG rfl dX9_partsOf_223 ?_
        refine lv_iload C.1 C.2.1 dX9_partsOf_226 (lv_at hl 1 rfl) ?_
        refine lv_dup2_11 C.1 C.2.1 dX9_partsOf_228 rfl rfl ?_
        obtain ⟨v14, hv14, hf⟩ := of_bind hf
        obtain ⟨bv14, ev14⟩ := of_ldS hv14
        refine r_iald C hG (c0 := 18) (by decide) (entM_I (n := 24) rfl) bv14 dX9_partsOf_229 ?_
        refine r_top ev14 ?_
        refine lv_aload_n C.1 C.2.1 dX9_partsOf_230 rfl (lv_at hl 4 rfl) ?_
        refine gf_X9_63 C hG rfl dX9_partsOf_231 ?_
        refine lv_iload C.1 C.2.1 dX9_partsOf_234 (lv_at hl 0 rfl) ?_
        obtain ⟨v15, hv15, hf⟩ := of_bind hf
        obtain ⟨bv15, ev15⟩ := of_ldS hv15
        refine r_iald C hG (c0 := 18) (by decide) (entM_I (n := 24) rfl) bv15 dX9_partsOf_236 ?_
        refine r_top ev15 ?_
        refine lv_ior C.1 C.2.1 dX9_partsOf_237 ?_
        obtain ⟨w16, hw16, hf⟩ := of_bind hf
        obtain ⟨bw16, ew16⟩ := of_stM hw16
        refine r_iast C hG (c0 := 18) (by decide) (entM_I (n := 24) rfl) bw16 (E' := (entM G B w16)) (by rw [ew16]; exact upM_I (n := 24) rfl) dX9_partsOf_238 (fun H locs hG => ?_)
        exact kb_X9_partsOf_239 C  hG (lv_sub hl [4, 5, 6, 7, 1] rfl) hf kL kX0
    · refine lv_icmp_ne (tgt := 256) C.1 C.2.1 dX9_partsOf_154 (by decide) (fun _ => ?_) (fun q => absurd q c4)
      exact kb_X9_partsOf_256 C  hG (lv_sub hl [1, 2, 3, 4, 0] rfl) hf kL kX0
set_option maxRecDepth 100000 in
set_option maxHeartbeats 4000000 in
theorem kb_X9_partsOf_9  {st : Int32 × Int32 × Mem} {r : (Int32 × Int32 × Mem) ⊕ ((Int32 × Mem))} {H : Heap} {locs : List Loc} {ls : Array Slot} (C : CX p s m args meth c cX9_partsOf 8 RX9 wc_X9_partsOf none)  (hG : Gd s G A 28 B (entM G B st.2.2) X H locs) (hl : lv_has ls 8 [(0, .ref (B + 0)), (1, .int st.1), (2, .int st.2.1)]) (hf : sh_X9_partsOf_s9  st = some r)
    (kL : ∀ st' : Int32 × Int32 × Mem, r = Sum.inl st' → ∀ (H : Heap) (locs : List Loc) (ls : Array Slot), Gd s G A 28 B (entM G B st'.2.2) X H locs → lv_has ls 8 [(0, .ref (B + 0)), (1, .int st'.1), (2, .int st'.2.1)] → W p l e rm_X9_partsOf s m args below meth c H locs 0 0 Q (F0 m 9 ls []))
    (kX0 : ∀ y' : Int32 × Mem, r = Sum.inr y' → ∀ (H : Heap) (locs : List Loc) (ls : Array Slot), Gd s G A 28 B (entM G B y'.2) X H locs → lv_has ls 8 [(0, .ref (B + 0)), (1, .int y'.1)] → W p l e rm_X9_partsOf s m args below meth c H locs 0 0 Q (F0 m 346 ls [])) :
    W p l e rm_X9_partsOf s m args below meth c H locs 0 0 Q (F0 m 9 ls []) := by
  refine lv_iload_n C.1 C.2.1 dX9_partsOf_9 rfl (lv_at hl 2 rfl) ?_
  refine lv_aload_n C.1 C.2.1 dX9_partsOf_10 rfl (lv_at hl 0 rfl) ?_
  refine gf_X9_170 C hG rfl dX9_partsOf_11 ?_
  rcases of_ite hf with ⟨c1, hf⟩ | ⟨c1, hf⟩
  · refine lv_icmp_ge (tgt := 346) C.1 C.2.1 dX9_partsOf_14 (by decide) (fun _ => ?_) (fun q => absurd c1 q)
    obtain rfl := Option.some.inj hf
    exact kX0 _ rfl _ _ _ hG (lv_sub hl [0, 1] rfl)
  · refine lv_icmp_ge (tgt := 346) C.1 C.2.1 dX9_partsOf_14 (by decide) (fun q => absurd q c1) (fun _ => ?_)
    refine lv_aload_n C.1 C.2.1 dX9_partsOf_17 rfl (lv_at hl 0 rfl) ?_
    refine gf_X9_45 C hG rfl dX9_partsOf_18 ?_
    refine lv_iload_n C.1 C.2.1 dX9_partsOf_21 rfl (lv_at hl 2 rfl) ?_
    obtain ⟨v2, hv2, hf⟩ := of_bind hf
    obtain ⟨bv2, ev2⟩ := of_ldS hv2
    refine r_iald C hG (c0 := 12) (by decide) (entM_I (n := 48) rfl) bv2 dX9_partsOf_22 ?_
    refine r_top ev2 ?_
    refine lv_istore_n (lv' := [(3, .int v2), (0, .ref (B + 0)), (1, .int st.1), (2, .int st.2.1)]) C.1 C.2.1 dX9_partsOf_23 rfl hl (by decide) rfl (fun ls hl => ?_)
    refine lv_iload_n C.1 C.2.1 dX9_partsOf_24 rfl (lv_at hl 0 rfl) ?_
    rcases of_ite hf with ⟨c3, hf⟩ | ⟨c3, hf⟩
    · refine lv_if_ne (tgt := 94) C.1 C.2.1 dX9_partsOf_25 (by decide) (fun q => absurd c3 q) (fun _ => ?_)
      refine lv_aload_n C.1 C.2.1 dX9_partsOf_28 rfl (lv_at hl 1 rfl) ?_
      refine gf_X9_54 C hG rfl dX9_partsOf_29 ?_
      refine lv_aload_n C.1 C.2.1 dX9_partsOf_32 rfl (lv_at hl 1 rfl) ?_
      refine gf_X9_217 C hG rfl dX9_partsOf_33 ?_
      refine lv_aload_n C.1 C.2.1 dX9_partsOf_36 rfl (lv_at hl 1 rfl) ?_
      refine gf_X9_217 C hG rfl dX9_partsOf_37 ?_
      obtain ⟨w4, hw4, hf⟩ := of_bind hf
      obtain ⟨bw4, ew4⟩ := of_stM hw4
      refine r_iast C hG (c0 := 15) (by decide) (entM_I (n := 24) rfl) bw4 (E' := (entM G B w4)) (by rw [ew4]; exact upM_I (n := 24) rfl) dX9_partsOf_40 (fun H locs hG => ?_)
      refine lv_aload_n C.1 C.2.1 dX9_partsOf_41 rfl (lv_at hl 1 rfl) ?_
      refine gf_X9_57 C hG rfl dX9_partsOf_42 ?_
      refine lv_aload_n C.1 C.2.1 dX9_partsOf_45 rfl (lv_at hl 1 rfl) ?_
      refine gf_X9_217 C hG rfl dX9_partsOf_46 ?_
      refine lv_iconst (v := nI 0) C.1 C.2.1 dX9_partsOf_49 (by decide) ?_
      obtain ⟨w5, hw5, hf⟩ := of_bind hf
      obtain ⟨bw5, ew5⟩ := of_stM hw5
      refine r_iast C hG (c0 := 16) (by decide) (entM_I (n := 24) rfl) bw5 (E' := (entM G B w5)) (by rw [ew5]; exact upM_I (n := 24) rfl) dX9_partsOf_50 (fun H locs hG => ?_)
      refine lv_aload_n C.1 C.2.1 dX9_partsOf_51 rfl (lv_at hl 1 rfl) ?_
      refine gf_X9_60 C hG rfl dX9_partsOf_52 ?_
      refine lv_aload_n C.1 C.2.1 dX9_partsOf_55 rfl (lv_at hl 1 rfl) ?_
      refine gf_X9_217 C hG rfl dX9_partsOf_56 ?_
      refine lv_iconst (v := nI 0) C.1 C.2.1 dX9_partsOf_59 (by decide) ?_
      obtain ⟨w6, hw6, hf⟩ := of_bind hf
      obtain ⟨bw6, ew6⟩ := of_stM hw6
      refine r_iast C hG (c0 := 17) (by decide) (entM_I (n := 24) rfl) bw6 (E' := (entM G B w6)) (by rw [ew6]; exact upM_I (n := 24) rfl) dX9_partsOf_60 (fun H locs hG => ?_)
      refine lv_aload_n C.1 C.2.1 dX9_partsOf_61 rfl (lv_at hl 1 rfl) ?_
      refine gf_X9_63 C hG rfl dX9_partsOf_62 ?_
      refine lv_aload_n C.1 C.2.1 dX9_partsOf_65 rfl (lv_at hl 1 rfl) ?_
      refine gf_X9_217 C hG rfl dX9_partsOf_66 ?_
      refine lv_iconst (v := nI 0) C.1 C.2.1 dX9_partsOf_69 (by decide) ?_
      obtain ⟨w7, hw7, hf⟩ := of_bind hf
      obtain ⟨bw7, ew7⟩ := of_stM hw7
      refine r_iast C hG (c0 := 18) (by decide) (entM_I (n := 24) rfl) bw7 (E' := (entM G B w7)) (by rw [ew7]; exact upM_I (n := 24) rfl) dX9_partsOf_70 (fun H locs hG => ?_)
      refine lv_aload_n C.1 C.2.1 dX9_partsOf_71 rfl (lv_at hl 1 rfl) ?_
      refine gf_X9_51 C hG rfl dX9_partsOf_72 ?_
      refine lv_iload_n C.1 C.2.1 dX9_partsOf_75 rfl (lv_at hl 2 rfl) ?_
      refine lv_aload_n C.1 C.2.1 dX9_partsOf_76 rfl (lv_at hl 1 rfl) ?_
      refine gf_X9_217 C hG rfl dX9_partsOf_77 ?_
      obtain ⟨w8, hw8, hf⟩ := of_bind hf
      obtain ⟨bw8, ew8⟩ := of_stM hw8
      refine r_iast C hG (c0 := 14) (by decide) (entM_I (n := 3) rfl) bw8 (E' := (entM G B w8)) (by rw [ew8]; exact upM_I (n := 3) rfl) dX9_partsOf_80 (fun H locs hG => ?_)
      refine lv_aload_n C.1 C.2.1 dX9_partsOf_81 rfl (lv_at hl 1 rfl) ?_
      refine lv_dup C.1 C.2.1 dX9_partsOf_82 rfl ?_
      refine gf_X9_217 C hG rfl dX9_partsOf_83 ?_
      refine lv_iconst (v := nI 1) C.1 C.2.1 dX9_partsOf_86 (by decide) ?_
      refine lv_iadd C.1 C.2.1 dX9_partsOf_87 ?_
      obtain ⟨w9, ew9, hf⟩ := of_letv hf
      refine pf_X9_217 C hG rfl dX9_partsOf_88 (fun H locs hG => ?_)
      rw [← ew9] at hG
      obtain ⟨v10, ev10, hf⟩ := of_letv hf
      refine lv_iinc (v := v10) (lv' := [(1, .int v10), (3, .int v2), (0, .ref (B + 0)), (2, .int st.2.1)]) C.1 C.2.1 dX9_partsOf_91 hl (k := 2) rfl (by rw [ev10, show Int32.ofInt (1) = nI 1 from by decide]) (by decide) rfl (fun ls hl => ?_)
      exact kb_X9_partsOf_94 C  hG (lv_sub hl [2, 0, 3, 1] rfl) hf kL kX0
    · refine lv_if_ne (tgt := 94) C.1 C.2.1 dX9_partsOf_25 (by decide) (fun _ => ?_) (fun q => absurd q c3)
      exact kb_X9_partsOf_94 C  hG (lv_sub hl [1, 2, 3, 0] rfl) hf kL kX0
set_option maxRecDepth 100000 in
set_option maxHeartbeats 4000000 in
theorem kl_X9_partsOf_9  (C : CX p s m args meth c cX9_partsOf 8 RX9 wc_X9_partsOf none)  : ∀ (n : Nat) (st : Int32 × Int32 × Mem) (x : (Int32 × Mem)) (H : Heap) (locs : List Loc) (ls : Array Slot), Gd s G A 28 B (entM G B st.2.2) X H locs → lv_has ls 8 [(0, .ref (B + 0)), (1, .int st.1), (2, .int st.2.1)] → lpw (sh_X9_partsOf_s9 ) n st = some x →
    (∀ y' : Int32 × Mem, x = y' → ∀ (H : Heap) (locs : List Loc) (ls : Array Slot), Gd s G A 28 B (entM G B y'.2) X H locs → lv_has ls 8 [(0, .ref (B + 0)), (1, .int y'.1)] → W p l e rm_X9_partsOf s m args below meth c H locs 0 0 Q (F0 m 346 ls [])) → W p l e rm_X9_partsOf s m args below meth c H locs 0 0 Q (F0 m 9 ls []) := by
  intro n
  induction n with
  | zero =>
    intro st x H locs ls hG hl hf
    cases hf
  | succ n ih =>
    intro st x H locs ls hG hl hf kX0
    obtain ⟨r, hr, hh⟩ := of_lpw hf
    refine kb_X9_partsOf_9 C  hG hl hr (fun st2 e1 H locs ls hG hl => ?_) (fun y2 e1 H locs ls hG hl => ?_)
    · rcases hh with ⟨s3, e2, hh⟩ | e2
      · rw [e2] at e1
        cases e1
        exact ih _ _ _ _ _ hG hl hh kX0
      · rw [e2] at e1
        cases e1
    · rcases hh with ⟨s3, e2, hh⟩ | e2
      · rw [e2] at e1
        cases e1
      · rw [e2] at e1
        cases e1
        exact kX0 _ rfl _ _ _ hG hl
set_option maxRecDepth 100000 in
set_option maxHeartbeats 4000000 in
theorem kb_X9_partsOf_348 {x1 : Int32} {st : Int32 × Mem} {r : (Int32 × Mem) ⊕ ((Mem))} {H : Heap} {locs : List Loc} {ls : Array Slot} (C : CX p s m args meth c cX9_partsOf 8 RX9 wc_X9_partsOf none)  (hG : Gd s G A 28 B (entM G B st.2) X H locs) (hl : lv_has ls 8 [(0, .ref (B + 0)), (1, .int x1), (2, .int st.1)]) (hf : sh_X9_partsOf_s348 x1 st = some r)
    (kL : ∀ st' : Int32 × Mem, r = Sum.inl st' → ∀ (H : Heap) (locs : List Loc) (ls : Array Slot), Gd s G A 28 B (entM G B st'.2) X H locs → lv_has ls 8 [(0, .ref (B + 0)), (1, .int x1), (2, .int st'.1)] → W p l e rm_X9_partsOf s m args below meth c H locs 0 0 Q (F0 m 348 ls []))
    (kX0 : ∀ y' : Mem, r = Sum.inr y' → ∀ (H : Heap) (locs : List Loc) (ls : Array Slot), Gd s G A 28 B (entM G B y') X H locs → lv_has ls 8 [] → W p l e rm_X9_partsOf s m args below meth c H locs 0 0 Q (F0 m 378 ls [])) :
    W p l e rm_X9_partsOf s m args below meth c H locs 0 0 Q (F0 m 348 ls []) := by
  refine lv_iload_n C.1 C.2.1 dX9_partsOf_348 rfl (lv_at hl 2 rfl) ?_
  refine lv_iload_n C.1 C.2.1 dX9_partsOf_349 rfl (lv_at hl 1 rfl) ?_
  rcases of_ite hf with ⟨c1, hf⟩ | ⟨c1, hf⟩
  · refine lv_icmp_ge (tgt := 378) C.1 C.2.1 dX9_partsOf_350 (by decide) (fun _ => ?_) (fun q => absurd c1 q)
    obtain rfl := Option.some.inj hf
    exact kX0 _ rfl _ _ _ hG (lv_sub hl [] rfl)
  · refine lv_icmp_ge (tgt := 378) C.1 C.2.1 dX9_partsOf_350 (by decide) (fun q => absurd q c1) (fun _ => ?_)
    refine lv_aload_n C.1 C.2.1 dX9_partsOf_353 rfl (lv_at hl 0 rfl) ?_
    refine gf_X9_60 C hG rfl dX9_partsOf_354 ?_
    refine lv_aload_n C.1 C.2.1 dX9_partsOf_357 rfl (lv_at hl 0 rfl) ?_
    refine lv_aload_n C.1 C.2.1 dX9_partsOf_358 rfl (lv_at hl 0 rfl) ?_
    refine gf_X9_51 C hG rfl dX9_partsOf_359 ?_
    refine lv_iload_n C.1 C.2.1 dX9_partsOf_362 rfl (lv_at hl 2 rfl) ?_
    obtain ⟨v2, hv2, hf⟩ := of_bind hf
    obtain ⟨bv2, ev2⟩ := of_ldS hv2
    refine r_iald C hG (c0 := 14) (by decide) (entM_I (n := 3) rfl) bv2 dX9_partsOf_363 ?_
    refine r_top ev2 ?_
    obtain ⟨v3, hv3, hf⟩ := of_bind hf
    refine r_callV1 C hG hl.1 (c0 := 0) (As := [.int v2]) (by decide) (entM_O (n := 35) rfl) rfl (mt_X9_first l  hv3) (cwV 1 C.2.2.2.2.1 (gd_V tg_5_123 tg_5_125 tgp_46 tg_1_10 tg_5_126) rfl rfl rfl cd_X9_first ⟨Nat.le_of_ble_eq_true rfl, Nat.le_of_ble_eq_true rfl⟩) rfl rfl (Nat.le_of_ble_eq_true rfl) dX9_partsOf_364 (fun H locs hG => ?_)
    refine lv_dup2_11 C.1 C.2.1 dX9_partsOf_367 rfl rfl ?_
    obtain ⟨v4, hv4, hf⟩ := of_bind hf
    obtain ⟨bv4, ev4⟩ := of_ldS hv4
    refine r_iald C hG (c0 := 17) (by decide) (entM_I (n := 24) rfl) bv4 dX9_partsOf_368 ?_
    refine r_top ev4 ?_
    refine lv_iconst (v := nI 1) C.1 C.2.1 dX9_partsOf_369 (by decide) ?_
    refine lv_iadd C.1 C.2.1 dX9_partsOf_370 ?_
    obtain ⟨w5, hw5, hf⟩ := of_bind hf
    obtain ⟨bw5, ew5⟩ := of_stM hw5
    refine r_iast C hG (c0 := 17) (by decide) (entM_I (n := 24) rfl) bw5 (E' := (entM G B w5)) (by rw [ew5]; exact upM_I (n := 24) rfl) dX9_partsOf_371 (fun H locs hG => ?_)
    obtain ⟨v6, ev6, hf⟩ := of_letv hf
    refine lv_iinc (v := v6) (lv' := [(2, .int v6), (0, .ref (B + 0)), (1, .int x1)]) C.1 C.2.1 dX9_partsOf_372 hl (k := 2) rfl (by rw [ev6, show Int32.ofInt (1) = nI 1 from by decide]) (by decide) rfl (fun ls hl => ?_)
    refine lv_goto (tgt := 348) C.1 C.2.1 dX9_partsOf_375 (by decide) ?_
    obtain rfl := Option.some.inj hf
    exact kL _ rfl _ _ _ hG (lv_sub hl [1, 2, 0] rfl)
set_option maxRecDepth 100000 in
set_option maxHeartbeats 4000000 in
theorem kl_X9_partsOf_348 {x1 : Int32} (C : CX p s m args meth c cX9_partsOf 8 RX9 wc_X9_partsOf none)  : ∀ (n : Nat) (st : Int32 × Mem) (x : (Mem)) (H : Heap) (locs : List Loc) (ls : Array Slot), Gd s G A 28 B (entM G B st.2) X H locs → lv_has ls 8 [(0, .ref (B + 0)), (1, .int x1), (2, .int st.1)] → lpw (sh_X9_partsOf_s348 x1) n st = some x →
    (∀ y' : Mem, x = y' → ∀ (H : Heap) (locs : List Loc) (ls : Array Slot), Gd s G A 28 B (entM G B y') X H locs → lv_has ls 8 [] → W p l e rm_X9_partsOf s m args below meth c H locs 0 0 Q (F0 m 378 ls [])) → W p l e rm_X9_partsOf s m args below meth c H locs 0 0 Q (F0 m 348 ls []) := by
  intro n
  induction n with
  | zero =>
    intro st x H locs ls hG hl hf
    cases hf
  | succ n ih =>
    intro st x H locs ls hG hl hf kX0
    obtain ⟨r, hr, hh⟩ := of_lpw hf
    refine kb_X9_partsOf_348 C  hG hl hr (fun st2 e1 H locs ls hG hl => ?_) (fun y2 e1 H locs ls hG hl => ?_)
    · rcases hh with ⟨s3, e2, hh⟩ | e2
      · rw [e2] at e1
        cases e1
        exact ih _ _ _ _ _ hG hl hh kX0
      · rw [e2] at e1
        cases e1
    · rcases hh with ⟨s3, e2, hh⟩ | e2
      · rw [e2] at e1
        cases e1
      · rw [e2] at e1
        cases e1
        exact kX0 _ rfl _ _ _ hG hl
set_option maxRecDepth 100000 in
set_option maxHeartbeats 4000000 in
theorem kb_X9_partsOf_0 {w : Mem} {out : Mem} {H : Heap} {locs : List Loc} {ls : Array Slot} (C : CX p s m args meth c cX9_partsOf 8 RX9 wc_X9_partsOf none)  (hG : Gd s G A 28 B (entM G B w) X H locs) (hl : lv_has ls 8 [(0, .ref (B + 0))]) (hf : sh_X9_partsOf w = some out) :
    W p l e rm_X9_partsOf s m args below meth c H locs 0 0 (MQ below (CPost G A 28 B (entM G B out) X none) args s 0 0 A) (F0 m 0 ls []) := by
  refine lv_aload_n C.1 C.2.1 dX9_partsOf_0 rfl (lv_at hl 0 rfl) ?_
  refine lv_iconst (v := nI 0) C.1 C.2.1 dX9_partsOf_1 (by decide) ?_
  obtain ⟨w1, ew1, hf⟩ := of_letv hf
  refine pf_X9_217 C hG rfl dX9_partsOf_2 (fun H locs hG => ?_)
  rw [← ew1] at hG
  refine lv_iconst (v := nI 0) C.1 C.2.1 dX9_partsOf_5 (by decide) ?_
  refine lv_istore_n (lv' := [(1, .int (nI 0)), (0, .ref (B + 0))]) C.1 C.2.1 dX9_partsOf_6 rfl hl (by decide) rfl (fun ls hl => ?_)
  refine lv_iconst (v := nI 0) C.1 C.2.1 dX9_partsOf_7 (by decide) ?_
  refine lv_istore_n (lv' := [(2, .int (nI 0)), (1, .int (nI 0)), (0, .ref (B + 0))]) C.1 C.2.1 dX9_partsOf_8 rfl hl (by decide) rfl (fun ls hl => ?_)
  obtain ⟨ex2, hex2, hf⟩ := of_bind hf
  refine kl_X9_partsOf_9 C  FU (nI 0, nI 0, w1) ex2 _ _ _ hG (lv_sub hl [2, 1, 0] rfl) hex2 (fun y e0 H locs ls hG hl => ?_)
  subst e0
  refine lv_iconst (v := nI 0) C.1 C.2.1 dX9_partsOf_346 (by decide) ?_
  refine lv_istore_n (lv' := [(2, .int (nI 0)), (0, .ref (B + 0)), (1, .int ex2.1)]) C.1 C.2.1 dX9_partsOf_347 rfl hl (by decide) rfl (fun ls hl => ?_)
  obtain ⟨ex3, hex3, hf⟩ := of_bind hf
  refine kl_X9_partsOf_348 C  FU (nI 0, ex2.2) ex3 _ _ _ hG (lv_sub hl [1, 2, 0] rfl) hex3 (fun y e0 H locs ls hG hl => ?_)
  subst e0
  obtain rfl := Option.some.inj hf
  exact r_vret C hG dX9_partsOf_378
set_option maxRecDepth 100000 in
set_option maxHeartbeats 4000000 in
theorem mt_X9_partsOf (l : Launch) {G : GG} {A : Nat → Prop} {B : Nat} {X : va_W} {w : Mem} {out : Mem}  (hf : sh_X9_partsOf w = some out) : MetW l yX9_partsOf wc_X9_partsOf rm_X9_partsOf G A 28 B (entM G B w) X [.ref (B + 0)] none (entM G B out) := by
  refine Met.ofW (cc := cX9_partsOf) (maxL := 8) (ret := none) (by decide) rfl ?_
  intro p e s m args below meth c s₁ B0 hml hv
  obtain ⟨rfl, hEv, hWd⟩ := hv
  have C : CX p s m _ meth c cX9_partsOf 8 RX9 wc_X9_partsOf none := ⟨B0.exec, B0.bytes, hml, findClass_of_methodNamed B0.named, atoms_spec (ws := wc_X9_partsOf) B0.pre, B0.returns, B0.notSynchronized⟩
  have hl := lv_entry [.ref (B + 0)] (n := 8) (Nat.le_of_ble_eq_true rfl)
  rw [lg_entry_eq]
  generalize (lg_sl [.ref (B + 0)] ++ List.replicate (8 - (lg_sl [.ref (B + 0)]).length) Slot.unset).toArray = ls at hl ⊢
  have hl : lv_has ls 8 [(0, .ref (B + 0))] := hl
  exact kb_X9_partsOf_0 C  ⟨hEv, hWd, va_S.rf⟩ hl hf
end
