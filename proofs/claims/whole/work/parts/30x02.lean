section
variable {p : Program} {l : Launch} {e : Env} {s : State} {m : MethodId} {args : Array Value} {below : List Frame} {meth : Method} {c : Code} {Q : State → Prop} {G : GG} {A : Nat → Prop} {N B : Nat} {E : Nat → va_E} {X : va_W}
abbrev wc_X2_find : List Cond := Cond.code yX2_find cX2_find 3 none :: TG
abbrev rm_X2_find : Room := { frames := 5, cells := 0, slots := 0, locals := 169 }
theorem cd_X2_find : yX2_find.cls = RX2 ∧ yX2_find.cls ≠ "java/lang/invoke/MethodHandle" ∧ yX2_find.cls ≠ "java/lang/invoke/VarHandle" ∧ (parseMethodDescriptor yX2_find.desc).map (fun d => d.parameters.length) = some 1 := by decide +kernel
theorem dX2_find_0 : decode cX2_find 0 = .ok (.aload_n 0, 1) := by decide +kernel
theorem dX2_find_1 : decode cX2_find 1 = .ok (.iconst 0, 1) := by decide +kernel
theorem dX2_find_2 : decode cX2_find 2 = .ok (.putfield 31, 3) := by decide +kernel
theorem dX2_find_5 : decode cX2_find 5 = .ok (.aload_n 0, 1) := by decide +kernel
theorem dX2_find_6 : decode cX2_find 6 = .ok (.iconst 0, 1) := by decide +kernel
theorem dX2_find_7 : decode cX2_find 7 = .ok (.putfield 35, 3) := by decide +kernel
theorem dX2_find_10 : decode cX2_find 10 = .ok (.iconst 0, 1) := by decide +kernel
theorem dX2_find_11 : decode cX2_find 11 = .ok (.istore_n 2, 1) := by decide +kernel
theorem dX2_find_12 : decode cX2_find 12 = .ok (.iload_n 2, 1) := by decide +kernel
theorem dX2_find_13 : decode cX2_find 13 = .ok (.aload_n 1, 1) := by decide +kernel
theorem dX2_find_14 : decode cX2_find 14 = .ok (.getfield 38, 3) := by decide +kernel
theorem dX2_find_17 : decode cX2_find 17 = .ok (.if_icmp .ge 19, 3) := by decide +kernel
theorem dX2_find_20 : decode cX2_find 20 = .ok (.aload_n 0, 1) := by decide +kernel
theorem dX2_find_21 : decode cX2_find 21 = .ok (.aload_n 1, 1) := by decide +kernel
theorem dX2_find_22 : decode cX2_find 22 = .ok (.getfield 41, 3) := by decide +kernel
theorem dX2_find_25 : decode cX2_find 25 = .ok (.iload_n 2, 1) := by decide +kernel
theorem dX2_find_26 : decode cX2_find 26 = .ok (.iaload, 1) := by decide +kernel
theorem dX2_find_27 : decode cX2_find 27 = .ok (.invokevirtual 44, 3) := by decide +kernel
theorem dX2_find_30 : decode cX2_find 30 = .ok (.iinc 2 1, 3) := by decide +kernel
theorem dX2_find_33 : decode cX2_find 33 = .ok (.goto (-21), 3) := by decide +kernel
theorem dX2_find_36 : decode cX2_find 36 = .ok (.aload_n 0, 1) := by decide +kernel
theorem dX2_find_37 : decode cX2_find 37 = .ok (.invokevirtual 48, 3) := by decide +kernel
theorem dX2_find_40 : decode cX2_find 40 = .ok (.iconst 0, 1) := by decide +kernel
theorem dX2_find_41 : decode cX2_find 41 = .ok (.istore_n 2, 1) := by decide +kernel
theorem dX2_find_42 : decode cX2_find 42 = .ok (.iload_n 2, 1) := by decide +kernel
theorem dX2_find_43 : decode cX2_find 43 = .ok (.aload_n 0, 1) := by decide +kernel
theorem dX2_find_44 : decode cX2_find 44 = .ok (.getfield 31, 3) := by decide +kernel
theorem dX2_find_47 : decode cX2_find 47 = .ok (.if_icmp .ge 16, 3) := by decide +kernel
theorem dX2_find_50 : decode cX2_find 50 = .ok (.aload_n 0, 1) := by decide +kernel
theorem dX2_find_51 : decode cX2_find 51 = .ok (.getfield 15, 3) := by decide +kernel
theorem dX2_find_54 : decode cX2_find 54 = .ok (.iload_n 2, 1) := by decide +kernel
theorem dX2_find_55 : decode cX2_find 55 = .ok (.iconst 0, 1) := by decide +kernel
theorem dX2_find_56 : decode cX2_find 56 = .ok (.iastore, 1) := by decide +kernel
theorem dX2_find_57 : decode cX2_find 57 = .ok (.iinc 2 1, 3) := by decide +kernel
theorem dX2_find_60 : decode cX2_find 60 = .ok (.goto (-18), 3) := by decide +kernel
theorem dX2_find_63 : decode cX2_find 63 = .ok (.iconst 0, 1) := by decide +kernel
theorem dX2_find_64 : decode cX2_find 64 = .ok (.istore_n 2, 1) := by decide +kernel
theorem dX2_find_65 : decode cX2_find 65 = .ok (.iload_n 2, 1) := by decide +kernel
theorem dX2_find_66 : decode cX2_find 66 = .ok (.aload_n 0, 1) := by decide +kernel
theorem dX2_find_67 : decode cX2_find 67 = .ok (.getfield 35, 3) := by decide +kernel
theorem dX2_find_70 : decode cX2_find 70 = .ok (.if_icmp .ge 24, 3) := by decide +kernel
theorem dX2_find_73 : decode cX2_find 73 = .ok (.aload_n 0, 1) := by decide +kernel
theorem dX2_find_74 : decode cX2_find 74 = .ok (.getfield 15, 3) := by decide +kernel
theorem dX2_find_77 : decode cX2_find 77 = .ok (.aload_n 0, 1) := by decide +kernel
theorem dX2_find_78 : decode cX2_find 78 = .ok (.getfield 22, 3) := by decide +kernel
theorem dX2_find_81 : decode cX2_find 81 = .ok (.iload_n 2, 1) := by decide +kernel
theorem dX2_find_82 : decode cX2_find 82 = .ok (.iaload, 1) := by decide +kernel
theorem dX2_find_83 : decode cX2_find 83 = .ok (.dup2, 1) := by decide +kernel
theorem dX2_find_84 : decode cX2_find 84 = .ok (.iaload, 1) := by decide +kernel
theorem dX2_find_85 : decode cX2_find 85 = .ok (.iconst 1, 1) := by decide +kernel
theorem dX2_find_86 : decode cX2_find 86 = .ok (.iadd, 1) := by decide +kernel
theorem dX2_find_87 : decode cX2_find 87 = .ok (.iastore, 1) := by decide +kernel
theorem dX2_find_88 : decode cX2_find 88 = .ok (.iinc 2 1, 3) := by decide +kernel
theorem dX2_find_91 : decode cX2_find 91 = .ok (.goto (-26), 3) := by decide +kernel
theorem dX2_find_94 : decode cX2_find 94 = .ok (.return_, 1) := by decide +kernel
set_option maxRecDepth 100000 in
set_option maxHeartbeats 4000000 in
theorem kb_X2_find_12 {th : Nat} {x1 : Nat} {st : Int32 × WX} {r : (Int32 × WX) ⊕ ((WX))} {H : Heap} {locs : List Loc} {ls : Array Slot} (C : CX p s m args meth c cX2_find 3 RX2 wc_X2_find none) (hth : KDx th = (2, 8)) (h1 : KDx x1 = (6, 3)) (hG : Gd s G A 153 B (entX G B st.2) X H locs) (hl : lv_has ls 3 [(0, .ref (B + th)), (1, .ref (B + x1)), (2, .int st.1)]) (hf : sh_X2_find_s12 th x1 st = some r)
    (kL : ∀ st' : Int32 × WX, r = Sum.inl st' → ∀ (H : Heap) (locs : List Loc) (ls : Array Slot), Gd s G A 153 B (entX G B st'.2) X H locs → lv_has ls 3 [(0, .ref (B + th)), (1, .ref (B + x1)), (2, .int st'.1)] → W p l e rm_X2_find s m args below meth c H locs 0 0 Q (F0 m 12 ls []))
    (kX0 : ∀ y' : WX, r = Sum.inr y' → ∀ (H : Heap) (locs : List Loc) (ls : Array Slot), Gd s G A 153 B (entX G B y') X H locs → lv_has ls 3 [(0, .ref (B + th))] → W p l e rm_X2_find s m args below meth c H locs 0 0 Q (F0 m 36 ls [])) :
    W p l e rm_X2_find s m args below meth c H locs 0 0 Q (F0 m 12 ls []) := by
  refine lv_iload_n C.1 C.2.1 dX2_find_12 rfl (lv_at hl 2 rfl) ?_
  refine lv_aload_n C.1 C.2.1 dX2_find_13 rfl (lv_at hl 1 rfl) ?_
  refine gf_X2_38 C hG h1 dX2_find_14 ?_
  rcases of_ite hf with ⟨c1, hf⟩ | ⟨c1, hf⟩
  · refine lv_icmp_ge (tgt := 36) C.1 C.2.1 dX2_find_17 (by decide) (fun _ => ?_) (fun q => absurd c1 q)
    obtain rfl := Option.some.inj hf
    exact kX0 _ rfl _ _ _ hG (lv_sub hl [0] rfl)
  · refine lv_icmp_ge (tgt := 36) C.1 C.2.1 dX2_find_17 (by decide) (fun q => absurd q c1) (fun _ => ?_)
    refine lv_aload_n C.1 C.2.1 dX2_find_20 rfl (lv_at hl 0 rfl) ?_
    refine lv_aload_n C.1 C.2.1 dX2_find_21 rfl (lv_at hl 1 rfl) ?_
    refine gf_X2_41 C hG h1 dX2_find_22 ?_
    refine lv_iload_n C.1 C.2.1 dX2_find_25 rfl (lv_at hl 2 rfl) ?_
    obtain ⟨v2, hv2, hf⟩ := of_bind hf
    obtain ⟨bv2, ev2⟩ := of_ldS hv2
    refine r_iald C hG (c0 := (x1 + 1)) (kdx_lt (kx_6_0 h1) (by decide)) (entX_I (kx_6_0 h1)) bv2 dX2_find_26 ?_
    refine r_top ev2 ?_
    obtain ⟨w3, hw3, hf⟩ := of_bind hf
    refine r_callV0 C hG hl.1 (c0 := th) (As := [.int v2]) (kdx_lt hth (by decide)) (entX_O2 hth) rfl (mt_X2_step l hth hw3) (cwV 1 C.2.2.2.2.1 (gd_V tg_3_21 tg_3_23 tgp_7 tg_1_8 tg_3_24) rfl rfl rfl cd_X2_step ⟨Nat.le_of_ble_eq_true rfl, Nat.le_of_ble_eq_true rfl⟩) rfl rfl (Nat.le_of_ble_eq_true rfl) dX2_find_27 (fun H locs hG => ?_)
    obtain ⟨v4, ev4, hf⟩ := of_letv hf
    refine lv_iinc (v := v4) (lv' := [(2, .int v4), (0, .ref (B + th)), (1, .ref (B + x1))]) C.1 C.2.1 dX2_find_30 hl (k := 2) rfl (by rw [ev4, show Int32.ofInt (1) = nI 1 from by decide]) (by decide) rfl (fun ls hl => ?_)
    refine lv_goto (tgt := 12) C.1 C.2.1 dX2_find_33 (by decide) ?_
    obtain rfl := Option.some.inj hf
    exact kL _ rfl _ _ _ hG (lv_sub hl [1, 2, 0] rfl)
set_option maxRecDepth 100000 in
set_option maxHeartbeats 4000000 in
theorem kl_X2_find_12 {th : Nat} {x1 : Nat} (C : CX p s m args meth c cX2_find 3 RX2 wc_X2_find none) (hth : KDx th = (2, 8)) (h1 : KDx x1 = (6, 3)) : ∀ (n : Nat) (st : Int32 × WX) (x : (WX)) (H : Heap) (locs : List Loc) (ls : Array Slot), Gd s G A 153 B (entX G B st.2) X H locs → lv_has ls 3 [(0, .ref (B + th)), (1, .ref (B + x1)), (2, .int st.1)] → lpw (sh_X2_find_s12 th x1) n st = some x →
    (∀ y' : WX, x = y' → ∀ (H : Heap) (locs : List Loc) (ls : Array Slot), Gd s G A 153 B (entX G B y') X H locs → lv_has ls 3 [(0, .ref (B + th))] → W p l e rm_X2_find s m args below meth c H locs 0 0 Q (F0 m 36 ls [])) → W p l e rm_X2_find s m args below meth c H locs 0 0 Q (F0 m 12 ls []) := by
  intro n
  induction n with
  | zero =>
    intro st x H locs ls hG hl hf
    cases hf
  | succ n ih =>
    intro st x H locs ls hG hl hf kX0
    obtain ⟨r, hr, hh⟩ := of_lpw hf
    refine kb_X2_find_12 C hth h1 hG hl hr (fun st2 e1 H locs ls hG hl => ?_) (fun y2 e1 H locs ls hG hl => ?_)
    · rcases hh with ⟨s3, e2, hh⟩ | e2
      · rw [e2] at e1
        cases e1
        exact ih _ _ _ _ _ hG hl hh kX0
      · rw [e2] at e1
        cases e1
    · rcases hh with ⟨s3, e2, hh⟩ | e2
      · rw [e2] at e1
        cases e1
      · rw [e2] at e1
        cases e1
        exact kX0 _ rfl _ _ _ hG hl
set_option maxRecDepth 100000 in
set_option maxHeartbeats 4000000 in
theorem kb_X2_find_42 {th : Nat} {st : Int32 × WX} {r : (Int32 × WX) ⊕ ((WX))} {H : Heap} {locs : List Loc} {ls : Array Slot} (C : CX p s m args meth c cX2_find 3 RX2 wc_X2_find none) (hth : KDx th = (2, 8)) (hG : Gd s G A 153 B (entX G B st.2) X H locs) (hl : lv_has ls 3 [(0, .ref (B + th)), (2, .int st.1)]) (hf : sh_X2_find_s42 th st = some r)
    (kL : ∀ st' : Int32 × WX, r = Sum.inl st' → ∀ (H : Heap) (locs : List Loc) (ls : Array Slot), Gd s G A 153 B (entX G B st'.2) X H locs → lv_has ls 3 [(0, .ref (B + th)), (2, .int st'.1)] → W p l e rm_X2_find s m args below meth c H locs 0 0 Q (F0 m 42 ls []))
    (kX0 : ∀ y' : WX, r = Sum.inr y' → ∀ (H : Heap) (locs : List Loc) (ls : Array Slot), Gd s G A 153 B (entX G B y') X H locs → lv_has ls 3 [(0, .ref (B + th))] → W p l e rm_X2_find s m args below meth c H locs 0 0 Q (F0 m 63 ls [])) :
    W p l e rm_X2_find s m args below meth c H locs 0 0 Q (F0 m 42 ls []) := by
  refine lv_iload_n C.1 C.2.1 dX2_find_42 rfl (lv_at hl 1 rfl) ?_
  refine lv_aload_n C.1 C.2.1 dX2_find_43 rfl (lv_at hl 0 rfl) ?_
  refine gf_X2_31 C hG hth dX2_find_44 ?_
  rcases of_ite hf with ⟨c1, hf⟩ | ⟨c1, hf⟩
  · refine lv_icmp_ge (tgt := 63) C.1 C.2.1 dX2_find_47 (by decide) (fun _ => ?_) (fun q => absurd c1 q)
    obtain rfl := Option.some.inj hf
    exact kX0 _ rfl _ _ _ hG (lv_sub hl [0] rfl)
  · refine lv_icmp_ge (tgt := 63) C.1 C.2.1 dX2_find_47 (by decide) (fun q => absurd q c1) (fun _ => ?_)
    refine lv_aload_n C.1 C.2.1 dX2_find_50 rfl (lv_at hl 0 rfl) ?_
    refine gf_X2_15 C hG hth dX2_find_51 ?_
    refine lv_iload_n C.1 C.2.1 dX2_find_54 rfl (lv_at hl 1 rfl) ?_
    refine lv_iconst (v := nI 0) C.1 C.2.1 dX2_find_55 (by decide) ?_
    obtain ⟨w2, hw2, hf⟩ := of_bind hf
    obtain ⟨bw2, ew2⟩ := of_stX hw2
    refine r_iast C hG (c0 := (th + 2)) (kdx_lt (kx_2_3 hth) (by decide)) (entX_I (kx_2_3 hth)) bw2 (E' := (entX G B w2)) (by rw [ew2]; exact upX_I (kx_2_3 hth)) dX2_find_56 (fun H locs hG => ?_)
    obtain ⟨v3, ev3, hf⟩ := of_letv hf
    refine lv_iinc (v := v3) (lv' := [(2, .int v3), (0, .ref (B + th))]) C.1 C.2.1 dX2_find_57 hl (k := 1) rfl (by rw [ev3, show Int32.ofInt (1) = nI 1 from by decide]) (by decide) rfl (fun ls hl => ?_)
    refine lv_goto (tgt := 42) C.1 C.2.1 dX2_find_60 (by decide) ?_
    obtain rfl := Option.some.inj hf
    exact kL _ rfl _ _ _ hG (lv_sub hl [1, 0] rfl)
set_option maxRecDepth 100000 in
set_option maxHeartbeats 4000000 in
theorem kl_X2_find_42 {th : Nat} (C : CX p s m args meth c cX2_find 3 RX2 wc_X2_find none) (hth : KDx th = (2, 8)) : ∀ (n : Nat) (st : Int32 × WX) (x : (WX)) (H : Heap) (locs : List Loc) (ls : Array Slot), Gd s G A 153 B (entX G B st.2) X H locs → lv_has ls 3 [(0, .ref (B + th)), (2, .int st.1)] → lpw (sh_X2_find_s42 th) n st = some x →
    (∀ y' : WX, x = y' → ∀ (H : Heap) (locs : List Loc) (ls : Array Slot), Gd s G A 153 B (entX G B y') X H locs → lv_has ls 3 [(0, .ref (B + th))] → W p l e rm_X2_find s m args below meth c H locs 0 0 Q (F0 m 63 ls [])) → W p l e rm_X2_find s m args below meth c H locs 0 0 Q (F0 m 42 ls []) := by
  intro n
  induction n with
  | zero =>
    intro st x H locs ls hG hl hf
    cases hf
  | succ n ih =>
    intro st x H locs ls hG hl hf kX0
    obtain ⟨r, hr, hh⟩ := of_lpw hf
    refine kb_X2_find_42 C hth hG hl hr (fun st2 e1 H locs ls hG hl => ?_) (fun y2 e1 H locs ls hG hl => ?_)
    · rcases hh with ⟨s3, e2, hh⟩ | e2
      · rw [e2] at e1
        cases e1
        exact ih _ _ _ _ _ hG hl hh kX0
      · rw [e2] at e1
        cases e1
    · rcases hh with ⟨s3, e2, hh⟩ | e2
      · rw [e2] at e1
        cases e1
      · rw [e2] at e1
        cases e1
        exact kX0 _ rfl _ _ _ hG hl
set_option maxRecDepth 100000 in
set_option maxHeartbeats 4000000 in
theorem kb_X2_find_65 {th : Nat} {st : Int32 × WX} {r : (Int32 × WX) ⊕ ((WX))} {H : Heap} {locs : List Loc} {ls : Array Slot} (C : CX p s m args meth c cX2_find 3 RX2 wc_X2_find none) (hth : KDx th = (2, 8)) (hG : Gd s G A 153 B (entX G B st.2) X H locs) (hl : lv_has ls 3 [(0, .ref (B + th)), (2, .int st.1)]) (hf : sh_X2_find_s65 th st = some r)
    (kL : ∀ st' : Int32 × WX, r = Sum.inl st' → ∀ (H : Heap) (locs : List Loc) (ls : Array Slot), Gd s G A 153 B (entX G B st'.2) X H locs → lv_has ls 3 [(0, .ref (B + th)), (2, .int st'.1)] → W p l e rm_X2_find s m args below meth c H locs 0 0 Q (F0 m 65 ls []))
    (kX0 : ∀ y' : WX, r = Sum.inr y' → ∀ (H : Heap) (locs : List Loc) (ls : Array Slot), Gd s G A 153 B (entX G B y') X H locs → lv_has ls 3 [] → W p l e rm_X2_find s m args below meth c H locs 0 0 Q (F0 m 94 ls [])) :
    W p l e rm_X2_find s m args below meth c H locs 0 0 Q (F0 m 65 ls []) := by
  refine lv_iload_n C.1 C.2.1 dX2_find_65 rfl (lv_at hl 1 rfl) ?_
  refine lv_aload_n C.1 C.2.1 dX2_find_66 rfl (lv_at hl 0 rfl) ?_
  refine gf_X2_35 C hG hth dX2_find_67 ?_
  rcases of_ite hf with ⟨c1, hf⟩ | ⟨c1, hf⟩
  · refine lv_icmp_ge (tgt := 94) C.1 C.2.1 dX2_find_70 (by decide) (fun _ => ?_) (fun q => absurd c1 q)
    obtain rfl := Option.some.inj hf
    exact kX0 _ rfl _ _ _ hG (lv_sub hl [] rfl)
  · refine lv_icmp_ge (tgt := 94) C.1 C.2.1 dX2_find_70 (by decide) (fun q => absurd q c1) (fun _ => ?_)
    refine lv_aload_n C.1 C.2.1 dX2_find_73 rfl (lv_at hl 0 rfl) ?_
    refine gf_X2_15 C hG hth dX2_find_74 ?_
    refine lv_aload_n C.1 C.2.1 dX2_find_77 rfl (lv_at hl 0 rfl) ?_
    refine gf_X2_22 C hG hth dX2_find_78 ?_
    refine lv_iload_n C.1 C.2.1 dX2_find_81 rfl (lv_at hl 1 rfl) ?_
    obtain ⟨v2, hv2, hf⟩ := of_bind hf
    obtain ⟨bv2, ev2⟩ := of_ldS hv2
    refine r_iald C hG (c0 := (th + 4)) (kdx_lt (kx_2_5 hth) (by decide)) (entX_I (kx_2_5 hth)) bv2 dX2_find_82 ?_
    refine r_top ev2 ?_
    refine lv_dup2_11 C.1 C.2.1 dX2_find_83 rfl rfl ?_
    obtain ⟨v3, hv3, hf⟩ := of_bind hf
    obtain ⟨bv3, ev3⟩ := of_ldS hv3
    refine r_iald C hG (c0 := (th + 2)) (kdx_lt (kx_2_3 hth) (by decide)) (entX_I (kx_2_3 hth)) bv3 dX2_find_84 ?_
    refine r_top ev3 ?_
    refine lv_iconst (v := nI 1) C.1 C.2.1 dX2_find_85 (by decide) ?_
    refine lv_iadd C.1 C.2.1 dX2_find_86 ?_
    obtain ⟨w4, hw4, hf⟩ := of_bind hf
    obtain ⟨bw4, ew4⟩ := of_stX hw4
    refine r_iast C hG (c0 := (th + 2)) (kdx_lt (kx_2_3 hth) (by decide)) (entX_I (kx_2_3 hth)) bw4 (E' := (entX G B w4)) (by rw [ew4]; exact upX_I (kx_2_3 hth)) dX2_find_87 (fun H locs hG => ?_)
    obtain ⟨v5, ev5, hf⟩ := of_letv hf
    refine lv_iinc (v := v5) (lv' := [(2, .int v5), (0, .ref (B + th))]) C.1 C.2.1 dX2_find_88 hl (k := 1) rfl (by rw [ev5, show Int32.ofInt (1) = nI 1 from by decide]) (by decide) rfl (fun ls hl => ?_)
    refine lv_goto (tgt := 65) C.1 C.2.1 dX2_find_91 (by decide) ?_
    obtain rfl := Option.some.inj hf
    exact kL _ rfl _ _ _ hG (lv_sub hl [1, 0] rfl)
set_option maxRecDepth 100000 in
set_option maxHeartbeats 4000000 in
theorem kl_X2_find_65 {th : Nat} (C : CX p s m args meth c cX2_find 3 RX2 wc_X2_find none) (hth : KDx th = (2, 8)) : ∀ (n : Nat) (st : Int32 × WX) (x : (WX)) (H : Heap) (locs : List Loc) (ls : Array Slot), Gd s G A 153 B (entX G B st.2) X H locs → lv_has ls 3 [(0, .ref (B + th)), (2, .int st.1)] → lpw (sh_X2_find_s65 th) n st = some x →
    (∀ y' : WX, x = y' → ∀ (H : Heap) (locs : List Loc) (ls : Array Slot), Gd s G A 153 B (entX G B y') X H locs → lv_has ls 3 [] → W p l e rm_X2_find s m args below meth c H locs 0 0 Q (F0 m 94 ls [])) → W p l e rm_X2_find s m args below meth c H locs 0 0 Q (F0 m 65 ls []) := by
  intro n
  induction n with
  | zero =>
    intro st x H locs ls hG hl hf
    cases hf
  | succ n ih =>
    intro st x H locs ls hG hl hf kX0
    obtain ⟨r, hr, hh⟩ := of_lpw hf
    refine kb_X2_find_65 C hth hG hl hr (fun st2 e1 H locs ls hG hl => ?_) (fun y2 e1 H locs ls hG hl => ?_)
    · rcases hh with ⟨s3, e2, hh⟩ | e2
      · rw [e2] at e1
        cases e1
        exact ih _ _ _ _ _ hG hl hh kX0
      · rw [e2] at e1
        cases e1
    · rcases hh with ⟨s3, e2, hh⟩ | e2
      · rw [e2] at e1
        cases e1
      · rw [e2] at e1
        cases e1
        exact kX0 _ rfl _ _ _ hG hl
set_option maxRecDepth 100000 in
set_option maxHeartbeats 4000000 in
theorem kb_X2_find_0 {th : Nat} {x1 : Nat} {w : WX} {out : WX} {H : Heap} {locs : List Loc} {ls : Array Slot} (C : CX p s m args meth c cX2_find 3 RX2 wc_X2_find none) (hth : KDx th = (2, 8)) (h1 : KDx x1 = (6, 3)) (hG : Gd s G A 153 B (entX G B w) X H locs) (hl : lv_has ls 3 [(0, .ref (B + th)), (1, .ref (B + x1))]) (hf : sh_X2_find th x1 w = some out) :
    W p l e rm_X2_find s m args below meth c H locs 0 0 (MQ below (CPost G A 153 B (entX G B out) X none) args s 0 0 A) (F0 m 0 ls []) := by
  refine lv_aload_n C.1 C.2.1 dX2_find_0 rfl (lv_at hl 0 rfl) ?_
  refine lv_iconst (v := nI 0) C.1 C.2.1 dX2_find_1 (by decide) ?_
  obtain ⟨w1, ew1, hf⟩ := of_letv hf
  refine pf_X2_31 C hG hth dX2_find_2 (fun H locs hG => ?_)
  rw [← ew1] at hG
  refine lv_aload_n C.1 C.2.1 dX2_find_5 rfl (lv_at hl 0 rfl) ?_
  refine lv_iconst (v := nI 0) C.1 C.2.1 dX2_find_6 (by decide) ?_
  obtain ⟨w2, ew2, hf⟩ := of_letv hf
  refine pf_X2_35 C hG hth dX2_find_7 (fun H locs hG => ?_)
  rw [← ew2] at hG
  refine lv_iconst (v := nI 0) C.1 C.2.1 dX2_find_10 (by decide) ?_
  refine lv_istore_n (lv' := [(2, .int (nI 0)), (0, .ref (B + th)), (1, .ref (B + x1))]) C.1 C.2.1 dX2_find_11 rfl hl (by decide) rfl (fun ls hl => ?_)
  obtain ⟨ex3, hex3, hf⟩ := of_bind hf
  refine kl_X2_find_12 C hth h1 FU (nI 0, w2) ex3 _ _ _ hG (lv_sub hl [1, 2, 0] rfl) hex3 (fun y e0 H locs ls hG hl => ?_)
  subst e0
  refine lv_aload_n C.1 C.2.1 dX2_find_36 rfl (lv_at hl 0 rfl) ?_
  obtain ⟨w4, hw4, hf⟩ := of_bind hf
  refine r_callV0 C hG hl.1 (c0 := th) (As := []) (kdx_lt hth (by decide)) (entX_O2 hth) rfl (mt_X2_leaveOutGone l hth hw4) (cwV 0 C.2.2.2.2.1 (gd_V tg_3_47 tg_3_49 tgp_12 tg_1_8 tg_3_50) rfl rfl rfl cd_X2_leaveOutGone ⟨Nat.le_of_ble_eq_true rfl, Nat.le_of_ble_eq_true rfl⟩) rfl rfl (Nat.le_of_ble_eq_true rfl) dX2_find_37 (fun H locs hG => ?_)
  refine lv_iconst (v := nI 0) C.1 C.2.1 dX2_find_40 (by decide) ?_
  refine lv_istore_n (lv' := [(2, .int (nI 0)), (0, .ref (B + th))]) C.1 C.2.1 dX2_find_41 rfl hl (by decide) rfl (fun ls hl => ?_)
  obtain ⟨ex5, hex5, hf⟩ := of_bind hf
  refine kl_X2_find_42 C hth FU (nI 0, w4) ex5 _ _ _ hG (lv_sub hl [1, 0] rfl) hex5 (fun y e0 H locs ls hG hl => ?_)
  subst e0
  refine lv_iconst (v := nI 0) C.1 C.2.1 dX2_find_63 (by decide) ?_
  refine lv_istore_n (lv' := [(2, .int (nI 0)), (0, .ref (B + th))]) C.1 C.2.1 dX2_find_64 rfl hl (by decide) rfl (fun ls hl => ?_)
  obtain ⟨ex6, hex6, hf⟩ := of_bind hf
  refine kl_X2_find_65 C hth FU (nI 0, ex5) ex6 _ _ _ hG (lv_sub hl [1, 0] rfl) hex6 (fun y e0 H locs ls hG hl => ?_)
  subst e0
  obtain rfl := Option.some.inj hf
  exact r_vret C hG dX2_find_94
set_option maxRecDepth 100000 in
set_option maxHeartbeats 4000000 in
theorem mt_X2_find (l : Launch) {G : GG} {A : Nat → Prop} {B : Nat} {X : va_W} {th : Nat} {x1 : Nat} {w : WX} {out : WX} (hth : KDx th = (2, 8)) (h1 : KDx x1 = (6, 3)) (hf : sh_X2_find th x1 w = some out) : MetW l yX2_find wc_X2_find rm_X2_find G A 153 B (entX G B w) X [.ref (B + th), .ref (B + x1)] none (entX G B out) := by
  refine Met.ofW (cc := cX2_find) (maxL := 3) (ret := none) (by decide) rfl ?_
  intro p e s m args below meth c s₁ B0 hml hv
  obtain ⟨rfl, hEv, hWd⟩ := hv
  have C : CX p s m _ meth c cX2_find 3 RX2 wc_X2_find none := ⟨B0.exec, B0.bytes, hml, findClass_of_methodNamed B0.named, atoms_spec (ws := wc_X2_find) B0.pre, B0.returns, B0.notSynchronized⟩
  have hl := lv_entry [.ref (B + th), .ref (B + x1)] (n := 3) (Nat.le_of_ble_eq_true rfl)
  rw [lg_entry_eq]
  generalize (lg_sl [.ref (B + th), .ref (B + x1)] ++ List.replicate (3 - (lg_sl [.ref (B + th), .ref (B + x1)]).length) Slot.unset).toArray = ls at hl ⊢
  have hl : lv_has ls 3 [(0, .ref (B + th)), (1, .ref (B + x1))] := hl
  exact kb_X2_find_0 C hth h1 ⟨hEv, hWd, va_S.rf⟩ hl hf
abbrev wc_X2_genus : List Cond := Cond.code yX2_genus cX2_genus 3 (some .int) :: TG
abbrev rm_X2_genus : Room := { frames := 2, cells := 0, slots := 0, locals := 100 }
theorem cd_X2_genus : yX2_genus.cls = RX2 ∧ yX2_genus.cls ≠ "java/lang/invoke/MethodHandle" ∧ yX2_genus.cls ≠ "java/lang/invoke/VarHandle" ∧ (parseMethodDescriptor yX2_genus.desc).map (fun d => d.parameters.length) = some 1 := by decide +kernel
theorem dX2_genus_0 : decode cX2_genus 0 = .ok (.iconst 2, 1) := by decide +kernel
theorem dX2_genus_1 : decode cX2_genus 1 = .ok (.aload_n 0, 1) := by decide +kernel
theorem dX2_genus_2 : decode cX2_genus 2 = .ok (.getfield 9, 3) := by decide +kernel
theorem dX2_genus_5 : decode cX2_genus 5 = .ok (.iload_n 1, 1) := by decide +kernel
theorem dX2_genus_6 : decode cX2_genus 6 = .ok (.iaload, 1) := by decide +kernel
theorem dX2_genus_7 : decode cX2_genus 7 = .ok (.isub, 1) := by decide +kernel
theorem dX2_genus_8 : decode cX2_genus 8 = .ok (.aload_n 0, 1) := by decide +kernel
theorem dX2_genus_9 : decode cX2_genus 9 = .ok (.getfield 15, 3) := by decide +kernel
theorem dX2_genus_12 : decode cX2_genus 12 = .ok (.iload_n 1, 1) := by decide +kernel
theorem dX2_genus_13 : decode cX2_genus 13 = .ok (.iaload, 1) := by decide +kernel
theorem dX2_genus_14 : decode cX2_genus 14 = .ok (.isub, 1) := by decide +kernel
theorem dX2_genus_15 : decode cX2_genus 15 = .ok (.istore_n 2, 1) := by decide +kernel
theorem dX2_genus_16 : decode cX2_genus 16 = .ok (.aload_n 0, 1) := by decide +kernel
theorem dX2_genus_17 : decode cX2_genus 17 = .ok (.getfield 18, 3) := by decide +kernel
theorem dX2_genus_20 : decode cX2_genus 20 = .ok (.iload_n 1, 1) := by decide +kernel
theorem dX2_genus_21 : decode cX2_genus 21 = .ok (.baload, 1) := by decide +kernel
theorem dX2_genus_22 : decode cX2_genus 22 = .ok (.ifCond .eq 7, 3) := by decide +kernel
theorem dX2_genus_25 : decode cX2_genus 25 = .ok (.iload_n 2, 1) := by decide +kernel
theorem dX2_genus_26 : decode cX2_genus 26 = .ok (.goto 6, 3) := by decide +kernel
theorem dX2_genus_29 : decode cX2_genus 29 = .ok (.iload_n 2, 1) := by decide +kernel
theorem dX2_genus_30 : decode cX2_genus 30 = .ok (.iconst 2, 1) := by decide +kernel
theorem dX2_genus_31 : decode cX2_genus 31 = .ok (.idiv, 1) := by decide +kernel
theorem dX2_genus_32 : decode cX2_genus 32 = .ok (.ireturn, 1) := by decide +kernel
set_option maxRecDepth 100000 in
set_option maxHeartbeats 4000000 in
theorem kb_X2_genus_0 {th : Nat} {x1 : Int32} {w : WX} {out : Int32} {H : Heap} {locs : List Loc} {ls : Array Slot} (C : CX p s m args meth c cX2_genus 3 RX2 wc_X2_genus (some .int)) (hth : KDx th = (2, 8)) (hG : Gd s G A 153 B (entX G B w) X H locs) (hl : lv_has ls 3 [(0, .ref (B + th)), (1, .int x1)]) (hf : sh_X2_genus th x1 w = some out) :
    W p l e rm_X2_genus s m args below meth c H locs 0 0 (MQ below (CPost G A 153 B (entX G B w) X (some (.int out))) args s 0 0 A) (F0 m 0 ls []) := by
  refine lv_iconst (v := nI 2) C.1 C.2.1 dX2_genus_0 (by decide) ?_
  refine lv_aload_n C.1 C.2.1 dX2_genus_1 rfl (lv_at hl 0 rfl) ?_
  refine gf_X2_9 C hG hth dX2_genus_2 ?_
  refine lv_iload_n C.1 C.2.1 dX2_genus_5 rfl (lv_at hl 1 rfl) ?_
  obtain ⟨v1, hv1, hf⟩ := of_bind hf
  obtain ⟨bv1, ev1⟩ := of_ldS hv1
  refine r_iald C hG (c0 := (th + 1)) (kdx_lt (kx_2_2 hth) (by decide)) (entX_I (kx_2_2 hth)) bv1 dX2_genus_6 ?_
  refine r_top ev1 ?_
  refine lv_isub C.1 C.2.1 dX2_genus_7 ?_
  refine lv_aload_n C.1 C.2.1 dX2_genus_8 rfl (lv_at hl 0 rfl) ?_
  refine gf_X2_15 C hG hth dX2_genus_9 ?_
  refine lv_iload_n C.1 C.2.1 dX2_genus_12 rfl (lv_at hl 1 rfl) ?_
  obtain ⟨v2, hv2, hf⟩ := of_bind hf
  obtain ⟨bv2, ev2⟩ := of_ldS hv2
  refine r_iald C hG (c0 := (th + 2)) (kdx_lt (kx_2_3 hth) (by decide)) (entX_I (kx_2_3 hth)) bv2 dX2_genus_13 ?_
  refine r_top ev2 ?_
  refine lv_isub C.1 C.2.1 dX2_genus_14 ?_
  obtain ⟨v3, ev3, hf⟩ := of_letv hf
  refine r_top ev3 ?_
  refine lv_istore_n (lv' := [(2, .int v3), (0, .ref (B + th)), (1, .int x1)]) C.1 C.2.1 dX2_genus_15 rfl hl (by decide) rfl (fun ls hl => ?_)
  refine lv_aload_n C.1 C.2.1 dX2_genus_16 rfl (lv_at hl 1 rfl) ?_
  refine gf_X2_18 C hG hth dX2_genus_17 ?_
  refine lv_iload_n C.1 C.2.1 dX2_genus_20 rfl (lv_at hl 2 rfl) ?_
  obtain ⟨v4, hv4, hf⟩ := of_bind hf
  obtain ⟨bv4, ev4⟩ := of_ldS hv4
  refine r_zald C hG (c0 := (th + 3)) (kdx_lt (kx_2_4 hth) (by decide)) (entX_Z (kx_2_4 hth)) bv4 dX2_genus_21 ?_
  refine r_top ev4 ?_
  rcases of_ite hf with ⟨c5, hf⟩ | ⟨c5, hf⟩
  · refine lv_if_eq (tgt := 29) C.1 C.2.1 dX2_genus_22 (by decide) (fun _ => ?_) (fun q => absurd c5 q)
    refine lv_iload_n C.1 C.2.1 dX2_genus_29 rfl (lv_at hl 0 rfl) ?_
    refine lv_iconst (v := nI 2) C.1 C.2.1 dX2_genus_30 (by decide) ?_
    refine lv_idiv C.1 C.2.1 dX2_genus_31 (by decide) ?_
    obtain rfl := Option.some.inj hf
    exact r_iret C hG dX2_genus_32
  · refine lv_if_eq (tgt := 29) C.1 C.2.1 dX2_genus_22 (by decide) (fun q => absurd q c5) (fun _ => ?_)
    refine lv_iload_n C.1 C.2.1 dX2_genus_25 rfl (lv_at hl 0 rfl) ?_
    refine lv_goto (tgt := 32) C.1 C.2.1 dX2_genus_26 (by decide) ?_
    obtain rfl := Option.some.inj hf
    exact r_iret C hG dX2_genus_32
set_option maxRecDepth 100000 in
set_option maxHeartbeats 4000000 in
theorem mt_X2_genus (l : Launch) {G : GG} {A : Nat → Prop} {B : Nat} {X : va_W} {th : Nat} {x1 : Int32} {w : WX} {out : Int32} (hth : KDx th = (2, 8)) (hf : sh_X2_genus th x1 w = some out) : MetW l yX2_genus wc_X2_genus rm_X2_genus G A 153 B (entX G B w) X [.ref (B + th), .int x1] (some (.int out)) (entX G B w) := by
  refine Met.ofW (cc := cX2_genus) (maxL := 3) (ret := (some .int)) (by decide) rfl ?_
  intro p e s m args below meth c s₁ B0 hml hv
  obtain ⟨rfl, hEv, hWd⟩ := hv
  have C : CX p s m _ meth c cX2_genus 3 RX2 wc_X2_genus (some .int) := ⟨B0.exec, B0.bytes, hml, findClass_of_methodNamed B0.named, atoms_spec (ws := wc_X2_genus) B0.pre, B0.returns, B0.notSynchronized⟩
  have hl := lv_entry [.ref (B + th), .int x1] (n := 3) (Nat.le_of_ble_eq_true rfl)
  rw [lg_entry_eq]
  generalize (lg_sl [.ref (B + th), .int x1] ++ List.replicate (3 - (lg_sl [.ref (B + th), .int x1]).length) Slot.unset).toArray = ls at hl ⊢
  have hl : lv_has ls 3 [(0, .ref (B + th)), (1, .int x1)] := hl
  exact kb_X2_genus_0 C hth ⟨hEv, hWd, va_S.rf⟩ hl hf
abbrev wc_X2_withoutRims : List Cond := Cond.code yX2_withoutRims cX2_withoutRims 3 (some .int) :: TG
abbrev rm_X2_withoutRims : Room := { frames := 2, cells := 0, slots := 0, locals := 100 }
theorem cd_X2_withoutRims : yX2_withoutRims.cls = RX2 ∧ yX2_withoutRims.cls ≠ "java/lang/invoke/MethodHandle" ∧ yX2_withoutRims.cls ≠ "java/lang/invoke/VarHandle" ∧ (parseMethodDescriptor yX2_withoutRims.desc).map (fun d => d.parameters.length) = some 0 := by decide +kernel
theorem dX2_withoutRims_0 : decode cX2_withoutRims 0 = .ok (.iconst 0, 1) := by decide +kernel
theorem dX2_withoutRims_1 : decode cX2_withoutRims 1 = .ok (.istore_n 1, 1) := by decide +kernel
theorem dX2_withoutRims_2 : decode cX2_withoutRims 2 = .ok (.iconst 0, 1) := by decide +kernel
theorem dX2_withoutRims_3 : decode cX2_withoutRims 3 = .ok (.istore_n 2, 1) := by decide +kernel
theorem dX2_withoutRims_4 : decode cX2_withoutRims 4 = .ok (.iload_n 2, 1) := by decide +kernel
theorem dX2_withoutRims_5 : decode cX2_withoutRims 5 = .ok (.aload_n 0, 1) := by decide +kernel
theorem dX2_withoutRims_6 : decode cX2_withoutRims 6 = .ok (.getfield 31, 3) := by decide +kernel
theorem dX2_withoutRims_9 : decode cX2_withoutRims 9 = .ok (.if_icmp .ge 26, 3) := by decide +kernel
theorem dX2_withoutRims_12 : decode cX2_withoutRims 12 = .ok (.iload_n 1, 1) := by decide +kernel
theorem dX2_withoutRims_13 : decode cX2_withoutRims 13 = .ok (.aload_n 0, 1) := by decide +kernel
theorem dX2_withoutRims_14 : decode cX2_withoutRims 14 = .ok (.getfield 15, 3) := by decide +kernel
theorem dX2_withoutRims_17 : decode cX2_withoutRims 17 = .ok (.iload_n 2, 1) := by decide +kernel
theorem dX2_withoutRims_18 : decode cX2_withoutRims 18 = .ok (.iaload, 1) := by decide +kernel
theorem dX2_withoutRims_19 : decode cX2_withoutRims 19 = .ok (.ifCond .ne 7, 3) := by decide +kernel
theorem dX2_withoutRims_22 : decode cX2_withoutRims 22 = .ok (.iconst 1, 1) := by decide +kernel
theorem dX2_withoutRims_23 : decode cX2_withoutRims 23 = .ok (.goto 4, 3) := by decide +kernel
theorem dX2_withoutRims_26 : decode cX2_withoutRims 26 = .ok (.iconst 0, 1) := by decide +kernel
theorem dX2_withoutRims_27 : decode cX2_withoutRims 27 = .ok (.iadd, 1) := by decide +kernel
theorem dX2_withoutRims_28 : decode cX2_withoutRims 28 = .ok (.istore_n 1, 1) := by decide +kernel
theorem dX2_withoutRims_29 : decode cX2_withoutRims 29 = .ok (.iinc 2 1, 3) := by decide +kernel
theorem dX2_withoutRims_32 : decode cX2_withoutRims 32 = .ok (.goto (-28), 3) := by decide +kernel
theorem dX2_withoutRims_35 : decode cX2_withoutRims 35 = .ok (.iload_n 1, 1) := by decide +kernel
theorem dX2_withoutRims_36 : decode cX2_withoutRims 36 = .ok (.ireturn, 1) := by decide +kernel
set_option maxRecDepth 100000 in
set_option maxHeartbeats 4000000 in
theorem kb_X2_withoutRims_4 {th : Nat} {w : WX} {st : Int32 × Int32} {r : (Int32 × Int32) ⊕ ((Int32))} {H : Heap} {locs : List Loc} {ls : Array Slot} (C : CX p s m args meth c cX2_withoutRims 3 RX2 wc_X2_withoutRims (some .int)) (hth : KDx th = (2, 8)) (hG : Gd s G A 153 B (entX G B w) X H locs) (hl : lv_has ls 3 [(0, .ref (B + th)), (1, .int st.1), (2, .int st.2)]) (hf : sh_X2_withoutRims_s4 th w st = some r)
    (kL : ∀ st' : Int32 × Int32, r = Sum.inl st' → ∀ (H : Heap) (locs : List Loc) (ls : Array Slot), Gd s G A 153 B (entX G B w) X H locs → lv_has ls 3 [(0, .ref (B + th)), (1, .int st'.1), (2, .int st'.2)] → W p l e rm_X2_withoutRims s m args below meth c H locs 0 0 Q (F0 m 4 ls []))
    (kX0 : ∀ y' : Int32, r = Sum.inr y' → ∀ (H : Heap) (locs : List Loc) (ls : Array Slot), Gd s G A 153 B (entX G B w) X H locs → lv_has ls 3 [(1, .int y')] → W p l e rm_X2_withoutRims s m args below meth c H locs 0 0 Q (F0 m 35 ls [])) :
    W p l e rm_X2_withoutRims s m args below meth c H locs 0 0 Q (F0 m 4 ls []) := by
  refine lv_iload_n C.1 C.2.1 dX2_withoutRims_4 rfl (lv_at hl 2 rfl) ?_
  refine lv_aload_n C.1 C.2.1 dX2_withoutRims_5 rfl (lv_at hl 0 rfl) ?_
  refine gf_X2_31 C hG hth dX2_withoutRims_6 ?_
  rcases of_ite hf with ⟨c1, hf⟩ | ⟨c1, hf⟩
  · refine lv_icmp_ge (tgt := 35) C.1 C.2.1 dX2_withoutRims_9 (by decide) (fun _ => ?_) (fun q => absurd c1 q)
    obtain rfl := Option.some.inj hf
    exact kX0 _ rfl _ _ _ hG (lv_sub hl [1] rfl)
  · refine lv_icmp_ge (tgt := 35) C.1 C.2.1 dX2_withoutRims_9 (by decide) (fun q => absurd q c1) (fun _ => ?_)
    refine lv_iload_n C.1 C.2.1 dX2_withoutRims_12 rfl (lv_at hl 1 rfl) ?_
    refine lv_aload_n C.1 C.2.1 dX2_withoutRims_13 rfl (lv_at hl 0 rfl) ?_
    refine gf_X2_15 C hG hth dX2_withoutRims_14 ?_
    refine lv_iload_n C.1 C.2.1 dX2_withoutRims_17 rfl (lv_at hl 2 rfl) ?_
    obtain ⟨v2, hv2, hf⟩ := of_bind hf
    obtain ⟨bv2, ev2⟩ := of_ldS hv2
    refine r_iald C hG (c0 := (th + 2)) (kdx_lt (kx_2_3 hth) (by decide)) (entX_I (kx_2_3 hth)) bv2 dX2_withoutRims_18 ?_
    refine r_top ev2 ?_
    rcases of_ite hf with ⟨c3, hf⟩ | ⟨c3, hf⟩
    · refine lv_if_ne (tgt := 26) C.1 C.2.1 dX2_withoutRims_19 (by decide) (fun q => absurd c3 q) (fun _ => ?_)
      refine lv_iconst (v := nI 1) C.1 C.2.1 dX2_withoutRims_22 (by decide) ?_
      refine lv_goto (tgt := 27) C.1 C.2.1 dX2_withoutRims_23 (by decide) ?_
      refine lv_iadd C.1 C.2.1 dX2_withoutRims_27 ?_
      obtain ⟨v6, ev6, hf⟩ := of_letv hf
      refine r_top ev6 ?_
      refine lv_istore_n (lv' := [(1, .int v6), (0, .ref (B + th)), (2, .int st.2)]) C.1 C.2.1 dX2_withoutRims_28 rfl hl (by decide) rfl (fun ls hl => ?_)
      obtain ⟨v7, ev7, hf⟩ := of_letv hf
      refine lv_iinc (v := v7) (lv' := [(2, .int v7), (1, .int v6), (0, .ref (B + th))]) C.1 C.2.1 dX2_withoutRims_29 hl (k := 2) rfl (by rw [ev7, show Int32.ofInt (1) = nI 1 from by decide]) (by decide) rfl (fun ls hl => ?_)
      refine lv_goto (tgt := 4) C.1 C.2.1 dX2_withoutRims_32 (by decide) ?_
      obtain rfl := Option.some.inj hf
      exact kL _ rfl _ _ _ hG (lv_sub hl [2, 1, 0] rfl)
    · refine lv_if_ne (tgt := 26) C.1 C.2.1 dX2_withoutRims_19 (by decide) (fun _ => ?_) (fun q => absurd q c3)
      refine lv_iconst (v := nI 0) C.1 C.2.1 dX2_withoutRims_26 (by decide) ?_
      refine lv_iadd C.1 C.2.1 dX2_withoutRims_27 ?_
      obtain ⟨v4, ev4, hf⟩ := of_letv hf
      refine r_top ev4 ?_
      refine lv_istore_n (lv' := [(1, .int v4), (0, .ref (B + th)), (2, .int st.2)]) C.1 C.2.1 dX2_withoutRims_28 rfl hl (by decide) rfl (fun ls hl => ?_)
      obtain ⟨v5, ev5, hf⟩ := of_letv hf
      refine lv_iinc (v := v5) (lv' := [(2, .int v5), (1, .int v4), (0, .ref (B + th))]) C.1 C.2.1 dX2_withoutRims_29 hl (k := 2) rfl (by rw [ev5, show Int32.ofInt (1) = nI 1 from by decide]) (by decide) rfl (fun ls hl => ?_)
      refine lv_goto (tgt := 4) C.1 C.2.1 dX2_withoutRims_32 (by decide) ?_
      obtain rfl := Option.some.inj hf
      exact kL _ rfl _ _ _ hG (lv_sub hl [2, 1, 0] rfl)
set_option maxRecDepth 100000 in
set_option maxHeartbeats 4000000 in
theorem kl_X2_withoutRims_4 {th : Nat} {w : WX} (C : CX p s m args meth c cX2_withoutRims 3 RX2 wc_X2_withoutRims (some .int)) (hth : KDx th = (2, 8)) : ∀ (n : Nat) (st : Int32 × Int32) (x : (Int32)) (H : Heap) (locs : List Loc) (ls : Array Slot), Gd s G A 153 B (entX G B w) X H locs → lv_has ls 3 [(0, .ref (B + th)), (1, .int st.1), (2, .int st.2)] → lpw (sh_X2_withoutRims_s4 th w) n st = some x →
    (∀ y' : Int32, x = y' → ∀ (H : Heap) (locs : List Loc) (ls : Array Slot), Gd s G A 153 B (entX G B w) X H locs → lv_has ls 3 [(1, .int y')] → W p l e rm_X2_withoutRims s m args below meth c H locs 0 0 Q (F0 m 35 ls [])) → W p l e rm_X2_withoutRims s m args below meth c H locs 0 0 Q (F0 m 4 ls []) := by
  intro n
  induction n with
  | zero =>
    intro st x H locs ls hG hl hf
    cases hf
  | succ n ih =>
    intro st x H locs ls hG hl hf kX0
    obtain ⟨r, hr, hh⟩ := of_lpw hf
    refine kb_X2_withoutRims_4 C hth hG hl hr (fun st2 e1 H locs ls hG hl => ?_) (fun y2 e1 H locs ls hG hl => ?_)
    · rcases hh with ⟨s3, e2, hh⟩ | e2
      · rw [e2] at e1
        cases e1
        exact ih _ _ _ _ _ hG hl hh kX0
      · rw [e2] at e1
        cases e1
    · rcases hh with ⟨s3, e2, hh⟩ | e2
      · rw [e2] at e1
        cases e1
      · rw [e2] at e1
        cases e1
        exact kX0 _ rfl _ _ _ hG hl
set_option maxRecDepth 100000 in
set_option maxHeartbeats 4000000 in
theorem kb_X2_withoutRims_0 {th : Nat} {w : WX} {out : Int32} {H : Heap} {locs : List Loc} {ls : Array Slot} (C : CX p s m args meth c cX2_withoutRims 3 RX2 wc_X2_withoutRims (some .int)) (hth : KDx th = (2, 8)) (hG : Gd s G A 153 B (entX G B w) X H locs) (hl : lv_has ls 3 [(0, .ref (B + th))]) (hf : sh_X2_withoutRims th w = some out) :
    W p l e rm_X2_withoutRims s m args below meth c H locs 0 0 (MQ below (CPost G A 153 B (entX G B w) X (some (.int out))) args s 0 0 A) (F0 m 0 ls []) := by
  refine lv_iconst (v := nI 0) C.1 C.2.1 dX2_withoutRims_0 (by decide) ?_
  refine lv_istore_n (lv' := [(1, .int (nI 0)), (0, .ref (B + th))]) C.1 C.2.1 dX2_withoutRims_1 rfl hl (by decide) rfl (fun ls hl => ?_)
  refine lv_iconst (v := nI 0) C.1 C.2.1 dX2_withoutRims_2 (by decide) ?_
  refine lv_istore_n (lv' := [(2, .int (nI 0)), (1, .int (nI 0)), (0, .ref (B + th))]) C.1 C.2.1 dX2_withoutRims_3 rfl hl (by decide) rfl (fun ls hl => ?_)
  obtain ⟨ex1, hex1, hf⟩ := of_bind hf
  refine kl_X2_withoutRims_4 C hth FU (nI 0, nI 0) ex1 _ _ _ hG (lv_sub hl [2, 1, 0] rfl) hex1 (fun y e0 H locs ls hG hl => ?_)
  subst e0
  refine lv_iload_n C.1 C.2.1 dX2_withoutRims_35 rfl (lv_at hl 0 rfl) ?_
  obtain rfl := Option.some.inj hf
  exact r_iret C hG dX2_withoutRims_36
set_option maxRecDepth 100000 in
set_option maxHeartbeats 4000000 in
theorem mt_X2_withoutRims (l : Launch) {G : GG} {A : Nat → Prop} {B : Nat} {X : va_W} {th : Nat} {w : WX} {out : Int32} (hth : KDx th = (2, 8)) (hf : sh_X2_withoutRims th w = some out) : MetW l yX2_withoutRims wc_X2_withoutRims rm_X2_withoutRims G A 153 B (entX G B w) X [.ref (B + th)] (some (.int out)) (entX G B w) := by
  refine Met.ofW (cc := cX2_withoutRims) (maxL := 3) (ret := (some .int)) (by decide) rfl ?_
  intro p e s m args below meth c s₁ B0 hml hv
  obtain ⟨rfl, hEv, hWd⟩ := hv
  have C : CX p s m _ meth c cX2_withoutRims 3 RX2 wc_X2_withoutRims (some .int) := ⟨B0.exec, B0.bytes, hml, findClass_of_methodNamed B0.named, atoms_spec (ws := wc_X2_withoutRims) B0.pre, B0.returns, B0.notSynchronized⟩
  have hl := lv_entry [.ref (B + th)] (n := 3) (Nat.le_of_ble_eq_true rfl)
  rw [lg_entry_eq]
  generalize (lg_sl [.ref (B + th)] ++ List.replicate (3 - (lg_sl [.ref (B + th)]).length) Slot.unset).toArray = ls at hl ⊢
  have hl : lv_has ls 3 [(0, .ref (B + th))] := hl
  exact kb_X2_withoutRims_0 C hth ⟨hEv, hWd, va_S.rf⟩ hl hf
abbrev wc_X2_eulerOfAll : List Cond := Cond.code yX2_eulerOfAll cX2_eulerOfAll 3 (some .int) :: TG
abbrev rm_X2_eulerOfAll : Room := { frames := 2, cells := 0, slots := 0, locals := 100 }
theorem cd_X2_eulerOfAll : yX2_eulerOfAll.cls = RX2 ∧ yX2_eulerOfAll.cls ≠ "java/lang/invoke/MethodHandle" ∧ yX2_eulerOfAll.cls ≠ "java/lang/invoke/VarHandle" ∧ (parseMethodDescriptor yX2_eulerOfAll.desc).map (fun d => d.parameters.length) = some 0 := by decide +kernel
theorem dX2_eulerOfAll_0 : decode cX2_eulerOfAll 0 = .ok (.iconst 0, 1) := by decide +kernel
theorem dX2_eulerOfAll_1 : decode cX2_eulerOfAll 1 = .ok (.istore_n 1, 1) := by decide +kernel
theorem dX2_eulerOfAll_2 : decode cX2_eulerOfAll 2 = .ok (.iconst 0, 1) := by decide +kernel
theorem dX2_eulerOfAll_3 : decode cX2_eulerOfAll 3 = .ok (.istore_n 2, 1) := by decide +kernel
theorem dX2_eulerOfAll_4 : decode cX2_eulerOfAll 4 = .ok (.iload_n 2, 1) := by decide +kernel
theorem dX2_eulerOfAll_5 : decode cX2_eulerOfAll 5 = .ok (.aload_n 0, 1) := by decide +kernel
theorem dX2_eulerOfAll_6 : decode cX2_eulerOfAll 6 = .ok (.getfield 31, 3) := by decide +kernel
theorem dX2_eulerOfAll_9 : decode cX2_eulerOfAll 9 = .ok (.if_icmp .ge 18, 3) := by decide +kernel
theorem dX2_eulerOfAll_12 : decode cX2_eulerOfAll 12 = .ok (.iload_n 1, 1) := by decide +kernel
theorem dX2_eulerOfAll_13 : decode cX2_eulerOfAll 13 = .ok (.aload_n 0, 1) := by decide +kernel
theorem dX2_eulerOfAll_14 : decode cX2_eulerOfAll 14 = .ok (.getfield 9, 3) := by decide +kernel
theorem dX2_eulerOfAll_17 : decode cX2_eulerOfAll 17 = .ok (.iload_n 2, 1) := by decide +kernel
theorem dX2_eulerOfAll_18 : decode cX2_eulerOfAll 18 = .ok (.iaload, 1) := by decide +kernel
theorem dX2_eulerOfAll_19 : decode cX2_eulerOfAll 19 = .ok (.iadd, 1) := by decide +kernel
theorem dX2_eulerOfAll_20 : decode cX2_eulerOfAll 20 = .ok (.istore_n 1, 1) := by decide +kernel
theorem dX2_eulerOfAll_21 : decode cX2_eulerOfAll 21 = .ok (.iinc 2 1, 3) := by decide +kernel
theorem dX2_eulerOfAll_24 : decode cX2_eulerOfAll 24 = .ok (.goto (-20), 3) := by decide +kernel
theorem dX2_eulerOfAll_27 : decode cX2_eulerOfAll 27 = .ok (.iload_n 1, 1) := by decide +kernel
theorem dX2_eulerOfAll_28 : decode cX2_eulerOfAll 28 = .ok (.ireturn, 1) := by decide +kernel
set_option maxRecDepth 100000 in
set_option maxHeartbeats 4000000 in
theorem kb_X2_eulerOfAll_4 {th : Nat} {w : WX} {st : Int32 × Int32} {r : (Int32 × Int32) ⊕ ((Int32))} {H : Heap} {locs : List Loc} {ls : Array Slot} (C : CX p s m args meth c cX2_eulerOfAll 3 RX2 wc_X2_eulerOfAll (some .int)) (hth : KDx th = (2, 8)) (hG : Gd s G A 153 B (entX G B w) X H locs) (hl : lv_has ls 3 [(0, .ref (B + th)), (1, .int st.1), (2, .int st.2)]) (hf : sh_X2_eulerOfAll_s4 th w st = some r)
    (kL : ∀ st' : Int32 × Int32, r = Sum.inl st' → ∀ (H : Heap) (locs : List Loc) (ls : Array Slot), Gd s G A 153 B (entX G B w) X H locs → lv_has ls 3 [(0, .ref (B + th)), (1, .int st'.1), (2, .int st'.2)] → W p l e rm_X2_eulerOfAll s m args below meth c H locs 0 0 Q (F0 m 4 ls []))
    (kX0 : ∀ y' : Int32, r = Sum.inr y' → ∀ (H : Heap) (locs : List Loc) (ls : Array Slot), Gd s G A 153 B (entX G B w) X H locs → lv_has ls 3 [(1, .int y')] → W p l e rm_X2_eulerOfAll s m args below meth c H locs 0 0 Q (F0 m 27 ls [])) :
    W p l e rm_X2_eulerOfAll s m args below meth c H locs 0 0 Q (F0 m 4 ls []) := by
  refine lv_iload_n C.1 C.2.1 dX2_eulerOfAll_4 rfl (lv_at hl 2 rfl) ?_
  refine lv_aload_n C.1 C.2.1 dX2_eulerOfAll_5 rfl (lv_at hl 0 rfl) ?_
  refine gf_X2_31 C hG hth dX2_eulerOfAll_6 ?_
  rcases of_ite hf with ⟨c1, hf⟩ | ⟨c1, hf⟩
  · refine lv_icmp_ge (tgt := 27) C.1 C.2.1 dX2_eulerOfAll_9 (by decide) (fun _ => ?_) (fun q => absurd c1 q)
    obtain rfl := Option.some.inj hf
    exact kX0 _ rfl _ _ _ hG (lv_sub hl [1] rfl)
  · refine lv_icmp_ge (tgt := 27) C.1 C.2.1 dX2_eulerOfAll_9 (by decide) (fun q => absurd q c1) (fun _ => ?_)
    refine lv_iload_n C.1 C.2.1 dX2_eulerOfAll_12 rfl (lv_at hl 1 rfl) ?_
    refine lv_aload_n C.1 C.2.1 dX2_eulerOfAll_13 rfl (lv_at hl 0 rfl) ?_
    refine gf_X2_9 C hG hth dX2_eulerOfAll_14 ?_
    refine lv_iload_n C.1 C.2.1 dX2_eulerOfAll_17 rfl (lv_at hl 2 rfl) ?_
    obtain ⟨v2, hv2, hf⟩ := of_bind hf
    obtain ⟨bv2, ev2⟩ := of_ldS hv2
    refine r_iald C hG (c0 := (th + 1)) (kdx_lt (kx_2_2 hth) (by decide)) (entX_I (kx_2_2 hth)) bv2 dX2_eulerOfAll_18 ?_
    refine r_top ev2 ?_
    refine lv_iadd C.1 C.2.1 dX2_eulerOfAll_19 ?_
    obtain ⟨v3, ev3, hf⟩ := of_letv hf
    refine r_top ev3 ?_
    refine lv_istore_n (lv' := [(1, .int v3), (0, .ref (B + th)), (2, .int st.2)]) C.1 C.2.1 dX2_eulerOfAll_20 rfl hl (by decide) rfl (fun ls hl => ?_)
    obtain ⟨v4, ev4, hf⟩ := of_letv hf
    refine lv_iinc (v := v4) (lv' := [(2, .int v4), (1, .int v3), (0, .ref (B + th))]) C.1 C.2.1 dX2_eulerOfAll_21 hl (k := 2) rfl (by rw [ev4, show Int32.ofInt (1) = nI 1 from by decide]) (by decide) rfl (fun ls hl => ?_)
    refine lv_goto (tgt := 4) C.1 C.2.1 dX2_eulerOfAll_24 (by decide) ?_
    obtain rfl := Option.some.inj hf
    exact kL _ rfl _ _ _ hG (lv_sub hl [2, 1, 0] rfl)
set_option maxRecDepth 100000 in
set_option maxHeartbeats 4000000 in
theorem kl_X2_eulerOfAll_4 {th : Nat} {w : WX} (C : CX p s m args meth c cX2_eulerOfAll 3 RX2 wc_X2_eulerOfAll (some .int)) (hth : KDx th = (2, 8)) : ∀ (n : Nat) (st : Int32 × Int32) (x : (Int32)) (H : Heap) (locs : List Loc) (ls : Array Slot), Gd s G A 153 B (entX G B w) X H locs → lv_has ls 3 [(0, .ref (B + th)), (1, .int st.1), (2, .int st.2)] → lpw (sh_X2_eulerOfAll_s4 th w) n st = some x →
    (∀ y' : Int32, x = y' → ∀ (H : Heap) (locs : List Loc) (ls : Array Slot), Gd s G A 153 B (entX G B w) X H locs → lv_has ls 3 [(1, .int y')] → W p l e rm_X2_eulerOfAll s m args below meth c H locs 0 0 Q (F0 m 27 ls [])) → W p l e rm_X2_eulerOfAll s m args below meth c H locs 0 0 Q (F0 m 4 ls []) := by
  intro n
  induction n with
  | zero =>
    intro st x H locs ls hG hl hf
    cases hf
  | succ n ih =>
    intro st x H locs ls hG hl hf kX0
    obtain ⟨r, hr, hh⟩ := of_lpw hf
    refine kb_X2_eulerOfAll_4 C hth hG hl hr (fun st2 e1 H locs ls hG hl => ?_) (fun y2 e1 H locs ls hG hl => ?_)
    · rcases hh with ⟨s3, e2, hh⟩ | e2
      · rw [e2] at e1
        cases e1
        exact ih _ _ _ _ _ hG hl hh kX0
      · rw [e2] at e1
        cases e1
    · rcases hh with ⟨s3, e2, hh⟩ | e2
      · rw [e2] at e1
        cases e1
      · rw [e2] at e1
        cases e1
        exact kX0 _ rfl _ _ _ hG hl
set_option maxRecDepth 100000 in
set_option maxHeartbeats 4000000 in
theorem kb_X2_eulerOfAll_0 {th : Nat} {w : WX} {out : Int32} {H : Heap} {locs : List Loc} {ls : Array Slot} (C : CX p s m args meth c cX2_eulerOfAll 3 RX2 wc_X2_eulerOfAll (some .int)) (hth : KDx th = (2, 8)) (hG : Gd s G A 153 B (entX G B w) X H locs) (hl : lv_has ls 3 [(0, .ref (B + th))]) (hf : sh_X2_eulerOfAll th w = some out) :
    W p l e rm_X2_eulerOfAll s m args below meth c H locs 0 0 (MQ below (CPost G A 153 B (entX G B w) X (some (.int out))) args s 0 0 A) (F0 m 0 ls []) := by
  refine lv_iconst (v := nI 0) C.1 C.2.1 dX2_eulerOfAll_0 (by decide) ?_
  refine lv_istore_n (lv' := [(1, .int (nI 0)), (0, .ref (B + th))]) C.1 C.2.1 dX2_eulerOfAll_1 rfl hl (by decide) rfl (fun ls hl => ?_)
  refine lv_iconst (v := nI 0) C.1 C.2.1 dX2_eulerOfAll_2 (by decide) ?_
  refine lv_istore_n (lv' := [(2, .int (nI 0)), (1, .int (nI 0)), (0, .ref (B + th))]) C.1 C.2.1 dX2_eulerOfAll_3 rfl hl (by decide) rfl (fun ls hl => ?_)
  obtain ⟨ex1, hex1, hf⟩ := of_bind hf
  refine kl_X2_eulerOfAll_4 C hth FU (nI 0, nI 0) ex1 _ _ _ hG (lv_sub hl [2, 1, 0] rfl) hex1 (fun y e0 H locs ls hG hl => ?_)
  subst e0
  refine lv_iload_n C.1 C.2.1 dX2_eulerOfAll_27 rfl (lv_at hl 0 rfl) ?_
  obtain rfl := Option.some.inj hf
  exact r_iret C hG dX2_eulerOfAll_28
set_option maxRecDepth 100000 in
set_option maxHeartbeats 4000000 in
theorem mt_X2_eulerOfAll (l : Launch) {G : GG} {A : Nat → Prop} {B : Nat} {X : va_W} {th : Nat} {w : WX} {out : Int32} (hth : KDx th = (2, 8)) (hf : sh_X2_eulerOfAll th w = some out) : MetW l yX2_eulerOfAll wc_X2_eulerOfAll rm_X2_eulerOfAll G A 153 B (entX G B w) X [.ref (B + th)] (some (.int out)) (entX G B w) := by
  refine Met.ofW (cc := cX2_eulerOfAll) (maxL := 3) (ret := (some .int)) (by decide) rfl ?_
  intro p e s m args below meth c s₁ B0 hml hv
  obtain ⟨rfl, hEv, hWd⟩ := hv
  have C : CX p s m _ meth c cX2_eulerOfAll 3 RX2 wc_X2_eulerOfAll (some .int) := ⟨B0.exec, B0.bytes, hml, findClass_of_methodNamed B0.named, atoms_spec (ws := wc_X2_eulerOfAll) B0.pre, B0.returns, B0.notSynchronized⟩
  have hl := lv_entry [.ref (B + th)] (n := 3) (Nat.le_of_ble_eq_true rfl)
  rw [lg_entry_eq]
  generalize (lg_sl [.ref (B + th)] ++ List.replicate (3 - (lg_sl [.ref (B + th)]).length) Slot.unset).toArray = ls at hl ⊢
  have hl : lv_has ls 3 [(0, .ref (B + th))] := hl
  exact kb_X2_eulerOfAll_0 C hth ⟨hEv, hWd, va_S.rf⟩ hl hf
abbrev wc_X2_areAlike : List Cond := Cond.code yX2_areAlike cX2_areAlike 4 (some .boolean) :: TG
abbrev rm_X2_areAlike : Room := { frames := 2, cells := 0, slots := 0, locals := 100 }
theorem cd_X2_areAlike : yX2_areAlike.cls = RX2 ∧ yX2_areAlike.cls ≠ "java/lang/invoke/MethodHandle" ∧ yX2_areAlike.cls ≠ "java/lang/invoke/VarHandle" ∧ (parseMethodDescriptor yX2_areAlike.desc).map (fun d => d.parameters.length) = some 3 := by decide +kernel
theorem dX2_areAlike_0 : decode cX2_areAlike 0 = .ok (.aload_n 0, 1) := by decide +kernel
theorem dX2_areAlike_1 : decode cX2_areAlike 1 = .ok (.getfield 15, 3) := by decide +kernel
theorem dX2_areAlike_4 : decode cX2_areAlike 4 = .ok (.iload_n 1, 1) := by decide +kernel
theorem dX2_areAlike_5 : decode cX2_areAlike 5 = .ok (.iaload, 1) := by decide +kernel
theorem dX2_areAlike_6 : decode cX2_areAlike 6 = .ok (.aload_n 2, 1) := by decide +kernel
theorem dX2_areAlike_7 : decode cX2_areAlike 7 = .ok (.getfield 15, 3) := by decide +kernel
theorem dX2_areAlike_10 : decode cX2_areAlike 10 = .ok (.iload_n 3, 1) := by decide +kernel
theorem dX2_areAlike_11 : decode cX2_areAlike 11 = .ok (.iaload, 1) := by decide +kernel
theorem dX2_areAlike_12 : decode cX2_areAlike 12 = .ok (.if_icmp .ne 37, 3) := by decide +kernel
theorem dX2_areAlike_15 : decode cX2_areAlike 15 = .ok (.aload_n 0, 1) := by decide +kernel
theorem dX2_areAlike_16 : decode cX2_areAlike 16 = .ok (.getfield 9, 3) := by decide +kernel
theorem dX2_areAlike_19 : decode cX2_areAlike 19 = .ok (.iload_n 1, 1) := by decide +kernel
theorem dX2_areAlike_20 : decode cX2_areAlike 20 = .ok (.iaload, 1) := by decide +kernel
theorem dX2_areAlike_21 : decode cX2_areAlike 21 = .ok (.aload_n 2, 1) := by decide +kernel
theorem dX2_areAlike_22 : decode cX2_areAlike 22 = .ok (.getfield 9, 3) := by decide +kernel
theorem dX2_areAlike_25 : decode cX2_areAlike 25 = .ok (.iload_n 3, 1) := by decide +kernel
theorem dX2_areAlike_26 : decode cX2_areAlike 26 = .ok (.iaload, 1) := by decide +kernel
theorem dX2_areAlike_27 : decode cX2_areAlike 27 = .ok (.if_icmp .ne 22, 3) := by decide +kernel
theorem dX2_areAlike_30 : decode cX2_areAlike 30 = .ok (.aload_n 0, 1) := by decide +kernel
theorem dX2_areAlike_31 : decode cX2_areAlike 31 = .ok (.getfield 18, 3) := by decide +kernel
theorem dX2_areAlike_34 : decode cX2_areAlike 34 = .ok (.iload_n 1, 1) := by decide +kernel
theorem dX2_areAlike_35 : decode cX2_areAlike 35 = .ok (.baload, 1) := by decide +kernel
theorem dX2_areAlike_36 : decode cX2_areAlike 36 = .ok (.aload_n 2, 1) := by decide +kernel
theorem dX2_areAlike_37 : decode cX2_areAlike 37 = .ok (.getfield 18, 3) := by decide +kernel
theorem dX2_areAlike_40 : decode cX2_areAlike 40 = .ok (.iload_n 3, 1) := by decide +kernel
theorem dX2_areAlike_41 : decode cX2_areAlike 41 = .ok (.baload, 1) := by decide +kernel
theorem dX2_areAlike_42 : decode cX2_areAlike 42 = .ok (.if_icmp .ne 7, 3) := by decide +kernel
theorem dX2_areAlike_45 : decode cX2_areAlike 45 = .ok (.iconst 1, 1) := by decide +kernel
theorem dX2_areAlike_46 : decode cX2_areAlike 46 = .ok (.goto 4, 3) := by decide +kernel
theorem dX2_areAlike_49 : decode cX2_areAlike 49 = .ok (.iconst 0, 1) := by decide +kernel
theorem dX2_areAlike_50 : decode cX2_areAlike 50 = .ok (.ireturn, 1) := by decide +kernel
set_option maxRecDepth 100000 in
set_option maxHeartbeats 4000000 in
theorem kb_X2_areAlike_0 {th : Nat} {x1 : Int32} {x2 : Nat} {x3 : Int32} {w : WX} {out : Int32} {H : Heap} {locs : List Loc} {ls : Array Slot} (C : CX p s m args meth c cX2_areAlike 4 RX2 wc_X2_areAlike (some .boolean)) (hth : KDx th = (2, 8)) (h2 : KDx x2 = (2, 8)) (hG : Gd s G A 153 B (entX G B w) X H locs) (hl : lv_has ls 4 [(0, .ref (B + th)), (1, .int x1), (2, .ref (B + x2)), (3, .int x3)]) (hf : sh_X2_areAlike th x1 x2 x3 w = some out) :
    W p l e rm_X2_areAlike s m args below meth c H locs 0 0 (MQ below (CPost G A 153 B (entX G B w) X (some (.int out))) args s 0 0 A) (F0 m 0 ls []) := by
  refine lv_aload_n C.1 C.2.1 dX2_areAlike_0 rfl (lv_at hl 0 rfl) ?_
  refine gf_X2_15 C hG hth dX2_areAlike_1 ?_
  refine lv_iload_n C.1 C.2.1 dX2_areAlike_4 rfl (lv_at hl 1 rfl) ?_
  obtain ⟨v1, hv1, hf⟩ := of_bind hf
  obtain ⟨bv1, ev1⟩ := of_ldS hv1
  refine r_iald C hG (c0 := (th + 2)) (kdx_lt (kx_2_3 hth) (by decide)) (entX_I (kx_2_3 hth)) bv1 dX2_areAlike_5 ?_
  refine r_top ev1 ?_
  refine lv_aload_n C.1 C.2.1 dX2_areAlike_6 rfl (lv_at hl 2 rfl) ?_
  refine gf_X2_15 C hG h2 dX2_areAlike_7 ?_
  refine lv_iload_n C.1 C.2.1 dX2_areAlike_10 rfl (lv_at hl 3 rfl) ?_
  obtain ⟨v2, hv2, hf⟩ := of_bind hf
  obtain ⟨bv2, ev2⟩ := of_ldS hv2
  refine r_iald C hG (c0 := (x2 + 2)) (kdx_lt (kx_2_3 h2) (by decide)) (entX_I (kx_2_3 h2)) bv2 dX2_areAlike_11 ?_
  refine r_top ev2 ?_
  rcases of_ite hf with ⟨c3, hf⟩ | ⟨c3, hf⟩
  · refine lv_icmp_ne (tgt := 49) C.1 C.2.1 dX2_areAlike_12 (by decide) (fun q => absurd c3 q) (fun _ => ?_)
    refine lv_aload_n C.1 C.2.1 dX2_areAlike_15 rfl (lv_at hl 0 rfl) ?_
    refine gf_X2_9 C hG hth dX2_areAlike_16 ?_
    refine lv_iload_n C.1 C.2.1 dX2_areAlike_19 rfl (lv_at hl 1 rfl) ?_
    obtain ⟨v4, hv4, hf⟩ := of_bind hf
    obtain ⟨bv4, ev4⟩ := of_ldS hv4
    refine r_iald C hG (c0 := (th + 1)) (kdx_lt (kx_2_2 hth) (by decide)) (entX_I (kx_2_2 hth)) bv4 dX2_areAlike_20 ?_
    refine r_top ev4 ?_
    refine lv_aload_n C.1 C.2.1 dX2_areAlike_21 rfl (lv_at hl 2 rfl) ?_
    refine gf_X2_9 C hG h2 dX2_areAlike_22 ?_
    refine lv_iload_n C.1 C.2.1 dX2_areAlike_25 rfl (lv_at hl 3 rfl) ?_
    obtain ⟨v5, hv5, hf⟩ := of_bind hf
    obtain ⟨bv5, ev5⟩ := of_ldS hv5
    refine r_iald C hG (c0 := (x2 + 1)) (kdx_lt (kx_2_2 h2) (by decide)) (entX_I (kx_2_2 h2)) bv5 dX2_areAlike_26 ?_
    refine r_top ev5 ?_
    rcases of_ite hf with ⟨c6, hf⟩ | ⟨c6, hf⟩
    · refine lv_icmp_ne (tgt := 49) C.1 C.2.1 dX2_areAlike_27 (by decide) (fun q => absurd c6 q) (fun _ => ?_)
      refine lv_aload_n C.1 C.2.1 dX2_areAlike_30 rfl (lv_at hl 0 rfl) ?_
      refine gf_X2_18 C hG hth dX2_areAlike_31 ?_
      refine lv_iload_n C.1 C.2.1 dX2_areAlike_34 rfl (lv_at hl 1 rfl) ?_
      obtain ⟨v7, hv7, hf⟩ := of_bind hf
      obtain ⟨bv7, ev7⟩ := of_ldS hv7
      refine r_zald C hG (c0 := (th + 3)) (kdx_lt (kx_2_4 hth) (by decide)) (entX_Z (kx_2_4 hth)) bv7 dX2_areAlike_35 ?_
      refine r_top ev7 ?_
      refine lv_aload_n C.1 C.2.1 dX2_areAlike_36 rfl (lv_at hl 2 rfl) ?_
      refine gf_X2_18 C hG h2 dX2_areAlike_37 ?_
      refine lv_iload_n C.1 C.2.1 dX2_areAlike_40 rfl (lv_at hl 3 rfl) ?_
      obtain ⟨v8, hv8, hf⟩ := of_bind hf
      obtain ⟨bv8, ev8⟩ := of_ldS hv8
      refine r_zald C hG (c0 := (x2 + 3)) (kdx_lt (kx_2_4 h2) (by decide)) (entX_Z (kx_2_4 h2)) bv8 dX2_areAlike_41 ?_
      refine r_top ev8 ?_
      rcases of_ite hf with ⟨c9, hf⟩ | ⟨c9, hf⟩
      · refine lv_icmp_ne (tgt := 49) C.1 C.2.1 dX2_areAlike_42 (by decide) (fun q => absurd c9 q) (fun _ => ?_)
        refine lv_iconst (v := nI 1) C.1 C.2.1 dX2_areAlike_45 (by decide) ?_
        refine lv_goto (tgt := 50) C.1 C.2.1 dX2_areAlike_46 (by decide) ?_
        obtain rfl := Option.some.inj hf
        exact r_zret C hG (Or.inr rfl) dX2_areAlike_50
      · refine lv_icmp_ne (tgt := 49) C.1 C.2.1 dX2_areAlike_42 (by decide) (fun _ => ?_) (fun q => absurd q c9)
        refine lv_iconst (v := nI 0) C.1 C.2.1 dX2_areAlike_49 (by decide) ?_
        obtain rfl := Option.some.inj hf
        exact r_zret C hG (Or.inl rfl) dX2_areAlike_50
    · refine lv_icmp_ne (tgt := 49) C.1 C.2.1 dX2_areAlike_27 (by decide) (fun _ => ?_) (fun q => absurd q c6)
      refine lv_iconst (v := nI 0) C.1 C.2.1 dX2_areAlike_49 (by decide) ?_
      obtain rfl := Option.some.inj hf
      exact r_zret C hG (Or.inl rfl) dX2_areAlike_50
  · refine lv_icmp_ne (tgt := 49) C.1 C.2.1 dX2_areAlike_12 (by decide) (fun _ => ?_) (fun q => absurd q c3)
    refine lv_iconst (v := nI 0) C.1 C.2.1 dX2_areAlike_49 (by decide) ?_
    obtain rfl := Option.some.inj hf
    exact r_zret C hG (Or.inl rfl) dX2_areAlike_50
set_option maxRecDepth 100000 in
set_option maxHeartbeats 4000000 in
theorem mt_X2_areAlike (l : Launch) {G : GG} {A : Nat → Prop} {B : Nat} {X : va_W} {th : Nat} {x1 : Int32} {x2 : Nat} {x3 : Int32} {w : WX} {out : Int32} (hth : KDx th = (2, 8)) (h2 : KDx x2 = (2, 8)) (hf : sh_X2_areAlike th x1 x2 x3 w = some out) : MetW l yX2_areAlike wc_X2_areAlike rm_X2_areAlike G A 153 B (entX G B w) X [.ref (B + th), .int x1, .ref (B + x2), .int x3] (some (.int out)) (entX G B w) := by
  refine Met.ofW (cc := cX2_areAlike) (maxL := 4) (ret := (some .boolean)) (by decide) rfl ?_
  intro p e s m args below meth c s₁ B0 hml hv
  obtain ⟨rfl, hEv, hWd⟩ := hv
  have C : CX p s m _ meth c cX2_areAlike 4 RX2 wc_X2_areAlike (some .boolean) := ⟨B0.exec, B0.bytes, hml, findClass_of_methodNamed B0.named, atoms_spec (ws := wc_X2_areAlike) B0.pre, B0.returns, B0.notSynchronized⟩
  have hl := lv_entry [.ref (B + th), .int x1, .ref (B + x2), .int x3] (n := 4) (Nat.le_of_ble_eq_true rfl)
  rw [lg_entry_eq]
  generalize (lg_sl [.ref (B + th), .int x1, .ref (B + x2), .int x3] ++ List.replicate (4 - (lg_sl [.ref (B + th), .int x1, .ref (B + x2), .int x3]).length) Slot.unset).toArray = ls at hl ⊢
  have hl : lv_has ls 4 [(0, .ref (B + th)), (1, .int x1), (2, .ref (B + x2)), (3, .int x3)] := hl
  exact kb_X2_areAlike_0 C hth h2 ⟨hEv, hWd, va_S.rf⟩ hl hf
abbrev wc_X2_hasAlikeBefore : List Cond := Cond.code yX2_hasAlikeBefore cX2_hasAlikeBefore 3 (some .boolean) :: TG
abbrev rm_X2_hasAlikeBefore : Room := { frames := 3, cells := 0, slots := 0, locals := 123 }
theorem cd_X2_hasAlikeBefore : yX2_hasAlikeBefore.cls = RX2 ∧ yX2_hasAlikeBefore.cls ≠ "java/lang/invoke/MethodHandle" ∧ yX2_hasAlikeBefore.cls ≠ "java/lang/invoke/VarHandle" ∧ (parseMethodDescriptor yX2_hasAlikeBefore.desc).map (fun d => d.parameters.length) = some 1 := by decide +kernel
theorem dX2_hasAlikeBefore_0 : decode cX2_hasAlikeBefore 0 = .ok (.iconst 0, 1) := by decide +kernel
theorem dX2_hasAlikeBefore_1 : decode cX2_hasAlikeBefore 1 = .ok (.istore_n 2, 1) := by decide +kernel
theorem dX2_hasAlikeBefore_2 : decode cX2_hasAlikeBefore 2 = .ok (.iload_n 2, 1) := by decide +kernel
theorem dX2_hasAlikeBefore_3 : decode cX2_hasAlikeBefore 3 = .ok (.iload_n 1, 1) := by decide +kernel
theorem dX2_hasAlikeBefore_4 : decode cX2_hasAlikeBefore 4 = .ok (.if_icmp .ge 21, 3) := by decide +kernel
theorem dX2_hasAlikeBefore_7 : decode cX2_hasAlikeBefore 7 = .ok (.aload_n 0, 1) := by decide +kernel
theorem dX2_hasAlikeBefore_8 : decode cX2_hasAlikeBefore 8 = .ok (.iload_n 1, 1) := by decide +kernel
theorem dX2_hasAlikeBefore_9 : decode cX2_hasAlikeBefore 9 = .ok (.aload_n 0, 1) := by decide +kernel
theorem dX2_hasAlikeBefore_10 : decode cX2_hasAlikeBefore 10 = .ok (.iload_n 2, 1) := by decide +kernel
theorem dX2_hasAlikeBefore_11 : decode cX2_hasAlikeBefore 11 = .ok (.invokevirtual 87, 3) := by decide +kernel
theorem dX2_hasAlikeBefore_14 : decode cX2_hasAlikeBefore 14 = .ok (.ifCond .eq 5, 3) := by decide +kernel
theorem dX2_hasAlikeBefore_17 : decode cX2_hasAlikeBefore 17 = .ok (.iconst 1, 1) := by decide +kernel
theorem dX2_hasAlikeBefore_18 : decode cX2_hasAlikeBefore 18 = .ok (.ireturn, 1) := by decide +kernel
theorem dX2_hasAlikeBefore_19 : decode cX2_hasAlikeBefore 19 = .ok (.iinc 2 1, 3) := by decide +kernel
theorem dX2_hasAlikeBefore_22 : decode cX2_hasAlikeBefore 22 = .ok (.goto (-20), 3) := by decide +kernel
theorem dX2_hasAlikeBefore_25 : decode cX2_hasAlikeBefore 25 = .ok (.iconst 0, 1) := by decide +kernel
theorem dX2_hasAlikeBefore_26 : decode cX2_hasAlikeBefore 26 = .ok (.ireturn, 1) := by decide +kernel
set_option maxRecDepth 100000 in
set_option maxHeartbeats 4000000 in
theorem kb_X2_hasAlikeBefore_2 {th : Nat} {x1 : Int32} {w : WX} {st : Int32} {r : (Int32) ⊕ ((Unit) ⊕ (Unit))} {H : Heap} {locs : List Loc} {ls : Array Slot} (C : CX p s m args meth c cX2_hasAlikeBefore 3 RX2 wc_X2_hasAlikeBefore (some .boolean)) (hth : KDx th = (2, 8)) (hG : Gd s G A 153 B (entX G B w) X H locs) (hl : lv_has ls 3 [(0, .ref (B + th)), (1, .int x1), (2, .int st)]) (hf : sh_X2_hasAlikeBefore_s2 th x1 w st = some r)
    (kL : ∀ st' : Int32, r = Sum.inl st' → ∀ (H : Heap) (locs : List Loc) (ls : Array Slot), Gd s G A 153 B (entX G B w) X H locs → lv_has ls 3 [(0, .ref (B + th)), (1, .int x1), (2, .int st')] → W p l e rm_X2_hasAlikeBefore s m args below meth c H locs 0 0 Q (F0 m 2 ls []))
    (kX0 : ∀ y' : Unit, r = Sum.inr (Sum.inl y') → ∀ (H : Heap) (locs : List Loc) (ls : Array Slot), Gd s G A 153 B (entX G B w) X H locs → lv_has ls 3 [] → W p l e rm_X2_hasAlikeBefore s m args below meth c H locs 0 0 Q (F0 m 17 ls []))
    (kX1 : ∀ y' : Unit, r = Sum.inr (Sum.inr y') → ∀ (H : Heap) (locs : List Loc) (ls : Array Slot), Gd s G A 153 B (entX G B w) X H locs → lv_has ls 3 [] → W p l e rm_X2_hasAlikeBefore s m args below meth c H locs 0 0 Q (F0 m 25 ls [])) :
    W p l e rm_X2_hasAlikeBefore s m args below meth c H locs 0 0 Q (F0 m 2 ls []) := by
  refine lv_iload_n C.1 C.2.1 dX2_hasAlikeBefore_2 rfl (lv_at hl 2 rfl) ?_
  refine lv_iload_n C.1 C.2.1 dX2_hasAlikeBefore_3 rfl (lv_at hl 1 rfl) ?_
  rcases of_ite hf with ⟨c1, hf⟩ | ⟨c1, hf⟩
  · refine lv_icmp_ge (tgt := 25) C.1 C.2.1 dX2_hasAlikeBefore_4 (by decide) (fun _ => ?_) (fun q => absurd c1 q)
    obtain rfl := Option.some.inj hf
    exact kX1 _ rfl _ _ _ hG (lv_sub hl [] rfl)
  · refine lv_icmp_ge (tgt := 25) C.1 C.2.1 dX2_hasAlikeBefore_4 (by decide) (fun q => absurd q c1) (fun _ => ?_)
    refine lv_aload_n C.1 C.2.1 dX2_hasAlikeBefore_7 rfl (lv_at hl 0 rfl) ?_
    refine lv_iload_n C.1 C.2.1 dX2_hasAlikeBefore_8 rfl (lv_at hl 1 rfl) ?_
    refine lv_aload_n C.1 C.2.1 dX2_hasAlikeBefore_9 rfl (lv_at hl 0 rfl) ?_
    refine lv_iload_n C.1 C.2.1 dX2_hasAlikeBefore_10 rfl (lv_at hl 2 rfl) ?_
    obtain ⟨v2, hv2, hf⟩ := of_bind hf
    refine r_callV1 C hG hl.1 (c0 := th) (As := [.int x1, .ref (B + th), .int st]) (kdx_lt hth (by decide)) (entX_O2 hth) rfl (mt_X2_areAlike l hth hth hv2) (cwV 3 C.2.2.2.2.1 (gd_V tg_3_59 tg_3_61 tgp_14 tg_1_8 tg_3_62) rfl rfl rfl cd_X2_areAlike ⟨Nat.le_of_ble_eq_true rfl, Nat.le_of_ble_eq_true rfl⟩) rfl rfl (Nat.le_of_ble_eq_true rfl) dX2_hasAlikeBefore_11 (fun H locs hG => ?_)
    rcases of_ite hf with ⟨c3, hf⟩ | ⟨c3, hf⟩
    · refine lv_if_eq (tgt := 19) C.1 C.2.1 dX2_hasAlikeBefore_14 (by decide) (fun _ => ?_) (fun q => absurd c3 q)
      obtain ⟨v4, ev4, hf⟩ := of_letv hf
      refine lv_iinc (v := v4) (lv' := [(2, .int v4), (0, .ref (B + th)), (1, .int x1)]) C.1 C.2.1 dX2_hasAlikeBefore_19 hl (k := 2) rfl (by rw [ev4, show Int32.ofInt (1) = nI 1 from by decide]) (by decide) rfl (fun ls hl => ?_)
      refine lv_goto (tgt := 2) C.1 C.2.1 dX2_hasAlikeBefore_22 (by decide) ?_
      obtain rfl := Option.some.inj hf
      exact kL _ rfl _ _ _ hG (lv_sub hl [1, 2, 0] rfl)
    · refine lv_if_eq (tgt := 19) C.1 C.2.1 dX2_hasAlikeBefore_14 (by decide) (fun q => absurd q c3) (fun _ => ?_)
      obtain rfl := Option.some.inj hf
      exact kX0 _ rfl _ _ _ hG (lv_sub hl [] rfl)
set_option maxRecDepth 100000 in
set_option maxHeartbeats 4000000 in
theorem kl_X2_hasAlikeBefore_2 {th : Nat} {x1 : Int32} {w : WX} (C : CX p s m args meth c cX2_hasAlikeBefore 3 RX2 wc_X2_hasAlikeBefore (some .boolean)) (hth : KDx th = (2, 8)) : ∀ (n : Nat) (st : Int32) (x : (Unit) ⊕ (Unit)) (H : Heap) (locs : List Loc) (ls : Array Slot), Gd s G A 153 B (entX G B w) X H locs → lv_has ls 3 [(0, .ref (B + th)), (1, .int x1), (2, .int st)] → lpw (sh_X2_hasAlikeBefore_s2 th x1 w) n st = some x →
    (∀ y' : Unit, x = (Sum.inl y') → ∀ (H : Heap) (locs : List Loc) (ls : Array Slot), Gd s G A 153 B (entX G B w) X H locs → lv_has ls 3 [] → W p l e rm_X2_hasAlikeBefore s m args below meth c H locs 0 0 Q (F0 m 17 ls [])) →
    (∀ y' : Unit, x = (Sum.inr y') → ∀ (H : Heap) (locs : List Loc) (ls : Array Slot), Gd s G A 153 B (entX G B w) X H locs → lv_has ls 3 [] → W p l e rm_X2_hasAlikeBefore s m args below meth c H locs 0 0 Q (F0 m 25 ls [])) → W p l e rm_X2_hasAlikeBefore s m args below meth c H locs 0 0 Q (F0 m 2 ls []) := by
  intro n
  induction n with
  | zero =>
    intro st x H locs ls hG hl hf
    cases hf
  | succ n ih =>
    intro st x H locs ls hG hl hf kX0 kX1
    obtain ⟨r, hr, hh⟩ := of_lpw hf
    refine kb_X2_hasAlikeBefore_2 C hth hG hl hr (fun st2 e1 H locs ls hG hl => ?_) (fun y2 e1 H locs ls hG hl => ?_) (fun y2 e1 H locs ls hG hl => ?_)
    · rcases hh with ⟨s3, e2, hh⟩ | e2
      · rw [e2] at e1
        cases e1
        exact ih _ _ _ _ _ hG hl hh kX0 kX1
      · rw [e2] at e1
        cases e1
    · rcases hh with ⟨s3, e2, hh⟩ | e2
      · rw [e2] at e1
        cases e1
      · rw [e2] at e1
        cases e1
        exact kX0 _ rfl _ _ _ hG hl
    · rcases hh with ⟨s3, e2, hh⟩ | e2
      · rw [e2] at e1
        cases e1
      · rw [e2] at e1
        cases e1
        exact kX1 _ rfl _ _ _ hG hl
set_option maxRecDepth 100000 in
set_option maxHeartbeats 4000000 in
theorem kb_X2_hasAlikeBefore_0 {th : Nat} {x1 : Int32} {w : WX} {out : Int32} {H : Heap} {locs : List Loc} {ls : Array Slot} (C : CX p s m args meth c cX2_hasAlikeBefore 3 RX2 wc_X2_hasAlikeBefore (some .boolean)) (hth : KDx th = (2, 8)) (hG : Gd s G A 153 B (entX G B w) X H locs) (hl : lv_has ls 3 [(0, .ref (B + th)), (1, .int x1)]) (hf : sh_X2_hasAlikeBefore th x1 w = some out) :
    W p l e rm_X2_hasAlikeBefore s m args below meth c H locs 0 0 (MQ below (CPost G A 153 B (entX G B w) X (some (.int out))) args s 0 0 A) (F0 m 0 ls []) := by
  refine lv_iconst (v := nI 0) C.1 C.2.1 dX2_hasAlikeBefore_0 (by decide) ?_
  refine lv_istore_n (lv' := [(2, .int (nI 0)), (0, .ref (B + th)), (1, .int x1)]) C.1 C.2.1 dX2_hasAlikeBefore_1 rfl hl (by decide) rfl (fun ls hl => ?_)
  obtain ⟨ex1, hex1, hf⟩ := of_bind hf
  refine kl_X2_hasAlikeBefore_2 C hth FU (nI 0) ex1 _ _ _ hG (lv_sub hl [1, 2, 0] rfl) hex1 (fun y2 e0 H locs ls hG hl => ?_) (fun y3 e0 H locs ls hG hl => ?_)
  · subst e0
    simp only [Sum.elim_inl, Sum.elim_inr] at hf
    refine lv_iconst (v := nI 1) C.1 C.2.1 dX2_hasAlikeBefore_17 (by decide) ?_
    obtain rfl := Option.some.inj hf
    exact r_zret C hG (Or.inr rfl) dX2_hasAlikeBefore_18
  · subst e0
    simp only [Sum.elim_inl, Sum.elim_inr] at hf
    refine lv_iconst (v := nI 0) C.1 C.2.1 dX2_hasAlikeBefore_25 (by decide) ?_
    obtain rfl := Option.some.inj hf
    exact r_zret C hG (Or.inl rfl) dX2_hasAlikeBefore_26
set_option maxRecDepth 100000 in
set_option maxHeartbeats 4000000 in
theorem mt_X2_hasAlikeBefore (l : Launch) {G : GG} {A : Nat → Prop} {B : Nat} {X : va_W} {th : Nat} {x1 : Int32} {w : WX} {out : Int32} (hth : KDx th = (2, 8)) (hf : sh_X2_hasAlikeBefore th x1 w = some out) : MetW l yX2_hasAlikeBefore wc_X2_hasAlikeBefore rm_X2_hasAlikeBefore G A 153 B (entX G B w) X [.ref (B + th), .int x1] (some (.int out)) (entX G B w) := by
  refine Met.ofW (cc := cX2_hasAlikeBefore) (maxL := 3) (ret := (some .boolean)) (by decide) rfl ?_
  intro p e s m args below meth c s₁ B0 hml hv
  obtain ⟨rfl, hEv, hWd⟩ := hv
  have C : CX p s m _ meth c cX2_hasAlikeBefore 3 RX2 wc_X2_hasAlikeBefore (some .boolean) := ⟨B0.exec, B0.bytes, hml, findClass_of_methodNamed B0.named, atoms_spec (ws := wc_X2_hasAlikeBefore) B0.pre, B0.returns, B0.notSynchronized⟩
  have hl := lv_entry [.ref (B + th), .int x1] (n := 3) (Nat.le_of_ble_eq_true rfl)
  rw [lg_entry_eq]
  generalize (lg_sl [.ref (B + th), .int x1] ++ List.replicate (3 - (lg_sl [.ref (B + th), .int x1]).length) Slot.unset).toArray = ls at hl ⊢
  have hl : lv_has ls 3 [(0, .ref (B + th)), (1, .int x1)] := hl
  exact kb_X2_hasAlikeBefore_0 C hth ⟨hEv, hWd, va_S.rf⟩ hl hf
abbrev wc_X2_unlike : List Cond := Cond.code yX2_unlike cX2_unlike 3 (some .int) :: TG
abbrev rm_X2_unlike : Room := { frames := 4, cells := 0, slots := 0, locals := 145 }
theorem cd_X2_unlike : yX2_unlike.cls = RX2 ∧ yX2_unlike.cls ≠ "java/lang/invoke/MethodHandle" ∧ yX2_unlike.cls ≠ "java/lang/invoke/VarHandle" ∧ (parseMethodDescriptor yX2_unlike.desc).map (fun d => d.parameters.length) = some 0 := by decide +kernel
theorem dX2_unlike_0 : decode cX2_unlike 0 = .ok (.iconst 0, 1) := by decide +kernel
theorem dX2_unlike_1 : decode cX2_unlike 1 = .ok (.istore_n 1, 1) := by decide +kernel
theorem dX2_unlike_2 : decode cX2_unlike 2 = .ok (.iconst 0, 1) := by decide +kernel
theorem dX2_unlike_3 : decode cX2_unlike 3 = .ok (.istore_n 2, 1) := by decide +kernel
theorem dX2_unlike_4 : decode cX2_unlike 4 = .ok (.iload_n 2, 1) := by decide +kernel
theorem dX2_unlike_5 : decode cX2_unlike 5 = .ok (.aload_n 0, 1) := by decide +kernel
theorem dX2_unlike_6 : decode cX2_unlike 6 = .ok (.getfield 31, 3) := by decide +kernel
theorem dX2_unlike_9 : decode cX2_unlike 9 = .ok (.if_icmp .ge 25, 3) := by decide +kernel
theorem dX2_unlike_12 : decode cX2_unlike 12 = .ok (.iload_n 1, 1) := by decide +kernel
theorem dX2_unlike_13 : decode cX2_unlike 13 = .ok (.aload_n 0, 1) := by decide +kernel
theorem dX2_unlike_14 : decode cX2_unlike 14 = .ok (.iload_n 2, 1) := by decide +kernel
theorem dX2_unlike_15 : decode cX2_unlike 15 = .ok (.invokevirtual 83, 3) := by decide +kernel
theorem dX2_unlike_18 : decode cX2_unlike 18 = .ok (.ifCond .eq 7, 3) := by decide +kernel
theorem dX2_unlike_21 : decode cX2_unlike 21 = .ok (.iconst 0, 1) := by decide +kernel
theorem dX2_unlike_22 : decode cX2_unlike 22 = .ok (.goto 4, 3) := by decide +kernel
theorem dX2_unlike_25 : decode cX2_unlike 25 = .ok (.iconst 1, 1) := by decide +kernel
theorem dX2_unlike_26 : decode cX2_unlike 26 = .ok (.iadd, 1) := by decide +kernel
theorem dX2_unlike_27 : decode cX2_unlike 27 = .ok (.istore_n 1, 1) := by decide +kernel
theorem dX2_unlike_28 : decode cX2_unlike 28 = .ok (.iinc 2 1, 3) := by decide +kernel
theorem dX2_unlike_31 : decode cX2_unlike 31 = .ok (.goto (-27), 3) := by decide +kernel
theorem dX2_unlike_34 : decode cX2_unlike 34 = .ok (.iload_n 1, 1) := by decide +kernel
theorem dX2_unlike_35 : decode cX2_unlike 35 = .ok (.ireturn, 1) := by decide +kernel
set_option maxRecDepth 100000 in
set_option maxHeartbeats 4000000 in
theorem kb_X2_unlike_4 {th : Nat} {w : WX} {st : Int32 × Int32} {r : (Int32 × Int32) ⊕ ((Int32))} {H : Heap} {locs : List Loc} {ls : Array Slot} (C : CX p s m args meth c cX2_unlike 3 RX2 wc_X2_unlike (some .int)) (hth : KDx th = (2, 8)) (hG : Gd s G A 153 B (entX G B w) X H locs) (hl : lv_has ls 3 [(0, .ref (B + th)), (1, .int st.1), (2, .int st.2)]) (hf : sh_X2_unlike_s4 th w st = some r)
    (kL : ∀ st' : Int32 × Int32, r = Sum.inl st' → ∀ (H : Heap) (locs : List Loc) (ls : Array Slot), Gd s G A 153 B (entX G B w) X H locs → lv_has ls 3 [(0, .ref (B + th)), (1, .int st'.1), (2, .int st'.2)] → W p l e rm_X2_unlike s m args below meth c H locs 0 0 Q (F0 m 4 ls []))
    (kX0 : ∀ y' : Int32, r = Sum.inr y' → ∀ (H : Heap) (locs : List Loc) (ls : Array Slot), Gd s G A 153 B (entX G B w) X H locs → lv_has ls 3 [(1, .int y')] → W p l e rm_X2_unlike s m args below meth c H locs 0 0 Q (F0 m 34 ls [])) :
    W p l e rm_X2_unlike s m args below meth c H locs 0 0 Q (F0 m 4 ls []) := by
  refine lv_iload_n C.1 C.2.1 dX2_unlike_4 rfl (lv_at hl 2 rfl) ?_
  refine lv_aload_n C.1 C.2.1 dX2_unlike_5 rfl (lv_at hl 0 rfl) ?_
  refine gf_X2_31 C hG hth dX2_unlike_6 ?_
  rcases of_ite hf with ⟨c1, hf⟩ | ⟨c1, hf⟩
  · refine lv_icmp_ge (tgt := 34) C.1 C.2.1 dX2_unlike_9 (by decide) (fun _ => ?_) (fun q => absurd c1 q)
    obtain rfl := Option.some.inj hf
    exact kX0 _ rfl _ _ _ hG (lv_sub hl [1] rfl)
  · refine lv_icmp_ge (tgt := 34) C.1 C.2.1 dX2_unlike_9 (by decide) (fun q => absurd q c1) (fun _ => ?_)
    refine lv_iload_n C.1 C.2.1 dX2_unlike_12 rfl (lv_at hl 1 rfl) ?_
    refine lv_aload_n C.1 C.2.1 dX2_unlike_13 rfl (lv_at hl 0 rfl) ?_
    refine lv_iload_n C.1 C.2.1 dX2_unlike_14 rfl (lv_at hl 2 rfl) ?_
    obtain ⟨v2, hv2, hf⟩ := of_bind hf
    refine r_callV1 C hG hl.1 (c0 := th) (As := [.int st.2]) (kdx_lt hth (by decide)) (entX_O2 hth) rfl (mt_X2_hasAlikeBefore l hth hv2) (cwV 1 C.2.2.2.2.1 (gd_V tg_3_55 tg_3_57 tgp_13 tg_1_8 tg_3_58) rfl rfl rfl cd_X2_hasAlikeBefore ⟨Nat.le_of_ble_eq_true rfl, Nat.le_of_ble_eq_true rfl⟩) rfl rfl (Nat.le_of_ble_eq_true rfl) dX2_unlike_15 (fun H locs hG => ?_)
    rcases of_ite hf with ⟨c3, hf⟩ | ⟨c3, hf⟩
    · refine lv_if_eq (tgt := 25) C.1 C.2.1 dX2_unlike_18 (by decide) (fun _ => ?_) (fun q => absurd c3 q)
      refine lv_iconst (v := nI 1) C.1 C.2.1 dX2_unlike_25 (by decide) ?_
      refine lv_iadd C.1 C.2.1 dX2_unlike_26 ?_
      obtain ⟨v4, ev4, hf⟩ := of_letv hf
      refine r_top ev4 ?_
      refine lv_istore_n (lv' := [(1, .int v4), (0, .ref (B + th)), (2, .int st.2)]) C.1 C.2.1 dX2_unlike_27 rfl hl (by decide) rfl (fun ls hl => ?_)
      obtain ⟨v5, ev5, hf⟩ := of_letv hf
      refine lv_iinc (v := v5) (lv' := [(2, .int v5), (1, .int v4), (0, .ref (B + th))]) C.1 C.2.1 dX2_unlike_28 hl (k := 2) rfl (by rw [ev5, show Int32.ofInt (1) = nI 1 from by decide]) (by decide) rfl (fun ls hl => ?_)
      refine lv_goto (tgt := 4) C.1 C.2.1 dX2_unlike_31 (by decide) ?_
      obtain rfl := Option.some.inj hf
      exact kL _ rfl _ _ _ hG (lv_sub hl [2, 1, 0] rfl)
    · refine lv_if_eq (tgt := 25) C.1 C.2.1 dX2_unlike_18 (by decide) (fun q => absurd q c3) (fun _ => ?_)
      refine lv_iconst (v := nI 0) C.1 C.2.1 dX2_unlike_21 (by decide) ?_
      refine lv_goto (tgt := 26) C.1 C.2.1 dX2_unlike_22 (by decide) ?_
      refine lv_iadd C.1 C.2.1 dX2_unlike_26 ?_
      obtain ⟨v6, ev6, hf⟩ := of_letv hf
      refine r_top ev6 ?_
      refine lv_istore_n (lv' := [(1, .int v6), (0, .ref (B + th)), (2, .int st.2)]) C.1 C.2.1 dX2_unlike_27 rfl hl (by decide) rfl (fun ls hl => ?_)
      obtain ⟨v7, ev7, hf⟩ := of_letv hf
      refine lv_iinc (v := v7) (lv' := [(2, .int v7), (1, .int v6), (0, .ref (B + th))]) C.1 C.2.1 dX2_unlike_28 hl (k := 2) rfl (by rw [ev7, show Int32.ofInt (1) = nI 1 from by decide]) (by decide) rfl (fun ls hl => ?_)
      refine lv_goto (tgt := 4) C.1 C.2.1 dX2_unlike_31 (by decide) ?_
      obtain rfl := Option.some.inj hf
      exact kL _ rfl _ _ _ hG (lv_sub hl [2, 1, 0] rfl)
set_option maxRecDepth 100000 in
set_option maxHeartbeats 4000000 in
theorem kl_X2_unlike_4 {th : Nat} {w : WX} (C : CX p s m args meth c cX2_unlike 3 RX2 wc_X2_unlike (some .int)) (hth : KDx th = (2, 8)) : ∀ (n : Nat) (st : Int32 × Int32) (x : (Int32)) (H : Heap) (locs : List Loc) (ls : Array Slot), Gd s G A 153 B (entX G B w) X H locs → lv_has ls 3 [(0, .ref (B + th)), (1, .int st.1), (2, .int st.2)] → lpw (sh_X2_unlike_s4 th w) n st = some x →
    (∀ y' : Int32, x = y' → ∀ (H : Heap) (locs : List Loc) (ls : Array Slot), Gd s G A 153 B (entX G B w) X H locs → lv_has ls 3 [(1, .int y')] → W p l e rm_X2_unlike s m args below meth c H locs 0 0 Q (F0 m 34 ls [])) → W p l e rm_X2_unlike s m args below meth c H locs 0 0 Q (F0 m 4 ls []) := by
  intro n
  induction n with
  | zero =>
    intro st x H locs ls hG hl hf
    cases hf
  | succ n ih =>
    intro st x H locs ls hG hl hf kX0
    obtain ⟨r, hr, hh⟩ := of_lpw hf
    refine kb_X2_unlike_4 C hth hG hl hr (fun st2 e1 H locs ls hG hl => ?_) (fun y2 e1 H locs ls hG hl => ?_)
    · rcases hh with ⟨s3, e2, hh⟩ | e2
      · rw [e2] at e1
        cases e1
        exact ih _ _ _ _ _ hG hl hh kX0
      · rw [e2] at e1
        cases e1
    · rcases hh with ⟨s3, e2, hh⟩ | e2
      · rw [e2] at e1
        cases e1
      · rw [e2] at e1
        cases e1
        exact kX0 _ rfl _ _ _ hG hl
set_option maxRecDepth 100000 in
set_option maxHeartbeats 4000000 in
theorem kb_X2_unlike_0 {th : Nat} {w : WX} {out : Int32} {H : Heap} {locs : List Loc} {ls : Array Slot} (C : CX p s m args meth c cX2_unlike 3 RX2 wc_X2_unlike (some .int)) (hth : KDx th = (2, 8)) (hG : Gd s G A 153 B (entX G B w) X H locs) (hl : lv_has ls 3 [(0, .ref (B + th))]) (hf : sh_X2_unlike th w = some out) :
    W p l e rm_X2_unlike s m args below meth c H locs 0 0 (MQ below (CPost G A 153 B (entX G B w) X (some (.int out))) args s 0 0 A) (F0 m 0 ls []) := by
  refine lv_iconst (v := nI 0) C.1 C.2.1 dX2_unlike_0 (by decide) ?_
  refine lv_istore_n (lv' := [(1, .int (nI 0)), (0, .ref (B + th))]) C.1 C.2.1 dX2_unlike_1 rfl hl (by decide) rfl (fun ls hl => ?_)
  refine lv_iconst (v := nI 0) C.1 C.2.1 dX2_unlike_2 (by decide) ?_
  refine lv_istore_n (lv' := [(2, .int (nI 0)), (1, .int (nI 0)), (0, .ref (B + th))]) C.1 C.2.1 dX2_unlike_3 rfl hl (by decide) rfl (fun ls hl => ?_)
  obtain ⟨ex1, hex1, hf⟩ := of_bind hf
  refine kl_X2_unlike_4 C hth FU (nI 0, nI 0) ex1 _ _ _ hG (lv_sub hl [2, 1, 0] rfl) hex1 (fun y e0 H locs ls hG hl => ?_)
  subst e0
  refine lv_iload_n C.1 C.2.1 dX2_unlike_34 rfl (lv_at hl 0 rfl) ?_
  obtain rfl := Option.some.inj hf
  exact r_iret C hG dX2_unlike_35
set_option maxRecDepth 100000 in
set_option maxHeartbeats 4000000 in
theorem mt_X2_unlike (l : Launch) {G : GG} {A : Nat → Prop} {B : Nat} {X : va_W} {th : Nat} {w : WX} {out : Int32} (hth : KDx th = (2, 8)) (hf : sh_X2_unlike th w = some out) : MetW l yX2_unlike wc_X2_unlike rm_X2_unlike G A 153 B (entX G B w) X [.ref (B + th)] (some (.int out)) (entX G B w) := by
  refine Met.ofW (cc := cX2_unlike) (maxL := 3) (ret := (some .int)) (by decide) rfl ?_
  intro p e s m args below meth c s₁ B0 hml hv
  obtain ⟨rfl, hEv, hWd⟩ := hv
  have C : CX p s m _ meth c cX2_unlike 3 RX2 wc_X2_unlike (some .int) := ⟨B0.exec, B0.bytes, hml, findClass_of_methodNamed B0.named, atoms_spec (ws := wc_X2_unlike) B0.pre, B0.returns, B0.notSynchronized⟩
  have hl := lv_entry [.ref (B + th)] (n := 3) (Nat.le_of_ble_eq_true rfl)
  rw [lg_entry_eq]
  generalize (lg_sl [.ref (B + th)] ++ List.replicate (3 - (lg_sl [.ref (B + th)]).length) Slot.unset).toArray = ls at hl ⊢
  have hl : lv_has ls 3 [(0, .ref (B + th))] := hl
  exact kb_X2_unlike_0 C hth ⟨hEv, hWd, va_S.rf⟩ hl hf
abbrev wc_X2_matched : List Cond := Cond.code yX2_matched cX2_matched 5 (some .int) :: TG
abbrev rm_X2_matched : Room := { frames := 3, cells := 0, slots := 0, locals := 123 }
theorem cd_X2_matched : yX2_matched.cls = RX2 ∧ yX2_matched.cls ≠ "java/lang/invoke/MethodHandle" ∧ yX2_matched.cls ≠ "java/lang/invoke/VarHandle" ∧ (parseMethodDescriptor yX2_matched.desc).map (fun d => d.parameters.length) = some 1 := by decide +kernel
theorem dX2_matched_0 : decode cX2_matched 0 = .ok (.iconst 0, 1) := by decide +kernel
theorem dX2_matched_1 : decode cX2_matched 1 = .ok (.istore_n 2, 1) := by decide +kernel
theorem dX2_matched_2 : decode cX2_matched 2 = .ok (.iconst 0, 1) := by decide +kernel
theorem dX2_matched_3 : decode cX2_matched 3 = .ok (.istore_n 3, 1) := by decide +kernel
theorem dX2_matched_4 : decode cX2_matched 4 = .ok (.iload_n 3, 1) := by decide +kernel
theorem dX2_matched_5 : decode cX2_matched 5 = .ok (.aload_n 1, 1) := by decide +kernel
theorem dX2_matched_6 : decode cX2_matched 6 = .ok (.getfield 31, 3) := by decide +kernel
theorem dX2_matched_9 : decode cX2_matched 9 = .ok (.if_icmp .ge 16, 3) := by decide +kernel
theorem dX2_matched_12 : decode cX2_matched 12 = .ok (.aload_n 0, 1) := by decide +kernel
theorem dX2_matched_13 : decode cX2_matched 13 = .ok (.getfield 28, 3) := by decide +kernel
theorem dX2_matched_16 : decode cX2_matched 16 = .ok (.iload_n 3, 1) := by decide +kernel
theorem dX2_matched_17 : decode cX2_matched 17 = .ok (.iconst 0, 1) := by decide +kernel
theorem dX2_matched_18 : decode cX2_matched 18 = .ok (.bastore, 1) := by decide +kernel
theorem dX2_matched_19 : decode cX2_matched 19 = .ok (.iinc 3 1, 3) := by decide +kernel
theorem dX2_matched_22 : decode cX2_matched 22 = .ok (.goto (-18), 3) := by decide +kernel
theorem dX2_matched_25 : decode cX2_matched 25 = .ok (.iconst 0, 1) := by decide +kernel
theorem dX2_matched_26 : decode cX2_matched 26 = .ok (.istore_n 3, 1) := by decide +kernel
theorem dX2_matched_27 : decode cX2_matched 27 = .ok (.iload_n 3, 1) := by decide +kernel
theorem dX2_matched_28 : decode cX2_matched 28 = .ok (.aload_n 0, 1) := by decide +kernel
theorem dX2_matched_29 : decode cX2_matched 29 = .ok (.getfield 31, 3) := by decide +kernel
theorem dX2_matched_32 : decode cX2_matched 32 = .ok (.if_icmp .ge 68, 3) := by decide +kernel
theorem dX2_matched_35 : decode cX2_matched 35 = .ok (.iconst 0, 1) := by decide +kernel
theorem dX2_matched_36 : decode cX2_matched 36 = .ok (.istore 4, 2) := by decide +kernel
theorem dX2_matched_38 : decode cX2_matched 38 = .ok (.iload 4, 2) := by decide +kernel
theorem dX2_matched_40 : decode cX2_matched 40 = .ok (.aload_n 1, 1) := by decide +kernel
theorem dX2_matched_41 : decode cX2_matched 41 = .ok (.getfield 31, 3) := by decide +kernel
theorem dX2_matched_44 : decode cX2_matched 44 = .ok (.if_icmp .ge 30, 3) := by decide +kernel
theorem dX2_matched_47 : decode cX2_matched 47 = .ok (.aload_n 0, 1) := by decide +kernel
theorem dX2_matched_48 : decode cX2_matched 48 = .ok (.getfield 28, 3) := by decide +kernel
theorem dX2_matched_51 : decode cX2_matched 51 = .ok (.iload 4, 2) := by decide +kernel
theorem dX2_matched_53 : decode cX2_matched 53 = .ok (.baload, 1) := by decide +kernel
theorem dX2_matched_54 : decode cX2_matched 54 = .ok (.ifCond .ne 14, 3) := by decide +kernel
theorem dX2_matched_57 : decode cX2_matched 57 = .ok (.aload_n 0, 1) := by decide +kernel
theorem dX2_matched_58 : decode cX2_matched 58 = .ok (.iload_n 3, 1) := by decide +kernel
theorem dX2_matched_59 : decode cX2_matched 59 = .ok (.aload_n 1, 1) := by decide +kernel
theorem dX2_matched_60 : decode cX2_matched 60 = .ok (.iload 4, 2) := by decide +kernel
theorem dX2_matched_62 : decode cX2_matched 62 = .ok (.invokevirtual 87, 3) := by decide +kernel
theorem dX2_matched_65 : decode cX2_matched 65 = .ok (.ifCond .ne 9, 3) := by decide +kernel
theorem dX2_matched_68 : decode cX2_matched 68 = .ok (.iinc 4 1, 3) := by decide +kernel
theorem dX2_matched_71 : decode cX2_matched 71 = .ok (.goto (-33), 3) := by decide +kernel
theorem dX2_matched_74 : decode cX2_matched 74 = .ok (.iload 4, 2) := by decide +kernel
theorem dX2_matched_76 : decode cX2_matched 76 = .ok (.aload_n 1, 1) := by decide +kernel
theorem dX2_matched_77 : decode cX2_matched 77 = .ok (.getfield 31, 3) := by decide +kernel
theorem dX2_matched_80 : decode cX2_matched 80 = .ok (.if_icmp .ge 14, 3) := by decide +kernel
theorem dX2_matched_83 : decode cX2_matched 83 = .ok (.aload_n 0, 1) := by decide +kernel
theorem dX2_matched_84 : decode cX2_matched 84 = .ok (.getfield 28, 3) := by decide +kernel
theorem dX2_matched_87 : decode cX2_matched 87 = .ok (.iload 4, 2) := by decide +kernel
theorem dX2_matched_89 : decode cX2_matched 89 = .ok (.iconst 1, 1) := by decide +kernel
theorem dX2_matched_90 : decode cX2_matched 90 = .ok (.bastore, 1) := by decide +kernel
theorem dX2_matched_91 : decode cX2_matched 91 = .ok (.iinc 2 1, 3) := by decide +kernel
theorem dX2_matched_94 : decode cX2_matched 94 = .ok (.iinc 3 1, 3) := by decide +kernel
theorem dX2_matched_97 : decode cX2_matched 97 = .ok (.goto (-70), 3) := by decide +kernel
theorem dX2_matched_100 : decode cX2_matched 100 = .ok (.iload_n 2, 1) := by decide +kernel
theorem dX2_matched_101 : decode cX2_matched 101 = .ok (.ireturn, 1) := by decide +kernel
set_option maxRecDepth 100000 in
set_option maxHeartbeats 4000000 in
theorem kb_X2_matched_4 {th : Nat} {x1 : Nat} {x2 : Int32} {st : Int32 × WX} {r : (Int32 × WX) ⊕ ((WX))} {H : Heap} {locs : List Loc} {ls : Array Slot} (C : CX p s m args meth c cX2_matched 5 RX2 wc_X2_matched (some .int)) (hth : KDx th = (2, 8)) (h1 : KDx x1 = (2, 8)) (hG : Gd s G A 153 B (entX G B st.2) X H locs) (hl : lv_has ls 5 [(0, .ref (B + th)), (1, .ref (B + x1)), (2, .int x2), (3, .int st.1)]) (hf : sh_X2_matched_s4 th x1 x2 st = some r)
    (kL : ∀ st' : Int32 × WX, r = Sum.inl st' → ∀ (H : Heap) (locs : List Loc) (ls : Array Slot), Gd s G A 153 B (entX G B st'.2) X H locs → lv_has ls 5 [(0, .ref (B + th)), (1, .ref (B + x1)), (2, .int x2), (3, .int st'.1)] → W p l e rm_X2_matched s m args below meth c H locs 0 0 Q (F0 m 4 ls []))
    (kX0 : ∀ y' : WX, r = Sum.inr y' → ∀ (H : Heap) (locs : List Loc) (ls : Array Slot), Gd s G A 153 B (entX G B y') X H locs → lv_has ls 5 [(0, .ref (B + th)), (1, .ref (B + x1)), (2, .int x2)] → W p l e rm_X2_matched s m args below meth c H locs 0 0 Q (F0 m 25 ls [])) :
    W p l e rm_X2_matched s m args below meth c H locs 0 0 Q (F0 m 4 ls []) := by
  refine lv_iload_n C.1 C.2.1 dX2_matched_4 rfl (lv_at hl 3 rfl) ?_
  refine lv_aload_n C.1 C.2.1 dX2_matched_5 rfl (lv_at hl 1 rfl) ?_
  refine gf_X2_31 C hG h1 dX2_matched_6 ?_
  rcases of_ite hf with ⟨c1, hf⟩ | ⟨c1, hf⟩
  · refine lv_icmp_ge (tgt := 25) C.1 C.2.1 dX2_matched_9 (by decide) (fun _ => ?_) (fun q => absurd c1 q)
    obtain rfl := Option.some.inj hf
    exact kX0 _ rfl _ _ _ hG (lv_sub hl [0, 1, 2] rfl)
  · refine lv_icmp_ge (tgt := 25) C.1 C.2.1 dX2_matched_9 (by decide) (fun q => absurd q c1) (fun _ => ?_)
    refine lv_aload_n C.1 C.2.1 dX2_matched_12 rfl (lv_at hl 0 rfl) ?_
    refine gf_X2_28 C hG hth dX2_matched_13 ?_
    refine lv_iload_n C.1 C.2.1 dX2_matched_16 rfl (lv_at hl 3 rfl) ?_
    refine lv_iconst (v := nI 0) C.1 C.2.1 dX2_matched_17 (by decide) ?_
    obtain ⟨w2, hw2, hf⟩ := of_bind hf
    obtain ⟨bw2, ew2⟩ := of_stX hw2
    refine r_zast C hG (c0 := (th + 6)) (kdx_lt (kx_2_7 hth) (by decide)) (entX_Z (kx_2_7 hth)) (Or.inl rfl) bw2 (E' := (entX G B w2)) (by rw [ew2]; exact upX_Z (kx_2_7 hth)) dX2_matched_18 (fun H locs hG => ?_)
    obtain ⟨v3, ev3, hf⟩ := of_letv hf
    refine lv_iinc (v := v3) (lv' := [(3, .int v3), (0, .ref (B + th)), (1, .ref (B + x1)), (2, .int x2)]) C.1 C.2.1 dX2_matched_19 hl (k := 3) rfl (by rw [ev3, show Int32.ofInt (1) = nI 1 from by decide]) (by decide) rfl (fun ls hl => ?_)
    refine lv_goto (tgt := 4) C.1 C.2.1 dX2_matched_22 (by decide) ?_
    obtain rfl := Option.some.inj hf
    exact kL _ rfl _ _ _ hG (lv_sub hl [1, 2, 3, 0] rfl)
set_option maxRecDepth 100000 in
set_option maxHeartbeats 4000000 in
theorem kl_X2_matched_4 {th : Nat} {x1 : Nat} {x2 : Int32} (C : CX p s m args meth c cX2_matched 5 RX2 wc_X2_matched (some .int)) (hth : KDx th = (2, 8)) (h1 : KDx x1 = (2, 8)) : ∀ (n : Nat) (st : Int32 × WX) (x : (WX)) (H : Heap) (locs : List Loc) (ls : Array Slot), Gd s G A 153 B (entX G B st.2) X H locs → lv_has ls 5 [(0, .ref (B + th)), (1, .ref (B + x1)), (2, .int x2), (3, .int st.1)] → lpw (sh_X2_matched_s4 th x1 x2) n st = some x →
    (∀ y' : WX, x = y' → ∀ (H : Heap) (locs : List Loc) (ls : Array Slot), Gd s G A 153 B (entX G B y') X H locs → lv_has ls 5 [(0, .ref (B + th)), (1, .ref (B + x1)), (2, .int x2)] → W p l e rm_X2_matched s m args below meth c H locs 0 0 Q (F0 m 25 ls [])) → W p l e rm_X2_matched s m args below meth c H locs 0 0 Q (F0 m 4 ls []) := by
  intro n
  induction n with
  | zero =>
    intro st x H locs ls hG hl hf
    cases hf
  | succ n ih =>
    intro st x H locs ls hG hl hf kX0
    obtain ⟨r, hr, hh⟩ := of_lpw hf
    refine kb_X2_matched_4 C hth h1 hG hl hr (fun st2 e1 H locs ls hG hl => ?_) (fun y2 e1 H locs ls hG hl => ?_)
    · rcases hh with ⟨s3, e2, hh⟩ | e2
      · rw [e2] at e1
        cases e1
        exact ih _ _ _ _ _ hG hl hh kX0
      · rw [e2] at e1
        cases e1
    · rcases hh with ⟨s3, e2, hh⟩ | e2
      · rw [e2] at e1
        cases e1
      · rw [e2] at e1
        cases e1
        exact kX0 _ rfl _ _ _ hG hl
set_option maxRecDepth 100000 in
set_option maxHeartbeats 4000000 in
theorem kb_X2_matched_38 {th : Nat} {x1 : Nat} {x2 : Int32} {x3 : Int32} {w : WX} {st : Int32} {r : (Int32) ⊕ ((Int32))} {H : Heap} {locs : List Loc} {ls : Array Slot} (C : CX p s m args meth c cX2_matched 5 RX2 wc_X2_matched (some .int)) (hth : KDx th = (2, 8)) (h1 : KDx x1 = (2, 8)) (hG : Gd s G A 153 B (entX G B w) X H locs) (hl : lv_has ls 5 [(0, .ref (B + th)), (1, .ref (B + x1)), (2, .int x2), (3, .int x3), (4, .int st)]) (hf : sh_X2_matched_s38 th x1 x2 x3 w st = some r)
    (kL : ∀ st' : Int32, r = Sum.inl st' → ∀ (H : Heap) (locs : List Loc) (ls : Array Slot), Gd s G A 153 B (entX G B w) X H locs → lv_has ls 5 [(0, .ref (B + th)), (1, .ref (B + x1)), (2, .int x2), (3, .int x3), (4, .int st')] → W p l e rm_X2_matched s m args below meth c H locs 0 0 Q (F0 m 38 ls []))
    (kX0 : ∀ y' : Int32, r = Sum.inr y' → ∀ (H : Heap) (locs : List Loc) (ls : Array Slot), Gd s G A 153 B (entX G B w) X H locs → lv_has ls 5 [(0, .ref (B + th)), (1, .ref (B + x1)), (2, .int x2), (3, .int x3), (4, .int y')] → W p l e rm_X2_matched s m args below meth c H locs 0 0 Q (F0 m 74 ls [])) :
    W p l e rm_X2_matched s m args below meth c H locs 0 0 Q (F0 m 38 ls []) := by
  refine lv_iload C.1 C.2.1 dX2_matched_38 (lv_at hl 4 rfl) ?_
  refine lv_aload_n C.1 C.2.1 dX2_matched_40 rfl (lv_at hl 1 rfl) ?_
  refine gf_X2_31 C hG h1 dX2_matched_41 ?_
  rcases of_ite hf with ⟨c1, hf⟩ | ⟨c1, hf⟩
  · refine lv_icmp_ge (tgt := 74) C.1 C.2.1 dX2_matched_44 (by decide) (fun _ => ?_) (fun q => absurd c1 q)
    obtain rfl := Option.some.inj hf
    exact kX0 _ rfl _ _ _ hG hl
  · refine lv_icmp_ge (tgt := 74) C.1 C.2.1 dX2_matched_44 (by decide) (fun q => absurd q c1) (fun _ => ?_)
    refine lv_aload_n C.1 C.2.1 dX2_matched_47 rfl (lv_at hl 0 rfl) ?_
    refine gf_X2_28 C hG hth dX2_matched_48 ?_
    refine lv_iload C.1 C.2.1 dX2_matched_51 (lv_at hl 4 rfl) ?_
    obtain ⟨v2, hv2, hf⟩ := of_bind hf
    obtain ⟨bv2, ev2⟩ := of_ldS hv2
    refine r_zald C hG (c0 := (th + 6)) (kdx_lt (kx_2_7 hth) (by decide)) (entX_Z (kx_2_7 hth)) bv2 dX2_matched_53 ?_
    refine r_top ev2 ?_
    rcases of_ite hf with ⟨c3, hf⟩ | ⟨c3, hf⟩
    · refine lv_if_ne (tgt := 68) C.1 C.2.1 dX2_matched_54 (by decide) (fun q => absurd c3 q) (fun _ => ?_)
      refine lv_aload_n C.1 C.2.1 dX2_matched_57 rfl (lv_at hl 0 rfl) ?_
      refine lv_iload_n C.1 C.2.1 dX2_matched_58 rfl (lv_at hl 3 rfl) ?_
      refine lv_aload_n C.1 C.2.1 dX2_matched_59 rfl (lv_at hl 1 rfl) ?_
      refine lv_iload C.1 C.2.1 dX2_matched_60 (lv_at hl 4 rfl) ?_
      obtain ⟨v5, hv5, hf⟩ := of_bind hf
      refine r_callV1 C hG hl.1 (c0 := th) (As := [.int x3, .ref (B + x1), .int st]) (kdx_lt hth (by decide)) (entX_O2 hth) rfl (mt_X2_areAlike l hth h1 hv5) (cwV 3 C.2.2.2.2.1 (gd_V tg_3_59 tg_3_61 tgp_14 tg_1_8 tg_3_62) rfl rfl rfl cd_X2_areAlike ⟨Nat.le_of_ble_eq_true rfl, Nat.le_of_ble_eq_true rfl⟩) rfl rfl (Nat.le_of_ble_eq_true rfl) dX2_matched_62 (fun H locs hG => ?_)
      rcases of_ite hf with ⟨c6, hf⟩ | ⟨c6, hf⟩
      · refine lv_if_ne (tgt := 74) C.1 C.2.1 dX2_matched_65 (by decide) (fun q => absurd c6 q) (fun _ => ?_)
        obtain ⟨v7, ev7, hf⟩ := of_letv hf
        refine lv_iinc (v := v7) (lv' := [(4, .int v7), (0, .ref (B + th)), (1, .ref (B + x1)), (2, .int x2), (3, .int x3)]) C.1 C.2.1 dX2_matched_68 hl (k := 4) rfl (by rw [ev7, show Int32.ofInt (1) = nI 1 from by decide]) (by decide) rfl (fun ls hl => ?_)
        refine lv_goto (tgt := 38) C.1 C.2.1 dX2_matched_71 (by decide) ?_
        obtain rfl := Option.some.inj hf
        exact kL _ rfl _ _ _ hG (lv_sub hl [1, 2, 3, 4, 0] rfl)
      · refine lv_if_ne (tgt := 74) C.1 C.2.1 dX2_matched_65 (by decide) (fun _ => ?_) (fun q => absurd q c6)
        obtain rfl := Option.some.inj hf
        exact kX0 _ rfl _ _ _ hG hl
    · refine lv_if_ne (tgt := 68) C.1 C.2.1 dX2_matched_54 (by decide) (fun _ => ?_) (fun q => absurd q c3)
      obtain ⟨v4, ev4, hf⟩ := of_letv hf
      refine lv_iinc (v := v4) (lv' := [(4, .int v4), (0, .ref (B + th)), (1, .ref (B + x1)), (2, .int x2), (3, .int x3)]) C.1 C.2.1 dX2_matched_68 hl (k := 4) rfl (by rw [ev4, show Int32.ofInt (1) = nI 1 from by decide]) (by decide) rfl (fun ls hl => ?_)
      refine lv_goto (tgt := 38) C.1 C.2.1 dX2_matched_71 (by decide) ?_
      obtain rfl := Option.some.inj hf
      exact kL _ rfl _ _ _ hG (lv_sub hl [1, 2, 3, 4, 0] rfl)
set_option maxRecDepth 100000 in
set_option maxHeartbeats 4000000 in
theorem kl_X2_matched_38 {th : Nat} {x1 : Nat} {x2 : Int32} {x3 : Int32} {w : WX} (C : CX p s m args meth c cX2_matched 5 RX2 wc_X2_matched (some .int)) (hth : KDx th = (2, 8)) (h1 : KDx x1 = (2, 8)) : ∀ (n : Nat) (st : Int32) (x : (Int32)) (H : Heap) (locs : List Loc) (ls : Array Slot), Gd s G A 153 B (entX G B w) X H locs → lv_has ls 5 [(0, .ref (B + th)), (1, .ref (B + x1)), (2, .int x2), (3, .int x3), (4, .int st)] → lpw (sh_X2_matched_s38 th x1 x2 x3 w) n st = some x →
    (∀ y' : Int32, x = y' → ∀ (H : Heap) (locs : List Loc) (ls : Array Slot), Gd s G A 153 B (entX G B w) X H locs → lv_has ls 5 [(0, .ref (B + th)), (1, .ref (B + x1)), (2, .int x2), (3, .int x3), (4, .int y')] → W p l e rm_X2_matched s m args below meth c H locs 0 0 Q (F0 m 74 ls [])) → W p l e rm_X2_matched s m args below meth c H locs 0 0 Q (F0 m 38 ls []) := by
  intro n
  induction n with
  | zero =>
    intro st x H locs ls hG hl hf
    cases hf
  | succ n ih =>
    intro st x H locs ls hG hl hf kX0
    obtain ⟨r, hr, hh⟩ := of_lpw hf
    refine kb_X2_matched_38 C hth h1 hG hl hr (fun st2 e1 H locs ls hG hl => ?_) (fun y2 e1 H locs ls hG hl => ?_)
    · rcases hh with ⟨s3, e2, hh⟩ | e2
      · rw [e2] at e1
        cases e1
        exact ih _ _ _ _ _ hG hl hh kX0
      · rw [e2] at e1
        cases e1
    · rcases hh with ⟨s3, e2, hh⟩ | e2
      · rw [e2] at e1
        cases e1
      · rw [e2] at e1
        cases e1
        exact kX0 _ rfl _ _ _ hG hl
set_option maxRecDepth 100000 in
set_option maxHeartbeats 4000000 in
theorem kb_X2_matched_74 {th : Nat} {x1 : Nat} {x2 : Int32} {x3 : Int32} {x4 : Int32} {w : WX} {r : (Int32 × Int32 × WX) ⊕ ((Int32 × WX))} {H : Heap} {locs : List Loc} {ls : Array Slot} (C : CX p s m args meth c cX2_matched 5 RX2 wc_X2_matched (some .int)) (hth : KDx th = (2, 8)) (h1 : KDx x1 = (2, 8)) (hG : Gd s G A 153 B (entX G B w) X H locs) (hl : lv_has ls 5 [(0, .ref (B + th)), (1, .ref (B + x1)), (2, .int x2), (3, .int x3), (4, .int x4)]) (hf : sh_X2_matched_j74 th x1 x2 x3 x4 w = some r)
    (kL : ∀ st' : Int32 × Int32 × WX, r = Sum.inl st' → ∀ (H : Heap) (locs : List Loc) (ls : Array Slot), Gd s G A 153 B (entX G B st'.2.2) X H locs → lv_has ls 5 [(0, .ref (B + th)), (1, .ref (B + x1)), (2, .int st'.1), (3, .int st'.2.1)] → W p l e rm_X2_matched s m args below meth c H locs 0 0 Q (F0 m 27 ls []))
    (kX0 : ∀ y' : Int32 × WX, r = Sum.inr y' → ∀ (H : Heap) (locs : List Loc) (ls : Array Slot), Gd s G A 153 B (entX G B y'.2) X H locs → lv_has ls 5 [(2, .int y'.1)] → W p l e rm_X2_matched s m args below meth c H locs 0 0 Q (F0 m 100 ls [])) :
    W p l e rm_X2_matched s m args below meth c H locs 0 0 Q (F0 m 74 ls []) := by
  refine lv_iload C.1 C.2.1 dX2_matched_74 (lv_at hl 4 rfl) ?_
  refine lv_aload_n C.1 C.2.1 dX2_matched_76 rfl (lv_at hl 1 rfl) ?_
  refine gf_X2_31 C hG h1 dX2_matched_77 ?_
  rcases of_ite hf with ⟨c1, hf⟩ | ⟨c1, hf⟩
  · refine lv_icmp_ge (tgt := 94) C.1 C.2.1 dX2_matched_80 (by decide) (fun _ => ?_) (fun q => absurd c1 q)
    obtain ⟨v2, ev2, hf⟩ := of_letv hf
    refine lv_iinc (v := v2) (lv' := [(3, .int v2), (0, .ref (B + th)), (1, .ref (B + x1)), (2, .int x2), (4, .int x4)]) C.1 C.2.1 dX2_matched_94 hl (k := 3) rfl (by rw [ev2, show Int32.ofInt (1) = nI 1 from by decide]) (by decide) rfl (fun ls hl => ?_)
    refine lv_goto (tgt := 27) C.1 C.2.1 dX2_matched_97 (by decide) ?_
    obtain rfl := Option.some.inj hf
    exact kL _ rfl _ _ _ hG (lv_sub hl [1, 2, 3, 0] rfl)
  · refine lv_icmp_ge (tgt := 94) C.1 C.2.1 dX2_matched_80 (by decide) (fun q => absurd q c1) (fun _ => ?_)
    refine lv_aload_n C.1 C.2.1 dX2_matched_83 rfl (lv_at hl 0 rfl) ?_
    refine gf_X2_28 C hG hth dX2_matched_84 ?_
    refine lv_iload C.1 C.2.1 dX2_matched_87 (lv_at hl 4 rfl) ?_
    refine lv_iconst (v := nI 1) C.1 C.2.1 dX2_matched_89 (by decide) ?_
    obtain ⟨w3, hw3, hf⟩ := of_bind hf
    obtain ⟨bw3, ew3⟩ := of_stX hw3
    refine r_zast C hG (c0 := (th + 6)) (kdx_lt (kx_2_7 hth) (by decide)) (entX_Z (kx_2_7 hth)) (Or.inr rfl) bw3 (E' := (entX G B w3)) (by rw [ew3]; exact upX_Z (kx_2_7 hth)) dX2_matched_90 (fun H locs hG => ?_)
    obtain ⟨v4, ev4, hf⟩ := of_letv hf
    refine lv_iinc (v := v4) (lv' := [(2, .int v4), (0, .ref (B + th)), (1, .ref (B + x1)), (3, .int x3), (4, .int x4)]) C.1 C.2.1 dX2_matched_91 hl (k := 2) rfl (by rw [ev4, show Int32.ofInt (1) = nI 1 from by decide]) (by decide) rfl (fun ls hl => ?_)
    obtain ⟨v5, ev5, hf⟩ := of_letv hf
    refine lv_iinc (v := v5) (lv' := [(3, .int v5), (2, .int v4), (0, .ref (B + th)), (1, .ref (B + x1)), (4, .int x4)]) C.1 C.2.1 dX2_matched_94 hl (k := 3) rfl (by rw [ev5, show Int32.ofInt (1) = nI 1 from by decide]) (by decide) rfl (fun ls hl => ?_)
    refine lv_goto (tgt := 27) C.1 C.2.1 dX2_matched_97 (by decide) ?_
    obtain rfl := Option.some.inj hf
    exact kL _ rfl _ _ _ hG (lv_sub hl [2, 3, 1, 0] rfl)
set_option maxRecDepth 100000 in
set_option maxHeartbeats 4000000 in
theorem kb_X2_matched_27 {th : Nat} {x1 : Nat} {st : Int32 × Int32 × WX} {r : (Int32 × Int32 × WX) ⊕ ((Int32 × WX))} {H : Heap} {locs : List Loc} {ls : Array Slot} (C : CX p s m args meth c cX2_matched 5 RX2 wc_X2_matched (some .int)) (hth : KDx th = (2, 8)) (h1 : KDx x1 = (2, 8)) (hG : Gd s G A 153 B (entX G B st.2.2) X H locs) (hl : lv_has ls 5 [(0, .ref (B + th)), (1, .ref (B + x1)), (2, .int st.1), (3, .int st.2.1)]) (hf : sh_X2_matched_s27 th x1 st = some r)
    (kL : ∀ st' : Int32 × Int32 × WX, r = Sum.inl st' → ∀ (H : Heap) (locs : List Loc) (ls : Array Slot), Gd s G A 153 B (entX G B st'.2.2) X H locs → lv_has ls 5 [(0, .ref (B + th)), (1, .ref (B + x1)), (2, .int st'.1), (3, .int st'.2.1)] → W p l e rm_X2_matched s m args below meth c H locs 0 0 Q (F0 m 27 ls []))
    (kX0 : ∀ y' : Int32 × WX, r = Sum.inr y' → ∀ (H : Heap) (locs : List Loc) (ls : Array Slot), Gd s G A 153 B (entX G B y'.2) X H locs → lv_has ls 5 [(2, .int y'.1)] → W p l e rm_X2_matched s m args below meth c H locs 0 0 Q (F0 m 100 ls [])) :
    W p l e rm_X2_matched s m args below meth c H locs 0 0 Q (F0 m 27 ls []) := by
  refine lv_iload_n C.1 C.2.1 dX2_matched_27 rfl (lv_at hl 3 rfl) ?_
  refine lv_aload_n C.1 C.2.1 dX2_matched_28 rfl (lv_at hl 0 rfl) ?_
  refine gf_X2_31 C hG hth dX2_matched_29 ?_
  rcases of_ite hf with ⟨c1, hf⟩ | ⟨c1, hf⟩
  · refine lv_icmp_ge (tgt := 100) C.1 C.2.1 dX2_matched_32 (by decide) (fun _ => ?_) (fun q => absurd c1 q)
    obtain rfl := Option.some.inj hf
    exact kX0 _ rfl _ _ _ hG (lv_sub hl [2] rfl)
  · refine lv_icmp_ge (tgt := 100) C.1 C.2.1 dX2_matched_32 (by decide) (fun q => absurd q c1) (fun _ => ?_)
    refine lv_iconst (v := nI 0) C.1 C.2.1 dX2_matched_35 (by decide) ?_
    refine lv_istore (lv' := [(4, .int (nI 0)), (0, .ref (B + th)), (1, .ref (B + x1)), (2, .int st.1), (3, .int st.2.1)]) C.1 C.2.1 dX2_matched_36 hl (by decide) rfl (fun ls hl => ?_)
    obtain ⟨ex2, hex2, hf⟩ := of_bind hf
    refine kl_X2_matched_38 C hth h1 FU (nI 0) ex2 _ _ _ hG (lv_sub hl [1, 2, 3, 4, 0] rfl) hex2 (fun y e0 H locs ls hG hl => ?_)
    subst e0
    exact kb_X2_matched_74 C hth h1 hG hl hf kL kX0
set_option maxRecDepth 100000 in
set_option maxHeartbeats 4000000 in
theorem kl_X2_matched_27 {th : Nat} {x1 : Nat} (C : CX p s m args meth c cX2_matched 5 RX2 wc_X2_matched (some .int)) (hth : KDx th = (2, 8)) (h1 : KDx x1 = (2, 8)) : ∀ (n : Nat) (st : Int32 × Int32 × WX) (x : (Int32 × WX)) (H : Heap) (locs : List Loc) (ls : Array Slot), Gd s G A 153 B (entX G B st.2.2) X H locs → lv_has ls 5 [(0, .ref (B + th)), (1, .ref (B + x1)), (2, .int st.1), (3, .int st.2.1)] → lpw (sh_X2_matched_s27 th x1) n st = some x →
    (∀ y' : Int32 × WX, x = y' → ∀ (H : Heap) (locs : List Loc) (ls : Array Slot), Gd s G A 153 B (entX G B y'.2) X H locs → lv_has ls 5 [(2, .int y'.1)] → W p l e rm_X2_matched s m args below meth c H locs 0 0 Q (F0 m 100 ls [])) → W p l e rm_X2_matched s m args below meth c H locs 0 0 Q (F0 m 27 ls []) := by
  intro n
  induction n with
  | zero =>
    intro st x H locs ls hG hl hf
    cases hf
  | succ n ih =>
    intro st x H locs ls hG hl hf kX0
    obtain ⟨r, hr, hh⟩ := of_lpw hf
    refine kb_X2_matched_27 C hth h1 hG hl hr (fun st2 e1 H locs ls hG hl => ?_) (fun y2 e1 H locs ls hG hl => ?_)
    · rcases hh with ⟨s3, e2, hh⟩ | e2
      · rw [e2] at e1
        cases e1
        exact ih _ _ _ _ _ hG hl hh kX0
      · rw [e2] at e1
        cases e1
    · rcases hh with ⟨s3, e2, hh⟩ | e2
      · rw [e2] at e1
        cases e1
      · rw [e2] at e1
        cases e1
        exact kX0 _ rfl _ _ _ hG hl
set_option maxRecDepth 100000 in
set_option maxHeartbeats 4000000 in
theorem kb_X2_matched_0 {th : Nat} {x1 : Nat} {w : WX} {out : Int32 × WX} {H : Heap} {locs : List Loc} {ls : Array Slot} (C : CX p s m args meth c cX2_matched 5 RX2 wc_X2_matched (some .int)) (hth : KDx th = (2, 8)) (h1 : KDx x1 = (2, 8)) (hG : Gd s G A 153 B (entX G B w) X H locs) (hl : lv_has ls 5 [(0, .ref (B + th)), (1, .ref (B + x1))]) (hf : sh_X2_matched th x1 w = some out) :
    W p l e rm_X2_matched s m args below meth c H locs 0 0 (MQ below (CPost G A 153 B (entX G B out.2) X (some (.int out.1))) args s 0 0 A) (F0 m 0 ls []) := by
  refine lv_iconst (v := nI 0) C.1 C.2.1 dX2_matched_0 (by decide) ?_
  refine lv_istore_n (lv' := [(2, .int (nI 0)), (0, .ref (B + th)), (1, .ref (B + x1))]) C.1 C.2.1 dX2_matched_1 rfl hl (by decide) rfl (fun ls hl => ?_)
  refine lv_iconst (v := nI 0) C.1 C.2.1 dX2_matched_2 (by decide) ?_
  refine lv_istore_n (lv' := [(3, .int (nI 0)), (2, .int (nI 0)), (0, .ref (B + th)), (1, .ref (B + x1))]) C.1 C.2.1 dX2_matched_3 rfl hl (by decide) rfl (fun ls hl => ?_)
  obtain ⟨ex1, hex1, hf⟩ := of_bind hf
  refine kl_X2_matched_4 C hth h1 FU (nI 0, w) ex1 _ _ _ hG (lv_sub hl [2, 3, 1, 0] rfl) hex1 (fun y e0 H locs ls hG hl => ?_)
  subst e0
  refine lv_iconst (v := nI 0) C.1 C.2.1 dX2_matched_25 (by decide) ?_
  refine lv_istore_n (lv' := [(3, .int (nI 0)), (0, .ref (B + th)), (1, .ref (B + x1)), (2, .int (nI 0))]) C.1 C.2.1 dX2_matched_26 rfl hl (by decide) rfl (fun ls hl => ?_)
  obtain ⟨ex2, hex2, hf⟩ := of_bind hf
  refine kl_X2_matched_27 C hth h1 FU (nI 0, nI 0, ex1) ex2 _ _ _ hG (lv_sub hl [1, 2, 3, 0] rfl) hex2 (fun y e0 H locs ls hG hl => ?_)
  subst e0
  refine lv_iload_n C.1 C.2.1 dX2_matched_100 rfl (lv_at hl 0 rfl) ?_
  obtain rfl := Option.some.inj hf
  exact r_iret C hG dX2_matched_101
set_option maxRecDepth 100000 in
set_option maxHeartbeats 4000000 in
theorem mt_X2_matched (l : Launch) {G : GG} {A : Nat → Prop} {B : Nat} {X : va_W} {th : Nat} {x1 : Nat} {w : WX} {out : Int32 × WX} (hth : KDx th = (2, 8)) (h1 : KDx x1 = (2, 8)) (hf : sh_X2_matched th x1 w = some out) : MetW l yX2_matched wc_X2_matched rm_X2_matched G A 153 B (entX G B w) X [.ref (B + th), .ref (B + x1)] (some (.int out.1)) (entX G B out.2) := by
  refine Met.ofW (cc := cX2_matched) (maxL := 5) (ret := (some .int)) (by decide) rfl ?_
  intro p e s m args below meth c s₁ B0 hml hv
  obtain ⟨rfl, hEv, hWd⟩ := hv
  have C : CX p s m _ meth c cX2_matched 5 RX2 wc_X2_matched (some .int) := ⟨B0.exec, B0.bytes, hml, findClass_of_methodNamed B0.named, atoms_spec (ws := wc_X2_matched) B0.pre, B0.returns, B0.notSynchronized⟩
  have hl := lv_entry [.ref (B + th), .ref (B + x1)] (n := 5) (Nat.le_of_ble_eq_true rfl)
  rw [lg_entry_eq]
  generalize (lg_sl [.ref (B + th), .ref (B + x1)] ++ List.replicate (5 - (lg_sl [.ref (B + th), .ref (B + x1)]).length) Slot.unset).toArray = ls at hl ⊢
  have hl : lv_has ls 5 [(0, .ref (B + th)), (1, .ref (B + x1))] := hl
  exact kb_X2_matched_0 C hth h1 ⟨hEv, hWd, va_S.rf⟩ hl hf
abbrev wc_X3_canTell : List Cond := Cond.code yX3_canTell cX3_canTell 2 (some .boolean) :: TG
abbrev rm_X3_canTell : Room := { frames := 2, cells := 0, slots := 0, locals := 100 }
theorem cd_X3_canTell : yX3_canTell.cls = RX3 ∧ yX3_canTell.cls ≠ "java/lang/invoke/MethodHandle" ∧ yX3_canTell.cls ≠ "java/lang/invoke/VarHandle" ∧ (parseMethodDescriptor yX3_canTell.desc).map (fun d => d.parameters.length) = some 2 := by decide +kernel
theorem dX3_canTell_0 : decode cX3_canTell 0 = .ok (.iload_n 0, 1) := by decide +kernel
theorem dX3_canTell_1 : decode cX3_canTell 1 = .ok (.tableswitch 75 0 2 #[27, 43, 60], 27) := by decide +kernel
theorem dX3_canTell_28 : decode cX3_canTell 28 = .ok (.iload_n 1, 1) := by decide +kernel
theorem dX3_canTell_29 : decode cX3_canTell 29 = .ok (.ifCond .lt 13, 3) := by decide +kernel
theorem dX3_canTell_32 : decode cX3_canTell 32 = .ok (.iload_n 1, 1) := by decide +kernel
theorem dX3_canTell_33 : decode cX3_canTell 33 = .ok (.bipush 7, 2) := by decide +kernel
theorem dX3_canTell_35 : decode cX3_canTell 35 = .ok (.if_icmp .ge 7, 3) := by decide +kernel
theorem dX3_canTell_38 : decode cX3_canTell 38 = .ok (.iconst 1, 1) := by decide +kernel
theorem dX3_canTell_39 : decode cX3_canTell 39 = .ok (.goto 4, 3) := by decide +kernel
theorem dX3_canTell_42 : decode cX3_canTell 42 = .ok (.iconst 0, 1) := by decide +kernel
theorem dX3_canTell_43 : decode cX3_canTell 43 = .ok (.ireturn, 1) := by decide +kernel
theorem dX3_canTell_44 : decode cX3_canTell 44 = .ok (.iload_n 1, 1) := by decide +kernel
theorem dX3_canTell_45 : decode cX3_canTell 45 = .ok (.iconst 1, 1) := by decide +kernel
theorem dX3_canTell_46 : decode cX3_canTell 46 = .ok (.if_icmp .lt 13, 3) := by decide +kernel
theorem dX3_canTell_49 : decode cX3_canTell 49 = .ok (.iload_n 1, 1) := by decide +kernel
theorem dX3_canTell_50 : decode cX3_canTell 50 = .ok (.bipush 9, 2) := by decide +kernel
theorem dX3_canTell_52 : decode cX3_canTell 52 = .ok (.if_icmp .gt 7, 3) := by decide +kernel
theorem dX3_canTell_55 : decode cX3_canTell 55 = .ok (.iconst 1, 1) := by decide +kernel
theorem dX3_canTell_56 : decode cX3_canTell 56 = .ok (.goto 4, 3) := by decide +kernel
theorem dX3_canTell_59 : decode cX3_canTell 59 = .ok (.iconst 0, 1) := by decide +kernel
theorem dX3_canTell_60 : decode cX3_canTell 60 = .ok (.ireturn, 1) := by decide +kernel
theorem dX3_canTell_61 : decode cX3_canTell 61 = .ok (.iload_n 1, 1) := by decide +kernel
theorem dX3_canTell_62 : decode cX3_canTell 62 = .ok (.ifCond .lt 12, 3) := by decide +kernel
theorem dX3_canTell_65 : decode cX3_canTell 65 = .ok (.iload_n 1, 1) := by decide +kernel
theorem dX3_canTell_66 : decode cX3_canTell 66 = .ok (.iconst 4, 1) := by decide +kernel
theorem dX3_canTell_67 : decode cX3_canTell 67 = .ok (.if_icmp .ge 7, 3) := by decide +kernel
theorem dX3_canTell_70 : decode cX3_canTell 70 = .ok (.iconst 1, 1) := by decide +kernel
theorem dX3_canTell_71 : decode cX3_canTell 71 = .ok (.goto 4, 3) := by decide +kernel
theorem dX3_canTell_74 : decode cX3_canTell 74 = .ok (.iconst 0, 1) := by decide +kernel
theorem dX3_canTell_75 : decode cX3_canTell 75 = .ok (.ireturn, 1) := by decide +kernel
theorem dX3_canTell_76 : decode cX3_canTell 76 = .ok (.iconst 0, 1) := by decide +kernel
theorem dX3_canTell_77 : decode cX3_canTell 77 = .ok (.ireturn, 1) := by decide +kernel
set_option maxRecDepth 100000 in
set_option maxHeartbeats 4000000 in
theorem kb_X3_canTell_0 {x0 : Int32} {x1 : Int32} {out : Int32} {H : Heap} {locs : List Loc} {ls : Array Slot} (C : CX p s m args meth c cX3_canTell 2 RX3 wc_X3_canTell (some .boolean))  (hG : Gd s G A N B E X H locs) (hl : lv_has ls 2 [(0, .int x0), (1, .int x1)]) (hf : sh_X3_canTell x0 x1 = some out) :
    W p l e rm_X3_canTell s m args below meth c H locs 0 0 (MQ below (CPost G A N B E X (some (.int out))) args s 0 0 A) (F0 m 0 ls []) := by
  refine lv_iload_n C.1 C.2.1 dX3_canTell_0 rfl (lv_at hl 0 rfl) ?_
  rcases of_ite hf with ⟨c1, hf⟩ | ⟨c1, hf⟩
  · refine lv_tableIn (tgt := 28) (off := 27) C.1 C.2.1 dX3_canTell_1 (by rw [c1]; decide) (by rw [c1]; decide) (by rw [c1]; rfl) (by decide) ?_
    refine lv_iload_n C.1 C.2.1 dX3_canTell_28 rfl (lv_at hl 1 rfl) ?_
    rcases of_ite hf with ⟨c2, hf⟩ | ⟨c2, hf⟩
    · refine lv_if_lt (tgt := 42) C.1 C.2.1 dX3_canTell_29 (by decide) (fun _ => ?_) (fun q => absurd c2 q)
      refine lv_iconst (v := nI 0) C.1 C.2.1 dX3_canTell_42 (by decide) ?_
      obtain rfl := Option.some.inj hf
      exact r_zret C hG (Or.inl rfl) dX3_canTell_43
    · refine lv_if_lt (tgt := 42) C.1 C.2.1 dX3_canTell_29 (by decide) (fun q => absurd q c2) (fun _ => ?_)
      refine lv_iload_n C.1 C.2.1 dX3_canTell_32 rfl (lv_at hl 1 rfl) ?_
      refine lv_bipush (v := nI 7) C.1 C.2.1 dX3_canTell_33 (by decide) ?_
      rcases of_ite hf with ⟨c3, hf⟩ | ⟨c3, hf⟩
      · refine lv_icmp_ge (tgt := 42) C.1 C.2.1 dX3_canTell_35 (by decide) (fun _ => ?_) (fun q => absurd c3 q)
        refine lv_iconst (v := nI 0) C.1 C.2.1 dX3_canTell_42 (by decide) ?_
        obtain rfl := Option.some.inj hf
        exact r_zret C hG (Or.inl rfl) dX3_canTell_43
      · refine lv_icmp_ge (tgt := 42) C.1 C.2.1 dX3_canTell_35 (by decide) (fun q => absurd q c3) (fun _ => ?_)
        refine lv_iconst (v := nI 1) C.1 C.2.1 dX3_canTell_38 (by decide) ?_
        refine lv_goto (tgt := 43) C.1 C.2.1 dX3_canTell_39 (by decide) ?_
        obtain rfl := Option.some.inj hf
        exact r_zret C hG (Or.inr rfl) dX3_canTell_43
  · skip
    rcases of_ite hf with ⟨c4, hf⟩ | ⟨c4, hf⟩
    · refine lv_tableIn (tgt := 44) (off := 43) C.1 C.2.1 dX3_canTell_1 (by rw [c4]; decide) (by rw [c4]; decide) (by rw [c4]; rfl) (by decide) ?_
      refine lv_iload_n C.1 C.2.1 dX3_canTell_44 rfl (lv_at hl 1 rfl) ?_
      refine lv_iconst (v := nI 1) C.1 C.2.1 dX3_canTell_45 (by decide) ?_
      rcases of_ite hf with ⟨c5, hf⟩ | ⟨c5, hf⟩
      · refine lv_icmp_lt (tgt := 59) C.1 C.2.1 dX3_canTell_46 (by decide) (fun _ => ?_) (fun q => absurd c5 q)
        refine lv_iconst (v := nI 0) C.1 C.2.1 dX3_canTell_59 (by decide) ?_
        obtain rfl := Option.some.inj hf
        exact r_zret C hG (Or.inl rfl) dX3_canTell_60
      · refine lv_icmp_lt (tgt := 59) C.1 C.2.1 dX3_canTell_46 (by decide) (fun q => absurd q c5) (fun _ => ?_)
        refine lv_iload_n C.1 C.2.1 dX3_canTell_49 rfl (lv_at hl 1 rfl) ?_
        refine lv_bipush (v := nI 9) C.1 C.2.1 dX3_canTell_50 (by decide) ?_
        rcases of_ite hf with ⟨c6, hf⟩ | ⟨c6, hf⟩
        · refine lv_icmp_gt (tgt := 59) C.1 C.2.1 dX3_canTell_52 (by decide) (fun _ => ?_) (fun q => absurd c6 q)
          refine lv_iconst (v := nI 0) C.1 C.2.1 dX3_canTell_59 (by decide) ?_
          obtain rfl := Option.some.inj hf
          exact r_zret C hG (Or.inl rfl) dX3_canTell_60
        · refine lv_icmp_gt (tgt := 59) C.1 C.2.1 dX3_canTell_52 (by decide) (fun q => absurd q c6) (fun _ => ?_)
          refine lv_iconst (v := nI 1) C.1 C.2.1 dX3_canTell_55 (by decide) ?_
          refine lv_goto (tgt := 60) C.1 C.2.1 dX3_canTell_56 (by decide) ?_
          obtain rfl := Option.some.inj hf
          exact r_zret C hG (Or.inr rfl) dX3_canTell_60
    · skip
      rcases of_ite hf with ⟨c7, hf⟩ | ⟨c7, hf⟩
      · refine lv_tableIn (tgt := 61) (off := 60) C.1 C.2.1 dX3_canTell_1 (by rw [c7]; decide) (by rw [c7]; decide) (by rw [c7]; rfl) (by decide) ?_
        refine lv_iload_n C.1 C.2.1 dX3_canTell_61 rfl (lv_at hl 1 rfl) ?_
        rcases of_ite hf with ⟨c8, hf⟩ | ⟨c8, hf⟩
        · refine lv_if_lt (tgt := 74) C.1 C.2.1 dX3_canTell_62 (by decide) (fun _ => ?_) (fun q => absurd c8 q)
          refine lv_iconst (v := nI 0) C.1 C.2.1 dX3_canTell_74 (by decide) ?_
          obtain rfl := Option.some.inj hf
          exact r_zret C hG (Or.inl rfl) dX3_canTell_75
        · refine lv_if_lt (tgt := 74) C.1 C.2.1 dX3_canTell_62 (by decide) (fun q => absurd q c8) (fun _ => ?_)
          refine lv_iload_n C.1 C.2.1 dX3_canTell_65 rfl (lv_at hl 1 rfl) ?_
          refine lv_iconst (v := nI 4) C.1 C.2.1 dX3_canTell_66 (by decide) ?_
          rcases of_ite hf with ⟨c9, hf⟩ | ⟨c9, hf⟩
          · refine lv_icmp_ge (tgt := 74) C.1 C.2.1 dX3_canTell_67 (by decide) (fun _ => ?_) (fun q => absurd c9 q)
            refine lv_iconst (v := nI 0) C.1 C.2.1 dX3_canTell_74 (by decide) ?_
            obtain rfl := Option.some.inj hf
            exact r_zret C hG (Or.inl rfl) dX3_canTell_75
          · refine lv_icmp_ge (tgt := 74) C.1 C.2.1 dX3_canTell_67 (by decide) (fun q => absurd q c9) (fun _ => ?_)
            refine lv_iconst (v := nI 1) C.1 C.2.1 dX3_canTell_70 (by decide) ?_
            refine lv_goto (tgt := 75) C.1 C.2.1 dX3_canTell_71 (by decide) ?_
            obtain rfl := Option.some.inj hf
            exact r_zret C hG (Or.inr rfl) dX3_canTell_75
      · skip
        refine lv_tableOut (tgt := 76) C.1 C.2.1 dX3_canTell_1 (sw_out (n := 3) (by decide) (lt_s (lt_s (lt_s lt_0 c1) c4) c7)) (by decide) ?_
        refine lv_iconst (v := nI 0) C.1 C.2.1 dX3_canTell_76 (by decide) ?_
        obtain rfl := Option.some.inj hf
        exact r_zret C hG (Or.inl rfl) dX3_canTell_77
set_option maxRecDepth 100000 in
set_option maxHeartbeats 4000000 in
theorem mt_X3_canTell (l : Launch) {G : GG} {A : Nat → Prop} {N B : Nat} {E : Nat → va_E} {X : va_W} {x0 : Int32} {x1 : Int32} {out : Int32}  (hf : sh_X3_canTell x0 x1 = some out) : MetW l yX3_canTell wc_X3_canTell rm_X3_canTell G A N B E X [.int x0, .int x1] (some (.int out)) E := by
  refine Met.ofW (cc := cX3_canTell) (maxL := 2) (ret := (some .boolean)) (by decide) rfl ?_
  intro p e s m args below meth c s₁ B0 hml hv
  obtain ⟨rfl, hEv, hWd⟩ := hv
  have C : CX p s m _ meth c cX3_canTell 2 RX3 wc_X3_canTell (some .boolean) := ⟨B0.exec, B0.bytes, hml, findClass_of_methodNamed B0.named, atoms_spec (ws := wc_X3_canTell) B0.pre, B0.returns, B0.notSynchronized⟩
  have hl := lv_entry [.int x0, .int x1] (n := 2) (Nat.le_of_ble_eq_true rfl)
  rw [lg_entry_eq]
  generalize (lg_sl [.int x0, .int x1] ++ List.replicate (2 - (lg_sl [.int x0, .int x1]).length) Slot.unset).toArray = ls at hl ⊢
  have hl : lv_has ls 2 [(0, .int x0), (1, .int x1)] := hl
  exact kb_X3_canTell_0 C  ⟨hEv, hWd, va_S.rf⟩ hl hf
abbrev wc_X3_append : List Cond := Cond.code yX3_append cX3_append 3 none :: TG
abbrev rm_X3_append : Room := { frames := 2, cells := 0, slots := 0, locals := 100 }
theorem cd_X3_append : yX3_append.cls = RX3 ∧ yX3_append.cls ≠ "java/lang/invoke/MethodHandle" ∧ yX3_append.cls ≠ "java/lang/invoke/VarHandle" ∧ (parseMethodDescriptor yX3_append.desc).map (fun d => d.parameters.length) = some 2 := by decide +kernel
theorem dX3_append_0 : decode cX3_append 0 = .ok (.aload_n 0, 1) := by decide +kernel
theorem dX3_append_1 : decode cX3_append 1 = .ok (.getfield 18, 3) := by decide +kernel
theorem dX3_append_4 : decode cX3_append 4 = .ok (.bipush 8, 2) := by decide +kernel
theorem dX3_append_6 : decode cX3_append 6 = .ok (.if_icmp .lt 4, 3) := by decide +kernel
theorem dX3_append_9 : decode cX3_append 9 = .ok (.return_, 1) := by decide +kernel
theorem dX3_append_10 : decode cX3_append 10 = .ok (.aload_n 0, 1) := by decide +kernel
theorem dX3_append_11 : decode cX3_append 11 = .ok (.getfield 9, 3) := by decide +kernel
theorem dX3_append_14 : decode cX3_append 14 = .ok (.aload_n 0, 1) := by decide +kernel
theorem dX3_append_15 : decode cX3_append 15 = .ok (.getfield 18, 3) := by decide +kernel
theorem dX3_append_18 : decode cX3_append 18 = .ok (.iload_n 1, 1) := by decide +kernel
theorem dX3_append_19 : decode cX3_append 19 = .ok (.iastore, 1) := by decide +kernel
theorem dX3_append_20 : decode cX3_append 20 = .ok (.aload_n 0, 1) := by decide +kernel
theorem dX3_append_21 : decode cX3_append 21 = .ok (.getfield 15, 3) := by decide +kernel
theorem dX3_append_24 : decode cX3_append 24 = .ok (.aload_n 0, 1) := by decide +kernel
theorem dX3_append_25 : decode cX3_append 25 = .ok (.getfield 18, 3) := by decide +kernel
theorem dX3_append_28 : decode cX3_append 28 = .ok (.iload_n 2, 1) := by decide +kernel
theorem dX3_append_29 : decode cX3_append 29 = .ok (.iastore, 1) := by decide +kernel
theorem dX3_append_30 : decode cX3_append 30 = .ok (.aload_n 0, 1) := by decide +kernel
theorem dX3_append_31 : decode cX3_append 31 = .ok (.dup, 1) := by decide +kernel
theorem dX3_append_32 : decode cX3_append 32 = .ok (.getfield 18, 3) := by decide +kernel
theorem dX3_append_35 : decode cX3_append 35 = .ok (.iconst 1, 1) := by decide +kernel
theorem dX3_append_36 : decode cX3_append 36 = .ok (.iadd, 1) := by decide +kernel
theorem dX3_append_37 : decode cX3_append 37 = .ok (.putfield 18, 3) := by decide +kernel
theorem dX3_append_40 : decode cX3_append 40 = .ok (.return_, 1) := by decide +kernel
set_option maxRecDepth 100000 in
set_option maxHeartbeats 4000000 in
theorem kb_X3_append_0 {th : Nat} {x1 : Int32} {x2 : Int32} {w : WX} {out : WX} {H : Heap} {locs : List Loc} {ls : Array Slot} (C : CX p s m args meth c cX3_append 3 RX3 wc_X3_append none) (hth : KDx th = (3, 3)) (hG : Gd s G A 153 B (entX G B w) X H locs) (hl : lv_has ls 3 [(0, .ref (B + th)), (1, .int x1), (2, .int x2)]) (hf : sh_X3_append th x1 x2 w = some out) :
    W p l e rm_X3_append s m args below meth c H locs 0 0 (MQ below (CPost G A 153 B (entX G B out) X none) args s 0 0 A) (F0 m 0 ls []) := by
  refine lv_aload_n C.1 C.2.1 dX3_append_0 rfl (lv_at hl 0 rfl) ?_
  refine gf_X3_18 C hG hth dX3_append_1 ?_
  refine lv_bipush (v := nI 8) C.1 C.2.1 dX3_append_4 (by decide) ?_
  rcases of_ite hf with ⟨c1, hf⟩ | ⟨c1, hf⟩
  · refine lv_icmp_lt (tgt := 10) C.1 C.2.1 dX3_append_6 (by decide) (fun _ => ?_) (fun q => absurd c1 q)
    refine lv_aload_n C.1 C.2.1 dX3_append_10 rfl (lv_at hl 0 rfl) ?_
    refine gf_X3_9 C hG hth dX3_append_11 ?_
    refine lv_aload_n C.1 C.2.1 dX3_append_14 rfl (lv_at hl 0 rfl) ?_
    refine gf_X3_18 C hG hth dX3_append_15 ?_
    refine lv_iload_n C.1 C.2.1 dX3_append_18 rfl (lv_at hl 1 rfl) ?_
    obtain ⟨w2, hw2, hf⟩ := of_bind hf
    obtain ⟨bw2, ew2⟩ := of_stX hw2
    refine r_iast C hG (c0 := (th + 1)) (kdx_lt (kx_3_0 hth) (by decide)) (entX_I (kx_3_0 hth)) bw2 (E' := (entX G B w2)) (by rw [ew2]; exact upX_I (kx_3_0 hth)) dX3_append_19 (fun H locs hG => ?_)
    refine lv_aload_n C.1 C.2.1 dX3_append_20 rfl (lv_at hl 0 rfl) ?_
    refine gf_X3_15 C hG hth dX3_append_21 ?_
    refine lv_aload_n C.1 C.2.1 dX3_append_24 rfl (lv_at hl 0 rfl) ?_
    refine gf_X3_18 C hG hth dX3_append_25 ?_
    refine lv_iload_n C.1 C.2.1 dX3_append_28 rfl (lv_at hl 2 rfl) ?_
    obtain ⟨w3, hw3, hf⟩ := of_bind hf
    obtain ⟨bw3, ew3⟩ := of_stX hw3
    refine r_iast C hG (c0 := (th + 2)) (kdx_lt (kx_3_1 hth) (by decide)) (entX_I (kx_3_1 hth)) bw3 (E' := (entX G B w3)) (by rw [ew3]; exact upX_I (kx_3_1 hth)) dX3_append_29 (fun H locs hG => ?_)
    refine lv_aload_n C.1 C.2.1 dX3_append_30 rfl (lv_at hl 0 rfl) ?_
    refine lv_dup C.1 C.2.1 dX3_append_31 rfl ?_
    refine gf_X3_18 C hG hth dX3_append_32 ?_
    refine lv_iconst (v := nI 1) C.1 C.2.1 dX3_append_35 (by decide) ?_
    refine lv_iadd C.1 C.2.1 dX3_append_36 ?_
    obtain ⟨w4, ew4, hf⟩ := of_letv hf
    refine pf_X3_18 C hG hth dX3_append_37 (fun H locs hG => ?_)
    rw [← ew4] at hG
    obtain rfl := Option.some.inj hf
    exact r_vret C hG dX3_append_40
  · refine lv_icmp_lt (tgt := 10) C.1 C.2.1 dX3_append_6 (by decide) (fun q => absurd q c1) (fun _ => ?_)
    obtain rfl := Option.some.inj hf
    exact r_vret C hG dX3_append_9
set_option maxRecDepth 100000 in
set_option maxHeartbeats 4000000 in
theorem mt_X3_append (l : Launch) {G : GG} {A : Nat → Prop} {B : Nat} {X : va_W} {th : Nat} {x1 : Int32} {x2 : Int32} {w : WX} {out : WX} (hth : KDx th = (3, 3)) (hf : sh_X3_append th x1 x2 w = some out) : MetW l yX3_append wc_X3_append rm_X3_append G A 153 B (entX G B w) X [.ref (B + th), .int x1, .int x2] none (entX G B out) := by
  refine Met.ofW (cc := cX3_append) (maxL := 3) (ret := none) (by decide) rfl ?_
  intro p e s m args below meth c s₁ B0 hml hv
  obtain ⟨rfl, hEv, hWd⟩ := hv
  have C : CX p s m _ meth c cX3_append 3 RX3 wc_X3_append none := ⟨B0.exec, B0.bytes, hml, findClass_of_methodNamed B0.named, atoms_spec (ws := wc_X3_append) B0.pre, B0.returns, B0.notSynchronized⟩
  have hl := lv_entry [.ref (B + th), .int x1, .int x2] (n := 3) (Nat.le_of_ble_eq_true rfl)
  rw [lg_entry_eq]
  generalize (lg_sl [.ref (B + th), .int x1, .int x2] ++ List.replicate (3 - (lg_sl [.ref (B + th), .int x1, .int x2]).length) Slot.unset).toArray = ls at hl ⊢
  have hl : lv_has ls 3 [(0, .ref (B + th)), (1, .int x1), (2, .int x2)] := hl
  exact kb_X3_append_0 C hth ⟨hEv, hWd, va_S.rf⟩ hl hf
abbrev wc_X3_copyFrom : List Cond := Cond.code yX3_copyFrom cX3_copyFrom 2 none :: TG
abbrev rm_X3_copyFrom : Room := { frames := 2, cells := 0, slots := 0, locals := 100 }
theorem cd_X3_copyFrom : yX3_copyFrom.cls = RX3 ∧ yX3_copyFrom.cls ≠ "java/lang/invoke/MethodHandle" ∧ yX3_copyFrom.cls ≠ "java/lang/invoke/VarHandle" ∧ (parseMethodDescriptor yX3_copyFrom.desc).map (fun d => d.parameters.length) = some 1 := by decide +kernel
theorem dX3_copyFrom_0 : decode cX3_copyFrom 0 = .ok (.aload_n 0, 1) := by decide +kernel
theorem dX3_copyFrom_1 : decode cX3_copyFrom 1 = .ok (.aload_n 1, 1) := by decide +kernel
theorem dX3_copyFrom_2 : decode cX3_copyFrom 2 = .ok (.getfield 18, 3) := by decide +kernel
theorem dX3_copyFrom_5 : decode cX3_copyFrom 5 = .ok (.putfield 18, 3) := by decide +kernel
theorem dX3_copyFrom_8 : decode cX3_copyFrom 8 = .ok (.aload_n 1, 1) := by decide +kernel
theorem dX3_copyFrom_9 : decode cX3_copyFrom 9 = .ok (.getfield 9, 3) := by decide +kernel
theorem dX3_copyFrom_12 : decode cX3_copyFrom 12 = .ok (.iconst 0, 1) := by decide +kernel
theorem dX3_copyFrom_13 : decode cX3_copyFrom 13 = .ok (.aload_n 0, 1) := by decide +kernel
theorem dX3_copyFrom_14 : decode cX3_copyFrom 14 = .ok (.getfield 9, 3) := by decide +kernel
theorem dX3_copyFrom_17 : decode cX3_copyFrom 17 = .ok (.iconst 0, 1) := by decide +kernel
theorem dX3_copyFrom_18 : decode cX3_copyFrom 18 = .ok (.bipush 8, 2) := by decide +kernel
theorem dX3_copyFrom_20 : decode cX3_copyFrom 20 = .ok (.invokestatic 22, 3) := by decide +kernel
theorem dX3_copyFrom_23 : decode cX3_copyFrom 23 = .ok (.aload_n 1, 1) := by decide +kernel
theorem dX3_copyFrom_24 : decode cX3_copyFrom 24 = .ok (.getfield 15, 3) := by decide +kernel
theorem dX3_copyFrom_27 : decode cX3_copyFrom 27 = .ok (.iconst 0, 1) := by decide +kernel
theorem dX3_copyFrom_28 : decode cX3_copyFrom 28 = .ok (.aload_n 0, 1) := by decide +kernel
theorem dX3_copyFrom_29 : decode cX3_copyFrom 29 = .ok (.getfield 15, 3) := by decide +kernel
theorem dX3_copyFrom_32 : decode cX3_copyFrom 32 = .ok (.iconst 0, 1) := by decide +kernel
theorem dX3_copyFrom_33 : decode cX3_copyFrom 33 = .ok (.bipush 8, 2) := by decide +kernel
theorem dX3_copyFrom_35 : decode cX3_copyFrom 35 = .ok (.invokestatic 22, 3) := by decide +kernel
theorem dX3_copyFrom_38 : decode cX3_copyFrom 38 = .ok (.return_, 1) := by decide +kernel
set_option maxRecDepth 100000 in
set_option maxHeartbeats 4000000 in
theorem kb_X3_copyFrom_0 {th : Nat} {x1 : Nat} {w : WX} {out : WX} {H : Heap} {locs : List Loc} {ls : Array Slot} (C : CX p s m args meth c cX3_copyFrom 2 RX3 wc_X3_copyFrom none) (hth : KDx th = (3, 3)) (h1 : KDx x1 = (3, 3)) (hG : Gd s G A 153 B (entX G B w) X H locs) (hl : lv_has ls 2 [(0, .ref (B + th)), (1, .ref (B + x1))]) (hf : sh_X3_copyFrom th x1 w = some out) :
    W p l e rm_X3_copyFrom s m args below meth c H locs 0 0 (MQ below (CPost G A 153 B (entX G B out) X none) args s 0 0 A) (F0 m 0 ls []) := by
  refine lv_aload_n C.1 C.2.1 dX3_copyFrom_0 rfl (lv_at hl 0 rfl) ?_
  refine lv_aload_n C.1 C.2.1 dX3_copyFrom_1 rfl (lv_at hl 1 rfl) ?_
  refine gf_X3_18 C hG h1 dX3_copyFrom_2 ?_
  obtain ⟨w1, ew1, hf⟩ := of_letv hf
  refine pf_X3_18 C hG hth dX3_copyFrom_5 (fun H locs hG => ?_)
  rw [← ew1] at hG
  refine lv_aload_n C.1 C.2.1 dX3_copyFrom_8 rfl (lv_at hl 1 rfl) ?_
  refine gf_X3_9 C hG h1 dX3_copyFrom_9 ?_
  refine lv_iconst (v := nI 0) C.1 C.2.1 dX3_copyFrom_12 (by decide) ?_
  refine lv_aload_n C.1 C.2.1 dX3_copyFrom_13 rfl (lv_at hl 0 rfl) ?_
  refine gf_X3_9 C hG hth dX3_copyFrom_14 ?_
  refine lv_iconst (v := nI 0) C.1 C.2.1 dX3_copyFrom_17 (by decide) ?_
  refine lv_bipush (v := nI 8) C.1 C.2.1 dX3_copyFrom_18 (by decide) ?_
  obtain ⟨w2, hw2, hf⟩ := of_bind hf
  obtain ⟨bw2, ew2⟩ := of_cpX hw2
  refine r_copy C hG hl.1 (List.mem_cons_of_mem _ tg_4_65) (List.mem_cons_of_mem _ tg_3_2) (List.mem_cons_of_mem _ tg_3_1) (List.mem_cons_of_mem _ tg_1_13) (c0 := (x1 + 1)) (c1 := (th + 1)) (kdx_lt (kx_3_0 h1) (by decide)) (kdx_lt (kx_3_0 hth) (by decide)) (entX_I (kx_3_0 h1)) (entX_I (kx_3_0 hth)) bw2 (E' := (entX G B w2)) (by rw [ew2]; exact upX_cp (kx_3_0 hth)) (Nat.le_of_ble_eq_true rfl) (Nat.le_of_ble_eq_true rfl) dX3_copyFrom_20 (fun H locs hG => ?_)
  refine lv_aload_n C.1 C.2.1 dX3_copyFrom_23 rfl (lv_at hl 1 rfl) ?_
  refine gf_X3_15 C hG h1 dX3_copyFrom_24 ?_
  refine lv_iconst (v := nI 0) C.1 C.2.1 dX3_copyFrom_27 (by decide) ?_
  refine lv_aload_n C.1 C.2.1 dX3_copyFrom_28 rfl (lv_at hl 0 rfl) ?_
  refine gf_X3_15 C hG hth dX3_copyFrom_29 ?_
  refine lv_iconst (v := nI 0) C.1 C.2.1 dX3_copyFrom_32 (by decide) ?_
  refine lv_bipush (v := nI 8) C.1 C.2.1 dX3_copyFrom_33 (by decide) ?_
  obtain ⟨w3, hw3, hf⟩ := of_bind hf
  obtain ⟨bw3, ew3⟩ := of_cpX hw3
  refine r_copy C hG hl.1 (List.mem_cons_of_mem _ tg_4_65) (List.mem_cons_of_mem _ tg_3_2) (List.mem_cons_of_mem _ tg_3_1) (List.mem_cons_of_mem _ tg_1_13) (c0 := (x1 + 2)) (c1 := (th + 2)) (kdx_lt (kx_3_1 h1) (by decide)) (kdx_lt (kx_3_1 hth) (by decide)) (entX_I (kx_3_1 h1)) (entX_I (kx_3_1 hth)) bw3 (E' := (entX G B w3)) (by rw [ew3]; exact upX_cp (kx_3_1 hth)) (Nat.le_of_ble_eq_true rfl) (Nat.le_of_ble_eq_true rfl) dX3_copyFrom_35 (fun H locs hG => ?_)
  obtain rfl := Option.some.inj hf
  exact r_vret C hG dX3_copyFrom_38
set_option maxRecDepth 100000 in
set_option maxHeartbeats 4000000 in
theorem mt_X3_copyFrom (l : Launch) {G : GG} {A : Nat → Prop} {B : Nat} {X : va_W} {th : Nat} {x1 : Nat} {w : WX} {out : WX} (hth : KDx th = (3, 3)) (h1 : KDx x1 = (3, 3)) (hf : sh_X3_copyFrom th x1 w = some out) : MetW l yX3_copyFrom wc_X3_copyFrom rm_X3_copyFrom G A 153 B (entX G B w) X [.ref (B + th), .ref (B + x1)] none (entX G B out) := by
  refine Met.ofW (cc := cX3_copyFrom) (maxL := 2) (ret := none) (by decide) rfl ?_
  intro p e s m args below meth c s₁ B0 hml hv
  obtain ⟨rfl, hEv, hWd⟩ := hv
  have C : CX p s m _ meth c cX3_copyFrom 2 RX3 wc_X3_copyFrom none := ⟨B0.exec, B0.bytes, hml, findClass_of_methodNamed B0.named, atoms_spec (ws := wc_X3_copyFrom) B0.pre, B0.returns, B0.notSynchronized⟩
  have hl := lv_entry [.ref (B + th), .ref (B + x1)] (n := 2) (Nat.le_of_ble_eq_true rfl)
  rw [lg_entry_eq]
  generalize (lg_sl [.ref (B + th), .ref (B + x1)] ++ List.replicate (2 - (lg_sl [.ref (B + th), .ref (B + x1)]).length) Slot.unset).toArray = ls at hl ⊢
  have hl : lv_has ls 2 [(0, .ref (B + th)), (1, .ref (B + x1))] := hl
  exact kb_X3_copyFrom_0 C hth h1 ⟨hEv, hWd, va_S.rf⟩ hl hf
abbrev wc_X4_algebraAt : List Cond := Cond.code yX4_algebraAt cX4_algebraAt 2 (some (.object "SurfaceSums$Algebra")) :: TG
abbrev rm_X4_algebraAt : Room := { frames := 2, cells := 0, slots := 0, locals := 100 }
theorem cd_X4_algebraAt : yX4_algebraAt.cls = RX4 ∧ yX4_algebraAt.cls ≠ "java/lang/invoke/MethodHandle" ∧ yX4_algebraAt.cls ≠ "java/lang/invoke/VarHandle" ∧ (parseMethodDescriptor yX4_algebraAt.desc).map (fun d => d.parameters.length) = some 1 := by decide +kernel
theorem dX4_algebraAt_0 : decode cX4_algebraAt 0 = .ok (.iload_n 1, 1) := by decide +kernel
theorem dX4_algebraAt_1 : decode cX4_algebraAt 1 = .ok (.ifCond .lt 11, 3) := by decide +kernel
theorem dX4_algebraAt_4 : decode cX4_algebraAt 4 = .ok (.iload_n 1, 1) := by decide +kernel
theorem dX4_algebraAt_5 : decode cX4_algebraAt 5 = .ok (.aload_n 0, 1) := by decide +kernel
theorem dX4_algebraAt_6 : decode cX4_algebraAt 6 = .ok (.getfield 32, 3) := by decide +kernel
theorem dX4_algebraAt_9 : decode cX4_algebraAt 9 = .ok (.if_icmp .lt 7, 3) := by decide +kernel
theorem dX4_algebraAt_12 : decode cX4_algebraAt 12 = .ok (.aconst_null, 1) := by decide +kernel
theorem dX4_algebraAt_13 : decode cX4_algebraAt 13 = .ok (.goto 9, 3) := by decide +kernel
theorem dX4_algebraAt_16 : decode cX4_algebraAt 16 = .ok (.aload_n 0, 1) := by decide +kernel
theorem dX4_algebraAt_17 : decode cX4_algebraAt 17 = .ok (.getfield 11, 3) := by decide +kernel
theorem dX4_algebraAt_20 : decode cX4_algebraAt 20 = .ok (.iload_n 1, 1) := by decide +kernel
theorem dX4_algebraAt_21 : decode cX4_algebraAt 21 = .ok (.aaload, 1) := by decide +kernel
theorem dX4_algebraAt_22 : decode cX4_algebraAt 22 = .ok (.areturn, 1) := by decide +kernel
set_option maxRecDepth 100000 in
set_option maxHeartbeats 4000000 in
theorem kb_X4_algebraAt_0 {th : Nat} {x1 : Int32} {w : WX} {out : Nat} {H : Heap} {locs : List Loc} {ls : Array Slot} (C : CX p s m args meth c cX4_algebraAt 2 RX4 wc_X4_algebraAt (some (.object "SurfaceSums$Algebra"))) (hth : KDx th = (4, 4)) (hG : Gd s G A 153 B (entX G B w) X H locs) (hl : lv_has ls 2 [(0, .ref (B + th)), (1, .int x1)]) (hf : sh_X4_algebraAt th x1 w = some out) :
    W p l e rm_X4_algebraAt s m args below meth c H locs 0 0 (MQ below (CPost G A 153 B (entX G B w) X (some (rv B out))) args s 0 0 A) (F0 m 0 ls []) := by
  refine lv_iload_n C.1 C.2.1 dX4_algebraAt_0 rfl (lv_at hl 1 rfl) ?_
  rcases of_ite hf with ⟨c1, hf⟩ | ⟨c1, hf⟩
  · refine lv_if_lt (tgt := 12) C.1 C.2.1 dX4_algebraAt_1 (by decide) (fun _ => ?_) (fun q => absurd c1 q)
    refine lv_null C.1 C.2.1 dX4_algebraAt_12 ?_
    refine lv_goto (tgt := 22) C.1 C.2.1 dX4_algebraAt_13 (by decide) ?_
    obtain rfl := Option.some.inj hf
    exact r_aretN C hG dX4_algebraAt_22
  · refine lv_if_lt (tgt := 12) C.1 C.2.1 dX4_algebraAt_1 (by decide) (fun q => absurd q c1) (fun _ => ?_)
    refine lv_iload_n C.1 C.2.1 dX4_algebraAt_4 rfl (lv_at hl 1 rfl) ?_
    refine lv_aload_n C.1 C.2.1 dX4_algebraAt_5 rfl (lv_at hl 0 rfl) ?_
    refine gf_X4_32 C hG hth dX4_algebraAt_6 ?_
    rcases of_ite hf with ⟨c2, hf⟩ | ⟨c2, hf⟩
    · refine lv_icmp_lt (tgt := 16) C.1 C.2.1 dX4_algebraAt_9 (by decide) (fun _ => ?_) (fun q => absurd c2 q)
      refine lv_aload_n C.1 C.2.1 dX4_algebraAt_16 rfl (lv_at hl 0 rfl) ?_
      refine gf_X4_11 C hG hth dX4_algebraAt_17 ?_
      refine lv_iload_n C.1 C.2.1 dX4_algebraAt_20 rfl (lv_at hl 1 rfl) ?_
      obtain ⟨c3, hf⟩ := of_grd hf
      obtain ⟨c4, hf⟩ := of_grd hf
      refine r_aald C hG (c0 := (th + 1)) (t0 := 2) rfl (kdx_lt (kx_4_0 hth) (by decide)) (entX_A (kx_4_0 hth)) c3 (rfX_at c3) dX4_algebraAt_21 ?_
      obtain rfl := Option.some.inj hf
      exact r_aret C hG (Nat.ne_of_lt (Nat.lt_trans (kdx_lt c4 (by decide)) (by decide))) dX4_algebraAt_22
    · refine lv_icmp_lt (tgt := 16) C.1 C.2.1 dX4_algebraAt_9 (by decide) (fun q => absurd q c2) (fun _ => ?_)
      refine lv_null C.1 C.2.1 dX4_algebraAt_12 ?_
      refine lv_goto (tgt := 22) C.1 C.2.1 dX4_algebraAt_13 (by decide) ?_
      obtain rfl := Option.some.inj hf
      exact r_aretN C hG dX4_algebraAt_22
set_option maxRecDepth 100000 in
set_option maxHeartbeats 4000000 in
theorem mt_X4_algebraAt (l : Launch) {G : GG} {A : Nat → Prop} {B : Nat} {X : va_W} {th : Nat} {x1 : Int32} {w : WX} {out : Nat} (hth : KDx th = (4, 4)) (hf : sh_X4_algebraAt th x1 w = some out) : MetW l yX4_algebraAt wc_X4_algebraAt rm_X4_algebraAt G A 153 B (entX G B w) X [.ref (B + th), .int x1] (some (rv B out)) (entX G B w) := by
  refine Met.ofW (cc := cX4_algebraAt) (maxL := 2) (ret := (some (.object "SurfaceSums$Algebra"))) (by decide) rfl ?_
  intro p e s m args below meth c s₁ B0 hml hv
  obtain ⟨rfl, hEv, hWd⟩ := hv
  have C : CX p s m _ meth c cX4_algebraAt 2 RX4 wc_X4_algebraAt (some (.object "SurfaceSums$Algebra")) := ⟨B0.exec, B0.bytes, hml, findClass_of_methodNamed B0.named, atoms_spec (ws := wc_X4_algebraAt) B0.pre, B0.returns, B0.notSynchronized⟩
  have hl := lv_entry [.ref (B + th), .int x1] (n := 2) (Nat.le_of_ble_eq_true rfl)
  rw [lg_entry_eq]
  generalize (lg_sl [.ref (B + th), .int x1] ++ List.replicate (2 - (lg_sl [.ref (B + th), .int x1]).length) Slot.unset).toArray = ls at hl ⊢
  have hl : lv_has ls 2 [(0, .ref (B + th)), (1, .int x1)] := hl
  exact kb_X4_algebraAt_0 C hth ⟨hEv, hWd, va_S.rf⟩ hl hf
abbrev wc_X4_surfaceAt : List Cond := Cond.code yX4_surfaceAt cX4_surfaceAt 2 (some (.object "SurfaceSums$Surface")) :: TG
abbrev rm_X4_surfaceAt : Room := { frames := 2, cells := 0, slots := 0, locals := 100 }
theorem cd_X4_surfaceAt : yX4_surfaceAt.cls = RX4 ∧ yX4_surfaceAt.cls ≠ "java/lang/invoke/MethodHandle" ∧ yX4_surfaceAt.cls ≠ "java/lang/invoke/VarHandle" ∧ (parseMethodDescriptor yX4_surfaceAt.desc).map (fun d => d.parameters.length) = some 1 := by decide +kernel
theorem dX4_surfaceAt_0 : decode cX4_surfaceAt 0 = .ok (.iload_n 1, 1) := by decide +kernel
theorem dX4_surfaceAt_1 : decode cX4_surfaceAt 1 = .ok (.ifCond .lt 8, 3) := by decide +kernel
theorem dX4_surfaceAt_4 : decode cX4_surfaceAt 4 = .ok (.iload_n 1, 1) := by decide +kernel
theorem dX4_surfaceAt_5 : decode cX4_surfaceAt 5 = .ok (.iconst 4, 1) := by decide +kernel
theorem dX4_surfaceAt_6 : decode cX4_surfaceAt 6 = .ok (.if_icmp .lt 7, 3) := by decide +kernel
theorem dX4_surfaceAt_9 : decode cX4_surfaceAt 9 = .ok (.aconst_null, 1) := by decide +kernel
theorem dX4_surfaceAt_10 : decode cX4_surfaceAt 10 = .ok (.goto 9, 3) := by decide +kernel
theorem dX4_surfaceAt_13 : decode cX4_surfaceAt 13 = .ok (.aload_n 0, 1) := by decide +kernel
theorem dX4_surfaceAt_14 : decode cX4_surfaceAt 14 = .ok (.getfield 19, 3) := by decide +kernel
theorem dX4_surfaceAt_17 : decode cX4_surfaceAt 17 = .ok (.iload_n 1, 1) := by decide +kernel
theorem dX4_surfaceAt_18 : decode cX4_surfaceAt 18 = .ok (.aaload, 1) := by decide +kernel
theorem dX4_surfaceAt_19 : decode cX4_surfaceAt 19 = .ok (.areturn, 1) := by decide +kernel
set_option maxRecDepth 100000 in
set_option maxHeartbeats 4000000 in
theorem kb_X4_surfaceAt_0 {th : Nat} {x1 : Int32} {w : WX} {out : Nat} {H : Heap} {locs : List Loc} {ls : Array Slot} (C : CX p s m args meth c cX4_surfaceAt 2 RX4 wc_X4_surfaceAt (some (.object "SurfaceSums$Surface"))) (hth : KDx th = (4, 4)) (hG : Gd s G A 153 B (entX G B w) X H locs) (hl : lv_has ls 2 [(0, .ref (B + th)), (1, .int x1)]) (hf : sh_X4_surfaceAt th x1 w = some out) :
    W p l e rm_X4_surfaceAt s m args below meth c H locs 0 0 (MQ below (CPost G A 153 B (entX G B w) X (some (rv B out))) args s 0 0 A) (F0 m 0 ls []) := by
  refine lv_iload_n C.1 C.2.1 dX4_surfaceAt_0 rfl (lv_at hl 1 rfl) ?_
  rcases of_ite hf with ⟨c1, hf⟩ | ⟨c1, hf⟩
  · refine lv_if_lt (tgt := 9) C.1 C.2.1 dX4_surfaceAt_1 (by decide) (fun _ => ?_) (fun q => absurd c1 q)
    refine lv_null C.1 C.2.1 dX4_surfaceAt_9 ?_
    refine lv_goto (tgt := 19) C.1 C.2.1 dX4_surfaceAt_10 (by decide) ?_
    obtain rfl := Option.some.inj hf
    exact r_aretN C hG dX4_surfaceAt_19
  · refine lv_if_lt (tgt := 9) C.1 C.2.1 dX4_surfaceAt_1 (by decide) (fun q => absurd q c1) (fun _ => ?_)
    refine lv_iload_n C.1 C.2.1 dX4_surfaceAt_4 rfl (lv_at hl 1 rfl) ?_
    refine lv_iconst (v := nI 4) C.1 C.2.1 dX4_surfaceAt_5 (by decide) ?_
    rcases of_ite hf with ⟨c2, hf⟩ | ⟨c2, hf⟩
    · refine lv_icmp_lt (tgt := 13) C.1 C.2.1 dX4_surfaceAt_6 (by decide) (fun _ => ?_) (fun q => absurd c2 q)
      refine lv_aload_n C.1 C.2.1 dX4_surfaceAt_13 rfl (lv_at hl 0 rfl) ?_
      refine gf_X4_19 C hG hth dX4_surfaceAt_14 ?_
      refine lv_iload_n C.1 C.2.1 dX4_surfaceAt_17 rfl (lv_at hl 1 rfl) ?_
      obtain ⟨c3, hf⟩ := of_grd hf
      obtain ⟨c4, hf⟩ := of_grd hf
      refine r_aald C hG (c0 := (th + 2)) (t0 := 3) rfl (kdx_lt (kx_4_2 hth) (by decide)) (entX_S (kx_4_2 hth)) c3 (rfX_at c3) dX4_surfaceAt_18 ?_
      obtain rfl := Option.some.inj hf
      exact r_aret C hG (Nat.ne_of_lt (Nat.lt_trans (kdx_lt c4 (by decide)) (by decide))) dX4_surfaceAt_19
    · refine lv_icmp_lt (tgt := 13) C.1 C.2.1 dX4_surfaceAt_6 (by decide) (fun q => absurd q c2) (fun _ => ?_)
      refine lv_null C.1 C.2.1 dX4_surfaceAt_9 ?_
      refine lv_goto (tgt := 19) C.1 C.2.1 dX4_surfaceAt_10 (by decide) ?_
      obtain rfl := Option.some.inj hf
      exact r_aretN C hG dX4_surfaceAt_19
set_option maxRecDepth 100000 in
set_option maxHeartbeats 4000000 in
theorem mt_X4_surfaceAt (l : Launch) {G : GG} {A : Nat → Prop} {B : Nat} {X : va_W} {th : Nat} {x1 : Int32} {w : WX} {out : Nat} (hth : KDx th = (4, 4)) (hf : sh_X4_surfaceAt th x1 w = some out) : MetW l yX4_surfaceAt wc_X4_surfaceAt rm_X4_surfaceAt G A 153 B (entX G B w) X [.ref (B + th), .int x1] (some (rv B out)) (entX G B w) := by
  refine Met.ofW (cc := cX4_surfaceAt) (maxL := 2) (ret := (some (.object "SurfaceSums$Surface"))) (by decide) rfl ?_
  intro p e s m args below meth c s₁ B0 hml hv
  obtain ⟨rfl, hEv, hWd⟩ := hv
  have C : CX p s m _ meth c cX4_surfaceAt 2 RX4 wc_X4_surfaceAt (some (.object "SurfaceSums$Surface")) := ⟨B0.exec, B0.bytes, hml, findClass_of_methodNamed B0.named, atoms_spec (ws := wc_X4_surfaceAt) B0.pre, B0.returns, B0.notSynchronized⟩
  have hl := lv_entry [.ref (B + th), .int x1] (n := 2) (Nat.le_of_ble_eq_true rfl)
  rw [lg_entry_eq]
  generalize (lg_sl [.ref (B + th), .int x1] ++ List.replicate (2 - (lg_sl [.ref (B + th), .int x1]).length) Slot.unset).toArray = ls at hl ⊢
  have hl : lv_has ls 2 [(0, .ref (B + th)), (1, .int x1)] := hl
  exact kb_X4_surfaceAt_0 C hth ⟨hEv, hWd, va_S.rf⟩ hl hf
abbrev wc_X6_copyFrom : List Cond := Cond.code yX6_copyFrom cX6_copyFrom 2 none :: TG
abbrev rm_X6_copyFrom : Room := { frames := 2, cells := 0, slots := 0, locals := 100 }
theorem cd_X6_copyFrom : yX6_copyFrom.cls = RX6 ∧ yX6_copyFrom.cls ≠ "java/lang/invoke/MethodHandle" ∧ yX6_copyFrom.cls ≠ "java/lang/invoke/VarHandle" ∧ (parseMethodDescriptor yX6_copyFrom.desc).map (fun d => d.parameters.length) = some 1 := by decide +kernel
theorem dX6_copyFrom_0 : decode cX6_copyFrom 0 = .ok (.aload_n 0, 1) := by decide +kernel
theorem dX6_copyFrom_1 : decode cX6_copyFrom 1 = .ok (.aload_n 1, 1) := by decide +kernel
theorem dX6_copyFrom_2 : decode cX6_copyFrom 2 = .ok (.getfield 15, 3) := by decide +kernel
theorem dX6_copyFrom_5 : decode cX6_copyFrom 5 = .ok (.putfield 15, 3) := by decide +kernel
theorem dX6_copyFrom_8 : decode cX6_copyFrom 8 = .ok (.aload_n 0, 1) := by decide +kernel
theorem dX6_copyFrom_9 : decode cX6_copyFrom 9 = .ok (.aload_n 1, 1) := by decide +kernel
theorem dX6_copyFrom_10 : decode cX6_copyFrom 10 = .ok (.getfield 19, 3) := by decide +kernel
theorem dX6_copyFrom_13 : decode cX6_copyFrom 13 = .ok (.putfield 19, 3) := by decide +kernel
theorem dX6_copyFrom_16 : decode cX6_copyFrom 16 = .ok (.aload_n 1, 1) := by decide +kernel
theorem dX6_copyFrom_17 : decode cX6_copyFrom 17 = .ok (.getfield 9, 3) := by decide +kernel
theorem dX6_copyFrom_20 : decode cX6_copyFrom 20 = .ok (.iconst 0, 1) := by decide +kernel
theorem dX6_copyFrom_21 : decode cX6_copyFrom 21 = .ok (.aload_n 0, 1) := by decide +kernel
theorem dX6_copyFrom_22 : decode cX6_copyFrom 22 = .ok (.getfield 9, 3) := by decide +kernel
theorem dX6_copyFrom_25 : decode cX6_copyFrom 25 = .ok (.iconst 0, 1) := by decide +kernel
theorem dX6_copyFrom_26 : decode cX6_copyFrom 26 = .ok (.bipush 24, 2) := by decide +kernel
theorem dX6_copyFrom_28 : decode cX6_copyFrom 28 = .ok (.invokestatic 38, 3) := by decide +kernel
theorem dX6_copyFrom_31 : decode cX6_copyFrom 31 = .ok (.return_, 1) := by decide +kernel
set_option maxRecDepth 100000 in
set_option maxHeartbeats 4000000 in
theorem kb_X6_copyFrom_0 {th : Nat} {x1 : Nat} {w : WX} {out : WX} {H : Heap} {locs : List Loc} {ls : Array Slot} (C : CX p s m args meth c cX6_copyFrom 2 RX6 wc_X6_copyFrom none) (hth : KDx th = (6, 3)) (h1 : KDx x1 = (6, 3)) (hG : Gd s G A 153 B (entX G B w) X H locs) (hl : lv_has ls 2 [(0, .ref (B + th)), (1, .ref (B + x1))]) (hf : sh_X6_copyFrom th x1 w = some out) :
    W p l e rm_X6_copyFrom s m args below meth c H locs 0 0 (MQ below (CPost G A 153 B (entX G B out) X none) args s 0 0 A) (F0 m 0 ls []) := by
  refine lv_aload_n C.1 C.2.1 dX6_copyFrom_0 rfl (lv_at hl 0 rfl) ?_
  refine lv_aload_n C.1 C.2.1 dX6_copyFrom_1 rfl (lv_at hl 1 rfl) ?_
  refine gf_X6_15 C hG h1 dX6_copyFrom_2 ?_
  obtain ⟨w1, ew1, hf⟩ := of_letv hf
  refine pf_X6_15 C hG hth dX6_copyFrom_5 (fun H locs hG => ?_)
  rw [← ew1] at hG
  refine lv_aload_n C.1 C.2.1 dX6_copyFrom_8 rfl (lv_at hl 0 rfl) ?_
  refine lv_aload_n C.1 C.2.1 dX6_copyFrom_9 rfl (lv_at hl 1 rfl) ?_
  refine gf_X6_19 C hG h1 dX6_copyFrom_10 ?_
  obtain ⟨w2, ew2, hf⟩ := of_letv hf
  refine pf_X6_19 C hG hth dX6_copyFrom_13 (fun H locs hG => ?_)
  rw [← ew2] at hG
  refine lv_aload_n C.1 C.2.1 dX6_copyFrom_16 rfl (lv_at hl 1 rfl) ?_
  refine gf_X6_9 C hG h1 dX6_copyFrom_17 ?_
  refine lv_iconst (v := nI 0) C.1 C.2.1 dX6_copyFrom_20 (by decide) ?_
  refine lv_aload_n C.1 C.2.1 dX6_copyFrom_21 rfl (lv_at hl 0 rfl) ?_
  refine gf_X6_9 C hG hth dX6_copyFrom_22 ?_
  refine lv_iconst (v := nI 0) C.1 C.2.1 dX6_copyFrom_25 (by decide) ?_
  refine lv_bipush (v := nI 24) C.1 C.2.1 dX6_copyFrom_26 (by decide) ?_
  obtain ⟨w3, hw3, hf⟩ := of_bind hf
  obtain ⟨bw3, ew3⟩ := of_cpX hw3
  refine r_copy C hG hl.1 (List.mem_cons_of_mem _ tg_3_0) (List.mem_cons_of_mem _ tg_3_2) (List.mem_cons_of_mem _ tg_3_1) (List.mem_cons_of_mem _ tg_1_13) (c0 := (x1 + 1)) (c1 := (th + 1)) (kdx_lt (kx_6_0 h1) (by decide)) (kdx_lt (kx_6_0 hth) (by decide)) (entX_I (kx_6_0 h1)) (entX_I (kx_6_0 hth)) bw3 (E' := (entX G B w3)) (by rw [ew3]; exact upX_cp (kx_6_0 hth)) (Nat.le_of_ble_eq_true rfl) (Nat.le_of_ble_eq_true rfl) dX6_copyFrom_28 (fun H locs hG => ?_)
  obtain rfl := Option.some.inj hf
  exact r_vret C hG dX6_copyFrom_31
set_option maxRecDepth 100000 in
set_option maxHeartbeats 4000000 in
theorem mt_X6_copyFrom (l : Launch) {G : GG} {A : Nat → Prop} {B : Nat} {X : va_W} {th : Nat} {x1 : Nat} {w : WX} {out : WX} (hth : KDx th = (6, 3)) (h1 : KDx x1 = (6, 3)) (hf : sh_X6_copyFrom th x1 w = some out) : MetW l yX6_copyFrom wc_X6_copyFrom rm_X6_copyFrom G A 153 B (entX G B w) X [.ref (B + th), .ref (B + x1)] none (entX G B out) := by
  refine Met.ofW (cc := cX6_copyFrom) (maxL := 2) (ret := none) (by decide) rfl ?_
  intro p e s m args below meth c s₁ B0 hml hv
  obtain ⟨rfl, hEv, hWd⟩ := hv
  have C : CX p s m _ meth c cX6_copyFrom 2 RX6 wc_X6_copyFrom none := ⟨B0.exec, B0.bytes, hml, findClass_of_methodNamed B0.named, atoms_spec (ws := wc_X6_copyFrom) B0.pre, B0.returns, B0.notSynchronized⟩
  have hl := lv_entry [.ref (B + th), .ref (B + x1)] (n := 2) (Nat.le_of_ble_eq_true rfl)
  rw [lg_entry_eq]
  generalize (lg_sl [.ref (B + th), .ref (B + x1)] ++ List.replicate (2 - (lg_sl [.ref (B + th), .ref (B + x1)]).length) Slot.unset).toArray = ls at hl ⊢
  have hl : lv_has ls 2 [(0, .ref (B + th)), (1, .ref (B + x1))] := hl
  exact kb_X6_copyFrom_0 C hth h1 ⟨hEv, hWd, va_S.rf⟩ hl hf
abbrev wc_X4_copyFrom : List Cond := Cond.code yX4_copyFrom cX4_copyFrom 4 none :: TG
abbrev rm_X4_copyFrom : Room := { frames := 6, cells := 0, slots := 0, locals := 193 }
theorem cd_X4_copyFrom : yX4_copyFrom.cls = RX4 ∧ yX4_copyFrom.cls ≠ "java/lang/invoke/MethodHandle" ∧ yX4_copyFrom.cls ≠ "java/lang/invoke/VarHandle" ∧ (parseMethodDescriptor yX4_copyFrom.desc).map (fun d => d.parameters.length) = some 1 := by decide +kernel
theorem dX4_copyFrom_0 : decode cX4_copyFrom 0 = .ok (.aload_n 0, 1) := by decide +kernel
theorem dX4_copyFrom_1 : decode cX4_copyFrom 1 = .ok (.aload_n 1, 1) := by decide +kernel
theorem dX4_copyFrom_2 : decode cX4_copyFrom 2 = .ok (.getfield 32, 3) := by decide +kernel
theorem dX4_copyFrom_5 : decode cX4_copyFrom 5 = .ok (.putfield 32, 3) := by decide +kernel
theorem dX4_copyFrom_8 : decode cX4_copyFrom 8 = .ok (.iconst 0, 1) := by decide +kernel
theorem dX4_copyFrom_9 : decode cX4_copyFrom 9 = .ok (.istore_n 2, 1) := by decide +kernel
theorem dX4_copyFrom_10 : decode cX4_copyFrom 10 = .ok (.iload_n 2, 1) := by decide +kernel
theorem dX4_copyFrom_11 : decode cX4_copyFrom 11 = .ok (.aload_n 0, 1) := by decide +kernel
theorem dX4_copyFrom_12 : decode cX4_copyFrom 12 = .ok (.getfield 32, 3) := by decide +kernel
theorem dX4_copyFrom_15 : decode cX4_copyFrom 15 = .ok (.if_icmp .ge 37, 3) := by decide +kernel
theorem dX4_copyFrom_18 : decode cX4_copyFrom 18 = .ok (.aload_n 1, 1) := by decide +kernel
theorem dX4_copyFrom_19 : decode cX4_copyFrom 19 = .ok (.getfield 11, 3) := by decide +kernel
theorem dX4_copyFrom_22 : decode cX4_copyFrom 22 = .ok (.iload_n 2, 1) := by decide +kernel
theorem dX4_copyFrom_23 : decode cX4_copyFrom 23 = .ok (.aaload, 1) := by decide +kernel
theorem dX4_copyFrom_24 : decode cX4_copyFrom 24 = .ok (.astore_n 3, 1) := by decide +kernel
theorem dX4_copyFrom_25 : decode cX4_copyFrom 25 = .ok (.aload_n 0, 1) := by decide +kernel
theorem dX4_copyFrom_26 : decode cX4_copyFrom 26 = .ok (.getfield 11, 3) := by decide +kernel
theorem dX4_copyFrom_29 : decode cX4_copyFrom 29 = .ok (.iload_n 2, 1) := by decide +kernel
theorem dX4_copyFrom_30 : decode cX4_copyFrom 30 = .ok (.aaload, 1) := by decide +kernel
theorem dX4_copyFrom_31 : decode cX4_copyFrom 31 = .ok (.aload_n 3, 1) := by decide +kernel
theorem dX4_copyFrom_32 : decode cX4_copyFrom 32 = .ok (.getfield 36, 3) := by decide +kernel
theorem dX4_copyFrom_35 : decode cX4_copyFrom 35 = .ok (.aload_n 3, 1) := by decide +kernel
theorem dX4_copyFrom_36 : decode cX4_copyFrom 36 = .ok (.getfield 39, 3) := by decide +kernel
theorem dX4_copyFrom_39 : decode cX4_copyFrom 39 = .ok (.aload_n 3, 1) := by decide +kernel
theorem dX4_copyFrom_40 : decode cX4_copyFrom 40 = .ok (.getfield 42, 3) := by decide +kernel
theorem dX4_copyFrom_43 : decode cX4_copyFrom 43 = .ok (.invokevirtual 45, 3) := by decide +kernel
theorem dX4_copyFrom_46 : decode cX4_copyFrom 46 = .ok (.iinc 2 1, 3) := by decide +kernel
theorem dX4_copyFrom_49 : decode cX4_copyFrom 49 = .ok (.goto (-39), 3) := by decide +kernel
theorem dX4_copyFrom_52 : decode cX4_copyFrom 52 = .ok (.iconst 0, 1) := by decide +kernel
theorem dX4_copyFrom_53 : decode cX4_copyFrom 53 = .ok (.istore_n 2, 1) := by decide +kernel
theorem dX4_copyFrom_54 : decode cX4_copyFrom 54 = .ok (.iload_n 2, 1) := by decide +kernel
theorem dX4_copyFrom_55 : decode cX4_copyFrom 55 = .ok (.iconst 4, 1) := by decide +kernel
theorem dX4_copyFrom_56 : decode cX4_copyFrom 56 = .ok (.if_icmp .ge 24, 3) := by decide +kernel
theorem dX4_copyFrom_59 : decode cX4_copyFrom 59 = .ok (.aload_n 0, 1) := by decide +kernel
theorem dX4_copyFrom_60 : decode cX4_copyFrom 60 = .ok (.getfield 19, 3) := by decide +kernel
theorem dX4_copyFrom_63 : decode cX4_copyFrom 63 = .ok (.iload_n 2, 1) := by decide +kernel
theorem dX4_copyFrom_64 : decode cX4_copyFrom 64 = .ok (.aaload, 1) := by decide +kernel
theorem dX4_copyFrom_65 : decode cX4_copyFrom 65 = .ok (.aload_n 1, 1) := by decide +kernel
theorem dX4_copyFrom_66 : decode cX4_copyFrom 66 = .ok (.getfield 19, 3) := by decide +kernel
theorem dX4_copyFrom_69 : decode cX4_copyFrom 69 = .ok (.iload_n 2, 1) := by decide +kernel
theorem dX4_copyFrom_70 : decode cX4_copyFrom 70 = .ok (.aaload, 1) := by decide +kernel
theorem dX4_copyFrom_71 : decode cX4_copyFrom 71 = .ok (.invokevirtual 49, 3) := by decide +kernel
theorem dX4_copyFrom_74 : decode cX4_copyFrom 74 = .ok (.iinc 2 1, 3) := by decide +kernel
theorem dX4_copyFrom_77 : decode cX4_copyFrom 77 = .ok (.goto (-23), 3) := by decide +kernel
theorem dX4_copyFrom_80 : decode cX4_copyFrom 80 = .ok (.aload_n 0, 1) := by decide +kernel
theorem dX4_copyFrom_81 : decode cX4_copyFrom 81 = .ok (.getfield 26, 3) := by decide +kernel
theorem dX4_copyFrom_84 : decode cX4_copyFrom 84 = .ok (.aload_n 1, 1) := by decide +kernel
theorem dX4_copyFrom_85 : decode cX4_copyFrom 85 = .ok (.getfield 26, 3) := by decide +kernel
theorem dX4_copyFrom_88 : decode cX4_copyFrom 88 = .ok (.invokevirtual 53, 3) := by decide +kernel
theorem dX4_copyFrom_91 : decode cX4_copyFrom 91 = .ok (.return_, 1) := by decide +kernel
set_option maxRecDepth 100000 in
set_option maxHeartbeats 4000000 in
theorem kb_X4_copyFrom_10 {th : Nat} {x1 : Nat} {st : Int32 × WX} {r : (Int32 × WX) ⊕ ((WX))} {H : Heap} {locs : List Loc} {ls : Array Slot} (C : CX p s m args meth c cX4_copyFrom 4 RX4 wc_X4_copyFrom none) (hth : KDx th = (4, 4)) (h1 : KDx x1 = (4, 4)) (hG : Gd s G A 153 B (entX G B st.2) X H locs) (hl : lv_has ls 4 [(0, .ref (B + th)), (1, .ref (B + x1)), (2, .int st.1)]) (hf : sh_X4_copyFrom_s10 th x1 st = some r)
    (kL : ∀ st' : Int32 × WX, r = Sum.inl st' → ∀ (H : Heap) (locs : List Loc) (ls : Array Slot), Gd s G A 153 B (entX G B st'.2) X H locs → lv_has ls 4 [(0, .ref (B + th)), (1, .ref (B + x1)), (2, .int st'.1)] → W p l e rm_X4_copyFrom s m args below meth c H locs 0 0 Q (F0 m 10 ls []))
    (kX0 : ∀ y' : WX, r = Sum.inr y' → ∀ (H : Heap) (locs : List Loc) (ls : Array Slot), Gd s G A 153 B (entX G B y') X H locs → lv_has ls 4 [(0, .ref (B + th)), (1, .ref (B + x1))] → W p l e rm_X4_copyFrom s m args below meth c H locs 0 0 Q (F0 m 52 ls [])) :
    W p l e rm_X4_copyFrom s m args below meth c H locs 0 0 Q (F0 m 10 ls []) := by
  refine lv_iload_n C.1 C.2.1 dX4_copyFrom_10 rfl (lv_at hl 2 rfl) ?_
  refine lv_aload_n C.1 C.2.1 dX4_copyFrom_11 rfl (lv_at hl 0 rfl) ?_
  refine gf_X4_32 C hG hth dX4_copyFrom_12 ?_
  rcases of_ite hf with ⟨c1, hf⟩ | ⟨c1, hf⟩
  · refine lv_icmp_ge (tgt := 52) C.1 C.2.1 dX4_copyFrom_15 (by decide) (fun _ => ?_) (fun q => absurd c1 q)
    obtain rfl := Option.some.inj hf
    exact kX0 _ rfl _ _ _ hG (lv_sub hl [0, 1] rfl)
  · refine lv_icmp_ge (tgt := 52) C.1 C.2.1 dX4_copyFrom_15 (by decide) (fun q => absurd q c1) (fun _ => ?_)
    refine lv_aload_n C.1 C.2.1 dX4_copyFrom_18 rfl (lv_at hl 1 rfl) ?_
    refine gf_X4_11 C hG h1 dX4_copyFrom_19 ?_
    refine lv_iload_n C.1 C.2.1 dX4_copyFrom_22 rfl (lv_at hl 2 rfl) ?_
    obtain ⟨c2, hf⟩ := of_grd hf
    obtain ⟨c3, hf⟩ := of_grd hf
    refine r_aald C hG (c0 := (x1 + 1)) (t0 := 2) rfl (kdx_lt (kx_4_0 h1) (by decide)) (entX_A (kx_4_0 h1)) c2 (rfX_at c2) dX4_copyFrom_23 ?_
    refine lv_astore_n (lv' := [(3, .ref (B + ((x1 + 1) + 5 + 10 * st.1.toNatClampNeg))), (0, .ref (B + th)), (1, .ref (B + x1)), (2, .int st.1)]) C.1 C.2.1 dX4_copyFrom_24 rfl hl (by decide) rfl (fun ls hl => ?_)
    refine lv_aload_n C.1 C.2.1 dX4_copyFrom_25 rfl (lv_at hl 1 rfl) ?_
    refine gf_X4_11 C hG hth dX4_copyFrom_26 ?_
    refine lv_iload_n C.1 C.2.1 dX4_copyFrom_29 rfl (lv_at hl 3 rfl) ?_
    obtain ⟨c4, hf⟩ := of_grd hf
    obtain ⟨c5, hf⟩ := of_grd hf
    refine r_aald C hG (c0 := (th + 1)) (t0 := 2) rfl (kdx_lt (kx_4_0 hth) (by decide)) (entX_A (kx_4_0 hth)) c4 (rfX_at c4) dX4_copyFrom_30 ?_
    refine lv_aload_n C.1 C.2.1 dX4_copyFrom_31 rfl (lv_at hl 0 rfl) ?_
    refine gf_X4_36 C hG c3 dX4_copyFrom_32 ?_
    refine lv_aload_n C.1 C.2.1 dX4_copyFrom_35 rfl (lv_at hl 0 rfl) ?_
    refine gf_X4_39 C hG c3 dX4_copyFrom_36 ?_
    refine lv_aload_n C.1 C.2.1 dX4_copyFrom_39 rfl (lv_at hl 0 rfl) ?_
    refine gf_X4_42 C hG c3 dX4_copyFrom_40 ?_
    obtain ⟨w6, hw6, hf⟩ := of_bind hf
    refine r_callV0 C hG hl.1 (c0 := (th + 1) + 5 + 10 * st.1.toNatClampNeg) (As := [.int (st.2.1 ((x1 + 1) + 5 + 10 * st.1.toNatClampNeg) 0), .int (st.2.1 ((x1 + 1) + 5 + 10 * st.1.toNatClampNeg) 1), .int (st.2.1 ((x1 + 1) + 5 + 10 * st.1.toNatClampNeg) 2)]) (kdx_lt c5 (by decide)) (entX_O0 c5) rfl (mt_X0_make l c5 hw6) (cwV 3 C.2.2.2.2.1 (gd_V tg_4_59 tg_2_61 tg_2_62 tg_1_4 tg_2_63) rfl rfl rfl cd_X0_make ⟨Nat.le_of_ble_eq_true rfl, Nat.le_of_ble_eq_true rfl⟩) rfl rfl (Nat.le_of_ble_eq_true rfl) dX4_copyFrom_43 (fun H locs hG => ?_)
    obtain ⟨v7, ev7, hf⟩ := of_letv hf
    refine lv_iinc (v := v7) (lv' := [(2, .int v7), (3, .ref (B + ((x1 + 1) + 5 + 10 * st.1.toNatClampNeg))), (0, .ref (B + th)), (1, .ref (B + x1))]) C.1 C.2.1 dX4_copyFrom_46 hl (k := 3) rfl (by rw [ev7, show Int32.ofInt (1) = nI 1 from by decide]) (by decide) rfl (fun ls hl => ?_)
    refine lv_goto (tgt := 10) C.1 C.2.1 dX4_copyFrom_49 (by decide) ?_
    obtain rfl := Option.some.inj hf
    exact kL _ rfl _ _ _ hG (lv_sub hl [2, 3, 0] rfl)
set_option maxRecDepth 100000 in
set_option maxHeartbeats 4000000 in
theorem kl_X4_copyFrom_10 {th : Nat} {x1 : Nat} (C : CX p s m args meth c cX4_copyFrom 4 RX4 wc_X4_copyFrom none) (hth : KDx th = (4, 4)) (h1 : KDx x1 = (4, 4)) : ∀ (n : Nat) (st : Int32 × WX) (x : (WX)) (H : Heap) (locs : List Loc) (ls : Array Slot), Gd s G A 153 B (entX G B st.2) X H locs → lv_has ls 4 [(0, .ref (B + th)), (1, .ref (B + x1)), (2, .int st.1)] → lpw (sh_X4_copyFrom_s10 th x1) n st = some x →
    (∀ y' : WX, x = y' → ∀ (H : Heap) (locs : List Loc) (ls : Array Slot), Gd s G A 153 B (entX G B y') X H locs → lv_has ls 4 [(0, .ref (B + th)), (1, .ref (B + x1))] → W p l e rm_X4_copyFrom s m args below meth c H locs 0 0 Q (F0 m 52 ls [])) → W p l e rm_X4_copyFrom s m args below meth c H locs 0 0 Q (F0 m 10 ls []) := by
  intro n
  induction n with
  | zero =>
    intro st x H locs ls hG hl hf
    cases hf
  | succ n ih =>
    intro st x H locs ls hG hl hf kX0
    obtain ⟨r, hr, hh⟩ := of_lpw hf
    refine kb_X4_copyFrom_10 C hth h1 hG hl hr (fun st2 e1 H locs ls hG hl => ?_) (fun y2 e1 H locs ls hG hl => ?_)
    · rcases hh with ⟨s3, e2, hh⟩ | e2
      · rw [e2] at e1
        cases e1
        exact ih _ _ _ _ _ hG hl hh kX0
      · rw [e2] at e1
        cases e1
    · rcases hh with ⟨s3, e2, hh⟩ | e2
      · rw [e2] at e1
        cases e1
      · rw [e2] at e1
        cases e1
        exact kX0 _ rfl _ _ _ hG hl
set_option maxRecDepth 100000 in
set_option maxHeartbeats 4000000 in
theorem kb_X4_copyFrom_54 {th : Nat} {x1 : Nat} {st : Int32 × WX} {r : (Int32 × WX) ⊕ ((WX))} {H : Heap} {locs : List Loc} {ls : Array Slot} (C : CX p s m args meth c cX4_copyFrom 4 RX4 wc_X4_copyFrom none) (hth : KDx th = (4, 4)) (h1 : KDx x1 = (4, 4)) (hG : Gd s G A 153 B (entX G B st.2) X H locs) (hl : lv_has ls 4 [(0, .ref (B + th)), (1, .ref (B + x1)), (2, .int st.1)]) (hf : sh_X4_copyFrom_s54 th x1 st = some r)
    (kL : ∀ st' : Int32 × WX, r = Sum.inl st' → ∀ (H : Heap) (locs : List Loc) (ls : Array Slot), Gd s G A 153 B (entX G B st'.2) X H locs → lv_has ls 4 [(0, .ref (B + th)), (1, .ref (B + x1)), (2, .int st'.1)] → W p l e rm_X4_copyFrom s m args below meth c H locs 0 0 Q (F0 m 54 ls []))
    (kX0 : ∀ y' : WX, r = Sum.inr y' → ∀ (H : Heap) (locs : List Loc) (ls : Array Slot), Gd s G A 153 B (entX G B y') X H locs → lv_has ls 4 [(0, .ref (B + th)), (1, .ref (B + x1))] → W p l e rm_X4_copyFrom s m args below meth c H locs 0 0 Q (F0 m 80 ls [])) :
    W p l e rm_X4_copyFrom s m args below meth c H locs 0 0 Q (F0 m 54 ls []) := by
  refine lv_iload_n C.1 C.2.1 dX4_copyFrom_54 rfl (lv_at hl 2 rfl) ?_
  refine lv_iconst (v := nI 4) C.1 C.2.1 dX4_copyFrom_55 (by decide) ?_
  rcases of_ite hf with ⟨c1, hf⟩ | ⟨c1, hf⟩
  · refine lv_icmp_ge (tgt := 80) C.1 C.2.1 dX4_copyFrom_56 (by decide) (fun _ => ?_) (fun q => absurd c1 q)
    obtain rfl := Option.some.inj hf
    exact kX0 _ rfl _ _ _ hG (lv_sub hl [0, 1] rfl)
  · refine lv_icmp_ge (tgt := 80) C.1 C.2.1 dX4_copyFrom_56 (by decide) (fun q => absurd q c1) (fun _ => ?_)
    refine lv_aload_n C.1 C.2.1 dX4_copyFrom_59 rfl (lv_at hl 0 rfl) ?_
    refine gf_X4_19 C hG hth dX4_copyFrom_60 ?_
    refine lv_iload_n C.1 C.2.1 dX4_copyFrom_63 rfl (lv_at hl 2 rfl) ?_
    obtain ⟨c2, hf⟩ := of_grd hf
    obtain ⟨c3, hf⟩ := of_grd hf
    refine r_aald C hG (c0 := (th + 2)) (t0 := 3) rfl (kdx_lt (kx_4_2 hth) (by decide)) (entX_S (kx_4_2 hth)) c2 (rfX_at c2) dX4_copyFrom_64 ?_
    refine lv_aload_n C.1 C.2.1 dX4_copyFrom_65 rfl (lv_at hl 1 rfl) ?_
    refine gf_X4_19 C hG h1 dX4_copyFrom_66 ?_
    refine lv_iload_n C.1 C.2.1 dX4_copyFrom_69 rfl (lv_at hl 2 rfl) ?_
    obtain ⟨c4, hf⟩ := of_grd hf
    obtain ⟨c5, hf⟩ := of_grd hf
    refine r_aald C hG (c0 := (x1 + 2)) (t0 := 3) rfl (kdx_lt (kx_4_2 h1) (by decide)) (entX_S (kx_4_2 h1)) c4 (rfX_at c4) dX4_copyFrom_70 ?_
    obtain ⟨w6, hw6, hf⟩ := of_bind hf
    refine r_callV0 C hG hl.1 (c0 := (th + 2) + 44 + 2 * st.1.toNatClampNeg) (As := [.ref (B + ((x1 + 2) + 44 + 2 * st.1.toNatClampNeg))]) (kdx_lt c3 (by decide)) (entX_O6 c3) rfl (mt_X6_copyFrom l c3 c5 hw6) (cwV 1 C.2.2.2.2.1 (gd_V tg_4_60 tg_2_237 tg_2_238 tg_1_5 tg_2_239) rfl rfl rfl cd_X6_copyFrom ⟨Nat.le_of_ble_eq_true rfl, Nat.le_of_ble_eq_true rfl⟩) rfl rfl (Nat.le_of_ble_eq_true rfl) dX4_copyFrom_71 (fun H locs hG => ?_)
    obtain ⟨v7, ev7, hf⟩ := of_letv hf
    refine lv_iinc (v := v7) (lv' := [(2, .int v7), (0, .ref (B + th)), (1, .ref (B + x1))]) C.1 C.2.1 dX4_copyFrom_74 hl (k := 2) rfl (by rw [ev7, show Int32.ofInt (1) = nI 1 from by decide]) (by decide) rfl (fun ls hl => ?_)
    refine lv_goto (tgt := 54) C.1 C.2.1 dX4_copyFrom_77 (by decide) ?_
    obtain rfl := Option.some.inj hf
    exact kL _ rfl _ _ _ hG (lv_sub hl [1, 2, 0] rfl)
set_option maxRecDepth 100000 in
set_option maxHeartbeats 4000000 in
theorem kl_X4_copyFrom_54 {th : Nat} {x1 : Nat} (C : CX p s m args meth c cX4_copyFrom 4 RX4 wc_X4_copyFrom none) (hth : KDx th = (4, 4)) (h1 : KDx x1 = (4, 4)) : ∀ (n : Nat) (st : Int32 × WX) (x : (WX)) (H : Heap) (locs : List Loc) (ls : Array Slot), Gd s G A 153 B (entX G B st.2) X H locs → lv_has ls 4 [(0, .ref (B + th)), (1, .ref (B + x1)), (2, .int st.1)] → lpw (sh_X4_copyFrom_s54 th x1) n st = some x →
    (∀ y' : WX, x = y' → ∀ (H : Heap) (locs : List Loc) (ls : Array Slot), Gd s G A 153 B (entX G B y') X H locs → lv_has ls 4 [(0, .ref (B + th)), (1, .ref (B + x1))] → W p l e rm_X4_copyFrom s m args below meth c H locs 0 0 Q (F0 m 80 ls [])) → W p l e rm_X4_copyFrom s m args below meth c H locs 0 0 Q (F0 m 54 ls []) := by
  intro n
  induction n with
  | zero =>
    intro st x H locs ls hG hl hf
    cases hf
  | succ n ih =>
    intro st x H locs ls hG hl hf kX0
    obtain ⟨r, hr, hh⟩ := of_lpw hf
    refine kb_X4_copyFrom_54 C hth h1 hG hl hr (fun st2 e1 H locs ls hG hl => ?_) (fun y2 e1 H locs ls hG hl => ?_)
    · rcases hh with ⟨s3, e2, hh⟩ | e2
      · rw [e2] at e1
        cases e1
        exact ih _ _ _ _ _ hG hl hh kX0
      · rw [e2] at e1
        cases e1
    · rcases hh with ⟨s3, e2, hh⟩ | e2
      · rw [e2] at e1
        cases e1
      · rw [e2] at e1
        cases e1
        exact kX0 _ rfl _ _ _ hG hl
set_option maxRecDepth 100000 in
set_option maxHeartbeats 4000000 in
theorem kb_X4_copyFrom_0 {th : Nat} {x1 : Nat} {w : WX} {out : WX} {H : Heap} {locs : List Loc} {ls : Array Slot} (C : CX p s m args meth c cX4_copyFrom 4 RX4 wc_X4_copyFrom none) (hth : KDx th = (4, 4)) (h1 : KDx x1 = (4, 4)) (hG : Gd s G A 153 B (entX G B w) X H locs) (hl : lv_has ls 4 [(0, .ref (B + th)), (1, .ref (B + x1))]) (hf : sh_X4_copyFrom th x1 w = some out) :
    W p l e rm_X4_copyFrom s m args below meth c H locs 0 0 (MQ below (CPost G A 153 B (entX G B out) X none) args s 0 0 A) (F0 m 0 ls []) := by
  refine lv_aload_n C.1 C.2.1 dX4_copyFrom_0 rfl (lv_at hl 0 rfl) ?_
  refine lv_aload_n C.1 C.2.1 dX4_copyFrom_1 rfl (lv_at hl 1 rfl) ?_
  refine gf_X4_32 C hG h1 dX4_copyFrom_2 ?_
  obtain ⟨w1, ew1, hf⟩ := of_letv hf
  refine pf_X4_32 C hG hth dX4_copyFrom_5 (fun H locs hG => ?_)
  rw [← ew1] at hG
  refine lv_iconst (v := nI 0) C.1 C.2.1 dX4_copyFrom_8 (by decide) ?_
  refine lv_istore_n (lv' := [(2, .int (nI 0)), (0, .ref (B + th)), (1, .ref (B + x1))]) C.1 C.2.1 dX4_copyFrom_9 rfl hl (by decide) rfl (fun ls hl => ?_)
  obtain ⟨ex2, hex2, hf⟩ := of_bind hf
  refine kl_X4_copyFrom_10 C hth h1 FU (nI 0, w1) ex2 _ _ _ hG (lv_sub hl [1, 2, 0] rfl) hex2 (fun y e0 H locs ls hG hl => ?_)
  subst e0
  refine lv_iconst (v := nI 0) C.1 C.2.1 dX4_copyFrom_52 (by decide) ?_
  refine lv_istore_n (lv' := [(2, .int (nI 0)), (0, .ref (B + th)), (1, .ref (B + x1))]) C.1 C.2.1 dX4_copyFrom_53 rfl hl (by decide) rfl (fun ls hl => ?_)
  obtain ⟨ex3, hex3, hf⟩ := of_bind hf
  refine kl_X4_copyFrom_54 C hth h1 FU (nI 0, ex2) ex3 _ _ _ hG (lv_sub hl [1, 2, 0] rfl) hex3 (fun y e0 H locs ls hG hl => ?_)
  subst e0
  refine lv_aload_n C.1 C.2.1 dX4_copyFrom_80 rfl (lv_at hl 0 rfl) ?_
  refine gf_X4_26 C hG hth dX4_copyFrom_81 ?_
  refine lv_aload_n C.1 C.2.1 dX4_copyFrom_84 rfl (lv_at hl 1 rfl) ?_
  refine gf_X4_26 C hG h1 dX4_copyFrom_85 ?_
  obtain ⟨w4, hw4, hf⟩ := of_bind hf
  refine r_callV0 C hG hl.1 (c0 := (th + 3)) (As := [.ref (B + (x1 + 3))]) (kdx_lt (kx_4_3 hth) (by decide)) (entX_O3 (kx_4_3 hth)) rfl (mt_X3_copyFrom l (kx_4_3 hth) (kx_4_3 h1) hw4) (cwV 1 C.2.2.2.2.1 (gd_V tg_4_61 tg_4_62 tg_4_63 tg_1_3 tg_4_64) rfl rfl rfl cd_X3_copyFrom ⟨Nat.le_of_ble_eq_true rfl, Nat.le_of_ble_eq_true rfl⟩) rfl rfl (Nat.le_of_ble_eq_true rfl) dX4_copyFrom_88 (fun H locs hG => ?_)
  obtain rfl := Option.some.inj hf
  exact r_vret C hG dX4_copyFrom_91
set_option maxRecDepth 100000 in
set_option maxHeartbeats 4000000 in
theorem mt_X4_copyFrom (l : Launch) {G : GG} {A : Nat → Prop} {B : Nat} {X : va_W} {th : Nat} {x1 : Nat} {w : WX} {out : WX} (hth : KDx th = (4, 4)) (h1 : KDx x1 = (4, 4)) (hf : sh_X4_copyFrom th x1 w = some out) : MetW l yX4_copyFrom wc_X4_copyFrom rm_X4_copyFrom G A 153 B (entX G B w) X [.ref (B + th), .ref (B + x1)] none (entX G B out) := by
  refine Met.ofW (cc := cX4_copyFrom) (maxL := 4) (ret := none) (by decide) rfl ?_
  intro p e s m args below meth c s₁ B0 hml hv
  obtain ⟨rfl, hEv, hWd⟩ := hv
  have C : CX p s m _ meth c cX4_copyFrom 4 RX4 wc_X4_copyFrom none := ⟨B0.exec, B0.bytes, hml, findClass_of_methodNamed B0.named, atoms_spec (ws := wc_X4_copyFrom) B0.pre, B0.returns, B0.notSynchronized⟩
  have hl := lv_entry [.ref (B + th), .ref (B + x1)] (n := 4) (Nat.le_of_ble_eq_true rfl)
  rw [lg_entry_eq]
  generalize (lg_sl [.ref (B + th), .ref (B + x1)] ++ List.replicate (4 - (lg_sl [.ref (B + th), .ref (B + x1)]).length) Slot.unset).toArray = ls at hl ⊢
  have hl : lv_has ls 4 [(0, .ref (B + th)), (1, .ref (B + x1))] := hl
  exact kb_X4_copyFrom_0 C hth h1 ⟨hEv, hWd, va_S.rf⟩ hl hf
abbrev wc_X6_append : List Cond := Cond.code yX6_append cX6_append 2 (some .boolean) :: TG
abbrev rm_X6_append : Room := { frames := 3, cells := 0, slots := 0, locals := 121 }
theorem cd_X6_append : yX6_append.cls = RX6 ∧ yX6_append.cls ≠ "java/lang/invoke/MethodHandle" ∧ yX6_append.cls ≠ "java/lang/invoke/VarHandle" ∧ (parseMethodDescriptor yX6_append.desc).map (fun d => d.parameters.length) = some 1 := by decide +kernel
theorem dX6_append_0 : decode cX6_append 0 = .ok (.aload_n 0, 1) := by decide +kernel
theorem dX6_append_1 : decode cX6_append 1 = .ok (.getfield 15, 3) := by decide +kernel
theorem dX6_append_4 : decode cX6_append 4 = .ok (.bipush 24, 2) := by decide +kernel
theorem dX6_append_6 : decode cX6_append 6 = .ok (.if_icmp .ge 14, 3) := by decide +kernel
theorem dX6_append_9 : decode cX6_append 9 = .ok (.iload_n 1, 1) := by decide +kernel
theorem dX6_append_10 : decode cX6_append 10 = .ok (.aload_n 0, 1) := by decide +kernel
theorem dX6_append_11 : decode cX6_append 11 = .ok (.getfield 19, 3) := by decide +kernel
theorem dX6_append_14 : decode cX6_append 14 = .ok (.invokestatic 22, 3) := by decide +kernel
theorem dX6_append_17 : decode cX6_append 17 = .ok (.ifCond .ne 5, 3) := by decide +kernel
theorem dX6_append_20 : decode cX6_append 20 = .ok (.iconst 0, 1) := by decide +kernel
theorem dX6_append_21 : decode cX6_append 21 = .ok (.ireturn, 1) := by decide +kernel
theorem dX6_append_22 : decode cX6_append 22 = .ok (.aload_n 0, 1) := by decide +kernel
theorem dX6_append_23 : decode cX6_append 23 = .ok (.getfield 9, 3) := by decide +kernel
theorem dX6_append_26 : decode cX6_append 26 = .ok (.aload_n 0, 1) := by decide +kernel
theorem dX6_append_27 : decode cX6_append 27 = .ok (.getfield 15, 3) := by decide +kernel
theorem dX6_append_30 : decode cX6_append 30 = .ok (.iload_n 1, 1) := by decide +kernel
theorem dX6_append_31 : decode cX6_append 31 = .ok (.iastore, 1) := by decide +kernel
theorem dX6_append_32 : decode cX6_append 32 = .ok (.aload_n 0, 1) := by decide +kernel
theorem dX6_append_33 : decode cX6_append 33 = .ok (.dup, 1) := by decide +kernel
theorem dX6_append_34 : decode cX6_append 34 = .ok (.getfield 15, 3) := by decide +kernel
theorem dX6_append_37 : decode cX6_append 37 = .ok (.iconst 1, 1) := by decide +kernel
theorem dX6_append_38 : decode cX6_append 38 = .ok (.iadd, 1) := by decide +kernel
theorem dX6_append_39 : decode cX6_append 39 = .ok (.putfield 15, 3) := by decide +kernel
theorem dX6_append_42 : decode cX6_append 42 = .ok (.aload_n 0, 1) := by decide +kernel
theorem dX6_append_43 : decode cX6_append 43 = .ok (.dup, 1) := by decide +kernel
theorem dX6_append_44 : decode cX6_append 44 = .ok (.getfield 19, 3) := by decide +kernel
theorem dX6_append_47 : decode cX6_append 47 = .ok (.getstatic 26, 3) := by decide +kernel
theorem dX6_append_50 : decode cX6_append 50 = .ok (.iload_n 1, 1) := by decide +kernel
theorem dX6_append_51 : decode cX6_append 51 = .ok (.iaload, 1) := by decide +kernel
theorem dX6_append_52 : decode cX6_append 52 = .ok (.iadd, 1) := by decide +kernel
theorem dX6_append_53 : decode cX6_append 53 = .ok (.putfield 19, 3) := by decide +kernel
theorem dX6_append_56 : decode cX6_append 56 = .ok (.iconst 1, 1) := by decide +kernel
theorem dX6_append_57 : decode cX6_append 57 = .ok (.ireturn, 1) := by decide +kernel
set_option maxRecDepth 100000 in
set_option maxHeartbeats 4000000 in
theorem kb_X6_append_0 {th : Nat} {x1 : Int32} {w : WX} {out : Int32 × WX} {H : Heap} {locs : List Loc} {ls : Array Slot} (C : CX p s m args meth c cX6_append 2 RX6 wc_X6_append (some .boolean)) (hth : KDx th = (6, 3)) (hG : Gd s G A 153 B (entX G B w) X H locs) (hl : lv_has ls 2 [(0, .ref (B + th)), (1, .int x1)]) (hf : sh_X6_append th x1 w = some out) :
    W p l e rm_X6_append s m args below meth c H locs 0 0 (MQ below (CPost G A 153 B (entX G B out.2) X (some (.int out.1))) args s 0 0 A) (F0 m 0 ls []) := by
  refine lv_aload_n C.1 C.2.1 dX6_append_0 rfl (lv_at hl 0 rfl) ?_
  refine gf_X6_15 C hG hth dX6_append_1 ?_
  refine lv_bipush (v := nI 24) C.1 C.2.1 dX6_append_4 (by decide) ?_
  rcases of_ite hf with ⟨c1, hf⟩ | ⟨c1, hf⟩
  · refine lv_icmp_ge (tgt := 20) C.1 C.2.1 dX6_append_6 (by decide) (fun _ => ?_) (fun q => absurd c1 q)
    refine lv_iconst (v := nI 0) C.1 C.2.1 dX6_append_20 (by decide) ?_
    obtain rfl := Option.some.inj hf
    exact r_zret C hG (Or.inl rfl) dX6_append_21
  · refine lv_icmp_ge (tgt := 20) C.1 C.2.1 dX6_append_6 (by decide) (fun q => absurd q c1) (fun _ => ?_)
    refine lv_iload_n C.1 C.2.1 dX6_append_9 rfl (lv_at hl 1 rfl) ?_
    refine lv_aload_n C.1 C.2.1 dX6_append_10 rfl (lv_at hl 0 rfl) ?_
    refine gf_X6_19 C hG hth dX6_append_11 ?_
    obtain ⟨v2, hv2, hf⟩ := of_bind hf
    refine r_callSN1 C hG hl.1 (As := [.int x1, .int (w.1 th 2)]) (mt_X8_canStand l  hv2) (va_cnB 2 C.2.2.2.2.1 (gd_all tg_2_232) rfl rfl rfl (hG.1.2.1 _ nn_55) (C.2.2.2.2.1 _ (List.mem_cons_of_mem _ tg_1_1)) cd_X8_canStand.2 ⟨Nat.le_of_ble_eq_true rfl, Nat.le_of_ble_eq_true rfl⟩) (C.2.2.2.2.1 _ (List.mem_cons_of_mem _ tg_2_231)) rfl rfl (Nat.le_of_ble_eq_true rfl) dX6_append_14 (fun H locs hG => ?_)
    rcases of_ite hf with ⟨c3, hf⟩ | ⟨c3, hf⟩
    · refine lv_if_ne (tgt := 22) C.1 C.2.1 dX6_append_17 (by decide) (fun q => absurd c3 q) (fun _ => ?_)
      refine lv_iconst (v := nI 0) C.1 C.2.1 dX6_append_20 (by decide) ?_
      obtain rfl := Option.some.inj hf
      exact r_zret C hG (Or.inl rfl) dX6_append_21
    · refine lv_if_ne (tgt := 22) C.1 C.2.1 dX6_append_17 (by decide) (fun _ => ?_) (fun q => absurd q c3)
      refine lv_aload_n C.1 C.2.1 dX6_append_22 rfl (lv_at hl 0 rfl) ?_
      refine gf_X6_9 C hG hth dX6_append_23 ?_
      refine lv_aload_n C.1 C.2.1 dX6_append_26 rfl (lv_at hl 0 rfl) ?_
      refine gf_X6_15 C hG hth dX6_append_27 ?_
      refine lv_iload_n C.1 C.2.1 dX6_append_30 rfl (lv_at hl 1 rfl) ?_
      obtain ⟨w4, hw4, hf⟩ := of_bind hf
      obtain ⟨bw4, ew4⟩ := of_stX hw4
      refine r_iast C hG (c0 := (th + 1)) (kdx_lt (kx_6_0 hth) (by decide)) (entX_I (kx_6_0 hth)) bw4 (E' := (entX G B w4)) (by rw [ew4]; exact upX_I (kx_6_0 hth)) dX6_append_31 (fun H locs hG => ?_)
      refine lv_aload_n C.1 C.2.1 dX6_append_32 rfl (lv_at hl 0 rfl) ?_
      refine lv_dup C.1 C.2.1 dX6_append_33 rfl ?_
      refine gf_X6_15 C hG hth dX6_append_34 ?_
      refine lv_iconst (v := nI 1) C.1 C.2.1 dX6_append_37 (by decide) ?_
      refine lv_iadd C.1 C.2.1 dX6_append_38 ?_
      obtain ⟨w5, ew5, hf⟩ := of_letv hf
      refine pf_X6_15 C hG hth dX6_append_39 (fun H locs hG => ?_)
      rw [← ew5] at hG
      refine lv_aload_n C.1 C.2.1 dX6_append_42 rfl (lv_at hl 0 rfl) ?_
      refine lv_dup C.1 C.2.1 dX6_append_43 rfl ?_
      refine gf_X6_19 C hG hth dX6_append_44 ?_
      refine r_getsN C hG hG.1.2.2.2.2.1 nn_53 dX6_append_47 ?_
      refine lv_iload_n C.1 C.2.1 dX6_append_50 rfl (lv_at hl 1 rfl) ?_
      obtain ⟨v6, hv6, hf⟩ := of_bind hf
      obtain ⟨bv6, ev6⟩ := of_tbl7 hv6
      refine r_ti C hG hG.1.2.2.2.2.1 bv6 dX6_append_51 ?_
      refine r_top ev6 ?_
      refine lv_iadd C.1 C.2.1 dX6_append_52 ?_
      obtain ⟨w7, ew7, hf⟩ := of_letv hf
      refine pf_X6_19 C hG hth dX6_append_53 (fun H locs hG => ?_)
      rw [← ew7] at hG
      refine lv_iconst (v := nI 1) C.1 C.2.1 dX6_append_56 (by decide) ?_
      obtain rfl := Option.some.inj hf
      exact r_zret C hG (Or.inr rfl) dX6_append_57
set_option maxRecDepth 100000 in
set_option maxHeartbeats 4000000 in
theorem mt_X6_append (l : Launch) {G : GG} {A : Nat → Prop} {B : Nat} {X : va_W} {th : Nat} {x1 : Int32} {w : WX} {out : Int32 × WX} (hth : KDx th = (6, 3)) (hf : sh_X6_append th x1 w = some out) : MetW l yX6_append wc_X6_append rm_X6_append G A 153 B (entX G B w) X [.ref (B + th), .int x1] (some (.int out.1)) (entX G B out.2) := by
  refine Met.ofW (cc := cX6_append) (maxL := 2) (ret := (some .boolean)) (by decide) rfl ?_
  intro p e s m args below meth c s₁ B0 hml hv
  obtain ⟨rfl, hEv, hWd⟩ := hv
  have C : CX p s m _ meth c cX6_append 2 RX6 wc_X6_append (some .boolean) := ⟨B0.exec, B0.bytes, hml, findClass_of_methodNamed B0.named, atoms_spec (ws := wc_X6_append) B0.pre, B0.returns, B0.notSynchronized⟩
  have hl := lv_entry [.ref (B + th), .int x1] (n := 2) (Nat.le_of_ble_eq_true rfl)
  rw [lg_entry_eq]
  generalize (lg_sl [.ref (B + th), .int x1] ++ List.replicate (2 - (lg_sl [.ref (B + th), .int x1]).length) Slot.unset).toArray = ls at hl ⊢
  have hl : lv_has ls 2 [(0, .ref (B + th)), (1, .int x1)] := hl
  exact kb_X6_append_0 C hth ⟨hEv, hWd, va_S.rf⟩ hl hf
abbrev wc_X6_mostCirclesEver : List Cond := Cond.code yX6_mostCirclesEver cX6_mostCirclesEver 4 (some .int) :: TG
abbrev rm_X6_mostCirclesEver : Room := { frames := 2, cells := 0, slots := 0, locals := 100 }
theorem cd_X6_mostCirclesEver : yX6_mostCirclesEver.cls = RX6 ∧ yX6_mostCirclesEver.cls ≠ "java/lang/invoke/MethodHandle" ∧ yX6_mostCirclesEver.cls ≠ "java/lang/invoke/VarHandle" ∧ (parseMethodDescriptor yX6_mostCirclesEver.desc).map (fun d => d.parameters.length) = some 0 := by decide +kernel
theorem dX6_mostCirclesEver_0 : decode cX6_mostCirclesEver 0 = .ok (.iconst 0, 1) := by decide +kernel
theorem dX6_mostCirclesEver_1 : decode cX6_mostCirclesEver 1 = .ok (.istore_n 1, 1) := by decide +kernel
theorem dX6_mostCirclesEver_2 : decode cX6_mostCirclesEver 2 = .ok (.iconst 0, 1) := by decide +kernel
theorem dX6_mostCirclesEver_3 : decode cX6_mostCirclesEver 3 = .ok (.istore_n 2, 1) := by decide +kernel
theorem dX6_mostCirclesEver_4 : decode cX6_mostCirclesEver 4 = .ok (.iconst 0, 1) := by decide +kernel
theorem dX6_mostCirclesEver_5 : decode cX6_mostCirclesEver 5 = .ok (.istore_n 3, 1) := by decide +kernel
theorem dX6_mostCirclesEver_6 : decode cX6_mostCirclesEver 6 = .ok (.iload_n 3, 1) := by decide +kernel
theorem dX6_mostCirclesEver_7 : decode cX6_mostCirclesEver 7 = .ok (.aload_n 0, 1) := by decide +kernel
theorem dX6_mostCirclesEver_8 : decode cX6_mostCirclesEver 8 = .ok (.getfield 15, 3) := by decide +kernel
theorem dX6_mostCirclesEver_11 : decode cX6_mostCirclesEver 11 = .ok (.if_icmp .ge 28, 3) := by decide +kernel
theorem dX6_mostCirclesEver_14 : decode cX6_mostCirclesEver 14 = .ok (.iload_n 2, 1) := by decide +kernel
theorem dX6_mostCirclesEver_15 : decode cX6_mostCirclesEver 15 = .ok (.getstatic 26, 3) := by decide +kernel
theorem dX6_mostCirclesEver_18 : decode cX6_mostCirclesEver 18 = .ok (.aload_n 0, 1) := by decide +kernel
theorem dX6_mostCirclesEver_19 : decode cX6_mostCirclesEver 19 = .ok (.getfield 9, 3) := by decide +kernel
theorem dX6_mostCirclesEver_22 : decode cX6_mostCirclesEver 22 = .ok (.iload_n 3, 1) := by decide +kernel
theorem dX6_mostCirclesEver_23 : decode cX6_mostCirclesEver 23 = .ok (.iaload, 1) := by decide +kernel
theorem dX6_mostCirclesEver_24 : decode cX6_mostCirclesEver 24 = .ok (.iaload, 1) := by decide +kernel
theorem dX6_mostCirclesEver_25 : decode cX6_mostCirclesEver 25 = .ok (.iadd, 1) := by decide +kernel
theorem dX6_mostCirclesEver_26 : decode cX6_mostCirclesEver 26 = .ok (.istore_n 2, 1) := by decide +kernel
theorem dX6_mostCirclesEver_27 : decode cX6_mostCirclesEver 27 = .ok (.iload_n 1, 1) := by decide +kernel
theorem dX6_mostCirclesEver_28 : decode cX6_mostCirclesEver 28 = .ok (.iload_n 2, 1) := by decide +kernel
theorem dX6_mostCirclesEver_29 : decode cX6_mostCirclesEver 29 = .ok (.invokestatic 35, 3) := by decide +kernel
theorem dX6_mostCirclesEver_32 : decode cX6_mostCirclesEver 32 = .ok (.istore_n 1, 1) := by decide +kernel
theorem dX6_mostCirclesEver_33 : decode cX6_mostCirclesEver 33 = .ok (.iinc 3 1, 3) := by decide +kernel
theorem dX6_mostCirclesEver_36 : decode cX6_mostCirclesEver 36 = .ok (.goto (-30), 3) := by decide +kernel
theorem dX6_mostCirclesEver_39 : decode cX6_mostCirclesEver 39 = .ok (.iload_n 1, 1) := by decide +kernel
theorem dX6_mostCirclesEver_40 : decode cX6_mostCirclesEver 40 = .ok (.ireturn, 1) := by decide +kernel
set_option maxRecDepth 100000 in
set_option maxHeartbeats 4000000 in
theorem kb_X6_mostCirclesEver_6 {th : Nat} {w : WX} {st : Int32 × Int32 × Int32} {r : (Int32 × Int32 × Int32) ⊕ ((Int32))} {H : Heap} {locs : List Loc} {ls : Array Slot} (C : CX p s m args meth c cX6_mostCirclesEver 4 RX6 wc_X6_mostCirclesEver (some .int)) (hth : KDx th = (6, 3)) (hG : Gd s G A 153 B (entX G B w) X H locs) (hl : lv_has ls 4 [(0, .ref (B + th)), (1, .int st.1), (2, .int st.2.1), (3, .int st.2.2)]) (hf : sh_X6_mostCirclesEver_s6 th w st = some r)
    (kL : ∀ st' : Int32 × Int32 × Int32, r = Sum.inl st' → ∀ (H : Heap) (locs : List Loc) (ls : Array Slot), Gd s G A 153 B (entX G B w) X H locs → lv_has ls 4 [(0, .ref (B + th)), (1, .int st'.1), (2, .int st'.2.1), (3, .int st'.2.2)] → W p l e rm_X6_mostCirclesEver s m args below meth c H locs 0 0 Q (F0 m 6 ls []))
    (kX0 : ∀ y' : Int32, r = Sum.inr y' → ∀ (H : Heap) (locs : List Loc) (ls : Array Slot), Gd s G A 153 B (entX G B w) X H locs → lv_has ls 4 [(1, .int y')] → W p l e rm_X6_mostCirclesEver s m args below meth c H locs 0 0 Q (F0 m 39 ls [])) :
    W p l e rm_X6_mostCirclesEver s m args below meth c H locs 0 0 Q (F0 m 6 ls []) := by
  refine lv_iload_n C.1 C.2.1 dX6_mostCirclesEver_6 rfl (lv_at hl 3 rfl) ?_
  refine lv_aload_n C.1 C.2.1 dX6_mostCirclesEver_7 rfl (lv_at hl 0 rfl) ?_
  refine gf_X6_15 C hG hth dX6_mostCirclesEver_8 ?_
  rcases of_ite hf with ⟨c1, hf⟩ | ⟨c1, hf⟩
  · refine lv_icmp_ge (tgt := 39) C.1 C.2.1 dX6_mostCirclesEver_11 (by decide) (fun _ => ?_) (fun q => absurd c1 q)
    obtain rfl := Option.some.inj hf
    exact kX0 _ rfl _ _ _ hG (lv_sub hl [1] rfl)
  · refine lv_icmp_ge (tgt := 39) C.1 C.2.1 dX6_mostCirclesEver_11 (by decide) (fun q => absurd q c1) (fun _ => ?_)
    refine lv_iload_n C.1 C.2.1 dX6_mostCirclesEver_14 rfl (lv_at hl 2 rfl) ?_
    refine r_getsN C hG hG.1.2.2.2.2.1 nn_53 dX6_mostCirclesEver_15 ?_
    refine lv_aload_n C.1 C.2.1 dX6_mostCirclesEver_18 rfl (lv_at hl 0 rfl) ?_
    refine gf_X6_9 C hG hth dX6_mostCirclesEver_19 ?_
    refine lv_iload_n C.1 C.2.1 dX6_mostCirclesEver_22 rfl (lv_at hl 3 rfl) ?_
    obtain ⟨v2, hv2, hf⟩ := of_bind hf
    obtain ⟨bv2, ev2⟩ := of_ldS hv2
    refine r_iald C hG (c0 := (th + 1)) (kdx_lt (kx_6_0 hth) (by decide)) (entX_I (kx_6_0 hth)) bv2 dX6_mostCirclesEver_23 ?_
    refine r_top ev2 ?_
    obtain ⟨v3, hv3, hf⟩ := of_bind hf
    obtain ⟨bv3, ev3⟩ := of_tbl7 hv3
    refine r_ti C hG hG.1.2.2.2.2.1 bv3 dX6_mostCirclesEver_24 ?_
    refine r_top ev3 ?_
    refine lv_iadd C.1 C.2.1 dX6_mostCirclesEver_25 ?_
    obtain ⟨v4, ev4, hf⟩ := of_letv hf
    refine r_top ev4 ?_
    refine lv_istore_n (lv' := [(2, .int v4), (0, .ref (B + th)), (1, .int st.1), (3, .int st.2.2)]) C.1 C.2.1 dX6_mostCirclesEver_26 rfl hl (by decide) rfl (fun ls hl => ?_)
    refine lv_iload_n C.1 C.2.1 dX6_mostCirclesEver_27 rfl (lv_at hl 2 rfl) ?_
    refine lv_iload_n C.1 C.2.1 dX6_mostCirclesEver_28 rfl (lv_at hl 0 rfl) ?_
    refine r_max C hl.1 (List.mem_cons_of_mem _ tg_2_210) (List.mem_cons_of_mem _ tg_2_211) (List.mem_cons_of_mem _ tg_1_12) (List.mem_cons_of_mem _ tg_2_212) (Nat.le_of_ble_eq_true rfl) (Nat.le_of_ble_eq_true rfl) dX6_mostCirclesEver_29 ?_
    obtain ⟨v5, ev5, hf⟩ := of_letv hf
    refine r_top ev5 ?_
    refine lv_istore_n (lv' := [(1, .int v5), (2, .int v4), (0, .ref (B + th)), (3, .int st.2.2)]) C.1 C.2.1 dX6_mostCirclesEver_32 rfl hl (by decide) rfl (fun ls hl => ?_)
    obtain ⟨v6, ev6, hf⟩ := of_letv hf
    refine lv_iinc (v := v6) (lv' := [(3, .int v6), (1, .int v5), (2, .int v4), (0, .ref (B + th))]) C.1 C.2.1 dX6_mostCirclesEver_33 hl (k := 3) rfl (by rw [ev6, show Int32.ofInt (1) = nI 1 from by decide]) (by decide) rfl (fun ls hl => ?_)
    refine lv_goto (tgt := 6) C.1 C.2.1 dX6_mostCirclesEver_36 (by decide) ?_
    obtain rfl := Option.some.inj hf
    exact kL _ rfl _ _ _ hG (lv_sub hl [3, 1, 2, 0] rfl)
set_option maxRecDepth 100000 in
set_option maxHeartbeats 4000000 in
theorem kl_X6_mostCirclesEver_6 {th : Nat} {w : WX} (C : CX p s m args meth c cX6_mostCirclesEver 4 RX6 wc_X6_mostCirclesEver (some .int)) (hth : KDx th = (6, 3)) : ∀ (n : Nat) (st : Int32 × Int32 × Int32) (x : (Int32)) (H : Heap) (locs : List Loc) (ls : Array Slot), Gd s G A 153 B (entX G B w) X H locs → lv_has ls 4 [(0, .ref (B + th)), (1, .int st.1), (2, .int st.2.1), (3, .int st.2.2)] → lpw (sh_X6_mostCirclesEver_s6 th w) n st = some x →
    (∀ y' : Int32, x = y' → ∀ (H : Heap) (locs : List Loc) (ls : Array Slot), Gd s G A 153 B (entX G B w) X H locs → lv_has ls 4 [(1, .int y')] → W p l e rm_X6_mostCirclesEver s m args below meth c H locs 0 0 Q (F0 m 39 ls [])) → W p l e rm_X6_mostCirclesEver s m args below meth c H locs 0 0 Q (F0 m 6 ls []) := by
  intro n
  induction n with
  | zero =>
    intro st x H locs ls hG hl hf
    cases hf
  | succ n ih =>
    intro st x H locs ls hG hl hf kX0
    obtain ⟨r, hr, hh⟩ := of_lpw hf
    refine kb_X6_mostCirclesEver_6 C hth hG hl hr (fun st2 e1 H locs ls hG hl => ?_) (fun y2 e1 H locs ls hG hl => ?_)
    · rcases hh with ⟨s3, e2, hh⟩ | e2
      · rw [e2] at e1
        cases e1
        exact ih _ _ _ _ _ hG hl hh kX0
      · rw [e2] at e1
        cases e1
    · rcases hh with ⟨s3, e2, hh⟩ | e2
      · rw [e2] at e1
        cases e1
      · rw [e2] at e1
        cases e1
        exact kX0 _ rfl _ _ _ hG hl
set_option maxRecDepth 100000 in
set_option maxHeartbeats 4000000 in
theorem kb_X6_mostCirclesEver_0 {th : Nat} {w : WX} {out : Int32} {H : Heap} {locs : List Loc} {ls : Array Slot} (C : CX p s m args meth c cX6_mostCirclesEver 4 RX6 wc_X6_mostCirclesEver (some .int)) (hth : KDx th = (6, 3)) (hG : Gd s G A 153 B (entX G B w) X H locs) (hl : lv_has ls 4 [(0, .ref (B + th))]) (hf : sh_X6_mostCirclesEver th w = some out) :
    W p l e rm_X6_mostCirclesEver s m args below meth c H locs 0 0 (MQ below (CPost G A 153 B (entX G B w) X (some (.int out))) args s 0 0 A) (F0 m 0 ls []) := by
  refine lv_iconst (v := nI 0) C.1 C.2.1 dX6_mostCirclesEver_0 (by decide) ?_
  refine lv_istore_n (lv' := [(1, .int (nI 0)), (0, .ref (B + th))]) C.1 C.2.1 dX6_mostCirclesEver_1 rfl hl (by decide) rfl (fun ls hl => ?_)
  refine lv_iconst (v := nI 0) C.1 C.2.1 dX6_mostCirclesEver_2 (by decide) ?_
  refine lv_istore_n (lv' := [(2, .int (nI 0)), (1, .int (nI 0)), (0, .ref (B + th))]) C.1 C.2.1 dX6_mostCirclesEver_3 rfl hl (by decide) rfl (fun ls hl => ?_)
  refine lv_iconst (v := nI 0) C.1 C.2.1 dX6_mostCirclesEver_4 (by decide) ?_
  refine lv_istore_n (lv' := [(3, .int (nI 0)), (2, .int (nI 0)), (1, .int (nI 0)), (0, .ref (B + th))]) C.1 C.2.1 dX6_mostCirclesEver_5 rfl hl (by decide) rfl (fun ls hl => ?_)
  obtain ⟨ex1, hex1, hf⟩ := of_bind hf
  refine kl_X6_mostCirclesEver_6 C hth FU (nI 0, nI 0, nI 0) ex1 _ _ _ hG (lv_sub hl [3, 2, 1, 0] rfl) hex1 (fun y e0 H locs ls hG hl => ?_)
  subst e0
  refine lv_iload_n C.1 C.2.1 dX6_mostCirclesEver_39 rfl (lv_at hl 0 rfl) ?_
  obtain rfl := Option.some.inj hf
  exact r_iret C hG dX6_mostCirclesEver_40
set_option maxRecDepth 100000 in
set_option maxHeartbeats 4000000 in
theorem mt_X6_mostCirclesEver (l : Launch) {G : GG} {A : Nat → Prop} {B : Nat} {X : va_W} {th : Nat} {w : WX} {out : Int32} (hth : KDx th = (6, 3)) (hf : sh_X6_mostCirclesEver th w = some out) : MetW l yX6_mostCirclesEver wc_X6_mostCirclesEver rm_X6_mostCirclesEver G A 153 B (entX G B w) X [.ref (B + th)] (some (.int out)) (entX G B w) := by
  refine Met.ofW (cc := cX6_mostCirclesEver) (maxL := 4) (ret := (some .int)) (by decide) rfl ?_
  intro p e s m args below meth c s₁ B0 hml hv
  obtain ⟨rfl, hEv, hWd⟩ := hv
  have C : CX p s m _ meth c cX6_mostCirclesEver 4 RX6 wc_X6_mostCirclesEver (some .int) := ⟨B0.exec, B0.bytes, hml, findClass_of_methodNamed B0.named, atoms_spec (ws := wc_X6_mostCirclesEver) B0.pre, B0.returns, B0.notSynchronized⟩
  have hl := lv_entry [.ref (B + th)] (n := 4) (Nat.le_of_ble_eq_true rfl)
  rw [lg_entry_eq]
  generalize (lg_sl [.ref (B + th)] ++ List.replicate (4 - (lg_sl [.ref (B + th)]).length) Slot.unset).toArray = ls at hl ⊢
  have hl : lv_has ls 4 [(0, .ref (B + th))] := hl
  exact kb_X6_mostCirclesEver_0 C hth ⟨hEv, hWd, va_S.rf⟩ hl hf
abbrev wc_X6_glueFault : List Cond := Cond.code yX6_glueFault cX6_glueFault 2 (some .int) :: TG
abbrev rm_X6_glueFault : Room := { frames := 3, cells := 0, slots := 0, locals := 123 }
theorem cd_X6_glueFault : yX6_glueFault.cls = RX6 ∧ yX6_glueFault.cls ≠ "java/lang/invoke/MethodHandle" ∧ yX6_glueFault.cls ≠ "java/lang/invoke/VarHandle" ∧ (parseMethodDescriptor yX6_glueFault.desc).map (fun d => d.parameters.length) = some 1 := by decide +kernel
theorem dX6_glueFault_0 : decode cX6_glueFault 0 = .ok (.aload_n 0, 1) := by decide +kernel
theorem dX6_glueFault_1 : decode cX6_glueFault 1 = .ok (.getfield 19, 3) := by decide +kernel
theorem dX6_glueFault_4 : decode cX6_glueFault 4 = .ok (.aload_n 1, 1) := by decide +kernel
theorem dX6_glueFault_5 : decode cX6_glueFault 5 = .ok (.invokevirtual 44, 3) := by decide +kernel
theorem dX6_glueFault_8 : decode cX6_glueFault 8 = .ok (.iadd, 1) := by decide +kernel
theorem dX6_glueFault_9 : decode cX6_glueFault 9 = .ok (.iconst 3, 1) := by decide +kernel
theorem dX6_glueFault_10 : decode cX6_glueFault 10 = .ok (.if_icmp .le 6, 3) := by decide +kernel
theorem dX6_glueFault_13 : decode cX6_glueFault 13 = .ok (.bipush (-3), 2) := by decide +kernel
theorem dX6_glueFault_15 : decode cX6_glueFault 15 = .ok (.ireturn, 1) := by decide +kernel
theorem dX6_glueFault_16 : decode cX6_glueFault 16 = .ok (.aload_n 0, 1) := by decide +kernel
theorem dX6_glueFault_17 : decode cX6_glueFault 17 = .ok (.getfield 15, 3) := by decide +kernel
theorem dX6_glueFault_20 : decode cX6_glueFault 20 = .ok (.aload_n 1, 1) := by decide +kernel
theorem dX6_glueFault_21 : decode cX6_glueFault 21 = .ok (.getfield 15, 3) := by decide +kernel
theorem dX6_glueFault_24 : decode cX6_glueFault 24 = .ok (.iadd, 1) := by decide +kernel
theorem dX6_glueFault_25 : decode cX6_glueFault 25 = .ok (.bipush 24, 2) := by decide +kernel
theorem dX6_glueFault_27 : decode cX6_glueFault 27 = .ok (.if_icmp .le 8, 3) := by decide +kernel
theorem dX6_glueFault_30 : decode cX6_glueFault 30 = .ok (.bipush (-4), 2) := by decide +kernel
theorem dX6_glueFault_32 : decode cX6_glueFault 32 = .ok (.goto 4, 3) := by decide +kernel
theorem dX6_glueFault_35 : decode cX6_glueFault 35 = .ok (.iconst 0, 1) := by decide +kernel
theorem dX6_glueFault_36 : decode cX6_glueFault 36 = .ok (.ireturn, 1) := by decide +kernel
set_option maxRecDepth 100000 in
set_option maxHeartbeats 4000000 in
theorem kb_X6_glueFault_0 {th : Nat} {x1 : Nat} {w : WX} {out : Int32} {H : Heap} {locs : List Loc} {ls : Array Slot} (C : CX p s m args meth c cX6_glueFault 2 RX6 wc_X6_glueFault (some .int)) (hth : KDx th = (6, 3)) (h1 : KDx x1 = (6, 3)) (hG : Gd s G A 153 B (entX G B w) X H locs) (hl : lv_has ls 2 [(0, .ref (B + th)), (1, .ref (B + x1))]) (hf : sh_X6_glueFault th x1 w = some out) :
    W p l e rm_X6_glueFault s m args below meth c H locs 0 0 (MQ below (CPost G A 153 B (entX G B w) X (some (.int out))) args s 0 0 A) (F0 m 0 ls []) := by
  refine lv_aload_n C.1 C.2.1 dX6_glueFault_0 rfl (lv_at hl 0 rfl) ?_
  refine gf_X6_19 C hG hth dX6_glueFault_1 ?_
  refine lv_aload_n C.1 C.2.1 dX6_glueFault_4 rfl (lv_at hl 1 rfl) ?_
  obtain ⟨v1, hv1, hf⟩ := of_bind hf
  refine r_callV1 C hG hl.1 (c0 := x1) (As := []) (kdx_lt h1 (by decide)) (entX_O6 h1) rfl (mt_X6_mostCirclesEver l h1 hv1) (cwV 0 C.2.2.2.2.1 (gd_V tg_3_185 tg_3_187 tgp_24 tg_1_5 tg_3_188) rfl rfl rfl cd_X6_mostCirclesEver ⟨Nat.le_of_ble_eq_true rfl, Nat.le_of_ble_eq_true rfl⟩) rfl rfl (Nat.le_of_ble_eq_true rfl) dX6_glueFault_5 (fun H locs hG => ?_)
  refine lv_iadd C.1 C.2.1 dX6_glueFault_8 ?_
  refine lv_iconst (v := nI 3) C.1 C.2.1 dX6_glueFault_9 (by decide) ?_
  rcases of_ite hf with ⟨c2, hf⟩ | ⟨c2, hf⟩
  · refine lv_icmp_le (tgt := 16) C.1 C.2.1 dX6_glueFault_10 (by decide) (fun _ => ?_) (fun q => absurd c2 q)
    refine lv_aload_n C.1 C.2.1 dX6_glueFault_16 rfl (lv_at hl 0 rfl) ?_
    refine gf_X6_15 C hG hth dX6_glueFault_17 ?_
    refine lv_aload_n C.1 C.2.1 dX6_glueFault_20 rfl (lv_at hl 1 rfl) ?_
    refine gf_X6_15 C hG h1 dX6_glueFault_21 ?_
    refine lv_iadd C.1 C.2.1 dX6_glueFault_24 ?_
    refine lv_bipush (v := nI 24) C.1 C.2.1 dX6_glueFault_25 (by decide) ?_
    rcases of_ite hf with ⟨c3, hf⟩ | ⟨c3, hf⟩
    · refine lv_icmp_le (tgt := 35) C.1 C.2.1 dX6_glueFault_27 (by decide) (fun _ => ?_) (fun q => absurd c3 q)
      refine lv_iconst (v := nI 0) C.1 C.2.1 dX6_glueFault_35 (by decide) ?_
      obtain rfl := Option.some.inj hf
      exact r_iret C hG dX6_glueFault_36
    · refine lv_icmp_le (tgt := 35) C.1 C.2.1 dX6_glueFault_27 (by decide) (fun q => absurd q c3) (fun _ => ?_)
      refine lv_bipush (v := (-4 : Int32)) C.1 C.2.1 dX6_glueFault_30 (by decide) ?_
      refine lv_goto (tgt := 36) C.1 C.2.1 dX6_glueFault_32 (by decide) ?_
      obtain rfl := Option.some.inj hf
      exact r_iret C hG dX6_glueFault_36
  · refine lv_icmp_le (tgt := 16) C.1 C.2.1 dX6_glueFault_10 (by decide) (fun q => absurd q c2) (fun _ => ?_)
    refine lv_bipush (v := (-3 : Int32)) C.1 C.2.1 dX6_glueFault_13 (by decide) ?_
    obtain rfl := Option.some.inj hf
    exact r_iret C hG dX6_glueFault_15
set_option maxRecDepth 100000 in
set_option maxHeartbeats 4000000 in
theorem mt_X6_glueFault (l : Launch) {G : GG} {A : Nat → Prop} {B : Nat} {X : va_W} {th : Nat} {x1 : Nat} {w : WX} {out : Int32} (hth : KDx th = (6, 3)) (h1 : KDx x1 = (6, 3)) (hf : sh_X6_glueFault th x1 w = some out) : MetW l yX6_glueFault wc_X6_glueFault rm_X6_glueFault G A 153 B (entX G B w) X [.ref (B + th), .ref (B + x1)] (some (.int out)) (entX G B w) := by
  refine Met.ofW (cc := cX6_glueFault) (maxL := 2) (ret := (some .int)) (by decide) rfl ?_
  intro p e s m args below meth c s₁ B0 hml hv
  obtain ⟨rfl, hEv, hWd⟩ := hv
  have C : CX p s m _ meth c cX6_glueFault 2 RX6 wc_X6_glueFault (some .int) := ⟨B0.exec, B0.bytes, hml, findClass_of_methodNamed B0.named, atoms_spec (ws := wc_X6_glueFault) B0.pre, B0.returns, B0.notSynchronized⟩
  have hl := lv_entry [.ref (B + th), .ref (B + x1)] (n := 2) (Nat.le_of_ble_eq_true rfl)
  rw [lg_entry_eq]
  generalize (lg_sl [.ref (B + th), .ref (B + x1)] ++ List.replicate (2 - (lg_sl [.ref (B + th), .ref (B + x1)]).length) Slot.unset).toArray = ls at hl ⊢
  have hl : lv_has ls 2 [(0, .ref (B + th)), (1, .ref (B + x1))] := hl
  exact kb_X6_glueFault_0 C hth h1 ⟨hEv, hWd, va_S.rf⟩ hl hf
abbrev wc_X6_glueOn : List Cond := Cond.code yX6_glueOn cX6_glueOn 4 none :: TG
abbrev rm_X6_glueOn : Room := { frames := 4, cells := 0, slots := 0, locals := 142 }
theorem cd_X6_glueOn : yX6_glueOn.cls = RX6 ∧ yX6_glueOn.cls ≠ "java/lang/invoke/MethodHandle" ∧ yX6_glueOn.cls ≠ "java/lang/invoke/VarHandle" ∧ (parseMethodDescriptor yX6_glueOn.desc).map (fun d => d.parameters.length) = some 1 := by decide +kernel
theorem dX6_glueOn_0 : decode cX6_glueOn 0 = .ok (.aload_n 1, 1) := by decide +kernel
theorem dX6_glueOn_1 : decode cX6_glueOn 1 = .ok (.getfield 15, 3) := by decide +kernel
theorem dX6_glueOn_4 : decode cX6_glueOn 4 = .ok (.istore_n 2, 1) := by decide +kernel
theorem dX6_glueOn_5 : decode cX6_glueOn 5 = .ok (.iconst 0, 1) := by decide +kernel
theorem dX6_glueOn_6 : decode cX6_glueOn 6 = .ok (.istore_n 3, 1) := by decide +kernel
theorem dX6_glueOn_7 : decode cX6_glueOn 7 = .ok (.iload_n 3, 1) := by decide +kernel
theorem dX6_glueOn_8 : decode cX6_glueOn 8 = .ok (.iload_n 2, 1) := by decide +kernel
theorem dX6_glueOn_9 : decode cX6_glueOn 9 = .ok (.if_icmp .ge 20, 3) := by decide +kernel
theorem dX6_glueOn_12 : decode cX6_glueOn 12 = .ok (.aload_n 0, 1) := by decide +kernel
theorem dX6_glueOn_13 : decode cX6_glueOn 13 = .ok (.aload_n 1, 1) := by decide +kernel
theorem dX6_glueOn_14 : decode cX6_glueOn 14 = .ok (.getfield 9, 3) := by decide +kernel
theorem dX6_glueOn_17 : decode cX6_glueOn 17 = .ok (.iload_n 3, 1) := by decide +kernel
theorem dX6_glueOn_18 : decode cX6_glueOn 18 = .ok (.iaload, 1) := by decide +kernel
theorem dX6_glueOn_19 : decode cX6_glueOn 19 = .ok (.invokevirtual 48, 3) := by decide +kernel
theorem dX6_glueOn_22 : decode cX6_glueOn 22 = .ok (.pop, 1) := by decide +kernel
theorem dX6_glueOn_23 : decode cX6_glueOn 23 = .ok (.iinc 3 1, 3) := by decide +kernel
theorem dX6_glueOn_26 : decode cX6_glueOn 26 = .ok (.goto (-19), 3) := by decide +kernel
theorem dX6_glueOn_29 : decode cX6_glueOn 29 = .ok (.return_, 1) := by decide +kernel
set_option maxRecDepth 100000 in
set_option maxHeartbeats 4000000 in
theorem kb_X6_glueOn_7 {th : Nat} {x1 : Nat} {x2 : Int32} {st : Int32 × WX} {r : (Int32 × WX) ⊕ ((WX))} {H : Heap} {locs : List Loc} {ls : Array Slot} (C : CX p s m args meth c cX6_glueOn 4 RX6 wc_X6_glueOn none) (hth : KDx th = (6, 3)) (h1 : KDx x1 = (6, 3)) (hG : Gd s G A 153 B (entX G B st.2) X H locs) (hl : lv_has ls 4 [(0, .ref (B + th)), (1, .ref (B + x1)), (2, .int x2), (3, .int st.1)]) (hf : sh_X6_glueOn_s7 th x1 x2 st = some r)
    (kL : ∀ st' : Int32 × WX, r = Sum.inl st' → ∀ (H : Heap) (locs : List Loc) (ls : Array Slot), Gd s G A 153 B (entX G B st'.2) X H locs → lv_has ls 4 [(0, .ref (B + th)), (1, .ref (B + x1)), (2, .int x2), (3, .int st'.1)] → W p l e rm_X6_glueOn s m args below meth c H locs 0 0 Q (F0 m 7 ls []))
    (kX0 : ∀ y' : WX, r = Sum.inr y' → ∀ (H : Heap) (locs : List Loc) (ls : Array Slot), Gd s G A 153 B (entX G B y') X H locs → lv_has ls 4 [] → W p l e rm_X6_glueOn s m args below meth c H locs 0 0 Q (F0 m 29 ls [])) :
    W p l e rm_X6_glueOn s m args below meth c H locs 0 0 Q (F0 m 7 ls []) := by
  refine lv_iload_n C.1 C.2.1 dX6_glueOn_7 rfl (lv_at hl 3 rfl) ?_
  refine lv_iload_n C.1 C.2.1 dX6_glueOn_8 rfl (lv_at hl 2 rfl) ?_
  rcases of_ite hf with ⟨c1, hf⟩ | ⟨c1, hf⟩
  · refine lv_icmp_ge (tgt := 29) C.1 C.2.1 dX6_glueOn_9 (by decide) (fun _ => ?_) (fun q => absurd c1 q)
    obtain rfl := Option.some.inj hf
    exact kX0 _ rfl _ _ _ hG (lv_sub hl [] rfl)
  · refine lv_icmp_ge (tgt := 29) C.1 C.2.1 dX6_glueOn_9 (by decide) (fun q => absurd q c1) (fun _ => ?_)
    refine lv_aload_n C.1 C.2.1 dX6_glueOn_12 rfl (lv_at hl 0 rfl) ?_
    refine lv_aload_n C.1 C.2.1 dX6_glueOn_13 rfl (lv_at hl 1 rfl) ?_
    refine gf_X6_9 C hG h1 dX6_glueOn_14 ?_
    refine lv_iload_n C.1 C.2.1 dX6_glueOn_17 rfl (lv_at hl 3 rfl) ?_
    obtain ⟨v2, hv2, hf⟩ := of_bind hf
    obtain ⟨bv2, ev2⟩ := of_ldS hv2
    refine r_iald C hG (c0 := (x1 + 1)) (kdx_lt (kx_6_0 h1) (by decide)) (entX_I (kx_6_0 h1)) bv2 dX6_glueOn_18 ?_
    refine r_top ev2 ?_
    obtain ⟨v3, hv3, hf⟩ := of_bind hf
    refine r_callV1 C hG hl.1 (c0 := th) (As := [.int v2]) (kdx_lt hth (by decide)) (entX_O6 hth) rfl (mt_X6_append l hth hv3) (cwV 1 C.2.2.2.2.1 (gd_V tg_3_193 tg_2_227 tg_2_228 tg_1_5 tg_2_229) rfl rfl rfl cd_X6_append ⟨Nat.le_of_ble_eq_true rfl, Nat.le_of_ble_eq_true rfl⟩) rfl rfl (Nat.le_of_ble_eq_true rfl) dX6_glueOn_19 (fun H locs hG => ?_)
    refine lv_pop C.1 C.2.1 dX6_glueOn_22 rfl ?_
    obtain ⟨v4, ev4, hf⟩ := of_letv hf
    refine lv_iinc (v := v4) (lv' := [(3, .int v4), (0, .ref (B + th)), (1, .ref (B + x1)), (2, .int x2)]) C.1 C.2.1 dX6_glueOn_23 hl (k := 3) rfl (by rw [ev4, show Int32.ofInt (1) = nI 1 from by decide]) (by decide) rfl (fun ls hl => ?_)
    refine lv_goto (tgt := 7) C.1 C.2.1 dX6_glueOn_26 (by decide) ?_
    obtain rfl := Option.some.inj hf
    exact kL _ rfl _ _ _ hG (lv_sub hl [1, 2, 3, 0] rfl)
set_option maxRecDepth 100000 in
set_option maxHeartbeats 4000000 in
theorem kl_X6_glueOn_7 {th : Nat} {x1 : Nat} {x2 : Int32} (C : CX p s m args meth c cX6_glueOn 4 RX6 wc_X6_glueOn none) (hth : KDx th = (6, 3)) (h1 : KDx x1 = (6, 3)) : ∀ (n : Nat) (st : Int32 × WX) (x : (WX)) (H : Heap) (locs : List Loc) (ls : Array Slot), Gd s G A 153 B (entX G B st.2) X H locs → lv_has ls 4 [(0, .ref (B + th)), (1, .ref (B + x1)), (2, .int x2), (3, .int st.1)] → lpw (sh_X6_glueOn_s7 th x1 x2) n st = some x →
    (∀ y' : WX, x = y' → ∀ (H : Heap) (locs : List Loc) (ls : Array Slot), Gd s G A 153 B (entX G B y') X H locs → lv_has ls 4 [] → W p l e rm_X6_glueOn s m args below meth c H locs 0 0 Q (F0 m 29 ls [])) → W p l e rm_X6_glueOn s m args below meth c H locs 0 0 Q (F0 m 7 ls []) := by
  intro n
  induction n with
  | zero =>
    intro st x H locs ls hG hl hf
    cases hf
  | succ n ih =>
    intro st x H locs ls hG hl hf kX0
    obtain ⟨r, hr, hh⟩ := of_lpw hf
    refine kb_X6_glueOn_7 C hth h1 hG hl hr (fun st2 e1 H locs ls hG hl => ?_) (fun y2 e1 H locs ls hG hl => ?_)
    · rcases hh with ⟨s3, e2, hh⟩ | e2
      · rw [e2] at e1
        cases e1
        exact ih _ _ _ _ _ hG hl hh kX0
      · rw [e2] at e1
        cases e1
    · rcases hh with ⟨s3, e2, hh⟩ | e2
      · rw [e2] at e1
        cases e1
      · rw [e2] at e1
        cases e1
        exact kX0 _ rfl _ _ _ hG hl
set_option maxRecDepth 100000 in
set_option maxHeartbeats 4000000 in
theorem kb_X6_glueOn_0 {th : Nat} {x1 : Nat} {w : WX} {out : WX} {H : Heap} {locs : List Loc} {ls : Array Slot} (C : CX p s m args meth c cX6_glueOn 4 RX6 wc_X6_glueOn none) (hth : KDx th = (6, 3)) (h1 : KDx x1 = (6, 3)) (hG : Gd s G A 153 B (entX G B w) X H locs) (hl : lv_has ls 4 [(0, .ref (B + th)), (1, .ref (B + x1))]) (hf : sh_X6_glueOn th x1 w = some out) :
    W p l e rm_X6_glueOn s m args below meth c H locs 0 0 (MQ below (CPost G A 153 B (entX G B out) X none) args s 0 0 A) (F0 m 0 ls []) := by
  refine lv_aload_n C.1 C.2.1 dX6_glueOn_0 rfl (lv_at hl 1 rfl) ?_
  refine gf_X6_15 C hG h1 dX6_glueOn_1 ?_
  obtain ⟨v1, ev1, hf⟩ := of_letv hf
  refine r_top ev1 ?_
  refine lv_istore_n (lv' := [(2, .int v1), (0, .ref (B + th)), (1, .ref (B + x1))]) C.1 C.2.1 dX6_glueOn_4 rfl hl (by decide) rfl (fun ls hl => ?_)
  refine lv_iconst (v := nI 0) C.1 C.2.1 dX6_glueOn_5 (by decide) ?_
  refine lv_istore_n (lv' := [(3, .int (nI 0)), (2, .int v1), (0, .ref (B + th)), (1, .ref (B + x1))]) C.1 C.2.1 dX6_glueOn_6 rfl hl (by decide) rfl (fun ls hl => ?_)
  obtain ⟨ex2, hex2, hf⟩ := of_bind hf
  refine kl_X6_glueOn_7 C hth h1 FU (nI 0, w) ex2 _ _ _ hG (lv_sub hl [2, 3, 1, 0] rfl) hex2 (fun y e0 H locs ls hG hl => ?_)
  subst e0
  obtain rfl := Option.some.inj hf
  exact r_vret C hG dX6_glueOn_29
set_option maxRecDepth 100000 in
set_option maxHeartbeats 4000000 in
theorem mt_X6_glueOn (l : Launch) {G : GG} {A : Nat → Prop} {B : Nat} {X : va_W} {th : Nat} {x1 : Nat} {w : WX} {out : WX} (hth : KDx th = (6, 3)) (h1 : KDx x1 = (6, 3)) (hf : sh_X6_glueOn th x1 w = some out) : MetW l yX6_glueOn wc_X6_glueOn rm_X6_glueOn G A 153 B (entX G B w) X [.ref (B + th), .ref (B + x1)] none (entX G B out) := by
  refine Met.ofW (cc := cX6_glueOn) (maxL := 4) (ret := none) (by decide) rfl ?_
  intro p e s m args below meth c s₁ B0 hml hv
  obtain ⟨rfl, hEv, hWd⟩ := hv
  have C : CX p s m _ meth c cX6_glueOn 4 RX6 wc_X6_glueOn none := ⟨B0.exec, B0.bytes, hml, findClass_of_methodNamed B0.named, atoms_spec (ws := wc_X6_glueOn) B0.pre, B0.returns, B0.notSynchronized⟩
  have hl := lv_entry [.ref (B + th), .ref (B + x1)] (n := 4) (Nat.le_of_ble_eq_true rfl)
  rw [lg_entry_eq]
  generalize (lg_sl [.ref (B + th), .ref (B + x1)] ++ List.replicate (4 - (lg_sl [.ref (B + th), .ref (B + x1)]).length) Slot.unset).toArray = ls at hl ⊢
  have hl : lv_has ls 4 [(0, .ref (B + th)), (1, .ref (B + x1))] := hl
  exact kb_X6_glueOn_0 C hth h1 ⟨hEv, hWd, va_S.rf⟩ hl hf
end
