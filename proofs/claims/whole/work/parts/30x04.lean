section
variable {p : Program} {l : Launch} {e : Env} {s : State} {m : MethodId} {args : Array Value} {below : List Frame} {meth : Method} {c : Code} {Q : State → Prop} {G : GG} {A : Nat → Prop} {N B : Nat} {E : Nat → va_E} {X : va_W}
abbrev wc_X5_find : List Cond := Cond.code yX5_find cX5_find 4 none :: TG
abbrev rm_X5_find : Room := { frames := 6, cells := 0, slots := 0, locals := 198 }
theorem cd_X5_find : yX5_find.cls = RX5 ∧ yX5_find.cls ≠ "java/lang/invoke/MethodHandle" ∧ yX5_find.cls ≠ "java/lang/invoke/VarHandle" ∧ (parseMethodDescriptor yX5_find.desc).map (fun d => d.parameters.length) = some 2 := by decide +kernel
theorem dX5_find_0 : decode cX5_find 0 = .ok (.aload_n 0, 1) := by decide +kernel
theorem dX5_find_1 : decode cX5_find 1 = .ok (.aload_n 2, 1) := by decide +kernel
theorem dX5_find_2 : decode cX5_find 2 = .ok (.getfield 21, 3) := by decide +kernel
theorem dX5_find_5 : decode cX5_find 5 = .ok (.putfield 27, 3) := by decide +kernel
theorem dX5_find_8 : decode cX5_find 8 = .ok (.aload_n 0, 1) := by decide +kernel
theorem dX5_find_9 : decode cX5_find 9 = .ok (.getfield 18, 3) := by decide +kernel
theorem dX5_find_12 : decode cX5_find 12 = .ok (.iconst 0, 1) := by decide +kernel
theorem dX5_find_13 : decode cX5_find 13 = .ok (.iconst 1, 1) := by decide +kernel
theorem dX5_find_14 : decode cX5_find 14 = .ok (.iastore, 1) := by decide +kernel
theorem dX5_find_15 : decode cX5_find 15 = .ok (.iconst 1, 1) := by decide +kernel
theorem dX5_find_16 : decode cX5_find 16 = .ok (.istore_n 3, 1) := by decide +kernel
theorem dX5_find_17 : decode cX5_find 17 = .ok (.iload_n 3, 1) := by decide +kernel
theorem dX5_find_18 : decode cX5_find 18 = .ok (.iconst 3, 1) := by decide +kernel
theorem dX5_find_19 : decode cX5_find 19 = .ok (.if_icmp .gt 28, 3) := by decide +kernel
theorem dX5_find_22 : decode cX5_find 22 = .ok (.aload_n 0, 1) := by decide +kernel
theorem dX5_find_23 : decode cX5_find 23 = .ok (.getfield 18, 3) := by decide +kernel
theorem dX5_find_26 : decode cX5_find 26 = .ok (.iload_n 3, 1) := by decide +kernel
theorem dX5_find_27 : decode cX5_find 27 = .ok (.aload_n 0, 1) := by decide +kernel
theorem dX5_find_28 : decode cX5_find 28 = .ok (.getfield 18, 3) := by decide +kernel
theorem dX5_find_31 : decode cX5_find 31 = .ok (.iload_n 3, 1) := by decide +kernel
theorem dX5_find_32 : decode cX5_find 32 = .ok (.iconst 1, 1) := by decide +kernel
theorem dX5_find_33 : decode cX5_find 33 = .ok (.isub, 1) := by decide +kernel
theorem dX5_find_34 : decode cX5_find 34 = .ok (.iaload, 1) := by decide +kernel
theorem dX5_find_35 : decode cX5_find 35 = .ok (.aload_n 0, 1) := by decide +kernel
theorem dX5_find_36 : decode cX5_find 36 = .ok (.getfield 27, 3) := by decide +kernel
theorem dX5_find_39 : decode cX5_find 39 = .ok (.imul, 1) := by decide +kernel
theorem dX5_find_40 : decode cX5_find 40 = .ok (.iastore, 1) := by decide +kernel
theorem dX5_find_41 : decode cX5_find 41 = .ok (.iinc 3 1, 3) := by decide +kernel
theorem dX5_find_44 : decode cX5_find 44 = .ok (.goto (-27), 3) := by decide +kernel
theorem dX5_find_47 : decode cX5_find 47 = .ok (.aload_n 0, 1) := by decide +kernel
theorem dX5_find_48 : decode cX5_find 48 = .ok (.iconst 0, 1) := by decide +kernel
theorem dX5_find_49 : decode cX5_find 49 = .ok (.putfield 28, 3) := by decide +kernel
theorem dX5_find_52 : decode cX5_find 52 = .ok (.aload_n 0, 1) := by decide +kernel
theorem dX5_find_53 : decode cX5_find 53 = .ok (.getfield 9, 3) := by decide +kernel
theorem dX5_find_56 : decode cX5_find 56 = .ok (.iconst 0, 1) := by decide +kernel
theorem dX5_find_57 : decode cX5_find 57 = .ok (.iconst 1, 1) := by decide +kernel
theorem dX5_find_58 : decode cX5_find 58 = .ok (.iastore, 1) := by decide +kernel
theorem dX5_find_59 : decode cX5_find 59 = .ok (.iconst 0, 1) := by decide +kernel
theorem dX5_find_60 : decode cX5_find 60 = .ok (.istore_n 3, 1) := by decide +kernel
theorem dX5_find_61 : decode cX5_find 61 = .ok (.iload_n 3, 1) := by decide +kernel
theorem dX5_find_62 : decode cX5_find 62 = .ok (.aload_n 1, 1) := by decide +kernel
theorem dX5_find_63 : decode cX5_find 63 = .ok (.getfield 31, 3) := by decide +kernel
theorem dX5_find_66 : decode cX5_find 66 = .ok (.if_icmp .ge 20, 3) := by decide +kernel
theorem dX5_find_69 : decode cX5_find 69 = .ok (.aload_n 0, 1) := by decide +kernel
theorem dX5_find_70 : decode cX5_find 70 = .ok (.aload_n 1, 1) := by decide +kernel
theorem dX5_find_71 : decode cX5_find 71 = .ok (.getfield 36, 3) := by decide +kernel
theorem dX5_find_74 : decode cX5_find 74 = .ok (.iload_n 3, 1) := by decide +kernel
theorem dX5_find_75 : decode cX5_find 75 = .ok (.iaload, 1) := by decide +kernel
theorem dX5_find_76 : decode cX5_find 76 = .ok (.aload_n 2, 1) := by decide +kernel
theorem dX5_find_77 : decode cX5_find 77 = .ok (.invokevirtual 39, 3) := by decide +kernel
theorem dX5_find_80 : decode cX5_find 80 = .ok (.iinc 3 1, 3) := by decide +kernel
theorem dX5_find_83 : decode cX5_find 83 = .ok (.goto (-22), 3) := by decide +kernel
theorem dX5_find_86 : decode cX5_find 86 = .ok (.return_, 1) := by decide +kernel
set_option maxRecDepth 100000 in
set_option maxHeartbeats 4000000 in
theorem kb_X5_find_17 {th : Nat} {x1 : Nat} {x2 : Nat} {st : Int32 × WX} {r : (Int32 × WX) ⊕ ((WX))} {H : Heap} {locs : List Loc} {ls : Array Slot} (C : CX p s m args meth c cX5_find 4 RX5 wc_X5_find none) (hth : KDx th = (5, 5)) (h1 : KDx x1 = (6, 3)) (h2 : KDx x2 = (0, 13)) (hG : Gd s G A 153 B (entX G B st.2) X H locs) (hl : lv_has ls 4 [(0, .ref (B + th)), (1, .ref (B + x1)), (2, .ref (B + x2)), (3, .int st.1)]) (hf : sh_X5_find_s17 th x1 x2 st = some r)
    (kL : ∀ st' : Int32 × WX, r = Sum.inl st' → ∀ (H : Heap) (locs : List Loc) (ls : Array Slot), Gd s G A 153 B (entX G B st'.2) X H locs → lv_has ls 4 [(0, .ref (B + th)), (1, .ref (B + x1)), (2, .ref (B + x2)), (3, .int st'.1)] → W p l e rm_X5_find s m args below meth c H locs 0 0 Q (F0 m 17 ls []))
    (kX0 : ∀ y' : WX, r = Sum.inr y' → ∀ (H : Heap) (locs : List Loc) (ls : Array Slot), Gd s G A 153 B (entX G B y') X H locs → lv_has ls 4 [(0, .ref (B + th)), (1, .ref (B + x1)), (2, .ref (B + x2))] → W p l e rm_X5_find s m args below meth c H locs 0 0 Q (F0 m 47 ls [])) :
    W p l e rm_X5_find s m args below meth c H locs 0 0 Q (F0 m 17 ls []) := by
  refine lv_iload_n C.1 C.2.1 dX5_find_17 rfl (lv_at hl 3 rfl) ?_
  refine lv_iconst (v := nI 3) C.1 C.2.1 dX5_find_18 (by decide) ?_
  rcases of_ite hf with ⟨c1, hf⟩ | ⟨c1, hf⟩
  · refine lv_icmp_gt (tgt := 47) C.1 C.2.1 dX5_find_19 (by decide) (fun _ => ?_) (fun q => absurd c1 q)
    obtain rfl := Option.some.inj hf
    exact kX0 _ rfl _ _ _ hG (lv_sub hl [0, 1, 2] rfl)
  · refine lv_icmp_gt (tgt := 47) C.1 C.2.1 dX5_find_19 (by decide) (fun q => absurd q c1) (fun _ => ?_)
    refine lv_aload_n C.1 C.2.1 dX5_find_22 rfl (lv_at hl 0 rfl) ?_
    refine gf_X5_18 C hG hth dX5_find_23 ?_
    refine lv_iload_n C.1 C.2.1 dX5_find_26 rfl (lv_at hl 3 rfl) ?_
    refine lv_aload_n C.1 C.2.1 dX5_find_27 rfl (lv_at hl 0 rfl) ?_
    refine gf_X5_18 C hG hth dX5_find_28 ?_
    refine lv_iload_n C.1 C.2.1 dX5_find_31 rfl (lv_at hl 3 rfl) ?_
    refine lv_iconst (v := nI 1) C.1 C.2.1 dX5_find_32 (by decide) ?_
    refine lv_isub C.1 C.2.1 dX5_find_33 ?_
    obtain ⟨v2, hv2, hf⟩ := of_bind hf
    obtain ⟨bv2, ev2⟩ := of_ldS hv2
    refine r_iald C hG (c0 := (th + 3)) (kdx_lt (kx_5_2 hth) (by decide)) (entX_I (kx_5_2 hth)) bv2 dX5_find_34 ?_
    refine r_top ev2 ?_
    refine lv_aload_n C.1 C.2.1 dX5_find_35 rfl (lv_at hl 0 rfl) ?_
    refine gf_X5_27 C hG hth dX5_find_36 ?_
    refine lv_imul C.1 C.2.1 dX5_find_39 ?_
    obtain ⟨w3, hw3, hf⟩ := of_bind hf
    obtain ⟨bw3, ew3⟩ := of_stX hw3
    refine r_iast C hG (c0 := (th + 3)) (kdx_lt (kx_5_2 hth) (by decide)) (entX_I (kx_5_2 hth)) bw3 (E' := (entX G B w3)) (by rw [ew3]; exact upX_I (kx_5_2 hth)) dX5_find_40 (fun H locs hG => ?_)
    obtain ⟨v4, ev4, hf⟩ := of_letv hf
    refine lv_iinc (v := v4) (lv' := [(3, .int v4), (0, .ref (B + th)), (1, .ref (B + x1)), (2, .ref (B + x2))]) C.1 C.2.1 dX5_find_41 hl (k := 3) rfl (by rw [ev4, show Int32.ofInt (1) = nI 1 from by decide]) (by decide) rfl (fun ls hl => ?_)
    refine lv_goto (tgt := 17) C.1 C.2.1 dX5_find_44 (by decide) ?_
    obtain rfl := Option.some.inj hf
    exact kL _ rfl _ _ _ hG (lv_sub hl [1, 2, 3, 0] rfl)
set_option maxRecDepth 100000 in
set_option maxHeartbeats 4000000 in
theorem kl_X5_find_17 {th : Nat} {x1 : Nat} {x2 : Nat} (C : CX p s m args meth c cX5_find 4 RX5 wc_X5_find none) (hth : KDx th = (5, 5)) (h1 : KDx x1 = (6, 3)) (h2 : KDx x2 = (0, 13)) : ∀ (n : Nat) (st : Int32 × WX) (x : (WX)) (H : Heap) (locs : List Loc) (ls : Array Slot), Gd s G A 153 B (entX G B st.2) X H locs → lv_has ls 4 [(0, .ref (B + th)), (1, .ref (B + x1)), (2, .ref (B + x2)), (3, .int st.1)] → lpw (sh_X5_find_s17 th x1 x2) n st = some x →
    (∀ y' : WX, x = y' → ∀ (H : Heap) (locs : List Loc) (ls : Array Slot), Gd s G A 153 B (entX G B y') X H locs → lv_has ls 4 [(0, .ref (B + th)), (1, .ref (B + x1)), (2, .ref (B + x2))] → W p l e rm_X5_find s m args below meth c H locs 0 0 Q (F0 m 47 ls [])) → W p l e rm_X5_find s m args below meth c H locs 0 0 Q (F0 m 17 ls []) := by
  intro n
  induction n with
  | zero =>
    intro st x H locs ls hG hl hf
    cases hf
  | succ n ih =>
    intro st x H locs ls hG hl hf kX0
    obtain ⟨r, hr, hh⟩ := of_lpw hf
    refine kb_X5_find_17 C hth h1 h2 hG hl hr (fun st2 e1 H locs ls hG hl => ?_) (fun y2 e1 H locs ls hG hl => ?_)
    · rcases hh with ⟨s3, e2, hh⟩ | e2
      · rw [e2] at e1
        cases e1
        exact ih _ _ _ _ _ hG hl hh kX0
      · rw [e2] at e1
        cases e1
    · rcases hh with ⟨s3, e2, hh⟩ | e2
      · rw [e2] at e1
        cases e1
      · rw [e2] at e1
        cases e1
        exact kX0 _ rfl _ _ _ hG hl
set_option maxRecDepth 100000 in
set_option maxHeartbeats 4000000 in
theorem kb_X5_find_61 {th : Nat} {x1 : Nat} {x2 : Nat} {st : Int32 × WX} {r : (Int32 × WX) ⊕ ((WX))} {H : Heap} {locs : List Loc} {ls : Array Slot} (C : CX p s m args meth c cX5_find 4 RX5 wc_X5_find none) (hth : KDx th = (5, 5)) (h1 : KDx x1 = (6, 3)) (h2 : KDx x2 = (0, 13)) (hG : Gd s G A 153 B (entX G B st.2) X H locs) (hl : lv_has ls 4 [(0, .ref (B + th)), (1, .ref (B + x1)), (2, .ref (B + x2)), (3, .int st.1)]) (hf : sh_X5_find_s61 th x1 x2 st = some r)
    (kL : ∀ st' : Int32 × WX, r = Sum.inl st' → ∀ (H : Heap) (locs : List Loc) (ls : Array Slot), Gd s G A 153 B (entX G B st'.2) X H locs → lv_has ls 4 [(0, .ref (B + th)), (1, .ref (B + x1)), (2, .ref (B + x2)), (3, .int st'.1)] → W p l e rm_X5_find s m args below meth c H locs 0 0 Q (F0 m 61 ls []))
    (kX0 : ∀ y' : WX, r = Sum.inr y' → ∀ (H : Heap) (locs : List Loc) (ls : Array Slot), Gd s G A 153 B (entX G B y') X H locs → lv_has ls 4 [] → W p l e rm_X5_find s m args below meth c H locs 0 0 Q (F0 m 86 ls [])) :
    W p l e rm_X5_find s m args below meth c H locs 0 0 Q (F0 m 61 ls []) := by
  refine lv_iload_n C.1 C.2.1 dX5_find_61 rfl (lv_at hl 3 rfl) ?_
  refine lv_aload_n C.1 C.2.1 dX5_find_62 rfl (lv_at hl 1 rfl) ?_
  refine gf_X5_31 C hG h1 dX5_find_63 ?_
  rcases of_ite hf with ⟨c1, hf⟩ | ⟨c1, hf⟩
  · refine lv_icmp_ge (tgt := 86) C.1 C.2.1 dX5_find_66 (by decide) (fun _ => ?_) (fun q => absurd c1 q)
    obtain rfl := Option.some.inj hf
    exact kX0 _ rfl _ _ _ hG (lv_sub hl [] rfl)
  · refine lv_icmp_ge (tgt := 86) C.1 C.2.1 dX5_find_66 (by decide) (fun q => absurd q c1) (fun _ => ?_)
    refine lv_aload_n C.1 C.2.1 dX5_find_69 rfl (lv_at hl 0 rfl) ?_
    refine lv_aload_n C.1 C.2.1 dX5_find_70 rfl (lv_at hl 1 rfl) ?_
    refine gf_X5_36 C hG h1 dX5_find_71 ?_
    refine lv_iload_n C.1 C.2.1 dX5_find_74 rfl (lv_at hl 3 rfl) ?_
    obtain ⟨v2, hv2, hf⟩ := of_bind hf
    obtain ⟨bv2, ev2⟩ := of_ldS hv2
    refine r_iald C hG (c0 := (x1 + 1)) (kdx_lt (kx_6_0 h1) (by decide)) (entX_I (kx_6_0 h1)) bv2 dX5_find_75 ?_
    refine r_top ev2 ?_
    refine lv_aload_n C.1 C.2.1 dX5_find_76 rfl (lv_at hl 2 rfl) ?_
    obtain ⟨w3, hw3, hf⟩ := of_bind hf
    refine r_callV0 C hG hl.1 (c0 := th) (As := [.int v2, .ref (B + x2)]) (kdx_lt hth (by decide)) (entX_O5 hth) rfl (mt_X5_step l hth h2 hw3) (cwV 2 C.2.2.2.2.1 (gd_V tg_3_99 tg_3_101 tgp_15 tg_1_9 tg_3_102) rfl rfl rfl cd_X5_step ⟨Nat.le_of_ble_eq_true rfl, Nat.le_of_ble_eq_true rfl⟩) rfl rfl (Nat.le_of_ble_eq_true rfl) dX5_find_77 (fun H locs hG => ?_)
    obtain ⟨v4, ev4, hf⟩ := of_letv hf
    refine lv_iinc (v := v4) (lv' := [(3, .int v4), (0, .ref (B + th)), (1, .ref (B + x1)), (2, .ref (B + x2))]) C.1 C.2.1 dX5_find_80 hl (k := 3) rfl (by rw [ev4, show Int32.ofInt (1) = nI 1 from by decide]) (by decide) rfl (fun ls hl => ?_)
    refine lv_goto (tgt := 61) C.1 C.2.1 dX5_find_83 (by decide) ?_
    obtain rfl := Option.some.inj hf
    exact kL _ rfl _ _ _ hG (lv_sub hl [1, 2, 3, 0] rfl)
set_option maxRecDepth 100000 in
set_option maxHeartbeats 4000000 in
theorem kl_X5_find_61 {th : Nat} {x1 : Nat} {x2 : Nat} (C : CX p s m args meth c cX5_find 4 RX5 wc_X5_find none) (hth : KDx th = (5, 5)) (h1 : KDx x1 = (6, 3)) (h2 : KDx x2 = (0, 13)) : ∀ (n : Nat) (st : Int32 × WX) (x : (WX)) (H : Heap) (locs : List Loc) (ls : Array Slot), Gd s G A 153 B (entX G B st.2) X H locs → lv_has ls 4 [(0, .ref (B + th)), (1, .ref (B + x1)), (2, .ref (B + x2)), (3, .int st.1)] → lpw (sh_X5_find_s61 th x1 x2) n st = some x →
    (∀ y' : WX, x = y' → ∀ (H : Heap) (locs : List Loc) (ls : Array Slot), Gd s G A 153 B (entX G B y') X H locs → lv_has ls 4 [] → W p l e rm_X5_find s m args below meth c H locs 0 0 Q (F0 m 86 ls [])) → W p l e rm_X5_find s m args below meth c H locs 0 0 Q (F0 m 61 ls []) := by
  intro n
  induction n with
  | zero =>
    intro st x H locs ls hG hl hf
    cases hf
  | succ n ih =>
    intro st x H locs ls hG hl hf kX0
    obtain ⟨r, hr, hh⟩ := of_lpw hf
    refine kb_X5_find_61 C hth h1 h2 hG hl hr (fun st2 e1 H locs ls hG hl => ?_) (fun y2 e1 H locs ls hG hl => ?_)
    · rcases hh with ⟨s3, e2, hh⟩ | e2
      · rw [e2] at e1
        cases e1
        exact ih _ _ _ _ _ hG hl hh kX0
      · rw [e2] at e1
        cases e1
    · rcases hh with ⟨s3, e2, hh⟩ | e2
      · rw [e2] at e1
        cases e1
      · rw [e2] at e1
        cases e1
        exact kX0 _ rfl _ _ _ hG hl
set_option maxRecDepth 100000 in
set_option maxHeartbeats 4000000 in
theorem kb_X5_find_0 {th : Nat} {x1 : Nat} {x2 : Nat} {w : WX} {out : WX} {H : Heap} {locs : List Loc} {ls : Array Slot} (C : CX p s m args meth c cX5_find 4 RX5 wc_X5_find none) (hth : KDx th = (5, 5)) (h1 : KDx x1 = (6, 3)) (h2 : KDx x2 = (0, 13)) (hG : Gd s G A 153 B (entX G B w) X H locs) (hl : lv_has ls 4 [(0, .ref (B + th)), (1, .ref (B + x1)), (2, .ref (B + x2))]) (hf : sh_X5_find th x1 x2 w = some out) :
    W p l e rm_X5_find s m args below meth c H locs 0 0 (MQ below (CPost G A 153 B (entX G B out) X none) args s 0 0 A) (F0 m 0 ls []) := by
  refine lv_aload_n C.1 C.2.1 dX5_find_0 rfl (lv_at hl 0 rfl) ?_
  refine lv_aload_n C.1 C.2.1 dX5_find_1 rfl (lv_at hl 2 rfl) ?_
  refine gf_X5_21 C hG h2 dX5_find_2 ?_
  obtain ⟨w1, ew1, hf⟩ := of_letv hf
  refine pf_X5_27 C hG hth dX5_find_5 (fun H locs hG => ?_)
  rw [← ew1] at hG
  refine lv_aload_n C.1 C.2.1 dX5_find_8 rfl (lv_at hl 0 rfl) ?_
  refine gf_X5_18 C hG hth dX5_find_9 ?_
  refine lv_iconst (v := nI 0) C.1 C.2.1 dX5_find_12 (by decide) ?_
  refine lv_iconst (v := nI 1) C.1 C.2.1 dX5_find_13 (by decide) ?_
  obtain ⟨w2, hw2, hf⟩ := of_bind hf
  obtain ⟨bw2, ew2⟩ := of_stX hw2
  refine r_iast C hG (c0 := (th + 3)) (kdx_lt (kx_5_2 hth) (by decide)) (entX_I (kx_5_2 hth)) bw2 (E' := (entX G B w2)) (by rw [ew2]; exact upX_I (kx_5_2 hth)) dX5_find_14 (fun H locs hG => ?_)
  refine lv_iconst (v := nI 1) C.1 C.2.1 dX5_find_15 (by decide) ?_
  refine lv_istore_n (lv' := [(3, .int (nI 1)), (0, .ref (B + th)), (1, .ref (B + x1)), (2, .ref (B + x2))]) C.1 C.2.1 dX5_find_16 rfl hl (by decide) rfl (fun ls hl => ?_)
  obtain ⟨ex3, hex3, hf⟩ := of_bind hf
  refine kl_X5_find_17 C hth h1 h2 FU (nI 1, w2) ex3 _ _ _ hG (lv_sub hl [1, 2, 3, 0] rfl) hex3 (fun y e0 H locs ls hG hl => ?_)
  subst e0
  refine lv_aload_n C.1 C.2.1 dX5_find_47 rfl (lv_at hl 0 rfl) ?_
  refine lv_iconst (v := nI 0) C.1 C.2.1 dX5_find_48 (by decide) ?_
  obtain ⟨w4, ew4, hf⟩ := of_letv hf
  refine pf_X5_28 C hG hth dX5_find_49 (fun H locs hG => ?_)
  rw [← ew4] at hG
  refine lv_aload_n C.1 C.2.1 dX5_find_52 rfl (lv_at hl 0 rfl) ?_
  refine gf_X5_9 C hG hth dX5_find_53 ?_
  refine lv_iconst (v := nI 0) C.1 C.2.1 dX5_find_56 (by decide) ?_
  refine lv_iconst (v := nI 1) C.1 C.2.1 dX5_find_57 (by decide) ?_
  obtain ⟨w5, hw5, hf⟩ := of_bind hf
  obtain ⟨kw5, bw5, ew5⟩ := of_stDX hw5
  refine r_iast C hG (c0 := w4.2 th 0) (kdx_lt (kd_eta kw5) (by decide)) (entX_I (kd_eta kw5)) bw5 (E' := (entX G B w5)) (by rw [ew5]; exact upX_I (kd_eta kw5)) dX5_find_58 (fun H locs hG => ?_)
  refine lv_iconst (v := nI 0) C.1 C.2.1 dX5_find_59 (by decide) ?_
  refine lv_istore_n (lv' := [(3, .int (nI 0)), (0, .ref (B + th)), (1, .ref (B + x1)), (2, .ref (B + x2))]) C.1 C.2.1 dX5_find_60 rfl hl (by decide) rfl (fun ls hl => ?_)
  obtain ⟨ex6, hex6, hf⟩ := of_bind hf
  refine kl_X5_find_61 C hth h1 h2 FU (nI 0, w5) ex6 _ _ _ hG (lv_sub hl [1, 2, 3, 0] rfl) hex6 (fun y e0 H locs ls hG hl => ?_)
  subst e0
  obtain rfl := Option.some.inj hf
  exact r_vret C hG dX5_find_86
set_option maxRecDepth 100000 in
set_option maxHeartbeats 4000000 in
theorem mt_X5_find (l : Launch) {G : GG} {A : Nat → Prop} {B : Nat} {X : va_W} {th : Nat} {x1 : Nat} {x2 : Nat} {w : WX} {out : WX} (hth : KDx th = (5, 5)) (h1 : KDx x1 = (6, 3)) (h2 : KDx x2 = (0, 13)) (hf : sh_X5_find th x1 x2 w = some out) : MetW l yX5_find wc_X5_find rm_X5_find G A 153 B (entX G B w) X [.ref (B + th), .ref (B + x1), .ref (B + x2)] none (entX G B out) := by
  refine Met.ofW (cc := cX5_find) (maxL := 4) (ret := none) (by decide) rfl ?_
  intro p e s m args below meth c s₁ B0 hml hv
  obtain ⟨rfl, hEv, hWd⟩ := hv
  have C : CX p s m _ meth c cX5_find 4 RX5 wc_X5_find none := ⟨B0.exec, B0.bytes, hml, findClass_of_methodNamed B0.named, atoms_spec (ws := wc_X5_find) B0.pre, B0.returns, B0.notSynchronized⟩
  have hl := lv_entry [.ref (B + th), .ref (B + x1), .ref (B + x2)] (n := 4) (Nat.le_of_ble_eq_true rfl)
  rw [lg_entry_eq]
  generalize (lg_sl [.ref (B + th), .ref (B + x1), .ref (B + x2)] ++ List.replicate (4 - (lg_sl [.ref (B + th), .ref (B + x1), .ref (B + x2)]).length) Slot.unset).toArray = ls at hl ⊢
  have hl : lv_has ls 4 [(0, .ref (B + th)), (1, .ref (B + x1)), (2, .ref (B + x2))] := hl
  exact kb_X5_find_0 C hth h1 h2 ⟨hEv, hWd, va_S.rf⟩ hl hf
abbrev wc_X5_places : List Cond := Cond.code yX5_places cX5_places 1 (some .int) :: TG
abbrev rm_X5_places : Room := { frames := 2, cells := 0, slots := 0, locals := 100 }
theorem cd_X5_places : yX5_places.cls = RX5 ∧ yX5_places.cls ≠ "java/lang/invoke/MethodHandle" ∧ yX5_places.cls ≠ "java/lang/invoke/VarHandle" ∧ (parseMethodDescriptor yX5_places.desc).map (fun d => d.parameters.length) = some 0 := by decide +kernel
theorem dX5_places_0 : decode cX5_places 0 = .ok (.aload_n 0, 1) := by decide +kernel
theorem dX5_places_1 : decode cX5_places 1 = .ok (.getfield 18, 3) := by decide +kernel
theorem dX5_places_4 : decode cX5_places 4 = .ok (.aload_n 0, 1) := by decide +kernel
theorem dX5_places_5 : decode cX5_places 5 = .ok (.getfield 28, 3) := by decide +kernel
theorem dX5_places_8 : decode cX5_places 8 = .ok (.iaload, 1) := by decide +kernel
theorem dX5_places_9 : decode cX5_places 9 = .ok (.ireturn, 1) := by decide +kernel
set_option maxRecDepth 100000 in
set_option maxHeartbeats 4000000 in
theorem kb_X5_places_0 {th : Nat} {w : WX} {out : Int32} {H : Heap} {locs : List Loc} {ls : Array Slot} (C : CX p s m args meth c cX5_places 1 RX5 wc_X5_places (some .int)) (hth : KDx th = (5, 5)) (hG : Gd s G A 153 B (entX G B w) X H locs) (hl : lv_has ls 1 [(0, .ref (B + th))]) (hf : sh_X5_places th w = some out) :
    W p l e rm_X5_places s m args below meth c H locs 0 0 (MQ below (CPost G A 153 B (entX G B w) X (some (.int out))) args s 0 0 A) (F0 m 0 ls []) := by
  refine lv_aload_n C.1 C.2.1 dX5_places_0 rfl (lv_at hl 0 rfl) ?_
  refine gf_X5_18 C hG hth dX5_places_1 ?_
  refine lv_aload_n C.1 C.2.1 dX5_places_4 rfl (lv_at hl 0 rfl) ?_
  refine gf_X5_28 C hG hth dX5_places_5 ?_
  obtain ⟨v1, hv1, hf⟩ := of_bind hf
  obtain ⟨bv1, ev1⟩ := of_ldS hv1
  refine r_iald C hG (c0 := (th + 3)) (kdx_lt (kx_5_2 hth) (by decide)) (entX_I (kx_5_2 hth)) bv1 dX5_places_8 ?_
  refine r_top ev1 ?_
  obtain rfl := Option.some.inj hf
  exact r_iret C hG dX5_places_9
set_option maxRecDepth 100000 in
set_option maxHeartbeats 4000000 in
theorem mt_X5_places (l : Launch) {G : GG} {A : Nat → Prop} {B : Nat} {X : va_W} {th : Nat} {w : WX} {out : Int32} (hth : KDx th = (5, 5)) (hf : sh_X5_places th w = some out) : MetW l yX5_places wc_X5_places rm_X5_places G A 153 B (entX G B w) X [.ref (B + th)] (some (.int out)) (entX G B w) := by
  refine Met.ofW (cc := cX5_places) (maxL := 1) (ret := (some .int)) (by decide) rfl ?_
  intro p e s m args below meth c s₁ B0 hml hv
  obtain ⟨rfl, hEv, hWd⟩ := hv
  have C : CX p s m _ meth c cX5_places 1 RX5 wc_X5_places (some .int) := ⟨B0.exec, B0.bytes, hml, findClass_of_methodNamed B0.named, atoms_spec (ws := wc_X5_places) B0.pre, B0.returns, B0.notSynchronized⟩
  have hl := lv_entry [.ref (B + th)] (n := 1) (Nat.le_of_ble_eq_true rfl)
  rw [lg_entry_eq]
  generalize (lg_sl [.ref (B + th)] ++ List.replicate (1 - (lg_sl [.ref (B + th)]).length) Slot.unset).toArray = ls at hl ⊢
  have hl : lv_has ls 1 [(0, .ref (B + th))] := hl
  exact kb_X5_places_0 C hth ⟨hEv, hWd, va_S.rf⟩ hl hf
abbrev wc_X5_hasPlace : List Cond := Cond.code yX5_hasPlace cX5_hasPlace 2 (some .boolean) :: TG
abbrev rm_X5_hasPlace : Room := { frames := 3, cells := 0, slots := 0, locals := 120 }
theorem cd_X5_hasPlace : yX5_hasPlace.cls = RX5 ∧ yX5_hasPlace.cls ≠ "java/lang/invoke/MethodHandle" ∧ yX5_hasPlace.cls ≠ "java/lang/invoke/VarHandle" ∧ (parseMethodDescriptor yX5_hasPlace.desc).map (fun d => d.parameters.length) = some 1 := by decide +kernel
theorem dX5_hasPlace_0 : decode cX5_hasPlace 0 = .ok (.iload_n 1, 1) := by decide +kernel
theorem dX5_hasPlace_1 : decode cX5_hasPlace 1 = .ok (.ifCond .lt 15, 3) := by decide +kernel
theorem dX5_hasPlace_4 : decode cX5_hasPlace 4 = .ok (.iload_n 1, 1) := by decide +kernel
theorem dX5_hasPlace_5 : decode cX5_hasPlace 5 = .ok (.aload_n 0, 1) := by decide +kernel
theorem dX5_hasPlace_6 : decode cX5_hasPlace 6 = .ok (.invokevirtual 110, 3) := by decide +kernel
theorem dX5_hasPlace_9 : decode cX5_hasPlace 9 = .ok (.if_icmp .ge 7, 3) := by decide +kernel
theorem dX5_hasPlace_12 : decode cX5_hasPlace 12 = .ok (.iconst 1, 1) := by decide +kernel
theorem dX5_hasPlace_13 : decode cX5_hasPlace 13 = .ok (.goto 4, 3) := by decide +kernel
theorem dX5_hasPlace_16 : decode cX5_hasPlace 16 = .ok (.iconst 0, 1) := by decide +kernel
theorem dX5_hasPlace_17 : decode cX5_hasPlace 17 = .ok (.ireturn, 1) := by decide +kernel
set_option maxRecDepth 100000 in
set_option maxHeartbeats 4000000 in
theorem kb_X5_hasPlace_0 {th : Nat} {x1 : Int32} {w : WX} {out : Int32} {H : Heap} {locs : List Loc} {ls : Array Slot} (C : CX p s m args meth c cX5_hasPlace 2 RX5 wc_X5_hasPlace (some .boolean)) (hth : KDx th = (5, 5)) (hG : Gd s G A 153 B (entX G B w) X H locs) (hl : lv_has ls 2 [(0, .ref (B + th)), (1, .int x1)]) (hf : sh_X5_hasPlace th x1 w = some out) :
    W p l e rm_X5_hasPlace s m args below meth c H locs 0 0 (MQ below (CPost G A 153 B (entX G B w) X (some (.int out))) args s 0 0 A) (F0 m 0 ls []) := by
  refine lv_iload_n C.1 C.2.1 dX5_hasPlace_0 rfl (lv_at hl 1 rfl) ?_
  rcases of_ite hf with ⟨c1, hf⟩ | ⟨c1, hf⟩
  · refine lv_if_lt (tgt := 16) C.1 C.2.1 dX5_hasPlace_1 (by decide) (fun _ => ?_) (fun q => absurd c1 q)
    refine lv_iconst (v := nI 0) C.1 C.2.1 dX5_hasPlace_16 (by decide) ?_
    obtain rfl := Option.some.inj hf
    exact r_zret C hG (Or.inl rfl) dX5_hasPlace_17
  · refine lv_if_lt (tgt := 16) C.1 C.2.1 dX5_hasPlace_1 (by decide) (fun q => absurd q c1) (fun _ => ?_)
    refine lv_iload_n C.1 C.2.1 dX5_hasPlace_4 rfl (lv_at hl 1 rfl) ?_
    refine lv_aload_n C.1 C.2.1 dX5_hasPlace_5 rfl (lv_at hl 0 rfl) ?_
    obtain ⟨v2, hv2, hf⟩ := of_bind hf
    refine r_callV1 C hG hl.1 (c0 := th) (As := []) (kdx_lt hth (by decide)) (entX_O5 hth) rfl (mt_X5_places l hth hv2) (cwV 0 C.2.2.2.2.1 (gd_V tg_3_148 tg_3_149 tg_3_150 tg_1_9 tg_3_151) rfl rfl rfl cd_X5_places ⟨Nat.le_of_ble_eq_true rfl, Nat.le_of_ble_eq_true rfl⟩) rfl rfl (Nat.le_of_ble_eq_true rfl) dX5_hasPlace_6 (fun H locs hG => ?_)
    rcases of_ite hf with ⟨c3, hf⟩ | ⟨c3, hf⟩
    · refine lv_icmp_ge (tgt := 16) C.1 C.2.1 dX5_hasPlace_9 (by decide) (fun _ => ?_) (fun q => absurd c3 q)
      refine lv_iconst (v := nI 0) C.1 C.2.1 dX5_hasPlace_16 (by decide) ?_
      obtain rfl := Option.some.inj hf
      exact r_zret C hG (Or.inl rfl) dX5_hasPlace_17
    · refine lv_icmp_ge (tgt := 16) C.1 C.2.1 dX5_hasPlace_9 (by decide) (fun q => absurd q c3) (fun _ => ?_)
      refine lv_iconst (v := nI 1) C.1 C.2.1 dX5_hasPlace_12 (by decide) ?_
      refine lv_goto (tgt := 17) C.1 C.2.1 dX5_hasPlace_13 (by decide) ?_
      obtain rfl := Option.some.inj hf
      exact r_zret C hG (Or.inr rfl) dX5_hasPlace_17
set_option maxRecDepth 100000 in
set_option maxHeartbeats 4000000 in
theorem mt_X5_hasPlace (l : Launch) {G : GG} {A : Nat → Prop} {B : Nat} {X : va_W} {th : Nat} {x1 : Int32} {w : WX} {out : Int32} (hth : KDx th = (5, 5)) (hf : sh_X5_hasPlace th x1 w = some out) : MetW l yX5_hasPlace wc_X5_hasPlace rm_X5_hasPlace G A 153 B (entX G B w) X [.ref (B + th), .int x1] (some (.int out)) (entX G B w) := by
  refine Met.ofW (cc := cX5_hasPlace) (maxL := 2) (ret := (some .boolean)) (by decide) rfl ?_
  intro p e s m args below meth c s₁ B0 hml hv
  obtain ⟨rfl, hEv, hWd⟩ := hv
  have C : CX p s m _ meth c cX5_hasPlace 2 RX5 wc_X5_hasPlace (some .boolean) := ⟨B0.exec, B0.bytes, hml, findClass_of_methodNamed B0.named, atoms_spec (ws := wc_X5_hasPlace) B0.pre, B0.returns, B0.notSynchronized⟩
  have hl := lv_entry [.ref (B + th), .int x1] (n := 2) (Nat.le_of_ble_eq_true rfl)
  rw [lg_entry_eq]
  generalize (lg_sl [.ref (B + th), .int x1] ++ List.replicate (2 - (lg_sl [.ref (B + th), .int x1]).length) Slot.unset).toArray = ls at hl ⊢
  have hl : lv_has ls 2 [(0, .ref (B + th)), (1, .int x1)] := hl
  exact kb_X5_hasPlace_0 C hth ⟨hEv, hWd, va_S.rf⟩ hl hf
abbrev wc_X5_notZero : List Cond := Cond.code yX5_notZero cX5_notZero 3 (some .int) :: TG
abbrev rm_X5_notZero : Room := { frames := 3, cells := 0, slots := 0, locals := 120 }
theorem cd_X5_notZero : yX5_notZero.cls = RX5 ∧ yX5_notZero.cls ≠ "java/lang/invoke/MethodHandle" ∧ yX5_notZero.cls ≠ "java/lang/invoke/VarHandle" ∧ (parseMethodDescriptor yX5_notZero.desc).map (fun d => d.parameters.length) = some 0 := by decide +kernel
theorem dX5_notZero_0 : decode cX5_notZero 0 = .ok (.iconst 0, 1) := by decide +kernel
theorem dX5_notZero_1 : decode cX5_notZero 1 = .ok (.istore_n 1, 1) := by decide +kernel
theorem dX5_notZero_2 : decode cX5_notZero 2 = .ok (.iconst 0, 1) := by decide +kernel
theorem dX5_notZero_3 : decode cX5_notZero 3 = .ok (.istore_n 2, 1) := by decide +kernel
theorem dX5_notZero_4 : decode cX5_notZero 4 = .ok (.iload_n 2, 1) := by decide +kernel
theorem dX5_notZero_5 : decode cX5_notZero 5 = .ok (.aload_n 0, 1) := by decide +kernel
theorem dX5_notZero_6 : decode cX5_notZero 6 = .ok (.invokevirtual 110, 3) := by decide +kernel
theorem dX5_notZero_9 : decode cX5_notZero 9 = .ok (.if_icmp .ge 26, 3) := by decide +kernel
theorem dX5_notZero_12 : decode cX5_notZero 12 = .ok (.iload_n 1, 1) := by decide +kernel
theorem dX5_notZero_13 : decode cX5_notZero 13 = .ok (.aload_n 0, 1) := by decide +kernel
theorem dX5_notZero_14 : decode cX5_notZero 14 = .ok (.getfield 9, 3) := by decide +kernel
theorem dX5_notZero_17 : decode cX5_notZero 17 = .ok (.iload_n 2, 1) := by decide +kernel
theorem dX5_notZero_18 : decode cX5_notZero 18 = .ok (.iaload, 1) := by decide +kernel
theorem dX5_notZero_19 : decode cX5_notZero 19 = .ok (.ifCond .eq 7, 3) := by decide +kernel
theorem dX5_notZero_22 : decode cX5_notZero 22 = .ok (.iconst 1, 1) := by decide +kernel
theorem dX5_notZero_23 : decode cX5_notZero 23 = .ok (.goto 4, 3) := by decide +kernel
theorem dX5_notZero_26 : decode cX5_notZero 26 = .ok (.iconst 0, 1) := by decide +kernel
theorem dX5_notZero_27 : decode cX5_notZero 27 = .ok (.iadd, 1) := by decide +kernel
theorem dX5_notZero_28 : decode cX5_notZero 28 = .ok (.istore_n 1, 1) := by decide +kernel
theorem dX5_notZero_29 : decode cX5_notZero 29 = .ok (.iinc 2 1, 3) := by decide +kernel
theorem dX5_notZero_32 : decode cX5_notZero 32 = .ok (.goto (-28), 3) := by decide +kernel
theorem dX5_notZero_35 : decode cX5_notZero 35 = .ok (.iload_n 1, 1) := by decide +kernel
theorem dX5_notZero_36 : decode cX5_notZero 36 = .ok (.ireturn, 1) := by decide +kernel
set_option maxRecDepth 100000 in
set_option maxHeartbeats 4000000 in
theorem kb_X5_notZero_4 {th : Nat} {w : WX} {st : Int32 × Int32} {r : (Int32 × Int32) ⊕ ((Int32))} {H : Heap} {locs : List Loc} {ls : Array Slot} (C : CX p s m args meth c cX5_notZero 3 RX5 wc_X5_notZero (some .int)) (hth : KDx th = (5, 5)) (hG : Gd s G A 153 B (entX G B w) X H locs) (hl : lv_has ls 3 [(0, .ref (B + th)), (1, .int st.1), (2, .int st.2)]) (hf : sh_X5_notZero_s4 th w st = some r)
    (kL : ∀ st' : Int32 × Int32, r = Sum.inl st' → ∀ (H : Heap) (locs : List Loc) (ls : Array Slot), Gd s G A 153 B (entX G B w) X H locs → lv_has ls 3 [(0, .ref (B + th)), (1, .int st'.1), (2, .int st'.2)] → W p l e rm_X5_notZero s m args below meth c H locs 0 0 Q (F0 m 4 ls []))
    (kX0 : ∀ y' : Int32, r = Sum.inr y' → ∀ (H : Heap) (locs : List Loc) (ls : Array Slot), Gd s G A 153 B (entX G B w) X H locs → lv_has ls 3 [(1, .int y')] → W p l e rm_X5_notZero s m args below meth c H locs 0 0 Q (F0 m 35 ls [])) :
    W p l e rm_X5_notZero s m args below meth c H locs 0 0 Q (F0 m 4 ls []) := by
  refine lv_iload_n C.1 C.2.1 dX5_notZero_4 rfl (lv_at hl 2 rfl) ?_
  refine lv_aload_n C.1 C.2.1 dX5_notZero_5 rfl (lv_at hl 0 rfl) ?_
  obtain ⟨v1, hv1, hf⟩ := of_bind hf
  refine r_callV1 C hG hl.1 (c0 := th) (As := []) (kdx_lt hth (by decide)) (entX_O5 hth) rfl (mt_X5_places l hth hv1) (cwV 0 C.2.2.2.2.1 (gd_V tg_3_148 tg_3_149 tg_3_150 tg_1_9 tg_3_151) rfl rfl rfl cd_X5_places ⟨Nat.le_of_ble_eq_true rfl, Nat.le_of_ble_eq_true rfl⟩) rfl rfl (Nat.le_of_ble_eq_true rfl) dX5_notZero_6 (fun H locs hG => ?_)
  rcases of_ite hf with ⟨c2, hf⟩ | ⟨c2, hf⟩
  · refine lv_icmp_ge (tgt := 35) C.1 C.2.1 dX5_notZero_9 (by decide) (fun _ => ?_) (fun q => absurd c2 q)
    obtain rfl := Option.some.inj hf
    exact kX0 _ rfl _ _ _ hG (lv_sub hl [1] rfl)
  · refine lv_icmp_ge (tgt := 35) C.1 C.2.1 dX5_notZero_9 (by decide) (fun q => absurd q c2) (fun _ => ?_)
    refine lv_iload_n C.1 C.2.1 dX5_notZero_12 rfl (lv_at hl 1 rfl) ?_
    refine lv_aload_n C.1 C.2.1 dX5_notZero_13 rfl (lv_at hl 0 rfl) ?_
    refine gf_X5_9 C hG hth dX5_notZero_14 ?_
    refine lv_iload_n C.1 C.2.1 dX5_notZero_17 rfl (lv_at hl 2 rfl) ?_
    obtain ⟨v3, hv3, hf⟩ := of_bind hf
    obtain ⟨kv3, bv3, ev3⟩ := of_ldD hv3
    refine r_iald C hG (c0 := w.2 th 0) (kdx_lt (kd_eta kv3) (by decide)) (entX_I (kd_eta kv3)) bv3 dX5_notZero_18 ?_
    refine r_top ev3 ?_
    rcases of_ite hf with ⟨c4, hf⟩ | ⟨c4, hf⟩
    · refine lv_if_eq (tgt := 26) C.1 C.2.1 dX5_notZero_19 (by decide) (fun _ => ?_) (fun q => absurd c4 q)
      refine lv_iconst (v := nI 0) C.1 C.2.1 dX5_notZero_26 (by decide) ?_
      refine lv_iadd C.1 C.2.1 dX5_notZero_27 ?_
      obtain ⟨v5, ev5, hf⟩ := of_letv hf
      refine r_top ev5 ?_
      refine lv_istore_n (lv' := [(1, .int v5), (0, .ref (B + th)), (2, .int st.2)]) C.1 C.2.1 dX5_notZero_28 rfl hl (by decide) rfl (fun ls hl => ?_)
      obtain ⟨v6, ev6, hf⟩ := of_letv hf
      refine lv_iinc (v := v6) (lv' := [(2, .int v6), (1, .int v5), (0, .ref (B + th))]) C.1 C.2.1 dX5_notZero_29 hl (k := 2) rfl (by rw [ev6, show Int32.ofInt (1) = nI 1 from by decide]) (by decide) rfl (fun ls hl => ?_)
      refine lv_goto (tgt := 4) C.1 C.2.1 dX5_notZero_32 (by decide) ?_
      obtain rfl := Option.some.inj hf
      exact kL _ rfl _ _ _ hG (lv_sub hl [2, 1, 0] rfl)
    · refine lv_if_eq (tgt := 26) C.1 C.2.1 dX5_notZero_19 (by decide) (fun q => absurd q c4) (fun _ => ?_)
      refine lv_iconst (v := nI 1) C.1 C.2.1 dX5_notZero_22 (by decide) ?_
      refine lv_goto (tgt := 27) C.1 C.2.1 dX5_notZero_23 (by decide) ?_
      refine lv_iadd C.1 C.2.1 dX5_notZero_27 ?_
      obtain ⟨v7, ev7, hf⟩ := of_letv hf
      refine r_top ev7 ?_
      refine lv_istore_n (lv' := [(1, .int v7), (0, .ref (B + th)), (2, .int st.2)]) C.1 C.2.1 dX5_notZero_28 rfl hl (by decide) rfl (fun ls hl => ?_)
      obtain ⟨v8, ev8, hf⟩ := of_letv hf
      refine lv_iinc (v := v8) (lv' := [(2, .int v8), (1, .int v7), (0, .ref (B + th))]) C.1 C.2.1 dX5_notZero_29 hl (k := 2) rfl (by rw [ev8, show Int32.ofInt (1) = nI 1 from by decide]) (by decide) rfl (fun ls hl => ?_)
      refine lv_goto (tgt := 4) C.1 C.2.1 dX5_notZero_32 (by decide) ?_
      obtain rfl := Option.some.inj hf
      exact kL _ rfl _ _ _ hG (lv_sub hl [2, 1, 0] rfl)
set_option maxRecDepth 100000 in
set_option maxHeartbeats 4000000 in
theorem kl_X5_notZero_4 {th : Nat} {w : WX} (C : CX p s m args meth c cX5_notZero 3 RX5 wc_X5_notZero (some .int)) (hth : KDx th = (5, 5)) : ∀ (n : Nat) (st : Int32 × Int32) (x : (Int32)) (H : Heap) (locs : List Loc) (ls : Array Slot), Gd s G A 153 B (entX G B w) X H locs → lv_has ls 3 [(0, .ref (B + th)), (1, .int st.1), (2, .int st.2)] → lpw (sh_X5_notZero_s4 th w) n st = some x →
    (∀ y' : Int32, x = y' → ∀ (H : Heap) (locs : List Loc) (ls : Array Slot), Gd s G A 153 B (entX G B w) X H locs → lv_has ls 3 [(1, .int y')] → W p l e rm_X5_notZero s m args below meth c H locs 0 0 Q (F0 m 35 ls [])) → W p l e rm_X5_notZero s m args below meth c H locs 0 0 Q (F0 m 4 ls []) := by
  intro n
  induction n with
  | zero =>
    intro st x H locs ls hG hl hf
    cases hf
  | succ n ih =>
    intro st x H locs ls hG hl hf kX0
    obtain ⟨r, hr, hh⟩ := of_lpw hf
    refine kb_X5_notZero_4 C hth hG hl hr (fun st2 e1 H locs ls hG hl => ?_) (fun y2 e1 H locs ls hG hl => ?_)
    · rcases hh with ⟨s3, e2, hh⟩ | e2
      · rw [e2] at e1
        cases e1
        exact ih _ _ _ _ _ hG hl hh kX0
      · rw [e2] at e1
        cases e1
    · rcases hh with ⟨s3, e2, hh⟩ | e2
      · rw [e2] at e1
        cases e1
      · rw [e2] at e1
        cases e1
        exact kX0 _ rfl _ _ _ hG hl
set_option maxRecDepth 100000 in
set_option maxHeartbeats 4000000 in
theorem kb_X5_notZero_0 {th : Nat} {w : WX} {out : Int32} {H : Heap} {locs : List Loc} {ls : Array Slot} (C : CX p s m args meth c cX5_notZero 3 RX5 wc_X5_notZero (some .int)) (hth : KDx th = (5, 5)) (hG : Gd s G A 153 B (entX G B w) X H locs) (hl : lv_has ls 3 [(0, .ref (B + th))]) (hf : sh_X5_notZero th w = some out) :
    W p l e rm_X5_notZero s m args below meth c H locs 0 0 (MQ below (CPost G A 153 B (entX G B w) X (some (.int out))) args s 0 0 A) (F0 m 0 ls []) := by
  refine lv_iconst (v := nI 0) C.1 C.2.1 dX5_notZero_0 (by decide) ?_
  refine lv_istore_n (lv' := [(1, .int (nI 0)), (0, .ref (B + th))]) C.1 C.2.1 dX5_notZero_1 rfl hl (by decide) rfl (fun ls hl => ?_)
  refine lv_iconst (v := nI 0) C.1 C.2.1 dX5_notZero_2 (by decide) ?_
  refine lv_istore_n (lv' := [(2, .int (nI 0)), (1, .int (nI 0)), (0, .ref (B + th))]) C.1 C.2.1 dX5_notZero_3 rfl hl (by decide) rfl (fun ls hl => ?_)
  obtain ⟨ex1, hex1, hf⟩ := of_bind hf
  refine kl_X5_notZero_4 C hth FU (nI 0, nI 0) ex1 _ _ _ hG (lv_sub hl [2, 1, 0] rfl) hex1 (fun y e0 H locs ls hG hl => ?_)
  subst e0
  refine lv_iload_n C.1 C.2.1 dX5_notZero_35 rfl (lv_at hl 0 rfl) ?_
  obtain rfl := Option.some.inj hf
  exact r_iret C hG dX5_notZero_36
set_option maxRecDepth 100000 in
set_option maxHeartbeats 4000000 in
theorem mt_X5_notZero (l : Launch) {G : GG} {A : Nat → Prop} {B : Nat} {X : va_W} {th : Nat} {w : WX} {out : Int32} (hth : KDx th = (5, 5)) (hf : sh_X5_notZero th w = some out) : MetW l yX5_notZero wc_X5_notZero rm_X5_notZero G A 153 B (entX G B w) X [.ref (B + th)] (some (.int out)) (entX G B w) := by
  refine Met.ofW (cc := cX5_notZero) (maxL := 3) (ret := (some .int)) (by decide) rfl ?_
  intro p e s m args below meth c s₁ B0 hml hv
  obtain ⟨rfl, hEv, hWd⟩ := hv
  have C : CX p s m _ meth c cX5_notZero 3 RX5 wc_X5_notZero (some .int) := ⟨B0.exec, B0.bytes, hml, findClass_of_methodNamed B0.named, atoms_spec (ws := wc_X5_notZero) B0.pre, B0.returns, B0.notSynchronized⟩
  have hl := lv_entry [.ref (B + th)] (n := 3) (Nat.le_of_ble_eq_true rfl)
  rw [lg_entry_eq]
  generalize (lg_sl [.ref (B + th)] ++ List.replicate (3 - (lg_sl [.ref (B + th)]).length) Slot.unset).toArray = ls at hl ⊢
  have hl : lv_has ls 3 [(0, .ref (B + th))] := hl
  exact kb_X5_notZero_0 C hth ⟨hEv, hWd, va_S.rf⟩ hl hf
abbrev wc_X5_firstNotZero : List Cond := Cond.code yX5_firstNotZero cX5_firstNotZero 2 (some .int) :: TG
abbrev rm_X5_firstNotZero : Room := { frames := 3, cells := 0, slots := 0, locals := 120 }
theorem cd_X5_firstNotZero : yX5_firstNotZero.cls = RX5 ∧ yX5_firstNotZero.cls ≠ "java/lang/invoke/MethodHandle" ∧ yX5_firstNotZero.cls ≠ "java/lang/invoke/VarHandle" ∧ (parseMethodDescriptor yX5_firstNotZero.desc).map (fun d => d.parameters.length) = some 0 := by decide +kernel
theorem dX5_firstNotZero_0 : decode cX5_firstNotZero 0 = .ok (.iconst 0, 1) := by decide +kernel
theorem dX5_firstNotZero_1 : decode cX5_firstNotZero 1 = .ok (.istore_n 1, 1) := by decide +kernel
theorem dX5_firstNotZero_2 : decode cX5_firstNotZero 2 = .ok (.iload_n 1, 1) := by decide +kernel
theorem dX5_firstNotZero_3 : decode cX5_firstNotZero 3 = .ok (.aload_n 0, 1) := by decide +kernel
theorem dX5_firstNotZero_4 : decode cX5_firstNotZero 4 = .ok (.invokevirtual 110, 3) := by decide +kernel
theorem dX5_firstNotZero_7 : decode cX5_firstNotZero 7 = .ok (.if_icmp .ge 20, 3) := by decide +kernel
theorem dX5_firstNotZero_10 : decode cX5_firstNotZero 10 = .ok (.aload_n 0, 1) := by decide +kernel
theorem dX5_firstNotZero_11 : decode cX5_firstNotZero 11 = .ok (.getfield 9, 3) := by decide +kernel
theorem dX5_firstNotZero_14 : decode cX5_firstNotZero 14 = .ok (.iload_n 1, 1) := by decide +kernel
theorem dX5_firstNotZero_15 : decode cX5_firstNotZero 15 = .ok (.iaload, 1) := by decide +kernel
theorem dX5_firstNotZero_16 : decode cX5_firstNotZero 16 = .ok (.ifCond .eq 5, 3) := by decide +kernel
theorem dX5_firstNotZero_19 : decode cX5_firstNotZero 19 = .ok (.iload_n 1, 1) := by decide +kernel
theorem dX5_firstNotZero_20 : decode cX5_firstNotZero 20 = .ok (.ireturn, 1) := by decide +kernel
theorem dX5_firstNotZero_21 : decode cX5_firstNotZero 21 = .ok (.iinc 1 1, 3) := by decide +kernel
theorem dX5_firstNotZero_24 : decode cX5_firstNotZero 24 = .ok (.goto (-22), 3) := by decide +kernel
theorem dX5_firstNotZero_27 : decode cX5_firstNotZero 27 = .ok (.bipush (-5), 2) := by decide +kernel
theorem dX5_firstNotZero_29 : decode cX5_firstNotZero 29 = .ok (.ireturn, 1) := by decide +kernel
set_option maxRecDepth 100000 in
set_option maxHeartbeats 4000000 in
theorem kb_X5_firstNotZero_2 {th : Nat} {w : WX} {st : Int32} {r : (Int32) ⊕ ((Int32) ⊕ (Unit))} {H : Heap} {locs : List Loc} {ls : Array Slot} (C : CX p s m args meth c cX5_firstNotZero 2 RX5 wc_X5_firstNotZero (some .int)) (hth : KDx th = (5, 5)) (hG : Gd s G A 153 B (entX G B w) X H locs) (hl : lv_has ls 2 [(0, .ref (B + th)), (1, .int st)]) (hf : sh_X5_firstNotZero_s2 th w st = some r)
    (kL : ∀ st' : Int32, r = Sum.inl st' → ∀ (H : Heap) (locs : List Loc) (ls : Array Slot), Gd s G A 153 B (entX G B w) X H locs → lv_has ls 2 [(0, .ref (B + th)), (1, .int st')] → W p l e rm_X5_firstNotZero s m args below meth c H locs 0 0 Q (F0 m 2 ls []))
    (kX0 : ∀ y' : Int32, r = Sum.inr (Sum.inl y') → ∀ (H : Heap) (locs : List Loc) (ls : Array Slot), Gd s G A 153 B (entX G B w) X H locs → lv_has ls 2 [(1, .int y')] → W p l e rm_X5_firstNotZero s m args below meth c H locs 0 0 Q (F0 m 19 ls []))
    (kX1 : ∀ y' : Unit, r = Sum.inr (Sum.inr y') → ∀ (H : Heap) (locs : List Loc) (ls : Array Slot), Gd s G A 153 B (entX G B w) X H locs → lv_has ls 2 [] → W p l e rm_X5_firstNotZero s m args below meth c H locs 0 0 Q (F0 m 27 ls [])) :
    W p l e rm_X5_firstNotZero s m args below meth c H locs 0 0 Q (F0 m 2 ls []) := by
  refine lv_iload_n C.1 C.2.1 dX5_firstNotZero_2 rfl (lv_at hl 1 rfl) ?_
  refine lv_aload_n C.1 C.2.1 dX5_firstNotZero_3 rfl (lv_at hl 0 rfl) ?_
  obtain ⟨v1, hv1, hf⟩ := of_bind hf
  refine r_callV1 C hG hl.1 (c0 := th) (As := []) (kdx_lt hth (by decide)) (entX_O5 hth) rfl (mt_X5_places l hth hv1) (cwV 0 C.2.2.2.2.1 (gd_V tg_3_148 tg_3_149 tg_3_150 tg_1_9 tg_3_151) rfl rfl rfl cd_X5_places ⟨Nat.le_of_ble_eq_true rfl, Nat.le_of_ble_eq_true rfl⟩) rfl rfl (Nat.le_of_ble_eq_true rfl) dX5_firstNotZero_4 (fun H locs hG => ?_)
  rcases of_ite hf with ⟨c2, hf⟩ | ⟨c2, hf⟩
  · refine lv_icmp_ge (tgt := 27) C.1 C.2.1 dX5_firstNotZero_7 (by decide) (fun _ => ?_) (fun q => absurd c2 q)
    obtain rfl := Option.some.inj hf
    exact kX1 _ rfl _ _ _ hG (lv_sub hl [] rfl)
  · refine lv_icmp_ge (tgt := 27) C.1 C.2.1 dX5_firstNotZero_7 (by decide) (fun q => absurd q c2) (fun _ => ?_)
    refine lv_aload_n C.1 C.2.1 dX5_firstNotZero_10 rfl (lv_at hl 0 rfl) ?_
    refine gf_X5_9 C hG hth dX5_firstNotZero_11 ?_
    refine lv_iload_n C.1 C.2.1 dX5_firstNotZero_14 rfl (lv_at hl 1 rfl) ?_
    obtain ⟨v3, hv3, hf⟩ := of_bind hf
    obtain ⟨kv3, bv3, ev3⟩ := of_ldD hv3
    refine r_iald C hG (c0 := w.2 th 0) (kdx_lt (kd_eta kv3) (by decide)) (entX_I (kd_eta kv3)) bv3 dX5_firstNotZero_15 ?_
    refine r_top ev3 ?_
    rcases of_ite hf with ⟨c4, hf⟩ | ⟨c4, hf⟩
    · refine lv_if_eq (tgt := 21) C.1 C.2.1 dX5_firstNotZero_16 (by decide) (fun _ => ?_) (fun q => absurd c4 q)
      obtain ⟨v5, ev5, hf⟩ := of_letv hf
      refine lv_iinc (v := v5) (lv' := [(1, .int v5), (0, .ref (B + th))]) C.1 C.2.1 dX5_firstNotZero_21 hl (k := 1) rfl (by rw [ev5, show Int32.ofInt (1) = nI 1 from by decide]) (by decide) rfl (fun ls hl => ?_)
      refine lv_goto (tgt := 2) C.1 C.2.1 dX5_firstNotZero_24 (by decide) ?_
      obtain rfl := Option.some.inj hf
      exact kL _ rfl _ _ _ hG (lv_sub hl [1, 0] rfl)
    · refine lv_if_eq (tgt := 21) C.1 C.2.1 dX5_firstNotZero_16 (by decide) (fun q => absurd q c4) (fun _ => ?_)
      obtain rfl := Option.some.inj hf
      exact kX0 _ rfl _ _ _ hG (lv_sub hl [1] rfl)
set_option maxRecDepth 100000 in
set_option maxHeartbeats 4000000 in
theorem kl_X5_firstNotZero_2 {th : Nat} {w : WX} (C : CX p s m args meth c cX5_firstNotZero 2 RX5 wc_X5_firstNotZero (some .int)) (hth : KDx th = (5, 5)) : ∀ (n : Nat) (st : Int32) (x : (Int32) ⊕ (Unit)) (H : Heap) (locs : List Loc) (ls : Array Slot), Gd s G A 153 B (entX G B w) X H locs → lv_has ls 2 [(0, .ref (B + th)), (1, .int st)] → lpw (sh_X5_firstNotZero_s2 th w) n st = some x →
    (∀ y' : Int32, x = (Sum.inl y') → ∀ (H : Heap) (locs : List Loc) (ls : Array Slot), Gd s G A 153 B (entX G B w) X H locs → lv_has ls 2 [(1, .int y')] → W p l e rm_X5_firstNotZero s m args below meth c H locs 0 0 Q (F0 m 19 ls [])) →
    (∀ y' : Unit, x = (Sum.inr y') → ∀ (H : Heap) (locs : List Loc) (ls : Array Slot), Gd s G A 153 B (entX G B w) X H locs → lv_has ls 2 [] → W p l e rm_X5_firstNotZero s m args below meth c H locs 0 0 Q (F0 m 27 ls [])) → W p l e rm_X5_firstNotZero s m args below meth c H locs 0 0 Q (F0 m 2 ls []) := by
  intro n
  induction n with
  | zero =>
    intro st x H locs ls hG hl hf
    cases hf
  | succ n ih =>
    intro st x H locs ls hG hl hf kX0 kX1
    obtain ⟨r, hr, hh⟩ := of_lpw hf
    refine kb_X5_firstNotZero_2 C hth hG hl hr (fun st2 e1 H locs ls hG hl => ?_) (fun y2 e1 H locs ls hG hl => ?_) (fun y2 e1 H locs ls hG hl => ?_)
    · rcases hh with ⟨s3, e2, hh⟩ | e2
      · rw [e2] at e1
        cases e1
        exact ih _ _ _ _ _ hG hl hh kX0 kX1
      · rw [e2] at e1
        cases e1
    · rcases hh with ⟨s3, e2, hh⟩ | e2
      · rw [e2] at e1
        cases e1
      · rw [e2] at e1
        cases e1
        exact kX0 _ rfl _ _ _ hG hl
    · rcases hh with ⟨s3, e2, hh⟩ | e2
      · rw [e2] at e1
        cases e1
      · rw [e2] at e1
        cases e1
        exact kX1 _ rfl _ _ _ hG hl
set_option maxRecDepth 100000 in
set_option maxHeartbeats 4000000 in
theorem kb_X5_firstNotZero_0 {th : Nat} {w : WX} {out : Int32} {H : Heap} {locs : List Loc} {ls : Array Slot} (C : CX p s m args meth c cX5_firstNotZero 2 RX5 wc_X5_firstNotZero (some .int)) (hth : KDx th = (5, 5)) (hG : Gd s G A 153 B (entX G B w) X H locs) (hl : lv_has ls 2 [(0, .ref (B + th))]) (hf : sh_X5_firstNotZero th w = some out) :
    W p l e rm_X5_firstNotZero s m args below meth c H locs 0 0 (MQ below (CPost G A 153 B (entX G B w) X (some (.int out))) args s 0 0 A) (F0 m 0 ls []) := by
  refine lv_iconst (v := nI 0) C.1 C.2.1 dX5_firstNotZero_0 (by decide) ?_
  refine lv_istore_n (lv' := [(1, .int (nI 0)), (0, .ref (B + th))]) C.1 C.2.1 dX5_firstNotZero_1 rfl hl (by decide) rfl (fun ls hl => ?_)
  obtain ⟨ex1, hex1, hf⟩ := of_bind hf
  refine kl_X5_firstNotZero_2 C hth FU (nI 0) ex1 _ _ _ hG (lv_sub hl [1, 0] rfl) hex1 (fun y2 e0 H locs ls hG hl => ?_) (fun y3 e0 H locs ls hG hl => ?_)
  · subst e0
    simp only [Sum.elim_inl, Sum.elim_inr] at hf
    refine lv_iload_n C.1 C.2.1 dX5_firstNotZero_19 rfl (lv_at hl 0 rfl) ?_
    obtain rfl := Option.some.inj hf
    exact r_iret C hG dX5_firstNotZero_20
  · subst e0
    simp only [Sum.elim_inl, Sum.elim_inr] at hf
    refine lv_bipush (v := (-5 : Int32)) C.1 C.2.1 dX5_firstNotZero_27 (by decide) ?_
    obtain rfl := Option.some.inj hf
    exact r_iret C hG dX5_firstNotZero_29
set_option maxRecDepth 100000 in
set_option maxHeartbeats 4000000 in
theorem mt_X5_firstNotZero (l : Launch) {G : GG} {A : Nat → Prop} {B : Nat} {X : va_W} {th : Nat} {w : WX} {out : Int32} (hth : KDx th = (5, 5)) (hf : sh_X5_firstNotZero th w = some out) : MetW l yX5_firstNotZero wc_X5_firstNotZero rm_X5_firstNotZero G A 153 B (entX G B w) X [.ref (B + th)] (some (.int out)) (entX G B w) := by
  refine Met.ofW (cc := cX5_firstNotZero) (maxL := 2) (ret := (some .int)) (by decide) rfl ?_
  intro p e s m args below meth c s₁ B0 hml hv
  obtain ⟨rfl, hEv, hWd⟩ := hv
  have C : CX p s m _ meth c cX5_firstNotZero 2 RX5 wc_X5_firstNotZero (some .int) := ⟨B0.exec, B0.bytes, hml, findClass_of_methodNamed B0.named, atoms_spec (ws := wc_X5_firstNotZero) B0.pre, B0.returns, B0.notSynchronized⟩
  have hl := lv_entry [.ref (B + th)] (n := 2) (Nat.le_of_ble_eq_true rfl)
  rw [lg_entry_eq]
  generalize (lg_sl [.ref (B + th)] ++ List.replicate (2 - (lg_sl [.ref (B + th)]).length) Slot.unset).toArray = ls at hl ⊢
  have hl : lv_has ls 2 [(0, .ref (B + th))] := hl
  exact kb_X5_firstNotZero_0 C hth ⟨hEv, hWd, va_S.rf⟩ hl hf
abbrev wc_X5_together : List Cond := Cond.code yX5_together cX5_together 3 (some .int) :: TG
abbrev rm_X5_together : Room := { frames := 3, cells := 0, slots := 0, locals := 122 }
theorem cd_X5_together : yX5_together.cls = RX5 ∧ yX5_together.cls ≠ "java/lang/invoke/MethodHandle" ∧ yX5_together.cls ≠ "java/lang/invoke/VarHandle" ∧ (parseMethodDescriptor yX5_together.desc).map (fun d => d.parameters.length) = some 0 := by decide +kernel
theorem dX5_together_0 : decode cX5_together 0 = .ok (.iconst 0, 1) := by decide +kernel
theorem dX5_together_1 : decode cX5_together 1 = .ok (.istore_n 1, 1) := by decide +kernel
theorem dX5_together_2 : decode cX5_together 2 = .ok (.iconst 0, 1) := by decide +kernel
theorem dX5_together_3 : decode cX5_together 3 = .ok (.istore_n 2, 1) := by decide +kernel
theorem dX5_together_4 : decode cX5_together 4 = .ok (.iload_n 2, 1) := by decide +kernel
theorem dX5_together_5 : decode cX5_together 5 = .ok (.aload_n 0, 1) := by decide +kernel
theorem dX5_together_6 : decode cX5_together 6 = .ok (.invokevirtual 110, 3) := by decide +kernel
theorem dX5_together_9 : decode cX5_together 9 = .ok (.if_icmp .ge 21, 3) := by decide +kernel
theorem dX5_together_12 : decode cX5_together 12 = .ok (.iload_n 1, 1) := by decide +kernel
theorem dX5_together_13 : decode cX5_together 13 = .ok (.iconst 1, 1) := by decide +kernel
theorem dX5_together_14 : decode cX5_together 14 = .ok (.aload_n 0, 1) := by decide +kernel
theorem dX5_together_15 : decode cX5_together 15 = .ok (.getfield 9, 3) := by decide +kernel
theorem dX5_together_18 : decode cX5_together 18 = .ok (.iload_n 2, 1) := by decide +kernel
theorem dX5_together_19 : decode cX5_together 19 = .ok (.iaload, 1) := by decide +kernel
theorem dX5_together_20 : decode cX5_together 20 = .ok (.invokestatic 107, 3) := by decide +kernel
theorem dX5_together_23 : decode cX5_together 23 = .ok (.istore_n 1, 1) := by decide +kernel
theorem dX5_together_24 : decode cX5_together 24 = .ok (.iinc 2 1, 3) := by decide +kernel
theorem dX5_together_27 : decode cX5_together 27 = .ok (.goto (-23), 3) := by decide +kernel
theorem dX5_together_30 : decode cX5_together 30 = .ok (.iload_n 1, 1) := by decide +kernel
theorem dX5_together_31 : decode cX5_together 31 = .ok (.ireturn, 1) := by decide +kernel
set_option maxRecDepth 100000 in
set_option maxHeartbeats 4000000 in
theorem kb_X5_together_4 {th : Nat} {w : WX} {st : Int32 × Int32} {r : (Int32 × Int32) ⊕ ((Int32))} {H : Heap} {locs : List Loc} {ls : Array Slot} (C : CX p s m args meth c cX5_together 3 RX5 wc_X5_together (some .int)) (hth : KDx th = (5, 5)) (hG : Gd s G A 153 B (entX G B w) X H locs) (hl : lv_has ls 3 [(0, .ref (B + th)), (1, .int st.1), (2, .int st.2)]) (hf : sh_X5_together_s4 th w st = some r)
    (kL : ∀ st' : Int32 × Int32, r = Sum.inl st' → ∀ (H : Heap) (locs : List Loc) (ls : Array Slot), Gd s G A 153 B (entX G B w) X H locs → lv_has ls 3 [(0, .ref (B + th)), (1, .int st'.1), (2, .int st'.2)] → W p l e rm_X5_together s m args below meth c H locs 0 0 Q (F0 m 4 ls []))
    (kX0 : ∀ y' : Int32, r = Sum.inr y' → ∀ (H : Heap) (locs : List Loc) (ls : Array Slot), Gd s G A 153 B (entX G B w) X H locs → lv_has ls 3 [(1, .int y')] → W p l e rm_X5_together s m args below meth c H locs 0 0 Q (F0 m 30 ls [])) :
    W p l e rm_X5_together s m args below meth c H locs 0 0 Q (F0 m 4 ls []) := by
  refine lv_iload_n C.1 C.2.1 dX5_together_4 rfl (lv_at hl 2 rfl) ?_
  refine lv_aload_n C.1 C.2.1 dX5_together_5 rfl (lv_at hl 0 rfl) ?_
  obtain ⟨v1, hv1, hf⟩ := of_bind hf
  refine r_callV1 C hG hl.1 (c0 := th) (As := []) (kdx_lt hth (by decide)) (entX_O5 hth) rfl (mt_X5_places l hth hv1) (cwV 0 C.2.2.2.2.1 (gd_V tg_3_148 tg_3_149 tg_3_150 tg_1_9 tg_3_151) rfl rfl rfl cd_X5_places ⟨Nat.le_of_ble_eq_true rfl, Nat.le_of_ble_eq_true rfl⟩) rfl rfl (Nat.le_of_ble_eq_true rfl) dX5_together_6 (fun H locs hG => ?_)
  rcases of_ite hf with ⟨c2, hf⟩ | ⟨c2, hf⟩
  · refine lv_icmp_ge (tgt := 30) C.1 C.2.1 dX5_together_9 (by decide) (fun _ => ?_) (fun q => absurd c2 q)
    obtain rfl := Option.some.inj hf
    exact kX0 _ rfl _ _ _ hG (lv_sub hl [1] rfl)
  · refine lv_icmp_ge (tgt := 30) C.1 C.2.1 dX5_together_9 (by decide) (fun q => absurd q c2) (fun _ => ?_)
    refine lv_iload_n C.1 C.2.1 dX5_together_12 rfl (lv_at hl 1 rfl) ?_
    refine lv_iconst (v := nI 1) C.1 C.2.1 dX5_together_13 (by decide) ?_
    refine lv_aload_n C.1 C.2.1 dX5_together_14 rfl (lv_at hl 0 rfl) ?_
    refine gf_X5_9 C hG hth dX5_together_15 ?_
    refine lv_iload_n C.1 C.2.1 dX5_together_18 rfl (lv_at hl 2 rfl) ?_
    obtain ⟨v3, hv3, hf⟩ := of_bind hf
    obtain ⟨kv3, bv3, ev3⟩ := of_ldD hv3
    refine r_iald C hG (c0 := w.2 th 0) (kdx_lt (kd_eta kv3) (by decide)) (entX_I (kd_eta kv3)) bv3 dX5_together_19 ?_
    refine r_top ev3 ?_
    obtain ⟨v4, hv4, hf⟩ := of_bind hf
    refine r_callSN1 C hG hl.1 (As := [.int st.1, .int (nI 1), .int v3]) (mt_X8_plusTimes l  hv4) (va_cnB 3 C.2.2.2.2.1 (gd_all tg_2_105) rfl rfl rfl (hG.1.2.1 _ nn_61) (C.2.2.2.2.1 _ (List.mem_cons_of_mem _ tg_1_1)) cd_X8_plusTimes.2 ⟨Nat.le_of_ble_eq_true rfl, Nat.le_of_ble_eq_true rfl⟩) (C.2.2.2.2.1 _ (List.mem_cons_of_mem _ tg_2_104)) rfl rfl (Nat.le_of_ble_eq_true rfl) dX5_together_20 (fun H locs hG => ?_)
    refine lv_istore_n (lv' := [(1, .int v4), (0, .ref (B + th)), (2, .int st.2)]) C.1 C.2.1 dX5_together_23 rfl hl (by decide) rfl (fun ls hl => ?_)
    obtain ⟨v5, ev5, hf⟩ := of_letv hf
    refine lv_iinc (v := v5) (lv' := [(2, .int v5), (1, .int v4), (0, .ref (B + th))]) C.1 C.2.1 dX5_together_24 hl (k := 2) rfl (by rw [ev5, show Int32.ofInt (1) = nI 1 from by decide]) (by decide) rfl (fun ls hl => ?_)
    refine lv_goto (tgt := 4) C.1 C.2.1 dX5_together_27 (by decide) ?_
    obtain rfl := Option.some.inj hf
    exact kL _ rfl _ _ _ hG (lv_sub hl [2, 1, 0] rfl)
set_option maxRecDepth 100000 in
set_option maxHeartbeats 4000000 in
theorem kl_X5_together_4 {th : Nat} {w : WX} (C : CX p s m args meth c cX5_together 3 RX5 wc_X5_together (some .int)) (hth : KDx th = (5, 5)) : ∀ (n : Nat) (st : Int32 × Int32) (x : (Int32)) (H : Heap) (locs : List Loc) (ls : Array Slot), Gd s G A 153 B (entX G B w) X H locs → lv_has ls 3 [(0, .ref (B + th)), (1, .int st.1), (2, .int st.2)] → lpw (sh_X5_together_s4 th w) n st = some x →
    (∀ y' : Int32, x = y' → ∀ (H : Heap) (locs : List Loc) (ls : Array Slot), Gd s G A 153 B (entX G B w) X H locs → lv_has ls 3 [(1, .int y')] → W p l e rm_X5_together s m args below meth c H locs 0 0 Q (F0 m 30 ls [])) → W p l e rm_X5_together s m args below meth c H locs 0 0 Q (F0 m 4 ls []) := by
  intro n
  induction n with
  | zero =>
    intro st x H locs ls hG hl hf
    cases hf
  | succ n ih =>
    intro st x H locs ls hG hl hf kX0
    obtain ⟨r, hr, hh⟩ := of_lpw hf
    refine kb_X5_together_4 C hth hG hl hr (fun st2 e1 H locs ls hG hl => ?_) (fun y2 e1 H locs ls hG hl => ?_)
    · rcases hh with ⟨s3, e2, hh⟩ | e2
      · rw [e2] at e1
        cases e1
        exact ih _ _ _ _ _ hG hl hh kX0
      · rw [e2] at e1
        cases e1
    · rcases hh with ⟨s3, e2, hh⟩ | e2
      · rw [e2] at e1
        cases e1
      · rw [e2] at e1
        cases e1
        exact kX0 _ rfl _ _ _ hG hl
set_option maxRecDepth 100000 in
set_option maxHeartbeats 4000000 in
theorem kb_X5_together_0 {th : Nat} {w : WX} {out : Int32} {H : Heap} {locs : List Loc} {ls : Array Slot} (C : CX p s m args meth c cX5_together 3 RX5 wc_X5_together (some .int)) (hth : KDx th = (5, 5)) (hG : Gd s G A 153 B (entX G B w) X H locs) (hl : lv_has ls 3 [(0, .ref (B + th))]) (hf : sh_X5_together th w = some out) :
    W p l e rm_X5_together s m args below meth c H locs 0 0 (MQ below (CPost G A 153 B (entX G B w) X (some (.int out))) args s 0 0 A) (F0 m 0 ls []) := by
  refine lv_iconst (v := nI 0) C.1 C.2.1 dX5_together_0 (by decide) ?_
  refine lv_istore_n (lv' := [(1, .int (nI 0)), (0, .ref (B + th))]) C.1 C.2.1 dX5_together_1 rfl hl (by decide) rfl (fun ls hl => ?_)
  refine lv_iconst (v := nI 0) C.1 C.2.1 dX5_together_2 (by decide) ?_
  refine lv_istore_n (lv' := [(2, .int (nI 0)), (1, .int (nI 0)), (0, .ref (B + th))]) C.1 C.2.1 dX5_together_3 rfl hl (by decide) rfl (fun ls hl => ?_)
  obtain ⟨ex1, hex1, hf⟩ := of_bind hf
  refine kl_X5_together_4 C hth FU (nI 0, nI 0) ex1 _ _ _ hG (lv_sub hl [2, 1, 0] rfl) hex1 (fun y e0 H locs ls hG hl => ?_)
  subst e0
  refine lv_iload_n C.1 C.2.1 dX5_together_30 rfl (lv_at hl 0 rfl) ?_
  obtain rfl := Option.some.inj hf
  exact r_iret C hG dX5_together_31
set_option maxRecDepth 100000 in
set_option maxHeartbeats 4000000 in
theorem mt_X5_together (l : Launch) {G : GG} {A : Nat → Prop} {B : Nat} {X : va_W} {th : Nat} {w : WX} {out : Int32} (hth : KDx th = (5, 5)) (hf : sh_X5_together th w = some out) : MetW l yX5_together wc_X5_together rm_X5_together G A 153 B (entX G B w) X [.ref (B + th)] (some (.int out)) (entX G B w) := by
  refine Met.ofW (cc := cX5_together) (maxL := 3) (ret := (some .int)) (by decide) rfl ?_
  intro p e s m args below meth c s₁ B0 hml hv
  obtain ⟨rfl, hEv, hWd⟩ := hv
  have C : CX p s m _ meth c cX5_together 3 RX5 wc_X5_together (some .int) := ⟨B0.exec, B0.bytes, hml, findClass_of_methodNamed B0.named, atoms_spec (ws := wc_X5_together) B0.pre, B0.returns, B0.notSynchronized⟩
  have hl := lv_entry [.ref (B + th)] (n := 3) (Nat.le_of_ble_eq_true rfl)
  rw [lg_entry_eq]
  generalize (lg_sl [.ref (B + th)] ++ List.replicate (3 - (lg_sl [.ref (B + th)]).length) Slot.unset).toArray = ls at hl ⊢
  have hl : lv_has ls 3 [(0, .ref (B + th))] := hl
  exact kb_X5_together_0 C hth ⟨hEv, hWd, va_S.rf⟩ hl hf
abbrev wc_X5_sameAs : List Cond := Cond.code yX5_sameAs cX5_sameAs 3 (some .boolean) :: TG
abbrev rm_X5_sameAs : Room := { frames := 3, cells := 0, slots := 0, locals := 120 }
theorem cd_X5_sameAs : yX5_sameAs.cls = RX5 ∧ yX5_sameAs.cls ≠ "java/lang/invoke/MethodHandle" ∧ yX5_sameAs.cls ≠ "java/lang/invoke/VarHandle" ∧ (parseMethodDescriptor yX5_sameAs.desc).map (fun d => d.parameters.length) = some 1 := by decide +kernel
theorem dX5_sameAs_0 : decode cX5_sameAs 0 = .ok (.aload_n 0, 1) := by decide +kernel
theorem dX5_sameAs_1 : decode cX5_sameAs 1 = .ok (.getfield 28, 3) := by decide +kernel
theorem dX5_sameAs_4 : decode cX5_sameAs 4 = .ok (.aload_n 1, 1) := by decide +kernel
theorem dX5_sameAs_5 : decode cX5_sameAs 5 = .ok (.getfield 28, 3) := by decide +kernel
theorem dX5_sameAs_8 : decode cX5_sameAs 8 = .ok (.if_icmp .ne 14, 3) := by decide +kernel
theorem dX5_sameAs_11 : decode cX5_sameAs 11 = .ok (.aload_n 0, 1) := by decide +kernel
theorem dX5_sameAs_12 : decode cX5_sameAs 12 = .ok (.getfield 27, 3) := by decide +kernel
theorem dX5_sameAs_15 : decode cX5_sameAs 15 = .ok (.aload_n 1, 1) := by decide +kernel
theorem dX5_sameAs_16 : decode cX5_sameAs 16 = .ok (.getfield 27, 3) := by decide +kernel
theorem dX5_sameAs_19 : decode cX5_sameAs 19 = .ok (.if_icmp .eq 5, 3) := by decide +kernel
theorem dX5_sameAs_22 : decode cX5_sameAs 22 = .ok (.iconst 0, 1) := by decide +kernel
theorem dX5_sameAs_23 : decode cX5_sameAs 23 = .ok (.ireturn, 1) := by decide +kernel
theorem dX5_sameAs_24 : decode cX5_sameAs 24 = .ok (.iconst 0, 1) := by decide +kernel
theorem dX5_sameAs_25 : decode cX5_sameAs 25 = .ok (.istore_n 2, 1) := by decide +kernel
theorem dX5_sameAs_26 : decode cX5_sameAs 26 = .ok (.iload_n 2, 1) := by decide +kernel
theorem dX5_sameAs_27 : decode cX5_sameAs 27 = .ok (.aload_n 0, 1) := by decide +kernel
theorem dX5_sameAs_28 : decode cX5_sameAs 28 = .ok (.invokevirtual 110, 3) := by decide +kernel
theorem dX5_sameAs_31 : decode cX5_sameAs 31 = .ok (.if_icmp .ge 26, 3) := by decide +kernel
theorem dX5_sameAs_34 : decode cX5_sameAs 34 = .ok (.aload_n 0, 1) := by decide +kernel
theorem dX5_sameAs_35 : decode cX5_sameAs 35 = .ok (.getfield 9, 3) := by decide +kernel
theorem dX5_sameAs_38 : decode cX5_sameAs 38 = .ok (.iload_n 2, 1) := by decide +kernel
theorem dX5_sameAs_39 : decode cX5_sameAs 39 = .ok (.iaload, 1) := by decide +kernel
theorem dX5_sameAs_40 : decode cX5_sameAs 40 = .ok (.aload_n 1, 1) := by decide +kernel
theorem dX5_sameAs_41 : decode cX5_sameAs 41 = .ok (.getfield 9, 3) := by decide +kernel
theorem dX5_sameAs_44 : decode cX5_sameAs 44 = .ok (.iload_n 2, 1) := by decide +kernel
theorem dX5_sameAs_45 : decode cX5_sameAs 45 = .ok (.iaload, 1) := by decide +kernel
theorem dX5_sameAs_46 : decode cX5_sameAs 46 = .ok (.if_icmp .eq 5, 3) := by decide +kernel
theorem dX5_sameAs_49 : decode cX5_sameAs 49 = .ok (.iconst 0, 1) := by decide +kernel
theorem dX5_sameAs_50 : decode cX5_sameAs 50 = .ok (.ireturn, 1) := by decide +kernel
theorem dX5_sameAs_51 : decode cX5_sameAs 51 = .ok (.iinc 2 1, 3) := by decide +kernel
theorem dX5_sameAs_54 : decode cX5_sameAs 54 = .ok (.goto (-28), 3) := by decide +kernel
theorem dX5_sameAs_57 : decode cX5_sameAs 57 = .ok (.iconst 1, 1) := by decide +kernel
theorem dX5_sameAs_58 : decode cX5_sameAs 58 = .ok (.ireturn, 1) := by decide +kernel
set_option maxRecDepth 100000 in
set_option maxHeartbeats 4000000 in
theorem kb_X5_sameAs_26 {th : Nat} {x1 : Nat} {w : WX} {st : Int32} {r : (Int32) ⊕ ((Unit) ⊕ (Unit))} {H : Heap} {locs : List Loc} {ls : Array Slot} (C : CX p s m args meth c cX5_sameAs 3 RX5 wc_X5_sameAs (some .boolean)) (hth : KDx th = (5, 5)) (h1 : KDx x1 = (5, 5)) (hG : Gd s G A 153 B (entX G B w) X H locs) (hl : lv_has ls 3 [(0, .ref (B + th)), (1, .ref (B + x1)), (2, .int st)]) (hf : sh_X5_sameAs_s26 th x1 w st = some r)
    (kL : ∀ st' : Int32, r = Sum.inl st' → ∀ (H : Heap) (locs : List Loc) (ls : Array Slot), Gd s G A 153 B (entX G B w) X H locs → lv_has ls 3 [(0, .ref (B + th)), (1, .ref (B + x1)), (2, .int st')] → W p l e rm_X5_sameAs s m args below meth c H locs 0 0 Q (F0 m 26 ls []))
    (kX0 : ∀ y' : Unit, r = Sum.inr (Sum.inl y') → ∀ (H : Heap) (locs : List Loc) (ls : Array Slot), Gd s G A 153 B (entX G B w) X H locs → lv_has ls 3 [] → W p l e rm_X5_sameAs s m args below meth c H locs 0 0 Q (F0 m 49 ls []))
    (kX1 : ∀ y' : Unit, r = Sum.inr (Sum.inr y') → ∀ (H : Heap) (locs : List Loc) (ls : Array Slot), Gd s G A 153 B (entX G B w) X H locs → lv_has ls 3 [] → W p l e rm_X5_sameAs s m args below meth c H locs 0 0 Q (F0 m 57 ls [])) :
    W p l e rm_X5_sameAs s m args below meth c H locs 0 0 Q (F0 m 26 ls []) := by
  refine lv_iload_n C.1 C.2.1 dX5_sameAs_26 rfl (lv_at hl 2 rfl) ?_
  refine lv_aload_n C.1 C.2.1 dX5_sameAs_27 rfl (lv_at hl 0 rfl) ?_
  obtain ⟨v1, hv1, hf⟩ := of_bind hf
  refine r_callV1 C hG hl.1 (c0 := th) (As := []) (kdx_lt hth (by decide)) (entX_O5 hth) rfl (mt_X5_places l hth hv1) (cwV 0 C.2.2.2.2.1 (gd_V tg_3_148 tg_3_149 tg_3_150 tg_1_9 tg_3_151) rfl rfl rfl cd_X5_places ⟨Nat.le_of_ble_eq_true rfl, Nat.le_of_ble_eq_true rfl⟩) rfl rfl (Nat.le_of_ble_eq_true rfl) dX5_sameAs_28 (fun H locs hG => ?_)
  rcases of_ite hf with ⟨c2, hf⟩ | ⟨c2, hf⟩
  · refine lv_icmp_ge (tgt := 57) C.1 C.2.1 dX5_sameAs_31 (by decide) (fun _ => ?_) (fun q => absurd c2 q)
    obtain rfl := Option.some.inj hf
    exact kX1 _ rfl _ _ _ hG (lv_sub hl [] rfl)
  · refine lv_icmp_ge (tgt := 57) C.1 C.2.1 dX5_sameAs_31 (by decide) (fun q => absurd q c2) (fun _ => ?_)
    refine lv_aload_n C.1 C.2.1 dX5_sameAs_34 rfl (lv_at hl 0 rfl) ?_
    refine gf_X5_9 C hG hth dX5_sameAs_35 ?_
    refine lv_iload_n C.1 C.2.1 dX5_sameAs_38 rfl (lv_at hl 2 rfl) ?_
    obtain ⟨v3, hv3, hf⟩ := of_bind hf
    obtain ⟨kv3, bv3, ev3⟩ := of_ldD hv3
    refine r_iald C hG (c0 := w.2 th 0) (kdx_lt (kd_eta kv3) (by decide)) (entX_I (kd_eta kv3)) bv3 dX5_sameAs_39 ?_
    refine r_top ev3 ?_
    refine lv_aload_n C.1 C.2.1 dX5_sameAs_40 rfl (lv_at hl 1 rfl) ?_
    refine gf_X5_9 C hG h1 dX5_sameAs_41 ?_
    refine lv_iload_n C.1 C.2.1 dX5_sameAs_44 rfl (lv_at hl 2 rfl) ?_
    obtain ⟨v4, hv4, hf⟩ := of_bind hf
    obtain ⟨kv4, bv4, ev4⟩ := of_ldD hv4
    refine r_iald C hG (c0 := w.2 x1 0) (kdx_lt (kd_eta kv4) (by decide)) (entX_I (kd_eta kv4)) bv4 dX5_sameAs_45 ?_
    refine r_top ev4 ?_
    rcases of_ite hf with ⟨c5, hf⟩ | ⟨c5, hf⟩
    · refine lv_icmp_eq (tgt := 51) C.1 C.2.1 dX5_sameAs_46 (by decide) (fun _ => ?_) (fun q => absurd c5 q)
      obtain ⟨v6, ev6, hf⟩ := of_letv hf
      refine lv_iinc (v := v6) (lv' := [(2, .int v6), (0, .ref (B + th)), (1, .ref (B + x1))]) C.1 C.2.1 dX5_sameAs_51 hl (k := 2) rfl (by rw [ev6, show Int32.ofInt (1) = nI 1 from by decide]) (by decide) rfl (fun ls hl => ?_)
      refine lv_goto (tgt := 26) C.1 C.2.1 dX5_sameAs_54 (by decide) ?_
      obtain rfl := Option.some.inj hf
      exact kL _ rfl _ _ _ hG (lv_sub hl [1, 2, 0] rfl)
    · refine lv_icmp_eq (tgt := 51) C.1 C.2.1 dX5_sameAs_46 (by decide) (fun q => absurd q c5) (fun _ => ?_)
      obtain rfl := Option.some.inj hf
      exact kX0 _ rfl _ _ _ hG (lv_sub hl [] rfl)
set_option maxRecDepth 100000 in
set_option maxHeartbeats 4000000 in
theorem kl_X5_sameAs_26 {th : Nat} {x1 : Nat} {w : WX} (C : CX p s m args meth c cX5_sameAs 3 RX5 wc_X5_sameAs (some .boolean)) (hth : KDx th = (5, 5)) (h1 : KDx x1 = (5, 5)) : ∀ (n : Nat) (st : Int32) (x : (Unit) ⊕ (Unit)) (H : Heap) (locs : List Loc) (ls : Array Slot), Gd s G A 153 B (entX G B w) X H locs → lv_has ls 3 [(0, .ref (B + th)), (1, .ref (B + x1)), (2, .int st)] → lpw (sh_X5_sameAs_s26 th x1 w) n st = some x →
    (∀ y' : Unit, x = (Sum.inl y') → ∀ (H : Heap) (locs : List Loc) (ls : Array Slot), Gd s G A 153 B (entX G B w) X H locs → lv_has ls 3 [] → W p l e rm_X5_sameAs s m args below meth c H locs 0 0 Q (F0 m 49 ls [])) →
    (∀ y' : Unit, x = (Sum.inr y') → ∀ (H : Heap) (locs : List Loc) (ls : Array Slot), Gd s G A 153 B (entX G B w) X H locs → lv_has ls 3 [] → W p l e rm_X5_sameAs s m args below meth c H locs 0 0 Q (F0 m 57 ls [])) → W p l e rm_X5_sameAs s m args below meth c H locs 0 0 Q (F0 m 26 ls []) := by
  intro n
  induction n with
  | zero =>
    intro st x H locs ls hG hl hf
    cases hf
  | succ n ih =>
    intro st x H locs ls hG hl hf kX0 kX1
    obtain ⟨r, hr, hh⟩ := of_lpw hf
    refine kb_X5_sameAs_26 C hth h1 hG hl hr (fun st2 e1 H locs ls hG hl => ?_) (fun y2 e1 H locs ls hG hl => ?_) (fun y2 e1 H locs ls hG hl => ?_)
    · rcases hh with ⟨s3, e2, hh⟩ | e2
      · rw [e2] at e1
        cases e1
        exact ih _ _ _ _ _ hG hl hh kX0 kX1
      · rw [e2] at e1
        cases e1
    · rcases hh with ⟨s3, e2, hh⟩ | e2
      · rw [e2] at e1
        cases e1
      · rw [e2] at e1
        cases e1
        exact kX0 _ rfl _ _ _ hG hl
    · rcases hh with ⟨s3, e2, hh⟩ | e2
      · rw [e2] at e1
        cases e1
      · rw [e2] at e1
        cases e1
        exact kX1 _ rfl _ _ _ hG hl
set_option maxRecDepth 100000 in
set_option maxHeartbeats 4000000 in
theorem kb_X5_sameAs_0 {th : Nat} {x1 : Nat} {w : WX} {out : Int32} {H : Heap} {locs : List Loc} {ls : Array Slot} (C : CX p s m args meth c cX5_sameAs 3 RX5 wc_X5_sameAs (some .boolean)) (hth : KDx th = (5, 5)) (h1 : KDx x1 = (5, 5)) (hG : Gd s G A 153 B (entX G B w) X H locs) (hl : lv_has ls 3 [(0, .ref (B + th)), (1, .ref (B + x1))]) (hf : sh_X5_sameAs th x1 w = some out) :
    W p l e rm_X5_sameAs s m args below meth c H locs 0 0 (MQ below (CPost G A 153 B (entX G B w) X (some (.int out))) args s 0 0 A) (F0 m 0 ls []) := by
  refine lv_aload_n C.1 C.2.1 dX5_sameAs_0 rfl (lv_at hl 0 rfl) ?_
  refine gf_X5_28 C hG hth dX5_sameAs_1 ?_
  refine lv_aload_n C.1 C.2.1 dX5_sameAs_4 rfl (lv_at hl 1 rfl) ?_
  refine gf_X5_28 C hG h1 dX5_sameAs_5 ?_
  rcases of_ite hf with ⟨c1, hf⟩ | ⟨c1, hf⟩
  · refine lv_icmp_ne (tgt := 22) C.1 C.2.1 dX5_sameAs_8 (by decide) (fun q => absurd c1 q) (fun _ => ?_)
    refine lv_aload_n C.1 C.2.1 dX5_sameAs_11 rfl (lv_at hl 0 rfl) ?_
    refine gf_X5_27 C hG hth dX5_sameAs_12 ?_
    refine lv_aload_n C.1 C.2.1 dX5_sameAs_15 rfl (lv_at hl 1 rfl) ?_
    refine gf_X5_27 C hG h1 dX5_sameAs_16 ?_
    rcases of_ite hf with ⟨c2, hf⟩ | ⟨c2, hf⟩
    · refine lv_icmp_eq (tgt := 24) C.1 C.2.1 dX5_sameAs_19 (by decide) (fun _ => ?_) (fun q => absurd c2 q)
      refine lv_iconst (v := nI 0) C.1 C.2.1 dX5_sameAs_24 (by decide) ?_
      refine lv_istore_n (lv' := [(2, .int (nI 0)), (0, .ref (B + th)), (1, .ref (B + x1))]) C.1 C.2.1 dX5_sameAs_25 rfl hl (by decide) rfl (fun ls hl => ?_)
      obtain ⟨ex3, hex3, hf⟩ := of_bind hf
      refine kl_X5_sameAs_26 C hth h1 FU (nI 0) ex3 _ _ _ hG (lv_sub hl [1, 2, 0] rfl) hex3 (fun y4 e0 H locs ls hG hl => ?_) (fun y5 e0 H locs ls hG hl => ?_)
      · subst e0
        simp only [Sum.elim_inl, Sum.elim_inr] at hf
        refine lv_iconst (v := nI 0) C.1 C.2.1 dX5_sameAs_49 (by decide) ?_
        obtain rfl := Option.some.inj hf
        exact r_zret C hG (Or.inl rfl) dX5_sameAs_50
      · subst e0
        simp only [Sum.elim_inl, Sum.elim_inr] at hf
        refine lv_iconst (v := nI 1) C.1 C.2.1 dX5_sameAs_57 (by decide) ?_
        obtain rfl := Option.some.inj hf
        exact r_zret C hG (Or.inr rfl) dX5_sameAs_58
    · refine lv_icmp_eq (tgt := 24) C.1 C.2.1 dX5_sameAs_19 (by decide) (fun q => absurd q c2) (fun _ => ?_)
      refine lv_iconst (v := nI 0) C.1 C.2.1 dX5_sameAs_22 (by decide) ?_
      obtain rfl := Option.some.inj hf
      exact r_zret C hG (Or.inl rfl) dX5_sameAs_23
  · refine lv_icmp_ne (tgt := 22) C.1 C.2.1 dX5_sameAs_8 (by decide) (fun _ => ?_) (fun q => absurd q c1)
    refine lv_iconst (v := nI 0) C.1 C.2.1 dX5_sameAs_22 (by decide) ?_
    obtain rfl := Option.some.inj hf
    exact r_zret C hG (Or.inl rfl) dX5_sameAs_23
set_option maxRecDepth 100000 in
set_option maxHeartbeats 4000000 in
theorem mt_X5_sameAs (l : Launch) {G : GG} {A : Nat → Prop} {B : Nat} {X : va_W} {th : Nat} {x1 : Nat} {w : WX} {out : Int32} (hth : KDx th = (5, 5)) (h1 : KDx x1 = (5, 5)) (hf : sh_X5_sameAs th x1 w = some out) : MetW l yX5_sameAs wc_X5_sameAs rm_X5_sameAs G A 153 B (entX G B w) X [.ref (B + th), .ref (B + x1)] (some (.int out)) (entX G B w) := by
  refine Met.ofW (cc := cX5_sameAs) (maxL := 3) (ret := (some .boolean)) (by decide) rfl ?_
  intro p e s m args below meth c s₁ B0 hml hv
  obtain ⟨rfl, hEv, hWd⟩ := hv
  have C : CX p s m _ meth c cX5_sameAs 3 RX5 wc_X5_sameAs (some .boolean) := ⟨B0.exec, B0.bytes, hml, findClass_of_methodNamed B0.named, atoms_spec (ws := wc_X5_sameAs) B0.pre, B0.returns, B0.notSynchronized⟩
  have hl := lv_entry [.ref (B + th), .ref (B + x1)] (n := 3) (Nat.le_of_ble_eq_true rfl)
  rw [lg_entry_eq]
  generalize (lg_sl [.ref (B + th), .ref (B + x1)] ++ List.replicate (3 - (lg_sl [.ref (B + th), .ref (B + x1)]).length) Slot.unset).toArray = ls at hl ⊢
  have hl : lv_has ls 3 [(0, .ref (B + th)), (1, .ref (B + x1))] := hl
  exact kb_X5_sameAs_0 C hth h1 ⟨hEv, hWd, va_S.rf⟩ hl hf
abbrev wc_X6_drawMore : List Cond := Cond.code yX6_drawMore cX6_drawMore 5 none :: TG
abbrev rm_X6_drawMore : Room := { frames := 4, cells := 0, slots := 0, locals := 142 }
theorem cd_X6_drawMore : yX6_drawMore.cls = RX6 ∧ yX6_drawMore.cls ≠ "java/lang/invoke/MethodHandle" ∧ yX6_drawMore.cls ≠ "java/lang/invoke/VarHandle" ∧ (parseMethodDescriptor yX6_drawMore.desc).map (fun d => d.parameters.length) = some 2 := by decide +kernel
theorem dX6_drawMore_0 : decode cX6_drawMore 0 = .ok (.iload_n 2, 1) := by decide +kernel
theorem dX6_drawMore_1 : decode cX6_drawMore 1 = .ok (.istore_n 3, 1) := by decide +kernel
theorem dX6_drawMore_2 : decode cX6_drawMore 2 = .ok (.iconst 0, 1) := by decide +kernel
theorem dX6_drawMore_3 : decode cX6_drawMore 3 = .ok (.istore 4, 2) := by decide +kernel
theorem dX6_drawMore_5 : decode cX6_drawMore 5 = .ok (.iload 4, 2) := by decide +kernel
theorem dX6_drawMore_7 : decode cX6_drawMore 7 = .ok (.iload_n 1, 1) := by decide +kernel
theorem dX6_drawMore_8 : decode cX6_drawMore 8 = .ok (.if_icmp .ge 30, 3) := by decide +kernel
theorem dX6_drawMore_11 : decode cX6_drawMore 11 = .ok (.iload_n 3, 1) := by decide +kernel
theorem dX6_drawMore_12 : decode cX6_drawMore 12 = .ok (.ldc 52, 2) := by decide +kernel
theorem dX6_drawMore_14 : decode cX6_drawMore 14 = .ok (.imul, 1) := by decide +kernel
theorem dX6_drawMore_15 : decode cX6_drawMore 15 = .ok (.sipush 12345, 3) := by decide +kernel
theorem dX6_drawMore_18 : decode cX6_drawMore 18 = .ok (.iadd, 1) := by decide +kernel
theorem dX6_drawMore_19 : decode cX6_drawMore 19 = .ok (.istore_n 3, 1) := by decide +kernel
theorem dX6_drawMore_20 : decode cX6_drawMore 20 = .ok (.aload_n 0, 1) := by decide +kernel
theorem dX6_drawMore_21 : decode cX6_drawMore 21 = .ok (.iload_n 3, 1) := by decide +kernel
theorem dX6_drawMore_22 : decode cX6_drawMore 22 = .ok (.bipush 16, 2) := by decide +kernel
theorem dX6_drawMore_24 : decode cX6_drawMore 24 = .ok (.iushr, 1) := by decide +kernel
theorem dX6_drawMore_25 : decode cX6_drawMore 25 = .ok (.bipush 7, 2) := by decide +kernel
theorem dX6_drawMore_27 : decode cX6_drawMore 27 = .ok (.irem, 1) := by decide +kernel
theorem dX6_drawMore_28 : decode cX6_drawMore 28 = .ok (.invokevirtual 48, 3) := by decide +kernel
theorem dX6_drawMore_31 : decode cX6_drawMore 31 = .ok (.pop, 1) := by decide +kernel
theorem dX6_drawMore_32 : decode cX6_drawMore 32 = .ok (.iinc 4 1, 3) := by decide +kernel
theorem dX6_drawMore_35 : decode cX6_drawMore 35 = .ok (.goto (-30), 3) := by decide +kernel
theorem dX6_drawMore_38 : decode cX6_drawMore 38 = .ok (.return_, 1) := by decide +kernel
set_option maxRecDepth 100000 in
set_option maxHeartbeats 4000000 in
theorem kb_X6_drawMore_5 {th : Nat} {x1 : Int32} {st : Int32 × Int32 × WX} {r : (Int32 × Int32 × WX) ⊕ ((WX))} {H : Heap} {locs : List Loc} {ls : Array Slot} (C : CX p s m args meth c cX6_drawMore 5 RX6 wc_X6_drawMore none) (hth : KDx th = (6, 3)) (hG : Gd s G A 153 B (entX G B st.2.2) X H locs) (hl : lv_has ls 5 [(0, .ref (B + th)), (1, .int x1), (3, .int st.1), (4, .int st.2.1)]) (hf : sh_X6_drawMore_s5 th x1 st = some r)
    (kL : ∀ st' : Int32 × Int32 × WX, r = Sum.inl st' → ∀ (H : Heap) (locs : List Loc) (ls : Array Slot), Gd s G A 153 B (entX G B st'.2.2) X H locs → lv_has ls 5 [(0, .ref (B + th)), (1, .int x1), (3, .int st'.1), (4, .int st'.2.1)] → W p l e rm_X6_drawMore s m args below meth c H locs 0 0 Q (F0 m 5 ls []))
    (kX0 : ∀ y' : WX, r = Sum.inr y' → ∀ (H : Heap) (locs : List Loc) (ls : Array Slot), Gd s G A 153 B (entX G B y') X H locs → lv_has ls 5 [] → W p l e rm_X6_drawMore s m args below meth c H locs 0 0 Q (F0 m 38 ls [])) :
    W p l e rm_X6_drawMore s m args below meth c H locs 0 0 Q (F0 m 5 ls []) := by
  refine lv_iload C.1 C.2.1 dX6_drawMore_5 (lv_at hl 3 rfl) ?_
  refine lv_iload_n C.1 C.2.1 dX6_drawMore_7 rfl (lv_at hl 1 rfl) ?_
  rcases of_ite hf with ⟨c1, hf⟩ | ⟨c1, hf⟩
  · refine lv_icmp_ge (tgt := 38) C.1 C.2.1 dX6_drawMore_8 (by decide) (fun _ => ?_) (fun q => absurd c1 q)
    obtain rfl := Option.some.inj hf
    exact kX0 _ rfl _ _ _ hG (lv_sub hl [] rfl)
  · refine lv_icmp_ge (tgt := 38) C.1 C.2.1 dX6_drawMore_8 (by decide) (fun q => absurd q c1) (fun _ => ?_)
    refine lv_iload_n C.1 C.2.1 dX6_drawMore_11 rfl (lv_at hl 2 rfl) ?_
    refine lv_ldc (v := nI 1103515245) C.1 C.2.1 C.2.2.2.1 (C.2.2.2.2.1 _ (List.mem_cons_of_mem _ tg_3_207)) dX6_drawMore_12 ?_
    refine lv_imul C.1 C.2.1 dX6_drawMore_14 ?_
    refine lv_sipush (v := nI 12345) C.1 C.2.1 dX6_drawMore_15 (by decide) ?_
    refine lv_iadd C.1 C.2.1 dX6_drawMore_18 ?_
    obtain ⟨v2, ev2, hf⟩ := of_letv hf
    refine r_top ev2 ?_
    refine lv_istore_n (lv' := [(3, .int v2), (0, .ref (B + th)), (1, .int x1), (4, .int st.2.1)]) C.1 C.2.1 dX6_drawMore_19 rfl hl (by decide) rfl (fun ls hl => ?_)
    refine lv_aload_n C.1 C.2.1 dX6_drawMore_20 rfl (lv_at hl 1 rfl) ?_
    refine lv_iload_n C.1 C.2.1 dX6_drawMore_21 rfl (lv_at hl 0 rfl) ?_
    refine lv_bipush (v := nI 16) C.1 C.2.1 dX6_drawMore_22 (by decide) ?_
    refine r_iushr C dX6_drawMore_24 ?_
    refine lv_bipush (v := nI 7) C.1 C.2.1 dX6_drawMore_25 (by decide) ?_
    refine r_irem C dX6_drawMore_27 (by decide) ?_
    obtain ⟨v3, hv3, hf⟩ := of_bind hf
    refine r_callV1 C hG hl.1 (c0 := th) (As := [.int (remI (ushrI v2 (nI 16)) (nI 7))]) (kdx_lt hth (by decide)) (entX_O6 hth) rfl (mt_X6_append l hth hv3) (cwV 1 C.2.2.2.2.1 (gd_V tg_3_193 tg_2_227 tg_2_228 tg_1_5 tg_2_229) rfl rfl rfl cd_X6_append ⟨Nat.le_of_ble_eq_true rfl, Nat.le_of_ble_eq_true rfl⟩) rfl rfl (Nat.le_of_ble_eq_true rfl) dX6_drawMore_28 (fun H locs hG => ?_)
    refine lv_pop C.1 C.2.1 dX6_drawMore_31 rfl ?_
    obtain ⟨v4, ev4, hf⟩ := of_letv hf
    refine lv_iinc (v := v4) (lv' := [(4, .int v4), (3, .int v2), (0, .ref (B + th)), (1, .int x1)]) C.1 C.2.1 dX6_drawMore_32 hl (k := 3) rfl (by rw [ev4, show Int32.ofInt (1) = nI 1 from by decide]) (by decide) rfl (fun ls hl => ?_)
    refine lv_goto (tgt := 5) C.1 C.2.1 dX6_drawMore_35 (by decide) ?_
    obtain rfl := Option.some.inj hf
    exact kL _ rfl _ _ _ hG (lv_sub hl [2, 3, 1, 0] rfl)
set_option maxRecDepth 100000 in
set_option maxHeartbeats 4000000 in
theorem kl_X6_drawMore_5 {th : Nat} {x1 : Int32} (C : CX p s m args meth c cX6_drawMore 5 RX6 wc_X6_drawMore none) (hth : KDx th = (6, 3)) : ∀ (n : Nat) (st : Int32 × Int32 × WX) (x : (WX)) (H : Heap) (locs : List Loc) (ls : Array Slot), Gd s G A 153 B (entX G B st.2.2) X H locs → lv_has ls 5 [(0, .ref (B + th)), (1, .int x1), (3, .int st.1), (4, .int st.2.1)] → lpw (sh_X6_drawMore_s5 th x1) n st = some x →
    (∀ y' : WX, x = y' → ∀ (H : Heap) (locs : List Loc) (ls : Array Slot), Gd s G A 153 B (entX G B y') X H locs → lv_has ls 5 [] → W p l e rm_X6_drawMore s m args below meth c H locs 0 0 Q (F0 m 38 ls [])) → W p l e rm_X6_drawMore s m args below meth c H locs 0 0 Q (F0 m 5 ls []) := by
  intro n
  induction n with
  | zero =>
    intro st x H locs ls hG hl hf
    cases hf
  | succ n ih =>
    intro st x H locs ls hG hl hf kX0
    obtain ⟨r, hr, hh⟩ := of_lpw hf
    refine kb_X6_drawMore_5 C hth hG hl hr (fun st2 e1 H locs ls hG hl => ?_) (fun y2 e1 H locs ls hG hl => ?_)
    · rcases hh with ⟨s3, e2, hh⟩ | e2
      · rw [e2] at e1
        cases e1
        exact ih _ _ _ _ _ hG hl hh kX0
      · rw [e2] at e1
        cases e1
    · rcases hh with ⟨s3, e2, hh⟩ | e2
      · rw [e2] at e1
        cases e1
      · rw [e2] at e1
        cases e1
        exact kX0 _ rfl _ _ _ hG hl
set_option maxRecDepth 100000 in
set_option maxHeartbeats 4000000 in
theorem kb_X6_drawMore_0 {th : Nat} {x1 : Int32} {x2 : Int32} {w : WX} {out : WX} {H : Heap} {locs : List Loc} {ls : Array Slot} (C : CX p s m args meth c cX6_drawMore 5 RX6 wc_X6_drawMore none) (hth : KDx th = (6, 3)) (hG : Gd s G A 153 B (entX G B w) X H locs) (hl : lv_has ls 5 [(0, .ref (B + th)), (1, .int x1), (2, .int x2)]) (hf : sh_X6_drawMore th x1 x2 w = some out) :
    W p l e rm_X6_drawMore s m args below meth c H locs 0 0 (MQ below (CPost G A 153 B (entX G B out) X none) args s 0 0 A) (F0 m 0 ls []) := by
  refine lv_iload_n C.1 C.2.1 dX6_drawMore_0 rfl (lv_at hl 2 rfl) ?_
  refine lv_istore_n (lv' := [(3, .int x2), (0, .ref (B + th)), (1, .int x1), (2, .int x2)]) C.1 C.2.1 dX6_drawMore_1 rfl hl (by decide) rfl (fun ls hl => ?_)
  refine lv_iconst (v := nI 0) C.1 C.2.1 dX6_drawMore_2 (by decide) ?_
  refine lv_istore (lv' := [(4, .int (nI 0)), (3, .int x2), (0, .ref (B + th)), (1, .int x1), (2, .int x2)]) C.1 C.2.1 dX6_drawMore_3 hl (by decide) rfl (fun ls hl => ?_)
  obtain ⟨ex1, hex1, hf⟩ := of_bind hf
  refine kl_X6_drawMore_5 C hth FU (x2, nI 0, w) ex1 _ _ _ hG (lv_sub hl [2, 3, 1, 0] rfl) hex1 (fun y e0 H locs ls hG hl => ?_)
  subst e0
  obtain rfl := Option.some.inj hf
  exact r_vret C hG dX6_drawMore_38
set_option maxRecDepth 100000 in
set_option maxHeartbeats 4000000 in
theorem mt_X6_drawMore (l : Launch) {G : GG} {A : Nat → Prop} {B : Nat} {X : va_W} {th : Nat} {x1 : Int32} {x2 : Int32} {w : WX} {out : WX} (hth : KDx th = (6, 3)) (hf : sh_X6_drawMore th x1 x2 w = some out) : MetW l yX6_drawMore wc_X6_drawMore rm_X6_drawMore G A 153 B (entX G B w) X [.ref (B + th), .int x1, .int x2] none (entX G B out) := by
  refine Met.ofW (cc := cX6_drawMore) (maxL := 5) (ret := none) (by decide) rfl ?_
  intro p e s m args below meth c s₁ B0 hml hv
  obtain ⟨rfl, hEv, hWd⟩ := hv
  have C : CX p s m _ meth c cX6_drawMore 5 RX6 wc_X6_drawMore none := ⟨B0.exec, B0.bytes, hml, findClass_of_methodNamed B0.named, atoms_spec (ws := wc_X6_drawMore) B0.pre, B0.returns, B0.notSynchronized⟩
  have hl := lv_entry [.ref (B + th), .int x1, .int x2] (n := 5) (Nat.le_of_ble_eq_true rfl)
  rw [lg_entry_eq]
  generalize (lg_sl [.ref (B + th), .int x1, .int x2] ++ List.replicate (5 - (lg_sl [.ref (B + th), .int x1, .int x2]).length) Slot.unset).toArray = ls at hl ⊢
  have hl : lv_has ls 5 [(0, .ref (B + th)), (1, .int x1), (2, .int x2)] := hl
  exact kb_X6_drawMore_0 C hth ⟨hEv, hWd, va_S.rf⟩ hl hf
abbrev wc_X7_append : List Cond := Cond.code yX7_append cX7_append 2 none :: TG
abbrev rm_X7_append : Room := { frames := 2, cells := 0, slots := 0, locals := 100 }
theorem cd_X7_append : yX7_append.cls = RX7 ∧ yX7_append.cls ≠ "java/lang/invoke/MethodHandle" ∧ yX7_append.cls ≠ "java/lang/invoke/VarHandle" ∧ (parseMethodDescriptor yX7_append.desc).map (fun d => d.parameters.length) = some 1 := by decide +kernel
theorem dX7_append_0 : decode cX7_append 0 = .ok (.aload_n 0, 1) := by decide +kernel
theorem dX7_append_1 : decode cX7_append 1 = .ok (.getfield 15, 3) := by decide +kernel
theorem dX7_append_4 : decode cX7_append 4 = .ok (.bipush 60, 2) := by decide +kernel
theorem dX7_append_6 : decode cX7_append 6 = .ok (.if_icmp .lt 4, 3) := by decide +kernel
theorem dX7_append_9 : decode cX7_append 9 = .ok (.return_, 1) := by decide +kernel
theorem dX7_append_10 : decode cX7_append 10 = .ok (.aload_n 0, 1) := by decide +kernel
theorem dX7_append_11 : decode cX7_append 11 = .ok (.getfield 9, 3) := by decide +kernel
theorem dX7_append_14 : decode cX7_append 14 = .ok (.aload_n 0, 1) := by decide +kernel
theorem dX7_append_15 : decode cX7_append 15 = .ok (.getfield 15, 3) := by decide +kernel
theorem dX7_append_18 : decode cX7_append 18 = .ok (.iload_n 1, 1) := by decide +kernel
theorem dX7_append_19 : decode cX7_append 19 = .ok (.iastore, 1) := by decide +kernel
theorem dX7_append_20 : decode cX7_append 20 = .ok (.aload_n 0, 1) := by decide +kernel
theorem dX7_append_21 : decode cX7_append 21 = .ok (.dup, 1) := by decide +kernel
theorem dX7_append_22 : decode cX7_append 22 = .ok (.getfield 15, 3) := by decide +kernel
theorem dX7_append_25 : decode cX7_append 25 = .ok (.iconst 1, 1) := by decide +kernel
theorem dX7_append_26 : decode cX7_append 26 = .ok (.iadd, 1) := by decide +kernel
theorem dX7_append_27 : decode cX7_append 27 = .ok (.putfield 15, 3) := by decide +kernel
theorem dX7_append_30 : decode cX7_append 30 = .ok (.return_, 1) := by decide +kernel
set_option maxRecDepth 100000 in
set_option maxHeartbeats 4000000 in
theorem kb_X7_append_0 {x1 : Int32} {w : WX} {out : WX} {H : Heap} {locs : List Loc} {ls : Array Slot} (C : CX p s m args meth c cX7_append 2 RX7 wc_X7_append none)  (hG : Gd s G A 153 B (entX G B w) X H locs) (hl : lv_has ls 2 [(0, .ref (B + 109)), (1, .int x1)]) (hf : sh_X7_append x1 w = some out) :
    W p l e rm_X7_append s m args below meth c H locs 0 0 (MQ below (CPost G A 153 B (entX G B out) X none) args s 0 0 A) (F0 m 0 ls []) := by
  refine lv_aload_n C.1 C.2.1 dX7_append_0 rfl (lv_at hl 0 rfl) ?_
  refine gf_X7_15 C hG rfl dX7_append_1 ?_
  refine lv_bipush (v := nI 60) C.1 C.2.1 dX7_append_4 (by decide) ?_
  rcases of_ite hf with ⟨c1, hf⟩ | ⟨c1, hf⟩
  · refine lv_icmp_lt (tgt := 10) C.1 C.2.1 dX7_append_6 (by decide) (fun _ => ?_) (fun q => absurd c1 q)
    refine lv_aload_n C.1 C.2.1 dX7_append_10 rfl (lv_at hl 0 rfl) ?_
    refine gf_X7_9 C hG rfl dX7_append_11 ?_
    refine lv_aload_n C.1 C.2.1 dX7_append_14 rfl (lv_at hl 0 rfl) ?_
    refine gf_X7_15 C hG rfl dX7_append_15 ?_
    refine lv_iload_n C.1 C.2.1 dX7_append_18 rfl (lv_at hl 1 rfl) ?_
    obtain ⟨w2, hw2, hf⟩ := of_bind hf
    obtain ⟨bw2, ew2⟩ := of_stX hw2
    refine r_iast C hG (c0 := 110) (by decide) (entX_I (n := 60) rfl) bw2 (E' := (entX G B w2)) (by rw [ew2]; exact upX_I (n := 60) rfl) dX7_append_19 (fun H locs hG => ?_)
    refine lv_aload_n C.1 C.2.1 dX7_append_20 rfl (lv_at hl 0 rfl) ?_
    refine lv_dup C.1 C.2.1 dX7_append_21 rfl ?_
    refine gf_X7_15 C hG rfl dX7_append_22 ?_
    refine lv_iconst (v := nI 1) C.1 C.2.1 dX7_append_25 (by decide) ?_
    refine lv_iadd C.1 C.2.1 dX7_append_26 ?_
    obtain ⟨w3, ew3, hf⟩ := of_letv hf
    refine pf_X7_15 C hG rfl dX7_append_27 (fun H locs hG => ?_)
    rw [← ew3] at hG
    obtain rfl := Option.some.inj hf
    exact r_vret C hG dX7_append_30
  · refine lv_icmp_lt (tgt := 10) C.1 C.2.1 dX7_append_6 (by decide) (fun q => absurd q c1) (fun _ => ?_)
    obtain rfl := Option.some.inj hf
    exact r_vret C hG dX7_append_9
set_option maxRecDepth 100000 in
set_option maxHeartbeats 4000000 in
theorem mt_X7_append (l : Launch) {G : GG} {A : Nat → Prop} {B : Nat} {X : va_W} {x1 : Int32} {w : WX} {out : WX}  (hf : sh_X7_append x1 w = some out) : MetW l yX7_append wc_X7_append rm_X7_append G A 153 B (entX G B w) X [.ref (B + 109), .int x1] none (entX G B out) := by
  refine Met.ofW (cc := cX7_append) (maxL := 2) (ret := none) (by decide) rfl ?_
  intro p e s m args below meth c s₁ B0 hml hv
  obtain ⟨rfl, hEv, hWd⟩ := hv
  have C : CX p s m _ meth c cX7_append 2 RX7 wc_X7_append none := ⟨B0.exec, B0.bytes, hml, findClass_of_methodNamed B0.named, atoms_spec (ws := wc_X7_append) B0.pre, B0.returns, B0.notSynchronized⟩
  have hl := lv_entry [.ref (B + 109), .int x1] (n := 2) (Nat.le_of_ble_eq_true rfl)
  rw [lg_entry_eq]
  generalize (lg_sl [.ref (B + 109), .int x1] ++ List.replicate (2 - (lg_sl [.ref (B + 109), .int x1]).length) Slot.unset).toArray = ls at hl ⊢
  have hl : lv_has ls 2 [(0, .ref (B + 109)), (1, .int x1)] := hl
  exact kb_X7_append_0 C  ⟨hEv, hWd, va_S.rf⟩ hl hf
abbrev wc_X7_appendAll : List Cond := Cond.code yX7_appendAll cX7_appendAll 4 (some .boolean) :: TG
abbrev rm_X7_appendAll : Room := { frames := 4, cells := 0, slots := 0, locals := 142 }
theorem cd_X7_appendAll : yX7_appendAll.cls = RX7 ∧ yX7_appendAll.cls ≠ "java/lang/invoke/MethodHandle" ∧ yX7_appendAll.cls ≠ "java/lang/invoke/VarHandle" ∧ (parseMethodDescriptor yX7_appendAll.desc).map (fun d => d.parameters.length) = some 3 := by decide +kernel
theorem dX7_appendAll_0 : decode cX7_appendAll 0 = .ok (.iconst 0, 1) := by decide +kernel
theorem dX7_appendAll_1 : decode cX7_appendAll 1 = .ok (.istore_n 3, 1) := by decide +kernel
theorem dX7_appendAll_2 : decode cX7_appendAll 2 = .ok (.iload_n 3, 1) := by decide +kernel
theorem dX7_appendAll_3 : decode cX7_appendAll 3 = .ok (.iload_n 2, 1) := by decide +kernel
theorem dX7_appendAll_4 : decode cX7_appendAll 4 = .ok (.if_icmp .ge 19, 3) := by decide +kernel
theorem dX7_appendAll_7 : decode cX7_appendAll 7 = .ok (.aload_n 0, 1) := by decide +kernel
theorem dX7_appendAll_8 : decode cX7_appendAll 8 = .ok (.iload_n 1, 1) := by decide +kernel
theorem dX7_appendAll_9 : decode cX7_appendAll 9 = .ok (.invokevirtual 37, 3) := by decide +kernel
theorem dX7_appendAll_12 : decode cX7_appendAll 12 = .ok (.ifCond .ne 5, 3) := by decide +kernel
theorem dX7_appendAll_15 : decode cX7_appendAll 15 = .ok (.iconst 0, 1) := by decide +kernel
theorem dX7_appendAll_16 : decode cX7_appendAll 16 = .ok (.ireturn, 1) := by decide +kernel
theorem dX7_appendAll_17 : decode cX7_appendAll 17 = .ok (.iinc 3 1, 3) := by decide +kernel
theorem dX7_appendAll_20 : decode cX7_appendAll 20 = .ok (.goto (-18), 3) := by decide +kernel
theorem dX7_appendAll_23 : decode cX7_appendAll 23 = .ok (.iconst 1, 1) := by decide +kernel
theorem dX7_appendAll_24 : decode cX7_appendAll 24 = .ok (.ireturn, 1) := by decide +kernel
set_option maxRecDepth 100000 in
set_option maxHeartbeats 4000000 in
theorem kb_X7_appendAll_2 {th : Nat} {x1 : Int32} {x2 : Int32} {st : Int32 × WX} {r : (Int32 × WX) ⊕ ((WX) ⊕ (WX))} {H : Heap} {locs : List Loc} {ls : Array Slot} (C : CX p s m args meth c cX7_appendAll 4 RX7 wc_X7_appendAll (some .boolean)) (hth : KDx th = (6, 3)) (hG : Gd s G A 153 B (entX G B st.2) X H locs) (hl : lv_has ls 4 [(0, .ref (B + th)), (1, .int x1), (2, .int x2), (3, .int st.1)]) (hf : sh_X7_appendAll_s2 th x1 x2 st = some r)
    (kL : ∀ st' : Int32 × WX, r = Sum.inl st' → ∀ (H : Heap) (locs : List Loc) (ls : Array Slot), Gd s G A 153 B (entX G B st'.2) X H locs → lv_has ls 4 [(0, .ref (B + th)), (1, .int x1), (2, .int x2), (3, .int st'.1)] → W p l e rm_X7_appendAll s m args below meth c H locs 0 0 Q (F0 m 2 ls []))
    (kX0 : ∀ y' : WX, r = Sum.inr (Sum.inl y') → ∀ (H : Heap) (locs : List Loc) (ls : Array Slot), Gd s G A 153 B (entX G B y') X H locs → lv_has ls 4 [] → W p l e rm_X7_appendAll s m args below meth c H locs 0 0 Q (F0 m 15 ls []))
    (kX1 : ∀ y' : WX, r = Sum.inr (Sum.inr y') → ∀ (H : Heap) (locs : List Loc) (ls : Array Slot), Gd s G A 153 B (entX G B y') X H locs → lv_has ls 4 [] → W p l e rm_X7_appendAll s m args below meth c H locs 0 0 Q (F0 m 23 ls [])) :
    W p l e rm_X7_appendAll s m args below meth c H locs 0 0 Q (F0 m 2 ls []) := by
  refine lv_iload_n C.1 C.2.1 dX7_appendAll_2 rfl (lv_at hl 3 rfl) ?_
  refine lv_iload_n C.1 C.2.1 dX7_appendAll_3 rfl (lv_at hl 2 rfl) ?_
  rcases of_ite hf with ⟨c1, hf⟩ | ⟨c1, hf⟩
  · refine lv_icmp_ge (tgt := 23) C.1 C.2.1 dX7_appendAll_4 (by decide) (fun _ => ?_) (fun q => absurd c1 q)
    obtain rfl := Option.some.inj hf
    exact kX1 _ rfl _ _ _ hG (lv_sub hl [] rfl)
  · refine lv_icmp_ge (tgt := 23) C.1 C.2.1 dX7_appendAll_4 (by decide) (fun q => absurd q c1) (fun _ => ?_)
    refine lv_aload_n C.1 C.2.1 dX7_appendAll_7 rfl (lv_at hl 0 rfl) ?_
    refine lv_iload_n C.1 C.2.1 dX7_appendAll_8 rfl (lv_at hl 1 rfl) ?_
    obtain ⟨v2, hv2, hf⟩ := of_bind hf
    refine r_callV1 C hG hl.1 (c0 := th) (As := [.int x1]) (kdx_lt hth (by decide)) (entX_O6 hth) rfl (mt_X6_append l hth hv2) (cwV 1 C.2.2.2.2.1 (gd_V tg_2_226 tg_2_227 tg_2_228 tg_1_5 tg_2_229) rfl rfl rfl cd_X6_append ⟨Nat.le_of_ble_eq_true rfl, Nat.le_of_ble_eq_true rfl⟩) rfl rfl (Nat.le_of_ble_eq_true rfl) dX7_appendAll_9 (fun H locs hG => ?_)
    rcases of_ite hf with ⟨c3, hf⟩ | ⟨c3, hf⟩
    · refine lv_if_ne (tgt := 17) C.1 C.2.1 dX7_appendAll_12 (by decide) (fun q => absurd c3 q) (fun _ => ?_)
      obtain rfl := Option.some.inj hf
      exact kX0 _ rfl _ _ _ hG (lv_sub hl [] rfl)
    · refine lv_if_ne (tgt := 17) C.1 C.2.1 dX7_appendAll_12 (by decide) (fun _ => ?_) (fun q => absurd q c3)
      obtain ⟨v4, ev4, hf⟩ := of_letv hf
      refine lv_iinc (v := v4) (lv' := [(3, .int v4), (0, .ref (B + th)), (1, .int x1), (2, .int x2)]) C.1 C.2.1 dX7_appendAll_17 hl (k := 3) rfl (by rw [ev4, show Int32.ofInt (1) = nI 1 from by decide]) (by decide) rfl (fun ls hl => ?_)
      refine lv_goto (tgt := 2) C.1 C.2.1 dX7_appendAll_20 (by decide) ?_
      obtain rfl := Option.some.inj hf
      exact kL _ rfl _ _ _ hG (lv_sub hl [1, 2, 3, 0] rfl)
set_option maxRecDepth 100000 in
set_option maxHeartbeats 4000000 in
theorem kl_X7_appendAll_2 {th : Nat} {x1 : Int32} {x2 : Int32} (C : CX p s m args meth c cX7_appendAll 4 RX7 wc_X7_appendAll (some .boolean)) (hth : KDx th = (6, 3)) : ∀ (n : Nat) (st : Int32 × WX) (x : (WX) ⊕ (WX)) (H : Heap) (locs : List Loc) (ls : Array Slot), Gd s G A 153 B (entX G B st.2) X H locs → lv_has ls 4 [(0, .ref (B + th)), (1, .int x1), (2, .int x2), (3, .int st.1)] → lpw (sh_X7_appendAll_s2 th x1 x2) n st = some x →
    (∀ y' : WX, x = (Sum.inl y') → ∀ (H : Heap) (locs : List Loc) (ls : Array Slot), Gd s G A 153 B (entX G B y') X H locs → lv_has ls 4 [] → W p l e rm_X7_appendAll s m args below meth c H locs 0 0 Q (F0 m 15 ls [])) →
    (∀ y' : WX, x = (Sum.inr y') → ∀ (H : Heap) (locs : List Loc) (ls : Array Slot), Gd s G A 153 B (entX G B y') X H locs → lv_has ls 4 [] → W p l e rm_X7_appendAll s m args below meth c H locs 0 0 Q (F0 m 23 ls [])) → W p l e rm_X7_appendAll s m args below meth c H locs 0 0 Q (F0 m 2 ls []) := by
  intro n
  induction n with
  | zero =>
    intro st x H locs ls hG hl hf
    cases hf
  | succ n ih =>
    intro st x H locs ls hG hl hf kX0 kX1
    obtain ⟨r, hr, hh⟩ := of_lpw hf
    refine kb_X7_appendAll_2 C hth hG hl hr (fun st2 e1 H locs ls hG hl => ?_) (fun y2 e1 H locs ls hG hl => ?_) (fun y2 e1 H locs ls hG hl => ?_)
    · rcases hh with ⟨s3, e2, hh⟩ | e2
      · rw [e2] at e1
        cases e1
        exact ih _ _ _ _ _ hG hl hh kX0 kX1
      · rw [e2] at e1
        cases e1
    · rcases hh with ⟨s3, e2, hh⟩ | e2
      · rw [e2] at e1
        cases e1
      · rw [e2] at e1
        cases e1
        exact kX0 _ rfl _ _ _ hG hl
    · rcases hh with ⟨s3, e2, hh⟩ | e2
      · rw [e2] at e1
        cases e1
      · rw [e2] at e1
        cases e1
        exact kX1 _ rfl _ _ _ hG hl
set_option maxRecDepth 100000 in
set_option maxHeartbeats 4000000 in
theorem kb_X7_appendAll_0 {x0 : Nat} {x1 : Int32} {x2 : Int32} {w : WX} {out : Int32 × WX} {H : Heap} {locs : List Loc} {ls : Array Slot} (C : CX p s m args meth c cX7_appendAll 4 RX7 wc_X7_appendAll (some .boolean)) (h0 : KDx x0 = (6, 3)) (hG : Gd s G A 153 B (entX G B w) X H locs) (hl : lv_has ls 4 [(0, .ref (B + x0)), (1, .int x1), (2, .int x2)]) (hf : sh_X7_appendAll x0 x1 x2 w = some out) :
    W p l e rm_X7_appendAll s m args below meth c H locs 0 0 (MQ below (CPost G A 153 B (entX G B out.2) X (some (.int out.1))) args s 0 0 A) (F0 m 0 ls []) := by
  refine lv_iconst (v := nI 0) C.1 C.2.1 dX7_appendAll_0 (by decide) ?_
  refine lv_istore_n (lv' := [(3, .int (nI 0)), (0, .ref (B + x0)), (1, .int x1), (2, .int x2)]) C.1 C.2.1 dX7_appendAll_1 rfl hl (by decide) rfl (fun ls hl => ?_)
  obtain ⟨ex1, hex1, hf⟩ := of_bind hf
  refine kl_X7_appendAll_2 C h0 FU (nI 0, w) ex1 _ _ _ hG (lv_sub hl [1, 2, 3, 0] rfl) hex1 (fun y2 e0 H locs ls hG hl => ?_) (fun y3 e0 H locs ls hG hl => ?_)
  · subst e0
    simp only [Sum.elim_inl, Sum.elim_inr] at hf
    refine lv_iconst (v := nI 0) C.1 C.2.1 dX7_appendAll_15 (by decide) ?_
    obtain rfl := Option.some.inj hf
    exact r_zret C hG (Or.inl rfl) dX7_appendAll_16
  · subst e0
    simp only [Sum.elim_inl, Sum.elim_inr] at hf
    refine lv_iconst (v := nI 1) C.1 C.2.1 dX7_appendAll_23 (by decide) ?_
    obtain rfl := Option.some.inj hf
    exact r_zret C hG (Or.inr rfl) dX7_appendAll_24
set_option maxRecDepth 100000 in
set_option maxHeartbeats 4000000 in
theorem mt_X7_appendAll (l : Launch) {G : GG} {A : Nat → Prop} {B : Nat} {X : va_W} {x0 : Nat} {x1 : Int32} {x2 : Int32} {w : WX} {out : Int32 × WX} (h0 : KDx x0 = (6, 3)) (hf : sh_X7_appendAll x0 x1 x2 w = some out) : MetW l yX7_appendAll wc_X7_appendAll rm_X7_appendAll G A 153 B (entX G B w) X [.ref (B + x0), .int x1, .int x2] (some (.int out.1)) (entX G B out.2) := by
  refine Met.ofW (cc := cX7_appendAll) (maxL := 4) (ret := (some .boolean)) (by decide) rfl ?_
  intro p e s m args below meth c s₁ B0 hml hv
  obtain ⟨rfl, hEv, hWd⟩ := hv
  have C : CX p s m _ meth c cX7_appendAll 4 RX7 wc_X7_appendAll (some .boolean) := ⟨B0.exec, B0.bytes, hml, findClass_of_methodNamed B0.named, atoms_spec (ws := wc_X7_appendAll) B0.pre, B0.returns, B0.notSynchronized⟩
  have hl := lv_entry [.ref (B + x0), .int x1, .int x2] (n := 4) (Nat.le_of_ble_eq_true rfl)
  rw [lg_entry_eq]
  generalize (lg_sl [.ref (B + x0), .int x1, .int x2] ++ List.replicate (4 - (lg_sl [.ref (B + x0), .int x1, .int x2]).length) Slot.unset).toArray = ls at hl ⊢
  have hl : lv_has ls 4 [(0, .ref (B + x0)), (1, .int x1), (2, .int x2)] := hl
  exact kb_X7_appendAll_0 C h0 ⟨hEv, hWd, va_S.rf⟩ hl hf
abbrev wc_X7_isTimes : List Cond := Cond.code yX7_isTimes cX7_isTimes 1 (some .boolean) :: TG
abbrev rm_X7_isTimes : Room := { frames := 2, cells := 0, slots := 0, locals := 100 }
theorem cd_X7_isTimes : yX7_isTimes.cls = RX7 ∧ yX7_isTimes.cls ≠ "java/lang/invoke/MethodHandle" ∧ yX7_isTimes.cls ≠ "java/lang/invoke/VarHandle" ∧ (parseMethodDescriptor yX7_isTimes.desc).map (fun d => d.parameters.length) = some 1 := by decide +kernel
theorem dX7_isTimes_0 : decode cX7_isTimes 0 = .ok (.iload_n 0, 1) := by decide +kernel
theorem dX7_isTimes_1 : decode cX7_isTimes 1 = .ok (.bipush 50, 2) := by decide +kernel
theorem dX7_isTimes_3 : decode cX7_isTimes 3 = .ok (.if_icmp .lt 13, 3) := by decide +kernel
theorem dX7_isTimes_6 : decode cX7_isTimes 6 = .ok (.iload_n 0, 1) := by decide +kernel
theorem dX7_isTimes_7 : decode cX7_isTimes 7 = .ok (.bipush 57, 2) := by decide +kernel
theorem dX7_isTimes_9 : decode cX7_isTimes 9 = .ok (.if_icmp .gt 7, 3) := by decide +kernel
theorem dX7_isTimes_12 : decode cX7_isTimes 12 = .ok (.iconst 1, 1) := by decide +kernel
theorem dX7_isTimes_13 : decode cX7_isTimes 13 = .ok (.goto 4, 3) := by decide +kernel
theorem dX7_isTimes_16 : decode cX7_isTimes 16 = .ok (.iconst 0, 1) := by decide +kernel
theorem dX7_isTimes_17 : decode cX7_isTimes 17 = .ok (.ireturn, 1) := by decide +kernel
set_option maxRecDepth 100000 in
set_option maxHeartbeats 4000000 in
theorem kb_X7_isTimes_0 {x0 : Int32} {out : Int32} {H : Heap} {locs : List Loc} {ls : Array Slot} (C : CX p s m args meth c cX7_isTimes 1 RX7 wc_X7_isTimes (some .boolean))  (hG : Gd s G A N B E X H locs) (hl : lv_has ls 1 [(0, .int x0)]) (hf : sh_X7_isTimes x0 = some out) :
    W p l e rm_X7_isTimes s m args below meth c H locs 0 0 (MQ below (CPost G A N B E X (some (.int out))) args s 0 0 A) (F0 m 0 ls []) := by
  refine lv_iload_n C.1 C.2.1 dX7_isTimes_0 rfl (lv_at hl 0 rfl) ?_
  refine lv_bipush (v := nI 50) C.1 C.2.1 dX7_isTimes_1 (by decide) ?_
  rcases of_ite hf with ⟨c1, hf⟩ | ⟨c1, hf⟩
  · refine lv_icmp_lt (tgt := 16) C.1 C.2.1 dX7_isTimes_3 (by decide) (fun _ => ?_) (fun q => absurd c1 q)
    refine lv_iconst (v := nI 0) C.1 C.2.1 dX7_isTimes_16 (by decide) ?_
    obtain rfl := Option.some.inj hf
    exact r_zret C hG (Or.inl rfl) dX7_isTimes_17
  · refine lv_icmp_lt (tgt := 16) C.1 C.2.1 dX7_isTimes_3 (by decide) (fun q => absurd q c1) (fun _ => ?_)
    refine lv_iload_n C.1 C.2.1 dX7_isTimes_6 rfl (lv_at hl 0 rfl) ?_
    refine lv_bipush (v := nI 57) C.1 C.2.1 dX7_isTimes_7 (by decide) ?_
    rcases of_ite hf with ⟨c2, hf⟩ | ⟨c2, hf⟩
    · refine lv_icmp_gt (tgt := 16) C.1 C.2.1 dX7_isTimes_9 (by decide) (fun _ => ?_) (fun q => absurd c2 q)
      refine lv_iconst (v := nI 0) C.1 C.2.1 dX7_isTimes_16 (by decide) ?_
      obtain rfl := Option.some.inj hf
      exact r_zret C hG (Or.inl rfl) dX7_isTimes_17
    · refine lv_icmp_gt (tgt := 16) C.1 C.2.1 dX7_isTimes_9 (by decide) (fun q => absurd q c2) (fun _ => ?_)
      refine lv_iconst (v := nI 1) C.1 C.2.1 dX7_isTimes_12 (by decide) ?_
      refine lv_goto (tgt := 17) C.1 C.2.1 dX7_isTimes_13 (by decide) ?_
      obtain rfl := Option.some.inj hf
      exact r_zret C hG (Or.inr rfl) dX7_isTimes_17
set_option maxRecDepth 100000 in
set_option maxHeartbeats 4000000 in
theorem mt_X7_isTimes (l : Launch) {G : GG} {A : Nat → Prop} {N B : Nat} {E : Nat → va_E} {X : va_W} {x0 : Int32} {out : Int32}  (hf : sh_X7_isTimes x0 = some out) : MetW l yX7_isTimes wc_X7_isTimes rm_X7_isTimes G A N B E X [.int x0] (some (.int out)) E := by
  refine Met.ofW (cc := cX7_isTimes) (maxL := 1) (ret := (some .boolean)) (by decide) rfl ?_
  intro p e s m args below meth c s₁ B0 hml hv
  obtain ⟨rfl, hEv, hWd⟩ := hv
  have C : CX p s m _ meth c cX7_isTimes 1 RX7 wc_X7_isTimes (some .boolean) := ⟨B0.exec, B0.bytes, hml, findClass_of_methodNamed B0.named, atoms_spec (ws := wc_X7_isTimes) B0.pre, B0.returns, B0.notSynchronized⟩
  have hl := lv_entry [.int x0] (n := 1) (Nat.le_of_ble_eq_true rfl)
  rw [lg_entry_eq]
  generalize (lg_sl [.int x0] ++ List.replicate (1 - (lg_sl [.int x0]).length) Slot.unset).toArray = ls at hl ⊢
  have hl : lv_has ls 1 [(0, .int x0)] := hl
  exact kb_X7_isTimes_0 C  ⟨hEv, hWd, va_S.rf⟩ hl hf
abbrev wc_X7_pieceByLetter : List Cond := Cond.code yX7_pieceByLetter cX7_pieceByLetter 2 (some .int) :: TG
abbrev rm_X7_pieceByLetter : Room := { frames := 2, cells := 0, slots := 0, locals := 100 }
theorem cd_X7_pieceByLetter : yX7_pieceByLetter.cls = RX7 ∧ yX7_pieceByLetter.cls ≠ "java/lang/invoke/MethodHandle" ∧ yX7_pieceByLetter.cls ≠ "java/lang/invoke/VarHandle" ∧ (parseMethodDescriptor yX7_pieceByLetter.desc).map (fun d => d.parameters.length) = some 1 := by decide +kernel
theorem dX7_pieceByLetter_0 : decode cX7_pieceByLetter 0 = .ok (.iconst 0, 1) := by decide +kernel
theorem dX7_pieceByLetter_1 : decode cX7_pieceByLetter 1 = .ok (.istore_n 1, 1) := by decide +kernel
theorem dX7_pieceByLetter_2 : decode cX7_pieceByLetter 2 = .ok (.iload_n 1, 1) := by decide +kernel
theorem dX7_pieceByLetter_3 : decode cX7_pieceByLetter 3 = .ok (.bipush 7, 2) := by decide +kernel
theorem dX7_pieceByLetter_5 : decode cX7_pieceByLetter 5 = .ok (.if_icmp .ge 20, 3) := by decide +kernel
theorem dX7_pieceByLetter_8 : decode cX7_pieceByLetter 8 = .ok (.getstatic 40, 3) := by decide +kernel
theorem dX7_pieceByLetter_11 : decode cX7_pieceByLetter 11 = .ok (.iload_n 1, 1) := by decide +kernel
theorem dX7_pieceByLetter_12 : decode cX7_pieceByLetter 12 = .ok (.caload, 1) := by decide +kernel
theorem dX7_pieceByLetter_13 : decode cX7_pieceByLetter 13 = .ok (.iload_n 0, 1) := by decide +kernel
theorem dX7_pieceByLetter_14 : decode cX7_pieceByLetter 14 = .ok (.if_icmp .ne 5, 3) := by decide +kernel
theorem dX7_pieceByLetter_17 : decode cX7_pieceByLetter 17 = .ok (.iload_n 1, 1) := by decide +kernel
theorem dX7_pieceByLetter_18 : decode cX7_pieceByLetter 18 = .ok (.ireturn, 1) := by decide +kernel
theorem dX7_pieceByLetter_19 : decode cX7_pieceByLetter 19 = .ok (.iinc 1 1, 3) := by decide +kernel
theorem dX7_pieceByLetter_22 : decode cX7_pieceByLetter 22 = .ok (.goto (-20), 3) := by decide +kernel
theorem dX7_pieceByLetter_25 : decode cX7_pieceByLetter 25 = .ok (.iconst (-1), 1) := by decide +kernel
theorem dX7_pieceByLetter_26 : decode cX7_pieceByLetter 26 = .ok (.ireturn, 1) := by decide +kernel
set_option maxRecDepth 100000 in
set_option maxHeartbeats 4000000 in
theorem kb_X7_pieceByLetter_2 {x0 : Int32} {st : Int32} {r : (Int32) ⊕ ((Int32) ⊕ (Unit))} {H : Heap} {locs : List Loc} {ls : Array Slot} (C : CX p s m args meth c cX7_pieceByLetter 2 RX7 wc_X7_pieceByLetter (some .int))  (hG : Gd s G A N B E X H locs) (hl : lv_has ls 2 [(0, .int x0), (1, .int st)]) (hf : sh_X7_pieceByLetter_s2 x0 st = some r)
    (kL : ∀ st' : Int32, r = Sum.inl st' → ∀ (H : Heap) (locs : List Loc) (ls : Array Slot), Gd s G A N B E X H locs → lv_has ls 2 [(0, .int x0), (1, .int st')] → W p l e rm_X7_pieceByLetter s m args below meth c H locs 0 0 Q (F0 m 2 ls []))
    (kX0 : ∀ y' : Int32, r = Sum.inr (Sum.inl y') → ∀ (H : Heap) (locs : List Loc) (ls : Array Slot), Gd s G A N B E X H locs → lv_has ls 2 [(1, .int y')] → W p l e rm_X7_pieceByLetter s m args below meth c H locs 0 0 Q (F0 m 17 ls []))
    (kX1 : ∀ y' : Unit, r = Sum.inr (Sum.inr y') → ∀ (H : Heap) (locs : List Loc) (ls : Array Slot), Gd s G A N B E X H locs → lv_has ls 2 [] → W p l e rm_X7_pieceByLetter s m args below meth c H locs 0 0 Q (F0 m 25 ls [])) :
    W p l e rm_X7_pieceByLetter s m args below meth c H locs 0 0 Q (F0 m 2 ls []) := by
  refine lv_iload_n C.1 C.2.1 dX7_pieceByLetter_2 rfl (lv_at hl 1 rfl) ?_
  refine lv_bipush (v := nI 7) C.1 C.2.1 dX7_pieceByLetter_3 (by decide) ?_
  rcases of_ite hf with ⟨c1, hf⟩ | ⟨c1, hf⟩
  · refine lv_icmp_ge (tgt := 25) C.1 C.2.1 dX7_pieceByLetter_5 (by decide) (fun _ => ?_) (fun q => absurd c1 q)
    obtain rfl := Option.some.inj hf
    exact kX1 _ rfl _ _ _ hG (lv_sub hl [] rfl)
  · refine lv_icmp_ge (tgt := 25) C.1 C.2.1 dX7_pieceByLetter_5 (by decide) (fun q => absurd q c1) (fun _ => ?_)
    refine r_getsN C hG hG.1.2.2.1 nn_54 dX7_pieceByLetter_8 ?_
    refine lv_iload_n C.1 C.2.1 dX7_pieceByLetter_11 rfl (lv_at hl 1 rfl) ?_
    obtain ⟨v2, hv2, hf⟩ := of_bind hf
    obtain ⟨bv2, ev2⟩ := of_tbl7 hv2
    refine r_tc C hG hG.1.2.2.1 bv2 dX7_pieceByLetter_12 ?_
    refine r_top ev2 ?_
    refine lv_iload_n C.1 C.2.1 dX7_pieceByLetter_13 rfl (lv_at hl 0 rfl) ?_
    rcases of_ite hf with ⟨c3, hf⟩ | ⟨c3, hf⟩
    · refine lv_icmp_ne (tgt := 19) C.1 C.2.1 dX7_pieceByLetter_14 (by decide) (fun q => absurd c3 q) (fun _ => ?_)
      obtain rfl := Option.some.inj hf
      exact kX0 _ rfl _ _ _ hG (lv_sub hl [1] rfl)
    · refine lv_icmp_ne (tgt := 19) C.1 C.2.1 dX7_pieceByLetter_14 (by decide) (fun _ => ?_) (fun q => absurd q c3)
      obtain ⟨v4, ev4, hf⟩ := of_letv hf
      refine lv_iinc (v := v4) (lv' := [(1, .int v4), (0, .int x0)]) C.1 C.2.1 dX7_pieceByLetter_19 hl (k := 1) rfl (by rw [ev4, show Int32.ofInt (1) = nI 1 from by decide]) (by decide) rfl (fun ls hl => ?_)
      refine lv_goto (tgt := 2) C.1 C.2.1 dX7_pieceByLetter_22 (by decide) ?_
      obtain rfl := Option.some.inj hf
      exact kL _ rfl _ _ _ hG (lv_sub hl [1, 0] rfl)
set_option maxRecDepth 100000 in
set_option maxHeartbeats 4000000 in
theorem kl_X7_pieceByLetter_2 {x0 : Int32} (C : CX p s m args meth c cX7_pieceByLetter 2 RX7 wc_X7_pieceByLetter (some .int))  : ∀ (n : Nat) (st : Int32) (x : (Int32) ⊕ (Unit)) (H : Heap) (locs : List Loc) (ls : Array Slot), Gd s G A N B E X H locs → lv_has ls 2 [(0, .int x0), (1, .int st)] → lpw (sh_X7_pieceByLetter_s2 x0) n st = some x →
    (∀ y' : Int32, x = (Sum.inl y') → ∀ (H : Heap) (locs : List Loc) (ls : Array Slot), Gd s G A N B E X H locs → lv_has ls 2 [(1, .int y')] → W p l e rm_X7_pieceByLetter s m args below meth c H locs 0 0 Q (F0 m 17 ls [])) →
    (∀ y' : Unit, x = (Sum.inr y') → ∀ (H : Heap) (locs : List Loc) (ls : Array Slot), Gd s G A N B E X H locs → lv_has ls 2 [] → W p l e rm_X7_pieceByLetter s m args below meth c H locs 0 0 Q (F0 m 25 ls [])) → W p l e rm_X7_pieceByLetter s m args below meth c H locs 0 0 Q (F0 m 2 ls []) := by
  intro n
  induction n with
  | zero =>
    intro st x H locs ls hG hl hf
    cases hf
  | succ n ih =>
    intro st x H locs ls hG hl hf kX0 kX1
    obtain ⟨r, hr, hh⟩ := of_lpw hf
    refine kb_X7_pieceByLetter_2 C  hG hl hr (fun st2 e1 H locs ls hG hl => ?_) (fun y2 e1 H locs ls hG hl => ?_) (fun y2 e1 H locs ls hG hl => ?_)
    · rcases hh with ⟨s3, e2, hh⟩ | e2
      · rw [e2] at e1
        cases e1
        exact ih _ _ _ _ _ hG hl hh kX0 kX1
      · rw [e2] at e1
        cases e1
    · rcases hh with ⟨s3, e2, hh⟩ | e2
      · rw [e2] at e1
        cases e1
      · rw [e2] at e1
        cases e1
        exact kX0 _ rfl _ _ _ hG hl
    · rcases hh with ⟨s3, e2, hh⟩ | e2
      · rw [e2] at e1
        cases e1
      · rw [e2] at e1
        cases e1
        exact kX1 _ rfl _ _ _ hG hl
set_option maxRecDepth 100000 in
set_option maxHeartbeats 4000000 in
theorem kb_X7_pieceByLetter_0 {x0 : Int32} {out : Int32} {H : Heap} {locs : List Loc} {ls : Array Slot} (C : CX p s m args meth c cX7_pieceByLetter 2 RX7 wc_X7_pieceByLetter (some .int))  (hG : Gd s G A N B E X H locs) (hl : lv_has ls 2 [(0, .int x0)]) (hf : sh_X7_pieceByLetter x0 = some out) :
    W p l e rm_X7_pieceByLetter s m args below meth c H locs 0 0 (MQ below (CPost G A N B E X (some (.int out))) args s 0 0 A) (F0 m 0 ls []) := by
  refine lv_iconst (v := nI 0) C.1 C.2.1 dX7_pieceByLetter_0 (by decide) ?_
  refine lv_istore_n (lv' := [(1, .int (nI 0)), (0, .int x0)]) C.1 C.2.1 dX7_pieceByLetter_1 rfl hl (by decide) rfl (fun ls hl => ?_)
  obtain ⟨ex1, hex1, hf⟩ := of_bind hf
  refine kl_X7_pieceByLetter_2 C  FU (nI 0) ex1 _ _ _ hG (lv_sub hl [1, 0] rfl) hex1 (fun y2 e0 H locs ls hG hl => ?_) (fun y3 e0 H locs ls hG hl => ?_)
  · subst e0
    simp only [Sum.elim_inl, Sum.elim_inr] at hf
    refine lv_iload_n C.1 C.2.1 dX7_pieceByLetter_17 rfl (lv_at hl 0 rfl) ?_
    obtain rfl := Option.some.inj hf
    exact r_iret C hG dX7_pieceByLetter_18
  · subst e0
    simp only [Sum.elim_inl, Sum.elim_inr] at hf
    refine lv_iconst (v := (-1 : Int32)) C.1 C.2.1 dX7_pieceByLetter_25 (by decide) ?_
    obtain rfl := Option.some.inj hf
    exact r_iret C hG dX7_pieceByLetter_26
set_option maxRecDepth 100000 in
set_option maxHeartbeats 4000000 in
theorem mt_X7_pieceByLetter (l : Launch) {G : GG} {A : Nat → Prop} {N B : Nat} {E : Nat → va_E} {X : va_W} {x0 : Int32} {out : Int32}  (hf : sh_X7_pieceByLetter x0 = some out) : MetW l yX7_pieceByLetter wc_X7_pieceByLetter rm_X7_pieceByLetter G A N B E X [.int x0] (some (.int out)) E := by
  refine Met.ofW (cc := cX7_pieceByLetter) (maxL := 2) (ret := (some .int)) (by decide) rfl ?_
  intro p e s m args below meth c s₁ B0 hml hv
  obtain ⟨rfl, hEv, hWd⟩ := hv
  have C : CX p s m _ meth c cX7_pieceByLetter 2 RX7 wc_X7_pieceByLetter (some .int) := ⟨B0.exec, B0.bytes, hml, findClass_of_methodNamed B0.named, atoms_spec (ws := wc_X7_pieceByLetter) B0.pre, B0.returns, B0.notSynchronized⟩
  have hl := lv_entry [.int x0] (n := 2) (Nat.le_of_ble_eq_true rfl)
  rw [lg_entry_eq]
  generalize (lg_sl [.int x0] ++ List.replicate (2 - (lg_sl [.int x0]).length) Slot.unset).toArray = ls at hl ⊢
  have hl : lv_has ls 2 [(0, .int x0)] := hl
  exact kb_X7_pieceByLetter_0 C  ⟨hEv, hWd, va_S.rf⟩ hl hf
abbrev wc_X7_readInto : List Cond := Cond.code yX7_readInto cX7_readInto 7 (some .int) :: TG
abbrev rm_X7_readInto : Room := { frames := 5, cells := 0, slots := 0, locals := 165 }
theorem cd_X7_readInto : yX7_readInto.cls = RX7 ∧ yX7_readInto.cls ≠ "java/lang/invoke/MethodHandle" ∧ yX7_readInto.cls ≠ "java/lang/invoke/VarHandle" ∧ (parseMethodDescriptor yX7_readInto.desc).map (fun d => d.parameters.length) = some 1 := by decide +kernel
theorem dX7_readInto_0 : decode cX7_readInto 0 = .ok (.aload_n 1, 1) := by decide +kernel
theorem dX7_readInto_1 : decode cX7_readInto 1 = .ok (.iconst 0, 1) := by decide +kernel
theorem dX7_readInto_2 : decode cX7_readInto 2 = .ok (.invokevirtual 19, 3) := by decide +kernel
theorem dX7_readInto_5 : decode cX7_readInto 5 = .ok (.iconst (-1), 1) := by decide +kernel
theorem dX7_readInto_6 : decode cX7_readInto 6 = .ok (.istore_n 2, 1) := by decide +kernel
theorem dX7_readInto_7 : decode cX7_readInto 7 = .ok (.iconst 0, 1) := by decide +kernel
theorem dX7_readInto_8 : decode cX7_readInto 8 = .ok (.istore_n 3, 1) := by decide +kernel
theorem dX7_readInto_9 : decode cX7_readInto 9 = .ok (.iload_n 3, 1) := by decide +kernel
theorem dX7_readInto_10 : decode cX7_readInto 10 = .ok (.aload_n 0, 1) := by decide +kernel
theorem dX7_readInto_11 : decode cX7_readInto 11 = .ok (.getfield 15, 3) := by decide +kernel
theorem dX7_readInto_14 : decode cX7_readInto 14 = .ok (.if_icmp .ge 104, 3) := by decide +kernel
theorem dX7_readInto_17 : decode cX7_readInto 17 = .ok (.aload_n 0, 1) := by decide +kernel
theorem dX7_readInto_18 : decode cX7_readInto 18 = .ok (.getfield 9, 3) := by decide +kernel
theorem dX7_readInto_21 : decode cX7_readInto 21 = .ok (.iload_n 3, 1) := by decide +kernel
theorem dX7_readInto_22 : decode cX7_readInto 22 = .ok (.iaload, 1) := by decide +kernel
theorem dX7_readInto_23 : decode cX7_readInto 23 = .ok (.invokestatic 25, 3) := by decide +kernel
theorem dX7_readInto_26 : decode cX7_readInto 26 = .ok (.istore 4, 2) := by decide +kernel
theorem dX7_readInto_28 : decode cX7_readInto 28 = .ok (.iload 4, 2) := by decide +kernel
theorem dX7_readInto_30 : decode cX7_readInto 30 = .ok (.iconst (-1), 1) := by decide +kernel
theorem dX7_readInto_31 : decode cX7_readInto 31 = .ok (.if_icmp .eq 7, 3) := by decide +kernel
theorem dX7_readInto_34 : decode cX7_readInto 34 = .ok (.iconst 1, 1) := by decide +kernel
theorem dX7_readInto_35 : decode cX7_readInto 35 = .ok (.goto 4, 3) := by decide +kernel
theorem dX7_readInto_38 : decode cX7_readInto 38 = .ok (.iconst 0, 1) := by decide +kernel
theorem dX7_readInto_39 : decode cX7_readInto 39 = .ok (.istore 5, 2) := by decide +kernel
theorem dX7_readInto_41 : decode cX7_readInto 41 = .ok (.iload 5, 2) := by decide +kernel
theorem dX7_readInto_43 : decode cX7_readInto 43 = .ok (.ifCond .ne 22, 3) := by decide +kernel
theorem dX7_readInto_46 : decode cX7_readInto 46 = .ok (.iload_n 2, 1) := by decide +kernel
theorem dX7_readInto_47 : decode cX7_readInto 47 = .ok (.iconst (-1), 1) := by decide +kernel
theorem dX7_readInto_48 : decode cX7_readInto 48 = .ok (.if_icmp .eq 15, 3) := by decide +kernel
theorem dX7_readInto_51 : decode cX7_readInto 51 = .ok (.aload_n 0, 1) := by decide +kernel
theorem dX7_readInto_52 : decode cX7_readInto 52 = .ok (.getfield 9, 3) := by decide +kernel
theorem dX7_readInto_55 : decode cX7_readInto 55 = .ok (.iload_n 3, 1) := by decide +kernel
theorem dX7_readInto_56 : decode cX7_readInto 56 = .ok (.iaload, 1) := by decide +kernel
theorem dX7_readInto_57 : decode cX7_readInto 57 = .ok (.invokestatic 29, 3) := by decide +kernel
theorem dX7_readInto_60 : decode cX7_readInto 60 = .ok (.ifCond .ne 5, 3) := by decide +kernel
theorem dX7_readInto_63 : decode cX7_readInto 63 = .ok (.iload_n 3, 1) := by decide +kernel
theorem dX7_readInto_64 : decode cX7_readInto 64 = .ok (.ireturn, 1) := by decide +kernel
theorem dX7_readInto_65 : decode cX7_readInto 65 = .ok (.iload 5, 2) := by decide +kernel
theorem dX7_readInto_67 : decode cX7_readInto 67 = .ok (.ifCond .eq 7, 3) := by decide +kernel
theorem dX7_readInto_70 : decode cX7_readInto 70 = .ok (.iconst 1, 1) := by decide +kernel
theorem dX7_readInto_71 : decode cX7_readInto 71 = .ok (.goto 14, 3) := by decide +kernel
theorem dX7_readInto_74 : decode cX7_readInto 74 = .ok (.aload_n 0, 1) := by decide +kernel
theorem dX7_readInto_75 : decode cX7_readInto 75 = .ok (.getfield 9, 3) := by decide +kernel
theorem dX7_readInto_78 : decode cX7_readInto 78 = .ok (.iload_n 3, 1) := by decide +kernel
theorem dX7_readInto_79 : decode cX7_readInto 79 = .ok (.iaload, 1) := by decide +kernel
theorem dX7_readInto_80 : decode cX7_readInto 80 = .ok (.bipush 48, 2) := by decide +kernel
theorem dX7_readInto_82 : decode cX7_readInto 82 = .ok (.isub, 1) := by decide +kernel
theorem dX7_readInto_83 : decode cX7_readInto 83 = .ok (.iconst 1, 1) := by decide +kernel
theorem dX7_readInto_84 : decode cX7_readInto 84 = .ok (.isub, 1) := by decide +kernel
theorem dX7_readInto_85 : decode cX7_readInto 85 = .ok (.istore 6, 2) := by decide +kernel
theorem dX7_readInto_87 : decode cX7_readInto 87 = .ok (.aload_n 1, 1) := by decide +kernel
theorem dX7_readInto_88 : decode cX7_readInto 88 = .ok (.iload 5, 2) := by decide +kernel
theorem dX7_readInto_90 : decode cX7_readInto 90 = .ok (.ifCond .eq 8, 3) := by decide +kernel
theorem dX7_readInto_93 : decode cX7_readInto 93 = .ok (.iload 4, 2) := by decide +kernel
theorem dX7_readInto_95 : decode cX7_readInto 95 = .ok (.goto 4, 3) := by decide +kernel
theorem dX7_readInto_98 : decode cX7_readInto 98 = .ok (.iload_n 2, 1) := by decide +kernel
theorem dX7_readInto_99 : decode cX7_readInto 99 = .ok (.iload 6, 2) := by decide +kernel
theorem dX7_readInto_101 : decode cX7_readInto 101 = .ok (.invokestatic 33, 3) := by decide +kernel
theorem dX7_readInto_104 : decode cX7_readInto 104 = .ok (.ifCond .ne 5, 3) := by decide +kernel
theorem dX7_readInto_107 : decode cX7_readInto 107 = .ok (.iload_n 3, 1) := by decide +kernel
theorem dX7_readInto_108 : decode cX7_readInto 108 = .ok (.ireturn, 1) := by decide +kernel
theorem dX7_readInto_109 : decode cX7_readInto 109 = .ok (.iload 4, 2) := by decide +kernel
theorem dX7_readInto_111 : decode cX7_readInto 111 = .ok (.istore_n 2, 1) := by decide +kernel
theorem dX7_readInto_112 : decode cX7_readInto 112 = .ok (.iinc 3 1, 3) := by decide +kernel
theorem dX7_readInto_115 : decode cX7_readInto 115 = .ok (.goto (-106), 3) := by decide +kernel
theorem dX7_readInto_118 : decode cX7_readInto 118 = .ok (.aload_n 0, 1) := by decide +kernel
theorem dX7_readInto_119 : decode cX7_readInto 119 = .ok (.getfield 15, 3) := by decide +kernel
theorem dX7_readInto_122 : decode cX7_readInto 122 = .ok (.ifCond .ne 7, 3) := by decide +kernel
theorem dX7_readInto_125 : decode cX7_readInto 125 = .ok (.iconst 0, 1) := by decide +kernel
theorem dX7_readInto_126 : decode cX7_readInto 126 = .ok (.goto 4, 3) := by decide +kernel
theorem dX7_readInto_129 : decode cX7_readInto 129 = .ok (.iconst (-1), 1) := by decide +kernel
theorem dX7_readInto_130 : decode cX7_readInto 130 = .ok (.ireturn, 1) := by decide +kernel
set_option maxRecDepth 100000 in
set_option maxHeartbeats 4000000 in
theorem kb_X7_readInto_99 {x1 : Nat} {x3 : Int32} {x4 : Int32} {x6 : Int32} {s0 : Nat} {s1 : Int32} {w : WX} {r : (Int32 × Int32 × WX) ⊕ ((Int32 × WX) ⊕ (Int32 × WX) ⊕ (WX))} {H : Heap} {locs : List Loc} {ls : Array Slot} (C : CX p s m args meth c cX7_readInto 7 RX7 wc_X7_readInto (some .int)) (h1 : KDx x1 = (6, 3)) (hs0 : KDx s0 = (6, 3)) (hG : Gd s G A 153 B (entX G B w) X H locs) (hl : lv_has ls 7 [(0, .ref (B + 109)), (1, .ref (B + x1)), (3, .int x3), (4, .int x4), (6, .int x6)]) (hf : sh_X7_readInto_j99 x1 x3 x4 x6 s0 s1 w = some r)
    (kL : ∀ st' : Int32 × Int32 × WX, r = Sum.inl st' → ∀ (H : Heap) (locs : List Loc) (ls : Array Slot), Gd s G A 153 B (entX G B st'.2.2) X H locs → lv_has ls 7 [(0, .ref (B + 109)), (1, .ref (B + x1)), (2, .int st'.1), (3, .int st'.2.1)] → W p l e rm_X7_readInto s m args below meth c H locs 0 0 Q (F0 m 9 ls []))
    (kX0 : ∀ y' : Int32 × WX, r = Sum.inr (Sum.inl y') → ∀ (H : Heap) (locs : List Loc) (ls : Array Slot), Gd s G A 153 B (entX G B y'.2) X H locs → lv_has ls 7 [(3, .int y'.1)] → W p l e rm_X7_readInto s m args below meth c H locs 0 0 Q (F0 m 63 ls []))
    (kX1 : ∀ y' : Int32 × WX, r = Sum.inr (Sum.inr (Sum.inl y')) → ∀ (H : Heap) (locs : List Loc) (ls : Array Slot), Gd s G A 153 B (entX G B y'.2) X H locs → lv_has ls 7 [(3, .int y'.1)] → W p l e rm_X7_readInto s m args below meth c H locs 0 0 Q (F0 m 107 ls []))
    (kX2 : ∀ y' : WX, r = Sum.inr (Sum.inr (Sum.inr y')) → ∀ (H : Heap) (locs : List Loc) (ls : Array Slot), Gd s G A 153 B (entX G B y') X H locs → lv_has ls 7 [(0, .ref (B + 109))] → W p l e rm_X7_readInto s m args below meth c H locs 0 0 Q (F0 m 118 ls [])) :
    W p l e rm_X7_readInto s m args below meth c H locs 0 0 Q (F0 m 99 ls [.int s1, .ref (B + s0)]) := by
  refine lv_iload C.1 C.2.1 dX7_readInto_99 (lv_at hl 4 rfl) ?_
  obtain ⟨v1, hv1, hf⟩ := of_bind hf
  refine r_callS1 C hG hl.1 (As := [.ref (B + s0), .int s1, .int x6]) (mt_X7_appendAll l hs0 hv1) (va_cwS 3 C.2.2.2.2.1 (gd_S tg_2_223 tg_2_224 tg_1_6 tg_2_225) rfl rfl rfl cd_X7_appendAll.2 ⟨Nat.le_of_ble_eq_true rfl, Nat.le_of_ble_eq_true rfl⟩) rfl rfl (Nat.le_of_ble_eq_true rfl) dX7_readInto_101 (fun H locs hG => ?_)
  rcases of_ite hf with ⟨c2, hf⟩ | ⟨c2, hf⟩
  · refine lv_if_ne (tgt := 109) C.1 C.2.1 dX7_readInto_104 (by decide) (fun q => absurd c2 q) (fun _ => ?_)
    obtain rfl := Option.some.inj hf
    exact kX1 _ rfl _ _ _ hG (lv_sub hl [2] rfl)
  · refine lv_if_ne (tgt := 109) C.1 C.2.1 dX7_readInto_104 (by decide) (fun _ => ?_) (fun q => absurd q c2)
    refine lv_iload C.1 C.2.1 dX7_readInto_109 (lv_at hl 3 rfl) ?_
    refine lv_istore_n (lv' := [(2, .int x4), (0, .ref (B + 109)), (1, .ref (B + x1)), (3, .int x3), (4, .int x4), (6, .int x6)]) C.1 C.2.1 dX7_readInto_111 rfl hl (by decide) rfl (fun ls hl => ?_)
    obtain ⟨v3, ev3, hf⟩ := of_letv hf
    refine lv_iinc (v := v3) (lv' := [(3, .int v3), (2, .int x4), (0, .ref (B + 109)), (1, .ref (B + x1)), (4, .int x4), (6, .int x6)]) C.1 C.2.1 dX7_readInto_112 hl (k := 3) rfl (by rw [ev3, show Int32.ofInt (1) = nI 1 from by decide]) (by decide) rfl (fun ls hl => ?_)
    refine lv_goto (tgt := 9) C.1 C.2.1 dX7_readInto_115 (by decide) ?_
    obtain rfl := Option.some.inj hf
    exact kL _ rfl _ _ _ hG (lv_sub hl [2, 3, 1, 0] rfl)
set_option maxRecDepth 100000 in
set_option maxHeartbeats 4000000 in
theorem kb_X7_readInto_85 {x1 : Nat} {x2 : Int32} {x3 : Int32} {x4 : Int32} {x5 : Int32} {s0 : Int32} {w : WX} {r : (Int32 × Int32 × WX) ⊕ ((Int32 × WX) ⊕ (Int32 × WX) ⊕ (WX))} {H : Heap} {locs : List Loc} {ls : Array Slot} (C : CX p s m args meth c cX7_readInto 7 RX7 wc_X7_readInto (some .int)) (h1 : KDx x1 = (6, 3)) (hG : Gd s G A 153 B (entX G B w) X H locs) (hl : lv_has ls 7 [(0, .ref (B + 109)), (1, .ref (B + x1)), (2, .int x2), (3, .int x3), (4, .int x4), (5, .int x5)]) (hf : sh_X7_readInto_j85 x1 x2 x3 x4 x5 s0 w = some r)
    (kL : ∀ st' : Int32 × Int32 × WX, r = Sum.inl st' → ∀ (H : Heap) (locs : List Loc) (ls : Array Slot), Gd s G A 153 B (entX G B st'.2.2) X H locs → lv_has ls 7 [(0, .ref (B + 109)), (1, .ref (B + x1)), (2, .int st'.1), (3, .int st'.2.1)] → W p l e rm_X7_readInto s m args below meth c H locs 0 0 Q (F0 m 9 ls []))
    (kX0 : ∀ y' : Int32 × WX, r = Sum.inr (Sum.inl y') → ∀ (H : Heap) (locs : List Loc) (ls : Array Slot), Gd s G A 153 B (entX G B y'.2) X H locs → lv_has ls 7 [(3, .int y'.1)] → W p l e rm_X7_readInto s m args below meth c H locs 0 0 Q (F0 m 63 ls []))
    (kX1 : ∀ y' : Int32 × WX, r = Sum.inr (Sum.inr (Sum.inl y')) → ∀ (H : Heap) (locs : List Loc) (ls : Array Slot), Gd s G A 153 B (entX G B y'.2) X H locs → lv_has ls 7 [(3, .int y'.1)] → W p l e rm_X7_readInto s m args below meth c H locs 0 0 Q (F0 m 107 ls []))
    (kX2 : ∀ y' : WX, r = Sum.inr (Sum.inr (Sum.inr y')) → ∀ (H : Heap) (locs : List Loc) (ls : Array Slot), Gd s G A 153 B (entX G B y') X H locs → lv_has ls 7 [(0, .ref (B + 109))] → W p l e rm_X7_readInto s m args below meth c H locs 0 0 Q (F0 m 118 ls [])) :
    W p l e rm_X7_readInto s m args below meth c H locs 0 0 Q (F0 m 85 ls [.int s0]) := by
  refine lv_istore (lv' := [(6, .int s0), (0, .ref (B + 109)), (1, .ref (B + x1)), (2, .int x2), (3, .int x3), (4, .int x4), (5, .int x5)]) C.1 C.2.1 dX7_readInto_85 hl (by decide) rfl (fun ls hl => ?_)
  refine lv_aload_n C.1 C.2.1 dX7_readInto_87 rfl (lv_at hl 2 rfl) ?_
  refine lv_iload C.1 C.2.1 dX7_readInto_88 (lv_at hl 6 rfl) ?_
  rcases of_ite hf with ⟨c1, hf⟩ | ⟨c1, hf⟩
  · refine lv_if_eq (tgt := 98) C.1 C.2.1 dX7_readInto_90 (by decide) (fun _ => ?_) (fun q => absurd c1 q)
    refine lv_iload_n C.1 C.2.1 dX7_readInto_98 rfl (lv_at hl 3 rfl) ?_
    exact kb_X7_readInto_99 C h1 h1 hG (lv_sub hl [1, 2, 4, 5, 0] rfl) hf kL kX0 kX1 kX2
  · refine lv_if_eq (tgt := 98) C.1 C.2.1 dX7_readInto_90 (by decide) (fun q => absurd q c1) (fun _ => ?_)
    refine lv_iload C.1 C.2.1 dX7_readInto_93 (lv_at hl 5 rfl) ?_
    refine lv_goto (tgt := 99) C.1 C.2.1 dX7_readInto_95 (by decide) ?_
    exact kb_X7_readInto_99 C h1 h1 hG (lv_sub hl [1, 2, 4, 5, 0] rfl) hf kL kX0 kX1 kX2
set_option maxRecDepth 100000 in
set_option maxHeartbeats 4000000 in
theorem kb_X7_readInto_65 {x1 : Nat} {x2 : Int32} {x3 : Int32} {x4 : Int32} {x5 : Int32} {w : WX} {r : (Int32 × Int32 × WX) ⊕ ((Int32 × WX) ⊕ (Int32 × WX) ⊕ (WX))} {H : Heap} {locs : List Loc} {ls : Array Slot} (C : CX p s m args meth c cX7_readInto 7 RX7 wc_X7_readInto (some .int)) (h1 : KDx x1 = (6, 3)) (hG : Gd s G A 153 B (entX G B w) X H locs) (hl : lv_has ls 7 [(0, .ref (B + 109)), (1, .ref (B + x1)), (2, .int x2), (3, .int x3), (4, .int x4), (5, .int x5)]) (hf : sh_X7_readInto_j65 x1 x2 x3 x4 x5 w = some r)
    (kL : ∀ st' : Int32 × Int32 × WX, r = Sum.inl st' → ∀ (H : Heap) (locs : List Loc) (ls : Array Slot), Gd s G A 153 B (entX G B st'.2.2) X H locs → lv_has ls 7 [(0, .ref (B + 109)), (1, .ref (B + x1)), (2, .int st'.1), (3, .int st'.2.1)] → W p l e rm_X7_readInto s m args below meth c H locs 0 0 Q (F0 m 9 ls []))
    (kX0 : ∀ y' : Int32 × WX, r = Sum.inr (Sum.inl y') → ∀ (H : Heap) (locs : List Loc) (ls : Array Slot), Gd s G A 153 B (entX G B y'.2) X H locs → lv_has ls 7 [(3, .int y'.1)] → W p l e rm_X7_readInto s m args below meth c H locs 0 0 Q (F0 m 63 ls []))
    (kX1 : ∀ y' : Int32 × WX, r = Sum.inr (Sum.inr (Sum.inl y')) → ∀ (H : Heap) (locs : List Loc) (ls : Array Slot), Gd s G A 153 B (entX G B y'.2) X H locs → lv_has ls 7 [(3, .int y'.1)] → W p l e rm_X7_readInto s m args below meth c H locs 0 0 Q (F0 m 107 ls []))
    (kX2 : ∀ y' : WX, r = Sum.inr (Sum.inr (Sum.inr y')) → ∀ (H : Heap) (locs : List Loc) (ls : Array Slot), Gd s G A 153 B (entX G B y') X H locs → lv_has ls 7 [(0, .ref (B + 109))] → W p l e rm_X7_readInto s m args below meth c H locs 0 0 Q (F0 m 118 ls [])) :
    W p l e rm_X7_readInto s m args below meth c H locs 0 0 Q (F0 m 65 ls []) := by
  refine lv_iload C.1 C.2.1 dX7_readInto_65 (lv_at hl 5 rfl) ?_
  rcases of_ite hf with ⟨c1, hf⟩ | ⟨c1, hf⟩
  · refine lv_if_eq (tgt := 74) C.1 C.2.1 dX7_readInto_67 (by decide) (fun _ => ?_) (fun q => absurd c1 q)
    refine lv_aload_n C.1 C.2.1 dX7_readInto_74 rfl (lv_at hl 0 rfl) ?_
    refine gf_X7_9 C hG rfl dX7_readInto_75 ?_
    refine lv_iload_n C.1 C.2.1 dX7_readInto_78 rfl (lv_at hl 3 rfl) ?_
    obtain ⟨v2, hv2, hf⟩ := of_bind hf
    obtain ⟨bv2, ev2⟩ := of_ldS hv2
    refine r_iald C hG (c0 := 110) (by decide) (entX_I (n := 60) rfl) bv2 dX7_readInto_79 ?_
    refine r_top ev2 ?_
    refine lv_bipush (v := nI 48) C.1 C.2.1 dX7_readInto_80 (by decide) ?_
    refine lv_isub C.1 C.2.1 dX7_readInto_82 ?_
    refine lv_iconst (v := nI 1) C.1 C.2.1 dX7_readInto_83 (by decide) ?_
    refine lv_isub C.1 C.2.1 dX7_readInto_84 ?_
    exact kb_X7_readInto_85 C h1 hG hl hf kL kX0 kX1 kX2
  · refine lv_if_eq (tgt := 74) C.1 C.2.1 dX7_readInto_67 (by decide) (fun q => absurd q c1) (fun _ => ?_)
    refine lv_iconst (v := nI 1) C.1 C.2.1 dX7_readInto_70 (by decide) ?_
    refine lv_goto (tgt := 85) C.1 C.2.1 dX7_readInto_71 (by decide) ?_
    exact kb_X7_readInto_85 C h1 hG hl hf kL kX0 kX1 kX2
set_option maxRecDepth 100000 in
set_option maxHeartbeats 4000000 in
theorem kb_X7_readInto_39 {x1 : Nat} {x2 : Int32} {x3 : Int32} {x4 : Int32} {s0 : Int32} {w : WX} {r : (Int32 × Int32 × WX) ⊕ ((Int32 × WX) ⊕ (Int32 × WX) ⊕ (WX))} {H : Heap} {locs : List Loc} {ls : Array Slot} (C : CX p s m args meth c cX7_readInto 7 RX7 wc_X7_readInto (some .int)) (h1 : KDx x1 = (6, 3)) (hG : Gd s G A 153 B (entX G B w) X H locs) (hl : lv_has ls 7 [(0, .ref (B + 109)), (1, .ref (B + x1)), (2, .int x2), (3, .int x3), (4, .int x4)]) (hf : sh_X7_readInto_j39 x1 x2 x3 x4 s0 w = some r)
    (kL : ∀ st' : Int32 × Int32 × WX, r = Sum.inl st' → ∀ (H : Heap) (locs : List Loc) (ls : Array Slot), Gd s G A 153 B (entX G B st'.2.2) X H locs → lv_has ls 7 [(0, .ref (B + 109)), (1, .ref (B + x1)), (2, .int st'.1), (3, .int st'.2.1)] → W p l e rm_X7_readInto s m args below meth c H locs 0 0 Q (F0 m 9 ls []))
    (kX0 : ∀ y' : Int32 × WX, r = Sum.inr (Sum.inl y') → ∀ (H : Heap) (locs : List Loc) (ls : Array Slot), Gd s G A 153 B (entX G B y'.2) X H locs → lv_has ls 7 [(3, .int y'.1)] → W p l e rm_X7_readInto s m args below meth c H locs 0 0 Q (F0 m 63 ls []))
    (kX1 : ∀ y' : Int32 × WX, r = Sum.inr (Sum.inr (Sum.inl y')) → ∀ (H : Heap) (locs : List Loc) (ls : Array Slot), Gd s G A 153 B (entX G B y'.2) X H locs → lv_has ls 7 [(3, .int y'.1)] → W p l e rm_X7_readInto s m args below meth c H locs 0 0 Q (F0 m 107 ls []))
    (kX2 : ∀ y' : WX, r = Sum.inr (Sum.inr (Sum.inr y')) → ∀ (H : Heap) (locs : List Loc) (ls : Array Slot), Gd s G A 153 B (entX G B y') X H locs → lv_has ls 7 [(0, .ref (B + 109))] → W p l e rm_X7_readInto s m args below meth c H locs 0 0 Q (F0 m 118 ls [])) :
    W p l e rm_X7_readInto s m args below meth c H locs 0 0 Q (F0 m 39 ls [.int s0]) := by
  refine lv_istore (lv' := [(5, .int s0), (0, .ref (B + 109)), (1, .ref (B + x1)), (2, .int x2), (3, .int x3), (4, .int x4)]) C.1 C.2.1 dX7_readInto_39 hl (by decide) rfl (fun ls hl => ?_)
  refine lv_iload C.1 C.2.1 dX7_readInto_41 (lv_at hl 0 rfl) ?_
  rcases of_ite hf with ⟨c1, hf⟩ | ⟨c1, hf⟩
  · refine lv_if_ne (tgt := 65) C.1 C.2.1 dX7_readInto_43 (by decide) (fun q => absurd c1 q) (fun _ => ?_)
    refine lv_iload_n C.1 C.2.1 dX7_readInto_46 rfl (lv_at hl 3 rfl) ?_
    refine lv_iconst (v := (-1 : Int32)) C.1 C.2.1 dX7_readInto_47 (by decide) ?_
    rcases of_ite hf with ⟨c2, hf⟩ | ⟨c2, hf⟩
    · refine lv_icmp_eq (tgt := 63) C.1 C.2.1 dX7_readInto_48 (by decide) (fun _ => ?_) (fun q => absurd c2 q)
      obtain rfl := Option.some.inj hf
      exact kX0 _ rfl _ _ _ hG (lv_sub hl [4] rfl)
    · refine lv_icmp_eq (tgt := 63) C.1 C.2.1 dX7_readInto_48 (by decide) (fun q => absurd q c2) (fun _ => ?_)
      refine lv_aload_n C.1 C.2.1 dX7_readInto_51 rfl (lv_at hl 1 rfl) ?_
      refine gf_X7_9 C hG rfl dX7_readInto_52 ?_
      refine lv_iload_n C.1 C.2.1 dX7_readInto_55 rfl (lv_at hl 4 rfl) ?_
      obtain ⟨v3, hv3, hf⟩ := of_bind hf
      obtain ⟨bv3, ev3⟩ := of_ldS hv3
      refine r_iald C hG (c0 := 110) (by decide) (entX_I (n := 60) rfl) bv3 dX7_readInto_56 ?_
      refine r_top ev3 ?_
      obtain ⟨v4, hv4, hf⟩ := of_bind hf
      refine r_callS1 C hG hl.1 (As := [.int v3]) (mt_X7_isTimes l  hv4) (va_cwS 1 C.2.2.2.2.1 (gd_S tg_2_220 tg_2_221 tg_1_6 tg_2_222) rfl rfl rfl cd_X7_isTimes.2 ⟨Nat.le_of_ble_eq_true rfl, Nat.le_of_ble_eq_true rfl⟩) rfl rfl (Nat.le_of_ble_eq_true rfl) dX7_readInto_57 (fun H locs hG => ?_)
      rcases of_ite hf with ⟨c5, hf⟩ | ⟨c5, hf⟩
      · refine lv_if_ne (tgt := 65) C.1 C.2.1 dX7_readInto_60 (by decide) (fun q => absurd c5 q) (fun _ => ?_)
        obtain rfl := Option.some.inj hf
        exact kX0 _ rfl _ _ _ hG (lv_sub hl [4] rfl)
      · refine lv_if_ne (tgt := 65) C.1 C.2.1 dX7_readInto_60 (by decide) (fun _ => ?_) (fun q => absurd q c5)
        exact kb_X7_readInto_65 C h1 hG (lv_sub hl [1, 2, 3, 4, 5, 0] rfl) hf kL kX0 kX1 kX2
  · refine lv_if_ne (tgt := 65) C.1 C.2.1 dX7_readInto_43 (by decide) (fun _ => ?_) (fun q => absurd q c1)
    exact kb_X7_readInto_65 C h1 hG (lv_sub hl [1, 2, 3, 4, 5, 0] rfl) hf kL kX0 kX1 kX2
set_option maxRecDepth 100000 in
set_option maxHeartbeats 4000000 in
theorem kb_X7_readInto_9 {x1 : Nat} {st : Int32 × Int32 × WX} {r : (Int32 × Int32 × WX) ⊕ ((Int32 × WX) ⊕ (Int32 × WX) ⊕ (WX))} {H : Heap} {locs : List Loc} {ls : Array Slot} (C : CX p s m args meth c cX7_readInto 7 RX7 wc_X7_readInto (some .int)) (h1 : KDx x1 = (6, 3)) (hG : Gd s G A 153 B (entX G B st.2.2) X H locs) (hl : lv_has ls 7 [(0, .ref (B + 109)), (1, .ref (B + x1)), (2, .int st.1), (3, .int st.2.1)]) (hf : sh_X7_readInto_s9 x1 st = some r)
    (kL : ∀ st' : Int32 × Int32 × WX, r = Sum.inl st' → ∀ (H : Heap) (locs : List Loc) (ls : Array Slot), Gd s G A 153 B (entX G B st'.2.2) X H locs → lv_has ls 7 [(0, .ref (B + 109)), (1, .ref (B + x1)), (2, .int st'.1), (3, .int st'.2.1)] → W p l e rm_X7_readInto s m args below meth c H locs 0 0 Q (F0 m 9 ls []))
    (kX0 : ∀ y' : Int32 × WX, r = Sum.inr (Sum.inl y') → ∀ (H : Heap) (locs : List Loc) (ls : Array Slot), Gd s G A 153 B (entX G B y'.2) X H locs → lv_has ls 7 [(3, .int y'.1)] → W p l e rm_X7_readInto s m args below meth c H locs 0 0 Q (F0 m 63 ls []))
    (kX1 : ∀ y' : Int32 × WX, r = Sum.inr (Sum.inr (Sum.inl y')) → ∀ (H : Heap) (locs : List Loc) (ls : Array Slot), Gd s G A 153 B (entX G B y'.2) X H locs → lv_has ls 7 [(3, .int y'.1)] → W p l e rm_X7_readInto s m args below meth c H locs 0 0 Q (F0 m 107 ls []))
    (kX2 : ∀ y' : WX, r = Sum.inr (Sum.inr (Sum.inr y')) → ∀ (H : Heap) (locs : List Loc) (ls : Array Slot), Gd s G A 153 B (entX G B y') X H locs → lv_has ls 7 [(0, .ref (B + 109))] → W p l e rm_X7_readInto s m args below meth c H locs 0 0 Q (F0 m 118 ls [])) :
    W p l e rm_X7_readInto s m args below meth c H locs 0 0 Q (F0 m 9 ls []) := by
  refine lv_iload_n C.1 C.2.1 dX7_readInto_9 rfl (lv_at hl 3 rfl) ?_
  refine lv_aload_n C.1 C.2.1 dX7_readInto_10 rfl (lv_at hl 0 rfl) ?_
  refine gf_X7_15 C hG rfl dX7_readInto_11 ?_
  rcases of_ite hf with ⟨c1, hf⟩ | ⟨c1, hf⟩
  · refine lv_icmp_ge (tgt := 118) C.1 C.2.1 dX7_readInto_14 (by decide) (fun _ => ?_) (fun q => absurd c1 q)
    obtain rfl := Option.some.inj hf
    exact kX2 _ rfl _ _ _ hG (lv_sub hl [0] rfl)
  · refine lv_icmp_ge (tgt := 118) C.1 C.2.1 dX7_readInto_14 (by decide) (fun q => absurd q c1) (fun _ => ?_)
    refine lv_aload_n C.1 C.2.1 dX7_readInto_17 rfl (lv_at hl 0 rfl) ?_
    refine gf_X7_9 C hG rfl dX7_readInto_18 ?_
    refine lv_iload_n C.1 C.2.1 dX7_readInto_21 rfl (lv_at hl 3 rfl) ?_
    obtain ⟨v2, hv2, hf⟩ := of_bind hf
    obtain ⟨bv2, ev2⟩ := of_ldS hv2
    refine r_iald C hG (c0 := 110) (by decide) (entX_I (n := 60) rfl) bv2 dX7_readInto_22 ?_
    refine r_top ev2 ?_
    obtain ⟨v3, hv3, hf⟩ := of_bind hf
    refine r_callS1 C hG hl.1 (As := [.int v2]) (mt_X7_pieceByLetter l  hv3) (va_cwS 1 C.2.2.2.2.1 (gd_S tg_2_215 tg_2_216 tg_1_6 tg_2_217) rfl rfl rfl cd_X7_pieceByLetter.2 ⟨Nat.le_of_ble_eq_true rfl, Nat.le_of_ble_eq_true rfl⟩) rfl rfl (Nat.le_of_ble_eq_true rfl) dX7_readInto_23 (fun H locs hG => ?_)
    refine lv_istore (lv' := [(4, .int v3), (0, .ref (B + 109)), (1, .ref (B + x1)), (2, .int st.1), (3, .int st.2.1)]) C.1 C.2.1 dX7_readInto_26 hl (by decide) rfl (fun ls hl => ?_)
    refine lv_iload C.1 C.2.1 dX7_readInto_28 (lv_at hl 0 rfl) ?_
    refine lv_iconst (v := (-1 : Int32)) C.1 C.2.1 dX7_readInto_30 (by decide) ?_
    rcases of_ite hf with ⟨c4, hf⟩ | ⟨c4, hf⟩
    · refine lv_icmp_eq (tgt := 38) C.1 C.2.1 dX7_readInto_31 (by decide) (fun _ => ?_) (fun q => absurd c4 q)
      refine lv_iconst (v := nI 0) C.1 C.2.1 dX7_readInto_38 (by decide) ?_
      exact kb_X7_readInto_39 C h1 hG (lv_sub hl [1, 2, 3, 4, 0] rfl) hf kL kX0 kX1 kX2
    · refine lv_icmp_eq (tgt := 38) C.1 C.2.1 dX7_readInto_31 (by decide) (fun q => absurd q c4) (fun _ => ?_)
      refine lv_iconst (v := nI 1) C.1 C.2.1 dX7_readInto_34 (by decide) ?_
      refine lv_goto (tgt := 39) C.1 C.2.1 dX7_readInto_35 (by decide) ?_
      exact kb_X7_readInto_39 C h1 hG (lv_sub hl [1, 2, 3, 4, 0] rfl) hf kL kX0 kX1 kX2
set_option maxRecDepth 100000 in
set_option maxHeartbeats 4000000 in
theorem kl_X7_readInto_9 {x1 : Nat} (C : CX p s m args meth c cX7_readInto 7 RX7 wc_X7_readInto (some .int)) (h1 : KDx x1 = (6, 3)) : ∀ (n : Nat) (st : Int32 × Int32 × WX) (x : (Int32 × WX) ⊕ (Int32 × WX) ⊕ (WX)) (H : Heap) (locs : List Loc) (ls : Array Slot), Gd s G A 153 B (entX G B st.2.2) X H locs → lv_has ls 7 [(0, .ref (B + 109)), (1, .ref (B + x1)), (2, .int st.1), (3, .int st.2.1)] → lpw (sh_X7_readInto_s9 x1) n st = some x →
    (∀ y' : Int32 × WX, x = (Sum.inl y') → ∀ (H : Heap) (locs : List Loc) (ls : Array Slot), Gd s G A 153 B (entX G B y'.2) X H locs → lv_has ls 7 [(3, .int y'.1)] → W p l e rm_X7_readInto s m args below meth c H locs 0 0 Q (F0 m 63 ls [])) →
    (∀ y' : Int32 × WX, x = (Sum.inr (Sum.inl y')) → ∀ (H : Heap) (locs : List Loc) (ls : Array Slot), Gd s G A 153 B (entX G B y'.2) X H locs → lv_has ls 7 [(3, .int y'.1)] → W p l e rm_X7_readInto s m args below meth c H locs 0 0 Q (F0 m 107 ls [])) →
    (∀ y' : WX, x = (Sum.inr (Sum.inr y')) → ∀ (H : Heap) (locs : List Loc) (ls : Array Slot), Gd s G A 153 B (entX G B y') X H locs → lv_has ls 7 [(0, .ref (B + 109))] → W p l e rm_X7_readInto s m args below meth c H locs 0 0 Q (F0 m 118 ls [])) → W p l e rm_X7_readInto s m args below meth c H locs 0 0 Q (F0 m 9 ls []) := by
  intro n
  induction n with
  | zero =>
    intro st x H locs ls hG hl hf
    cases hf
  | succ n ih =>
    intro st x H locs ls hG hl hf kX0 kX1 kX2
    obtain ⟨r, hr, hh⟩ := of_lpw hf
    refine kb_X7_readInto_9 C h1 hG hl hr (fun st2 e1 H locs ls hG hl => ?_) (fun y2 e1 H locs ls hG hl => ?_) (fun y2 e1 H locs ls hG hl => ?_) (fun y2 e1 H locs ls hG hl => ?_)
    · rcases hh with ⟨s3, e2, hh⟩ | e2
      · rw [e2] at e1
        cases e1
        exact ih _ _ _ _ _ hG hl hh kX0 kX1 kX2
      · rw [e2] at e1
        cases e1
    · rcases hh with ⟨s3, e2, hh⟩ | e2
      · rw [e2] at e1
        cases e1
      · rw [e2] at e1
        cases e1
        exact kX0 _ rfl _ _ _ hG hl
    · rcases hh with ⟨s3, e2, hh⟩ | e2
      · rw [e2] at e1
        cases e1
      · rw [e2] at e1
        cases e1
        exact kX1 _ rfl _ _ _ hG hl
    · rcases hh with ⟨s3, e2, hh⟩ | e2
      · rw [e2] at e1
        cases e1
      · rw [e2] at e1
        cases e1
        exact kX2 _ rfl _ _ _ hG hl
set_option maxRecDepth 100000 in
set_option maxHeartbeats 4000000 in
theorem kb_X7_readInto_0 {x1 : Nat} {w : WX} {out : Int32 × WX} {H : Heap} {locs : List Loc} {ls : Array Slot} (C : CX p s m args meth c cX7_readInto 7 RX7 wc_X7_readInto (some .int)) (h1 : KDx x1 = (6, 3)) (hG : Gd s G A 153 B (entX G B w) X H locs) (hl : lv_has ls 7 [(0, .ref (B + 109)), (1, .ref (B + x1))]) (hf : sh_X7_readInto x1 w = some out) :
    W p l e rm_X7_readInto s m args below meth c H locs 0 0 (MQ below (CPost G A 153 B (entX G B out.2) X (some (.int out.1))) args s 0 0 A) (F0 m 0 ls []) := by
  refine lv_aload_n C.1 C.2.1 dX7_readInto_0 rfl (lv_at hl 1 rfl) ?_
  refine lv_iconst (v := nI 0) C.1 C.2.1 dX7_readInto_1 (by decide) ?_
  obtain ⟨w1, hw1, hf⟩ := of_bind hf
  refine r_callV0 C hG hl.1 (c0 := x1) (As := [.int (nI 0)]) (kdx_lt h1 (by decide)) (entX_O6 h1) rfl (mt_X6_keepFirst l h1 hw1) (cwV 1 C.2.2.2.2.1 (gd_V tg_2_203 tg_2_204 tg_2_205 tg_1_5 tg_2_206) rfl rfl rfl cd_X6_keepFirst ⟨Nat.le_of_ble_eq_true rfl, Nat.le_of_ble_eq_true rfl⟩) rfl rfl (Nat.le_of_ble_eq_true rfl) dX7_readInto_2 (fun H locs hG => ?_)
  refine lv_iconst (v := (-1 : Int32)) C.1 C.2.1 dX7_readInto_5 (by decide) ?_
  refine lv_istore_n (lv' := [(2, .int (-1 : Int32)), (0, .ref (B + 109)), (1, .ref (B + x1))]) C.1 C.2.1 dX7_readInto_6 rfl hl (by decide) rfl (fun ls hl => ?_)
  refine lv_iconst (v := nI 0) C.1 C.2.1 dX7_readInto_7 (by decide) ?_
  refine lv_istore_n (lv' := [(3, .int (nI 0)), (2, .int (-1 : Int32)), (0, .ref (B + 109)), (1, .ref (B + x1))]) C.1 C.2.1 dX7_readInto_8 rfl hl (by decide) rfl (fun ls hl => ?_)
  obtain ⟨ex2, hex2, hf⟩ := of_bind hf
  refine kl_X7_readInto_9 C h1 FU ((-1 : Int32), nI 0, w1) ex2 _ _ _ hG (lv_sub hl [2, 3, 1, 0] rfl) hex2 (fun y3 e0 H locs ls hG hl => ?_) (fun y4 e0 H locs ls hG hl => ?_) (fun y5 e0 H locs ls hG hl => ?_)
  · subst e0
    simp only [Sum.elim_inl, Sum.elim_inr] at hf
    refine lv_iload_n C.1 C.2.1 dX7_readInto_63 rfl (lv_at hl 0 rfl) ?_
    obtain rfl := Option.some.inj hf
    exact r_iret C hG dX7_readInto_64
  · subst e0
    simp only [Sum.elim_inl, Sum.elim_inr] at hf
    refine lv_iload_n C.1 C.2.1 dX7_readInto_107 rfl (lv_at hl 0 rfl) ?_
    obtain rfl := Option.some.inj hf
    exact r_iret C hG dX7_readInto_108
  · subst e0
    simp only [Sum.elim_inl, Sum.elim_inr] at hf
    refine lv_aload_n C.1 C.2.1 dX7_readInto_118 rfl (lv_at hl 0 rfl) ?_
    refine gf_X7_15 C hG rfl dX7_readInto_119 ?_
    rcases of_ite hf with ⟨c6, hf⟩ | ⟨c6, hf⟩
    · refine lv_if_ne (tgt := 129) C.1 C.2.1 dX7_readInto_122 (by decide) (fun q => absurd c6 q) (fun _ => ?_)
      refine lv_iconst (v := nI 0) C.1 C.2.1 dX7_readInto_125 (by decide) ?_
      refine lv_goto (tgt := 130) C.1 C.2.1 dX7_readInto_126 (by decide) ?_
      obtain rfl := Option.some.inj hf
      exact r_iret C hG dX7_readInto_130
    · refine lv_if_ne (tgt := 129) C.1 C.2.1 dX7_readInto_122 (by decide) (fun _ => ?_) (fun q => absurd q c6)
      refine lv_iconst (v := (-1 : Int32)) C.1 C.2.1 dX7_readInto_129 (by decide) ?_
      obtain rfl := Option.some.inj hf
      exact r_iret C hG dX7_readInto_130
set_option maxRecDepth 100000 in
set_option maxHeartbeats 4000000 in
theorem mt_X7_readInto (l : Launch) {G : GG} {A : Nat → Prop} {B : Nat} {X : va_W} {x1 : Nat} {w : WX} {out : Int32 × WX} (h1 : KDx x1 = (6, 3)) (hf : sh_X7_readInto x1 w = some out) : MetW l yX7_readInto wc_X7_readInto rm_X7_readInto G A 153 B (entX G B w) X [.ref (B + 109), .ref (B + x1)] (some (.int out.1)) (entX G B out.2) := by
  refine Met.ofW (cc := cX7_readInto) (maxL := 7) (ret := (some .int)) (by decide) rfl ?_
  intro p e s m args below meth c s₁ B0 hml hv
  obtain ⟨rfl, hEv, hWd⟩ := hv
  have C : CX p s m _ meth c cX7_readInto 7 RX7 wc_X7_readInto (some .int) := ⟨B0.exec, B0.bytes, hml, findClass_of_methodNamed B0.named, atoms_spec (ws := wc_X7_readInto) B0.pre, B0.returns, B0.notSynchronized⟩
  have hl := lv_entry [.ref (B + 109), .ref (B + x1)] (n := 7) (Nat.le_of_ble_eq_true rfl)
  rw [lg_entry_eq]
  generalize (lg_sl [.ref (B + 109), .ref (B + x1)] ++ List.replicate (7 - (lg_sl [.ref (B + 109), .ref (B + x1)]).length) Slot.unset).toArray = ls at hl ⊢
  have hl : lv_has ls 7 [(0, .ref (B + 109)), (1, .ref (B + x1))] := hl
  exact kb_X7_readInto_0 C h1 ⟨hEv, hWd, va_S.rf⟩ hl hf
abbrev wc_X8_isFigure : List Cond := Cond.code yX8_isFigure cX8_isFigure 1 (some .boolean) :: TG
abbrev rm_X8_isFigure : Room := { frames := 2, cells := 0, slots := 0, locals := 100 }
theorem cd_X8_isFigure : yX8_isFigure.cls = RX8 ∧ yX8_isFigure.cls ≠ "java/lang/invoke/MethodHandle" ∧ yX8_isFigure.cls ≠ "java/lang/invoke/VarHandle" ∧ (parseMethodDescriptor yX8_isFigure.desc).map (fun d => d.parameters.length) = some 1 := by decide +kernel
theorem dX8_isFigure_0 : decode cX8_isFigure 0 = .ok (.iload_n 0, 1) := by decide +kernel
theorem dX8_isFigure_1 : decode cX8_isFigure 1 = .ok (.ifCond .lt 13, 3) := by decide +kernel
theorem dX8_isFigure_4 : decode cX8_isFigure 4 = .ok (.iload_n 0, 1) := by decide +kernel
theorem dX8_isFigure_5 : decode cX8_isFigure 5 = .ok (.bipush 9, 2) := by decide +kernel
theorem dX8_isFigure_7 : decode cX8_isFigure 7 = .ok (.if_icmp .gt 7, 3) := by decide +kernel
theorem dX8_isFigure_10 : decode cX8_isFigure 10 = .ok (.iconst 1, 1) := by decide +kernel
theorem dX8_isFigure_11 : decode cX8_isFigure 11 = .ok (.goto 4, 3) := by decide +kernel
theorem dX8_isFigure_14 : decode cX8_isFigure 14 = .ok (.iconst 0, 1) := by decide +kernel
theorem dX8_isFigure_15 : decode cX8_isFigure 15 = .ok (.ireturn, 1) := by decide +kernel
set_option maxRecDepth 100000 in
set_option maxHeartbeats 4000000 in
theorem kb_X8_isFigure_0 {x0 : Int32} {out : Int32} {H : Heap} {locs : List Loc} {ls : Array Slot} (C : CX p s m args meth c cX8_isFigure 1 RX8 wc_X8_isFigure (some .boolean))  (hG : Gd s G A N B E X H locs) (hl : lv_has ls 1 [(0, .int x0)]) (hf : sh_X8_isFigure x0 = some out) :
    W p l e rm_X8_isFigure s m args below meth c H locs 0 0 (MQ below (CPost G A N B E X (some (.int out))) args s 0 0 A) (F0 m 0 ls []) := by
  refine lv_iload_n C.1 C.2.1 dX8_isFigure_0 rfl (lv_at hl 0 rfl) ?_
  rcases of_ite hf with ⟨c1, hf⟩ | ⟨c1, hf⟩
  · refine lv_if_lt (tgt := 14) C.1 C.2.1 dX8_isFigure_1 (by decide) (fun _ => ?_) (fun q => absurd c1 q)
    refine lv_iconst (v := nI 0) C.1 C.2.1 dX8_isFigure_14 (by decide) ?_
    obtain rfl := Option.some.inj hf
    exact r_zret C hG (Or.inl rfl) dX8_isFigure_15
  · refine lv_if_lt (tgt := 14) C.1 C.2.1 dX8_isFigure_1 (by decide) (fun q => absurd q c1) (fun _ => ?_)
    refine lv_iload_n C.1 C.2.1 dX8_isFigure_4 rfl (lv_at hl 0 rfl) ?_
    refine lv_bipush (v := nI 9) C.1 C.2.1 dX8_isFigure_5 (by decide) ?_
    rcases of_ite hf with ⟨c2, hf⟩ | ⟨c2, hf⟩
    · refine lv_icmp_gt (tgt := 14) C.1 C.2.1 dX8_isFigure_7 (by decide) (fun _ => ?_) (fun q => absurd c2 q)
      refine lv_iconst (v := nI 0) C.1 C.2.1 dX8_isFigure_14 (by decide) ?_
      obtain rfl := Option.some.inj hf
      exact r_zret C hG (Or.inl rfl) dX8_isFigure_15
    · refine lv_icmp_gt (tgt := 14) C.1 C.2.1 dX8_isFigure_7 (by decide) (fun q => absurd q c2) (fun _ => ?_)
      refine lv_iconst (v := nI 1) C.1 C.2.1 dX8_isFigure_10 (by decide) ?_
      refine lv_goto (tgt := 15) C.1 C.2.1 dX8_isFigure_11 (by decide) ?_
      obtain rfl := Option.some.inj hf
      exact r_zret C hG (Or.inr rfl) dX8_isFigure_15
set_option maxRecDepth 100000 in
set_option maxHeartbeats 4000000 in
theorem mt_X8_isFigure (l : Launch) {G : GG} {A : Nat → Prop} {N B : Nat} {E : Nat → va_E} {X : va_W} {x0 : Int32} {out : Int32}  (hf : sh_X8_isFigure x0 = some out) : MetW l yX8_isFigure wc_X8_isFigure rm_X8_isFigure G A N B E X [.int x0] (some (.int out)) E := by
  refine Met.ofW (cc := cX8_isFigure) (maxL := 1) (ret := (some .boolean)) (by decide) rfl ?_
  intro p e s m args below meth c s₁ B0 hml hv
  obtain ⟨rfl, hEv, hWd⟩ := hv
  have C : CX p s m _ meth c cX8_isFigure 1 RX8 wc_X8_isFigure (some .boolean) := ⟨B0.exec, B0.bytes, hml, findClass_of_methodNamed B0.named, atoms_spec (ws := wc_X8_isFigure) B0.pre, B0.returns, B0.notSynchronized⟩
  have hl := lv_entry [.int x0] (n := 1) (Nat.le_of_ble_eq_true rfl)
  rw [lg_entry_eq]
  generalize (lg_sl [.int x0] ++ List.replicate (1 - (lg_sl [.int x0]).length) Slot.unset).toArray = ls at hl ⊢
  have hl : lv_has ls 1 [(0, .int x0)] := hl
  exact kb_X8_isFigure_0 C  ⟨hEv, hWd, va_S.rf⟩ hl hf
abbrev wc_X8_mostSize : List Cond := Cond.code yX8_mostSize cX8_mostSize 1 (some .int) :: TG
abbrev rm_X8_mostSize : Room := { frames := 2, cells := 0, slots := 0, locals := 100 }
theorem cd_X8_mostSize : yX8_mostSize.cls = RX8 ∧ yX8_mostSize.cls ≠ "java/lang/invoke/MethodHandle" ∧ yX8_mostSize.cls ≠ "java/lang/invoke/VarHandle" ∧ (parseMethodDescriptor yX8_mostSize.desc).map (fun d => d.parameters.length) = some 1 := by decide +kernel
theorem dX8_mostSize_0 : decode cX8_mostSize 0 = .ok (.iload_n 0, 1) := by decide +kernel
theorem dX8_mostSize_1 : decode cX8_mostSize 1 = .ok (.iconst 4, 1) := by decide +kernel
theorem dX8_mostSize_2 : decode cX8_mostSize 2 = .ok (.if_icmp .ne 7, 3) := by decide +kernel
theorem dX8_mostSize_5 : decode cX8_mostSize 5 = .ok (.iconst 2, 1) := by decide +kernel
theorem dX8_mostSize_6 : decode cX8_mostSize 6 = .ok (.goto 5, 3) := by decide +kernel
theorem dX8_mostSize_9 : decode cX8_mostSize 9 = .ok (.bipush 6, 2) := by decide +kernel
theorem dX8_mostSize_11 : decode cX8_mostSize 11 = .ok (.ireturn, 1) := by decide +kernel
set_option maxRecDepth 100000 in
set_option maxHeartbeats 4000000 in
theorem kb_X8_mostSize_0 {x0 : Int32} {out : Int32} {H : Heap} {locs : List Loc} {ls : Array Slot} (C : CX p s m args meth c cX8_mostSize 1 RX8 wc_X8_mostSize (some .int))  (hG : Gd s G A N B E X H locs) (hl : lv_has ls 1 [(0, .int x0)]) (hf : sh_X8_mostSize x0 = some out) :
    W p l e rm_X8_mostSize s m args below meth c H locs 0 0 (MQ below (CPost G A N B E X (some (.int out))) args s 0 0 A) (F0 m 0 ls []) := by
  refine lv_iload_n C.1 C.2.1 dX8_mostSize_0 rfl (lv_at hl 0 rfl) ?_
  refine lv_iconst (v := nI 4) C.1 C.2.1 dX8_mostSize_1 (by decide) ?_
  rcases of_ite hf with ⟨c1, hf⟩ | ⟨c1, hf⟩
  · refine lv_icmp_ne (tgt := 9) C.1 C.2.1 dX8_mostSize_2 (by decide) (fun q => absurd c1 q) (fun _ => ?_)
    refine lv_iconst (v := nI 2) C.1 C.2.1 dX8_mostSize_5 (by decide) ?_
    refine lv_goto (tgt := 11) C.1 C.2.1 dX8_mostSize_6 (by decide) ?_
    obtain rfl := Option.some.inj hf
    exact r_iret C hG dX8_mostSize_11
  · refine lv_icmp_ne (tgt := 9) C.1 C.2.1 dX8_mostSize_2 (by decide) (fun _ => ?_) (fun q => absurd q c1)
    refine lv_bipush (v := nI 6) C.1 C.2.1 dX8_mostSize_9 (by decide) ?_
    obtain rfl := Option.some.inj hf
    exact r_iret C hG dX8_mostSize_11
set_option maxRecDepth 100000 in
set_option maxHeartbeats 4000000 in
theorem mt_X8_mostSize (l : Launch) {G : GG} {A : Nat → Prop} {N B : Nat} {E : Nat → va_E} {X : va_W} {x0 : Int32} {out : Int32}  (hf : sh_X8_mostSize x0 = some out) : MetW l yX8_mostSize wc_X8_mostSize rm_X8_mostSize G A N B E X [.int x0] (some (.int out)) E := by
  refine Met.ofW (cc := cX8_mostSize) (maxL := 1) (ret := (some .int)) (by decide) rfl ?_
  intro p e s m args below meth c s₁ B0 hml hv
  obtain ⟨rfl, hEv, hWd⟩ := hv
  have C : CX p s m _ meth c cX8_mostSize 1 RX8 wc_X8_mostSize (some .int) := ⟨B0.exec, B0.bytes, hml, findClass_of_methodNamed B0.named, atoms_spec (ws := wc_X8_mostSize) B0.pre, B0.returns, B0.notSynchronized⟩
  have hl := lv_entry [.int x0] (n := 1) (Nat.le_of_ble_eq_true rfl)
  rw [lg_entry_eq]
  generalize (lg_sl [.int x0] ++ List.replicate (1 - (lg_sl [.int x0]).length) Slot.unset).toArray = ls at hl ⊢
  have hl : lv_has ls 1 [(0, .int x0)] := hl
  exact kb_X8_mostSize_0 C  ⟨hEv, hWd, va_S.rf⟩ hl hf
abbrev wc_X8_algebra : List Cond := Cond.code yX8_algebra cX8_algebra 4 (some .int) :: TG
abbrev rm_X8_algebra : Room := { frames := 6, cells := 0, slots := 0, locals := 193 }
theorem cd_X8_algebra : yX8_algebra.cls = RX8 ∧ yX8_algebra.cls ≠ "java/lang/invoke/MethodHandle" ∧ yX8_algebra.cls ≠ "java/lang/invoke/VarHandle" ∧ (parseMethodDescriptor yX8_algebra.desc).map (fun d => d.parameters.length) = some 3 := by decide +kernel
theorem dX8_algebra_0 : decode cX8_algebra 0 = .ok (.iload_n 1, 1) := by decide +kernel
theorem dX8_algebra_1 : decode cX8_algebra 1 = .ok (.ifCond .lt 8, 3) := by decide +kernel
theorem dX8_algebra_4 : decode cX8_algebra 4 = .ok (.iload_n 1, 1) := by decide +kernel
theorem dX8_algebra_5 : decode cX8_algebra 5 = .ok (.iconst 4, 1) := by decide +kernel
theorem dX8_algebra_6 : decode cX8_algebra 6 = .ok (.if_icmp .le 5, 3) := by decide +kernel
theorem dX8_algebra_9 : decode cX8_algebra 9 = .ok (.iconst (-1), 1) := by decide +kernel
theorem dX8_algebra_10 : decode cX8_algebra 10 = .ok (.ireturn, 1) := by decide +kernel
theorem dX8_algebra_11 : decode cX8_algebra 11 = .ok (.iload_n 2, 1) := by decide +kernel
theorem dX8_algebra_12 : decode cX8_algebra 12 = .ok (.iconst 1, 1) := by decide +kernel
theorem dX8_algebra_13 : decode cX8_algebra 13 = .ok (.if_icmp .lt 18, 3) := by decide +kernel
theorem dX8_algebra_16 : decode cX8_algebra 16 = .ok (.iload_n 2, 1) := by decide +kernel
theorem dX8_algebra_17 : decode cX8_algebra 17 = .ok (.iload_n 1, 1) := by decide +kernel
theorem dX8_algebra_18 : decode cX8_algebra 18 = .ok (.invokestatic 73, 3) := by decide +kernel
theorem dX8_algebra_21 : decode cX8_algebra 21 = .ok (.if_icmp .gt 10, 3) := by decide +kernel
theorem dX8_algebra_24 : decode cX8_algebra 24 = .ok (.iload_n 3, 1) := by decide +kernel
theorem dX8_algebra_25 : decode cX8_algebra 25 = .ok (.invokestatic 77, 3) := by decide +kernel
theorem dX8_algebra_28 : decode cX8_algebra 28 = .ok (.ifCond .ne 6, 3) := by decide +kernel
theorem dX8_algebra_31 : decode cX8_algebra 31 = .ok (.bipush (-2), 2) := by decide +kernel
theorem dX8_algebra_33 : decode cX8_algebra 33 = .ok (.ireturn, 1) := by decide +kernel
theorem dX8_algebra_34 : decode cX8_algebra 34 = .ok (.aload_n 0, 1) := by decide +kernel
theorem dX8_algebra_35 : decode cX8_algebra 35 = .ok (.getfield 12, 3) := by decide +kernel
theorem dX8_algebra_38 : decode cX8_algebra 38 = .ok (.getfield 81, 3) := by decide +kernel
theorem dX8_algebra_41 : decode cX8_algebra 41 = .ok (.iconst 4, 1) := by decide +kernel
theorem dX8_algebra_42 : decode cX8_algebra 42 = .ok (.if_icmp .lt 6, 3) := by decide +kernel
theorem dX8_algebra_45 : decode cX8_algebra 45 = .ok (.bipush (-4), 2) := by decide +kernel
theorem dX8_algebra_47 : decode cX8_algebra 47 = .ok (.ireturn, 1) := by decide +kernel
theorem dX8_algebra_48 : decode cX8_algebra 48 = .ok (.aload_n 0, 1) := by decide +kernel
theorem dX8_algebra_49 : decode cX8_algebra 49 = .ok (.getfield 12, 3) := by decide +kernel
theorem dX8_algebra_52 : decode cX8_algebra 52 = .ok (.getfield 85, 3) := by decide +kernel
theorem dX8_algebra_55 : decode cX8_algebra 55 = .ok (.aload_n 0, 1) := by decide +kernel
theorem dX8_algebra_56 : decode cX8_algebra 56 = .ok (.getfield 12, 3) := by decide +kernel
theorem dX8_algebra_59 : decode cX8_algebra 59 = .ok (.getfield 81, 3) := by decide +kernel
theorem dX8_algebra_62 : decode cX8_algebra 62 = .ok (.aaload, 1) := by decide +kernel
theorem dX8_algebra_63 : decode cX8_algebra 63 = .ok (.iload_n 1, 1) := by decide +kernel
theorem dX8_algebra_64 : decode cX8_algebra 64 = .ok (.iload_n 2, 1) := by decide +kernel
theorem dX8_algebra_65 : decode cX8_algebra 65 = .ok (.iload_n 3, 1) := by decide +kernel
theorem dX8_algebra_66 : decode cX8_algebra 66 = .ok (.invokevirtual 89, 3) := by decide +kernel
theorem dX8_algebra_69 : decode cX8_algebra 69 = .ok (.aload_n 0, 1) := by decide +kernel
theorem dX8_algebra_70 : decode cX8_algebra 70 = .ok (.getfield 12, 3) := by decide +kernel
theorem dX8_algebra_73 : decode cX8_algebra 73 = .ok (.dup, 1) := by decide +kernel
theorem dX8_algebra_74 : decode cX8_algebra 74 = .ok (.getfield 81, 3) := by decide +kernel
theorem dX8_algebra_77 : decode cX8_algebra 77 = .ok (.iconst 1, 1) := by decide +kernel
theorem dX8_algebra_78 : decode cX8_algebra 78 = .ok (.iadd, 1) := by decide +kernel
theorem dX8_algebra_79 : decode cX8_algebra 79 = .ok (.putfield 81, 3) := by decide +kernel
theorem dX8_algebra_82 : decode cX8_algebra 82 = .ok (.aload_n 0, 1) := by decide +kernel
theorem dX8_algebra_83 : decode cX8_algebra 83 = .ok (.getfield 12, 3) := by decide +kernel
theorem dX8_algebra_86 : decode cX8_algebra 86 = .ok (.getfield 81, 3) := by decide +kernel
theorem dX8_algebra_89 : decode cX8_algebra 89 = .ok (.iconst 1, 1) := by decide +kernel
theorem dX8_algebra_90 : decode cX8_algebra 90 = .ok (.isub, 1) := by decide +kernel
theorem dX8_algebra_91 : decode cX8_algebra 91 = .ok (.ireturn, 1) := by decide +kernel
set_option maxRecDepth 100000 in
set_option maxHeartbeats 4000000 in
theorem kb_X8_algebra_0 {x1 : Int32} {x2 : Int32} {x3 : Int32} {w : WX} {out : Int32 × WX} {H : Heap} {locs : List Loc} {ls : Array Slot} (C : CX p s m args meth c cX8_algebra 4 RX8 wc_X8_algebra (some .int))  (hG : Gd s G A 153 B (entX G B w) X H locs) (hl : lv_has ls 4 [(0, .ref (B + 0)), (1, .int x1), (2, .int x2), (3, .int x3)]) (hf : sh_X8_algebra x1 x2 x3 w = some out) :
    W p l e rm_X8_algebra s m args below meth c H locs 0 0 (MQ below (CPost G A 153 B (entX G B out.2) X (some (.int out.1))) args s 0 0 A) (F0 m 0 ls []) := by
  refine lv_iload_n C.1 C.2.1 dX8_algebra_0 rfl (lv_at hl 1 rfl) ?_
  rcases of_ite hf with ⟨c1, hf⟩ | ⟨c1, hf⟩
  · refine lv_if_lt (tgt := 9) C.1 C.2.1 dX8_algebra_1 (by decide) (fun _ => ?_) (fun q => absurd c1 q)
    refine lv_iconst (v := (-1 : Int32)) C.1 C.2.1 dX8_algebra_9 (by decide) ?_
    obtain rfl := Option.some.inj hf
    exact r_iret C hG dX8_algebra_10
  · refine lv_if_lt (tgt := 9) C.1 C.2.1 dX8_algebra_1 (by decide) (fun q => absurd q c1) (fun _ => ?_)
    refine lv_iload_n C.1 C.2.1 dX8_algebra_4 rfl (lv_at hl 1 rfl) ?_
    refine lv_iconst (v := nI 4) C.1 C.2.1 dX8_algebra_5 (by decide) ?_
    rcases of_ite hf with ⟨c2, hf⟩ | ⟨c2, hf⟩
    · refine lv_icmp_le (tgt := 11) C.1 C.2.1 dX8_algebra_6 (by decide) (fun _ => ?_) (fun q => absurd c2 q)
      refine lv_iload_n C.1 C.2.1 dX8_algebra_11 rfl (lv_at hl 2 rfl) ?_
      refine lv_iconst (v := nI 1) C.1 C.2.1 dX8_algebra_12 (by decide) ?_
      rcases of_ite hf with ⟨c3, hf⟩ | ⟨c3, hf⟩
      · refine lv_icmp_lt (tgt := 31) C.1 C.2.1 dX8_algebra_13 (by decide) (fun _ => ?_) (fun q => absurd c3 q)
        refine lv_bipush (v := (-2 : Int32)) C.1 C.2.1 dX8_algebra_31 (by decide) ?_
        obtain rfl := Option.some.inj hf
        exact r_iret C hG dX8_algebra_33
      · refine lv_icmp_lt (tgt := 31) C.1 C.2.1 dX8_algebra_13 (by decide) (fun q => absurd q c3) (fun _ => ?_)
        refine lv_iload_n C.1 C.2.1 dX8_algebra_16 rfl (lv_at hl 2 rfl) ?_
        refine lv_iload_n C.1 C.2.1 dX8_algebra_17 rfl (lv_at hl 1 rfl) ?_
        obtain ⟨v4, hv4, hf⟩ := of_bind hf
        refine r_callS1 C hG hl.1 (As := [.int x1]) (mt_X8_mostSize l  hv4) (va_cwS 1 C.2.2.2.2.1 (gd_S tg_2_54 tg_2_55 tg_1_1 tg_2_56) rfl rfl rfl cd_X8_mostSize.2 ⟨Nat.le_of_ble_eq_true rfl, Nat.le_of_ble_eq_true rfl⟩) rfl rfl (Nat.le_of_ble_eq_true rfl) dX8_algebra_18 (fun H locs hG => ?_)
        rcases of_ite hf with ⟨c5, hf⟩ | ⟨c5, hf⟩
        · refine lv_icmp_gt (tgt := 31) C.1 C.2.1 dX8_algebra_21 (by decide) (fun _ => ?_) (fun q => absurd c5 q)
          refine lv_bipush (v := (-2 : Int32)) C.1 C.2.1 dX8_algebra_31 (by decide) ?_
          obtain rfl := Option.some.inj hf
          exact r_iret C hG dX8_algebra_33
        · refine lv_icmp_gt (tgt := 31) C.1 C.2.1 dX8_algebra_21 (by decide) (fun q => absurd q c5) (fun _ => ?_)
          refine lv_iload_n C.1 C.2.1 dX8_algebra_24 rfl (lv_at hl 3 rfl) ?_
          obtain ⟨v6, hv6, hf⟩ := of_bind hf
          refine r_callS1 C hG hl.1 (As := [.int x3]) (mt_X8_isFigure l  hv6) (va_cwS 1 C.2.2.2.2.1 (gd_S tg_2_57 tg_2_58 tg_1_1 tg_2_59) rfl rfl rfl cd_X8_isFigure.2 ⟨Nat.le_of_ble_eq_true rfl, Nat.le_of_ble_eq_true rfl⟩) rfl rfl (Nat.le_of_ble_eq_true rfl) dX8_algebra_25 (fun H locs hG => ?_)
          rcases of_ite hf with ⟨c7, hf⟩ | ⟨c7, hf⟩
          · refine lv_if_ne (tgt := 34) C.1 C.2.1 dX8_algebra_28 (by decide) (fun q => absurd c7 q) (fun _ => ?_)
            refine lv_bipush (v := (-2 : Int32)) C.1 C.2.1 dX8_algebra_31 (by decide) ?_
            obtain rfl := Option.some.inj hf
            exact r_iret C hG dX8_algebra_33
          · refine lv_if_ne (tgt := 34) C.1 C.2.1 dX8_algebra_28 (by decide) (fun _ => ?_) (fun q => absurd q c7)
            refine lv_aload_n C.1 C.2.1 dX8_algebra_34 rfl (lv_at hl 0 rfl) ?_
            refine gf_X8_12 C hG rfl dX8_algebra_35 ?_
            refine gf_X8_81 C hG rfl dX8_algebra_38 ?_
            refine lv_iconst (v := nI 4) C.1 C.2.1 dX8_algebra_41 (by decide) ?_
            rcases of_ite hf with ⟨c8, hf⟩ | ⟨c8, hf⟩
            · refine lv_icmp_lt (tgt := 48) C.1 C.2.1 dX8_algebra_42 (by decide) (fun _ => ?_) (fun q => absurd c8 q)
              refine lv_aload_n C.1 C.2.1 dX8_algebra_48 rfl (lv_at hl 0 rfl) ?_
              refine gf_X8_12 C hG rfl dX8_algebra_49 ?_
              refine gf_X8_85 C hG rfl dX8_algebra_52 ?_
              refine lv_aload_n C.1 C.2.1 dX8_algebra_55 rfl (lv_at hl 0 rfl) ?_
              refine gf_X8_12 C hG rfl dX8_algebra_56 ?_
              refine gf_X8_81 C hG rfl dX8_algebra_59 ?_
              obtain ⟨c9, hf⟩ := of_grd hf
              obtain ⟨c10, hf⟩ := of_grd hf
              refine r_aald C hG (c0 := (1 + 1)) (t0 := 2) rfl (kdx_lt (kx_4_0 rfl) (by decide)) (entX_A (kx_4_0 rfl)) c9 (rfX_at c9) dX8_algebra_62 ?_
              refine lv_iload_n C.1 C.2.1 dX8_algebra_63 rfl (lv_at hl 1 rfl) ?_
              refine lv_iload_n C.1 C.2.1 dX8_algebra_64 rfl (lv_at hl 2 rfl) ?_
              refine lv_iload_n C.1 C.2.1 dX8_algebra_65 rfl (lv_at hl 3 rfl) ?_
              obtain ⟨w11, hw11, hf⟩ := of_bind hf
              refine r_callV0 C hG hl.1 (c0 := (1 + 1) + 5 + 10 * (w.1 1 1).toNatClampNeg) (As := [.int x1, .int x2, .int x3]) (kdx_lt c10 (by decide)) (entX_O0 c10) rfl (mt_X0_make l c10 hw11) (cwV 3 C.2.2.2.2.1 (gd_V tg_2_60 tg_2_61 tg_2_62 tg_1_4 tg_2_63) rfl rfl rfl cd_X0_make ⟨Nat.le_of_ble_eq_true rfl, Nat.le_of_ble_eq_true rfl⟩) rfl rfl (Nat.le_of_ble_eq_true rfl) dX8_algebra_66 (fun H locs hG => ?_)
              refine lv_aload_n C.1 C.2.1 dX8_algebra_69 rfl (lv_at hl 0 rfl) ?_
              refine gf_X8_12 C hG rfl dX8_algebra_70 ?_
              refine lv_dup C.1 C.2.1 dX8_algebra_73 rfl ?_
              refine gf_X8_81 C hG rfl dX8_algebra_74 ?_
              refine lv_iconst (v := nI 1) C.1 C.2.1 dX8_algebra_77 (by decide) ?_
              refine lv_iadd C.1 C.2.1 dX8_algebra_78 ?_
              obtain ⟨w12, ew12, hf⟩ := of_letv hf
              refine pf_X8_81 C hG rfl dX8_algebra_79 (fun H locs hG => ?_)
              rw [← ew12] at hG
              refine lv_aload_n C.1 C.2.1 dX8_algebra_82 rfl (lv_at hl 0 rfl) ?_
              refine gf_X8_12 C hG rfl dX8_algebra_83 ?_
              refine gf_X8_81 C hG rfl dX8_algebra_86 ?_
              refine lv_iconst (v := nI 1) C.1 C.2.1 dX8_algebra_89 (by decide) ?_
              refine lv_isub C.1 C.2.1 dX8_algebra_90 ?_
              obtain rfl := Option.some.inj hf
              exact r_iret C hG dX8_algebra_91
            · refine lv_icmp_lt (tgt := 48) C.1 C.2.1 dX8_algebra_42 (by decide) (fun q => absurd q c8) (fun _ => ?_)
              refine lv_bipush (v := (-4 : Int32)) C.1 C.2.1 dX8_algebra_45 (by decide) ?_
              obtain rfl := Option.some.inj hf
              exact r_iret C hG dX8_algebra_47
    · refine lv_icmp_le (tgt := 11) C.1 C.2.1 dX8_algebra_6 (by decide) (fun q => absurd q c2) (fun _ => ?_)
      refine lv_iconst (v := (-1 : Int32)) C.1 C.2.1 dX8_algebra_9 (by decide) ?_
      obtain rfl := Option.some.inj hf
      exact r_iret C hG dX8_algebra_10
set_option maxRecDepth 100000 in
set_option maxHeartbeats 4000000 in
theorem mt_X8_algebra (l : Launch) {G : GG} {A : Nat → Prop} {B : Nat} {X : va_W} {x1 : Int32} {x2 : Int32} {x3 : Int32} {w : WX} {out : Int32 × WX}  (hf : sh_X8_algebra x1 x2 x3 w = some out) : MetW l yX8_algebra wc_X8_algebra rm_X8_algebra G A 153 B (entX G B w) X [.ref (B + 0), .int x1, .int x2, .int x3] (some (.int out.1)) (entX G B out.2) := by
  refine Met.ofW (cc := cX8_algebra) (maxL := 4) (ret := (some .int)) (by decide) rfl ?_
  intro p e s m args below meth c s₁ B0 hml hv
  obtain ⟨rfl, hEv, hWd⟩ := hv
  have C : CX p s m _ meth c cX8_algebra 4 RX8 wc_X8_algebra (some .int) := ⟨B0.exec, B0.bytes, hml, findClass_of_methodNamed B0.named, atoms_spec (ws := wc_X8_algebra) B0.pre, B0.returns, B0.notSynchronized⟩
  have hl := lv_entry [.ref (B + 0), .int x1, .int x2, .int x3] (n := 4) (Nat.le_of_ble_eq_true rfl)
  rw [lg_entry_eq]
  generalize (lg_sl [.ref (B + 0), .int x1, .int x2, .int x3] ++ List.replicate (4 - (lg_sl [.ref (B + 0), .int x1, .int x2, .int x3]).length) Slot.unset).toArray = ls at hl ⊢
  have hl : lv_has ls 4 [(0, .ref (B + 0)), (1, .int x1), (2, .int x2), (3, .int x3)] := hl
  exact kb_X8_algebra_0 C  ⟨hEv, hWd, va_S.rf⟩ hl hf
abbrev wc_X8_becomes : List Cond := Cond.code yX8_becomes cX8_becomes 5 (some .int) :: TG
abbrev rm_X8_becomes : Room := { frames := 6, cells := 0, slots := 0, locals := 193 }
theorem cd_X8_becomes : yX8_becomes.cls = RX8 ∧ yX8_becomes.cls ≠ "java/lang/invoke/MethodHandle" ∧ yX8_becomes.cls ≠ "java/lang/invoke/VarHandle" ∧ (parseMethodDescriptor yX8_becomes.desc).map (fun d => d.parameters.length) = some 2 := by decide +kernel
theorem dX8_becomes_0 : decode cX8_becomes 0 = .ok (.aload_n 0, 1) := by decide +kernel
theorem dX8_becomes_1 : decode cX8_becomes 1 = .ok (.getfield 12, 3) := by decide +kernel
theorem dX8_becomes_4 : decode cX8_becomes 4 = .ok (.iload_n 1, 1) := by decide +kernel
theorem dX8_becomes_5 : decode cX8_becomes 5 = .ok (.invokevirtual 93, 3) := by decide +kernel
theorem dX8_becomes_8 : decode cX8_becomes 8 = .ok (.astore_n 3, 1) := by decide +kernel
theorem dX8_becomes_9 : decode cX8_becomes 9 = .ok (.aload_n 3, 1) := by decide +kernel
theorem dX8_becomes_10 : decode cX8_becomes 10 = .ok (.ifnonnull 5, 3) := by decide +kernel
theorem dX8_becomes_13 : decode cX8_becomes 13 = .ok (.iconst (-1), 1) := by decide +kernel
theorem dX8_becomes_14 : decode cX8_becomes 14 = .ok (.ireturn, 1) := by decide +kernel
theorem dX8_becomes_15 : decode cX8_becomes 15 = .ok (.iload_n 2, 1) := by decide +kernel
theorem dX8_becomes_16 : decode cX8_becomes 16 = .ok (.invokestatic 77, 3) := by decide +kernel
theorem dX8_becomes_19 : decode cX8_becomes 19 = .ok (.ifCond .ne 6, 3) := by decide +kernel
theorem dX8_becomes_22 : decode cX8_becomes 22 = .ok (.bipush (-2), 2) := by decide +kernel
theorem dX8_becomes_24 : decode cX8_becomes 24 = .ok (.ireturn, 1) := by decide +kernel
theorem dX8_becomes_25 : decode cX8_becomes 25 = .ok (.aload_n 3, 1) := by decide +kernel
theorem dX8_becomes_26 : decode cX8_becomes 26 = .ok (.getfield 97, 3) := by decide +kernel
theorem dX8_becomes_29 : decode cX8_becomes 29 = .ok (.istore 4, 2) := by decide +kernel
theorem dX8_becomes_31 : decode cX8_becomes 31 = .ok (.aload_n 3, 1) := by decide +kernel
theorem dX8_becomes_32 : decode cX8_becomes 32 = .ok (.aload_n 3, 1) := by decide +kernel
theorem dX8_becomes_33 : decode cX8_becomes 33 = .ok (.getfield 100, 3) := by decide +kernel
theorem dX8_becomes_36 : decode cX8_becomes 36 = .ok (.aload_n 3, 1) := by decide +kernel
theorem dX8_becomes_37 : decode cX8_becomes 37 = .ok (.getfield 103, 3) := by decide +kernel
theorem dX8_becomes_40 : decode cX8_becomes 40 = .ok (.iload_n 2, 1) := by decide +kernel
theorem dX8_becomes_41 : decode cX8_becomes 41 = .ok (.invokevirtual 89, 3) := by decide +kernel
theorem dX8_becomes_44 : decode cX8_becomes 44 = .ok (.iload 4, 2) := by decide +kernel
theorem dX8_becomes_46 : decode cX8_becomes 46 = .ok (.ireturn, 1) := by decide +kernel
set_option maxRecDepth 100000 in
set_option maxHeartbeats 4000000 in
theorem kb_X8_becomes_0 {x1 : Int32} {x2 : Int32} {w : WX} {out : Int32 × WX} {H : Heap} {locs : List Loc} {ls : Array Slot} (C : CX p s m args meth c cX8_becomes 5 RX8 wc_X8_becomes (some .int))  (hG : Gd s G A 153 B (entX G B w) X H locs) (hl : lv_has ls 5 [(0, .ref (B + 0)), (1, .int x1), (2, .int x2)]) (hf : sh_X8_becomes x1 x2 w = some out) :
    W p l e rm_X8_becomes s m args below meth c H locs 0 0 (MQ below (CPost G A 153 B (entX G B out.2) X (some (.int out.1))) args s 0 0 A) (F0 m 0 ls []) := by
  refine lv_aload_n C.1 C.2.1 dX8_becomes_0 rfl (lv_at hl 0 rfl) ?_
  refine gf_X8_12 C hG rfl dX8_becomes_1 ?_
  refine lv_iload_n C.1 C.2.1 dX8_becomes_4 rfl (lv_at hl 1 rfl) ?_
  obtain ⟨v1, hv1, hf⟩ := of_bind hf
  refine r_callV1 C hG hl.1 (c0 := 1) (As := [.int x1]) (by decide) (entX_O4 (n := 4) rfl) rfl (mt_X4_algebraAt l rfl hv1) (cwV 1 C.2.2.2.2.1 (gd_V tg_2_119 tg_2_120 tg_2_121 tg_1_2 tg_2_122) rfl rfl rfl cd_X4_algebraAt ⟨Nat.le_of_ble_eq_true rfl, Nat.le_of_ble_eq_true rfl⟩) rfl rfl (Nat.le_of_ble_eq_true rfl) dX8_becomes_5 (fun H locs hG => ?_)
  rcases of_ite hf with ⟨c2, hf⟩ | ⟨c2, hf⟩
  · refine r_rvN c2 ?_
    refine lv_astore_nN (lv' := [(3, .null), (0, .ref (B + 0)), (1, .int x1), (2, .int x2)]) C.1 C.2.1 dX8_becomes_8 rfl hl (by decide) rfl (fun ls hl => ?_)
    refine lv_aload_nN C.1 C.2.1 dX8_becomes_9 rfl (lv_at hl 0 rfl) ?_
    refine lv_ifnonnullN C.1 C.2.1 dX8_becomes_10 ?_
    refine lv_iconst (v := (-1 : Int32)) C.1 C.2.1 dX8_becomes_13 (by decide) ?_
    obtain rfl := Option.some.inj hf
    exact r_iret C hG dX8_becomes_14
  · refine r_rvR c2 ?_
    obtain ⟨c3, hf⟩ := of_grd hf
    refine lv_astore_n (lv' := [(3, .ref (B + v1)), (0, .ref (B + 0)), (1, .int x1), (2, .int x2)]) C.1 C.2.1 dX8_becomes_8 rfl hl (by decide) rfl (fun ls hl => ?_)
    refine lv_aload_n C.1 C.2.1 dX8_becomes_9 rfl (lv_at hl 0 rfl) ?_
    refine lv_ifnonnull (tgt := 15) C.1 C.2.1 dX8_becomes_10 (by decide) ?_
    refine lv_iload_n C.1 C.2.1 dX8_becomes_15 rfl (lv_at hl 3 rfl) ?_
    obtain ⟨v4, hv4, hf⟩ := of_bind hf
    refine r_callS1 C hG hl.1 (As := [.int x2]) (mt_X8_isFigure l  hv4) (va_cwS 1 C.2.2.2.2.1 (gd_S tg_2_57 tg_2_58 tg_1_1 tg_2_59) rfl rfl rfl cd_X8_isFigure.2 ⟨Nat.le_of_ble_eq_true rfl, Nat.le_of_ble_eq_true rfl⟩) rfl rfl (Nat.le_of_ble_eq_true rfl) dX8_becomes_16 (fun H locs hG => ?_)
    rcases of_ite hf with ⟨c5, hf⟩ | ⟨c5, hf⟩
    · refine lv_if_ne (tgt := 25) C.1 C.2.1 dX8_becomes_19 (by decide) (fun q => absurd c5 q) (fun _ => ?_)
      refine lv_bipush (v := (-2 : Int32)) C.1 C.2.1 dX8_becomes_22 (by decide) ?_
      obtain rfl := Option.some.inj hf
      exact r_iret C hG dX8_becomes_24
    · refine lv_if_ne (tgt := 25) C.1 C.2.1 dX8_becomes_19 (by decide) (fun _ => ?_) (fun q => absurd q c5)
      refine lv_aload_n C.1 C.2.1 dX8_becomes_25 rfl (lv_at hl 0 rfl) ?_
      refine gf_X8_97 C hG c3 dX8_becomes_26 ?_
      obtain ⟨v6, ev6, hf⟩ := of_letv hf
      refine r_top ev6 ?_
      refine lv_istore (lv' := [(4, .int v6), (3, .ref (B + v1)), (0, .ref (B + 0)), (1, .int x1), (2, .int x2)]) C.1 C.2.1 dX8_becomes_29 hl (by decide) rfl (fun ls hl => ?_)
      refine lv_aload_n C.1 C.2.1 dX8_becomes_31 rfl (lv_at hl 1 rfl) ?_
      refine lv_aload_n C.1 C.2.1 dX8_becomes_32 rfl (lv_at hl 1 rfl) ?_
      refine gf_X8_100 C hG c3 dX8_becomes_33 ?_
      refine lv_aload_n C.1 C.2.1 dX8_becomes_36 rfl (lv_at hl 1 rfl) ?_
      refine gf_X8_103 C hG c3 dX8_becomes_37 ?_
      refine lv_iload_n C.1 C.2.1 dX8_becomes_40 rfl (lv_at hl 4 rfl) ?_
      obtain ⟨w7, hw7, hf⟩ := of_bind hf
      refine r_callV0 C hG hl.1 (c0 := v1) (As := [.int (w.1 v1 0), .int (w.1 v1 1), .int x2]) (kdx_lt c3 (by decide)) (entX_O0 c3) rfl (mt_X0_make l c3 hw7) (cwV 3 C.2.2.2.2.1 (gd_V tg_2_60 tg_2_61 tg_2_62 tg_1_4 tg_2_63) rfl rfl rfl cd_X0_make ⟨Nat.le_of_ble_eq_true rfl, Nat.le_of_ble_eq_true rfl⟩) rfl rfl (Nat.le_of_ble_eq_true rfl) dX8_becomes_41 (fun H locs hG => ?_)
      refine lv_iload C.1 C.2.1 dX8_becomes_44 (lv_at hl 0 rfl) ?_
      obtain rfl := Option.some.inj hf
      exact r_iret C hG dX8_becomes_46
set_option maxRecDepth 100000 in
set_option maxHeartbeats 4000000 in
theorem mt_X8_becomes (l : Launch) {G : GG} {A : Nat → Prop} {B : Nat} {X : va_W} {x1 : Int32} {x2 : Int32} {w : WX} {out : Int32 × WX}  (hf : sh_X8_becomes x1 x2 w = some out) : MetW l yX8_becomes wc_X8_becomes rm_X8_becomes G A 153 B (entX G B w) X [.ref (B + 0), .int x1, .int x2] (some (.int out.1)) (entX G B out.2) := by
  refine Met.ofW (cc := cX8_becomes) (maxL := 5) (ret := (some .int)) (by decide) rfl ?_
  intro p e s m args below meth c s₁ B0 hml hv
  obtain ⟨rfl, hEv, hWd⟩ := hv
  have C : CX p s m _ meth c cX8_becomes 5 RX8 wc_X8_becomes (some .int) := ⟨B0.exec, B0.bytes, hml, findClass_of_methodNamed B0.named, atoms_spec (ws := wc_X8_becomes) B0.pre, B0.returns, B0.notSynchronized⟩
  have hl := lv_entry [.ref (B + 0), .int x1, .int x2] (n := 5) (Nat.le_of_ble_eq_true rfl)
  rw [lg_entry_eq]
  generalize (lg_sl [.ref (B + 0), .int x1, .int x2] ++ List.replicate (5 - (lg_sl [.ref (B + 0), .int x1, .int x2]).length) Slot.unset).toArray = ls at hl ⊢
  have hl : lv_has ls 5 [(0, .ref (B + 0)), (1, .int x1), (2, .int x2)] := hl
  exact kb_X8_becomes_0 C  ⟨hEv, hWd, va_S.rf⟩ hl hf
abbrev wc_X8_of : List Cond := Cond.code yX8_of cX8_of 4 (some .int) :: TG
abbrev rm_X8_of : Room := { frames := 3, cells := 0, slots := 0, locals := 121 }
theorem cd_X8_of : yX8_of.cls = RX8 ∧ yX8_of.cls ≠ "java/lang/invoke/MethodHandle" ∧ yX8_of.cls ≠ "java/lang/invoke/VarHandle" ∧ (parseMethodDescriptor yX8_of.desc).map (fun d => d.parameters.length) = some 2 := by decide +kernel
theorem dX8_of_0 : decode cX8_of 0 = .ok (.aload_n 0, 1) := by decide +kernel
theorem dX8_of_1 : decode cX8_of 1 = .ok (.getfield 12, 3) := by decide +kernel
theorem dX8_of_4 : decode cX8_of 4 = .ok (.iload_n 1, 1) := by decide +kernel
theorem dX8_of_5 : decode cX8_of 5 = .ok (.invokevirtual 93, 3) := by decide +kernel
theorem dX8_of_8 : decode cX8_of 8 = .ok (.astore_n 3, 1) := by decide +kernel
theorem dX8_of_9 : decode cX8_of 9 = .ok (.aload_n 3, 1) := by decide +kernel
theorem dX8_of_10 : decode cX8_of 10 = .ok (.ifnonnull 5, 3) := by decide +kernel
theorem dX8_of_13 : decode cX8_of 13 = .ok (.iconst (-1), 1) := by decide +kernel
theorem dX8_of_14 : decode cX8_of 14 = .ok (.ireturn, 1) := by decide +kernel
theorem dX8_of_15 : decode cX8_of 15 = .ok (.iload_n 2, 1) := by decide +kernel
theorem dX8_of_16 : decode cX8_of 16 = .ok (.tableswitch 52 0 3 #[32, 37, 42, 47], 32) := by decide +kernel
theorem dX8_of_48 : decode cX8_of 48 = .ok (.aload_n 3, 1) := by decide +kernel
theorem dX8_of_49 : decode cX8_of 49 = .ok (.getfield 100, 3) := by decide +kernel
theorem dX8_of_52 : decode cX8_of 52 = .ok (.ireturn, 1) := by decide +kernel
theorem dX8_of_53 : decode cX8_of 53 = .ok (.aload_n 3, 1) := by decide +kernel
theorem dX8_of_54 : decode cX8_of 54 = .ok (.getfield 103, 3) := by decide +kernel
theorem dX8_of_57 : decode cX8_of 57 = .ok (.ireturn, 1) := by decide +kernel
theorem dX8_of_58 : decode cX8_of 58 = .ok (.aload_n 3, 1) := by decide +kernel
theorem dX8_of_59 : decode cX8_of 59 = .ok (.getfield 97, 3) := by decide +kernel
theorem dX8_of_62 : decode cX8_of 62 = .ok (.ireturn, 1) := by decide +kernel
theorem dX8_of_63 : decode cX8_of 63 = .ok (.aload_n 3, 1) := by decide +kernel
theorem dX8_of_64 : decode cX8_of 64 = .ok (.getfield 106, 3) := by decide +kernel
theorem dX8_of_67 : decode cX8_of 67 = .ok (.ireturn, 1) := by decide +kernel
theorem dX8_of_68 : decode cX8_of 68 = .ok (.iconst (-1), 1) := by decide +kernel
theorem dX8_of_69 : decode cX8_of 69 = .ok (.ireturn, 1) := by decide +kernel
set_option maxRecDepth 100000 in
set_option maxHeartbeats 4000000 in
theorem kb_X8_of_0 {x1 : Int32} {x2 : Int32} {w : WX} {out : Int32} {H : Heap} {locs : List Loc} {ls : Array Slot} (C : CX p s m args meth c cX8_of 4 RX8 wc_X8_of (some .int))  (hG : Gd s G A 153 B (entX G B w) X H locs) (hl : lv_has ls 4 [(0, .ref (B + 0)), (1, .int x1), (2, .int x2)]) (hf : sh_X8_of x1 x2 w = some out) :
    W p l e rm_X8_of s m args below meth c H locs 0 0 (MQ below (CPost G A 153 B (entX G B w) X (some (.int out))) args s 0 0 A) (F0 m 0 ls []) := by
  refine lv_aload_n C.1 C.2.1 dX8_of_0 rfl (lv_at hl 0 rfl) ?_
  refine gf_X8_12 C hG rfl dX8_of_1 ?_
  refine lv_iload_n C.1 C.2.1 dX8_of_4 rfl (lv_at hl 1 rfl) ?_
  obtain ⟨v1, hv1, hf⟩ := of_bind hf
  refine r_callV1 C hG hl.1 (c0 := 1) (As := [.int x1]) (by decide) (entX_O4 (n := 4) rfl) rfl (mt_X4_algebraAt l rfl hv1) (cwV 1 C.2.2.2.2.1 (gd_V tg_2_119 tg_2_120 tg_2_121 tg_1_2 tg_2_122) rfl rfl rfl cd_X4_algebraAt ⟨Nat.le_of_ble_eq_true rfl, Nat.le_of_ble_eq_true rfl⟩) rfl rfl (Nat.le_of_ble_eq_true rfl) dX8_of_5 (fun H locs hG => ?_)
  rcases of_ite hf with ⟨c2, hf⟩ | ⟨c2, hf⟩
  · refine r_rvN c2 ?_
    refine lv_astore_nN (lv' := [(3, .null), (0, .ref (B + 0)), (1, .int x1), (2, .int x2)]) C.1 C.2.1 dX8_of_8 rfl hl (by decide) rfl (fun ls hl => ?_)
    refine lv_aload_nN C.1 C.2.1 dX8_of_9 rfl (lv_at hl 0 rfl) ?_
    refine lv_ifnonnullN C.1 C.2.1 dX8_of_10 ?_
    refine lv_iconst (v := (-1 : Int32)) C.1 C.2.1 dX8_of_13 (by decide) ?_
    obtain rfl := Option.some.inj hf
    exact r_iret C hG dX8_of_14
  · refine r_rvR c2 ?_
    obtain ⟨c3, hf⟩ := of_grd hf
    refine lv_astore_n (lv' := [(3, .ref (B + v1)), (0, .ref (B + 0)), (1, .int x1), (2, .int x2)]) C.1 C.2.1 dX8_of_8 rfl hl (by decide) rfl (fun ls hl => ?_)
    refine lv_aload_n C.1 C.2.1 dX8_of_9 rfl (lv_at hl 0 rfl) ?_
    refine lv_ifnonnull (tgt := 15) C.1 C.2.1 dX8_of_10 (by decide) ?_
    refine lv_iload_n C.1 C.2.1 dX8_of_15 rfl (lv_at hl 3 rfl) ?_
    rcases of_ite hf with ⟨c4, hf⟩ | ⟨c4, hf⟩
    · refine lv_tableIn (tgt := 48) (off := 32) C.1 C.2.1 dX8_of_16 (by rw [c4]; decide) (by rw [c4]; decide) (by rw [c4]; rfl) (by decide) ?_
      refine lv_aload_n C.1 C.2.1 dX8_of_48 rfl (lv_at hl 0 rfl) ?_
      refine gf_X8_100 C hG c3 dX8_of_49 ?_
      obtain rfl := Option.some.inj hf
      exact r_iret C hG dX8_of_52
    · skip
      rcases of_ite hf with ⟨c5, hf⟩ | ⟨c5, hf⟩
      · refine lv_tableIn (tgt := 53) (off := 37) C.1 C.2.1 dX8_of_16 (by rw [c5]; decide) (by rw [c5]; decide) (by rw [c5]; rfl) (by decide) ?_
        refine lv_aload_n C.1 C.2.1 dX8_of_53 rfl (lv_at hl 0 rfl) ?_
        refine gf_X8_103 C hG c3 dX8_of_54 ?_
        obtain rfl := Option.some.inj hf
        exact r_iret C hG dX8_of_57
      · skip
        rcases of_ite hf with ⟨c6, hf⟩ | ⟨c6, hf⟩
        · refine lv_tableIn (tgt := 58) (off := 42) C.1 C.2.1 dX8_of_16 (by rw [c6]; decide) (by rw [c6]; decide) (by rw [c6]; rfl) (by decide) ?_
          refine lv_aload_n C.1 C.2.1 dX8_of_58 rfl (lv_at hl 0 rfl) ?_
          refine gf_X8_97 C hG c3 dX8_of_59 ?_
          obtain rfl := Option.some.inj hf
          exact r_iret C hG dX8_of_62
        · skip
          rcases of_ite hf with ⟨c7, hf⟩ | ⟨c7, hf⟩
          · refine lv_tableIn (tgt := 63) (off := 47) C.1 C.2.1 dX8_of_16 (by rw [c7]; decide) (by rw [c7]; decide) (by rw [c7]; rfl) (by decide) ?_
            refine lv_aload_n C.1 C.2.1 dX8_of_63 rfl (lv_at hl 0 rfl) ?_
            refine gf_X8_106 C hG c3 dX8_of_64 ?_
            obtain rfl := Option.some.inj hf
            exact r_iret C hG dX8_of_67
          · skip
            refine lv_tableOut (tgt := 68) C.1 C.2.1 dX8_of_16 (sw_out (n := 4) (by decide) (lt_s (lt_s (lt_s (lt_s lt_0 c4) c5) c6) c7)) (by decide) ?_
            refine lv_iconst (v := (-1 : Int32)) C.1 C.2.1 dX8_of_68 (by decide) ?_
            obtain rfl := Option.some.inj hf
            exact r_iret C hG dX8_of_69
set_option maxRecDepth 100000 in
set_option maxHeartbeats 4000000 in
theorem mt_X8_of (l : Launch) {G : GG} {A : Nat → Prop} {B : Nat} {X : va_W} {x1 : Int32} {x2 : Int32} {w : WX} {out : Int32}  (hf : sh_X8_of x1 x2 w = some out) : MetW l yX8_of wc_X8_of rm_X8_of G A 153 B (entX G B w) X [.ref (B + 0), .int x1, .int x2] (some (.int out)) (entX G B w) := by
  refine Met.ofW (cc := cX8_of) (maxL := 4) (ret := (some .int)) (by decide) rfl ?_
  intro p e s m args below meth c s₁ B0 hml hv
  obtain ⟨rfl, hEv, hWd⟩ := hv
  have C : CX p s m _ meth c cX8_of 4 RX8 wc_X8_of (some .int) := ⟨B0.exec, B0.bytes, hml, findClass_of_methodNamed B0.named, atoms_spec (ws := wc_X8_of) B0.pre, B0.returns, B0.notSynchronized⟩
  have hl := lv_entry [.ref (B + 0), .int x1, .int x2] (n := 4) (Nat.le_of_ble_eq_true rfl)
  rw [lg_entry_eq]
  generalize (lg_sl [.ref (B + 0), .int x1, .int x2] ++ List.replicate (4 - (lg_sl [.ref (B + 0), .int x1, .int x2]).length) Slot.unset).toArray = ls at hl ⊢
  have hl : lv_has ls 4 [(0, .ref (B + 0)), (1, .int x1), (2, .int x2)] := hl
  exact kb_X8_of_0 C  ⟨hEv, hWd, va_S.rf⟩ hl hf
abbrev wc_X8_product : List Cond := Cond.code yX8_product cX8_product 6 (some .int) :: TG
abbrev rm_X8_product : Room := { frames := 4, cells := 0, slots := 0, locals := 145 }
theorem cd_X8_product : yX8_product.cls = RX8 ∧ yX8_product.cls ≠ "java/lang/invoke/MethodHandle" ∧ yX8_product.cls ≠ "java/lang/invoke/VarHandle" ∧ (parseMethodDescriptor yX8_product.desc).map (fun d => d.parameters.length) = some 4 := by decide +kernel
theorem dX8_product_0 : decode cX8_product 0 = .ok (.aload_n 0, 1) := by decide +kernel
theorem dX8_product_1 : decode cX8_product 1 = .ok (.getfield 12, 3) := by decide +kernel
theorem dX8_product_4 : decode cX8_product 4 = .ok (.iload_n 1, 1) := by decide +kernel
theorem dX8_product_5 : decode cX8_product 5 = .ok (.invokevirtual 93, 3) := by decide +kernel
theorem dX8_product_8 : decode cX8_product 8 = .ok (.astore 5, 2) := by decide +kernel
theorem dX8_product_10 : decode cX8_product 10 = .ok (.aload 5, 2) := by decide +kernel
theorem dX8_product_12 : decode cX8_product 12 = .ok (.ifnull 31, 3) := by decide +kernel
theorem dX8_product_15 : decode cX8_product 15 = .ok (.aload 5, 2) := by decide +kernel
theorem dX8_product_17 : decode cX8_product 17 = .ok (.iload_n 2, 1) := by decide +kernel
theorem dX8_product_18 : decode cX8_product 18 = .ok (.invokevirtual 109, 3) := by decide +kernel
theorem dX8_product_21 : decode cX8_product 21 = .ok (.ifCond .eq 22, 3) := by decide +kernel
theorem dX8_product_24 : decode cX8_product 24 = .ok (.aload 5, 2) := by decide +kernel
theorem dX8_product_26 : decode cX8_product 26 = .ok (.iload_n 3, 1) := by decide +kernel
theorem dX8_product_27 : decode cX8_product 27 = .ok (.invokevirtual 109, 3) := by decide +kernel
theorem dX8_product_30 : decode cX8_product 30 = .ok (.ifCond .eq 13, 3) := by decide +kernel
theorem dX8_product_33 : decode cX8_product 33 = .ok (.aload 5, 2) := by decide +kernel
theorem dX8_product_35 : decode cX8_product 35 = .ok (.iload 4, 2) := by decide +kernel
theorem dX8_product_37 : decode cX8_product 37 = .ok (.invokevirtual 109, 3) := by decide +kernel
theorem dX8_product_40 : decode cX8_product 40 = .ok (.ifCond .ne 5, 3) := by decide +kernel
theorem dX8_product_43 : decode cX8_product 43 = .ok (.iconst (-1), 1) := by decide +kernel
theorem dX8_product_44 : decode cX8_product 44 = .ok (.ireturn, 1) := by decide +kernel
theorem dX8_product_45 : decode cX8_product 45 = .ok (.aload 5, 2) := by decide +kernel
theorem dX8_product_47 : decode cX8_product 47 = .ok (.iload_n 2, 1) := by decide +kernel
theorem dX8_product_48 : decode cX8_product 48 = .ok (.iload_n 3, 1) := by decide +kernel
theorem dX8_product_49 : decode cX8_product 49 = .ok (.iload 4, 2) := by decide +kernel
theorem dX8_product_51 : decode cX8_product 51 = .ok (.invokevirtual 112, 3) := by decide +kernel
theorem dX8_product_54 : decode cX8_product 54 = .ok (.ireturn, 1) := by decide +kernel
set_option maxRecDepth 100000 in
set_option maxHeartbeats 4000000 in
theorem kb_X8_product_0 {x1 : Int32} {x2 : Int32} {x3 : Int32} {x4 : Int32} {w : WX} {out : Int32} {H : Heap} {locs : List Loc} {ls : Array Slot} (C : CX p s m args meth c cX8_product 6 RX8 wc_X8_product (some .int))  (hG : Gd s G A 153 B (entX G B w) X H locs) (hl : lv_has ls 6 [(0, .ref (B + 0)), (1, .int x1), (2, .int x2), (3, .int x3), (4, .int x4)]) (hf : sh_X8_product x1 x2 x3 x4 w = some out) :
    W p l e rm_X8_product s m args below meth c H locs 0 0 (MQ below (CPost G A 153 B (entX G B w) X (some (.int out))) args s 0 0 A) (F0 m 0 ls []) := by
  refine lv_aload_n C.1 C.2.1 dX8_product_0 rfl (lv_at hl 0 rfl) ?_
  refine gf_X8_12 C hG rfl dX8_product_1 ?_
  refine lv_iload_n C.1 C.2.1 dX8_product_4 rfl (lv_at hl 1 rfl) ?_
  obtain ⟨v1, hv1, hf⟩ := of_bind hf
  refine r_callV1 C hG hl.1 (c0 := 1) (As := [.int x1]) (by decide) (entX_O4 (n := 4) rfl) rfl (mt_X4_algebraAt l rfl hv1) (cwV 1 C.2.2.2.2.1 (gd_V tg_2_119 tg_2_120 tg_2_121 tg_1_2 tg_2_122) rfl rfl rfl cd_X4_algebraAt ⟨Nat.le_of_ble_eq_true rfl, Nat.le_of_ble_eq_true rfl⟩) rfl rfl (Nat.le_of_ble_eq_true rfl) dX8_product_5 (fun H locs hG => ?_)
  rcases of_ite hf with ⟨c2, hf⟩ | ⟨c2, hf⟩
  · refine r_rvN c2 ?_
    refine lv_astoreN (lv' := [(5, .null), (0, .ref (B + 0)), (1, .int x1), (2, .int x2), (3, .int x3), (4, .int x4)]) C.1 C.2.1 dX8_product_8 hl (by decide) rfl (fun ls hl => ?_)
    refine lv_aloadN C.1 C.2.1 dX8_product_10 (lv_at hl 0 rfl) ?_
    refine lv_ifnullN (tgt := 43) C.1 C.2.1 dX8_product_12 (by decide) ?_
    refine lv_iconst (v := (-1 : Int32)) C.1 C.2.1 dX8_product_43 (by decide) ?_
    obtain rfl := Option.some.inj hf
    exact r_iret C hG dX8_product_44
  · refine r_rvR c2 ?_
    obtain ⟨c3, hf⟩ := of_grd hf
    refine lv_astore (lv' := [(5, .ref (B + v1)), (0, .ref (B + 0)), (1, .int x1), (2, .int x2), (3, .int x3), (4, .int x4)]) C.1 C.2.1 dX8_product_8 hl (by decide) rfl (fun ls hl => ?_)
    refine lv_aload C.1 C.2.1 dX8_product_10 (lv_at hl 0 rfl) ?_
    refine lv_ifnull C.1 C.2.1 dX8_product_12 ?_
    refine lv_aload C.1 C.2.1 dX8_product_15 (lv_at hl 0 rfl) ?_
    refine lv_iload_n C.1 C.2.1 dX8_product_17 rfl (lv_at hl 3 rfl) ?_
    obtain ⟨v4, hv4, hf⟩ := of_bind hf
    refine r_callV1 C hG hl.1 (c0 := v1) (As := [.int x2]) (kdx_lt c3 (by decide)) (entX_O0 c3) rfl (mt_X0_has l c3 hv4) (cwV 1 C.2.2.2.2.1 (gd_V tg_2_131 tg_2_132 tg_2_133 tg_1_4 tg_2_134) rfl rfl rfl cd_X0_has ⟨Nat.le_of_ble_eq_true rfl, Nat.le_of_ble_eq_true rfl⟩) rfl rfl (Nat.le_of_ble_eq_true rfl) dX8_product_18 (fun H locs hG => ?_)
    rcases of_ite hf with ⟨c5, hf⟩ | ⟨c5, hf⟩
    · refine lv_if_eq (tgt := 43) C.1 C.2.1 dX8_product_21 (by decide) (fun _ => ?_) (fun q => absurd c5 q)
      refine lv_iconst (v := (-1 : Int32)) C.1 C.2.1 dX8_product_43 (by decide) ?_
      obtain rfl := Option.some.inj hf
      exact r_iret C hG dX8_product_44
    · refine lv_if_eq (tgt := 43) C.1 C.2.1 dX8_product_21 (by decide) (fun q => absurd q c5) (fun _ => ?_)
      refine lv_aload C.1 C.2.1 dX8_product_24 (lv_at hl 0 rfl) ?_
      refine lv_iload_n C.1 C.2.1 dX8_product_26 rfl (lv_at hl 4 rfl) ?_
      obtain ⟨v6, hv6, hf⟩ := of_bind hf
      refine r_callV1 C hG hl.1 (c0 := v1) (As := [.int x3]) (kdx_lt c3 (by decide)) (entX_O0 c3) rfl (mt_X0_has l c3 hv6) (cwV 1 C.2.2.2.2.1 (gd_V tg_2_131 tg_2_132 tg_2_133 tg_1_4 tg_2_134) rfl rfl rfl cd_X0_has ⟨Nat.le_of_ble_eq_true rfl, Nat.le_of_ble_eq_true rfl⟩) rfl rfl (Nat.le_of_ble_eq_true rfl) dX8_product_27 (fun H locs hG => ?_)
      rcases of_ite hf with ⟨c7, hf⟩ | ⟨c7, hf⟩
      · refine lv_if_eq (tgt := 43) C.1 C.2.1 dX8_product_30 (by decide) (fun _ => ?_) (fun q => absurd c7 q)
        refine lv_iconst (v := (-1 : Int32)) C.1 C.2.1 dX8_product_43 (by decide) ?_
        obtain rfl := Option.some.inj hf
        exact r_iret C hG dX8_product_44
      · refine lv_if_eq (tgt := 43) C.1 C.2.1 dX8_product_30 (by decide) (fun q => absurd q c7) (fun _ => ?_)
        refine lv_aload C.1 C.2.1 dX8_product_33 (lv_at hl 0 rfl) ?_
        refine lv_iload C.1 C.2.1 dX8_product_35 (lv_at hl 5 rfl) ?_
        obtain ⟨v8, hv8, hf⟩ := of_bind hf
        refine r_callV1 C hG hl.1 (c0 := v1) (As := [.int x4]) (kdx_lt c3 (by decide)) (entX_O0 c3) rfl (mt_X0_has l c3 hv8) (cwV 1 C.2.2.2.2.1 (gd_V tg_2_131 tg_2_132 tg_2_133 tg_1_4 tg_2_134) rfl rfl rfl cd_X0_has ⟨Nat.le_of_ble_eq_true rfl, Nat.le_of_ble_eq_true rfl⟩) rfl rfl (Nat.le_of_ble_eq_true rfl) dX8_product_37 (fun H locs hG => ?_)
        rcases of_ite hf with ⟨c9, hf⟩ | ⟨c9, hf⟩
        · refine lv_if_ne (tgt := 45) C.1 C.2.1 dX8_product_40 (by decide) (fun q => absurd c9 q) (fun _ => ?_)
          refine lv_iconst (v := (-1 : Int32)) C.1 C.2.1 dX8_product_43 (by decide) ?_
          obtain rfl := Option.some.inj hf
          exact r_iret C hG dX8_product_44
        · refine lv_if_ne (tgt := 45) C.1 C.2.1 dX8_product_40 (by decide) (fun _ => ?_) (fun q => absurd q c9)
          refine lv_aload C.1 C.2.1 dX8_product_45 (lv_at hl 0 rfl) ?_
          refine lv_iload_n C.1 C.2.1 dX8_product_47 rfl (lv_at hl 3 rfl) ?_
          refine lv_iload_n C.1 C.2.1 dX8_product_48 rfl (lv_at hl 4 rfl) ?_
          refine lv_iload C.1 C.2.1 dX8_product_49 (lv_at hl 5 rfl) ?_
          obtain ⟨v10, hv10, hf⟩ := of_bind hf
          refine r_callV1 C hG hl.1 (c0 := v1) (As := [.int x2, .int x3, .int x4]) (kdx_lt c3 (by decide)) (entX_O0 c3) rfl (mt_X0_timesInProduct l c3 hv10) (cwV 3 C.2.2.2.2.1 (gd_V tg_2_135 tg_2_136 tg_2_137 tg_1_4 tg_2_138) rfl rfl rfl cd_X0_timesInProduct ⟨Nat.le_of_ble_eq_true rfl, Nat.le_of_ble_eq_true rfl⟩) rfl rfl (Nat.le_of_ble_eq_true rfl) dX8_product_51 (fun H locs hG => ?_)
          obtain rfl := Option.some.inj hf
          exact r_iret C hG dX8_product_54
set_option maxRecDepth 100000 in
set_option maxHeartbeats 4000000 in
theorem mt_X8_product (l : Launch) {G : GG} {A : Nat → Prop} {B : Nat} {X : va_W} {x1 : Int32} {x2 : Int32} {x3 : Int32} {x4 : Int32} {w : WX} {out : Int32}  (hf : sh_X8_product x1 x2 x3 x4 w = some out) : MetW l yX8_product wc_X8_product rm_X8_product G A 153 B (entX G B w) X [.ref (B + 0), .int x1, .int x2, .int x3, .int x4] (some (.int out)) (entX G B w) := by
  refine Met.ofW (cc := cX8_product) (maxL := 6) (ret := (some .int)) (by decide) rfl ?_
  intro p e s m args below meth c s₁ B0 hml hv
  obtain ⟨rfl, hEv, hWd⟩ := hv
  have C : CX p s m _ meth c cX8_product 6 RX8 wc_X8_product (some .int) := ⟨B0.exec, B0.bytes, hml, findClass_of_methodNamed B0.named, atoms_spec (ws := wc_X8_product) B0.pre, B0.returns, B0.notSynchronized⟩
  have hl := lv_entry [.ref (B + 0), .int x1, .int x2, .int x3, .int x4] (n := 6) (Nat.le_of_ble_eq_true rfl)
  rw [lg_entry_eq]
  generalize (lg_sl [.ref (B + 0), .int x1, .int x2, .int x3, .int x4] ++ List.replicate (6 - (lg_sl [.ref (B + 0), .int x1, .int x2, .int x3, .int x4]).length) Slot.unset).toArray = ls at hl ⊢
  have hl : lv_has ls 6 [(0, .ref (B + 0)), (1, .int x1), (2, .int x2), (3, .int x3), (4, .int x4)] := hl
  exact kb_X8_product_0 C  ⟨hEv, hWd, va_S.rf⟩ hl hf
abbrev wc_X8_form : List Cond := Cond.code yX8_form cX8_form 6 (some .int) :: TG
abbrev rm_X8_form : Room := { frames := 4, cells := 0, slots := 0, locals := 144 }
theorem cd_X8_form : yX8_form.cls = RX8 ∧ yX8_form.cls ≠ "java/lang/invoke/MethodHandle" ∧ yX8_form.cls ≠ "java/lang/invoke/VarHandle" ∧ (parseMethodDescriptor yX8_form.desc).map (fun d => d.parameters.length) = some 4 := by decide +kernel
theorem dX8_form_0 : decode cX8_form 0 = .ok (.aload_n 0, 1) := by decide +kernel
theorem dX8_form_1 : decode cX8_form 1 = .ok (.getfield 12, 3) := by decide +kernel
theorem dX8_form_4 : decode cX8_form 4 = .ok (.iload_n 1, 1) := by decide +kernel
theorem dX8_form_5 : decode cX8_form 5 = .ok (.invokevirtual 93, 3) := by decide +kernel
theorem dX8_form_8 : decode cX8_form 8 = .ok (.astore 5, 2) := by decide +kernel
theorem dX8_form_10 : decode cX8_form 10 = .ok (.aload 5, 2) := by decide +kernel
theorem dX8_form_12 : decode cX8_form 12 = .ok (.ifnull 21, 3) := by decide +kernel
theorem dX8_form_15 : decode cX8_form 15 = .ok (.aload 5, 2) := by decide +kernel
theorem dX8_form_17 : decode cX8_form 17 = .ok (.iload_n 2, 1) := by decide +kernel
theorem dX8_form_18 : decode cX8_form 18 = .ok (.invokevirtual 109, 3) := by decide +kernel
theorem dX8_form_21 : decode cX8_form 21 = .ok (.ifCond .eq 12, 3) := by decide +kernel
theorem dX8_form_24 : decode cX8_form 24 = .ok (.aload 5, 2) := by decide +kernel
theorem dX8_form_26 : decode cX8_form 26 = .ok (.iload_n 3, 1) := by decide +kernel
theorem dX8_form_27 : decode cX8_form 27 = .ok (.invokevirtual 109, 3) := by decide +kernel
theorem dX8_form_30 : decode cX8_form 30 = .ok (.ifCond .ne 5, 3) := by decide +kernel
theorem dX8_form_33 : decode cX8_form 33 = .ok (.iconst (-1), 1) := by decide +kernel
theorem dX8_form_34 : decode cX8_form 34 = .ok (.ireturn, 1) := by decide +kernel
theorem dX8_form_35 : decode cX8_form 35 = .ok (.iload 4, 2) := by decide +kernel
theorem dX8_form_37 : decode cX8_form 37 = .ok (.lookupswitch 43 #[(0, 27), (1, 35)], 27) := by decide +kernel
theorem dX8_form_64 : decode cX8_form 64 = .ok (.aload 5, 2) := by decide +kernel
theorem dX8_form_66 : decode cX8_form 66 = .ok (.iload_n 2, 1) := by decide +kernel
theorem dX8_form_67 : decode cX8_form 67 = .ok (.iload_n 3, 1) := by decide +kernel
theorem dX8_form_68 : decode cX8_form 68 = .ok (.invokevirtual 116, 3) := by decide +kernel
theorem dX8_form_71 : decode cX8_form 71 = .ok (.ireturn, 1) := by decide +kernel
theorem dX8_form_72 : decode cX8_form 72 = .ok (.aload 5, 2) := by decide +kernel
theorem dX8_form_74 : decode cX8_form 74 = .ok (.iload_n 2, 1) := by decide +kernel
theorem dX8_form_75 : decode cX8_form 75 = .ok (.iload_n 3, 1) := by decide +kernel
theorem dX8_form_76 : decode cX8_form 76 = .ok (.invokevirtual 120, 3) := by decide +kernel
theorem dX8_form_79 : decode cX8_form 79 = .ok (.ireturn, 1) := by decide +kernel
theorem dX8_form_80 : decode cX8_form 80 = .ok (.iconst (-1), 1) := by decide +kernel
theorem dX8_form_81 : decode cX8_form 81 = .ok (.ireturn, 1) := by decide +kernel
set_option maxRecDepth 100000 in
set_option maxHeartbeats 4000000 in
theorem kb_X8_form_0 {x1 : Int32} {x2 : Int32} {x3 : Int32} {x4 : Int32} {w : WX} {out : Int32} {H : Heap} {locs : List Loc} {ls : Array Slot} (C : CX p s m args meth c cX8_form 6 RX8 wc_X8_form (some .int))  (hG : Gd s G A 153 B (entX G B w) X H locs) (hl : lv_has ls 6 [(0, .ref (B + 0)), (1, .int x1), (2, .int x2), (3, .int x3), (4, .int x4)]) (hf : sh_X8_form x1 x2 x3 x4 w = some out) :
    W p l e rm_X8_form s m args below meth c H locs 0 0 (MQ below (CPost G A 153 B (entX G B w) X (some (.int out))) args s 0 0 A) (F0 m 0 ls []) := by
  refine lv_aload_n C.1 C.2.1 dX8_form_0 rfl (lv_at hl 0 rfl) ?_
  refine gf_X8_12 C hG rfl dX8_form_1 ?_
  refine lv_iload_n C.1 C.2.1 dX8_form_4 rfl (lv_at hl 1 rfl) ?_
  obtain ⟨v1, hv1, hf⟩ := of_bind hf
  refine r_callV1 C hG hl.1 (c0 := 1) (As := [.int x1]) (by decide) (entX_O4 (n := 4) rfl) rfl (mt_X4_algebraAt l rfl hv1) (cwV 1 C.2.2.2.2.1 (gd_V tg_2_119 tg_2_120 tg_2_121 tg_1_2 tg_2_122) rfl rfl rfl cd_X4_algebraAt ⟨Nat.le_of_ble_eq_true rfl, Nat.le_of_ble_eq_true rfl⟩) rfl rfl (Nat.le_of_ble_eq_true rfl) dX8_form_5 (fun H locs hG => ?_)
  rcases of_ite hf with ⟨c2, hf⟩ | ⟨c2, hf⟩
  · refine r_rvN c2 ?_
    refine lv_astoreN (lv' := [(5, .null), (0, .ref (B + 0)), (1, .int x1), (2, .int x2), (3, .int x3), (4, .int x4)]) C.1 C.2.1 dX8_form_8 hl (by decide) rfl (fun ls hl => ?_)
    refine lv_aloadN C.1 C.2.1 dX8_form_10 (lv_at hl 0 rfl) ?_
    refine lv_ifnullN (tgt := 33) C.1 C.2.1 dX8_form_12 (by decide) ?_
    refine lv_iconst (v := (-1 : Int32)) C.1 C.2.1 dX8_form_33 (by decide) ?_
    obtain rfl := Option.some.inj hf
    exact r_iret C hG dX8_form_34
  · refine r_rvR c2 ?_
    obtain ⟨c3, hf⟩ := of_grd hf
    refine lv_astore (lv' := [(5, .ref (B + v1)), (0, .ref (B + 0)), (1, .int x1), (2, .int x2), (3, .int x3), (4, .int x4)]) C.1 C.2.1 dX8_form_8 hl (by decide) rfl (fun ls hl => ?_)
    refine lv_aload C.1 C.2.1 dX8_form_10 (lv_at hl 0 rfl) ?_
    refine lv_ifnull C.1 C.2.1 dX8_form_12 ?_
    refine lv_aload C.1 C.2.1 dX8_form_15 (lv_at hl 0 rfl) ?_
    refine lv_iload_n C.1 C.2.1 dX8_form_17 rfl (lv_at hl 3 rfl) ?_
    obtain ⟨v4, hv4, hf⟩ := of_bind hf
    refine r_callV1 C hG hl.1 (c0 := v1) (As := [.int x2]) (kdx_lt c3 (by decide)) (entX_O0 c3) rfl (mt_X0_has l c3 hv4) (cwV 1 C.2.2.2.2.1 (gd_V tg_2_131 tg_2_132 tg_2_133 tg_1_4 tg_2_134) rfl rfl rfl cd_X0_has ⟨Nat.le_of_ble_eq_true rfl, Nat.le_of_ble_eq_true rfl⟩) rfl rfl (Nat.le_of_ble_eq_true rfl) dX8_form_18 (fun H locs hG => ?_)
    rcases of_ite hf with ⟨c5, hf⟩ | ⟨c5, hf⟩
    · refine lv_if_eq (tgt := 33) C.1 C.2.1 dX8_form_21 (by decide) (fun _ => ?_) (fun q => absurd c5 q)
      refine lv_iconst (v := (-1 : Int32)) C.1 C.2.1 dX8_form_33 (by decide) ?_
      obtain rfl := Option.some.inj hf
      exact r_iret C hG dX8_form_34
    · refine lv_if_eq (tgt := 33) C.1 C.2.1 dX8_form_21 (by decide) (fun q => absurd q c5) (fun _ => ?_)
      refine lv_aload C.1 C.2.1 dX8_form_24 (lv_at hl 0 rfl) ?_
      refine lv_iload_n C.1 C.2.1 dX8_form_26 rfl (lv_at hl 4 rfl) ?_
      obtain ⟨v6, hv6, hf⟩ := of_bind hf
      refine r_callV1 C hG hl.1 (c0 := v1) (As := [.int x3]) (kdx_lt c3 (by decide)) (entX_O0 c3) rfl (mt_X0_has l c3 hv6) (cwV 1 C.2.2.2.2.1 (gd_V tg_2_131 tg_2_132 tg_2_133 tg_1_4 tg_2_134) rfl rfl rfl cd_X0_has ⟨Nat.le_of_ble_eq_true rfl, Nat.le_of_ble_eq_true rfl⟩) rfl rfl (Nat.le_of_ble_eq_true rfl) dX8_form_27 (fun H locs hG => ?_)
      rcases of_ite hf with ⟨c7, hf⟩ | ⟨c7, hf⟩
      · refine lv_if_ne (tgt := 35) C.1 C.2.1 dX8_form_30 (by decide) (fun q => absurd c7 q) (fun _ => ?_)
        refine lv_iconst (v := (-1 : Int32)) C.1 C.2.1 dX8_form_33 (by decide) ?_
        obtain rfl := Option.some.inj hf
        exact r_iret C hG dX8_form_34
      · refine lv_if_ne (tgt := 35) C.1 C.2.1 dX8_form_30 (by decide) (fun _ => ?_) (fun q => absurd q c7)
        refine lv_iload C.1 C.2.1 dX8_form_35 (lv_at hl 5 rfl) ?_
        rcases of_ite hf with ⟨c8, hf⟩ | ⟨c8, hf⟩
        · refine lv_lookup (tgt := 64) (off := 27) C.1 C.2.1 dX8_form_37 (by decide) (by rw [c8]; rfl) (by decide) ?_
          refine lv_aload C.1 C.2.1 dX8_form_64 (lv_at hl 0 rfl) ?_
          refine lv_iload_n C.1 C.2.1 dX8_form_66 rfl (lv_at hl 3 rfl) ?_
          refine lv_iload_n C.1 C.2.1 dX8_form_67 rfl (lv_at hl 4 rfl) ?_
          obtain ⟨v9, hv9, hf⟩ := of_bind hf
          refine r_callV1 C hG hl.1 (c0 := v1) (As := [.int x2, .int x3]) (kdx_lt c3 (by decide)) (entX_O0 c3) rfl (mt_X0_formOf l c3 hv9) (cwV 2 C.2.2.2.2.1 (gd_V tg_2_143 tg_2_100 tg_2_101 tg_1_4 tg_2_102) rfl rfl rfl cd_X0_formOf ⟨Nat.le_of_ble_eq_true rfl, Nat.le_of_ble_eq_true rfl⟩) rfl rfl (Nat.le_of_ble_eq_true rfl) dX8_form_68 (fun H locs hG => ?_)
          obtain rfl := Option.some.inj hf
          exact r_iret C hG dX8_form_71
        · skip
          rcases of_ite hf with ⟨c10, hf⟩ | ⟨c10, hf⟩
          · refine lv_lookup (tgt := 72) (off := 35) C.1 C.2.1 dX8_form_37 (by decide) (by rw [c10]; rfl) (by decide) ?_
            refine lv_aload C.1 C.2.1 dX8_form_72 (lv_at hl 0 rfl) ?_
            refine lv_iload_n C.1 C.2.1 dX8_form_74 rfl (lv_at hl 3 rfl) ?_
            refine lv_iload_n C.1 C.2.1 dX8_form_75 rfl (lv_at hl 4 rfl) ?_
            obtain ⟨v11, hv11, hf⟩ := of_bind hf
            refine r_callV1 C hG hl.1 (c0 := v1) (As := [.int x2, .int x3]) (kdx_lt c3 (by decide)) (entX_O0 c3) rfl (mt_X0_turnedOf l c3 hv11) (cwV 2 C.2.2.2.2.1 (gd_V tg_2_144 tg_2_145 tg_2_146 tg_1_4 tg_2_147) rfl rfl rfl cd_X0_turnedOf ⟨Nat.le_of_ble_eq_true rfl, Nat.le_of_ble_eq_true rfl⟩) rfl rfl (Nat.le_of_ble_eq_true rfl) dX8_form_76 (fun H locs hG => ?_)
            obtain rfl := Option.some.inj hf
            exact r_iret C hG dX8_form_79
          · skip
            refine lv_lookup (tgt := 80) (off := 43) C.1 C.2.1 dX8_form_37 (by decide) (lk_out c8 c10) (by decide) ?_
            refine lv_iconst (v := (-1 : Int32)) C.1 C.2.1 dX8_form_80 (by decide) ?_
            obtain rfl := Option.some.inj hf
            exact r_iret C hG dX8_form_81
set_option maxRecDepth 100000 in
set_option maxHeartbeats 4000000 in
theorem mt_X8_form (l : Launch) {G : GG} {A : Nat → Prop} {B : Nat} {X : va_W} {x1 : Int32} {x2 : Int32} {x3 : Int32} {x4 : Int32} {w : WX} {out : Int32}  (hf : sh_X8_form x1 x2 x3 x4 w = some out) : MetW l yX8_form wc_X8_form rm_X8_form G A 153 B (entX G B w) X [.ref (B + 0), .int x1, .int x2, .int x3, .int x4] (some (.int out)) (entX G B w) := by
  refine Met.ofW (cc := cX8_form) (maxL := 6) (ret := (some .int)) (by decide) rfl ?_
  intro p e s m args below meth c s₁ B0 hml hv
  obtain ⟨rfl, hEv, hWd⟩ := hv
  have C : CX p s m _ meth c cX8_form 6 RX8 wc_X8_form (some .int) := ⟨B0.exec, B0.bytes, hml, findClass_of_methodNamed B0.named, atoms_spec (ws := wc_X8_form) B0.pre, B0.returns, B0.notSynchronized⟩
  have hl := lv_entry [.ref (B + 0), .int x1, .int x2, .int x3, .int x4] (n := 6) (Nat.le_of_ble_eq_true rfl)
  rw [lg_entry_eq]
  generalize (lg_sl [.ref (B + 0), .int x1, .int x2, .int x3, .int x4] ++ List.replicate (6 - (lg_sl [.ref (B + 0), .int x1, .int x2, .int x3, .int x4]).length) Slot.unset).toArray = ls at hl ⊢
  have hl : lv_has ls 6 [(0, .ref (B + 0)), (1, .int x1), (2, .int x2), (3, .int x3), (4, .int x4)] := hl
  exact kb_X8_form_0 C  ⟨hEv, hWd, va_S.rf⟩ hl hf
abbrev wc_X8_element : List Cond := Cond.code yX8_element cX8_element 5 (some .int) :: TG
abbrev rm_X8_element : Room := { frames := 3, cells := 0, slots := 0, locals := 121 }
theorem cd_X8_element : yX8_element.cls = RX8 ∧ yX8_element.cls ≠ "java/lang/invoke/MethodHandle" ∧ yX8_element.cls ≠ "java/lang/invoke/VarHandle" ∧ (parseMethodDescriptor yX8_element.desc).map (fun d => d.parameters.length) = some 3 := by decide +kernel
theorem dX8_element_0 : decode cX8_element 0 = .ok (.aload_n 0, 1) := by decide +kernel
theorem dX8_element_1 : decode cX8_element 1 = .ok (.getfield 12, 3) := by decide +kernel
theorem dX8_element_4 : decode cX8_element 4 = .ok (.iload_n 1, 1) := by decide +kernel
theorem dX8_element_5 : decode cX8_element 5 = .ok (.invokevirtual 93, 3) := by decide +kernel
theorem dX8_element_8 : decode cX8_element 8 = .ok (.astore 4, 2) := by decide +kernel
theorem dX8_element_10 : decode cX8_element 10 = .ok (.aload 4, 2) := by decide +kernel
theorem dX8_element_12 : decode cX8_element 12 = .ok (.ifnull 12, 3) := by decide +kernel
theorem dX8_element_15 : decode cX8_element 15 = .ok (.aload 4, 2) := by decide +kernel
theorem dX8_element_17 : decode cX8_element 17 = .ok (.iload_n 2, 1) := by decide +kernel
theorem dX8_element_18 : decode cX8_element 18 = .ok (.invokevirtual 109, 3) := by decide +kernel
theorem dX8_element_21 : decode cX8_element 21 = .ok (.ifCond .ne 5, 3) := by decide +kernel
theorem dX8_element_24 : decode cX8_element 24 = .ok (.iconst (-1), 1) := by decide +kernel
theorem dX8_element_25 : decode cX8_element 25 = .ok (.ireturn, 1) := by decide +kernel
theorem dX8_element_26 : decode cX8_element 26 = .ok (.iload_n 3, 1) := by decide +kernel
theorem dX8_element_27 : decode cX8_element 27 = .ok (.tableswitch 61 0 3 #[29, 37, 45, 53], 29) := by decide +kernel
theorem dX8_element_56 : decode cX8_element 56 = .ok (.aload 4, 2) := by decide +kernel
theorem dX8_element_58 : decode cX8_element 58 = .ok (.getfield 123, 3) := by decide +kernel
theorem dX8_element_61 : decode cX8_element 61 = .ok (.iload_n 2, 1) := by decide +kernel
theorem dX8_element_62 : decode cX8_element 62 = .ok (.iaload, 1) := by decide +kernel
theorem dX8_element_63 : decode cX8_element 63 = .ok (.ireturn, 1) := by decide +kernel
theorem dX8_element_64 : decode cX8_element 64 = .ok (.aload 4, 2) := by decide +kernel
theorem dX8_element_66 : decode cX8_element 66 = .ok (.getfield 126, 3) := by decide +kernel
theorem dX8_element_69 : decode cX8_element 69 = .ok (.iload_n 2, 1) := by decide +kernel
theorem dX8_element_70 : decode cX8_element 70 = .ok (.iaload, 1) := by decide +kernel
theorem dX8_element_71 : decode cX8_element 71 = .ok (.ireturn, 1) := by decide +kernel
theorem dX8_element_72 : decode cX8_element 72 = .ok (.aload 4, 2) := by decide +kernel
theorem dX8_element_74 : decode cX8_element 74 = .ok (.getfield 129, 3) := by decide +kernel
theorem dX8_element_77 : decode cX8_element 77 = .ok (.iload_n 2, 1) := by decide +kernel
theorem dX8_element_78 : decode cX8_element 78 = .ok (.iaload, 1) := by decide +kernel
theorem dX8_element_79 : decode cX8_element 79 = .ok (.ireturn, 1) := by decide +kernel
theorem dX8_element_80 : decode cX8_element 80 = .ok (.aload 4, 2) := by decide +kernel
theorem dX8_element_82 : decode cX8_element 82 = .ok (.getfield 132, 3) := by decide +kernel
theorem dX8_element_85 : decode cX8_element 85 = .ok (.iload_n 2, 1) := by decide +kernel
theorem dX8_element_86 : decode cX8_element 86 = .ok (.iaload, 1) := by decide +kernel
theorem dX8_element_87 : decode cX8_element 87 = .ok (.ireturn, 1) := by decide +kernel
theorem dX8_element_88 : decode cX8_element 88 = .ok (.iconst (-1), 1) := by decide +kernel
theorem dX8_element_89 : decode cX8_element 89 = .ok (.ireturn, 1) := by decide +kernel
set_option maxRecDepth 100000 in
set_option maxHeartbeats 4000000 in
theorem kb_X8_element_0 {x1 : Int32} {x2 : Int32} {x3 : Int32} {w : WX} {out : Int32} {H : Heap} {locs : List Loc} {ls : Array Slot} (C : CX p s m args meth c cX8_element 5 RX8 wc_X8_element (some .int))  (hG : Gd s G A 153 B (entX G B w) X H locs) (hl : lv_has ls 5 [(0, .ref (B + 0)), (1, .int x1), (2, .int x2), (3, .int x3)]) (hf : sh_X8_element x1 x2 x3 w = some out) :
    W p l e rm_X8_element s m args below meth c H locs 0 0 (MQ below (CPost G A 153 B (entX G B w) X (some (.int out))) args s 0 0 A) (F0 m 0 ls []) := by
  refine lv_aload_n C.1 C.2.1 dX8_element_0 rfl (lv_at hl 0 rfl) ?_
  refine gf_X8_12 C hG rfl dX8_element_1 ?_
  refine lv_iload_n C.1 C.2.1 dX8_element_4 rfl (lv_at hl 1 rfl) ?_
  obtain ⟨v1, hv1, hf⟩ := of_bind hf
  refine r_callV1 C hG hl.1 (c0 := 1) (As := [.int x1]) (by decide) (entX_O4 (n := 4) rfl) rfl (mt_X4_algebraAt l rfl hv1) (cwV 1 C.2.2.2.2.1 (gd_V tg_2_119 tg_2_120 tg_2_121 tg_1_2 tg_2_122) rfl rfl rfl cd_X4_algebraAt ⟨Nat.le_of_ble_eq_true rfl, Nat.le_of_ble_eq_true rfl⟩) rfl rfl (Nat.le_of_ble_eq_true rfl) dX8_element_5 (fun H locs hG => ?_)
  rcases of_ite hf with ⟨c2, hf⟩ | ⟨c2, hf⟩
  · refine r_rvN c2 ?_
    refine lv_astoreN (lv' := [(4, .null), (0, .ref (B + 0)), (1, .int x1), (2, .int x2), (3, .int x3)]) C.1 C.2.1 dX8_element_8 hl (by decide) rfl (fun ls hl => ?_)
    refine lv_aloadN C.1 C.2.1 dX8_element_10 (lv_at hl 0 rfl) ?_
    refine lv_ifnullN (tgt := 24) C.1 C.2.1 dX8_element_12 (by decide) ?_
    refine lv_iconst (v := (-1 : Int32)) C.1 C.2.1 dX8_element_24 (by decide) ?_
    obtain rfl := Option.some.inj hf
    exact r_iret C hG dX8_element_25
  · refine r_rvR c2 ?_
    obtain ⟨c3, hf⟩ := of_grd hf
    refine lv_astore (lv' := [(4, .ref (B + v1)), (0, .ref (B + 0)), (1, .int x1), (2, .int x2), (3, .int x3)]) C.1 C.2.1 dX8_element_8 hl (by decide) rfl (fun ls hl => ?_)
    refine lv_aload C.1 C.2.1 dX8_element_10 (lv_at hl 0 rfl) ?_
    refine lv_ifnull C.1 C.2.1 dX8_element_12 ?_
    refine lv_aload C.1 C.2.1 dX8_element_15 (lv_at hl 0 rfl) ?_
    refine lv_iload_n C.1 C.2.1 dX8_element_17 rfl (lv_at hl 3 rfl) ?_
    obtain ⟨v4, hv4, hf⟩ := of_bind hf
    refine r_callV1 C hG hl.1 (c0 := v1) (As := [.int x2]) (kdx_lt c3 (by decide)) (entX_O0 c3) rfl (mt_X0_has l c3 hv4) (cwV 1 C.2.2.2.2.1 (gd_V tg_2_131 tg_2_132 tg_2_133 tg_1_4 tg_2_134) rfl rfl rfl cd_X0_has ⟨Nat.le_of_ble_eq_true rfl, Nat.le_of_ble_eq_true rfl⟩) rfl rfl (Nat.le_of_ble_eq_true rfl) dX8_element_18 (fun H locs hG => ?_)
    rcases of_ite hf with ⟨c5, hf⟩ | ⟨c5, hf⟩
    · refine lv_if_ne (tgt := 26) C.1 C.2.1 dX8_element_21 (by decide) (fun q => absurd c5 q) (fun _ => ?_)
      refine lv_iconst (v := (-1 : Int32)) C.1 C.2.1 dX8_element_24 (by decide) ?_
      obtain rfl := Option.some.inj hf
      exact r_iret C hG dX8_element_25
    · refine lv_if_ne (tgt := 26) C.1 C.2.1 dX8_element_21 (by decide) (fun _ => ?_) (fun q => absurd q c5)
      refine lv_iload_n C.1 C.2.1 dX8_element_26 rfl (lv_at hl 4 rfl) ?_
      rcases of_ite hf with ⟨c6, hf⟩ | ⟨c6, hf⟩
      · refine lv_tableIn (tgt := 56) (off := 29) C.1 C.2.1 dX8_element_27 (by rw [c6]; decide) (by rw [c6]; decide) (by rw [c6]; rfl) (by decide) ?_
        refine lv_aload C.1 C.2.1 dX8_element_56 (lv_at hl 0 rfl) ?_
        refine gf_X8_123 C hG c3 dX8_element_58 ?_
        refine lv_iload_n C.1 C.2.1 dX8_element_61 rfl (lv_at hl 3 rfl) ?_
        obtain ⟨v7, hv7, hf⟩ := of_bind hf
        obtain ⟨bv7, ev7⟩ := of_ldS hv7
        refine r_iald C hG (c0 := (v1 + 4)) (kdx_lt (kx_0_7 c3) (by decide)) (entX_I (kx_0_7 c3)) bv7 dX8_element_62 ?_
        refine r_top ev7 ?_
        obtain rfl := Option.some.inj hf
        exact r_iret C hG dX8_element_63
      · skip
        rcases of_ite hf with ⟨c8, hf⟩ | ⟨c8, hf⟩
        · refine lv_tableIn (tgt := 64) (off := 37) C.1 C.2.1 dX8_element_27 (by rw [c8]; decide) (by rw [c8]; decide) (by rw [c8]; rfl) (by decide) ?_
          refine lv_aload C.1 C.2.1 dX8_element_64 (lv_at hl 0 rfl) ?_
          refine gf_X8_126 C hG c3 dX8_element_66 ?_
          refine lv_iload_n C.1 C.2.1 dX8_element_69 rfl (lv_at hl 3 rfl) ?_
          obtain ⟨v9, hv9, hf⟩ := of_bind hf
          obtain ⟨bv9, ev9⟩ := of_ldS hv9
          refine r_iald C hG (c0 := (v1 + 5)) (kdx_lt (kx_0_8 c3) (by decide)) (entX_I (kx_0_8 c3)) bv9 dX8_element_70 ?_
          refine r_top ev9 ?_
          obtain rfl := Option.some.inj hf
          exact r_iret C hG dX8_element_71
        · skip
          rcases of_ite hf with ⟨c10, hf⟩ | ⟨c10, hf⟩
          · refine lv_tableIn (tgt := 72) (off := 45) C.1 C.2.1 dX8_element_27 (by rw [c10]; decide) (by rw [c10]; decide) (by rw [c10]; rfl) (by decide) ?_
            refine lv_aload C.1 C.2.1 dX8_element_72 (lv_at hl 0 rfl) ?_
            refine gf_X8_129 C hG c3 dX8_element_74 ?_
            refine lv_iload_n C.1 C.2.1 dX8_element_77 rfl (lv_at hl 3 rfl) ?_
            obtain ⟨v11, hv11, hf⟩ := of_bind hf
            obtain ⟨bv11, ev11⟩ := of_ldS hv11
            refine r_iald C hG (c0 := (v1 + 6)) (kdx_lt (kx_0_9 c3) (by decide)) (entX_I (kx_0_9 c3)) bv11 dX8_element_78 ?_
            refine r_top ev11 ?_
            obtain rfl := Option.some.inj hf
            exact r_iret C hG dX8_element_79
          · skip
            rcases of_ite hf with ⟨c12, hf⟩ | ⟨c12, hf⟩
            · refine lv_tableIn (tgt := 80) (off := 53) C.1 C.2.1 dX8_element_27 (by rw [c12]; decide) (by rw [c12]; decide) (by rw [c12]; rfl) (by decide) ?_
              refine lv_aload C.1 C.2.1 dX8_element_80 (lv_at hl 0 rfl) ?_
              refine gf_X8_132 C hG c3 dX8_element_82 ?_
              refine lv_iload_n C.1 C.2.1 dX8_element_85 rfl (lv_at hl 3 rfl) ?_
              obtain ⟨v13, hv13, hf⟩ := of_bind hf
              obtain ⟨bv13, ev13⟩ := of_ldS hv13
              refine r_iald C hG (c0 := (v1 + 7)) (kdx_lt (kx_0_10 c3) (by decide)) (entX_I (kx_0_10 c3)) bv13 dX8_element_86 ?_
              refine r_top ev13 ?_
              obtain rfl := Option.some.inj hf
              exact r_iret C hG dX8_element_87
            · skip
              refine lv_tableOut (tgt := 88) C.1 C.2.1 dX8_element_27 (sw_out (n := 4) (by decide) (lt_s (lt_s (lt_s (lt_s lt_0 c6) c8) c10) c12)) (by decide) ?_
              refine lv_iconst (v := (-1 : Int32)) C.1 C.2.1 dX8_element_88 (by decide) ?_
              obtain rfl := Option.some.inj hf
              exact r_iret C hG dX8_element_89
set_option maxRecDepth 100000 in
set_option maxHeartbeats 4000000 in
theorem mt_X8_element (l : Launch) {G : GG} {A : Nat → Prop} {B : Nat} {X : va_W} {x1 : Int32} {x2 : Int32} {x3 : Int32} {w : WX} {out : Int32}  (hf : sh_X8_element x1 x2 x3 w = some out) : MetW l yX8_element wc_X8_element rm_X8_element G A 153 B (entX G B w) X [.ref (B + 0), .int x1, .int x2, .int x3] (some (.int out)) (entX G B w) := by
  refine Met.ofW (cc := cX8_element) (maxL := 5) (ret := (some .int)) (by decide) rfl ?_
  intro p e s m args below meth c s₁ B0 hml hv
  obtain ⟨rfl, hEv, hWd⟩ := hv
  have C : CX p s m _ meth c cX8_element 5 RX8 wc_X8_element (some .int) := ⟨B0.exec, B0.bytes, hml, findClass_of_methodNamed B0.named, atoms_spec (ws := wc_X8_element) B0.pre, B0.returns, B0.notSynchronized⟩
  have hl := lv_entry [.ref (B + 0), .int x1, .int x2, .int x3] (n := 5) (Nat.le_of_ble_eq_true rfl)
  rw [lg_entry_eq]
  generalize (lg_sl [.ref (B + 0), .int x1, .int x2, .int x3] ++ List.replicate (5 - (lg_sl [.ref (B + 0), .int x1, .int x2, .int x3]).length) Slot.unset).toArray = ls at hl ⊢
  have hl : lv_has ls 5 [(0, .ref (B + 0)), (1, .int x1), (2, .int x2), (3, .int x3)] := hl
  exact kb_X8_element_0 C  ⟨hEv, hWd, va_S.rf⟩ hl hf
end
