section
variable {p : Program} {l : Launch} {e : Env} {s : State} {m : MethodId} {args : Array Value} {below : List Frame} {meth : Method} {c : Code} {Q : State → Prop} {G : GG} {A : Nat → Prop} {N B : Nat} {E : Nat → va_E} {X : va_W}
abbrev wc_X0_multiplyStanding : List Cond := Cond.code yX0_multiplyStanding cX0_multiplyStanding 6 none :: TG
abbrev rm_X0_multiplyStanding : Room := { frames := 3, cells := 0, slots := 0, locals := 122 }
theorem cd_X0_multiplyStanding : yX0_multiplyStanding.cls = RX0 ∧ yX0_multiplyStanding.cls ≠ "java/lang/invoke/MethodHandle" ∧ yX0_multiplyStanding.cls ≠ "java/lang/invoke/VarHandle" ∧ (parseMethodDescriptor yX0_multiplyStanding.desc).map (fun d => d.parameters.length) = some 1 := by decide +kernel
theorem dX0_multiplyStanding_0 : decode cX0_multiplyStanding 0 = .ok (.iconst 0, 1) := by decide +kernel
theorem dX0_multiplyStanding_1 : decode cX0_multiplyStanding 1 = .ok (.istore_n 2, 1) := by decide +kernel
theorem dX0_multiplyStanding_2 : decode cX0_multiplyStanding 2 = .ok (.iload_n 2, 1) := by decide +kernel
theorem dX0_multiplyStanding_3 : decode cX0_multiplyStanding 3 = .ok (.aload_n 0, 1) := by decide +kernel
theorem dX0_multiplyStanding_4 : decode cX0_multiplyStanding 4 = .ok (.getfield 49, 3) := by decide +kernel
theorem dX0_multiplyStanding_7 : decode cX0_multiplyStanding 7 = .ok (.if_icmp .ge 16, 3) := by decide +kernel
theorem dX0_multiplyStanding_10 : decode cX0_multiplyStanding 10 = .ok (.aload_n 0, 1) := by decide +kernel
theorem dX0_multiplyStanding_11 : decode cX0_multiplyStanding 11 = .ok (.getfield 36, 3) := by decide +kernel
theorem dX0_multiplyStanding_14 : decode cX0_multiplyStanding 14 = .ok (.iload_n 2, 1) := by decide +kernel
theorem dX0_multiplyStanding_15 : decode cX0_multiplyStanding 15 = .ok (.iconst 0, 1) := by decide +kernel
theorem dX0_multiplyStanding_16 : decode cX0_multiplyStanding 16 = .ok (.iastore, 1) := by decide +kernel
theorem dX0_multiplyStanding_17 : decode cX0_multiplyStanding 17 = .ok (.iinc 2 1, 3) := by decide +kernel
theorem dX0_multiplyStanding_20 : decode cX0_multiplyStanding 20 = .ok (.goto (-18), 3) := by decide +kernel
theorem dX0_multiplyStanding_23 : decode cX0_multiplyStanding 23 = .ok (.iconst 0, 1) := by decide +kernel
theorem dX0_multiplyStanding_24 : decode cX0_multiplyStanding 24 = .ok (.istore_n 2, 1) := by decide +kernel
theorem dX0_multiplyStanding_25 : decode cX0_multiplyStanding 25 = .ok (.iload_n 2, 1) := by decide +kernel
theorem dX0_multiplyStanding_26 : decode cX0_multiplyStanding 26 = .ok (.aload_n 0, 1) := by decide +kernel
theorem dX0_multiplyStanding_27 : decode cX0_multiplyStanding 27 = .ok (.getfield 49, 3) := by decide +kernel
theorem dX0_multiplyStanding_30 : decode cX0_multiplyStanding 30 = .ok (.if_icmp .ge 83, 3) := by decide +kernel
theorem dX0_multiplyStanding_33 : decode cX0_multiplyStanding 33 = .ok (.iconst 0, 1) := by decide +kernel
theorem dX0_multiplyStanding_34 : decode cX0_multiplyStanding 34 = .ok (.istore_n 3, 1) := by decide +kernel
theorem dX0_multiplyStanding_35 : decode cX0_multiplyStanding 35 = .ok (.iload_n 3, 1) := by decide +kernel
theorem dX0_multiplyStanding_36 : decode cX0_multiplyStanding 36 = .ok (.aload_n 0, 1) := by decide +kernel
theorem dX0_multiplyStanding_37 : decode cX0_multiplyStanding 37 = .ok (.getfield 49, 3) := by decide +kernel
theorem dX0_multiplyStanding_40 : decode cX0_multiplyStanding 40 = .ok (.if_icmp .ge 67, 3) := by decide +kernel
theorem dX0_multiplyStanding_43 : decode cX0_multiplyStanding 43 = .ok (.aload_n 0, 1) := by decide +kernel
theorem dX0_multiplyStanding_44 : decode cX0_multiplyStanding 44 = .ok (.getfield 9, 3) := by decide +kernel
theorem dX0_multiplyStanding_47 : decode cX0_multiplyStanding 47 = .ok (.aload_n 0, 1) := by decide +kernel
theorem dX0_multiplyStanding_48 : decode cX0_multiplyStanding 48 = .ok (.iload_n 2, 1) := by decide +kernel
theorem dX0_multiplyStanding_49 : decode cX0_multiplyStanding 49 = .ok (.iload_n 3, 1) := by decide +kernel
theorem dX0_multiplyStanding_50 : decode cX0_multiplyStanding 50 = .ok (.invokevirtual 56, 3) := by decide +kernel
theorem dX0_multiplyStanding_53 : decode cX0_multiplyStanding 53 = .ok (.iaload, 1) := by decide +kernel
theorem dX0_multiplyStanding_54 : decode cX0_multiplyStanding 54 = .ok (.istore 4, 2) := by decide +kernel
theorem dX0_multiplyStanding_56 : decode cX0_multiplyStanding 56 = .ok (.iconst 0, 1) := by decide +kernel
theorem dX0_multiplyStanding_57 : decode cX0_multiplyStanding 57 = .ok (.aload_n 0, 1) := by decide +kernel
theorem dX0_multiplyStanding_58 : decode cX0_multiplyStanding 58 = .ok (.getfield 33, 3) := by decide +kernel
theorem dX0_multiplyStanding_61 : decode cX0_multiplyStanding 61 = .ok (.iload_n 2, 1) := by decide +kernel
theorem dX0_multiplyStanding_62 : decode cX0_multiplyStanding 62 = .ok (.iaload, 1) := by decide +kernel
theorem dX0_multiplyStanding_63 : decode cX0_multiplyStanding 63 = .ok (.aload_n 1, 1) := by decide +kernel
theorem dX0_multiplyStanding_64 : decode cX0_multiplyStanding 64 = .ok (.iload_n 3, 1) := by decide +kernel
theorem dX0_multiplyStanding_65 : decode cX0_multiplyStanding 65 = .ok (.iaload, 1) := by decide +kernel
theorem dX0_multiplyStanding_66 : decode cX0_multiplyStanding 66 = .ok (.invokestatic 94, 3) := by decide +kernel
theorem dX0_multiplyStanding_69 : decode cX0_multiplyStanding 69 = .ok (.istore 5, 2) := by decide +kernel
theorem dX0_multiplyStanding_71 : decode cX0_multiplyStanding 71 = .ok (.aload_n 0, 1) := by decide +kernel
theorem dX0_multiplyStanding_72 : decode cX0_multiplyStanding 72 = .ok (.getfield 36, 3) := by decide +kernel
theorem dX0_multiplyStanding_75 : decode cX0_multiplyStanding 75 = .ok (.iload 4, 2) := by decide +kernel
theorem dX0_multiplyStanding_77 : decode cX0_multiplyStanding 77 = .ok (.aload_n 0, 1) := by decide +kernel
theorem dX0_multiplyStanding_78 : decode cX0_multiplyStanding 78 = .ok (.getfield 36, 3) := by decide +kernel
theorem dX0_multiplyStanding_81 : decode cX0_multiplyStanding 81 = .ok (.iload 4, 2) := by decide +kernel
theorem dX0_multiplyStanding_83 : decode cX0_multiplyStanding 83 = .ok (.iaload, 1) := by decide +kernel
theorem dX0_multiplyStanding_84 : decode cX0_multiplyStanding 84 = .ok (.iload 5, 2) := by decide +kernel
theorem dX0_multiplyStanding_86 : decode cX0_multiplyStanding 86 = .ok (.aload_n 0, 1) := by decide +kernel
theorem dX0_multiplyStanding_87 : decode cX0_multiplyStanding 87 = .ok (.getfield 15, 3) := by decide +kernel
theorem dX0_multiplyStanding_90 : decode cX0_multiplyStanding 90 = .ok (.aload_n 0, 1) := by decide +kernel
theorem dX0_multiplyStanding_91 : decode cX0_multiplyStanding 91 = .ok (.iload_n 2, 1) := by decide +kernel
theorem dX0_multiplyStanding_92 : decode cX0_multiplyStanding 92 = .ok (.iload_n 3, 1) := by decide +kernel
theorem dX0_multiplyStanding_93 : decode cX0_multiplyStanding 93 = .ok (.invokevirtual 56, 3) := by decide +kernel
theorem dX0_multiplyStanding_96 : decode cX0_multiplyStanding 96 = .ok (.iaload, 1) := by decide +kernel
theorem dX0_multiplyStanding_97 : decode cX0_multiplyStanding 97 = .ok (.invokestatic 94, 3) := by decide +kernel
theorem dX0_multiplyStanding_100 : decode cX0_multiplyStanding 100 = .ok (.iastore, 1) := by decide +kernel
theorem dX0_multiplyStanding_101 : decode cX0_multiplyStanding 101 = .ok (.iinc 3 1, 3) := by decide +kernel
theorem dX0_multiplyStanding_104 : decode cX0_multiplyStanding 104 = .ok (.goto (-69), 3) := by decide +kernel
theorem dX0_multiplyStanding_107 : decode cX0_multiplyStanding 107 = .ok (.iinc 2 1, 3) := by decide +kernel
theorem dX0_multiplyStanding_110 : decode cX0_multiplyStanding 110 = .ok (.goto (-85), 3) := by decide +kernel
theorem dX0_multiplyStanding_113 : decode cX0_multiplyStanding 113 = .ok (.aload_n 0, 1) := by decide +kernel
theorem dX0_multiplyStanding_114 : decode cX0_multiplyStanding 114 = .ok (.getfield 33, 3) := by decide +kernel
theorem dX0_multiplyStanding_117 : decode cX0_multiplyStanding 117 = .ok (.astore_n 2, 1) := by decide +kernel
theorem dX0_multiplyStanding_118 : decode cX0_multiplyStanding 118 = .ok (.aload_n 0, 1) := by decide +kernel
theorem dX0_multiplyStanding_119 : decode cX0_multiplyStanding 119 = .ok (.aload_n 0, 1) := by decide +kernel
theorem dX0_multiplyStanding_120 : decode cX0_multiplyStanding 120 = .ok (.getfield 36, 3) := by decide +kernel
theorem dX0_multiplyStanding_123 : decode cX0_multiplyStanding 123 = .ok (.putfield 33, 3) := by decide +kernel
theorem dX0_multiplyStanding_126 : decode cX0_multiplyStanding 126 = .ok (.aload_n 0, 1) := by decide +kernel
theorem dX0_multiplyStanding_127 : decode cX0_multiplyStanding 127 = .ok (.aload_n 2, 1) := by decide +kernel
theorem dX0_multiplyStanding_128 : decode cX0_multiplyStanding 128 = .ok (.putfield 36, 3) := by decide +kernel
theorem dX0_multiplyStanding_131 : decode cX0_multiplyStanding 131 = .ok (.return_, 1) := by decide +kernel
set_option maxRecDepth 100000 in
set_option maxHeartbeats 4000000 in
theorem kb_X0_multiplyStanding_2 {th : Nat} {x1 : Nat} {st : Int32 × WX} {r : (Int32 × WX) ⊕ ((WX))} {H : Heap} {locs : List Loc} {ls : Array Slot} (C : CX p s m args meth c cX0_multiplyStanding 6 RX0 wc_X0_multiplyStanding none) (hth : KDx th = (0, 13)) (h1 : (KDx x1).1 = 10) (hG : Gd s G A 153 B (entX G B st.2) X H locs) (hl : lv_has ls 6 [(0, .ref (B + th)), (1, .ref (B + x1)), (2, .int st.1)]) (hf : sh_X0_multiplyStanding_s2 th x1 st = some r)
    (kL : ∀ st' : Int32 × WX, r = Sum.inl st' → ∀ (H : Heap) (locs : List Loc) (ls : Array Slot), Gd s G A 153 B (entX G B st'.2) X H locs → lv_has ls 6 [(0, .ref (B + th)), (1, .ref (B + x1)), (2, .int st'.1)] → W p l e rm_X0_multiplyStanding s m args below meth c H locs 0 0 Q (F0 m 2 ls []))
    (kX0 : ∀ y' : WX, r = Sum.inr y' → ∀ (H : Heap) (locs : List Loc) (ls : Array Slot), Gd s G A 153 B (entX G B y') X H locs → lv_has ls 6 [(0, .ref (B + th)), (1, .ref (B + x1))] → W p l e rm_X0_multiplyStanding s m args below meth c H locs 0 0 Q (F0 m 23 ls [])) :
    W p l e rm_X0_multiplyStanding s m args below meth c H locs 0 0 Q (F0 m 2 ls []) := by
  refine lv_iload_n C.1 C.2.1 dX0_multiplyStanding_2 rfl (lv_at hl 2 rfl) ?_
  refine lv_aload_n C.1 C.2.1 dX0_multiplyStanding_3 rfl (lv_at hl 0 rfl) ?_
  refine gf_X0_49 C hG hth dX0_multiplyStanding_4 ?_
  rcases of_ite hf with ⟨c1, hf⟩ | ⟨c1, hf⟩
  · refine lv_icmp_ge (tgt := 23) C.1 C.2.1 dX0_multiplyStanding_7 (by decide) (fun _ => ?_) (fun q => absurd c1 q)
    obtain rfl := Option.some.inj hf
    exact kX0 _ rfl _ _ _ hG (lv_sub hl [0, 1] rfl)
  · refine lv_icmp_ge (tgt := 23) C.1 C.2.1 dX0_multiplyStanding_7 (by decide) (fun q => absurd q c1) (fun _ => ?_)
    refine lv_aload_n C.1 C.2.1 dX0_multiplyStanding_10 rfl (lv_at hl 0 rfl) ?_
    refine gf_X0_36 C hG hth dX0_multiplyStanding_11 ?_
    refine lv_iload_n C.1 C.2.1 dX0_multiplyStanding_14 rfl (lv_at hl 2 rfl) ?_
    refine lv_iconst (v := nI 0) C.1 C.2.1 dX0_multiplyStanding_15 (by decide) ?_
    obtain ⟨w2, hw2, hf⟩ := of_bind hf
    obtain ⟨kw2, bw2, ew2⟩ := of_stDX hw2
    refine r_iast C hG (c0 := st.2.2 th 12) (kdx_lt (kd_eta kw2) (by decide)) (entX_I (kd_eta kw2)) bw2 (E' := (entX G B w2)) (by rw [ew2]; exact upX_I (kd_eta kw2)) dX0_multiplyStanding_16 (fun H locs hG => ?_)
    obtain ⟨v3, ev3, hf⟩ := of_letv hf
    refine lv_iinc (v := v3) (lv' := [(2, .int v3), (0, .ref (B + th)), (1, .ref (B + x1))]) C.1 C.2.1 dX0_multiplyStanding_17 hl (k := 2) rfl (by rw [ev3, show Int32.ofInt (1) = nI 1 from by decide]) (by decide) rfl (fun ls hl => ?_)
    refine lv_goto (tgt := 2) C.1 C.2.1 dX0_multiplyStanding_20 (by decide) ?_
    obtain rfl := Option.some.inj hf
    exact kL _ rfl _ _ _ hG (lv_sub hl [1, 2, 0] rfl)
set_option maxRecDepth 100000 in
set_option maxHeartbeats 4000000 in
theorem kl_X0_multiplyStanding_2 {th : Nat} {x1 : Nat} (C : CX p s m args meth c cX0_multiplyStanding 6 RX0 wc_X0_multiplyStanding none) (hth : KDx th = (0, 13)) (h1 : (KDx x1).1 = 10) : ∀ (n : Nat) (st : Int32 × WX) (x : (WX)) (H : Heap) (locs : List Loc) (ls : Array Slot), Gd s G A 153 B (entX G B st.2) X H locs → lv_has ls 6 [(0, .ref (B + th)), (1, .ref (B + x1)), (2, .int st.1)] → lpw (sh_X0_multiplyStanding_s2 th x1) n st = some x →
    (∀ y' : WX, x = y' → ∀ (H : Heap) (locs : List Loc) (ls : Array Slot), Gd s G A 153 B (entX G B y') X H locs → lv_has ls 6 [(0, .ref (B + th)), (1, .ref (B + x1))] → W p l e rm_X0_multiplyStanding s m args below meth c H locs 0 0 Q (F0 m 23 ls [])) → W p l e rm_X0_multiplyStanding s m args below meth c H locs 0 0 Q (F0 m 2 ls []) := by
  intro n
  induction n with
  | zero =>
    intro st x H locs ls hG hl hf
    cases hf
  | succ n ih =>
    intro st x H locs ls hG hl hf kX0
    obtain ⟨r, hr, hh⟩ := of_lpw hf
    refine kb_X0_multiplyStanding_2 C hth h1 hG hl hr (fun st2 e1 H locs ls hG hl => ?_) (fun y2 e1 H locs ls hG hl => ?_)
    · rcases hh with ⟨s3, e2, hh⟩ | e2
      · rw [e2] at e1
        cases e1
        exact ih _ _ _ _ _ hG hl hh kX0
      · rw [e2] at e1
        cases e1
    · rcases hh with ⟨s3, e2, hh⟩ | e2
      · rw [e2] at e1
        cases e1
      · rw [e2] at e1
        cases e1
        exact kX0 _ rfl _ _ _ hG hl
set_option maxRecDepth 100000 in
set_option maxHeartbeats 4000000 in
theorem kb_X0_multiplyStanding_35 {th : Nat} {x1 : Nat} {x2 : Int32} {st : Int32 × WX} {r : (Int32 × WX) ⊕ ((WX))} {H : Heap} {locs : List Loc} {ls : Array Slot} (C : CX p s m args meth c cX0_multiplyStanding 6 RX0 wc_X0_multiplyStanding none) (hth : KDx th = (0, 13)) (h1 : (KDx x1).1 = 10) (hG : Gd s G A 153 B (entX G B st.2) X H locs) (hl : lv_has ls 6 [(0, .ref (B + th)), (1, .ref (B + x1)), (2, .int x2), (3, .int st.1)]) (hf : sh_X0_multiplyStanding_s35 th x1 x2 st = some r)
    (kL : ∀ st' : Int32 × WX, r = Sum.inl st' → ∀ (H : Heap) (locs : List Loc) (ls : Array Slot), Gd s G A 153 B (entX G B st'.2) X H locs → lv_has ls 6 [(0, .ref (B + th)), (1, .ref (B + x1)), (2, .int x2), (3, .int st'.1)] → W p l e rm_X0_multiplyStanding s m args below meth c H locs 0 0 Q (F0 m 35 ls []))
    (kX0 : ∀ y' : WX, r = Sum.inr y' → ∀ (H : Heap) (locs : List Loc) (ls : Array Slot), Gd s G A 153 B (entX G B y') X H locs → lv_has ls 6 [(0, .ref (B + th)), (1, .ref (B + x1)), (2, .int x2)] → W p l e rm_X0_multiplyStanding s m args below meth c H locs 0 0 Q (F0 m 107 ls [])) :
    W p l e rm_X0_multiplyStanding s m args below meth c H locs 0 0 Q (F0 m 35 ls []) := by
  refine lv_iload_n C.1 C.2.1 dX0_multiplyStanding_35 rfl (lv_at hl 3 rfl) ?_
  refine lv_aload_n C.1 C.2.1 dX0_multiplyStanding_36 rfl (lv_at hl 0 rfl) ?_
  refine gf_X0_49 C hG hth dX0_multiplyStanding_37 ?_
  rcases of_ite hf with ⟨c1, hf⟩ | ⟨c1, hf⟩
  · refine lv_icmp_ge (tgt := 107) C.1 C.2.1 dX0_multiplyStanding_40 (by decide) (fun _ => ?_) (fun q => absurd c1 q)
    obtain rfl := Option.some.inj hf
    exact kX0 _ rfl _ _ _ hG (lv_sub hl [0, 1, 2] rfl)
  · refine lv_icmp_ge (tgt := 107) C.1 C.2.1 dX0_multiplyStanding_40 (by decide) (fun q => absurd q c1) (fun _ => ?_)
    refine lv_aload_n C.1 C.2.1 dX0_multiplyStanding_43 rfl (lv_at hl 0 rfl) ?_
    refine gf_X0_9 C hG hth dX0_multiplyStanding_44 ?_
    refine lv_aload_n C.1 C.2.1 dX0_multiplyStanding_47 rfl (lv_at hl 0 rfl) ?_
    refine lv_iload_n C.1 C.2.1 dX0_multiplyStanding_48 rfl (lv_at hl 2 rfl) ?_
    refine lv_iload_n C.1 C.2.1 dX0_multiplyStanding_49 rfl (lv_at hl 3 rfl) ?_
    obtain ⟨v2, hv2, hf⟩ := of_bind hf
    refine r_callV1 C hG hl.1 (c0 := th) (As := [.int x2, .int st.1]) (kdx_lt hth (by decide)) (entX_O0 hth) rfl (mt_X0_at l hth hv2) (cwV 2 C.2.2.2.2.1 (gd_V tg_2_68 tg_2_70 tgp_1 tg_1_4 tg_2_71) rfl rfl rfl cd_X0_at ⟨Nat.le_of_ble_eq_true rfl, Nat.le_of_ble_eq_true rfl⟩) rfl rfl (Nat.le_of_ble_eq_true rfl) dX0_multiplyStanding_50 (fun H locs hG => ?_)
    obtain ⟨v3, hv3, hf⟩ := of_bind hf
    obtain ⟨bv3, ev3⟩ := of_ldS hv3
    refine r_iald C hG (c0 := (th + 1)) (kdx_lt (kx_0_4 hth) (by decide)) (entX_I (kx_0_4 hth)) bv3 dX0_multiplyStanding_53 ?_
    refine r_top ev3 ?_
    refine lv_istore (lv' := [(4, .int v3), (0, .ref (B + th)), (1, .ref (B + x1)), (2, .int x2), (3, .int st.1)]) C.1 C.2.1 dX0_multiplyStanding_54 hl (by decide) rfl (fun ls hl => ?_)
    refine lv_iconst (v := nI 0) C.1 C.2.1 dX0_multiplyStanding_56 (by decide) ?_
    refine lv_aload_n C.1 C.2.1 dX0_multiplyStanding_57 rfl (lv_at hl 1 rfl) ?_
    refine gf_X0_33 C hG hth dX0_multiplyStanding_58 ?_
    refine lv_iload_n C.1 C.2.1 dX0_multiplyStanding_61 rfl (lv_at hl 3 rfl) ?_
    obtain ⟨v4, hv4, hf⟩ := of_bind hf
    obtain ⟨kv4, bv4, ev4⟩ := of_ldD hv4
    refine r_iald C hG (c0 := st.2.2 th 11) (kdx_lt (kd_eta kv4) (by decide)) (entX_I (kd_eta kv4)) bv4 dX0_multiplyStanding_62 ?_
    refine r_top ev4 ?_
    refine lv_aload_n C.1 C.2.1 dX0_multiplyStanding_63 rfl (lv_at hl 2 rfl) ?_
    refine lv_iload_n C.1 C.2.1 dX0_multiplyStanding_64 rfl (lv_at hl 4 rfl) ?_
    obtain ⟨v5, hv5, hf⟩ := of_bind hf
    obtain ⟨kv5, bv5, ev5⟩ := of_ldD hv5
    refine r_iald C hG (c0 := x1) (kdx_lt (kd_eta kv5) (by decide)) (entX_I (kd_eta kv5)) bv5 dX0_multiplyStanding_65 ?_
    refine r_top ev5 ?_
    obtain ⟨v6, hv6, hf⟩ := of_bind hf
    refine r_callSN1 C hG hl.1 (As := [.int (nI 0), .int v4, .int v5]) (mt_X8_plusTimes l  hv6) (va_cnB 3 C.2.2.2.2.1 (gd_all tg_2_105) rfl rfl rfl (hG.1.2.1 _ nn_51) (C.2.2.2.2.1 _ (List.mem_cons_of_mem _ tg_1_1)) cd_X8_plusTimes.2 ⟨Nat.le_of_ble_eq_true rfl, Nat.le_of_ble_eq_true rfl⟩) (C.2.2.2.2.1 _ (List.mem_cons_of_mem _ tg_2_104)) rfl rfl (Nat.le_of_ble_eq_true rfl) dX0_multiplyStanding_66 (fun H locs hG => ?_)
    refine lv_istore (lv' := [(5, .int v6), (4, .int v3), (0, .ref (B + th)), (1, .ref (B + x1)), (2, .int x2), (3, .int st.1)]) C.1 C.2.1 dX0_multiplyStanding_69 hl (by decide) rfl (fun ls hl => ?_)
    refine lv_aload_n C.1 C.2.1 dX0_multiplyStanding_71 rfl (lv_at hl 2 rfl) ?_
    refine gf_X0_36 C hG hth dX0_multiplyStanding_72 ?_
    refine lv_iload C.1 C.2.1 dX0_multiplyStanding_75 (lv_at hl 1 rfl) ?_
    refine lv_aload_n C.1 C.2.1 dX0_multiplyStanding_77 rfl (lv_at hl 2 rfl) ?_
    refine gf_X0_36 C hG hth dX0_multiplyStanding_78 ?_
    refine lv_iload C.1 C.2.1 dX0_multiplyStanding_81 (lv_at hl 1 rfl) ?_
    obtain ⟨v7, hv7, hf⟩ := of_bind hf
    obtain ⟨kv7, bv7, ev7⟩ := of_ldD hv7
    refine r_iald C hG (c0 := st.2.2 th 12) (kdx_lt (kd_eta kv7) (by decide)) (entX_I (kd_eta kv7)) bv7 dX0_multiplyStanding_83 ?_
    refine r_top ev7 ?_
    refine lv_iload C.1 C.2.1 dX0_multiplyStanding_84 (lv_at hl 0 rfl) ?_
    refine lv_aload_n C.1 C.2.1 dX0_multiplyStanding_86 rfl (lv_at hl 2 rfl) ?_
    refine gf_X0_15 C hG hth dX0_multiplyStanding_87 ?_
    refine lv_aload_n C.1 C.2.1 dX0_multiplyStanding_90 rfl (lv_at hl 2 rfl) ?_
    refine lv_iload_n C.1 C.2.1 dX0_multiplyStanding_91 rfl (lv_at hl 4 rfl) ?_
    refine lv_iload_n C.1 C.2.1 dX0_multiplyStanding_92 rfl (lv_at hl 5 rfl) ?_
    obtain ⟨v8, hv8, hf⟩ := of_bind hf
    refine r_callV1 C hG hl.1 (c0 := th) (As := [.int x2, .int st.1]) (kdx_lt hth (by decide)) (entX_O0 hth) rfl (mt_X0_at l hth hv8) (cwV 2 C.2.2.2.2.1 (gd_V tg_2_68 tg_2_70 tgp_1 tg_1_4 tg_2_71) rfl rfl rfl cd_X0_at ⟨Nat.le_of_ble_eq_true rfl, Nat.le_of_ble_eq_true rfl⟩) rfl rfl (Nat.le_of_ble_eq_true rfl) dX0_multiplyStanding_93 (fun H locs hG => ?_)
    obtain ⟨v9, hv9, hf⟩ := of_bind hf
    obtain ⟨bv9, ev9⟩ := of_ldS hv9
    refine r_iald C hG (c0 := (th + 2)) (kdx_lt (kx_0_5 hth) (by decide)) (entX_I (kx_0_5 hth)) bv9 dX0_multiplyStanding_96 ?_
    refine r_top ev9 ?_
    obtain ⟨v10, hv10, hf⟩ := of_bind hf
    refine r_callSN1 C hG hl.1 (As := [.int v7, .int v6, .int v9]) (mt_X8_plusTimes l  hv10) (va_cnB 3 C.2.2.2.2.1 (gd_all tg_2_105) rfl rfl rfl (hG.1.2.1 _ nn_51) (C.2.2.2.2.1 _ (List.mem_cons_of_mem _ tg_1_1)) cd_X8_plusTimes.2 ⟨Nat.le_of_ble_eq_true rfl, Nat.le_of_ble_eq_true rfl⟩) (C.2.2.2.2.1 _ (List.mem_cons_of_mem _ tg_2_104)) rfl rfl (Nat.le_of_ble_eq_true rfl) dX0_multiplyStanding_97 (fun H locs hG => ?_)
    obtain ⟨w11, hw11, hf⟩ := of_bind hf
    obtain ⟨kw11, bw11, ew11⟩ := of_stDX hw11
    refine r_iast C hG (c0 := st.2.2 th 12) (kdx_lt (kd_eta kw11) (by decide)) (entX_I (kd_eta kw11)) bw11 (E' := (entX G B w11)) (by rw [ew11]; exact upX_I (kd_eta kw11)) dX0_multiplyStanding_100 (fun H locs hG => ?_)
    obtain ⟨v12, ev12, hf⟩ := of_letv hf
    refine lv_iinc (v := v12) (lv' := [(3, .int v12), (5, .int v6), (4, .int v3), (0, .ref (B + th)), (1, .ref (B + x1)), (2, .int x2)]) C.1 C.2.1 dX0_multiplyStanding_101 hl (k := 5) rfl (by rw [ev12, show Int32.ofInt (1) = nI 1 from by decide]) (by decide) rfl (fun ls hl => ?_)
    refine lv_goto (tgt := 35) C.1 C.2.1 dX0_multiplyStanding_104 (by decide) ?_
    obtain rfl := Option.some.inj hf
    exact kL _ rfl _ _ _ hG (lv_sub hl [3, 4, 5, 0] rfl)
set_option maxRecDepth 100000 in
set_option maxHeartbeats 4000000 in
theorem kl_X0_multiplyStanding_35 {th : Nat} {x1 : Nat} {x2 : Int32} (C : CX p s m args meth c cX0_multiplyStanding 6 RX0 wc_X0_multiplyStanding none) (hth : KDx th = (0, 13)) (h1 : (KDx x1).1 = 10) : ∀ (n : Nat) (st : Int32 × WX) (x : (WX)) (H : Heap) (locs : List Loc) (ls : Array Slot), Gd s G A 153 B (entX G B st.2) X H locs → lv_has ls 6 [(0, .ref (B + th)), (1, .ref (B + x1)), (2, .int x2), (3, .int st.1)] → lpw (sh_X0_multiplyStanding_s35 th x1 x2) n st = some x →
    (∀ y' : WX, x = y' → ∀ (H : Heap) (locs : List Loc) (ls : Array Slot), Gd s G A 153 B (entX G B y') X H locs → lv_has ls 6 [(0, .ref (B + th)), (1, .ref (B + x1)), (2, .int x2)] → W p l e rm_X0_multiplyStanding s m args below meth c H locs 0 0 Q (F0 m 107 ls [])) → W p l e rm_X0_multiplyStanding s m args below meth c H locs 0 0 Q (F0 m 35 ls []) := by
  intro n
  induction n with
  | zero =>
    intro st x H locs ls hG hl hf
    cases hf
  | succ n ih =>
    intro st x H locs ls hG hl hf kX0
    obtain ⟨r, hr, hh⟩ := of_lpw hf
    refine kb_X0_multiplyStanding_35 C hth h1 hG hl hr (fun st2 e1 H locs ls hG hl => ?_) (fun y2 e1 H locs ls hG hl => ?_)
    · rcases hh with ⟨s3, e2, hh⟩ | e2
      · rw [e2] at e1
        cases e1
        exact ih _ _ _ _ _ hG hl hh kX0
      · rw [e2] at e1
        cases e1
    · rcases hh with ⟨s3, e2, hh⟩ | e2
      · rw [e2] at e1
        cases e1
      · rw [e2] at e1
        cases e1
        exact kX0 _ rfl _ _ _ hG hl
set_option maxRecDepth 100000 in
set_option maxHeartbeats 4000000 in
theorem kb_X0_multiplyStanding_25 {th : Nat} {x1 : Nat} {st : Int32 × WX} {r : (Int32 × WX) ⊕ ((WX))} {H : Heap} {locs : List Loc} {ls : Array Slot} (C : CX p s m args meth c cX0_multiplyStanding 6 RX0 wc_X0_multiplyStanding none) (hth : KDx th = (0, 13)) (h1 : (KDx x1).1 = 10) (hG : Gd s G A 153 B (entX G B st.2) X H locs) (hl : lv_has ls 6 [(0, .ref (B + th)), (1, .ref (B + x1)), (2, .int st.1)]) (hf : sh_X0_multiplyStanding_s25 th x1 st = some r)
    (kL : ∀ st' : Int32 × WX, r = Sum.inl st' → ∀ (H : Heap) (locs : List Loc) (ls : Array Slot), Gd s G A 153 B (entX G B st'.2) X H locs → lv_has ls 6 [(0, .ref (B + th)), (1, .ref (B + x1)), (2, .int st'.1)] → W p l e rm_X0_multiplyStanding s m args below meth c H locs 0 0 Q (F0 m 25 ls []))
    (kX0 : ∀ y' : WX, r = Sum.inr y' → ∀ (H : Heap) (locs : List Loc) (ls : Array Slot), Gd s G A 153 B (entX G B y') X H locs → lv_has ls 6 [(0, .ref (B + th))] → W p l e rm_X0_multiplyStanding s m args below meth c H locs 0 0 Q (F0 m 113 ls [])) :
    W p l e rm_X0_multiplyStanding s m args below meth c H locs 0 0 Q (F0 m 25 ls []) := by
  refine lv_iload_n C.1 C.2.1 dX0_multiplyStanding_25 rfl (lv_at hl 2 rfl) ?_
  refine lv_aload_n C.1 C.2.1 dX0_multiplyStanding_26 rfl (lv_at hl 0 rfl) ?_
  refine gf_X0_49 C hG hth dX0_multiplyStanding_27 ?_
  rcases of_ite hf with ⟨c1, hf⟩ | ⟨c1, hf⟩
  · refine lv_icmp_ge (tgt := 113) C.1 C.2.1 dX0_multiplyStanding_30 (by decide) (fun _ => ?_) (fun q => absurd c1 q)
    obtain rfl := Option.some.inj hf
    exact kX0 _ rfl _ _ _ hG (lv_sub hl [0] rfl)
  · refine lv_icmp_ge (tgt := 113) C.1 C.2.1 dX0_multiplyStanding_30 (by decide) (fun q => absurd q c1) (fun _ => ?_)
    refine lv_iconst (v := nI 0) C.1 C.2.1 dX0_multiplyStanding_33 (by decide) ?_
    refine lv_istore_n (lv' := [(3, .int (nI 0)), (0, .ref (B + th)), (1, .ref (B + x1)), (2, .int st.1)]) C.1 C.2.1 dX0_multiplyStanding_34 rfl hl (by decide) rfl (fun ls hl => ?_)
    obtain ⟨ex2, hex2, hf⟩ := of_bind hf
    refine kl_X0_multiplyStanding_35 C hth h1 FU (nI 0, st.2) ex2 _ _ _ hG (lv_sub hl [1, 2, 3, 0] rfl) hex2 (fun y e0 H locs ls hG hl => ?_)
    subst e0
    obtain ⟨v3, ev3, hf⟩ := of_letv hf
    refine lv_iinc (v := v3) (lv' := [(2, .int v3), (0, .ref (B + th)), (1, .ref (B + x1))]) C.1 C.2.1 dX0_multiplyStanding_107 hl (k := 2) rfl (by rw [ev3, show Int32.ofInt (1) = nI 1 from by decide]) (by decide) rfl (fun ls hl => ?_)
    refine lv_goto (tgt := 25) C.1 C.2.1 dX0_multiplyStanding_110 (by decide) ?_
    obtain rfl := Option.some.inj hf
    exact kL _ rfl _ _ _ hG (lv_sub hl [1, 2, 0] rfl)
set_option maxRecDepth 100000 in
set_option maxHeartbeats 4000000 in
theorem kl_X0_multiplyStanding_25 {th : Nat} {x1 : Nat} (C : CX p s m args meth c cX0_multiplyStanding 6 RX0 wc_X0_multiplyStanding none) (hth : KDx th = (0, 13)) (h1 : (KDx x1).1 = 10) : ∀ (n : Nat) (st : Int32 × WX) (x : (WX)) (H : Heap) (locs : List Loc) (ls : Array Slot), Gd s G A 153 B (entX G B st.2) X H locs → lv_has ls 6 [(0, .ref (B + th)), (1, .ref (B + x1)), (2, .int st.1)] → lpw (sh_X0_multiplyStanding_s25 th x1) n st = some x →
    (∀ y' : WX, x = y' → ∀ (H : Heap) (locs : List Loc) (ls : Array Slot), Gd s G A 153 B (entX G B y') X H locs → lv_has ls 6 [(0, .ref (B + th))] → W p l e rm_X0_multiplyStanding s m args below meth c H locs 0 0 Q (F0 m 113 ls [])) → W p l e rm_X0_multiplyStanding s m args below meth c H locs 0 0 Q (F0 m 25 ls []) := by
  intro n
  induction n with
  | zero =>
    intro st x H locs ls hG hl hf
    cases hf
  | succ n ih =>
    intro st x H locs ls hG hl hf kX0
    obtain ⟨r, hr, hh⟩ := of_lpw hf
    refine kb_X0_multiplyStanding_25 C hth h1 hG hl hr (fun st2 e1 H locs ls hG hl => ?_) (fun y2 e1 H locs ls hG hl => ?_)
    · rcases hh with ⟨s3, e2, hh⟩ | e2
      · rw [e2] at e1
        cases e1
        exact ih _ _ _ _ _ hG hl hh kX0
      · rw [e2] at e1
        cases e1
    · rcases hh with ⟨s3, e2, hh⟩ | e2
      · rw [e2] at e1
        cases e1
      · rw [e2] at e1
        cases e1
        exact kX0 _ rfl _ _ _ hG hl
set_option maxRecDepth 100000 in
set_option maxHeartbeats 4000000 in
theorem kb_X0_multiplyStanding_0 {th : Nat} {x1 : Nat} {w : WX} {out : WX} {H : Heap} {locs : List Loc} {ls : Array Slot} (C : CX p s m args meth c cX0_multiplyStanding 6 RX0 wc_X0_multiplyStanding none) (hth : KDx th = (0, 13)) (h1 : (KDx x1).1 = 10) (hG : Gd s G A 153 B (entX G B w) X H locs) (hl : lv_has ls 6 [(0, .ref (B + th)), (1, .ref (B + x1))]) (hf : sh_X0_multiplyStanding th x1 w = some out) :
    W p l e rm_X0_multiplyStanding s m args below meth c H locs 0 0 (MQ below (CPost G A 153 B (entX G B out) X none) args s 0 0 A) (F0 m 0 ls []) := by
  refine lv_iconst (v := nI 0) C.1 C.2.1 dX0_multiplyStanding_0 (by decide) ?_
  refine lv_istore_n (lv' := [(2, .int (nI 0)), (0, .ref (B + th)), (1, .ref (B + x1))]) C.1 C.2.1 dX0_multiplyStanding_1 rfl hl (by decide) rfl (fun ls hl => ?_)
  obtain ⟨ex1, hex1, hf⟩ := of_bind hf
  refine kl_X0_multiplyStanding_2 C hth h1 FU (nI 0, w) ex1 _ _ _ hG (lv_sub hl [1, 2, 0] rfl) hex1 (fun y e0 H locs ls hG hl => ?_)
  subst e0
  refine lv_iconst (v := nI 0) C.1 C.2.1 dX0_multiplyStanding_23 (by decide) ?_
  refine lv_istore_n (lv' := [(2, .int (nI 0)), (0, .ref (B + th)), (1, .ref (B + x1))]) C.1 C.2.1 dX0_multiplyStanding_24 rfl hl (by decide) rfl (fun ls hl => ?_)
  obtain ⟨ex2, hex2, hf⟩ := of_bind hf
  refine kl_X0_multiplyStanding_25 C hth h1 FU (nI 0, ex1) ex2 _ _ _ hG (lv_sub hl [1, 2, 0] rfl) hex2 (fun y e0 H locs ls hG hl => ?_)
  subst e0
  refine lv_aload_n C.1 C.2.1 dX0_multiplyStanding_113 rfl (lv_at hl 0 rfl) ?_
  refine gf_X0_33 C hG hth dX0_multiplyStanding_114 ?_
  refine lv_astore_n (lv' := [(2, .ref (B + (ex2.2 th 11))), (0, .ref (B + th))]) C.1 C.2.1 dX0_multiplyStanding_117 rfl hl (by decide) rfl (fun ls hl => ?_)
  refine lv_aload_n C.1 C.2.1 dX0_multiplyStanding_118 rfl (lv_at hl 1 rfl) ?_
  refine lv_aload_n C.1 C.2.1 dX0_multiplyStanding_119 rfl (lv_at hl 1 rfl) ?_
  refine gf_X0_36 C hG hth dX0_multiplyStanding_120 ?_
  obtain ⟨w3, ew3, hf⟩ := of_letv hf
  refine pf_X0_33 C hG hth dX0_multiplyStanding_123 (fun H locs hG => ?_)
  rw [← ew3] at hG
  refine lv_aload_n C.1 C.2.1 dX0_multiplyStanding_126 rfl (lv_at hl 1 rfl) ?_
  refine lv_aload_n C.1 C.2.1 dX0_multiplyStanding_127 rfl (lv_at hl 0 rfl) ?_
  obtain ⟨w4, ew4, hf⟩ := of_letv hf
  refine pf_X0_36 C hG hth dX0_multiplyStanding_128 (fun H locs hG => ?_)
  rw [← ew4] at hG
  obtain rfl := Option.some.inj hf
  exact r_vret C hG dX0_multiplyStanding_131
set_option maxRecDepth 100000 in
set_option maxHeartbeats 4000000 in
theorem mt_X0_multiplyStanding (l : Launch) {G : GG} {A : Nat → Prop} {B : Nat} {X : va_W} {th : Nat} {x1 : Nat} {w : WX} {out : WX} (hth : KDx th = (0, 13)) (h1 : (KDx x1).1 = 10) (hf : sh_X0_multiplyStanding th x1 w = some out) : MetW l yX0_multiplyStanding wc_X0_multiplyStanding rm_X0_multiplyStanding G A 153 B (entX G B w) X [.ref (B + th), .ref (B + x1)] none (entX G B out) := by
  refine Met.ofW (cc := cX0_multiplyStanding) (maxL := 6) (ret := none) (by decide) rfl ?_
  intro p e s m args below meth c s₁ B0 hml hv
  obtain ⟨rfl, hEv, hWd⟩ := hv
  have C : CX p s m _ meth c cX0_multiplyStanding 6 RX0 wc_X0_multiplyStanding none := ⟨B0.exec, B0.bytes, hml, findClass_of_methodNamed B0.named, atoms_spec (ws := wc_X0_multiplyStanding) B0.pre, B0.returns, B0.notSynchronized⟩
  have hl := lv_entry [.ref (B + th), .ref (B + x1)] (n := 6) (Nat.le_of_ble_eq_true rfl)
  rw [lg_entry_eq]
  generalize (lg_sl [.ref (B + th), .ref (B + x1)] ++ List.replicate (6 - (lg_sl [.ref (B + th), .ref (B + x1)]).length) Slot.unset).toArray = ls at hl ⊢
  have hl : lv_has ls 6 [(0, .ref (B + th)), (1, .ref (B + x1))] := hl
  exact kb_X0_multiplyStanding_0 C hth h1 ⟨hEv, hWd, va_S.rf⟩ hl hf
abbrev wc_X0_closedBy : List Cond := Cond.code yX0_closedBy cX0_closedBy 5 (some .int) :: TG
abbrev rm_X0_closedBy : Room := { frames := 4, cells := 0, slots := 0, locals := 147 }
theorem cd_X0_closedBy : yX0_closedBy.cls = RX0 ∧ yX0_closedBy.cls ≠ "java/lang/invoke/MethodHandle" ∧ yX0_closedBy.cls ≠ "java/lang/invoke/VarHandle" ∧ (parseMethodDescriptor yX0_closedBy.desc).map (fun d => d.parameters.length) = some 2 := by decide +kernel
theorem dX0_closedBy_0 : decode cX0_closedBy 0 = .ok (.iconst 0, 1) := by decide +kernel
theorem dX0_closedBy_1 : decode cX0_closedBy 1 = .ok (.istore_n 3, 1) := by decide +kernel
theorem dX0_closedBy_2 : decode cX0_closedBy 2 = .ok (.iload_n 3, 1) := by decide +kernel
theorem dX0_closedBy_3 : decode cX0_closedBy 3 = .ok (.aload_n 0, 1) := by decide +kernel
theorem dX0_closedBy_4 : decode cX0_closedBy 4 = .ok (.getfield 49, 3) := by decide +kernel
theorem dX0_closedBy_7 : decode cX0_closedBy 7 = .ok (.if_icmp .ge 21, 3) := by decide +kernel
theorem dX0_closedBy_10 : decode cX0_closedBy 10 = .ok (.aload_n 0, 1) := by decide +kernel
theorem dX0_closedBy_11 : decode cX0_closedBy 11 = .ok (.getfield 33, 3) := by decide +kernel
theorem dX0_closedBy_14 : decode cX0_closedBy 14 = .ok (.iload_n 3, 1) := by decide +kernel
theorem dX0_closedBy_15 : decode cX0_closedBy 15 = .ok (.aload_n 0, 1) := by decide +kernel
theorem dX0_closedBy_16 : decode cX0_closedBy 16 = .ok (.getfield 24, 3) := by decide +kernel
theorem dX0_closedBy_19 : decode cX0_closedBy 19 = .ok (.iload_n 3, 1) := by decide +kernel
theorem dX0_closedBy_20 : decode cX0_closedBy 20 = .ok (.iaload, 1) := by decide +kernel
theorem dX0_closedBy_21 : decode cX0_closedBy 21 = .ok (.iastore, 1) := by decide +kernel
theorem dX0_closedBy_22 : decode cX0_closedBy 22 = .ok (.iinc 3 1, 3) := by decide +kernel
theorem dX0_closedBy_25 : decode cX0_closedBy 25 = .ok (.goto (-23), 3) := by decide +kernel
theorem dX0_closedBy_28 : decode cX0_closedBy 28 = .ok (.iconst 0, 1) := by decide +kernel
theorem dX0_closedBy_29 : decode cX0_closedBy 29 = .ok (.istore_n 3, 1) := by decide +kernel
theorem dX0_closedBy_30 : decode cX0_closedBy 30 = .ok (.iload_n 3, 1) := by decide +kernel
theorem dX0_closedBy_31 : decode cX0_closedBy 31 = .ok (.iload_n 1, 1) := by decide +kernel
theorem dX0_closedBy_32 : decode cX0_closedBy 32 = .ok (.if_icmp .ge 17, 3) := by decide +kernel
theorem dX0_closedBy_35 : decode cX0_closedBy 35 = .ok (.aload_n 0, 1) := by decide +kernel
theorem dX0_closedBy_36 : decode cX0_closedBy 36 = .ok (.aload_n 0, 1) := by decide +kernel
theorem dX0_closedBy_37 : decode cX0_closedBy 37 = .ok (.getfield 27, 3) := by decide +kernel
theorem dX0_closedBy_40 : decode cX0_closedBy 40 = .ok (.invokevirtual 98, 3) := by decide +kernel
theorem dX0_closedBy_43 : decode cX0_closedBy 43 = .ok (.iinc 3 1, 3) := by decide +kernel
theorem dX0_closedBy_46 : decode cX0_closedBy 46 = .ok (.goto (-16), 3) := by decide +kernel
theorem dX0_closedBy_49 : decode cX0_closedBy 49 = .ok (.iconst 0, 1) := by decide +kernel
theorem dX0_closedBy_50 : decode cX0_closedBy 50 = .ok (.istore_n 3, 1) := by decide +kernel
theorem dX0_closedBy_51 : decode cX0_closedBy 51 = .ok (.iload_n 3, 1) := by decide +kernel
theorem dX0_closedBy_52 : decode cX0_closedBy 52 = .ok (.iload_n 2, 1) := by decide +kernel
theorem dX0_closedBy_53 : decode cX0_closedBy 53 = .ok (.if_icmp .ge 17, 3) := by decide +kernel
theorem dX0_closedBy_56 : decode cX0_closedBy 56 = .ok (.aload_n 0, 1) := by decide +kernel
theorem dX0_closedBy_57 : decode cX0_closedBy 57 = .ok (.aload_n 0, 1) := by decide +kernel
theorem dX0_closedBy_58 : decode cX0_closedBy 58 = .ok (.getfield 30, 3) := by decide +kernel
theorem dX0_closedBy_61 : decode cX0_closedBy 61 = .ok (.invokevirtual 98, 3) := by decide +kernel
theorem dX0_closedBy_64 : decode cX0_closedBy 64 = .ok (.iinc 3 1, 3) := by decide +kernel
theorem dX0_closedBy_67 : decode cX0_closedBy 67 = .ok (.goto (-16), 3) := by decide +kernel
theorem dX0_closedBy_70 : decode cX0_closedBy 70 = .ok (.iconst 0, 1) := by decide +kernel
theorem dX0_closedBy_71 : decode cX0_closedBy 71 = .ok (.istore_n 3, 1) := by decide +kernel
theorem dX0_closedBy_72 : decode cX0_closedBy 72 = .ok (.iconst 0, 1) := by decide +kernel
theorem dX0_closedBy_73 : decode cX0_closedBy 73 = .ok (.istore 4, 2) := by decide +kernel
theorem dX0_closedBy_75 : decode cX0_closedBy 75 = .ok (.iload 4, 2) := by decide +kernel
theorem dX0_closedBy_77 : decode cX0_closedBy 77 = .ok (.aload_n 0, 1) := by decide +kernel
theorem dX0_closedBy_78 : decode cX0_closedBy 78 = .ok (.getfield 49, 3) := by decide +kernel
theorem dX0_closedBy_81 : decode cX0_closedBy 81 = .ok (.if_icmp .ge 28, 3) := by decide +kernel
theorem dX0_closedBy_84 : decode cX0_closedBy 84 = .ok (.iload_n 3, 1) := by decide +kernel
theorem dX0_closedBy_85 : decode cX0_closedBy 85 = .ok (.aload_n 0, 1) := by decide +kernel
theorem dX0_closedBy_86 : decode cX0_closedBy 86 = .ok (.getfield 33, 3) := by decide +kernel
theorem dX0_closedBy_89 : decode cX0_closedBy 89 = .ok (.iload 4, 2) := by decide +kernel
theorem dX0_closedBy_91 : decode cX0_closedBy 91 = .ok (.iaload, 1) := by decide +kernel
theorem dX0_closedBy_92 : decode cX0_closedBy 92 = .ok (.aload_n 0, 1) := by decide +kernel
theorem dX0_closedBy_93 : decode cX0_closedBy 93 = .ok (.getfield 21, 3) := by decide +kernel
theorem dX0_closedBy_96 : decode cX0_closedBy 96 = .ok (.iload 4, 2) := by decide +kernel
theorem dX0_closedBy_98 : decode cX0_closedBy 98 = .ok (.iaload, 1) := by decide +kernel
theorem dX0_closedBy_99 : decode cX0_closedBy 99 = .ok (.invokestatic 94, 3) := by decide +kernel
theorem dX0_closedBy_102 : decode cX0_closedBy 102 = .ok (.istore_n 3, 1) := by decide +kernel
theorem dX0_closedBy_103 : decode cX0_closedBy 103 = .ok (.iinc 4 1, 3) := by decide +kernel
theorem dX0_closedBy_106 : decode cX0_closedBy 106 = .ok (.goto (-31), 3) := by decide +kernel
theorem dX0_closedBy_109 : decode cX0_closedBy 109 = .ok (.iload_n 3, 1) := by decide +kernel
theorem dX0_closedBy_110 : decode cX0_closedBy 110 = .ok (.ireturn, 1) := by decide +kernel
set_option maxRecDepth 100000 in
set_option maxHeartbeats 4000000 in
theorem kb_X0_closedBy_2 {th : Nat} {x1 : Int32} {x2 : Int32} {st : Int32 × WX} {r : (Int32 × WX) ⊕ ((WX))} {H : Heap} {locs : List Loc} {ls : Array Slot} (C : CX p s m args meth c cX0_closedBy 5 RX0 wc_X0_closedBy (some .int)) (hth : KDx th = (0, 13)) (hG : Gd s G A 153 B (entX G B st.2) X H locs) (hl : lv_has ls 5 [(0, .ref (B + th)), (1, .int x1), (2, .int x2), (3, .int st.1)]) (hf : sh_X0_closedBy_s2 th x1 x2 st = some r)
    (kL : ∀ st' : Int32 × WX, r = Sum.inl st' → ∀ (H : Heap) (locs : List Loc) (ls : Array Slot), Gd s G A 153 B (entX G B st'.2) X H locs → lv_has ls 5 [(0, .ref (B + th)), (1, .int x1), (2, .int x2), (3, .int st'.1)] → W p l e rm_X0_closedBy s m args below meth c H locs 0 0 Q (F0 m 2 ls []))
    (kX0 : ∀ y' : WX, r = Sum.inr y' → ∀ (H : Heap) (locs : List Loc) (ls : Array Slot), Gd s G A 153 B (entX G B y') X H locs → lv_has ls 5 [(0, .ref (B + th)), (1, .int x1), (2, .int x2)] → W p l e rm_X0_closedBy s m args below meth c H locs 0 0 Q (F0 m 28 ls [])) :
    W p l e rm_X0_closedBy s m args below meth c H locs 0 0 Q (F0 m 2 ls []) := by
  refine lv_iload_n C.1 C.2.1 dX0_closedBy_2 rfl (lv_at hl 3 rfl) ?_
  refine lv_aload_n C.1 C.2.1 dX0_closedBy_3 rfl (lv_at hl 0 rfl) ?_
  refine gf_X0_49 C hG hth dX0_closedBy_4 ?_
  rcases of_ite hf with ⟨c1, hf⟩ | ⟨c1, hf⟩
  · refine lv_icmp_ge (tgt := 28) C.1 C.2.1 dX0_closedBy_7 (by decide) (fun _ => ?_) (fun q => absurd c1 q)
    obtain rfl := Option.some.inj hf
    exact kX0 _ rfl _ _ _ hG (lv_sub hl [0, 1, 2] rfl)
  · refine lv_icmp_ge (tgt := 28) C.1 C.2.1 dX0_closedBy_7 (by decide) (fun q => absurd q c1) (fun _ => ?_)
    refine lv_aload_n C.1 C.2.1 dX0_closedBy_10 rfl (lv_at hl 0 rfl) ?_
    refine gf_X0_33 C hG hth dX0_closedBy_11 ?_
    refine lv_iload_n C.1 C.2.1 dX0_closedBy_14 rfl (lv_at hl 3 rfl) ?_
    refine lv_aload_n C.1 C.2.1 dX0_closedBy_15 rfl (lv_at hl 0 rfl) ?_
    refine gf_X0_24 C hG hth dX0_closedBy_16 ?_
    refine lv_iload_n C.1 C.2.1 dX0_closedBy_19 rfl (lv_at hl 3 rfl) ?_
    obtain ⟨v2, hv2, hf⟩ := of_bind hf
    obtain ⟨bv2, ev2⟩ := of_ldS hv2
    refine r_iald C hG (c0 := (th + 5)) (kdx_lt (kx_0_8 hth) (by decide)) (entX_I (kx_0_8 hth)) bv2 dX0_closedBy_20 ?_
    refine r_top ev2 ?_
    obtain ⟨w3, hw3, hf⟩ := of_bind hf
    obtain ⟨kw3, bw3, ew3⟩ := of_stDX hw3
    refine r_iast C hG (c0 := st.2.2 th 11) (kdx_lt (kd_eta kw3) (by decide)) (entX_I (kd_eta kw3)) bw3 (E' := (entX G B w3)) (by rw [ew3]; exact upX_I (kd_eta kw3)) dX0_closedBy_21 (fun H locs hG => ?_)
    obtain ⟨v4, ev4, hf⟩ := of_letv hf
    refine lv_iinc (v := v4) (lv' := [(3, .int v4), (0, .ref (B + th)), (1, .int x1), (2, .int x2)]) C.1 C.2.1 dX0_closedBy_22 hl (k := 3) rfl (by rw [ev4, show Int32.ofInt (1) = nI 1 from by decide]) (by decide) rfl (fun ls hl => ?_)
    refine lv_goto (tgt := 2) C.1 C.2.1 dX0_closedBy_25 (by decide) ?_
    obtain rfl := Option.some.inj hf
    exact kL _ rfl _ _ _ hG (lv_sub hl [1, 2, 3, 0] rfl)
set_option maxRecDepth 100000 in
set_option maxHeartbeats 4000000 in
theorem kl_X0_closedBy_2 {th : Nat} {x1 : Int32} {x2 : Int32} (C : CX p s m args meth c cX0_closedBy 5 RX0 wc_X0_closedBy (some .int)) (hth : KDx th = (0, 13)) : ∀ (n : Nat) (st : Int32 × WX) (x : (WX)) (H : Heap) (locs : List Loc) (ls : Array Slot), Gd s G A 153 B (entX G B st.2) X H locs → lv_has ls 5 [(0, .ref (B + th)), (1, .int x1), (2, .int x2), (3, .int st.1)] → lpw (sh_X0_closedBy_s2 th x1 x2) n st = some x →
    (∀ y' : WX, x = y' → ∀ (H : Heap) (locs : List Loc) (ls : Array Slot), Gd s G A 153 B (entX G B y') X H locs → lv_has ls 5 [(0, .ref (B + th)), (1, .int x1), (2, .int x2)] → W p l e rm_X0_closedBy s m args below meth c H locs 0 0 Q (F0 m 28 ls [])) → W p l e rm_X0_closedBy s m args below meth c H locs 0 0 Q (F0 m 2 ls []) := by
  intro n
  induction n with
  | zero =>
    intro st x H locs ls hG hl hf
    cases hf
  | succ n ih =>
    intro st x H locs ls hG hl hf kX0
    obtain ⟨r, hr, hh⟩ := of_lpw hf
    refine kb_X0_closedBy_2 C hth hG hl hr (fun st2 e1 H locs ls hG hl => ?_) (fun y2 e1 H locs ls hG hl => ?_)
    · rcases hh with ⟨s3, e2, hh⟩ | e2
      · rw [e2] at e1
        cases e1
        exact ih _ _ _ _ _ hG hl hh kX0
      · rw [e2] at e1
        cases e1
    · rcases hh with ⟨s3, e2, hh⟩ | e2
      · rw [e2] at e1
        cases e1
      · rw [e2] at e1
        cases e1
        exact kX0 _ rfl _ _ _ hG hl
set_option maxRecDepth 100000 in
set_option maxHeartbeats 4000000 in
theorem kb_X0_closedBy_30 {th : Nat} {x1 : Int32} {x2 : Int32} {st : Int32 × WX} {r : (Int32 × WX) ⊕ ((WX))} {H : Heap} {locs : List Loc} {ls : Array Slot} (C : CX p s m args meth c cX0_closedBy 5 RX0 wc_X0_closedBy (some .int)) (hth : KDx th = (0, 13)) (hG : Gd s G A 153 B (entX G B st.2) X H locs) (hl : lv_has ls 5 [(0, .ref (B + th)), (1, .int x1), (2, .int x2), (3, .int st.1)]) (hf : sh_X0_closedBy_s30 th x1 x2 st = some r)
    (kL : ∀ st' : Int32 × WX, r = Sum.inl st' → ∀ (H : Heap) (locs : List Loc) (ls : Array Slot), Gd s G A 153 B (entX G B st'.2) X H locs → lv_has ls 5 [(0, .ref (B + th)), (1, .int x1), (2, .int x2), (3, .int st'.1)] → W p l e rm_X0_closedBy s m args below meth c H locs 0 0 Q (F0 m 30 ls []))
    (kX0 : ∀ y' : WX, r = Sum.inr y' → ∀ (H : Heap) (locs : List Loc) (ls : Array Slot), Gd s G A 153 B (entX G B y') X H locs → lv_has ls 5 [(0, .ref (B + th)), (2, .int x2)] → W p l e rm_X0_closedBy s m args below meth c H locs 0 0 Q (F0 m 49 ls [])) :
    W p l e rm_X0_closedBy s m args below meth c H locs 0 0 Q (F0 m 30 ls []) := by
  refine lv_iload_n C.1 C.2.1 dX0_closedBy_30 rfl (lv_at hl 3 rfl) ?_
  refine lv_iload_n C.1 C.2.1 dX0_closedBy_31 rfl (lv_at hl 1 rfl) ?_
  rcases of_ite hf with ⟨c1, hf⟩ | ⟨c1, hf⟩
  · refine lv_icmp_ge (tgt := 49) C.1 C.2.1 dX0_closedBy_32 (by decide) (fun _ => ?_) (fun q => absurd c1 q)
    obtain rfl := Option.some.inj hf
    exact kX0 _ rfl _ _ _ hG (lv_sub hl [0, 2] rfl)
  · refine lv_icmp_ge (tgt := 49) C.1 C.2.1 dX0_closedBy_32 (by decide) (fun q => absurd q c1) (fun _ => ?_)
    refine lv_aload_n C.1 C.2.1 dX0_closedBy_35 rfl (lv_at hl 0 rfl) ?_
    refine lv_aload_n C.1 C.2.1 dX0_closedBy_36 rfl (lv_at hl 0 rfl) ?_
    refine gf_X0_27 C hG hth dX0_closedBy_37 ?_
    obtain ⟨w2, hw2, hf⟩ := of_bind hf
    refine r_callV0 C hG hl.1 (c0 := th) (As := [.ref (B + (th + 6))]) (kdx_lt hth (by decide)) (entX_O0 hth) rfl (mt_X0_multiplyStanding l hth (congrArg Prod.fst (kx_0_9 hth)) hw2) (cwV 1 C.2.2.2.2.1 (gd_V tg_2_171 tg_2_173 tgp_6 tg_1_4 tg_2_174) rfl rfl rfl cd_X0_multiplyStanding ⟨Nat.le_of_ble_eq_true rfl, Nat.le_of_ble_eq_true rfl⟩) rfl rfl (Nat.le_of_ble_eq_true rfl) dX0_closedBy_40 (fun H locs hG => ?_)
    obtain ⟨v3, ev3, hf⟩ := of_letv hf
    refine lv_iinc (v := v3) (lv' := [(3, .int v3), (0, .ref (B + th)), (1, .int x1), (2, .int x2)]) C.1 C.2.1 dX0_closedBy_43 hl (k := 3) rfl (by rw [ev3, show Int32.ofInt (1) = nI 1 from by decide]) (by decide) rfl (fun ls hl => ?_)
    refine lv_goto (tgt := 30) C.1 C.2.1 dX0_closedBy_46 (by decide) ?_
    obtain rfl := Option.some.inj hf
    exact kL _ rfl _ _ _ hG (lv_sub hl [1, 2, 3, 0] rfl)
set_option maxRecDepth 100000 in
set_option maxHeartbeats 4000000 in
theorem kl_X0_closedBy_30 {th : Nat} {x1 : Int32} {x2 : Int32} (C : CX p s m args meth c cX0_closedBy 5 RX0 wc_X0_closedBy (some .int)) (hth : KDx th = (0, 13)) : ∀ (n : Nat) (st : Int32 × WX) (x : (WX)) (H : Heap) (locs : List Loc) (ls : Array Slot), Gd s G A 153 B (entX G B st.2) X H locs → lv_has ls 5 [(0, .ref (B + th)), (1, .int x1), (2, .int x2), (3, .int st.1)] → lpw (sh_X0_closedBy_s30 th x1 x2) n st = some x →
    (∀ y' : WX, x = y' → ∀ (H : Heap) (locs : List Loc) (ls : Array Slot), Gd s G A 153 B (entX G B y') X H locs → lv_has ls 5 [(0, .ref (B + th)), (2, .int x2)] → W p l e rm_X0_closedBy s m args below meth c H locs 0 0 Q (F0 m 49 ls [])) → W p l e rm_X0_closedBy s m args below meth c H locs 0 0 Q (F0 m 30 ls []) := by
  intro n
  induction n with
  | zero =>
    intro st x H locs ls hG hl hf
    cases hf
  | succ n ih =>
    intro st x H locs ls hG hl hf kX0
    obtain ⟨r, hr, hh⟩ := of_lpw hf
    refine kb_X0_closedBy_30 C hth hG hl hr (fun st2 e1 H locs ls hG hl => ?_) (fun y2 e1 H locs ls hG hl => ?_)
    · rcases hh with ⟨s3, e2, hh⟩ | e2
      · rw [e2] at e1
        cases e1
        exact ih _ _ _ _ _ hG hl hh kX0
      · rw [e2] at e1
        cases e1
    · rcases hh with ⟨s3, e2, hh⟩ | e2
      · rw [e2] at e1
        cases e1
      · rw [e2] at e1
        cases e1
        exact kX0 _ rfl _ _ _ hG hl
set_option maxRecDepth 100000 in
set_option maxHeartbeats 4000000 in
theorem kb_X0_closedBy_51 {th : Nat} {x2 : Int32} {st : Int32 × WX} {r : (Int32 × WX) ⊕ ((WX))} {H : Heap} {locs : List Loc} {ls : Array Slot} (C : CX p s m args meth c cX0_closedBy 5 RX0 wc_X0_closedBy (some .int)) (hth : KDx th = (0, 13)) (hG : Gd s G A 153 B (entX G B st.2) X H locs) (hl : lv_has ls 5 [(0, .ref (B + th)), (2, .int x2), (3, .int st.1)]) (hf : sh_X0_closedBy_s51 th x2 st = some r)
    (kL : ∀ st' : Int32 × WX, r = Sum.inl st' → ∀ (H : Heap) (locs : List Loc) (ls : Array Slot), Gd s G A 153 B (entX G B st'.2) X H locs → lv_has ls 5 [(0, .ref (B + th)), (2, .int x2), (3, .int st'.1)] → W p l e rm_X0_closedBy s m args below meth c H locs 0 0 Q (F0 m 51 ls []))
    (kX0 : ∀ y' : WX, r = Sum.inr y' → ∀ (H : Heap) (locs : List Loc) (ls : Array Slot), Gd s G A 153 B (entX G B y') X H locs → lv_has ls 5 [(0, .ref (B + th))] → W p l e rm_X0_closedBy s m args below meth c H locs 0 0 Q (F0 m 70 ls [])) :
    W p l e rm_X0_closedBy s m args below meth c H locs 0 0 Q (F0 m 51 ls []) := by
  refine lv_iload_n C.1 C.2.1 dX0_closedBy_51 rfl (lv_at hl 2 rfl) ?_
  refine lv_iload_n C.1 C.2.1 dX0_closedBy_52 rfl (lv_at hl 1 rfl) ?_
  rcases of_ite hf with ⟨c1, hf⟩ | ⟨c1, hf⟩
  · refine lv_icmp_ge (tgt := 70) C.1 C.2.1 dX0_closedBy_53 (by decide) (fun _ => ?_) (fun q => absurd c1 q)
    obtain rfl := Option.some.inj hf
    exact kX0 _ rfl _ _ _ hG (lv_sub hl [0] rfl)
  · refine lv_icmp_ge (tgt := 70) C.1 C.2.1 dX0_closedBy_53 (by decide) (fun q => absurd q c1) (fun _ => ?_)
    refine lv_aload_n C.1 C.2.1 dX0_closedBy_56 rfl (lv_at hl 0 rfl) ?_
    refine lv_aload_n C.1 C.2.1 dX0_closedBy_57 rfl (lv_at hl 0 rfl) ?_
    refine gf_X0_30 C hG hth dX0_closedBy_58 ?_
    obtain ⟨w2, hw2, hf⟩ := of_bind hf
    refine r_callV0 C hG hl.1 (c0 := th) (As := [.ref (B + (th + 7))]) (kdx_lt hth (by decide)) (entX_O0 hth) rfl (mt_X0_multiplyStanding l hth (congrArg Prod.fst (kx_0_10 hth)) hw2) (cwV 1 C.2.2.2.2.1 (gd_V tg_2_171 tg_2_173 tgp_6 tg_1_4 tg_2_174) rfl rfl rfl cd_X0_multiplyStanding ⟨Nat.le_of_ble_eq_true rfl, Nat.le_of_ble_eq_true rfl⟩) rfl rfl (Nat.le_of_ble_eq_true rfl) dX0_closedBy_61 (fun H locs hG => ?_)
    obtain ⟨v3, ev3, hf⟩ := of_letv hf
    refine lv_iinc (v := v3) (lv' := [(3, .int v3), (0, .ref (B + th)), (2, .int x2)]) C.1 C.2.1 dX0_closedBy_64 hl (k := 2) rfl (by rw [ev3, show Int32.ofInt (1) = nI 1 from by decide]) (by decide) rfl (fun ls hl => ?_)
    refine lv_goto (tgt := 51) C.1 C.2.1 dX0_closedBy_67 (by decide) ?_
    obtain rfl := Option.some.inj hf
    exact kL _ rfl _ _ _ hG (lv_sub hl [1, 2, 0] rfl)
set_option maxRecDepth 100000 in
set_option maxHeartbeats 4000000 in
theorem kl_X0_closedBy_51 {th : Nat} {x2 : Int32} (C : CX p s m args meth c cX0_closedBy 5 RX0 wc_X0_closedBy (some .int)) (hth : KDx th = (0, 13)) : ∀ (n : Nat) (st : Int32 × WX) (x : (WX)) (H : Heap) (locs : List Loc) (ls : Array Slot), Gd s G A 153 B (entX G B st.2) X H locs → lv_has ls 5 [(0, .ref (B + th)), (2, .int x2), (3, .int st.1)] → lpw (sh_X0_closedBy_s51 th x2) n st = some x →
    (∀ y' : WX, x = y' → ∀ (H : Heap) (locs : List Loc) (ls : Array Slot), Gd s G A 153 B (entX G B y') X H locs → lv_has ls 5 [(0, .ref (B + th))] → W p l e rm_X0_closedBy s m args below meth c H locs 0 0 Q (F0 m 70 ls [])) → W p l e rm_X0_closedBy s m args below meth c H locs 0 0 Q (F0 m 51 ls []) := by
  intro n
  induction n with
  | zero =>
    intro st x H locs ls hG hl hf
    cases hf
  | succ n ih =>
    intro st x H locs ls hG hl hf kX0
    obtain ⟨r, hr, hh⟩ := of_lpw hf
    refine kb_X0_closedBy_51 C hth hG hl hr (fun st2 e1 H locs ls hG hl => ?_) (fun y2 e1 H locs ls hG hl => ?_)
    · rcases hh with ⟨s3, e2, hh⟩ | e2
      · rw [e2] at e1
        cases e1
        exact ih _ _ _ _ _ hG hl hh kX0
      · rw [e2] at e1
        cases e1
    · rcases hh with ⟨s3, e2, hh⟩ | e2
      · rw [e2] at e1
        cases e1
      · rw [e2] at e1
        cases e1
        exact kX0 _ rfl _ _ _ hG hl
set_option maxRecDepth 100000 in
set_option maxHeartbeats 4000000 in
theorem kb_X0_closedBy_75 {th : Nat} {w : WX} {st : Int32 × Int32} {r : (Int32 × Int32) ⊕ ((Int32))} {H : Heap} {locs : List Loc} {ls : Array Slot} (C : CX p s m args meth c cX0_closedBy 5 RX0 wc_X0_closedBy (some .int)) (hth : KDx th = (0, 13)) (hG : Gd s G A 153 B (entX G B w) X H locs) (hl : lv_has ls 5 [(0, .ref (B + th)), (3, .int st.1), (4, .int st.2)]) (hf : sh_X0_closedBy_s75 th w st = some r)
    (kL : ∀ st' : Int32 × Int32, r = Sum.inl st' → ∀ (H : Heap) (locs : List Loc) (ls : Array Slot), Gd s G A 153 B (entX G B w) X H locs → lv_has ls 5 [(0, .ref (B + th)), (3, .int st'.1), (4, .int st'.2)] → W p l e rm_X0_closedBy s m args below meth c H locs 0 0 Q (F0 m 75 ls []))
    (kX0 : ∀ y' : Int32, r = Sum.inr y' → ∀ (H : Heap) (locs : List Loc) (ls : Array Slot), Gd s G A 153 B (entX G B w) X H locs → lv_has ls 5 [(3, .int y')] → W p l e rm_X0_closedBy s m args below meth c H locs 0 0 Q (F0 m 109 ls [])) :
    W p l e rm_X0_closedBy s m args below meth c H locs 0 0 Q (F0 m 75 ls []) := by
  refine lv_iload C.1 C.2.1 dX0_closedBy_75 (lv_at hl 2 rfl) ?_
  refine lv_aload_n C.1 C.2.1 dX0_closedBy_77 rfl (lv_at hl 0 rfl) ?_
  refine gf_X0_49 C hG hth dX0_closedBy_78 ?_
  rcases of_ite hf with ⟨c1, hf⟩ | ⟨c1, hf⟩
  · refine lv_icmp_ge (tgt := 109) C.1 C.2.1 dX0_closedBy_81 (by decide) (fun _ => ?_) (fun q => absurd c1 q)
    obtain rfl := Option.some.inj hf
    exact kX0 _ rfl _ _ _ hG (lv_sub hl [1] rfl)
  · refine lv_icmp_ge (tgt := 109) C.1 C.2.1 dX0_closedBy_81 (by decide) (fun q => absurd q c1) (fun _ => ?_)
    refine lv_iload_n C.1 C.2.1 dX0_closedBy_84 rfl (lv_at hl 1 rfl) ?_
    refine lv_aload_n C.1 C.2.1 dX0_closedBy_85 rfl (lv_at hl 0 rfl) ?_
    refine gf_X0_33 C hG hth dX0_closedBy_86 ?_
    refine lv_iload C.1 C.2.1 dX0_closedBy_89 (lv_at hl 2 rfl) ?_
    obtain ⟨v2, hv2, hf⟩ := of_bind hf
    obtain ⟨kv2, bv2, ev2⟩ := of_ldD hv2
    refine r_iald C hG (c0 := w.2 th 11) (kdx_lt (kd_eta kv2) (by decide)) (entX_I (kd_eta kv2)) bv2 dX0_closedBy_91 ?_
    refine r_top ev2 ?_
    refine lv_aload_n C.1 C.2.1 dX0_closedBy_92 rfl (lv_at hl 0 rfl) ?_
    refine gf_X0_21 C hG hth dX0_closedBy_93 ?_
    refine lv_iload C.1 C.2.1 dX0_closedBy_96 (lv_at hl 2 rfl) ?_
    obtain ⟨v3, hv3, hf⟩ := of_bind hf
    obtain ⟨bv3, ev3⟩ := of_ldS hv3
    refine r_iald C hG (c0 := (th + 4)) (kdx_lt (kx_0_7 hth) (by decide)) (entX_I (kx_0_7 hth)) bv3 dX0_closedBy_98 ?_
    refine r_top ev3 ?_
    obtain ⟨v4, hv4, hf⟩ := of_bind hf
    refine r_callSN1 C hG hl.1 (As := [.int st.1, .int v2, .int v3]) (mt_X8_plusTimes l  hv4) (va_cnB 3 C.2.2.2.2.1 (gd_all tg_2_105) rfl rfl rfl (hG.1.2.1 _ nn_51) (C.2.2.2.2.1 _ (List.mem_cons_of_mem _ tg_1_1)) cd_X8_plusTimes.2 ⟨Nat.le_of_ble_eq_true rfl, Nat.le_of_ble_eq_true rfl⟩) (C.2.2.2.2.1 _ (List.mem_cons_of_mem _ tg_2_104)) rfl rfl (Nat.le_of_ble_eq_true rfl) dX0_closedBy_99 (fun H locs hG => ?_)
    refine lv_istore_n (lv' := [(3, .int v4), (0, .ref (B + th)), (4, .int st.2)]) C.1 C.2.1 dX0_closedBy_102 rfl hl (by decide) rfl (fun ls hl => ?_)
    obtain ⟨v5, ev5, hf⟩ := of_letv hf
    refine lv_iinc (v := v5) (lv' := [(4, .int v5), (3, .int v4), (0, .ref (B + th))]) C.1 C.2.1 dX0_closedBy_103 hl (k := 2) rfl (by rw [ev5, show Int32.ofInt (1) = nI 1 from by decide]) (by decide) rfl (fun ls hl => ?_)
    refine lv_goto (tgt := 75) C.1 C.2.1 dX0_closedBy_106 (by decide) ?_
    obtain rfl := Option.some.inj hf
    exact kL _ rfl _ _ _ hG (lv_sub hl [2, 1, 0] rfl)
set_option maxRecDepth 100000 in
set_option maxHeartbeats 4000000 in
theorem kl_X0_closedBy_75 {th : Nat} {w : WX} (C : CX p s m args meth c cX0_closedBy 5 RX0 wc_X0_closedBy (some .int)) (hth : KDx th = (0, 13)) : ∀ (n : Nat) (st : Int32 × Int32) (x : (Int32)) (H : Heap) (locs : List Loc) (ls : Array Slot), Gd s G A 153 B (entX G B w) X H locs → lv_has ls 5 [(0, .ref (B + th)), (3, .int st.1), (4, .int st.2)] → lpw (sh_X0_closedBy_s75 th w) n st = some x →
    (∀ y' : Int32, x = y' → ∀ (H : Heap) (locs : List Loc) (ls : Array Slot), Gd s G A 153 B (entX G B w) X H locs → lv_has ls 5 [(3, .int y')] → W p l e rm_X0_closedBy s m args below meth c H locs 0 0 Q (F0 m 109 ls [])) → W p l e rm_X0_closedBy s m args below meth c H locs 0 0 Q (F0 m 75 ls []) := by
  intro n
  induction n with
  | zero =>
    intro st x H locs ls hG hl hf
    cases hf
  | succ n ih =>
    intro st x H locs ls hG hl hf kX0
    obtain ⟨r, hr, hh⟩ := of_lpw hf
    refine kb_X0_closedBy_75 C hth hG hl hr (fun st2 e1 H locs ls hG hl => ?_) (fun y2 e1 H locs ls hG hl => ?_)
    · rcases hh with ⟨s3, e2, hh⟩ | e2
      · rw [e2] at e1
        cases e1
        exact ih _ _ _ _ _ hG hl hh kX0
      · rw [e2] at e1
        cases e1
    · rcases hh with ⟨s3, e2, hh⟩ | e2
      · rw [e2] at e1
        cases e1
      · rw [e2] at e1
        cases e1
        exact kX0 _ rfl _ _ _ hG hl
set_option maxRecDepth 100000 in
set_option maxHeartbeats 4000000 in
theorem kb_X0_closedBy_0 {th : Nat} {x1 : Int32} {x2 : Int32} {w : WX} {out : Int32 × WX} {H : Heap} {locs : List Loc} {ls : Array Slot} (C : CX p s m args meth c cX0_closedBy 5 RX0 wc_X0_closedBy (some .int)) (hth : KDx th = (0, 13)) (hG : Gd s G A 153 B (entX G B w) X H locs) (hl : lv_has ls 5 [(0, .ref (B + th)), (1, .int x1), (2, .int x2)]) (hf : sh_X0_closedBy th x1 x2 w = some out) :
    W p l e rm_X0_closedBy s m args below meth c H locs 0 0 (MQ below (CPost G A 153 B (entX G B out.2) X (some (.int out.1))) args s 0 0 A) (F0 m 0 ls []) := by
  refine lv_iconst (v := nI 0) C.1 C.2.1 dX0_closedBy_0 (by decide) ?_
  refine lv_istore_n (lv' := [(3, .int (nI 0)), (0, .ref (B + th)), (1, .int x1), (2, .int x2)]) C.1 C.2.1 dX0_closedBy_1 rfl hl (by decide) rfl (fun ls hl => ?_)
  obtain ⟨ex1, hex1, hf⟩ := of_bind hf
  refine kl_X0_closedBy_2 C hth FU (nI 0, w) ex1 _ _ _ hG (lv_sub hl [1, 2, 3, 0] rfl) hex1 (fun y e0 H locs ls hG hl => ?_)
  subst e0
  refine lv_iconst (v := nI 0) C.1 C.2.1 dX0_closedBy_28 (by decide) ?_
  refine lv_istore_n (lv' := [(3, .int (nI 0)), (0, .ref (B + th)), (1, .int x1), (2, .int x2)]) C.1 C.2.1 dX0_closedBy_29 rfl hl (by decide) rfl (fun ls hl => ?_)
  obtain ⟨ex2, hex2, hf⟩ := of_bind hf
  refine kl_X0_closedBy_30 C hth FU (nI 0, ex1) ex2 _ _ _ hG (lv_sub hl [1, 2, 3, 0] rfl) hex2 (fun y e0 H locs ls hG hl => ?_)
  subst e0
  refine lv_iconst (v := nI 0) C.1 C.2.1 dX0_closedBy_49 (by decide) ?_
  refine lv_istore_n (lv' := [(3, .int (nI 0)), (0, .ref (B + th)), (2, .int x2)]) C.1 C.2.1 dX0_closedBy_50 rfl hl (by decide) rfl (fun ls hl => ?_)
  obtain ⟨ex3, hex3, hf⟩ := of_bind hf
  refine kl_X0_closedBy_51 C hth FU (nI 0, ex2) ex3 _ _ _ hG (lv_sub hl [1, 2, 0] rfl) hex3 (fun y e0 H locs ls hG hl => ?_)
  subst e0
  refine lv_iconst (v := nI 0) C.1 C.2.1 dX0_closedBy_70 (by decide) ?_
  refine lv_istore_n (lv' := [(3, .int (nI 0)), (0, .ref (B + th))]) C.1 C.2.1 dX0_closedBy_71 rfl hl (by decide) rfl (fun ls hl => ?_)
  refine lv_iconst (v := nI 0) C.1 C.2.1 dX0_closedBy_72 (by decide) ?_
  refine lv_istore (lv' := [(4, .int (nI 0)), (3, .int (nI 0)), (0, .ref (B + th))]) C.1 C.2.1 dX0_closedBy_73 hl (by decide) rfl (fun ls hl => ?_)
  obtain ⟨ex4, hex4, hf⟩ := of_bind hf
  refine kl_X0_closedBy_75 C hth FU (nI 0, nI 0) ex4 _ _ _ hG (lv_sub hl [2, 1, 0] rfl) hex4 (fun y e0 H locs ls hG hl => ?_)
  subst e0
  refine lv_iload_n C.1 C.2.1 dX0_closedBy_109 rfl (lv_at hl 0 rfl) ?_
  obtain rfl := Option.some.inj hf
  exact r_iret C hG dX0_closedBy_110
set_option maxRecDepth 100000 in
set_option maxHeartbeats 4000000 in
theorem mt_X0_closedBy (l : Launch) {G : GG} {A : Nat → Prop} {B : Nat} {X : va_W} {th : Nat} {x1 : Int32} {x2 : Int32} {w : WX} {out : Int32 × WX} (hth : KDx th = (0, 13)) (hf : sh_X0_closedBy th x1 x2 w = some out) : MetW l yX0_closedBy wc_X0_closedBy rm_X0_closedBy G A 153 B (entX G B w) X [.ref (B + th), .int x1, .int x2] (some (.int out.1)) (entX G B out.2) := by
  refine Met.ofW (cc := cX0_closedBy) (maxL := 5) (ret := (some .int)) (by decide) rfl ?_
  intro p e s m args below meth c s₁ B0 hml hv
  obtain ⟨rfl, hEv, hWd⟩ := hv
  have C : CX p s m _ meth c cX0_closedBy 5 RX0 wc_X0_closedBy (some .int) := ⟨B0.exec, B0.bytes, hml, findClass_of_methodNamed B0.named, atoms_spec (ws := wc_X0_closedBy) B0.pre, B0.returns, B0.notSynchronized⟩
  have hl := lv_entry [.ref (B + th), .int x1, .int x2] (n := 5) (Nat.le_of_ble_eq_true rfl)
  rw [lg_entry_eq]
  generalize (lg_sl [.ref (B + th), .int x1, .int x2] ++ List.replicate (5 - (lg_sl [.ref (B + th), .int x1, .int x2]).length) Slot.unset).toArray = ls at hl ⊢
  have hl : lv_has ls 5 [(0, .ref (B + th)), (1, .int x1), (2, .int x2)] := hl
  exact kb_X0_closedBy_0 C hth ⟨hEv, hWd, va_S.rf⟩ hl hf
abbrev wc_X0_turnsSign : List Cond := Cond.code yX0_turnsSign cX0_turnsSign 3 (some .boolean) :: TG
abbrev rm_X0_turnsSign : Room := { frames := 3, cells := 0, slots := 0, locals := 120 }
theorem cd_X0_turnsSign : yX0_turnsSign.cls = RX0 ∧ yX0_turnsSign.cls ≠ "java/lang/invoke/MethodHandle" ∧ yX0_turnsSign.cls ≠ "java/lang/invoke/VarHandle" ∧ (parseMethodDescriptor yX0_turnsSign.desc).map (fun d => d.parameters.length) = some 2 := by decide +kernel
theorem dX0_turnsSign_0 : decode cX0_turnsSign 0 = .ok (.aload_n 0, 1) := by decide +kernel
theorem dX0_turnsSign_1 : decode cX0_turnsSign 1 = .ok (.getfield 39, 3) := by decide +kernel
theorem dX0_turnsSign_4 : decode cX0_turnsSign 4 = .ok (.iconst 4, 1) := by decide +kernel
theorem dX0_turnsSign_5 : decode cX0_turnsSign 5 = .ok (.if_icmp .ne 27, 3) := by decide +kernel
theorem dX0_turnsSign_8 : decode cX0_turnsSign 8 = .ok (.iload_n 1, 1) := by decide +kernel
theorem dX0_turnsSign_9 : decode cX0_turnsSign 9 = .ok (.invokestatic 83, 3) := by decide +kernel
theorem dX0_turnsSign_12 : decode cX0_turnsSign 12 = .ok (.invokestatic 75, 3) := by decide +kernel
theorem dX0_turnsSign_15 : decode cX0_turnsSign 15 = .ok (.ifCond .eq 17, 3) := by decide +kernel
theorem dX0_turnsSign_18 : decode cX0_turnsSign 18 = .ok (.iload_n 2, 1) := by decide +kernel
theorem dX0_turnsSign_19 : decode cX0_turnsSign 19 = .ok (.invokestatic 83, 3) := by decide +kernel
theorem dX0_turnsSign_22 : decode cX0_turnsSign 22 = .ok (.invokestatic 75, 3) := by decide +kernel
theorem dX0_turnsSign_25 : decode cX0_turnsSign 25 = .ok (.ifCond .eq 7, 3) := by decide +kernel
theorem dX0_turnsSign_28 : decode cX0_turnsSign 28 = .ok (.iconst 1, 1) := by decide +kernel
theorem dX0_turnsSign_29 : decode cX0_turnsSign 29 = .ok (.goto 4, 3) := by decide +kernel
theorem dX0_turnsSign_32 : decode cX0_turnsSign 32 = .ok (.iconst 0, 1) := by decide +kernel
theorem dX0_turnsSign_33 : decode cX0_turnsSign 33 = .ok (.ireturn, 1) := by decide +kernel
set_option maxRecDepth 100000 in
set_option maxHeartbeats 4000000 in
theorem kb_X0_turnsSign_0 {th : Nat} {x1 : Int32} {x2 : Int32} {w : WX} {out : Int32} {H : Heap} {locs : List Loc} {ls : Array Slot} (C : CX p s m args meth c cX0_turnsSign 3 RX0 wc_X0_turnsSign (some .boolean)) (hth : KDx th = (0, 13)) (hG : Gd s G A 153 B (entX G B w) X H locs) (hl : lv_has ls 3 [(0, .ref (B + th)), (1, .int x1), (2, .int x2)]) (hf : sh_X0_turnsSign th x1 x2 w = some out) :
    W p l e rm_X0_turnsSign s m args below meth c H locs 0 0 (MQ below (CPost G A 153 B (entX G B w) X (some (.int out))) args s 0 0 A) (F0 m 0 ls []) := by
  refine lv_aload_n C.1 C.2.1 dX0_turnsSign_0 rfl (lv_at hl 0 rfl) ?_
  refine gf_X0_39 C hG hth dX0_turnsSign_1 ?_
  refine lv_iconst (v := nI 4) C.1 C.2.1 dX0_turnsSign_4 (by decide) ?_
  rcases of_ite hf with ⟨c1, hf⟩ | ⟨c1, hf⟩
  · refine lv_icmp_ne (tgt := 32) C.1 C.2.1 dX0_turnsSign_5 (by decide) (fun q => absurd c1 q) (fun _ => ?_)
    refine lv_iload_n C.1 C.2.1 dX0_turnsSign_8 rfl (lv_at hl 1 rfl) ?_
    obtain ⟨v2, hv2, hf⟩ := of_bind hf
    refine r_callS1 C hG hl.1 (As := [.int x1]) (mt_J6_bitCount_0f7a4 l  hv2) (va_cwS 1 C.2.2.2.2.1 (gd_S tg_2_83 tg_2_84 tg_1_11 tg_2_85) rfl rfl rfl cd_J6_bitCount_0f7a4.2 ⟨Nat.le_of_ble_eq_true rfl, Nat.le_of_ble_eq_true rfl⟩) rfl rfl (Nat.le_of_ble_eq_true rfl) dX0_turnsSign_9 (fun H locs hG => ?_)
    obtain ⟨v3, hv3, hf⟩ := of_bind hf
    refine r_callSN1 C hG hl.1 (As := [.int v2]) (mt_X8_isOdd l  hv3) (va_cnB 1 C.2.2.2.2.1 (gd_all tg_2_91) rfl rfl rfl (hG.1.2.1 _ nn_50) (C.2.2.2.2.1 _ (List.mem_cons_of_mem _ tg_1_1)) cd_X8_isOdd.2 ⟨Nat.le_of_ble_eq_true rfl, Nat.le_of_ble_eq_true rfl⟩) (C.2.2.2.2.1 _ (List.mem_cons_of_mem _ tg_2_90)) rfl rfl (Nat.le_of_ble_eq_true rfl) dX0_turnsSign_12 (fun H locs hG => ?_)
    rcases of_ite hf with ⟨c4, hf⟩ | ⟨c4, hf⟩
    · refine lv_if_eq (tgt := 32) C.1 C.2.1 dX0_turnsSign_15 (by decide) (fun _ => ?_) (fun q => absurd c4 q)
      refine lv_iconst (v := nI 0) C.1 C.2.1 dX0_turnsSign_32 (by decide) ?_
      obtain rfl := Option.some.inj hf
      exact r_zret C hG (Or.inl rfl) dX0_turnsSign_33
    · refine lv_if_eq (tgt := 32) C.1 C.2.1 dX0_turnsSign_15 (by decide) (fun q => absurd q c4) (fun _ => ?_)
      refine lv_iload_n C.1 C.2.1 dX0_turnsSign_18 rfl (lv_at hl 2 rfl) ?_
      obtain ⟨v5, hv5, hf⟩ := of_bind hf
      refine r_callS1 C hG hl.1 (As := [.int x2]) (mt_J6_bitCount_0f7a4 l  hv5) (va_cwS 1 C.2.2.2.2.1 (gd_S tg_2_83 tg_2_84 tg_1_11 tg_2_85) rfl rfl rfl cd_J6_bitCount_0f7a4.2 ⟨Nat.le_of_ble_eq_true rfl, Nat.le_of_ble_eq_true rfl⟩) rfl rfl (Nat.le_of_ble_eq_true rfl) dX0_turnsSign_19 (fun H locs hG => ?_)
      obtain ⟨v6, hv6, hf⟩ := of_bind hf
      refine r_callSN1 C hG hl.1 (As := [.int v5]) (mt_X8_isOdd l  hv6) (va_cnB 1 C.2.2.2.2.1 (gd_all tg_2_91) rfl rfl rfl (hG.1.2.1 _ nn_50) (C.2.2.2.2.1 _ (List.mem_cons_of_mem _ tg_1_1)) cd_X8_isOdd.2 ⟨Nat.le_of_ble_eq_true rfl, Nat.le_of_ble_eq_true rfl⟩) (C.2.2.2.2.1 _ (List.mem_cons_of_mem _ tg_2_90)) rfl rfl (Nat.le_of_ble_eq_true rfl) dX0_turnsSign_22 (fun H locs hG => ?_)
      rcases of_ite hf with ⟨c7, hf⟩ | ⟨c7, hf⟩
      · refine lv_if_eq (tgt := 32) C.1 C.2.1 dX0_turnsSign_25 (by decide) (fun _ => ?_) (fun q => absurd c7 q)
        refine lv_iconst (v := nI 0) C.1 C.2.1 dX0_turnsSign_32 (by decide) ?_
        obtain rfl := Option.some.inj hf
        exact r_zret C hG (Or.inl rfl) dX0_turnsSign_33
      · refine lv_if_eq (tgt := 32) C.1 C.2.1 dX0_turnsSign_25 (by decide) (fun q => absurd q c7) (fun _ => ?_)
        refine lv_iconst (v := nI 1) C.1 C.2.1 dX0_turnsSign_28 (by decide) ?_
        refine lv_goto (tgt := 33) C.1 C.2.1 dX0_turnsSign_29 (by decide) ?_
        obtain rfl := Option.some.inj hf
        exact r_zret C hG (Or.inr rfl) dX0_turnsSign_33
  · refine lv_icmp_ne (tgt := 32) C.1 C.2.1 dX0_turnsSign_5 (by decide) (fun _ => ?_) (fun q => absurd q c1)
    refine lv_iconst (v := nI 0) C.1 C.2.1 dX0_turnsSign_32 (by decide) ?_
    obtain rfl := Option.some.inj hf
    exact r_zret C hG (Or.inl rfl) dX0_turnsSign_33
set_option maxRecDepth 100000 in
set_option maxHeartbeats 4000000 in
theorem mt_X0_turnsSign (l : Launch) {G : GG} {A : Nat → Prop} {B : Nat} {X : va_W} {th : Nat} {x1 : Int32} {x2 : Int32} {w : WX} {out : Int32} (hth : KDx th = (0, 13)) (hf : sh_X0_turnsSign th x1 x2 w = some out) : MetW l yX0_turnsSign wc_X0_turnsSign rm_X0_turnsSign G A 153 B (entX G B w) X [.ref (B + th), .int x1, .int x2] (some (.int out)) (entX G B w) := by
  refine Met.ofW (cc := cX0_turnsSign) (maxL := 3) (ret := (some .boolean)) (by decide) rfl ?_
  intro p e s m args below meth c s₁ B0 hml hv
  obtain ⟨rfl, hEv, hWd⟩ := hv
  have C : CX p s m _ meth c cX0_turnsSign 3 RX0 wc_X0_turnsSign (some .boolean) := ⟨B0.exec, B0.bytes, hml, findClass_of_methodNamed B0.named, atoms_spec (ws := wc_X0_turnsSign) B0.pre, B0.returns, B0.notSynchronized⟩
  have hl := lv_entry [.ref (B + th), .int x1, .int x2] (n := 3) (Nat.le_of_ble_eq_true rfl)
  rw [lg_entry_eq]
  generalize (lg_sl [.ref (B + th), .int x1, .int x2] ++ List.replicate (3 - (lg_sl [.ref (B + th), .int x1, .int x2]).length) Slot.unset).toArray = ls at hl ⊢
  have hl : lv_has ls 3 [(0, .ref (B + th)), (1, .int x1), (2, .int x2)] := hl
  exact kb_X0_turnsSign_0 C hth ⟨hEv, hWd, va_S.rf⟩ hl hf
abbrev wc_X1_hasNumber : List Cond := Cond.code yX1_hasNumber cX1_hasNumber 2 (some .boolean) :: TG
abbrev rm_X1_hasNumber : Room := { frames := 2, cells := 0, slots := 0, locals := 100 }
theorem cd_X1_hasNumber : yX1_hasNumber.cls = RX1 ∧ yX1_hasNumber.cls ≠ "java/lang/invoke/MethodHandle" ∧ yX1_hasNumber.cls ≠ "java/lang/invoke/VarHandle" ∧ (parseMethodDescriptor yX1_hasNumber.desc).map (fun d => d.parameters.length) = some 1 := by decide +kernel
theorem dX1_hasNumber_0 : decode cX1_hasNumber 0 = .ok (.iload_n 1, 1) := by decide +kernel
theorem dX1_hasNumber_1 : decode cX1_hasNumber 1 = .ok (.ifCond .lt 12, 3) := by decide +kernel
theorem dX1_hasNumber_4 : decode cX1_hasNumber 4 = .ok (.iload_n 1, 1) := by decide +kernel
theorem dX1_hasNumber_5 : decode cX1_hasNumber 5 = .ok (.iconst 4, 1) := by decide +kernel
theorem dX1_hasNumber_6 : decode cX1_hasNumber 6 = .ok (.if_icmp .ge 7, 3) := by decide +kernel
theorem dX1_hasNumber_9 : decode cX1_hasNumber 9 = .ok (.iconst 1, 1) := by decide +kernel
theorem dX1_hasNumber_10 : decode cX1_hasNumber 10 = .ok (.goto 4, 3) := by decide +kernel
theorem dX1_hasNumber_13 : decode cX1_hasNumber 13 = .ok (.iconst 0, 1) := by decide +kernel
theorem dX1_hasNumber_14 : decode cX1_hasNumber 14 = .ok (.ireturn, 1) := by decide +kernel
set_option maxRecDepth 100000 in
set_option maxHeartbeats 4000000 in
theorem kb_X1_hasNumber_0 {x1 : Int32} {out : Int32} {H : Heap} {locs : List Loc} {ls : Array Slot} (C : CX p s m args meth c cX1_hasNumber 2 RX1 wc_X1_hasNumber (some .boolean))  (hG : Gd s G A N B E X H locs) (hl : lv_has ls 2 [(0, .ref (B + 111)), (1, .int x1)]) (hf : sh_X1_hasNumber x1 = some out) :
    W p l e rm_X1_hasNumber s m args below meth c H locs 0 0 (MQ below (CPost G A N B E X (some (.int out))) args s 0 0 A) (F0 m 0 ls []) := by
  refine lv_iload_n C.1 C.2.1 dX1_hasNumber_0 rfl (lv_at hl 1 rfl) ?_
  rcases of_ite hf with ⟨c1, hf⟩ | ⟨c1, hf⟩
  · refine lv_if_lt (tgt := 13) C.1 C.2.1 dX1_hasNumber_1 (by decide) (fun _ => ?_) (fun q => absurd c1 q)
    refine lv_iconst (v := nI 0) C.1 C.2.1 dX1_hasNumber_13 (by decide) ?_
    obtain rfl := Option.some.inj hf
    exact r_zret C hG (Or.inl rfl) dX1_hasNumber_14
  · refine lv_if_lt (tgt := 13) C.1 C.2.1 dX1_hasNumber_1 (by decide) (fun q => absurd q c1) (fun _ => ?_)
    refine lv_iload_n C.1 C.2.1 dX1_hasNumber_4 rfl (lv_at hl 1 rfl) ?_
    refine lv_iconst (v := nI 4) C.1 C.2.1 dX1_hasNumber_5 (by decide) ?_
    rcases of_ite hf with ⟨c2, hf⟩ | ⟨c2, hf⟩
    · refine lv_icmp_ge (tgt := 13) C.1 C.2.1 dX1_hasNumber_6 (by decide) (fun _ => ?_) (fun q => absurd c2 q)
      refine lv_iconst (v := nI 0) C.1 C.2.1 dX1_hasNumber_13 (by decide) ?_
      obtain rfl := Option.some.inj hf
      exact r_zret C hG (Or.inl rfl) dX1_hasNumber_14
    · refine lv_icmp_ge (tgt := 13) C.1 C.2.1 dX1_hasNumber_6 (by decide) (fun q => absurd q c2) (fun _ => ?_)
      refine lv_iconst (v := nI 1) C.1 C.2.1 dX1_hasNumber_9 (by decide) ?_
      refine lv_goto (tgt := 14) C.1 C.2.1 dX1_hasNumber_10 (by decide) ?_
      obtain rfl := Option.some.inj hf
      exact r_zret C hG (Or.inr rfl) dX1_hasNumber_14
set_option maxRecDepth 100000 in
set_option maxHeartbeats 4000000 in
theorem mt_X1_hasNumber (l : Launch) {G : GG} {A : Nat → Prop} {N B : Nat} {E : Nat → va_E} {X : va_W} {x1 : Int32} {out : Int32}  (hf : sh_X1_hasNumber x1 = some out) : MetW l yX1_hasNumber wc_X1_hasNumber rm_X1_hasNumber G A N B E X [.ref (B + 111), .int x1] (some (.int out)) E := by
  refine Met.ofW (cc := cX1_hasNumber) (maxL := 2) (ret := (some .boolean)) (by decide) rfl ?_
  intro p e s m args below meth c s₁ B0 hml hv
  obtain ⟨rfl, hEv, hWd⟩ := hv
  have C : CX p s m _ meth c cX1_hasNumber 2 RX1 wc_X1_hasNumber (some .boolean) := ⟨B0.exec, B0.bytes, hml, findClass_of_methodNamed B0.named, atoms_spec (ws := wc_X1_hasNumber) B0.pre, B0.returns, B0.notSynchronized⟩
  have hl := lv_entry [.ref (B + 111), .int x1] (n := 2) (Nat.le_of_ble_eq_true rfl)
  rw [lg_entry_eq]
  generalize (lg_sl [.ref (B + 111), .int x1] ++ List.replicate (2 - (lg_sl [.ref (B + 111), .int x1]).length) Slot.unset).toArray = ls at hl ⊢
  have hl : lv_has ls 2 [(0, .ref (B + 111)), (1, .int x1)] := hl
  exact kb_X1_hasNumber_0 C  ⟨hEv, hWd, va_S.rf⟩ hl hf
abbrev wc_X1_isHeld : List Cond := Cond.code yX1_isHeld cX1_isHeld 2 (some .boolean) :: TG
abbrev rm_X1_isHeld : Room := { frames := 3, cells := 0, slots := 0, locals := 121 }
theorem cd_X1_isHeld : yX1_isHeld.cls = RX1 ∧ yX1_isHeld.cls ≠ "java/lang/invoke/MethodHandle" ∧ yX1_isHeld.cls ≠ "java/lang/invoke/VarHandle" ∧ (parseMethodDescriptor yX1_isHeld.desc).map (fun d => d.parameters.length) = some 1 := by decide +kernel
theorem dX1_isHeld_0 : decode cX1_isHeld 0 = .ok (.aload_n 0, 1) := by decide +kernel
theorem dX1_isHeld_1 : decode cX1_isHeld 1 = .ok (.iload_n 1, 1) := by decide +kernel
theorem dX1_isHeld_2 : decode cX1_isHeld 2 = .ok (.invokevirtual 20, 3) := by decide +kernel
theorem dX1_isHeld_5 : decode cX1_isHeld 5 = .ok (.ifCond .eq 16, 3) := by decide +kernel
theorem dX1_isHeld_8 : decode cX1_isHeld 8 = .ok (.aload_n 0, 1) := by decide +kernel
theorem dX1_isHeld_9 : decode cX1_isHeld 9 = .ok (.getfield 16, 3) := by decide +kernel
theorem dX1_isHeld_12 : decode cX1_isHeld 12 = .ok (.iload_n 1, 1) := by decide +kernel
theorem dX1_isHeld_13 : decode cX1_isHeld 13 = .ok (.iaload, 1) := by decide +kernel
theorem dX1_isHeld_14 : decode cX1_isHeld 14 = .ok (.ifCond .lt 7, 3) := by decide +kernel
theorem dX1_isHeld_17 : decode cX1_isHeld 17 = .ok (.iconst 1, 1) := by decide +kernel
theorem dX1_isHeld_18 : decode cX1_isHeld 18 = .ok (.goto 4, 3) := by decide +kernel
theorem dX1_isHeld_21 : decode cX1_isHeld 21 = .ok (.iconst 0, 1) := by decide +kernel
theorem dX1_isHeld_22 : decode cX1_isHeld 22 = .ok (.ireturn, 1) := by decide +kernel
set_option maxRecDepth 100000 in
set_option maxHeartbeats 4000000 in
theorem kb_X1_isHeld_0 {x1 : Int32} {w : WX} {out : Int32} {H : Heap} {locs : List Loc} {ls : Array Slot} (C : CX p s m args meth c cX1_isHeld 2 RX1 wc_X1_isHeld (some .boolean))  (hG : Gd s G A 153 B (entX G B w) X H locs) (hl : lv_has ls 2 [(0, .ref (B + 111)), (1, .int x1)]) (hf : sh_X1_isHeld x1 w = some out) :
    W p l e rm_X1_isHeld s m args below meth c H locs 0 0 (MQ below (CPost G A 153 B (entX G B w) X (some (.int out))) args s 0 0 A) (F0 m 0 ls []) := by
  refine lv_aload_n C.1 C.2.1 dX1_isHeld_0 rfl (lv_at hl 0 rfl) ?_
  refine lv_iload_n C.1 C.2.1 dX1_isHeld_1 rfl (lv_at hl 1 rfl) ?_
  obtain ⟨v1, hv1, hf⟩ := of_bind hf
  refine r_callV1 C hG hl.1 (c0 := 111) (As := [.int x1]) (by decide) (entX_O1 (n := 2) rfl) rfl (mt_X1_hasNumber l  hv1) (cwV 1 C.2.2.2.2.1 (gd_V tg_4_29 tg_4_22 tg_4_23 tg_1_7 tg_4_24) rfl rfl rfl cd_X1_hasNumber ⟨Nat.le_of_ble_eq_true rfl, Nat.le_of_ble_eq_true rfl⟩) rfl rfl (Nat.le_of_ble_eq_true rfl) dX1_isHeld_2 (fun H locs hG => ?_)
  rcases of_ite hf with ⟨c2, hf⟩ | ⟨c2, hf⟩
  · refine lv_if_eq (tgt := 21) C.1 C.2.1 dX1_isHeld_5 (by decide) (fun _ => ?_) (fun q => absurd c2 q)
    refine lv_iconst (v := nI 0) C.1 C.2.1 dX1_isHeld_21 (by decide) ?_
    obtain rfl := Option.some.inj hf
    exact r_zret C hG (Or.inl rfl) dX1_isHeld_22
  · refine lv_if_eq (tgt := 21) C.1 C.2.1 dX1_isHeld_5 (by decide) (fun q => absurd q c2) (fun _ => ?_)
    refine lv_aload_n C.1 C.2.1 dX1_isHeld_8 rfl (lv_at hl 0 rfl) ?_
    refine gf_X1_16 C hG rfl dX1_isHeld_9 ?_
    refine lv_iload_n C.1 C.2.1 dX1_isHeld_12 rfl (lv_at hl 1 rfl) ?_
    obtain ⟨v3, hv3, hf⟩ := of_bind hf
    obtain ⟨bv3, ev3⟩ := of_ldS hv3
    refine r_iald C hG (c0 := 117) (by decide) (entX_I (n := 4) rfl) bv3 dX1_isHeld_13 ?_
    refine r_top ev3 ?_
    rcases of_ite hf with ⟨c4, hf⟩ | ⟨c4, hf⟩
    · refine lv_if_lt (tgt := 21) C.1 C.2.1 dX1_isHeld_14 (by decide) (fun _ => ?_) (fun q => absurd c4 q)
      refine lv_iconst (v := nI 0) C.1 C.2.1 dX1_isHeld_21 (by decide) ?_
      obtain rfl := Option.some.inj hf
      exact r_zret C hG (Or.inl rfl) dX1_isHeld_22
    · refine lv_if_lt (tgt := 21) C.1 C.2.1 dX1_isHeld_14 (by decide) (fun q => absurd q c4) (fun _ => ?_)
      refine lv_iconst (v := nI 1) C.1 C.2.1 dX1_isHeld_17 (by decide) ?_
      refine lv_goto (tgt := 22) C.1 C.2.1 dX1_isHeld_18 (by decide) ?_
      obtain rfl := Option.some.inj hf
      exact r_zret C hG (Or.inr rfl) dX1_isHeld_22
set_option maxRecDepth 100000 in
set_option maxHeartbeats 4000000 in
theorem mt_X1_isHeld (l : Launch) {G : GG} {A : Nat → Prop} {B : Nat} {X : va_W} {x1 : Int32} {w : WX} {out : Int32}  (hf : sh_X1_isHeld x1 w = some out) : MetW l yX1_isHeld wc_X1_isHeld rm_X1_isHeld G A 153 B (entX G B w) X [.ref (B + 111), .int x1] (some (.int out)) (entX G B w) := by
  refine Met.ofW (cc := cX1_isHeld) (maxL := 2) (ret := (some .boolean)) (by decide) rfl ?_
  intro p e s m args below meth c s₁ B0 hml hv
  obtain ⟨rfl, hEv, hWd⟩ := hv
  have C : CX p s m _ meth c cX1_isHeld 2 RX1 wc_X1_isHeld (some .boolean) := ⟨B0.exec, B0.bytes, hml, findClass_of_methodNamed B0.named, atoms_spec (ws := wc_X1_isHeld) B0.pre, B0.returns, B0.notSynchronized⟩
  have hl := lv_entry [.ref (B + 111), .int x1] (n := 2) (Nat.le_of_ble_eq_true rfl)
  rw [lg_entry_eq]
  generalize (lg_sl [.ref (B + 111), .int x1] ++ List.replicate (2 - (lg_sl [.ref (B + 111), .int x1]).length) Slot.unset).toArray = ls at hl ⊢
  have hl : lv_has ls 2 [(0, .ref (B + 111)), (1, .int x1)] := hl
  exact kb_X1_isHeld_0 C  ⟨hEv, hWd, va_S.rf⟩ hl hf
abbrev wc_X1_hasPlace : List Cond := Cond.code yX1_hasPlace cX1_hasPlace 3 (some .boolean) :: TG
abbrev rm_X1_hasPlace : Room := { frames := 4, cells := 0, slots := 0, locals := 142 }
theorem cd_X1_hasPlace : yX1_hasPlace.cls = RX1 ∧ yX1_hasPlace.cls ≠ "java/lang/invoke/MethodHandle" ∧ yX1_hasPlace.cls ≠ "java/lang/invoke/VarHandle" ∧ (parseMethodDescriptor yX1_hasPlace.desc).map (fun d => d.parameters.length) = some 2 := by decide +kernel
theorem dX1_hasPlace_0 : decode cX1_hasPlace 0 = .ok (.aload_n 0, 1) := by decide +kernel
theorem dX1_hasPlace_1 : decode cX1_hasPlace 1 = .ok (.iload_n 1, 1) := by decide +kernel
theorem dX1_hasPlace_2 : decode cX1_hasPlace 2 = .ok (.invokevirtual 24, 3) := by decide +kernel
theorem dX1_hasPlace_5 : decode cX1_hasPlace 5 = .ok (.ifCond .eq 21, 3) := by decide +kernel
theorem dX1_hasPlace_8 : decode cX1_hasPlace 8 = .ok (.iload_n 2, 1) := by decide +kernel
theorem dX1_hasPlace_9 : decode cX1_hasPlace 9 = .ok (.ifCond .lt 17, 3) := by decide +kernel
theorem dX1_hasPlace_12 : decode cX1_hasPlace 12 = .ok (.iload_n 2, 1) := by decide +kernel
theorem dX1_hasPlace_13 : decode cX1_hasPlace 13 = .ok (.aload_n 0, 1) := by decide +kernel
theorem dX1_hasPlace_14 : decode cX1_hasPlace 14 = .ok (.getfield 16, 3) := by decide +kernel
theorem dX1_hasPlace_17 : decode cX1_hasPlace 17 = .ok (.iload_n 1, 1) := by decide +kernel
theorem dX1_hasPlace_18 : decode cX1_hasPlace 18 = .ok (.iaload, 1) := by decide +kernel
theorem dX1_hasPlace_19 : decode cX1_hasPlace 19 = .ok (.if_icmp .ge 7, 3) := by decide +kernel
theorem dX1_hasPlace_22 : decode cX1_hasPlace 22 = .ok (.iconst 1, 1) := by decide +kernel
theorem dX1_hasPlace_23 : decode cX1_hasPlace 23 = .ok (.goto 4, 3) := by decide +kernel
theorem dX1_hasPlace_26 : decode cX1_hasPlace 26 = .ok (.iconst 0, 1) := by decide +kernel
theorem dX1_hasPlace_27 : decode cX1_hasPlace 27 = .ok (.ireturn, 1) := by decide +kernel
set_option maxRecDepth 100000 in
set_option maxHeartbeats 4000000 in
theorem kb_X1_hasPlace_0 {x1 : Int32} {x2 : Int32} {w : WX} {out : Int32} {H : Heap} {locs : List Loc} {ls : Array Slot} (C : CX p s m args meth c cX1_hasPlace 3 RX1 wc_X1_hasPlace (some .boolean))  (hG : Gd s G A 153 B (entX G B w) X H locs) (hl : lv_has ls 3 [(0, .ref (B + 111)), (1, .int x1), (2, .int x2)]) (hf : sh_X1_hasPlace x1 x2 w = some out) :
    W p l e rm_X1_hasPlace s m args below meth c H locs 0 0 (MQ below (CPost G A 153 B (entX G B w) X (some (.int out))) args s 0 0 A) (F0 m 0 ls []) := by
  refine lv_aload_n C.1 C.2.1 dX1_hasPlace_0 rfl (lv_at hl 0 rfl) ?_
  refine lv_iload_n C.1 C.2.1 dX1_hasPlace_1 rfl (lv_at hl 1 rfl) ?_
  obtain ⟨v1, hv1, hf⟩ := of_bind hf
  refine r_callV1 C hG hl.1 (c0 := 111) (As := [.int x1]) (by decide) (entX_O1 (n := 2) rfl) rfl (mt_X1_isHeld l  hv1) (cwV 1 C.2.2.2.2.1 (gd_V tg_4_46 tg_4_26 tg_4_27 tg_1_7 tg_4_28) rfl rfl rfl cd_X1_isHeld ⟨Nat.le_of_ble_eq_true rfl, Nat.le_of_ble_eq_true rfl⟩) rfl rfl (Nat.le_of_ble_eq_true rfl) dX1_hasPlace_2 (fun H locs hG => ?_)
  rcases of_ite hf with ⟨c2, hf⟩ | ⟨c2, hf⟩
  · refine lv_if_eq (tgt := 26) C.1 C.2.1 dX1_hasPlace_5 (by decide) (fun _ => ?_) (fun q => absurd c2 q)
    refine lv_iconst (v := nI 0) C.1 C.2.1 dX1_hasPlace_26 (by decide) ?_
    obtain rfl := Option.some.inj hf
    exact r_zret C hG (Or.inl rfl) dX1_hasPlace_27
  · refine lv_if_eq (tgt := 26) C.1 C.2.1 dX1_hasPlace_5 (by decide) (fun q => absurd q c2) (fun _ => ?_)
    refine lv_iload_n C.1 C.2.1 dX1_hasPlace_8 rfl (lv_at hl 2 rfl) ?_
    rcases of_ite hf with ⟨c3, hf⟩ | ⟨c3, hf⟩
    · refine lv_if_lt (tgt := 26) C.1 C.2.1 dX1_hasPlace_9 (by decide) (fun _ => ?_) (fun q => absurd c3 q)
      refine lv_iconst (v := nI 0) C.1 C.2.1 dX1_hasPlace_26 (by decide) ?_
      obtain rfl := Option.some.inj hf
      exact r_zret C hG (Or.inl rfl) dX1_hasPlace_27
    · refine lv_if_lt (tgt := 26) C.1 C.2.1 dX1_hasPlace_9 (by decide) (fun q => absurd q c3) (fun _ => ?_)
      refine lv_iload_n C.1 C.2.1 dX1_hasPlace_12 rfl (lv_at hl 2 rfl) ?_
      refine lv_aload_n C.1 C.2.1 dX1_hasPlace_13 rfl (lv_at hl 0 rfl) ?_
      refine gf_X1_16 C hG rfl dX1_hasPlace_14 ?_
      refine lv_iload_n C.1 C.2.1 dX1_hasPlace_17 rfl (lv_at hl 1 rfl) ?_
      obtain ⟨v4, hv4, hf⟩ := of_bind hf
      obtain ⟨bv4, ev4⟩ := of_ldS hv4
      refine r_iald C hG (c0 := 117) (by decide) (entX_I (n := 4) rfl) bv4 dX1_hasPlace_18 ?_
      refine r_top ev4 ?_
      rcases of_ite hf with ⟨c5, hf⟩ | ⟨c5, hf⟩
      · refine lv_icmp_ge (tgt := 26) C.1 C.2.1 dX1_hasPlace_19 (by decide) (fun _ => ?_) (fun q => absurd c5 q)
        refine lv_iconst (v := nI 0) C.1 C.2.1 dX1_hasPlace_26 (by decide) ?_
        obtain rfl := Option.some.inj hf
        exact r_zret C hG (Or.inl rfl) dX1_hasPlace_27
      · refine lv_icmp_ge (tgt := 26) C.1 C.2.1 dX1_hasPlace_19 (by decide) (fun q => absurd q c5) (fun _ => ?_)
        refine lv_iconst (v := nI 1) C.1 C.2.1 dX1_hasPlace_22 (by decide) ?_
        refine lv_goto (tgt := 27) C.1 C.2.1 dX1_hasPlace_23 (by decide) ?_
        obtain rfl := Option.some.inj hf
        exact r_zret C hG (Or.inr rfl) dX1_hasPlace_27
set_option maxRecDepth 100000 in
set_option maxHeartbeats 4000000 in
theorem mt_X1_hasPlace (l : Launch) {G : GG} {A : Nat → Prop} {B : Nat} {X : va_W} {x1 : Int32} {x2 : Int32} {w : WX} {out : Int32}  (hf : sh_X1_hasPlace x1 x2 w = some out) : MetW l yX1_hasPlace wc_X1_hasPlace rm_X1_hasPlace G A 153 B (entX G B w) X [.ref (B + 111), .int x1, .int x2] (some (.int out)) (entX G B w) := by
  refine Met.ofW (cc := cX1_hasPlace) (maxL := 3) (ret := (some .boolean)) (by decide) rfl ?_
  intro p e s m args below meth c s₁ B0 hml hv
  obtain ⟨rfl, hEv, hWd⟩ := hv
  have C : CX p s m _ meth c cX1_hasPlace 3 RX1 wc_X1_hasPlace (some .boolean) := ⟨B0.exec, B0.bytes, hml, findClass_of_methodNamed B0.named, atoms_spec (ws := wc_X1_hasPlace) B0.pre, B0.returns, B0.notSynchronized⟩
  have hl := lv_entry [.ref (B + 111), .int x1, .int x2] (n := 3) (Nat.le_of_ble_eq_true rfl)
  rw [lg_entry_eq]
  generalize (lg_sl [.ref (B + 111), .int x1, .int x2] ++ List.replicate (3 - (lg_sl [.ref (B + 111), .int x1, .int x2]).length) Slot.unset).toArray = ls at hl ⊢
  have hl : lv_has ls 3 [(0, .ref (B + 111)), (1, .int x1), (2, .int x2)] := hl
  exact kb_X1_hasPlace_0 C  ⟨hEv, hWd, va_S.rf⟩ hl hf
abbrev wc_X1_hold : List Cond := Cond.code yX1_hold cX1_hold 4 none :: TG
abbrev rm_X1_hold : Room := { frames := 3, cells := 0, slots := 0, locals := 121 }
theorem cd_X1_hold : yX1_hold.cls = RX1 ∧ yX1_hold.cls ≠ "java/lang/invoke/MethodHandle" ∧ yX1_hold.cls ≠ "java/lang/invoke/VarHandle" ∧ (parseMethodDescriptor yX1_hold.desc).map (fun d => d.parameters.length) = some 2 := by decide +kernel
theorem dX1_hold_0 : decode cX1_hold 0 = .ok (.aload_n 0, 1) := by decide +kernel
theorem dX1_hold_1 : decode cX1_hold 1 = .ok (.iload_n 1, 1) := by decide +kernel
theorem dX1_hold_2 : decode cX1_hold 2 = .ok (.invokevirtual 20, 3) := by decide +kernel
theorem dX1_hold_5 : decode cX1_hold 5 = .ok (.ifCond .eq 13, 3) := by decide +kernel
theorem dX1_hold_8 : decode cX1_hold 8 = .ok (.iload_n 2, 1) := by decide +kernel
theorem dX1_hold_9 : decode cX1_hold 9 = .ok (.ifCond .lt 9, 3) := by decide +kernel
theorem dX1_hold_12 : decode cX1_hold 12 = .ok (.iload_n 2, 1) := by decide +kernel
theorem dX1_hold_13 : decode cX1_hold 13 = .ok (.bipush 12, 2) := by decide +kernel
theorem dX1_hold_15 : decode cX1_hold 15 = .ok (.if_icmp .le 4, 3) := by decide +kernel
theorem dX1_hold_18 : decode cX1_hold 18 = .ok (.return_, 1) := by decide +kernel
theorem dX1_hold_19 : decode cX1_hold 19 = .ok (.aload_n 0, 1) := by decide +kernel
theorem dX1_hold_20 : decode cX1_hold 20 = .ok (.getfield 16, 3) := by decide +kernel
theorem dX1_hold_23 : decode cX1_hold 23 = .ok (.iload_n 1, 1) := by decide +kernel
theorem dX1_hold_24 : decode cX1_hold 24 = .ok (.iload_n 2, 1) := by decide +kernel
theorem dX1_hold_25 : decode cX1_hold 25 = .ok (.iastore, 1) := by decide +kernel
theorem dX1_hold_26 : decode cX1_hold 26 = .ok (.iconst 0, 1) := by decide +kernel
theorem dX1_hold_27 : decode cX1_hold 27 = .ok (.istore_n 3, 1) := by decide +kernel
theorem dX1_hold_28 : decode cX1_hold 28 = .ok (.iload_n 3, 1) := by decide +kernel
theorem dX1_hold_29 : decode cX1_hold 29 = .ok (.iload_n 2, 1) := by decide +kernel
theorem dX1_hold_30 : decode cX1_hold 30 = .ok (.if_icmp .ge 18, 3) := by decide +kernel
theorem dX1_hold_33 : decode cX1_hold 33 = .ok (.aload_n 0, 1) := by decide +kernel
theorem dX1_hold_34 : decode cX1_hold 34 = .ok (.getfield 11, 3) := by decide +kernel
theorem dX1_hold_37 : decode cX1_hold 37 = .ok (.iload_n 1, 1) := by decide +kernel
theorem dX1_hold_38 : decode cX1_hold 38 = .ok (.aaload, 1) := by decide +kernel
theorem dX1_hold_39 : decode cX1_hold 39 = .ok (.iload_n 3, 1) := by decide +kernel
theorem dX1_hold_40 : decode cX1_hold 40 = .ok (.iconst 0, 1) := by decide +kernel
theorem dX1_hold_41 : decode cX1_hold 41 = .ok (.iastore, 1) := by decide +kernel
theorem dX1_hold_42 : decode cX1_hold 42 = .ok (.iinc 3 1, 3) := by decide +kernel
theorem dX1_hold_45 : decode cX1_hold 45 = .ok (.goto (-17), 3) := by decide +kernel
theorem dX1_hold_48 : decode cX1_hold 48 = .ok (.return_, 1) := by decide +kernel
set_option maxRecDepth 100000 in
set_option maxHeartbeats 4000000 in
theorem kb_X1_hold_28 {x1 : Int32} {x2 : Int32} {st : Int32 × WX} {r : (Int32 × WX) ⊕ ((WX))} {H : Heap} {locs : List Loc} {ls : Array Slot} (C : CX p s m args meth c cX1_hold 4 RX1 wc_X1_hold none)  (hG : Gd s G A 153 B (entX G B st.2) X H locs) (hl : lv_has ls 4 [(0, .ref (B + 111)), (1, .int x1), (2, .int x2), (3, .int st.1)]) (hf : sh_X1_hold_s28 x1 x2 st = some r)
    (kL : ∀ st' : Int32 × WX, r = Sum.inl st' → ∀ (H : Heap) (locs : List Loc) (ls : Array Slot), Gd s G A 153 B (entX G B st'.2) X H locs → lv_has ls 4 [(0, .ref (B + 111)), (1, .int x1), (2, .int x2), (3, .int st'.1)] → W p l e rm_X1_hold s m args below meth c H locs 0 0 Q (F0 m 28 ls []))
    (kX0 : ∀ y' : WX, r = Sum.inr y' → ∀ (H : Heap) (locs : List Loc) (ls : Array Slot), Gd s G A 153 B (entX G B y') X H locs → lv_has ls 4 [] → W p l e rm_X1_hold s m args below meth c H locs 0 0 Q (F0 m 48 ls [])) :
    W p l e rm_X1_hold s m args below meth c H locs 0 0 Q (F0 m 28 ls []) := by
  refine lv_iload_n C.1 C.2.1 dX1_hold_28 rfl (lv_at hl 3 rfl) ?_
  refine lv_iload_n C.1 C.2.1 dX1_hold_29 rfl (lv_at hl 2 rfl) ?_
  rcases of_ite hf with ⟨c1, hf⟩ | ⟨c1, hf⟩
  · refine lv_icmp_ge (tgt := 48) C.1 C.2.1 dX1_hold_30 (by decide) (fun _ => ?_) (fun q => absurd c1 q)
    obtain rfl := Option.some.inj hf
    exact kX0 _ rfl _ _ _ hG (lv_sub hl [] rfl)
  · refine lv_icmp_ge (tgt := 48) C.1 C.2.1 dX1_hold_30 (by decide) (fun q => absurd q c1) (fun _ => ?_)
    refine lv_aload_n C.1 C.2.1 dX1_hold_33 rfl (lv_at hl 0 rfl) ?_
    refine gf_X1_11 C hG rfl dX1_hold_34 ?_
    refine lv_iload_n C.1 C.2.1 dX1_hold_37 rfl (lv_at hl 1 rfl) ?_
    obtain ⟨c2, hf⟩ := of_grd hf
    obtain ⟨c3, hf⟩ := of_grd hf
    refine r_rald C hG (c0 := 112) (by decide) (entX_R (n := 4) rfl) c2 (rfX_at c2) dX1_hold_38 ?_
    refine lv_iload_n C.1 C.2.1 dX1_hold_39 rfl (lv_at hl 3 rfl) ?_
    refine lv_iconst (v := nI 0) C.1 C.2.1 dX1_hold_40 (by decide) ?_
    obtain ⟨w4, hw4, hf⟩ := of_bind hf
    obtain ⟨bw4, ew4⟩ := of_stX hw4
    refine r_iast C hG (c0 := 112 + 1 + 1 * x1.toNatClampNeg) (kdx_lt c3 (by decide)) (entX_I c3) bw4 (E' := (entX G B w4)) (by rw [ew4]; exact upX_I c3) dX1_hold_41 (fun H locs hG => ?_)
    obtain ⟨v5, ev5, hf⟩ := of_letv hf
    refine lv_iinc (v := v5) (lv' := [(3, .int v5), (0, .ref (B + 111)), (1, .int x1), (2, .int x2)]) C.1 C.2.1 dX1_hold_42 hl (k := 3) rfl (by rw [ev5, show Int32.ofInt (1) = nI 1 from by decide]) (by decide) rfl (fun ls hl => ?_)
    refine lv_goto (tgt := 28) C.1 C.2.1 dX1_hold_45 (by decide) ?_
    obtain rfl := Option.some.inj hf
    exact kL _ rfl _ _ _ hG (lv_sub hl [1, 2, 3, 0] rfl)
set_option maxRecDepth 100000 in
set_option maxHeartbeats 4000000 in
theorem kl_X1_hold_28 {x1 : Int32} {x2 : Int32} (C : CX p s m args meth c cX1_hold 4 RX1 wc_X1_hold none)  : ∀ (n : Nat) (st : Int32 × WX) (x : (WX)) (H : Heap) (locs : List Loc) (ls : Array Slot), Gd s G A 153 B (entX G B st.2) X H locs → lv_has ls 4 [(0, .ref (B + 111)), (1, .int x1), (2, .int x2), (3, .int st.1)] → lpw (sh_X1_hold_s28 x1 x2) n st = some x →
    (∀ y' : WX, x = y' → ∀ (H : Heap) (locs : List Loc) (ls : Array Slot), Gd s G A 153 B (entX G B y') X H locs → lv_has ls 4 [] → W p l e rm_X1_hold s m args below meth c H locs 0 0 Q (F0 m 48 ls [])) → W p l e rm_X1_hold s m args below meth c H locs 0 0 Q (F0 m 28 ls []) := by
  intro n
  induction n with
  | zero =>
    intro st x H locs ls hG hl hf
    cases hf
  | succ n ih =>
    intro st x H locs ls hG hl hf kX0
    obtain ⟨r, hr, hh⟩ := of_lpw hf
    refine kb_X1_hold_28 C  hG hl hr (fun st2 e1 H locs ls hG hl => ?_) (fun y2 e1 H locs ls hG hl => ?_)
    · rcases hh with ⟨s3, e2, hh⟩ | e2
      · rw [e2] at e1
        cases e1
        exact ih _ _ _ _ _ hG hl hh kX0
      · rw [e2] at e1
        cases e1
    · rcases hh with ⟨s3, e2, hh⟩ | e2
      · rw [e2] at e1
        cases e1
      · rw [e2] at e1
        cases e1
        exact kX0 _ rfl _ _ _ hG hl
set_option maxRecDepth 100000 in
set_option maxHeartbeats 4000000 in
theorem kb_X1_hold_0 {x1 : Int32} {x2 : Int32} {w : WX} {out : WX} {H : Heap} {locs : List Loc} {ls : Array Slot} (C : CX p s m args meth c cX1_hold 4 RX1 wc_X1_hold none)  (hG : Gd s G A 153 B (entX G B w) X H locs) (hl : lv_has ls 4 [(0, .ref (B + 111)), (1, .int x1), (2, .int x2)]) (hf : sh_X1_hold x1 x2 w = some out) :
    W p l e rm_X1_hold s m args below meth c H locs 0 0 (MQ below (CPost G A 153 B (entX G B out) X none) args s 0 0 A) (F0 m 0 ls []) := by
  refine lv_aload_n C.1 C.2.1 dX1_hold_0 rfl (lv_at hl 0 rfl) ?_
  refine lv_iload_n C.1 C.2.1 dX1_hold_1 rfl (lv_at hl 1 rfl) ?_
  obtain ⟨v1, hv1, hf⟩ := of_bind hf
  refine r_callV1 C hG hl.1 (c0 := 111) (As := [.int x1]) (by decide) (entX_O1 (n := 2) rfl) rfl (mt_X1_hasNumber l  hv1) (cwV 1 C.2.2.2.2.1 (gd_V tg_4_29 tg_4_22 tg_4_23 tg_1_7 tg_4_24) rfl rfl rfl cd_X1_hasNumber ⟨Nat.le_of_ble_eq_true rfl, Nat.le_of_ble_eq_true rfl⟩) rfl rfl (Nat.le_of_ble_eq_true rfl) dX1_hold_2 (fun H locs hG => ?_)
  rcases of_ite hf with ⟨c2, hf⟩ | ⟨c2, hf⟩
  · refine lv_if_eq (tgt := 18) C.1 C.2.1 dX1_hold_5 (by decide) (fun _ => ?_) (fun q => absurd c2 q)
    obtain rfl := Option.some.inj hf
    exact r_vret C hG dX1_hold_18
  · refine lv_if_eq (tgt := 18) C.1 C.2.1 dX1_hold_5 (by decide) (fun q => absurd q c2) (fun _ => ?_)
    refine lv_iload_n C.1 C.2.1 dX1_hold_8 rfl (lv_at hl 2 rfl) ?_
    rcases of_ite hf with ⟨c3, hf⟩ | ⟨c3, hf⟩
    · refine lv_if_lt (tgt := 18) C.1 C.2.1 dX1_hold_9 (by decide) (fun _ => ?_) (fun q => absurd c3 q)
      obtain rfl := Option.some.inj hf
      exact r_vret C hG dX1_hold_18
    · refine lv_if_lt (tgt := 18) C.1 C.2.1 dX1_hold_9 (by decide) (fun q => absurd q c3) (fun _ => ?_)
      refine lv_iload_n C.1 C.2.1 dX1_hold_12 rfl (lv_at hl 2 rfl) ?_
      refine lv_bipush (v := nI 12) C.1 C.2.1 dX1_hold_13 (by decide) ?_
      rcases of_ite hf with ⟨c4, hf⟩ | ⟨c4, hf⟩
      · refine lv_icmp_le (tgt := 19) C.1 C.2.1 dX1_hold_15 (by decide) (fun _ => ?_) (fun q => absurd c4 q)
        refine lv_aload_n C.1 C.2.1 dX1_hold_19 rfl (lv_at hl 0 rfl) ?_
        refine gf_X1_16 C hG rfl dX1_hold_20 ?_
        refine lv_iload_n C.1 C.2.1 dX1_hold_23 rfl (lv_at hl 1 rfl) ?_
        refine lv_iload_n C.1 C.2.1 dX1_hold_24 rfl (lv_at hl 2 rfl) ?_
        obtain ⟨w5, hw5, hf⟩ := of_bind hf
        obtain ⟨bw5, ew5⟩ := of_stX hw5
        refine r_iast C hG (c0 := 117) (by decide) (entX_I (n := 4) rfl) bw5 (E' := (entX G B w5)) (by rw [ew5]; exact upX_I (n := 4) rfl) dX1_hold_25 (fun H locs hG => ?_)
        refine lv_iconst (v := nI 0) C.1 C.2.1 dX1_hold_26 (by decide) ?_
        refine lv_istore_n (lv' := [(3, .int (nI 0)), (0, .ref (B + 111)), (1, .int x1), (2, .int x2)]) C.1 C.2.1 dX1_hold_27 rfl hl (by decide) rfl (fun ls hl => ?_)
        obtain ⟨ex6, hex6, hf⟩ := of_bind hf
        refine kl_X1_hold_28 C  FU (nI 0, w5) ex6 _ _ _ hG (lv_sub hl [1, 2, 3, 0] rfl) hex6 (fun y e0 H locs ls hG hl => ?_)
        subst e0
        obtain rfl := Option.some.inj hf
        exact r_vret C hG dX1_hold_48
      · refine lv_icmp_le (tgt := 19) C.1 C.2.1 dX1_hold_15 (by decide) (fun q => absurd q c4) (fun _ => ?_)
        obtain rfl := Option.some.inj hf
        exact r_vret C hG dX1_hold_18
set_option maxRecDepth 100000 in
set_option maxHeartbeats 4000000 in
theorem mt_X1_hold (l : Launch) {G : GG} {A : Nat → Prop} {B : Nat} {X : va_W} {x1 : Int32} {x2 : Int32} {w : WX} {out : WX}  (hf : sh_X1_hold x1 x2 w = some out) : MetW l yX1_hold wc_X1_hold rm_X1_hold G A 153 B (entX G B w) X [.ref (B + 111), .int x1, .int x2] none (entX G B out) := by
  refine Met.ofW (cc := cX1_hold) (maxL := 4) (ret := none) (by decide) rfl ?_
  intro p e s m args below meth c s₁ B0 hml hv
  obtain ⟨rfl, hEv, hWd⟩ := hv
  have C : CX p s m _ meth c cX1_hold 4 RX1 wc_X1_hold none := ⟨B0.exec, B0.bytes, hml, findClass_of_methodNamed B0.named, atoms_spec (ws := wc_X1_hold) B0.pre, B0.returns, B0.notSynchronized⟩
  have hl := lv_entry [.ref (B + 111), .int x1, .int x2] (n := 4) (Nat.le_of_ble_eq_true rfl)
  rw [lg_entry_eq]
  generalize (lg_sl [.ref (B + 111), .int x1, .int x2] ++ List.replicate (4 - (lg_sl [.ref (B + 111), .int x1, .int x2]).length) Slot.unset).toArray = ls at hl ⊢
  have hl : lv_has ls 4 [(0, .ref (B + 111)), (1, .int x1), (2, .int x2)] := hl
  exact kb_X1_hold_0 C  ⟨hEv, hWd, va_S.rf⟩ hl hf
abbrev wc_X2_renumber : List Cond := Cond.code yX2_renumber cX2_renumber 4 none :: TG
abbrev rm_X2_renumber : Room := { frames := 2, cells := 0, slots := 0, locals := 100 }
theorem cd_X2_renumber : yX2_renumber.cls = RX2 ∧ yX2_renumber.cls ≠ "java/lang/invoke/MethodHandle" ∧ yX2_renumber.cls ≠ "java/lang/invoke/VarHandle" ∧ (parseMethodDescriptor yX2_renumber.desc).map (fun d => d.parameters.length) = some 2 := by decide +kernel
theorem dX2_renumber_0 : decode cX2_renumber 0 = .ok (.iconst 0, 1) := by decide +kernel
theorem dX2_renumber_1 : decode cX2_renumber 1 = .ok (.istore_n 3, 1) := by decide +kernel
theorem dX2_renumber_2 : decode cX2_renumber 2 = .ok (.iload_n 3, 1) := by decide +kernel
theorem dX2_renumber_3 : decode cX2_renumber 3 = .ok (.aload_n 0, 1) := by decide +kernel
theorem dX2_renumber_4 : decode cX2_renumber 4 = .ok (.getfield 35, 3) := by decide +kernel
theorem dX2_renumber_7 : decode cX2_renumber 7 = .ok (.if_icmp .ge 26, 3) := by decide +kernel
theorem dX2_renumber_10 : decode cX2_renumber 10 = .ok (.aload_n 0, 1) := by decide +kernel
theorem dX2_renumber_11 : decode cX2_renumber 11 = .ok (.getfield 22, 3) := by decide +kernel
theorem dX2_renumber_14 : decode cX2_renumber 14 = .ok (.iload_n 3, 1) := by decide +kernel
theorem dX2_renumber_15 : decode cX2_renumber 15 = .ok (.iaload, 1) := by decide +kernel
theorem dX2_renumber_16 : decode cX2_renumber 16 = .ok (.iload_n 1, 1) := by decide +kernel
theorem dX2_renumber_17 : decode cX2_renumber 17 = .ok (.if_icmp .ne 10, 3) := by decide +kernel
theorem dX2_renumber_20 : decode cX2_renumber 20 = .ok (.aload_n 0, 1) := by decide +kernel
theorem dX2_renumber_21 : decode cX2_renumber 21 = .ok (.getfield 22, 3) := by decide +kernel
theorem dX2_renumber_24 : decode cX2_renumber 24 = .ok (.iload_n 3, 1) := by decide +kernel
theorem dX2_renumber_25 : decode cX2_renumber 25 = .ok (.iload_n 2, 1) := by decide +kernel
theorem dX2_renumber_26 : decode cX2_renumber 26 = .ok (.iastore, 1) := by decide +kernel
theorem dX2_renumber_27 : decode cX2_renumber 27 = .ok (.iinc 3 1, 3) := by decide +kernel
theorem dX2_renumber_30 : decode cX2_renumber 30 = .ok (.goto (-28), 3) := by decide +kernel
theorem dX2_renumber_33 : decode cX2_renumber 33 = .ok (.return_, 1) := by decide +kernel
set_option maxRecDepth 100000 in
set_option maxHeartbeats 4000000 in
theorem kb_X2_renumber_2 {th : Nat} {x1 : Int32} {x2 : Int32} {st : Int32 × WX} {r : (Int32 × WX) ⊕ ((WX))} {H : Heap} {locs : List Loc} {ls : Array Slot} (C : CX p s m args meth c cX2_renumber 4 RX2 wc_X2_renumber none) (hth : KDx th = (2, 8)) (hG : Gd s G A 153 B (entX G B st.2) X H locs) (hl : lv_has ls 4 [(0, .ref (B + th)), (1, .int x1), (2, .int x2), (3, .int st.1)]) (hf : sh_X2_renumber_s2 th x1 x2 st = some r)
    (kL : ∀ st' : Int32 × WX, r = Sum.inl st' → ∀ (H : Heap) (locs : List Loc) (ls : Array Slot), Gd s G A 153 B (entX G B st'.2) X H locs → lv_has ls 4 [(0, .ref (B + th)), (1, .int x1), (2, .int x2), (3, .int st'.1)] → W p l e rm_X2_renumber s m args below meth c H locs 0 0 Q (F0 m 2 ls []))
    (kX0 : ∀ y' : WX, r = Sum.inr y' → ∀ (H : Heap) (locs : List Loc) (ls : Array Slot), Gd s G A 153 B (entX G B y') X H locs → lv_has ls 4 [] → W p l e rm_X2_renumber s m args below meth c H locs 0 0 Q (F0 m 33 ls [])) :
    W p l e rm_X2_renumber s m args below meth c H locs 0 0 Q (F0 m 2 ls []) := by
  refine lv_iload_n C.1 C.2.1 dX2_renumber_2 rfl (lv_at hl 3 rfl) ?_
  refine lv_aload_n C.1 C.2.1 dX2_renumber_3 rfl (lv_at hl 0 rfl) ?_
  refine gf_X2_35 C hG hth dX2_renumber_4 ?_
  rcases of_ite hf with ⟨c1, hf⟩ | ⟨c1, hf⟩
  · refine lv_icmp_ge (tgt := 33) C.1 C.2.1 dX2_renumber_7 (by decide) (fun _ => ?_) (fun q => absurd c1 q)
    obtain rfl := Option.some.inj hf
    exact kX0 _ rfl _ _ _ hG (lv_sub hl [] rfl)
  · refine lv_icmp_ge (tgt := 33) C.1 C.2.1 dX2_renumber_7 (by decide) (fun q => absurd q c1) (fun _ => ?_)
    refine lv_aload_n C.1 C.2.1 dX2_renumber_10 rfl (lv_at hl 0 rfl) ?_
    refine gf_X2_22 C hG hth dX2_renumber_11 ?_
    refine lv_iload_n C.1 C.2.1 dX2_renumber_14 rfl (lv_at hl 3 rfl) ?_
    obtain ⟨v2, hv2, hf⟩ := of_bind hf
    obtain ⟨bv2, ev2⟩ := of_ldS hv2
    refine r_iald C hG (c0 := (th + 4)) (kdx_lt (kx_2_5 hth) (by decide)) (entX_I (kx_2_5 hth)) bv2 dX2_renumber_15 ?_
    refine r_top ev2 ?_
    refine lv_iload_n C.1 C.2.1 dX2_renumber_16 rfl (lv_at hl 1 rfl) ?_
    rcases of_ite hf with ⟨c3, hf⟩ | ⟨c3, hf⟩
    · refine lv_icmp_ne (tgt := 27) C.1 C.2.1 dX2_renumber_17 (by decide) (fun q => absurd c3 q) (fun _ => ?_)
      refine lv_aload_n C.1 C.2.1 dX2_renumber_20 rfl (lv_at hl 0 rfl) ?_
      refine gf_X2_22 C hG hth dX2_renumber_21 ?_
      refine lv_iload_n C.1 C.2.1 dX2_renumber_24 rfl (lv_at hl 3 rfl) ?_
      refine lv_iload_n C.1 C.2.1 dX2_renumber_25 rfl (lv_at hl 2 rfl) ?_
      obtain ⟨w5, hw5, hf⟩ := of_bind hf
      obtain ⟨bw5, ew5⟩ := of_stX hw5
      refine r_iast C hG (c0 := (th + 4)) (kdx_lt (kx_2_5 hth) (by decide)) (entX_I (kx_2_5 hth)) bw5 (E' := (entX G B w5)) (by rw [ew5]; exact upX_I (kx_2_5 hth)) dX2_renumber_26 (fun H locs hG => ?_)
      obtain ⟨v6, ev6, hf⟩ := of_letv hf
      refine lv_iinc (v := v6) (lv' := [(3, .int v6), (0, .ref (B + th)), (1, .int x1), (2, .int x2)]) C.1 C.2.1 dX2_renumber_27 hl (k := 3) rfl (by rw [ev6, show Int32.ofInt (1) = nI 1 from by decide]) (by decide) rfl (fun ls hl => ?_)
      refine lv_goto (tgt := 2) C.1 C.2.1 dX2_renumber_30 (by decide) ?_
      obtain rfl := Option.some.inj hf
      exact kL _ rfl _ _ _ hG (lv_sub hl [1, 2, 3, 0] rfl)
    · refine lv_icmp_ne (tgt := 27) C.1 C.2.1 dX2_renumber_17 (by decide) (fun _ => ?_) (fun q => absurd q c3)
      obtain ⟨v4, ev4, hf⟩ := of_letv hf
      refine lv_iinc (v := v4) (lv' := [(3, .int v4), (0, .ref (B + th)), (1, .int x1), (2, .int x2)]) C.1 C.2.1 dX2_renumber_27 hl (k := 3) rfl (by rw [ev4, show Int32.ofInt (1) = nI 1 from by decide]) (by decide) rfl (fun ls hl => ?_)
      refine lv_goto (tgt := 2) C.1 C.2.1 dX2_renumber_30 (by decide) ?_
      obtain rfl := Option.some.inj hf
      exact kL _ rfl _ _ _ hG (lv_sub hl [1, 2, 3, 0] rfl)
set_option maxRecDepth 100000 in
set_option maxHeartbeats 4000000 in
theorem kl_X2_renumber_2 {th : Nat} {x1 : Int32} {x2 : Int32} (C : CX p s m args meth c cX2_renumber 4 RX2 wc_X2_renumber none) (hth : KDx th = (2, 8)) : ∀ (n : Nat) (st : Int32 × WX) (x : (WX)) (H : Heap) (locs : List Loc) (ls : Array Slot), Gd s G A 153 B (entX G B st.2) X H locs → lv_has ls 4 [(0, .ref (B + th)), (1, .int x1), (2, .int x2), (3, .int st.1)] → lpw (sh_X2_renumber_s2 th x1 x2) n st = some x →
    (∀ y' : WX, x = y' → ∀ (H : Heap) (locs : List Loc) (ls : Array Slot), Gd s G A 153 B (entX G B y') X H locs → lv_has ls 4 [] → W p l e rm_X2_renumber s m args below meth c H locs 0 0 Q (F0 m 33 ls [])) → W p l e rm_X2_renumber s m args below meth c H locs 0 0 Q (F0 m 2 ls []) := by
  intro n
  induction n with
  | zero =>
    intro st x H locs ls hG hl hf
    cases hf
  | succ n ih =>
    intro st x H locs ls hG hl hf kX0
    obtain ⟨r, hr, hh⟩ := of_lpw hf
    refine kb_X2_renumber_2 C hth hG hl hr (fun st2 e1 H locs ls hG hl => ?_) (fun y2 e1 H locs ls hG hl => ?_)
    · rcases hh with ⟨s3, e2, hh⟩ | e2
      · rw [e2] at e1
        cases e1
        exact ih _ _ _ _ _ hG hl hh kX0
      · rw [e2] at e1
        cases e1
    · rcases hh with ⟨s3, e2, hh⟩ | e2
      · rw [e2] at e1
        cases e1
      · rw [e2] at e1
        cases e1
        exact kX0 _ rfl _ _ _ hG hl
set_option maxRecDepth 100000 in
set_option maxHeartbeats 4000000 in
theorem kb_X2_renumber_0 {th : Nat} {x1 : Int32} {x2 : Int32} {w : WX} {out : WX} {H : Heap} {locs : List Loc} {ls : Array Slot} (C : CX p s m args meth c cX2_renumber 4 RX2 wc_X2_renumber none) (hth : KDx th = (2, 8)) (hG : Gd s G A 153 B (entX G B w) X H locs) (hl : lv_has ls 4 [(0, .ref (B + th)), (1, .int x1), (2, .int x2)]) (hf : sh_X2_renumber th x1 x2 w = some out) :
    W p l e rm_X2_renumber s m args below meth c H locs 0 0 (MQ below (CPost G A 153 B (entX G B out) X none) args s 0 0 A) (F0 m 0 ls []) := by
  refine lv_iconst (v := nI 0) C.1 C.2.1 dX2_renumber_0 (by decide) ?_
  refine lv_istore_n (lv' := [(3, .int (nI 0)), (0, .ref (B + th)), (1, .int x1), (2, .int x2)]) C.1 C.2.1 dX2_renumber_1 rfl hl (by decide) rfl (fun ls hl => ?_)
  obtain ⟨ex1, hex1, hf⟩ := of_bind hf
  refine kl_X2_renumber_2 C hth FU (nI 0, w) ex1 _ _ _ hG (lv_sub hl [1, 2, 3, 0] rfl) hex1 (fun y e0 H locs ls hG hl => ?_)
  subst e0
  obtain rfl := Option.some.inj hf
  exact r_vret C hG dX2_renumber_33
set_option maxRecDepth 100000 in
set_option maxHeartbeats 4000000 in
theorem mt_X2_renumber (l : Launch) {G : GG} {A : Nat → Prop} {B : Nat} {X : va_W} {th : Nat} {x1 : Int32} {x2 : Int32} {w : WX} {out : WX} (hth : KDx th = (2, 8)) (hf : sh_X2_renumber th x1 x2 w = some out) : MetW l yX2_renumber wc_X2_renumber rm_X2_renumber G A 153 B (entX G B w) X [.ref (B + th), .int x1, .int x2] none (entX G B out) := by
  refine Met.ofW (cc := cX2_renumber) (maxL := 4) (ret := none) (by decide) rfl ?_
  intro p e s m args below meth c s₁ B0 hml hv
  obtain ⟨rfl, hEv, hWd⟩ := hv
  have C : CX p s m _ meth c cX2_renumber 4 RX2 wc_X2_renumber none := ⟨B0.exec, B0.bytes, hml, findClass_of_methodNamed B0.named, atoms_spec (ws := wc_X2_renumber) B0.pre, B0.returns, B0.notSynchronized⟩
  have hl := lv_entry [.ref (B + th), .int x1, .int x2] (n := 4) (Nat.le_of_ble_eq_true rfl)
  rw [lg_entry_eq]
  generalize (lg_sl [.ref (B + th), .int x1, .int x2] ++ List.replicate (4 - (lg_sl [.ref (B + th), .int x1, .int x2]).length) Slot.unset).toArray = ls at hl ⊢
  have hl : lv_has ls 4 [(0, .ref (B + th)), (1, .int x1), (2, .int x2)] := hl
  exact kb_X2_renumber_0 C hth ⟨hEv, hWd, va_S.rf⟩ hl hf
abbrev wc_X2_leaveOutGone : List Cond := Cond.code yX2_leaveOutGone cX2_leaveOutGone 3 none :: TG
abbrev rm_X2_leaveOutGone : Room := { frames := 3, cells := 0, slots := 0, locals := 123 }
theorem cd_X2_leaveOutGone : yX2_leaveOutGone.cls = RX2 ∧ yX2_leaveOutGone.cls ≠ "java/lang/invoke/MethodHandle" ∧ yX2_leaveOutGone.cls ≠ "java/lang/invoke/VarHandle" ∧ (parseMethodDescriptor yX2_leaveOutGone.desc).map (fun d => d.parameters.length) = some 0 := by decide +kernel
theorem dX2_leaveOutGone_0 : decode cX2_leaveOutGone 0 = .ok (.iconst 0, 1) := by decide +kernel
theorem dX2_leaveOutGone_1 : decode cX2_leaveOutGone 1 = .ok (.istore_n 1, 1) := by decide +kernel
theorem dX2_leaveOutGone_2 : decode cX2_leaveOutGone 2 = .ok (.iconst 0, 1) := by decide +kernel
theorem dX2_leaveOutGone_3 : decode cX2_leaveOutGone 3 = .ok (.istore_n 2, 1) := by decide +kernel
theorem dX2_leaveOutGone_4 : decode cX2_leaveOutGone 4 = .ok (.iload_n 2, 1) := by decide +kernel
theorem dX2_leaveOutGone_5 : decode cX2_leaveOutGone 5 = .ok (.aload_n 0, 1) := by decide +kernel
theorem dX2_leaveOutGone_6 : decode cX2_leaveOutGone 6 = .ok (.getfield 31, 3) := by decide +kernel
theorem dX2_leaveOutGone_9 : decode cX2_leaveOutGone 9 = .ok (.if_icmp .ge 51, 3) := by decide +kernel
theorem dX2_leaveOutGone_12 : decode cX2_leaveOutGone 12 = .ok (.aload_n 0, 1) := by decide +kernel
theorem dX2_leaveOutGone_13 : decode cX2_leaveOutGone 13 = .ok (.getfield 25, 3) := by decide +kernel
theorem dX2_leaveOutGone_16 : decode cX2_leaveOutGone 16 = .ok (.iload_n 2, 1) := by decide +kernel
theorem dX2_leaveOutGone_17 : decode cX2_leaveOutGone 17 = .ok (.baload, 1) := by decide +kernel
theorem dX2_leaveOutGone_18 : decode cX2_leaveOutGone 18 = .ok (.ifCond .ne 36, 3) := by decide +kernel
theorem dX2_leaveOutGone_21 : decode cX2_leaveOutGone 21 = .ok (.aload_n 0, 1) := by decide +kernel
theorem dX2_leaveOutGone_22 : decode cX2_leaveOutGone 22 = .ok (.getfield 9, 3) := by decide +kernel
theorem dX2_leaveOutGone_25 : decode cX2_leaveOutGone 25 = .ok (.iload_n 1, 1) := by decide +kernel
theorem dX2_leaveOutGone_26 : decode cX2_leaveOutGone 26 = .ok (.aload_n 0, 1) := by decide +kernel
theorem dX2_leaveOutGone_27 : decode cX2_leaveOutGone 27 = .ok (.getfield 9, 3) := by decide +kernel
theorem dX2_leaveOutGone_30 : decode cX2_leaveOutGone 30 = .ok (.iload_n 2, 1) := by decide +kernel
theorem dX2_leaveOutGone_31 : decode cX2_leaveOutGone 31 = .ok (.iaload, 1) := by decide +kernel
theorem dX2_leaveOutGone_32 : decode cX2_leaveOutGone 32 = .ok (.iastore, 1) := by decide +kernel
theorem dX2_leaveOutGone_33 : decode cX2_leaveOutGone 33 = .ok (.aload_n 0, 1) := by decide +kernel
theorem dX2_leaveOutGone_34 : decode cX2_leaveOutGone 34 = .ok (.getfield 18, 3) := by decide +kernel
theorem dX2_leaveOutGone_37 : decode cX2_leaveOutGone 37 = .ok (.iload_n 1, 1) := by decide +kernel
theorem dX2_leaveOutGone_38 : decode cX2_leaveOutGone 38 = .ok (.aload_n 0, 1) := by decide +kernel
theorem dX2_leaveOutGone_39 : decode cX2_leaveOutGone 39 = .ok (.getfield 18, 3) := by decide +kernel
theorem dX2_leaveOutGone_42 : decode cX2_leaveOutGone 42 = .ok (.iload_n 2, 1) := by decide +kernel
theorem dX2_leaveOutGone_43 : decode cX2_leaveOutGone 43 = .ok (.baload, 1) := by decide +kernel
theorem dX2_leaveOutGone_44 : decode cX2_leaveOutGone 44 = .ok (.bastore, 1) := by decide +kernel
theorem dX2_leaveOutGone_45 : decode cX2_leaveOutGone 45 = .ok (.aload_n 0, 1) := by decide +kernel
theorem dX2_leaveOutGone_46 : decode cX2_leaveOutGone 46 = .ok (.iload_n 2, 1) := by decide +kernel
theorem dX2_leaveOutGone_47 : decode cX2_leaveOutGone 47 = .ok (.iload_n 1, 1) := by decide +kernel
theorem dX2_leaveOutGone_48 : decode cX2_leaveOutGone 48 = .ok (.invokevirtual 80, 3) := by decide +kernel
theorem dX2_leaveOutGone_51 : decode cX2_leaveOutGone 51 = .ok (.iinc 1 1, 3) := by decide +kernel
theorem dX2_leaveOutGone_54 : decode cX2_leaveOutGone 54 = .ok (.iinc 2 1, 3) := by decide +kernel
theorem dX2_leaveOutGone_57 : decode cX2_leaveOutGone 57 = .ok (.goto (-53), 3) := by decide +kernel
theorem dX2_leaveOutGone_60 : decode cX2_leaveOutGone 60 = .ok (.aload_n 0, 1) := by decide +kernel
theorem dX2_leaveOutGone_61 : decode cX2_leaveOutGone 61 = .ok (.iload_n 1, 1) := by decide +kernel
theorem dX2_leaveOutGone_62 : decode cX2_leaveOutGone 62 = .ok (.putfield 31, 3) := by decide +kernel
theorem dX2_leaveOutGone_65 : decode cX2_leaveOutGone 65 = .ok (.return_, 1) := by decide +kernel
set_option maxRecDepth 100000 in
set_option maxHeartbeats 4000000 in
theorem kb_X2_leaveOutGone_4 {th : Nat} {st : Int32 × Int32 × WX} {r : (Int32 × Int32 × WX) ⊕ ((Int32 × WX))} {H : Heap} {locs : List Loc} {ls : Array Slot} (C : CX p s m args meth c cX2_leaveOutGone 3 RX2 wc_X2_leaveOutGone none) (hth : KDx th = (2, 8)) (hG : Gd s G A 153 B (entX G B st.2.2) X H locs) (hl : lv_has ls 3 [(0, .ref (B + th)), (1, .int st.1), (2, .int st.2.1)]) (hf : sh_X2_leaveOutGone_s4 th st = some r)
    (kL : ∀ st' : Int32 × Int32 × WX, r = Sum.inl st' → ∀ (H : Heap) (locs : List Loc) (ls : Array Slot), Gd s G A 153 B (entX G B st'.2.2) X H locs → lv_has ls 3 [(0, .ref (B + th)), (1, .int st'.1), (2, .int st'.2.1)] → W p l e rm_X2_leaveOutGone s m args below meth c H locs 0 0 Q (F0 m 4 ls []))
    (kX0 : ∀ y' : Int32 × WX, r = Sum.inr y' → ∀ (H : Heap) (locs : List Loc) (ls : Array Slot), Gd s G A 153 B (entX G B y'.2) X H locs → lv_has ls 3 [(0, .ref (B + th)), (1, .int y'.1)] → W p l e rm_X2_leaveOutGone s m args below meth c H locs 0 0 Q (F0 m 60 ls [])) :
    W p l e rm_X2_leaveOutGone s m args below meth c H locs 0 0 Q (F0 m 4 ls []) := by
  refine lv_iload_n C.1 C.2.1 dX2_leaveOutGone_4 rfl (lv_at hl 2 rfl) ?_
  refine lv_aload_n C.1 C.2.1 dX2_leaveOutGone_5 rfl (lv_at hl 0 rfl) ?_
  refine gf_X2_31 C hG hth dX2_leaveOutGone_6 ?_
  rcases of_ite hf with ⟨c1, hf⟩ | ⟨c1, hf⟩
  · refine lv_icmp_ge (tgt := 60) C.1 C.2.1 dX2_leaveOutGone_9 (by decide) (fun _ => ?_) (fun q => absurd c1 q)
    obtain rfl := Option.some.inj hf
    exact kX0 _ rfl _ _ _ hG (lv_sub hl [0, 1] rfl)
  · refine lv_icmp_ge (tgt := 60) C.1 C.2.1 dX2_leaveOutGone_9 (by decide) (fun q => absurd q c1) (fun _ => ?_)
    refine lv_aload_n C.1 C.2.1 dX2_leaveOutGone_12 rfl (lv_at hl 0 rfl) ?_
    refine gf_X2_25 C hG hth dX2_leaveOutGone_13 ?_
    refine lv_iload_n C.1 C.2.1 dX2_leaveOutGone_16 rfl (lv_at hl 2 rfl) ?_
    obtain ⟨v2, hv2, hf⟩ := of_bind hf
    obtain ⟨bv2, ev2⟩ := of_ldS hv2
    refine r_zald C hG (c0 := (th + 5)) (kdx_lt (kx_2_6 hth) (by decide)) (entX_Z (kx_2_6 hth)) bv2 dX2_leaveOutGone_17 ?_
    refine r_top ev2 ?_
    rcases of_ite hf with ⟨c3, hf⟩ | ⟨c3, hf⟩
    · refine lv_if_ne (tgt := 54) C.1 C.2.1 dX2_leaveOutGone_18 (by decide) (fun q => absurd c3 q) (fun _ => ?_)
      refine lv_aload_n C.1 C.2.1 dX2_leaveOutGone_21 rfl (lv_at hl 0 rfl) ?_
      refine gf_X2_9 C hG hth dX2_leaveOutGone_22 ?_
      refine lv_iload_n C.1 C.2.1 dX2_leaveOutGone_25 rfl (lv_at hl 1 rfl) ?_
      refine lv_aload_n C.1 C.2.1 dX2_leaveOutGone_26 rfl (lv_at hl 0 rfl) ?_
      refine gf_X2_9 C hG hth dX2_leaveOutGone_27 ?_
      refine lv_iload_n C.1 C.2.1 dX2_leaveOutGone_30 rfl (lv_at hl 2 rfl) ?_
      obtain ⟨v5, hv5, hf⟩ := of_bind hf
      obtain ⟨bv5, ev5⟩ := of_ldS hv5
      refine r_iald C hG (c0 := (th + 1)) (kdx_lt (kx_2_2 hth) (by decide)) (entX_I (kx_2_2 hth)) bv5 dX2_leaveOutGone_31 ?_
      refine r_top ev5 ?_
      obtain ⟨w6, hw6, hf⟩ := of_bind hf
      obtain ⟨bw6, ew6⟩ := of_stX hw6
      refine r_iast C hG (c0 := (th + 1)) (kdx_lt (kx_2_2 hth) (by decide)) (entX_I (kx_2_2 hth)) bw6 (E' := (entX G B w6)) (by rw [ew6]; exact upX_I (kx_2_2 hth)) dX2_leaveOutGone_32 (fun H locs hG => ?_)
      refine lv_aload_n C.1 C.2.1 dX2_leaveOutGone_33 rfl (lv_at hl 0 rfl) ?_
      refine gf_X2_18 C hG hth dX2_leaveOutGone_34 ?_
      refine lv_iload_n C.1 C.2.1 dX2_leaveOutGone_37 rfl (lv_at hl 1 rfl) ?_
      refine lv_aload_n C.1 C.2.1 dX2_leaveOutGone_38 rfl (lv_at hl 0 rfl) ?_
      refine gf_X2_18 C hG hth dX2_leaveOutGone_39 ?_
      refine lv_iload_n C.1 C.2.1 dX2_leaveOutGone_42 rfl (lv_at hl 2 rfl) ?_
      obtain ⟨v7, hv7, hf⟩ := of_bind hf
      obtain ⟨bv7, ev7⟩ := of_ldS hv7
      refine r_zald C hG (c0 := (th + 3)) (kdx_lt (kx_2_4 hth) (by decide)) (entX_Z (kx_2_4 hth)) bv7 dX2_leaveOutGone_43 ?_
      refine r_top ev7 ?_
      obtain ⟨c9, hf⟩ := of_grd hf
      obtain ⟨w8, hw8, hf⟩ := of_bind hf
      obtain ⟨bw8, ew8⟩ := of_stX hw8
      refine r_zast C hG (c0 := (th + 3)) (kdx_lt (kx_2_4 hth) (by decide)) (entX_Z (kx_2_4 hth)) c9 bw8 (E' := (entX G B w8)) (by rw [ew8]; exact upX_Z (kx_2_4 hth)) dX2_leaveOutGone_44 (fun H locs hG => ?_)
      refine lv_aload_n C.1 C.2.1 dX2_leaveOutGone_45 rfl (lv_at hl 0 rfl) ?_
      refine lv_iload_n C.1 C.2.1 dX2_leaveOutGone_46 rfl (lv_at hl 2 rfl) ?_
      refine lv_iload_n C.1 C.2.1 dX2_leaveOutGone_47 rfl (lv_at hl 1 rfl) ?_
      obtain ⟨w10, hw10, hf⟩ := of_bind hf
      refine r_callV0 C hG hl.1 (c0 := th) (As := [.int st.2.1, .int st.1]) (kdx_lt hth (by decide)) (entX_O2 hth) rfl (mt_X2_renumber l hth hw10) (cwV 2 C.2.2.2.2.1 (gd_V tg_3_36 tg_3_38 tgp_10 tg_1_8 tg_3_39) rfl rfl rfl cd_X2_renumber ⟨Nat.le_of_ble_eq_true rfl, Nat.le_of_ble_eq_true rfl⟩) rfl rfl (Nat.le_of_ble_eq_true rfl) dX2_leaveOutGone_48 (fun H locs hG => ?_)
      obtain ⟨v11, ev11, hf⟩ := of_letv hf
      refine lv_iinc (v := v11) (lv' := [(1, .int v11), (0, .ref (B + th)), (2, .int st.2.1)]) C.1 C.2.1 dX2_leaveOutGone_51 hl (k := 1) rfl (by rw [ev11, show Int32.ofInt (1) = nI 1 from by decide]) (by decide) rfl (fun ls hl => ?_)
      obtain ⟨v12, ev12, hf⟩ := of_letv hf
      refine lv_iinc (v := v12) (lv' := [(2, .int v12), (1, .int v11), (0, .ref (B + th))]) C.1 C.2.1 dX2_leaveOutGone_54 hl (k := 2) rfl (by rw [ev12, show Int32.ofInt (1) = nI 1 from by decide]) (by decide) rfl (fun ls hl => ?_)
      refine lv_goto (tgt := 4) C.1 C.2.1 dX2_leaveOutGone_57 (by decide) ?_
      obtain rfl := Option.some.inj hf
      exact kL _ rfl _ _ _ hG (lv_sub hl [2, 1, 0] rfl)
    · refine lv_if_ne (tgt := 54) C.1 C.2.1 dX2_leaveOutGone_18 (by decide) (fun _ => ?_) (fun q => absurd q c3)
      obtain ⟨v4, ev4, hf⟩ := of_letv hf
      refine lv_iinc (v := v4) (lv' := [(2, .int v4), (0, .ref (B + th)), (1, .int st.1)]) C.1 C.2.1 dX2_leaveOutGone_54 hl (k := 2) rfl (by rw [ev4, show Int32.ofInt (1) = nI 1 from by decide]) (by decide) rfl (fun ls hl => ?_)
      refine lv_goto (tgt := 4) C.1 C.2.1 dX2_leaveOutGone_57 (by decide) ?_
      obtain rfl := Option.some.inj hf
      exact kL _ rfl _ _ _ hG (lv_sub hl [1, 2, 0] rfl)
set_option maxRecDepth 100000 in
set_option maxHeartbeats 4000000 in
theorem kl_X2_leaveOutGone_4 {th : Nat} (C : CX p s m args meth c cX2_leaveOutGone 3 RX2 wc_X2_leaveOutGone none) (hth : KDx th = (2, 8)) : ∀ (n : Nat) (st : Int32 × Int32 × WX) (x : (Int32 × WX)) (H : Heap) (locs : List Loc) (ls : Array Slot), Gd s G A 153 B (entX G B st.2.2) X H locs → lv_has ls 3 [(0, .ref (B + th)), (1, .int st.1), (2, .int st.2.1)] → lpw (sh_X2_leaveOutGone_s4 th) n st = some x →
    (∀ y' : Int32 × WX, x = y' → ∀ (H : Heap) (locs : List Loc) (ls : Array Slot), Gd s G A 153 B (entX G B y'.2) X H locs → lv_has ls 3 [(0, .ref (B + th)), (1, .int y'.1)] → W p l e rm_X2_leaveOutGone s m args below meth c H locs 0 0 Q (F0 m 60 ls [])) → W p l e rm_X2_leaveOutGone s m args below meth c H locs 0 0 Q (F0 m 4 ls []) := by
  intro n
  induction n with
  | zero =>
    intro st x H locs ls hG hl hf
    cases hf
  | succ n ih =>
    intro st x H locs ls hG hl hf kX0
    obtain ⟨r, hr, hh⟩ := of_lpw hf
    refine kb_X2_leaveOutGone_4 C hth hG hl hr (fun st2 e1 H locs ls hG hl => ?_) (fun y2 e1 H locs ls hG hl => ?_)
    · rcases hh with ⟨s3, e2, hh⟩ | e2
      · rw [e2] at e1
        cases e1
        exact ih _ _ _ _ _ hG hl hh kX0
      · rw [e2] at e1
        cases e1
    · rcases hh with ⟨s3, e2, hh⟩ | e2
      · rw [e2] at e1
        cases e1
      · rw [e2] at e1
        cases e1
        exact kX0 _ rfl _ _ _ hG hl
set_option maxRecDepth 100000 in
set_option maxHeartbeats 4000000 in
theorem kb_X2_leaveOutGone_0 {th : Nat} {w : WX} {out : WX} {H : Heap} {locs : List Loc} {ls : Array Slot} (C : CX p s m args meth c cX2_leaveOutGone 3 RX2 wc_X2_leaveOutGone none) (hth : KDx th = (2, 8)) (hG : Gd s G A 153 B (entX G B w) X H locs) (hl : lv_has ls 3 [(0, .ref (B + th))]) (hf : sh_X2_leaveOutGone th w = some out) :
    W p l e rm_X2_leaveOutGone s m args below meth c H locs 0 0 (MQ below (CPost G A 153 B (entX G B out) X none) args s 0 0 A) (F0 m 0 ls []) := by
  refine lv_iconst (v := nI 0) C.1 C.2.1 dX2_leaveOutGone_0 (by decide) ?_
  refine lv_istore_n (lv' := [(1, .int (nI 0)), (0, .ref (B + th))]) C.1 C.2.1 dX2_leaveOutGone_1 rfl hl (by decide) rfl (fun ls hl => ?_)
  refine lv_iconst (v := nI 0) C.1 C.2.1 dX2_leaveOutGone_2 (by decide) ?_
  refine lv_istore_n (lv' := [(2, .int (nI 0)), (1, .int (nI 0)), (0, .ref (B + th))]) C.1 C.2.1 dX2_leaveOutGone_3 rfl hl (by decide) rfl (fun ls hl => ?_)
  obtain ⟨ex1, hex1, hf⟩ := of_bind hf
  refine kl_X2_leaveOutGone_4 C hth FU (nI 0, nI 0, w) ex1 _ _ _ hG (lv_sub hl [2, 1, 0] rfl) hex1 (fun y e0 H locs ls hG hl => ?_)
  subst e0
  refine lv_aload_n C.1 C.2.1 dX2_leaveOutGone_60 rfl (lv_at hl 0 rfl) ?_
  refine lv_iload_n C.1 C.2.1 dX2_leaveOutGone_61 rfl (lv_at hl 1 rfl) ?_
  obtain ⟨w2, ew2, hf⟩ := of_letv hf
  refine pf_X2_31 C hG hth dX2_leaveOutGone_62 (fun H locs hG => ?_)
  rw [← ew2] at hG
  obtain rfl := Option.some.inj hf
  exact r_vret C hG dX2_leaveOutGone_65
set_option maxRecDepth 100000 in
set_option maxHeartbeats 4000000 in
theorem mt_X2_leaveOutGone (l : Launch) {G : GG} {A : Nat → Prop} {B : Nat} {X : va_W} {th : Nat} {w : WX} {out : WX} (hth : KDx th = (2, 8)) (hf : sh_X2_leaveOutGone th w = some out) : MetW l yX2_leaveOutGone wc_X2_leaveOutGone rm_X2_leaveOutGone G A 153 B (entX G B w) X [.ref (B + th)] none (entX G B out) := by
  refine Met.ofW (cc := cX2_leaveOutGone) (maxL := 3) (ret := none) (by decide) rfl ?_
  intro p e s m args below meth c s₁ B0 hml hv
  obtain ⟨rfl, hEv, hWd⟩ := hv
  have C : CX p s m _ meth c cX2_leaveOutGone 3 RX2 wc_X2_leaveOutGone none := ⟨B0.exec, B0.bytes, hml, findClass_of_methodNamed B0.named, atoms_spec (ws := wc_X2_leaveOutGone) B0.pre, B0.returns, B0.notSynchronized⟩
  have hl := lv_entry [.ref (B + th)] (n := 3) (Nat.le_of_ble_eq_true rfl)
  rw [lg_entry_eq]
  generalize (lg_sl [.ref (B + th)] ++ List.replicate (3 - (lg_sl [.ref (B + th)]).length) Slot.unset).toArray = ls at hl ⊢
  have hl : lv_has ls 3 [(0, .ref (B + th))] := hl
  exact kb_X2_leaveOutGone_0 C hth ⟨hEv, hWd, va_S.rf⟩ hl hf
abbrev wc_X2_begin : List Cond := Cond.code yX2_begin cX2_begin 1 none :: TG
abbrev rm_X2_begin : Room := { frames := 2, cells := 0, slots := 0, locals := 100 }
theorem cd_X2_begin : yX2_begin.cls = RX2 ∧ yX2_begin.cls ≠ "java/lang/invoke/MethodHandle" ∧ yX2_begin.cls ≠ "java/lang/invoke/VarHandle" ∧ (parseMethodDescriptor yX2_begin.desc).map (fun d => d.parameters.length) = some 0 := by decide +kernel
theorem dX2_begin_0 : decode cX2_begin 0 = .ok (.aload_n 0, 1) := by decide +kernel
theorem dX2_begin_1 : decode cX2_begin 1 = .ok (.getfield 31, 3) := by decide +kernel
theorem dX2_begin_4 : decode cX2_begin 4 = .ok (.bipush 24, 2) := by decide +kernel
theorem dX2_begin_6 : decode cX2_begin 6 = .ok (.if_icmp .lt 4, 3) := by decide +kernel
theorem dX2_begin_9 : decode cX2_begin 9 = .ok (.return_, 1) := by decide +kernel
theorem dX2_begin_10 : decode cX2_begin 10 = .ok (.aload_n 0, 1) := by decide +kernel
theorem dX2_begin_11 : decode cX2_begin 11 = .ok (.getfield 9, 3) := by decide +kernel
theorem dX2_begin_14 : decode cX2_begin 14 = .ok (.aload_n 0, 1) := by decide +kernel
theorem dX2_begin_15 : decode cX2_begin 15 = .ok (.getfield 31, 3) := by decide +kernel
theorem dX2_begin_18 : decode cX2_begin 18 = .ok (.iconst 0, 1) := by decide +kernel
theorem dX2_begin_19 : decode cX2_begin 19 = .ok (.iastore, 1) := by decide +kernel
theorem dX2_begin_20 : decode cX2_begin 20 = .ok (.aload_n 0, 1) := by decide +kernel
theorem dX2_begin_21 : decode cX2_begin 21 = .ok (.getfield 18, 3) := by decide +kernel
theorem dX2_begin_24 : decode cX2_begin 24 = .ok (.aload_n 0, 1) := by decide +kernel
theorem dX2_begin_25 : decode cX2_begin 25 = .ok (.getfield 31, 3) := by decide +kernel
theorem dX2_begin_28 : decode cX2_begin 28 = .ok (.iconst 0, 1) := by decide +kernel
theorem dX2_begin_29 : decode cX2_begin 29 = .ok (.bastore, 1) := by decide +kernel
theorem dX2_begin_30 : decode cX2_begin 30 = .ok (.aload_n 0, 1) := by decide +kernel
theorem dX2_begin_31 : decode cX2_begin 31 = .ok (.getfield 25, 3) := by decide +kernel
theorem dX2_begin_34 : decode cX2_begin 34 = .ok (.aload_n 0, 1) := by decide +kernel
theorem dX2_begin_35 : decode cX2_begin 35 = .ok (.getfield 31, 3) := by decide +kernel
theorem dX2_begin_38 : decode cX2_begin 38 = .ok (.iconst 0, 1) := by decide +kernel
theorem dX2_begin_39 : decode cX2_begin 39 = .ok (.bastore, 1) := by decide +kernel
theorem dX2_begin_40 : decode cX2_begin 40 = .ok (.aload_n 0, 1) := by decide +kernel
theorem dX2_begin_41 : decode cX2_begin 41 = .ok (.getfield 22, 3) := by decide +kernel
theorem dX2_begin_44 : decode cX2_begin 44 = .ok (.aload_n 0, 1) := by decide +kernel
theorem dX2_begin_45 : decode cX2_begin 45 = .ok (.getfield 35, 3) := by decide +kernel
theorem dX2_begin_48 : decode cX2_begin 48 = .ok (.aload_n 0, 1) := by decide +kernel
theorem dX2_begin_49 : decode cX2_begin 49 = .ok (.getfield 31, 3) := by decide +kernel
theorem dX2_begin_52 : decode cX2_begin 52 = .ok (.iastore, 1) := by decide +kernel
theorem dX2_begin_53 : decode cX2_begin 53 = .ok (.aload_n 0, 1) := by decide +kernel
theorem dX2_begin_54 : decode cX2_begin 54 = .ok (.dup, 1) := by decide +kernel
theorem dX2_begin_55 : decode cX2_begin 55 = .ok (.getfield 31, 3) := by decide +kernel
theorem dX2_begin_58 : decode cX2_begin 58 = .ok (.iconst 1, 1) := by decide +kernel
theorem dX2_begin_59 : decode cX2_begin 59 = .ok (.iadd, 1) := by decide +kernel
theorem dX2_begin_60 : decode cX2_begin 60 = .ok (.putfield 31, 3) := by decide +kernel
theorem dX2_begin_63 : decode cX2_begin 63 = .ok (.return_, 1) := by decide +kernel
set_option maxRecDepth 100000 in
set_option maxHeartbeats 4000000 in
theorem kb_X2_begin_0 {th : Nat} {w : WX} {out : WX} {H : Heap} {locs : List Loc} {ls : Array Slot} (C : CX p s m args meth c cX2_begin 1 RX2 wc_X2_begin none) (hth : KDx th = (2, 8)) (hG : Gd s G A 153 B (entX G B w) X H locs) (hl : lv_has ls 1 [(0, .ref (B + th))]) (hf : sh_X2_begin th w = some out) :
    W p l e rm_X2_begin s m args below meth c H locs 0 0 (MQ below (CPost G A 153 B (entX G B out) X none) args s 0 0 A) (F0 m 0 ls []) := by
  refine lv_aload_n C.1 C.2.1 dX2_begin_0 rfl (lv_at hl 0 rfl) ?_
  refine gf_X2_31 C hG hth dX2_begin_1 ?_
  refine lv_bipush (v := nI 24) C.1 C.2.1 dX2_begin_4 (by decide) ?_
  rcases of_ite hf with ⟨c1, hf⟩ | ⟨c1, hf⟩
  · refine lv_icmp_lt (tgt := 10) C.1 C.2.1 dX2_begin_6 (by decide) (fun _ => ?_) (fun q => absurd c1 q)
    refine lv_aload_n C.1 C.2.1 dX2_begin_10 rfl (lv_at hl 0 rfl) ?_
    refine gf_X2_9 C hG hth dX2_begin_11 ?_
    refine lv_aload_n C.1 C.2.1 dX2_begin_14 rfl (lv_at hl 0 rfl) ?_
    refine gf_X2_31 C hG hth dX2_begin_15 ?_
    refine lv_iconst (v := nI 0) C.1 C.2.1 dX2_begin_18 (by decide) ?_
    obtain ⟨w2, hw2, hf⟩ := of_bind hf
    obtain ⟨bw2, ew2⟩ := of_stX hw2
    refine r_iast C hG (c0 := (th + 1)) (kdx_lt (kx_2_2 hth) (by decide)) (entX_I (kx_2_2 hth)) bw2 (E' := (entX G B w2)) (by rw [ew2]; exact upX_I (kx_2_2 hth)) dX2_begin_19 (fun H locs hG => ?_)
    refine lv_aload_n C.1 C.2.1 dX2_begin_20 rfl (lv_at hl 0 rfl) ?_
    refine gf_X2_18 C hG hth dX2_begin_21 ?_
    refine lv_aload_n C.1 C.2.1 dX2_begin_24 rfl (lv_at hl 0 rfl) ?_
    refine gf_X2_31 C hG hth dX2_begin_25 ?_
    refine lv_iconst (v := nI 0) C.1 C.2.1 dX2_begin_28 (by decide) ?_
    obtain ⟨w3, hw3, hf⟩ := of_bind hf
    obtain ⟨bw3, ew3⟩ := of_stX hw3
    refine r_zast C hG (c0 := (th + 3)) (kdx_lt (kx_2_4 hth) (by decide)) (entX_Z (kx_2_4 hth)) (Or.inl rfl) bw3 (E' := (entX G B w3)) (by rw [ew3]; exact upX_Z (kx_2_4 hth)) dX2_begin_29 (fun H locs hG => ?_)
    refine lv_aload_n C.1 C.2.1 dX2_begin_30 rfl (lv_at hl 0 rfl) ?_
    refine gf_X2_25 C hG hth dX2_begin_31 ?_
    refine lv_aload_n C.1 C.2.1 dX2_begin_34 rfl (lv_at hl 0 rfl) ?_
    refine gf_X2_31 C hG hth dX2_begin_35 ?_
    refine lv_iconst (v := nI 0) C.1 C.2.1 dX2_begin_38 (by decide) ?_
    obtain ⟨w4, hw4, hf⟩ := of_bind hf
    obtain ⟨bw4, ew4⟩ := of_stX hw4
    refine r_zast C hG (c0 := (th + 5)) (kdx_lt (kx_2_6 hth) (by decide)) (entX_Z (kx_2_6 hth)) (Or.inl rfl) bw4 (E' := (entX G B w4)) (by rw [ew4]; exact upX_Z (kx_2_6 hth)) dX2_begin_39 (fun H locs hG => ?_)
    refine lv_aload_n C.1 C.2.1 dX2_begin_40 rfl (lv_at hl 0 rfl) ?_
    refine gf_X2_22 C hG hth dX2_begin_41 ?_
    refine lv_aload_n C.1 C.2.1 dX2_begin_44 rfl (lv_at hl 0 rfl) ?_
    refine gf_X2_35 C hG hth dX2_begin_45 ?_
    refine lv_aload_n C.1 C.2.1 dX2_begin_48 rfl (lv_at hl 0 rfl) ?_
    refine gf_X2_31 C hG hth dX2_begin_49 ?_
    obtain ⟨w5, hw5, hf⟩ := of_bind hf
    obtain ⟨bw5, ew5⟩ := of_stX hw5
    refine r_iast C hG (c0 := (th + 4)) (kdx_lt (kx_2_5 hth) (by decide)) (entX_I (kx_2_5 hth)) bw5 (E' := (entX G B w5)) (by rw [ew5]; exact upX_I (kx_2_5 hth)) dX2_begin_52 (fun H locs hG => ?_)
    refine lv_aload_n C.1 C.2.1 dX2_begin_53 rfl (lv_at hl 0 rfl) ?_
    refine lv_dup C.1 C.2.1 dX2_begin_54 rfl ?_
    refine gf_X2_31 C hG hth dX2_begin_55 ?_
    refine lv_iconst (v := nI 1) C.1 C.2.1 dX2_begin_58 (by decide) ?_
    refine lv_iadd C.1 C.2.1 dX2_begin_59 ?_
    obtain ⟨w6, ew6, hf⟩ := of_letv hf
    refine pf_X2_31 C hG hth dX2_begin_60 (fun H locs hG => ?_)
    rw [← ew6] at hG
    obtain rfl := Option.some.inj hf
    exact r_vret C hG dX2_begin_63
  · refine lv_icmp_lt (tgt := 10) C.1 C.2.1 dX2_begin_6 (by decide) (fun q => absurd q c1) (fun _ => ?_)
    obtain rfl := Option.some.inj hf
    exact r_vret C hG dX2_begin_9
set_option maxRecDepth 100000 in
set_option maxHeartbeats 4000000 in
theorem mt_X2_begin (l : Launch) {G : GG} {A : Nat → Prop} {B : Nat} {X : va_W} {th : Nat} {w : WX} {out : WX} (hth : KDx th = (2, 8)) (hf : sh_X2_begin th w = some out) : MetW l yX2_begin wc_X2_begin rm_X2_begin G A 153 B (entX G B w) X [.ref (B + th)] none (entX G B out) := by
  refine Met.ofW (cc := cX2_begin) (maxL := 1) (ret := none) (by decide) rfl ?_
  intro p e s m args below meth c s₁ B0 hml hv
  obtain ⟨rfl, hEv, hWd⟩ := hv
  have C : CX p s m _ meth c cX2_begin 1 RX2 wc_X2_begin none := ⟨B0.exec, B0.bytes, hml, findClass_of_methodNamed B0.named, atoms_spec (ws := wc_X2_begin) B0.pre, B0.returns, B0.notSynchronized⟩
  have hl := lv_entry [.ref (B + th)] (n := 1) (Nat.le_of_ble_eq_true rfl)
  rw [lg_entry_eq]
  generalize (lg_sl [.ref (B + th)] ++ List.replicate (1 - (lg_sl [.ref (B + th)]).length) Slot.unset).toArray = ls at hl ⊢
  have hl : lv_has ls 1 [(0, .ref (B + th))] := hl
  exact kb_X2_begin_0 C hth ⟨hEv, hWd, va_S.rf⟩ hl hf
abbrev wc_X2_exchangeLast : List Cond := Cond.code yX2_exchangeLast cX2_exchangeLast 2 none :: TG
abbrev rm_X2_exchangeLast : Room := { frames := 2, cells := 0, slots := 0, locals := 100 }
theorem cd_X2_exchangeLast : yX2_exchangeLast.cls = RX2 ∧ yX2_exchangeLast.cls ≠ "java/lang/invoke/MethodHandle" ∧ yX2_exchangeLast.cls ≠ "java/lang/invoke/VarHandle" ∧ (parseMethodDescriptor yX2_exchangeLast.desc).map (fun d => d.parameters.length) = some 0 := by decide +kernel
theorem dX2_exchangeLast_0 : decode cX2_exchangeLast 0 = .ok (.aload_n 0, 1) := by decide +kernel
theorem dX2_exchangeLast_1 : decode cX2_exchangeLast 1 = .ok (.getfield 22, 3) := by decide +kernel
theorem dX2_exchangeLast_4 : decode cX2_exchangeLast 4 = .ok (.aload_n 0, 1) := by decide +kernel
theorem dX2_exchangeLast_5 : decode cX2_exchangeLast 5 = .ok (.getfield 35, 3) := by decide +kernel
theorem dX2_exchangeLast_8 : decode cX2_exchangeLast 8 = .ok (.iconst 1, 1) := by decide +kernel
theorem dX2_exchangeLast_9 : decode cX2_exchangeLast 9 = .ok (.isub, 1) := by decide +kernel
theorem dX2_exchangeLast_10 : decode cX2_exchangeLast 10 = .ok (.iaload, 1) := by decide +kernel
theorem dX2_exchangeLast_11 : decode cX2_exchangeLast 11 = .ok (.istore_n 1, 1) := by decide +kernel
theorem dX2_exchangeLast_12 : decode cX2_exchangeLast 12 = .ok (.aload_n 0, 1) := by decide +kernel
theorem dX2_exchangeLast_13 : decode cX2_exchangeLast 13 = .ok (.getfield 22, 3) := by decide +kernel
theorem dX2_exchangeLast_16 : decode cX2_exchangeLast 16 = .ok (.aload_n 0, 1) := by decide +kernel
theorem dX2_exchangeLast_17 : decode cX2_exchangeLast 17 = .ok (.getfield 35, 3) := by decide +kernel
theorem dX2_exchangeLast_20 : decode cX2_exchangeLast 20 = .ok (.iconst 1, 1) := by decide +kernel
theorem dX2_exchangeLast_21 : decode cX2_exchangeLast 21 = .ok (.isub, 1) := by decide +kernel
theorem dX2_exchangeLast_22 : decode cX2_exchangeLast 22 = .ok (.aload_n 0, 1) := by decide +kernel
theorem dX2_exchangeLast_23 : decode cX2_exchangeLast 23 = .ok (.getfield 22, 3) := by decide +kernel
theorem dX2_exchangeLast_26 : decode cX2_exchangeLast 26 = .ok (.aload_n 0, 1) := by decide +kernel
theorem dX2_exchangeLast_27 : decode cX2_exchangeLast 27 = .ok (.getfield 35, 3) := by decide +kernel
theorem dX2_exchangeLast_30 : decode cX2_exchangeLast 30 = .ok (.iconst 2, 1) := by decide +kernel
theorem dX2_exchangeLast_31 : decode cX2_exchangeLast 31 = .ok (.isub, 1) := by decide +kernel
theorem dX2_exchangeLast_32 : decode cX2_exchangeLast 32 = .ok (.iaload, 1) := by decide +kernel
theorem dX2_exchangeLast_33 : decode cX2_exchangeLast 33 = .ok (.iastore, 1) := by decide +kernel
theorem dX2_exchangeLast_34 : decode cX2_exchangeLast 34 = .ok (.aload_n 0, 1) := by decide +kernel
theorem dX2_exchangeLast_35 : decode cX2_exchangeLast 35 = .ok (.getfield 22, 3) := by decide +kernel
theorem dX2_exchangeLast_38 : decode cX2_exchangeLast 38 = .ok (.aload_n 0, 1) := by decide +kernel
theorem dX2_exchangeLast_39 : decode cX2_exchangeLast 39 = .ok (.getfield 35, 3) := by decide +kernel
theorem dX2_exchangeLast_42 : decode cX2_exchangeLast 42 = .ok (.iconst 2, 1) := by decide +kernel
theorem dX2_exchangeLast_43 : decode cX2_exchangeLast 43 = .ok (.isub, 1) := by decide +kernel
theorem dX2_exchangeLast_44 : decode cX2_exchangeLast 44 = .ok (.iload_n 1, 1) := by decide +kernel
theorem dX2_exchangeLast_45 : decode cX2_exchangeLast 45 = .ok (.iastore, 1) := by decide +kernel
theorem dX2_exchangeLast_46 : decode cX2_exchangeLast 46 = .ok (.return_, 1) := by decide +kernel
set_option maxRecDepth 100000 in
set_option maxHeartbeats 4000000 in
theorem kb_X2_exchangeLast_0 {th : Nat} {w : WX} {out : WX} {H : Heap} {locs : List Loc} {ls : Array Slot} (C : CX p s m args meth c cX2_exchangeLast 2 RX2 wc_X2_exchangeLast none) (hth : KDx th = (2, 8)) (hG : Gd s G A 153 B (entX G B w) X H locs) (hl : lv_has ls 2 [(0, .ref (B + th))]) (hf : sh_X2_exchangeLast th w = some out) :
    W p l e rm_X2_exchangeLast s m args below meth c H locs 0 0 (MQ below (CPost G A 153 B (entX G B out) X none) args s 0 0 A) (F0 m 0 ls []) := by
  refine lv_aload_n C.1 C.2.1 dX2_exchangeLast_0 rfl (lv_at hl 0 rfl) ?_
  refine gf_X2_22 C hG hth dX2_exchangeLast_1 ?_
  refine lv_aload_n C.1 C.2.1 dX2_exchangeLast_4 rfl (lv_at hl 0 rfl) ?_
  refine gf_X2_35 C hG hth dX2_exchangeLast_5 ?_
  refine lv_iconst (v := nI 1) C.1 C.2.1 dX2_exchangeLast_8 (by decide) ?_
  refine lv_isub C.1 C.2.1 dX2_exchangeLast_9 ?_
  obtain ⟨v1, hv1, hf⟩ := of_bind hf
  obtain ⟨bv1, ev1⟩ := of_ldS hv1
  refine r_iald C hG (c0 := (th + 4)) (kdx_lt (kx_2_5 hth) (by decide)) (entX_I (kx_2_5 hth)) bv1 dX2_exchangeLast_10 ?_
  refine r_top ev1 ?_
  refine lv_istore_n (lv' := [(1, .int v1), (0, .ref (B + th))]) C.1 C.2.1 dX2_exchangeLast_11 rfl hl (by decide) rfl (fun ls hl => ?_)
  refine lv_aload_n C.1 C.2.1 dX2_exchangeLast_12 rfl (lv_at hl 1 rfl) ?_
  refine gf_X2_22 C hG hth dX2_exchangeLast_13 ?_
  refine lv_aload_n C.1 C.2.1 dX2_exchangeLast_16 rfl (lv_at hl 1 rfl) ?_
  refine gf_X2_35 C hG hth dX2_exchangeLast_17 ?_
  refine lv_iconst (v := nI 1) C.1 C.2.1 dX2_exchangeLast_20 (by decide) ?_
  refine lv_isub C.1 C.2.1 dX2_exchangeLast_21 ?_
  refine lv_aload_n C.1 C.2.1 dX2_exchangeLast_22 rfl (lv_at hl 1 rfl) ?_
  refine gf_X2_22 C hG hth dX2_exchangeLast_23 ?_
  refine lv_aload_n C.1 C.2.1 dX2_exchangeLast_26 rfl (lv_at hl 1 rfl) ?_
  refine gf_X2_35 C hG hth dX2_exchangeLast_27 ?_
  refine lv_iconst (v := nI 2) C.1 C.2.1 dX2_exchangeLast_30 (by decide) ?_
  refine lv_isub C.1 C.2.1 dX2_exchangeLast_31 ?_
  obtain ⟨v2, hv2, hf⟩ := of_bind hf
  obtain ⟨bv2, ev2⟩ := of_ldS hv2
  refine r_iald C hG (c0 := (th + 4)) (kdx_lt (kx_2_5 hth) (by decide)) (entX_I (kx_2_5 hth)) bv2 dX2_exchangeLast_32 ?_
  refine r_top ev2 ?_
  obtain ⟨w3, hw3, hf⟩ := of_bind hf
  obtain ⟨bw3, ew3⟩ := of_stX hw3
  refine r_iast C hG (c0 := (th + 4)) (kdx_lt (kx_2_5 hth) (by decide)) (entX_I (kx_2_5 hth)) bw3 (E' := (entX G B w3)) (by rw [ew3]; exact upX_I (kx_2_5 hth)) dX2_exchangeLast_33 (fun H locs hG => ?_)
  refine lv_aload_n C.1 C.2.1 dX2_exchangeLast_34 rfl (lv_at hl 1 rfl) ?_
  refine gf_X2_22 C hG hth dX2_exchangeLast_35 ?_
  refine lv_aload_n C.1 C.2.1 dX2_exchangeLast_38 rfl (lv_at hl 1 rfl) ?_
  refine gf_X2_35 C hG hth dX2_exchangeLast_39 ?_
  refine lv_iconst (v := nI 2) C.1 C.2.1 dX2_exchangeLast_42 (by decide) ?_
  refine lv_isub C.1 C.2.1 dX2_exchangeLast_43 ?_
  refine lv_iload_n C.1 C.2.1 dX2_exchangeLast_44 rfl (lv_at hl 0 rfl) ?_
  obtain ⟨w4, hw4, hf⟩ := of_bind hf
  obtain ⟨bw4, ew4⟩ := of_stX hw4
  refine r_iast C hG (c0 := (th + 4)) (kdx_lt (kx_2_5 hth) (by decide)) (entX_I (kx_2_5 hth)) bw4 (E' := (entX G B w4)) (by rw [ew4]; exact upX_I (kx_2_5 hth)) dX2_exchangeLast_45 (fun H locs hG => ?_)
  obtain rfl := Option.some.inj hf
  exact r_vret C hG dX2_exchangeLast_46
set_option maxRecDepth 100000 in
set_option maxHeartbeats 4000000 in
theorem mt_X2_exchangeLast (l : Launch) {G : GG} {A : Nat → Prop} {B : Nat} {X : va_W} {th : Nat} {w : WX} {out : WX} (hth : KDx th = (2, 8)) (hf : sh_X2_exchangeLast th w = some out) : MetW l yX2_exchangeLast wc_X2_exchangeLast rm_X2_exchangeLast G A 153 B (entX G B w) X [.ref (B + th)] none (entX G B out) := by
  refine Met.ofW (cc := cX2_exchangeLast) (maxL := 2) (ret := none) (by decide) rfl ?_
  intro p e s m args below meth c s₁ B0 hml hv
  obtain ⟨rfl, hEv, hWd⟩ := hv
  have C : CX p s m _ meth c cX2_exchangeLast 2 RX2 wc_X2_exchangeLast none := ⟨B0.exec, B0.bytes, hml, findClass_of_methodNamed B0.named, atoms_spec (ws := wc_X2_exchangeLast) B0.pre, B0.returns, B0.notSynchronized⟩
  have hl := lv_entry [.ref (B + th)] (n := 2) (Nat.le_of_ble_eq_true rfl)
  rw [lg_entry_eq]
  generalize (lg_sl [.ref (B + th)] ++ List.replicate (2 - (lg_sl [.ref (B + th)]).length) Slot.unset).toArray = ls at hl ⊢
  have hl : lv_has ls 2 [(0, .ref (B + th))] := hl
  exact kb_X2_exchangeLast_0 C hth ⟨hEv, hWd, va_S.rf⟩ hl hf
abbrev wc_X2_join : List Cond := Cond.code yX2_join cX2_join 5 none :: TG
abbrev rm_X2_join : Room := { frames := 3, cells := 0, slots := 0, locals := 123 }
theorem cd_X2_join : yX2_join.cls = RX2 ∧ yX2_join.cls ≠ "java/lang/invoke/MethodHandle" ∧ yX2_join.cls ≠ "java/lang/invoke/VarHandle" ∧ (parseMethodDescriptor yX2_join.desc).map (fun d => d.parameters.length) = some 2 := by decide +kernel
theorem dX2_join_0 : decode cX2_join 0 = .ok (.iload_n 1, 1) := by decide +kernel
theorem dX2_join_1 : decode cX2_join 1 = .ok (.iload_n 2, 1) := by decide +kernel
theorem dX2_join_2 : decode cX2_join 2 = .ok (.if_icmp .ne 4, 3) := by decide +kernel
theorem dX2_join_5 : decode cX2_join 5 = .ok (.return_, 1) := by decide +kernel
theorem dX2_join_6 : decode cX2_join 6 = .ok (.iload_n 1, 1) := by decide +kernel
theorem dX2_join_7 : decode cX2_join 7 = .ok (.iload_n 2, 1) := by decide +kernel
theorem dX2_join_8 : decode cX2_join 8 = .ok (.invokestatic 77, 3) := by decide +kernel
theorem dX2_join_11 : decode cX2_join 11 = .ok (.istore_n 3, 1) := by decide +kernel
theorem dX2_join_12 : decode cX2_join 12 = .ok (.iload_n 1, 1) := by decide +kernel
theorem dX2_join_13 : decode cX2_join 13 = .ok (.iload_n 2, 1) := by decide +kernel
theorem dX2_join_14 : decode cX2_join 14 = .ok (.invokestatic 68, 3) := by decide +kernel
theorem dX2_join_17 : decode cX2_join 17 = .ok (.istore 4, 2) := by decide +kernel
theorem dX2_join_19 : decode cX2_join 19 = .ok (.aload_n 0, 1) := by decide +kernel
theorem dX2_join_20 : decode cX2_join 20 = .ok (.getfield 9, 3) := by decide +kernel
theorem dX2_join_23 : decode cX2_join 23 = .ok (.iload_n 3, 1) := by decide +kernel
theorem dX2_join_24 : decode cX2_join 24 = .ok (.dup2, 1) := by decide +kernel
theorem dX2_join_25 : decode cX2_join 25 = .ok (.iaload, 1) := by decide +kernel
theorem dX2_join_26 : decode cX2_join 26 = .ok (.aload_n 0, 1) := by decide +kernel
theorem dX2_join_27 : decode cX2_join 27 = .ok (.getfield 9, 3) := by decide +kernel
theorem dX2_join_30 : decode cX2_join 30 = .ok (.iload 4, 2) := by decide +kernel
theorem dX2_join_32 : decode cX2_join 32 = .ok (.iaload, 1) := by decide +kernel
theorem dX2_join_33 : decode cX2_join 33 = .ok (.iadd, 1) := by decide +kernel
theorem dX2_join_34 : decode cX2_join 34 = .ok (.iastore, 1) := by decide +kernel
theorem dX2_join_35 : decode cX2_join 35 = .ok (.aload_n 0, 1) := by decide +kernel
theorem dX2_join_36 : decode cX2_join 36 = .ok (.getfield 18, 3) := by decide +kernel
theorem dX2_join_39 : decode cX2_join 39 = .ok (.iload_n 3, 1) := by decide +kernel
theorem dX2_join_40 : decode cX2_join 40 = .ok (.aload_n 0, 1) := by decide +kernel
theorem dX2_join_41 : decode cX2_join 41 = .ok (.getfield 18, 3) := by decide +kernel
theorem dX2_join_44 : decode cX2_join 44 = .ok (.iload_n 3, 1) := by decide +kernel
theorem dX2_join_45 : decode cX2_join 45 = .ok (.baload, 1) := by decide +kernel
theorem dX2_join_46 : decode cX2_join 46 = .ok (.ifCond .ne 13, 3) := by decide +kernel
theorem dX2_join_49 : decode cX2_join 49 = .ok (.aload_n 0, 1) := by decide +kernel
theorem dX2_join_50 : decode cX2_join 50 = .ok (.getfield 18, 3) := by decide +kernel
theorem dX2_join_53 : decode cX2_join 53 = .ok (.iload 4, 2) := by decide +kernel
theorem dX2_join_55 : decode cX2_join 55 = .ok (.baload, 1) := by decide +kernel
theorem dX2_join_56 : decode cX2_join 56 = .ok (.ifCond .eq 7, 3) := by decide +kernel
theorem dX2_join_59 : decode cX2_join 59 = .ok (.iconst 1, 1) := by decide +kernel
theorem dX2_join_60 : decode cX2_join 60 = .ok (.goto 4, 3) := by decide +kernel
theorem dX2_join_63 : decode cX2_join 63 = .ok (.iconst 0, 1) := by decide +kernel
theorem dX2_join_64 : decode cX2_join 64 = .ok (.bastore, 1) := by decide +kernel
theorem dX2_join_65 : decode cX2_join 65 = .ok (.aload_n 0, 1) := by decide +kernel
theorem dX2_join_66 : decode cX2_join 66 = .ok (.getfield 25, 3) := by decide +kernel
theorem dX2_join_69 : decode cX2_join 69 = .ok (.iload 4, 2) := by decide +kernel
theorem dX2_join_71 : decode cX2_join 71 = .ok (.iconst 1, 1) := by decide +kernel
theorem dX2_join_72 : decode cX2_join 72 = .ok (.bastore, 1) := by decide +kernel
theorem dX2_join_73 : decode cX2_join 73 = .ok (.aload_n 0, 1) := by decide +kernel
theorem dX2_join_74 : decode cX2_join 74 = .ok (.iload 4, 2) := by decide +kernel
theorem dX2_join_76 : decode cX2_join 76 = .ok (.iload_n 3, 1) := by decide +kernel
theorem dX2_join_77 : decode cX2_join 77 = .ok (.invokevirtual 80, 3) := by decide +kernel
theorem dX2_join_80 : decode cX2_join 80 = .ok (.return_, 1) := by decide +kernel
set_option maxRecDepth 100000 in
set_option maxHeartbeats 4000000 in
theorem kb_X2_join_64 {th : Nat} {x3 : Int32} {x4 : Int32} {s0 : Nat} {s1 : Int32} {s2 : Int32} {w : WX} {out : WX} {H : Heap} {locs : List Loc} {ls : Array Slot} (C : CX p s m args meth c cX2_join 5 RX2 wc_X2_join none) (hth : KDx th = (2, 8)) (hs0 : KDx s0 = (11, 24)) (hG : Gd s G A 153 B (entX G B w) X H locs) (hl : lv_has ls 5 [(0, .ref (B + th)), (3, .int x3), (4, .int x4)]) (hf : sh_X2_join_j64 th x3 x4 s0 s1 s2 w = some out) :
    W p l e rm_X2_join s m args below meth c H locs 0 0 (MQ below (CPost G A 153 B (entX G B out) X none) args s 0 0 A) (F0 m 64 ls [.int s2, .int s1, .ref (B + s0)]) := by
  obtain ⟨c2, hf⟩ := of_grd hf
  obtain ⟨w1, hw1, hf⟩ := of_bind hf
  obtain ⟨bw1, ew1⟩ := of_stX hw1
  refine r_zast C hG (c0 := s0) (kdx_lt hs0 (by decide)) (entX_Z hs0) c2 bw1 (E' := (entX G B w1)) (by rw [ew1]; exact upX_Z hs0) dX2_join_64 (fun H locs hG => ?_)
  refine lv_aload_n C.1 C.2.1 dX2_join_65 rfl (lv_at hl 0 rfl) ?_
  refine gf_X2_25 C hG hth dX2_join_66 ?_
  refine lv_iload C.1 C.2.1 dX2_join_69 (lv_at hl 2 rfl) ?_
  refine lv_iconst (v := nI 1) C.1 C.2.1 dX2_join_71 (by decide) ?_
  obtain ⟨w3, hw3, hf⟩ := of_bind hf
  obtain ⟨bw3, ew3⟩ := of_stX hw3
  refine r_zast C hG (c0 := (th + 5)) (kdx_lt (kx_2_6 hth) (by decide)) (entX_Z (kx_2_6 hth)) (Or.inr rfl) bw3 (E' := (entX G B w3)) (by rw [ew3]; exact upX_Z (kx_2_6 hth)) dX2_join_72 (fun H locs hG => ?_)
  refine lv_aload_n C.1 C.2.1 dX2_join_73 rfl (lv_at hl 0 rfl) ?_
  refine lv_iload C.1 C.2.1 dX2_join_74 (lv_at hl 2 rfl) ?_
  refine lv_iload_n C.1 C.2.1 dX2_join_76 rfl (lv_at hl 1 rfl) ?_
  obtain ⟨w4, hw4, hf⟩ := of_bind hf
  refine r_callV0 C hG hl.1 (c0 := th) (As := [.int x4, .int x3]) (kdx_lt hth (by decide)) (entX_O2 hth) rfl (mt_X2_renumber l hth hw4) (cwV 2 C.2.2.2.2.1 (gd_V tg_3_36 tg_3_38 tgp_10 tg_1_8 tg_3_39) rfl rfl rfl cd_X2_renumber ⟨Nat.le_of_ble_eq_true rfl, Nat.le_of_ble_eq_true rfl⟩) rfl rfl (Nat.le_of_ble_eq_true rfl) dX2_join_77 (fun H locs hG => ?_)
  obtain rfl := Option.some.inj hf
  exact r_vret C hG dX2_join_80
set_option maxRecDepth 100000 in
set_option maxHeartbeats 4000000 in
theorem kb_X2_join_59 {th : Nat} {x3 : Int32} {x4 : Int32} {s0 : Nat} {s1 : Int32} {w : WX} {out : WX} {H : Heap} {locs : List Loc} {ls : Array Slot} (C : CX p s m args meth c cX2_join 5 RX2 wc_X2_join none) (hth : KDx th = (2, 8)) (hs0 : KDx s0 = (11, 24)) (hG : Gd s G A 153 B (entX G B w) X H locs) (hl : lv_has ls 5 [(0, .ref (B + th)), (3, .int x3), (4, .int x4)]) (hf : sh_X2_join_j59 th x3 x4 s0 s1 w = some out) :
    W p l e rm_X2_join s m args below meth c H locs 0 0 (MQ below (CPost G A 153 B (entX G B out) X none) args s 0 0 A) (F0 m 59 ls [.int s1, .ref (B + s0)]) := by
  refine lv_iconst (v := nI 1) C.1 C.2.1 dX2_join_59 (by decide) ?_
  refine lv_goto (tgt := 64) C.1 C.2.1 dX2_join_60 (by decide) ?_
  exact kb_X2_join_64 C hth hs0 hG hl hf
set_option maxRecDepth 100000 in
set_option maxHeartbeats 4000000 in
theorem kb_X2_join_0 {th : Nat} {x1 : Int32} {x2 : Int32} {w : WX} {out : WX} {H : Heap} {locs : List Loc} {ls : Array Slot} (C : CX p s m args meth c cX2_join 5 RX2 wc_X2_join none) (hth : KDx th = (2, 8)) (hG : Gd s G A 153 B (entX G B w) X H locs) (hl : lv_has ls 5 [(0, .ref (B + th)), (1, .int x1), (2, .int x2)]) (hf : sh_X2_join th x1 x2 w = some out) :
    W p l e rm_X2_join s m args below meth c H locs 0 0 (MQ below (CPost G A 153 B (entX G B out) X none) args s 0 0 A) (F0 m 0 ls []) := by
  refine lv_iload_n C.1 C.2.1 dX2_join_0 rfl (lv_at hl 1 rfl) ?_
  refine lv_iload_n C.1 C.2.1 dX2_join_1 rfl (lv_at hl 2 rfl) ?_
  rcases of_ite hf with ⟨c1, hf⟩ | ⟨c1, hf⟩
  · refine lv_icmp_ne (tgt := 6) C.1 C.2.1 dX2_join_2 (by decide) (fun q => absurd c1 q) (fun _ => ?_)
    obtain rfl := Option.some.inj hf
    exact r_vret C hG dX2_join_5
  · refine lv_icmp_ne (tgt := 6) C.1 C.2.1 dX2_join_2 (by decide) (fun _ => ?_) (fun q => absurd q c1)
    refine lv_iload_n C.1 C.2.1 dX2_join_6 rfl (lv_at hl 1 rfl) ?_
    refine lv_iload_n C.1 C.2.1 dX2_join_7 rfl (lv_at hl 2 rfl) ?_
    refine r_min C hl.1 (List.mem_cons_of_mem _ tg_3_34) (List.mem_cons_of_mem _ tg_2_208) (List.mem_cons_of_mem _ tg_1_12) (List.mem_cons_of_mem _ tg_2_209) (Nat.le_of_ble_eq_true rfl) (Nat.le_of_ble_eq_true rfl) dX2_join_8 ?_
    obtain ⟨v2, ev2, hf⟩ := of_letv hf
    refine r_top ev2 ?_
    refine lv_istore_n (lv' := [(3, .int v2), (0, .ref (B + th)), (1, .int x1), (2, .int x2)]) C.1 C.2.1 dX2_join_11 rfl hl (by decide) rfl (fun ls hl => ?_)
    refine lv_iload_n C.1 C.2.1 dX2_join_12 rfl (lv_at hl 2 rfl) ?_
    refine lv_iload_n C.1 C.2.1 dX2_join_13 rfl (lv_at hl 3 rfl) ?_
    refine r_max C hl.1 (List.mem_cons_of_mem _ tg_3_35) (List.mem_cons_of_mem _ tg_2_211) (List.mem_cons_of_mem _ tg_1_12) (List.mem_cons_of_mem _ tg_2_212) (Nat.le_of_ble_eq_true rfl) (Nat.le_of_ble_eq_true rfl) dX2_join_14 ?_
    obtain ⟨v3, ev3, hf⟩ := of_letv hf
    refine r_top ev3 ?_
    refine lv_istore (lv' := [(4, .int v3), (3, .int v2), (0, .ref (B + th)), (1, .int x1), (2, .int x2)]) C.1 C.2.1 dX2_join_17 hl (by decide) rfl (fun ls hl => ?_)
    refine lv_aload_n C.1 C.2.1 dX2_join_19 rfl (lv_at hl 2 rfl) ?_
    refine gf_X2_9 C hG hth dX2_join_20 ?_
    refine lv_iload_n C.1 C.2.1 dX2_join_23 rfl (lv_at hl 1 rfl) ?_
    refine lv_dup2_11 C.1 C.2.1 dX2_join_24 rfl rfl ?_
    obtain ⟨v4, hv4, hf⟩ := of_bind hf
    obtain ⟨bv4, ev4⟩ := of_ldS hv4
    refine r_iald C hG (c0 := (th + 1)) (kdx_lt (kx_2_2 hth) (by decide)) (entX_I (kx_2_2 hth)) bv4 dX2_join_25 ?_
    refine r_top ev4 ?_
    refine lv_aload_n C.1 C.2.1 dX2_join_26 rfl (lv_at hl 2 rfl) ?_
    refine gf_X2_9 C hG hth dX2_join_27 ?_
    refine lv_iload C.1 C.2.1 dX2_join_30 (lv_at hl 0 rfl) ?_
    obtain ⟨v5, hv5, hf⟩ := of_bind hf
    obtain ⟨bv5, ev5⟩ := of_ldS hv5
    refine r_iald C hG (c0 := (th + 1)) (kdx_lt (kx_2_2 hth) (by decide)) (entX_I (kx_2_2 hth)) bv5 dX2_join_32 ?_
    refine r_top ev5 ?_
    refine lv_iadd C.1 C.2.1 dX2_join_33 ?_
    obtain ⟨w6, hw6, hf⟩ := of_bind hf
    obtain ⟨bw6, ew6⟩ := of_stX hw6
    refine r_iast C hG (c0 := (th + 1)) (kdx_lt (kx_2_2 hth) (by decide)) (entX_I (kx_2_2 hth)) bw6 (E' := (entX G B w6)) (by rw [ew6]; exact upX_I (kx_2_2 hth)) dX2_join_34 (fun H locs hG => ?_)
    refine lv_aload_n C.1 C.2.1 dX2_join_35 rfl (lv_at hl 2 rfl) ?_
    refine gf_X2_18 C hG hth dX2_join_36 ?_
    refine lv_iload_n C.1 C.2.1 dX2_join_39 rfl (lv_at hl 1 rfl) ?_
    refine lv_aload_n C.1 C.2.1 dX2_join_40 rfl (lv_at hl 2 rfl) ?_
    refine gf_X2_18 C hG hth dX2_join_41 ?_
    refine lv_iload_n C.1 C.2.1 dX2_join_44 rfl (lv_at hl 1 rfl) ?_
    obtain ⟨v7, hv7, hf⟩ := of_bind hf
    obtain ⟨bv7, ev7⟩ := of_ldS hv7
    refine r_zald C hG (c0 := (th + 3)) (kdx_lt (kx_2_4 hth) (by decide)) (entX_Z (kx_2_4 hth)) bv7 dX2_join_45 ?_
    refine r_top ev7 ?_
    rcases of_ite hf with ⟨c8, hf⟩ | ⟨c8, hf⟩
    · refine lv_if_ne (tgt := 59) C.1 C.2.1 dX2_join_46 (by decide) (fun q => absurd c8 q) (fun _ => ?_)
      refine lv_aload_n C.1 C.2.1 dX2_join_49 rfl (lv_at hl 2 rfl) ?_
      refine gf_X2_18 C hG hth dX2_join_50 ?_
      refine lv_iload C.1 C.2.1 dX2_join_53 (lv_at hl 0 rfl) ?_
      obtain ⟨v9, hv9, hf⟩ := of_bind hf
      obtain ⟨bv9, ev9⟩ := of_ldS hv9
      refine r_zald C hG (c0 := (th + 3)) (kdx_lt (kx_2_4 hth) (by decide)) (entX_Z (kx_2_4 hth)) bv9 dX2_join_55 ?_
      refine r_top ev9 ?_
      rcases of_ite hf with ⟨c10, hf⟩ | ⟨c10, hf⟩
      · refine lv_if_eq (tgt := 63) C.1 C.2.1 dX2_join_56 (by decide) (fun _ => ?_) (fun q => absurd c10 q)
        refine lv_iconst (v := nI 0) C.1 C.2.1 dX2_join_63 (by decide) ?_
        exact kb_X2_join_64 C hth (kx_2_4 hth) hG (lv_sub hl [2, 1, 0] rfl) hf
      · refine lv_if_eq (tgt := 63) C.1 C.2.1 dX2_join_56 (by decide) (fun q => absurd q c10) (fun _ => ?_)
        exact kb_X2_join_59 C hth (kx_2_4 hth) hG (lv_sub hl [2, 1, 0] rfl) hf
    · refine lv_if_ne (tgt := 59) C.1 C.2.1 dX2_join_46 (by decide) (fun _ => ?_) (fun q => absurd q c8)
      exact kb_X2_join_59 C hth (kx_2_4 hth) hG (lv_sub hl [2, 1, 0] rfl) hf
set_option maxRecDepth 100000 in
set_option maxHeartbeats 4000000 in
theorem mt_X2_join (l : Launch) {G : GG} {A : Nat → Prop} {B : Nat} {X : va_W} {th : Nat} {x1 : Int32} {x2 : Int32} {w : WX} {out : WX} (hth : KDx th = (2, 8)) (hf : sh_X2_join th x1 x2 w = some out) : MetW l yX2_join wc_X2_join rm_X2_join G A 153 B (entX G B w) X [.ref (B + th), .int x1, .int x2] none (entX G B out) := by
  refine Met.ofW (cc := cX2_join) (maxL := 5) (ret := none) (by decide) rfl ?_
  intro p e s m args below meth c s₁ B0 hml hv
  obtain ⟨rfl, hEv, hWd⟩ := hv
  have C : CX p s m _ meth c cX2_join 5 RX2 wc_X2_join none := ⟨B0.exec, B0.bytes, hml, findClass_of_methodNamed B0.named, atoms_spec (ws := wc_X2_join) B0.pre, B0.returns, B0.notSynchronized⟩
  have hl := lv_entry [.ref (B + th), .int x1, .int x2] (n := 5) (Nat.le_of_ble_eq_true rfl)
  rw [lg_entry_eq]
  generalize (lg_sl [.ref (B + th), .int x1, .int x2] ++ List.replicate (5 - (lg_sl [.ref (B + th), .int x1, .int x2]).length) Slot.unset).toArray = ls at hl ⊢
  have hl : lv_has ls 5 [(0, .ref (B + th)), (1, .int x1), (2, .int x2)] := hl
  exact kb_X2_join_0 C hth ⟨hEv, hWd, va_S.rf⟩ hl hf
abbrev wc_X8_canStand : List Cond := Cond.code yX8_canStand cX8_canStand 2 (some .boolean) :: TG
abbrev rm_X8_canStand : Room := { frames := 2, cells := 0, slots := 0, locals := 100 }
theorem cd_X8_canStand : yX8_canStand.cls = RX8 ∧ yX8_canStand.cls ≠ "java/lang/invoke/MethodHandle" ∧ yX8_canStand.cls ≠ "java/lang/invoke/VarHandle" ∧ (parseMethodDescriptor yX8_canStand.desc).map (fun d => d.parameters.length) = some 2 := by decide +kernel
theorem dX8_canStand_0 : decode cX8_canStand 0 = .ok (.iload_n 0, 1) := by decide +kernel
theorem dX8_canStand_1 : decode cX8_canStand 1 = .ok (.ifCond .lt 9, 3) := by decide +kernel
theorem dX8_canStand_4 : decode cX8_canStand 4 = .ok (.iload_n 0, 1) := by decide +kernel
theorem dX8_canStand_5 : decode cX8_canStand 5 = .ok (.bipush 7, 2) := by decide +kernel
theorem dX8_canStand_7 : decode cX8_canStand 7 = .ok (.if_icmp .lt 5, 3) := by decide +kernel
theorem dX8_canStand_10 : decode cX8_canStand 10 = .ok (.iconst 0, 1) := by decide +kernel
theorem dX8_canStand_11 : decode cX8_canStand 11 = .ok (.ireturn, 1) := by decide +kernel
theorem dX8_canStand_12 : decode cX8_canStand 12 = .ok (.iload_n 1, 1) := by decide +kernel
theorem dX8_canStand_13 : decode cX8_canStand 13 = .ok (.getstatic 304, 3) := by decide +kernel
theorem dX8_canStand_16 : decode cX8_canStand 16 = .ok (.iload_n 0, 1) := by decide +kernel
theorem dX8_canStand_17 : decode cX8_canStand 17 = .ok (.iaload, 1) := by decide +kernel
theorem dX8_canStand_18 : decode cX8_canStand 18 = .ok (.if_icmp .lt 18, 3) := by decide +kernel
theorem dX8_canStand_21 : decode cX8_canStand 21 = .ok (.iload_n 1, 1) := by decide +kernel
theorem dX8_canStand_22 : decode cX8_canStand 22 = .ok (.getstatic 307, 3) := by decide +kernel
theorem dX8_canStand_25 : decode cX8_canStand 25 = .ok (.iload_n 0, 1) := by decide +kernel
theorem dX8_canStand_26 : decode cX8_canStand 26 = .ok (.iaload, 1) := by decide +kernel
theorem dX8_canStand_27 : decode cX8_canStand 27 = .ok (.iadd, 1) := by decide +kernel
theorem dX8_canStand_28 : decode cX8_canStand 28 = .ok (.iconst 3, 1) := by decide +kernel
theorem dX8_canStand_29 : decode cX8_canStand 29 = .ok (.if_icmp .gt 7, 3) := by decide +kernel
theorem dX8_canStand_32 : decode cX8_canStand 32 = .ok (.iconst 1, 1) := by decide +kernel
theorem dX8_canStand_33 : decode cX8_canStand 33 = .ok (.goto 4, 3) := by decide +kernel
theorem dX8_canStand_36 : decode cX8_canStand 36 = .ok (.iconst 0, 1) := by decide +kernel
theorem dX8_canStand_37 : decode cX8_canStand 37 = .ok (.ireturn, 1) := by decide +kernel
set_option maxRecDepth 100000 in
set_option maxHeartbeats 4000000 in
theorem kb_X8_canStand_0 {x0 : Int32} {x1 : Int32} {out : Int32} {H : Heap} {locs : List Loc} {ls : Array Slot} (C : CX p s m args meth c cX8_canStand 2 RX8 wc_X8_canStand (some .boolean))  (hG : Gd s G A N B E X H locs) (hl : lv_has ls 2 [(0, .int x0), (1, .int x1)]) (hf : sh_X8_canStand x0 x1 = some out) :
    W p l e rm_X8_canStand s m args below meth c H locs 0 0 (MQ below (CPost G A N B E X (some (.int out))) args s 0 0 A) (F0 m 0 ls []) := by
  refine lv_iload_n C.1 C.2.1 dX8_canStand_0 rfl (lv_at hl 0 rfl) ?_
  rcases of_ite hf with ⟨c1, hf⟩ | ⟨c1, hf⟩
  · refine lv_if_lt (tgt := 10) C.1 C.2.1 dX8_canStand_1 (by decide) (fun _ => ?_) (fun q => absurd c1 q)
    refine lv_iconst (v := nI 0) C.1 C.2.1 dX8_canStand_10 (by decide) ?_
    obtain rfl := Option.some.inj hf
    exact r_zret C hG (Or.inl rfl) dX8_canStand_11
  · refine lv_if_lt (tgt := 10) C.1 C.2.1 dX8_canStand_1 (by decide) (fun q => absurd q c1) (fun _ => ?_)
    refine lv_iload_n C.1 C.2.1 dX8_canStand_4 rfl (lv_at hl 0 rfl) ?_
    refine lv_bipush (v := nI 7) C.1 C.2.1 dX8_canStand_5 (by decide) ?_
    rcases of_ite hf with ⟨c2, hf⟩ | ⟨c2, hf⟩
    · refine lv_icmp_lt (tgt := 12) C.1 C.2.1 dX8_canStand_7 (by decide) (fun _ => ?_) (fun q => absurd c2 q)
      refine lv_iload_n C.1 C.2.1 dX8_canStand_12 rfl (lv_at hl 1 rfl) ?_
      refine r_gets C hG hG.1.2.2.2.1 (List.mem_cons_of_mem _ tg_2_233) dX8_canStand_13 ?_
      refine lv_iload_n C.1 C.2.1 dX8_canStand_16 rfl (lv_at hl 0 rfl) ?_
      obtain ⟨v3, hv3, hf⟩ := of_bind hf
      obtain ⟨bv3, ev3⟩ := of_tbl7 hv3
      refine r_ti C hG hG.1.2.2.2.1 bv3 dX8_canStand_17 ?_
      refine r_top ev3 ?_
      rcases of_ite hf with ⟨c4, hf⟩ | ⟨c4, hf⟩
      · refine lv_icmp_lt (tgt := 36) C.1 C.2.1 dX8_canStand_18 (by decide) (fun _ => ?_) (fun q => absurd c4 q)
        refine lv_iconst (v := nI 0) C.1 C.2.1 dX8_canStand_36 (by decide) ?_
        obtain rfl := Option.some.inj hf
        exact r_zret C hG (Or.inl rfl) dX8_canStand_37
      · refine lv_icmp_lt (tgt := 36) C.1 C.2.1 dX8_canStand_18 (by decide) (fun q => absurd q c4) (fun _ => ?_)
        refine lv_iload_n C.1 C.2.1 dX8_canStand_21 rfl (lv_at hl 1 rfl) ?_
        refine r_gets C hG hG.1.2.2.2.2.1 (List.mem_cons_of_mem _ tg_2_235) dX8_canStand_22 ?_
        refine lv_iload_n C.1 C.2.1 dX8_canStand_25 rfl (lv_at hl 0 rfl) ?_
        obtain ⟨v5, hv5, hf⟩ := of_bind hf
        obtain ⟨bv5, ev5⟩ := of_tbl7 hv5
        refine r_ti C hG hG.1.2.2.2.2.1 bv5 dX8_canStand_26 ?_
        refine r_top ev5 ?_
        refine lv_iadd C.1 C.2.1 dX8_canStand_27 ?_
        refine lv_iconst (v := nI 3) C.1 C.2.1 dX8_canStand_28 (by decide) ?_
        rcases of_ite hf with ⟨c6, hf⟩ | ⟨c6, hf⟩
        · refine lv_icmp_gt (tgt := 36) C.1 C.2.1 dX8_canStand_29 (by decide) (fun _ => ?_) (fun q => absurd c6 q)
          refine lv_iconst (v := nI 0) C.1 C.2.1 dX8_canStand_36 (by decide) ?_
          obtain rfl := Option.some.inj hf
          exact r_zret C hG (Or.inl rfl) dX8_canStand_37
        · refine lv_icmp_gt (tgt := 36) C.1 C.2.1 dX8_canStand_29 (by decide) (fun q => absurd q c6) (fun _ => ?_)
          refine lv_iconst (v := nI 1) C.1 C.2.1 dX8_canStand_32 (by decide) ?_
          refine lv_goto (tgt := 37) C.1 C.2.1 dX8_canStand_33 (by decide) ?_
          obtain rfl := Option.some.inj hf
          exact r_zret C hG (Or.inr rfl) dX8_canStand_37
    · refine lv_icmp_lt (tgt := 12) C.1 C.2.1 dX8_canStand_7 (by decide) (fun q => absurd q c2) (fun _ => ?_)
      refine lv_iconst (v := nI 0) C.1 C.2.1 dX8_canStand_10 (by decide) ?_
      obtain rfl := Option.some.inj hf
      exact r_zret C hG (Or.inl rfl) dX8_canStand_11
set_option maxRecDepth 100000 in
set_option maxHeartbeats 4000000 in
theorem mt_X8_canStand (l : Launch) {G : GG} {A : Nat → Prop} {N B : Nat} {E : Nat → va_E} {X : va_W} {x0 : Int32} {x1 : Int32} {out : Int32}  (hf : sh_X8_canStand x0 x1 = some out) : MetW l yX8_canStand wc_X8_canStand rm_X8_canStand G A N B E X [.int x0, .int x1] (some (.int out)) E := by
  refine Met.ofW (cc := cX8_canStand) (maxL := 2) (ret := (some .boolean)) (by decide) rfl ?_
  intro p e s m args below meth c s₁ B0 hml hv
  obtain ⟨rfl, hEv, hWd⟩ := hv
  have C : CX p s m _ meth c cX8_canStand 2 RX8 wc_X8_canStand (some .boolean) := ⟨B0.exec, B0.bytes, hml, findClass_of_methodNamed B0.named, atoms_spec (ws := wc_X8_canStand) B0.pre, B0.returns, B0.notSynchronized⟩
  have hl := lv_entry [.int x0, .int x1] (n := 2) (Nat.le_of_ble_eq_true rfl)
  rw [lg_entry_eq]
  generalize (lg_sl [.int x0, .int x1] ++ List.replicate (2 - (lg_sl [.int x0, .int x1]).length) Slot.unset).toArray = ls at hl ⊢
  have hl : lv_has ls 2 [(0, .int x0), (1, .int x1)] := hl
  exact kb_X8_canStand_0 C  ⟨hEv, hWd, va_S.rf⟩ hl hf
abbrev wc_X2_step : List Cond := Cond.code yX2_step cX2_step 3 none :: TG
abbrev rm_X2_step : Room := { frames := 4, cells := 0, slots := 0, locals := 147 }
theorem cd_X2_step : yX2_step.cls = RX2 ∧ yX2_step.cls ≠ "java/lang/invoke/MethodHandle" ∧ yX2_step.cls ≠ "java/lang/invoke/VarHandle" ∧ (parseMethodDescriptor yX2_step.desc).map (fun d => d.parameters.length) = some 1 := by decide +kernel
theorem dX2_step_0 : decode cX2_step 0 = .ok (.iload_n 1, 1) := by decide +kernel
theorem dX2_step_1 : decode cX2_step 1 = .ok (.aload_n 0, 1) := by decide +kernel
theorem dX2_step_2 : decode cX2_step 2 = .ok (.getfield 35, 3) := by decide +kernel
theorem dX2_step_5 : decode cX2_step 5 = .ok (.invokestatic 51, 3) := by decide +kernel
theorem dX2_step_8 : decode cX2_step 8 = .ok (.ifCond .ne 4, 3) := by decide +kernel
theorem dX2_step_11 : decode cX2_step 11 = .ok (.return_, 1) := by decide +kernel
theorem dX2_step_12 : decode cX2_step 12 = .ok (.iload_n 1, 1) := by decide +kernel
theorem dX2_step_13 : decode cX2_step 13 = .ok (.tableswitch 129 0 6 #[43, 50, 79, 129, 102, 129, 109], 43) := by decide +kernel
theorem dX2_step_56 : decode cX2_step 56 = .ok (.aload_n 0, 1) := by decide +kernel
theorem dX2_step_57 : decode cX2_step 57 = .ok (.invokevirtual 55, 3) := by decide +kernel
theorem dX2_step_60 : decode cX2_step 60 = .ok (.goto 82, 3) := by decide +kernel
theorem dX2_step_63 : decode cX2_step 63 = .ok (.aload_n 0, 1) := by decide +kernel
theorem dX2_step_64 : decode cX2_step 64 = .ok (.aload_n 0, 1) := by decide +kernel
theorem dX2_step_65 : decode cX2_step 65 = .ok (.getfield 22, 3) := by decide +kernel
theorem dX2_step_68 : decode cX2_step 68 = .ok (.aload_n 0, 1) := by decide +kernel
theorem dX2_step_69 : decode cX2_step 69 = .ok (.getfield 35, 3) := by decide +kernel
theorem dX2_step_72 : decode cX2_step 72 = .ok (.iconst 2, 1) := by decide +kernel
theorem dX2_step_73 : decode cX2_step 73 = .ok (.isub, 1) := by decide +kernel
theorem dX2_step_74 : decode cX2_step 74 = .ok (.iaload, 1) := by decide +kernel
theorem dX2_step_75 : decode cX2_step 75 = .ok (.aload_n 0, 1) := by decide +kernel
theorem dX2_step_76 : decode cX2_step 76 = .ok (.getfield 22, 3) := by decide +kernel
theorem dX2_step_79 : decode cX2_step 79 = .ok (.aload_n 0, 1) := by decide +kernel
theorem dX2_step_80 : decode cX2_step 80 = .ok (.getfield 35, 3) := by decide +kernel
theorem dX2_step_83 : decode cX2_step 83 = .ok (.iconst 1, 1) := by decide +kernel
theorem dX2_step_84 : decode cX2_step 84 = .ok (.isub, 1) := by decide +kernel
theorem dX2_step_85 : decode cX2_step 85 = .ok (.iaload, 1) := by decide +kernel
theorem dX2_step_86 : decode cX2_step 86 = .ok (.invokevirtual 58, 3) := by decide +kernel
theorem dX2_step_89 : decode cX2_step 89 = .ok (.goto 53, 3) := by decide +kernel
theorem dX2_step_92 : decode cX2_step 92 = .ok (.aload_n 0, 1) := by decide +kernel
theorem dX2_step_93 : decode cX2_step 93 = .ok (.getfield 22, 3) := by decide +kernel
theorem dX2_step_96 : decode cX2_step 96 = .ok (.aload_n 0, 1) := by decide +kernel
theorem dX2_step_97 : decode cX2_step 97 = .ok (.getfield 35, 3) := by decide +kernel
theorem dX2_step_100 : decode cX2_step 100 = .ok (.aload_n 0, 1) := by decide +kernel
theorem dX2_step_101 : decode cX2_step 101 = .ok (.getfield 22, 3) := by decide +kernel
theorem dX2_step_104 : decode cX2_step 104 = .ok (.aload_n 0, 1) := by decide +kernel
theorem dX2_step_105 : decode cX2_step 105 = .ok (.getfield 35, 3) := by decide +kernel
theorem dX2_step_108 : decode cX2_step 108 = .ok (.iconst 1, 1) := by decide +kernel
theorem dX2_step_109 : decode cX2_step 109 = .ok (.isub, 1) := by decide +kernel
theorem dX2_step_110 : decode cX2_step 110 = .ok (.iaload, 1) := by decide +kernel
theorem dX2_step_111 : decode cX2_step 111 = .ok (.iastore, 1) := by decide +kernel
theorem dX2_step_112 : decode cX2_step 112 = .ok (.goto 30, 3) := by decide +kernel
theorem dX2_step_115 : decode cX2_step 115 = .ok (.aload_n 0, 1) := by decide +kernel
theorem dX2_step_116 : decode cX2_step 116 = .ok (.invokevirtual 62, 3) := by decide +kernel
theorem dX2_step_119 : decode cX2_step 119 = .ok (.goto 23, 3) := by decide +kernel
theorem dX2_step_122 : decode cX2_step 122 = .ok (.aload_n 0, 1) := by decide +kernel
theorem dX2_step_123 : decode cX2_step 123 = .ok (.getfield 18, 3) := by decide +kernel
theorem dX2_step_126 : decode cX2_step 126 = .ok (.aload_n 0, 1) := by decide +kernel
theorem dX2_step_127 : decode cX2_step 127 = .ok (.getfield 22, 3) := by decide +kernel
theorem dX2_step_130 : decode cX2_step 130 = .ok (.aload_n 0, 1) := by decide +kernel
theorem dX2_step_131 : decode cX2_step 131 = .ok (.getfield 35, 3) := by decide +kernel
theorem dX2_step_134 : decode cX2_step 134 = .ok (.iconst 1, 1) := by decide +kernel
theorem dX2_step_135 : decode cX2_step 135 = .ok (.isub, 1) := by decide +kernel
theorem dX2_step_136 : decode cX2_step 136 = .ok (.iaload, 1) := by decide +kernel
theorem dX2_step_137 : decode cX2_step 137 = .ok (.iconst 1, 1) := by decide +kernel
theorem dX2_step_138 : decode cX2_step 138 = .ok (.bastore, 1) := by decide +kernel
theorem dX2_step_139 : decode cX2_step 139 = .ok (.goto 3, 3) := by decide +kernel
theorem dX2_step_142 : decode cX2_step 142 = .ok (.aload_n 0, 1) := by decide +kernel
theorem dX2_step_143 : decode cX2_step 143 = .ok (.getfield 35, 3) := by decide +kernel
theorem dX2_step_146 : decode cX2_step 146 = .ok (.aload_n 0, 1) := by decide +kernel
theorem dX2_step_147 : decode cX2_step 147 = .ok (.getfield 35, 3) := by decide +kernel
theorem dX2_step_150 : decode cX2_step 150 = .ok (.getstatic 65, 3) := by decide +kernel
theorem dX2_step_153 : decode cX2_step 153 = .ok (.iload_n 1, 1) := by decide +kernel
theorem dX2_step_154 : decode cX2_step 154 = .ok (.iaload, 1) := by decide +kernel
theorem dX2_step_155 : decode cX2_step 155 = .ok (.iadd, 1) := by decide +kernel
theorem dX2_step_156 : decode cX2_step 156 = .ok (.invokestatic 68, 3) := by decide +kernel
theorem dX2_step_159 : decode cX2_step 159 = .ok (.iconst 1, 1) := by decide +kernel
theorem dX2_step_160 : decode cX2_step 160 = .ok (.isub, 1) := by decide +kernel
theorem dX2_step_161 : decode cX2_step 161 = .ok (.istore_n 2, 1) := by decide +kernel
theorem dX2_step_162 : decode cX2_step 162 = .ok (.aload_n 0, 1) := by decide +kernel
theorem dX2_step_163 : decode cX2_step 163 = .ok (.getfield 9, 3) := by decide +kernel
theorem dX2_step_166 : decode cX2_step 166 = .ok (.aload_n 0, 1) := by decide +kernel
theorem dX2_step_167 : decode cX2_step 167 = .ok (.getfield 22, 3) := by decide +kernel
theorem dX2_step_170 : decode cX2_step 170 = .ok (.iload_n 2, 1) := by decide +kernel
theorem dX2_step_171 : decode cX2_step 171 = .ok (.iaload, 1) := by decide +kernel
theorem dX2_step_172 : decode cX2_step 172 = .ok (.dup2, 1) := by decide +kernel
theorem dX2_step_173 : decode cX2_step 173 = .ok (.iaload, 1) := by decide +kernel
theorem dX2_step_174 : decode cX2_step 174 = .ok (.getstatic 74, 3) := by decide +kernel
theorem dX2_step_177 : decode cX2_step 177 = .ok (.iload_n 1, 1) := by decide +kernel
theorem dX2_step_178 : decode cX2_step 178 = .ok (.iaload, 1) := by decide +kernel
theorem dX2_step_179 : decode cX2_step 179 = .ok (.iadd, 1) := by decide +kernel
theorem dX2_step_180 : decode cX2_step 180 = .ok (.iastore, 1) := by decide +kernel
theorem dX2_step_181 : decode cX2_step 181 = .ok (.aload_n 0, 1) := by decide +kernel
theorem dX2_step_182 : decode cX2_step 182 = .ok (.dup, 1) := by decide +kernel
theorem dX2_step_183 : decode cX2_step 183 = .ok (.getfield 35, 3) := by decide +kernel
theorem dX2_step_186 : decode cX2_step 186 = .ok (.getstatic 65, 3) := by decide +kernel
theorem dX2_step_189 : decode cX2_step 189 = .ok (.iload_n 1, 1) := by decide +kernel
theorem dX2_step_190 : decode cX2_step 190 = .ok (.iaload, 1) := by decide +kernel
theorem dX2_step_191 : decode cX2_step 191 = .ok (.iadd, 1) := by decide +kernel
theorem dX2_step_192 : decode cX2_step 192 = .ok (.putfield 35, 3) := by decide +kernel
theorem dX2_step_195 : decode cX2_step 195 = .ok (.return_, 1) := by decide +kernel
set_option maxRecDepth 100000 in
set_option maxHeartbeats 4000000 in
theorem kb_X2_step_142 {th : Nat} {x1 : Int32} {w : WX} {out : WX} {H : Heap} {locs : List Loc} {ls : Array Slot} (C : CX p s m args meth c cX2_step 3 RX2 wc_X2_step none) (hth : KDx th = (2, 8)) (hG : Gd s G A 153 B (entX G B w) X H locs) (hl : lv_has ls 3 [(0, .ref (B + th)), (1, .int x1)]) (hf : sh_X2_step_j142 th x1 w = some out) :
    W p l e rm_X2_step s m args below meth c H locs 0 0 (MQ below (CPost G A 153 B (entX G B out) X none) args s 0 0 A) (F0 m 142 ls []) := by
  refine lv_aload_n C.1 C.2.1 dX2_step_142 rfl (lv_at hl 0 rfl) ?_
  refine gf_X2_35 C hG hth dX2_step_143 ?_
  refine lv_aload_n C.1 C.2.1 dX2_step_146 rfl (lv_at hl 0 rfl) ?_
  refine gf_X2_35 C hG hth dX2_step_147 ?_
  refine r_getsN C hG hG.1.2.2.2.2.1 nn_57 dX2_step_150 ?_
  refine lv_iload_n C.1 C.2.1 dX2_step_153 rfl (lv_at hl 1 rfl) ?_
  obtain ⟨v1, hv1, hf⟩ := of_bind hf
  obtain ⟨bv1, ev1⟩ := of_tbl7 hv1
  refine r_ti C hG hG.1.2.2.2.2.1 bv1 dX2_step_154 ?_
  refine r_top ev1 ?_
  refine lv_iadd C.1 C.2.1 dX2_step_155 ?_
  refine r_max C hl.1 (List.mem_cons_of_mem _ tg_3_35) (List.mem_cons_of_mem _ tg_2_211) (List.mem_cons_of_mem _ tg_1_12) (List.mem_cons_of_mem _ tg_2_212) (Nat.le_of_ble_eq_true rfl) (Nat.le_of_ble_eq_true rfl) dX2_step_156 ?_
  refine lv_iconst (v := nI 1) C.1 C.2.1 dX2_step_159 (by decide) ?_
  refine lv_isub C.1 C.2.1 dX2_step_160 ?_
  obtain ⟨v2, ev2, hf⟩ := of_letv hf
  refine r_top ev2 ?_
  refine lv_istore_n (lv' := [(2, .int v2), (0, .ref (B + th)), (1, .int x1)]) C.1 C.2.1 dX2_step_161 rfl hl (by decide) rfl (fun ls hl => ?_)
  refine lv_aload_n C.1 C.2.1 dX2_step_162 rfl (lv_at hl 1 rfl) ?_
  refine gf_X2_9 C hG hth dX2_step_163 ?_
  refine lv_aload_n C.1 C.2.1 dX2_step_166 rfl (lv_at hl 1 rfl) ?_
  refine gf_X2_22 C hG hth dX2_step_167 ?_
  refine lv_iload_n C.1 C.2.1 dX2_step_170 rfl (lv_at hl 0 rfl) ?_
  obtain ⟨v3, hv3, hf⟩ := of_bind hf
  obtain ⟨bv3, ev3⟩ := of_ldS hv3
  refine r_iald C hG (c0 := (th + 4)) (kdx_lt (kx_2_5 hth) (by decide)) (entX_I (kx_2_5 hth)) bv3 dX2_step_171 ?_
  refine r_top ev3 ?_
  refine lv_dup2_11 C.1 C.2.1 dX2_step_172 rfl rfl ?_
  obtain ⟨v4, hv4, hf⟩ := of_bind hf
  obtain ⟨bv4, ev4⟩ := of_ldS hv4
  refine r_iald C hG (c0 := (th + 1)) (kdx_lt (kx_2_2 hth) (by decide)) (entX_I (kx_2_2 hth)) bv4 dX2_step_173 ?_
  refine r_top ev4 ?_
  refine r_getsN C hG hG.1.2.2.2.2.2 nn_58 dX2_step_174 ?_
  refine lv_iload_n C.1 C.2.1 dX2_step_177 rfl (lv_at hl 2 rfl) ?_
  obtain ⟨v5, hv5, hf⟩ := of_bind hf
  obtain ⟨bv5, ev5⟩ := of_tbl7 hv5
  refine r_ti C hG hG.1.2.2.2.2.2 bv5 dX2_step_178 ?_
  refine r_top ev5 ?_
  refine lv_iadd C.1 C.2.1 dX2_step_179 ?_
  obtain ⟨w6, hw6, hf⟩ := of_bind hf
  obtain ⟨bw6, ew6⟩ := of_stX hw6
  refine r_iast C hG (c0 := (th + 1)) (kdx_lt (kx_2_2 hth) (by decide)) (entX_I (kx_2_2 hth)) bw6 (E' := (entX G B w6)) (by rw [ew6]; exact upX_I (kx_2_2 hth)) dX2_step_180 (fun H locs hG => ?_)
  refine lv_aload_n C.1 C.2.1 dX2_step_181 rfl (lv_at hl 1 rfl) ?_
  refine lv_dup C.1 C.2.1 dX2_step_182 rfl ?_
  refine gf_X2_35 C hG hth dX2_step_183 ?_
  refine r_getsN C hG hG.1.2.2.2.2.1 nn_57 dX2_step_186 ?_
  refine lv_iload_n C.1 C.2.1 dX2_step_189 rfl (lv_at hl 2 rfl) ?_
  obtain ⟨v7, hv7, hf⟩ := of_bind hf
  obtain ⟨bv7, ev7⟩ := of_tbl7 hv7
  refine r_ti C hG hG.1.2.2.2.2.1 bv7 dX2_step_190 ?_
  refine r_top ev7 ?_
  refine lv_iadd C.1 C.2.1 dX2_step_191 ?_
  obtain ⟨w8, ew8, hf⟩ := of_letv hf
  refine pf_X2_35 C hG hth dX2_step_192 (fun H locs hG => ?_)
  rw [← ew8] at hG
  obtain rfl := Option.some.inj hf
  exact r_vret C hG dX2_step_195
set_option maxRecDepth 100000 in
set_option maxHeartbeats 4000000 in
theorem kb_X2_step_0 {th : Nat} {x1 : Int32} {w : WX} {out : WX} {H : Heap} {locs : List Loc} {ls : Array Slot} (C : CX p s m args meth c cX2_step 3 RX2 wc_X2_step none) (hth : KDx th = (2, 8)) (hG : Gd s G A 153 B (entX G B w) X H locs) (hl : lv_has ls 3 [(0, .ref (B + th)), (1, .int x1)]) (hf : sh_X2_step th x1 w = some out) :
    W p l e rm_X2_step s m args below meth c H locs 0 0 (MQ below (CPost G A 153 B (entX G B out) X none) args s 0 0 A) (F0 m 0 ls []) := by
  refine lv_iload_n C.1 C.2.1 dX2_step_0 rfl (lv_at hl 1 rfl) ?_
  refine lv_aload_n C.1 C.2.1 dX2_step_1 rfl (lv_at hl 0 rfl) ?_
  refine gf_X2_35 C hG hth dX2_step_2 ?_
  obtain ⟨v1, hv1, hf⟩ := of_bind hf
  refine r_callSN1 C hG hl.1 (As := [.int x1, .int (w.1 th 1)]) (mt_X8_canStand l  hv1) (va_cnB 2 C.2.2.2.2.1 (gd_all tg_2_232) rfl rfl rfl (hG.1.2.1 _ nn_56) (C.2.2.2.2.1 _ (List.mem_cons_of_mem _ tg_1_1)) cd_X8_canStand.2 ⟨Nat.le_of_ble_eq_true rfl, Nat.le_of_ble_eq_true rfl⟩) (C.2.2.2.2.1 _ (List.mem_cons_of_mem _ tg_2_231)) rfl rfl (Nat.le_of_ble_eq_true rfl) dX2_step_5 (fun H locs hG => ?_)
  rcases of_ite hf with ⟨c2, hf⟩ | ⟨c2, hf⟩
  · refine lv_if_ne (tgt := 12) C.1 C.2.1 dX2_step_8 (by decide) (fun q => absurd c2 q) (fun _ => ?_)
    obtain rfl := Option.some.inj hf
    exact r_vret C hG dX2_step_11
  · refine lv_if_ne (tgt := 12) C.1 C.2.1 dX2_step_8 (by decide) (fun _ => ?_) (fun q => absurd q c2)
    refine lv_iload_n C.1 C.2.1 dX2_step_12 rfl (lv_at hl 1 rfl) ?_
    rcases of_ite hf with ⟨c3, hf⟩ | ⟨c3, hf⟩
    · refine lv_tableIn (tgt := 56) (off := 43) C.1 C.2.1 dX2_step_13 (by rw [c3]; decide) (by rw [c3]; decide) (by rw [c3]; rfl) (by decide) ?_
      refine lv_aload_n C.1 C.2.1 dX2_step_56 rfl (lv_at hl 0 rfl) ?_
      obtain ⟨w4, hw4, hf⟩ := of_bind hf
      refine r_callV0 C hG hl.1 (c0 := th) (As := []) (kdx_lt hth (by decide)) (entX_O2 hth) rfl (mt_X2_begin l hth hw4) (cwV 0 C.2.2.2.2.1 (gd_V tg_3_26 tg_3_28 tgp_8 tg_1_8 tg_3_29) rfl rfl rfl cd_X2_begin ⟨Nat.le_of_ble_eq_true rfl, Nat.le_of_ble_eq_true rfl⟩) rfl rfl (Nat.le_of_ble_eq_true rfl) dX2_step_57 (fun H locs hG => ?_)
      refine lv_goto (tgt := 142) C.1 C.2.1 dX2_step_60 (by decide) ?_
      exact kb_X2_step_142 C hth hG hl hf
    · skip
      rcases of_ite hf with ⟨c5, hf⟩ | ⟨c5, hf⟩
      · refine lv_tableIn (tgt := 63) (off := 50) C.1 C.2.1 dX2_step_13 (by rw [c5]; decide) (by rw [c5]; decide) (by rw [c5]; rfl) (by decide) ?_
        refine lv_aload_n C.1 C.2.1 dX2_step_63 rfl (lv_at hl 0 rfl) ?_
        refine lv_aload_n C.1 C.2.1 dX2_step_64 rfl (lv_at hl 0 rfl) ?_
        refine gf_X2_22 C hG hth dX2_step_65 ?_
        refine lv_aload_n C.1 C.2.1 dX2_step_68 rfl (lv_at hl 0 rfl) ?_
        refine gf_X2_35 C hG hth dX2_step_69 ?_
        refine lv_iconst (v := nI 2) C.1 C.2.1 dX2_step_72 (by decide) ?_
        refine lv_isub C.1 C.2.1 dX2_step_73 ?_
        obtain ⟨v6, hv6, hf⟩ := of_bind hf
        obtain ⟨bv6, ev6⟩ := of_ldS hv6
        refine r_iald C hG (c0 := (th + 4)) (kdx_lt (kx_2_5 hth) (by decide)) (entX_I (kx_2_5 hth)) bv6 dX2_step_74 ?_
        refine r_top ev6 ?_
        refine lv_aload_n C.1 C.2.1 dX2_step_75 rfl (lv_at hl 0 rfl) ?_
        refine gf_X2_22 C hG hth dX2_step_76 ?_
        refine lv_aload_n C.1 C.2.1 dX2_step_79 rfl (lv_at hl 0 rfl) ?_
        refine gf_X2_35 C hG hth dX2_step_80 ?_
        refine lv_iconst (v := nI 1) C.1 C.2.1 dX2_step_83 (by decide) ?_
        refine lv_isub C.1 C.2.1 dX2_step_84 ?_
        obtain ⟨v7, hv7, hf⟩ := of_bind hf
        obtain ⟨bv7, ev7⟩ := of_ldS hv7
        refine r_iald C hG (c0 := (th + 4)) (kdx_lt (kx_2_5 hth) (by decide)) (entX_I (kx_2_5 hth)) bv7 dX2_step_85 ?_
        refine r_top ev7 ?_
        obtain ⟨w8, hw8, hf⟩ := of_bind hf
        refine r_callV0 C hG hl.1 (c0 := th) (As := [.int v6, .int v7]) (kdx_lt hth (by decide)) (entX_O2 hth) rfl (mt_X2_join l hth hw8) (cwV 2 C.2.2.2.2.1 (gd_V tg_3_30 tg_3_32 tgp_9 tg_1_8 tg_3_33) rfl rfl rfl cd_X2_join ⟨Nat.le_of_ble_eq_true rfl, Nat.le_of_ble_eq_true rfl⟩) rfl rfl (Nat.le_of_ble_eq_true rfl) dX2_step_86 (fun H locs hG => ?_)
        refine lv_goto (tgt := 142) C.1 C.2.1 dX2_step_89 (by decide) ?_
        exact kb_X2_step_142 C hth hG hl hf
      · skip
        rcases of_ite hf with ⟨c9, hf⟩ | ⟨c9, hf⟩
        · refine lv_tableIn (tgt := 92) (off := 79) C.1 C.2.1 dX2_step_13 (by rw [c9]; decide) (by rw [c9]; decide) (by rw [c9]; rfl) (by decide) ?_
          refine lv_aload_n C.1 C.2.1 dX2_step_92 rfl (lv_at hl 0 rfl) ?_
          refine gf_X2_22 C hG hth dX2_step_93 ?_
          refine lv_aload_n C.1 C.2.1 dX2_step_96 rfl (lv_at hl 0 rfl) ?_
          refine gf_X2_35 C hG hth dX2_step_97 ?_
          refine lv_aload_n C.1 C.2.1 dX2_step_100 rfl (lv_at hl 0 rfl) ?_
          refine gf_X2_22 C hG hth dX2_step_101 ?_
          refine lv_aload_n C.1 C.2.1 dX2_step_104 rfl (lv_at hl 0 rfl) ?_
          refine gf_X2_35 C hG hth dX2_step_105 ?_
          refine lv_iconst (v := nI 1) C.1 C.2.1 dX2_step_108 (by decide) ?_
          refine lv_isub C.1 C.2.1 dX2_step_109 ?_
          obtain ⟨v10, hv10, hf⟩ := of_bind hf
          obtain ⟨bv10, ev10⟩ := of_ldS hv10
          refine r_iald C hG (c0 := (th + 4)) (kdx_lt (kx_2_5 hth) (by decide)) (entX_I (kx_2_5 hth)) bv10 dX2_step_110 ?_
          refine r_top ev10 ?_
          obtain ⟨w11, hw11, hf⟩ := of_bind hf
          obtain ⟨bw11, ew11⟩ := of_stX hw11
          refine r_iast C hG (c0 := (th + 4)) (kdx_lt (kx_2_5 hth) (by decide)) (entX_I (kx_2_5 hth)) bw11 (E' := (entX G B w11)) (by rw [ew11]; exact upX_I (kx_2_5 hth)) dX2_step_111 (fun H locs hG => ?_)
          refine lv_goto (tgt := 142) C.1 C.2.1 dX2_step_112 (by decide) ?_
          exact kb_X2_step_142 C hth hG hl hf
        · skip
          rcases of_ite hf with ⟨c12, hf⟩ | ⟨c12, hf⟩
          · refine lv_tableIn (tgt := 142) (off := 129) C.1 C.2.1 dX2_step_13 (by rw [c12]; decide) (by rw [c12]; decide) (by rw [c12]; rfl) (by decide) ?_
            exact kb_X2_step_142 C hth hG hl hf
          · skip
            rcases of_ite hf with ⟨c13, hf⟩ | ⟨c13, hf⟩
            · refine lv_tableIn (tgt := 115) (off := 102) C.1 C.2.1 dX2_step_13 (by rw [c13]; decide) (by rw [c13]; decide) (by rw [c13]; rfl) (by decide) ?_
              refine lv_aload_n C.1 C.2.1 dX2_step_115 rfl (lv_at hl 0 rfl) ?_
              obtain ⟨w14, hw14, hf⟩ := of_bind hf
              refine r_callV0 C hG hl.1 (c0 := th) (As := []) (kdx_lt hth (by decide)) (entX_O2 hth) rfl (mt_X2_exchangeLast l hth hw14) (cwV 0 C.2.2.2.2.1 (gd_V tg_3_40 tg_3_42 tgp_11 tg_1_8 tg_3_43) rfl rfl rfl cd_X2_exchangeLast ⟨Nat.le_of_ble_eq_true rfl, Nat.le_of_ble_eq_true rfl⟩) rfl rfl (Nat.le_of_ble_eq_true rfl) dX2_step_116 (fun H locs hG => ?_)
              refine lv_goto (tgt := 142) C.1 C.2.1 dX2_step_119 (by decide) ?_
              exact kb_X2_step_142 C hth hG hl hf
            · skip
              rcases of_ite hf with ⟨c15, hf⟩ | ⟨c15, hf⟩
              · refine lv_tableIn (tgt := 142) (off := 129) C.1 C.2.1 dX2_step_13 (by rw [c15]; decide) (by rw [c15]; decide) (by rw [c15]; rfl) (by decide) ?_
                exact kb_X2_step_142 C hth hG hl hf
              · skip
                rcases of_ite hf with ⟨c16, hf⟩ | ⟨c16, hf⟩
                · refine lv_tableIn (tgt := 122) (off := 109) C.1 C.2.1 dX2_step_13 (by rw [c16]; decide) (by rw [c16]; decide) (by rw [c16]; rfl) (by decide) ?_
                  refine lv_aload_n C.1 C.2.1 dX2_step_122 rfl (lv_at hl 0 rfl) ?_
                  refine gf_X2_18 C hG hth dX2_step_123 ?_
                  refine lv_aload_n C.1 C.2.1 dX2_step_126 rfl (lv_at hl 0 rfl) ?_
                  refine gf_X2_22 C hG hth dX2_step_127 ?_
                  refine lv_aload_n C.1 C.2.1 dX2_step_130 rfl (lv_at hl 0 rfl) ?_
                  refine gf_X2_35 C hG hth dX2_step_131 ?_
                  refine lv_iconst (v := nI 1) C.1 C.2.1 dX2_step_134 (by decide) ?_
                  refine lv_isub C.1 C.2.1 dX2_step_135 ?_
                  obtain ⟨v17, hv17, hf⟩ := of_bind hf
                  obtain ⟨bv17, ev17⟩ := of_ldS hv17
                  refine r_iald C hG (c0 := (th + 4)) (kdx_lt (kx_2_5 hth) (by decide)) (entX_I (kx_2_5 hth)) bv17 dX2_step_136 ?_
                  refine r_top ev17 ?_
                  refine lv_iconst (v := nI 1) C.1 C.2.1 dX2_step_137 (by decide) ?_
                  obtain ⟨w18, hw18, hf⟩ := of_bind hf
                  obtain ⟨bw18, ew18⟩ := of_stX hw18
                  refine r_zast C hG (c0 := (th + 3)) (kdx_lt (kx_2_4 hth) (by decide)) (entX_Z (kx_2_4 hth)) (Or.inr rfl) bw18 (E' := (entX G B w18)) (by rw [ew18]; exact upX_Z (kx_2_4 hth)) dX2_step_138 (fun H locs hG => ?_)
                  refine lv_goto (tgt := 142) C.1 C.2.1 dX2_step_139 (by decide) ?_
                  exact kb_X2_step_142 C hth hG hl hf
                · skip
                  refine lv_tableOut (tgt := 142) C.1 C.2.1 dX2_step_13 (sw_out (n := 7) (by decide) (lt_s (lt_s (lt_s (lt_s (lt_s (lt_s (lt_s lt_0 c3) c5) c9) c12) c13) c15) c16)) (by decide) ?_
                  exact kb_X2_step_142 C hth hG hl hf
set_option maxRecDepth 100000 in
set_option maxHeartbeats 4000000 in
theorem mt_X2_step (l : Launch) {G : GG} {A : Nat → Prop} {B : Nat} {X : va_W} {th : Nat} {x1 : Int32} {w : WX} {out : WX} (hth : KDx th = (2, 8)) (hf : sh_X2_step th x1 w = some out) : MetW l yX2_step wc_X2_step rm_X2_step G A 153 B (entX G B w) X [.ref (B + th), .int x1] none (entX G B out) := by
  refine Met.ofW (cc := cX2_step) (maxL := 3) (ret := none) (by decide) rfl ?_
  intro p e s m args below meth c s₁ B0 hml hv
  obtain ⟨rfl, hEv, hWd⟩ := hv
  have C : CX p s m _ meth c cX2_step 3 RX2 wc_X2_step none := ⟨B0.exec, B0.bytes, hml, findClass_of_methodNamed B0.named, atoms_spec (ws := wc_X2_step) B0.pre, B0.returns, B0.notSynchronized⟩
  have hl := lv_entry [.ref (B + th), .int x1] (n := 3) (Nat.le_of_ble_eq_true rfl)
  rw [lg_entry_eq]
  generalize (lg_sl [.ref (B + th), .int x1] ++ List.replicate (3 - (lg_sl [.ref (B + th), .int x1]).length) Slot.unset).toArray = ls at hl ⊢
  have hl : lv_has ls 3 [(0, .ref (B + th)), (1, .int x1)] := hl
  exact kb_X2_step_0 C hth ⟨hEv, hWd, va_S.rf⟩ hl hf
end
