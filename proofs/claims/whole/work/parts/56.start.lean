/-! how both stand to each other at first -/
theorem rel_0 : Rel w0 w0M := by
  have hd : ∀ (m : Nat → Int32) (o : Nat), Hd m o [] := fun m o i hi => absurd hi (Nat.not_lt_zero i)
  have hx : StX 1 [] (fun _ => []) [] w0 := ⟨⟨rfl, fun i hi => absurd hi (Nat.not_lt_zero i)⟩, fun i hi => ⟨⟨?_, ?_⟩, hd _ _⟩, rfl, fun i hi => absurd hi (Nat.not_lt_zero i)⟩
  · have hm : StM 1 [] (fun _ => []) [] w0M := ⟨⟨rfl, fun i hi => absurd hi (Nat.not_lt_zero i)⟩, fun i hi => ⟨rfl, hd _ _⟩, rfl, fun i hi => absurd hi (Nat.not_lt_zero i)⟩
    refine ⟨⟨[], fun _ => [], [], ⟨⟨Nat.zero_le _, fun i hi => absurd hi (Nat.not_lt_zero i)⟩, fun i hi => Sf.nil, ⟨Nat.zero_le _, fun i hi => absurd hi (Nat.not_lt_zero i)⟩⟩, hx, hm⟩, Or.inl ⟨rfl, rfl⟩, ⟨[], Ty.nil, ⟨rfl, hd _ _⟩, ⟨rfl, hd _ _⟩⟩, ⟨0, Nat.zero_le _, rfl, rfl, fun j hj => absurd hj (Nat.not_lt_zero j)⟩, fun i hi => ⟨rfl, Or.inl ?_⟩, ⟨fun i hi => Or.inl ⟨rfl, rfl⟩, Or.inl ⟨rfl, rfl⟩, Or.inl ⟨rfl, rfl⟩, Or.inl ⟨rfl, rfl⟩⟩, ⟨[], Sf.nil, ⟨rfl, rfl⟩, hd _ _⟩⟩
    show lz 4 i = -1
    exact if_pos hi
  · rw [w0_0 (by omega)]
    rfl
  · rw [w0_0 (by omega)]
    rfl
/-! the machine at the law's start -/
theorem st_tab {args : Array Value} {s : State} {A : Nat → Prop} {n d : String} {ty : FieldType} {f : Nat → Int32} (hA : ∀ a : Nat, a < s.heap.size → ¬ A a) (hl : (Cond.laysStatic "SurfaceSums" n d).before args s = true) (hini : (Cond.initialized "SurfaceSums").before args s = true) (harr : (Cond.arrayOf (.static "SurfaceSums" n d) ty).before args s = true) (hlen : (Cond.eq (.length (.static "SurfaceSums" n d)) (.int 7)).before args s = true) (hel : ∀ j : Nat, j < 7 → (Cond.eq (.elem (.static "SurfaceSums" n d) (.int (Int32.ofNat j))) (.int (f j))).before args s = true) : ∃ t, Stt1 ty n d t f A s s.heap := by
  obtain ⟨t, h1, h2⟩ := va_Tof (N := 7) (f := fun j => .int (f j)) (A := A) (by decide) harr (va_eqt hlen) (fun j hj => va_eqt (hel j hj)) hA
  exact ⟨t, va_Zof hl hini h1 hA, h2⟩
theorem st_Ev {p : Program} {s : State} {m : MethodId} {meth : Method} {c : Code} {b L : Nat} {xs : Nat → Int32} (hts : ∀ w ∈ lw_tbl, w.before #[Value.ref b] s = true) (hgv : (Jvm.Cond.and given_1 narrow_1).before #[Value.ref b] s = true) : ∃ G : GG, Ev G (fun q => s.heap.size ≤ q) s s.heap ∧ AOs G s := by
  have hA : ∀ a : Nat, a < s.heap.size → ¬ (fun q : Nat => s.heap.size ≤ q) a := fun a h => Nat.not_le.mpr h
  have hs := flat_of_before _ hgv
  have ht : ∀ w ∈ TG, w.before #[Value.ref b] s = true := fun w hw => hts w (tg_tbl hw)
  have tb : ∀ {w : Cond}, w ∈ tables_1 → w.before #[Value.ref b] s = true := fun h => hts _ (List.mem_append_right _ h)
  have ini := ht _ tg_1_1
  obtain ⟨t1, s1⟩ := st_tab (n := "LETTERS") (d := "[C") (ty := .char) (f := sLET) hA (tb (mt_2 (List.mem_of_getElem? (i := 219) rfl))) ini (hs _ (by decide +kernel)) (hs _ (by decide +kernel)) (fun j hj => by
    rcases (show j = 0 ∨ j = 1 ∨ j = 2 ∨ j = 3 ∨ j = 4 ∨ j = 5 ∨ j = 6 by omega) with rfl | rfl | rfl | rfl | rfl | rfl | rfl <;> exact hs _ (by decide +kernel))
  obtain ⟨t2, s2⟩ := st_tab (n := "NEEDS") (d := "[I") (ty := .int) (f := sNEEDS) hA (tb (mt_2 (List.mem_of_getElem? (i := 234) rfl))) ini (hs _ (by decide +kernel)) (hs _ (by decide +kernel)) (fun j hj => by
    rcases (show j = 0 ∨ j = 1 ∨ j = 2 ∨ j = 3 ∨ j = 4 ∨ j = 5 ∨ j = 6 by omega) with rfl | rfl | rfl | rfl | rfl | rfl | rfl <;> exact hs _ (by decide +kernel))
  obtain ⟨t3, s3⟩ := st_tab (n := "ADDS") (d := "[I") (ty := .int) (f := sADDS) hA (tb (mt_2 (List.mem_of_getElem? (i := 214) rfl))) ini (hs _ (by decide +kernel)) (hs _ (by decide +kernel)) (fun j hj => by
    rcases (show j = 0 ∨ j = 1 ∨ j = 2 ∨ j = 3 ∨ j = 4 ∨ j = 5 ∨ j = 6 by omega) with rfl | rfl | rfl | rfl | rfl | rfl | rfl <;> exact hs _ (by decide +kernel))
  obtain ⟨t4, s4⟩ := st_tab (n := "EULER") (d := "[I") (ty := .int) (f := sEULER) hA (tb (mt_3 (List.mem_of_getElem? (i := 46) rfl))) ini (hs _ (by decide +kernel)) (hs _ (by decide +kernel)) (fun j hj => by
    rcases (show j = 0 ∨ j = 1 ∨ j = 2 ∨ j = 3 ∨ j = 4 ∨ j = 5 ∨ j = 6 by omega) with rfl | rfl | rfl | rfl | rfl | rfl | rfl <;> exact hs _ (by decide +kernel))
  obtain ⟨c0, i0, k0⟩ := u_known (C := RX0) (T := TX0) (N := 13) (n := 13) ht uw_X0 (ht _ tg_1_53)
  obtain ⟨c1, i1, k1⟩ := u_known (C := RX1) (T := TX1) (N := 2) (n := 2) ht uw_X1 (ht _ tg_1_170)
  obtain ⟨c2, i2, k2⟩ := u_known (C := RX2) (T := TX2) (N := 8) (n := 8) ht uw_X2 (ht _ tg_1_191)
  obtain ⟨c3, i3, k3⟩ := u_known (C := RX3) (T := TX3) (N := 3) (n := 3) ht uw_X3 (ht _ tg_1_33)
  obtain ⟨c4, i4, k4⟩ := u_known (C := RX4) (T := TX4) (N := 4) (n := 4) ht uw_X4 (ht _ tg_1_23)
  obtain ⟨c5, i5, k5⟩ := u_known (C := RX5) (T := TX5) (N := 5) (n := 5) ht uw_X5 (ht _ tg_1_228)
  obtain ⟨c6, i6, k6⟩ := u_known (C := RX6) (T := TX6) (N := 3) (n := 3) ht uw_X6 (ht _ tg_1_116)
  obtain ⟨c7, i7, k7⟩ := u_known (C := RX7) (T := TX7) (N := 2) (n := 2) ht uw_X7 (ht _ tg_1_156)
  obtain ⟨c8, i8, k8⟩ := u_known (C := RX8) (T := TX8) (N := 13) (n := 13) ht uw_X8 (ht _ tg_1_15)
  obtain ⟨c9, i9, k9⟩ := u_known (C := RX9) (T := TX9) (N := 35) (n := 35) ht uw_X9 (ht _ tg_4_79)
  have aI := Cond.arrayClass_spec (ht _ tg_1_52)
  have aZ := Cond.arrayClass_spec (ht _ tg_1_226)
  have oA : (Cond.arrayOver (.object "SurfaceSums$Algebra")).before #[Value.ref b] s = true := tb (mt_1 (List.mem_of_getElem? (i := 29) rfl))
  have oS : (Cond.arrayOver (.object "SurfaceSums$Surface")).before #[Value.ref b] s = true := tb (mt_1 (List.mem_of_getElem? (i := 31) rfl))
  have oR : (Cond.arrayOver (.array .int)).before #[Value.ref b] s = true := tb (mt_1 (List.mem_of_getElem? (i := 176) rfl))
  obtain ⟨gi, ki, ci, ai1, ai2, ai3⟩ := aI
  obtain ⟨gz, kz, cz, az1, az2, az3⟩ := aZ
  obtain ⟨ca, ga, ka, aa1, aa2, aa3, aa4, aa5⟩ := Cond.arrayOver_spec oA
  obtain ⟨cs, gs, ks, as1, as2, as3, as4, as5⟩ := Cond.arrayOver_spec oS
  obtain ⟨cr', gr, kr, ar1, ar2, ar3, ar4, ar5⟩ := arrayOverA_spec oR
  have hcr : cr' = gi := Option.some.inj (ar1.symm.trans ai1)
  subst hcr
  refine ⟨((fun k => if k = 0 then c0 else if k = 1 then c1 else if k = 2 then c2 else if k = 3 then c3 else if k = 4 then c4 else if k = 5 then c5 else if k = 6 then c6 else if k = 7 then c7 else if k = 8 then c8 else c9, fun k => if k = 0 then i0 else if k = 1 then i1 else if k = 2 then i2 else if k = 3 then i3 else if k = 4 then i4 else if k = 5 then i5 else if k = 6 then i6 else if k = 7 then i7 else if k = 8 then i8 else i9), (cr', gz, ga, gs, gr), (t1, t2, t3, t4)), ⟨⟨fun k q hq => ?_, fun k q hq => ?_⟩, fun w hw => ?_, s1, s2, s3, s4⟩, va_AO.of oA, va_AO.of oS, kr, ar3, ar4⟩
  · match k, hq with
    | 0, hq => cases hq; exact k0
    | 1, hq => cases hq; exact k1
    | 2, hq => cases hq; exact k2
    | 3, hq => cases hq; exact k3
    | 4, hq => cases hq; exact k4
    | 5, hq => cases hq; exact k5
    | 6, hq => cases hq; exact k6
    | 7, hq => cases hq; exact k7
    | 8, hq => cases hq; exact k8
    | 9, hq => cases hq; exact k9
    | k + 10, hq => simp [vwCl] at hq
  · match k, hq with
    | 0, hq => cases hq; exact ⟨fun N z => ⟨fun k h => (by cases h), ki, ai2, ci, ai3⟩, ai1⟩
    | 1, hq => cases hq; exact ⟨fun N z => ⟨fun k h => (by cases h), kz, az2, cz, az3⟩, az1⟩
    | 2, hq => cases hq; exact ⟨fun N z => ⟨fun k h => (by cases h), ka, aa3, ca, aa4⟩, ka, ca, aa3, aa4, aa1, aa5⟩
    | 3, hq => cases hq; exact ⟨fun N z => ⟨fun k h => (by cases h), ks, as3, cs, as4⟩, ks, cs, as3, as4, as1, as5⟩
    | 4, hq => cases hq; exact ⟨fun N z => ⟨fun k h => (by cases h), kr, ar3, cr', ar4⟩, ar5⟩
    | k + 5, hq => simp [tysG] at hq
  · have hN := nests_all w hw
    have hb := hts w (nests_tbl w hw)
    cases w with
    | fieldLinkNest a1 i b1 n d h0 => exact va_tabs rfl rfl hb
    | methodLinkNest a1 i x h0 => exact va_tabs rfl rfl hb
    | _ => cases hN
