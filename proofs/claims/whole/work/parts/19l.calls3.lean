/-! calls on surfaces -/
theorem StX.setS {j : Nat} {L : List Nat} {A : AL} {S : Nat → List Nat} {P : PL} {wx wx' : WX} (hj : j < 4) (hl : A.length ≤ 4) (h : StX 1 A S P wx) (hs : SuAt (1 + 2 + 44 + 2 * j) L wx') (g : ∀ q, q < 119 → q ≠ 1 + 2 + 44 + 2 * j → q ≠ 1 + 2 + 44 + 2 * j + 1 → wx'.1 q = wx.1 q) : StX 1 A (fup S j L) P wx' := by
  refine ⟨⟨by rw [g _ (by omega) (by omega) (by omega)]; exact h.1.1, fun i hi => (h.1.2 i hi).to fun q a b => g q (by omega) (by omega) (by omega)⟩, fun i hi => ?_, by rw [g _ (by omega) (by omega) (by omega)]; exact h.2.2.1, fun i hi => ?_⟩
  · by_cases z : i = j
    · subst z; rw [fup_s]; exact hs
    · rw [fup_n z]; exact (h.2.1 i hi).to (g _ (by omega) (by omega) (by omega)) (g _ (by omega) (by omega) (by omega))
  · rw [g _ (by omega) (by omega) (by omega), g _ (by omega) (by omega) (by omega)]; exact h.2.2.2 i hi
theorem StM.setS {j : Nat} {L : List Nat} {A : AL} {S : Nat → List Nat} {P : PL} {wm wm' : Mem} (hj : j < 4) (hA : A.length ≤ 4) (hS : VSs S) (hP : P.length ≤ 8) (h : StM 1 A S P wm) (hs : SuM 1 j L wm') (g : ∀ i, i ≠ 13 + j → (i < 17 + 24 * j ∨ 17 + 24 * j + 24 ≤ i) → wm' 1 i = wm 1 i) : StM 1 A (fup S j L) P wm' := by
  refine ⟨⟨by rw [g _ (by omega) (by omega)]; exact h.1.1, fun i hi => ?_⟩, fun i hi => ?_, by rw [g _ (by omega) (by omega)]; exact h.2.2.1, fun i hi => ?_⟩
  · rw [g _ (by omega) (by omega), g _ (by omega) (by omega), g _ (by omega) (by omega)]; exact h.1.2 i hi
  · by_cases z : i = j
    · subst z; rw [fup_s]; exact hs
    · rw [fup_n z]
      have hl := (hS i hi).1
      exact ⟨by rw [g _ (by omega) (by omega)]; exact (h.2.1 i hi).1, (h.2.1 i hi).2.to fun q a b => g q (by omega) (by omega)⟩
  · rw [g _ (by omega) (by omega), g _ (by omega) (by omega)]; exact h.2.2.2 i hi
theorem Rel.setS {j : Nat} {L : List Nat} {wx wx' : WX} {wm wm' : Mem} (hj : j < 4) (hL : Sf L) (h : Rel wx wm) (x1 : SuAt (1 + 2 + 44 + 2 * j) L wx') (x2 : ∀ q, q < 119 → q ≠ 1 + 2 + 44 + 2 * j → q ≠ 1 + 2 + 44 + 2 * j + 1 → wx'.1 q = wx.1 q) (hw : RW wx'.2) (hh : RH wx') (m1 : SuM 1 j L wm') (m2 : ∀ q, q = 2 ∨ q = 13 ∨ q = 25 ∨ q = 26 ∨ q = 27 → wm' q = wm q) (m0 : ∀ i, i = 2 ∨ i = 17 ∨ i = 32 → wm' 0 i = wm 0 i) (m3 : ∀ i, i ≠ 13 + j → (i < 17 + 24 * j ∨ 17 + 24 * j + 24 ≤ i) → wm' 1 i = wm 1 i) : Rel wx' wm' := by
  obtain ⟨⟨A, S, P, ⟨hA, hS, hP⟩, hx, hm⟩, h2, h3, h4, h5, h6, h7⟩ := h
  refine ⟨⟨A, fup S j L, P, ⟨hA, fun i hi => ?_, hP⟩, hx.setS hj hA.1 x1 x2, hm.setS hj hA.1 hS hP.1 m1 m3⟩, h2.to (by rw [x2 0 (by omega) (by omega) (by omega)]) (fun q a b => x2 q (by omega) (by omega) (by omega)) (m0 2 (by omega)) (m2 2 (by omega)), h3.to (x2 _ (by omega) (by omega) (by omega)) (x2 _ (by omega) (by omega) (by omega)) (m0 17 (by omega)) (m2 13 (by omega)), h4.to (by rw [x2 0 (by omega) (by omega) (by omega)]) (x2 _ (by omega) (by omega) (by omega)) (m0 32 (by omega)) (m2 25 (by omega)), h5.to (fun q a b => x2 q (by omega) (by omega) (by omega)) (m2 26 (by omega)) (m2 27 (by omega)), hw, hh⟩
  by_cases z : i = j
  · subst z; rw [fup_s]; exact hL
  · rw [fup_n z]; exact hS i hi
theorem Rel.tape {wx wx' : WX} {wm wm' : Mem} (h : Rel wx wm) (hT : RT wx' wm') (x2 : ∀ q, q < 119 → q ≠ 109 → q ≠ 110 → wx'.1 q = wx.1 q) (hw : RW wx'.2) (hh : RH wx') (m2 : ∀ q, q = 1 ∨ q = 2 ∨ q = 25 ∨ q = 26 ∨ q = 27 → wm' q = wm q) (m0 : ∀ i, i = 2 ∨ i = 32 → wm' 0 i = wm 0 i) : Rel wx' wm' := by
  obtain ⟨h1, h2, h3, h4, h5, h6, h7⟩ := h
  exact ⟨h1.to (fun q a b c => x2 q (by omega) (by omega) (by omega)) (m2 1 (by omega)), h2.to (by rw [x2 0 (by omega) (by omega) (by omega)]) (fun q a b => x2 q (by omega) (by omega) (by omega)) (m0 2 (by omega)) (m2 2 (by omega)), hT, h4.to (by rw [x2 0 (by omega) (by omega) (by omega)]) (x2 _ (by omega) (by omega) (by omega)) (m0 32 (by omega)) (m2 25 (by omega)), h5.to (fun q a b => x2 q (by omega) (by omega) (by omega)) (m2 26 (by omega)) (m2 27 (by omega)), hw, hh⟩
theorem lt_ni {x : Int32} {n : Nat} (h : x < 0) : x < nI n ∨ ¬ n < 2147483648 := by
  by_cases hn : n < 2147483648
  · refine Or.inl (Int32.lt_of_lt_of_le h ?_)
    rw [i0, ile (by omega) hn]
    omega
  · exact Or.inr hn
theorem neg_lt {x : Int32} {n : Nat} (h : x < 0) (hn : n < 2147483648) : x < nI n := (lt_ni h).resolve_right (fun q => q hn)
theorem c_feed {wx : WX} {wm : Mem} (x1 : Int32) (h : Rel wx wm) : Bo (sh_X8_feed x1 wx) (sh_X9_feed x1 wm) := by
  unfold sh_X8_feed sh_X9_feed Bo
  rcases i32c x1 with ⟨n1, n1'⟩ | ⟨k, hk, rfl⟩
  · refine okt (neg_lt n1 (by omega)) ?_
    rw [ok_some]
    exact okb (mIZ (by omega) (by omega) (by omega)) (okt rfl (stay h))
  by_cases k1 : k < 1
  · refine okt (by rw [ilt hk (by omega)]; exact k1) ?_
    rw [ok_some]
    refine okb (mInJ hk (by omega) (by omega)) (okt (bI_eq (by omega)) (stay h))
  refine okf (by rw [ilt hk (by omega)]; exact k1) ?_
  by_cases k2 : k ≤ 127
  · refine okt (by rw [ile hk (by omega)]; exact k2) ?_
    obtain ⟨T, hT, tX, tM⟩ := h.2.2.1
    have hT6 := hT.1
    rw [tX.1]
    by_cases hc : T.length < 60
    · refine okt (by rw [ilt (by omega) (by omega)]; exact hc) ?_
      unfold sh_X7_append
      rw [tX.1, ok_bind]
      refine okt (by rw [ilt (by omega) (by omega)]; exact hc) ?_
      rw [ok_bind]
      refine ok_stX hc (by omega) fun w1 f1 f2 f3 f4 => ?_
      rw [show w1.1 109 1 = nI T.length by rw [f1 _ (by omega)]; exact tX.1, nI_add]
      refine ok_pX fun w2 g1 g2 g3 g4 => ?_
      rw [ok_some, ok_some]
      refine okb (mIY (by omega) (by omega)) (okf (by decide) ?_)
      rw [tM.1]
      refine okf (by rw [ieq (by omega) (by omega)]; omega) ?_
      rw [ok_bind]
      refine ok_stM hc (by omega) fun m1 a1 a2 a3 => ?_
      rw [show m1 0 17 = nI T.length by rw [a1 _ (by omega)]; exact tM.1, nI_add]
      refine ok_ms fun m2 b1 b2 b3 => ?_
      rw [ok_some]
      refine ⟨g3.trans b3.symm, ?_⟩
      show Rel w2 m2
      refine h.tape ⟨T ++ [k], ⟨by simp; omega, fun i hi => ?_⟩, ⟨by rw [List.length_append]; exact g3, ?_⟩, ⟨by rw [List.length_append]; exact b3, ?_⟩⟩ (fun q a b c => by rw [g1 q b, f1 q c]) (by rw [g4, f4]; exact h.2.2.2.2.2.1) (h.2.2.2.2.2.2.to fun q hq => by rw [g1 q (by omega), f1 q (by omega)]) (fun q a => by rw [b1 q (by omega), a1 q (by omega)]) (fun i a => by rw [b2 i (by omega), a1 0 (by omega)])
      · rw [List.getD_eq_getElem?_getD]
        by_cases z : i < T.length
        · rw [List.getElem?_append_left z, ← List.getD_eq_getElem?_getD]; exact hT.2 i z
        · have e : i = T.length := by simp at hi; omega
          subst e
          rw [List.getElem?_append_right (Nat.le_refl _), Nat.sub_self]
          show 1 ≤ k ∧ k < 128
          omega
      · rw [g1 _ (by omega)]
        exact tX.2.push (fun q a => f2 q (by omega)) (by rw [Nat.zero_add]; exact f3)
      · rw [b1 _ (by omega)]
        exact tM.2.push (fun q a => a2 q (by omega)) (by rw [Nat.zero_add]; exact a3)
    · refine okf (by rw [ilt (by omega) (by omega)]; exact hc) ?_
      rw [ok_some]
      refine okb (mIY (by omega) (by omega)) (okf (by decide) ?_)
      rw [tM.1]
      exact okt (by rw [ieq (by omega) (by omega)]; omega) (stay h)
  · refine okf (by rw [ile hk (by omega)]; exact k2) ?_
    rw [ok_some]
    refine okb (mInJ hk (by omega) (by omega)) (okt (bI_eq (by omega)) (stay h))
theorem fuF_lt : ∀ (bs : List Nat) (i : Nat) (l : Option Nat) (L : List Nat) (j : Nat), (fuF bs i l L).1 = some j → j < i + bs.length
  | [], i, l, L, j, h => by cases h
  | b :: bs, i, l, L, j, h => by
    rw [fuF_c] at h
    have hlen : (b :: bs).length = bs.length + 1 := rfl
    have key : ∀ l' L', (fuF bs (i + 1) l' L').1 = some j → j < i + (bs.length + 1) := fun l' L' e => by have := fuF_lt bs (i + 1) l' L' j e; omega
    rw [hlen]
    have nil : ∀ L' : List Nat, ((some i, L') : Option Nat × List Nat).1 = some j → j < i + (bs.length + 1) := fun L' e => by
      have : i = j := Option.some.inj e
      omega
    split at h
    · split at h
      · exact key _ _ h
      · exact nil _ h
    · split at h
      · exact nil _ h
      · split at h
        · split at h
          · exact key _ _ h
          · exact nil _ h
        · exact nil _ h
theorem fuI_neg {T : List Nat} (hT : T.length ≤ 60) (h : fuI T = (-1 : Int32)) : (fuR T).1 = none := by
  unfold fuI at h
  cases e : (fuR T).1 with
  | none => rfl
  | some i =>
    rw [e] at h
    have := fuF_lt T 0 none [] i e
    exact absurd h.symm (of_eq_false (neg1_nI (by omega)))
theorem Ty.nil : Ty [] := ⟨by simp, fun i hi => by simp at hi⟩
theorem c_surface {wx : WX} {wm : Mem} (x1 : Int32) (h : Rel wx wm) : Bo (sh_X8_surface x1 wx) (sh_X9_surface x1 wm) := by
  obtain ⟨A, S, P, ⟨hA, hS, hP⟩, hx, hm⟩ := h.1
  unfold sh_X8_surface sh_X9_surface Bo
  rcases spl (x := x1) (n := 4) (by omega) with ⟨j, hj, rfl⟩ | hj
  · refine okb (xSurY (Or.inl rfl) hj) (okf (by omega) (okg (kSur 1 (Or.inl rfl) j hj) ?_))
    obtain ⟨T, hT, tX, tM⟩ := h.2.2.1
    obtain ⟨H, hH, sH⟩ := h.2.2.2.2.2.2
    rw [ok_bind]
    refine (xRead (by omega) hT hH sH tX).mono fun r hr => ?_
    obtain ⟨L, ⟨hv, hL⟩, hf, hs, ho, h2⟩ := hr
    refine ok_pX fun w1 f1 f2 f3 f4 => ?_
    have hMM : ∀ {Q : Int32 × Mem → Prop}, (∀ m1 L', fuE T (fuI T) L' → Sf L' → RoM L' m1 → OutR wm m1 → ∀ m2 : Mem, (∀ q, q ≠ 0 → m2 q = m1 q) → (∀ i, i ≠ 17 → m2 0 i = m1 0 i) → m2 0 17 = nI 0 → Ok (if fuI T = (-1 : Int32) then Option.bind (sh_X9_saves (nI j) m2) (fun w6 => some (w6 0 15, w6)) else some ((-100 : Int32) - fuI T, m2)) Q) → Ok (Option.bind (sh_X9_isSurface (nI j)) (fun v1 => if v1 = 0 then some ((-1 : Int32), wm) else Option.bind (sh_X9_fault wm) (fun v3 => letv (mset v3.2 0 17 (nI 0)) (fun w4 => if v3.1 = (-1 : Int32) then Option.bind (sh_X9_saves (nI j) w4) (fun w6 => some (w6 0 15, w6)) else some ((-100 : Int32) - v3.1, w4))))) Q := by
      intro Q hQ
      refine okb (mSY hj) (okf (by decide) ?_)
      rw [ok_bind]
      refine (mRead hT tM).mono fun s hs => ?_
      obtain ⟨L', ⟨e1, e2⟩, g1, g2, g3⟩ := hs
      refine ok_ms fun m2 a1 a2 a3 => ?_
      rw [e1]
      exact hQ s.2 L' ⟨rfl, e2⟩ g1 g2 g3 m2 a1 a2 a3
    have hw1 : ∀ q, q < 119 → q ≠ 109 → w1.1 q = wx.1 q := fun q a b => by rw [f1 q b, ho q (by omega)]
    have base : ∀ m1 : Mem, OutR wm m1 → ∀ m2 : Mem, (∀ q, q ≠ 0 → m2 q = m1 q) → (∀ i, i ≠ 17 → m2 0 i = m1 0 i) → m2 0 17 = nI 0 → Rel w1 m2 := by
      intro m1 g m2 a1 a2 a3
      refine h.tape ⟨[], Ty.nil, ⟨f3, fun i hi => by simp at hi⟩, ⟨a3, fun i hi => by simp at hi⟩⟩ (fun q a b c => hw1 q a b) (by rw [f4, h2]; exact h.2.2.2.2.2.1) ⟨L, hf, hs.to (f1 _ (by omega)) (f1 _ (by omega))⟩ (fun q a => by rw [a1 q (by omega), g.1 q (by omega) (by omega)]) (fun i a => by rw [a2 i (by omega), g.2 i (by omega)])
    rw [hv]
    by_cases z : fuI T = (-1 : Int32)
    · refine okt z ?_
      rw [ok_bind]
      refine (xCop (u := 119) hf (hs.to (f1 _ (by omega)) (f1 _ (by omega))) (by omega)).mono fun w2 h3 => ?_
      rw [ok_some]
      refine hMM fun m1 L' e g1 g2 g3 m2 a1 a2 a3 => okt z ?_
      have eL : L' = L := (e.2 (fuI_neg hT.1 z)).trans (hL (fuI_neg hT.1 z)).symm
      subst eL
      rw [ok_bind]
      have hro : RoM L' m2 := ⟨by rw [a2 _ (by omega)]; exact g2.1, by rw [a1 _ (by omega)]; exact g2.2⟩
      refine (mSave hj hf.1 hro).mono fun m3 h4 => ?_
      rw [ok_some]
      refine ⟨h3.1.1.1.trans ?_, ?_⟩
      · show _ = m3 0 15
        rw [h4.2.1 0 (by omega)]
        exact hro.1.symm
      · show Rel w2 m3
        exact (base m1 g3 m2 a1 a2 a3).setS hj hf h3.1 (fun q a b c => h3.2.1 q (by omega)) (by rw [h3.2.2, f4, h2]; exact h.2.2.2.2.2.1) ⟨L', hf, hs.to (by rw [h3.2.1 _ (by omega), f1 _ (by omega)]) (by rw [h3.2.1 _ (by omega), f1 _ (by omega)])⟩ h4.1 (fun q a => h4.2.1 q (by omega)) (fun i a => by rw [h4.2.1 0 (by omega)]) h4.2.2
    · refine okf z ?_
      rw [ok_some]
      refine hMM fun m1 L' e g1 g2 g3 m2 a1 a2 a3 => okf z ?_
      rw [ok_some]
      exact ⟨rfl, base m1 g3 m2 a1 a2 a3⟩
  · refine okb (xSurN hj) (okt rfl ?_)
    rw [ok_some]
    exact okb (mSN hj) (okt rfl (stay h))
theorem c_piece {wx : WX} {wm : Mem} (x1 x2 : Int32) (h : Rel wx wm) : Bo (sh_X8_piece x1 x2 wx) (sh_X9_piece x1 x2 wm) := by
  obtain ⟨A, S, P, ⟨hA, hS, hP⟩, hx, hm⟩ := h.1
  unfold sh_X8_piece sh_X9_piece Bo
  rcases spl (x := x1) (n := 4) (by omega) with ⟨j, hj, rfl⟩ | hj
  · refine okb (xSurY (Or.inl rfl) hj) (okf (by omega) (okg (kSur 1 (Or.inl rfl) j hj) ?_))
    have sX := hx.2.1 j hj
    have sM := hm.2.1 j hj
    have sf := hS j hj
    have hle := sf.le
    rcases i32c x2 with ⟨n2, n2'⟩ | ⟨p, hp, rfl⟩
    · refine okt n2 ?_
      rw [ok_some]
      exact okb (mSY hj) (okf (by decide) (okb (mIZ (by omega) (by omega) (by omega)) (okt rfl (stay h))))
    refine okf (by rw [ilt0 hp]; exact not_false) ?_
    by_cases hp7 : p < 7
    · refine okt (by rw [ilt hp (by omega)]; exact hp7) ?_
      rw [sX.1.2]
      refine okb (xCan p hp7 _ (by omega)) ?_
      have pre : ∀ {Q : Int32 × Mem → Prop}, (∀ w5, RoM (S j) w5 → OutR wm w5 → Ok (if bI ((bh (cr (S j)) p).isSome = true) = 0 then some ((-3 : Int32), w5) else if (w5 0 15) = (nI 24) then some ((-4 : Int32), w5) else Option.bind (sh_X9_adds (nI p) w5) (fun w9 => Option.bind (sh_X9_saves (nI j) w9) (fun w10 => some (w10 0 15, w10)))) Q) → Ok (Option.bind (sh_X9_isSurface (nI j)) (fun v1 => if v1 = 0 then some ((-1 : Int32), wm) else Option.bind (sh_X9_isIn (nI p).toInt64 (lN 0) (lN 6)) (fun v3 => if v3 = 0 then some ((-1 : Int32), wm) else Option.bind (sh_X9_loads (nI j) wm) (fun w5 => Option.bind (sh_X9_canStand (nI p) w5) (fun v6 => if v6 = 0 then some ((-3 : Int32), w5) else if (w5 0 15) = (nI 24) then some ((-4 : Int32), w5) else Option.bind (sh_X9_adds (nI p) w5) (fun w9 => Option.bind (sh_X9_saves (nI j) w9) (fun w10 => some (w10 0 15, w10)))))))) Q := by
        intro Q hQ
        refine okb (mSY hj) (okf (by decide) (okb (mIY (by omega) (by omega)) (okf (by decide) ?_)))
        rw [ok_bind]
        refine (mLoad hj sf.1 sM).mono fun w5 h5 => ?_
        exact okb (mCan sf hp7 h5.1) (hQ w5 h5.1 h5.2)
      by_cases hb : (bh (cr (S j)) p).isSome = true
      · rw [if_pos hb]
        refine okf (by decide) ?_
        rw [ok_bind]
        refine (xApp sf hp7 sX).mono fun r hr => ?_
        obtain ⟨r1, r2, r3, r4⟩ := hr
        by_cases hc : (S j).length < 24
        · have ha : apO (S j) p = true := apO_iff.mpr ⟨hc, hb⟩
          rw [r1, if_pos ha]
          refine okf (by decide) ?_
          rw [ok_some]
          refine pre fun w5 h5 h6 => okf (bI_ne hb) ?_
          rw [h5.1]
          refine okf (by rw [ieq (by omega) (by omega)]; omega) ?_
          rw [ok_bind]
          refine (mAdd (by omega) h5).mono fun w9 h9 => ?_
          rw [ok_bind]
          refine (mSave hj (by simp; omega) h9.1).mono fun w10 h10 => ?_
          rw [ok_some]
          have eL : apL (S j) p = S j ++ [p] := if_pos ha
          rw [eL] at r2
          refine ⟨r2.1.1.trans ?_, ?_⟩
          · show _ = w10 0 15
            rw [h10.2.1 0 (by omega)]
            exact h9.1.1.symm
          · show Rel r.2 w10
            exact h.setS hj (sf.push ha) r2 (fun q a b c => r3 q (by omega)) (by rw [r4]; exact h.2.2.2.2.2.1) (h.2.2.2.2.2.2.to fun q a => r3 q (by omega)) h10.1 (fun q a => by rw [h10.2.1 q (by omega), h9.2.1 q (by omega) (by omega), h6.1 q (by omega) (by omega)]) (fun i a => by rw [h10.2.1 0 (by omega), h9.2.2 i (by omega), h6.2 i (by omega)]) (fun i a b => by rw [h10.2.2 i a b, h9.2.1 1 (by omega) (by omega), h6.1 1 (by omega) (by omega)])
        · have ha : ¬ apO (S j) p = true := fun z => hc (apO_iff.mp z).1
          rw [r1, if_neg ha]
          refine okt rfl ?_
          rw [ok_some]
          have h24 : (S j).length = 24 := by have := sf.1; omega
          refine pre fun w5 h5 h6 => okf (bI_ne hb) ?_
          rw [h5.1]
          refine okt (by rw [h24]) ?_
          rw [ok_some]
          have eL : apL (S j) p = S j := if_neg ha
          rw [eL] at r2
          refine ⟨rfl, ?_⟩
          show Rel r.2 w5
          exact h.setS hj sf r2 (fun q a b c => r3 q (by omega)) (by rw [r4]; exact h.2.2.2.2.2.1) (h.2.2.2.2.2.2.to fun q a => r3 q (by omega)) (sM.to (h6.1 1 (by omega) (by omega))) (fun q a => h6.1 q (by omega) (by omega)) (fun i a => h6.2 i (by omega)) (fun i _ _ => by rw [h6.1 1 (by omega) (by omega)])
      · rw [if_neg hb]
        refine okt rfl ?_
        rw [ok_some]
        exact pre fun w5 h5 h6 => okt (bI_eq hb) (stay (h.ms h6.ms))
    · refine okf (by rw [ilt hp (by omega)]; exact hp7) ?_
      rw [ok_some]
      exact okb (mSY hj) (okf (by decide) (okb (mInJ hp (by omega) (by omega)) (okt (bI_eq (by omega)) (stay h))))
  · refine okb (xSurN hj) (okt rfl ?_)
    rw [ok_some]
    exact okb (mSN hj) (okt rfl (stay h))
theorem c_pieceOf {wx : WX} {wm : Mem} (x1 x2 : Int32) (h : Rel wx wm) : ∃ v, sh_X8_pieceOf x1 x2 wx = some v ∧ sh_X9_pieceOf x1 x2 wm = some v := by
  obtain ⟨A, S, P, ⟨hA, hS, hP⟩, hx, hm⟩ := h.1
  suffices g : Ok (sh_X8_pieceOf x1 x2 wx) (fun r => Ok (sh_X9_pieceOf x1 x2 wm) (fun s => s = r)) by
    obtain ⟨v, h1, u, h2, rfl⟩ := g
    exact ⟨u, h1, h2⟩
  unfold sh_X8_pieceOf sh_X9_pieceOf
  rcases spl (x := x1) (n := 4) (by omega) with ⟨j, hj, rfl⟩ | hj
  · refine okb (xSurY (Or.inl rfl) hj) (okf (by omega) (okg (kSur 1 (Or.inl rfl) j hj) ?_))
    have sX := hx.2.1 j hj
    have sM := hm.2.1 j hj
    have sf := (hS j hj).1
    have pre : ∀ {Q : Int32 → Prop}, Ok (Option.bind (sh_X9_isIn x2.toInt64 (lN 0) ((nI (S j).length - (nI 1)).toInt64)) (fun v4 => if v4 = 0 then some (-1 : Int32) else Option.bind (ldS 130 1 (((nI 17) + ((nI 24) * nI j)) + x2) wm) (fun v6 => some v6))) Q → Ok (Option.bind (sh_X9_isSurface (nI j)) (fun v1 => if v1 = 0 then some (-1 : Int32) else Option.bind (ldS 130 1 ((nI 13) + nI j) wm) (fun v3 => Option.bind (sh_X9_isIn x2.toInt64 (lN 0) ((v3 - (nI 1)).toInt64)) (fun v4 => if v4 = 0 then some (-1 : Int32) else Option.bind (ldS 130 1 (((nI 17) + ((nI 24) * nI j)) + x2) wm) (fun v6 => some v6))))) Q := by
      intro Q hQ
      refine okb (mSY hj) (okf (by decide) ?_)
      rw [nI_add]
      refine okb (ldS_ok (by omega) (by omega)) ?_
      rw [sM.1]
      exact hQ
    rw [sX.1.1]
    rcases i32c x2 with ⟨n2, n2'⟩ | ⟨p, hp, rfl⟩
    · refine okt n2 ?_
      rw [ok_some]
      refine pre (okb (mInS (by omega)) (okt (bI_eq (by omega)) ?_))
      rw [ok_some]
    refine okf (by rw [ilt0 hp]; exact not_false) ?_
    by_cases hpl : p < (S j).length
    · refine okt (by rw [ilt hp (by omega)]; exact hpl) (okb (ldS_ok (by omega) (by omega)) ?_)
      rw [ok_some]
      refine pre (okb (mInS (by omega)) (okf (bI_ne (by rw [nI_toInt hp]; omega)) ?_))
      rw [ixM]
      refine okb (ldS_ok (by omega) (by omega)) ?_
      rw [ok_some, sM.2 p hpl, ← sX.2 p hpl, Nat.zero_add]
    · refine okf (by rw [ilt hp (by omega)]; exact hpl) ?_
      rw [ok_some]
      refine pre (okb (mInS (by omega)) (okt (bI_eq (by rw [nI_toInt hp]; omega)) ?_))
      rw [ok_some]
  · refine okb (xSurN hj) (okt rfl ?_)
    rw [ok_some]
    refine okb (mSN hj) (okt rfl ?_)
    rw [ok_some]
