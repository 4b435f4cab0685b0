/-! closed surfaces -/
theorem SwA.cg {a : Nat} {r r' : Rf} (e : r' a = r a) (h : SwA a r) : SwA a r' := by unfold SwA; rw [e]; exact h
theorem SwS.cg {a : Nat} {r r' : Rf} (e : r' a = r a) (h : SwS a r) : SwS a r' := by unfold SwS; rw [e]; exact h
theorem RW.sa {a : Nat} {r r' : Rf} (h : RW r) (g : ∀ q, q ≠ a → r' q = r q) (ha : SwA a r') (h5 : a ≠ 145) (h9 : a ≠ 149) : RW r' := by
  obtain ⟨h1, h2, h3, h4⟩ := h
  refine ⟨fun i hi => ?_, ?_, h3.cg (g _ (by omega)), h4.cg (g _ (by omega))⟩
  · by_cases z : 1 + 1 + 5 + 10 * i = a
    · rw [z]; exact ha
    · exact (h1 i hi).cg (g _ z)
  · by_cases z : 121 = a
    · rw [z]; exact ha
    · exact h2.cg (g _ z)
theorem RW.ss {a : Nat} {r r' : Rf} (h : RW r) (g : ∀ q, q ≠ a → r' q = r q) (hs : SwS a r') (ha : a = 145 ∨ a = 149) : RW r' := by
  obtain ⟨h1, h2, h3, h4⟩ := h
  refine ⟨fun i hi => (h1 i hi).cg (g _ (by omega)), h2.cg (g _ (by omega)), ?_, ?_⟩
  · by_cases z : 145 = a
    · rw [z]; exact hs
    · exact h3.cg (g _ z)
  · by_cases z : 149 = a
    · rw [z]; exact hs
    · exact h4.cg (g _ z)
theorem ScA.xs {j : Nat} {w w' : WX} (hj : j < 4) (h : ScA (1 + 1 + 5 + 10 * j) w w') : OutXs w w' := fun q a b => h.1 q (b j hj).1 (b j hj).2
theorem ScA.trans {a : Nat} {w w1 w2 : WX} (h : ScA a w w1) (g : ScA a w1 w2) : ScA a w w2 := ⟨fun q a b => (g.1 q a b).trans (h.1 q a b), fun q a => (g.2.1 q a).trans (h.2.1 q a), g.2.2⟩
theorem Rel.sc {j : Nat} {wx wx' : WX} {wm wm' : Mem} (hj : j < 4) (h : Rel wx wm) (g : ScA (1 + 1 + 5 + 10 * j) wx wx') (gm : OutMs wm wm') : Rel wx' wm' := by
  refine h.scr (g.xs hj) gm (h.2.2.2.2.2.1.sa g.2.1 g.2.2 (by omega) (by omega)) (h.2.2.2.2.2.2.to fun q hq => g.1 q (by omega) (by omega))
theorem xTY {j : Nat} (hj : j < 21) : sh_X8_isTurns (nI j) = some (nI 1) := by rw [xTns, bI_t (by rw [nI_toInt (by omega)]; omega)]
theorem xTN {x : Int32} (h : ¬ (0 ≤ x.toInt ∧ x.toInt < (21 : Nat))) : sh_X8_isTurns x = some (nI 0) := by rw [xTns, bI_f (by omega)]
theorem mIY {j a b : Nat} (hj : a ≤ j ∧ j ≤ b) (hb : b < 2147483648) : sh_X9_isIn (nI j).toInt64 (lN a) (lN b) = some (nI 1) := by rw [mInJ (by omega) (by omega) hb, bI_t hj]
theorem mIZ {x : Int32} {a b : Nat} (ha : a < 2147483648) (hb : b < 2147483648) (h : ¬ ((a : Int) ≤ x.toInt ∧ x.toInt ≤ b)) : sh_X9_isIn x.toInt64 (lN a) (lN b) = some (nI 0) := by rw [mIn ha hb, bI_f h]
theorem c_closed {wx : WX} {wm : Mem} (x1 x2 x3 : Int32) (h : Rel wx wm) : Bo (sh_X8_closed x1 x2 x3 wx) (sh_X9_closed x1 x2 x3 wm) := by
  obtain ⟨A, S, P, ⟨hA, hS, hP⟩, hx, hm⟩ := h.1
  have hl := hA.1
  unfold sh_X8_closed sh_X9_closed Bo
  rcases spl (x := x1) (n := A.length) (by omega) with ⟨j, hj, rfl⟩ | hj
  · refine okb (xAlgY (Or.inl rfl) hx.1 hl hj) (okf (by omega) (okg (kAlg 1 (Or.inl rfl) j (by omega)) ?_))
    rcases spl (x := x2) (n := 21) (by omega) with ⟨e, he, rfl⟩ | he
    · refine okb (xTY he) (okf (by decide) ?_)
      rcases spl (x := x3) (n := 21) (by omega) with ⟨c, hc, rfl⟩ | hc
      · refine okb (xTY hc) (okf (by decide) ?_)
        rw [ok_bind]
        refine (xClo (kAlg 1 (Or.inl rfl) j (by omega)) (hA.2 j hj) (hx.1.2 j hj) (h.2.2.2.2.2.1.1 j (by omega)) (by omega) (by omega)).mono fun r hr => ?_
        rw [ok_some]
        refine okb (mAY hm.1.1 hl hj) (okf (by decide) (okb (mIY (by omega) (by omega)) (okf (by decide) (okb (mIY (by omega) (by omega)) (okf (by decide) ?_)))))
        rw [ok_bind]
        refine (mLaid hA hm hj).mono fun w3 h3 => ?_
        rw [ok_bind]
        refine (mClo (kn_of (hA.2 j hj)) h3.1 (by omega) (by omega)).mono fun s hs => ?_
        rw [ok_some]
        refine ⟨hr.1.trans hs.1.symm, ?_⟩
        exact h.sc (by omega) hr.2 (h3.2.ms.trans hs.2.ms)
      · refine okb (xTN hc) (okt rfl ?_)
        rw [ok_some]
        exact okb (mAY hm.1.1 hl hj) (okf (by decide) (okb (mIY (by omega) (by omega)) (okf (by decide) (okb (mIZ (by omega) (by omega) (by omega)) (okt rfl (stay h))))))
    · refine okb (xTN he) (okt rfl ?_)
      rw [ok_some]
      exact okb (mAY hm.1.1 hl hj) (okf (by decide) (okb (mIZ (by omega) (by omega) (by omega)) (okt rfl (stay h))))
  · refine okb (xAlgN hx.1 hl hj) (okt rfl ?_)
    rw [ok_some]
    exact okb (mAN hm.1.1 hl hj) (okt rfl (stay h))
def haI (F : Nat → Bool) : Int32 := if fsN F 21 < 21 then nI (fsN F 21) else (-5 : Int32)
theorem haI_s {F : Nat → Bool} {k : Nat} (hk : k < 21) (h : fsN F k = k) (e : F k = true) : haI F = nI k := by
  unfold haI
  rw [fsN_hit h e 21 hk, if_pos hk]
theorem haI_n {F : Nat → Bool} (h : fsN F 21 = 21) : haI F = (-5 : Int32) := by
  unfold haI
  rw [h, if_neg (by omega)]
theorem c_handles {wx : WX} {wm : Mem} (x1 x2 x3 : Int32) (h : Rel wx wm) : Bo (sh_X8_handles x1 x2 x3 wx) (sh_X9_handles x1 x2 x3 wm) := by
  obtain ⟨A, S, P, ⟨hA, hS, hP⟩, hx, hm⟩ := h.1
  have hl := hA.1
  unfold sh_X8_handles sh_X9_handles Bo
  rcases spl (x := x1) (n := A.length) (by omega) with ⟨j, hj, rfl⟩ | hj
  · have hv := hA.2 j hj
    have hk := kAlg 1 (Or.inl rfl) j (by omega)
    have hw := h.2.2.2.2.2.1.1 j (by omega)
    refine okb (xAlgY (Or.inl rfl) hx.1 hl hj) (okf (by omega) (okg hk ?_))
    rcases spl (x := x2) (n := 21) (by omega) with ⟨c, hc, rfl⟩ | hc
    · refine okb (xTY hc) (okf (by decide) ?_)
      obtain ⟨F, hF⟩ : ∃ F : Nat → Bool, F = fun e => decide (nI (clN (aK A j) (eN (aK A j) (aS A j)) (aF A j) e c) = x3) := ⟨_, rfl⟩
      have hFe : ∀ e, F e = true ↔ nI (clN (aK A j) (eN (aK A j) (aS A j)) (aF A j) e c) = x3 := fun e => by rw [hF]; simp
      have hX : Ok (lpw (sh_X8_handles_s30 (nI c) x3 (1 + 1 + 5 + 10 * j)) FU (nI 0, wx)) (Sum.elim (fun y7 : Int32 × WX => y7.1 = haI F ∧ ScA (1 + 1 + 5 + 10 * j) wx y7.2) (fun y8 : WX => (-5 : Int32) = haI F ∧ ScA (1 + 1 + 5 + 10 * j) wx y8)) := by
        refine ok_forb 21 (fun k s => s.1 = nI k ∧ fsN F k = k ∧ ScA (1 + 1 + 5 + 10 * j) wx s.2) ⟨rfl, rfl, fun _ _ _ => rfl, fun _ _ => rfl, hw⟩ ?_ ?_ (by omega)
        · rintro k ⟨_, w⟩ hk' ⟨rfl, g1, g2⟩
          unfold sh_X8_handles_s30
          refine okf (by rw [ilt (by omega) (by omega)]; omega) ?_
          rw [ok_bind]
          refine (xClo hk hv (g2.alg (hx.1.2 j hj)) g2.2.2 (by omega) (by omega)).mono fun r hr => ?_
          have g3 := g2.trans hr.2
          by_cases e : r.1 = x3
          · refine okt e ?_
            rw [ok_some]
            exact Or.inr ⟨_, rfl, (haI_s hk' g1 ((hFe k).mpr (hr.1.symm.trans e))).symm, g3⟩
          · refine okf e ?_
            rw [ok_letv, nI_add, ok_some]
            exact Or.inl ⟨_, rfl, rfl, fsN_miss g1 (fun z => e (hr.1.trans ((hFe k).mp z))), g3⟩
        · rintro ⟨_, w⟩ ⟨rfl, g1, g2⟩
          unfold sh_X8_handles_s30
          refine okt (show nI 20 < nI 21 by decide) ?_
          rw [ok_some]
          exact ⟨_, rfl, (haI_n g1).symm, g2⟩
      have hM : ∀ w5, LaidT (aK A j) (eN (aK A j) (aS A j)) (aF A j) w5 → Ok (lpw (sh_X9_handles_s33 (nI c) x3) FU (nI 0, w5)) (Sum.elim (fun y7 : Int32 × Mem => y7.1 = haI F ∧ OutS w5 y7.2) (fun y8 : Mem => (-5 : Int32) = haI F ∧ OutS w5 y8)) := by
        intro w5 hL
        refine ok_forb 21 (fun k s => s.1 = nI k ∧ fsN F k = k ∧ OutS w5 s.2) ⟨rfl, rfl, fun _ _ _ => rfl⟩ ?_ ?_ (by omega)
        · rintro k ⟨_, w⟩ hk' ⟨rfl, g1, g2⟩
          unfold sh_X9_handles_s33
          refine okf (by rw [ilt (by omega) (by omega)]; omega) ?_
          rw [ok_bind]
          refine (mClo (kn_of hv) (g2.laid hL) (by omega) (by omega)).mono fun r hr => ?_
          have g3 := g2.trans hr.2
          by_cases e : r.1 = x3
          · refine okt e ?_
            rw [ok_some]
            exact Or.inr ⟨_, rfl, (haI_s hk' g1 ((hFe k).mpr (hr.1.symm.trans e))).symm, g3⟩
          · refine okf e ?_
            rw [ok_letv, nI_add, ok_some]
            exact Or.inl ⟨_, rfl, rfl, fsN_miss g1 (fun z => e (hr.1.trans ((hFe k).mp z))), g3⟩
        · rintro ⟨_, w⟩ ⟨rfl, g1, g2⟩
          unfold sh_X9_handles_s33
          refine okt (show nI 20 < nI 21 by decide) ?_
          rw [ok_some]
          exact ⟨_, rfl, (haI_n g1).symm, g2⟩
      have hM2 : ∀ {Q : Int32 × Mem → Prop}, (∀ v w, v = haI F → OutMs wm w → Q (v, w)) → Ok (Option.bind (sh_X9_isAlgebra (nI j) wm) (fun v1 => if v1 = 0 then some ((-1 : Int32), wm) else Option.bind (sh_X9_isIn (nI c).toInt64 (lN 0) (lN 20)) (fun v3 => if v3 = 0 then some ((-2 : Int32), wm) else Option.bind (sh_X9_laysOut_ (nI j) wm) (fun w5 => Option.bind (lpw (sh_X9_handles_s33 (nI c) x3) FU (nI 0, w5)) (Sum.elim (fun y7 => some (y7.1, y7.2)) (fun y8 => some ((-5 : Int32), y8))))))) Q := by
        intro Q hQ
        refine okb (mAY hm.1.1 hl hj) (okf (by decide) (okb (mIY (by omega) (by omega)) (okf (by decide) ?_)))
        rw [ok_bind]
        refine (mLaid hA hm hj).mono fun w3 h3 => ?_
        rw [ok_bind]
        refine (hM w3 h3.1).mono fun s hs => ?_
        rcases s with y | y
        · show Ok (some (y.1, y.2)) Q
          rw [ok_some]
          exact hQ _ _ hs.1 (h3.2.ms.trans hs.2.ms)
        · show Ok (some ((-5 : Int32), y)) Q
          rw [ok_some]
          exact hQ _ _ hs.1 (h3.2.ms.trans hs.2.ms)
      rw [ok_bind]
      refine hX.mono fun s hs => ?_
      rcases s with y | y
      · show Ok (some (y.1, y.2)) _
        rw [ok_some]
        exact hM2 fun v w e g => ⟨hs.1.trans e.symm, h.sc (by omega) hs.2 g⟩
      · show Ok (some ((-5 : Int32), y)) _
        rw [ok_some]
        exact hM2 fun v w e g => ⟨hs.1.trans e.symm, h.sc (by omega) hs.2 g⟩
    · refine okb (xTN hc) (okt rfl ?_)
      rw [ok_some]
      exact okb (mAY hm.1.1 hl hj) (okf (by decide) (okb (mIZ (by omega) (by omega) (by omega)) (okt rfl (stay h))))
  · refine okb (xAlgN hx.1 hl hj) (okt rfl ?_)
    rw [ok_some]
    exact okb (mAN hm.1.1 hl hj) (okt rfl (stay h))
def weI (T : Nat → Bool) : Nat → Int32
  | 0 => nI 0
  | k + 1 => if T k = true then weI T k ||| (nI 1 <<< (nI k &&& 31)) else weI T k
theorem c_were {wx : WX} {wm : Mem} (x1 x2 x3 x4 : Int32) (h : Rel wx wm) : Bo (sh_X8_were x1 x2 x3 x4 wx) (sh_X9_were x1 x2 x3 x4 wm) := by
  obtain ⟨A, S, P, ⟨hA, hS, hP⟩, hx, hm⟩ := h.1
  have hl := hA.1
  unfold sh_X8_were sh_X9_were Bo
  rcases spl (x := x1) (n := A.length) (by omega) with ⟨j, hj, rfl⟩ | hj
  · have hv := hA.2 j hj
    have hvf : ∀ f, f ≤ 9 → VA (aK A j) (aS A j) f := fun f hf => ⟨hv.1, hv.2.1, hv.2.2.1, hv.2.2.2.1, hf⟩
    have ha := hx.1.2 j hj
    have hk := kAlg 1 (Or.inl rfl) j (by omega)
    refine okb (xAlgY (Or.inl rfl) hx.1 hl hj) (okf (by omega) (okg hk ?_))
    rcases spl (x := x2) (n := 21) (by omega) with ⟨e, he, rfl⟩ | he
    · refine okb (xTY he) (okf (by decide) ?_)
      rcases spl (x := x3) (n := 21) (by omega) with ⟨c, hc, rfl⟩ | hc
      · refine okb (xTY hc) (okf (by decide) ?_)
        obtain ⟨T, hT⟩ : ∃ T : Nat → Bool, T = fun f => decide (nI (clN (aK A j) (eN (aK A j) (aS A j)) f e c) = x4) := ⟨_, rfl⟩
        have hTe : ∀ f, T f = true ↔ nI (clN (aK A j) (eN (aK A j) (aS A j)) f e c) = x4 := fun f => by rw [hT]; simp
        rw [ok_bind]
        have hX : Ok (lpw (sh_X8_were_s40 (nI e) (nI c) x4 (1 + 1 + 5 + 10 * j)) FU (nI 0, nI 0, wx)) (fun r => r.1 = weI T 10 ∧ (∀ q, q < 121 → r.2.1 q = wx.1 q) ∧ (∀ q, q ≠ 121 → r.2.2 q = wx.2 q) ∧ SwA 121 r.2.2) := by
          refine ok_for 10 (fun k s => (s.1 = weI T k ∧ s.2.1 = nI k) ∧ (∀ q, q < 121 → s.2.2.1 q = wx.1 q) ∧ (∀ q, q ≠ 121 → s.2.2.2 q = wx.2 q) ∧ SwA 121 s.2.2.2) ⟨⟨rfl, rfl⟩, fun _ _ => rfl, fun _ _ => rfl, h.2.2.2.2.2.1.2.1⟩ ?_ ?_ (by omega)
          · rintro k ⟨_, _, w⟩ hk' ⟨⟨rfl, rfl⟩, g1, g2, g3⟩
            have g1 : ∀ q, q < 121 → w.1 q = wx.1 q := g1
            have g2 : ∀ q, q ≠ 121 → w.2 q = wx.2 q := g2
            unfold sh_X8_were_s40
            refine okf (by rw [ilt (by omega) (by omega)]; omega) ?_
            rw [show w.1 (1 + 1 + 5 + 10 * j) 0 = nI (aK A j) by rw [g1 _ (by omega)]; exact ha.1.1, show w.1 (1 + 1 + 5 + 10 * j) 1 = nI (aS A j) by rw [g1 _ (by omega)]; exact ha.1.2.1, ok_bind]
            refine (xMake (hvf k (by omega))).mono fun w2 h2 => ?_
            rw [ok_bind]
            refine (xClo (by decide +kernel) (hvf k (by omega)) h2.1 (by rw [h2.2.2]; exact g3) (by omega) (by omega)).mono fun r hr => ?_
            have e1 : ∀ q, q < 121 → r.2.1 q = wx.1 q := fun q hq => by rw [hr.2.1 q (by omega) (by omega), h2.2.1 q (by omega), g1 q hq]
            have e2 : ∀ q, q ≠ 121 → r.2.2 q = wx.2 q := fun q hq => by rw [hr.2.2.1 q hq, h2.2.2, g2 q hq]
            by_cases z : r.1 = x4
            · refine okt z ?_
              rw [ok_letv, ok_letv, nI_add, ok_some]
              exact ⟨_, rfl, ⟨by rw [weI, if_pos ((hTe k).mpr (hr.1.symm.trans z))], rfl⟩, e1, e2, hr.2.2.2⟩
            · refine okf z ?_
              rw [ok_letv, nI_add, ok_some]
              exact ⟨_, rfl, ⟨by rw [weI, if_neg (fun y => z (hr.1.trans ((hTe k).mp y)))], rfl⟩, e1, e2, hr.2.2.2⟩
          · rintro ⟨_, _, w⟩ ⟨⟨rfl, rfl⟩, g1, g2, g3⟩
            unfold sh_X8_were_s40
            refine okt (show nI 9 < nI 10 by decide) ?_
            rw [ok_some]
            exact ⟨_, rfl, rfl, g1, g2, g3⟩
        have hM : Ok (lpw (sh_X9_were_s43 (nI j) (nI e) (nI c) x4) FU (nI 0, nI 0, wm)) (fun r => r.1 = weI T 10 ∧ OutMs wm r.2) := by
          refine ok_for 10 (fun k s => (s.1 = weI T k ∧ s.2.1 = nI k) ∧ OutMs wm s.2.2) ⟨⟨rfl, rfl⟩, OutMs.refl⟩ ?_ ?_ (by omega)
          · rintro k ⟨_, _, w⟩ hk' ⟨⟨rfl, rfl⟩, g1⟩
            unfold sh_X9_were_s43
            refine okf (by rw [ilt (by omega) (by omega)]; omega) ?_
            have hb := hm.1.2 j hj
            have e1 : w 1 = wm 1 := g1.1 1 (by omega)
            rw [ok_bind]
            refine (mLays (f := k) (hvf k (by omega)) (by omega) (by show w 1 _ = _; rw [e1]; exact hb.1) (by show w 1 _ = _; rw [e1]; exact hb.2.1)).mono fun w2 h2 => ?_
            rw [ok_bind]
            refine (mClo (kn_of (hvf k (by omega))) h2.1 (by omega) (by omega)).mono fun r hr => ?_
            have e2 : OutMs wm r.2 := (g1.trans h2.2.ms).trans hr.2.ms
            by_cases z : r.1 = x4
            · refine okt z ?_
              rw [ok_letv, ok_letv, nI_add, ok_some]
              exact ⟨_, rfl, ⟨by rw [weI, if_pos ((hTe k).mpr (hr.1.symm.trans z))], rfl⟩, e2⟩
            · refine okf z ?_
              rw [ok_letv, ok_letv, nI_add, ok_some]
              exact ⟨_, rfl, ⟨by rw [weI, if_neg (fun y => z (hr.1.trans ((hTe k).mp y)))]; exact Int32.or_zero, rfl⟩, e2⟩
          · rintro ⟨_, _, w⟩ ⟨⟨rfl, rfl⟩, g1⟩
            unfold sh_X9_were_s43
            refine okt (show nI 9 < nI 10 by decide) ?_
            rw [ok_some]
            exact ⟨_, rfl, rfl, g1⟩
        refine hX.mono fun r hr => ?_
        rw [ok_some]
        refine okb (mAY hm.1.1 hl hj) (okf (by decide) (okb (mIY (by omega) (by omega)) (okf (by decide) (okb (mIY (by omega) (by omega)) (okf (by decide) ?_)))))
        rw [ok_bind]
        refine hM.mono fun s hs => ?_
        rw [ok_some]
        refine ⟨hr.1.trans hs.1.symm, ?_⟩
        exact h.scr (fun q a _ => hr.2.1 q (by omega)) hs.2 (h.2.2.2.2.2.1.sa hr.2.2.1 hr.2.2.2 (by omega) (by omega)) (h.2.2.2.2.2.2.to fun q hq => hr.2.1 q (by omega))
      · refine okb (xTN hc) (okt rfl ?_)
        rw [ok_some]
        exact okb (mAY hm.1.1 hl hj) (okf (by decide) (okb (mIY (by omega) (by omega)) (okf (by decide) (okb (mIZ (by omega) (by omega) (by omega)) (okt rfl (stay h))))))
    · refine okb (xTN he) (okt rfl ?_)
      rw [ok_some]
      exact okb (mAY hm.1.1 hl hj) (okf (by decide) (okb (mIZ (by omega) (by omega) (by omega)) (okt rfl (stay h))))
  · refine okb (xAlgN hx.1 hl hj) (okt rfl ?_)
    rw [ok_some]
    exact okb (mAN hm.1.1 hl hj) (okt rfl (stay h))
