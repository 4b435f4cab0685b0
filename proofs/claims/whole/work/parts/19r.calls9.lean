/-! behind, write, paper -/
theorem mBh {j : Nat} {x2 : Int32} {A : AL} {S : Nat → List Nat} {P : PL} {wm : Mem} {Q : Int32 × Mem → Prop} (hj : j < 4) (hS : VSs S) (hP : VPs P) (hm : StM 1 A S P wm) (hQ : ∀ w, RoM (plL S P (S j) P.length) w → OutR wm w → Ok (if x2 < (nI 10) then Option.bind (sh_X9_partsOf w) (fun w4 => if x2 = 0 then some (w4 0 15, w4) else if x2 = (nI 1) then Option.bind (sh_X9_circles w4) (fun v8 => some (v8, w4)) else Option.bind (sh_X9_parts w4) (fun v7 => some (v7, w4))) else Option.bind (sh_X9_laysOut_ (x2 - (nI 10)) w) (fun w9 => Option.bind (sh_X9_sums w9) (fun w10 => Option.bind (sh_X9_together w10) (fun v11 => some (v11, w10))))) Q) : Ok (sh_X9_behind__j38 (nI j) x2 wm) Q := by
  unfold sh_X9_behind__j38
  rw [ok_bind]
  refine (mLoad hj (hS j hj).1 (hm.2.1 j hj)).mono fun w3 h3 => ?_
  rw [ok_bind]
  refine (mPlan hS hP (hS j hj) hm.2.1 hm.2.2 h3.2 h3.1).mono fun w4 h4 => ?_
  exact hQ w4 h4.1 h4.2
theorem mBp {x2 : Int32} {L : List Nat} {wm w : Mem} {Q : Int32 × Mem → Prop} (hS : Sf L) (hr : RoM L w) (ho : OutR wm w) (hx : x2 < nI 10) (hQ : ∀ w, PfM (pfo L L.length) w → RoM L w → OutMs wm w → Ok (if x2 = 0 then some (w 0 15, w) else if x2 = (nI 1) then Option.bind (sh_X9_circles w) (fun v8 => some (v8, w)) else Option.bind (sh_X9_parts w) (fun v7 => some (v7, w))) Q) : Ok (if x2 < (nI 10) then Option.bind (sh_X9_partsOf w) (fun w4 => if x2 = 0 then some (w4 0 15, w4) else if x2 = (nI 1) then Option.bind (sh_X9_circles w4) (fun v8 => some (v8, w4)) else Option.bind (sh_X9_parts w4) (fun v7 => some (v7, w4))) else Option.bind (sh_X9_laysOut_ (x2 - (nI 10)) w) (fun w9 => Option.bind (sh_X9_sums w9) (fun w10 => Option.bind (sh_X9_together w10) (fun v11 => some (v11, w10))))) Q := by
  refine okt hx ?_
  rw [ok_bind]
  refine (mParts hS hr).mono fun w4 h4 => hQ w4 h4.1 ⟨by rw [h4.2.2 15 (by omega)]; exact hr.1, by rw [h4.2.1 12 (by omega) (by omega)]; exact hr.2⟩ (ho.ms.trans h4.2.ms)
theorem c_behind {wx : WX} {wm : Mem} (x1 x2 : Int32) (h : Rel wx wm) : Bo (sh_X8_behind x1 x2 wx) (sh_X9_behind_ x1 x2 wm) := by
  obtain ⟨A, S, P, ⟨hA, hS, hP⟩, hx, hm⟩ := h.1
  have hl := hA.1
  unfold sh_X8_behind sh_X9_behind_ Bo
  rcases spl (x := x1) (n := 4) (by omega) with ⟨j, hj, rfl⟩ | hj
  · refine okb (xSurY (Or.inl rfl) hj) (okf (by omega) (okg (kSur 1 (Or.inl rfl) j hj) ?_))
    rw [ok_bind]
    refine (xCop (t := 119) (hS j hj) (hx.2.1 j hj) (by omega)).mono fun w4 h4 => ?_
    have hx4 : StX 1 A S P w4 := hx.to hl fun q a b => h4.2.1 q (by omega)
    rw [ok_bind]
    refine (xPlan hA hS hP (hS j hj) hx4 h4.1).mono fun w5 h5 => ?_
    have hN := Sf_plL hS hP (hS j hj) P.length (Nat.le_refl _)
    obtain ⟨N, eN'⟩ : ∃ N, N = plL S P (S j) P.length := ⟨_, rfl⟩
    have hB : ∀ {Q : Int32 × Mem → Prop}, (∀ w, RoM N w → OutR wm w → Ok (if x2 < (nI 10) then Option.bind (sh_X9_partsOf w) (fun w4 => if x2 = 0 then some (w4 0 15, w4) else if x2 = (nI 1) then Option.bind (sh_X9_circles w4) (fun v8 => some (v8, w4)) else Option.bind (sh_X9_parts w4) (fun v7 => some (v7, w4))) else Option.bind (sh_X9_laysOut_ (x2 - (nI 10)) w) (fun w9 => Option.bind (sh_X9_sums w9) (fun w10 => Option.bind (sh_X9_together w10) (fun v11 => some (v11, w10))))) Q) → Ok (sh_X9_behind__j38 (nI j) x2 wm) Q := fun {Q} hQ => mBh hj hS hP hm (by rw [← eN']; exact hQ)
    rw [← eN'] at hN h5
    have o5 : OutX 119 121 wx w5 := h4.2.1.trans h5.2.1
    have e5 : w5.2 = wx.2 := by rw [h5.2.2, h4.2.2]
    have hx5 : StX 1 A S P w5 := hx.to hl fun q a b => o5 q (by omega)
    have r5 : ∀ w : Mem, OutMs wm w → Rel w5 w := fun w g => h.scr (o5.xs (by omega)) g (by rw [e5]; exact h.2.2.2.2.2.1) ⟨N, hN, h5.1⟩
    obtain ⟨b1, b2, b3, b4, b5⟩ := pfB hN
    have hin : ∀ {m : Nat}, m ≤ 2 → sh_X9_isIn (nI m).toInt64 (lN 0) (lN 2) = some (nI 1) := fun hm => mIY (by omega) (by omega)
    by_cases e0 : x2 = nI 0
    · subst e0
      refine okt rfl ?_
      rw [ok_some]
      refine okb (mSY hj) (okf (by decide) (okb (hin (by omega)) (okf (by decide) (hB fun w q1 q2 => mBp hN q1 q2 (by decide) fun w g1 g2 g3 => okt rfl ?_))))
      rw [ok_some]
      exact ⟨h5.1.1.1.trans g2.1.symm, r5 w g3⟩
    refine okf e0 ?_
    by_cases e1 : x2 = nI 1
    · subst e1
      refine okt rfl ?_
      rw [ok_some]
      refine okb (mSY hj) (okf (by decide) (okb (hin (by omega)) (okf (by decide) (hB fun w q1 q2 => mBp hN q1 q2 (by decide) fun w g1 g2 g3 => okf (by decide) (okt rfl (okb (mCir hN g2) ?_))))))
      rw [ok_some]
      exact ⟨h5.1.1.2, r5 w g3⟩
    refine okf e1 ?_
    by_cases e2 : x2 = nI 2
    · subst e2
      refine okt rfl ?_
      rw [ok_bind]
      refine (xFind (t := 131) hN h5.1 (by omega)).mono fun w9 h9 => ?_
      rw [ok_some]
      refine okb (mSY hj) (okf (by decide) (okb (hin (by omega)) (okf (by decide) (hB fun w q1 q2 => mBp hN q1 q2 (by decide) fun w g1 g2 g3 => okf (by decide) (okf (by decide) (okb (mPn g1.pc b1) ?_))))))
      rw [ok_some]
      exact ⟨h9.1.1.1, (r5 w g3).xs h9.2.1 (by omega) h9.2.2 OutMs.refl⟩
    refine okf e2 ?_
    have hno : sh_X9_isIn x2.toInt64 (lN 0) (lN 2) = some (nI 0) := by
      refine mIZ (by omega) (by omega) ?_
      rintro ⟨a, b⟩
      obtain ⟨q, hq, rfl⟩ := nI_some (n := 3) (by omega) (x := x2) ⟨a, by omega⟩
      have : q = 0 ∨ q = 1 ∨ q = 2 := by omega
      rcases this with rfl | rfl | rfl
      · exact e0 rfl
      · exact e1 rfl
      · exact e2 rfl
    by_cases h10 : nI 10 ≤ x2
    · refine okt h10 ?_
      have n10 : ¬ x2 < nI 10 := Int32.not_lt.mpr h10
      obtain ⟨m, hm2, rfl⟩ : ∃ m, m < 2147483648 ∧ x2 = nI m := by
        rcases i32c x2 with ⟨n2, n2'⟩ | z
        · exact absurd (neg_lt n2 (by omega)) n10
        · exact z
      rw [ile (by omega) hm2] at h10
      unfold sh_X8_thoughtTogether
      rw [isub h10]
      rcases spl (x := nI (m - 10)) (n := A.length) (by omega) with ⟨a, ha, e⟩ | ha
      · rw [e]
        have hk := kAlg 1 (Or.inl rfl) a (by omega)
        have hv := hA.2 a ha
        have hn := (eN_in hv).2.1
        have hF : ∀ q, suN (aK A a) (eN (aK A a) (aS A a)) (aF A a) N N.length q < 9973 := suN_lt _
        rw [ok_bind]
        refine okb (xAlgY (Or.inl rfl) hx5.1 hl ha) (okf (by omega) (okg hk ?_))
        rw [ok_bind]
        refine (xFind5 (t := 145) (Or.inl rfl) (by omega) hk hv hN (by omega) h5.1 (hx5.1.2 a ha) (h.2.2.2.2.2.1.2.2.1.cg (by rw [e5]))).mono fun w1 h1 => ?_
        obtain ⟨p1, p2, p3⟩ := h1
        refine okb (xTg5 hN.le hn hF p1) ?_
        rw [ok_some, ok_some]
        refine okb (mSY hj) (okf (by decide) (okb hno (okt rfl (okf n10 ?_))))
        have hmA : sh_X9_isAlgebra (nI a) wm = some (nI 1) := mAY hm.1.1 hl ha
        refine okb hmA (okf (by decide) (hB fun w q1 q2 => okf n10 ?_))
        have hb := hm.1.2 a ha
        have e1' : w 1 = wm 1 := q2.1 1 (by omega) (by omega)
        rw [isub h10, e, ok_bind]
        refine (mLays_ hv (by omega) (by rw [e1']; exact hb.1) (by rw [e1']; exact hb.2.1) (by rw [e1']; exact hb.2.2)).mono fun u2 g2 => ?_
        have r2 : RoM N u2 := ⟨by rw [g2.2.2 15 (by omega) (by omega)]; exact q1.1, by rw [g2.2.1 12 (by omega) (by omega)]; exact q1.2⟩
        rw [ok_bind]
        refine (mSums (kn_of hv) hN r2 g2.1).mono fun u3 g3 => okb (mTg5 hN.le hn hF g3.1) ?_
        rw [ok_some]
        exact ⟨rfl, (r5 u3 ((q2.ms.trans g2.2.ms).trans g3.2.ms)).s5 (Or.inl rfl) p2 p3 OutMs.refl⟩
      · rw [ok_bind]
        refine okb (xAlgN hx5.1 hl ha) (okt rfl ?_)
        rw [ok_some, ok_some]
        refine okb (mSY hj) (okf (by decide) (okb hno (okt rfl (okf n10 ?_))))
        refine okb (mAN hm.1.1 hl ha) (okt rfl ?_)
        rw [ok_some]
        exact ⟨rfl, r5 wm OutMs.refl⟩
    · refine okf h10 ?_
      rw [ok_some]
      refine okb (mSY hj) (okf (by decide) (okb hno (okt rfl (okt (Int32.not_le.mp h10) ?_))))
      rw [ok_some]
      exact ⟨rfl, r5 wm OutMs.refl⟩
  · refine okb (xSurN hj) (okt rfl ?_)
    rw [ok_some]
    exact okb (mSN hj) (okt rfl (stay h))
theorem letP : ∀ p, p < 7 → tbl7 sLET (nI p) = some (sLET p) ∧ sh_X9_letterOf (nI p) = some (sLET p) := by decide +kernel
theorem c_write {wx : WX} {wm : Mem} (x1 : Int32) (h : Rel wx wm) : Bo (sh_X8_write x1 wx) (sh_X9_write x1 wm) := by
  obtain ⟨A, S, P, ⟨hA, hS, hP⟩, hx, hm⟩ := h.1
  unfold sh_X8_write sh_X9_write Bo
  rcases spl (x := x1) (n := 4) (by omega) with ⟨j, hj, rfl⟩ | hj
  · refine okb (xSurY (Or.inl rfl) hj) (okf (by omega) (okg (kSur 1 (Or.inl rfl) j hj) ?_))
    have sX := hx.2.1 j hj
    have sM := hm.2.1 j hj
    have sf := hS j hj
    have hl := sf.1
    have hX : Ok (lpw (sh_X8_write_s17 (1 + 2 + 44 + 2 * j)) FU (nI 0, wx)) (fun w => (∀ i, i < (S j).length → w.1 118 i = sLET ((S j).getD i 0)) ∧ (∀ q, q ≠ 118 → w.1 q = wx.1 q) ∧ w.2 = wx.2) := by
      refine ok_for (S j).length (fun k s => s.1 = nI k ∧ (∀ i, i < k → s.2.1 118 i = sLET ((S j).getD i 0)) ∧ (∀ q, q ≠ 118 → s.2.1 q = wx.1 q) ∧ s.2.2 = wx.2) ⟨rfl, fun i hi => absurd hi (Nat.not_lt_zero i), fun _ _ => rfl, rfl⟩ ?_ ?_ (by omega)
      · rintro k ⟨_, w⟩ hk ⟨rfl, g1, g2, g3⟩
        have g1 : ∀ i, i < k → w.1 118 i = sLET ((S j).getD i 0) := g1
        have g2 : ∀ q, q ≠ 118 → w.1 q = wx.1 q := g2
        unfold sh_X8_write_s17
        have e1 : w.1 (1 + 2 + 44 + 2 * j) 1 = nI (S j).length := by rw [g2 _ (by omega)]; exact sX.1.1
        refine okf (by show ¬ w.1 (1 + 2 + 44 + 2 * j) 1 ≤ nI k; rw [e1, ile (by omega) (by omega)]; omega) (okb (ldS_ok (by omega) (by omega)) ?_)
        have e2 : w.1 (1 + 2 + 44 + 2 * j + 1) k = nI ((S j).getD k 0) := by rw [g2 _ (by omega)]; have := sX.2 k hk; rwa [Nat.zero_add] at this
        rw [show ((nI k, w) : Int32 × WX).2.1 (1 + 2 + 44 + 2 * j + 1) k = nI ((S j).getD k 0) from e2]
        refine okb (letP _ (sf.getD hk)).1 ?_
        rw [ok_bind]
        refine ok_stX (by omega) (by omega) fun w' f1 f2 f3 f4 => ?_
        rw [ok_letv, nI_add, ok_some]
        refine ⟨_, rfl, rfl, fun i hi => ?_, fun q hq => (f1 q hq).trans (g2 q hq), f4.trans g3⟩
        by_cases z : i = k
        · rw [z]; exact f3
        · exact (f2 i z).trans (g1 i (by omega))
      · rintro ⟨_, w⟩ ⟨rfl, g1, g2, g3⟩
        have g2 : ∀ q, q ≠ 118 → w.1 q = wx.1 q := g2
        unfold sh_X8_write_s17
        have e1 : w.1 (1 + 2 + 44 + 2 * j) 1 = nI (S j).length := by rw [g2 _ (by omega)]; exact sX.1.1
        refine okt (by show w.1 (1 + 2 + 44 + 2 * j) 1 ≤ nI _; rw [e1]; exact Int32.le_refl _) ?_
        rw [ok_some]
        exact ⟨_, rfl, g1, g2, g3⟩
    rw [ok_bind]
    refine hX.mono fun w1 h1 => ?_
    obtain ⟨p1, p2, p3⟩ := h1
    rw [show w1.1 (1 + 2 + 44 + 2 * j) 1 = nI (S j).length by rw [p2 _ (by omega)]; exact sX.1.1]
    refine ok_pX fun w2 f1 f2 f3 f4 => ?_
    rw [ok_some, f3]
    refine okb (mSY hj) (okf (by decide) ?_)
    rw [nI_add]
    refine okb (ldS_ok (by omega) (by omega)) ?_
    rw [sM.1]
    refine ok_ms fun m1 a1 a2 a3 => ?_
    have hM : Ok (lpw (sh_X9_write_s24 (nI j)) FU (nI 0, m1)) (fun w => (∀ i, i < (S j).length → w 25 i = sLET ((S j).getD i 0)) ∧ (∀ q, q ≠ 25 → w q = m1 q)) := by
      refine ok_for (S j).length (fun k s => s.1 = nI k ∧ (∀ i, i < k → s.2 25 i = sLET ((S j).getD i 0)) ∧ (∀ q, q ≠ 25 → s.2 q = m1 q)) ⟨rfl, fun i hi => absurd hi (Nat.not_lt_zero i), fun _ _ => rfl⟩ ?_ ?_ (by omega)
      · rintro k ⟨_, w⟩ hk ⟨rfl, g1, g2⟩
        have g1 : ∀ i, i < k → w 25 i = sLET ((S j).getD i 0) := g1
        have g2 : ∀ q, q ≠ 25 → w q = m1 q := g2
        unfold sh_X9_write_s24
        refine okf (by show ¬ w 0 32 ≤ nI k; rw [g2 0 (by omega), a3, ile (by omega) (by omega)]; omega) ?_
        rw [show ((nI k, w) : Int32 × Mem).1 = nI k from rfl, ixM]
        refine okb (ldS_ok (by omega) (by omega)) ?_
        rw [show ((nI k, w) : Int32 × Mem).2 1 (17 + 24 * j + k) = nI ((S j).getD k 0) from by show w 1 _ = _; rw [g2 1 (by omega), a1 1 (by omega)]; exact sM.2 k hk]
        refine okb (letP _ (sf.getD hk)).2 ?_
        rw [ok_bind]
        refine ok_stM (by omega) (by omega) fun w' f1 f2 f3 => ?_
        rw [ok_letv, nI_add, ok_some]
        refine ⟨_, rfl, rfl, fun i hi => ?_, fun q hq => (f1 q hq).trans (g2 q hq)⟩
        by_cases z : i = k
        · rw [z]; exact f3
        · exact (f2 i z).trans (g1 i (by omega))
      · rintro ⟨_, w⟩ ⟨rfl, g1, g2⟩
        have g2 : ∀ q, q ≠ 25 → w q = m1 q := g2
        unfold sh_X9_write_s24
        refine okt (by show w 0 32 ≤ nI _; rw [g2 0 (by omega), a3]; exact Int32.le_refl _) ?_
        rw [ok_some]
        exact ⟨_, rfl, g1, g2⟩
    rw [ok_bind]
    refine hM.mono fun m2 h2 => ?_
    rw [ok_some]
    have e32 : m2 0 32 = nI (S j).length := by rw [h2.2 0 (by omega)]; exact a3
    refine ⟨e32.symm, ?_⟩
    show Rel w2 m2
    obtain ⟨h1', h2', h3', h4', h5', h6', h7'⟩ := h
    have gx : ∀ q, q ≠ 0 → q ≠ 118 → w2.1 q = wx.1 q := fun q a b => by rw [f1 q a, p2 q b]
    have gm : ∀ q, q ≠ 0 → q ≠ 25 → m2 q = wm q := fun q a b => by rw [h2.2 q b, a1 q a]
    have gm0 : ∀ i, i ≠ 32 → m2 0 i = wm 0 i := fun i a => by rw [h2.2 0 (by omega), a2 i a]
    refine ⟨h1'.to (fun q a b c => gx q (by omega) (by omega)) (gm 1 (by omega) (by omega)), h2'.to (by rw [f2 2 (by omega), p2 0 (by omega)]) (fun q a b => gx q (by omega) (by omega)) (gm0 2 (by omega)) (gm 2 (by omega) (by omega)), h3'.to (gx _ (by omega) (by omega)) (gx _ (by omega) (by omega)) (gm0 17 (by omega)) (gm 13 (by omega) (by omega)), ⟨(S j).length, hl, f3, e32, fun i hi => ?_⟩, h5'.to (fun q a b => gx q (by omega) (by omega)) (gm 26 (by omega) (by omega)) (gm 27 (by omega) (by omega)), by rw [f4, p3]; exact h6', h7'.to fun q a => gx q (by omega) (by omega)⟩
    rw [h2.1 i hi, f1 118 (by omega)]
    exact p1 i hi
  · refine okb (xSurN hj) (okt rfl ?_)
    rw [ok_some]
    exact okb (mSN hj) (okt rfl (stay h))
theorem c_paper {wx : WX} {wm : Mem} (x1 : Int32) (h : Rel wx wm) : ∃ v, sh_X8_paper x1 wx = some v ∧ sh_X9_paper x1 wm = some v := by
  obtain ⟨n, hn, p1, p2, p3⟩ := h.2.2.2.1
  suffices g : Ok (sh_X8_paper x1 wx) (fun r => Ok (sh_X9_paper x1 wm) (fun s => s = r)) by
    obtain ⟨v, h1, u, h2, rfl⟩ := g
    exact ⟨u, h1, h2⟩
  unfold sh_X8_paper sh_X9_paper
  rw [p1, p2]
  rcases i32c x1 with ⟨n2, n2'⟩ | ⟨k, hk, rfl⟩
  · refine okt n2 ?_
    rw [ok_some]
    refine okb (mInS (by omega)) (okt (bI_eq (by omega)) ?_)
    rw [ok_some]
  refine okf (by rw [ilt0 hk]; exact not_false) ?_
  by_cases z : k < n
  · refine okt (by rw [ilt hk (by omega)]; exact z) (okb (ldS_ok (by omega) (by omega)) ?_)
    rw [ok_some]
    refine okb (mInS (by omega)) (okf (bI_ne (by rw [nI_toInt hk]; omega)) (okb (ldS_ok (by omega) (by omega)) ?_))
    rw [ok_some]
    exact (p3 k z).symm
  · refine okf (by rw [ilt hk (by omega)]; exact z) ?_
    rw [ok_some]
    refine okb (mInS (by omega)) (okt (bI_eq (by rw [nI_toInt hk]; omega)) ?_)
    rw [ok_some]
