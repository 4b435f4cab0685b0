/-! calls on parts -/
theorem pfB {L : List Nat} (hS : Sf L) : (pfo L L.length).1 ≤ 24 ∧ sN (pfo L L.length) ≤ 24 ∧ (∀ k, sR (pfo L L.length) k ≤ 3) ∧ (pfo L L.length).2.1 = cr L ∧ PI (pfo L L.length) := by
  obtain ⟨h1, h2, h3⟩ := pfo_c hS L.length (Nat.le_refl _)
  have hl := hS.1
  have hle := hS.le
  rw [List.take_length] at h1
  refine ⟨by omega, ?_, fun k => ?_, h1, h3⟩
  · have := rk_le (g := (pfo L L.length).2.2.2.2.1) (pfo L L.length).1
    unfold sN
    omega
  · have := cnt_le (q := (pfo L L.length).2.2.2.2.2) (c := (pfo L L.length).2.1) (d := un (pfo L L.length).2.2.2.2.1 (pfo L L.length).1 k)
    unfold sR
    omega
theorem Rel.xs {wx wx' : WX} {wm wm' : Mem} {lo hi : Nat} (h : Rel wx wm) (g : OutX lo hi wx wx') (hl : 121 ≤ lo) (e : wx'.2 = wx.2) (gm : OutMs wm wm') : Rel wx' wm' := h.scr (g.xs (by omega)) gm (by rw [e]; exact h.2.2.2.2.2.1) (h.2.2.2.2.2.2.to fun q a => g q (by omega))
theorem mShap {L : List Nat} {j : Nat} {wm : Mem} {α : Type} {f : Mem → Option (α × Mem)} {Q : α × Mem → Prop} (hj : j < 4) (hS : Sf L) (h : SuM 1 j L wm) (hQ : ∀ w, PfM (pfo L L.length) w → RoM L w → OutMs wm w → Ok (f w) Q) : Ok (Option.bind (sh_X9_loads (nI j) wm) (fun w3 => Option.bind (sh_X9_partsOf w3) f)) Q := by
  rw [ok_bind]
  refine (mLoad hj hS.1 h).mono fun w3 h3 => ?_
  rw [ok_bind]
  refine (mParts hS h3.1).mono fun w4 h4 => ?_
  exact hQ w4 h4.1 ⟨by rw [h4.2.2 15 (by omega)]; exact h3.1.1, by rw [h4.2.1 12 (by omega) (by omega)]; exact h3.1.2⟩ (h3.2.ms.trans h4.2.ms)
theorem c_shape {wx : WX} {wm : Mem} (x1 x2 : Int32) (h : Rel wx wm) : Bo (sh_X8_shape x1 x2 wx) (sh_X9_shape x1 x2 wm) := by
  obtain ⟨A, S, P, ⟨hA, hS, hP⟩, hx, hm⟩ := h.1
  unfold sh_X8_shape sh_X9_shape Bo
  rcases spl (x := x1) (n := 4) (by omega) with ⟨j, hj, rfl⟩ | hj
  · refine okb (xSurY (Or.inl rfl) hj) (okf (by omega) (okg (kSur 1 (Or.inl rfl) j hj) ?_))
    have sX := hx.2.1 j hj
    have sM := hm.2.1 j hj
    have sf := hS j hj
    obtain ⟨b1, b2, b3, b4, b5⟩ := pfB sf
    rw [ok_bind]
    refine (xFind sf sX (by omega)).mono fun w4 h4 => ?_
    obtain ⟨p1, p2, p3⟩ := h4
    have hr : ∀ w : Mem, OutMs wm w → Rel w4 w := fun w g => h.xs p2 (by omega) p3 g
    by_cases e0 : x2 = nI 0
    · refine okt e0 ?_
      rw [ok_some, p2 _ (by omega)]
      refine okb (mSY hj) (okf (by decide) (mShap hj sf sM fun w q1 q2 q3 => okt e0 ?_))
      rw [ok_some]
      exact ⟨sX.1.1.trans q2.1.symm, hr w q3⟩
    refine okf e0 ?_
    by_cases e1 : x2 = nI 1
    · refine okt e1 ?_
      rw [ok_some, p2 _ (by omega)]
      refine okb (mSY hj) (okf (by decide) (mShap hj sf sM fun w q1 q2 q3 => okf e0 (okt e1 (okb (mCir sf q2) ?_))))
      rw [ok_some]
      exact ⟨sX.1.2, hr w q3⟩
    refine okf e1 ?_
    by_cases e2 : x2 = nI 2
    · refine okt e2 ?_
      rw [ok_some]
      refine okb (mSY hj) (okf (by decide) (mShap hj sf sM fun w q1 q2 q3 => okf e0 (okf e1 (okt e2 (okb (mPn q1.pc b1) ?_)))))
      rw [ok_some]
      exact ⟨p1.1.1, hr w q3⟩
    refine okf e2 ?_
    by_cases e3 : x2 = nI 3
    · refine okt e3 (okb (xUnl p1.pc b3 b2) ?_)
      rw [ok_some]
      refine okb (mSY hj) (okf (by decide) (mShap hj sf sM fun w q1 q2 q3 => okf e0 (okf e1 (okf e2 (okt e3 (okb (mUnl q1.pc b3 b1) ?_))))))
      rw [ok_some]
      exact ⟨rfl, hr w q3⟩
    refine okf e3 ?_
    by_cases e4 : x2 = nI 4
    · refine okt e4 (okb (xWr p1.pc b3 b2) ?_)
      rw [ok_some]
      refine okb (mSY hj) (okf (by decide) (mShap hj sf sM fun w q1 q2 q3 => okf e0 (okf e1 (okf e2 (okf e3 (okt e4 (okb (mWr q1.pc b3 b1) ?_)))))))
      rw [ok_some]
      exact ⟨rfl, hr w q3⟩
    refine okf e4 ?_
    by_cases e5 : x2 = nI 5
    · refine okt e5 (okb (xEa p1.pc b2) ?_)
      rw [ok_some]
      refine okb (mSY hj) (okf (by decide) (mShap hj sf sM fun w q1 q2 q3 => okf e0 (okf e1 (okf e2 (okf e3 (okf e4 (okt e5 (okb (mEa q1.pc b1) ?_))))))))
      rw [ok_some]
      exact ⟨rfl, hr w q3⟩
    refine okf e5 ?_
    rw [ok_some]
    refine okb (mSY hj) (okf (by decide) (mShap hj sf sM fun w q1 q2 q3 => okf e0 (okf e1 (okf e2 (okf e3 (okf e4 (okf e5 ?_)))))))
    rw [ok_some]
    exact ⟨rfl, hr w q3⟩
  · refine okb (xSurN hj) (okt rfl ?_)
    rw [ok_some]
    exact okb (mSN hj) (okt rfl (stay h))
theorem c_part {wx : WX} {wm : Mem} (x1 x2 x3 : Int32) (h : Rel wx wm) : Bo (sh_X8_part x1 x2 x3 wx) (sh_X9_part x1 x2 x3 wm) := by
  obtain ⟨A, S, P, ⟨hA, hS, hP⟩, hx, hm⟩ := h.1
  unfold sh_X8_part sh_X9_part Bo
  rcases spl (x := x1) (n := 4) (by omega) with ⟨j, hj, rfl⟩ | hj
  · refine okb (xSurY (Or.inl rfl) hj) (okf (by omega) (okg (kSur 1 (Or.inl rfl) j hj) ?_))
    have sX := hx.2.1 j hj
    have sM := hm.2.1 j hj
    have sf := hS j hj
    obtain ⟨b1, b2, b3, b4, b5⟩ := pfB sf
    rw [ok_bind]
    refine (xFind sf sX (by omega)).mono fun w4 h4 => ?_
    obtain ⟨p1, p2, p3⟩ := h4
    have hr : ∀ w : Mem, OutMs wm w → Rel w4 w := fun w g => h.xs p2 (by omega) p3 g
    rcases i32c x2 with ⟨n2, n2'⟩ | ⟨k, hk, rfl⟩
    · refine okt n2 ?_
      rw [ok_some]
      refine okb (mSY hj) (okf (by decide) (okf (by rw [← Int32.not_lt]; exact fun q => q n2) ?_))
      rw [ok_some]
      exact ⟨rfl, hr wm OutMs.refl⟩
    refine okf (by rw [ilt0 hk]; exact not_false) ?_
    have c0 := p1.pc.1
    rw [c0]
    by_cases hkN : k < sN (pfo (S j) (S j).length)
    · refine okt (by rw [ilt hk (by omega)]; exact hkN) ?_
      obtain ⟨v1, v2, v3⟩ := p1.pc.2 k hkN
      obtain ⟨u1, u2, u3⟩ := un_spec hkN
      have pre : ∀ {Q : Int32 × Mem → Prop}, (∀ w5, OutMs wm w5 → Ok (if x3 = nI 0 then some (nI (sR (pfo (S j) (S j).length) k), w5) else if x3 = nI 1 then some ((nI 100) + sE (pfo (S j) (S j).length) k, w5) else if x3 = nI 2 then some (zB (sO (pfo (S j) (S j).length) k), w5) else if x3 = nI 3 then (if zB (sO (pfo (S j) (S j).length) k) = (nI 1) then some (((nI 2) - sE (pfo (S j) (S j).length) k) - nI (sR (pfo (S j) (S j).length) k), w5) else some ((((nI 2) - sE (pfo (S j) (S j).length) k) - nI (sR (pfo (S j) (S j).length) k)) / (nI 2), w5)) else some ((-1 : Int32), w5)) Q) → Ok (Option.bind (sh_X9_isSurface (nI j)) (fun v1 => if v1 = 0 then some ((-1 : Int32), wm) else if 0 ≤ nI k then Option.bind (sh_X9_loads (nI j) wm) (fun w4 => Option.bind (sh_X9_partsOf w4) (fun w5 => Option.bind (sh_X9_partAt (nI k) w5) (fun v6 => if v6 = (-1 : Int32) then some ((-1 : Int32), w5) else Option.bind (ldS 24 16 v6 w5) (fun v8 => Option.bind (ldS 24 17 v6 w5) (fun v9 => letv (((nI 2) - v8) - v9) (fun v10 => if x3 = nI 0 then Option.bind (ldS 24 17 v6 w5) (fun v12 => some (v12, w5)) else if x3 = nI 1 then Option.bind (ldS 24 16 v6 w5) (fun v14 => some ((nI 100) + v14, w5)) else if x3 = nI 2 then Option.bind (ldS 24 18 v6 w5) (fun v16 => some (v16, w5)) else if x3 = nI 3 then Option.bind (ldS 24 18 v6 w5) (fun v18 => if v18 = (nI 1) then some (v10, w5) else some (v10 / (nI 2), w5)) else some ((-1 : Int32), w5))))))) else some ((-1 : Int32), wm))) Q := by
        intro Q hQ
        refine okb (mSY hj) (okf (by decide) (okt (by rw [i0l hk]; trivial) (mShap hj sf sM fun w q1 q2 q3 => ?_)))
        refine okb (mPa q1.pc b1 hk) ?_
        rw [if_pos (show k < rk (pfo (S j) (S j).length).2.2.2.2.1 (pfo (S j) (S j).length).1 from hkN)]
        obtain ⟨t1, t2, t3, t4⟩ := (q1.pc.2 _ u1).1 u2
        rw [u3] at t2 t3 t4
        refine okf (by intro z; rw [← neg1_nI (k := un (pfo (S j) (S j).length).2.2.2.2.1 (pfo (S j) (S j).length).1 k) (by omega)]; exact z.symm) (okb (ldS_ok (by omega) (by omega)) (okb (ldS_ok (by omega) (by omega)) ?_))
        rw [ok_letv, t2, t3]
        have hq := hQ w q3
        by_cases e0 : x3 = nI 0
        · refine okt e0 (okb (ldS_ok (by omega) (by omega)) ?_)
          rw [if_pos e0] at hq
          rw [t3]
          exact hq
        refine okf e0 ?_
        rw [if_neg e0] at hq
        by_cases e1 : x3 = nI 1
        · refine okt e1 (okb (ldS_ok (by omega) (by omega)) ?_)
          rw [if_pos e1] at hq
          rw [t2]
          exact hq
        refine okf e1 ?_
        rw [if_neg e1] at hq
        by_cases e2 : x3 = nI 2
        · refine okt e2 (okb (ldS_ok (by omega) (by omega)) ?_)
          rw [if_pos e2] at hq
          rw [t4]
          exact hq
        refine okf e2 ?_
        rw [if_neg e2] at hq
        by_cases e3 : x3 = nI 3
        · refine okt e3 (okb (ldS_ok (by omega) (by omega)) ?_)
          rw [if_pos e3] at hq
          rw [t4]
          exact hq
        refine okf e3 ?_
        rw [if_neg e3] at hq
        exact hq
      by_cases e0 : x3 = nI 0
      · refine okt e0 (okb (ldS_ok (by omega) (by omega)) ?_)
        rw [ok_some, v2]
        refine pre fun w g => okt e0 ?_
        rw [ok_some]
        exact ⟨rfl, hr w g⟩
      refine okf e0 ?_
      by_cases e1 : x3 = nI 1
      · refine okt e1 (okb (ldS_ok (by omega) (by omega)) ?_)
        rw [ok_some, v1]
        refine pre fun w g => okf e0 (okt e1 ?_)
        rw [ok_some]
        exact ⟨rfl, hr w g⟩
      refine okf e1 ?_
      by_cases e2 : x3 = nI 2
      · refine okt e2 (okb (ldS_ok (by omega) (by omega)) ?_)
        rw [v3]
        cases hO : sO (pfo (S j) (S j).length) k with
        | false =>
          refine okt rfl ?_
          rw [ok_some]
          refine pre fun w g => okf e0 (okf e1 (okt e2 ?_))
          rw [ok_some, hO]
          exact ⟨rfl, hr w g⟩
        | true =>
          refine okf (by decide) ?_
          rw [ok_some]
          refine pre fun w g => okf e0 (okf e1 (okt e2 ?_))
          rw [ok_some, hO]
          exact ⟨rfl, hr w g⟩
      refine okf e2 ?_
      by_cases e3 : x3 = nI 3
      · refine okt e3 ?_
        unfold sh_X2_genus
        rw [ok_bind]
        refine okb (ldS_ok (by omega) (by omega)) (okb (ldS_ok (by omega) (by omega)) ?_)
        rw [ok_letv, v1, v2]
        refine okb (ldS_ok (by omega) (by omega)) ?_
        rw [v3]
        cases hO : sO (pfo (S j) (S j).length) k with
        | false =>
          refine okt rfl ?_
          rw [ok_some, ok_some]
          refine pre fun w g => okf e0 (okf e1 (okf e2 (okt e3 (okf (by rw [hO]; decide) ?_))))
          rw [ok_some]
          exact ⟨rfl, hr w g⟩
        | true =>
          refine okf (by decide) ?_
          rw [ok_some, ok_some]
          refine pre fun w g => okf e0 (okf e1 (okf e2 (okt e3 (okt (by rw [hO]; rfl) ?_))))
          rw [ok_some]
          exact ⟨rfl, hr w g⟩
      refine okf e3 ?_
      rw [ok_some]
      refine pre fun w g => okf e0 (okf e1 (okf e2 (okf e3 ?_)))
      rw [ok_some]
      exact ⟨rfl, hr w g⟩
    · refine okf (by rw [ilt hk (by omega)]; exact hkN) ?_
      rw [ok_some]
      refine okb (mSY hj) (okf (by decide) (okt (by rw [i0l hk]; trivial) (mShap hj sf sM fun w q1 q2 q3 => okb (mPa q1.pc b1 hk) ?_)))
      rw [if_neg (show ¬ k < rk (pfo (S j) (S j).length).2.2.2.2.1 (pfo (S j) (S j).length).1 from hkN)]
      refine okt rfl ?_
      rw [ok_some]
      exact ⟨rfl, hr w q3⟩
  · refine okb (xSurN hj) (okt rfl ?_)
    rw [ok_some]
    exact okb (mSN hj) (okt rfl (stay h))
theorem c_rim {wx : WX} {wm : Mem} (x1 x2 : Int32) (h : Rel wx wm) : Bo (sh_X8_rim x1 x2 wx) (sh_X9_rim x1 x2 wm) := by
  obtain ⟨A, S, P, ⟨hA, hS, hP⟩, hx, hm⟩ := h.1
  unfold sh_X8_rim sh_X9_rim Bo
  rcases spl (x := x1) (n := 4) (by omega) with ⟨j, hj, rfl⟩ | hj
  · refine okb (xSurY (Or.inl rfl) hj) (okf (by omega) (okg (kSur 1 (Or.inl rfl) j hj) ?_))
    have sX := hx.2.1 j hj
    have sM := hm.2.1 j hj
    have sf := hS j hj
    have hle := sf.le
    obtain ⟨b1, b2, b3, b4, b5⟩ := pfB sf
    have pre : ∀ {Q : Int32 × Mem → Prop}, (∀ w3, RoM (S j) w3 → OutMs wm w3 → Ok (if bI (0 ≤ x2.toInt ∧ x2.toInt < cr (S j)) = 0 then some ((-1 : Int32), w3) else Option.bind (sh_X9_partsOf w3) (fun w7 => Option.bind (ldS 3 14 x2 w7) (fun v8 => Option.bind (sh_X9_first v8 w7) (fun v9 => Option.bind (lpw (sh_X9_rim_s53 v9 w7) FU (nI 0, nI 0)) (fun ex10 => some (ex10, w7)))))) Q) → Ok (Option.bind (sh_X9_isSurface (nI j)) (fun v1 => if v1 = 0 then some ((-1 : Int32), wm) else Option.bind (sh_X9_loads (nI j) wm) (fun w3 => Option.bind (sh_X9_circles w3) (fun v4 => Option.bind (sh_X9_isIn x2.toInt64 (lN 0) ((v4 - (nI 1)).toInt64)) (fun v5 => if v5 = 0 then some ((-1 : Int32), w3) else Option.bind (sh_X9_partsOf w3) (fun w7 => Option.bind (ldS 3 14 x2 w7) (fun v8 => Option.bind (sh_X9_first v8 w7) (fun v9 => Option.bind (lpw (sh_X9_rim_s53 v9 w7) FU (nI 0, nI 0)) (fun ex10 => some (ex10, w7)))))))))) Q := by
      intro Q hQ
      refine okb (mSY hj) (okf (by decide) ?_)
      rw [ok_bind]
      refine (mLoad hj sf.1 sM).mono fun w3 h3 => ?_
      exact okb (mCir sf h3.1) (okb (mInS (by omega)) (hQ w3 h3.1 h3.2.ms))
    rcases i32c x2 with ⟨n2, n2'⟩ | ⟨k, hk, rfl⟩
    · refine okt n2 ?_
      rw [ok_some]
      exact pre fun w3 h3 g => okt (bI_eq (by omega)) (stay (h.ms g))
    refine okf (by rw [ilt0 hk]; exact not_false) ?_
    rw [sX.1.2]
    by_cases hkc : k < cr (S j)
    · refine okt (by rw [ilt hk (by omega)]; exact hkc) ?_
      rw [ok_bind]
      refine (xFind sf sX (by omega)).mono fun w4 h4 => ?_
      obtain ⟨p1, p2, p3⟩ := h4
      refine okb (ldS_ok (by omega) (by omega)) ?_
      rw [ok_some, p1.2.2 k (by omega)]
      refine pre fun w3 h3 g => okf (bI_ne (by rw [nI_toInt hk]; omega)) ?_
      rw [ok_bind]
      refine (mParts sf h3).mono fun w7 h7 => okb (ldS_ok (by omega) (by omega)) ?_
      obtain ⟨a, a1, a2⟩ := h7.1.2.2 k (by omega)
      rw [a1]
      have hq := b5.2 k (by omega)
      refine okb a2 (okb (mRk h7.1.pc b1 (by omega)) ?_)
      rw [ok_some]
      exact ⟨rfl, h.xs p2 (by omega) p3 (g.trans h7.2.ms)⟩
    · refine okf (by rw [ilt hk (by omega)]; exact hkc) ?_
      rw [ok_some]
      exact pre fun w3 h3 g => okt (bI_eq (by rw [nI_toInt hk]; omega)) (stay (h.ms g))
  · refine okb (xSurN hj) (okt rfl ?_)
    rw [ok_some]
    exact okb (mSN hj) (okt rfl (stay h))
theorem c_match {wx : WX} {wm : Mem} (x1 x2 : Int32) (h : Rel wx wm) : Bo (sh_X8_match x1 x2 wx) (sh_X9_match x1 x2 wm) := by
  obtain ⟨A, S, P, ⟨hA, hS, hP⟩, hx, hm⟩ := h.1
  unfold sh_X8_match sh_X9_match Bo
  rcases spl (x := x1) (n := 4) (by omega) with ⟨i, hi, rfl⟩ | hi
  · refine okb (xSurY (Or.inl rfl) hi) (okf (by omega) (okg (kSur 1 (Or.inl rfl) i hi) ?_))
    rcases spl (x := x2) (n := 4) (by omega) with ⟨j, hj, rfl⟩ | hj
    · refine okb (xSurY (Or.inl rfl) hj) (okf (by omega) (okg (kSur 1 (Or.inl rfl) j hj) ?_))
      have sXi := hx.2.1 i hi
      have sXj := hx.2.1 j hj
      obtain ⟨b1, b2, b3, b4, b5⟩ := pfB (hS i hi)
      obtain ⟨c1, c2, c3, c4, c5⟩ := pfB (hS j hj)
      rw [ok_bind]
      refine (xFind (t := 131) (hS i hi) sXi (by omega)).mono fun w1 h1 => ?_
      obtain ⟨p1, p2, p3⟩ := h1
      rw [ok_bind]
      refine (xFind (t := 138) (hS j hj) (sXj.to (p2 _ (by omega)) (p2 _ (by omega))) (by omega)).mono fun w2 h2 => ?_
      obtain ⟨q1, q2, q3⟩ := h2
      rw [ok_bind]
      refine (xMat (by omega) (p1.pc.to fun q a b => q2 q (by omega)) q1.pc b3 c3 b2 c2).mono fun r hr => ?_
      obtain ⟨r1, r2, r3⟩ := hr
      rw [ok_some]
      refine okb (mSY hi) (okf (by decide) (okb (mSY hj) (okf (by decide) (mShap hj (hS j hj) (hm.2.1 j hj) fun w5 s1 s2 s3 => ?_))))
      rw [ok_bind]
      refine (mTake s1.pc c1).mono fun t ht => ?_
      obtain ⟨t1, t2, t3⟩ := ht
      have o1 : OutMs wm t.2 := s3.trans ⟨fun q a => t3 q (by omega), fun i _ => by rw [t3 0 (by omega)]⟩
      rw [ok_bind]
      refine (mLoad hi (hS i hi).1 ((hm.2.1 i hi).to (o1.1 1 (by omega)))).mono fun w8 h8 => ?_
      rw [ok_bind]
      refine (mParts (hS i hi) h8.1).mono fun w9 h9 => ?_
      have tk : TkM (sN (pfo (S j) (S j).length)) (sE (pfo (S j) (S j).length)) (sR (pfo (S j) (S j).length)) (sO (pfo (S j) (S j).length)) (fun _ => false) w9 := fun k hk => by
        rw [h9.2.1 19 (by omega) (by omega), h9.2.1 20 (by omega) (by omega), h9.2.1 21 (by omega) (by omega), h8.2.1 19 (by omega) (by omega), h8.2.1 20 (by omega) (by omega), h8.2.1 21 (by omega) (by omega)]
        exact t2 k hk
      rw [ok_bind, t1]
      refine (mMat h9.1.pc tk b3 c3 b1 c2).mono fun z hz => ?_
      rw [ok_some]
      refine ⟨r1.trans hz.1.symm, ?_⟩
      show Rel r.2 z.2
      exact h.xs (lo := 131) (hi := 145) (fun q a => by rw [r2 q (by omega), q2 q (by omega), p2 q (by omega)]) (by omega) (by rw [r3, q3, p3]) (((o1.trans h8.2.ms).trans h9.2.ms).trans ⟨fun q a => hz.2 q (by omega), fun i _ => by rw [hz.2 0 (by omega)]⟩)
    · refine okb (xSurN hj) (okt rfl ?_)
      rw [ok_some]
      exact okb (mSY hi) (okf (by decide) (okb (mSN hj) (okt rfl (stay h))))
  · refine okb (xSurN hi) (okt rfl ?_)
    have e : Ok (sh_X9_match x1 x2 wm) (fun s => (-1 : Int32) = s.1 ∧ Rel wx s.2) := by
      unfold sh_X9_match
      exact okb (mSN hi) (okt rfl (stay h))
    rcases spl (x := x2) (n := 4) (by omega) with ⟨j, hj, rfl⟩ | hj
    · refine okb (xSurY (Or.inl rfl) hj) (okf (by omega) (okg (kSur 1 (Or.inl rfl) j hj) ?_))
      rw [ok_some]
      exact e
    · refine okb (xSurN hj) (okt rfl ?_)
      rw [ok_some]
      exact e
