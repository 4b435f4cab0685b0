/-! lists -/
theorem xLY {i : Nat} (hi : i < 4) : sh_X1_hasNumber (nI i) = some (nI 1) := by
  unfold sh_X1_hasNumber
  rw [if_neg (by rw [ilt0 (by omega)]; exact not_false), if_neg (by rw [ile (by omega) (by omega)]; omega)]
theorem xLN {x : Int32} (h : ¬ (0 ≤ x.toInt ∧ x.toInt < (4 : Nat))) : sh_X1_hasNumber x = some (nI 0) := by
  unfold sh_X1_hasNumber
  rcases i32c x with ⟨n1, n1'⟩ | ⟨k, hk, rfl⟩
  · rw [if_pos n1]
  · rw [nI_toInt hk] at h
    rw [if_neg (by rw [ilt0 (by omega)]; exact not_false), if_pos (by rw [ile (by omega) (by omega)]; omega)]
theorem mLY {i : Nat} (hi : i < 4) : sh_X9_isList (nI i) = some (nI 1) := by
  unfold sh_X9_isList
  rw [mIY (by omega) (by omega), bsome, grd_ok (Or.inr rfl)]
theorem mLN {x : Int32} (h : ¬ (0 ≤ x.toInt ∧ x.toInt < (4 : Nat))) : sh_X9_isList x = some (nI 0) := by
  unfold sh_X9_isList
  rw [mIZ (by omega) (by omega) (by omega), bsome, grd_ok (Or.inl rfl)]
theorem kLi : ∀ i, i < 4 → KDx (112 + 1 + 1 * i) = (10, 12) := by decide +kernel
theorem xHe0 {i : Nat} {w : WX} (hi : i < 4) (h : w.1 117 i = (-1 : Int32)) : sh_X1_isHeld (nI i) w = some (nI 0) := by
  unfold sh_X1_isHeld
  rw [xLY hi, bsome, if_neg (by decide), ldS_ok (by omega) (by omega), bsome, h, if_pos (by decide)]
theorem xHe1 {i n : Nat} {w : WX} (hi : i < 4) (hn : n < 2147483648) (h : w.1 117 i = nI n) : sh_X1_isHeld (nI i) w = some (nI 1) := by
  unfold sh_X1_isHeld
  rw [xLY hi, bsome, if_neg (by decide), ldS_ok (by omega) (by omega), bsome, h, if_neg (by rw [ilt0 hn]; exact not_false)]
theorem xHp0 {i : Nat} {x : Int32} {w : WX} (hi : i < 4) (h : w.1 117 i = (-1 : Int32)) : sh_X1_hasPlace (nI i) x w = some (nI 0) := by
  unfold sh_X1_hasPlace
  rw [xHe0 hi h, bsome, if_pos (show nI 0 = 0 from rfl)]
theorem xHpN {x1 x : Int32} {w : WX} (h : ¬ (0 ≤ x1.toInt ∧ x1.toInt < (4 : Nat))) : sh_X1_hasPlace x1 x w = some (nI 0) := by
  unfold sh_X1_hasPlace sh_X1_isHeld
  rw [xLN h, bsome, if_pos (show nI 0 = 0 from rfl), bsome, if_pos (show nI 0 = 0 from rfl)]
theorem xHp1 {i n : Nat} {x : Int32} {w : WX} (hi : i < 4) (hn : n < 2147483648) (h : w.1 117 i = nI n) : sh_X1_hasPlace (nI i) x w = some (bI (0 ≤ x.toInt ∧ x.toInt < n)) := by
  unfold sh_X1_hasPlace
  rw [xHe1 hi hn h, bsome, if_neg (by decide)]
  rcases i32c x with ⟨n1, n1'⟩ | ⟨k, hk, rfl⟩
  · rw [if_pos n1, bI_f (by omega)]
  · rw [if_neg (by rw [ilt0 hk]; exact not_false), ldS_ok (by omega) (by omega), bsome, h, nI_toInt hk]
    by_cases z : n ≤ k
    · rw [if_pos (by rw [ile hn hk]; exact z), bI_f (by omega)]
    · rw [if_neg (by rw [ile hn hk]; exact z), bI_t (by omega)]
theorem mCe1 {i n : Nat} {x : Int32} {w : Mem} (hi : i < 4) (hn : n < 1073741824) (h : w 26 i = nI n) : sh_X9_isCell (nI i) x w = some (bI (0 ≤ x.toInt ∧ x.toInt < n)) := by
  unfold sh_X9_isCell
  rw [ldS_ok (by omega) (by omega), bsome, h, mInS hn, bsome, grd_ok bI_or]
theorem mCe0 {i : Nat} {x : Int32} {w : Mem} (hi : i < 4) (h : w 26 i = (-1 : Int32)) : sh_X9_isCell (nI i) x w = some (nI 0) := by
  unfold sh_X9_isCell
  rw [ldS_ok (by omega) (by omega), bsome, h, mIn0, bsome, bI_f, grd_ok (Or.inl rfl)]
  rw [show ((-1 : Int32) - nI 1).toInt64.toInt = -2 by decide, lN_toInt (by omega)]
  omega
theorem c_list {wx : WX} {wm : Mem} (x1 x2 : Int32) (h : Rel wx wm) : Bo (sh_X8_list x1 x2 wx) (sh_X9_list x1 x2 wm) := by
  unfold sh_X8_list sh_X9_list Bo
  rcases spl (x := x1) (n := 4) (by omega) with ⟨i, hi, rfl⟩ | hi
  · refine okb (xLY hi) (okf (by decide) ?_)
    rcases i32c x2 with ⟨n2, n2'⟩ | ⟨n, hn, rfl⟩
    · refine okt (Int32.le_of_lt (neg_lt n2 (by omega))) (okf (Int32.not_le.mpr n2) ?_)
      rw [ok_some]
      exact okb (mLY hi) (okf (by decide) (okt (Int32.le_of_lt (neg_lt n2 (by omega))) (okf (Int32.not_le.mpr n2) (stay h))))
    by_cases hn12 : n ≤ 12
    · have c1 : nI n ≤ nI 12 := by rw [ile hn (by omega)]; exact hn12
      have c2 : (0 : Int32) ≤ nI n := by rw [i0l hn]; trivial
      refine okt c1 (okt c2 ?_)
      unfold sh_X1_hold
      rw [ok_bind]
      refine okb (xLY hi) (okf (by decide) (okf (by rw [ilt0 hn]; exact not_false) (okt c1 ?_)))
      rw [ok_bind]
      refine ok_stX hi (by omega) fun w1 f1 f2 f3 f4 => ?_
      have hX : Ok (lpw (sh_X1_hold_s28 (nI i) (nI n)) FU (nI 0, w1)) (fun w => (∀ j, j < n → w.1 (112 + 1 + 1 * i) j = nI 0) ∧ (∀ q, q ≠ 112 + 1 + 1 * i → w.1 q = w1.1 q) ∧ w.2 = w1.2) := by
        refine ok_for n (fun k s => s.1 = nI k ∧ (∀ j, j < k → s.2.1 (112 + 1 + 1 * i) j = nI 0) ∧ (∀ q, q ≠ 112 + 1 + 1 * i → s.2.1 q = w1.1 q) ∧ s.2.2 = w1.2) ⟨rfl, fun j hj => absurd hj (Nat.not_lt_zero j), fun _ _ => rfl, rfl⟩ ?_ ?_ (by omega)
        · rintro k ⟨_, w⟩ hk ⟨rfl, g1, g2, g3⟩
          unfold sh_X1_hold_s28
          refine okf (by rw [ile (by omega) (by omega)]; omega) (okg (inb4 hi) ?_)
          rw [iclamp (by omega)]
          refine okg (kLi i hi) ?_
          rw [ok_bind]
          refine ok_stX (by omega) (by omega) fun w' d1 d2 d3 d4 => ?_
          rw [ok_letv, nI_add, ok_some]
          refine ⟨_, rfl, rfl, fun j hj => ?_, fun q hq => (d1 q hq).trans (g2 q hq), d4.trans g3⟩
          by_cases z : j = k
          · rw [z]; exact d3
          · exact (d2 j z).trans (g1 j (by omega))
        · rintro ⟨_, w⟩ ⟨rfl, g1, g2, g3⟩
          unfold sh_X1_hold_s28
          refine okt (Int32.le_refl _) ?_
          rw [ok_some]
          exact ⟨_, rfl, g1, g2, g3⟩
      rw [ok_bind]
      refine hX.mono fun w2 h2 => ?_
      rw [ok_some, ok_some]
      refine okb (mLY hi) (okf (by decide) (okt c1 (okt c2 ?_)))
      rw [ok_bind]
      refine ok_stM hi (by omega) fun m1 a1 a2 a3 => ?_
      have hM : Ok (lpw (sh_X9_list_s34 (nI i)) FU (nI 0, m1)) (fun w => (∀ j, j < 12 → w 27 (12 * i + j) = nI 0) ∧ (∀ j, (j < 12 * i ∨ 12 * i + 12 ≤ j) → w 27 j = m1 27 j) ∧ (∀ q, q ≠ 27 → w q = m1 q)) := by
        refine ok_for 12 (fun k s => s.1 = nI k ∧ (∀ j, j < k → s.2 27 (12 * i + j) = nI 0) ∧ (∀ j, (j < 12 * i ∨ 12 * i + 12 ≤ j) → s.2 27 j = m1 27 j) ∧ (∀ q, q ≠ 27 → s.2 q = m1 q)) ⟨rfl, fun j hj => absurd hj (Nat.not_lt_zero j), fun _ _ => rfl, fun _ _ => rfl⟩ ?_ ?_ (by omega)
        · rintro k ⟨_, w⟩ hk ⟨rfl, g1, g2, g3⟩
          unfold sh_X9_list_s34
          refine okf (by rw [ile (by omega) (by omega)]; omega) ?_
          rw [show ((nI k, w) : Int32 × Mem).1 = nI k from rfl, pk_mul, nI_add, ok_bind]
          refine ok_stM (by omega) (by omega) fun w' d1 d2 d3 => ?_
          rw [ok_letv, nI_add, ok_some]
          refine ⟨_, rfl, rfl, fun j hj => ?_, fun j hj => (d2 j (by omega)).trans (g2 j hj), fun q hq => (d1 q hq).trans (g3 q hq)⟩
          by_cases z : j = k
          · rw [z]; exact d3
          · exact (d2 (12 * i + j) (by omega)).trans (g1 j (by omega))
        · rintro ⟨_, w⟩ ⟨rfl, g1, g2, g3⟩
          unfold sh_X9_list_s34
          refine okt (Int32.le_refl _) ?_
          rw [ok_some]
          exact ⟨_, rfl, g1, g2, g3⟩
      rw [ok_bind]
      refine hM.mono fun m2 k2 => ?_
      rw [ok_some]
      refine ⟨rfl, ?_⟩
      show Rel w2 m2
      obtain ⟨h1', h2', h3', h4', h5', h6', h7'⟩ := h
      have gx : ∀ q, q ≠ 117 → q ≠ 112 + 1 + 1 * i → w2.1 q = wx.1 q := fun q a b => by rw [h2.2.1 q b, f1 q a]
      have gm : ∀ q, q ≠ 26 → q ≠ 27 → m2 q = wm q := fun q a b => by rw [k2.2.2 q b, a1 q a]
      refine ⟨h1'.to (fun q a b c => gx q (by omega) (by omega)) (gm 1 (by omega) (by omega)), h2'.to (by rw [gx 0 (by omega) (by omega)]) (fun q a b => gx q (by omega) (by omega)) (by rw [gm 0 (by omega) (by omega)]) (gm 2 (by omega) (by omega)), h3'.to (gx _ (by omega) (by omega)) (gx _ (by omega) (by omega)) (by rw [gm 0 (by omega) (by omega)]) (gm 13 (by omega) (by omega)), h4'.to (by rw [gx 0 (by omega) (by omega)]) (gx _ (by omega) (by omega)) (by rw [gm 0 (by omega) (by omega)]) (gm 25 (by omega) (by omega)), fun l hl => ?_, by rw [h2.2.2, f4]; exact h6', h7'.to fun q a => gx q (by omega) (by omega)⟩
      have e117 : w2.1 117 = w1.1 117 := h2.2.1 117 (by omega)
      have e26 : m2 26 = m1 26 := k2.2.2 26 (by omega)
      by_cases z : l = i
      · subst z
        rw [e117, e26, f3, a3]
        exact ⟨rfl, Or.inr ⟨n, hn12, rfl, fun j hj => by rw [h2.1 j hj, k2.1 j (by omega)]⟩⟩
      · have eq : ∀ j, j < 12 → m2 27 (12 * l + j) = wm 27 (12 * l + j) := fun j hj => by rw [k2.2.1 _ (by omega), a1 27 (by omega)]
        obtain ⟨t1, t2⟩ := h5' l hl
        rw [e117, e26, f2 l z, a2 l z, gx (112 + 1 + 1 * l) (by omega) (by omega)]
        refine ⟨t1, t2.imp id ?_⟩
        rintro ⟨n', hn', u1, u2⟩
        exact ⟨n', hn', u1, fun j hj => by rw [eq j (by omega)]; exact u2 j hj⟩
    · have c1 : ¬ nI n ≤ nI 12 := by rw [ile hn (by omega)]; exact hn12
      refine okf c1 ?_
      rw [ok_some]
      exact okb (mLY hi) (okf (by decide) (okf c1 (stay h)))
  · refine okb (xLN hi) (okt rfl ?_)
    rw [ok_some]
    exact okb (mLN hi) (okt rfl (stay h))
theorem c_put {wx : WX} {wm : Mem} (x1 x2 x3 : Int32) (h : Rel wx wm) : Bo (sh_X8_put x1 x2 x3 wx) (sh_X9_put x1 x2 x3 wm) := by
  unfold sh_X8_put sh_X9_put Bo
  rcases spl (x := x1) (n := 4) (by omega) with ⟨i, hi, rfl⟩ | hi
  · refine okb (xLY hi) (okf (by decide) ?_)
    obtain ⟨t1, t2⟩ := h.2.2.2.2.1 i hi
    rcases t2 with t2 | ⟨n, hn, t2, t3⟩
    · refine okb (xHe0 hi (t1.trans t2)) (okt rfl ?_)
      rw [ok_some]
      refine okb (mLY hi) (okf (by decide) (okb (ldS_ok (by omega) (by omega)) ?_))
      rw [t2]
      exact okf (by decide) (stay h)
    · refine okb (xHe1 hi (by omega) (t1.trans t2)) (okf (by decide) (okb (xHp1 hi (by omega) (t1.trans t2)) ?_))
      have pre : ∀ {Q : Int32 × Mem → Prop}, Ok (if bI (0 ≤ x2.toInt ∧ x2.toInt < n) = 0 then some ((-13 : Int32), wm) else Option.bind (stM 48 27 (((nI 12) * nI i) + x2) x3 wm) (fun w7 => some (nI 1, w7))) Q → Ok (Option.bind (sh_X9_isList (nI i)) (fun v1 => if v1 = 0 then some ((-1 : Int32), wm) else Option.bind (ldS 4 26 (nI i) wm) (fun v3 => if 0 ≤ v3 then Option.bind (sh_X9_isCell (nI i) x2 wm) (fun v5 => if v5 = 0 then some ((-13 : Int32), wm) else Option.bind (stM 48 27 (((nI 12) * nI i) + x2) x3 wm) (fun w7 => some (nI 1, w7))) else some ((-11 : Int32), wm)))) Q := by
        intro Q hQ
        refine okb (mLY hi) (okf (by decide) (okb (ldS_ok (by omega) (by omega)) ?_))
        rw [t2]
        exact okt (by rw [i0l (by omega)]; trivial) (okb (mCe1 hi (by omega) t2) hQ)
      by_cases z : 0 ≤ x2.toInt ∧ x2.toInt < n
      · obtain ⟨k, hk, rfl⟩ := nI_some (by omega) z
        refine okf (bI_ne z) (okg (inb4 hi) ?_)
        rw [iclamp (by omega)]
        refine okg (kLi i hi) ?_
        rw [ok_bind]
        refine ok_stX (by omega) (by omega) fun w1 f1 f2 f3 f4 => ?_
        rw [ok_some]
        refine pre (okf (bI_ne z) ?_)
        rw [pk_mul, nI_add, ok_bind]
        refine ok_stM (by omega) (by omega) fun m1 a1 a2 a3 => ?_
        rw [ok_some]
        refine ⟨rfl, ?_⟩
        show Rel w1 m1
        obtain ⟨h1', h2', h3', h4', h5', h6', h7'⟩ := h
        refine ⟨h1'.to (fun q a b c => f1 q (by omega)) (a1 1 (by omega)), h2'.to (by rw [f1 0 (by omega)]) (fun q a b => f1 q (by omega)) (by rw [a1 0 (by omega)]) (a1 2 (by omega)), h3'.to (f1 _ (by omega)) (f1 _ (by omega)) (by rw [a1 0 (by omega)]) (a1 13 (by omega)), h4'.to (by rw [f1 0 (by omega)]) (f1 _ (by omega)) (by rw [a1 0 (by omega)]) (a1 25 (by omega)), fun l hl => ?_, by rw [f4]; exact h6', h7'.to fun q a => f1 q (by omega)⟩
        rw [f1 117 (by omega), a1 26 (by omega)]
        by_cases y : l = i
        · subst y
          refine ⟨t1, Or.inr ⟨n, hn, t2, fun j hj => ?_⟩⟩
          by_cases y2 : j = k
          · subst y2
            rw [f3, a3]
          · rw [f2 j y2, a2 _ (by omega)]
            exact t3 j hj
        · obtain ⟨s1, s2⟩ := h5' l hl
          rw [f1 (112 + 1 + 1 * l) (by omega)]
          refine ⟨s1, s2.imp id ?_⟩
          rintro ⟨n', hn', u1, u2⟩
          exact ⟨n', hn', u1, fun j hj => by rw [a2 _ (by omega)]; exact u2 j hj⟩
      · refine okt (bI_eq z) ?_
        rw [ok_some]
        exact pre (okt (bI_eq z) (stay h))
  · refine okb (xLN hi) (okt rfl ?_)
    rw [ok_some]
    exact okb (mLN hi) (okt rfl (stay h))
theorem c_get {wx : WX} {wm : Mem} (x1 x2 : Int32) (h : Rel wx wm) : ∃ v, sh_X8_get x1 x2 wx = some v ∧ sh_X9_get x1 x2 wm = some v := by
  suffices g : Ok (sh_X8_get x1 x2 wx) (fun r => Ok (sh_X9_get x1 x2 wm) (fun s => s = r)) by
    obtain ⟨v, h1, u, h2, rfl⟩ := g
    exact ⟨u, h1, h2⟩
  unfold sh_X8_get sh_X9_get
  rcases spl (x := x1) (n := 4) (by omega) with ⟨i, hi, rfl⟩ | hi
  · obtain ⟨t1, t2⟩ := h.2.2.2.2.1 i hi
    rcases t2 with t2 | ⟨n, hn, t2, t3⟩
    · refine okb (xHp0 hi (t1.trans t2)) (okt rfl ?_)
      rw [ok_some]
      refine okb (mLY hi) (okf (by decide) (okb (mCe0 hi t2) (okt rfl ?_)))
      rw [ok_some]
    · refine okb (xHp1 hi (by omega) (t1.trans t2)) ?_
      by_cases z : 0 ≤ x2.toInt ∧ x2.toInt < n
      · obtain ⟨k, hk, rfl⟩ := nI_some (by omega) z
        refine okf (bI_ne z) (okg (inb4 hi) ?_)
        rw [iclamp (by omega)]
        refine okg (kLi i hi) (okb (ldS_ok (by omega) (by omega)) ?_)
        rw [ok_some]
        refine okb (mLY hi) (okf (by decide) (okb (mCe1 hi (by omega) t2) (okf (bI_ne z) ?_)))
        rw [pk_mul, nI_add]
        refine okb (ldS_ok (by omega) (by omega)) ?_
        rw [ok_some, t3 k hk]
      · refine okt (bI_eq z) ?_
        rw [ok_some]
        refine okb (mLY hi) (okf (by decide) (okb (mCe1 hi (by omega) t2) (okt (bI_eq z) ?_)))
        rw [ok_some]
  · refine okb (xHpN hi) (okt rfl ?_)
    rw [ok_some]
    refine okb (mLN hi) (okt rfl ?_)
    rw [ok_some]
theorem StM.copy {r r' : Nat} {A : AL} {S : Nat → List Nat} {P : PL} {w w' : Mem} (hA : A.length ≤ 4) (hS : VSs S) (hP : P.length ≤ 8) (h : StM r A S P w) (g : ∀ i, i < 130 → w' r' i = w r i) : StM r' A S P w' := by
  refine ⟨⟨by rw [g _ (by omega)]; exact h.1.1, fun i hi => ?_⟩, fun i hi => ?_, by rw [g _ (by omega)]; exact h.2.2.1, fun i hi => ?_⟩
  · rw [g _ (by omega), g _ (by omega), g _ (by omega)]; exact h.1.2 i hi
  · have hl := (hS i hi).1
    refine ⟨by rw [g _ (by omega)]; exact (h.2.1 i hi).1, fun l hl' => ?_⟩
    rw [g _ (by omega)]
    exact (h.2.1 i hi).2 l hl'
  · rw [g _ (by omega), g _ (by omega)]; exact h.2.2.2 i hi
theorem mImg {w : Mem} : Ok (lpw (sh_X9_image_s2) FU (nI 0, w)) (fun w' => (∀ i, i < 130 → w' 2 i = w 1 i) ∧ ∀ q, q ≠ 2 → w' q = w q) := by
  refine ok_for 130 (fun k s => s.1 = nI k ∧ (∀ i, i < k → s.2 2 i = w 1 i) ∧ ∀ q, q ≠ 2 → s.2 q = w q) ⟨rfl, fun i hi => absurd hi (Nat.not_lt_zero i), fun _ _ => rfl⟩ ?_ ?_ (by omega)
  · rintro k ⟨_, u⟩ hk ⟨rfl, g1, g2⟩
    unfold sh_X9_image_s2
    refine okf (by rw [ile (by omega) (by omega)]; omega) (okb (ldS_ok (by omega) (by omega)) ?_)
    rw [ok_bind]
    refine ok_stM (by omega) (by omega) fun w' f1 f2 f3 => ?_
    rw [ok_letv, nI_add, ok_some]
    refine ⟨_, rfl, rfl, fun i hi => ?_, fun q hq => (f1 q hq).trans (g2 q hq)⟩
    by_cases z : i = k
    · rw [z]; exact f3.trans (congrFun (g2 1 (by omega)) k)
    · exact (f2 i z).trans (g1 i (by omega))
  · rintro ⟨_, u⟩ ⟨rfl, g1, g2⟩
    unfold sh_X9_image_s2
    refine okt (Int32.le_refl _) ?_
    rw [ok_some]
    exact ⟨_, rfl, g1, g2⟩
theorem mUnd {w : Mem} : Ok (lpw (sh_X9_undo_s12) FU (nI 0, w)) (fun w' => (∀ i, i < 130 → w' 1 i = w 2 i) ∧ ∀ q, q ≠ 1 → w' q = w q) := by
  refine ok_for 130 (fun k s => s.1 = nI k ∧ (∀ i, i < k → s.2 1 i = w 2 i) ∧ ∀ q, q ≠ 1 → s.2 q = w q) ⟨rfl, fun i hi => absurd hi (Nat.not_lt_zero i), fun _ _ => rfl⟩ ?_ ?_ (by omega)
  · rintro k ⟨_, u⟩ hk ⟨rfl, g1, g2⟩
    unfold sh_X9_undo_s12
    refine okf (by rw [ile (by omega) (by omega)]; omega) (okb (ldS_ok (by omega) (by omega)) ?_)
    rw [ok_bind]
    refine ok_stM (by omega) (by omega) fun w' f1 f2 f3 => ?_
    rw [ok_letv, nI_add, ok_some]
    refine ⟨_, rfl, rfl, fun i hi => ?_, fun q hq => (f1 q hq).trans (g2 q hq)⟩
    by_cases z : i = k
    · rw [z]; exact f3.trans (congrFun (g2 2 (by omega)) k)
    · exact (f2 i z).trans (g1 i (by omega))
  · rintro ⟨_, u⟩ ⟨rfl, g1, g2⟩
    unfold sh_X9_undo_s12
    refine okt (Int32.le_refl _) ?_
    rw [ok_some]
    exact ⟨_, rfl, g1, g2⟩
theorem c_image {wx : WX} {wm : Mem} (h : Rel wx wm) : Bo (sh_X8_image wx) (sh_X9_image wm) := by
  obtain ⟨⟨A, S, P, ⟨hA, hS, hP⟩, hx, hm⟩, h2', h3', h4', h5', h6', h7'⟩ := h
  have hl := hA.1
  unfold sh_X8_image sh_X9_image Bo
  rw [ok_bind]
  refine (xSco (c := 55) (u := 1) (Or.inl ⟨rfl, rfl⟩) hA hS hP hx).mono fun w1 k1 => ?_
  refine ok_pX fun w2 f1 f2 f3 f4 => ?_
  rw [ok_some, ok_bind]
  refine mImg.mono fun m1 g1 => ?_
  refine ok_ms fun m2 a1 a2 a3 => ?_
  refine okb (ldS_ok (by omega) (by omega)) ?_
  rw [ok_some]
  have gx : ∀ q, q ≠ 0 → (q < 55 ∨ 109 ≤ q) → w2.1 q = wx.1 q := fun q a b => by rw [f1 q a, k1.2.1 q (by omega)]
  have gm : ∀ q, q ≠ 0 → q ≠ 2 → m2 q = wm q := fun q a b => by rw [a1 q a, g1.2 q b]
  have hx2 : StX 1 A S P w2 := hx.to hl fun q a b => gx q (by omega) (by omega)
  have hm2 : StM 1 A S P m2 := hm.to (gm 1 (by omega) (by omega))
  refine ⟨hx2.1.1.trans hm2.1.1.symm, ?_⟩
  show Rel w2 m2
  refine ⟨⟨A, S, P, ⟨hA, hS, hP⟩, hx2, hm2⟩, Or.inr ⟨⟨f3, a3⟩, A, S, P, ⟨hA, hS, hP⟩, k1.1.to hl (fun q a b => f1 q (by omega)), hm.copy hl hS hP.1 fun i hi => by rw [a1 2 (by omega)]; exact g1.1 i hi⟩, h3'.to (gx _ (by omega) (by omega)) (gx _ (by omega) (by omega)) (by rw [a2 17 (by omega), g1.2 0 (by omega)]) (gm 13 (by omega) (by omega)), h4'.to (by rw [f2 6 (by omega), k1.2.1 0 (by omega)]) (gx _ (by omega) (by omega)) (by rw [a2 32 (by omega), g1.2 0 (by omega)]) (gm 25 (by omega) (by omega)), h5'.to (fun q a b => gx q (by omega) (by omega)) (gm 26 (by omega) (by omega)) (gm 27 (by omega) (by omega)), by rw [f4, k1.2.2]; exact h6', h7'.to fun q a => gx q (by omega) (by omega)⟩
theorem c_undo {wx : WX} {wm : Mem} (h : Rel wx wm) : Bo (sh_X8_undo wx) (sh_X9_undo wm) := by
  unfold sh_X8_undo sh_X9_undo Bo
  rcases id h.2.1 with ⟨e1, e2⟩ | ⟨⟨e1, e2⟩, A, S, P, ⟨hA, hS, hP⟩, hx, hm⟩
  · rw [e1, e2]
    refine okt rfl ?_
    rw [ok_some]
    exact okt rfl (stay h)
  · rw [e1, e2]
    obtain ⟨h1', h2', h3', h4', h5', h6', h7'⟩ := h
    have hl := hA.1
    refine okf (by decide) ?_
    rw [ok_bind]
    refine (xSco (c := 1) (u := 55) (Or.inr ⟨rfl, rfl⟩) hA hS hP hx).mono fun w1 k1 => ?_
    rw [ok_some]
    refine okf (by decide) ?_
    rw [ok_bind]
    refine mUnd.mono fun m1 g1 => ?_
    refine okb (ldS_ok (by omega) (by omega)) ?_
    rw [ok_some]
    have hm2 : StM 1 A S P m1 := hm.copy hl hS hP.1 g1.1
    refine ⟨k1.1.1.1.trans hm2.1.1.symm, ?_⟩
    show Rel w1 m1
    exact ⟨⟨A, S, P, ⟨hA, hS, hP⟩, k1.1, hm2⟩, h2'.to (by rw [k1.2.1 0 (by omega)]) (fun q a b => k1.2.1 q (by omega)) (by rw [g1.2 0 (by omega)]) (g1.2 2 (by omega)), h3'.to (k1.2.1 _ (by omega)) (k1.2.1 _ (by omega)) (by rw [g1.2 0 (by omega)]) (g1.2 13 (by omega)), h4'.to (by rw [k1.2.1 0 (by omega)]) (k1.2.1 _ (by omega)) (by rw [g1.2 0 (by omega)]) (g1.2 25 (by omega)), h5'.to (fun q a b => k1.2.1 q (by omega)) (g1.2 26 (by omega)) (g1.2 27 (by omega)), by rw [k1.2.2]; exact h6', h7'.to fun q a => k1.2.1 q (by omega)⟩
theorem c_count {wx : WX} {wm : Mem} (x1 : Int32) (h : Rel wx wm) : ∃ v, sh_X8_count x1 wx = some v ∧ sh_X9_count x1 wm = some v := by
  obtain ⟨⟨A, S, P, ⟨hA, hS, hP⟩, hx, hm⟩, h2', ⟨T, hT, tX, tM⟩, ⟨n, hn, p1, p2, p3⟩, h5', h6', h7'⟩ := h
  suffices g : Ok (sh_X8_count x1 wx) (fun r => Ok (sh_X9_count x1 wm) (fun s => s = r)) by
    obtain ⟨v, h1, u, h2, rfl⟩ := g
    exact ⟨u, h1, h2⟩
  unfold sh_X8_count sh_X9_count
  by_cases e0 : x1 = nI 0
  · refine okt e0 ?_
    rw [ok_some]
    refine okt e0 (okb (ldS_ok (by omega) (by omega)) ?_)
    rw [ok_some, hx.1.1, hm.1.1]
  refine okf e0 ?_
  by_cases e1 : x1 = nI 1
  · refine okt e1 (okb (xAll hS hx.2.1) ?_)
    rw [ok_some]
    refine okf e0 (okt e1 (okb (ldS_ok (by omega) (by omega)) (okb (ldS_ok (by omega) (by omega)) (okb (ldS_ok (by omega) (by omega)) (okb (ldS_ok (by omega) (by omega)) ?_)))))
    rw [ok_some, show wm 1 13 = nI (S 0).length from (hm.2.1 0 (by omega)).1, show wm 1 14 = nI (S 1).length from (hm.2.1 1 (by omega)).1, show wm 1 15 = nI (S 2).length from (hm.2.1 2 (by omega)).1, show wm 1 16 = nI (S 3).length from (hm.2.1 3 (by omega)).1, nI_add, nI_add, nI_add]
  refine okf e1 ?_
  by_cases e2 : x1 = nI 2
  · refine okt e2 ?_
    rw [ok_some]
    refine okf e0 (okf e1 (okt e2 ?_))
    rw [ok_some, tX.1, tM.1]
  refine okf e2 ?_
  by_cases e3 : x1 = nI 3
  · refine okt e3 ?_
    rw [ok_some]
    refine okf e0 (okf e1 (okf e2 (okt e3 ?_)))
    rw [ok_some, p1, p2]
  refine okf e3 ?_
  by_cases e4 : x1 = nI 4
  · refine okt e4 ?_
    rw [ok_some]
    refine okf e0 (okf e1 (okf e2 (okf e3 (okt e4 (okb (ldS_ok (by omega) (by omega)) ?_)))))
    rw [ok_some, hx.2.2.1, hm.2.2.1]
  refine okf e4 ?_
  rw [ok_some]
  refine okf e0 (okf e1 (okf e2 (okf e3 (okf e4 ?_))))
  rw [ok_some]
