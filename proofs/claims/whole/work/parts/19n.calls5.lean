/-! calls on sums -/
theorem Rel.s5 {t : Nat} {wx wx' : WX} {wm wm' : Mem} (h : Rel wx wm) (ht : t = 145 ∨ t = 149) (g : OutS5 t wx wx') (hs : SwS t wx'.2) (gm : OutMs wm wm') : Rel wx' wm' := h.scr (g.1.xs (by omega)) gm (h.2.2.2.2.2.1.ss g.2 hs ht) (h.2.2.2.2.2.2.to fun q a => g.1 q (by omega))
theorem SfX.to {t n c : Nat} {F : Nat → Nat} {w w' : WX} (h : SfX t n c F w) (hs : SwS t w.2) (e : w'.2 t = w.2 t) (g : ∀ q, t ≤ q → q < t + 4 → w'.1 q = w.1 q) : SfX t n c F w' := by
  have hq : t ≤ w.2 t 0 ∧ w.2 t 0 < t + 4 := by rcases hs with z | z <;> omega
  unfold SfX
  rw [e, g t (by omega) (by omega), g (t + 3) (by omega) (by omega), g _ hq.1 hq.2]
  exact h
theorem mSo {k s f j a : Nat} {L : List Nat} {wm : Mem} (hj : j < 4) (ha : a < 4) (hS : Sf L) (h : SuM 1 j L wm) (hv : VA k s f) (h1 : wm 1 (1 + a) = nI k) (h2 : wm 1 (5 + a) = nI s) (h3 : wm 1 (9 + a) = nI f) : Ok (sh_X9_sumsOf (nI j) (nI a) wm) (fun w => SfM (eN k s) (cr L) (suN k (eN k s) f L L.length) w ∧ RoM L w ∧ OutMs wm w) := by
  unfold sh_X9_sumsOf
  rw [ok_bind]
  refine (mLoad hj hS.1 h).mono fun w1 g1 => ?_
  have e1 : w1 1 = wm 1 := g1.2.1 1 (by omega) (by omega)
  rw [ok_bind]
  refine (mLays_ hv ha (by rw [e1]; exact h1) (by rw [e1]; exact h2) (by rw [e1]; exact h3)).mono fun w2 g2 => ?_
  have r2 : RoM L w2 := ⟨by rw [g2.2.2 15 (by omega) (by omega)]; exact g1.1.1, by rw [g2.2.1 12 (by omega) (by omega)]; exact g1.1.2⟩
  rw [ok_bind]
  refine (mSums (kn_of hv) hS r2 g2.1).mono fun w3 g3 => ?_
  rw [ok_some]
  exact ⟨g3.1, ⟨by rw [g3.2.2 15 (by omega)]; exact r2.1, by rw [g3.2.1 12 (by omega) (by omega) (by omega)]; exact r2.2⟩, (g1.2.ms.trans g2.2.ms).trans g3.2.ms⟩
theorem c_sum {wx : WX} {wm : Mem} (x1 x2 x3 : Int32) (h : Rel wx wm) : Bo (sh_X8_sum x1 x2 x3 wx) (sh_X9_sum x1 x2 x3 wm) := by
  obtain ⟨A, S, P, ⟨hA, hS, hP⟩, hx, hm⟩ := h.1
  have hl := hA.1
  unfold sh_X8_sum sh_X9_sum Bo
  rcases spl (x := x1) (n := 4) (by omega) with ⟨i, hi, rfl⟩ | hi
  · refine okb (xSurY (Or.inl rfl) hi) (okf (by omega) (okg (kSur 1 (Or.inl rfl) i hi) ?_))
    rcases spl (x := x2) (n := A.length) (by omega) with ⟨j, hj, rfl⟩ | hj
    · have hk := kAlg 1 (Or.inl rfl) j (by omega)
      have hv := hA.2 j hj
      have sf := hS i hi
      have hn := (eN_in hv).2.1
      refine okb (xAlgY (Or.inl rfl) hx.1 hl hj) (okf (by omega) (okg hk ?_))
      rw [ok_bind]
      refine (xFind5 (Or.inl rfl) (by omega) hk hv sf (by omega) (hx.2.1 i hi) (hx.1.2 j hj) h.2.2.2.2.2.1.2.2.1).mono fun w1 h1 => ?_
      obtain ⟨p1, p2, p3⟩ := h1
      have hpw := pw_le hn sf.le
      refine okb (xHp sf.le hn p1) ?_
      have pre : ∀ {Q : Int32 × Mem → Prop}, (∀ w, SfM (eN (aK A j) (aS A j)) (cr (S i)) (suN (aK A j) (eN (aK A j) (aS A j)) (aF A j) (S i) (S i).length) w → Rel w1 w → Ok (if bI (0 ≤ x3.toInt ∧ x3.toInt < (eN (aK A j) (aS A j) ^ cr (S i) : Nat)) = 0 then some ((-1 : Int32), w) else Option.bind (ldS 216 22 x3 w) (fun v8 => some (v8, w))) Q) → Ok (Option.bind (sh_X9_isSurface (nI i)) (fun v1 => if v1 = 0 then some ((-1 : Int32), wm) else Option.bind (sh_X9_isAlgebra (nI j) wm) (fun v3 => if v3 = 0 then some ((-1 : Int32), wm) else Option.bind (sh_X9_sumsOf (nI i) (nI j) wm) (fun w5 => Option.bind (sh_X9_isIn x3.toInt64 (lN 0) (((w5 0 29) - (nI 1)).toInt64)) (fun v6 => if v6 = 0 then some ((-1 : Int32), w5) else Option.bind (ldS 216 22 x3 w5) (fun v8 => some (v8, w5))))))) Q := by
        intro Q hQ
        refine okb (mSY hi) (okf (by decide) (okb (mAY hm.1.1 hl hj) (okf (by decide) ?_)))
        have hb := hm.1.2 j hj
        rw [ok_bind]
        refine (mSo hi (by omega) sf (hm.2.1 i hi) hv hb.1 hb.2.1 hb.2.2).mono fun w5 h5 => ?_
        rw [h5.1.1]
        exact okb (mInS (by omega)) (hQ w5 h5.1 (h.s5 (Or.inl rfl) p2 p3 h5.2.2))
      by_cases hq : 0 ≤ x3.toInt ∧ x3.toInt < (eN (aK A j) (aS A j) ^ cr (S i) : Nat)
      · obtain ⟨q, hq', rfl⟩ := nI_some (by omega) hq
        refine okf (bI_ne hq) (okb (ldD_ok p1.2.1 (by omega) (by omega)) ?_)
        rw [ok_some, p1.2.2 q hq']
        refine pre fun w e r => okf (bI_ne hq) (okb (ldS_ok (by omega) (by omega)) ?_)
        rw [ok_some, e.2 q hq']
        exact ⟨rfl, r⟩
      · refine okt (bI_eq hq) ?_
        rw [ok_some]
        exact pre fun w e r => okt (bI_eq hq) (stay r)
    · refine okb (xAlgN hx.1 hl hj) (okt rfl ?_)
      rw [ok_some]
      exact okb (mSY hi) (okf (by decide) (okb (mAN hm.1.1 hl hj) (okt rfl (stay h))))
  · refine okb (xSurN hi) (okt rfl ?_)
    have e : Ok (sh_X9_sum x1 x2 x3 wm) (fun s => (-1 : Int32) = s.1 ∧ Rel wx s.2) := by
      unfold sh_X9_sum
      exact okb (mSN hi) (okt rfl (stay h))
    rcases spl (x := x2) (n := A.length) (by omega) with ⟨j, hj, rfl⟩ | hj
    · refine okb (xAlgY (Or.inl rfl) hx.1 hl hj) (okf (by omega) (okg (kAlg 1 (Or.inl rfl) j (by omega)) ?_))
      rw [ok_some]
      exact e
    · refine okb (xAlgN hx.1 hl hj) (okt rfl ?_)
      rw [ok_some]
      exact e
theorem c_total {wx : WX} {wm : Mem} (x1 x2 x3 : Int32) (h : Rel wx wm) : Bo (sh_X8_total x1 x2 x3 wx) (sh_X9_total x1 x2 x3 wm) := by
  obtain ⟨A, S, P, ⟨hA, hS, hP⟩, hx, hm⟩ := h.1
  have hl := hA.1
  unfold sh_X8_total sh_X9_total Bo
  rcases spl (x := x1) (n := 4) (by omega) with ⟨i, hi, rfl⟩ | hi
  · refine okb (xSurY (Or.inl rfl) hi) (okf (by omega) (okg (kSur 1 (Or.inl rfl) i hi) ?_))
    rcases spl (x := x2) (n := A.length) (by omega) with ⟨j, hj, rfl⟩ | hj
    · have hk := kAlg 1 (Or.inl rfl) j (by omega)
      have hv := hA.2 j hj
      have sf := hS i hi
      have hn := (eN_in hv).2.1
      refine okb (xAlgY (Or.inl rfl) hx.1 hl hj) (okf (by omega) (okg hk ?_))
      rw [ok_bind]
      refine (xFind5 (Or.inl rfl) (by omega) hk hv sf (by omega) (hx.2.1 i hi) (hx.1.2 j hj) h.2.2.2.2.2.1.2.2.1).mono fun w1 h1 => ?_
      obtain ⟨p1, p2, p3⟩ := h1
      have hpw := pw_le hn sf.le
      have hF : ∀ q, suN (aK A j) (eN (aK A j) (aS A j)) (aF A j) (S i) (S i).length q < 9973 := suN_lt _
      obtain ⟨F, eF⟩ : ∃ F, F = suN (aK A j) (eN (aK A j) (aS A j)) (aF A j) (S i) (S i).length := ⟨_, rfl⟩
      rw [← eF] at p1 hF
      have pre : ∀ {Q : Int32 × Mem → Prop}, (∀ w, SfM (eN (aK A j) (aS A j)) (cr (S i)) F w → Rel w1 w → Ok (if x3 = nI 0 then some (w 0 29, w) else if x3 = nI 1 then some (nI (nzN F (eN (aK A j) (aS A j) ^ cr (S i))), w) else if x3 = nI 2 then some (frI F (eN (aK A j) (aS A j) ^ cr (S i)), w) else if x3 = nI 3 then Option.bind (sh_X9_together w) (fun v12 => some (v12, w)) else some ((-1 : Int32), w)) Q) → Ok (Option.bind (sh_X9_isSurface (nI i)) (fun v1 => if v1 = 0 then some ((-1 : Int32), wm) else Option.bind (sh_X9_isAlgebra (nI j) wm) (fun v3 => if v3 = 0 then some ((-1 : Int32), wm) else Option.bind (sh_X9_sumsOf (nI i) (nI j) wm) (fun w5 => letv ((w5 0 29) - (nI 1)) (fun v6 => Option.bind (lpw (sh_X9_total_s38 x3 w5) FU (nI 0, (-5 : Int32), v6)) (fun ex7 => if x3 = nI 0 then some (w5 0 29, w5) else if x3 = nI 1 then some (ex7.1, w5) else if x3 = nI 2 then some (ex7.2, w5) else if x3 = nI 3 then Option.bind (sh_X9_together w5) (fun v12 => some (v12, w5)) else some ((-1 : Int32), w5))))))) Q := by
        intro Q hQ
        refine okb (mSY hi) (okf (by decide) (okb (mAY hm.1.1 hl hj) (okf (by decide) ?_)))
        have hb := hm.1.2 j hj
        rw [ok_bind]
        refine (mSo hi (by omega) sf (hm.2.1 i hi) hv hb.1 hb.2.1 hb.2.2).mono fun w5 h5 => ?_
        rw [← eF] at h5
        rw [ok_letv]
        have hT := mTot (x3 := x3) sf.le hn hF h5.1
        rw [← h5.1.1] at hT
        exact okb hT (hQ w5 h5.1 (h.s5 (Or.inl rfl) p2 p3 h5.2.2))
      by_cases e0 : x3 = nI 0
      · refine okt e0 (okb (xPl sf.le p1) ?_)
        rw [ok_some]
        refine pre fun w e r => okt e0 ?_
        rw [ok_some]
        exact ⟨e.1.symm, r⟩
      refine okf e0 ?_
      by_cases e1 : x3 = nI 1
      · refine okt e1 (okb (xNz sf.le hn hF p1) ?_)
        rw [ok_some]
        exact pre fun w e r => okf e0 (okt e1 (stay r))
      refine okf e1 ?_
      by_cases e2 : x3 = nI 2
      · refine okt e2 (okb (xFn sf.le hn hF p1) ?_)
        rw [ok_some]
        exact pre fun w e r => okf e0 (okf e1 (okt e2 (stay r)))
      refine okf e2 ?_
      by_cases e3 : x3 = nI 3
      · refine okt e3 (okb (xTg5 sf.le hn hF p1) ?_)
        rw [ok_some]
        exact pre fun w e r => okf e0 (okf e1 (okf e2 (okt e3 (okb (mTg5 sf.le hn hF e) (stay r)))))
      refine okf e3 ?_
      rw [ok_some]
      exact pre fun w e r => okf e0 (okf e1 (okf e2 (okf e3 (stay r))))
    · refine okb (xAlgN hx.1 hl hj) (okt rfl ?_)
      rw [ok_some]
      exact okb (mSY hi) (okf (by decide) (okb (mAN hm.1.1 hl hj) (okt rfl (stay h))))
  · refine okb (xSurN hi) (okt rfl ?_)
    have e : Ok (sh_X9_total x1 x2 x3 wm) (fun s => (-1 : Int32) = s.1 ∧ Rel wx s.2) := by
      unfold sh_X9_total
      exact okb (mSN hi) (okt rfl (stay h))
    rcases spl (x := x2) (n := A.length) (by omega) with ⟨j, hj, rfl⟩ | hj
    · refine okb (xAlgY (Or.inl rfl) hx.1 hl hj) (okf (by omega) (okg (kAlg 1 (Or.inl rfl) j (by omega)) ?_))
      rw [ok_some]
      exact e
    · refine okb (xAlgN hx.1 hl hj) (okt rfl ?_)
      rw [ok_some]
      exact e
theorem mAl1 {x2 x3 x4 : Int32} {N : Nat} {F : Nat → Nat} {w : Mem} (hN : N ≤ 216) (hF : Rw (w 22) F N) : Ok (lpw (sh_X9_alike_s39 x2 x3 x4) FU (nI 0, w)) (fun w' => Rw (w' 24) F N ∧ ∀ q, q ≠ 24 → w' q = w q) := by
  refine ok_for 216 (fun k s => s.1 = nI k ∧ (∀ q, q < k → s.2 24 q = w 22 q) ∧ ∀ q, q ≠ 24 → s.2 q = w q) ⟨rfl, fun q hq => absurd hq (Nat.not_lt_zero q), fun _ _ => rfl⟩ ?_ ?_ (by omega)
  · rintro k ⟨_, u⟩ hk ⟨rfl, g1, g2⟩
    unfold sh_X9_alike_s39
    refine okf (by rw [ile (by omega) (by omega)]; omega) (okb (ldS_ok (by omega) (by omega)) ?_)
    rw [ok_bind]
    refine ok_stM (by omega) (by omega) fun w' f1 f2 f3 => ?_
    rw [ok_letv, nI_add, ok_some]
    refine ⟨_, rfl, rfl, fun q hq => ?_, fun q hq => (f1 q hq).trans (g2 q hq)⟩
    by_cases z : q = k
    · subst z
      exact f3.trans (congrFun (g2 22 (by omega)) q)
    · exact (f2 q z).trans (g1 q (by omega))
  · rintro ⟨_, u⟩ ⟨rfl, g1, g2⟩
    unfold sh_X9_alike_s39
    refine okt (Int32.le_refl _) ?_
    rw [ok_some]
    exact ⟨_, rfl, fun q hq => (g1 q (by omega)).trans (hF q hq), g2⟩
theorem mAl2 {N : Nat} {F F' : Nat → Nat} {w : Mem} (hN : N ≤ 216) (h0 : w 0 29 = nI N) (hF : Rw (w 24) F N) (hF' : Rw (w 22) F' N) (b : ∀ q, F q < 9973) (b' : ∀ q, F' q < 9973) {c : Nat} : Ok (lpw (sh_X9_alike_s92 w) FU (nI 1, nI 0)) (fun v => v = saI c c F F' N) := by
  refine ok_forb N (fun k s => s.2 = nI k ∧ ((s.1 = nI 1 ∧ ∀ q, q < k → F q = F' q) ∨ (s.1 = nI 0 ∧ ¬ ∀ q, q < N → F q = F' q))) ⟨rfl, Or.inl ⟨rfl, fun q hq => absurd hq (Nat.not_lt_zero q)⟩⟩ ?_ ?_ (by omega)
  · rintro k ⟨_, _⟩ hk ⟨rfl, g⟩
    unfold sh_X9_alike_s92
    rw [h0]
    refine okf (by rw [ile (by omega) (by omega)]; omega) ?_
    rcases g with ⟨rfl, g⟩ | ⟨rfl, g⟩
    · refine okf (show ¬ nI 1 = 0 by decide) (okb (ldS_ok (by omega) (by omega)) (okb (ldS_ok (by omega) (by omega)) ?_))
      have := b k
      have := b' k
      rw [hF k hk, hF' k hk]
      by_cases z : F k = F' k
      · refine okt (by rw [z]) ?_
        rw [ok_letv, nI_add, ok_some]
        refine Or.inl ⟨_, rfl, rfl, Or.inl ⟨rfl, fun q hq => ?_⟩⟩
        by_cases y : q = k
        · rw [y]; exact z
        · exact g q (by omega)
      · refine okf (by rw [ieq (by omega) (by omega)]; exact z) ?_
        rw [ok_letv, nI_add, ok_some]
        exact Or.inl ⟨_, rfl, rfl, Or.inr ⟨rfl, fun y => z (y k hk)⟩⟩
    · refine okt rfl ?_
      rw [ok_some]
      exact Or.inr ⟨_, rfl, (saI_f fun z => g z.2).symm⟩
  · rintro ⟨_, _⟩ ⟨rfl, g⟩
    unfold sh_X9_alike_s92
    rw [h0]
    refine okt (Int32.le_refl _) ?_
    rw [ok_some]
    rcases g with ⟨rfl, g⟩ | ⟨rfl, g⟩
    · exact ⟨_, rfl, (saI_t ⟨rfl, g⟩).symm⟩
    · exact ⟨_, rfl, (saI_f fun z => g z.2).symm⟩
theorem mAl0 {w : Mem} : Ok (lpw (sh_X9_alike_s92 w) FU (nI 0, nI 0)) (fun v => v = nI 0) := by
  refine ok_for 0 (fun k s => s = (nI 0, nI 0)) rfl (fun k s hk => absurd hk (Nat.not_lt_zero k)) ?_ (by omega)
  rintro _ rfl
  unfold sh_X9_alike_s92
  by_cases z : w 0 29 ≤ nI 0
  · refine okt z ?_
    rw [ok_some]
    exact ⟨_, rfl, rfl⟩
  · refine okf z (okt rfl ?_)
    rw [ok_some]
    exact ⟨_, rfl, rfl⟩
theorem saI_or {c c' : Nat} {F F' : Nat → Nat} {N : Nat} : saI c c' F F' N = nI 0 ∨ saI c c' F F' N = nI 1 := by
  by_cases h : saP c c' F F' N
  · exact Or.inr (saI_t h)
  · exact Or.inl (saI_f h)
theorem c_alike {wx : WX} {wm : Mem} (x1 x2 x3 : Int32) (h : Rel wx wm) : Bo (sh_X8_alike x1 x2 x3 wx) (sh_X9_alike x1 x2 x3 wm) := by
  obtain ⟨A, S, P, ⟨hA, hS, hP⟩, hx, hm⟩ := h.1
  have hl := hA.1
  unfold sh_X8_alike sh_X9_alike Bo
  have ax : ∀ {Q : Int32 × WX → Prop}, Q ((-1 : Int32), wx) → Ok (Option.bind (sh_X4_algebraAt 1 x3 wx) (fun v7 => if v7 = 999 then some ((-1 : Int32), wx) else grd (KDx v7 = (0, 13)) (some ((-1 : Int32), wx)))) Q := by
    intro Q hQ
    rcases spl (x := x3) (n := A.length) (by omega) with ⟨j, hj, rfl⟩ | hj
    · refine okb (xAlgY (Or.inl rfl) hx.1 hl hj) (okf (by omega) (okg (kAlg 1 (Or.inl rfl) j (by omega)) ?_))
      rw [ok_some]
      exact hQ
    · refine okb (xAlgN hx.1 hl hj) (okt rfl ?_)
      rw [ok_some]
      exact hQ
  rcases spl (x := x1) (n := 4) (by omega) with ⟨i, hi, rfl⟩ | hi
  · refine okb (xSurY (Or.inl rfl) hi) (okf (by omega) (okg (kSur 1 (Or.inl rfl) i hi) ?_))
    rcases spl (x := x2) (n := 4) (by omega) with ⟨l, hl2, rfl⟩ | hl2
    · refine okb (xSurY (Or.inl rfl) hl2) (okf (by omega) (okg (kSur 1 (Or.inl rfl) l hl2) ?_))
      rcases spl (x := x3) (n := A.length) (by omega) with ⟨j, hj, rfl⟩ | hj
      · have hk := kAlg 1 (Or.inl rfl) j (by omega)
        have hv := hA.2 j hj
        have hn := (eN_in hv).2.1
        have sf := hS i hi
        have sg := hS l hl2
        have hpw := pw_le hn sf.le
        have hpw' := pw_le hn sg.le
        refine okb (xAlgY (Or.inl rfl) hx.1 hl hj) (okf (by omega) (okg hk ?_))
        have hF : ∀ q, suN (aK A j) (eN (aK A j) (aS A j)) (aF A j) (S i) (S i).length q < 9973 := suN_lt _
        have hF' : ∀ q, suN (aK A j) (eN (aK A j) (aS A j)) (aF A j) (S l) (S l).length q < 9973 := suN_lt _
        rw [ok_bind]
        refine (xFind5 (Or.inl rfl) (by omega) hk hv sf (by omega) (hx.2.1 i hi) (hx.1.2 j hj) h.2.2.2.2.2.1.2.2.1).mono fun w1 h1 => ?_
        obtain ⟨p1, p2, p3⟩ := h1
        rw [ok_bind]
        refine (xFind5 (t := 149) (Or.inr rfl) (by omega) hk hv sg (by omega) ((hx.2.1 l hl2).to (p2.1 _ (by omega)) (p2.1 _ (by omega))) ((hx.1.2 j hj).to fun q a b => p2.1 q (by omega)) (h.2.2.2.2.2.1.2.2.2.cg (p2.2 _ (by omega)))).mono fun w2 h2 => ?_
        obtain ⟨q1, q2, q3⟩ := h2
        have p1' := p1.to p3 (q2.2 _ (by omega)) (w' := w2) fun q a b => q2.1 q (by omega)
        obtain ⟨F, eF⟩ : ∃ F, F = suN (aK A j) (eN (aK A j) (aS A j)) (aF A j) (S i) (S i).length := ⟨_, rfl⟩
        obtain ⟨F', eF'⟩ : ∃ F, F = suN (aK A j) (eN (aK A j) (aS A j)) (aF A j) (S l) (S l).length := ⟨_, rfl⟩
        rw [← eF] at p1' hF
        rw [← eF'] at q1 hF'
        refine okb (xSame sf.le sg.le hn hF hF' p1' q1) ?_
        have pre : ∀ {Q : Int32 × Mem → Prop}, (∀ w, Rel w2 w → Q (saI (cr (S i)) (cr (S l)) F F' (eN (aK A j) (aS A j) ^ cr (S i)), w)) → Ok (Option.bind (sh_X9_isSurface (nI i)) (fun v1 => if v1 = 0 then some ((-1 : Int32), wm) else Option.bind (sh_X9_isSurface (nI l)) (fun v3 => if v3 = 0 then some ((-1 : Int32), wm) else Option.bind (sh_X9_isAlgebra (nI j) wm) (fun v5 => if v5 = 0 then some ((-1 : Int32), wm) else Option.bind (sh_X9_sumsOf (nI i) (nI j) wm) (fun w7 => Option.bind (sh_X9_circles w7) (fun v8 => Option.bind (lpw (sh_X9_alike_s39 (nI l) (nI j) v8) FU (nI 0, w7)) (fun ex9 => Option.bind (sh_X9_sumsOf (nI l) (nI j) ex9) (fun w10 => Option.bind (sh_X9_circles w10) (fun v11 => if v8 = v11 then sh_X9_alike_j87 (nI 1) w10 else sh_X9_alike_j87 (nI 0) w10))))))))) Q := by
          intro Q hQ
          refine okb (mSY hi) (okf (by decide) (okb (mSY hl2) (okf (by decide) (okb (mAY hm.1.1 hl hj) (okf (by decide) ?_)))))
          have hb := hm.1.2 j hj
          rw [ok_bind]
          refine (mSo hi (by omega) sf (hm.2.1 i hi) hv hb.1 hb.2.1 hb.2.2).mono fun w7 h7 => ?_
          rw [← eF] at h7
          refine okb (mCir sf h7.2.1) ?_
          rw [ok_bind]
          refine (mAl1 hpw h7.1.2).mono fun w9 h9 => ?_
          have o9 : OutMs wm w9 := h7.2.2.trans ⟨fun q a => h9.2 q (by omega), fun i a => by rw [h9.2 0 (by omega)]⟩
          have e9 : w9 1 = wm 1 := o9.1 1 (by omega)
          rw [ok_bind]
          have key : Ok (sh_X9_sumsOf (nI l) (nI j) w9) (fun w => (SfM (eN (aK A j) (aS A j)) (cr (S l)) F' w ∧ RoM (S l) w ∧ OutMs w9 w) ∧ w 24 = w9 24) := by
            rw [eF']
            have e : ∀ (n : Nat), n = 24 → Ok (sh_X9_sumsOf (nI l) (nI j) w9) (fun w => (SfM (eN (aK A j) (aS A j)) (cr (S l)) (suN (aK A j) (eN (aK A j) (aS A j)) (aF A j) (S l) (S l).length) w ∧ RoM (S l) w ∧ OutMs w9 w) ∧ w 24 = w9 24) := by
              intro n _
              unfold sh_X9_sumsOf
              rw [ok_bind]
              refine (mLoad hl2 sg.1 ((hm.2.1 l hl2).to e9)).mono fun u1 g1 => ?_
              have e1 : u1 1 = wm 1 := (g1.2.1 1 (by omega) (by omega)).trans e9
              rw [ok_bind]
              refine (mLays_ hv (by omega) (by rw [e1]; exact hb.1) (by rw [e1]; exact hb.2.1) (by rw [e1]; exact hb.2.2)).mono fun u2 g2 => ?_
              have r2 : RoM (S l) u2 := ⟨by rw [g2.2.2 15 (by omega) (by omega)]; exact g1.1.1, by rw [g2.2.1 12 (by omega) (by omega)]; exact g1.1.2⟩
              rw [ok_bind]
              refine (mSums (kn_of hv) sg r2 g2.1).mono fun u3 g3 => ?_
              rw [ok_some]
              exact ⟨⟨g3.1, ⟨by rw [g3.2.2 15 (by omega)]; exact r2.1, by rw [g3.2.1 12 (by omega) (by omega) (by omega)]; exact r2.2⟩, (g1.2.ms.trans g2.2.ms).trans g3.2.ms⟩, by rw [g3.2.1 24 (by omega) (by omega) (by omega), g2.2.1 24 (by omega) (by omega), g1.2.1 24 (by omega) (by omega)]⟩
            exact e 24 rfl
          refine key.mono fun w10 h10 => ?_
          obtain ⟨⟨k1, k2, k3⟩, k4⟩ := h10
          refine okb (mCir sg k2) ?_
          have hr : Rel w2 w10 := (h.s5 (Or.inl rfl) p2 p3 OutMs.refl).s5 (Or.inr rfl) q2 q3 (o9.trans k3)
          have hq := hQ w10 hr
          have fin : ∀ v, v = saI (cr (S i)) (cr (S l)) F F' (eN (aK A j) (aS A j) ^ cr (S i)) → Ok (sh_X9_alike_j136 v w10) Q := by
            intro v e
            unfold sh_X9_alike_j136
            rw [← e] at hq
            rcases saI_or (c := cr (S i)) (c' := cr (S l)) (F := F) (F' := F') (N := eN (aK A j) (aS A j) ^ cr (S i)) with z | z
            · rw [e.trans z]
              refine okt rfl ?_
              rw [ok_some, ← z, ← e]
              exact hq
            · rw [e.trans z]
              refine okf (by decide) ?_
              rw [ok_some, ← z, ← e]
              exact hq
          have l1 := sf.le
          have l2 := sg.le
          by_cases ec : cr (S i) = cr (S l)
          · refine okt (by rw [ec]) ?_
            unfold sh_X9_alike_j87
            rw [ok_bind]
            rw [ec] at fin
            refine (mAl2 hpw' k1.1 (by rw [k4, ← ec]; exact h9.1) k1.2 hF hF' (c := cr (S l))).mono fun v e => fin v e
          · refine okf (by rw [ieq (by omega) (by omega)]; exact ec) ?_
            unfold sh_X9_alike_j87
            rw [ok_bind]
            refine mAl0.mono fun v e => fin v (e.trans (saI_f fun z => ec z.1).symm)
        rcases saI_or (c := cr (S i)) (c' := cr (S l)) (F := F) (F' := F') (N := eN (aK A j) (aS A j) ^ cr (S i)) with z | z
        · rw [z]
          refine okt rfl ?_
          rw [ok_some]
          exact pre fun w r => ⟨z.symm, r⟩
        · rw [z]
          refine okf (by decide) ?_
          rw [ok_some]
          exact pre fun w r => ⟨z.symm, r⟩
      · refine okb (xAlgN hx.1 hl hj) (okt rfl ?_)
        rw [ok_some]
        exact okb (mSY hi) (okf (by decide) (okb (mSY hl2) (okf (by decide) (okb (mAN hm.1.1 hl hj) (okt rfl (stay h))))))
    · refine okb (xSurN hl2) (okt rfl (ax ?_))
      exact okb (mSY hi) (okf (by decide) (okb (mSN hl2) (okt rfl (stay h))))
  · refine okb (xSurN hi) (okt rfl ?_)
    have e : Ok (sh_X9_alike x1 x2 x3 wm) (fun s => (-1 : Int32) = s.1 ∧ Rel wx s.2) := by
      unfold sh_X9_alike
      exact okb (mSN hi) (okt rfl (stay h))
    rcases spl (x := x2) (n := 4) (by omega) with ⟨l, hl2, rfl⟩ | hl2
    · exact okb (xSurY (Or.inl rfl) hl2) (okf (by omega) (okg (kSur 1 (Or.inl rfl) l hl2) (ax e)))
    · exact okb (xSurN hl2) (okt rfl (ax e))
