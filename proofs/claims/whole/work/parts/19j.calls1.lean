/-! the calls on algebras -/
theorem spl {x : Int32} {n : Nat} (hn : n < 2147483648) : (∃ j, j < n ∧ x = nI j) ∨ ¬ (0 ≤ x.toInt ∧ x.toInt < n) := by
  by_cases h : 0 ≤ x.toInt ∧ x.toInt < n
  · exact Or.inl (nI_some hn h)
  · exact Or.inr h
theorem mAY {j n : Nat} {w : Mem} (h : w 1 0 = nI n) (hn : n ≤ 4) (hj : j < n) : sh_X9_isAlgebra (nI j) w = some (nI 1) := by rw [mIsA h (by omega), bI_t (by rw [nI_toInt (by omega)]; omega)]
theorem mAN {n : Nat} {x : Int32} {w : Mem} (h : w 1 0 = nI n) (hn : n ≤ 4) (hj : ¬ (0 ≤ x.toInt ∧ x.toInt < n)) : sh_X9_isAlgebra x w = some (nI 0) := by rw [mIsA h (by omega), bI_f hj]
theorem mSY {j : Nat} (hj : j < 4) : sh_X9_isSurface (nI j) = some (nI 1) := by rw [mIsS, bI_t (by rw [nI_toInt (by omega)]; omega)]
theorem mSN {x : Int32} (hj : ¬ (0 ≤ x.toInt ∧ x.toInt < 4)) : sh_X9_isSurface x = some (nI 0) := by rw [mIsS, bI_f hj]
theorem mEY {j n : Nat} {w : Mem} (h : w 0 3 = nI n) (hn : n ≤ 6) (hj : j < n) : sh_X9_isElement (nI j) w = some (nI 1) := by rw [mIsE h (by omega), bI_t (by rw [nI_toInt (by omega)]; omega)]
theorem mEN {n : Nat} {x : Int32} {w : Mem} (h : w 0 3 = nI n) (hn : n ≤ 6) (hj : ¬ (0 ≤ x.toInt ∧ x.toInt < n)) : sh_X9_isElement x w = some (nI 0) := by rw [mIsE h (by omega), bI_f hj]
theorem xHY {a k s f n j : Nat} {w : WX} (hF : AlgF a k s f n w) (hn : n ≤ 6) (hj : j < n) : sh_X0_has a (nI j) w = some (nI 1) := by rw [xHasI (by omega) hF, bI_t (by rw [nI_toInt (by omega)]; omega)]
theorem xHN {a k s f n : Nat} {x : Int32} {w : WX} (hF : AlgF a k s f n w) (hn : n ≤ 6) (hj : ¬ (0 ≤ x.toInt ∧ x.toInt < n)) : sh_X0_has a x w = some (nI 0) := by rw [xHasI (by omega) hF, bI_f hj]
/-- an answer that leaves all -/
theorem stay {α : Type} {v : α} {wx : WX} {wm : Mem} (h : Rel wx wm) : Ok (some (v, wm)) (fun s => v = s.1 ∧ Rel wx s.2) := by
  rw [ok_some]
  exact ⟨rfl, h⟩
def Bq {α : Type} (wx : WX) (x : Option α) (m : Option (α × Mem)) : Prop := Ok x (fun r => Ok m (fun s => r = s.1 ∧ Rel wx s.2))
theorem RA.get {wx : WX} {wm : Mem} (h : Rel wx wm) : ∃ (A : AL) (S : Nat → List Nat) (P : PL), (VAs A ∧ VSs S ∧ VPs P) ∧ StX 1 A S P wx ∧ StM 1 A S P wm := h.1
theorem c_becomes {wx : WX} {wm : Mem} (x1 x2 : Int32) (h : Rel wx wm) : Bo (sh_X8_becomes x1 x2 wx) (sh_X9_becomes x1 x2 wm) := by
  obtain ⟨⟨A, S, P, ⟨hA, hS, hP⟩, hx, hm⟩, hK, hT, hPp, hL, hW, hH⟩ := id h
  have hl := hA.1
  unfold sh_X8_becomes sh_X9_becomes Bo
  rcases spl (x := x1) (n := A.length) (by omega) with ⟨j, hj, rfl⟩ | hj
  · refine okb (xAlgY (Or.inl rfl) hx.1 hl hj) (okf (by omega) (okg (kAlg 1 (Or.inl rfl) j (by omega)) (okb xFig ?_)))
    by_cases hf : 0 ≤ x2.toInt ∧ x2.toInt ≤ 9
    · obtain ⟨f, hf9, rfl⟩ := nI_some (n := 10) (by omega) (x := x2) ⟨hf.1, by omega⟩
      have ha := hx.1.2 j hj
      have hva := hA.2 j hj
      have hvf : VA (aK A j) (aS A j) f := ⟨hva.1, hva.2.1, hva.2.2.1, hva.2.2.2.1, by omega⟩
      refine okf (bI_ne hf) ?_
      rw [ok_letv, ok_bind, ha.1.1, ha.1.2.1, ha.1.2.2.1]
      refine (xMake hvf).mono fun w1 h1 => ?_
      obtain ⟨g1, g2, g3⟩ := h1
      rw [ok_some]
      refine okb (mAY hm.1.1 hl hj) (okf (by decide) (okb (mInJ (by omega) (by omega) (by omega)) (okf (bI_ne ⟨Nat.zero_le _, by omega⟩) ?_)))
      rw [nI_add]
      refine okb (ldS_ok (by omega) (by omega)) ?_
      rw [(hm.1.2 j hj).2.2, ok_bind]
      refine ok_stM (by omega) (by omega) fun m1 a1 a2 a3 => ?_
      rw [ok_some]
      refine ⟨rfl, ?_⟩
      show Rel w1 m1
      obtain ⟨B, hB⟩ : ∃ B : AL, B = A.set j (aK A j, aS A j, f) := ⟨_, rfl⟩
      have hBl : B.length = A.length := by rw [hB]; simp
      have hBj : B.getD j (0, 1, 0) = (aK A j, aS A j, f) := by rw [hB, List.getD_eq_getElem?_getD]; simp [hj]
      have hBi : ∀ i, i ≠ j → B.getD i (0, 1, 0) = A.getD i (0, 1, 0) := fun i hi => by rw [hB, List.getD_eq_getElem?_getD, List.getD_eq_getElem?_getD, List.getElem?_set_ne (fun z => hi z.symm)]
      have hgx : ∀ q, (q < 1 + 1 + 5 + 10 * j ∨ 1 + 1 + 5 + 10 * j + 10 ≤ q) → w1.1 q = wx.1 q := g2
      refine ⟨⟨B, S, P, ⟨⟨by omega, fun i hi => ?_⟩, hS, hP⟩, ⟨⟨by rw [hBl, hgx _ (by omega)]; exact hx.1.1, fun i hi => ?_⟩, fun i hi => ?_, ?_, fun i hi => ?_⟩, ⟨by rw [hBl, a2 _ (by omega)]; exact hm.1.1, fun i hi => ?_⟩, fun i hi => ⟨?_, fun l hl => ?_⟩, ?_, fun i hi => ?_⟩, hK.to ?_ (fun q a b => hgx q (by omega)) ?_ (a1 _ (by omega)), hT.to (hgx _ (by omega)) (hgx _ (by omega)) ?_ (a1 _ (by omega)), hPp.to ?_ (hgx _ (by omega)) ?_ (a1 _ (by omega)), hL.to (fun q a b => hgx q (by omega)) (a1 _ (by omega)) (a1 _ (by omega)), by rw [g3]; exact hW, hH.to fun q hq => hgx q (by omega)⟩
      · by_cases z : i = j
        · subst z; unfold aK aS aF; rw [hBj]; exact hvf
        · unfold aK aS aF; rw [hBi i z]; exact hA.2 i (by omega)
      · by_cases z : i = j
        · subst z; unfold aK aS aF; rw [hBj]; exact g1
        · unfold aK aS aF; rw [hBi i z]; exact (hx.1.2 i (by omega)).to fun q a b => hgx q (by omega)
      · exact (hx.2.1 i hi).to (hgx _ (by omega)) (hgx _ (by omega))
      · rw [hgx _ (by omega)]; exact hx.2.2.1
      · rw [hgx _ (by omega), hgx _ (by omega)]; exact hx.2.2.2 i hi
      · by_cases z : i = j
        · subst z; unfold aK aS aF; rw [hBj, a2 _ (by omega), a2 _ (by omega)]
          exact ⟨(hm.1.2 i hj).1, (hm.1.2 i hj).2.1, a3⟩
        · unfold aK aS aF; rw [hBi i z, a2 _ (by omega), a2 _ (by omega), a2 _ (by omega)]
          exact hm.1.2 i (by omega)
      · rw [a2 _ (by omega)]; exact (hm.2.1 i hi).1
      · rw [a2 _ (by omega)]; exact (hm.2.1 i hi).2 l hl
      · rw [a2 _ (by omega)]; exact hm.2.2.1
      · rw [a2 _ (by omega), a2 _ (by omega)]; exact hm.2.2.2 i hi
      · rw [hgx 0 (by omega)]
      · rw [a1 0 (by omega)]
      · rw [a1 0 (by omega)]
      · rw [hgx 0 (by omega)]
      · rw [a1 0 (by omega)]
    · refine okt (bI_eq hf) ?_
      rw [ok_some]
      refine okb (mAY hm.1.1 hl hj) (okf (by decide) (okb (mIn (by omega) (by omega)) (okt (bI_eq hf) ?_)))
      exact stay h
  · refine okb (xAlgN hx.1 hl hj) (okt rfl ?_)
    rw [ok_some]
    refine okb (mAN hm.1.1 hl hj) (okt rfl ?_)
    exact stay h
theorem c_of {wx : WX} {wm : Mem} (x1 x2 : Int32) (h : Rel wx wm) : ∃ v, sh_X8_of x1 x2 wx = some v ∧ sh_X9_of x1 x2 wm = some v := by
  obtain ⟨A, S, P, ⟨hA, hS, hP⟩, hx, hm⟩ := h.1
  have hl := hA.1
  suffices g : Ok (sh_X8_of x1 x2 wx) (fun r => Ok (sh_X9_of x1 x2 wm) (fun s => s = r)) by
    obtain ⟨v, h1, u, h2, rfl⟩ := g
    exact ⟨u, h1, h2⟩
  unfold sh_X8_of sh_X9_of
  rcases spl (x := x1) (n := A.length) (by omega) with ⟨j, hj, rfl⟩ | hj
  · have ha := hx.1.2 j hj
    have hb := hm.1.2 j hj
    refine okb (xAlgY (Or.inl rfl) hx.1 hl hj) (okf (by omega) (okg (kAlg 1 (Or.inl rfl) j (by omega)) ?_))
    rw [ha.1.1, ha.1.2.1, ha.1.2.2.1, ha.1.2.2.2]
    by_cases e0 : x2 = nI 0
    · refine okt e0 ?_
      rw [ok_some]
      refine okb (mAY hm.1.1 hl hj) (okf (by decide) (okt e0 ?_))
      rw [nI_add]
      refine okb (ldS_ok (by omega) (by omega)) ?_
      rw [ok_some, hb.1]
    refine okf e0 ?_
    by_cases e1 : x2 = nI 1
    · refine okt e1 ?_
      rw [ok_some]
      refine okb (mAY hm.1.1 hl hj) (okf (by decide) (okf e0 (okt e1 ?_)))
      rw [nI_add]
      refine okb (ldS_ok (by omega) (by omega)) ?_
      rw [ok_some, hb.2.1]
    refine okf e1 ?_
    by_cases e2 : x2 = nI 2
    · refine okt e2 ?_
      rw [ok_some]
      refine okb (mAY hm.1.1 hl hj) (okf (by decide) (okf e0 (okf e1 (okt e2 ?_))))
      rw [nI_add]
      refine okb (ldS_ok (by omega) (by omega)) ?_
      rw [ok_some, hb.2.2]
    refine okf e2 ?_
    by_cases e3 : x2 = nI 3
    · refine okt e3 ?_
      rw [ok_some]
      refine okb (mAY hm.1.1 hl hj) (okf (by decide) (okf e0 (okf e1 (okf e2 (okt e3 ?_)))))
      refine okb (mEl (a := j) (f := aF A j) (hA.2 j hj) (by omega) hb.1 hb.2.1) ?_
      rw [ok_some]
    refine okf e3 ?_
    rw [ok_some]
    refine okb (mAY hm.1.1 hl hj) (okf (by decide) (okf e0 (okf e1 (okf e2 (okf e3 ?_)))))
    rw [ok_some]
  · refine okb (xAlgN hx.1 hl hj) (okt rfl ?_)
    rw [ok_some]
    refine okb (mAN hm.1.1 hl hj) (okt rfl ?_)
    rw [ok_some]
/-- the reference lays an algebra out -/
theorem mLaid {j : Nat} {A : AL} {S : Nat → List Nat} {P : PL} {w : Mem} (hA : VAs A) (hm : StM 1 A S P w) (hj : j < A.length) : Ok (sh_X9_laysOut_ (nI j) w) (fun w' => LaidT (aK A j) (eN (aK A j) (aS A j)) (aF A j) w' ∧ OutM w w') := mLays_ (hA.2 j hj) (by have := hA.1; omega) (hm.1.2 j hj).1 (hm.1.2 j hj).2.1 (hm.1.2 j hj).2.2
theorem c_product {wx : WX} {wm : Mem} (x1 x2 x3 x4 : Int32) (h : Rel wx wm) : Bq wx (sh_X8_product x1 x2 x3 x4 wx) (sh_X9_product x1 x2 x3 x4 wm) := by
  obtain ⟨A, S, P, ⟨hA, hS, hP⟩, hx, hm⟩ := h.1
  have hl := hA.1
  unfold sh_X8_product sh_X9_product Bq
  rcases spl (x := x1) (n := A.length) (by omega) with ⟨j, hj, rfl⟩ | hj
  · have ha := hx.1.2 j hj
    have hv := hA.2 j hj
    have hkn := kn_of hv
    have hn := hkn.2.2.1
    have pre : ∀ {Q : Int32 × Mem → Prop} {f : Int32 → Option (Int32 × Mem)}, (∀ w3, LaidT (aK A j) (eN (aK A j) (aS A j)) (aF A j) w3 → Rel wx w3 → Ok (Option.bind (sh_X9_isElement x2 w3) (fun v4 => if v4 = 0 then some ((-1 : Int32), w3) else Option.bind (sh_X9_isElement x3 w3) (fun v6 => if v6 = 0 then some ((-1 : Int32), w3) else Option.bind (sh_X9_isElement x4 w3) (fun v8 => if v8 = 0 then some ((-1 : Int32), w3) else Option.bind (sh_X9_at x2 x3) (fun v10 => Option.bind (ldS 36 3 v10 w3) (fun v11 => if v11 = x4 then Option.bind (sh_X9_at x2 x3) (fun v13 => Option.bind (ldS 36 4 v13 w3) (fun v14 => some (v14, w3))) else some (nI 0, w3))))))) Q) → Ok (Option.bind (sh_X9_isAlgebra (nI j) wm) (fun v1 => if v1 = 0 then some ((-1 : Int32), wm) else Option.bind (sh_X9_laysOut_ (nI j) wm) (fun w3 => Option.bind (sh_X9_isElement x2 w3) (fun v4 => if v4 = 0 then some ((-1 : Int32), w3) else Option.bind (sh_X9_isElement x3 w3) (fun v6 => if v6 = 0 then some ((-1 : Int32), w3) else Option.bind (sh_X9_isElement x4 w3) (fun v8 => if v8 = 0 then some ((-1 : Int32), w3) else Option.bind (sh_X9_at x2 x3) (fun v10 => Option.bind (ldS 36 3 v10 w3) (fun v11 => if v11 = x4 then Option.bind (sh_X9_at x2 x3) (fun v13 => Option.bind (ldS 36 4 v13 w3) (fun v14 => some (v14, w3))) else some (nI 0, w3))))))))) Q := by
      intro Q f hQ
      refine okb (mAY hm.1.1 hl hj) (okf (by decide) ?_)
      rw [ok_bind]
      exact (mLaid hA hm hj).mono fun w3 h3 => hQ w3 h3.1 (h.ms h3.2.ms)
    refine okb (xAlgY (Or.inl rfl) hx.1 hl hj) (okf (by omega) (okg (kAlg 1 (Or.inl rfl) j (by omega)) ?_))
    rcases spl (x := x2) (n := eN (aK A j) (aS A j)) (by omega) with ⟨e, he, rfl⟩ | he
    · refine okb (xHY ha.1 hn he) (okf (by decide) ?_)
      rcases spl (x := x3) (n := eN (aK A j) (aS A j)) (by omega) with ⟨i, hi, rfl⟩ | hi
      · refine okb (xHY ha.1 hn hi) (okf (by decide) ?_)
        rcases spl (x := x4) (n := eN (aK A j) (aS A j)) (by omega) with ⟨l, hl', rfl⟩ | hl'
        · refine okb (xHY ha.1 hn hl') (okf (by decide) (okb (xTiP hv ha he hi) ?_))
          rw [ok_some]
          refine pre (f := fun _ => none) fun w3 hw3 hr => okb (mEY hw3.1.1 hn he) (okf (by decide) (okb (mEY hw3.1.1 hn hi) (okf (by decide) (okb (mEY hw3.1.1 hn hl') (okf (by decide) (okb mAt (okb (ldS_ok (by omega) (by omega)) ?_)))))))
          rw [hw3.2.1.get he hi]
          by_cases z : nI (tgN (aK A j) (eN (aK A j) (aS A j)) e i) = nI l
          · simp only [if_pos z]
            refine okb mAt (okb (ldS_ok (by omega) (by omega)) ?_)
            rw [hw3.2.2.1.get he hi]
            exact stay hr
          · simp only [if_neg z]
            exact stay hr
        · refine okb (xHN ha.1 hn hl') (okt rfl ?_)
          rw [ok_some]
          exact pre (f := fun _ => none) fun w3 hw3 hr => okb (mEY hw3.1.1 hn he) (okf (by decide) (okb (mEY hw3.1.1 hn hi) (okf (by decide) (okb (mEN hw3.1.1 hn hl') (okt rfl (stay hr))))))
      · refine okb (xHN ha.1 hn hi) (okt rfl ?_)
        rw [ok_some]
        exact pre (f := fun _ => none) fun w3 hw3 hr => okb (mEY hw3.1.1 hn he) (okf (by decide) (okb (mEN hw3.1.1 hn hi) (okt rfl (stay hr))))
    · refine okb (xHN ha.1 hn he) (okt rfl ?_)
      rw [ok_some]
      exact pre (f := fun _ => none) fun w3 hw3 hr => okb (mEN hw3.1.1 hn he) (okt rfl (stay hr))
  · refine okb (xAlgN hx.1 hl hj) (okt rfl ?_)
    rw [ok_some]
    exact okb (mAN hm.1.1 hl hj) (okt rfl (stay h))
theorem mLaidA {j : Nat} {A : AL} {S : Nat → List Nat} {P : PL} {α : Type} {wx : WX} {w : Mem} {f : Mem → Option (α × Mem)} {e : Option (α × Mem)} {Q : α × Mem → Prop} (hA : VAs A) (hm : StM 1 A S P w) (hj : j < A.length) (h : Rel wx w) (hQ : ∀ w3, LaidT (aK A j) (eN (aK A j) (aS A j)) (aF A j) w3 → Rel wx w3 → OutM w w3 → Ok (f w3) Q) : Ok (Option.bind (sh_X9_isAlgebra (nI j) w) (fun v1 => if v1 = 0 then e else Option.bind (sh_X9_laysOut_ (nI j) w) f)) Q := by
  refine okb (mAY hm.1.1 hA.1 hj) (okf (by decide) ?_)
  rw [ok_bind]
  exact (mLaid hA hm hj).mono fun w3 h3 => hQ w3 h3.1 (h.ms h3.2.ms) h3.2
theorem c_form {wx : WX} {wm : Mem} (x1 x2 x3 x4 : Int32) (h : Rel wx wm) : Bq wx (sh_X8_form x1 x2 x3 x4 wx) (sh_X9_form x1 x2 x3 x4 wm) := by
  obtain ⟨A, S, P, ⟨hA, hS, hP⟩, hx, hm⟩ := h.1
  have hl := hA.1
  unfold sh_X8_form sh_X9_form Bq
  rcases spl (x := x1) (n := A.length) (by omega) with ⟨j, hj, rfl⟩ | hj
  · have ha := hx.1.2 j hj
    have hv := hA.2 j hj
    have hkn := kn_of hv
    have hn := hkn.2.2.1
    refine okb (xAlgY (Or.inl rfl) hx.1 hl hj) (okf (by omega) (okg (kAlg 1 (Or.inl rfl) j (by omega)) ?_))
    rcases spl (x := x2) (n := eN (aK A j) (aS A j)) (by omega) with ⟨e, he, rfl⟩ | he
    · refine okb (xHY ha.1 hn he) (okf (by decide) ?_)
      rcases spl (x := x3) (n := eN (aK A j) (aS A j)) (by omega) with ⟨i, hi, rfl⟩ | hi
      · refine okb (xHY ha.1 hn hi) (okf (by decide) ?_)
        by_cases e0 : x4 = nI 0
        · subst e0
          refine okt rfl (okb (xFoA hv ha he hi) ?_)
          rw [ok_some]
          refine mLaidA hA hm hj h fun w3 hw3 hr _ => okb (mEY hw3.1.1 hn he) (okf (by decide) (okb (mEY hw3.1.1 hn hi) (okf (by decide) (okb (mInJ (by omega) (by omega) (by omega)) (okf (bI_ne (by omega)) (okt rfl (okb (mFo hkn hw3.2.2.2.2.1 hw3.2.1 hw3.2.2.1 he hi) ?_)))))))
          exact stay hr
        · refine okf e0 ?_
          by_cases e1 : x4 = nI 1
          · subst e1
            refine okt rfl (okb (xTuO hv ha he hi) ?_)
            rw [ok_some]
            refine mLaidA hA hm hj h fun w3 hw3 hr _ => okb (mEY hw3.1.1 hn he) (okf (by decide) (okb (mEY hw3.1.1 hn hi) (okf (by decide) (okb (mInJ (by omega) (by omega) (by omega)) (okf (bI_ne (by omega)) (okf (by decide) (okb mAt (okb (ldS_ok (by omega) (by omega)) ?_))))))))
            rw [hw3.2.2.2.1.get he hi]
            exact stay hr
          · refine okf e1 ?_
            rw [ok_some]
            have hno : ¬ ((0 : Nat) ≤ x4.toInt ∧ x4.toInt ≤ (1 : Nat)) := by
              rintro ⟨a, b⟩
              obtain ⟨q, hq, rfl⟩ := nI_some (n := 2) (by omega) (x := x4) ⟨a, by omega⟩
              have : q = 0 ∨ q = 1 := by omega
              rcases this with rfl | rfl
              · exact e0 rfl
              · exact e1 rfl
            exact mLaidA hA hm hj h fun w3 hw3 hr _ => okb (mEY hw3.1.1 hn he) (okf (by decide) (okb (mEY hw3.1.1 hn hi) (okf (by decide) (okb (mIn (by omega) (by omega)) (okt (bI_eq hno) (stay hr))))))
      · refine okb (xHN ha.1 hn hi) (okt rfl ?_)
        rw [ok_some]
        exact mLaidA hA hm hj h fun w3 hw3 hr _ => okb (mEY hw3.1.1 hn he) (okf (by decide) (okb (mEN hw3.1.1 hn hi) (okt rfl (stay hr))))
    · refine okb (xHN ha.1 hn he) (okt rfl ?_)
      rw [ok_some]
      exact mLaidA hA hm hj h fun w3 hw3 hr _ => okb (mEN hw3.1.1 hn he) (okt rfl (stay hr))
  · refine okb (xAlgN hx.1 hl hj) (okt rfl ?_)
    rw [ok_some]
    exact okb (mAN hm.1.1 hl hj) (okt rfl (stay h))
theorem c_element {wx : WX} {wm : Mem} (x1 x2 x3 : Int32) (h : Rel wx wm) : Bq wx (sh_X8_element x1 x2 x3 wx) (sh_X9_element x1 x2 x3 wm) := by
  obtain ⟨A, S, P, ⟨hA, hS, hP⟩, hx, hm⟩ := h.1
  have hl := hA.1
  unfold sh_X8_element sh_X9_element Bq
  rcases spl (x := x1) (n := A.length) (by omega) with ⟨j, hj, rfl⟩ | hj
  · have ha := hx.1.2 j hj
    have hv := hA.2 j hj
    have hkn := kn_of hv
    have hn := hkn.2.2.1
    refine okb (xAlgY (Or.inl rfl) hx.1 hl hj) (okf (by omega) (okg (kAlg 1 (Or.inl rfl) j (by omega)) ?_))
    rcases spl (x := x2) (n := eN (aK A j) (aS A j)) (by omega) with ⟨e, he, rfl⟩ | he
    · refine okb (xHY ha.1 hn he) (okf (by decide) ?_)
      have pre : ∀ {Q : Int32 × Mem → Prop} {v : Int32}, (∀ w3, LaidT (aK A j) (eN (aK A j) (aS A j)) (aF A j) w3 → Rel wx w3 → Ok (if x3 = nI 0 then Option.bind (ldS 6 5 (nI e) w3) (fun v7 => some (v7, w3)) else if x3 = nI 1 then Option.bind (ldS 6 6 (nI e) w3) (fun v9 => some (v9, w3)) else if x3 = nI 2 then Option.bind (ldS 6 8 (nI e) w3) (fun v11 => some (v11, w3)) else if x3 = nI 3 then Option.bind (ldS 6 9 (nI e) w3) (fun v13 => some (v13, w3)) else some ((-1 : Int32), w3)) Q) → Ok (Option.bind (sh_X9_isAlgebra (nI j) wm) (fun v1 => if v1 = 0 then some ((-1 : Int32), wm) else Option.bind (sh_X9_laysOut_ (nI j) wm) (fun w3 => Option.bind (sh_X9_isElement (nI e) w3) (fun v4 => if v4 = 0 then some ((-1 : Int32), w3) else if x3 = nI 0 then Option.bind (ldS 6 5 (nI e) w3) (fun v7 => some (v7, w3)) else if x3 = nI 1 then Option.bind (ldS 6 6 (nI e) w3) (fun v9 => some (v9, w3)) else if x3 = nI 2 then Option.bind (ldS 6 8 (nI e) w3) (fun v11 => some (v11, w3)) else if x3 = nI 3 then Option.bind (ldS 6 9 (nI e) w3) (fun v13 => some (v13, w3)) else some ((-1 : Int32), w3))))) Q := by
        intro Q v hQ
        exact mLaidA hA hm hj h fun w3 hw3 hr _ => okb (mEY hw3.1.1 hn he) (okf (by decide) (hQ w3 hw3 hr))
      by_cases e0 : x3 = nI 0
      · refine okt e0 (okb (ldS_ok (by omega) (by omega)) ?_)
        rw [ok_some, ha.2.1.1 e he]
        refine pre (v := 0) fun w3 hw3 hr => okt e0 (okb (ldS_ok (by omega) (by omega)) ?_)
        rw [hw3.2.2.2.2.1 e he]
        exact stay hr
      refine okf e0 ?_
      by_cases e1 : x3 = nI 1
      · refine okt e1 (okb (ldS_ok (by omega) (by omega)) ?_)
        rw [ok_some, ha.2.1.2.1 e he]
        refine pre (v := 0) fun w3 hw3 hr => okf e0 (okt e1 (okb (ldS_ok (by omega) (by omega)) ?_))
        rw [hw3.2.2.2.2.2.1 e he]
        exact stay hr
      refine okf e1 ?_
      by_cases e2 : x3 = nI 2
      · refine okt e2 (okb (ldS_ok (by omega) (by omega)) ?_)
        rw [ok_some, ha.2.1.2.2.1 e he]
        refine pre (v := 0) fun w3 hw3 hr => okf e0 (okf e1 (okt e2 (okb (ldS_ok (by omega) (by omega)) ?_)))
        rw [hw3.2.2.2.2.2.2.1 e he]
        exact stay hr
      refine okf e2 ?_
      by_cases e3 : x3 = nI 3
      · refine okt e3 (okb (ldS_ok (by omega) (by omega)) ?_)
        rw [ok_some, ha.2.1.2.2.2 e he]
        refine pre (v := 0) fun w3 hw3 hr => okf e0 (okf e1 (okf e2 (okt e3 (okb (ldS_ok (by omega) (by omega)) ?_))))
        rw [hw3.2.2.2.2.2.2.2 e he]
        exact stay hr
      refine okf e3 ?_
      rw [ok_some]
      exact pre (v := 0) fun w3 hw3 hr => okf e0 (okf e1 (okf e2 (okf e3 (stay hr))))
    · refine okb (xHN ha.1 hn he) (okt rfl ?_)
      rw [ok_some]
      exact mLaidA hA hm hj h fun w3 hw3 hr _ => okb (mEN hw3.1.1 hn he) (okt rfl (stay hr))
  · refine okb (xAlgN hx.1 hl hj) (okt rfl ?_)
    rw [ok_some]
    exact okb (mAN hm.1.1 hl hj) (okt rfl (stay h))
theorem c_split {wx : WX} {wm : Mem} (x1 x2 x3 x4 : Int32) (h : Rel wx wm) : Bq wx (sh_X8_split x1 x2 x3 x4 wx) (sh_X9_split x1 x2 x3 x4 wm) := by
  obtain ⟨A, S, P, ⟨hA, hS, hP⟩, hx, hm⟩ := h.1
  have hl := hA.1
  unfold sh_X8_split sh_X9_split Bq
  rcases spl (x := x1) (n := A.length) (by omega) with ⟨j, hj, rfl⟩ | hj
  · have ha := hx.1.2 j hj
    have hv := hA.2 j hj
    have hkn := kn_of hv
    have hn := hkn.2.2.1
    refine okb (xAlgY (Or.inl rfl) hx.1 hl hj) (okf (by omega) (okg (kAlg 1 (Or.inl rfl) j (by omega)) ?_))
    rcases spl (x := x2) (n := eN (aK A j) (aS A j)) (by omega) with ⟨e, he, rfl⟩ | he
    · refine okb (xHY ha.1 hn he) (okf (by decide) ?_)
      rcases spl (x := x3) (n := eN (aK A j) (aS A j)) (by omega) with ⟨i, hi, rfl⟩ | hi
      · refine okb (xHY ha.1 hn hi) (okf (by decide) ?_)
        rcases spl (x := x4) (n := eN (aK A j) (aS A j)) (by omega) with ⟨l, hl', rfl⟩ | hl'
        · refine okb (xHY ha.1 hn hl') (okf (by decide) (okb (xTiS hv ha he hi hl') ?_))
          rw [ok_some]
          exact mLaidA hA hm hj h fun w3 hw3 hr _ => okb (mEY hw3.1.1 hn he) (okf (by decide) (okb (mEY hw3.1.1 hn hi) (okf (by decide) (okb (mEY hw3.1.1 hn hl') (okf (by decide) (okb (mSpl hkn hw3 he hi hl') (stay hr)))))))
        · refine okb (xHN ha.1 hn hl') (okt rfl ?_)
          rw [ok_some]
          exact mLaidA hA hm hj h fun w3 hw3 hr _ => okb (mEY hw3.1.1 hn he) (okf (by decide) (okb (mEY hw3.1.1 hn hi) (okf (by decide) (okb (mEN hw3.1.1 hn hl') (okt rfl (stay hr))))))
      · refine okb (xHN ha.1 hn hi) (okt rfl ?_)
        rw [ok_some]
        exact mLaidA hA hm hj h fun w3 hw3 hr _ => okb (mEY hw3.1.1 hn he) (okf (by decide) (okb (mEN hw3.1.1 hn hi) (okt rfl (stay hr))))
    · refine okb (xHN ha.1 hn he) (okt rfl ?_)
      rw [ok_some]
      exact mLaidA hA hm hj h fun w3 hw3 hr _ => okb (mEN hw3.1.1 hn he) (okt rfl (stay hr))
  · refine okb (xAlgN hx.1 hl hj) (okt rfl ?_)
    rw [ok_some]
    exact okb (mAN hm.1.1 hl hj) (okt rfl (stay h))
