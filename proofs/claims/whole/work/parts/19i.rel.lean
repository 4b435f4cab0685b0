/-! how class and reference stand to each other between calls -/
def RA (wx : WX) (wm : Mem) : Prop := ∃ (A : AL) (S : Nat → List Nat) (P : PL), (VAs A ∧ VSs S ∧ VPs P) ∧ StX 1 A S P wx ∧ StM 1 A S P wm
def RK (wx : WX) (wm : Mem) : Prop := (wx.1 0 2 = nI 0 ∧ wm 0 2 = nI 0) ∨ ((wx.1 0 2 = nI 1 ∧ wm 0 2 = nI 1) ∧ ∃ (A : AL) (S : Nat → List Nat) (P : PL), (VAs A ∧ VSs S ∧ VPs P) ∧ StX 55 A S P wx ∧ StM 2 A S P wm)
def RT (wx : WX) (wm : Mem) : Prop := ∃ T, Ty T ∧ TpX T wx ∧ TpM T wm
def RP (wx : WX) (wm : Mem) : Prop := ∃ n, n ≤ 24 ∧ wx.1 0 6 = nI n ∧ wm 0 32 = nI n ∧ ∀ j, j < n → wx.1 118 j = wm 25 j
def RL (wx : WX) (wm : Mem) : Prop := ∀ i, i < 4 → wx.1 117 i = wm 26 i ∧ (wm 26 i = (-1 : Int32) ∨ ∃ n, n ≤ 12 ∧ wm 26 i = nI n ∧ ∀ j, j < n → wx.1 (112 + 1 + 1 * i) j = wm 27 (12 * i + j))
def RW (r : Rf) : Prop := (∀ i, i < 4 → SwA (1 + 1 + 5 + 10 * i) r) ∧ SwA 121 r ∧ SwS 145 r ∧ SwS 149 r
def RH (wx : WX) : Prop := ∃ L, Sf L ∧ SuAt 119 L wx
def Rel (wx : WX) (wm : Mem) : Prop := RA wx wm ∧ RK wx wm ∧ RT wx wm ∧ RP wx wm ∧ RL wx wm ∧ RW wx.2 ∧ RH wx
theorem StX.to2 {c : Nat} {A : AL} {S : Nat → List Nat} {P : PL} {w w' : WX} (hl : A.length ≤ 4) (h : StX c A S P w) (g : ∀ q, c ≤ q → q < c + 54 → (∀ i, i < 4 → q ≠ c + 1 + 5 + 10 * i + 8 ∧ q ≠ c + 1 + 5 + 10 * i + 9) → w'.1 q = w.1 q) : StX c A S P w' := by
  obtain ⟨⟨h1, h2⟩, h3, h4, h5⟩ := h
  refine ⟨⟨by rw [g _ (by omega) (by omega) (by omega)]; exact h1, fun i hi => (h2 i hi).to fun q a b => g q (by omega) (by omega) (by omega)⟩, fun i hi => (h3 i hi).to (g _ (by omega) (by omega) (by omega)) (g _ (by omega) (by omega) (by omega)), by rw [g _ (by omega) (by omega) (by omega)]; exact h4, fun i hi => ?_⟩
  rw [g _ (by omega) (by omega) (by omega), g _ (by omega) (by omega) (by omega)]
  exact h5 i hi
/-- nothing of the class but rows of work has changed -/
def OutXs (w w' : WX) : Prop := ∀ q, q < 119 → (∀ i, i < 4 → q ≠ 1 + 1 + 5 + 10 * i + 8 ∧ q ≠ 1 + 1 + 5 + 10 * i + 9) → w'.1 q = w.1 q
theorem OutXs.refl {w : WX} : OutXs w w := fun _ _ _ => rfl
theorem OutXs.trans {w w1 w2 : WX} (h : OutXs w w1) (g : OutXs w1 w2) : OutXs w w2 := fun q a b => (g q a b).trans (h q a b)
theorem OutX.xs {lo hi : Nat} {w w' : WX} (h : OutX lo hi w w') (hl : 119 ≤ lo) : OutXs w w' := fun q a _ => h q (by omega)
def OutMs (m m' : Mem) : Prop := (∀ q, q = 1 ∨ q = 2 ∨ q = 13 ∨ q = 25 ∨ q = 26 ∨ q = 27 → m' q = m q) ∧ ∀ i, i = 2 ∨ i = 17 ∨ i = 32 → m' 0 i = m 0 i
theorem OutMs.refl {m : Mem} : OutMs m m := ⟨fun _ _ => rfl, fun _ _ => rfl⟩
theorem OutMs.trans {m m1 m2 : Mem} (h : OutMs m m1) (g : OutMs m1 m2) : OutMs m m2 := ⟨fun q a => (g.1 q a).trans (h.1 q a), fun i a => (g.2 i a).trans (h.2 i a)⟩
theorem OutM.ms {m m' : Mem} (h : OutM m m') : OutMs m m' := ⟨fun q a => h.1 q (by omega) (by omega), fun i a => h.2 i (by omega) (by omega)⟩
theorem OutS.ms {m m' : Mem} (h : OutS m m') : OutMs m m' := ⟨fun q a => h q (by omega) (by omega), fun i a => by rw [h 0 (by omega) (by omega)]⟩
theorem OutR.ms {m m' : Mem} (h : OutR m m') : OutMs m m' := ⟨fun q a => h.1 q (by omega) (by omega), fun i a => h.2 i (by omega)⟩
theorem OutP.ms {m m' : Mem} (h : OutP m m') : OutMs m m' := ⟨fun q a => h.1 q (by omega) (by omega), fun i a => h.2 i (by omega)⟩
theorem OutD.ms {m m' : Mem} (h : OutD m m') : OutMs m m' := ⟨fun q a => h.1 q (by omega) (by omega) (by omega), fun i a => h.2 i (by omega)⟩
theorem RA.to {wx wx' : WX} {wm wm' : Mem} (h : RA wx wm) (gx : ∀ q, 1 ≤ q → q < 55 → (∀ i, i < 4 → q ≠ 1 + 1 + 5 + 10 * i + 8 ∧ q ≠ 1 + 1 + 5 + 10 * i + 9) → wx'.1 q = wx.1 q) (gm : wm' 1 = wm 1) : RA wx' wm' := by
  obtain ⟨A, S, P, hv, h1, h2⟩ := h
  exact ⟨A, S, P, hv, h1.to2 hv.1.1 fun q a b c => gx q a b c, h2.to gm⟩
theorem RK.to {wx wx' : WX} {wm wm' : Mem} (h : RK wx wm) (g0 : wx'.1 0 2 = wx.1 0 2) (gx : ∀ q, 55 ≤ q → q < 109 → wx'.1 q = wx.1 q) (m0 : wm' 0 2 = wm 0 2) (gm : wm' 2 = wm 2) : RK wx' wm' := by
  rcases h with h | ⟨h, A, S, P, hv, h1, h2⟩
  · exact Or.inl ⟨by rw [g0]; exact h.1, by rw [m0]; exact h.2⟩
  · exact Or.inr ⟨⟨by rw [g0]; exact h.1, by rw [m0]; exact h.2⟩, A, S, P, hv, h1.to hv.1.1 gx, h2.to gm⟩
theorem RT.to {wx wx' : WX} {wm wm' : Mem} (h : RT wx wm) (g1 : wx'.1 109 = wx.1 109) (g2 : wx'.1 110 = wx.1 110) (m1 : wm' 0 17 = wm 0 17) (m2 : wm' 13 = wm 13) : RT wx' wm' := by
  unfold RT TpX TpM
  rw [g1, g2, m1, m2]
  exact h
theorem RP.to {wx wx' : WX} {wm wm' : Mem} (h : RP wx wm) (g1 : wx'.1 0 6 = wx.1 0 6) (g2 : wx'.1 118 = wx.1 118) (m1 : wm' 0 32 = wm 0 32) (m2 : wm' 25 = wm 25) : RP wx' wm' := by
  unfold RP
  rw [g1, g2, m1, m2]
  exact h
theorem RL.to {wx wx' : WX} {wm wm' : Mem} (h : RL wx wm) (gx : ∀ q, 113 ≤ q → q < 118 → wx'.1 q = wx.1 q) (m1 : wm' 26 = wm 26) (m2 : wm' 27 = wm 27) : RL wx' wm' := fun i hi => by
  obtain ⟨h1, h2⟩ := h i hi
  rw [gx 117 (by omega) (by omega), gx (112 + 1 + 1 * i) (by omega) (by omega), m1, m2]
  exact ⟨h1, h2⟩
theorem Rel.scr {wx wx' : WX} {wm wm' : Mem} (h : Rel wx wm) (gx : OutXs wx wx') (gm : OutMs wm wm') (hw : RW wx'.2) (hh : RH wx') : Rel wx' wm' := by
  obtain ⟨h1, h2, h3, h4, h5, h6, h7⟩ := h
  exact ⟨h1.to (fun q a b c => gx q (by omega) c) (gm.1 1 (by omega)), h2.to (by rw [gx 0 (by omega) (by omega)]) (fun q a b => gx q (by omega) (by omega)) (gm.2 2 (by omega)) (gm.1 2 (by omega)), h3.to (gx _ (by omega) (by omega)) (gx _ (by omega) (by omega)) (gm.2 17 (by omega)) (gm.1 13 (by omega)), h4.to (by rw [gx 0 (by omega) (by omega)]) (gx _ (by omega) (by omega)) (gm.2 32 (by omega)) (gm.1 25 (by omega)), h5.to (fun q a b => gx q (by omega) (by omega)) (gm.1 26 (by omega)) (gm.1 27 (by omega)), hw, hh⟩
theorem RH.to {w w' : WX} (h : RH w) (g : ∀ q, q = 119 ∨ q = 120 → w'.1 q = w.1 q) : RH w' := by
  obtain ⟨L, h1, h2⟩ := h
  exact ⟨L, h1, h2.to (g _ (by omega)) (g _ (by omega))⟩
/-- the reference alone has worked -/
theorem Rel.ms {wx : WX} {wm wm' : Mem} (h : Rel wx wm) (gm : OutMs wm wm') : Rel wx wm' := h.scr OutXs.refl gm h.2.2.2.2.2.1 h.2.2.2.2.2.2
/-! numbers -/
theorem i32c (x : Int32) : (x < 0 ∧ x.toInt < 0) ∨ ∃ j, j < 2147483648 ∧ x = nI j := by
  by_cases h : x < 0
  · refine Or.inl ⟨h, ?_⟩
    have := Int32.lt_iff_toInt_lt.mp h
    rwa [show (0 : Int32).toInt = 0 from rfl] at this
  · obtain ⟨j, h1, h2⟩ := nI_of h
    exact Or.inr ⟨j, h1, h2⟩
theorem mInN {x : Int32} {a b : Nat} (ha : a < 2147483648) (hb : b < 2147483648) (h : x.toInt < 0) : sh_X9_isIn x.toInt64 (lN a) (lN b) = some (nI 0) := by
  rw [mIn ha hb, bI_f (by omega)]
theorem mInJ {j a b : Nat} (hj : j < 2147483648) (ha : a < 2147483648) (hb : b < 2147483648) : sh_X9_isIn (nI j).toInt64 (lN a) (lN b) = some (bI (a ≤ j ∧ j ≤ b)) := by
  rw [mIn ha hb, nI_toInt hj]
  exact congrArg some (bI_congr (by omega))
theorem xHasI {a k s f n : Nat} {x : Int32} {w : WX} (hn : n < 2147483648) (hF : AlgF a k s f n w) : sh_X0_has a x w = some (bI (0 ≤ x.toInt ∧ x.toInt < n)) := xHas hn hF
theorem bI_ne {p : Prop} [Decidable p] (h : p) : ¬ bI p = 0 := by rw [bI_0]; exact fun q => q h
theorem bI_eq {p : Prop} [Decidable p] (h : ¬ p) : bI p = 0 := by rw [bI_0]; exact h
theorem xFig {x : Int32} : sh_X8_isFigure x = some (bI (0 ≤ x.toInt ∧ x.toInt ≤ 9)) := by
  unfold sh_X8_isFigure
  rcases i32c x with ⟨h1, h2⟩ | ⟨j, hj, rfl⟩
  · rw [if_pos h1, bI_f (by omega)]
  · rw [if_neg (by rw [ilt0 hj]; exact not_false), nI_toInt hj]
    by_cases h : 9 < j
    · rw [if_pos (by rw [ilt (by omega) hj]; exact h), bI_f (by omega)]
    · rw [if_neg (by rw [ilt (by omega) hj]; exact h), bI_t (by omega)]
theorem xTns {x : Int32} : sh_X8_isTurns x = some (bI (0 ≤ x.toInt ∧ x.toInt ≤ 20)) := by
  unfold sh_X8_isTurns
  rcases i32c x with ⟨h1, h2⟩ | ⟨j, hj, rfl⟩
  · rw [if_pos h1, bI_f (by omega)]
  · rw [if_neg (by rw [ilt0 hj]; exact not_false), nI_toInt hj]
    by_cases h : 20 < j
    · rw [if_pos (by rw [ilt (by omega) hj]; exact h), bI_f (by omega)]
    · rw [if_neg (by rw [ilt (by omega) hj]; exact h), bI_t (by omega)]
theorem xMs {k : Nat} (hk : k ≤ 4) : sh_X8_mostSize (nI k) = some (nI (if k = 4 then 2 else 6)) := by
  unfold sh_X8_mostSize
  by_cases h : k = 4
  · rw [if_pos (by rw [h]), if_pos h]
  · rw [if_neg (by rw [ieq (by omega) (by omega)]; exact h), if_neg h]
/-! both answer alike -/
def Bo {α : Type} (x : Option (α × WX)) (m : Option (α × Mem)) : Prop := Ok x (fun r => Ok m (fun s => r.1 = s.1 ∧ Rel r.2 s.2))
theorem aK_app {A : AL} {r : Nat × Nat × Nat} {i : Nat} (hi : i < A.length) : (A ++ [r]).getD i (0, 1, 0) = A.getD i (0, 1, 0) := by
  rw [List.getD_eq_getElem?_getD, List.getD_eq_getElem?_getD, List.getElem?_append_left hi]
theorem aK_new {A : AL} {r : Nat × Nat × Nat} : (A ++ [r]).getD A.length (0, 1, 0) = r := by
  rw [List.getD_eq_getElem?_getD, List.getElem?_append_right (Nat.le_refl _), Nat.sub_self]
  rfl
theorem c_algebra {wx : WX} {wm : Mem} (x1 x2 x3 : Int32) (h : Rel wx wm) : Bo (sh_X8_algebra x1 x2 x3 wx) (sh_X9_algebra x1 x2 x3 wm) := by
  obtain ⟨⟨A, S, P, ⟨hA, hS, hP⟩, hx, hm⟩, hK, hT, hPp, hL, hW, hH⟩ := id h
  have hl := hA.1
  unfold sh_X8_algebra sh_X9_algebra Bo
  rcases i32c x1 with ⟨n1, n1'⟩ | ⟨k, hk, rfl⟩
  · refine okt n1 ?_
    rw [ok_some]
    refine okb (mInN (by omega) (by omega) n1') (okt rfl ?_)
    rw [ok_some]
    exact ⟨rfl, h⟩
  refine okf (by rw [ilt0 hk]; exact not_false) ?_
  by_cases k4 : k ≤ 4
  · refine okt (by rw [ile hk (by omega)]; exact k4) ?_
    have hm0 : ∀ (P : Int32 × Mem → Prop), Ok (Option.bind (sh_X9_isIn x2.toInt64 (lN 1) (lN (if k = 4 then 2 else 6))) (fun v1 => if v1 = 0 then some ((-2 : Int32), wm) else Option.bind (sh_X9_isIn x3.toInt64 (lN 0) (lN 9)) (fun v3 => if v3 = 0 then some ((-2 : Int32), wm) else Option.bind (ldS 130 1 (nI 0) wm) (fun v5 => if v5 = (nI 4) then some ((-4 : Int32), wm) else Option.bind (ldS 130 1 (nI 0) wm) (fun v7 => Option.bind (stM 130 1 ((nI 1) + v7) (nI k) wm) (fun w8 => Option.bind (stM 130 1 ((nI 5) + v7) x2 w8) (fun w9 => Option.bind (stM 130 1 ((nI 9) + v7) x3 w9) (fun w10 => Option.bind (ldS 130 1 (nI 0) w10) (fun v11 => Option.bind (stM 130 1 (nI 0) (v11 + (nI 1)) w10) (fun w12 => some (v7, w12))))))))))) P → Ok (Option.bind (sh_X9_isIn (nI k).toInt64 (lN 0) (lN 4)) (fun v1 => if v1 = 0 then some ((-1 : Int32), wm) else if (nI k) = (nI 4) then sh_X9_algebra_j31 (nI k) x2 x3 x2.toInt64 (lN 1) (lN 2) wm else sh_X9_algebra_j31 (nI k) x2 x3 x2.toInt64 (lN 1) (lN 6) wm)) P := by
      intro P hP
      refine okb (mInJ hk (by omega) (by omega)) (okf (bI_ne ⟨Nat.zero_le _, k4⟩) ?_)
      by_cases e : k = 4
      · refine okt (by rw [e]) ?_
        rw [if_pos e] at hP
        exact hP
      · refine okf (by rw [ieq hk (by omega)]; exact e) ?_
        rw [if_neg e] at hP
        exact hP
    obtain ⟨b, hb⟩ : ∃ b, b = if k = 4 then 2 else 6 := ⟨_, rfl⟩
    have hb6 : b ≤ 6 ∧ (k = 4 → b = 2) := by rw [hb]; split <;> omega
    rw [← hb] at hm0
    rcases i32c x2 with ⟨n2, n2'⟩ | ⟨s, hs, rfl⟩
    · refine okt (Int32.lt_of_lt_of_le n2 (by decide)) ?_
      rw [ok_some]
      refine hm0 _ (okb (mInN (by omega) (by omega) n2') (okt rfl ?_))
      rw [ok_some]
      exact ⟨rfl, h⟩
    by_cases hs1 : 1 ≤ s ∧ s ≤ b
    · refine okf (by rw [ilt hs (by omega)]; omega) (okb (xMs k4) ?_)
      rw [← hb]
      refine okf (by rw [ilt (by omega) hs]; omega) (okb xFig ?_)
      by_cases hf : 0 ≤ x3.toInt ∧ x3.toInt ≤ 9
      · refine okf (bI_ne hf) ?_
        obtain ⟨f, hf9, rfl⟩ := nI_some (n := 10) (by omega) (x := x3) ⟨hf.1, by omega⟩
        rw [hx.1.1]
        have hmf : sh_X9_isIn (nI f).toInt64 (lN 0) (lN 9) = some (bI (0 ≤ f ∧ f ≤ 9)) := mInJ (by omega) (by omega) (by omega)
        by_cases hc : A.length < 4
        · refine okt (by rw [ilt (by omega) (by omega)]; exact hc) (okg (inb4 hc) ?_)
          rw [iclamp (by omega)]
          refine okg (kAlg 1 (Or.inl rfl) _ hc) ?_
          rw [ok_bind]
          have hva : VA k s f := ⟨k4, hs1.1, fun e => by have := hb6.2 e; omega, by omega, by omega⟩
          refine (xMake hva).mono fun w1 h1 => ?_
          obtain ⟨g1, g2, g3⟩ := h1
          rw [show w1.1 1 1 = nI A.length by rw [g2 _ (by omega)]; exact hx.1.1, nI_add]
          refine ok_pX fun w2 f1 f2 f3 f4 => ?_
          rw [f3, isub (by omega), Nat.add_sub_cancel, ok_some]
          refine hm0 _ (okb (mInJ hs (by omega) (by omega)) (okf (bI_ne hs1) (okb hmf (okf (bI_ne ⟨Nat.zero_le _, by omega⟩) (okb (ldS_ok (by omega) (by omega)) ?_)))))
          rw [hm.1.1]
          refine okf (by rw [ieq (by omega) (by omega)]; omega) (okb (ldS_ok (by omega) (by omega)) ?_)
          rw [hm.1.1, nI_add, nI_add, nI_add, ok_bind]
          refine ok_stM (by omega) (by omega) fun m1 a1 a2 a3 => ?_
          rw [ok_bind]
          refine ok_stM (by omega) (by omega) fun m2 b1 b2 b3 => ?_
          rw [ok_bind]
          refine ok_stM (by omega) (by omega) fun m3 c1 c2 c3 => ?_
          refine okb (ldS_ok (by omega) (by omega)) ?_
          rw [c2 _ (by omega), b2 _ (by omega), a2 _ (by omega), hm.1.1, nI_add, ok_bind]
          refine ok_stM (by omega) (by omega) fun m4 d1 d2 d3 => ?_
          rw [ok_some]
          refine ⟨rfl, ?_⟩
          show Rel w2 m4
          have hlen : (A ++ [(k, s, f)]).length = A.length + 1 := by simp
          have hgx : ∀ q, (q < 1 + 1 + 5 + 10 * A.length ∨ 1 + 1 + 5 + 10 * A.length + 10 ≤ q) → q ≠ 1 → w2.1 q = wx.1 q := fun q a b => by rw [f1 q b, g2 q a]
          have hgm : ∀ j, j ≠ 0 → j ≠ 1 + A.length → j ≠ 5 + A.length → j ≠ 9 + A.length → m4 1 j = wm 1 j := fun j a b c d => by rw [d2 j a, c2 j d, b2 j c, a2 j b]
          have hgq : ∀ q, q ≠ 1 → m4 q = wm q := fun q a => by rw [d1 q a, c1 q a, b1 q a, a1 q a]
          refine ⟨⟨A ++ [(k, s, f)], S, P, ⟨⟨by omega, fun i hi => ?_⟩, hS, hP⟩, ⟨⟨by rw [hlen]; exact f3, fun i hi => ?_⟩, fun i hi => ?_, ?_, fun i hi => ?_⟩, ⟨by rw [hlen]; exact d3, fun i hi => ?_⟩, fun i hi => ⟨?_, fun j hj => ?_⟩, ?_, fun i hi => ?_⟩, hK.to ?_ (fun q a b => hgx q (by omega) (by omega)) ?_ (hgq _ (by omega)), hT.to (hgx _ (by omega) (by omega)) (hgx _ (by omega) (by omega)) ?_ (hgq _ (by omega)), hPp.to ?_ (hgx _ (by omega) (by omega)) ?_ (hgq _ (by omega)), hL.to (fun q a b => hgx q (by omega) (by omega)) (hgq _ (by omega)) (hgq _ (by omega)), by rw [f4, g3]; exact hW, hH.to fun q hq => hgx q (by omega) (by omega)⟩
          · by_cases z : i = A.length
            · subst z; unfold aK aS aF; rw [aK_new]; exact hva
            · unfold aK aS aF; rw [aK_app (by omega)]; exact hA.2 i (by omega)
          · by_cases z : i = A.length
            · subst z; unfold aK aS aF; rw [aK_new]; exact g1.to fun q a b => f1 q (by omega)
            · unfold aK aS aF; rw [aK_app (by omega)]; exact (hx.1.2 i (by omega)).to fun q a b => hgx q (by omega) (by omega)
          · exact (hx.2.1 i hi).to (hgx _ (by omega) (by omega)) (hgx _ (by omega) (by omega))
          · rw [hgx _ (by omega) (by omega)]; exact hx.2.2.1
          · rw [hgx _ (by omega) (by omega), hgx _ (by omega) (by omega)]; exact hx.2.2.2 i hi
          · by_cases z : i = A.length
            · subst z; unfold aK aS aF; rw [aK_new]
              exact ⟨by rw [d2 _ (by omega), c2 _ (by omega), b2 _ (by omega)]; exact a3, by rw [d2 _ (by omega), c2 _ (by omega)]; exact b3, by rw [d2 _ (by omega)]; exact c3⟩
            · unfold aK aS aF; rw [aK_app (by omega), hgm _ (by omega) (by omega) (by omega) (by omega), hgm _ (by omega) (by omega) (by omega) (by omega), hgm _ (by omega) (by omega) (by omega) (by omega)]
              exact hm.1.2 i (by omega)
          · rw [hgm _ (by omega) (by omega) (by omega) (by omega)]; exact (hm.2.1 i hi).1
          · rw [hgm _ (by omega) (by omega) (by omega) (by omega)]; exact (hm.2.1 i hi).2 j hj
          · rw [hgm _ (by omega) (by omega) (by omega) (by omega)]; exact hm.2.2.1
          · rw [hgm _ (by omega) (by omega) (by omega) (by omega), hgm _ (by omega) (by omega) (by omega) (by omega)]; exact hm.2.2.2 i hi
          · rw [hgx 0 (by omega) (by omega)]
          · rw [hgq 0 (by omega)]
          · rw [hgq 0 (by omega)]
          · rw [hgx 0 (by omega) (by omega)]
          · rw [hgq 0 (by omega)]
        · refine okf (by rw [ilt (by omega) (by omega)]; exact hc) ?_
          rw [ok_some]
          refine hm0 _ (okb (mInJ hs (by omega) (by omega)) (okf (bI_ne hs1) (okb hmf (okf (bI_ne ⟨Nat.zero_le _, by omega⟩) (okb (ldS_ok (by omega) (by omega)) ?_)))))
          rw [hm.1.1]
          refine okt (by rw [show A.length = 4 by omega]) ?_
          rw [ok_some]
          exact ⟨rfl, h⟩
      · refine okt (bI_eq hf) ?_
        rw [ok_some]
        refine hm0 _ (okb (mInJ hs (by omega) (by omega)) (okf (bI_ne hs1) (okb (mIn (by omega) (by omega)) (okt (bI_eq hf) ?_))))
        rw [ok_some]
        exact ⟨rfl, h⟩
    · have fin : Ok (some ((-2 : Int32), wx)) (fun r => Ok (Option.bind (sh_X9_isIn (nI k).toInt64 (lN 0) (lN 4)) (fun v1 => if v1 = 0 then some ((-1 : Int32), wm) else if (nI k) = (nI 4) then sh_X9_algebra_j31 (nI k) (nI s) x3 (nI s).toInt64 (lN 1) (lN 2) wm else sh_X9_algebra_j31 (nI k) (nI s) x3 (nI s).toInt64 (lN 1) (lN 6) wm)) (fun s => r.1 = s.1 ∧ Rel r.2 s.2)) := by
        rw [ok_some]
        refine hm0 _ (okb (mInJ hs (by omega) (by omega)) (okt (bI_eq hs1) ?_))
        rw [ok_some]
        exact ⟨rfl, h⟩
      by_cases s0 : s < 1
      · exact okt (by rw [ilt hs (by omega)]; exact s0) fin
      · refine okf (by rw [ilt hs (by omega)]; exact s0) (okb (xMs k4) ?_)
        rw [← hb]
        exact okt (by rw [ilt (by omega) hs]; omega) fin
  · refine okf (by rw [ile hk (by omega)]; exact k4) ?_
    rw [ok_some]
    refine okb (mInJ hk (by omega) (by omega)) (okt (bI_eq (by omega)) ?_)
    rw [ok_some]
    exact ⟨rfl, h⟩
