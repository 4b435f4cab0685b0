/-! plan, behind, write, paper -/
theorem Rel.setP {B : PL} {wx wx' : WX} {wm wm' : Mem} (hB : VPs B) (h : Rel wx wm) (x1 : PX (1 + 3) B wx') (x2 : ∀ q, q < 119 → q ≠ 4 → q ≠ 5 → q ≠ 6 → wx'.1 q = wx.1 q) (hw : RW wx'.2) (hh : RH wx') (m1 : PM 1 B wm') (m2 : ∀ q, q ≠ 1 → wm' q = wm q) (m3 : ∀ i, i < 113 → wm' 1 i = wm 1 i) : Rel wx' wm' := by
  obtain ⟨⟨A, S, P, ⟨hA, hS, hP⟩, hx, hm⟩, h2, h3, h4, h5, h6, h7⟩ := h
  have hl := hA.1
  refine ⟨⟨A, S, B, ⟨hA, hS, hB⟩, ⟨⟨by rw [x2 _ (by omega) (by omega) (by omega) (by omega)]; exact hx.1.1, fun i hi => (hx.1.2 i hi).to fun q a b => x2 q (by omega) (by omega) (by omega) (by omega)⟩, fun i hi => (hx.2.1 i hi).to (x2 _ (by omega) (by omega) (by omega) (by omega)) (x2 _ (by omega) (by omega) (by omega) (by omega)), x1⟩, ⟨⟨by rw [m3 _ (by omega)]; exact hm.1.1, fun i hi => ?_⟩, fun i hi => ?_, m1⟩⟩, h2.to (by rw [x2 0 (by omega) (by omega) (by omega) (by omega)]) (fun q a b => x2 q (by omega) (by omega) (by omega) (by omega)) (by rw [m2 0 (by omega)]) (m2 2 (by omega)), h3.to (x2 _ (by omega) (by omega) (by omega) (by omega)) (x2 _ (by omega) (by omega) (by omega) (by omega)) (by rw [m2 0 (by omega)]) (m2 13 (by omega)), h4.to (by rw [x2 0 (by omega) (by omega) (by omega) (by omega)]) (x2 _ (by omega) (by omega) (by omega) (by omega)) (by rw [m2 0 (by omega)]) (m2 25 (by omega)), h5.to (fun q a b => x2 q (by omega) (by omega) (by omega) (by omega)) (m2 26 (by omega)) (m2 27 (by omega)), hw, hh⟩
  · rw [m3 _ (by omega), m3 _ (by omega), m3 _ (by omega)]; exact hm.1.2 i hi
  · have hl := (hS i hi).1
    exact ⟨by rw [m3 _ (by omega)]; exact (hm.2.1 i hi).1, (hm.2.1 i hi).2.to fun q a b => m3 q (by omega)⟩
def plo (a : Nat) : Nat := if a = 1 then 1 else 0
def phi (a : Nat) : Nat := if a = 0 then 6 else if a = 1 then 9 else 3
theorem xTell {a : Nat} {x : Int32} (ha : a ≤ 2) : sh_X3_canTell (nI a) x = some (bI ((plo a : Int) ≤ x.toInt ∧ x.toInt ≤ phi a)) := by
  have hc : a = 0 ∨ a = 1 ∨ a = 2 := by omega
  unfold sh_X3_canTell
  rcases hc with rfl | rfl | rfl
  · rw [if_pos rfl]
    show _ = some (bI ((0 : Int) ≤ x.toInt ∧ x.toInt ≤ (6 : Nat)))
    rcases i32c x with ⟨n2, n2'⟩ | ⟨k, hk, rfl⟩
    · rw [if_pos n2, bI_f (by omega)]
    · rw [if_neg (by rw [ilt0 hk]; exact not_false), nI_toInt hk]
      by_cases z : 7 ≤ k
      · rw [if_pos (by rw [ile (by omega) hk]; exact z), bI_f (by omega)]
      · rw [if_neg (by rw [ile (by omega) hk]; exact z), bI_t (by omega)]
  · rw [if_neg (by decide), if_pos rfl]
    show _ = some (bI ((1 : Int) ≤ x.toInt ∧ x.toInt ≤ (9 : Nat)))
    rcases i32c x with ⟨n2, n2'⟩ | ⟨k, hk, rfl⟩
    · rw [if_pos (neg_lt n2 (by omega)), bI_f (by omega)]
    · rw [nI_toInt hk]
      by_cases y : k < 1
      · rw [if_pos (by rw [ilt hk (by omega)]; exact y), bI_f (by omega)]
      rw [if_neg (by rw [ilt hk (by omega)]; exact y)]
      by_cases z : 9 < k
      · rw [if_pos (by rw [ilt (by omega) hk]; exact z), bI_f (by omega)]
      · rw [if_neg (by rw [ilt (by omega) hk]; exact z), bI_t (by omega)]
  · rw [if_neg (by decide), if_neg (by decide), if_pos rfl]
    show _ = some (bI ((0 : Int) ≤ x.toInt ∧ x.toInt ≤ (3 : Nat)))
    rcases i32c x with ⟨n2, n2'⟩ | ⟨k, hk, rfl⟩
    · rw [if_pos n2, bI_f (by omega)]
    · rw [if_neg (by rw [ilt0 hk]; exact not_false), nI_toInt hk]
      by_cases z : 4 ≤ k
      · rw [if_pos (by rw [ile (by omega) hk]; exact z), bI_f (by omega)]
      · rw [if_neg (by rw [ile (by omega) hk]; exact z), bI_t (by omega)]
theorem n1_lt {x : Int32} (h : x < 0) (e : ¬ x = (-1 : Int32)) : x < (-1 : Int32) := by
  rw [Int32.lt_iff_toInt_lt] at h ⊢
  have h0 : (0 : Int32).toInt = 0 := rfl
  have h1 : (-1 : Int32).toInt = -1 := rfl
  have h2 : x.toInt ≠ -1 := fun z => e (Int32.toInt_inj.mp (z.trans h1.symm))
  omega
theorem c_plan {wx : WX} {wm : Mem} (x1 x2 : Int32) (h : Rel wx wm) : Bo (sh_X8_plan x1 x2 wx) (sh_X9_plan x1 x2 wm) := by
  obtain ⟨A, S, P, ⟨hA, hS, hP⟩, hx, hm⟩ := h.1
  have hp8 := hP.1
  unfold sh_X8_plan sh_X9_plan Bo
  by_cases e1 : x1 = (-1 : Int32)
  · subst e1
    refine okf (by decide) (okt (by decide) (okt rfl ?_))
    refine ok_pX fun w1 f1 f2 f3 f4 => ?_
    rw [ok_some]
    refine okt rfl ?_
    rw [ok_bind]
    refine ok_stM (by omega) (by omega) fun m1 a1 a2 a3 => ?_
    rw [ok_some]
    refine ⟨rfl, ?_⟩
    show Rel w1 m1
    exact h.setP (B := []) ⟨by simp, fun i hi => absurd hi (Nat.not_lt_zero i)⟩ ⟨f3, fun i hi => absurd hi (Nat.not_lt_zero i)⟩ (fun q a b c d => f1 q b) (by rw [f4]; exact h.2.2.2.2.2.1) (h.2.2.2.2.2.2.to fun q a => f1 q (by omega)) ⟨a3, fun i hi => absurd hi (Nat.not_lt_zero i)⟩ a1 (fun i hi => a2 i (by omega))
  rcases i32c x1 with ⟨n1, n1'⟩ | ⟨a, ha, rfl⟩
  · refine okt (n1_lt n1 e1) ?_
    rw [ok_some]
    exact okf e1 (okb (mIZ (by omega) (by omega) (by omega)) (okt rfl (stay h)))
  refine okf (by rw [Int32.lt_iff_toInt_lt, nI_toInt ha, show (-1 : Int32).toInt = -1 from rfl]; omega) ?_
  by_cases ha2 : a ≤ 2
  · refine okt (by rw [ile ha (by omega)]; exact ha2) (okf e1 (okb (xTell ha2) ?_))
    have pre : ∀ {Q : Int32 × Mem → Prop}, Ok (sh_X9_plan_j65 (nI a) x2 x2.toInt64 (lN (plo a)) (lN (phi a)) wm) Q → Ok (if nI a = (-1 : Int32) then Option.bind (stM 130 1 (nI 113) (nI 0) wm) (fun w5 => some (nI 0, w5)) else Option.bind (sh_X9_isIn (nI a).toInt64 (lN 0) (lN 2)) (fun v2 => if v2 = 0 then some ((-1 : Int32), wm) else if (nI a) = (nI 1) then sh_X9_plan_j41 (nI a) x2 x2.toInt64 (lN 1) wm else sh_X9_plan_j41 (nI a) x2 x2.toInt64 (lN 0) wm)) Q := by
      intro Q hQ
      refine okf e1 (okb (mIY (by omega) (by omega)) (okf (by decide) ?_))
      have hc : a = 0 ∨ a = 1 ∨ a = 2 := by omega
      rcases hc with rfl | rfl | rfl
      · refine okf (by decide) ?_
        unfold sh_X9_plan_j41
        exact okt rfl hQ
      · refine okt rfl ?_
        unfold sh_X9_plan_j41
        exact okf (by decide) (okt rfl hQ)
      · refine okf (by decide) ?_
        unfold sh_X9_plan_j41
        exact okf (by decide) (okf (by decide) hQ)
    have hph : plo a ≤ 1 ∧ phi a ≤ 9 := by unfold plo phi; constructor <;> (repeat' split) <;> omega
    by_cases hr : (plo a : Int) ≤ x2.toInt ∧ x2.toInt ≤ phi a
    · refine okf (bI_ne hr) ?_
      have hj : sh_X9_isIn x2.toInt64 (lN (plo a)) (lN (phi a)) = some (nI 1) := by rw [mIn (by omega) (by omega), bI_t hr]
      obtain ⟨v, hv, rfl⟩ := nI_some (n := 10) (by omega) (x := x2) (by omega)
      rw [nI_toInt (by omega)] at hr
      have hrow : rowOk a v := by
        have hc : a = 0 ∨ a = 1 ∨ a = 2 := by omega
        rcases hc with rfl | rfl | rfl
        · have h6 : phi 0 = 6 := rfl
          exact Or.inl ⟨rfl, by omega⟩
        · have h6 : plo 1 = 1 := rfl
          exact Or.inr (Or.inl ⟨rfl, by omega, by omega⟩)
        · have h6 : phi 2 = 3 := rfl
          exact Or.inr (Or.inr ⟨rfl, by omega⟩)
      rw [hx.2.2.1]
      by_cases hc : P.length < 8
      · refine okt (by rw [ilt (by omega) (by omega)]; exact hc) ?_
        unfold sh_X3_append
        rw [hx.2.2.1, ok_bind]
        refine okt (by rw [ilt (by omega) (by omega)]; exact hc) ?_
        rw [ok_bind]
        refine ok_stX hc (by omega) fun w1 f1 f2 f3 f4 => ?_
        rw [f1 (1 + 3) (by omega), hx.2.2.1, ok_bind]
        refine ok_stX hc (by omega) fun w2 g1 g2 g3 g4 => ?_
        rw [g1 (1 + 3) (by omega), f1 (1 + 3) (by omega), hx.2.2.1, nI_add]
        refine ok_pX fun w3 d1 d2 d3 d4 => ?_
        rw [ok_some, ok_some, d3]
        refine pre ?_
        unfold sh_X9_plan_j65
        refine okb hj (okf (by decide) (okb (ldS_ok (by omega) (by omega)) ?_))
        rw [hm.2.2.1]
        refine okf (by rw [ieq (by omega) (by omega)]; omega) (okb (ldS_ok (by omega) (by omega)) ?_)
        rw [hm.2.2.1, pk_mul, nI_add, ok_bind]
        refine ok_stM (by omega) (by omega) fun m1 a1 a2 a3 => ?_
        refine okb (ldS_ok (by omega) (by omega)) ?_
        rw [a2 113 (by omega), hm.2.2.1, pk_mul, nI_add, ok_bind]
        refine ok_stM (by omega) (by omega) fun m2 b1 b2 b3 => ?_
        refine okb (ldS_ok (by omega) (by omega)) ?_
        rw [b2 113 (by omega), a2 113 (by omega), hm.2.2.1, nI_add, ok_bind]
        refine ok_stM (by omega) (by omega) fun m3 c1 c2 c3 => ?_
        refine okb (ldS_ok (by omega) (by omega)) ?_
        rw [c3, ok_some]
        refine ⟨rfl, ?_⟩
        show Rel w3 m3
        have hlen : (P ++ [(a, v)]).length = P.length + 1 := by simp
        have hold : ∀ i, i < P.length → (P ++ [(a, v)]).getD i (0, 0) = P.getD i (0, 0) := fun i hi => by
          rw [List.getD_eq_getElem?_getD, List.getD_eq_getElem?_getD, List.getElem?_append_left hi]
        have hnew : (P ++ [(a, v)]).getD P.length (0, 0) = (a, v) := by
          rw [List.getD_eq_getElem?_getD, List.getElem?_append_right (Nat.le_refl _), Nat.sub_self]
          rfl
        refine h.setP (B := P ++ [(a, v)]) ⟨by omega, fun i hi => ?_⟩ ⟨by rw [hlen]; exact d3, fun i hi => ?_⟩ (fun q k1 k2 k3 k4 => by rw [d1 q k2, g1 q k4, f1 q k3]) (by rw [d4, g4, f4]; exact h.2.2.2.2.2.1) (h.2.2.2.2.2.2.to fun q k => by rw [d1 q (by omega), g1 q (by omega), f1 q (by omega)]) ⟨by rw [hlen]; exact c3, fun i hi => ?_⟩ (fun q k => by rw [c1 q k, b1 q k, a1 q k]) (fun i hi => by rw [c2 i (by omega), b2 i (by omega), a2 i (by omega)])
        · unfold pW pV
          by_cases z : i < P.length
          · rw [hold i z]; exact hP.2 i z
          · have e : i = P.length := by omega
            subst e
            rw [hnew]; exact hrow
        · unfold pW pV
          by_cases z : i < P.length
          · rw [hold i z, d1 (1 + 3 + 1) (by omega), d1 (1 + 3 + 2) (by omega), g1 (1 + 3 + 1) (by omega), f2 i (by omega), g2 i (by omega), f1 (1 + 3 + 2) (by omega)]
            exact hx.2.2.2 i z
          · have e : i = P.length := by omega
            subst e
            rw [hnew, d1 (1 + 3 + 1) (by omega), d1 (1 + 3 + 2) (by omega), g1 (1 + 3 + 1) (by omega)]
            exact ⟨f3, g3⟩
        · unfold pW pV
          by_cases z : i < P.length
          · rw [hold i z, c2 _ (by omega), b2 _ (by omega), a2 _ (by omega), c2 _ (by omega), b2 _ (by omega), a2 _ (by omega)]
            exact hm.2.2.2 i z
          · have e : i = P.length := by omega
            subst e
            rw [hnew, c2 _ (by omega), b2 _ (by omega), c2 _ (by omega)]
            exact ⟨a3, b3⟩
      · refine okf (by rw [ilt (by omega) (by omega)]; exact hc) ?_
        rw [ok_some]
        refine pre ?_
        unfold sh_X9_plan_j65
        refine okb hj (okf (by decide) (okb (ldS_ok (by omega) (by omega)) ?_))
        rw [hm.2.2.1]
        exact okt (by rw [show P.length = 8 by omega]) (stay h)
    · refine okt (bI_eq hr) ?_
      rw [ok_some]
      refine pre ?_
      unfold sh_X9_plan_j65
      have hj : sh_X9_isIn x2.toInt64 (lN (plo a)) (lN (phi a)) = some (nI 0) := by rw [mIn (by omega) (by omega), bI_f hr]
      exact okb hj (okt rfl (stay h))
  · refine okf (by rw [ile ha (by omega)]; exact ha2) ?_
    rw [ok_some]
    exact okf e1 (okb (mInJ ha (by omega) (by omega)) (okt (bI_eq (by omega)) (stay h)))
theorem mPlan {x2 : Int32} {S : Nat → List Nat} {P : PL} {L : List Nat} {wm w : Mem} (hS : VSs S) (hP : VPs P) (hL : Sf L) (h : SM 1 S wm) (g : PM 1 P wm) (ho : OutR wm w) (r : RoM L w) : Ok (lpw (sh_X9_behind__s45 x2) FU (nI 0, w)) (fun w' => RoM (plL S P L P.length) w' ∧ OutR wm w') := by
  have hp8 := hP.1
  refine ok_for P.length (fun k s => s.1 = nI k ∧ RoM (plL S P L k) s.2 ∧ OutR wm s.2) ⟨rfl, by exact r, ho⟩ ?_ ?_ (by omega)
  · rintro k ⟨_, u⟩ hk ⟨rfl, g1, g2⟩
    have e1 : u 1 = wm 1 := g2.1 1 (by omega) (by omega)
    have e0 : u 1 113 = nI P.length := by rw [e1]; exact g.1
    unfold sh_X9_behind__s45
    refine okb (ldS_ok (by omega) (by omega)) ?_
    rw [show ((nI k, u) : Int32 × Mem).2 1 113 = nI P.length from e0]
    refine okf (by rw [ile (by omega) (by omega)]; omega) ?_
    simp only [pk_mul, nI_add]
    refine okb (ldS_ok (by omega) (by omega)) (okb (ldS_ok (by omega) (by omega)) ?_)
    rw [e1, (g.2 k hk).1, (g.2 k hk).2, ok_bind]
    have g1' : RoM (plL S P L k) u := g1
    refine (mRow hS (Sf_plL hS hP hL k (by omega)) (hP.2 k hk) (fun i hi => (h i hi).to e1) g1').mono fun u' h' => ?_
    rw [ok_letv, ok_some]
    exact ⟨_, rfl, rfl, h'.1, g2.trans h'.2⟩
  · rintro ⟨_, u⟩ ⟨rfl, g1, g2⟩
    have e1 : u 1 = wm 1 := g2.1 1 (by omega) (by omega)
    have e0 : u 1 113 = nI P.length := by rw [e1]; exact g.1
    unfold sh_X9_behind__s45
    refine okb (ldS_ok (by omega) (by omega)) ?_
    rw [show ((nI P.length, u) : Int32 × Mem).2 1 113 = nI P.length from e0]
    refine okt (Int32.le_refl _) ?_
    rw [ok_some]
    exact ⟨_, rfl, g1, g2⟩
