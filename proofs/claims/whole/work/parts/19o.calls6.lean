/-! glue, cut, draws -/
theorem mInT {x : Int32} {n : Nat} (hn : n < 1073741824) : sh_X9_isIn x.toInt64 (lN 0) (nI n).toInt64 = some (bI (0 ≤ x.toInt ∧ x.toInt ≤ n)) := by
  rw [mIn0]
  refine congrArg some (bI_congr ?_)
  rw [lN_toInt (by omega), Int32.toInt_toInt64, Int32.toInt_toInt64, nI_toInt (by omega)]
  constructor <;> (intro h; omega)
theorem c_glue {wx : WX} {wm : Mem} (x1 x2 : Int32) (h : Rel wx wm) : Bo (sh_X8_glue x1 x2 wx) (sh_X9_glue x1 x2 wm) := by
  obtain ⟨A, S, P, ⟨hA, hS, hP⟩, hx, hm⟩ := h.1
  unfold sh_X8_glue sh_X9_glue Bo
  rcases spl (x := x1) (n := 4) (by omega) with ⟨i, hi, rfl⟩ | hi
  · refine okb (xSurY (Or.inl rfl) hi) (okf (by omega) (okg (kSur 1 (Or.inl rfl) i hi) ?_))
    rcases spl (x := x2) (n := 4) (by omega) with ⟨l, hl2, rfl⟩ | hl2
    · refine okb (xSurY (Or.inl rfl) hl2) (okf (by omega) (okg (kSur 1 (Or.inl rfl) l hl2) ?_))
      have sf := hS i hi
      have sg := hS l hl2
      have hxi := hx.2.1 i hi
      have hxl := hx.2.1 l hl2
      have l1 := sf.1
      have l2 := sg.1
      refine okb (xGf sf sg hxi hxl) ?_
      have pre : ∀ {Q : Int32 × Mem → Prop}, (∀ w5, RoM (S i) w5 → OutR wm w5 → Ok (if bI ((cirF (cr (S i)) (S l)).isSome = true) = 0 then some ((-3 : Int32), w5) else (if nI ((S i).length + (S l).length) ≤ (nI 24) then Option.bind (sh_X9_glues (nI l) w5) (fun w10 => Option.bind (sh_X9_saves (nI i) w10) (fun w11 => some (w11 0 15, w11))) else some ((-4 : Int32), w5))) Q) → Ok (Option.bind (sh_X9_isSurface (nI i)) (fun v1 => if v1 = 0 then some ((-1 : Int32), wm) else Option.bind (sh_X9_isSurface (nI l)) (fun v3 => if v3 = 0 then some ((-1 : Int32), wm) else Option.bind (sh_X9_loads (nI i) wm) (fun w5 => Option.bind (sh_X9_mayGlue (nI l) w5) (fun v6 => if v6 = 0 then some ((-3 : Int32), w5) else Option.bind (ldS 130 1 ((nI 13) + nI l) w5) (fun v8 => if ((w5 0 15) + v8) ≤ (nI 24) then Option.bind (sh_X9_glues (nI l) w5) (fun w10 => Option.bind (sh_X9_saves (nI i) w10) (fun w11 => some (w11 0 15, w11))) else some ((-4 : Int32), w5))))))) Q := by
        intro Q hQ
        refine okb (mSY hi) (okf (by decide) (okb (mSY hl2) (okf (by decide) ?_)))
        rw [ok_bind]
        refine (mLoad hi sf.1 (hm.2.1 i hi)).mono fun w5 h5 => ?_
        have sl : SuM 1 l (S l) w5 := (hm.2.1 l hl2).to (h5.2.1 1 (by omega) (by omega))
        refine okb (mMay hl2 sf sg h5.1 sl) ?_
        have hq := hQ w5 h5.1 h5.2
        by_cases z : bI ((cirF (cr (S i)) (S l)).isSome = true) = 0
        · rw [if_pos z] at hq
          exact okt z hq
        · rw [if_neg z] at hq
          refine okf z ?_
          rw [nI_add]
          refine okb (ldS_ok (by omega) (by omega)) ?_
          rw [sl.1, h5.1.1, nI_add]
          exact hq
      by_cases hc : (cirF (cr (S i)) (S l)).isSome = true
      · by_cases h24 : (S i).length + (S l).length ≤ 24
        · have e : glF (S i) (S l) = nI 0 := by rw [glF_0]; exact ⟨hc, h24⟩
          rw [e]
          refine okt rfl ?_
          rw [ok_bind]
          have htu : 1 + 2 + 44 + 2 * i = 1 + 2 + 44 + 2 * l ∧ S i = S l ∨ (1 + 2 + 44 + 2 * i + 2 ≤ 1 + 2 + 44 + 2 * l ∨ 1 + 2 + 44 + 2 * l + 2 ≤ 1 + 2 + 44 + 2 * i) := by
            by_cases z : i = l
            · subst z; exact Or.inl ⟨rfl, rfl⟩
            · exact Or.inr (by omega)
          refine (xGlu sf sg hxi hxl ⟨hc, h24⟩ htu).mono fun w1 h1 => ?_
          rw [ok_some]
          refine pre fun w5 h5 h6 => okf (bI_ne hc) (okt (by rw [ile (by omega) (by omega)]; exact h24) ?_)
          rw [ok_bind]
          refine (mGlu hl2 h24 h5 ((hm.2.1 l hl2).to (h6.1 1 (by omega) (by omega)))).mono fun w10 h10 => ?_
          rw [ok_bind]
          refine (mSave hi (by rw [List.length_append]; exact h24) h10.1).mono fun w11 h11 => ?_
          rw [ok_some]
          refine ⟨h1.1.1.1.trans ?_, ?_⟩
          · show _ = w11 0 15
            rw [h11.2.1 0 (by omega)]
            exact h10.1.1.symm
          · show Rel w1 w11
            exact h.setS hi (sf.glue ⟨hc, h24⟩) h1.1 (fun q a b c => h1.2.1 q (by omega)) (by rw [h1.2.2]; exact h.2.2.2.2.2.1) (h.2.2.2.2.2.2.to fun q a => h1.2.1 q (by omega)) h11.1 (fun q a => by rw [h11.2.1 q (by omega), h10.2.1 q (by omega) (by omega), h6.1 q (by omega) (by omega)]) (fun q a => by rw [h11.2.1 0 (by omega), h10.2.2 q (by omega), h6.2 q (by omega)]) (fun q a b => by rw [h11.2.2 q a b, h10.2.1 1 (by omega) (by omega), h6.1 1 (by omega) (by omega)])
        · have e : glF (S i) (S l) = (-4 : Int32) := by unfold glF; rw [if_pos hc, if_neg h24]
          rw [e]
          refine okf (by decide) ?_
          rw [ok_some]
          exact pre fun w5 h5 h6 => okf (bI_ne hc) (okf (by rw [ile (by omega) (by omega)]; exact h24) (stay (h.ms h6.ms)))
      · have e : glF (S i) (S l) = (-3 : Int32) := by unfold glF; rw [if_neg hc]
        rw [e]
        refine okf (by decide) ?_
        rw [ok_some]
        exact pre fun w5 h5 h6 => okt (bI_eq hc) (stay (h.ms h6.ms))
    · refine okb (xSurN hl2) (okt rfl ?_)
      rw [ok_some]
      exact okb (mSY hi) (okf (by decide) (okb (mSN hl2) (okt rfl (stay h))))
  · refine okb (xSurN hi) (okt rfl ?_)
    have e : Ok (sh_X9_glue x1 x2 wm) (fun s => (-1 : Int32) = s.1 ∧ Rel wx s.2) := by
      unfold sh_X9_glue
      exact okb (mSN hi) (okt rfl (stay h))
    rcases spl (x := x2) (n := 4) (by omega) with ⟨l, hl2, rfl⟩ | hl2
    · refine okb (xSurY (Or.inl rfl) hl2) (okf (by omega) (okg (kSur 1 (Or.inl rfl) l hl2) ?_))
      rw [ok_some]
      exact e
    · refine okb (xSurN hl2) (okt rfl ?_)
      rw [ok_some]
      exact e
theorem c_cut {wx : WX} {wm : Mem} (x1 x2 : Int32) (h : Rel wx wm) : Bo (sh_X8_cut x1 x2 wx) (sh_X9_cut x1 x2 wm) := by
  obtain ⟨A, S, P, ⟨hA, hS, hP⟩, hx, hm⟩ := h.1
  unfold sh_X8_cut sh_X9_cut Bo
  rcases spl (x := x1) (n := 4) (by omega) with ⟨j, hj, rfl⟩ | hj
  · refine okb (xSurY (Or.inl rfl) hj) (okf (by omega) (okg (kSur 1 (Or.inl rfl) j hj) ?_))
    have sX := hx.2.1 j hj
    have sM := hm.2.1 j hj
    have sf := hS j hj
    have hl := sf.1
    have pre : ∀ {Q : Int32 × Mem → Prop}, Ok (if bI (0 ≤ x2.toInt ∧ x2.toInt ≤ (S j).length) = 0 then some ((-2 : Int32), wm) else Option.bind (ldS 130 1 (nI (13 + j)) wm) (fun v6 => Option.bind (stM 130 1 (nI (13 + j)) x2 wm) (fun w7 => some (v6, w7)))) Q → Ok (Option.bind (sh_X9_isSurface (nI j)) (fun v1 => if v1 = 0 then some ((-1 : Int32), wm) else Option.bind (ldS 130 1 ((nI 13) + nI j) wm) (fun v3 => Option.bind (sh_X9_isIn x2.toInt64 (lN 0) v3.toInt64) (fun v4 => if v4 = 0 then some ((-2 : Int32), wm) else Option.bind (ldS 130 1 ((nI 13) + nI j) wm) (fun v6 => Option.bind (stM 130 1 ((nI 13) + nI j) x2 wm) (fun w7 => some (v6, w7))))))) Q := by
      intro Q hQ
      refine okb (mSY hj) (okf (by decide) ?_)
      rw [nI_add]
      refine okb (ldS_ok (by omega) (by omega)) ?_
      rw [sM.1]
      exact okb (mInT (by omega)) hQ
    rcases i32c x2 with ⟨n2, n2'⟩ | ⟨k, hk, rfl⟩
    · refine okt n2 ?_
      rw [ok_some]
      exact pre (okt (bI_eq (by omega)) (stay h))
    refine okf (by rw [ilt0 hk]; exact not_false) ?_
    rw [sX.1.1]
    by_cases hkl : k ≤ (S j).length
    · refine okt (by rw [ile hk (by omega)]; exact hkl) ?_
      rw [ok_letv, ok_bind]
      refine (xKeeN sf sX (k := k) (by omega)).mono fun w1 h1 => ?_
      rw [ok_some]
      refine pre (okf (bI_ne (by rw [nI_toInt hk]; omega)) (okb (ldS_ok (by omega) (by omega)) ?_))
      rw [ok_bind, sM.1]
      refine ok_stM (by omega) (by omega) fun m1 a1 a2 a3 => ?_
      rw [ok_some]
      refine ⟨rfl, ?_⟩
      show Rel w1 m1
      have hlen : ((S j).take k).length = k := by rw [List.length_take]; omega
      exact h.setS hj (sf.take k) h1.1 (fun q a b c => h1.2.1 q (by omega)) (by rw [h1.2.2]; exact h.2.2.2.2.2.1) (h.2.2.2.2.2.2.to fun q a => h1.2.1 q (by omega)) ⟨by rw [hlen]; exact a3, (sM.2.take (k := k)).to fun q a b => a2 q (by omega)⟩ (fun q a => a1 q (by omega)) (fun q a => by rw [a1 0 (by omega)]) (fun q a b => a2 q (by omega))
    · refine okf (by rw [ile hk (by omega)]; exact hkl) ?_
      rw [ok_some]
      exact pre (okt (bI_eq (by rw [nI_toInt hk]; omega)) (stay h))
  · refine okb (xSurN hj) (okt rfl ?_)
    rw [ok_some]
    exact okb (mSN hj) (okt rfl (stay h))
theorem c_draws {wx : WX} {wm : Mem} (x1 x2 x3 : Int32) (h : Rel wx wm) : Bo (sh_X8_draws x1 x2 x3 wx) (sh_X9_draws_ x1 x2 x3 wm) := by
  obtain ⟨A, S, P, ⟨hA, hS, hP⟩, hx, hm⟩ := h.1
  unfold sh_X8_draws sh_X9_draws_ Bo
  rcases spl (x := x1) (n := 4) (by omega) with ⟨j, hj, rfl⟩ | hj
  · refine okb (xSurY (Or.inl rfl) hj) (okf (by omega) (okg (kSur 1 (Or.inl rfl) j hj) ?_))
    have sX := hx.2.1 j hj
    have sM := hm.2.1 j hj
    have sf := hS j hj
    rcases i32c x2 with ⟨n2, n2'⟩ | ⟨k, hk, rfl⟩
    · refine okt (neg_lt n2 (by omega)) ?_
      rw [ok_some]
      exact okb (mSY hj) (okf (by decide) (okb (mIZ (by omega) (by omega) (by omega)) (okt rfl (stay h))))
    by_cases k1 : k < 1
    · refine okt (by rw [ilt hk (by omega)]; exact k1) ?_
      rw [ok_some]
      exact okb (mSY hj) (okf (by decide) (okb (mInJ hk (by omega) (by omega)) (okt (bI_eq (by omega)) (stay h))))
    refine okf (by rw [ilt hk (by omega)]; exact k1) ?_
    by_cases k2 : k ≤ 24
    · refine okt (by rw [ile hk (by omega)]; exact k2) ?_
      rw [ok_bind]
      refine (xDraw sf sX (by omega)).mono fun w1 h1 => ?_
      rw [ok_some]
      refine okb (mSY hj) (okf (by decide) (okb (mIY (by omega) (by omega)) (okf (by decide) ?_)))
      rw [ok_bind]
      refine (mLoad hj sf.1 sM).mono fun w5 h5 => ?_
      rw [ok_bind]
      refine (mDraw sf h5.1 (by omega)).mono fun w6 h6 => ?_
      have sd := Sf_drL sf x3 k
      rw [ok_bind]
      refine (mSave hj sd.1 h6.1).mono fun w7 h7 => ?_
      rw [ok_some]
      refine ⟨h1.1.1.1.trans ?_, ?_⟩
      · show _ = w7 0 15
        rw [h7.2.1 0 (by omega)]
        exact h6.1.1.symm
      · show Rel w1 w7
        exact h.setS hj sd h1.1 (fun q a b c => h1.2.1 q (by omega)) (by rw [h1.2.2]; exact h.2.2.2.2.2.1) (h.2.2.2.2.2.2.to fun q a => h1.2.1 q (by omega)) h7.1 (fun q a => by rw [h7.2.1 q (by omega), h6.2.1 q (by omega) (by omega), h5.2.1 q (by omega) (by omega)]) (fun q a => by rw [h7.2.1 0 (by omega), h6.2.2 q (by omega), h5.2.2 q (by omega)]) (fun q a b => by rw [h7.2.2 q a b, h6.2.1 1 (by omega) (by omega), h5.2.1 1 (by omega) (by omega)])
    · refine okf (by rw [ile hk (by omega)]; exact k2) ?_
      rw [ok_some]
      exact okb (mSY hj) (okf (by decide) (okb (mInJ hk (by omega) (by omega)) (okt (bI_eq (by omega)) (stay h))))
  · refine okb (xSurN hj) (okt rfl ?_)
    rw [ok_some]
    exact okb (mSN hj) (okt rfl (stay h))
