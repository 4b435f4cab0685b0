/-! judge -/
def juV (F : Nat → Nat) (N k : Nat) : Int32 := if k < N then nI (F k) else nI 0
def juD (v : Nat → Int32) (F : Nat → Nat) (N k : Nat) : Bool := !decide (v k = juV F N k)
def juI (D : Nat → Bool) (n : Nat) : Int32 := if fsN D n < n then nI (fsN D n) else (-5 : Int32)
theorem juD_t {v : Nat → Int32} {F : Nat → Nat} {N k : Nat} : (juD v F N k = true) = ¬ v k = juV F N k := by
  unfold juD
  rw [Bool.not_eq_true', decide_eq_false_iff_not]
theorem juI_s {D : Nat → Bool} {n k : Nat} (hk : k < n) (h : fsN D k = k) (e : D k = true) : juI D n = nI k := by
  unfold juI
  rw [fsN_hit h e n hk, if_pos hk]
theorem juI_n {D : Nat → Bool} {n : Nat} (h : fsN D n = n) : juI D n = (-5 : Int32) := by
  unfold juI
  rw [h, if_neg (by omega)]
theorem xJu {i n N' c : Nat} {F v : Nat → Nat} {u : Nat → Int32} {w : WX} (hi : i < 4) (hn : n ≤ 12) (hc : c ≤ 3) (hN : N' ≤ 6) (hF : ∀ q, F q < 9973) (h1 : w.1 117 i = nI n) (h2 : ∀ j, j < n → w.1 (112 + 1 + 1 * i) j = u j) (h : SfX 145 N' c F w) : Ok (lpw (sh_X8_judge_s71 (nI i) w) FU (nI 0)) (Sum.elim (fun y : Int32 => y = juI (juD u F (N' ^ c)) n) (fun _ : Unit => (-5 : Int32) = juI (juD u F (N' ^ c)) n)) := by
  have hpw := pw_le hN hc
  refine ok_forb n (fun k s => s = nI k ∧ fsN (juD u F (N' ^ c)) k = k) ⟨rfl, rfl⟩ ?_ ?_ (by omega)
  · rintro k _ hk ⟨rfl, g⟩
    unfold sh_X8_judge_s71
    refine okb (ldS_ok (by omega) (by omega)) ?_
    rw [h1]
    refine okf (by rw [ile (by omega) (by omega)]; omega) (okb (xHp hc hN h) ?_)
    have key : ∀ s0, s0 = juV F (N' ^ c) k → Ok (sh_X8_judge_j111 (nI i) (nI k) s0 w) (fun r => (∃ s', r = Sum.inl s' ∧ s' = nI (k + 1) ∧ fsN (juD u F (N' ^ c)) (k + 1) = k + 1) ∨ ∃ x, r = Sum.inr x ∧ Sum.elim (fun y : Int32 => y = juI (juD u F (N' ^ c)) n) (fun _ : Unit => (-5 : Int32) = juI (juD u F (N' ^ c)) n) x) := by
      intro s0 e
      unfold sh_X8_judge_j111
      refine okg (inb4 hi) ?_
      rw [iclamp (by omega)]
      refine okg (kLi i hi) (okb (ldS_ok (by omega) (by omega)) ?_)
      rw [h2 k hk, e]
      by_cases z : u k = juV F (N' ^ c) k
      · refine okt z ?_
        rw [ok_letv, nI_add, ok_some]
        exact Or.inl ⟨_, rfl, rfl, fsN_miss g (by rw [juD_t]; exact fun q => q z)⟩
      · refine okf z ?_
        rw [ok_some]
        exact Or.inr ⟨_, rfl, (juI_s hk g (by rw [juD_t]; exact z)).symm⟩
    by_cases y : k < N' ^ c
    · refine okf (bI_ne (by rw [nI_toInt (by omega)]; omega)) (okb (ldD_ok h.2.1 (by omega) (by omega)) ?_)
      rw [h.2.2 k y]
      exact key _ (by unfold juV; rw [if_pos y])
    · refine okt (bI_eq (by rw [nI_toInt (by omega)]; omega)) ?_
      exact key _ (by unfold juV; rw [if_neg y])
  · rintro _ ⟨rfl, g⟩
    unfold sh_X8_judge_s71
    refine okb (ldS_ok (by omega) (by omega)) ?_
    rw [h1]
    refine okt (Int32.le_refl _) ?_
    rw [ok_some]
    exact ⟨_, rfl, (juI_n g).symm⟩
theorem mJu {i n N' c : Nat} {F : Nat → Nat} {u : Nat → Int32} {w : Mem} (hi : i < 4) (hn : n ≤ 12) (hc : c ≤ 3) (hN : N' ≤ 6) (hF : ∀ q, F q < 9973) (h1 : w 26 i = nI n) (h2 : ∀ j, j < n → w 27 (12 * i + j) = u j) (h : SfM N' c F w) : Ok (lpw (sh_X9_judge_s45 (nI i) w) FU (nI 0)) (Sum.elim (fun y : Int32 => y = juI (juD u F (N' ^ c)) n) (fun _ : Unit => (-5 : Int32) = juI (juD u F (N' ^ c)) n)) := by
  have hpw := pw_le hN hc
  refine ok_forb n (fun k s => s = nI k ∧ fsN (juD u F (N' ^ c)) k = k) ⟨rfl, rfl⟩ ?_ ?_ (by omega)
  · rintro k _ hk ⟨rfl, g⟩
    unfold sh_X9_judge_s45
    refine okb (ldS_ok (by omega) (by omega)) ?_
    rw [h1]
    refine okf (by rw [ile (by omega) (by omega)]; omega) ?_
    rw [pk_mul, nI_add]
    refine okb (ldS_ok (by omega) (by omega)) ?_
    rw [h2 k hk, h.1]
    have key : ∀ s0, s0 = juV F (N' ^ c) k → Ok (sh_X9_judge_j88 (nI i) (nI k) (u k) s0 w) (fun r => (∃ s', r = Sum.inl s' ∧ s' = nI (k + 1) ∧ fsN (juD u F (N' ^ c)) (k + 1) = k + 1) ∨ ∃ x, r = Sum.inr x ∧ Sum.elim (fun y : Int32 => y = juI (juD u F (N' ^ c)) n) (fun _ : Unit => (-5 : Int32) = juI (juD u F (N' ^ c)) n) x) := by
      intro s0 e
      unfold sh_X9_judge_j88
      rw [e]
      by_cases z : u k = juV F (N' ^ c) k
      · refine okt z ?_
        rw [ok_letv, nI_add, ok_some]
        exact Or.inl ⟨_, rfl, rfl, fsN_miss g (by rw [juD_t]; exact fun q => q z)⟩
      · refine okf z ?_
        rw [ok_some]
        exact Or.inr ⟨_, rfl, (juI_s hk g (by rw [juD_t]; exact z)).symm⟩
    by_cases y : k < N' ^ c
    · refine okf (by rw [ile (by omega) (by omega)]; omega) (okb (ldS_ok (by omega) (by omega)) ?_)
      rw [h.2 k y]
      exact key _ (by unfold juV; rw [if_pos y])
    · refine okt (by rw [ile (by omega) (by omega)]; omega) ?_
      exact key _ (by unfold juV; rw [if_neg y])
  · rintro _ ⟨rfl, g⟩
    unfold sh_X9_judge_s45
    refine okb (ldS_ok (by omega) (by omega)) ?_
    rw [h1]
    refine okt (Int32.le_refl _) ?_
    rw [ok_some]
    exact ⟨_, rfl, (juI_n g).symm⟩
theorem c_judge {wx : WX} {wm : Mem} (x1 x2 x3 : Int32) (h : Rel wx wm) : Bo (sh_X8_judge x1 x2 x3 wx) (sh_X9_judge x1 x2 x3 wm) := by
  obtain ⟨A, S, P, ⟨hA, hS, hP⟩, hx, hm⟩ := h.1
  have hl := hA.1
  unfold sh_X8_judge sh_X9_judge Bo
  have nx : ∀ {Q : Int32 × WX → Prop}, Q ((-1 : Int32), wx) → Ok (Option.bind (sh_X1_hasNumber x1) (fun v9 => if v9 = 0 then some ((-1 : Int32), wx) else some ((-1 : Int32), wx))) Q := by
    intro Q hQ
    rcases spl (x := x1) (n := 4) (by omega) with ⟨i, hi, rfl⟩ | hi
    · refine okb (xLY hi) (okf (by decide) ?_)
      rw [ok_some]
      exact hQ
    · refine okb (xLN hi) (okt rfl ?_)
      rw [ok_some]
      exact hQ
  have mn : (¬ (0 ≤ x2.toInt ∧ x2.toInt < (4 : Nat)) ∨ ¬ (0 ≤ x3.toInt ∧ x3.toInt < A.length)) → Ok (sh_X9_judge x1 x2 x3 wm) (fun s => (-1 : Int32) = s.1 ∧ Rel wx s.2) := by
    intro hh
    unfold sh_X9_judge
    rcases spl (x := x1) (n := 4) (by omega) with ⟨i, hi, rfl⟩ | hi
    · refine okb (mLY hi) (okf (by decide) ?_)
      by_cases h2 : 0 ≤ x2.toInt ∧ x2.toInt < (4 : Nat)
      · obtain ⟨j, hj, rfl⟩ := nI_some (by omega) h2
        refine okb (mSY hj) (okf (by decide) ?_)
        rcases hh with hh | hh
        · exact absurd h2 hh
        · exact okb (mAN hm.1.1 hl hh) (okt rfl (stay h))
      · exact okb (mSN h2) (okt rfl (stay h))
    · exact okb (mLN hi) (okt rfl (stay h))
  rcases spl (x := x2) (n := 4) (by omega) with ⟨j, hj, rfl⟩ | hj
  · refine okb (xSurY (Or.inl rfl) hj) (okf (by omega) (okg (kSur 1 (Or.inl rfl) j hj) ?_))
    rcases spl (x := x3) (n := A.length) (by omega) with ⟨a, ha, rfl⟩ | ha
    · have hk := kAlg 1 (Or.inl rfl) a (by omega)
      have hv := hA.2 a ha
      have hn := (eN_in hv).2.1
      have sf := hS j hj
      refine okb (xAlgY (Or.inl rfl) hx.1 hl ha) (okf (by omega) (okg hk ?_))
      rcases spl (x := x1) (n := 4) (by omega) with ⟨i, hi, rfl⟩ | hi
      · refine okb (xLY hi) (okf (by decide) ?_)
        obtain ⟨t1, t2⟩ := h.2.2.2.2.1 i hi
        have pre : ∀ {Q : Int32 × Mem → Prop} {f : Option (Int32 × Mem)}, Ok (if 0 ≤ wm 26 i then f else some ((-11 : Int32), wm)) Q → Ok (Option.bind (sh_X9_isList (nI i)) (fun v1 => if v1 = 0 then some ((-1 : Int32), wm) else Option.bind (sh_X9_isSurface (nI j)) (fun v3 => if v3 = 0 then some ((-1 : Int32), wm) else Option.bind (sh_X9_isAlgebra (nI a) wm) (fun v5 => if v5 = 0 then some ((-1 : Int32), wm) else Option.bind (ldS 4 26 (nI i) wm) (fun v7 => if 0 ≤ v7 then f else some ((-11 : Int32), wm)))))) Q := by
          intro Q f hQ
          exact okb (mLY hi) (okf (by decide) (okb (mSY hj) (okf (by decide) (okb (mAY hm.1.1 hl ha) (okf (by decide) (okb (ldS_ok (by omega) (by omega)) hQ))))))
        rcases t2 with t2 | ⟨n, hn12, t2, t3⟩
        · refine okb (xHe0 hi (t1.trans t2)) (okt rfl ?_)
          rw [ok_some]
          refine pre ?_
          rw [t2]
          exact okf (by decide) (stay h)
        · refine okb (xHe1 hi (by omega) (t1.trans t2)) (okf (by decide) ?_)
          have hF : ∀ q, suN (aK A a) (eN (aK A a) (aS A a)) (aF A a) (S j) (S j).length q < 9973 := suN_lt _
          rw [ok_bind]
          refine (xFind5 (t := 145) (Or.inl rfl) (by omega) hk hv sf (by omega) (hx.2.1 j hj) (hx.1.2 a ha) h.2.2.2.2.2.1.2.2.1).mono fun w1 h1 => ?_
          obtain ⟨p1, p2, p3⟩ := h1
          rw [ok_bind]
          refine (xJu (v := fun q => q) (u := fun q => wm 27 (12 * i + q)) hi hn12 sf.le hn hF (by rw [p2.1 117 (by omega)]; exact t1.trans t2) (fun q hq => by rw [p2.1 _ (by omega)]; exact t3 q hq) p1).mono fun y hy => ?_
          have fin : Ok (Option.bind (sh_X9_isList (nI i)) (fun v1 => if v1 = 0 then some ((-1 : Int32), wm) else Option.bind (sh_X9_isSurface (nI j)) (fun v3 => if v3 = 0 then some ((-1 : Int32), wm) else Option.bind (sh_X9_isAlgebra (nI a) wm) (fun v5 => if v5 = 0 then some ((-1 : Int32), wm) else Option.bind (ldS 4 26 (nI i) wm) (fun v7 => if 0 ≤ v7 then Option.bind (sh_X9_sumsOf (nI j) (nI a) wm) (fun w9 => Option.bind (lpw (sh_X9_judge_s45 (nI i) w9) FU (nI 0)) (Sum.elim (fun y11 => some (y11, w9)) (fun y12 => some ((-5 : Int32), w9)))) else some ((-11 : Int32), wm)))))) (fun s => juI (juD (fun q => wm 27 (12 * i + q)) (suN (aK A a) (eN (aK A a) (aS A a)) (aF A a) (S j) (S j).length) (eN (aK A a) (aS A a) ^ cr (S j))) n = s.1 ∧ Rel w1 s.2) := by
            refine pre ?_
            rw [t2]
            refine okt (by rw [i0l (by omega)]; trivial) ?_
            have hb := hm.1.2 a ha
            rw [ok_bind]
            refine (mSo hj (by omega) sf (hm.2.1 j hj) hv hb.1 hb.2.1 hb.2.2).mono fun w9 h9 => ?_
            have r9 : Rel w1 w9 := h.s5 (Or.inl rfl) p2 p3 h9.2.2
            rw [ok_bind]
            refine (mJu (u := fun q => wm 27 (12 * i + q)) hi hn12 sf.le hn hF (by rw [h9.2.2.1 26 (by omega)]; exact t2) (fun q hq => by rw [h9.2.2.1 27 (by omega)]) h9.1).mono fun z hz => ?_
            rcases z with z | z
            · show Ok (some (z, w9)) _
              rw [ok_some]
              exact ⟨hz.symm, r9⟩
            · show Ok (some ((-5 : Int32), w9)) _
              rw [ok_some]
              exact ⟨hz.symm, r9⟩
          rcases y with y | y
          · show Ok (some (y, w1)) _
            rw [ok_some, show y = _ from hy]
            exact fin
          · show Ok (some ((-5 : Int32), w1)) _
            rw [ok_some]
            have hy : (-5 : Int32) = _ := hy
            exact fin.mono fun s hs => ⟨hy.trans hs.1, hs.2⟩
      · refine okb (xLN hi) (okt rfl ?_)
        rw [ok_some]
        exact okb (mLN hi) (okt rfl (stay h))
    · refine okb (xAlgN hx.1 hl ha) (okt rfl (nx (mn (Or.inr ha))))
  · refine okb (xSurN hj) (okt rfl ?_)
    have e := mn (Or.inl hj)
    rcases spl (x := x3) (n := A.length) (by omega) with ⟨a, ha, rfl⟩ | ha
    · exact okb (xAlgY (Or.inl rfl) hx.1 hl ha) (okf (by omega) (okg (kAlg 1 (Or.inl rfl) a (by omega)) (nx e)))
    · exact okb (xAlgN hx.1 hl ha) (okt rfl (nx e))
