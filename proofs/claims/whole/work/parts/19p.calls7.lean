/-! odds -/
def odN (n : Nat) (z : Int32) : Nat → Nat
  | 0 => 0
  | k + 1 => odN n z k + if cr (drL (z + nI k) [] n) = 0 then 1 else 0
theorem odN_le {n : Nat} {z : Int32} : ∀ k, odN n z k ≤ k
  | 0 => Nat.le_refl 0
  | k + 1 => by
    have := odN_le (n := n) (z := z) k
    unfold odN
    split <;> omega
def gcB (v m : Nat) : Bool := match sh_X8_commonDivisor (nI v) (nI m), sh_X9_common 40 (nI m) (nI v) with
  | some a, some b => decide (a = b) && !decide (a = 0)
  | _, _ => false
theorem gcB_t : ∀ m, m < 30 → ∀ v, v < 31 → gcB v (m + 1) = true := by decide +kernel
theorem gc_g {v m : Nat} (hm : 1 ≤ m ∧ m ≤ 30) (hv : v ≤ 30) : ∃ g, sh_X8_commonDivisor (nI v) (nI m) = some g ∧ sh_X9_common 40 (nI m) (nI v) = some g ∧ ¬ g = 0 := by
  have h := gcB_t (m - 1) (by omega) v (by omega)
  rw [show m - 1 + 1 = m by omega] at h
  unfold gcB at h
  split at h
  · rename_i a b e1 e2
    simp only [Bool.and_eq_true, decide_eq_true_eq, Bool.not_eq_true', decide_eq_false_iff_not] at h
    exact ⟨a, e1, by rw [e2, h.1], h.2⟩
  · cases h
theorem xOdds {n m : Nat} {z x4 : Int32} {L : List Nat} {wx : WX} (hn : n ≤ 24) (hm : m ≤ 30) (hL : Sf L) (h : SuAt 119 L wx) : Ok (lpw (sh_X8_odds_s43 (nI n) z (nI m) x4) FU (nI 0, nI 0, wx)) (fun r => r.1 = nI (odN n z m) ∧ (∃ L', Sf L' ∧ SuAt 119 L' r.2) ∧ OutX 119 121 wx r.2 ∧ r.2.2 = wx.2) := by
  refine ok_for m (fun k s => (s.1 = nI (odN n z k) ∧ s.2.1 = nI k) ∧ (∃ L', Sf L' ∧ SuAt 119 L' s.2.2) ∧ OutX 119 121 wx s.2.2 ∧ s.2.2.2 = wx.2) ⟨⟨rfl, rfl⟩, ⟨L, hL, h⟩, OutX.refl, rfl⟩ ?_ ?_ (by omega)
  · rintro k ⟨_, _, w⟩ hk ⟨⟨rfl, rfl⟩, ⟨L', g1, g2⟩, g3, g4⟩
    unfold sh_X8_odds_s43
    refine okf (by rw [ile (by omega) (by omega)]; omega) ?_
    rw [ok_bind]
    refine (xKeeN g1 g2 (k := 0) (by omega)).mono fun w2 h2 => ?_
    rw [ok_bind]
    have h2' := h2.1
    rw [List.take_zero] at h2'
    refine (xDraw (z := z + nI k) Sf.nil h2' (n := n) (by omega)).mono fun w3 h3 => ?_
    have sd := Sf_drL Sf.nil (z + nI k) n
    have hle := sd.le
    have o : OutX 119 121 wx w3 := (g3.trans h2.2.1).trans h3.2.1
    have e2 : w3.2 = wx.2 := by rw [h3.2.2, h2.2.2]; exact g4
    have hod := odN_le (n := n) (z := z) k
    rw [h3.1.1.2]
    by_cases c : cr (drL (z + nI k) [] n) = 0
    · refine okt (by rw [ieq0 (by omega)]; exact c) ?_
      rw [ok_letv, ok_letv, nI_add, nI_add, ok_some]
      exact ⟨_, rfl, ⟨by rw [odN, if_pos c], rfl⟩, ⟨_, sd, h3.1⟩, o, e2⟩
    · refine okf (by rw [ieq0 (by omega)]; exact c) ?_
      rw [ok_letv, nI_add, ok_some]
      exact ⟨_, rfl, ⟨by rw [odN, if_neg c]; rfl, rfl⟩, ⟨_, sd, h3.1⟩, o, e2⟩
  · rintro ⟨_, _, w⟩ ⟨⟨rfl, rfl⟩, g2, g3, g4⟩
    unfold sh_X8_odds_s43
    refine okt (Int32.le_refl _) ?_
    rw [ok_some]
    exact ⟨_, rfl, rfl, g2, g3, g4⟩
theorem mOdds {n m : Nat} {z x4 : Int32} {wm : Mem} (hn : n ≤ 24) (hm : m ≤ 30) : Ok (lpw (sh_X9_odds_s45 (nI n) z (nI m) x4) FU (nI 0, nI 0, wm)) (fun r => r.1 = nI (odN n z m) ∧ OutR wm r.2) := by
  refine ok_for m (fun k s => (s.1 = nI (odN n z k) ∧ s.2.1 = nI k) ∧ OutR wm s.2.2) ⟨⟨rfl, rfl⟩, OutR.refl⟩ ?_ ?_ (by omega)
  · rintro k ⟨_, _, w⟩ hk ⟨⟨rfl, rfl⟩, g3⟩
    unfold sh_X9_odds_s45
    refine okf (by rw [ile (by omega) (by omega)]; omega) ?_
    refine ok_ms fun w2 a1 a2 a3 => ?_
    rw [ok_bind]
    have hr : RoM [] w2 := ⟨a3, fun i hi => absurd hi (Nat.not_lt_zero i)⟩
    refine (mDraw (z := z + nI k) Sf.nil hr (n := n) (by omega)).mono fun w3 h3 => ?_
    have sd := Sf_drL Sf.nil (z + nI k) n
    have hle := sd.le
    have o : OutR wm w3 := (g3.trans ⟨fun q a b => a1 q a, fun i a => a2 i a⟩).trans h3.2
    have hod := odN_le (n := n) (z := z) k
    refine okb (mCir sd h3.1) ?_
    by_cases c : cr (drL (z + nI k) [] n) = 0
    · refine okt (by rw [ieq0 (by omega)]; exact c) ?_
      rw [ok_letv, ok_letv, nI_add, nI_add, ok_some]
      exact ⟨_, rfl, ⟨by rw [odN, if_pos c], rfl⟩, o⟩
    · refine okf (by rw [ieq0 (by omega)]; exact c) ?_
      rw [ok_letv, ok_letv, nI_add, nI_add, ok_some]
      exact ⟨_, rfl, ⟨by rw [odN, if_neg c], rfl⟩, o⟩
  · rintro ⟨_, _, w⟩ ⟨⟨rfl, rfl⟩, g3⟩
    unfold sh_X9_odds_s45
    refine okt (Int32.le_refl _) ?_
    rw [ok_some]
    exact ⟨_, rfl, rfl, g3⟩
theorem c_odds {wx : WX} {wm : Mem} (x1 x2 x3 x4 : Int32) (h : Rel wx wm) : Bo (sh_X8_odds x1 x2 x3 x4 wx) (sh_X9_odds x1 x2 x3 x4 wm) := by
  unfold sh_X8_odds sh_X9_odds Bo
  rcases i32c x1 with ⟨n1, n1'⟩ | ⟨n, hn, rfl⟩
  · refine okt (neg_lt n1 (by omega)) ?_
    rw [ok_some]
    exact okb (mIZ (by omega) (by omega) (by omega)) (okt rfl (stay h))
  by_cases k1 : n < 1
  · refine okt (by rw [ilt hn (by omega)]; exact k1) ?_
    rw [ok_some]
    exact okb (mInJ hn (by omega) (by omega)) (okt (bI_eq (by omega)) (stay h))
  refine okf (by rw [ilt hn (by omega)]; exact k1) ?_
  by_cases k2 : 24 < n
  · refine okt (by rw [ilt (by omega) hn]; exact k2) ?_
    rw [ok_some]
    exact okb (mInJ hn (by omega) (by omega)) (okt (bI_eq (by omega)) (stay h))
  refine okf (by rw [ilt (by omega) hn]; exact k2) ?_
  have q1 : sh_X9_isIn (nI n).toInt64 (lN 1) (lN 24) = some (nI 1) := mIY (by omega) (by omega)
  rcases i32c x3 with ⟨n3, n3'⟩ | ⟨m, hm, rfl⟩
  · refine okt (neg_lt n3 (by omega)) ?_
    rw [ok_some]
    exact okb q1 (okf (by decide) (okb (mIZ (by omega) (by omega) (by omega)) (okt rfl (stay h))))
  by_cases k3 : m < 1
  · refine okt (by rw [ilt hm (by omega)]; exact k3) ?_
    rw [ok_some]
    exact okb q1 (okf (by decide) (okb (mInJ hm (by omega) (by omega)) (okt (bI_eq (by omega)) (stay h))))
  refine okf (by rw [ilt hm (by omega)]; exact k3) ?_
  by_cases k4 : 30 < m
  · refine okt (by rw [ilt (by omega) hm]; exact k4) ?_
    rw [ok_some]
    exact okb q1 (okf (by decide) (okb (mInJ hm (by omega) (by omega)) (okt (bI_eq (by omega)) (stay h))))
  refine okf (by rw [ilt (by omega) hm]; exact k4) ?_
  have q2 : sh_X9_isIn (nI m).toInt64 (lN 1) (lN 30) = some (nI 1) := mIY (by omega) (by omega)
  rcases i32c x4 with ⟨n4, n4'⟩ | ⟨e, he, rfl⟩
  · refine okt n4 ?_
    rw [ok_some]
    exact okb q1 (okf (by decide) (okb q2 (okf (by decide) (okb (mIZ (by omega) (by omega) (by omega)) (okt rfl (stay h))))))
  refine okf (by rw [ilt0 he]; exact not_false) ?_
  by_cases k5 : e ≤ 1
  · refine okt (by rw [ile he (by omega)]; exact k5) ?_
    obtain ⟨H, hH, sH⟩ := h.2.2.2.2.2.2
    rw [ok_bind]
    refine (xOdds (by omega) (by omega) hH sH).mono fun r hr => ?_
    obtain ⟨r1, r2, r3, r4⟩ := hr
    have hod := odN_le (n := n) (z := x2) m
    obtain ⟨g, g1, g2, g3⟩ := gc_g (v := odN n x2 m) (m := m) (by omega) (by omega)
    rw [r1]
    refine okb g1 ?_
    have pre : ∀ {Q : Int64 × Mem → Prop}, (∀ w, Rel r.2 w → Q (((if e = 0 then nI (odN n x2 m) else nI m) / g).toInt64, w)) → Ok (Option.bind (sh_X9_isIn (nI n).toInt64 (lN 1) (lN 24)) (fun v1 => if v1 = 0 then some ((-9223372036854775808 : Int64), wm) else Option.bind (sh_X9_isIn (nI m).toInt64 (lN 1) (lN 30)) (fun v3 => if v3 = 0 then some ((-9223372036854775808 : Int64), wm) else Option.bind (sh_X9_isIn (nI e).toInt64 (lN 0) (lN 1)) (fun v5 => if v5 = 0 then some ((-9223372036854775808 : Int64), wm) else Option.bind (lpw (sh_X9_odds_s45 (nI n) x2 (nI m) (nI e)) FU (nI 0, nI 0, wm)) (fun ex7 => if (nI e) = 0 then sh_X9_odds_j99 (nI m) ex7.1 ex7.1 ex7.2 else sh_X9_odds_j99 (nI m) ex7.1 (nI m) ex7.2))))) Q := by
      intro Q hQ
      refine okb q1 (okf (by decide) (okb q2 (okf (by decide) (okb (mIY (by omega) (by omega)) (okf (by decide) ?_)))))
      rw [ok_bind]
      refine (mOdds (by omega) (by omega)).mono fun s hs => ?_
      have hrel : Rel r.2 s.2 := h.scr (r3.xs (by omega)) hs.2.ms (by rw [r4]; exact h.2.2.2.2.2.1) r2
      have hq := hQ s.2 hrel
      rw [hs.1]
      by_cases z : e = 0
      · refine okt (by rw [ieq0 he]; exact z) ?_
        unfold sh_X9_odds_j99
        refine okb g2 (okg g3 ?_)
        rw [if_pos z] at hq
        rw [ok_some]
        exact hq
      · refine okf (by rw [ieq0 he]; exact z) ?_
        unfold sh_X9_odds_j99
        refine okb g2 (okg g3 ?_)
        rw [if_neg z] at hq
        rw [ok_some]
        exact hq
    by_cases z : e = 0
    · refine okt (by rw [ieq0 he]; exact z) (okg g3 ?_)
      rw [ok_some]
      refine pre fun w r => ⟨?_, r⟩
      rw [if_pos z]
    · refine okf (by rw [ieq0 he]; exact z) (okg g3 ?_)
      rw [ok_some]
      refine pre fun w r => ⟨?_, r⟩
      rw [if_neg z]
  · refine okf (by rw [ile he (by omega)]; exact k5) ?_
    rw [ok_some]
    exact okb q1 (okf (by decide) (okb q2 (okf (by decide) (okb (mInJ he (by omega) (by omega)) (okt (bI_eq (by omega)) (stay h))))))
