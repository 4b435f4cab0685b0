/-! sums of the class, on -/
theorem xPut4 {t a k s f c x y : Nat} {F : Nat → Nat} {w : WX} (ha : a + 10 ≤ t) (hv : VA k s f) (hc : c ≤ 3) (hc2 : 2 ≤ c) (hF : ∀ q, F q < 9973) (h : SuC t a k s f c x y F w) (h0 : Ac (w.1 y) (eN k s ^ c) (fun _ => 0)) : Ok (sh_X5_putExchanged t a w) (fun w' => FrS y w w' ∧ Ac (w'.1 y) (eN k s ^ c) (nxT k (eN k s) f c 4 F)) := by
  have hkn := kn_of hv
  have h4 := hkn.2.2.1
  have hpc := pw_le h4 hc
  have hpu := pw_le h4 (show c - 2 ≤ 3 by omega)
  have hp2 := pw_2 (n := eN k s) hc2
  obtain ⟨h1, h2, ⟨⟨h3, h5⟩, h6⟩, h7⟩ := id h
  obtain ⟨n, hn⟩ : ∃ n, eN k s = n := ⟨_, rfl⟩
  rw [hn] at hkn h4 hpc hpu hp2 h5 h6 h0 ⊢
  unfold sh_X5_putExchanged
  rw [h3, isub hc2]
  refine okb (ldS_ok (by omega) (by omega)) ?_
  rw [h6 (c - 2) (by omega), ok_bind]
  simp only [ok_some]
  obtain ⟨u, hu⟩ : ∃ u, u = n ^ (c - 2) := ⟨_, rfl⟩
  rw [← hu] at hp2 hpu ⊢
  refine (acLoop (n := n) (N := n ^ c) (y := y) (w0 := w) (S := fun _ => 0) (T := fun q x => sumN n (fun y => sumN u (nx4 k n u F q x y))) (by omega) FrS.refl h0 ?_ ?_).mono fun w' hw => ⟨hw.1, Ac0 hw.2 fun q => by rw [hu]; rfl⟩
  · intro e w1 S1 he g1 A1
    have hh := h.fr ha g1
    have hne : ¬ n ≤ e := by omega
    simp (disch := omega) only [sh_X5_putExchanged_s14, hh.2.2.1.1.2, hn, ile, hne, if_false, ok_bind]
    refine (acLoop (n := n) (N := n ^ c) (y := y) (w0 := w) (S := S1) (T := fun q j => sumN u (nx4 k n u F q e j)) (by omega) g1 A1 ?_ ?_).mono fun w2 h2' => ?_
    · intro j w2 S2 hj g2 A2
      have hh2 := h.fr ha g2
      have hnj : ¬ n ≤ j := by omega
      simp (disch := omega) only [sh_X5_putExchanged_s25, hh2.2.2.1.1.2, hn, ile, hnj, if_false]
      refine okb (xTsg hv hh2.2.1.1 (by rw [hn]; exact he) (by rw [hn]; exact hj)) ?_
      have key : ∀ v : Int32, v = nI (sgN k e j) → Ok (sh_X5_putExchanged_j51 t a (nI u) (nI e) (nI j) v w2) (fun r => ∃ w3, r = .inl (nI (j + 1), w3) ∧ FrS y w w3 ∧ Ac (w3.1 y) (n ^ c) (fun q => S2 q + sumN u (nx4 k n u F q e j))) := by
        rintro v rfl
        simp only [sh_X5_putExchanged_j51, ok_bind]
        refine (acLoop (n := u) (N := n ^ c) (y := y) (w0 := w) (S := S2) (T := fun q i => nx4 k n u F q e j i) (by omega) g2 A2 ?_ ?_).mono fun w3 h3' => ?_
        · intro i w3 S3 hi g3 A3
          have hh3 := h.fr ha g3
          have hni : ¬ u ≤ i := by omega
          have hix := ix2 hi he hj
          have hiy := ix2 hi hj he
          have ht4 : w3.1 t 4 = nI n := by rw [← hn]; exact hh3.2.2.1.1.2
          simp (disch := omega) only [sh_X5_putExchanged_s56, ile, hni, if_false]
          refine okb (xPair ht4) (okb (xPair ht4) ?_)
          rw [hh3.1.1.1]
          refine okb (ldD_ok hh3.1.2.1.1 (by omega) (by omega)) ?_
          rw [hh3.2.2.2 _ (by rw [hn, hp2]; exact hix), ok_bind]
          refine (xAdd5 hh3 hpc (by rw [hp2]; exact hiy) (hF _) sgN_lt A3).mono fun w4 h4' => ?_
          simp only [ok_letv, ok_some, nI_add]
          exact ⟨w4, rfl, g3.trans h4'.1, h4'.2⟩
        · intro w3 g3
          simp only [sh_X5_putExchanged_s56, le_nI, if_true]
        · simp only [ok_letv, ok_some, nI_add]
          exact ⟨w3, rfl, h3'.1, h3'.2⟩
      by_cases z : k = 4 ∧ odB e = true ∧ odB j = true
      · rw [if_pos z]
        exact okf (by decide) (key _ (by unfold sgN; rw [if_pos z]))
      · rw [if_neg z]
        exact okt rfl (key _ (by unfold sgN; rw [if_neg z]))
    · intro w2 g2
      have hh2 := h.fr ha g2
      simp only [sh_X5_putExchanged_s25, hh2.2.2.1.1.2, hn, le_nI, if_true]
    · simp only [ok_letv, ok_some, nI_add]
      exact ⟨w2, rfl, h2'.1, h2'.2⟩
  · intro w1 g1
    have hh := h.fr ha g1
    simp only [sh_X5_putExchanged_s14, hh.2.2.1.1.2, hn, le_nI, if_true]
theorem nx2_0 {k n f u : Nat} {F : Nat → Nat} {q e x y : Nat} (h : spN k n f e x y = 0) : sumN u (nx2 k n f u F q e x y) = 0 := by
  rw [sumN_congr (g := fun _ => 0) fun i _ => by unfold nx2; rw [h, Nat.mul_zero]; split <;> rfl]
  exact sumN_zero
theorem xPut2 {t a k s f c x y : Nat} {F : Nat → Nat} {w : WX} (ha : a + 10 ≤ t) (hv : VA k s f) (hc : c < 3) (hc2 : 1 ≤ c) (hF : ∀ q, F q < 9973) (h : SuC t a k s f c x y F w) (h0 : Ac (w.1 y) (eN k s ^ (c + 1)) (fun _ => 0)) : Ok (sh_X5_putSplits t a w) (fun w' => FrS y w w' ∧ Ac (w'.1 y) (eN k s ^ (c + 1)) (nxT k (eN k s) f c 2 F)) := by
  have hkn := kn_of hv
  have h4 := hkn.2.2.1
  have hpc := pw_le h4 (show c ≤ 3 by omega)
  have hpw := pw_le h4 (show c + 1 ≤ 3 by omega)
  have hpu := pw_le h4 (show c - 1 ≤ 3 by omega)
  have hp1 := pw_1 (n := eN k s) hc2
  have hp2 : eN k s ^ (c + 1) = eN k s ^ (c - 1) * (eN k s * eN k s) := by
    have := pw_2 (n := eN k s) (c := c + 1) (by omega)
    rwa [show c + 1 - 2 = c - 1 by omega] at this
  obtain ⟨h1, h2, ⟨⟨h3, h5⟩, h6⟩, h7⟩ := id h
  obtain ⟨n, hn⟩ : ∃ n, eN k s = n := ⟨_, rfl⟩
  rw [hn] at hkn h4 hpc hpw hpu hp1 hp2 h5 h6 h0 ⊢
  unfold sh_X5_putSplits
  rw [h3, isub hc2]
  refine okb (ldS_ok (by omega) (by omega)) ?_
  rw [h6 (c - 1) (by omega), ok_bind]
  simp only [ok_some]
  obtain ⟨u, hu⟩ : ∃ u, u = n ^ (c - 1) := ⟨_, rfl⟩
  rw [← hu] at hp1 hp2 hpu ⊢
  refine (acLoop (n := n) (N := n ^ (c + 1)) (y := y) (w0 := w) (S := fun _ => 0) (T := fun q e => sumN n (fun x => sumN n (fun y => sumN u (nx2 k n f u F q e x y)))) (by omega) FrS.refl h0 ?_ ?_).mono fun w' hw => ⟨hw.1, Ac0 hw.2 fun q => by rw [hu]; rfl⟩
  · intro e w1 S1 he g1 A1
    have hh := h.fr ha g1
    have hne : ¬ n ≤ e := by omega
    simp (disch := omega) only [sh_X5_putSplits_s14, hh.2.2.1.1.2, hn, ile, hne, if_false, ok_bind]
    refine (acLoop (n := n) (N := n ^ (c + 1)) (y := y) (w0 := w) (S := S1) (T := fun q x => sumN n (fun y => sumN u (nx2 k n f u F q e x y))) (by omega) g1 A1 ?_ ?_).mono fun w2 h2' => ?_
    · intro j w2 S2 hj g2 A2
      have hh2 := h.fr ha g2
      have hnj : ¬ n ≤ j := by omega
      simp (disch := omega) only [sh_X5_putSplits_s25, hh2.2.2.1.1.2, hn, ile, hnj, if_false, ok_bind]
      refine (acLoop (n := n) (N := n ^ (c + 1)) (y := y) (w0 := w) (S := S2) (T := fun q l => sumN u (nx2 k n f u F q e j l)) (by omega) g2 A2 ?_ ?_).mono fun w3 h3' => ?_
      · intro l w3 S3 hl g3 A3
        have hh3 := h.fr ha g3
        have hnl : ¬ n ≤ l := by omega
        simp (disch := omega) only [sh_X5_putSplits_s37, hh3.2.2.1.1.2, hn, ile, hnl, if_false]
        refine okb (xTiS hv hh3.2.1 (by rw [hn]; exact he) (by rw [hn]; exact hj) (by rw [hn]; exact hl)) ?_
        rw [hn, ok_bind]
        have hsp := spN_lt (k := k) (n := n) (f := f) (e := e) (j := j) (q := l)
        by_cases z : spN k n f e j l = 0
        · refine Ok.of (a := w3) ?_ ?_
          · rw [z]; rfl
          · simp only [ok_letv, ok_some, nI_add]
            exact ⟨w3, rfl, g3, A3.same fun q => by rw [nx2_0 z, Nat.add_zero]⟩
        · refine (acLoop (n := u) (N := n ^ (c + 1)) (y := y) (w0 := w) (S := S3) (T := fun q i => nx2 k n f u F q e j l i) (by omega) g3 A3 ?_ ?_).mono fun w4 h4' => ?_
          · intro i w4 S4 hi g4 A4
            have hh4 := h.fr ha g4
            have hni : ¬ u ≤ i := by omega
            have hix := ix1 hi he
            have hiy := ix2 hi hj hl
            have ht4 : w4.1 t 4 = nI n := by rw [← hn]; exact hh4.2.2.1.1.2
            simp (disch := omega) only [sh_X5_putSplits_s60, ieq0, z, ile, hni, if_false, pk_mul, nI_add]
            refine okb (xPair ht4) ?_
            rw [hh4.1.1.1]
            refine okb (ldD_ok hh4.1.2.1.1 (by omega) (by omega)) ?_
            rw [hh4.2.2.2 _ (by rw [hn, hp1]; exact hix), ok_bind]
            refine (xAdd5 hh4 hpw (by rw [hp2]; exact hiy) (hF _) hsp A4).mono fun w5 h5' => ?_
            simp only [ok_letv, ok_some, nI_add]
            exact ⟨w5, rfl, g4.trans h5'.1, h5'.2⟩
          · intro w4 g4
            simp (disch := omega) only [sh_X5_putSplits_s60, ieq0, z, if_false, le_nI, if_true]
          · simp only [ok_letv, ok_some, nI_add]
            exact ⟨w4, rfl, h4'.1, h4'.2⟩
      · intro w3 g3
        have hh3 := h.fr ha g3
        simp only [sh_X5_putSplits_s37, hh3.2.2.1.1.2, hn, le_nI, if_true]
      · simp only [ok_letv, ok_some, nI_add]
        exact ⟨w3, rfl, h3'.1, h3'.2⟩
    · intro w2 g2
      have hh2 := h.fr ha g2
      simp only [sh_X5_putSplits_s25, hh2.2.2.1.1.2, hn, le_nI, if_true]
    · simp only [ok_letv, ok_some, nI_add]
      exact ⟨w2, rfl, h2'.1, h2'.2⟩
  · intro w1 g1
    have hh := h.fr ha g1
    simp only [sh_X5_putSplits_s14, hh.2.2.1.1.2, hn, le_nI, if_true]
theorem xPut5 {t a b k s f c x y : Nat} {F H : Nat → Nat} {w : WX} (ha : a + 10 ≤ t) (hb : b = a + 6 ∨ b = a + 7) (hka : KDx a = (0, 13)) (hv : VA k s f) (hc : c ≤ 3) (hc2 : 1 ≤ c) (hF : ∀ q, F q < 9973) (hH : ∀ q, H q < 9973) (hHw : Rw (w.1 b) H (eN k s)) (h : SuC t a k s f c x y F w) (h0 : Ac (w.1 y) (eN k s ^ c) (fun _ => 0)) : Ok (sh_X5_putTimes t a b w) (fun w' => FrS y w w' ∧ Ac (w'.1 y) (eN k s ^ c) (fun q => sumN (eN k s) (fun e => sumN (eN k s) (fun j => sumN (eN k s ^ (c - 1)) (nx5 k (eN k s) f (eN k s ^ (c - 1)) H F q e j))))) := by
  have hkn := kn_of hv
  have h4 := hkn.2.2.1
  have hpc := pw_le h4 hc
  have hpu := pw_le h4 (show c - 1 ≤ 3 by omega)
  have hp1 := pw_1 (n := eN k s) hc2
  have hkb : KDx b = (10, 6) := by
    rcases hb with rfl | rfl
    · exact kx_0_9 hka
    · exact kx_0_10 hka
  obtain ⟨h1, h2, ⟨⟨h3, h5⟩, h6⟩, h7⟩ := id h
  obtain ⟨n, hn⟩ : ∃ n, eN k s = n := ⟨_, rfl⟩
  rw [hn] at hkn h4 hpc hpu hp1 h5 h6 h0 hHw ⊢
  unfold sh_X5_putTimes
  rw [h3, isub hc2]
  refine okb (ldS_ok (by omega) (by omega)) ?_
  rw [h6 (c - 1) (by omega), ok_bind]
  simp only [ok_some]
  obtain ⟨u, hu⟩ : ∃ u, u = n ^ (c - 1) := ⟨_, rfl⟩
  rw [← hu] at hp1 hpu ⊢
  refine (acLoop (n := n) (N := n ^ c) (y := y) (w0 := w) (S := fun _ => 0) (T := fun q e => sumN n (fun j => sumN u (nx5 k n f u H F q e j))) (by omega) FrS.refl h0 ?_ ?_).mono fun w' hw => ⟨hw.1, Ac0 hw.2 fun q => rfl⟩
  · intro e w1 S1 he g1 A1
    have hh := h.fr ha g1
    have hne : ¬ n ≤ e := by omega
    simp (disch := omega) only [sh_X5_putTimes_s15, hh.2.2.1.1.2, hn, ile, hne, if_false, ok_bind]
    refine (acLoop (n := n) (N := n ^ c) (y := y) (w0 := w) (S := S1) (T := fun q j => sumN u (nx5 k n f u H F q e j)) (by omega) g1 A1 ?_ ?_).mono fun w2 h2' => ?_
    · intro j w2 S2 hj g2 A2
      have hh2 := h.fr ha g2
      have hnj : ¬ n ≤ j := by omega
      have hlt := idx_lt h4 he hj
      have htg := tgN_lt hkn he hj
      have hfa := faN_lt (i := e) (j := j) hkn
      have T2 := hh2.2.1.2.2.2.1
      rw [hn] at T2
      have hyb : b ≠ y := by omega
      have v4 : w2.1 b j = nI (H j) := by rw [g2.1 b hyb]; exact hHw j hj
      simp (disch := omega) only [sh_X5_putTimes_s27, hh2.2.2.1.1.2, hn, ile, hnj, if_false]
      refine okb (xAt (show w2.1 a 3 = nI n by rw [← hn]; exact hh2.2.1.1.2.2.2)) (okb (ldS_ok hlt (by omega)) ?_)
      rw [T2.get he hj]
      refine okb (ldD_ok hkb (by omega) (by omega)) ?_
      rw [v4]
      refine okb (xPT (n := 0) (by omega) hfa (hH j)) ?_
      rw [Nat.zero_add, ok_bind]
      refine (acLoop (n := u) (N := n ^ c) (y := y) (w0 := w) (S := S2) (T := fun q i => nx5 k n f u H F q e j i) (by omega) g2 A2 ?_ ?_).mono fun w3 h3' => ?_
      · intro i w3 S3 hi g3 A3
        have hh3 := h.fr ha g3
        have hni : ¬ u ≤ i := by omega
        have T1 := hh3.2.1.2.2.1
        rw [hn] at T1
        have hix := ix1 hi he
        simp (disch := omega) only [sh_X5_putTimes_s66, ile, hni, if_false]
        refine okb (ldS_ok hlt (by omega)) ?_
        rw [hh3.1.1.1, T1.get he hj, pk_mul, nI_add, pk_mul, nI_add]
        refine okb (ldD_ok hh3.1.2.1.1 (by omega) (by omega)) ?_
        rw [hh3.2.2.2 _ (by rw [hn, hp1]; exact hix), ok_bind]
        refine (xAdd5 hh3 hpc (by rw [hp1]; exact ix1 hi htg) (hF _) (md_lt _) A3).mono fun w4 h4' => ?_
        simp only [ok_letv, ok_some, nI_add]
        exact ⟨w4, rfl, g3.trans h4'.1, h4'.2⟩
      · intro w3 g3
        simp only [sh_X5_putTimes_s66, le_nI, if_true]
      · simp only [ok_letv, ok_some, nI_add]
        exact ⟨w3, rfl, h3'.1, h3'.2⟩
    · intro w2 g2
      have hh2 := h.fr ha g2
      simp only [sh_X5_putTimes_s27, hh2.2.2.1.1.2, hn, le_nI, if_true]
    · simp only [ok_letv, ok_some, nI_add]
      exact ⟨w2, rfl, h2'.1, h2'.2⟩
  · intro w1 g1
    have hh := h.fr ha g1
    simp only [sh_X5_putTimes_s15, hh.2.2.1.1.2, hn, le_nI, if_true]
/-! a step -/
/-- the two rows of sums -/
def SwS (t : Nat) (r : Rf) : Prop := (r t 0 = t + 1 ∧ r t 1 = t + 2) ∨ (r t 0 = t + 2 ∧ r t 1 = t + 1)
def OutS5 (t : Nat) (w w' : WX) : Prop := OutX t (t + 4) w w' ∧ ∀ q, q ≠ t → w'.2 q = w.2 q
theorem OutS5.trans {t : Nat} {w w1 w2 : WX} (h : OutS5 t w w1) (g : OutS5 t w1 w2) : OutS5 t w w2 := ⟨h.1.trans g.1, fun q a => (g.2 q a).trans (h.2 q a)⟩
theorem Ac.rw {m : Nat → Int32} {n : Nat} {F : Nat → Nat} (h : Ac m n F) : Rw m (fun q => F q % 9973) n := fun q hq => h q hq
theorem xJ153 {t a k s f c c' p x y : Nat} {F F' : Nat → Nat} {w w1 : WX} (ha : a + 10 ≤ t) (hp : p < 7) (hc : c ≤ 3) (hb : bh c p = some c') (h : SuC t a k s f c x y F w) (g : FrS y w w1) (hA : Ac (w1.1 y) (eN k s ^ c') F') : Ok (sh_X5_step_j153 t (nI p) w1) (fun w' => SuC t a k s f c' y x (fun q => F' q % 9973) w' ∧ OutS5 t w w') := by
  have hh := h.fr ha g
  have hc' := (bh_le hc hb).1
  have hv := xAdI p hp c (by omega) (by rw [hb]; rfl)
  rw [hb] at hv
  have hs : nI c + (nI ((some c').getD 0) - nI c) = nI c' := by
    show nI c + (nI c' - nI c) = nI c'
    rw [Int32.add_comm, Int32.sub_add_cancel]
  obtain ⟨⟨⟨h1, h2⟩, ⟨h3, h4⟩, h5, h6, h7⟩, h8, ⟨⟨h9, h10⟩, h11⟩, h12⟩ := hh
  unfold sh_X5_step_j153
  rw [hv, h9]
  refine okb rfl ?_
  rw [hs]
  refine ok_pX fun w2 f1 f2 f3 f4 => ?_
  rw [ok_letv, ok_letv, ok_some]
  have r0 : w2.2 t 0 = x := by rw [f4]; exact h1
  have r1 : w2.2 t 1 = y := by rw [f4]; exact h2
  have f1' : ∀ q, q ≠ t → w2.1 q = w1.1 q := f1
  refine ⟨⟨⟨⟨?_, ?_⟩, ⟨h4, h3⟩, h5.symm, h7, h6⟩, ?_, ⟨⟨?_, ?_⟩, ?_⟩, ?_⟩, ⟨?_, ?_⟩⟩
  · simp [pXr, rset, r1]
  · simp [pXr, rset, r0]
  · exact h8.to fun q a b => f1' q (by omega)
  · exact f3
  · show w2.1 t 4 = _
    rw [f2 _ (by omega)]; exact h10
  · show ∀ j, j < 4 → w2.1 (t + 3) j = _
    rw [f1' _ (by omega)]; exact h11
  · show Rw (w2.1 y) _ _
    rw [f1' _ (by omega)]; exact hA.rw
  · intro q hq
    show w2.1 q = w.1 q
    rw [f1' q (by omega), g.1 q (by omega)]
  · intro q hq
    show rset (rset w2.2 t 0 (w2.2 t 1)) t 1 (w2.2 t 0) q = w.2 q
    rw [rset_ncf hq, rset_ncf hq, f4, g.2]
theorem xStep5 {t a k s f c c' p x y : Nat} {F : Nat → Nat} {w : WX} (ha : a + 10 ≤ t) (hka : KDx a = (0, 13)) (hv : VA k s f) (hp : p < 7) (hc : c ≤ 3) (hb : bh c p = some c') (hF : ∀ q, F q < 9973) (h : SuC t a k s f c x y F w) : Ok (sh_X5_step t (nI p) a w) (fun w' => SuC t a k s f c' y x (fun q => nxT k (eN k s) f c p F q % 9973) w' ∧ OutS5 t w w') := by
  have hkn := kn_of hv
  have h4 := hkn.2.2.1
  have hc' := (bh_le hc hb).1
  have hpw := pw_le h4 hc'
  have hv2 := xAdI p hp c (by omega) (by rw [hb]; rfl)
  rw [hb] at hv2
  have hcan := xCan p hp c (by omega)
  rw [hb] at hcan
  have hs : nI c + (nI ((some c').getD 0) - nI c) = nI c' := by
    show nI c + (nI c' - nI c) = nI c'
    rw [Int32.add_comm, Int32.sub_add_cancel]
  unfold sh_X5_step
  rw [h.2.2.1.1.1]
  refine okb hcan (okf (by rw [if_pos (show (some c').isSome = true from rfl)]; decide) ?_)
  refine okb hv2 ?_
  rw [hs]
  refine okb (ldS_ok (by omega) (by omega)) ?_
  rw [h.2.2.1.2 c' (by omega), ok_bind]
  refine (ok_for (eN k s ^ c') (fun i st => ∃ w', st = (nI i, w') ∧ FrS y w w' ∧ Rw (w'.1 y) (fun _ => 0) i) (P := fun w' => FrS y w w' ∧ Ac (w'.1 y) (eN k s ^ c') (fun _ => 0)) ⟨w, rfl, FrS.refl, Rw.zero⟩ ?_ ?_ (by omega)).mono fun w1 h1 => ?_
  · rintro i _ hi ⟨w1, rfl, g1, A1⟩
    have hh := h.fr ha g1
    have hni : ¬ eN k s ^ c' ≤ i := by omega
    simp (disch := omega) only [sh_X5_step_s31, ile, hni, if_false, ok_bind, hh.1.1.2]
    refine ok_stDX hh.1.2.1.2 (by omega) (by omega) fun w2 f1 f2 f3 f4 => ?_
    simp only [ok_letv, ok_some, inl_ex, nI_add]
    exact ⟨w2, rfl, g1.trans ⟨f1, f4⟩, A1.put f2 f3⟩
  · rintro _ ⟨w1, rfl, g1, A1⟩
    simp only [sh_X5_step_s31, le_nI, if_true, ok_some, inr_ex]
    exact ⟨g1, fun q hq => A1 q hq⟩
  · obtain ⟨g1, A1⟩ := h1
    have hh := h.fr ha g1
    rcases p7 hp with rfl | rfl | rfl | rfl | rfl | rfl | rfl
    · obtain rfl : c' = c + 1 := by simp only [bh] at hb; split at hb; exact (Option.some.inj hb).symm; cases hb
      refine okt rfl ?_
      rw [ok_bind]
      refine (xPut0 ha hv (by omega) hF hh A1).mono fun w2 h2 => ?_
      exact xJ153 ha hp hc hb h (g1.trans h2.1) h2.2
    · obtain ⟨hc2, rfl⟩ : 2 ≤ c ∧ c' = c - 1 := by simp only [bh] at hb; split at hb; exact ⟨by omega, (Option.some.inj hb).symm⟩; cases hb
      refine okf (by decide) (okt rfl ?_)
      rw [ok_bind]
      refine (xPut1 ha hv hc hc2 hF hh A1).mono fun w2 h2 => ?_
      exact xJ153 ha hp hc hb h (g1.trans h2.1) h2.2
    · obtain ⟨hc2, rfl⟩ : 1 ≤ c ∧ c' = c + 1 := by simp only [bh] at hb; split at hb; exact ⟨by omega, (Option.some.inj hb).symm⟩; cases hb
      refine okf (by decide) (okf (by decide) (okt rfl ?_))
      rw [ok_bind]
      refine (xPut2 ha hv (by omega) hc2 hF hh A1).mono fun w2 h2 => ?_
      exact xJ153 ha hp hc hb h (g1.trans h2.1) h2.2
    · obtain ⟨hc2, rfl⟩ : 1 ≤ c ∧ c' = c - 1 := by simp only [bh] at hb; split at hb; exact ⟨by omega, (Option.some.inj hb).symm⟩; cases hb
      refine okf (by decide) (okf (by decide) (okf (by decide) (okt rfl ?_)))
      rw [ok_bind]
      refine (xPut3 ha hv hc hc2 hF hh A1).mono fun w2 h2 => ?_
      exact xJ153 ha hp hc hb h (g1.trans h2.1) h2.2
    · obtain ⟨hc2, rfl⟩ : 2 ≤ c ∧ c' = c := by simp only [bh] at hb; split at hb; exact ⟨by omega, (Option.some.inj hb).symm⟩; cases hb
      refine okf (by decide) (okf (by decide) (okf (by decide) (okf (by decide) (okt rfl ?_))))
      rw [ok_bind]
      refine (xPut4 ha hv hc hc2 hF hh A1).mono fun w2 h2 => ?_
      exact xJ153 ha hp hc hb h (g1.trans h2.1) h2.2
    · obtain ⟨hc2, rfl⟩ : 1 ≤ c ∧ c' = c := by simp only [bh] at hb; split at hb; exact ⟨by omega, (Option.some.inj hb).symm⟩; cases hb
      refine okf (by decide) (okf (by decide) (okf (by decide) (okf (by decide) (okf (by decide) (okt rfl ?_)))))
      rw [ok_bind]
      refine (xPut5 (H := hdN k (eN k s) f) ha (Or.inl rfl) hka hv hc hc2 hF (fun _ => hdN_lt) hh.2.1.2.1.2.2.1 hh A1).mono fun w2 h2 => ?_
      exact xJ153 ha hp hc hb h (g1.trans h2.1) h2.2
    · obtain ⟨hc2, rfl⟩ : 1 ≤ c ∧ c' = c := by simp only [bh] at hb; split at hb; exact ⟨by omega, (Option.some.inj hb).symm⟩; cases hb
      refine okf (by decide) (okf (by decide) (okf (by decide) (okf (by decide) (okf (by decide) (okf (by decide) ?_)))))
      rw [ok_bind]
      refine (xPut5 (H := crN k (eN k s) f) ha (Or.inr rfl) hka hv hc hc2 hF (fun _ => crN_lt) hh.2.1.2.1.2.2.2 hh A1).mono fun w2 h2 => ?_
      exact xJ153 ha hp hc hb h (g1.trans h2.1) h2.2
/-- the class's sums, found -/
def SfX (t n c : Nat) (F : Nat → Nat) (w : WX) : Prop := (w.1 t 3 = nI c ∧ w.1 t 4 = nI n ∧ ∀ j, j < 4 → w.1 (t + 3) j = nI (n ^ j)) ∧ KDx (w.2 t 0) = (10, 216) ∧ Rw (w.1 (w.2 t 0)) F (n ^ c)
theorem kx_su {t : Nat} (h : t = 145 ∨ t = 149) : KDx (t + 1) = (10, 216) ∧ KDx (t + 2) = (10, 216) := by rcases h with rfl | rfl <;> decide +kernel
theorem xFind5 {t u a k s f : Nat} {L : List Nat} {w : WX} (ht : t = 145 ∨ t = 149) (ha : a + 10 ≤ t) (hka : KDx a = (0, 13)) (hv : VA k s f) (hS : Sf L) (hu : u + 2 ≤ t) (hL : SuAt u L w) (hA : AlgAt a k s f w) (hw : SwS t w.2) : Ok (sh_X5_find t u a w) (fun w' => SfX t (eN k s) (cr L) (suN k (eN k s) f L L.length) w' ∧ OutS5 t w w' ∧ SwS t w'.2) := by
  have hkn := kn_of hv
  have h4 := hkn.2.2.1
  have hl := hS.1
  have hw' := hw
  obtain ⟨kt1, kt2⟩ := kx_su ht
  unfold sh_X5_find
  rw [hA.1.2.2.2]
  obtain ⟨n, hn⟩ : ∃ n, n = eN k s := ⟨_, rfl⟩
  rw [← hn] at h4 ⊢
  refine ok_pX fun w1 a1 a2 a3 a4 => ?_
  rw [ok_bind]
  refine ok_stX (by omega) (by omega) fun w2 b1 b2 b3 b4 => ?_
  have b0 : ∀ j, j < 0 + 1 → w2.1 (t + 3) j = nI (n ^ j) := by
    intro j hj
    have : j = 0 := by omega
    rw [this, b3, Nat.pow_zero]
  rw [ok_bind]
  refine (ok_for 3 (fun i st => ∃ w' : WX, st = (nI (i + 1), w') ∧ (∀ j, j < i + 1 → w'.1 (t + 3) j = nI (n ^ j)) ∧ (∀ q, q ≠ t + 3 → w'.1 q = w1.1 q) ∧ w'.2 = w.2) (P := fun w' : WX => (∀ j, j < 4 → w'.1 (t + 3) j = nI (n ^ j)) ∧ (∀ q, q ≠ t + 3 → w'.1 q = w1.1 q) ∧ w'.2 = w.2) ⟨w2, rfl, b0, b1, by rw [b4, a4]⟩ ?_ ?_ (by omega)).mono fun w3 h3 => ?_
  · rintro i _ hi ⟨w3, rfl, e1, e2, e3⟩
    have hni : ¬ 3 < i + 1 := by omega
    have v4 : w3.1 t 4 = nI n := by rw [e2 _ (by omega)]; exact a3
    simp (disch := omega) only [sh_X5_find_s17, ilt, hni, if_false, isub, Nat.add_sub_cancel]
    refine okb (ldS_ok (by omega) (by omega)) ?_
    rw [e1 i (by omega), v4, pk_mul, ← Nat.pow_succ, ok_bind]
    refine ok_stX (by omega) (by omega) fun w4 d1 d2 d3 d4 => ?_
    simp only [ok_letv, ok_some, inl_ex, nI_add]
    refine ⟨w4, rfl, fun j hj => ?_, fun q hq => (d1 q hq).trans (e2 q hq), d4.trans e3⟩
    by_cases z : j = i + 1
    · subst z; exact d3
    · rw [d2 j z]; exact e1 j (by omega)
  · rintro _ ⟨w3, rfl, e1, e2, e3⟩
    simp (disch := omega) only [sh_X5_find_s17, ilt, show (3 < 3 + 1) = True from by simp, if_true, ok_some, inr_ex]
    exact ⟨e1, e2, e3⟩
  · obtain ⟨e1, e2, e3⟩ := h3
    refine ok_pX fun w4 c1 c2 c3 c4 => ?_
    have r4 : w4.2 = w.2 := by rw [c4, e3]
    have fin : ∀ x y : Nat, (w.2 t 0 = x ∧ w.2 t 1 = y) → (KDx x = (10, 216) ∧ KDx y = (10, 216)) → x ≠ y → (t < x ∧ x < t + 3) → (t < y ∧ y < t + 3) → Ok (Option.bind (stDX (w4.2 t 0) (nI 0) (nI 1) w4) (fun w5 => Option.bind (lpw (sh_X5_find_s61 t u a) FU (nI 0, w5)) (fun ex6 => some ex6))) (fun w' => SfX t n (cr L) (suN k n f L L.length) w' ∧ OutS5 t w w' ∧ SwS t w'.2) := by
      rintro x y hxy hk hne hx hy
      rw [r4, hxy.1, ok_bind]
      refine ok_stDX hk.1 (by omega) (by omega) fun w5 m1 m2 m3 m4 => ?_
      have r5 : w5.2 = w.2 := m4.trans r4
      have O5 : OutS5 t w w5 := ⟨fun q hq => by rw [m1 _ (by omega), c1 _ (by omega), e2 _ (by omega), a1 _ (by omega)], fun q hq => by rw [r5]⟩
      have I0 : SuC t a k s f 0 x y (suN k n f L 0) w5 := by
        refine ⟨⟨by rw [r5]; exact hxy, hk, hne, hx, hy⟩, hA.to fun q a b => O5.1 q (by omega), ⟨⟨?_, ?_⟩, fun j hj => ?_⟩, fun q hq => ?_⟩
        · rw [m1 _ (by omega)]; exact c3
        · rw [m1 _ (by omega), c2 _ (by omega), e2 _ (by omega), ← hn]; exact a3
        · rw [m1 _ (by omega), c1 _ (by omega), ← hn]; exact e1 j hj
        · obtain rfl : q = 0 := by have : q < 1 := hq; omega
          exact m3
      rw [ok_bind]
      simp only [ok_some]
      refine (ok_for L.length (fun i st => ∃ (w' : WX) (x y : Nat), st = (nI i, w') ∧ SuC t a k s f (cr (L.take i)) x y (suN k n f L i) w' ∧ OutS5 t w w') (P := fun w' => SfX t n (cr L) (suN k n f L L.length) w' ∧ OutS5 t w w' ∧ SwS t w'.2) ⟨w5, x, y, rfl, I0, O5⟩ ?_ ?_ (by omega)).mono fun w6 h6 => h6
      · rintro i _ hi ⟨w6, x, y, rfl, p1, p2⟩
        have hni : ¬ L.length ≤ i := by omega
        obtain ⟨d, hd1, hd2⟩ := bh_take hS hi
        have v1 : w6.1 u 1 = nI L.length := by rw [p2.1 _ (by omega)]; exact hL.1.1
        have v2 : w6.1 (u + 1) i = nI (L.getD i 0) := by rw [p2.1 _ (by omega), ← hL.2 i hi, Nat.zero_add]
        simp (disch := omega) only [sh_X5_find_s61, v1, ile, hni, if_false]
        refine okb (ldS_ok (by omega) (by omega)) ?_
        rw [v2, ok_bind]
        refine (xStep5 ha hka hv (hS.getD hi) (hS.take i).le hd1 (suN_lt i) p1).mono fun w7 h7 => ?_
        simp only [ok_letv, ok_some, inl_ex, nI_add]
        refine ⟨w7, y, x, rfl, ?_, p2.trans h7.2⟩
        rw [hd2]
        have := h7.1
        rw [← hn] at this
        exact this
      · rintro _ ⟨w6, x, y, rfl, p1, p2⟩
        have v1 : w6.1 u 1 = nI L.length := by rw [p2.1 _ (by omega)]; exact hL.1.1
        simp only [sh_X5_find_s61, v1, le_nI, if_true, ok_some, inr_ex]
        rw [List.take_length] at p1
        obtain ⟨⟨⟨q1, q2⟩, q3, q4, q5, q6⟩, q7, ⟨⟨q8, q9⟩, q10⟩, q11⟩ := p1
        rw [← hn] at q9 q10 q11
        refine ⟨⟨⟨q8, q9, q10⟩, by rw [q1]; exact q3.1, by rw [q1]; exact q11⟩, p2, ?_⟩
        unfold SwS
        rw [q1, q2]
        omega
    rcases hw with h | h
    · exact fin (t + 1) (t + 2) h ⟨kt1, kt2⟩ (by omega) (by omega) (by omega)
    · exact fin (t + 2) (t + 1) h ⟨kt2, kt1⟩ (by omega) (by omega) (by omega)
