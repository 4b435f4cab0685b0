/-! sums of the reference: a step, all; what is asked of sums -/
def OutD (w w' : Mem) : Prop := (∀ q, q ≠ 0 → q ≠ 22 → q ≠ 23 → w' q = w q) ∧ ∀ i, i ≠ 29 → w' 0 i = w 0 i
theorem OutD.refl {m : Mem} : OutD m m := ⟨fun _ _ _ _ => rfl, fun _ _ => rfl⟩
theorem OutD.trans {m m1 m2 : Mem} (h : OutD m m1) (g : OutD m1 m2) : OutD m m2 := ⟨fun q a b c => (g.1 q a b c).trans (h.1 q a b c), fun i a => (g.2 i a).trans (h.2 i a)⟩
theorem OutD.laid {k n f : Nat} {m m' : Mem} (h : OutD m m') (hL : LaidT k n f m) : LaidT k n f m' := hL.to ⟨h.2 3 (by omega), h.2 4 (by omega)⟩ fun q a b => h.1 q (by omega) (by omega) (by omega)
theorem mDoes {p k n f c c' : Nat} {F : Nat → Nat} {w : Mem} (hp : p < 7) (hk : KN k n f) (hc : c ≤ 3) (hb : bh c p = some c') (hF : ∀ q, F q < 9973) (h : SuD k n f c F w) : Ok (sh_X9_does (nI p) (nI c) w) (fun w' => (∀ q, q ≠ 22 → q ≠ 23 → w' q = w q) ∧ Rw (w' 22) (fun q => nxT k n f c p F q % 9973) 216) := by
  have h4 := hk.2.2.1
  have hn1 := hk.2.1
  have hpc := pw_le h4 hc
  unfold sh_X9_does
  rw [ok_bind]
  refine (ok_for 216 (fun i st => ∃ w', st = (nI i, w') ∧ FrM 23 w w' ∧ Rw (w' 23) (fun _ => 0) i) (P := fun w' => FrM 23 w w' ∧ Ac (w' 23) 216 (fun _ => 0)) ⟨w, rfl, FrM.refl, Rw.zero⟩ ?_ ?_ (by omega)).mono fun w1 h1 => ?_
  · rintro i _ hi ⟨w1, rfl, g1, A1⟩
    have hni : ¬ 216 ≤ i := by omega
    simp (disch := omega) only [sh_X9_does_s2, ile, hni, if_false, ok_bind]
    refine ok_stM hi (by omega) fun w2 f1 f2 f3 => ?_
    simp only [ok_letv, ok_some, inl_ex, nI_add]
    exact ⟨w2, rfl, g1.trans f1, A1.put f2 f3⟩
  · rintro _ ⟨w1, rfl, g1, A1⟩
    simp only [sh_X9_does_s2, le_nI, if_true, ok_some, inr_ex]
    exact ⟨g1, fun q hq => A1 q hq⟩
  · obtain ⟨g1, A1⟩ := h1
    rw [ok_bind]
    refine (amLoop (n := n ^ c) (y := 23) (N := 216) (w0 := w) (S := fun _ => 0) (T := rT k n f c p F) (by omega) g1 A1 ?_ ?_).mono fun w2 h2 => ?_
    · intro a w2 S2 ha g2 A2
      have hh := h.fr g2
      have hna : ¬ n ^ c ≤ a := by omega
      simp (disch := omega) only [sh_X9_does_s24, hh.2.1, ile, hna, if_false]
      by_cases q0 : p = 0
      · subst q0
        obtain rfl : c' = c + 1 := by simp only [bh] at hb; split at hb; exact (Option.some.inj hb).symm; cases hb
        have hc3 : c + 1 ≤ 3 := (bh_le hc hb).1
        have hpw := pw_le h4 hc3
        have hpp : n ^ (c + 1) = n ^ c * n := Nat.pow_succ _ _
        refine okt rfl ?_
        rw [ok_bind]
        refine (amLoop (n := n) (y := 23) (N := 216) (w0 := w) (S := S2) (T := fun q e => if a + n ^ c * e = q then F a * onN k e else 0) (by omega) g2 A2 ?_ ?_).mono fun w3 h3 => ?_
        · intro e w3 S3 he g3 A3
          have hh3 := h.fr g3
          have hne : ¬ n ≤ e := by omega
          have hFa := hF a
          have hon := onN_lt9 (k := k) e
          have b1 := mul_lt' hFa hon
          have hix := ix1 ha he
          simp (disch := omega) only [sh_X9_does_s39, hh3.1.1.1, ile, hne, if_false]
          refine okb (ldS_ok (by omega) (by omega)) (okb (ldS_ok (by omega) (by omega)) ?_)
          rw [hh3.2.2 a ha, hh3.1.2.2.2.2.2.1 e he, hh3.2.1, nI_l (by omega), nI_l (by omega), lN_mul, pk_mul, nI_add, ok_bind]
          refine (mCnt (by omega) (by omega) A3).mono fun w4 h4' => ?_
          simp only [ok_letv, ok_some, nI_add]
          exact ⟨w4, rfl, g3.trans h4'.1, h4'.2⟩
        · intro w3 g3
          have hh3 := h.fr g3
          simp only [sh_X9_does_s39, hh3.1.1.1, le_nI, if_true]
        · simp only [ok_letv, ok_some, nI_add]
          exact ⟨w3, rfl, h3.1, h3.2⟩
      · refine okf (by rw [ieq0 (by omega)]; exact q0) ?_
        by_cases q1 : p = 1 ∨ p = 4
        · have hj : Ok (sh_X9_does_j96 (nI p) (nI c) (nI a) w2) (fun r => ∃ w3, r = .inl (nI (a + 1), w3) ∧ FrM 23 w w3 ∧ Ac (w3 23) 216 (fun q => S2 q + rT k n f c p F q a)) := by
            have hc2 : 2 ≤ c := by rcases q1 with rfl | rfl <;> simp only [bh] at hb <;> split at hb <;> first | (cases hb; done) | omega
            unfold sh_X9_does_j96
            rw [isub hc2]
            refine okb (mPow hh.1.1.1 (by omega)) ?_
            rw [ok_bind]
            refine (mJoin q1 hk hc hb hF h ha g2 A2).mono fun w3 h3 => ?_
            simp only [ok_letv, ok_some, nI_add]
            exact ⟨w3, rfl, h3⟩
          rcases q1 with rfl | rfl
          · exact okt rfl hj
          · exact okf (by decide) (okt rfl hj)
        · refine okf (by rw [ieq (by omega) (by omega)]; omega) (okf (by rw [ieq (by omega) (by omega)]; omega) ?_)
          have q2 : p = 2 ∨ p = 3 ∨ p = 5 ∨ p = 6 := by omega
          have hc1 : 1 ≤ c := by rcases q2 with rfl | rfl | rfl | rfl <;> simp only [bh] at hb <;> split at hb <;> first | (cases hb; done) | omega
          rw [isub hc1]
          refine okb (mPow hh.1.1.1 (by omega)) ?_
          rw [ok_bind]
          refine (mTurn q2 hk hc hb hF h ha g2 A2).mono fun w3 h3 => ?_
          simp only [ok_letv, ok_some, nI_add]
          exact ⟨w3, rfl, h3⟩
    · intro w2 g2
      have hh := h.fr g2
      simp only [sh_X9_does_s24, hh.2.1, le_nI, if_true]
    · obtain ⟨g2, A2⟩ := h2
      rw [ok_bind]
      refine (ok_for 216 (fun i st => ∃ w', st = (nI i, w') ∧ FrM 22 w2 w' ∧ Rw (w' 22) (fun q => nxT k n f c p F q % 9973) i) (P := fun w' => FrM 22 w2 w' ∧ Rw (w' 22) (fun q => nxT k n f c p F q % 9973) 216) ⟨w2, rfl, FrM.refl, Rw.zero⟩ ?_ ?_ (by omega)).mono fun w3 h3 => ?_
      · rintro i _ hi ⟨w3, rfl, g3, A3⟩
        have hni : ¬ 216 ≤ i := by omega
        have v1 : w3 23 i = nI (nxT k n f c p F i % 9973) := by
          rw [g3 23 (by omega), A2 i hi]
          show nI ((0 + sumN (n ^ c) (rT k n f c p F i)) % 9973) = _
          rw [Nat.zero_add, rT_eq hF hp hb]
        simp (disch := omega) only [sh_X9_does_s133, ile, hni, if_false]
        refine okb (ldS_ok hi (by omega)) ?_
        rw [v1, ok_bind]
        refine ok_stM hi (by omega) fun w4 f1 f2 f3 => ?_
        simp only [ok_letv, ok_some, inl_ex, nI_add]
        exact ⟨w4, rfl, g3.trans f1, A3.put f2 f3⟩
      · rintro _ ⟨w3, rfl, g3, A3⟩
        simp only [sh_X9_does_s133, le_nI, if_true, ok_some, inr_ex]
        exact ⟨g3, A3⟩
      · rw [ok_some]
        exact ⟨fun q a b => by rw [h3.1 q a, g2 q b], h3.2⟩
/-- the reference's sums, found -/
def SfM (n c : Nat) (F : Nat → Nat) (w : Mem) : Prop := w 0 29 = nI (n ^ c) ∧ Rw (w 22) F (n ^ c)
theorem mSums {k n f : Nat} {L : List Nat} {w : Mem} (hk : KN k n f) (hS : Sf L) (hL : RoM L w) (h : LaidT k n f w) : Ok (sh_X9_sums w) (fun w' => SfM n (cr L) (suN k n f L L.length) w' ∧ OutD w w') := by
  have h4 := hk.2.2.1
  have hl := hS.1
  unfold sh_X9_sums
  rw [ok_bind]
  refine (ok_for 216 (fun i st => ∃ w', st = (nI i, w') ∧ FrM 22 w w' ∧ Rw (w' 22) (suN k n f L 0) i) (P := fun w' => FrM 22 w w' ∧ Rw (w' 22) (suN k n f L 0) 216) ⟨w, rfl, FrM.refl, Rw.zero⟩ ?_ ?_ (by omega)).mono fun w1 h1 => ?_
  · rintro i _ hi ⟨w1, rfl, g1, A1⟩
    have hni : ¬ 216 ≤ i := by omega
    have key : ∀ v : Int32, v = nI (suN k n f L 0 i) → Ok (sh_X9_sums_j23 (nI i) 22 (nI i) v w1) (fun r => ∃ s', r = .inl s' ∧ ∃ w', s' = (nI (i + 1), w') ∧ FrM 22 w w' ∧ Rw (w' 22) (suN k n f L 0) (i + 1)) := by
      intro v hv
      unfold sh_X9_sums_j23
      rw [ok_bind]
      refine ok_stM hi (by omega) fun w2 f1 f2 f3 => ?_
      simp only [ok_letv, ok_some, inl_ex, nI_add]
      exact ⟨w2, rfl, g1.trans f1, A1.put f2 (f3.trans hv)⟩
    simp (disch := omega) only [sh_X9_sums_s2, ile, hni, if_false, ieq0]
    by_cases z : i = 0
    · exact okt z (key _ (by unfold suN; rw [if_pos z]))
    · exact okf z (key _ (by unfold suN; rw [if_neg z]))
  · rintro _ ⟨w1, rfl, g1, A1⟩
    simp only [sh_X9_sums_s2, le_nI, if_true, ok_some, inr_ex]
    exact ⟨g1, A1⟩
  · obtain ⟨g1, A1⟩ := h1
    refine ok_ms fun w2 f1 f2 f3 => ?_
    have O2 : OutD w w2 := ⟨fun q a b c => by rw [f1 q a, g1 q b], fun i a => by rw [f2 i a, g1 0 (by omega)]⟩
    rw [ok_bind]
    simp only [ok_some]
    refine ok_for L.length (fun i st => ∃ w', st = (nI (cr (L.take i)), nI i, w') ∧ SfM n (cr (L.take i)) (suN k n f L i) w' ∧ OutD w w') ⟨w2, rfl, ⟨by rw [f3, List.take_zero]; rfl, fun q hq => by rw [f1 _ (by omega)]; exact A1 q (by have : q < 1 := hq; omega)⟩, O2⟩ ?_ ?_ (by omega)
    · rintro i _ hi ⟨w3, rfl, p1, p2⟩
      have hni : ¬ L.length ≤ i := by omega
      obtain ⟨d, hd1, hd2⟩ := bh_take hS hi
      have hp := hS.getD hi
      have hci := (hS.take i).le
      have hdl := (bh_le hci hd1).1
      have hpd := pw_le h4 hdl
      have hLa := p2.laid h
      have v15 : w3 0 15 = nI L.length := by rw [p2.2 _ (by omega)]; exact hL.1
      have v12 : w3 12 i = nI (L.getD i 0) := by rw [p2.1 _ (by omega) (by omega) (by omega), ← hL.2 i hi, Nat.zero_add]
      simp (disch := omega) only [sh_X9_sums_s39, v15, ile, hni, if_false]
      refine okb (ldS_ok (by omega) (by omega)) ?_
      rw [v12, ok_bind]
      refine (mDoes hp hk hci hd1 (suN_lt i) ⟨hLa, p1.1, p1.2⟩).mono fun w4 h4' => ?_
      obtain ⟨q1, q2⟩ := h4'
      refine okb (ldS_ok (by omega) (by omega)) ?_
      rw [q1 12 (by omega) (by omega), v12]
      refine okb (mBeh _ (by omega) _ hp) ?_
      rw [bhI_s hd1]
      refine okb (mPow (n := n) (by rw [q1 0 (by omega) (by omega)]; exact hLa.1.1) (by omega)) ?_
      refine ok_ms fun w5 m1 m2 m3 => ?_
      simp only [ok_letv, ok_some, inl_ex, nI_add]
      rw [hd2]
      refine ⟨w5, rfl, ⟨m3, fun q hq => ?_⟩, p2.trans ⟨fun q a b c => by rw [m1 q a, q1 q b c], fun j a => by rw [m2 j a, q1 0 (by omega) (by omega)]⟩⟩
      rw [m1 _ (by omega)]
      exact q2 q (by omega)
    · rintro _ ⟨w3, rfl, p1, p2⟩
      have v15 : w3 0 15 = nI L.length := by rw [p2.2 _ (by omega)]; exact hL.1
      rw [List.take_length] at p1
      simp only [sh_X9_sums_s39, v15, le_nI, if_true, ok_some, inr_ex]
      exact ⟨p1, p2⟩
/-! what is asked -/
theorem xPl {t n c : Nat} {F : Nat → Nat} {w : WX} (hc : c ≤ 3) (h : SfX t n c F w) : sh_X5_places t w = some (nI (n ^ c)) := by
  unfold sh_X5_places
  rw [h.1.1, ldS_ok (by omega) (by omega), bsome, h.1.2.2 c (by omega)]
theorem xHp {t n c : Nat} {x : Int32} {F : Nat → Nat} {w : WX} (hc : c ≤ 3) (hn : n ≤ 6) (h : SfX t n c F w) : sh_X5_hasPlace t x w = some (bI (0 ≤ x.toInt ∧ x.toInt < (n ^ c : Nat))) := by
  have hpc := pw_le hn hc
  unfold sh_X5_hasPlace
  by_cases h1 : x < 0
  · rw [if_pos h1, bI_f]
    have := Int32.lt_iff_toInt_lt.mp h1
    rw [show (0 : Int32).toInt = 0 from rfl] at this
    omega
  · rw [if_neg h1, xPl hc h, bsome]
    have h1' := Int32.le_iff_toInt_le.mp (Int32.not_lt.mp h1)
    rw [show (0 : Int32).toInt = 0 from rfl] at h1'
    by_cases h2 : nI (n ^ c) ≤ x
    · have h2' := Int32.le_iff_toInt_le.mp h2
      rw [nI_toInt (by omega)] at h2'
      rw [if_pos h2, bI_f (by omega)]
    · have h2' := Int32.lt_iff_toInt_lt.mp (Int32.not_le.mp h2)
      rw [nI_toInt (by omega)] at h2'
      rw [if_neg h2, bI_t ⟨h1', h2'⟩]
def nzN (F : Nat → Nat) (N : Nat) : Nat := sumN N (fun q => if F q = 0 then 0 else 1)
theorem nzN_le {F : Nat → Nat} {N : Nat} : nzN F N ≤ N := by
  have := sumN_le (n := N) (b := 1) (g := fun q => if F q = 0 then 0 else 1) (fun i => by split <;> omega)
  unfold nzN
  omega
def nzB (F : Nat → Nat) (q : Nat) : Bool := !decide (F q = 0)
def frI (F : Nat → Nat) (N : Nat) : Int32 := if fsN (nzB F) N < N then nI (fsN (nzB F) N) else (-5 : Int32)
def tgS (F : Nat → Nat) (N : Nat) : Nat := sumN N F % 9973
theorem xNz {t n c : Nat} {F : Nat → Nat} {w : WX} (hc : c ≤ 3) (hn : n ≤ 6) (hF : ∀ q, F q < 9973) (h : SfX t n c F w) : sh_X5_notZero t w = some (nI (nzN F (n ^ c))) := by
  have hpc := pw_le hn hc
  have hpl := xPl hc h
  have key : Ok (lpw (sh_X5_notZero_s4 t w) FU (nI 0, nI 0)) (fun x => x = nI (nzN F (n ^ c))) := by
    refine ok_for (n ^ c) (fun i st => st = (nI (nzN F i), nI i)) rfl ?_ ?_ (by omega)
    · rintro i _ hi rfl
      have hni : ¬ n ^ c ≤ i := by omega
      have hFi := hF i
      simp (disch := omega) only [sh_X5_notZero_s4, hpl, bsome, ile, hni, if_false]
      refine okb (ldD_ok h.2.1 (by omega) (by omega)) ?_
      rw [h.2.2 i hi]
      by_cases z : F i = 0
      · refine okt (by rw [z]; rfl) ?_
        simp only [ok_letv, ok_some, inl_ex, nI_add, nzN, sumN, z, if_true]
      · refine okf (by rw [ieq0 (by omega)]; exact z) ?_
        simp only [ok_letv, ok_some, inl_ex, nI_add, nzN, sumN, z, if_false]
    · rintro _ rfl
      simp only [sh_X5_notZero_s4, hpl, bsome, le_nI, if_true, ok_some, inr_ex]
  obtain ⟨x, hx, rfl⟩ := key
  simp only [sh_X5_notZero, hx, bsome]
theorem xFn {t n c : Nat} {F : Nat → Nat} {w : WX} (hc : c ≤ 3) (hn : n ≤ 6) (hF : ∀ q, F q < 9973) (h : SfX t n c F w) : sh_X5_firstNotZero t w = some (frI F (n ^ c)) := by
  have hpc := pw_le hn hc
  have hpl := xPl hc h
  have key : Ok (lpw (sh_X5_firstNotZero_s2 t w) FU (nI 0)) (fun x => (fsN (nzB F) (n ^ c) < n ^ c ∧ x = .inl (nI (fsN (nzB F) (n ^ c)))) ∨ (¬ fsN (nzB F) (n ^ c) < n ^ c ∧ x = .inr ())) := by
    refine ok_forb (n ^ c) (fun i st => st = nI i ∧ fsN (nzB F) i = i) ⟨rfl, rfl⟩ ?_ ?_ (by omega)
    · rintro i _ hi ⟨rfl, e⟩
      have hni : ¬ n ^ c ≤ i := by omega
      have hFi := hF i
      simp (disch := omega) only [sh_X5_firstNotZero_s2, hpl, bsome, ile, hni, if_false]
      refine okb (ldD_ok h.2.1 (by omega) (by omega)) ?_
      rw [h.2.2 i hi]
      by_cases z : F i = 0
      · refine okt (by rw [z]; rfl) ?_
        simp only [ok_letv, ok_some, nI_add]
        exact Or.inl ⟨_, rfl, rfl, fsN_miss e (by simp [nzB, z])⟩
      · refine okf (by rw [ieq0 (by omega)]; exact z) ?_
        rw [ok_some]
        have := fsN_hit e (show nzB F i = true by simp [nzB, z]) _ hi
        exact Or.inr ⟨_, rfl, Or.inl ⟨by omega, by rw [this]⟩⟩
    · rintro _ ⟨rfl, e⟩
      simp only [sh_X5_firstNotZero_s2, hpl, bsome, le_nI, if_true, ok_some]
      exact ⟨_, rfl, Or.inr ⟨by omega, rfl⟩⟩
  obtain ⟨x, hx, ⟨e, rfl⟩ | ⟨e, rfl⟩⟩ := key
  · simp only [sh_X5_firstNotZero, hx, bsome, Sum.elim, frI, e, if_true]
  · simp only [sh_X5_firstNotZero, hx, bsome, Sum.elim, frI, e, if_false]
theorem xTg5 {t n c : Nat} {F : Nat → Nat} {w : WX} (hc : c ≤ 3) (hn : n ≤ 6) (hF : ∀ q, F q < 9973) (h : SfX t n c F w) : sh_X5_together t w = some (nI (tgS F (n ^ c))) := by
  have hpc := pw_le hn hc
  have hpl := xPl hc h
  have key : Ok (lpw (sh_X5_together_s4 t w) FU (nI 0, nI 0)) (fun x => x = nI (tgS F (n ^ c))) := by
    refine ok_for (n ^ c) (fun i st => st = (nI (tgS F i), nI i)) rfl ?_ ?_ (by omega)
    · rintro i _ hi rfl
      have hni : ¬ n ^ c ≤ i := by omega
      have hFi := hF i
      simp (disch := omega) only [sh_X5_together_s4, hpl, bsome, ile, hni, if_false]
      refine okb (ldD_ok h.2.1 (by omega) (by omega)) ?_
      rw [h.2.2 i hi]
      refine okb (xPT (md_lt _) (by omega) hFi) ?_
      simp only [ok_letv, ok_some, inl_ex, nI_add, tgS, sumN, Nat.one_mul, Nat.mod_add_mod]
    · rintro _ rfl
      simp only [sh_X5_together_s4, hpl, bsome, le_nI, if_true, ok_some, inr_ex]
  obtain ⟨x, hx, rfl⟩ := key
  simp only [sh_X5_together, hx, bsome]
theorem mTg5 {n c : Nat} {F : Nat → Nat} {w : Mem} (hc : c ≤ 3) (hn : n ≤ 6) (hF : ∀ q, F q < 9973) (h : SfM n c F w) : sh_X9_together w = some (nI (tgS F (n ^ c))) := by
  have hpc := pw_le hn hc
  have key : Ok (lpw (sh_X9_together_s4 w) FU (nI 0, nI 0)) (fun x => x = nI (tgS F (n ^ c))) := by
    refine ok_for (n ^ c) (fun i st => st = (nI (tgS F i), nI i)) rfl ?_ ?_ (by omega)
    · rintro i _ hi rfl
      have hni : ¬ n ^ c ≤ i := by omega
      have hFi := hF i
      have hm : tgS F i < 9973 := md_lt _
      simp (disch := omega) only [sh_X9_together_s4, h.1, ile, hni, if_false]
      refine okb (ldS_ok (by omega) (by omega)) ?_
      rw [h.2 i hi, nI_add, irem (by omega) (by omega) (by omega)]
      simp only [ok_letv, ok_some, inl_ex, nI_add, tgS, sumN, Nat.mod_add_mod]
    · rintro _ rfl
      simp only [sh_X9_together_s4, h.1, le_nI, if_true, ok_some, inr_ex]
  obtain ⟨x, hx, rfl⟩ := key
  simp only [sh_X9_together, hx, bsome]
theorem fsN_all {Z : Nat → Bool} : ∀ b, (∀ i, i < b → Z i = false) → fsN Z b = b
  | 0, _ => rfl
  | b + 1, h => fsN_miss (fsN_all b fun i hi => h i (by omega)) (by rw [h b (by omega)]; simp)
/-- the reference counts downward -/
theorem mTot {n c : Nat} {x3 : Int32} {F : Nat → Nat} {w : Mem} (hc : c ≤ 3) (hn : n ≤ 6) (hF : ∀ q, F q < 9973) (h : SfM n c F w) : lpw (sh_X9_total_s38 x3 w) FU (nI 0, (-5 : Int32), nI (n ^ c) - nI 1) = some (nI (nzN F (n ^ c)), frI F (n ^ c)) := by
  have hpc := pw_le hn hc
  obtain ⟨N, hN⟩ : ∃ N, N = n ^ c := ⟨_, rfl⟩
  obtain ⟨h1, h2⟩ := h
  rw [← hN] at h1 h2 hpc ⊢
  have key : Ok (lpw (sh_X9_total_s38 x3 w) FU (nI 0, (-5 : Int32), nI N - nI 1)) (fun x => x = (nI (nzN F N), frI F N)) := by
    refine ok_for N (fun i st => ∃ m v, st = (nI m, v, nI (N - i) - nI 1) ∧ m + nzN F (N - i) = nzN F N ∧ ((v = (-5 : Int32) ∧ ∀ j, N - i ≤ j → j < N → F j = 0) ∨ ∃ j, N - i ≤ j ∧ j < N ∧ v = nI j ∧ ¬ F j = 0 ∧ ∀ l, N - i ≤ l → l < j → F l = 0)) ⟨0, -5, rfl, by rw [Nat.sub_zero, Nat.zero_add], Or.inl ⟨rfl, fun j a b => by omega⟩⟩ ?_ ?_ (by omega)
    · rintro i _ hi ⟨m, v, rfl, e1, e2⟩
      obtain ⟨d, hd⟩ : ∃ d, N - i = d + 1 := ⟨N - i - 1, by omega⟩
      have hd2 : N - (i + 1) = d := by omega
      have hdN : d < N := by omega
      have hFd := hF d
      have hnz := nzN_le (F := F) (N := N)
      have hsub : nI d + (-1 : Int32) = nI d - nI 1 := by rw [show nI 1 = 1 from rfl, Int32.sub_eq_add_neg]
      rw [hd] at e1 e2 ⊢
      rw [hd2, isub (by omega), Nat.add_sub_cancel]
      simp (disch := omega) only [sh_X9_total_s38, ilt0, if_false]
      refine okb (ldS_ok (by omega) (by omega)) ?_
      rw [h2 d hdN]
      have hs : nzN F (d + 1) = nzN F d + if F d = 0 then 0 else 1 := rfl
      by_cases z : F d = 0
      · rw [if_pos z] at hs
        refine okt (by rw [z]; rfl) ?_
        unfold sh_X9_total_j60
        rw [nI_add, ok_letv]
        refine okb (ldS_ok (by omega) (by omega)) ?_
        rw [h2 d hdN]
        refine okt (by rw [z]; rfl) ?_
        rw [hsub]
        simp only [ok_letv, ok_some, inl_ex]
        refine ⟨m + 0, v, rfl, by omega, ?_⟩
        rcases e2 with ⟨a, b⟩ | ⟨j, a, b, c, e, g⟩
        · refine Or.inl ⟨a, fun j q1 q2 => ?_⟩
          by_cases y : j = d
          · rw [y]; exact z
          · exact b j (by omega) q2
        · refine Or.inr ⟨j, by omega, b, c, e, fun l q1 q2 => ?_⟩
          by_cases y : l = d
          · rw [y]; exact z
          · exact g l (by omega) q2
      · rw [if_neg z] at hs
        refine okf (by rw [ieq0 (by omega)]; exact z) ?_
        unfold sh_X9_total_j60
        rw [nI_add, ok_letv]
        refine okb (ldS_ok (by omega) (by omega)) ?_
        rw [h2 d hdN]
        refine okf (by rw [ieq0 (by omega)]; exact z) ?_
        rw [hsub]
        simp only [ok_letv, ok_some, inl_ex]
        exact ⟨m + 1, nI d, rfl, by omega, Or.inr ⟨d, Nat.le_refl _, hdN, rfl, z, fun l q1 q2 => by omega⟩⟩
    · rintro _ ⟨m, v, rfl, e1, e2⟩
      rw [Nat.sub_self] at e1 e2 ⊢
      have hm1 : (nI 0 - nI 1 < 0) = True := eq_true (pk_sneg (by omega) (by omega))
      simp only [sh_X9_total_s38, hm1, if_true, ok_some, inr_ex]
      have hm : m = nzN F N := by rw [← e1]; rfl
      rw [hm]
      congr 1
      unfold frI
      rcases e2 with ⟨a, b⟩ | ⟨j, a, b, c, e, g⟩
      · rw [fsN_all N fun i hi => by simp [nzB, b i (Nat.zero_le _) hi], if_neg (by omega), a]
      · have e3 := fsN_hit (fsN_all (Z := nzB F) j fun i hi => by simp [nzB, g i (Nat.zero_le _) hi]) (show nzB F j = true by simp [nzB, e]) N b
        rw [e3, if_pos b, c]
  obtain ⟨x, hx, rfl⟩ := key
  exact hx
/-- two rows of sums are the same -/
def saP (c c' : Nat) (F F' : Nat → Nat) (N : Nat) : Prop := c = c' ∧ ∀ q, q < N → F q = F' q
noncomputable def saI (c c' : Nat) (F F' : Nat → Nat) (N : Nat) : Int32 := @ite _ (saP c c' F F' N) (Classical.propDecidable _) (nI 1) (nI 0)
theorem saI_t {c c' : Nat} {F F' : Nat → Nat} {N : Nat} (h : saP c c' F F' N) : saI c c' F F' N = nI 1 := if_pos h
theorem saI_f {c c' : Nat} {F F' : Nat → Nat} {N : Nat} (h : ¬ saP c c' F F' N) : saI c c' F F' N = nI 0 := if_neg h
theorem xSame {t t' n c c' : Nat} {F F' : Nat → Nat} {w : WX} (hc : c ≤ 3) (hc' : c' ≤ 3) (hn : n ≤ 6) (hF : ∀ q, F q < 9973) (hF' : ∀ q, F' q < 9973) (h : SfX t n c F w) (h' : SfX t' n c' F' w) : sh_X5_sameAs t t' w = some (saI c c' F F' (n ^ c)) := by
  have hpc := pw_le hn hc
  have hpl := xPl hc h
  unfold sh_X5_sameAs
  rw [h.1.1, h'.1.1, h.1.2.1, h'.1.2.1]
  by_cases z : c = c'
  · rw [if_pos (by rw [z]), if_pos rfl]
    subst z
    have key : Ok (lpw (sh_X5_sameAs_s26 t t' w) FU (nI 0)) (fun x => ((∀ q, q < n ^ c → F q = F' q) ∧ x = .inr ()) ∨ ((∃ q, q < n ^ c ∧ ¬ F q = F' q) ∧ x = .inl ())) := by
      refine ok_forb (n ^ c) (fun i st => st = nI i ∧ ∀ q, q < i → F q = F' q) ⟨rfl, fun q hq => by omega⟩ ?_ ?_ (by omega)
      · rintro i _ hi ⟨rfl, e⟩
        have hni : ¬ n ^ c ≤ i := by omega
        have hFi := hF i
        have hFi' := hF' i
        simp (disch := omega) only [sh_X5_sameAs_s26, hpl, bsome, ile, hni, if_false]
        refine okb (ldD_ok h.2.1 (by omega) (by omega)) (okb (ldD_ok h'.2.1 (by omega) (by omega)) ?_)
        rw [h.2.2 i hi, h'.2.2 i hi]
        by_cases y : F i = F' i
        · refine okt (by rw [y]) ?_
          simp only [ok_letv, ok_some, nI_add]
          refine Or.inl ⟨_, rfl, rfl, fun q hq => ?_⟩
          by_cases v : q = i
          · rw [v]; exact y
          · exact e q (by omega)
        · refine okf (by rw [ieq (by omega) (by omega)]; exact y) ?_
          rw [ok_some]
          exact Or.inr ⟨_, rfl, Or.inr ⟨⟨i, hi, y⟩, rfl⟩⟩
      · rintro _ ⟨rfl, e⟩
        simp only [sh_X5_sameAs_s26, hpl, bsome, le_nI, if_true, ok_some]
        exact ⟨_, rfl, Or.inl ⟨e, rfl⟩⟩
    obtain ⟨x, hx, ⟨e, rfl⟩ | ⟨⟨q, q1, q2⟩, rfl⟩⟩ := key
    · rw [hx, bsome, saI_t ⟨rfl, e⟩]; rfl
    · rw [hx, bsome, saI_f fun v => q2 (v.2 q q1)]; rfl
  · rw [if_neg (by rw [ieq (by omega) (by omega)]; exact z), saI_f fun v => z v.1]
