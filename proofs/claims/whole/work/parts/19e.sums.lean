/-! sums: what both count -/
theorem ix1 {u n i e : Nat} (hi : i < u) (he : e < n) : i + u * e < u * n := by
  have : u * (e + 1) ≤ u * n := Nat.mul_le_mul_left u he
  rw [Nat.mul_succ] at this
  omega
theorem ix2 {u n i x y : Nat} (hi : i < u) (hx : x < n) (hy : y < n) : i + u * (x + n * y) < u * (n * n) := ix1 hi (ix1 hx hy)
theorem pw_le {n c : Nat} (hn : n ≤ 6) (hc : c ≤ 3) : n ^ c ≤ 216 := by
  have h1 : n ^ c ≤ 6 ^ c := Nat.pow_le_pow_left hn c
  have h2 : 6 ^ c ≤ 6 ^ 3 := Nat.pow_le_pow_right (by omega) hc
  omega
theorem pw_1 {n c : Nat} (hc : 1 ≤ c) : n ^ c = n ^ (c - 1) * n := by
  rw [← Nat.pow_succ]
  congr 1
  omega
theorem pw_2 {n c : Nat} (hc : 2 ≤ c) : n ^ c = n ^ (c - 2) * (n * n) := by
  rw [pw_1 (c := c) (by omega), pw_1 (c := c - 1) (by omega), Nat.mul_assoc]
  rfl
def sgN (k x y : Nat) : Nat := if k = 4 ∧ odB x = true ∧ odB y = true then 9972 else 1
theorem sgN_lt {k x y : Nat} : sgN k x y < 9973 := by unfold sgN; split <;> omega
def nx0 (k n c : Nat) (F : Nat → Nat) (q e i : Nat) : Nat := if i + n ^ c * e = q then F i * onN k e else 0
def nx1 (k n f u : Nat) (F : Nat → Nat) (q x y i : Nat) : Nat := if i + u * tgN k n x y = q then F (i + u * (x + n * y)) * faN k n f x y else 0
def nx2 (k n f u : Nat) (F : Nat → Nat) (q e x y i : Nat) : Nat := if i + u * (x + n * y) = q then F (i + u * e) * spN k n f e x y else 0
def nx3 (k n f u : Nat) (F : Nat → Nat) (q e i : Nat) : Nat := if i = q then F (i + u * e) * trN k n f e else 0
def nx4 (k n u : Nat) (F : Nat → Nat) (q x y i : Nat) : Nat := if i + u * (y + n * x) = q then F (i + u * (x + n * y)) * sgN k x y else 0
def nx5 (k n f u : Nat) (H : Nat → Nat) (F : Nat → Nat) (q e j i : Nat) : Nat := if i + u * tgN k n e j = q then F (i + u * e) * (faN k n f e j * H j % 9973) else 0
def nxT (k n f c p : Nat) (F : Nat → Nat) (q : Nat) : Nat := match p with
  | 0 => sumN n (fun e => sumN (n ^ c) (nx0 k n c F q e))
  | 1 => sumN n (fun x => sumN n (fun y => sumN (n ^ (c - 2)) (nx1 k n f (n ^ (c - 2)) F q x y)))
  | 2 => sumN n (fun e => sumN n (fun x => sumN n (fun y => sumN (n ^ (c - 1)) (nx2 k n f (n ^ (c - 1)) F q e x y))))
  | 3 => sumN n (fun e => sumN (n ^ (c - 1)) (nx3 k n f (n ^ (c - 1)) F q e))
  | 4 => sumN n (fun x => sumN n (fun y => sumN (n ^ (c - 2)) (nx4 k n (n ^ (c - 2)) F q x y)))
  | 5 => sumN n (fun e => sumN n (fun j => sumN (n ^ (c - 1)) (nx5 k n f (n ^ (c - 1)) (hdN k n f) F q e j)))
  | _ => sumN n (fun e => sumN n (fun j => sumN (n ^ (c - 1)) (nx5 k n f (n ^ (c - 1)) (crN k n f) F q e j)))
def suN (k n f : Nat) (L : List Nat) : Nat → Nat → Nat
  | 0 => fun q => if q = 0 then 1 else 0
  | i + 1 => fun q => nxT k n f (cr (L.take i)) (L.getD i 0) (suN k n f L i) q % 9973
theorem suN_lt {k n f : Nat} {L : List Nat} : ∀ i q, suN k n f L i q < 9973
  | 0, q => by unfold suN; split <;> omega
  | i + 1, q => md_lt _
/-! the class -/
/-- only y has changed -/
def FrS (y : Nat) (w w' : WX) : Prop := (∀ q, q ≠ y → w'.1 q = w.1 q) ∧ w'.2 = w.2
theorem FrS.refl {y : Nat} {w : WX} : FrS y w w := ⟨fun _ _ => rfl, rfl⟩
theorem FrS.trans {y : Nat} {w w1 w2 : WX} (h : FrS y w w1) (g : FrS y w1 w2) : FrS y w w2 := ⟨fun q a => (g.1 q a).trans (h.1 q a), g.2.trans h.2⟩
theorem acLoop {g : Int32 × WX → Option ((Int32 × WX) ⊕ WX)} {y N n : Nat} {w0 w : WX} {S : Nat → Nat} {T : Nat → Nat → Nat} (hn : n < 1000) (h1 : FrS y w0 w) (h2 : Ac (w.1 y) N S)
    (hs : ∀ i w' S', i < n → FrS y w0 w' → Ac (w'.1 y) N S' → Ok (g (nI i, w')) (fun r => ∃ w2, r = .inl (nI (i + 1), w2) ∧ FrS y w0 w2 ∧ Ac (w2.1 y) N (fun q => S' q + T q i)))
    (hx : ∀ w', FrS y w0 w' → g (nI n, w') = some (.inr w')) : Ok (lpw g FU (nI 0, w)) (fun w' => FrS y w0 w' ∧ Ac (w'.1 y) N (fun q => S q + sumN n (T q))) := by
  refine ok_for n (fun i st => ∃ w', st = (nI i, w') ∧ FrS y w0 w' ∧ Ac (w'.1 y) N (fun q => S q + sumN i (T q))) ⟨w, rfl, h1, h2⟩ ?_ ?_ hn
  · rintro i _ hi ⟨w1, rfl, a, b⟩
    refine (hs i w1 _ hi a b).mono fun r hr => ?_
    obtain ⟨w2, rfl, c, d⟩ := hr
    exact ⟨_, rfl, w2, rfl, c, d.same fun q => by simp only [sumN]; omega⟩
  · rintro _ ⟨w1, rfl, a, b⟩
    rw [hx w1 a, ok_some]
    exact ⟨_, rfl, a, b⟩
def SuC (t a k s f c x y : Nat) (F : Nat → Nat) (w : WX) : Prop := ((w.2 t 0 = x ∧ w.2 t 1 = y) ∧ (KDx x = (10, 216) ∧ KDx y = (10, 216)) ∧ x ≠ y ∧ (t < x ∧ x < t + 3) ∧ t < y ∧ y < t + 3) ∧ AlgAt a k s f w ∧ ((w.1 t 3 = nI c ∧ w.1 t 4 = nI (eN k s)) ∧ ∀ j, j < 4 → w.1 (t + 3) j = nI (eN k s ^ j)) ∧ Rw (w.1 x) F (eN k s ^ c)
theorem SuC.fr {t a k s f c x y : Nat} {F : Nat → Nat} {w w' : WX} (ha : a + 10 ≤ t) (h : SuC t a k s f c x y F w) (g : FrS y w w') : SuC t a k s f c x y F w' := by
  obtain ⟨⟨h1, h2, h3, h4, h5, h6⟩, h7, h8, h9⟩ := h
  refine ⟨⟨by rw [g.2]; exact h1, h2, h3, h4, h5, h6⟩, h7.to fun q a b => g.1 q (by omega), ⟨by rw [g.1 t (by omega)]; exact h8.1, by rw [g.1 (t + 3) (by omega)]; exact h8.2⟩, by rw [g.1 x h3]; exact h9⟩
theorem xAdd5 {t a k s f c x y N b u v : Nat} {F S : Nat → Nat} {w : WX} (h : SuC t a k s f c x y F w) (hN : N ≤ 216) (hb : b < N) (hu : u < 9973) (hv : v < 9973) (hA : Ac (w.1 y) N S) : Ok (sh_X5_add t (nI b) (nI u) (nI v) w) (fun w' => FrS y w w' ∧ Ac (w'.1 y) N (fun q => S q + if b = q then u * v else 0)) := by
  obtain ⟨⟨⟨h1, h2⟩, ⟨h3, h4⟩, -⟩, -⟩ := h
  unfold sh_X5_add
  rw [h2]
  refine okb (ldD_ok h4 (by omega) (by omega)) ?_
  rw [hA b hb]
  refine okb (xPT (md_lt _) hu hv) ?_
  rw [ok_bind]
  refine ok_stDX h4 (by omega) (by omega) fun w1 f1 f2 f3 f4 => ?_
  rw [ok_some]
  exact ⟨⟨f1, f4⟩, hA.put f2 f3 fun q => rfl⟩
theorem xPair {t n u i x y : Nat} {w : WX} (h : w.1 t 4 = nI n) : sh_X5_pair t (nI i) (nI u) (nI x) (nI y) w = some (nI (i + u * (x + n * y))) := by
  unfold sh_X5_pair
  rw [h, pk_mul, nI_add, pk_mul, nI_add]
theorem Ac0 {m : Nat → Int32} {N : Nat} {S S' : Nat → Nat} (h : Ac m N (fun q => 0 + S q)) (e : ∀ q, S q = S' q) : Ac m N S' := h.same fun q => by rw [e, Nat.zero_add]
theorem le_nI (n : Nat) : (nI n ≤ nI n) = True := eq_true (Int32.le_refl _)
theorem xPut0 {t a k s f c x y : Nat} {F : Nat → Nat} {w : WX} (ha : a + 10 ≤ t) (hv : VA k s f) (hc : c < 3) (hF : ∀ q, F q < 9973) (h : SuC t a k s f c x y F w) (h0 : Ac (w.1 y) (eN k s ^ (c + 1)) (fun _ => 0)) : Ok (sh_X5_putOne t a w) (fun w' => FrS y w w' ∧ Ac (w'.1 y) (eN k s ^ (c + 1)) (nxT k (eN k s) f c 0 F)) := by
  have hkn := kn_of hv
  have h4 := hkn.2.2.1
  have hpw := pw_le h4 (show c + 1 ≤ 3 by omega)
  have hpc := pw_le h4 (show c ≤ 3 by omega)
  have hp1 : eN k s ^ (c + 1) = eN k s ^ c * eN k s := Nat.pow_succ _ _
  obtain ⟨h1, h2, ⟨⟨h3, h5⟩, h6⟩, h7⟩ := id h
  generalize hn : eN k s = n at *
  unfold sh_X5_putOne
  rw [h3]
  refine okb (ldS_ok (by omega) (by omega)) ?_
  rw [h6 c (by omega), ok_bind]
  simp only [ok_some]
  refine (acLoop (n := n) (N := n ^ (c + 1)) (y := y) (w0 := w) (S := fun _ => 0) (T := fun q e => sumN (n ^ c) (nx0 k n c F q e)) (by omega) FrS.refl h0 ?_ ?_).mono fun w' hw => ⟨hw.1, Ac0 hw.2 fun q => rfl⟩
  · intro e w1 S1 he g1 A1
    have hh := h.fr ha g1
    have hne : ¬ n ≤ e := by omega
    simp (disch := omega) only [sh_X5_putOne_s12, hh.2.2.1.1.2, hn, ile, hne, if_false, ok_bind]
    refine (acLoop (n := n ^ c) (N := n ^ (c + 1)) (y := y) (w0 := w) (S := S1) (T := fun q i => nx0 k n c F q e i) (by omega) g1 A1 ?_ ?_).mono fun w2 h2' => ?_
    · intro i w2 S2 hi g2 A2
      have hh2 := h.fr ha g2
      have hni : ¬ n ^ c ≤ i := by omega
      simp (disch := omega) only [sh_X5_putOne_s23, ile, hni, if_false]
      rw [hh2.1.1.1]
      refine okb (ldD_ok hh2.1.2.1.1 (by omega) (by omega)) (okb (ldS_ok (by omega) (by omega)) ?_)
      rw [hh2.2.2.2 i (by rw [hn]; exact hi), hh2.2.1.2.1.2.1 e (by rw [hn]; exact he), pk_mul, nI_add, ok_bind]
      refine (xAdd5 hh2 hpw (by rw [hp1]; exact ix1 hi he) (hF i) (onN_lt9 e) A2).mono fun w3 h3' => ?_
      simp only [ok_letv, ok_some, nI_add]
      exact ⟨w3, rfl, g2.trans h3'.1, h3'.2⟩
    · intro w2 g2
      simp only [sh_X5_putOne_s23, le_nI, if_true]
    · simp only [ok_letv, ok_some, nI_add]
      exact ⟨w2, rfl, h2'.1, h2'.2⟩
  · intro w1 g1
    have hh := h.fr ha g1
    simp only [sh_X5_putOne_s12, hh.2.2.1.1.2, hn, le_nI, if_true]
theorem xPut1 {t a k s f c x y : Nat} {F : Nat → Nat} {w : WX} (ha : a + 10 ≤ t) (hv : VA k s f) (hc : c ≤ 3) (hc2 : 2 ≤ c) (hF : ∀ q, F q < 9973) (h : SuC t a k s f c x y F w) (h0 : Ac (w.1 y) (eN k s ^ (c - 1)) (fun _ => 0)) : Ok (sh_X5_putProducts t a w) (fun w' => FrS y w w' ∧ Ac (w'.1 y) (eN k s ^ (c - 1)) (nxT k (eN k s) f c 1 F)) := by
  have hkn := kn_of hv
  have h4 := hkn.2.2.1
  have hpw := pw_le h4 (show c - 1 ≤ 3 by omega)
  have hpc := pw_le h4 hc
  have hpu := pw_le h4 (show c - 2 ≤ 3 by omega)
  have hp1 : eN k s ^ (c - 1) = eN k s ^ (c - 2) * eN k s := pw_1 (c := c - 1) (by omega)
  have hp2 := pw_2 (n := eN k s) hc2
  obtain ⟨h1, h2, ⟨⟨h3, h5⟩, h6⟩, h7⟩ := id h
  generalize hn : eN k s = n at *
  unfold sh_X5_putProducts
  rw [h3, isub hc2]
  refine okb (ldS_ok (by omega) (by omega)) ?_
  rw [h6 (c - 2) (by omega), ok_bind]
  simp only [ok_some]
  obtain ⟨u, hu⟩ : ∃ u, u = n ^ (c - 2) := ⟨_, rfl⟩
  rw [← hu] at hp1 hp2 hpu ⊢
  refine (acLoop (n := n) (N := n ^ (c - 1)) (y := y) (w0 := w) (S := fun _ => 0) (T := fun q x => sumN n (fun y => sumN u (nx1 k n f u F q x y))) (by omega) FrS.refl h0 ?_ ?_).mono fun w' hw => ⟨hw.1, Ac0 hw.2 fun q => by rw [hu]; rfl⟩
  · intro e w1 S1 he g1 A1
    have hh := h.fr ha g1
    have hne : ¬ n ≤ e := by omega
    simp (disch := omega) only [sh_X5_putProducts_s14, hh.2.2.1.1.2, hn, ile, hne, if_false, ok_bind]
    refine (acLoop (n := n) (N := n ^ (c - 1)) (y := y) (w0 := w) (S := S1) (T := fun q j => sumN u (nx1 k n f u F q e j)) (by omega) g1 A1 ?_ ?_).mono fun w2 h2' => ?_
    · intro j w2 S2 hj g2 A2
      have hh2 := h.fr ha g2
      have hnj : ¬ n ≤ j := by omega
      have hlt := idx_lt h4 he hj
      have htg := tgN_lt hkn he hj
      simp (disch := omega) only [sh_X5_putProducts_s25, hh2.2.2.1.1.2, hn, ile, hnj, if_false]
      refine okb (xAt (show w2.1 a 3 = nI n by rw [← hn]; exact hh2.2.1.1.2.2.2)) ?_
      rw [ok_bind]
      refine (acLoop (n := u) (N := n ^ (c - 1)) (y := y) (w0 := w) (S := S2) (T := fun q i => nx1 k n f u F q e j i) (by omega) g2 A2 ?_ ?_).mono fun w3 h3' => ?_
      · intro i w3 S3 hi g3 A3
        have hh3 := h.fr ha g3
        have hni : ¬ u ≤ i := by omega
        have T1 := hh3.2.1.2.2.1
        have T2 := hh3.2.1.2.2.2.1
        rw [hn] at T1 T2
        have hix := ix2 hi he hj
        simp (disch := omega) only [sh_X5_putProducts_s46, ile, hni, if_false]
        refine okb (ldS_ok hlt (by omega)) (okb (xPair (show w3.1 t 4 = nI n by rw [← hn]; exact hh3.2.2.1.1.2)) ?_)
        rw [hh3.1.1.1]
        refine okb (ldD_ok hh3.1.2.1.1 (by omega) (by omega)) (okb (ldS_ok hlt (by omega)) ?_)
        rw [T1.get he hj, T2.get he hj, hh3.2.2.2 _ (by rw [hn, hp2]; exact hix), pk_mul, nI_add, ok_bind]
        refine (xAdd5 hh3 hpw (by rw [hp1]; exact ix1 hi htg) (hF _) (faN_lt hkn) A3).mono fun w4 h4' => ?_
        simp only [ok_letv, ok_some, nI_add]
        exact ⟨w4, rfl, g3.trans h4'.1, h4'.2⟩
      · intro w3 g3
        simp only [sh_X5_putProducts_s46, le_nI, if_true]
      · simp only [ok_letv, ok_some, nI_add]
        exact ⟨w3, rfl, h3'.1, h3'.2⟩
    · intro w2 g2
      have hh2 := h.fr ha g2
      simp only [sh_X5_putProducts_s25, hh2.2.2.1.1.2, hn, le_nI, if_true]
    · simp only [ok_letv, ok_some, nI_add]
      exact ⟨w2, rfl, h2'.1, h2'.2⟩
  · intro w1 g1
    have hh := h.fr ha g1
    simp only [sh_X5_putProducts_s14, hh.2.2.1.1.2, hn, le_nI, if_true]
theorem xPut3 {t a k s f c x y : Nat} {F : Nat → Nat} {w : WX} (ha : a + 10 ≤ t) (hv : VA k s f) (hc : c ≤ 3) (hc2 : 1 ≤ c) (hF : ∀ q, F q < 9973) (h : SuC t a k s f c x y F w) (h0 : Ac (w.1 y) (eN k s ^ (c - 1)) (fun _ => 0)) : Ok (sh_X5_putTraces t a w) (fun w' => FrS y w w' ∧ Ac (w'.1 y) (eN k s ^ (c - 1)) (nxT k (eN k s) f c 3 F)) := by
  have hkn := kn_of hv
  have h4 := hkn.2.2.1
  have hpw := pw_le h4 (show c - 1 ≤ 3 by omega)
  have hpc := pw_le h4 hc
  have hp1 := pw_1 (n := eN k s) hc2
  obtain ⟨h1, h2, ⟨⟨h3, h5⟩, h6⟩, h7⟩ := id h
  generalize hn : eN k s = n at *
  unfold sh_X5_putTraces
  rw [h3, isub hc2]
  refine okb (ldS_ok (by omega) (by omega)) ?_
  rw [h6 (c - 1) (by omega), ok_bind]
  simp only [ok_some]
  obtain ⟨u, hu⟩ : ∃ u, u = n ^ (c - 1) := ⟨_, rfl⟩
  rw [← hu] at hp1 hpw h0 ⊢
  refine (acLoop (n := n) (N := u) (y := y) (w0 := w) (S := fun _ => 0) (T := fun q e => sumN u (nx3 k n f u F q e)) (by omega) FrS.refl h0 ?_ ?_).mono fun w' hw => ⟨hw.1, Ac0 hw.2 fun q => by rw [hu]; rfl⟩
  · intro e w1 S1 he g1 A1
    have hh := h.fr ha g1
    have hne : ¬ n ≤ e := by omega
    simp (disch := omega) only [sh_X5_putTraces_s14, hh.2.2.1.1.2, hn, ile, hne, if_false, ok_bind]
    refine (acLoop (n := u) (N := u) (y := y) (w0 := w) (S := S1) (T := fun q i => nx3 k n f u F q e i) (by omega) g1 A1 ?_ ?_).mono fun w2 h2' => ?_
    · intro i w2 S2 hi g2 A2
      have hh2 := h.fr ha g2
      have hni : ¬ u ≤ i := by omega
      have hix := ix1 hi he
      have T1 := hh2.2.1.2.1.1
      rw [hn] at T1
      simp (disch := omega) only [sh_X5_putTraces_s25, ile, hni, if_false, pk_mul, nI_add]
      rw [hh2.1.1.1]
      refine okb (ldD_ok hh2.1.2.1.1 (by omega) (by omega)) (okb (ldS_ok (by omega) (by omega)) ?_)
      rw [hh2.2.2.2 _ (by rw [hn, hp1]; exact hix), T1 e he, ok_bind]
      have htr : trN k n f e < 9973 := Nat.lt_trans (trN_lt hkn he) (by omega)
      refine (xAdd5 hh2 hpw hi (hF _) htr A2).mono fun w3 h3' => ?_
      simp only [ok_letv, ok_some, nI_add]
      exact ⟨w3, rfl, g2.trans h3'.1, h3'.2⟩
    · intro w2 g2
      simp only [sh_X5_putTraces_s25, le_nI, if_true]
    · simp only [ok_letv, ok_some, nI_add]
      exact ⟨w2, rfl, h2'.1, h2'.2⟩
  · intro w1 g1
    have hh := h.fr ha g1
    simp only [sh_X5_putTraces_s14, hh.2.2.1.1.2, hn, le_nI, if_true]
