/-! the class's algebras: what is asked of them -/
theorem kx_sw {c : Nat} (h : KDx c = (0, 13)) : KDx (c + 8) = (10, 6) ∧ KDx (c + 9) = (10, 6) := (show ∀ c, c < 153 → KDx c = (0, 13) → KDx (c + 8) = (10, 6) ∧ KDx (c + 9) = (10, 6) from by decide +kernel) c (kdx_lt h (by decide)) h
theorem xHas {a k s f n : Nat} {x : Int32} {w : WX} (hn : n < 2147483648) (hF : AlgF a k s f n w) : sh_X0_has a x w = some (if 0 ≤ x.toInt ∧ x.toInt < n then nI 1 else nI 0) := by
  unfold sh_X0_has
  rw [hF.2.2.2]
  by_cases h1 : x < 0
  · rw [if_pos h1, if_neg]
    have := Int32.lt_iff_toInt_lt.mp h1
    simp at this
    omega
  · rw [if_neg h1]
    have h1' : 0 ≤ x.toInt := by
      have := Int32.not_lt.mp h1
      have := Int32.le_iff_toInt_le.mp this
      simpa using this
    by_cases h2 : nI n ≤ x
    · have h2' := Int32.le_iff_toInt_le.mp h2
      rw [nI_toInt hn] at h2'
      rw [if_pos h2, if_neg (by omega)]
    · have h2' := Int32.lt_iff_toInt_lt.mp (Int32.not_le.mp h2)
      rw [nI_toInt hn] at h2'
      rw [if_neg h2, if_pos (by omega)]
theorem nI_some {x : Int32} {n : Nat} (hn : n < 2147483648) (h : 0 ≤ x.toInt ∧ x.toInt < n) : ∃ j, j < n ∧ x = nI j := by
  refine ⟨x.toInt.toNat, by omega, ?_⟩
  apply Int32.toInt_inj.mp
  rw [nI_toInt (by omega)]
  omega
theorem xTiP {a k s f i j : Nat} {x : Int32} {w : WX} (hv : VA k s f) (hA : AlgAt a k s f w) (hi : i < eN k s) (hj : j < eN k s) : sh_X0_timesInProduct a (nI i) (nI j) x w = some (if nI (tgN k (eN k s) i j) = x then nI (faN k (eN k s) f i j) else nI 0) := by
  obtain ⟨hF, -, hg, hf, -⟩ := hA
  have hlt := idx_lt (kn_of hv).2.2.1 hi hj
  simp (disch := omega) only [sh_X0_timesInProduct, xAt hF.2.2.2, bsome, ldS_ok hlt, hg.get hi hj, hf.get hi hj]
  split <;> rfl
theorem xFoA {a k s f i j : Nat} {w : WX} (hv : VA k s f) (hA : AlgAt a k s f w) (hi : i < eN k s) (hj : j < eN k s) : sh_X0_formOf a (nI i) (nI j) w = some (nI (foN k (eN k s) f i j)) :=
  xFo (kn_of hv) hA.1 hA.2.1.1 hA.2.2.1 hA.2.2.2.1 hi hj
theorem xTuO {a k s f i j : Nat} {w : WX} (hv : VA k s f) (hA : AlgAt a k s f w) (hi : i < eN k s) (hj : j < eN k s) : sh_X0_turnedOf a (nI i) (nI j) w = some (nI (tuN k (eN k s) f i j)) := by
  have hlt := idx_lt (kn_of hv).2.2.1 hi hj
  simp (disch := omega) only [sh_X0_turnedOf, xAt hA.1.2.2.2, bsome, ldS_ok hlt, hA.2.2.2.2.get hi hj]
def spT (k n f e j q i : Nat) : Nat := if tgN k n e i = j then tuN k n f i q * faN k n f e i else 0
def spN (k n f e j q : Nat) : Nat := sumN n (spT k n f e j q) % 9973
theorem spN_lt {k n f e j q : Nat} : spN k n f e j q < 9973 := md_lt _
theorem xTiS {a k s f e j q : Nat} {w : WX} (hv : VA k s f) (hA : AlgAt a k s f w) (he : e < eN k s) (hj : j < eN k s) (hq : q < eN k s) : sh_X0_timesInSplit a (nI e) (nI j) (nI q) w = some (nI (spN k (eN k s) f e j q)) := by
  have hkn := kn_of hv
  have h4 := hkn.2.2.1
  obtain ⟨hF, -, hg, hf, hT⟩ := hA
  generalize hn : eN k s = n at *
  have key : Ok (lpw (sh_X0_timesInSplit_s6 a (nI e) (nI j) (nI q) w) FU (nI 0, nI 0)) (fun x => x = nI (spN k n f e j q)) := by
    refine ok_for n (fun i st => st = (nI (sumN i (spT k n f e j q) % 9973), nI i)) rfl ?_ ?_ (by omega)
    · rintro i _ hi rfl
      have hni : ¬ n ≤ i := by omega
      have htg := tgN_lt hkn he hi
      have e1 := xPT (a := tuN k n f i q) (b := faN k n f e i) (md_lt (sumN i (spT k n f e j q))) tuN_lt (faN_lt hkn)
      simp (disch := omega) only [sh_X0_timesInSplit_s6, hF.2.2.2, ile, hni, if_false, xAt hF.2.2.2, bsome, ldS_ok (idx_lt h4 he hi), hg.get he hi, hf.get he hi, ldS_ok (idx_lt h4 hi hq), hT.get hi hq, ieq, e1, letv_eq, nI_add]
      split
      · rename_i e2
        simp only [ok_some, inl_ex, sumN, spT, e2, if_true, Nat.mod_add_mod]
      · rename_i e2
        simp only [ok_some, inl_ex, sumN, spT, e2, if_false, Nat.add_zero]
    · rintro _ rfl
      simp (disch := omega) only [sh_X0_timesInSplit_s6, hF.2.2.2, ile, Nat.le_refl, if_true, ok_some, inr_ex]
      rfl
  obtain ⟨x, hx, rfl⟩ := key
  simp only [sh_X0_timesInSplit, hx, bsome]
/-! closed sums -/
def muT (k n f : Nat) (S b : Nat → Nat) (q i j : Nat) : Nat := if tgN k n i j = q then S i * b j % 9973 * faN k n f i j else 0
def muN (k n f : Nat) (b S : Nat → Nat) (q : Nat) : Nat := sumN n (fun i => sumN n (muT k n f S b q i)) % 9973
def itN (g : (Nat → Nat) → Nat → Nat) : Nat → (Nat → Nat) → Nat → Nat
  | 0, S => S
  | m + 1, S => g (itN g m S)
def clS (k n f h c : Nat) : Nat → Nat := itN (muN k n f (crN k n f)) c (itN (muN k n f (hdN k n f)) h (onN k))
def clN (k n f h c : Nat) : Nat := sumN n (fun i => clS k n f h c i * trN k n f i) % 9973
theorem muN_lt {k n f : Nat} {b S : Nat → Nat} {q : Nat} : muN k n f b S q < 9973 := md_lt _
theorem itN_lt {k n f : Nat} {b S : Nat → Nat} (hS : ∀ q, S q < 9973) : ∀ m q, itN (muN k n f b) m S q < 9973
  | 0, q => hS q
  | _ + 1, _ => muN_lt
theorem onN_lt9 {k : Nat} : ∀ q, onN k q < 9973 := fun q => Nat.lt_trans onN_lt (by decide)
theorem clS_lt {k n f h c : Nat} : ∀ q, clS k n f h c q < 9973 := itN_lt (itN_lt onN_lt9 h) c
/-- the two scratch rows of an algebra -/
def SwA (a : Nat) (r : Rf) : Prop := (r a 11 = a + 8 ∧ r a 12 = a + 9) ∨ (r a 11 = a + 9 ∧ r a 12 = a + 8)
theorem xMul {a c k s f : Nat} {S b : Nat → Nat} {w : WX} (hk : KDx a = (0, 13)) (hc : c = a + 6 ∨ c = a + 7) (hv : VA k s f) (hA : AlgAt a k s f w) (hw : SwA a w.2) (hS : Rw (w.1 (w.2 a 11)) S (eN k s)) (hS9 : ∀ q, S q < 9973) (hb : Rw (w.1 c) b (eN k s)) (hb9 : ∀ q, b q < 9973) :
    Ok (sh_X0_multiplyStanding a c w) (fun w' => w'.2 a 11 = w.2 a 12 ∧ w'.2 a 12 = w.2 a 11 ∧ (∀ q, q ≠ a → w'.2 q = w.2 q) ∧ (∀ q, q ≠ w.2 a 12 → w'.1 q = w.1 q) ∧ Rw (w'.1 (w.2 a 12)) (muN k (eN k s) f b S) (eN k s)) := by
  have hkn := kn_of hv
  have h4 := hkn.2.2.1
  obtain ⟨hF, -, hg, hf, -⟩ := hA
  have hcx : KDx c = (10, 6) := by
    rcases hc with rfl | rfl
    · exact kx_0_9 hk
    · exact kx_0_10 hk
  obtain ⟨hx8, hx9⟩ := kx_sw hk
  obtain ⟨x, hx⟩ : ∃ x, x = w.2 a 11 := ⟨_, rfl⟩
  obtain ⟨y, hy⟩ : ∃ y, y = w.2 a 12 := ⟨_, rfl⟩
  have hxy : (x = a + 8 ∧ y = a + 9) ∨ (x = a + 9 ∧ y = a + 8) := by rw [hx, hy]; exact hw
  have hkx : KDx x = (10, 6) := by rcases hxy with h | h <;> rw [h.1] <;> assumption
  have hky : KDx y = (10, 6) := by rcases hxy with h | h <;> rw [h.2] <;> assumption
  rw [← hx] at hS
  generalize hn : eN k s = n at *
  simp only [sh_X0_multiplyStanding, ok_bind, ok_letv, ok_some]
  -- the first loop: the spare row is 0
  refine (ok_for n (fun i st => ∃ w' : WX, st = (nI i, w') ∧ w'.2 = w.2 ∧ (∀ q, q ≠ y → w'.1 q = w.1 q) ∧ Rw (w'.1 y) (fun _ => 0) i) (P := fun w' => w'.2 = w.2 ∧ (∀ q, q ≠ y → w'.1 q = w.1 q) ∧ Ac (w'.1 y) n (fun q => sumN 0 (fun p => sumN n (muT k n f S b q p)))) ⟨w, rfl, rfl, fun _ _ => rfl, Rw.zero⟩ ?_ ?_ (by omega)).mono fun w1 h1 => ?_
  · rintro i _ hi ⟨w1, rfl, hr, ho, hz⟩
    have hni : ¬ n ≤ i := by omega
    have hF1 : AlgF a k s f n w1 := hF.to (ho a (by omega))
    simp (disch := omega) only [sh_X0_multiplyStanding_s2, hF1.2.2.2, ile, hni, if_false, ok_bind, hr, ← hy]
    refine ok_stDX hky (by omega) (by omega) fun w2 f1 f2 f3 f4 => ?_
    simp only [ok_letv, ok_some, inl_ex, nI_add]
    exact ⟨w2, rfl, f4.trans hr, fun q hq => (f1 q hq).trans (ho q hq), hz.put f2 f3⟩
  · rintro _ ⟨w1, rfl, hr, ho, hz⟩
    have hF1 : AlgF a k s f n w1 := hF.to (ho a (by omega))
    simp (disch := omega) only [sh_X0_multiplyStanding_s2, hF1.2.2.2, ile, Nat.le_refl, if_true, ok_some, inr_ex]
    exact ⟨hr, ho, fun q hq => hz q hq⟩
  · refine (ok_for n (fun i st => ∃ w' : WX, st = (nI i, w') ∧ w'.2 = w.2 ∧ (∀ q, q ≠ y → w'.1 q = w.1 q) ∧ Ac (w'.1 y) n (fun q => sumN i (fun p => sumN n (muT k n f S b q p)))) (P := fun w' => w'.2 = w.2 ∧ (∀ q, q ≠ y → w'.1 q = w.1 q) ∧ Ac (w'.1 y) n (fun q => sumN n (fun p => sumN n (muT k n f S b q p)))) ⟨w1, rfl, h1⟩ ?_ ?_ (by omega)).mono fun w2 h2 => ?_
    · rintro i _ hi ⟨w2, rfl, hr, ho, hz⟩
      have hni : ¬ n ≤ i := by omega
      have hF2 : AlgF a k s f n w2 := hF.to (ho a (by omega))
      simp (disch := omega) only [sh_X0_multiplyStanding_s25, hF2.2.2.2, ile, hni, if_false, ok_bind]
      refine (ok_for n (fun j st => ∃ w' : WX, st = (nI j, w') ∧ w'.2 = w.2 ∧ (∀ q, q ≠ y → w'.1 q = w.1 q) ∧ Ac (w'.1 y) n (fun q => sumN i (fun p => sumN n (muT k n f S b q p)) + sumN j (muT k n f S b q i))) (P := fun w' => w'.2 = w.2 ∧ (∀ q, q ≠ y → w'.1 q = w.1 q) ∧ Ac (w'.1 y) n (fun q => sumN i (fun p => sumN n (muT k n f S b q p)) + sumN n (muT k n f S b q i))) ⟨w2, rfl, hr, ho, hz⟩ ?_ ?_ (by omega)).mono fun w3 h3 => ?_
      · rintro j _ hj ⟨w3, rfl, hr, ho, hz⟩
        have hnj : ¬ n ≤ j := by omega
        have hF3 : AlgF a k s f n w3 := hF.to (ho a (by omega))
        have hlt := idx_lt h4 hi hj
        have htg := tgN_lt hkn hi hj
        have v1 : w3.1 (a + 1) (i * n + j) = nI (tgN k n i j) := by rw [ho _ (by omega)]; exact hg.get hi hj
        have v2 : w3.1 (a + 2) (i * n + j) = nI (faN k n f i j) := by rw [ho _ (by omega)]; exact hf.get hi hj
        have v3 : w3.1 x i = nI (S i) := by rw [ho _ (by omega)]; exact hS i hi
        have v4 : w3.1 c j = nI (b j) := by rw [ho _ (by omega)]; exact hb j hj
        obtain ⟨Z, hZ⟩ : ∃ Z, Z = sumN i (fun p => sumN n (muT k n f S b (tgN k n i j) p)) + sumN j (muT k n f S b (tgN k n i j) i) := ⟨_, rfl⟩
        have v5 : w3.1 y (tgN k n i j) = nI (Z % 9973) := by rw [hZ]; exact hz _ htg
        have e1 := xPT (n := 0) (a := S i) (b := b j) (by omega) (hS9 i) (hb9 j)
        rw [Nat.zero_add] at e1
        have e2 := xPT (a := S i * b j % 9973) (b := faN k n f i j) (md_lt Z) (md_lt _) (faN_lt hkn)
        simp (disch := omega) only [sh_X0_multiplyStanding_s35, hF3.2.2.2, ile, hnj, if_false, xAt hF3.2.2.2, bsome, ldS_ok hlt, v1, v2, hr, ← hx, ← hy, ldD_ok hkx (show i < 6 by omega), ldD_ok hcx (show j < 6 by omega), ldD_ok hky (show tgN k n i j < 6 by omega), v3, v4, v5, e1, e2, ok_bind]
        refine ok_stDX hky (by omega) (by omega) fun w4 f1 f2 f3 f4 => ?_
        simp only [ok_letv, ok_some, inl_ex, nI_add]
        rw [hZ] at f3
        refine ⟨w4, rfl, f4.trans hr, fun q hq => (f1 q hq).trans (ho q hq), hz.put f2 f3 (fun q => ?_)⟩
        simp only [sumN, muT]
        omega
      · rintro _ ⟨w3, rfl, hr, ho, hz⟩
        have hF3 : AlgF a k s f n w3 := hF.to (ho a (by omega))
        simp (disch := omega) only [sh_X0_multiplyStanding_s35, hF3.2.2.2, ile, Nat.le_refl, if_true, ok_some, inr_ex]
        exact ⟨hr, ho, hz⟩
      · simp only [ok_letv, ok_some, inl_ex, nI_add]
        exact ⟨w3, rfl, h3.1, h3.2.1, h3.2.2⟩
    · rintro _ ⟨w2, rfl, hr, ho, hz⟩
      have hF2 : AlgF a k s f n w2 := hF.to (ho a (by omega))
      simp (disch := omega) only [sh_X0_multiplyStanding_s25, hF2.2.2.2, ile, Nat.le_refl, if_true, ok_some, inr_ex]
      exact ⟨hr, ho, hz⟩
    · obtain ⟨hr, ho, hz⟩ := h2
      rw [← hy, hr, ← hx]
      refine ⟨?_, ?_, ?_, ho, hz⟩
      · simp [pXr, rset, hr, hy]
      · simp [pXr, rset, hx]
      · intro q hq
        simp [pXr, rset_ncf hq, hr]
theorem SwA.of {a : Nat} {r r' : Rf} (h : SwA a r) (h1 : r' a 11 = r a 12) (h2 : r' a 12 = r a 11) : SwA a r' := by
  unfold SwA
  rw [h1, h2]
  rcases h with h | h
  · exact Or.inr ⟨h.2, h.1⟩
  · exact Or.inl ⟨h.2, h.1⟩
/-- what closedBy leaves of the world as it was -/
def ScA (a : Nat) (w w' : WX) : Prop := (∀ q, q ≠ a + 8 → q ≠ a + 9 → w'.1 q = w.1 q) ∧ (∀ q, q ≠ a → w'.2 q = w.2 q) ∧ SwA a w'.2
theorem ScA.alg {a k s f : Nat} {w w' : WX} (h : ScA a w w') (hA : AlgAt a k s f w) : AlgAt a k s f w' := hA.to fun q h1 h2 => h.1 q (by omega) (by omega)
theorem xPow {a c k s f m : Nat} {S b : Nat → Nat} {w0 w : WX} {g : Int32 × WX → Option ((Int32 × WX) ⊕ WX)} (hk : KDx a = (0, 13)) (hc : c = a + 6 ∨ c = a + 7) (hv : VA k s f) (hA : AlgAt a k s f w0) (hw : ScA a w0 w) (hS : Rw (w.1 (w.2 a 11)) S (eN k s)) (hS9 : ∀ q, S q < 9973) (hb : Rw (w0.1 c) b (eN k s)) (hb9 : ∀ q, b q < 9973) (hm : m < 1000)
    (hg : ∀ i (w : WX), g (nI i, w) = if nI m ≤ nI i then some (Sum.inr w) else Option.bind (sh_X0_multiplyStanding a c w) (fun w2 => letv (nI i + nI 1) (fun v3 => some (Sum.inl (v3, w2))))) :
    Ok (lpw g FU (nI 0, w)) (fun w' => ScA a w0 w' ∧ Rw (w'.1 (w'.2 a 11)) (itN (muN k (eN k s) f b) m S) (eN k s)) := by
  refine ok_for m (fun i st => ∃ w' : WX, st = (nI i, w') ∧ ScA a w0 w' ∧ Rw (w'.1 (w'.2 a 11)) (itN (muN k (eN k s) f b) i S) (eN k s)) ⟨w, rfl, hw, hS⟩ ?_ ?_ hm
  · rintro i _ hi ⟨w1, rfl, hs, hR⟩
    have hni : ¬ m ≤ i := by omega
    simp (disch := omega) only [hg, ile, hni, if_false, ok_bind]
    refine (xMul hk hc hv (hs.alg hA) hs.2.2 hR (itN_lt hS9 i) (by rw [hs.1 _ (by omega) (by omega)]; exact hb) hb9).mono fun w2 h2 => ?_
    obtain ⟨e1, e2, e3, e4, e5⟩ := h2
    simp only [ok_letv, ok_some, inl_ex, nI_add]
    refine ⟨w2, rfl, ⟨fun q h1 h2 => ?_, fun q hq => (e3 q hq).trans (hs.2.1 q hq), hs.2.2.of e1 e2⟩, by rw [e1]; exact e5⟩
    rw [e4 q (by rcases hs.2.2 with h | h <;> rw [h.2] <;> assumption)]
    exact hs.1 q h1 h2
  · rintro _ ⟨w1, rfl, hs, hR⟩
    simp only [hg, show (nI m ≤ nI m) = True from eq_true (Int32.le_refl _), if_true, ok_some, inr_ex]
    exact ⟨hs, hR⟩
theorem xClo {a k s f h c : Nat} {w : WX} (hk : KDx a = (0, 13)) (hv : VA k s f) (hA : AlgAt a k s f w) (hw : SwA a w.2) (hh : h < 1000) (hc : c < 1000) : Ok (sh_X0_closedBy a (nI h) (nI c) w) (fun r => r.1 = nI (clN k (eN k s) f h c) ∧ ScA a w r.2) := by
  have hkn := kn_of hv
  have h4 := hkn.2.2.1
  obtain ⟨hx8, hx9⟩ := kx_sw hk
  have hT := hA.2.1
  simp only [sh_X0_closedBy, ok_bind, ok_some]
  refine (ok_for (eN k s) (fun i st => ∃ w' : WX, st = (nI i, w') ∧ w'.2 = w.2 ∧ (∀ q, q ≠ w.2 a 11 → w'.1 q = w.1 q) ∧ Rw (w'.1 (w.2 a 11)) (onN k) i) (P := fun w' => ScA a w w' ∧ Rw (w'.1 (w'.2 a 11)) (onN k) (eN k s)) ⟨w, rfl, rfl, fun _ _ => rfl, Rw.zero⟩ ?_ ?_ (by omega)).mono fun w1 h1 => ?_
  · rintro i _ hi ⟨w1, rfl, hr, ho, hz⟩
    have hni : ¬ eN k s ≤ i := by omega
    have hxa : w.2 a 11 = a + 8 ∨ w.2 a 11 = a + 9 := by rcases hw with q | q; exact Or.inl q.1; exact Or.inr q.1
    have hF1 : AlgF a k s f (eN k s) w1 := hA.1.to (ho a (by omega))
    have hkx : KDx (w.2 a 11) = (10, 6) := by rcases hxa with q | q <;> rw [q] <;> assumption
    have v1 : w1.1 (a + 5) i = nI (onN k i) := by rw [ho _ (by omega)]; exact hT.2.1 i hi
    simp (disch := omega) only [sh_X0_closedBy_s2, hF1.2.2.2, ile, hni, if_false, ldS_ok (show i < 6 by omega), bsome, v1, hr, ok_bind]
    refine ok_stDX hkx (by omega) (by omega) fun w2 f1 f2 f3 f4 => ?_
    simp only [ok_letv, ok_some, inl_ex, nI_add]
    exact ⟨w2, rfl, f4.trans hr, fun q hq => (f1 q hq).trans (ho q hq), hz.put f2 f3⟩
  · rintro _ ⟨w1, rfl, hr, ho, hz⟩
    have hxa : w.2 a 11 = a + 8 ∨ w.2 a 11 = a + 9 := by rcases hw with q | q; exact Or.inl q.1; exact Or.inr q.1
    have hF1 : AlgF a k s f (eN k s) w1 := hA.1.to (ho a (by omega))
    simp (disch := omega) only [sh_X0_closedBy_s2, hF1.2.2.2, ile, Nat.le_refl, if_true, ok_some, inr_ex]
    exact ⟨⟨fun q h1 h2 => ho q (by omega), fun q _ => by rw [hr], by rw [hr]; exact hw⟩, by rw [hr]; exact hz⟩
  · refine (xPow (m := h) (b := hdN k (eN k s) f) hk (Or.inl rfl) hv hA h1.1 h1.2 onN_lt9 hT.2.2.1 (fun _ => hdN_lt) hh (fun i w => rfl)).mono fun w2 h2 => ?_
    refine (xPow (m := c) (b := crN k (eN k s) f) hk (Or.inr rfl) hv hA h2.1 h2.2 (itN_lt onN_lt9 h) hT.2.2.2 (fun _ => crN_lt) hc (fun i w => rfl)).mono fun w3 h3 => ?_
    obtain ⟨hs, hR⟩ := h3
    have hxa : w3.2 a 11 = a + 8 ∨ w3.2 a 11 = a + 9 := by rcases hs.2.2 with q | q; exact Or.inl q.1; exact Or.inr q.1
    have hkx : KDx (w3.2 a 11) = (10, 6) := by rcases hxa with q | q <;> rw [q] <;> assumption
    have hA3 := hs.alg hA
    refine (ok_for (eN k s) (fun i st => st = (nI (sumN i (fun i => clS k (eN k s) f h c i * trN k (eN k s) f i) % 9973), nI i)) (P := fun x => x = nI (clN k (eN k s) f h c)) rfl ?_ ?_ (by omega)).mono fun x hx => ⟨hx, hs⟩
    · rintro i _ hi rfl
      have hni : ¬ eN k s ≤ i := by omega
      have e1 := xPT (a := clS k (eN k s) f h c i) (b := trN k (eN k s) f i) (md_lt (sumN i (fun i => clS k (eN k s) f h c i * trN k (eN k s) f i))) (clS_lt i) (Nat.lt_trans (trN_lt hkn hi) (by omega))
      have v1 : w3.1 (w3.2 a 11) i = nI (clS k (eN k s) f h c i) := hR i hi
      simp (disch := omega) only [sh_X0_closedBy_s75, hA3.1.2.2.2, ile, hni, if_false, ldD_ok hkx (show i < 6 by omega), bsome, v1, ldS_ok (show i < 6 by omega), hA3.2.1.1 i hi, e1, ok_letv, ok_some, inl_ex, nI_add, sumN, Nat.mod_add_mod]
    · rintro _ rfl
      simp (disch := omega) only [sh_X0_closedBy_s75, hA3.1.2.2.2, ile, Nat.le_refl, if_true, ok_some, inr_ex]
      rfl
/-- whether an exchange of two elements turns the sign: odd numbers of bits, of elements below 4 -/
def odB (i : Nat) : Bool := i == 1 || i == 2
theorem xOdB : ∀ i, i < 4 → (Option.bind (sh_J6_bitCount_0f7a4 (nI i)) fun v => sh_X8_isOdd v) = some (if odB i then nI 1 else nI 0) := by decide +kernel
theorem xTsg {a k s f i j : Nat} {w : WX} (hv : VA k s f) (hF : AlgF a k s f (eN k s) w) (hi : i < eN k s) (hj : j < eN k s) : sh_X0_turnsSign a (nI i) (nI j) w = some (if k = 4 ∧ odB i = true ∧ odB j = true then nI 1 else nI 0) := by
  have hkn := kn_of hv
  have h1 := hkn.1
  unfold sh_X0_turnsSign
  rw [hF.1]
  by_cases hk : k = 4
  · have h5 := hkn.2.2.2.1 hk
    have oi := xOdB i (by omega)
    have oj := xOdB j (by omega)
    obtain ⟨bi, e1, e2⟩ := of_bind oi
    obtain ⟨bj, e3, e4⟩ := of_bind oj
    simp (disch := omega) only [hk, if_true, e1, bsome, e2, e3, e4, true_and]
    cases odB i <;> cases odB j <;> rfl
  · rw [if_neg (by rw [ieq (by omega) (by omega)]; exact hk), if_neg (fun q => hk q.1)]
