/-! the class's algebras -/
theorem ok_stX {n c i : Nat} {v : Int32} {w : WX} {P : WX → Prop} (hi : i < n) (hn : n < 2147483648) (h : ∀ w' : WX, (∀ q, q ≠ c → w'.1 q = w.1 q) → (∀ j, j ≠ i → w'.1 c j = w.1 c j) → w'.1 c i = v → w'.2 = w.2 → P w') : Ok (stX n c (nI i) v w) P :=
  Ok.of (stX_ok hi hn) (h (mset w.1 c i v, w.2) (fun _ hq => mset_ncf hq) (fun _ hj => mset_ni hj) mset_same rfl)
theorem ok_stDX {n c i : Nat} {v : Int32} {w : WX} {P : WX → Prop} (hk : KDx c = (10, n)) (hi : i < n) (hn : n < 2147483648) (h : ∀ w' : WX, (∀ q, q ≠ c → w'.1 q = w.1 q) → (∀ j, j ≠ i → w'.1 c j = w.1 c j) → w'.1 c i = v → w'.2 = w.2 → P w') : Ok (stDX c (nI i) v w) P :=
  Ok.of (stDX_ok hk hi hn) (h (mset w.1 c i v, w.2) (fun _ hq => mset_ncf hq) (fun _ hj => mset_ni hj) mset_same rfl)
theorem ok_pX {c i : Nat} {v : Int32} {w : WX} {β : Type} {f : WX → Option β} {P : β → Prop} (h : ∀ w' : WX, (∀ q, q ≠ c → w'.1 q = w.1 q) → (∀ j, j ≠ i → w'.1 c j = w.1 c j) → w'.1 c i = v → w'.2 = w.2 → Ok (f w') P) : Ok (letv (pX c i v w) f) P :=
  h (mset w.1 c i v, w.2) (fun _ hq => mset_ncf hq) (fun _ hj => mset_ni hj) mset_same rfl
def OutX (lo hi : Nat) (w w' : WX) : Prop := ∀ q, (q < lo ∨ hi ≤ q) → w'.1 q = w.1 q
theorem OutX.refl {lo hi : Nat} {w : WX} : OutX lo hi w w := fun _ _ => rfl
theorem OutX.trans {lo hi : Nat} {w w1 w2 : WX} (h1 : OutX lo hi w w1) (h2 : OutX lo hi w1 w2) : OutX lo hi w w2 := fun q hq => (h2 q hq).trans (h1 q hq)
theorem OutX.wide {lo hi lo' hi' : Nat} {w w1 : WX} (h : OutX lo hi w w1) (h1 : lo' ≤ lo) (h2 : hi ≤ hi') : OutX lo' hi' w w1 := fun q hq => h q (by omega)
theorem OutX.put {lo hi c : Nat} {w w1 w2 : WX} (h : OutX lo hi w w1) (hc : lo ≤ c ∧ c < hi) (f : ∀ q, q ≠ c → w2.1 q = w1.1 q) : OutX lo hi w w2 := fun q hq => (f q (by omega)).trans (h q hq)
def Rw (m : Nat → Int32) (F : Nat → Nat) (i : Nat) : Prop := ∀ q, q < i → m q = nI (F q)
theorem Rw.zero {m : Nat → Int32} {F : Nat → Nat} : Rw m F 0 := fun _ h => absurd h (by omega)
theorem Rw.put {m m' : Nat → Int32} {F : Nat → Nat} {i : Nat} (h : Rw m F i) (f : ∀ j, j ≠ i → m' j = m j) (hv : m' i = nI (F i)) : Rw m' F (i + 1) := fun q hq => by
  by_cases e : q = i
  · rw [e]; exact hv
  · rw [f q e]; exact h q (by omega)
def Tb (m : Nat → Int32) (st n : Nat) (F : Nat → Nat → Nat) (i j : Nat) : Prop := ∀ p q, p < n → q < n → (p < i ∨ (p = i ∧ q < j)) → m (p * st + q) = nI (F p q)
theorem idx_ne {st n i j p q : Nat} (hs : n ≤ st) (hj : j < n) (hq : q < n) (h : ¬ (p = i ∧ q = j)) : p * st + q ≠ i * st + j := by
  intro e
  apply h
  have h1 : (p * st + q) / st = (i * st + j) / st := by rw [e]
  have hst : 0 < st := by omega
  rw [Nat.mul_comm p, Nat.mul_comm i, Nat.mul_add_div hst, Nat.mul_add_div hst, Nat.div_eq_of_lt (by omega), Nat.div_eq_of_lt (by omega)] at h1
  have hp : p = i := by omega
  subst hp
  exact ⟨rfl, by omega⟩
theorem Tb.zero {m : Nat → Int32} {st n : Nat} {F : Nat → Nat → Nat} : Tb m st n F 0 0 := fun _ _ _ _ h => by omega
theorem Tb.put {m m' : Nat → Int32} {st n i j : Nat} {F : Nat → Nat → Nat} (h : Tb m st n F i j) (hs : n ≤ st) (hj : j < n) (f : ∀ q, q ≠ i * st + j → m' q = m q) (hv : m' (i * st + j) = nI (F i j)) : Tb m' st n F i (j + 1) := fun p q hp hq h1 => by
  by_cases e : p = i ∧ q = j
  · rw [e.1, e.2]; exact hv
  · rw [f _ (idx_ne hs hj hq e)]; exact h p q hp hq (by omega)
theorem Tb.row {m : Nat → Int32} {st n i : Nat} {F : Nat → Nat → Nat} (h : Tb m st n F i n) : Tb m st n F (i + 1) 0 := fun p q hp hq h1 => h p q hp hq (by omega)
theorem Tb.get {m : Nat → Int32} {st n i j : Nat} {F : Nat → Nat → Nat} (h : Tb m st n F n 0) (hi : i < n) (hj : j < n) : m (i * st + j) = nI (F i j) := h i j hi hj (Or.inl hi)
theorem idx_lt {n i j : Nat} (hn : n ≤ 6) (hi : i < n) (hj : j < n) : i * n + j < 36 := by
  have h1 : (i + 1) * n ≤ 6 * 6 := Nat.mul_le_mul (by omega) hn
  rw [Nat.add_mul] at h1
  omega
theorem xAt {a n i j : Nat} {w : WX} (h3 : w.1 a 3 = nI n) : sh_X0_at a (nI i) (nI j) w = some (nI (i * n + j)) := by
  unfold sh_X0_at
  rw [h3, pk_mul, nI_add]
/-- the fields of an algebra -/
def AlgF (a k s f n : Nat) (w : WX) : Prop := w.1 a 0 = nI k ∧ w.1 a 1 = nI s ∧ w.1 a 2 = nI f ∧ w.1 a 3 = nI n
theorem AlgF.to {a k s f n : Nat} {w w' : WX} (h : AlgF a k s f n w) (e : w'.1 a = w.1 a) : AlgF a k s f n w' := by
  unfold AlgF
  rw [e]
  exact h
def AlgI (a k s f n : Nat) (w0 w : WX) (i j i1 : Nat) : Prop := AlgF a k s f n w ∧ w.2 = w0.2 ∧ OutX a (a + 10) w0 w ∧ (Rw (w.1 (a + 4)) (trN k n f) i1 ∧ Rw (w.1 (a + 5)) (onN k) i1) ∧ Tb (w.1 (a + 1)) n n (tgN k n) i j ∧ Tb (w.1 (a + 2)) n n (faN k n f) i j
theorem xMk91 {a k s f n i : Nat} {w0 w : WX} (h : KN k n f) (hi : i < n) (hI : AlgI a k s f n w0 w i 0 (i + 1)) : Ok (lpw (sh_X0_make_s91 a (nI i)) FU (nI 0, w)) (fun w' => AlgI a k s f n w0 w' (i + 1) 0 (i + 1)) := by
  obtain ⟨h1, h2, h4, h5, h6⟩ := id h
  refine ok_for n (fun j st => ∃ w', st = (nI j, w') ∧ AlgI a k s f n w0 w' i j (i + 1)) ⟨w, rfl, hI⟩ ?_ ?_ (by omega)
  · rintro j _ hj ⟨w1, rfl, hF, hr, ho, ht, hg, hf⟩
    have hnj : ¬ n ≤ j := by omega
    have hlt := idx_lt h4 hi hj
    simp (disch := omega) only [sh_X0_make_s91, hF.2.2.2, ile, hnj, if_false, xAt hF.2.2.2, bsome, xTg h hF.1 hF.2.2.2 hi hj, ok_bind, ok_some]
    refine ok_stX hlt (by omega) fun w2 f1 f2 f3 f4 => ?_
    have hF2 := hF.to (f1 a (by omega))
    simp only [xAt hF2.2.2.2, bsome, xFa h hF2.1 hF2.2.2.1 hF2.2.2.2 hi hj, ok_bind, ok_some]
    refine ok_stX hlt (by omega) fun w3 g1 g2 g3 g4 => ?_
    simp only [ok_letv, ok_some, inl_ex, nI_add]
    refine ⟨w3, rfl, hF2.to (g1 a (by omega)), by rw [g4, f4, hr], (ho.put (by omega) f1).put (by omega) g1, ?_, ?_, ?_⟩
    · rw [g1 _ (by omega), g1 _ (by omega), f1 _ (by omega), f1 _ (by omega)]; exact ht
    · rw [g1 _ (by omega)]; exact hg.put (Nat.le_refl n) hj f2 f3
    · exact hf.put (Nat.le_refl n) hj (fun q hq => by rw [g2 q hq, f1 _ (by omega)]) g3
  · rintro _ ⟨w1, rfl, hF, hr, ho, ht, hg, hf⟩
    simp (disch := omega) only [sh_X0_make_s91, hF.2.2.2, ile, Nat.le_refl, if_true, ok_some, inr_ex]
    exact ⟨hF, hr, ho, ht, hg.row, hf.row⟩
theorem xMk34 {a k s f n : Nat} {w0 w : WX} (h : KN k n f) (hI : AlgI a k s f n w0 w 0 0 0) : Ok (lpw (sh_X0_make_s34 a) FU (nI 0, w)) (fun w' => AlgI a k s f n w0 w' n 0 n) := by
  obtain ⟨h1, h2, h4, h5, h6⟩ := id h
  refine ok_for n (fun i st => ∃ w', st = (nI i, w') ∧ AlgI a k s f n w0 w' i 0 i) ⟨w, rfl, hI⟩ ?_ ?_ (by omega)
  · rintro i _ hi ⟨w1, rfl, hF, hr, ho, ⟨ht, hu⟩, hg, hf⟩
    have hni : ¬ n ≤ i := by omega
    simp (disch := omega) only [sh_X0_make_s34, hF.2.2.2, ile, hni, if_false, xTr h hF.1 hF.2.2.1 hF.2.2.2 hi, ok_bind, ok_some]
    refine ok_stX (by omega) (by omega) fun w2 f1 f2 f3 f4 => ?_
    have hF2 := hF.to (f1 a (by omega))
    have key : ∀ v : Int32, v = nI (onN k i) → Ok (sh_X0_make_j87 a (nI i) (a + 5) (nI i) v w2) (fun r => ∃ s', r = .inl s' ∧ ∃ w', s' = (nI (i + 1), w') ∧ AlgI a k s f n w0 w' (i + 1) 0 (i + 1)) := by
      intro v hv
      simp only [sh_X0_make_j87, ok_bind]
      refine ok_stX (by omega) (by omega) fun w3 g1 g2 g3 g4 => ?_
      refine (xMk91 h hi ⟨hF2.to (g1 a (by omega)), by rw [g4, f4, hr], (ho.put (by omega) f1).put (by omega) g1, ⟨?_, ?_⟩, ?_, ?_⟩).mono fun w4 hw4 => ?_
      · rw [g1 _ (by omega)]; exact ht.put f2 f3
      · exact hu.put (fun q hq => by rw [g2 q hq, f1 _ (by omega)]) (g3.trans hv)
      · rw [g1 _ (by omega), f1 _ (by omega)]; exact hg
      · rw [g1 _ (by omega), f1 _ (by omega)]; exact hf
      · simp only [ok_letv, ok_some, inl_ex, nI_add]
        exact ⟨w4, rfl, hw4⟩
    simp (disch := omega) only [hF2.1, ieq0, ieq, sh_X0_make_j82]
    repeat' split
    all_goals
      refine key _ ?_
      unfold onN
      first | rw [if_pos (by omega)] | rw [if_neg (by omega)]
  · rintro _ ⟨w1, rfl, hI⟩
    simp (disch := omega) only [sh_X0_make_s34, hI.1.2.2.2, ile, Nat.le_refl, if_true, ok_some, inr_ex]
    exact hI
theorem xFo {a k s f n i j : Nat} {w : WX} (h : KN k n f) (hF : AlgF a k s f n w) (ht : Rw (w.1 (a + 4)) (trN k n f) n) (hg : Tb (w.1 (a + 1)) n n (tgN k n) n 0) (hf : Tb (w.1 (a + 2)) n n (faN k n f) n 0) (hi : i < n) (hj : j < n) : sh_X0_formOf a (nI i) (nI j) w = some (nI (foN k n f i j)) := by
  have hlt := idx_lt h.2.2.1 hi hj
  have h4 := h.2.2.1
  have htg := tgN_lt h hi hj
  have e1 := xPT (n := 0) (a := faN k n f i j) (b := trN k n f (tgN k n i j)) (by omega) (faN_lt h) (Nat.lt_trans (trN_lt h htg) (by omega))
  simp (disch := omega) only [sh_X0_formOf, xAt hF.2.2.2, bsome, ldS_ok hlt, hf.get hi hj, hg.get hi hj, ldS_ok (show tgN k n i j < 6 by omega), ht _ htg, e1, Nat.zero_add, foN]
def AlgJ (a k s f n : Nat) (w0 w : WX) (i j : Nat) : Prop := AlgI a k s f n w0 w n 0 n ∧ Tb (w.1 (a + 3)) n n (tuN k n f) i j
theorem AlgI.to {a k s f n i j i1 : Nat} {w0 w w' : WX} (h : AlgI a k s f n w0 w i j i1) {c : Nat} (hc : a + 2 < c ∧ c < a + 10 ∧ c ≠ a + 4 ∧ c ≠ a + 5) (g : ∀ q, q ≠ c → w'.1 q = w.1 q) (e : w'.2 = w.2) : AlgI a k s f n w0 w' i j i1 := by
  obtain ⟨hF, hr, ho, ⟨ht, hu⟩, hg, hf⟩ := h
  refine ⟨hF.to (g a (by omega)), e.trans hr, ho.put (by omega) g, ⟨?_, ?_⟩, ?_, ?_⟩
  · rw [g _ (by omega)]; exact ht
  · rw [g _ (by omega)]; exact hu
  · rw [g _ (by omega)]; exact hg
  · rw [g _ (by omega)]; exact hf
theorem xTu {a k s f n : Nat} {w0 w : WX} (h : KN k n f) (hI : AlgI a k s f n w0 w n 0 n) : Ok (sh_X0_makeTurned a w) (fun w' => AlgJ a k s f n w0 w' n 0) := by
  have h4 := h.2.2.1
  simp only [sh_X0_makeTurned, ok_bind, ok_some]
  refine ok_for n (fun i st => ∃ w', st = (nI i, w') ∧ AlgJ a k s f n w0 w' i 0) ⟨w, rfl, hI, Tb.zero⟩ ?_ ?_ (by omega)
  · rintro i _ hi ⟨w1, rfl, hA, hT⟩
    have hni : ¬ n ≤ i := by omega
    simp (disch := omega) only [sh_X0_makeTurned_s2, hA.1.2.2.2, ile, hni, if_false, ok_bind]
    refine (ok_for n (fun j st => ∃ w', st = (nI j, w') ∧ AlgJ a k s f n w0 w' i j) (P := fun w' => AlgJ a k s f n w0 w' i n) ⟨w1, rfl, hA, hT⟩ ?_ ?_ (by omega)).mono fun w2 hw2 => ?_
    · rintro j _ hj ⟨w2, rfl, hA, hT⟩
      have hnj : ¬ n ≤ j := by omega
      have hF := hA.1
      have key : ∀ v : Int32, v = nI (tuN k n f i j) → Ok (sh_X0_makeTurned_j49 a (nI i) (nI j) (a + 3) (nI (i * n + j)) v w2) (fun r => ∃ s', r = .inl s' ∧ ∃ w', s' = (nI (j + 1), w') ∧ AlgJ a k s f n w0 w' i (j + 1)) := by
        intro v hv
        simp only [sh_X0_makeTurned_j49, ok_bind]
        refine ok_stX (idx_lt h4 hi hj) (by omega) fun w3 g1 g2 g3 g4 => ?_
        simp only [ok_letv, ok_some, inl_ex, nI_add]
        exact ⟨w3, rfl, hA.to (by omega) g1 g4, hT.put (Nat.le_refl n) hj g2 (g3.trans hv)⟩
      simp (disch := omega) only [sh_X0_makeTurned_s12, hF.2.2.2, ile, hnj, if_false, xFo h hF hA.2.2.2.1.1 hA.2.2.2.2.1 hA.2.2.2.2.2 hj hi, xAt hF.2.2.2, bsome, ieq0 (show foN k n f j i < 2147483648 from Nat.lt_trans foN_lt (by omega)), xInv (foN_lt (k := k) (n := n) (f := f) (i := j) (j := i))]
      split
      · rename_i e
        exact key _ (by simp [tuN, e])
      · rename_i e
        exact key _ (by simp [tuN, e])
    · rintro _ ⟨w2, rfl, hA, hT⟩
      simp (disch := omega) only [sh_X0_makeTurned_s12, hA.1.2.2.2, ile, Nat.le_refl, if_true, ok_some, inr_ex]
      exact ⟨hA, hT⟩
    · simp only [ok_letv, ok_some, inl_ex, nI_add]
      exact ⟨w2, rfl, hw2.1, hw2.2.row⟩
  · rintro _ ⟨w1, rfl, hA, hT⟩
    simp (disch := omega) only [sh_X0_makeTurned_s2, hA.1.2.2.2, ile, Nat.le_refl, if_true, ok_some, inr_ex]
    exact ⟨hA, hT⟩
/-- accumulators modulo the prime -/
def Ac (m : Nat → Int32) (n : Nat) (F : Nat → Nat) : Prop := ∀ q, q < n → m q = nI (F q % 9973)
theorem Ac.put {m m' : Nat → Int32} {n t v : Nat} {F F' : Nat → Nat} (h : Ac m n F) (ho : ∀ q, q ≠ t → m' q = m q) (hv : m' t = nI ((F t % 9973 + v) % 9973)) (hF : ∀ q, F' q = F q + if t = q then v else 0) : Ac m' n F' := fun q hq => by
  by_cases e : q = t
  · subst e
    rw [hv, hF, if_pos rfl, Nat.mod_add_mod]
  · rw [ho q e, h q hq, hF, if_neg (Ne.symm e), Nat.add_zero]
theorem Ac.same {m : Nat → Int32} {n : Nat} {F F' : Nat → Nat} (h : Ac m n F) (hF : ∀ q, F' q = F q) : Ac m n F' := fun q hq => by rw [hF]; exact h q hq
def AlgK (a k s f n : Nat) (w0 w : WX) (i j i2 : Nat) : Prop := AlgJ a k s f n w0 w n 0 ∧ Ac (w.1 (a + 6)) n (fun q => sumN i (fun p => sumN n (hdT k n f q p)) + sumN j (hdT k n f q i)) ∧ Ac (w.1 (a + 7)) n (fun q => sumN i2 (crT k n f q))
theorem AlgJ.to {a k s f n i j : Nat} {w0 w w' : WX} (h : AlgJ a k s f n w0 w i j) {c : Nat} (hc : c = a + 6 ∨ c = a + 7) (g : ∀ q, q ≠ c → w'.1 q = w.1 q) (e : w'.2 = w.2) : AlgJ a k s f n w0 w' i j := ⟨h.1.to (by omega) g e, by rw [g _ (by omega)]; exact h.2⟩
theorem md_lt (x : Nat) : x % 9973 < 9973 := Nat.mod_lt _ (by decide)
theorem xHC1 {a k s f n : Nat} {w0 w : WX} (h : KN k n f) (hI : AlgJ a k s f n w0 w n 0) : Ok (lpw (sh_X0_makeHandleAndCross_s2 a) FU (nI 0, w)) (fun w' => AlgK a k s f n w0 w' 0 0 0) := by
  have h4 := h.2.2.1
  refine ok_for n (fun i st => ∃ w', st = (nI i, w') ∧ AlgJ a k s f n w0 w' n 0 ∧ Rw (w'.1 (a + 6)) (fun _ => 0) i ∧ Rw (w'.1 (a + 7)) (fun _ => 0) i) (P := fun w' => AlgK a k s f n w0 w' 0 0 0) ⟨w, rfl, hI, Rw.zero, Rw.zero⟩ ?_ ?_ (by omega)
  · rintro i _ hi ⟨w1, rfl, hA, hh, hc⟩
    have hni : ¬ n ≤ i := by omega
    simp (disch := omega) only [sh_X0_makeHandleAndCross_s2, hA.1.1.2.2.2, ile, hni, if_false, ok_bind]
    refine ok_stX (by omega) (by omega) fun w2 f1 f2 f3 f4 => ?_
    refine ok_stX (by omega) (by omega) fun w3 g1 g2 g3 g4 => ?_
    simp only [ok_letv, ok_some, inl_ex, nI_add]
    refine ⟨w3, rfl, (hA.to (Or.inl rfl) f1 f4).to (Or.inr rfl) g1 g4, ?_, ?_⟩
    · rw [g1 _ (by omega)]; exact hh.put f2 f3
    · exact hc.put (fun q hq => by rw [g2 q hq, f1 _ (by omega)]) g3
  · rintro _ ⟨w1, rfl, hA, hh, hc⟩
    simp (disch := omega) only [sh_X0_makeHandleAndCross_s2, hA.1.1.2.2.2, ile, Nat.le_refl, if_true, ok_some, inr_ex]
    exact ⟨hA, fun q hq => hh q hq, fun q hq => hc q hq⟩
theorem xHC2 {a k s f n i : Nat} {w0 w : WX} (h : KN k n f) (hi : i < n) (hw : AlgK a k s f n w0 w i 0 i) : Ok (lpw (sh_X0_makeHandleAndCross_s42 a (nI i)) FU (nI 0, w)) (fun w' => AlgK a k s f n w0 w' i n i) := by
  have h4 := h.2.2.1
  refine ok_for n (fun j st => ∃ w', st = (nI j, w') ∧ AlgK a k s f n w0 w' i j i) (P := fun w' => AlgK a k s f n w0 w' i n i) ⟨w, rfl, hw⟩ ?_ ?_ (by omega)
  · rintro j _ hj ⟨w3, rfl, hA, hh, hc⟩
    have hnj : ¬ n ≤ j := by omega
    have hF := hA.1.1
    have hlt := idx_lt h4 hi hj
    have htg := tgN_lt h hi hj
    have hT := hA.1.2.2.2.2
    obtain ⟨u, hu⟩ : ∃ u, u = tuN k n f i j := ⟨_, rfl⟩
    obtain ⟨S, hS⟩ : ∃ S, S = sumN i (fun p => sumN n (hdT k n f (tgN k n i j) p)) + sumN j (hdT k n f (tgN k n i j) i) := ⟨_, rfl⟩
    have hv1 : w3.1 (a + 3) (i * n + j) = nI u := by rw [hu]; exact hA.2.get hi hj
    have hub : u < 9973 := by rw [hu]; exact tuN_lt
    have hv2 : w3.1 (a + 6) (tgN k n i j) = nI (S % 9973) := by rw [hS]; exact hh _ htg
    have e1 := xPT (a := u) (b := faN k n f i j) (md_lt S) hub (faN_lt h)
    simp (disch := omega) only [sh_X0_makeHandleAndCross_s42, hF.2.2.2, ile, hnj, if_false, xAt hF.2.2.2, bsome, ldS_ok hlt, hT.1.get hi hj, hT.2.get hi hj, hv1, ldS_ok (show tgN k n i j < 6 by omega), hv2, e1, ok_bind]
    rw [hu, hS]
    refine ok_stX (by omega) (by omega) fun w4 g1 g2 g3 g4 => ?_
    simp only [ok_letv, ok_some, inl_ex, nI_add]
    refine ⟨w4, rfl, hA.to (Or.inl rfl) g1 g4, hh.put g2 g3 (fun q => ?_), ?_⟩
    · simp only [sumN, hdT]; omega
    · rw [g1 _ (by omega)]; exact hc
  · rintro _ ⟨w3, rfl, hA, hh, hc⟩
    simp (disch := omega) only [sh_X0_makeHandleAndCross_s42, hA.1.1.2.2.2, ile, Nat.le_refl, if_true, ok_some, inr_ex]
    exact ⟨hA, hh, hc⟩
theorem xHC {a k s f n : Nat} {w0 w : WX} (h : KN k n f) (hI : AlgJ a k s f n w0 w n 0) : Ok (sh_X0_makeHandleAndCross a w) (fun w' => AlgK a k s f n w0 w' n 0 n) := by
  have h4 := h.2.2.1
  simp only [sh_X0_makeHandleAndCross, ok_bind, ok_some]
  refine (xHC1 h hI).mono fun w1 hw1 => ?_
  refine ok_for n (fun i st => ∃ w', st = (nI i, w') ∧ AlgK a k s f n w0 w' i 0 i) ⟨w1, rfl, hw1⟩ ?_ ?_ (by omega)
  · rintro i _ hi ⟨w2, rfl, hw2⟩
    have hni : ¬ n ≤ i := by omega
    simp (disch := omega) only [sh_X0_makeHandleAndCross_s32, hw2.1.1.1.2.2.2, ile, hni, if_false, ok_bind]
    refine (xHC2 h hi hw2).mono fun w3 hw3 => ?_
    obtain ⟨hA, hh, hc⟩ := hw3
    have hF := hA.1.1
    have hlt := idx_lt h4 hi hi
    have htg := tgN_lt h hi hi
    have hT := hA.1.2.2.2.2
    have e1 := xPT (a := 1) (b := faN k n f i i) (md_lt (sumN i (crT k n f (tgN k n i i)))) (by omega) (faN_lt h)
    simp (disch := omega) only [xAt hF.2.2.2, bsome, ldS_ok hlt, hT.1.get hi hi, hT.2.get hi hi, ldS_ok (show tgN k n i i < 6 by omega), hc _ htg, e1, ok_bind, ok_some]
    refine ok_stX (by omega) (by omega) fun w4 g1 g2 g3 g4 => ?_
    simp only [ok_letv, ok_some, inl_ex, nI_add]
    refine ⟨w4, rfl, hA.to (Or.inr rfl) g1 g4, ?_, hc.put g2 g3 (fun q => ?_)⟩
    · rw [g1 _ (by omega)]
      exact hh.same (fun q => by simp only [sumN]; omega)
    · simp only [sumN, crT, Nat.one_mul]
  · rintro _ ⟨w2, rfl, hw2⟩
    simp (disch := omega) only [sh_X0_makeHandleAndCross_s32, hw2.1.1.1.2.2.2, ile, Nat.le_refl, if_true, ok_some, inr_ex]
    exact hw2
/-- an algebra's tables stand -/
def AlgT (a k f n : Nat) (w : WX) : Prop := (Rw (w.1 (a + 4)) (trN k n f) n ∧ Rw (w.1 (a + 5)) (onN k) n ∧ Rw (w.1 (a + 6)) (hdN k n f) n ∧ Rw (w.1 (a + 7)) (crN k n f) n) ∧ Tb (w.1 (a + 1)) n n (tgN k n) n 0 ∧ Tb (w.1 (a + 2)) n n (faN k n f) n 0 ∧ Tb (w.1 (a + 3)) n n (tuN k n f) n 0
def AlgAt (a k s f : Nat) (w : WX) : Prop := AlgF a k s f (eN k s) w ∧ AlgT a k f (eN k s) w
theorem AlgAt.to {a k s f : Nat} {w w' : WX} (h : AlgAt a k s f w) (g : ∀ q, a ≤ q → q < a + 8 → w'.1 q = w.1 q) : AlgAt a k s f w' := by
  obtain ⟨hF, ⟨h1, h2, h3, h4⟩, h5, h6, h7⟩ := h
  refine ⟨hF.to (g a (by omega) (by omega)), ⟨?_, ?_, ?_, ?_⟩, ?_, ?_, ?_⟩ <;> rw [g _ (by omega) (by omega)] <;> assumption
theorem shl_1 : ∀ s, s < 3 → nI 1 <<< (nI s &&& 31) = nI (2 ^ s) := by decide
theorem xMake {a k s f : Nat} {w : WX} (hv : VA k s f) : Ok (sh_X0_make a (nI k) (nI s) (nI f) w) (fun w' => AlgAt a k s f w' ∧ OutX a (a + 10) w w' ∧ w'.2 = w.2) := by
  have h := kn_of hv
  simp only [sh_X0_make]
  refine ok_pX fun w1 f1 f2 f3 f4 => ok_pX fun w2 g1 g2 g3 g4 => ok_pX fun w3 d1 d2 d3 d4 => ?_
  have key : ∀ v : Int32, v = nI (eN k s) → Ok (sh_X0_make_j28 a a v w3) (fun w' => AlgAt a k s f w' ∧ OutX a (a + 10) w w' ∧ w'.2 = w.2) := by
    intro v hv2
    simp only [sh_X0_make_j28]
    refine ok_pX fun w4 e1 e2 e3 e4 => ?_
    have hI : AlgI a k s f (eN k s) w w4 0 0 0 := by
      refine ⟨⟨?_, ?_, ?_, e3.trans hv2⟩, by rw [e4, d4, g4, f4], (((OutX.refl.put (by omega) f1).put (by omega) g1).put (by omega) d1).put (by omega) e1, ⟨Rw.zero, Rw.zero⟩, Tb.zero, Tb.zero⟩
      · rw [e2 _ (by omega), d2 _ (by omega), g2 _ (by omega)]; exact f3
      · rw [e2 _ (by omega), d2 _ (by omega)]; exact g3
      · rw [e2 _ (by omega)]; exact d3
    simp only [ok_bind, ok_some]
    refine (xMk34 h hI).mono fun w5 h5 => (xTu h h5).mono fun w6 h6 => (xHC h h6).mono fun w7 h7 => ?_
    obtain ⟨⟨⟨hF, hr, ho, ⟨ht, hu⟩, hg, hf⟩, hT⟩, hh, hc⟩ := h7
    exact ⟨⟨hF, ⟨ht, hu, fun q hq => by simpa [hdN, sumN] using hh q hq, fun q hq => by simpa [crN] using hc q hq⟩, hg, hf, hT⟩, ho, hr⟩
  have hk := hv.1
  simp (disch := omega) only [ieq]
  split
  · rename_i e
    exact key _ (by rw [shl_1 s (by have := hv.2.2.1 e; omega)]; simp [eN, e])
  · rename_i e
    exact key _ (by simp [eN, e])
