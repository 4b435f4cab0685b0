/-! the reference's bounds, and what it asks of what is laid out -/
def bI (p : Prop) [Decidable p] : Int32 := if p then nI 1 else nI 0
theorem bI_t {p : Prop} [Decidable p] (h : p) : bI p = nI 1 := if_pos h
theorem bI_f {p : Prop} [Decidable p] (h : ¬ p) : bI p = nI 0 := if_neg h
theorem bI_or {p : Prop} [Decidable p] : bI p = nI 0 ∨ bI p = nI 1 := by
  by_cases h : p
  · exact Or.inr (bI_t h)
  · exact Or.inl (bI_f h)
theorem bI_0 {p : Prop} [Decidable p] : (bI p = 0) = ¬ p := by
  by_cases h : p
  · rw [bI_t h]; simp [h]; decide
  · rw [bI_f h]; simp [h]; rfl
theorem bI_n0 {p : Prop} [Decidable p] : (bI p = nI 0) = ¬ p := bI_0
theorem mIn0 {x a b : Int64} : sh_X9_isIn x a b = some (bI (a.toInt ≤ x.toInt ∧ x.toInt ≤ b.toInt)) := by
  unfold sh_X9_isIn
  simp only [lg_cmp_lt, lg_cmp_gt]
  by_cases h1 : x < a
  · rw [if_pos h1, bI_f]
    have := Int64.lt_iff_toInt_lt.mp h1
    omega
  · rw [if_neg h1]
    have h1' := Int64.le_iff_toInt_le.mp (Int64.not_lt.mp h1)
    by_cases h2 : b < x
    · rw [if_pos h2, bI_f]
      have := Int64.lt_iff_toInt_lt.mp h2
      omega
    · rw [if_neg h2, bI_t]
      have := Int64.le_iff_toInt_le.mp (Int64.not_lt.mp h2)
      omega
theorem bI_congr {p q : Prop} [Decidable p] [Decidable q] (h : p ↔ q) : bI p = bI q := by
  by_cases hp : p
  · rw [bI_t hp, bI_t (h.mp hp)]
  · rw [bI_f hp, bI_f (fun z => hp (h.mpr z))]
theorem mIn {x : Int32} {a b : Nat} (ha : a < 2147483648) (hb : b < 2147483648) : sh_X9_isIn x.toInt64 (lN a) (lN b) = some (bI ((a : Int) ≤ x.toInt ∧ x.toInt ≤ b)) := by
  rw [mIn0]
  refine congrArg some (bI_congr ?_)
  rw [lN_toInt ha, lN_toInt hb, Int32.toInt_toInt64]
theorem mInS {x : Int32} {n : Nat} (hn : n < 1073741824) : sh_X9_isIn x.toInt64 (lN 0) (nI n - nI 1).toInt64 = some (bI (0 ≤ x.toInt ∧ x.toInt < n)) := by
  rw [mIn0]
  refine congrArg some (bI_congr ?_)
  rw [lN_toInt (by omega), Int32.toInt_toInt64, Int32.toInt_toInt64, pk_sub_toInt (by omega) (by omega)]
  constructor <;> (intro h; omega)
theorem mIsA {x : Int32} {n : Nat} {w : Mem} (h : w 1 0 = nI n) (hn : n < 1073741824) : sh_X9_isAlgebra x w = some (bI (0 ≤ x.toInt ∧ x.toInt < n)) := by
  simp (disch := omega) only [sh_X9_isAlgebra, ldS_ok (show 0 < 130 by omega), h, bsome, mInS hn, grd_ok bI_or]
theorem mIsE {x : Int32} {n : Nat} {w : Mem} (h : w 0 3 = nI n) (hn : n < 1073741824) : sh_X9_isElement x w = some (bI (0 ≤ x.toInt ∧ x.toInt < n)) := by
  simp (disch := omega) only [sh_X9_isElement, h, bsome, mInS hn, grd_ok bI_or]
theorem mIsS {x : Int32} : sh_X9_isSurface x = some (bI (0 ≤ x.toInt ∧ x.toInt < 4)) := by
  simp (disch := omega) only [sh_X9_isSurface, mIn, bsome, grd_ok bI_or]
  exact congrArg some (bI_congr (by constructor <;> (intro h; omega)))
theorem sumN_le {n b : Nat} {g : Nat → Nat} (h : ∀ i, g i ≤ b) : sumN n g ≤ b * n := by
  induction n with
  | zero => simp [sumN]
  | succ n ih =>
    have := h n
    simp only [sumN, Nat.mul_add]
    omega
theorem mSpl {k n f e j q : Nat} {w : Mem} (h : KN k n f) (hL : LaidT k n f w) (he : e < n) (hj : j < n) (hq : q < n) : sh_X9_splitOf (nI e) (nI j) (nI q) w = some (nI (spN k n f e j q)) := by
  have h4 := h.2.2.1
  obtain ⟨⟨h3, -⟩, hg, hf, hT, -⟩ := hL
  have key : Ok (lpw (sh_X9_splitOf_s6 (nI e) (nI j) (nI q) w) FU (nI 0, nI 0)) (fun x => x = nI (sumN n (fun i => spT k n f e j q i % 9973))) := by
    refine ok_for n (fun i st => st = (nI (sumN i (fun i => spT k n f e j q i % 9973)), nI i) ∧ sumN i (fun i => spT k n f e j q i % 9973) ≤ 9972 * i) ⟨rfl, by simp [sumN]⟩ ?_ ?_ (by omega)
    · rintro i _ hi ⟨rfl, hb⟩
      have hni : ¬ n ≤ i := by omega
      have htg := tgN_lt h he hi
      have hm := mul_lt' (faN_lt (i := e) (j := i) h) (tuN_lt (k := k) (n := n) (f := f) (i := i) (j := q))
      have hm2 := md_lt (spT k n f e j q i)
      simp (disch := omega) only [sh_X9_splitOf_s6, h3, ile, hni, if_false, mAt, bsome, ldS_ok (show e * 6 + i < 36 by omega), hg.get he hi, hf.get he hi, ldS_ok (show i * 6 + q < 36 by omega), hT.get hi hq, ieq, pk_mul, irem, letv_eq, nI_add]
      split
      · rename_i e2
        simp only [ok_some, inl_ex, sumN]
        refine ⟨?_, by omega⟩
        simp only [spT, e2, if_true]
        rw [Nat.mul_comm]
      · rename_i e2
        simp only [ok_some, inl_ex, sumN]
        refine ⟨?_, by omega⟩
        simp only [spT, e2, if_false, Nat.zero_mod]
    · rintro _ ⟨rfl, hb⟩
      simp (disch := omega) only [sh_X9_splitOf_s6, h3, ile, Nat.le_refl, if_true, ok_some, inr_ex]
  obtain ⟨x, hx, rfl⟩ := key
  have hb : sumN n (fun i => spT k n f e j q i % 9973) ≤ 9972 * n := sumN_le (fun i => Nat.le_of_lt_succ (md_lt _))
  simp (disch := omega) only [sh_X9_splitOf, hx, bsome, irem, sumN_mod]
  rfl
/-- what multiplies and closedBy may change -/
def OutS (m0 m : Mem) : Prop := ∀ q, q ≠ 10 → q ≠ 11 → m q = m0 q
theorem mMul {c k n f : Nat} {S b : Nat → Nat} {w : Mem} (hc : c = 8 ∨ c = 9) (h : KN k n f) (hL : LaidT k n f w) (hS : Rw (w 10) S n) (hS9 : ∀ q, S q < 9973) (hb : Rw (w c) b n) (hb9 : ∀ q, b q < 9973) : Ok (sh_X9_multiplies c w) (fun w' => OutS w w' ∧ Rw (w' 10) (muN k n f b S) n) := by
  have h4 := h.2.2.1
  obtain ⟨⟨h3, -⟩, hg, hf, -⟩ := hL
  have hck : KDm c = (10, 6) := by rcases hc with rfl | rfl <;> rfl
  simp only [sh_X9_multiplies, ok_bind, ok_some]
  refine (ok_for n (fun i st => ∃ w' : Mem, st = (nI i, w') ∧ (∀ q, q ≠ 11 → w' q = w q) ∧ Rw (w' 11) (fun _ => 0) i) (P := fun w' => (∀ q, q ≠ 11 → w' q = w q) ∧ Ac (w' 11) n (fun q => sumN 0 (fun p => sumN n (muT k n f S b q p)))) ⟨w, rfl, fun _ _ => rfl, Rw.zero⟩ ?_ ?_ (by omega)).mono fun w1 h1 => ?_
  · rintro i _ hi ⟨w1, rfl, ho, hz⟩
    have hni : ¬ n ≤ i := by omega
    have e3 : w1 0 3 = nI n := by rw [ho _ (by omega)]; exact h3
    simp (disch := omega) only [sh_X9_multiplies_s2, e3, ile, hni, if_false, ok_bind]
    refine ok_stM (by omega) (by omega) fun w2 f1 f2 f3 => ?_
    simp only [ok_letv, ok_some, inl_ex, nI_add]
    exact ⟨w2, rfl, fun q hq => (f1 q hq).trans (ho q hq), hz.put f2 f3⟩
  · rintro _ ⟨w1, rfl, ho, hz⟩
    have e3 : w1 0 3 = nI n := by rw [ho _ (by omega)]; exact h3
    simp (disch := omega) only [sh_X9_multiplies_s2, e3, ile, Nat.le_refl, if_true, ok_some, inr_ex]
    exact ⟨ho, fun q hq => hz q hq⟩
  · refine (ok_for n (fun i st => ∃ w' : Mem, st = (nI i, w') ∧ (∀ q, q ≠ 11 → w' q = w q) ∧ Ac (w' 11) n (fun q => sumN i (fun p => sumN n (muT k n f S b q p)))) (P := fun w' => (∀ q, q ≠ 11 → w' q = w q) ∧ Ac (w' 11) n (fun q => sumN n (fun p => sumN n (muT k n f S b q p)))) ⟨w1, rfl, h1⟩ ?_ ?_ (by omega)).mono fun w2 h2 => ?_
    · rintro i _ hi ⟨w2, rfl, ho, hz⟩
      have hni : ¬ n ≤ i := by omega
      have e3 : w2 0 3 = nI n := by rw [ho _ (by omega)]; exact h3
      simp (disch := omega) only [sh_X9_multiplies_s25, e3, ile, hni, if_false, ok_bind]
      refine (ok_for n (fun j st => ∃ w' : Mem, st = (nI j, w') ∧ (∀ q, q ≠ 11 → w' q = w q) ∧ Ac (w' 11) n (fun q => sumN i (fun p => sumN n (muT k n f S b q p)) + sumN j (muT k n f S b q i))) (P := fun w' => (∀ q, q ≠ 11 → w' q = w q) ∧ Ac (w' 11) n (fun q => sumN i (fun p => sumN n (muT k n f S b q p)) + sumN n (muT k n f S b q i))) ⟨w2, rfl, ho, hz⟩ ?_ ?_ (by omega)).mono fun w3 h3' => ?_
      · rintro j _ hj ⟨w3, rfl, ho, hz⟩
        have hnj : ¬ n ≤ j := by omega
        have e3 : w3 0 3 = nI n := by rw [ho _ (by omega)]; exact h3
        have htg := tgN_lt h hi hj
        have v1 : w3 3 (i * 6 + j) = nI (tgN k n i j) := by rw [ho _ (by omega)]; exact hg.get hi hj
        have v2 : w3 4 (i * 6 + j) = nI (faN k n f i j) := by rw [ho _ (by omega)]; exact hf.get hi hj
        have v3 : w3 10 i = nI (S i) := by rw [ho _ (by omega)]; exact hS i hi
        have v4 : w3 c j = nI (b j) := by rw [ho _ (by omega)]; exact hb j hj
        obtain ⟨Z, hZ⟩ : ∃ Z, Z = sumN i (fun p => sumN n (muT k n f S b (tgN k n i j) p)) + sumN j (muT k n f S b (tgN k n i j) i) := ⟨_, rfl⟩
        have v5 : w3 11 (tgN k n i j) = nI (Z % 9973) := by rw [hZ]; exact hz _ htg
        have b1 := md_lt Z
        have b2 := mul_lt' (hS9 i) (hb9 j)
        have b3 := md_lt (S i * b j)
        have b4 := mul_lt' b3 (faN_lt (i := i) (j := j) h)
        have b5 := hS9 i
        have b6 := hb9 j
        have b7 := faN_lt (i := i) (j := j) h
        simp (disch := omega) only [sh_X9_multiplies_s35, e3, ile, hnj, if_false, mAt, bsome, ldS_ok (show i * 6 + j < 36 by omega), v1, v2, ldS_ok (show i < 6 by omega), v3, ldD_ok hck (show j < 6 by omega), v4, ldS_ok (show tgN k n i j < 6 by omega), v5, nI_l, lN_mul, lrem, lN_add, lN_i, ok_bind]
        refine ok_stM (by omega) (by omega) fun w4 f1 f2 f3 => ?_
        simp only [ok_letv, ok_some, inl_ex, nI_add]
        rw [hZ] at f3
        refine ⟨w4, rfl, fun q hq => (f1 q hq).trans (ho q hq), hz.put f2 f3 (fun q => ?_)⟩
        simp only [sumN, muT]
        omega
      · rintro _ ⟨w3, rfl, ho, hz⟩
        have e3 : w3 0 3 = nI n := by rw [ho _ (by omega)]; exact h3
        simp (disch := omega) only [sh_X9_multiplies_s35, e3, ile, Nat.le_refl, if_true, ok_some, inr_ex]
        exact ⟨ho, hz⟩
      · simp only [ok_letv, ok_some, inl_ex, nI_add]
        exact ⟨w3, rfl, h3'.1, h3'.2⟩
    · rintro _ ⟨w2, rfl, ho, hz⟩
      have e3 : w2 0 3 = nI n := by rw [ho _ (by omega)]; exact h3
      simp (disch := omega) only [sh_X9_multiplies_s25, e3, ile, Nat.le_refl, if_true, ok_some, inr_ex]
      exact ⟨ho, hz⟩
    · obtain ⟨ho, hz⟩ := h2
      refine ok_for n (fun i st => ∃ w' : Mem, st = (nI i, w') ∧ (∀ q, q ≠ 10 → w' q = w2 q) ∧ Rw (w' 10) (muN k n f b S) i) ⟨w2, rfl, fun _ _ => rfl, Rw.zero⟩ ?_ ?_ (by omega)
      · rintro i _ hi ⟨w3, rfl, hp, hr⟩
        have hni : ¬ n ≤ i := by omega
        have e3 : w3 0 3 = nI n := by rw [hp _ (by omega), ho _ (by omega)]; exact h3
        have v1 : w3 11 i = nI (muN k n f b S i) := by rw [hp _ (by omega)]; exact hz i hi
        simp (disch := omega) only [sh_X9_multiplies_s120, e3, ile, hni, if_false, ldS_ok (show i < 6 by omega), v1, bsome, ok_bind]
        refine ok_stM (by omega) (by omega) fun w4 f1 f2 f3 => ?_
        simp only [ok_letv, ok_some, inl_ex, nI_add]
        exact ⟨w4, rfl, fun q hq => (f1 q hq).trans (hp q hq), hr.put f2 f3⟩
      · rintro _ ⟨w3, rfl, hp, hr⟩
        have e3 : w3 0 3 = nI n := by rw [hp _ (by omega), ho _ (by omega)]; exact h3
        simp (disch := omega) only [sh_X9_multiplies_s120, e3, ile, Nat.le_refl, if_true, ok_some, inr_ex]
        exact ⟨fun q h1 h2 => (hp q h1).trans (ho q h2), hr⟩
theorem OutS.laid {k n f : Nat} {m m' : Mem} (h : OutS m m') (hL : LaidT k n f m) : LaidT k n f m' := hL.to (by rw [h 0 (by omega) (by omega)]; exact ⟨rfl, rfl⟩) fun q h1 h2 => h q (by omega) (by omega)
theorem OutS.trans {m m1 m2 : Mem} (h : OutS m m1) (h2 : OutS m1 m2) : OutS m m2 := fun q a b => (h2 q a b).trans (h q a b)
/-- the rows on the way to a closed sum -/
def clM (k n f h m : Nat) : Nat → Nat := if m ≤ h then itN (muN k n f (hdN k n f)) m (onN k) else itN (muN k n f (crN k n f)) (m - h) (itN (muN k n f (hdN k n f)) h (onN k))
theorem clM_lt {k n f h m : Nat} : ∀ q, clM k n f h m q < 9973 := by
  intro q
  unfold clM
  split
  · exact itN_lt onN_lt9 _ _
  · exact itN_lt (itN_lt onN_lt9 _) _ _
theorem clM_end {k n f h c : Nat} : clM k n f h (h + c) = clS k n f h c := by
  unfold clM clS
  by_cases hc : c = 0
  · subst hc; simp [itN]
  · rw [if_neg (by omega), Nat.add_sub_cancel_left]
theorem mClo {k n f h c : Nat} {w : Mem} (hk : KN k n f) (hL : LaidT k n f w) (hh : h < 400) (hc : c < 400) : Ok (sh_X9_closedBy (nI h) (nI c) w) (fun r => r.1 = nI (clN k n f h c) ∧ OutS w r.2) := by
  have h4 := hk.2.2.1
  obtain ⟨⟨h3, -⟩, hg, hf, hT, ht, hu, hhd, hcr⟩ := id hL
  simp only [sh_X9_closedBy, ok_bind, ok_some]
  refine (ok_for n (fun i st => ∃ w' : Mem, st = (nI i, w') ∧ (∀ q, q ≠ 10 → w' q = w q) ∧ Rw (w' 10) (onN k) i) (P := fun w' => OutS w w' ∧ Rw (w' 10) (clM k n f h 0) n) ⟨w, rfl, fun _ _ => rfl, Rw.zero⟩ ?_ ?_ (by omega)).mono fun w1 h1 => ?_
  · rintro i _ hi ⟨w1, rfl, ho, hz⟩
    have hni : ¬ n ≤ i := by omega
    have e3 : w1 0 3 = nI n := by rw [ho _ (by omega)]; exact h3
    have v1 : w1 6 i = nI (onN k i) := by rw [ho _ (by omega)]; exact hu i hi
    simp (disch := omega) only [sh_X9_closedBy_s2, e3, ile, hni, if_false, ldS_ok (show i < 6 by omega), v1, bsome, ok_bind]
    refine ok_stM (by omega) (by omega) fun w2 f1 f2 f3 => ?_
    simp only [ok_letv, ok_some, inl_ex, nI_add]
    exact ⟨w2, rfl, fun q hq => (f1 q hq).trans (ho q hq), hz.put f2 f3⟩
  · rintro _ ⟨w1, rfl, ho, hz⟩
    have e3 : w1 0 3 = nI n := by rw [ho _ (by omega)]; exact h3
    simp (disch := omega) only [sh_X9_closedBy_s2, e3, ile, Nat.le_refl, if_true, ok_some, inr_ex]
    refine ⟨fun q a b => ho q a, ?_⟩
    have : clM k n f h 0 = onN k := by unfold clM; rw [if_pos (Nat.zero_le _)]; rfl
    rw [this]
    exact hz
  · refine (ok_for (h + c) (fun i st => ∃ w' : Mem, st = (nI i, w') ∧ OutS w w' ∧ Rw (w' 10) (clM k n f h i) n) (P := fun w' => OutS w w' ∧ Rw (w' 10) (clS k n f h c) n) ⟨w1, rfl, h1⟩ ?_ ?_ (by omega)).mono fun w2 h2 => ?_
    · rintro i _ hi ⟨w2, rfl, ho, hz⟩
      have hni : ¬ h + c ≤ i := by omega
      have hL2 := ho.laid hL
      have key : ∀ b : Nat, b = 8 ∨ b = 9 → ∀ F : Nat → Nat, Rw (w2 b) F n → (∀ q, F q < 9973) → clM k n f h (i + 1) = muN k n f F (clM k n f h i) → Ok (sh_X9_closedBy_j54 (nI h) (nI c) (nI i) b w2) (fun r => ∃ s', r = .inl s' ∧ ∃ w', s' = (nI (i + 1), w') ∧ OutS w w' ∧ Rw (w' 10) (clM k n f h (i + 1)) n) := by
        intro b hb F hF hF9 hM
        simp only [sh_X9_closedBy_j54, ok_bind]
        refine (mMul hb hk hL2 hz clM_lt hF hF9).mono fun w3 h3 => ?_
        simp only [ok_letv, ok_some, inl_ex, nI_add]
        exact ⟨w3, rfl, ho.trans h3.1, by rw [hM]; exact h3.2⟩
      simp (disch := omega) only [sh_X9_closedBy_s30, nI_add, ile, hni, if_false]
      by_cases e : h ≤ i
      · refine okt e (key 9 (Or.inr rfl) _ hL2.2.2.2.2.2.2.2 (fun _ => crN_lt) ?_)
        unfold clM
        rw [if_neg (by omega), show i + 1 - h = i - h + 1 by omega, itN]
        split
        · have : i = h := by omega
          subst this
          rw [Nat.sub_self, itN]
        · rfl
      · refine okf e (key 8 (Or.inl rfl) _ hL2.2.2.2.2.2.2.1 (fun _ => hdN_lt) ?_)
        unfold clM
        rw [if_pos (by omega), if_pos (by omega), itN]
    · rintro _ ⟨w2, rfl, ho, hz⟩
      simp (disch := omega) only [sh_X9_closedBy_s30, nI_add, ile, Nat.le_refl, if_true, ok_some, inr_ex]
      exact ⟨ho, by rw [← clM_end]; exact hz⟩
    · obtain ⟨ho, hz⟩ := h2
      have hL2 := ho.laid hL
      refine (ok_for n (fun i st => st = (nI (sumN i (fun i => clS k n f h c i * trN k n f i) % 9973), nI i)) (P := fun x => x = nI (clN k n f h c)) rfl ?_ ?_ (by omega)).mono fun x hx => ⟨hx, ho⟩
      · rintro i _ hi rfl
        have hni : ¬ n ≤ i := by omega
        have b1 := mul_lt' (clS_lt (k := k) (n := n) (f := f) (h := h) (c := c) i) (Nat.lt_trans (trN_lt hk hi) (show 17 < 9973 by omega))
        have b2 := md_lt (sumN i (fun i => clS k n f h c i * trN k n f i))
        have v1 : w2 10 i = nI (clS k n f h c i) := hz i hi
        have v2 : w2 5 i = nI (trN k n f i) := hL2.2.2.2.2.1 i hi
        simp (disch := omega) only [sh_X9_closedBy_s68, hL2.1.1, ile, hni, if_false, ldS_ok (show i < 6 by omega), bsome, v1, v2, pk_mul, nI_add, irem, ok_letv, ok_some, inl_ex, sumN, Nat.mod_add_mod]
      · rintro _ rfl
        simp (disch := omega) only [sh_X9_closedBy_s68, hL2.1.1, ile, Nat.le_refl, if_true, ok_some, inr_ex]
        rfl
