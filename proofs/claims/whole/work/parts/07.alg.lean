/-! algebras as numbers -/
def VA (k s f : Nat) : Prop := k ≤ 4 ∧ 1 ≤ s ∧ (k = 4 → s ≤ 2) ∧ s ≤ 6 ∧ f ≤ 9
def eN (k s : Nat) : Nat := if k = 4 then 2 ^ s else s
def tgN (k n i j : Nat) : Nat := if k ≤ 1 then i else if k = 4 then i ||| j else (i + j) % n
def faN (k n f i j : Nat) : Nat := if k ≤ 1 then (if i = j then 1 else 0) else if k = 2 then 1 else if k = 3 then (if i + j < n then 1 else f) else (if i &&& j = 0 then (if i / 2 = 1 ∧ j % 2 = 1 then 9972 else 1) else 0)
def trN (k n f i : Nat) : Nat := if k = 0 then 1 else if k = 1 then f + i + 1 else if k = 2 then (if i = 0 then 1 else 0) else if i = n - 1 then 1 else 0
def onN (k i : Nat) : Nat := if k ≤ 1 ∨ i = 0 then 1 else 0
def foN (k n f i j : Nat) : Nat := faN k n f i j * trN k n f (tgN k n i j) % 9973
def ivS (v : Nat) : Nat → Nat × Nat
  | 0 => (1, v)
  | k + 1 => (if 9971 / 2 ^ k % 2 = 1 then (ivS v k).1 * (ivS v k).2 % 9973 else (ivS v k).1, (ivS v k).2 * (ivS v k).2 % 9973)
def ivN (v : Nat) : Nat := (ivS v 14).1
def tuN (k n f i j : Nat) : Nat := if foN k n f j i = 0 then 0 else ivN (foN k n f j i)
def hdT (k n f q i j : Nat) : Nat := if tgN k n i j = q then tuN k n f i j * faN k n f i j else 0
def crT (k n f q i : Nat) : Nat := if tgN k n i i = q then faN k n f i i else 0
def hdN (k n f q : Nat) : Nat := sumN n (fun i => sumN n (hdT k n f q i)) % 9973
def crN (k n f q : Nat) : Nat := sumN n (crT k n f q) % 9973
theorem eN_in {k s f : Nat} (h : VA k s f) : 1 ≤ eN k s ∧ eN k s ≤ 6 ∧ (k = 4 → eN k s = 2 ∨ eN k s = 4) := by
  obtain ⟨h1, h2, h3, h4, h5⟩ := h
  unfold eN
  by_cases hk : k = 4
  · rw [if_pos hk]
    have := h3 hk
    have h6 : s = 1 ∨ s = 2 := by omega
    rcases h6 with rfl | rfl <;> simp
  · rw [if_neg hk]
    exact ⟨h2, h4, fun q => absurd q hk⟩
/-- a kind with its number of elements -/
def KN (k n f : Nat) : Prop := k ≤ 4 ∧ 1 ≤ n ∧ n ≤ 6 ∧ (k = 4 → n = 2 ∨ n = 4) ∧ f ≤ 9
theorem kn_of {k s f : Nat} (h : VA k s f) : KN k (eN k s) f := ⟨h.1, (eN_in h).1, (eN_in h).2.1, (eN_in h).2.2, h.2.2.2.2⟩
theorem or_lt4 : ∀ i, i < 4 → ∀ j, j < 4 → (i ||| j) < 4 := by decide
theorem or_lt2 : ∀ i, i < 2 → ∀ j, j < 2 → (i ||| j) < 2 := by decide
theorem tgN_lt {k n f i j : Nat} (h : KN k n f) (hi : i < n) (hj : j < n) : tgN k n i j < n := by
  obtain ⟨h1, h2, h3, h4, h5⟩ := h
  unfold tgN
  split
  · exact hi
  · split
    · rename_i hk
      rcases h4 hk with rfl | rfl
      · exact or_lt2 i hi j hj
      · exact or_lt4 i hi j hj
    · exact Nat.mod_lt _ (by omega)
theorem faN_lt {k n f i j : Nat} (h : KN k n f) : faN k n f i j < 9973 := by
  obtain ⟨h1, h2, h3, h4, h5⟩ := h
  unfold faN
  repeat' split
  all_goals omega
theorem trN_lt {k n f i : Nat} (h : KN k n f) (hi : i < n) : trN k n f i < 17 := by
  obtain ⟨h1, h2, h3, h4, h5⟩ := h
  unfold trN
  repeat' split
  all_goals omega
theorem onN_lt {k i : Nat} : onN k i < 2 := by unfold onN; split <;> omega
theorem foN_lt {k n f i j : Nat} : foN k n f i j < 9973 := Nat.mod_lt _ (by decide)
theorem ivS_lt {v : Nat} (hv : v < 9973) : ∀ k, (ivS v k).1 < 9973 ∧ (ivS v k).2 < 9973
  | 0 => ⟨by simp [ivS], by simpa [ivS] using hv⟩
  | k + 1 => by
    have ih := ivS_lt hv k
    refine ⟨?_, Nat.mod_lt _ (by decide)⟩
    simp only [ivS]
    split
    · exact Nat.mod_lt _ (by decide)
    · exact ih.1
theorem ivN_lt {v : Nat} (hv : v < 9973) : ivN v < 9973 := (ivS_lt hv 14).1
theorem tuN_lt {k n f i j : Nat} : tuN k n f i j < 9973 := by
  unfold tuN
  split
  · decide
  · exact ivN_lt foN_lt
theorem hdN_lt {k n f q : Nat} : hdN k n f q < 9973 := Nat.mod_lt _ (by decide)
theorem crN_lt {k n f q : Nat} : crN k n f q < 9973 := Nat.mod_lt _ (by decide)
theorem mul_lt' {a b : Nat} (ha : a < 9973) (hb : b < 9973) : a * b < 99460730 := by
  have h := Nat.mul_le_mul (Nat.le_of_lt_succ (show a < 9972 + 1 from ha)) (Nat.le_of_lt_succ (show b < 9972 + 1 from hb))
  omega
/-! the class's small functions -/
theorem xPT {n a b : Nat} (hn : n < 9973) (ha : a < 9973) (hb : b < 9973) : sh_X8_plusTimes (nI n) (nI a) (nI b) = some (nI ((n + a * b) % 9973)) := by
  have h := mul_lt' ha hb
  unfold sh_X8_plusTimes
  rw [pk_mul, nI_add, irem (by omega) (by omega) (by omega)]
theorem nI_and1 {l : Nat} (h : l < 2147483648) : nI l &&& nI 1 = nI (l % 2) := by
  have := pk_andN (n := l) (by omega) (m := nI 1) 1 (by decide)
  simpa using this
theorem nI_shr1 {l : Nat} (h : l < 2147483648) : nI l >>> (nI 1 &&& 31) = nI (l / 2) := by
  have := pk_shrN (n := l) (by omega) (nI 1 &&& 31) 1 (by decide)
  simpa using this
theorem xOdd {l : Nat} (h : l < 2147483648) : sh_X8_isOdd (nI l) = some (nI (l % 2)) := by
  unfold sh_X8_isOdd
  simp (disch := omega) only [nI_and1 h, ieq]
  have : l % 2 = 0 ∨ l % 2 = 1 := by omega
  rcases this with e | e <;> rw [e] <;> rfl
theorem iv_left : ∀ k, k < 14 → ¬ 9971 / 2 ^ k = 0 ∧ 9971 / 2 ^ k < 2147483648 ∧ 9971 / 2 ^ k / 2 = 9971 / 2 ^ (k + 1) := by decide
theorem xInv {v : Nat} (hv : v < 9973) : sh_X8_inverse (nI v) = some (nI (ivN v)) := by
  have key : Ok (lpw sh_X8_inverse_s8 FU (nI 1, nI v, nI 9971)) (fun x => x = nI (ivN v)) := by
    refine ok_for 14 (fun k s => s = (nI (ivS v k).1, nI (ivS v k).2, nI (9971 / 2 ^ k))) rfl ?_ ?_ (by decide)
    · rintro k s hk rfl
      obtain ⟨h1, h2, h3⟩ := iv_left k hk
      obtain ⟨b1, b2⟩ := ivS_lt hv k
      generalize hr : (ivS v k).1 = r at b1
      generalize hq : (ivS v k).2 = q at b2
      generalize hl : 9971 / 2 ^ k = l at h1 h2 h3
      have e1 := xPT (n := 0) (a := q) (b := q) (by omega) b2 b2
      have e2 := xPT (n := 0) (a := r) (b := q) (by omega) b1 b2
      simp only [sh_X8_inverse_s8, sh_X8_inverse_j26, ile0 h2, h1, if_false, xOdd h2, Option.bind_some, e1, e2, letv_eq, nI_shr1 h2, Nat.zero_add]
      have : l % 2 = 0 ∨ l % 2 = 1 := by omega
      rcases this with e | e
      · simp only [e, ieq0 (show 0 < 2147483648 by omega), if_true, ok_some, inl_ex, ivS, hr, hq, hl, h3]
        simp
      · simp only [e, ieq0 (show 1 < 2147483648 by omega), ok_some, inl_ex, ivS, hr, hq, hl, h3]
        simp [ok_some, inl_ex]
    · rintro s rfl
      simp only [sh_X8_inverse_s8, ile0 (show 9971 / 2 ^ 14 < 2147483648 by decide), show (9971 / 2 ^ 14 = 0) = True by simp, if_true, ok_some, inr_ex]
      rfl
  obtain ⟨x, hx, rfl⟩ := key
  unfold sh_X8_inverse
  rw [hx]
  rfl
theorem nI_or4 : ∀ i, i < 4 → ∀ j, j < 4 → nI i ||| nI j = nI (i ||| j) := by decide +kernel
theorem xSgn : ∀ i, i < 4 → ∀ j, j < 4 → (Option.bind (sh_X0_lesserPairs (nI i) (nI j)) fun v => Option.bind (sh_X8_isOdd v) fun v' => Option.bind (sh_X0_signed (nI 1) v') fun v'' => some v'') = some (nI (if i / 2 = 1 ∧ j % 2 = 1 then 9972 else 1)) := by decide +kernel
theorem nI_and4 : ∀ i, i < 4 → ∀ j, j < 4 → (nI i &&& nI j = 0 ↔ i &&& j = 0) := by decide +kernel
theorem k_cases {k : Nat} (h : k ≤ 4) : k = 0 ∨ k = 1 ∨ k = 2 ∨ k = 3 ∨ k = 4 := by omega
theorem mod_wrap {n i j : Nat} (hi : i < n) (hj : j < n) (h : n ≤ i + j) : (i + j) % n = i + j - n := by
  rw [Nat.mod_eq_sub_mod h, Nat.mod_eq_of_lt (by omega)]
theorem xTg {a k n f i j : Nat} {w : WX} (h : KN k n f) (h0 : w.1 a 0 = nI k) (h3 : w.1 a 3 = nI n) (hi : i < n) (hj : j < n) : sh_X0_targetByKind a (nI i) (nI j) w = some (nI (tgN k n i j)) := by
  obtain ⟨h1, h2, h4, h5, h6⟩ := h
  have hw : ∀ {b : Nat}, n ≤ 6 → (if nI n ≤ nI i + nI j then some (nI i + nI j - nI n) else some (nI i + nI j)) = some (nI ((i + j) % n)) := by
    intro _ _
    simp (disch := omega) only [nI_add, ile]
    by_cases hq : n ≤ i + j
    · rw [if_pos hq, isub hq, mod_wrap hi hj hq]
    · rw [if_neg hq, Nat.mod_eq_of_lt (by omega)]
  simp only [sh_X0_targetByKind, h0, h3, ieq (show k < 2147483648 by omega) (show 0 < 2147483648 by omega), ieq (show k < 2147483648 by omega) (show 1 < 2147483648 by omega), ieq (show k < 2147483648 by omega) (show 2 < 2147483648 by omega), ieq (show k < 2147483648 by omega) (show 3 < 2147483648 by omega), ieq (show k < 2147483648 by omega) (show 4 < 2147483648 by omega)]
  rcases k_cases h1 with rfl | rfl | rfl | rfl | rfl
  · simp [tgN]
  · simp [tgN]
  · simpa [tgN] using hw (b := 0) h4
  · simpa [tgN] using hw (b := 0) h4
  · have hn := h5 rfl
    simp only [tgN]
    simp [nI_or4 i (by omega) j (by omega)]
theorem xFa {a k n f i j : Nat} {w : WX} (h : KN k n f) (h0 : w.1 a 0 = nI k) (h2' : w.1 a 2 = nI f) (h3 : w.1 a 3 = nI n) (hi : i < n) (hj : j < n) : sh_X0_factorByKind a (nI i) (nI j) w = some (nI (faN k n f i j)) := by
  obtain ⟨h1, h2, h4, h5, h6⟩ := h
  simp only [sh_X0_factorByKind, h0, h3, h2', ieq (show k < 2147483648 by omega) (show 0 < 2147483648 by omega), ieq (show k < 2147483648 by omega) (show 1 < 2147483648 by omega), ieq (show k < 2147483648 by omega) (show 2 < 2147483648 by omega), ieq (show k < 2147483648 by omega) (show 3 < 2147483648 by omega), ieq (show k < 2147483648 by omega) (show 4 < 2147483648 by omega), ieq (show i < 2147483648 by omega) (show j < 2147483648 by omega), nI_add, ile (show n < 2147483648 by omega) (show i + j < 2147483648 by omega)]
  rcases k_cases h1 with rfl | rfl | rfl | rfl | rfl
  · simp only [faN]; by_cases q : i = j <;> simp [q]
  · simp only [faN]; by_cases q : i = j <;> simp [q]
  · simp [faN]
  · simp only [faN]
    by_cases q : n ≤ i + j
    · simp [q, Nat.not_lt.mpr q]
    · simp [q, Nat.not_le.mp q]
  · have hn := h5 rfl
    simp only [faN]
    by_cases q : i &&& j = 0
    · have q' := (nI_and4 i (by omega) j (by omega)).mpr q
      simp only [q', xSgn i (by omega) j (by omega)]
      simp [q]
    · have q' : ¬ nI i &&& nI j = 0 := fun z => q ((nI_and4 i (by omega) j (by omega)).mp z)
      simp [q, q']
theorem xTr {a k n f i : Nat} {w : WX} (h : KN k n f) (h0 : w.1 a 0 = nI k) (h2' : w.1 a 2 = nI f) (h3 : w.1 a 3 = nI n) (hi : i < n) : sh_X0_traceByKind a (nI i) w = some (nI (trN k n f i)) := by
  obtain ⟨h1, h2, h4, h5, h6⟩ := h
  simp only [sh_X0_traceByKind, h0, h3, h2', ieq (show k < 2147483648 by omega) (show 0 < 2147483648 by omega), ieq (show k < 2147483648 by omega) (show 1 < 2147483648 by omega), ieq (show k < 2147483648 by omega) (show 2 < 2147483648 by omega), ieq0 (show i < 2147483648 by omega), nI_add, isub h2, ieq (show i < 2147483648 by omega) (show n - 1 < 2147483648 by omega)]
  rcases k_cases h1 with rfl | rfl | rfl | rfl | rfl
  · simp [trN]
  · simp [trN]
  · simp only [trN]; by_cases q : i = 0 <;> simp [q]
  · simp only [trN]; by_cases q : i = n - 1 <;> simp [q]
  · simp only [trN]; by_cases q : i = n - 1 <;> simp [q]
