/-! sums of the reference -/
theorem sumN_app {a b : Nat} {f : Nat → Nat} : sumN (a + b) f = sumN a f + sumN b (fun i => f (a + i)) := by
  induction b with
  | zero => rfl
  | succ b ih => rw [Nat.add_succ, sumN, ih, sumN, Nat.add_assoc]
theorem sumN_mul {u n : Nat} {f : Nat → Nat} : sumN (u * n) f = sumN n (fun e => sumN u (fun i => f (i + u * e))) := by
  induction n with
  | zero => rfl
  | succ n ih =>
    rw [Nat.mul_succ, sumN_app, ih, sumN]
    congr 1
    exact sumN_congr fun i _ => by rw [Nat.add_comm]
theorem sumN_mul2 {u n : Nat} {f : Nat → Nat} : sumN (u * (n * n)) f = sumN n (fun y => sumN n (fun x => sumN u (fun i => f (i + u * (x + n * y))))) := by
  rw [sumN_mul, sumN_mul]
theorem dg_mod {i u e : Nat} (hi : i < u) : (i + u * e) % u = i := by rw [Nat.add_mul_mod_self_left, Nat.mod_eq_of_lt hi]
theorem dg_div {i u e : Nat} (hi : i < u) : (i + u * e) / u = e := by rw [Nat.add_mul_div_left _ _ (by omega), Nat.div_eq_of_lt hi, Nat.zero_add]
theorem dg_div2 {i u n x y : Nat} (hi : i < u) (hx : x < n) : (i + u * (x + n * y)) / (u * n) = y := by
  rw [← Nat.div_div_eq_div_mul, dg_div hi, dg_div hx]
/-! what each place adds -/
def r0 (k n c : Nat) (F : Nat → Nat) (q a : Nat) : Nat := sumN n (fun e => if a + n ^ c * e = q then F a * onN k e else 0)
def r1 (k n f u : Nat) (F : Nat → Nat) (q a : Nat) : Nat := if a % u + u * tgN k n (a / u % n) (a / (u * n)) = q then F a * faN k n f (a / u % n) (a / (u * n)) % 9973 else 0
def r2 (k n f u : Nat) (F : Nat → Nat) (q a : Nat) : Nat := sumN n (fun x => sumN n (fun y => if a % u + u * x + u * n * y = q then F a * spN k n f (a / u) x y % 9973 else 0))
def r3 (k n f u : Nat) (F : Nat → Nat) (q a : Nat) : Nat := if a % u = q then F a * trN k n f (a / u) % 9973 else 0
def r4 (k n u : Nat) (F : Nat → Nat) (q a : Nat) : Nat := if a % u + u * (a / (u * n)) + u * n * (a / u % n) = q then (if sgN k (a / u % n) (a / (u * n)) = 1 then F a else 9973 - F a) else 0
def r5 (k n f u : Nat) (H F : Nat → Nat) (q a : Nat) : Nat := sumN n (fun j => if a % u + u * tgN k n (a / u) j = q then F a * H j % 9973 * faN k n f (a / u) j % 9973 else 0)
def rT (k n f c p : Nat) (F : Nat → Nat) (q : Nat) : Nat → Nat := match p with
  | 0 => r0 k n c F q
  | 1 => r1 k n f (n ^ (c - 2)) F q
  | 2 => r2 k n f (n ^ (c - 1)) F q
  | 3 => r3 k n f (n ^ (c - 1)) F q
  | 4 => r4 k n (n ^ (c - 2)) F q
  | 5 => r5 k n f (n ^ (c - 1)) (hdN k n f) F q
  | _ => r5 k n f (n ^ (c - 1)) (crN k n f) F q
theorem if_mod {p : Prop} [Decidable p] {x y : Nat} (h : x % 9973 = y % 9973) : (if p then x else 0) % 9973 = (if p then y else 0) % 9973 := by
  split
  · exact h
  · rfl
theorem if_modc {p p' : Prop} [Decidable p] [Decidable p'] {x y : Nat} (hp : p ↔ p') (h : x % 9973 = y % 9973) : (if p then x else 0) % 9973 = (if p' then y else 0) % 9973 := by
  by_cases e : p
  · rw [if_pos e, if_pos (hp.mp e)]; exact h
  · rw [if_neg e, if_neg (fun z => e (hp.mpr z))]
theorem r5_eq {k n f u : Nat} {H F : Nat → Nat} {q : Nat} : sumN n (fun e => sumN n (fun j => sumN u (nx5 k n f u H F q e j))) % 9973 = sumN (u * n) (r5 k n f u H F q) % 9973 := by
  rw [sumN_mul]
  refine sumN_modc fun e _ => ?_
  rw [sumN_swap]
  refine sumN_modc fun i hi => ?_
  unfold r5
  rw [dg_mod hi, dg_div hi]
  refine sumN_modc fun j _ => ?_
  unfold nx5
  refine if_mod ?_
  rw [Nat.mod_mod, Nat.mod_mul_mod, Nat.mul_mod_mod, Nat.mul_assoc, Nat.mul_comm (H j)]
theorem rT_eq {k n f c c' p : Nat} {F : Nat → Nat} {q : Nat} (hF : ∀ q, F q < 9973) (hp : p < 7) (hb : bh c p = some c') : nxT k n f c p F q % 9973 = sumN (n ^ c) (rT k n f c p F q) % 9973 := by
  rcases p7 hp with rfl | rfl | rfl | rfl | rfl | rfl | rfl
  · show sumN n (fun e => sumN (n ^ c) (nx0 k n c F q e)) % 9973 = sumN (n ^ c) (r0 k n c F q) % 9973
    rw [sumN_swap]
    rfl
  · have hc2 : 2 ≤ c := by simp only [bh] at hb; split at hb; assumption; cases hb
    rw [pw_2 hc2, sumN_mul2]
    show sumN n (fun x => sumN n (fun y => sumN (n ^ (c - 2)) (nx1 k n f (n ^ (c - 2)) F q x y))) % 9973 = _
    rw [sumN_swap]
    refine sumN_modc fun y hy => sumN_modc fun x hx => sumN_modc fun i hi => ?_
    show _ = r1 k n f (n ^ (c - 2)) F q _ % 9973
    unfold r1
    rw [dg_mod hi, dg_div hi, dg_mod hx, dg_div2 hi hx]
    unfold nx1
    exact if_mod (Nat.mod_mod _ _).symm
  · have hc2 : 1 ≤ c := by simp only [bh] at hb; split at hb; omega; cases hb
    rw [pw_1 hc2, sumN_mul]
    show sumN n (fun e => sumN n (fun x => sumN n (fun y => sumN (n ^ (c - 1)) (nx2 k n f (n ^ (c - 1)) F q e x y)))) % 9973 = _
    refine sumN_modc fun e he => ?_
    have : sumN n (fun x => sumN n (fun y => sumN (n ^ (c - 1)) (nx2 k n f (n ^ (c - 1)) F q e x y))) = sumN (n ^ (c - 1)) (fun i => sumN n (fun x => sumN n (fun y => nx2 k n f (n ^ (c - 1)) F q e x y i))) := by
      rw [sumN_swap (n := n ^ (c - 1))]
      exact sumN_congr fun x _ => sumN_swap
    rw [this]
    refine sumN_modc fun i hi => ?_
    show _ = r2 k n f (n ^ (c - 1)) F q _ % 9973
    unfold r2
    rw [dg_mod hi, dg_div hi]
    refine sumN_modc fun x hx => sumN_modc fun y hy => ?_
    unfold nx2
    refine if_modc ?_ (Nat.mod_mod _ _).symm
    rw [Nat.mul_add, ← Nat.mul_assoc, Nat.add_assoc]
  · have hc2 : 1 ≤ c := by simp only [bh] at hb; split at hb; omega; cases hb
    rw [pw_1 hc2, sumN_mul]
    show sumN n (fun e => sumN (n ^ (c - 1)) (nx3 k n f (n ^ (c - 1)) F q e)) % 9973 = _
    refine sumN_modc fun e he => sumN_modc fun i hi => ?_
    show _ = r3 k n f (n ^ (c - 1)) F q _ % 9973
    unfold r3
    rw [dg_mod hi, dg_div hi]
    unfold nx3
    exact if_mod (Nat.mod_mod _ _).symm
  · have hc2 : 2 ≤ c := by simp only [bh] at hb; split at hb; assumption; cases hb
    rw [pw_2 hc2, sumN_mul2]
    show sumN n (fun x => sumN n (fun y => sumN (n ^ (c - 2)) (nx4 k n (n ^ (c - 2)) F q x y))) % 9973 = _
    rw [sumN_swap]
    refine sumN_modc fun y hy => sumN_modc fun x hx => sumN_modc fun i hi => ?_
    show _ = r4 k n (n ^ (c - 2)) F q _ % 9973
    unfold r4
    rw [dg_mod hi, dg_div hi, dg_mod hx, dg_div2 hi hx]
    unfold nx4
    refine if_modc ?_ ?_
    · rw [Nat.mul_add, ← Nat.mul_assoc, Nat.add_assoc]
    · have := hF (i + n ^ (c - 2) * (x + n * y))
      unfold sgN
      by_cases z : k = 4 ∧ odB x = true ∧ odB y = true
      · rw [if_pos z, if_neg (by omega)]
        omega
      · rw [if_neg z, if_pos rfl, Nat.mul_one]
  · have hc2 : 1 ≤ c := by simp only [bh] at hb; split at hb; omega; cases hb
    rw [pw_1 hc2]
    exact r5_eq
  · have hc2 : 1 ≤ c := by simp only [bh] at hb; split at hb; omega; cases hb
    rw [pw_1 hc2]
    exact r5_eq
/-! the loops -/
def FrM (y : Nat) (w w' : Mem) : Prop := ∀ q, q ≠ y → w' q = w q
theorem FrM.refl {y : Nat} {w : Mem} : FrM y w w := fun _ _ => rfl
theorem FrM.trans {y : Nat} {w w1 w2 : Mem} (h : FrM y w w1) (g : FrM y w1 w2) : FrM y w w2 := fun q a => (g q a).trans (h q a)
theorem amLoop {g : Int32 × Mem → Option ((Int32 × Mem) ⊕ Mem)} {y N n : Nat} {w0 w : Mem} {S : Nat → Nat} {T : Nat → Nat → Nat} (hn : n < 1000) (h1 : FrM y w0 w) (h2 : Ac (w y) N S)
    (hs : ∀ i w' S', i < n → FrM y w0 w' → Ac (w' y) N S' → Ok (g (nI i, w')) (fun r => ∃ w2, r = .inl (nI (i + 1), w2) ∧ FrM y w0 w2 ∧ Ac (w2 y) N (fun q => S' q + T q i)))
    (hx : ∀ w', FrM y w0 w' → g (nI n, w') = some (.inr w')) : Ok (lpw g FU (nI 0, w)) (fun w' => FrM y w0 w' ∧ Ac (w' y) N (fun q => S q + sumN n (T q))) := by
  refine ok_for n (fun i st => ∃ w', st = (nI i, w') ∧ FrM y w0 w' ∧ Ac (w' y) N (fun q => S q + sumN i (T q))) ⟨w, rfl, h1, h2⟩ ?_ ?_ hn
  · rintro i _ hi ⟨w1, rfl, a, b⟩
    refine (hs i w1 _ hi a b).mono fun r hr => ?_
    obtain ⟨w2, rfl, c, d⟩ := hr
    exact ⟨_, rfl, w2, rfl, c, d.same fun q => by simp only [sumN]; omega⟩
  · rintro _ ⟨w1, rfl, a, b⟩
    rw [hx w1 a, ok_some]
    exact ⟨_, rfl, a, b⟩
theorem mCnt {b v : Nat} {S : Nat → Nat} {w : Mem} (hb : b < 216) (hv : v < 1000000000000) (hA : Ac (w 23) 216 S) : Ok (sh_X9_counts (nI b) (lN v) w) (fun w' => FrM 23 w w' ∧ Ac (w' 23) 216 (fun q => S q + if b = q then v else 0)) := by
  have hm := md_lt (S b)
  unfold sh_X9_counts
  refine okb (ldS_ok hb (by omega)) ?_
  rw [hA b hb, nI_l (by omega), lN_add, lrem (by omega) (by omega) (by omega), lN_i, ok_bind]
  refine ok_stM hb (by omega) fun w1 f1 f2 f3 => ?_
  rw [ok_some]
  exact ⟨f1, hA.put f2 f3 fun q => rfl⟩
theorem mPow {x n : Nat} {w : Mem} (h : w 0 3 = nI n) (hx : x < 1000) : sh_X9_power (nI x) w = some (nI (n ^ x)) := by
  have key : Ok (lpw (sh_X9_power_s4 (nI x) w) FU (nI 1, nI 0)) (fun r => r = nI (n ^ x)) := by
    refine ok_for x (fun i st => st = (nI (n ^ i), nI i)) (by rw [Nat.pow_zero]) ?_ ?_ hx
    · rintro i _ hi rfl
      have hni : ¬ x ≤ i := by omega
      simp (disch := omega) only [sh_X9_power_s4, ile, hni, if_false, h, ok_letv, ok_some, inl_ex, nI_add, pk_mul, Nat.pow_succ]
    · rintro _ rfl
      simp only [sh_X9_power_s4, le_nI, if_true, ok_some, inr_ex]
  obtain ⟨r, hr, rfl⟩ := key
  simp only [sh_X9_power, hr, bsome]
/-- a state within a step of the sums -/
def SuD (k n f c : Nat) (F : Nat → Nat) (w : Mem) : Prop := LaidT k n f w ∧ w 0 29 = nI (n ^ c) ∧ Rw (w 22) F (n ^ c)
theorem SuD.fr {k n f c : Nat} {F : Nat → Nat} {w w' : Mem} (h : SuD k n f c F w) (g : FrM 23 w w') : SuD k n f c F w' := by
  obtain ⟨h1, h2, h3⟩ := h
  exact ⟨h1.to (by rw [g 0 (by omega)]; exact ⟨rfl, rfl⟩) fun q a b => g q (by omega), by rw [g 0 (by omega)]; exact h2, by rw [g 22 (by omega)]; exact h3⟩
theorem mTurn5 {b k n f c a : Nat} {F H S : Nat → Nat} {w0 w : Mem} (hb : b = 8 ∨ b = 9) (hk : KN k n f) (hc : c ≤ 3) (hc1 : 1 ≤ c) (hF : ∀ q, F q < 9973) (hH : ∀ q, H q < 9973) (hHw : Rw (w0 b) H n) (h : SuD k n f c F w0) (ha : a < n ^ c) (g : FrM 23 w0 w) (hA : Ac (w 23) 216 S) : Ok (sh_X9_turns_j166 (nI (n ^ (c - 1))) (lN (F a)) (nI (a / n ^ (c - 1))) (nI (a % n ^ (c - 1))) b w) (fun w' => FrM 23 w0 w' ∧ Ac (w' 23) 216 (fun q => S q + r5 k n f (n ^ (c - 1)) H F q a)) := by
  have h4 := hk.2.2.1
  have hn1 := hk.2.1
  have hpc := pw_le h4 hc
  have hp1 := pw_1 (n := n) hc1
  have hu0 : 0 < n ^ (c - 1) := Nat.pow_pos (by omega)
  generalize hu : n ^ (c - 1) = u at *
  have he : a / u < n := Nat.div_lt_of_lt_mul (by rw [← hp1]; exact ha)
  have hlo : a % u < u := Nat.mod_lt _ hu0
  have hFa := hF a
  unfold sh_X9_turns_j166
  rw [ok_bind]
  simp only [ok_some]
  refine (amLoop (n := n) (T := fun q j => if a % u + u * tgN k n (a / u) j = q then F a * H j % 9973 * faN k n f (a / u) j % 9973 else 0) (by omega) g hA ?_ ?_).mono fun w1 h1 => h1
  · intro j w1 S1 hj g1 A1
    have hh := h.fr g1
    have hnj : ¬ n ≤ j := by omega
    have htg := tgN_lt hk he hj
    have hfa := faN_lt (i := a / u) (j := j) hk
    have hHj := hH j
    have v4 : w1 b j = nI (H j) := by rw [g1 b (by omega)]; exact hHw j hj
    have hix : a / u * 6 + j < 36 := by omega
    have hb2 := ix1 hlo htg
    have b1 := mul_lt' hFa hHj
    have b2 := md_lt (F a * H j)
    have b3 := mul_lt' b2 hfa
    have b4 := md_lt (F a * H j % 9973 * faN k n f (a / u) j)
    have hb6 : ldS 6 b (nI j) w1 = some (w1 b j) := ldS_ok (by omega) (by omega)
    simp (disch := omega) only [sh_X9_turns_s171, hh.1.1.1, ile, hnj, if_false]
    refine okb mAt (okb (ldS_ok hix (by omega)) (okb hb6 (okb mAt (okb (ldS_ok hix (by omega)) ?_))))
    rw [hh.1.2.1.get he hj, hh.1.2.2.1.get he hj, v4, nI_l (by omega), nI_l (by omega), lN_mul, lrem (by omega) (by omega) (by omega), lN_mul, lrem (by omega) (by omega) (by omega), pk_mul, nI_add, ok_bind]
    refine (mCnt (by omega) (by omega) A1).mono fun w2 h2 => ?_
    simp only [ok_letv, ok_some, nI_add]
    exact ⟨w2, rfl, g1.trans h2.1, h2.2⟩
  · intro w1 g1
    have hh := h.fr g1
    simp only [sh_X9_turns_s171, hh.1.1.1, le_nI, if_true]
theorem mTurn {p k n f c c' a : Nat} {F S : Nat → Nat} {w0 w : Mem} (hp : p = 2 ∨ p = 3 ∨ p = 5 ∨ p = 6) (hk : KN k n f) (hc : c ≤ 3) (hb : bh c p = some c') (hF : ∀ q, F q < 9973) (h : SuD k n f c F w0) (ha : a < n ^ c) (g : FrM 23 w0 w) (hA : Ac (w 23) 216 S) : Ok (sh_X9_turns (nI p) (nI a) (nI (n ^ (c - 1))) w) (fun w' => FrM 23 w0 w' ∧ Ac (w' 23) 216 (fun q => S q + rT k n f c p F q a)) := by
  have hc1 : 1 ≤ c := by rcases hp with rfl | rfl | rfl | rfl <;> simp only [bh] at hb <;> split at hb <;> first | (cases hb; done) | omega
  have h4 := hk.2.2.1
  have hn1 := hk.2.1
  have hpc := pw_le h4 hc
  have hp1 := pw_1 (n := n) hc1
  have hu0 : 0 < n ^ (c - 1) := Nat.pow_pos (by omega)
  have hpu := pw_le h4 (show c - 1 ≤ 3 by omega)
  obtain ⟨u, hu⟩ : ∃ u, u = n ^ (c - 1) := ⟨_, rfl⟩
  have he : a / u < n := Nat.div_lt_of_lt_mul (by rw [hu, ← hp1]; exact ha)
  have hlo : a % u < u := Nat.mod_lt _ (by omega)
  have hFa := hF a
  have hh := h.fr g
  have hune : ¬ nI (n ^ (c - 1)) = 0 := nI_ne0 hu0 (by omega)
  unfold sh_X9_turns
  refine okb (ldS_ok (by omega) (by omega)) (okg hune ?_)
  rw [hh.2.2 a ha, ok_letv, idiv (by omega) hu0 (by omega), nI_l (by omega)]
  refine okg hune ?_
  rw [ok_letv, irem (by omega) hu0 (by omega)]
  rcases hp with rfl | rfl | rfl | rfl
  · -- a split
    obtain rfl : c' = c + 1 := by simp only [bh] at hb; split at hb; exact (Option.some.inj hb).symm; cases hb
    have hc3 : c + 1 ≤ 3 := (bh_le hc hb).1
    have hpw := pw_le h4 hc3
    have hp2 : n ^ (c + 1) = n ^ (c - 1) * (n * n) := by
      have := pw_2 (n := n) (c := c + 1) (by omega)
      rwa [show c + 1 - 2 = c - 1 by omega] at this
    refine okt rfl ?_
    rw [ok_bind]
    simp only [ok_some]
    rw [← hu] at hp2 ⊢
    refine (amLoop (n := n) (T := fun q x => sumN n (fun y => if a % u + u * x + u * n * y = q then F a * spN k n f (a / u) x y % 9973 else 0)) (by omega) g hA ?_ ?_).mono fun w1 h1 => ?_
    · intro x w1 S1 hx g1 A1
      have hh1 := h.fr g1
      have hnx : ¬ n ≤ x := by omega
      simp (disch := omega) only [sh_X9_turns_s51, hh1.1.1.1, ile, hnx, if_false, ok_bind]
      refine (amLoop (n := n) (T := fun q y => if a % u + u * x + u * n * y = q then F a * spN k n f (a / u) x y % 9973 else 0) (by omega) g1 A1 ?_ ?_).mono fun w2 h2 => ?_
      · intro y w2 S2 hy g2 A2
        have hh2 := h.fr g2
        have hny : ¬ n ≤ y := by omega
        have hsp := spN_lt (k := k) (n := n) (f := f) (e := a / u) (j := x) (q := y)
        have b1 := mul_lt' hFa hsp
        have b2 := md_lt (F a * spN k n f (a / u) x y)
        have hix := ix2 hlo hx hy
        rw [Nat.mul_add, ← Nat.mul_assoc, ← Nat.add_assoc] at hix
        simp (disch := omega) only [sh_X9_turns_s63, hh2.1.1.1, ile, hny, if_false]
        refine okb (mSpl hk hh2.1 he hx hy) ?_
        rw [nI_l (by omega), lN_mul, lrem (by omega) (by omega) (by omega), pk_mul, pk_mul, pk_mul, nI_add, nI_add, ok_bind]
        refine (mCnt (by omega) (by omega) A2).mono fun w3 h3 => ?_
        simp only [ok_letv, ok_some, nI_add]
        exact ⟨w3, rfl, g2.trans h3.1, h3.2⟩
      · intro w2 g2
        have hh2 := h.fr g2
        simp only [sh_X9_turns_s63, hh2.1.1.1, le_nI, if_true]
      · simp only [ok_letv, ok_some, nI_add]
        exact ⟨w2, rfl, h2.1, h2.2⟩
    · intro w1 g1
      have hh1 := h.fr g1
      simp only [sh_X9_turns_s51, hh1.1.1.1, le_nI, if_true]
    · refine ⟨h1.1, ?_⟩
      have := h1.2
      rw [hu] at this
      exact this
  · -- a disc
    have htr := trN_lt hk he
    have b1 := mul_lt' hFa (show trN k n f (a / u) < 9973 by omega)
    have b2 := md_lt (F a * trN k n f (a / u))
    refine okf (by decide) (okt rfl ?_)
    rw [← hu]
    refine okb (ldS_ok (by omega) (by omega)) ?_
    rw [hh.1.2.2.2.2.1 _ he, nI_l (by omega), lN_mul, lrem (by omega) (by omega) (by omega), ok_bind]
    refine (mCnt (by omega) (by omega) hA).mono fun w3 h3 => ?_
    rw [ok_some]
    refine ⟨g.trans h3.1, ?_⟩
    have := h3.2
    rw [hu] at this
    exact this
  · refine okf (by decide) (okf (by decide) (okt rfl ?_))
    exact mTurn5 (Or.inl rfl) hk hc hc1 hF (fun _ => hdN_lt) h.1.2.2.2.2.2.2.1 h ha g hA
  · refine okf (by decide) (okf (by decide) (okf (by decide) ?_))
    exact mTurn5 (Or.inr rfl) hk hc hc1 hF (fun _ => crN_lt) h.1.2.2.2.2.2.2.2 h ha g hA
theorem mOdB : ∀ i, i < 4 → sh_X9_odd (nI i) = some (if odB i then nI 1 else nI 0) := by decide +kernel
theorem mJoin {p k n f c c' a : Nat} {F S : Nat → Nat} {w0 w : Mem} (hp : p = 1 ∨ p = 4) (hk : KN k n f) (hc : c ≤ 3) (hb : bh c p = some c') (hF : ∀ q, F q < 9973) (h : SuD k n f c F w0) (ha : a < n ^ c) (g : FrM 23 w0 w) (hA : Ac (w 23) 216 S) : Ok (sh_X9_joins (nI p) (nI a) (nI (n ^ (c - 2))) w) (fun w' => FrM 23 w0 w' ∧ Ac (w' 23) 216 (fun q => S q + rT k n f c p F q a)) := by
  have hc2 : 2 ≤ c := by rcases hp with rfl | rfl <;> simp only [bh] at hb <;> split at hb <;> first | (cases hb; done) | omega
  have h4 := hk.2.2.1
  have hk4 := hk.1
  have hn1 := hk.2.1
  have hpc := pw_le h4 hc
  have hp2 := pw_2 (n := n) hc2
  have hu0 : 0 < n ^ (c - 2) := Nat.pow_pos (by omega)
  have hpu := pw_le h4 (show c - 2 ≤ 3 by omega)
  obtain ⟨u, hu⟩ : ∃ u, u = n ^ (c - 2) := ⟨_, rfl⟩
  have hun0 : 0 < u * n := Nat.mul_pos (by omega) (by omega)
  have hunl : u * n ≤ n ^ c := by
    rw [hp2, ← hu]
    exact Nat.mul_le_mul_left u (Nat.le_mul_of_pos_right n (by omega))
  have hy : a / (u * n) < n := Nat.div_lt_of_lt_mul (by rw [Nat.mul_assoc, hu, ← hp2]; exact ha)
  have hx : a / u % n < n := Nat.mod_lt _ (by omega)
  have hlo : a % u < u := Nat.mod_lt _ (by omega)
  have hFa := hF a
  have hh := h.fr g
  have hau := Nat.div_le_self a u
  have hune : ¬ nI u = 0 := nI_ne0 (by omega) (by omega)
  have hunne : ¬ nI (u * n) = 0 := nI_ne0 hun0 (by omega)
  have hnne : ¬ nI n = 0 := nI_ne0 (by omega) (by omega)
  unfold sh_X9_joins
  rw [hh.1.1.1, pk_mul, ← hu]
  refine okb (ldS_ok (by omega) (by omega)) (okg hunne ?_)
  rw [hh.2.2 a ha, ok_letv, idiv (by omega) hun0 (by omega), nI_l (by omega)]
  refine okg hune (okg hnne ?_)
  rw [idiv (by omega) (by omega) (by omega), ok_letv, irem (by omega) (by omega) (by omega)]
  refine okg hune ?_
  rw [ok_letv, irem (by omega) (by omega) (by omega)]
  rcases hp with rfl | rfl
  · have htg := tgN_lt hk hx hy
    have hfa := faN_lt (i := a / u % n) (j := a / (u * n)) hk
    have hix : a / u % n * 6 + a / (u * n) < 36 := by omega
    have b1 := mul_lt' hFa hfa
    have b2 := md_lt (F a * faN k n f (a / u % n) (a / (u * n)))
    have b3 := ix1 hlo htg
    refine okt rfl (okb mAt (okb (ldS_ok hix (by omega)) (okb mAt (okb (ldS_ok hix (by omega)) ?_))))
    rw [hh.1.2.1.get hx hy, hh.1.2.2.1.get hx hy, nI_l (by omega), lN_mul, lrem (by omega) (by omega) (by omega), pk_mul, nI_add, ok_bind]
    refine (mCnt (by omega) (by omega) hA).mono fun w3 h3 => ?_
    rw [ok_some]
    refine ⟨g.trans h3.1, ?_⟩
    have := h3.2
    rw [hu] at this
    exact this
  · refine okf (by decide) ?_
    have hix := ix2 hlo hy hx
    rw [Nat.mul_add, ← Nat.mul_assoc, ← Nat.add_assoc, ← show n ^ c = u * (n * n) by rw [hu]; exact hp2] at hix
    have key : ∀ (s : Int32) (v : Nat), (s = nI 0 ∧ v = F a ∧ sgN k (a / u % n) (a / (u * n)) = 1) ∨ (s = nI 1 ∧ v = 9973 - F a ∧ ¬ sgN k (a / u % n) (a / (u * n)) = 1) → Ok (sh_X9_joins_j116 (nI u) (lN (F a)) (nI (a / (u * n))) (nI (a / u % n)) (nI (a % u)) s w) (fun w' => FrM 23 w0 w' ∧ Ac (w' 23) 216 (fun q => S q + rT k n f c 4 F q a)) := by
      intro s v hs
      have fin : Ok (sh_X9_joins_j152 (nI (a % u + u * (a / (u * n)) + u * n * (a / u % n))) (lN v) w) (fun w' => FrM 23 w0 w' ∧ Ac (w' 23) 216 (fun q => S q + rT k n f c 4 F q a)) := by
        unfold sh_X9_joins_j152
        rw [ok_bind]
        refine (mCnt (by omega) (by omega) hA).mono fun w3 h3 => ?_
        rw [ok_some]
        refine ⟨g.trans h3.1, h3.2.same fun q => ?_⟩
        show S q + r4 k n (n ^ (c - 2)) F q a = _
        unfold r4
        rw [← hu]
        rcases hs with ⟨-, h2, h3⟩ | ⟨-, h2, h3⟩
        · rw [if_pos h3, h2]
        · rw [if_neg h3, h2]
      unfold sh_X9_joins_j116
      rw [hh.1.1.1, pk_mul, pk_mul, pk_mul, nI_add, nI_add]
      rcases hs with ⟨rfl, rfl, -⟩ | ⟨rfl, rfl, -⟩
      · exact okt rfl fin
      · refine okf (by decide) ?_
        rw [show lN 9973 - lN (F a) = lN (9973 - F a) from lN_sub (by omega)]
        exact fin
    rw [hh.1.1.2]
    by_cases z : k = 4
    · have h5 := hk.2.2.2.1 z
      refine okt (by rw [z]) (okb (mOdB _ (by omega)) ?_)
      by_cases z1 : odB (a / u % n) = true
      · rw [if_pos z1]
        refine okt rfl (okb (mOdB _ (by omega)) ?_)
        by_cases z2 : odB (a / (u * n)) = true
        · rw [if_pos z2]
          refine okt rfl (key _ (9973 - F a) (Or.inr ⟨rfl, rfl, ?_⟩))
          unfold sgN
          rw [if_pos ⟨z, z1, z2⟩]
          decide
        · rw [if_neg z2]
          refine okf (by decide) (key _ (F a) (Or.inl ⟨rfl, rfl, ?_⟩))
          unfold sgN
          rw [if_neg fun y => z2 y.2.2]
      · rw [if_neg z1]
        refine okf (by decide) (key _ (F a) (Or.inl ⟨rfl, rfl, ?_⟩))
        unfold sgN
        rw [if_neg fun y => z1 y.2.1]
    · refine okf (by rw [ieq (by omega) (by omega)]; exact z) (key _ (F a) (Or.inl ⟨rfl, rfl, ?_⟩))
      unfold sgN
      rw [if_neg fun y => z y.1]
