/-! the reference's algebras -/
theorem ok_stM {n c i : Nat} {v : Int32} {w : Mem} {P : Mem → Prop} (hi : i < n) (hn : n < 2147483648) (h : ∀ w' : Mem, (∀ q, q ≠ c → w' q = w q) → (∀ j, j ≠ i → w' c j = w c j) → w' c i = v → P w') : Ok (stM n c (nI i) v w) P :=
  Ok.of (stM_ok hi hn) (h (mset w c i v) (fun _ hq => mset_ncf hq) (fun _ hj => mset_ni hj) mset_same)
theorem ok_ms {c i : Nat} {v : Int32} {w : Mem} {β : Type} {f : Mem → Option β} {P : β → Prop} (h : ∀ w' : Mem, (∀ q, q ≠ c → w' q = w q) → (∀ j, j ≠ i → w' c j = w c j) → w' c i = v → Ok (f w') P) : Ok (letv (mset w c i v) f) P :=
  h (mset w c i v) (fun _ hq => mset_ncf hq) (fun _ hj => mset_ni hj) mset_same
theorem mAt {i j : Nat} : sh_X9_at (nI i) (nI j) = some (nI (i * 6 + j)) := by
  unfold sh_X9_at
  rw [pk_mul, nI_add, Nat.mul_comm]
theorem lrem {a b : Nat} (ha : a < 2 ^ 63) (h0 : 0 < b) (hb : b < 2 ^ 63) : remL (lN a) (lN b) = lN (a % b) := pk_lRem ha h0 hb
theorem mMod {b : Nat} (hb : b < 9973) : sh_X9_mod (nI b).toInt64 = some (nI b) := by
  unfold sh_X9_mod
  rw [nI_l (by omega), lrem (by omega) (by omega) (by omega), lN_add, lrem (by omega) (by omega) (by omega), lN_i]
  rw [Nat.mod_eq_of_lt hb, Nat.add_mod_right, Nat.mod_eq_of_lt hb]
theorem mModN : sh_X9_mod (-1 : Int32).toInt64 = some (nI 9972) := by decide +kernel
theorem mInv {v : Nat} (hv : v < 9973) : sh_X9_inverse (nI v) = some (nI (ivN v)) := by
  have key : Ok (lpw sh_X9_inverse_s8 FU (nI 1, nI v, nI 9971)) (fun x => x = nI (ivN v)) := by
    refine ok_for 14 (fun k s => s = (nI (ivS v k).1, nI (ivS v k).2, nI (9971 / 2 ^ k))) rfl ?_ ?_ (by decide)
    · rintro k s hk rfl
      obtain ⟨h1, h2, h3⟩ := iv_left k hk
      obtain ⟨b1, b2⟩ := ivS_lt hv k
      generalize hr : (ivS v k).1 = r at b1
      generalize hq : (ivS v k).2 = q at b2
      generalize hl : 9971 / 2 ^ k = l at h1 h2 h3
      have m1 := mul_lt' b1 b2
      have m2 := mul_lt' b2 b2
      simp only [sh_X9_inverse_s8, sh_X9_inverse_j30, ile0 h2, h1, if_false, nI_and1 h2, ieq (show l % 2 < 2147483648 by omega) (show 1 < 2147483648 by omega), pk_mul, irem (show r * q < 2147483648 by omega) (show 0 < 9973 by omega) (show 9973 < 2147483648 by omega), irem (show q * q < 2147483648 by omega) (show 0 < 9973 by omega) (show 9973 < 2147483648 by omega), letv_eq, nI_shr1 h2]
      split
      · rename_i e
        simp only [ok_some, inl_ex, ivS, hr, hq, hl, h3, e, if_true]
      · rename_i e
        simp only [ok_some, inl_ex, ivS, hr, hq, hl, h3, e, if_false]
    · rintro s rfl
      simp only [sh_X9_inverse_s8, ile0 (show 9971 / 2 ^ 14 < 2147483648 by decide), show (9971 / 2 ^ 14 = 0) = True by simp, if_true, ok_some, inr_ex]
      rfl
  obtain ⟨x, hx, rfl⟩ := key
  unfold sh_X9_inverse
  rw [hx]
  rfl
theorem mSgn : ∀ i, i < 4 → ∀ j, j < 4 → sh_X9_sign (nI i) (nI j) = some (if i / 2 = 1 ∧ j % 2 = 1 then (-1 : Int32) else nI 1) := by decide +kernel
theorem mEl {a k s f : Nat} {w : Mem} (hv : VA k s f) (ha : a < 4) (h1 : w 1 (1 + a) = nI k) (h2 : w 1 (5 + a) = nI s) : sh_X9_elements (nI a) w = some (nI (eN k s)) := by
  have hk := hv.1
  have hs := hv.2.2.2.1
  simp (disch := omega) only [sh_X9_elements, nI_add, ldS_ok (show 1 + a < 130 by omega), ldS_ok (show 5 + a < 130 by omega), bsome, h1, h2, ieq, eN]
  split
  · rename_i e
    rw [shl_1 s (by have := hv.2.2.1 e; omega)]
  · rfl
/-- the head of what is laid out, and how much of the tables -/
def TbI (k n f : Nat) (m : Mem) (i j : Nat) : Prop := (m 0 3 = nI n ∧ m 0 4 = nI k) ∧ Tb (m 3) 6 n (tgN k n) i j ∧ Tb (m 4) 6 n (faN k n f) i j
def OutM (m0 m : Mem) : Prop := (∀ q, q ≠ 0 → (q < 3 ∨ 9 < q) → m q = m0 q) ∧ ∀ i, i ≠ 3 → i ≠ 4 → m 0 i = m0 0 i
theorem OutM.refl {m : Mem} : OutM m m := ⟨fun _ _ _ => rfl, fun _ _ _ => rfl⟩
theorem OutM.trans {m m1 m2 : Mem} (h : OutM m m1) (h2 : OutM m1 m2) : OutM m m2 := ⟨fun q a b => (h2.1 q a b).trans (h.1 q a b), fun i a b => (h2.2 i a b).trans (h.2 i a b)⟩
theorem OutM.put {m m1 m2 : Mem} (h : OutM m m1) {c : Nat} (hc : 3 ≤ c ∧ c ≤ 9) (g : ∀ q, q ≠ c → m2 q = m1 q) : OutM m m2 := ⟨fun q a b => (g q (by omega)).trans (h.1 q a b), fun i a b => by rw [g 0 (by omega)]; exact h.2 i a b⟩
theorem mPr {k n f i j : Nat} {w : Mem} {P : (Int32 × Mem) ⊕ Mem → Prop} (h : KN k n f) (h3 : w 0 3 = nI n) (h4 : w 0 4 = nI k) (hi : i < n) (hj : j < n) (hP : ∀ v : Int32, sh_X9_mod v.toInt64 = some (nI (faN k n f i j)) → Ok (sh_X9_products_j116 (nI f) (nI i) (nI j) (nI (tgN k n i j)) v w) P) : Ok (sh_X9_products_s12 (nI f) (nI i) (nI j, w)) P := by
  obtain ⟨h1, h2, h5, h6, h7⟩ := h
  have hnj : ¬ n ≤ j := by omega
  have hf0 : sh_X9_mod (nI 0).toInt64 = some (nI 0) := mMod (by omega)
  have hf1 : sh_X9_mod (nI 1).toInt64 = some (nI 1) := mMod (by omega)
  have hff : sh_X9_mod (nI f).toInt64 = some (nI f) := mMod (by omega)
  simp (disch := omega) only [sh_X9_products_s12, h3, ile, hnj, if_false, ieq]
  rcases k_cases h1 with rfl | rfl | rfl | rfl | rfl
  · simp (disch := omega) only [sh_X9_products_j33, sh_X9_products_j86, h4, ieq, Nat.reduceEqDiff, reduceIte]
    split
    · rename_i e
      exact hP _ (by rw [hf1]; simp [faN, e])
    · rename_i e
      exact hP _ (by rw [hf0]; simp [faN, e])
  · simp (disch := omega) only [sh_X9_products_j33, sh_X9_products_j86, h4, ieq, Nat.reduceEqDiff, reduceIte]
    split
    · rename_i e
      exact hP _ (by rw [hf1]; simp [faN, e])
    · rename_i e
      exact hP _ (by rw [hf0]; simp [faN, e])
  · have key : ∀ s0 : Int32, Ok (sh_X9_products_j33 (nI f) (nI i) (nI j) (nI i) s0 w) P := by
      intro s0
      simp (disch := omega) only [sh_X9_products_j33, sh_X9_products_j51, sh_X9_products_j83, sh_X9_products_j84, sh_X9_products_j86, h4, h3, ieq, ieq0, nI_add, irem, letv_eq, Nat.reduceEqDiff, reduceIte]
      refine okg (by omega) ?_
      exact hP _ (by rw [hf1]; simp [faN])
    split
    · exact key _
    · exact key _
  · have key : ∀ s0 : Int32, Ok (sh_X9_products_j33 (nI f) (nI i) (nI j) (nI i) s0 w) P := by
      intro s0
      simp (disch := omega) only [sh_X9_products_j33, sh_X9_products_j51, sh_X9_products_j83, sh_X9_products_j84, sh_X9_products_j86, h4, h3, ieq, ieq0, nI_add, irem, letv_eq, ilt, Nat.reduceEqDiff, reduceIte]
      refine okg (by omega) ?_
      by_cases e : i + j < n
      · refine okt e ?_
        exact hP _ (by rw [hf1]; simp [faN, e])
      · refine okf e ?_
        exact hP _ (by rw [hff]; simp [faN, e])
    split
    · exact key _
    · exact key _
  · have hn := h6 rfl
    have key : ∀ s0 : Int32, Ok (sh_X9_products_j33 (nI f) (nI i) (nI j) (nI i) s0 w) P := by
      intro s0
      simp (disch := omega) only [sh_X9_products_j33, sh_X9_products_j86, sh_X9_products_j114, h4, h3, ieq, letv_eq, nI_or4 i (show i < 4 by omega) j (show j < 4 by omega), mSgn i (show i < 4 by omega) j (show j < 4 by omega), bsome, Nat.reduceEqDiff, reduceIte]
      have ha := nI_and4 i (show i < 4 by omega) j (show j < 4 by omega)
      by_cases e : i &&& j = 0
      · refine okt (ha.mpr e) ?_
        refine hP _ ?_
        by_cases e2 : i / 2 = 1 ∧ j % 2 = 1
        · rw [if_pos e2, mModN]; simp [faN, e, e2]
        · rw [if_neg e2, hf1]; simp only [faN]; simp [e, e2]
      · refine okf (fun z => e (ha.mp z)) ?_
        exact hP _ (by rw [hf0]; simp [faN, e])
    split
    · exact key _
    · exact key _
theorem mPro {k n f : Nat} {w : Mem} (h : KN k n f) (h3 : w 0 3 = nI n) (h4 : w 0 4 = nI k) : Ok (sh_X9_products (nI f) w) (fun w' => TbI k n f w' n 0 ∧ OutM w w') := by
  have h6 := h.2.2.1
  simp only [sh_X9_products, ok_bind, ok_some]
  refine ok_for n (fun i st => ∃ w', st = (nI i, w') ∧ TbI k n f w' i 0 ∧ OutM w w') ⟨w, rfl, ⟨⟨h3, h4⟩, Tb.zero, Tb.zero⟩, OutM.refl⟩ ?_ ?_ (by omega)
  · rintro i _ hi ⟨w1, rfl, ⟨hh, hg, hf⟩, ho⟩
    have hni : ¬ n ≤ i := by omega
    simp (disch := omega) only [sh_X9_products_s2, hh.1, ile, hni, if_false, ok_bind]
    refine (ok_for n (fun j st => ∃ w', st = (nI j, w') ∧ TbI k n f w' i j ∧ OutM w w') (P := fun w' => TbI k n f w' i n ∧ OutM w w') ⟨w1, rfl, ⟨hh, hg, hf⟩, ho⟩ ?_ ?_ (by omega)).mono fun w2 h2 => ?_
    · rintro j _ hj ⟨w2, rfl, ⟨hh, hg, hf⟩, ho⟩
      refine mPr h hh.1 hh.2 hi hj fun v hv => ?_
      simp only [sh_X9_products_j116, mAt, bsome, hv, ok_bind, ok_some]
      refine ok_stM (by omega) (by omega) fun w3 f1 f2 f3 => ?_
      refine ok_stM (by omega) (by omega) fun w4 g1 g2 g3 => ?_
      simp only [ok_letv, ok_some, inl_ex, nI_add]
      refine ⟨w4, rfl, ⟨by rw [g1 _ (by omega), f1 _ (by omega)]; exact hh, ?_, ?_⟩, (ho.put (by omega) f1).put (by omega) g1⟩
      · rw [g1 _ (by omega)]; exact hg.put (by omega) hj f2 f3
      · exact hf.put (by omega) hj (fun q hq => by rw [g2 q hq, f1 _ (by omega)]) g3
    · rintro _ ⟨w2, rfl, ⟨hh, hg, hf⟩, ho⟩
      simp (disch := omega) only [sh_X9_products_s12, hh.1, ile, Nat.le_refl, if_true, ok_some, inr_ex]
      exact ⟨⟨hh, hg, hf⟩, ho⟩
    · simp only [ok_letv, ok_some, inl_ex, nI_add]
      exact ⟨w2, rfl, ⟨h2.1.1, h2.1.2.1.row, h2.1.2.2.row⟩, h2.2⟩
  · rintro _ ⟨w1, rfl, ⟨hh, hg, hf⟩, ho⟩
    simp (disch := omega) only [sh_X9_products_s2, hh.1, ile, Nat.le_refl, if_true, ok_some, inr_ex]
    exact ⟨⟨hh, hg, hf⟩, ho⟩
def LyI (k n f : Nat) (m0 m : Mem) : Prop := TbI k n f m n 0 ∧ OutM m0 m
theorem LyI.to {k n f : Nat} {m0 m m' : Mem} (h : LyI k n f m0 m) {c : Nat} (hc : 5 ≤ c ∧ c ≤ 9) (g : ∀ q, q ≠ c → m' q = m q) : LyI k n f m0 m' := by
  obtain ⟨⟨hh, hg, hf⟩, ho⟩ := h
  refine ⟨⟨?_, ?_, ?_⟩, ho.put (by omega) g⟩ <;> rw [g _ (by omega)] <;> assumption
def Ly1 (k n f : Nat) (m0 m : Mem) (i : Nat) : Prop := LyI k n f m0 m ∧ Rw (m 5) (trN k n f) i ∧ Rw (m 6) (onN k) i ∧ Rw (m 8) (fun _ => 0) i ∧ Rw (m 9) (fun _ => 0) i
theorem mLy1 {k n f : Nat} {m0 w : Mem} (h : KN k n f) (hI : LyI k n f m0 w) : Ok (lpw (sh_X9_laysOut_s28 (nI f)) FU (nI 0, w)) (fun w' => Ly1 k n f m0 w' n) := by
  obtain ⟨h1, h2, h4, h5, h6⟩ := id h
  refine ok_for n (fun i st => ∃ w', st = (nI i, w') ∧ Ly1 k n f m0 w' i) ⟨w, rfl, hI, Rw.zero, Rw.zero, Rw.zero, Rw.zero⟩ ?_ ?_ (by omega)
  · rintro i _ hi ⟨w1, rfl, hA, ht, hu, hh, hc⟩
    have hni : ¬ n ≤ i := by omega
    have key : ∀ v x4 : Int32, v = nI (trN k n f i) → x4 = nI (if k ≤ 1 then 1 else 0) → Ok (sh_X9_laysOut_j117 (nI f) (nI i) x4 5 (nI i) v w1) (fun r => ∃ s', r = .inl s' ∧ ∃ w', s' = (nI (i + 1), w') ∧ Ly1 k n f m0 w' (i + 1)) := by
      intro v x4 hv hx
      simp only [sh_X9_laysOut_j117, ok_bind]
      refine ok_stM (by omega) (by omega) fun w2 f1 f2 f3 => ?_
      have key2 : ∀ u : Int32, u = nI (onN k i) → Ok (sh_X9_laysOut_j137 (nI f) (nI i) 6 (nI i) u w2) (fun r => ∃ s', r = .inl s' ∧ ∃ w', s' = (nI (i + 1), w') ∧ Ly1 k n f m0 w' (i + 1)) := by
        intro u hu2
        simp only [sh_X9_laysOut_j137, ok_bind]
        refine ok_stM (by omega) (by omega) fun w3 g1 g2 g3 => ?_
        refine ok_stM (by omega) (by omega) fun w4 d1 d2 d3 => ?_
        refine ok_stM (by omega) (by omega) fun w5 e1 e2 e3 => ?_
        simp only [ok_letv, ok_some, inl_ex, nI_add]
        refine ⟨w5, rfl, (((hA.to (by omega) f1).to (by omega) g1).to (by omega) d1).to (by omega) e1, ?_, ?_, ?_, ?_⟩
        · rw [e1 _ (by omega), d1 _ (by omega), g1 _ (by omega)]; exact ht.put f2 (f3.trans hv)
        · rw [e1 _ (by omega), d1 _ (by omega)]; exact hu.put (fun q hq => by rw [g2 q hq, f1 _ (by omega)]) (g3.trans hu2)
        · rw [e1 _ (by omega)]; exact hh.put (fun q hq => by rw [d2 q hq, g1 _ (by omega), f1 _ (by omega)]) d3
        · exact hc.put (fun q hq => by rw [e2 q hq, d1 _ (by omega), g1 _ (by omega), f1 _ (by omega)]) e3
      simp only [sh_X9_laysOut_j132]
      rw [hx]
      by_cases hk : k ≤ 1
      · rw [if_pos hk]
        refine okf (by rw [ieq0 (by omega)]; omega) (key2 _ ?_)
        unfold onN
        rw [if_pos (Or.inl hk)]
      · rw [if_neg hk]
        refine okt (by rw [ieq0 (by omega)]) ?_
        by_cases e : i = 0
        · refine okt (by rw [ieq0 (by omega)]; exact e) (key2 _ ?_)
          unfold onN
          rw [if_pos (Or.inr e)]
        · refine okf (by rw [ieq0 (by omega)]; exact e) (key2 _ ?_)
          unfold onN
          rw [if_neg (by omega)]
    obtain ⟨hh3, hh4⟩ := hA.1.1
    simp (disch := omega) only [sh_X9_laysOut_s28, hh3, hh4, ile, hni, if_false, ieq, ieq0, sh_X9_laysOut_j51, sh_X9_laysOut_j56, sh_X9_laysOut_j109, nI_add, isub]
    rcases k_cases h1 with rfl | rfl | rfl | rfl | rfl
    · simp only [reduceIte, Nat.reduceEqDiff]
      exact key _ _ rfl rfl
    · simp only [reduceIte, Nat.reduceEqDiff]
      exact key _ _ rfl rfl
    · simp only [reduceIte, Nat.reduceEqDiff]
      by_cases e : i = 0
      · exact okt e (key _ _ (by simp [trN, e]) rfl)
      · exact okf e (key _ _ (by simp [trN, e]) rfl)
    · simp only [reduceIte, Nat.reduceEqDiff]
      by_cases e : i = n - 1
      · exact okt e (key _ _ (by simp [trN, e]) rfl)
      · exact okf e (key _ _ (by simp [trN, e]) rfl)
    · simp only [reduceIte, Nat.reduceEqDiff]
      by_cases e : i = n - 1
      · exact okt e (key _ _ (by simp [trN, e]) rfl)
      · exact okf e (key _ _ (by simp [trN, e]) rfl)
  · rintro _ ⟨w1, rfl, hA, hr⟩
    simp (disch := omega) only [sh_X9_laysOut_s28, hA.1.1.1, ile, Nat.le_refl, if_true, ok_some, inr_ex]
    exact ⟨hA, hr⟩
theorem mFo {k n f i j : Nat} {w : Mem} (h : KN k n f) (ht : Rw (w 5) (trN k n f) n) (hg : Tb (w 3) 6 n (tgN k n) n 0) (hf : Tb (w 4) 6 n (faN k n f) n 0) (hi : i < n) (hj : j < n) : sh_X9_formOf (nI i) (nI j) w = some (nI (foN k n f i j)) := by
  have h4 := h.2.2.1
  have htg := tgN_lt h hi hj
  have hm := mul_lt' (faN_lt (i := i) (j := j) h) (Nat.lt_trans (trN_lt h htg) (show 17 < 9973 by omega))
  simp (disch := omega) only [sh_X9_formOf, mAt, bsome, ldS_ok (show i * 6 + j < 36 by omega), hf.get hi hj, hg.get hi hj, ldS_ok (show tgN k n i j < 6 by omega), ht _ htg, pk_mul, irem, foN]
def Ly2 (k n f : Nat) (m0 m : Mem) (i j : Nat) : Prop := Ly1 k n f m0 m n ∧ Tb (m 7) 6 n (tuN k n f) i j
theorem mLy2 {k n f : Nat} {m0 w : Mem} (h : KN k n f) (hI : Ly1 k n f m0 w n) : Ok (lpw sh_X9_laysOut_s160 FU (nI 0, w)) (fun w' => Ly2 k n f m0 w' n 0) := by
  have h4 := h.2.2.1
  refine ok_for n (fun i st => ∃ w', st = (nI i, w') ∧ Ly2 k n f m0 w' i 0) ⟨w, rfl, hI, Tb.zero⟩ ?_ ?_ (by omega)
  · rintro i _ hi ⟨w1, rfl, hA, hT⟩
    have hni : ¬ n ≤ i := by omega
    simp (disch := omega) only [sh_X9_laysOut_s160, hA.1.1.1.1, ile, hni, if_false, ok_bind]
    refine (ok_for n (fun j st => ∃ w', st = (nI j, w') ∧ Ly2 k n f m0 w' i j) (P := fun w' => Ly2 k n f m0 w' i n) ⟨w1, rfl, hA, hT⟩ ?_ ?_ (by omega)).mono fun w2 hw2 => ?_
    · rintro j _ hj ⟨w2, rfl, hA, hT⟩
      have hnj : ¬ n ≤ j := by omega
      obtain ⟨hL, ht, hu, hh, hc⟩ := id hA
      have key : ∀ v : Int32, v = nI (tuN k n f i j) → Ok (sh_X9_laysOut_j214 (nI i) (nI j) 7 (nI (i * 6 + j)) v w2) (fun r => ∃ s', r = .inl s' ∧ ∃ w', s' = (nI (j + 1), w') ∧ Ly2 k n f m0 w' i (j + 1)) := by
        intro v hv
        simp only [sh_X9_laysOut_j214, ok_bind]
        refine ok_stM (by omega) (by omega) fun w3 g1 g2 g3 => ?_
        simp only [ok_letv, ok_some, inl_ex, nI_add]
        refine ⟨w3, rfl, ⟨hL.to (by omega) g1, ?_, ?_, ?_, ?_⟩, hT.put (by omega) hj g2 (g3.trans hv)⟩ <;> rw [g1 _ (by omega)] <;> assumption
      simp (disch := omega) only [sh_X9_laysOut_s171, hL.1.1.1, ile, hnj, if_false, mFo h ht hL.1.2.1 hL.1.2.2 hj hi, mAt, bsome, ieq0 (show foN k n f j i < 2147483648 from Nat.lt_trans foN_lt (by omega)), mInv (foN_lt (k := k) (n := n) (f := f) (i := j) (j := i))]
      split
      · rename_i e
        exact key _ (by simp [tuN, e])
      · rename_i e
        exact key _ (by simp [tuN, e])
    · rintro _ ⟨w2, rfl, hA, hT⟩
      simp (disch := omega) only [sh_X9_laysOut_s171, hA.1.1.1.1, ile, Nat.le_refl, if_true, ok_some, inr_ex]
      exact ⟨hA, hT⟩
    · simp only [ok_letv, ok_some, inl_ex, nI_add]
      exact ⟨w2, rfl, hw2.1, hw2.2.row⟩
  · rintro _ ⟨w1, rfl, hA, hT⟩
    simp (disch := omega) only [sh_X9_laysOut_s160, hA.1.1.1.1, ile, Nat.le_refl, if_true, ok_some, inr_ex]
    exact ⟨hA, hT⟩
/-- what is laid out, but for handle and cross -/
def Ly3 (k n f : Nat) (m0 m : Mem) : Prop := LyI k n f m0 m ∧ Rw (m 5) (trN k n f) n ∧ Rw (m 6) (onN k) n ∧ Tb (m 7) 6 n (tuN k n f) n 0
theorem Ly3.to {k n f : Nat} {m0 m m' : Mem} (h : Ly3 k n f m0 m) {c : Nat} (hc : 8 ≤ c ∧ c ≤ 9) (g : ∀ q, q ≠ c → m' q = m q) : Ly3 k n f m0 m' := by
  obtain ⟨hL, h5, h6, h7⟩ := h
  refine ⟨hL.to (by omega) g, ?_, ?_, ?_⟩ <;> rw [g _ (by omega)] <;> assumption
def Ly4 (k n f : Nat) (m0 m : Mem) (i j : Nat) : Prop := Ly3 k n f m0 m ∧ Ac (m 8) n (fun q => sumN i (fun p => sumN n (hdT k n f q p)) + sumN j (hdT k n f q i)) ∧ Ac (m 9) n (fun q => sumN i (crT k n f q) + if i < j then crT k n f q i else 0)
theorem mLy3 {k n f i : Nat} {m0 w : Mem} (h : KN k n f) (hi : i < n) (hI : Ly4 k n f m0 w i 0) : Ok (lpw (sh_X9_laysOut_s240 (nI i)) FU (nI 0, w)) (fun w' => Ly4 k n f m0 w' i n) := by
  have h4 := h.2.2.1
  refine ok_for n (fun j st => ∃ w', st = (nI j, w') ∧ Ly4 k n f m0 w' i j) (P := fun w' => Ly4 k n f m0 w' i n) ⟨w, rfl, hI⟩ ?_ ?_ (by omega)
  · rintro j _ hj ⟨w2, rfl, hA, hh, hc⟩
    have hnj : ¬ n ≤ j := by omega
    obtain ⟨hL, ht, hu, hT⟩ := id hA
    have htg := tgN_lt h hi hj
    obtain ⟨S, hS⟩ : ∃ S, S = sumN i (fun p => sumN n (hdT k n f (tgN k n i j) p)) + sumN j (hdT k n f (tgN k n i j) i) := ⟨_, rfl⟩
    obtain ⟨Z, hZ⟩ : ∃ Z, Z = sumN i (crT k n f (tgN k n i j)) + if i < j then crT k n f (tgN k n i j) i else 0 := ⟨_, rfl⟩
    have v1 : w2 8 (tgN k n i j) = nI (S % 9973) := by rw [hS]; exact hh _ htg
    have v2 : w2 9 (tgN k n i j) = nI (Z % 9973) := by rw [hZ]; exact hc _ htg
    have b1 := md_lt S
    have b2 := md_lt Z
    have b3 := faN_lt (i := i) (j := j) h
    have b4 := mul_lt' (tuN_lt (k := k) (n := n) (f := f) (i := i) (j := j)) b3
    simp (disch := omega) only [sh_X9_laysOut_s240, hL.1.1.1, ile, hnj, if_false, mAt, bsome, ldS_ok (show i * 6 + j < 36 by omega), hL.1.2.1.get hi hj, hL.1.2.2.get hi hj, hT.get hi hj, ldS_ok (show tgN k n i j < 6 by omega), v1, pk_mul, nI_add, irem, ok_bind]
    refine ok_stM (by omega) (by omega) fun w3 g1 g2 g3 => ?_
    have hA3 := hA.to (by omega) g1
    have v3 : w3 9 (tgN k n i j) = nI (Z % 9973) := by rw [g1 _ (by omega)]; exact v2
    have v4 : w3 4 (i * 6 + j) = nI (faN k n f i j) := by rw [g1 _ (by omega)]; exact hL.1.2.2.get hi hj
    rw [hS] at g3
    have hh3 : Ac (w3 8) n (fun q => sumN i (fun p => sumN n (hdT k n f q p)) + sumN (j + 1) (hdT k n f q i)) := hh.put g2 g3 (fun q => by simp only [sumN, hdT]; omega)
    have key : ∀ v : Nat, (∀ m' : Nat → Int32, (∀ q, q ≠ tgN k n i j → m' q = w3 9 q) → m' (tgN k n i j) = nI v → Ac m' n (fun q => sumN i (crT k n f q) + if i < j + 1 then crT k n f q i else 0)) → Ok (sh_X9_laysOut_j353 (nI i) (nI j) 9 (nI (tgN k n i j)) (nI v) w3) (fun r => ∃ s', r = .inl s' ∧ ∃ w', s' = (nI (j + 1), w') ∧ Ly4 k n f m0 w' i (j + 1)) := by
      intro v hv
      simp only [sh_X9_laysOut_j353, ok_bind]
      refine ok_stM (by omega) (by omega) fun w4 d1 d2 d3 => ?_
      simp only [ok_letv, ok_some, inl_ex, nI_add]
      exact ⟨w4, rfl, hA3.to (by omega) d1, by rw [d1 _ (by omega)]; exact hh3, hv _ d2 d3⟩
    simp (disch := omega) only [ieq, ldS_ok (show tgN k n i j < 6 by omega), v3, bsome, mAt, ldS_ok (show i * 6 + j < 36 by omega), v4, nI_add, irem]
    have hc3 : Ac (w3 9) n (fun q => sumN i (crT k n f q) + if i < j then crT k n f q i else 0) := by rw [g1 _ (by omega)]; exact hc
    by_cases e : i = j
    · refine okt e (key _ fun m' k1 k2 => ?_)
      rw [hZ] at k2
      refine hc3.put k1 k2 fun q => ?_
      simp only [crT, ← e, Nat.lt_irrefl, if_false, Nat.lt_succ_self, if_true, Nat.add_zero]
    · refine okf e (key _ fun m' k1 k2 => ?_)
      rw [hZ, ← Nat.add_zero (_ + _)] at k2
      refine hc3.put k1 (v := 0) (by rw [k2, Nat.mod_add_mod]) fun q => ?_
      have e2 : (i < j + 1) = (i < j) := propext ⟨fun z => by omega, fun z => by omega⟩
      simp only [e2, ite_self, Nat.add_zero]
  · rintro _ ⟨w2, rfl, hA, hh, hc⟩
    simp (disch := omega) only [sh_X9_laysOut_s240, hA.1.1.1.1, ile, Nat.le_refl, if_true, ok_some, inr_ex]
    exact ⟨hA, hh, hc⟩
/-- laid out -/
def LaidT (k n f : Nat) (m : Mem) : Prop := (m 0 3 = nI n ∧ m 0 4 = nI k) ∧ Tb (m 3) 6 n (tgN k n) n 0 ∧ Tb (m 4) 6 n (faN k n f) n 0 ∧ Tb (m 7) 6 n (tuN k n f) n 0 ∧ Rw (m 5) (trN k n f) n ∧ Rw (m 6) (onN k) n ∧ Rw (m 8) (hdN k n f) n ∧ Rw (m 9) (crN k n f) n
theorem LaidT.to {k n f : Nat} {m m' : Mem} (h : LaidT k n f m) (h0 : m' 0 3 = m 0 3 ∧ m' 0 4 = m 0 4) (g : ∀ q, 3 ≤ q → q ≤ 9 → m' q = m q) : LaidT k n f m' := by
  obtain ⟨⟨h1, h2⟩, h3, h4, h5, h6, h7, h8, h9⟩ := h
  refine ⟨⟨h0.1.trans h1, h0.2.trans h2⟩, ?_, ?_, ?_, ?_, ?_, ?_, ?_⟩ <;> rw [g _ (by omega) (by omega)] <;> assumption
theorem mLays {a k s f : Nat} {w : Mem} (hv : VA k s f) (ha : a < 4) (h1 : w 1 (1 + a) = nI k) (h2 : w 1 (5 + a) = nI s) : Ok (sh_X9_laysOut (nI a) (nI f) w) (fun w' => LaidT k (eN k s) f w' ∧ OutM w w') := by
  have h := kn_of hv
  have h4 := h.2.2.1
  simp only [sh_X9_laysOut, mEl hv ha h1 h2, bsome]
  refine ok_ms fun w1 f1 f2 f3 => ?_
  have e1 : w1 1 (1 + a) = nI k := by rw [f1 _ (by omega)]; exact h1
  simp (disch := omega) only [nI_add, ldS_ok (show 1 + a < 130 by omega), e1, bsome]
  refine ok_ms fun w2 g1 g2 g3 => ?_
  have hO : OutM w w2 := ⟨fun q a b => by rw [g1 q a, f1 q a], fun i a b => by rw [g2 i b, f2 i a]⟩
  simp only [ok_bind, ok_some]
  refine (mPro h (by rw [g2 3 (by omega)]; exact f3) g3).mono fun w3 h3 => ?_
  refine (mLy1 (m0 := w) h ⟨h3.1, hO.trans h3.2⟩).mono fun w4 h4' => (mLy2 h h4').mono fun w5 h5 => ?_
  obtain ⟨⟨hL, ht, hu, hh, hc⟩, hT⟩ := h5
  refine (ok_for (eN k s) (fun i st => ∃ w', st = (nI i, w') ∧ Ly4 k (eN k s) f w w' i 0) (P := fun w' => Ly4 k (eN k s) f w w' (eN k s) 0) ⟨w5, rfl, ⟨hL, ht, hu, hT⟩, fun q hq => hh q hq, fun q hq => hc q hq⟩ ?_ ?_ (by omega)).mono fun w6 h6 => ?_
  · rintro i _ hi ⟨w6, rfl, h6⟩
    have hni : ¬ eN k s ≤ i := by omega
    simp (disch := omega) only [sh_X9_laysOut_s229, h6.1.1.1.1.1, ile, hni, if_false, ok_bind]
    refine (mLy3 h hi h6).mono fun w7 h7 => ?_
    simp only [ok_letv, ok_some, inl_ex, nI_add]
    refine ⟨w7, rfl, h7.1, h7.2.1.same (fun q => by simp only [sumN]; omega), h7.2.2.same (fun q => ?_)⟩
    simp only [sumN, hi, if_true, Nat.not_lt_zero, if_false, Nat.add_zero]
  · rintro _ ⟨w6, rfl, h6⟩
    simp (disch := omega) only [sh_X9_laysOut_s229, h6.1.1.1.1.1, ile, Nat.le_refl, if_true, ok_some, inr_ex]
    exact h6
  · obtain ⟨⟨hL, ht, hu, hT⟩, hh, hc⟩ := h6
    exact ⟨⟨hL.1.1, hL.1.2.1, hL.1.2.2, hT, ht, hu, fun q hq => by simpa [hdN, sumN] using hh q hq, fun q hq => by simpa [crN] using hc q hq⟩, hL.2⟩
theorem mLays_ {a k s f : Nat} {w : Mem} (hv : VA k s f) (ha : a < 4) (h1 : w 1 (1 + a) = nI k) (h2 : w 1 (5 + a) = nI s) (h3 : w 1 (9 + a) = nI f) : Ok (sh_X9_laysOut_ (nI a) w) (fun w' => LaidT k (eN k s) f w' ∧ OutM w w') := by
  simp (disch := omega) only [sh_X9_laysOut_, nI_add, ldS_ok (show 9 + a < 130 by omega), h3, bsome, ok_bind, ok_some]
  exact mLays hv ha h1 h2
