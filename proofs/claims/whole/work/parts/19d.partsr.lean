/-! parts: the other questions -/
def wrN (R : Nat → Nat) : Nat → Nat
  | 0 => 0
  | k + 1 => wrN R k + if R k = 0 then 1 else 0
def eaI (E : Nat → Int32) : Nat → Int32
  | 0 => nI 0
  | k + 1 => eaI E k + E k
theorem wrN_le {R : Nat → Nat} : ∀ k, wrN R k ≤ k
  | 0 => Nat.le_refl 0
  | k + 1 => by
    have := wrN_le (R := R) k
    unfold wrN
    split <;> omega
theorem xWr {t N : Nat} {E : Nat → Int32} {R : Nat → Nat} {O : Nat → Bool} {w : WX} (h : PcX t N E R O w) (hR : ∀ k, R k ≤ 3) (hN : N ≤ 24) : sh_X2_withoutRims t w = some (nI (wrN R N)) := by
  have key : Ok (lpw (sh_X2_withoutRims_s4 t w) FU (nI 0, nI 0)) (fun x => x = nI (wrN R N)) := by
    refine ok_for N (fun k st => st = (nI (wrN R k), nI k)) rfl ?_ ?_ (by omega)
    · rintro k _ hk rfl
      have hnk : ¬ N ≤ k := by omega
      have := hR k
      simp (disch := omega) only [sh_X2_withoutRims_s4, h.1, ile, hnk, if_false, ldS_ok (show k < 24 by omega), bsome, (h.2 k hk).2.1, ieq0]
      by_cases q : R k = 0
      · refine okt q ?_
        simp only [ok_letv, ok_some, inl_ex, nI_add, wrN, q, if_true]
      · refine okf q ?_
        simp only [ok_letv, ok_some, inl_ex, nI_add, wrN, q, if_false]
    · rintro _ rfl
      simp (disch := omega) only [sh_X2_withoutRims_s4, h.1, ile, Nat.le_refl, if_true, ok_some, inr_ex]
  obtain ⟨x, hx, rfl⟩ := key
  simp only [sh_X2_withoutRims, hx, bsome]
theorem mWr {n : Nat} {g : Nat → Bool} {E : Nat → Int32} {R : Nat → Nat} {O : Nat → Bool} {w : Mem} (h : PcM n g E R O w) (hR : ∀ k, R k ≤ 3) (hn : n ≤ 24) : sh_X9_withoutRims w = some (nI (wrN R (rk g n))) := by
  have key : Ok (lpw (sh_X9_withoutRims_s4 w) FU (nI 0, nI 0)) (fun x => x = nI (wrN R (rk g n))) := by
    refine ok_for n (fun d st => st = (nI (wrN R (rk g d)), nI d)) rfl ?_ ?_ (by omega)
    · rintro d _ hd rfl
      have hnd : ¬ n ≤ d := by omega
      have := hR (rk g d)
      simp (disch := omega) only [sh_X9_withoutRims_s4, h.1, ile, hnd, if_false]
      refine okb (ldS_ok (by omega) (by omega)) ?_
      by_cases hg : g d = false
      · obtain ⟨a1, a2, a3, a4⟩ := (h.2 d hd).1 hg
        refine okt a1 (okb (ldS_ok (by omega) (by omega)) ?_)
        rw [a3, rk_f hg, wrN]
        by_cases q : R (rk g d) = 0
        · refine okt (by rw [q]; rfl) ?_
          rw [if_pos q]
          simp only [ok_letv, ok_some, inl_ex, nI_add]
        · refine okf (by rw [ieq0 (by omega)]; exact q) ?_
          rw [if_neg q]
          simp only [ok_letv, ok_some, inl_ex, nI_add]
      · have hg' := (Bool.not_eq_false _).mp hg
        refine okf ((h.2 d hd).2 hg') ?_
        rw [rk_t hg']
        simp only [ok_letv, ok_some, inl_ex, nI_add, Nat.add_zero]
    · rintro _ rfl
      simp (disch := omega) only [sh_X9_withoutRims_s4, h.1, ile, Nat.le_refl, if_true, ok_some, inr_ex]
  obtain ⟨x, hx, rfl⟩ := key
  simp only [sh_X9_withoutRims, hx, bsome]
theorem xEa {t N : Nat} {E : Nat → Int32} {R : Nat → Nat} {O : Nat → Bool} {w : WX} (h : PcX t N E R O w) (hN : N ≤ 24) : sh_X2_eulerOfAll t w = some (eaI E N) := by
  have key : Ok (lpw (sh_X2_eulerOfAll_s4 t w) FU (nI 0, nI 0)) (fun x => x = eaI E N) := by
    refine ok_for N (fun k st => st = (eaI E k, nI k)) rfl ?_ ?_ (by omega)
    · rintro k _ hk rfl
      have hnk : ¬ N ≤ k := by omega
      simp (disch := omega) only [sh_X2_eulerOfAll_s4, h.1, ile, hnk, if_false, ldS_ok (show k < 24 by omega), bsome, (h.2 k hk).1, ok_letv, ok_some, inl_ex, nI_add, eaI]
    · rintro _ rfl
      simp (disch := omega) only [sh_X2_eulerOfAll_s4, h.1, ile, Nat.le_refl, if_true, ok_some, inr_ex]
  obtain ⟨x, hx, rfl⟩ := key
  simp only [sh_X2_eulerOfAll, hx, bsome]
theorem mEa {n : Nat} {g : Nat → Bool} {E : Nat → Int32} {R : Nat → Nat} {O : Nat → Bool} {w : Mem} (h : PcM n g E R O w) (hn : n ≤ 24) : sh_X9_eulerOfAll w = some (eaI E (rk g n)) := by
  have key : Ok (lpw (sh_X9_eulerOfAll_s4 w) FU (nI 0, nI 0)) (fun x => x = eaI E (rk g n)) := by
    refine ok_for n (fun d st => st = (eaI E (rk g d), nI d)) rfl ?_ ?_ (by omega)
    · rintro d _ hd rfl
      have hnd : ¬ n ≤ d := by omega
      simp (disch := omega) only [sh_X9_eulerOfAll_s4, h.1, ile, hnd, if_false]
      refine okb (ldS_ok (by omega) (by omega)) ?_
      by_cases hg : g d = false
      · obtain ⟨a1, a2, a3, a4⟩ := (h.2 d hd).1 hg
        refine okt a1 (okb (ldS_ok (by omega) (by omega)) ?_)
        rw [a2, rk_f hg, eaI]
        simp only [ok_letv, ok_some, inl_ex, nI_add]
      · have hg' := (Bool.not_eq_false _).mp hg
        refine okf ((h.2 d hd).2 hg') ?_
        rw [rk_t hg']
        simp only [ok_letv, ok_some, inl_ex, nI_add, show nI 0 = 0 from rfl, Int32.add_zero]
    · rintro _ rfl
      simp (disch := omega) only [sh_X9_eulerOfAll_s4, h.1, ile, Nat.le_refl, if_true, ok_some, inr_ex]
  obtain ⟨x, hx, rfl⟩ := key
  simp only [sh_X9_eulerOfAll, hx, bsome]
theorem mPn {n : Nat} {g : Nat → Bool} {E : Nat → Int32} {R : Nat → Nat} {O : Nat → Bool} {w : Mem} (h : PcM n g E R O w) (hn : n ≤ 24) : sh_X9_parts w = some (nI (rk g n)) := by
  have key : Ok (lpw (sh_X9_parts_s4 w) FU (nI 0, nI 0)) (fun x => x = nI (rk g n)) := by
    refine ok_for n (fun d st => st = (nI (rk g d), nI d)) rfl ?_ ?_ (by omega)
    · rintro d _ hd rfl
      have hnd : ¬ n ≤ d := by omega
      simp (disch := omega) only [sh_X9_parts_s4, h.1, ile, hnd, if_false]
      refine okb (ldS_ok (by omega) (by omega)) ?_
      by_cases hg : g d = false
      · refine okt ((h.2 d hd).1 hg).1 ?_
        rw [rk_f hg]
        simp only [ok_letv, ok_some, inl_ex, nI_add]
      · have hg' := (Bool.not_eq_false _).mp hg
        refine okf ((h.2 d hd).2 hg') ?_
        rw [rk_t hg']
        simp only [ok_letv, ok_some, inl_ex, nI_add, Nat.add_zero]
    · rintro _ rfl
      simp (disch := omega) only [sh_X9_parts_s4, h.1, ile, Nat.le_refl, if_true, ok_some, inr_ex]
  obtain ⟨x, hx, rfl⟩ := key
  simp only [sh_X9_parts, hx, bsome]
/-- how many parts stand before a part: the same loop in rim -/
theorem mRk {n r : Nat} {g : Nat → Bool} {E : Nat → Int32} {R : Nat → Nat} {O : Nat → Bool} {w : Mem} (h : PcM n g E R O w) (hn : n ≤ 24) (hr : r ≤ n) : lpw (sh_X9_rim_s53 (nI r) w) FU (nI 0, nI 0) = some (nI (rk g r)) := by
  have key : Ok (lpw (sh_X9_rim_s53 (nI r) w) FU (nI 0, nI 0)) (fun x => x = nI (rk g r)) := by
    refine ok_for r (fun d st => st = (nI (rk g d), nI d)) rfl ?_ ?_ (by omega)
    · rintro d _ hd rfl
      have hnd : ¬ r ≤ d := by omega
      simp (disch := omega) only [sh_X9_rim_s53, ile, hnd, if_false]
      refine okb (ldS_ok (by omega) (by omega)) ?_
      by_cases hg : g d = false
      · refine okt ((h.2 d (by omega)).1 hg).1 ?_
        rw [rk_f hg]
        simp only [ok_letv, ok_some, inl_ex, nI_add]
      · have hg' := (Bool.not_eq_false _).mp hg
        refine okf ((h.2 d (by omega)).2 hg') ?_
        rw [rk_t hg']
        simp only [ok_letv, ok_some, inl_ex, nI_add, Nat.add_zero]
    · rintro _ rfl
      simp (disch := omega) only [sh_X9_rim_s53, ile, Nat.le_refl, if_true, ok_some, inr_ex]
  obtain ⟨x, hx, rfl⟩ := key
  exact hx
theorem mPa {n k : Nat} {g : Nat → Bool} {E : Nat → Int32} {R : Nat → Nat} {O : Nat → Bool} {w : Mem} (h : PcM n g E R O w) (hn : n ≤ 24) (hk : k < 2147483648) : sh_X9_partAt (nI k) w = some (if k < rk g n then nI (un g n k) else (-1 : Int32)) := by
  have key : Ok (lpw (sh_X9_partAt_s4 w) FU (nI k, nI 0)) (fun x => (k < rk g n ∧ x = .inl (nI (un g n k))) ∨ (¬ k < rk g n ∧ x = .inr ())) := by
    refine ok_forb n (fun d st => st = (nI (k - rk g d), nI d) ∧ rk g d ≤ k) ⟨rfl, Nat.zero_le _⟩ ?_ ?_ (by omega)
    · rintro d _ hd ⟨rfl, hle⟩
      have hnd : ¬ n ≤ d := by omega
      have hlt := Nat.sub_le k (rk g d)
      simp (disch := omega) only [sh_X9_partAt_s4, h.1, ile, hnd, if_false]
      refine okb (ldS_ok (by omega) (by omega)) ?_
      by_cases hg : g d = false
      · refine okt ((h.2 d hd).1 hg).1 ?_
        by_cases q : k - rk g d = 0
        · refine okt (by rw [q]; rfl) ?_
          rw [ok_some]
          have e : k = rk g d := by omega
          refine Or.inr ⟨_, rfl, Or.inl ⟨by rw [e]; exact rk_lt hg hd, ?_⟩⟩
          rw [e, un_rk hd hg]
        · refine okf (by rw [ieq0 (by omega)]; exact q) ?_
          have e : nI (k - rk g d) + (-1 : Int32) = nI (k - rk g (d + 1)) := by
            have := pk_m1 (k - rk g (d + 1))
            rw [rk_f hg] at this ⊢
            rwa [show k - (rk g d + 1) + 1 = k - rk g d by omega] at this
          rw [e]
          simp only [ok_letv, ok_some, nI_add]
          exact Or.inl ⟨_, rfl, rfl, by rw [rk_f hg]; omega⟩
      · have hg' := (Bool.not_eq_false _).mp hg
        refine okf ((h.2 d hd).2 hg') ?_
        simp only [ok_letv, ok_some, nI_add]
        exact Or.inl ⟨_, rfl, by rw [rk_t hg'], by rw [rk_t hg']; exact hle⟩
    · rintro _ ⟨rfl, hle⟩
      simp (disch := omega) only [sh_X9_partAt_s4, h.1, ile, Nat.le_refl, if_true, ok_some]
      exact ⟨_, rfl, Or.inr ⟨by omega, rfl⟩⟩
  obtain ⟨x, hx, ⟨e, rfl⟩ | ⟨e, rfl⟩⟩ := key
  · simp only [sh_X9_partAt, hx, bsome, Sum.elim, e, if_true]
  · simp only [sh_X9_partAt, hx, bsome, Sum.elim, e, if_false]
/-! parts matched: each takes the first alike that is free -/
def fsN (F : Nat → Bool) : Nat → Nat
  | 0 => 0
  | b + 1 => if fsN F b < b then fsN F b else if F b = true then b else b + 1
theorem fsN_le {F : Nat → Bool} : ∀ b, fsN F b ≤ b
  | 0 => Nat.le_refl 0
  | b + 1 => by
    unfold fsN
    split
    · omega
    · split <;> omega
theorem fsN_hit {F : Nat → Bool} {j : Nat} (h : fsN F j = j) (hF : F j = true) : ∀ b, j < b → fsN F b = j
  | 0, hb => by omega
  | b + 1, hb => by
    unfold fsN
    by_cases e : j = b
    · subst e; rw [if_neg (by omega), if_pos hF]
    · rw [fsN_hit h hF b (by omega), if_pos (by omega)]
theorem fsN_miss {F : Nat → Bool} {j : Nat} (h : fsN F j = j) (hF : ¬ F j = true) : fsN F (j + 1) = j + 1 := by
  unfold fsN
  rw [if_neg (by omega), if_neg hF]
def fre (A : Nat → Nat → Bool) (G : Nat → Bool) (i j : Nat) : Bool := !G j && A i j
def mtS (A : Nat → Nat → Bool) (M : Nat) : Nat → Nat × (Nat → Bool)
  | 0 => (0, fun _ => false)
  | i + 1 => if fsN (fre A (mtS A M i).2 i) M < M then ((mtS A M i).1 + 1, fup (mtS A M i).2 (fsN (fre A (mtS A M i).2 i) M) true) else mtS A M i
theorem mtS_le {A : Nat → Nat → Bool} {M : Nat} : ∀ i, (mtS A M i).1 ≤ i
  | 0 => Nat.le_refl 0
  | i + 1 => by
    have := mtS_le (A := A) (M := M) i
    unfold mtS
    split
    · simp only []; omega
    · omega
theorem PcX.to {t N : Nat} {E : Nat → Int32} {R : Nat → Nat} {O : Nat → Bool} {w w' : WX} (h : PcX t N E R O w) (g : ∀ q, t ≤ q → q < t + 4 → w'.1 q = w.1 q) : PcX t N E R O w' := by
  unfold PcX
  rw [g _ (by omega) (by omega), g _ (by omega) (by omega), g _ (by omega) (by omega), g _ (by omega) (by omega)]
  exact h
theorem xMat {t u N M : Nat} {E E' : Nat → Int32} {R R' : Nat → Nat} {O O' : Nat → Bool} {w : WX} (htu : t + 7 ≤ u) (h : PcX t N E R O w) (g : PcX u M E' R' O' w) (hR : ∀ k, R k ≤ 3) (hR' : ∀ k, R' k ≤ 3) (hN : N ≤ 24) (hM : M ≤ 24) : Ok (sh_X2_matched t u w) (fun r => r.1 = nI (mtS (akP E R O E' R' O') M N).1 ∧ (∀ q, q ≠ t + 6 → r.2.1 q = w.1 q) ∧ r.2.2 = w.2) := by
  simp only [sh_X2_matched, ok_bind]
  obtain ⟨A, hA⟩ : ∃ A, A = akP E R O E' R' O' := ⟨_, rfl⟩
  refine (ok_for M (fun i st => ∃ w' : WX, st = (nI i, w') ∧ (∀ k, k < i → w'.1 (t + 6) k = zB false) ∧ (∀ x, x ≠ t + 6 → w'.1 x = w.1 x) ∧ w'.2 = w.2) (P := fun w' : WX => (∀ k, k < M → w'.1 (t + 6) k = zB false) ∧ (∀ x, x ≠ t + 6 → w'.1 x = w.1 x) ∧ w'.2 = w.2) ⟨w, rfl, fun k hk => absurd hk (Nat.not_lt_zero k), fun _ _ => rfl, rfl⟩ ?_ ?_ (by omega)).mono fun w1 h1 => ?_
  · rintro i _ hi ⟨w5, rfl, p1, p2, p3⟩
    have hni : ¬ M ≤ i := by omega
    have v0 : w5.1 u 0 = nI M := by rw [p2 _ (by omega)]; exact g.1
    simp (disch := omega) only [sh_X2_matched_s4, v0, ile, hni, if_false, ok_bind]
    refine ok_stX (by omega) (by omega) fun w6 d1 d2 d3 d4 => ?_
    simp only [ok_letv, ok_some, inl_ex, nI_add]
    refine ⟨w6, rfl, fun k hk => ?_, fun x hx => (d1 x hx).trans (p2 x hx), d4.trans p3⟩
    by_cases z : k = i
    · subst z; exact d3
    · rw [d2 k z]; exact p1 k (by omega)
  · rintro _ ⟨w5, rfl, p1, p2, p3⟩
    have v0 : w5.1 u 0 = nI M := by rw [p2 _ (by omega)]; exact g.1
    simp (disch := omega) only [sh_X2_matched_s4, v0, ile, Nat.le_refl, if_true, ok_some, inr_ex]
    exact ⟨p1, p2, p3⟩
  · rw [← hA]
    refine (ok_for N (fun i st => ∃ w' : WX, st = (nI (mtS A M i).1, nI i, w') ∧ (∀ k, k < M → w'.1 (t + 6) k = zB ((mtS A M i).2 k)) ∧ (∀ x, x ≠ t + 6 → w'.1 x = w.1 x) ∧ w'.2 = w.2) (P := fun r : Int32 × WX => r.1 = nI (mtS A M N).1 ∧ (∀ q, q ≠ t + 6 → r.2.1 q = w.1 q) ∧ r.2.2 = w.2) ⟨w1, rfl, h1.1, h1.2.1, h1.2.2⟩ ?_ ?_ (by omega)).mono fun r hr => by rw [ok_some]; exact hr
    · rintro i _ hi ⟨w5, rfl, p1, p2, p3⟩
      have hni : ¬ N ≤ i := by omega
      have ht := h.to (w' := w5) fun q a b => p2 q (by omega)
      have hu := g.to (w' := w5) fun q a b => p2 q (by omega)
      simp (disch := omega) only [sh_X2_matched_s27, ht.1, ile, hni, if_false, ok_bind]
      obtain ⟨G, hG⟩ : ∃ G, G = (mtS A M i).2 := ⟨_, rfl⟩
      rw [← hG] at p1
      refine (ok_forb M (fun j st => st = nI j ∧ fsN (fre A G i) j = j) (P := fun x => x = nI (fsN (fre A G i) M)) ⟨rfl, rfl⟩ ?_ ?_ (by omega)).mono fun x hx => ?_
      · rintro j _ hj ⟨rfl, e⟩
        have hnj : ¬ M ≤ j := by omega
        simp (disch := omega) only [sh_X2_matched_s38, hu.1, ile, hnj, if_false]
        refine okb (ldS_ok (by omega) (by omega)) ?_
        rw [p1 j hj]
        by_cases q : G j = false
        · refine okt (by rw [zB_0]; exact q) (okb (xAre ht hu hR hR' hN hM hi hj) ?_)
          rw [← hA]
          by_cases q2 : A i j = false
          · refine okt (by rw [zB_0]; exact q2) ?_
            simp only [ok_letv, ok_some, nI_add]
            exact Or.inl ⟨_, rfl, rfl, fsN_miss e (by simp [fre, q2])⟩
          · refine okf (by rw [zB_0]; exact q2) ?_
            rw [ok_some]
            exact Or.inr ⟨_, rfl, by rw [fsN_hit e (by simp [fre, q, (Bool.not_eq_false _).mp q2]) M hj]⟩
        · refine okf (by rw [zB_0]; exact q) ?_
          simp only [ok_letv, ok_some, nI_add]
          exact Or.inl ⟨_, rfl, rfl, fsN_miss e (by simp [fre, (Bool.not_eq_false _).mp q])⟩
      · rintro _ ⟨rfl, e⟩
        simp (disch := omega) only [sh_X2_matched_s38, hu.1, ile, Nat.le_refl, if_true, ok_some]
        exact ⟨_, rfl, by rw [e]⟩
      · subst hx
        have hf := fsN_le (F := fre A G i) M
        obtain ⟨x, hx⟩ : ∃ x, x = fsN (fre A G i) M := ⟨_, rfl⟩
        rw [← hx] at hf ⊢
        unfold sh_X2_matched_j74
        rw [hu.1]
        have hs : mtS A M (i + 1) = if x < M then ((mtS A M i).1 + 1, fup G x true) else mtS A M i := by rw [mtS, ← hG, ← hx]
        by_cases q : M ≤ x
        · refine okt (by rw [ile (by omega) (by omega)]; exact q) ?_
          rw [if_neg (by omega)] at hs
          simp only [ok_letv, ok_some, inl_ex, nI_add]
          refine ⟨w5, by rw [hs], fun k hk => ?_, p2, p3⟩
          rw [p1 k hk, hs, hG]
        · refine okf (by rw [ile (by omega) (by omega)]; exact q) ?_
          rw [if_pos (by omega)] at hs
          rw [ok_bind]
          refine ok_stX (by omega) (by omega) fun w6 d1 d2 d3 d4 => ?_
          simp only [ok_letv, ok_some, inl_ex, nI_add]
          refine ⟨w6, by rw [hs], fun k hk => ?_, fun y hy => (d1 y hy).trans (p2 y hy), d4.trans p3⟩
          rw [hs]
          by_cases z : k = x
          · subst z; rw [d3]; exact congrArg zB (fup_s (f := G) (v := true)).symm
          · rw [d2 k z, p1 k hk]; exact congrArg zB (fup_n z).symm
    · rintro _ ⟨w5, rfl, p1, p2, p3⟩
      have ht := h.to (w' := w5) fun q a b => p2 q (by omega)
      simp (disch := omega) only [sh_X2_matched_s27, ht.1, ile, Nat.le_refl, if_true, ok_some, inr_ex]
      exact ⟨trivial, p2, p3⟩
/-- the reference's copy of the other's parts -/
def TkM (M : Nat) (E : Nat → Int32) (R : Nat → Nat) (O : Nat → Bool) (G : Nat → Bool) (w : Mem) : Prop := ∀ k, k < M → w 19 k = (if G k = true then (-1 : Int32) else nI (R k)) ∧ w 20 k = E k ∧ w 21 k = zB (O k)
theorem PcM.to {n : Nat} {g : Nat → Bool} {E : Nat → Int32} {R : Nat → Nat} {O : Nat → Bool} {w w' : Mem} (h : PcM n g E R O w) (h0 : w' 0 23 = w 0 23) (f : ∀ q, 15 ≤ q → q ≤ 18 → w' q = w q) : PcM n g E R O w' := by
  unfold PcM
  rw [h0, f 15 (by omega) (by omega), f 16 (by omega) (by omega), f 17 (by omega) (by omega), f 18 (by omega) (by omega)]
  exact h
theorem mTake {n : Nat} {x : Int32} {g : Nat → Bool} {E : Nat → Int32} {R : Nat → Nat} {O : Nat → Bool} {w : Mem} (h : PcM n g E R O w) (hn : n ≤ 24) : Ok (lpw (sh_X9_match_s30 x) FU (nI 0, nI 0, w)) (fun r => r.1 = nI (rk g n) ∧ TkM (rk g n) E R O (fun _ => false) r.2 ∧ ∀ q, q < 19 ∨ 21 < q → r.2 q = w q) := by
  refine ok_for n (fun d st => ∃ w', st = (nI (rk g d), nI d, w') ∧ TkM (rk g d) E R O (fun _ => false) w' ∧ ∀ q, q < 19 ∨ 21 < q → w' q = w q) ⟨w, rfl, fun k hk => absurd hk (Nat.not_lt_zero k), fun _ _ => rfl⟩ ?_ ?_ (by omega)
  · rintro d _ hd ⟨w1, rfl, e1, e2⟩
    have hnd : ¬ n ≤ d := by omega
    have hrd := rk_le (g := g) d
    have h1 := h.to (w' := w1) (by rw [e2 0 (by omega)]) fun q a b => e2 q (by omega)
    simp (disch := omega) only [sh_X9_match_s30, h1.1, ile, hnd, if_false]
    refine okb (ldS_ok (by omega) (by omega)) ?_
    by_cases hg : g d = false
    · obtain ⟨a1, a2, a3, a4⟩ := (h1.2 d hd).1 hg
      refine okt a1 (okb (ldS_ok (by omega) (by omega)) ?_)
      rw [a3, ok_bind]
      refine ok_stM (by omega) (by omega) fun w2 b1 b2 b3 => ?_
      refine okb (ldS_ok (by omega) (by omega)) ?_
      rw [b1 16 (by omega), a2, ok_bind]
      refine ok_stM (by omega) (by omega) fun w3 c1 c2 c3 => ?_
      refine okb (ldS_ok (by omega) (by omega)) ?_
      rw [c1 18 (by omega), b1 18 (by omega), a4, ok_bind]
      refine ok_stM (by omega) (by omega) fun w4 d1 d2 d3 => ?_
      simp only [ok_letv, ok_some, inl_ex, nI_add]
      rw [rk_f hg]
      refine ⟨w4, rfl, fun k hk => ?_, fun q hq => by rw [d1 _ (by omega), c1 _ (by omega), b1 _ (by omega)]; exact e2 q hq⟩
      rw [d1 19 (by omega), d1 20 (by omega), c1 19 (by omega)]
      by_cases z : k = rk g d
      · subst z
        exact ⟨b3, c3, d3⟩
      · rw [b2 k z, c2 k z, d2 k z, b1 20 (by omega), c1 21 (by omega), b1 21 (by omega)]
        exact e1 k (by omega)
    · have hg' := (Bool.not_eq_false _).mp hg
      refine okf ((h1.2 d hd).2 hg') ?_
      rw [rk_t hg']
      simp only [ok_letv, ok_some, inl_ex, nI_add]
      exact ⟨w1, rfl, e1, e2⟩
  · rintro _ ⟨w1, rfl, e1, e2⟩
    have h1 := h.to (w' := w1) (by rw [e2 0 (by omega)]) fun q a b => e2 q (by omega)
    simp (disch := omega) only [sh_X9_match_s30, h1.1, ile, Nat.le_refl, if_true, ok_some, inr_ex]
    exact ⟨trivial, e1, e2⟩
theorem neg1_nI {k : Nat} (h : k < 100) : ((-1 : Int32) = nI k) = False := by
  apply eq_false
  intro q
  have e : (-1 : Int32).toInt = (nI k).toInt := by rw [← q]
  rw [nI_toInt (by omega), show (-1 : Int32).toInt = -1 from rfl] at e
  omega
theorem mMat {n M : Nat} {g : Nat → Bool} {E E' : Nat → Int32} {R R' : Nat → Nat} {O O' : Nat → Bool} {w : Mem} (h : PcM n g E R O w) (k0 : TkM M E' R' O' (fun _ => false) w) (hR : ∀ k, R k ≤ 3) (hR' : ∀ k, R' k ≤ 3) (hn : n ≤ 24) (hM : M ≤ 24) : Ok (lpw (sh_X9_match_s114 (nI M)) FU (nI 0, nI 0, w)) (fun r => r.1 = nI (mtS (akP E R O E' R' O') M (rk g n)).1 ∧ ∀ q, q ≠ 19 → r.2 q = w q) := by
  obtain ⟨A, hA⟩ : ∃ A, A = akP E R O E' R' O' := ⟨_, rfl⟩
  rw [← hA]
  refine ok_for n (fun d st => ∃ w', st = (nI (mtS A M (rk g d)).1, nI d, w') ∧ TkM M E' R' O' (mtS A M (rk g d)).2 w' ∧ ∀ q, q ≠ 19 → w' q = w q) ⟨w, rfl, k0, fun _ _ => rfl⟩ ?_ ?_ (by omega)
  · rintro d _ hd ⟨w1, rfl, e1, e2⟩
    have hnd : ¬ n ≤ d := by omega
    have hrd := rk_le (g := g) d
    have h1 := h.to (w' := w1) (by rw [e2 0 (by omega)]) fun q a b => e2 q (by omega)
    have hml := mtS_le (A := A) (M := M) (rk g d)
    simp (disch := omega) only [sh_X9_match_s114, h1.1, ile, hnd, if_false]
    refine okb (ldS_ok (by omega) (by omega)) ?_
    by_cases hg : g d = false
    · obtain ⟨a1, a2, a3, a4⟩ := (h1.2 d hd).1 hg
      refine okt a1 ?_
      obtain ⟨G, hG⟩ : ∃ G, G = (mtS A M (rk g d)).2 := ⟨_, rfl⟩
      obtain ⟨m, hm⟩ : ∃ m, m = (mtS A M (rk g d)).1 := ⟨_, rfl⟩
      obtain ⟨i, hi⟩ : ∃ i, i = rk g d := ⟨_, rfl⟩
      rw [← hi] at hm hG a2 a3 a4
      have hx : mtS A M (rk g (d + 1)) = if fsN (fre A G i) M < M then (m + 1, fup G (fsN (fre A G i) M) true) else (m, G) := by
        rw [rk_f hg, mtS, ← hi, ← hG, ← hm]
        split
        · rfl
        · rw [hm, hG]
      rw [← hi, ← hG] at e1
      rw [← hi]
      simp only [sh_X9_match_j140, ok_bind]
      refine (ok_forb M (fun j st => (∃ w', st = (nI m, nI 1, nI j, w') ∧ fsN (fre A G i) j = j ∧ TkM M E' R' O' G w' ∧ ∀ q, q ≠ 19 → w' q = w q) ∨ (∃ w', st = (nI (m + 1), nI 0, nI j, w') ∧ fsN (fre A G i) M < M ∧ TkM M E' R' O' (fup G (fsN (fre A G i) M) true) w' ∧ ∀ q, q ≠ 19 → w' q = w q)) (P := fun r : Int32 × Mem => r.1 = nI (mtS A M (rk g (d + 1))).1 ∧ TkM M E' R' O' (mtS A M (rk g (d + 1))).2 r.2 ∧ ∀ q, q ≠ 19 → r.2 q = w q) (Or.inl ⟨w1, by rw [hm], rfl, e1, e2⟩) ?_ ?_ (by omega)).mono fun r hr => ?_
      · rintro j _ hj (⟨w2, rfl, p1, p2, p3⟩ | ⟨w2, rfl, p1, p2, p3⟩)
        · have hnj : ¬ M ≤ j := by omega
          have q17 : w2 17 d = nI (R i) := by rw [p3 _ (by omega), ← e2 _ (by omega)]; exact a3
          have q16 : w2 16 d = E i := by rw [p3 _ (by omega), ← e2 _ (by omega)]; exact a2
          have q18 : w2 18 d = zB (O i) := by rw [p3 _ (by omega), ← e2 _ (by omega)]; exact a4
          obtain ⟨t1, t2, t3⟩ := p2 j hj
          have := hR i
          have := hR' j
          simp (disch := omega) only [sh_X9_match_s145, ile, hnj, if_false, ieq0, Nat.one_ne_zero]
          refine okb (ldS_ok (by omega) (by omega)) (okb (ldS_ok (by omega) (by omega)) ?_)
          rw [t1, q17]
          have miss : fre A G i j = false → Ok (letv (nI j + nI 1) (fun v6 => some (Sum.inl (nI m, nI 1, v6, w2)))) (fun r : (Int32 × Int32 × Int32 × Mem) ⊕ (Int32 × Mem) => (∃ s', r = .inl s' ∧ ((∃ w', s' = (nI m, nI 1, nI (j + 1), w') ∧ fsN (fre A G i) (j + 1) = j + 1 ∧ TkM M E' R' O' G w' ∧ ∀ q, q ≠ 19 → w' q = w q) ∨ (∃ w', s' = (nI (m + 1), nI 0, nI (j + 1), w') ∧ fsN (fre A G i) M < M ∧ TkM M E' R' O' (fup G (fsN (fre A G i) M) true) w' ∧ ∀ q, q ≠ 19 → w' q = w q))) ∨ ∃ x, r = .inr x ∧ (x.1 = nI (mtS A M (rk g (d + 1))).1 ∧ TkM M E' R' O' (mtS A M (rk g (d + 1))).2 x.2 ∧ ∀ q, q ≠ 19 → x.2 q = w q)) := by
            intro hf
            simp only [ok_letv, ok_some, nI_add]
            exact Or.inl ⟨_, rfl, Or.inl ⟨w2, rfl, fsN_miss p1 (by rw [hf]; simp), p2, p3⟩⟩
          by_cases hGj : G j = true
          · rw [if_pos hGj]
            refine okf (by rw [neg1_nI (by omega)]; exact not_false) (miss ?_)
            simp [fre, hGj]
          · rw [if_neg hGj]
            by_cases c1 : R' j = R i
            · refine okt (by rw [c1]) (okb (ldS_ok (by omega) (by omega)) (okb (ldS_ok (by omega) (by omega)) ?_))
              rw [t2, q16]
              by_cases c2 : E' j = E i
              · refine okt c2 (okb (ldS_ok (by omega) (by omega)) (okb (ldS_ok (by omega) (by omega)) ?_))
                rw [t3, q18]
                by_cases c3 : O' j = O i
                · refine okt (by rw [c3]) ?_
                  rw [ok_bind]
                  refine ok_stM (by omega) (by omega) fun w3 b1 b2 b3 => ?_
                  have hf : fre A G i j = true := by simp [fre, hGj, hA, akP, c1, c2, c3]
                  have hfs := fsN_hit p1 hf M hj
                  simp only [ok_letv, ok_some, nI_add]
                  refine Or.inl ⟨_, rfl, Or.inr ⟨w3, rfl, by omega, fun k hk => ?_, fun q hq => (b1 q hq).trans (p3 q hq)⟩⟩
                  rw [hfs, b1 20 (by omega), b1 21 (by omega)]
                  by_cases z : k = j
                  · subst z; rw [b3, fup_s, if_pos rfl]; exact ⟨rfl, t2, t3⟩
                  · rw [b2 k z, fup_n z]; exact p2 k hk
                · refine okf (by rw [zB_inj]; exact c3) (miss ?_)
                  simp [fre, hA, akP]
                  exact fun _ _ _ y => c3 y.symm
              · refine okf c2 (miss ?_)
                simp [fre, hA, akP]
                exact fun _ _ y => absurd y.symm c2
            · refine okf (by rw [ieq (by omega) (by omega)]; exact c1) (miss ?_)
              simp [fre, hA, akP]
              exact fun _ y => absurd y.symm c1
        · have hnj : ¬ M ≤ j := by omega
          simp (disch := omega) only [sh_X9_match_s145, ile, hnj, if_false, ieq0, if_true, ok_some]
          rw [if_pos p1] at hx
          exact Or.inr ⟨_, rfl, by rw [hx], by rw [hx]; exact p2, p3⟩
      · rintro _ (⟨w2, rfl, p1, p2, p3⟩ | ⟨w2, rfl, p1, p2, p3⟩)
        · simp (disch := omega) only [sh_X9_match_s145, ile, Nat.le_refl, if_true, ok_some]
          rw [if_neg (by omega)] at hx
          exact ⟨_, rfl, by rw [hx], by rw [hx]; exact p2, p3⟩
        · simp (disch := omega) only [sh_X9_match_s145, ile, Nat.le_refl, if_true, ok_some]
          rw [if_pos p1] at hx
          exact ⟨_, rfl, by rw [hx], by rw [hx]; exact p2, p3⟩
      · obtain ⟨r1, r2, r3⟩ := hr
        simp only [ok_letv, ok_some, inl_ex, nI_add]
        exact ⟨r.2, by rw [r1], r2, r3⟩
    · have hg' := (Bool.not_eq_false _).mp hg
      refine okf ((h1.2 d hd).2 hg') ?_
      rw [rk_t hg']
      simp only [sh_X9_match_j140, ok_bind]
      refine (ok_forb M (fun j st => st = (nI (mtS A M (rk g d)).1, nI 0, nI j, w1)) (P := fun r : Int32 × Mem => r = (nI (mtS A M (rk g d)).1, w1)) rfl ?_ ?_ (by omega)).mono fun r hr => ?_
      · rintro j _ hj rfl
        have hnj : ¬ M ≤ j := by omega
        simp (disch := omega) only [sh_X9_match_s145, ile, hnj, if_false, ieq0, if_true, ok_some]
        exact Or.inr ⟨_, rfl, rfl⟩
      · rintro _ rfl
        simp (disch := omega) only [sh_X9_match_s145, ile, Nat.le_refl, if_true, ok_some]
        exact ⟨_, rfl, rfl⟩
      · subst hr
        simp only [ok_letv, ok_some, inl_ex, nI_add]
        exact ⟨w1, rfl, e1, e2⟩
  · rintro _ ⟨w1, rfl, e1, e2⟩
    have h1 := h.to (w' := w1) (by rw [e2 0 (by omega)]) fun q a b => e2 q (by omega)
    simp (disch := omega) only [sh_X9_match_s114, h1.1, ile, Nat.le_refl, if_true, ok_some, inr_ex]
    exact ⟨trivial, e2⟩
