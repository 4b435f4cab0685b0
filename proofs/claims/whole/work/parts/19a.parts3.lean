/-! parts: those left, in their order -/
def rk (g : Nat → Bool) : Nat → Nat
  | 0 => 0
  | d + 1 => rk g d + if g d = true then 0 else 1
theorem rk_t {g : Nat → Bool} {d : Nat} (h : g d = true) : rk g (d + 1) = rk g d := by rw [rk, if_pos h]; rfl
theorem rk_f {g : Nat → Bool} {d : Nat} (h : g d = false) : rk g (d + 1) = rk g d + 1 := by rw [rk, if_neg (by rw [h]; simp)]
theorem rk_le {g : Nat → Bool} : ∀ d, rk g d ≤ d
  | 0 => Nat.le_refl 0
  | d + 1 => by
    have := rk_le (g := g) d
    unfold rk
    split <;> omega
theorem rk_mono {g : Nat → Bool} {a : Nat} : ∀ {b : Nat}, a ≤ b → rk g a ≤ rk g b
  | 0, h => by rw [Nat.le_zero.mp h]; exact Nat.le_refl _
  | b + 1, h => by
    by_cases e : a = b + 1
    · rw [e]; exact Nat.le_refl _
    · have := rk_mono (g := g) (a := a) (b := b) (by omega)
      show rk g a ≤ rk g b + _
      omega
theorem rk_lt {g : Nat → Bool} {a b : Nat} (h : g a = false) (hab : a < b) : rk g a < rk g b := by
  have := rk_mono (g := g) (show a + 1 ≤ b from hab)
  rw [rk_f h] at this
  omega
theorem rk_inj {g : Nat → Bool} {a b : Nat} (ha : g a = false) (hb : g b = false) (h : rk g a = rk g b) : a = b := by
  rcases Nat.lt_trichotomy a b with e | e | e
  · have := rk_lt ha e; omega
  · exact e
  · have := rk_lt hb e; omega
/-- the k-th that is left -/
def un (g : Nat → Bool) : Nat → Nat → Nat
  | 0, _ => 0
  | n + 1, k => if g n = false ∧ rk g n = k then n else un g n k
theorem un_spec {g : Nat → Bool} {k : Nat} : ∀ {n : Nat}, k < rk g n → un g n k < n ∧ g (un g n k) = false ∧ rk g (un g n k) = k
  | 0, h => absurd h (Nat.not_lt_zero k)
  | n + 1, h => by
    unfold un
    by_cases e : g n = false ∧ rk g n = k
    · rw [if_pos e]; exact ⟨Nat.lt_succ_self n, e⟩
    · rw [if_neg e]
      have h2 : k < rk g n := by
        cases hg : g n with
        | true => rwa [rk_t hg] at h
        | false =>
          rw [rk_f hg] at h
          have : ¬ rk g n = k := fun z => e ⟨hg, z⟩
          omega
      obtain ⟨h3, h4⟩ := un_spec h2
      exact ⟨by omega, h4⟩
theorem un_rk {g : Nat → Bool} {n d : Nat} (hd : d < n) (h : g d = false) : un g n (rk g d) = d := by
  obtain ⟨h1, h2, h3⟩ := un_spec (g := g) (k := rk g d) (n := n) (rk_lt h hd)
  exact rk_inj h2 h h3
def cnt (q : Nat → Nat) (c d : Nat) : Nat := sumN c (fun i => if q i = d then 1 else 0)
theorem cnt_s {q : Nat → Nat} {c d : Nat} : cnt q (c + 1) d = cnt q c d + if q c = d then 1 else 0 := rfl
theorem cnt_le {q : Nat → Nat} {c d : Nat} : cnt q c d ≤ c := by
  have := sumN_le (n := c) (b := 1) (g := fun i => if q i = d then 1 else 0) (fun i => by split <;> omega)
  unfold cnt
  omega
theorem xLeave {t n c : Nat} {e : Nat → Int32} {o g : Nat → Bool} {q : Nat → Nat} {w : WX} (hn : n ≤ 24) (hI : PI (n, c, e, o, g, q)) (h : PsX t (n, c, e, o, g, q) w) : Ok (sh_X2_leaveOutGone t w) (fun w' => (w'.1 t 0 = nI (rk g n) ∧ w'.1 t 1 = nI c) ∧ (∀ d, d < n → g d = false → w'.1 (t + 1) (rk g d) = e d ∧ w'.1 (t + 3) (rk g d) = zB (o d)) ∧ (∀ i, i < c → w'.1 (t + 4) i = nI (rk g (q i))) ∧ OutX t (t + 7) w w' ∧ w'.2 = w.2) := by
  obtain ⟨⟨h0, h1⟩, hd, hq⟩ := h
  obtain ⟨hc, hI⟩ := hI
  simp only at h0 h1 hd hq hc hI
  simp only [sh_X2_leaveOutGone, ok_bind]
  refine (ok_for n (fun i st => ∃ w' : WX, st = (nI (rk g i), nI i, w') ∧ (w'.1 t = w.1 t ∧ w'.1 (t + 5) = w.1 (t + 5)) ∧ (∀ d, d < n → i ≤ d → w'.1 (t + 1) d = e d ∧ w'.1 (t + 3) d = zB (o d)) ∧ (∀ d, d < i → g d = false → w'.1 (t + 1) (rk g d) = e d ∧ w'.1 (t + 3) (rk g d) = zB (o d)) ∧ (∀ j, j < c → w'.1 (t + 4) j = nI (if q j < i then rk g (q j) else q j)) ∧ OutX t (t + 7) w w' ∧ w'.2 = w.2) (P := fun r : Int32 × WX => r.1 = nI (rk g n) ∧ (r.2.1 t = w.1 t) ∧ (∀ d, d < n → g d = false → r.2.1 (t + 1) (rk g d) = e d ∧ r.2.1 (t + 3) (rk g d) = zB (o d)) ∧ (∀ i, i < c → r.2.1 (t + 4) i = nI (rk g (q i))) ∧ OutX t (t + 7) w r.2 ∧ r.2.2 = w.2) ⟨w, rfl, ⟨rfl, rfl⟩, fun d hdn _ => ⟨(hd d hdn).1, (hd d hdn).2.1⟩, fun d hd0 => absurd hd0 (Nat.not_lt_zero d), fun j hj => by rw [if_neg (Nat.not_lt_zero _)]; exact hq j hj, OutX.refl, rfl⟩ ?_ ?_ (by omega)).mono fun r hr => ?_
  · rintro i _ hi ⟨w1, rfl, ⟨e0, e5⟩, e1, e2, e3, e4, e6⟩
    have hni : ¬ n ≤ i := by omega
    have v0 : w1.1 t 0 = nI n := by rw [e0]; exact h0
    have v5 : w1.1 (t + 5) i = zB (g i) := by rw [e5]; exact (hd i hi).2.2
    have hrk := rk_le (g := g) i
    simp (disch := omega) only [sh_X2_leaveOutGone_s4, v0, ile, hni, if_false]
    refine okb (ldS_ok (by omega) (by omega)) ?_
    rw [v5]
    by_cases hg : g i = false
    · refine okt (by rw [zB_0]; exact hg) (okb (ldS_ok (by omega) (by omega)) ?_)
      rw [(e1 i hi (Nat.le_refl _)).1, ok_bind]
      refine ok_stX (by omega) (by omega) fun w2 f1 f2 f3 f4 => ?_
      refine okb (ldS_ok (by omega) (by omega)) ?_
      rw [show w2.1 (t + 3) i = zB (o i) by rw [f1 _ (by omega)]; exact (e1 i hi (Nat.le_refl _)).2]
      refine okg (zB_or _) ?_
      rw [ok_bind]
      refine ok_stX (by omega) (by omega) fun w3 g1 g2 g3 g4 => ?_
      rw [ok_bind]
      refine (xRen (c := c) (q := fun j => if q j < i then rk g (q j) else q j) hc (fun j hj => ?_) (by omega) (by rw [g1 _ (by omega), f1 _ (by omega), e0]; exact h1) (fun j hj => by rw [g1 _ (by omega), f1 _ (by omega)]; exact e3 j hj)).mono fun w4 k => ?_
      · have := (hI j hj).1
        have := rk_le (g := g) (q j)
        split <;> omega
      · obtain ⟨k1, k2, k3⟩ := k
        simp only [ok_letv, ok_some, inl_ex, nI_add]
        rw [← rk_f hg]
        refine ⟨w4, rfl, ⟨?_, ?_⟩, fun d hdn hid => ⟨?_, ?_⟩, fun d hdi hgd => ⟨?_, ?_⟩, fun j hj => ?_, ?_, by rw [k3, g4, f4, e6]⟩
        · rw [k2 _ (by omega), g1 _ (by omega), f1 _ (by omega)]; exact e0
        · rw [k2 _ (by omega), g1 _ (by omega), f1 _ (by omega)]; exact e5
        · rw [k2 _ (by omega), g1 _ (by omega), f2 _ (by omega)]; exact (e1 d hdn (by omega)).1
        · rw [k2 _ (by omega), g2 _ (by omega), f1 _ (by omega)]; exact (e1 d hdn (by omega)).2
        · rw [k2 _ (by omega), g1 _ (by omega)]
          by_cases z : d = i
          · subst z; exact f3
          · have := rk_lt hgd (show d < i by omega)
            rw [f2 _ (by omega)]; exact (e2 d (by omega) hgd).1
        · rw [k2 _ (by omega)]
          by_cases z : d = i
          · subst z; exact g3
          · have := rk_lt hgd (show d < i by omega)
            rw [g2 _ (by omega), f1 _ (by omega)]; exact (e2 d (by omega) hgd).2
        · rw [k1 j hj]
          congr 1
          by_cases z : q j < i
          · have := rk_le (g := g) (q j)
            rw [if_pos z, if_neg (by omega), if_pos (by omega)]
          · by_cases z2 : q j = i
            · rw [if_neg z, if_pos z2, if_pos (by omega), z2]
            · rw [if_neg z, if_neg z2, if_neg (by omega)]
        · exact e4.trans (fun x hx => by rw [k2 _ (by omega), g1 _ (by omega), f1 _ (by omega)])
    · refine okf (by rw [zB_0]; exact hg) ?_
      have hg' := (Bool.not_eq_false _).mp hg
      simp only [ok_letv, ok_some, inl_ex, nI_add]
      rw [← rk_t hg']
      refine ⟨w1, rfl, ⟨e0, e5⟩, fun d hdn hid => e1 d hdn (by omega), fun d hdi hgd => ?_, fun j hj => ?_, e4, e6⟩
      · have : d ≠ i := fun z => by rw [z] at hgd; exact hg hgd
        exact e2 d (by omega) hgd
      · have : q j ≠ i := fun z => hg (by rw [← z]; exact (hI j hj).2)
        rw [e3 j hj]
        congr 1
        by_cases z : q j < i
        · rw [if_pos z, if_pos (by omega)]
        · rw [if_neg z, if_neg (by omega)]
  · rintro _ ⟨w1, rfl, ⟨e0, e5⟩, e1, e2, e3, e4, e6⟩
    have v0 : w1.1 t 0 = nI n := by rw [e0]; exact h0
    simp (disch := omega) only [sh_X2_leaveOutGone_s4, v0, ile, Nat.le_refl, if_true, ok_some, inr_ex]
    exact ⟨trivial, e0, e2, fun j hj => by rw [e3 j hj, if_pos (hI j hj).1], e4, e6⟩
  · obtain ⟨r0, r1, r2, r3, r4, r5⟩ := hr
    rw [r0]
    refine ok_pX fun w2 f1 f2 f3 f4 => ?_
    rw [ok_some]
    refine ⟨⟨f3, by rw [f2 _ (by omega), r1]; exact h1⟩, fun d hdn hg => ?_, fun i hi => ?_, r4.put (by omega) f1, by rw [f4, r5]⟩
    · rw [f1 _ (by omega), f1 _ (by omega)]; exact r2 d hdn hg
    · rw [f1 _ (by omega)]; exact r3 i hi
/-- the class's parts, found -/
def PfX (t : Nat) (s : PT) (w : WX) : Prop := (w.1 t 0 = nI (rk s.2.2.2.2.1 s.1) ∧ w.1 t 1 = nI s.2.1) ∧ (∀ d, d < s.1 → s.2.2.2.2.1 d = false → w.1 (t + 1) (rk s.2.2.2.2.1 d) = s.2.2.1 d ∧ w.1 (t + 3) (rk s.2.2.2.2.1 d) = zB (s.2.2.2.1 d) ∧ w.1 (t + 2) (rk s.2.2.2.2.1 d) = nI (cnt s.2.2.2.2.2 s.2.1 d)) ∧ ∀ i, i < s.2.1 → w.1 (t + 4) i = nI (rk s.2.2.2.2.1 (s.2.2.2.2.2 i))
theorem xFind {t u : Nat} {L : List Nat} {w : WX} (hS : Sf L) (hu : SuAt u L w) (htu : t + 7 ≤ u ∨ u + 2 ≤ t) : Ok (sh_X2_find t u w) (fun w' => PfX t (pfo L L.length) w' ∧ OutX t (t + 7) w w' ∧ w'.2 = w.2) := by
  have hl := hS.1
  unfold sh_X2_find
  refine ok_pX fun w1 f1 f2 f3 f4 => ok_pX fun w2 g1 g2 g3 g4 => ?_
  rw [ok_bind]
  refine (ok_for L.length (fun i st => ∃ w' : WX, st = (nI i, w') ∧ PsX t (pfo L i) w' ∧ OutX t (t + 7) w w' ∧ w'.2 = w.2) (P := fun w' : WX => PsX t (pfo L L.length) w' ∧ OutX t (t + 7) w w' ∧ w'.2 = w.2) ⟨w2, rfl, ⟨⟨by rw [g2 _ (by omega)]; exact f3, g3⟩, fun d hd => absurd hd (Nat.not_lt_zero d), fun d hd => absurd hd (Nat.not_lt_zero d)⟩, (OutX.refl.put (by omega) f1).put (by omega) g1, by rw [g4, f4]⟩ ?_ ?_ (by omega)).mono fun w3 h3 => ?_
  · rintro i _ hi ⟨w3, rfl, e1, e2, e3⟩
    have hni : ¬ L.length ≤ i := by omega
    obtain ⟨k1, k2, k3⟩ := pfo_c hS i (by omega)
    obtain ⟨d, b1, b2⟩ := bh_take hS hi
    rw [← k1] at b1
    have v1 : w3.1 u 1 = nI L.length := by rw [e2 _ (by omega)]; exact hu.1.1
    have v2 : w3.1 (u + 1) i = nI (L.getD i 0) := by rw [e2 _ (by omega), ← hu.2 i hi, Nat.zero_add]
    simp (disch := omega) only [sh_X2_find_s12, v1, ile, hni, if_false]
    refine okb (ldS_ok (by omega) (by omega)) ?_
    rw [v2, ok_bind]
    refine (xStep (hS.getD hi) k3 (by omega) b1 e1).mono fun w4 h4 => ?_
    simp only [ok_letv, ok_some, inl_ex, nI_add]
    exact ⟨w4, rfl, h4.1, e2.trans h4.2.1, h4.2.2.trans e3⟩
  · rintro _ ⟨w3, rfl, e1, e2, e3⟩
    have v1 : w3.1 u 1 = nI L.length := by rw [e2 _ (by omega)]; exact hu.1.1
    simp (disch := omega) only [sh_X2_find_s12, v1, ile, Nat.le_refl, if_true, ok_some, inr_ex]
    exact ⟨e1, e2, e3⟩
  · obtain ⟨e1, e2, e3⟩ := h3
    obtain ⟨k1, k2, k3⟩ := pfo_c hS L.length (Nat.le_refl _)
    generalize pfo L L.length = s at *
    obtain ⟨n, c, e, o, g, q⟩ := s
    have hI := k3
    obtain ⟨hc, hI⟩ := hI
    simp only at k1 k2 hc hI
    have hrn := rk_le (g := g) n
    rw [ok_bind]
    refine (xLeave (by omega) k3 e1).mono fun w4 h4 => ?_
    obtain ⟨⟨m0, m1⟩, m2, m3, m4, m5⟩ := h4
    rw [ok_bind]
    refine (ok_for (rk g n) (fun i st => ∃ w' : WX, st = (nI i, w') ∧ (∀ k, k < i → w'.1 (t + 2) k = nI 0) ∧ (∀ x, x ≠ t + 2 → w'.1 x = w4.1 x) ∧ w'.2 = w4.2) (P := fun w' : WX => (∀ k, k < rk g n → w'.1 (t + 2) k = nI 0) ∧ (∀ x, x ≠ t + 2 → w'.1 x = w4.1 x) ∧ w'.2 = w4.2) ⟨w4, rfl, fun k hk => absurd hk (Nat.not_lt_zero k), fun _ _ => rfl, rfl⟩ ?_ ?_ (by omega)).mono fun w5 h5 => ?_
    · rintro i _ hi ⟨w5, rfl, p1, p2, p3⟩
      have hni : ¬ rk g n ≤ i := by omega
      have v0 : w5.1 t 0 = nI (rk g n) := by rw [p2 _ (by omega)]; exact m0
      simp (disch := omega) only [sh_X2_find_s42, v0, ile, hni, if_false, ok_bind]
      refine ok_stX (by omega) (by omega) fun w6 d1 d2 d3 d4 => ?_
      simp only [ok_letv, ok_some, inl_ex, nI_add]
      refine ⟨w6, rfl, fun k hk => ?_, fun x hx => (d1 x hx).trans (p2 x hx), d4.trans p3⟩
      by_cases z : k = i
      · subst z; exact d3
      · rw [d2 k z]; exact p1 k (by omega)
    · rintro _ ⟨w5, rfl, p1, p2, p3⟩
      have v0 : w5.1 t 0 = nI (rk g n) := by rw [p2 _ (by omega)]; exact m0
      simp (disch := omega) only [sh_X2_find_s42, v0, ile, Nat.le_refl, if_true, ok_some, inr_ex]
      exact ⟨p1, p2, p3⟩
    · obtain ⟨p1, p2, p3⟩ := h5
      rw [ok_bind]
      refine (ok_for c (fun i st => ∃ w' : WX, st = (nI i, w') ∧ (∀ d, d < n → g d = false → w'.1 (t + 2) (rk g d) = nI (cnt q i d)) ∧ (∀ x, x ≠ t + 2 → w'.1 x = w4.1 x) ∧ w'.2 = w4.2) (P := fun w' : WX => (∀ d, d < n → g d = false → w'.1 (t + 2) (rk g d) = nI (cnt q c d)) ∧ (∀ x, x ≠ t + 2 → w'.1 x = w4.1 x) ∧ w'.2 = w4.2) ⟨w5, rfl, fun d hd hg => p1 _ (rk_lt hg hd), p2, p3⟩ ?_ ?_ (by omega)).mono fun w6 h6 => ?_
      · rintro i _ hi ⟨w6, rfl, r1, r2, r3⟩
        have hni : ¬ c ≤ i := by omega
        have v1 : w6.1 t 1 = nI c := by rw [r2 _ (by omega)]; exact m1
        have v4 : w6.1 (t + 4) i = nI (rk g (q i)) := by rw [r2 _ (by omega)]; exact m3 i hi
        obtain ⟨hqi, hgi⟩ := hI i hi
        have hrq := rk_lt hgi hqi
        have hcq := cnt_le (q := q) (c := i) (d := q i)
        simp (disch := omega) only [sh_X2_find_s65, v1, ile, hni, if_false]
        refine okb (ldS_ok (by omega) (by omega)) ?_
        rw [v4]
        refine okb (ldS_ok (by omega) (by omega)) ?_
        rw [r1 _ hqi hgi, nI_add, ok_bind]
        refine ok_stX (by omega) (by omega) fun w7 d1 d2 d3 d4 => ?_
        simp only [ok_letv, ok_some, inl_ex, nI_add]
        refine ⟨w7, rfl, fun d hd hg => ?_, fun x hx => (d1 x hx).trans (r2 x hx), d4.trans r3⟩
        by_cases z : d = q i
        · subst z
          rw [d3]
          rw [cnt_s, if_pos rfl]
        · have : rk g d ≠ rk g (q i) := fun y => z (rk_inj hg hgi y)
          rw [d2 _ this, r1 d hd hg]
          rw [cnt_s, if_neg (fun y => z y.symm), Nat.add_zero]
      · rintro _ ⟨w6, rfl, r1, r2, r3⟩
        have v1 : w6.1 t 1 = nI c := by rw [r2 _ (by omega)]; exact m1
        simp (disch := omega) only [sh_X2_find_s65, v1, ile, Nat.le_refl, if_true, ok_some, inr_ex]
        exact ⟨r1, r2, r3⟩
      · obtain ⟨r1, r2, r3⟩ := h6
        rw [ok_some]
        refine ⟨⟨⟨by rw [r2 _ (by omega)]; exact m0, by rw [r2 _ (by omega)]; exact m1⟩, fun d hd hg => ⟨?_, ?_, r1 d hd hg⟩, fun i hi => ?_⟩, (e2.trans m4).trans (fun x hx => r2 x (by omega)), by rw [r3, m5, e3]⟩
        · rw [r2 _ (by omega)]; exact (m2 d hd hg).1
        · rw [r2 _ (by omega)]; exact (m2 d hd hg).2
        · rw [r2 _ (by omega)]; exact m3 i hi
