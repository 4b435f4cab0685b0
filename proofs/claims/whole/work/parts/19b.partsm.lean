/-! parts: the reference -/
def UF (n : Nat) (g : Nat → Bool) (R : Nat → Nat) (m : Nat → Int32) : Prop := ∃ par : Nat → Nat, ∀ d, d < n → m d = nI (par d) ∧ par d ≤ d ∧ R d = (if par d = d then d else R (par d)) ∧ (par d = d ↔ g d = false)
theorem UF.root {n : Nat} {g : Nat → Bool} {R : Nat → Nat} {m : Nat → Int32} (h : UF n g R m) {d : Nat} (hd : d < n) (hg : g d = false) : m d = nI d ∧ R d = d := by
  obtain ⟨par, h⟩ := h
  obtain ⟨h1, h2, h3, h4⟩ := h d hd
  have e := h4.mpr hg
  rw [e] at h1
  rw [if_pos e] at h3
  exact ⟨h1, h3⟩
theorem UF.gone {n : Nat} {g : Nat → Bool} {R : Nat → Nat} {m : Nat → Int32} (hn : n ≤ 24) (h : UF n g R m) {d : Nat} (hd : d < n) (hg : g d = true) : ¬ m d = nI d := by
  obtain ⟨par, h⟩ := h
  obtain ⟨h1, h2, h3, h4⟩ := h d hd
  rw [h1, ieq (by omega) (by omega), h4, hg]
  simp
theorem UF.new {n : Nat} {g : Nat → Bool} {R : Nat → Nat} {m m' : Nat → Int32} (h : UF n g R m) (f : ∀ d, d ≠ n → m' d = m d) (hv : m' n = nI n) : UF (n + 1) (fup g n false) (fup R n n) m' := by
  obtain ⟨par, h⟩ := h
  refine ⟨fup par n n, fun d hd => ?_⟩
  by_cases z : d = n
  · subst z
    rw [fup_s, fup_s, fup_s, if_pos rfl]
    exact ⟨hv, Nat.le_refl _, rfl, by simp⟩
  · obtain ⟨h1, h2, h3, h4⟩ := h d (by omega)
    rw [fup_n z, fup_n z, fup_n z, fup_n (by omega), f d z]
    exact ⟨h1, h2, h3, h4⟩
theorem UF.join {n a b : Nat} {g : Nat → Bool} {R : Nat → Nat} {m m' : Nat → Int32} (h : UF n g R m) (hab : a < b) (hb : b < n) (hga : g a = false) (hgb : g b = false) (f : ∀ d, d ≠ b → m' d = m d) (hv : m' b = nI a) : UF n (fup g b true) (fun d => if R d = b then a else R d) m' := by
  have ra := (h.root (show a < n by omega) hga).2
  have rb := (h.root hb hgb).2
  obtain ⟨par, h⟩ := h
  refine ⟨fup par b a, fun d hd => ?_⟩
  by_cases z : d = b
  · subst z
    rw [fup_s, fup_s, if_neg (show ¬ a = d by omega)]
    refine ⟨hv, by omega, ?_, by simp; omega⟩
    show (if R d = d then a else R d) = (if R a = d then a else R a)
    rw [rb, if_pos rfl, ra, if_neg (show ¬ a = d by omega)]
  · obtain ⟨h1, h2, h3, h4⟩ := h d hd
    rw [fup_n z, fup_n z, f d z]
    refine ⟨h1, h2, ?_, h4⟩
    show (if R d = b then a else R d) = if par d = d then d else (if R (par d) = b then a else R (par d))
    rw [h3]
    by_cases y : par d = d
    · rw [if_pos y, if_pos y, if_neg z]
    · rw [if_neg y, if_neg y]
theorem mFst0 {n : Nat} {g : Nat → Bool} {R : Nat → Nat} {w : Mem} (hn : n ≤ 24) (h : UF n g R (w 15)) : ∀ (fuel a : Nat), a < n → a < fuel → lpw (sh_X9_first_s2 w) fuel (nI a) = some (nI (R a)) := by
  obtain ⟨par, h⟩ := h
  intro fuel
  induction fuel with
  | zero => intro a _ h2; omega
  | succ k ih =>
    intro a ha h2
    obtain ⟨h3, h4, h5, h6⟩ := h a ha
    rw [lpw]
    simp (disch := omega) only [sh_X9_first_s2, ldS_ok (show a < 24 by omega), bsome, h3, ieq]
    by_cases z : par a = a
    · rw [if_pos z, bsome, h5, if_pos z]
    · rw [if_neg z, bsome, h5, if_neg z]
      exact ih (par a) (by omega) (by omega)
theorem mFst {n a : Nat} {g : Nat → Bool} {R : Nat → Nat} {w : Mem} (hn : n ≤ 24) (h : UF n g R (w 15)) (ha : a < n) : sh_X9_first (nI a) w = some (nI (R a)) := by
  unfold sh_X9_first
  rw [mFst0 hn h FU a ha (by show a < 1000; omega)]
  rfl
def PsM (s : PT) (w : Mem) : Prop := w 0 23 = nI s.1 ∧ (∀ d, d < s.1 → w 16 d = s.2.2.1 d ∧ w 18 d = zB (s.2.2.2.1 d) ∧ w 17 d = nI 0) ∧ ∃ R, UF s.1 s.2.2.2.2.1 R (w 15) ∧ ∀ i, i < s.2.1 → ∃ a, a < s.1 ∧ w 14 i = nI a ∧ R a = s.2.2.2.2.2 i
def OutP (m m' : Mem) : Prop := (∀ q, q ≠ 0 → (q < 14 ∨ 18 < q) → m' q = m q) ∧ ∀ i, i ≠ 23 → m' 0 i = m 0 i
theorem OutP.refl {m : Mem} : OutP m m := ⟨fun _ _ _ => rfl, fun _ _ => rfl⟩
theorem OutP.trans {m m1 m2 : Mem} (h : OutP m m1) (g : OutP m1 m2) : OutP m m2 := ⟨fun q a b => (g.1 q a b).trans (h.1 q a b), fun i a => (g.2 i a).trans (h.2 i a)⟩
theorem OutP.put {m m1 m2 : Mem} (h : OutP m m1) {c : Nat} (hc : 14 ≤ c ∧ c ≤ 18) (g : ∀ q, q ≠ c → m2 q = m1 q) : OutP m m2 := ⟨fun q a b => (g q (by omega)).trans (h.1 q a b), fun i a => by rw [g 0 (by omega)]; exact h.2 i a⟩
/-- the end of a step -/
theorem mTail {p c i n r : Nat} {e : Nat → Int32} {o : Nat → Bool} {w : Mem} (hp : p < 7) (h4 : p ≠ 4) (h3 : p = 3 → 1 ≤ c) (hn : n ≤ 24) (hr : r < n) (hd : ∀ d, d < n → w 16 d = e d ∧ w 18 d = zB (o d)) : Ok (sh_X9_partsOf_j272 (nI c) (nI i) (nI p) (nI r) w) (fun x => ∃ w', x = .inl (nI (if p = 3 then c - 1 else c), nI (i + 1), w') ∧ (∀ d, d < n → w' 16 d = fup e r (e r + sEULER p) d ∧ w' 18 d = zB (fup o r (o r || decide (p = 6)) d)) ∧ ∀ q, q ≠ 16 → q ≠ 18 → w' q = w q) := by
  have k338 : ∀ (w1 : Mem) (c' : Nat) (v : Int32), v = sEULER p → w1 16 r = e r → (∀ d, d < n → w1 16 d = e d ∧ w1 18 d = zB (fup o r (o r || decide (p = 6)) d)) → Ok (sh_X9_partsOf_j338 (nI c') (nI i) 16 (nI r) (e r) v w1) (fun x => ∃ w', x = .inl (nI c', nI (i + 1), w') ∧ (∀ d, d < n → w' 16 d = fup e r (e r + sEULER p) d ∧ w' 18 d = zB (fup o r (o r || decide (p = 6)) d)) ∧ ∀ q, q ≠ 16 → w' q = w1 q) := by
    rintro w1 c' v rfl h1 h2
    simp only [sh_X9_partsOf_j338, ok_bind]
    refine ok_stM (by omega) (by omega) fun w2 f1 f2 f3 => ?_
    simp only [ok_letv, ok_some, nI_add]
    refine ⟨w2, rfl, fun d hdn => ⟨?_, ?_⟩, f1⟩
    · by_cases z : d = r
      · subst z; rw [f3]; exact fup_s.symm
      · rw [f2 d z, (h2 d hdn).1]; exact (fup_n z).symm
    · rw [f1 _ (by omega)]; exact (h2 d hdn).2
  have k304 : ∀ (c' : Nat) (b : Bool), b = decide (p = 6) → Ok (sh_X9_partsOf_j304 (nI c') (nI i) (nI p) (nI r) 18 (nI r) (zB (o r)) (zB b) w) (fun x => ∃ w', x = .inl (nI c', nI (i + 1), w') ∧ (∀ d, d < n → w' 16 d = fup e r (e r + sEULER p) d ∧ w' 18 d = zB (fup o r (o r || decide (p = 6)) d)) ∧ ∀ q, q ≠ 16 → q ≠ 18 → w' q = w q) := by
    rintro c' b rfl
    simp only [sh_X9_partsOf_j304, ok_bind]
    rw [zB_or2]
    refine ok_stM (by omega) (by omega) fun w1 f1 f2 f3 => ?_
    have h16 : w1 16 r = e r := by rw [f1 _ (by omega)]; exact (hd r hr).1
    have hk := k338 w1 c'
    refine Ok.of (ldS_ok (by omega) (by omega)) ?_
    rw [h16]
    have h2 : ∀ d, d < n → w1 16 d = e d ∧ w1 18 d = zB (fup o r (o r || decide (p = 6)) d) := fun d hdn => by
      refine ⟨by rw [f1 _ (by omega)]; exact (hd d hdn).1, ?_⟩
      by_cases z : d = r
      · subst z; rw [f3]; exact congrArg zB fup_s.symm
      · rw [f2 d z, (hd d hdn).2]; exact congrArg zB (fup_n z).symm
    have fin : ∀ v : Int32, v = sEULER p → Ok (sh_X9_partsOf_j338 (nI c') (nI i) 16 (nI r) (e r) v w1) (fun x => ∃ w', x = .inl (nI c', nI (i + 1), w') ∧ (∀ d, d < n → w' 16 d = fup e r (e r + sEULER p) d ∧ w' 18 d = zB (fup o r (o r || decide (p = 6)) d)) ∧ ∀ q, q ≠ 16 → q ≠ 18 → w' q = w q) := fun v hv =>
      (hk v hv h16 h2).mono fun x hx => by
        obtain ⟨w', a, b, k⟩ := hx
        exact ⟨w', a, b, fun q q1 q2 => by rw [k q q1, f1 q q2]⟩
    rcases p7 hp with rfl | rfl | rfl | rfl | rfl | rfl | rfl
    · exact okt rfl (fin _ rfl)
    · exact okf (by decide) (okf (by decide) (okf (by decide) (fin _ rfl)))
    · exact okf (by decide) (okf (by decide) (okf (by decide) (fin _ rfl)))
    · exact okf (by decide) (okt rfl (fin _ rfl))
    · exact absurd rfl h4
    · exact okf (by decide) (okf (by decide) (okt rfl (fin _ rfl)))
    · exact okf (by decide) (okf (by decide) (okf (by decide) (fin _ rfl)))
  have k283 : ∀ (s : Nat), s ≤ c → Ok (sh_X9_partsOf_j283 (nI i) (nI p) (nI r) (nI c) (nI s) w) (fun x => ∃ w', x = .inl (nI (c - s), nI (i + 1), w') ∧ (∀ d, d < n → w' 16 d = fup e r (e r + sEULER p) d ∧ w' 18 d = zB (fup o r (o r || decide (p = 6)) d)) ∧ ∀ q, q ≠ 16 → q ≠ 18 → w' q = w q) := by
    intro s hs
    unfold sh_X9_partsOf_j283
    rw [isub hs, ok_letv]
    refine okb (ldS_ok (by omega) (by omega)) ?_
    rw [(hd r hr).2]
    by_cases z : p = 6
    · refine okt (by rw [z]) ?_
      exact k304 (c - s) true (by simp [z])
    · refine okf (by rw [ieq (by omega) (by omega)]; exact z) ?_
      exact k304 (c - s) false (by simp [z])
  unfold sh_X9_partsOf_j272
  by_cases z : p = 3
  · refine okt (by rw [z]) ?_
    rw [if_pos z]
    exact k283 1 (h3 z)
  · refine okf (by rw [ieq (by omega) (by omega)]; exact z) ?_
    rw [if_neg z]
    exact k283 0 (Nat.zero_le _)
theorem or_ff {o : Nat → Bool} {r : Nat} : fup o r (o r || false) = o := by rw [Bool.or_false, fup_id]
/-- a step -/
theorem mStep {p c' i : Nat} {s : PT} {w : Mem} (hp : p < 7) (hI : PI s) (hn : s.1 < 24) (hb : bh s.2.1 p = some c') (h : PsM s w) (hv : w 12 i = nI p) (hi : i < 48) (hl : ∃ l, w 0 15 = nI l ∧ i < l ∧ l ≤ 48) : Ok (sh_X9_partsOf_s9 (nI s.2.1, nI i, w)) (fun x => ∃ w', x = .inl (nI (pst p s).2.1, nI (i + 1), w') ∧ PsM (pst p s) w' ∧ OutP w w') := by
  obtain ⟨n, c, e, o, g, q⟩ := s
  obtain ⟨h0, hd, R, hU, hq⟩ := h
  obtain ⟨hc, hI⟩ := hI
  obtain ⟨l, hl1, hl2, hl3⟩ := hl
  simp only at h0 hd hU hq hc hI hn hb
  have hni : ¬ l ≤ i := by omega
  simp (disch := omega) only [sh_X9_partsOf_s9, hl1, ile, hni, if_false]
  refine okb (ldS_ok hi (by omega)) ?_
  rw [hv]
  rcases p7 hp with rfl | rfl | rfl | rfl | rfl | rfl | rfl
  · -- a new part
    obtain rfl : c' = c + 1 := by simp only [bh] at hb; split at hb; exact (Option.some.inj hb).symm; cases hb
    have hc2 : c < 3 := by have := (bh_le hc hb).1; omega
    refine okt rfl ?_
    rw [h0, ok_bind]
    refine ok_stM hn (by omega) fun w1 a1 a2 a3 => ?_
    rw [show w1 0 23 = nI n by rw [a1 _ (by omega)]; exact h0, ok_bind]
    refine ok_stM hn (by omega) fun w2 b1 b2 b3 => ?_
    rw [show w2 0 23 = nI n by rw [b1 _ (by omega), a1 _ (by omega)]; exact h0, ok_bind]
    refine ok_stM hn (by omega) fun w3 c1 c2 c3 => ?_
    rw [show w3 0 23 = nI n by rw [c1 _ (by omega), b1 _ (by omega), a1 _ (by omega)]; exact h0, ok_bind]
    refine ok_stM hn (by omega) fun w4 d1 d2 d3 => ?_
    rw [show w4 0 23 = nI n by rw [d1 _ (by omega), c1 _ (by omega), b1 _ (by omega), a1 _ (by omega)]; exact h0, ok_bind]
    refine ok_stM hc2 (by omega) fun w5 k1 k2 k3 => ?_
    rw [show w5 0 23 = nI n by rw [k1 _ (by omega), d1 _ (by omega), c1 _ (by omega), b1 _ (by omega), a1 _ (by omega)]; exact h0, nI_add]
    refine ok_ms fun w6 m1 m2 m3 => ?_
    rw [ok_letv, nI_add]
    have hU' : UF (n + 1) (fup g n false) (fup R n n) (w6 15) := by
      rw [m1 _ (by omega), k1 _ (by omega), d1 _ (by omega), c1 _ (by omega), b1 _ (by omega)]
      exact hU.new a2 a3
    unfold sh_X9_partsOf_j94
    refine okf (by decide) ?_
    rw [isub (by omega), Nat.add_sub_cancel]
    refine okb (ldS_ok hc2 (by omega)) ?_
    rw [m1 _ (by omega), k3]
    refine okb (mFst (by omega) hU' (by omega)) ?_
    rw [fup_s]
    refine okf (by decide) ?_
    unfold sh_X9_partsOf_j256
    refine okf (by decide) ?_
    refine (mTail (p := 0) (n := n + 1) (e := fup e n (nI 0)) (o := fup o n false) (by omega) (by omega) (by omega) (by omega) (by omega) (fun d hdn => ⟨?_, ?_⟩)).mono fun x hx => ?_
    · rw [m1 _ (by omega), k1 _ (by omega), d1 _ (by omega), c1 _ (by omega)]
      by_cases z : d = n
      · subst z; rw [b3]; exact fup_s.symm
      · rw [b2 d z, a1 _ (by omega), (hd d (by omega)).1]; exact (fup_n z).symm
    · rw [m1 _ (by omega), k1 _ (by omega)]
      by_cases z : d = n
      · subst z; rw [d3]; exact congrArg zB (fup_s (f := o) (v := false)).symm
      · rw [d2 d z, c1 _ (by omega), b1 _ (by omega), a1 _ (by omega), (hd d (by omega)).2.1]; exact congrArg zB (fup_n z).symm
    · obtain ⟨w7, rfl, t1, t2⟩ := hx
      rw [fup_fup, fup_s] at t1
      refine ⟨w7, rfl, ⟨?_, fun d hdn => ⟨(t1 d hdn).1, ?_, ?_⟩, fup R n n, ?_, fun j hj => ?_⟩, ?_⟩
      · rw [t2 _ (by omega) (by omega)]; exact m3
      · have := (t1 d hdn).2
        rw [fup_s] at this
        rw [this]
        show zB (fup (fup o n false) n (false || false) d) = zB (fup o n false d)
        rw [fup_fup]
        rfl
      · rw [t2 _ (by omega) (by omega), m1 _ (by omega), k1 _ (by omega), d1 _ (by omega)]
        by_cases z : d = n
        · subst z; exact c3
        · rw [c2 d z, b1 _ (by omega), a1 _ (by omega)]; exact (hd d (by show d < n; have : d < n + 1 := hdn; omega)).2.2
      · rw [t2 _ (by omega) (by omega)]; exact hU'
      · rw [t2 _ (by omega) (by omega), m1 _ (by omega)]
        by_cases z : j = c
        · subst z; exact ⟨n, by show n < n + 1; omega, k3, by rw [fup_s]; exact fup_s.symm⟩
        · obtain ⟨a, q1, q2, q3⟩ := hq j (by have : j < c + 1 := hj; omega)
          refine ⟨a, by show a < n + 1; omega, by rw [k2 j z, d1 _ (by omega), c1 _ (by omega), b1 _ (by omega), a1 _ (by omega)]; exact q2, ?_⟩
          rw [fup_n (by omega), q3]
          exact (fup_n z).symm
      · refine ⟨fun x a b => by rw [t2 _ (by omega) (by omega), m1 _ (by omega), k1 _ (by omega), d1 _ (by omega), c1 _ (by omega), b1 _ (by omega), a1 _ (by omega)], fun x a => by rw [t2 _ (by omega) (by omega), m2 _ a, k1 _ (by omega), d1 _ (by omega), c1 _ (by omega), b1 _ (by omega), a1 _ (by omega)]⟩
  · -- two circles joined
    obtain ⟨hc2, rfl⟩ : 2 ≤ c ∧ c' = c - 1 := by simp only [bh] at hb; split at hb; exact ⟨by assumption, (Option.some.inj hb).symm⟩; cases hb
    have ha := hI (c - 2) (by omega)
    have hb' := hI (c - 1) (by omega)
    obtain ⟨x1, y1, y2, y3⟩ := hq (c - 1) (by omega)
    obtain ⟨x2, z1, z2, z3⟩ := hq (c - 2) (by omega)
    refine okf (by decide) ?_
    unfold sh_X9_partsOf_j94
    refine okf (by decide) ?_
    rw [isub (show 1 ≤ c by omega)]
    refine okb (ldS_ok (by omega) (by omega)) ?_
    rw [y2]
    refine okb (mFst (by omega) hU y1) ?_
    rw [y3]
    refine okt rfl ?_
    rw [isub hc2]
    refine okb (ldS_ok (by omega) (by omega)) ?_
    rw [z2]
    refine okb (mFst (by omega) hU z1) ?_
    rw [z3, mnI_n (by omega) (by omega), mxI_n (by omega) (by omega), Nat.min_comm, Nat.max_comm, ok_letv, ok_letv]
    obtain ⟨a, hA⟩ : ∃ a, a = q (c - 2) := ⟨_, rfl⟩
    obtain ⟨b, hB⟩ : ∃ b, b = q (c - 1) := ⟨_, rfl⟩
    rw [← hA, ← hB]
    rw [← hA] at ha
    rw [← hB] at hb'
    have fin : ∀ (m : Nat) (e' : Nat → Int32) (o' g' : Nat → Bool) (R' q' : Nat → Nat) (w1 : Mem), m < n → w1 0 23 = nI n → (∀ d, d < n → w1 16 d = e' d ∧ w1 18 d = zB (o' d) ∧ w1 17 d = nI 0) → UF n g' R' (w1 15) → g' m = false → (∀ j, j < c - 2 → ∃ a, a < n ∧ w1 14 j = nI a ∧ R' a = q' j) → q' (c - 2) = m → OutP w w1 → Ok (sh_X9_partsOf_j239 (nI c) (nI i) (nI 1) (nI m) w1) (fun x => ∃ w', x = .inl (nI (c - 1), nI (i + 1), w') ∧ PsM (n, c - 1, fup e' m (e' m + sEULER 1), o', g', q') w' ∧ OutP w w') := by
      intro m e' o' g' R' q' w1 hm k0 k1 k2 k2' k3 k4 k5
      unfold sh_X9_partsOf_j239
      rw [show nI c + (-1 : Int32) = nI (c - 1) by have := pk_m1 (c - 1); rwa [Nat.sub_add_cancel (by omega)] at this, ok_letv, isub (by omega), show c - 1 - 1 = c - 2 by omega, ok_bind]
      refine ok_stM (by omega) (by omega) fun w2 f1 f2 f3 => ?_
      unfold sh_X9_partsOf_j256
      refine okf (by decide) ?_
      refine (mTail (p := 1) (c := c - 1) (n := n) (e := e') (o := o') (by omega) (by omega) (by omega) (by omega) hm (fun d hdn => ⟨?_, ?_⟩)).mono fun x hx => ?_
      · rw [f1 _ (by omega)]; exact (k1 d hdn).1
      · rw [f1 _ (by omega)]; exact (k1 d hdn).2.1
      · obtain ⟨w7, rfl, t1, t2⟩ := hx
        refine ⟨w7, rfl, ⟨?_, fun d hdn => ⟨(t1 d hdn).1, ?_, ?_⟩, R', ?_, fun j hj => ?_⟩, ?_⟩
        · rw [t2 _ (by omega) (by omega), f1 _ (by omega)]; exact k0
        · have := (t1 d hdn).2
          rw [show decide ((1 : Nat) = 6) = false from rfl, or_ff] at this
          exact this
        · rw [t2 _ (by omega) (by omega), f1 _ (by omega)]; exact (k1 d hdn).2.2
        · rw [t2 _ (by omega) (by omega), f1 _ (by omega)]; exact k2
        · have hj' : j < c - 1 := hj
          rw [t2 _ (by omega) (by omega)]
          by_cases z : j = c - 2
          · subst z; exact ⟨m, hm, f3, by rw [(k2.root hm k2').2]; exact k4.symm⟩
          · obtain ⟨a, q1, q2, q3⟩ := k3 j (by omega)
            exact ⟨a, q1, by rw [f2 j z]; exact q2, q3⟩
        · exact (k5.put (by omega) f1).trans ⟨fun x a b => t2 x (by omega) (by omega), fun x a => by rw [t2 _ (by omega) (by omega)]⟩
    by_cases z : a = b
    · refine okt (by rw [z, Nat.min_self, Nat.max_self]) ?_
      rw [z, Nat.min_self]
      refine (fin b e o g R q w hb'.1 h0 hd hU hb'.2 (fun j hj => hq j (by omega)) (by rw [← hA, z]) OutP.refl).mono fun x hx => ?_
      simp only [pst]
      rw [← hA, ← hB, if_pos z]
      exact hx
    · obtain ⟨m, hm⟩ : ∃ m, m = min a b := ⟨_, rfl⟩
      obtain ⟨M, hM⟩ : ∃ M, M = max a b := ⟨_, rfl⟩
      rw [← hm, ← hM]
      refine okf (by rw [ieq (by omega) (by omega)]; omega) ?_
      rw [ok_bind]
      refine ok_stM (show M < 24 by omega) (by omega) fun w1 a1 a2 a3 => ?_
      refine okb (ldS_ok (show m < 24 by omega) (by omega)) (okb (ldS_ok (show M < 24 by omega) (by omega)) ?_)
      rw [a1 16 (by omega), (hd m (by omega)).1, (hd M (by omega)).1, ok_bind]
      refine ok_stM (show m < 24 by omega) (by omega) fun w2 b1 b2 b3 => ?_
      refine okb (ldS_ok (show m < 24 by omega) (by omega)) (okb (ldS_ok (show M < 24 by omega) (by omega)) ?_)
      rw [b1 18 (by omega), a1 18 (by omega), (hd m (by omega)).2.1, (hd M (by omega)).2.1, zB_or2, ok_bind]
      refine ok_stM (show m < 24 by omega) (by omega) fun w3 c1 c2 c3 => ?_
      have hgm : g m = false := by rcases Nat.le_total a b with y | y; rw [hm, Nat.min_eq_left y]; exact ha.2; rw [hm, Nat.min_eq_right y]; exact hb'.2
      have hgM : g M = false := by rcases Nat.le_total a b with y | y; rw [hM, Nat.max_eq_right y]; exact hb'.2; rw [hM, Nat.max_eq_left y]; exact ha.2
      refine (fin m (fup e m (e m + e M)) (fup o m (o m || o M)) (fup g M true) (fun d => if R d = M then m else R d) (fun i => if q i = M then m else q i) w3 (by omega) ?_ (fun d hdn => ⟨?_, ?_, ?_⟩) ?_ (by rw [fup_n (by omega)]; exact hgm) (fun j hj => ?_) ?_ ?_).mono fun x hx => ?_
      · rw [c1 _ (by omega), b1 _ (by omega), a1 _ (by omega)]; exact h0
      · rw [c1 _ (by omega)]
        by_cases y : d = m
        · subst y; rw [b3]; exact fup_s.symm
        · rw [b2 d y, a1 _ (by omega), (hd d hdn).1]; exact (fup_n y).symm
      · by_cases y : d = m
        · subst y; rw [c3]; exact congrArg zB fup_s.symm
        · rw [c2 d y, b1 _ (by omega), a1 _ (by omega), (hd d hdn).2.1]; exact congrArg zB (fup_n y).symm
      · rw [c1 _ (by omega), b1 _ (by omega), a1 _ (by omega)]; exact (hd d hdn).2.2
      · rw [c1 _ (by omega), b1 _ (by omega)]
        exact hU.join (by omega) (by omega) hgm hgM a2 a3
      · obtain ⟨a', q1, q2, q3⟩ := hq j (by omega)
        exact ⟨a', q1, by rw [c1 _ (by omega), b1 _ (by omega), a1 _ (by omega)]; exact q2, by rw [q3]⟩
      · rw [← hA]
        split <;> omega
      · exact ((OutP.refl.put (by omega) a1).put (by omega) b1).put (by omega) c1
      · simp only [pst]
        rw [← hA, ← hB, if_neg z, ← hm, ← hM]
        rw [fup_fup, fup_s] at hx
        exact hx
  · -- a circle split
    obtain ⟨hc2, rfl⟩ : 1 ≤ c ∧ c' = c + 1 := by simp only [bh] at hb; split at hb; exact ⟨by omega, (Option.some.inj hb).symm⟩; cases hb
    have hc3 : c < 3 := by have := (bh_le hc hb).1; omega
    have hb' := hI (c - 1) (by omega)
    obtain ⟨x1, y1, y2, y3⟩ := hq (c - 1) (by omega)
    refine okf (by decide) ?_
    unfold sh_X9_partsOf_j94
    refine okf (by decide) ?_
    rw [isub hc2]
    refine okb (ldS_ok (by omega) (by omega)) ?_
    rw [y2]
    refine okb (mFst (by omega) hU y1) ?_
    rw [y3]
    refine okf (by decide) ?_
    unfold sh_X9_partsOf_j256
    refine okt rfl ?_
    rw [ok_bind]
    refine ok_stM hc3 (by omega) fun w2 f1 f2 f3 => ?_
    rw [ok_letv, nI_add]
    refine (mTail (p := 2) (c := c + 1) (n := n) (e := e) (o := o) (by omega) (by omega) (by omega) (by omega) hb'.1 (fun d hdn => ⟨?_, ?_⟩)).mono fun x hx => ?_
    · rw [f1 _ (by omega)]; exact (hd d hdn).1
    · rw [f1 _ (by omega)]; exact (hd d hdn).2.1
    · obtain ⟨w7, rfl, t1, t2⟩ := hx
      refine ⟨w7, rfl, ⟨?_, fun d hdn => ⟨(t1 d hdn).1, ?_, ?_⟩, R, ?_, fun j hj => ?_⟩, ?_⟩
      · rw [t2 _ (by omega) (by omega), f1 _ (by omega)]; exact h0
      · have := (t1 d hdn).2
        rw [show decide ((2 : Nat) = 6) = false from rfl, or_ff] at this
        exact this
      · rw [t2 _ (by omega) (by omega), f1 _ (by omega)]; exact (hd d hdn).2.2
      · rw [t2 _ (by omega) (by omega), f1 _ (by omega)]; exact hU
      · have hj' : j < c + 1 := hj
        rw [t2 _ (by omega) (by omega)]
        by_cases z : j = c
        · subst z; exact ⟨q (j - 1), hb'.1, f3, by rw [(hU.root hb'.1 hb'.2).2]; exact fup_s.symm⟩
        · obtain ⟨a, q1, q2, q3⟩ := hq j (by omega)
          exact ⟨a, q1, by rw [f2 j z]; exact q2, by rw [q3]; exact (fup_n z).symm⟩
      · exact (OutP.refl.put (by omega) f1).trans ⟨fun x a b => t2 x (by omega) (by omega), fun x a => by rw [t2 _ (by omega) (by omega)]⟩
  · -- closed by a disc
    obtain ⟨hc2, rfl⟩ : 1 ≤ c ∧ c' = c - 1 := by simp only [bh] at hb; split at hb; exact ⟨by omega, (Option.some.inj hb).symm⟩; cases hb
    have hb' := hI (c - 1) (by omega)
    obtain ⟨x1, y1, y2, y3⟩ := hq (c - 1) (by omega)
    refine okf (by decide) ?_
    unfold sh_X9_partsOf_j94
    refine okf (by decide) ?_
    rw [isub hc2]
    refine okb (ldS_ok (by omega) (by omega)) ?_
    rw [y2]
    refine okb (mFst (by omega) hU y1) ?_
    rw [y3]
    refine okf (by decide) ?_
    unfold sh_X9_partsOf_j256
    refine okf (by decide) ?_
    refine (mTail (p := 3) (c := c) (n := n) (e := e) (o := o) (by omega) (by omega) (fun _ => hc2) (by omega) hb'.1 (fun d hdn => ⟨(hd d hdn).1, (hd d hdn).2.1⟩)).mono fun x hx => ?_
    obtain ⟨w7, rfl, t1, t2⟩ := hx
    refine ⟨w7, rfl, ⟨?_, fun d hdn => ⟨(t1 d hdn).1, ?_, ?_⟩, R, ?_, fun j hj => ?_⟩, ⟨fun x a b => t2 x (by omega) (by omega), fun x a => by rw [t2 _ (by omega) (by omega)]⟩⟩
    · rw [t2 _ (by omega) (by omega)]; exact h0
    · have := (t1 d hdn).2
      rw [show decide ((3 : Nat) = 6) = false from rfl, or_ff] at this
      exact this
    · rw [t2 _ (by omega) (by omega)]; exact (hd d hdn).2.2
    · rw [t2 _ (by omega) (by omega)]; exact hU
    · have hj' : j < c - 1 := hj
      rw [t2 _ (by omega) (by omega)]
      exact hq j (by omega)
  · -- exchanged
    obtain ⟨hc2, rfl⟩ : 2 ≤ c ∧ c' = c := by simp only [bh] at hb; split at hb; exact ⟨by omega, (Option.some.inj hb).symm⟩; cases hb
    obtain ⟨x1, y1, y2, y3⟩ := hq (c' - 1) (by omega)
    obtain ⟨x2, z1, z2, z3⟩ := hq (c' - 2) (by omega)
    refine okf (by decide) ?_
    unfold sh_X9_partsOf_j94
    refine okt rfl ?_
    rw [isub hc2, isub (show 1 ≤ c' by omega)]
    refine okb (ldS_ok (by omega) (by omega)) (okb (ldS_ok (by omega) (by omega)) ?_)
    rw [y2, z2, ok_bind]
    refine ok_stM (by omega) (by omega) fun w1 f1 f2 f3 => ?_
    rw [ok_bind]
    refine ok_stM (by omega) (by omega) fun w2 g1 g2 g3 => ?_
    simp only [ok_letv, ok_some, nI_add]
    refine ⟨w2, rfl, ⟨?_, fun d hdn => ⟨?_, ?_, ?_⟩, R, ?_, fun j hj => ?_⟩, (OutP.refl.put (by omega) f1).put (by omega) g1⟩
    · rw [g1 _ (by omega), f1 _ (by omega)]; exact h0
    · rw [g1 _ (by omega), f1 _ (by omega)]; exact (hd d hdn).1
    · rw [g1 _ (by omega), f1 _ (by omega)]; exact (hd d hdn).2.1
    · rw [g1 _ (by omega), f1 _ (by omega)]; exact (hd d hdn).2.2
    · rw [g1 _ (by omega), f1 _ (by omega)]; exact hU
    · have hj' : j < c' := hj
      by_cases z : j = c' - 2
      · subst z; exact ⟨x1, y1, g3, by rw [y3]; exact fup_s.symm⟩
      · by_cases y : j = c' - 1
        · subst y; exact ⟨x2, z1, by rw [g2 _ z]; exact f3, by rw [z3]; exact ((fup_n z).trans fup_s).symm⟩
        · obtain ⟨a, q1, q2, q3⟩ := hq j hj'
          exact ⟨a, q1, by rw [g2 j z, f2 j y]; exact q2, by rw [q3]; exact ((fup_n z).trans (fup_n y)).symm⟩
  · -- a handle
    obtain ⟨hc2, rfl⟩ : 1 ≤ c ∧ c' = c := by simp only [bh] at hb; split at hb; exact ⟨by omega, (Option.some.inj hb).symm⟩; cases hb
    have hb' := hI (c' - 1) (by omega)
    obtain ⟨x1, y1, y2, y3⟩ := hq (c' - 1) (by omega)
    refine okf (by decide) ?_
    unfold sh_X9_partsOf_j94
    refine okf (by decide) ?_
    rw [isub hc2]
    refine okb (ldS_ok (by omega) (by omega)) ?_
    rw [y2]
    refine okb (mFst (by omega) hU y1) ?_
    rw [y3]
    refine okf (by decide) ?_
    unfold sh_X9_partsOf_j256
    refine okf (by decide) ?_
    refine (mTail (p := 5) (c := c') (n := n) (e := e) (o := o) (by omega) (by omega) (by omega) (by omega) hb'.1 (fun d hdn => ⟨(hd d hdn).1, (hd d hdn).2.1⟩)).mono fun x hx => ?_
    obtain ⟨w7, rfl, t1, t2⟩ := hx
    refine ⟨w7, rfl, ⟨?_, fun d hdn => ⟨(t1 d hdn).1, ?_, ?_⟩, R, ?_, fun j hj => ?_⟩, ⟨fun x a b => t2 x (by omega) (by omega), fun x a => by rw [t2 _ (by omega) (by omega)]⟩⟩
    · rw [t2 _ (by omega) (by omega)]; exact h0
    · have := (t1 d hdn).2
      rw [show decide ((5 : Nat) = 6) = false from rfl, or_ff] at this
      exact this
    · rw [t2 _ (by omega) (by omega)]; exact (hd d hdn).2.2
    · rw [t2 _ (by omega) (by omega)]; exact hU
    · rw [t2 _ (by omega) (by omega)]
      exact hq j hj
  · -- a cross
    obtain ⟨hc2, rfl⟩ : 1 ≤ c ∧ c' = c := by simp only [bh] at hb; split at hb; exact ⟨by omega, (Option.some.inj hb).symm⟩; cases hb
    have hb' := hI (c' - 1) (by omega)
    obtain ⟨x1, y1, y2, y3⟩ := hq (c' - 1) (by omega)
    refine okf (by decide) ?_
    unfold sh_X9_partsOf_j94
    refine okf (by decide) ?_
    rw [isub hc2]
    refine okb (ldS_ok (by omega) (by omega)) ?_
    rw [y2]
    refine okb (mFst (by omega) hU y1) ?_
    rw [y3]
    refine okf (by decide) ?_
    unfold sh_X9_partsOf_j256
    refine okf (by decide) ?_
    refine (mTail (p := 6) (c := c') (n := n) (e := e) (o := o) (by omega) (by omega) (by omega) (by omega) hb'.1 (fun d hdn => ⟨(hd d hdn).1, (hd d hdn).2.1⟩)).mono fun x hx => ?_
    obtain ⟨w7, rfl, t1, t2⟩ := hx
    refine ⟨w7, rfl, ⟨?_, fun d hdn => ⟨(t1 d hdn).1, ?_, ?_⟩, R, ?_, fun j hj => ?_⟩, ⟨fun x a b => t2 x (by omega) (by omega), fun x a => by rw [t2 _ (by omega) (by omega)]⟩⟩
    · rw [t2 _ (by omega) (by omega)]; exact h0
    · have := (t1 d hdn).2
      rw [show decide ((6 : Nat) = 6) = true from rfl, Bool.or_true] at this
      exact this
    · rw [t2 _ (by omega) (by omega)]; exact (hd d hdn).2.2
    · rw [t2 _ (by omega) (by omega)]; exact hU
    · rw [t2 _ (by omega) (by omega)]
      exact hq j hj
