/-! parts: what is asked of them -/
def PfM (s : PT) (w : Mem) : Prop := w 0 23 = nI s.1 ∧ (∀ d, d < s.1 → (s.2.2.2.2.1 d = false → w 15 d = nI d ∧ w 16 d = s.2.2.1 d ∧ w 18 d = zB (s.2.2.2.1 d) ∧ w 17 d = nI (cnt s.2.2.2.2.2 s.2.1 d)) ∧ (s.2.2.2.2.1 d = true → ¬ w 15 d = nI d)) ∧ ∀ i, i < s.2.1 → ∃ a, w 14 i = nI a ∧ sh_X9_first (nI a) w = some (nI (s.2.2.2.2.2 i))
theorem first_congr {w w' : Mem} {x : Int32} (h : w' 15 = w 15) : sh_X9_first x w' = sh_X9_first x w := by
  have : sh_X9_first_s2 w' = sh_X9_first_s2 w := by
    funext s
    unfold sh_X9_first_s2 ldS
    rw [h]
  unfold sh_X9_first
  rw [this]
theorem mParts {L : List Nat} {w : Mem} (hS : Sf L) (h : RoM L w) : Ok (sh_X9_partsOf w) (fun w' => PfM (pfo L L.length) w' ∧ OutP w w') := by
  have hl := hS.1
  unfold sh_X9_partsOf
  refine ok_ms fun w1 f1 f2 f3 => ?_
  rw [ok_bind]
  refine (ok_for L.length (fun i st => ∃ w' : Mem, st = (nI (pfo L i).2.1, nI i, w') ∧ PsM (pfo L i) w' ∧ OutP w w') (P := fun r : Int32 × Mem => r.1 = nI (pfo L L.length).2.1 ∧ PsM (pfo L L.length) r.2 ∧ OutP w r.2) ⟨w1, rfl, ⟨f3, fun d hd => absurd hd (Nat.not_lt_zero d), fun _ => 0, ⟨fun _ => 0, fun d hd => absurd hd (Nat.not_lt_zero d)⟩, fun d hd => absurd hd (Nat.not_lt_zero d)⟩, fun q a b => f1 q a, fun i a => f2 i a⟩ ?_ ?_ (by omega)).mono fun r hr => ?_
  · rintro i _ hi ⟨w3, rfl, e1, e2⟩
    obtain ⟨k1, k2, k3⟩ := pfo_c hS i (by omega)
    obtain ⟨d, b1, b2⟩ := bh_take hS hi
    rw [← k1] at b1
    refine (mStep (hS.getD hi) k3 (by omega) b1 e1 (by rw [e2.1 _ (by omega) (by omega), ← h.2 i hi, Nat.zero_add]) (by omega) ⟨L.length, by rw [e2.2 _ (by omega)]; exact h.1, hi, by omega⟩).mono fun x hx => ?_
    obtain ⟨w4, rfl, q1, q2⟩ := hx
    exact ⟨_, rfl, w4, rfl, q1, e2.trans q2⟩
  · rintro _ ⟨w3, rfl, e1, e2⟩
    have v1 : w3 0 15 = nI L.length := by rw [e2.2 _ (by omega)]; exact h.1
    simp (disch := omega) only [sh_X9_partsOf_s9, v1, ile, Nat.le_refl, if_true, ok_some, inr_ex]
    exact ⟨trivial, e1, e2⟩
  · obtain ⟨k1, k2, k3⟩ := pfo_c hS L.length (Nat.le_refl _)
    generalize pfo L L.length = s at *
    obtain ⟨n, c, e, o, g, q⟩ := s
    obtain ⟨r0, ⟨h0, hd, R, hU, hq⟩, r2⟩ := hr
    obtain ⟨hc, hI⟩ := k3
    simp only at k1 k2 hc hI r0 h0 hd hU hq
    rw [r0, ok_bind]
    refine (ok_for c (fun i st => ∃ w' : Mem, st = (nI i, w') ∧ (∀ d, d < n → w' 17 d = nI (cnt q i d)) ∧ (∀ x, x ≠ 17 → w' x = r.2 x)) (P := fun w' : Mem => (∀ d, d < n → w' 17 d = nI (cnt q c d)) ∧ (∀ x, x ≠ 17 → w' x = r.2 x)) ⟨r.2, rfl, fun d hdn => (hd d hdn).2.2, fun _ _ => rfl⟩ ?_ ?_ (by omega)).mono fun w6 h6 => ?_
    · rintro i _ hi ⟨w6, rfl, r1, r3⟩
      have hni : ¬ c ≤ i := by omega
      obtain ⟨a, a1, a2, a3⟩ := hq i hi
      have v4 : w6 14 i = nI a := by rw [r3 _ (by omega)]; exact a2
      have hqi := (hI i hi).1
      have hcq := cnt_le (q := q) (c := i) (d := q i)
      simp (disch := omega) only [sh_X9_partsOf_s348, ile, hni, if_false]
      refine okb (ldS_ok (by omega) (by omega)) ?_
      rw [v4]
      refine okb (mFst (n := n) (g := g) (R := R) (by omega) (by rw [r3 _ (by omega)]; exact hU) a1) ?_
      rw [a3]
      refine okb (ldS_ok (by omega) (by omega)) ?_
      rw [r1 _ hqi, nI_add, ok_bind]
      refine ok_stM (by omega) (by omega) fun w7 d1 d2 d3 => ?_
      simp only [ok_letv, ok_some, inl_ex, nI_add]
      refine ⟨w7, rfl, fun d hdn => ?_, fun x hx => (d1 x hx).trans (r3 x hx)⟩
      by_cases z : d = q i
      · subst z; rw [d3, cnt_s, if_pos rfl]
      · rw [d2 _ z, r1 d hdn, cnt_s, if_neg (fun y => z y.symm), Nat.add_zero]
    · rintro _ ⟨w6, rfl, r1, r3⟩
      simp (disch := omega) only [sh_X9_partsOf_s348, ile, Nat.le_refl, if_true, ok_some, inr_ex]
      exact ⟨r1, r3⟩
    · obtain ⟨r1, r3⟩ := h6
      rw [ok_some]
      have hU6 : UF n g R (w6 15) := by rw [r3 _ (by omega)]; exact hU
      refine ⟨⟨by rw [r3 _ (by omega)]; exact h0, fun d hdn => ⟨fun hg => ⟨(hU6.root hdn hg).1, ?_, ?_, r1 d hdn⟩, fun hg => hU6.gone (by omega) hdn hg⟩, fun i hi => ?_⟩, ⟨fun x a b => by rw [r3 _ (by omega)]; exact r2.1 x a b, fun x a => by rw [r3 _ (by omega)]; exact r2.2 x a⟩⟩
      · rw [r3 _ (by omega)]; exact (hd d hdn).1
      · rw [r3 _ (by omega)]; exact (hd d hdn).2.1
      · obtain ⟨a, a1, a2, a3⟩ := hq i hi
        refine ⟨a, by rw [r3 _ (by omega)]; exact a2, ?_⟩
        rw [mFst (by omega) hU6 a1, a3]
/-! the parts left, as rows: euler numbers E, rims R, onesidedness O -/
def PcX (t N : Nat) (E : Nat → Int32) (R : Nat → Nat) (O : Nat → Bool) (w : WX) : Prop := w.1 t 0 = nI N ∧ ∀ k, k < N → w.1 (t + 1) k = E k ∧ w.1 (t + 2) k = nI (R k) ∧ w.1 (t + 3) k = zB (O k)
def PcM (n : Nat) (g : Nat → Bool) (E : Nat → Int32) (R : Nat → Nat) (O : Nat → Bool) (w : Mem) : Prop := w 0 23 = nI n ∧ ∀ d, d < n → (g d = false → w 15 d = nI d ∧ w 16 d = E (rk g d) ∧ w 17 d = nI (R (rk g d)) ∧ w 18 d = zB (O (rk g d))) ∧ (g d = true → ¬ w 15 d = nI d)
def sN (s : PT) : Nat := rk s.2.2.2.2.1 s.1
def sE (s : PT) (k : Nat) : Int32 := s.2.2.1 (un s.2.2.2.2.1 s.1 k)
def sR (s : PT) (k : Nat) : Nat := cnt s.2.2.2.2.2 s.2.1 (un s.2.2.2.2.1 s.1 k)
def sO (s : PT) (k : Nat) : Bool := s.2.2.2.1 (un s.2.2.2.2.1 s.1 k)
theorem PfX.pc {t : Nat} {s : PT} {w : WX} (h : PfX t s w) : PcX t (sN s) (sE s) (sR s) (sO s) w := by
  obtain ⟨⟨h0, -⟩, hd, -⟩ := h
  refine ⟨h0, fun k hk => ?_⟩
  obtain ⟨u1, u2, u3⟩ := un_spec hk
  obtain ⟨a, b, c⟩ := hd _ u1 u2
  rw [u3] at a b c
  exact ⟨a, c, b⟩
theorem PfM.pc {s : PT} {w : Mem} (h : PfM s w) : PcM s.1 s.2.2.2.2.1 (sE s) (sR s) (sO s) w := by
  obtain ⟨h0, hd, -⟩ := h
  refine ⟨h0, fun d hdn => ⟨fun hg => ?_, (hd d hdn).2⟩⟩
  obtain ⟨a, b, c, k⟩ := (hd d hdn).1 hg
  refine ⟨a, ?_, ?_, ?_⟩
  · rw [b]; unfold sE; rw [un_rk hdn hg]
  · rw [k]; unfold sR; rw [un_rk hdn hg]
  · rw [c]; unfold sO; rw [un_rk hdn hg]
/-- two parts are alike -/
def akP (E : Nat → Int32) (R : Nat → Nat) (O : Nat → Bool) (E' : Nat → Int32) (R' : Nat → Nat) (O' : Nat → Bool) (i j : Nat) : Bool := decide (R i = R' j) && (decide (E i = E' j) && decide (O i = O' j))
theorem zB_inj {a b : Bool} : (zB a = zB b) = (a = b) := by cases a <;> cases b <;> simp [zB] <;> decide
theorem xAre {t u N M i j : Nat} {E E' : Nat → Int32} {R R' : Nat → Nat} {O O' : Nat → Bool} {w : WX} (h : PcX t N E R O w) (g : PcX u M E' R' O' w) (hR : ∀ k, R k ≤ 3) (hR' : ∀ k, R' k ≤ 3) (hN : N ≤ 24) (hM : M ≤ 24) (hi : i < N) (hj : j < M) : sh_X2_areAlike t (nI i) u (nI j) w = some (zB (akP E R O E' R' O' i j)) := by
  obtain ⟨a1, a2, a3⟩ := h.2 i hi
  obtain ⟨b1, b2, b3⟩ := g.2 j hj
  have := hR i
  have := hR' j
  simp (disch := omega) only [sh_X2_areAlike, ldS_ok (show i < 24 by omega), ldS_ok (show j < 24 by omega), bsome, a1, a2, a3, b1, b2, b3, ieq, zB_inj, akP]
  by_cases c1 : R i = R' j
  · rw [if_pos c1, decide_eq_true c1, Bool.true_and]
    by_cases c2 : E i = E' j
    · rw [if_pos c2, decide_eq_true c2, Bool.true_and]
      by_cases c3 : O i = O' j
      · rw [if_pos c3, decide_eq_true c3]; rfl
      · rw [if_neg c3, decide_eq_false c3]; rfl
    · rw [if_neg c2, decide_eq_false c2]; rfl
  · rw [if_neg c1, decide_eq_false c1]; rfl
theorem mAre {n i j : Nat} {g : Nat → Bool} {E : Nat → Int32} {R : Nat → Nat} {O : Nat → Bool} {w : Mem} (h : PcM n g E R O w) (hR : ∀ k, R k ≤ 3) (hn : n ≤ 24) (hi : i < n) (hgi : g i = false) (hj : j < n) (hgj : g j = false) : sh_X9_areAlike (nI i) (nI j) w = some (zB (akP E R O E R O (rk g i) (rk g j))) := by
  obtain ⟨-, a1, a2, a3⟩ := (h.2 i hi).1 hgi
  obtain ⟨-, b1, b2, b3⟩ := (h.2 j hj).1 hgj
  have := hR (rk g i)
  have := hR (rk g j)
  simp (disch := omega) only [sh_X9_areAlike, ldS_ok (show i < 24 by omega), ldS_ok (show j < 24 by omega), bsome, a1, a2, a3, b1, b2, b3, ieq, zB_inj, akP]
  by_cases c1 : R (rk g i) = R (rk g j)
  · rw [if_pos c1, decide_eq_true c1, Bool.true_and]
    by_cases c2 : E (rk g i) = E (rk g j)
    · rw [if_pos c2, decide_eq_true c2, Bool.true_and]
      by_cases c3 : O (rk g i) = O (rk g j)
      · rw [if_pos c3, decide_eq_true c3]; rfl
      · rw [if_neg c3, decide_eq_false c3]; rfl
    · rw [if_neg c2, decide_eq_false c2]; rfl
  · rw [if_neg c1, decide_eq_false c1]; rfl
/-- an alike one among the first j -/
def bfB (A : Nat → Nat → Bool) (k : Nat) : Nat → Bool
  | 0 => false
  | j + 1 => bfB A k j || A k j
def ulN (A : Nat → Nat → Bool) : Nat → Nat
  | 0 => 0
  | k + 1 => ulN A k + if bfB A k k = true then 0 else 1
theorem bfB_mono {A : Nat → Nat → Bool} {k i : Nat} (h : bfB A k i = true) : ∀ {j : Nat}, i ≤ j → bfB A k j = true
  | 0, hj => by rw [Nat.le_zero.mp hj] at h; exact h
  | j + 1, hj => by
    by_cases e : i = j + 1
    · rw [← e]; exact h
    · rw [bfB, bfB_mono (j := j) h (by omega), Bool.true_or]
theorem ulN_le {A : Nat → Nat → Bool} : ∀ k, ulN A k ≤ k
  | 0 => Nat.le_refl 0
  | k + 1 => by
    have := ulN_le (A := A) k
    unfold ulN
    split <;> omega
theorem xHasB {t N k : Nat} {E : Nat → Int32} {R : Nat → Nat} {O : Nat → Bool} {w : WX} (h : PcX t N E R O w) (hR : ∀ k, R k ≤ 3) (hN : N ≤ 24) (hk : k < N) : sh_X2_hasAlikeBefore t (nI k) w = some (zB (bfB (akP E R O E R O) k k)) := by
  have key : Ok (lpw (sh_X2_hasAlikeBefore_s2 t (nI k) w) FU (nI 0)) (fun x => (bfB (akP E R O E R O) k k = true ∧ x = .inl ()) ∨ (bfB (akP E R O E R O) k k = false ∧ x = .inr ())) := by
    refine ok_forb k (fun j st => st = nI j ∧ bfB (akP E R O E R O) k j = false) ⟨rfl, rfl⟩ ?_ ?_ (by omega)
    · rintro j _ hj ⟨rfl, e⟩
      have hnj : ¬ k ≤ j := by omega
      simp (disch := omega) only [sh_X2_hasAlikeBefore_s2, ile, hnj, if_false]
      refine okb (xAre h h hR hR hN hN hk (by omega)) ?_
      by_cases q : akP E R O E R O k j = false
      · refine okt (by rw [zB_0]; exact q) ?_
        simp only [ok_letv, ok_some, nI_add]
        exact Or.inl ⟨_, rfl, rfl, by rw [bfB, e, q]; rfl⟩
      · refine okf (by rw [zB_0]; exact q) ?_
        rw [ok_some]
        refine Or.inr ⟨_, rfl, Or.inl ⟨bfB_mono (i := j + 1) ?_ hj, rfl⟩⟩
        rw [bfB, (Bool.not_eq_false _).mp q, Bool.or_true]
    · rintro _ ⟨rfl, e⟩
      simp (disch := omega) only [sh_X2_hasAlikeBefore_s2, ile, Nat.le_refl, if_true, ok_some]
      exact ⟨_, rfl, Or.inr ⟨e, rfl⟩⟩
  obtain ⟨x, hx, ⟨e, rfl⟩ | ⟨e, rfl⟩⟩ := key
  · simp only [sh_X2_hasAlikeBefore, hx, bsome, Sum.elim, e]; rfl
  · simp only [sh_X2_hasAlikeBefore, hx, bsome, Sum.elim, e]; rfl
theorem xUnl {t N : Nat} {E : Nat → Int32} {R : Nat → Nat} {O : Nat → Bool} {w : WX} (h : PcX t N E R O w) (hR : ∀ k, R k ≤ 3) (hN : N ≤ 24) : sh_X2_unlike t w = some (nI (ulN (akP E R O E R O) N)) := by
  have key : Ok (lpw (sh_X2_unlike_s4 t w) FU (nI 0, nI 0)) (fun x => x = nI (ulN (akP E R O E R O) N)) := by
    refine ok_for N (fun k st => st = (nI (ulN (akP E R O E R O) k), nI k)) rfl ?_ ?_ (by omega)
    · rintro k _ hk rfl
      have hnk : ¬ N ≤ k := by omega
      simp (disch := omega) only [sh_X2_unlike_s4, h.1, ile, hnk, if_false]
      refine okb (xHasB h hR hN hk) ?_
      by_cases q : bfB (akP E R O E R O) k k = false
      · refine okt (by rw [zB_0]; exact q) ?_
        simp only [ok_letv, ok_some, inl_ex, nI_add, ulN, q]
        rfl
      · refine okf (by rw [zB_0]; exact q) ?_
        simp only [ok_letv, ok_some, inl_ex, nI_add, ulN, (Bool.not_eq_false _).mp q]
        rfl
    · rintro _ rfl
      simp (disch := omega) only [sh_X2_unlike_s4, h.1, ile, Nat.le_refl, if_true, ok_some, inr_ex]
  obtain ⟨x, hx, rfl⟩ := key
  simp only [sh_X2_unlike, hx, bsome]
theorem mUnl {n : Nat} {g : Nat → Bool} {E : Nat → Int32} {R : Nat → Nat} {O : Nat → Bool} {w : Mem} (h : PcM n g E R O w) (hR : ∀ k, R k ≤ 3) (hn : n ≤ 24) : sh_X9_unlike w = some (nI (ulN (akP E R O E R O) (rk g n))) := by
  have key : Ok (lpw (sh_X9_unlike_s4 w) FU (nI 0, nI 0)) (fun x => x = nI (ulN (akP E R O E R O) (rk g n))) := by
    refine ok_for n (fun d st => st = (nI (ulN (akP E R O E R O) (rk g d)), nI d)) rfl ?_ ?_ (by omega)
    · rintro d _ hd rfl
      have hnd : ¬ n ≤ d := by omega
      have hrd := rk_le (g := g) d
      have hul := ulN_le (A := akP E R O E R O) (rk g d)
      simp (disch := omega) only [sh_X9_unlike_s4, h.1, ile, hnd, if_false]
      refine okb (ldS_ok (by omega) (by omega)) ?_
      by_cases hg : g d = false
      · refine okt ((h.2 d hd).1 hg).1 ?_
        simp only [sh_X9_unlike_j27, ok_bind]
        refine (ok_forb d (fun j st => (st = (nI 1, nI j) ∧ bfB (akP E R O E R O) (rk g d) (rk g j) = false) ∨ (st = (nI 0, nI j) ∧ bfB (akP E R O E R O) (rk g d) (rk g d) = true)) (P := fun x => x = zB (! bfB (akP E R O E R O) (rk g d) (rk g d))) (Or.inl ⟨rfl, rfl⟩) ?_ ?_ (by omega)).mono fun x hx => ?_
        · rintro j _ hj (⟨rfl, e⟩ | ⟨rfl, e⟩)
          · have hnj : ¬ d ≤ j := by omega
            simp (disch := omega) only [sh_X9_unlike_s31, ile, hnj, if_false, ieq0, Nat.one_ne_zero]
            refine okb (ldS_ok (by omega) (by omega)) ?_
            by_cases hgj : g j = false
            · refine okt ((h.2 j (by omega)).1 hgj).1 ?_
              refine okb (mAre h hR hn hd hg (by omega) hgj) ?_
              by_cases q : akP E R O E R O (rk g d) (rk g j) = false
              · refine okt (by rw [zB_0]; exact q) ?_
                simp only [ok_letv, ok_some, nI_add]
                exact Or.inl ⟨_, rfl, Or.inl ⟨rfl, by rw [rk_f hgj, bfB, e, q]; rfl⟩⟩
              · refine okf (by rw [zB_0]; exact q) ?_
                simp only [ok_letv, ok_some, nI_add]
                refine Or.inl ⟨_, rfl, Or.inr ⟨rfl, bfB_mono (i := rk g j + 1) ?_ (rk_lt hgj hj)⟩⟩
                rw [bfB, (Bool.not_eq_false _).mp q, Bool.or_true]
            · have hgj' := (Bool.not_eq_false _).mp hgj
              refine okf ((h.2 j (by omega)).2 hgj') ?_
              simp only [ok_letv, ok_some, nI_add]
              exact Or.inl ⟨_, rfl, Or.inl ⟨rfl, by rw [rk_t hgj']; exact e⟩⟩
          · have hnj : ¬ d ≤ j := by omega
            simp (disch := omega) only [sh_X9_unlike_s31, ile, hnj, if_false, ieq0, if_true, ok_some]
            exact Or.inr ⟨_, rfl, by rw [e]; rfl⟩
        · rintro _ (⟨rfl, e⟩ | ⟨rfl, e⟩)
          · simp (disch := omega) only [sh_X9_unlike_s31, ile, Nat.le_refl, if_true, ok_some]
            exact ⟨_, rfl, by rw [e]; rfl⟩
          · simp (disch := omega) only [sh_X9_unlike_s31, ile, Nat.le_refl, if_true, ok_some]
            exact ⟨_, rfl, by rw [e]; rfl⟩
        · subst hx
          unfold sh_X9_unlike_j75
          rw [rk_f hg, ulN]
          cases hb : bfB (akP E R O E R O) (rk g d) (rk g d) with
          | true =>
            refine okt rfl ?_
            simp only [ok_letv, ok_some, inl_ex, nI_add]
            rfl
          | false =>
            refine okf (by decide) ?_
            simp only [ok_letv, ok_some, inl_ex, nI_add]
            rfl
      · have hg' := (Bool.not_eq_false _).mp hg
        refine okf ((h.2 d hd).2 hg') ?_
        simp only [sh_X9_unlike_j27, ok_bind]
        refine (ok_forb d (fun j st => st = (nI 0, nI j)) (P := fun x => x = nI 0) rfl ?_ ?_ (by omega)).mono fun x hx => ?_
        · rintro j _ hj rfl
          have hnj : ¬ d ≤ j := by omega
          simp (disch := omega) only [sh_X9_unlike_s31, ile, hnj, if_false, ieq0, if_true, ok_some]
          exact Or.inr ⟨_, rfl, rfl⟩
        · rintro _ rfl
          simp (disch := omega) only [sh_X9_unlike_s31, ile, Nat.le_refl, if_true, ok_some]
          exact ⟨_, rfl, rfl⟩
        · subst hx
          unfold sh_X9_unlike_j75
          rw [rk_t hg']
          refine okt rfl ?_
          simp only [ok_letv, ok_some, inl_ex, nI_add, Nat.add_zero]
    · rintro _ rfl
      simp (disch := omega) only [sh_X9_unlike_s4, h.1, ile, Nat.le_refl, if_true, ok_some, inr_ex]
  obtain ⟨x, hx, rfl⟩ := key
  simp only [sh_X9_unlike, hx, bsome]
