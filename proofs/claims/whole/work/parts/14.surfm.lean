/-! surfaces of the reference -/
def RoM (L : List Nat) (w : Mem) : Prop := w 0 15 = nI L.length ∧ Hd (w 12) 0 L
def OutR (m m' : Mem) : Prop := (∀ q, q ≠ 0 → q ≠ 12 → m' q = m q) ∧ ∀ i, i ≠ 15 → m' 0 i = m 0 i
theorem OutR.refl {m : Mem} : OutR m m := ⟨fun _ _ _ => rfl, fun _ _ => rfl⟩
theorem OutR.trans {m m1 m2 : Mem} (h : OutR m m1) (g : OutR m1 m2) : OutR m m2 := ⟨fun q a b => (g.1 q a b).trans (h.1 q a b), fun i a => (g.2 i a).trans (h.2 i a)⟩
/-- surface s of row r of the reference holds L -/
def SuM (r s : Nat) (L : List Nat) (w : Mem) : Prop := w r (13 + s) = nI L.length ∧ Hd (w r) (17 + 24 * s) L
theorem SuM.to {r s : Nat} {L : List Nat} {w w' : Mem} (h : SuM r s L w) (e : w' r = w r) : SuM r s L w' := by
  unfold SuM
  rw [e]
  exact h
def bhI (c p : Nat) : Int32 := match bh c p with
  | some d => nI d
  | none => (-1 : Int32)
theorem bhI_s {c p d : Nat} (h : bh c p = some d) : bhI c p = nI d := by unfold bhI; rw [h]
theorem bhI_n {c p : Nat} (h : bh c p = none) : bhI c p = (-1 : Int32) := by unfold bhI; rw [h]
theorem mBeh : ∀ c, c < 4 → ∀ p, p < 7 → sh_X9_behind (nI c) (nI p) (nI 3) = some (bhI c p) := by decide +kernel
theorem mCir {L : List Nat} {w : Mem} (hS : Sf L) (h : RoM L w) : sh_X9_circles w = some (nI (cr L)) := by
  obtain ⟨h1, h2⟩ := h
  have hl := hS.1
  have key : Ok (lpw (sh_X9_circles_s4 w) FU (nI 0, nI 0)) (fun x => x = nI (cr L)) := by
    refine ok_for L.length (fun i st => st = (nI (cr (L.take i)), nI i)) rfl ?_ ?_ (by omega)
    · rintro i _ hi rfl
      have hni : ¬ L.length ≤ i := by omega
      obtain ⟨d, hd1, hd2⟩ := bh_take hS hi
      have hc := (hS.take i).le
      have e2i := h2 i hi
      rw [Nat.zero_add] at e2i
      simp (disch := omega) only [sh_X9_circles_s4, h1, ile, hni, if_false, ldS_ok (show i < 48 by omega), e2i, bsome, mBeh _ (show cr (L.take i) < 4 by omega) _ (hS.getD hi), bhI_s hd1, ok_letv, ok_some, inl_ex, nI_add, hd2]
    · rintro _ rfl
      simp (disch := omega) only [sh_X9_circles_s4, h1, ile, Nat.le_refl, if_true, ok_some, inr_ex, List.take_length]
  obtain ⟨x, hx, rfl⟩ := key
  simp only [sh_X9_circles, hx, bsome]
theorem mCan {p : Nat} {L : List Nat} {w : Mem} (hS : Sf L) (hp : p < 7) (h : RoM L w) : sh_X9_canStand (nI p) w = some (bI ((bh (cr L) p).isSome = true)) := by
  have hc := hS.le
  simp only [sh_X9_canStand, mCir hS h, bsome, mBeh _ (show cr L < 4 by omega) _ hp]
  cases hb : bh (cr L) p with
  | none =>
    rw [bhI_n hb, if_pos (by decide), bI_f (by simp)]
  | some d =>
    have := bh_le hc hb
    rw [bhI_s hb, if_neg (by rw [ilt0 (by omega)]; exact not_false), bI_t (by simp)]
theorem mAdd {p : Nat} {L : List Nat} {w : Mem} (hl : L.length < 48) (h : RoM L w) : Ok (sh_X9_adds (nI p) w) (fun w' => RoM (L ++ [p]) w' ∧ OutR w w') := by
  obtain ⟨h1, h2⟩ := h
  simp only [sh_X9_adds, ok_bind]
  rw [h1]
  refine ok_stM (by omega) (by omega) fun w1 f1 f2 f3 => ok_ms fun w2 g1 g2 g3 => ?_
  rw [ok_some]
  refine ⟨⟨?_, ?_⟩, fun q a b => by rw [g1 _ a, f1 _ b], fun i a => by rw [g2 _ a, f1 _ (by omega)]⟩
  · rw [g3, f1 _ (by omega), h1, nI_add]; simp
  · rw [g1 _ (by omega)]
    exact h2.push (fun j hj => f2 j (by omega)) (by rw [Nat.zero_add]; exact f3)
theorem ixM {s i : Nat} : nI 17 + nI 24 * nI s + nI i = nI (17 + 24 * s + i) := by rw [pk_mul, nI_add, nI_add]
theorem mLoad {s : Nat} {L : List Nat} {w : Mem} (hs : s < 4) (hl : L.length ≤ 24) (h : SuM 1 s L w) : Ok (sh_X9_loads (nI s) w) (fun w' => RoM L w' ∧ OutR w w') := by
  obtain ⟨h1, h2⟩ := h
  simp only [sh_X9_loads, nI_add, ldS_ok (show 13 + s < 130 by omega) (by omega), bsome, h1]
  refine ok_ms fun w1 f1 f2 f3 => ?_
  simp only [ok_bind, ok_some]
  refine ok_for L.length (fun i st => ∃ w', st = (nI i, w') ∧ w' 0 15 = nI L.length ∧ Hd (w' 12) 0 (L.take i) ∧ OutR w w') ⟨w1, rfl, f3, fun i hi => by simp at hi, fun q a b => f1 q a, fun i a => f2 i a⟩ ?_ ?_ (by omega)
  · rintro i _ hi ⟨w2, rfl, e1, e2, e3⟩
    have hni : ¬ L.length ≤ i := by omega
    have e2i := h2 i hi
    rw [← e3.1 1 (by omega) (by omega)] at e2i
    simp (disch := omega) only [sh_X9_loads_s15, e1, ile, hni, if_false, ixM, ldS_ok (show 17 + 24 * s + i < 130 by omega), e2i, bsome, ok_bind]
    refine ok_stM (by omega) (by omega) fun w3 g1 g2 g3 => ?_
    simp only [ok_letv, ok_some, inl_ex, nI_add]
    have hti : (L.take i).length = i := by rw [List.length_take]; omega
    refine ⟨w3, rfl, by rw [g1 _ (by omega)]; exact e1, ?_, fun q a b => by rw [g1 _ b]; exact e3.1 q a b, fun i a => by rw [g1 _ (by omega)]; exact e3.2 i a⟩
    rw [take_succ_getD hi]
    exact e2.push (fun j hj => g2 j (by omega)) (by rw [hti, Nat.zero_add]; exact g3)
  · rintro _ ⟨w2, rfl, e1, e2, e3⟩
    rw [List.take_length] at e2
    simp (disch := omega) only [sh_X9_loads_s15, e1, ile, Nat.le_refl, if_true, ok_some, inr_ex]
    exact ⟨⟨e1, e2⟩, e3⟩
/-- what a save of surface s leaves of row 1 -/
def OutV (s : Nat) (m m' : Mem) : Prop := (∀ q, q ≠ 1 → m' q = m q) ∧ ∀ j, j ≠ 13 + s → (j < 17 + 24 * s ∨ 17 + 24 * s + 24 ≤ j) → m' 1 j = m 1 j
theorem mSave {s : Nat} {L : List Nat} {w : Mem} (hs : s < 4) (hl : L.length ≤ 24) (h : RoM L w) : Ok (sh_X9_saves (nI s) w) (fun w' => SuM 1 s L w' ∧ OutV s w w') := by
  obtain ⟨h1, h2⟩ := h
  simp only [sh_X9_saves, nI_add, ok_bind, h1]
  refine ok_stM (by omega) (by omega) fun w1 f1 f2 f3 => ?_
  simp only [ok_some]
  refine ok_for L.length (fun i st => ∃ w', st = (nI i, w') ∧ w' 1 (13 + s) = nI L.length ∧ Hd (w' 1) (17 + 24 * s) (L.take i) ∧ OutV s w w') ⟨w1, rfl, f3, fun i hi => by simp at hi, fun q a => f1 q a, fun j a b => f2 j a⟩ ?_ ?_ (by omega)
  · rintro i _ hi ⟨w2, rfl, e1, e2, e3⟩
    have hni : ¬ L.length ≤ i := by omega
    have e2i := h2 i hi
    rw [← e3.1 12 (by omega), Nat.zero_add] at e2i
    have e1' : w2 0 15 = nI L.length := by rw [e3.1 0 (by omega)]; exact h1
    simp (disch := omega) only [sh_X9_saves_s15, e1', ile, hni, if_false, ixM, ldS_ok (show i < 48 by omega), e2i, bsome, ok_bind]
    refine ok_stM (by omega) (by omega) fun w3 g1 g2 g3 => ?_
    simp only [ok_letv, ok_some, inl_ex, nI_add]
    have hti : (L.take i).length = i := by rw [List.length_take]; omega
    refine ⟨w3, rfl, by rw [g2 _ (by omega)]; exact e1, ?_, fun q a => by rw [g1 _ a]; exact e3.1 q a, fun j a b => by rw [g2 _ (by omega)]; exact e3.2 j a b⟩
    rw [take_succ_getD hi]
    exact e2.push (fun j hj => g2 j (by omega)) (by rw [hti]; exact g3)
  · rintro _ ⟨w2, rfl, e1, e2, e3⟩
    rw [List.take_length] at e2
    have e1' : w2 0 15 = nI L.length := by rw [e3.1 0 (by omega)]; exact h1
    simp (disch := omega) only [sh_X9_saves_s15, e1', ile, Nat.le_refl, if_true, ok_some, inr_ex]
    exact ⟨⟨e1, e2⟩, e3⟩
theorem cirF_step {M : List Nat} {c i d : Nat} (hi : i < M.length) (h : cirF c (M.take i) = some d) : cirF c (M.take (i + 1)) = bh d (M.getD i 0) := by
  rw [take_succ_getD hi, cirF_app, h, bsome]
  show (bh d (M.getD i 0)).bind (fun c' => cirF c' []) = _
  cases bh d (M.getD i 0) <;> rfl
theorem cirF_none {M : List Nat} {c i : Nat} (h : cirF c (M.take i) = none) : cirF c M = none := by
  have := cirF_app (M.take i) (M.drop i) c
  rw [List.take_append_drop, h] at this
  exact this
theorem mMay {s : Nat} {L M : List Nat} {w : Mem} (hs : s < 4) (hL : Sf L) (hM : Sf M) (h : RoM L w) (g : SuM 1 s M w) : sh_X9_mayGlue (nI s) w = some (bI ((cirF (cr L) M).isSome = true)) := by
  obtain ⟨g1, g2⟩ := g
  have hl := hM.1
  have hc := hL.le
  have key : Ok (lpw (sh_X9_mayGlue_s7 (nI s) w) FU (nI (cr L), nI 0)) (fun x => ((cirF (cr L) M).isSome = true ∧ x = .inr ()) ∨ ((cirF (cr L) M).isSome = false ∧ x = .inl ())) := by
    refine ok_forb M.length (fun i st => ∃ d, cirF (cr L) (M.take i) = some d ∧ st = (nI d, nI i)) ⟨cr L, rfl, rfl⟩ ?_ ?_ (by omega)
    · rintro i _ hi ⟨d, e1, rfl⟩
      have hni : ¬ M.length ≤ i := by omega
      have hd := cirF_le _ _ _ hc e1
      have e2i := g2 i hi
      have e3 := cirF_step hi e1
      simp (disch := omega) only [sh_X9_mayGlue_s7, nI_add, ldS_ok (show 13 + s < 130 by omega), g1, bsome, ile, hni, if_false, pk_mul, ldS_ok (show 17 + 24 * s + i < 130 by omega), e2i, mBeh _ (show d < 4 by omega) _ (hM.getD hi)]
      cases hb : bh d (M.getD i 0) with
      | none =>
        rw [bhI_n hb]
        refine okf (by decide) ?_
        rw [ok_some]
        refine Or.inr ⟨_, rfl, Or.inr ⟨?_, rfl⟩⟩
        rw [cirF_none (e3.trans hb)]
        rfl
      | some d' =>
        have := bh_le hd hb
        rw [bhI_s hb]
        refine okt (by rw [i0l (by omega)]; trivial) ?_
        simp only [ok_letv, ok_some]
        exact Or.inl ⟨_, rfl, d', e3.trans hb, rfl⟩
    · rintro _ ⟨d, e1, rfl⟩
      simp (disch := omega) only [sh_X9_mayGlue_s7, nI_add, ldS_ok (show 13 + s < 130 by omega), g1, bsome, ile, Nat.le_refl, if_true, ok_some]
      rw [List.take_length] at e1
      exact ⟨_, rfl, Or.inl ⟨by rw [e1]; rfl, rfl⟩⟩
  obtain ⟨x, hx, h1 | h1⟩ := key
  · simp only [sh_X9_mayGlue, mCir hL h, bsome, hx, h1.2, Sum.elim]
    rw [bI_t h1.1]
  · simp only [sh_X9_mayGlue, mCir hL h, bsome, hx, h1.2, Sum.elim]
    rw [bI_f (by rw [h1.1]; simp)]
theorem mGlu {s : Nat} {L M : List Nat} {w : Mem} (hs : s < 4) (hl : L.length + M.length ≤ 24) (h : RoM L w) (g : SuM 1 s M w) : Ok (sh_X9_glues (nI s) w) (fun w' => RoM (L ++ M) w' ∧ OutR w w') := by
  obtain ⟨g1, g2⟩ := g
  simp only [sh_X9_glues, nI_add, ldS_ok (show 13 + s < 130 by omega) (by omega), bsome, g1, ok_bind, ok_some]
  refine ok_for M.length (fun i st => ∃ w', st = (nI i, w') ∧ RoM (L ++ M.take i) w' ∧ OutR w w') ⟨w, rfl, by rw [List.take_zero, List.append_nil]; exact h, OutR.refl⟩ ?_ ?_ (by omega)
  · rintro i _ hi ⟨w1, rfl, e1, e2⟩
    have hni : ¬ M.length ≤ i := by omega
    have e2i := g2 i hi
    rw [← e2.1 1 (by omega) (by omega)] at e2i
    simp (disch := omega) only [sh_X9_glues_s12, ile, hni, if_false, ixM, ldS_ok (show 17 + 24 * s + i < 130 by omega), e2i, bsome, ok_bind]
    refine (mAdd (by rw [List.length_append, List.length_take]; omega) e1).mono fun w2 h2 => ?_
    simp only [ok_letv, ok_some, inl_ex, nI_add]
    refine ⟨w2, rfl, ?_, e2.trans h2.2⟩
    rw [take_succ_getD hi, ← List.append_assoc]
    exact h2.1
  · rintro _ ⟨w1, rfl, e1, e2⟩
    rw [List.take_length] at e1
    simp (disch := omega) only [sh_X9_glues_s12, ile, Nat.le_refl, if_true, ok_some, inr_ex]
    exact ⟨e1, e2⟩
theorem apO_iff {L : List Nat} {p : Nat} : (apO L p = true) = (L.length < 24 ∧ (bh (cr L) p).isSome = true) := by
  simp [apO]
theorem mDraw {n : Nat} {z : Int32} {L : List Nat} {w : Mem} (hS : Sf L) (h : RoM L w) (hn : n < 1000) : Ok (sh_X9_draws (nI n) z w) (fun w' => RoM (drL z L n) w' ∧ OutR w w') := by
  simp only [sh_X9_draws, ok_bind, ok_some]
  refine ok_for n (fun i st => ∃ w', st = (drZ z i, nI i, w') ∧ RoM (drL z L i) w' ∧ OutR w w') ⟨w, rfl, h, OutR.refl⟩ ?_ ?_ (by omega)
  · rintro i _ hi ⟨w1, rfl, e1, e2⟩
    have hni : ¬ n ≤ i := by omega
    have hSi := Sf_drL hS z i
    have hl := hSi.1
    have hp := lpc_lt (drZ z (i + 1))
    simp (disch := omega) only [sh_X9_draws_s5, ile, hni, if_false, ok_letv, lpc_eq, e1.1, show drZ z i * nI 1103515245 + nI 12345 = drZ z (i + 1) from rfl]
    by_cases q : 24 ≤ (drL z L i).length
    · refine okt q ?_
      have hq : ¬ apO (drL z L i) (lpc (drZ z (i + 1))) = true := by rw [apO_iff]; omega
      simp only [ok_letv, ok_some, inl_ex, nI_add]
      refine ⟨w1, rfl, ?_, e2⟩
      unfold drL apL
      rw [if_neg hq]
      exact e1
    · refine okf q ?_
      refine okb (mCan hSi hp e1) ?_
      by_cases q2 : (bh (cr (drL z L i)) (lpc (drZ z (i + 1)))).isSome = true
      · rw [bI_t q2]
        refine okf (by decide) ?_
        rw [ok_bind]
        refine (mAdd (by omega) e1).mono fun w2 h2 => ?_
        have hq : apO (drL z L i) (lpc (drZ z (i + 1))) = true := by rw [apO_iff]; exact ⟨by omega, q2⟩
        simp only [ok_letv, ok_some, inl_ex, nI_add]
        refine ⟨w2, rfl, ?_, e2.trans h2.2⟩
        unfold drL apL
        rw [if_pos hq]
        exact h2.1
      · rw [bI_f q2]
        refine okt rfl ?_
        have hq : ¬ apO (drL z L i) (lpc (drZ z (i + 1))) = true := by rw [apO_iff]; exact fun z => q2 z.2
        simp only [ok_letv, ok_some, inl_ex, nI_add]
        refine ⟨w1, rfl, ?_, e2⟩
        unfold drL apL
        rw [if_neg hq]
        exact e1
  · rintro _ ⟨w1, rfl, e1, e2⟩
    simp only [sh_X9_draws_s5, show (nI n ≤ nI n) = True from eq_true (Int32.le_refl _), if_true, ok_some, inr_ex]
    exact ⟨e1, e2⟩
