/-! reading the tape -/
def oI : Option Nat → Int32
  | some p => nI p
  | none => (-1 : Int32)
def pcN (b : Nat) : Option Nat := if b = 111 then some 0 else if b = 109 then some 1 else if b = 119 then some 2 else if b = 99 then some 3 else if b = 120 then some 4 else if b = 104 then some 5 else if b = 107 then some 6 else none
theorem pcN_lt {b p : Nat} (h : pcN b = some p) : p < 7 := by
  unfold pcN at h
  repeat' split at h
  all_goals first | (obtain rfl := Option.some.inj h; omega) | cases h
theorem xPc : ∀ b, b < 128 → sh_X7_pieceByLetter (nI b) = some (oI (pcN b)) := by decide +kernel
theorem mPc : ∀ b, b < 128 → sh_X9_pieceBy (nI b) = some (oI (pcN b)) := by decide +kernel
theorem oI_n {o : Option Nat} (h : ∀ q, o = some q → q < 100) : (oI o = (-1 : Int32)) = (o = none) := by
  cases o with
  | none => simp [oI]
  | some p =>
    have := h p rfl
    apply propext
    refine ⟨fun q => ?_, fun q => by cases q⟩
    exfalso
    have e : (nI p).toInt = (-1 : Int32).toInt := by rw [show nI p = -1 from q]
    rw [nI_toInt (by omega), show (-1 : Int32).toInt = -1 from rfl] at e
    omega
def cmL (p : Nat) : Nat → List Nat → Bool × List Nat
  | 0, L => (true, L)
  | k + 1, L => if apO L p = true then cmL p k (L ++ [p]) else (false, L)
theorem Sf_cmL {p : Nat} : ∀ (n : Nat) (L : List Nat), Sf L → Sf (cmL p n L).2
  | 0, L, h => h
  | n + 1, L, h => by
    unfold cmL
    split
    · rename_i e; exact Sf_cmL n _ (h.push e)
    · exact h
theorem xCom {t p n : Nat} {L : List Nat} {w : WX} (hS : Sf L) (hp : p < 7) (h : SuAt t L w) (hn : n < 1000) : Ok (sh_X7_appendAll t (nI p) (nI n) w) (fun r => r.1 = bI ((cmL p n L).1 = true) ∧ SuAt t (cmL p n L).2 r.2 ∧ OutX t (t + 2) w r.2 ∧ r.2.2 = w.2) := by
  simp only [sh_X7_appendAll, ok_bind]
  refine (ok_forb n (fun i st => ∃ w' L', st = (nI i, w') ∧ Sf L' ∧ cmL p n L = cmL p (n - i) L' ∧ SuAt t L' w' ∧ OutX t (t + 2) w w' ∧ w'.2 = w.2) (P := fun x => ∃ w', ((cmL p n L).1 = true ∧ x = .inr w' ∨ (cmL p n L).1 = false ∧ x = .inl w') ∧ SuAt t (cmL p n L).2 w' ∧ OutX t (t + 2) w w' ∧ w'.2 = w.2) ⟨w, L, rfl, hS, rfl, h, OutX.refl, rfl⟩ ?_ ?_ hn).mono ?_
  · rintro i _ hi ⟨w1, L', rfl, e1, e2, e3, e4, e5⟩
    have hni : ¬ n ≤ i := by omega
    simp (disch := omega) only [sh_X7_appendAll_s2, ile, hni, if_false, ok_bind]
    refine (xApp e1 hp e3).mono fun r hr => ?_
    obtain ⟨r1, r2, r3, r4⟩ := hr
    rw [show n - i = (n - (i + 1)) + 1 by omega, cmL] at e2
    unfold apL at r2
    by_cases q : apO L' p = true
    · rw [if_pos q] at r1 r2 e2
      rw [r1]
      refine okf (by decide) ?_
      simp only [ok_letv, ok_some, nI_add]
      exact Or.inl ⟨_, rfl, r.2, L' ++ [p], rfl, e1.push q, e2, r2, e4.trans r3, r4.trans e5⟩
    · rw [if_neg q] at r1 r2 e2
      rw [r1]
      refine okt (by decide) ?_
      rw [ok_some]
      refine Or.inr ⟨_, rfl, r.2, Or.inr ⟨by rw [e2], rfl⟩, ?_, e4.trans r3, r4.trans e5⟩
      rw [e2]
      exact r2
  · rintro _ ⟨w1, L', rfl, e1, e2, e3, e4, e5⟩
    simp only [sh_X7_appendAll_s2, show (nI n ≤ nI n) = True from eq_true (Int32.le_refl _), if_true, ok_some]
    rw [Nat.sub_self, cmL] at e2
    refine ⟨_, rfl, w1, Or.inl ⟨by rw [e2], rfl⟩, ?_, e4, e5⟩
    rw [e2]
    exact e3
  · rintro x ⟨w', ⟨e1, rfl⟩ | ⟨e1, rfl⟩, e2⟩
    · simp only [Sum.elim, ok_some]
      exact ⟨by rw [bI_t e1], e2⟩
    · simp only [Sum.elim, ok_some]
      exact ⟨by rw [bI_f (by rw [e1]; simp)], e2⟩
theorem mCom {p n : Nat} {L : List Nat} {w : Mem} (hS : Sf L) (hp : p < 7) (h : RoM L w) (hn : n < 1000) : Ok (sh_X9_comes (nI p) (nI n) w) (fun r => r.1 = bI ((cmL p n L).1 = true) ∧ RoM (cmL p n L).2 r.2 ∧ OutR w r.2) := by
  simp only [sh_X9_comes, ok_bind]
  refine (ok_forb n (fun i st => ∃ w' L', st = (nI i, w') ∧ Sf L' ∧ cmL p n L = cmL p (n - i) L' ∧ RoM L' w' ∧ OutR w w') (P := fun x => ∃ w', ((cmL p n L).1 = true ∧ x = .inr w' ∨ (cmL p n L).1 = false ∧ x = .inl w') ∧ RoM (cmL p n L).2 w' ∧ OutR w w') ⟨w, L, rfl, hS, rfl, h, OutR.refl⟩ ?_ ?_ hn).mono ?_
  · rintro i _ hi ⟨w1, L', rfl, e1, e2, e3, e4⟩
    have hni : ¬ n ≤ i := by omega
    have hl := e1.1
    rw [show n - i = (n - (i + 1)) + 1 by omega, cmL] at e2
    simp (disch := omega) only [sh_X9_comes_s2, ile, hni, if_false, e3.1, ieq]
    by_cases q : L'.length = 24
    · refine okt q ?_
      have hq : ¬ apO L' p = true := by rw [apO_iff]; omega
      rw [if_neg hq] at e2
      rw [ok_some]
      exact Or.inr ⟨_, rfl, w1, Or.inr ⟨by rw [e2], rfl⟩, by rw [e2]; exact e3, e4⟩
    · refine okf q ?_
      refine okb (mCan e1 hp e3) ?_
      by_cases q2 : (bh (cr L') p).isSome = true
      · have hq : apO L' p = true := by rw [apO_iff]; exact ⟨by omega, q2⟩
        rw [if_pos hq] at e2
        rw [bI_t q2]
        refine okf (by decide) ?_
        rw [ok_bind]
        refine (mAdd (by omega) e3).mono fun w2 h2 => ?_
        simp only [ok_letv, ok_some, nI_add]
        exact Or.inl ⟨_, rfl, w2, L' ++ [p], rfl, e1.push hq, e2, h2.1, e4.trans h2.2⟩
      · have hq : ¬ apO L' p = true := by rw [apO_iff]; exact fun z => q2 z.2
        rw [if_neg hq] at e2
        rw [bI_f q2]
        refine okt rfl ?_
        rw [ok_some]
        exact Or.inr ⟨_, rfl, w1, Or.inr ⟨by rw [e2], rfl⟩, by rw [e2]; exact e3, e4⟩
  · rintro _ ⟨w1, L', rfl, e1, e2, e3, e4⟩
    simp only [sh_X9_comes_s2, show (nI n ≤ nI n) = True from eq_true (Int32.le_refl _), if_true, ok_some]
    rw [Nat.sub_self, cmL] at e2
    exact ⟨_, rfl, w1, Or.inl ⟨by rw [e2], rfl⟩, by rw [e2]; exact e3, e4⟩
  · rintro x ⟨w', ⟨e1, rfl⟩ | ⟨e1, rfl⟩, e2⟩
    · simp only [Sum.elim, ok_some]
      exact ⟨by rw [bI_t e1], e2⟩
    · simp only [Sum.elim, ok_some]
      exact ⟨by rw [bI_f (by rw [e1]; simp)], e2⟩
/-- what the tape spells: the place of its first fault, or none; the pieces -/
def fuF : List Nat → Nat → Option Nat → List Nat → Option Nat × List Nat
  | [], _, _, L => (none, L)
  | b :: bs, i, l, L => match pcN b with
    | some p => if (cmL p 1 L).1 = true then fuF bs (i + 1) (some p) (cmL p 1 L).2 else (some i, L)
    | none => match l with
      | none => (some i, L)
      | some q => if 50 ≤ b ∧ b ≤ 57 then (if (cmL q (b - 49) L).1 = true then fuF bs (i + 1) none (cmL q (b - 49) L).2 else (some i, L)) else (some i, L)
theorem fuF_c {b : Nat} {bs : List Nat} {i : Nat} {l : Option Nat} {L : List Nat} : fuF (b :: bs) i l L = match pcN b with
    | some p => if (cmL p 1 L).1 = true then fuF bs (i + 1) (some p) (cmL p 1 L).2 else (some i, L)
    | none => match l with
      | none => (some i, L)
      | some q => if 50 ≤ b ∧ b ≤ 57 then (if (cmL q (b - 49) L).1 = true then fuF bs (i + 1) none (cmL q (b - 49) L).2 else (some i, L)) else (some i, L) := by
  cases l <;> rfl
def fuR (T : List Nat) : Option Nat × List Nat := fuF T 0 none []
def fuI (T : List Nat) : Int32 := match (fuR T).1 with
  | some i => nI i
  | none => if T.length = 0 then nI 0 else (-1 : Int32)
def Ty (T : List Nat) : Prop := T.length ≤ 60 ∧ ∀ i, i < T.length → 1 ≤ T.getD i 0 ∧ T.getD i 0 < 128
theorem drop_cons {T : List Nat} {i : Nat} (h : i < T.length) : T.drop i = T.getD i 0 :: T.drop (i + 1) := by
  rw [List.drop_eq_getElem_cons h, List.getD_eq_getElem?_getD, List.getElem?_eq_getElem h]
  rfl
theorem xTimes : ∀ b, b < 128 → sh_X7_isTimes (nI b) = some (bI (50 ≤ b ∧ b ≤ 57)) := by decide +kernel
theorem mTimes {b : Nat} (hb : b < 128) : sh_X9_isIn (nI b).toInt64 (lN 50) (lN 57) = some (bI (50 ≤ b ∧ b ≤ 57)) := by
  rw [mIn (by omega) (by omega), nI_toInt (by omega)]
  exact congrArg some (bI_congr (by omega))
def TpX (T : List Nat) (w : WX) : Prop := w.1 109 1 = nI T.length ∧ Hd (w.1 110) 0 T
def TpM (T : List Nat) (w : Mem) : Prop := w 0 17 = nI T.length ∧ Hd (w 13) 0 T
/-- how a reading ends -/
def fuE (T : List Nat) (v : Int32) (L : List Nat) : Prop := v = fuI T ∧ ((fuR T).1 = none → L = (fuR T).2)
theorem xRead {t : Nat} {T L : List Nat} {w : WX} (ht : 110 < t) (hT : Ty T) (hS : Sf L) (h : SuAt t L w) (hw : TpX T w) : Ok (sh_X7_readInto t w) (fun r => ∃ L', fuE T r.1 L' ∧ Sf L' ∧ SuAt t L' r.2 ∧ OutX t (t + 2) w r.2 ∧ r.2.2 = w.2) := by
  have hl := hT.1
  simp only [sh_X7_readInto, ok_bind]
  refine (xKeeN (k := 0) hS h (by omega)).mono fun w1 h1 => ?_
  refine (ok_forb T.length (fun i st => ∃ w' l L', st = (oI l, nI i, w') ∧ (∀ q, l = some q → q < 7) ∧ Sf L' ∧ fuR T = fuF (T.drop i) i l L' ∧ SuAt t L' w' ∧ OutX t (t + 2) w w' ∧ w'.2 = w.2) (P := fun x => ∃ w' L', Sf L' ∧ SuAt t L' w' ∧ OutX t (t + 2) w w' ∧ w'.2 = w.2 ∧ (((fuR T) = (none, L') ∧ x = .inr (.inr w')) ∨ ∃ i, (fuR T).1 = some i ∧ (x = .inl (nI i, w') ∨ x = .inr (.inl (nI i, w'))))) ⟨w1, none, [], rfl, by simp, Sf.nil, rfl, by simpa using h1.1, h1.2.1, h1.2.2⟩ ?_ ?_ (by omega)).mono ?_
  · rintro i _ hi ⟨w2, l, L', rfl, e0, e1, e2, e3, e4, e5⟩
    have hni : ¬ T.length ≤ i := by omega
    have hb := (hT.2 i hi).2
    have hbp := (hT.2 i hi).1
    have v1 : w2.1 109 1 = nI T.length := by rw [e4 _ (by omega)]; exact hw.1
    have v2 : w2.1 110 i = nI (T.getD i 0) := by rw [e4 _ (by omega), ← hw.2 i hi, Nat.zero_add]
    rw [drop_cons hi, fuF_c] at e2
    obtain ⟨b, hbb⟩ : ∃ b, b = T.getD i 0 := ⟨_, rfl⟩
    rw [← hbb] at hb hbp v2 e2
    simp (disch := omega) only [sh_X7_readInto_s9, v1, ile, hni, if_false, ldS_ok (show i < 60 by omega), v2, bsome, xPc b hb]
    cases hpc : pcN b with
    | some p =>
      have hp := pcN_lt hpc
      rw [hpc] at e2
      simp only at e2
      refine okf (by rw [oI_n (by rintro _ z; cases z; omega)]; simp) ?_
      unfold sh_X7_readInto_j39
      refine okf (by decide) ?_
      unfold sh_X7_readInto_j65
      refine okf (by decide) ?_
      unfold sh_X7_readInto_j85
      refine okf (by decide) ?_
      simp only [sh_X7_readInto_j99, ok_bind]
      refine (xCom (n := 1) e1 hp e3 (by omega)).mono fun r hr => ?_
      obtain ⟨r1, r2, r3, r4⟩ := hr
      by_cases q : (cmL p 1 L').1 = true
      · rw [if_pos q] at e2
        refine okf (by rw [r1, bI_t q]; decide) ?_
        simp only [ok_letv, ok_some, nI_add]
        exact Or.inl ⟨_, rfl, r.2, some p, _, rfl, fun _ z => by cases z; exact hp, Sf_cmL 1 _ e1, e2, r2, e4.trans r3, r4.trans e5⟩
      · rw [if_neg q] at e2
        refine okt (by rw [r1, bI_f q]; rfl) ?_
        simp only [ok_some]
        exact Or.inr ⟨_, rfl, r.2, _, Sf_cmL 1 _ e1, r2, e4.trans r3, r4.trans e5, Or.inr ⟨i, by rw [e2], Or.inr rfl⟩⟩
    | none =>
      rw [hpc] at e2
      simp only at e2
      refine okt rfl ?_
      unfold sh_X7_readInto_j39
      refine okt rfl ?_
      cases l with
      | none =>
        simp only at e2
        refine okt rfl ?_
        rw [ok_some]
        exact Or.inr ⟨_, rfl, w2, L', e1, e3, e4, e5, Or.inr ⟨i, by rw [e2], Or.inl rfl⟩⟩
      | some q =>
        have hq := e0 q rfl
        simp only at e2
        refine okf (by rw [oI_n (by rintro _ z; cases z; omega)]; simp) ?_
        refine okb (ldS_ok (show i < 60 by omega) (by omega)) ?_
        rw [v2]
        refine okb (xTimes b hb) ?_
        by_cases q2 : 50 ≤ b ∧ b ≤ 57
        · rw [if_pos q2] at e2
          refine okf (by rw [bI_t q2]; decide) ?_
          unfold sh_X7_readInto_j65
          refine okt rfl ?_
          refine okb (ldS_ok (show i < 60 by omega) (by omega)) ?_
          unfold sh_X7_readInto_j85
          refine okt rfl ?_
          rw [v2, isub (by omega), isub (by omega), show b - 48 - 1 = b - 49 by omega]
          simp only [sh_X7_readInto_j99, ok_bind]
          refine (xCom (n := b - 49) e1 hq e3 (by omega)).mono fun r hr => ?_
          obtain ⟨r1, r2, r3, r4⟩ := hr
          by_cases q3 : (cmL q (b - 49) L').1 = true
          · rw [if_pos q3] at e2
            refine okf (by rw [r1, bI_t q3]; decide) ?_
            simp only [ok_letv, ok_some, nI_add]
            exact Or.inl ⟨_, rfl, r.2, none, _, rfl, fun _ z => (by cases z), Sf_cmL _ _ e1, e2, r2, e4.trans r3, r4.trans e5⟩
          · rw [if_neg q3] at e2
            refine okt (by rw [r1, bI_f q3]; rfl) ?_
            simp only [ok_some]
            exact Or.inr ⟨_, rfl, r.2, _, Sf_cmL _ _ e1, r2, e4.trans r3, r4.trans e5, Or.inr ⟨i, by rw [e2], Or.inr rfl⟩⟩
        · rw [if_neg q2] at e2
          refine okt (by rw [bI_f q2]; rfl) ?_
          rw [ok_some]
          exact Or.inr ⟨_, rfl, w2, L', e1, e3, e4, e5, Or.inr ⟨i, by rw [e2], Or.inl rfl⟩⟩
  · rintro _ ⟨w2, l, L', rfl, e0, e1, e2, e3, e4, e5⟩
    have v1 : w2.1 109 1 = nI T.length := by rw [e4 _ (by omega)]; exact hw.1
    rw [List.drop_length, fuF] at e2
    simp (disch := omega) only [sh_X7_readInto_s9, v1, ile, Nat.le_refl, if_true, ok_some]
    exact ⟨_, rfl, w2, L', e1, e3, e4, e5, Or.inl ⟨e2, rfl⟩⟩
  · rintro x ⟨w2, L', e1, e3, e4, e5, ⟨e6, rfl⟩ | ⟨i, e6, rfl | rfl⟩⟩
    · have v1 : w2.1 109 1 = nI T.length := by rw [e4 _ (by omega)]; exact hw.1
      simp (disch := omega) only [Sum.elim, v1, ieq0]
      by_cases q : T.length = 0
      · refine okt q ?_
        rw [ok_some]
        exact ⟨L', ⟨by unfold fuI; rw [e6]; simp [q], fun _ => by rw [e6]⟩, e1, e3, e4, e5⟩
      · refine okf q ?_
        rw [ok_some]
        exact ⟨L', ⟨by unfold fuI; rw [e6]; simp [q], fun _ => by rw [e6]⟩, e1, e3, e4, e5⟩
    · simp only [Sum.elim, ok_some]
      exact ⟨L', ⟨by unfold fuI; rw [e6], fun z => by rw [e6] at z; cases z⟩, e1, e3, e4, e5⟩
    · simp only [Sum.elim, ok_some]
      exact ⟨L', ⟨by unfold fuI; rw [e6], fun z => by rw [e6] at z; cases z⟩, e1, e3, e4, e5⟩
theorem mRead {T : List Nat} {w : Mem} (hT : Ty T) (hw : TpM T w) : Ok (sh_X9_fault w) (fun r => ∃ L', fuE T r.1 L' ∧ Sf L' ∧ RoM L' r.2 ∧ OutR w r.2) := by
  have hl := hT.1
  unfold sh_X9_fault
  refine ok_ms fun w1 f1 f2 f3 => ?_
  rw [ok_bind]
  refine (ok_forb T.length (fun i st => ∃ w' l L', st = (oI l, nI i, w') ∧ (∀ q, l = some q → q < 7) ∧ Sf L' ∧ fuR T = fuF (T.drop i) i l L' ∧ RoM L' w' ∧ OutR w w') (P := fun x => ∃ w' L', Sf L' ∧ RoM L' w' ∧ OutR w w' ∧ (((fuR T) = (none, L') ∧ x = .inr (.inr w')) ∨ ∃ i, (fuR T).1 = some i ∧ (x = .inl (nI i, w') ∨ x = .inr (.inl (nI i, w'))))) ⟨w1, none, [], rfl, by simp, Sf.nil, rfl, ⟨f3, fun i hi => by simp at hi⟩, fun q a b => f1 q a, fun i a => f2 i a⟩ ?_ ?_ (by omega)).mono ?_
  · rintro i _ hi ⟨w2, l, L', rfl, e0, e1, e2, e3, e4⟩
    have hni : ¬ T.length ≤ i := by omega
    have hb := (hT.2 i hi).2
    have hbp := (hT.2 i hi).1
    have v1 : w2 0 17 = nI T.length := by rw [e4.2 _ (by omega)]; exact hw.1
    have v2 : w2 13 i = nI (T.getD i 0) := by rw [e4.1 _ (by omega) (by omega), ← hw.2 i hi, Nat.zero_add]
    rw [drop_cons hi, fuF_c] at e2
    obtain ⟨b, hbb⟩ : ∃ b, b = T.getD i 0 := ⟨_, rfl⟩
    rw [← hbb] at hb hbp v2 e2
    simp (disch := omega) only [sh_X9_fault_s9, v1, ile, hni, if_false, ldS_ok (show i < 60 by omega), v2, bsome, mPc b hb]
    cases hpc : pcN b with
    | some p =>
      have hp := pcN_lt hpc
      rw [hpc] at e2
      simp only at e2
      refine okf (by rw [oI_n (by rintro _ z; cases z; omega)]; simp) ?_
      unfold sh_X9_fault_j75
      refine okf (by rw [oI_n (by rintro _ z; cases z; omega)]; simp) ?_
      rw [ok_bind]
      refine (mCom (n := 1) e1 hp e3 (by omega)).mono fun r hr => ?_
      obtain ⟨r1, r2, r3⟩ := hr
      by_cases q : (cmL p 1 L').1 = true
      · rw [if_pos q] at e2
        refine okf (by rw [r1, bI_t q]; decide) ?_
        simp only [ok_letv, ok_some, nI_add]
        exact Or.inl ⟨_, rfl, r.2, some p, _, rfl, fun _ z => by cases z; exact hp, Sf_cmL 1 _ e1, e2, r2, e4.trans r3⟩
      · rw [if_neg q] at e2
        refine okt (by rw [r1, bI_f q]; rfl) ?_
        simp only [ok_some]
        exact Or.inr ⟨_, rfl, r.2, _, Sf_cmL 1 _ e1, r2, e4.trans r3, Or.inr ⟨i, by rw [e2], Or.inr rfl⟩⟩
    | none =>
      rw [hpc] at e2
      simp only at e2
      refine okt rfl ?_
      cases l with
      | none =>
        simp only at e2
        refine okt rfl ?_
        rw [ok_some]
        exact Or.inr ⟨_, rfl, w2, L', e1, e3, e4, Or.inr ⟨i, by rw [e2], Or.inl rfl⟩⟩
      | some q =>
        have hq := e0 q rfl
        simp only at e2
        refine okf (by rw [oI_n (by rintro _ z; cases z; omega)]; simp) ?_
        refine okb (mTimes hb) ?_
        by_cases q2 : 50 ≤ b ∧ b ≤ 57
        · rw [if_pos q2] at e2
          refine okf (by rw [bI_t q2]; decide) ?_
          rw [isub (by omega), ok_bind]
          refine (mCom (n := b - 49) e1 hq e3 (by omega)).mono fun r hr => ?_
          obtain ⟨r1, r2, r3⟩ := hr
          by_cases q3 : (cmL q (b - 49) L').1 = true
          · rw [if_pos q3] at e2
            refine okf (by rw [r1, bI_t q3]; decide) ?_
            unfold sh_X9_fault_j75
            refine okt rfl ?_
            simp only [ok_letv, ok_some, nI_add]
            exact Or.inl ⟨_, rfl, r.2, none, _, rfl, fun _ z => (by cases z), Sf_cmL _ _ e1, e2, r2, e4.trans r3⟩
          · rw [if_neg q3] at e2
            refine okt (by rw [r1, bI_f q3]; rfl) ?_
            simp only [ok_some]
            exact Or.inr ⟨_, rfl, r.2, _, Sf_cmL _ _ e1, r2, e4.trans r3, Or.inr ⟨i, by rw [e2], Or.inl rfl⟩⟩
        · rw [if_neg q2] at e2
          refine okt (by rw [bI_f q2]; rfl) ?_
          rw [ok_some]
          exact Or.inr ⟨_, rfl, w2, L', e1, e3, e4, Or.inr ⟨i, by rw [e2], Or.inl rfl⟩⟩
  · rintro _ ⟨w2, l, L', rfl, e0, e1, e2, e3, e4⟩
    have v1 : w2 0 17 = nI T.length := by rw [e4.2 _ (by omega)]; exact hw.1
    rw [List.drop_length, fuF] at e2
    simp (disch := omega) only [sh_X9_fault_s9, v1, ile, Nat.le_refl, if_true, ok_some]
    exact ⟨_, rfl, w2, L', e1, e3, e4, Or.inl ⟨e2, rfl⟩⟩
  · rintro x ⟨w2, L', e1, e3, e4, ⟨e6, rfl⟩ | ⟨i, e6, rfl | rfl⟩⟩
    · have v1 : w2 0 17 = nI T.length := by rw [e4.2 _ (by omega)]; exact hw.1
      simp (disch := omega) only [Sum.elim, v1, ieq0]
      by_cases q : T.length = 0
      · refine okt q ?_
        rw [ok_some]
        exact ⟨L', ⟨by unfold fuI; rw [e6]; simp [q], fun _ => by rw [e6]⟩, e1, e3, e4⟩
      · refine okf q ?_
        rw [ok_some]
        exact ⟨L', ⟨by unfold fuI; rw [e6]; simp [q], fun _ => by rw [e6]⟩, e1, e3, e4⟩
    · simp only [Sum.elim, ok_some]
      exact ⟨L', ⟨by unfold fuI; rw [e6], fun z => by rw [e6] at z; cases z⟩, e1, e3, e4⟩
    · simp only [Sum.elim, ok_some]
      exact ⟨L', ⟨by unfold fuI; rw [e6], fun z => by rw [e6] at z; cases z⟩, e1, e3, e4⟩
