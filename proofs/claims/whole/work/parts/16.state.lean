/-! the kept things of both: algebras A, surfaces S, plan P -/
abbrev AL : Type := List (Nat × Nat × Nat)
abbrev PL : Type := List (Nat × Nat)
def aK (A : AL) (i : Nat) : Nat := (A.getD i (0, 1, 0)).1
def aS (A : AL) (i : Nat) : Nat := (A.getD i (0, 1, 0)).2.1
def aF (A : AL) (i : Nat) : Nat := (A.getD i (0, 1, 0)).2.2
def pW (P : PL) (i : Nat) : Nat := (P.getD i (0, 0)).1
def pV (P : PL) (i : Nat) : Nat := (P.getD i (0, 0)).2
def rowOk (a v : Nat) : Prop := (a = 0 ∧ v < 7) ∨ (a = 1 ∧ 1 ≤ v ∧ v ≤ 9) ∨ (a = 2 ∧ v < 4)
def VAs (A : AL) : Prop := A.length ≤ 4 ∧ ∀ i, i < A.length → VA (aK A i) (aS A i) (aF A i)
def VSs (S : Nat → List Nat) : Prop := ∀ i, i < 4 → Sf (S i)
def VPs (P : PL) : Prop := P.length ≤ 8 ∧ ∀ i, i < P.length → rowOk (pW P i) (pV P i)
def AX (c : Nat) (A : AL) (w : WX) : Prop := w.1 c 1 = nI A.length ∧ ∀ i, i < A.length → AlgAt (c + 1 + 5 + 10 * i) (aK A i) (aS A i) (aF A i) w
def SX (c : Nat) (S : Nat → List Nat) (w : WX) : Prop := ∀ i, i < 4 → SuAt (c + 2 + 44 + 2 * i) (S i) w
def PX (c : Nat) (P : PL) (w : WX) : Prop := w.1 c 2 = nI P.length ∧ ∀ i, i < P.length → w.1 (c + 1) i = nI (pW P i) ∧ w.1 (c + 2) i = nI (pV P i)
def StX (c : Nat) (A : AL) (S : Nat → List Nat) (P : PL) (w : WX) : Prop := AX c A w ∧ SX c S w ∧ PX (c + 3) P w
theorem StX.to {c : Nat} {A : AL} {S : Nat → List Nat} {P : PL} {w w' : WX} (hl : A.length ≤ 4) (h : StX c A S P w) (g : ∀ q, c ≤ q → q < c + 54 → w'.1 q = w.1 q) : StX c A S P w' := by
  obtain ⟨⟨h1, h2⟩, h3, h4, h5⟩ := h
  refine ⟨⟨by rw [g _ (by omega) (by omega)]; exact h1, fun i hi => (h2 i hi).to fun q a b => g q (by omega) (by omega)⟩, fun i hi => (h3 i hi).to (g _ (by omega) (by omega)) (g _ (by omega) (by omega)), by rw [g _ (by omega) (by omega)]; exact h4, fun i hi => ?_⟩
  rw [g _ (by omega) (by omega), g _ (by omega) (by omega)]
  exact h5 i hi
def AM (r : Nat) (A : AL) (w : Mem) : Prop := w r 0 = nI A.length ∧ ∀ i, i < A.length → w r (1 + i) = nI (aK A i) ∧ w r (5 + i) = nI (aS A i) ∧ w r (9 + i) = nI (aF A i)
def SM (r : Nat) (S : Nat → List Nat) (w : Mem) : Prop := ∀ i, i < 4 → SuM r i (S i) w
def PM (r : Nat) (P : PL) (w : Mem) : Prop := w r 113 = nI P.length ∧ ∀ i, i < P.length → w r (114 + 2 * i) = nI (pW P i) ∧ w r (115 + 2 * i) = nI (pV P i)
def StM (r : Nat) (A : AL) (S : Nat → List Nat) (P : PL) (w : Mem) : Prop := AM r A w ∧ SM r S w ∧ PM r P w
theorem StM.to {r : Nat} {A : AL} {S : Nat → List Nat} {P : PL} {w w' : Mem} (h : StM r A S P w) (e : w' r = w r) : StM r A S P w' := by
  unfold StM AM SM PM SuM
  rw [e]
  exact h
/-! which algebra, which surface -/
theorem kAlg : ∀ c, c = 1 ∨ c = 55 → ∀ j, j < 4 → KDx (c + 1 + 5 + 10 * j) = (0, 13) := by
  intro c hc
  rcases hc with rfl | rfl <;> decide +kernel
theorem kSur : ∀ c, c = 1 ∨ c = 55 → ∀ j, j < 4 → KDx (c + 2 + 44 + 2 * j) = (6, 3) := by
  intro c hc
  rcases hc with rfl | rfl <;> decide +kernel
theorem inb4 {j : Nat} (h : j < 4) : inb (nI j) 4 = true := by rw [inb_nI (by omega)]; exact h
theorem xAlgY {c j : Nat} {A : AL} {w : WX} (hc : c = 1 ∨ c = 55) (h : AX c A w) (hA : A.length ≤ 4) (hj : j < A.length) : sh_X4_algebraAt c (nI j) w = some (c + 1 + 5 + 10 * j) := by
  unfold sh_X4_algebraAt
  rw [if_neg (by rw [ilt0 (by omega)]; exact not_false), if_pos (by rw [h.1, ilt (by omega) (by omega)]; exact hj), grd_ok (inb4 (by omega)), iclamp (by omega), grd_ok (kAlg c hc j (by omega))]
theorem xAlgN {c : Nat} {x : Int32} {A : AL} {w : WX} (h : AX c A w) (hA : A.length ≤ 4) (hj : ¬ (0 ≤ x.toInt ∧ x.toInt < A.length)) : sh_X4_algebraAt c x w = some 999 := by
  unfold sh_X4_algebraAt
  by_cases h1 : x < 0
  · rw [if_pos h1]
  · rw [if_neg h1, if_neg]
    intro h2
    rw [h.1, Int32.lt_iff_toInt_lt, nI_toInt (by omega)] at h2
    rw [Int32.not_lt, Int32.le_iff_toInt_le, show (0 : Int32).toInt = 0 from rfl] at h1
    exact hj ⟨h1, h2⟩
theorem xSurY {c j : Nat} {w : WX} (hc : c = 1 ∨ c = 55) (hj : j < 4) : sh_X4_surfaceAt c (nI j) w = some (c + 2 + 44 + 2 * j) := by
  unfold sh_X4_surfaceAt
  rw [if_neg (by rw [ilt0 (by omega)]; exact not_false), if_pos (by rw [ilt (by omega) (by omega)]; exact hj), grd_ok (inb4 (by omega)), iclamp (by omega), grd_ok (kSur c hc j (by omega))]
theorem xSurN {c : Nat} {x : Int32} {w : WX} (hj : ¬ (0 ≤ x.toInt ∧ x.toInt < 4)) : sh_X4_surfaceAt c x w = some 999 := by
  unfold sh_X4_surfaceAt
  by_cases h1 : x < 0
  · rw [if_pos h1]
  · rw [if_neg h1, if_neg]
    intro h2
    rw [Int32.lt_iff_toInt_lt, nI_toInt (by omega)] at h2
    rw [Int32.not_lt, Int32.le_iff_toInt_le, show (0 : Int32).toInt = 0 from rfl] at h1
    exact hj ⟨h1, h2⟩
/-! a State copied -/
theorem xPco {c u : Nat} {P : PL} {w : WX} (hP : P.length ≤ 8) (h : PX u P w) (hcu : c + 3 ≤ u ∨ u + 3 ≤ c) : Ok (sh_X3_copyFrom c u w) (fun w' => PX c P w' ∧ OutX c (c + 3) w w' ∧ w'.2 = w.2) := by
  obtain ⟨h1, h2⟩ := h
  unfold sh_X3_copyFrom
  refine ok_pX fun w1 f1 f2 f3 f4 => ?_
  rw [ok_bind]
  refine ok_cp (by omega) fun w2 g1 g2 g3 => ?_
  rw [ok_bind]
  refine ok_cp (by omega) fun w3 d1 d2 d3 => ?_
  rw [ok_some]
  refine ⟨⟨?_, fun i hi => ⟨?_, ?_⟩⟩, ((OutX.refl.put (by omega) f1).put (by omega) g1).put (by omega) d1, by rw [d3, g3, f4]⟩
  · rw [d1 _ (by omega), g1 _ (by omega), f3, h1]
  · rw [d1 _ (by omega), g2 _ (by omega), f1 _ (by omega), (h2 i hi).1]
  · rw [d2 _ (by omega), g1 _ (by omega), f1 _ (by omega), (h2 i hi).2]
theorem xSco {c u : Nat} {A : AL} {S : Nat → List Nat} {P : PL} {w : WX} (hcu : (c = 55 ∧ u = 1) ∨ (c = 1 ∧ u = 55)) (hA : VAs A) (hS : VSs S) (hP : VPs P) (h : StX u A S P w) : Ok (sh_X4_copyFrom c u w) (fun w' => StX c A S P w' ∧ OutX c (c + 54) w w' ∧ w'.2 = w.2) := by
  have hl := hA.1
  unfold sh_X4_copyFrom
  refine ok_pX fun w1 f1 f2 f3 f4 => ?_
  simp only [ok_bind, ok_some]
  refine (ok_for A.length (fun i st => ∃ w' : WX, st = (nI i, w') ∧ (w'.1 c 1 = nI A.length ∧ ∀ j, j < i → AlgAt (c + 1 + 5 + 10 * j) (aK A j) (aS A j) (aF A j) w') ∧ OutX c (c + 54) w w' ∧ w'.2 = w.2) (P := fun w' : WX => AX c A w' ∧ OutX c (c + 54) w w' ∧ w'.2 = w.2) ⟨w1, rfl, ⟨by rw [f3]; exact h.1.1, fun j hj => absurd hj (by omega)⟩, OutX.refl.put (by omega) f1, f4⟩ ?_ ?_ (by omega)).mono fun w2 h2 => ?_
  · rintro i _ hi ⟨w2, rfl, ⟨e1, e2⟩, e3, e4⟩
    have hni : ¬ A.length ≤ i := by omega
    obtain ⟨d0, d1, d2, d3⟩ := (h.1.2 i hi).1
    rw [← e3 _ (by omega)] at d0 d1 d2
    simp (disch := omega) only [sh_X4_copyFrom_s10, e1, ile, hni, if_false, iclamp, ok_grd, ok_bind]
    refine ⟨inb4 (by omega), kAlg u (by omega) i (by omega), inb4 (by omega), kAlg c (by omega) i (by omega), ?_⟩
    rw [d0, d1, d2]
    refine (xMake (hA.2 i hi)).mono fun w3 h3 => ?_
    obtain ⟨g1, g2, g3⟩ := h3
    simp only [ok_letv, ok_some, inl_ex, nI_add]
    refine ⟨w3, rfl, ⟨by rw [g2 _ (by omega)]; exact e1, fun j hj => ?_⟩, e3.trans (g2.wide (by omega) (by omega)), g3.trans e4⟩
    by_cases q : j = i
    · subst q; exact g1
    · exact (e2 j (by omega)).to fun q a b => g2 q (by omega)
  · rintro _ ⟨w2, rfl, ⟨e1, e2⟩, e3, e4⟩
    simp (disch := omega) only [sh_X4_copyFrom_s10, e1, ile, Nat.le_refl, if_true, ok_some, inr_ex]
    exact ⟨⟨e1, e2⟩, e3, e4⟩
  · refine (ok_for 4 (fun i st => ∃ w' : WX, st = (nI i, w') ∧ (AX c A w' ∧ ∀ j, j < i → SuAt (c + 2 + 44 + 2 * j) (S j) w') ∧ OutX c (c + 54) w w' ∧ w'.2 = w.2) (P := fun w' : WX => AX c A w' ∧ SX c S w' ∧ OutX c (c + 54) w w' ∧ w'.2 = w.2) ⟨w2, rfl, ⟨h2.1, fun j hj => absurd hj (by omega)⟩, h2.2.1, h2.2.2⟩ ?_ ?_ (by omega)).mono fun w3 h3 => ?_
    · rintro i _ hi ⟨w3, rfl, ⟨e1, e2⟩, e3, e4⟩
      have hni : ¬ 4 ≤ i := by omega
      have hs := (h.2.1 i hi).to (w' := w3) (e3 _ (by omega)) (e3 _ (by omega))
      simp (disch := omega) only [sh_X4_copyFrom_s54, ile, hni, if_false, iclamp, ok_grd, ok_bind]
      refine ⟨inb4 (by omega), kSur c (by omega) i (by omega), inb4 (by omega), kSur u (by omega) i (by omega), ?_⟩
      refine (xCop (hS i hi) hs (by omega)).mono fun w4 h4 => ?_
      obtain ⟨g1, g2, g3⟩ := h4
      simp only [ok_letv, ok_some, inl_ex, nI_add]
      refine ⟨w4, rfl, ⟨⟨by rw [g2 _ (by omega)]; exact e1.1, fun j hj => (e1.2 j hj).to fun q a b => g2 q (by omega)⟩, fun j hj => ?_⟩, e3.trans (g2.wide (by omega) (by omega)), g3.trans e4⟩
      by_cases q : j = i
      · subst q; exact g1
      · exact (e2 j (by omega)).to (g2 _ (by omega)) (g2 _ (by omega))
    · rintro _ ⟨w3, rfl, ⟨e1, e2⟩, e3, e4⟩
      simp (disch := omega) only [sh_X4_copyFrom_s54, ile, Nat.le_refl, if_true, ok_some, inr_ex]
      exact ⟨e1, e2, e3, e4⟩
    · obtain ⟨e1, e2, e3, e4⟩ := h3
      have hp : PX (u + 3) P w3 := by
        obtain ⟨p1, p2⟩ := h.2.2
        refine ⟨by rw [e3 _ (by omega)]; exact p1, fun i hi => ?_⟩
        rw [e3 _ (by omega), e3 _ (by omega)]
        exact p2 i hi
      refine (xPco (c := c + 3) hP.1 hp (by omega)).mono fun w4 h4 => ?_
      obtain ⟨g1, g2, g3⟩ := h4
      exact ⟨⟨⟨by rw [g2 _ (by omega)]; exact e1.1, fun j hj => (e1.2 j hj).to fun q a b => g2 q (by omega)⟩, fun j hj => (e2 j hj).to (g2 _ (by omega)) (g2 _ (by omega)), g1⟩, e3.trans (g2.wide (by omega) (by omega)), g3.trans e4⟩
/-! the plan done -/
def rowL (S : Nat → List Nat) (L : List Nat) (a v : Nat) : List Nat := if a = 0 then apL L v else if a = 1 then L.take (L.length - v) else if glF L (S v) = nI 0 then L ++ S v else L
theorem Sf_rowL {S : Nat → List Nat} {L : List Nat} {a v : Nat} (hS : VSs S) (h : Sf L) (hr : rowOk a v) : Sf (rowL S L a v) := by
  unfold rowL
  split
  · exact Sf_apL h v
  · split
    · exact h.take _
    · split
      · rename_i e
        exact h.glue (by rwa [glF_0] at e)
      · exact h
theorem xRow {a v : Nat} {A : AL} {S : Nat → List Nat} {P : PL} {L : List Nat} {w : WX} (hS : VSs S) (hL : Sf L) (hr : rowOk a v) (h : SX 1 S w) (g : SuAt 119 L w) : Ok (sh_X4_doRow 1 (nI a) (nI v) 119 w) (fun w' => SuAt 119 (rowL S L a v) w' ∧ OutX 119 121 w w' ∧ w'.2 = w.2) := by
  have hl := hL.1
  unfold sh_X4_doRow rowL
  rcases hr with ⟨rfl, hv⟩ | ⟨rfl, hv, hv2⟩ | ⟨rfl, hv⟩
  · refine okt rfl ?_
    rw [ok_bind, if_pos rfl]
    refine (xApp hL hv g).mono fun r hr => ?_
    rw [ok_some]
    exact hr.2
  · refine okf (by decide) (okt rfl ?_)
    rw [ok_bind, if_neg (by omega), if_pos rfl, g.1.1]
    refine (xKee (k := L.length - v) hL g ?_).mono fun w1 h1 => ?_
    · rw [keep_sub (by omega) (by omega), List.length_take]
      congr 1
      omega
    · rw [ok_some]
      exact h1
  · refine okf (by decide) (okf (by decide) ?_)
    rw [if_neg (by omega), if_neg (by omega)]
    refine okb (xSurY (Or.inl rfl) hv) (okf (by omega) (okg (kSur 1 (Or.inl rfl) v hv) ?_))
    refine okb (xGf hL (hS v hv) g (h v hv)) ?_
    by_cases e : glF L (S v) = nI 0
    · rw [if_pos e]
      refine okt e ?_
      rw [ok_bind]
      refine (xGlu hL (hS v hv) g (h v hv) (by rwa [glF_0] at e) (Or.inr (by omega))).mono fun w1 h1 => ?_
      rw [ok_some]
      exact h1
    · rw [if_neg e]
      refine okf e ?_
      rw [ok_some]
      exact ⟨g, OutX.refl, rfl⟩
def plL (S : Nat → List Nat) (P : PL) (L : List Nat) : Nat → List Nat
  | 0 => L
  | i + 1 => rowL S (plL S P L i) (pW P i) (pV P i)
theorem Sf_plL {S : Nat → List Nat} {P : PL} {L : List Nat} (hS : VSs S) (hP : VPs P) (h : Sf L) : ∀ i, i ≤ P.length → Sf (plL S P L i)
  | 0, _ => h
  | i + 1, hi => Sf_rowL hS (Sf_plL hS hP h i (by omega)) (hP.2 i (by omega))
theorem xPlan {A : AL} {S : Nat → List Nat} {P : PL} {L : List Nat} {w : WX} (hA : VAs A) (hS : VSs S) (hP : VPs P) (hL : Sf L) (h : StX 1 A S P w) (g : SuAt 119 L w) : Ok (sh_X4_doPlan 1 119 w) (fun w' => SuAt 119 (plL S P L P.length) w' ∧ OutX 119 121 w w' ∧ w'.2 = w.2) := by
  have hl := hP.1
  simp only [sh_X4_doPlan, ok_bind, ok_some]
  refine ok_for P.length (fun i st => ∃ w', st = (nI i, w') ∧ SuAt 119 (plL S P L i) w' ∧ OutX 119 121 w w' ∧ w'.2 = w.2) ⟨w, rfl, g, OutX.refl, rfl⟩ ?_ ?_ (by omega)
  · rintro i _ hi ⟨w1, rfl, e1, e2, e3⟩
    have hni : ¬ P.length ≤ i := by omega
    have h1 := h.to (w' := w1) hA.1 fun q a b => e2 q (by omega)
    obtain ⟨p1, p2⟩ := h1.2.2
    simp (disch := omega) only [sh_X4_doPlan_s2, p1, ile, hni, if_false, ldS_ok (show i < 8 by omega), (p2 i hi).1, (p2 i hi).2, bsome, ok_bind]
    refine (xRow (A := A) (P := P) hS (Sf_plL hS hP hL i (by omega)) (hP.2 i hi) h1.2.1 e1).mono fun w2 h2 => ?_
    simp only [ok_letv, ok_some, inl_ex, nI_add]
    exact ⟨w2, rfl, h2.1, e2.trans h2.2.1, h2.2.2.trans e3⟩
  · rintro _ ⟨w1, rfl, e1, e2, e3⟩
    have h1 := h.to (w' := w1) hA.1 fun q a b => e2 q (by omega)
    simp (disch := omega) only [sh_X4_doPlan_s2, h1.2.2.1, ile, Nat.le_refl, if_true, ok_some, inr_ex]
    exact ⟨e1, e2, e3⟩
theorem mxI_sub {n v : Nat} (hn : n < 1073741824) (hv : v < 1073741824) : mxI (nI 0) (nI n - nI v) = nI (n - v) := by
  have e := pk_sub_toInt (a := n) (b := v) (by omega) (by omega)
  rcases Nat.lt_or_ge n v with h | h
  · unfold mxI
    rw [if_neg]
    · rw [show n - v = 0 by omega]
    · intro h3
      rw [Int32.lt_iff_toInt_lt, nI_toInt (by omega), e] at h3
      omega
  · rw [isub h, mxI_n (by omega) (by omega), Nat.max_eq_right (Nat.zero_le _)]
theorem mRow {a v : Nat} {S : Nat → List Nat} {L : List Nat} {w : Mem} (hS : VSs S) (hL : Sf L) (hr : rowOk a v) (h : SM 1 S w) (g : RoM L w) : Ok (sh_X9_planned (nI a) (nI v) w) (fun w' => RoM (rowL S L a v) w' ∧ OutR w w') := by
  have hl := hL.1
  unfold sh_X9_planned rowL
  rcases hr with ⟨rfl, hv⟩ | ⟨rfl, hv, hv2⟩ | ⟨rfl, hv⟩
  · have fin : ∀ w', sh_X9_planned_j26 (nI 0) (nI v) w' = some w' := fun w' => rfl
    refine okt rfl ?_
    rw [if_pos rfl]
    unfold apL
    simp (disch := omega) only [g.1, ile]
    by_cases q : 24 ≤ L.length
    · have hq : ¬ apO L v = true := by rw [apO_iff]; omega
      rw [if_neg hq]
      refine okt q ?_
      rw [fin, ok_some]
      exact ⟨g, OutR.refl⟩
    · refine okf q (okb (mCan hL hv g) ?_)
      by_cases q2 : (bh (cr L) v).isSome = true
      · have hq : apO L v = true := by rw [apO_iff]; exact ⟨by omega, q2⟩
        rw [if_pos hq, bI_t q2]
        refine okf (by decide) ?_
        rw [ok_bind]
        refine (mAdd (by omega) g).mono fun w2 h2 => ?_
        rw [fin, ok_some]
        exact h2
      · have hq : ¬ apO L v = true := by rw [apO_iff]; exact fun z => q2 z.2
        rw [if_neg hq, bI_f q2]
        refine okt rfl ?_
        rw [fin, ok_some]
        exact ⟨g, OutR.refl⟩
  · have fin : ∀ w', sh_X9_planned_j45 (nI 1) (nI v) w' = some w' := fun w' => rfl
    refine okf (by decide) ?_
    rw [if_neg (by omega), if_pos rfl]
    unfold sh_X9_planned_j26
    refine okt rfl ?_
    rw [g.1, mxI_sub (by omega) (by omega)]
    refine ok_ms fun w1 f1 f2 f3 => ?_
    rw [fin, ok_some]
    refine ⟨⟨?_, ?_⟩, fun q a b => f1 q a, fun i a => f2 i a⟩
    · rw [f3, List.length_take]
      congr 1
      omega
    · rw [f1 _ (by omega)]
      exact g.2.take
  · refine okf (by decide) ?_
    rw [if_neg (by omega), if_neg (by omega)]
    unfold sh_X9_planned_j26
    refine okf (by decide) ?_
    unfold sh_X9_planned_j45
    refine okt rfl ?_
    have hM := hS v hv
    have hm := hM.1
    have hs := h v hv
    simp (disch := omega) only [nI_add, ldS_ok (show 13 + v < 130 by omega), hs.1, bsome, g.1, ilt]
    by_cases q : 24 < L.length + (S v).length
    · have e : ¬ glF L (S v) = nI 0 := by rw [glF_0]; omega
      rw [if_neg e]
      refine okt q ?_
      rw [ok_some]
      exact ⟨g, OutR.refl⟩
    · refine okf q (okb (mMay hv hL hM g hs) ?_)
      by_cases q2 : (cirF (cr L) (S v)).isSome = true
      · have e : glF L (S v) = nI 0 := by rw [glF_0]; exact ⟨q2, by omega⟩
        rw [if_pos e, bI_t q2]
        refine okf (by decide) ?_
        rw [ok_bind]
        refine (mGlu hv (by omega) g hs).mono fun w2 h2 => ?_
        rw [ok_some]
        exact h2
      · have e : ¬ glF L (S v) = nI 0 := by rw [glF_0]; exact fun z => q2 z.1
        rw [if_neg e, bI_f q2]
        refine okt rfl ?_
        rw [ok_some]
        exact ⟨g, OutR.refl⟩
theorem xAll {S : Nat → List Nat} {w : WX} (hS : VSs S) (h : SX 1 S w) : sh_X4_piecesOfAll 1 w = some (nI ((S 0).length + (S 1).length + (S 2).length + (S 3).length)) := by
  have key : Ok (lpw (sh_X4_piecesOfAll_s4 1 w) FU (nI 0, nI 0)) (fun x => x = nI (sumN 4 (fun i => (S i).length))) := by
    refine ok_for 4 (fun i st => st = (nI (sumN i (fun i => (S i).length)), nI i)) rfl ?_ ?_ (by omega)
    · rintro i _ hi rfl
      have hni : ¬ 4 ≤ i := by omega
      simp (disch := omega) only [sh_X4_piecesOfAll_s4, ile, hni, if_false, iclamp, (h i hi).1.1, nI_add, ok_grd, ok_letv, ok_some, inl_ex, sumN]
      exact ⟨inb4 hi, kSur 1 (Or.inl rfl) i hi, trivial⟩
    · rintro _ rfl
      simp (disch := omega) only [sh_X4_piecesOfAll_s4, ile, Nat.le_refl, if_true, ok_some, inr_ex]
  obtain ⟨x, hx, rfl⟩ := key
  simp only [sh_X4_piecesOfAll, hx, bsome, sumN, Nat.zero_add]
