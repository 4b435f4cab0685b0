/-! surfaces as lists of pieces -/
/-- circles behind a piece, of c circles: none, if it can't stand -/
def bh (c p : Nat) : Option Nat := match p with
  | 0 => if c + 1 ≤ 3 then some (c + 1) else none
  | 1 => if 2 ≤ c then some (c - 1) else none
  | 2 => if 1 ≤ c ∧ c + 1 ≤ 3 then some (c + 1) else none
  | 3 => if 1 ≤ c then some (c - 1) else none
  | 4 => if 2 ≤ c then some c else none
  | 5 => if 1 ≤ c then some c else none
  | 6 => if 1 ≤ c then some c else none
  | _ => none
def cirF : Nat → List Nat → Option Nat
  | c, [] => some c
  | c, p :: l => (bh c p).bind (fun c' => cirF c' l)
def cr (L : List Nat) : Nat := (cirF 0 L).getD 0
/-- a surface: every piece can stand -/
def Sf (L : List Nat) : Prop := L.length ≤ 24 ∧ ∃ c, cirF 0 L = some c
theorem p7 {p : Nat} (h : p < 7) : p = 0 ∨ p = 1 ∨ p = 2 ∨ p = 3 ∨ p = 4 ∨ p = 5 ∨ p = 6 := by omega
theorem bh_le {c p d : Nat} (hc : c ≤ 3) (h : bh c p = some d) : d ≤ 3 ∧ p < 7 := by
  rcases Nat.lt_or_ge p 7 with hp | hp
  · refine ⟨?_, hp⟩
    rcases p7 hp with rfl | rfl | rfl | rfl | rfl | rfl | rfl <;> simp only [bh] at h <;> split at h <;> first | (cases h; omega) | (cases h)
  · exfalso
    match p, hp with
    | p + 7, _ => cases h
theorem cirF_le : ∀ (l : List Nat) (c d : Nat), c ≤ 3 → cirF c l = some d → d ≤ 3
  | [], c, d, hc, h => by cases h; exact hc
  | p :: l, c, d, hc, h => by
    obtain ⟨e, h1, h2⟩ := of_bind h
    exact cirF_le l e d (bh_le hc h1).1 h2
theorem cirF_app : ∀ (l m : List Nat) (c : Nat), cirF c (l ++ m) = (cirF c l).bind (fun d => cirF d m)
  | [], m, c => rfl
  | p :: l, m, c => by
    show (bh c p).bind (fun c' => cirF c' (l ++ m)) = ((bh c p).bind (fun c' => cirF c' l)).bind _
    cases bh c p with
    | none => rfl
    | some e => exact cirF_app l m e
theorem Sf.crE {L : List Nat} (h : Sf L) : cirF 0 L = some (cr L) := by
  obtain ⟨-, c, hc⟩ := h
  unfold cr
  rw [hc]
  rfl
theorem Sf.le {L : List Nat} (h : Sf L) : cr L ≤ 3 := cirF_le L 0 _ (by omega) h.crE
theorem Sf.nil : Sf [] := ⟨by simp, 0, rfl⟩
theorem Sf.p7 : ∀ (L : List Nat) (c d : Nat), c ≤ 3 → cirF c L = some d → ∀ p, p ∈ L → p < 7
  | [], _, _, _, _, _, h => absurd h List.not_mem_nil
  | q :: l, c, d, hc, h, p, hp => by
    obtain ⟨e, h1, h2⟩ := of_bind h
    rcases List.mem_cons.mp hp with rfl | hp
    · exact (bh_le hc h1).2
    · exact Sf.p7 l e d (bh_le hc h1).1 h2 p hp
theorem Sf.mem {L : List Nat} (h : Sf L) {p : Nat} (hp : p ∈ L) : p < 7 := Sf.p7 L 0 _ (by omega) h.crE p hp
theorem Sf.getD {L : List Nat} (h : Sf L) {i : Nat} (hi : i < L.length) : L.getD i 0 < 7 := by
  rw [List.getD_eq_getElem?_getD, List.getElem?_eq_getElem hi]
  exact h.mem (List.getElem_mem hi)
theorem cirF_take {L : List Nat} {c d : Nat} (h : cirF c L = some d) (k : Nat) : ∃ e, cirF c (L.take k) = some e ∧ cirF e (L.drop k) = some d := by
  have := cirF_app (L.take k) (L.drop k) c
  rw [List.take_append_drop, h] at this
  obtain ⟨e, h1, h2⟩ := of_bind this.symm
  exact ⟨e, h1, h2⟩
theorem Sf.take {L : List Nat} (h : Sf L) (k : Nat) : Sf (L.take k) := by
  obtain ⟨e, h1, -⟩ := cirF_take h.crE k
  exact ⟨by rw [List.length_take]; have := h.1; omega, e, h1⟩
/-- whether one more can come -/
def apO (L : List Nat) (p : Nat) : Bool := decide (L.length < 24) && (bh (cr L) p).isSome
def apL (L : List Nat) (p : Nat) : List Nat := if apO L p = true then L ++ [p] else L
theorem cr_app {L : List Nat} (h : Sf L) {p d : Nat} (hb : bh (cr L) p = some d) : cirF 0 (L ++ [p]) = some d ∧ cr (L ++ [p]) = d := by
  have e : cirF 0 (L ++ [p]) = some d := by
    rw [cirF_app, h.crE]
    show (bh (cr L) p).bind _ = _
    rw [hb]
    rfl
  refine ⟨e, ?_⟩
  unfold cr
  rw [e]
  rfl
theorem Sf.push {L : List Nat} (h : Sf L) {p : Nat} (ha : apO L p = true) : Sf (L ++ [p]) := by
  simp only [apO, Bool.and_eq_true, decide_eq_true_eq] at ha
  obtain ⟨d, hd⟩ := Option.isSome_iff_exists.mp ha.2
  refine ⟨by simp; omega, d, (cr_app h hd).1⟩
theorem Sf_apL {L : List Nat} (h : Sf L) (p : Nat) : Sf (apL L p) := by
  unfold apL
  split
  · rename_i e; exact h.push e
  · exact h
/-- a row of an array holds a list -/
def Hd (m : Nat → Int32) (o : Nat) (L : List Nat) : Prop := ∀ i, i < L.length → m (o + i) = nI (L.getD i 0)
theorem Hd.push {m m' : Nat → Int32} {o p : Nat} {L : List Nat} (h : Hd m o L) (f : ∀ j, j ≠ o + L.length → m' j = m j) (hv : m' (o + L.length) = nI p) : Hd m' o (L ++ [p]) := fun i hi => by
  rw [List.length_append, List.length_singleton] at hi
  by_cases e : i = L.length
  · subst e
    rw [hv, List.getD_eq_getElem?_getD, List.getElem?_append_right (Nat.le_refl _), Nat.sub_self]
    rfl
  · rw [f _ (by omega), h i (by omega), List.getD_eq_getElem?_getD, List.getD_eq_getElem?_getD, List.getElem?_append_left (by omega)]
theorem Hd.take {m : Nat → Int32} {o k : Nat} {L : List Nat} (h : Hd m o L) : Hd m o (L.take k) := fun i hi => by
  rw [List.length_take] at hi
  rw [h i (by omega), List.getD_eq_getElem?_getD, List.getD_eq_getElem?_getD, List.getElem?_take_of_lt (by omega)]
theorem Hd.to {m m' : Nat → Int32} {o : Nat} {L : List Nat} (h : Hd m o L) (f : ∀ j, o ≤ j → j < o + L.length → m' j = m j) : Hd m' o L := fun i hi => by rw [f _ (by omega) (by omega)]; exact h i hi
/-! the class -/
theorem xCan : ∀ p, p < 7 → ∀ c, c < 4 → sh_X8_canStand (nI p) (nI c) = some (if (bh c p).isSome then nI 1 else nI 0) := by decide +kernel
theorem xAdd : ∀ p, p < 7 → ∀ c, c < 4 → (bh c p).isSome → Option.bind (tbl7 sADDS (nI p)) (fun v => some (nI c + v)) = (bh c p).map nI := by decide +kernel
theorem xAdd1 {p c d : Nat} (hp : p < 7) (hc : c < 4) (hb : bh c p = some d) : ∃ v, tbl7 sADDS (nI p) = some v ∧ nI c + v = nI d := by
  have h := xAdd p hp c hc (by rw [hb]; rfl)
  rw [hb] at h
  obtain ⟨v, h1, h2⟩ := of_bind h
  exact ⟨v, h1, Option.some.inj h2⟩
def SuAt (t : Nat) (L : List Nat) (w : WX) : Prop := (w.1 t 1 = nI L.length ∧ w.1 t 2 = nI (cr L)) ∧ Hd (w.1 (t + 1)) 0 L
theorem SuAt.to {t : Nat} {L : List Nat} {w w' : WX} (h : SuAt t L w) (h0 : w'.1 t = w.1 t) (h1 : w'.1 (t + 1) = w.1 (t + 1)) : SuAt t L w' := by
  unfold SuAt
  rw [h0, h1]
  exact h
theorem xApp {t p : Nat} {L : List Nat} {w : WX} (hS : Sf L) (hp : p < 7) (h : SuAt t L w) : Ok (sh_X6_append t (nI p) w) (fun r => r.1 = (if apO L p = true then nI 1 else nI 0) ∧ SuAt t (apL L p) r.2 ∧ OutX t (t + 2) w r.2 ∧ r.2.2 = w.2) := by
  obtain ⟨⟨h1, h2⟩, h3⟩ := id h
  have hl := hS.1
  have hc := hS.le
  unfold sh_X6_append
  by_cases e : 24 ≤ L.length
  · refine okt (by rw [h1, ile (by omega) (by omega)]; exact e) ?_
    have hn : ¬ apO L p = true := by simp [apO]; omega
    simp only [ok_some, apL, hn]
    exact ⟨rfl, h, OutX.refl, trivial⟩
  · refine okf (by rw [h1, ile (by omega) (by omega)]; exact e) ?_
    rw [h2, xCan p hp _ (by omega), bsome]
    cases hb : bh (cr L) p with
    | none =>
      have hn : ¬ apO L p = true := by simp [apO, hb]
      refine okt (by simp; rfl) ?_
      simp only [ok_some, apL, hn]
      exact ⟨rfl, h, OutX.refl, trivial⟩
    | some d =>
      have hy : apO L p = true := by simp [apO, hb]; omega
      obtain ⟨v, hv1, hv2⟩ := xAdd1 hp (by omega) hb
      refine okf (by simp; decide) ?_
      rw [h1]
      simp only [ok_bind]
      refine ok_stX (by omega) (by omega) fun w1 f1 f2 f3 f4 => ok_pX fun w2 g1 g2 g3 g4 => ?_
      rw [hv1]
      simp only [ok_some, ok_bind]
      refine ok_pX fun w3 d1 d2 d3 d4 => ?_
      have e1 : w1.1 t 1 = nI L.length := by rw [f1 _ (by omega)]; exact h1
      have e2 : w2.1 t 2 = nI (cr L) := by rw [g2 _ (by omega), f1 _ (by omega)]; exact h2
      simp only [ok_some, apL, hy, if_true, true_and]
      refine ⟨⟨⟨?_, ?_⟩, ?_⟩, ((OutX.refl.put (by omega) f1).put (by omega) g1).put (by omega) d1, by rw [d4, g4, f4]⟩
      · rw [d2 _ (by omega), g3, e1, nI_add]; simp
      · rw [d3, e2, hv2, (cr_app hS hb).2]
      · rw [d1 _ (by omega), g1 _ (by omega)]
        exact h3.push (fun j hj => f2 j (by omega)) (by rw [Nat.zero_add]; exact f3)
theorem mxI_n {a b : Nat} (ha : a < 2147483648) (hb : b < 2147483648) : mxI (nI a) (nI b) = nI (max a b) := by
  unfold mxI
  simp only [ilt ha hb]
  split
  · rename_i h; rw [Nat.max_eq_right (by omega)]
  · rename_i h; rw [Nat.max_eq_left (by omega)]
theorem mnI_n {a b : Nat} (ha : a < 2147483648) (hb : b < 2147483648) : mnI (nI a) (nI b) = nI (min a b) := by
  unfold mnI
  simp only [ilt hb ha]
  split
  · rename_i h; rw [Nat.min_eq_right (by omega)]
  · rename_i h; rw [Nat.min_eq_left (by omega)]
theorem keep_sub {n v : Nat} (hn : n < 1073741824) (hv : v < 1073741824) : mxI (nI 0) (mnI (nI n) (nI n - nI v)) = nI (n - v) := by
  have e := pk_sub_toInt (a := n) (b := v) (by omega) (by omega)
  rcases Nat.lt_or_ge n v with h | h
  · have h2 : nI n - nI v < nI n := by
      rw [Int32.lt_iff_toInt_lt, nI_toInt (by omega), e]
      omega
    unfold mxI mnI
    rw [if_pos h2, if_neg]
    · rw [show n - v = 0 by omega]
    · intro h3
      rw [Int32.lt_iff_toInt_lt, nI_toInt (by omega), e] at h3
      omega
  · rw [isub h, mnI_n (by omega) (by omega), mxI_n (by omega) (by omega)]
    congr 1
    omega
theorem take_succ_getD {L : List Nat} {i : Nat} (hi : i < L.length) : L.take (i + 1) = L.take i ++ [L.getD i 0] := by
  rw [List.take_succ, List.getD_eq_getElem?_getD]
  congr 1
  rw [List.getElem?_eq_getElem hi]
  rfl
theorem bh_take {L : List Nat} (h : Sf L) {i : Nat} (hi : i < L.length) : ∃ d, bh (cr (L.take i)) (L.getD i 0) = some d ∧ cr (L.take (i + 1)) = d := by
  have h1 := (h.take (i + 1)).crE
  rw [take_succ_getD hi, cirF_app, (h.take i).crE] at h1
  obtain ⟨d, h2, h3⟩ := of_bind (show (bh (cr (L.take i)) (L.getD i 0)).bind (fun c' => cirF c' []) = _ from h1)
  refine ⟨d, h2, ?_⟩
  rw [take_succ_getD hi]
  exact (cr_app (h.take i) h2).2
theorem xKee {t k : Nat} {x : Int32} {L : List Nat} {w : WX} (hS : Sf L) (h : SuAt t L w) (hx : mxI (nI 0) (mnI (nI L.length) x) = nI (L.take k).length) : Ok (sh_X6_keepFirst t x w) (fun w' => SuAt t (L.take k) w' ∧ OutX t (t + 2) w w' ∧ w'.2 = w.2) := by
  obtain ⟨⟨h1, h2⟩, h3⟩ := id h
  have hl := hS.1
  unfold sh_X6_keepFirst
  rw [h1, hx]
  refine ok_pX fun w1 f1 f2 f3 f4 => ok_pX fun w2 g1 g2 g3 g4 => ?_
  have hk := hS.take k
  obtain ⟨M, hM⟩ : ∃ M, M = L.take k := ⟨_, rfl⟩
  have h3' : Hd (w2.1 (t + 1)) 0 M := by rw [g1 _ (by omega), f1 _ (by omega), hM]; exact h3.take
  rw [← hM] at hk f3 ⊢
  have hlM := hk.1
  simp only [ok_bind, ok_some]
  refine ok_for M.length (fun i st => ∃ w', st = (nI i, w') ∧ (w'.1 t 1 = nI M.length ∧ w'.1 t 2 = nI (cr (M.take i))) ∧ Hd (w'.1 (t + 1)) 0 M ∧ OutX t (t + 2) w w' ∧ w'.2 = w.2) ⟨w2, rfl, ⟨by rw [g2 _ (by omega)]; exact f3, g3⟩, h3', (OutX.refl.put (by omega) f1).put (by omega) g1, by rw [g4, f4]⟩ ?_ ?_ (by omega)
  · rintro i _ hi ⟨w3, rfl, ⟨e1, e2⟩, e3, e4, e5⟩
    have hni : ¬ M.length ≤ i := by omega
    obtain ⟨d, hd1, hd2⟩ := bh_take hk hi
    have hp := hk.getD hi
    have hc := (hk.take i).le
    obtain ⟨v, hv1, hv2⟩ := xAdd1 hp (by omega) hd1
    have e3i := e3 i hi
    rw [Nat.zero_add] at e3i
    simp (disch := omega) only [sh_X6_keepFirst_s23, e1, ile, hni, if_false, ldS_ok (show i < 24 by omega), e3i, bsome, hv1]
    refine ok_pX fun w4 d1 d2 d3 d4 => ?_
    simp only [ok_letv, ok_some, inl_ex, nI_add]
    refine ⟨w4, rfl, ⟨by rw [d2 _ (by omega)]; exact e1, by rw [d3, e2, hv2, hd2]⟩, by rw [d1 _ (by omega)]; exact e3, e4.put (by omega) d1, by rw [d4, e5]⟩
  · rintro _ ⟨w3, rfl, ⟨e1, e2⟩, e3, e4, e5⟩
    simp (disch := omega) only [sh_X6_keepFirst_s23, e1, ile, Nat.le_refl, if_true, ok_some, inr_ex]
    exact ⟨⟨⟨e1, by rw [e2, List.take_length]⟩, e3⟩, e4, e5⟩
theorem xKeeN {t k : Nat} {L : List Nat} {w : WX} (hS : Sf L) (h : SuAt t L w) (hk : k < 1073741824) : Ok (sh_X6_keepFirst t (nI k) w) (fun w' => SuAt t (L.take k) w' ∧ OutX t (t + 2) w w' ∧ w'.2 = w.2) := by
  have := hS.1
  refine xKee hS h ?_
  rw [mnI_n (by omega) (by omega), mxI_n (by omega) (by omega), List.length_take]
  congr 1
  omega
