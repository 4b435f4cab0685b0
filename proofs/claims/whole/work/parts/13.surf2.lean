/-! surfaces, on: gluing, drawing, copying -/
def mxT (L : List Nat) : Nat → Nat
  | 0 => 0
  | i + 1 => max (mxT L i) (cr (L.take (i + 1)))
def bhs (p c c' d : Nat) : Bool := !(decide (d + c ≤ 3) && decide (bh c p = some c')) || decide (bh (d + c) p = if d + c' ≤ 3 then some (d + c') else none)
theorem bh_shift0 : ∀ p, p < 7 → ∀ c, c < 4 → ∀ c', c' < 4 → ∀ d, d < 4 → bhs p c c' d = true := by decide
theorem bh_shift {c p c' d : Nat} (h : bh c p = some c') (hd : d + c ≤ 3) : bh (d + c) p = if d + c' ≤ 3 then some (d + c') else none := by
  have h1 := bh_le (show c ≤ 3 by omega) h
  have h2 := bh_shift0 p h1.2 c (by omega) c' (by omega) d (by omega)
  simpa [bhs, h, hd] using h2
theorem cirF_pre {L : List Nat} (h : Sf L) {d : Nat} (hd : d ≤ 3) : ∀ i, i ≤ L.length → cirF d (L.take i) = if d + mxT L i ≤ 3 then some (d + cr (L.take i)) else none
  | 0, _ => by
    rw [List.take_zero]
    show some d = if d + 0 ≤ 3 then some (d + 0) else none
    rw [if_pos (by omega), Nat.add_zero]
  | i + 1, hi => by
    have ih := cirF_pre h hd i (by omega)
    obtain ⟨e, h1, h2⟩ := bh_take h (show i < L.length by omega)
    rw [take_succ_getD (by omega), cirF_app, ih, ← take_succ_getD (by omega)]
    have hm : cr (L.take i) ≤ mxT L i := by
      cases i with
      | zero => rw [List.take_zero]; exact Nat.le_refl 0
      | succ i => exact Nat.le_max_right _ _
    by_cases e1 : d + mxT L i ≤ 3
    · rw [if_pos e1, bsome]
      show (bh _ _).bind (fun c' => cirF c' []) = _
      rw [bh_shift h1 (by omega), h2]
      unfold mxT
      rw [h2]
      by_cases e2 : d + e ≤ 3
      · rw [if_pos e2, if_pos (by omega)]
        rfl
      · rw [if_neg e2, if_neg (by omega)]
        rfl
    · rw [if_neg e1, if_neg (by unfold mxT; omega)]
      rfl
theorem cirF_all {L : List Nat} (h : Sf L) {d : Nat} (hd : d ≤ 3) : cirF d L = if d + mxT L L.length ≤ 3 then some (d + cr L) else none := by
  have := cirF_pre h hd L.length (Nat.le_refl _)
  rwa [List.take_length] at this
theorem mxT_le {L : List Nat} (h : Sf L) : ∀ i, mxT L i ≤ 3
  | 0 => by simp [mxT]
  | i + 1 => by
    have := mxT_le h i
    have := (h.take (i + 1)).le
    unfold mxT
    omega
theorem xMost {t : Nat} {L : List Nat} {w : WX} (hS : Sf L) (h : SuAt t L w) : sh_X6_mostCirclesEver t w = some (nI (mxT L L.length)) := by
  obtain ⟨⟨h1, h2⟩, h3⟩ := h
  have hl := hS.1
  have key : Ok (lpw (sh_X6_mostCirclesEver_s6 t w) FU (nI 0, nI 0, nI 0)) (fun x => x = nI (mxT L L.length)) := by
    refine ok_for L.length (fun i st => st = (nI (mxT L i), nI (cr (L.take i)), nI i)) rfl ?_ ?_ (by omega)
    · rintro i _ hi rfl
      have hni : ¬ L.length ≤ i := by omega
      obtain ⟨d, hd1, hd2⟩ := bh_take hS hi
      have hp := hS.getD hi
      have hc := (hS.take i).le
      have hc1 := (hS.take (i + 1)).le
      have hm := mxT_le hS i
      obtain ⟨v, hv1, hv2⟩ := xAdd1 hp (by omega) hd1
      have e3i := h3 i hi
      rw [Nat.zero_add] at e3i
      rw [hd2] at hc1
      simp (disch := omega) only [sh_X6_mostCirclesEver_s6, h1, ile, hni, if_false, ldS_ok (show i < 24 by omega), e3i, bsome, hv1, ok_letv, ok_some, inl_ex, hv2, mxI_n, nI_add, hd2, mxT]
    · rintro _ rfl
      simp (disch := omega) only [sh_X6_mostCirclesEver_s6, h1, ile, Nat.le_refl, if_true, ok_some, inr_ex]
  obtain ⟨x, hx, rfl⟩ := key
  simp only [sh_X6_mostCirclesEver, hx, bsome]
/-- what stands against gluing M behind L -/
def glF (L M : List Nat) : Int32 := if (cirF (cr L) M).isSome = true then (if L.length + M.length ≤ 24 then nI 0 else (-4 : Int32)) else (-3 : Int32)
theorem xGf {t u : Nat} {L M : List Nat} {w : WX} (hL : Sf L) (hM : Sf M) (h : SuAt t L w) (g : SuAt u M w) : sh_X6_glueFault t u w = some (glF L M) := by
  have l1 := hL.1
  have l2 := hM.1
  have l3 := hL.le
  have l4 := mxT_le hM M.length
  have e := cirF_all hM l3
  simp (disch := omega) only [sh_X6_glueFault, xMost hM g, bsome, h.1.1, h.1.2, g.1.1, nI_add, ile, glF, e]
  by_cases q : cr L + mxT M M.length ≤ 3
  · simp only [q, if_true, Option.isSome_some]
    split <;> rfl
  · simp only [q, if_false, Option.isSome_none]
    rfl
theorem glF_0 {L M : List Nat} : (glF L M = nI 0) = ((cirF (cr L) M).isSome = true ∧ L.length + M.length ≤ 24) := by
  unfold glF
  apply propext
  by_cases h : (cirF (cr L) M).isSome = true
  · rw [if_pos h]
    by_cases g : L.length + M.length ≤ 24
    · rw [if_pos g]; exact ⟨fun _ => ⟨h, g⟩, fun _ => rfl⟩
    · rw [if_neg g]; exact ⟨fun q => absurd q (by decide), fun q => absurd q.2 g⟩
  · rw [if_neg h]; exact ⟨fun q => absurd q (by decide), fun q => absurd q.1 h⟩
theorem Sf.glue {L M : List Nat} (hL : Sf L) (h : (cirF (cr L) M).isSome = true ∧ L.length + M.length ≤ 24) : Sf (L ++ M) := by
  obtain ⟨d, hd⟩ := Option.isSome_iff_exists.mp h.1
  exact ⟨by rw [List.length_append]; exact h.2, d, by rw [cirF_app, hL.crE]; exact hd⟩
theorem Hd.pre {m : Nat → Int32} {o : Nat} {A B : List Nat} (h : Hd m o (A ++ B)) : Hd m o A := fun i hi => by
  rw [h i (by rw [List.length_append]; omega), List.getD_eq_getElem?_getD, List.getD_eq_getElem?_getD, List.getElem?_append_left hi]
theorem app_take {L M : List Nat} {i : Nat} (hi : i ≤ M.length) : (L ++ M).take (L.length + i) = L ++ M.take i := by
  rw [List.take_append, List.take_of_length_le (by omega), Nat.add_sub_cancel_left]
theorem app_getD {L M : List Nat} {i : Nat} : (L ++ M).getD (L.length + i) 0 = M.getD i 0 := by
  rw [List.getD_eq_getElem?_getD, List.getD_eq_getElem?_getD, List.getElem?_append_right (by omega)]
  congr 2
  omega
theorem apL_take {N : List Nat} (h : Sf N) {k : Nat} (hk : k < N.length) : apO (N.take k) (N.getD k 0) = true ∧ apL (N.take k) (N.getD k 0) = N.take (k + 1) := by
  obtain ⟨d, h1, h2⟩ := bh_take h hk
  have hl := h.1
  have e : apO (N.take k) (N.getD k 0) = true := by
    simp only [apO, Bool.and_eq_true, decide_eq_true_eq, h1, Option.isSome_some, and_true, List.length_take]
    omega
  refine ⟨e, ?_⟩
  unfold apL
  rw [if_pos e, take_succ_getD hk]
theorem xGlu {t u : Nat} {L M : List Nat} {w : WX} (hL : Sf L) (hM : Sf M) (h : SuAt t L w) (g : SuAt u M w) (hok : (cirF (cr L) M).isSome = true ∧ L.length + M.length ≤ 24) (htu : t = u ∧ L = M ∨ (t + 2 ≤ u ∨ u + 2 ≤ t)) : Ok (sh_X6_glueOn t u w) (fun w' => SuAt t (L ++ M) w' ∧ OutX t (t + 2) w w' ∧ w'.2 = w.2) := by
  have hN := hL.glue hok
  have l1 := hL.1
  have l2 := hM.1
  simp only [sh_X6_glueOn, ok_letv, ok_bind, ok_some]
  rw [g.1.1]
  refine ok_for M.length (fun i st => ∃ w', st = (nI i, w') ∧ SuAt t ((L ++ M).take (L.length + i)) w' ∧ Hd (w'.1 (u + 1)) 0 M ∧ OutX t (t + 2) w w' ∧ w'.2 = w.2) ⟨w, rfl, by rw [app_take (Nat.zero_le _), List.take_zero, List.append_nil]; exact h, g.2, OutX.refl, rfl⟩ ?_ ?_ (by omega)
  · rintro i _ hi ⟨w1, rfl, e1, e2, e3, e4⟩
    have hni : ¬ M.length ≤ i := by omega
    have hk : L.length + i < (L ++ M).length := by rw [List.length_append]; omega
    obtain ⟨ha, hb⟩ := apL_take hN hk
    have e2i := e2 i hi
    rw [Nat.zero_add] at e2i
    rw [app_getD] at ha hb
    simp (disch := omega) only [sh_X6_glueOn_s7, ile, hni, if_false, ldS_ok (show i < 24 by omega), e2i, bsome, ok_bind]
    refine (xApp (hN.take _) (hM.getD hi) e1).mono fun r hr => ?_
    obtain ⟨-, r2, r3, r4⟩ := hr
    rw [hb, Nat.add_assoc] at r2
    simp only [ok_letv, ok_some, inl_ex, nI_add]
    refine ⟨r.2, rfl, r2, ?_, e3.trans r3, r4.trans e4⟩
    rcases htu with ⟨rfl, rfl⟩ | htu
    · have := r2.2
      rw [app_take (by omega)] at this
      exact this.pre
    · rw [r3 _ (by omega)]
      exact e2
  · rintro _ ⟨w1, rfl, e1, e2, e3, e4⟩
    simp only [sh_X6_glueOn_s7, show (nI M.length ≤ nI M.length) = True from eq_true (Int32.le_refl _), if_true, ok_some, inr_ex]
    rw [app_take (Nat.le_refl _), List.take_length] at e1
    exact ⟨e1, e3, e4⟩
/-! drawing -/
def lcg (z : Int32) : Int32 := z * nI 1103515245 + nI 12345
def lpc (z : Int32) : Nat := z.toBitVec.toNat / 65536 % 7
theorem lpc_eq (z : Int32) : remI (ushrI z (nI 16)) (nI 7) = nI (lpc z) := by
  have h1 := pk_ushr z (nI 16) 16 (by decide)
  have h2 : z.toBitVec.toNat < 2 ^ 32 := z.toBitVec.isLt
  have h3 : ushrI z (nI 16) = nI (z.toBitVec.toNat / 65536) := by
    apply Int32.toBitVec_inj.mp
    apply BitVec.eq_of_toNat_eq
    rw [pk_tn (by omega)]
    exact h1
  rw [h3, irem (by omega) (by omega) (by omega)]
  rfl
def drZ (z : Int32) : Nat → Int32
  | 0 => z
  | k + 1 => lcg (drZ z k)
def drL (z : Int32) (L : List Nat) : Nat → List Nat
  | 0 => L
  | k + 1 => apL (drL z L k) (lpc (drZ z (k + 1)))
theorem lpc_lt (z : Int32) : lpc z < 7 := Nat.mod_lt _ (by decide)
theorem Sf_drL {L : List Nat} (h : Sf L) (z : Int32) : ∀ k, Sf (drL z L k)
  | 0 => h
  | k + 1 => Sf_apL (Sf_drL h z k) _
theorem xDraw {t n : Nat} {z : Int32} {L : List Nat} {w : WX} (hS : Sf L) (h : SuAt t L w) (hn : n < 1000) : Ok (sh_X6_drawMore t (nI n) z w) (fun w' => SuAt t (drL z L n) w' ∧ OutX t (t + 2) w w' ∧ w'.2 = w.2) := by
  simp only [sh_X6_drawMore, ok_bind, ok_some]
  refine ok_for n (fun i st => ∃ w', st = (drZ z i, nI i, w') ∧ SuAt t (drL z L i) w' ∧ OutX t (t + 2) w w' ∧ w'.2 = w.2) ⟨w, rfl, h, OutX.refl, rfl⟩ ?_ ?_ (by omega)
  · rintro i _ hi ⟨w1, rfl, e1, e2, e3⟩
    have hni : ¬ n ≤ i := by omega
    simp (disch := omega) only [sh_X6_drawMore_s5, ile, hni, if_false, ok_letv, ok_bind, lpc_eq]
    refine (xApp (Sf_drL hS z i) (lpc_lt _) e1).mono fun r hr => ?_
    simp only [ok_letv, ok_some, inl_ex, nI_add]
    exact ⟨r.2, rfl, hr.2.1, e2.trans hr.2.2.1, hr.2.2.2.trans e3⟩
  · rintro _ ⟨w1, rfl, e1, e2, e3⟩
    simp only [sh_X6_drawMore_s5, show (nI n ≤ nI n) = True from eq_true (Int32.le_refl _), if_true, ok_some, inr_ex]
    exact ⟨e1, e2, e3⟩
/-! copying -/
theorem ok_cp {a b n : Nat} {w : WX} {P : WX → Prop} (hn : n < 1000) (h : ∀ w' : WX, (∀ q, q ≠ b → w'.1 q = w.1 q) → (∀ j, j < n → w'.1 b j = w.1 a j) → w'.2 = w.2 → P w') : Ok (cpX n n a (nI 0) b (nI 0) (nI n) w) P := by
  unfold cpX
  rw [ok_grd, ok_some]
  refine ⟨⟨⟨by decide, by decide, ?_⟩, ?_, ?_⟩, ?_⟩
  · rw [show (nI n < 0) = False from ilt0 (by omega)]; exact not_false
  · rw [iclamp (by omega), iclamp (by omega)]; omega
  · rw [iclamp (by omega), iclamp (by omega)]; omega
  · refine h _ (fun q hq => by simp [hq]) (fun j hj => ?_) rfl
    simp only [if_true]
    rw [iclamp (by omega), iclamp (by omega), pk_cpy_in (by omega) (by omega), Nat.zero_add, Nat.sub_zero]
theorem xCop {t u : Nat} {L : List Nat} {w : WX} (hS : Sf L) (g : SuAt u L w) (htu : t + 2 ≤ u ∨ u + 2 ≤ t) : Ok (sh_X6_copyFrom t u w) (fun w' => SuAt t L w' ∧ OutX t (t + 2) w w' ∧ w'.2 = w.2) := by
  obtain ⟨⟨h1, h2⟩, h3⟩ := g
  have hl := hS.1
  unfold sh_X6_copyFrom
  refine ok_pX fun w1 f1 f2 f3 f4 => ok_pX fun w2 g1 g2 g3 g4 => ?_
  simp only [ok_bind, ok_some]
  refine ok_cp (by omega) fun w3 d1 d2 d3 => ⟨⟨⟨?_, ?_⟩, ?_⟩, ((OutX.refl.put (by omega) f1).put (by omega) g1).put (by omega) d1, by rw [d3, g4, f4]⟩
  · rw [d1 _ (by omega), g2 _ (by omega), f3, h1]
  · rw [d1 _ (by omega), g3, f1 _ (by omega), h2]
  · intro i hi
    rw [d2 _ (by omega), g1 _ (by omega), f1 _ (by omega)]
    exact h3 i hi
