/-! parts of a surface: what both find -/
def zB (b : Bool) : Int32 := if b = true then nI 1 else nI 0
theorem zB_or (b : Bool) : zB b = nI 0 ∨ zB b = nI 1 := by cases b; exact Or.inl rfl; exact Or.inr rfl
theorem zB_0 (b : Bool) : (zB b = 0) = (b = false) := by cases b <;> simp [zB] <;> decide
theorem zB_f : zB false = nI 0 := rfl
theorem zB_t : zB true = nI 1 := rfl
theorem zB_or2 : ∀ a b : Bool, zB a ||| zB b = zB (a || b) := by decide
def fup {α : Type} (f : Nat → α) (i : Nat) (v : α) : Nat → α := fun j => if j = i then v else f j
theorem fup_s {α : Type} {f : Nat → α} {i : Nat} {v : α} : fup f i v i = v := by simp [fup]
theorem fup_n {α : Type} {f : Nat → α} {i j : Nat} {v : α} (h : j ≠ i) : fup f i v j = f j := by simp [fup, h]
/-- number of parts begun, of circles; euler numbers, onesidedness, joined to another; part of a circle -/
abbrev PT : Type := Nat × Nat × (Nat → Int32) × (Nat → Bool) × (Nat → Bool) × (Nat → Nat)
def pst (p : Nat) (s : PT) : PT := match s with
  | (n, c, e, o, g, q) => match p with
    | 0 => (n + 1, c + 1, fup e n (nI 0 + sEULER 0), fup o n false, fup g n false, fup q c n)
    | 1 => if q (c - 2) = q (c - 1) then (n, c - 1, fup e (q (c - 1)) (e (q (c - 1)) + sEULER 1), o, g, q) else (n, c - 1, fup e (min (q (c - 2)) (q (c - 1))) (e (min (q (c - 2)) (q (c - 1))) + e (max (q (c - 2)) (q (c - 1))) + sEULER 1), fup o (min (q (c - 2)) (q (c - 1))) (o (min (q (c - 2)) (q (c - 1))) || o (max (q (c - 2)) (q (c - 1)))), fup g (max (q (c - 2)) (q (c - 1))) true, fun i => if q i = max (q (c - 2)) (q (c - 1)) then min (q (c - 2)) (q (c - 1)) else q i)
    | 2 => (n, c + 1, fup e (q (c - 1)) (e (q (c - 1)) + sEULER 2), o, g, fup q c (q (c - 1)))
    | 3 => (n, c - 1, fup e (q (c - 1)) (e (q (c - 1)) + sEULER 3), o, g, q)
    | 4 => (n, c, e, o, g, fup (fup q (c - 1) (q (c - 2))) (c - 2) (q (c - 1)))
    | 5 => (n, c, fup e (q (c - 1)) (e (q (c - 1)) + sEULER 5), o, g, q)
    | _ => (n, c, fup e (q (c - 1)) (e (q (c - 1)) + sEULER 6), fup o (q (c - 1)) true, g, q)
def pfo (L : List Nat) : Nat → PT
  | 0 => (0, 0, fun _ => 0, fun _ => false, fun _ => false, fun _ => 0)
  | i + 1 => pst (L.getD i 0) (pfo L i)
/-- what always holds of them -/
def PI (s : PT) : Prop := s.2.1 ≤ 3 ∧ ∀ i, i < s.2.1 → s.2.2.2.2.2 i < s.1 ∧ s.2.2.2.2.1 (s.2.2.2.2.2 i) = false
theorem pst_c {p c' : Nat} {s : PT} (h : bh s.2.1 p = some c') : (pst p s).2.1 = c' ∧ (pst p s).1 ≤ s.1 + 1 ∧ s.1 ≤ (pst p s).1 := by
  obtain ⟨n, c, e, o, g, q⟩ := s
  simp only at h
  rcases Nat.lt_or_ge p 7 with hp | hp
  · rcases p7 hp with rfl | rfl | rfl | rfl | rfl | rfl | rfl <;> simp only [bh] at h <;> split at h <;> first | (cases h; done) | skip
    all_goals obtain rfl := Option.some.inj h
    all_goals simp only [pst]
    all_goals try split
    all_goals exact ⟨by first | rfl | trivial, by first | exact Nat.le_refl _ | exact Nat.le_succ _, by first | exact Nat.le_refl _ | exact Nat.le_succ _⟩
  · exfalso
    match p, hp with
    | p + 7, _ => cases h
theorem pst_PI {p c' : Nat} {s : PT} (hI : PI s) (h : bh s.2.1 p = some c') : PI (pst p s) := by
  have hc := pst_c h
  refine ⟨by rw [hc.1]; exact (bh_le hI.1 h).1, ?_⟩
  rw [hc.1]
  obtain ⟨n, c, e, o, g, q⟩ := s
  obtain ⟨h3, hI⟩ := hI
  simp only at h hI
  rcases Nat.lt_or_ge p 7 with hp | hp
  · rcases p7 hp with rfl | rfl | rfl | rfl | rfl | rfl | rfl <;> simp only [bh] at h <;> split at h <;> first | (cases h; done) | skip
    all_goals
      obtain rfl := Option.some.inj h
      intro i hi
    · simp only [pst]
      by_cases e1 : i = c
      · subst e1; rw [fup_s, fup_s]; exact ⟨by omega, rfl⟩
      · have := hI i (by omega)
        rw [fup_n e1, fup_n (by omega)]
        exact ⟨by omega, this.2⟩
    · have ha := hI (c - 2) (by omega)
      have hb := hI (c - 1) (by omega)
      have hi' := hI i (by omega)
      simp only [pst]
      split
      · exact hi'
      · rename_i e1
        simp only []
        by_cases e2 : q i = max (q (c - 2)) (q (c - 1))
        · rw [if_pos e2, fup_n (by omega)]
          rcases Nat.le_total (q (c - 2)) (q (c - 1)) with e3 | e3
          · rw [Nat.min_eq_left e3]; exact ha
          · rw [Nat.min_eq_right e3]; exact hb
        · rw [if_neg e2, fup_n e2]
          exact hi'
    · simp only [pst]
      by_cases e1 : i = c
      · subst e1; rw [fup_s]; exact hI _ (by omega)
      · rw [fup_n e1]; exact hI i (by omega)
    · exact hI i (by omega)
    · simp only [pst]
      by_cases e1 : i = c - 2
      · subst e1; rw [fup_s]; exact hI _ (by omega)
      · by_cases e2 : i = c - 1
        · subst e2; rw [fup_n e1, fup_s]; exact hI _ (by omega)
        · rw [fup_n e1, fup_n e2]; exact hI i (by omega)
    · exact hI i (by omega)
    · exact hI i (by omega)
  · exfalso
    match p, hp with
    | p + 7, _ => cases h
theorem pfo_c {L : List Nat} (h : Sf L) : ∀ i, i ≤ L.length → (pfo L i).2.1 = cr (L.take i) ∧ (pfo L i).1 ≤ i ∧ PI (pfo L i)
  | 0, _ => ⟨rfl, Nat.le_refl 0, Nat.zero_le _, fun i hi => absurd hi (Nat.not_lt_zero i)⟩
  | i + 1, hi => by
    have ih := pfo_c h i (by omega)
    obtain ⟨d, h1, h2⟩ := bh_take h (show i < L.length by omega)
    rw [← ih.1] at h1
    have := pst_c h1
    refine ⟨this.1.trans h2.symm, ?_, pst_PI ih.2.2 h1⟩
    show (pst (L.getD i 0) (pfo L i)).1 ≤ i + 1
    omega
/-! the class -/
def PsX (p : Nat) (s : PT) (w : WX) : Prop := (w.1 p 0 = nI s.1 ∧ w.1 p 1 = nI s.2.1) ∧ (∀ d, d < s.1 → w.1 (p + 1) d = s.2.2.1 d ∧ w.1 (p + 3) d = zB (s.2.2.2.1 d) ∧ w.1 (p + 5) d = zB (s.2.2.2.2.1 d)) ∧ ∀ i, i < s.2.1 → w.1 (p + 4) i = nI (s.2.2.2.2.2 i)
theorem xRen {p c a b : Nat} {q : Nat → Nat} {w : WX} (hc : c ≤ 3) (hq : ∀ i, i < c → q i < 1000) (ha : a < 1000) (h1 : w.1 p 1 = nI c) (h : ∀ i, i < c → w.1 (p + 4) i = nI (q i)) : Ok (sh_X2_renumber p (nI a) (nI b) w) (fun w' => (∀ i, i < c → w'.1 (p + 4) i = nI (if q i = a then b else q i)) ∧ (∀ x, x ≠ p + 4 → w'.1 x = w.1 x) ∧ w'.2 = w.2) := by
  simp only [sh_X2_renumber, ok_bind, ok_some]
  refine ok_for c (fun i st => ∃ w' : WX, st = (nI i, w') ∧ (∀ j, j < c → w'.1 (p + 4) j = nI (if j < i then (if q j = a then b else q j) else q j)) ∧ (∀ x, x ≠ p + 4 → w'.1 x = w.1 x) ∧ w'.2 = w.2) ⟨w, rfl, fun j hj => by rw [if_neg (by omega)]; exact h j hj, fun _ _ => rfl, rfl⟩ ?_ ?_ (by omega)
  · rintro i _ hi ⟨w1, rfl, e1, e2, e3⟩
    have hni : ¬ c ≤ i := by omega
    have v1 : w1.1 p 1 = nI c := by rw [e2 _ (by omega)]; exact h1
    have v2 : w1.1 (p + 4) i = nI (q i) := by rw [e1 i hi, if_neg (by omega)]
    have hqi := hq i hi
    simp (disch := omega) only [sh_X2_renumber_s2, v1, ile, hni, if_false, ldS_ok (show i < 3 by omega), v2, bsome, ieq]
    by_cases z : q i = a
    · refine okt z ?_
      rw [ok_bind]
      refine ok_stX (by omega) (by omega) fun w2 f1 f2 f3 f4 => ?_
      simp only [ok_letv, ok_some, inl_ex, nI_add]
      refine ⟨w2, rfl, fun j hj => ?_, fun x hx => (f1 x hx).trans (e2 x hx), f4.trans e3⟩
      by_cases y : j = i
      · subst y; rw [f3, if_pos (by omega), if_pos z]
      · rw [f2 j y, e1 j hj]
        congr 1
        by_cases y2 : j < i
        · rw [if_pos y2, if_pos (show j < i + 1 by omega)]
        · rw [if_neg y2, if_neg (show ¬ j < i + 1 by omega)]
    · refine okf z ?_
      simp only [ok_letv, ok_some, inl_ex, nI_add]
      refine ⟨w1, rfl, fun j hj => ?_, e2, e3⟩
      rw [e1 j hj]
      congr 1
      by_cases y2 : j < i
      · rw [if_pos y2, if_pos (show j < i + 1 by omega)]
      · by_cases y : j = i
        · subst y; rw [if_neg y2, if_pos (by omega), if_neg z]
        · rw [if_neg y2, if_neg (show ¬ j < i + 1 by omega)]
  · rintro _ ⟨w1, rfl, e1, e2, e3⟩
    have v1 : w1.1 p 1 = nI c := by rw [e2 _ (by omega)]; exact h1
    simp (disch := omega) only [sh_X2_renumber_s2, v1, ile, Nat.le_refl, if_true, ok_some, inr_ex]
    exact ⟨fun j hj => by rw [e1 j hj, if_pos hj], e2, e3⟩
theorem xEul : ∀ p, p < 7 → tbl7 sEULER (nI p) = some (sEULER p) := by decide +kernel
theorem xAdI : ∀ p, p < 7 → ∀ c, c < 4 → (bh c p).isSome = true → tbl7 sADDS (nI p) = some (nI ((bh c p).getD 0) - nI c) := by decide +kernel
/-- the end of a step: the euler number of the last circle's part -/
theorem xPost {t p n c c' x : Nat} {e : Nat → Int32} {o g : Nat → Bool} {q : Nat → Nat} {w : WX} (hp : p < 7) (hn : n ≤ 24) (hc : c ≤ 3) (hb : bh c p = some c') (hx : x < n) (h01 : w.1 t 0 = nI n ∧ w.1 t 1 = nI c) (hd : ∀ d, d < n → w.1 (t + 1) d = e d ∧ w.1 (t + 3) d = zB (o d) ∧ w.1 (t + 5) d = zB (g d)) (hl : w.1 (t + 4) (max c c' - 1) = nI x) (hq : ∀ i, i < c' → w.1 (t + 4) i = nI (q i)) : Ok (sh_X2_step_j142 t (nI p) w) (fun w' => PsX t (n, c', fup e x (e x + sEULER p), o, g, q) w' ∧ OutX t (t + 7) w w' ∧ w'.2 = w.2) := by
  have hc' := (bh_le hc hb).1
  have hm : 1 ≤ max c c' := by
    rcases p7 hp with rfl | rfl | rfl | rfl | rfl | rfl | rfl <;> simp only [bh] at hb <;> split at hb <;> first | (cases hb; done) | skip
    all_goals
      obtain rfl := Option.some.inj hb
      omega
  have hv := xAdI p hp c (by omega) (by rw [hb]; rfl)
  rw [hb] at hv
  have hs : nI c + (nI ((some c').getD 0) - nI c) = nI c' := by
    show nI c + (nI c' - nI c) = nI c'
    rw [Int32.add_comm, Int32.sub_add_cancel]
  have hi : mxI (nI c) (nI c') - nI 1 = nI (max c c' - 1) := by rw [mxI_n (by omega) (by omega), isub hm]
  simp (disch := omega) only [sh_X2_step_j142, hv, bsome, ok_letv, h01.2, hs, hi, ldS_ok (show max c c' - 1 < 3 by omega), hl, ldS_ok (show x < 24 by omega), (hd x hx).1, xEul p hp, ok_bind]
  refine ok_stX (by omega) (by omega) fun w1 f1 f2 f3 f4 => ok_pX fun w2 g1 g2 g3 g4 => ?_
  rw [ok_some]
  refine ⟨⟨⟨?_, ?_⟩, fun d hdn => ⟨?_, ?_, ?_⟩, fun i hi => ?_⟩, (OutX.refl.put (by omega) f1).put (by omega) g1, by rw [g4, f4]⟩
  · rw [g2 _ (by omega), f1 _ (by omega)]; exact h01.1
  · rw [g3, f1 _ (by omega), h01.2, hs]
  · rw [g1 _ (by omega)]
    by_cases z : d = x
    · subst z; rw [f3]; exact fup_s.symm
    · rw [f2 d z, (hd d hdn).1]; exact (fup_n z).symm
  · rw [g1 _ (by omega), f1 _ (by omega)]; exact (hd d hdn).2.1
  · rw [g1 _ (by omega), f1 _ (by omega)]; exact (hd d hdn).2.2
  · rw [g1 _ (by omega), f1 _ (by omega)]; exact hq i hi
theorem xJoin {t n c a b : Nat} {e : Nat → Int32} {o g : Nat → Bool} {q : Nat → Nat} {w : WX} (hn : n ≤ 24) (hc : c ≤ 3) (hab : ¬ a = b) (ha : a < n) (hb : b < n) (hq : ∀ i, i < c → q i < n) (h : PsX t (n, c, e, o, g, q) w) : Ok (sh_X2_join t (nI a) (nI b) w) (fun w' => PsX t (n, c, fup e (min a b) (e (min a b) + e (max a b)), fup o (min a b) (o (min a b) || o (max a b)), fup g (max a b) true, fun i => if q i = max a b then min a b else q i) w' ∧ OutX t (t + 7) w w' ∧ w'.2 = w.2) := by
  obtain ⟨⟨h1, h2⟩, h3, h4⟩ := h
  simp only at h1 h2 h3 h4
  obtain ⟨m, hm⟩ : ∃ m, m = min a b := ⟨_, rfl⟩
  obtain ⟨M, hM⟩ : ∃ M, M = max a b := ⟨_, rfl⟩
  unfold sh_X2_join
  refine okf (by rw [ieq (by omega) (by omega)]; exact hab) ?_
  rw [mnI_n (by omega) (by omega), mxI_n (by omega) (by omega), ← hm, ← hM, ok_letv, ok_letv]
  refine okb (ldS_ok (show m < 24 by omega) (by omega)) (okb (ldS_ok (show M < 24 by omega) (by omega)) ?_)
  rw [(h3 m (by omega)).1, (h3 M (by omega)).1, ok_bind]
  refine ok_stX (by omega) (by omega) fun w1 f1 f2 f3 f4 => ?_
  have key : ∀ v : Int32, v = zB (o m || o M) → Ok (sh_X2_join_j64 t (nI m) (nI M) (t + 3) (nI m) v w1) (fun w' => PsX t (n, c, fup e m (e m + e M), fup o m (o m || o M), fup g M true, fun i => if q i = M then m else q i) w' ∧ OutX t (t + 7) w w' ∧ w'.2 = w.2) := by
    rintro v rfl
    simp only [sh_X2_join_j64, ok_grd, ok_bind]
    refine ⟨zB_or _, ?_⟩
    refine ok_stX (by omega) (by omega) fun w2 g1 g2 g3 g4 => ?_
    refine ok_stX (by omega) (by omega) fun w3 d1 d2 d3 d4 => ?_
    refine (xRen (c := c) (q := q) hc (fun i hi => by have := hq i hi; omega) (by omega) (by rw [d1 _ (by omega), g1 _ (by omega), f1 _ (by omega)]; exact h2) (fun i hi => by rw [d1 _ (by omega), g1 _ (by omega), f1 _ (by omega)]; exact h4 i hi)).mono fun w4 k => ?_
    obtain ⟨k1, k2, k3⟩ := k
    rw [ok_some]
    refine ⟨⟨⟨?_, ?_⟩, fun d hdn => ⟨?_, ?_, ?_⟩, fun i hi => k1 i hi⟩, fun x hx => by rw [k2 _ (by omega), d1 _ (by omega), g1 _ (by omega), f1 _ (by omega)], by rw [k3, d4, g4, f4]⟩
    · rw [k2 _ (by omega), d1 _ (by omega), g1 _ (by omega), f1 _ (by omega)]; exact h1
    · rw [k2 _ (by omega), d1 _ (by omega), g1 _ (by omega), f1 _ (by omega)]; exact h2
    · rw [k2 _ (by omega), d1 _ (by omega), g1 _ (by omega)]
      by_cases z : d = m
      · subst z; rw [f3]; exact fup_s.symm
      · rw [f2 d z, (h3 d hdn).1]; exact (fup_n z).symm
    · rw [k2 _ (by omega), d1 _ (by omega)]
      by_cases z : d = m
      · subst z; rw [g3]; exact congrArg zB fup_s.symm
      · rw [g2 d z, f1 _ (by omega), (h3 d hdn).2.1]; exact congrArg zB (fup_n z).symm
    · rw [k2 _ (by omega)]
      by_cases z : d = M
      · subst z; rw [d3]; exact congrArg zB (fup_s (f := g) (v := true)).symm
      · rw [d2 d z, g1 _ (by omega), f1 _ (by omega), (h3 d hdn).2.2]; exact congrArg zB (fup_n z).symm
  have v1 : w1.1 (t + 3) m = zB (o m) := by rw [f1 _ (by omega)]; exact (h3 m (by omega)).2.1
  have v2 : w1.1 (t + 3) M = zB (o M) := by rw [f1 _ (by omega)]; exact (h3 M (by omega)).2.1
  refine okb (ldS_ok (show m < 24 by omega) (by omega)) ?_
  rw [v1]
  by_cases hom : o m = false
  · refine okt (by rw [zB_0]; exact hom) (okb (ldS_ok (show M < 24 by omega) (by omega)) ?_)
    rw [v2]
    by_cases hoM : o M = false
    · exact okt (by rw [zB_0]; exact hoM) (key (nI 0) (by rw [hom, hoM, Bool.or_self]; exact zB_f.symm))
    · exact okf (by rw [zB_0]; exact hoM) (key (nI 1) (by rw [hom, Bool.false_or, (Bool.not_eq_false _).mp hoM]; exact zB_t.symm))
  · exact okf (by rw [zB_0]; exact hom) (key (nI 1) (by rw [(Bool.not_eq_false _).mp hom, Bool.true_or]; exact zB_t.symm))
