/-! parts: the class's steps and its whole search -/
theorem fup_fup {α : Type} {f : Nat → α} {i : Nat} {u v : α} : fup (fup f i u) i v = fup f i v := by
  funext j
  unfold fup
  split <;> rfl
theorem fup_id {α : Type} {f : Nat → α} {i : Nat} : fup f i (f i) = f := by
  funext j
  unfold fup
  split
  · rename_i h; rw [h]
  · rfl
theorem xStep {t p c' : Nat} {s : PT} {w : WX} (hp : p < 7) (hI : PI s) (hn : s.1 < 24) (hb : bh s.2.1 p = some c') (h : PsX t s w) : Ok (sh_X2_step t (nI p) w) (fun w' => PsX t (pst p s) w' ∧ OutX t (t + 7) w w' ∧ w'.2 = w.2) := by
  obtain ⟨n, c, e, o, g, q⟩ := s
  obtain ⟨⟨h0, h1⟩, hd, hq⟩ := id h
  obtain ⟨hc, hI⟩ := hI
  simp only at h0 h1 hd hq hc hI hn hb
  have hcan := xCan p hp c (by omega)
  rw [hb] at hcan
  unfold sh_X2_step
  rw [h1]
  refine okb hcan (okf (by rw [if_pos (show (some c').isSome = true from rfl)]; decide) ?_)
  rcases p7 hp with rfl | rfl | rfl | rfl | rfl | rfl | rfl
  · -- a new part
    obtain rfl : c' = c + 1 := by simp only [bh] at hb; split at hb; exact (Option.some.inj hb).symm; cases hb
    have hc2 : c < 3 := by have := (bh_le hc hb).1; omega
    refine okt rfl ?_
    rw [ok_bind]
    unfold sh_X2_begin
    rw [h0]
    refine okt (by rw [ilt (by omega) (by omega)]; exact hn) ?_
    rw [ok_bind]
    refine ok_stX hn (by omega) fun w1 f1 f2 f3 f4 => ?_
    rw [ok_bind, show w1.1 t 0 = nI n by rw [f1 _ (by omega)]; exact h0]
    refine ok_stX hn (by omega) fun w2 g1 g2 g3 g4 => ?_
    rw [ok_bind, show w2.1 t 0 = nI n by rw [g1 _ (by omega), f1 _ (by omega)]; exact h0]
    refine ok_stX hn (by omega) fun w3 d1 d2 d3 d4 => ?_
    rw [ok_bind, show w3.1 t 0 = nI n by rw [d1 _ (by omega), g1 _ (by omega), f1 _ (by omega)]; exact h0, show w3.1 t 1 = nI c by rw [d1 _ (by omega), g1 _ (by omega), f1 _ (by omega)]; exact h1]
    refine ok_stX hc2 (by omega) fun w4 k1 k2 k3 k4 => ?_
    rw [show w4.1 t 0 = nI n by rw [k1 _ (by omega), d1 _ (by omega), g1 _ (by omega), f1 _ (by omega)]; exact h0, nI_add]
    refine ok_pX fun w5 m1 m2 m3 m4 => ?_
    rw [ok_some]
    refine (xPost (n := n + 1) (c := c) (x := n) (e := fup e n (nI 0)) (o := fup o n false) (g := fup g n false) (q := fup q c n) (by omega) (by omega) hc hb (by omega) ⟨m3, ?_⟩ (fun d hdn => ⟨?_, ?_, ?_⟩) ?_ (fun i hi => ?_)).mono fun w6 h6 => ?_
    · rw [m2 _ (by omega), k1 _ (by omega), d1 _ (by omega), g1 _ (by omega), f1 _ (by omega)]; exact h1
    · rw [m1 _ (by omega), k1 _ (by omega), d1 _ (by omega), g1 _ (by omega)]
      by_cases z : d = n
      · subst z; rw [f3]; exact fup_s.symm
      · rw [f2 d z, (hd d (by omega)).1]; exact (fup_n z).symm
    · rw [m1 _ (by omega), k1 _ (by omega), d1 _ (by omega)]
      by_cases z : d = n
      · subst z; rw [g3]; exact congrArg zB (fup_s (f := o) (v := false)).symm
      · rw [g2 d z, f1 _ (by omega), (hd d (by omega)).2.1]; exact congrArg zB (fup_n z).symm
    · rw [m1 _ (by omega), k1 _ (by omega)]
      by_cases z : d = n
      · subst z; rw [d3]; exact congrArg zB (fup_s (f := g) (v := false)).symm
      · rw [d2 d z, g1 _ (by omega), f1 _ (by omega), (hd d (by omega)).2.2]; exact congrArg zB (fup_n z).symm
    · rw [show max c (c + 1) - 1 = c by omega, m1 _ (by omega)]; exact k3
    · rw [m1 _ (by omega)]
      by_cases z : i = c
      · subst z; rw [k3]; exact congrArg nI fup_s.symm
      · rw [k2 i z, d1 _ (by omega), g1 _ (by omega), f1 _ (by omega), hq i (by omega)]; exact congrArg nI (fup_n z).symm
    · obtain ⟨r1, r2, r3⟩ := h6
      rw [fup_fup, fup_s] at r1
      exact ⟨r1, (((((OutX.refl.put (by omega) f1).put (by omega) g1).put (by omega) d1).put (by omega) k1).put (by omega) m1).trans r2, by rw [r3, m4, k4, d4, g4, f4]⟩
  · -- two circles joined
    obtain ⟨hc2, rfl⟩ : 2 ≤ c ∧ c' = c - 1 := by simp only [bh] at hb; split at hb; exact ⟨by assumption, (Option.some.inj hb).symm⟩; cases hb
    have ha := hI (c - 2) (by omega)
    have hb' := hI (c - 1) (by omega)
    refine okf (by decide) (okt rfl ?_)
    rw [isub hc2, isub (by omega)]
    refine okb (ldS_ok (by omega) (by omega)) (okb (ldS_ok (by omega) (by omega)) ?_)
    rw [hq _ (by omega), hq _ (by omega), ok_bind]
    have hmx : max c (c - 1) - 1 = c - 1 := by omega
    by_cases z : q (c - 2) = q (c - 1)
    · unfold sh_X2_join
      refine okt (by rw [z]) ?_
      rw [ok_some]
      refine (xPost (x := q (c - 1)) (q := q) (by omega) (by omega) hc hb hb'.1 ⟨h0, h1⟩ hd (by rw [hmx]; exact hq _ (by omega)) (fun i hi => hq i (by omega))).mono fun w6 h6 => ?_
      simp only [pst]
      rw [if_pos z]
      exact h6
    · refine (xJoin (by omega) hc z ha.1 hb'.1 (fun i hi => (hI i hi).1) h).mono fun w1 h1' => ?_
      obtain ⟨⟨⟨r0, r1⟩, r2, r3⟩, r4, r5⟩ := h1'
      refine (xPost (x := min (q (c - 2)) (q (c - 1))) (e := fup e (min (q (c - 2)) (q (c - 1))) (e (min (q (c - 2)) (q (c - 1))) + e (max (q (c - 2)) (q (c - 1))))) (o := fup o (min (q (c - 2)) (q (c - 1))) (o (min (q (c - 2)) (q (c - 1))) || o (max (q (c - 2)) (q (c - 1))))) (g := fup g (max (q (c - 2)) (q (c - 1))) true) (q := fun i => if q i = max (q (c - 2)) (q (c - 1)) then min (q (c - 2)) (q (c - 1)) else q i) (by omega) (by omega) hc hb (by omega) ⟨r0, r1⟩ r2 (by
        rw [hmx, r3 _ (by simp only []; omega)]
        simp only []
        congr 1
        split <;> omega) (fun i hi => r3 i (by simp only []; omega))).mono fun w6 h6 => ?_
      simp only [pst]
      rw [if_neg z]
      rw [fup_fup, fup_s] at h6
      exact ⟨h6.1, r4.trans h6.2.1, h6.2.2.trans r5⟩
  · -- a circle split
    obtain ⟨hc2, rfl⟩ : 1 ≤ c ∧ c' = c + 1 := by simp only [bh] at hb; split at hb; exact ⟨by omega, (Option.some.inj hb).symm⟩; cases hb
    have hc3 : c < 3 := by have := (bh_le hc hb).1; omega
    have hb' := hI (c - 1) (by omega)
    refine okf (by decide) (okf (by decide) (okt rfl ?_))
    rw [isub hc2]
    refine okb (ldS_ok (by omega) (by omega)) ?_
    rw [hq _ (by omega), ok_bind]
    refine ok_stX hc3 (by omega) fun w1 f1 f2 f3 f4 => ?_
    refine (xPost (x := q (c - 1)) (q := fup q c (q (c - 1))) (e := e) (o := o) (g := g) (by omega) (by omega) hc hb hb'.1 ⟨by rw [f1 _ (by omega)]; exact h0, by rw [f1 _ (by omega)]; exact h1⟩ (fun d hdn => ?_) ?_ (fun i hi => ?_)).mono fun w6 h6 => ?_
    · rw [f1 _ (by omega), f1 _ (by omega), f1 _ (by omega)]; exact hd d hdn
    · rw [show max c (c + 1) - 1 = c by omega]; exact f3
    · by_cases z : i = c
      · subst z; rw [f3]; exact congrArg nI fup_s.symm
      · rw [f2 i z, hq i (by omega)]; exact congrArg nI (fup_n z).symm
    · exact ⟨h6.1, (OutX.refl.put (by omega) f1).trans h6.2.1, by rw [h6.2.2, f4]⟩
  · -- closed by a disc
    obtain ⟨hc2, rfl⟩ : 1 ≤ c ∧ c' = c - 1 := by simp only [bh] at hb; split at hb; exact ⟨by omega, (Option.some.inj hb).symm⟩; cases hb
    have hb' := hI (c - 1) (by omega)
    refine okf (by decide) (okf (by decide) (okf (by decide) (okt rfl ?_)))
    refine (xPost (x := q (c - 1)) (q := q) (e := e) (o := o) (g := g) (by omega) (by omega) hc hb hb'.1 ⟨h0, h1⟩ hd (by rw [show max c (c - 1) - 1 = c - 1 by omega]; exact hq _ (by omega)) (fun i hi => hq i (by omega))).mono fun w6 h6 => h6
  · -- exchanged
    obtain ⟨hc2, rfl⟩ : 2 ≤ c ∧ c' = c := by simp only [bh] at hb; split at hb; exact ⟨by omega, (Option.some.inj hb).symm⟩; cases hb
    have ha := hI (c' - 2) (by omega)
    refine okf (by decide) (okf (by decide) (okf (by decide) (okf (by decide) (okt rfl ?_))))
    rw [ok_bind]
    unfold sh_X2_exchangeLast
    rw [h1, isub hc2, isub (show 1 ≤ c' by omega)]
    refine okb (ldS_ok (by omega) (by omega)) (okb (ldS_ok (by omega) (by omega)) ?_)
    rw [hq _ (by omega), hq _ (by omega), ok_bind]
    refine ok_stX (by omega) (by omega) fun w1 f1 f2 f3 f4 => ?_
    rw [show w1.1 t 1 = nI c' by rw [f1 _ (by omega)]; exact h1, isub hc2, ok_bind]
    refine ok_stX (by omega) (by omega) fun w2 g1 g2 g3 g4 => ?_
    rw [ok_some]
    refine (xPost (x := q (c' - 2)) (q := fup (fup q (c' - 1) (q (c' - 2))) (c' - 2) (q (c' - 1))) (e := e) (o := o) (g := g) (by omega) (by omega) hc hb ha.1 ⟨by rw [g1 _ (by omega), f1 _ (by omega)]; exact h0, by rw [g1 _ (by omega), f1 _ (by omega)]; exact h1⟩ (fun d hdn => ?_) ?_ (fun i hi => ?_)).mono fun w6 h6 => ?_
    · rw [g1 _ (by omega), g1 _ (by omega), g1 _ (by omega), f1 _ (by omega), f1 _ (by omega), f1 _ (by omega)]; exact hd d hdn
    · rw [show max c' c' - 1 = c' - 1 by omega, g2 _ (by omega)]; exact f3
    · by_cases z : i = c' - 2
      · subst z; rw [g3]; exact congrArg nI fup_s.symm
      · rw [g2 i z]
        by_cases z2 : i = c' - 1
        · subst z2; rw [f3]; exact congrArg nI (by rw [fup_n z, fup_s])
        · rw [f2 i z2, hq i (by omega)]; exact congrArg nI (by rw [fup_n z, fup_n z2])
    · obtain ⟨r1, r2, r3⟩ := h6
      have e0 : sEULER 4 = 0 := rfl
      rw [e0, Int32.add_zero, fup_id] at r1
      exact ⟨r1, ((OutX.refl.put (by omega) f1).put (by omega) g1).trans r2, by rw [r3, g4, f4]⟩
  · -- a handle
    obtain ⟨hc2, rfl⟩ : 1 ≤ c ∧ c' = c := by simp only [bh] at hb; split at hb; exact ⟨by omega, (Option.some.inj hb).symm⟩; cases hb
    have hb' := hI (c' - 1) (by omega)
    refine okf (by decide) (okf (by decide) (okf (by decide) (okf (by decide) (okf (by decide) (okt rfl ?_)))))
    refine (xPost (x := q (c' - 1)) (q := q) (e := e) (o := o) (g := g) (by omega) (by omega) hc hb hb'.1 ⟨h0, h1⟩ hd (by rw [show max c' c' - 1 = c' - 1 by omega]; exact hq _ (by omega)) hq).mono fun w6 h6 => h6
  · -- a cross
    obtain ⟨hc2, rfl⟩ : 1 ≤ c ∧ c' = c := by simp only [bh] at hb; split at hb; exact ⟨by omega, (Option.some.inj hb).symm⟩; cases hb
    have hb' := hI (c' - 1) (by omega)
    refine okf (by decide) (okf (by decide) (okf (by decide) (okf (by decide) (okf (by decide) (okf (by decide) (okt rfl ?_))))))
    rw [isub hc2]
    refine okb (ldS_ok (by omega) (by omega)) ?_
    rw [hq _ (by omega), ok_bind]
    have hx := hb'.1
    refine ok_stX (show q (c' - 1) < 24 by omega) (by omega) fun w1 f1 f2 f3 f4 => ?_
    refine (xPost (x := q (c' - 1)) (q := q) (e := e) (o := fup o (q (c' - 1)) true) (g := g) (by omega) (by omega) hc hb hb'.1 ⟨by rw [f1 _ (by omega)]; exact h0, by rw [f1 _ (by omega)]; exact h1⟩ (fun d hdn => ⟨?_, ?_, ?_⟩) ?_ (fun i hi => ?_)).mono fun w6 h6 => ?_
    · rw [f1 _ (by omega)]; exact (hd d hdn).1
    · by_cases z : d = q (c' - 1)
      · subst z; rw [f3]; exact congrArg zB (fup_s (f := o) (v := true)).symm
      · rw [f2 d z, (hd d hdn).2.1]; exact congrArg zB (fup_n z).symm
    · rw [f1 _ (by omega)]; exact (hd d hdn).2.2
    · rw [show max c' c' - 1 = c' - 1 by omega, f1 _ (by omega)]; exact hq _ (by omega)
    · rw [f1 _ (by omega)]; exact hq i hi
    · exact ⟨h6.1, (OutX.refl.put (by omega) f1).trans h6.2.1, by rw [h6.2.2, f4]⟩
