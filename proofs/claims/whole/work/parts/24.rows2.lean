section ROWS2
variable {p : Program} {l : Launch} {e : Env} {R : Room} {s : State} {m : MethodId} {args : Array Value} {below : List Frame} {meth : Method} {c : Code} {H : Heap} {locs : List Loc} {Q : State → Prop}
variable {cc : ByteArray} {nL : Nat} {own : String} {Ts : List Cond} {rt : Option FieldType} {pc : Nat} {ls : Array Slot} {rest : List Value}
variable {G : GG} {A : Nat → Prop} {N B : Nat} {E : Nat → va_E} {X : va_W}
theorem r_irem (C : CX p s m args meth c cc nL own Ts rt) {x y : Int32} (hdg : decode cc pc = .ok (.irem, 1)) (hne : ¬ y = 0) (kk : W p l e R s m args below meth c H locs 0 0 Q (F0 m (pc + 1) ls (.int (remI x y) :: rest))) : W p l e R s m args below meth c H locs 0 0 Q (F0 m pc ls (.int y :: .int x :: rest)) := lv_irem C.1 C.2.1 hdg hne kk
theorem r_lrem (C : CX p s m args meth c cc nL own Ts rt) {x y : Int64} (hdg : decode cc pc = .ok (.lrem, 1)) (hne : ¬ y = 0) (kk : W p l e R s m args below meth c H locs 0 0 Q (F0 m (pc + 1) ls (.long (remL x y) :: rest))) : W p l e R s m args below meth c H locs 0 0 Q (F0 m pc ls (.long y :: .long x :: rest)) := lv_lrem C.1 C.2.1 hdg hne kk
theorem r_iushr (C : CX p s m args meth c cc nL own Ts rt) {x y : Int32} (hdg : decode cc pc = .ok (.iushr, 1)) (kk : W p l e R s m args below meth c H locs 0 0 Q (F0 m (pc + 1) ls (.int (ushrI x y) :: rest))) : W p l e R s m args below meth c H locs 0 0 Q (F0 m pc ls (.int y :: .int x :: rest)) := lv_iushr C.1 C.2.1 hdg rfl kk
theorem r_rvN {x : Nat} (h : x = 999) (k : W p l e R s m args below meth c H locs 0 0 Q (F0 m pc ls (.null :: rest))) : W p l e R s m args below meth c H locs 0 0 Q (F0 m pc ls (rv B x :: rest)) := by rw [h]; exact k
theorem r_rvR {x : Nat} (h : ¬ x = 999) (k : W p l e R s m args below meth c H locs 0 0 Q (F0 m pc ls (.ref (B + x) :: rest))) : W p l e R s m args below meth c H locs 0 0 Q (F0 m pc ls (rv B x :: rest)) := by rw [rv_ref h]; exact k
theorem r_max (C : CX p s m args meth c cc nL own Ts rt) (hsz : ls.size = nL) {index : Nat} (hlink : Cond.methodLink own index Lib.Math.max.name ∈ Ts) (hstat : Cond.static Lib.Math.max.name ∈ Ts) (hini : Cond.initialized "java/lang/Math" ∈ Ts) (hcode : Cond.code Lib.Math.max.name Lib.Math.max.code 2 (some .int) ∈ Ts) (hframes : 1 ≤ R.frames) (hlocals : (rest.map fun v => v.category).sum + 13 ≤ R.locals) {x y : Int32} (hdg : decode cc pc = .ok (.invokestatic index, 3))
    (kk : W p l e R s m args below meth c H locs 0 0 Q (F0 m (pc + 3) ls (.int (mxI x y) :: rest))) : W p l e R s m args below meth c H locs 0 0 Q (F0 m pc ls (.int y :: .int x :: rest)) :=
  va_mmax C.1 C.2.1 (C.2.2.1.trans hsz.symm) C.2.2.2.1 (C.2.2.2.2.1 _ hlink) (C.2.2.2.2.1 _ hstat) (C.2.2.2.2.1 _ hini) (C.2.2.2.2.1 _ hcode) hframes hlocals (Nat.zero_le _) (Nat.zero_le _) hdg kk
theorem r_min (C : CX p s m args meth c cc nL own Ts rt) (hsz : ls.size = nL) {index : Nat} (hlink : Cond.methodLink own index Lib.Math.min.name ∈ Ts) (hstat : Cond.static Lib.Math.min.name ∈ Ts) (hini : Cond.initialized "java/lang/Math" ∈ Ts) (hcode : Cond.code Lib.Math.min.name Lib.Math.min.code 2 (some .int) ∈ Ts) (hframes : 1 ≤ R.frames) (hlocals : (rest.map fun v => v.category).sum + 13 ≤ R.locals) {x y : Int32} (hdg : decode cc pc = .ok (.invokestatic index, 3))
    (kk : W p l e R s m args below meth c H locs 0 0 Q (F0 m (pc + 3) ls (.int (mnI x y) :: rest))) : W p l e R s m args below meth c H locs 0 0 Q (F0 m pc ls (.int y :: .int x :: rest)) :=
  va_mmin C.1 C.2.1 (C.2.2.1.trans hsz.symm) C.2.2.2.1 (C.2.2.2.2.1 _ hlink) (C.2.2.2.2.1 _ hstat) (C.2.2.2.2.1 _ hini) (C.2.2.2.2.1 _ hcode) hframes hlocals (Nat.zero_le _) (Nat.zero_le _) hdg kk
theorem r_copy (C : CX p s m args meth c cc nL own Ts rt) (hG : Gd s G A N B E X H locs) (hsz : ls.size = nL) {index : Nat} (hlink : Cond.methodLink own index arraycopyName ∈ Ts) (hnat : Cond.native arraycopyName ∈ Ts) (hstat : Cond.static arraycopyName ∈ Ts) (hini : Cond.initialized "java/lang/System" ∈ Ts) {c0 c1 n0 n1 : Nat} (h0 : c0 < N) (h1 : c1 < N) {f g : Nat → Int32} (hE0 : E c0 = .inl (gI G, n0, .inl f)) (hE1 : E c1 = .inl (gI G, n1, .inl g)) {sp dp n : Int32} (hc : (¬ sp < 0 ∧ ¬ dp < 0 ∧ ¬ n < 0) ∧ sp.toNatClampNeg + n.toNatClampNeg ≤ n0 ∧ dp.toNatClampNeg + n.toNatClampNeg ≤ n1)
    {E' : Nat → va_E} (hE' : va_up E c1 (.inl (gI G, n1, .inl (va_cpy f g sp.toNatClampNeg dp.toNatClampNeg n.toNatClampNeg))) = E') (hframes : 1 ≤ R.frames) (hlocals : (rest.map fun v => v.category).sum + (nativeFrameWords "java/lang/System" "arraycopy" 5 + 11) ≤ R.locals) (hdg : decode cc pc = .ok (.invokestatic index, 3))
    (kk : ∀ (H : Heap) (locs : List Loc), Gd s G A N B E' X H locs → W p l e R s m args below meth c H locs 0 0 Q (F0 m (pc + 3) ls rest)) : W p l e R s m args below meth c H locs 0 0 Q (F0 m pc ls (.int n :: .int dp :: .ref (B + c1) :: .int sp :: .ref (B + c0) :: rest)) := by
  subst hE'
  refine va_copyi C.1 C.2.1 (C.2.2.1.trans hsz.symm) C.2.2.2.1 (C.2.2.2.2.1 _ hlink) (C.2.2.2.2.1 _ hnat) (C.2.2.2.2.1 _ hstat) (C.2.2.2.2.1 _ hini) hG.1.1 hG.2.1.1 hG.2.1.2 hG.2.2 c0 c1 0 0 ((pool_get h0).trans (by rw [hE0])) ((pool_get h1).trans (by rw [hE1])) rfl rfl rfl hc.1.1 hc.1.2.1 hc.1.2.2 hc.2.1 hc.2.2 (fun i _ => rfl) hframes hlocals hdg (fun H1 locs1 hP hD hS => ?_)
  rw [pool_set h1] at hP hD
  exact kk H1 locs1 ⟨hG.1, ⟨hP, hD⟩, hS⟩
variable {y : MethodName} {bytes : ByteArray} {maxL n index : Nat} {ret : Option FieldType} {ws : List Cond} {rm : Room} {As st : List Value} {E' : Nat → va_E} {Cn host : String} {v : Value}
theorem r_callV1 (C : CX p s m args meth c cc nL own Ts rt) (hG : Gd s G A N B E X H locs) (hsz : ls.size = nL) {c0 k Nk : Nat} {T : u_T} {fs : List Value} (h0 : c0 < N) (hE : E c0 = .inr (k, fs)) (hcl : vwCl[k]? = some (Cn, T, Nk)) (hM : MetW l y ws rm G A N B E X (.ref (B + c0) :: As) (some v) E') (cw : CallW R s args own Cn index y bytes maxL ret ws rm 0 0 n) (hn : As.length = n) (hst : st = As.reverse ++ .ref (B + c0) :: rest) (hcat : (rest.map fun v => v.category).sum ≤ 8) (hdg : decode cc pc = .ok (.invokevirtual index, 3))
    (kk : ∀ (H : Heap) (locs : List Loc), Gd s G A N B E' X H locs → W p l e R s m args below meth c H locs 0 0 Q (F0 m (pc + 3) ls (v :: rest))) : W p l e R s m args below meth c H locs 0 0 Q (F0 m pc ls st) := r_callV C hG hsz h0 hE hcl hM cw hn hst hcat hdg kk
theorem r_callV0 (C : CX p s m args meth c cc nL own Ts rt) (hG : Gd s G A N B E X H locs) (hsz : ls.size = nL) {c0 k Nk : Nat} {T : u_T} {fs : List Value} (h0 : c0 < N) (hE : E c0 = .inr (k, fs)) (hcl : vwCl[k]? = some (Cn, T, Nk)) (hM : MetW l y ws rm G A N B E X (.ref (B + c0) :: As) none E') (cw : CallW R s args own Cn index y bytes maxL ret ws rm 0 0 n) (hn : As.length = n) (hst : st = As.reverse ++ .ref (B + c0) :: rest) (hcat : (rest.map fun v => v.category).sum ≤ 8) (hdg : decode cc pc = .ok (.invokevirtual index, 3))
    (kk : ∀ (H : Heap) (locs : List Loc), Gd s G A N B E' X H locs → W p l e R s m args below meth c H locs 0 0 Q (F0 m (pc + 3) ls rest)) : W p l e R s m args below meth c H locs 0 0 Q (F0 m pc ls st) := r_callV C hG hsz h0 hE hcl hM cw hn hst hcat hdg kk
theorem r_callVN1 (C : CX p s m args meth c cc nL own Ts rt) (hG : Gd s G A N B E X H locs) (hsz : ls.size = nL) {c0 k Nk : Nat} {T : u_T} {fs : List Value} (h0 : c0 < N) (hE : E c0 = .inr (k, fs)) (hcl : vwCl[k]? = some (Cn, T, Nk)) (hM : MetW l y ws rm G A N B E X (.ref (B + c0) :: As) (some v) E') (cw : va_CN R s args own index y host bytes maxL ret ws rm 0 0 n) (hi : (Cond.instanceMethod y).before args s = true) (hse : (Cond.selects Cn y y).before args s = true) (hn : As.length = n) (hst : st = As.reverse ++ .ref (B + c0) :: rest) (hcat : (rest.map fun v => v.category).sum ≤ 8) (hdg : decode cc pc = .ok (.invokevirtual index, 3))
    (kk : ∀ (H : Heap) (locs : List Loc), Gd s G A N B E' X H locs → W p l e R s m args below meth c H locs 0 0 Q (F0 m (pc + 3) ls (v :: rest))) : W p l e R s m args below meth c H locs 0 0 Q (F0 m pc ls st) := r_callVN C hG hsz h0 hE hcl hM cw hi hse hn hst hcat hdg kk
theorem r_callVN0 (C : CX p s m args meth c cc nL own Ts rt) (hG : Gd s G A N B E X H locs) (hsz : ls.size = nL) {c0 k Nk : Nat} {T : u_T} {fs : List Value} (h0 : c0 < N) (hE : E c0 = .inr (k, fs)) (hcl : vwCl[k]? = some (Cn, T, Nk)) (hM : MetW l y ws rm G A N B E X (.ref (B + c0) :: As) none E') (cw : va_CN R s args own index y host bytes maxL ret ws rm 0 0 n) (hi : (Cond.instanceMethod y).before args s = true) (hse : (Cond.selects Cn y y).before args s = true) (hn : As.length = n) (hst : st = As.reverse ++ .ref (B + c0) :: rest) (hcat : (rest.map fun v => v.category).sum ≤ 8) (hdg : decode cc pc = .ok (.invokevirtual index, 3))
    (kk : ∀ (H : Heap) (locs : List Loc), Gd s G A N B E' X H locs → W p l e R s m args below meth c H locs 0 0 Q (F0 m (pc + 3) ls rest)) : W p l e R s m args below meth c H locs 0 0 Q (F0 m pc ls st) := r_callVN C hG hsz h0 hE hcl hM cw hi hse hn hst hcat hdg kk
theorem r_callS1 (C : CX p s m args meth c cc nL own Ts rt) (hG : Gd s G A N B E X H locs) (hsz : ls.size = nL) (hM : MetW l y ws rm G A N B E X As (some v) E') (cw : CallB R s args own index y bytes maxL ret ws rm 0 0 n ∧ (Cond.static y).before args s = true) (hn : As.length = n) (hst : st = As.reverse ++ rest) (hcat : (rest.map fun v => v.category).sum ≤ 8) (hdg : decode cc pc = .ok (.invokestatic index, 3))
    (kk : ∀ (H : Heap) (locs : List Loc), Gd s G A N B E' X H locs → W p l e R s m args below meth c H locs 0 0 Q (F0 m (pc + 3) ls (v :: rest))) : W p l e R s m args below meth c H locs 0 0 Q (F0 m pc ls st) := r_callS C hG hsz hM cw hn hst hcat hdg kk
theorem r_callSN1 (C : CX p s m args meth c cc nL own Ts rt) (hG : Gd s G A N B E X H locs) (hsz : ls.size = nL) (hM : MetW l y ws rm G A N B E X As (some v) E') (cw : va_CN R s args own index y host bytes maxL ret ws rm 0 0 n) (hstt : (Cond.static y).before args s = true) (hn : As.length = n) (hst : st = As.reverse ++ rest) (hcat : (rest.map fun v => v.category).sum ≤ 8) (hdg : decode cc pc = .ok (.invokestatic index, 3))
    (kk : ∀ (H : Heap) (locs : List Loc), Gd s G A N B E' X H locs → W p l e R s m args below meth c H locs 0 0 Q (F0 m (pc + 3) ls (v :: rest))) : W p l e R s m args below meth c H locs 0 0 Q (F0 m pc ls st) := r_callSN C hG hsz hM cw hstt hn hst hcat hdg kk
theorem gd_all {cd z : Cond} (hz : z ∈ TG) : GoodIn (cd :: TG) (z :: TG) := by
  intro w h
  rcases List.mem_cons.mp h with h | h
  · subst h; exact ⟨List.mem_cons_of_mem _ hz, good_of_word (tg_good hz)⟩
  · exact ⟨List.mem_cons_of_mem _ h, good_of_word (tg_good h)⟩
theorem gd_V {cd z : Cond} {own Cn : String} {idx : Nat} {y : MethodName} (h1 : Cond.methodLink own idx y ∈ TG) (h2 : Cond.instanceMethod y ∈ TG) (h3 : Cond.selects Cn y y ∈ TG) (h4 : Cond.initialized Cn ∈ TG) (hz : z ∈ TG) : GoodIn (cd :: TG) (wsV own idx Cn y (z :: TG)) := by
  have key : ∀ w, w ∈ TG → w ∈ cd :: TG ∧ ((w.onTables && w.keeps) = true ∨ ∃ ty, w = .arrayClass ty) := fun w h => ⟨List.mem_cons_of_mem _ h, good_of_word (tg_good h)⟩
  intro w h
  rcases List.mem_append.mp h with h | h
  · simp only [List.mem_cons, List.not_mem_nil, or_false] at h
    rcases h with h | h | h | h <;> subst h
    · exact key _ h1
    · exact key _ h2
    · exact key _ h3
    · exact key _ h4
  · exact gd_all hz w h
theorem gd_S {cd z : Cond} {own : String} {idx : Nat} {y : MethodName} (h1 : Cond.methodLink own idx y ∈ TG) (h2 : Cond.static y ∈ TG) (h4 : Cond.initialized y.cls ∈ TG) (hz : z ∈ TG) : GoodIn (cd :: TG) (va_wsS own idx y (z :: TG)) := by
  have key : ∀ w, w ∈ TG → w ∈ cd :: TG ∧ ((w.onTables && w.keeps) = true ∨ ∃ ty, w = .arrayClass ty) := fun w h => ⟨List.mem_cons_of_mem _ h, good_of_word (tg_good h)⟩
  intro w h
  rcases List.mem_append.mp h with h | h
  · simp only [List.mem_cons, List.not_mem_nil, or_false] at h
    rcases h with h | h | h <;> subst h
    · exact key _ h1
    · exact key _ h2
    · exact key _ h4
  · exact gd_all hz w h
end ROWS2
theorem sw_out {x : Int32} {n : Nat} (hn : n < 2 ^ 31) (h : ∀ k, k < n → ¬ x = nI k) : x.toInt < 0 ∨ (n : Int) - 1 < x.toInt := by
  rcases Int.lt_or_le x.toInt 0 with q | q
  · exact Or.inl q
  · refine Or.inr ?_
    rcases Int.lt_or_le ((n : Int) - 1) x.toInt with q2 | q2
    · exact q2
    · exfalso
      have hk : x.toInt.toNat < n := by omega
      refine h _ hk ?_
      apply Int32.toInt_inj.mp
      rw [nI_toInt (by omega)]
      omega
theorem rfX_at {B c p q : Nat} {i : Int32} (h : inb i 4 = true) : rfX B c p q i.toNatClampNeg = some (B + (c + p + q * i.toNatClampNeg)) := by
  have h1 := vp_in_iff.mp (inb_in h)
  have h2 : i.toNatClampNeg < 4 := by
    show i.toInt.toNat < 4
    omega
  unfold rfX
  rw [if_pos h2]
theorem of_ldD {K : Nat → Nat × Nat} {c : Nat} {i : Int32} {m : Mem} {v : Int32} (h : ldD K c i m = some v) : (K c).1 = 10 ∧ inb i (K c).2 = true ∧ v = m c i.toNatClampNeg := by
  obtain ⟨h1, h2⟩ := of_grd h
  exact ⟨h1, of_ldS h2⟩
theorem of_stDX {c : Nat} {i v : Int32} {w w' : WX} (h : stDX c i v w = some w') : (KDx c).1 = 10 ∧ inb i (KDx c).2 = true ∧ w' = (mset w.1 c i.toNatClampNeg v, w.2) := by
  obtain ⟨h1, h2⟩ := of_grd h
  exact ⟨h1, of_stX h2⟩
theorem of_stDM {K : Nat → Nat × Nat} {c : Nat} {i v : Int32} {w w' : Mem} (h : stDM K c i v w = some w') : (K c).1 = 10 ∧ inb i (K c).2 = true ∧ w' = mset w c i.toNatClampNeg v := by
  obtain ⟨h1, h2⟩ := of_grd h
  exact ⟨h1, of_stM h2⟩
theorem of_cpX {n0 n1 a0 a1 : Nat} {sp dp n : Int32} {w w' : WX} (h : cpX n0 n1 a0 sp a1 dp n w = some w') : ((¬ sp < 0 ∧ ¬ dp < 0 ∧ ¬ n < 0) ∧ sp.toNatClampNeg + n.toNatClampNeg ≤ n0 ∧ dp.toNatClampNeg + n.toNatClampNeg ≤ n1) ∧ w' = ((fun c' => if c' = a1 then va_cpy (w.1 a0) (w.1 a1) sp.toNatClampNeg dp.toNatClampNeg n.toNatClampNeg else w.1 c'), w.2) := by
  obtain ⟨h1, h2⟩ := of_grd h
  exact ⟨h1, (Option.some.inj h2).symm⟩
theorem toInt_ne {x : Int32} {k : Nat} (hk : k < 2 ^ 31) (h : ¬ x = nI k) : ¬ (k : Int) = x.toInt := by
  intro e
  apply h
  apply Int32.toInt_inj.mp
  rw [nI_toInt hk]
  exact e.symm
theorem lk_out2 {x : Int32} {a b : Nat} {oa ob d : Int} (ha : a < 2 ^ 31) (hb : b < 2 ^ 31) (h1 : ¬ x = nI a) (h2 : ¬ x = nI b) : Op.lookupswitch.offset [((a : Int), oa), ((b : Int), ob)] d x.toInt = d := by
  have e1 := toInt_ne ha h1
  have e2 := toInt_ne hb h2
  simp [Op.lookupswitch.offset, List.find?, e1, e2]
theorem lk_out {x : Int32} {oa ob d : Int} (h1 : ¬ x = nI 0) (h2 : ¬ x = nI 1) : Op.lookupswitch.offset [(0, oa), (1, ob)] d x.toInt = d := lk_out2 (a := 0) (b := 1) (by decide) (by decide) h1 h2
theorem lk_outM {x : Int32} {oa ob d : Int} (h1 : ¬ x = nI 2) (h2 : ¬ x = nI 3) : Op.lookupswitch.offset [(2, oa), (3, ob)] d x.toInt = d := lk_out2 (a := 2) (b := 3) (by decide) (by decide) h1 h2
