/-! worlds that grow: how the cells are made -/
def AOs (G : GG) (U : State) : Prop := va_AO "SurfaceSums$Algebra" U ∧ va_AO "SurfaceSums$Surface" U ∧ ∃ k : Class, U.vm.classes[gR G]? = some k ∧ k.kind = .array (gI G) (.array .int)
theorem AOs.moved {G : GG} {u U : State} (hvm : u.vm.Alike U.vm) (h : AOs G u) : AOs G U := by
  obtain ⟨h1, h2, k, h3, h4⟩ := h
  obtain ⟨k', hk', he⟩ := hvm.2.2 _ _ h3
  exact ⟨h1.moved hvm, h2.moved hvm, k', hk', by rw [he]; exact h4⟩
def Gc (s : State) (G : GG) (A : Nat → Prop) (N B : Nat) (E : Nat → va_E) (X : va_W) (H : Heap) (locs : List Loc) : Prop := (Gd s G A N B E X H locs ∧ AOs G s) ∧ H.size = B + N ∧ ∀ q, B ≤ q → A q
def CPreI (G : GG) (A : Nat → Prop) (N B : Nat) (E : Nat → va_E) (X : va_W) (av : List Value) : Array Value → State → Prop := va_Pc av (fun U => (Ev G A U U.heap ∧ Wd G A N B E X U.heap) ∧ AOs G U ∧ U.heap.size = B + N ∧ ∀ q, B ≤ q → A q)
def CPostI (G : GG) (A : Nat → Prop) (N B : Nat) (E : Nat → va_E) (X : va_W) : Array Value → State → Outcome → State → Prop := fun _ st oc t => (oc = .returned none ∧ Wd G A N B E X t.heap ∧ t.heap.size = B + N) ∧ va_F A st t
def MetI (l : Launch) (y : MethodName) (ws : List Cond) (rm : Room) (G : GG) (A : Nat → Prop) (B : Nat) (X : va_W) (av : List Value) (N : Nat) (E : Nat → va_E) (N' : Nat) (E' : Nat → va_E) (mc ms : Nat) : Prop :=
  Met l y ws rm (CPreI G A N B E X av) (CPostI G A N' B E' X) mc ms A
theorem CPreI_blind {G : GG} {A : Nat → Prop} {N B : Nat} {E : Nat → va_E} {X : va_W} {av : List Value} : FrameBlind (CPreI G A N B E X av) := by
  intro a U g mk q
  obtain ⟨q1, ⟨⟨q2, q3, q4⟩, q5⟩, q6, q7⟩ := q
  exact ⟨q1, ⟨⟨va_K.moved (u := U) (U := U.calling g mk a) (Vm.Alike.refl U.vm) q2, fun w hw => nest_same (nests_all w hw) (rfl : U.vm = (U.calling g mk a).vm) (q3 w hw), q4.to (Vm.Alike.refl U.vm) (fun _ _ _ => rfl)⟩, q5⟩, AOs.moved (u := U) (U := U.calling g mk a) (Vm.Alike.refl U.vm) q6, q7⟩
theorem pool_succ {N B : Nat} {E : Nat → va_E} : pool (N + 1) B E = pool N B E ++ [(B + N, E N)] := by simp [pool, List.range_succ]
theorem pool_congr {N B : Nat} {E E' : Nat → va_E} (h : ∀ c, c < N → E c = E' c) : pool N B E = pool N B E' := by
  unfold pool
  exact List.map_congr_left fun c hc => by rw [h c (List.mem_range.mp hc)]
theorem vaP_mem {D : va_G} {cl : List vw_C} {ws ws' : va_W} {H : Heap} (h : ∀ q, q ∈ ws' → q ∈ ws) (hP : va_P D cl ws H) : va_P D cl ws' H := fun k q hk => by
  obtain ⟨i, hi⟩ := List.getElem?_of_mem (h q (List.mem_of_getElem? hk))
  exact hP i q hi
theorem vaD_nd {A : Nat → Prop} {ws : va_W} : va_D A ws ↔ (ws.map Prod.fst).Nodup ∧ ∀ q, q ∈ ws → A q.1 := by
  constructor
  · rintro ⟨h1, h2⟩
    refine ⟨List.pairwise_iff_getElem.mpr fun i j hi hj hij e => ?_, fun q hq => ?_⟩
    · rw [List.length_map] at hi hj
      rw [List.getElem_map, List.getElem_map] at e
      have := h1 i j _ _ (List.getElem?_eq_getElem hi) (List.getElem?_eq_getElem hj) e
      omega
    · obtain ⟨i, hi⟩ := List.getElem?_of_mem hq
      exact h2 i q hi
  · rintro ⟨h1, h2⟩
    refine ⟨fun i j p q hp hq e => ?_, fun k q hq => h2 q (List.mem_of_getElem? hq)⟩
    have h := List.pairwise_iff_getElem.mp h1
    obtain ⟨li, ei⟩ := List.getElem?_eq_some_iff.mp hp
    obtain ⟨lj, ej⟩ := List.getElem?_eq_some_iff.mp hq
    rcases Nat.lt_trichotomy i j with z | z | z
    · exact absurd (by rw [List.getElem_map, List.getElem_map, ei, ej]; exact e) (h i j (by rw [List.length_map]; exact li) (by rw [List.length_map]; exact lj) z)
    · exact z
    · exact absurd (by rw [List.getElem_map, List.getElem_map, ei, ej]; exact e.symm) (h j i (by rw [List.length_map]; exact lj) (by rw [List.length_map]; exact li) z)
theorem vaD_perm {A : Nat → Prop} {ws ws' : va_W} (h : ws.Perm ws') (hD : va_D A ws) : va_D A ws' := by
  rw [vaD_nd] at hD ⊢
  exact ⟨(h.map Prod.fst).nodup_iff.mp hD.1, fun q hq => hD.2 q (h.mem_iff.mpr hq)⟩
section GROW
variable {p : Program} {l : Launch} {e : Env} {R : Room} {s : State} {m : MethodId} {args : Array Value} {below : List Frame} {meth : Method} {c : Code} {H : Heap} {locs : List Loc} {Q : State → Prop} {cells slots : Nat}
variable {cc : ByteArray} {nL : Nat} {own : String} {Ts : List Cond} {rt : Option FieldType} {pc : Nat} {ls : Array Slot} {rest : List Value} {cd : Cond}
variable {G : GG} {A : Nat → Prop} {N B : Nat} {E E' : Nat → va_E} {X : va_W}
theorem Gc.lt (hG : Gc s G A N B E X H locs) {k : Nat} {q : Nat × va_E} (h : (pool N B E ++ X)[k]? = some q) : q.1 < H.size := (hG.1.1.2.1.1 k q h).lt
theorem Gc.grow (hG : Gc s G A N B E X H locs) {H1 : Heap} (hz : H1.size = H.size + 1) (ho : ∀ q : Nat, q < H.size → H1[q]? = H[q]?) (hat : va_at G.1 vwCl (B + N, E N) H1) : Gc s G A (N + 1) B E X H1 locs := by
  obtain ⟨⟨⟨hE, ⟨hP, hD⟩, hS⟩, hO⟩, hN, hA⟩ := hG
  have perm : (pool N B E ++ X ++ [(B + N, E N)]).Perm (pool (N + 1) B E ++ X) := by
    rw [pool_succ, List.append_assoc, List.append_assoc]
    exact List.Perm.append_left _ List.perm_append_comm
  have hP1 : va_P G.1 vwCl (pool N B E ++ X ++ [(B + N, E N)]) H1 := by
    refine (hP.kept fun k q hk => ho _ (hP k q hk).lt).app fun k q hk => ?_
    have hz : k < 1 := (List.getElem?_eq_some_iff.mp hk).1
    rw [show k = 0 by omega] at hk
    cases hk
    exact hat
  have hD1 : va_D A (pool N B E ++ X ++ [(B + N, E N)]) := hD.push hP hN.symm (hA _ (by omega))
  refine ⟨⟨⟨hE, ⟨vaP_mem (fun q hq => perm.mem_iff.mpr hq) hP1, vaD_perm perm hD1⟩, Nat.le_trans hS.1 (by omega), fun q h1 h2 => (ho q (Nat.lt_of_lt_of_le h1 hS.1)).trans (hS.2.1 q h1 h2), hS.2.2⟩, hO⟩, by omega, hA⟩
theorem Gc.congr (hG : Gc s G A N B E X H locs) (h : ∀ c, c < N → E c = E' c) : Gc s G A N B E' X H locs := by
  unfold Gc Gd Wd at hG ⊢
  rw [pool_congr h] at hG
  exact hG
/-- one cell is written anew -/
theorem Gc.put (hG : Gc s G A N B E X H locs) {c0 : Nat} (h0 : c0 < N) {e1 : va_E} {H1 : Heap} (hz : H1.size = H.size) (ho : ∀ q : Nat, q ≠ B + c0 → H1[q]? = H[q]?) (hat : va_at G.1 vwCl (B + c0, e1) H1) (k : Nat) : Gc s G A N B (va_up E c0 e1) X H1 (locs ++ [⟨B + c0, k⟩]) := by
  obtain ⟨⟨⟨hE, ⟨hP, hD⟩, hS⟩, hO⟩, hN, hA⟩ := hG
  have hP1 := hP.set hD (pool_get h0) hat ho
  have hD1 := hD.set (e := e1) (pool_get (E := E) (X := X) h0)
  rw [pool_set h0] at hP1 hD1
  exact ⟨⟨⟨hE, ⟨hP1, hD1⟩, hS.put hz ho (hA _ (by omega))⟩, hO⟩, by omega, hA⟩
theorem rc_newI (C : CX p s m args meth c cc nL own (cd :: TG) rt) (hG : Gc s G A N B E X H locs) {n : Nat} {i : Int32} (hi : i = nI n) (hn : n < 1000) (hE : E N = .inl (gI G, n, .inl (fun _ => 0))) {k' n' : Nat} (hk : cells + 1 = k') (hs : slots + n = n') (hkR : k' ≤ R.cells) (hsR : n' ≤ R.slots) (hdg : decode cc pc = .ok (.newarray .int, 2))
    (kk : ∀ H : Heap, Gc s G A (N + 1) B E X H locs → W p l e R s m args below meth c H locs k' n' Q (F0 m (pc + 2) ls (.ref (B + N) :: rest))) : W p l e R s m args below meth c H locs cells slots Q (F0 m pc ls (.int i :: rest)) := by
  subst hi hk hs
  refine va_newaK (atype := .int) (N := n) C.1 C.2.1 (C.2.2.2.2.1 _ (List.mem_cons_of_mem _ tg_1_52)) rfl hdg rfl (by rw [ilt0 (by omega)]; exact not_false) (iclamp (by omega)) (by show n * 4 ≤ _; omega) hkR hsR hG.2.1 fun H1 cA e1 z1 o1 hAr hNm => ?_
  have hc : cA = gI G := Option.some.inj (hNm.symm.trans (hG.1.1.1.1.2 0 _ rfl).2)
  subst hc
  refine kk H1 (hG.grow (by rw [z1, hG.2.1]) (fun q hq => o1 q (by rw [← hG.2.1]; exact hq)) ?_)
  rw [hE]
  exact e1
theorem rc_newZ (C : CX p s m args meth c cc nL own (cd :: TG) rt) (hG : Gc s G A N B E X H locs) {n : Nat} {i : Int32} (hi : i = nI n) (hn : n < 1000) (hE : E N = .inl (gZ G, n, .inl (fun _ => 0))) {k' n' : Nat} (hk : cells + 1 = k') (hs : slots + n = n') (hkR : k' ≤ R.cells) (hsR : n' ≤ R.slots) (hdg : decode cc pc = .ok (.newarray .boolean, 2))
    (kk : ∀ H : Heap, Gc s G A (N + 1) B E X H locs → W p l e R s m args below meth c H locs k' n' Q (F0 m (pc + 2) ls (.ref (B + N) :: rest))) : W p l e R s m args below meth c H locs cells slots Q (F0 m pc ls (.int i :: rest)) := by
  subst hi hk hs
  refine va_newaK (atype := .boolean) (N := n) C.1 C.2.1 (C.2.2.2.2.1 _ (List.mem_cons_of_mem _ tg_1_226)) rfl hdg rfl (by rw [ilt0 (by omega)]; exact not_false) (iclamp (by omega)) (by show n * 1 ≤ _; omega) hkR hsR hG.2.1 fun H1 cA e1 z1 o1 hAr hNm => ?_
  have hc : cA = gZ G := Option.some.inj (hNm.symm.trans (hG.1.1.1.1.2 1 _ rfl).2)
  subst hc
  refine kk H1 (hG.grow (by rw [z1, hG.2.1]) (fun q hq => o1 q (by rw [← hG.2.1]; exact hq)) ?_)
  rw [hE]
  exact e1
theorem rc_new (C : CX p s m args meth c cc nL own Ts rt) (hG : Gc s G A N B E X H locs) {ci Nk index : Nat} {Cn : String} {T : u_T} {fs : List Value} (hE : E N = .inr (ci, fs)) (hcl : vwCl[ci]? = some (Cn, T, Nk)) (hin : ∀ w ∈ u_ws Cn T Nk, w ∈ Ts) (ty : Nat → FieldType) (hty : ∀ k, k < Nk → parseFieldDescriptor (T k).2.2.1 = some (ty k)) (hfs : ∀ j, j < Nk → defaultValue (ty j) = vp_V fs j) (hlk : Cond.classLink own index Cn ∈ Ts) (hins : (Cond.instantiable Cn Nk).before args s = true) (hini : Cond.initialized Cn ∈ Ts) {k' n' : Nat} (hk : cells + 1 = k') (hs : slots + Nk = n') (hkR : k' ≤ R.cells) (hsR : n' ≤ R.slots) (hdg : decode cc pc = .ok (.new index, 3))
    (kk : ∀ H : Heap, Gc s G A (N + 1) B E X H locs → W p l e R s m args below meth c H locs k' n' Q (F0 m (pc + 3) ls (.ref (B + N) :: rest))) : W p l e R s m args below meth c H locs cells slots Q (F0 m pc ls rest) := by
  subst hk hs
  have hKn := hG.1.1.1.1.1 ci _ hcl
  refine W.newcK C.1 C.2.1 C.2.2.2.1 (C.2.2.2.2.1 _ hlk) hins (C.2.2.2.2.1 _ hini) rfl hdg hkR hsR hKn.2.1 hG.2.1 fun H1 kC hkC e1 z1 o1 => ?_
  refine kk H1 (hG.grow (by rw [z1, hG.2.1]) (fun q hq => o1 q (by rw [← hG.2.1]; exact hq)) ?_)
  rw [hE]
  exact ⟨_, hcl, (u_born ty C.2.2.2.2.1 hin hKn hkC e1 hty).to hfs⟩
theorem rc_newA (C : CX p s m args meth c cc nL own Ts rt) (hG : Gc s G A N B E X H locs) {index t0 n : Nat} {Cn : String} {cA : ClassId} {i : Int32} (hi : i = nI n) (hn : n < 1000) (hAO : va_AO Cn s) (ht : (tysG G)[t0]? = some (cA, .object Cn)) (hE : E N = .inl (cA, n, .inr (.inr (.inr (.inr fun _ => none))))) (hlk : Cond.classLink own index Cn ∈ Ts) {k' n' : Nat} (hk : cells + 1 = k') (hs : slots + n = n') (hkR : k' ≤ R.cells) (hsR : n' ≤ R.slots) (hdg : decode cc pc = .ok (.anewarray index, 3))
    (kk : ∀ H : Heap, Gc s G A (N + 1) B E X H locs → W p l e R s m args below meth c H locs k' n' Q (F0 m (pc + 3) ls (.ref (B + N) :: rest))) : W p l e R s m args below meth c H locs cells slots Q (F0 m pc ls (.int i :: rest)) := by
  subst hi hk hs
  have hcl : (nI n).toNatClampNeg = n := iclamp (by omega)
  refine W.anew C.1 C.2.1 C.2.2.2.1 (C.2.2.2.2.1 _ hlk) (va_AO.use hAO) rfl hdg rfl (by rw [ilt0 (by omega)]; exact not_false) (by rw [hcl]; omega) hkR (by rw [hcl]; exact hsR) fun cA' kA comp f1 f2 f3 f4 => ?_
  obtain ⟨kB, compB, -, -, -, g4⟩ := (hG.1.1.1.1.2 t0 _ ht).2
  have hc : cA' = cA := Option.some.inj (f1.symm.trans g4)
  subst hc
  rw [hcl]
  have hsz := hG.2.1
  refine W.eq (g2 := F0 m (pc + 3) ls (.ref (B + N) :: rest)) (by rw [hsz]) ?_
  refine kk _ (hG.grow (by rw [Array.size_push]) (fun q hq => by rw [Array.getElem?_push, if_neg (Nat.ne_of_lt hq)]) ?_)
  rw [hE]
  show (H.push _)[B + N]? = some (vp_cell _ _)
  rw [← hsz, Array.getElem?_push_size, vp_cell_q, ← arrV_new]
  rfl
end GROW
def mixE (E F : Nat → va_E) (o : Nat) : Nat → va_E := fun c => if c < o then E c else F c
theorem mixE_ge {E F : Nat → va_E} {o c : Nat} (h : o ≤ c) : mixE E F o c = F c := if_neg (Nat.not_lt.mpr h)
theorem mixE_lt {E F : Nat → va_E} {o c : Nat} (h : c < o) : mixE E F o c = E c := if_pos h
theorem up_up {E : Nat → va_E} {o : Nat} {x y : va_E} : va_up (va_up E o x) o y = va_up E o y := by
  funext j
  unfold va_up
  by_cases h : j = o <;> simp [h]
theorem up_id {E : Nat → va_E} {o : Nat} {x : va_E} (h : E o = x) : va_up E o x = E := by
  funext j
  unfold va_up
  by_cases z : j = o
  · rw [if_pos z, z, h]
  · rw [if_neg z]
theorem mix_back {E F : Nat → va_E} {N : Nat} {y : va_E} (h : ∀ c, N ≤ c → E c = F c) : mixE (va_up E N y) F N = E := by
  funext c
  unfold mixE
  by_cases z : c < N
  · rw [if_pos z, va_up_ne _ _ (by omega)]
  · rw [if_neg z, h c (by omega)]
/-- what the class's world is at first -/
def w0 : WX := (fun c i => if c = 117 then (if i < 4 then -1 else 0) else 0, fun c i => if i = 11 then c + 8 else if i = 12 then c + 9 else if i = 0 then c + 1 else c + 2)
theorem w0_0 {c : Nat} (h : c ≠ 117) : w0.1 c = fun _ => 0 := by
  funext i
  show (if c = 117 then _ else (0 : Int32)) = 0
  rw [if_neg h]
theorem ent0_I {G : GG} {B c n : Nat} (h : KDx c = (10, n)) (h9 : c ≠ 117) : entX G B w0 c = .inl (gI G, n, .inl (fun _ => 0)) := by rw [entX_I h, w0_0 h9]
theorem ent0_Z {G : GG} {B c n : Nat} (h : KDx c = (11, n)) (h9 : c ≠ 117) : entX G B w0 c = .inl (gZ G, n, .inl (fun _ => 0)) := by rw [entX_Z h, w0_0 h9]
section GROW2
variable {p : Program} {l : Launch} {e : Env} {R : Room} {s : State} {m : MethodId} {args : Array Value} {below : List Frame} {meth : Method} {c : Code} {H : Heap} {locs : List Loc} {Q : State → Prop} {cells slots : Nat}
variable {cc : ByteArray} {nL : Nat} {own : String} {Ts : List Cond} {rt : Option FieldType} {pc : Nat} {ls : Array Slot} {rest : List Value} {cd : Cond}
variable {G : GG} {A : Nat → Prop} {N B : Nat} {E E' : Nat → va_E} {X : va_W}
theorem rc_putF (C : CX p s m args meth c cc nL own Ts rt) (hin2 : meth.name = "<init>") (hG : Gc s G A N B E X H locs) {c0 ci i Nk index : Nat} {Cn : String} {T : u_T} {fs : List Value} (h0 : c0 < N) (hE : E c0 = .inr (ci, fs)) (hcl : vwCl[ci]? = some (Cn, T, Nk)) (hin : ∀ w ∈ u_ws Cn T Nk, w ∈ Ts) {ty0 : Nat → FieldType} (hty : ∀ k, k < Nk → parseFieldDescriptor (T k).2.2.1 = some (ty0 k)) (hnm : ∀ a, a < Nk → ∀ b, b < Nk → a ≠ b → (T a).2.1 ≠ (T b).2.1) (hi : i < Nk) (hlk : Cond.fieldLink own index (T i).1 (T i).2.1 (T i).2.2.1 ∈ Ts) (hfin : (T i).2.2.2 = true) (hdecl : (T i).1 = own) {v : Value} (hn : narrow (ty0 i) v = v) (hfit : fits (ty0 i) v = true) (hl : i < fs.length) (hE' : va_up E c0 (.inr (ci, fs.set i v)) = E') (hdg : decode cc pc = .ok (.putfield index, 3))
    (kk : ∀ (H : Heap) (locs : List Loc), Gc s G A N B E' X H locs → W p l e R s m args below meth c H locs cells slots Q (F0 m (pc + 3) ls rest)) : W p l e R s m args below meth c H locs cells slots Q (F0 m pc ls (v :: .ref (B + c0) :: rest)) := by
  subst hE'
  have hK := hG.1.1.1.1
  have hap := va_apart (own := own) C.2.2.2.2.1 hin ty0 hty hnm hK hcl
  obtain ⟨r, h1, cell, q1, q2, q3, q4⟩ := hG.1.1.2.1.1 c0 _ ((pool_get h0).trans (by rw [hE]))
  have hr : r = (Cn, T, Nk) := Option.some.inj (h1.symm.trans hcl)
  subst hr
  obtain ⟨hS, hfc, kC, hkC, hkind⟩ := hK.1 ci _ hcl
  obtain ⟨cf, kf, fi, f, hif, hsl⟩ := hS i hi
  have hlay := C.2.2.2.2.1 _ (hin _ (u_in_lay hi))
  unfold u_lay at hlay
  rw [if_pos hfin] at hlay
  have hst := (u_facts hfc hkC (u_lays C.2.2.2.2.1 hin hi) hif).1
  have hcf : m.cls = cf := by
    obtain ⟨_, _, c', _, _, _, -, -, hf', -, -, -, hown2, -⟩ := Cond.laysFinal_spec hlay
    have e1 : c' = cf := by have := hif.symm.trans hf'; simp at this; exact this.1.symm
    rw [hdecl] at hown2
    rw [← e1]
    exact Option.some.inj (C.2.2.2.1.symm.trans hown2)
  have h6 := u_fits hfc hkC hkind (Or.inr hlay) hif (hty i hi) hn hfit
  refine W.putFinK C.1 C.2.1 C.2.2.2.1 (C.2.2.2.2.1 _ hlk) hif hst hcf hin2 (by rw [q2]; exact h6) q1 q3 (by rw [hsl]; exact k2_hasslot (q4 i hi)) rfl rfl hdg fun H' e1 e2 e3 => ?_
  rw [hsl] at e1 ⊢
  exact kk H' _ (hG.put (e1 := .inr (ci, fs.set i v)) h0 e2 e3 ⟨_, hcl, t_OB.to (V := updV (vp_V fs) i v) ⟨_, e1, q2, q3, t_set q4 hap hi v⟩ (fun j _ => vp_updV_set hl v j)⟩ _)
theorem rc_putM (C : CX p s m args meth c cc nL own Ts rt) (hG : Gc s G A N B E X H locs) {c0 ci i Nk index : Nat} {Cn : String} {T : u_T} {fs : List Value} (h0 : c0 < N) (hE : E c0 = .inr (ci, fs)) (hcl : vwCl[ci]? = some (Cn, T, Nk)) (hin : ∀ w ∈ u_ws Cn T Nk, w ∈ Ts) {ty0 : Nat → FieldType} (hty : ∀ k, k < Nk → parseFieldDescriptor (T k).2.2.1 = some (ty0 k)) (hnm : ∀ a, a < Nk → ∀ b, b < Nk → a ≠ b → (T a).2.1 ≠ (T b).2.1) (hi : i < Nk) (hlk : Cond.fieldLink own index (T i).1 (T i).2.1 (T i).2.2.1 ∈ Ts) (hfin : (T i).2.2.2 = false) {v : Value} (hn : narrow (ty0 i) v = v) (hfit : fits (ty0 i) v = true) (hl : i < fs.length) (hE' : va_up E c0 (.inr (ci, fs.set i v)) = E') (hdg : decode cc pc = .ok (.putfield index, 3))
    (kk : ∀ (H : Heap) (locs : List Loc), Gc s G A N B E' X H locs → W p l e R s m args below meth c H locs cells slots Q (F0 m (pc + 3) ls rest)) : W p l e R s m args below meth c H locs cells slots Q (F0 m pc ls (v :: .ref (B + c0) :: rest)) := by
  subst hE'
  have hK := hG.1.1.1.1
  have hap := va_apart (own := own) C.2.2.2.2.1 hin ty0 hty hnm hK hcl
  obtain ⟨r, h1, cell, q1, q2, q3, q4⟩ := hG.1.1.2.1.1 c0 _ ((pool_get h0).trans (by rw [hE]))
  have hr : r = (Cn, T, Nk) := Option.some.inj (h1.symm.trans hcl)
  subst hr
  obtain ⟨hS, hfc, kC, hkC, hkind⟩ := hK.1 ci _ hcl
  obtain ⟨cf, kf, fi, f, hif, hsl⟩ := hS i hi
  have hlay := C.2.2.2.2.1 _ (hin _ (u_in_lay hi))
  unfold u_lay at hlay
  rw [if_neg (by rw [hfin]; decide)] at hlay
  have hst := (u_facts hfc hkC (u_lays C.2.2.2.2.1 hin hi) hif).1
  have h6 := u_store hfc hkC hkind hlay hif (hty i hi) hn hfit
  refine W.putK C.1 C.2.1 (f := f) ⟨C.2.2.2.1, C.2.2.2.2.1 _ hlk, ⟨_, _, _, hif⟩, hst⟩ (by rw [q2]; exact h6) q1 q3 (by rw [hsl]; exact k2_hasslot (q4 i hi)) rfl rfl hdg fun H' e1 e2 e3 => ?_
  rw [hsl] at e1 ⊢
  exact kk H' _ (hG.put (e1 := .inr (ci, fs.set i v)) h0 e2 e3 ⟨_, hcl, t_OB.to (V := updV (vp_V fs) i v) ⟨_, e1, q2, q3, t_set q4 hap hi v⟩ (fun j _ => vp_updV_set hl v j)⟩ _)
theorem rc_getf (C : CX p s m args meth c cc nL own Ts rt) (hG : Gc s G A N B E X H locs) {c0 ci i Nk index : Nat} {Cn : String} {T : u_T} {fs : List Value} (h0 : c0 < N) (hE : E c0 = .inr (ci, fs)) (hcl : vwCl[ci]? = some (Cn, T, Nk)) (hin : ∀ w ∈ u_ws Cn T Nk, w ∈ Ts) (hi : i < Nk) (hlk : Cond.fieldLink own index (T i).1 (T i).2.1 (T i).2.2.1 ∈ Ts) {v : Value} (hv : fs[i]? = some v) (hdg : decode cc pc = .ok (.getfield index, 3))
    (kk : W p l e R s m args below meth c H locs cells slots Q (F0 m (pc + 3) ls (v :: rest))) : W p l e R s m args below meth c H locs cells slots Q (F0 m pc ls (.ref (B + c0) :: rest)) :=
  va_get C.1 C.2.1 C.2.2.2.2.1 hin C.2.2.2.1 hG.1.1.1.1 hG.1.1.2.1.1 c0 ((pool_get h0).trans (by rw [hE])) hcl i hi (C.2.2.2.2.1 _ hlk) (fun _ h => h) hv hdg kk
theorem rc_iast (C : CX p s m args meth c cc nL own Ts rt) (hG : Gc s G A N B E X H locs) {c0 n i : Nat} (h0 : c0 < N) {f : Nat → Int32} (hE : E c0 = .inl (gI G, n, .inl f)) (hi : i < n) (hn : n < 1000) {x : Int32} (hE' : va_up E c0 (.inl (gI G, n, .inl (upd f i x))) = E') (hdg : decode cc pc = .ok (.iastore, 1))
    (kk : ∀ (H : Heap) (locs : List Loc), Gc s G A N B E' X H locs → W p l e R s m args below meth c H locs cells slots Q (F0 m (pc + 1) ls rest)) : W p l e R s m args below meth c H locs cells slots Q (F0 m pc ls (.int x :: .int (nI i) :: .ref (B + c0) :: rest)) := by
  subst hE'
  have hcl : (nI i).toNatClampNeg = i := iclamp (by omega)
  have hq : H[B + c0]? = some (vp_cell (gI G) (n, .inl f)) := by
    have hq := hG.1.1.2.1.1 c0 _ (pool_get h0)
    rw [hE] at hq
    exact hq
  have hin : ¬ (nI i < 0 ∨ n ≤ (nI i).toNatClampNeg) := by
    rw [hcl, ilt0 (by omega)]
    rintro (q | q)
    · exact q
    · omega
  refine W.iast C.1 C.2.1 hq ((hG.1.1.1.1.2 0 _ rfl).1 n (fun j => .int (f j))) (fun q => by cases q) (by show ¬ (nI i < 0 ∨ (arrV _ _ _).slots.size ≤ _); rw [arrV_size]; exact hin) rfl rfl hdg fun H1 e1 z oq => ?_
  refine kk H1 _ (hG.put (e1 := .inl (gI G, n, .inl (upd f i x))) h0 z oq ?_ _)
  show H1[B + c0]? = some (vp_cell (gI G) (n, .inl (upd f i x)))
  rw [e1, hcl, vp_cell_i, vp_cell_i, arrV_store]
  congr 2
  funext q
  by_cases hq : q = i
  · subst hq
    simp [updV, upd]
  · simp [updV, upd, hq]
theorem rc_aast (C : CX p s m args meth c cc nL own Ts rt) (hG : Gc s G A N B E X H locs) {c0 c1 n i t0 ci : Nat} {cA : ClassId} {r : vw_C} {vs : List Value} (h0 : c0 < N) (h1 : c1 < N) {f : Nat → Option Nat} (hE : E c0 = .inl (cA, n, .inr (.inr (.inr (.inr f))))) (ht : (tysG G)[t0]? = some (cA, .object r.1)) (hv : E c1 = .inr (ci, vs)) (hc : vwCl[ci]? = some r) (hi : i < n) (hn : n < 1000) (hE' : va_up E c0 (.inl (cA, n, .inr (.inr (.inr (.inr (va_up f i (some (B + c1)))))))) = E') (hdg : decode cc pc = .ok (.aastore, 1))
    (kk : ∀ (H : Heap) (locs : List Loc), Gc s G A N B E' X H locs → W p l e R s m args below meth c H locs cells slots Q (F0 m (pc + 1) ls rest)) : W p l e R s m args below meth c H locs cells slots Q (F0 m pc ls (.ref (B + c1) :: .int (nI i) :: .ref (B + c0) :: rest)) := by
  subst hE'
  have hcl : (nI i).toNatClampNeg = i := iclamp (by omega)
  have hK := hG.1.1.1.1
  have hP := hG.1.1.2.1.1
  obtain ⟨r', hr', cellV, g1, g2, g3, -⟩ := hP c1 _ ((pool_get h1).trans (by rw [hv]))
  have hcls := (hK.1 ci r hc).2
  obtain ⟨kA, comp, k1, k2, k3, -⟩ := (hK.2 t0 _ ht).2
  have hcomp : comp = G.1.1 ci := Option.some.inj (k3.symm.trans hcls.1)
  subst hcomp
  obtain ⟨kC, hkC, -⟩ := hcls.2
  have hq : H[B + c0]? = some (vp_cell cA (n, .inr (.inr (.inr (.inr f))))) := by
    have hq := hP c0 _ (pool_get h0)
    rw [hE] at hq
    exact hq
  refine W.aast C.1 C.2.1 hq (fun q h => by cases h) (fun h => by cases h) k1 k2 rfl hkC ⟨by rw [ilt0 (by omega)]; exact not_false, by show _ < (arrV _ _ _).slots.size; rw [arrV_size, hcl]; exact hi⟩ g1 (fun q h => by rw [g3] at h; cases h) (by rw [g2]; exact hkC) (by rw [g2]; exact va_assign hcls) rfl rfl hdg fun H1 e1 z oq => ?_
  refine kk H1 _ (hG.put (e1 := .inl (cA, n, .inr (.inr (.inr (.inr (va_up f i (some (B + c1)))))))) h0 z oq ?_ _)
  show H1[B + c0]? = some (vp_cell cA (n, .inr (.inr (.inr (.inr (va_up f i (some (B + c1))))))))
  rw [e1, hcl, vp_cell_q, vp_cell_q, arrV_store]
  congr 2
  funext q
  by_cases hq : q = i
  · subst hq
    simp [updV, va_up, va_rf]
  · simp [updV, va_up, hq]
theorem rc_after {mc ms N' : Nat} {st0 : List Value} {a : Array Value} (hr : va_Run p l e R s m args below meth c H locs cells slots mc ms (F0 m pc ls st0) rest (CPostI G A N' B E' X a) A) (hG : Gc s G A N B E X H locs) {k' n' : Nat} (hk : cells + mc = k') (hs : slots + ms = n')
    (kk : ∀ (H : Heap) (locs : List Loc), Gc s G A N' B E' X H locs → W p l e R s m args below meth c H locs k' n' Q (F0 m (pc + 3) ls rest)) : W p l e R s m args below meth c H locs cells slots Q (F0 m pc ls st0) := by
  subst hk hs
  intro T hT XX
  obtain ⟨v, st₀, t, T', L, h0, X', hL, e1, e2, ⟨⟨hv, hW, hN⟩, hz, hk⟩, st⟩ := hr T hT XX
  cases hv
  rw [h0] at hz hk
  have hS := hG.1.1.2.2
  obtain ⟨t2, a1, b1⟩ := kk T'.heap (locs ++ L) ⟨⟨⟨hG.1.1.1, by rw [e1]; exact hW, Nat.le_trans hS.1 (by rw [e1]; exact hz), fun q h1 h2 => by rw [e1, hk q (Nat.lt_of_lt_of_le h1 hS.1) h2]; exact hS.2.1 q h1 h2, fun q hq => by
      rcases List.mem_append.mp hq with h | h
      · exact hS.2.2 q h
      · exact hL q h⟩, hG.1.2⟩, by rw [e1]; exact hN, hG.2.2⟩ T' rfl X'
  exact ⟨t2, st t2 a1, b1⟩
theorem rc_pre {av : List Value} (hG : Gc s G A N B E X H locs) : PreS s H (CPreI G A N B E X av) av :=
  ⟨CPreI_blind, fun U hU hW => ⟨rfl, ⟨hG.1.1.ev hU hW, by rw [hU]; exact hG.1.1.2.1⟩, hG.1.2.moved hW.alike, by rw [hU]; exact hG.2.1, hG.2.2⟩⟩
variable {y : MethodName} {bytes : ByteArray} {maxL index mc ms N' o : Nat} {ws : List Cond} {rm : Room} {st : List Value} {host : String}
theorem rc_callI (C : CX p s m args meth c cc nL own Ts rt) (hG : Gc s G A N B E X H locs) (hsz : ls.size = nL) (hM : MetI l y ws rm G A B X [.ref (B + o)] N E N' E' mc ms) (cw : CallB R s args own index y bytes maxL none ws rm mc ms 0 ∧ y.name = "<init>" ∧ (Cond.instanceMethod y).before args s = true) {k' n' : Nat} (hk : cells + mc = k') (hs : slots + ms = n') (hkR : k' ≤ R.cells) (hsR : n' ≤ R.slots) (hcat : (rest.map fun v => v.category).sum ≤ 8) (hdg : decode cc pc = .ok (.invokespecial index, 3))
    (kk : ∀ (H : Heap) (locs : List Loc), Gc s G A N' B E' X H locs → W p l e R s m args below meth c H locs k' n' Q (F0 m (pc + 3) ls rest)) : W p l e R s m args below meth c H locs cells slots Q (F0 m pc ls (.ref (B + o) :: rest)) := by
  subst hk hs
  exact rc_after (va_runI (As := []) (rest := rest) ⟨C.1, C.2.1, C.2.2.1, C.2.2.2.1, C.2.2.2.2.1⟩ hM cw (rc_pre hG) rfl rfl hsz rfl (lv_room hcat) hdg ⟨hkR, hsR⟩) hG rfl rfl kk
theorem rc_callIN (C : CX p s m args meth c cc nL own Ts rt) (hG : Gc s G A N B E X H locs) (hsz : ls.size = nL) (hM : MetI l y ws rm G A B X [.ref (B + o)] N E N' E' mc ms) (cw : va_CN R s args own index y host bytes maxL none ws rm mc ms 0) (hy : y.name = "<init>") (hin : (Cond.instanceMethod y).before args s = true) {k' n' : Nat} (hk : cells + mc = k') (hs : slots + ms = n') (hkR : k' ≤ R.cells) (hsR : n' ≤ R.slots) (hcat : (rest.map fun v => v.category).sum ≤ 8) (hdg : decode cc pc = .ok (.invokespecial index, 3))
    (kk : ∀ (H : Heap) (locs : List Loc), Gc s G A N' B E' X H locs → W p l e R s m args below meth c H locs k' n' Q (F0 m (pc + 3) ls rest)) : W p l e R s m args below meth c H locs cells slots Q (F0 m pc ls (.ref (B + o) :: rest)) := by
  subst hk hs
  exact rc_after (va_runIN (As := []) (rest := rest) ⟨C.1, C.2.1, C.2.2.1, C.2.2.2.1, C.2.2.2.2.1⟩ hM ⟨cw, hy, hin⟩ (rc_pre hG) rfl rfl hsz rfl (lv_room hcat) hdg ⟨hkR, hsR⟩) hG rfl rfl kk
theorem rc_obj (C : CX p s m args meth c cc nL own Ts rt) (hsz : ls.size = nL) {a : Nat} (hlk : Cond.methodLink own index objectInit ∈ Ts) (hin : Cond.instanceMethod objectInit ∈ Ts) (hcode : Cond.code objectInit ⟨#[0xb1]⟩ 1 none ∈ Ts) (hframes : 1 ≤ R.frames) (hlocals : 12 ≤ R.locals) (hdg : decode cc pc = .ok (.invokespecial index, 3))
    (kk : W p l e R s m args below meth c H locs cells slots Q (F0 m (pc + 3) ls [])) : W p l e R s m args below meth c H locs cells slots Q (F0 m pc ls [.ref a]) :=
  W.objInit C.1 C.2.1 C.2.2.2.1 (C.2.2.2.2.1 _ hlk) (C.2.2.2.2.1 _ hin) (C.2.2.2.2.1 _ hcode) rfl (hsz.trans C.2.2.1.symm) rfl hdg hframes hlocals kk
theorem rc_ret (C : CX p s m args meth c cc nL own Ts none) (hG : Gc s G A N B E X H locs) (hE : ∀ c, c < N → E c = E' c) (hdg : decode cc pc = .ok (.return_, 1)) : W p l e R s m args below meth c H locs cells slots (MQ below (CPostI G A N B E' X) args s cells slots A) (F0 m pc ls []) := by
  have hG := hG.congr hE
  exact W.vret C.1 C.2.1 C.2.2.2.2.2.1 (fun t ht hW => ⟨⟨rfl, by rw [ht]; exact hG.1.1.2.1, by rw [ht]; exact hG.2.1⟩, hG.1.1.2.2.F ht⟩) hG.1.1.2.2.2.2 hdg C.2.2.2.2.2.2
end GROW2
theorem mix_start {E F : Nat → va_E} {o : Nat} {x : va_E} (hE : E o = x) : ∀ c, c < o + 1 → E c = va_up (mixE E F o) o x c := fun c hc => by
  by_cases z : c = o
  · subst z
    rw [va_up_self, hE]
  · rw [va_up_ne _ _ z, mixE_lt (by omega)]
