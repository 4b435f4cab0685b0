/-! worlds that grow: how the cells are made -/
def AOs (G : GG) (U : State) : Prop := va_AO "SurfaceSums$Algebra" U ∧ va_AO "SurfaceSums$Surface" U ∧ ∃ k : Class, U.vm.classes[gR G]? = some k ∧ k.kind = .array (gI G) (.array .int)
theorem AOs.moved {G : GG} {u U : State} (hvm : u.vm.Alike U.vm) (h : AOs G u) : AOs G U := by
  obtain ⟨h1, h2, k, h3, h4⟩ := h
  obtain ⟨k', hk', he⟩ := hvm.2.2 _ _ h3
  exact ⟨h1.moved hvm, h2.moved hvm, k', hk', by rw [he]; exact h4⟩
def Gc (s : State) (G : GG) (A : Nat → Prop) (N B : Nat) (E : Nat → va_E) (X : va_W) (H : Heap) (locs : List Loc) : Prop := (Gd s G A N B E X H locs ∧ AOs G s) ∧ H.size = B + N ∧ ∀ q, B ≤ q → A q
def CPreI (G : GG) (A : Nat → Prop) (N B : Nat) (E : Nat → va_E) (X : va_W) (av : List Value) : Array Value → State → Prop := va_Pc av (fun U => (Ev G A U U.heap ∧ Wd G A N B E X U.heap) ∧ AOs G U ∧ U.heap.size = B + N ∧ ∀ q, B ≤ q → A q)
def CPostI (G : GG) (A : Nat → Prop) (N B : Nat) (E : Nat → va_E) (X : va_W) : Array Value → State → Outcome → State → Prop := fun _ st oc t => (oc = .returned none ∧ Wd G A N B E X t.heap ∧ t.heap.size = B + N) ∧ va_F A st t
def MetI (l : Launch) (y : MethodName) (ws : List Cond) (rm : Room) (G : GG) (A : Nat → Prop) (B : Nat) (X : va_W) (av : List Value) (N : Nat) (E : Nat → va_E) (N' : Nat) (E' : Nat → va_E) (mc ms : Nat) : Prop :=
  Met l y ws rm (CPreI G A N B E X av) (CPostI G A N' B E' X) mc ms A
theorem CPreI_blind {G : GG} {A : Nat → Prop} {N B : Nat} {E : Nat → va_E} {X : va_W} {av : List Value} : FrameBlind (CPreI G A N B E X av) := by
  intro a U g mk q
  obtain ⟨q1, ⟨⟨q2, q3, q4⟩, q5⟩, q6, q7⟩ := q
  exact ⟨q1, ⟨⟨va_K.moved (u := U) (U := U.calling g mk a) (Vm.Alike.refl U.vm) q2, fun w hw => nest_same (nests_all w hw) (rfl : U.vm = (U.calling g mk a).vm) (q3 w hw), q4.to (Vm.Alike.refl U.vm) (fun _ _ _ => rfl)⟩, q5⟩, AOs.moved (u := U) (U := U.calling g mk a) (Vm.Alike.refl U.vm) q6, q7⟩
theorem pool_succ {N B : Nat} {E : Nat → va_E} : pool (N + 1) B E = pool N B E ++ [(B + N, E N)] := by simp [pool, List.range_succ]
theorem pool_congr {N B : Nat} {E E' : Nat → va_E} (h : ∀ c, c < N → E c = E' c) : pool N B E = pool N B E' := by
  unfold pool
  exact List.map_congr_left fun c hc => by rw [h c (List.mem_range.mp hc)]
theorem vaP_mem {D : va_G} {cl : List vw_C} {ws ws' : va_W} {H : Heap} (h : ∀ q, q ∈ ws' → q ∈ ws) (hP : va_P D cl ws H) : va_P D cl ws' H := fun k q hk => by
  obtain ⟨i, hi⟩ := List.getElem?_of_mem (h q (List.mem_of_getElem? hk))
  exact hP i q hi
theorem vaD_nd {A : Nat → Prop} {ws : va_W} : va_D A ws ↔ (ws.map Prod.fst).Nodup ∧ ∀ q, q ∈ ws → A q.1 := by
  constructor
  · rintro ⟨h1, h2⟩
    refine ⟨List.pairwise_iff_getElem.mpr fun i j hi hj hij e => ?_, fun q hq => ?_⟩
    · rw [List.length_map] at hi hj
      rw [List.getElem_map, List.getElem_map] at e
      have := h1 i j _ _ (List.getElem?_eq_getElem hi) (List.getElem?_eq_getElem hj) e
      omega
    · obtain ⟨i, hi⟩ := List.getElem?_of_mem hq
      exact h2 i q hi
  · rintro ⟨h1, h2⟩
    refine ⟨fun i j p q hp hq e => ?_, fun k q hq => h2 q (List.mem_of_getElem? hq)⟩
    have h := List.pairwise_iff_getElem.mp h1
    obtain ⟨li, ei⟩ := List.getElem?_eq_some_iff.mp hp
    obtain ⟨lj, ej⟩ := List.getElem?_eq_some_iff.mp hq
    rcases Nat.lt_trichotomy i j with z | z | z
    · exact absurd (by rw [List.getElem_map, List.getElem_map, ei, ej]; exact e) (h i j (by rw [List.length_map]; exact li) (by rw [List.length_map]; exact lj) z)
    · exact z
    · exact absurd (by rw [List.getElem_map, List.getElem_map, ei, ej]; exact e.symm) (h j i (by rw [List.length_map]; exact lj) (by rw [List.length_map]; exact li) z)
theorem vaD_perm {A : Nat → Prop} {ws ws' : va_W} (h : ws.Perm ws') (hD : va_D A ws) : va_D A ws' := by
  rw [vaD_nd] at hD ⊢
  exact ⟨(h.map Prod.fst).nodup_iff.mp hD.1, fun q hq => hD.2 q (h.mem_iff.mpr hq)⟩
section GROW
variable {p : Program} {l : Launch} {e : Env} {R : Room} {s : State} {m : MethodId} {args : Array Value} {below : List Frame} {meth : Method} {c : Code} {H : Heap} {locs : List Loc} {Q : State → Prop} {cells slots : Nat}
variable {cc : ByteArray} {nL : Nat} {own : String} {Ts : List Cond} {rt : Option FieldType} {pc : Nat} {ls : Array Slot} {rest : List Value} {cd : Cond}
variable {G : GG} {A : Nat → Prop} {N B : Nat} {E E' : Nat → va_E} {X : va_W}
theorem Gc.lt (hG : Gc s G A N B E X H locs) {k : Nat} {q : Nat × va_E} (h : (pool N B E ++ X)[k]? = some q) : q.1 < H.size := (hG.1.1.2.1.1 k q h).lt
theorem Gc.grow (hG : Gc s G A N B E X H locs) {H1 : Heap} (hz : H1.size = H.size + 1) (ho : ∀ q : Nat, q < H.size → H1[q]? = H[q]?) (hat : va_at G.1 vwCl (B + N, E N) H1) : Gc s G A (N + 1) B E X H1 locs := by
  obtain ⟨⟨⟨hE, ⟨hP, hD⟩, hS⟩, hO⟩, hN, hA⟩ := hG
  have perm : (pool N B E ++ X ++ [(B + N, E N)]).Perm (pool (N + 1) B E ++ X) := by
    rw [pool_succ, List.append_assoc, List.append_assoc]
    exact List.Perm.append_left _ List.perm_append_comm
  have hP1 : va_P G.1 vwCl (pool N B E ++ X ++ [(B + N, E N)]) H1 := by
    refine (hP.kept fun k q hk => ho _ (hP k q hk).lt).app fun k q hk => ?_
    have hz : k < 1 := (List.getElem?_eq_some_iff.mp hk).1
    rw [show k = 0 by omega] at hk
    cases hk
    exact hat
  have hD1 : va_D A (pool N B E ++ X ++ [(B + N, E N)]) := hD.push hP hN.symm (hA _ (by omega))
  refine ⟨⟨⟨hE, ⟨vaP_mem (fun q hq => perm.mem_iff.mpr hq) hP1, vaD_perm perm hD1⟩, Nat.le_trans hS.1 (by omega), fun q h1 h2 => (ho q (Nat.lt_of_lt_of_le h1 hS.1)).trans (hS.2.1 q h1 h2), hS.2.2⟩, hO⟩, by omega, hA⟩
theorem Gc.congr (hG : Gc s G A N B E X H locs) (h : ∀ c, c < N → E c = E' c) : Gc s G A N B E' X H locs := by
  unfold Gc Gd Wd at hG ⊢
  rw [pool_congr h] at hG
  exact hG
/-- one cell is written anew -/
theorem Gc.put (hG : Gc s G A N B E X H locs) {c0 : Nat} (h0 : c0 < N) {e1 : va_E} {H1 : Heap} (hz : H1.size = H.size) (ho : ∀ q : Nat, q ≠ B + c0 → H1[q]? = H[q]?) (hat : va_at G.1 vwCl (B + c0, e1) H1) (k : Nat) : Gc s G A N B (va_up E c0 e1) X H1 (locs ++ [⟨B + c0, k⟩]) := by
  obtain ⟨⟨⟨hE, ⟨hP, hD⟩, hS⟩, hO⟩, hN, hA⟩ := hG
  have hP1 := hP.set hD (pool_get h0) hat ho
  have hD1 := hD.set (e := e1) (pool_get (E := E) (X := X) h0)
  rw [pool_set h0] at hP1 hD1
  exact ⟨⟨⟨hE, ⟨hP1, hD1⟩, hS.put hz ho (hA _ (by omega))⟩, hO⟩, by omega, hA⟩
theorem rc_newI (C : CX p s m args meth c cc nL own (cd :: TG) rt) (hG : Gc s G A N B E X H locs) {n : Nat} {i : Int32} (hi : i = nI n) (hn : n < 1000) (hE : E N = .inl (gI G, n, .inl (fun _ => 0))) {k' n' : Nat} (hk : cells + 1 = k') (hs : slots + n = n') (hkR : k' ≤ R.cells) (hsR : n' ≤ R.slots) (hdg : decode cc pc = .ok (.newarray .int, 2))
    (kk : ∀ H : Heap, Gc s G A (N + 1) B E X H locs → W p l e R s m args below meth c H locs k' n' Q (F0 m (pc + 2) ls (.ref (B + N) :: rest))) : W p l e R s m args below meth c H locs cells slots Q (F0 m pc ls (.int i :: rest)) := by
  subst hi hk hs
  refine va_newaK (atype := .int) (N := n) C.1 C.2.1 (C.2.2.2.2.1 _ (List.mem_cons_of_mem _ tg_1_52)) rfl hdg rfl (by rw [ilt0 (by omega)]; exact not_false) (iclamp (by omega)) (by show n * 4 ≤ _; omega) hkR hsR hG.2.1 fun H1 cA e1 z1 o1 hAr hNm => ?_
  have hc : cA = gI G := Option.some.inj (hNm.symm.trans (hG.1.1.1.1.2 0 _ rfl).2)
  subst hc
  refine kk H1 (hG.grow (by rw [z1, hG.2.1]) (fun q hq => o1 q (by rw [← hG.2.1]; exact hq)) ?_)
  rw [hE]
  exact e1
theorem rc_newZ (C : CX p s m args meth c cc nL own (cd :: TG) rt) (hG : Gc s G A N B E X H locs) {n : Nat} {i : Int32} (hi : i = nI n) (hn : n < 1000) (hE : E N = .inl (gZ G, n, .inl (fun _ => 0))) {k' n' : Nat} (hk : cells + 1 = k') (hs : slots + n = n') (hkR : k' ≤ R.cells) (hsR : n' ≤ R.slots) (hdg : decode cc pc = .ok (.newarray .boolean, 2))
    (kk : ∀ H : Heap, Gc s G A (N + 1) B E X H locs → W p l e R s m args below meth c H locs k' n' Q (F0 m (pc + 2) ls (.ref (B + N) :: rest))) : W p l e R s m args below meth c H locs cells slots Q (F0 m pc ls (.int i :: rest)) := by
  subst hi hk hs
  refine va_newaK (atype := .boolean) (N := n) C.1 C.2.1 (C.2.2.2.2.1 _ (List.mem_cons_of_mem _ tg_1_226)) rfl hdg rfl (by rw [ilt0 (by omega)]; exact not_false) (iclamp (by omega)) (by show n * 1 ≤ _; omega) hkR hsR hG.2.1 fun H1 cA e1 z1 o1 hAr hNm => ?_
  have hc : cA = gZ G := Option.some.inj (hNm.symm.trans (hG.1.1.1.1.2 1 _ rfl).2)
  subst hc
  refine kk H1 (hG.grow (by rw [z1, hG.2.1]) (fun q hq => o1 q (by rw [← hG.2.1]; exact hq)) ?_)
  rw [hE]
  exact e1
theorem rc_new (C : CX p s m args meth c cc nL own Ts rt) (hG : Gc s G A N B E X H locs) {ci Nk index : Nat} {Cn : String} {T : u_T} {fs : List Value} (hE : E N = .inr (ci, fs)) (hcl : vwCl[ci]? = some (Cn, T, Nk)) (hin : ∀ w ∈ u_ws Cn T Nk, w ∈ Ts) (ty : Nat → FieldType) (hty : ∀ k, k < Nk → parseFieldDescriptor (T k).2.2.1 = some (ty k)) (hfs : ∀ j, j < Nk → defaultValue (ty j) = vp_V fs j) (hlk : Cond.classLink own index Cn ∈ Ts) (hins : (Cond.instantiable Cn Nk).before args s = true) (hini : Cond.initialized Cn ∈ Ts) {k' n' : Nat} (hk : cells + 1 = k') (hs : slots + Nk = n') (hkR : k' ≤ R.cells) (hsR : n' ≤ R.slots) (hdg : decode cc pc = .ok (.new index, 3))
    (kk : ∀ H : Heap, Gc s G A (N + 1) B E X H locs → W p l e R s m args below meth c H locs k' n' Q (F0 m (pc + 3) ls (.ref (B + N) :: rest))) : W p l e R s m args below meth c H locs cells slots Q (F0 m pc ls rest) := by
  subst hk hs
  have hKn := hG.1.1.1.1.1 ci _ hcl
  refine W.newcK C.1 C.2.1 C.2.2.2.1 (C.2.2.2.2.1 _ hlk) hins (C.2.2.2.2.1 _ hini) rfl hdg hkR hsR hKn.2.1 hG.2.1 fun H1 kC hkC e1 z1 o1 => ?_
  refine kk H1 (hG.grow (by rw [z1, hG.2.1]) (fun q hq => o1 q (by rw [← hG.2.1]; exact hq)) ?_)
  rw [hE]
  exact ⟨_, hcl, (u_born ty C.2.2.2.2.1 hin hKn hkC e1 hty).to hfs⟩
theorem rc_newA (C : CX p s m args meth c cc nL own Ts rt) (hG : Gc s G A N B E X H locs) {index t0 n : Nat} {Cn : String} {cA : ClassId} {i : Int32} (hi : i = nI n) (hn : n < 1000) (hAO : va_AO Cn s) (ht : (tysG G)[t0]? = some (cA, .object Cn)) (hE : E N = .inl (cA, n, .inr (.inr (.inr (.inr fun _ => none))))) (hlk : Cond.classLink own index Cn ∈ Ts) {k' n' : Nat} (hk : cells + 1 = k') (hs : slots + n = n') (hkR : k' ≤ R.cells) (hsR : n' ≤ R.slots) (hdg : decode cc pc = .ok (.anewarray index, 3))
    (kk : ∀ H : Heap, Gc s G A (N + 1) B E X H locs → W p l e R s m args below meth c H locs k' n' Q (F0 m (pc + 3) ls (.ref (B + N) :: rest))) : W p l e R s m args below meth c H locs cells slots Q (F0 m pc ls (.int i :: rest)) := by
  subst hi hk hs
  have hcl : (nI n).toNatClampNeg = n := iclamp (by omega)
  refine W.anew C.1 C.2.1 C.2.2.2.1 (C.2.2.2.2.1 _ hlk) (va_AO.use hAO) rfl hdg rfl (by rw [ilt0 (by omega)]; exact not_false) (by rw [hcl]; omega) hkR (by rw [hcl]; exact hsR) fun cA' kA comp f1 f2 f3 f4 => ?_
  obtain ⟨kB, compB, -, -, -, g4⟩ := (hG.1.1.1.1.2 t0 _ ht).2
  have hc : cA' = cA := Option.some.inj (f1.symm.trans g4)
  subst hc
  rw [hcl]
  have hsz := hG.2.1
  refine W.eq (g2 := F0 m (pc + 3) ls (.ref (B + N) :: rest)) (by rw [hsz]; rfl) ?_
  refine kk _ (hG.grow (by rw [Array.size_push]) (fun q hq => by rw [Array.getElem?_push, if_neg (Nat.ne_of_lt hq)]) ?_)
  rw [hE]
  show (H.push _)[B + N]? = some (vp_cell _ _)
  rw [← hsz, Array.getElem?_push_size, vp_cell_q, ← arrV_new]
  rfl
end GROW
