/-! the layer over the kit: one world a program, as a pool of cells from a base on -/
abbrev GG : Type := va_G × (ClassId × ClassId × ClassId × ClassId × ClassId) × (Nat × Nat × Nat × Nat)
def gI (G : GG) : ClassId := G.2.1.1
def gZ (G : GG) : ClassId := G.2.1.2.1
def gA (G : GG) : ClassId := G.2.1.2.2.1
def gS (G : GG) : ClassId := G.2.1.2.2.2.1
def gR (G : GG) : ClassId := G.2.1.2.2.2.2
def tysG (G : GG) : List (ClassId × FieldType) := [(gI G, .int), (gZ G, .boolean), (gA G, .object "SurfaceSums$Algebra"), (gS G, .object "SurfaceSums$Surface"), (gR G, .array .int)]
def pool (N B : Nat) (E : Nat → va_E) : va_W := (List.range N).map (fun c => (B + c, E c))
theorem pool_get {N B : Nat} {E : Nat → va_E} {X : va_W} {c : Nat} (h : c < N) : (pool N B E ++ X)[c]? = some (B + c, E c) := by
  rw [List.getElem?_append_left (by simp [pool, h])]
  simp [pool, List.getElem?_map, List.getElem?_range h]
theorem pool_set {N B : Nat} {E : Nat → va_E} {X : va_W} {c : Nat} (h : c < N) (e : va_E) : (pool N B E ++ X).set c (B + c, e) = pool N B (va_up E c e) ++ X := by
  rw [List.set_append_left _ _ (by simp [pool, h])]
  congr 1
  apply List.ext_getElem?
  intro i
  simp only [pool, List.getElem?_set, List.getElem?_map, List.length_map, List.length_range]
  by_cases hi : c = i
  · subst hi
    simp [h, va_up]
  · by_cases hl : i < N
    · simp [hi, List.getElem?_range hl, va_up, Ne.symm hi]
    · rw [if_neg hi, List.getElem?_eq_none (by simpa using Nat.le_of_not_lt hl)]
      rfl
theorem nest_warm {w : Cond} {s U : State} (hn : isNest w = true) (hW : s.WarmedH U.vm) (h : va_Nw w s) : va_Nw w U := by
  cases w with
  | fieldLinkNest a i b n d h0 => exact va_Nw.warmF hW h
  | methodLinkNest a i x h0 => exact va_Nw.warmM hW h
  | _ => cases hn
theorem nest_same {w : Cond} {u U : State} (hn : isNest w = true) (he : u.vm = U.vm) (h : va_Nw w u) : va_Nw w U := by
  cases w with
  | fieldLinkNest a i b n d h0 => exact va_Nw.same rfl he h
  | methodLinkNest a i x h0 => exact va_Nw.same rfl he h
  | _ => cases hn
def Stt1 (ty : FieldType) (n d : String) (t : Nat) (f : Nat → Int32) (A : Nat → Prop) (U : State) (H : Heap) : Prop := va_Z "SurfaceSums" n d (.ref t) A U H ∧ va_T ty t 7 (fun j => .int (f j)) A U H
def Stt (G : GG) (A : Nat → Prop) (U : State) (H : Heap) : Prop := Stt1 .char "LETTERS" "[C" G.2.2.1 sLET A U H ∧ Stt1 .int "NEEDS" "[I" G.2.2.2.1 sNEEDS A U H ∧ Stt1 .int "ADDS" "[I" G.2.2.2.2.1 sADDS A U H ∧ Stt1 .int "EULER" "[I" G.2.2.2.2.2 sEULER A U H
theorem Stt1.to {ty : FieldType} {n d : String} {t : Nat} {f : Nat → Int32} {A : Nat → Prop} {u U : State} {H H1 : Heap} (h : Stt1 ty n d t f A u H) (hvm : u.vm.Alike U.vm) (hq : ∀ a : Nat, a < H.size → ¬ A a → H1[a]? = H[a]?) : Stt1 ty n d t f A U H1 := ⟨(h.1.kept hq).moved hvm, (h.2.kept hq).moved hvm⟩
theorem Stt.to {G : GG} {A : Nat → Prop} {u U : State} {H H1 : Heap} (h : Stt G A u H) (hvm : u.vm.Alike U.vm) (hq : ∀ a : Nat, a < H.size → ¬ A a → H1[a]? = H[a]?) : Stt G A U H1 := ⟨h.1.to hvm hq, h.2.1.to hvm hq, h.2.2.1.to hvm hq, h.2.2.2.to hvm hq⟩
/-- what a method is given of the machine's state besides its world -/
def Ev (G : GG) (A : Nat → Prop) (U : State) (H : Heap) : Prop := va_K G.1 vwCl (tysG G) U ∧ (∀ w ∈ nests, va_Nw w U) ∧ Stt G A U H
def Wd (G : GG) (A : Nat → Prop) (N B : Nat) (E : Nat → va_E) (X : va_W) (H : Heap) : Prop := va_P G.1 vwCl (pool N B E ++ X) H ∧ va_D A (pool N B E ++ X)
def Gd (s : State) (G : GG) (A : Nat → Prop) (N B : Nat) (E : Nat → va_E) (X : va_W) (H : Heap) (locs : List Loc) : Prop := Ev G A s s.heap ∧ Wd G A N B E X H ∧ va_S A s.heap H locs
theorem Gd.ev {s : State} {G : GG} {A : Nat → Prop} {N B : Nat} {E : Nat → va_E} {X : va_W} {H : Heap} {locs : List Loc} (hG : Gd s G A N B E X H locs) {U : State} (hU : U.heap = H) (hW : s.WarmedH U.vm) : Ev G A U U.heap :=
  ⟨va_K.moved hW.alike hG.1.1, fun w hw => nest_warm (nests_all w hw) hW (hG.1.2.1 w hw), hG.1.2.2.to hW.alike (fun a h1 h2 => by rw [hU]; exact hG.2.2.2.1 a h1 h2)⟩
def CPre (G : GG) (A : Nat → Prop) (N B : Nat) (E : Nat → va_E) (X : va_W) (av : List Value) : Array Value → State → Prop := va_Pc av (fun U => Ev G A U U.heap ∧ Wd G A N B E X U.heap)
def CPost (G : GG) (A : Nat → Prop) (N B : Nat) (E : Nat → va_E) (X : va_W) (ro : Option Value) : Array Value → State → Outcome → State → Prop := fun _ st oc t => (oc = .returned ro ∧ Wd G A N B E X t.heap) ∧ va_F A st t
def MetW (l : Launch) (y : MethodName) (ws : List Cond) (rm : Room) (G : GG) (A : Nat → Prop) (N B : Nat) (E : Nat → va_E) (X : va_W) (av : List Value) (ro : Option Value) (E' : Nat → va_E) : Prop :=
  Met l y ws rm (CPre G A N B E X av) (CPost G A N B E' X ro) 0 0 A
theorem CPre_blind {G : GG} {A : Nat → Prop} {N B : Nat} {E : Nat → va_E} {X : va_W} {av : List Value} : FrameBlind (CPre G A N B E X av) := by
  intro a U g mk q
  obtain ⟨q1, ⟨q2, q3, q4⟩, q5⟩ := q
  exact ⟨q1, ⟨va_K.moved (u := U) (U := U.calling g mk a) (Vm.Alike.refl U.vm) q2, fun w hw => nest_same (nests_all w hw) (rfl : U.vm = (U.calling g mk a).vm) (q3 w hw), q4.to (Vm.Alike.refl U.vm) (fun _ _ _ => rfl)⟩, q5⟩
/-- what a method's body is given -/
def CX (p : Program) (s : State) (m : MethodId) (args : Array Value) (meth : Method) (c : Code) (cc : ByteArray) (nL : Nat) (own : String) (Ts : List Cond) (rt : Option FieldType) : Prop :=
  p.tables.exec = Jvm.exec ∧ c.code = cc ∧ c.maxLocals = nL ∧ s.vm.findClass own = some m.cls ∧ (∀ w ∈ Ts, w.before args s = true) ∧ meth.sig.returnType = rt ∧ meth.locks = false
section ROWS
variable {p : Program} {l : Launch} {e : Env} {R : Room} {s : State} {m : MethodId} {args : Array Value} {below : List Frame} {meth : Method} {c : Code} {H : Heap} {locs : List Loc} {Q : State → Prop}
variable {cc : ByteArray} {nL : Nat} {own : String} {Ts : List Cond} {rt : Option FieldType} {pc : Nat} {ls : Array Slot} {rest : List Value}
variable {G : GG} {A : Nat → Prop} {N B : Nat} {E : Nat → va_E} {X : va_W}
theorem r_vret (C : CX p s m args meth c cc nL own Ts none) (hG : Gd s G A N B E X H locs) (hdg : decode cc pc = .ok (.return_, 1)) : W p l e R s m args below meth c H locs 0 0 (MQ below (CPost G A N B E X none) args s 0 0 A) (F0 m pc ls []) :=
  W.vret C.1 C.2.1 C.2.2.2.2.2.1 (fun t ht hW => ⟨⟨rfl, by rw [ht]; exact hG.2.1⟩, hG.2.2.F ht⟩) hG.2.2.2.2 hdg C.2.2.2.2.2.2
theorem r_iret (C : CX p s m args meth c cc nL own Ts (some .int)) (hG : Gd s G A N B E X H locs) {v : Int32} (hdg : decode cc pc = .ok (.ireturn, 1)) : W p l e R s m args below meth c H locs 0 0 (MQ below (CPost G A N B E X (some (.int v))) args s 0 0 A) (F0 m pc ls [.int v]) :=
  W.iret C.1 C.2.1 C.2.2.2.2.2.1 (fun t ht hW => ⟨⟨rfl, by rw [ht]; exact hG.2.1⟩, hG.2.2.F ht⟩) hG.2.2.2.2 hdg C.2.2.2.2.2.2
theorem r_zret (C : CX p s m args meth c cc nL own Ts (some .boolean)) (hG : Gd s G A N B E X H locs) {v : Int32} (hv : v = nI 0 ∨ v = nI 1) (hdg : decode cc pc = .ok (.ireturn, 1)) : W p l e R s m args below meth c H locs 0 0 (MQ below (CPost G A N B E X (some (.int v))) args s 0 0 A) (F0 m pc ls [.int v]) :=
  W.zret C.1 C.2.1 C.2.2.2.2.2.1 (by rcases hv with h | h <;> (rw [h]; decide)) (fun t ht hW => ⟨⟨rfl, by rw [ht]; exact hG.2.1⟩, hG.2.2.F ht⟩) hG.2.2.2.2 hdg C.2.2.2.2.2.2
theorem r_lret (C : CX p s m args meth c cc nL own Ts (some .long)) (hG : Gd s G A N B E X H locs) {v : Int64} (hdg : decode cc pc = .ok (.lreturn, 1)) : W p l e R s m args below meth c H locs 0 0 (MQ below (CPost G A N B E X (some (.long v))) args s 0 0 A) (F0 m pc ls [.long v]) :=
  W.lret C.1 C.2.1 C.2.2.2.2.2.1 (fun t ht hW => ⟨⟨rfl, by rw [ht]; exact hG.2.1⟩, hG.2.2.F ht⟩) hG.2.2.2.2 hdg C.2.2.2.2.2.2
def rv (B c : Nat) : Value := if c = 999 then .null else .ref (B + c)
theorem rv_ref {B c : Nat} (h : c ≠ 999) : rv B c = .ref (B + c) := if_neg h
theorem r_aretN {o : String} (C : CX p s m args meth c cc nL own Ts (some (.object o))) (hG : Gd s G A N B E X H locs) (hdg : decode cc pc = .ok (.areturn, 1)) : W p l e R s m args below meth c H locs 0 0 (MQ below (CPost G A N B E X (some (rv B 999))) args s 0 0 A) (F0 m pc ls [.null]) :=
  W.aret C.1 C.2.1 C.2.2.2.2.2.1 (Or.inl ⟨_, rfl⟩) (Or.inl rfl) (fun t ht hW => ⟨⟨rfl, by rw [ht]; exact hG.2.1⟩, hG.2.2.F ht⟩) hG.2.2.2.2 hdg C.2.2.2.2.2.2
theorem r_aret {o : String} (C : CX p s m args meth c cc nL own Ts (some (.object o))) (hG : Gd s G A N B E X H locs) {c0 : Nat} (h9 : c0 ≠ 999) (hdg : decode cc pc = .ok (.areturn, 1)) : W p l e R s m args below meth c H locs 0 0 (MQ below (CPost G A N B E X (some (rv B c0))) args s 0 0 A) (F0 m pc ls [.ref (B + c0)]) :=
  W.aret C.1 C.2.1 C.2.2.2.2.2.1 (Or.inl ⟨_, rfl⟩) (Or.inr ⟨_, rfl⟩) (fun t ht hW => ⟨⟨by rw [rv_ref h9], by rw [ht]; exact hG.2.1⟩, hG.2.2.F ht⟩) hG.2.2.2.2 hdg C.2.2.2.2.2.2
theorem r_top {x y : Int32} (h : y = x) (k : W p l e R s m args below meth c H locs 0 0 Q (F0 m pc ls (.int y :: rest))) : W p l e R s m args below meth c H locs 0 0 Q (F0 m pc ls (.int x :: rest)) := h ▸ k
theorem r_topl {x y : Int64} (h : y = x) (k : W p l e R s m args below meth c H locs 0 0 Q (F0 m pc ls (.long y :: rest))) : W p l e R s m args below meth c H locs 0 0 Q (F0 m pc ls (.long x :: rest)) := h ▸ k
/-- arrays -/
theorem r_iald (C : CX p s m args meth c cc nL own Ts rt) (hG : Gd s G A N B E X H locs) {c0 n : Nat} (h0 : c0 < N) {f : Nat → Int32} (hE : E c0 = .inl (gI G, n, .inl f)) {i : Int32} (hin : inb i n = true) (hdg : decode cc pc = .ok (.iaload, 1))
    (kk : W p l e R s m args below meth c H locs 0 0 Q (F0 m (pc + 1) ls (.int (f i.toNatClampNeg) :: rest))) : W p l e R s m args below meth c H locs 0 0 Q (F0 m pc ls (.int i :: .ref (B + c0) :: rest)) :=
  va_iald C.1 C.2.1 hG.1.1 hG.2.1.1 c0 0 ((pool_get h0).trans (by rw [hE])) rfl (inb_in hin) hdg kk
theorem r_zald (C : CX p s m args meth c cc nL own Ts rt) (hG : Gd s G A N B E X H locs) {c0 n : Nat} (h0 : c0 < N) {f : Nat → Int32} (hE : E c0 = .inl (gZ G, n, .inl f)) {i : Int32} (hin : inb i n = true) (hdg : decode cc pc = .ok (.baload, 1))
    (kk : W p l e R s m args below meth c H locs 0 0 Q (F0 m (pc + 1) ls (.int (f i.toNatClampNeg) :: rest))) : W p l e R s m args below meth c H locs 0 0 Q (F0 m pc ls (.int i :: .ref (B + c0) :: rest)) :=
  va_zald C.1 C.2.1 hG.1.1 hG.2.1.1 c0 1 ((pool_get h0).trans (by rw [hE])) rfl (inb_in hin) hdg kk
theorem r_iast (C : CX p s m args meth c cc nL own Ts rt) (hG : Gd s G A N B E X H locs) {c0 n : Nat} (h0 : c0 < N) {f : Nat → Int32} (hE : E c0 = .inl (gI G, n, .inl f)) {i x : Int32} (hin : inb i n = true) {E' : Nat → va_E} (hE' : va_up E c0 (.inl (gI G, n, .inl (upd f i.toNatClampNeg x))) = E') (hdg : decode cc pc = .ok (.iastore, 1))
    (kk : ∀ (H : Heap) (locs : List Loc), Gd s G A N B E' X H locs → W p l e R s m args below meth c H locs 0 0 Q (F0 m (pc + 1) ls rest)) : W p l e R s m args below meth c H locs 0 0 Q (F0 m pc ls (.int x :: .int i :: .ref (B + c0) :: rest)) := by
  subst hE'
  refine va_iast C.1 C.2.1 hG.1.1 hG.2.1.1 hG.2.1.2 hG.2.2 c0 0 ((pool_get h0).trans (by rw [hE])) rfl (inb_in hin) hdg (fun H1 locs1 hP hD hS => ?_)
  rw [pool_set h0] at hP hD
  exact kk H1 locs1 ⟨hG.1, ⟨hP, hD⟩, hS⟩
theorem r_zast (C : CX p s m args meth c cc nL own Ts rt) (hG : Gd s G A N B E X H locs) {c0 n : Nat} (h0 : c0 < N) {f : Nat → Int32} (hE : E c0 = .inl (gZ G, n, .inl f)) {i x : Int32} (hx : x = nI 0 ∨ x = nI 1) (hin : inb i n = true) {E' : Nat → va_E} (hE' : va_up E c0 (.inl (gZ G, n, .inl (upd f i.toNatClampNeg x))) = E') (hdg : decode cc pc = .ok (.bastore, 1))
    (kk : ∀ (H : Heap) (locs : List Loc), Gd s G A N B E' X H locs → W p l e R s m args below meth c H locs 0 0 Q (F0 m (pc + 1) ls rest)) : W p l e R s m args below meth c H locs 0 0 Q (F0 m pc ls (.int x :: .int i :: .ref (B + c0) :: rest)) := by
  subst hE'
  have hz : vp_nar .boolean x = x := by rcases hx with h | h <;> (rw [h]; decide)
  refine va_zast C.1 C.2.1 hG.1.1 hG.2.1.1 hG.2.1.2 hG.2.2 c0 1 ((pool_get h0).trans (by rw [hE])) rfl (inb_in hin) hdg (fun H1 locs1 hP hD hS => ?_)
  rw [pool_set h0, hz] at hP hD
  exact kk H1 locs1 ⟨hG.1, ⟨hP, hD⟩, hS⟩
theorem r_aald (C : CX p s m args meth c cc nL own Ts rt) (hG : Gd s G A N B E X H locs) {c0 n t0 : Nat} {cA : ClassId} {o : String} (ht : (tysG G)[t0]? = some (cA, .object o)) (h0 : c0 < N) {f : Nat → Option Nat} (hE : E c0 = .inl (cA, n, .inr (.inr (.inr (.inr f))))) {i : Int32} (hin : inb i n = true) {v : Nat} (hv : f i.toNatClampNeg = some v) (hdg : decode cc pc = .ok (.aaload, 1))
    (kk : W p l e R s m args below meth c H locs 0 0 Q (F0 m (pc + 1) ls (.ref v :: rest))) : W p l e R s m args below meth c H locs 0 0 Q (F0 m pc ls (.int i :: .ref (B + c0) :: rest)) :=
  va_aldq C.1 C.2.1 hG.1.1 hG.2.1.1 c0 t0 ((pool_get h0).trans (by rw [hE])) ht (inb_in hin) hdg (by rw [hv]; exact kk)
theorem r_rald (C : CX p s m args meth c cc nL own Ts rt) (hG : Gd s G A N B E X H locs) {c0 n : Nat} (h0 : c0 < N) {f : Nat → Option Nat} (hE : E c0 = .inl (gR G, n, .inr (.inr (.inr (.inr f))))) {i : Int32} (hin : inb i n = true) {v : Nat} (hv : f i.toNatClampNeg = some v) (hdg : decode cc pc = .ok (.aaload, 1))
    (kk : W p l e R s m args below meth c H locs 0 0 Q (F0 m (pc + 1) ls (.ref v :: rest))) : W p l e R s m args below meth c H locs 0 0 Q (F0 m pc ls (.int i :: .ref (B + c0) :: rest)) := by
  have hin := inb_in hin
  have hlt : i.toNatClampNeg < n := Nat.not_le.mp fun q => hin (Or.inr q)
  have hP := hG.2.1.1 c0 _ ((pool_get h0).trans (by rw [hE]))
  refine W.aald (v := .ref v) (ty := .array .int) C.1 C.2.1 hP ((hG.1.1.2 4 _ rfl).1 n (fun j => va_rf (f j))) rfl (fun q => by cases q) (by show ¬ (i < 0 ∨ (arrV _ _ _).slots.size ≤ _); rw [arrV_size]; exact hin) (by show (arrV _ _ _).slots[_]? = _; rw [arrV_read _ _ hlt, hv]; rfl) rfl rfl hdg kk
/-- fields -/
theorem r_getf (C : CX p s m args meth c cc nL own Ts rt) (hG : Gd s G A N B E X H locs) {c0 k i Nk index : Nat} {Cn ref : String} {T : u_T} (h0 : c0 < N) {fs : List Value} (hE : E c0 = .inr (k, fs)) (hcl : vwCl[k]? = some (Cn, T, Nk)) (hin : ∀ w ∈ u_ws Cn T Nk, w ∈ Ts) (hi : i < Nk) (hlink : Cond.fieldLink own index ref (T i).2.1 (T i).2.2.1 ∈ Ts) (href : (T i).1 = ref) {v : Value} (hv : fs[i]? = some v) (hdg : decode cc pc = .ok (.getfield index, 3))
    (kk : W p l e R s m args below meth c H locs 0 0 Q (F0 m (pc + 3) ls (v :: rest))) : W p l e R s m args below meth c H locs 0 0 Q (F0 m pc ls (.ref (B + c0) :: rest)) :=
  va_get C.1 C.2.1 C.2.2.2.2.1 hin C.2.2.2.1 hG.1.1 hG.2.1.1 c0 ((pool_get h0).trans (by rw [hE])) hcl i hi (C.2.2.2.2.1 _ hlink) (by rw [href]; exact fun _ h => h) hv hdg kk
theorem r_getfN (C : CX p s m args meth c cc nL own Ts rt) (hG : Gd s G A N B E X H locs) {c0 k i Nk index : Nat} {Cn ref host : String} {T : u_T} (h0 : c0 < N) {fs : List Value} (hE : E c0 = .inr (k, fs)) (hcl : vwCl[k]? = some (Cn, T, Nk)) (hin : ∀ w ∈ u_ws Cn T Nk, w ∈ Ts) (hi : i < Nk) (hlink : Cond.fieldLinkNest own index ref (T i).2.1 (T i).2.2.1 host ∈ nests) (href : (T i).1 = ref) {v : Value} (hv : fs[i]? = some v) (hdg : decode cc pc = .ok (.getfield index, 3))
    (kk : W p l e R s m args below meth c H locs 0 0 Q (F0 m (pc + 3) ls (v :: rest))) : W p l e R s m args below meth c H locs 0 0 Q (F0 m pc ls (.ref (B + c0) :: rest)) :=
  va_getN C.1 C.2.1 C.2.2.2.2.1 hin C.2.2.2.1 hG.1.1 hG.2.1.1 c0 ((pool_get h0).trans (by rw [hE])) hcl i hi (va_Nw.use rfl (hG.1.2.1 _ hlink)) (by rw [href]; exact fun _ h => h) hv hdg kk
theorem r_putf (C : CX p s m args meth c cc nL own Ts rt) (hG : Gd s G A N B E X H locs) {c0 k i Nk index : Nat} {Cn ref : String} {T : u_T} (ty0 : Nat → FieldType) (hty : ∀ k, k < Nk → parseFieldDescriptor (T k).2.2.1 = some (ty0 k)) (hnm : ∀ a, a < Nk → ∀ b, b < Nk → a ≠ b → (T a).2.1 ≠ (T b).2.1) (h0 : c0 < N) {fs : List Value} (hE : E c0 = .inr (k, fs)) (hcl : vwCl[k]? = some (Cn, T, Nk)) (hin : ∀ w ∈ u_ws Cn T Nk, w ∈ Ts) (hi : i < Nk) (hlink : Cond.fieldLink own index ref (T i).2.1 (T i).2.2.1 ∈ Ts) (href : (T i).1 = ref) (hfin : (T i).2.2.2 = false) {ty : FieldType} {v : Value} (hd : parseFieldDescriptor (T i).2.2.1 = some ty) (hn : narrow ty v = v) (hfit : fits ty v = true) (hl : i < fs.length) {E' : Nat → va_E} (hE' : va_up E c0 (.inr (k, fs.set i v)) = E') (hdg : decode cc pc = .ok (.putfield index, 3))
    (kk : ∀ (H : Heap) (locs : List Loc), Gd s G A N B E' X H locs → W p l e R s m args below meth c H locs 0 0 Q (F0 m (pc + 3) ls rest)) : W p l e R s m args below meth c H locs 0 0 Q (F0 m pc ls (v :: .ref (B + c0) :: rest)) := by
  subst hE'
  refine va_put C.1 C.2.1 C.2.2.2.2.1 hin ty0 hty hnm C.2.2.2.1 hG.1.1 hG.2.1.1 hG.2.1.2 hG.2.2 c0 ((pool_get h0).trans (by rw [hE])) hcl i hi (C.2.2.2.2.1 _ hlink) (by rw [href]; exact fun _ h => h) hfin hd hn hfit hl hdg (fun H1 locs1 hP hD hS => ?_)
  rw [pool_set h0] at hP hD
  exact kk H1 locs1 ⟨hG.1, ⟨hP, hD⟩, hS⟩
theorem r_putfN (C : CX p s m args meth c cc nL own Ts rt) (hG : Gd s G A N B E X H locs) {c0 k i Nk index : Nat} {Cn ref host : String} {T : u_T} (ty0 : Nat → FieldType) (hty : ∀ k, k < Nk → parseFieldDescriptor (T k).2.2.1 = some (ty0 k)) (hnm : ∀ a, a < Nk → ∀ b, b < Nk → a ≠ b → (T a).2.1 ≠ (T b).2.1) (h0 : c0 < N) {fs : List Value} (hE : E c0 = .inr (k, fs)) (hcl : vwCl[k]? = some (Cn, T, Nk)) (hin : ∀ w ∈ u_ws Cn T Nk, w ∈ Ts) (hi : i < Nk) (hlink : Cond.fieldLinkNest own index ref (T i).2.1 (T i).2.2.1 host ∈ nests) (href : (T i).1 = ref) (hfin : (T i).2.2.2 = false) {ty : FieldType} {v : Value} (hd : parseFieldDescriptor (T i).2.2.1 = some ty) (hn : narrow ty v = v) (hfit : fits ty v = true) (hl : i < fs.length) {E' : Nat → va_E} (hE' : va_up E c0 (.inr (k, fs.set i v)) = E') (hdg : decode cc pc = .ok (.putfield index, 3))
    (kk : ∀ (H : Heap) (locs : List Loc), Gd s G A N B E' X H locs → W p l e R s m args below meth c H locs 0 0 Q (F0 m (pc + 3) ls rest)) : W p l e R s m args below meth c H locs 0 0 Q (F0 m pc ls (v :: .ref (B + c0) :: rest)) := by
  subst hE'
  refine va_putN C.1 C.2.1 C.2.2.2.2.1 hin ty0 hty hnm C.2.2.2.1 hG.1.1 hG.2.1.1 hG.2.1.2 hG.2.2 c0 ((pool_get h0).trans (by rw [hE])) hcl i hi (va_Nw.use rfl (hG.1.2.1 _ hlink)) (by rw [href]; exact fun _ h => h) hfin hd hn hfit hl hdg (fun H1 locs1 hP hD hS => ?_)
  rw [pool_set h0] at hP hD
  exact kk H1 locs1 ⟨hG.1, ⟨hP, hD⟩, hS⟩
/-- static tables -/
theorem r_gets (C : CX p s m args meth c cc nL own Ts rt) (hG : Gd s G A N B E X H locs) {n d : String} {t index : Nat} {ty : FieldType} {f : Nat → Int32} (hZ : Stt1 ty n d t f A s s.heap) (hlink : Cond.fieldLink own index "SurfaceSums" n d ∈ Ts) (hdg : decode cc pc = .ok (.getstatic index, 3))
    (kk : W p l e R s m args below meth c H locs 0 0 Q (F0 m (pc + 3) ls (.ref t :: rest))) : W p l e R s m args below meth c H locs 0 0 Q (F0 m pc ls rest) :=
  va_gets C.1 C.2.1 hZ.1 hG.2.2 C.2.2.2.1 (C.2.2.2.2.1 _ hlink) (fun _ h => h) hdg kk
theorem r_getsN (C : CX p s m args meth c cc nL own Ts rt) (hG : Gd s G A N B E X H locs) {n d host : String} {t index : Nat} {ty : FieldType} {f : Nat → Int32} (hZ : Stt1 ty n d t f A s s.heap) (hlink : Cond.fieldLinkNest own index "SurfaceSums" n d host ∈ nests) (hdg : decode cc pc = .ok (.getstatic index, 3))
    (kk : W p l e R s m args below meth c H locs 0 0 Q (F0 m (pc + 3) ls (.ref t :: rest))) : W p l e R s m args below meth c H locs 0 0 Q (F0 m pc ls rest) :=
  va_getsN C.1 C.2.1 hZ.1 hG.2.2 C.2.2.2.1 (va_Nw.use rfl (hG.1.2.1 _ hlink)) (fun _ h => h) hdg kk
theorem r_ti (C : CX p s m args meth c cc nL own Ts rt) (hG : Gd s G A N B E X H locs) {n d : String} {t : Nat} {f : Nat → Int32} (hZ : Stt1 .int n d t f A s s.heap) {i : Int32} (hin : inb i 7 = true) (hdg : decode cc pc = .ok (.iaload, 1))
    (kk : W p l e R s m args below meth c H locs 0 0 Q (F0 m (pc + 1) ls (.int (f i.toNatClampNeg) :: rest))) : W p l e R s m args below meth c H locs 0 0 Q (F0 m pc ls (.int i :: .ref t :: rest)) :=
  va_ti C.1 C.2.1 hZ.2 hG.2.2 (inb_in hin) rfl hdg kk
theorem r_tc (C : CX p s m args meth c cc nL own Ts rt) (hG : Gd s G A N B E X H locs) {n d : String} {t : Nat} {f : Nat → Int32} (hZ : Stt1 .char n d t f A s s.heap) {i : Int32} (hin : inb i 7 = true) (hdg : decode cc pc = .ok (.caload, 1))
    (kk : W p l e R s m args below meth c H locs 0 0 Q (F0 m (pc + 1) ls (.int (f i.toNatClampNeg) :: rest))) : W p l e R s m args below meth c H locs 0 0 Q (F0 m pc ls (.int i :: .ref t :: rest)) :=
  va_tc C.1 C.2.1 hZ.2 hG.2.2 (inb_in hin) rfl hdg kk
/-- calls -/
theorem r_after {g : JFrame} {st0 : List Value} {a : Array Value} {ro : Option Value} {E' : Nat → va_E} (hr : va_Run p l e R s m args below meth c H locs 0 0 0 0 (F0 m pc ls st0) rest (CPost G A N B E' X ro a) A) (hG : Gd s G A N B E X H locs)
    (kk : ∀ (H : Heap) (locs : List Loc), Gd s G A N B E' X H locs → W p l e R s m args below meth c H locs 0 0 Q (F0 m (pc + 3) ls (ro.toList ++ rest))) : W p l e R s m args below meth c H locs 0 0 Q (F0 m pc ls st0) := by
  intro T hT XX
  obtain ⟨v, st₀, t, T', L, h0, X', hL, e1, e2, ⟨⟨hv, hW⟩, hz, hk⟩, st⟩ := hr T hT XX
  cases hv
  rw [h0] at hz hk
  have hS := hG.2.2
  obtain ⟨t2, a1, b1⟩ := kk T'.heap (locs ++ L) ⟨hG.1, by rw [e1]; exact hW, Nat.le_trans hS.1 (by rw [e1]; exact hz), fun q h1 h2 => by rw [e1, hk q (Nat.lt_of_lt_of_le h1 hS.1) h2]; exact hS.2.1 q h1 h2, fun q hq => by
      rcases List.mem_append.mp hq with h | h
      · exact hS.2.2 q h
      · exact hL q h⟩ T' rfl X'
  exact ⟨t2, st t2 a1, b1⟩
variable {y : MethodName} {bytes : ByteArray} {maxL n index : Nat} {ret : Option FieldType} {ws : List Cond} {rm : Room} {As st : List Value} {ro : Option Value} {E' : Nat → va_E} {Cn host : String}
theorem r_preV (hG : Gd s G A N B E X H locs) {c0 k Nk : Nat} {T : u_T} {fs : List Value} (h0 : c0 < N) (hE : E c0 = .inr (k, fs)) (hcl : vwCl[k]? = some (Cn, T, Nk)) : PreV s H Cn (B + c0) (CPre G A N B E X (.ref (B + c0) :: As)) As :=
  ⟨CPre_blind, va_recv (q := (Cn, T, Nk)) hG.1.1 hG.2.1.1 hcl ((pool_get h0).trans (by rw [hE])), fun U hU hW => ⟨rfl, hG.ev hU hW, by rw [hU]; exact hG.2.1⟩⟩
theorem r_preS (hG : Gd s G A N B E X H locs) : PreS s H (CPre G A N B E X As) As :=
  ⟨CPre_blind, fun U hU hW => ⟨rfl, hG.ev hU hW, by rw [hU]; exact hG.2.1⟩⟩
theorem r_callV (C : CX p s m args meth c cc nL own Ts rt) (hG : Gd s G A N B E X H locs) (hsz : ls.size = nL) {c0 k Nk : Nat} {T : u_T} {fs : List Value} (h0 : c0 < N) (hE : E c0 = .inr (k, fs)) (hcl : vwCl[k]? = some (Cn, T, Nk)) (hM : MetW l y ws rm G A N B E X (.ref (B + c0) :: As) ro E') (cw : CallW R s args own Cn index y bytes maxL ret ws rm 0 0 n) (hn : As.length = n) (hst : st = As.reverse ++ .ref (B + c0) :: rest) (hcat : (rest.map fun v => v.category).sum ≤ 8) (hdg : decode cc pc = .ok (.invokevirtual index, 3))
    (kk : ∀ (H : Heap) (locs : List Loc), Gd s G A N B E' X H locs → W p l e R s m args below meth c H locs 0 0 Q (F0 m (pc + 3) ls (ro.toList ++ rest))) : W p l e R s m args below meth c H locs 0 0 Q (F0 m pc ls st) :=
  r_after (g := F0 m pc ls st) (va_runV (As := As) (rest := rest) ⟨C.1, C.2.1, C.2.2.1, C.2.2.2.1, C.2.2.2.2.1⟩ hM cw (r_preV hG h0 hE hcl) rfl hn hsz hst (lv_room hcat) hdg ⟨Nat.zero_le _, Nat.zero_le _⟩) hG kk
theorem r_callVN (C : CX p s m args meth c cc nL own Ts rt) (hG : Gd s G A N B E X H locs) (hsz : ls.size = nL) {c0 k Nk : Nat} {T : u_T} {fs : List Value} (h0 : c0 < N) (hE : E c0 = .inr (k, fs)) (hcl : vwCl[k]? = some (Cn, T, Nk)) (hM : MetW l y ws rm G A N B E X (.ref (B + c0) :: As) ro E') (cw : va_CN R s args own index y host bytes maxL ret ws rm 0 0 n) (hi : (Cond.instanceMethod y).before args s = true) (hse : (Cond.selects Cn y y).before args s = true) (hn : As.length = n) (hst : st = As.reverse ++ .ref (B + c0) :: rest) (hcat : (rest.map fun v => v.category).sum ≤ 8) (hdg : decode cc pc = .ok (.invokevirtual index, 3))
    (kk : ∀ (H : Heap) (locs : List Loc), Gd s G A N B E' X H locs → W p l e R s m args below meth c H locs 0 0 Q (F0 m (pc + 3) ls (ro.toList ++ rest))) : W p l e R s m args below meth c H locs 0 0 Q (F0 m pc ls st) :=
  r_after (g := F0 m pc ls st) (va_runVN (As := As) (rest := rest) ⟨C.1, C.2.1, C.2.2.1, C.2.2.2.1, C.2.2.2.2.1⟩ hM ⟨cw, hi, hse⟩ (r_preV hG h0 hE hcl) rfl hn hsz hst (lv_room hcat) hdg ⟨Nat.zero_le _, Nat.zero_le _⟩) hG kk
theorem r_callS (C : CX p s m args meth c cc nL own Ts rt) (hG : Gd s G A N B E X H locs) (hsz : ls.size = nL) (hM : MetW l y ws rm G A N B E X As ro E') (cw : CallB R s args own index y bytes maxL ret ws rm 0 0 n ∧ (Cond.static y).before args s = true) (hn : As.length = n) (hst : st = As.reverse ++ rest) (hcat : (rest.map fun v => v.category).sum ≤ 8) (hdg : decode cc pc = .ok (.invokestatic index, 3))
    (kk : ∀ (H : Heap) (locs : List Loc), Gd s G A N B E' X H locs → W p l e R s m args below meth c H locs 0 0 Q (F0 m (pc + 3) ls (ro.toList ++ rest))) : W p l e R s m args below meth c H locs 0 0 Q (F0 m pc ls st) :=
  r_after (g := F0 m pc ls st) (va_runS (As := As) (rest := rest) ⟨C.1, C.2.1, C.2.2.1, C.2.2.2.1, C.2.2.2.2.1⟩ hM cw (r_preS hG) rfl hn hsz hst (lv_room hcat) hdg ⟨Nat.zero_le _, Nat.zero_le _⟩) hG kk
theorem r_callSN (C : CX p s m args meth c cc nL own Ts rt) (hG : Gd s G A N B E X H locs) (hsz : ls.size = nL) (hM : MetW l y ws rm G A N B E X As ro E') (cw : va_CN R s args own index y host bytes maxL ret ws rm 0 0 n) (hstt : (Cond.static y).before args s = true) (hn : As.length = n) (hst : st = As.reverse ++ rest) (hcat : (rest.map fun v => v.category).sum ≤ 8) (hdg : decode cc pc = .ok (.invokestatic index, 3))
    (kk : ∀ (H : Heap) (locs : List Loc), Gd s G A N B E' X H locs → W p l e R s m args below meth c H locs 0 0 Q (F0 m (pc + 3) ls (ro.toList ++ rest))) : W p l e R s m args below meth c H locs 0 0 Q (F0 m pc ls st) :=
  r_after (g := F0 m pc ls st) (va_runSN (As := As) (rest := rest) ⟨C.1, C.2.1, C.2.2.1, C.2.2.2.1, C.2.2.2.2.1⟩ hM ⟨cw, hstt, trivial⟩ (r_preS hG) rfl hn hsz hst (lv_room hcat) hdg ⟨Nat.zero_le _, Nat.zero_le _⟩) hG kk
end ROWS
