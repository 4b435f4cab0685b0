/-! four rows of twelve, made at once -/
def oC (cA : ClassId) (h i : Nat) : Cell := arrV cA 4 (fun j => if j < i then .ref (h + 1 + j) else .null)
def iC (cI : ClassId) : Cell := arrV cI 12 (fun _ => .int 0)
def mkS (s : State) (cA cI : ClassId) : Nat → State
  | 0 => s.pushCell (oC cA s.heap.size 0)
  | i + 1 => ((mkS s cA cI i).pushCell (iC cI)).setCell s.heap.size (oC cA s.heap.size (i + 1))
theorem oC_set {cA : ClassId} {h i : Nat} (hi : i < 4) : (oC cA h i).setSlot i (.ref (h + 1 + i)) = oC cA h (i + 1) := by
  unfold oC
  rw [arrV_store]
  congr 1
  funext q
  unfold updV
  by_cases hq : q = i
  · subst hq
    simp
  · by_cases hl : q < i
    · simp [hq, hl, Nat.lt_succ_of_lt hl]
    · simp [hq, hl, show ¬ q < i + 1 by omega]
theorem oC_0 {cA : ClassId} {h : Nat} : oC cA h 0 = { cls := cA, slots := Array.replicate 4 .null, vm := .none } := by
  unfold oC
  rw [show (fun j => if j < 0 then Value.ref (h + 1 + j) else Value.null) = fun _ => Value.null from by funext j; simp, ← arrV_new]
theorem iC_0 {cI : ClassId} : iC cI = { cls := cI, slots := Array.replicate 12 (.int 0), vm := .none } := by
  unfold iC
  rw [← arrV_new]
theorem mkS_f {s : State} {cA cI : ClassId} : ∀ i, i ≤ 4 → ((mkS s cA cI i).heap.size = s.heap.size + 1 + i ∧ (mkS s cA cI i).vm = s.vm ∧ (mkS s cA cI i).slotsUsed = s.slotsUsed + 4 + 12 * i) ∧ (mkS s cA cI i).heap[s.heap.size]? = some (oC cA s.heap.size i) ∧ (∀ j, j < i → (mkS s cA cI i).heap[s.heap.size + 1 + j]? = some (iC cI)) ∧ ∀ q : Nat, q < s.heap.size → (mkS s cA cI i).heap[q]? = s.heap[q]?
  | 0, _ => by
    refine ⟨⟨by simp [mkS], rfl, by simp [mkS, oC, arrV_size]⟩, by simp [mkS], fun j hj => absurd hj (Nat.not_lt_zero j), fun q hq => ?_⟩
    show (s.heap.push _)[q]? = _
    rw [Array.getElem?_push, if_neg (Nat.ne_of_lt hq)]
  | i + 1, h => by
    obtain ⟨⟨a1, a2, a3⟩, b, c, d⟩ := mkS_f (s := s) (cA := cA) (cI := cI) i (by omega)
    have hh : (mkS s cA cI (i + 1)).heap = ((mkS s cA cI i).heap.push (iC cI)).setIfInBounds s.heap.size (oC cA s.heap.size (i + 1)) := rfl
    refine ⟨⟨?_, ?_, ?_⟩, ?_, fun j hj => ?_, fun q hq => ?_⟩
    · rw [hh]
      simp [a1]
      omega
    · exact a2
    · show (mkS s cA cI i).slotsUsed + (iC cI).slots.size = _
      rw [a3]
      simp [iC, arrV_size]
      omega
    · rw [hh, Array.getElem?_setIfInBounds, if_pos rfl, if_pos (by simp [a1]; omega)]
    · rw [hh, Array.getElem?_setIfInBounds, if_neg (by omega), Array.getElem?_push]
      by_cases z : j = i
      · rw [if_pos (by rw [a1, z])]
      · rw [if_neg (by rw [a1]; omega)]
        exact c j (by omega)
    · rw [hh, Array.getElem?_setIfInBounds, if_neg (by omega), Array.getElem?_push, if_neg (by rw [a1]; omega)]
      exact d q hq
theorem oC_end {cA : ClassId} {h B N : Nat} (hh : h = B + N) : oC cA h 4 = vp_cell cA (4, .inr (.inr (.inr (.inr (fun j => if j < 4 then some (B + (N + 1 + 1 * j)) else none))))) := by
  rw [vp_cell_q]
  unfold oC
  refine congrArg (arrV cA 4) (funext fun q => ?_)
  by_cases hq : q < 4
  · rw [if_pos hq, if_pos hq]
    show Value.ref _ = Value.ref _
    rw [show h + 1 + q = B + (N + 1 + 1 * q) by omega]
  · rw [if_neg hq, if_neg hq]
    rfl
theorem mkS_top {s : State} {f : JFrame} {cA cI : ClassId} : ∀ i, mkS (s.setTop f) cA cI i = (mkS s cA cI i).setTop f
  | 0 => rfl
  | i + 1 => by
    show (((mkS (s.setTop f) cA cI i)).pushCell _).setCell _ _ = _
    rw [mkS_top i]
    rfl
theorem mkS_stand {p : Program} {l : Launch} {e : Env} {R : Room} {s : State} {m : MethodId} {args : Array Value} {below : List Frame} {meth : Method} {c : Code} {T : State} {locs : List Loc} {cells slots : Nat} {cA cI : ClassId} (X : Stand p l e R s m args below meth c T locs cells slots) : ∀ i, i ≤ 4 → ∃ L : List Loc, (∀ q ∈ L, q.base = T.heap.size) ∧ Stand p l e R s m args below meth c (mkS T cA cI i) (locs ++ L) (cells + 1 + i) (slots + 4 + 12 * i)
  | 0, _ => ⟨[], fun q hq => absurd hq List.not_mem_nil, by
    have h := X.pushed (oC cA T.heap.size 0)
    rw [show (oC cA T.heap.size 0).slots.size = 4 from arrV_size _ _ _] at h
    rw [List.append_nil]
    exact h⟩
  | i + 1, hi => by
    obtain ⟨L, hL, Xi⟩ := mkS_stand X (cA := cA) (cI := cI) i (by omega)
    obtain ⟨⟨a1, a2, a3⟩, b, c, d⟩ := mkS_f (s := T) (cA := cA) (cI := cI) i (by omega)
    have h := Xi.pushed (iC cI)
    have hc : ((mkS T cA cI i).pushCell (iC cI)).heap[T.heap.size]? = some (oC cA T.heap.size i) := by
      show ((mkS T cA cI i).heap.push _)[_]? = _
      rw [Array.getElem?_push, if_neg (by rw [a1]; omega)]
      exact b
    have h := h.stored hc i (.ref (T.heap.size + 1 + i))
    rw [oC_set (by omega), show (iC cI).slots.size = 12 from arrV_size _ _ _] at h
    refine ⟨L ++ [⟨T.heap.size, i⟩], fun q hq => ?_, ?_⟩
    · rcases List.mem_append.mp hq with z | z
      · exact hL q z
      · rw [List.mem_singleton.mp z]
    · rw [← List.append_assoc]
      exact h
section MUL
variable {EE : CtlPost} {e : Env} {d : Bool} {acts : List Action} {s : State}
theorem wp_mk1 {cI cc : ClassId} {k : Class} (hk : s.vm.classes[cI]? = some k) (hkind : k.kind = .array cc .int) (h1 : ¬ 12 > e.platform.arrayLengthLimit) (h2 : ¬ 12 * 4 > e.platform.maxHeapBytes) (h3 : s.heap.size < e.platform.maxCells) (h4 : s.slotsUsed + 12 ≤ e.platform.maxSlots) {Q : Addr → Pre} (hq : ∀ acts', Q s.heap.size d acts' (s.pushCell (iC cI))) : wp (multianewarray.make cI [nI 12]) Q EE e d acts s := by
  rw [multianewarray.make]
  simp only [wp_bind', W.ite, wp_pure', W.theClass, hk, hkind, Option.some.injEq, exists_eq_left']
  rw [if_neg (by decide)]
  refine W.newArray_of hk hkind h1 h2 h3 h4 rfl fun acts' => ?_
  have h := hq acts'
  rw [iC_0] at h
  exact h
theorem wp_mk2 {cA cI cc : ClassId} {k kI : Class} (hk : s.vm.classes[cA]? = some k) (hkind : k.kind = .array cI (.array .int)) (hkI : s.vm.classes[cI]? = some kI) (hkindI : kI.kind = .array cc .int) (h1 : ¬ 12 > e.platform.arrayLengthLimit) (h2 : ¬ 12 * 4 > e.platform.maxHeapBytes) (h3 : s.heap.size + 5 ≤ e.platform.maxCells) (h4 : s.slotsUsed + 52 ≤ e.platform.maxSlots) {Q : Addr → Pre} (hq : ∀ d' acts', Q s.heap.size d' acts' (mkS s cA cI 4)) : wp (multianewarray.make cA [nI 4, nI 12]) Q EE e d acts s := by
  rw [multianewarray.make]
  simp only [wp_bind', W.ite, wp_pure', W.theClass, hk, hkind, Option.some.injEq, exists_eq_left']
  rw [if_neg (by decide)]
  refine W.newArray_of hk hkind (by show ¬ 4 > _; omega) (by show ¬ 4 * 4 > _; omega) (by omega) (by show s.slotsUsed + 4 ≤ _; omega) rfl fun acts' => ?_
  rw [show ({ cls := cA, slots := Array.replicate (nI 4).toNatClampNeg Value.null } : Cell) = oC cA s.heap.size 0 from oC_0.symm]
  rw [if_neg (by decide), wp_bind', Std.Legacy.Range.forIn_eq_forIn_range']
  show wp (forIn (List.range' 0 4 1) PUnit.unit _) _ EE e d acts' (mkS s cA cI 0)
  refine wp_forIn_inv (fun rest s' => ∃ i, i ≤ 4 ∧ rest = List.range' i (4 - i) 1 ∧ s' = mkS s cA cI i) _ _ ⟨0, Nat.zero_le _, rfl, rfl⟩ ?_ ?_
  · rintro x rest s' d' acts'' Q' ⟨i, hi, hl, rfl⟩ hnext
    have hi4 : i < 4 := by
      rcases Nat.lt_or_ge i 4 with z | z
      · exact z
      · rw [show 4 - i = 0 by omega] at hl
        cases hl
    rw [show 4 - i = (4 - (i + 1)) + 1 by omega, List.range'_succ] at hl
    obtain ⟨rfl, hr⟩ := List.cons.inj hl
    obtain ⟨⟨a1, a2, a3⟩, b, c, d⟩ := mkS_f (s := s) (cA := cA) (cI := cI) x (by omega)
    simp only [wp_bind']
    refine wp_mk1 (by rw [a2]; exact hkI) hkindI h1 h2 (by rw [a1]; omega) (by rw [a3]; omega) fun acts3 => ?_
    simp only [wp_bind', W.writeLoc, wp_pure']
    have hc : ((mkS s cA cI x).pushCell (iC cI)).heap[s.heap.size]? = some (oC cA s.heap.size x) := by
      show ((mkS s cA cI x).heap.push _)[_]? = _
      rw [Array.getElem?_push, if_neg (by rw [a1]; omega)]
      exact b
    refine ⟨_, hc, fun q => (by cases q), by rw [show (oC cA s.heap.size x).slots.size = 4 from arrV_size _ _ _]; exact hi4, ?_, hnext _ _ _ ⟨x + 1, hi4, hr, ?_⟩⟩
    · show ((mkS s cA cI x).pushCell (iC cI)).fitsSlot cA .none x _ = true
      simp [State.fitsSlot, State.slotType?, State.pushCell, a2, hk, hkind]
      rfl
    · rw [a1, oC_set hi4]
      rfl
  · rintro s' d' acts'' ⟨i, hi, hl, rfl⟩
    have hi4 : i = 4 := by
      rcases Nat.lt_or_ge i 4 with z | z
      · rw [show 4 - i = (4 - (i + 1)) + 1 by omega, List.range'_succ] at hl
        cases hl
      · omega
    subst hi4
    simp only [wp_pure']
    exact hq _ _
end MUL
theorem Gc.grows {s : State} {G : GG} {A : Nat → Prop} {N B : Nat} {E : Nat → va_E} {X : va_W} {H : Heap} {locs locs1 : List Loc} (hG : Gc s G A N B E X H locs) {H1 : Heap} (n : Nat) (hz : H1.size = H.size + n) (ho : ∀ q : Nat, q < H.size → H1[q]? = H[q]?) (hat : ∀ j, j < n → va_at G.1 vwCl (B + (N + j), E (N + j)) H1) (hl : ∀ q ∈ locs1, A q.base) : Gc s G A (N + n) B E X H1 (locs ++ locs1) := by
  obtain ⟨⟨⟨hE, ⟨hP, hD⟩, hS⟩, hO⟩, hN, hA⟩ := hG
  have key : ∀ j, j ≤ n → (va_P G.1 vwCl (pool (N + j) B E ++ X) H1 ∧ va_D A (pool (N + j) B E ++ X)) ∧ ∀ q, q ∈ pool (N + j) B E ++ X → q.1 < B + N + j := by
    intro j
    induction j with
    | zero =>
      intro _
      refine ⟨⟨hP.kept fun k q hk => ho _ (hP k q hk).lt, hD⟩, fun q hq => ?_⟩
      obtain ⟨i, hi⟩ := List.getElem?_of_mem hq
      have := (hP i q hi).lt
      omega
    | succ j ih =>
      intro hj
      obtain ⟨⟨i1, i2⟩, i3⟩ := ih (by omega)
      have perm : (pool (N + j) B E ++ X ++ [(B + (N + j), E (N + j))]).Perm (pool (N + (j + 1)) B E ++ X) := by
        rw [show N + (j + 1) = (N + j) + 1 from rfl, pool_succ, List.append_assoc, List.append_assoc]
        exact List.Perm.append_left _ List.perm_append_comm
      refine ⟨⟨vaP_mem (fun q hq => perm.mem_iff.mpr hq) (i1.app fun k q hk => ?_), vaD_perm perm ?_⟩, fun q hq => ?_⟩
      · have hz : k < 1 := (List.getElem?_eq_some_iff.mp hk).1
        rw [show k = 0 by omega] at hk
        cases hk
        exact hat j (by omega)
      · rw [vaD_nd] at i2 ⊢
        refine ⟨?_, fun q hq => ?_⟩
        · rw [List.map_append, List.nodup_append]
          refine ⟨i2.1, by simp, fun a ha b hb e => ?_⟩
          obtain ⟨q, hq, rfl⟩ := List.mem_map.mp ha
          have h1 := i3 q hq
          have h2 : b = B + (N + j) := by simpa using hb
          omega
        · rcases List.mem_append.mp hq with z | z
          · exact i2.2 q z
          · rw [List.mem_singleton.mp z]
            exact hA _ (by show B ≤ B + (N + j); omega)
      · rcases List.mem_append.mp (perm.mem_iff.mpr hq) with z | z
        · have := i3 q z
          omega
        · rw [List.mem_singleton.mp z]
          show B + (N + j) < _
          omega
  obtain ⟨⟨k1, k2⟩, -⟩ := key n (Nat.le_refl n)
  refine ⟨⟨⟨hE, ⟨k1, k2⟩, Nat.le_trans hS.1 (by omega), fun q h1 h2 => (ho q (Nat.lt_of_lt_of_le h1 hS.1)).trans (hS.2.1 q h1 h2), fun q hq => ?_⟩, hO⟩, by omega, hA⟩
  rcases List.mem_append.mp hq with z | z
  · exact hS.2.2 q z
  · exact hl q z
section MUL2
variable {p : Program} {l : Launch} {e : Env} {R : Room} {s : State} {m : MethodId} {args : Array Value} {below : List Frame} {meth : Method} {c : Code} {H : Heap} {locs : List Loc} {Q : State → Prop} {cells slots : Nat}
variable {cc : ByteArray} {nL : Nat} {own : String} {Ts : List Cond} {rt : Option FieldType} {pc : Nat} {ls : Array Slot} {rest : List Value}
variable {G : GG} {A : Nat → Prop} {N B : Nat} {E : Nat → va_E} {X : va_W}
theorem rc_mul (C : CX p s m args meth c cc nL own Ts rt) (hG : Gc s G A N B E X H locs) (hE0 : E N = .inl (gR G, 4, .inr (.inr (.inr (.inr (fun j => if j < 4 then some (B + (N + 1 + 1 * j)) else none)))))) (hEj : ∀ j, j < 4 → E (N + 1 + j) = .inl (gI G, 12, .inl (fun _ => 0))) {index : Nat} (hlk : Cond.classLink own index "[[I" ∈ Ts) {k' n' : Nat} (hk : cells + 5 = k') (hs : slots + 52 = n') (hkR : k' ≤ R.cells) (hsR : n' ≤ R.slots) (hdg : decode cc pc = .ok (.multianewarray index 2, 4))
    (kk : ∀ (H : Heap) (locs : List Loc), Gc s G A (N + 5) B E X H locs → W p l e R s m args below meth c H locs k' n' Q (F0 m (pc + 4) ls (.ref (B + N) :: rest))) : W p l e R s m args below meth c H locs cells slots Q (F0 m pc ls (.int (nI 12) :: .int (nI 4) :: rest)) := by
  subst hk hs
  intro T hT XX
  obtain ⟨hx, hcode, hml, hown, hts, hrt, hlocks⟩ := C
  subst hT
  have hN := hG.2.1
  have hpl : e.platform.magicAccessors = ({} : Platform).magicAccessors := by rw [XX.admits.platform]
  obtain ⟨k, hk1, hk2⟩ := hG.1.2.2.2
  obtain ⟨kI, ccI, hkI, hkindI⟩ : ∃ (kI : Class) (ccI : ClassId), s.vm.classes[gI G]? = some kI ∧ kI.kind = .array ccI .int := by
    obtain ⟨-, kI, hkI, ccI, hkindI⟩ := (hG.1.1.1.1.2 0 _ rfl).1 0 (fun _ => .int 0)
    exact ⟨kI, ccI, hkI, hkindI⟩
  have hR : s.vm.findClass "[[I" = some (gR G) := (hG.1.1.1.1.2 4 _ rfl).2
  obtain ⟨c0, hfc0, hcl⟩ := Cond.classLink_spec hown (hts _ hlk) e.platform hpl
  have hc0 : c0 = gR G := Option.some.inj (hfc0.symm.trans hR)
  subst hc0
  obtain ⟨hg₁, hwarm₁, hready₁⟩ := State.classEntry (e := e) XX.warmed hcl
  generalize T.vm.noted m.cls index (.cls (gR G)) = vm₁ at hg₁ hwarm₁ hready₁
  have hal : s.vm.Alike vm₁ := hwarm₁.alike
  obtain ⟨k₁, hk₁, he₁⟩ := hal.2.2 _ _ hk1
  obtain ⟨kI₁, hkI₁, heI⟩ := hal.2.2 _ _ hkI
  have X₁ := XX.noted hwarm₁
  obtain ⟨hr1, hr2⟩ := XX.roomAbove hkR hsR
  obtain ⟨L, hL, X₂⟩ := mkS_stand X₁ (cA := gR G) (cI := gI G) 4 (Nat.le_refl 4)
  obtain ⟨⟨a1, a2, a3⟩, b1, b2, b3⟩ := mkS_f (s := T.setVm vm₁) (cA := gR G) (cI := gI G) 4 (Nat.le_refl 4)
  have hsz : (T.setVm vm₁).heap.size = T.heap.size := rfl
  rw [hsz] at a1 b1 b2 b3
  have hh : (T.setVm vm₁).heap = T.heap := rfl
  rw [hh] at b3
  rw [show slots + 4 + 12 * 4 = slots + 52 by omega, show cells + 1 + 4 = cells + 5 by omega] at X₂
  have hG5 : Gc s G A (N + 5) B E X (mkS (T.setVm vm₁) (gR G) (gI G) 4).heap (locs ++ L) := by
    refine hG.grows 5 (by rw [a1]) b3 (fun j hj => ?_) (fun q hq => by rw [hL q hq, hsz]; exact hG.2.2 _ (by omega))
    by_cases z : j = 0
    · subst z
      rw [Nat.add_zero, hE0]
      show (mkS (T.setVm vm₁) (gR G) (gI G) 4).heap[B + N]? = some (vp_cell _ _)
      rw [← hN, b1, oC_end hN]
    · obtain ⟨i, rfl⟩ : ∃ i, j = i + 1 := ⟨j - 1, by omega⟩
      rw [show N + (i + 1) = N + 1 + i by omega, hEj i (by omega)]
      show (mkS (T.setVm vm₁) (gR G) (gI G) 4).heap[B + (N + 1 + i)]? = some (vp_cell _ _)
      rw [show B + (N + 1 + i) = T.heap.size + 1 + i by omega, b2 i (by omega)]
      rfl
  obtain ⟨t', q1, q2⟩ := kk _ _ hG5 (mkS (T.setVm vm₁) (gR G) (gI G) 4) rfl X₂
  refine ⟨t', ?_, q2⟩
  have hl1 : ¬ 12 > e.platform.arrayLengthLimit := by rw [Launch.admits_arrayLengthLimit XX.admits]; omega
  have hh1 : ¬ 12 * 4 > e.platform.maxHeapBytes := by rw [Launch.admits_maxHeapBytes XX.admits]; omega
  jvm_step XX.here [XX.here.top, hx, hcode, hdg]
  simp only [multianewarray.sem, wp_bind']
  rw [W.resolveClassAt_links (State.method?_setTop (F0 m pc ls (Value.int (nI 12) :: Value.int (nI 4) :: rest)) XX.here.top) hg₁]
  simp only [wp_bind']
  rw [W.popN, if_neg (by decide)]
  refine ⟨F0 m pc ls (Value.int (nI 12) :: Value.int (nI 4) :: rest), State.topJava?_setTop' (s := T.setVm vm₁) _ XX.here.top, [.int (nI 4), .int (nI 12)], rest, rfl, rfl, ?_⟩
  simp only [List.mapM_cons, List.mapM_nil, wp_bind', wp_pure']
  refine wp_mk2 (k := k₁) (kI := kI₁) (cI := gI G) (cc := ccI) (by exact hk₁) (by rw [he₁]; exact hk2) (by exact hkI₁) (by rw [heI]; exact hkindI) hl1 hh1 (by exact hr1) (by exact hr2) fun d' acts' => ?_
  have eS : ((T.setTop (F0 m pc ls (Value.int (nI 12) :: Value.int (nI 4) :: rest))).setVm vm₁).setTop { method := m, pc := pc, locals := ls, stack := rest, locked := none } = (T.setVm vm₁).setTop { method := m, pc := pc, locals := ls, stack := rest, locked := none } := by
    show ((T.setVm vm₁).setTop _).setTop _ = _
    rw [State.setTop_setTop]
  rw [eS, mkS_top]
  simp only [wp_bind', W.mark, W.pushRef, State.topJava?_setTop' _ X₂.here.top, Option.some.injEq, exists_eq_left', State.setTop_setTop, State.heap_setTop]
  intro acts
  simp [jvm, X₂.here.top]
  rw [← hN] at q1
  exact q1
end MUL2
