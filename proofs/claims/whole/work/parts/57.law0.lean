/-! THE CLAIM OUT OF ONE WALK OF THE LAW'S BODY. Your part is whole_start (and what it stands on); all else here is the same for every law, but numbers. -/
def R_law : String := "SurfaceSumsLaw"
def lw_P (b : Addr) (xs : List Int32) (args : Array Value) (s : State) : Prop := args = #[.ref b] ∧ s.IntsAt b xs ∧ xs.length ≤ 2560 ∧ (Jvm.Cond.and given_1 narrow_1).before args s = true
def lw_Q (_ : Array Value) (s : State) (o : Outcome) (t : State) : Prop := o = .returned (some (.int 1)) ∧ Framed s o t [] 600000 7302249
def lw_Z (below : List Frame) (a : Array Value) (s : State) : State → Prop := fun t => ∃ o, t.status = .running ∧ Ended t below o ∧ lw_Q a s o t
/-- the law's own end, with 1 on the stack, nothing written that was there before, its room as the claim has it -/
theorem lw_ret {p : Program} {l : Launch} {e : Env} {s : State} {m : MethodId} {below : List Frame} {meth : Method} {c : Code} {b : Nat} (hx : p.tables.exec = Jvm.exec) (hb : c.code = code) (hr : meth.sig.returnType = ret) (hlocks : meth.locks = false) {pc : Nat} {H : Heap} {ls : Array Slot} (hdg : decode code pc = .ok (.ireturn, 1)) : W p l e room_1 s m #[Value.ref b] below meth c H [] 600000 7302249 (lw_Z below #[Value.ref b] s) (F0 m pc ls [.int 1]) := by
  intro T hT X
  obtain ⟨fs, hret, hrun, hended, hW, hframe⟩ := X.leave (v := some (.int 1)) (hlocks := hlocks) (fun h => by rw [hr] at h; cases h)
  have hmeth' : T.vm.method? m = some meth := X.method'
  refine ⟨T.setFrames fs, ?_, .returned (some (.int 1)), hrun, hended, rfl, ⟨_, rfl⟩, hW, hframe⟩
  jvm_step X.here [X.here.top, hx, hb, hdg, hmeth', hr, ret, narrow_b1]
  (try refine ⟨rfl, ?_⟩); (try refine ⟨rfl, ?_⟩)
  first | (intro acts; rw [hret _ acts rfl rfl rfl]) | rw [hret _ _ rfl rfl rfl]
  exact Steps.refl _
/-- what holds at the law's entry: the machine, the code, the tables' words (any of lw_tbl by 'hts w (by decide +kernel)'), the script of L ints xs at the cell b, what the Statement gives of the start (any of its parts by flat_of_before) -/
def lw_At (p : Program) (s : State) (m : MethodId) (meth : Method) (c : Code) (b L : Nat) (xs : Nat → Int32) : Prop :=
  p.tables.exec = Jvm.exec ∧ c.code = code ∧ meth.sig.returnType = ret ∧ c.maxLocals = 4 ∧ s.vm.findClass R_law = some m.cls ∧ (∀ w ∈ lw_tbl, w.before #[Value.ref b] s = true) ∧ va_X b L xs s s.heap ∧ b < s.heap.size ∧ meth.locks = false ∧ (Jvm.Cond.and given_1 narrow_1).before #[Value.ref b] s = true
abbrev TL : List Cond := Cond.initialized "SurfaceSumsLaw" :: TG
theorem lg_same {v : Int64} : lg_cmp v v = 0 := by
  unfold lg_cmp
  simp
theorem Gd.swap {s : State} {G : GG} {A : Nat → Prop} {N B N' B' : Nat} {E E' : Nat → va_E} {H : Heap} {locs : List Loc} (h : Gd s G A N B E (pool N' B' E') H locs) : Gd s G A N' B' E' (pool N B E) H locs :=
  ⟨h.1, ⟨vaP_mem (fun q hq => List.perm_append_comm.mem_iff.mp hq) h.2.1.1, vaD_perm List.perm_append_comm h.2.1.2⟩, h.2.2⟩
section LAWR
variable {p : Program} {l : Launch} {e : Env} {R : Room} {s : State} {m : MethodId} {args : Array Value} {below : List Frame} {meth : Method} {c : Code} {H : Heap} {locs : List Loc} {Q : State → Prop} {cells slots : Nat}
variable {cc : ByteArray} {nL : Nat} {own : String} {Ts : List Cond} {rt : Option FieldType} {pc : Nat} {ls : Array Slot} {rest : List Value}
variable {G : GG} {A : Nat → Prop} {N B : Nat} {E E' : Nat → va_E} {X : va_W}
theorem rl_after {st0 : List Value} {a : Array Value} {ro : Option Value} (hr : va_Run p l e R s m args below meth c H locs cells slots 0 0 (F0 m pc ls st0) rest (CPost G A N B E' X ro a) A) (hG : Gd s G A N B E X H locs)
    (kk : ∀ (H : Heap) (locs : List Loc), Gd s G A N B E' X H locs → W p l e R s m args below meth c H locs cells slots Q (F0 m (pc + 3) ls (ro.toList ++ rest))) : W p l e R s m args below meth c H locs cells slots Q (F0 m pc ls st0) := by
  intro T hT XX
  obtain ⟨v, st₀, t, T', L, h0, X', hL, e1, e2, ⟨⟨hv, hW⟩, hz, hk⟩, st⟩ := hr T hT XX
  cases hv
  rw [h0] at hz hk
  have hS := hG.2.2
  obtain ⟨t2, a1, b1⟩ := kk T'.heap (locs ++ L) ⟨hG.1, by rw [e1]; exact hW, Nat.le_trans hS.1 (by rw [e1]; exact hz), fun q h1 h2 => by rw [e1, hk q (Nat.lt_of_lt_of_le h1 hS.1) h2]; exact hS.2.1 q h1 h2, fun q hq => by
      rcases List.mem_append.mp hq with h | h
      · exact hS.2.2 q h
      · exact hL q h⟩ T' rfl X'
  exact ⟨t2, st t2 a1, b1⟩
variable {y : MethodName} {bytes : ByteArray} {maxL n index : Nat} {ret' : Option FieldType} {ws : List Cond} {rm : Room} {As st : List Value} {Cn : String} {v : Value}
theorem rl_callV (C : CX p s m args meth c cc nL own Ts rt) (hG : Gd s G A N B E X H locs) (hsz : ls.size = nL) {c0 k Nk : Nat} {T : u_T} {fs : List Value} (h0 : c0 < N) (hE : E c0 = .inr (k, fs)) (hcl : vwCl[k]? = some (Cn, T, Nk)) (hM : MetW l y ws rm G A N B E X (.ref (B + c0) :: As) (some v) E') (cw : CallW R s args own Cn index y bytes maxL ret' ws rm 0 0 n) (hkR : cells ≤ R.cells) (hsR : slots ≤ R.slots) (hn : As.length = n) (hst : st = As.reverse ++ .ref (B + c0) :: rest) (hcat : (rest.map fun v => v.category).sum ≤ 8) (hdg : decode cc pc = .ok (.invokevirtual index, 3))
    (kk : ∀ (H : Heap) (locs : List Loc), Gd s G A N B E' X H locs → W p l e R s m args below meth c H locs cells slots Q (F0 m (pc + 3) ls (v :: rest))) : W p l e R s m args below meth c H locs cells slots Q (F0 m pc ls st) :=
  rl_after (va_runV (As := As) (rest := rest) ⟨C.1, C.2.1, C.2.2.1, C.2.2.2.1, C.2.2.2.2.1⟩ hM cw (r_preV hG h0 hE hcl) rfl hn hsz hst (lv_room hcat) hdg ⟨hkR, hsR⟩) hG kk
theorem rl_arg (C : CX p s m args meth c cc nL own Ts rt) {b L : Nat} {xs : Nat → Int32} (hX : va_X b L xs s s.heap) (hbl : b < s.heap.size) (hbA : ¬ A b) (hS : va_S A s.heap H locs) {i j : Nat} {z : Int} {v1 v2 : Value} (hL : L ≤ 2560) (hij : i + j < L) (hl : lv_has ls nL [(0, .ref b), (1, v1), (2, v2), (3, .int (nI i))]) (hz : Int32.ofInt z = nI j) (d0 : decode cc pc = .ok (.aload_n 0, 1)) (d1 : decode cc (pc + 1) = .ok (.iload_n 3, 1)) (d2 : decode cc (pc + 2) = .ok (.iconst z, 1)) (d3 : decode cc (pc + 3) = .ok (.iadd, 1)) (d4 : decode cc (pc + 4) = .ok (.iaload, 1))
    (kk : W p l e R s m args below meth c H locs cells slots Q (F0 m (pc + 5) ls (.int (xs (i + j)) :: rest))) : W p l e R s m args below meth c H locs cells slots Q (F0 m pc ls rest) := by
  refine lv_aload_n C.1 C.2.1 d0 rfl (lv_at hl 0 rfl) ?_
  refine lv_iload_n C.1 C.2.1 d1 rfl (lv_at hl 3 rfl) ?_
  refine lv_iconst (v := nI j) C.1 C.2.1 d2 hz ?_
  refine lv_iadd C.1 C.2.1 d3 ?_
  rw [nI_add]
  refine va_sld C.1 C.2.1 hX hbl hbA hS (inb_in (by rw [inb_nI (by omega)]; exact hij)) d4 ?_
  rw [nI_clamp (by omega)]
  exact kk
end LAWR
