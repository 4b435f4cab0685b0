/-! what the cells hold, by the programs' memories -/
def fsX (B : Nat) (w : WX) (k c : Nat) : List Value := match k with
  | 0 => [.int (w.1 c 0), .int (w.1 c 1), .int (w.1 c 2), .int (w.1 c 3), .ref (B + (c + 1)), .ref (B + (c + 2)), .ref (B + (c + 3)), .ref (B + (c + 4)), .ref (B + (c + 5)), .ref (B + (c + 6)), .ref (B + (c + 7)), .ref (B + w.2 c 11), .ref (B + w.2 c 12)]
  | 1 => [.ref (B + 112), .ref (B + 117)]
  | 2 => [.int (w.1 c 0), .int (w.1 c 1), .ref (B + (c + 1)), .ref (B + (c + 2)), .ref (B + (c + 3)), .ref (B + (c + 4)), .ref (B + (c + 5)), .ref (B + (c + 6))]
  | 3 => [.ref (B + (c + 1)), .ref (B + (c + 2)), .int (w.1 c 2)]
  | 4 => [.ref (B + (c + 1)), .int (w.1 c 1), .ref (B + (c + 2)), .ref (B + (c + 3))]
  | 5 => [.ref (B + w.2 c 0), .ref (B + w.2 c 1), .ref (B + (c + 3)), .int (w.1 c 3), .int (w.1 c 4)]
  | 6 => [.ref (B + (c + 1)), .int (w.1 c 1), .int (w.1 c 2)]
  | 7 => [.ref (B + 110), .int (w.1 c 1)]
  | _ => [.ref (B + 1), .ref (B + 55), .int (w.1 c 2), .ref (B + 109), .ref (B + 111), .ref (B + 118), .int (w.1 c 6), .ref (B + 119), .ref (B + 121), .ref (B + 131), .ref (B + 138), .ref (B + 145), .ref (B + 149)]
def fsM (B : Nat) (w : Mem) (c : Nat) : List Value := [.ref (B + 1), .ref (B + 2), .int (w c 2), .int (w c 3), .int (w c 4), .ref (B + 3), .ref (B + 4), .ref (B + 5), .ref (B + 6), .ref (B + 7), .ref (B + 8), .ref (B + 9), .ref (B + 10), .ref (B + 11), .ref (B + 12), .int (w c 15), .ref (B + 13), .int (w c 17), .ref (B + 14), .ref (B + 15), .ref (B + 16), .ref (B + 17), .ref (B + 18), .int (w c 23), .ref (B + 19), .ref (B + 20), .ref (B + 21), .ref (B + 22), .ref (B + 23), .int (w c 29), .ref (B + 24), .ref (B + 25), .int (w c 32), .ref (B + 26), .ref (B + 27)]
def rfX (B c p q : Nat) : Nat → Option Nat := fun j => if j < 4 then some (B + (c + p + q * j)) else none
def entX (G : GG) (B : Nat) (w : WX) (c : Nat) : va_E := match KDx c with
  | (10, n) => .inl (gI G, n, .inl (w.1 c))
  | (11, n) => .inl (gZ G, n, .inl (w.1 c))
  | (12, n) => .inl (gA G, n, .inr (.inr (.inr (.inr (rfX B c 5 10)))))
  | (13, n) => .inl (gS G, n, .inr (.inr (.inr (.inr (rfX B c 44 2)))))
  | (14, n) => .inl (gR G, n, .inr (.inr (.inr (.inr (rfX B c 1 1)))))
  | (k, _) => .inr (k, fsX B w k c)
def entM (G : GG) (B : Nat) (w : Mem) (c : Nat) : va_E := match KDm c with
  | (10, n) => .inl (gI G, n, .inl (w c))
  | (k, _) => .inr (k, fsM B w c)
section LAY
variable {G : GG} {B : Nat} {w : WX} {c n : Nat}
theorem entX_I (h : KDx c = (10, n)) : entX G B w c = .inl (gI G, n, .inl (w.1 c)) := by simp only [entX, h]
theorem entX_Z (h : KDx c = (11, n)) : entX G B w c = .inl (gZ G, n, .inl (w.1 c)) := by simp only [entX, h]
theorem entX_A (h : KDx c = (12, n)) : entX G B w c = .inl (gA G, n, .inr (.inr (.inr (.inr (rfX B c 5 10))))) := by simp only [entX, h]
theorem entX_S (h : KDx c = (13, n)) : entX G B w c = .inl (gS G, n, .inr (.inr (.inr (.inr (rfX B c 44 2))))) := by simp only [entX, h]
theorem entX_R (h : KDx c = (14, n)) : entX G B w c = .inl (gR G, n, .inr (.inr (.inr (.inr (rfX B c 1 1))))) := by simp only [entX, h]
theorem entM_I {w : Mem} (h : KDm c = (10, n)) : entM G B w c = .inl (gI G, n, .inl (w c)) := by simp only [entM, h]
theorem entM_O {w : Mem} (h : KDm c = (9, n)) : entM G B w c = .inr (9, fsM B w c) := by simp only [entM, h]
theorem entX_congr {w w' : WX} {q : Nat} (h1 : w.1 q = w'.1 q) (h2 : w.2 q = w'.2 q) : entX G B w q = entX G B w' q := by simp only [entX, fsX, h1, h2]
theorem entM_congr {w w' : Mem} {q : Nat} (h1 : w q = w' q) : entM G B w q = entM G B w' q := by simp only [entM, fsM, h1]
theorem mset_ne {m : Mem} {c i q : Nat} {v : Int32} (h : q ≠ c) : mset m c i v q = m q := by funext j; simp [mset, h]
theorem rset_ne {m : Rf} {c i q v : Nat} (h : q ≠ c) : rset m c i v q = m q := by funext j; simp [rset, h]
theorem mset_eq {m : Mem} {c i : Nat} {v : Int32} : mset m c i v c = upd (m c) i v := by
  funext j
  simp [mset, upd]
theorem va_upX {w w' : WX} {x : va_E} (hx : x = entX G B w' c) (h1 : ∀ q, q ≠ c → w'.1 q = w.1 q) (h2 : ∀ q, q ≠ c → w'.2 q = w.2 q) : va_up (entX G B w) c x = entX G B w' := by
  funext q
  unfold va_up
  by_cases hq : q = c
  · subst hq
    rw [if_pos rfl, hx]
  · rw [if_neg hq]
    exact entX_congr (h1 q hq).symm (h2 q hq).symm
theorem va_upM {w w' : Mem} {x : va_E} (hx : x = entM G B w' c) (h1 : ∀ q, q ≠ c → w' q = w q) : va_up (entM G B w) c x = entM G B w' := by
  funext q
  unfold va_up
  by_cases hq : q = c
  · subst hq
    rw [if_pos rfl, hx]
  · rw [if_neg hq]
    exact entM_congr (h1 q hq).symm
theorem upX_I (h : KDx c = (10, n)) {j : Nat} {v : Int32} : va_up (entX G B w) c (.inl (gI G, n, .inl (upd (w.1 c) j v))) = entX G B (mset w.1 c j v, w.2) :=
  va_upX (by rw [entX_I h]; simp only [mset_eq]) (fun q hq => mset_ne hq) (fun _ _ => rfl)
theorem upX_Z (h : KDx c = (11, n)) {j : Nat} {v : Int32} : va_up (entX G B w) c (.inl (gZ G, n, .inl (upd (w.1 c) j v))) = entX G B (mset w.1 c j v, w.2) :=
  va_upX (by rw [entX_Z h]; simp only [mset_eq]) (fun q hq => mset_ne hq) (fun _ _ => rfl)
theorem upM_I {w : Mem} (h : KDm c = (10, n)) {j : Nat} {v : Int32} : va_up (entM G B w) c (.inl (gI G, n, .inl (upd (w c) j v))) = entM G B (mset w c j v) :=
  va_upM (by rw [entM_I h]; simp only [mset_eq]) (fun q hq => mset_ne hq)
theorem upX_cp (h : KDx c = (10, n)) {f : Nat → Int32} : va_up (entX G B w) c (.inl (gI G, n, .inl f)) = entX G B ((fun c' => if c' = c then f else w.1 c'), w.2) :=
  va_upX (by rw [entX_I h]; simp) (fun q hq => by simp [hq]) (fun _ _ => rfl)
theorem entX_O0 (h : KDx c = (0, n)) : entX G B w c = .inr (0, fsX B w 0 c) := by simp only [entX, h]
theorem upX_0_0 (h : KDx c = (0, n)) {v : Int32} : va_up (entX G B w) c (.inr (0, (fsX B w 0 c).set 0 (.int v))) = entX G B (pX c 0 v w) :=
  va_upX (by rw [entX_O0 h]; simp [fsX, pX, mset]) (fun q hq => mset_ne hq) (fun _ _ => rfl)
theorem upX_0_1 (h : KDx c = (0, n)) {v : Int32} : va_up (entX G B w) c (.inr (0, (fsX B w 0 c).set 1 (.int v))) = entX G B (pX c 1 v w) :=
  va_upX (by rw [entX_O0 h]; simp [fsX, pX, mset]) (fun q hq => mset_ne hq) (fun _ _ => rfl)
theorem upX_0_2 (h : KDx c = (0, n)) {v : Int32} : va_up (entX G B w) c (.inr (0, (fsX B w 0 c).set 2 (.int v))) = entX G B (pX c 2 v w) :=
  va_upX (by rw [entX_O0 h]; simp [fsX, pX, mset]) (fun q hq => mset_ne hq) (fun _ _ => rfl)
theorem upX_0_3 (h : KDx c = (0, n)) {v : Int32} : va_up (entX G B w) c (.inr (0, (fsX B w 0 c).set 3 (.int v))) = entX G B (pX c 3 v w) :=
  va_upX (by rw [entX_O0 h]; simp [fsX, pX, mset]) (fun q hq => mset_ne hq) (fun _ _ => rfl)
theorem upX_0_11 (h : KDx c = (0, n)) {v : Nat} : va_up (entX G B w) c (.inr (0, (fsX B w 0 c).set 11 (.ref (B + v)))) = entX G B (pXr c 11 v w) :=
  va_upX (by rw [entX_O0 h]; simp [fsX, pXr, rset]) (fun _ _ => rfl) (fun q hq => rset_ne hq)
theorem upX_0_12 (h : KDx c = (0, n)) {v : Nat} : va_up (entX G B w) c (.inr (0, (fsX B w 0 c).set 12 (.ref (B + v)))) = entX G B (pXr c 12 v w) :=
  va_upX (by rw [entX_O0 h]; simp [fsX, pXr, rset]) (fun _ _ => rfl) (fun q hq => rset_ne hq)
theorem entX_O1 (h : KDx c = (1, n)) : entX G B w c = .inr (1, fsX B w 1 c) := by simp only [entX, h]
theorem entX_O2 (h : KDx c = (2, n)) : entX G B w c = .inr (2, fsX B w 2 c) := by simp only [entX, h]
theorem upX_2_0 (h : KDx c = (2, n)) {v : Int32} : va_up (entX G B w) c (.inr (2, (fsX B w 2 c).set 0 (.int v))) = entX G B (pX c 0 v w) :=
  va_upX (by rw [entX_O2 h]; simp [fsX, pX, mset]) (fun q hq => mset_ne hq) (fun _ _ => rfl)
theorem upX_2_1 (h : KDx c = (2, n)) {v : Int32} : va_up (entX G B w) c (.inr (2, (fsX B w 2 c).set 1 (.int v))) = entX G B (pX c 1 v w) :=
  va_upX (by rw [entX_O2 h]; simp [fsX, pX, mset]) (fun q hq => mset_ne hq) (fun _ _ => rfl)
theorem entX_O3 (h : KDx c = (3, n)) : entX G B w c = .inr (3, fsX B w 3 c) := by simp only [entX, h]
theorem upX_3_2 (h : KDx c = (3, n)) {v : Int32} : va_up (entX G B w) c (.inr (3, (fsX B w 3 c).set 2 (.int v))) = entX G B (pX c 2 v w) :=
  va_upX (by rw [entX_O3 h]; simp [fsX, pX, mset]) (fun q hq => mset_ne hq) (fun _ _ => rfl)
theorem entX_O4 (h : KDx c = (4, n)) : entX G B w c = .inr (4, fsX B w 4 c) := by simp only [entX, h]
theorem upX_4_1 (h : KDx c = (4, n)) {v : Int32} : va_up (entX G B w) c (.inr (4, (fsX B w 4 c).set 1 (.int v))) = entX G B (pX c 1 v w) :=
  va_upX (by rw [entX_O4 h]; simp [fsX, pX, mset]) (fun q hq => mset_ne hq) (fun _ _ => rfl)
theorem entX_O5 (h : KDx c = (5, n)) : entX G B w c = .inr (5, fsX B w 5 c) := by simp only [entX, h]
theorem upX_5_0 (h : KDx c = (5, n)) {v : Nat} : va_up (entX G B w) c (.inr (5, (fsX B w 5 c).set 0 (.ref (B + v)))) = entX G B (pXr c 0 v w) :=
  va_upX (by rw [entX_O5 h]; simp [fsX, pXr, rset]) (fun _ _ => rfl) (fun q hq => rset_ne hq)
theorem upX_5_1 (h : KDx c = (5, n)) {v : Nat} : va_up (entX G B w) c (.inr (5, (fsX B w 5 c).set 1 (.ref (B + v)))) = entX G B (pXr c 1 v w) :=
  va_upX (by rw [entX_O5 h]; simp [fsX, pXr, rset]) (fun _ _ => rfl) (fun q hq => rset_ne hq)
theorem upX_5_3 (h : KDx c = (5, n)) {v : Int32} : va_up (entX G B w) c (.inr (5, (fsX B w 5 c).set 3 (.int v))) = entX G B (pX c 3 v w) :=
  va_upX (by rw [entX_O5 h]; simp [fsX, pX, mset]) (fun q hq => mset_ne hq) (fun _ _ => rfl)
theorem upX_5_4 (h : KDx c = (5, n)) {v : Int32} : va_up (entX G B w) c (.inr (5, (fsX B w 5 c).set 4 (.int v))) = entX G B (pX c 4 v w) :=
  va_upX (by rw [entX_O5 h]; simp [fsX, pX, mset]) (fun q hq => mset_ne hq) (fun _ _ => rfl)
theorem entX_O6 (h : KDx c = (6, n)) : entX G B w c = .inr (6, fsX B w 6 c) := by simp only [entX, h]
theorem upX_6_1 (h : KDx c = (6, n)) {v : Int32} : va_up (entX G B w) c (.inr (6, (fsX B w 6 c).set 1 (.int v))) = entX G B (pX c 1 v w) :=
  va_upX (by rw [entX_O6 h]; simp [fsX, pX, mset]) (fun q hq => mset_ne hq) (fun _ _ => rfl)
theorem upX_6_2 (h : KDx c = (6, n)) {v : Int32} : va_up (entX G B w) c (.inr (6, (fsX B w 6 c).set 2 (.int v))) = entX G B (pX c 2 v w) :=
  va_upX (by rw [entX_O6 h]; simp [fsX, pX, mset]) (fun q hq => mset_ne hq) (fun _ _ => rfl)
theorem entX_O7 (h : KDx c = (7, n)) : entX G B w c = .inr (7, fsX B w 7 c) := by simp only [entX, h]
theorem upX_7_1 (h : KDx c = (7, n)) {v : Int32} : va_up (entX G B w) c (.inr (7, (fsX B w 7 c).set 1 (.int v))) = entX G B (pX c 1 v w) :=
  va_upX (by rw [entX_O7 h]; simp [fsX, pX, mset]) (fun q hq => mset_ne hq) (fun _ _ => rfl)
theorem entX_O8 (h : KDx c = (8, n)) : entX G B w c = .inr (8, fsX B w 8 c) := by simp only [entX, h]
theorem upX_8_2 (h : KDx c = (8, n)) {v : Int32} : va_up (entX G B w) c (.inr (8, (fsX B w 8 c).set 2 (.int v))) = entX G B (pX c 2 v w) :=
  va_upX (by rw [entX_O8 h]; simp [fsX, pX, mset]) (fun q hq => mset_ne hq) (fun _ _ => rfl)
theorem upX_8_6 (h : KDx c = (8, n)) {v : Int32} : va_up (entX G B w) c (.inr (8, (fsX B w 8 c).set 6 (.int v))) = entX G B (pX c 6 v w) :=
  va_upX (by rw [entX_O8 h]; simp [fsX, pX, mset]) (fun q hq => mset_ne hq) (fun _ _ => rfl)
theorem upM_2 {w : Mem} (h : KDm c = (9, n)) {v : Int32} : va_up (entM G B w) c (.inr (9, (fsM B w c).set 2 (.int v))) = entM G B (mset w c 2 v) :=
  va_upM (by rw [entM_O h]; simp [fsM, mset]) (fun q hq => mset_ne hq)
theorem upM_3 {w : Mem} (h : KDm c = (9, n)) {v : Int32} : va_up (entM G B w) c (.inr (9, (fsM B w c).set 3 (.int v))) = entM G B (mset w c 3 v) :=
  va_upM (by rw [entM_O h]; simp [fsM, mset]) (fun q hq => mset_ne hq)
theorem upM_4 {w : Mem} (h : KDm c = (9, n)) {v : Int32} : va_up (entM G B w) c (.inr (9, (fsM B w c).set 4 (.int v))) = entM G B (mset w c 4 v) :=
  va_upM (by rw [entM_O h]; simp [fsM, mset]) (fun q hq => mset_ne hq)
theorem upM_15 {w : Mem} (h : KDm c = (9, n)) {v : Int32} : va_up (entM G B w) c (.inr (9, (fsM B w c).set 15 (.int v))) = entM G B (mset w c 15 v) :=
  va_upM (by rw [entM_O h]; simp [fsM, mset]) (fun q hq => mset_ne hq)
theorem upM_17 {w : Mem} (h : KDm c = (9, n)) {v : Int32} : va_up (entM G B w) c (.inr (9, (fsM B w c).set 17 (.int v))) = entM G B (mset w c 17 v) :=
  va_upM (by rw [entM_O h]; simp [fsM, mset]) (fun q hq => mset_ne hq)
theorem upM_23 {w : Mem} (h : KDm c = (9, n)) {v : Int32} : va_up (entM G B w) c (.inr (9, (fsM B w c).set 23 (.int v))) = entM G B (mset w c 23 v) :=
  va_upM (by rw [entM_O h]; simp [fsM, mset]) (fun q hq => mset_ne hq)
theorem upM_29 {w : Mem} (h : KDm c = (9, n)) {v : Int32} : va_up (entM G B w) c (.inr (9, (fsM B w c).set 29 (.int v))) = entM G B (mset w c 29 v) :=
  va_upM (by rw [entM_O h]; simp [fsM, mset]) (fun q hq => mset_ne hq)
theorem upM_32 {w : Mem} (h : KDm c = (9, n)) {v : Int32} : va_up (entM G B w) c (.inr (9, (fsM B w c).set 32 (.int v))) = entM G B (mset w c 32 v) :=
  va_upM (by rw [entM_O h]; simp [fsM, mset]) (fun q hq => mset_ne hq)
end LAY
section FR
variable {p : Program} {l : Launch} {e : Env} {R : Room} {s : State} {m : MethodId} {args : Array Value} {below : List Frame} {meth : Method} {c : Code} {H : Heap} {locs : List Loc} {Q : State → Prop} {cc : ByteArray} {nL : Nat} {rt : Option FieldType} {pc : Nat} {ls : Array Slot} {rest : List Value} {G : GG} {A : Nat → Prop} {B : Nat} {X : va_W} {cd : Cond}
theorem gf_X8_12 {w : WX} (C : CX p s m args meth c cc nL RX8 (cd :: TG) rt) (hG : Gd s G A 153 B (entX G B w) X H locs) (hk : KDx 0 = (8, 13) := rfl) (hdg : decode cc pc = .ok (.getfield 12, 3))
    (kk : W p l e R s m args below meth c H locs 0 0 Q (F0 m (pc + 3) ls (.ref (B + 1) :: rest))) : W p l e R s m args below meth c H locs 0 0 Q (F0 m pc ls (.ref (B + 0) :: rest)) :=
  r_getf C hG (c0 := 0) (kdx_lt hk (by decide)) (entX_O8 hk) (Cn := RX8) (T := TX8) (Nk := 13) rfl (fun x hx => List.mem_cons_of_mem _ (uw_X8 x hx)) (i := 0) (Nat.le_of_ble_eq_true rfl) (List.mem_cons_of_mem _ tg_2_10) rfl (v := .ref (B + 1)) rfl hdg kk
theorem gf_X8_18 {w : WX} (C : CX p s m args meth c cc nL RX8 (cd :: TG) rt) (hG : Gd s G A 153 B (entX G B w) X H locs) (hk : KDx 0 = (8, 13) := rfl) (hdg : decode cc pc = .ok (.getfield 18, 3))
    (kk : W p l e R s m args below meth c H locs 0 0 Q (F0 m (pc + 3) ls (.ref (B + 55) :: rest))) : W p l e R s m args below meth c H locs 0 0 Q (F0 m pc ls (.ref (B + 0) :: rest)) :=
  r_getf C hG (c0 := 0) (kdx_lt hk (by decide)) (entX_O8 hk) (Cn := RX8) (T := TX8) (Nk := 13) rfl (fun x hx => List.mem_cons_of_mem _ (uw_X8 x hx)) (i := 1) (Nat.le_of_ble_eq_true rfl) (List.mem_cons_of_mem _ tg_2_11) rfl (v := .ref (B + 55)) rfl hdg kk
theorem gf_X8_24 {w : WX} (C : CX p s m args meth c cc nL RX8 (cd :: TG) rt) (hG : Gd s G A 153 B (entX G B w) X H locs) (hk : KDx 0 = (8, 13) := rfl) (hdg : decode cc pc = .ok (.getfield 24, 3))
    (kk : W p l e R s m args below meth c H locs 0 0 Q (F0 m (pc + 3) ls (.ref (B + 109) :: rest))) : W p l e R s m args below meth c H locs 0 0 Q (F0 m pc ls (.ref (B + 0) :: rest)) :=
  r_getf C hG (c0 := 0) (kdx_lt hk (by decide)) (entX_O8 hk) (Cn := RX8) (T := TX8) (Nk := 13) rfl (fun x hx => List.mem_cons_of_mem _ (uw_X8 x hx)) (i := 3) (Nat.le_of_ble_eq_true rfl) (List.mem_cons_of_mem _ tg_2_13) rfl (v := .ref (B + 109)) rfl hdg kk
theorem gf_X8_31 {w : WX} (C : CX p s m args meth c cc nL RX8 (cd :: TG) rt) (hG : Gd s G A 153 B (entX G B w) X H locs) (hk : KDx 0 = (8, 13) := rfl) (hdg : decode cc pc = .ok (.getfield 31, 3))
    (kk : W p l e R s m args below meth c H locs 0 0 Q (F0 m (pc + 3) ls (.ref (B + 111) :: rest))) : W p l e R s m args below meth c H locs 0 0 Q (F0 m pc ls (.ref (B + 0) :: rest)) :=
  r_getf C hG (c0 := 0) (kdx_lt hk (by decide)) (entX_O8 hk) (Cn := RX8) (T := TX8) (Nk := 13) rfl (fun x hx => List.mem_cons_of_mem _ (uw_X8 x hx)) (i := 4) (Nat.le_of_ble_eq_true rfl) (List.mem_cons_of_mem _ tg_2_14) rfl (v := .ref (B + 111)) rfl hdg kk
theorem gf_X8_35 {w : WX} (C : CX p s m args meth c cc nL RX8 (cd :: TG) rt) (hG : Gd s G A 153 B (entX G B w) X H locs) (hk : KDx 0 = (8, 13) := rfl) (hdg : decode cc pc = .ok (.getfield 35, 3))
    (kk : W p l e R s m args below meth c H locs 0 0 Q (F0 m (pc + 3) ls (.ref (B + 118) :: rest))) : W p l e R s m args below meth c H locs 0 0 Q (F0 m pc ls (.ref (B + 0) :: rest)) :=
  r_getf C hG (c0 := 0) (kdx_lt hk (by decide)) (entX_O8 hk) (Cn := RX8) (T := TX8) (Nk := 13) rfl (fun x hx => List.mem_cons_of_mem _ (uw_X8 x hx)) (i := 5) (Nat.le_of_ble_eq_true rfl) (List.mem_cons_of_mem _ tg_2_15) rfl (v := .ref (B + 118)) rfl hdg kk
theorem gf_X8_42 {w : WX} (C : CX p s m args meth c cc nL RX8 (cd :: TG) rt) (hG : Gd s G A 153 B (entX G B w) X H locs) (hk : KDx 0 = (8, 13) := rfl) (hdg : decode cc pc = .ok (.getfield 42, 3))
    (kk : W p l e R s m args below meth c H locs 0 0 Q (F0 m (pc + 3) ls (.ref (B + 119) :: rest))) : W p l e R s m args below meth c H locs 0 0 Q (F0 m pc ls (.ref (B + 0) :: rest)) :=
  r_getf C hG (c0 := 0) (kdx_lt hk (by decide)) (entX_O8 hk) (Cn := RX8) (T := TX8) (Nk := 13) rfl (fun x hx => List.mem_cons_of_mem _ (uw_X8 x hx)) (i := 7) (Nat.le_of_ble_eq_true rfl) (List.mem_cons_of_mem _ tg_2_17) rfl (v := .ref (B + 119)) rfl hdg kk
theorem gf_X8_49 {w : WX} (C : CX p s m args meth c cc nL RX8 (cd :: TG) rt) (hG : Gd s G A 153 B (entX G B w) X H locs) (hk : KDx 0 = (8, 13) := rfl) (hdg : decode cc pc = .ok (.getfield 49, 3))
    (kk : W p l e R s m args below meth c H locs 0 0 Q (F0 m (pc + 3) ls (.ref (B + 121) :: rest))) : W p l e R s m args below meth c H locs 0 0 Q (F0 m pc ls (.ref (B + 0) :: rest)) :=
  r_getf C hG (c0 := 0) (kdx_lt hk (by decide)) (entX_O8 hk) (Cn := RX8) (T := TX8) (Nk := 13) rfl (fun x hx => List.mem_cons_of_mem _ (uw_X8 x hx)) (i := 8) (Nat.le_of_ble_eq_true rfl) (List.mem_cons_of_mem _ tg_2_18) rfl (v := .ref (B + 121)) rfl hdg kk
theorem gf_X8_56 {w : WX} (C : CX p s m args meth c cc nL RX8 (cd :: TG) rt) (hG : Gd s G A 153 B (entX G B w) X H locs) (hk : KDx 0 = (8, 13) := rfl) (hdg : decode cc pc = .ok (.getfield 56, 3))
    (kk : W p l e R s m args below meth c H locs 0 0 Q (F0 m (pc + 3) ls (.ref (B + 131) :: rest))) : W p l e R s m args below meth c H locs 0 0 Q (F0 m pc ls (.ref (B + 0) :: rest)) :=
  r_getf C hG (c0 := 0) (kdx_lt hk (by decide)) (entX_O8 hk) (Cn := RX8) (T := TX8) (Nk := 13) rfl (fun x hx => List.mem_cons_of_mem _ (uw_X8 x hx)) (i := 9) (Nat.le_of_ble_eq_true rfl) (List.mem_cons_of_mem _ tg_2_19) rfl (v := .ref (B + 131)) rfl hdg kk
theorem gf_X8_60 {w : WX} (C : CX p s m args meth c cc nL RX8 (cd :: TG) rt) (hG : Gd s G A 153 B (entX G B w) X H locs) (hk : KDx 0 = (8, 13) := rfl) (hdg : decode cc pc = .ok (.getfield 60, 3))
    (kk : W p l e R s m args below meth c H locs 0 0 Q (F0 m (pc + 3) ls (.ref (B + 138) :: rest))) : W p l e R s m args below meth c H locs 0 0 Q (F0 m pc ls (.ref (B + 0) :: rest)) :=
  r_getf C hG (c0 := 0) (kdx_lt hk (by decide)) (entX_O8 hk) (Cn := RX8) (T := TX8) (Nk := 13) rfl (fun x hx => List.mem_cons_of_mem _ (uw_X8 x hx)) (i := 10) (Nat.le_of_ble_eq_true rfl) (List.mem_cons_of_mem _ tg_2_20) rfl (v := .ref (B + 138)) rfl hdg kk
theorem gf_X8_66 {w : WX} (C : CX p s m args meth c cc nL RX8 (cd :: TG) rt) (hG : Gd s G A 153 B (entX G B w) X H locs) (hk : KDx 0 = (8, 13) := rfl) (hdg : decode cc pc = .ok (.getfield 66, 3))
    (kk : W p l e R s m args below meth c H locs 0 0 Q (F0 m (pc + 3) ls (.ref (B + 145) :: rest))) : W p l e R s m args below meth c H locs 0 0 Q (F0 m pc ls (.ref (B + 0) :: rest)) :=
  r_getf C hG (c0 := 0) (kdx_lt hk (by decide)) (entX_O8 hk) (Cn := RX8) (T := TX8) (Nk := 13) rfl (fun x hx => List.mem_cons_of_mem _ (uw_X8 x hx)) (i := 11) (Nat.le_of_ble_eq_true rfl) (List.mem_cons_of_mem _ tg_2_21) rfl (v := .ref (B + 145)) rfl hdg kk
theorem gf_X8_70 {w : WX} (C : CX p s m args meth c cc nL RX8 (cd :: TG) rt) (hG : Gd s G A 153 B (entX G B w) X H locs) (hk : KDx 0 = (8, 13) := rfl) (hdg : decode cc pc = .ok (.getfield 70, 3))
    (kk : W p l e R s m args below meth c H locs 0 0 Q (F0 m (pc + 3) ls (.ref (B + 149) :: rest))) : W p l e R s m args below meth c H locs 0 0 Q (F0 m pc ls (.ref (B + 0) :: rest)) :=
  r_getf C hG (c0 := 0) (kdx_lt hk (by decide)) (entX_O8 hk) (Cn := RX8) (T := TX8) (Nk := 13) rfl (fun x hx => List.mem_cons_of_mem _ (uw_X8 x hx)) (i := 12) (Nat.le_of_ble_eq_true rfl) (List.mem_cons_of_mem _ tg_2_22) rfl (v := .ref (B + 149)) rfl hdg kk
theorem gf_X8_81 {w : WX} {c0 : Nat} (C : CX p s m args meth c cc nL RX8 (cd :: TG) rt) (hG : Gd s G A 153 B (entX G B w) X H locs) (hk : KDx c0 = (4, 4)) (hdg : decode cc pc = .ok (.getfield 81, 3))
    (kk : W p l e R s m args below meth c H locs 0 0 Q (F0 m (pc + 3) ls (.int (w.1 c0 1) :: rest))) : W p l e R s m args below meth c H locs 0 0 Q (F0 m pc ls (.ref (B + c0) :: rest)) :=
  r_getfN C hG (c0 := c0) (kdx_lt hk (by decide)) (entX_O4 hk) (Cn := RX4) (T := TX4) (Nk := 4) rfl (fun x hx => List.mem_cons_of_mem _ (uw_X4 x hx)) (i := 1) (Nat.le_of_ble_eq_true rfl) nn_34 rfl (v := .int (w.1 c0 1)) rfl hdg kk
theorem gf_X8_85 {w : WX} {c0 : Nat} (C : CX p s m args meth c cc nL RX8 (cd :: TG) rt) (hG : Gd s G A 153 B (entX G B w) X H locs) (hk : KDx c0 = (4, 4)) (hdg : decode cc pc = .ok (.getfield 85, 3))
    (kk : W p l e R s m args below meth c H locs 0 0 Q (F0 m (pc + 3) ls (.ref (B + (c0 + 1)) :: rest))) : W p l e R s m args below meth c H locs 0 0 Q (F0 m pc ls (.ref (B + c0) :: rest)) :=
  r_getfN C hG (c0 := c0) (kdx_lt hk (by decide)) (entX_O4 hk) (Cn := RX4) (T := TX4) (Nk := 4) rfl (fun x hx => List.mem_cons_of_mem _ (uw_X4 x hx)) (i := 0) (Nat.le_of_ble_eq_true rfl) nn_33 rfl (v := .ref (B + (c0 + 1))) rfl hdg kk
theorem gf_X8_97 {w : WX} {c0 : Nat} (C : CX p s m args meth c cc nL RX8 (cd :: TG) rt) (hG : Gd s G A 153 B (entX G B w) X H locs) (hk : KDx c0 = (0, 13)) (hdg : decode cc pc = .ok (.getfield 97, 3))
    (kk : W p l e R s m args below meth c H locs 0 0 Q (F0 m (pc + 3) ls (.int (w.1 c0 2) :: rest))) : W p l e R s m args below meth c H locs 0 0 Q (F0 m pc ls (.ref (B + c0) :: rest)) :=
  r_getfN C hG (c0 := c0) (kdx_lt hk (by decide)) (entX_O0 hk) (Cn := RX0) (T := TX0) (Nk := 13) rfl (fun x hx => List.mem_cons_of_mem _ (uw_X0 x hx)) (i := 2) (Nat.le_of_ble_eq_true rfl) nn_10 rfl (v := .int (w.1 c0 2)) rfl hdg kk
theorem gf_X8_100 {w : WX} {c0 : Nat} (C : CX p s m args meth c cc nL RX8 (cd :: TG) rt) (hG : Gd s G A 153 B (entX G B w) X H locs) (hk : KDx c0 = (0, 13)) (hdg : decode cc pc = .ok (.getfield 100, 3))
    (kk : W p l e R s m args below meth c H locs 0 0 Q (F0 m (pc + 3) ls (.int (w.1 c0 0) :: rest))) : W p l e R s m args below meth c H locs 0 0 Q (F0 m pc ls (.ref (B + c0) :: rest)) :=
  r_getfN C hG (c0 := c0) (kdx_lt hk (by decide)) (entX_O0 hk) (Cn := RX0) (T := TX0) (Nk := 13) rfl (fun x hx => List.mem_cons_of_mem _ (uw_X0 x hx)) (i := 0) (Nat.le_of_ble_eq_true rfl) nn_6 rfl (v := .int (w.1 c0 0)) rfl hdg kk
theorem gf_X8_103 {w : WX} {c0 : Nat} (C : CX p s m args meth c cc nL RX8 (cd :: TG) rt) (hG : Gd s G A 153 B (entX G B w) X H locs) (hk : KDx c0 = (0, 13)) (hdg : decode cc pc = .ok (.getfield 103, 3))
    (kk : W p l e R s m args below meth c H locs 0 0 Q (F0 m (pc + 3) ls (.int (w.1 c0 1) :: rest))) : W p l e R s m args below meth c H locs 0 0 Q (F0 m pc ls (.ref (B + c0) :: rest)) :=
  r_getfN C hG (c0 := c0) (kdx_lt hk (by decide)) (entX_O0 hk) (Cn := RX0) (T := TX0) (Nk := 13) rfl (fun x hx => List.mem_cons_of_mem _ (uw_X0 x hx)) (i := 1) (Nat.le_of_ble_eq_true rfl) nn_8 rfl (v := .int (w.1 c0 1)) rfl hdg kk
theorem gf_X8_106 {w : WX} {c0 : Nat} (C : CX p s m args meth c cc nL RX8 (cd :: TG) rt) (hG : Gd s G A 153 B (entX G B w) X H locs) (hk : KDx c0 = (0, 13)) (hdg : decode cc pc = .ok (.getfield 106, 3))
    (kk : W p l e R s m args below meth c H locs 0 0 Q (F0 m (pc + 3) ls (.int (w.1 c0 3) :: rest))) : W p l e R s m args below meth c H locs 0 0 Q (F0 m pc ls (.ref (B + c0) :: rest)) :=
  r_getfN C hG (c0 := c0) (kdx_lt hk (by decide)) (entX_O0 hk) (Cn := RX0) (T := TX0) (Nk := 13) rfl (fun x hx => List.mem_cons_of_mem _ (uw_X0 x hx)) (i := 3) (Nat.le_of_ble_eq_true rfl) nn_13 rfl (v := .int (w.1 c0 3)) rfl hdg kk
theorem gf_X8_123 {w : WX} {c0 : Nat} (C : CX p s m args meth c cc nL RX8 (cd :: TG) rt) (hG : Gd s G A 153 B (entX G B w) X H locs) (hk : KDx c0 = (0, 13)) (hdg : decode cc pc = .ok (.getfield 123, 3))
    (kk : W p l e R s m args below meth c H locs 0 0 Q (F0 m (pc + 3) ls (.ref (B + (c0 + 4)) :: rest))) : W p l e R s m args below meth c H locs 0 0 Q (F0 m pc ls (.ref (B + c0) :: rest)) :=
  r_getfN C hG (c0 := c0) (kdx_lt hk (by decide)) (entX_O0 hk) (Cn := RX0) (T := TX0) (Nk := 13) rfl (fun x hx => List.mem_cons_of_mem _ (uw_X0 x hx)) (i := 7) (Nat.le_of_ble_eq_true rfl) nn_17 rfl (v := .ref (B + (c0 + 4))) rfl hdg kk
theorem gf_X8_126 {w : WX} {c0 : Nat} (C : CX p s m args meth c cc nL RX8 (cd :: TG) rt) (hG : Gd s G A 153 B (entX G B w) X H locs) (hk : KDx c0 = (0, 13)) (hdg : decode cc pc = .ok (.getfield 126, 3))
    (kk : W p l e R s m args below meth c H locs 0 0 Q (F0 m (pc + 3) ls (.ref (B + (c0 + 5)) :: rest))) : W p l e R s m args below meth c H locs 0 0 Q (F0 m pc ls (.ref (B + c0) :: rest)) :=
  r_getfN C hG (c0 := c0) (kdx_lt hk (by decide)) (entX_O0 hk) (Cn := RX0) (T := TX0) (Nk := 13) rfl (fun x hx => List.mem_cons_of_mem _ (uw_X0 x hx)) (i := 8) (Nat.le_of_ble_eq_true rfl) nn_19 rfl (v := .ref (B + (c0 + 5))) rfl hdg kk
theorem gf_X8_129 {w : WX} {c0 : Nat} (C : CX p s m args meth c cc nL RX8 (cd :: TG) rt) (hG : Gd s G A 153 B (entX G B w) X H locs) (hk : KDx c0 = (0, 13)) (hdg : decode cc pc = .ok (.getfield 129, 3))
    (kk : W p l e R s m args below meth c H locs 0 0 Q (F0 m (pc + 3) ls (.ref (B + (c0 + 6)) :: rest))) : W p l e R s m args below meth c H locs 0 0 Q (F0 m pc ls (.ref (B + c0) :: rest)) :=
  r_getfN C hG (c0 := c0) (kdx_lt hk (by decide)) (entX_O0 hk) (Cn := RX0) (T := TX0) (Nk := 13) rfl (fun x hx => List.mem_cons_of_mem _ (uw_X0 x hx)) (i := 9) (Nat.le_of_ble_eq_true rfl) nn_21 rfl (v := .ref (B + (c0 + 6))) rfl hdg kk
theorem gf_X8_132 {w : WX} {c0 : Nat} (C : CX p s m args meth c cc nL RX8 (cd :: TG) rt) (hG : Gd s G A 153 B (entX G B w) X H locs) (hk : KDx c0 = (0, 13)) (hdg : decode cc pc = .ok (.getfield 132, 3))
    (kk : W p l e R s m args below meth c H locs 0 0 Q (F0 m (pc + 3) ls (.ref (B + (c0 + 7)) :: rest))) : W p l e R s m args below meth c H locs 0 0 Q (F0 m pc ls (.ref (B + c0) :: rest)) :=
  r_getfN C hG (c0 := c0) (kdx_lt hk (by decide)) (entX_O0 hk) (Cn := RX0) (T := TX0) (Nk := 13) rfl (fun x hx => List.mem_cons_of_mem _ (uw_X0 x hx)) (i := 10) (Nat.le_of_ble_eq_true rfl) nn_23 rfl (v := .ref (B + (c0 + 7))) rfl hdg kk
theorem gf_X8_144 {w : WX} (C : CX p s m args meth c cc nL RX8 (cd :: TG) rt) (hG : Gd s G A 153 B (entX G B w) X H locs) (hk : KDx 109 = (7, 2) := rfl) (hdg : decode cc pc = .ok (.getfield 144, 3))
    (kk : W p l e R s m args below meth c H locs 0 0 Q (F0 m (pc + 3) ls (.int (w.1 109 1) :: rest))) : W p l e R s m args below meth c H locs 0 0 Q (F0 m pc ls (.ref (B + 109) :: rest)) :=
  r_getfN C hG (c0 := 109) (kdx_lt hk (by decide)) (entX_O7 hk) (Cn := RX7) (T := TX7) (Nk := 2) rfl (fun x hx => List.mem_cons_of_mem _ (uw_X7 x hx)) (i := 1) (Nat.le_of_ble_eq_true rfl) nn_37 rfl (v := .int (w.1 109 1)) rfl hdg kk
theorem gf_X8_161 {w : WX} {c0 : Nat} (C : CX p s m args meth c cc nL RX8 (cd :: TG) rt) (hG : Gd s G A 153 B (entX G B w) X H locs) (hk : KDx c0 = (6, 3)) (hdg : decode cc pc = .ok (.getfield 161, 3))
    (kk : W p l e R s m args below meth c H locs 0 0 Q (F0 m (pc + 3) ls (.int (w.1 c0 1) :: rest))) : W p l e R s m args below meth c H locs 0 0 Q (F0 m pc ls (.ref (B + c0) :: rest)) :=
  r_getfN C hG (c0 := c0) (kdx_lt hk (by decide)) (entX_O6 hk) (Cn := RX6) (T := TX6) (Nk := 3) rfl (fun x hx => List.mem_cons_of_mem _ (uw_X6 x hx)) (i := 1) (Nat.le_of_ble_eq_true rfl) nn_31 rfl (v := .int (w.1 c0 1)) rfl hdg kk
theorem gf_X8_162 {w : WX} {c0 : Nat} (C : CX p s m args meth c cc nL RX8 (cd :: TG) rt) (hG : Gd s G A 153 B (entX G B w) X H locs) (hk : KDx c0 = (6, 3)) (hdg : decode cc pc = .ok (.getfield 162, 3))
    (kk : W p l e R s m args below meth c H locs 0 0 Q (F0 m (pc + 3) ls (.int (w.1 c0 2) :: rest))) : W p l e R s m args below meth c H locs 0 0 Q (F0 m pc ls (.ref (B + c0) :: rest)) :=
  r_getfN C hG (c0 := c0) (kdx_lt hk (by decide)) (entX_O6 hk) (Cn := RX6) (T := TX6) (Nk := 3) rfl (fun x hx => List.mem_cons_of_mem _ (uw_X6 x hx)) (i := 2) (Nat.le_of_ble_eq_true rfl) nn_32 rfl (v := .int (w.1 c0 2)) rfl hdg kk
theorem gf_X8_171 {w : WX} {c0 : Nat} (C : CX p s m args meth c cc nL RX8 (cd :: TG) rt) (hG : Gd s G A 153 B (entX G B w) X H locs) (hk : KDx c0 = (6, 3)) (hdg : decode cc pc = .ok (.getfield 171, 3))
    (kk : W p l e R s m args below meth c H locs 0 0 Q (F0 m (pc + 3) ls (.ref (B + (c0 + 1)) :: rest))) : W p l e R s m args below meth c H locs 0 0 Q (F0 m pc ls (.ref (B + c0) :: rest)) :=
  r_getfN C hG (c0 := c0) (kdx_lt hk (by decide)) (entX_O6 hk) (Cn := RX6) (T := TX6) (Nk := 3) rfl (fun x hx => List.mem_cons_of_mem _ (uw_X6 x hx)) (i := 0) (Nat.le_of_ble_eq_true rfl) nn_27 rfl (v := .ref (B + (c0 + 1))) rfl hdg kk
theorem gf_X8_177 {w : WX} {c0 : Nat} (C : CX p s m args meth c cc nL RX8 (cd :: TG) rt) (hG : Gd s G A 153 B (entX G B w) X H locs) (hk : KDx c0 = (2, 8)) (hdg : decode cc pc = .ok (.getfield 177, 3))
    (kk : W p l e R s m args below meth c H locs 0 0 Q (F0 m (pc + 3) ls (.int (w.1 c0 0) :: rest))) : W p l e R s m args below meth c H locs 0 0 Q (F0 m pc ls (.ref (B + c0) :: rest)) :=
  r_getfN C hG (c0 := c0) (kdx_lt hk (by decide)) (entX_O2 hk) (Cn := RX2) (T := TX2) (Nk := 8) rfl (fun x hx => List.mem_cons_of_mem _ (uw_X2 x hx)) (i := 0) (Nat.le_of_ble_eq_true rfl) nn_43 rfl (v := .int (w.1 c0 0)) rfl hdg kk
theorem gf_X8_188 {w : WX} {c0 : Nat} (C : CX p s m args meth c cc nL RX8 (cd :: TG) rt) (hG : Gd s G A 153 B (entX G B w) X H locs) (hk : KDx c0 = (2, 8)) (hdg : decode cc pc = .ok (.getfield 188, 3))
    (kk : W p l e R s m args below meth c H locs 0 0 Q (F0 m (pc + 3) ls (.ref (B + (c0 + 2)) :: rest))) : W p l e R s m args below meth c H locs 0 0 Q (F0 m pc ls (.ref (B + c0) :: rest)) :=
  r_getfN C hG (c0 := c0) (kdx_lt hk (by decide)) (entX_O2 hk) (Cn := RX2) (T := TX2) (Nk := 8) rfl (fun x hx => List.mem_cons_of_mem _ (uw_X2 x hx)) (i := 3) (Nat.le_of_ble_eq_true rfl) nn_45 rfl (v := .ref (B + (c0 + 2))) rfl hdg kk
theorem gf_X8_191 {w : WX} {c0 : Nat} (C : CX p s m args meth c cc nL RX8 (cd :: TG) rt) (hG : Gd s G A 153 B (entX G B w) X H locs) (hk : KDx c0 = (2, 8)) (hdg : decode cc pc = .ok (.getfield 191, 3))
    (kk : W p l e R s m args below meth c H locs 0 0 Q (F0 m (pc + 3) ls (.ref (B + (c0 + 1)) :: rest))) : W p l e R s m args below meth c H locs 0 0 Q (F0 m pc ls (.ref (B + c0) :: rest)) :=
  r_getfN C hG (c0 := c0) (kdx_lt hk (by decide)) (entX_O2 hk) (Cn := RX2) (T := TX2) (Nk := 8) rfl (fun x hx => List.mem_cons_of_mem _ (uw_X2 x hx)) (i := 2) (Nat.le_of_ble_eq_true rfl) nn_44 rfl (v := .ref (B + (c0 + 1))) rfl hdg kk
theorem gf_X8_194 {w : WX} {c0 : Nat} (C : CX p s m args meth c cc nL RX8 (cd :: TG) rt) (hG : Gd s G A 153 B (entX G B w) X H locs) (hk : KDx c0 = (2, 8)) (hdg : decode cc pc = .ok (.getfield 194, 3))
    (kk : W p l e R s m args below meth c H locs 0 0 Q (F0 m (pc + 3) ls (.ref (B + (c0 + 3)) :: rest))) : W p l e R s m args below meth c H locs 0 0 Q (F0 m pc ls (.ref (B + c0) :: rest)) :=
  r_getfN C hG (c0 := c0) (kdx_lt hk (by decide)) (entX_O2 hk) (Cn := RX2) (T := TX2) (Nk := 8) rfl (fun x hx => List.mem_cons_of_mem _ (uw_X2 x hx)) (i := 4) (Nat.le_of_ble_eq_true rfl) nn_46 rfl (v := .ref (B + (c0 + 3))) rfl hdg kk
theorem gf_X8_201 {w : WX} {c0 : Nat} (C : CX p s m args meth c cc nL RX8 (cd :: TG) rt) (hG : Gd s G A 153 B (entX G B w) X H locs) (hk : KDx c0 = (2, 8)) (hdg : decode cc pc = .ok (.getfield 201, 3))
    (kk : W p l e R s m args below meth c H locs 0 0 Q (F0 m (pc + 3) ls (.ref (B + (c0 + 4)) :: rest))) : W p l e R s m args below meth c H locs 0 0 Q (F0 m pc ls (.ref (B + c0) :: rest)) :=
  r_getfN C hG (c0 := c0) (kdx_lt hk (by decide)) (entX_O2 hk) (Cn := RX2) (T := TX2) (Nk := 8) rfl (fun x hx => List.mem_cons_of_mem _ (uw_X2 x hx)) (i := 5) (Nat.le_of_ble_eq_true rfl) nn_47 rfl (v := .ref (B + (c0 + 4))) rfl hdg kk
theorem gf_X8_214 {w : WX} {c0 : Nat} (C : CX p s m args meth c cc nL RX8 (cd :: TG) rt) (hG : Gd s G A 153 B (entX G B w) X H locs) (hk : KDx c0 = (5, 5)) (hdg : decode cc pc = .ok (.getfield 214, 3))
    (kk : W p l e R s m args below meth c H locs 0 0 Q (F0 m (pc + 3) ls (.ref (B + w.2 c0 0) :: rest))) : W p l e R s m args below meth c H locs 0 0 Q (F0 m pc ls (.ref (B + c0) :: rest)) :=
  r_getfN C hG (c0 := c0) (kdx_lt hk (by decide)) (entX_O5 hk) (Cn := RX5) (T := TX5) (Nk := 5) rfl (fun x hx => List.mem_cons_of_mem _ (uw_X5 x hx)) (i := 0) (Nat.le_of_ble_eq_true rfl) nn_49 rfl (v := .ref (B + w.2 c0 0)) rfl hdg kk
theorem gf_X8_251 {w : WX} {c0 : Nat} (C : CX p s m args meth c cc nL RX8 (cd :: TG) rt) (hG : Gd s G A 153 B (entX G B w) X H locs) (hk : KDx c0 = (4, 4)) (hdg : decode cc pc = .ok (.getfield 251, 3))
    (kk : W p l e R s m args below meth c H locs 0 0 Q (F0 m (pc + 3) ls (.ref (B + (c0 + 3)) :: rest))) : W p l e R s m args below meth c H locs 0 0 Q (F0 m pc ls (.ref (B + c0) :: rest)) :=
  r_getfN C hG (c0 := c0) (kdx_lt hk (by decide)) (entX_O4 hk) (Cn := RX4) (T := TX4) (Nk := 4) rfl (fun x hx => List.mem_cons_of_mem _ (uw_X4 x hx)) (i := 3) (Nat.le_of_ble_eq_true rfl) nn_35 rfl (v := .ref (B + (c0 + 3))) rfl hdg kk
theorem gf_X8_255 {w : WX} {c0 : Nat} (C : CX p s m args meth c cc nL RX8 (cd :: TG) rt) (hG : Gd s G A 153 B (entX G B w) X H locs) (hk : KDx c0 = (3, 3)) (hdg : decode cc pc = .ok (.getfield 255, 3))
    (kk : W p l e R s m args below meth c H locs 0 0 Q (F0 m (pc + 3) ls (.int (w.1 c0 2) :: rest))) : W p l e R s m args below meth c H locs 0 0 Q (F0 m pc ls (.ref (B + c0) :: rest)) :=
  r_getfN C hG (c0 := c0) (kdx_lt hk (by decide)) (entX_O3 hk) (Cn := RX3) (T := TX3) (Nk := 3) rfl (fun x hx => List.mem_cons_of_mem _ (uw_X3 x hx)) (i := 2) (Nat.le_of_ble_eq_true rfl) nn_4 rfl (v := .int (w.1 c0 2)) rfl hdg kk
theorem gf_X8_273 {w : WX} (C : CX p s m args meth c cc nL RX8 (cd :: TG) rt) (hG : Gd s G A 153 B (entX G B w) X H locs) (hk : KDx 0 = (8, 13) := rfl) (hdg : decode cc pc = .ok (.getfield 273, 3))
    (kk : W p l e R s m args below meth c H locs 0 0 Q (F0 m (pc + 3) ls (.int (w.1 0 6) :: rest))) : W p l e R s m args below meth c H locs 0 0 Q (F0 m pc ls (.ref (B + 0) :: rest)) :=
  r_getf C hG (c0 := 0) (kdx_lt hk (by decide)) (entX_O8 hk) (Cn := RX8) (T := TX8) (Nk := 13) rfl (fun x hx => List.mem_cons_of_mem _ (uw_X8 x hx)) (i := 6) (Nat.le_of_ble_eq_true rfl) (List.mem_cons_of_mem _ tg_2_16) rfl (v := .int (w.1 0 6)) rfl hdg kk
theorem gf_X8_282 {w : WX} (C : CX p s m args meth c cc nL RX8 (cd :: TG) rt) (hG : Gd s G A 153 B (entX G B w) X H locs) (hk : KDx 111 = (1, 2) := rfl) (hdg : decode cc pc = .ok (.getfield 282, 3))
    (kk : W p l e R s m args below meth c H locs 0 0 Q (F0 m (pc + 3) ls (.ref (B + 117) :: rest))) : W p l e R s m args below meth c H locs 0 0 Q (F0 m pc ls (.ref (B + 111) :: rest)) :=
  r_getfN C hG (c0 := 111) (kdx_lt hk (by decide)) (entX_O1 hk) (Cn := RX1) (T := TX1) (Nk := 2) rfl (fun x hx => List.mem_cons_of_mem _ (uw_X1 x hx)) (i := 1) (Nat.le_of_ble_eq_true rfl) nn_39 rfl (v := .ref (B + 117)) rfl hdg kk
theorem gf_X8_285 {w : WX} (C : CX p s m args meth c cc nL RX8 (cd :: TG) rt) (hG : Gd s G A 153 B (entX G B w) X H locs) (hk : KDx 111 = (1, 2) := rfl) (hdg : decode cc pc = .ok (.getfield 285, 3))
    (kk : W p l e R s m args below meth c H locs 0 0 Q (F0 m (pc + 3) ls (.ref (B + 112) :: rest))) : W p l e R s m args below meth c H locs 0 0 Q (F0 m pc ls (.ref (B + 111) :: rest)) :=
  r_getfN C hG (c0 := 111) (kdx_lt hk (by decide)) (entX_O1 hk) (Cn := RX1) (T := TX1) (Nk := 2) rfl (fun x hx => List.mem_cons_of_mem _ (uw_X1 x hx)) (i := 0) (Nat.le_of_ble_eq_true rfl) nn_38 rfl (v := .ref (B + 112)) rfl hdg kk
theorem gf_X8_297 {w : WX} (C : CX p s m args meth c cc nL RX8 (cd :: TG) rt) (hG : Gd s G A 153 B (entX G B w) X H locs) (hk : KDx 0 = (8, 13) := rfl) (hdg : decode cc pc = .ok (.getfield 297, 3))
    (kk : W p l e R s m args below meth c H locs 0 0 Q (F0 m (pc + 3) ls (.int (w.1 0 2) :: rest))) : W p l e R s m args below meth c H locs 0 0 Q (F0 m pc ls (.ref (B + 0) :: rest)) :=
  r_getf C hG (c0 := 0) (kdx_lt hk (by decide)) (entX_O8 hk) (Cn := RX8) (T := TX8) (Nk := 13) rfl (fun x hx => List.mem_cons_of_mem _ (uw_X8 x hx)) (i := 2) (Nat.le_of_ble_eq_true rfl) (List.mem_cons_of_mem _ tg_2_12) rfl (v := .int (w.1 0 2)) rfl hdg kk
theorem gf_X0_9 {w : WX} {c0 : Nat} (C : CX p s m args meth c cc nL RX0 (cd :: TG) rt) (hG : Gd s G A 153 B (entX G B w) X H locs) (hk : KDx c0 = (0, 13)) (hdg : decode cc pc = .ok (.getfield 9, 3))
    (kk : W p l e R s m args below meth c H locs 0 0 Q (F0 m (pc + 3) ls (.ref (B + (c0 + 1)) :: rest))) : W p l e R s m args below meth c H locs 0 0 Q (F0 m pc ls (.ref (B + c0) :: rest)) :=
  r_getf C hG (c0 := c0) (kdx_lt hk (by decide)) (entX_O0 hk) (Cn := RX0) (T := TX0) (Nk := 13) rfl (fun x hx => List.mem_cons_of_mem _ (uw_X0 x hx)) (i := 4) (Nat.le_of_ble_eq_true rfl) (List.mem_cons_of_mem _ tg_1_70) rfl (v := .ref (B + (c0 + 1))) rfl hdg kk
theorem gf_X0_15 {w : WX} {c0 : Nat} (C : CX p s m args meth c cc nL RX0 (cd :: TG) rt) (hG : Gd s G A 153 B (entX G B w) X H locs) (hk : KDx c0 = (0, 13)) (hdg : decode cc pc = .ok (.getfield 15, 3))
    (kk : W p l e R s m args below meth c H locs 0 0 Q (F0 m (pc + 3) ls (.ref (B + (c0 + 2)) :: rest))) : W p l e R s m args below meth c H locs 0 0 Q (F0 m pc ls (.ref (B + c0) :: rest)) :=
  r_getf C hG (c0 := c0) (kdx_lt hk (by decide)) (entX_O0 hk) (Cn := RX0) (T := TX0) (Nk := 13) rfl (fun x hx => List.mem_cons_of_mem _ (uw_X0 x hx)) (i := 5) (Nat.le_of_ble_eq_true rfl) (List.mem_cons_of_mem _ tg_1_72) rfl (v := .ref (B + (c0 + 2))) rfl hdg kk
theorem gf_X0_18 {w : WX} {c0 : Nat} (C : CX p s m args meth c cc nL RX0 (cd :: TG) rt) (hG : Gd s G A 153 B (entX G B w) X H locs) (hk : KDx c0 = (0, 13)) (hdg : decode cc pc = .ok (.getfield 18, 3))
    (kk : W p l e R s m args below meth c H locs 0 0 Q (F0 m (pc + 3) ls (.ref (B + (c0 + 3)) :: rest))) : W p l e R s m args below meth c H locs 0 0 Q (F0 m pc ls (.ref (B + c0) :: rest)) :=
  r_getf C hG (c0 := c0) (kdx_lt hk (by decide)) (entX_O0 hk) (Cn := RX0) (T := TX0) (Nk := 13) rfl (fun x hx => List.mem_cons_of_mem _ (uw_X0 x hx)) (i := 6) (Nat.le_of_ble_eq_true rfl) (List.mem_cons_of_mem _ tg_1_74) rfl (v := .ref (B + (c0 + 3))) rfl hdg kk
theorem gf_X0_21 {w : WX} {c0 : Nat} (C : CX p s m args meth c cc nL RX0 (cd :: TG) rt) (hG : Gd s G A 153 B (entX G B w) X H locs) (hk : KDx c0 = (0, 13)) (hdg : decode cc pc = .ok (.getfield 21, 3))
    (kk : W p l e R s m args below meth c H locs 0 0 Q (F0 m (pc + 3) ls (.ref (B + (c0 + 4)) :: rest))) : W p l e R s m args below meth c H locs 0 0 Q (F0 m pc ls (.ref (B + c0) :: rest)) :=
  r_getf C hG (c0 := c0) (kdx_lt hk (by decide)) (entX_O0 hk) (Cn := RX0) (T := TX0) (Nk := 13) rfl (fun x hx => List.mem_cons_of_mem _ (uw_X0 x hx)) (i := 7) (Nat.le_of_ble_eq_true rfl) (List.mem_cons_of_mem _ tg_1_75) rfl (v := .ref (B + (c0 + 4))) rfl hdg kk
theorem gf_X0_24 {w : WX} {c0 : Nat} (C : CX p s m args meth c cc nL RX0 (cd :: TG) rt) (hG : Gd s G A 153 B (entX G B w) X H locs) (hk : KDx c0 = (0, 13)) (hdg : decode cc pc = .ok (.getfield 24, 3))
    (kk : W p l e R s m args below meth c H locs 0 0 Q (F0 m (pc + 3) ls (.ref (B + (c0 + 5)) :: rest))) : W p l e R s m args below meth c H locs 0 0 Q (F0 m pc ls (.ref (B + c0) :: rest)) :=
  r_getf C hG (c0 := c0) (kdx_lt hk (by decide)) (entX_O0 hk) (Cn := RX0) (T := TX0) (Nk := 13) rfl (fun x hx => List.mem_cons_of_mem _ (uw_X0 x hx)) (i := 8) (Nat.le_of_ble_eq_true rfl) (List.mem_cons_of_mem _ tg_1_78) rfl (v := .ref (B + (c0 + 5))) rfl hdg kk
theorem gf_X0_27 {w : WX} {c0 : Nat} (C : CX p s m args meth c cc nL RX0 (cd :: TG) rt) (hG : Gd s G A 153 B (entX G B w) X H locs) (hk : KDx c0 = (0, 13)) (hdg : decode cc pc = .ok (.getfield 27, 3))
    (kk : W p l e R s m args below meth c H locs 0 0 Q (F0 m (pc + 3) ls (.ref (B + (c0 + 6)) :: rest))) : W p l e R s m args below meth c H locs 0 0 Q (F0 m pc ls (.ref (B + c0) :: rest)) :=
  r_getf C hG (c0 := c0) (kdx_lt hk (by decide)) (entX_O0 hk) (Cn := RX0) (T := TX0) (Nk := 13) rfl (fun x hx => List.mem_cons_of_mem _ (uw_X0 x hx)) (i := 9) (Nat.le_of_ble_eq_true rfl) (List.mem_cons_of_mem _ tg_1_81) rfl (v := .ref (B + (c0 + 6))) rfl hdg kk
theorem gf_X0_30 {w : WX} {c0 : Nat} (C : CX p s m args meth c cc nL RX0 (cd :: TG) rt) (hG : Gd s G A 153 B (entX G B w) X H locs) (hk : KDx c0 = (0, 13)) (hdg : decode cc pc = .ok (.getfield 30, 3))
    (kk : W p l e R s m args below meth c H locs 0 0 Q (F0 m (pc + 3) ls (.ref (B + (c0 + 7)) :: rest))) : W p l e R s m args below meth c H locs 0 0 Q (F0 m pc ls (.ref (B + c0) :: rest)) :=
  r_getf C hG (c0 := c0) (kdx_lt hk (by decide)) (entX_O0 hk) (Cn := RX0) (T := TX0) (Nk := 13) rfl (fun x hx => List.mem_cons_of_mem _ (uw_X0 x hx)) (i := 10) (Nat.le_of_ble_eq_true rfl) (List.mem_cons_of_mem _ tg_1_84) rfl (v := .ref (B + (c0 + 7))) rfl hdg kk
theorem gf_X0_33 {w : WX} {c0 : Nat} (C : CX p s m args meth c cc nL RX0 (cd :: TG) rt) (hG : Gd s G A 153 B (entX G B w) X H locs) (hk : KDx c0 = (0, 13)) (hdg : decode cc pc = .ok (.getfield 33, 3))
    (kk : W p l e R s m args below meth c H locs 0 0 Q (F0 m (pc + 3) ls (.ref (B + w.2 c0 11) :: rest))) : W p l e R s m args below meth c H locs 0 0 Q (F0 m pc ls (.ref (B + c0) :: rest)) :=
  r_getf C hG (c0 := c0) (kdx_lt hk (by decide)) (entX_O0 hk) (Cn := RX0) (T := TX0) (Nk := 13) rfl (fun x hx => List.mem_cons_of_mem _ (uw_X0 x hx)) (i := 11) (Nat.le_of_ble_eq_true rfl) (List.mem_cons_of_mem _ tg_1_87) rfl (v := .ref (B + w.2 c0 11)) rfl hdg kk
theorem gf_X0_36 {w : WX} {c0 : Nat} (C : CX p s m args meth c cc nL RX0 (cd :: TG) rt) (hG : Gd s G A 153 B (entX G B w) X H locs) (hk : KDx c0 = (0, 13)) (hdg : decode cc pc = .ok (.getfield 36, 3))
    (kk : W p l e R s m args below meth c H locs 0 0 Q (F0 m (pc + 3) ls (.ref (B + w.2 c0 12) :: rest))) : W p l e R s m args below meth c H locs 0 0 Q (F0 m pc ls (.ref (B + c0) :: rest)) :=
  r_getf C hG (c0 := c0) (kdx_lt hk (by decide)) (entX_O0 hk) (Cn := RX0) (T := TX0) (Nk := 13) rfl (fun x hx => List.mem_cons_of_mem _ (uw_X0 x hx)) (i := 12) (Nat.le_of_ble_eq_true rfl) (List.mem_cons_of_mem _ tg_1_88) rfl (v := .ref (B + w.2 c0 12)) rfl hdg kk
theorem gf_X0_39 {w : WX} {c0 : Nat} (C : CX p s m args meth c cc nL RX0 (cd :: TG) rt) (hG : Gd s G A 153 B (entX G B w) X H locs) (hk : KDx c0 = (0, 13)) (hdg : decode cc pc = .ok (.getfield 39, 3))
    (kk : W p l e R s m args below meth c H locs 0 0 Q (F0 m (pc + 3) ls (.int (w.1 c0 0) :: rest))) : W p l e R s m args below meth c H locs 0 0 Q (F0 m pc ls (.ref (B + c0) :: rest)) :=
  r_getf C hG (c0 := c0) (kdx_lt hk (by decide)) (entX_O0 hk) (Cn := RX0) (T := TX0) (Nk := 13) rfl (fun x hx => List.mem_cons_of_mem _ (uw_X0 x hx)) (i := 0) (Nat.le_of_ble_eq_true rfl) (List.mem_cons_of_mem _ tg_1_58) rfl (v := .int (w.1 c0 0)) rfl hdg kk
theorem gf_X0_46 {w : WX} {c0 : Nat} (C : CX p s m args meth c cc nL RX0 (cd :: TG) rt) (hG : Gd s G A 153 B (entX G B w) X H locs) (hk : KDx c0 = (0, 13)) (hdg : decode cc pc = .ok (.getfield 46, 3))
    (kk : W p l e R s m args below meth c H locs 0 0 Q (F0 m (pc + 3) ls (.int (w.1 c0 2) :: rest))) : W p l e R s m args below meth c H locs 0 0 Q (F0 m pc ls (.ref (B + c0) :: rest)) :=
  r_getf C hG (c0 := c0) (kdx_lt hk (by decide)) (entX_O0 hk) (Cn := RX0) (T := TX0) (Nk := 13) rfl (fun x hx => List.mem_cons_of_mem _ (uw_X0 x hx)) (i := 2) (Nat.le_of_ble_eq_true rfl) (List.mem_cons_of_mem _ tg_1_64) rfl (v := .int (w.1 c0 2)) rfl hdg kk
theorem gf_X0_49 {w : WX} {c0 : Nat} (C : CX p s m args meth c cc nL RX0 (cd :: TG) rt) (hG : Gd s G A 153 B (entX G B w) X H locs) (hk : KDx c0 = (0, 13)) (hdg : decode cc pc = .ok (.getfield 49, 3))
    (kk : W p l e R s m args below meth c H locs 0 0 Q (F0 m (pc + 3) ls (.int (w.1 c0 3) :: rest))) : W p l e R s m args below meth c H locs 0 0 Q (F0 m pc ls (.ref (B + c0) :: rest)) :=
  r_getf C hG (c0 := c0) (kdx_lt hk (by decide)) (entX_O0 hk) (Cn := RX0) (T := TX0) (Nk := 13) rfl (fun x hx => List.mem_cons_of_mem _ (uw_X0 x hx)) (i := 3) (Nat.le_of_ble_eq_true rfl) (List.mem_cons_of_mem _ tg_1_68) rfl (v := .int (w.1 c0 3)) rfl hdg kk
theorem gf_X1_11 {w : WX} (C : CX p s m args meth c cc nL RX1 (cd :: TG) rt) (hG : Gd s G A 153 B (entX G B w) X H locs) (hk : KDx 111 = (1, 2) := rfl) (hdg : decode cc pc = .ok (.getfield 11, 3))
    (kk : W p l e R s m args below meth c H locs 0 0 Q (F0 m (pc + 3) ls (.ref (B + 112) :: rest))) : W p l e R s m args below meth c H locs 0 0 Q (F0 m pc ls (.ref (B + 111) :: rest)) :=
  r_getf C hG (c0 := 111) (kdx_lt hk (by decide)) (entX_O1 hk) (Cn := RX1) (T := TX1) (Nk := 2) rfl (fun x hx => List.mem_cons_of_mem _ (uw_X1 x hx)) (i := 0) (Nat.le_of_ble_eq_true rfl) (List.mem_cons_of_mem _ tg_1_177) rfl (v := .ref (B + 112)) rfl hdg kk
theorem gf_X1_16 {w : WX} (C : CX p s m args meth c cc nL RX1 (cd :: TG) rt) (hG : Gd s G A 153 B (entX G B w) X H locs) (hk : KDx 111 = (1, 2) := rfl) (hdg : decode cc pc = .ok (.getfield 16, 3))
    (kk : W p l e R s m args below meth c H locs 0 0 Q (F0 m (pc + 3) ls (.ref (B + 117) :: rest))) : W p l e R s m args below meth c H locs 0 0 Q (F0 m pc ls (.ref (B + 111) :: rest)) :=
  r_getf C hG (c0 := 111) (kdx_lt hk (by decide)) (entX_O1 hk) (Cn := RX1) (T := TX1) (Nk := 2) rfl (fun x hx => List.mem_cons_of_mem _ (uw_X1 x hx)) (i := 1) (Nat.le_of_ble_eq_true rfl) (List.mem_cons_of_mem _ tg_1_179) rfl (v := .ref (B + 117)) rfl hdg kk
theorem gf_X2_9 {w : WX} {c0 : Nat} (C : CX p s m args meth c cc nL RX2 (cd :: TG) rt) (hG : Gd s G A 153 B (entX G B w) X H locs) (hk : KDx c0 = (2, 8)) (hdg : decode cc pc = .ok (.getfield 9, 3))
    (kk : W p l e R s m args below meth c H locs 0 0 Q (F0 m (pc + 3) ls (.ref (B + (c0 + 1)) :: rest))) : W p l e R s m args below meth c H locs 0 0 Q (F0 m pc ls (.ref (B + c0) :: rest)) :=
  r_getf C hG (c0 := c0) (kdx_lt hk (by decide)) (entX_O2 hk) (Cn := RX2) (T := TX2) (Nk := 8) rfl (fun x hx => List.mem_cons_of_mem _ (uw_X2 x hx)) (i := 2) (Nat.le_of_ble_eq_true rfl) (List.mem_cons_of_mem _ tg_1_199) rfl (v := .ref (B + (c0 + 1))) rfl hdg kk
theorem gf_X2_15 {w : WX} {c0 : Nat} (C : CX p s m args meth c cc nL RX2 (cd :: TG) rt) (hG : Gd s G A 153 B (entX G B w) X H locs) (hk : KDx c0 = (2, 8)) (hdg : decode cc pc = .ok (.getfield 15, 3))
    (kk : W p l e R s m args below meth c H locs 0 0 Q (F0 m (pc + 3) ls (.ref (B + (c0 + 2)) :: rest))) : W p l e R s m args below meth c H locs 0 0 Q (F0 m pc ls (.ref (B + c0) :: rest)) :=
  r_getf C hG (c0 := c0) (kdx_lt hk (by decide)) (entX_O2 hk) (Cn := RX2) (T := TX2) (Nk := 8) rfl (fun x hx => List.mem_cons_of_mem _ (uw_X2 x hx)) (i := 3) (Nat.le_of_ble_eq_true rfl) (List.mem_cons_of_mem _ tg_1_201) rfl (v := .ref (B + (c0 + 2))) rfl hdg kk
theorem gf_X2_18 {w : WX} {c0 : Nat} (C : CX p s m args meth c cc nL RX2 (cd :: TG) rt) (hG : Gd s G A 153 B (entX G B w) X H locs) (hk : KDx c0 = (2, 8)) (hdg : decode cc pc = .ok (.getfield 18, 3))
    (kk : W p l e R s m args below meth c H locs 0 0 Q (F0 m (pc + 3) ls (.ref (B + (c0 + 3)) :: rest))) : W p l e R s m args below meth c H locs 0 0 Q (F0 m pc ls (.ref (B + c0) :: rest)) :=
  r_getf C hG (c0 := c0) (kdx_lt hk (by decide)) (entX_O2 hk) (Cn := RX2) (T := TX2) (Nk := 8) rfl (fun x hx => List.mem_cons_of_mem _ (uw_X2 x hx)) (i := 4) (Nat.le_of_ble_eq_true rfl) (List.mem_cons_of_mem _ tg_1_203) rfl (v := .ref (B + (c0 + 3))) rfl hdg kk
theorem gf_X2_22 {w : WX} {c0 : Nat} (C : CX p s m args meth c cc nL RX2 (cd :: TG) rt) (hG : Gd s G A 153 B (entX G B w) X H locs) (hk : KDx c0 = (2, 8)) (hdg : decode cc pc = .ok (.getfield 22, 3))
    (kk : W p l e R s m args below meth c H locs 0 0 Q (F0 m (pc + 3) ls (.ref (B + (c0 + 4)) :: rest))) : W p l e R s m args below meth c H locs 0 0 Q (F0 m pc ls (.ref (B + c0) :: rest)) :=
  r_getf C hG (c0 := c0) (kdx_lt hk (by decide)) (entX_O2 hk) (Cn := RX2) (T := TX2) (Nk := 8) rfl (fun x hx => List.mem_cons_of_mem _ (uw_X2 x hx)) (i := 5) (Nat.le_of_ble_eq_true rfl) (List.mem_cons_of_mem _ tg_1_205) rfl (v := .ref (B + (c0 + 4))) rfl hdg kk
theorem gf_X2_25 {w : WX} {c0 : Nat} (C : CX p s m args meth c cc nL RX2 (cd :: TG) rt) (hG : Gd s G A 153 B (entX G B w) X H locs) (hk : KDx c0 = (2, 8)) (hdg : decode cc pc = .ok (.getfield 25, 3))
    (kk : W p l e R s m args below meth c H locs 0 0 Q (F0 m (pc + 3) ls (.ref (B + (c0 + 5)) :: rest))) : W p l e R s m args below meth c H locs 0 0 Q (F0 m pc ls (.ref (B + c0) :: rest)) :=
  r_getf C hG (c0 := c0) (kdx_lt hk (by decide)) (entX_O2 hk) (Cn := RX2) (T := TX2) (Nk := 8) rfl (fun x hx => List.mem_cons_of_mem _ (uw_X2 x hx)) (i := 6) (Nat.le_of_ble_eq_true rfl) (List.mem_cons_of_mem _ tg_1_207) rfl (v := .ref (B + (c0 + 5))) rfl hdg kk
theorem gf_X2_28 {w : WX} {c0 : Nat} (C : CX p s m args meth c cc nL RX2 (cd :: TG) rt) (hG : Gd s G A 153 B (entX G B w) X H locs) (hk : KDx c0 = (2, 8)) (hdg : decode cc pc = .ok (.getfield 28, 3))
    (kk : W p l e R s m args below meth c H locs 0 0 Q (F0 m (pc + 3) ls (.ref (B + (c0 + 6)) :: rest))) : W p l e R s m args below meth c H locs 0 0 Q (F0 m pc ls (.ref (B + c0) :: rest)) :=
  r_getf C hG (c0 := c0) (kdx_lt hk (by decide)) (entX_O2 hk) (Cn := RX2) (T := TX2) (Nk := 8) rfl (fun x hx => List.mem_cons_of_mem _ (uw_X2 x hx)) (i := 7) (Nat.le_of_ble_eq_true rfl) (List.mem_cons_of_mem _ tg_1_208) rfl (v := .ref (B + (c0 + 6))) rfl hdg kk
theorem gf_X2_31 {w : WX} {c0 : Nat} (C : CX p s m args meth c cc nL RX2 (cd :: TG) rt) (hG : Gd s G A 153 B (entX G B w) X H locs) (hk : KDx c0 = (2, 8)) (hdg : decode cc pc = .ok (.getfield 31, 3))
    (kk : W p l e R s m args below meth c H locs 0 0 Q (F0 m (pc + 3) ls (.int (w.1 c0 0) :: rest))) : W p l e R s m args below meth c H locs 0 0 Q (F0 m pc ls (.ref (B + c0) :: rest)) :=
  r_getf C hG (c0 := c0) (kdx_lt hk (by decide)) (entX_O2 hk) (Cn := RX2) (T := TX2) (Nk := 8) rfl (fun x hx => List.mem_cons_of_mem _ (uw_X2 x hx)) (i := 0) (Nat.le_of_ble_eq_true rfl) (List.mem_cons_of_mem _ tg_1_196) rfl (v := .int (w.1 c0 0)) rfl hdg kk
theorem gf_X2_35 {w : WX} {c0 : Nat} (C : CX p s m args meth c cc nL RX2 (cd :: TG) rt) (hG : Gd s G A 153 B (entX G B w) X H locs) (hk : KDx c0 = (2, 8)) (hdg : decode cc pc = .ok (.getfield 35, 3))
    (kk : W p l e R s m args below meth c H locs 0 0 Q (F0 m (pc + 3) ls (.int (w.1 c0 1) :: rest))) : W p l e R s m args below meth c H locs 0 0 Q (F0 m pc ls (.ref (B + c0) :: rest)) :=
  r_getf C hG (c0 := c0) (kdx_lt hk (by decide)) (entX_O2 hk) (Cn := RX2) (T := TX2) (Nk := 8) rfl (fun x hx => List.mem_cons_of_mem _ (uw_X2 x hx)) (i := 1) (Nat.le_of_ble_eq_true rfl) (List.mem_cons_of_mem _ tg_1_198) rfl (v := .int (w.1 c0 1)) rfl hdg kk
theorem gf_X2_38 {w : WX} {c0 : Nat} (C : CX p s m args meth c cc nL RX2 (cd :: TG) rt) (hG : Gd s G A 153 B (entX G B w) X H locs) (hk : KDx c0 = (6, 3)) (hdg : decode cc pc = .ok (.getfield 38, 3))
    (kk : W p l e R s m args below meth c H locs 0 0 Q (F0 m (pc + 3) ls (.int (w.1 c0 1) :: rest))) : W p l e R s m args below meth c H locs 0 0 Q (F0 m pc ls (.ref (B + c0) :: rest)) :=
  r_getfN C hG (c0 := c0) (kdx_lt hk (by decide)) (entX_O6 hk) (Cn := RX6) (T := TX6) (Nk := 3) rfl (fun x hx => List.mem_cons_of_mem _ (uw_X6 x hx)) (i := 1) (Nat.le_of_ble_eq_true rfl) nn_28 rfl (v := .int (w.1 c0 1)) rfl hdg kk
theorem gf_X2_41 {w : WX} {c0 : Nat} (C : CX p s m args meth c cc nL RX2 (cd :: TG) rt) (hG : Gd s G A 153 B (entX G B w) X H locs) (hk : KDx c0 = (6, 3)) (hdg : decode cc pc = .ok (.getfield 41, 3))
    (kk : W p l e R s m args below meth c H locs 0 0 Q (F0 m (pc + 3) ls (.ref (B + (c0 + 1)) :: rest))) : W p l e R s m args below meth c H locs 0 0 Q (F0 m pc ls (.ref (B + c0) :: rest)) :=
  r_getfN C hG (c0 := c0) (kdx_lt hk (by decide)) (entX_O6 hk) (Cn := RX6) (T := TX6) (Nk := 3) rfl (fun x hx => List.mem_cons_of_mem _ (uw_X6 x hx)) (i := 0) (Nat.le_of_ble_eq_true rfl) nn_25 rfl (v := .ref (B + (c0 + 1))) rfl hdg kk
theorem gf_X3_9 {w : WX} {c0 : Nat} (C : CX p s m args meth c cc nL RX3 (cd :: TG) rt) (hG : Gd s G A 153 B (entX G B w) X H locs) (hk : KDx c0 = (3, 3)) (hdg : decode cc pc = .ok (.getfield 9, 3))
    (kk : W p l e R s m args below meth c H locs 0 0 Q (F0 m (pc + 3) ls (.ref (B + (c0 + 1)) :: rest))) : W p l e R s m args below meth c H locs 0 0 Q (F0 m pc ls (.ref (B + c0) :: rest)) :=
  r_getf C hG (c0 := c0) (kdx_lt hk (by decide)) (entX_O3 hk) (Cn := RX3) (T := TX3) (Nk := 3) rfl (fun x hx => List.mem_cons_of_mem _ (uw_X3 x hx)) (i := 0) (Nat.le_of_ble_eq_true rfl) (List.mem_cons_of_mem _ tg_1_38) rfl (v := .ref (B + (c0 + 1))) rfl hdg kk
theorem gf_X3_15 {w : WX} {c0 : Nat} (C : CX p s m args meth c cc nL RX3 (cd :: TG) rt) (hG : Gd s G A 153 B (entX G B w) X H locs) (hk : KDx c0 = (3, 3)) (hdg : decode cc pc = .ok (.getfield 15, 3))
    (kk : W p l e R s m args below meth c H locs 0 0 Q (F0 m (pc + 3) ls (.ref (B + (c0 + 2)) :: rest))) : W p l e R s m args below meth c H locs 0 0 Q (F0 m pc ls (.ref (B + c0) :: rest)) :=
  r_getf C hG (c0 := c0) (kdx_lt hk (by decide)) (entX_O3 hk) (Cn := RX3) (T := TX3) (Nk := 3) rfl (fun x hx => List.mem_cons_of_mem _ (uw_X3 x hx)) (i := 1) (Nat.le_of_ble_eq_true rfl) (List.mem_cons_of_mem _ tg_1_40) rfl (v := .ref (B + (c0 + 2))) rfl hdg kk
theorem gf_X3_18 {w : WX} {c0 : Nat} (C : CX p s m args meth c cc nL RX3 (cd :: TG) rt) (hG : Gd s G A 153 B (entX G B w) X H locs) (hk : KDx c0 = (3, 3)) (hdg : decode cc pc = .ok (.getfield 18, 3))
    (kk : W p l e R s m args below meth c H locs 0 0 Q (F0 m (pc + 3) ls (.int (w.1 c0 2) :: rest))) : W p l e R s m args below meth c H locs 0 0 Q (F0 m pc ls (.ref (B + c0) :: rest)) :=
  r_getf C hG (c0 := c0) (kdx_lt hk (by decide)) (entX_O3 hk) (Cn := RX3) (T := TX3) (Nk := 3) rfl (fun x hx => List.mem_cons_of_mem _ (uw_X3 x hx)) (i := 2) (Nat.le_of_ble_eq_true rfl) (List.mem_cons_of_mem _ tg_1_42) rfl (v := .int (w.1 c0 2)) rfl hdg kk
theorem gf_X4_11 {w : WX} {c0 : Nat} (C : CX p s m args meth c cc nL RX4 (cd :: TG) rt) (hG : Gd s G A 153 B (entX G B w) X H locs) (hk : KDx c0 = (4, 4)) (hdg : decode cc pc = .ok (.getfield 11, 3))
    (kk : W p l e R s m args below meth c H locs 0 0 Q (F0 m (pc + 3) ls (.ref (B + (c0 + 1)) :: rest))) : W p l e R s m args below meth c H locs 0 0 Q (F0 m pc ls (.ref (B + c0) :: rest)) :=
  r_getf C hG (c0 := c0) (kdx_lt hk (by decide)) (entX_O4 hk) (Cn := RX4) (T := TX4) (Nk := 4) rfl (fun x hx => List.mem_cons_of_mem _ (uw_X4 x hx)) (i := 0) (Nat.le_of_ble_eq_true rfl) (List.mem_cons_of_mem _ tg_1_139) rfl (v := .ref (B + (c0 + 1))) rfl hdg kk
theorem gf_X4_19 {w : WX} {c0 : Nat} (C : CX p s m args meth c cc nL RX4 (cd :: TG) rt) (hG : Gd s G A 153 B (entX G B w) X H locs) (hk : KDx c0 = (4, 4)) (hdg : decode cc pc = .ok (.getfield 19, 3))
    (kk : W p l e R s m args below meth c H locs 0 0 Q (F0 m (pc + 3) ls (.ref (B + (c0 + 2)) :: rest))) : W p l e R s m args below meth c H locs 0 0 Q (F0 m pc ls (.ref (B + c0) :: rest)) :=
  r_getf C hG (c0 := c0) (kdx_lt hk (by decide)) (entX_O4 hk) (Cn := RX4) (T := TX4) (Nk := 4) rfl (fun x hx => List.mem_cons_of_mem _ (uw_X4 x hx)) (i := 2) (Nat.le_of_ble_eq_true rfl) (List.mem_cons_of_mem _ tg_1_143) rfl (v := .ref (B + (c0 + 2))) rfl hdg kk
theorem gf_X4_26 {w : WX} {c0 : Nat} (C : CX p s m args meth c cc nL RX4 (cd :: TG) rt) (hG : Gd s G A 153 B (entX G B w) X H locs) (hk : KDx c0 = (4, 4)) (hdg : decode cc pc = .ok (.getfield 26, 3))
    (kk : W p l e R s m args below meth c H locs 0 0 Q (F0 m (pc + 3) ls (.ref (B + (c0 + 3)) :: rest))) : W p l e R s m args below meth c H locs 0 0 Q (F0 m pc ls (.ref (B + c0) :: rest)) :=
  r_getf C hG (c0 := c0) (kdx_lt hk (by decide)) (entX_O4 hk) (Cn := RX4) (T := TX4) (Nk := 4) rfl (fun x hx => List.mem_cons_of_mem _ (uw_X4 x hx)) (i := 3) (Nat.le_of_ble_eq_true rfl) (List.mem_cons_of_mem _ tg_1_144) rfl (v := .ref (B + (c0 + 3))) rfl hdg kk
theorem gf_X4_32 {w : WX} {c0 : Nat} (C : CX p s m args meth c cc nL RX4 (cd :: TG) rt) (hG : Gd s G A 153 B (entX G B w) X H locs) (hk : KDx c0 = (4, 4)) (hdg : decode cc pc = .ok (.getfield 32, 3))
    (kk : W p l e R s m args below meth c H locs 0 0 Q (F0 m (pc + 3) ls (.int (w.1 c0 1) :: rest))) : W p l e R s m args below meth c H locs 0 0 Q (F0 m pc ls (.ref (B + c0) :: rest)) :=
  r_getf C hG (c0 := c0) (kdx_lt hk (by decide)) (entX_O4 hk) (Cn := RX4) (T := TX4) (Nk := 4) rfl (fun x hx => List.mem_cons_of_mem _ (uw_X4 x hx)) (i := 1) (Nat.le_of_ble_eq_true rfl) (List.mem_cons_of_mem _ tg_1_141) rfl (v := .int (w.1 c0 1)) rfl hdg kk
theorem gf_X4_36 {w : WX} {c0 : Nat} (C : CX p s m args meth c cc nL RX4 (cd :: TG) rt) (hG : Gd s G A 153 B (entX G B w) X H locs) (hk : KDx c0 = (0, 13)) (hdg : decode cc pc = .ok (.getfield 36, 3))
    (kk : W p l e R s m args below meth c H locs 0 0 Q (F0 m (pc + 3) ls (.int (w.1 c0 0) :: rest))) : W p l e R s m args below meth c H locs 0 0 Q (F0 m pc ls (.ref (B + c0) :: rest)) :=
  r_getfN C hG (c0 := c0) (kdx_lt hk (by decide)) (entX_O0 hk) (Cn := RX0) (T := TX0) (Nk := 13) rfl (fun x hx => List.mem_cons_of_mem _ (uw_X0 x hx)) (i := 0) (Nat.le_of_ble_eq_true rfl) nn_7 rfl (v := .int (w.1 c0 0)) rfl hdg kk
theorem gf_X4_39 {w : WX} {c0 : Nat} (C : CX p s m args meth c cc nL RX4 (cd :: TG) rt) (hG : Gd s G A 153 B (entX G B w) X H locs) (hk : KDx c0 = (0, 13)) (hdg : decode cc pc = .ok (.getfield 39, 3))
    (kk : W p l e R s m args below meth c H locs 0 0 Q (F0 m (pc + 3) ls (.int (w.1 c0 1) :: rest))) : W p l e R s m args below meth c H locs 0 0 Q (F0 m pc ls (.ref (B + c0) :: rest)) :=
  r_getfN C hG (c0 := c0) (kdx_lt hk (by decide)) (entX_O0 hk) (Cn := RX0) (T := TX0) (Nk := 13) rfl (fun x hx => List.mem_cons_of_mem _ (uw_X0 x hx)) (i := 1) (Nat.le_of_ble_eq_true rfl) nn_9 rfl (v := .int (w.1 c0 1)) rfl hdg kk
theorem gf_X4_42 {w : WX} {c0 : Nat} (C : CX p s m args meth c cc nL RX4 (cd :: TG) rt) (hG : Gd s G A 153 B (entX G B w) X H locs) (hk : KDx c0 = (0, 13)) (hdg : decode cc pc = .ok (.getfield 42, 3))
    (kk : W p l e R s m args below meth c H locs 0 0 Q (F0 m (pc + 3) ls (.int (w.1 c0 2) :: rest))) : W p l e R s m args below meth c H locs 0 0 Q (F0 m pc ls (.ref (B + c0) :: rest)) :=
  r_getfN C hG (c0 := c0) (kdx_lt hk (by decide)) (entX_O0 hk) (Cn := RX0) (T := TX0) (Nk := 13) rfl (fun x hx => List.mem_cons_of_mem _ (uw_X0 x hx)) (i := 2) (Nat.le_of_ble_eq_true rfl) nn_11 rfl (v := .int (w.1 c0 2)) rfl hdg kk
theorem gf_X4_56 {w : WX} {c0 : Nat} (C : CX p s m args meth c cc nL RX4 (cd :: TG) rt) (hG : Gd s G A 153 B (entX G B w) X H locs) (hk : KDx c0 = (3, 3)) (hdg : decode cc pc = .ok (.getfield 56, 3))
    (kk : W p l e R s m args below meth c H locs 0 0 Q (F0 m (pc + 3) ls (.int (w.1 c0 2) :: rest))) : W p l e R s m args below meth c H locs 0 0 Q (F0 m pc ls (.ref (B + c0) :: rest)) :=
  r_getfN C hG (c0 := c0) (kdx_lt hk (by decide)) (entX_O3 hk) (Cn := RX3) (T := TX3) (Nk := 3) rfl (fun x hx => List.mem_cons_of_mem _ (uw_X3 x hx)) (i := 2) (Nat.le_of_ble_eq_true rfl) nn_3 rfl (v := .int (w.1 c0 2)) rfl hdg kk
theorem gf_X4_57 {w : WX} {c0 : Nat} (C : CX p s m args meth c cc nL RX4 (cd :: TG) rt) (hG : Gd s G A 153 B (entX G B w) X H locs) (hk : KDx c0 = (3, 3)) (hdg : decode cc pc = .ok (.getfield 57, 3))
    (kk : W p l e R s m args below meth c H locs 0 0 Q (F0 m (pc + 3) ls (.ref (B + (c0 + 1)) :: rest))) : W p l e R s m args below meth c H locs 0 0 Q (F0 m pc ls (.ref (B + c0) :: rest)) :=
  r_getfN C hG (c0 := c0) (kdx_lt hk (by decide)) (entX_O3 hk) (Cn := RX3) (T := TX3) (Nk := 3) rfl (fun x hx => List.mem_cons_of_mem _ (uw_X3 x hx)) (i := 0) (Nat.le_of_ble_eq_true rfl) nn_1 rfl (v := .ref (B + (c0 + 1))) rfl hdg kk
theorem gf_X4_61 {w : WX} {c0 : Nat} (C : CX p s m args meth c cc nL RX4 (cd :: TG) rt) (hG : Gd s G A 153 B (entX G B w) X H locs) (hk : KDx c0 = (3, 3)) (hdg : decode cc pc = .ok (.getfield 61, 3))
    (kk : W p l e R s m args below meth c H locs 0 0 Q (F0 m (pc + 3) ls (.ref (B + (c0 + 2)) :: rest))) : W p l e R s m args below meth c H locs 0 0 Q (F0 m pc ls (.ref (B + c0) :: rest)) :=
  r_getfN C hG (c0 := c0) (kdx_lt hk (by decide)) (entX_O3 hk) (Cn := RX3) (T := TX3) (Nk := 3) rfl (fun x hx => List.mem_cons_of_mem _ (uw_X3 x hx)) (i := 1) (Nat.le_of_ble_eq_true rfl) nn_2 rfl (v := .ref (B + (c0 + 2))) rfl hdg kk
theorem gf_X4_72 {w : WX} {c0 : Nat} (C : CX p s m args meth c cc nL RX4 (cd :: TG) rt) (hG : Gd s G A 153 B (entX G B w) X H locs) (hk : KDx c0 = (6, 3)) (hdg : decode cc pc = .ok (.getfield 72, 3))
    (kk : W p l e R s m args below meth c H locs 0 0 Q (F0 m (pc + 3) ls (.int (w.1 c0 1) :: rest))) : W p l e R s m args below meth c H locs 0 0 Q (F0 m pc ls (.ref (B + c0) :: rest)) :=
  r_getfN C hG (c0 := c0) (kdx_lt hk (by decide)) (entX_O6 hk) (Cn := RX6) (T := TX6) (Nk := 3) rfl (fun x hx => List.mem_cons_of_mem _ (uw_X6 x hx)) (i := 1) (Nat.le_of_ble_eq_true rfl) nn_30 rfl (v := .int (w.1 c0 1)) rfl hdg kk
theorem gf_X5_9 {w : WX} {c0 : Nat} (C : CX p s m args meth c cc nL RX5 (cd :: TG) rt) (hG : Gd s G A 153 B (entX G B w) X H locs) (hk : KDx c0 = (5, 5)) (hdg : decode cc pc = .ok (.getfield 9, 3))
    (kk : W p l e R s m args below meth c H locs 0 0 Q (F0 m (pc + 3) ls (.ref (B + w.2 c0 0) :: rest))) : W p l e R s m args below meth c H locs 0 0 Q (F0 m pc ls (.ref (B + c0) :: rest)) :=
  r_getf C hG (c0 := c0) (kdx_lt hk (by decide)) (entX_O5 hk) (Cn := RX5) (T := TX5) (Nk := 5) rfl (fun x hx => List.mem_cons_of_mem _ (uw_X5 x hx)) (i := 0) (Nat.le_of_ble_eq_true rfl) (List.mem_cons_of_mem _ tg_1_233) rfl (v := .ref (B + w.2 c0 0)) rfl hdg kk
theorem gf_X5_15 {w : WX} {c0 : Nat} (C : CX p s m args meth c cc nL RX5 (cd :: TG) rt) (hG : Gd s G A 153 B (entX G B w) X H locs) (hk : KDx c0 = (5, 5)) (hdg : decode cc pc = .ok (.getfield 15, 3))
    (kk : W p l e R s m args below meth c H locs 0 0 Q (F0 m (pc + 3) ls (.ref (B + w.2 c0 1) :: rest))) : W p l e R s m args below meth c H locs 0 0 Q (F0 m pc ls (.ref (B + c0) :: rest)) :=
  r_getf C hG (c0 := c0) (kdx_lt hk (by decide)) (entX_O5 hk) (Cn := RX5) (T := TX5) (Nk := 5) rfl (fun x hx => List.mem_cons_of_mem _ (uw_X5 x hx)) (i := 1) (Nat.le_of_ble_eq_true rfl) (List.mem_cons_of_mem _ tg_1_235) rfl (v := .ref (B + w.2 c0 1)) rfl hdg kk
theorem gf_X5_18 {w : WX} {c0 : Nat} (C : CX p s m args meth c cc nL RX5 (cd :: TG) rt) (hG : Gd s G A 153 B (entX G B w) X H locs) (hk : KDx c0 = (5, 5)) (hdg : decode cc pc = .ok (.getfield 18, 3))
    (kk : W p l e R s m args below meth c H locs 0 0 Q (F0 m (pc + 3) ls (.ref (B + (c0 + 3)) :: rest))) : W p l e R s m args below meth c H locs 0 0 Q (F0 m pc ls (.ref (B + c0) :: rest)) :=
  r_getf C hG (c0 := c0) (kdx_lt hk (by decide)) (entX_O5 hk) (Cn := RX5) (T := TX5) (Nk := 5) rfl (fun x hx => List.mem_cons_of_mem _ (uw_X5 x hx)) (i := 2) (Nat.le_of_ble_eq_true rfl) (List.mem_cons_of_mem _ tg_1_236) rfl (v := .ref (B + (c0 + 3))) rfl hdg kk
theorem gf_X5_21 {w : WX} {c0 : Nat} (C : CX p s m args meth c cc nL RX5 (cd :: TG) rt) (hG : Gd s G A 153 B (entX G B w) X H locs) (hk : KDx c0 = (0, 13)) (hdg : decode cc pc = .ok (.getfield 21, 3))
    (kk : W p l e R s m args below meth c H locs 0 0 Q (F0 m (pc + 3) ls (.int (w.1 c0 3) :: rest))) : W p l e R s m args below meth c H locs 0 0 Q (F0 m pc ls (.ref (B + c0) :: rest)) :=
  r_getfN C hG (c0 := c0) (kdx_lt hk (by decide)) (entX_O0 hk) (Cn := RX0) (T := TX0) (Nk := 13) rfl (fun x hx => List.mem_cons_of_mem _ (uw_X0 x hx)) (i := 3) (Nat.le_of_ble_eq_true rfl) nn_12 rfl (v := .int (w.1 c0 3)) rfl hdg kk
theorem gf_X5_27 {w : WX} {c0 : Nat} (C : CX p s m args meth c cc nL RX5 (cd :: TG) rt) (hG : Gd s G A 153 B (entX G B w) X H locs) (hk : KDx c0 = (5, 5)) (hdg : decode cc pc = .ok (.getfield 27, 3))
    (kk : W p l e R s m args below meth c H locs 0 0 Q (F0 m (pc + 3) ls (.int (w.1 c0 4) :: rest))) : W p l e R s m args below meth c H locs 0 0 Q (F0 m pc ls (.ref (B + c0) :: rest)) :=
  r_getf C hG (c0 := c0) (kdx_lt hk (by decide)) (entX_O5 hk) (Cn := RX5) (T := TX5) (Nk := 5) rfl (fun x hx => List.mem_cons_of_mem _ (uw_X5 x hx)) (i := 4) (Nat.le_of_ble_eq_true rfl) (List.mem_cons_of_mem _ tg_1_238) rfl (v := .int (w.1 c0 4)) rfl hdg kk
theorem gf_X5_28 {w : WX} {c0 : Nat} (C : CX p s m args meth c cc nL RX5 (cd :: TG) rt) (hG : Gd s G A 153 B (entX G B w) X H locs) (hk : KDx c0 = (5, 5)) (hdg : decode cc pc = .ok (.getfield 28, 3))
    (kk : W p l e R s m args below meth c H locs 0 0 Q (F0 m (pc + 3) ls (.int (w.1 c0 3) :: rest))) : W p l e R s m args below meth c H locs 0 0 Q (F0 m pc ls (.ref (B + c0) :: rest)) :=
  r_getf C hG (c0 := c0) (kdx_lt hk (by decide)) (entX_O5 hk) (Cn := RX5) (T := TX5) (Nk := 5) rfl (fun x hx => List.mem_cons_of_mem _ (uw_X5 x hx)) (i := 3) (Nat.le_of_ble_eq_true rfl) (List.mem_cons_of_mem _ tg_1_237) rfl (v := .int (w.1 c0 3)) rfl hdg kk
theorem gf_X5_31 {w : WX} {c0 : Nat} (C : CX p s m args meth c cc nL RX5 (cd :: TG) rt) (hG : Gd s G A 153 B (entX G B w) X H locs) (hk : KDx c0 = (6, 3)) (hdg : decode cc pc = .ok (.getfield 31, 3))
    (kk : W p l e R s m args below meth c H locs 0 0 Q (F0 m (pc + 3) ls (.int (w.1 c0 1) :: rest))) : W p l e R s m args below meth c H locs 0 0 Q (F0 m pc ls (.ref (B + c0) :: rest)) :=
  r_getfN C hG (c0 := c0) (kdx_lt hk (by decide)) (entX_O6 hk) (Cn := RX6) (T := TX6) (Nk := 3) rfl (fun x hx => List.mem_cons_of_mem _ (uw_X6 x hx)) (i := 1) (Nat.le_of_ble_eq_true rfl) nn_29 rfl (v := .int (w.1 c0 1)) rfl hdg kk
theorem gf_X5_36 {w : WX} {c0 : Nat} (C : CX p s m args meth c cc nL RX5 (cd :: TG) rt) (hG : Gd s G A 153 B (entX G B w) X H locs) (hk : KDx c0 = (6, 3)) (hdg : decode cc pc = .ok (.getfield 36, 3))
    (kk : W p l e R s m args below meth c H locs 0 0 Q (F0 m (pc + 3) ls (.ref (B + (c0 + 1)) :: rest))) : W p l e R s m args below meth c H locs 0 0 Q (F0 m pc ls (.ref (B + c0) :: rest)) :=
  r_getfN C hG (c0 := c0) (kdx_lt hk (by decide)) (entX_O6 hk) (Cn := RX6) (T := TX6) (Nk := 3) rfl (fun x hx => List.mem_cons_of_mem _ (uw_X6 x hx)) (i := 0) (Nat.le_of_ble_eq_true rfl) nn_26 rfl (v := .ref (B + (c0 + 1))) rfl hdg kk
theorem gf_X5_66 {w : WX} {c0 : Nat} (C : CX p s m args meth c cc nL RX5 (cd :: TG) rt) (hG : Gd s G A 153 B (entX G B w) X H locs) (hk : KDx c0 = (0, 13)) (hdg : decode cc pc = .ok (.getfield 66, 3))
    (kk : W p l e R s m args below meth c H locs 0 0 Q (F0 m (pc + 3) ls (.ref (B + (c0 + 6)) :: rest))) : W p l e R s m args below meth c H locs 0 0 Q (F0 m pc ls (.ref (B + c0) :: rest)) :=
  r_getfN C hG (c0 := c0) (kdx_lt hk (by decide)) (entX_O0 hk) (Cn := RX0) (T := TX0) (Nk := 13) rfl (fun x hx => List.mem_cons_of_mem _ (uw_X0 x hx)) (i := 9) (Nat.le_of_ble_eq_true rfl) nn_20 rfl (v := .ref (B + (c0 + 6))) rfl hdg kk
theorem gf_X5_73 {w : WX} {c0 : Nat} (C : CX p s m args meth c cc nL RX5 (cd :: TG) rt) (hG : Gd s G A 153 B (entX G B w) X H locs) (hk : KDx c0 = (0, 13)) (hdg : decode cc pc = .ok (.getfield 73, 3))
    (kk : W p l e R s m args below meth c H locs 0 0 Q (F0 m (pc + 3) ls (.ref (B + (c0 + 7)) :: rest))) : W p l e R s m args below meth c H locs 0 0 Q (F0 m pc ls (.ref (B + c0) :: rest)) :=
  r_getfN C hG (c0 := c0) (kdx_lt hk (by decide)) (entX_O0 hk) (Cn := RX0) (T := TX0) (Nk := 13) rfl (fun x hx => List.mem_cons_of_mem _ (uw_X0 x hx)) (i := 10) (Nat.le_of_ble_eq_true rfl) nn_22 rfl (v := .ref (B + (c0 + 7))) rfl hdg kk
theorem gf_X5_76 {w : WX} {c0 : Nat} (C : CX p s m args meth c cc nL RX5 (cd :: TG) rt) (hG : Gd s G A 153 B (entX G B w) X H locs) (hk : KDx c0 = (0, 13)) (hdg : decode cc pc = .ok (.getfield 76, 3))
    (kk : W p l e R s m args below meth c H locs 0 0 Q (F0 m (pc + 3) ls (.ref (B + (c0 + 5)) :: rest))) : W p l e R s m args below meth c H locs 0 0 Q (F0 m pc ls (.ref (B + c0) :: rest)) :=
  r_getfN C hG (c0 := c0) (kdx_lt hk (by decide)) (entX_O0 hk) (Cn := RX0) (T := TX0) (Nk := 13) rfl (fun x hx => List.mem_cons_of_mem _ (uw_X0 x hx)) (i := 8) (Nat.le_of_ble_eq_true rfl) nn_18 rfl (v := .ref (B + (c0 + 5))) rfl hdg kk
theorem gf_X5_87 {w : WX} {c0 : Nat} (C : CX p s m args meth c cc nL RX5 (cd :: TG) rt) (hG : Gd s G A 153 B (entX G B w) X H locs) (hk : KDx c0 = (0, 13)) (hdg : decode cc pc = .ok (.getfield 87, 3))
    (kk : W p l e R s m args below meth c H locs 0 0 Q (F0 m (pc + 3) ls (.ref (B + (c0 + 1)) :: rest))) : W p l e R s m args below meth c H locs 0 0 Q (F0 m pc ls (.ref (B + c0) :: rest)) :=
  r_getfN C hG (c0 := c0) (kdx_lt hk (by decide)) (entX_O0 hk) (Cn := RX0) (T := TX0) (Nk := 13) rfl (fun x hx => List.mem_cons_of_mem _ (uw_X0 x hx)) (i := 4) (Nat.le_of_ble_eq_true rfl) nn_14 rfl (v := .ref (B + (c0 + 1))) rfl hdg kk
theorem gf_X5_94 {w : WX} {c0 : Nat} (C : CX p s m args meth c cc nL RX5 (cd :: TG) rt) (hG : Gd s G A 153 B (entX G B w) X H locs) (hk : KDx c0 = (0, 13)) (hdg : decode cc pc = .ok (.getfield 94, 3))
    (kk : W p l e R s m args below meth c H locs 0 0 Q (F0 m (pc + 3) ls (.ref (B + (c0 + 2)) :: rest))) : W p l e R s m args below meth c H locs 0 0 Q (F0 m pc ls (.ref (B + c0) :: rest)) :=
  r_getfN C hG (c0 := c0) (kdx_lt hk (by decide)) (entX_O0 hk) (Cn := RX0) (T := TX0) (Nk := 13) rfl (fun x hx => List.mem_cons_of_mem _ (uw_X0 x hx)) (i := 5) (Nat.le_of_ble_eq_true rfl) nn_15 rfl (v := .ref (B + (c0 + 2))) rfl hdg kk
theorem gf_X5_101 {w : WX} {c0 : Nat} (C : CX p s m args meth c cc nL RX5 (cd :: TG) rt) (hG : Gd s G A 153 B (entX G B w) X H locs) (hk : KDx c0 = (0, 13)) (hdg : decode cc pc = .ok (.getfield 101, 3))
    (kk : W p l e R s m args below meth c H locs 0 0 Q (F0 m (pc + 3) ls (.ref (B + (c0 + 4)) :: rest))) : W p l e R s m args below meth c H locs 0 0 Q (F0 m pc ls (.ref (B + c0) :: rest)) :=
  r_getfN C hG (c0 := c0) (kdx_lt hk (by decide)) (entX_O0 hk) (Cn := RX0) (T := TX0) (Nk := 13) rfl (fun x hx => List.mem_cons_of_mem _ (uw_X0 x hx)) (i := 7) (Nat.le_of_ble_eq_true rfl) nn_16 rfl (v := .ref (B + (c0 + 4))) rfl hdg kk
theorem gf_X6_9 {w : WX} {c0 : Nat} (C : CX p s m args meth c cc nL RX6 (cd :: TG) rt) (hG : Gd s G A 153 B (entX G B w) X H locs) (hk : KDx c0 = (6, 3)) (hdg : decode cc pc = .ok (.getfield 9, 3))
    (kk : W p l e R s m args below meth c H locs 0 0 Q (F0 m (pc + 3) ls (.ref (B + (c0 + 1)) :: rest))) : W p l e R s m args below meth c H locs 0 0 Q (F0 m pc ls (.ref (B + c0) :: rest)) :=
  r_getf C hG (c0 := c0) (kdx_lt hk (by decide)) (entX_O6 hk) (Cn := RX6) (T := TX6) (Nk := 3) rfl (fun x hx => List.mem_cons_of_mem _ (uw_X6 x hx)) (i := 0) (Nat.le_of_ble_eq_true rfl) (List.mem_cons_of_mem _ tg_1_121) rfl (v := .ref (B + (c0 + 1))) rfl hdg kk
theorem gf_X6_15 {w : WX} {c0 : Nat} (C : CX p s m args meth c cc nL RX6 (cd :: TG) rt) (hG : Gd s G A 153 B (entX G B w) X H locs) (hk : KDx c0 = (6, 3)) (hdg : decode cc pc = .ok (.getfield 15, 3))
    (kk : W p l e R s m args below meth c H locs 0 0 Q (F0 m (pc + 3) ls (.int (w.1 c0 1) :: rest))) : W p l e R s m args below meth c H locs 0 0 Q (F0 m pc ls (.ref (B + c0) :: rest)) :=
  r_getf C hG (c0 := c0) (kdx_lt hk (by decide)) (entX_O6 hk) (Cn := RX6) (T := TX6) (Nk := 3) rfl (fun x hx => List.mem_cons_of_mem _ (uw_X6 x hx)) (i := 1) (Nat.le_of_ble_eq_true rfl) (List.mem_cons_of_mem _ tg_1_125) rfl (v := .int (w.1 c0 1)) rfl hdg kk
theorem gf_X6_19 {w : WX} {c0 : Nat} (C : CX p s m args meth c cc nL RX6 (cd :: TG) rt) (hG : Gd s G A 153 B (entX G B w) X H locs) (hk : KDx c0 = (6, 3)) (hdg : decode cc pc = .ok (.getfield 19, 3))
    (kk : W p l e R s m args below meth c H locs 0 0 Q (F0 m (pc + 3) ls (.int (w.1 c0 2) :: rest))) : W p l e R s m args below meth c H locs 0 0 Q (F0 m pc ls (.ref (B + c0) :: rest)) :=
  r_getf C hG (c0 := c0) (kdx_lt hk (by decide)) (entX_O6 hk) (Cn := RX6) (T := TX6) (Nk := 3) rfl (fun x hx => List.mem_cons_of_mem _ (uw_X6 x hx)) (i := 2) (Nat.le_of_ble_eq_true rfl) (List.mem_cons_of_mem _ tg_1_130) rfl (v := .int (w.1 c0 2)) rfl hdg kk
theorem gf_X7_9 {w : WX} (C : CX p s m args meth c cc nL RX7 (cd :: TG) rt) (hG : Gd s G A 153 B (entX G B w) X H locs) (hk : KDx 109 = (7, 2) := rfl) (hdg : decode cc pc = .ok (.getfield 9, 3))
    (kk : W p l e R s m args below meth c H locs 0 0 Q (F0 m (pc + 3) ls (.ref (B + 110) :: rest))) : W p l e R s m args below meth c H locs 0 0 Q (F0 m pc ls (.ref (B + 109) :: rest)) :=
  r_getf C hG (c0 := 109) (kdx_lt hk (by decide)) (entX_O7 hk) (Cn := RX7) (T := TX7) (Nk := 2) rfl (fun x hx => List.mem_cons_of_mem _ (uw_X7 x hx)) (i := 0) (Nat.le_of_ble_eq_true rfl) (List.mem_cons_of_mem _ tg_1_161) rfl (v := .ref (B + 110)) rfl hdg kk
theorem gf_X7_15 {w : WX} (C : CX p s m args meth c cc nL RX7 (cd :: TG) rt) (hG : Gd s G A 153 B (entX G B w) X H locs) (hk : KDx 109 = (7, 2) := rfl) (hdg : decode cc pc = .ok (.getfield 15, 3))
    (kk : W p l e R s m args below meth c H locs 0 0 Q (F0 m (pc + 3) ls (.int (w.1 109 1) :: rest))) : W p l e R s m args below meth c H locs 0 0 Q (F0 m pc ls (.ref (B + 109) :: rest)) :=
  r_getf C hG (c0 := 109) (kdx_lt hk (by decide)) (entX_O7 hk) (Cn := RX7) (T := TX7) (Nk := 2) rfl (fun x hx => List.mem_cons_of_mem _ (uw_X7 x hx)) (i := 1) (Nat.le_of_ble_eq_true rfl) (List.mem_cons_of_mem _ tg_1_162) rfl (v := .int (w.1 109 1)) rfl hdg kk
theorem gf_X9_11 {w : Mem} (C : CX p s m args meth c cc nL RX9 (cd :: TG) rt) (hG : Gd s G A 28 B (entM G B w) X H locs) (hk : KDm 0 = (9, 35) := rfl) (hdg : decode cc pc = .ok (.getfield 11, 3))
    (kk : W p l e R s m args below meth c H locs 0 0 Q (F0 m (pc + 3) ls (.ref (B + 1) :: rest))) : W p l e R s m args below meth c H locs 0 0 Q (F0 m pc ls (.ref (B + 0) :: rest)) :=
  r_getf C hG (c0 := 0) (kdm_lt hk (by decide)) (entM_O hk) (Cn := RX9) (T := TX9) (Nk := 35) rfl (fun x hx => List.mem_cons_of_mem _ (uw_X9 x hx)) (i := 0) (Nat.le_of_ble_eq_true rfl) (List.mem_cons_of_mem _ tg_4_84) rfl (v := .ref (B + 1)) rfl hdg kk
theorem gf_X9_15 {w : Mem} (C : CX p s m args meth c cc nL RX9 (cd :: TG) rt) (hG : Gd s G A 28 B (entM G B w) X H locs) (hk : KDm 0 = (9, 35) := rfl) (hdg : decode cc pc = .ok (.getfield 15, 3))
    (kk : W p l e R s m args below meth c H locs 0 0 Q (F0 m (pc + 3) ls (.ref (B + 2) :: rest))) : W p l e R s m args below meth c H locs 0 0 Q (F0 m pc ls (.ref (B + 0) :: rest)) :=
  r_getf C hG (c0 := 0) (kdm_lt hk (by decide)) (entM_O hk) (Cn := RX9) (T := TX9) (Nk := 35) rfl (fun x hx => List.mem_cons_of_mem _ (uw_X9 x hx)) (i := 1) (Nat.le_of_ble_eq_true rfl) (List.mem_cons_of_mem _ tg_4_85) rfl (v := .ref (B + 2)) rfl hdg kk
theorem gf_X9_18 {w : Mem} (C : CX p s m args meth c cc nL RX9 (cd :: TG) rt) (hG : Gd s G A 28 B (entM G B w) X H locs) (hk : KDm 0 = (9, 35) := rfl) (hdg : decode cc pc = .ok (.getfield 18, 3))
    (kk : W p l e R s m args below meth c H locs 0 0 Q (F0 m (pc + 3) ls (.ref (B + 3) :: rest))) : W p l e R s m args below meth c H locs 0 0 Q (F0 m pc ls (.ref (B + 0) :: rest)) :=
  r_getf C hG (c0 := 0) (kdm_lt hk (by decide)) (entM_O hk) (Cn := RX9) (T := TX9) (Nk := 35) rfl (fun x hx => List.mem_cons_of_mem _ (uw_X9 x hx)) (i := 5) (Nat.le_of_ble_eq_true rfl) (List.mem_cons_of_mem _ tg_4_89) rfl (v := .ref (B + 3)) rfl hdg kk
theorem gf_X9_21 {w : Mem} (C : CX p s m args meth c cc nL RX9 (cd :: TG) rt) (hG : Gd s G A 28 B (entM G B w) X H locs) (hk : KDm 0 = (9, 35) := rfl) (hdg : decode cc pc = .ok (.getfield 21, 3))
    (kk : W p l e R s m args below meth c H locs 0 0 Q (F0 m (pc + 3) ls (.ref (B + 4) :: rest))) : W p l e R s m args below meth c H locs 0 0 Q (F0 m pc ls (.ref (B + 0) :: rest)) :=
  r_getf C hG (c0 := 0) (kdm_lt hk (by decide)) (entM_O hk) (Cn := RX9) (T := TX9) (Nk := 35) rfl (fun x hx => List.mem_cons_of_mem _ (uw_X9 x hx)) (i := 6) (Nat.le_of_ble_eq_true rfl) (List.mem_cons_of_mem _ tg_4_90) rfl (v := .ref (B + 4)) rfl hdg kk
theorem gf_X9_24 {w : Mem} (C : CX p s m args meth c cc nL RX9 (cd :: TG) rt) (hG : Gd s G A 28 B (entM G B w) X H locs) (hk : KDm 0 = (9, 35) := rfl) (hdg : decode cc pc = .ok (.getfield 24, 3))
    (kk : W p l e R s m args below meth c H locs 0 0 Q (F0 m (pc + 3) ls (.ref (B + 5) :: rest))) : W p l e R s m args below meth c H locs 0 0 Q (F0 m pc ls (.ref (B + 0) :: rest)) :=
  r_getf C hG (c0 := 0) (kdm_lt hk (by decide)) (entM_O hk) (Cn := RX9) (T := TX9) (Nk := 35) rfl (fun x hx => List.mem_cons_of_mem _ (uw_X9 x hx)) (i := 7) (Nat.le_of_ble_eq_true rfl) (List.mem_cons_of_mem _ tg_4_91) rfl (v := .ref (B + 5)) rfl hdg kk
theorem gf_X9_27 {w : Mem} (C : CX p s m args meth c cc nL RX9 (cd :: TG) rt) (hG : Gd s G A 28 B (entM G B w) X H locs) (hk : KDm 0 = (9, 35) := rfl) (hdg : decode cc pc = .ok (.getfield 27, 3))
    (kk : W p l e R s m args below meth c H locs 0 0 Q (F0 m (pc + 3) ls (.ref (B + 6) :: rest))) : W p l e R s m args below meth c H locs 0 0 Q (F0 m pc ls (.ref (B + 0) :: rest)) :=
  r_getf C hG (c0 := 0) (kdm_lt hk (by decide)) (entM_O hk) (Cn := RX9) (T := TX9) (Nk := 35) rfl (fun x hx => List.mem_cons_of_mem _ (uw_X9 x hx)) (i := 8) (Nat.le_of_ble_eq_true rfl) (List.mem_cons_of_mem _ tg_4_92) rfl (v := .ref (B + 6)) rfl hdg kk
theorem gf_X9_30 {w : Mem} (C : CX p s m args meth c cc nL RX9 (cd :: TG) rt) (hG : Gd s G A 28 B (entM G B w) X H locs) (hk : KDm 0 = (9, 35) := rfl) (hdg : decode cc pc = .ok (.getfield 30, 3))
    (kk : W p l e R s m args below meth c H locs 0 0 Q (F0 m (pc + 3) ls (.ref (B + 7) :: rest))) : W p l e R s m args below meth c H locs 0 0 Q (F0 m pc ls (.ref (B + 0) :: rest)) :=
  r_getf C hG (c0 := 0) (kdm_lt hk (by decide)) (entM_O hk) (Cn := RX9) (T := TX9) (Nk := 35) rfl (fun x hx => List.mem_cons_of_mem _ (uw_X9 x hx)) (i := 9) (Nat.le_of_ble_eq_true rfl) (List.mem_cons_of_mem _ tg_4_93) rfl (v := .ref (B + 7)) rfl hdg kk
theorem gf_X9_33 {w : Mem} (C : CX p s m args meth c cc nL RX9 (cd :: TG) rt) (hG : Gd s G A 28 B (entM G B w) X H locs) (hk : KDm 0 = (9, 35) := rfl) (hdg : decode cc pc = .ok (.getfield 33, 3))
    (kk : W p l e R s m args below meth c H locs 0 0 Q (F0 m (pc + 3) ls (.ref (B + 8) :: rest))) : W p l e R s m args below meth c H locs 0 0 Q (F0 m pc ls (.ref (B + 0) :: rest)) :=
  r_getf C hG (c0 := 0) (kdm_lt hk (by decide)) (entM_O hk) (Cn := RX9) (T := TX9) (Nk := 35) rfl (fun x hx => List.mem_cons_of_mem _ (uw_X9 x hx)) (i := 10) (Nat.le_of_ble_eq_true rfl) (List.mem_cons_of_mem _ tg_4_94) rfl (v := .ref (B + 8)) rfl hdg kk
theorem gf_X9_36 {w : Mem} (C : CX p s m args meth c cc nL RX9 (cd :: TG) rt) (hG : Gd s G A 28 B (entM G B w) X H locs) (hk : KDm 0 = (9, 35) := rfl) (hdg : decode cc pc = .ok (.getfield 36, 3))
    (kk : W p l e R s m args below meth c H locs 0 0 Q (F0 m (pc + 3) ls (.ref (B + 9) :: rest))) : W p l e R s m args below meth c H locs 0 0 Q (F0 m pc ls (.ref (B + 0) :: rest)) :=
  r_getf C hG (c0 := 0) (kdm_lt hk (by decide)) (entM_O hk) (Cn := RX9) (T := TX9) (Nk := 35) rfl (fun x hx => List.mem_cons_of_mem _ (uw_X9 x hx)) (i := 11) (Nat.le_of_ble_eq_true rfl) (List.mem_cons_of_mem _ tg_4_95) rfl (v := .ref (B + 9)) rfl hdg kk
theorem gf_X9_39 {w : Mem} (C : CX p s m args meth c cc nL RX9 (cd :: TG) rt) (hG : Gd s G A 28 B (entM G B w) X H locs) (hk : KDm 0 = (9, 35) := rfl) (hdg : decode cc pc = .ok (.getfield 39, 3))
    (kk : W p l e R s m args below meth c H locs 0 0 Q (F0 m (pc + 3) ls (.ref (B + 10) :: rest))) : W p l e R s m args below meth c H locs 0 0 Q (F0 m pc ls (.ref (B + 0) :: rest)) :=
  r_getf C hG (c0 := 0) (kdm_lt hk (by decide)) (entM_O hk) (Cn := RX9) (T := TX9) (Nk := 35) rfl (fun x hx => List.mem_cons_of_mem _ (uw_X9 x hx)) (i := 12) (Nat.le_of_ble_eq_true rfl) (List.mem_cons_of_mem _ tg_4_96) rfl (v := .ref (B + 10)) rfl hdg kk
theorem gf_X9_42 {w : Mem} (C : CX p s m args meth c cc nL RX9 (cd :: TG) rt) (hG : Gd s G A 28 B (entM G B w) X H locs) (hk : KDm 0 = (9, 35) := rfl) (hdg : decode cc pc = .ok (.getfield 42, 3))
    (kk : W p l e R s m args below meth c H locs 0 0 Q (F0 m (pc + 3) ls (.ref (B + 11) :: rest))) : W p l e R s m args below meth c H locs 0 0 Q (F0 m pc ls (.ref (B + 0) :: rest)) :=
  r_getf C hG (c0 := 0) (kdm_lt hk (by decide)) (entM_O hk) (Cn := RX9) (T := TX9) (Nk := 35) rfl (fun x hx => List.mem_cons_of_mem _ (uw_X9 x hx)) (i := 13) (Nat.le_of_ble_eq_true rfl) (List.mem_cons_of_mem _ tg_4_97) rfl (v := .ref (B + 11)) rfl hdg kk
theorem gf_X9_45 {w : Mem} (C : CX p s m args meth c cc nL RX9 (cd :: TG) rt) (hG : Gd s G A 28 B (entM G B w) X H locs) (hk : KDm 0 = (9, 35) := rfl) (hdg : decode cc pc = .ok (.getfield 45, 3))
    (kk : W p l e R s m args below meth c H locs 0 0 Q (F0 m (pc + 3) ls (.ref (B + 12) :: rest))) : W p l e R s m args below meth c H locs 0 0 Q (F0 m pc ls (.ref (B + 0) :: rest)) :=
  r_getf C hG (c0 := 0) (kdm_lt hk (by decide)) (entM_O hk) (Cn := RX9) (T := TX9) (Nk := 35) rfl (fun x hx => List.mem_cons_of_mem _ (uw_X9 x hx)) (i := 14) (Nat.le_of_ble_eq_true rfl) (List.mem_cons_of_mem _ tg_4_98) rfl (v := .ref (B + 12)) rfl hdg kk
theorem gf_X9_48 {w : Mem} (C : CX p s m args meth c cc nL RX9 (cd :: TG) rt) (hG : Gd s G A 28 B (entM G B w) X H locs) (hk : KDm 0 = (9, 35) := rfl) (hdg : decode cc pc = .ok (.getfield 48, 3))
    (kk : W p l e R s m args below meth c H locs 0 0 Q (F0 m (pc + 3) ls (.ref (B + 13) :: rest))) : W p l e R s m args below meth c H locs 0 0 Q (F0 m pc ls (.ref (B + 0) :: rest)) :=
  r_getf C hG (c0 := 0) (kdm_lt hk (by decide)) (entM_O hk) (Cn := RX9) (T := TX9) (Nk := 35) rfl (fun x hx => List.mem_cons_of_mem _ (uw_X9 x hx)) (i := 16) (Nat.le_of_ble_eq_true rfl) (List.mem_cons_of_mem _ tg_4_100) rfl (v := .ref (B + 13)) rfl hdg kk
theorem gf_X9_51 {w : Mem} (C : CX p s m args meth c cc nL RX9 (cd :: TG) rt) (hG : Gd s G A 28 B (entM G B w) X H locs) (hk : KDm 0 = (9, 35) := rfl) (hdg : decode cc pc = .ok (.getfield 51, 3))
    (kk : W p l e R s m args below meth c H locs 0 0 Q (F0 m (pc + 3) ls (.ref (B + 14) :: rest))) : W p l e R s m args below meth c H locs 0 0 Q (F0 m pc ls (.ref (B + 0) :: rest)) :=
  r_getf C hG (c0 := 0) (kdm_lt hk (by decide)) (entM_O hk) (Cn := RX9) (T := TX9) (Nk := 35) rfl (fun x hx => List.mem_cons_of_mem _ (uw_X9 x hx)) (i := 18) (Nat.le_of_ble_eq_true rfl) (List.mem_cons_of_mem _ tg_4_102) rfl (v := .ref (B + 14)) rfl hdg kk
theorem gf_X9_54 {w : Mem} (C : CX p s m args meth c cc nL RX9 (cd :: TG) rt) (hG : Gd s G A 28 B (entM G B w) X H locs) (hk : KDm 0 = (9, 35) := rfl) (hdg : decode cc pc = .ok (.getfield 54, 3))
    (kk : W p l e R s m args below meth c H locs 0 0 Q (F0 m (pc + 3) ls (.ref (B + 15) :: rest))) : W p l e R s m args below meth c H locs 0 0 Q (F0 m pc ls (.ref (B + 0) :: rest)) :=
  r_getf C hG (c0 := 0) (kdm_lt hk (by decide)) (entM_O hk) (Cn := RX9) (T := TX9) (Nk := 35) rfl (fun x hx => List.mem_cons_of_mem _ (uw_X9 x hx)) (i := 19) (Nat.le_of_ble_eq_true rfl) (List.mem_cons_of_mem _ tg_4_103) rfl (v := .ref (B + 15)) rfl hdg kk
theorem gf_X9_57 {w : Mem} (C : CX p s m args meth c cc nL RX9 (cd :: TG) rt) (hG : Gd s G A 28 B (entM G B w) X H locs) (hk : KDm 0 = (9, 35) := rfl) (hdg : decode cc pc = .ok (.getfield 57, 3))
    (kk : W p l e R s m args below meth c H locs 0 0 Q (F0 m (pc + 3) ls (.ref (B + 16) :: rest))) : W p l e R s m args below meth c H locs 0 0 Q (F0 m pc ls (.ref (B + 0) :: rest)) :=
  r_getf C hG (c0 := 0) (kdm_lt hk (by decide)) (entM_O hk) (Cn := RX9) (T := TX9) (Nk := 35) rfl (fun x hx => List.mem_cons_of_mem _ (uw_X9 x hx)) (i := 20) (Nat.le_of_ble_eq_true rfl) (List.mem_cons_of_mem _ tg_4_104) rfl (v := .ref (B + 16)) rfl hdg kk
theorem gf_X9_60 {w : Mem} (C : CX p s m args meth c cc nL RX9 (cd :: TG) rt) (hG : Gd s G A 28 B (entM G B w) X H locs) (hk : KDm 0 = (9, 35) := rfl) (hdg : decode cc pc = .ok (.getfield 60, 3))
    (kk : W p l e R s m args below meth c H locs 0 0 Q (F0 m (pc + 3) ls (.ref (B + 17) :: rest))) : W p l e R s m args below meth c H locs 0 0 Q (F0 m pc ls (.ref (B + 0) :: rest)) :=
  r_getf C hG (c0 := 0) (kdm_lt hk (by decide)) (entM_O hk) (Cn := RX9) (T := TX9) (Nk := 35) rfl (fun x hx => List.mem_cons_of_mem _ (uw_X9 x hx)) (i := 21) (Nat.le_of_ble_eq_true rfl) (List.mem_cons_of_mem _ tg_4_105) rfl (v := .ref (B + 17)) rfl hdg kk
theorem gf_X9_63 {w : Mem} (C : CX p s m args meth c cc nL RX9 (cd :: TG) rt) (hG : Gd s G A 28 B (entM G B w) X H locs) (hk : KDm 0 = (9, 35) := rfl) (hdg : decode cc pc = .ok (.getfield 63, 3))
    (kk : W p l e R s m args below meth c H locs 0 0 Q (F0 m (pc + 3) ls (.ref (B + 18) :: rest))) : W p l e R s m args below meth c H locs 0 0 Q (F0 m pc ls (.ref (B + 0) :: rest)) :=
  r_getf C hG (c0 := 0) (kdm_lt hk (by decide)) (entM_O hk) (Cn := RX9) (T := TX9) (Nk := 35) rfl (fun x hx => List.mem_cons_of_mem _ (uw_X9 x hx)) (i := 22) (Nat.le_of_ble_eq_true rfl) (List.mem_cons_of_mem _ tg_4_106) rfl (v := .ref (B + 18)) rfl hdg kk
theorem gf_X9_66 {w : Mem} (C : CX p s m args meth c cc nL RX9 (cd :: TG) rt) (hG : Gd s G A 28 B (entM G B w) X H locs) (hk : KDm 0 = (9, 35) := rfl) (hdg : decode cc pc = .ok (.getfield 66, 3))
    (kk : W p l e R s m args below meth c H locs 0 0 Q (F0 m (pc + 3) ls (.ref (B + 19) :: rest))) : W p l e R s m args below meth c H locs 0 0 Q (F0 m pc ls (.ref (B + 0) :: rest)) :=
  r_getf C hG (c0 := 0) (kdm_lt hk (by decide)) (entM_O hk) (Cn := RX9) (T := TX9) (Nk := 35) rfl (fun x hx => List.mem_cons_of_mem _ (uw_X9 x hx)) (i := 24) (Nat.le_of_ble_eq_true rfl) (List.mem_cons_of_mem _ tg_4_108) rfl (v := .ref (B + 19)) rfl hdg kk
theorem gf_X9_69 {w : Mem} (C : CX p s m args meth c cc nL RX9 (cd :: TG) rt) (hG : Gd s G A 28 B (entM G B w) X H locs) (hk : KDm 0 = (9, 35) := rfl) (hdg : decode cc pc = .ok (.getfield 69, 3))
    (kk : W p l e R s m args below meth c H locs 0 0 Q (F0 m (pc + 3) ls (.ref (B + 20) :: rest))) : W p l e R s m args below meth c H locs 0 0 Q (F0 m pc ls (.ref (B + 0) :: rest)) :=
  r_getf C hG (c0 := 0) (kdm_lt hk (by decide)) (entM_O hk) (Cn := RX9) (T := TX9) (Nk := 35) rfl (fun x hx => List.mem_cons_of_mem _ (uw_X9 x hx)) (i := 25) (Nat.le_of_ble_eq_true rfl) (List.mem_cons_of_mem _ tg_4_109) rfl (v := .ref (B + 20)) rfl hdg kk
theorem gf_X9_72 {w : Mem} (C : CX p s m args meth c cc nL RX9 (cd :: TG) rt) (hG : Gd s G A 28 B (entM G B w) X H locs) (hk : KDm 0 = (9, 35) := rfl) (hdg : decode cc pc = .ok (.getfield 72, 3))
    (kk : W p l e R s m args below meth c H locs 0 0 Q (F0 m (pc + 3) ls (.ref (B + 21) :: rest))) : W p l e R s m args below meth c H locs 0 0 Q (F0 m pc ls (.ref (B + 0) :: rest)) :=
  r_getf C hG (c0 := 0) (kdm_lt hk (by decide)) (entM_O hk) (Cn := RX9) (T := TX9) (Nk := 35) rfl (fun x hx => List.mem_cons_of_mem _ (uw_X9 x hx)) (i := 26) (Nat.le_of_ble_eq_true rfl) (List.mem_cons_of_mem _ tg_4_110) rfl (v := .ref (B + 21)) rfl hdg kk
theorem gf_X9_75 {w : Mem} (C : CX p s m args meth c cc nL RX9 (cd :: TG) rt) (hG : Gd s G A 28 B (entM G B w) X H locs) (hk : KDm 0 = (9, 35) := rfl) (hdg : decode cc pc = .ok (.getfield 75, 3))
    (kk : W p l e R s m args below meth c H locs 0 0 Q (F0 m (pc + 3) ls (.ref (B + 22) :: rest))) : W p l e R s m args below meth c H locs 0 0 Q (F0 m pc ls (.ref (B + 0) :: rest)) :=
  r_getf C hG (c0 := 0) (kdm_lt hk (by decide)) (entM_O hk) (Cn := RX9) (T := TX9) (Nk := 35) rfl (fun x hx => List.mem_cons_of_mem _ (uw_X9 x hx)) (i := 27) (Nat.le_of_ble_eq_true rfl) (List.mem_cons_of_mem _ tg_4_111) rfl (v := .ref (B + 22)) rfl hdg kk
theorem gf_X9_78 {w : Mem} (C : CX p s m args meth c cc nL RX9 (cd :: TG) rt) (hG : Gd s G A 28 B (entM G B w) X H locs) (hk : KDm 0 = (9, 35) := rfl) (hdg : decode cc pc = .ok (.getfield 78, 3))
    (kk : W p l e R s m args below meth c H locs 0 0 Q (F0 m (pc + 3) ls (.ref (B + 23) :: rest))) : W p l e R s m args below meth c H locs 0 0 Q (F0 m pc ls (.ref (B + 0) :: rest)) :=
  r_getf C hG (c0 := 0) (kdm_lt hk (by decide)) (entM_O hk) (Cn := RX9) (T := TX9) (Nk := 35) rfl (fun x hx => List.mem_cons_of_mem _ (uw_X9 x hx)) (i := 28) (Nat.le_of_ble_eq_true rfl) (List.mem_cons_of_mem _ tg_4_112) rfl (v := .ref (B + 23)) rfl hdg kk
theorem gf_X9_81 {w : Mem} (C : CX p s m args meth c cc nL RX9 (cd :: TG) rt) (hG : Gd s G A 28 B (entM G B w) X H locs) (hk : KDm 0 = (9, 35) := rfl) (hdg : decode cc pc = .ok (.getfield 81, 3))
    (kk : W p l e R s m args below meth c H locs 0 0 Q (F0 m (pc + 3) ls (.ref (B + 24) :: rest))) : W p l e R s m args below meth c H locs 0 0 Q (F0 m pc ls (.ref (B + 0) :: rest)) :=
  r_getf C hG (c0 := 0) (kdm_lt hk (by decide)) (entM_O hk) (Cn := RX9) (T := TX9) (Nk := 35) rfl (fun x hx => List.mem_cons_of_mem _ (uw_X9 x hx)) (i := 30) (Nat.le_of_ble_eq_true rfl) (List.mem_cons_of_mem _ tg_4_114) rfl (v := .ref (B + 24)) rfl hdg kk
theorem gf_X9_84 {w : Mem} (C : CX p s m args meth c cc nL RX9 (cd :: TG) rt) (hG : Gd s G A 28 B (entM G B w) X H locs) (hk : KDm 0 = (9, 35) := rfl) (hdg : decode cc pc = .ok (.getfield 84, 3))
    (kk : W p l e R s m args below meth c H locs 0 0 Q (F0 m (pc + 3) ls (.ref (B + 25) :: rest))) : W p l e R s m args below meth c H locs 0 0 Q (F0 m pc ls (.ref (B + 0) :: rest)) :=
  r_getf C hG (c0 := 0) (kdm_lt hk (by decide)) (entM_O hk) (Cn := RX9) (T := TX9) (Nk := 35) rfl (fun x hx => List.mem_cons_of_mem _ (uw_X9 x hx)) (i := 31) (Nat.le_of_ble_eq_true rfl) (List.mem_cons_of_mem _ tg_4_115) rfl (v := .ref (B + 25)) rfl hdg kk
theorem gf_X9_87 {w : Mem} (C : CX p s m args meth c cc nL RX9 (cd :: TG) rt) (hG : Gd s G A 28 B (entM G B w) X H locs) (hk : KDm 0 = (9, 35) := rfl) (hdg : decode cc pc = .ok (.getfield 87, 3))
    (kk : W p l e R s m args below meth c H locs 0 0 Q (F0 m (pc + 3) ls (.ref (B + 26) :: rest))) : W p l e R s m args below meth c H locs 0 0 Q (F0 m pc ls (.ref (B + 0) :: rest)) :=
  r_getf C hG (c0 := 0) (kdm_lt hk (by decide)) (entM_O hk) (Cn := RX9) (T := TX9) (Nk := 35) rfl (fun x hx => List.mem_cons_of_mem _ (uw_X9 x hx)) (i := 33) (Nat.le_of_ble_eq_true rfl) (List.mem_cons_of_mem _ tg_4_117) rfl (v := .ref (B + 26)) rfl hdg kk
theorem gf_X9_90 {w : Mem} (C : CX p s m args meth c cc nL RX9 (cd :: TG) rt) (hG : Gd s G A 28 B (entM G B w) X H locs) (hk : KDm 0 = (9, 35) := rfl) (hdg : decode cc pc = .ok (.getfield 90, 3))
    (kk : W p l e R s m args below meth c H locs 0 0 Q (F0 m (pc + 3) ls (.ref (B + 27) :: rest))) : W p l e R s m args below meth c H locs 0 0 Q (F0 m pc ls (.ref (B + 0) :: rest)) :=
  r_getf C hG (c0 := 0) (kdm_lt hk (by decide)) (entM_O hk) (Cn := RX9) (T := TX9) (Nk := 35) rfl (fun x hx => List.mem_cons_of_mem _ (uw_X9 x hx)) (i := 34) (Nat.le_of_ble_eq_true rfl) (List.mem_cons_of_mem _ tg_4_118) rfl (v := .ref (B + 27)) rfl hdg kk
theorem gf_X9_117 {w : Mem} (C : CX p s m args meth c cc nL RX9 (cd :: TG) rt) (hG : Gd s G A 28 B (entM G B w) X H locs) (hk : KDm 0 = (9, 35) := rfl) (hdg : decode cc pc = .ok (.getfield 117, 3))
    (kk : W p l e R s m args below meth c H locs 0 0 Q (F0 m (pc + 3) ls (.int (w 0 3) :: rest))) : W p l e R s m args below meth c H locs 0 0 Q (F0 m pc ls (.ref (B + 0) :: rest)) :=
  r_getf C hG (c0 := 0) (kdm_lt hk (by decide)) (entM_O hk) (Cn := RX9) (T := TX9) (Nk := 35) rfl (fun x hx => List.mem_cons_of_mem _ (uw_X9 x hx)) (i := 3) (Nat.le_of_ble_eq_true rfl) (List.mem_cons_of_mem _ tg_4_87) rfl (v := .int (w 0 3)) rfl hdg kk
theorem gf_X9_121 {w : Mem} (C : CX p s m args meth c cc nL RX9 (cd :: TG) rt) (hG : Gd s G A 28 B (entM G B w) X H locs) (hk : KDm 0 = (9, 35) := rfl) (hdg : decode cc pc = .ok (.getfield 121, 3))
    (kk : W p l e R s m args below meth c H locs 0 0 Q (F0 m (pc + 3) ls (.int (w 0 4) :: rest))) : W p l e R s m args below meth c H locs 0 0 Q (F0 m pc ls (.ref (B + 0) :: rest)) :=
  r_getf C hG (c0 := 0) (kdm_lt hk (by decide)) (entM_O hk) (Cn := RX9) (T := TX9) (Nk := 35) rfl (fun x hx => List.mem_cons_of_mem _ (uw_X9 x hx)) (i := 4) (Nat.le_of_ble_eq_true rfl) (List.mem_cons_of_mem _ tg_4_88) rfl (v := .int (w 0 4)) rfl hdg kk
theorem gf_X9_170 {w : Mem} (C : CX p s m args meth c cc nL RX9 (cd :: TG) rt) (hG : Gd s G A 28 B (entM G B w) X H locs) (hk : KDm 0 = (9, 35) := rfl) (hdg : decode cc pc = .ok (.getfield 170, 3))
    (kk : W p l e R s m args below meth c H locs 0 0 Q (F0 m (pc + 3) ls (.int (w 0 15) :: rest))) : W p l e R s m args below meth c H locs 0 0 Q (F0 m pc ls (.ref (B + 0) :: rest)) :=
  r_getf C hG (c0 := 0) (kdm_lt hk (by decide)) (entM_O hk) (Cn := RX9) (T := TX9) (Nk := 35) rfl (fun x hx => List.mem_cons_of_mem _ (uw_X9 x hx)) (i := 15) (Nat.le_of_ble_eq_true rfl) (List.mem_cons_of_mem _ tg_4_99) rfl (v := .int (w 0 15)) rfl hdg kk
theorem gf_X9_185 {w : Mem} (C : CX p s m args meth c cc nL RX9 (cd :: TG) rt) (hG : Gd s G A 28 B (entM G B w) X H locs) (hk : KDm 0 = (9, 35) := rfl) (hdg : decode cc pc = .ok (.getfield 185, 3))
    (kk : W p l e R s m args below meth c H locs 0 0 Q (F0 m (pc + 3) ls (.int (w 0 17) :: rest))) : W p l e R s m args below meth c H locs 0 0 Q (F0 m pc ls (.ref (B + 0) :: rest)) :=
  r_getf C hG (c0 := 0) (kdm_lt hk (by decide)) (entM_O hk) (Cn := RX9) (T := TX9) (Nk := 35) rfl (fun x hx => List.mem_cons_of_mem _ (uw_X9 x hx)) (i := 17) (Nat.le_of_ble_eq_true rfl) (List.mem_cons_of_mem _ tg_4_101) rfl (v := .int (w 0 17)) rfl hdg kk
theorem gf_X9_217 {w : Mem} (C : CX p s m args meth c cc nL RX9 (cd :: TG) rt) (hG : Gd s G A 28 B (entM G B w) X H locs) (hk : KDm 0 = (9, 35) := rfl) (hdg : decode cc pc = .ok (.getfield 217, 3))
    (kk : W p l e R s m args below meth c H locs 0 0 Q (F0 m (pc + 3) ls (.int (w 0 23) :: rest))) : W p l e R s m args below meth c H locs 0 0 Q (F0 m pc ls (.ref (B + 0) :: rest)) :=
  r_getf C hG (c0 := 0) (kdm_lt hk (by decide)) (entM_O hk) (Cn := RX9) (T := TX9) (Nk := 35) rfl (fun x hx => List.mem_cons_of_mem _ (uw_X9 x hx)) (i := 23) (Nat.le_of_ble_eq_true rfl) (List.mem_cons_of_mem _ tg_4_107) rfl (v := .int (w 0 23)) rfl hdg kk
theorem gf_X9_256 {w : Mem} (C : CX p s m args meth c cc nL RX9 (cd :: TG) rt) (hG : Gd s G A 28 B (entM G B w) X H locs) (hk : KDm 0 = (9, 35) := rfl) (hdg : decode cc pc = .ok (.getfield 256, 3))
    (kk : W p l e R s m args below meth c H locs 0 0 Q (F0 m (pc + 3) ls (.int (w 0 29) :: rest))) : W p l e R s m args below meth c H locs 0 0 Q (F0 m pc ls (.ref (B + 0) :: rest)) :=
  r_getf C hG (c0 := 0) (kdm_lt hk (by decide)) (entM_O hk) (Cn := RX9) (T := TX9) (Nk := 35) rfl (fun x hx => List.mem_cons_of_mem _ (uw_X9 x hx)) (i := 29) (Nat.le_of_ble_eq_true rfl) (List.mem_cons_of_mem _ tg_4_113) rfl (v := .int (w 0 29)) rfl hdg kk
theorem gf_X9_303 {w : Mem} (C : CX p s m args meth c cc nL RX9 (cd :: TG) rt) (hG : Gd s G A 28 B (entM G B w) X H locs) (hk : KDm 0 = (9, 35) := rfl) (hdg : decode cc pc = .ok (.getfield 303, 3))
    (kk : W p l e R s m args below meth c H locs 0 0 Q (F0 m (pc + 3) ls (.int (w 0 32) :: rest))) : W p l e R s m args below meth c H locs 0 0 Q (F0 m pc ls (.ref (B + 0) :: rest)) :=
  r_getf C hG (c0 := 0) (kdm_lt hk (by decide)) (entM_O hk) (Cn := RX9) (T := TX9) (Nk := 35) rfl (fun x hx => List.mem_cons_of_mem _ (uw_X9 x hx)) (i := 32) (Nat.le_of_ble_eq_true rfl) (List.mem_cons_of_mem _ tg_4_116) rfl (v := .int (w 0 32)) rfl hdg kk
theorem gf_X9_312 {w : Mem} (C : CX p s m args meth c cc nL RX9 (cd :: TG) rt) (hG : Gd s G A 28 B (entM G B w) X H locs) (hk : KDm 0 = (9, 35) := rfl) (hdg : decode cc pc = .ok (.getfield 312, 3))
    (kk : W p l e R s m args below meth c H locs 0 0 Q (F0 m (pc + 3) ls (.int (w 0 2) :: rest))) : W p l e R s m args below meth c H locs 0 0 Q (F0 m pc ls (.ref (B + 0) :: rest)) :=
  r_getf C hG (c0 := 0) (kdm_lt hk (by decide)) (entM_O hk) (Cn := RX9) (T := TX9) (Nk := 35) rfl (fun x hx => List.mem_cons_of_mem _ (uw_X9 x hx)) (i := 2) (Nat.le_of_ble_eq_true rfl) (List.mem_cons_of_mem _ tg_4_86) rfl (v := .int (w 0 2)) rfl hdg kk
theorem pf_X8_81 {w : WX} {c0 : Nat} {v : Int32} (C : CX p s m args meth c cc nL RX8 (cd :: TG) rt) (hG : Gd s G A 153 B (entX G B w) X H locs) (hk : KDx c0 = (4, 4)) (hdg : decode cc pc = .ok (.putfield 81, 3))
    (kk : ∀ (H : Heap) (locs : List Loc), Gd s G A 153 B (entX G B (pX c0 1 v w)) X H locs → W p l e R s m args below meth c H locs 0 0 Q (F0 m (pc + 3) ls rest)) : W p l e R s m args below meth c H locs 0 0 Q (F0 m pc ls (.int v :: .ref (B + c0) :: rest)) :=
  r_putfN C hG tyX4 tyX4_ok nmX4 (c0 := c0) (kdx_lt hk (by decide)) (entX_O4 hk) (Cn := RX4) (T := TX4) (Nk := 4) rfl (fun x hx => List.mem_cons_of_mem _ (uw_X4 x hx)) (i := 1) (Nat.le_of_ble_eq_true rfl) nn_34 rfl rfl (ty := .int) rfl rfl rfl (Nat.le_of_ble_eq_true rfl) (upX_4_1 hk) hdg kk
theorem pf_X8_144 {w : WX} {v : Int32} (C : CX p s m args meth c cc nL RX8 (cd :: TG) rt) (hG : Gd s G A 153 B (entX G B w) X H locs) (hk : KDx 109 = (7, 2) := rfl) (hdg : decode cc pc = .ok (.putfield 144, 3))
    (kk : ∀ (H : Heap) (locs : List Loc), Gd s G A 153 B (entX G B (pX 109 1 v w)) X H locs → W p l e R s m args below meth c H locs 0 0 Q (F0 m (pc + 3) ls rest)) : W p l e R s m args below meth c H locs 0 0 Q (F0 m pc ls (.int v :: .ref (B + 109) :: rest)) :=
  r_putfN C hG tyX7 tyX7_ok nmX7 (c0 := 109) (kdx_lt hk (by decide)) (entX_O7 hk) (Cn := RX7) (T := TX7) (Nk := 2) rfl (fun x hx => List.mem_cons_of_mem _ (uw_X7 x hx)) (i := 1) (Nat.le_of_ble_eq_true rfl) nn_37 rfl rfl (ty := .int) rfl rfl rfl (Nat.le_of_ble_eq_true rfl) (upX_7_1 hk) hdg kk
theorem pf_X8_255 {w : WX} {c0 : Nat} {v : Int32} (C : CX p s m args meth c cc nL RX8 (cd :: TG) rt) (hG : Gd s G A 153 B (entX G B w) X H locs) (hk : KDx c0 = (3, 3)) (hdg : decode cc pc = .ok (.putfield 255, 3))
    (kk : ∀ (H : Heap) (locs : List Loc), Gd s G A 153 B (entX G B (pX c0 2 v w)) X H locs → W p l e R s m args below meth c H locs 0 0 Q (F0 m (pc + 3) ls rest)) : W p l e R s m args below meth c H locs 0 0 Q (F0 m pc ls (.int v :: .ref (B + c0) :: rest)) :=
  r_putfN C hG tyX3 tyX3_ok nmX3 (c0 := c0) (kdx_lt hk (by decide)) (entX_O3 hk) (Cn := RX3) (T := TX3) (Nk := 3) rfl (fun x hx => List.mem_cons_of_mem _ (uw_X3 x hx)) (i := 2) (Nat.le_of_ble_eq_true rfl) nn_4 rfl rfl (ty := .int) rfl rfl rfl (Nat.le_of_ble_eq_true rfl) (upX_3_2 hk) hdg kk
theorem pf_X8_273 {w : WX} {v : Int32} (C : CX p s m args meth c cc nL RX8 (cd :: TG) rt) (hG : Gd s G A 153 B (entX G B w) X H locs) (hk : KDx 0 = (8, 13) := rfl) (hdg : decode cc pc = .ok (.putfield 273, 3))
    (kk : ∀ (H : Heap) (locs : List Loc), Gd s G A 153 B (entX G B (pX 0 6 v w)) X H locs → W p l e R s m args below meth c H locs 0 0 Q (F0 m (pc + 3) ls rest)) : W p l e R s m args below meth c H locs 0 0 Q (F0 m pc ls (.int v :: .ref (B + 0) :: rest)) :=
  r_putf C hG tyX8 tyX8_ok nmX8 (c0 := 0) (kdx_lt hk (by decide)) (entX_O8 hk) (Cn := RX8) (T := TX8) (Nk := 13) rfl (fun x hx => List.mem_cons_of_mem _ (uw_X8 x hx)) (i := 6) (Nat.le_of_ble_eq_true rfl) (List.mem_cons_of_mem _ tg_2_16) rfl rfl (ty := .int) rfl rfl rfl (Nat.le_of_ble_eq_true rfl) (upX_8_6 hk) hdg kk
theorem pf_X8_297 {w : WX} {v : Int32} (C : CX p s m args meth c cc nL RX8 (cd :: TG) rt) (hG : Gd s G A 153 B (entX G B w) X H locs) (hz : v = nI 0 ∨ v = nI 1) (hk : KDx 0 = (8, 13) := rfl) (hdg : decode cc pc = .ok (.putfield 297, 3))
    (kk : ∀ (H : Heap) (locs : List Loc), Gd s G A 153 B (entX G B (pX 0 2 v w)) X H locs → W p l e R s m args below meth c H locs 0 0 Q (F0 m (pc + 3) ls rest)) : W p l e R s m args below meth c H locs 0 0 Q (F0 m pc ls (.int v :: .ref (B + 0) :: rest)) :=
  r_putf C hG tyX8 tyX8_ok nmX8 (c0 := 0) (kdx_lt hk (by decide)) (entX_O8 hk) (Cn := RX8) (T := TX8) (Nk := 13) rfl (fun x hx => List.mem_cons_of_mem _ (uw_X8 x hx)) (i := 2) (Nat.le_of_ble_eq_true rfl) (List.mem_cons_of_mem _ tg_2_12) rfl rfl (ty := .boolean) rfl (by rcases hz with h | h <;> (rw [h]; decide)) (by rcases hz with h | h <;> (rw [h]; decide)) (Nat.le_of_ble_eq_true rfl) (upX_8_2 hk) hdg kk
theorem pf_X0_33 {w : WX} {c0 : Nat} {v : Nat} (C : CX p s m args meth c cc nL RX0 (cd :: TG) rt) (hG : Gd s G A 153 B (entX G B w) X H locs) (hk : KDx c0 = (0, 13)) (hdg : decode cc pc = .ok (.putfield 33, 3))
    (kk : ∀ (H : Heap) (locs : List Loc), Gd s G A 153 B (entX G B (pXr c0 11 v w)) X H locs → W p l e R s m args below meth c H locs 0 0 Q (F0 m (pc + 3) ls rest)) : W p l e R s m args below meth c H locs 0 0 Q (F0 m pc ls (.ref (B + v) :: .ref (B + c0) :: rest)) :=
  r_putf C hG tyX0 tyX0_ok nmX0 (c0 := c0) (kdx_lt hk (by decide)) (entX_O0 hk) (Cn := RX0) (T := TX0) (Nk := 13) rfl (fun x hx => List.mem_cons_of_mem _ (uw_X0 x hx)) (i := 11) (Nat.le_of_ble_eq_true rfl) (List.mem_cons_of_mem _ tg_1_87) rfl rfl (ty := (.array .int)) rfl rfl rfl (Nat.le_of_ble_eq_true rfl) (upX_0_11 hk) hdg kk
theorem pf_X0_36 {w : WX} {c0 : Nat} {v : Nat} (C : CX p s m args meth c cc nL RX0 (cd :: TG) rt) (hG : Gd s G A 153 B (entX G B w) X H locs) (hk : KDx c0 = (0, 13)) (hdg : decode cc pc = .ok (.putfield 36, 3))
    (kk : ∀ (H : Heap) (locs : List Loc), Gd s G A 153 B (entX G B (pXr c0 12 v w)) X H locs → W p l e R s m args below meth c H locs 0 0 Q (F0 m (pc + 3) ls rest)) : W p l e R s m args below meth c H locs 0 0 Q (F0 m pc ls (.ref (B + v) :: .ref (B + c0) :: rest)) :=
  r_putf C hG tyX0 tyX0_ok nmX0 (c0 := c0) (kdx_lt hk (by decide)) (entX_O0 hk) (Cn := RX0) (T := TX0) (Nk := 13) rfl (fun x hx => List.mem_cons_of_mem _ (uw_X0 x hx)) (i := 12) (Nat.le_of_ble_eq_true rfl) (List.mem_cons_of_mem _ tg_1_88) rfl rfl (ty := (.array .int)) rfl rfl rfl (Nat.le_of_ble_eq_true rfl) (upX_0_12 hk) hdg kk
theorem pf_X0_39 {w : WX} {c0 : Nat} {v : Int32} (C : CX p s m args meth c cc nL RX0 (cd :: TG) rt) (hG : Gd s G A 153 B (entX G B w) X H locs) (hk : KDx c0 = (0, 13)) (hdg : decode cc pc = .ok (.putfield 39, 3))
    (kk : ∀ (H : Heap) (locs : List Loc), Gd s G A 153 B (entX G B (pX c0 0 v w)) X H locs → W p l e R s m args below meth c H locs 0 0 Q (F0 m (pc + 3) ls rest)) : W p l e R s m args below meth c H locs 0 0 Q (F0 m pc ls (.int v :: .ref (B + c0) :: rest)) :=
  r_putf C hG tyX0 tyX0_ok nmX0 (c0 := c0) (kdx_lt hk (by decide)) (entX_O0 hk) (Cn := RX0) (T := TX0) (Nk := 13) rfl (fun x hx => List.mem_cons_of_mem _ (uw_X0 x hx)) (i := 0) (Nat.le_of_ble_eq_true rfl) (List.mem_cons_of_mem _ tg_1_58) rfl rfl (ty := .int) rfl rfl rfl (Nat.le_of_ble_eq_true rfl) (upX_0_0 hk) hdg kk
theorem pf_X0_43 {w : WX} {c0 : Nat} {v : Int32} (C : CX p s m args meth c cc nL RX0 (cd :: TG) rt) (hG : Gd s G A 153 B (entX G B w) X H locs) (hk : KDx c0 = (0, 13)) (hdg : decode cc pc = .ok (.putfield 43, 3))
    (kk : ∀ (H : Heap) (locs : List Loc), Gd s G A 153 B (entX G B (pX c0 1 v w)) X H locs → W p l e R s m args below meth c H locs 0 0 Q (F0 m (pc + 3) ls rest)) : W p l e R s m args below meth c H locs 0 0 Q (F0 m pc ls (.int v :: .ref (B + c0) :: rest)) :=
  r_putf C hG tyX0 tyX0_ok nmX0 (c0 := c0) (kdx_lt hk (by decide)) (entX_O0 hk) (Cn := RX0) (T := TX0) (Nk := 13) rfl (fun x hx => List.mem_cons_of_mem _ (uw_X0 x hx)) (i := 1) (Nat.le_of_ble_eq_true rfl) (List.mem_cons_of_mem _ tg_1_61) rfl rfl (ty := .int) rfl rfl rfl (Nat.le_of_ble_eq_true rfl) (upX_0_1 hk) hdg kk
theorem pf_X0_46 {w : WX} {c0 : Nat} {v : Int32} (C : CX p s m args meth c cc nL RX0 (cd :: TG) rt) (hG : Gd s G A 153 B (entX G B w) X H locs) (hk : KDx c0 = (0, 13)) (hdg : decode cc pc = .ok (.putfield 46, 3))
    (kk : ∀ (H : Heap) (locs : List Loc), Gd s G A 153 B (entX G B (pX c0 2 v w)) X H locs → W p l e R s m args below meth c H locs 0 0 Q (F0 m (pc + 3) ls rest)) : W p l e R s m args below meth c H locs 0 0 Q (F0 m pc ls (.int v :: .ref (B + c0) :: rest)) :=
  r_putf C hG tyX0 tyX0_ok nmX0 (c0 := c0) (kdx_lt hk (by decide)) (entX_O0 hk) (Cn := RX0) (T := TX0) (Nk := 13) rfl (fun x hx => List.mem_cons_of_mem _ (uw_X0 x hx)) (i := 2) (Nat.le_of_ble_eq_true rfl) (List.mem_cons_of_mem _ tg_1_64) rfl rfl (ty := .int) rfl rfl rfl (Nat.le_of_ble_eq_true rfl) (upX_0_2 hk) hdg kk
theorem pf_X0_49 {w : WX} {c0 : Nat} {v : Int32} (C : CX p s m args meth c cc nL RX0 (cd :: TG) rt) (hG : Gd s G A 153 B (entX G B w) X H locs) (hk : KDx c0 = (0, 13)) (hdg : decode cc pc = .ok (.putfield 49, 3))
    (kk : ∀ (H : Heap) (locs : List Loc), Gd s G A 153 B (entX G B (pX c0 3 v w)) X H locs → W p l e R s m args below meth c H locs 0 0 Q (F0 m (pc + 3) ls rest)) : W p l e R s m args below meth c H locs 0 0 Q (F0 m pc ls (.int v :: .ref (B + c0) :: rest)) :=
  r_putf C hG tyX0 tyX0_ok nmX0 (c0 := c0) (kdx_lt hk (by decide)) (entX_O0 hk) (Cn := RX0) (T := TX0) (Nk := 13) rfl (fun x hx => List.mem_cons_of_mem _ (uw_X0 x hx)) (i := 3) (Nat.le_of_ble_eq_true rfl) (List.mem_cons_of_mem _ tg_1_68) rfl rfl (ty := .int) rfl rfl rfl (Nat.le_of_ble_eq_true rfl) (upX_0_3 hk) hdg kk
theorem pf_X2_31 {w : WX} {c0 : Nat} {v : Int32} (C : CX p s m args meth c cc nL RX2 (cd :: TG) rt) (hG : Gd s G A 153 B (entX G B w) X H locs) (hk : KDx c0 = (2, 8)) (hdg : decode cc pc = .ok (.putfield 31, 3))
    (kk : ∀ (H : Heap) (locs : List Loc), Gd s G A 153 B (entX G B (pX c0 0 v w)) X H locs → W p l e R s m args below meth c H locs 0 0 Q (F0 m (pc + 3) ls rest)) : W p l e R s m args below meth c H locs 0 0 Q (F0 m pc ls (.int v :: .ref (B + c0) :: rest)) :=
  r_putf C hG tyX2 tyX2_ok nmX2 (c0 := c0) (kdx_lt hk (by decide)) (entX_O2 hk) (Cn := RX2) (T := TX2) (Nk := 8) rfl (fun x hx => List.mem_cons_of_mem _ (uw_X2 x hx)) (i := 0) (Nat.le_of_ble_eq_true rfl) (List.mem_cons_of_mem _ tg_1_196) rfl rfl (ty := .int) rfl rfl rfl (Nat.le_of_ble_eq_true rfl) (upX_2_0 hk) hdg kk
theorem pf_X2_35 {w : WX} {c0 : Nat} {v : Int32} (C : CX p s m args meth c cc nL RX2 (cd :: TG) rt) (hG : Gd s G A 153 B (entX G B w) X H locs) (hk : KDx c0 = (2, 8)) (hdg : decode cc pc = .ok (.putfield 35, 3))
    (kk : ∀ (H : Heap) (locs : List Loc), Gd s G A 153 B (entX G B (pX c0 1 v w)) X H locs → W p l e R s m args below meth c H locs 0 0 Q (F0 m (pc + 3) ls rest)) : W p l e R s m args below meth c H locs 0 0 Q (F0 m pc ls (.int v :: .ref (B + c0) :: rest)) :=
  r_putf C hG tyX2 tyX2_ok nmX2 (c0 := c0) (kdx_lt hk (by decide)) (entX_O2 hk) (Cn := RX2) (T := TX2) (Nk := 8) rfl (fun x hx => List.mem_cons_of_mem _ (uw_X2 x hx)) (i := 1) (Nat.le_of_ble_eq_true rfl) (List.mem_cons_of_mem _ tg_1_198) rfl rfl (ty := .int) rfl rfl rfl (Nat.le_of_ble_eq_true rfl) (upX_2_1 hk) hdg kk
theorem pf_X3_18 {w : WX} {c0 : Nat} {v : Int32} (C : CX p s m args meth c cc nL RX3 (cd :: TG) rt) (hG : Gd s G A 153 B (entX G B w) X H locs) (hk : KDx c0 = (3, 3)) (hdg : decode cc pc = .ok (.putfield 18, 3))
    (kk : ∀ (H : Heap) (locs : List Loc), Gd s G A 153 B (entX G B (pX c0 2 v w)) X H locs → W p l e R s m args below meth c H locs 0 0 Q (F0 m (pc + 3) ls rest)) : W p l e R s m args below meth c H locs 0 0 Q (F0 m pc ls (.int v :: .ref (B + c0) :: rest)) :=
  r_putf C hG tyX3 tyX3_ok nmX3 (c0 := c0) (kdx_lt hk (by decide)) (entX_O3 hk) (Cn := RX3) (T := TX3) (Nk := 3) rfl (fun x hx => List.mem_cons_of_mem _ (uw_X3 x hx)) (i := 2) (Nat.le_of_ble_eq_true rfl) (List.mem_cons_of_mem _ tg_1_42) rfl rfl (ty := .int) rfl rfl rfl (Nat.le_of_ble_eq_true rfl) (upX_3_2 hk) hdg kk
theorem pf_X4_32 {w : WX} {c0 : Nat} {v : Int32} (C : CX p s m args meth c cc nL RX4 (cd :: TG) rt) (hG : Gd s G A 153 B (entX G B w) X H locs) (hk : KDx c0 = (4, 4)) (hdg : decode cc pc = .ok (.putfield 32, 3))
    (kk : ∀ (H : Heap) (locs : List Loc), Gd s G A 153 B (entX G B (pX c0 1 v w)) X H locs → W p l e R s m args below meth c H locs 0 0 Q (F0 m (pc + 3) ls rest)) : W p l e R s m args below meth c H locs 0 0 Q (F0 m pc ls (.int v :: .ref (B + c0) :: rest)) :=
  r_putf C hG tyX4 tyX4_ok nmX4 (c0 := c0) (kdx_lt hk (by decide)) (entX_O4 hk) (Cn := RX4) (T := TX4) (Nk := 4) rfl (fun x hx => List.mem_cons_of_mem _ (uw_X4 x hx)) (i := 1) (Nat.le_of_ble_eq_true rfl) (List.mem_cons_of_mem _ tg_1_141) rfl rfl (ty := .int) rfl rfl rfl (Nat.le_of_ble_eq_true rfl) (upX_4_1 hk) hdg kk
theorem pf_X5_9 {w : WX} {c0 : Nat} {v : Nat} (C : CX p s m args meth c cc nL RX5 (cd :: TG) rt) (hG : Gd s G A 153 B (entX G B w) X H locs) (hk : KDx c0 = (5, 5)) (hdg : decode cc pc = .ok (.putfield 9, 3))
    (kk : ∀ (H : Heap) (locs : List Loc), Gd s G A 153 B (entX G B (pXr c0 0 v w)) X H locs → W p l e R s m args below meth c H locs 0 0 Q (F0 m (pc + 3) ls rest)) : W p l e R s m args below meth c H locs 0 0 Q (F0 m pc ls (.ref (B + v) :: .ref (B + c0) :: rest)) :=
  r_putf C hG tyX5 tyX5_ok nmX5 (c0 := c0) (kdx_lt hk (by decide)) (entX_O5 hk) (Cn := RX5) (T := TX5) (Nk := 5) rfl (fun x hx => List.mem_cons_of_mem _ (uw_X5 x hx)) (i := 0) (Nat.le_of_ble_eq_true rfl) (List.mem_cons_of_mem _ tg_1_233) rfl rfl (ty := (.array .int)) rfl rfl rfl (Nat.le_of_ble_eq_true rfl) (upX_5_0 hk) hdg kk
theorem pf_X5_15 {w : WX} {c0 : Nat} {v : Nat} (C : CX p s m args meth c cc nL RX5 (cd :: TG) rt) (hG : Gd s G A 153 B (entX G B w) X H locs) (hk : KDx c0 = (5, 5)) (hdg : decode cc pc = .ok (.putfield 15, 3))
    (kk : ∀ (H : Heap) (locs : List Loc), Gd s G A 153 B (entX G B (pXr c0 1 v w)) X H locs → W p l e R s m args below meth c H locs 0 0 Q (F0 m (pc + 3) ls rest)) : W p l e R s m args below meth c H locs 0 0 Q (F0 m pc ls (.ref (B + v) :: .ref (B + c0) :: rest)) :=
  r_putf C hG tyX5 tyX5_ok nmX5 (c0 := c0) (kdx_lt hk (by decide)) (entX_O5 hk) (Cn := RX5) (T := TX5) (Nk := 5) rfl (fun x hx => List.mem_cons_of_mem _ (uw_X5 x hx)) (i := 1) (Nat.le_of_ble_eq_true rfl) (List.mem_cons_of_mem _ tg_1_235) rfl rfl (ty := (.array .int)) rfl rfl rfl (Nat.le_of_ble_eq_true rfl) (upX_5_1 hk) hdg kk
theorem pf_X5_27 {w : WX} {c0 : Nat} {v : Int32} (C : CX p s m args meth c cc nL RX5 (cd :: TG) rt) (hG : Gd s G A 153 B (entX G B w) X H locs) (hk : KDx c0 = (5, 5)) (hdg : decode cc pc = .ok (.putfield 27, 3))
    (kk : ∀ (H : Heap) (locs : List Loc), Gd s G A 153 B (entX G B (pX c0 4 v w)) X H locs → W p l e R s m args below meth c H locs 0 0 Q (F0 m (pc + 3) ls rest)) : W p l e R s m args below meth c H locs 0 0 Q (F0 m pc ls (.int v :: .ref (B + c0) :: rest)) :=
  r_putf C hG tyX5 tyX5_ok nmX5 (c0 := c0) (kdx_lt hk (by decide)) (entX_O5 hk) (Cn := RX5) (T := TX5) (Nk := 5) rfl (fun x hx => List.mem_cons_of_mem _ (uw_X5 x hx)) (i := 4) (Nat.le_of_ble_eq_true rfl) (List.mem_cons_of_mem _ tg_1_238) rfl rfl (ty := .int) rfl rfl rfl (Nat.le_of_ble_eq_true rfl) (upX_5_4 hk) hdg kk
theorem pf_X5_28 {w : WX} {c0 : Nat} {v : Int32} (C : CX p s m args meth c cc nL RX5 (cd :: TG) rt) (hG : Gd s G A 153 B (entX G B w) X H locs) (hk : KDx c0 = (5, 5)) (hdg : decode cc pc = .ok (.putfield 28, 3))
    (kk : ∀ (H : Heap) (locs : List Loc), Gd s G A 153 B (entX G B (pX c0 3 v w)) X H locs → W p l e R s m args below meth c H locs 0 0 Q (F0 m (pc + 3) ls rest)) : W p l e R s m args below meth c H locs 0 0 Q (F0 m pc ls (.int v :: .ref (B + c0) :: rest)) :=
  r_putf C hG tyX5 tyX5_ok nmX5 (c0 := c0) (kdx_lt hk (by decide)) (entX_O5 hk) (Cn := RX5) (T := TX5) (Nk := 5) rfl (fun x hx => List.mem_cons_of_mem _ (uw_X5 x hx)) (i := 3) (Nat.le_of_ble_eq_true rfl) (List.mem_cons_of_mem _ tg_1_237) rfl rfl (ty := .int) rfl rfl rfl (Nat.le_of_ble_eq_true rfl) (upX_5_3 hk) hdg kk
theorem pf_X6_15 {w : WX} {c0 : Nat} {v : Int32} (C : CX p s m args meth c cc nL RX6 (cd :: TG) rt) (hG : Gd s G A 153 B (entX G B w) X H locs) (hk : KDx c0 = (6, 3)) (hdg : decode cc pc = .ok (.putfield 15, 3))
    (kk : ∀ (H : Heap) (locs : List Loc), Gd s G A 153 B (entX G B (pX c0 1 v w)) X H locs → W p l e R s m args below meth c H locs 0 0 Q (F0 m (pc + 3) ls rest)) : W p l e R s m args below meth c H locs 0 0 Q (F0 m pc ls (.int v :: .ref (B + c0) :: rest)) :=
  r_putf C hG tyX6 tyX6_ok nmX6 (c0 := c0) (kdx_lt hk (by decide)) (entX_O6 hk) (Cn := RX6) (T := TX6) (Nk := 3) rfl (fun x hx => List.mem_cons_of_mem _ (uw_X6 x hx)) (i := 1) (Nat.le_of_ble_eq_true rfl) (List.mem_cons_of_mem _ tg_1_125) rfl rfl (ty := .int) rfl rfl rfl (Nat.le_of_ble_eq_true rfl) (upX_6_1 hk) hdg kk
theorem pf_X6_19 {w : WX} {c0 : Nat} {v : Int32} (C : CX p s m args meth c cc nL RX6 (cd :: TG) rt) (hG : Gd s G A 153 B (entX G B w) X H locs) (hk : KDx c0 = (6, 3)) (hdg : decode cc pc = .ok (.putfield 19, 3))
    (kk : ∀ (H : Heap) (locs : List Loc), Gd s G A 153 B (entX G B (pX c0 2 v w)) X H locs → W p l e R s m args below meth c H locs 0 0 Q (F0 m (pc + 3) ls rest)) : W p l e R s m args below meth c H locs 0 0 Q (F0 m pc ls (.int v :: .ref (B + c0) :: rest)) :=
  r_putf C hG tyX6 tyX6_ok nmX6 (c0 := c0) (kdx_lt hk (by decide)) (entX_O6 hk) (Cn := RX6) (T := TX6) (Nk := 3) rfl (fun x hx => List.mem_cons_of_mem _ (uw_X6 x hx)) (i := 2) (Nat.le_of_ble_eq_true rfl) (List.mem_cons_of_mem _ tg_1_130) rfl rfl (ty := .int) rfl rfl rfl (Nat.le_of_ble_eq_true rfl) (upX_6_2 hk) hdg kk
theorem pf_X7_15 {w : WX} {v : Int32} (C : CX p s m args meth c cc nL RX7 (cd :: TG) rt) (hG : Gd s G A 153 B (entX G B w) X H locs) (hk : KDx 109 = (7, 2) := rfl) (hdg : decode cc pc = .ok (.putfield 15, 3))
    (kk : ∀ (H : Heap) (locs : List Loc), Gd s G A 153 B (entX G B (pX 109 1 v w)) X H locs → W p l e R s m args below meth c H locs 0 0 Q (F0 m (pc + 3) ls rest)) : W p l e R s m args below meth c H locs 0 0 Q (F0 m pc ls (.int v :: .ref (B + 109) :: rest)) :=
  r_putf C hG tyX7 tyX7_ok nmX7 (c0 := 109) (kdx_lt hk (by decide)) (entX_O7 hk) (Cn := RX7) (T := TX7) (Nk := 2) rfl (fun x hx => List.mem_cons_of_mem _ (uw_X7 x hx)) (i := 1) (Nat.le_of_ble_eq_true rfl) (List.mem_cons_of_mem _ tg_1_162) rfl rfl (ty := .int) rfl rfl rfl (Nat.le_of_ble_eq_true rfl) (upX_7_1 hk) hdg kk
theorem pf_X9_117 {w : Mem} {v : Int32} (C : CX p s m args meth c cc nL RX9 (cd :: TG) rt) (hG : Gd s G A 28 B (entM G B w) X H locs) (hk : KDm 0 = (9, 35) := rfl) (hdg : decode cc pc = .ok (.putfield 117, 3))
    (kk : ∀ (H : Heap) (locs : List Loc), Gd s G A 28 B (entM G B (mset w 0 3 v)) X H locs → W p l e R s m args below meth c H locs 0 0 Q (F0 m (pc + 3) ls rest)) : W p l e R s m args below meth c H locs 0 0 Q (F0 m pc ls (.int v :: .ref (B + 0) :: rest)) :=
  r_putf C hG tyX9 tyX9_ok nmX9 (c0 := 0) (kdm_lt hk (by decide)) (entM_O hk) (Cn := RX9) (T := TX9) (Nk := 35) rfl (fun x hx => List.mem_cons_of_mem _ (uw_X9 x hx)) (i := 3) (Nat.le_of_ble_eq_true rfl) (List.mem_cons_of_mem _ tg_4_87) rfl rfl (ty := .int) rfl rfl rfl (Nat.le_of_ble_eq_true rfl) (upM_3 hk) hdg kk
theorem pf_X9_121 {w : Mem} {v : Int32} (C : CX p s m args meth c cc nL RX9 (cd :: TG) rt) (hG : Gd s G A 28 B (entM G B w) X H locs) (hk : KDm 0 = (9, 35) := rfl) (hdg : decode cc pc = .ok (.putfield 121, 3))
    (kk : ∀ (H : Heap) (locs : List Loc), Gd s G A 28 B (entM G B (mset w 0 4 v)) X H locs → W p l e R s m args below meth c H locs 0 0 Q (F0 m (pc + 3) ls rest)) : W p l e R s m args below meth c H locs 0 0 Q (F0 m pc ls (.int v :: .ref (B + 0) :: rest)) :=
  r_putf C hG tyX9 tyX9_ok nmX9 (c0 := 0) (kdm_lt hk (by decide)) (entM_O hk) (Cn := RX9) (T := TX9) (Nk := 35) rfl (fun x hx => List.mem_cons_of_mem _ (uw_X9 x hx)) (i := 4) (Nat.le_of_ble_eq_true rfl) (List.mem_cons_of_mem _ tg_4_88) rfl rfl (ty := .int) rfl rfl rfl (Nat.le_of_ble_eq_true rfl) (upM_4 hk) hdg kk
theorem pf_X9_170 {w : Mem} {v : Int32} (C : CX p s m args meth c cc nL RX9 (cd :: TG) rt) (hG : Gd s G A 28 B (entM G B w) X H locs) (hk : KDm 0 = (9, 35) := rfl) (hdg : decode cc pc = .ok (.putfield 170, 3))
    (kk : ∀ (H : Heap) (locs : List Loc), Gd s G A 28 B (entM G B (mset w 0 15 v)) X H locs → W p l e R s m args below meth c H locs 0 0 Q (F0 m (pc + 3) ls rest)) : W p l e R s m args below meth c H locs 0 0 Q (F0 m pc ls (.int v :: .ref (B + 0) :: rest)) :=
  r_putf C hG tyX9 tyX9_ok nmX9 (c0 := 0) (kdm_lt hk (by decide)) (entM_O hk) (Cn := RX9) (T := TX9) (Nk := 35) rfl (fun x hx => List.mem_cons_of_mem _ (uw_X9 x hx)) (i := 15) (Nat.le_of_ble_eq_true rfl) (List.mem_cons_of_mem _ tg_4_99) rfl rfl (ty := .int) rfl rfl rfl (Nat.le_of_ble_eq_true rfl) (upM_15 hk) hdg kk
theorem pf_X9_185 {w : Mem} {v : Int32} (C : CX p s m args meth c cc nL RX9 (cd :: TG) rt) (hG : Gd s G A 28 B (entM G B w) X H locs) (hk : KDm 0 = (9, 35) := rfl) (hdg : decode cc pc = .ok (.putfield 185, 3))
    (kk : ∀ (H : Heap) (locs : List Loc), Gd s G A 28 B (entM G B (mset w 0 17 v)) X H locs → W p l e R s m args below meth c H locs 0 0 Q (F0 m (pc + 3) ls rest)) : W p l e R s m args below meth c H locs 0 0 Q (F0 m pc ls (.int v :: .ref (B + 0) :: rest)) :=
  r_putf C hG tyX9 tyX9_ok nmX9 (c0 := 0) (kdm_lt hk (by decide)) (entM_O hk) (Cn := RX9) (T := TX9) (Nk := 35) rfl (fun x hx => List.mem_cons_of_mem _ (uw_X9 x hx)) (i := 17) (Nat.le_of_ble_eq_true rfl) (List.mem_cons_of_mem _ tg_4_101) rfl rfl (ty := .int) rfl rfl rfl (Nat.le_of_ble_eq_true rfl) (upM_17 hk) hdg kk
theorem pf_X9_217 {w : Mem} {v : Int32} (C : CX p s m args meth c cc nL RX9 (cd :: TG) rt) (hG : Gd s G A 28 B (entM G B w) X H locs) (hk : KDm 0 = (9, 35) := rfl) (hdg : decode cc pc = .ok (.putfield 217, 3))
    (kk : ∀ (H : Heap) (locs : List Loc), Gd s G A 28 B (entM G B (mset w 0 23 v)) X H locs → W p l e R s m args below meth c H locs 0 0 Q (F0 m (pc + 3) ls rest)) : W p l e R s m args below meth c H locs 0 0 Q (F0 m pc ls (.int v :: .ref (B + 0) :: rest)) :=
  r_putf C hG tyX9 tyX9_ok nmX9 (c0 := 0) (kdm_lt hk (by decide)) (entM_O hk) (Cn := RX9) (T := TX9) (Nk := 35) rfl (fun x hx => List.mem_cons_of_mem _ (uw_X9 x hx)) (i := 23) (Nat.le_of_ble_eq_true rfl) (List.mem_cons_of_mem _ tg_4_107) rfl rfl (ty := .int) rfl rfl rfl (Nat.le_of_ble_eq_true rfl) (upM_23 hk) hdg kk
theorem pf_X9_256 {w : Mem} {v : Int32} (C : CX p s m args meth c cc nL RX9 (cd :: TG) rt) (hG : Gd s G A 28 B (entM G B w) X H locs) (hk : KDm 0 = (9, 35) := rfl) (hdg : decode cc pc = .ok (.putfield 256, 3))
    (kk : ∀ (H : Heap) (locs : List Loc), Gd s G A 28 B (entM G B (mset w 0 29 v)) X H locs → W p l e R s m args below meth c H locs 0 0 Q (F0 m (pc + 3) ls rest)) : W p l e R s m args below meth c H locs 0 0 Q (F0 m pc ls (.int v :: .ref (B + 0) :: rest)) :=
  r_putf C hG tyX9 tyX9_ok nmX9 (c0 := 0) (kdm_lt hk (by decide)) (entM_O hk) (Cn := RX9) (T := TX9) (Nk := 35) rfl (fun x hx => List.mem_cons_of_mem _ (uw_X9 x hx)) (i := 29) (Nat.le_of_ble_eq_true rfl) (List.mem_cons_of_mem _ tg_4_113) rfl rfl (ty := .int) rfl rfl rfl (Nat.le_of_ble_eq_true rfl) (upM_29 hk) hdg kk
theorem pf_X9_303 {w : Mem} {v : Int32} (C : CX p s m args meth c cc nL RX9 (cd :: TG) rt) (hG : Gd s G A 28 B (entM G B w) X H locs) (hk : KDm 0 = (9, 35) := rfl) (hdg : decode cc pc = .ok (.putfield 303, 3))
    (kk : ∀ (H : Heap) (locs : List Loc), Gd s G A 28 B (entM G B (mset w 0 32 v)) X H locs → W p l e R s m args below meth c H locs 0 0 Q (F0 m (pc + 3) ls rest)) : W p l e R s m args below meth c H locs 0 0 Q (F0 m pc ls (.int v :: .ref (B + 0) :: rest)) :=
  r_putf C hG tyX9 tyX9_ok nmX9 (c0 := 0) (kdm_lt hk (by decide)) (entM_O hk) (Cn := RX9) (T := TX9) (Nk := 35) rfl (fun x hx => List.mem_cons_of_mem _ (uw_X9 x hx)) (i := 32) (Nat.le_of_ble_eq_true rfl) (List.mem_cons_of_mem _ tg_4_116) rfl rfl (ty := .int) rfl rfl rfl (Nat.le_of_ble_eq_true rfl) (upM_32 hk) hdg kk
theorem pf_X9_312 {w : Mem} {v : Int32} (C : CX p s m args meth c cc nL RX9 (cd :: TG) rt) (hG : Gd s G A 28 B (entM G B w) X H locs) (hz : v = nI 0 ∨ v = nI 1) (hk : KDm 0 = (9, 35) := rfl) (hdg : decode cc pc = .ok (.putfield 312, 3))
    (kk : ∀ (H : Heap) (locs : List Loc), Gd s G A 28 B (entM G B (mset w 0 2 v)) X H locs → W p l e R s m args below meth c H locs 0 0 Q (F0 m (pc + 3) ls rest)) : W p l e R s m args below meth c H locs 0 0 Q (F0 m pc ls (.int v :: .ref (B + 0) :: rest)) :=
  r_putf C hG tyX9 tyX9_ok nmX9 (c0 := 0) (kdm_lt hk (by decide)) (entM_O hk) (Cn := RX9) (T := TX9) (Nk := 35) rfl (fun x hx => List.mem_cons_of_mem _ (uw_X9 x hx)) (i := 2) (Nat.le_of_ble_eq_true rfl) (List.mem_cons_of_mem _ tg_4_86) rfl rfl (ty := .boolean) rfl (by rcases hz with h | h <;> (rw [h]; decide)) (by rcases hz with h | h <;> (rw [h]; decide)) (Nat.le_of_ble_eq_true rfl) (upM_2 hk) hdg kk
end FR
