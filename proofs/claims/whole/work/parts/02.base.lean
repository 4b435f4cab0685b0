/-! base words of the shallow functions: memories, bounds, loops -/
abbrev Mem : Type := Nat → Nat → Int32
abbrev Rf : Type := Nat → Nat → Nat
abbrev WX : Type := Mem × Rf
def mset (m : Mem) (c i : Nat) (v : Int32) : Mem := fun c' i' => if c' = c then (if i' = i then v else m c' i') else m c' i'
def rset (r : Rf) (c i v : Nat) : Rf := fun c' i' => if c' = c then (if i' = i then v else r c' i') else r c' i'
def inb (i : Int32) (n : Nat) : Bool := decide (0 ≤ i.toInt) && decide (i.toInt < (n : Int))
theorem inb_in {i : Int32} {n : Nat} (h : inb i n = true) : vp_in i n := by
  simp only [inb, Bool.and_eq_true, decide_eq_true_eq] at h
  exact vp_in_iff.mpr h
def letv {α β : Type} (a : α) (f : α → β) : β := f a
/-- a guard -/
def grd {α : Type} (p : Prop) [Decidable p] (x : Option α) : Option α := if p then x else none
def ldS (n c : Nat) (i : Int32) (m : Mem) : Option Int32 := grd (inb i n = true) (some (m c i.toNatClampNeg))
def stM (n c : Nat) (i v : Int32) (m : Mem) : Option Mem := grd (inb i n = true) (some (mset m c i.toNatClampNeg v))
def stX (n c : Nat) (i v : Int32) (w : WX) : Option WX := grd (inb i n = true) (some (mset w.1 c i.toNatClampNeg v, w.2))
def pX (c i : Nat) (v : Int32) (w : WX) : WX := (mset w.1 c i v, w.2)
def pXr (c i v : Nat) (w : WX) : WX := (w.1, rset w.2 c i v)
def tbl7 (f : Nat → Int32) (i : Int32) : Option Int32 := grd (inb i 7 = true) (some (f i.toNatClampNeg))
def sLET : Nat → Int32 := fun j => match j with | 0 => nI 111 | 1 => nI 109 | 2 => nI 119 | 3 => nI 99 | 4 => nI 120 | 5 => nI 104 | _ => nI 107
def sNEEDS : Nat → Int32 := fun j => match j with | 0 => nI 0 | 1 => nI 2 | 2 => nI 1 | 3 => nI 1 | 4 => nI 2 | 5 => nI 1 | _ => nI 1
def sADDS : Nat → Int32 := fun j => match j with | 0 => nI 1 | 1 => -1 | 2 => nI 1 | 3 => -1 | 4 => nI 0 | 5 => nI 0 | _ => nI 0
def sEULER : Nat → Int32 := fun j => match j with | 0 => nI 1 | 1 => -1 | 2 => -1 | 3 => nI 1 | 4 => nI 0 | 5 => -2 | _ => -1
/-- arraycopy between int arrays -/
def cpX (n0 n1 a0 : Nat) (sp : Int32) (a1 : Nat) (dp n : Int32) (w : WX) : Option WX :=
  grd ((¬ sp < 0 ∧ ¬ dp < 0 ∧ ¬ n < 0) ∧ sp.toNatClampNeg + n.toNatClampNeg ≤ n0 ∧ dp.toNatClampNeg + n.toNatClampNeg ≤ n1)
    (some ((fun c' => if c' = a1 then va_cpy (w.1 a0) (w.1 a1) sp.toNatClampNeg dp.toNatClampNeg n.toNatClampNeg else w.1 c'), w.2))
def remI (x y : Int32) : Int32 := x - x / y * y
def remL (x y : Int64) : Int64 := x - x / y * y
def ushrI (x y : Int32) : Int32 := (x.toUInt32 >>> (y.toUInt32 &&& Int32.toUInt32 31)).toInt32
def mxI (x y : Int32) : Int32 := if x < y then y else x
def mnI (x y : Int32) : Int32 := if y < x then y else x
/-- a loop: a step gives the next state or an exit -/
def lpw {σ ρ : Type} (f : σ → Option (σ ⊕ ρ)) : Nat → σ → Option ρ
  | 0, _ => none
  | n + 1, s => (f s).bind (fun r => match r with
    | .inl s' => lpw f n s'
    | .inr x => some x)
def FU : Nat := 1000
theorem of_bind {α β : Type} {x : Option α} {f : α → Option β} {o : β} (h : x.bind f = some o) : ∃ v, x = some v ∧ f v = some o := by
  cases x with
  | none => cases h
  | some v => exact ⟨v, rfl, h⟩
theorem of_letv {α β : Type} {a : α} {f : α → Option β} {o : β} (h : letv a f = some o) : ∃ v, v = a ∧ f v = some o := ⟨a, rfl, h⟩
theorem of_grd {α : Type} {p : Prop} [Decidable p] {x : Option α} {o : α} (h : grd p x = some o) : p ∧ x = some o := by
  unfold grd at h
  by_cases hp : p
  · rw [if_pos hp] at h; exact ⟨hp, h⟩
  · rw [if_neg hp] at h; cases h
theorem of_ite {α : Type} {p : Prop} [Decidable p] {x y : Option α} {o : α} (h : (if p then x else y) = some o) : (p ∧ x = some o) ∨ (¬ p ∧ y = some o) := by
  by_cases hp : p
  · rw [if_pos hp] at h; exact Or.inl ⟨hp, h⟩
  · rw [if_neg hp] at h; exact Or.inr ⟨hp, h⟩
theorem of_pos {α : Type} {p : Prop} [Decidable p] {x y : Option α} {o : α} (h : (if p then x else y) = some o) (hp : p) : x = some o := by
  rw [if_pos hp] at h; exact h
theorem of_neg {α : Type} {p : Prop} [Decidable p] {x y : Option α} {o : α} (h : (if p then x else y) = some o) (hp : ¬ p) : y = some o := by
  rw [if_neg hp] at h; exact h
theorem of_ldS {n c : Nat} {i : Int32} {m : Mem} {v : Int32} (h : ldS n c i m = some v) : inb i n = true ∧ v = m c i.toNatClampNeg := by
  obtain ⟨h1, h2⟩ := of_grd h
  exact ⟨h1, (Option.some.inj h2).symm⟩
theorem of_stX {n c : Nat} {i v : Int32} {w w' : WX} (h : stX n c i v w = some w') : inb i n = true ∧ w' = (mset w.1 c i.toNatClampNeg v, w.2) := by
  obtain ⟨h1, h2⟩ := of_grd h
  exact ⟨h1, (Option.some.inj h2).symm⟩
theorem of_stM {n c : Nat} {i v : Int32} {w w' : Mem} (h : stM n c i v w = some w') : inb i n = true ∧ w' = mset w c i.toNatClampNeg v := by
  obtain ⟨h1, h2⟩ := of_grd h
  exact ⟨h1, (Option.some.inj h2).symm⟩
theorem of_tbl7 {f : Nat → Int32} {i v : Int32} (h : tbl7 f i = some v) : inb i 7 = true ∧ v = f i.toNatClampNeg := by
  obtain ⟨h1, h2⟩ := of_grd h
  exact ⟨h1, (Option.some.inj h2).symm⟩
theorem of_lpw {σ ρ : Type} {f : σ → Option (σ ⊕ ρ)} {n : Nat} {s : σ} {x : ρ} (h : lpw f (n + 1) s = some x) : ∃ r, f s = some r ∧ ((∃ s', r = .inl s' ∧ lpw f n s' = some x) ∨ r = .inr x) := by
  obtain ⟨r, h1, h2⟩ := of_bind h
  refine ⟨r, h1, ?_⟩
  cases r with
  | inl s' => exact Or.inl ⟨s', rfl, h2⟩
  | inr y => exact Or.inr (by cases h2; rfl)
