/-! base of the pure part: numbers, an Option's outcome, loops -/
theorem ile {a b : Nat} (ha : a < 2147483648) (hb : b < 2147483648) : (nI a ≤ nI b) = (a ≤ b) := propext (nI_leI ha hb)
theorem ilt {a b : Nat} (ha : a < 2147483648) (hb : b < 2147483648) : (nI a < nI b) = (a < b) := propext (nI_ltI ha hb)
theorem ieq {a b : Nat} (ha : a < 2147483648) (hb : b < 2147483648) : (nI a = nI b) = (a = b) := propext (nI_eq ha hb)
theorem i0 : (0 : Int32) = nI 0 := rfl
theorem i0l {b : Nat} (hb : b < 2147483648) : (0 ≤ nI b) = True := by rw [i0, ile (by omega) hb]; simp
theorem ile0 {b : Nat} (hb : b < 2147483648) : (nI b ≤ 0) = (b = 0) := by rw [i0, ile hb (by omega)]; simp
theorem ilt0 {b : Nat} (hb : b < 2147483648) : (nI b < 0) = False := by rw [i0, ilt hb (by omega)]; simp
theorem i0lt {b : Nat} (hb : b < 2147483648) : (0 < nI b) = (0 < b) := by rw [i0, ilt (by omega) hb]
theorem ieq0 {b : Nat} (hb : b < 2147483648) : (nI b = 0) = (b = 0) := by rw [i0, ieq hb (by omega)]
theorem isub {a b : Nat} (h : b ≤ a) : nI a - nI b = nI (a - b) := pk_sub h
theorem irem {a b : Nat} (ha : a < 2147483648) (h0 : 0 < b) (hb : b < 2147483648) : remI (nI a) (nI b) = nI (a % b) := pk_rem ha h0 hb
theorem idiv {a b : Nat} (ha : a < 2147483648) (h0 : 0 < b) (hb : b < 2147483648) : nI a / nI b = nI (a / b) := pk_div ha h0 hb
theorem iclamp {a : Nat} (h : a < 2147483648) : (nI a).toNatClampNeg = a := nI_clamp h
theorem inb_nI {a n : Nat} (h : a < 2147483648) : (inb (nI a) n = true) = (a < n) := by
  simp only [inb, nI_toInt h, Bool.and_eq_true, decide_eq_true_eq]
  exact propext ⟨fun q => by omega, fun q => by omega⟩
theorem ldS_ok {n c i : Nat} {m : Mem} (h : i < n) (hn : n < 2147483648) : ldS n c (nI i) m = some (m c i) := by
  have h2 : i < 2147483648 := by omega
  unfold ldS grd
  rw [if_pos (by rw [inb_nI h2]; exact h), iclamp h2]
theorem stX_ok {n c i : Nat} {v : Int32} {w : WX} (h : i < n) (hn : n < 2147483648) : stX n c (nI i) v w = some (mset w.1 c i v, w.2) := by
  have h2 : i < 2147483648 := by omega
  unfold stX grd
  rw [if_pos (by rw [inb_nI h2]; exact h), iclamp h2]
theorem stM_ok {n c i : Nat} {v : Int32} {w : Mem} (h : i < n) (hn : n < 2147483648) : stM n c (nI i) v w = some (mset w c i v) := by
  have h2 : i < 2147483648 := by omega
  unfold stM grd
  rw [if_pos (by rw [inb_nI h2]; exact h), iclamp h2]
theorem ldD_ok {K : Nat → Nat × Nat} {n c i : Nat} {m : Mem} (hk : K c = (10, n)) (h : i < n) (hn : n < 2147483648) : ldD K c (nI i) m = some (m c i) := by
  unfold ldD grd
  rw [hk, if_pos rfl]
  exact ldS_ok h hn
theorem stDX_ok {n c i : Nat} {v : Int32} {w : WX} (hk : KDx c = (10, n)) (h : i < n) (hn : n < 2147483648) : stDX c (nI i) v w = some (mset w.1 c i v, w.2) := by
  unfold stDX grd
  rw [hk, if_pos rfl]
  exact stX_ok h hn
theorem grd_ok {α : Type} {p : Prop} [Decidable p] {x : Option α} (h : p) : grd p x = x := if_pos h
theorem mset_same {m : Mem} {c i : Nat} {v : Int32} : mset m c i v c i = v := by simp [mset]
theorem mset_ni {m : Mem} {c i j : Nat} {v : Int32} (h : j ≠ i) : mset m c i v c j = m c j := by simp [mset, h]
theorem mset_nc {m : Mem} {c i q j : Nat} {v : Int32} (h : q ≠ c) : mset m c i v q j = m q j := by simp [mset, h]
theorem mset_ncf {m : Mem} {c i q : Nat} {v : Int32} (h : q ≠ c) : mset m c i v q = m q := by funext j; simp [mset, h]
theorem rset_ncf {m : Rf} {c i q v : Nat} (h : q ≠ c) : rset m c i v q = m q := by funext j; simp [rset, h]
/-- the outcome is there and keeps P -/
def Ok {α : Type} (x : Option α) (P : α → Prop) : Prop := ∃ o, x = some o ∧ P o
theorem ok_some {α : Type} {a : α} {P : α → Prop} : Ok (some a) P = P a := propext ⟨fun ⟨_, h, hp⟩ => by cases h; exact hp, fun h => ⟨a, rfl, h⟩⟩
theorem ok_bind {α β : Type} {x : Option α} {f : α → Option β} {P : β → Prop} : Ok (x.bind f) P = Ok x (fun v => Ok (f v) P) := by
  apply propext
  cases x with
  | none => exact ⟨fun ⟨_, h, _⟩ => (by cases h), fun ⟨_, h, _⟩ => (by cases h)⟩
  | some v => exact ⟨fun h => ⟨v, rfl, h⟩, fun ⟨_, h, hp⟩ => by cases h; exact hp⟩
theorem ok_letv {α β : Type} {a : α} {f : α → Option β} {P : β → Prop} : Ok (letv a f) P = Ok (f a) P := rfl
theorem ok_grd {α : Type} {p : Prop} [Decidable p] {x : Option α} {P : α → Prop} : Ok (grd p x) P = (p ∧ Ok x P) := by
  apply propext
  unfold grd
  by_cases h : p
  · rw [if_pos h]; exact ⟨fun q => ⟨h, q⟩, fun q => q.2⟩
  · rw [if_neg h]; exact ⟨fun ⟨_, q, _⟩ => (by cases q), fun q => absurd q.1 h⟩
theorem ok_ite {α : Type} {p : Prop} [Decidable p] {x y : Option α} {P : α → Prop} : Ok (if p then x else y) P = ((p → Ok x P) ∧ (¬ p → Ok y P)) := by
  apply propext
  by_cases h : p
  · rw [if_pos h]; exact ⟨fun q => ⟨fun _ => q, fun z => absurd h z⟩, fun q => q.1 h⟩
  · rw [if_neg h]; exact ⟨fun q => ⟨fun z => absurd z h, fun _ => q⟩, fun q => q.2 h⟩
theorem Ok.mono {α : Type} {x : Option α} {P Q : α → Prop} (h : Ok x P) (hq : ∀ a, P a → Q a) : Ok x Q := by
  obtain ⟨o, h1, h2⟩ := h
  exact ⟨o, h1, hq o h2⟩
theorem Ok.of {α : Type} {x : Option α} {a : α} {P : α → Prop} (h : x = some a) (hp : P a) : Ok x P := ⟨a, h, hp⟩
/-- a loop that counts to n, perhaps left before -/
theorem lpw_brk {σ ρ : Type} {f : σ → Option (σ ⊕ ρ)} (I : Nat → σ → Prop) {P : ρ → Prop} {n : Nat} (hs : ∀ k s, k < n → I k s → Ok (f s) (fun r => (∃ s', r = .inl s' ∧ I (k + 1) s') ∨ ∃ x, r = .inr x ∧ P x)) (hx : ∀ s, I n s → Ok (f s) (fun r => ∃ x, r = .inr x ∧ P x)) : ∀ (d k fuel : Nat) (s : σ), n - k = d → k ≤ n → I k s → d < fuel → Ok (lpw f fuel s) P := by
  intro d
  induction d with
  | zero =>
    intro k fuel s hd hk hI hf
    obtain rfl : k = n := by omega
    cases fuel with
    | zero => omega
    | succ m =>
      obtain ⟨r, h1, x, rfl, hp⟩ := hx s hI
      exact ⟨x, by simp [lpw, h1], hp⟩
  | succ d ih =>
    intro k fuel s hd hk hI hf
    cases fuel with
    | zero => omega
    | succ m =>
      obtain ⟨r, h1, h2⟩ := hs k s (by omega) hI
      rcases h2 with ⟨s', rfl, hI'⟩ | ⟨x, rfl, hp⟩
      · obtain ⟨o, ho, hp⟩ := ih (k + 1) m s' (by omega) (by omega) hI' (by omega)
        exact ⟨o, by simp [lpw, h1, ho], hp⟩
      · exact ⟨x, by simp [lpw, h1], hp⟩
theorem ok_for {σ ρ : Type} {f : σ → Option (σ ⊕ ρ)} (n : Nat) (I : Nat → σ → Prop) {P : ρ → Prop} {s : σ} (h0 : I 0 s) (hs : ∀ k s, k < n → I k s → Ok (f s) (fun r => ∃ s', r = .inl s' ∧ I (k + 1) s')) (hx : ∀ s, I n s → Ok (f s) (fun r => ∃ x, r = .inr x ∧ P x)) (hn : n < 1000) : Ok (lpw f FU s) P :=
  lpw_brk I (fun k s hk hI => (hs k s hk hI).mono fun r h => Or.inl h) hx n 0 FU s (by omega) (by omega) h0 hn
theorem ok_forb {σ ρ : Type} {f : σ → Option (σ ⊕ ρ)} (n : Nat) (I : Nat → σ → Prop) {P : ρ → Prop} {s : σ} (h0 : I 0 s) (hs : ∀ k s, k < n → I k s → Ok (f s) (fun r => (∃ s', r = .inl s' ∧ I (k + 1) s') ∨ ∃ x, r = .inr x ∧ P x)) (hx : ∀ s, I n s → Ok (f s) (fun r => ∃ x, r = .inr x ∧ P x)) (hn : n < 1000) : Ok (lpw f FU s) P :=
  lpw_brk I hs hx n 0 FU s (by omega) (by omega) h0 hn
theorem inl_ex {σ ρ : Type} {s : σ} {I : σ → Prop} : (∃ s', (Sum.inl s : σ ⊕ ρ) = .inl s' ∧ I s') = I s := propext ⟨fun ⟨_, h, hp⟩ => by cases h; exact hp, fun h => ⟨s, rfl, h⟩⟩
theorem inr_ex {σ ρ : Type} {x : ρ} {I : ρ → Prop} : (∃ x', (Sum.inr x : σ ⊕ ρ) = .inr x' ∧ I x') = I x := propext ⟨fun ⟨_, h, hp⟩ => by cases h; exact hp, fun h => ⟨x, rfl, h⟩⟩
theorem inl_exr {σ ρ : Type} {s : σ} {I : ρ → Prop} : (∃ x', (Sum.inl s : σ ⊕ ρ) = .inr x' ∧ I x') = False := propext ⟨fun ⟨_, h, _⟩ => (by cases h), False.elim⟩
theorem inr_exl {σ ρ : Type} {x : ρ} {I : σ → Prop} : (∃ s', (Sum.inr x : σ ⊕ ρ) = .inl s' ∧ I s') = False := propext ⟨fun ⟨_, h, _⟩ => (by cases h), False.elim⟩
theorem letv_eq {α β : Type} {a : α} {f : α → β} : letv a f = f a := rfl
/-- sums -/
def sumN : Nat → (Nat → Nat) → Nat
  | 0, _ => 0
  | n + 1, f => sumN n f + f n
theorem sumN_congr {n : Nat} {f g : Nat → Nat} (h : ∀ i, i < n → f i = g i) : sumN n f = sumN n g := by
  induction n with
  | zero => rfl
  | succ n ih => rw [sumN, sumN, ih (fun i hi => h i (by omega)), h n (by omega)]
theorem sumN_add {n : Nat} {f g : Nat → Nat} : sumN n (fun i => f i + g i) = sumN n f + sumN n g := by
  induction n with
  | zero => rfl
  | succ n ih => simp only [sumN, ih]; omega
theorem sumN_zero {n : Nat} : sumN n (fun _ => 0) = 0 := by
  induction n with
  | zero => rfl
  | succ n ih => simp only [sumN, ih]
theorem sumN_swap {n m : Nat} {f : Nat → Nat → Nat} : sumN n (fun i => sumN m (fun j => f i j)) = sumN m (fun j => sumN n (fun i => f i j)) := by
  induction n with
  | zero => simp only [sumN, sumN_zero]
  | succ n ih => simp only [sumN, ih, sumN_add]
theorem sumN_mod {n : Nat} {f : Nat → Nat} {p : Nat} : sumN n (fun i => f i % p) % p = sumN n f % p := by
  induction n with
  | zero => rfl
  | succ n ih => rw [sumN, sumN, Nat.add_mod, ih, Nat.mod_mod, ← Nat.add_mod]
theorem sumN_modc {n : Nat} {f g : Nat → Nat} {p : Nat} (h : ∀ i, i < n → f i % p = g i % p) : sumN n f % p = sumN n g % p := by
  rw [← sumN_mod, ← sumN_mod (f := g), sumN_congr h]
theorem bsome {α β : Type} {a : α} {f : α → Option β} : (some a).bind f = f a := Eq.trans rfl rfl
theorem okb {α β : Type} {x : Option α} {a : α} {f : α → Option β} {P : β → Prop} (h : x = some a) (k : Ok (f a) P) : Ok (x.bind f) P := by rw [h]; exact k
theorem okg {α : Type} {p : Prop} [Decidable p] {x : Option α} {P : α → Prop} (h : p) (k : Ok x P) : Ok (grd p x) P := by rw [grd_ok h]; exact k
theorem okt {α : Type} {p : Prop} [Decidable p] {x y : Option α} {P : α → Prop} (h : p) (k : Ok x P) : Ok (if p then x else y) P := by rw [if_pos h]; exact k
theorem okf {α : Type} {p : Prop} [Decidable p] {x y : Option α} {P : α → Prop} (h : ¬ p) (k : Ok y P) : Ok (if p then x else y) P := by rw [if_neg h]; exact k
