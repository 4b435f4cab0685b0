/-! the cells of the two programs: kind and length; 0..9 objects of a class, 10 int[], 11 boolean[], 12 Algebra[], 13 Surface[], 14 int[][] -/
def KDxL : List (Nat × Nat) := [(8, 13), (4, 4), (12, 4), (13, 4), (3, 3), (10, 8), (10, 8), (0, 13), (10, 36), (10, 36), (10, 36), (10, 6), (10, 6), (10, 6), (10, 6), (10, 6), (10, 6), (0, 13), (10, 36), (10, 36), (10, 36), (10, 6), (10, 6), (10, 6), (10, 6), (10, 6), (10, 6), (0, 13), (10, 36), (10, 36), (10, 36), (10, 6), (10, 6), (10, 6), (10, 6), (10, 6), (10, 6), (0, 13), (10, 36), (10, 36), (10, 36), (10, 6), (10, 6), (10, 6), (10, 6), (10, 6), (10, 6), (6, 3), (10, 24), (6, 3), (10, 24), (6, 3), (10, 24), (6, 3), (10, 24), (4, 4), (12, 4), (13, 4), (3, 3), (10, 8), (10, 8), (0, 13), (10, 36), (10, 36), (10, 36), (10, 6), (10, 6), (10, 6), (10, 6), (10, 6), (10, 6), (0, 13), (10, 36), (10, 36), (10, 36), (10, 6), (10, 6), (10, 6), (10, 6), (10, 6), (10, 6), (0, 13), (10, 36), (10, 36), (10, 36), (10, 6), (10, 6), (10, 6), (10, 6), (10, 6), (10, 6), (0, 13), (10, 36), (10, 36), (10, 36), (10, 6), (10, 6), (10, 6), (10, 6), (10, 6), (10, 6), (6, 3), (10, 24), (6, 3), (10, 24), (6, 3), (10, 24), (6, 3), (10, 24), (7, 2), (10, 60), (1, 2), (14, 4), (10, 12), (10, 12), (10, 12), (10, 12), (10, 4), (10, 24), (6, 3), (10, 24), (0, 13), (10, 36), (10, 36), (10, 36), (10, 6), (10, 6), (10, 6), (10, 6), (10, 6), (10, 6), (2, 8), (10, 24), (10, 24), (11, 24), (10, 3), (11, 24), (11, 24), (2, 8), (10, 24), (10, 24), (11, 24), (10, 3), (11, 24), (11, 24), (5, 5), (10, 216), (10, 216), (10, 4), (5, 5), (10, 216), (10, 216), (10, 4)]
def KDmL : List (Nat × Nat) := [(9, 35), (10, 130), (10, 130), (10, 36), (10, 36), (10, 6), (10, 6), (10, 36), (10, 6), (10, 6), (10, 6), (10, 6), (10, 48), (10, 60), (10, 3), (10, 24), (10, 24), (10, 24), (10, 24), (10, 24), (10, 24), (10, 24), (10, 216), (10, 216), (10, 216), (10, 24), (10, 4), (10, 48)]
def KDx (c : Nat) : Nat × Nat := KDxL.getD c (99, 0)
def KDm (c : Nat) : Nat × Nat := KDmL.getD c (99, 0)
theorem kdx_lt {c k n : Nat} (h : KDx c = (k, n)) (hk : k ≠ 99) : c < 153 := by
  rcases Nat.lt_or_ge c 153 with q | q
  · exact q
  · exfalso
    have e : KDx c = (99, 0) := by
      unfold KDx
      rw [List.getD_eq_getElem?_getD, List.getElem?_eq_none (show KDxL.length ≤ c from q)]
      rfl
    rw [e] at h
    exact hk (congrArg Prod.fst h).symm
theorem kdm_lt {c k n : Nat} (h : KDm c = (k, n)) (hk : k ≠ 99) : c < 28 := by
  rcases Nat.lt_or_ge c 28 with q | q
  · exact q
  · exfalso
    have e : KDm c = (99, 0) := by
      unfold KDm
      rw [List.getD_eq_getElem?_getD, List.getElem?_eq_none (show KDmL.length ≤ c from q)]
      rfl
    rw [e] at h
    exact hk (congrArg Prod.fst h).symm
theorem kd_eta {K : Nat → Nat × Nat} {c k : Nat} (h : (K c).1 = k) : K c = (k, (K c).2) := by rw [← h]
/-- arrays whose length isn't known by their place -/
def ldD (K : Nat → Nat × Nat) (c : Nat) (i : Int32) (m : Mem) : Option Int32 := grd ((K c).1 = 10) (ldS (K c).2 c i m)
def stDM (K : Nat → Nat × Nat) (c : Nat) (i v : Int32) (m : Mem) : Option Mem := grd ((K c).1 = 10) (stM (K c).2 c i v m)
def stDX (c : Nat) (i v : Int32) (w : WX) : Option WX := grd ((KDx c).1 = 10) (stX (KDx c).2 c i v w)
theorem kx_0_4 {c : Nat} (h : KDx c = (0, 13)) : KDx (c + 1) = (10, 36) := (show ∀ c, c < 153 → KDx c = (0, 13) → KDx (c + 1) = (10, 36) from by decide +kernel) c (kdx_lt h (by decide)) h
theorem kx_0_5 {c : Nat} (h : KDx c = (0, 13)) : KDx (c + 2) = (10, 36) := (show ∀ c, c < 153 → KDx c = (0, 13) → KDx (c + 2) = (10, 36) from by decide +kernel) c (kdx_lt h (by decide)) h
theorem kx_0_6 {c : Nat} (h : KDx c = (0, 13)) : KDx (c + 3) = (10, 36) := (show ∀ c, c < 153 → KDx c = (0, 13) → KDx (c + 3) = (10, 36) from by decide +kernel) c (kdx_lt h (by decide)) h
theorem kx_0_7 {c : Nat} (h : KDx c = (0, 13)) : KDx (c + 4) = (10, 6) := (show ∀ c, c < 153 → KDx c = (0, 13) → KDx (c + 4) = (10, 6) from by decide +kernel) c (kdx_lt h (by decide)) h
theorem kx_0_8 {c : Nat} (h : KDx c = (0, 13)) : KDx (c + 5) = (10, 6) := (show ∀ c, c < 153 → KDx c = (0, 13) → KDx (c + 5) = (10, 6) from by decide +kernel) c (kdx_lt h (by decide)) h
theorem kx_0_9 {c : Nat} (h : KDx c = (0, 13)) : KDx (c + 6) = (10, 6) := (show ∀ c, c < 153 → KDx c = (0, 13) → KDx (c + 6) = (10, 6) from by decide +kernel) c (kdx_lt h (by decide)) h
theorem kx_0_10 {c : Nat} (h : KDx c = (0, 13)) : KDx (c + 7) = (10, 6) := (show ∀ c, c < 153 → KDx c = (0, 13) → KDx (c + 7) = (10, 6) from by decide +kernel) c (kdx_lt h (by decide)) h
theorem kx_2_2 {c : Nat} (h : KDx c = (2, 8)) : KDx (c + 1) = (10, 24) := (show ∀ c, c < 153 → KDx c = (2, 8) → KDx (c + 1) = (10, 24) from by decide +kernel) c (kdx_lt h (by decide)) h
theorem kx_2_3 {c : Nat} (h : KDx c = (2, 8)) : KDx (c + 2) = (10, 24) := (show ∀ c, c < 153 → KDx c = (2, 8) → KDx (c + 2) = (10, 24) from by decide +kernel) c (kdx_lt h (by decide)) h
theorem kx_2_4 {c : Nat} (h : KDx c = (2, 8)) : KDx (c + 3) = (11, 24) := (show ∀ c, c < 153 → KDx c = (2, 8) → KDx (c + 3) = (11, 24) from by decide +kernel) c (kdx_lt h (by decide)) h
theorem kx_2_5 {c : Nat} (h : KDx c = (2, 8)) : KDx (c + 4) = (10, 3) := (show ∀ c, c < 153 → KDx c = (2, 8) → KDx (c + 4) = (10, 3) from by decide +kernel) c (kdx_lt h (by decide)) h
theorem kx_2_6 {c : Nat} (h : KDx c = (2, 8)) : KDx (c + 5) = (11, 24) := (show ∀ c, c < 153 → KDx c = (2, 8) → KDx (c + 5) = (11, 24) from by decide +kernel) c (kdx_lt h (by decide)) h
theorem kx_2_7 {c : Nat} (h : KDx c = (2, 8)) : KDx (c + 6) = (11, 24) := (show ∀ c, c < 153 → KDx c = (2, 8) → KDx (c + 6) = (11, 24) from by decide +kernel) c (kdx_lt h (by decide)) h
theorem kx_3_0 {c : Nat} (h : KDx c = (3, 3)) : KDx (c + 1) = (10, 8) := (show ∀ c, c < 153 → KDx c = (3, 3) → KDx (c + 1) = (10, 8) from by decide +kernel) c (kdx_lt h (by decide)) h
theorem kx_3_1 {c : Nat} (h : KDx c = (3, 3)) : KDx (c + 2) = (10, 8) := (show ∀ c, c < 153 → KDx c = (3, 3) → KDx (c + 2) = (10, 8) from by decide +kernel) c (kdx_lt h (by decide)) h
theorem kx_4_0 {c : Nat} (h : KDx c = (4, 4)) : KDx (c + 1) = (12, 4) := (show ∀ c, c < 153 → KDx c = (4, 4) → KDx (c + 1) = (12, 4) from by decide +kernel) c (kdx_lt h (by decide)) h
theorem kx_4_2 {c : Nat} (h : KDx c = (4, 4)) : KDx (c + 2) = (13, 4) := (show ∀ c, c < 153 → KDx c = (4, 4) → KDx (c + 2) = (13, 4) from by decide +kernel) c (kdx_lt h (by decide)) h
theorem kx_4_3 {c : Nat} (h : KDx c = (4, 4)) : KDx (c + 3) = (3, 3) := (show ∀ c, c < 153 → KDx c = (4, 4) → KDx (c + 3) = (3, 3) from by decide +kernel) c (kdx_lt h (by decide)) h
theorem kx_5_2 {c : Nat} (h : KDx c = (5, 5)) : KDx (c + 3) = (10, 4) := (show ∀ c, c < 153 → KDx c = (5, 5) → KDx (c + 3) = (10, 4) from by decide +kernel) c (kdx_lt h (by decide)) h
theorem kx_6_0 {c : Nat} (h : KDx c = (6, 3)) : KDx (c + 1) = (10, 24) := (show ∀ c, c < 153 → KDx c = (6, 3) → KDx (c + 1) = (10, 24) from by decide +kernel) c (kdx_lt h (by decide)) h
