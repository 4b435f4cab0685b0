/-! the class, as functions of its memory: laid by program out of its bytecode -/
def sh_X0_at (th : Nat) (x1 : Int32) (x2 : Int32) (w : WX) : Option (Int32) :=
  some ((x1 * (w.1 th 3)) + x2)
def sh_J6_bitCount_0f7a4 (x0 : Int32) : Option (Int32) :=
  letv (x0 - ((ushrI x0 (nI 1)) &&& (nI 1431655765))) (fun v1 => letv ((v1 &&& (nI 858993459)) + ((ushrI v1 (nI 2)) &&& (nI 858993459))) (fun v2 => letv ((v2 + (ushrI v2 (nI 4))) &&& (nI 252645135)) (fun v3 => letv (v3 + (ushrI v3 (nI 8))) (fun v4 => letv (v4 + (ushrI v4 (nI 16))) (fun v5 => some (v5 &&& (nI 63)))))))
def sh_X0_lesserPairs_s4 (x0 : Int32) (x1 : Int32) (st : Int32 × Int32) : Option ((Int32 × Int32) ⊕ ((Int32))) :=
  if (nI 2) ≤ st.2 then some (Sum.inr st.1) else if ((x0 >>> (st.2 &&& 31)) &&& (nI 1)) = (nI 1) then Option.bind (sh_J6_bitCount_0f7a4 (x1 &&& (((nI 1) <<< (st.2 &&& 31)) - (nI 1)))) (fun v4 => letv (st.1 + v4) (fun v5 => letv (st.2 + nI 1) (fun v6 => some (Sum.inl (v5, v6))))) else letv (st.2 + nI 1) (fun v3 => some (Sum.inl (st.1, v3)))
def sh_X0_lesserPairs (x0 : Int32) (x1 : Int32) : Option (Int32) :=
  Option.bind (lpw (sh_X0_lesserPairs_s4 x0 x1) FU (nI 0, nI 0)) (fun ex1 => some ex1)
def sh_X0_signed (x0 : Int32) (x1 : Int32) : Option (Int32) :=
  if x1 = 0 then some x0 else if x0 = 0 then some x0 else some ((nI 9973) - x0)
def sh_X8_isOdd (x0 : Int32) : Option (Int32) :=
  if (x0 &&& (nI 1)) = (nI 1) then some (nI 1) else some (nI 0)
def sh_X0_factorByKind (th : Nat) (x1 : Int32) (x2 : Int32) (w : WX) : Option (Int32) :=
  if (w.1 th 0) = nI 0 then if x1 = x2 then some (nI 1) else some (nI 0) else if (w.1 th 0) = nI 1 then if x1 = x2 then some (nI 1) else some (nI 0) else if (w.1 th 0) = nI 2 then some (nI 1) else if (w.1 th 0) = nI 3 then if (w.1 th 3) ≤ (x1 + x2) then some (w.1 th 2) else some (nI 1) else if (w.1 th 0) = nI 4 then if (x1 &&& x2) = 0 then Option.bind (sh_X0_lesserPairs x1 x2) (fun v10 => Option.bind (sh_X8_isOdd v10) (fun v11 => Option.bind (sh_X0_signed (nI 1) v11) (fun v12 => some v12))) else some (nI 0) else some (nI 1)
def sh_X8_plusTimes (x0 : Int32) (x1 : Int32) (x2 : Int32) : Option (Int32) :=
  some (remI (x0 + (x1 * x2)) (nI 9973))
def sh_X0_makeHandleAndCross_s2 (th : Nat) (st : Int32 × WX) : Option ((Int32 × WX) ⊕ ((WX))) :=
  if (st.2.1 th 3) ≤ st.1 then some (Sum.inr st.2) else Option.bind (stX 6 (th + 6) st.1 (nI 0) st.2) (fun w2 => Option.bind (stX 6 (th + 7) st.1 (nI 0) w2) (fun w3 => letv (st.1 + nI 1) (fun v4 => some (Sum.inl (v4, w3)))))
def sh_X0_makeHandleAndCross_s42 (th : Nat) (x1 : Int32) (st : Int32 × WX) : Option ((Int32 × WX) ⊕ ((WX))) :=
  if (st.2.1 th 3) ≤ st.1 then some (Sum.inr st.2) else Option.bind (sh_X0_at th x1 st.1 st.2) (fun v2 => Option.bind (ldS 36 (th + 1) v2 st.2.1) (fun v3 => Option.bind (ldS 6 (th + 6) v3 st.2.1) (fun v4 => Option.bind (sh_X0_at th x1 st.1 st.2) (fun v5 => Option.bind (ldS 36 (th + 3) v5 st.2.1) (fun v6 => Option.bind (sh_X0_at th x1 st.1 st.2) (fun v7 => Option.bind (ldS 36 (th + 2) v7 st.2.1) (fun v8 => Option.bind (sh_X8_plusTimes v4 v6 v8) (fun v9 => Option.bind (stX 6 (th + 6) v3 v9 st.2) (fun w10 => letv (st.1 + nI 1) (fun v11 => some (Sum.inl (v11, w10))))))))))))
def sh_X0_makeHandleAndCross_s32 (th : Nat) (st : Int32 × WX) : Option ((Int32 × WX) ⊕ ((WX))) :=
  if (st.2.1 th 3) ≤ st.1 then some (Sum.inr st.2) else Option.bind (lpw (sh_X0_makeHandleAndCross_s42 th st.1) FU (nI 0, st.2)) (fun ex2 => Option.bind (sh_X0_at th st.1 st.1 ex2) (fun v3 => Option.bind (ldS 36 (th + 1) v3 ex2.1) (fun v4 => Option.bind (ldS 6 (th + 7) v4 ex2.1) (fun v5 => Option.bind (sh_X0_at th st.1 st.1 ex2) (fun v6 => Option.bind (ldS 36 (th + 2) v6 ex2.1) (fun v7 => Option.bind (sh_X8_plusTimes v5 (nI 1) v7) (fun v8 => Option.bind (stX 6 (th + 7) v4 v8 ex2) (fun w9 => letv (st.1 + nI 1) (fun v10 => some (Sum.inl (v10, w9)))))))))))
def sh_X0_makeHandleAndCross (th : Nat) (w : WX) : Option (WX) :=
  Option.bind (lpw (sh_X0_makeHandleAndCross_s2 th) FU (nI 0, w)) (fun ex1 => Option.bind (lpw (sh_X0_makeHandleAndCross_s32 th) FU (nI 0, ex1)) (fun ex2 => some ex2))
def sh_X0_formOf (th : Nat) (x1 : Int32) (x2 : Int32) (w : WX) : Option (Int32) :=
  Option.bind (sh_X0_at th x1 x2 w) (fun v1 => Option.bind (ldS 36 (th + 2) v1 w.1) (fun v2 => Option.bind (sh_X0_at th x1 x2 w) (fun v3 => Option.bind (ldS 36 (th + 1) v3 w.1) (fun v4 => Option.bind (ldS 6 (th + 4) v4 w.1) (fun v5 => Option.bind (sh_X8_plusTimes (nI 0) v2 v5) (fun v6 => some v6))))))
def sh_X8_inverse_j26 (x1 : Int32) (x2 : Int32) (x3 : Int32) : Option ((Int32 × Int32 × Int32) ⊕ ((Int32))) :=
  Option.bind (sh_X8_plusTimes (nI 0) x2 x2) (fun v1 => letv (x3 >>> ((nI 1) &&& 31)) (fun v2 => some (Sum.inl (x1, v1, v2))))
def sh_X8_inverse_s8  (st : Int32 × Int32 × Int32) : Option ((Int32 × Int32 × Int32) ⊕ ((Int32))) :=
  if st.2.2 ≤ 0 then some (Sum.inr st.1) else Option.bind (sh_X8_isOdd st.2.2) (fun v2 => if v2 = 0 then sh_X8_inverse_j26 st.1 st.2.1 st.2.2 else Option.bind (sh_X8_plusTimes (nI 0) st.1 st.2.1) (fun v4 => sh_X8_inverse_j26 v4 st.2.1 st.2.2))
def sh_X8_inverse (x0 : Int32) : Option (Int32) :=
  Option.bind (lpw (sh_X8_inverse_s8 ) FU (nI 1, x0, nI 9971)) (fun ex1 => some ex1)
def sh_X0_makeTurned_j49 (th : Nat) (x1 : Int32) (x2 : Int32) (s0 : Nat) (s1 : Int32) (s2 : Int32) (w : WX) : Option ((Int32 × WX) ⊕ ((WX))) :=
  Option.bind (stX 36 s0 s1 s2 w) (fun w1 => letv (x2 + nI 1) (fun v2 => some (Sum.inl (v2, w1))))
def sh_X0_makeTurned_s12 (th : Nat) (x1 : Int32) (st : Int32 × WX) : Option ((Int32 × WX) ⊕ ((WX))) :=
  if (st.2.1 th 3) ≤ st.1 then some (Sum.inr st.2) else Option.bind (sh_X0_formOf th st.1 x1 st.2) (fun v2 => Option.bind (sh_X0_at th x1 st.1 st.2) (fun v3 => if v2 = 0 then sh_X0_makeTurned_j49 th x1 st.1 (th + 3) v3 (nI 0) st.2 else Option.bind (sh_X8_inverse v2) (fun v5 => sh_X0_makeTurned_j49 th x1 st.1 (th + 3) v3 v5 st.2)))
def sh_X0_makeTurned_s2 (th : Nat) (st : Int32 × WX) : Option ((Int32 × WX) ⊕ ((WX))) :=
  if (st.2.1 th 3) ≤ st.1 then some (Sum.inr st.2) else Option.bind (lpw (sh_X0_makeTurned_s12 th st.1) FU (nI 0, st.2)) (fun ex2 => letv (st.1 + nI 1) (fun v3 => some (Sum.inl (v3, ex2))))
def sh_X0_makeTurned (th : Nat) (w : WX) : Option (WX) :=
  Option.bind (lpw (sh_X0_makeTurned_s2 th) FU (nI 0, w)) (fun ex1 => some ex1)
def sh_X0_targetByKind (th : Nat) (x1 : Int32) (x2 : Int32) (w : WX) : Option (Int32) :=
  if (w.1 th 0) = nI 0 then some x1 else if (w.1 th 0) = nI 1 then some x1 else if (w.1 th 0) = nI 2 then if (w.1 th 3) ≤ (x1 + x2) then some ((x1 + x2) - (w.1 th 3)) else some (x1 + x2) else if (w.1 th 0) = nI 3 then if (w.1 th 3) ≤ (x1 + x2) then some ((x1 + x2) - (w.1 th 3)) else some (x1 + x2) else if (w.1 th 0) = nI 4 then some (x1 ||| x2) else if (w.1 th 3) ≤ (x1 + x2) then some ((x1 + x2) - (w.1 th 3)) else some (x1 + x2)
def sh_X0_traceByKind (th : Nat) (x1 : Int32) (w : WX) : Option (Int32) :=
  if (w.1 th 0) = nI 0 then some (nI 1) else if (w.1 th 0) = nI 1 then some (((w.1 th 2) + x1) + (nI 1)) else if (w.1 th 0) = nI 2 then if x1 = 0 then some (nI 1) else some (nI 0) else if x1 = ((w.1 th 3) - (nI 1)) then some (nI 1) else some (nI 0)
def sh_X0_make_s91 (th : Nat) (x4 : Int32) (st : Int32 × WX) : Option ((Int32 × WX) ⊕ ((WX))) :=
  if (st.2.1 th 3) ≤ st.1 then some (Sum.inr st.2) else Option.bind (sh_X0_at th x4 st.1 st.2) (fun v2 => Option.bind (sh_X0_targetByKind th x4 st.1 st.2) (fun v3 => Option.bind (stX 36 (th + 1) v2 v3 st.2) (fun w4 => Option.bind (sh_X0_at th x4 st.1 w4) (fun v5 => Option.bind (sh_X0_factorByKind th x4 st.1 w4) (fun v6 => Option.bind (stX 36 (th + 2) v5 v6 w4) (fun w7 => letv (st.1 + nI 1) (fun v8 => some (Sum.inl (v8, w7)))))))))
def sh_X0_make_j87 (th : Nat) (x4 : Int32) (s0 : Nat) (s1 : Int32) (s2 : Int32) (w : WX) : Option ((Int32 × WX) ⊕ ((WX))) :=
  Option.bind (stX 6 s0 s1 s2 w) (fun w1 => Option.bind (lpw (sh_X0_make_s91 th x4) FU (nI 0, w1)) (fun ex2 => letv (x4 + nI 1) (fun v3 => some (Sum.inl (v3, ex2)))))
def sh_X0_make_j82 (th : Nat) (x4 : Int32) (s0 : Nat) (s1 : Int32) (w : WX) : Option ((Int32 × WX) ⊕ ((WX))) :=
  sh_X0_make_j87 th x4 s0 s1 (nI 1) w
def sh_X0_make_s34 (th : Nat) (st : Int32 × WX) : Option ((Int32 × WX) ⊕ ((WX))) :=
  if (st.2.1 th 3) ≤ st.1 then some (Sum.inr st.2) else Option.bind (sh_X0_traceByKind th st.1 st.2) (fun v2 => Option.bind (stX 6 (th + 4) st.1 v2 st.2) (fun w3 => if st.1 = 0 then sh_X0_make_j82 th st.1 (th + 5) st.1 w3 else if (w3.1 th 0) = 0 then sh_X0_make_j82 th st.1 (th + 5) st.1 w3 else if (w3.1 th 0) = (nI 1) then sh_X0_make_j82 th st.1 (th + 5) st.1 w3 else sh_X0_make_j87 th st.1 (th + 5) st.1 (nI 0) w3))
def sh_X0_make_j28 (th : Nat) (s0 : Nat) (s1 : Int32) (w : WX) : Option (WX) :=
  letv (pX s0 3 s1 w) (fun w1 => Option.bind (lpw (sh_X0_make_s34 th) FU (nI 0, w1)) (fun ex2 => Option.bind (sh_X0_makeTurned th ex2) (fun w3 => Option.bind (sh_X0_makeHandleAndCross th w3) (fun w4 => some w4))))
def sh_X0_make (th : Nat) (x1 : Int32) (x2 : Int32) (x3 : Int32) (w : WX) : Option (WX) :=
  letv (pX th 0 x1 w) (fun w1 => letv (pX th 1 x2 w1) (fun w2 => letv (pX th 2 x3 w2) (fun w3 => if x1 = (nI 4) then sh_X0_make_j28 th th ((nI 1) <<< (x2 &&& 31)) w3 else sh_X0_make_j28 th th x2 w3)))
def sh_X0_has (th : Nat) (x1 : Int32) (w : WX) : Option (Int32) :=
  if x1 < 0 then some (nI 0) else if (w.1 th 3) ≤ x1 then some (nI 0) else some (nI 1)
def sh_X0_timesInProduct (th : Nat) (x1 : Int32) (x2 : Int32) (x3 : Int32) (w : WX) : Option (Int32) :=
  Option.bind (sh_X0_at th x1 x2 w) (fun v1 => Option.bind (ldS 36 (th + 1) v1 w.1) (fun v2 => if v2 = x3 then Option.bind (sh_X0_at th x1 x2 w) (fun v4 => Option.bind (ldS 36 (th + 2) v4 w.1) (fun v5 => some v5)) else some (nI 0)))
def sh_X0_turnedOf (th : Nat) (x1 : Int32) (x2 : Int32) (w : WX) : Option (Int32) :=
  Option.bind (sh_X0_at th x1 x2 w) (fun v1 => Option.bind (ldS 36 (th + 3) v1 w.1) (fun v2 => some v2))
def sh_X0_timesInSplit_s6 (th : Nat) (x1 : Int32) (x2 : Int32) (x3 : Int32) (w : WX) (st : Int32 × Int32) : Option ((Int32 × Int32) ⊕ ((Int32))) :=
  if (w.1 th 3) ≤ st.2 then some (Sum.inr st.1) else Option.bind (sh_X0_at th x1 st.2 w) (fun v2 => Option.bind (ldS 36 (th + 1) v2 w.1) (fun v3 => if v3 = x2 then Option.bind (sh_X0_at th st.2 x3 w) (fun v6 => Option.bind (ldS 36 (th + 3) v6 w.1) (fun v7 => Option.bind (sh_X0_at th x1 st.2 w) (fun v8 => Option.bind (ldS 36 (th + 2) v8 w.1) (fun v9 => Option.bind (sh_X8_plusTimes st.1 v7 v9) (fun v10 => letv (st.2 + nI 1) (fun v11 => some (Sum.inl (v10, v11)))))))) else letv (st.2 + nI 1) (fun v5 => some (Sum.inl (st.1, v5)))))
def sh_X0_timesInSplit (th : Nat) (x1 : Int32) (x2 : Int32) (x3 : Int32) (w : WX) : Option (Int32) :=
  Option.bind (lpw (sh_X0_timesInSplit_s6 th x1 x2 x3 w) FU (nI 0, nI 0)) (fun ex1 => some ex1)
def sh_X0_multiplyStanding_s2 (th : Nat) (x1 : Nat) (st : Int32 × WX) : Option ((Int32 × WX) ⊕ ((WX))) :=
  if (st.2.1 th 3) ≤ st.1 then some (Sum.inr st.2) else Option.bind (stDX (st.2.2 th 12) st.1 (nI 0) st.2) (fun w2 => letv (st.1 + nI 1) (fun v3 => some (Sum.inl (v3, w2))))
def sh_X0_multiplyStanding_s35 (th : Nat) (x1 : Nat) (x2 : Int32) (st : Int32 × WX) : Option ((Int32 × WX) ⊕ ((WX))) :=
  if (st.2.1 th 3) ≤ st.1 then some (Sum.inr st.2) else Option.bind (sh_X0_at th x2 st.1 st.2) (fun v2 => Option.bind (ldS 36 (th + 1) v2 st.2.1) (fun v3 => Option.bind (ldD KDx (st.2.2 th 11) x2 st.2.1) (fun v4 => Option.bind (ldD KDx x1 st.1 st.2.1) (fun v5 => Option.bind (sh_X8_plusTimes (nI 0) v4 v5) (fun v6 => Option.bind (ldD KDx (st.2.2 th 12) v3 st.2.1) (fun v7 => Option.bind (sh_X0_at th x2 st.1 st.2) (fun v8 => Option.bind (ldS 36 (th + 2) v8 st.2.1) (fun v9 => Option.bind (sh_X8_plusTimes v7 v6 v9) (fun v10 => Option.bind (stDX (st.2.2 th 12) v3 v10 st.2) (fun w11 => letv (st.1 + nI 1) (fun v12 => some (Sum.inl (v12, w11)))))))))))))
def sh_X0_multiplyStanding_s25 (th : Nat) (x1 : Nat) (st : Int32 × WX) : Option ((Int32 × WX) ⊕ ((WX))) :=
  if (st.2.1 th 3) ≤ st.1 then some (Sum.inr st.2) else Option.bind (lpw (sh_X0_multiplyStanding_s35 th x1 st.1) FU (nI 0, st.2)) (fun ex2 => letv (st.1 + nI 1) (fun v3 => some (Sum.inl (v3, ex2))))
def sh_X0_multiplyStanding (th : Nat) (x1 : Nat) (w : WX) : Option (WX) :=
  Option.bind (lpw (sh_X0_multiplyStanding_s2 th x1) FU (nI 0, w)) (fun ex1 => Option.bind (lpw (sh_X0_multiplyStanding_s25 th x1) FU (nI 0, ex1)) (fun ex2 => letv (pXr th 11 (ex2.2 th 12) ex2) (fun w3 => letv (pXr th 12 (ex2.2 th 11) w3) (fun w4 => some w4))))
def sh_X0_closedBy_s2 (th : Nat) (x1 : Int32) (x2 : Int32) (st : Int32 × WX) : Option ((Int32 × WX) ⊕ ((WX))) :=
  if (st.2.1 th 3) ≤ st.1 then some (Sum.inr st.2) else Option.bind (ldS 6 (th + 5) st.1 st.2.1) (fun v2 => Option.bind (stDX (st.2.2 th 11) st.1 v2 st.2) (fun w3 => letv (st.1 + nI 1) (fun v4 => some (Sum.inl (v4, w3)))))
def sh_X0_closedBy_s30 (th : Nat) (x1 : Int32) (x2 : Int32) (st : Int32 × WX) : Option ((Int32 × WX) ⊕ ((WX))) :=
  if x1 ≤ st.1 then some (Sum.inr st.2) else Option.bind (sh_X0_multiplyStanding th (th + 6) st.2) (fun w2 => letv (st.1 + nI 1) (fun v3 => some (Sum.inl (v3, w2))))
def sh_X0_closedBy_s51 (th : Nat) (x2 : Int32) (st : Int32 × WX) : Option ((Int32 × WX) ⊕ ((WX))) :=
  if x2 ≤ st.1 then some (Sum.inr st.2) else Option.bind (sh_X0_multiplyStanding th (th + 7) st.2) (fun w2 => letv (st.1 + nI 1) (fun v3 => some (Sum.inl (v3, w2))))
def sh_X0_closedBy_s75 (th : Nat) (w : WX) (st : Int32 × Int32) : Option ((Int32 × Int32) ⊕ ((Int32))) :=
  if (w.1 th 3) ≤ st.2 then some (Sum.inr st.1) else Option.bind (ldD KDx (w.2 th 11) st.2 w.1) (fun v2 => Option.bind (ldS 6 (th + 4) st.2 w.1) (fun v3 => Option.bind (sh_X8_plusTimes st.1 v2 v3) (fun v4 => letv (st.2 + nI 1) (fun v5 => some (Sum.inl (v4, v5))))))
def sh_X0_closedBy (th : Nat) (x1 : Int32) (x2 : Int32) (w : WX) : Option (Int32 × WX) :=
  Option.bind (lpw (sh_X0_closedBy_s2 th x1 x2) FU (nI 0, w)) (fun ex1 => Option.bind (lpw (sh_X0_closedBy_s30 th x1 x2) FU (nI 0, ex1)) (fun ex2 => Option.bind (lpw (sh_X0_closedBy_s51 th x2) FU (nI 0, ex2)) (fun ex3 => Option.bind (lpw (sh_X0_closedBy_s75 th ex3) FU (nI 0, nI 0)) (fun ex4 => some (ex4, ex3)))))
def sh_X0_turnsSign (th : Nat) (x1 : Int32) (x2 : Int32) (w : WX) : Option (Int32) :=
  if (w.1 th 0) = (nI 4) then Option.bind (sh_J6_bitCount_0f7a4 x1) (fun v2 => Option.bind (sh_X8_isOdd v2) (fun v3 => if v3 = 0 then some (nI 0) else Option.bind (sh_J6_bitCount_0f7a4 x2) (fun v5 => Option.bind (sh_X8_isOdd v5) (fun v6 => if v6 = 0 then some (nI 0) else some (nI 1))))) else some (nI 0)
def sh_X1_hasNumber (x1 : Int32) : Option (Int32) :=
  if x1 < 0 then some (nI 0) else if (nI 4) ≤ x1 then some (nI 0) else some (nI 1)
def sh_X1_isHeld (x1 : Int32) (w : WX) : Option (Int32) :=
  Option.bind (sh_X1_hasNumber x1) (fun v1 => if v1 = 0 then some (nI 0) else Option.bind (ldS 4 117 x1 w.1) (fun v3 => if v3 < 0 then some (nI 0) else some (nI 1)))
def sh_X1_hasPlace (x1 : Int32) (x2 : Int32) (w : WX) : Option (Int32) :=
  Option.bind (sh_X1_isHeld x1 w) (fun v1 => if v1 = 0 then some (nI 0) else if x2 < 0 then some (nI 0) else Option.bind (ldS 4 117 x1 w.1) (fun v4 => if v4 ≤ x2 then some (nI 0) else some (nI 1)))
def sh_X1_hold_s28 (x1 : Int32) (x2 : Int32) (st : Int32 × WX) : Option ((Int32 × WX) ⊕ ((WX))) :=
  if x2 ≤ st.1 then some (Sum.inr st.2) else grd (inb x1 4 = true) (grd (KDx (112 + 1 + 1 * x1.toNatClampNeg) = (10, 12)) (Option.bind (stX 12 (112 + 1 + 1 * x1.toNatClampNeg) st.1 (nI 0) st.2) (fun w4 => letv (st.1 + nI 1) (fun v5 => some (Sum.inl (v5, w4))))))
def sh_X1_hold (x1 : Int32) (x2 : Int32) (w : WX) : Option (WX) :=
  Option.bind (sh_X1_hasNumber x1) (fun v1 => if v1 = 0 then some w else if x2 < 0 then some w else if x2 ≤ (nI 12) then Option.bind (stX 4 117 x1 x2 w) (fun w5 => Option.bind (lpw (sh_X1_hold_s28 x1 x2) FU (nI 0, w5)) (fun ex6 => some ex6)) else some w)
def sh_X2_renumber_s2 (th : Nat) (x1 : Int32) (x2 : Int32) (st : Int32 × WX) : Option ((Int32 × WX) ⊕ ((WX))) :=
  if (st.2.1 th 1) ≤ st.1 then some (Sum.inr st.2) else Option.bind (ldS 3 (th + 4) st.1 st.2.1) (fun v2 => if v2 = x1 then Option.bind (stX 3 (th + 4) st.1 x2 st.2) (fun w5 => letv (st.1 + nI 1) (fun v6 => some (Sum.inl (v6, w5)))) else letv (st.1 + nI 1) (fun v4 => some (Sum.inl (v4, st.2))))
def sh_X2_renumber (th : Nat) (x1 : Int32) (x2 : Int32) (w : WX) : Option (WX) :=
  Option.bind (lpw (sh_X2_renumber_s2 th x1 x2) FU (nI 0, w)) (fun ex1 => some ex1)
def sh_X2_leaveOutGone_s4 (th : Nat) (st : Int32 × Int32 × WX) : Option ((Int32 × Int32 × WX) ⊕ ((Int32 × WX))) :=
  if (st.2.2.1 th 0) ≤ st.2.1 then some (Sum.inr (st.1, st.2.2)) else Option.bind (ldS 24 (th + 5) st.2.1 st.2.2.1) (fun v2 => if v2 = 0 then Option.bind (ldS 24 (th + 1) st.2.1 st.2.2.1) (fun v5 => Option.bind (stX 24 (th + 1) st.1 v5 st.2.2) (fun w6 => Option.bind (ldS 24 (th + 3) st.2.1 w6.1) (fun v7 => grd (v7 = nI 0 ∨ v7 = nI 1) (Option.bind (stX 24 (th + 3) st.1 v7 w6) (fun w8 => Option.bind (sh_X2_renumber th st.2.1 st.1 w8) (fun w10 => letv (st.1 + nI 1) (fun v11 => letv (st.2.1 + nI 1) (fun v12 => some (Sum.inl (v11, v12, w10)))))))))) else letv (st.2.1 + nI 1) (fun v4 => some (Sum.inl (st.1, v4, st.2.2))))
def sh_X2_leaveOutGone (th : Nat) (w : WX) : Option (WX) :=
  Option.bind (lpw (sh_X2_leaveOutGone_s4 th) FU (nI 0, nI 0, w)) (fun ex1 => letv (pX th 0 ex1.1 ex1.2) (fun w2 => some w2))
def sh_X2_begin (th : Nat) (w : WX) : Option (WX) :=
  if (w.1 th 0) < (nI 24) then Option.bind (stX 24 (th + 1) (w.1 th 0) (nI 0) w) (fun w2 => Option.bind (stX 24 (th + 3) (w2.1 th 0) (nI 0) w2) (fun w3 => Option.bind (stX 24 (th + 5) (w3.1 th 0) (nI 0) w3) (fun w4 => Option.bind (stX 3 (th + 4) (w4.1 th 1) (w4.1 th 0) w4) (fun w5 => letv (pX th 0 ((w5.1 th 0) + (nI 1)) w5) (fun w6 => some w6))))) else some w
def sh_X2_exchangeLast (th : Nat) (w : WX) : Option (WX) :=
  Option.bind (ldS 3 (th + 4) ((w.1 th 1) - (nI 1)) w.1) (fun v1 => Option.bind (ldS 3 (th + 4) ((w.1 th 1) - (nI 2)) w.1) (fun v2 => Option.bind (stX 3 (th + 4) ((w.1 th 1) - (nI 1)) v2 w) (fun w3 => Option.bind (stX 3 (th + 4) ((w3.1 th 1) - (nI 2)) v1 w3) (fun w4 => some w4))))
def sh_X2_join_j64 (th : Nat) (x3 : Int32) (x4 : Int32) (s0 : Nat) (s1 : Int32) (s2 : Int32) (w : WX) : Option (WX) :=
  grd (s2 = nI 0 ∨ s2 = nI 1) (Option.bind (stX 24 s0 s1 s2 w) (fun w1 => Option.bind (stX 24 (th + 5) x4 (nI 1) w1) (fun w3 => Option.bind (sh_X2_renumber th x4 x3 w3) (fun w4 => some w4))))
def sh_X2_join_j59 (th : Nat) (x3 : Int32) (x4 : Int32) (s0 : Nat) (s1 : Int32) (w : WX) : Option (WX) :=
  sh_X2_join_j64 th x3 x4 s0 s1 (nI 1) w
def sh_X2_join (th : Nat) (x1 : Int32) (x2 : Int32) (w : WX) : Option (WX) :=
  if x1 = x2 then some w else letv (mnI x1 x2) (fun v2 => letv (mxI x1 x2) (fun v3 => Option.bind (ldS 24 (th + 1) v2 w.1) (fun v4 => Option.bind (ldS 24 (th + 1) v3 w.1) (fun v5 => Option.bind (stX 24 (th + 1) v2 (v4 + v5) w) (fun w6 => Option.bind (ldS 24 (th + 3) v2 w6.1) (fun v7 => if v7 = 0 then Option.bind (ldS 24 (th + 3) v3 w6.1) (fun v9 => if v9 = 0 then sh_X2_join_j64 th v2 v3 (th + 3) v2 (nI 0) w6 else sh_X2_join_j59 th v2 v3 (th + 3) v2 w6) else sh_X2_join_j59 th v2 v3 (th + 3) v2 w6))))))
def sh_X8_canStand (x0 : Int32) (x1 : Int32) : Option (Int32) :=
  if x0 < 0 then some (nI 0) else if x0 < (nI 7) then Option.bind (tbl7 sNEEDS x0) (fun v3 => if x1 < v3 then some (nI 0) else Option.bind (tbl7 sADDS x0) (fun v5 => if (nI 3) < (x1 + v5) then some (nI 0) else some (nI 1))) else some (nI 0)
def sh_X2_step_j142 (th : Nat) (x1 : Int32) (w : WX) : Option (WX) :=
  Option.bind (tbl7 sADDS x1) (fun v1 => letv ((mxI (w.1 th 1) ((w.1 th 1) + v1)) - (nI 1)) (fun v2 => Option.bind (ldS 3 (th + 4) v2 w.1) (fun v3 => Option.bind (ldS 24 (th + 1) v3 w.1) (fun v4 => Option.bind (tbl7 sEULER x1) (fun v5 => Option.bind (stX 24 (th + 1) v3 (v4 + v5) w) (fun w6 => Option.bind (tbl7 sADDS x1) (fun v7 => letv (pX th 1 ((w6.1 th 1) + v7) w6) (fun w8 => some w8))))))))
def sh_X2_step (th : Nat) (x1 : Int32) (w : WX) : Option (WX) :=
  Option.bind (sh_X8_canStand x1 (w.1 th 1)) (fun v1 => if v1 = 0 then some w else if x1 = nI 0 then Option.bind (sh_X2_begin th w) (fun w4 => sh_X2_step_j142 th x1 w4) else if x1 = nI 1 then Option.bind (ldS 3 (th + 4) ((w.1 th 1) - (nI 2)) w.1) (fun v6 => Option.bind (ldS 3 (th + 4) ((w.1 th 1) - (nI 1)) w.1) (fun v7 => Option.bind (sh_X2_join th v6 v7 w) (fun w8 => sh_X2_step_j142 th x1 w8))) else if x1 = nI 2 then Option.bind (ldS 3 (th + 4) ((w.1 th 1) - (nI 1)) w.1) (fun v10 => Option.bind (stX 3 (th + 4) (w.1 th 1) v10 w) (fun w11 => sh_X2_step_j142 th x1 w11)) else if x1 = nI 3 then sh_X2_step_j142 th x1 w else if x1 = nI 4 then Option.bind (sh_X2_exchangeLast th w) (fun w14 => sh_X2_step_j142 th x1 w14) else if x1 = nI 5 then sh_X2_step_j142 th x1 w else if x1 = nI 6 then Option.bind (ldS 3 (th + 4) ((w.1 th 1) - (nI 1)) w.1) (fun v17 => Option.bind (stX 24 (th + 3) v17 (nI 1) w) (fun w18 => sh_X2_step_j142 th x1 w18)) else sh_X2_step_j142 th x1 w)
def sh_X2_find_s12 (th : Nat) (x1 : Nat) (st : Int32 × WX) : Option ((Int32 × WX) ⊕ ((WX))) :=
  if (st.2.1 x1 1) ≤ st.1 then some (Sum.inr st.2) else Option.bind (ldS 24 (x1 + 1) st.1 st.2.1) (fun v2 => Option.bind (sh_X2_step th v2 st.2) (fun w3 => letv (st.1 + nI 1) (fun v4 => some (Sum.inl (v4, w3)))))
def sh_X2_find_s42 (th : Nat) (st : Int32 × WX) : Option ((Int32 × WX) ⊕ ((WX))) :=
  if (st.2.1 th 0) ≤ st.1 then some (Sum.inr st.2) else Option.bind (stX 24 (th + 2) st.1 (nI 0) st.2) (fun w2 => letv (st.1 + nI 1) (fun v3 => some (Sum.inl (v3, w2))))
def sh_X2_find_s65 (th : Nat) (st : Int32 × WX) : Option ((Int32 × WX) ⊕ ((WX))) :=
  if (st.2.1 th 1) ≤ st.1 then some (Sum.inr st.2) else Option.bind (ldS 3 (th + 4) st.1 st.2.1) (fun v2 => Option.bind (ldS 24 (th + 2) v2 st.2.1) (fun v3 => Option.bind (stX 24 (th + 2) v2 (v3 + (nI 1)) st.2) (fun w4 => letv (st.1 + nI 1) (fun v5 => some (Sum.inl (v5, w4))))))
def sh_X2_find (th : Nat) (x1 : Nat) (w : WX) : Option (WX) :=
  letv (pX th 0 (nI 0) w) (fun w1 => letv (pX th 1 (nI 0) w1) (fun w2 => Option.bind (lpw (sh_X2_find_s12 th x1) FU (nI 0, w2)) (fun ex3 => Option.bind (sh_X2_leaveOutGone th ex3) (fun w4 => Option.bind (lpw (sh_X2_find_s42 th) FU (nI 0, w4)) (fun ex5 => Option.bind (lpw (sh_X2_find_s65 th) FU (nI 0, ex5)) (fun ex6 => some ex6))))))
def sh_X2_genus (th : Nat) (x1 : Int32) (w : WX) : Option (Int32) :=
  Option.bind (ldS 24 (th + 1) x1 w.1) (fun v1 => Option.bind (ldS 24 (th + 2) x1 w.1) (fun v2 => letv (((nI 2) - v1) - v2) (fun v3 => Option.bind (ldS 24 (th + 3) x1 w.1) (fun v4 => if v4 = 0 then some (v3 / (nI 2)) else some v3))))
def sh_X2_withoutRims_s4 (th : Nat) (w : WX) (st : Int32 × Int32) : Option ((Int32 × Int32) ⊕ ((Int32))) :=
  if (w.1 th 0) ≤ st.2 then some (Sum.inr st.1) else Option.bind (ldS 24 (th + 2) st.2 w.1) (fun v2 => if v2 = 0 then letv (st.1 + (nI 1)) (fun v6 => letv (st.2 + nI 1) (fun v7 => some (Sum.inl (v6, v7)))) else letv (st.1 + (nI 0)) (fun v4 => letv (st.2 + nI 1) (fun v5 => some (Sum.inl (v4, v5)))))
def sh_X2_withoutRims (th : Nat) (w : WX) : Option (Int32) :=
  Option.bind (lpw (sh_X2_withoutRims_s4 th w) FU (nI 0, nI 0)) (fun ex1 => some ex1)
def sh_X2_eulerOfAll_s4 (th : Nat) (w : WX) (st : Int32 × Int32) : Option ((Int32 × Int32) ⊕ ((Int32))) :=
  if (w.1 th 0) ≤ st.2 then some (Sum.inr st.1) else Option.bind (ldS 24 (th + 1) st.2 w.1) (fun v2 => letv (st.1 + v2) (fun v3 => letv (st.2 + nI 1) (fun v4 => some (Sum.inl (v3, v4)))))
def sh_X2_eulerOfAll (th : Nat) (w : WX) : Option (Int32) :=
  Option.bind (lpw (sh_X2_eulerOfAll_s4 th w) FU (nI 0, nI 0)) (fun ex1 => some ex1)
def sh_X2_areAlike (th : Nat) (x1 : Int32) (x2 : Nat) (x3 : Int32) (w : WX) : Option (Int32) :=
  Option.bind (ldS 24 (th + 2) x1 w.1) (fun v1 => Option.bind (ldS 24 (x2 + 2) x3 w.1) (fun v2 => if v1 = v2 then Option.bind (ldS 24 (th + 1) x1 w.1) (fun v4 => Option.bind (ldS 24 (x2 + 1) x3 w.1) (fun v5 => if v4 = v5 then Option.bind (ldS 24 (th + 3) x1 w.1) (fun v7 => Option.bind (ldS 24 (x2 + 3) x3 w.1) (fun v8 => if v7 = v8 then some (nI 1) else some (nI 0))) else some (nI 0))) else some (nI 0)))
def sh_X2_hasAlikeBefore_s2 (th : Nat) (x1 : Int32) (w : WX) (st : Int32) : Option ((Int32) ⊕ ((Unit) ⊕ (Unit))) :=
  if x1 ≤ st then some (Sum.inr (Sum.inr ())) else Option.bind (sh_X2_areAlike th x1 th st w) (fun v2 => if v2 = 0 then letv (st + nI 1) (fun v4 => some (Sum.inl v4)) else some (Sum.inr (Sum.inl ())))
def sh_X2_hasAlikeBefore (th : Nat) (x1 : Int32) (w : WX) : Option (Int32) :=
  Option.bind (lpw (sh_X2_hasAlikeBefore_s2 th x1 w) FU (nI 0)) (Sum.elim (fun y2 => some (nI 1)) (fun y3 => some (nI 0)))
def sh_X2_unlike_s4 (th : Nat) (w : WX) (st : Int32 × Int32) : Option ((Int32 × Int32) ⊕ ((Int32))) :=
  if (w.1 th 0) ≤ st.2 then some (Sum.inr st.1) else Option.bind (sh_X2_hasAlikeBefore th st.2 w) (fun v2 => if v2 = 0 then letv (st.1 + (nI 1)) (fun v4 => letv (st.2 + nI 1) (fun v5 => some (Sum.inl (v4, v5)))) else letv (st.1 + (nI 0)) (fun v6 => letv (st.2 + nI 1) (fun v7 => some (Sum.inl (v6, v7)))))
def sh_X2_unlike (th : Nat) (w : WX) : Option (Int32) :=
  Option.bind (lpw (sh_X2_unlike_s4 th w) FU (nI 0, nI 0)) (fun ex1 => some ex1)
def sh_X2_matched_s4 (th : Nat) (x1 : Nat) (x2 : Int32) (st : Int32 × WX) : Option ((Int32 × WX) ⊕ ((WX))) :=
  if (st.2.1 x1 0) ≤ st.1 then some (Sum.inr st.2) else Option.bind (stX 24 (th + 6) st.1 (nI 0) st.2) (fun w2 => letv (st.1 + nI 1) (fun v3 => some (Sum.inl (v3, w2))))
def sh_X2_matched_s38 (th : Nat) (x1 : Nat) (x2 : Int32) (x3 : Int32) (w : WX) (st : Int32) : Option ((Int32) ⊕ ((Int32))) :=
  if (w.1 x1 0) ≤ st then some (Sum.inr st) else Option.bind (ldS 24 (th + 6) st w.1) (fun v2 => if v2 = 0 then Option.bind (sh_X2_areAlike th x3 x1 st w) (fun v5 => if v5 = 0 then letv (st + nI 1) (fun v7 => some (Sum.inl v7)) else some (Sum.inr st)) else letv (st + nI 1) (fun v4 => some (Sum.inl v4)))
def sh_X2_matched_j74 (th : Nat) (x1 : Nat) (x2 : Int32) (x3 : Int32) (x4 : Int32) (w : WX) : Option ((Int32 × Int32 × WX) ⊕ ((Int32 × WX))) :=
  if (w.1 x1 0) ≤ x4 then letv (x3 + nI 1) (fun v2 => some (Sum.inl (x2, v2, w))) else Option.bind (stX 24 (th + 6) x4 (nI 1) w) (fun w3 => letv (x2 + nI 1) (fun v4 => letv (x3 + nI 1) (fun v5 => some (Sum.inl (v4, v5, w3)))))
def sh_X2_matched_s27 (th : Nat) (x1 : Nat) (st : Int32 × Int32 × WX) : Option ((Int32 × Int32 × WX) ⊕ ((Int32 × WX))) :=
  if (st.2.2.1 th 0) ≤ st.2.1 then some (Sum.inr (st.1, st.2.2)) else Option.bind (lpw (sh_X2_matched_s38 th x1 st.1 st.2.1 st.2.2) FU (nI 0)) (fun ex2 => sh_X2_matched_j74 th x1 st.1 st.2.1 ex2 st.2.2)
def sh_X2_matched (th : Nat) (x1 : Nat) (w : WX) : Option (Int32 × WX) :=
  Option.bind (lpw (sh_X2_matched_s4 th x1 (nI 0)) FU (nI 0, w)) (fun ex1 => Option.bind (lpw (sh_X2_matched_s27 th x1) FU (nI 0, nI 0, ex1)) (fun ex2 => some (ex2.1, ex2.2)))
def sh_X3_canTell (x0 : Int32) (x1 : Int32) : Option (Int32) :=
  if x0 = nI 0 then if x1 < 0 then some (nI 0) else if (nI 7) ≤ x1 then some (nI 0) else some (nI 1) else if x0 = nI 1 then if x1 < (nI 1) then some (nI 0) else if (nI 9) < x1 then some (nI 0) else some (nI 1) else if x0 = nI 2 then if x1 < 0 then some (nI 0) else if (nI 4) ≤ x1 then some (nI 0) else some (nI 1) else some (nI 0)
def sh_X3_append (th : Nat) (x1 : Int32) (x2 : Int32) (w : WX) : Option (WX) :=
  if (w.1 th 2) < (nI 8) then Option.bind (stX 8 (th + 1) (w.1 th 2) x1 w) (fun w2 => Option.bind (stX 8 (th + 2) (w2.1 th 2) x2 w2) (fun w3 => letv (pX th 2 ((w3.1 th 2) + (nI 1)) w3) (fun w4 => some w4))) else some w
def sh_X3_copyFrom (th : Nat) (x1 : Nat) (w : WX) : Option (WX) :=
  letv (pX th 2 (w.1 x1 2) w) (fun w1 => Option.bind (cpX 8 8 (x1 + 1) (nI 0) (th + 1) (nI 0) (nI 8) w1) (fun w2 => Option.bind (cpX 8 8 (x1 + 2) (nI 0) (th + 2) (nI 0) (nI 8) w2) (fun w3 => some w3)))
def sh_X4_algebraAt (th : Nat) (x1 : Int32) (w : WX) : Option (Nat) :=
  if x1 < 0 then some 999 else if x1 < (w.1 th 1) then grd (inb x1 4 = true) (grd (KDx ((th + 1) + 5 + 10 * x1.toNatClampNeg) = (0, 13)) (some ((th + 1) + 5 + 10 * x1.toNatClampNeg))) else some 999
def sh_X4_surfaceAt (th : Nat) (x1 : Int32) (w : WX) : Option (Nat) :=
  if x1 < 0 then some 999 else if x1 < (nI 4) then grd (inb x1 4 = true) (grd (KDx ((th + 2) + 44 + 2 * x1.toNatClampNeg) = (6, 3)) (some ((th + 2) + 44 + 2 * x1.toNatClampNeg))) else some 999
def sh_X6_copyFrom (th : Nat) (x1 : Nat) (w : WX) : Option (WX) :=
  letv (pX th 1 (w.1 x1 1) w) (fun w1 => letv (pX th 2 (w1.1 x1 2) w1) (fun w2 => Option.bind (cpX 24 24 (x1 + 1) (nI 0) (th + 1) (nI 0) (nI 24) w2) (fun w3 => some w3)))
def sh_X4_copyFrom_s10 (th : Nat) (x1 : Nat) (st : Int32 × WX) : Option ((Int32 × WX) ⊕ ((WX))) :=
  if (st.2.1 th 1) ≤ st.1 then some (Sum.inr st.2) else grd (inb st.1 4 = true) (grd (KDx ((x1 + 1) + 5 + 10 * st.1.toNatClampNeg) = (0, 13)) (grd (inb st.1 4 = true) (grd (KDx ((th + 1) + 5 + 10 * st.1.toNatClampNeg) = (0, 13)) (Option.bind (sh_X0_make ((th + 1) + 5 + 10 * st.1.toNatClampNeg) (st.2.1 ((x1 + 1) + 5 + 10 * st.1.toNatClampNeg) 0) (st.2.1 ((x1 + 1) + 5 + 10 * st.1.toNatClampNeg) 1) (st.2.1 ((x1 + 1) + 5 + 10 * st.1.toNatClampNeg) 2) st.2) (fun w6 => letv (st.1 + nI 1) (fun v7 => some (Sum.inl (v7, w6))))))))
def sh_X4_copyFrom_s54 (th : Nat) (x1 : Nat) (st : Int32 × WX) : Option ((Int32 × WX) ⊕ ((WX))) :=
  if (nI 4) ≤ st.1 then some (Sum.inr st.2) else grd (inb st.1 4 = true) (grd (KDx ((th + 2) + 44 + 2 * st.1.toNatClampNeg) = (6, 3)) (grd (inb st.1 4 = true) (grd (KDx ((x1 + 2) + 44 + 2 * st.1.toNatClampNeg) = (6, 3)) (Option.bind (sh_X6_copyFrom ((th + 2) + 44 + 2 * st.1.toNatClampNeg) ((x1 + 2) + 44 + 2 * st.1.toNatClampNeg) st.2) (fun w6 => letv (st.1 + nI 1) (fun v7 => some (Sum.inl (v7, w6))))))))
def sh_X4_copyFrom (th : Nat) (x1 : Nat) (w : WX) : Option (WX) :=
  letv (pX th 1 (w.1 x1 1) w) (fun w1 => Option.bind (lpw (sh_X4_copyFrom_s10 th x1) FU (nI 0, w1)) (fun ex2 => Option.bind (lpw (sh_X4_copyFrom_s54 th x1) FU (nI 0, ex2)) (fun ex3 => Option.bind (sh_X3_copyFrom (th + 3) (x1 + 3) ex3) (fun w4 => some w4))))
def sh_X6_append (th : Nat) (x1 : Int32) (w : WX) : Option (Int32 × WX) :=
  if (nI 24) ≤ (w.1 th 1) then some (nI 0, w) else Option.bind (sh_X8_canStand x1 (w.1 th 2)) (fun v2 => if v2 = 0 then some (nI 0, w) else Option.bind (stX 24 (th + 1) (w.1 th 1) x1 w) (fun w4 => letv (pX th 1 ((w4.1 th 1) + (nI 1)) w4) (fun w5 => Option.bind (tbl7 sADDS x1) (fun v6 => letv (pX th 2 ((w5.1 th 2) + v6) w5) (fun w7 => some (nI 1, w7))))))
def sh_X6_mostCirclesEver_s6 (th : Nat) (w : WX) (st : Int32 × Int32 × Int32) : Option ((Int32 × Int32 × Int32) ⊕ ((Int32))) :=
  if (w.1 th 1) ≤ st.2.2 then some (Sum.inr st.1) else Option.bind (ldS 24 (th + 1) st.2.2 w.1) (fun v2 => Option.bind (tbl7 sADDS v2) (fun v3 => letv (st.2.1 + v3) (fun v4 => letv (mxI st.1 v4) (fun v5 => letv (st.2.2 + nI 1) (fun v6 => some (Sum.inl (v5, v4, v6)))))))
def sh_X6_mostCirclesEver (th : Nat) (w : WX) : Option (Int32) :=
  Option.bind (lpw (sh_X6_mostCirclesEver_s6 th w) FU (nI 0, nI 0, nI 0)) (fun ex1 => some ex1)
def sh_X6_glueFault (th : Nat) (x1 : Nat) (w : WX) : Option (Int32) :=
  Option.bind (sh_X6_mostCirclesEver x1 w) (fun v1 => if ((w.1 th 2) + v1) ≤ (nI 3) then if ((w.1 th 1) + (w.1 x1 1)) ≤ (nI 24) then some (nI 0) else some (-4 : Int32) else some (-3 : Int32))
def sh_X6_glueOn_s7 (th : Nat) (x1 : Nat) (x2 : Int32) (st : Int32 × WX) : Option ((Int32 × WX) ⊕ ((WX))) :=
  if x2 ≤ st.1 then some (Sum.inr st.2) else Option.bind (ldS 24 (x1 + 1) st.1 st.2.1) (fun v2 => Option.bind (sh_X6_append th v2 st.2) (fun v3 => letv (st.1 + nI 1) (fun v4 => some (Sum.inl (v4, v3.2)))))
def sh_X6_glueOn (th : Nat) (x1 : Nat) (w : WX) : Option (WX) :=
  letv (w.1 x1 1) (fun v1 => Option.bind (lpw (sh_X6_glueOn_s7 th x1 v1) FU (nI 0, w)) (fun ex2 => some ex2))
def sh_X6_keepFirst_s23 (th : Nat) (st : Int32 × WX) : Option ((Int32 × WX) ⊕ ((WX))) :=
  if (st.2.1 th 1) ≤ st.1 then some (Sum.inr st.2) else Option.bind (ldS 24 (th + 1) st.1 st.2.1) (fun v2 => Option.bind (tbl7 sADDS v2) (fun v3 => letv (pX th 2 ((st.2.1 th 2) + v3) st.2) (fun w4 => letv (st.1 + nI 1) (fun v5 => some (Sum.inl (v5, w4))))))
def sh_X6_keepFirst (th : Nat) (x1 : Int32) (w : WX) : Option (WX) :=
  letv (pX th 1 (mxI (nI 0) (mnI (w.1 th 1) x1)) w) (fun w1 => letv (pX th 2 (nI 0) w1) (fun w2 => Option.bind (lpw (sh_X6_keepFirst_s23 th) FU (nI 0, w2)) (fun ex3 => some ex3)))
def sh_X4_doRow (th : Nat) (x1 : Int32) (x2 : Int32) (x3 : Nat) (w : WX) : Option (WX) :=
  if x1 = 0 then Option.bind (sh_X6_append x3 x2 w) (fun v10 => some v10.2) else if x1 = (nI 1) then Option.bind (sh_X6_keepFirst x3 ((w.1 x3 1) - x2) w) (fun w9 => some w9) else Option.bind (sh_X4_surfaceAt th x2 w) (fun v3 => if v3 = 999 then some w else grd (KDx v3 = (6, 3)) (Option.bind (sh_X6_glueFault x3 v3 w) (fun v6 => if v6 = 0 then Option.bind (sh_X6_glueOn x3 v3 w) (fun w8 => some w8) else some w)))
def sh_X4_doPlan_s2 (th : Nat) (x1 : Nat) (st : Int32 × WX) : Option ((Int32 × WX) ⊕ ((WX))) :=
  if (st.2.1 (th + 3) 2) ≤ st.1 then some (Sum.inr st.2) else Option.bind (ldS 8 ((th + 3) + 1) st.1 st.2.1) (fun v2 => Option.bind (ldS 8 ((th + 3) + 2) st.1 st.2.1) (fun v3 => Option.bind (sh_X4_doRow th v2 v3 x1 st.2) (fun w4 => letv (st.1 + nI 1) (fun v5 => some (Sum.inl (v5, w4))))))
def sh_X4_doPlan (th : Nat) (x1 : Nat) (w : WX) : Option (WX) :=
  Option.bind (lpw (sh_X4_doPlan_s2 th x1) FU (nI 0, w)) (fun ex1 => some ex1)
def sh_X4_piecesOfAll_s4 (th : Nat) (w : WX) (st : Int32 × Int32) : Option ((Int32 × Int32) ⊕ ((Int32))) :=
  if (nI 4) ≤ st.2 then some (Sum.inr st.1) else grd (inb st.2 4 = true) (grd (KDx ((th + 2) + 44 + 2 * st.2.toNatClampNeg) = (6, 3)) (letv (st.1 + (w.1 ((th + 2) + 44 + 2 * st.2.toNatClampNeg) 1)) (fun v4 => letv (st.2 + nI 1) (fun v5 => some (Sum.inl (v4, v5))))))
def sh_X4_piecesOfAll (th : Nat) (w : WX) : Option (Int32) :=
  Option.bind (lpw (sh_X4_piecesOfAll_s4 th w) FU (nI 0, nI 0)) (fun ex1 => some ex1)
def sh_X5_add (th : Nat) (x1 : Int32) (x2 : Int32) (x3 : Int32) (w : WX) : Option (WX) :=
  Option.bind (ldD KDx (w.2 th 1) x1 w.1) (fun v1 => Option.bind (sh_X8_plusTimes v1 x2 x3) (fun v2 => Option.bind (stDX (w.2 th 1) x1 v2 w) (fun w3 => some w3)))
def sh_X5_pair (th : Nat) (x1 : Int32) (x2 : Int32) (x3 : Int32) (x4 : Int32) (w : WX) : Option (Int32) :=
  some (x1 + (x2 * (x3 + ((w.1 th 4) * x4))))
def sh_X5_putExchanged_s56 (th : Nat) (x1 : Nat) (x2 : Int32) (x3 : Int32) (x4 : Int32) (x5 : Int32) (st : Int32 × WX) : Option ((Int32 × WX) ⊕ ((WX))) :=
  if x2 ≤ st.1 then some (Sum.inr st.2) else Option.bind (sh_X5_pair th st.1 x2 x4 x3 st.2) (fun v2 => Option.bind (sh_X5_pair th st.1 x2 x3 x4 st.2) (fun v3 => Option.bind (ldD KDx (st.2.2 th 0) v3 st.2.1) (fun v4 => Option.bind (sh_X5_add th v2 v4 x5 st.2) (fun w5 => letv (st.1 + nI 1) (fun v6 => some (Sum.inl (v6, w5)))))))
def sh_X5_putExchanged_j51 (th : Nat) (x1 : Nat) (x2 : Int32) (x3 : Int32) (x4 : Int32) (s0 : Int32) (w : WX) : Option ((Int32 × WX) ⊕ ((WX))) :=
  Option.bind (lpw (sh_X5_putExchanged_s56 th x1 x2 x3 x4 s0) FU (nI 0, w)) (fun ex1 => letv (x4 + nI 1) (fun v2 => some (Sum.inl (v2, ex1))))
def sh_X5_putExchanged_s25 (th : Nat) (x1 : Nat) (x2 : Int32) (x3 : Int32) (st : Int32 × WX) : Option ((Int32 × WX) ⊕ ((WX))) :=
  if (st.2.1 th 4) ≤ st.1 then some (Sum.inr st.2) else Option.bind (sh_X0_turnsSign x1 x3 st.1 st.2) (fun v2 => if v2 = 0 then sh_X5_putExchanged_j51 th x1 x2 x3 st.1 (nI 1) st.2 else sh_X5_putExchanged_j51 th x1 x2 x3 st.1 (nI 9972) st.2)
def sh_X5_putExchanged_s14 (th : Nat) (x1 : Nat) (x2 : Int32) (st : Int32 × WX) : Option ((Int32 × WX) ⊕ ((WX))) :=
  if (st.2.1 th 4) ≤ st.1 then some (Sum.inr st.2) else Option.bind (lpw (sh_X5_putExchanged_s25 th x1 x2 st.1) FU (nI 0, st.2)) (fun ex2 => letv (st.1 + nI 1) (fun v3 => some (Sum.inl (v3, ex2))))
def sh_X5_putExchanged (th : Nat) (x1 : Nat) (w : WX) : Option (WX) :=
  Option.bind (ldS 4 (th + 3) ((w.1 th 3) - (nI 2)) w.1) (fun v1 => Option.bind (lpw (sh_X5_putExchanged_s14 th x1 v1) FU (nI 0, w)) (fun ex2 => some ex2))
def sh_X5_putOne_s23 (th : Nat) (x1 : Nat) (x2 : Int32) (x3 : Int32) (st : Int32 × WX) : Option ((Int32 × WX) ⊕ ((WX))) :=
  if x2 ≤ st.1 then some (Sum.inr st.2) else Option.bind (ldD KDx (st.2.2 th 0) st.1 st.2.1) (fun v2 => Option.bind (ldS 6 (x1 + 5) x3 st.2.1) (fun v3 => Option.bind (sh_X5_add th (st.1 + (x2 * x3)) v2 v3 st.2) (fun w4 => letv (st.1 + nI 1) (fun v5 => some (Sum.inl (v5, w4))))))
def sh_X5_putOne_s12 (th : Nat) (x1 : Nat) (x2 : Int32) (st : Int32 × WX) : Option ((Int32 × WX) ⊕ ((WX))) :=
  if (st.2.1 th 4) ≤ st.1 then some (Sum.inr st.2) else Option.bind (lpw (sh_X5_putOne_s23 th x1 x2 st.1) FU (nI 0, st.2)) (fun ex2 => letv (st.1 + nI 1) (fun v3 => some (Sum.inl (v3, ex2))))
def sh_X5_putOne (th : Nat) (x1 : Nat) (w : WX) : Option (WX) :=
  Option.bind (ldS 4 (th + 3) (w.1 th 3) w.1) (fun v1 => Option.bind (lpw (sh_X5_putOne_s12 th x1 v1) FU (nI 0, w)) (fun ex2 => some ex2))
def sh_X5_putProducts_s46 (th : Nat) (x1 : Nat) (x2 : Int32) (x3 : Int32) (x4 : Int32) (x5 : Int32) (st : Int32 × WX) : Option ((Int32 × WX) ⊕ ((WX))) :=
  if x2 ≤ st.1 then some (Sum.inr st.2) else Option.bind (ldS 36 (x1 + 1) x5 st.2.1) (fun v2 => Option.bind (sh_X5_pair th st.1 x2 x3 x4 st.2) (fun v3 => Option.bind (ldD KDx (st.2.2 th 0) v3 st.2.1) (fun v4 => Option.bind (ldS 36 (x1 + 2) x5 st.2.1) (fun v5 => Option.bind (sh_X5_add th (st.1 + (x2 * v2)) v4 v5 st.2) (fun w6 => letv (st.1 + nI 1) (fun v7 => some (Sum.inl (v7, w6))))))))
def sh_X5_putProducts_s25 (th : Nat) (x1 : Nat) (x2 : Int32) (x3 : Int32) (st : Int32 × WX) : Option ((Int32 × WX) ⊕ ((WX))) :=
  if (st.2.1 th 4) ≤ st.1 then some (Sum.inr st.2) else Option.bind (sh_X0_at x1 x3 st.1 st.2) (fun v2 => Option.bind (lpw (sh_X5_putProducts_s46 th x1 x2 x3 st.1 v2) FU (nI 0, st.2)) (fun ex3 => letv (st.1 + nI 1) (fun v4 => some (Sum.inl (v4, ex3)))))
def sh_X5_putProducts_s14 (th : Nat) (x1 : Nat) (x2 : Int32) (st : Int32 × WX) : Option ((Int32 × WX) ⊕ ((WX))) :=
  if (st.2.1 th 4) ≤ st.1 then some (Sum.inr st.2) else Option.bind (lpw (sh_X5_putProducts_s25 th x1 x2 st.1) FU (nI 0, st.2)) (fun ex2 => letv (st.1 + nI 1) (fun v3 => some (Sum.inl (v3, ex2))))
def sh_X5_putProducts (th : Nat) (x1 : Nat) (w : WX) : Option (WX) :=
  Option.bind (ldS 4 (th + 3) ((w.1 th 3) - (nI 2)) w.1) (fun v1 => Option.bind (lpw (sh_X5_putProducts_s14 th x1 v1) FU (nI 0, w)) (fun ex2 => some ex2))
def sh_X5_putSplits_s60 (th : Nat) (x1 : Nat) (x2 : Int32) (x3 : Int32) (x4 : Int32) (x5 : Int32) (x6 : Int32) (st : Int32 × WX) : Option ((Int32 × WX) ⊕ ((WX))) :=
  if x6 = 0 then some (Sum.inr st.2) else if x2 ≤ st.1 then some (Sum.inr st.2) else Option.bind (sh_X5_pair th st.1 x2 x4 x5 st.2) (fun v3 => Option.bind (ldD KDx (st.2.2 th 0) (st.1 + (x2 * x3)) st.2.1) (fun v4 => Option.bind (sh_X5_add th v3 v4 x6 st.2) (fun w5 => letv (st.1 + nI 1) (fun v6 => some (Sum.inl (v6, w5))))))
def sh_X5_putSplits_s37 (th : Nat) (x1 : Nat) (x2 : Int32) (x3 : Int32) (x4 : Int32) (st : Int32 × WX) : Option ((Int32 × WX) ⊕ ((WX))) :=
  if (st.2.1 th 4) ≤ st.1 then some (Sum.inr st.2) else Option.bind (sh_X0_timesInSplit x1 x3 x4 st.1 st.2) (fun v2 => Option.bind (lpw (sh_X5_putSplits_s60 th x1 x2 x3 x4 st.1 v2) FU (nI 0, st.2)) (fun ex3 => letv (st.1 + nI 1) (fun v4 => some (Sum.inl (v4, ex3)))))
def sh_X5_putSplits_s25 (th : Nat) (x1 : Nat) (x2 : Int32) (x3 : Int32) (st : Int32 × WX) : Option ((Int32 × WX) ⊕ ((WX))) :=
  if (st.2.1 th 4) ≤ st.1 then some (Sum.inr st.2) else Option.bind (lpw (sh_X5_putSplits_s37 th x1 x2 x3 st.1) FU (nI 0, st.2)) (fun ex2 => letv (st.1 + nI 1) (fun v3 => some (Sum.inl (v3, ex2))))
def sh_X5_putSplits_s14 (th : Nat) (x1 : Nat) (x2 : Int32) (st : Int32 × WX) : Option ((Int32 × WX) ⊕ ((WX))) :=
  if (st.2.1 th 4) ≤ st.1 then some (Sum.inr st.2) else Option.bind (lpw (sh_X5_putSplits_s25 th x1 x2 st.1) FU (nI 0, st.2)) (fun ex2 => letv (st.1 + nI 1) (fun v3 => some (Sum.inl (v3, ex2))))
def sh_X5_putSplits (th : Nat) (x1 : Nat) (w : WX) : Option (WX) :=
  Option.bind (ldS 4 (th + 3) ((w.1 th 3) - (nI 1)) w.1) (fun v1 => Option.bind (lpw (sh_X5_putSplits_s14 th x1 v1) FU (nI 0, w)) (fun ex2 => some ex2))
def sh_X5_putTimes_s66 (th : Nat) (x1 : Nat) (x2 : Nat) (x3 : Int32) (x4 : Int32) (x5 : Int32) (x6 : Int32) (x7 : Int32) (st : Int32 × WX) : Option ((Int32 × WX) ⊕ ((WX))) :=
  if x3 ≤ st.1 then some (Sum.inr st.2) else Option.bind (ldS 36 (x1 + 1) x6 st.2.1) (fun v2 => Option.bind (ldD KDx (st.2.2 th 0) (st.1 + (x3 * x4)) st.2.1) (fun v3 => Option.bind (sh_X5_add th (st.1 + (x3 * v2)) v3 x7 st.2) (fun w4 => letv (st.1 + nI 1) (fun v5 => some (Sum.inl (v5, w4))))))
def sh_X5_putTimes_s27 (th : Nat) (x1 : Nat) (x2 : Nat) (x3 : Int32) (x4 : Int32) (st : Int32 × WX) : Option ((Int32 × WX) ⊕ ((WX))) :=
  if (st.2.1 th 4) ≤ st.1 then some (Sum.inr st.2) else Option.bind (sh_X0_at x1 x4 st.1 st.2) (fun v2 => Option.bind (ldS 36 (x1 + 2) v2 st.2.1) (fun v3 => Option.bind (ldD KDx x2 st.1 st.2.1) (fun v4 => Option.bind (sh_X8_plusTimes (nI 0) v3 v4) (fun v5 => Option.bind (lpw (sh_X5_putTimes_s66 th x1 x2 x3 x4 st.1 v2 v5) FU (nI 0, st.2)) (fun ex6 => letv (st.1 + nI 1) (fun v7 => some (Sum.inl (v7, ex6))))))))
def sh_X5_putTimes_s15 (th : Nat) (x1 : Nat) (x2 : Nat) (x3 : Int32) (st : Int32 × WX) : Option ((Int32 × WX) ⊕ ((WX))) :=
  if (st.2.1 th 4) ≤ st.1 then some (Sum.inr st.2) else Option.bind (lpw (sh_X5_putTimes_s27 th x1 x2 x3 st.1) FU (nI 0, st.2)) (fun ex2 => letv (st.1 + nI 1) (fun v3 => some (Sum.inl (v3, ex2))))
def sh_X5_putTimes (th : Nat) (x1 : Nat) (x2 : Nat) (w : WX) : Option (WX) :=
  Option.bind (ldS 4 (th + 3) ((w.1 th 3) - (nI 1)) w.1) (fun v1 => Option.bind (lpw (sh_X5_putTimes_s15 th x1 x2 v1) FU (nI 0, w)) (fun ex2 => some ex2))
def sh_X5_putTraces_s25 (th : Nat) (x1 : Nat) (x2 : Int32) (x3 : Int32) (st : Int32 × WX) : Option ((Int32 × WX) ⊕ ((WX))) :=
  if x2 ≤ st.1 then some (Sum.inr st.2) else Option.bind (ldD KDx (st.2.2 th 0) (st.1 + (x2 * x3)) st.2.1) (fun v2 => Option.bind (ldS 6 (x1 + 4) x3 st.2.1) (fun v3 => Option.bind (sh_X5_add th st.1 v2 v3 st.2) (fun w4 => letv (st.1 + nI 1) (fun v5 => some (Sum.inl (v5, w4))))))
def sh_X5_putTraces_s14 (th : Nat) (x1 : Nat) (x2 : Int32) (st : Int32 × WX) : Option ((Int32 × WX) ⊕ ((WX))) :=
  if (st.2.1 th 4) ≤ st.1 then some (Sum.inr st.2) else Option.bind (lpw (sh_X5_putTraces_s25 th x1 x2 st.1) FU (nI 0, st.2)) (fun ex2 => letv (st.1 + nI 1) (fun v3 => some (Sum.inl (v3, ex2))))
def sh_X5_putTraces (th : Nat) (x1 : Nat) (w : WX) : Option (WX) :=
  Option.bind (ldS 4 (th + 3) ((w.1 th 3) - (nI 1)) w.1) (fun v1 => Option.bind (lpw (sh_X5_putTraces_s14 th x1 v1) FU (nI 0, w)) (fun ex2 => some ex2))
def sh_X5_step_s31 (th : Nat) (x1 : Int32) (x2 : Nat) (x3 : Int32) (st : Int32 × WX) : Option ((Int32 × WX) ⊕ ((WX))) :=
  if x3 ≤ st.1 then some (Sum.inr st.2) else Option.bind (stDX (st.2.2 th 1) st.1 (nI 0) st.2) (fun w2 => letv (st.1 + nI 1) (fun v3 => some (Sum.inl (v3, w2))))
def sh_X5_step_j153 (th : Nat) (x1 : Int32) (w : WX) : Option (WX) :=
  Option.bind (tbl7 sADDS x1) (fun v1 => letv (pX th 3 ((w.1 th 3) + v1) w) (fun w2 => letv (pXr th 0 (w2.2 th 1) w2) (fun w3 => letv (pXr th 1 (w2.2 th 0) w3) (fun w4 => some w4))))
def sh_X5_step (th : Nat) (x1 : Int32) (x2 : Nat) (w : WX) : Option (WX) :=
  Option.bind (sh_X8_canStand x1 (w.1 th 3)) (fun v1 => if v1 = 0 then some w else Option.bind (tbl7 sADDS x1) (fun v3 => Option.bind (ldS 4 (th + 3) ((w.1 th 3) + v3) w.1) (fun v4 => Option.bind (lpw (sh_X5_step_s31 th x1 x2 v4) FU (nI 0, w)) (fun ex5 => if x1 = nI 0 then Option.bind (sh_X5_putOne th x2 ex5) (fun w7 => sh_X5_step_j153 th x1 w7) else if x1 = nI 1 then Option.bind (sh_X5_putProducts th x2 ex5) (fun w9 => sh_X5_step_j153 th x1 w9) else if x1 = nI 2 then Option.bind (sh_X5_putSplits th x2 ex5) (fun w11 => sh_X5_step_j153 th x1 w11) else if x1 = nI 3 then Option.bind (sh_X5_putTraces th x2 ex5) (fun w13 => sh_X5_step_j153 th x1 w13) else if x1 = nI 4 then Option.bind (sh_X5_putExchanged th x2 ex5) (fun w15 => sh_X5_step_j153 th x1 w15) else if x1 = nI 5 then Option.bind (sh_X5_putTimes th x2 (x2 + 6) ex5) (fun w17 => sh_X5_step_j153 th x1 w17) else Option.bind (sh_X5_putTimes th x2 (x2 + 7) ex5) (fun w18 => sh_X5_step_j153 th x1 w18)))))
def sh_X5_find_s17 (th : Nat) (x1 : Nat) (x2 : Nat) (st : Int32 × WX) : Option ((Int32 × WX) ⊕ ((WX))) :=
  if (nI 3) < st.1 then some (Sum.inr st.2) else Option.bind (ldS 4 (th + 3) (st.1 - (nI 1)) st.2.1) (fun v2 => Option.bind (stX 4 (th + 3) st.1 (v2 * (st.2.1 th 4)) st.2) (fun w3 => letv (st.1 + nI 1) (fun v4 => some (Sum.inl (v4, w3)))))
def sh_X5_find_s61 (th : Nat) (x1 : Nat) (x2 : Nat) (st : Int32 × WX) : Option ((Int32 × WX) ⊕ ((WX))) :=
  if (st.2.1 x1 1) ≤ st.1 then some (Sum.inr st.2) else Option.bind (ldS 24 (x1 + 1) st.1 st.2.1) (fun v2 => Option.bind (sh_X5_step th v2 x2 st.2) (fun w3 => letv (st.1 + nI 1) (fun v4 => some (Sum.inl (v4, w3)))))
def sh_X5_find (th : Nat) (x1 : Nat) (x2 : Nat) (w : WX) : Option (WX) :=
  letv (pX th 4 (w.1 x2 3) w) (fun w1 => Option.bind (stX 4 (th + 3) (nI 0) (nI 1) w1) (fun w2 => Option.bind (lpw (sh_X5_find_s17 th x1 x2) FU (nI 1, w2)) (fun ex3 => letv (pX th 3 (nI 0) ex3) (fun w4 => Option.bind (stDX (w4.2 th 0) (nI 0) (nI 1) w4) (fun w5 => Option.bind (lpw (sh_X5_find_s61 th x1 x2) FU (nI 0, w5)) (fun ex6 => some ex6))))))
def sh_X5_places (th : Nat) (w : WX) : Option (Int32) :=
  Option.bind (ldS 4 (th + 3) (w.1 th 3) w.1) (fun v1 => some v1)
def sh_X5_hasPlace (th : Nat) (x1 : Int32) (w : WX) : Option (Int32) :=
  if x1 < 0 then some (nI 0) else Option.bind (sh_X5_places th w) (fun v2 => if v2 ≤ x1 then some (nI 0) else some (nI 1))
def sh_X5_notZero_s4 (th : Nat) (w : WX) (st : Int32 × Int32) : Option ((Int32 × Int32) ⊕ ((Int32))) :=
  Option.bind (sh_X5_places th w) (fun v1 => if v1 ≤ st.2 then some (Sum.inr st.1) else Option.bind (ldD KDx (w.2 th 0) st.2 w.1) (fun v3 => if v3 = 0 then letv (st.1 + (nI 0)) (fun v5 => letv (st.2 + nI 1) (fun v6 => some (Sum.inl (v5, v6)))) else letv (st.1 + (nI 1)) (fun v7 => letv (st.2 + nI 1) (fun v8 => some (Sum.inl (v7, v8))))))
def sh_X5_notZero (th : Nat) (w : WX) : Option (Int32) :=
  Option.bind (lpw (sh_X5_notZero_s4 th w) FU (nI 0, nI 0)) (fun ex1 => some ex1)
def sh_X5_firstNotZero_s2 (th : Nat) (w : WX) (st : Int32) : Option ((Int32) ⊕ ((Int32) ⊕ (Unit))) :=
  Option.bind (sh_X5_places th w) (fun v1 => if v1 ≤ st then some (Sum.inr (Sum.inr ())) else Option.bind (ldD KDx (w.2 th 0) st w.1) (fun v3 => if v3 = 0 then letv (st + nI 1) (fun v5 => some (Sum.inl v5)) else some (Sum.inr (Sum.inl st))))
def sh_X5_firstNotZero (th : Nat) (w : WX) : Option (Int32) :=
  Option.bind (lpw (sh_X5_firstNotZero_s2 th w) FU (nI 0)) (Sum.elim (fun y2 => some y2) (fun y3 => some (-5 : Int32)))
def sh_X5_together_s4 (th : Nat) (w : WX) (st : Int32 × Int32) : Option ((Int32 × Int32) ⊕ ((Int32))) :=
  Option.bind (sh_X5_places th w) (fun v1 => if v1 ≤ st.2 then some (Sum.inr st.1) else Option.bind (ldD KDx (w.2 th 0) st.2 w.1) (fun v3 => Option.bind (sh_X8_plusTimes st.1 (nI 1) v3) (fun v4 => letv (st.2 + nI 1) (fun v5 => some (Sum.inl (v4, v5))))))
def sh_X5_together (th : Nat) (w : WX) : Option (Int32) :=
  Option.bind (lpw (sh_X5_together_s4 th w) FU (nI 0, nI 0)) (fun ex1 => some ex1)
def sh_X5_sameAs_s26 (th : Nat) (x1 : Nat) (w : WX) (st : Int32) : Option ((Int32) ⊕ ((Unit) ⊕ (Unit))) :=
  Option.bind (sh_X5_places th w) (fun v1 => if v1 ≤ st then some (Sum.inr (Sum.inr ())) else Option.bind (ldD KDx (w.2 th 0) st w.1) (fun v3 => Option.bind (ldD KDx (w.2 x1 0) st w.1) (fun v4 => if v3 = v4 then letv (st + nI 1) (fun v6 => some (Sum.inl v6)) else some (Sum.inr (Sum.inl ())))))
def sh_X5_sameAs (th : Nat) (x1 : Nat) (w : WX) : Option (Int32) :=
  if (w.1 th 3) = (w.1 x1 3) then if (w.1 th 4) = (w.1 x1 4) then Option.bind (lpw (sh_X5_sameAs_s26 th x1 w) FU (nI 0)) (Sum.elim (fun y4 => some (nI 0)) (fun y5 => some (nI 1))) else some (nI 0) else some (nI 0)
def sh_X6_drawMore_s5 (th : Nat) (x1 : Int32) (st : Int32 × Int32 × WX) : Option ((Int32 × Int32 × WX) ⊕ ((WX))) :=
  if x1 ≤ st.2.1 then some (Sum.inr st.2.2) else letv ((st.1 * (nI 1103515245)) + (nI 12345)) (fun v2 => Option.bind (sh_X6_append th (remI (ushrI v2 (nI 16)) (nI 7)) st.2.2) (fun v3 => letv (st.2.1 + nI 1) (fun v4 => some (Sum.inl (v2, v4, v3.2)))))
def sh_X6_drawMore (th : Nat) (x1 : Int32) (x2 : Int32) (w : WX) : Option (WX) :=
  Option.bind (lpw (sh_X6_drawMore_s5 th x1) FU (x2, nI 0, w)) (fun ex1 => some ex1)
def sh_X7_append (x1 : Int32) (w : WX) : Option (WX) :=
  if (w.1 109 1) < (nI 60) then Option.bind (stX 60 110 (w.1 109 1) x1 w) (fun w2 => letv (pX 109 1 ((w2.1 109 1) + (nI 1)) w2) (fun w3 => some w3)) else some w
def sh_X7_appendAll_s2 (th : Nat) (x1 : Int32) (x2 : Int32) (st : Int32 × WX) : Option ((Int32 × WX) ⊕ ((WX) ⊕ (WX))) :=
  if x2 ≤ st.1 then some (Sum.inr (Sum.inr st.2)) else Option.bind (sh_X6_append th x1 st.2) (fun v2 => if v2.1 = 0 then some (Sum.inr (Sum.inl v2.2)) else letv (st.1 + nI 1) (fun v4 => some (Sum.inl (v4, v2.2))))
def sh_X7_appendAll (x0 : Nat) (x1 : Int32) (x2 : Int32) (w : WX) : Option (Int32 × WX) :=
  Option.bind (lpw (sh_X7_appendAll_s2 x0 x1 x2) FU (nI 0, w)) (Sum.elim (fun y2 => some (nI 0, y2)) (fun y3 => some (nI 1, y3)))
def sh_X7_isTimes (x0 : Int32) : Option (Int32) :=
  if x0 < (nI 50) then some (nI 0) else if (nI 57) < x0 then some (nI 0) else some (nI 1)
def sh_X7_pieceByLetter_s2 (x0 : Int32) (st : Int32) : Option ((Int32) ⊕ ((Int32) ⊕ (Unit))) :=
  if (nI 7) ≤ st then some (Sum.inr (Sum.inr ())) else Option.bind (tbl7 sLET st) (fun v2 => if v2 = x0 then some (Sum.inr (Sum.inl st)) else letv (st + nI 1) (fun v4 => some (Sum.inl v4)))
def sh_X7_pieceByLetter (x0 : Int32) : Option (Int32) :=
  Option.bind (lpw (sh_X7_pieceByLetter_s2 x0) FU (nI 0)) (Sum.elim (fun y2 => some y2) (fun y3 => some (-1 : Int32)))
def sh_X7_readInto_j99 (x1 : Nat) (x3 : Int32) (x4 : Int32) (x6 : Int32) (s0 : Nat) (s1 : Int32) (w : WX) : Option ((Int32 × Int32 × WX) ⊕ ((Int32 × WX) ⊕ (Int32 × WX) ⊕ (WX))) :=
  Option.bind (sh_X7_appendAll s0 s1 x6 w) (fun v1 => if v1.1 = 0 then some (Sum.inr (Sum.inr (Sum.inl (x3, v1.2)))) else letv (x3 + nI 1) (fun v3 => some (Sum.inl (x4, v3, v1.2))))
def sh_X7_readInto_j85 (x1 : Nat) (x2 : Int32) (x3 : Int32) (x4 : Int32) (x5 : Int32) (s0 : Int32) (w : WX) : Option ((Int32 × Int32 × WX) ⊕ ((Int32 × WX) ⊕ (Int32 × WX) ⊕ (WX))) :=
  if x5 = 0 then sh_X7_readInto_j99 x1 x3 x4 s0 x1 x2 w else sh_X7_readInto_j99 x1 x3 x4 s0 x1 x4 w
def sh_X7_readInto_j65 (x1 : Nat) (x2 : Int32) (x3 : Int32) (x4 : Int32) (x5 : Int32) (w : WX) : Option ((Int32 × Int32 × WX) ⊕ ((Int32 × WX) ⊕ (Int32 × WX) ⊕ (WX))) :=
  if x5 = 0 then Option.bind (ldS 60 110 x3 w.1) (fun v2 => sh_X7_readInto_j85 x1 x2 x3 x4 x5 ((v2 - (nI 48)) - (nI 1)) w) else sh_X7_readInto_j85 x1 x2 x3 x4 x5 (nI 1) w
def sh_X7_readInto_j39 (x1 : Nat) (x2 : Int32) (x3 : Int32) (x4 : Int32) (s0 : Int32) (w : WX) : Option ((Int32 × Int32 × WX) ⊕ ((Int32 × WX) ⊕ (Int32 × WX) ⊕ (WX))) :=
  if s0 = 0 then if x2 = (-1 : Int32) then some (Sum.inr (Sum.inl (x3, w))) else Option.bind (ldS 60 110 x3 w.1) (fun v3 => Option.bind (sh_X7_isTimes v3) (fun v4 => if v4 = 0 then some (Sum.inr (Sum.inl (x3, w))) else sh_X7_readInto_j65 x1 x2 x3 x4 s0 w)) else sh_X7_readInto_j65 x1 x2 x3 x4 s0 w
def sh_X7_readInto_s9 (x1 : Nat) (st : Int32 × Int32 × WX) : Option ((Int32 × Int32 × WX) ⊕ ((Int32 × WX) ⊕ (Int32 × WX) ⊕ (WX))) :=
  if (st.2.2.1 109 1) ≤ st.2.1 then some (Sum.inr (Sum.inr (Sum.inr st.2.2))) else Option.bind (ldS 60 110 st.2.1 st.2.2.1) (fun v2 => Option.bind (sh_X7_pieceByLetter v2) (fun v3 => if v3 = (-1 : Int32) then sh_X7_readInto_j39 x1 st.1 st.2.1 v3 (nI 0) st.2.2 else sh_X7_readInto_j39 x1 st.1 st.2.1 v3 (nI 1) st.2.2))
def sh_X7_readInto (x1 : Nat) (w : WX) : Option (Int32 × WX) :=
  Option.bind (sh_X6_keepFirst x1 (nI 0) w) (fun w1 => Option.bind (lpw (sh_X7_readInto_s9 x1) FU ((-1 : Int32), nI 0, w1)) (Sum.elim (fun y3 => some (y3.1, y3.2)) (Sum.elim (fun y4 => some (y4.1, y4.2)) (fun y5 => if (y5.1 109 1) = 0 then some (nI 0, y5) else some ((-1 : Int32), y5)))))
def sh_X8_isFigure (x0 : Int32) : Option (Int32) :=
  if x0 < 0 then some (nI 0) else if (nI 9) < x0 then some (nI 0) else some (nI 1)
def sh_X8_mostSize (x0 : Int32) : Option (Int32) :=
  if x0 = (nI 4) then some (nI 2) else some (nI 6)
def sh_X8_algebra (x1 : Int32) (x2 : Int32) (x3 : Int32) (w : WX) : Option (Int32 × WX) :=
  if x1 < 0 then some ((-1 : Int32), w) else if x1 ≤ (nI 4) then if x2 < (nI 1) then some ((-2 : Int32), w) else Option.bind (sh_X8_mostSize x1) (fun v4 => if v4 < x2 then some ((-2 : Int32), w) else Option.bind (sh_X8_isFigure x3) (fun v6 => if v6 = 0 then some ((-2 : Int32), w) else if (w.1 1 1) < (nI 4) then grd (inb (w.1 1 1) 4 = true) (grd (KDx ((1 + 1) + 5 + 10 * (w.1 1 1).toNatClampNeg) = (0, 13)) (Option.bind (sh_X0_make ((1 + 1) + 5 + 10 * (w.1 1 1).toNatClampNeg) x1 x2 x3 w) (fun w11 => letv (pX 1 1 ((w11.1 1 1) + (nI 1)) w11) (fun w12 => some ((w12.1 1 1) - (nI 1), w12))))) else some ((-4 : Int32), w))) else some ((-1 : Int32), w)
def sh_X8_becomes (x1 : Int32) (x2 : Int32) (w : WX) : Option (Int32 × WX) :=
  Option.bind (sh_X4_algebraAt 1 x1 w) (fun v1 => if v1 = 999 then some ((-1 : Int32), w) else grd (KDx v1 = (0, 13)) (Option.bind (sh_X8_isFigure x2) (fun v4 => if v4 = 0 then some ((-2 : Int32), w) else letv (w.1 v1 2) (fun v6 => Option.bind (sh_X0_make v1 (w.1 v1 0) (w.1 v1 1) x2 w) (fun w7 => some (v6, w7))))))
def sh_X8_of (x1 : Int32) (x2 : Int32) (w : WX) : Option (Int32) :=
  Option.bind (sh_X4_algebraAt 1 x1 w) (fun v1 => if v1 = 999 then some (-1 : Int32) else grd (KDx v1 = (0, 13)) (if x2 = nI 0 then some (w.1 v1 0) else if x2 = nI 1 then some (w.1 v1 1) else if x2 = nI 2 then some (w.1 v1 2) else if x2 = nI 3 then some (w.1 v1 3) else some (-1 : Int32)))
def sh_X8_product (x1 : Int32) (x2 : Int32) (x3 : Int32) (x4 : Int32) (w : WX) : Option (Int32) :=
  Option.bind (sh_X4_algebraAt 1 x1 w) (fun v1 => if v1 = 999 then some (-1 : Int32) else grd (KDx v1 = (0, 13)) (Option.bind (sh_X0_has v1 x2 w) (fun v4 => if v4 = 0 then some (-1 : Int32) else Option.bind (sh_X0_has v1 x3 w) (fun v6 => if v6 = 0 then some (-1 : Int32) else Option.bind (sh_X0_has v1 x4 w) (fun v8 => if v8 = 0 then some (-1 : Int32) else Option.bind (sh_X0_timesInProduct v1 x2 x3 x4 w) (fun v10 => some v10))))))
def sh_X8_form (x1 : Int32) (x2 : Int32) (x3 : Int32) (x4 : Int32) (w : WX) : Option (Int32) :=
  Option.bind (sh_X4_algebraAt 1 x1 w) (fun v1 => if v1 = 999 then some (-1 : Int32) else grd (KDx v1 = (0, 13)) (Option.bind (sh_X0_has v1 x2 w) (fun v4 => if v4 = 0 then some (-1 : Int32) else Option.bind (sh_X0_has v1 x3 w) (fun v6 => if v6 = 0 then some (-1 : Int32) else if x4 = nI 0 then Option.bind (sh_X0_formOf v1 x2 x3 w) (fun v9 => some v9) else if x4 = nI 1 then Option.bind (sh_X0_turnedOf v1 x2 x3 w) (fun v11 => some v11) else some (-1 : Int32)))))
def sh_X8_element (x1 : Int32) (x2 : Int32) (x3 : Int32) (w : WX) : Option (Int32) :=
  Option.bind (sh_X4_algebraAt 1 x1 w) (fun v1 => if v1 = 999 then some (-1 : Int32) else grd (KDx v1 = (0, 13)) (Option.bind (sh_X0_has v1 x2 w) (fun v4 => if v4 = 0 then some (-1 : Int32) else if x3 = nI 0 then Option.bind (ldS 6 (v1 + 4) x2 w.1) (fun v7 => some v7) else if x3 = nI 1 then Option.bind (ldS 6 (v1 + 5) x2 w.1) (fun v9 => some v9) else if x3 = nI 2 then Option.bind (ldS 6 (v1 + 6) x2 w.1) (fun v11 => some v11) else if x3 = nI 3 then Option.bind (ldS 6 (v1 + 7) x2 w.1) (fun v13 => some v13) else some (-1 : Int32))))
def sh_X8_split (x1 : Int32) (x2 : Int32) (x3 : Int32) (x4 : Int32) (w : WX) : Option (Int32) :=
  Option.bind (sh_X4_algebraAt 1 x1 w) (fun v1 => if v1 = 999 then some (-1 : Int32) else grd (KDx v1 = (0, 13)) (Option.bind (sh_X0_has v1 x2 w) (fun v4 => if v4 = 0 then some (-1 : Int32) else Option.bind (sh_X0_has v1 x3 w) (fun v6 => if v6 = 0 then some (-1 : Int32) else Option.bind (sh_X0_has v1 x4 w) (fun v8 => if v8 = 0 then some (-1 : Int32) else Option.bind (sh_X0_timesInSplit v1 x2 x3 x4 w) (fun v10 => some v10))))))
def sh_X8_isTurns (x0 : Int32) : Option (Int32) :=
  if x0 < 0 then some (nI 0) else if (nI 20) < x0 then some (nI 0) else some (nI 1)
def sh_X8_closed (x1 : Int32) (x2 : Int32) (x3 : Int32) (w : WX) : Option (Int32 × WX) :=
  Option.bind (sh_X4_algebraAt 1 x1 w) (fun v1 => if v1 = 999 then some ((-1 : Int32), w) else grd (KDx v1 = (0, 13)) (Option.bind (sh_X8_isTurns x2) (fun v4 => if v4 = 0 then some ((-2 : Int32), w) else Option.bind (sh_X8_isTurns x3) (fun v6 => if v6 = 0 then some ((-2 : Int32), w) else Option.bind (sh_X0_closedBy v1 x2 x3 w) (fun v8 => some (v8.1, v8.2))))))
def sh_X8_handles_s30 (x2 : Int32) (x3 : Int32) (x4 : Nat) (st : Int32 × WX) : Option ((Int32 × WX) ⊕ ((Int32 × WX) ⊕ (WX))) :=
  if (nI 20) < st.1 then some (Sum.inr (Sum.inr st.2)) else Option.bind (sh_X0_closedBy x4 st.1 x2 st.2) (fun v2 => if v2.1 = x3 then some (Sum.inr (Sum.inl (st.1, v2.2))) else letv (st.1 + nI 1) (fun v4 => some (Sum.inl (v4, v2.2))))
def sh_X8_handles (x1 : Int32) (x2 : Int32) (x3 : Int32) (w : WX) : Option (Int32 × WX) :=
  Option.bind (sh_X4_algebraAt 1 x1 w) (fun v1 => if v1 = 999 then some ((-1 : Int32), w) else grd (KDx v1 = (0, 13)) (Option.bind (sh_X8_isTurns x2) (fun v4 => if v4 = 0 then some ((-2 : Int32), w) else Option.bind (lpw (sh_X8_handles_s30 x2 x3 v1) FU (nI 0, w)) (Sum.elim (fun y7 => some (y7.1, y7.2)) (fun y8 => some ((-5 : Int32), y8))))))
def sh_X8_were_s40 (x2 : Int32) (x3 : Int32) (x4 : Int32) (x5 : Nat) (st : Int32 × Int32 × WX) : Option ((Int32 × Int32 × WX) ⊕ ((Int32 × WX))) :=
  if (nI 9) < st.2.1 then some (Sum.inr (st.1, st.2.2)) else Option.bind (sh_X0_make 121 (st.2.2.1 x5 0) (st.2.2.1 x5 1) st.2.1 st.2.2) (fun w2 => Option.bind (sh_X0_closedBy 121 x2 x3 w2) (fun v3 => if v3.1 = x4 then letv (st.1 ||| ((nI 1) <<< (st.2.1 &&& 31))) (fun v6 => letv (st.2.1 + nI 1) (fun v7 => some (Sum.inl (v6, v7, v3.2)))) else letv (st.2.1 + nI 1) (fun v5 => some (Sum.inl (st.1, v5, v3.2)))))
def sh_X8_were (x1 : Int32) (x2 : Int32) (x3 : Int32) (x4 : Int32) (w : WX) : Option (Int32 × WX) :=
  Option.bind (sh_X4_algebraAt 1 x1 w) (fun v1 => if v1 = 999 then some ((-1 : Int32), w) else grd (KDx v1 = (0, 13)) (Option.bind (sh_X8_isTurns x2) (fun v4 => if v4 = 0 then some ((-2 : Int32), w) else Option.bind (sh_X8_isTurns x3) (fun v6 => if v6 = 0 then some ((-2 : Int32), w) else Option.bind (lpw (sh_X8_were_s40 x2 x3 x4 v1) FU (nI 0, nI 0, w)) (fun ex8 => some (ex8.1, ex8.2))))))
def sh_X8_feed (x1 : Int32) (w : WX) : Option (Int32 × WX) :=
  if x1 < (nI 1) then some ((-2 : Int32), w) else if x1 ≤ (nI 127) then if (w.1 109 1) < (nI 60) then Option.bind (sh_X7_append x1 w) (fun w4 => some (w4.1 109 1, w4)) else some ((-4 : Int32), w) else some ((-2 : Int32), w)
def sh_X8_surface (x1 : Int32) (w : WX) : Option (Int32 × WX) :=
  Option.bind (sh_X4_surfaceAt 1 x1 w) (fun v1 => if v1 = 999 then some ((-1 : Int32), w) else grd (KDx v1 = (6, 3)) (Option.bind (sh_X7_readInto 119 w) (fun v4 => letv (pX 109 1 (nI 0) v4.2) (fun w5 => if v4.1 = (-1 : Int32) then Option.bind (sh_X6_copyFrom v1 119 w5) (fun w7 => some (w7.1 v1 1, w7)) else some ((-100 : Int32) - v4.1, w5)))))
def sh_X8_piece (x1 : Int32) (x2 : Int32) (w : WX) : Option (Int32 × WX) :=
  Option.bind (sh_X4_surfaceAt 1 x1 w) (fun v1 => if v1 = 999 then some ((-1 : Int32), w) else grd (KDx v1 = (6, 3)) (if x2 < 0 then some ((-1 : Int32), w) else if x2 < (nI 7) then Option.bind (sh_X8_canStand x2 (w.1 v1 2)) (fun v6 => if v6 = 0 then some ((-3 : Int32), w) else Option.bind (sh_X6_append v1 x2 w) (fun v8 => if v8.1 = 0 then some ((-4 : Int32), v8.2) else some (v8.2.1 v1 1, v8.2))) else some ((-1 : Int32), w)))
def sh_X8_pieceOf (x1 : Int32) (x2 : Int32) (w : WX) : Option (Int32) :=
  Option.bind (sh_X4_surfaceAt 1 x1 w) (fun v1 => if v1 = 999 then some (-1 : Int32) else grd (KDx v1 = (6, 3)) (if x2 < 0 then some (-1 : Int32) else if x2 < (w.1 v1 1) then Option.bind (ldS 24 (v1 + 1) x2 w.1) (fun v6 => some v6) else some (-1 : Int32)))
def sh_X8_shape (x1 : Int32) (x2 : Int32) (w : WX) : Option (Int32 × WX) :=
  Option.bind (sh_X4_surfaceAt 1 x1 w) (fun v1 => if v1 = 999 then some ((-1 : Int32), w) else grd (KDx v1 = (6, 3)) (Option.bind (sh_X2_find 131 v1 w) (fun w4 => if x2 = nI 0 then some (w4.1 v1 1, w4) else if x2 = nI 1 then some (w4.1 v1 2, w4) else if x2 = nI 2 then some (w4.1 131 0, w4) else if x2 = nI 3 then Option.bind (sh_X2_unlike 131 w4) (fun v9 => some (v9, w4)) else if x2 = nI 4 then Option.bind (sh_X2_withoutRims 131 w4) (fun v11 => some (v11, w4)) else if x2 = nI 5 then Option.bind (sh_X2_eulerOfAll 131 w4) (fun v13 => some ((nI 100) + v13, w4)) else some ((-1 : Int32), w4))))
def sh_X8_part (x1 : Int32) (x2 : Int32) (x3 : Int32) (w : WX) : Option (Int32 × WX) :=
  Option.bind (sh_X4_surfaceAt 1 x1 w) (fun v1 => if v1 = 999 then some ((-1 : Int32), w) else grd (KDx v1 = (6, 3)) (Option.bind (sh_X2_find 131 v1 w) (fun w4 => if x2 < 0 then some ((-1 : Int32), w4) else if x2 < (w4.1 131 0) then if x3 = nI 0 then Option.bind (ldS 24 (131 + 2) x2 w4.1) (fun v8 => some (v8, w4)) else if x3 = nI 1 then Option.bind (ldS 24 (131 + 1) x2 w4.1) (fun v10 => some ((nI 100) + v10, w4)) else if x3 = nI 2 then Option.bind (ldS 24 (131 + 3) x2 w4.1) (fun v12 => if v12 = 0 then some (nI 0, w4) else some (nI 1, w4)) else if x3 = nI 3 then Option.bind (sh_X2_genus 131 x2 w4) (fun v15 => some (v15, w4)) else some ((-1 : Int32), w4) else some ((-1 : Int32), w4))))
def sh_X8_rim (x1 : Int32) (x2 : Int32) (w : WX) : Option (Int32 × WX) :=
  Option.bind (sh_X4_surfaceAt 1 x1 w) (fun v1 => if v1 = 999 then some ((-1 : Int32), w) else grd (KDx v1 = (6, 3)) (if x2 < 0 then some ((-1 : Int32), w) else if x2 < (w.1 v1 2) then Option.bind (sh_X2_find 131 v1 w) (fun w6 => Option.bind (ldS 3 (131 + 4) x2 w6.1) (fun v7 => some (v7, w6))) else some ((-1 : Int32), w)))
def sh_X8_match (x1 : Int32) (x2 : Int32) (w : WX) : Option (Int32 × WX) :=
  Option.bind (sh_X4_surfaceAt 1 x1 w) (fun v1 => if v1 = 999 then Option.bind (sh_X4_surfaceAt 1 x2 w) (fun v4 => if v4 = 999 then some ((-1 : Int32), w) else grd (KDx v4 = (6, 3)) (some ((-1 : Int32), w))) else grd (KDx v1 = (6, 3)) (Option.bind (sh_X4_surfaceAt 1 x2 w) (fun v7 => if v7 = 999 then some ((-1 : Int32), w) else grd (KDx v7 = (6, 3)) (Option.bind (sh_X2_find 131 v1 w) (fun w10 => Option.bind (sh_X2_find 138 v7 w10) (fun w11 => Option.bind (sh_X2_matched 131 138 w11) (fun v12 => some (v12.1, v12.2))))))))
def sh_X8_sum (x1 : Int32) (x2 : Int32) (x3 : Int32) (w : WX) : Option (Int32 × WX) :=
  Option.bind (sh_X4_surfaceAt 1 x1 w) (fun v1 => if v1 = 999 then Option.bind (sh_X4_algebraAt 1 x2 w) (fun v4 => if v4 = 999 then some ((-1 : Int32), w) else grd (KDx v4 = (0, 13)) (some ((-1 : Int32), w))) else grd (KDx v1 = (6, 3)) (Option.bind (sh_X4_algebraAt 1 x2 w) (fun v7 => if v7 = 999 then some ((-1 : Int32), w) else grd (KDx v7 = (0, 13)) (Option.bind (sh_X5_find 145 v1 v7 w) (fun w10 => Option.bind (sh_X5_hasPlace 145 x3 w10) (fun v11 => if v11 = 0 then some ((-1 : Int32), w10) else Option.bind (ldD KDx (w10.2 145 0) x3 w10.1) (fun v13 => some (v13, w10))))))))
def sh_X8_total (x1 : Int32) (x2 : Int32) (x3 : Int32) (w : WX) : Option (Int32 × WX) :=
  Option.bind (sh_X4_surfaceAt 1 x1 w) (fun v1 => if v1 = 999 then Option.bind (sh_X4_algebraAt 1 x2 w) (fun v4 => if v4 = 999 then some ((-1 : Int32), w) else grd (KDx v4 = (0, 13)) (some ((-1 : Int32), w))) else grd (KDx v1 = (6, 3)) (Option.bind (sh_X4_algebraAt 1 x2 w) (fun v7 => if v7 = 999 then some ((-1 : Int32), w) else grd (KDx v7 = (0, 13)) (Option.bind (sh_X5_find 145 v1 v7 w) (fun w10 => if x3 = nI 0 then Option.bind (sh_X5_places 145 w10) (fun v12 => some (v12, w10)) else if x3 = nI 1 then Option.bind (sh_X5_notZero 145 w10) (fun v14 => some (v14, w10)) else if x3 = nI 2 then Option.bind (sh_X5_firstNotZero 145 w10) (fun v16 => some (v16, w10)) else if x3 = nI 3 then Option.bind (sh_X5_together 145 w10) (fun v18 => some (v18, w10)) else some ((-1 : Int32), w10))))))
def sh_X8_alike (x1 : Int32) (x2 : Int32) (x3 : Int32) (w : WX) : Option (Int32 × WX) :=
  Option.bind (sh_X4_surfaceAt 1 x1 w) (fun v1 => if v1 = 999 then Option.bind (sh_X4_surfaceAt 1 x2 w) (fun v4 => if v4 = 999 then Option.bind (sh_X4_algebraAt 1 x3 w) (fun v7 => if v7 = 999 then some ((-1 : Int32), w) else grd (KDx v7 = (0, 13)) (some ((-1 : Int32), w))) else grd (KDx v4 = (6, 3)) (Option.bind (sh_X4_algebraAt 1 x3 w) (fun v10 => if v10 = 999 then some ((-1 : Int32), w) else grd (KDx v10 = (0, 13)) (some ((-1 : Int32), w))))) else grd (KDx v1 = (6, 3)) (Option.bind (sh_X4_surfaceAt 1 x2 w) (fun v13 => if v13 = 999 then Option.bind (sh_X4_algebraAt 1 x3 w) (fun v16 => if v16 = 999 then some ((-1 : Int32), w) else grd (KDx v16 = (0, 13)) (some ((-1 : Int32), w))) else grd (KDx v13 = (6, 3)) (Option.bind (sh_X4_algebraAt 1 x3 w) (fun v19 => if v19 = 999 then some ((-1 : Int32), w) else grd (KDx v19 = (0, 13)) (Option.bind (sh_X5_find 145 v1 v19 w) (fun w22 => Option.bind (sh_X5_find 149 v13 v19 w22) (fun w23 => Option.bind (sh_X5_sameAs 145 149 w23) (fun v24 => if v24 = 0 then some (nI 0, w23) else some (nI 1, w23))))))))))
def sh_X8_glue (x1 : Int32) (x2 : Int32) (w : WX) : Option (Int32 × WX) :=
  Option.bind (sh_X4_surfaceAt 1 x1 w) (fun v1 => if v1 = 999 then Option.bind (sh_X4_surfaceAt 1 x2 w) (fun v4 => if v4 = 999 then some ((-1 : Int32), w) else grd (KDx v4 = (6, 3)) (some ((-1 : Int32), w))) else grd (KDx v1 = (6, 3)) (Option.bind (sh_X4_surfaceAt 1 x2 w) (fun v7 => if v7 = 999 then some ((-1 : Int32), w) else grd (KDx v7 = (6, 3)) (Option.bind (sh_X6_glueFault v1 v7 w) (fun v10 => if v10 = 0 then Option.bind (sh_X6_glueOn v1 v7 w) (fun w12 => some (w12.1 v1 1, w12)) else some (v10, w))))))
def sh_X8_cut (x1 : Int32) (x2 : Int32) (w : WX) : Option (Int32 × WX) :=
  Option.bind (sh_X4_surfaceAt 1 x1 w) (fun v1 => if v1 = 999 then some ((-1 : Int32), w) else grd (KDx v1 = (6, 3)) (if x2 < 0 then some ((-2 : Int32), w) else if x2 ≤ (w.1 v1 1) then letv (w.1 v1 1) (fun v6 => Option.bind (sh_X6_keepFirst v1 x2 w) (fun w7 => some (v6, w7))) else some ((-2 : Int32), w)))
def sh_X8_draws (x1 : Int32) (x2 : Int32) (x3 : Int32) (w : WX) : Option (Int32 × WX) :=
  Option.bind (sh_X4_surfaceAt 1 x1 w) (fun v1 => if v1 = 999 then some ((-1 : Int32), w) else grd (KDx v1 = (6, 3)) (if x2 < (nI 1) then some ((-2 : Int32), w) else if x2 ≤ (nI 24) then Option.bind (sh_X6_drawMore v1 x2 x3 w) (fun w6 => some (w6.1 v1 1, w6)) else some ((-2 : Int32), w)))
def sh_X8_commonDivisor_s2 (x0 : Int32) (x1 : Int32) (st : Int32) : Option ((Int32) ⊕ ((Int32) ⊕ (Unit))) :=
  if st ≤ (nI 1) then some (Sum.inr (Sum.inr ())) else grd (¬ st = 0) (if (remI x0 st) = 0 then grd (¬ st = 0) (if (remI x1 st) = 0 then some (Sum.inr (Sum.inl st)) else letv (st + (-1 : Int32)) (fun v7 => some (Sum.inl v7))) else letv (st + (-1 : Int32)) (fun v4 => some (Sum.inl v4)))
def sh_X8_commonDivisor (x0 : Int32) (x1 : Int32) : Option (Int32) :=
  Option.bind (lpw (sh_X8_commonDivisor_s2 x0 x1) FU x1) (Sum.elim (fun y2 => some y2) (fun y3 => some (nI 1)))
def sh_X8_odds_s43 (x1 : Int32) (x2 : Int32) (x3 : Int32) (x4 : Int32) (st : Int32 × Int32 × WX) : Option ((Int32 × Int32 × WX) ⊕ ((Int32 × WX))) :=
  if x3 ≤ st.2.1 then some (Sum.inr (st.1, st.2.2)) else Option.bind (sh_X6_keepFirst 119 (nI 0) st.2.2) (fun w2 => Option.bind (sh_X6_drawMore 119 x1 (x2 + st.2.1) w2) (fun w3 => if (w3.1 119 2) = 0 then letv (st.1 + nI 1) (fun v6 => letv (st.2.1 + nI 1) (fun v7 => some (Sum.inl (v6, v7, w3)))) else letv (st.2.1 + nI 1) (fun v5 => some (Sum.inl (st.1, v5, w3)))))
def sh_X8_odds (x1 : Int32) (x2 : Int32) (x3 : Int32) (x4 : Int32) (w : WX) : Option (Int64 × WX) :=
  if x1 < (nI 1) then some ((-9223372036854775808 : Int64), w) else if (nI 24) < x1 then some ((-9223372036854775808 : Int64), w) else if x3 < (nI 1) then some ((-9223372036854775808 : Int64), w) else if (nI 30) < x3 then some ((-9223372036854775808 : Int64), w) else if x4 < 0 then some ((-9223372036854775808 : Int64), w) else if x4 ≤ (nI 1) then Option.bind (lpw (sh_X8_odds_s43 x1 x2 x3 x4) FU (nI 0, nI 0, w)) (fun ex7 => Option.bind (sh_X8_commonDivisor ex7.1 x3) (fun v8 => if x4 = 0 then grd (¬ v8 = 0) (some ((ex7.1 / v8).toInt64, ex7.2)) else grd (¬ v8 = 0) (some ((x3 / v8).toInt64, ex7.2)))) else some ((-9223372036854775808 : Int64), w)
def sh_X8_plan (x1 : Int32) (x2 : Int32) (w : WX) : Option (Int32 × WX) :=
  if x1 < (-1 : Int32) then some ((-1 : Int32), w) else if x1 ≤ (nI 2) then if x1 = (-1 : Int32) then letv (pX (1 + 3) 2 (nI 0) w) (fun w8 => some (nI 0, w8)) else Option.bind (sh_X3_canTell x1 x2) (fun v4 => if v4 = 0 then some ((-2 : Int32), w) else if (w.1 (1 + 3) 2) < (nI 8) then Option.bind (sh_X3_append (1 + 3) x1 x2 w) (fun w7 => some (w7.1 (1 + 3) 2, w7)) else some ((-4 : Int32), w)) else some ((-1 : Int32), w)
def sh_X8_thoughtTogether (x1 : Int32) (w : WX) : Option (Int32 × WX) :=
  Option.bind (sh_X4_algebraAt 1 x1 w) (fun v1 => if v1 = 999 then some ((-1 : Int32), w) else grd (KDx v1 = (0, 13)) (Option.bind (sh_X5_find 145 119 v1 w) (fun w4 => Option.bind (sh_X5_together 145 w4) (fun v5 => some (v5, w4)))))
def sh_X8_behind (x1 : Int32) (x2 : Int32) (w : WX) : Option (Int32 × WX) :=
  Option.bind (sh_X4_surfaceAt 1 x1 w) (fun v1 => if v1 = 999 then some ((-1 : Int32), w) else grd (KDx v1 = (6, 3)) (Option.bind (sh_X6_copyFrom 119 v1 w) (fun w4 => Option.bind (sh_X4_doPlan 1 119 w4) (fun w5 => if x2 = nI 0 then some (w5.1 119 1, w5) else if x2 = nI 1 then some (w5.1 119 2, w5) else if x2 = nI 2 then Option.bind (sh_X2_find 131 119 w5) (fun w9 => some (w9.1 131 0, w9)) else if (nI 10) ≤ x2 then Option.bind (sh_X8_thoughtTogether (x2 - (nI 10)) w5) (fun v11 => some (v11.1, v11.2)) else some ((-1 : Int32), w5)))))
def sh_X8_write_s17 (x2 : Nat) (st : Int32 × WX) : Option ((Int32 × WX) ⊕ ((WX))) :=
  if (st.2.1 x2 1) ≤ st.1 then some (Sum.inr st.2) else Option.bind (ldS 24 (x2 + 1) st.1 st.2.1) (fun v2 => Option.bind (tbl7 sLET v2) (fun v3 => Option.bind (stX 24 118 st.1 v3 st.2) (fun w4 => letv (st.1 + nI 1) (fun v5 => some (Sum.inl (v5, w4))))))
def sh_X8_write (x1 : Int32) (w : WX) : Option (Int32 × WX) :=
  Option.bind (sh_X4_surfaceAt 1 x1 w) (fun v1 => if v1 = 999 then some ((-1 : Int32), w) else grd (KDx v1 = (6, 3)) (Option.bind (lpw (sh_X8_write_s17 v1) FU (nI 0, w)) (fun ex4 => letv (pX 0 6 (ex4.1 v1 1) ex4) (fun w5 => some (w5.1 0 6, w5)))))
def sh_X8_paper (x1 : Int32) (w : WX) : Option (Int32) :=
  if x1 < 0 then some (-1 : Int32) else if x1 < (w.1 0 6) then Option.bind (ldS 24 118 x1 w.1) (fun v3 => some v3) else some (-1 : Int32)
def sh_X8_judge_j111 (x1 : Int32) (x6 : Int32) (s0 : Int32) (w : WX) : Option ((Int32) ⊕ ((Int32) ⊕ (Unit))) :=
  grd (inb x1 4 = true) (grd (KDx (112 + 1 + 1 * x1.toNatClampNeg) = (10, 12)) (Option.bind (ldS 12 (112 + 1 + 1 * x1.toNatClampNeg) x6 w.1) (fun v3 => if v3 = s0 then letv (x6 + nI 1) (fun v5 => some (Sum.inl v5)) else some (Sum.inr (Sum.inl x6)))))
def sh_X8_judge_s71 (x1 : Int32) (w : WX) (st : Int32) : Option ((Int32) ⊕ ((Int32) ⊕ (Unit))) :=
  Option.bind (ldS 4 117 x1 w.1) (fun v1 => if v1 ≤ st then some (Sum.inr (Sum.inr ())) else Option.bind (sh_X5_hasPlace 145 st w) (fun v3 => if v3 = 0 then sh_X8_judge_j111 x1 st (nI 0) w else Option.bind (ldD KDx (w.2 145 0) st w.1) (fun v5 => sh_X8_judge_j111 x1 st v5 w)))
def sh_X8_judge (x1 : Int32) (x2 : Int32) (x3 : Int32) (w : WX) : Option (Int32 × WX) :=
  Option.bind (sh_X4_surfaceAt 1 x2 w) (fun v1 => if v1 = 999 then Option.bind (sh_X4_algebraAt 1 x3 w) (fun v4 => if v4 = 999 then Option.bind (sh_X1_hasNumber x1) (fun v7 => if v7 = 0 then some ((-1 : Int32), w) else some ((-1 : Int32), w)) else grd (KDx v4 = (0, 13)) (Option.bind (sh_X1_hasNumber x1) (fun v9 => if v9 = 0 then some ((-1 : Int32), w) else some ((-1 : Int32), w)))) else grd (KDx v1 = (6, 3)) (Option.bind (sh_X4_algebraAt 1 x3 w) (fun v11 => if v11 = 999 then Option.bind (sh_X1_hasNumber x1) (fun v14 => if v14 = 0 then some ((-1 : Int32), w) else some ((-1 : Int32), w)) else grd (KDx v11 = (0, 13)) (Option.bind (sh_X1_hasNumber x1) (fun v16 => if v16 = 0 then some ((-1 : Int32), w) else Option.bind (sh_X1_isHeld x1 w) (fun v18 => if v18 = 0 then some ((-11 : Int32), w) else Option.bind (sh_X5_find 145 v1 v11 w) (fun w20 => Option.bind (lpw (sh_X8_judge_s71 x1 w20) FU (nI 0)) (Sum.elim (fun y22 => some (y22, w20)) (fun y23 => some ((-5 : Int32), w20))))))))))
def sh_X8_list (x1 : Int32) (x2 : Int32) (w : WX) : Option (Int32 × WX) :=
  Option.bind (sh_X1_hasNumber x1) (fun v1 => if v1 = 0 then some ((-1 : Int32), w) else if x2 ≤ (nI 12) then if 0 ≤ x2 then Option.bind (sh_X1_hold x1 x2 w) (fun w5 => some (nI 1, w5)) else some ((-14 : Int32), w) else some ((-2 : Int32), w))
def sh_X8_put (x1 : Int32) (x2 : Int32) (x3 : Int32) (w : WX) : Option (Int32 × WX) :=
  Option.bind (sh_X1_hasNumber x1) (fun v1 => if v1 = 0 then some ((-1 : Int32), w) else Option.bind (sh_X1_isHeld x1 w) (fun v3 => if v3 = 0 then some ((-11 : Int32), w) else Option.bind (sh_X1_hasPlace x1 x2 w) (fun v5 => if v5 = 0 then some ((-13 : Int32), w) else grd (inb x1 4 = true) (grd (KDx (112 + 1 + 1 * x1.toNatClampNeg) = (10, 12)) (Option.bind (stX 12 (112 + 1 + 1 * x1.toNatClampNeg) x2 x3 w) (fun w9 => some (nI 1, w9)))))))
def sh_X8_get (x1 : Int32) (x2 : Int32) (w : WX) : Option (Int64) :=
  Option.bind (sh_X1_hasPlace x1 x2 w) (fun v1 => if v1 = 0 then some (-9223372036854775808 : Int64) else grd (inb x1 4 = true) (grd (KDx (112 + 1 + 1 * x1.toNatClampNeg) = (10, 12)) (Option.bind (ldS 12 (112 + 1 + 1 * x1.toNatClampNeg) x2 w.1) (fun v5 => some v5.toInt64))))
def sh_X8_image (w : WX) : Option (Int32 × WX) :=
  Option.bind (sh_X4_copyFrom 55 1 w) (fun w1 => letv (pX 0 2 (nI 1) w1) (fun w2 => some (w2.1 1 1, w2)))
def sh_X8_undo (w : WX) : Option (Int32 × WX) :=
  if (w.1 0 2) = 0 then some ((-3 : Int32), w) else Option.bind (sh_X4_copyFrom 1 55 w) (fun w2 => some (w2.1 1 1, w2))
def sh_X8_count (x1 : Int32) (w : WX) : Option (Int32) :=
  if x1 = nI 0 then some (w.1 1 1) else if x1 = nI 1 then Option.bind (sh_X4_piecesOfAll 1 w) (fun v3 => some v3) else if x1 = nI 2 then some (w.1 109 1) else if x1 = nI 3 then some (w.1 0 6) else if x1 = nI 4 then some (w.1 (1 + 3) 2) else some (-2 : Int32)
