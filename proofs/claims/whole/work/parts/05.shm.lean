/-! the reference, as functions of its memory: laid by program out of its bytecode -/
def sh_X9_isIn (x0 : Int64) (x2 : Int64) (x4 : Int64) : Option (Int32) :=
  if (lg_cmp x0 x2) < 0 then some (nI 0) else if 0 < (lg_cmp x0 x4) then some (nI 0) else some (nI 1)
def sh_X9_isAlgebra (x1 : Int32) (w : Mem) : Option (Int32) :=
  Option.bind (ldS 130 1 (nI 0) w) (fun v1 => Option.bind (sh_X9_isIn x1.toInt64 (lN 0) ((v1 - (nI 1)).toInt64)) (fun v2 => grd (v2 = nI 0 ∨ v2 = nI 1) (some v2)))
def sh_X9_isSurface (x0 : Int32) : Option (Int32) :=
  Option.bind (sh_X9_isIn x0.toInt64 (lN 0) (lN 3)) (fun v1 => grd (v1 = nI 0 ∨ v1 = nI 1) (some v1))
def sh_X9_mod (x0 : Int64) : Option (Int32) :=
  some ((remL ((remL x0 (lN 9973)) + (lN 9973)) (lN 9973)).toInt32)
def sh_X9_odd_s4  (st : Int32 × Int32) : Option ((Int32 × Int32) ⊕ ((Int32))) :=
  if st.2 = 0 then some (Sum.inr st.1) else letv (st.1 ^^^ (nI 1)) (fun v2 => letv (st.2 &&& (st.2 - (nI 1))) (fun v3 => some (Sum.inl (v2, v3))))
def sh_X9_odd (x0 : Int32) : Option (Int32) :=
  Option.bind (lpw (sh_X9_odd_s4 ) FU (nI 0, x0)) (fun ex1 => some ex1)
def sh_X9_algebra_j31 (x1 : Int32) (x2 : Int32) (x3 : Int32) (s0 : Int64) (s1 : Int64) (s2 : Int64) (w : Mem) : Option (Int32 × Mem) :=
  Option.bind (sh_X9_isIn s0 s1 s2) (fun v1 => if v1 = 0 then some ((-2 : Int32), w) else Option.bind (sh_X9_isIn x3.toInt64 (lN 0) (lN 9)) (fun v3 => if v3 = 0 then some ((-2 : Int32), w) else Option.bind (ldS 130 1 (nI 0) w) (fun v5 => if v5 = (nI 4) then some ((-4 : Int32), w) else Option.bind (ldS 130 1 (nI 0) w) (fun v7 => Option.bind (stM 130 1 ((nI 1) + v7) x1 w) (fun w8 => Option.bind (stM 130 1 ((nI 5) + v7) x2 w8) (fun w9 => Option.bind (stM 130 1 ((nI 9) + v7) x3 w9) (fun w10 => Option.bind (ldS 130 1 (nI 0) w10) (fun v11 => Option.bind (stM 130 1 (nI 0) (v11 + (nI 1)) w10) (fun w12 => some (v7, w12))))))))))
def sh_X9_algebra (x1 : Int32) (x2 : Int32) (x3 : Int32) (w : Mem) : Option (Int32 × Mem) :=
  Option.bind (sh_X9_isIn x1.toInt64 (lN 0) (lN 4)) (fun v1 => if v1 = 0 then some ((-1 : Int32), w) else if x1 = (nI 4) then sh_X9_algebra_j31 x1 x2 x3 x2.toInt64 (lN 1) (lN 2) w else sh_X9_algebra_j31 x1 x2 x3 x2.toInt64 (lN 1) (lN 6) w)
def sh_X9_becomes (x1 : Int32) (x2 : Int32) (w : Mem) : Option (Int32 × Mem) :=
  Option.bind (sh_X9_isAlgebra x1 w) (fun v1 => if v1 = 0 then some ((-1 : Int32), w) else Option.bind (sh_X9_isIn x2.toInt64 (lN 0) (lN 9)) (fun v3 => if v3 = 0 then some ((-2 : Int32), w) else Option.bind (ldS 130 1 ((nI 9) + x1) w) (fun v5 => Option.bind (stM 130 1 ((nI 9) + x1) x2 w) (fun w6 => some (v5, w6)))))
def sh_X9_elements (x1 : Int32) (w : Mem) : Option (Int32) :=
  Option.bind (ldS 130 1 ((nI 1) + x1) w) (fun v1 => if v1 = (nI 4) then Option.bind (ldS 130 1 ((nI 5) + x1) w) (fun v4 => some ((nI 1) <<< (v4 &&& 31))) else Option.bind (ldS 130 1 ((nI 5) + x1) w) (fun v3 => some v3))
def sh_X9_of (x1 : Int32) (x2 : Int32) (w : Mem) : Option (Int32) :=
  Option.bind (sh_X9_isAlgebra x1 w) (fun v1 => if v1 = 0 then some (-1 : Int32) else if x2 = nI 0 then Option.bind (ldS 130 1 ((nI 1) + x1) w) (fun v4 => some v4) else if x2 = nI 1 then Option.bind (ldS 130 1 ((nI 5) + x1) w) (fun v6 => some v6) else if x2 = nI 2 then Option.bind (ldS 130 1 ((nI 9) + x1) w) (fun v8 => some v8) else if x2 = nI 3 then Option.bind (sh_X9_elements x1 w) (fun v10 => some v10) else some (-1 : Int32))
def sh_X9_at (x1 : Int32) (x2 : Int32) : Option (Int32) :=
  some (((nI 6) * x1) + x2)
def sh_X9_sign_s4 (x0 : Int32) (x1 : Int32) (st : Int32 × Int32) : Option ((Int32 × Int32) ⊕ ((Int32))) :=
  if (nI 3) ≤ st.2 then some (Sum.inr st.1) else if ((x0 >>> (st.2 &&& 31)) &&& (nI 1)) = (nI 1) then Option.bind (sh_X9_odd (x1 &&& (((nI 1) <<< (st.2 &&& 31)) - (nI 1)))) (fun v5 => letv (st.1 ^^^ v5) (fun v6 => letv (st.2 + nI 1) (fun v7 => some (Sum.inl (v6, v7))))) else letv (st.1 ^^^ (nI 0)) (fun v3 => letv (st.2 + nI 1) (fun v4 => some (Sum.inl (v3, v4))))
def sh_X9_sign (x0 : Int32) (x1 : Int32) : Option (Int32) :=
  Option.bind (lpw (sh_X9_sign_s4 x0 x1) FU (nI 0, nI 0)) (fun ex1 => if ex1 = 0 then some (nI 1) else some (-1 : Int32))
def sh_X9_products_j116 (x1 : Int32) (x2 : Int32) (x3 : Int32) (x4 : Int32) (x5 : Int32) (w : Mem) : Option ((Int32 × Mem) ⊕ ((Mem))) :=
  Option.bind (sh_X9_at x2 x3) (fun v1 => Option.bind (stM 36 3 v1 x4 w) (fun w2 => Option.bind (sh_X9_at x2 x3) (fun v3 => Option.bind (sh_X9_mod x5.toInt64) (fun v4 => Option.bind (stM 36 4 v3 v4 w2) (fun w5 => letv (x3 + nI 1) (fun v6 => some (Sum.inl (v6, w5))))))))
def sh_X9_products_j114 (x1 : Int32) (x2 : Int32) (x3 : Int32) (x4 : Int32) (s0 : Int32) (w : Mem) : Option ((Int32 × Mem) ⊕ ((Mem))) :=
  sh_X9_products_j116 x1 x2 x3 x4 s0 w
def sh_X9_products_j86 (x1 : Int32) (x2 : Int32) (x3 : Int32) (x4 : Int32) (x5 : Int32) (w : Mem) : Option ((Int32 × Mem) ⊕ ((Mem))) :=
  if (w 0 4) = (nI 4) then letv (x2 ||| x3) (fun v2 => if (x2 &&& x3) = 0 then Option.bind (sh_X9_sign x2 x3) (fun v4 => sh_X9_products_j114 x1 x2 x3 v2 v4 w) else sh_X9_products_j114 x1 x2 x3 v2 (nI 0) w) else sh_X9_products_j116 x1 x2 x3 x4 x5 w
def sh_X9_products_j84 (x1 : Int32) (x2 : Int32) (x3 : Int32) (x4 : Int32) (s0 : Int32) (w : Mem) : Option ((Int32 × Mem) ⊕ ((Mem))) :=
  sh_X9_products_j86 x1 x2 x3 x4 s0 w
def sh_X9_products_j83 (x1 : Int32) (x2 : Int32) (x3 : Int32) (x4 : Int32) (w : Mem) : Option ((Int32 × Mem) ⊕ ((Mem))) :=
  sh_X9_products_j84 x1 x2 x3 x4 (nI 1) w
def sh_X9_products_j51 (x1 : Int32) (x2 : Int32) (x3 : Int32) (w : Mem) : Option ((Int32 × Mem) ⊕ ((Mem))) :=
  grd (¬ (w 0 3) = 0) (letv (remI (x2 + x3) (w 0 3)) (fun v2 => if (w 0 4) = (nI 3) then if (x2 + x3) < (w 0 3) then sh_X9_products_j83 x1 x2 x3 v2 w else sh_X9_products_j84 x1 x2 x3 v2 x1 w else sh_X9_products_j83 x1 x2 x3 v2 w))
def sh_X9_products_j33 (x1 : Int32) (x2 : Int32) (x3 : Int32) (x4 : Int32) (s0 : Int32) (w : Mem) : Option ((Int32 × Mem) ⊕ ((Mem))) :=
  if (w 0 4) = (nI 2) then sh_X9_products_j51 x1 x2 x3 w else if (w 0 4) = (nI 3) then sh_X9_products_j51 x1 x2 x3 w else sh_X9_products_j86 x1 x2 x3 x4 s0 w
def sh_X9_products_s12 (x1 : Int32) (x2 : Int32) (st : Int32 × Mem) : Option ((Int32 × Mem) ⊕ ((Mem))) :=
  if (st.2 0 3) ≤ st.1 then some (Sum.inr st.2) else if x2 = st.1 then sh_X9_products_j33 x1 x2 st.1 x2 (nI 1) st.2 else sh_X9_products_j33 x1 x2 st.1 x2 (nI 0) st.2
def sh_X9_products_s2 (x1 : Int32) (st : Int32 × Mem) : Option ((Int32 × Mem) ⊕ ((Mem))) :=
  if (st.2 0 3) ≤ st.1 then some (Sum.inr st.2) else Option.bind (lpw (sh_X9_products_s12 x1 st.1) FU (nI 0, st.2)) (fun ex2 => letv (st.1 + nI 1) (fun v3 => some (Sum.inl (v3, ex2))))
def sh_X9_products (x1 : Int32) (w : Mem) : Option (Mem) :=
  Option.bind (lpw (sh_X9_products_s2 x1) FU (nI 0, w)) (fun ex1 => some ex1)
def sh_X9_formOf (x1 : Int32) (x2 : Int32) (w : Mem) : Option (Int32) :=
  Option.bind (sh_X9_at x1 x2) (fun v1 => Option.bind (ldS 36 4 v1 w) (fun v2 => Option.bind (sh_X9_at x1 x2) (fun v3 => Option.bind (ldS 36 3 v3 w) (fun v4 => Option.bind (ldS 6 5 v4 w) (fun v5 => some (remI (v2 * v5) (nI 9973)))))))
def sh_X9_inverse_j30 (x2 : Int32) (x3 : Int32) (s0 : Int32) : Option ((Int32 × Int32 × Int32) ⊕ ((Int32))) :=
  letv (remI (x2 * x2) (nI 9973)) (fun v1 => letv (x3 >>> ((nI 1) &&& 31)) (fun v2 => some (Sum.inl (s0, v1, v2))))
def sh_X9_inverse_s8  (st : Int32 × Int32 × Int32) : Option ((Int32 × Int32 × Int32) ⊕ ((Int32))) :=
  if st.2.2 ≤ 0 then some (Sum.inr st.1) else if (st.2.2 &&& (nI 1)) = (nI 1) then sh_X9_inverse_j30 st.2.1 st.2.2 (remI (st.1 * st.2.1) (nI 9973)) else sh_X9_inverse_j30 st.2.1 st.2.2 st.1
def sh_X9_inverse (x0 : Int32) : Option (Int32) :=
  Option.bind (lpw (sh_X9_inverse_s8 ) FU (nI 1, x0, nI 9971)) (fun ex1 => some ex1)
def sh_X9_laysOut_j137 (x2 : Int32) (x3 : Int32) (s0 : Nat) (s1 : Int32) (s2 : Int32) (w : Mem) : Option ((Int32 × Mem) ⊕ ((Mem))) :=
  Option.bind (stM 6 s0 s1 s2 w) (fun w1 => Option.bind (stM 6 8 x3 (nI 0) w1) (fun w2 => Option.bind (stM 6 9 x3 (nI 0) w2) (fun w3 => letv (x3 + nI 1) (fun v4 => some (Sum.inl (v4, w3))))))
def sh_X9_laysOut_j132 (x2 : Int32) (x3 : Int32) (s0 : Nat) (s1 : Int32) (w : Mem) : Option ((Int32 × Mem) ⊕ ((Mem))) :=
  sh_X9_laysOut_j137 x2 x3 s0 s1 (nI 1) w
def sh_X9_laysOut_j117 (x2 : Int32) (x3 : Int32) (x4 : Int32) (s0 : Nat) (s1 : Int32) (s2 : Int32) (w : Mem) : Option ((Int32 × Mem) ⊕ ((Mem))) :=
  Option.bind (stM 6 s0 s1 s2 w) (fun w1 => if x4 = 0 then if x3 = 0 then sh_X9_laysOut_j132 x2 x3 6 x3 w1 else sh_X9_laysOut_j137 x2 x3 6 x3 (nI 0) w1 else sh_X9_laysOut_j132 x2 x3 6 x3 w1)
def sh_X9_laysOut_j109 (x2 : Int32) (x3 : Int32) (x4 : Int32) (s0 : Nat) (s1 : Int32) (s2 : Int32) (s3 : Int32) (w : Mem) : Option ((Int32 × Mem) ⊕ ((Mem))) :=
  if s2 = s3 then sh_X9_laysOut_j117 x2 x3 x4 s0 s1 (nI 1) w else sh_X9_laysOut_j117 x2 x3 x4 s0 s1 (nI 0) w
def sh_X9_laysOut_j56 (x2 : Int32) (x3 : Int32) (s0 : Int32) (w : Mem) : Option ((Int32 × Mem) ⊕ ((Mem))) :=
  if (w 0 4) = 0 then sh_X9_laysOut_j117 x2 x3 s0 5 x3 (nI 1) w else if (w 0 4) = (nI 1) then sh_X9_laysOut_j117 x2 x3 s0 5 x3 ((x2 + x3) + (nI 1)) w else if (w 0 4) = (nI 2) then sh_X9_laysOut_j109 x2 x3 s0 5 x3 x3 (nI 0) w else sh_X9_laysOut_j109 x2 x3 s0 5 x3 x3 ((w 0 3) - (nI 1)) w
def sh_X9_laysOut_j51 (x2 : Int32) (x3 : Int32) (w : Mem) : Option ((Int32 × Mem) ⊕ ((Mem))) :=
  sh_X9_laysOut_j56 x2 x3 (nI 1) w
def sh_X9_laysOut_s28 (x2 : Int32) (st : Int32 × Mem) : Option ((Int32 × Mem) ⊕ ((Mem))) :=
  if (st.2 0 3) ≤ st.1 then some (Sum.inr st.2) else if (st.2 0 4) = 0 then sh_X9_laysOut_j51 x2 st.1 st.2 else if (st.2 0 4) = (nI 1) then sh_X9_laysOut_j51 x2 st.1 st.2 else sh_X9_laysOut_j56 x2 st.1 (nI 0) st.2
def sh_X9_laysOut_j214 (x3 : Int32) (x4 : Int32) (s0 : Nat) (s1 : Int32) (s2 : Int32) (w : Mem) : Option ((Int32 × Mem) ⊕ ((Mem))) :=
  Option.bind (stM 36 s0 s1 s2 w) (fun w1 => letv (x4 + nI 1) (fun v2 => some (Sum.inl (v2, w1))))
def sh_X9_laysOut_s171 (x3 : Int32) (st : Int32 × Mem) : Option ((Int32 × Mem) ⊕ ((Mem))) :=
  if (st.2 0 3) ≤ st.1 then some (Sum.inr st.2) else Option.bind (sh_X9_formOf st.1 x3 st.2) (fun v2 => Option.bind (sh_X9_at x3 st.1) (fun v3 => if v2 = 0 then sh_X9_laysOut_j214 x3 st.1 7 v3 (nI 0) st.2 else Option.bind (sh_X9_inverse v2) (fun v5 => sh_X9_laysOut_j214 x3 st.1 7 v3 v5 st.2)))
def sh_X9_laysOut_s160  (st : Int32 × Mem) : Option ((Int32 × Mem) ⊕ ((Mem))) :=
  if (st.2 0 3) ≤ st.1 then some (Sum.inr st.2) else Option.bind (lpw (sh_X9_laysOut_s171 st.1) FU (nI 0, st.2)) (fun ex2 => letv (st.1 + nI 1) (fun v3 => some (Sum.inl (v3, ex2))))
def sh_X9_laysOut_j353 (x3 : Int32) (x4 : Int32) (s0 : Nat) (s1 : Int32) (s2 : Int32) (w : Mem) : Option ((Int32 × Mem) ⊕ ((Mem))) :=
  Option.bind (stM 6 s0 s1 s2 w) (fun w1 => letv (x4 + nI 1) (fun v2 => some (Sum.inl (v2, w1))))
def sh_X9_laysOut_s240 (x3 : Int32) (st : Int32 × Mem) : Option ((Int32 × Mem) ⊕ ((Mem))) :=
  if (st.2 0 3) ≤ st.1 then some (Sum.inr st.2) else Option.bind (sh_X9_at x3 st.1) (fun v2 => Option.bind (ldS 36 3 v2 st.2) (fun v3 => Option.bind (ldS 6 8 v3 st.2) (fun v4 => Option.bind (sh_X9_at x3 st.1) (fun v5 => Option.bind (ldS 36 7 v5 st.2) (fun v6 => Option.bind (sh_X9_at x3 st.1) (fun v7 => Option.bind (ldS 36 4 v7 st.2) (fun v8 => Option.bind (stM 6 8 v3 (remI (v4 + (v6 * v8)) (nI 9973)) st.2) (fun w9 => if x3 = st.1 then Option.bind (ldS 6 9 v3 w9) (fun v12 => Option.bind (sh_X9_at x3 st.1) (fun v13 => Option.bind (ldS 36 4 v13 w9) (fun v14 => sh_X9_laysOut_j353 x3 st.1 9 v3 (remI (v12 + v14) (nI 9973)) w9))) else Option.bind (ldS 6 9 v3 w9) (fun v11 => sh_X9_laysOut_j353 x3 st.1 9 v3 v11 w9)))))))))
def sh_X9_laysOut_s229  (st : Int32 × Mem) : Option ((Int32 × Mem) ⊕ ((Mem))) :=
  if (st.2 0 3) ≤ st.1 then some (Sum.inr st.2) else Option.bind (lpw (sh_X9_laysOut_s240 st.1) FU (nI 0, st.2)) (fun ex2 => letv (st.1 + nI 1) (fun v3 => some (Sum.inl (v3, ex2))))
def sh_X9_laysOut (x1 : Int32) (x2 : Int32) (w : Mem) : Option (Mem) :=
  Option.bind (sh_X9_elements x1 w) (fun v1 => letv (mset w 0 3 v1) (fun w2 => Option.bind (ldS 130 1 ((nI 1) + x1) w2) (fun v3 => letv (mset w2 0 4 v3) (fun w4 => Option.bind (sh_X9_products x2 w4) (fun w5 => Option.bind (lpw (sh_X9_laysOut_s28 x2) FU (nI 0, w5)) (fun ex6 => Option.bind (lpw (sh_X9_laysOut_s160 ) FU (nI 0, ex6)) (fun ex7 => Option.bind (lpw (sh_X9_laysOut_s229 ) FU (nI 0, ex7)) (fun ex8 => some ex8))))))))
def sh_X9_laysOut_ (x1 : Int32) (w : Mem) : Option (Mem) :=
  Option.bind (ldS 130 1 ((nI 9) + x1) w) (fun v1 => Option.bind (sh_X9_laysOut x1 v1 w) (fun w2 => some w2))
def sh_X9_isElement (x1 : Int32) (w : Mem) : Option (Int32) :=
  Option.bind (sh_X9_isIn x1.toInt64 (lN 0) (((w 0 3) - (nI 1)).toInt64)) (fun v1 => grd (v1 = nI 0 ∨ v1 = nI 1) (some v1))
def sh_X9_product (x1 : Int32) (x2 : Int32) (x3 : Int32) (x4 : Int32) (w : Mem) : Option (Int32 × Mem) :=
  Option.bind (sh_X9_isAlgebra x1 w) (fun v1 => if v1 = 0 then some ((-1 : Int32), w) else Option.bind (sh_X9_laysOut_ x1 w) (fun w3 => Option.bind (sh_X9_isElement x2 w3) (fun v4 => if v4 = 0 then some ((-1 : Int32), w3) else Option.bind (sh_X9_isElement x3 w3) (fun v6 => if v6 = 0 then some ((-1 : Int32), w3) else Option.bind (sh_X9_isElement x4 w3) (fun v8 => if v8 = 0 then some ((-1 : Int32), w3) else Option.bind (sh_X9_at x2 x3) (fun v10 => Option.bind (ldS 36 3 v10 w3) (fun v11 => if v11 = x4 then Option.bind (sh_X9_at x2 x3) (fun v13 => Option.bind (ldS 36 4 v13 w3) (fun v14 => some (v14, w3))) else some (nI 0, w3))))))))
def sh_X9_form (x1 : Int32) (x2 : Int32) (x3 : Int32) (x4 : Int32) (w : Mem) : Option (Int32 × Mem) :=
  Option.bind (sh_X9_isAlgebra x1 w) (fun v1 => if v1 = 0 then some ((-1 : Int32), w) else Option.bind (sh_X9_laysOut_ x1 w) (fun w3 => Option.bind (sh_X9_isElement x2 w3) (fun v4 => if v4 = 0 then some ((-1 : Int32), w3) else Option.bind (sh_X9_isElement x3 w3) (fun v6 => if v6 = 0 then some ((-1 : Int32), w3) else Option.bind (sh_X9_isIn x4.toInt64 (lN 0) (lN 1)) (fun v8 => if v8 = 0 then some ((-1 : Int32), w3) else if x4 = 0 then Option.bind (sh_X9_formOf x2 x3 w3) (fun v13 => some (v13, w3)) else Option.bind (sh_X9_at x2 x3) (fun v11 => Option.bind (ldS 36 7 v11 w3) (fun v12 => some (v12, w3))))))))
def sh_X9_element (x1 : Int32) (x2 : Int32) (x3 : Int32) (w : Mem) : Option (Int32 × Mem) :=
  Option.bind (sh_X9_isAlgebra x1 w) (fun v1 => if v1 = 0 then some ((-1 : Int32), w) else Option.bind (sh_X9_laysOut_ x1 w) (fun w3 => Option.bind (sh_X9_isElement x2 w3) (fun v4 => if v4 = 0 then some ((-1 : Int32), w3) else if x3 = nI 0 then Option.bind (ldS 6 5 x2 w3) (fun v7 => some (v7, w3)) else if x3 = nI 1 then Option.bind (ldS 6 6 x2 w3) (fun v9 => some (v9, w3)) else if x3 = nI 2 then Option.bind (ldS 6 8 x2 w3) (fun v11 => some (v11, w3)) else if x3 = nI 3 then Option.bind (ldS 6 9 x2 w3) (fun v13 => some (v13, w3)) else some ((-1 : Int32), w3))))
def sh_X9_splitOf_s6 (x1 : Int32) (x2 : Int32) (x3 : Int32) (w : Mem) (st : Int32 × Int32) : Option ((Int32 × Int32) ⊕ ((Int32))) :=
  if (w 0 3) ≤ st.2 then some (Sum.inr st.1) else Option.bind (sh_X9_at x1 st.2) (fun v2 => Option.bind (ldS 36 3 v2 w) (fun v3 => if v3 = x2 then Option.bind (sh_X9_at x1 st.2) (fun v7 => Option.bind (ldS 36 4 v7 w) (fun v8 => Option.bind (sh_X9_at st.2 x3) (fun v9 => Option.bind (ldS 36 7 v9 w) (fun v10 => letv (st.1 + (remI (v8 * v10) (nI 9973))) (fun v11 => letv (st.2 + nI 1) (fun v12 => some (Sum.inl (v11, v12)))))))) else letv (st.1 + (nI 0)) (fun v5 => letv (st.2 + nI 1) (fun v6 => some (Sum.inl (v5, v6))))))
def sh_X9_splitOf (x1 : Int32) (x2 : Int32) (x3 : Int32) (w : Mem) : Option (Int32) :=
  Option.bind (lpw (sh_X9_splitOf_s6 x1 x2 x3 w) FU (nI 0, nI 0)) (fun ex1 => some (remI ex1 (nI 9973)))
def sh_X9_split (x1 : Int32) (x2 : Int32) (x3 : Int32) (x4 : Int32) (w : Mem) : Option (Int32 × Mem) :=
  Option.bind (sh_X9_isAlgebra x1 w) (fun v1 => if v1 = 0 then some ((-1 : Int32), w) else Option.bind (sh_X9_laysOut_ x1 w) (fun w3 => Option.bind (sh_X9_isElement x2 w3) (fun v4 => if v4 = 0 then some ((-1 : Int32), w3) else Option.bind (sh_X9_isElement x3 w3) (fun v6 => if v6 = 0 then some ((-1 : Int32), w3) else Option.bind (sh_X9_isElement x4 w3) (fun v8 => if v8 = 0 then some ((-1 : Int32), w3) else Option.bind (sh_X9_splitOf x2 x3 x4 w3) (fun v10 => some (v10, w3)))))))
def sh_X9_multiplies_s2 (x1 : Nat) (st : Int32 × Mem) : Option ((Int32 × Mem) ⊕ ((Mem))) :=
  if (st.2 0 3) ≤ st.1 then some (Sum.inr st.2) else Option.bind (stM 6 11 st.1 (nI 0) st.2) (fun w2 => letv (st.1 + nI 1) (fun v3 => some (Sum.inl (v3, w2))))
def sh_X9_multiplies_s35 (x1 : Nat) (x2 : Int32) (st : Int32 × Mem) : Option ((Int32 × Mem) ⊕ ((Mem))) :=
  if (st.2 0 3) ≤ st.1 then some (Sum.inr st.2) else Option.bind (sh_X9_at x2 st.1) (fun v2 => Option.bind (ldS 36 3 v2 st.2) (fun v3 => Option.bind (ldS 6 11 v3 st.2) (fun v4 => Option.bind (ldS 6 10 x2 st.2) (fun v5 => Option.bind (ldD KDm x1 st.1 st.2) (fun v6 => Option.bind (sh_X9_at x2 st.1) (fun v7 => Option.bind (ldS 36 4 v7 st.2) (fun v8 => Option.bind (stM 6 11 v3 ((remL (v4.toInt64 + ((remL (v5.toInt64 * v6.toInt64) (lN 9973)) * v8.toInt64)) (lN 9973)).toInt32) st.2) (fun w9 => letv (st.1 + nI 1) (fun v10 => some (Sum.inl (v10, w9)))))))))))
def sh_X9_multiplies_s25 (x1 : Nat) (st : Int32 × Mem) : Option ((Int32 × Mem) ⊕ ((Mem))) :=
  if (st.2 0 3) ≤ st.1 then some (Sum.inr st.2) else Option.bind (lpw (sh_X9_multiplies_s35 x1 st.1) FU (nI 0, st.2)) (fun ex2 => letv (st.1 + nI 1) (fun v3 => some (Sum.inl (v3, ex2))))
def sh_X9_multiplies_s120  (st : Int32 × Mem) : Option ((Int32 × Mem) ⊕ ((Mem))) :=
  if (st.2 0 3) ≤ st.1 then some (Sum.inr st.2) else Option.bind (ldS 6 11 st.1 st.2) (fun v2 => Option.bind (stM 6 10 st.1 v2 st.2) (fun w3 => letv (st.1 + nI 1) (fun v4 => some (Sum.inl (v4, w3)))))
def sh_X9_multiplies (x1 : Nat) (w : Mem) : Option (Mem) :=
  Option.bind (lpw (sh_X9_multiplies_s2 x1) FU (nI 0, w)) (fun ex1 => Option.bind (lpw (sh_X9_multiplies_s25 x1) FU (nI 0, ex1)) (fun ex2 => Option.bind (lpw (sh_X9_multiplies_s120 ) FU (nI 0, ex2)) (fun ex3 => some ex3)))
def sh_X9_closedBy_s2 (x1 : Int32) (x2 : Int32) (st : Int32 × Mem) : Option ((Int32 × Mem) ⊕ ((Mem))) :=
  if (st.2 0 3) ≤ st.1 then some (Sum.inr st.2) else Option.bind (ldS 6 6 st.1 st.2) (fun v2 => Option.bind (stM 6 10 st.1 v2 st.2) (fun w3 => letv (st.1 + nI 1) (fun v4 => some (Sum.inl (v4, w3)))))
def sh_X9_closedBy_j54 (x1 : Int32) (x2 : Int32) (x3 : Int32) (s1 : Nat) (w : Mem) : Option ((Int32 × Mem) ⊕ ((Mem))) :=
  Option.bind (sh_X9_multiplies s1 w) (fun w1 => letv (x3 + nI 1) (fun v2 => some (Sum.inl (v2, w1))))
def sh_X9_closedBy_s30 (x1 : Int32) (x2 : Int32) (st : Int32 × Mem) : Option ((Int32 × Mem) ⊕ ((Mem))) :=
  if (x1 + x2) ≤ st.1 then some (Sum.inr st.2) else if x1 ≤ st.1 then sh_X9_closedBy_j54 x1 x2 st.1 9 st.2 else sh_X9_closedBy_j54 x1 x2 st.1 8 st.2
def sh_X9_closedBy_s68 (w : Mem) (st : Int32 × Int32) : Option ((Int32 × Int32) ⊕ ((Int32))) :=
  if (w 0 3) ≤ st.2 then some (Sum.inr st.1) else Option.bind (ldS 6 10 st.2 w) (fun v2 => Option.bind (ldS 6 5 st.2 w) (fun v3 => letv (remI (st.1 + (v2 * v3)) (nI 9973)) (fun v4 => letv (st.2 + nI 1) (fun v5 => some (Sum.inl (v4, v5))))))
def sh_X9_closedBy (x1 : Int32) (x2 : Int32) (w : Mem) : Option (Int32 × Mem) :=
  Option.bind (lpw (sh_X9_closedBy_s2 x1 x2) FU (nI 0, w)) (fun ex1 => Option.bind (lpw (sh_X9_closedBy_s30 x1 x2) FU (nI 0, ex1)) (fun ex2 => Option.bind (lpw (sh_X9_closedBy_s68 ex2) FU (nI 0, nI 0)) (fun ex3 => some (ex3, ex2))))
def sh_X9_closed (x1 : Int32) (x2 : Int32) (x3 : Int32) (w : Mem) : Option (Int32 × Mem) :=
  Option.bind (sh_X9_isAlgebra x1 w) (fun v1 => if v1 = 0 then some ((-1 : Int32), w) else Option.bind (sh_X9_isIn x2.toInt64 (lN 0) (lN 20)) (fun v3 => if v3 = 0 then some ((-2 : Int32), w) else Option.bind (sh_X9_isIn x3.toInt64 (lN 0) (lN 20)) (fun v5 => if v5 = 0 then some ((-2 : Int32), w) else Option.bind (sh_X9_laysOut_ x1 w) (fun w7 => Option.bind (sh_X9_closedBy x2 x3 w7) (fun v8 => some (v8.1, v8.2))))))
def sh_X9_handles_s33 (x2 : Int32) (x3 : Int32) (st : Int32 × Mem) : Option ((Int32 × Mem) ⊕ ((Int32 × Mem) ⊕ (Mem))) :=
  if (nI 20) < st.1 then some (Sum.inr (Sum.inr st.2)) else Option.bind (sh_X9_closedBy st.1 x2 st.2) (fun v2 => if v2.1 = x3 then some (Sum.inr (Sum.inl (st.1, v2.2))) else letv (st.1 + nI 1) (fun v4 => some (Sum.inl (v4, v2.2))))
def sh_X9_handles (x1 : Int32) (x2 : Int32) (x3 : Int32) (w : Mem) : Option (Int32 × Mem) :=
  Option.bind (sh_X9_isAlgebra x1 w) (fun v1 => if v1 = 0 then some ((-1 : Int32), w) else Option.bind (sh_X9_isIn x2.toInt64 (lN 0) (lN 20)) (fun v3 => if v3 = 0 then some ((-2 : Int32), w) else Option.bind (sh_X9_laysOut_ x1 w) (fun w5 => Option.bind (lpw (sh_X9_handles_s33 x2 x3) FU (nI 0, w5)) (Sum.elim (fun y7 => some (y7.1, y7.2)) (fun y8 => some ((-5 : Int32), y8))))))
def sh_X9_were_s43 (x1 : Int32) (x2 : Int32) (x3 : Int32) (x4 : Int32) (st : Int32 × Int32 × Mem) : Option ((Int32 × Int32 × Mem) ⊕ ((Int32 × Mem))) :=
  if (nI 9) < st.2.1 then some (Sum.inr (st.1, st.2.2)) else Option.bind (sh_X9_laysOut x1 st.2.1 st.2.2) (fun w2 => Option.bind (sh_X9_closedBy x2 x3 w2) (fun v3 => if v3.1 = x4 then letv (st.1 ||| ((nI 1) <<< (st.2.1 &&& 31))) (fun v7 => letv (st.2.1 + nI 1) (fun v8 => some (Sum.inl (v7, v8, v3.2)))) else letv (st.1 ||| (nI 0)) (fun v5 => letv (st.2.1 + nI 1) (fun v6 => some (Sum.inl (v5, v6, v3.2))))))
def sh_X9_were (x1 : Int32) (x2 : Int32) (x3 : Int32) (x4 : Int32) (w : Mem) : Option (Int32 × Mem) :=
  Option.bind (sh_X9_isAlgebra x1 w) (fun v1 => if v1 = 0 then some ((-1 : Int32), w) else Option.bind (sh_X9_isIn x2.toInt64 (lN 0) (lN 20)) (fun v3 => if v3 = 0 then some ((-2 : Int32), w) else Option.bind (sh_X9_isIn x3.toInt64 (lN 0) (lN 20)) (fun v5 => if v5 = 0 then some ((-2 : Int32), w) else Option.bind (lpw (sh_X9_were_s43 x1 x2 x3 x4) FU (nI 0, nI 0, w)) (fun ex7 => some (ex7.1, ex7.2)))))
def sh_X9_loads_s15 (x1 : Int32) (st : Int32 × Mem) : Option ((Int32 × Mem) ⊕ ((Mem))) :=
  if (st.2 0 15) ≤ st.1 then some (Sum.inr st.2) else Option.bind (ldS 130 1 (((nI 17) + ((nI 24) * x1)) + st.1) st.2) (fun v2 => Option.bind (stM 48 12 st.1 v2 st.2) (fun w3 => letv (st.1 + nI 1) (fun v4 => some (Sum.inl (v4, w3)))))
def sh_X9_loads (x1 : Int32) (w : Mem) : Option (Mem) :=
  Option.bind (ldS 130 1 ((nI 13) + x1) w) (fun v1 => letv (mset w 0 15 v1) (fun w2 => Option.bind (lpw (sh_X9_loads_s15 x1) FU (nI 0, w2)) (fun ex3 => some ex3)))
def sh_X9_saves_s15 (x1 : Int32) (st : Int32 × Mem) : Option ((Int32 × Mem) ⊕ ((Mem))) :=
  if (st.2 0 15) ≤ st.1 then some (Sum.inr st.2) else Option.bind (ldS 48 12 st.1 st.2) (fun v2 => Option.bind (stM 130 1 (((nI 17) + ((nI 24) * x1)) + st.1) v2 st.2) (fun w3 => letv (st.1 + nI 1) (fun v4 => some (Sum.inl (v4, w3)))))
def sh_X9_saves (x1 : Int32) (w : Mem) : Option (Mem) :=
  Option.bind (stM 130 1 ((nI 13) + x1) (w 0 15) w) (fun w1 => Option.bind (lpw (sh_X9_saves_s15 x1) FU (nI 0, w1)) (fun ex2 => some ex2))
def sh_X9_behind_j52 (x0 : Int32) (x2 : Int32) (x3 : Int32) (s0 : Int32) : Option (Int32) :=
  if x0 < x3 then some (-1 : Int32) else if (x0 + s0) ≤ x2 then some (x0 + s0) else some (-1 : Int32)
def sh_X9_behind_j33 (x0 : Int32) (x2 : Int32) (x3 : Int32) : Option (Int32) :=
  sh_X9_behind_j52 x0 x2 x3 (nI 1)
def sh_X9_behind_j47 (x0 : Int32) (x2 : Int32) (x3 : Int32) : Option (Int32) :=
  sh_X9_behind_j52 x0 x2 x3 (-1 : Int32)
def sh_X9_behind_j23 (x0 : Int32) (x1 : Int32) (x2 : Int32) (s0 : Int32) : Option (Int32) :=
  if x1 = 0 then sh_X9_behind_j33 x0 x2 s0 else if x1 = (nI 2) then sh_X9_behind_j33 x0 x2 s0 else if x1 = (nI 1) then sh_X9_behind_j47 x0 x2 s0 else if x1 = (nI 3) then sh_X9_behind_j47 x0 x2 s0 else sh_X9_behind_j52 x0 x2 s0 (nI 0)
def sh_X9_behind_j18 (x0 : Int32) (x1 : Int32) (x2 : Int32) : Option (Int32) :=
  sh_X9_behind_j23 x0 x1 x2 (nI 2)
def sh_X9_behind (x0 : Int32) (x1 : Int32) (x2 : Int32) : Option (Int32) :=
  if x1 = 0 then sh_X9_behind_j23 x0 x1 x2 (nI 0) else if x1 = (nI 1) then sh_X9_behind_j18 x0 x1 x2 else if x1 = (nI 4) then sh_X9_behind_j18 x0 x1 x2 else sh_X9_behind_j23 x0 x1 x2 (nI 1)
def sh_X9_circles_s4 (w : Mem) (st : Int32 × Int32) : Option ((Int32 × Int32) ⊕ ((Int32))) :=
  if (w 0 15) ≤ st.2 then some (Sum.inr st.1) else Option.bind (ldS 48 12 st.2 w) (fun v2 => Option.bind (sh_X9_behind st.1 v2 (nI 3)) (fun v3 => letv (st.2 + nI 1) (fun v4 => some (Sum.inl (v3, v4)))))
def sh_X9_circles (w : Mem) : Option (Int32) :=
  Option.bind (lpw (sh_X9_circles_s4 w) FU (nI 0, nI 0)) (fun ex1 => some ex1)
def sh_X9_canStand (x1 : Int32) (w : Mem) : Option (Int32) :=
  Option.bind (sh_X9_circles w) (fun v1 => Option.bind (sh_X9_behind v1 x1 (nI 3)) (fun v2 => if v2 < 0 then some (nI 0) else some (nI 1)))
def sh_X9_adds (x1 : Int32) (w : Mem) : Option (Mem) :=
  Option.bind (stM 48 12 (w 0 15) x1 w) (fun w1 => letv (mset w1 0 15 ((w1 0 15) + (nI 1))) (fun w2 => some w2))
def sh_X9_letterOf (x0 : Int32) : Option (Int32) :=
  if x0 = nI 0 then some (nI 111) else if x0 = nI 1 then some (nI 109) else if x0 = nI 2 then some (nI 119) else if x0 = nI 3 then some (nI 99) else if x0 = nI 4 then some (nI 120) else if x0 = nI 5 then some (nI 104) else some (nI 107)
def sh_X9_pieceBy_s2 (x0 : Int32) (st : Int32) : Option ((Int32) ⊕ ((Int32) ⊕ (Unit))) :=
  if (nI 7) ≤ st then some (Sum.inr (Sum.inr ())) else Option.bind (sh_X9_letterOf st) (fun v2 => if v2 = x0 then some (Sum.inr (Sum.inl st)) else letv (st + nI 1) (fun v4 => some (Sum.inl v4)))
def sh_X9_pieceBy (x0 : Int32) : Option (Int32) :=
  Option.bind (lpw (sh_X9_pieceBy_s2 x0) FU (nI 0)) (Sum.elim (fun y2 => some y2) (fun y3 => some (-1 : Int32)))
def sh_X9_feed (x1 : Int32) (w : Mem) : Option (Int32 × Mem) :=
  Option.bind (sh_X9_isIn x1.toInt64 (lN 1) (lN 127)) (fun v1 => if v1 = 0 then some ((-2 : Int32), w) else if (w 0 17) = (nI 60) then some ((-4 : Int32), w) else Option.bind (stM 60 13 (w 0 17) x1 w) (fun w4 => letv (mset w4 0 17 ((w4 0 17) + (nI 1))) (fun w5 => some (w5 0 17, w5))))
def sh_X9_comes_s2 (x1 : Int32) (x2 : Int32) (st : Int32 × Mem) : Option ((Int32 × Mem) ⊕ ((Mem) ⊕ (Mem))) :=
  if x2 ≤ st.1 then some (Sum.inr (Sum.inr st.2)) else if (st.2 0 15) = (nI 24) then some (Sum.inr (Sum.inl st.2)) else Option.bind (sh_X9_canStand x1 st.2) (fun v3 => if v3 = 0 then some (Sum.inr (Sum.inl st.2)) else Option.bind (sh_X9_adds x1 st.2) (fun w5 => letv (st.1 + nI 1) (fun v6 => some (Sum.inl (v6, w5)))))
def sh_X9_comes (x1 : Int32) (x2 : Int32) (w : Mem) : Option (Int32 × Mem) :=
  Option.bind (lpw (sh_X9_comes_s2 x1 x2) FU (nI 0, w)) (Sum.elim (fun y2 => some (nI 0, y2)) (fun y3 => some (nI 1, y3)))
def sh_X9_fault_j75 (x2 : Int32) (x3 : Int32) (w : Mem) : Option ((Int32 × Int32 × Mem) ⊕ ((Int32 × Mem) ⊕ (Int32 × Mem) ⊕ (Mem))) :=
  if x3 = (-1 : Int32) then letv (x2 + nI 1) (fun v2 => some (Sum.inl (x3, v2, w))) else Option.bind (sh_X9_comes x3 (nI 1) w) (fun v3 => if v3.1 = 0 then some (Sum.inr (Sum.inr (Sum.inl (x2, v3.2)))) else letv (x2 + nI 1) (fun v5 => some (Sum.inl (x3, v5, v3.2))))
def sh_X9_fault_s9  (st : Int32 × Int32 × Mem) : Option ((Int32 × Int32 × Mem) ⊕ ((Int32 × Mem) ⊕ (Int32 × Mem) ⊕ (Mem))) :=
  if (st.2.2 0 17) ≤ st.2.1 then some (Sum.inr (Sum.inr (Sum.inr st.2.2))) else Option.bind (ldS 60 13 st.2.1 st.2.2) (fun v2 => Option.bind (sh_X9_pieceBy v2) (fun v3 => if v3 = (-1 : Int32) then if st.1 = (-1 : Int32) then some (Sum.inr (Sum.inl (st.2.1, st.2.2))) else Option.bind (ldS 60 13 st.2.1 st.2.2) (fun v6 => Option.bind (sh_X9_isIn v6.toInt64 (lN 50) (lN 57)) (fun v7 => if v7 = 0 then some (Sum.inr (Sum.inl (st.2.1, st.2.2))) else Option.bind (ldS 60 13 st.2.1 st.2.2) (fun v9 => Option.bind (sh_X9_comes st.1 (v9 - (nI 49)) st.2.2) (fun v10 => if v10.1 = 0 then some (Sum.inr (Sum.inl (st.2.1, v10.2))) else sh_X9_fault_j75 st.2.1 v3 v10.2)))) else sh_X9_fault_j75 st.2.1 v3 st.2.2))
def sh_X9_fault (w : Mem) : Option (Int32 × Mem) :=
  letv (mset w 0 15 (nI 0)) (fun w1 => Option.bind (lpw (sh_X9_fault_s9 ) FU ((-1 : Int32), nI 0, w1)) (Sum.elim (fun y3 => some (y3.1, y3.2)) (Sum.elim (fun y4 => some (y4.1, y4.2)) (fun y5 => if (y5 0 17) = 0 then some (nI 0, y5) else some ((-1 : Int32), y5)))))
def sh_X9_surface (x1 : Int32) (w : Mem) : Option (Int32 × Mem) :=
  Option.bind (sh_X9_isSurface x1) (fun v1 => if v1 = 0 then some ((-1 : Int32), w) else Option.bind (sh_X9_fault w) (fun v3 => letv (mset v3.2 0 17 (nI 0)) (fun w4 => if v3.1 = (-1 : Int32) then Option.bind (sh_X9_saves x1 w4) (fun w6 => some (w6 0 15, w6)) else some ((-100 : Int32) - v3.1, w4))))
def sh_X9_piece (x1 : Int32) (x2 : Int32) (w : Mem) : Option (Int32 × Mem) :=
  Option.bind (sh_X9_isSurface x1) (fun v1 => if v1 = 0 then some ((-1 : Int32), w) else Option.bind (sh_X9_isIn x2.toInt64 (lN 0) (lN 6)) (fun v3 => if v3 = 0 then some ((-1 : Int32), w) else Option.bind (sh_X9_loads x1 w) (fun w5 => Option.bind (sh_X9_canStand x2 w5) (fun v6 => if v6 = 0 then some ((-3 : Int32), w5) else if (w5 0 15) = (nI 24) then some ((-4 : Int32), w5) else Option.bind (sh_X9_adds x2 w5) (fun w9 => Option.bind (sh_X9_saves x1 w9) (fun w10 => some (w10 0 15, w10)))))))
def sh_X9_pieceOf (x1 : Int32) (x2 : Int32) (w : Mem) : Option (Int32) :=
  Option.bind (sh_X9_isSurface x1) (fun v1 => if v1 = 0 then some (-1 : Int32) else Option.bind (ldS 130 1 ((nI 13) + x1) w) (fun v3 => Option.bind (sh_X9_isIn x2.toInt64 (lN 0) ((v3 - (nI 1)).toInt64)) (fun v4 => if v4 = 0 then some (-1 : Int32) else Option.bind (ldS 130 1 (((nI 17) + ((nI 24) * x1)) + x2) w) (fun v6 => some v6))))
def sh_X9_first_s2 (w : Mem) (st : Int32) : Option ((Int32) ⊕ ((Int32))) :=
  Option.bind (ldS 24 15 st w) (fun v1 => if v1 = st then some (Sum.inr st) else Option.bind (ldS 24 15 st w) (fun v3 => some (Sum.inl v3)))
def sh_X9_first (x1 : Int32) (w : Mem) : Option (Int32) :=
  Option.bind (lpw (sh_X9_first_s2 w) FU x1) (fun ex1 => some ex1)
def sh_X9_partsOf_j338 (x1 : Int32) (x2 : Int32) (s0 : Nat) (s1 : Int32) (s2 : Int32) (s3 : Int32) (w : Mem) : Option ((Int32 × Int32 × Mem) ⊕ ((Int32 × Mem))) :=
  Option.bind (stM 24 s0 s1 (s2 + s3) w) (fun w1 => letv (x2 + nI 1) (fun v2 => some (Sum.inl (x1, v2, w1))))
def sh_X9_partsOf_j323 (x1 : Int32) (x2 : Int32) (s0 : Nat) (s1 : Int32) (s2 : Int32) (w : Mem) : Option ((Int32 × Int32 × Mem) ⊕ ((Int32 × Mem))) :=
  sh_X9_partsOf_j338 x1 x2 s0 s1 s2 (nI 1) w
def sh_X9_partsOf_j304 (x1 : Int32) (x2 : Int32) (x3 : Int32) (x4 : Int32) (s0 : Nat) (s1 : Int32) (s2 : Int32) (s3 : Int32) (w : Mem) : Option ((Int32 × Int32 × Mem) ⊕ ((Int32 × Mem))) :=
  Option.bind (stM 24 s0 s1 (s2 ||| s3) w) (fun w1 => Option.bind (ldS 24 16 x4 w1) (fun v2 => if x3 = 0 then sh_X9_partsOf_j323 x1 x2 16 x4 v2 w1 else if x3 = (nI 3) then sh_X9_partsOf_j323 x1 x2 16 x4 v2 w1 else if x3 = (nI 5) then sh_X9_partsOf_j338 x1 x2 16 x4 v2 (-2 : Int32) w1 else sh_X9_partsOf_j338 x1 x2 16 x4 v2 (-1 : Int32) w1))
def sh_X9_partsOf_j283 (x2 : Int32) (x3 : Int32) (x4 : Int32) (s0 : Int32) (s1 : Int32) (w : Mem) : Option ((Int32 × Int32 × Mem) ⊕ ((Int32 × Mem))) :=
  letv (s0 - s1) (fun v1 => Option.bind (ldS 24 18 x4 w) (fun v2 => if x3 = (nI 6) then sh_X9_partsOf_j304 v1 x2 x3 x4 18 x4 v2 (nI 1) w else sh_X9_partsOf_j304 v1 x2 x3 x4 18 x4 v2 (nI 0) w))
def sh_X9_partsOf_j272 (x1 : Int32) (x2 : Int32) (x3 : Int32) (x4 : Int32) (w : Mem) : Option ((Int32 × Int32 × Mem) ⊕ ((Int32 × Mem))) :=
  if x3 = (nI 3) then sh_X9_partsOf_j283 x2 x3 x4 x1 (nI 1) w else sh_X9_partsOf_j283 x2 x3 x4 x1 (nI 0) w
def sh_X9_partsOf_j256 (x1 : Int32) (x2 : Int32) (x3 : Int32) (x4 : Int32) (w : Mem) : Option ((Int32 × Int32 × Mem) ⊕ ((Int32 × Mem))) :=
  if x3 = (nI 2) then Option.bind (stM 3 14 x1 x4 w) (fun w2 => letv (x1 + nI 1) (fun v3 => sh_X9_partsOf_j272 v3 x2 x3 x4 w2)) else sh_X9_partsOf_j272 x1 x2 x3 x4 w
def sh_X9_partsOf_j239 (x1 : Int32) (x2 : Int32) (x3 : Int32) (x6 : Int32) (w : Mem) : Option ((Int32 × Int32 × Mem) ⊕ ((Int32 × Mem))) :=
  letv (x1 + (-1 : Int32)) (fun v1 => Option.bind (stM 3 14 (v1 - (nI 1)) x6 w) (fun w2 => sh_X9_partsOf_j256 v1 x2 x3 x6 w2))
def sh_X9_partsOf_j94 (x1 : Int32) (x2 : Int32) (x3 : Int32) (w : Mem) : Option ((Int32 × Int32 × Mem) ⊕ ((Int32 × Mem))) :=
  if x3 = (nI 4) then Option.bind (ldS 3 14 (x1 - (nI 1)) w) (fun v17 => Option.bind (ldS 3 14 (x1 - (nI 2)) w) (fun v18 => Option.bind (stM 3 14 (x1 - (nI 1)) v18 w) (fun w19 => Option.bind (stM 3 14 (x1 - (nI 2)) v17 w19) (fun w20 => letv (x2 + nI 1) (fun v21 => some (Sum.inl (x1, v21, w20))))))) else Option.bind (ldS 3 14 (x1 - (nI 1)) w) (fun v2 => Option.bind (sh_X9_first v2 w) (fun v3 => if x3 = (nI 1) then Option.bind (ldS 3 14 (x1 - (nI 2)) w) (fun v5 => Option.bind (sh_X9_first v5 w) (fun v6 => letv (mnI v3 v6) (fun v7 => letv (mxI v3 v6) (fun v8 => if v8 = v7 then sh_X9_partsOf_j239 x1 x2 x3 v7 w else Option.bind (stM 24 15 v8 v7 w) (fun w10 => Option.bind (ldS 24 16 v7 w10) (fun v11 => Option.bind (ldS 24 16 v8 w10) (fun v12 => Option.bind (stM 24 16 v7 (v11 + v12) w10) (fun w13 => Option.bind (ldS 24 18 v7 w13) (fun v14 => Option.bind (ldS 24 18 v8 w13) (fun v15 => Option.bind (stM 24 18 v7 (v14 ||| v15) w13) (fun w16 => sh_X9_partsOf_j239 x1 x2 x3 v7 w16))))))))))) else sh_X9_partsOf_j256 x1 x2 x3 v3 w))
def sh_X9_partsOf_s9  (st : Int32 × Int32 × Mem) : Option ((Int32 × Int32 × Mem) ⊕ ((Int32 × Mem))) :=
  if (st.2.2 0 15) ≤ st.2.1 then some (Sum.inr (st.1, st.2.2)) else Option.bind (ldS 48 12 st.2.1 st.2.2) (fun v2 => if v2 = 0 then Option.bind (stM 24 15 (st.2.2 0 23) (st.2.2 0 23) st.2.2) (fun w4 => Option.bind (stM 24 16 (w4 0 23) (nI 0) w4) (fun w5 => Option.bind (stM 24 17 (w5 0 23) (nI 0) w5) (fun w6 => Option.bind (stM 24 18 (w6 0 23) (nI 0) w6) (fun w7 => Option.bind (stM 3 14 st.1 (w7 0 23) w7) (fun w8 => letv (mset w8 0 23 ((w8 0 23) + (nI 1))) (fun w9 => letv (st.1 + nI 1) (fun v10 => sh_X9_partsOf_j94 v10 st.2.1 v2 w9))))))) else sh_X9_partsOf_j94 st.1 st.2.1 v2 st.2.2)
def sh_X9_partsOf_s348 (x1 : Int32) (st : Int32 × Mem) : Option ((Int32 × Mem) ⊕ ((Mem))) :=
  if x1 ≤ st.1 then some (Sum.inr st.2) else Option.bind (ldS 3 14 st.1 st.2) (fun v2 => Option.bind (sh_X9_first v2 st.2) (fun v3 => Option.bind (ldS 24 17 v3 st.2) (fun v4 => Option.bind (stM 24 17 v3 (v4 + (nI 1)) st.2) (fun w5 => letv (st.1 + nI 1) (fun v6 => some (Sum.inl (v6, w5)))))))
def sh_X9_partsOf (w : Mem) : Option (Mem) :=
  letv (mset w 0 23 (nI 0)) (fun w1 => Option.bind (lpw (sh_X9_partsOf_s9 ) FU (nI 0, nI 0, w1)) (fun ex2 => Option.bind (lpw (sh_X9_partsOf_s348 ex2.1) FU (nI 0, ex2.2)) (fun ex3 => some ex3)))
def sh_X9_partAt_s4 (w : Mem) (st : Int32 × Int32) : Option ((Int32 × Int32) ⊕ ((Int32) ⊕ (Unit))) :=
  if (w 0 23) ≤ st.2 then some (Sum.inr (Sum.inr ())) else Option.bind (ldS 24 15 st.2 w) (fun v2 => if v2 = st.2 then if st.1 = 0 then some (Sum.inr (Sum.inl st.2)) else letv (st.1 + (-1 : Int32)) (fun v6 => letv (st.2 + nI 1) (fun v7 => some (Sum.inl (v6, v7)))) else letv (st.2 + nI 1) (fun v4 => some (Sum.inl (st.1, v4))))
def sh_X9_partAt (x1 : Int32) (w : Mem) : Option (Int32) :=
  Option.bind (lpw (sh_X9_partAt_s4 w) FU (x1, nI 0)) (Sum.elim (fun y2 => some y2) (fun y3 => some (-1 : Int32)))
def sh_X9_parts_s4 (w : Mem) (st : Int32 × Int32) : Option ((Int32 × Int32) ⊕ ((Int32))) :=
  if (w 0 23) ≤ st.2 then some (Sum.inr st.1) else Option.bind (ldS 24 15 st.2 w) (fun v2 => if v2 = st.2 then letv (st.1 + (nI 1)) (fun v6 => letv (st.2 + nI 1) (fun v7 => some (Sum.inl (v6, v7)))) else letv (st.1 + (nI 0)) (fun v4 => letv (st.2 + nI 1) (fun v5 => some (Sum.inl (v4, v5)))))
def sh_X9_parts (w : Mem) : Option (Int32) :=
  Option.bind (lpw (sh_X9_parts_s4 w) FU (nI 0, nI 0)) (fun ex1 => some ex1)
def sh_X9_areAlike (x1 : Int32) (x2 : Int32) (w : Mem) : Option (Int32) :=
  Option.bind (ldS 24 17 x1 w) (fun v1 => Option.bind (ldS 24 17 x2 w) (fun v2 => if v1 = v2 then Option.bind (ldS 24 16 x1 w) (fun v4 => Option.bind (ldS 24 16 x2 w) (fun v5 => if v4 = v5 then Option.bind (ldS 24 18 x1 w) (fun v7 => Option.bind (ldS 24 18 x2 w) (fun v8 => if v7 = v8 then some (nI 1) else some (nI 0))) else some (nI 0))) else some (nI 0)))
def sh_X9_unlike_s31 (x1 : Int32) (x2 : Int32) (w : Mem) (st : Int32 × Int32) : Option ((Int32 × Int32) ⊕ ((Int32))) :=
  if x2 ≤ st.2 then some (Sum.inr st.1) else if st.1 = 0 then some (Sum.inr st.1) else Option.bind (ldS 24 15 st.2 w) (fun v3 => if v3 = st.2 then Option.bind (sh_X9_areAlike x2 st.2 w) (fun v6 => if v6 = 0 then letv (st.2 + nI 1) (fun v9 => some (Sum.inl (nI 1, v9))) else letv (st.2 + nI 1) (fun v8 => some (Sum.inl (nI 0, v8)))) else letv (st.2 + nI 1) (fun v5 => some (Sum.inl (nI 1, v5))))
def sh_X9_unlike_j75 (x1 : Int32) (x2 : Int32) (x3 : Int32) (w : Mem) : Option ((Int32 × Int32) ⊕ ((Int32))) :=
  if x3 = 0 then letv (x1 + (nI 0)) (fun v2 => letv (x2 + nI 1) (fun v3 => some (Sum.inl (v2, v3)))) else letv (x1 + (nI 1)) (fun v4 => letv (x2 + nI 1) (fun v5 => some (Sum.inl (v4, v5))))
def sh_X9_unlike_j27 (x1 : Int32) (x2 : Int32) (s0 : Int32) (w : Mem) : Option ((Int32 × Int32) ⊕ ((Int32))) :=
  Option.bind (lpw (sh_X9_unlike_s31 x1 x2 w) FU (s0, nI 0)) (fun ex1 => sh_X9_unlike_j75 x1 x2 ex1 w)
def sh_X9_unlike_s4 (w : Mem) (st : Int32 × Int32) : Option ((Int32 × Int32) ⊕ ((Int32))) :=
  if (w 0 23) ≤ st.2 then some (Sum.inr st.1) else Option.bind (ldS 24 15 st.2 w) (fun v2 => if v2 = st.2 then sh_X9_unlike_j27 st.1 st.2 (nI 1) w else sh_X9_unlike_j27 st.1 st.2 (nI 0) w)
def sh_X9_unlike (w : Mem) : Option (Int32) :=
  Option.bind (lpw (sh_X9_unlike_s4 w) FU (nI 0, nI 0)) (fun ex1 => some ex1)
def sh_X9_eulerOfAll_s4 (w : Mem) (st : Int32 × Int32) : Option ((Int32 × Int32) ⊕ ((Int32))) :=
  if (w 0 23) ≤ st.2 then some (Sum.inr st.1) else Option.bind (ldS 24 15 st.2 w) (fun v2 => if v2 = st.2 then Option.bind (ldS 24 16 st.2 w) (fun v6 => letv (st.1 + v6) (fun v7 => letv (st.2 + nI 1) (fun v8 => some (Sum.inl (v7, v8))))) else letv (st.1 + (nI 0)) (fun v4 => letv (st.2 + nI 1) (fun v5 => some (Sum.inl (v4, v5)))))
def sh_X9_eulerOfAll (w : Mem) : Option (Int32) :=
  Option.bind (lpw (sh_X9_eulerOfAll_s4 w) FU (nI 0, nI 0)) (fun ex1 => some ex1)
def sh_X9_withoutRims_s4 (w : Mem) (st : Int32 × Int32) : Option ((Int32 × Int32) ⊕ ((Int32))) :=
  if (w 0 23) ≤ st.2 then some (Sum.inr st.1) else Option.bind (ldS 24 15 st.2 w) (fun v2 => if v2 = st.2 then Option.bind (ldS 24 17 st.2 w) (fun v6 => if v6 = 0 then letv (st.1 + (nI 1)) (fun v10 => letv (st.2 + nI 1) (fun v11 => some (Sum.inl (v10, v11)))) else letv (st.1 + (nI 0)) (fun v8 => letv (st.2 + nI 1) (fun v9 => some (Sum.inl (v8, v9))))) else letv (st.1 + (nI 0)) (fun v4 => letv (st.2 + nI 1) (fun v5 => some (Sum.inl (v4, v5)))))
def sh_X9_withoutRims (w : Mem) : Option (Int32) :=
  Option.bind (lpw (sh_X9_withoutRims_s4 w) FU (nI 0, nI 0)) (fun ex1 => some ex1)
def sh_X9_shape (x1 : Int32) (x2 : Int32) (w : Mem) : Option (Int32 × Mem) :=
  Option.bind (sh_X9_isSurface x1) (fun v1 => if v1 = 0 then some ((-1 : Int32), w) else Option.bind (sh_X9_loads x1 w) (fun w3 => Option.bind (sh_X9_partsOf w3) (fun w4 => if x2 = nI 0 then some (w4 0 15, w4) else if x2 = nI 1 then Option.bind (sh_X9_circles w4) (fun v7 => some (v7, w4)) else if x2 = nI 2 then Option.bind (sh_X9_parts w4) (fun v9 => some (v9, w4)) else if x2 = nI 3 then Option.bind (sh_X9_unlike w4) (fun v11 => some (v11, w4)) else if x2 = nI 4 then Option.bind (sh_X9_withoutRims w4) (fun v13 => some (v13, w4)) else if x2 = nI 5 then Option.bind (sh_X9_eulerOfAll w4) (fun v15 => some ((nI 100) + v15, w4)) else some ((-1 : Int32), w4))))
def sh_X9_part (x1 : Int32) (x2 : Int32) (x3 : Int32) (w : Mem) : Option (Int32 × Mem) :=
  Option.bind (sh_X9_isSurface x1) (fun v1 => if v1 = 0 then some ((-1 : Int32), w) else if 0 ≤ x2 then Option.bind (sh_X9_loads x1 w) (fun w4 => Option.bind (sh_X9_partsOf w4) (fun w5 => Option.bind (sh_X9_partAt x2 w5) (fun v6 => if v6 = (-1 : Int32) then some ((-1 : Int32), w5) else Option.bind (ldS 24 16 v6 w5) (fun v8 => Option.bind (ldS 24 17 v6 w5) (fun v9 => letv (((nI 2) - v8) - v9) (fun v10 => if x3 = nI 0 then Option.bind (ldS 24 17 v6 w5) (fun v12 => some (v12, w5)) else if x3 = nI 1 then Option.bind (ldS 24 16 v6 w5) (fun v14 => some ((nI 100) + v14, w5)) else if x3 = nI 2 then Option.bind (ldS 24 18 v6 w5) (fun v16 => some (v16, w5)) else if x3 = nI 3 then Option.bind (ldS 24 18 v6 w5) (fun v18 => if v18 = (nI 1) then some (v10, w5) else some (v10 / (nI 2), w5)) else some ((-1 : Int32), w5))))))) else some ((-1 : Int32), w))
def sh_X9_rim_s53 (x3 : Int32) (w : Mem) (st : Int32 × Int32) : Option ((Int32 × Int32) ⊕ ((Int32))) :=
  if x3 ≤ st.2 then some (Sum.inr st.1) else Option.bind (ldS 24 15 st.2 w) (fun v2 => if v2 = st.2 then letv (st.1 + (nI 1)) (fun v6 => letv (st.2 + nI 1) (fun v7 => some (Sum.inl (v6, v7)))) else letv (st.1 + (nI 0)) (fun v4 => letv (st.2 + nI 1) (fun v5 => some (Sum.inl (v4, v5)))))
def sh_X9_rim (x1 : Int32) (x2 : Int32) (w : Mem) : Option (Int32 × Mem) :=
  Option.bind (sh_X9_isSurface x1) (fun v1 => if v1 = 0 then some ((-1 : Int32), w) else Option.bind (sh_X9_loads x1 w) (fun w3 => Option.bind (sh_X9_circles w3) (fun v4 => Option.bind (sh_X9_isIn x2.toInt64 (lN 0) ((v4 - (nI 1)).toInt64)) (fun v5 => if v5 = 0 then some ((-1 : Int32), w3) else Option.bind (sh_X9_partsOf w3) (fun w7 => Option.bind (ldS 3 14 x2 w7) (fun v8 => Option.bind (sh_X9_first v8 w7) (fun v9 => Option.bind (lpw (sh_X9_rim_s53 v9 w7) FU (nI 0, nI 0)) (fun ex10 => some (ex10, w7)))))))))
def sh_X9_match_s30 (x1 : Int32) (st : Int32 × Int32 × Mem) : Option ((Int32 × Int32 × Mem) ⊕ ((Int32 × Mem))) :=
  if (st.2.2 0 23) ≤ st.2.1 then some (Sum.inr (st.1, st.2.2)) else Option.bind (ldS 24 15 st.2.1 st.2.2) (fun v2 => if v2 = st.2.1 then Option.bind (ldS 24 17 st.2.1 st.2.2) (fun v5 => Option.bind (stM 24 19 st.1 v5 st.2.2) (fun w6 => Option.bind (ldS 24 16 st.2.1 w6) (fun v7 => Option.bind (stM 24 20 st.1 v7 w6) (fun w8 => Option.bind (ldS 24 18 st.2.1 w8) (fun v9 => Option.bind (stM 24 21 st.1 v9 w8) (fun w10 => letv (st.1 + nI 1) (fun v11 => letv (st.2.1 + nI 1) (fun v12 => some (Sum.inl (v11, v12, w10)))))))))) else letv (st.2.1 + nI 1) (fun v4 => some (Sum.inl (st.1, v4, st.2.2))))
def sh_X9_match_s145 (x3 : Int32) (x5 : Int32) (st : Int32 × Int32 × Int32 × Mem) : Option ((Int32 × Int32 × Int32 × Mem) ⊕ ((Int32 × Mem))) :=
  if x3 ≤ st.2.2.1 then some (Sum.inr (st.1, st.2.2.2)) else if st.2.1 = 0 then some (Sum.inr (st.1, st.2.2.2)) else Option.bind (ldS 24 19 st.2.2.1 st.2.2.2) (fun v3 => Option.bind (ldS 24 17 x5 st.2.2.2) (fun v4 => if v3 = v4 then Option.bind (ldS 24 20 st.2.2.1 st.2.2.2) (fun v7 => Option.bind (ldS 24 16 x5 st.2.2.2) (fun v8 => if v7 = v8 then Option.bind (ldS 24 21 st.2.2.1 st.2.2.2) (fun v11 => Option.bind (ldS 24 18 x5 st.2.2.2) (fun v12 => if v11 = v12 then Option.bind (stM 24 19 st.2.2.1 (-1 : Int32) st.2.2.2) (fun w15 => letv (st.1 + nI 1) (fun v16 => letv (st.2.2.1 + nI 1) (fun v17 => some (Sum.inl (v16, nI 0, v17, w15))))) else letv (st.2.2.1 + nI 1) (fun v14 => some (Sum.inl (st.1, st.2.1, v14, st.2.2.2))))) else letv (st.2.2.1 + nI 1) (fun v10 => some (Sum.inl (st.1, st.2.1, v10, st.2.2.2))))) else letv (st.2.2.1 + nI 1) (fun v6 => some (Sum.inl (st.1, st.2.1, v6, st.2.2.2)))))
def sh_X9_match_j140 (x3 : Int32) (x4 : Int32) (x5 : Int32) (s0 : Int32) (w : Mem) : Option ((Int32 × Int32 × Mem) ⊕ ((Int32 × Mem))) :=
  Option.bind (lpw (sh_X9_match_s145 x3 x5) FU (x4, s0, nI 0, w)) (fun ex1 => letv (x5 + nI 1) (fun v2 => some (Sum.inl (ex1.1, v2, ex1.2))))
def sh_X9_match_s114 (x3 : Int32) (st : Int32 × Int32 × Mem) : Option ((Int32 × Int32 × Mem) ⊕ ((Int32 × Mem))) :=
  if (st.2.2 0 23) ≤ st.2.1 then some (Sum.inr (st.1, st.2.2)) else Option.bind (ldS 24 15 st.2.1 st.2.2) (fun v2 => if v2 = st.2.1 then sh_X9_match_j140 x3 st.1 st.2.1 (nI 1) st.2.2 else sh_X9_match_j140 x3 st.1 st.2.1 (nI 0) st.2.2)
def sh_X9_match (x1 : Int32) (x2 : Int32) (w : Mem) : Option (Int32 × Mem) :=
  Option.bind (sh_X9_isSurface x1) (fun v1 => if v1 = 0 then some ((-1 : Int32), w) else Option.bind (sh_X9_isSurface x2) (fun v3 => if v3 = 0 then some ((-1 : Int32), w) else Option.bind (sh_X9_loads x2 w) (fun w5 => Option.bind (sh_X9_partsOf w5) (fun w6 => Option.bind (lpw (sh_X9_match_s30 x1) FU (nI 0, nI 0, w6)) (fun ex7 => Option.bind (sh_X9_loads x1 ex7.2) (fun w8 => Option.bind (sh_X9_partsOf w8) (fun w9 => Option.bind (lpw (sh_X9_match_s114 ex7.1) FU (nI 0, nI 0, w9)) (fun ex10 => some (ex10.1, ex10.2)))))))))
def sh_X9_power_s4 (x1 : Int32) (w : Mem) (st : Int32 × Int32) : Option ((Int32 × Int32) ⊕ ((Int32))) :=
  if x1 ≤ st.2 then some (Sum.inr st.1) else letv (st.1 * (w 0 3)) (fun v2 => letv (st.2 + nI 1) (fun v3 => some (Sum.inl (v2, v3))))
def sh_X9_power (x1 : Int32) (w : Mem) : Option (Int32) :=
  Option.bind (lpw (sh_X9_power_s4 x1 w) FU (nI 1, nI 0)) (fun ex1 => some ex1)
def sh_X9_counts (x1 : Int32) (x2 : Int64) (w : Mem) : Option (Mem) :=
  Option.bind (ldS 216 23 x1 w) (fun v1 => Option.bind (stM 216 23 x1 ((remL (v1.toInt64 + x2) (lN 9973)).toInt32) w) (fun w2 => some w2))
def sh_X9_turns_s63 (x3 : Int32) (x4 : Int64) (x6 : Int32) (x7 : Int32) (x8 : Int32) (st : Int32 × Mem) : Option ((Int32 × Mem) ⊕ ((Mem))) :=
  if (st.2 0 3) ≤ st.1 then some (Sum.inr st.2) else Option.bind (sh_X9_splitOf x6 x8 st.1 st.2) (fun v2 => Option.bind (sh_X9_counts ((x7 + (x3 * x8)) + ((x3 * (st.2 0 3)) * st.1)) (remL (x4 * v2.toInt64) (lN 9973)) st.2) (fun w3 => letv (st.1 + nI 1) (fun v4 => some (Sum.inl (v4, w3)))))
def sh_X9_turns_s51 (x3 : Int32) (x4 : Int64) (x6 : Int32) (x7 : Int32) (st : Int32 × Mem) : Option ((Int32 × Mem) ⊕ ((Mem))) :=
  if (st.2 0 3) ≤ st.1 then some (Sum.inr st.2) else Option.bind (lpw (sh_X9_turns_s63 x3 x4 x6 x7 st.1) FU (nI 0, st.2)) (fun ex2 => letv (st.1 + nI 1) (fun v3 => some (Sum.inl (v3, ex2))))
def sh_X9_turns_s171 (x3 : Int32) (x4 : Int64) (x6 : Int32) (x7 : Int32) (x8 : Nat) (st : Int32 × Mem) : Option ((Int32 × Mem) ⊕ ((Mem))) :=
  if (st.2 0 3) ≤ st.1 then some (Sum.inr st.2) else Option.bind (sh_X9_at x6 st.1) (fun v2 => Option.bind (ldS 36 3 v2 st.2) (fun v3 => Option.bind (ldS 6 x8 st.1 st.2) (fun v4 => Option.bind (sh_X9_at x6 st.1) (fun v5 => Option.bind (ldS 36 4 v5 st.2) (fun v6 => Option.bind (sh_X9_counts (x7 + (x3 * v3)) (remL ((remL (x4 * v4.toInt64) (lN 9973)) * v6.toInt64) (lN 9973)) st.2) (fun w7 => letv (st.1 + nI 1) (fun v8 => some (Sum.inl (v8, w7)))))))))
def sh_X9_turns_j166 (x3 : Int32) (x4 : Int64) (x6 : Int32) (x7 : Int32) (s0 : Nat) (w : Mem) : Option (Mem) :=
  Option.bind (lpw (sh_X9_turns_s171 x3 x4 x6 x7 s0) FU (nI 0, w)) (fun ex1 => some ex1)
def sh_X9_turns (x1 : Int32) (x2 : Int32) (x3 : Int32) (w : Mem) : Option (Mem) :=
  Option.bind (ldS 216 22 x2 w) (fun v1 => grd (¬ x3 = 0) (letv (x2 / x3) (fun v3 => grd (¬ x3 = 0) (letv (remI x2 x3) (fun v5 => if x1 = nI 2 then Option.bind (lpw (sh_X9_turns_s51 x3 v1.toInt64 v3 v5) FU (nI 0, w)) (fun ex7 => some ex7) else if x1 = nI 3 then Option.bind (ldS 6 5 v3 w) (fun v9 => Option.bind (sh_X9_counts v5 (remL (v1.toInt64 * v9.toInt64) (lN 9973)) w) (fun w10 => some w10)) else if x1 = (nI 5) then sh_X9_turns_j166 x3 v1.toInt64 v3 v5 8 w else sh_X9_turns_j166 x3 v1.toInt64 v3 v5 9 w)))))
def sh_X9_joins_j152 (s1 : Int32) (s2 : Int64) (w : Mem) : Option (Mem) :=
  Option.bind (sh_X9_counts s1 s2 w) (fun w1 => some w1)
def sh_X9_joins_j116 (x3 : Int32) (x4 : Int64) (x6 : Int32) (x7 : Int32) (x8 : Int32) (s0 : Int32) (w : Mem) : Option (Mem) :=
  if s0 = 0 then sh_X9_joins_j152 ((x8 + (x3 * x6)) + ((x3 * (w 0 3)) * x7)) x4 w else sh_X9_joins_j152 ((x8 + (x3 * x6)) + ((x3 * (w 0 3)) * x7)) ((lN 9973) - x4) w
def sh_X9_joins_j115 (x3 : Int32) (x4 : Int64) (x6 : Int32) (x7 : Int32) (x8 : Int32) (w : Mem) : Option (Mem) :=
  sh_X9_joins_j116 x3 x4 x6 x7 x8 (nI 0) w
def sh_X9_joins (x1 : Int32) (x2 : Int32) (x3 : Int32) (w : Mem) : Option (Mem) :=
  Option.bind (ldS 216 22 x2 w) (fun v1 => grd (¬ (x3 * (w 0 3)) = 0) (letv (x2 / (x3 * (w 0 3))) (fun v3 => grd (¬ x3 = 0) (grd (¬ (w 0 3) = 0) (letv (remI (x2 / x3) (w 0 3)) (fun v6 => grd (¬ x3 = 0) (letv (remI x2 x3) (fun v8 => if x1 = (nI 1) then Option.bind (sh_X9_at v6 v3) (fun v15 => Option.bind (ldS 36 3 v15 w) (fun v16 => Option.bind (sh_X9_at v6 v3) (fun v17 => Option.bind (ldS 36 4 v17 w) (fun v18 => Option.bind (sh_X9_counts (v8 + (x3 * v16)) (remL (v1.toInt64 * v18.toInt64) (lN 9973)) w) (fun w19 => some w19))))) else if (w 0 4) = (nI 4) then Option.bind (sh_X9_odd v6) (fun v11 => if v11 = (nI 1) then Option.bind (sh_X9_odd v3) (fun v13 => if v13 = (nI 1) then sh_X9_joins_j116 x3 v1.toInt64 v3 v6 v8 (nI 1) w else sh_X9_joins_j115 x3 v1.toInt64 v3 v6 v8 w) else sh_X9_joins_j115 x3 v1.toInt64 v3 v6 v8 w) else sh_X9_joins_j115 x3 v1.toInt64 v3 v6 v8 w))))))))
def sh_X9_does_s2 (x1 : Int32) (x2 : Int32) (st : Int32 × Mem) : Option ((Int32 × Mem) ⊕ ((Mem))) :=
  if (nI 216) ≤ st.1 then some (Sum.inr st.2) else Option.bind (stM 216 23 st.1 (nI 0) st.2) (fun w2 => letv (st.1 + nI 1) (fun v3 => some (Sum.inl (v3, w2))))
def sh_X9_does_j96 (x1 : Int32) (x2 : Int32) (x3 : Int32) (w : Mem) : Option ((Int32 × Mem) ⊕ ((Mem))) :=
  Option.bind (sh_X9_power (x2 - (nI 2)) w) (fun v1 => Option.bind (sh_X9_joins x1 x3 v1 w) (fun w2 => letv (x3 + nI 1) (fun v3 => some (Sum.inl (v3, w2)))))
def sh_X9_does_s39 (x1 : Int32) (x2 : Int32) (x3 : Int32) (st : Int32 × Mem) : Option ((Int32 × Mem) ⊕ ((Mem))) :=
  if (st.2 0 3) ≤ st.1 then some (Sum.inr st.2) else Option.bind (ldS 216 22 x3 st.2) (fun v2 => Option.bind (ldS 6 6 st.1 st.2) (fun v3 => Option.bind (sh_X9_counts (x3 + ((st.2 0 29) * st.1)) (v2.toInt64 * v3.toInt64) st.2) (fun w4 => letv (st.1 + nI 1) (fun v5 => some (Sum.inl (v5, w4))))))
def sh_X9_does_s24 (x1 : Int32) (x2 : Int32) (st : Int32 × Mem) : Option ((Int32 × Mem) ⊕ ((Mem))) :=
  if (st.2 0 29) ≤ st.1 then some (Sum.inr st.2) else if x1 = 0 then Option.bind (lpw (sh_X9_does_s39 x1 x2 st.1) FU (nI 0, st.2)) (fun ex8 => letv (st.1 + nI 1) (fun v9 => some (Sum.inl (v9, ex8)))) else if x1 = (nI 1) then sh_X9_does_j96 x1 x2 st.1 st.2 else if x1 = (nI 4) then sh_X9_does_j96 x1 x2 st.1 st.2 else Option.bind (sh_X9_power (x2 - (nI 1)) st.2) (fun v5 => Option.bind (sh_X9_turns x1 st.1 v5 st.2) (fun w6 => letv (st.1 + nI 1) (fun v7 => some (Sum.inl (v7, w6)))))
def sh_X9_does_s133  (st : Int32 × Mem) : Option ((Int32 × Mem) ⊕ ((Mem))) :=
  if (nI 216) ≤ st.1 then some (Sum.inr st.2) else Option.bind (ldS 216 23 st.1 st.2) (fun v2 => Option.bind (stM 216 22 st.1 v2 st.2) (fun w3 => letv (st.1 + nI 1) (fun v4 => some (Sum.inl (v4, w3)))))
def sh_X9_does (x1 : Int32) (x2 : Int32) (w : Mem) : Option (Mem) :=
  Option.bind (lpw (sh_X9_does_s2 x1 x2) FU (nI 0, w)) (fun ex1 => Option.bind (lpw (sh_X9_does_s24 x1 x2) FU (nI 0, ex1)) (fun ex2 => Option.bind (lpw (sh_X9_does_s133 ) FU (nI 0, ex2)) (fun ex3 => some ex3)))
def sh_X9_sums_j23 (x1 : Int32) (s0 : Nat) (s1 : Int32) (s2 : Int32) (w : Mem) : Option ((Int32 × Mem) ⊕ ((Mem))) :=
  Option.bind (stM 216 s0 s1 s2 w) (fun w1 => letv (x1 + nI 1) (fun v2 => some (Sum.inl (v2, w1))))
def sh_X9_sums_s2  (st : Int32 × Mem) : Option ((Int32 × Mem) ⊕ ((Mem))) :=
  if (nI 216) ≤ st.1 then some (Sum.inr st.2) else if st.1 = 0 then sh_X9_sums_j23 st.1 22 st.1 (nI 1) st.2 else sh_X9_sums_j23 st.1 22 st.1 (nI 0) st.2
def sh_X9_sums_s39  (st : Int32 × Int32 × Mem) : Option ((Int32 × Int32 × Mem) ⊕ ((Mem))) :=
  if (st.2.2 0 15) ≤ st.2.1 then some (Sum.inr st.2.2) else Option.bind (ldS 48 12 st.2.1 st.2.2) (fun v2 => Option.bind (sh_X9_does v2 st.1 st.2.2) (fun w3 => Option.bind (ldS 48 12 st.2.1 w3) (fun v4 => Option.bind (sh_X9_behind st.1 v4 (nI 3)) (fun v5 => Option.bind (sh_X9_power v5 w3) (fun v6 => letv (mset w3 0 29 v6) (fun w7 => letv (st.2.1 + nI 1) (fun v8 => some (Sum.inl (v5, v8, w7)))))))))
def sh_X9_sums (w : Mem) : Option (Mem) :=
  Option.bind (lpw (sh_X9_sums_s2 ) FU (nI 0, w)) (fun ex1 => letv (mset ex1 0 29 (nI 1)) (fun w2 => Option.bind (lpw (sh_X9_sums_s39 ) FU (nI 0, nI 0, w2)) (fun ex3 => some ex3)))
def sh_X9_together_s4 (w : Mem) (st : Int32 × Int32) : Option ((Int32 × Int32) ⊕ ((Int32))) :=
  if (w 0 29) ≤ st.2 then some (Sum.inr st.1) else Option.bind (ldS 216 22 st.2 w) (fun v2 => letv (remI (st.1 + v2) (nI 9973)) (fun v3 => letv (st.2 + nI 1) (fun v4 => some (Sum.inl (v3, v4)))))
def sh_X9_together (w : Mem) : Option (Int32) :=
  Option.bind (lpw (sh_X9_together_s4 w) FU (nI 0, nI 0)) (fun ex1 => some ex1)
def sh_X9_sumsOf (x1 : Int32) (x2 : Int32) (w : Mem) : Option (Mem) :=
  Option.bind (sh_X9_loads x1 w) (fun w1 => Option.bind (sh_X9_laysOut_ x2 w1) (fun w2 => Option.bind (sh_X9_sums w2) (fun w3 => some w3)))
def sh_X9_sum (x1 : Int32) (x2 : Int32) (x3 : Int32) (w : Mem) : Option (Int32 × Mem) :=
  Option.bind (sh_X9_isSurface x1) (fun v1 => if v1 = 0 then some ((-1 : Int32), w) else Option.bind (sh_X9_isAlgebra x2 w) (fun v3 => if v3 = 0 then some ((-1 : Int32), w) else Option.bind (sh_X9_sumsOf x1 x2 w) (fun w5 => Option.bind (sh_X9_isIn x3.toInt64 (lN 0) (((w5 0 29) - (nI 1)).toInt64)) (fun v6 => if v6 = 0 then some ((-1 : Int32), w5) else Option.bind (ldS 216 22 x3 w5) (fun v8 => some (v8, w5))))))
def sh_X9_total_j60 (x3 : Int32) (x5 : Int32) (x6 : Int32) (s0 : Int32) (s1 : Int32) (w : Mem) : Option ((Int32 × Int32 × Int32) ⊕ ((Int32 × Int32))) :=
  letv (s0 + s1) (fun v1 => Option.bind (ldS 216 22 x6 w) (fun v2 => if v2 = 0 then letv (x6 + (-1 : Int32)) (fun v4 => some (Sum.inl (v1, x5, v4))) else letv (x6 + (-1 : Int32)) (fun v5 => some (Sum.inl (v1, x6, v5)))))
def sh_X9_total_s38 (x3 : Int32) (w : Mem) (st : Int32 × Int32 × Int32) : Option ((Int32 × Int32 × Int32) ⊕ ((Int32 × Int32))) :=
  if st.2.2 < 0 then some (Sum.inr (st.1, st.2.1)) else Option.bind (ldS 216 22 st.2.2 w) (fun v2 => if v2 = 0 then sh_X9_total_j60 x3 st.2.1 st.2.2 st.1 (nI 0) w else sh_X9_total_j60 x3 st.2.1 st.2.2 st.1 (nI 1) w)
def sh_X9_total (x1 : Int32) (x2 : Int32) (x3 : Int32) (w : Mem) : Option (Int32 × Mem) :=
  Option.bind (sh_X9_isSurface x1) (fun v1 => if v1 = 0 then some ((-1 : Int32), w) else Option.bind (sh_X9_isAlgebra x2 w) (fun v3 => if v3 = 0 then some ((-1 : Int32), w) else Option.bind (sh_X9_sumsOf x1 x2 w) (fun w5 => letv ((w5 0 29) - (nI 1)) (fun v6 => Option.bind (lpw (sh_X9_total_s38 x3 w5) FU (nI 0, (-5 : Int32), v6)) (fun ex7 => if x3 = nI 0 then some (w5 0 29, w5) else if x3 = nI 1 then some (ex7.1, w5) else if x3 = nI 2 then some (ex7.2, w5) else if x3 = nI 3 then Option.bind (sh_X9_together w5) (fun v12 => some (v12, w5)) else some ((-1 : Int32), w5))))))
def sh_X9_alike_s39 (x2 : Int32) (x3 : Int32) (x4 : Int32) (st : Int32 × Mem) : Option ((Int32 × Mem) ⊕ ((Mem))) :=
  if (nI 216) ≤ st.1 then some (Sum.inr st.2) else Option.bind (ldS 216 22 st.1 st.2) (fun v2 => Option.bind (stM 216 24 st.1 v2 st.2) (fun w3 => letv (st.1 + nI 1) (fun v4 => some (Sum.inl (v4, w3)))))
def sh_X9_alike_s92 (w : Mem) (st : Int32 × Int32) : Option ((Int32 × Int32) ⊕ ((Int32))) :=
  if (w 0 29) ≤ st.2 then some (Sum.inr st.1) else if st.1 = 0 then some (Sum.inr st.1) else Option.bind (ldS 216 24 st.2 w) (fun v3 => Option.bind (ldS 216 22 st.2 w) (fun v4 => if v3 = v4 then letv (st.2 + nI 1) (fun v7 => some (Sum.inl (nI 1, v7))) else letv (st.2 + nI 1) (fun v6 => some (Sum.inl (nI 0, v6)))))
def sh_X9_alike_j136 (x5 : Int32) (w : Mem) : Option (Int32 × Mem) :=
  if x5 = 0 then some (nI 0, w) else some (nI 1, w)
def sh_X9_alike_j87 (s0 : Int32) (w : Mem) : Option (Int32 × Mem) :=
  Option.bind (lpw (sh_X9_alike_s92 w) FU (s0, nI 0)) (fun ex1 => sh_X9_alike_j136 ex1 w)
def sh_X9_alike (x1 : Int32) (x2 : Int32) (x3 : Int32) (w : Mem) : Option (Int32 × Mem) :=
  Option.bind (sh_X9_isSurface x1) (fun v1 => if v1 = 0 then some ((-1 : Int32), w) else Option.bind (sh_X9_isSurface x2) (fun v3 => if v3 = 0 then some ((-1 : Int32), w) else Option.bind (sh_X9_isAlgebra x3 w) (fun v5 => if v5 = 0 then some ((-1 : Int32), w) else Option.bind (sh_X9_sumsOf x1 x3 w) (fun w7 => Option.bind (sh_X9_circles w7) (fun v8 => Option.bind (lpw (sh_X9_alike_s39 x2 x3 v8) FU (nI 0, w7)) (fun ex9 => Option.bind (sh_X9_sumsOf x2 x3 ex9) (fun w10 => Option.bind (sh_X9_circles w10) (fun v11 => if v8 = v11 then sh_X9_alike_j87 (nI 1) w10 else sh_X9_alike_j87 (nI 0) w10))))))))
def sh_X9_mayGlue_s7 (x1 : Int32) (w : Mem) (st : Int32 × Int32) : Option ((Int32 × Int32) ⊕ ((Unit) ⊕ (Unit))) :=
  Option.bind (ldS 130 1 ((nI 13) + x1) w) (fun v1 => if v1 ≤ st.2 then some (Sum.inr (Sum.inr ())) else Option.bind (ldS 130 1 (((nI 17) + ((nI 24) * x1)) + st.2) w) (fun v3 => Option.bind (sh_X9_behind st.1 v3 (nI 3)) (fun v4 => if 0 ≤ v4 then letv (st.2 + nI 1) (fun v6 => some (Sum.inl (v4, v6))) else some (Sum.inr (Sum.inl ())))))
def sh_X9_mayGlue (x1 : Int32) (w : Mem) : Option (Int32) :=
  Option.bind (sh_X9_circles w) (fun v1 => Option.bind (lpw (sh_X9_mayGlue_s7 x1 w) FU (v1, nI 0)) (Sum.elim (fun y3 => some (nI 0)) (fun y4 => some (nI 1))))
def sh_X9_glues_s12 (x1 : Int32) (x2 : Int32) (st : Int32 × Mem) : Option ((Int32 × Mem) ⊕ ((Mem))) :=
  if x2 ≤ st.1 then some (Sum.inr st.2) else Option.bind (ldS 130 1 (((nI 17) + ((nI 24) * x1)) + st.1) st.2) (fun v2 => Option.bind (sh_X9_adds v2 st.2) (fun w3 => letv (st.1 + nI 1) (fun v4 => some (Sum.inl (v4, w3)))))
def sh_X9_glues (x1 : Int32) (w : Mem) : Option (Mem) :=
  Option.bind (ldS 130 1 ((nI 13) + x1) w) (fun v1 => Option.bind (lpw (sh_X9_glues_s12 x1 v1) FU (nI 0, w)) (fun ex2 => some ex2))
def sh_X9_glue (x1 : Int32) (x2 : Int32) (w : Mem) : Option (Int32 × Mem) :=
  Option.bind (sh_X9_isSurface x1) (fun v1 => if v1 = 0 then some ((-1 : Int32), w) else Option.bind (sh_X9_isSurface x2) (fun v3 => if v3 = 0 then some ((-1 : Int32), w) else Option.bind (sh_X9_loads x1 w) (fun w5 => Option.bind (sh_X9_mayGlue x2 w5) (fun v6 => if v6 = 0 then some ((-3 : Int32), w5) else Option.bind (ldS 130 1 ((nI 13) + x2) w5) (fun v8 => if ((w5 0 15) + v8) ≤ (nI 24) then Option.bind (sh_X9_glues x2 w5) (fun w10 => Option.bind (sh_X9_saves x1 w10) (fun w11 => some (w11 0 15, w11))) else some ((-4 : Int32), w5))))))
def sh_X9_cut (x1 : Int32) (x2 : Int32) (w : Mem) : Option (Int32 × Mem) :=
  Option.bind (sh_X9_isSurface x1) (fun v1 => if v1 = 0 then some ((-1 : Int32), w) else Option.bind (ldS 130 1 ((nI 13) + x1) w) (fun v3 => Option.bind (sh_X9_isIn x2.toInt64 (lN 0) v3.toInt64) (fun v4 => if v4 = 0 then some ((-2 : Int32), w) else Option.bind (ldS 130 1 ((nI 13) + x1) w) (fun v6 => Option.bind (stM 130 1 ((nI 13) + x1) x2 w) (fun w7 => some (v6, w7))))))
def sh_X9_draws_s5 (x1 : Int32) (st : Int32 × Int32 × Mem) : Option ((Int32 × Int32 × Mem) ⊕ ((Mem))) :=
  if x1 ≤ st.2.1 then some (Sum.inr st.2.2) else letv ((st.1 * (nI 1103515245)) + (nI 12345)) (fun v2 => letv (remI (ushrI v2 (nI 16)) (nI 7)) (fun v3 => if (nI 24) ≤ (st.2.2 0 15) then letv (st.2.1 + nI 1) (fun v5 => some (Sum.inl (v2, v5, st.2.2))) else Option.bind (sh_X9_canStand v3 st.2.2) (fun v6 => if v6 = 0 then letv (st.2.1 + nI 1) (fun v8 => some (Sum.inl (v2, v8, st.2.2))) else Option.bind (sh_X9_adds v3 st.2.2) (fun w9 => letv (st.2.1 + nI 1) (fun v10 => some (Sum.inl (v2, v10, w9)))))))
def sh_X9_draws (x1 : Int32) (x2 : Int32) (w : Mem) : Option (Mem) :=
  Option.bind (lpw (sh_X9_draws_s5 x1) FU (x2, nI 0, w)) (fun ex1 => some ex1)
def sh_X9_draws_ (x1 : Int32) (x2 : Int32) (x3 : Int32) (w : Mem) : Option (Int32 × Mem) :=
  Option.bind (sh_X9_isSurface x1) (fun v1 => if v1 = 0 then some ((-1 : Int32), w) else Option.bind (sh_X9_isIn x2.toInt64 (lN 1) (lN 24)) (fun v3 => if v3 = 0 then some ((-2 : Int32), w) else Option.bind (sh_X9_loads x1 w) (fun w5 => Option.bind (sh_X9_draws x2 x3 w5) (fun w6 => Option.bind (sh_X9_saves x1 w6) (fun w7 => some (w7 0 15, w7))))))
def sh_X9_common : Nat → Int32 → Int32 → Option Int32
  | 0, _, _ => none
  | n + 1, x0, x1 => if x1 = 0 then some x0 else grd (¬ x1 = 0) (sh_X9_common n x1 (remI x0 x1))
def sh_X9_odds_s45 (x1 : Int32) (x2 : Int32) (x3 : Int32) (x4 : Int32) (st : Int32 × Int32 × Mem) : Option ((Int32 × Int32 × Mem) ⊕ ((Int32 × Mem))) :=
  if x3 ≤ st.2.1 then some (Sum.inr (st.1, st.2.2)) else letv (mset st.2.2 0 15 (nI 0)) (fun w2 => Option.bind (sh_X9_draws x1 (x2 + st.2.1) w2) (fun w3 => Option.bind (sh_X9_circles w3) (fun v4 => if v4 = 0 then letv (st.1 + (nI 1)) (fun v8 => letv (st.2.1 + nI 1) (fun v9 => some (Sum.inl (v8, v9, w3)))) else letv (st.1 + (nI 0)) (fun v6 => letv (st.2.1 + nI 1) (fun v7 => some (Sum.inl (v6, v7, w3)))))))
def sh_X9_odds_j99 (x3 : Int32) (x5 : Int32) (s0 : Int32) (w : Mem) : Option (Int64 × Mem) :=
  Option.bind (sh_X9_common 40 x3 x5) (fun v1 => grd (¬ v1 = 0) (some ((s0 / v1).toInt64, w)))
def sh_X9_odds (x1 : Int32) (x2 : Int32) (x3 : Int32) (x4 : Int32) (w : Mem) : Option (Int64 × Mem) :=
  Option.bind (sh_X9_isIn x1.toInt64 (lN 1) (lN 24)) (fun v1 => if v1 = 0 then some ((-9223372036854775808 : Int64), w) else Option.bind (sh_X9_isIn x3.toInt64 (lN 1) (lN 30)) (fun v3 => if v3 = 0 then some ((-9223372036854775808 : Int64), w) else Option.bind (sh_X9_isIn x4.toInt64 (lN 0) (lN 1)) (fun v5 => if v5 = 0 then some ((-9223372036854775808 : Int64), w) else Option.bind (lpw (sh_X9_odds_s45 x1 x2 x3 x4) FU (nI 0, nI 0, w)) (fun ex7 => if x4 = 0 then sh_X9_odds_j99 x3 ex7.1 ex7.1 ex7.2 else sh_X9_odds_j99 x3 ex7.1 x3 ex7.2))))
def sh_X9_plan_j65 (x1 : Int32) (x2 : Int32) (s0 : Int64) (s1 : Int64) (s2 : Int64) (w : Mem) : Option (Int32 × Mem) :=
  Option.bind (sh_X9_isIn s0 s1 s2) (fun v1 => if v1 = 0 then some ((-2 : Int32), w) else Option.bind (ldS 130 1 (nI 113) w) (fun v3 => if v3 = (nI 8) then some ((-4 : Int32), w) else Option.bind (ldS 130 1 (nI 113) w) (fun v5 => Option.bind (stM 130 1 ((nI 114) + ((nI 2) * v5)) x1 w) (fun w6 => Option.bind (ldS 130 1 (nI 113) w6) (fun v7 => Option.bind (stM 130 1 ((nI 115) + ((nI 2) * v7)) x2 w6) (fun w8 => Option.bind (ldS 130 1 (nI 113) w8) (fun v9 => Option.bind (stM 130 1 (nI 113) (v9 + (nI 1)) w8) (fun w10 => Option.bind (ldS 130 1 (nI 113) w10) (fun v11 => some (v11, w10))))))))))
def sh_X9_plan_j41 (x1 : Int32) (x2 : Int32) (s0 : Int64) (s1 : Int64) (w : Mem) : Option (Int32 × Mem) :=
  if x1 = 0 then sh_X9_plan_j65 x1 x2 s0 s1 (lN 6) w else if x1 = (nI 1) then sh_X9_plan_j65 x1 x2 s0 s1 (lN 9) w else sh_X9_plan_j65 x1 x2 s0 s1 (lN 3) w
def sh_X9_plan (x1 : Int32) (x2 : Int32) (w : Mem) : Option (Int32 × Mem) :=
  if x1 = (-1 : Int32) then Option.bind (stM 130 1 (nI 113) (nI 0) w) (fun w5 => some (nI 0, w5)) else Option.bind (sh_X9_isIn x1.toInt64 (lN 0) (lN 2)) (fun v2 => if v2 = 0 then some ((-1 : Int32), w) else if x1 = (nI 1) then sh_X9_plan_j41 x1 x2 x2.toInt64 (lN 1) w else sh_X9_plan_j41 x1 x2 x2.toInt64 (lN 0) w)
def sh_X9_planned_j45 (x1 : Int32) (x2 : Int32) (w : Mem) : Option (Mem) :=
  if x1 = (nI 2) then Option.bind (ldS 130 1 ((nI 13) + x2) w) (fun v2 => if (nI 24) < ((w 0 15) + v2) then some w else Option.bind (sh_X9_mayGlue x2 w) (fun v4 => if v4 = 0 then some w else Option.bind (sh_X9_glues x2 w) (fun w6 => some w6))) else some w
def sh_X9_planned_j26 (x1 : Int32) (x2 : Int32) (w : Mem) : Option (Mem) :=
  if x1 = (nI 1) then letv (mset w 0 15 (mxI (nI 0) ((w 0 15) - x2))) (fun w2 => sh_X9_planned_j45 x1 x2 w2) else sh_X9_planned_j45 x1 x2 w
def sh_X9_planned (x1 : Int32) (x2 : Int32) (w : Mem) : Option (Mem) :=
  if x1 = 0 then if (nI 24) ≤ (w 0 15) then sh_X9_planned_j26 x1 x2 w else Option.bind (sh_X9_canStand x2 w) (fun v3 => if v3 = 0 then sh_X9_planned_j26 x1 x2 w else Option.bind (sh_X9_adds x2 w) (fun w5 => sh_X9_planned_j26 x1 x2 w5)) else sh_X9_planned_j26 x1 x2 w
def sh_X9_behind__s45 (x2 : Int32) (st : Int32 × Mem) : Option ((Int32 × Mem) ⊕ ((Mem))) :=
  Option.bind (ldS 130 1 (nI 113) st.2) (fun v1 => if v1 ≤ st.1 then some (Sum.inr st.2) else Option.bind (ldS 130 1 ((nI 114) + ((nI 2) * st.1)) st.2) (fun v3 => Option.bind (ldS 130 1 ((nI 115) + ((nI 2) * st.1)) st.2) (fun v4 => Option.bind (sh_X9_planned v3 v4 st.2) (fun w5 => letv (st.1 + nI 1) (fun v6 => some (Sum.inl (v6, w5)))))))
def sh_X9_behind__j38 (x1 : Int32) (x2 : Int32) (w : Mem) : Option (Int32 × Mem) :=
  Option.bind (sh_X9_loads x1 w) (fun w1 => Option.bind (lpw (sh_X9_behind__s45 x2) FU (nI 0, w1)) (fun ex2 => if x2 < (nI 10) then Option.bind (sh_X9_partsOf ex2) (fun w4 => if x2 = 0 then some (w4 0 15, w4) else if x2 = (nI 1) then Option.bind (sh_X9_circles w4) (fun v8 => some (v8, w4)) else Option.bind (sh_X9_parts w4) (fun v7 => some (v7, w4))) else Option.bind (sh_X9_laysOut_ (x2 - (nI 10)) ex2) (fun w9 => Option.bind (sh_X9_sums w9) (fun w10 => Option.bind (sh_X9_together w10) (fun v11 => some (v11, w10))))))
def sh_X9_behind_ (x1 : Int32) (x2 : Int32) (w : Mem) : Option (Int32 × Mem) :=
  Option.bind (sh_X9_isSurface x1) (fun v1 => if v1 = 0 then some ((-1 : Int32), w) else Option.bind (sh_X9_isIn x2.toInt64 (lN 0) (lN 2)) (fun v3 => if v3 = 0 then if x2 < (nI 10) then some ((-1 : Int32), w) else Option.bind (sh_X9_isAlgebra (x2 - (nI 10)) w) (fun v6 => if v6 = 0 then some ((-1 : Int32), w) else sh_X9_behind__j38 x1 x2 w) else sh_X9_behind__j38 x1 x2 w))
def sh_X9_write_s24 (x1 : Int32) (st : Int32 × Mem) : Option ((Int32 × Mem) ⊕ ((Mem))) :=
  if (st.2 0 32) ≤ st.1 then some (Sum.inr st.2) else Option.bind (ldS 130 1 (((nI 17) + ((nI 24) * x1)) + st.1) st.2) (fun v2 => Option.bind (sh_X9_letterOf v2) (fun v3 => Option.bind (stM 24 25 st.1 v3 st.2) (fun w4 => letv (st.1 + nI 1) (fun v5 => some (Sum.inl (v5, w4))))))
def sh_X9_write (x1 : Int32) (w : Mem) : Option (Int32 × Mem) :=
  Option.bind (sh_X9_isSurface x1) (fun v1 => if v1 = 0 then some ((-1 : Int32), w) else Option.bind (ldS 130 1 ((nI 13) + x1) w) (fun v3 => letv (mset w 0 32 v3) (fun w4 => Option.bind (lpw (sh_X9_write_s24 x1) FU (nI 0, w4)) (fun ex5 => some (ex5 0 32, ex5)))))
def sh_X9_paper (x1 : Int32) (w : Mem) : Option (Int32) :=
  Option.bind (sh_X9_isIn x1.toInt64 (lN 0) (((w 0 32) - (nI 1)).toInt64)) (fun v1 => if v1 = 0 then some (-1 : Int32) else Option.bind (ldS 24 25 x1 w) (fun v3 => some v3))
def sh_X9_isList (x0 : Int32) : Option (Int32) :=
  Option.bind (sh_X9_isIn x0.toInt64 (lN 0) (lN 3)) (fun v1 => grd (v1 = nI 0 ∨ v1 = nI 1) (some v1))
def sh_X9_isCell (x1 : Int32) (x2 : Int32) (w : Mem) : Option (Int32) :=
  Option.bind (ldS 4 26 x1 w) (fun v1 => Option.bind (sh_X9_isIn x2.toInt64 (lN 0) ((v1 - (nI 1)).toInt64)) (fun v2 => grd (v2 = nI 0 ∨ v2 = nI 1) (some v2)))
def sh_X9_judge_j88 (x1 : Int32) (x4 : Int32) (s0 : Int32) (s1 : Int32) (w : Mem) : Option ((Int32) ⊕ ((Int32) ⊕ (Unit))) :=
  if s0 = s1 then letv (x4 + nI 1) (fun v2 => some (Sum.inl v2)) else some (Sum.inr (Sum.inl x4))
def sh_X9_judge_s45 (x1 : Int32) (w : Mem) (st : Int32) : Option ((Int32) ⊕ ((Int32) ⊕ (Unit))) :=
  Option.bind (ldS 4 26 x1 w) (fun v1 => if v1 ≤ st then some (Sum.inr (Sum.inr ())) else Option.bind (ldS 48 27 (((nI 12) * x1) + st) w) (fun v3 => if (w 0 29) ≤ st then sh_X9_judge_j88 x1 st v3 (nI 0) w else Option.bind (ldS 216 22 st w) (fun v5 => sh_X9_judge_j88 x1 st v3 v5 w)))
def sh_X9_judge (x1 : Int32) (x2 : Int32) (x3 : Int32) (w : Mem) : Option (Int32 × Mem) :=
  Option.bind (sh_X9_isList x1) (fun v1 => if v1 = 0 then some ((-1 : Int32), w) else Option.bind (sh_X9_isSurface x2) (fun v3 => if v3 = 0 then some ((-1 : Int32), w) else Option.bind (sh_X9_isAlgebra x3 w) (fun v5 => if v5 = 0 then some ((-1 : Int32), w) else Option.bind (ldS 4 26 x1 w) (fun v7 => if 0 ≤ v7 then Option.bind (sh_X9_sumsOf x2 x3 w) (fun w9 => Option.bind (lpw (sh_X9_judge_s45 x1 w9) FU (nI 0)) (Sum.elim (fun y11 => some (y11, w9)) (fun y12 => some ((-5 : Int32), w9)))) else some ((-11 : Int32), w)))))
def sh_X9_list_s34 (x1 : Int32) (st : Int32 × Mem) : Option ((Int32 × Mem) ⊕ ((Mem))) :=
  if (nI 12) ≤ st.1 then some (Sum.inr st.2) else Option.bind (stM 48 27 (((nI 12) * x1) + st.1) (nI 0) st.2) (fun w2 => letv (st.1 + nI 1) (fun v3 => some (Sum.inl (v3, w2))))
def sh_X9_list (x1 : Int32) (x2 : Int32) (w : Mem) : Option (Int32 × Mem) :=
  Option.bind (sh_X9_isList x1) (fun v1 => if v1 = 0 then some ((-1 : Int32), w) else if x2 ≤ (nI 12) then if 0 ≤ x2 then Option.bind (stM 4 26 x1 x2 w) (fun w5 => Option.bind (lpw (sh_X9_list_s34 x1) FU (nI 0, w5)) (fun ex6 => some (nI 1, ex6))) else some ((-14 : Int32), w) else some ((-2 : Int32), w))
def sh_X9_put (x1 : Int32) (x2 : Int32) (x3 : Int32) (w : Mem) : Option (Int32 × Mem) :=
  Option.bind (sh_X9_isList x1) (fun v1 => if v1 = 0 then some ((-1 : Int32), w) else Option.bind (ldS 4 26 x1 w) (fun v3 => if 0 ≤ v3 then Option.bind (sh_X9_isCell x1 x2 w) (fun v5 => if v5 = 0 then some ((-13 : Int32), w) else Option.bind (stM 48 27 (((nI 12) * x1) + x2) x3 w) (fun w7 => some (nI 1, w7))) else some ((-11 : Int32), w)))
def sh_X9_get (x1 : Int32) (x2 : Int32) (w : Mem) : Option (Int64) :=
  Option.bind (sh_X9_isList x1) (fun v1 => if v1 = 0 then some (-9223372036854775808 : Int64) else Option.bind (sh_X9_isCell x1 x2 w) (fun v3 => if v3 = 0 then some (-9223372036854775808 : Int64) else Option.bind (ldS 48 27 (((nI 12) * x1) + x2) w) (fun v5 => some v5.toInt64)))
def sh_X9_image_s2  (st : Int32 × Mem) : Option ((Int32 × Mem) ⊕ ((Mem))) :=
  if (nI 130) ≤ st.1 then some (Sum.inr st.2) else Option.bind (ldS 130 1 st.1 st.2) (fun v2 => Option.bind (stM 130 2 st.1 v2 st.2) (fun w3 => letv (st.1 + nI 1) (fun v4 => some (Sum.inl (v4, w3)))))
def sh_X9_image (w : Mem) : Option (Int32 × Mem) :=
  Option.bind (lpw (sh_X9_image_s2 ) FU (nI 0, w)) (fun ex1 => letv (mset ex1 0 2 (nI 1)) (fun w2 => Option.bind (ldS 130 1 (nI 0) w2) (fun v3 => some (v3, w2))))
def sh_X9_undo_s12  (st : Int32 × Mem) : Option ((Int32 × Mem) ⊕ ((Mem))) :=
  if (nI 130) ≤ st.1 then some (Sum.inr st.2) else Option.bind (ldS 130 2 st.1 st.2) (fun v2 => Option.bind (stM 130 1 st.1 v2 st.2) (fun w3 => letv (st.1 + nI 1) (fun v4 => some (Sum.inl (v4, w3)))))
def sh_X9_undo (w : Mem) : Option (Int32 × Mem) :=
  if (w 0 2) = 0 then some ((-3 : Int32), w) else Option.bind (lpw (sh_X9_undo_s12 ) FU (nI 0, w)) (fun ex2 => Option.bind (ldS 130 1 (nI 0) ex2) (fun v3 => some (v3, ex2)))
def sh_X9_count (x1 : Int32) (w : Mem) : Option (Int32) :=
  if x1 = nI 0 then Option.bind (ldS 130 1 (nI 0) w) (fun v2 => some v2) else if x1 = nI 1 then Option.bind (ldS 130 1 (nI 13) w) (fun v4 => Option.bind (ldS 130 1 (nI 14) w) (fun v5 => Option.bind (ldS 130 1 (nI 15) w) (fun v6 => Option.bind (ldS 130 1 (nI 16) w) (fun v7 => some (((v4 + v5) + v6) + v7))))) else if x1 = nI 2 then some (w 0 17) else if x1 = nI 3 then some (w 0 32) else if x1 = nI 4 then Option.bind (ldS 130 1 (nI 113) w) (fun v11 => some v11) else some (-2 : Int32)
