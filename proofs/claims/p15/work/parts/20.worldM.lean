def wM (q : Nat → Nat) (dA : Nat → ClassId) (M : Mm) : va_W := [(q 0, .inr (5, [.int (M 26 0), .int (M 24 0), .int (M 25 0), .ref (q 1), .ref (q 2), .ref (q 3), .ref (q 4), .ref (q 5), .ref (q 6), .ref (q 7), .ref (q 8), .ref (q 9), .ref (q 10), .ref (q 11), .ref (q 12), .ref (q 13), .ref (q 14), .ref (q 15), .int (M 22 0), .ref (q 16), .ref (q 17), .ref (q 18), .ref (q 19), .int (M 23 0), .ref (q 20), .ref (q 21), .ref (q 22), .ref (q 23)])), (q 1, .inl (dA 0, 128, .inl (M 0))), (q 2, .inl (dA 1, 128, .inl (M 1))), (q 3, .inl (dA 2, 8, .inl (M 2))), (q 4, .inl (dA 3, 8, .inl (M 3))), (q 5, .inl (dA 4, 8, .inl (M 14))), (q 6, .inl (dA 5, 8, .inl (M 15))), (q 7, .inl (dA 6, 8, .inl (M 16))), (q 8, .inl (dA 7, 8, .inl (M 19))), (q 9, .inl (dA 8, 8, .inl (M 17))), (q 10, .inl (dA 9, 8, .inl (M 18))), (q 11, .inl (dA 10, 8, .inl (M 21))), (q 12, .inl (dA 11, 8, .inl (M 27))), (q 13, .inl (dA 12, 8, .inl (M 20))), (q 14, .inl (dA 13, 10, .inl (M 4))), (q 15, .inl (dA 14, 10, .inl (M 5))), (q 16, .inl (dA 15, 16, .inl (M 6))), (q 17, .inl (dA 16, 16, .inl (M 7))), (q 18, .inl (dA 17, 16, .inl (M 8))), (q 19, .inl (dA 18, 16, .inl (M 9))), (q 20, .inl (dA 19, 100, .inl (M 10))), (q 21, .inl (dA 20, 100, .inl (M 11))), (q 22, .inl (dA 21, 100, .inl (M 12))), (q 23, .inl (dA 22, 100, .inl (M 13)))]
def tM (dA : Nat → ClassId) : List (ClassId × FieldType) := [(dA 0, .int), (dA 1, .int), (dA 2, .int), (dA 3, .int), (dA 4, .int), (dA 5, .int), (dA 6, .int), (dA 7, .int), (dA 8, .int), (dA 9, .int), (dA 10, .boolean), (dA 11, .boolean), (dA 12, .boolean), (dA 13, .int), (dA 14, .int), (dA 15, .int), (dA 16, .int), (dA 17, .int), (dA 18, .boolean), (dA 19, .int), (dA 20, .int), (dA 21, .int), (dA 22, .int)]
theorem wM_ad (q : Nat → Nat) (dA : Nat → ClassId) (M M2 : Mm) : wAd (wM q dA M) = wAd (wM q dA M2) := rfl
theorem wM_0 (q : Nat → Nat) (dA : Nat → ClassId) (M : Mm) : (wM q dA M)[0]? = some (q 0, .inr (5, [.int (M 26 0), .int (M 24 0), .int (M 25 0), .ref (q 1), .ref (q 2), .ref (q 3), .ref (q 4), .ref (q 5), .ref (q 6), .ref (q 7), .ref (q 8), .ref (q 9), .ref (q 10), .ref (q 11), .ref (q 12), .ref (q 13), .ref (q 14), .ref (q 15), .int (M 22 0), .ref (q 16), .ref (q 17), .ref (q 18), .ref (q 19), .int (M 23 0), .ref (q 20), .ref (q 21), .ref (q 22), .ref (q 23)])) := rfl
theorem wM_1 (q : Nat → Nat) (dA : Nat → ClassId) (M : Mm) : (wM q dA M)[1]? = some (q 1, .inl (dA 0, 128, .inl (M 0))) := rfl
theorem wM_s1 (q : Nat → Nat) (dA : Nat → ClassId) (M : Mm) (f' : Nat → Int32) : (wM q dA M).set 1 (q 1, .inl (dA 0, 128, .inl f')) = wM q dA (stM M 0 f') := rfl
theorem wM_2 (q : Nat → Nat) (dA : Nat → ClassId) (M : Mm) : (wM q dA M)[2]? = some (q 2, .inl (dA 1, 128, .inl (M 1))) := rfl
theorem wM_s2 (q : Nat → Nat) (dA : Nat → ClassId) (M : Mm) (f' : Nat → Int32) : (wM q dA M).set 2 (q 2, .inl (dA 1, 128, .inl f')) = wM q dA (stM M 1 f') := rfl
theorem wM_3 (q : Nat → Nat) (dA : Nat → ClassId) (M : Mm) : (wM q dA M)[3]? = some (q 3, .inl (dA 2, 8, .inl (M 2))) := rfl
theorem wM_s3 (q : Nat → Nat) (dA : Nat → ClassId) (M : Mm) (f' : Nat → Int32) : (wM q dA M).set 3 (q 3, .inl (dA 2, 8, .inl f')) = wM q dA (stM M 2 f') := rfl
theorem wM_4 (q : Nat → Nat) (dA : Nat → ClassId) (M : Mm) : (wM q dA M)[4]? = some (q 4, .inl (dA 3, 8, .inl (M 3))) := rfl
theorem wM_s4 (q : Nat → Nat) (dA : Nat → ClassId) (M : Mm) (f' : Nat → Int32) : (wM q dA M).set 4 (q 4, .inl (dA 3, 8, .inl f')) = wM q dA (stM M 3 f') := rfl
theorem wM_5 (q : Nat → Nat) (dA : Nat → ClassId) (M : Mm) : (wM q dA M)[5]? = some (q 5, .inl (dA 4, 8, .inl (M 14))) := rfl
theorem wM_s5 (q : Nat → Nat) (dA : Nat → ClassId) (M : Mm) (f' : Nat → Int32) : (wM q dA M).set 5 (q 5, .inl (dA 4, 8, .inl f')) = wM q dA (stM M 14 f') := rfl
theorem wM_6 (q : Nat → Nat) (dA : Nat → ClassId) (M : Mm) : (wM q dA M)[6]? = some (q 6, .inl (dA 5, 8, .inl (M 15))) := rfl
theorem wM_s6 (q : Nat → Nat) (dA : Nat → ClassId) (M : Mm) (f' : Nat → Int32) : (wM q dA M).set 6 (q 6, .inl (dA 5, 8, .inl f')) = wM q dA (stM M 15 f') := rfl
theorem wM_7 (q : Nat → Nat) (dA : Nat → ClassId) (M : Mm) : (wM q dA M)[7]? = some (q 7, .inl (dA 6, 8, .inl (M 16))) := rfl
theorem wM_s7 (q : Nat → Nat) (dA : Nat → ClassId) (M : Mm) (f' : Nat → Int32) : (wM q dA M).set 7 (q 7, .inl (dA 6, 8, .inl f')) = wM q dA (stM M 16 f') := rfl
theorem wM_8 (q : Nat → Nat) (dA : Nat → ClassId) (M : Mm) : (wM q dA M)[8]? = some (q 8, .inl (dA 7, 8, .inl (M 19))) := rfl
theorem wM_s8 (q : Nat → Nat) (dA : Nat → ClassId) (M : Mm) (f' : Nat → Int32) : (wM q dA M).set 8 (q 8, .inl (dA 7, 8, .inl f')) = wM q dA (stM M 19 f') := rfl
theorem wM_9 (q : Nat → Nat) (dA : Nat → ClassId) (M : Mm) : (wM q dA M)[9]? = some (q 9, .inl (dA 8, 8, .inl (M 17))) := rfl
theorem wM_s9 (q : Nat → Nat) (dA : Nat → ClassId) (M : Mm) (f' : Nat → Int32) : (wM q dA M).set 9 (q 9, .inl (dA 8, 8, .inl f')) = wM q dA (stM M 17 f') := rfl
theorem wM_10 (q : Nat → Nat) (dA : Nat → ClassId) (M : Mm) : (wM q dA M)[10]? = some (q 10, .inl (dA 9, 8, .inl (M 18))) := rfl
theorem wM_s10 (q : Nat → Nat) (dA : Nat → ClassId) (M : Mm) (f' : Nat → Int32) : (wM q dA M).set 10 (q 10, .inl (dA 9, 8, .inl f')) = wM q dA (stM M 18 f') := rfl
theorem wM_11 (q : Nat → Nat) (dA : Nat → ClassId) (M : Mm) : (wM q dA M)[11]? = some (q 11, .inl (dA 10, 8, .inl (M 21))) := rfl
theorem wM_s11 (q : Nat → Nat) (dA : Nat → ClassId) (M : Mm) (f' : Nat → Int32) : (wM q dA M).set 11 (q 11, .inl (dA 10, 8, .inl f')) = wM q dA (stM M 21 f') := rfl
theorem wM_12 (q : Nat → Nat) (dA : Nat → ClassId) (M : Mm) : (wM q dA M)[12]? = some (q 12, .inl (dA 11, 8, .inl (M 27))) := rfl
theorem wM_s12 (q : Nat → Nat) (dA : Nat → ClassId) (M : Mm) (f' : Nat → Int32) : (wM q dA M).set 12 (q 12, .inl (dA 11, 8, .inl f')) = wM q dA (stM M 27 f') := rfl
theorem wM_13 (q : Nat → Nat) (dA : Nat → ClassId) (M : Mm) : (wM q dA M)[13]? = some (q 13, .inl (dA 12, 8, .inl (M 20))) := rfl
theorem wM_s13 (q : Nat → Nat) (dA : Nat → ClassId) (M : Mm) (f' : Nat → Int32) : (wM q dA M).set 13 (q 13, .inl (dA 12, 8, .inl f')) = wM q dA (stM M 20 f') := rfl
theorem wM_14 (q : Nat → Nat) (dA : Nat → ClassId) (M : Mm) : (wM q dA M)[14]? = some (q 14, .inl (dA 13, 10, .inl (M 4))) := rfl
theorem wM_s14 (q : Nat → Nat) (dA : Nat → ClassId) (M : Mm) (f' : Nat → Int32) : (wM q dA M).set 14 (q 14, .inl (dA 13, 10, .inl f')) = wM q dA (stM M 4 f') := rfl
theorem wM_15 (q : Nat → Nat) (dA : Nat → ClassId) (M : Mm) : (wM q dA M)[15]? = some (q 15, .inl (dA 14, 10, .inl (M 5))) := rfl
theorem wM_s15 (q : Nat → Nat) (dA : Nat → ClassId) (M : Mm) (f' : Nat → Int32) : (wM q dA M).set 15 (q 15, .inl (dA 14, 10, .inl f')) = wM q dA (stM M 5 f') := rfl
theorem wM_16 (q : Nat → Nat) (dA : Nat → ClassId) (M : Mm) : (wM q dA M)[16]? = some (q 16, .inl (dA 15, 16, .inl (M 6))) := rfl
theorem wM_s16 (q : Nat → Nat) (dA : Nat → ClassId) (M : Mm) (f' : Nat → Int32) : (wM q dA M).set 16 (q 16, .inl (dA 15, 16, .inl f')) = wM q dA (stM M 6 f') := rfl
theorem wM_17 (q : Nat → Nat) (dA : Nat → ClassId) (M : Mm) : (wM q dA M)[17]? = some (q 17, .inl (dA 16, 16, .inl (M 7))) := rfl
theorem wM_s17 (q : Nat → Nat) (dA : Nat → ClassId) (M : Mm) (f' : Nat → Int32) : (wM q dA M).set 17 (q 17, .inl (dA 16, 16, .inl f')) = wM q dA (stM M 7 f') := rfl
theorem wM_18 (q : Nat → Nat) (dA : Nat → ClassId) (M : Mm) : (wM q dA M)[18]? = some (q 18, .inl (dA 17, 16, .inl (M 8))) := rfl
theorem wM_s18 (q : Nat → Nat) (dA : Nat → ClassId) (M : Mm) (f' : Nat → Int32) : (wM q dA M).set 18 (q 18, .inl (dA 17, 16, .inl f')) = wM q dA (stM M 8 f') := rfl
theorem wM_19 (q : Nat → Nat) (dA : Nat → ClassId) (M : Mm) : (wM q dA M)[19]? = some (q 19, .inl (dA 18, 16, .inl (M 9))) := rfl
theorem wM_s19 (q : Nat → Nat) (dA : Nat → ClassId) (M : Mm) (f' : Nat → Int32) : (wM q dA M).set 19 (q 19, .inl (dA 18, 16, .inl f')) = wM q dA (stM M 9 f') := rfl
theorem wM_20 (q : Nat → Nat) (dA : Nat → ClassId) (M : Mm) : (wM q dA M)[20]? = some (q 20, .inl (dA 19, 100, .inl (M 10))) := rfl
theorem wM_s20 (q : Nat → Nat) (dA : Nat → ClassId) (M : Mm) (f' : Nat → Int32) : (wM q dA M).set 20 (q 20, .inl (dA 19, 100, .inl f')) = wM q dA (stM M 10 f') := rfl
theorem wM_21 (q : Nat → Nat) (dA : Nat → ClassId) (M : Mm) : (wM q dA M)[21]? = some (q 21, .inl (dA 20, 100, .inl (M 11))) := rfl
theorem wM_s21 (q : Nat → Nat) (dA : Nat → ClassId) (M : Mm) (f' : Nat → Int32) : (wM q dA M).set 21 (q 21, .inl (dA 20, 100, .inl f')) = wM q dA (stM M 11 f') := rfl
theorem wM_22 (q : Nat → Nat) (dA : Nat → ClassId) (M : Mm) : (wM q dA M)[22]? = some (q 22, .inl (dA 21, 100, .inl (M 12))) := rfl
theorem wM_s22 (q : Nat → Nat) (dA : Nat → ClassId) (M : Mm) (f' : Nat → Int32) : (wM q dA M).set 22 (q 22, .inl (dA 21, 100, .inl f')) = wM q dA (stM M 12 f') := rfl
theorem wM_23 (q : Nat → Nat) (dA : Nat → ClassId) (M : Mm) : (wM q dA M)[23]? = some (q 23, .inl (dA 22, 100, .inl (M 13))) := rfl
theorem wM_s23 (q : Nat → Nat) (dA : Nat → ClassId) (M : Mm) (f' : Nat → Int32) : (wM q dA M).set 23 (q 23, .inl (dA 22, 100, .inl f')) = wM q dA (stM M 13 f') := rfl
