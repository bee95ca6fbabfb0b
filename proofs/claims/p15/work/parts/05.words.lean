/-- the words that hold at every call: those of the tables that stay -/
def wsG : List Cond := lw_tbl.filter goodWord
def wsA (y : MethodName) (cc : ByteArray) (n : Nat) (r : Option FieldType) : List Cond := .code y cc n r :: wsG
theorem wsG_of {w : Cond} (h : w ∈ lw_tbl) (hg : goodWord w = true) : w ∈ wsG := List.mem_filter.mpr ⟨h, hg⟩
theorem wsG_in {w : Cond} (h : w ∈ wsG) : w ∈ lw_tbl := (List.mem_filter.mp h).1
theorem wsG_good : ∀ w ∈ wsG, w ∈ wsG ∧ ((w.onTables && w.keeps) = true ∨ ∃ ty, w = .arrayClass ty) := fun w h => ⟨h, good_of_word (List.mem_filter.mp h).2⟩
theorem giV {own C : String} {idx : Nat} {y : MethodName} {c : Cond} (h1 : Cond.methodLink own idx y ∈ wsG) (h2 : Cond.instanceMethod y ∈ wsG) (h3 : Cond.selects C y y ∈ wsG) (h4 : Cond.initialized C ∈ wsG) (h5 : c ∈ wsG) : GoodIn wsG (wsV own idx C y (c :: wsG)) := by
  intro w hw
  unfold wsV at hw
  simp only [List.cons_append, List.nil_append, List.mem_cons] at hw
  rcases hw with rfl | rfl | rfl | rfl | rfl | hw
  · exact wsG_good _ h1
  · exact wsG_good _ h2
  · exact wsG_good _ h3
  · exact wsG_good _ h4
  · exact wsG_good _ h5
  · exact wsG_good _ hw
theorem giS {own : String} {idx : Nat} {y : MethodName} {c : Cond} (h1 : Cond.methodLink own idx y ∈ wsG) (h2 : Cond.static y ∈ wsG) (h4 : Cond.initialized y.cls ∈ wsG) (h5 : c ∈ wsG) : GoodIn wsG (va_wsS own idx y (c :: wsG)) := by
  intro w hw
  unfold va_wsS at hw
  simp only [List.cons_append, List.nil_append, List.mem_cons] at hw
  rcases hw with rfl | rfl | rfl | rfl | hw
  · exact wsG_good _ h1
  · exact wsG_good _ h2
  · exact wsG_good _ h4
  · exact wsG_good _ h5
  · exact wsG_good _ hw
theorem giI {c : Cond} (h5 : c ∈ wsG) : GoodIn wsG (c :: wsG) := fun w hw => (List.mem_cons.mp hw).elim (fun e => by rw [e]; exact wsG_good _ h5) (fun h => wsG_good _ h)
set_option maxRecDepth 20000 in
theorem inXs : ∀ w ∈ u_ws "ServiceThreads" TXs 14, w ∈ wsG := fun w h => wsG_of ((by decide +kernel : ∀ w ∈ u_ws "ServiceThreads" TXs 14, w ∈ lw_tbl) w h) ((by decide +kernel : ∀ w ∈ u_ws "ServiceThreads" TXs 14, goodWord w = true) w h)
set_option maxRecDepth 20000 in
theorem inXp : ∀ w ∈ u_ws "ServiceThreads$Programs" TXp 4, w ∈ wsG := fun w h => wsG_of ((by decide +kernel : ∀ w ∈ u_ws "ServiceThreads$Programs" TXp 4, w ∈ lw_tbl) w h) ((by decide +kernel : ∀ w ∈ u_ws "ServiceThreads$Programs" TXp 4, goodWord w = true) w h)
set_option maxRecDepth 20000 in
theorem inXu : ∀ w ∈ u_ws "ServiceThreads$Units" TXu 2, w ∈ wsG := fun w h => wsG_of ((by decide +kernel : ∀ w ∈ u_ws "ServiceThreads$Units" TXu 2, w ∈ lw_tbl) w h) ((by decide +kernel : ∀ w ∈ u_ws "ServiceThreads$Units" TXu 2, goodWord w = true) w h)
set_option maxRecDepth 20000 in
theorem inXc : ∀ w ∈ u_ws "ServiceThreads$Calls" TXc 5, w ∈ wsG := fun w h => wsG_of ((by decide +kernel : ∀ w ∈ u_ws "ServiceThreads$Calls" TXc 5, w ∈ lw_tbl) w h) ((by decide +kernel : ∀ w ∈ u_ws "ServiceThreads$Calls" TXc 5, goodWord w = true) w h)
set_option maxRecDepth 20000 in
theorem inXr : ∀ w ∈ u_ws "ServiceThreads$Rows" TXr 5, w ∈ wsG := fun w h => wsG_of ((by decide +kernel : ∀ w ∈ u_ws "ServiceThreads$Rows" TXr 5, w ∈ lw_tbl) w h) ((by decide +kernel : ∀ w ∈ u_ws "ServiceThreads$Rows" TXr 5, goodWord w = true) w h)
set_option maxRecDepth 20000 in
theorem inXm : ∀ w ∈ u_ws "ServiceThreadsModel" TXm 28, w ∈ wsG := fun w h => wsG_of ((by decide +kernel : ∀ w ∈ u_ws "ServiceThreadsModel" TXm 28, w ∈ lw_tbl) w h) ((by decide +kernel : ∀ w ∈ u_ws "ServiceThreadsModel" TXm 28, goodWord w = true) w h)
set_option maxRecDepth 20000 in
theorem wt_0 : (Cond.initialized "ServiceThreadsLaw") ∈ wsG := wsG_of (List.mem_append_right _ (List.mem_append_left _ (List.mem_of_getElem? (i := 0) rfl))) (by decide +kernel)
set_option maxRecDepth 20000 in
theorem wt_1 : (Cond.initialized "ServiceThreads") ∈ wsG := wsG_of (List.mem_append_right _ (List.mem_append_left _ (List.mem_of_getElem? (i := 1) rfl))) (by decide +kernel)
set_option maxRecDepth 20000 in
theorem wt_2 : (Cond.initialized "ServiceThreads$Programs") ∈ wsG := wsG_of (List.mem_append_right _ (List.mem_append_left _ (List.mem_of_getElem? (i := 2) rfl))) (by decide +kernel)
set_option maxRecDepth 20000 in
theorem wt_3 : (Cond.initialized "java/util/Arrays") ∈ wsG := wsG_of (List.mem_append_right _ (List.mem_append_left _ (List.mem_of_getElem? (i := 3) rfl))) (by decide +kernel)
set_option maxRecDepth 20000 in
theorem wt_4 : (Cond.initialized "ServiceThreads$Units") ∈ wsG := wsG_of (List.mem_append_right _ (List.mem_append_left _ (List.mem_of_getElem? (i := 4) rfl))) (by decide +kernel)
set_option maxRecDepth 20000 in
theorem wt_5 : (Cond.initialized "ServiceThreads$Calls") ∈ wsG := wsG_of (List.mem_append_right _ (List.mem_append_left _ (List.mem_of_getElem? (i := 5) rfl))) (by decide +kernel)
set_option maxRecDepth 20000 in
theorem wt_6 : (Cond.initialized "ServiceThreads$Rows") ∈ wsG := wsG_of (List.mem_append_right _ (List.mem_append_left _ (List.mem_of_getElem? (i := 6) rfl))) (by decide +kernel)
set_option maxRecDepth 20000 in
theorem wt_7 : (Cond.initialized "ServiceThreadsModel") ∈ wsG := wsG_of (List.mem_append_right _ (List.mem_append_left _ (List.mem_of_getElem? (i := 7) rfl))) (by decide +kernel)
set_option maxRecDepth 20000 in
theorem wt_8 : (Cond.initialized "java/lang/Throwable") ∈ wsG := wsG_of (List.mem_append_right _ (List.mem_append_left _ (List.mem_of_getElem? (i := 8) rfl))) (by decide +kernel)
set_option maxRecDepth 20000 in
theorem wt_9 : (Cond.initialized "java/lang/Exception") ∈ wsG := wsG_of (List.mem_append_right _ (List.mem_append_left _ (List.mem_of_getElem? (i := 9) rfl))) (by decide +kernel)
set_option maxRecDepth 20000 in
theorem wt_10 : (Cond.initialized "java/lang/RuntimeException") ∈ wsG := wsG_of (List.mem_append_right _ (List.mem_append_left _ (List.mem_of_getElem? (i := 10) rfl))) (by decide +kernel)
set_option maxRecDepth 20000 in
theorem wt_11 : (Cond.initialized "java/lang/IllegalArgumentException") ∈ wsG := wsG_of (List.mem_append_right _ (List.mem_append_left _ (List.mem_of_getElem? (i := 11) rfl))) (by decide +kernel)
set_option maxRecDepth 20000 in
theorem wt_12 : (Cond.initialized "java/lang/IndexOutOfBoundsException") ∈ wsG := wsG_of (List.mem_append_right _ (List.mem_append_left _ (List.mem_of_getElem? (i := 12) rfl))) (by decide +kernel)
set_option maxRecDepth 20000 in
theorem wt_13 : (Cond.initialized "java/lang/IllegalStateException") ∈ wsG := wsG_of (List.mem_append_right _ (List.mem_append_left _ (List.mem_of_getElem? (i := 13) rfl))) (by decide +kernel)
set_option maxRecDepth 20000 in
theorem wt_14 : (Cond.initialized "java/lang/UnsupportedOperationException") ∈ wsG := wsG_of (List.mem_append_right _ (List.mem_append_left _ (List.mem_of_getElem? (i := 14) rfl))) (by decide +kernel)
set_option maxRecDepth 20000 in
theorem wt_15 : (Cond.initialized "java/lang/Math") ∈ wsG := wsG_of (List.mem_append_right _ (List.mem_append_left _ (List.mem_of_getElem? (i := 15) rfl))) (by decide +kernel)
set_option maxRecDepth 20000 in
theorem wt_16 : (Cond.classLink "ServiceThreadsLaw" 8 "ServiceThreads") ∈ wsG := wsG_of (List.mem_append_right _ (List.mem_append_left _ (List.mem_of_getElem? (i := 16) rfl))) (by decide +kernel)
set_option maxRecDepth 20000 in
theorem wt_17 : (Cond.instantiable "ServiceThreads" 14) ∈ wsG := wsG_of (List.mem_append_right _ (List.mem_append_left _ (List.mem_of_getElem? (i := 17) rfl))) (by decide +kernel)
set_option maxRecDepth 20000 in
theorem wt_18 : (Cond.methodLink "ServiceThreadsLaw" 62 yXs_init) ∈ wsG := wsG_of (List.mem_append_right _ (List.mem_append_left _ (List.mem_of_getElem? (i := 18) rfl))) (by decide +kernel)
set_option maxRecDepth 20000 in
theorem wt_19 : (Cond.instanceMethod yXs_init) ∈ wsG := wsG_of (List.mem_append_right _ (List.mem_append_left _ (List.mem_of_getElem? (i := 19) rfl))) (by decide +kernel)
set_option maxRecDepth 20000 in
theorem wt_20 : (Cond.code yXs_init cXs_init 1 none) ∈ wsG := wsG_of (List.mem_append_right _ (List.mem_append_left _ (List.mem_of_getElem? (i := 20) rfl))) (by decide +kernel)
set_option maxRecDepth 20000 in
theorem wt_21 : (Cond.methodLink "ServiceThreads" 1 ⟨"java/lang/Object", "<init>", "()V"⟩) ∈ wsG := wsG_of (List.mem_append_right _ (List.mem_append_left _ (List.mem_of_getElem? (i := 21) rfl))) (by decide +kernel)
set_option maxRecDepth 20000 in
theorem wt_22 : (Cond.instanceMethod ⟨"java/lang/Object", "<init>", "()V"⟩) ∈ wsG := wsG_of (List.mem_append_right _ (List.mem_append_left _ (List.mem_of_getElem? (i := 22) rfl))) (by decide +kernel)
set_option maxRecDepth 20000 in
theorem wt_23 : (Cond.code ⟨"java/lang/Object", "<init>", "()V"⟩ object_method_1_code 1 none) ∈ wsG := wsG_of (List.mem_append_right _ (List.mem_append_left _ (List.mem_of_getElem? (i := 23) rfl))) (by decide +kernel)
set_option maxRecDepth 20000 in
theorem wt_24 : (Cond.classLink "ServiceThreads" 7 "ServiceThreads$Programs") ∈ wsG := wsG_of (List.mem_append_right _ (List.mem_append_left _ (List.mem_of_getElem? (i := 24) rfl))) (by decide +kernel)
set_option maxRecDepth 20000 in
theorem wt_25 : (Cond.instantiable "ServiceThreads$Programs" 4) ∈ wsG := wsG_of (List.mem_append_right _ (List.mem_append_left _ (List.mem_of_getElem? (i := 25) rfl))) (by decide +kernel)
set_option maxRecDepth 20000 in
theorem wt_26 : (Cond.methodLink "ServiceThreads" 9 yXp_init) ∈ wsG := wsG_of (List.mem_append_right _ (List.mem_append_left _ (List.mem_of_getElem? (i := 26) rfl))) (by decide +kernel)
set_option maxRecDepth 20000 in
theorem wt_27 : (Cond.instanceMethod yXp_init) ∈ wsG := wsG_of (List.mem_append_right _ (List.mem_append_left _ (List.mem_of_getElem? (i := 27) rfl))) (by decide +kernel)
set_option maxRecDepth 20000 in
theorem wt_28 : (Cond.code yXp_init cXp_init 1 none) ∈ wsG := wsG_of (List.mem_append_right _ (List.mem_append_left _ (List.mem_of_getElem? (i := 28) rfl))) (by decide +kernel)
set_option maxRecDepth 20000 in
theorem wt_29 : (Cond.methodLink "ServiceThreads$Programs" 3 ⟨"java/lang/Object", "<init>", "()V"⟩) ∈ wsG := wsG_of (List.mem_append_right _ (List.mem_append_left _ (List.mem_of_getElem? (i := 29) rfl))) (by decide +kernel)
set_option maxRecDepth 20000 in
theorem wt_30 : (Cond.methodLink "ServiceThreads$Programs" 24 yXf_fill) ∈ wsG := wsG_of (List.mem_append_right _ (List.mem_append_left _ (List.mem_of_getElem? (i := 30) rfl))) (by decide +kernel)
set_option maxRecDepth 20000 in
theorem wt_31 : (Cond.static yXf_fill) ∈ wsG := wsG_of (List.mem_append_right _ (List.mem_append_left _ (List.mem_of_getElem? (i := 31) rfl))) (by decide +kernel)
set_option maxRecDepth 20000 in
theorem wt_32 : (Cond.code yXf_fill cXf_fill 4 none) ∈ wsG := wsG_of (List.mem_append_right _ (List.mem_append_left _ (List.mem_of_getElem? (i := 32) rfl))) (by decide +kernel)
set_option maxRecDepth 20000 in
theorem wt_33 : (Cond.fieldLink "ServiceThreads$Programs" 9 "ServiceThreads$Programs" "kinds" "[I") ∈ wsG := wsG_of (List.mem_append_right _ (List.mem_append_left _ (List.mem_of_getElem? (i := 33) rfl))) (by decide +kernel)
set_option maxRecDepth 20000 in
theorem wt_34 : (Cond.fieldLink "ServiceThreads$Programs" 15 "ServiceThreads$Programs" "numbers" "[I") ∈ wsG := wsG_of (List.mem_append_right _ (List.mem_append_left _ (List.mem_of_getElem? (i := 34) rfl))) (by decide +kernel)
set_option maxRecDepth 20000 in
theorem wt_35 : (Cond.fieldLink "ServiceThreads$Programs" 18 "ServiceThreads$Programs" "acts" "[I") ∈ wsG := wsG_of (List.mem_append_right _ (List.mem_append_left _ (List.mem_of_getElem? (i := 35) rfl))) (by decide +kernel)
set_option maxRecDepth 20000 in
theorem wt_36 : (Cond.fieldLink "ServiceThreads$Programs" 21 "ServiceThreads$Programs" "finishes" "[I") ∈ wsG := wsG_of (List.mem_append_right _ (List.mem_append_left _ (List.mem_of_getElem? (i := 36) rfl))) (by decide +kernel)
set_option maxRecDepth 20000 in
theorem wt_46 : (Cond.arrayClass .int) ∈ wsG := wsG_of (List.mem_append_right _ (List.mem_append_left _ (List.mem_of_getElem? (i := 46) rfl))) (by decide +kernel)
set_option maxRecDepth 20000 in
theorem wt_47 : (Cond.classLink "ServiceThreads" 16 "ServiceThreads$Units") ∈ wsG := wsG_of (List.mem_append_right _ (List.mem_append_left _ (List.mem_of_getElem? (i := 47) rfl))) (by decide +kernel)
set_option maxRecDepth 20000 in
theorem wt_48 : (Cond.instantiable "ServiceThreads$Units" 2) ∈ wsG := wsG_of (List.mem_append_right _ (List.mem_append_left _ (List.mem_of_getElem? (i := 48) rfl))) (by decide +kernel)
set_option maxRecDepth 20000 in
theorem wt_49 : (Cond.methodLink "ServiceThreads" 18 yXu_init) ∈ wsG := wsG_of (List.mem_append_right _ (List.mem_append_left _ (List.mem_of_getElem? (i := 49) rfl))) (by decide +kernel)
set_option maxRecDepth 20000 in
theorem wt_50 : (Cond.instanceMethod yXu_init) ∈ wsG := wsG_of (List.mem_append_right _ (List.mem_append_left _ (List.mem_of_getElem? (i := 50) rfl))) (by decide +kernel)
set_option maxRecDepth 20000 in
theorem wt_51 : (Cond.code yXu_init cXu_init 1 none) ∈ wsG := wsG_of (List.mem_append_right _ (List.mem_append_left _ (List.mem_of_getElem? (i := 51) rfl))) (by decide +kernel)
set_option maxRecDepth 20000 in
theorem wt_52 : (Cond.methodLink "ServiceThreads$Units" 3 ⟨"java/lang/Object", "<init>", "()V"⟩) ∈ wsG := wsG_of (List.mem_append_right _ (List.mem_append_left _ (List.mem_of_getElem? (i := 52) rfl))) (by decide +kernel)
set_option maxRecDepth 20000 in
theorem wt_53 : (Cond.methodLink "ServiceThreads$Units" 18 yXf_fill) ∈ wsG := wsG_of (List.mem_append_right _ (List.mem_append_left _ (List.mem_of_getElem? (i := 53) rfl))) (by decide +kernel)
set_option maxRecDepth 20000 in
theorem wt_54 : (Cond.fieldLink "ServiceThreads$Units" 9 "ServiceThreads$Units" "lockedBy" "[I") ∈ wsG := wsG_of (List.mem_append_right _ (List.mem_append_left _ (List.mem_of_getElem? (i := 54) rfl))) (by decide +kernel)
set_option maxRecDepth 20000 in
theorem wt_55 : (Cond.fieldLink "ServiceThreads" 158 "ServiceThreads$Units" "lockedBy" "[I") ∈ wsG := wsG_of (List.mem_append_right _ (List.mem_append_left _ (List.mem_of_getElem? (i := 55) rfl))) (by decide +kernel)
set_option maxRecDepth 20000 in
theorem wt_56 : (Cond.fieldLink "ServiceThreads$Units" 15 "ServiceThreads$Units" "sentTo" "[I") ∈ wsG := wsG_of (List.mem_append_right _ (List.mem_append_left _ (List.mem_of_getElem? (i := 56) rfl))) (by decide +kernel)
set_option maxRecDepth 20000 in
theorem wt_57 : (Cond.fieldLink "ServiceThreads" 161 "ServiceThreads$Units" "sentTo" "[I") ∈ wsG := wsG_of (List.mem_append_right _ (List.mem_append_left _ (List.mem_of_getElem? (i := 57) rfl))) (by decide +kernel)
set_option maxRecDepth 20000 in
theorem wt_63 : (Cond.classLink "ServiceThreads" 23 "ServiceThreads$Calls") ∈ wsG := wsG_of (List.mem_append_right _ (List.mem_append_left _ (List.mem_of_getElem? (i := 63) rfl))) (by decide +kernel)
set_option maxRecDepth 20000 in
theorem wt_64 : (Cond.instantiable "ServiceThreads$Calls" 5) ∈ wsG := wsG_of (List.mem_append_right _ (List.mem_append_left _ (List.mem_of_getElem? (i := 64) rfl))) (by decide +kernel)
set_option maxRecDepth 20000 in
theorem wt_65 : (Cond.methodLink "ServiceThreads" 25 yXc_init) ∈ wsG := wsG_of (List.mem_append_right _ (List.mem_append_left _ (List.mem_of_getElem? (i := 65) rfl))) (by decide +kernel)
set_option maxRecDepth 20000 in
theorem wt_66 : (Cond.instanceMethod yXc_init) ∈ wsG := wsG_of (List.mem_append_right _ (List.mem_append_left _ (List.mem_of_getElem? (i := 66) rfl))) (by decide +kernel)
set_option maxRecDepth 20000 in
theorem wt_67 : (Cond.code yXc_init cXc_init 1 none) ∈ wsG := wsG_of (List.mem_append_right _ (List.mem_append_left _ (List.mem_of_getElem? (i := 67) rfl))) (by decide +kernel)
set_option maxRecDepth 20000 in
theorem wt_68 : (Cond.methodLink "ServiceThreads$Calls" 3 ⟨"java/lang/Object", "<init>", "()V"⟩) ∈ wsG := wsG_of (List.mem_append_right _ (List.mem_append_left _ (List.mem_of_getElem? (i := 68) rfl))) (by decide +kernel)
set_option maxRecDepth 20000 in
theorem wt_69 : (Cond.methodLink "ServiceThreads$Calls" 25 yXf_fill) ∈ wsG := wsG_of (List.mem_append_right _ (List.mem_append_left _ (List.mem_of_getElem? (i := 69) rfl))) (by decide +kernel)
set_option maxRecDepth 20000 in
theorem wt_70 : (Cond.fieldLink "ServiceThreads$Calls" 9 "ServiceThreads$Calls" "rankOf" "[I") ∈ wsG := wsG_of (List.mem_append_right _ (List.mem_append_left _ (List.mem_of_getElem? (i := 70) rfl))) (by decide +kernel)
set_option maxRecDepth 20000 in
theorem wt_71 : (Cond.fieldLink "ServiceThreads" 171 "ServiceThreads$Calls" "rankOf" "[I") ∈ wsG := wsG_of (List.mem_append_right _ (List.mem_append_left _ (List.mem_of_getElem? (i := 71) rfl))) (by decide +kernel)
set_option maxRecDepth 20000 in
theorem wt_72 : (Cond.fieldLink "ServiceThreads$Calls" 15 "ServiceThreads$Calls" "hadBy" "[I") ∈ wsG := wsG_of (List.mem_append_right _ (List.mem_append_left _ (List.mem_of_getElem? (i := 72) rfl))) (by decide +kernel)
set_option maxRecDepth 20000 in
theorem wt_73 : (Cond.fieldLink "ServiceThreads" 174 "ServiceThreads$Calls" "hadBy" "[I") ∈ wsG := wsG_of (List.mem_append_right _ (List.mem_append_left _ (List.mem_of_getElem? (i := 73) rfl))) (by decide +kernel)
set_option maxRecDepth 20000 in
theorem wt_74 : (Cond.fieldLink "ServiceThreads$Calls" 18 "ServiceThreads$Calls" "unitOf" "[I") ∈ wsG := wsG_of (List.mem_append_right _ (List.mem_append_left _ (List.mem_of_getElem? (i := 74) rfl))) (by decide +kernel)
set_option maxRecDepth 20000 in
theorem wt_75 : (Cond.fieldLink "ServiceThreads" 177 "ServiceThreads$Calls" "unitOf" "[I") ∈ wsG := wsG_of (List.mem_append_right _ (List.mem_append_left _ (List.mem_of_getElem? (i := 75) rfl))) (by decide +kernel)
set_option maxRecDepth 20000 in
theorem wt_76 : (Cond.fieldLink "ServiceThreads$Calls" 21 "ServiceThreads$Calls" "isOpen" "[Z") ∈ wsG := wsG_of (List.mem_append_right _ (List.mem_append_left _ (List.mem_of_getElem? (i := 76) rfl))) (by decide +kernel)
set_option maxRecDepth 20000 in
theorem wt_77 : (Cond.fieldLink "ServiceThreads" 180 "ServiceThreads$Calls" "isOpen" "[Z") ∈ wsG := wsG_of (List.mem_append_right _ (List.mem_append_left _ (List.mem_of_getElem? (i := 77) rfl))) (by decide +kernel)
set_option maxRecDepth 20000 in
theorem wt_78 : (Cond.fieldLink "ServiceThreads$Calls" 31 "ServiceThreads$Calls" "made" "I") ∈ wsG := wsG_of (List.mem_append_right _ (List.mem_append_left _ (List.mem_of_getElem? (i := 78) rfl))) (by decide +kernel)
set_option maxRecDepth 20000 in
theorem wt_90 : (Cond.arrayClass .boolean) ∈ wsG := wsG_of (List.mem_append_right _ (List.mem_append_left _ (List.mem_of_getElem? (i := 90) rfl))) (by decide +kernel)
set_option maxRecDepth 20000 in
theorem wt_91 : (Cond.classLink "ServiceThreads" 30 "ServiceThreads$Rows") ∈ wsG := wsG_of (List.mem_append_right _ (List.mem_append_left _ (List.mem_of_getElem? (i := 91) rfl))) (by decide +kernel)
set_option maxRecDepth 20000 in
theorem wt_92 : (Cond.instantiable "ServiceThreads$Rows" 5) ∈ wsG := wsG_of (List.mem_append_right _ (List.mem_append_left _ (List.mem_of_getElem? (i := 92) rfl))) (by decide +kernel)
set_option maxRecDepth 20000 in
theorem wt_93 : (Cond.methodLink "ServiceThreads" 32 yXr_init) ∈ wsG := wsG_of (List.mem_append_right _ (List.mem_append_left _ (List.mem_of_getElem? (i := 93) rfl))) (by decide +kernel)
set_option maxRecDepth 20000 in
theorem wt_94 : (Cond.instanceMethod yXr_init) ∈ wsG := wsG_of (List.mem_append_right _ (List.mem_append_left _ (List.mem_of_getElem? (i := 94) rfl))) (by decide +kernel)
set_option maxRecDepth 20000 in
theorem wt_95 : (Cond.code yXr_init cXr_init 1 none) ∈ wsG := wsG_of (List.mem_append_right _ (List.mem_append_left _ (List.mem_of_getElem? (i := 95) rfl))) (by decide +kernel)
set_option maxRecDepth 20000 in
theorem wt_96 : (Cond.methodLink "ServiceThreads$Rows" 3 ⟨"java/lang/Object", "<init>", "()V"⟩) ∈ wsG := wsG_of (List.mem_append_right _ (List.mem_append_left _ (List.mem_of_getElem? (i := 96) rfl))) (by decide +kernel)
set_option maxRecDepth 20000 in
theorem wt_97 : (Cond.fieldLink "ServiceThreads$Rows" 9 "ServiceThreads$Rows" "threadOf" "[I") ∈ wsG := wsG_of (List.mem_append_right _ (List.mem_append_left _ (List.mem_of_getElem? (i := 97) rfl))) (by decide +kernel)
set_option maxRecDepth 20000 in
theorem wt_98 : (Cond.fieldLink "ServiceThreads" 193 "ServiceThreads$Rows" "threadOf" "[I") ∈ wsG := wsG_of (List.mem_append_right _ (List.mem_append_left _ (List.mem_of_getElem? (i := 98) rfl))) (by decide +kernel)
set_option maxRecDepth 20000 in
theorem wt_99 : (Cond.fieldLink "ServiceThreads$Rows" 15 "ServiceThreads$Rows" "faultOf" "[I") ∈ wsG := wsG_of (List.mem_append_right _ (List.mem_append_left _ (List.mem_of_getElem? (i := 99) rfl))) (by decide +kernel)
set_option maxRecDepth 20000 in
theorem wt_100 : (Cond.fieldLink "ServiceThreads" 196 "ServiceThreads$Rows" "faultOf" "[I") ∈ wsG := wsG_of (List.mem_append_right _ (List.mem_append_left _ (List.mem_of_getElem? (i := 100) rfl))) (by decide +kernel)
set_option maxRecDepth 20000 in
theorem wt_101 : (Cond.fieldLink "ServiceThreads$Rows" 18 "ServiceThreads$Rows" "actOf" "[I") ∈ wsG := wsG_of (List.mem_append_right _ (List.mem_append_left _ (List.mem_of_getElem? (i := 101) rfl))) (by decide +kernel)
set_option maxRecDepth 20000 in
theorem wt_102 : (Cond.fieldLink "ServiceThreads" 199 "ServiceThreads$Rows" "actOf" "[I") ∈ wsG := wsG_of (List.mem_append_right _ (List.mem_append_left _ (List.mem_of_getElem? (i := 102) rfl))) (by decide +kernel)
set_option maxRecDepth 20000 in
theorem wt_103 : (Cond.fieldLink "ServiceThreads$Rows" 21 "ServiceThreads$Rows" "turnOf" "[I") ∈ wsG := wsG_of (List.mem_append_right _ (List.mem_append_left _ (List.mem_of_getElem? (i := 103) rfl))) (by decide +kernel)
set_option maxRecDepth 20000 in
theorem wt_104 : (Cond.fieldLink "ServiceThreads" 202 "ServiceThreads$Rows" "turnOf" "[I") ∈ wsG := wsG_of (List.mem_append_right _ (List.mem_append_left _ (List.mem_of_getElem? (i := 104) rfl))) (by decide +kernel)
set_option maxRecDepth 20000 in
theorem wt_105 : (Cond.fieldLink "ServiceThreads$Rows" 24 "ServiceThreads$Rows" "kept" "I") ∈ wsG := wsG_of (List.mem_append_right _ (List.mem_append_left _ (List.mem_of_getElem? (i := 105) rfl))) (by decide +kernel)
set_option maxRecDepth 20000 in
theorem wt_106 : (Cond.fieldLink "ServiceThreads" 207 "ServiceThreads$Rows" "kept" "I") ∈ wsG := wsG_of (List.mem_append_right _ (List.mem_append_left _ (List.mem_of_getElem? (i := 106) rfl))) (by decide +kernel)
set_option maxRecDepth 20000 in
theorem wt_118 : (Cond.fieldLink "ServiceThreads" 10 "ServiceThreads" "programs" "LServiceThreads$Programs;") ∈ wsG := wsG_of (List.mem_append_right _ (List.mem_append_left _ (List.mem_of_getElem? (i := 118) rfl))) (by decide +kernel)
set_option maxRecDepth 20000 in
theorem wt_119 : (Cond.fieldLink "ServiceThreads" 19 "ServiceThreads" "units" "LServiceThreads$Units;") ∈ wsG := wsG_of (List.mem_append_right _ (List.mem_append_left _ (List.mem_of_getElem? (i := 119) rfl))) (by decide +kernel)
set_option maxRecDepth 20000 in
theorem wt_120 : (Cond.fieldLink "ServiceThreads" 26 "ServiceThreads" "calls" "LServiceThreads$Calls;") ∈ wsG := wsG_of (List.mem_append_right _ (List.mem_append_left _ (List.mem_of_getElem? (i := 120) rfl))) (by decide +kernel)
set_option maxRecDepth 20000 in
theorem wt_121 : (Cond.fieldLink "ServiceThreads" 33 "ServiceThreads" "rows" "LServiceThreads$Rows;") ∈ wsG := wsG_of (List.mem_append_right _ (List.mem_append_left _ (List.mem_of_getElem? (i := 121) rfl))) (by decide +kernel)
set_option maxRecDepth 20000 in
theorem wt_122 : (Cond.fieldLink "ServiceThreads" 37 "ServiceThreads" "state" "[I") ∈ wsG := wsG_of (List.mem_append_right _ (List.mem_append_left _ (List.mem_of_getElem? (i := 122) rfl))) (by decide +kernel)
set_option maxRecDepth 20000 in
theorem wt_123 : (Cond.fieldLink "ServiceThreads" 41 "ServiceThreads" "at" "[I") ∈ wsG := wsG_of (List.mem_append_right _ (List.mem_append_left _ (List.mem_of_getElem? (i := 123) rfl))) (by decide +kernel)
set_option maxRecDepth 20000 in
theorem wt_124 : (Cond.fieldLink "ServiceThreads" 44 "ServiceThreads" "latestFault" "[I") ∈ wsG := wsG_of (List.mem_append_right _ (List.mem_append_left _ (List.mem_of_getElem? (i := 124) rfl))) (by decide +kernel)
set_option maxRecDepth 20000 in
theorem wt_125 : (Cond.fieldLink "ServiceThreads" 47 "ServiceThreads" "restLeft" "[I") ∈ wsG := wsG_of (List.mem_append_right _ (List.mem_append_left _ (List.mem_of_getElem? (i := 125) rfl))) (by decide +kernel)
set_option maxRecDepth 20000 in
theorem wt_126 : (Cond.fieldLink "ServiceThreads" 50 "ServiceThreads" "restsAnew" "[I") ∈ wsG := wsG_of (List.mem_append_right _ (List.mem_append_left _ (List.mem_of_getElem? (i := 126) rfl))) (by decide +kernel)
set_option maxRecDepth 20000 in
theorem wt_127 : (Cond.fieldLink "ServiceThreads" 53 "ServiceThreads" "locksDue" "[I") ∈ wsG := wsG_of (List.mem_append_right _ (List.mem_append_left _ (List.mem_of_getElem? (i := 127) rfl))) (by decide +kernel)
set_option maxRecDepth 20000 in
theorem wt_128 : (Cond.fieldLink "ServiceThreads" 56 "ServiceThreads" "interrupted" "[Z") ∈ wsG := wsG_of (List.mem_append_right _ (List.mem_append_left _ (List.mem_of_getElem? (i := 128) rfl))) (by decide +kernel)
set_option maxRecDepth 20000 in
theorem wt_129 : (Cond.fieldLink "ServiceThreads" 60 "ServiceThreads" "hadTurn" "[Z") ∈ wsG := wsG_of (List.mem_append_right _ (List.mem_append_left _ (List.mem_of_getElem? (i := 129) rfl))) (by decide +kernel)
set_option maxRecDepth 20000 in
theorem wt_130 : (Cond.fieldLink "ServiceThreads" 63 "ServiceThreads" "turnCount" "I") ∈ wsG := wsG_of (List.mem_append_right _ (List.mem_append_left _ (List.mem_of_getElem? (i := 130) rfl))) (by decide +kernel)
set_option maxRecDepth 20000 in
theorem wt_131 : (Cond.fieldLink "ServiceThreads" 67 "ServiceThreads" "leaseTurns" "I") ∈ wsG := wsG_of (List.mem_append_right _ (List.mem_append_left _ (List.mem_of_getElem? (i := 131) rfl))) (by decide +kernel)
set_option maxRecDepth 20000 in
theorem wt_161 : (Cond.methodLink "ServiceThreadsLaw" 99 yXs_close) ∈ wsG := wsG_of (List.mem_append_right _ (List.mem_append_left _ (List.mem_of_getElem? (i := 161) rfl))) (by decide +kernel)
set_option maxRecDepth 20000 in
theorem wt_162 : (Cond.instanceMethod yXs_close) ∈ wsG := wsG_of (List.mem_append_right _ (List.mem_append_left _ (List.mem_of_getElem? (i := 162) rfl))) (by decide +kernel)
set_option maxRecDepth 20000 in
theorem wt_163 : (Cond.selects "ServiceThreads" yXs_close yXs_close) ∈ wsG := wsG_of (List.mem_append_right _ (List.mem_append_left _ (List.mem_of_getElem? (i := 163) rfl))) (by decide +kernel)
set_option maxRecDepth 20000 in
theorem wt_164 : (Cond.code yXs_close cXs_close 3 (some .int)) ∈ wsG := wsG_of (List.mem_append_right _ (List.mem_append_left _ (List.mem_of_getElem? (i := 164) rfl))) (by decide +kernel)
set_option maxRecDepth 20000 in
theorem wt_165 : (Cond.methodLink "ServiceThreads" 150 yXs_end) ∈ wsG := wsG_of (List.mem_append_right _ (List.mem_append_left _ (List.mem_of_getElem? (i := 165) rfl))) (by decide +kernel)
set_option maxRecDepth 20000 in
theorem wt_167 : (Cond.instanceMethod yXs_end) ∈ wsG := wsG_of (List.mem_append_right _ (List.mem_append_left _ (List.mem_of_getElem? (i := 167) rfl))) (by decide +kernel)
set_option maxRecDepth 20000 in
theorem wt_168 : (Cond.code yXs_end cXs_end 2 none) ∈ wsG := wsG_of (List.mem_append_right _ (List.mem_append_left _ (List.mem_of_getElem? (i := 168) rfl))) (by decide +kernel)
set_option maxRecDepth 20000 in
theorem wt_169 : (Cond.methodLink "ServiceThreads" 134 yXu_freeAllOf) ∈ wsG := wsG_of (List.mem_append_right _ (List.mem_append_left _ (List.mem_of_getElem? (i := 169) rfl))) (by decide +kernel)
set_option maxRecDepth 20000 in
theorem wt_170 : (Cond.instanceMethod yXu_freeAllOf) ∈ wsG := wsG_of (List.mem_append_right _ (List.mem_append_left _ (List.mem_of_getElem? (i := 170) rfl))) (by decide +kernel)
set_option maxRecDepth 20000 in
theorem wt_171 : (Cond.selects "ServiceThreads$Units" yXu_freeAllOf yXu_freeAllOf) ∈ wsG := wsG_of (List.mem_append_right _ (List.mem_append_left _ (List.mem_of_getElem? (i := 171) rfl))) (by decide +kernel)
set_option maxRecDepth 20000 in
theorem wt_172 : (Cond.code yXu_freeAllOf cXu_freeAllOf 3 none) ∈ wsG := wsG_of (List.mem_append_right _ (List.mem_append_left _ (List.mem_of_getElem? (i := 172) rfl))) (by decide +kernel)
set_option maxRecDepth 20000 in
theorem wt_173 : (Cond.methodLink "ServiceThreads" 153 yXc_dropUnsentOf) ∈ wsG := wsG_of (List.mem_append_right _ (List.mem_append_left _ (List.mem_of_getElem? (i := 173) rfl))) (by decide +kernel)
set_option maxRecDepth 20000 in
theorem wt_174 : (Cond.instanceMethod yXc_dropUnsentOf) ∈ wsG := wsG_of (List.mem_append_right _ (List.mem_append_left _ (List.mem_of_getElem? (i := 174) rfl))) (by decide +kernel)
set_option maxRecDepth 20000 in
theorem wt_175 : (Cond.selects "ServiceThreads$Calls" yXc_dropUnsentOf yXc_dropUnsentOf) ∈ wsG := wsG_of (List.mem_append_right _ (List.mem_append_left _ (List.mem_of_getElem? (i := 175) rfl))) (by decide +kernel)
set_option maxRecDepth 20000 in
theorem wt_176 : (Cond.code yXc_dropUnsentOf cXc_dropUnsentOf 3 none) ∈ wsG := wsG_of (List.mem_append_right _ (List.mem_append_left _ (List.mem_of_getElem? (i := 176) rfl))) (by decide +kernel)
set_option maxRecDepth 20000 in
theorem wt_177 : (Cond.methodLink "ServiceThreads$Calls" 39 yXc_isOpenOf) ∈ wsG := wsG_of (List.mem_append_right _ (List.mem_append_left _ (List.mem_of_getElem? (i := 177) rfl))) (by decide +kernel)
set_option maxRecDepth 20000 in
theorem wt_178 : (Cond.instanceMethod yXc_isOpenOf) ∈ wsG := wsG_of (List.mem_append_right _ (List.mem_append_left _ (List.mem_of_getElem? (i := 178) rfl))) (by decide +kernel)
set_option maxRecDepth 20000 in
theorem wt_179 : (Cond.selects "ServiceThreads$Calls" yXc_isOpenOf yXc_isOpenOf) ∈ wsG := wsG_of (List.mem_append_right _ (List.mem_append_left _ (List.mem_of_getElem? (i := 179) rfl))) (by decide +kernel)
set_option maxRecDepth 20000 in
theorem wt_180 : (Cond.code yXc_isOpenOf cXc_isOpenOf 3 (some .boolean)) ∈ wsG := wsG_of (List.mem_append_right _ (List.mem_append_left _ (List.mem_of_getElem? (i := 180) rfl))) (by decide +kernel)
set_option maxRecDepth 20000 in
theorem wt_181 : (Cond.methodLink "ServiceThreads$Calls" 35 yXc_isKnown) ∈ wsG := wsG_of (List.mem_append_right _ (List.mem_append_left _ (List.mem_of_getElem? (i := 181) rfl))) (by decide +kernel)
set_option maxRecDepth 20000 in
theorem wt_182 : (Cond.instanceMethod yXc_isKnown) ∈ wsG := wsG_of (List.mem_append_right _ (List.mem_append_left _ (List.mem_of_getElem? (i := 182) rfl))) (by decide +kernel)
set_option maxRecDepth 20000 in
theorem wt_183 : (Cond.selects "ServiceThreads$Calls" yXc_isKnown yXc_isKnown) ∈ wsG := wsG_of (List.mem_append_right _ (List.mem_append_left _ (List.mem_of_getElem? (i := 183) rfl))) (by decide +kernel)
set_option maxRecDepth 20000 in
theorem wt_184 : (Cond.code yXc_isKnown cXc_isKnown 2 (some .boolean)) ∈ wsG := wsG_of (List.mem_append_right _ (List.mem_append_left _ (List.mem_of_getElem? (i := 184) rfl))) (by decide +kernel)
set_option maxRecDepth 20000 in
theorem wt_185 : (Cond.methodLink "ServiceThreadsLaw" 66 yXl_act) ∈ wsG := wsG_of (List.mem_append_right _ (List.mem_append_left _ (List.mem_of_getElem? (i := 185) rfl))) (by decide +kernel)
set_option maxRecDepth 20000 in
theorem wt_186 : (Cond.static yXl_act) ∈ wsG := wsG_of (List.mem_append_right _ (List.mem_append_left _ (List.mem_of_getElem? (i := 186) rfl))) (by decide +kernel)
set_option maxRecDepth 20000 in
theorem wt_187 : (Cond.codeWith yXl_act cXl_act 6 (some .int) [(0, 12, 15, 13), (0, 12, 19, 15), (0, 12, 23, 17), (0, 12, 27, 19)]) ∈ wsG := wsG_of (List.mem_append_right _ (List.mem_append_left _ (List.mem_of_getElem? (i := 187) rfl))) (by decide +kernel)
set_option maxRecDepth 20000 in
theorem wt_188 : (Cond.classLink "ServiceThreadsLaw" 13 "java/lang/IllegalArgumentException") ∈ wsG := wsG_of (List.mem_append_right _ (List.mem_append_left _ (List.mem_of_getElem? (i := 188) rfl))) (by decide +kernel)
set_option maxRecDepth 20000 in
theorem wt_189 : (Cond.classLink "ServiceThreadsLaw" 15 "java/lang/IndexOutOfBoundsException") ∈ wsG := wsG_of (List.mem_append_right _ (List.mem_append_left _ (List.mem_of_getElem? (i := 189) rfl))) (by decide +kernel)
set_option maxRecDepth 20000 in
theorem wt_190 : (Cond.classLink "ServiceThreadsLaw" 17 "java/lang/IllegalStateException") ∈ wsG := wsG_of (List.mem_append_right _ (List.mem_append_left _ (List.mem_of_getElem? (i := 190) rfl))) (by decide +kernel)
set_option maxRecDepth 20000 in
theorem wt_191 : (Cond.classLink "ServiceThreadsLaw" 19 "java/lang/UnsupportedOperationException") ∈ wsG := wsG_of (List.mem_append_right _ (List.mem_append_left _ (List.mem_of_getElem? (i := 191) rfl))) (by decide +kernel)
set_option maxRecDepth 20000 in
theorem wt_192 : (Cond.methodLink "ServiceThreadsLaw" 7 yXs_act) ∈ wsG := wsG_of (List.mem_append_right _ (List.mem_append_left _ (List.mem_of_getElem? (i := 192) rfl))) (by decide +kernel)
set_option maxRecDepth 20000 in
theorem wt_193 : (Cond.instanceMethod yXs_act) ∈ wsG := wsG_of (List.mem_append_right _ (List.mem_append_left _ (List.mem_of_getElem? (i := 193) rfl))) (by decide +kernel)
set_option maxRecDepth 20000 in
theorem wt_194 : (Cond.selects "ServiceThreads" yXs_act yXs_act) ∈ wsG := wsG_of (List.mem_append_right _ (List.mem_append_left _ (List.mem_of_getElem? (i := 194) rfl))) (by decide +kernel)
set_option maxRecDepth 20000 in
theorem wt_195 : (Cond.code yXs_act cXs_act 4 (some .int)) ∈ wsG := wsG_of (List.mem_append_right _ (List.mem_append_left _ (List.mem_of_getElem? (i := 195) rfl))) (by decide +kernel)
set_option maxRecDepth 20000 in
theorem wt_196 : (Cond.methodLink "ServiceThreads" 70 yXs_requireThread) ∈ wsG := wsG_of (List.mem_append_right _ (List.mem_append_left _ (List.mem_of_getElem? (i := 196) rfl))) (by decide +kernel)
set_option maxRecDepth 20000 in
theorem wt_197 : (Cond.static yXs_requireThread) ∈ wsG := wsG_of (List.mem_append_right _ (List.mem_append_left _ (List.mem_of_getElem? (i := 197) rfl))) (by decide +kernel)
set_option maxRecDepth 20000 in
theorem wt_198 : (Cond.code yXs_requireThread cXs_requireThread 1 none) ∈ wsG := wsG_of (List.mem_append_right _ (List.mem_append_left _ (List.mem_of_getElem? (i := 198) rfl))) (by decide +kernel)
set_option maxRecDepth 20000 in
theorem wt_199 : (Cond.classLink "ServiceThreads" 74 "java/lang/IllegalArgumentException") ∈ wsG := wsG_of (List.mem_append_right _ (List.mem_append_left _ (List.mem_of_getElem? (i := 199) rfl))) (by decide +kernel)
set_option maxRecDepth 20000 in
theorem wt_200 : (Cond.instantiable "java/lang/IllegalArgumentException" 6) ∈ wsG := wsG_of (List.mem_append_right _ (List.mem_append_left _ (List.mem_of_getElem? (i := 200) rfl))) (by decide +kernel)
set_option maxRecDepth 20000 in
theorem wt_208 : (Cond.selects "java/lang/IllegalArgumentException" ⟨"java/lang/Throwable", "fillInStackTrace", "(I)Ljava/lang/Throwable;"⟩ ⟨"java/lang/Throwable", "fillInStackTrace", "(I)Ljava/lang/Throwable;"⟩) ∈ wsG := wsG_of (List.mem_append_right _ (List.mem_append_left _ (List.mem_of_getElem? (i := 208) rfl))) (by decide +kernel)
set_option maxRecDepth 20000 in
theorem wt_209 : (Cond.selects "java/lang/IllegalArgumentException" ⟨"java/lang/Throwable", "fillInStackTrace", "()Ljava/lang/Throwable;"⟩ ⟨"java/lang/Throwable", "fillInStackTrace", "()Ljava/lang/Throwable;"⟩) ∈ wsG := wsG_of (List.mem_append_right _ (List.mem_append_left _ (List.mem_of_getElem? (i := 209) rfl))) (by decide +kernel)
set_option maxRecDepth 20000 in
theorem wt_222 : (Cond.instanceMethod ⟨"java/lang/Throwable", "<init>", "()V"⟩) ∈ wsG := wsG_of (List.mem_append_right _ (List.mem_append_left _ (List.mem_of_getElem? (i := 222) rfl))) (by decide +kernel)
set_option maxRecDepth 20000 in
theorem wt_223 : (Cond.code ⟨"java/lang/Throwable", "<init>", "()V"⟩ prog_15_method_1_code 1 none) ∈ wsG := wsG_of (List.mem_append_right _ (List.mem_append_left _ (List.mem_of_getElem? (i := 223) rfl))) (by decide +kernel)
set_option maxRecDepth 20000 in
theorem wt_224 : (Cond.methodLink "java/lang/Throwable" 1 ⟨"java/lang/Object", "<init>", "()V"⟩) ∈ wsG := wsG_of (List.mem_append_right _ (List.mem_append_left _ (List.mem_of_getElem? (i := 224) rfl))) (by decide +kernel)
set_option maxRecDepth 20000 in
theorem wt_225 : (Cond.fieldLink "java/lang/Throwable" 13 "java/lang/Throwable" "UNASSIGNED_STACK" "[Ljava/lang/StackTraceElement;") ∈ wsG := wsG_of (List.mem_append_right _ (List.mem_append_left _ (List.mem_of_getElem? (i := 225) rfl))) (by decide +kernel)
set_option maxRecDepth 20000 in
theorem wt_227 : (Cond.fieldLink "java/lang/Throwable" 20 "java/lang/Throwable" "SUPPRESSED_SENTINEL" "Ljava/util/List;") ∈ wsG := wsG_of (List.mem_append_right _ (List.mem_append_left _ (List.mem_of_getElem? (i := 227) rfl))) (by decide +kernel)
set_option maxRecDepth 20000 in
theorem wt_229 : (Cond.methodLink "java/lang/Throwable" 27 ⟨"java/lang/Throwable", "fillInStackTrace", "()Ljava/lang/Throwable;"⟩) ∈ wsG := wsG_of (List.mem_append_right _ (List.mem_append_left _ (List.mem_of_getElem? (i := 229) rfl))) (by decide +kernel)
set_option maxRecDepth 20000 in
theorem wt_230 : (Cond.instanceMethod ⟨"java/lang/Throwable", "fillInStackTrace", "()Ljava/lang/Throwable;"⟩) ∈ wsG := wsG_of (List.mem_append_right _ (List.mem_append_left _ (List.mem_of_getElem? (i := 230) rfl))) (by decide +kernel)
set_option maxRecDepth 20000 in
theorem wt_232 : (Cond.selects "java/lang/IllegalStateException" ⟨"java/lang/Throwable", "fillInStackTrace", "()Ljava/lang/Throwable;"⟩ ⟨"java/lang/Throwable", "fillInStackTrace", "()Ljava/lang/Throwable;"⟩) ∈ wsG := wsG_of (List.mem_append_right _ (List.mem_append_left _ (List.mem_of_getElem? (i := 232) rfl))) (by decide +kernel)
set_option maxRecDepth 20000 in
theorem wt_233 : (Cond.selects "java/lang/IndexOutOfBoundsException" ⟨"java/lang/Throwable", "fillInStackTrace", "()Ljava/lang/Throwable;"⟩ ⟨"java/lang/Throwable", "fillInStackTrace", "()Ljava/lang/Throwable;"⟩) ∈ wsG := wsG_of (List.mem_append_right _ (List.mem_append_left _ (List.mem_of_getElem? (i := 233) rfl))) (by decide +kernel)
set_option maxRecDepth 20000 in
theorem wt_234 : (Cond.selects "java/lang/UnsupportedOperationException" ⟨"java/lang/Throwable", "fillInStackTrace", "()Ljava/lang/Throwable;"⟩ ⟨"java/lang/Throwable", "fillInStackTrace", "()Ljava/lang/Throwable;"⟩) ∈ wsG := wsG_of (List.mem_append_right _ (List.mem_append_left _ (List.mem_of_getElem? (i := 234) rfl))) (by decide +kernel)
set_option maxRecDepth 20000 in
theorem wt_236 : (Cond.methodLink "java/lang/Throwable" 202 ⟨"java/lang/Throwable", "fillInStackTrace", "(I)Ljava/lang/Throwable;"⟩) ∈ wsG := wsG_of (List.mem_append_right _ (List.mem_append_left _ (List.mem_of_getElem? (i := 236) rfl))) (by decide +kernel)
set_option maxRecDepth 20000 in
theorem wt_238 : (Cond.instanceMethod ⟨"java/lang/Throwable", "fillInStackTrace", "(I)Ljava/lang/Throwable;"⟩) ∈ wsG := wsG_of (List.mem_append_right _ (List.mem_append_left _ (List.mem_of_getElem? (i := 238) rfl))) (by decide +kernel)
set_option maxRecDepth 20000 in
theorem wt_239 : (Cond.instantiable "java/lang/Throwable" 6) ∈ wsG := wsG_of (List.mem_append_right _ (List.mem_append_left _ (List.mem_of_getElem? (i := 239) rfl))) (by decide +kernel)
set_option maxRecDepth 20000 in
theorem wt_242 : (Cond.methodLink "ServiceThreads" 78 ⟨"java/lang/IllegalArgumentException", "<init>", "(Ljava/lang/String;)V"⟩) ∈ wsG := wsG_of (List.mem_append_right _ (List.mem_append_right _ (List.mem_append_left _ (List.mem_of_getElem? (i := 2) rfl)))) (by decide +kernel)
set_option maxRecDepth 20000 in
theorem wt_243 : (Cond.instanceMethod ⟨"java/lang/IllegalArgumentException", "<init>", "(Ljava/lang/String;)V"⟩) ∈ wsG := wsG_of (List.mem_append_right _ (List.mem_append_right _ (List.mem_append_left _ (List.mem_of_getElem? (i := 3) rfl)))) (by decide +kernel)
set_option maxRecDepth 20000 in
theorem wt_244 : (Cond.code ⟨"java/lang/IllegalArgumentException", "<init>", "(Ljava/lang/String;)V"⟩ prog_9_method_2_code 2 none) ∈ wsG := wsG_of (List.mem_append_right _ (List.mem_append_right _ (List.mem_append_left _ (List.mem_of_getElem? (i := 4) rfl)))) (by decide +kernel)
set_option maxRecDepth 20000 in
theorem wt_245 : (Cond.methodLink "java/lang/IllegalArgumentException" 7 ⟨"java/lang/RuntimeException", "<init>", "(Ljava/lang/String;)V"⟩) ∈ wsG := wsG_of (List.mem_append_right _ (List.mem_append_right _ (List.mem_append_left _ (List.mem_of_getElem? (i := 5) rfl)))) (by decide +kernel)
set_option maxRecDepth 20000 in
theorem wt_246 : (Cond.instanceMethod ⟨"java/lang/RuntimeException", "<init>", "(Ljava/lang/String;)V"⟩) ∈ wsG := wsG_of (List.mem_append_right _ (List.mem_append_right _ (List.mem_append_left _ (List.mem_of_getElem? (i := 6) rfl)))) (by decide +kernel)
set_option maxRecDepth 20000 in
theorem wt_247 : (Cond.code ⟨"java/lang/RuntimeException", "<init>", "(Ljava/lang/String;)V"⟩ prog_13_method_2_code 2 none) ∈ wsG := wsG_of (List.mem_append_right _ (List.mem_append_right _ (List.mem_append_left _ (List.mem_of_getElem? (i := 7) rfl)))) (by decide +kernel)
set_option maxRecDepth 20000 in
theorem wt_248 : (Cond.methodLink "java/lang/RuntimeException" 7 ⟨"java/lang/Exception", "<init>", "(Ljava/lang/String;)V"⟩) ∈ wsG := wsG_of (List.mem_append_right _ (List.mem_append_right _ (List.mem_append_left _ (List.mem_of_getElem? (i := 8) rfl)))) (by decide +kernel)
set_option maxRecDepth 20000 in
theorem wt_249 : (Cond.instanceMethod ⟨"java/lang/Exception", "<init>", "(Ljava/lang/String;)V"⟩) ∈ wsG := wsG_of (List.mem_append_right _ (List.mem_append_right _ (List.mem_append_left _ (List.mem_of_getElem? (i := 9) rfl)))) (by decide +kernel)
set_option maxRecDepth 20000 in
theorem wt_250 : (Cond.code ⟨"java/lang/Exception", "<init>", "(Ljava/lang/String;)V"⟩ prog_8_method_2_code 2 none) ∈ wsG := wsG_of (List.mem_append_right _ (List.mem_append_right _ (List.mem_append_left _ (List.mem_of_getElem? (i := 10) rfl)))) (by decide +kernel)
set_option maxRecDepth 20000 in
theorem wt_251 : (Cond.methodLink "java/lang/Exception" 7 ⟨"java/lang/Throwable", "<init>", "(Ljava/lang/String;)V"⟩) ∈ wsG := wsG_of (List.mem_append_right _ (List.mem_append_right _ (List.mem_append_left _ (List.mem_of_getElem? (i := 11) rfl)))) (by decide +kernel)
set_option maxRecDepth 20000 in
theorem wt_252 : (Cond.instanceMethod ⟨"java/lang/Throwable", "<init>", "(Ljava/lang/String;)V"⟩) ∈ wsG := wsG_of (List.mem_append_right _ (List.mem_append_right _ (List.mem_append_left _ (List.mem_of_getElem? (i := 12) rfl)))) (by decide +kernel)
set_option maxRecDepth 20000 in
theorem wt_253 : (Cond.code ⟨"java/lang/Throwable", "<init>", "(Ljava/lang/String;)V"⟩ prog_15_method_2_code 2 none) ∈ wsG := wsG_of (List.mem_append_right _ (List.mem_append_right _ (List.mem_append_left _ (List.mem_of_getElem? (i := 13) rfl)))) (by decide +kernel)
set_option maxRecDepth 20000 in
theorem wt_254 : (Cond.fieldLink "java/lang/Throwable" 198 "java/lang/Throwable" "backtrace" "Ljava/lang/Object;") ∈ wsG := wsG_of (List.mem_append_right _ (List.mem_append_right _ (List.mem_append_left _ (List.mem_of_getElem? (i := 14) rfl)))) (by decide +kernel)
set_option maxRecDepth 20000 in
theorem wt_255 : (Cond.fieldLink "java/lang/Throwable" 31 "java/lang/Throwable" "detailMessage" "Ljava/lang/String;") ∈ wsG := wsG_of (List.mem_append_right _ (List.mem_append_right _ (List.mem_append_left _ (List.mem_of_getElem? (i := 15) rfl)))) (by decide +kernel)
set_option maxRecDepth 20000 in
theorem wt_256 : (Cond.fieldLink "java/lang/Throwable" 7 "java/lang/Throwable" "cause" "Ljava/lang/Throwable;") ∈ wsG := wsG_of (List.mem_append_right _ (List.mem_append_right _ (List.mem_append_left _ (List.mem_of_getElem? (i := 16) rfl)))) (by decide +kernel)
set_option maxRecDepth 20000 in
theorem wt_257 : (Cond.fieldLink "java/lang/Throwable" 17 "java/lang/Throwable" "stackTrace" "[Ljava/lang/StackTraceElement;") ∈ wsG := wsG_of (List.mem_append_right _ (List.mem_append_right _ (List.mem_append_left _ (List.mem_of_getElem? (i := 17) rfl)))) (by decide +kernel)
set_option maxRecDepth 20000 in
theorem wt_258 : (Cond.fieldLink "java/lang/Throwable" 24 "java/lang/Throwable" "suppressedExceptions" "Ljava/util/List;") ∈ wsG := wsG_of (List.mem_append_right _ (List.mem_append_right _ (List.mem_append_left _ (List.mem_of_getElem? (i := 18) rfl)))) (by decide +kernel)
set_option maxRecDepth 20000 in
theorem wt_267 : (Cond.arrayClass .byte) ∈ wsG := wsG_of (List.mem_append_right _ (List.mem_append_right _ (List.mem_append_left _ (List.mem_of_getElem? (i := 27) rfl)))) (by decide +kernel)
set_option maxRecDepth 20000 in
theorem wt_269 : (Cond.classLink "ServiceThreads" 81 "java/lang/IndexOutOfBoundsException") ∈ wsG := wsG_of (List.mem_append_right _ (List.mem_append_right _ (List.mem_append_left _ (List.mem_of_getElem? (i := 29) rfl)))) (by decide +kernel)
set_option maxRecDepth 20000 in
theorem wt_270 : (Cond.instantiable "java/lang/IndexOutOfBoundsException" 6) ∈ wsG := wsG_of (List.mem_append_right _ (List.mem_append_right _ (List.mem_append_left _ (List.mem_of_getElem? (i := 30) rfl)))) (by decide +kernel)
set_option maxRecDepth 20000 in
theorem wt_272 : (Cond.selects "java/lang/IndexOutOfBoundsException" ⟨"java/lang/Throwable", "fillInStackTrace", "(I)Ljava/lang/Throwable;"⟩ ⟨"java/lang/Throwable", "fillInStackTrace", "(I)Ljava/lang/Throwable;"⟩) ∈ wsG := wsG_of (List.mem_append_right _ (List.mem_append_right _ (List.mem_append_left _ (List.mem_of_getElem? (i := 32) rfl)))) (by decide +kernel)
set_option maxRecDepth 20000 in
theorem wt_279 : (Cond.methodLink "ServiceThreads" 85 ⟨"java/lang/IndexOutOfBoundsException", "<init>", "(Ljava/lang/String;)V"⟩) ∈ wsG := wsG_of (List.mem_append_right _ (List.mem_append_right _ (List.mem_append_left _ (List.mem_of_getElem? (i := 39) rfl)))) (by decide +kernel)
set_option maxRecDepth 20000 in
theorem wt_280 : (Cond.instanceMethod ⟨"java/lang/IndexOutOfBoundsException", "<init>", "(Ljava/lang/String;)V"⟩) ∈ wsG := wsG_of (List.mem_append_right _ (List.mem_append_right _ (List.mem_append_left _ (List.mem_of_getElem? (i := 40) rfl)))) (by decide +kernel)
set_option maxRecDepth 20000 in
theorem wt_281 : (Cond.code ⟨"java/lang/IndexOutOfBoundsException", "<init>", "(Ljava/lang/String;)V"⟩ prog_11_method_2_code 2 none) ∈ wsG := wsG_of (List.mem_append_right _ (List.mem_append_right _ (List.mem_append_left _ (List.mem_of_getElem? (i := 41) rfl)))) (by decide +kernel)
set_option maxRecDepth 20000 in
theorem wt_282 : (Cond.methodLink "java/lang/IndexOutOfBoundsException" 7 ⟨"java/lang/RuntimeException", "<init>", "(Ljava/lang/String;)V"⟩) ∈ wsG := wsG_of (List.mem_append_right _ (List.mem_append_right _ (List.mem_append_left _ (List.mem_of_getElem? (i := 42) rfl)))) (by decide +kernel)
set_option maxRecDepth 20000 in
theorem wt_285 : (Cond.methodLink "ServiceThreads" 86 yXs_requireNoTurnYet) ∈ wsG := wsG_of (List.mem_append_right _ (List.mem_append_right _ (List.mem_append_left _ (List.mem_of_getElem? (i := 45) rfl)))) (by decide +kernel)
set_option maxRecDepth 20000 in
theorem wt_287 : (Cond.instanceMethod yXs_requireNoTurnYet) ∈ wsG := wsG_of (List.mem_append_right _ (List.mem_append_right _ (List.mem_append_left _ (List.mem_of_getElem? (i := 47) rfl)))) (by decide +kernel)
set_option maxRecDepth 20000 in
theorem wt_288 : (Cond.code yXs_requireNoTurnYet cXs_requireNoTurnYet 2 none) ∈ wsG := wsG_of (List.mem_append_right _ (List.mem_append_right _ (List.mem_append_left _ (List.mem_of_getElem? (i := 48) rfl)))) (by decide +kernel)
set_option maxRecDepth 20000 in
theorem wt_289 : (Cond.classLink "ServiceThreads" 143 "java/lang/IllegalStateException") ∈ wsG := wsG_of (List.mem_append_right _ (List.mem_append_right _ (List.mem_append_left _ (List.mem_of_getElem? (i := 49) rfl)))) (by decide +kernel)
set_option maxRecDepth 20000 in
theorem wt_290 : (Cond.instantiable "java/lang/IllegalStateException" 6) ∈ wsG := wsG_of (List.mem_append_right _ (List.mem_append_right _ (List.mem_append_left _ (List.mem_of_getElem? (i := 50) rfl)))) (by decide +kernel)
set_option maxRecDepth 20000 in
theorem wt_292 : (Cond.selects "java/lang/IllegalStateException" ⟨"java/lang/Throwable", "fillInStackTrace", "(I)Ljava/lang/Throwable;"⟩ ⟨"java/lang/Throwable", "fillInStackTrace", "(I)Ljava/lang/Throwable;"⟩) ∈ wsG := wsG_of (List.mem_append_right _ (List.mem_append_right _ (List.mem_append_left _ (List.mem_of_getElem? (i := 52) rfl)))) (by decide +kernel)
set_option maxRecDepth 20000 in
theorem wt_299 : (Cond.methodLink "ServiceThreads" 147 ⟨"java/lang/IllegalStateException", "<init>", "(Ljava/lang/String;)V"⟩) ∈ wsG := wsG_of (List.mem_append_right _ (List.mem_append_right _ (List.mem_append_left _ (List.mem_of_getElem? (i := 59) rfl)))) (by decide +kernel)
set_option maxRecDepth 20000 in
theorem wt_300 : (Cond.instanceMethod ⟨"java/lang/IllegalStateException", "<init>", "(Ljava/lang/String;)V"⟩) ∈ wsG := wsG_of (List.mem_append_right _ (List.mem_append_right _ (List.mem_append_left _ (List.mem_of_getElem? (i := 60) rfl)))) (by decide +kernel)
set_option maxRecDepth 20000 in
theorem wt_301 : (Cond.code ⟨"java/lang/IllegalStateException", "<init>", "(Ljava/lang/String;)V"⟩ prog_10_method_2_code 2 none) ∈ wsG := wsG_of (List.mem_append_right _ (List.mem_append_right _ (List.mem_append_left _ (List.mem_of_getElem? (i := 61) rfl)))) (by decide +kernel)
set_option maxRecDepth 20000 in
theorem wt_302 : (Cond.methodLink "java/lang/IllegalStateException" 7 ⟨"java/lang/RuntimeException", "<init>", "(Ljava/lang/String;)V"⟩) ∈ wsG := wsG_of (List.mem_append_right _ (List.mem_append_right _ (List.mem_append_left _ (List.mem_of_getElem? (i := 62) rfl)))) (by decide +kernel)
set_option maxRecDepth 20000 in
theorem wt_305 : (Cond.methodLink "ServiceThreads" 89 yXp_isFull) ∈ wsG := wsG_of (List.mem_append_right _ (List.mem_append_right _ (List.mem_append_left _ (List.mem_of_getElem? (i := 65) rfl)))) (by decide +kernel)
set_option maxRecDepth 20000 in
theorem wt_306 : (Cond.instanceMethod yXp_isFull) ∈ wsG := wsG_of (List.mem_append_right _ (List.mem_append_right _ (List.mem_append_left _ (List.mem_of_getElem? (i := 66) rfl)))) (by decide +kernel)
set_option maxRecDepth 20000 in
theorem wt_307 : (Cond.selects "ServiceThreads$Programs" yXp_isFull yXp_isFull) ∈ wsG := wsG_of (List.mem_append_right _ (List.mem_append_right _ (List.mem_append_left _ (List.mem_of_getElem? (i := 67) rfl)))) (by decide +kernel)
set_option maxRecDepth 20000 in
theorem wt_308 : (Cond.code yXp_isFull cXp_isFull 2 (some .boolean)) ∈ wsG := wsG_of (List.mem_append_right _ (List.mem_append_right _ (List.mem_append_left _ (List.mem_of_getElem? (i := 68) rfl)))) (by decide +kernel)
set_option maxRecDepth 20000 in
theorem wt_309 : (Cond.classLink "ServiceThreads" 93 "java/lang/UnsupportedOperationException") ∈ wsG := wsG_of (List.mem_append_right _ (List.mem_append_right _ (List.mem_append_left _ (List.mem_of_getElem? (i := 69) rfl)))) (by decide +kernel)
set_option maxRecDepth 20000 in
theorem wt_310 : (Cond.instantiable "java/lang/UnsupportedOperationException" 6) ∈ wsG := wsG_of (List.mem_append_right _ (List.mem_append_right _ (List.mem_append_left _ (List.mem_of_getElem? (i := 70) rfl)))) (by decide +kernel)
set_option maxRecDepth 20000 in
theorem wt_312 : (Cond.selects "java/lang/UnsupportedOperationException" ⟨"java/lang/Throwable", "fillInStackTrace", "(I)Ljava/lang/Throwable;"⟩ ⟨"java/lang/Throwable", "fillInStackTrace", "(I)Ljava/lang/Throwable;"⟩) ∈ wsG := wsG_of (List.mem_append_right _ (List.mem_append_right _ (List.mem_append_left _ (List.mem_of_getElem? (i := 72) rfl)))) (by decide +kernel)
set_option maxRecDepth 20000 in
theorem wt_319 : (Cond.methodLink "ServiceThreads" 97 ⟨"java/lang/UnsupportedOperationException", "<init>", "(Ljava/lang/String;)V"⟩) ∈ wsG := wsG_of (List.mem_append_right _ (List.mem_append_right _ (List.mem_append_left _ (List.mem_of_getElem? (i := 79) rfl)))) (by decide +kernel)
set_option maxRecDepth 20000 in
theorem wt_320 : (Cond.instanceMethod ⟨"java/lang/UnsupportedOperationException", "<init>", "(Ljava/lang/String;)V"⟩) ∈ wsG := wsG_of (List.mem_append_right _ (List.mem_append_right _ (List.mem_append_left _ (List.mem_of_getElem? (i := 80) rfl)))) (by decide +kernel)
set_option maxRecDepth 20000 in
theorem wt_321 : (Cond.code ⟨"java/lang/UnsupportedOperationException", "<init>", "(Ljava/lang/String;)V"⟩ prog_16_method_2_code 2 none) ∈ wsG := wsG_of (List.mem_append_right _ (List.mem_append_right _ (List.mem_append_left _ (List.mem_of_getElem? (i := 81) rfl)))) (by decide +kernel)
set_option maxRecDepth 20000 in
theorem wt_322 : (Cond.methodLink "java/lang/UnsupportedOperationException" 7 ⟨"java/lang/RuntimeException", "<init>", "(Ljava/lang/String;)V"⟩) ∈ wsG := wsG_of (List.mem_append_right _ (List.mem_append_right _ (List.mem_append_left _ (List.mem_of_getElem? (i := 82) rfl)))) (by decide +kernel)
set_option maxRecDepth 20000 in
theorem wt_325 : (Cond.methodLink "ServiceThreads" 98 yXp_add) ∈ wsG := wsG_of (List.mem_append_right _ (List.mem_append_right _ (List.mem_append_left _ (List.mem_of_getElem? (i := 85) rfl)))) (by decide +kernel)
set_option maxRecDepth 20000 in
theorem wt_326 : (Cond.instanceMethod yXp_add) ∈ wsG := wsG_of (List.mem_append_right _ (List.mem_append_right _ (List.mem_append_left _ (List.mem_of_getElem? (i := 86) rfl)))) (by decide +kernel)
set_option maxRecDepth 20000 in
theorem wt_327 : (Cond.selects "ServiceThreads$Programs" yXp_add yXp_add) ∈ wsG := wsG_of (List.mem_append_right _ (List.mem_append_right _ (List.mem_append_left _ (List.mem_of_getElem? (i := 87) rfl)))) (by decide +kernel)
set_option maxRecDepth 20000 in
theorem wt_328 : (Cond.code yXp_add cXp_add 5 (some .int)) ∈ wsG := wsG_of (List.mem_append_right _ (List.mem_append_right _ (List.mem_append_left _ (List.mem_of_getElem? (i := 88) rfl)))) (by decide +kernel)
set_option maxRecDepth 20000 in
theorem wt_329 : (Cond.methodLink "ServiceThreadsLaw" 72 yXl_finish) ∈ wsG := wsG_of (List.mem_append_right _ (List.mem_append_right _ (List.mem_append_left _ (List.mem_of_getElem? (i := 89) rfl)))) (by decide +kernel)
set_option maxRecDepth 20000 in
theorem wt_330 : (Cond.static yXl_finish) ∈ wsG := wsG_of (List.mem_append_right _ (List.mem_append_right _ (List.mem_append_left _ (List.mem_of_getElem? (i := 90) rfl)))) (by decide +kernel)
set_option maxRecDepth 20000 in
theorem wt_331 : (Cond.codeWith yXl_finish cXl_finish 4 (some .int) [(0, 6, 9, 13), (0, 6, 12, 15), (0, 6, 15, 17)]) ∈ wsG := wsG_of (List.mem_append_right _ (List.mem_append_right _ (List.mem_append_left _ (List.mem_of_getElem? (i := 91) rfl)))) (by decide +kernel)
set_option maxRecDepth 20000 in
theorem wt_332 : (Cond.methodLink "ServiceThreadsLaw" 21 yXs_finish) ∈ wsG := wsG_of (List.mem_append_right _ (List.mem_append_right _ (List.mem_append_left _ (List.mem_of_getElem? (i := 92) rfl)))) (by decide +kernel)
set_option maxRecDepth 20000 in
theorem wt_333 : (Cond.instanceMethod yXs_finish) ∈ wsG := wsG_of (List.mem_append_right _ (List.mem_append_right _ (List.mem_append_left _ (List.mem_of_getElem? (i := 93) rfl)))) (by decide +kernel)
set_option maxRecDepth 20000 in
theorem wt_334 : (Cond.selects "ServiceThreads" yXs_finish yXs_finish) ∈ wsG := wsG_of (List.mem_append_right _ (List.mem_append_right _ (List.mem_append_left _ (List.mem_of_getElem? (i := 94) rfl)))) (by decide +kernel)
set_option maxRecDepth 20000 in
theorem wt_335 : (Cond.code yXs_finish cXs_finish 3 none) ∈ wsG := wsG_of (List.mem_append_right _ (List.mem_append_right _ (List.mem_append_left _ (List.mem_of_getElem? (i := 95) rfl)))) (by decide +kernel)
set_option maxRecDepth 20000 in
theorem wt_336 : (Cond.methodLink "ServiceThreads" 102 yXp_actsOf) ∈ wsG := wsG_of (List.mem_append_right _ (List.mem_append_right _ (List.mem_append_left _ (List.mem_of_getElem? (i := 96) rfl)))) (by decide +kernel)
set_option maxRecDepth 20000 in
theorem wt_337 : (Cond.instanceMethod yXp_actsOf) ∈ wsG := wsG_of (List.mem_append_right _ (List.mem_append_right _ (List.mem_append_left _ (List.mem_of_getElem? (i := 97) rfl)))) (by decide +kernel)
set_option maxRecDepth 20000 in
theorem wt_338 : (Cond.selects "ServiceThreads$Programs" yXp_actsOf yXp_actsOf) ∈ wsG := wsG_of (List.mem_append_right _ (List.mem_append_right _ (List.mem_append_left _ (List.mem_of_getElem? (i := 98) rfl)))) (by decide +kernel)
set_option maxRecDepth 20000 in
theorem wt_339 : (Cond.code yXp_actsOf cXp_actsOf 2 (some .int)) ∈ wsG := wsG_of (List.mem_append_right _ (List.mem_append_right _ (List.mem_append_left _ (List.mem_of_getElem? (i := 99) rfl)))) (by decide +kernel)
set_option maxRecDepth 20000 in
theorem wt_341 : (Cond.methodLink "ServiceThreads" 108 yXp_setFinish) ∈ wsG := wsG_of (List.mem_append_right _ (List.mem_append_right _ (List.mem_append_left _ (List.mem_of_getElem? (i := 101) rfl)))) (by decide +kernel)
set_option maxRecDepth 20000 in
theorem wt_342 : (Cond.instanceMethod yXp_setFinish) ∈ wsG := wsG_of (List.mem_append_right _ (List.mem_append_right _ (List.mem_append_left _ (List.mem_of_getElem? (i := 102) rfl)))) (by decide +kernel)
set_option maxRecDepth 20000 in
theorem wt_343 : (Cond.selects "ServiceThreads$Programs" yXp_setFinish yXp_setFinish) ∈ wsG := wsG_of (List.mem_append_right _ (List.mem_append_right _ (List.mem_append_left _ (List.mem_of_getElem? (i := 103) rfl)))) (by decide +kernel)
set_option maxRecDepth 20000 in
theorem wt_344 : (Cond.code yXp_setFinish cXp_setFinish 3 none) ∈ wsG := wsG_of (List.mem_append_right _ (List.mem_append_right _ (List.mem_append_left _ (List.mem_of_getElem? (i := 104) rfl)))) (by decide +kernel)
set_option maxRecDepth 20000 in
theorem wt_345 : (Cond.methodLink "ServiceThreadsLaw" 76 yXl_call) ∈ wsG := wsG_of (List.mem_append_right _ (List.mem_append_right _ (List.mem_append_left _ (List.mem_of_getElem? (i := 105) rfl)))) (by decide +kernel)
set_option maxRecDepth 20000 in
theorem wt_346 : (Cond.static yXl_call) ∈ wsG := wsG_of (List.mem_append_right _ (List.mem_append_right _ (List.mem_append_left _ (List.mem_of_getElem? (i := 106) rfl)))) (by decide +kernel)
set_option maxRecDepth 20000 in
theorem wt_347 : (Cond.codeWith yXl_call cXl_call 4 (some .int) [(0, 9, 12, 15), (0, 9, 15, 19)]) ∈ wsG := wsG_of (List.mem_append_right _ (List.mem_append_right _ (List.mem_append_left _ (List.mem_of_getElem? (i := 107) rfl)))) (by decide +kernel)
set_option maxRecDepth 20000 in
theorem wt_348 : (Cond.methodLink "ServiceThreadsLaw" 25 yXs_call) ∈ wsG := wsG_of (List.mem_append_right _ (List.mem_append_right _ (List.mem_append_left _ (List.mem_of_getElem? (i := 108) rfl)))) (by decide +kernel)
set_option maxRecDepth 20000 in
theorem wt_349 : (Cond.instanceMethod yXs_call) ∈ wsG := wsG_of (List.mem_append_right _ (List.mem_append_right _ (List.mem_append_left _ (List.mem_of_getElem? (i := 109) rfl)))) (by decide +kernel)
set_option maxRecDepth 20000 in
theorem wt_350 : (Cond.selects "ServiceThreads" yXs_call yXs_call) ∈ wsG := wsG_of (List.mem_append_right _ (List.mem_append_right _ (List.mem_append_left _ (List.mem_of_getElem? (i := 110) rfl)))) (by decide +kernel)
set_option maxRecDepth 20000 in
theorem wt_351 : (Cond.code yXs_call cXs_call 2 (some .int)) ∈ wsG := wsG_of (List.mem_append_right _ (List.mem_append_right _ (List.mem_append_left _ (List.mem_of_getElem? (i := 111) rfl)))) (by decide +kernel)
set_option maxRecDepth 20000 in
theorem wt_353 : (Cond.methodLink "ServiceThreads" 114 yXc_isFull) ∈ wsG := wsG_of (List.mem_append_right _ (List.mem_append_right _ (List.mem_append_left _ (List.mem_of_getElem? (i := 113) rfl)))) (by decide +kernel)
set_option maxRecDepth 20000 in
theorem wt_354 : (Cond.instanceMethod yXc_isFull) ∈ wsG := wsG_of (List.mem_append_right _ (List.mem_append_right _ (List.mem_append_left _ (List.mem_of_getElem? (i := 114) rfl)))) (by decide +kernel)
set_option maxRecDepth 20000 in
theorem wt_355 : (Cond.selects "ServiceThreads$Calls" yXc_isFull yXc_isFull) ∈ wsG := wsG_of (List.mem_append_right _ (List.mem_append_right _ (List.mem_append_left _ (List.mem_of_getElem? (i := 115) rfl)))) (by decide +kernel)
set_option maxRecDepth 20000 in
theorem wt_356 : (Cond.code yXc_isFull cXc_isFull 1 (some .boolean)) ∈ wsG := wsG_of (List.mem_append_right _ (List.mem_append_right _ (List.mem_append_left _ (List.mem_of_getElem? (i := 116) rfl)))) (by decide +kernel)
set_option maxRecDepth 20000 in
theorem wt_358 : (Cond.methodLink "ServiceThreads" 119 yXs_interruptResting) ∈ wsG := wsG_of (List.mem_append_right _ (List.mem_append_right _ (List.mem_append_left _ (List.mem_of_getElem? (i := 118) rfl)))) (by decide +kernel)
set_option maxRecDepth 20000 in
theorem wt_360 : (Cond.instanceMethod yXs_interruptResting) ∈ wsG := wsG_of (List.mem_append_right _ (List.mem_append_right _ (List.mem_append_left _ (List.mem_of_getElem? (i := 120) rfl)))) (by decide +kernel)
set_option maxRecDepth 20000 in
theorem wt_361 : (Cond.code yXs_interruptResting cXs_interruptResting 4 none) ∈ wsG := wsG_of (List.mem_append_right _ (List.mem_append_right _ (List.mem_append_left _ (List.mem_of_getElem? (i := 121) rfl)))) (by decide +kernel)
set_option maxRecDepth 20000 in
theorem wt_362 : (Cond.methodLink "ServiceThreads" 279 yXc_highestOpenRankOf) ∈ wsG := wsG_of (List.mem_append_right _ (List.mem_append_right _ (List.mem_append_left _ (List.mem_of_getElem? (i := 122) rfl)))) (by decide +kernel)
set_option maxRecDepth 20000 in
theorem wt_363 : (Cond.instanceMethod yXc_highestOpenRankOf) ∈ wsG := wsG_of (List.mem_append_right _ (List.mem_append_right _ (List.mem_append_left _ (List.mem_of_getElem? (i := 123) rfl)))) (by decide +kernel)
set_option maxRecDepth 20000 in
theorem wt_364 : (Cond.selects "ServiceThreads$Calls" yXc_highestOpenRankOf yXc_highestOpenRankOf) ∈ wsG := wsG_of (List.mem_append_right _ (List.mem_append_right _ (List.mem_append_left _ (List.mem_of_getElem? (i := 124) rfl)))) (by decide +kernel)
set_option maxRecDepth 20000 in
theorem wt_365 : (Cond.code yXc_highestOpenRankOf cXc_highestOpenRankOf 4 (some .int)) ∈ wsG := wsG_of (List.mem_append_right _ (List.mem_append_right _ (List.mem_append_left _ (List.mem_of_getElem? (i := 125) rfl)))) (by decide +kernel)
set_option maxRecDepth 20000 in
theorem wt_366 : (Cond.methodLink "ServiceThreads$Calls" 43 ⟨"java/lang/Math", "max", "(II)I"⟩) ∈ wsG := wsG_of (List.mem_append_right _ (List.mem_append_right _ (List.mem_append_left _ (List.mem_of_getElem? (i := 126) rfl)))) (by decide +kernel)
set_option maxRecDepth 20000 in
theorem wt_367 : (Cond.static ⟨"java/lang/Math", "max", "(II)I"⟩) ∈ wsG := wsG_of (List.mem_append_right _ (List.mem_append_right _ (List.mem_append_left _ (List.mem_of_getElem? (i := 127) rfl)))) (by decide +kernel)
set_option maxRecDepth 20000 in
theorem wt_368 : (Cond.code ⟨"java/lang/Math", "max", "(II)I"⟩ prog_12_method_65_code 2 (some .int)) ∈ wsG := wsG_of (List.mem_append_right _ (List.mem_append_right _ (List.mem_append_left _ (List.mem_of_getElem? (i := 128) rfl)))) (by decide +kernel)
set_option maxRecDepth 20000 in
theorem wt_369 : (Cond.methodLink "ServiceThreads" 122 yXc_add) ∈ wsG := wsG_of (List.mem_append_right _ (List.mem_append_right _ (List.mem_append_left _ (List.mem_of_getElem? (i := 129) rfl)))) (by decide +kernel)
set_option maxRecDepth 20000 in
theorem wt_370 : (Cond.instanceMethod yXc_add) ∈ wsG := wsG_of (List.mem_append_right _ (List.mem_append_right _ (List.mem_append_left _ (List.mem_of_getElem? (i := 130) rfl)))) (by decide +kernel)
set_option maxRecDepth 20000 in
theorem wt_371 : (Cond.selects "ServiceThreads$Calls" yXc_add yXc_add) ∈ wsG := wsG_of (List.mem_append_right _ (List.mem_append_right _ (List.mem_append_left _ (List.mem_of_getElem? (i := 131) rfl)))) (by decide +kernel)
set_option maxRecDepth 20000 in
theorem wt_372 : (Cond.code yXc_add cXc_add 3 (some .int)) ∈ wsG := wsG_of (List.mem_append_right _ (List.mem_append_right _ (List.mem_append_left _ (List.mem_of_getElem? (i := 132) rfl)))) (by decide +kernel)
set_option maxRecDepth 20000 in
theorem wt_373 : (Cond.methodLink "ServiceThreadsLaw" 80 yXl_step) ∈ wsG := wsG_of (List.mem_append_right _ (List.mem_append_right _ (List.mem_append_left _ (List.mem_of_getElem? (i := 133) rfl)))) (by decide +kernel)
set_option maxRecDepth 20000 in
theorem wt_374 : (Cond.static yXl_step) ∈ wsG := wsG_of (List.mem_append_right _ (List.mem_append_right _ (List.mem_append_left _ (List.mem_of_getElem? (i := 134) rfl)))) (by decide +kernel)
set_option maxRecDepth 20000 in
theorem wt_375 : (Cond.codeWith yXl_step cXl_step 4 (some .int) [(0, 9, 12, 13), (0, 9, 15, 17)]) ∈ wsG := wsG_of (List.mem_append_right _ (List.mem_append_right _ (List.mem_append_left _ (List.mem_of_getElem? (i := 135) rfl)))) (by decide +kernel)
set_option maxRecDepth 20000 in
theorem wt_376 : (Cond.methodLink "ServiceThreadsLaw" 29 yXs_step) ∈ wsG := wsG_of (List.mem_append_right _ (List.mem_append_right _ (List.mem_append_left _ (List.mem_of_getElem? (i := 136) rfl)))) (by decide +kernel)
set_option maxRecDepth 20000 in
theorem wt_377 : (Cond.instanceMethod yXs_step) ∈ wsG := wsG_of (List.mem_append_right _ (List.mem_append_right _ (List.mem_append_left _ (List.mem_of_getElem? (i := 137) rfl)))) (by decide +kernel)
set_option maxRecDepth 20000 in
theorem wt_378 : (Cond.selects "ServiceThreads" yXs_step yXs_step) ∈ wsG := wsG_of (List.mem_append_right _ (List.mem_append_right _ (List.mem_append_left _ (List.mem_of_getElem? (i := 138) rfl)))) (by decide +kernel)
set_option maxRecDepth 20000 in
theorem wt_379 : (Cond.code yXs_step cXs_step 2 (some .int)) ∈ wsG := wsG_of (List.mem_append_right _ (List.mem_append_right _ (List.mem_append_left _ (List.mem_of_getElem? (i := 139) rfl)))) (by decide +kernel)
set_option maxRecDepth 20000 in
theorem wt_380 : (Cond.methodLink "ServiceThreads" 124 yXs_requireRunning) ∈ wsG := wsG_of (List.mem_append_right _ (List.mem_append_right _ (List.mem_append_left _ (List.mem_of_getElem? (i := 140) rfl)))) (by decide +kernel)
set_option maxRecDepth 20000 in
theorem wt_382 : (Cond.instanceMethod yXs_requireRunning) ∈ wsG := wsG_of (List.mem_append_right _ (List.mem_append_right _ (List.mem_append_left _ (List.mem_of_getElem? (i := 142) rfl)))) (by decide +kernel)
set_option maxRecDepth 20000 in
theorem wt_383 : (Cond.code yXs_requireRunning cXs_requireRunning 2 none) ∈ wsG := wsG_of (List.mem_append_right _ (List.mem_append_right _ (List.mem_append_left _ (List.mem_of_getElem? (i := 143) rfl)))) (by decide +kernel)
set_option maxRecDepth 20000 in
theorem wt_385 : (Cond.methodLink "ServiceThreads" 127 yXs_takeTurn) ∈ wsG := wsG_of (List.mem_append_right _ (List.mem_append_right _ (List.mem_append_left _ (List.mem_of_getElem? (i := 145) rfl)))) (by decide +kernel)
set_option maxRecDepth 20000 in
theorem wt_387 : (Cond.instanceMethod yXs_takeTurn) ∈ wsG := wsG_of (List.mem_append_right _ (List.mem_append_right _ (List.mem_append_left _ (List.mem_of_getElem? (i := 147) rfl)))) (by decide +kernel)
set_option maxRecDepth 20000 in
theorem wt_388 : (Cond.code yXs_takeTurn cXs_takeTurn 4 (some .int)) ∈ wsG := wsG_of (List.mem_append_right _ (List.mem_append_right _ (List.mem_append_left _ (List.mem_of_getElem? (i := 148) rfl)))) (by decide +kernel)
set_option maxRecDepth 20000 in
theorem wt_389 : (Cond.methodLink "ServiceThreads" 231 yXs_freeLocksThatAreDue) ∈ wsG := wsG_of (List.mem_append_right _ (List.mem_append_right _ (List.mem_append_left _ (List.mem_of_getElem? (i := 149) rfl)))) (by decide +kernel)
set_option maxRecDepth 20000 in
theorem wt_391 : (Cond.instanceMethod yXs_freeLocksThatAreDue) ∈ wsG := wsG_of (List.mem_append_right _ (List.mem_append_right _ (List.mem_append_left _ (List.mem_of_getElem? (i := 151) rfl)))) (by decide +kernel)
set_option maxRecDepth 20000 in
theorem wt_392 : (Cond.code yXs_freeLocksThatAreDue cXs_freeLocksThatAreDue 2 none) ∈ wsG := wsG_of (List.mem_append_right _ (List.mem_append_right _ (List.mem_append_left _ (List.mem_of_getElem? (i := 152) rfl)))) (by decide +kernel)
set_option maxRecDepth 20000 in
theorem wt_393 : (Cond.methodLink "ServiceThreads" 234 yXp_kindOf) ∈ wsG := wsG_of (List.mem_append_right _ (List.mem_append_right _ (List.mem_append_left _ (List.mem_of_getElem? (i := 153) rfl)))) (by decide +kernel)
set_option maxRecDepth 20000 in
theorem wt_394 : (Cond.instanceMethod yXp_kindOf) ∈ wsG := wsG_of (List.mem_append_right _ (List.mem_append_right _ (List.mem_append_left _ (List.mem_of_getElem? (i := 154) rfl)))) (by decide +kernel)
set_option maxRecDepth 20000 in
theorem wt_395 : (Cond.selects "ServiceThreads$Programs" yXp_kindOf yXp_kindOf) ∈ wsG := wsG_of (List.mem_append_right _ (List.mem_append_right _ (List.mem_append_left _ (List.mem_of_getElem? (i := 155) rfl)))) (by decide +kernel)
set_option maxRecDepth 20000 in
theorem wt_396 : (Cond.code yXp_kindOf cXp_kindOf 3 (some .int)) ∈ wsG := wsG_of (List.mem_append_right _ (List.mem_append_right _ (List.mem_append_left _ (List.mem_of_getElem? (i := 156) rfl)))) (by decide +kernel)
set_option maxRecDepth 20000 in
theorem wt_397 : (Cond.methodLink "ServiceThreads" 238 yXp_numberOf) ∈ wsG := wsG_of (List.mem_append_right _ (List.mem_append_right _ (List.mem_append_left _ (List.mem_of_getElem? (i := 157) rfl)))) (by decide +kernel)
set_option maxRecDepth 20000 in
theorem wt_398 : (Cond.instanceMethod yXp_numberOf) ∈ wsG := wsG_of (List.mem_append_right _ (List.mem_append_right _ (List.mem_append_left _ (List.mem_of_getElem? (i := 158) rfl)))) (by decide +kernel)
set_option maxRecDepth 20000 in
theorem wt_399 : (Cond.selects "ServiceThreads$Programs" yXp_numberOf yXp_numberOf) ∈ wsG := wsG_of (List.mem_append_right _ (List.mem_append_right _ (List.mem_append_left _ (List.mem_of_getElem? (i := 159) rfl)))) (by decide +kernel)
set_option maxRecDepth 20000 in
theorem wt_400 : (Cond.code yXp_numberOf cXp_numberOf 3 (some .int)) ∈ wsG := wsG_of (List.mem_append_right _ (List.mem_append_right _ (List.mem_append_left _ (List.mem_of_getElem? (i := 160) rfl)))) (by decide +kernel)
set_option maxRecDepth 20000 in
theorem wt_401 : (Cond.methodLink "ServiceThreads" 241 yXs_perform) ∈ wsG := wsG_of (List.mem_append_right _ (List.mem_append_right _ (List.mem_append_left _ (List.mem_of_getElem? (i := 161) rfl)))) (by decide +kernel)
set_option maxRecDepth 20000 in
theorem wt_403 : (Cond.instanceMethod yXs_perform) ∈ wsG := wsG_of (List.mem_append_right _ (List.mem_append_right _ (List.mem_append_left _ (List.mem_of_getElem? (i := 163) rfl)))) (by decide +kernel)
set_option maxRecDepth 20000 in
theorem wt_404 : (Cond.code yXs_perform cXs_perform 4 (some .int)) ∈ wsG := wsG_of (List.mem_append_right _ (List.mem_append_right _ (List.mem_append_left _ (List.mem_of_getElem? (i := 164) rfl)))) (by decide +kernel)
set_option maxRecDepth 20000 in
theorem wt_405 : (Cond.methodLink "ServiceThreads" 247 yXs_lockUnit) ∈ wsG := wsG_of (List.mem_append_right _ (List.mem_append_right _ (List.mem_append_left _ (List.mem_of_getElem? (i := 165) rfl)))) (by decide +kernel)
set_option maxRecDepth 20000 in
theorem wt_407 : (Cond.instanceMethod yXs_lockUnit) ∈ wsG := wsG_of (List.mem_append_right _ (List.mem_append_right _ (List.mem_append_left _ (List.mem_of_getElem? (i := 167) rfl)))) (by decide +kernel)
set_option maxRecDepth 20000 in
theorem wt_408 : (Cond.code yXs_lockUnit cXs_lockUnit 4 (some .int)) ∈ wsG := wsG_of (List.mem_append_right _ (List.mem_append_right _ (List.mem_append_left _ (List.mem_of_getElem? (i := 168) rfl)))) (by decide +kernel)
set_option maxRecDepth 20000 in
theorem wt_409 : (Cond.methodLink "ServiceThreads" 265 yXu_hasOneAbove) ∈ wsG := wsG_of (List.mem_append_right _ (List.mem_append_right _ (List.mem_append_left _ (List.mem_of_getElem? (i := 169) rfl)))) (by decide +kernel)
set_option maxRecDepth 20000 in
theorem wt_410 : (Cond.instanceMethod yXu_hasOneAbove) ∈ wsG := wsG_of (List.mem_append_right _ (List.mem_append_right _ (List.mem_append_left _ (List.mem_of_getElem? (i := 170) rfl)))) (by decide +kernel)
set_option maxRecDepth 20000 in
theorem wt_411 : (Cond.selects "ServiceThreads$Units" yXu_hasOneAbove yXu_hasOneAbove) ∈ wsG := wsG_of (List.mem_append_right _ (List.mem_append_right _ (List.mem_append_left _ (List.mem_of_getElem? (i := 171) rfl)))) (by decide +kernel)
set_option maxRecDepth 20000 in
theorem wt_412 : (Cond.code yXu_hasOneAbove cXu_hasOneAbove 4 (some .boolean)) ∈ wsG := wsG_of (List.mem_append_right _ (List.mem_append_right _ (List.mem_append_left _ (List.mem_of_getElem? (i := 172) rfl)))) (by decide +kernel)
set_option maxRecDepth 20000 in
theorem wt_413 : (Cond.methodLink "ServiceThreads" 250 yXs_freeUnit) ∈ wsG := wsG_of (List.mem_append_right _ (List.mem_append_right _ (List.mem_append_left _ (List.mem_of_getElem? (i := 173) rfl)))) (by decide +kernel)
set_option maxRecDepth 20000 in
theorem wt_415 : (Cond.instanceMethod yXs_freeUnit) ∈ wsG := wsG_of (List.mem_append_right _ (List.mem_append_right _ (List.mem_append_left _ (List.mem_of_getElem? (i := 175) rfl)))) (by decide +kernel)
set_option maxRecDepth 20000 in
theorem wt_416 : (Cond.code yXs_freeUnit cXs_freeUnit 3 (some .int)) ∈ wsG := wsG_of (List.mem_append_right _ (List.mem_append_right _ (List.mem_append_left _ (List.mem_of_getElem? (i := 176) rfl)))) (by decide +kernel)
set_option maxRecDepth 20000 in
theorem wt_417 : (Cond.methodLink "ServiceThreads" 253 yXs_takeCall) ∈ wsG := wsG_of (List.mem_append_right _ (List.mem_append_right _ (List.mem_append_left _ (List.mem_of_getElem? (i := 177) rfl)))) (by decide +kernel)
set_option maxRecDepth 20000 in
theorem wt_419 : (Cond.instanceMethod yXs_takeCall) ∈ wsG := wsG_of (List.mem_append_right _ (List.mem_append_right _ (List.mem_append_left _ (List.mem_of_getElem? (i := 179) rfl)))) (by decide +kernel)
set_option maxRecDepth 20000 in
theorem wt_420 : (Cond.code yXs_takeCall cXs_takeCall 4 (some .int)) ∈ wsG := wsG_of (List.mem_append_right _ (List.mem_append_right _ (List.mem_append_left _ (List.mem_of_getElem? (i := 180) rfl)))) (by decide +kernel)
set_option maxRecDepth 20000 in
theorem wt_421 : (Cond.methodLink "ServiceThreads" 166 yXc_isKnown) ∈ wsG := wsG_of (List.mem_append_right _ (List.mem_append_right _ (List.mem_append_left _ (List.mem_of_getElem? (i := 181) rfl)))) (by decide +kernel)
set_option maxRecDepth 20000 in
theorem wt_422 : (Cond.methodLink "ServiceThreads" 269 yXr_tell) ∈ wsG := wsG_of (List.mem_append_right _ (List.mem_append_right _ (List.mem_append_left _ (List.mem_of_getElem? (i := 182) rfl)))) (by decide +kernel)
set_option maxRecDepth 20000 in
theorem wt_423 : (Cond.instanceMethod yXr_tell) ∈ wsG := wsG_of (List.mem_append_right _ (List.mem_append_right _ (List.mem_append_left _ (List.mem_of_getElem? (i := 183) rfl)))) (by decide +kernel)
set_option maxRecDepth 20000 in
theorem wt_424 : (Cond.selects "ServiceThreads$Rows" yXr_tell yXr_tell) ∈ wsG := wsG_of (List.mem_append_right _ (List.mem_append_right _ (List.mem_append_left _ (List.mem_of_getElem? (i := 184) rfl)))) (by decide +kernel)
set_option maxRecDepth 20000 in
theorem wt_425 : (Cond.code yXr_tell cXr_tell 5 none) ∈ wsG := wsG_of (List.mem_append_right _ (List.mem_append_right _ (List.mem_append_left _ (List.mem_of_getElem? (i := 185) rfl)))) (by decide +kernel)
set_option maxRecDepth 20000 in
theorem wt_426 : (Cond.methodLink "ServiceThreads" 256 yXs_sendUnit) ∈ wsG := wsG_of (List.mem_append_right _ (List.mem_append_right _ (List.mem_append_left _ (List.mem_of_getElem? (i := 186) rfl)))) (by decide +kernel)
set_option maxRecDepth 20000 in
theorem wt_428 : (Cond.instanceMethod yXs_sendUnit) ∈ wsG := wsG_of (List.mem_append_right _ (List.mem_append_right _ (List.mem_append_left _ (List.mem_of_getElem? (i := 188) rfl)))) (by decide +kernel)
set_option maxRecDepth 20000 in
theorem wt_429 : (Cond.code yXs_sendUnit cXs_sendUnit 4 (some .int)) ∈ wsG := wsG_of (List.mem_append_right _ (List.mem_append_right _ (List.mem_append_left _ (List.mem_of_getElem? (i := 189) rfl)))) (by decide +kernel)
set_option maxRecDepth 20000 in
theorem wt_430 : (Cond.methodLink "ServiceThreads" 273 yXc_isOpenOf) ∈ wsG := wsG_of (List.mem_append_right _ (List.mem_append_right _ (List.mem_append_left _ (List.mem_of_getElem? (i := 190) rfl)))) (by decide +kernel)
set_option maxRecDepth 20000 in
theorem wt_431 : (Cond.methodLink "ServiceThreads" 259 yXs_closeCall) ∈ wsG := wsG_of (List.mem_append_right _ (List.mem_append_right _ (List.mem_append_left _ (List.mem_of_getElem? (i := 191) rfl)))) (by decide +kernel)
set_option maxRecDepth 20000 in
theorem wt_433 : (Cond.instanceMethod yXs_closeCall) ∈ wsG := wsG_of (List.mem_append_right _ (List.mem_append_right _ (List.mem_append_left _ (List.mem_of_getElem? (i := 193) rfl)))) (by decide +kernel)
set_option maxRecDepth 20000 in
theorem wt_434 : (Cond.code yXs_closeCall cXs_closeCall 4 (some .int)) ∈ wsG := wsG_of (List.mem_append_right _ (List.mem_append_right _ (List.mem_append_left _ (List.mem_of_getElem? (i := 194) rfl)))) (by decide +kernel)
set_option maxRecDepth 20000 in
theorem wt_435 : (Cond.methodLink "ServiceThreads" 262 yXs_rest) ∈ wsG := wsG_of (List.mem_append_right _ (List.mem_append_right _ (List.mem_append_left _ (List.mem_of_getElem? (i := 195) rfl)))) (by decide +kernel)
set_option maxRecDepth 20000 in
theorem wt_437 : (Cond.instanceMethod yXs_rest) ∈ wsG := wsG_of (List.mem_append_right _ (List.mem_append_right _ (List.mem_append_left _ (List.mem_of_getElem? (i := 197) rfl)))) (by decide +kernel)
set_option maxRecDepth 20000 in
theorem wt_438 : (Cond.code yXs_rest cXs_rest 3 (some .int)) ∈ wsG := wsG_of (List.mem_append_right _ (List.mem_append_right _ (List.mem_append_left _ (List.mem_of_getElem? (i := 198) rfl)))) (by decide +kernel)
set_option maxRecDepth 20000 in
theorem wt_439 : (Cond.methodLink "ServiceThreads" 244 yXs_fault) ∈ wsG := wsG_of (List.mem_append_right _ (List.mem_append_right _ (List.mem_append_left _ (List.mem_of_getElem? (i := 199) rfl)))) (by decide +kernel)
set_option maxRecDepth 20000 in
theorem wt_441 : (Cond.instanceMethod yXs_fault) ∈ wsG := wsG_of (List.mem_append_right _ (List.mem_append_right _ (List.mem_append_left _ (List.mem_of_getElem? (i := 201) rfl)))) (by decide +kernel)
set_option maxRecDepth 20000 in
theorem wt_442 : (Cond.code yXs_fault cXs_fault 4 none) ∈ wsG := wsG_of (List.mem_append_right _ (List.mem_append_right _ (List.mem_append_left _ (List.mem_of_getElem? (i := 202) rfl)))) (by decide +kernel)
set_option maxRecDepth 20000 in
theorem wt_443 : (Cond.methodLink "ServiceThreads" 276 yXp_finishOf) ∈ wsG := wsG_of (List.mem_append_right _ (List.mem_append_right _ (List.mem_append_left _ (List.mem_of_getElem? (i := 203) rfl)))) (by decide +kernel)
set_option maxRecDepth 20000 in
theorem wt_444 : (Cond.instanceMethod yXp_finishOf) ∈ wsG := wsG_of (List.mem_append_right _ (List.mem_append_right _ (List.mem_append_left _ (List.mem_of_getElem? (i := 204) rfl)))) (by decide +kernel)
set_option maxRecDepth 20000 in
theorem wt_445 : (Cond.selects "ServiceThreads$Programs" yXp_finishOf yXp_finishOf) ∈ wsG := wsG_of (List.mem_append_right _ (List.mem_append_right _ (List.mem_append_left _ (List.mem_of_getElem? (i := 205) rfl)))) (by decide +kernel)
set_option maxRecDepth 20000 in
theorem wt_446 : (Cond.code yXp_finishOf cXp_finishOf 2 (some .int)) ∈ wsG := wsG_of (List.mem_append_right _ (List.mem_append_right _ (List.mem_append_left _ (List.mem_of_getElem? (i := 206) rfl)))) (by decide +kernel)
set_option maxRecDepth 20000 in
theorem wt_447 : (Cond.methodLink "ServiceThreadsLaw" 85 yXl_run) ∈ wsG := wsG_of (List.mem_append_right _ (List.mem_append_right _ (List.mem_append_left _ (List.mem_of_getElem? (i := 207) rfl)))) (by decide +kernel)
set_option maxRecDepth 20000 in
theorem wt_448 : (Cond.static yXl_run) ∈ wsG := wsG_of (List.mem_append_right _ (List.mem_append_right _ (List.mem_append_left _ (List.mem_of_getElem? (i := 208) rfl)))) (by decide +kernel)
set_option maxRecDepth 20000 in
theorem wt_449 : (Cond.codeWith yXl_run cXl_run 6 (some .int) [(0, 11, 14, 15)]) ∈ wsG := wsG_of (List.mem_append_right _ (List.mem_append_right _ (List.mem_append_left _ (List.mem_of_getElem? (i := 209) rfl)))) (by decide +kernel)
set_option maxRecDepth 20000 in
theorem wt_450 : (Cond.methodLink "ServiceThreadsLaw" 32 yXs_run) ∈ wsG := wsG_of (List.mem_append_right _ (List.mem_append_right _ (List.mem_append_left _ (List.mem_of_getElem? (i := 210) rfl)))) (by decide +kernel)
set_option maxRecDepth 20000 in
theorem wt_451 : (Cond.instanceMethod yXs_run) ∈ wsG := wsG_of (List.mem_append_right _ (List.mem_append_right _ (List.mem_append_left _ (List.mem_of_getElem? (i := 211) rfl)))) (by decide +kernel)
set_option maxRecDepth 20000 in
theorem wt_452 : (Cond.selects "ServiceThreads" yXs_run yXs_run) ∈ wsG := wsG_of (List.mem_append_right _ (List.mem_append_right _ (List.mem_append_left _ (List.mem_of_getElem? (i := 212) rfl)))) (by decide +kernel)
set_option maxRecDepth 20000 in
theorem wt_453 : (Cond.code yXs_run cXs_run 7 (some .int)) ∈ wsG := wsG_of (List.mem_append_right _ (List.mem_append_right _ (List.mem_append_left _ (List.mem_of_getElem? (i := 213) rfl)))) (by decide +kernel)
set_option maxRecDepth 20000 in
theorem wt_455 : (Cond.constantLong "ServiceThreads" 132 (7 : Int64)) ∈ wsG := wsG_of (List.mem_append_right _ (List.mem_append_right _ (List.mem_append_left _ (List.mem_of_getElem? (i := 215) rfl)))) (by decide +kernel)
set_option maxRecDepth 20000 in
theorem wt_456 : (Cond.methodLink "ServiceThreadsLaw" 89 yXl_kill) ∈ wsG := wsG_of (List.mem_append_right _ (List.mem_append_right _ (List.mem_append_left _ (List.mem_of_getElem? (i := 216) rfl)))) (by decide +kernel)
set_option maxRecDepth 20000 in
theorem wt_457 : (Cond.static yXl_kill) ∈ wsG := wsG_of (List.mem_append_right _ (List.mem_append_right _ (List.mem_append_left _ (List.mem_of_getElem? (i := 217) rfl)))) (by decide +kernel)
set_option maxRecDepth 20000 in
theorem wt_458 : (Cond.codeWith yXl_kill cXl_kill 3 (some .int) [(0, 5, 8, 13), (0, 5, 11, 17)]) ∈ wsG := wsG_of (List.mem_append_right _ (List.mem_append_right _ (List.mem_append_left _ (List.mem_of_getElem? (i := 218) rfl)))) (by decide +kernel)
set_option maxRecDepth 20000 in
theorem wt_459 : (Cond.methodLink "ServiceThreadsLaw" 36 yXs_kill) ∈ wsG := wsG_of (List.mem_append_right _ (List.mem_append_right _ (List.mem_append_left _ (List.mem_of_getElem? (i := 219) rfl)))) (by decide +kernel)
set_option maxRecDepth 20000 in
theorem wt_460 : (Cond.instanceMethod yXs_kill) ∈ wsG := wsG_of (List.mem_append_right _ (List.mem_append_right _ (List.mem_append_left _ (List.mem_of_getElem? (i := 220) rfl)))) (by decide +kernel)
set_option maxRecDepth 20000 in
theorem wt_461 : (Cond.selects "ServiceThreads" yXs_kill yXs_kill) ∈ wsG := wsG_of (List.mem_append_right _ (List.mem_append_right _ (List.mem_append_left _ (List.mem_of_getElem? (i := 221) rfl)))) (by decide +kernel)
set_option maxRecDepth 20000 in
theorem wt_462 : (Cond.code yXs_kill cXs_kill 2 none) ∈ wsG := wsG_of (List.mem_append_right _ (List.mem_append_right _ (List.mem_append_left _ (List.mem_of_getElem? (i := 222) rfl)))) (by decide +kernel)
set_option maxRecDepth 20000 in
theorem wt_463 : (Cond.methodLink "ServiceThreads" 137 yXs_nextRunningBehind) ∈ wsG := wsG_of (List.mem_append_right _ (List.mem_append_right _ (List.mem_append_left _ (List.mem_of_getElem? (i := 223) rfl)))) (by decide +kernel)
set_option maxRecDepth 20000 in
theorem wt_465 : (Cond.instanceMethod yXs_nextRunningBehind) ∈ wsG := wsG_of (List.mem_append_right _ (List.mem_append_right _ (List.mem_append_left _ (List.mem_of_getElem? (i := 225) rfl)))) (by decide +kernel)
set_option maxRecDepth 20000 in
theorem wt_466 : (Cond.code yXs_nextRunningBehind cXs_nextRunningBehind 4 (some .int)) ∈ wsG := wsG_of (List.mem_append_right _ (List.mem_append_right _ (List.mem_append_left _ (List.mem_of_getElem? (i := 226) rfl)))) (by decide +kernel)
set_option maxRecDepth 20000 in
theorem wt_467 : (Cond.methodLink "ServiceThreads" 282 yXs_runsWithActs) ∈ wsG := wsG_of (List.mem_append_right _ (List.mem_append_right _ (List.mem_append_left _ (List.mem_of_getElem? (i := 227) rfl)))) (by decide +kernel)
set_option maxRecDepth 20000 in
theorem wt_469 : (Cond.instanceMethod yXs_runsWithActs) ∈ wsG := wsG_of (List.mem_append_right _ (List.mem_append_right _ (List.mem_append_left _ (List.mem_of_getElem? (i := 229) rfl)))) (by decide +kernel)
set_option maxRecDepth 20000 in
theorem wt_470 : (Cond.code yXs_runsWithActs cXs_runsWithActs 2 (some .boolean)) ∈ wsG := wsG_of (List.mem_append_right _ (List.mem_append_right _ (List.mem_append_left _ (List.mem_of_getElem? (i := 230) rfl)))) (by decide +kernel)
set_option maxRecDepth 20000 in
theorem wt_471 : (Cond.methodLink "ServiceThreads" 140 yXc_passOn) ∈ wsG := wsG_of (List.mem_append_right _ (List.mem_append_right _ (List.mem_append_left _ (List.mem_of_getElem? (i := 231) rfl)))) (by decide +kernel)
set_option maxRecDepth 20000 in
theorem wt_472 : (Cond.instanceMethod yXc_passOn) ∈ wsG := wsG_of (List.mem_append_right _ (List.mem_append_right _ (List.mem_append_left _ (List.mem_of_getElem? (i := 232) rfl)))) (by decide +kernel)
set_option maxRecDepth 20000 in
theorem wt_473 : (Cond.selects "ServiceThreads$Calls" yXc_passOn yXc_passOn) ∈ wsG := wsG_of (List.mem_append_right _ (List.mem_append_right _ (List.mem_append_left _ (List.mem_of_getElem? (i := 233) rfl)))) (by decide +kernel)
set_option maxRecDepth 20000 in
theorem wt_474 : (Cond.code yXc_passOn cXc_passOn 4 none) ∈ wsG := wsG_of (List.mem_append_right _ (List.mem_append_right _ (List.mem_append_left _ (List.mem_of_getElem? (i := 234) rfl)))) (by decide +kernel)
set_option maxRecDepth 20000 in
theorem wt_475 : (Cond.methodLink "ServiceThreadsLaw" 93 yXl_restart) ∈ wsG := wsG_of (List.mem_append_right _ (List.mem_append_right _ (List.mem_append_left _ (List.mem_of_getElem? (i := 235) rfl)))) (by decide +kernel)
set_option maxRecDepth 20000 in
theorem wt_476 : (Cond.static yXl_restart) ∈ wsG := wsG_of (List.mem_append_right _ (List.mem_append_right _ (List.mem_append_left _ (List.mem_of_getElem? (i := 236) rfl)))) (by decide +kernel)
set_option maxRecDepth 20000 in
theorem wt_477 : (Cond.codeWith yXl_restart cXl_restart 3 (some .int) [(0, 5, 8, 13), (0, 5, 11, 17)]) ∈ wsG := wsG_of (List.mem_append_right _ (List.mem_append_right _ (List.mem_append_left _ (List.mem_of_getElem? (i := 237) rfl)))) (by decide +kernel)
set_option maxRecDepth 20000 in
theorem wt_478 : (Cond.methodLink "ServiceThreadsLaw" 40 yXs_restart) ∈ wsG := wsG_of (List.mem_append_right _ (List.mem_append_right _ (List.mem_append_left _ (List.mem_of_getElem? (i := 238) rfl)))) (by decide +kernel)
set_option maxRecDepth 20000 in
theorem wt_479 : (Cond.instanceMethod yXs_restart) ∈ wsG := wsG_of (List.mem_append_right _ (List.mem_append_right _ (List.mem_append_left _ (List.mem_of_getElem? (i := 239) rfl)))) (by decide +kernel)
set_option maxRecDepth 20000 in
theorem wt_480 : (Cond.selects "ServiceThreads" yXs_restart yXs_restart) ∈ wsG := wsG_of (List.mem_append_right _ (List.mem_append_right _ (List.mem_append_right _ (List.mem_append_left _ (List.mem_of_getElem? (i := 0) rfl))))) (by decide +kernel)
set_option maxRecDepth 20000 in
theorem wt_481 : (Cond.code yXs_restart cXs_restart 2 none) ∈ wsG := wsG_of (List.mem_append_right _ (List.mem_append_right _ (List.mem_append_right _ (List.mem_append_left _ (List.mem_of_getElem? (i := 1) rfl))))) (by decide +kernel)
set_option maxRecDepth 20000 in
theorem wt_483 : (Cond.methodLink "ServiceThreadsLaw" 96 yXl_lease) ∈ wsG := wsG_of (List.mem_append_right _ (List.mem_append_right _ (List.mem_append_right _ (List.mem_append_left _ (List.mem_of_getElem? (i := 3) rfl))))) (by decide +kernel)
set_option maxRecDepth 20000 in
theorem wt_484 : (Cond.static yXl_lease) ∈ wsG := wsG_of (List.mem_append_right _ (List.mem_append_right _ (List.mem_append_right _ (List.mem_append_left _ (List.mem_of_getElem? (i := 4) rfl))))) (by decide +kernel)
set_option maxRecDepth 20000 in
theorem wt_485 : (Cond.codeWith yXl_lease cXl_lease 3 (some .int) [(0, 5, 8, 15)]) ∈ wsG := wsG_of (List.mem_append_right _ (List.mem_append_right _ (List.mem_append_right _ (List.mem_append_left _ (List.mem_of_getElem? (i := 5) rfl))))) (by decide +kernel)
set_option maxRecDepth 20000 in
theorem wt_486 : (Cond.methodLink "ServiceThreadsLaw" 43 yXs_lease) ∈ wsG := wsG_of (List.mem_append_right _ (List.mem_append_right _ (List.mem_append_right _ (List.mem_append_left _ (List.mem_of_getElem? (i := 6) rfl))))) (by decide +kernel)
set_option maxRecDepth 20000 in
theorem wt_487 : (Cond.instanceMethod yXs_lease) ∈ wsG := wsG_of (List.mem_append_right _ (List.mem_append_right _ (List.mem_append_right _ (List.mem_append_left _ (List.mem_of_getElem? (i := 7) rfl))))) (by decide +kernel)
set_option maxRecDepth 20000 in
theorem wt_488 : (Cond.selects "ServiceThreads" yXs_lease yXs_lease) ∈ wsG := wsG_of (List.mem_append_right _ (List.mem_append_right _ (List.mem_append_right _ (List.mem_append_left _ (List.mem_of_getElem? (i := 8) rfl))))) (by decide +kernel)
set_option maxRecDepth 20000 in
theorem wt_489 : (Cond.code yXs_lease cXs_lease 2 none) ∈ wsG := wsG_of (List.mem_append_right _ (List.mem_append_right _ (List.mem_append_right _ (List.mem_append_left _ (List.mem_of_getElem? (i := 9) rfl))))) (by decide +kernel)
set_option maxRecDepth 20000 in
theorem wt_491 : (Cond.methodLink "ServiceThreadsLaw" 104 yXl_unit) ∈ wsG := wsG_of (List.mem_append_right _ (List.mem_append_right _ (List.mem_append_right _ (List.mem_append_left _ (List.mem_of_getElem? (i := 11) rfl))))) (by decide +kernel)
set_option maxRecDepth 20000 in
theorem wt_492 : (Cond.static yXl_unit) ∈ wsG := wsG_of (List.mem_append_right _ (List.mem_append_right _ (List.mem_append_right _ (List.mem_append_left _ (List.mem_of_getElem? (i := 12) rfl))))) (by decide +kernel)
set_option maxRecDepth 20000 in
theorem wt_493 : (Cond.codeWith yXl_unit cXl_unit 5 (some .int) [(0, 10, 13, 13)]) ∈ wsG := wsG_of (List.mem_append_right _ (List.mem_append_right _ (List.mem_append_right _ (List.mem_append_left _ (List.mem_of_getElem? (i := 13) rfl))))) (by decide +kernel)
set_option maxRecDepth 20000 in
theorem wt_494 : (Cond.methodLink "ServiceThreadsLaw" 46 yXs_unit) ∈ wsG := wsG_of (List.mem_append_right _ (List.mem_append_right _ (List.mem_append_right _ (List.mem_append_left _ (List.mem_of_getElem? (i := 14) rfl))))) (by decide +kernel)
set_option maxRecDepth 20000 in
theorem wt_495 : (Cond.instanceMethod yXs_unit) ∈ wsG := wsG_of (List.mem_append_right _ (List.mem_append_right _ (List.mem_append_right _ (List.mem_append_left _ (List.mem_of_getElem? (i := 15) rfl))))) (by decide +kernel)
set_option maxRecDepth 20000 in
theorem wt_496 : (Cond.selects "ServiceThreads" yXs_unit yXs_unit) ∈ wsG := wsG_of (List.mem_append_right _ (List.mem_append_right _ (List.mem_append_right _ (List.mem_append_left _ (List.mem_of_getElem? (i := 16) rfl))))) (by decide +kernel)
set_option maxRecDepth 20000 in
theorem wt_497 : (Cond.code yXs_unit cXs_unit 3 (some .int)) ∈ wsG := wsG_of (List.mem_append_right _ (List.mem_append_right _ (List.mem_append_right _ (List.mem_append_left _ (List.mem_of_getElem? (i := 17) rfl))))) (by decide +kernel)
set_option maxRecDepth 20000 in
theorem wt_500 : (Cond.methodLink "ServiceThreadsLaw" 108 yXl_callAt) ∈ wsG := wsG_of (List.mem_append_right _ (List.mem_append_right _ (List.mem_append_right _ (List.mem_append_left _ (List.mem_of_getElem? (i := 20) rfl))))) (by decide +kernel)
set_option maxRecDepth 20000 in
theorem wt_501 : (Cond.static yXl_callAt) ∈ wsG := wsG_of (List.mem_append_right _ (List.mem_append_right _ (List.mem_append_right _ (List.mem_append_left _ (List.mem_of_getElem? (i := 21) rfl))))) (by decide +kernel)
set_option maxRecDepth 20000 in
theorem wt_502 : (Cond.codeWith yXl_callAt cXl_callAt 5 (some .int) [(0, 10, 13, 13)]) ∈ wsG := wsG_of (List.mem_append_right _ (List.mem_append_right _ (List.mem_append_right _ (List.mem_append_left _ (List.mem_of_getElem? (i := 22) rfl))))) (by decide +kernel)
set_option maxRecDepth 20000 in
theorem wt_503 : (Cond.methodLink "ServiceThreadsLaw" 50 yXs_callAt) ∈ wsG := wsG_of (List.mem_append_right _ (List.mem_append_right _ (List.mem_append_right _ (List.mem_append_left _ (List.mem_of_getElem? (i := 23) rfl))))) (by decide +kernel)
set_option maxRecDepth 20000 in
theorem wt_504 : (Cond.instanceMethod yXs_callAt) ∈ wsG := wsG_of (List.mem_append_right _ (List.mem_append_right _ (List.mem_append_right _ (List.mem_append_left _ (List.mem_of_getElem? (i := 24) rfl))))) (by decide +kernel)
set_option maxRecDepth 20000 in
theorem wt_505 : (Cond.selects "ServiceThreads" yXs_callAt yXs_callAt) ∈ wsG := wsG_of (List.mem_append_right _ (List.mem_append_right _ (List.mem_append_right _ (List.mem_append_left _ (List.mem_of_getElem? (i := 25) rfl))))) (by decide +kernel)
set_option maxRecDepth 20000 in
theorem wt_506 : (Cond.code yXs_callAt cXs_callAt 3 (some .int)) ∈ wsG := wsG_of (List.mem_append_right _ (List.mem_append_right _ (List.mem_append_right _ (List.mem_append_left _ (List.mem_of_getElem? (i := 26) rfl))))) (by decide +kernel)
set_option maxRecDepth 20000 in
theorem wt_509 : (Cond.methodLink "ServiceThreadsLaw" 111 yXl_thread) ∈ wsG := wsG_of (List.mem_append_right _ (List.mem_append_right _ (List.mem_append_right _ (List.mem_append_left _ (List.mem_of_getElem? (i := 29) rfl))))) (by decide +kernel)
set_option maxRecDepth 20000 in
theorem wt_510 : (Cond.static yXl_thread) ∈ wsG := wsG_of (List.mem_append_right _ (List.mem_append_right _ (List.mem_append_right _ (List.mem_append_left _ (List.mem_of_getElem? (i := 30) rfl))))) (by decide +kernel)
set_option maxRecDepth 20000 in
theorem wt_511 : (Cond.codeWith yXl_thread cXl_thread 5 (some .int) [(0, 10, 13, 13)]) ∈ wsG := wsG_of (List.mem_append_right _ (List.mem_append_right _ (List.mem_append_right _ (List.mem_append_left _ (List.mem_of_getElem? (i := 31) rfl))))) (by decide +kernel)
set_option maxRecDepth 20000 in
theorem wt_512 : (Cond.methodLink "ServiceThreadsLaw" 53 yXs_thread) ∈ wsG := wsG_of (List.mem_append_right _ (List.mem_append_right _ (List.mem_append_right _ (List.mem_append_left _ (List.mem_of_getElem? (i := 32) rfl))))) (by decide +kernel)
set_option maxRecDepth 20000 in
theorem wt_513 : (Cond.instanceMethod yXs_thread) ∈ wsG := wsG_of (List.mem_append_right _ (List.mem_append_right _ (List.mem_append_right _ (List.mem_append_left _ (List.mem_of_getElem? (i := 33) rfl))))) (by decide +kernel)
set_option maxRecDepth 20000 in
theorem wt_514 : (Cond.selects "ServiceThreads" yXs_thread yXs_thread) ∈ wsG := wsG_of (List.mem_append_right _ (List.mem_append_right _ (List.mem_append_right _ (List.mem_append_left _ (List.mem_of_getElem? (i := 34) rfl))))) (by decide +kernel)
set_option maxRecDepth 20000 in
theorem wt_515 : (Cond.code yXs_thread cXs_thread 3 (some .int)) ∈ wsG := wsG_of (List.mem_append_right _ (List.mem_append_right _ (List.mem_append_right _ (List.mem_append_left _ (List.mem_of_getElem? (i := 35) rfl))))) (by decide +kernel)
set_option maxRecDepth 20000 in
theorem wt_516 : (Cond.methodLink "ServiceThreads" 185 yXu_lockedByCount) ∈ wsG := wsG_of (List.mem_append_right _ (List.mem_append_right _ (List.mem_append_right _ (List.mem_append_left _ (List.mem_of_getElem? (i := 36) rfl))))) (by decide +kernel)
set_option maxRecDepth 20000 in
theorem wt_517 : (Cond.instanceMethod yXu_lockedByCount) ∈ wsG := wsG_of (List.mem_append_right _ (List.mem_append_right _ (List.mem_append_right _ (List.mem_append_left _ (List.mem_of_getElem? (i := 37) rfl))))) (by decide +kernel)
set_option maxRecDepth 20000 in
theorem wt_518 : (Cond.selects "ServiceThreads$Units" yXu_lockedByCount yXu_lockedByCount) ∈ wsG := wsG_of (List.mem_append_right _ (List.mem_append_right _ (List.mem_append_right _ (List.mem_append_left _ (List.mem_of_getElem? (i := 38) rfl))))) (by decide +kernel)
set_option maxRecDepth 20000 in
theorem wt_519 : (Cond.code yXu_lockedByCount cXu_lockedByCount 4 (some .int)) ∈ wsG := wsG_of (List.mem_append_right _ (List.mem_append_right _ (List.mem_append_right _ (List.mem_append_left _ (List.mem_of_getElem? (i := 39) rfl))))) (by decide +kernel)
set_option maxRecDepth 20000 in
theorem wt_521 : (Cond.methodLink "ServiceThreadsLaw" 114 yXl_row) ∈ wsG := wsG_of (List.mem_append_right _ (List.mem_append_right _ (List.mem_append_right _ (List.mem_append_left _ (List.mem_of_getElem? (i := 41) rfl))))) (by decide +kernel)
set_option maxRecDepth 20000 in
theorem wt_522 : (Cond.static yXl_row) ∈ wsG := wsG_of (List.mem_append_right _ (List.mem_append_right _ (List.mem_append_right _ (List.mem_append_left _ (List.mem_of_getElem? (i := 42) rfl))))) (by decide +kernel)
set_option maxRecDepth 20000 in
theorem wt_523 : (Cond.codeWith yXl_row cXl_row 5 (some .int) [(0, 10, 13, 13)]) ∈ wsG := wsG_of (List.mem_append_right _ (List.mem_append_right _ (List.mem_append_right _ (List.mem_append_left _ (List.mem_of_getElem? (i := 43) rfl))))) (by decide +kernel)
set_option maxRecDepth 20000 in
theorem wt_524 : (Cond.methodLink "ServiceThreadsLaw" 56 yXs_row) ∈ wsG := wsG_of (List.mem_append_right _ (List.mem_append_right _ (List.mem_append_right _ (List.mem_append_left _ (List.mem_of_getElem? (i := 44) rfl))))) (by decide +kernel)
set_option maxRecDepth 20000 in
theorem wt_525 : (Cond.instanceMethod yXs_row) ∈ wsG := wsG_of (List.mem_append_right _ (List.mem_append_right _ (List.mem_append_right _ (List.mem_append_left _ (List.mem_of_getElem? (i := 45) rfl))))) (by decide +kernel)
set_option maxRecDepth 20000 in
theorem wt_526 : (Cond.selects "ServiceThreads" yXs_row yXs_row) ∈ wsG := wsG_of (List.mem_append_right _ (List.mem_append_right _ (List.mem_append_right _ (List.mem_append_left _ (List.mem_of_getElem? (i := 46) rfl))))) (by decide +kernel)
set_option maxRecDepth 20000 in
theorem wt_527 : (Cond.code yXs_row cXs_row 3 (some .int)) ∈ wsG := wsG_of (List.mem_append_right _ (List.mem_append_right _ (List.mem_append_right _ (List.mem_append_left _ (List.mem_of_getElem? (i := 47) rfl))))) (by decide +kernel)
set_option maxRecDepth 20000 in
theorem wt_528 : (Cond.methodLink "ServiceThreads" 190 yXr_isKnown) ∈ wsG := wsG_of (List.mem_append_right _ (List.mem_append_right _ (List.mem_append_right _ (List.mem_append_left _ (List.mem_of_getElem? (i := 48) rfl))))) (by decide +kernel)
set_option maxRecDepth 20000 in
theorem wt_529 : (Cond.instanceMethod yXr_isKnown) ∈ wsG := wsG_of (List.mem_append_right _ (List.mem_append_right _ (List.mem_append_right _ (List.mem_append_left _ (List.mem_of_getElem? (i := 49) rfl))))) (by decide +kernel)
set_option maxRecDepth 20000 in
theorem wt_530 : (Cond.selects "ServiceThreads$Rows" yXr_isKnown yXr_isKnown) ∈ wsG := wsG_of (List.mem_append_right _ (List.mem_append_right _ (List.mem_append_right _ (List.mem_append_left _ (List.mem_of_getElem? (i := 50) rfl))))) (by decide +kernel)
set_option maxRecDepth 20000 in
theorem wt_531 : (Cond.code yXr_isKnown cXr_isKnown 2 (some .boolean)) ∈ wsG := wsG_of (List.mem_append_right _ (List.mem_append_right _ (List.mem_append_right _ (List.mem_append_left _ (List.mem_of_getElem? (i := 51) rfl))))) (by decide +kernel)
set_option maxRecDepth 20000 in
theorem wt_534 : (Cond.methodLink "ServiceThreadsLaw" 117 yXl_count) ∈ wsG := wsG_of (List.mem_append_right _ (List.mem_append_right _ (List.mem_append_right _ (List.mem_append_left _ (List.mem_of_getElem? (i := 54) rfl))))) (by decide +kernel)
set_option maxRecDepth 20000 in
theorem wt_535 : (Cond.static yXl_count) ∈ wsG := wsG_of (List.mem_append_right _ (List.mem_append_right _ (List.mem_append_right _ (List.mem_append_left _ (List.mem_of_getElem? (i := 55) rfl))))) (by decide +kernel)
set_option maxRecDepth 20000 in
theorem wt_536 : (Cond.codeWith yXl_count cXl_count 4 (some .int) [(0, 9, 12, 13)]) ∈ wsG := wsG_of (List.mem_append_right _ (List.mem_append_right _ (List.mem_append_right _ (List.mem_append_left _ (List.mem_of_getElem? (i := 56) rfl))))) (by decide +kernel)
set_option maxRecDepth 20000 in
theorem wt_537 : (Cond.methodLink "ServiceThreadsLaw" 59 yXs_count) ∈ wsG := wsG_of (List.mem_append_right _ (List.mem_append_right _ (List.mem_append_right _ (List.mem_append_left _ (List.mem_of_getElem? (i := 57) rfl))))) (by decide +kernel)
set_option maxRecDepth 20000 in
theorem wt_538 : (Cond.instanceMethod yXs_count) ∈ wsG := wsG_of (List.mem_append_right _ (List.mem_append_right _ (List.mem_append_right _ (List.mem_append_left _ (List.mem_of_getElem? (i := 58) rfl))))) (by decide +kernel)
set_option maxRecDepth 20000 in
theorem wt_539 : (Cond.selects "ServiceThreads" yXs_count yXs_count) ∈ wsG := wsG_of (List.mem_append_right _ (List.mem_append_right _ (List.mem_append_right _ (List.mem_append_left _ (List.mem_of_getElem? (i := 59) rfl))))) (by decide +kernel)
set_option maxRecDepth 20000 in
theorem wt_540 : (Cond.code yXs_count cXs_count 2 (some .int)) ∈ wsG := wsG_of (List.mem_append_right _ (List.mem_append_right _ (List.mem_append_right _ (List.mem_append_left _ (List.mem_of_getElem? (i := 60) rfl))))) (by decide +kernel)
set_option maxRecDepth 20000 in
theorem wt_541 : (Cond.methodLink "ServiceThreads" 210 yXs_runningWithActs) ∈ wsG := wsG_of (List.mem_append_right _ (List.mem_append_right _ (List.mem_append_right _ (List.mem_append_left _ (List.mem_of_getElem? (i := 61) rfl))))) (by decide +kernel)
set_option maxRecDepth 20000 in
theorem wt_543 : (Cond.instanceMethod yXs_runningWithActs) ∈ wsG := wsG_of (List.mem_append_right _ (List.mem_append_right _ (List.mem_append_right _ (List.mem_append_left _ (List.mem_of_getElem? (i := 63) rfl))))) (by decide +kernel)
set_option maxRecDepth 20000 in
theorem wt_544 : (Cond.code yXs_runningWithActs cXs_runningWithActs 3 (some .int)) ∈ wsG := wsG_of (List.mem_append_right _ (List.mem_append_right _ (List.mem_append_right _ (List.mem_append_left _ (List.mem_of_getElem? (i := 64) rfl))))) (by decide +kernel)
set_option maxRecDepth 20000 in
theorem wt_545 : (Cond.methodLink "ServiceThreads" 214 yXu_sentCount) ∈ wsG := wsG_of (List.mem_append_right _ (List.mem_append_right _ (List.mem_append_right _ (List.mem_append_left _ (List.mem_of_getElem? (i := 65) rfl))))) (by decide +kernel)
set_option maxRecDepth 20000 in
theorem wt_546 : (Cond.instanceMethod yXu_sentCount) ∈ wsG := wsG_of (List.mem_append_right _ (List.mem_append_right _ (List.mem_append_right _ (List.mem_append_left _ (List.mem_of_getElem? (i := 66) rfl))))) (by decide +kernel)
set_option maxRecDepth 20000 in
theorem wt_547 : (Cond.selects "ServiceThreads$Units" yXu_sentCount yXu_sentCount) ∈ wsG := wsG_of (List.mem_append_right _ (List.mem_append_right _ (List.mem_append_right _ (List.mem_append_left _ (List.mem_of_getElem? (i := 67) rfl))))) (by decide +kernel)
set_option maxRecDepth 20000 in
theorem wt_548 : (Cond.code yXu_sentCount cXu_sentCount 3 (some .int)) ∈ wsG := wsG_of (List.mem_append_right _ (List.mem_append_right _ (List.mem_append_right _ (List.mem_append_left _ (List.mem_of_getElem? (i := 68) rfl))))) (by decide +kernel)
set_option maxRecDepth 20000 in
theorem wt_549 : (Cond.methodLink "ServiceThreads" 217 yXc_openCount) ∈ wsG := wsG_of (List.mem_append_right _ (List.mem_append_right _ (List.mem_append_right _ (List.mem_append_left _ (List.mem_of_getElem? (i := 69) rfl))))) (by decide +kernel)
set_option maxRecDepth 20000 in
theorem wt_550 : (Cond.instanceMethod yXc_openCount) ∈ wsG := wsG_of (List.mem_append_right _ (List.mem_append_right _ (List.mem_append_right _ (List.mem_append_left _ (List.mem_of_getElem? (i := 70) rfl))))) (by decide +kernel)
set_option maxRecDepth 20000 in
theorem wt_551 : (Cond.selects "ServiceThreads$Calls" yXc_openCount yXc_openCount) ∈ wsG := wsG_of (List.mem_append_right _ (List.mem_append_right _ (List.mem_append_right _ (List.mem_append_left _ (List.mem_of_getElem? (i := 71) rfl))))) (by decide +kernel)
set_option maxRecDepth 20000 in
theorem wt_552 : (Cond.code yXc_openCount cXc_openCount 3 (some .int)) ∈ wsG := wsG_of (List.mem_append_right _ (List.mem_append_right _ (List.mem_append_right _ (List.mem_append_left _ (List.mem_of_getElem? (i := 72) rfl))))) (by decide +kernel)
set_option maxRecDepth 20000 in
theorem wt_553 : (Cond.methodLink "ServiceThreads" 220 yXu_lockedCount) ∈ wsG := wsG_of (List.mem_append_right _ (List.mem_append_right _ (List.mem_append_right _ (List.mem_append_left _ (List.mem_of_getElem? (i := 73) rfl))))) (by decide +kernel)
set_option maxRecDepth 20000 in
theorem wt_554 : (Cond.instanceMethod yXu_lockedCount) ∈ wsG := wsG_of (List.mem_append_right _ (List.mem_append_right _ (List.mem_append_right _ (List.mem_append_left _ (List.mem_of_getElem? (i := 74) rfl))))) (by decide +kernel)
set_option maxRecDepth 20000 in
theorem wt_555 : (Cond.selects "ServiceThreads$Units" yXu_lockedCount yXu_lockedCount) ∈ wsG := wsG_of (List.mem_append_right _ (List.mem_append_right _ (List.mem_append_right _ (List.mem_append_left _ (List.mem_of_getElem? (i := 75) rfl))))) (by decide +kernel)
set_option maxRecDepth 20000 in
theorem wt_556 : (Cond.code yXu_lockedCount cXu_lockedCount 1 (some .int)) ∈ wsG := wsG_of (List.mem_append_right _ (List.mem_append_right _ (List.mem_append_right _ (List.mem_append_left _ (List.mem_of_getElem? (i := 76) rfl))))) (by decide +kernel)
set_option maxRecDepth 20000 in
theorem wt_557 : (Cond.methodLink "ServiceThreads$Units" 24 yXu_lockedByCount) ∈ wsG := wsG_of (List.mem_append_right _ (List.mem_append_right _ (List.mem_append_right _ (List.mem_append_left _ (List.mem_of_getElem? (i := 77) rfl))))) (by decide +kernel)
set_option maxRecDepth 20000 in
theorem wt_559 : (Cond.classLink "ServiceThreadsLaw" 63 "ServiceThreadsModel") ∈ wsG := wsG_of (List.mem_append_right _ (List.mem_append_right _ (List.mem_append_right _ (List.mem_append_left _ (List.mem_of_getElem? (i := 79) rfl))))) (by decide +kernel)
set_option maxRecDepth 20000 in
theorem wt_560 : (Cond.instantiable "ServiceThreadsModel" 28) ∈ wsG := wsG_of (List.mem_append_right _ (List.mem_append_right _ (List.mem_append_right _ (List.mem_append_left _ (List.mem_of_getElem? (i := 80) rfl))))) (by decide +kernel)
set_option maxRecDepth 20000 in
theorem wt_561 : (Cond.methodLink "ServiceThreadsLaw" 65 yXm_init) ∈ wsG := wsG_of (List.mem_append_right _ (List.mem_append_right _ (List.mem_append_right _ (List.mem_append_left _ (List.mem_of_getElem? (i := 81) rfl))))) (by decide +kernel)
set_option maxRecDepth 20000 in
theorem wt_562 : (Cond.instanceMethod yXm_init) ∈ wsG := wsG_of (List.mem_append_right _ (List.mem_append_right _ (List.mem_append_right _ (List.mem_append_left _ (List.mem_of_getElem? (i := 82) rfl))))) (by decide +kernel)
set_option maxRecDepth 20000 in
theorem wt_563 : (Cond.code yXm_init cXm_init 1 none) ∈ wsG := wsG_of (List.mem_append_right _ (List.mem_append_right _ (List.mem_append_right _ (List.mem_append_left _ (List.mem_of_getElem? (i := 83) rfl))))) (by decide +kernel)
set_option maxRecDepth 20000 in
theorem wt_564 : (Cond.methodLink "ServiceThreadsModel" 1 ⟨"java/lang/Object", "<init>", "()V"⟩) ∈ wsG := wsG_of (List.mem_append_right _ (List.mem_append_right _ (List.mem_append_right _ (List.mem_append_left _ (List.mem_of_getElem? (i := 84) rfl))))) (by decide +kernel)
set_option maxRecDepth 20000 in
theorem wt_565 : (Cond.fieldLink "ServiceThreadsModel" 84 "ServiceThreadsModel" "thrown" "I") ∈ wsG := wsG_of (List.mem_append_right _ (List.mem_append_right _ (List.mem_append_right _ (List.mem_append_left _ (List.mem_of_getElem? (i := 85) rfl))))) (by decide +kernel)
set_option maxRecDepth 20000 in
theorem wt_566 : (Cond.fieldLink "ServiceThreadsModel" 108 "ServiceThreadsModel" "turns" "I") ∈ wsG := wsG_of (List.mem_append_right _ (List.mem_append_right _ (List.mem_append_right _ (List.mem_append_left _ (List.mem_of_getElem? (i := 86) rfl))))) (by decide +kernel)
set_option maxRecDepth 20000 in
theorem wt_567 : (Cond.fieldLink "ServiceThreadsModel" 7 "ServiceThreadsModel" "lease" "I") ∈ wsG := wsG_of (List.mem_append_right _ (List.mem_append_right _ (List.mem_append_right _ (List.mem_append_left _ (List.mem_of_getElem? (i := 87) rfl))))) (by decide +kernel)
set_option maxRecDepth 20000 in
theorem wt_568 : (Cond.fieldLink "ServiceThreadsModel" 13 "ServiceThreadsModel" "kind" "[I") ∈ wsG := wsG_of (List.mem_append_right _ (List.mem_append_right _ (List.mem_append_right _ (List.mem_append_left _ (List.mem_of_getElem? (i := 88) rfl))))) (by decide +kernel)
set_option maxRecDepth 20000 in
theorem wt_569 : (Cond.fieldLink "ServiceThreadsModel" 17 "ServiceThreadsModel" "number" "[I") ∈ wsG := wsG_of (List.mem_append_right _ (List.mem_append_right _ (List.mem_append_right _ (List.mem_append_left _ (List.mem_of_getElem? (i := 89) rfl))))) (by decide +kernel)
set_option maxRecDepth 20000 in
theorem wt_570 : (Cond.fieldLink "ServiceThreadsModel" 20 "ServiceThreadsModel" "acts" "[I") ∈ wsG := wsG_of (List.mem_append_right _ (List.mem_append_right _ (List.mem_append_right _ (List.mem_append_left _ (List.mem_of_getElem? (i := 90) rfl))))) (by decide +kernel)
set_option maxRecDepth 20000 in
theorem wt_571 : (Cond.fieldLink "ServiceThreadsModel" 23 "ServiceThreadsModel" "finish" "[I") ∈ wsG := wsG_of (List.mem_append_right _ (List.mem_append_right _ (List.mem_append_right _ (List.mem_append_left _ (List.mem_of_getElem? (i := 91) rfl))))) (by decide +kernel)
set_option maxRecDepth 20000 in
theorem wt_572 : (Cond.fieldLink "ServiceThreadsModel" 26 "ServiceThreadsModel" "state" "[I") ∈ wsG := wsG_of (List.mem_append_right _ (List.mem_append_right _ (List.mem_append_right _ (List.mem_append_left _ (List.mem_of_getElem? (i := 92) rfl))))) (by decide +kernel)
set_option maxRecDepth 20000 in
theorem wt_573 : (Cond.fieldLink "ServiceThreadsModel" 29 "ServiceThreadsModel" "at" "[I") ∈ wsG := wsG_of (List.mem_append_right _ (List.mem_append_right _ (List.mem_append_right _ (List.mem_append_left _ (List.mem_of_getElem? (i := 93) rfl))))) (by decide +kernel)
set_option maxRecDepth 20000 in
theorem wt_574 : (Cond.fieldLink "ServiceThreadsModel" 32 "ServiceThreadsModel" "fault" "[I") ∈ wsG := wsG_of (List.mem_append_right _ (List.mem_append_right _ (List.mem_append_right _ (List.mem_append_left _ (List.mem_of_getElem? (i := 94) rfl))))) (by decide +kernel)
set_option maxRecDepth 20000 in
theorem wt_575 : (Cond.fieldLink "ServiceThreadsModel" 35 "ServiceThreadsModel" "due" "[I") ∈ wsG := wsG_of (List.mem_append_right _ (List.mem_append_right _ (List.mem_append_right _ (List.mem_append_left _ (List.mem_of_getElem? (i := 95) rfl))))) (by decide +kernel)
set_option maxRecDepth 20000 in
theorem wt_576 : (Cond.fieldLink "ServiceThreadsModel" 38 "ServiceThreadsModel" "left" "[I") ∈ wsG := wsG_of (List.mem_append_right _ (List.mem_append_right _ (List.mem_append_right _ (List.mem_append_left _ (List.mem_of_getElem? (i := 96) rfl))))) (by decide +kernel)
set_option maxRecDepth 20000 in
theorem wt_577 : (Cond.fieldLink "ServiceThreadsModel" 41 "ServiceThreadsModel" "anew" "[I") ∈ wsG := wsG_of (List.mem_append_right _ (List.mem_append_right _ (List.mem_append_right _ (List.mem_append_left _ (List.mem_of_getElem? (i := 97) rfl))))) (by decide +kernel)
set_option maxRecDepth 20000 in
theorem wt_578 : (Cond.fieldLink "ServiceThreadsModel" 44 "ServiceThreadsModel" "began" "[Z") ∈ wsG := wsG_of (List.mem_append_right _ (List.mem_append_right _ (List.mem_append_right _ (List.mem_append_left _ (List.mem_of_getElem? (i := 98) rfl))))) (by decide +kernel)
set_option maxRecDepth 20000 in
theorem wt_579 : (Cond.fieldLink "ServiceThreadsModel" 48 "ServiceThreadsModel" "rests" "[Z") ∈ wsG := wsG_of (List.mem_append_right _ (List.mem_append_right _ (List.mem_append_right _ (List.mem_append_left _ (List.mem_of_getElem? (i := 99) rfl))))) (by decide +kernel)
set_option maxRecDepth 20000 in
theorem wt_580 : (Cond.fieldLink "ServiceThreadsModel" 51 "ServiceThreadsModel" "woken" "[Z") ∈ wsG := wsG_of (List.mem_append_right _ (List.mem_append_right _ (List.mem_append_right _ (List.mem_append_left _ (List.mem_of_getElem? (i := 100) rfl))))) (by decide +kernel)
set_option maxRecDepth 20000 in
theorem wt_581 : (Cond.fieldLink "ServiceThreadsModel" 54 "ServiceThreadsModel" "locked" "[I") ∈ wsG := wsG_of (List.mem_append_right _ (List.mem_append_right _ (List.mem_append_right _ (List.mem_append_left _ (List.mem_of_getElem? (i := 101) rfl))))) (by decide +kernel)
set_option maxRecDepth 20000 in
theorem wt_582 : (Cond.fieldLink "ServiceThreadsModel" 57 "ServiceThreadsModel" "sent" "[I") ∈ wsG := wsG_of (List.mem_append_right _ (List.mem_append_right _ (List.mem_append_right _ (List.mem_append_left _ (List.mem_of_getElem? (i := 102) rfl))))) (by decide +kernel)
set_option maxRecDepth 20000 in
theorem wt_583 : (Cond.fieldLink "ServiceThreadsModel" 102 "ServiceThreadsModel" "calls" "I") ∈ wsG := wsG_of (List.mem_append_right _ (List.mem_append_right _ (List.mem_append_right _ (List.mem_append_left _ (List.mem_of_getElem? (i := 103) rfl))))) (by decide +kernel)
set_option maxRecDepth 20000 in
theorem wt_584 : (Cond.fieldLink "ServiceThreadsModel" 60 "ServiceThreadsModel" "rank" "[I") ∈ wsG := wsG_of (List.mem_append_right _ (List.mem_append_right _ (List.mem_append_right _ (List.mem_append_left _ (List.mem_of_getElem? (i := 104) rfl))))) (by decide +kernel)
set_option maxRecDepth 20000 in
theorem wt_585 : (Cond.fieldLink "ServiceThreadsModel" 63 "ServiceThreadsModel" "had" "[I") ∈ wsG := wsG_of (List.mem_append_right _ (List.mem_append_right _ (List.mem_append_right _ (List.mem_append_left _ (List.mem_of_getElem? (i := 105) rfl))))) (by decide +kernel)
set_option maxRecDepth 20000 in
theorem wt_586 : (Cond.fieldLink "ServiceThreadsModel" 66 "ServiceThreadsModel" "unitOf" "[I") ∈ wsG := wsG_of (List.mem_append_right _ (List.mem_append_right _ (List.mem_append_right _ (List.mem_append_left _ (List.mem_of_getElem? (i := 106) rfl))))) (by decide +kernel)
set_option maxRecDepth 20000 in
theorem wt_587 : (Cond.fieldLink "ServiceThreadsModel" 69 "ServiceThreadsModel" "open" "[Z") ∈ wsG := wsG_of (List.mem_append_right _ (List.mem_append_right _ (List.mem_append_right _ (List.mem_append_left _ (List.mem_of_getElem? (i := 107) rfl))))) (by decide +kernel)
set_option maxRecDepth 20000 in
theorem wt_588 : (Cond.fieldLink "ServiceThreadsModel" 105 "ServiceThreadsModel" "rows" "I") ∈ wsG := wsG_of (List.mem_append_right _ (List.mem_append_right _ (List.mem_append_right _ (List.mem_append_left _ (List.mem_of_getElem? (i := 108) rfl))))) (by decide +kernel)
set_option maxRecDepth 20000 in
theorem wt_589 : (Cond.fieldLink "ServiceThreadsModel" 72 "ServiceThreadsModel" "rowThread" "[I") ∈ wsG := wsG_of (List.mem_append_right _ (List.mem_append_right _ (List.mem_append_right _ (List.mem_append_left _ (List.mem_of_getElem? (i := 109) rfl))))) (by decide +kernel)
set_option maxRecDepth 20000 in
theorem wt_590 : (Cond.fieldLink "ServiceThreadsModel" 75 "ServiceThreadsModel" "rowFault" "[I") ∈ wsG := wsG_of (List.mem_append_right _ (List.mem_append_right _ (List.mem_append_right _ (List.mem_append_left _ (List.mem_of_getElem? (i := 110) rfl))))) (by decide +kernel)
set_option maxRecDepth 20000 in
theorem wt_591 : (Cond.fieldLink "ServiceThreadsModel" 78 "ServiceThreadsModel" "rowAct" "[I") ∈ wsG := wsG_of (List.mem_append_right _ (List.mem_append_right _ (List.mem_append_right _ (List.mem_append_left _ (List.mem_of_getElem? (i := 111) rfl))))) (by decide +kernel)
set_option maxRecDepth 20000 in
theorem wt_592 : (Cond.fieldLink "ServiceThreadsModel" 81 "ServiceThreadsModel" "rowTurn" "[I") ∈ wsG := wsG_of (List.mem_append_right _ (List.mem_append_right _ (List.mem_append_right _ (List.mem_append_left _ (List.mem_of_getElem? (i := 112) rfl))))) (by decide +kernel)
set_option maxRecDepth 20000 in
theorem wt_650 : (Cond.methodLink "ServiceThreadsLaw" 120 yXm_thrown) ∈ wsG := wsG_of (List.mem_append_right _ (List.mem_append_right _ (List.mem_append_right _ (List.mem_append_left _ (List.mem_of_getElem? (i := 170) rfl))))) (by decide +kernel)
set_option maxRecDepth 20000 in
theorem wt_651 : (Cond.instanceMethod yXm_thrown) ∈ wsG := wsG_of (List.mem_append_right _ (List.mem_append_right _ (List.mem_append_right _ (List.mem_append_left _ (List.mem_of_getElem? (i := 171) rfl))))) (by decide +kernel)
set_option maxRecDepth 20000 in
theorem wt_652 : (Cond.selects "ServiceThreadsModel" yXm_thrown yXm_thrown) ∈ wsG := wsG_of (List.mem_append_right _ (List.mem_append_right _ (List.mem_append_right _ (List.mem_append_left _ (List.mem_of_getElem? (i := 172) rfl))))) (by decide +kernel)
set_option maxRecDepth 20000 in
theorem wt_653 : (Cond.code yXm_thrown cXm_thrown 1 (some .int)) ∈ wsG := wsG_of (List.mem_append_right _ (List.mem_append_right _ (List.mem_append_right _ (List.mem_append_left _ (List.mem_of_getElem? (i := 173) rfl))))) (by decide +kernel)
set_option maxRecDepth 20000 in
theorem wt_654 : (Cond.methodLink "ServiceThreadsLaw" 71 yXm_act) ∈ wsG := wsG_of (List.mem_append_right _ (List.mem_append_right _ (List.mem_append_right _ (List.mem_append_left _ (List.mem_of_getElem? (i := 174) rfl))))) (by decide +kernel)
set_option maxRecDepth 20000 in
theorem wt_655 : (Cond.instanceMethod yXm_act) ∈ wsG := wsG_of (List.mem_append_right _ (List.mem_append_right _ (List.mem_append_right _ (List.mem_append_left _ (List.mem_of_getElem? (i := 175) rfl))))) (by decide +kernel)
set_option maxRecDepth 20000 in
theorem wt_656 : (Cond.selects "ServiceThreadsModel" yXm_act yXm_act) ∈ wsG := wsG_of (List.mem_append_right _ (List.mem_append_right _ (List.mem_append_right _ (List.mem_append_left _ (List.mem_of_getElem? (i := 176) rfl))))) (by decide +kernel)
set_option maxRecDepth 20000 in
theorem wt_657 : (Cond.code yXm_act cXm_act 5 (some .int)) ∈ wsG := wsG_of (List.mem_append_right _ (List.mem_append_right _ (List.mem_append_right _ (List.mem_append_left _ (List.mem_of_getElem? (i := 177) rfl))))) (by decide +kernel)
set_option maxRecDepth 20000 in
theorem wt_658 : (Cond.methodLink "ServiceThreadsModel" 91 yXm_isThread) ∈ wsG := wsG_of (List.mem_append_right _ (List.mem_append_right _ (List.mem_append_right _ (List.mem_append_left _ (List.mem_of_getElem? (i := 178) rfl))))) (by decide +kernel)
set_option maxRecDepth 20000 in
theorem wt_659 : (Cond.static yXm_isThread) ∈ wsG := wsG_of (List.mem_append_right _ (List.mem_append_right _ (List.mem_append_right _ (List.mem_append_left _ (List.mem_of_getElem? (i := 179) rfl))))) (by decide +kernel)
set_option maxRecDepth 20000 in
theorem wt_660 : (Cond.code yXm_isThread cXm_isThread 1 (some .boolean)) ∈ wsG := wsG_of (List.mem_append_right _ (List.mem_append_right _ (List.mem_append_right _ (List.mem_append_left _ (List.mem_of_getElem? (i := 180) rfl))))) (by decide +kernel)
set_option maxRecDepth 20000 in
theorem wt_661 : (Cond.methodLink "ServiceThreadsModel" 87 yXm_in) ∈ wsG := wsG_of (List.mem_append_right _ (List.mem_append_right _ (List.mem_append_right _ (List.mem_append_left _ (List.mem_of_getElem? (i := 181) rfl))))) (by decide +kernel)
set_option maxRecDepth 20000 in
theorem wt_662 : (Cond.static yXm_in) ∈ wsG := wsG_of (List.mem_append_right _ (List.mem_append_right _ (List.mem_append_right _ (List.mem_append_left _ (List.mem_of_getElem? (i := 182) rfl))))) (by decide +kernel)
set_option maxRecDepth 20000 in
theorem wt_663 : (Cond.code yXm_in cXm_in 3 (some .boolean)) ∈ wsG := wsG_of (List.mem_append_right _ (List.mem_append_right _ (List.mem_append_right _ (List.mem_append_left _ (List.mem_of_getElem? (i := 183) rfl))))) (by decide +kernel)
set_option maxRecDepth 20000 in
theorem wt_664 : (Cond.methodLink "ServiceThreadsModel" 95 yXm_hasBegun) ∈ wsG := wsG_of (List.mem_append_right _ (List.mem_append_right _ (List.mem_append_right _ (List.mem_append_left _ (List.mem_of_getElem? (i := 184) rfl))))) (by decide +kernel)
set_option maxRecDepth 20000 in
theorem wt_666 : (Cond.instanceMethod yXm_hasBegun) ∈ wsG := wsG_of (List.mem_append_right _ (List.mem_append_right _ (List.mem_append_right _ (List.mem_append_left _ (List.mem_of_getElem? (i := 186) rfl))))) (by decide +kernel)
set_option maxRecDepth 20000 in
theorem wt_667 : (Cond.code yXm_hasBegun cXm_hasBegun 2 (some .boolean)) ∈ wsG := wsG_of (List.mem_append_right _ (List.mem_append_right _ (List.mem_append_right _ (List.mem_append_left _ (List.mem_of_getElem? (i := 187) rfl))))) (by decide +kernel)
set_option maxRecDepth 20000 in
theorem wt_668 : (Cond.methodLink "ServiceThreadsModel" 98 yXm_throwing) ∈ wsG := wsG_of (List.mem_append_right _ (List.mem_append_right _ (List.mem_append_right _ (List.mem_append_left _ (List.mem_of_getElem? (i := 188) rfl))))) (by decide +kernel)
set_option maxRecDepth 20000 in
theorem wt_670 : (Cond.instanceMethod yXm_throwing) ∈ wsG := wsG_of (List.mem_append_right _ (List.mem_append_right _ (List.mem_append_right _ (List.mem_append_left _ (List.mem_of_getElem? (i := 190) rfl))))) (by decide +kernel)
set_option maxRecDepth 20000 in
theorem wt_671 : (Cond.code yXm_throwing cXm_throwing 5 (some .boolean)) ∈ wsG := wsG_of (List.mem_append_right _ (List.mem_append_right _ (List.mem_append_right _ (List.mem_append_left _ (List.mem_of_getElem? (i := 191) rfl))))) (by decide +kernel)
set_option maxRecDepth 20000 in
theorem wt_672 : (Cond.methodLink "ServiceThreadsLaw" 75 yXm_finish) ∈ wsG := wsG_of (List.mem_append_right _ (List.mem_append_right _ (List.mem_append_right _ (List.mem_append_left _ (List.mem_of_getElem? (i := 192) rfl))))) (by decide +kernel)
set_option maxRecDepth 20000 in
theorem wt_673 : (Cond.instanceMethod yXm_finish) ∈ wsG := wsG_of (List.mem_append_right _ (List.mem_append_right _ (List.mem_append_right _ (List.mem_append_left _ (List.mem_of_getElem? (i := 193) rfl))))) (by decide +kernel)
set_option maxRecDepth 20000 in
theorem wt_674 : (Cond.selects "ServiceThreadsModel" yXm_finish yXm_finish) ∈ wsG := wsG_of (List.mem_append_right _ (List.mem_append_right _ (List.mem_append_right _ (List.mem_append_left _ (List.mem_of_getElem? (i := 194) rfl))))) (by decide +kernel)
set_option maxRecDepth 20000 in
theorem wt_675 : (Cond.code yXm_finish cXm_finish 4 none) ∈ wsG := wsG_of (List.mem_append_right _ (List.mem_append_right _ (List.mem_append_right _ (List.mem_append_left _ (List.mem_of_getElem? (i := 195) rfl))))) (by decide +kernel)
set_option maxRecDepth 20000 in
theorem wt_676 : (Cond.methodLink "ServiceThreadsLaw" 79 yXm_call) ∈ wsG := wsG_of (List.mem_append_right _ (List.mem_append_right _ (List.mem_append_right _ (List.mem_append_left _ (List.mem_of_getElem? (i := 196) rfl))))) (by decide +kernel)
set_option maxRecDepth 20000 in
theorem wt_677 : (Cond.instanceMethod yXm_call) ∈ wsG := wsG_of (List.mem_append_right _ (List.mem_append_right _ (List.mem_append_right _ (List.mem_append_left _ (List.mem_of_getElem? (i := 197) rfl))))) (by decide +kernel)
set_option maxRecDepth 20000 in
theorem wt_678 : (Cond.selects "ServiceThreadsModel" yXm_call yXm_call) ∈ wsG := wsG_of (List.mem_append_right _ (List.mem_append_right _ (List.mem_append_right _ (List.mem_append_left _ (List.mem_of_getElem? (i := 198) rfl))))) (by decide +kernel)
set_option maxRecDepth 20000 in
theorem wt_679 : (Cond.code yXm_call cXm_call 5 (some .int)) ∈ wsG := wsG_of (List.mem_append_right _ (List.mem_append_right _ (List.mem_append_right _ (List.mem_append_left _ (List.mem_of_getElem? (i := 199) rfl))))) (by decide +kernel)
set_option maxRecDepth 20000 in
theorem wt_680 : (Cond.methodLink "ServiceThreadsLaw" 82 yXm_step) ∈ wsG := wsG_of (List.mem_append_right _ (List.mem_append_right _ (List.mem_append_right _ (List.mem_append_left _ (List.mem_of_getElem? (i := 200) rfl))))) (by decide +kernel)
set_option maxRecDepth 20000 in
theorem wt_681 : (Cond.instanceMethod yXm_step) ∈ wsG := wsG_of (List.mem_append_right _ (List.mem_append_right _ (List.mem_append_right _ (List.mem_append_left _ (List.mem_of_getElem? (i := 201) rfl))))) (by decide +kernel)
set_option maxRecDepth 20000 in
theorem wt_682 : (Cond.selects "ServiceThreadsModel" yXm_step yXm_step) ∈ wsG := wsG_of (List.mem_append_right _ (List.mem_append_right _ (List.mem_append_right _ (List.mem_append_left _ (List.mem_of_getElem? (i := 202) rfl))))) (by decide +kernel)
set_option maxRecDepth 20000 in
theorem wt_683 : (Cond.code yXm_step cXm_step 3 (some .int)) ∈ wsG := wsG_of (List.mem_append_right _ (List.mem_append_right _ (List.mem_append_right _ (List.mem_append_left _ (List.mem_of_getElem? (i := 203) rfl))))) (by decide +kernel)
set_option maxRecDepth 20000 in
theorem wt_684 : (Cond.methodLink "ServiceThreadsModel" 159 yXm_turn) ∈ wsG := wsG_of (List.mem_append_right _ (List.mem_append_right _ (List.mem_append_right _ (List.mem_append_left _ (List.mem_of_getElem? (i := 204) rfl))))) (by decide +kernel)
set_option maxRecDepth 20000 in
theorem wt_686 : (Cond.instanceMethod yXm_turn) ∈ wsG := wsG_of (List.mem_append_right _ (List.mem_append_right _ (List.mem_append_right _ (List.mem_append_left _ (List.mem_of_getElem? (i := 206) rfl))))) (by decide +kernel)
set_option maxRecDepth 20000 in
theorem wt_687 : (Cond.code yXm_turn cXm_turn 3 (some .int)) ∈ wsG := wsG_of (List.mem_append_right _ (List.mem_append_right _ (List.mem_append_right _ (List.mem_append_left _ (List.mem_of_getElem? (i := 207) rfl))))) (by decide +kernel)
set_option maxRecDepth 20000 in
theorem wt_688 : (Cond.methodLink "ServiceThreadsModel" 115 yXm_free) ∈ wsG := wsG_of (List.mem_append_right _ (List.mem_append_right _ (List.mem_append_right _ (List.mem_append_left _ (List.mem_of_getElem? (i := 208) rfl))))) (by decide +kernel)
set_option maxRecDepth 20000 in
theorem wt_690 : (Cond.instanceMethod yXm_free) ∈ wsG := wsG_of (List.mem_append_right _ (List.mem_append_right _ (List.mem_append_right _ (List.mem_append_left _ (List.mem_of_getElem? (i := 210) rfl))))) (by decide +kernel)
set_option maxRecDepth 20000 in
theorem wt_691 : (Cond.code yXm_free cXm_free 3 none) ∈ wsG := wsG_of (List.mem_append_right _ (List.mem_append_right _ (List.mem_append_right _ (List.mem_append_left _ (List.mem_of_getElem? (i := 211) rfl))))) (by decide +kernel)
set_option maxRecDepth 20000 in
theorem wt_692 : (Cond.methodLink "ServiceThreadsModel" 137 yXm_end) ∈ wsG := wsG_of (List.mem_append_right _ (List.mem_append_right _ (List.mem_append_right _ (List.mem_append_left _ (List.mem_of_getElem? (i := 212) rfl))))) (by decide +kernel)
set_option maxRecDepth 20000 in
theorem wt_694 : (Cond.instanceMethod yXm_end) ∈ wsG := wsG_of (List.mem_append_right _ (List.mem_append_right _ (List.mem_append_right _ (List.mem_append_left _ (List.mem_of_getElem? (i := 214) rfl))))) (by decide +kernel)
set_option maxRecDepth 20000 in
theorem wt_695 : (Cond.code yXm_end cXm_end 2 none) ∈ wsG := wsG_of (List.mem_append_right _ (List.mem_append_right _ (List.mem_append_right _ (List.mem_append_left _ (List.mem_of_getElem? (i := 215) rfl))))) (by decide +kernel)
set_option maxRecDepth 20000 in
theorem wt_696 : (Cond.methodLink "ServiceThreadsModel" 140 yXm_lock) ∈ wsG := wsG_of (List.mem_append_right _ (List.mem_append_right _ (List.mem_append_right _ (List.mem_append_left _ (List.mem_of_getElem? (i := 216) rfl))))) (by decide +kernel)
set_option maxRecDepth 20000 in
theorem wt_698 : (Cond.instanceMethod yXm_lock) ∈ wsG := wsG_of (List.mem_append_right _ (List.mem_append_right _ (List.mem_append_right _ (List.mem_append_left _ (List.mem_of_getElem? (i := 218) rfl))))) (by decide +kernel)
set_option maxRecDepth 20000 in
theorem wt_699 : (Cond.code yXm_lock cXm_lock 3 (some .int)) ∈ wsG := wsG_of (List.mem_append_right _ (List.mem_append_right _ (List.mem_append_right _ (List.mem_append_left _ (List.mem_of_getElem? (i := 219) rfl))))) (by decide +kernel)
set_option maxRecDepth 20000 in
theorem wt_700 : (Cond.methodLink "ServiceThreadsModel" 122 yXm_fail) ∈ wsG := wsG_of (List.mem_append_right _ (List.mem_append_right _ (List.mem_append_right _ (List.mem_append_left _ (List.mem_of_getElem? (i := 220) rfl))))) (by decide +kernel)
set_option maxRecDepth 20000 in
theorem wt_702 : (Cond.instanceMethod yXm_fail) ∈ wsG := wsG_of (List.mem_append_right _ (List.mem_append_right _ (List.mem_append_right _ (List.mem_append_left _ (List.mem_of_getElem? (i := 222) rfl))))) (by decide +kernel)
set_option maxRecDepth 20000 in
theorem wt_703 : (Cond.code yXm_fail cXm_fail 3 (some .int)) ∈ wsG := wsG_of (List.mem_append_right _ (List.mem_append_right _ (List.mem_append_right _ (List.mem_append_left _ (List.mem_of_getElem? (i := 223) rfl))))) (by decide +kernel)
set_option maxRecDepth 20000 in
theorem wt_704 : (Cond.methodLink "ServiceThreadsModel" 111 yXm_tell) ∈ wsG := wsG_of (List.mem_append_right _ (List.mem_append_right _ (List.mem_append_right _ (List.mem_append_left _ (List.mem_of_getElem? (i := 224) rfl))))) (by decide +kernel)
set_option maxRecDepth 20000 in
theorem wt_706 : (Cond.instanceMethod yXm_tell) ∈ wsG := wsG_of (List.mem_append_right _ (List.mem_append_right _ (List.mem_append_right _ (List.mem_append_left _ (List.mem_of_getElem? (i := 226) rfl))))) (by decide +kernel)
set_option maxRecDepth 20000 in
theorem wt_707 : (Cond.code yXm_tell cXm_tell 3 none) ∈ wsG := wsG_of (List.mem_append_right _ (List.mem_append_right _ (List.mem_append_right _ (List.mem_append_left _ (List.mem_of_getElem? (i := 227) rfl))))) (by decide +kernel)
set_option maxRecDepth 20000 in
theorem wt_708 : (Cond.methodLink "ServiceThreadsModel" 119 yXm_drop) ∈ wsG := wsG_of (List.mem_append_right _ (List.mem_append_right _ (List.mem_append_right _ (List.mem_append_left _ (List.mem_of_getElem? (i := 228) rfl))))) (by decide +kernel)
set_option maxRecDepth 20000 in
theorem wt_710 : (Cond.instanceMethod yXm_drop) ∈ wsG := wsG_of (List.mem_append_right _ (List.mem_append_right _ (List.mem_append_right _ (List.mem_append_left _ (List.mem_of_getElem? (i := 230) rfl))))) (by decide +kernel)
set_option maxRecDepth 20000 in
theorem wt_711 : (Cond.code yXm_drop cXm_drop 3 none) ∈ wsG := wsG_of (List.mem_append_right _ (List.mem_append_right _ (List.mem_append_right _ (List.mem_append_left _ (List.mem_of_getElem? (i := 231) rfl))))) (by decide +kernel)
set_option maxRecDepth 20000 in
theorem wt_712 : (Cond.methodLink "ServiceThreadsModel" 126 yXm_hasAbove) ∈ wsG := wsG_of (List.mem_append_right _ (List.mem_append_right _ (List.mem_append_right _ (List.mem_append_left _ (List.mem_of_getElem? (i := 232) rfl))))) (by decide +kernel)
set_option maxRecDepth 20000 in
theorem wt_714 : (Cond.instanceMethod yXm_hasAbove) ∈ wsG := wsG_of (List.mem_append_right _ (List.mem_append_right _ (List.mem_append_right _ (List.mem_append_left _ (List.mem_of_getElem? (i := 234) rfl))))) (by decide +kernel)
set_option maxRecDepth 20000 in
theorem wt_715 : (Cond.code yXm_hasAbove cXm_hasAbove 5 (some .boolean)) ∈ wsG := wsG_of (List.mem_append_right _ (List.mem_append_right _ (List.mem_append_right _ (List.mem_append_left _ (List.mem_of_getElem? (i := 235) rfl))))) (by decide +kernel)
set_option maxRecDepth 20000 in
theorem wt_716 : (Cond.methodLink "ServiceThreadsModel" 130 yXm_done) ∈ wsG := wsG_of (List.mem_append_right _ (List.mem_append_right _ (List.mem_append_right _ (List.mem_append_left _ (List.mem_of_getElem? (i := 236) rfl))))) (by decide +kernel)
set_option maxRecDepth 20000 in
theorem wt_718 : (Cond.instanceMethod yXm_done) ∈ wsG := wsG_of (List.mem_append_right _ (List.mem_append_right _ (List.mem_append_right _ (List.mem_append_left _ (List.mem_of_getElem? (i := 238) rfl))))) (by decide +kernel)
set_option maxRecDepth 20000 in
theorem wt_719 : (Cond.code yXm_done cXm_done 2 (some .int)) ∈ wsG := wsG_of (List.mem_append_right _ (List.mem_append_right _ (List.mem_append_right _ (List.mem_append_left _ (List.mem_of_getElem? (i := 239) rfl))))) (by decide +kernel)
set_option maxRecDepth 20000 in
theorem wt_720 : (Cond.methodLink "ServiceThreadsModel" 143 yXm_unlock) ∈ wsG := wsG_of (List.mem_append_right _ (List.mem_append_right _ (List.mem_append_right _ (List.mem_append_right _ (List.mem_of_getElem? (i := 0) rfl))))) (by decide +kernel)
set_option maxRecDepth 20000 in
theorem wt_722 : (Cond.instanceMethod yXm_unlock) ∈ wsG := wsG_of (List.mem_append_right _ (List.mem_append_right _ (List.mem_append_right _ (List.mem_append_right _ (List.mem_of_getElem? (i := 2) rfl))))) (by decide +kernel)
set_option maxRecDepth 20000 in
theorem wt_723 : (Cond.code yXm_unlock cXm_unlock 3 (some .int)) ∈ wsG := wsG_of (List.mem_append_right _ (List.mem_append_right _ (List.mem_append_right _ (List.mem_append_right _ (List.mem_of_getElem? (i := 3) rfl))))) (by decide +kernel)
set_option maxRecDepth 20000 in
theorem wt_724 : (Cond.methodLink "ServiceThreadsModel" 146 yXm_take) ∈ wsG := wsG_of (List.mem_append_right _ (List.mem_append_right _ (List.mem_append_right _ (List.mem_append_right _ (List.mem_of_getElem? (i := 4) rfl))))) (by decide +kernel)
set_option maxRecDepth 20000 in
theorem wt_726 : (Cond.instanceMethod yXm_take) ∈ wsG := wsG_of (List.mem_append_right _ (List.mem_append_right _ (List.mem_append_right _ (List.mem_append_right _ (List.mem_of_getElem? (i := 6) rfl))))) (by decide +kernel)
set_option maxRecDepth 20000 in
theorem wt_727 : (Cond.code yXm_take cXm_take 3 (some .int)) ∈ wsG := wsG_of (List.mem_append_right _ (List.mem_append_right _ (List.mem_append_right _ (List.mem_append_right _ (List.mem_of_getElem? (i := 7) rfl))))) (by decide +kernel)
set_option maxRecDepth 20000 in
theorem wt_728 : (Cond.methodLink "ServiceThreadsModel" 149 yXm_send) ∈ wsG := wsG_of (List.mem_append_right _ (List.mem_append_right _ (List.mem_append_right _ (List.mem_append_right _ (List.mem_of_getElem? (i := 8) rfl))))) (by decide +kernel)
set_option maxRecDepth 20000 in
theorem wt_730 : (Cond.instanceMethod yXm_send) ∈ wsG := wsG_of (List.mem_append_right _ (List.mem_append_right _ (List.mem_append_right _ (List.mem_append_right _ (List.mem_of_getElem? (i := 10) rfl))))) (by decide +kernel)
set_option maxRecDepth 20000 in
theorem wt_731 : (Cond.code yXm_send cXm_send 5 (some .int)) ∈ wsG := wsG_of (List.mem_append_right _ (List.mem_append_right _ (List.mem_append_right _ (List.mem_append_right _ (List.mem_of_getElem? (i := 11) rfl))))) (by decide +kernel)
set_option maxRecDepth 20000 in
theorem wt_732 : (Cond.methodLink "ServiceThreadsModel" 134 yXm_isOwn) ∈ wsG := wsG_of (List.mem_append_right _ (List.mem_append_right _ (List.mem_append_right _ (List.mem_append_right _ (List.mem_of_getElem? (i := 12) rfl))))) (by decide +kernel)
set_option maxRecDepth 20000 in
theorem wt_734 : (Cond.instanceMethod yXm_isOwn) ∈ wsG := wsG_of (List.mem_append_right _ (List.mem_append_right _ (List.mem_append_right _ (List.mem_append_right _ (List.mem_of_getElem? (i := 14) rfl))))) (by decide +kernel)
set_option maxRecDepth 20000 in
theorem wt_735 : (Cond.code yXm_isOwn cXm_isOwn 3 (some .boolean)) ∈ wsG := wsG_of (List.mem_append_right _ (List.mem_append_right _ (List.mem_append_right _ (List.mem_append_right _ (List.mem_of_getElem? (i := 15) rfl))))) (by decide +kernel)
set_option maxRecDepth 20000 in
theorem wt_736 : (Cond.methodLink "ServiceThreadsModel" 153 yXm_shut) ∈ wsG := wsG_of (List.mem_append_right _ (List.mem_append_right _ (List.mem_append_right _ (List.mem_append_right _ (List.mem_of_getElem? (i := 16) rfl))))) (by decide +kernel)
set_option maxRecDepth 20000 in
theorem wt_738 : (Cond.instanceMethod yXm_shut) ∈ wsG := wsG_of (List.mem_append_right _ (List.mem_append_right _ (List.mem_append_right _ (List.mem_append_right _ (List.mem_of_getElem? (i := 18) rfl))))) (by decide +kernel)
set_option maxRecDepth 20000 in
theorem wt_739 : (Cond.code yXm_shut cXm_shut 3 (some .int)) ∈ wsG := wsG_of (List.mem_append_right _ (List.mem_append_right _ (List.mem_append_right _ (List.mem_append_right _ (List.mem_of_getElem? (i := 19) rfl))))) (by decide +kernel)
set_option maxRecDepth 20000 in
theorem wt_740 : (Cond.methodLink "ServiceThreadsModel" 156 yXm_rest) ∈ wsG := wsG_of (List.mem_append_right _ (List.mem_append_right _ (List.mem_append_right _ (List.mem_append_right _ (List.mem_of_getElem? (i := 20) rfl))))) (by decide +kernel)
set_option maxRecDepth 20000 in
theorem wt_742 : (Cond.instanceMethod yXm_rest) ∈ wsG := wsG_of (List.mem_append_right _ (List.mem_append_right _ (List.mem_append_right _ (List.mem_append_right _ (List.mem_of_getElem? (i := 22) rfl))))) (by decide +kernel)
set_option maxRecDepth 20000 in
theorem wt_743 : (Cond.code yXm_rest cXm_rest 3 (some .int)) ∈ wsG := wsG_of (List.mem_append_right _ (List.mem_append_right _ (List.mem_append_right _ (List.mem_append_right _ (List.mem_of_getElem? (i := 23) rfl))))) (by decide +kernel)
set_option maxRecDepth 20000 in
theorem wt_744 : (Cond.methodLink "ServiceThreadsLaw" 88 yXm_run) ∈ wsG := wsG_of (List.mem_append_right _ (List.mem_append_right _ (List.mem_append_right _ (List.mem_append_right _ (List.mem_of_getElem? (i := 24) rfl))))) (by decide +kernel)
set_option maxRecDepth 20000 in
theorem wt_745 : (Cond.instanceMethod yXm_run) ∈ wsG := wsG_of (List.mem_append_right _ (List.mem_append_right _ (List.mem_append_right _ (List.mem_append_right _ (List.mem_of_getElem? (i := 25) rfl))))) (by decide +kernel)
set_option maxRecDepth 20000 in
theorem wt_746 : (Cond.selects "ServiceThreadsModel" yXm_run yXm_run) ∈ wsG := wsG_of (List.mem_append_right _ (List.mem_append_right _ (List.mem_append_right _ (List.mem_append_right _ (List.mem_of_getElem? (i := 26) rfl))))) (by decide +kernel)
set_option maxRecDepth 20000 in
theorem wt_747 : (Cond.code yXm_run cXm_run 7 (some .int)) ∈ wsG := wsG_of (List.mem_append_right _ (List.mem_append_right _ (List.mem_append_right _ (List.mem_append_right _ (List.mem_of_getElem? (i := 27) rfl))))) (by decide +kernel)
set_option maxRecDepth 20000 in
theorem wt_748 : (Cond.methodLink "ServiceThreadsLaw" 92 yXm_kill) ∈ wsG := wsG_of (List.mem_append_right _ (List.mem_append_right _ (List.mem_append_right _ (List.mem_append_right _ (List.mem_of_getElem? (i := 28) rfl))))) (by decide +kernel)
set_option maxRecDepth 20000 in
theorem wt_749 : (Cond.instanceMethod yXm_kill) ∈ wsG := wsG_of (List.mem_append_right _ (List.mem_append_right _ (List.mem_append_right _ (List.mem_append_right _ (List.mem_of_getElem? (i := 29) rfl))))) (by decide +kernel)
set_option maxRecDepth 20000 in
theorem wt_750 : (Cond.selects "ServiceThreadsModel" yXm_kill yXm_kill) ∈ wsG := wsG_of (List.mem_append_right _ (List.mem_append_right _ (List.mem_append_right _ (List.mem_append_right _ (List.mem_of_getElem? (i := 30) rfl))))) (by decide +kernel)
set_option maxRecDepth 20000 in
theorem wt_751 : (Cond.code yXm_kill cXm_kill 5 none) ∈ wsG := wsG_of (List.mem_append_right _ (List.mem_append_right _ (List.mem_append_right _ (List.mem_append_right _ (List.mem_of_getElem? (i := 31) rfl))))) (by decide +kernel)
set_option maxRecDepth 20000 in
theorem wt_752 : (Cond.methodLink "ServiceThreadsModel" 162 yXm_heir) ∈ wsG := wsG_of (List.mem_append_right _ (List.mem_append_right _ (List.mem_append_right _ (List.mem_append_right _ (List.mem_of_getElem? (i := 32) rfl))))) (by decide +kernel)
set_option maxRecDepth 20000 in
theorem wt_754 : (Cond.instanceMethod yXm_heir) ∈ wsG := wsG_of (List.mem_append_right _ (List.mem_append_right _ (List.mem_append_right _ (List.mem_append_right _ (List.mem_of_getElem? (i := 34) rfl))))) (by decide +kernel)
set_option maxRecDepth 20000 in
theorem wt_755 : (Cond.code yXm_heir cXm_heir 4 (some .int)) ∈ wsG := wsG_of (List.mem_append_right _ (List.mem_append_right _ (List.mem_append_right _ (List.mem_append_right _ (List.mem_of_getElem? (i := 35) rfl))))) (by decide +kernel)
set_option maxRecDepth 20000 in
theorem wt_756 : (Cond.methodLink "ServiceThreadsLaw" 95 yXm_restart) ∈ wsG := wsG_of (List.mem_append_right _ (List.mem_append_right _ (List.mem_append_right _ (List.mem_append_right _ (List.mem_of_getElem? (i := 36) rfl))))) (by decide +kernel)
set_option maxRecDepth 20000 in
theorem wt_757 : (Cond.instanceMethod yXm_restart) ∈ wsG := wsG_of (List.mem_append_right _ (List.mem_append_right _ (List.mem_append_right _ (List.mem_append_right _ (List.mem_of_getElem? (i := 37) rfl))))) (by decide +kernel)
set_option maxRecDepth 20000 in
theorem wt_758 : (Cond.selects "ServiceThreadsModel" yXm_restart yXm_restart) ∈ wsG := wsG_of (List.mem_append_right _ (List.mem_append_right _ (List.mem_append_right _ (List.mem_append_right _ (List.mem_of_getElem? (i := 38) rfl))))) (by decide +kernel)
set_option maxRecDepth 20000 in
theorem wt_759 : (Cond.code yXm_restart cXm_restart 3 none) ∈ wsG := wsG_of (List.mem_append_right _ (List.mem_append_right _ (List.mem_append_right _ (List.mem_append_right _ (List.mem_of_getElem? (i := 39) rfl))))) (by decide +kernel)
set_option maxRecDepth 20000 in
theorem wt_760 : (Cond.methodLink "ServiceThreadsLaw" 98 yXm_lease) ∈ wsG := wsG_of (List.mem_append_right _ (List.mem_append_right _ (List.mem_append_right _ (List.mem_append_right _ (List.mem_of_getElem? (i := 40) rfl))))) (by decide +kernel)
set_option maxRecDepth 20000 in
theorem wt_761 : (Cond.instanceMethod yXm_lease) ∈ wsG := wsG_of (List.mem_append_right _ (List.mem_append_right _ (List.mem_append_right _ (List.mem_append_right _ (List.mem_of_getElem? (i := 41) rfl))))) (by decide +kernel)
set_option maxRecDepth 20000 in
theorem wt_762 : (Cond.selects "ServiceThreadsModel" yXm_lease yXm_lease) ∈ wsG := wsG_of (List.mem_append_right _ (List.mem_append_right _ (List.mem_append_right _ (List.mem_append_right _ (List.mem_of_getElem? (i := 42) rfl))))) (by decide +kernel)
set_option maxRecDepth 20000 in
theorem wt_763 : (Cond.code yXm_lease cXm_lease 2 none) ∈ wsG := wsG_of (List.mem_append_right _ (List.mem_append_right _ (List.mem_append_right _ (List.mem_append_right _ (List.mem_of_getElem? (i := 43) rfl))))) (by decide +kernel)
set_option maxRecDepth 20000 in
theorem wt_764 : (Cond.methodLink "ServiceThreadsLaw" 103 yXm_close) ∈ wsG := wsG_of (List.mem_append_right _ (List.mem_append_right _ (List.mem_append_right _ (List.mem_append_right _ (List.mem_of_getElem? (i := 44) rfl))))) (by decide +kernel)
set_option maxRecDepth 20000 in
theorem wt_765 : (Cond.instanceMethod yXm_close) ∈ wsG := wsG_of (List.mem_append_right _ (List.mem_append_right _ (List.mem_append_right _ (List.mem_append_right _ (List.mem_of_getElem? (i := 45) rfl))))) (by decide +kernel)
set_option maxRecDepth 20000 in
theorem wt_766 : (Cond.selects "ServiceThreadsModel" yXm_close yXm_close) ∈ wsG := wsG_of (List.mem_append_right _ (List.mem_append_right _ (List.mem_append_right _ (List.mem_append_right _ (List.mem_of_getElem? (i := 46) rfl))))) (by decide +kernel)
set_option maxRecDepth 20000 in
theorem wt_767 : (Cond.code yXm_close cXm_close 3 (some .int)) ∈ wsG := wsG_of (List.mem_append_right _ (List.mem_append_right _ (List.mem_append_right _ (List.mem_append_right _ (List.mem_of_getElem? (i := 47) rfl))))) (by decide +kernel)
set_option maxRecDepth 20000 in
theorem wt_768 : (Cond.methodLink "ServiceThreadsLaw" 107 yXm_unit) ∈ wsG := wsG_of (List.mem_append_right _ (List.mem_append_right _ (List.mem_append_right _ (List.mem_append_right _ (List.mem_of_getElem? (i := 48) rfl))))) (by decide +kernel)
set_option maxRecDepth 20000 in
theorem wt_769 : (Cond.instanceMethod yXm_unit) ∈ wsG := wsG_of (List.mem_append_right _ (List.mem_append_right _ (List.mem_append_right _ (List.mem_append_right _ (List.mem_of_getElem? (i := 49) rfl))))) (by decide +kernel)
set_option maxRecDepth 20000 in
theorem wt_770 : (Cond.selects "ServiceThreadsModel" yXm_unit yXm_unit) ∈ wsG := wsG_of (List.mem_append_right _ (List.mem_append_right _ (List.mem_append_right _ (List.mem_append_right _ (List.mem_of_getElem? (i := 50) rfl))))) (by decide +kernel)
set_option maxRecDepth 20000 in
theorem wt_771 : (Cond.code yXm_unit cXm_unit 3 (some .int)) ∈ wsG := wsG_of (List.mem_append_right _ (List.mem_append_right _ (List.mem_append_right _ (List.mem_append_right _ (List.mem_of_getElem? (i := 51) rfl))))) (by decide +kernel)
set_option maxRecDepth 20000 in
theorem wt_772 : (Cond.methodLink "ServiceThreadsLaw" 110 yXm_callAt) ∈ wsG := wsG_of (List.mem_append_right _ (List.mem_append_right _ (List.mem_append_right _ (List.mem_append_right _ (List.mem_of_getElem? (i := 52) rfl))))) (by decide +kernel)
set_option maxRecDepth 20000 in
theorem wt_773 : (Cond.instanceMethod yXm_callAt) ∈ wsG := wsG_of (List.mem_append_right _ (List.mem_append_right _ (List.mem_append_right _ (List.mem_append_right _ (List.mem_of_getElem? (i := 53) rfl))))) (by decide +kernel)
set_option maxRecDepth 20000 in
theorem wt_774 : (Cond.selects "ServiceThreadsModel" yXm_callAt yXm_callAt) ∈ wsG := wsG_of (List.mem_append_right _ (List.mem_append_right _ (List.mem_append_right _ (List.mem_append_right _ (List.mem_of_getElem? (i := 54) rfl))))) (by decide +kernel)
set_option maxRecDepth 20000 in
theorem wt_775 : (Cond.code yXm_callAt cXm_callAt 3 (some .int)) ∈ wsG := wsG_of (List.mem_append_right _ (List.mem_append_right _ (List.mem_append_right _ (List.mem_append_right _ (List.mem_of_getElem? (i := 55) rfl))))) (by decide +kernel)
set_option maxRecDepth 20000 in
theorem wt_776 : (Cond.methodLink "ServiceThreadsLaw" 113 yXm_thread) ∈ wsG := wsG_of (List.mem_append_right _ (List.mem_append_right _ (List.mem_append_right _ (List.mem_append_right _ (List.mem_of_getElem? (i := 56) rfl))))) (by decide +kernel)
set_option maxRecDepth 20000 in
theorem wt_777 : (Cond.instanceMethod yXm_thread) ∈ wsG := wsG_of (List.mem_append_right _ (List.mem_append_right _ (List.mem_append_right _ (List.mem_append_right _ (List.mem_of_getElem? (i := 57) rfl))))) (by decide +kernel)
set_option maxRecDepth 20000 in
theorem wt_778 : (Cond.selects "ServiceThreadsModel" yXm_thread yXm_thread) ∈ wsG := wsG_of (List.mem_append_right _ (List.mem_append_right _ (List.mem_append_right _ (List.mem_append_right _ (List.mem_of_getElem? (i := 58) rfl))))) (by decide +kernel)
set_option maxRecDepth 20000 in
theorem wt_779 : (Cond.code yXm_thread cXm_thread 5 (some .int)) ∈ wsG := wsG_of (List.mem_append_right _ (List.mem_append_right _ (List.mem_append_right _ (List.mem_append_right _ (List.mem_of_getElem? (i := 59) rfl))))) (by decide +kernel)
set_option maxRecDepth 20000 in
theorem wt_780 : (Cond.methodLink "ServiceThreadsLaw" 116 yXm_row) ∈ wsG := wsG_of (List.mem_append_right _ (List.mem_append_right _ (List.mem_append_right _ (List.mem_append_right _ (List.mem_of_getElem? (i := 60) rfl))))) (by decide +kernel)
set_option maxRecDepth 20000 in
theorem wt_781 : (Cond.instanceMethod yXm_row) ∈ wsG := wsG_of (List.mem_append_right _ (List.mem_append_right _ (List.mem_append_right _ (List.mem_append_right _ (List.mem_of_getElem? (i := 61) rfl))))) (by decide +kernel)
set_option maxRecDepth 20000 in
theorem wt_782 : (Cond.selects "ServiceThreadsModel" yXm_row yXm_row) ∈ wsG := wsG_of (List.mem_append_right _ (List.mem_append_right _ (List.mem_append_right _ (List.mem_append_right _ (List.mem_of_getElem? (i := 62) rfl))))) (by decide +kernel)
set_option maxRecDepth 20000 in
theorem wt_783 : (Cond.code yXm_row cXm_row 3 (some .int)) ∈ wsG := wsG_of (List.mem_append_right _ (List.mem_append_right _ (List.mem_append_right _ (List.mem_append_right _ (List.mem_of_getElem? (i := 63) rfl))))) (by decide +kernel)
set_option maxRecDepth 20000 in
theorem wt_784 : (Cond.methodLink "ServiceThreadsLaw" 119 yXm_count) ∈ wsG := wsG_of (List.mem_append_right _ (List.mem_append_right _ (List.mem_append_right _ (List.mem_append_right _ (List.mem_of_getElem? (i := 64) rfl))))) (by decide +kernel)
set_option maxRecDepth 20000 in
theorem wt_785 : (Cond.instanceMethod yXm_count) ∈ wsG := wsG_of (List.mem_append_right _ (List.mem_append_right _ (List.mem_append_right _ (List.mem_append_right _ (List.mem_of_getElem? (i := 65) rfl))))) (by decide +kernel)
set_option maxRecDepth 20000 in
theorem wt_786 : (Cond.selects "ServiceThreadsModel" yXm_count yXm_count) ∈ wsG := wsG_of (List.mem_append_right _ (List.mem_append_right _ (List.mem_append_right _ (List.mem_append_right _ (List.mem_of_getElem? (i := 66) rfl))))) (by decide +kernel)
set_option maxRecDepth 20000 in
theorem wt_787 : (Cond.code yXm_count cXm_count 7 (some .int)) ∈ wsG := wsG_of (List.mem_append_right _ (List.mem_append_right _ (List.mem_append_right _ (List.mem_append_right _ (List.mem_of_getElem? (i := 67) rfl))))) (by decide +kernel)
set_option maxRecDepth 20000 in
theorem wt_788 : (Cond.constantLong "ServiceThreadsLaw" 83 (4294967295 : Int64)) ∈ wsG := wsG_of (List.mem_append_right _ (List.mem_append_right _ (List.mem_append_right _ (List.mem_append_right _ (List.mem_of_getElem? (i := 68) rfl))))) (by decide +kernel)
set_option maxRecDepth 20000 in
theorem wt_789 : (Cond.arrayClass .long) ∈ wsG := wsG_of (List.mem_append_right _ (List.mem_append_right _ (List.mem_append_right _ (List.mem_append_right _ (List.mem_of_getElem? (i := 69) rfl))))) (by decide +kernel)
set_option maxRecDepth 20000 in
theorem ws_0 : Cond.selects "ServiceThreads" yXs_end yXs_end ∈ wsG := wsG_of (List.mem_append_left _ (List.mem_of_getElem? (i := 0) rfl)) (by decide +kernel)
set_option maxRecDepth 20000 in
theorem ws_2 : Cond.selects "ServiceThreads" yXs_requireNoTurnYet yXs_requireNoTurnYet ∈ wsG := wsG_of (List.mem_append_left _ (List.mem_of_getElem? (i := 2) rfl)) (by decide +kernel)
set_option maxRecDepth 20000 in
theorem ws_3 : Cond.selects "ServiceThreads" yXs_interruptResting yXs_interruptResting ∈ wsG := wsG_of (List.mem_append_left _ (List.mem_of_getElem? (i := 3) rfl)) (by decide +kernel)
set_option maxRecDepth 20000 in
theorem ws_4 : Cond.selects "ServiceThreads" yXs_requireRunning yXs_requireRunning ∈ wsG := wsG_of (List.mem_append_left _ (List.mem_of_getElem? (i := 4) rfl)) (by decide +kernel)
set_option maxRecDepth 20000 in
theorem ws_5 : Cond.selects "ServiceThreads" yXs_takeTurn yXs_takeTurn ∈ wsG := wsG_of (List.mem_append_left _ (List.mem_of_getElem? (i := 5) rfl)) (by decide +kernel)
set_option maxRecDepth 20000 in
theorem ws_6 : Cond.selects "ServiceThreads" yXs_freeLocksThatAreDue yXs_freeLocksThatAreDue ∈ wsG := wsG_of (List.mem_append_left _ (List.mem_of_getElem? (i := 6) rfl)) (by decide +kernel)
set_option maxRecDepth 20000 in
theorem ws_7 : Cond.selects "ServiceThreads" yXs_perform yXs_perform ∈ wsG := wsG_of (List.mem_append_left _ (List.mem_of_getElem? (i := 7) rfl)) (by decide +kernel)
set_option maxRecDepth 20000 in
theorem ws_8 : Cond.selects "ServiceThreads" yXs_lockUnit yXs_lockUnit ∈ wsG := wsG_of (List.mem_append_left _ (List.mem_of_getElem? (i := 8) rfl)) (by decide +kernel)
set_option maxRecDepth 20000 in
theorem ws_9 : Cond.selects "ServiceThreads" yXs_freeUnit yXs_freeUnit ∈ wsG := wsG_of (List.mem_append_left _ (List.mem_of_getElem? (i := 9) rfl)) (by decide +kernel)
set_option maxRecDepth 20000 in
theorem ws_10 : Cond.selects "ServiceThreads" yXs_takeCall yXs_takeCall ∈ wsG := wsG_of (List.mem_append_left _ (List.mem_of_getElem? (i := 10) rfl)) (by decide +kernel)
set_option maxRecDepth 20000 in
theorem ws_11 : Cond.selects "ServiceThreads" yXs_sendUnit yXs_sendUnit ∈ wsG := wsG_of (List.mem_append_left _ (List.mem_of_getElem? (i := 11) rfl)) (by decide +kernel)
set_option maxRecDepth 20000 in
theorem ws_12 : Cond.selects "ServiceThreads" yXs_closeCall yXs_closeCall ∈ wsG := wsG_of (List.mem_append_left _ (List.mem_of_getElem? (i := 12) rfl)) (by decide +kernel)
set_option maxRecDepth 20000 in
theorem ws_13 : Cond.selects "ServiceThreads" yXs_rest yXs_rest ∈ wsG := wsG_of (List.mem_append_left _ (List.mem_of_getElem? (i := 13) rfl)) (by decide +kernel)
set_option maxRecDepth 20000 in
theorem ws_14 : Cond.selects "ServiceThreads" yXs_fault yXs_fault ∈ wsG := wsG_of (List.mem_append_left _ (List.mem_of_getElem? (i := 14) rfl)) (by decide +kernel)
set_option maxRecDepth 20000 in
theorem ws_15 : Cond.selects "ServiceThreads" yXs_nextRunningBehind yXs_nextRunningBehind ∈ wsG := wsG_of (List.mem_append_left _ (List.mem_of_getElem? (i := 15) rfl)) (by decide +kernel)
set_option maxRecDepth 20000 in
theorem ws_16 : Cond.selects "ServiceThreads" yXs_runsWithActs yXs_runsWithActs ∈ wsG := wsG_of (List.mem_append_left _ (List.mem_of_getElem? (i := 16) rfl)) (by decide +kernel)
set_option maxRecDepth 20000 in
theorem ws_17 : Cond.selects "ServiceThreads" yXs_runningWithActs yXs_runningWithActs ∈ wsG := wsG_of (List.mem_append_left _ (List.mem_of_getElem? (i := 17) rfl)) (by decide +kernel)
set_option maxRecDepth 20000 in
theorem ws_18 : Cond.selects "ServiceThreadsModel" yXm_hasBegun yXm_hasBegun ∈ wsG := wsG_of (List.mem_append_left _ (List.mem_of_getElem? (i := 18) rfl)) (by decide +kernel)
set_option maxRecDepth 20000 in
theorem ws_19 : Cond.selects "ServiceThreadsModel" yXm_throwing yXm_throwing ∈ wsG := wsG_of (List.mem_append_left _ (List.mem_of_getElem? (i := 19) rfl)) (by decide +kernel)
set_option maxRecDepth 20000 in
theorem ws_20 : Cond.selects "ServiceThreadsModel" yXm_turn yXm_turn ∈ wsG := wsG_of (List.mem_append_left _ (List.mem_of_getElem? (i := 20) rfl)) (by decide +kernel)
set_option maxRecDepth 20000 in
theorem ws_21 : Cond.selects "ServiceThreadsModel" yXm_free yXm_free ∈ wsG := wsG_of (List.mem_append_left _ (List.mem_of_getElem? (i := 21) rfl)) (by decide +kernel)
set_option maxRecDepth 20000 in
theorem ws_22 : Cond.selects "ServiceThreadsModel" yXm_end yXm_end ∈ wsG := wsG_of (List.mem_append_left _ (List.mem_of_getElem? (i := 22) rfl)) (by decide +kernel)
set_option maxRecDepth 20000 in
theorem ws_23 : Cond.selects "ServiceThreadsModel" yXm_lock yXm_lock ∈ wsG := wsG_of (List.mem_append_left _ (List.mem_of_getElem? (i := 23) rfl)) (by decide +kernel)
set_option maxRecDepth 20000 in
theorem ws_24 : Cond.selects "ServiceThreadsModel" yXm_fail yXm_fail ∈ wsG := wsG_of (List.mem_append_left _ (List.mem_of_getElem? (i := 24) rfl)) (by decide +kernel)
set_option maxRecDepth 20000 in
theorem ws_25 : Cond.selects "ServiceThreadsModel" yXm_tell yXm_tell ∈ wsG := wsG_of (List.mem_append_left _ (List.mem_of_getElem? (i := 25) rfl)) (by decide +kernel)
set_option maxRecDepth 20000 in
theorem ws_26 : Cond.selects "ServiceThreadsModel" yXm_drop yXm_drop ∈ wsG := wsG_of (List.mem_append_left _ (List.mem_of_getElem? (i := 26) rfl)) (by decide +kernel)
set_option maxRecDepth 20000 in
theorem ws_27 : Cond.selects "ServiceThreadsModel" yXm_hasAbove yXm_hasAbove ∈ wsG := wsG_of (List.mem_append_left _ (List.mem_of_getElem? (i := 27) rfl)) (by decide +kernel)
set_option maxRecDepth 20000 in
theorem ws_28 : Cond.selects "ServiceThreadsModel" yXm_done yXm_done ∈ wsG := wsG_of (List.mem_append_left _ (List.mem_of_getElem? (i := 28) rfl)) (by decide +kernel)
set_option maxRecDepth 20000 in
theorem ws_29 : Cond.selects "ServiceThreadsModel" yXm_unlock yXm_unlock ∈ wsG := wsG_of (List.mem_append_left _ (List.mem_of_getElem? (i := 29) rfl)) (by decide +kernel)
set_option maxRecDepth 20000 in
theorem ws_30 : Cond.selects "ServiceThreadsModel" yXm_take yXm_take ∈ wsG := wsG_of (List.mem_append_left _ (List.mem_of_getElem? (i := 30) rfl)) (by decide +kernel)
set_option maxRecDepth 20000 in
theorem ws_31 : Cond.selects "ServiceThreadsModel" yXm_send yXm_send ∈ wsG := wsG_of (List.mem_append_left _ (List.mem_of_getElem? (i := 31) rfl)) (by decide +kernel)
set_option maxRecDepth 20000 in
theorem ws_32 : Cond.selects "ServiceThreadsModel" yXm_isOwn yXm_isOwn ∈ wsG := wsG_of (List.mem_append_left _ (List.mem_of_getElem? (i := 32) rfl)) (by decide +kernel)
set_option maxRecDepth 20000 in
theorem ws_33 : Cond.selects "ServiceThreadsModel" yXm_shut yXm_shut ∈ wsG := wsG_of (List.mem_append_left _ (List.mem_of_getElem? (i := 33) rfl)) (by decide +kernel)
set_option maxRecDepth 20000 in
theorem ws_34 : Cond.selects "ServiceThreadsModel" yXm_rest yXm_rest ∈ wsG := wsG_of (List.mem_append_left _ (List.mem_of_getElem? (i := 34) rfl)) (by decide +kernel)
set_option maxRecDepth 20000 in
theorem ws_35 : Cond.selects "ServiceThreadsModel" yXm_heir yXm_heir ∈ wsG := wsG_of (List.mem_append_left _ (List.mem_of_getElem? (i := 35) rfl)) (by decide +kernel)
