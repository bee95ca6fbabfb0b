def wpXc_isFull (M : Mm) (post : Int32 → Mm → Prop) : Prop := ∀ y_1 : Int32, y_1 = M 22 0 → (((y_1 < 16 → (post 0 M)) ∧ (¬ y_1 < 16 → (post 1 M))))
set_option maxHeartbeats 4000000 in
set_option maxRecDepth 100000 in
theorem mtXc_isFull (l : Launch) (dC : Nat → ClassId) (dI : Nat → Nat → Nat) (q : Nat → Nat) (dA : Nat → ClassId) (sz : Nat) (M : Mm) (post : Int32 → Mm → Prop) (hw : wpXc_isFull M post) : Met l yXc_isFull (wsA yXc_isFull cXc_isFull 1 (some .boolean)) ({ frames := 0, cells := 0, slots := 0, locals := 0 }) (va_Pc [.ref (q 3)] (pW (dC, dI) vwCl (wX q dA) (tX dA) sz M)) (va_Qi post (bW (dC, dI) vwCl (wX q dA) (tX dA) (va_A (wX q dA M) sz)) (va_A (wX q dA M) sz)) 0 0 (va_A (wX q dA M) sz) := by
  refine Met.ofW (cc := cXc_isFull) (maxL := 1) (ret := (some .boolean)) (by decide) rfl ?_
  intro p e s m args below meth c s₁ B hml hv
  obtain ⟨rfl, hsz, hP, hK, hD0⟩ := hv
  have hx := B.exec
  have hb := B.bytes
  have hr := B.returns
  have hts := atoms_spec (ws := (wsA yXc_isFull cXc_isFull 1 (some .boolean))) B.pre
  have hta : ∀ w ∈ wsG, w.before _ s = true := fun w h => hts w (List.mem_cons_of_mem _ h)
  have hown : s.vm.findClass "ServiceThreads$Calls" = some m.cls := findClass_of_methodNamed B.named
  have hlocks := B.notSynchronized
  subst hsz
  have hD := hD0.self (sz := s.heap.size)
  generalize hAe : va_A (wX q dA M) s.heap.size = A at hD ⊢
  have hA : ∀ q : Nat, s.heap.size ≤ q → A q := fun q h => by rw [← hAe]; exact Or.inr h
  have hS : va_S A s.heap s.heap [] := va_S.rf
  dsimp only [wpXc_isFull] at hw
  have hl := lv_entry ([.ref (q 3)]) (n := 1) (Nat.le_of_ble_eq_true rfl)
  rw [lg_entry_eq]
  generalize (lg_sl ([.ref (q 3)]) ++ List.replicate (1 - (lg_sl ([.ref (q 3)])).length) Slot.unset).toArray = ls at hl ⊢
  have hl : lv_has ls 1 [(0, .ref (q 3))] := hl
  refine lv_aload_n hx hb dXc_isFull_0 rfl (lv_at hl 0 rfl) ?_
  refine va_get (D := (dC, dI)) (ci := 3) (v := .int (M 22 0)) (C := "ServiceThreads$Calls") (T := TXc) (N := 5) hx hb hta inXc hown hK hP 3 (wX_3 q dA M) rfl 4 (by decide) (hta _ wt_78) (fun _ h9 => h9) rfl dXc_isFull_1 ?_
  refine lv_topi (fun y_1 ey_1 => ?_)
  have hw := hw y_1 ey_1
  refine lv_bipush (v := 16) hx hb dXc_isFull_4 (by decide) ?_
  refine lv_icmp_lt (tgt := 13) hx hb dXc_isFull_6 (by decide) (fun c_2 => ?_) (fun c_2 => ?_)
  · have hw := hw.1 c_2
    refine lv_iconst (v := 0) hx hb dXc_isFull_13 (by decide) ?_
    exact W.zret (v := 0) hx hb hr (by decide) (fun t ht hW => ⟨⟨0, M, rfl, hw, by rw [ht]; exact hP, va_K.moved hW.alike hK, hD⟩, hS.F ht⟩) hS.2.2 dXc_isFull_14 hlocks
  · have hw := hw.2 c_2
    refine lv_iconst (v := 1) hx hb dXc_isFull_9 (by decide) ?_
    refine lv_goto (tgt := 14) hx hb dXc_isFull_10 (by decide) ?_
    exact W.zret (v := 1) hx hb hr (by decide) (fun t ht hW => ⟨⟨1, M, rfl, hw, by rw [ht]; exact hP, va_K.moved hW.alike hK, hD⟩, hS.F ht⟩) hS.2.2 dXc_isFull_14 hlocks
def wpXc_isKnown (p0 : Int32) (M : Mm) (post : Int32 → Mm → Prop) : Prop := ((p0 < 0 → (post 0 M)) ∧ (¬ p0 < 0 → (∀ y_2 : Int32, y_2 = M 22 0 → (((y_2 ≤ p0 → (post 0 M)) ∧ (¬ y_2 ≤ p0 → (post 1 M)))))))
set_option maxHeartbeats 4000000 in
set_option maxRecDepth 100000 in
theorem mtXc_isKnown (l : Launch) (dC : Nat → ClassId) (dI : Nat → Nat → Nat) (q : Nat → Nat) (dA : Nat → ClassId) (sz : Nat) (p0 : Int32) (M : Mm) (post : Int32 → Mm → Prop) (hw : wpXc_isKnown p0 M post) : Met l yXc_isKnown (wsA yXc_isKnown cXc_isKnown 2 (some .boolean)) ({ frames := 0, cells := 0, slots := 0, locals := 0 }) (va_Pc [.ref (q 3), .int p0] (pW (dC, dI) vwCl (wX q dA) (tX dA) sz M)) (va_Qi post (bW (dC, dI) vwCl (wX q dA) (tX dA) (va_A (wX q dA M) sz)) (va_A (wX q dA M) sz)) 0 0 (va_A (wX q dA M) sz) := by
  refine Met.ofW (cc := cXc_isKnown) (maxL := 2) (ret := (some .boolean)) (by decide) rfl ?_
  intro p e s m args below meth c s₁ B hml hv
  obtain ⟨rfl, hsz, hP, hK, hD0⟩ := hv
  have hx := B.exec
  have hb := B.bytes
  have hr := B.returns
  have hts := atoms_spec (ws := (wsA yXc_isKnown cXc_isKnown 2 (some .boolean))) B.pre
  have hta : ∀ w ∈ wsG, w.before _ s = true := fun w h => hts w (List.mem_cons_of_mem _ h)
  have hown : s.vm.findClass "ServiceThreads$Calls" = some m.cls := findClass_of_methodNamed B.named
  have hlocks := B.notSynchronized
  subst hsz
  have hD := hD0.self (sz := s.heap.size)
  generalize hAe : va_A (wX q dA M) s.heap.size = A at hD ⊢
  have hA : ∀ q : Nat, s.heap.size ≤ q → A q := fun q h => by rw [← hAe]; exact Or.inr h
  have hS : va_S A s.heap s.heap [] := va_S.rf
  dsimp only [wpXc_isKnown] at hw
  have hl := lv_entry ([.ref (q 3), .int p0]) (n := 2) (Nat.le_of_ble_eq_true rfl)
  rw [lg_entry_eq]
  generalize (lg_sl ([.ref (q 3), .int p0]) ++ List.replicate (2 - (lg_sl ([.ref (q 3), .int p0])).length) Slot.unset).toArray = ls at hl ⊢
  have hl : lv_has ls 2 [(0, .ref (q 3)), (1, .int p0)] := hl
  refine lv_iload_n hx hb dXc_isKnown_0 rfl (lv_at hl 1 rfl) ?_
  refine lv_if_lt (tgt := 16) hx hb dXc_isKnown_1 (by decide) (fun c_1 => ?_) (fun c_1 => ?_)
  · have hw := hw.1 c_1
    refine lv_iconst (v := 0) hx hb dXc_isKnown_16 (by decide) ?_
    exact W.zret (v := 0) hx hb hr (by decide) (fun t ht hW => ⟨⟨0, M, rfl, hw, by rw [ht]; exact hP, va_K.moved hW.alike hK, hD⟩, hS.F ht⟩) hS.2.2 dXc_isKnown_17 hlocks
  · have hw := hw.2 c_1
    refine lv_iload_n hx hb dXc_isKnown_4 rfl (lv_at hl 1 rfl) ?_
    refine lv_aload_n hx hb dXc_isKnown_5 rfl (lv_at hl 0 rfl) ?_
    refine va_get (D := (dC, dI)) (ci := 3) (v := .int (M 22 0)) (C := "ServiceThreads$Calls") (T := TXc) (N := 5) hx hb hta inXc hown hK hP 3 (wX_3 q dA M) rfl 4 (by decide) (hta _ wt_78) (fun _ h9 => h9) rfl dXc_isKnown_6 ?_
    refine lv_topi (fun y_2 ey_2 => ?_)
    have hw := hw y_2 ey_2
    refine lv_icmp_ge (tgt := 16) hx hb dXc_isKnown_9 (by decide) (fun c_3 => ?_) (fun c_3 => ?_)
    · have hw := hw.1 c_3
      refine lv_iconst (v := 0) hx hb dXc_isKnown_16 (by decide) ?_
      exact W.zret (v := 0) hx hb hr (by decide) (fun t ht hW => ⟨⟨0, M, rfl, hw, by rw [ht]; exact hP, va_K.moved hW.alike hK, hD⟩, hS.F ht⟩) hS.2.2 dXc_isKnown_17 hlocks
    · have hw := hw.2 c_3
      refine lv_iconst (v := 1) hx hb dXc_isKnown_12 (by decide) ?_
      refine lv_goto (tgt := 17) hx hb dXc_isKnown_13 (by decide) ?_
      exact W.zret (v := 1) hx hb hr (by decide) (fun t ht hW => ⟨⟨1, M, rfl, hw, by rw [ht]; exact hP, va_K.moved hW.alike hK, hD⟩, hS.F ht⟩) hS.2.2 dXc_isKnown_17 hlocks
def wpXc_isOpenOf (p0 : Int32) (p1 : Int32) (M : Mm) (post : Int32 → Mm → Prop) : Prop := wpXc_isKnown p0 M (fun r_1 M_2 => (((r_1 = 0 → (post 0 M_2)) ∧ (¬ r_1 = 0 → (vp_in p0 16 ∧ (∀ y_5 : Int32, y_5 = M_2 9 p0.toNatClampNeg → (((y_5 = 0 → (post 0 M_2)) ∧ (¬ y_5 = 0 → (vp_in p0 16 ∧ (∀ y_8 : Int32, y_8 = M_2 7 p0.toNatClampNeg → (((y_8 = p1 → (post 1 M_2)) ∧ (¬ y_8 = p1 → (post 0 M_2)))))))))))))))
set_option maxHeartbeats 4000000 in
set_option maxRecDepth 100000 in
theorem mtXc_isOpenOf (l : Launch) (dC : Nat → ClassId) (dI : Nat → Nat → Nat) (q : Nat → Nat) (dA : Nat → ClassId) (sz : Nat) (p0 : Int32) (p1 : Int32) (M : Mm) (post : Int32 → Mm → Prop) (hw : wpXc_isOpenOf p0 p1 M post) : Met l yXc_isOpenOf (wsA yXc_isOpenOf cXc_isOpenOf 3 (some .boolean)) ({ frames := 1, cells := 0, slots := 0, locals := 21 }) (va_Pc [.ref (q 3), .int p0, .int p1] (pW (dC, dI) vwCl (wX q dA) (tX dA) sz M)) (va_Qi post (bW (dC, dI) vwCl (wX q dA) (tX dA) (va_A (wX q dA M) sz)) (va_A (wX q dA M) sz)) 0 0 (va_A (wX q dA M) sz) := by
  refine Met.ofW (cc := cXc_isOpenOf) (maxL := 3) (ret := (some .boolean)) (by decide) rfl ?_
  intro p e s m args below meth c s₁ B hml hv
  obtain ⟨rfl, hsz, hP, hK, hD0⟩ := hv
  have hx := B.exec
  have hb := B.bytes
  have hr := B.returns
  have hts := atoms_spec (ws := (wsA yXc_isOpenOf cXc_isOpenOf 3 (some .boolean))) B.pre
  have hta : ∀ w ∈ wsG, w.before _ s = true := fun w h => hts w (List.mem_cons_of_mem _ h)
  have hown : s.vm.findClass "ServiceThreads$Calls" = some m.cls := findClass_of_methodNamed B.named
  have hlocks := B.notSynchronized
  subst hsz
  have hD := hD0.self (sz := s.heap.size)
  generalize hAe : va_A (wX q dA M) s.heap.size = A at hD ⊢
  have hA : ∀ q : Nat, s.heap.size ≤ q → A q := fun q h => by rw [← hAe]; exact Or.inr h
  have hS : va_S A s.heap s.heap [] := va_S.rf
  dsimp only [wpXc_isOpenOf] at hw
  have hl := lv_entry ([.ref (q 3), .int p0, .int p1]) (n := 3) (Nat.le_of_ble_eq_true rfl)
  rw [lg_entry_eq]
  generalize (lg_sl ([.ref (q 3), .int p0, .int p1]) ++ List.replicate (3 - (lg_sl ([.ref (q 3), .int p0, .int p1])).length) Slot.unset).toArray = ls at hl ⊢
  have hl : lv_has ls 3 [(0, .ref (q 3)), (1, .int p0), (2, .int p1)] := hl
  refine lv_aload_n hx hb dXc_isOpenOf_0 rfl (lv_at hl 0 rfl) ?_
  refine lv_iload_n hx hb dXc_isOpenOf_1 rfl (lv_at hl 1 rfl) ?_
  refine cn_i (w := (wX q dA)) (M := M) (wX_ad q dA) (va_runV (As := [.int p0]) (rest := []) ⟨hx, hb, hml, hown, hta⟩ (mtXc_isKnown l dC dI q dA s.heap.size p0 M _ hw) (cwV 1 hta (giV wt_181 wt_182 wt_183 wt_5 wt_184) rfl rfl rfl (by decide +kernel) ⟨Nat.le_of_ble_eq_true rfl, Nat.le_of_ble_eq_true rfl⟩) ⟨pW_blind, va_recv hK hP (ci := 3) (q0 := 3) rfl (wX_3 q dA M), pW_of hK hP hD⟩ rfl rfl hl.1 rfl (lv_room (Nat.le_of_ble_eq_true rfl)) dXc_isOpenOf_2 ⟨Nat.le_of_ble_eq_true rfl, Nat.le_of_ble_eq_true rfl⟩) hD hS hA (fun r_1 M_2 H locs hw hP hD hS => ?_)
  refine lv_if_eq (tgt := 31) hx hb dXc_isOpenOf_5 (by decide) (fun c_3 => ?_) (fun c_3 => ?_)
  · have hw := hw.1 c_3
    refine lv_iconst (v := 0) hx hb dXc_isOpenOf_31 (by decide) ?_
    exact W.zret (v := 0) hx hb hr (by decide) (fun t ht hW => ⟨⟨0, M_2, rfl, hw, by rw [ht]; exact hP, va_K.moved hW.alike hK, hD⟩, hS.F ht⟩) hS.2.2 dXc_isOpenOf_32 hlocks
  · have hw := hw.2 c_3
    refine lv_aload_n hx hb dXc_isOpenOf_8 rfl (lv_at hl 0 rfl) ?_
    refine va_get (D := (dC, dI)) (ci := 3) (v := .ref (q 14)) (C := "ServiceThreads$Calls") (T := TXc) (N := 5) hx hb hta inXc hown hK hP 3 (wX_3 q dA M_2) rfl 3 (by decide) (hta _ wt_76) (fun _ h9 => h9) rfl dXc_isOpenOf_9 ?_
    refine lv_iload_n hx hb dXc_isOpenOf_12 rfl (lv_at hl 1 rfl) ?_
    obtain ⟨h_4, hw⟩ := hw
    refine ro_z (w := (wX q dA)) (M := M_2) hx hb hK hP 14 9 (wX_14 q dA M_2) rfl h_4 dXc_isOpenOf_13 (fun y_5 ey_5 => ?_)
    have hw := hw y_5 ey_5
    refine lv_if_eq (tgt := 31) hx hb dXc_isOpenOf_14 (by decide) (fun c_6 => ?_) (fun c_6 => ?_)
    · have hw := hw.1 c_6
      refine lv_iconst (v := 0) hx hb dXc_isOpenOf_31 (by decide) ?_
      exact W.zret (v := 0) hx hb hr (by decide) (fun t ht hW => ⟨⟨0, M_2, rfl, hw, by rw [ht]; exact hP, va_K.moved hW.alike hK, hD⟩, hS.F ht⟩) hS.2.2 dXc_isOpenOf_32 hlocks
    · have hw := hw.2 c_6
      refine lv_aload_n hx hb dXc_isOpenOf_17 rfl (lv_at hl 0 rfl) ?_
      refine va_get (D := (dC, dI)) (ci := 3) (v := .ref (q 12)) (C := "ServiceThreads$Calls") (T := TXc) (N := 5) hx hb hta inXc hown hK hP 3 (wX_3 q dA M_2) rfl 1 (by decide) (hta _ wt_72) (fun _ h9 => h9) rfl dXc_isOpenOf_18 ?_
      refine lv_iload_n hx hb dXc_isOpenOf_21 rfl (lv_at hl 1 rfl) ?_
      obtain ⟨h_7, hw⟩ := hw
      refine ro_i (w := (wX q dA)) (M := M_2) hx hb hK hP 12 7 (wX_12 q dA M_2) rfl h_7 dXc_isOpenOf_22 (fun y_8 ey_8 => ?_)
      have hw := hw y_8 ey_8
      refine lv_iload_n hx hb dXc_isOpenOf_23 rfl (lv_at hl 2 rfl) ?_
      refine lv_icmp_ne (tgt := 31) hx hb dXc_isOpenOf_24 (by decide) (fun c_9 => ?_) (fun c_9 => ?_)
      · have hw := hw.2 c_9
        refine lv_iconst (v := 0) hx hb dXc_isOpenOf_31 (by decide) ?_
        exact W.zret (v := 0) hx hb hr (by decide) (fun t ht hW => ⟨⟨0, M_2, rfl, hw, by rw [ht]; exact hP, va_K.moved hW.alike hK, hD⟩, hS.F ht⟩) hS.2.2 dXc_isOpenOf_32 hlocks
      · have hw := hw.1 c_9
        refine lv_iconst (v := 1) hx hb dXc_isOpenOf_27 (by decide) ?_
        refine lv_goto (tgt := 32) hx hb dXc_isOpenOf_28 (by decide) ?_
        exact W.zret (v := 1) hx hb hr (by decide) (fun t ht hW => ⟨⟨1, M_2, rfl, hw, by rw [ht]; exact hP, va_K.moved hW.alike hK, hD⟩, hS.F ht⟩) hS.2.2 dXc_isOpenOf_32 hlocks
def wlXc_highestOpenRankOf_4 (post : Int32 → Mm → Prop) : Nat → Int32 → Int32 → Int32 → Mm → Prop
  | 0, _, _, _ => fun _ => False
  | n4 + 1, x1, x2, x3 => fun M => ∀ y_1 : Int32, y_1 = M 22 0 → (((y_1 ≤ x3 → (post x2 M)) ∧ (¬ y_1 ≤ x3 → (wpXc_isOpenOf x3 x1 M (fun r_3 M_4 => (((r_3 = 0 → (∀ x3_6 : Int32, x3_6 = x3 + 1 → (wlXc_highestOpenRankOf_4 post n4 x1 x2 x3_6 M_4))) ∧ (¬ r_3 = 0 → (vp_in x3 16 ∧ (∀ y_8 : Int32, y_8 = M_4 6 x3.toNatClampNeg → (∀ y_9 : Int32, y_9 = (if x2 < y_8 then y_8 else x2) → (∀ x3_10 : Int32, x3_10 = x3 + 1 → (wlXc_highestOpenRankOf_4 post n4 x1 y_9 x3_10 M_4)))))))))))))
def wpXc_highestOpenRankOf (p0 : Int32) (M : Mm) (post : Int32 → Mm → Prop) : Prop := ∃ n4 : Nat, wlXc_highestOpenRankOf_4 post n4 p0 (-1) 0 M
set_option maxHeartbeats 4000000 in
set_option maxRecDepth 100000 in
theorem LwlXc_highestOpenRankOf_4 {p : Program} {l : Launch} {e : Env} {s : State} {m : MethodId} {below : List Frame} {meth : Method} {c : Code} {dC : Nat → ClassId} {dI : Nat → Nat → Nat} {q : Nat → Nat} {dA : Nat → ClassId} {A : Nat → Prop} {av : List Value} {post : Int32 → Mm → Prop} (CX : p.tables.exec = Jvm.exec ∧ c.code = cXc_highestOpenRankOf ∧ meth.sig.returnType = (some .int) ∧ c.maxLocals = 4 ∧ s.vm.findClass "ServiceThreads$Calls" = some m.cls ∧ (∀ w ∈ wsG, w.before av.toArray s = true) ∧ (∀ q : Nat, s.heap.size ≤ q → A q) ∧ va_K (dC, dI) vwCl (tX dA) s ∧ meth.locks = false) : ∀ (n4 : Nat) (x1 : Int32) (x2 : Int32) (x3 : Int32) (M : Mm) (H : Heap) (locs : List Loc) (ls : Array Slot), wlXc_highestOpenRankOf_4 post n4 x1 x2 x3 M → va_P (dC, dI) vwCl (wX q dA M) H → va_D A (wX q dA M) → va_S A s.heap H locs → lv_has ls 4 [(0, .ref (q 3)), (1, .int x1), (2, .int x2), (3, .int x3)] → W p l e (headSpec (wsA yXc_highestOpenRankOf cXc_highestOpenRankOf 4 (some .int)) ({ frames := 2, cells := 0, slots := 0, locals := 43 })).room s m av.toArray below meth c H locs 0 0 (MQ below (va_Qi post (bW (dC, dI) vwCl (wX q dA) (tX dA) A) A) av.toArray s 0 0 A) (F0 m 4 ls []) := by
  obtain ⟨hx, hb, hr, hml, hown, hta, hA, hK, hlocks⟩ := CX
  intro n4
  induction n4 with
  | zero =>
    intro x1 x2 x3 M H locs ls hw
    exact False.elim hw
  | succ n4 ih4 =>
    intro x1 x2 x3 M H locs ls hw hP hD hS hl
    dsimp only [wlXc_highestOpenRankOf_4] at hw
    refine lv_iload_n hx hb dXc_highestOpenRankOf_4 rfl (lv_at hl 3 rfl) ?_
    refine lv_aload_n hx hb dXc_highestOpenRankOf_5 rfl (lv_at hl 0 rfl) ?_
    refine va_get (D := (dC, dI)) (ci := 3) (v := .int (M 22 0)) (C := "ServiceThreads$Calls") (T := TXc) (N := 5) hx hb hta inXc hown hK hP 3 (wX_3 q dA M) rfl 4 (by decide) (hta _ wt_78) (fun _ h9 => h9) rfl dXc_highestOpenRankOf_6 ?_
    refine lv_topi (fun y_1 ey_1 => ?_)
    have hw := hw y_1 ey_1
    refine lv_icmp_ge (tgt := 38) hx hb dXc_highestOpenRankOf_9 (by decide) (fun c_2 => ?_) (fun c_2 => ?_)
    · have hw := hw.1 c_2
      refine lv_iload_n hx hb dXc_highestOpenRankOf_38 rfl (lv_at hl 2 rfl) ?_
      exact W.iret (v := x2) hx hb hr (fun t ht hW => ⟨⟨x2, M, rfl, hw, by rw [ht]; exact hP, va_K.moved hW.alike hK, hD⟩, hS.F ht⟩) hS.2.2 dXc_highestOpenRankOf_39 hlocks
    · have hw := hw.2 c_2
      refine lv_aload_n hx hb dXc_highestOpenRankOf_12 rfl (lv_at hl 0 rfl) ?_
      refine lv_iload_n hx hb dXc_highestOpenRankOf_13 rfl (lv_at hl 3 rfl) ?_
      refine lv_iload_n hx hb dXc_highestOpenRankOf_14 rfl (lv_at hl 1 rfl) ?_
      refine cn_i (w := (wX q dA)) (M := M) (wX_ad q dA) (va_runV (As := [.int x3, .int x1]) (rest := []) ⟨hx, hb, hml, hown, hta⟩ (mtXc_isOpenOf l dC dI q dA H.size x3 x1 M _ hw) (cwV 2 hta (giV wt_177 wt_178 wt_179 wt_5 wt_180) rfl rfl rfl (by decide +kernel) ⟨Nat.le_of_ble_eq_true rfl, Nat.le_of_ble_eq_true rfl⟩) ⟨pW_blind, va_recv hK hP (ci := 3) (q0 := 3) rfl (wX_3 q dA M), pW_of hK hP hD⟩ rfl rfl hl.1 rfl (lv_room (Nat.le_of_ble_eq_true rfl)) dXc_highestOpenRankOf_15 ⟨Nat.le_of_ble_eq_true rfl, Nat.le_of_ble_eq_true rfl⟩) hD hS hA (fun r_3 M_4 H locs hw hP hD hS => ?_)
      refine lv_if_eq (tgt := 32) hx hb dXc_highestOpenRankOf_18 (by decide) (fun c_5 => ?_) (fun c_5 => ?_)
      · have hw := hw.1 c_5
        obtain ⟨x3_6, ex3_6⟩ : ∃ y : Int32, y = x3 + 1 := ⟨_, rfl⟩
        have hw := hw x3_6 ex3_6
        refine lv_iinc (v := x3_6) (lv' := [(3, .int x3_6), (0, .ref (q 3)), (1, .int x1), (2, .int x2)]) hx hb dXc_highestOpenRankOf_32 hl (k := 3) rfl (by rw [ex3_6]; rfl) (by decide) rfl (fun ls hl => ?_)
        refine lv_goto (tgt := 4) hx hb dXc_highestOpenRankOf_35 (by decide) ?_
        exact ih4 x1 x2 x3_6 M_4 _ _ _ hw hP hD hS (lv_sub hl [1, 2, 3, 0] rfl)
      · have hw := hw.2 c_5
        refine lv_iload_n hx hb dXc_highestOpenRankOf_21 rfl (lv_at hl 2 rfl) ?_
        refine lv_aload_n hx hb dXc_highestOpenRankOf_22 rfl (lv_at hl 0 rfl) ?_
        refine va_get (D := (dC, dI)) (ci := 3) (v := .ref (q 11)) (C := "ServiceThreads$Calls") (T := TXc) (N := 5) hx hb hta inXc hown hK hP 3 (wX_3 q dA M_4) rfl 0 (by decide) (hta _ wt_70) (fun _ h9 => h9) rfl dXc_highestOpenRankOf_23 ?_
        refine lv_iload_n hx hb dXc_highestOpenRankOf_26 rfl (lv_at hl 3 rfl) ?_
        obtain ⟨h_7, hw⟩ := hw
        refine ro_i (w := (wX q dA)) (M := M_4) hx hb hK hP 11 6 (wX_11 q dA M_4) rfl h_7 dXc_highestOpenRankOf_27 (fun y_8 ey_8 => ?_)
        have hw := hw y_8 ey_8
        refine va_mmax hx hb (hml.trans hl.1.symm) hown (hta (.methodLink "ServiceThreads$Calls" 43 Lib.Math.max.name) (wsG_of (by decide +kernel) (by decide +kernel))) (hta (.static Lib.Math.max.name) (wsG_of (by decide +kernel) (by decide +kernel))) (hta (.initialized "java/lang/Math") (wsG_of (by decide +kernel) (by decide +kernel))) (hta (.code Lib.Math.max.name Lib.Math.max.code 2 (some .int)) (wsG_of (by decide +kernel) (by decide +kernel))) (Nat.le_of_ble_eq_true rfl) (Nat.le_of_ble_eq_true rfl) (Nat.le_of_ble_eq_true rfl) (Nat.le_of_ble_eq_true rfl) dXc_highestOpenRankOf_28 ?_
        refine lv_topi (fun y_9 ey_9 => ?_)
        have hw := hw y_9 ey_9
        refine lv_istore_n (lv' := [(2, .int y_9), (0, .ref (q 3)), (1, .int x1), (3, .int x3)]) hx hb dXc_highestOpenRankOf_31 rfl hl (by decide) rfl (fun ls hl => ?_)
        obtain ⟨x3_10, ex3_10⟩ : ∃ y : Int32, y = x3 + 1 := ⟨_, rfl⟩
        have hw := hw x3_10 ex3_10
        refine lv_iinc (v := x3_10) (lv' := [(3, .int x3_10), (2, .int y_9), (0, .ref (q 3)), (1, .int x1)]) hx hb dXc_highestOpenRankOf_32 hl (k := 3) rfl (by rw [ex3_10]; rfl) (by decide) rfl (fun ls hl => ?_)
        refine lv_goto (tgt := 4) hx hb dXc_highestOpenRankOf_35 (by decide) ?_
        exact ih4 x1 y_9 x3_10 M_4 _ _ _ hw hP hD hS (lv_sub hl [2, 3, 1, 0] rfl)
set_option maxHeartbeats 4000000 in
set_option maxRecDepth 100000 in
theorem mtXc_highestOpenRankOf (l : Launch) (dC : Nat → ClassId) (dI : Nat → Nat → Nat) (q : Nat → Nat) (dA : Nat → ClassId) (sz : Nat) (p0 : Int32) (M : Mm) (post : Int32 → Mm → Prop) (hw : wpXc_highestOpenRankOf p0 M post) : Met l yXc_highestOpenRankOf (wsA yXc_highestOpenRankOf cXc_highestOpenRankOf 4 (some .int)) ({ frames := 2, cells := 0, slots := 0, locals := 43 }) (va_Pc [.ref (q 3), .int p0] (pW (dC, dI) vwCl (wX q dA) (tX dA) sz M)) (va_Qi post (bW (dC, dI) vwCl (wX q dA) (tX dA) (va_A (wX q dA M) sz)) (va_A (wX q dA M) sz)) 0 0 (va_A (wX q dA M) sz) := by
  refine Met.ofW (cc := cXc_highestOpenRankOf) (maxL := 4) (ret := (some .int)) (by decide) rfl ?_
  intro p e s m args below meth c s₁ B hml hv
  obtain ⟨rfl, hsz, hP, hK, hD0⟩ := hv
  have hx := B.exec
  have hb := B.bytes
  have hr := B.returns
  have hts := atoms_spec (ws := (wsA yXc_highestOpenRankOf cXc_highestOpenRankOf 4 (some .int))) B.pre
  have hta : ∀ w ∈ wsG, w.before _ s = true := fun w h => hts w (List.mem_cons_of_mem _ h)
  have hown : s.vm.findClass "ServiceThreads$Calls" = some m.cls := findClass_of_methodNamed B.named
  have hlocks := B.notSynchronized
  subst hsz
  have hD := hD0.self (sz := s.heap.size)
  generalize hAe : va_A (wX q dA M) s.heap.size = A at hD ⊢
  have hA : ∀ q : Nat, s.heap.size ≤ q → A q := fun q h => by rw [← hAe]; exact Or.inr h
  have hS : va_S A s.heap s.heap [] := va_S.rf
  dsimp only [wpXc_highestOpenRankOf] at hw
  have hl := lv_entry ([.ref (q 3), .int p0]) (n := 4) (Nat.le_of_ble_eq_true rfl)
  rw [lg_entry_eq]
  generalize (lg_sl ([.ref (q 3), .int p0]) ++ List.replicate (4 - (lg_sl ([.ref (q 3), .int p0])).length) Slot.unset).toArray = ls at hl ⊢
  have hl : lv_has ls 4 [(0, .ref (q 3)), (1, .int p0)] := hl
  refine lv_iconst (v := (-1)) hx hb dXc_highestOpenRankOf_0 (by decide) ?_
  refine lv_istore_n (lv' := [(2, .int (-1)), (0, .ref (q 3)), (1, .int p0)]) hx hb dXc_highestOpenRankOf_1 rfl hl (by decide) rfl (fun ls hl => ?_)
  refine lv_iconst (v := 0) hx hb dXc_highestOpenRankOf_2 (by decide) ?_
  refine lv_istore_n (lv' := [(3, .int 0), (2, .int (-1)), (0, .ref (q 3)), (1, .int p0)]) hx hb dXc_highestOpenRankOf_3 rfl hl (by decide) rfl (fun ls hl => ?_)
  obtain ⟨n4, hw⟩ := hw
  exact LwlXc_highestOpenRankOf_4 (A := A) (av := [.ref (q 3), .int p0]) ⟨hx, hb, hr, hml, hown, hta, hA, hK, hlocks⟩ n4 p0 (-1) 0 M _ _ _ hw hP hD hS (lv_sub hl [2, 3, 1, 0] rfl)
def wpXc_add (p0 : Int32) (M : Mm) (post : Int32 → Mm → Prop) : Prop := ∀ y_1 : Int32, y_1 = M 22 0 → (vp_in y_1 16 ∧ (∀ M_3 : Mm, M_3 = stM M 6 (upd (M 6) y_1.toNatClampNeg p0) → (vp_in y_1 16 ∧ (∀ M_5 : Mm, M_5 = stM M_3 9 (upd (M_3 9) y_1.toNatClampNeg 1) → (∀ y_6 : Int32, y_6 = M_5 22 0 → (∀ y_7 : Int32, y_7 = y_6 + 1 → (∀ M_8 : Mm, M_8 = stM M_5 22 (fun _ => y_7) → (post y_1 M_8))))))))
set_option maxHeartbeats 4000000 in
set_option maxRecDepth 100000 in
theorem mtXc_add (l : Launch) (dC : Nat → ClassId) (dI : Nat → Nat → Nat) (q : Nat → Nat) (dA : Nat → ClassId) (sz : Nat) (p0 : Int32) (M : Mm) (post : Int32 → Mm → Prop) (hw : wpXc_add p0 M post) : Met l yXc_add (wsA yXc_add cXc_add 3 (some .int)) ({ frames := 0, cells := 0, slots := 0, locals := 0 }) (va_Pc [.ref (q 3), .int p0] (pW (dC, dI) vwCl (wX q dA) (tX dA) sz M)) (va_Qi post (bW (dC, dI) vwCl (wX q dA) (tX dA) (va_A (wX q dA M) sz)) (va_A (wX q dA M) sz)) 0 0 (va_A (wX q dA M) sz) := by
  refine Met.ofW (cc := cXc_add) (maxL := 3) (ret := (some .int)) (by decide) rfl ?_
  intro p e s m args below meth c s₁ B hml hv
  obtain ⟨rfl, hsz, hP, hK, hD0⟩ := hv
  have hx := B.exec
  have hb := B.bytes
  have hr := B.returns
  have hts := atoms_spec (ws := (wsA yXc_add cXc_add 3 (some .int))) B.pre
  have hta : ∀ w ∈ wsG, w.before _ s = true := fun w h => hts w (List.mem_cons_of_mem _ h)
  have hown : s.vm.findClass "ServiceThreads$Calls" = some m.cls := findClass_of_methodNamed B.named
  have hlocks := B.notSynchronized
  subst hsz
  have hD := hD0.self (sz := s.heap.size)
  generalize hAe : va_A (wX q dA M) s.heap.size = A at hD ⊢
  have hA : ∀ q : Nat, s.heap.size ≤ q → A q := fun q h => by rw [← hAe]; exact Or.inr h
  have hS : va_S A s.heap s.heap [] := va_S.rf
  dsimp only [wpXc_add] at hw
  have hl := lv_entry ([.ref (q 3), .int p0]) (n := 3) (Nat.le_of_ble_eq_true rfl)
  rw [lg_entry_eq]
  generalize (lg_sl ([.ref (q 3), .int p0]) ++ List.replicate (3 - (lg_sl ([.ref (q 3), .int p0])).length) Slot.unset).toArray = ls at hl ⊢
  have hl : lv_has ls 3 [(0, .ref (q 3)), (1, .int p0)] := hl
  refine lv_aload_n hx hb dXc_add_0 rfl (lv_at hl 0 rfl) ?_
  refine va_get (D := (dC, dI)) (ci := 3) (v := .int (M 22 0)) (C := "ServiceThreads$Calls") (T := TXc) (N := 5) hx hb hta inXc hown hK hP 3 (wX_3 q dA M) rfl 4 (by decide) (hta _ wt_78) (fun _ h9 => h9) rfl dXc_add_1 ?_
  refine lv_topi (fun y_1 ey_1 => ?_)
  have hw := hw y_1 ey_1
  refine lv_istore_n (lv' := [(2, .int y_1), (0, .ref (q 3)), (1, .int p0)]) hx hb dXc_add_4 rfl hl (by decide) rfl (fun ls hl => ?_)
  refine lv_aload_n hx hb dXc_add_5 rfl (lv_at hl 1 rfl) ?_
  refine va_get (D := (dC, dI)) (ci := 3) (v := .ref (q 11)) (C := "ServiceThreads$Calls") (T := TXc) (N := 5) hx hb hta inXc hown hK hP 3 (wX_3 q dA M) rfl 0 (by decide) (hta _ wt_70) (fun _ h9 => h9) rfl dXc_add_6 ?_
  refine lv_iload_n hx hb dXc_add_9 rfl (lv_at hl 0 rfl) ?_
  refine lv_iload_n hx hb dXc_add_10 rfl (lv_at hl 2 rfl) ?_
  obtain ⟨h_2, hw⟩ := hw
  refine wo_i (w := (wX q dA)) (M := M) hx hb hK hP hD hS 11 6 (wX_11 q dA M) (wX_s11 q dA M) rfl h_2 dXc_add_11 (fun M_3 H locs eM_3 hP hD hS => ?_)
  have hw := hw M_3 eM_3
  refine lv_aload_n hx hb dXc_add_12 rfl (lv_at hl 1 rfl) ?_
  refine va_get (D := (dC, dI)) (ci := 3) (v := .ref (q 14)) (C := "ServiceThreads$Calls") (T := TXc) (N := 5) hx hb hta inXc hown hK hP 3 (wX_3 q dA M_3) rfl 3 (by decide) (hta _ wt_76) (fun _ h9 => h9) rfl dXc_add_13 ?_
  refine lv_iload_n hx hb dXc_add_16 rfl (lv_at hl 0 rfl) ?_
  refine lv_iconst (v := 1) hx hb dXc_add_17 (by decide) ?_
  obtain ⟨h_4, hw⟩ := hw
  refine wo_z (w := (wX q dA)) (M := M_3) hx hb hK hP hD hS 14 9 (wX_14 q dA M_3) (wX_s14 q dA M_3) rfl (by decide) h_4 dXc_add_18 (fun M_5 H locs eM_5 hP hD hS => ?_)
  have hw := hw M_5 eM_5
  refine lv_aload_n hx hb dXc_add_19 rfl (lv_at hl 1 rfl) ?_
  refine lv_dup hx hb dXc_add_20 rfl ?_
  refine va_get (D := (dC, dI)) (ci := 3) (v := .int (M_5 22 0)) (C := "ServiceThreads$Calls") (T := TXc) (N := 5) hx hb hta inXc hown hK hP 3 (wX_3 q dA M_5) rfl 4 (by decide) (hta _ wt_78) (fun _ h9 => h9) rfl dXc_add_21 ?_
  refine lv_topi (fun y_6 ey_6 => ?_)
  have hw := hw y_6 ey_6
  refine lv_iconst (v := 1) hx hb dXc_add_24 (by decide) ?_
  refine lv_iadd hx hb dXc_add_25 ?_
  refine lv_topi (fun y_7 ey_7 => ?_)
  have hw := hw y_7 ey_7
  refine va_put (D := (dC, dI)) (ci := 3) (v := .int y_7) (ty := .int) (C := "ServiceThreads$Calls") (T := TXc) (N := 5) hx hb hta inXc tyXc tyXc_ok nmXc hown hK hP hD hS 3 (wX_3 q dA M_5) rfl 4 (by decide) (hta _ wt_78) (fun _ h9 => h9) rfl (by decide +kernel) rfl rfl (Nat.le_of_ble_eq_true rfl) dXc_add_26 (fun H locs hP hD hS => ?_)
  obtain ⟨M_8, eM_8⟩ : ∃ y : Mm, y = stM M_5 22 (fun _ => y_7) := ⟨_, rfl⟩
  have hP : va_P (dC, dI) vwCl (wX q dA M_8) H := by rw [eM_8]; exact hP
  have hD : va_D A (wX q dA M_8) := by rw [eM_8]; exact hD
  have hw := hw M_8 eM_8
  refine lv_iload_n hx hb dXc_add_29 rfl (lv_at hl 0 rfl) ?_
  exact W.iret (v := y_1) hx hb hr (fun t ht hW => ⟨⟨y_1, M_8, rfl, hw, by rw [ht]; exact hP, va_K.moved hW.alike hK, hD⟩, hS.F ht⟩) hS.2.2 dXc_add_30 hlocks
def wpXr_tell (p0 : Int32) (p1 : Int32) (p2 : Int32) (p3 : Int32) (M : Mm) (post : Mm → Prop) : Prop := ∀ y_1 : Int32, y_1 = M 23 0 → (((y_1 < 100 → (∀ y_3 : Int32, y_3 = M 23 0 → (vp_in y_3 100 ∧ (∀ M_5 : Mm, M_5 = stM M 10 (upd (M 10) y_3.toNatClampNeg p0) → (∀ y_6 : Int32, y_6 = M_5 23 0 → (vp_in y_6 100 ∧ (∀ M_8 : Mm, M_8 = stM M_5 11 (upd (M_5 11) y_6.toNatClampNeg p1) → (∀ y_9 : Int32, y_9 = M_8 23 0 → (vp_in y_9 100 ∧ (∀ M_11 : Mm, M_11 = stM M_8 12 (upd (M_8 12) y_9.toNatClampNeg p2) → (∀ y_12 : Int32, y_12 = M_11 23 0 → (vp_in y_12 100 ∧ (∀ M_14 : Mm, M_14 = stM M_11 13 (upd (M_11 13) y_12.toNatClampNeg p3) → (∀ y_15 : Int32, y_15 = M_14 23 0 → (∀ y_16 : Int32, y_16 = y_15 + 1 → (∀ M_17 : Mm, M_17 = stM M_14 23 (fun _ => y_16) → (post M_17))))))))))))))))) ∧ (¬ y_1 < 100 → (post M))))
set_option maxHeartbeats 4000000 in
set_option maxRecDepth 100000 in
theorem mtXr_tell (l : Launch) (dC : Nat → ClassId) (dI : Nat → Nat → Nat) (q : Nat → Nat) (dA : Nat → ClassId) (sz : Nat) (p0 : Int32) (p1 : Int32) (p2 : Int32) (p3 : Int32) (M : Mm) (post : Mm → Prop) (hw : wpXr_tell p0 p1 p2 p3 M post) : Met l yXr_tell (wsA yXr_tell cXr_tell 5 none) ({ frames := 0, cells := 0, slots := 0, locals := 0 }) (va_Pc [.ref (q 4), .int p0, .int p1, .int p2, .int p3] (pW (dC, dI) vwCl (wX q dA) (tX dA) sz M)) (va_Qv post (bW (dC, dI) vwCl (wX q dA) (tX dA) (va_A (wX q dA M) sz)) (va_A (wX q dA M) sz)) 0 0 (va_A (wX q dA M) sz) := by
  refine Met.ofW (cc := cXr_tell) (maxL := 5) (ret := none) (by decide) rfl ?_
  intro p e s m args below meth c s₁ B hml hv
  obtain ⟨rfl, hsz, hP, hK, hD0⟩ := hv
  have hx := B.exec
  have hb := B.bytes
  have hr := B.returns
  have hts := atoms_spec (ws := (wsA yXr_tell cXr_tell 5 none)) B.pre
  have hta : ∀ w ∈ wsG, w.before _ s = true := fun w h => hts w (List.mem_cons_of_mem _ h)
  have hown : s.vm.findClass "ServiceThreads$Rows" = some m.cls := findClass_of_methodNamed B.named
  have hlocks := B.notSynchronized
  subst hsz
  have hD := hD0.self (sz := s.heap.size)
  generalize hAe : va_A (wX q dA M) s.heap.size = A at hD ⊢
  have hA : ∀ q : Nat, s.heap.size ≤ q → A q := fun q h => by rw [← hAe]; exact Or.inr h
  have hS : va_S A s.heap s.heap [] := va_S.rf
  dsimp only [wpXr_tell] at hw
  have hl := lv_entry ([.ref (q 4), .int p0, .int p1, .int p2, .int p3]) (n := 5) (Nat.le_of_ble_eq_true rfl)
  rw [lg_entry_eq]
  generalize (lg_sl ([.ref (q 4), .int p0, .int p1, .int p2, .int p3]) ++ List.replicate (5 - (lg_sl ([.ref (q 4), .int p0, .int p1, .int p2, .int p3])).length) Slot.unset).toArray = ls at hl ⊢
  have hl : lv_has ls 5 [(0, .ref (q 4)), (1, .int p0), (2, .int p1), (3, .int p2), (4, .int p3)] := hl
  refine lv_aload_n hx hb dXr_tell_0 rfl (lv_at hl 0 rfl) ?_
  refine va_get (D := (dC, dI)) (ci := 4) (v := .int (M 23 0)) (C := "ServiceThreads$Rows") (T := TXr) (N := 5) hx hb hta inXr hown hK hP 4 (wX_4 q dA M) rfl 4 (by decide) (hta _ wt_105) (fun _ h9 => h9) rfl dXr_tell_1 ?_
  refine lv_topi (fun y_1 ey_1 => ?_)
  have hw := hw y_1 ey_1
  refine lv_bipush (v := 100) hx hb dXr_tell_4 (by decide) ?_
  refine lv_icmp_lt (tgt := 10) hx hb dXr_tell_6 (by decide) (fun c_2 => ?_) (fun c_2 => ?_)
  · have hw := hw.1 c_2
    refine lv_aload_n hx hb dXr_tell_10 rfl (lv_at hl 0 rfl) ?_
    refine va_get (D := (dC, dI)) (ci := 4) (v := .ref (q 15)) (C := "ServiceThreads$Rows") (T := TXr) (N := 5) hx hb hta inXr hown hK hP 4 (wX_4 q dA M) rfl 0 (by decide) (hta _ wt_97) (fun _ h9 => h9) rfl dXr_tell_11 ?_
    refine lv_aload_n hx hb dXr_tell_14 rfl (lv_at hl 0 rfl) ?_
    refine va_get (D := (dC, dI)) (ci := 4) (v := .int (M 23 0)) (C := "ServiceThreads$Rows") (T := TXr) (N := 5) hx hb hta inXr hown hK hP 4 (wX_4 q dA M) rfl 4 (by decide) (hta _ wt_105) (fun _ h9 => h9) rfl dXr_tell_15 ?_
    refine lv_topi (fun y_3 ey_3 => ?_)
    have hw := hw y_3 ey_3
    refine lv_iload_n hx hb dXr_tell_18 rfl (lv_at hl 1 rfl) ?_
    obtain ⟨h_4, hw⟩ := hw
    refine wo_i (w := (wX q dA)) (M := M) hx hb hK hP hD hS 15 10 (wX_15 q dA M) (wX_s15 q dA M) rfl h_4 dXr_tell_19 (fun M_5 H locs eM_5 hP hD hS => ?_)
    have hw := hw M_5 eM_5
    refine lv_aload_n hx hb dXr_tell_20 rfl (lv_at hl 0 rfl) ?_
    refine va_get (D := (dC, dI)) (ci := 4) (v := .ref (q 16)) (C := "ServiceThreads$Rows") (T := TXr) (N := 5) hx hb hta inXr hown hK hP 4 (wX_4 q dA M_5) rfl 1 (by decide) (hta _ wt_99) (fun _ h9 => h9) rfl dXr_tell_21 ?_
    refine lv_aload_n hx hb dXr_tell_24 rfl (lv_at hl 0 rfl) ?_
    refine va_get (D := (dC, dI)) (ci := 4) (v := .int (M_5 23 0)) (C := "ServiceThreads$Rows") (T := TXr) (N := 5) hx hb hta inXr hown hK hP 4 (wX_4 q dA M_5) rfl 4 (by decide) (hta _ wt_105) (fun _ h9 => h9) rfl dXr_tell_25 ?_
    refine lv_topi (fun y_6 ey_6 => ?_)
    have hw := hw y_6 ey_6
    refine lv_iload_n hx hb dXr_tell_28 rfl (lv_at hl 2 rfl) ?_
    obtain ⟨h_7, hw⟩ := hw
    refine wo_i (w := (wX q dA)) (M := M_5) hx hb hK hP hD hS 16 11 (wX_16 q dA M_5) (wX_s16 q dA M_5) rfl h_7 dXr_tell_29 (fun M_8 H locs eM_8 hP hD hS => ?_)
    have hw := hw M_8 eM_8
    refine lv_aload_n hx hb dXr_tell_30 rfl (lv_at hl 0 rfl) ?_
    refine va_get (D := (dC, dI)) (ci := 4) (v := .ref (q 17)) (C := "ServiceThreads$Rows") (T := TXr) (N := 5) hx hb hta inXr hown hK hP 4 (wX_4 q dA M_8) rfl 2 (by decide) (hta _ wt_101) (fun _ h9 => h9) rfl dXr_tell_31 ?_
    refine lv_aload_n hx hb dXr_tell_34 rfl (lv_at hl 0 rfl) ?_
    refine va_get (D := (dC, dI)) (ci := 4) (v := .int (M_8 23 0)) (C := "ServiceThreads$Rows") (T := TXr) (N := 5) hx hb hta inXr hown hK hP 4 (wX_4 q dA M_8) rfl 4 (by decide) (hta _ wt_105) (fun _ h9 => h9) rfl dXr_tell_35 ?_
    refine lv_topi (fun y_9 ey_9 => ?_)
    have hw := hw y_9 ey_9
    refine lv_iload_n hx hb dXr_tell_38 rfl (lv_at hl 3 rfl) ?_
    obtain ⟨h_10, hw⟩ := hw
    refine wo_i (w := (wX q dA)) (M := M_8) hx hb hK hP hD hS 17 12 (wX_17 q dA M_8) (wX_s17 q dA M_8) rfl h_10 dXr_tell_39 (fun M_11 H locs eM_11 hP hD hS => ?_)
    have hw := hw M_11 eM_11
    refine lv_aload_n hx hb dXr_tell_40 rfl (lv_at hl 0 rfl) ?_
    refine va_get (D := (dC, dI)) (ci := 4) (v := .ref (q 18)) (C := "ServiceThreads$Rows") (T := TXr) (N := 5) hx hb hta inXr hown hK hP 4 (wX_4 q dA M_11) rfl 3 (by decide) (hta _ wt_103) (fun _ h9 => h9) rfl dXr_tell_41 ?_
    refine lv_aload_n hx hb dXr_tell_44 rfl (lv_at hl 0 rfl) ?_
    refine va_get (D := (dC, dI)) (ci := 4) (v := .int (M_11 23 0)) (C := "ServiceThreads$Rows") (T := TXr) (N := 5) hx hb hta inXr hown hK hP 4 (wX_4 q dA M_11) rfl 4 (by decide) (hta _ wt_105) (fun _ h9 => h9) rfl dXr_tell_45 ?_
    refine lv_topi (fun y_12 ey_12 => ?_)
    have hw := hw y_12 ey_12
    refine lv_iload hx hb dXr_tell_48 (lv_at hl 4 rfl) ?_
    obtain ⟨h_13, hw⟩ := hw
    refine wo_i (w := (wX q dA)) (M := M_11) hx hb hK hP hD hS 18 13 (wX_18 q dA M_11) (wX_s18 q dA M_11) rfl h_13 dXr_tell_50 (fun M_14 H locs eM_14 hP hD hS => ?_)
    have hw := hw M_14 eM_14
    refine lv_aload_n hx hb dXr_tell_51 rfl (lv_at hl 0 rfl) ?_
    refine lv_dup hx hb dXr_tell_52 rfl ?_
    refine va_get (D := (dC, dI)) (ci := 4) (v := .int (M_14 23 0)) (C := "ServiceThreads$Rows") (T := TXr) (N := 5) hx hb hta inXr hown hK hP 4 (wX_4 q dA M_14) rfl 4 (by decide) (hta _ wt_105) (fun _ h9 => h9) rfl dXr_tell_53 ?_
    refine lv_topi (fun y_15 ey_15 => ?_)
    have hw := hw y_15 ey_15
    refine lv_iconst (v := 1) hx hb dXr_tell_56 (by decide) ?_
    refine lv_iadd hx hb dXr_tell_57 ?_
    refine lv_topi (fun y_16 ey_16 => ?_)
    have hw := hw y_16 ey_16
    refine va_put (D := (dC, dI)) (ci := 4) (v := .int y_16) (ty := .int) (C := "ServiceThreads$Rows") (T := TXr) (N := 5) hx hb hta inXr tyXr tyXr_ok nmXr hown hK hP hD hS 4 (wX_4 q dA M_14) rfl 4 (by decide) (hta _ wt_105) (fun _ h9 => h9) rfl (by decide +kernel) rfl rfl (Nat.le_of_ble_eq_true rfl) dXr_tell_58 (fun H locs hP hD hS => ?_)
    obtain ⟨M_17, eM_17⟩ : ∃ y : Mm, y = stM M_14 23 (fun _ => y_16) := ⟨_, rfl⟩
    have hP : va_P (dC, dI) vwCl (wX q dA M_17) H := by rw [eM_17]; exact hP
    have hD : va_D A (wX q dA M_17) := by rw [eM_17]; exact hD
    have hw := hw M_17 eM_17
    exact W.vret hx hb hr (fun t ht hW => ⟨⟨M_17, rfl, hw, by rw [ht]; exact hP, va_K.moved hW.alike hK, hD⟩, hS.F ht⟩) hS.2.2 dXr_tell_61 hlocks
  · have hw := hw.2 c_2
    exact W.vret hx hb hr (fun t ht hW => ⟨⟨M, rfl, hw, by rw [ht]; exact hP, va_K.moved hW.alike hK, hD⟩, hS.F ht⟩) hS.2.2 dXr_tell_9 hlocks
def wlXc_dropUnsentOf_2 (post : Mm → Prop) : Nat → Int32 → Int32 → Mm → Prop
  | 0, _, _ => fun _ => False
  | n2 + 1, x1, x2 => fun M => ∀ y_1 : Int32, y_1 = M 22 0 → (((y_1 ≤ x2 → (post M)) ∧ (¬ y_1 ≤ x2 → (wpXc_isOpenOf x2 x1 M (fun r_3 M_4 => (((r_3 = 0 → (∀ x2_6 : Int32, x2_6 = x2 + 1 → (wlXc_dropUnsentOf_2 post n2 x1 x2_6 M_4))) ∧ (¬ r_3 = 0 → (vp_in x2 16 ∧ (∀ y_8 : Int32, y_8 = M_4 8 x2.toNatClampNeg → (((y_8 = (-1) → (vp_in x2 16 ∧ (∀ M_12 : Mm, M_12 = stM M_4 7 (upd (M_4 7) x2.toNatClampNeg (-1)) → (∀ x2_13 : Int32, x2_13 = x2 + 1 → (wlXc_dropUnsentOf_2 post n2 x1 x2_13 M_12))))) ∧ (¬ y_8 = (-1) → (∀ x2_10 : Int32, x2_10 = x2 + 1 → (wlXc_dropUnsentOf_2 post n2 x1 x2_10 M_4)))))))))))))))
def wpXc_dropUnsentOf (p0 : Int32) (M : Mm) (post : Mm → Prop) : Prop := ∃ n2 : Nat, wlXc_dropUnsentOf_2 post n2 p0 0 M
set_option maxHeartbeats 4000000 in
set_option maxRecDepth 100000 in
theorem LwlXc_dropUnsentOf_2 {p : Program} {l : Launch} {e : Env} {s : State} {m : MethodId} {below : List Frame} {meth : Method} {c : Code} {dC : Nat → ClassId} {dI : Nat → Nat → Nat} {q : Nat → Nat} {dA : Nat → ClassId} {A : Nat → Prop} {av : List Value} {post : Mm → Prop} (CX : p.tables.exec = Jvm.exec ∧ c.code = cXc_dropUnsentOf ∧ meth.sig.returnType = none ∧ c.maxLocals = 3 ∧ s.vm.findClass "ServiceThreads$Calls" = some m.cls ∧ (∀ w ∈ wsG, w.before av.toArray s = true) ∧ (∀ q : Nat, s.heap.size ≤ q → A q) ∧ va_K (dC, dI) vwCl (tX dA) s ∧ meth.locks = false) : ∀ (n2 : Nat) (x1 : Int32) (x2 : Int32) (M : Mm) (H : Heap) (locs : List Loc) (ls : Array Slot), wlXc_dropUnsentOf_2 post n2 x1 x2 M → va_P (dC, dI) vwCl (wX q dA M) H → va_D A (wX q dA M) → va_S A s.heap H locs → lv_has ls 3 [(0, .ref (q 3)), (1, .int x1), (2, .int x2)] → W p l e (headSpec (wsA yXc_dropUnsentOf cXc_dropUnsentOf 3 none) ({ frames := 2, cells := 0, slots := 0, locals := 43 })).room s m av.toArray below meth c H locs 0 0 (MQ below (va_Qv post (bW (dC, dI) vwCl (wX q dA) (tX dA) A) A) av.toArray s 0 0 A) (F0 m 2 ls []) := by
  obtain ⟨hx, hb, hr, hml, hown, hta, hA, hK, hlocks⟩ := CX
  intro n2
  induction n2 with
  | zero =>
    intro x1 x2 M H locs ls hw
    exact False.elim hw
  | succ n2 ih2 =>
    intro x1 x2 M H locs ls hw hP hD hS hl
    dsimp only [wlXc_dropUnsentOf_2] at hw
    refine lv_iload_n hx hb dXc_dropUnsentOf_2 rfl (lv_at hl 2 rfl) ?_
    refine lv_aload_n hx hb dXc_dropUnsentOf_3 rfl (lv_at hl 0 rfl) ?_
    refine va_get (D := (dC, dI)) (ci := 3) (v := .int (M 22 0)) (C := "ServiceThreads$Calls") (T := TXc) (N := 5) hx hb hta inXc hown hK hP 3 (wX_3 q dA M) rfl 4 (by decide) (hta _ wt_78) (fun _ h9 => h9) rfl dXc_dropUnsentOf_4 ?_
    refine lv_topi (fun y_1 ey_1 => ?_)
    have hw := hw y_1 ey_1
    refine lv_icmp_ge (tgt := 42) hx hb dXc_dropUnsentOf_7 (by decide) (fun c_2 => ?_) (fun c_2 => ?_)
    · have hw := hw.1 c_2
      exact W.vret hx hb hr (fun t ht hW => ⟨⟨M, rfl, hw, by rw [ht]; exact hP, va_K.moved hW.alike hK, hD⟩, hS.F ht⟩) hS.2.2 dXc_dropUnsentOf_42 hlocks
    · have hw := hw.2 c_2
      refine lv_aload_n hx hb dXc_dropUnsentOf_10 rfl (lv_at hl 0 rfl) ?_
      refine lv_iload_n hx hb dXc_dropUnsentOf_11 rfl (lv_at hl 2 rfl) ?_
      refine lv_iload_n hx hb dXc_dropUnsentOf_12 rfl (lv_at hl 1 rfl) ?_
      refine cn_i (w := (wX q dA)) (M := M) (wX_ad q dA) (va_runV (As := [.int x2, .int x1]) (rest := []) ⟨hx, hb, hml, hown, hta⟩ (mtXc_isOpenOf l dC dI q dA H.size x2 x1 M _ hw) (cwV 2 hta (giV wt_177 wt_178 wt_179 wt_5 wt_180) rfl rfl rfl (by decide +kernel) ⟨Nat.le_of_ble_eq_true rfl, Nat.le_of_ble_eq_true rfl⟩) ⟨pW_blind, va_recv hK hP (ci := 3) (q0 := 3) rfl (wX_3 q dA M), pW_of hK hP hD⟩ rfl rfl hl.1 rfl (lv_room (Nat.le_of_ble_eq_true rfl)) dXc_dropUnsentOf_13 ⟨Nat.le_of_ble_eq_true rfl, Nat.le_of_ble_eq_true rfl⟩) hD hS hA (fun r_3 M_4 H locs hw hP hD hS => ?_)
      refine lv_if_eq (tgt := 36) hx hb dXc_dropUnsentOf_16 (by decide) (fun c_5 => ?_) (fun c_5 => ?_)
      · have hw := hw.1 c_5
        obtain ⟨x2_6, ex2_6⟩ : ∃ y : Int32, y = x2 + 1 := ⟨_, rfl⟩
        have hw := hw x2_6 ex2_6
        refine lv_iinc (v := x2_6) (lv' := [(2, .int x2_6), (0, .ref (q 3)), (1, .int x1)]) hx hb dXc_dropUnsentOf_36 hl (k := 2) rfl (by rw [ex2_6]; rfl) (by decide) rfl (fun ls hl => ?_)
        refine lv_goto (tgt := 2) hx hb dXc_dropUnsentOf_39 (by decide) ?_
        exact ih2 x1 x2_6 M_4 _ _ _ hw hP hD hS (lv_sub hl [1, 2, 0] rfl)
      · have hw := hw.2 c_5
        refine lv_aload_n hx hb dXc_dropUnsentOf_19 rfl (lv_at hl 0 rfl) ?_
        refine va_get (D := (dC, dI)) (ci := 3) (v := .ref (q 13)) (C := "ServiceThreads$Calls") (T := TXc) (N := 5) hx hb hta inXc hown hK hP 3 (wX_3 q dA M_4) rfl 2 (by decide) (hta _ wt_74) (fun _ h9 => h9) rfl dXc_dropUnsentOf_20 ?_
        refine lv_iload_n hx hb dXc_dropUnsentOf_23 rfl (lv_at hl 2 rfl) ?_
        obtain ⟨h_7, hw⟩ := hw
        refine ro_i (w := (wX q dA)) (M := M_4) hx hb hK hP 13 8 (wX_13 q dA M_4) rfl h_7 dXc_dropUnsentOf_24 (fun y_8 ey_8 => ?_)
        have hw := hw y_8 ey_8
        refine lv_iconst (v := (-1)) hx hb dXc_dropUnsentOf_25 (by decide) ?_
        refine lv_icmp_ne (tgt := 36) hx hb dXc_dropUnsentOf_26 (by decide) (fun c_9 => ?_) (fun c_9 => ?_)
        · have hw := hw.2 c_9
          obtain ⟨x2_10, ex2_10⟩ : ∃ y : Int32, y = x2 + 1 := ⟨_, rfl⟩
          have hw := hw x2_10 ex2_10
          refine lv_iinc (v := x2_10) (lv' := [(2, .int x2_10), (0, .ref (q 3)), (1, .int x1)]) hx hb dXc_dropUnsentOf_36 hl (k := 2) rfl (by rw [ex2_10]; rfl) (by decide) rfl (fun ls hl => ?_)
          refine lv_goto (tgt := 2) hx hb dXc_dropUnsentOf_39 (by decide) ?_
          exact ih2 x1 x2_10 M_4 _ _ _ hw hP hD hS (lv_sub hl [1, 2, 0] rfl)
        · have hw := hw.1 c_9
          refine lv_aload_n hx hb dXc_dropUnsentOf_29 rfl (lv_at hl 0 rfl) ?_
          refine va_get (D := (dC, dI)) (ci := 3) (v := .ref (q 12)) (C := "ServiceThreads$Calls") (T := TXc) (N := 5) hx hb hta inXc hown hK hP 3 (wX_3 q dA M_4) rfl 1 (by decide) (hta _ wt_72) (fun _ h9 => h9) rfl dXc_dropUnsentOf_30 ?_
          refine lv_iload_n hx hb dXc_dropUnsentOf_33 rfl (lv_at hl 2 rfl) ?_
          refine lv_iconst (v := (-1)) hx hb dXc_dropUnsentOf_34 (by decide) ?_
          obtain ⟨h_11, hw⟩ := hw
          refine wo_i (w := (wX q dA)) (M := M_4) hx hb hK hP hD hS 12 7 (wX_12 q dA M_4) (wX_s12 q dA M_4) rfl h_11 dXc_dropUnsentOf_35 (fun M_12 H locs eM_12 hP hD hS => ?_)
          have hw := hw M_12 eM_12
          obtain ⟨x2_13, ex2_13⟩ : ∃ y : Int32, y = x2 + 1 := ⟨_, rfl⟩
          have hw := hw x2_13 ex2_13
          refine lv_iinc (v := x2_13) (lv' := [(2, .int x2_13), (0, .ref (q 3)), (1, .int x1)]) hx hb dXc_dropUnsentOf_36 hl (k := 2) rfl (by rw [ex2_13]; rfl) (by decide) rfl (fun ls hl => ?_)
          refine lv_goto (tgt := 2) hx hb dXc_dropUnsentOf_39 (by decide) ?_
          exact ih2 x1 x2_13 M_12 _ _ _ hw hP hD hS (lv_sub hl [1, 2, 0] rfl)
set_option maxHeartbeats 4000000 in
set_option maxRecDepth 100000 in
theorem mtXc_dropUnsentOf (l : Launch) (dC : Nat → ClassId) (dI : Nat → Nat → Nat) (q : Nat → Nat) (dA : Nat → ClassId) (sz : Nat) (p0 : Int32) (M : Mm) (post : Mm → Prop) (hw : wpXc_dropUnsentOf p0 M post) : Met l yXc_dropUnsentOf (wsA yXc_dropUnsentOf cXc_dropUnsentOf 3 none) ({ frames := 2, cells := 0, slots := 0, locals := 43 }) (va_Pc [.ref (q 3), .int p0] (pW (dC, dI) vwCl (wX q dA) (tX dA) sz M)) (va_Qv post (bW (dC, dI) vwCl (wX q dA) (tX dA) (va_A (wX q dA M) sz)) (va_A (wX q dA M) sz)) 0 0 (va_A (wX q dA M) sz) := by
  refine Met.ofW (cc := cXc_dropUnsentOf) (maxL := 3) (ret := none) (by decide) rfl ?_
  intro p e s m args below meth c s₁ B hml hv
  obtain ⟨rfl, hsz, hP, hK, hD0⟩ := hv
  have hx := B.exec
  have hb := B.bytes
  have hr := B.returns
  have hts := atoms_spec (ws := (wsA yXc_dropUnsentOf cXc_dropUnsentOf 3 none)) B.pre
  have hta : ∀ w ∈ wsG, w.before _ s = true := fun w h => hts w (List.mem_cons_of_mem _ h)
  have hown : s.vm.findClass "ServiceThreads$Calls" = some m.cls := findClass_of_methodNamed B.named
  have hlocks := B.notSynchronized
  subst hsz
  have hD := hD0.self (sz := s.heap.size)
  generalize hAe : va_A (wX q dA M) s.heap.size = A at hD ⊢
  have hA : ∀ q : Nat, s.heap.size ≤ q → A q := fun q h => by rw [← hAe]; exact Or.inr h
  have hS : va_S A s.heap s.heap [] := va_S.rf
  dsimp only [wpXc_dropUnsentOf] at hw
  have hl := lv_entry ([.ref (q 3), .int p0]) (n := 3) (Nat.le_of_ble_eq_true rfl)
  rw [lg_entry_eq]
  generalize (lg_sl ([.ref (q 3), .int p0]) ++ List.replicate (3 - (lg_sl ([.ref (q 3), .int p0])).length) Slot.unset).toArray = ls at hl ⊢
  have hl : lv_has ls 3 [(0, .ref (q 3)), (1, .int p0)] := hl
  refine lv_iconst (v := 0) hx hb dXc_dropUnsentOf_0 (by decide) ?_
  refine lv_istore_n (lv' := [(2, .int 0), (0, .ref (q 3)), (1, .int p0)]) hx hb dXc_dropUnsentOf_1 rfl hl (by decide) rfl (fun ls hl => ?_)
  obtain ⟨n2, hw⟩ := hw
  exact LwlXc_dropUnsentOf_2 (A := A) (av := [.ref (q 3), .int p0]) ⟨hx, hb, hr, hml, hown, hta, hA, hK, hlocks⟩ n2 p0 0 M _ _ _ hw hP hD hS (lv_sub hl [1, 2, 0] rfl)
def wlXc_passOn_2 (post : Mm → Prop) : Nat → Int32 → Int32 → Int32 → Mm → Prop
  | 0, _, _, _ => fun _ => False
  | n2 + 1, x1, x2, x3 => fun M => ∀ y_1 : Int32, y_1 = M 22 0 → (((y_1 ≤ x3 → (post M)) ∧ (¬ y_1 ≤ x3 → (wpXc_isOpenOf x3 x1 M (fun r_3 M_4 => (((r_3 = 0 → (∀ x3_6 : Int32, x3_6 = x3 + 1 → (wlXc_passOn_2 post n2 x1 x2 x3_6 M_4))) ∧ (¬ r_3 = 0 → (vp_in x3 16 ∧ (∀ M_8 : Mm, M_8 = stM M_4 7 (upd (M_4 7) x3.toNatClampNeg x2) → (∀ x3_9 : Int32, x3_9 = x3 + 1 → (wlXc_passOn_2 post n2 x1 x2 x3_9 M_8))))))))))))
def wpXc_passOn (p0 : Int32) (p1 : Int32) (M : Mm) (post : Mm → Prop) : Prop := ∃ n2 : Nat, wlXc_passOn_2 post n2 p0 p1 0 M
set_option maxHeartbeats 4000000 in
set_option maxRecDepth 100000 in
theorem LwlXc_passOn_2 {p : Program} {l : Launch} {e : Env} {s : State} {m : MethodId} {below : List Frame} {meth : Method} {c : Code} {dC : Nat → ClassId} {dI : Nat → Nat → Nat} {q : Nat → Nat} {dA : Nat → ClassId} {A : Nat → Prop} {av : List Value} {post : Mm → Prop} (CX : p.tables.exec = Jvm.exec ∧ c.code = cXc_passOn ∧ meth.sig.returnType = none ∧ c.maxLocals = 4 ∧ s.vm.findClass "ServiceThreads$Calls" = some m.cls ∧ (∀ w ∈ wsG, w.before av.toArray s = true) ∧ (∀ q : Nat, s.heap.size ≤ q → A q) ∧ va_K (dC, dI) vwCl (tX dA) s ∧ meth.locks = false) : ∀ (n2 : Nat) (x1 : Int32) (x2 : Int32) (x3 : Int32) (M : Mm) (H : Heap) (locs : List Loc) (ls : Array Slot), wlXc_passOn_2 post n2 x1 x2 x3 M → va_P (dC, dI) vwCl (wX q dA M) H → va_D A (wX q dA M) → va_S A s.heap H locs → lv_has ls 4 [(0, .ref (q 3)), (1, .int x1), (2, .int x2), (3, .int x3)] → W p l e (headSpec (wsA yXc_passOn cXc_passOn 4 none) ({ frames := 2, cells := 0, slots := 0, locals := 43 })).room s m av.toArray below meth c H locs 0 0 (MQ below (va_Qv post (bW (dC, dI) vwCl (wX q dA) (tX dA) A) A) av.toArray s 0 0 A) (F0 m 2 ls []) := by
  obtain ⟨hx, hb, hr, hml, hown, hta, hA, hK, hlocks⟩ := CX
  intro n2
  induction n2 with
  | zero =>
    intro x1 x2 x3 M H locs ls hw
    exact False.elim hw
  | succ n2 ih2 =>
    intro x1 x2 x3 M H locs ls hw hP hD hS hl
    dsimp only [wlXc_passOn_2] at hw
    refine lv_iload_n hx hb dXc_passOn_2 rfl (lv_at hl 3 rfl) ?_
    refine lv_aload_n hx hb dXc_passOn_3 rfl (lv_at hl 0 rfl) ?_
    refine va_get (D := (dC, dI)) (ci := 3) (v := .int (M 22 0)) (C := "ServiceThreads$Calls") (T := TXc) (N := 5) hx hb hta inXc hown hK hP 3 (wX_3 q dA M) rfl 4 (by decide) (hta _ wt_78) (fun _ h9 => h9) rfl dXc_passOn_4 ?_
    refine lv_topi (fun y_1 ey_1 => ?_)
    have hw := hw y_1 ey_1
    refine lv_icmp_ge (tgt := 32) hx hb dXc_passOn_7 (by decide) (fun c_2 => ?_) (fun c_2 => ?_)
    · have hw := hw.1 c_2
      exact W.vret hx hb hr (fun t ht hW => ⟨⟨M, rfl, hw, by rw [ht]; exact hP, va_K.moved hW.alike hK, hD⟩, hS.F ht⟩) hS.2.2 dXc_passOn_32 hlocks
    · have hw := hw.2 c_2
      refine lv_aload_n hx hb dXc_passOn_10 rfl (lv_at hl 0 rfl) ?_
      refine lv_iload_n hx hb dXc_passOn_11 rfl (lv_at hl 3 rfl) ?_
      refine lv_iload_n hx hb dXc_passOn_12 rfl (lv_at hl 1 rfl) ?_
      refine cn_i (w := (wX q dA)) (M := M) (wX_ad q dA) (va_runV (As := [.int x3, .int x1]) (rest := []) ⟨hx, hb, hml, hown, hta⟩ (mtXc_isOpenOf l dC dI q dA H.size x3 x1 M _ hw) (cwV 2 hta (giV wt_177 wt_178 wt_179 wt_5 wt_180) rfl rfl rfl (by decide +kernel) ⟨Nat.le_of_ble_eq_true rfl, Nat.le_of_ble_eq_true rfl⟩) ⟨pW_blind, va_recv hK hP (ci := 3) (q0 := 3) rfl (wX_3 q dA M), pW_of hK hP hD⟩ rfl rfl hl.1 rfl (lv_room (Nat.le_of_ble_eq_true rfl)) dXc_passOn_13 ⟨Nat.le_of_ble_eq_true rfl, Nat.le_of_ble_eq_true rfl⟩) hD hS hA (fun r_3 M_4 H locs hw hP hD hS => ?_)
      refine lv_if_eq (tgt := 26) hx hb dXc_passOn_16 (by decide) (fun c_5 => ?_) (fun c_5 => ?_)
      · have hw := hw.1 c_5
        obtain ⟨x3_6, ex3_6⟩ : ∃ y : Int32, y = x3 + 1 := ⟨_, rfl⟩
        have hw := hw x3_6 ex3_6
        refine lv_iinc (v := x3_6) (lv' := [(3, .int x3_6), (0, .ref (q 3)), (1, .int x1), (2, .int x2)]) hx hb dXc_passOn_26 hl (k := 3) rfl (by rw [ex3_6]; rfl) (by decide) rfl (fun ls hl => ?_)
        refine lv_goto (tgt := 2) hx hb dXc_passOn_29 (by decide) ?_
        exact ih2 x1 x2 x3_6 M_4 _ _ _ hw hP hD hS (lv_sub hl [1, 2, 3, 0] rfl)
      · have hw := hw.2 c_5
        refine lv_aload_n hx hb dXc_passOn_19 rfl (lv_at hl 0 rfl) ?_
        refine va_get (D := (dC, dI)) (ci := 3) (v := .ref (q 12)) (C := "ServiceThreads$Calls") (T := TXc) (N := 5) hx hb hta inXc hown hK hP 3 (wX_3 q dA M_4) rfl 1 (by decide) (hta _ wt_72) (fun _ h9 => h9) rfl dXc_passOn_20 ?_
        refine lv_iload_n hx hb dXc_passOn_23 rfl (lv_at hl 3 rfl) ?_
        refine lv_iload_n hx hb dXc_passOn_24 rfl (lv_at hl 2 rfl) ?_
        obtain ⟨h_7, hw⟩ := hw
        refine wo_i (w := (wX q dA)) (M := M_4) hx hb hK hP hD hS 12 7 (wX_12 q dA M_4) (wX_s12 q dA M_4) rfl h_7 dXc_passOn_25 (fun M_8 H locs eM_8 hP hD hS => ?_)
        have hw := hw M_8 eM_8
        obtain ⟨x3_9, ex3_9⟩ : ∃ y : Int32, y = x3 + 1 := ⟨_, rfl⟩
        have hw := hw x3_9 ex3_9
        refine lv_iinc (v := x3_9) (lv' := [(3, .int x3_9), (0, .ref (q 3)), (1, .int x1), (2, .int x2)]) hx hb dXc_passOn_26 hl (k := 3) rfl (by rw [ex3_9]; rfl) (by decide) rfl (fun ls hl => ?_)
        refine lv_goto (tgt := 2) hx hb dXc_passOn_29 (by decide) ?_
        exact ih2 x1 x2 x3_9 M_8 _ _ _ hw hP hD hS (lv_sub hl [1, 2, 3, 0] rfl)
set_option maxHeartbeats 4000000 in
set_option maxRecDepth 100000 in
theorem mtXc_passOn (l : Launch) (dC : Nat → ClassId) (dI : Nat → Nat → Nat) (q : Nat → Nat) (dA : Nat → ClassId) (sz : Nat) (p0 : Int32) (p1 : Int32) (M : Mm) (post : Mm → Prop) (hw : wpXc_passOn p0 p1 M post) : Met l yXc_passOn (wsA yXc_passOn cXc_passOn 4 none) ({ frames := 2, cells := 0, slots := 0, locals := 43 }) (va_Pc [.ref (q 3), .int p0, .int p1] (pW (dC, dI) vwCl (wX q dA) (tX dA) sz M)) (va_Qv post (bW (dC, dI) vwCl (wX q dA) (tX dA) (va_A (wX q dA M) sz)) (va_A (wX q dA M) sz)) 0 0 (va_A (wX q dA M) sz) := by
  refine Met.ofW (cc := cXc_passOn) (maxL := 4) (ret := none) (by decide) rfl ?_
  intro p e s m args below meth c s₁ B hml hv
  obtain ⟨rfl, hsz, hP, hK, hD0⟩ := hv
  have hx := B.exec
  have hb := B.bytes
  have hr := B.returns
  have hts := atoms_spec (ws := (wsA yXc_passOn cXc_passOn 4 none)) B.pre
  have hta : ∀ w ∈ wsG, w.before _ s = true := fun w h => hts w (List.mem_cons_of_mem _ h)
  have hown : s.vm.findClass "ServiceThreads$Calls" = some m.cls := findClass_of_methodNamed B.named
  have hlocks := B.notSynchronized
  subst hsz
  have hD := hD0.self (sz := s.heap.size)
  generalize hAe : va_A (wX q dA M) s.heap.size = A at hD ⊢
  have hA : ∀ q : Nat, s.heap.size ≤ q → A q := fun q h => by rw [← hAe]; exact Or.inr h
  have hS : va_S A s.heap s.heap [] := va_S.rf
  dsimp only [wpXc_passOn] at hw
  have hl := lv_entry ([.ref (q 3), .int p0, .int p1]) (n := 4) (Nat.le_of_ble_eq_true rfl)
  rw [lg_entry_eq]
  generalize (lg_sl ([.ref (q 3), .int p0, .int p1]) ++ List.replicate (4 - (lg_sl ([.ref (q 3), .int p0, .int p1])).length) Slot.unset).toArray = ls at hl ⊢
  have hl : lv_has ls 4 [(0, .ref (q 3)), (1, .int p0), (2, .int p1)] := hl
  refine lv_iconst (v := 0) hx hb dXc_passOn_0 (by decide) ?_
  refine lv_istore_n (lv' := [(3, .int 0), (0, .ref (q 3)), (1, .int p0), (2, .int p1)]) hx hb dXc_passOn_1 rfl hl (by decide) rfl (fun ls hl => ?_)
  obtain ⟨n2, hw⟩ := hw
  exact LwlXc_passOn_2 (A := A) (av := [.ref (q 3), .int p0, .int p1]) ⟨hx, hb, hr, hml, hown, hta, hA, hK, hlocks⟩ n2 p0 p1 0 M _ _ _ hw hP hD hS (lv_sub hl [1, 2, 3, 0] rfl)
def wpXr_isKnown (p0 : Int32) (M : Mm) (post : Int32 → Mm → Prop) : Prop := ((p0 < 0 → (post 0 M)) ∧ (¬ p0 < 0 → (∀ y_2 : Int32, y_2 = M 23 0 → (((y_2 ≤ p0 → (post 0 M)) ∧ (¬ y_2 ≤ p0 → (post 1 M)))))))
set_option maxHeartbeats 4000000 in
set_option maxRecDepth 100000 in
theorem mtXr_isKnown (l : Launch) (dC : Nat → ClassId) (dI : Nat → Nat → Nat) (q : Nat → Nat) (dA : Nat → ClassId) (sz : Nat) (p0 : Int32) (M : Mm) (post : Int32 → Mm → Prop) (hw : wpXr_isKnown p0 M post) : Met l yXr_isKnown (wsA yXr_isKnown cXr_isKnown 2 (some .boolean)) ({ frames := 0, cells := 0, slots := 0, locals := 0 }) (va_Pc [.ref (q 4), .int p0] (pW (dC, dI) vwCl (wX q dA) (tX dA) sz M)) (va_Qi post (bW (dC, dI) vwCl (wX q dA) (tX dA) (va_A (wX q dA M) sz)) (va_A (wX q dA M) sz)) 0 0 (va_A (wX q dA M) sz) := by
  refine Met.ofW (cc := cXr_isKnown) (maxL := 2) (ret := (some .boolean)) (by decide) rfl ?_
  intro p e s m args below meth c s₁ B hml hv
  obtain ⟨rfl, hsz, hP, hK, hD0⟩ := hv
  have hx := B.exec
  have hb := B.bytes
  have hr := B.returns
  have hts := atoms_spec (ws := (wsA yXr_isKnown cXr_isKnown 2 (some .boolean))) B.pre
  have hta : ∀ w ∈ wsG, w.before _ s = true := fun w h => hts w (List.mem_cons_of_mem _ h)
  have hown : s.vm.findClass "ServiceThreads$Rows" = some m.cls := findClass_of_methodNamed B.named
  have hlocks := B.notSynchronized
  subst hsz
  have hD := hD0.self (sz := s.heap.size)
  generalize hAe : va_A (wX q dA M) s.heap.size = A at hD ⊢
  have hA : ∀ q : Nat, s.heap.size ≤ q → A q := fun q h => by rw [← hAe]; exact Or.inr h
  have hS : va_S A s.heap s.heap [] := va_S.rf
  dsimp only [wpXr_isKnown] at hw
  have hl := lv_entry ([.ref (q 4), .int p0]) (n := 2) (Nat.le_of_ble_eq_true rfl)
  rw [lg_entry_eq]
  generalize (lg_sl ([.ref (q 4), .int p0]) ++ List.replicate (2 - (lg_sl ([.ref (q 4), .int p0])).length) Slot.unset).toArray = ls at hl ⊢
  have hl : lv_has ls 2 [(0, .ref (q 4)), (1, .int p0)] := hl
  refine lv_iload_n hx hb dXr_isKnown_0 rfl (lv_at hl 1 rfl) ?_
  refine lv_if_lt (tgt := 16) hx hb dXr_isKnown_1 (by decide) (fun c_1 => ?_) (fun c_1 => ?_)
  · have hw := hw.1 c_1
    refine lv_iconst (v := 0) hx hb dXr_isKnown_16 (by decide) ?_
    exact W.zret (v := 0) hx hb hr (by decide) (fun t ht hW => ⟨⟨0, M, rfl, hw, by rw [ht]; exact hP, va_K.moved hW.alike hK, hD⟩, hS.F ht⟩) hS.2.2 dXr_isKnown_17 hlocks
  · have hw := hw.2 c_1
    refine lv_iload_n hx hb dXr_isKnown_4 rfl (lv_at hl 1 rfl) ?_
    refine lv_aload_n hx hb dXr_isKnown_5 rfl (lv_at hl 0 rfl) ?_
    refine va_get (D := (dC, dI)) (ci := 4) (v := .int (M 23 0)) (C := "ServiceThreads$Rows") (T := TXr) (N := 5) hx hb hta inXr hown hK hP 4 (wX_4 q dA M) rfl 4 (by decide) (hta _ wt_105) (fun _ h9 => h9) rfl dXr_isKnown_6 ?_
    refine lv_topi (fun y_2 ey_2 => ?_)
    have hw := hw y_2 ey_2
    refine lv_icmp_ge (tgt := 16) hx hb dXr_isKnown_9 (by decide) (fun c_3 => ?_) (fun c_3 => ?_)
    · have hw := hw.1 c_3
      refine lv_iconst (v := 0) hx hb dXr_isKnown_16 (by decide) ?_
      exact W.zret (v := 0) hx hb hr (by decide) (fun t ht hW => ⟨⟨0, M, rfl, hw, by rw [ht]; exact hP, va_K.moved hW.alike hK, hD⟩, hS.F ht⟩) hS.2.2 dXr_isKnown_17 hlocks
    · have hw := hw.2 c_3
      refine lv_iconst (v := 1) hx hb dXr_isKnown_12 (by decide) ?_
      refine lv_goto (tgt := 17) hx hb dXr_isKnown_13 (by decide) ?_
      exact W.zret (v := 1) hx hb hr (by decide) (fun t ht hW => ⟨⟨1, M, rfl, hw, by rw [ht]; exact hP, va_K.moved hW.alike hK, hD⟩, hS.F ht⟩) hS.2.2 dXr_isKnown_17 hlocks
def wlXc_openCount_4 (post : Int32 → Mm → Prop) : Nat → Int32 → Int32 → Mm → Prop
  | 0, _, _ => fun _ => False
  | n4 + 1, x1, x2 => fun M => ∀ y_1 : Int32, y_1 = M 22 0 → (((y_1 ≤ x2 → (post x1 M)) ∧ (¬ y_1 ≤ x2 → (vp_in x2 16 ∧ (∀ y_4 : Int32, y_4 = M 9 x2.toNatClampNeg → (((y_4 = 0 → (∀ x2_6 : Int32, x2_6 = x2 + 1 → (wlXc_openCount_4 post n4 x1 x2_6 M))) ∧ (¬ y_4 = 0 → (∀ x1_7 : Int32, x1_7 = x1 + 1 → (∀ x2_8 : Int32, x2_8 = x2 + 1 → (wlXc_openCount_4 post n4 x1_7 x2_8 M)))))))))))
def wpXc_openCount (M : Mm) (post : Int32 → Mm → Prop) : Prop := ∃ n4 : Nat, wlXc_openCount_4 post n4 0 0 M
set_option maxHeartbeats 4000000 in
set_option maxRecDepth 100000 in
theorem LwlXc_openCount_4 {p : Program} {l : Launch} {e : Env} {s : State} {m : MethodId} {below : List Frame} {meth : Method} {c : Code} {dC : Nat → ClassId} {dI : Nat → Nat → Nat} {q : Nat → Nat} {dA : Nat → ClassId} {A : Nat → Prop} {av : List Value} {post : Int32 → Mm → Prop} (CX : p.tables.exec = Jvm.exec ∧ c.code = cXc_openCount ∧ meth.sig.returnType = (some .int) ∧ c.maxLocals = 3 ∧ s.vm.findClass "ServiceThreads$Calls" = some m.cls ∧ (∀ w ∈ wsG, w.before av.toArray s = true) ∧ (∀ q : Nat, s.heap.size ≤ q → A q) ∧ va_K (dC, dI) vwCl (tX dA) s ∧ meth.locks = false) : ∀ (n4 : Nat) (x1 : Int32) (x2 : Int32) (M : Mm) (H : Heap) (locs : List Loc) (ls : Array Slot), wlXc_openCount_4 post n4 x1 x2 M → va_P (dC, dI) vwCl (wX q dA M) H → va_D A (wX q dA M) → va_S A s.heap H locs → lv_has ls 3 [(0, .ref (q 3)), (1, .int x1), (2, .int x2)] → W p l e (headSpec (wsA yXc_openCount cXc_openCount 3 (some .int)) ({ frames := 0, cells := 0, slots := 0, locals := 0 })).room s m av.toArray below meth c H locs 0 0 (MQ below (va_Qi post (bW (dC, dI) vwCl (wX q dA) (tX dA) A) A) av.toArray s 0 0 A) (F0 m 4 ls []) := by
  obtain ⟨hx, hb, hr, hml, hown, hta, hA, hK, hlocks⟩ := CX
  intro n4
  induction n4 with
  | zero =>
    intro x1 x2 M H locs ls hw
    exact False.elim hw
  | succ n4 ih4 =>
    intro x1 x2 M H locs ls hw hP hD hS hl
    dsimp only [wlXc_openCount_4] at hw
    refine lv_iload_n hx hb dXc_openCount_4 rfl (lv_at hl 2 rfl) ?_
    refine lv_aload_n hx hb dXc_openCount_5 rfl (lv_at hl 0 rfl) ?_
    refine va_get (D := (dC, dI)) (ci := 3) (v := .int (M 22 0)) (C := "ServiceThreads$Calls") (T := TXc) (N := 5) hx hb hta inXc hown hK hP 3 (wX_3 q dA M) rfl 4 (by decide) (hta _ wt_78) (fun _ h9 => h9) rfl dXc_openCount_6 ?_
    refine lv_topi (fun y_1 ey_1 => ?_)
    have hw := hw y_1 ey_1
    refine lv_icmp_ge (tgt := 30) hx hb dXc_openCount_9 (by decide) (fun c_2 => ?_) (fun c_2 => ?_)
    · have hw := hw.1 c_2
      refine lv_iload_n hx hb dXc_openCount_30 rfl (lv_at hl 1 rfl) ?_
      exact W.iret (v := x1) hx hb hr (fun t ht hW => ⟨⟨x1, M, rfl, hw, by rw [ht]; exact hP, va_K.moved hW.alike hK, hD⟩, hS.F ht⟩) hS.2.2 dXc_openCount_31 hlocks
    · have hw := hw.2 c_2
      refine lv_aload_n hx hb dXc_openCount_12 rfl (lv_at hl 0 rfl) ?_
      refine va_get (D := (dC, dI)) (ci := 3) (v := .ref (q 14)) (C := "ServiceThreads$Calls") (T := TXc) (N := 5) hx hb hta inXc hown hK hP 3 (wX_3 q dA M) rfl 3 (by decide) (hta _ wt_76) (fun _ h9 => h9) rfl dXc_openCount_13 ?_
      refine lv_iload_n hx hb dXc_openCount_16 rfl (lv_at hl 2 rfl) ?_
      obtain ⟨h_3, hw⟩ := hw
      refine ro_z (w := (wX q dA)) (M := M) hx hb hK hP 14 9 (wX_14 q dA M) rfl h_3 dXc_openCount_17 (fun y_4 ey_4 => ?_)
      have hw := hw y_4 ey_4
      refine lv_if_eq (tgt := 24) hx hb dXc_openCount_18 (by decide) (fun c_5 => ?_) (fun c_5 => ?_)
      · have hw := hw.1 c_5
        obtain ⟨x2_6, ex2_6⟩ : ∃ y : Int32, y = x2 + 1 := ⟨_, rfl⟩
        have hw := hw x2_6 ex2_6
        refine lv_iinc (v := x2_6) (lv' := [(2, .int x2_6), (0, .ref (q 3)), (1, .int x1)]) hx hb dXc_openCount_24 hl (k := 2) rfl (by rw [ex2_6]; rfl) (by decide) rfl (fun ls hl => ?_)
        refine lv_goto (tgt := 4) hx hb dXc_openCount_27 (by decide) ?_
        exact ih4 x1 x2_6 M _ _ _ hw hP hD hS (lv_sub hl [1, 2, 0] rfl)
      · have hw := hw.2 c_5
        obtain ⟨x1_7, ex1_7⟩ : ∃ y : Int32, y = x1 + 1 := ⟨_, rfl⟩
        have hw := hw x1_7 ex1_7
        refine lv_iinc (v := x1_7) (lv' := [(1, .int x1_7), (0, .ref (q 3)), (2, .int x2)]) hx hb dXc_openCount_21 hl (k := 1) rfl (by rw [ex1_7]; rfl) (by decide) rfl (fun ls hl => ?_)
        obtain ⟨x2_8, ex2_8⟩ : ∃ y : Int32, y = x2 + 1 := ⟨_, rfl⟩
        have hw := hw x2_8 ex2_8
        refine lv_iinc (v := x2_8) (lv' := [(2, .int x2_8), (1, .int x1_7), (0, .ref (q 3))]) hx hb dXc_openCount_24 hl (k := 2) rfl (by rw [ex2_8]; rfl) (by decide) rfl (fun ls hl => ?_)
        refine lv_goto (tgt := 4) hx hb dXc_openCount_27 (by decide) ?_
        exact ih4 x1_7 x2_8 M _ _ _ hw hP hD hS (lv_sub hl [2, 1, 0] rfl)
set_option maxHeartbeats 4000000 in
set_option maxRecDepth 100000 in
theorem mtXc_openCount (l : Launch) (dC : Nat → ClassId) (dI : Nat → Nat → Nat) (q : Nat → Nat) (dA : Nat → ClassId) (sz : Nat) (M : Mm) (post : Int32 → Mm → Prop) (hw : wpXc_openCount M post) : Met l yXc_openCount (wsA yXc_openCount cXc_openCount 3 (some .int)) ({ frames := 0, cells := 0, slots := 0, locals := 0 }) (va_Pc [.ref (q 3)] (pW (dC, dI) vwCl (wX q dA) (tX dA) sz M)) (va_Qi post (bW (dC, dI) vwCl (wX q dA) (tX dA) (va_A (wX q dA M) sz)) (va_A (wX q dA M) sz)) 0 0 (va_A (wX q dA M) sz) := by
  refine Met.ofW (cc := cXc_openCount) (maxL := 3) (ret := (some .int)) (by decide) rfl ?_
  intro p e s m args below meth c s₁ B hml hv
  obtain ⟨rfl, hsz, hP, hK, hD0⟩ := hv
  have hx := B.exec
  have hb := B.bytes
  have hr := B.returns
  have hts := atoms_spec (ws := (wsA yXc_openCount cXc_openCount 3 (some .int))) B.pre
  have hta : ∀ w ∈ wsG, w.before _ s = true := fun w h => hts w (List.mem_cons_of_mem _ h)
  have hown : s.vm.findClass "ServiceThreads$Calls" = some m.cls := findClass_of_methodNamed B.named
  have hlocks := B.notSynchronized
  subst hsz
  have hD := hD0.self (sz := s.heap.size)
  generalize hAe : va_A (wX q dA M) s.heap.size = A at hD ⊢
  have hA : ∀ q : Nat, s.heap.size ≤ q → A q := fun q h => by rw [← hAe]; exact Or.inr h
  have hS : va_S A s.heap s.heap [] := va_S.rf
  dsimp only [wpXc_openCount] at hw
  have hl := lv_entry ([.ref (q 3)]) (n := 3) (Nat.le_of_ble_eq_true rfl)
  rw [lg_entry_eq]
  generalize (lg_sl ([.ref (q 3)]) ++ List.replicate (3 - (lg_sl ([.ref (q 3)])).length) Slot.unset).toArray = ls at hl ⊢
  have hl : lv_has ls 3 [(0, .ref (q 3))] := hl
  refine lv_iconst (v := 0) hx hb dXc_openCount_0 (by decide) ?_
  refine lv_istore_n (lv' := [(1, .int 0), (0, .ref (q 3))]) hx hb dXc_openCount_1 rfl hl (by decide) rfl (fun ls hl => ?_)
  refine lv_iconst (v := 0) hx hb dXc_openCount_2 (by decide) ?_
  refine lv_istore_n (lv' := [(2, .int 0), (1, .int 0), (0, .ref (q 3))]) hx hb dXc_openCount_3 rfl hl (by decide) rfl (fun ls hl => ?_)
  obtain ⟨n4, hw⟩ := hw
  exact LwlXc_openCount_4 (A := A) (av := [.ref (q 3)]) ⟨hx, hb, hr, hml, hown, hta, hA, hK, hlocks⟩ n4 0 0 M _ _ _ hw hP hD hS (lv_sub hl [2, 1, 0] rfl)
