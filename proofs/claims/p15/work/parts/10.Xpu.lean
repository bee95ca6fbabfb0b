def wpXp_isFull (p0 : Int32) (M : Mm) (post : Int32 → Mm → Prop) : Prop := vp_in p0 8 ∧ (∀ y_2 : Int32, y_2 = M 2 p0.toNatClampNeg → (((y_2 < 16 → (post 0 M)) ∧ (¬ y_2 < 16 → (post 1 M)))))
set_option maxHeartbeats 4000000 in
set_option maxRecDepth 100000 in
theorem mtXp_isFull (l : Launch) (dC : Nat → ClassId) (dI : Nat → Nat → Nat) (q : Nat → Nat) (dA : Nat → ClassId) (sz : Nat) (p0 : Int32) (M : Mm) (post : Int32 → Mm → Prop) (hw : wpXp_isFull p0 M post) : Met l yXp_isFull (wsA yXp_isFull cXp_isFull 2 (some .boolean)) ({ frames := 0, cells := 0, slots := 0, locals := 0 }) (va_Pc [.ref (q 1), .int p0] (pW (dC, dI) vwCl (wX q dA) (tX dA) sz M)) (va_Qi post (bW (dC, dI) vwCl (wX q dA) (tX dA) (va_A (wX q dA M) sz)) (va_A (wX q dA M) sz)) 0 0 (va_A (wX q dA M) sz) := by
  refine Met.ofW (cc := cXp_isFull) (maxL := 2) (ret := (some .boolean)) (by decide) rfl ?_
  intro p e s m args below meth c s₁ B hml hv
  obtain ⟨rfl, hsz, hP, hK, hD0⟩ := hv
  have hx := B.exec
  have hb := B.bytes
  have hr := B.returns
  have hts := atoms_spec (ws := (wsA yXp_isFull cXp_isFull 2 (some .boolean))) B.pre
  have hta : ∀ w ∈ wsG, w.before _ s = true := fun w h => hts w (List.mem_cons_of_mem _ h)
  have hown : s.vm.findClass "ServiceThreads$Programs" = some m.cls := findClass_of_methodNamed B.named
  have hlocks := B.notSynchronized
  subst hsz
  have hD := hD0.self (sz := s.heap.size)
  generalize hAe : va_A (wX q dA M) s.heap.size = A at hD ⊢
  have hA : ∀ q : Nat, s.heap.size ≤ q → A q := fun q h => by rw [← hAe]; exact Or.inr h
  have hS : va_S A s.heap s.heap [] := va_S.rf
  dsimp only [wpXp_isFull] at hw
  have hl := lv_entry ([.ref (q 1), .int p0]) (n := 2) (Nat.le_of_ble_eq_true rfl)
  rw [lg_entry_eq]
  generalize (lg_sl ([.ref (q 1), .int p0]) ++ List.replicate (2 - (lg_sl ([.ref (q 1), .int p0])).length) Slot.unset).toArray = ls at hl ⊢
  have hl : lv_has ls 2 [(0, .ref (q 1)), (1, .int p0)] := hl
  refine lv_aload_n hx hb dXp_isFull_0 rfl (lv_at hl 0 rfl) ?_
  refine va_get (D := (dC, dI)) (ci := 1) (v := .ref (q 7)) (C := "ServiceThreads$Programs") (T := TXp) (N := 4) hx hb hta inXp hown hK hP 1 (wX_1 q dA M) rfl 2 (by decide) (hta _ wt_35) (fun _ h9 => h9) rfl dXp_isFull_1 ?_
  refine lv_iload_n hx hb dXp_isFull_4 rfl (lv_at hl 1 rfl) ?_
  obtain ⟨h_1, hw⟩ := hw
  refine ro_i (w := (wX q dA)) (M := M) hx hb hK hP 7 2 (wX_7 q dA M) rfl h_1 dXp_isFull_5 (fun y_2 ey_2 => ?_)
  have hw := hw y_2 ey_2
  refine lv_bipush (v := 16) hx hb dXp_isFull_6 (by decide) ?_
  refine lv_icmp_lt (tgt := 15) hx hb dXp_isFull_8 (by decide) (fun c_3 => ?_) (fun c_3 => ?_)
  · have hw := hw.1 c_3
    refine lv_iconst (v := 0) hx hb dXp_isFull_15 (by decide) ?_
    exact W.zret (v := 0) hx hb hr (by decide) (fun t ht hW => ⟨⟨0, M, rfl, hw, by rw [ht]; exact hP, va_K.moved hW.alike hK, hD⟩, hS.F ht⟩) hS.2.2 dXp_isFull_16 hlocks
  · have hw := hw.2 c_3
    refine lv_iconst (v := 1) hx hb dXp_isFull_11 (by decide) ?_
    refine lv_goto (tgt := 16) hx hb dXp_isFull_12 (by decide) ?_
    exact W.zret (v := 1) hx hb hr (by decide) (fun t ht hW => ⟨⟨1, M, rfl, hw, by rw [ht]; exact hP, va_K.moved hW.alike hK, hD⟩, hS.F ht⟩) hS.2.2 dXp_isFull_16 hlocks
def wpXp_add (p0 : Int32) (p1 : Int32) (p2 : Int32) (M : Mm) (post : Int32 → Mm → Prop) : Prop := ∀ y_1 : Int32, y_1 = p0 * 16 → (vp_in p0 8 ∧ (∀ y_3 : Int32, y_3 = M 2 p0.toNatClampNeg → (∀ y_4 : Int32, y_4 = y_1 + y_3 → (vp_in y_4 128 ∧ (∀ M_6 : Mm, M_6 = stM M 0 (upd (M 0) y_4.toNatClampNeg p1) → (vp_in y_4 128 ∧ (∀ M_8 : Mm, M_8 = stM M_6 1 (upd (M_6 1) y_4.toNatClampNeg p2) → (vp_in p0 8 ∧ (∀ y_10 : Int32, y_10 = M_8 2 p0.toNatClampNeg → (∀ y_11 : Int32, y_11 = y_10 + 1 → (vp_in p0 8 ∧ (∀ M_13 : Mm, M_13 = stM M_8 2 (upd (M_8 2) p0.toNatClampNeg y_11) → (vp_in p0 8 ∧ (∀ y_15 : Int32, y_15 = M_13 2 p0.toNatClampNeg → (post y_15 M_13)))))))))))))))
set_option maxHeartbeats 4000000 in
set_option maxRecDepth 100000 in
theorem mtXp_add (l : Launch) (dC : Nat → ClassId) (dI : Nat → Nat → Nat) (q : Nat → Nat) (dA : Nat → ClassId) (sz : Nat) (p0 : Int32) (p1 : Int32) (p2 : Int32) (M : Mm) (post : Int32 → Mm → Prop) (hw : wpXp_add p0 p1 p2 M post) : Met l yXp_add (wsA yXp_add cXp_add 5 (some .int)) ({ frames := 0, cells := 0, slots := 0, locals := 0 }) (va_Pc [.ref (q 1), .int p0, .int p1, .int p2] (pW (dC, dI) vwCl (wX q dA) (tX dA) sz M)) (va_Qi post (bW (dC, dI) vwCl (wX q dA) (tX dA) (va_A (wX q dA M) sz)) (va_A (wX q dA M) sz)) 0 0 (va_A (wX q dA M) sz) := by
  refine Met.ofW (cc := cXp_add) (maxL := 5) (ret := (some .int)) (by decide) rfl ?_
  intro p e s m args below meth c s₁ B hml hv
  obtain ⟨rfl, hsz, hP, hK, hD0⟩ := hv
  have hx := B.exec
  have hb := B.bytes
  have hr := B.returns
  have hts := atoms_spec (ws := (wsA yXp_add cXp_add 5 (some .int))) B.pre
  have hta : ∀ w ∈ wsG, w.before _ s = true := fun w h => hts w (List.mem_cons_of_mem _ h)
  have hown : s.vm.findClass "ServiceThreads$Programs" = some m.cls := findClass_of_methodNamed B.named
  have hlocks := B.notSynchronized
  subst hsz
  have hD := hD0.self (sz := s.heap.size)
  generalize hAe : va_A (wX q dA M) s.heap.size = A at hD ⊢
  have hA : ∀ q : Nat, s.heap.size ≤ q → A q := fun q h => by rw [← hAe]; exact Or.inr h
  have hS : va_S A s.heap s.heap [] := va_S.rf
  dsimp only [wpXp_add] at hw
  have hl := lv_entry ([.ref (q 1), .int p0, .int p1, .int p2]) (n := 5) (Nat.le_of_ble_eq_true rfl)
  rw [lg_entry_eq]
  generalize (lg_sl ([.ref (q 1), .int p0, .int p1, .int p2]) ++ List.replicate (5 - (lg_sl ([.ref (q 1), .int p0, .int p1, .int p2])).length) Slot.unset).toArray = ls at hl ⊢
  have hl : lv_has ls 5 [(0, .ref (q 1)), (1, .int p0), (2, .int p1), (3, .int p2)] := hl
  refine lv_iload_n hx hb dXp_add_0 rfl (lv_at hl 1 rfl) ?_
  refine lv_bipush (v := 16) hx hb dXp_add_1 (by decide) ?_
  refine lv_imul hx hb dXp_add_3 ?_
  refine lv_topi (fun y_1 ey_1 => ?_)
  have hw := hw y_1 ey_1
  refine lv_aload_n hx hb dXp_add_4 rfl (lv_at hl 0 rfl) ?_
  refine va_get (D := (dC, dI)) (ci := 1) (v := .ref (q 7)) (C := "ServiceThreads$Programs") (T := TXp) (N := 4) hx hb hta inXp hown hK hP 1 (wX_1 q dA M) rfl 2 (by decide) (hta _ wt_35) (fun _ h9 => h9) rfl dXp_add_5 ?_
  refine lv_iload_n hx hb dXp_add_8 rfl (lv_at hl 1 rfl) ?_
  obtain ⟨h_2, hw⟩ := hw
  refine ro_i (w := (wX q dA)) (M := M) hx hb hK hP 7 2 (wX_7 q dA M) rfl h_2 dXp_add_9 (fun y_3 ey_3 => ?_)
  have hw := hw y_3 ey_3
  refine lv_iadd hx hb dXp_add_10 ?_
  refine lv_topi (fun y_4 ey_4 => ?_)
  have hw := hw y_4 ey_4
  refine lv_istore (lv' := [(4, .int y_4), (0, .ref (q 1)), (1, .int p0), (2, .int p1), (3, .int p2)]) hx hb dXp_add_11 hl (by decide) rfl (fun ls hl => ?_)
  refine lv_aload_n hx hb dXp_add_13 rfl (lv_at hl 1 rfl) ?_
  refine va_get (D := (dC, dI)) (ci := 1) (v := .ref (q 5)) (C := "ServiceThreads$Programs") (T := TXp) (N := 4) hx hb hta inXp hown hK hP 1 (wX_1 q dA M) rfl 0 (by decide) (hta _ wt_33) (fun _ h9 => h9) rfl dXp_add_14 ?_
  refine lv_iload hx hb dXp_add_17 (lv_at hl 0 rfl) ?_
  refine lv_iload_n hx hb dXp_add_19 rfl (lv_at hl 3 rfl) ?_
  obtain ⟨h_5, hw⟩ := hw
  refine wo_i (w := (wX q dA)) (M := M) hx hb hK hP hD hS 5 0 (wX_5 q dA M) (wX_s5 q dA M) rfl h_5 dXp_add_20 (fun M_6 H locs eM_6 hP hD hS => ?_)
  have hw := hw M_6 eM_6
  refine lv_aload_n hx hb dXp_add_21 rfl (lv_at hl 1 rfl) ?_
  refine va_get (D := (dC, dI)) (ci := 1) (v := .ref (q 6)) (C := "ServiceThreads$Programs") (T := TXp) (N := 4) hx hb hta inXp hown hK hP 1 (wX_1 q dA M_6) rfl 1 (by decide) (hta _ wt_34) (fun _ h9 => h9) rfl dXp_add_22 ?_
  refine lv_iload hx hb dXp_add_25 (lv_at hl 0 rfl) ?_
  refine lv_iload_n hx hb dXp_add_27 rfl (lv_at hl 4 rfl) ?_
  obtain ⟨h_7, hw⟩ := hw
  refine wo_i (w := (wX q dA)) (M := M_6) hx hb hK hP hD hS 6 1 (wX_6 q dA M_6) (wX_s6 q dA M_6) rfl h_7 dXp_add_28 (fun M_8 H locs eM_8 hP hD hS => ?_)
  have hw := hw M_8 eM_8
  refine lv_aload_n hx hb dXp_add_29 rfl (lv_at hl 1 rfl) ?_
  refine va_get (D := (dC, dI)) (ci := 1) (v := .ref (q 7)) (C := "ServiceThreads$Programs") (T := TXp) (N := 4) hx hb hta inXp hown hK hP 1 (wX_1 q dA M_8) rfl 2 (by decide) (hta _ wt_35) (fun _ h9 => h9) rfl dXp_add_30 ?_
  refine lv_iload_n hx hb dXp_add_33 rfl (lv_at hl 2 rfl) ?_
  refine lv_dup2_11 hx hb dXp_add_34 rfl rfl ?_
  obtain ⟨h_9, hw⟩ := hw
  refine ro_i (w := (wX q dA)) (M := M_8) hx hb hK hP 7 2 (wX_7 q dA M_8) rfl h_9 dXp_add_35 (fun y_10 ey_10 => ?_)
  have hw := hw y_10 ey_10
  refine lv_iconst (v := 1) hx hb dXp_add_36 (by decide) ?_
  refine lv_iadd hx hb dXp_add_37 ?_
  refine lv_topi (fun y_11 ey_11 => ?_)
  have hw := hw y_11 ey_11
  obtain ⟨h_12, hw⟩ := hw
  refine wo_i (w := (wX q dA)) (M := M_8) hx hb hK hP hD hS 7 2 (wX_7 q dA M_8) (wX_s7 q dA M_8) rfl h_12 dXp_add_38 (fun M_13 H locs eM_13 hP hD hS => ?_)
  have hw := hw M_13 eM_13
  refine lv_aload_n hx hb dXp_add_39 rfl (lv_at hl 1 rfl) ?_
  refine va_get (D := (dC, dI)) (ci := 1) (v := .ref (q 7)) (C := "ServiceThreads$Programs") (T := TXp) (N := 4) hx hb hta inXp hown hK hP 1 (wX_1 q dA M_13) rfl 2 (by decide) (hta _ wt_35) (fun _ h9 => h9) rfl dXp_add_40 ?_
  refine lv_iload_n hx hb dXp_add_43 rfl (lv_at hl 2 rfl) ?_
  obtain ⟨h_14, hw⟩ := hw
  refine ro_i (w := (wX q dA)) (M := M_13) hx hb hK hP 7 2 (wX_7 q dA M_13) rfl h_14 dXp_add_44 (fun y_15 ey_15 => ?_)
  have hw := hw y_15 ey_15
  exact W.iret (v := y_15) hx hb hr (fun t ht hW => ⟨⟨y_15, M_13, rfl, hw, by rw [ht]; exact hP, va_K.moved hW.alike hK, hD⟩, hS.F ht⟩) hS.2.2 dXp_add_45 hlocks
def wpXp_actsOf (p0 : Int32) (M : Mm) (post : Int32 → Mm → Prop) : Prop := vp_in p0 8 ∧ (∀ y_2 : Int32, y_2 = M 2 p0.toNatClampNeg → (post y_2 M))
set_option maxHeartbeats 4000000 in
set_option maxRecDepth 100000 in
theorem mtXp_actsOf (l : Launch) (dC : Nat → ClassId) (dI : Nat → Nat → Nat) (q : Nat → Nat) (dA : Nat → ClassId) (sz : Nat) (p0 : Int32) (M : Mm) (post : Int32 → Mm → Prop) (hw : wpXp_actsOf p0 M post) : Met l yXp_actsOf (wsA yXp_actsOf cXp_actsOf 2 (some .int)) ({ frames := 0, cells := 0, slots := 0, locals := 0 }) (va_Pc [.ref (q 1), .int p0] (pW (dC, dI) vwCl (wX q dA) (tX dA) sz M)) (va_Qi post (bW (dC, dI) vwCl (wX q dA) (tX dA) (va_A (wX q dA M) sz)) (va_A (wX q dA M) sz)) 0 0 (va_A (wX q dA M) sz) := by
  refine Met.ofW (cc := cXp_actsOf) (maxL := 2) (ret := (some .int)) (by decide) rfl ?_
  intro p e s m args below meth c s₁ B hml hv
  obtain ⟨rfl, hsz, hP, hK, hD0⟩ := hv
  have hx := B.exec
  have hb := B.bytes
  have hr := B.returns
  have hts := atoms_spec (ws := (wsA yXp_actsOf cXp_actsOf 2 (some .int))) B.pre
  have hta : ∀ w ∈ wsG, w.before _ s = true := fun w h => hts w (List.mem_cons_of_mem _ h)
  have hown : s.vm.findClass "ServiceThreads$Programs" = some m.cls := findClass_of_methodNamed B.named
  have hlocks := B.notSynchronized
  subst hsz
  have hD := hD0.self (sz := s.heap.size)
  generalize hAe : va_A (wX q dA M) s.heap.size = A at hD ⊢
  have hA : ∀ q : Nat, s.heap.size ≤ q → A q := fun q h => by rw [← hAe]; exact Or.inr h
  have hS : va_S A s.heap s.heap [] := va_S.rf
  dsimp only [wpXp_actsOf] at hw
  have hl := lv_entry ([.ref (q 1), .int p0]) (n := 2) (Nat.le_of_ble_eq_true rfl)
  rw [lg_entry_eq]
  generalize (lg_sl ([.ref (q 1), .int p0]) ++ List.replicate (2 - (lg_sl ([.ref (q 1), .int p0])).length) Slot.unset).toArray = ls at hl ⊢
  have hl : lv_has ls 2 [(0, .ref (q 1)), (1, .int p0)] := hl
  refine lv_aload_n hx hb dXp_actsOf_0 rfl (lv_at hl 0 rfl) ?_
  refine va_get (D := (dC, dI)) (ci := 1) (v := .ref (q 7)) (C := "ServiceThreads$Programs") (T := TXp) (N := 4) hx hb hta inXp hown hK hP 1 (wX_1 q dA M) rfl 2 (by decide) (hta _ wt_35) (fun _ h9 => h9) rfl dXp_actsOf_1 ?_
  refine lv_iload_n hx hb dXp_actsOf_4 rfl (lv_at hl 1 rfl) ?_
  obtain ⟨h_1, hw⟩ := hw
  refine ro_i (w := (wX q dA)) (M := M) hx hb hK hP 7 2 (wX_7 q dA M) rfl h_1 dXp_actsOf_5 (fun y_2 ey_2 => ?_)
  have hw := hw y_2 ey_2
  exact W.iret (v := y_2) hx hb hr (fun t ht hW => ⟨⟨y_2, M, rfl, hw, by rw [ht]; exact hP, va_K.moved hW.alike hK, hD⟩, hS.F ht⟩) hS.2.2 dXp_actsOf_6 hlocks
def wpXp_setFinish (p0 : Int32) (p1 : Int32) (M : Mm) (post : Mm → Prop) : Prop := vp_in p0 8 ∧ (∀ y_2 : Int32, y_2 = M 2 p0.toNatClampNeg → (((p1 = y_2 → (vp_in p0 8 ∧ (∀ M_7 : Mm, M_7 = stM M 3 (upd (M 3) p0.toNatClampNeg (-1)) → (post M_7)))) ∧ (¬ p1 = y_2 → (vp_in p0 8 ∧ (∀ M_5 : Mm, M_5 = stM M 3 (upd (M 3) p0.toNatClampNeg p1) → (post M_5)))))))
set_option maxHeartbeats 4000000 in
set_option maxRecDepth 100000 in
theorem mtXp_setFinish (l : Launch) (dC : Nat → ClassId) (dI : Nat → Nat → Nat) (q : Nat → Nat) (dA : Nat → ClassId) (sz : Nat) (p0 : Int32) (p1 : Int32) (M : Mm) (post : Mm → Prop) (hw : wpXp_setFinish p0 p1 M post) : Met l yXp_setFinish (wsA yXp_setFinish cXp_setFinish 3 none) ({ frames := 0, cells := 0, slots := 0, locals := 0 }) (va_Pc [.ref (q 1), .int p0, .int p1] (pW (dC, dI) vwCl (wX q dA) (tX dA) sz M)) (va_Qv post (bW (dC, dI) vwCl (wX q dA) (tX dA) (va_A (wX q dA M) sz)) (va_A (wX q dA M) sz)) 0 0 (va_A (wX q dA M) sz) := by
  refine Met.ofW (cc := cXp_setFinish) (maxL := 3) (ret := none) (by decide) rfl ?_
  intro p e s m args below meth c s₁ B hml hv
  obtain ⟨rfl, hsz, hP, hK, hD0⟩ := hv
  have hx := B.exec
  have hb := B.bytes
  have hr := B.returns
  have hts := atoms_spec (ws := (wsA yXp_setFinish cXp_setFinish 3 none)) B.pre
  have hta : ∀ w ∈ wsG, w.before _ s = true := fun w h => hts w (List.mem_cons_of_mem _ h)
  have hown : s.vm.findClass "ServiceThreads$Programs" = some m.cls := findClass_of_methodNamed B.named
  have hlocks := B.notSynchronized
  subst hsz
  have hD := hD0.self (sz := s.heap.size)
  generalize hAe : va_A (wX q dA M) s.heap.size = A at hD ⊢
  have hA : ∀ q : Nat, s.heap.size ≤ q → A q := fun q h => by rw [← hAe]; exact Or.inr h
  have hS : va_S A s.heap s.heap [] := va_S.rf
  dsimp only [wpXp_setFinish] at hw
  have hl := lv_entry ([.ref (q 1), .int p0, .int p1]) (n := 3) (Nat.le_of_ble_eq_true rfl)
  rw [lg_entry_eq]
  generalize (lg_sl ([.ref (q 1), .int p0, .int p1]) ++ List.replicate (3 - (lg_sl ([.ref (q 1), .int p0, .int p1])).length) Slot.unset).toArray = ls at hl ⊢
  have hl : lv_has ls 3 [(0, .ref (q 1)), (1, .int p0), (2, .int p1)] := hl
  refine lv_aload_n hx hb dXp_setFinish_0 rfl (lv_at hl 0 rfl) ?_
  refine va_get (D := (dC, dI)) (ci := 1) (v := .ref (q 8)) (C := "ServiceThreads$Programs") (T := TXp) (N := 4) hx hb hta inXp hown hK hP 1 (wX_1 q dA M) rfl 3 (by decide) (hta _ wt_36) (fun _ h9 => h9) rfl dXp_setFinish_1 ?_
  refine lv_iload_n hx hb dXp_setFinish_4 rfl (lv_at hl 1 rfl) ?_
  refine lv_iload_n hx hb dXp_setFinish_5 rfl (lv_at hl 2 rfl) ?_
  refine lv_aload_n hx hb dXp_setFinish_6 rfl (lv_at hl 0 rfl) ?_
  refine va_get (D := (dC, dI)) (ci := 1) (v := .ref (q 7)) (C := "ServiceThreads$Programs") (T := TXp) (N := 4) hx hb hta inXp hown hK hP 1 (wX_1 q dA M) rfl 2 (by decide) (hta _ wt_35) (fun _ h9 => h9) rfl dXp_setFinish_7 ?_
  refine lv_iload_n hx hb dXp_setFinish_10 rfl (lv_at hl 1 rfl) ?_
  obtain ⟨h_1, hw⟩ := hw
  refine ro_i (w := (wX q dA)) (M := M) hx hb hK hP 7 2 (wX_7 q dA M) rfl h_1 dXp_setFinish_11 (fun y_2 ey_2 => ?_)
  have hw := hw y_2 ey_2
  refine lv_icmp_ne (tgt := 19) hx hb dXp_setFinish_12 (by decide) (fun c_3 => ?_) (fun c_3 => ?_)
  · have hw := hw.2 c_3
    refine lv_iload_n hx hb dXp_setFinish_19 rfl (lv_at hl 2 rfl) ?_
    obtain ⟨h_4, hw⟩ := hw
    refine wo_i (w := (wX q dA)) (M := M) hx hb hK hP hD hS 8 3 (wX_8 q dA M) (wX_s8 q dA M) rfl h_4 dXp_setFinish_20 (fun M_5 H locs eM_5 hP hD hS => ?_)
    have hw := hw M_5 eM_5
    exact W.vret hx hb hr (fun t ht hW => ⟨⟨M_5, rfl, hw, by rw [ht]; exact hP, va_K.moved hW.alike hK, hD⟩, hS.F ht⟩) hS.2.2 dXp_setFinish_21 hlocks
  · have hw := hw.1 c_3
    refine lv_iconst (v := (-1)) hx hb dXp_setFinish_15 (by decide) ?_
    refine lv_goto (tgt := 20) hx hb dXp_setFinish_16 (by decide) ?_
    obtain ⟨h_6, hw⟩ := hw
    refine wo_i (w := (wX q dA)) (M := M) hx hb hK hP hD hS 8 3 (wX_8 q dA M) (wX_s8 q dA M) rfl h_6 dXp_setFinish_20 (fun M_7 H locs eM_7 hP hD hS => ?_)
    have hw := hw M_7 eM_7
    exact W.vret hx hb hr (fun t ht hW => ⟨⟨M_7, rfl, hw, by rw [ht]; exact hP, va_K.moved hW.alike hK, hD⟩, hS.F ht⟩) hS.2.2 dXp_setFinish_21 hlocks
def wlXu_freeAllOf_2 (post : Mm → Prop) : Nat → Int32 → Int32 → Mm → Prop
  | 0, _, _ => fun _ => False
  | n2 + 1, x1, x2 => fun M => ((10 ≤ x2 → (post M)) ∧ (¬ 10 ≤ x2 → (vp_in x2 10 ∧ (∀ y_3 : Int32, y_3 = M 4 x2.toNatClampNeg → (((y_3 = x1 → (vp_in x2 10 ∧ (∀ M_7 : Mm, M_7 = stM M 4 (upd (M 4) x2.toNatClampNeg (-1)) → (∀ x2_8 : Int32, x2_8 = x2 + 1 → (wlXu_freeAllOf_2 post n2 x1 x2_8 M_7))))) ∧ (¬ y_3 = x1 → (∀ x2_5 : Int32, x2_5 = x2 + 1 → (wlXu_freeAllOf_2 post n2 x1 x2_5 M)))))))))
def wpXu_freeAllOf (p0 : Int32) (M : Mm) (post : Mm → Prop) : Prop := ∃ n2 : Nat, wlXu_freeAllOf_2 post n2 p0 0 M
set_option maxHeartbeats 4000000 in
set_option maxRecDepth 100000 in
theorem LwlXu_freeAllOf_2 {p : Program} {l : Launch} {e : Env} {s : State} {m : MethodId} {below : List Frame} {meth : Method} {c : Code} {dC : Nat → ClassId} {dI : Nat → Nat → Nat} {q : Nat → Nat} {dA : Nat → ClassId} {A : Nat → Prop} {av : List Value} {post : Mm → Prop} (CX : p.tables.exec = Jvm.exec ∧ c.code = cXu_freeAllOf ∧ meth.sig.returnType = none ∧ c.maxLocals = 3 ∧ s.vm.findClass "ServiceThreads$Units" = some m.cls ∧ (∀ w ∈ wsG, w.before av.toArray s = true) ∧ (∀ q : Nat, s.heap.size ≤ q → A q) ∧ va_K (dC, dI) vwCl (tX dA) s ∧ meth.locks = false) : ∀ (n2 : Nat) (x1 : Int32) (x2 : Int32) (M : Mm) (H : Heap) (locs : List Loc) (ls : Array Slot), wlXu_freeAllOf_2 post n2 x1 x2 M → va_P (dC, dI) vwCl (wX q dA M) H → va_D A (wX q dA M) → va_S A s.heap H locs → lv_has ls 3 [(0, .ref (q 2)), (1, .int x1), (2, .int x2)] → W p l e (headSpec (wsA yXu_freeAllOf cXu_freeAllOf 3 none) ({ frames := 0, cells := 0, slots := 0, locals := 0 })).room s m av.toArray below meth c H locs 0 0 (MQ below (va_Qv post (bW (dC, dI) vwCl (wX q dA) (tX dA) A) A) av.toArray s 0 0 A) (F0 m 2 ls []) := by
  obtain ⟨hx, hb, hr, hml, hown, hta, hA, hK, hlocks⟩ := CX
  intro n2
  induction n2 with
  | zero =>
    intro x1 x2 M H locs ls hw
    exact False.elim hw
  | succ n2 ih2 =>
    intro x1 x2 M H locs ls hw hP hD hS hl
    dsimp only [wlXu_freeAllOf_2] at hw
    refine lv_iload_n hx hb dXu_freeAllOf_2 rfl (lv_at hl 2 rfl) ?_
    refine lv_bipush (v := 10) hx hb dXu_freeAllOf_3 (by decide) ?_
    refine lv_icmp_ge (tgt := 31) hx hb dXu_freeAllOf_5 (by decide) (fun c_1 => ?_) (fun c_1 => ?_)
    · have hw := hw.1 c_1
      exact W.vret hx hb hr (fun t ht hW => ⟨⟨M, rfl, hw, by rw [ht]; exact hP, va_K.moved hW.alike hK, hD⟩, hS.F ht⟩) hS.2.2 dXu_freeAllOf_31 hlocks
    · have hw := hw.2 c_1
      refine lv_aload_n hx hb dXu_freeAllOf_8 rfl (lv_at hl 0 rfl) ?_
      refine va_get (D := (dC, dI)) (ci := 2) (v := .ref (q 9)) (C := "ServiceThreads$Units") (T := TXu) (N := 2) hx hb hta inXu hown hK hP 2 (wX_2 q dA M) rfl 0 (by decide) (hta _ wt_54) (fun _ h9 => h9) rfl dXu_freeAllOf_9 ?_
      refine lv_iload_n hx hb dXu_freeAllOf_12 rfl (lv_at hl 2 rfl) ?_
      obtain ⟨h_2, hw⟩ := hw
      refine ro_i (w := (wX q dA)) (M := M) hx hb hK hP 9 4 (wX_9 q dA M) rfl h_2 dXu_freeAllOf_13 (fun y_3 ey_3 => ?_)
      have hw := hw y_3 ey_3
      refine lv_iload_n hx hb dXu_freeAllOf_14 rfl (lv_at hl 1 rfl) ?_
      refine lv_icmp_ne (tgt := 25) hx hb dXu_freeAllOf_15 (by decide) (fun c_4 => ?_) (fun c_4 => ?_)
      · have hw := hw.2 c_4
        obtain ⟨x2_5, ex2_5⟩ : ∃ y : Int32, y = x2 + 1 := ⟨_, rfl⟩
        have hw := hw x2_5 ex2_5
        refine lv_iinc (v := x2_5) (lv' := [(2, .int x2_5), (0, .ref (q 2)), (1, .int x1)]) hx hb dXu_freeAllOf_25 hl (k := 2) rfl (by rw [ex2_5]; rfl) (by decide) rfl (fun ls hl => ?_)
        refine lv_goto (tgt := 2) hx hb dXu_freeAllOf_28 (by decide) ?_
        exact ih2 x1 x2_5 M _ _ _ hw hP hD hS (lv_sub hl [1, 2, 0] rfl)
      · have hw := hw.1 c_4
        refine lv_aload_n hx hb dXu_freeAllOf_18 rfl (lv_at hl 0 rfl) ?_
        refine va_get (D := (dC, dI)) (ci := 2) (v := .ref (q 9)) (C := "ServiceThreads$Units") (T := TXu) (N := 2) hx hb hta inXu hown hK hP 2 (wX_2 q dA M) rfl 0 (by decide) (hta _ wt_54) (fun _ h9 => h9) rfl dXu_freeAllOf_19 ?_
        refine lv_iload_n hx hb dXu_freeAllOf_22 rfl (lv_at hl 2 rfl) ?_
        refine lv_iconst (v := (-1)) hx hb dXu_freeAllOf_23 (by decide) ?_
        obtain ⟨h_6, hw⟩ := hw
        refine wo_i (w := (wX q dA)) (M := M) hx hb hK hP hD hS 9 4 (wX_9 q dA M) (wX_s9 q dA M) rfl h_6 dXu_freeAllOf_24 (fun M_7 H locs eM_7 hP hD hS => ?_)
        have hw := hw M_7 eM_7
        obtain ⟨x2_8, ex2_8⟩ : ∃ y : Int32, y = x2 + 1 := ⟨_, rfl⟩
        have hw := hw x2_8 ex2_8
        refine lv_iinc (v := x2_8) (lv' := [(2, .int x2_8), (0, .ref (q 2)), (1, .int x1)]) hx hb dXu_freeAllOf_25 hl (k := 2) rfl (by rw [ex2_8]; rfl) (by decide) rfl (fun ls hl => ?_)
        refine lv_goto (tgt := 2) hx hb dXu_freeAllOf_28 (by decide) ?_
        exact ih2 x1 x2_8 M_7 _ _ _ hw hP hD hS (lv_sub hl [1, 2, 0] rfl)
set_option maxHeartbeats 4000000 in
set_option maxRecDepth 100000 in
theorem mtXu_freeAllOf (l : Launch) (dC : Nat → ClassId) (dI : Nat → Nat → Nat) (q : Nat → Nat) (dA : Nat → ClassId) (sz : Nat) (p0 : Int32) (M : Mm) (post : Mm → Prop) (hw : wpXu_freeAllOf p0 M post) : Met l yXu_freeAllOf (wsA yXu_freeAllOf cXu_freeAllOf 3 none) ({ frames := 0, cells := 0, slots := 0, locals := 0 }) (va_Pc [.ref (q 2), .int p0] (pW (dC, dI) vwCl (wX q dA) (tX dA) sz M)) (va_Qv post (bW (dC, dI) vwCl (wX q dA) (tX dA) (va_A (wX q dA M) sz)) (va_A (wX q dA M) sz)) 0 0 (va_A (wX q dA M) sz) := by
  refine Met.ofW (cc := cXu_freeAllOf) (maxL := 3) (ret := none) (by decide) rfl ?_
  intro p e s m args below meth c s₁ B hml hv
  obtain ⟨rfl, hsz, hP, hK, hD0⟩ := hv
  have hx := B.exec
  have hb := B.bytes
  have hr := B.returns
  have hts := atoms_spec (ws := (wsA yXu_freeAllOf cXu_freeAllOf 3 none)) B.pre
  have hta : ∀ w ∈ wsG, w.before _ s = true := fun w h => hts w (List.mem_cons_of_mem _ h)
  have hown : s.vm.findClass "ServiceThreads$Units" = some m.cls := findClass_of_methodNamed B.named
  have hlocks := B.notSynchronized
  subst hsz
  have hD := hD0.self (sz := s.heap.size)
  generalize hAe : va_A (wX q dA M) s.heap.size = A at hD ⊢
  have hA : ∀ q : Nat, s.heap.size ≤ q → A q := fun q h => by rw [← hAe]; exact Or.inr h
  have hS : va_S A s.heap s.heap [] := va_S.rf
  dsimp only [wpXu_freeAllOf] at hw
  have hl := lv_entry ([.ref (q 2), .int p0]) (n := 3) (Nat.le_of_ble_eq_true rfl)
  rw [lg_entry_eq]
  generalize (lg_sl ([.ref (q 2), .int p0]) ++ List.replicate (3 - (lg_sl ([.ref (q 2), .int p0])).length) Slot.unset).toArray = ls at hl ⊢
  have hl : lv_has ls 3 [(0, .ref (q 2)), (1, .int p0)] := hl
  refine lv_iconst (v := 0) hx hb dXu_freeAllOf_0 (by decide) ?_
  refine lv_istore_n (lv' := [(2, .int 0), (0, .ref (q 2)), (1, .int p0)]) hx hb dXu_freeAllOf_1 rfl hl (by decide) rfl (fun ls hl => ?_)
  obtain ⟨n2, hw⟩ := hw
  exact LwlXu_freeAllOf_2 (A := A) (av := [.ref (q 2), .int p0]) ⟨hx, hb, hr, hml, hown, hta, hA, hK, hlocks⟩ n2 p0 0 M _ _ _ hw hP hD hS (lv_sub hl [1, 2, 0] rfl)
def wpXp_kindOf (p0 : Int32) (p1 : Int32) (M : Mm) (post : Int32 → Mm → Prop) : Prop := ∀ y_1 : Int32, y_1 = p0 * 16 → (∀ y_2 : Int32, y_2 = y_1 + p1 → (vp_in y_2 128 ∧ (∀ y_4 : Int32, y_4 = M 0 y_2.toNatClampNeg → (post y_4 M))))
set_option maxHeartbeats 4000000 in
set_option maxRecDepth 100000 in
theorem mtXp_kindOf (l : Launch) (dC : Nat → ClassId) (dI : Nat → Nat → Nat) (q : Nat → Nat) (dA : Nat → ClassId) (sz : Nat) (p0 : Int32) (p1 : Int32) (M : Mm) (post : Int32 → Mm → Prop) (hw : wpXp_kindOf p0 p1 M post) : Met l yXp_kindOf (wsA yXp_kindOf cXp_kindOf 3 (some .int)) ({ frames := 0, cells := 0, slots := 0, locals := 0 }) (va_Pc [.ref (q 1), .int p0, .int p1] (pW (dC, dI) vwCl (wX q dA) (tX dA) sz M)) (va_Qi post (bW (dC, dI) vwCl (wX q dA) (tX dA) (va_A (wX q dA M) sz)) (va_A (wX q dA M) sz)) 0 0 (va_A (wX q dA M) sz) := by
  refine Met.ofW (cc := cXp_kindOf) (maxL := 3) (ret := (some .int)) (by decide) rfl ?_
  intro p e s m args below meth c s₁ B hml hv
  obtain ⟨rfl, hsz, hP, hK, hD0⟩ := hv
  have hx := B.exec
  have hb := B.bytes
  have hr := B.returns
  have hts := atoms_spec (ws := (wsA yXp_kindOf cXp_kindOf 3 (some .int))) B.pre
  have hta : ∀ w ∈ wsG, w.before _ s = true := fun w h => hts w (List.mem_cons_of_mem _ h)
  have hown : s.vm.findClass "ServiceThreads$Programs" = some m.cls := findClass_of_methodNamed B.named
  have hlocks := B.notSynchronized
  subst hsz
  have hD := hD0.self (sz := s.heap.size)
  generalize hAe : va_A (wX q dA M) s.heap.size = A at hD ⊢
  have hA : ∀ q : Nat, s.heap.size ≤ q → A q := fun q h => by rw [← hAe]; exact Or.inr h
  have hS : va_S A s.heap s.heap [] := va_S.rf
  dsimp only [wpXp_kindOf] at hw
  have hl := lv_entry ([.ref (q 1), .int p0, .int p1]) (n := 3) (Nat.le_of_ble_eq_true rfl)
  rw [lg_entry_eq]
  generalize (lg_sl ([.ref (q 1), .int p0, .int p1]) ++ List.replicate (3 - (lg_sl ([.ref (q 1), .int p0, .int p1])).length) Slot.unset).toArray = ls at hl ⊢
  have hl : lv_has ls 3 [(0, .ref (q 1)), (1, .int p0), (2, .int p1)] := hl
  refine lv_aload_n hx hb dXp_kindOf_0 rfl (lv_at hl 0 rfl) ?_
  refine va_get (D := (dC, dI)) (ci := 1) (v := .ref (q 5)) (C := "ServiceThreads$Programs") (T := TXp) (N := 4) hx hb hta inXp hown hK hP 1 (wX_1 q dA M) rfl 0 (by decide) (hta _ wt_33) (fun _ h9 => h9) rfl dXp_kindOf_1 ?_
  refine lv_iload_n hx hb dXp_kindOf_4 rfl (lv_at hl 1 rfl) ?_
  refine lv_bipush (v := 16) hx hb dXp_kindOf_5 (by decide) ?_
  refine lv_imul hx hb dXp_kindOf_7 ?_
  refine lv_topi (fun y_1 ey_1 => ?_)
  have hw := hw y_1 ey_1
  refine lv_iload_n hx hb dXp_kindOf_8 rfl (lv_at hl 2 rfl) ?_
  refine lv_iadd hx hb dXp_kindOf_9 ?_
  refine lv_topi (fun y_2 ey_2 => ?_)
  have hw := hw y_2 ey_2
  obtain ⟨h_3, hw⟩ := hw
  refine ro_i (w := (wX q dA)) (M := M) hx hb hK hP 5 0 (wX_5 q dA M) rfl h_3 dXp_kindOf_10 (fun y_4 ey_4 => ?_)
  have hw := hw y_4 ey_4
  exact W.iret (v := y_4) hx hb hr (fun t ht hW => ⟨⟨y_4, M, rfl, hw, by rw [ht]; exact hP, va_K.moved hW.alike hK, hD⟩, hS.F ht⟩) hS.2.2 dXp_kindOf_11 hlocks
def wpXp_numberOf (p0 : Int32) (p1 : Int32) (M : Mm) (post : Int32 → Mm → Prop) : Prop := ∀ y_1 : Int32, y_1 = p0 * 16 → (∀ y_2 : Int32, y_2 = y_1 + p1 → (vp_in y_2 128 ∧ (∀ y_4 : Int32, y_4 = M 1 y_2.toNatClampNeg → (post y_4 M))))
set_option maxHeartbeats 4000000 in
set_option maxRecDepth 100000 in
theorem mtXp_numberOf (l : Launch) (dC : Nat → ClassId) (dI : Nat → Nat → Nat) (q : Nat → Nat) (dA : Nat → ClassId) (sz : Nat) (p0 : Int32) (p1 : Int32) (M : Mm) (post : Int32 → Mm → Prop) (hw : wpXp_numberOf p0 p1 M post) : Met l yXp_numberOf (wsA yXp_numberOf cXp_numberOf 3 (some .int)) ({ frames := 0, cells := 0, slots := 0, locals := 0 }) (va_Pc [.ref (q 1), .int p0, .int p1] (pW (dC, dI) vwCl (wX q dA) (tX dA) sz M)) (va_Qi post (bW (dC, dI) vwCl (wX q dA) (tX dA) (va_A (wX q dA M) sz)) (va_A (wX q dA M) sz)) 0 0 (va_A (wX q dA M) sz) := by
  refine Met.ofW (cc := cXp_numberOf) (maxL := 3) (ret := (some .int)) (by decide) rfl ?_
  intro p e s m args below meth c s₁ B hml hv
  obtain ⟨rfl, hsz, hP, hK, hD0⟩ := hv
  have hx := B.exec
  have hb := B.bytes
  have hr := B.returns
  have hts := atoms_spec (ws := (wsA yXp_numberOf cXp_numberOf 3 (some .int))) B.pre
  have hta : ∀ w ∈ wsG, w.before _ s = true := fun w h => hts w (List.mem_cons_of_mem _ h)
  have hown : s.vm.findClass "ServiceThreads$Programs" = some m.cls := findClass_of_methodNamed B.named
  have hlocks := B.notSynchronized
  subst hsz
  have hD := hD0.self (sz := s.heap.size)
  generalize hAe : va_A (wX q dA M) s.heap.size = A at hD ⊢
  have hA : ∀ q : Nat, s.heap.size ≤ q → A q := fun q h => by rw [← hAe]; exact Or.inr h
  have hS : va_S A s.heap s.heap [] := va_S.rf
  dsimp only [wpXp_numberOf] at hw
  have hl := lv_entry ([.ref (q 1), .int p0, .int p1]) (n := 3) (Nat.le_of_ble_eq_true rfl)
  rw [lg_entry_eq]
  generalize (lg_sl ([.ref (q 1), .int p0, .int p1]) ++ List.replicate (3 - (lg_sl ([.ref (q 1), .int p0, .int p1])).length) Slot.unset).toArray = ls at hl ⊢
  have hl : lv_has ls 3 [(0, .ref (q 1)), (1, .int p0), (2, .int p1)] := hl
  refine lv_aload_n hx hb dXp_numberOf_0 rfl (lv_at hl 0 rfl) ?_
  refine va_get (D := (dC, dI)) (ci := 1) (v := .ref (q 6)) (C := "ServiceThreads$Programs") (T := TXp) (N := 4) hx hb hta inXp hown hK hP 1 (wX_1 q dA M) rfl 1 (by decide) (hta _ wt_34) (fun _ h9 => h9) rfl dXp_numberOf_1 ?_
  refine lv_iload_n hx hb dXp_numberOf_4 rfl (lv_at hl 1 rfl) ?_
  refine lv_bipush (v := 16) hx hb dXp_numberOf_5 (by decide) ?_
  refine lv_imul hx hb dXp_numberOf_7 ?_
  refine lv_topi (fun y_1 ey_1 => ?_)
  have hw := hw y_1 ey_1
  refine lv_iload_n hx hb dXp_numberOf_8 rfl (lv_at hl 2 rfl) ?_
  refine lv_iadd hx hb dXp_numberOf_9 ?_
  refine lv_topi (fun y_2 ey_2 => ?_)
  have hw := hw y_2 ey_2
  obtain ⟨h_3, hw⟩ := hw
  refine ro_i (w := (wX q dA)) (M := M) hx hb hK hP 6 1 (wX_6 q dA M) rfl h_3 dXp_numberOf_10 (fun y_4 ey_4 => ?_)
  have hw := hw y_4 ey_4
  exact W.iret (v := y_4) hx hb hr (fun t ht hW => ⟨⟨y_4, M, rfl, hw, by rw [ht]; exact hP, va_K.moved hW.alike hK, hD⟩, hS.F ht⟩) hS.2.2 dXp_numberOf_11 hlocks
def wlXu_hasOneAbove_4 (post : Int32 → Mm → Prop) : Nat → Int32 → Int32 → Mm → Prop
  | 0, _, _ => fun _ => False
  | n4 + 1, x1, x3 => fun M => ((10 ≤ x3 → (post 0 M)) ∧ (¬ 10 ≤ x3 → (vp_in x3 10 ∧ (∀ y_4 : Int32, y_4 = M 4 x3.toNatClampNeg → (((y_4 = x1 → (post 1 M)) ∧ (¬ y_4 = x1 → (∀ x3_6 : Int32, x3_6 = x3 + 1 → (wlXu_hasOneAbove_4 post n4 x1 x3_6 M)))))))))
def wpXu_hasOneAbove (p0 : Int32) (p1 : Int32) (M : Mm) (post : Int32 → Mm → Prop) : Prop := ∀ y_1 : Int32, y_1 = p1 + 1 → (∃ n4 : Nat, wlXu_hasOneAbove_4 post n4 p0 y_1 M)
set_option maxHeartbeats 4000000 in
set_option maxRecDepth 100000 in
theorem LwlXu_hasOneAbove_4 {p : Program} {l : Launch} {e : Env} {s : State} {m : MethodId} {below : List Frame} {meth : Method} {c : Code} {dC : Nat → ClassId} {dI : Nat → Nat → Nat} {q : Nat → Nat} {dA : Nat → ClassId} {A : Nat → Prop} {av : List Value} {post : Int32 → Mm → Prop} (CX : p.tables.exec = Jvm.exec ∧ c.code = cXu_hasOneAbove ∧ meth.sig.returnType = (some .boolean) ∧ c.maxLocals = 4 ∧ s.vm.findClass "ServiceThreads$Units" = some m.cls ∧ (∀ w ∈ wsG, w.before av.toArray s = true) ∧ (∀ q : Nat, s.heap.size ≤ q → A q) ∧ va_K (dC, dI) vwCl (tX dA) s ∧ meth.locks = false) : ∀ (n4 : Nat) (x1 : Int32) (x3 : Int32) (M : Mm) (H : Heap) (locs : List Loc) (ls : Array Slot), wlXu_hasOneAbove_4 post n4 x1 x3 M → va_P (dC, dI) vwCl (wX q dA M) H → va_D A (wX q dA M) → va_S A s.heap H locs → lv_has ls 4 [(0, .ref (q 2)), (1, .int x1), (3, .int x3)] → W p l e (headSpec (wsA yXu_hasOneAbove cXu_hasOneAbove 4 (some .boolean)) ({ frames := 0, cells := 0, slots := 0, locals := 0 })).room s m av.toArray below meth c H locs 0 0 (MQ below (va_Qi post (bW (dC, dI) vwCl (wX q dA) (tX dA) A) A) av.toArray s 0 0 A) (F0 m 4 ls []) := by
  obtain ⟨hx, hb, hr, hml, hown, hta, hA, hK, hlocks⟩ := CX
  intro n4
  induction n4 with
  | zero =>
    intro x1 x3 M H locs ls hw
    exact False.elim hw
  | succ n4 ih4 =>
    intro x1 x3 M H locs ls hw hP hD hS hl
    dsimp only [wlXu_hasOneAbove_4] at hw
    refine lv_iload_n hx hb dXu_hasOneAbove_4 rfl (lv_at hl 2 rfl) ?_
    refine lv_bipush (v := 10) hx hb dXu_hasOneAbove_5 (by decide) ?_
    refine lv_icmp_ge (tgt := 28) hx hb dXu_hasOneAbove_7 (by decide) (fun c_2 => ?_) (fun c_2 => ?_)
    · have hw := hw.1 c_2
      refine lv_iconst (v := 0) hx hb dXu_hasOneAbove_28 (by decide) ?_
      exact W.zret (v := 0) hx hb hr (by decide) (fun t ht hW => ⟨⟨0, M, rfl, hw, by rw [ht]; exact hP, va_K.moved hW.alike hK, hD⟩, hS.F ht⟩) hS.2.2 dXu_hasOneAbove_29 hlocks
    · have hw := hw.2 c_2
      refine lv_aload_n hx hb dXu_hasOneAbove_10 rfl (lv_at hl 0 rfl) ?_
      refine va_get (D := (dC, dI)) (ci := 2) (v := .ref (q 9)) (C := "ServiceThreads$Units") (T := TXu) (N := 2) hx hb hta inXu hown hK hP 2 (wX_2 q dA M) rfl 0 (by decide) (hta _ wt_54) (fun _ h9 => h9) rfl dXu_hasOneAbove_11 ?_
      refine lv_iload_n hx hb dXu_hasOneAbove_14 rfl (lv_at hl 2 rfl) ?_
      obtain ⟨h_3, hw⟩ := hw
      refine ro_i (w := (wX q dA)) (M := M) hx hb hK hP 9 4 (wX_9 q dA M) rfl h_3 dXu_hasOneAbove_15 (fun y_4 ey_4 => ?_)
      have hw := hw y_4 ey_4
      refine lv_iload_n hx hb dXu_hasOneAbove_16 rfl (lv_at hl 1 rfl) ?_
      refine lv_icmp_ne (tgt := 22) hx hb dXu_hasOneAbove_17 (by decide) (fun c_5 => ?_) (fun c_5 => ?_)
      · have hw := hw.2 c_5
        obtain ⟨x3_6, ex3_6⟩ : ∃ y : Int32, y = x3 + 1 := ⟨_, rfl⟩
        have hw := hw x3_6 ex3_6
        refine lv_iinc (v := x3_6) (lv' := [(3, .int x3_6), (0, .ref (q 2)), (1, .int x1)]) hx hb dXu_hasOneAbove_22 hl (k := 2) rfl (by rw [ex3_6]; rfl) (by decide) rfl (fun ls hl => ?_)
        refine lv_goto (tgt := 4) hx hb dXu_hasOneAbove_25 (by decide) ?_
        exact ih4 x1 x3_6 M _ _ _ hw hP hD hS (lv_sub hl [1, 2, 0] rfl)
      · have hw := hw.1 c_5
        refine lv_iconst (v := 1) hx hb dXu_hasOneAbove_20 (by decide) ?_
        exact W.zret (v := 1) hx hb hr (by decide) (fun t ht hW => ⟨⟨1, M, rfl, hw, by rw [ht]; exact hP, va_K.moved hW.alike hK, hD⟩, hS.F ht⟩) hS.2.2 dXu_hasOneAbove_21 hlocks
set_option maxHeartbeats 4000000 in
set_option maxRecDepth 100000 in
theorem mtXu_hasOneAbove (l : Launch) (dC : Nat → ClassId) (dI : Nat → Nat → Nat) (q : Nat → Nat) (dA : Nat → ClassId) (sz : Nat) (p0 : Int32) (p1 : Int32) (M : Mm) (post : Int32 → Mm → Prop) (hw : wpXu_hasOneAbove p0 p1 M post) : Met l yXu_hasOneAbove (wsA yXu_hasOneAbove cXu_hasOneAbove 4 (some .boolean)) ({ frames := 0, cells := 0, slots := 0, locals := 0 }) (va_Pc [.ref (q 2), .int p0, .int p1] (pW (dC, dI) vwCl (wX q dA) (tX dA) sz M)) (va_Qi post (bW (dC, dI) vwCl (wX q dA) (tX dA) (va_A (wX q dA M) sz)) (va_A (wX q dA M) sz)) 0 0 (va_A (wX q dA M) sz) := by
  refine Met.ofW (cc := cXu_hasOneAbove) (maxL := 4) (ret := (some .boolean)) (by decide) rfl ?_
  intro p e s m args below meth c s₁ B hml hv
  obtain ⟨rfl, hsz, hP, hK, hD0⟩ := hv
  have hx := B.exec
  have hb := B.bytes
  have hr := B.returns
  have hts := atoms_spec (ws := (wsA yXu_hasOneAbove cXu_hasOneAbove 4 (some .boolean))) B.pre
  have hta : ∀ w ∈ wsG, w.before _ s = true := fun w h => hts w (List.mem_cons_of_mem _ h)
  have hown : s.vm.findClass "ServiceThreads$Units" = some m.cls := findClass_of_methodNamed B.named
  have hlocks := B.notSynchronized
  subst hsz
  have hD := hD0.self (sz := s.heap.size)
  generalize hAe : va_A (wX q dA M) s.heap.size = A at hD ⊢
  have hA : ∀ q : Nat, s.heap.size ≤ q → A q := fun q h => by rw [← hAe]; exact Or.inr h
  have hS : va_S A s.heap s.heap [] := va_S.rf
  dsimp only [wpXu_hasOneAbove] at hw
  have hl := lv_entry ([.ref (q 2), .int p0, .int p1]) (n := 4) (Nat.le_of_ble_eq_true rfl)
  rw [lg_entry_eq]
  generalize (lg_sl ([.ref (q 2), .int p0, .int p1]) ++ List.replicate (4 - (lg_sl ([.ref (q 2), .int p0, .int p1])).length) Slot.unset).toArray = ls at hl ⊢
  have hl : lv_has ls 4 [(0, .ref (q 2)), (1, .int p0), (2, .int p1)] := hl
  refine lv_iload_n hx hb dXu_hasOneAbove_0 rfl (lv_at hl 2 rfl) ?_
  refine lv_iconst (v := 1) hx hb dXu_hasOneAbove_1 (by decide) ?_
  refine lv_iadd hx hb dXu_hasOneAbove_2 ?_
  refine lv_topi (fun y_1 ey_1 => ?_)
  have hw := hw y_1 ey_1
  refine lv_istore_n (lv' := [(3, .int y_1), (0, .ref (q 2)), (1, .int p0), (2, .int p1)]) hx hb dXu_hasOneAbove_3 rfl hl (by decide) rfl (fun ls hl => ?_)
  obtain ⟨n4, hw⟩ := hw
  exact LwlXu_hasOneAbove_4 (A := A) (av := [.ref (q 2), .int p0, .int p1]) ⟨hx, hb, hr, hml, hown, hta, hA, hK, hlocks⟩ n4 p0 y_1 M _ _ _ hw hP hD hS (lv_sub hl [1, 2, 0] rfl)
def wpXp_finishOf (p0 : Int32) (M : Mm) (post : Int32 → Mm → Prop) : Prop := vp_in p0 8 ∧ (∀ y_2 : Int32, y_2 = M 3 p0.toNatClampNeg → (((y_2 = (-1) → (vp_in p0 8 ∧ (∀ y_7 : Int32, y_7 = M 2 p0.toNatClampNeg → (post y_7 M)))) ∧ (¬ y_2 = (-1) → (vp_in p0 8 ∧ (∀ y_5 : Int32, y_5 = M 3 p0.toNatClampNeg → (post y_5 M)))))))
set_option maxHeartbeats 4000000 in
set_option maxRecDepth 100000 in
theorem mtXp_finishOf (l : Launch) (dC : Nat → ClassId) (dI : Nat → Nat → Nat) (q : Nat → Nat) (dA : Nat → ClassId) (sz : Nat) (p0 : Int32) (M : Mm) (post : Int32 → Mm → Prop) (hw : wpXp_finishOf p0 M post) : Met l yXp_finishOf (wsA yXp_finishOf cXp_finishOf 2 (some .int)) ({ frames := 0, cells := 0, slots := 0, locals := 0 }) (va_Pc [.ref (q 1), .int p0] (pW (dC, dI) vwCl (wX q dA) (tX dA) sz M)) (va_Qi post (bW (dC, dI) vwCl (wX q dA) (tX dA) (va_A (wX q dA M) sz)) (va_A (wX q dA M) sz)) 0 0 (va_A (wX q dA M) sz) := by
  refine Met.ofW (cc := cXp_finishOf) (maxL := 2) (ret := (some .int)) (by decide) rfl ?_
  intro p e s m args below meth c s₁ B hml hv
  obtain ⟨rfl, hsz, hP, hK, hD0⟩ := hv
  have hx := B.exec
  have hb := B.bytes
  have hr := B.returns
  have hts := atoms_spec (ws := (wsA yXp_finishOf cXp_finishOf 2 (some .int))) B.pre
  have hta : ∀ w ∈ wsG, w.before _ s = true := fun w h => hts w (List.mem_cons_of_mem _ h)
  have hown : s.vm.findClass "ServiceThreads$Programs" = some m.cls := findClass_of_methodNamed B.named
  have hlocks := B.notSynchronized
  subst hsz
  have hD := hD0.self (sz := s.heap.size)
  generalize hAe : va_A (wX q dA M) s.heap.size = A at hD ⊢
  have hA : ∀ q : Nat, s.heap.size ≤ q → A q := fun q h => by rw [← hAe]; exact Or.inr h
  have hS : va_S A s.heap s.heap [] := va_S.rf
  dsimp only [wpXp_finishOf] at hw
  have hl := lv_entry ([.ref (q 1), .int p0]) (n := 2) (Nat.le_of_ble_eq_true rfl)
  rw [lg_entry_eq]
  generalize (lg_sl ([.ref (q 1), .int p0]) ++ List.replicate (2 - (lg_sl ([.ref (q 1), .int p0])).length) Slot.unset).toArray = ls at hl ⊢
  have hl : lv_has ls 2 [(0, .ref (q 1)), (1, .int p0)] := hl
  refine lv_aload_n hx hb dXp_finishOf_0 rfl (lv_at hl 0 rfl) ?_
  refine va_get (D := (dC, dI)) (ci := 1) (v := .ref (q 8)) (C := "ServiceThreads$Programs") (T := TXp) (N := 4) hx hb hta inXp hown hK hP 1 (wX_1 q dA M) rfl 3 (by decide) (hta _ wt_36) (fun _ h9 => h9) rfl dXp_finishOf_1 ?_
  refine lv_iload_n hx hb dXp_finishOf_4 rfl (lv_at hl 1 rfl) ?_
  obtain ⟨h_1, hw⟩ := hw
  refine ro_i (w := (wX q dA)) (M := M) hx hb hK hP 8 3 (wX_8 q dA M) rfl h_1 dXp_finishOf_5 (fun y_2 ey_2 => ?_)
  have hw := hw y_2 ey_2
  refine lv_iconst (v := (-1)) hx hb dXp_finishOf_6 (by decide) ?_
  refine lv_icmp_ne (tgt := 19) hx hb dXp_finishOf_7 (by decide) (fun c_3 => ?_) (fun c_3 => ?_)
  · have hw := hw.2 c_3
    refine lv_aload_n hx hb dXp_finishOf_19 rfl (lv_at hl 0 rfl) ?_
    refine va_get (D := (dC, dI)) (ci := 1) (v := .ref (q 8)) (C := "ServiceThreads$Programs") (T := TXp) (N := 4) hx hb hta inXp hown hK hP 1 (wX_1 q dA M) rfl 3 (by decide) (hta _ wt_36) (fun _ h9 => h9) rfl dXp_finishOf_20 ?_
    refine lv_iload_n hx hb dXp_finishOf_23 rfl (lv_at hl 1 rfl) ?_
    obtain ⟨h_4, hw⟩ := hw
    refine ro_i (w := (wX q dA)) (M := M) hx hb hK hP 8 3 (wX_8 q dA M) rfl h_4 dXp_finishOf_24 (fun y_5 ey_5 => ?_)
    have hw := hw y_5 ey_5
    exact W.iret (v := y_5) hx hb hr (fun t ht hW => ⟨⟨y_5, M, rfl, hw, by rw [ht]; exact hP, va_K.moved hW.alike hK, hD⟩, hS.F ht⟩) hS.2.2 dXp_finishOf_25 hlocks
  · have hw := hw.1 c_3
    refine lv_aload_n hx hb dXp_finishOf_10 rfl (lv_at hl 0 rfl) ?_
    refine va_get (D := (dC, dI)) (ci := 1) (v := .ref (q 7)) (C := "ServiceThreads$Programs") (T := TXp) (N := 4) hx hb hta inXp hown hK hP 1 (wX_1 q dA M) rfl 2 (by decide) (hta _ wt_35) (fun _ h9 => h9) rfl dXp_finishOf_11 ?_
    refine lv_iload_n hx hb dXp_finishOf_14 rfl (lv_at hl 1 rfl) ?_
    obtain ⟨h_6, hw⟩ := hw
    refine ro_i (w := (wX q dA)) (M := M) hx hb hK hP 7 2 (wX_7 q dA M) rfl h_6 dXp_finishOf_15 (fun y_7 ey_7 => ?_)
    have hw := hw y_7 ey_7
    refine lv_goto (tgt := 25) hx hb dXp_finishOf_16 (by decide) ?_
    exact W.iret (v := y_7) hx hb hr (fun t ht hW => ⟨⟨y_7, M, rfl, hw, by rw [ht]; exact hP, va_K.moved hW.alike hK, hD⟩, hS.F ht⟩) hS.2.2 dXp_finishOf_25 hlocks
def wlXu_lockedByCount_4 (post : Int32 → Mm → Prop) : Nat → Int32 → Int32 → Int32 → Mm → Prop
  | 0, _, _, _ => fun _ => False
  | n4 + 1, x1, x2, x3 => fun M => ((10 ≤ x3 → (post x2 M)) ∧ (¬ 10 ≤ x3 → (vp_in x3 10 ∧ (∀ y_3 : Int32, y_3 = M 4 x3.toNatClampNeg → (((y_3 = x1 → (∀ x2_6 : Int32, x2_6 = x2 + 1 → (∀ x3_7 : Int32, x3_7 = x3 + 1 → (wlXu_lockedByCount_4 post n4 x1 x2_6 x3_7 M)))) ∧ (¬ y_3 = x1 → (∀ x3_5 : Int32, x3_5 = x3 + 1 → (wlXu_lockedByCount_4 post n4 x1 x2 x3_5 M)))))))))
def wpXu_lockedByCount (p0 : Int32) (M : Mm) (post : Int32 → Mm → Prop) : Prop := ∃ n4 : Nat, wlXu_lockedByCount_4 post n4 p0 0 0 M
set_option maxHeartbeats 4000000 in
set_option maxRecDepth 100000 in
theorem LwlXu_lockedByCount_4 {p : Program} {l : Launch} {e : Env} {s : State} {m : MethodId} {below : List Frame} {meth : Method} {c : Code} {dC : Nat → ClassId} {dI : Nat → Nat → Nat} {q : Nat → Nat} {dA : Nat → ClassId} {A : Nat → Prop} {av : List Value} {post : Int32 → Mm → Prop} (CX : p.tables.exec = Jvm.exec ∧ c.code = cXu_lockedByCount ∧ meth.sig.returnType = (some .int) ∧ c.maxLocals = 4 ∧ s.vm.findClass "ServiceThreads$Units" = some m.cls ∧ (∀ w ∈ wsG, w.before av.toArray s = true) ∧ (∀ q : Nat, s.heap.size ≤ q → A q) ∧ va_K (dC, dI) vwCl (tX dA) s ∧ meth.locks = false) : ∀ (n4 : Nat) (x1 : Int32) (x2 : Int32) (x3 : Int32) (M : Mm) (H : Heap) (locs : List Loc) (ls : Array Slot), wlXu_lockedByCount_4 post n4 x1 x2 x3 M → va_P (dC, dI) vwCl (wX q dA M) H → va_D A (wX q dA M) → va_S A s.heap H locs → lv_has ls 4 [(0, .ref (q 2)), (1, .int x1), (2, .int x2), (3, .int x3)] → W p l e (headSpec (wsA yXu_lockedByCount cXu_lockedByCount 4 (some .int)) ({ frames := 0, cells := 0, slots := 0, locals := 0 })).room s m av.toArray below meth c H locs 0 0 (MQ below (va_Qi post (bW (dC, dI) vwCl (wX q dA) (tX dA) A) A) av.toArray s 0 0 A) (F0 m 4 ls []) := by
  obtain ⟨hx, hb, hr, hml, hown, hta, hA, hK, hlocks⟩ := CX
  intro n4
  induction n4 with
  | zero =>
    intro x1 x2 x3 M H locs ls hw
    exact False.elim hw
  | succ n4 ih4 =>
    intro x1 x2 x3 M H locs ls hw hP hD hS hl
    dsimp only [wlXu_lockedByCount_4] at hw
    refine lv_iload_n hx hb dXu_lockedByCount_4 rfl (lv_at hl 3 rfl) ?_
    refine lv_bipush (v := 10) hx hb dXu_lockedByCount_5 (by decide) ?_
    refine lv_icmp_ge (tgt := 29) hx hb dXu_lockedByCount_7 (by decide) (fun c_1 => ?_) (fun c_1 => ?_)
    · have hw := hw.1 c_1
      refine lv_iload_n hx hb dXu_lockedByCount_29 rfl (lv_at hl 2 rfl) ?_
      exact W.iret (v := x2) hx hb hr (fun t ht hW => ⟨⟨x2, M, rfl, hw, by rw [ht]; exact hP, va_K.moved hW.alike hK, hD⟩, hS.F ht⟩) hS.2.2 dXu_lockedByCount_30 hlocks
    · have hw := hw.2 c_1
      refine lv_aload_n hx hb dXu_lockedByCount_10 rfl (lv_at hl 0 rfl) ?_
      refine va_get (D := (dC, dI)) (ci := 2) (v := .ref (q 9)) (C := "ServiceThreads$Units") (T := TXu) (N := 2) hx hb hta inXu hown hK hP 2 (wX_2 q dA M) rfl 0 (by decide) (hta _ wt_54) (fun _ h9 => h9) rfl dXu_lockedByCount_11 ?_
      refine lv_iload_n hx hb dXu_lockedByCount_14 rfl (lv_at hl 3 rfl) ?_
      obtain ⟨h_2, hw⟩ := hw
      refine ro_i (w := (wX q dA)) (M := M) hx hb hK hP 9 4 (wX_9 q dA M) rfl h_2 dXu_lockedByCount_15 (fun y_3 ey_3 => ?_)
      have hw := hw y_3 ey_3
      refine lv_iload_n hx hb dXu_lockedByCount_16 rfl (lv_at hl 1 rfl) ?_
      refine lv_icmp_ne (tgt := 23) hx hb dXu_lockedByCount_17 (by decide) (fun c_4 => ?_) (fun c_4 => ?_)
      · have hw := hw.2 c_4
        obtain ⟨x3_5, ex3_5⟩ : ∃ y : Int32, y = x3 + 1 := ⟨_, rfl⟩
        have hw := hw x3_5 ex3_5
        refine lv_iinc (v := x3_5) (lv' := [(3, .int x3_5), (0, .ref (q 2)), (1, .int x1), (2, .int x2)]) hx hb dXu_lockedByCount_23 hl (k := 3) rfl (by rw [ex3_5]; rfl) (by decide) rfl (fun ls hl => ?_)
        refine lv_goto (tgt := 4) hx hb dXu_lockedByCount_26 (by decide) ?_
        exact ih4 x1 x2 x3_5 M _ _ _ hw hP hD hS (lv_sub hl [1, 2, 3, 0] rfl)
      · have hw := hw.1 c_4
        obtain ⟨x2_6, ex2_6⟩ : ∃ y : Int32, y = x2 + 1 := ⟨_, rfl⟩
        have hw := hw x2_6 ex2_6
        refine lv_iinc (v := x2_6) (lv' := [(2, .int x2_6), (0, .ref (q 2)), (1, .int x1), (3, .int x3)]) hx hb dXu_lockedByCount_20 hl (k := 2) rfl (by rw [ex2_6]; rfl) (by decide) rfl (fun ls hl => ?_)
        obtain ⟨x3_7, ex3_7⟩ : ∃ y : Int32, y = x3 + 1 := ⟨_, rfl⟩
        have hw := hw x3_7 ex3_7
        refine lv_iinc (v := x3_7) (lv' := [(3, .int x3_7), (2, .int x2_6), (0, .ref (q 2)), (1, .int x1)]) hx hb dXu_lockedByCount_23 hl (k := 3) rfl (by rw [ex3_7]; rfl) (by decide) rfl (fun ls hl => ?_)
        refine lv_goto (tgt := 4) hx hb dXu_lockedByCount_26 (by decide) ?_
        exact ih4 x1 x2_6 x3_7 M _ _ _ hw hP hD hS (lv_sub hl [2, 3, 1, 0] rfl)
set_option maxHeartbeats 4000000 in
set_option maxRecDepth 100000 in
theorem mtXu_lockedByCount (l : Launch) (dC : Nat → ClassId) (dI : Nat → Nat → Nat) (q : Nat → Nat) (dA : Nat → ClassId) (sz : Nat) (p0 : Int32) (M : Mm) (post : Int32 → Mm → Prop) (hw : wpXu_lockedByCount p0 M post) : Met l yXu_lockedByCount (wsA yXu_lockedByCount cXu_lockedByCount 4 (some .int)) ({ frames := 0, cells := 0, slots := 0, locals := 0 }) (va_Pc [.ref (q 2), .int p0] (pW (dC, dI) vwCl (wX q dA) (tX dA) sz M)) (va_Qi post (bW (dC, dI) vwCl (wX q dA) (tX dA) (va_A (wX q dA M) sz)) (va_A (wX q dA M) sz)) 0 0 (va_A (wX q dA M) sz) := by
  refine Met.ofW (cc := cXu_lockedByCount) (maxL := 4) (ret := (some .int)) (by decide) rfl ?_
  intro p e s m args below meth c s₁ B hml hv
  obtain ⟨rfl, hsz, hP, hK, hD0⟩ := hv
  have hx := B.exec
  have hb := B.bytes
  have hr := B.returns
  have hts := atoms_spec (ws := (wsA yXu_lockedByCount cXu_lockedByCount 4 (some .int))) B.pre
  have hta : ∀ w ∈ wsG, w.before _ s = true := fun w h => hts w (List.mem_cons_of_mem _ h)
  have hown : s.vm.findClass "ServiceThreads$Units" = some m.cls := findClass_of_methodNamed B.named
  have hlocks := B.notSynchronized
  subst hsz
  have hD := hD0.self (sz := s.heap.size)
  generalize hAe : va_A (wX q dA M) s.heap.size = A at hD ⊢
  have hA : ∀ q : Nat, s.heap.size ≤ q → A q := fun q h => by rw [← hAe]; exact Or.inr h
  have hS : va_S A s.heap s.heap [] := va_S.rf
  dsimp only [wpXu_lockedByCount] at hw
  have hl := lv_entry ([.ref (q 2), .int p0]) (n := 4) (Nat.le_of_ble_eq_true rfl)
  rw [lg_entry_eq]
  generalize (lg_sl ([.ref (q 2), .int p0]) ++ List.replicate (4 - (lg_sl ([.ref (q 2), .int p0])).length) Slot.unset).toArray = ls at hl ⊢
  have hl : lv_has ls 4 [(0, .ref (q 2)), (1, .int p0)] := hl
  refine lv_iconst (v := 0) hx hb dXu_lockedByCount_0 (by decide) ?_
  refine lv_istore_n (lv' := [(2, .int 0), (0, .ref (q 2)), (1, .int p0)]) hx hb dXu_lockedByCount_1 rfl hl (by decide) rfl (fun ls hl => ?_)
  refine lv_iconst (v := 0) hx hb dXu_lockedByCount_2 (by decide) ?_
  refine lv_istore_n (lv' := [(3, .int 0), (2, .int 0), (0, .ref (q 2)), (1, .int p0)]) hx hb dXu_lockedByCount_3 rfl hl (by decide) rfl (fun ls hl => ?_)
  obtain ⟨n4, hw⟩ := hw
  exact LwlXu_lockedByCount_4 (A := A) (av := [.ref (q 2), .int p0]) ⟨hx, hb, hr, hml, hown, hta, hA, hK, hlocks⟩ n4 p0 0 0 M _ _ _ hw hP hD hS (lv_sub hl [2, 3, 1, 0] rfl)
def wlXu_sentCount_4 (post : Int32 → Mm → Prop) : Nat → Int32 → Int32 → Mm → Prop
  | 0, _, _ => fun _ => False
  | n4 + 1, x1, x2 => fun M => ((10 ≤ x2 → (post x1 M)) ∧ (¬ 10 ≤ x2 → (vp_in x2 10 ∧ (∀ y_3 : Int32, y_3 = M 5 x2.toNatClampNeg → (((y_3 = (-1) → (∀ x2_5 : Int32, x2_5 = x2 + 1 → (wlXu_sentCount_4 post n4 x1 x2_5 M))) ∧ (¬ y_3 = (-1) → (∀ x1_6 : Int32, x1_6 = x1 + 1 → (∀ x2_7 : Int32, x2_7 = x2 + 1 → (wlXu_sentCount_4 post n4 x1_6 x2_7 M))))))))))
def wpXu_sentCount (M : Mm) (post : Int32 → Mm → Prop) : Prop := ∃ n4 : Nat, wlXu_sentCount_4 post n4 0 0 M
set_option maxHeartbeats 4000000 in
set_option maxRecDepth 100000 in
theorem LwlXu_sentCount_4 {p : Program} {l : Launch} {e : Env} {s : State} {m : MethodId} {below : List Frame} {meth : Method} {c : Code} {dC : Nat → ClassId} {dI : Nat → Nat → Nat} {q : Nat → Nat} {dA : Nat → ClassId} {A : Nat → Prop} {av : List Value} {post : Int32 → Mm → Prop} (CX : p.tables.exec = Jvm.exec ∧ c.code = cXu_sentCount ∧ meth.sig.returnType = (some .int) ∧ c.maxLocals = 3 ∧ s.vm.findClass "ServiceThreads$Units" = some m.cls ∧ (∀ w ∈ wsG, w.before av.toArray s = true) ∧ (∀ q : Nat, s.heap.size ≤ q → A q) ∧ va_K (dC, dI) vwCl (tX dA) s ∧ meth.locks = false) : ∀ (n4 : Nat) (x1 : Int32) (x2 : Int32) (M : Mm) (H : Heap) (locs : List Loc) (ls : Array Slot), wlXu_sentCount_4 post n4 x1 x2 M → va_P (dC, dI) vwCl (wX q dA M) H → va_D A (wX q dA M) → va_S A s.heap H locs → lv_has ls 3 [(0, .ref (q 2)), (1, .int x1), (2, .int x2)] → W p l e (headSpec (wsA yXu_sentCount cXu_sentCount 3 (some .int)) ({ frames := 0, cells := 0, slots := 0, locals := 0 })).room s m av.toArray below meth c H locs 0 0 (MQ below (va_Qi post (bW (dC, dI) vwCl (wX q dA) (tX dA) A) A) av.toArray s 0 0 A) (F0 m 4 ls []) := by
  obtain ⟨hx, hb, hr, hml, hown, hta, hA, hK, hlocks⟩ := CX
  intro n4
  induction n4 with
  | zero =>
    intro x1 x2 M H locs ls hw
    exact False.elim hw
  | succ n4 ih4 =>
    intro x1 x2 M H locs ls hw hP hD hS hl
    dsimp only [wlXu_sentCount_4] at hw
    refine lv_iload_n hx hb dXu_sentCount_4 rfl (lv_at hl 2 rfl) ?_
    refine lv_bipush (v := 10) hx hb dXu_sentCount_5 (by decide) ?_
    refine lv_icmp_ge (tgt := 29) hx hb dXu_sentCount_7 (by decide) (fun c_1 => ?_) (fun c_1 => ?_)
    · have hw := hw.1 c_1
      refine lv_iload_n hx hb dXu_sentCount_29 rfl (lv_at hl 1 rfl) ?_
      exact W.iret (v := x1) hx hb hr (fun t ht hW => ⟨⟨x1, M, rfl, hw, by rw [ht]; exact hP, va_K.moved hW.alike hK, hD⟩, hS.F ht⟩) hS.2.2 dXu_sentCount_30 hlocks
    · have hw := hw.2 c_1
      refine lv_aload_n hx hb dXu_sentCount_10 rfl (lv_at hl 0 rfl) ?_
      refine va_get (D := (dC, dI)) (ci := 2) (v := .ref (q 10)) (C := "ServiceThreads$Units") (T := TXu) (N := 2) hx hb hta inXu hown hK hP 2 (wX_2 q dA M) rfl 1 (by decide) (hta _ wt_56) (fun _ h9 => h9) rfl dXu_sentCount_11 ?_
      refine lv_iload_n hx hb dXu_sentCount_14 rfl (lv_at hl 2 rfl) ?_
      obtain ⟨h_2, hw⟩ := hw
      refine ro_i (w := (wX q dA)) (M := M) hx hb hK hP 10 5 (wX_10 q dA M) rfl h_2 dXu_sentCount_15 (fun y_3 ey_3 => ?_)
      have hw := hw y_3 ey_3
      refine lv_iconst (v := (-1)) hx hb dXu_sentCount_16 (by decide) ?_
      refine lv_icmp_eq (tgt := 23) hx hb dXu_sentCount_17 (by decide) (fun c_4 => ?_) (fun c_4 => ?_)
      · have hw := hw.1 c_4
        obtain ⟨x2_5, ex2_5⟩ : ∃ y : Int32, y = x2 + 1 := ⟨_, rfl⟩
        have hw := hw x2_5 ex2_5
        refine lv_iinc (v := x2_5) (lv' := [(2, .int x2_5), (0, .ref (q 2)), (1, .int x1)]) hx hb dXu_sentCount_23 hl (k := 2) rfl (by rw [ex2_5]; rfl) (by decide) rfl (fun ls hl => ?_)
        refine lv_goto (tgt := 4) hx hb dXu_sentCount_26 (by decide) ?_
        exact ih4 x1 x2_5 M _ _ _ hw hP hD hS (lv_sub hl [1, 2, 0] rfl)
      · have hw := hw.2 c_4
        obtain ⟨x1_6, ex1_6⟩ : ∃ y : Int32, y = x1 + 1 := ⟨_, rfl⟩
        have hw := hw x1_6 ex1_6
        refine lv_iinc (v := x1_6) (lv' := [(1, .int x1_6), (0, .ref (q 2)), (2, .int x2)]) hx hb dXu_sentCount_20 hl (k := 1) rfl (by rw [ex1_6]; rfl) (by decide) rfl (fun ls hl => ?_)
        obtain ⟨x2_7, ex2_7⟩ : ∃ y : Int32, y = x2 + 1 := ⟨_, rfl⟩
        have hw := hw x2_7 ex2_7
        refine lv_iinc (v := x2_7) (lv' := [(2, .int x2_7), (1, .int x1_6), (0, .ref (q 2))]) hx hb dXu_sentCount_23 hl (k := 2) rfl (by rw [ex2_7]; rfl) (by decide) rfl (fun ls hl => ?_)
        refine lv_goto (tgt := 4) hx hb dXu_sentCount_26 (by decide) ?_
        exact ih4 x1_6 x2_7 M _ _ _ hw hP hD hS (lv_sub hl [2, 1, 0] rfl)
set_option maxHeartbeats 4000000 in
set_option maxRecDepth 100000 in
theorem mtXu_sentCount (l : Launch) (dC : Nat → ClassId) (dI : Nat → Nat → Nat) (q : Nat → Nat) (dA : Nat → ClassId) (sz : Nat) (M : Mm) (post : Int32 → Mm → Prop) (hw : wpXu_sentCount M post) : Met l yXu_sentCount (wsA yXu_sentCount cXu_sentCount 3 (some .int)) ({ frames := 0, cells := 0, slots := 0, locals := 0 }) (va_Pc [.ref (q 2)] (pW (dC, dI) vwCl (wX q dA) (tX dA) sz M)) (va_Qi post (bW (dC, dI) vwCl (wX q dA) (tX dA) (va_A (wX q dA M) sz)) (va_A (wX q dA M) sz)) 0 0 (va_A (wX q dA M) sz) := by
  refine Met.ofW (cc := cXu_sentCount) (maxL := 3) (ret := (some .int)) (by decide) rfl ?_
  intro p e s m args below meth c s₁ B hml hv
  obtain ⟨rfl, hsz, hP, hK, hD0⟩ := hv
  have hx := B.exec
  have hb := B.bytes
  have hr := B.returns
  have hts := atoms_spec (ws := (wsA yXu_sentCount cXu_sentCount 3 (some .int))) B.pre
  have hta : ∀ w ∈ wsG, w.before _ s = true := fun w h => hts w (List.mem_cons_of_mem _ h)
  have hown : s.vm.findClass "ServiceThreads$Units" = some m.cls := findClass_of_methodNamed B.named
  have hlocks := B.notSynchronized
  subst hsz
  have hD := hD0.self (sz := s.heap.size)
  generalize hAe : va_A (wX q dA M) s.heap.size = A at hD ⊢
  have hA : ∀ q : Nat, s.heap.size ≤ q → A q := fun q h => by rw [← hAe]; exact Or.inr h
  have hS : va_S A s.heap s.heap [] := va_S.rf
  dsimp only [wpXu_sentCount] at hw
  have hl := lv_entry ([.ref (q 2)]) (n := 3) (Nat.le_of_ble_eq_true rfl)
  rw [lg_entry_eq]
  generalize (lg_sl ([.ref (q 2)]) ++ List.replicate (3 - (lg_sl ([.ref (q 2)])).length) Slot.unset).toArray = ls at hl ⊢
  have hl : lv_has ls 3 [(0, .ref (q 2))] := hl
  refine lv_iconst (v := 0) hx hb dXu_sentCount_0 (by decide) ?_
  refine lv_istore_n (lv' := [(1, .int 0), (0, .ref (q 2))]) hx hb dXu_sentCount_1 rfl hl (by decide) rfl (fun ls hl => ?_)
  refine lv_iconst (v := 0) hx hb dXu_sentCount_2 (by decide) ?_
  refine lv_istore_n (lv' := [(2, .int 0), (1, .int 0), (0, .ref (q 2))]) hx hb dXu_sentCount_3 rfl hl (by decide) rfl (fun ls hl => ?_)
  obtain ⟨n4, hw⟩ := hw
  exact LwlXu_sentCount_4 (A := A) (av := [.ref (q 2)]) ⟨hx, hb, hr, hml, hown, hta, hA, hK, hlocks⟩ n4 0 0 M _ _ _ hw hP hD hS (lv_sub hl [2, 1, 0] rfl)
def wpXu_lockedCount (M : Mm) (post : Int32 → Mm → Prop) : Prop := wpXu_lockedByCount (-1) M (fun r_1 M_2 => (∀ y_3 : Int32, y_3 = (10 : Int32) - r_1 → (post y_3 M_2)))
set_option maxHeartbeats 4000000 in
set_option maxRecDepth 100000 in
theorem mtXu_lockedCount (l : Launch) (dC : Nat → ClassId) (dI : Nat → Nat → Nat) (q : Nat → Nat) (dA : Nat → ClassId) (sz : Nat) (M : Mm) (post : Int32 → Mm → Prop) (hw : wpXu_lockedCount M post) : Met l yXu_lockedCount (wsA yXu_lockedCount cXu_lockedCount 1 (some .int)) ({ frames := 1, cells := 0, slots := 0, locals := 23 }) (va_Pc [.ref (q 2)] (pW (dC, dI) vwCl (wX q dA) (tX dA) sz M)) (va_Qi post (bW (dC, dI) vwCl (wX q dA) (tX dA) (va_A (wX q dA M) sz)) (va_A (wX q dA M) sz)) 0 0 (va_A (wX q dA M) sz) := by
  refine Met.ofW (cc := cXu_lockedCount) (maxL := 1) (ret := (some .int)) (by decide) rfl ?_
  intro p e s m args below meth c s₁ B hml hv
  obtain ⟨rfl, hsz, hP, hK, hD0⟩ := hv
  have hx := B.exec
  have hb := B.bytes
  have hr := B.returns
  have hts := atoms_spec (ws := (wsA yXu_lockedCount cXu_lockedCount 1 (some .int))) B.pre
  have hta : ∀ w ∈ wsG, w.before _ s = true := fun w h => hts w (List.mem_cons_of_mem _ h)
  have hown : s.vm.findClass "ServiceThreads$Units" = some m.cls := findClass_of_methodNamed B.named
  have hlocks := B.notSynchronized
  subst hsz
  have hD := hD0.self (sz := s.heap.size)
  generalize hAe : va_A (wX q dA M) s.heap.size = A at hD ⊢
  have hA : ∀ q : Nat, s.heap.size ≤ q → A q := fun q h => by rw [← hAe]; exact Or.inr h
  have hS : va_S A s.heap s.heap [] := va_S.rf
  dsimp only [wpXu_lockedCount] at hw
  have hl := lv_entry ([.ref (q 2)]) (n := 1) (Nat.le_of_ble_eq_true rfl)
  rw [lg_entry_eq]
  generalize (lg_sl ([.ref (q 2)]) ++ List.replicate (1 - (lg_sl ([.ref (q 2)])).length) Slot.unset).toArray = ls at hl ⊢
  have hl : lv_has ls 1 [(0, .ref (q 2))] := hl
  refine lv_bipush (v := 10) hx hb dXu_lockedCount_0 (by decide) ?_
  refine lv_aload_n hx hb dXu_lockedCount_2 rfl (lv_at hl 0 rfl) ?_
  refine lv_iconst (v := (-1)) hx hb dXu_lockedCount_3 (by decide) ?_
  refine cn_i (w := (wX q dA)) (M := M) (wX_ad q dA) (va_runV (As := [.int (-1)]) (rest := [.int 10]) ⟨hx, hb, hml, hown, hta⟩ (mtXu_lockedByCount l dC dI q dA s.heap.size (-1) M _ hw) (cwV 1 hta (giV wt_557 wt_517 wt_518 wt_4 wt_519) rfl rfl rfl (by decide +kernel) ⟨Nat.le_of_ble_eq_true rfl, Nat.le_of_ble_eq_true rfl⟩) ⟨pW_blind, va_recv hK hP (ci := 2) (q0 := 2) rfl (wX_2 q dA M), pW_of hK hP hD⟩ rfl rfl hl.1 rfl (lv_room (Nat.le_of_ble_eq_true rfl)) dXu_lockedCount_4 ⟨Nat.le_of_ble_eq_true rfl, Nat.le_of_ble_eq_true rfl⟩) hD hS hA (fun r_1 M_2 H locs hw hP hD hS => ?_)
  refine lv_isub hx hb dXu_lockedCount_7 ?_
  refine lv_topi (fun y_3 ey_3 => ?_)
  have hw := hw y_3 ey_3
  exact W.iret (v := y_3) hx hb hr (fun t ht hW => ⟨⟨y_3, M_2, rfl, hw, by rw [ht]; exact hP, va_K.moved hW.alike hK, hD⟩, hS.F ht⟩) hS.2.2 dXu_lockedCount_8 hlocks
