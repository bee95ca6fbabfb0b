def wpXs_end (p0 : Int32) (M : Mm) (post : Mm → Prop) : Prop := vp_in p0 8 ∧ (∀ M_2 : Mm, M_2 = stM M 14 (upd (M 14) p0.toNatClampNeg 1) → (wpXu_freeAllOf p0 M_2 (fun M_4 => (post M_4))))
set_option maxHeartbeats 4000000 in
set_option maxRecDepth 100000 in
theorem mtXs_end (l : Launch) (dC : Nat → ClassId) (dI : Nat → Nat → Nat) (q : Nat → Nat) (dA : Nat → ClassId) (sz : Nat) (p0 : Int32) (M : Mm) (post : Mm → Prop) (hw : wpXs_end p0 M post) : Met l yXs_end (wsA yXs_end cXs_end 2 none) ({ frames := 1, cells := 0, slots := 0, locals := 22 }) (va_Pc [.ref (q 0), .int p0] (pW (dC, dI) vwCl (wX q dA) (tX dA) sz M)) (va_Qv post (bW (dC, dI) vwCl (wX q dA) (tX dA) (va_A (wX q dA M) sz)) (va_A (wX q dA M) sz)) 0 0 (va_A (wX q dA M) sz) := by
  refine Met.ofW (cc := cXs_end) (maxL := 2) (ret := none) (by decide) rfl ?_
  intro p e s m args below meth c s₁ B hml hv
  obtain ⟨rfl, hsz, hP, hK, hD0⟩ := hv
  have hx := B.exec
  have hb := B.bytes
  have hr := B.returns
  have hts := atoms_spec (ws := (wsA yXs_end cXs_end 2 none)) B.pre
  have hta : ∀ w ∈ wsG, w.before _ s = true := fun w h => hts w (List.mem_cons_of_mem _ h)
  have hown : s.vm.findClass "ServiceThreads" = some m.cls := findClass_of_methodNamed B.named
  have hlocks := B.notSynchronized
  subst hsz
  have hD := hD0.self (sz := s.heap.size)
  generalize hAe : va_A (wX q dA M) s.heap.size = A at hD ⊢
  have hA : ∀ q : Nat, s.heap.size ≤ q → A q := fun q h => by rw [← hAe]; exact Or.inr h
  have hS : va_S A s.heap s.heap [] := va_S.rf
  dsimp only [wpXs_end] at hw
  have hl := lv_entry ([.ref (q 0), .int p0]) (n := 2) (Nat.le_of_ble_eq_true rfl)
  rw [lg_entry_eq]
  generalize (lg_sl ([.ref (q 0), .int p0]) ++ List.replicate (2 - (lg_sl ([.ref (q 0), .int p0])).length) Slot.unset).toArray = ls at hl ⊢
  have hl : lv_has ls 2 [(0, .ref (q 0)), (1, .int p0)] := hl
  refine lv_aload_n hx hb dXs_end_0 rfl (lv_at hl 0 rfl) ?_
  refine va_get (D := (dC, dI)) (ci := 0) (v := .ref (q 19)) (C := "ServiceThreads") (T := TXs) (N := 14) hx hb hta inXs hown hK hP 0 (wX_0 q dA M) rfl 4 (by decide) (hta _ wt_122) (fun _ h9 => h9) rfl dXs_end_1 ?_
  refine lv_iload_n hx hb dXs_end_4 rfl (lv_at hl 1 rfl) ?_
  refine lv_iconst (v := 1) hx hb dXs_end_5 (by decide) ?_
  obtain ⟨h_1, hw⟩ := hw
  refine wo_i (w := (wX q dA)) (M := M) hx hb hK hP hD hS 19 14 (wX_19 q dA M) (wX_s19 q dA M) rfl h_1 dXs_end_6 (fun M_2 H locs eM_2 hP hD hS => ?_)
  have hw := hw M_2 eM_2
  refine lv_aload_n hx hb dXs_end_7 rfl (lv_at hl 0 rfl) ?_
  refine va_get (D := (dC, dI)) (ci := 0) (v := .ref (q 2)) (C := "ServiceThreads") (T := TXs) (N := 14) hx hb hta inXs hown hK hP 0 (wX_0 q dA M_2) rfl 1 (by decide) (hta _ wt_119) (fun _ h9 => h9) rfl dXs_end_8 ?_
  refine lv_iload_n hx hb dXs_end_11 rfl (lv_at hl 1 rfl) ?_
  refine cn_v (w := (wX q dA)) (M := M_2) (wX_ad q dA) (va_runV (As := [.int p0]) (rest := []) ⟨hx, hb, hml, hown, hta⟩ (mtXu_freeAllOf l dC dI q dA H.size p0 M_2 _ hw) (cwV 1 hta (giV wt_169 wt_170 wt_171 wt_4 wt_172) rfl rfl rfl (by decide +kernel) ⟨Nat.le_of_ble_eq_true rfl, Nat.le_of_ble_eq_true rfl⟩) ⟨pW_blind, va_recv hK hP (ci := 2) (q0 := 2) rfl (wX_2 q dA M_2), pW_of hK hP hD⟩ rfl rfl hl.1 rfl (lv_room (Nat.le_of_ble_eq_true rfl)) dXs_end_12 ⟨Nat.le_of_ble_eq_true rfl, Nat.le_of_ble_eq_true rfl⟩) hD hS hA (fun M_4 H locs hw hP hD hS => ?_)
  exact W.vret hx hb hr (fun t ht hW => ⟨⟨M_4, rfl, hw, by rw [ht]; exact hP, va_K.moved hW.alike hK, hD⟩, hS.F ht⟩) hS.2.2 dXs_end_15 hlocks
def wpXs_lockUnit (p0 : Int32) (p1 : Int32) (M : Mm) (post : Int32 → Mm → Prop) : Prop := ((p1 < 0 → (post (-3) M)) ∧ (¬ p1 < 0 → (((p1 < 10 → (vp_in p1 10 ∧ (∀ y_4 : Int32, y_4 = M 4 p1.toNatClampNeg → (((y_4 = p0 → (post (-1) M)) ∧ (¬ y_4 = p0 → (wpXu_hasOneAbove p0 p1 M (fun r_6 M_7 => (((r_6 = 0 → (((y_4 = (-1) → (vp_in p1 10 ∧ (∀ M_11 : Mm, M_11 = stM M_7 4 (upd (M_7 4) p1.toNatClampNeg p0) → (post 1 M_11)))) ∧ (¬ y_4 = (-1) → (post 0 M_7))))) ∧ (¬ r_6 = 0 → (post (-2) M_7)))))))))))) ∧ (¬ p1 < 10 → (post (-3) M))))))
set_option maxHeartbeats 4000000 in
set_option maxRecDepth 100000 in
theorem mtXs_lockUnit (l : Launch) (dC : Nat → ClassId) (dI : Nat → Nat → Nat) (q : Nat → Nat) (dA : Nat → ClassId) (sz : Nat) (p0 : Int32) (p1 : Int32) (M : Mm) (post : Int32 → Mm → Prop) (hw : wpXs_lockUnit p0 p1 M post) : Met l yXs_lockUnit (wsA yXs_lockUnit cXs_lockUnit 4 (some .int)) ({ frames := 1, cells := 0, slots := 0, locals := 23 }) (va_Pc [.ref (q 0), .int p0, .int p1] (pW (dC, dI) vwCl (wX q dA) (tX dA) sz M)) (va_Qi post (bW (dC, dI) vwCl (wX q dA) (tX dA) (va_A (wX q dA M) sz)) (va_A (wX q dA M) sz)) 0 0 (va_A (wX q dA M) sz) := by
  refine Met.ofW (cc := cXs_lockUnit) (maxL := 4) (ret := (some .int)) (by decide) rfl ?_
  intro p e s m args below meth c s₁ B hml hv
  obtain ⟨rfl, hsz, hP, hK, hD0⟩ := hv
  have hx := B.exec
  have hb := B.bytes
  have hr := B.returns
  have hts := atoms_spec (ws := (wsA yXs_lockUnit cXs_lockUnit 4 (some .int))) B.pre
  have hta : ∀ w ∈ wsG, w.before _ s = true := fun w h => hts w (List.mem_cons_of_mem _ h)
  have hown : s.vm.findClass "ServiceThreads" = some m.cls := findClass_of_methodNamed B.named
  have hlocks := B.notSynchronized
  subst hsz
  have hD := hD0.self (sz := s.heap.size)
  generalize hAe : va_A (wX q dA M) s.heap.size = A at hD ⊢
  have hA : ∀ q : Nat, s.heap.size ≤ q → A q := fun q h => by rw [← hAe]; exact Or.inr h
  have hS : va_S A s.heap s.heap [] := va_S.rf
  dsimp only [wpXs_lockUnit] at hw
  have hl := lv_entry ([.ref (q 0), .int p0, .int p1]) (n := 4) (Nat.le_of_ble_eq_true rfl)
  rw [lg_entry_eq]
  generalize (lg_sl ([.ref (q 0), .int p0, .int p1]) ++ List.replicate (4 - (lg_sl ([.ref (q 0), .int p0, .int p1])).length) Slot.unset).toArray = ls at hl ⊢
  have hl : lv_has ls 4 [(0, .ref (q 0)), (1, .int p0), (2, .int p1)] := hl
  refine lv_iload_n hx hb dXs_lockUnit_0 rfl (lv_at hl 2 rfl) ?_
  refine lv_if_lt (tgt := 10) hx hb dXs_lockUnit_1 (by decide) (fun c_1 => ?_) (fun c_1 => ?_)
  · have hw := hw.1 c_1
    refine lv_bipush (v := (-3)) hx hb dXs_lockUnit_10 (by decide) ?_
    exact W.iret (v := (-3)) hx hb hr (fun t ht hW => ⟨⟨(-3), M, rfl, hw, by rw [ht]; exact hP, va_K.moved hW.alike hK, hD⟩, hS.F ht⟩) hS.2.2 dXs_lockUnit_12 hlocks
  · have hw := hw.2 c_1
    refine lv_iload_n hx hb dXs_lockUnit_4 rfl (lv_at hl 2 rfl) ?_
    refine lv_bipush (v := 10) hx hb dXs_lockUnit_5 (by decide) ?_
    refine lv_icmp_lt (tgt := 13) hx hb dXs_lockUnit_7 (by decide) (fun c_2 => ?_) (fun c_2 => ?_)
    · have hw := hw.1 c_2
      refine lv_aload_n hx hb dXs_lockUnit_13 rfl (lv_at hl 0 rfl) ?_
      refine va_get (D := (dC, dI)) (ci := 0) (v := .ref (q 2)) (C := "ServiceThreads") (T := TXs) (N := 14) hx hb hta inXs hown hK hP 0 (wX_0 q dA M) rfl 1 (by decide) (hta _ wt_119) (fun _ h9 => h9) rfl dXs_lockUnit_14 ?_
      refine va_get (D := (dC, dI)) (ci := 2) (v := .ref (q 9)) (C := "ServiceThreads$Units") (T := TXu) (N := 2) hx hb hta inXu hown hK hP 2 (wX_2 q dA M) rfl 0 (by decide) (hta _ wt_55) (fun _ h9 => h9) rfl dXs_lockUnit_17 ?_
      refine lv_iload_n hx hb dXs_lockUnit_20 rfl (lv_at hl 2 rfl) ?_
      obtain ⟨h_3, hw⟩ := hw
      refine ro_i (w := (wX q dA)) (M := M) hx hb hK hP 9 4 (wX_9 q dA M) rfl h_3 dXs_lockUnit_21 (fun y_4 ey_4 => ?_)
      have hw := hw y_4 ey_4
      refine lv_istore_n (lv' := [(3, .int y_4), (0, .ref (q 0)), (1, .int p0), (2, .int p1)]) hx hb dXs_lockUnit_22 rfl hl (by decide) rfl (fun ls hl => ?_)
      refine lv_iload_n hx hb dXs_lockUnit_23 rfl (lv_at hl 0 rfl) ?_
      refine lv_iload_n hx hb dXs_lockUnit_24 rfl (lv_at hl 2 rfl) ?_
      refine lv_icmp_ne (tgt := 30) hx hb dXs_lockUnit_25 (by decide) (fun c_5 => ?_) (fun c_5 => ?_)
      · have hw := hw.2 c_5
        refine lv_aload_n hx hb dXs_lockUnit_30 rfl (lv_at hl 1 rfl) ?_
        refine va_get (D := (dC, dI)) (ci := 0) (v := .ref (q 2)) (C := "ServiceThreads") (T := TXs) (N := 14) hx hb hta inXs hown hK hP 0 (wX_0 q dA M) rfl 1 (by decide) (hta _ wt_119) (fun _ h9 => h9) rfl dXs_lockUnit_31 ?_
        refine lv_iload_n hx hb dXs_lockUnit_34 rfl (lv_at hl 2 rfl) ?_
        refine lv_iload_n hx hb dXs_lockUnit_35 rfl (lv_at hl 3 rfl) ?_
        refine cn_i (w := (wX q dA)) (M := M) (wX_ad q dA) (va_runV (As := [.int p0, .int p1]) (rest := []) ⟨hx, hb, hml, hown, hta⟩ (mtXu_hasOneAbove l dC dI q dA s.heap.size p0 p1 M _ hw) (cwV 2 hta (giV wt_409 wt_410 wt_411 wt_4 wt_412) rfl rfl rfl (by decide +kernel) ⟨Nat.le_of_ble_eq_true rfl, Nat.le_of_ble_eq_true rfl⟩) ⟨pW_blind, va_recv hK hP (ci := 2) (q0 := 2) rfl (wX_2 q dA M), pW_of hK hP hD⟩ rfl rfl hl.1 rfl (lv_room (Nat.le_of_ble_eq_true rfl)) dXs_lockUnit_36 ⟨Nat.le_of_ble_eq_true rfl, Nat.le_of_ble_eq_true rfl⟩) hD hS hA (fun r_6 M_7 H locs hw hP hD hS => ?_)
        refine lv_if_eq (tgt := 45) hx hb dXs_lockUnit_39 (by decide) (fun c_8 => ?_) (fun c_8 => ?_)
        · have hw := hw.1 c_8
          refine lv_iload_n hx hb dXs_lockUnit_45 rfl (lv_at hl 0 rfl) ?_
          refine lv_iconst (v := (-1)) hx hb dXs_lockUnit_46 (by decide) ?_
          refine lv_icmp_eq (tgt := 52) hx hb dXs_lockUnit_47 (by decide) (fun c_9 => ?_) (fun c_9 => ?_)
          · have hw := hw.1 c_9
            refine lv_aload_n hx hb dXs_lockUnit_52 rfl (lv_at hl 1 rfl) ?_
            refine va_get (D := (dC, dI)) (ci := 0) (v := .ref (q 2)) (C := "ServiceThreads") (T := TXs) (N := 14) hx hb hta inXs hown hK hP 0 (wX_0 q dA M_7) rfl 1 (by decide) (hta _ wt_119) (fun _ h9 => h9) rfl dXs_lockUnit_53 ?_
            refine va_get (D := (dC, dI)) (ci := 2) (v := .ref (q 9)) (C := "ServiceThreads$Units") (T := TXu) (N := 2) hx hb hta inXu hown hK hP 2 (wX_2 q dA M_7) rfl 0 (by decide) (hta _ wt_55) (fun _ h9 => h9) rfl dXs_lockUnit_56 ?_
            refine lv_iload_n hx hb dXs_lockUnit_59 rfl (lv_at hl 3 rfl) ?_
            refine lv_iload_n hx hb dXs_lockUnit_60 rfl (lv_at hl 2 rfl) ?_
            obtain ⟨h_10, hw⟩ := hw
            refine wo_i (w := (wX q dA)) (M := M_7) hx hb hK hP hD hS 9 4 (wX_9 q dA M_7) (wX_s9 q dA M_7) rfl h_10 dXs_lockUnit_61 (fun M_11 H locs eM_11 hP hD hS => ?_)
            have hw := hw M_11 eM_11
            refine lv_iconst (v := 1) hx hb dXs_lockUnit_62 (by decide) ?_
            exact W.iret (v := 1) hx hb hr (fun t ht hW => ⟨⟨1, M_11, rfl, hw, by rw [ht]; exact hP, va_K.moved hW.alike hK, hD⟩, hS.F ht⟩) hS.2.2 dXs_lockUnit_63 hlocks
          · have hw := hw.2 c_9
            refine lv_iconst (v := 0) hx hb dXs_lockUnit_50 (by decide) ?_
            exact W.iret (v := 0) hx hb hr (fun t ht hW => ⟨⟨0, M_7, rfl, hw, by rw [ht]; exact hP, va_K.moved hW.alike hK, hD⟩, hS.F ht⟩) hS.2.2 dXs_lockUnit_51 hlocks
        · have hw := hw.2 c_8
          refine lv_bipush (v := (-2)) hx hb dXs_lockUnit_42 (by decide) ?_
          exact W.iret (v := (-2)) hx hb hr (fun t ht hW => ⟨⟨(-2), M_7, rfl, hw, by rw [ht]; exact hP, va_K.moved hW.alike hK, hD⟩, hS.F ht⟩) hS.2.2 dXs_lockUnit_44 hlocks
      · have hw := hw.1 c_5
        refine lv_iconst (v := (-1)) hx hb dXs_lockUnit_28 (by decide) ?_
        exact W.iret (v := (-1)) hx hb hr (fun t ht hW => ⟨⟨(-1), M, rfl, hw, by rw [ht]; exact hP, va_K.moved hW.alike hK, hD⟩, hS.F ht⟩) hS.2.2 dXs_lockUnit_29 hlocks
    · have hw := hw.2 c_2
      refine lv_bipush (v := (-3)) hx hb dXs_lockUnit_10 (by decide) ?_
      exact W.iret (v := (-3)) hx hb hr (fun t ht hW => ⟨⟨(-3), M, rfl, hw, by rw [ht]; exact hP, va_K.moved hW.alike hK, hD⟩, hS.F ht⟩) hS.2.2 dXs_lockUnit_12 hlocks
def wpXs_freeUnit (p0 : Int32) (p1 : Int32) (M : Mm) (post : Int32 → Mm → Prop) : Prop := ((p1 < 0 → (post (-3) M)) ∧ (¬ p1 < 0 → (((10 ≤ p1 → (post (-3) M)) ∧ (¬ 10 ≤ p1 → (vp_in p1 10 ∧ (∀ y_4 : Int32, y_4 = M 4 p1.toNatClampNeg → (((y_4 = p0 → (vp_in p1 10 ∧ (∀ M_7 : Mm, M_7 = stM M 4 (upd (M 4) p1.toNatClampNeg (-1)) → (post 1 M_7)))) ∧ (¬ y_4 = p0 → (post (-3) M)))))))))))
set_option maxHeartbeats 4000000 in
set_option maxRecDepth 100000 in
theorem mtXs_freeUnit (l : Launch) (dC : Nat → ClassId) (dI : Nat → Nat → Nat) (q : Nat → Nat) (dA : Nat → ClassId) (sz : Nat) (p0 : Int32) (p1 : Int32) (M : Mm) (post : Int32 → Mm → Prop) (hw : wpXs_freeUnit p0 p1 M post) : Met l yXs_freeUnit (wsA yXs_freeUnit cXs_freeUnit 3 (some .int)) ({ frames := 0, cells := 0, slots := 0, locals := 0 }) (va_Pc [.ref (q 0), .int p0, .int p1] (pW (dC, dI) vwCl (wX q dA) (tX dA) sz M)) (va_Qi post (bW (dC, dI) vwCl (wX q dA) (tX dA) (va_A (wX q dA M) sz)) (va_A (wX q dA M) sz)) 0 0 (va_A (wX q dA M) sz) := by
  refine Met.ofW (cc := cXs_freeUnit) (maxL := 3) (ret := (some .int)) (by decide) rfl ?_
  intro p e s m args below meth c s₁ B hml hv
  obtain ⟨rfl, hsz, hP, hK, hD0⟩ := hv
  have hx := B.exec
  have hb := B.bytes
  have hr := B.returns
  have hts := atoms_spec (ws := (wsA yXs_freeUnit cXs_freeUnit 3 (some .int))) B.pre
  have hta : ∀ w ∈ wsG, w.before _ s = true := fun w h => hts w (List.mem_cons_of_mem _ h)
  have hown : s.vm.findClass "ServiceThreads" = some m.cls := findClass_of_methodNamed B.named
  have hlocks := B.notSynchronized
  subst hsz
  have hD := hD0.self (sz := s.heap.size)
  generalize hAe : va_A (wX q dA M) s.heap.size = A at hD ⊢
  have hA : ∀ q : Nat, s.heap.size ≤ q → A q := fun q h => by rw [← hAe]; exact Or.inr h
  have hS : va_S A s.heap s.heap [] := va_S.rf
  dsimp only [wpXs_freeUnit] at hw
  have hl := lv_entry ([.ref (q 0), .int p0, .int p1]) (n := 3) (Nat.le_of_ble_eq_true rfl)
  rw [lg_entry_eq]
  generalize (lg_sl ([.ref (q 0), .int p0, .int p1]) ++ List.replicate (3 - (lg_sl ([.ref (q 0), .int p0, .int p1])).length) Slot.unset).toArray = ls at hl ⊢
  have hl : lv_has ls 3 [(0, .ref (q 0)), (1, .int p0), (2, .int p1)] := hl
  refine lv_iload_n hx hb dXs_freeUnit_0 rfl (lv_at hl 2 rfl) ?_
  refine lv_if_lt (tgt := 23) hx hb dXs_freeUnit_1 (by decide) (fun c_1 => ?_) (fun c_1 => ?_)
  · have hw := hw.1 c_1
    refine lv_bipush (v := (-3)) hx hb dXs_freeUnit_23 (by decide) ?_
    exact W.iret (v := (-3)) hx hb hr (fun t ht hW => ⟨⟨(-3), M, rfl, hw, by rw [ht]; exact hP, va_K.moved hW.alike hK, hD⟩, hS.F ht⟩) hS.2.2 dXs_freeUnit_25 hlocks
  · have hw := hw.2 c_1
    refine lv_iload_n hx hb dXs_freeUnit_4 rfl (lv_at hl 2 rfl) ?_
    refine lv_bipush (v := 10) hx hb dXs_freeUnit_5 (by decide) ?_
    refine lv_icmp_ge (tgt := 23) hx hb dXs_freeUnit_7 (by decide) (fun c_2 => ?_) (fun c_2 => ?_)
    · have hw := hw.1 c_2
      refine lv_bipush (v := (-3)) hx hb dXs_freeUnit_23 (by decide) ?_
      exact W.iret (v := (-3)) hx hb hr (fun t ht hW => ⟨⟨(-3), M, rfl, hw, by rw [ht]; exact hP, va_K.moved hW.alike hK, hD⟩, hS.F ht⟩) hS.2.2 dXs_freeUnit_25 hlocks
    · have hw := hw.2 c_2
      refine lv_aload_n hx hb dXs_freeUnit_10 rfl (lv_at hl 0 rfl) ?_
      refine va_get (D := (dC, dI)) (ci := 0) (v := .ref (q 2)) (C := "ServiceThreads") (T := TXs) (N := 14) hx hb hta inXs hown hK hP 0 (wX_0 q dA M) rfl 1 (by decide) (hta _ wt_119) (fun _ h9 => h9) rfl dXs_freeUnit_11 ?_
      refine va_get (D := (dC, dI)) (ci := 2) (v := .ref (q 9)) (C := "ServiceThreads$Units") (T := TXu) (N := 2) hx hb hta inXu hown hK hP 2 (wX_2 q dA M) rfl 0 (by decide) (hta _ wt_55) (fun _ h9 => h9) rfl dXs_freeUnit_14 ?_
      refine lv_iload_n hx hb dXs_freeUnit_17 rfl (lv_at hl 2 rfl) ?_
      obtain ⟨h_3, hw⟩ := hw
      refine ro_i (w := (wX q dA)) (M := M) hx hb hK hP 9 4 (wX_9 q dA M) rfl h_3 dXs_freeUnit_18 (fun y_4 ey_4 => ?_)
      have hw := hw y_4 ey_4
      refine lv_iload_n hx hb dXs_freeUnit_19 rfl (lv_at hl 1 rfl) ?_
      refine lv_icmp_eq (tgt := 26) hx hb dXs_freeUnit_20 (by decide) (fun c_5 => ?_) (fun c_5 => ?_)
      · have hw := hw.1 c_5
        refine lv_aload_n hx hb dXs_freeUnit_26 rfl (lv_at hl 0 rfl) ?_
        refine va_get (D := (dC, dI)) (ci := 0) (v := .ref (q 2)) (C := "ServiceThreads") (T := TXs) (N := 14) hx hb hta inXs hown hK hP 0 (wX_0 q dA M) rfl 1 (by decide) (hta _ wt_119) (fun _ h9 => h9) rfl dXs_freeUnit_27 ?_
        refine va_get (D := (dC, dI)) (ci := 2) (v := .ref (q 9)) (C := "ServiceThreads$Units") (T := TXu) (N := 2) hx hb hta inXu hown hK hP 2 (wX_2 q dA M) rfl 0 (by decide) (hta _ wt_55) (fun _ h9 => h9) rfl dXs_freeUnit_30 ?_
        refine lv_iload_n hx hb dXs_freeUnit_33 rfl (lv_at hl 2 rfl) ?_
        refine lv_iconst (v := (-1)) hx hb dXs_freeUnit_34 (by decide) ?_
        obtain ⟨h_6, hw⟩ := hw
        refine wo_i (w := (wX q dA)) (M := M) hx hb hK hP hD hS 9 4 (wX_9 q dA M) (wX_s9 q dA M) rfl h_6 dXs_freeUnit_35 (fun M_7 H locs eM_7 hP hD hS => ?_)
        have hw := hw M_7 eM_7
        refine lv_iconst (v := 1) hx hb dXs_freeUnit_36 (by decide) ?_
        exact W.iret (v := 1) hx hb hr (fun t ht hW => ⟨⟨1, M_7, rfl, hw, by rw [ht]; exact hP, va_K.moved hW.alike hK, hD⟩, hS.F ht⟩) hS.2.2 dXs_freeUnit_37 hlocks
      · have hw := hw.2 c_5
        refine lv_bipush (v := (-3)) hx hb dXs_freeUnit_23 (by decide) ?_
        exact W.iret (v := (-3)) hx hb hr (fun t ht hW => ⟨⟨(-3), M, rfl, hw, by rw [ht]; exact hP, va_K.moved hW.alike hK, hD⟩, hS.F ht⟩) hS.2.2 dXs_freeUnit_25 hlocks
def wpXs_takeCall (p0 : Int32) (p1 : Int32) (M : Mm) (post : Int32 → Mm → Prop) : Prop := wpXc_isKnown p1 M (fun r_1 M_2 => (((r_1 = 0 → (post (-6) M_2)) ∧ (¬ r_1 = 0 → (vp_in p1 16 ∧ (∀ y_5 : Int32, y_5 = M_2 9 p1.toNatClampNeg → (((y_5 = 0 → (post (-6) M_2)) ∧ (¬ y_5 = 0 → (vp_in p1 16 ∧ (∀ y_8 : Int32, y_8 = M_2 7 p1.toNatClampNeg → (((y_8 = (-1) → (vp_in p1 16 ∧ (∀ M_11 : Mm, M_11 = stM M_2 7 (upd (M_2 7) p1.toNatClampNeg p0) → (post 1 M_11)))) ∧ (¬ y_8 = (-1) → (((y_8 = p0 → (vp_in p1 16 ∧ (∀ M_14 : Mm, M_14 = stM M_2 7 (upd (M_2 7) p1.toNatClampNeg p0) → (post 1 M_14)))) ∧ (¬ y_8 = p0 → (vp_in p0 8 ∧ (∀ y_16 : Int32, y_16 = M_2 15 p0.toNatClampNeg → (∀ y_17 : Int32, y_17 = M_2 24 0 → (wpXr_tell p0 0 y_16 y_17 M_2 (fun M_19 => (post 2 M_19)))))))))))))))))))))))
set_option maxHeartbeats 4000000 in
set_option maxRecDepth 100000 in
theorem mtXs_takeCall (l : Launch) (dC : Nat → ClassId) (dI : Nat → Nat → Nat) (q : Nat → Nat) (dA : Nat → ClassId) (sz : Nat) (p0 : Int32) (p1 : Int32) (M : Mm) (post : Int32 → Mm → Prop) (hw : wpXs_takeCall p0 p1 M post) : Met l yXs_takeCall (wsA yXs_takeCall cXs_takeCall 4 (some .int)) ({ frames := 1, cells := 0, slots := 0, locals := 24 }) (va_Pc [.ref (q 0), .int p0, .int p1] (pW (dC, dI) vwCl (wX q dA) (tX dA) sz M)) (va_Qi post (bW (dC, dI) vwCl (wX q dA) (tX dA) (va_A (wX q dA M) sz)) (va_A (wX q dA M) sz)) 0 0 (va_A (wX q dA M) sz) := by
  refine Met.ofW (cc := cXs_takeCall) (maxL := 4) (ret := (some .int)) (by decide) rfl ?_
  intro p e s m args below meth c s₁ B hml hv
  obtain ⟨rfl, hsz, hP, hK, hD0⟩ := hv
  have hx := B.exec
  have hb := B.bytes
  have hr := B.returns
  have hts := atoms_spec (ws := (wsA yXs_takeCall cXs_takeCall 4 (some .int))) B.pre
  have hta : ∀ w ∈ wsG, w.before _ s = true := fun w h => hts w (List.mem_cons_of_mem _ h)
  have hown : s.vm.findClass "ServiceThreads" = some m.cls := findClass_of_methodNamed B.named
  have hlocks := B.notSynchronized
  subst hsz
  have hD := hD0.self (sz := s.heap.size)
  generalize hAe : va_A (wX q dA M) s.heap.size = A at hD ⊢
  have hA : ∀ q : Nat, s.heap.size ≤ q → A q := fun q h => by rw [← hAe]; exact Or.inr h
  have hS : va_S A s.heap s.heap [] := va_S.rf
  dsimp only [wpXs_takeCall] at hw
  have hl := lv_entry ([.ref (q 0), .int p0, .int p1]) (n := 4) (Nat.le_of_ble_eq_true rfl)
  rw [lg_entry_eq]
  generalize (lg_sl ([.ref (q 0), .int p0, .int p1]) ++ List.replicate (4 - (lg_sl ([.ref (q 0), .int p0, .int p1])).length) Slot.unset).toArray = ls at hl ⊢
  have hl : lv_has ls 4 [(0, .ref (q 0)), (1, .int p0), (2, .int p1)] := hl
  refine lv_aload_n hx hb dXs_takeCall_0 rfl (lv_at hl 0 rfl) ?_
  refine va_get (D := (dC, dI)) (ci := 0) (v := .ref (q 3)) (C := "ServiceThreads") (T := TXs) (N := 14) hx hb hta inXs hown hK hP 0 (wX_0 q dA M) rfl 2 (by decide) (hta _ wt_120) (fun _ h9 => h9) rfl dXs_takeCall_1 ?_
  refine lv_iload_n hx hb dXs_takeCall_4 rfl (lv_at hl 2 rfl) ?_
  refine cn_i (w := (wX q dA)) (M := M) (wX_ad q dA) (va_runV (As := [.int p1]) (rest := []) ⟨hx, hb, hml, hown, hta⟩ (mtXc_isKnown l dC dI q dA s.heap.size p1 M _ hw) (cwV 1 hta (giV wt_421 wt_182 wt_183 wt_5 wt_184) rfl rfl rfl (by decide +kernel) ⟨Nat.le_of_ble_eq_true rfl, Nat.le_of_ble_eq_true rfl⟩) ⟨pW_blind, va_recv hK hP (ci := 3) (q0 := 3) rfl (wX_3 q dA M), pW_of hK hP hD⟩ rfl rfl hl.1 rfl (lv_room (Nat.le_of_ble_eq_true rfl)) dXs_takeCall_5 ⟨Nat.le_of_ble_eq_true rfl, Nat.le_of_ble_eq_true rfl⟩) hD hS hA (fun r_1 M_2 H locs hw hP hD hS => ?_)
  refine lv_if_eq (tgt := 23) hx hb dXs_takeCall_8 (by decide) (fun c_3 => ?_) (fun c_3 => ?_)
  · have hw := hw.1 c_3
    refine lv_bipush (v := (-6)) hx hb dXs_takeCall_23 (by decide) ?_
    exact W.iret (v := (-6)) hx hb hr (fun t ht hW => ⟨⟨(-6), M_2, rfl, hw, by rw [ht]; exact hP, va_K.moved hW.alike hK, hD⟩, hS.F ht⟩) hS.2.2 dXs_takeCall_25 hlocks
  · have hw := hw.2 c_3
    refine lv_aload_n hx hb dXs_takeCall_11 rfl (lv_at hl 0 rfl) ?_
    refine va_get (D := (dC, dI)) (ci := 0) (v := .ref (q 3)) (C := "ServiceThreads") (T := TXs) (N := 14) hx hb hta inXs hown hK hP 0 (wX_0 q dA M_2) rfl 2 (by decide) (hta _ wt_120) (fun _ h9 => h9) rfl dXs_takeCall_12 ?_
    refine va_get (D := (dC, dI)) (ci := 3) (v := .ref (q 14)) (C := "ServiceThreads$Calls") (T := TXc) (N := 5) hx hb hta inXc hown hK hP 3 (wX_3 q dA M_2) rfl 3 (by decide) (hta _ wt_77) (fun _ h9 => h9) rfl dXs_takeCall_15 ?_
    refine lv_iload_n hx hb dXs_takeCall_18 rfl (lv_at hl 2 rfl) ?_
    obtain ⟨h_4, hw⟩ := hw
    refine ro_z (w := (wX q dA)) (M := M_2) hx hb hK hP 14 9 (wX_14 q dA M_2) rfl h_4 dXs_takeCall_19 (fun y_5 ey_5 => ?_)
    have hw := hw y_5 ey_5
    refine lv_if_ne (tgt := 26) hx hb dXs_takeCall_20 (by decide) (fun c_6 => ?_) (fun c_6 => ?_)
    · have hw := hw.2 c_6
      refine lv_aload_n hx hb dXs_takeCall_26 rfl (lv_at hl 0 rfl) ?_
      refine va_get (D := (dC, dI)) (ci := 0) (v := .ref (q 3)) (C := "ServiceThreads") (T := TXs) (N := 14) hx hb hta inXs hown hK hP 0 (wX_0 q dA M_2) rfl 2 (by decide) (hta _ wt_120) (fun _ h9 => h9) rfl dXs_takeCall_27 ?_
      refine va_get (D := (dC, dI)) (ci := 3) (v := .ref (q 12)) (C := "ServiceThreads$Calls") (T := TXc) (N := 5) hx hb hta inXc hown hK hP 3 (wX_3 q dA M_2) rfl 1 (by decide) (hta _ wt_73) (fun _ h9 => h9) rfl dXs_takeCall_30 ?_
      refine lv_iload_n hx hb dXs_takeCall_33 rfl (lv_at hl 2 rfl) ?_
      obtain ⟨h_7, hw⟩ := hw
      refine ro_i (w := (wX q dA)) (M := M_2) hx hb hK hP 12 7 (wX_12 q dA M_2) rfl h_7 dXs_takeCall_34 (fun y_8 ey_8 => ?_)
      have hw := hw y_8 ey_8
      refine lv_istore_n (lv' := [(3, .int y_8), (0, .ref (q 0)), (1, .int p0), (2, .int p1)]) hx hb dXs_takeCall_35 rfl hl (by decide) rfl (fun ls hl => ?_)
      refine lv_iload_n hx hb dXs_takeCall_36 rfl (lv_at hl 0 rfl) ?_
      refine lv_iconst (v := (-1)) hx hb dXs_takeCall_37 (by decide) ?_
      refine lv_icmp_eq (tgt := 67) hx hb dXs_takeCall_38 (by decide) (fun c_9 => ?_) (fun c_9 => ?_)
      · have hw := hw.1 c_9
        refine lv_aload_n hx hb dXs_takeCall_67 rfl (lv_at hl 1 rfl) ?_
        refine va_get (D := (dC, dI)) (ci := 0) (v := .ref (q 3)) (C := "ServiceThreads") (T := TXs) (N := 14) hx hb hta inXs hown hK hP 0 (wX_0 q dA M_2) rfl 2 (by decide) (hta _ wt_120) (fun _ h9 => h9) rfl dXs_takeCall_68 ?_
        refine va_get (D := (dC, dI)) (ci := 3) (v := .ref (q 12)) (C := "ServiceThreads$Calls") (T := TXc) (N := 5) hx hb hta inXc hown hK hP 3 (wX_3 q dA M_2) rfl 1 (by decide) (hta _ wt_73) (fun _ h9 => h9) rfl dXs_takeCall_71 ?_
        refine lv_iload_n hx hb dXs_takeCall_74 rfl (lv_at hl 3 rfl) ?_
        refine lv_iload_n hx hb dXs_takeCall_75 rfl (lv_at hl 2 rfl) ?_
        obtain ⟨h_10, hw⟩ := hw
        refine wo_i (w := (wX q dA)) (M := M_2) hx hb hK hP hD hS 12 7 (wX_12 q dA M_2) (wX_s12 q dA M_2) rfl h_10 dXs_takeCall_76 (fun M_11 H locs eM_11 hP hD hS => ?_)
        have hw := hw M_11 eM_11
        refine lv_iconst (v := 1) hx hb dXs_takeCall_77 (by decide) ?_
        exact W.iret (v := 1) hx hb hr (fun t ht hW => ⟨⟨1, M_11, rfl, hw, by rw [ht]; exact hP, va_K.moved hW.alike hK, hD⟩, hS.F ht⟩) hS.2.2 dXs_takeCall_78 hlocks
      · have hw := hw.2 c_9
        refine lv_iload_n hx hb dXs_takeCall_41 rfl (lv_at hl 0 rfl) ?_
        refine lv_iload_n hx hb dXs_takeCall_42 rfl (lv_at hl 2 rfl) ?_
        refine lv_icmp_eq (tgt := 67) hx hb dXs_takeCall_43 (by decide) (fun c_12 => ?_) (fun c_12 => ?_)
        · have hw := hw.1 c_12
          refine lv_aload_n hx hb dXs_takeCall_67 rfl (lv_at hl 1 rfl) ?_
          refine va_get (D := (dC, dI)) (ci := 0) (v := .ref (q 3)) (C := "ServiceThreads") (T := TXs) (N := 14) hx hb hta inXs hown hK hP 0 (wX_0 q dA M_2) rfl 2 (by decide) (hta _ wt_120) (fun _ h9 => h9) rfl dXs_takeCall_68 ?_
          refine va_get (D := (dC, dI)) (ci := 3) (v := .ref (q 12)) (C := "ServiceThreads$Calls") (T := TXc) (N := 5) hx hb hta inXc hown hK hP 3 (wX_3 q dA M_2) rfl 1 (by decide) (hta _ wt_73) (fun _ h9 => h9) rfl dXs_takeCall_71 ?_
          refine lv_iload_n hx hb dXs_takeCall_74 rfl (lv_at hl 3 rfl) ?_
          refine lv_iload_n hx hb dXs_takeCall_75 rfl (lv_at hl 2 rfl) ?_
          obtain ⟨h_13, hw⟩ := hw
          refine wo_i (w := (wX q dA)) (M := M_2) hx hb hK hP hD hS 12 7 (wX_12 q dA M_2) (wX_s12 q dA M_2) rfl h_13 dXs_takeCall_76 (fun M_14 H locs eM_14 hP hD hS => ?_)
          have hw := hw M_14 eM_14
          refine lv_iconst (v := 1) hx hb dXs_takeCall_77 (by decide) ?_
          exact W.iret (v := 1) hx hb hr (fun t ht hW => ⟨⟨1, M_14, rfl, hw, by rw [ht]; exact hP, va_K.moved hW.alike hK, hD⟩, hS.F ht⟩) hS.2.2 dXs_takeCall_78 hlocks
        · have hw := hw.2 c_12
          refine lv_aload_n hx hb dXs_takeCall_46 rfl (lv_at hl 1 rfl) ?_
          refine va_get (D := (dC, dI)) (ci := 0) (v := .ref (q 4)) (C := "ServiceThreads") (T := TXs) (N := 14) hx hb hta inXs hown hK hP 0 (wX_0 q dA M_2) rfl 3 (by decide) (hta _ wt_121) (fun _ h9 => h9) rfl dXs_takeCall_47 ?_
          refine lv_iload_n hx hb dXs_takeCall_50 rfl (lv_at hl 2 rfl) ?_
          refine lv_iconst (v := 0) hx hb dXs_takeCall_51 (by decide) ?_
          refine lv_aload_n hx hb dXs_takeCall_52 rfl (lv_at hl 1 rfl) ?_
          refine va_get (D := (dC, dI)) (ci := 0) (v := .ref (q 20)) (C := "ServiceThreads") (T := TXs) (N := 14) hx hb hta inXs hown hK hP 0 (wX_0 q dA M_2) rfl 5 (by decide) (hta _ wt_123) (fun _ h9 => h9) rfl dXs_takeCall_53 ?_
          refine lv_iload_n hx hb dXs_takeCall_56 rfl (lv_at hl 2 rfl) ?_
          obtain ⟨h_15, hw⟩ := hw
          refine ro_i (w := (wX q dA)) (M := M_2) hx hb hK hP 20 15 (wX_20 q dA M_2) rfl h_15 dXs_takeCall_57 (fun y_16 ey_16 => ?_)
          have hw := hw y_16 ey_16
          refine lv_aload_n hx hb dXs_takeCall_58 rfl (lv_at hl 1 rfl) ?_
          refine va_get (D := (dC, dI)) (ci := 0) (v := .int (M_2 24 0)) (C := "ServiceThreads") (T := TXs) (N := 14) hx hb hta inXs hown hK hP 0 (wX_0 q dA M_2) rfl 12 (by decide) (hta _ wt_130) (fun _ h9 => h9) rfl dXs_takeCall_59 ?_
          refine lv_topi (fun y_17 ey_17 => ?_)
          have hw := hw y_17 ey_17
          refine cn_v (w := (wX q dA)) (M := M_2) (wX_ad q dA) (va_runV (As := [.int p0, .int 0, .int y_16, .int y_17]) (rest := []) ⟨hx, hb, hml, hown, hta⟩ (mtXr_tell l dC dI q dA H.size p0 0 y_16 y_17 M_2 _ hw) (cwV 4 hta (giV wt_422 wt_423 wt_424 wt_6 wt_425) rfl rfl rfl (by decide +kernel) ⟨Nat.le_of_ble_eq_true rfl, Nat.le_of_ble_eq_true rfl⟩) ⟨pW_blind, va_recv hK hP (ci := 4) (q0 := 4) rfl (wX_4 q dA M_2), pW_of hK hP hD⟩ rfl rfl hl.1 rfl (lv_room (Nat.le_of_ble_eq_true rfl)) dXs_takeCall_62 ⟨Nat.le_of_ble_eq_true rfl, Nat.le_of_ble_eq_true rfl⟩) hD hS hA (fun M_19 H locs hw hP hD hS => ?_)
          refine lv_iconst (v := 2) hx hb dXs_takeCall_65 (by decide) ?_
          exact W.iret (v := 2) hx hb hr (fun t ht hW => ⟨⟨2, M_19, rfl, hw, by rw [ht]; exact hP, va_K.moved hW.alike hK, hD⟩, hS.F ht⟩) hS.2.2 dXs_takeCall_66 hlocks
    · have hw := hw.1 c_6
      refine lv_bipush (v := (-6)) hx hb dXs_takeCall_23 (by decide) ?_
      exact W.iret (v := (-6)) hx hb hr (fun t ht hW => ⟨⟨(-6), M_2, rfl, hw, by rw [ht]; exact hP, va_K.moved hW.alike hK, hD⟩, hS.F ht⟩) hS.2.2 dXs_takeCall_25 hlocks
def wpXs_sendUnit (p0 : Int32) (p1 : Int32) (p2 : Int32) (M : Mm) (post : Int32 → Mm → Prop) : Prop := ((p1 < 0 → (post (-4) M)) ∧ (¬ p1 < 0 → (((10 ≤ p1 → (post (-4) M)) ∧ (¬ 10 ≤ p1 → (wpXc_isOpenOf p2 p0 M (fun r_3 M_4 => (((r_3 = 0 → (post (-4) M_4)) ∧ (¬ r_3 = 0 → (vp_in p1 10 ∧ (∀ y_7 : Int32, y_7 = M_4 4 p1.toNatClampNeg → (((y_7 = p0 → (vp_in p1 10 ∧ (∀ y_10 : Int32, y_10 = M_4 5 p1.toNatClampNeg → (((y_10 = (-1) → (vp_in p2 16 ∧ (∀ y_13 : Int32, y_13 = M_4 8 p2.toNatClampNeg → (((y_13 = (-1) → (vp_in p1 10 ∧ (∀ M_16 : Mm, M_16 = stM M_4 5 (upd (M_4 5) p1.toNatClampNeg p2) → (vp_in p2 16 ∧ (∀ M_18 : Mm, M_18 = stM M_16 8 (upd (M_16 8) p2.toNatClampNeg p1) → (post 1 M_18)))))) ∧ (¬ y_13 = (-1) → (post (-4) M_4))))))) ∧ (¬ y_10 = (-1) → (post (-4) M_4))))))) ∧ (¬ y_7 = p0 → (post (-4) M_4))))))))))))))))
set_option maxHeartbeats 4000000 in
set_option maxRecDepth 100000 in
theorem mtXs_sendUnit (l : Launch) (dC : Nat → ClassId) (dI : Nat → Nat → Nat) (q : Nat → Nat) (dA : Nat → ClassId) (sz : Nat) (p0 : Int32) (p1 : Int32) (p2 : Int32) (M : Mm) (post : Int32 → Mm → Prop) (hw : wpXs_sendUnit p0 p1 p2 M post) : Met l yXs_sendUnit (wsA yXs_sendUnit cXs_sendUnit 4 (some .int)) ({ frames := 2, cells := 0, slots := 0, locals := 43 }) (va_Pc [.ref (q 0), .int p0, .int p1, .int p2] (pW (dC, dI) vwCl (wX q dA) (tX dA) sz M)) (va_Qi post (bW (dC, dI) vwCl (wX q dA) (tX dA) (va_A (wX q dA M) sz)) (va_A (wX q dA M) sz)) 0 0 (va_A (wX q dA M) sz) := by
  refine Met.ofW (cc := cXs_sendUnit) (maxL := 4) (ret := (some .int)) (by decide) rfl ?_
  intro p e s m args below meth c s₁ B hml hv
  obtain ⟨rfl, hsz, hP, hK, hD0⟩ := hv
  have hx := B.exec
  have hb := B.bytes
  have hr := B.returns
  have hts := atoms_spec (ws := (wsA yXs_sendUnit cXs_sendUnit 4 (some .int))) B.pre
  have hta : ∀ w ∈ wsG, w.before _ s = true := fun w h => hts w (List.mem_cons_of_mem _ h)
  have hown : s.vm.findClass "ServiceThreads" = some m.cls := findClass_of_methodNamed B.named
  have hlocks := B.notSynchronized
  subst hsz
  have hD := hD0.self (sz := s.heap.size)
  generalize hAe : va_A (wX q dA M) s.heap.size = A at hD ⊢
  have hA : ∀ q : Nat, s.heap.size ≤ q → A q := fun q h => by rw [← hAe]; exact Or.inr h
  have hS : va_S A s.heap s.heap [] := va_S.rf
  dsimp only [wpXs_sendUnit] at hw
  have hl := lv_entry ([.ref (q 0), .int p0, .int p1, .int p2]) (n := 4) (Nat.le_of_ble_eq_true rfl)
  rw [lg_entry_eq]
  generalize (lg_sl ([.ref (q 0), .int p0, .int p1, .int p2]) ++ List.replicate (4 - (lg_sl ([.ref (q 0), .int p0, .int p1, .int p2])).length) Slot.unset).toArray = ls at hl ⊢
  have hl : lv_has ls 4 [(0, .ref (q 0)), (1, .int p0), (2, .int p1), (3, .int p2)] := hl
  refine lv_iload_n hx hb dXs_sendUnit_0 rfl (lv_at hl 2 rfl) ?_
  refine lv_if_lt (tgt := 22) hx hb dXs_sendUnit_1 (by decide) (fun c_1 => ?_) (fun c_1 => ?_)
  · have hw := hw.1 c_1
    refine lv_bipush (v := (-4)) hx hb dXs_sendUnit_22 (by decide) ?_
    exact W.iret (v := (-4)) hx hb hr (fun t ht hW => ⟨⟨(-4), M, rfl, hw, by rw [ht]; exact hP, va_K.moved hW.alike hK, hD⟩, hS.F ht⟩) hS.2.2 dXs_sendUnit_24 hlocks
  · have hw := hw.2 c_1
    refine lv_iload_n hx hb dXs_sendUnit_4 rfl (lv_at hl 2 rfl) ?_
    refine lv_bipush (v := 10) hx hb dXs_sendUnit_5 (by decide) ?_
    refine lv_icmp_ge (tgt := 22) hx hb dXs_sendUnit_7 (by decide) (fun c_2 => ?_) (fun c_2 => ?_)
    · have hw := hw.1 c_2
      refine lv_bipush (v := (-4)) hx hb dXs_sendUnit_22 (by decide) ?_
      exact W.iret (v := (-4)) hx hb hr (fun t ht hW => ⟨⟨(-4), M, rfl, hw, by rw [ht]; exact hP, va_K.moved hW.alike hK, hD⟩, hS.F ht⟩) hS.2.2 dXs_sendUnit_24 hlocks
    · have hw := hw.2 c_2
      refine lv_aload_n hx hb dXs_sendUnit_10 rfl (lv_at hl 0 rfl) ?_
      refine va_get (D := (dC, dI)) (ci := 0) (v := .ref (q 3)) (C := "ServiceThreads") (T := TXs) (N := 14) hx hb hta inXs hown hK hP 0 (wX_0 q dA M) rfl 2 (by decide) (hta _ wt_120) (fun _ h9 => h9) rfl dXs_sendUnit_11 ?_
      refine lv_iload_n hx hb dXs_sendUnit_14 rfl (lv_at hl 3 rfl) ?_
      refine lv_iload_n hx hb dXs_sendUnit_15 rfl (lv_at hl 1 rfl) ?_
      refine cn_i (w := (wX q dA)) (M := M) (wX_ad q dA) (va_runV (As := [.int p2, .int p0]) (rest := []) ⟨hx, hb, hml, hown, hta⟩ (mtXc_isOpenOf l dC dI q dA s.heap.size p2 p0 M _ hw) (cwV 2 hta (giV wt_430 wt_178 wt_179 wt_5 wt_180) rfl rfl rfl (by decide +kernel) ⟨Nat.le_of_ble_eq_true rfl, Nat.le_of_ble_eq_true rfl⟩) ⟨pW_blind, va_recv hK hP (ci := 3) (q0 := 3) rfl (wX_3 q dA M), pW_of hK hP hD⟩ rfl rfl hl.1 rfl (lv_room (Nat.le_of_ble_eq_true rfl)) dXs_sendUnit_16 ⟨Nat.le_of_ble_eq_true rfl, Nat.le_of_ble_eq_true rfl⟩) hD hS hA (fun r_3 M_4 H locs hw hP hD hS => ?_)
      refine lv_if_ne (tgt := 25) hx hb dXs_sendUnit_19 (by decide) (fun c_5 => ?_) (fun c_5 => ?_)
      · have hw := hw.2 c_5
        refine lv_aload_n hx hb dXs_sendUnit_25 rfl (lv_at hl 0 rfl) ?_
        refine va_get (D := (dC, dI)) (ci := 0) (v := .ref (q 2)) (C := "ServiceThreads") (T := TXs) (N := 14) hx hb hta inXs hown hK hP 0 (wX_0 q dA M_4) rfl 1 (by decide) (hta _ wt_119) (fun _ h9 => h9) rfl dXs_sendUnit_26 ?_
        refine va_get (D := (dC, dI)) (ci := 2) (v := .ref (q 9)) (C := "ServiceThreads$Units") (T := TXu) (N := 2) hx hb hta inXu hown hK hP 2 (wX_2 q dA M_4) rfl 0 (by decide) (hta _ wt_55) (fun _ h9 => h9) rfl dXs_sendUnit_29 ?_
        refine lv_iload_n hx hb dXs_sendUnit_32 rfl (lv_at hl 2 rfl) ?_
        obtain ⟨h_6, hw⟩ := hw
        refine ro_i (w := (wX q dA)) (M := M_4) hx hb hK hP 9 4 (wX_9 q dA M_4) rfl h_6 dXs_sendUnit_33 (fun y_7 ey_7 => ?_)
        have hw := hw y_7 ey_7
        refine lv_iload_n hx hb dXs_sendUnit_34 rfl (lv_at hl 1 rfl) ?_
        refine lv_icmp_ne (tgt := 51) hx hb dXs_sendUnit_35 (by decide) (fun c_8 => ?_) (fun c_8 => ?_)
        · have hw := hw.2 c_8
          refine lv_bipush (v := (-4)) hx hb dXs_sendUnit_51 (by decide) ?_
          exact W.iret (v := (-4)) hx hb hr (fun t ht hW => ⟨⟨(-4), M_4, rfl, hw, by rw [ht]; exact hP, va_K.moved hW.alike hK, hD⟩, hS.F ht⟩) hS.2.2 dXs_sendUnit_53 hlocks
        · have hw := hw.1 c_8
          refine lv_aload_n hx hb dXs_sendUnit_38 rfl (lv_at hl 0 rfl) ?_
          refine va_get (D := (dC, dI)) (ci := 0) (v := .ref (q 2)) (C := "ServiceThreads") (T := TXs) (N := 14) hx hb hta inXs hown hK hP 0 (wX_0 q dA M_4) rfl 1 (by decide) (hta _ wt_119) (fun _ h9 => h9) rfl dXs_sendUnit_39 ?_
          refine va_get (D := (dC, dI)) (ci := 2) (v := .ref (q 10)) (C := "ServiceThreads$Units") (T := TXu) (N := 2) hx hb hta inXu hown hK hP 2 (wX_2 q dA M_4) rfl 1 (by decide) (hta _ wt_57) (fun _ h9 => h9) rfl dXs_sendUnit_42 ?_
          refine lv_iload_n hx hb dXs_sendUnit_45 rfl (lv_at hl 2 rfl) ?_
          obtain ⟨h_9, hw⟩ := hw
          refine ro_i (w := (wX q dA)) (M := M_4) hx hb hK hP 10 5 (wX_10 q dA M_4) rfl h_9 dXs_sendUnit_46 (fun y_10 ey_10 => ?_)
          have hw := hw y_10 ey_10
          refine lv_iconst (v := (-1)) hx hb dXs_sendUnit_47 (by decide) ?_
          refine lv_icmp_eq (tgt := 54) hx hb dXs_sendUnit_48 (by decide) (fun c_11 => ?_) (fun c_11 => ?_)
          · have hw := hw.1 c_11
            refine lv_aload_n hx hb dXs_sendUnit_54 rfl (lv_at hl 0 rfl) ?_
            refine va_get (D := (dC, dI)) (ci := 0) (v := .ref (q 3)) (C := "ServiceThreads") (T := TXs) (N := 14) hx hb hta inXs hown hK hP 0 (wX_0 q dA M_4) rfl 2 (by decide) (hta _ wt_120) (fun _ h9 => h9) rfl dXs_sendUnit_55 ?_
            refine va_get (D := (dC, dI)) (ci := 3) (v := .ref (q 13)) (C := "ServiceThreads$Calls") (T := TXc) (N := 5) hx hb hta inXc hown hK hP 3 (wX_3 q dA M_4) rfl 2 (by decide) (hta _ wt_75) (fun _ h9 => h9) rfl dXs_sendUnit_58 ?_
            refine lv_iload_n hx hb dXs_sendUnit_61 rfl (lv_at hl 3 rfl) ?_
            obtain ⟨h_12, hw⟩ := hw
            refine ro_i (w := (wX q dA)) (M := M_4) hx hb hK hP 13 8 (wX_13 q dA M_4) rfl h_12 dXs_sendUnit_62 (fun y_13 ey_13 => ?_)
            have hw := hw y_13 ey_13
            refine lv_iconst (v := (-1)) hx hb dXs_sendUnit_63 (by decide) ?_
            refine lv_icmp_eq (tgt := 70) hx hb dXs_sendUnit_64 (by decide) (fun c_14 => ?_) (fun c_14 => ?_)
            · have hw := hw.1 c_14
              refine lv_aload_n hx hb dXs_sendUnit_70 rfl (lv_at hl 0 rfl) ?_
              refine va_get (D := (dC, dI)) (ci := 0) (v := .ref (q 2)) (C := "ServiceThreads") (T := TXs) (N := 14) hx hb hta inXs hown hK hP 0 (wX_0 q dA M_4) rfl 1 (by decide) (hta _ wt_119) (fun _ h9 => h9) rfl dXs_sendUnit_71 ?_
              refine va_get (D := (dC, dI)) (ci := 2) (v := .ref (q 10)) (C := "ServiceThreads$Units") (T := TXu) (N := 2) hx hb hta inXu hown hK hP 2 (wX_2 q dA M_4) rfl 1 (by decide) (hta _ wt_57) (fun _ h9 => h9) rfl dXs_sendUnit_74 ?_
              refine lv_iload_n hx hb dXs_sendUnit_77 rfl (lv_at hl 2 rfl) ?_
              refine lv_iload_n hx hb dXs_sendUnit_78 rfl (lv_at hl 3 rfl) ?_
              obtain ⟨h_15, hw⟩ := hw
              refine wo_i (w := (wX q dA)) (M := M_4) hx hb hK hP hD hS 10 5 (wX_10 q dA M_4) (wX_s10 q dA M_4) rfl h_15 dXs_sendUnit_79 (fun M_16 H locs eM_16 hP hD hS => ?_)
              have hw := hw M_16 eM_16
              refine lv_aload_n hx hb dXs_sendUnit_80 rfl (lv_at hl 0 rfl) ?_
              refine va_get (D := (dC, dI)) (ci := 0) (v := .ref (q 3)) (C := "ServiceThreads") (T := TXs) (N := 14) hx hb hta inXs hown hK hP 0 (wX_0 q dA M_16) rfl 2 (by decide) (hta _ wt_120) (fun _ h9 => h9) rfl dXs_sendUnit_81 ?_
              refine va_get (D := (dC, dI)) (ci := 3) (v := .ref (q 13)) (C := "ServiceThreads$Calls") (T := TXc) (N := 5) hx hb hta inXc hown hK hP 3 (wX_3 q dA M_16) rfl 2 (by decide) (hta _ wt_75) (fun _ h9 => h9) rfl dXs_sendUnit_84 ?_
              refine lv_iload_n hx hb dXs_sendUnit_87 rfl (lv_at hl 3 rfl) ?_
              refine lv_iload_n hx hb dXs_sendUnit_88 rfl (lv_at hl 2 rfl) ?_
              obtain ⟨h_17, hw⟩ := hw
              refine wo_i (w := (wX q dA)) (M := M_16) hx hb hK hP hD hS 13 8 (wX_13 q dA M_16) (wX_s13 q dA M_16) rfl h_17 dXs_sendUnit_89 (fun M_18 H locs eM_18 hP hD hS => ?_)
              have hw := hw M_18 eM_18
              refine lv_iconst (v := 1) hx hb dXs_sendUnit_90 (by decide) ?_
              exact W.iret (v := 1) hx hb hr (fun t ht hW => ⟨⟨1, M_18, rfl, hw, by rw [ht]; exact hP, va_K.moved hW.alike hK, hD⟩, hS.F ht⟩) hS.2.2 dXs_sendUnit_91 hlocks
            · have hw := hw.2 c_14
              refine lv_bipush (v := (-4)) hx hb dXs_sendUnit_67 (by decide) ?_
              exact W.iret (v := (-4)) hx hb hr (fun t ht hW => ⟨⟨(-4), M_4, rfl, hw, by rw [ht]; exact hP, va_K.moved hW.alike hK, hD⟩, hS.F ht⟩) hS.2.2 dXs_sendUnit_69 hlocks
          · have hw := hw.2 c_11
            refine lv_bipush (v := (-4)) hx hb dXs_sendUnit_51 (by decide) ?_
            exact W.iret (v := (-4)) hx hb hr (fun t ht hW => ⟨⟨(-4), M_4, rfl, hw, by rw [ht]; exact hP, va_K.moved hW.alike hK, hD⟩, hS.F ht⟩) hS.2.2 dXs_sendUnit_53 hlocks
      · have hw := hw.1 c_5
        refine lv_bipush (v := (-4)) hx hb dXs_sendUnit_22 (by decide) ?_
        exact W.iret (v := (-4)) hx hb hr (fun t ht hW => ⟨⟨(-4), M_4, rfl, hw, by rw [ht]; exact hP, va_K.moved hW.alike hK, hD⟩, hS.F ht⟩) hS.2.2 dXs_sendUnit_24 hlocks
def wpXs_closeCall (p0 : Int32) (p1 : Int32) (M : Mm) (post : Int32 → Mm → Prop) : Prop := wpXc_isOpenOf p1 p0 M (fun r_1 M_2 => (((r_1 = 0 → (post (-4) M_2)) ∧ (¬ r_1 = 0 → (vp_in p1 16 ∧ (∀ y_5 : Int32, y_5 = M_2 8 p1.toNatClampNeg → (((y_5 < 0 → (vp_in p1 16 ∧ (∀ M_8 : Mm, M_8 = stM M_2 8 (upd (M_2 8) p1.toNatClampNeg (-1)) → (vp_in p1 16 ∧ (∀ M_10 : Mm, M_10 = stM M_8 9 (upd (M_8 9) p1.toNatClampNeg 0) → (post 1 M_10)))))) ∧ (¬ y_5 < 0 → (((10 ≤ y_5 → (vp_in p1 16 ∧ (∀ M_13 : Mm, M_13 = stM M_2 8 (upd (M_2 8) p1.toNatClampNeg (-1)) → (vp_in p1 16 ∧ (∀ M_15 : Mm, M_15 = stM M_13 9 (upd (M_13 9) p1.toNatClampNeg 0) → (post 1 M_15)))))) ∧ (¬ 10 ≤ y_5 → (vp_in y_5 10 ∧ (∀ M_17 : Mm, M_17 = stM M_2 5 (upd (M_2 5) y_5.toNatClampNeg (-1)) → (vp_in p1 16 ∧ (∀ M_19 : Mm, M_19 = stM M_17 8 (upd (M_17 8) p1.toNatClampNeg (-1)) → (vp_in p1 16 ∧ (∀ M_21 : Mm, M_21 = stM M_19 9 (upd (M_19 9) p1.toNatClampNeg 0) → (post 1 M_21)))))))))))))))))))
set_option maxHeartbeats 4000000 in
set_option maxRecDepth 100000 in
theorem mtXs_closeCall (l : Launch) (dC : Nat → ClassId) (dI : Nat → Nat → Nat) (q : Nat → Nat) (dA : Nat → ClassId) (sz : Nat) (p0 : Int32) (p1 : Int32) (M : Mm) (post : Int32 → Mm → Prop) (hw : wpXs_closeCall p0 p1 M post) : Met l yXs_closeCall (wsA yXs_closeCall cXs_closeCall 4 (some .int)) ({ frames := 2, cells := 0, slots := 0, locals := 43 }) (va_Pc [.ref (q 0), .int p0, .int p1] (pW (dC, dI) vwCl (wX q dA) (tX dA) sz M)) (va_Qi post (bW (dC, dI) vwCl (wX q dA) (tX dA) (va_A (wX q dA M) sz)) (va_A (wX q dA M) sz)) 0 0 (va_A (wX q dA M) sz) := by
  refine Met.ofW (cc := cXs_closeCall) (maxL := 4) (ret := (some .int)) (by decide) rfl ?_
  intro p e s m args below meth c s₁ B hml hv
  obtain ⟨rfl, hsz, hP, hK, hD0⟩ := hv
  have hx := B.exec
  have hb := B.bytes
  have hr := B.returns
  have hts := atoms_spec (ws := (wsA yXs_closeCall cXs_closeCall 4 (some .int))) B.pre
  have hta : ∀ w ∈ wsG, w.before _ s = true := fun w h => hts w (List.mem_cons_of_mem _ h)
  have hown : s.vm.findClass "ServiceThreads" = some m.cls := findClass_of_methodNamed B.named
  have hlocks := B.notSynchronized
  subst hsz
  have hD := hD0.self (sz := s.heap.size)
  generalize hAe : va_A (wX q dA M) s.heap.size = A at hD ⊢
  have hA : ∀ q : Nat, s.heap.size ≤ q → A q := fun q h => by rw [← hAe]; exact Or.inr h
  have hS : va_S A s.heap s.heap [] := va_S.rf
  dsimp only [wpXs_closeCall] at hw
  have hl := lv_entry ([.ref (q 0), .int p0, .int p1]) (n := 4) (Nat.le_of_ble_eq_true rfl)
  rw [lg_entry_eq]
  generalize (lg_sl ([.ref (q 0), .int p0, .int p1]) ++ List.replicate (4 - (lg_sl ([.ref (q 0), .int p0, .int p1])).length) Slot.unset).toArray = ls at hl ⊢
  have hl : lv_has ls 4 [(0, .ref (q 0)), (1, .int p0), (2, .int p1)] := hl
  refine lv_aload_n hx hb dXs_closeCall_0 rfl (lv_at hl 0 rfl) ?_
  refine va_get (D := (dC, dI)) (ci := 0) (v := .ref (q 3)) (C := "ServiceThreads") (T := TXs) (N := 14) hx hb hta inXs hown hK hP 0 (wX_0 q dA M) rfl 2 (by decide) (hta _ wt_120) (fun _ h9 => h9) rfl dXs_closeCall_1 ?_
  refine lv_iload_n hx hb dXs_closeCall_4 rfl (lv_at hl 2 rfl) ?_
  refine lv_iload_n hx hb dXs_closeCall_5 rfl (lv_at hl 1 rfl) ?_
  refine cn_i (w := (wX q dA)) (M := M) (wX_ad q dA) (va_runV (As := [.int p1, .int p0]) (rest := []) ⟨hx, hb, hml, hown, hta⟩ (mtXc_isOpenOf l dC dI q dA s.heap.size p1 p0 M _ hw) (cwV 2 hta (giV wt_430 wt_178 wt_179 wt_5 wt_180) rfl rfl rfl (by decide +kernel) ⟨Nat.le_of_ble_eq_true rfl, Nat.le_of_ble_eq_true rfl⟩) ⟨pW_blind, va_recv hK hP (ci := 3) (q0 := 3) rfl (wX_3 q dA M), pW_of hK hP hD⟩ rfl rfl hl.1 rfl (lv_room (Nat.le_of_ble_eq_true rfl)) dXs_closeCall_6 ⟨Nat.le_of_ble_eq_true rfl, Nat.le_of_ble_eq_true rfl⟩) hD hS hA (fun r_1 M_2 H locs hw hP hD hS => ?_)
  refine lv_if_ne (tgt := 15) hx hb dXs_closeCall_9 (by decide) (fun c_3 => ?_) (fun c_3 => ?_)
  · have hw := hw.2 c_3
    refine lv_aload_n hx hb dXs_closeCall_15 rfl (lv_at hl 0 rfl) ?_
    refine va_get (D := (dC, dI)) (ci := 0) (v := .ref (q 3)) (C := "ServiceThreads") (T := TXs) (N := 14) hx hb hta inXs hown hK hP 0 (wX_0 q dA M_2) rfl 2 (by decide) (hta _ wt_120) (fun _ h9 => h9) rfl dXs_closeCall_16 ?_
    refine va_get (D := (dC, dI)) (ci := 3) (v := .ref (q 13)) (C := "ServiceThreads$Calls") (T := TXc) (N := 5) hx hb hta inXc hown hK hP 3 (wX_3 q dA M_2) rfl 2 (by decide) (hta _ wt_75) (fun _ h9 => h9) rfl dXs_closeCall_19 ?_
    refine lv_iload_n hx hb dXs_closeCall_22 rfl (lv_at hl 2 rfl) ?_
    obtain ⟨h_4, hw⟩ := hw
    refine ro_i (w := (wX q dA)) (M := M_2) hx hb hK hP 13 8 (wX_13 q dA M_2) rfl h_4 dXs_closeCall_23 (fun y_5 ey_5 => ?_)
    have hw := hw y_5 ey_5
    refine lv_istore_n (lv' := [(3, .int y_5), (0, .ref (q 0)), (1, .int p0), (2, .int p1)]) hx hb dXs_closeCall_24 rfl hl (by decide) rfl (fun ls hl => ?_)
    refine lv_iload_n hx hb dXs_closeCall_25 rfl (lv_at hl 0 rfl) ?_
    refine lv_if_lt (tgt := 45) hx hb dXs_closeCall_26 (by decide) (fun c_6 => ?_) (fun c_6 => ?_)
    · have hw := hw.1 c_6
      refine lv_aload_n hx hb dXs_closeCall_45 rfl (lv_at hl 1 rfl) ?_
      refine va_get (D := (dC, dI)) (ci := 0) (v := .ref (q 3)) (C := "ServiceThreads") (T := TXs) (N := 14) hx hb hta inXs hown hK hP 0 (wX_0 q dA M_2) rfl 2 (by decide) (hta _ wt_120) (fun _ h9 => h9) rfl dXs_closeCall_46 ?_
      refine va_get (D := (dC, dI)) (ci := 3) (v := .ref (q 13)) (C := "ServiceThreads$Calls") (T := TXc) (N := 5) hx hb hta inXc hown hK hP 3 (wX_3 q dA M_2) rfl 2 (by decide) (hta _ wt_75) (fun _ h9 => h9) rfl dXs_closeCall_49 ?_
      refine lv_iload_n hx hb dXs_closeCall_52 rfl (lv_at hl 3 rfl) ?_
      refine lv_iconst (v := (-1)) hx hb dXs_closeCall_53 (by decide) ?_
      obtain ⟨h_7, hw⟩ := hw
      refine wo_i (w := (wX q dA)) (M := M_2) hx hb hK hP hD hS 13 8 (wX_13 q dA M_2) (wX_s13 q dA M_2) rfl h_7 dXs_closeCall_54 (fun M_8 H locs eM_8 hP hD hS => ?_)
      have hw := hw M_8 eM_8
      refine lv_aload_n hx hb dXs_closeCall_55 rfl (lv_at hl 1 rfl) ?_
      refine va_get (D := (dC, dI)) (ci := 0) (v := .ref (q 3)) (C := "ServiceThreads") (T := TXs) (N := 14) hx hb hta inXs hown hK hP 0 (wX_0 q dA M_8) rfl 2 (by decide) (hta _ wt_120) (fun _ h9 => h9) rfl dXs_closeCall_56 ?_
      refine va_get (D := (dC, dI)) (ci := 3) (v := .ref (q 14)) (C := "ServiceThreads$Calls") (T := TXc) (N := 5) hx hb hta inXc hown hK hP 3 (wX_3 q dA M_8) rfl 3 (by decide) (hta _ wt_77) (fun _ h9 => h9) rfl dXs_closeCall_59 ?_
      refine lv_iload_n hx hb dXs_closeCall_62 rfl (lv_at hl 3 rfl) ?_
      refine lv_iconst (v := 0) hx hb dXs_closeCall_63 (by decide) ?_
      obtain ⟨h_9, hw⟩ := hw
      refine wo_z (w := (wX q dA)) (M := M_8) hx hb hK hP hD hS 14 9 (wX_14 q dA M_8) (wX_s14 q dA M_8) rfl (by decide) h_9 dXs_closeCall_64 (fun M_10 H locs eM_10 hP hD hS => ?_)
      have hw := hw M_10 eM_10
      refine lv_iconst (v := 1) hx hb dXs_closeCall_65 (by decide) ?_
      exact W.iret (v := 1) hx hb hr (fun t ht hW => ⟨⟨1, M_10, rfl, hw, by rw [ht]; exact hP, va_K.moved hW.alike hK, hD⟩, hS.F ht⟩) hS.2.2 dXs_closeCall_66 hlocks
    · have hw := hw.2 c_6
      refine lv_iload_n hx hb dXs_closeCall_29 rfl (lv_at hl 0 rfl) ?_
      refine lv_bipush (v := 10) hx hb dXs_closeCall_30 (by decide) ?_
      refine lv_icmp_ge (tgt := 45) hx hb dXs_closeCall_32 (by decide) (fun c_11 => ?_) (fun c_11 => ?_)
      · have hw := hw.1 c_11
        refine lv_aload_n hx hb dXs_closeCall_45 rfl (lv_at hl 1 rfl) ?_
        refine va_get (D := (dC, dI)) (ci := 0) (v := .ref (q 3)) (C := "ServiceThreads") (T := TXs) (N := 14) hx hb hta inXs hown hK hP 0 (wX_0 q dA M_2) rfl 2 (by decide) (hta _ wt_120) (fun _ h9 => h9) rfl dXs_closeCall_46 ?_
        refine va_get (D := (dC, dI)) (ci := 3) (v := .ref (q 13)) (C := "ServiceThreads$Calls") (T := TXc) (N := 5) hx hb hta inXc hown hK hP 3 (wX_3 q dA M_2) rfl 2 (by decide) (hta _ wt_75) (fun _ h9 => h9) rfl dXs_closeCall_49 ?_
        refine lv_iload_n hx hb dXs_closeCall_52 rfl (lv_at hl 3 rfl) ?_
        refine lv_iconst (v := (-1)) hx hb dXs_closeCall_53 (by decide) ?_
        obtain ⟨h_12, hw⟩ := hw
        refine wo_i (w := (wX q dA)) (M := M_2) hx hb hK hP hD hS 13 8 (wX_13 q dA M_2) (wX_s13 q dA M_2) rfl h_12 dXs_closeCall_54 (fun M_13 H locs eM_13 hP hD hS => ?_)
        have hw := hw M_13 eM_13
        refine lv_aload_n hx hb dXs_closeCall_55 rfl (lv_at hl 1 rfl) ?_
        refine va_get (D := (dC, dI)) (ci := 0) (v := .ref (q 3)) (C := "ServiceThreads") (T := TXs) (N := 14) hx hb hta inXs hown hK hP 0 (wX_0 q dA M_13) rfl 2 (by decide) (hta _ wt_120) (fun _ h9 => h9) rfl dXs_closeCall_56 ?_
        refine va_get (D := (dC, dI)) (ci := 3) (v := .ref (q 14)) (C := "ServiceThreads$Calls") (T := TXc) (N := 5) hx hb hta inXc hown hK hP 3 (wX_3 q dA M_13) rfl 3 (by decide) (hta _ wt_77) (fun _ h9 => h9) rfl dXs_closeCall_59 ?_
        refine lv_iload_n hx hb dXs_closeCall_62 rfl (lv_at hl 3 rfl) ?_
        refine lv_iconst (v := 0) hx hb dXs_closeCall_63 (by decide) ?_
        obtain ⟨h_14, hw⟩ := hw
        refine wo_z (w := (wX q dA)) (M := M_13) hx hb hK hP hD hS 14 9 (wX_14 q dA M_13) (wX_s14 q dA M_13) rfl (by decide) h_14 dXs_closeCall_64 (fun M_15 H locs eM_15 hP hD hS => ?_)
        have hw := hw M_15 eM_15
        refine lv_iconst (v := 1) hx hb dXs_closeCall_65 (by decide) ?_
        exact W.iret (v := 1) hx hb hr (fun t ht hW => ⟨⟨1, M_15, rfl, hw, by rw [ht]; exact hP, va_K.moved hW.alike hK, hD⟩, hS.F ht⟩) hS.2.2 dXs_closeCall_66 hlocks
      · have hw := hw.2 c_11
        refine lv_aload_n hx hb dXs_closeCall_35 rfl (lv_at hl 1 rfl) ?_
        refine va_get (D := (dC, dI)) (ci := 0) (v := .ref (q 2)) (C := "ServiceThreads") (T := TXs) (N := 14) hx hb hta inXs hown hK hP 0 (wX_0 q dA M_2) rfl 1 (by decide) (hta _ wt_119) (fun _ h9 => h9) rfl dXs_closeCall_36 ?_
        refine va_get (D := (dC, dI)) (ci := 2) (v := .ref (q 10)) (C := "ServiceThreads$Units") (T := TXu) (N := 2) hx hb hta inXu hown hK hP 2 (wX_2 q dA M_2) rfl 1 (by decide) (hta _ wt_57) (fun _ h9 => h9) rfl dXs_closeCall_39 ?_
        refine lv_iload_n hx hb dXs_closeCall_42 rfl (lv_at hl 0 rfl) ?_
        refine lv_iconst (v := (-1)) hx hb dXs_closeCall_43 (by decide) ?_
        obtain ⟨h_16, hw⟩ := hw
        refine wo_i (w := (wX q dA)) (M := M_2) hx hb hK hP hD hS 10 5 (wX_10 q dA M_2) (wX_s10 q dA M_2) rfl h_16 dXs_closeCall_44 (fun M_17 H locs eM_17 hP hD hS => ?_)
        have hw := hw M_17 eM_17
        refine lv_aload_n hx hb dXs_closeCall_45 rfl (lv_at hl 1 rfl) ?_
        refine va_get (D := (dC, dI)) (ci := 0) (v := .ref (q 3)) (C := "ServiceThreads") (T := TXs) (N := 14) hx hb hta inXs hown hK hP 0 (wX_0 q dA M_17) rfl 2 (by decide) (hta _ wt_120) (fun _ h9 => h9) rfl dXs_closeCall_46 ?_
        refine va_get (D := (dC, dI)) (ci := 3) (v := .ref (q 13)) (C := "ServiceThreads$Calls") (T := TXc) (N := 5) hx hb hta inXc hown hK hP 3 (wX_3 q dA M_17) rfl 2 (by decide) (hta _ wt_75) (fun _ h9 => h9) rfl dXs_closeCall_49 ?_
        refine lv_iload_n hx hb dXs_closeCall_52 rfl (lv_at hl 3 rfl) ?_
        refine lv_iconst (v := (-1)) hx hb dXs_closeCall_53 (by decide) ?_
        obtain ⟨h_18, hw⟩ := hw
        refine wo_i (w := (wX q dA)) (M := M_17) hx hb hK hP hD hS 13 8 (wX_13 q dA M_17) (wX_s13 q dA M_17) rfl h_18 dXs_closeCall_54 (fun M_19 H locs eM_19 hP hD hS => ?_)
        have hw := hw M_19 eM_19
        refine lv_aload_n hx hb dXs_closeCall_55 rfl (lv_at hl 1 rfl) ?_
        refine va_get (D := (dC, dI)) (ci := 0) (v := .ref (q 3)) (C := "ServiceThreads") (T := TXs) (N := 14) hx hb hta inXs hown hK hP 0 (wX_0 q dA M_19) rfl 2 (by decide) (hta _ wt_120) (fun _ h9 => h9) rfl dXs_closeCall_56 ?_
        refine va_get (D := (dC, dI)) (ci := 3) (v := .ref (q 14)) (C := "ServiceThreads$Calls") (T := TXc) (N := 5) hx hb hta inXc hown hK hP 3 (wX_3 q dA M_19) rfl 3 (by decide) (hta _ wt_77) (fun _ h9 => h9) rfl dXs_closeCall_59 ?_
        refine lv_iload_n hx hb dXs_closeCall_62 rfl (lv_at hl 3 rfl) ?_
        refine lv_iconst (v := 0) hx hb dXs_closeCall_63 (by decide) ?_
        obtain ⟨h_20, hw⟩ := hw
        refine wo_z (w := (wX q dA)) (M := M_19) hx hb hK hP hD hS 14 9 (wX_14 q dA M_19) (wX_s14 q dA M_19) rfl (by decide) h_20 dXs_closeCall_64 (fun M_21 H locs eM_21 hP hD hS => ?_)
        have hw := hw M_21 eM_21
        refine lv_iconst (v := 1) hx hb dXs_closeCall_65 (by decide) ?_
        exact W.iret (v := 1) hx hb hr (fun t ht hW => ⟨⟨1, M_21, rfl, hw, by rw [ht]; exact hP, va_K.moved hW.alike hK, hD⟩, hS.F ht⟩) hS.2.2 dXs_closeCall_66 hlocks
  · have hw := hw.1 c_3
    refine lv_bipush (v := (-4)) hx hb dXs_closeCall_12 (by decide) ?_
    exact W.iret (v := (-4)) hx hb hr (fun t ht hW => ⟨⟨(-4), M_2, rfl, hw, by rw [ht]; exact hP, va_K.moved hW.alike hK, hD⟩, hS.F ht⟩) hS.2.2 dXs_closeCall_14 hlocks
def wpXs_rest (p0 : Int32) (p1 : Int32) (M : Mm) (post : Int32 → Mm → Prop) : Prop := ((p1 = 0 → (post 1 M)) ∧ (¬ p1 = 0 → (vp_in p0 8 ∧ (∀ y_3 : Int32, y_3 = M 20 p0.toNatClampNeg → (((y_3 = 0 → (vp_in p0 8 ∧ (∀ y_6 : Int32, y_6 = M 17 p0.toNatClampNeg → (((y_6 = 0 → (vp_in p0 8 ∧ (∀ M_17 : Mm, M_17 = stM M 17 (upd (M 17) p0.toNatClampNeg p1) → (post 5 M_17)))) ∧ (¬ y_6 = 0 → (vp_in p0 8 ∧ (∀ y_9 : Int32, y_9 = M 17 p0.toNatClampNeg → (∀ y_10 : Int32, y_10 = y_9 - 1 → (vp_in p0 8 ∧ (∀ M_12 : Mm, M_12 = stM M 17 (upd (M 17) p0.toNatClampNeg y_10) → (vp_in p0 8 ∧ (∀ y_14 : Int32, y_14 = M_12 17 p0.toNatClampNeg → (((y_14 = 0 → (post 1 M_12)) ∧ (¬ y_14 = 0 → (post 5 M_12))))))))))))))))) ∧ (¬ y_3 = 0 → (vp_in p0 8 ∧ (∀ M_19 : Mm, M_19 = stM M 20 (upd (M 20) p0.toNatClampNeg 0) → (vp_in p0 8 ∧ (∀ y_21 : Int32, y_21 = M_19 18 p0.toNatClampNeg → (∀ y_22 : Int32, y_22 = y_21 + 1 → (vp_in p0 8 ∧ (∀ M_24 : Mm, M_24 = stM M_19 18 (upd (M_19 18) p0.toNatClampNeg y_22) → (vp_in p0 8 ∧ (∀ M_26 : Mm, M_26 = stM M_24 17 (upd (M_24 17) p0.toNatClampNeg p1) → (post 5 M_26)))))))))))))))))
set_option maxHeartbeats 4000000 in
set_option maxRecDepth 100000 in
theorem mtXs_rest (l : Launch) (dC : Nat → ClassId) (dI : Nat → Nat → Nat) (q : Nat → Nat) (dA : Nat → ClassId) (sz : Nat) (p0 : Int32) (p1 : Int32) (M : Mm) (post : Int32 → Mm → Prop) (hw : wpXs_rest p0 p1 M post) : Met l yXs_rest (wsA yXs_rest cXs_rest 3 (some .int)) ({ frames := 0, cells := 0, slots := 0, locals := 0 }) (va_Pc [.ref (q 0), .int p0, .int p1] (pW (dC, dI) vwCl (wX q dA) (tX dA) sz M)) (va_Qi post (bW (dC, dI) vwCl (wX q dA) (tX dA) (va_A (wX q dA M) sz)) (va_A (wX q dA M) sz)) 0 0 (va_A (wX q dA M) sz) := by
  refine Met.ofW (cc := cXs_rest) (maxL := 3) (ret := (some .int)) (by decide) rfl ?_
  intro p e s m args below meth c s₁ B hml hv
  obtain ⟨rfl, hsz, hP, hK, hD0⟩ := hv
  have hx := B.exec
  have hb := B.bytes
  have hr := B.returns
  have hts := atoms_spec (ws := (wsA yXs_rest cXs_rest 3 (some .int))) B.pre
  have hta : ∀ w ∈ wsG, w.before _ s = true := fun w h => hts w (List.mem_cons_of_mem _ h)
  have hown : s.vm.findClass "ServiceThreads" = some m.cls := findClass_of_methodNamed B.named
  have hlocks := B.notSynchronized
  subst hsz
  have hD := hD0.self (sz := s.heap.size)
  generalize hAe : va_A (wX q dA M) s.heap.size = A at hD ⊢
  have hA : ∀ q : Nat, s.heap.size ≤ q → A q := fun q h => by rw [← hAe]; exact Or.inr h
  have hS : va_S A s.heap s.heap [] := va_S.rf
  dsimp only [wpXs_rest] at hw
  have hl := lv_entry ([.ref (q 0), .int p0, .int p1]) (n := 3) (Nat.le_of_ble_eq_true rfl)
  rw [lg_entry_eq]
  generalize (lg_sl ([.ref (q 0), .int p0, .int p1]) ++ List.replicate (3 - (lg_sl ([.ref (q 0), .int p0, .int p1])).length) Slot.unset).toArray = ls at hl ⊢
  have hl : lv_has ls 3 [(0, .ref (q 0)), (1, .int p0), (2, .int p1)] := hl
  refine lv_iload_n hx hb dXs_rest_0 rfl (lv_at hl 2 rfl) ?_
  refine lv_if_ne (tgt := 6) hx hb dXs_rest_1 (by decide) (fun c_1 => ?_) (fun c_1 => ?_)
  · have hw := hw.2 c_1
    refine lv_aload_n hx hb dXs_rest_6 rfl (lv_at hl 0 rfl) ?_
    refine va_get (D := (dC, dI)) (ci := 0) (v := .ref (q 25)) (C := "ServiceThreads") (T := TXs) (N := 14) hx hb hta inXs hown hK hP 0 (wX_0 q dA M) rfl 10 (by decide) (hta _ wt_128) (fun _ h9 => h9) rfl dXs_rest_7 ?_
    refine lv_iload_n hx hb dXs_rest_10 rfl (lv_at hl 1 rfl) ?_
    obtain ⟨h_2, hw⟩ := hw
    refine ro_z (w := (wX q dA)) (M := M) hx hb hK hP 25 20 (wX_25 q dA M) rfl h_2 dXs_rest_11 (fun y_3 ey_3 => ?_)
    have hw := hw y_3 ey_3
    refine lv_if_eq (tgt := 41) hx hb dXs_rest_12 (by decide) (fun c_4 => ?_) (fun c_4 => ?_)
    · have hw := hw.1 c_4
      refine lv_aload_n hx hb dXs_rest_41 rfl (lv_at hl 0 rfl) ?_
      refine va_get (D := (dC, dI)) (ci := 0) (v := .ref (q 22)) (C := "ServiceThreads") (T := TXs) (N := 14) hx hb hta inXs hown hK hP 0 (wX_0 q dA M) rfl 7 (by decide) (hta _ wt_125) (fun _ h9 => h9) rfl dXs_rest_42 ?_
      refine lv_iload_n hx hb dXs_rest_45 rfl (lv_at hl 1 rfl) ?_
      obtain ⟨h_5, hw⟩ := hw
      refine ro_i (w := (wX q dA)) (M := M) hx hb hK hP 22 17 (wX_22 q dA M) rfl h_5 dXs_rest_46 (fun y_6 ey_6 => ?_)
      have hw := hw y_6 ey_6
      refine lv_if_ne (tgt := 59) hx hb dXs_rest_47 (by decide) (fun c_7 => ?_) (fun c_7 => ?_)
      · have hw := hw.2 c_7
        refine lv_aload_n hx hb dXs_rest_59 rfl (lv_at hl 0 rfl) ?_
        refine va_get (D := (dC, dI)) (ci := 0) (v := .ref (q 22)) (C := "ServiceThreads") (T := TXs) (N := 14) hx hb hta inXs hown hK hP 0 (wX_0 q dA M) rfl 7 (by decide) (hta _ wt_125) (fun _ h9 => h9) rfl dXs_rest_60 ?_
        refine lv_iload_n hx hb dXs_rest_63 rfl (lv_at hl 1 rfl) ?_
        refine lv_dup2_11 hx hb dXs_rest_64 rfl rfl ?_
        obtain ⟨h_8, hw⟩ := hw
        refine ro_i (w := (wX q dA)) (M := M) hx hb hK hP 22 17 (wX_22 q dA M) rfl h_8 dXs_rest_65 (fun y_9 ey_9 => ?_)
        have hw := hw y_9 ey_9
        refine lv_iconst (v := 1) hx hb dXs_rest_66 (by decide) ?_
        refine lv_isub hx hb dXs_rest_67 ?_
        refine lv_topi (fun y_10 ey_10 => ?_)
        have hw := hw y_10 ey_10
        obtain ⟨h_11, hw⟩ := hw
        refine wo_i (w := (wX q dA)) (M := M) hx hb hK hP hD hS 22 17 (wX_22 q dA M) (wX_s22 q dA M) rfl h_11 dXs_rest_68 (fun M_12 H locs eM_12 hP hD hS => ?_)
        have hw := hw M_12 eM_12
        refine lv_aload_n hx hb dXs_rest_69 rfl (lv_at hl 0 rfl) ?_
        refine va_get (D := (dC, dI)) (ci := 0) (v := .ref (q 22)) (C := "ServiceThreads") (T := TXs) (N := 14) hx hb hta inXs hown hK hP 0 (wX_0 q dA M_12) rfl 7 (by decide) (hta _ wt_125) (fun _ h9 => h9) rfl dXs_rest_70 ?_
        refine lv_iload_n hx hb dXs_rest_73 rfl (lv_at hl 1 rfl) ?_
        obtain ⟨h_13, hw⟩ := hw
        refine ro_i (w := (wX q dA)) (M := M_12) hx hb hK hP 22 17 (wX_22 q dA M_12) rfl h_13 dXs_rest_74 (fun y_14 ey_14 => ?_)
        have hw := hw y_14 ey_14
        refine lv_if_ne (tgt := 82) hx hb dXs_rest_75 (by decide) (fun c_15 => ?_) (fun c_15 => ?_)
        · have hw := hw.2 c_15
          refine lv_iconst (v := 5) hx hb dXs_rest_82 (by decide) ?_
          exact W.iret (v := 5) hx hb hr (fun t ht hW => ⟨⟨5, M_12, rfl, hw, by rw [ht]; exact hP, va_K.moved hW.alike hK, hD⟩, hS.F ht⟩) hS.2.2 dXs_rest_83 hlocks
        · have hw := hw.1 c_15
          refine lv_iconst (v := 1) hx hb dXs_rest_78 (by decide) ?_
          refine lv_goto (tgt := 83) hx hb dXs_rest_79 (by decide) ?_
          exact W.iret (v := 1) hx hb hr (fun t ht hW => ⟨⟨1, M_12, rfl, hw, by rw [ht]; exact hP, va_K.moved hW.alike hK, hD⟩, hS.F ht⟩) hS.2.2 dXs_rest_83 hlocks
      · have hw := hw.1 c_7
        refine lv_aload_n hx hb dXs_rest_50 rfl (lv_at hl 0 rfl) ?_
        refine va_get (D := (dC, dI)) (ci := 0) (v := .ref (q 22)) (C := "ServiceThreads") (T := TXs) (N := 14) hx hb hta inXs hown hK hP 0 (wX_0 q dA M) rfl 7 (by decide) (hta _ wt_125) (fun _ h9 => h9) rfl dXs_rest_51 ?_
        refine lv_iload_n hx hb dXs_rest_54 rfl (lv_at hl 1 rfl) ?_
        refine lv_iload_n hx hb dXs_rest_55 rfl (lv_at hl 2 rfl) ?_
        obtain ⟨h_16, hw⟩ := hw
        refine wo_i (w := (wX q dA)) (M := M) hx hb hK hP hD hS 22 17 (wX_22 q dA M) (wX_s22 q dA M) rfl h_16 dXs_rest_56 (fun M_17 H locs eM_17 hP hD hS => ?_)
        have hw := hw M_17 eM_17
        refine lv_iconst (v := 5) hx hb dXs_rest_57 (by decide) ?_
        exact W.iret (v := 5) hx hb hr (fun t ht hW => ⟨⟨5, M_17, rfl, hw, by rw [ht]; exact hP, va_K.moved hW.alike hK, hD⟩, hS.F ht⟩) hS.2.2 dXs_rest_58 hlocks
    · have hw := hw.2 c_4
      refine lv_aload_n hx hb dXs_rest_15 rfl (lv_at hl 0 rfl) ?_
      refine va_get (D := (dC, dI)) (ci := 0) (v := .ref (q 25)) (C := "ServiceThreads") (T := TXs) (N := 14) hx hb hta inXs hown hK hP 0 (wX_0 q dA M) rfl 10 (by decide) (hta _ wt_128) (fun _ h9 => h9) rfl dXs_rest_16 ?_
      refine lv_iload_n hx hb dXs_rest_19 rfl (lv_at hl 1 rfl) ?_
      refine lv_iconst (v := 0) hx hb dXs_rest_20 (by decide) ?_
      obtain ⟨h_18, hw⟩ := hw
      refine wo_z (w := (wX q dA)) (M := M) hx hb hK hP hD hS 25 20 (wX_25 q dA M) (wX_s25 q dA M) rfl (by decide) h_18 dXs_rest_21 (fun M_19 H locs eM_19 hP hD hS => ?_)
      have hw := hw M_19 eM_19
      refine lv_aload_n hx hb dXs_rest_22 rfl (lv_at hl 0 rfl) ?_
      refine va_get (D := (dC, dI)) (ci := 0) (v := .ref (q 23)) (C := "ServiceThreads") (T := TXs) (N := 14) hx hb hta inXs hown hK hP 0 (wX_0 q dA M_19) rfl 8 (by decide) (hta _ wt_126) (fun _ h9 => h9) rfl dXs_rest_23 ?_
      refine lv_iload_n hx hb dXs_rest_26 rfl (lv_at hl 1 rfl) ?_
      refine lv_dup2_11 hx hb dXs_rest_27 rfl rfl ?_
      obtain ⟨h_20, hw⟩ := hw
      refine ro_i (w := (wX q dA)) (M := M_19) hx hb hK hP 23 18 (wX_23 q dA M_19) rfl h_20 dXs_rest_28 (fun y_21 ey_21 => ?_)
      have hw := hw y_21 ey_21
      refine lv_iconst (v := 1) hx hb dXs_rest_29 (by decide) ?_
      refine lv_iadd hx hb dXs_rest_30 ?_
      refine lv_topi (fun y_22 ey_22 => ?_)
      have hw := hw y_22 ey_22
      obtain ⟨h_23, hw⟩ := hw
      refine wo_i (w := (wX q dA)) (M := M_19) hx hb hK hP hD hS 23 18 (wX_23 q dA M_19) (wX_s23 q dA M_19) rfl h_23 dXs_rest_31 (fun M_24 H locs eM_24 hP hD hS => ?_)
      have hw := hw M_24 eM_24
      refine lv_aload_n hx hb dXs_rest_32 rfl (lv_at hl 0 rfl) ?_
      refine va_get (D := (dC, dI)) (ci := 0) (v := .ref (q 22)) (C := "ServiceThreads") (T := TXs) (N := 14) hx hb hta inXs hown hK hP 0 (wX_0 q dA M_24) rfl 7 (by decide) (hta _ wt_125) (fun _ h9 => h9) rfl dXs_rest_33 ?_
      refine lv_iload_n hx hb dXs_rest_36 rfl (lv_at hl 1 rfl) ?_
      refine lv_iload_n hx hb dXs_rest_37 rfl (lv_at hl 2 rfl) ?_
      obtain ⟨h_25, hw⟩ := hw
      refine wo_i (w := (wX q dA)) (M := M_24) hx hb hK hP hD hS 22 17 (wX_22 q dA M_24) (wX_s22 q dA M_24) rfl h_25 dXs_rest_38 (fun M_26 H locs eM_26 hP hD hS => ?_)
      have hw := hw M_26 eM_26
      refine lv_iconst (v := 5) hx hb dXs_rest_39 (by decide) ?_
      exact W.iret (v := 5) hx hb hr (fun t ht hW => ⟨⟨5, M_26, rfl, hw, by rw [ht]; exact hP, va_K.moved hW.alike hK, hD⟩, hS.F ht⟩) hS.2.2 dXs_rest_40 hlocks
  · have hw := hw.1 c_1
    refine lv_iconst (v := 1) hx hb dXs_rest_4 (by decide) ?_
    exact W.iret (v := 1) hx hb hr (fun t ht hW => ⟨⟨1, M, rfl, hw, by rw [ht]; exact hP, va_K.moved hW.alike hK, hD⟩, hS.F ht⟩) hS.2.2 dXs_rest_5 hlocks
def wpXs_perform (p0 : Int32) (p1 : Int32) (p2 : Int32) (M : Mm) (post : Int32 → Mm → Prop) : Prop := ((p1 = 0 → (wpXs_lockUnit p0 p2 M (fun r_3 M_4 => (post r_3 M_4)))) ∧ (¬ p1 = 0 → (((p1 = 1 → (wpXs_freeUnit p0 p2 M (fun r_6 M_7 => (post r_6 M_7)))) ∧ (¬ p1 = 1 → (((p1 = 2 → (wpXs_takeCall p0 p2 M (fun r_9 M_10 => (post r_9 M_10)))) ∧ (¬ p1 = 2 → (((p1 = 3 → (∀ y_12 : Int32, y_12 = p2 / 16 → (∀ y_13 : Int32, y_13 = p2 - p2 / 16 * 16 → (wpXs_sendUnit p0 y_12 y_13 M (fun r_14 M_15 => (post r_14 M_15)))))) ∧ (¬ p1 = 3 → (((p1 = 4 → (wpXs_closeCall p0 p2 M (fun r_17 M_18 => (post r_17 M_18)))) ∧ (¬ p1 = 4 → (((p1 = 5 → (wpXs_rest p0 p2 M (fun r_20 M_21 => (post r_20 M_21)))) ∧ (¬ p1 = 5 → (post (-5) M))))))))))))))))))
set_option maxHeartbeats 4000000 in
set_option maxRecDepth 100000 in
theorem mtXs_perform (l : Launch) (dC : Nat → ClassId) (dI : Nat → Nat → Nat) (q : Nat → Nat) (dA : Nat → ClassId) (sz : Nat) (p0 : Int32) (p1 : Int32) (p2 : Int32) (M : Mm) (post : Int32 → Mm → Prop) (hw : wpXs_perform p0 p1 p2 M post) : Met l yXs_perform (wsA yXs_perform cXs_perform 4 (some .int)) ({ frames := 3, cells := 0, slots := 0, locals := 66 }) (va_Pc [.ref (q 0), .int p0, .int p1, .int p2] (pW (dC, dI) vwCl (wX q dA) (tX dA) sz M)) (va_Qi post (bW (dC, dI) vwCl (wX q dA) (tX dA) (va_A (wX q dA M) sz)) (va_A (wX q dA M) sz)) 0 0 (va_A (wX q dA M) sz) := by
  refine Met.ofW (cc := cXs_perform) (maxL := 4) (ret := (some .int)) (by decide) rfl ?_
  intro p e s m args below meth c s₁ B hml hv
  obtain ⟨rfl, hsz, hP, hK, hD0⟩ := hv
  have hx := B.exec
  have hb := B.bytes
  have hr := B.returns
  have hts := atoms_spec (ws := (wsA yXs_perform cXs_perform 4 (some .int))) B.pre
  have hta : ∀ w ∈ wsG, w.before _ s = true := fun w h => hts w (List.mem_cons_of_mem _ h)
  have hown : s.vm.findClass "ServiceThreads" = some m.cls := findClass_of_methodNamed B.named
  have hlocks := B.notSynchronized
  subst hsz
  have hD := hD0.self (sz := s.heap.size)
  generalize hAe : va_A (wX q dA M) s.heap.size = A at hD ⊢
  have hA : ∀ q : Nat, s.heap.size ≤ q → A q := fun q h => by rw [← hAe]; exact Or.inr h
  have hS : va_S A s.heap s.heap [] := va_S.rf
  dsimp only [wpXs_perform] at hw
  have hl := lv_entry ([.ref (q 0), .int p0, .int p1, .int p2]) (n := 4) (Nat.le_of_ble_eq_true rfl)
  rw [lg_entry_eq]
  generalize (lg_sl ([.ref (q 0), .int p0, .int p1, .int p2]) ++ List.replicate (4 - (lg_sl ([.ref (q 0), .int p0, .int p1, .int p2])).length) Slot.unset).toArray = ls at hl ⊢
  have hl : lv_has ls 4 [(0, .ref (q 0)), (1, .int p0), (2, .int p1), (3, .int p2)] := hl
  refine lv_iload_n hx hb dXs_perform_0 rfl (lv_at hl 2 rfl) ?_
  rcases Classical.em (p1 = 0) with c_2 | c_2
  · have hw := hw.1 c_2
    refine lv_tableIn (tgt := 40) (off := 39) hx hb dXs_perform_1 (by rw [c_2]; decide) (by rw [c_2]; decide) (by rw [c_2]; decide) (by decide) ?_
    refine lv_aload_n hx hb dXs_perform_40 rfl (lv_at hl 0 rfl) ?_
    refine lv_iload_n hx hb dXs_perform_41 rfl (lv_at hl 1 rfl) ?_
    refine lv_iload_n hx hb dXs_perform_42 rfl (lv_at hl 3 rfl) ?_
    refine cn_i (w := (wX q dA)) (M := M) (wX_ad q dA) (va_runV (As := [.int p0, .int p2]) (rest := []) ⟨hx, hb, hml, hown, hta⟩ (mtXs_lockUnit l dC dI q dA s.heap.size p0 p2 M _ hw) (cwV 2 hta (giV wt_405 wt_407 ws_8 wt_1 wt_408) rfl rfl rfl (by decide +kernel) ⟨Nat.le_of_ble_eq_true rfl, Nat.le_of_ble_eq_true rfl⟩) ⟨pW_blind, va_recv hK hP (ci := 0) (q0 := 0) rfl (wX_0 q dA M), pW_of hK hP hD⟩ rfl rfl hl.1 rfl (lv_room (Nat.le_of_ble_eq_true rfl)) dXs_perform_43 ⟨Nat.le_of_ble_eq_true rfl, Nat.le_of_ble_eq_true rfl⟩) hD hS hA (fun r_3 M_4 H locs hw hP hD hS => ?_)
    exact W.iret (v := r_3) hx hb hr (fun t ht hW => ⟨⟨r_3, M_4, rfl, hw, by rw [ht]; exact hP, va_K.moved hW.alike hK, hD⟩, hS.F ht⟩) hS.2.2 dXs_perform_46 hlocks
  · have hw := hw.2 c_2
    rcases Classical.em (p1 = 1) with c_5 | c_5
    · have hw := hw.1 c_5
      refine lv_tableIn (tgt := 47) (off := 46) hx hb dXs_perform_1 (by rw [c_5]; decide) (by rw [c_5]; decide) (by rw [c_5]; decide) (by decide) ?_
      refine lv_aload_n hx hb dXs_perform_47 rfl (lv_at hl 0 rfl) ?_
      refine lv_iload_n hx hb dXs_perform_48 rfl (lv_at hl 1 rfl) ?_
      refine lv_iload_n hx hb dXs_perform_49 rfl (lv_at hl 3 rfl) ?_
      refine cn_i (w := (wX q dA)) (M := M) (wX_ad q dA) (va_runV (As := [.int p0, .int p2]) (rest := []) ⟨hx, hb, hml, hown, hta⟩ (mtXs_freeUnit l dC dI q dA s.heap.size p0 p2 M _ hw) (cwV 2 hta (giV wt_413 wt_415 ws_9 wt_1 wt_416) rfl rfl rfl (by decide +kernel) ⟨Nat.le_of_ble_eq_true rfl, Nat.le_of_ble_eq_true rfl⟩) ⟨pW_blind, va_recv hK hP (ci := 0) (q0 := 0) rfl (wX_0 q dA M), pW_of hK hP hD⟩ rfl rfl hl.1 rfl (lv_room (Nat.le_of_ble_eq_true rfl)) dXs_perform_50 ⟨Nat.le_of_ble_eq_true rfl, Nat.le_of_ble_eq_true rfl⟩) hD hS hA (fun r_6 M_7 H locs hw hP hD hS => ?_)
      exact W.iret (v := r_6) hx hb hr (fun t ht hW => ⟨⟨r_6, M_7, rfl, hw, by rw [ht]; exact hP, va_K.moved hW.alike hK, hD⟩, hS.F ht⟩) hS.2.2 dXs_perform_53 hlocks
    · have hw := hw.2 c_5
      rcases Classical.em (p1 = 2) with c_8 | c_8
      · have hw := hw.1 c_8
        refine lv_tableIn (tgt := 54) (off := 53) hx hb dXs_perform_1 (by rw [c_8]; decide) (by rw [c_8]; decide) (by rw [c_8]; decide) (by decide) ?_
        refine lv_aload_n hx hb dXs_perform_54 rfl (lv_at hl 0 rfl) ?_
        refine lv_iload_n hx hb dXs_perform_55 rfl (lv_at hl 1 rfl) ?_
        refine lv_iload_n hx hb dXs_perform_56 rfl (lv_at hl 3 rfl) ?_
        refine cn_i (w := (wX q dA)) (M := M) (wX_ad q dA) (va_runV (As := [.int p0, .int p2]) (rest := []) ⟨hx, hb, hml, hown, hta⟩ (mtXs_takeCall l dC dI q dA s.heap.size p0 p2 M _ hw) (cwV 2 hta (giV wt_417 wt_419 ws_10 wt_1 wt_420) rfl rfl rfl (by decide +kernel) ⟨Nat.le_of_ble_eq_true rfl, Nat.le_of_ble_eq_true rfl⟩) ⟨pW_blind, va_recv hK hP (ci := 0) (q0 := 0) rfl (wX_0 q dA M), pW_of hK hP hD⟩ rfl rfl hl.1 rfl (lv_room (Nat.le_of_ble_eq_true rfl)) dXs_perform_57 ⟨Nat.le_of_ble_eq_true rfl, Nat.le_of_ble_eq_true rfl⟩) hD hS hA (fun r_9 M_10 H locs hw hP hD hS => ?_)
        exact W.iret (v := r_9) hx hb hr (fun t ht hW => ⟨⟨r_9, M_10, rfl, hw, by rw [ht]; exact hP, va_K.moved hW.alike hK, hD⟩, hS.F ht⟩) hS.2.2 dXs_perform_60 hlocks
      · have hw := hw.2 c_8
        rcases Classical.em (p1 = 3) with c_11 | c_11
        · have hw := hw.1 c_11
          refine lv_tableIn (tgt := 61) (off := 60) hx hb dXs_perform_1 (by rw [c_11]; decide) (by rw [c_11]; decide) (by rw [c_11]; decide) (by decide) ?_
          refine lv_aload_n hx hb dXs_perform_61 rfl (lv_at hl 0 rfl) ?_
          refine lv_iload_n hx hb dXs_perform_62 rfl (lv_at hl 1 rfl) ?_
          refine lv_iload_n hx hb dXs_perform_63 rfl (lv_at hl 3 rfl) ?_
          refine lv_bipush (v := 16) hx hb dXs_perform_64 (by decide) ?_
          refine lv_idiv hx hb dXs_perform_66 (by decide) ?_
          refine lv_topi (fun y_12 ey_12 => ?_)
          have hw := hw y_12 ey_12
          refine lv_iload_n hx hb dXs_perform_67 rfl (lv_at hl 3 rfl) ?_
          refine lv_bipush (v := 16) hx hb dXs_perform_68 (by decide) ?_
          refine lv_irem hx hb dXs_perform_70 (by decide) ?_
          refine lv_topi (fun y_13 ey_13 => ?_)
          have hw := hw y_13 ey_13
          refine cn_i (w := (wX q dA)) (M := M) (wX_ad q dA) (va_runV (As := [.int p0, .int y_12, .int y_13]) (rest := []) ⟨hx, hb, hml, hown, hta⟩ (mtXs_sendUnit l dC dI q dA s.heap.size p0 y_12 y_13 M _ hw) (cwV 3 hta (giV wt_426 wt_428 ws_11 wt_1 wt_429) rfl rfl rfl (by decide +kernel) ⟨Nat.le_of_ble_eq_true rfl, Nat.le_of_ble_eq_true rfl⟩) ⟨pW_blind, va_recv hK hP (ci := 0) (q0 := 0) rfl (wX_0 q dA M), pW_of hK hP hD⟩ rfl rfl hl.1 rfl (lv_room (Nat.le_of_ble_eq_true rfl)) dXs_perform_71 ⟨Nat.le_of_ble_eq_true rfl, Nat.le_of_ble_eq_true rfl⟩) hD hS hA (fun r_14 M_15 H locs hw hP hD hS => ?_)
          exact W.iret (v := r_14) hx hb hr (fun t ht hW => ⟨⟨r_14, M_15, rfl, hw, by rw [ht]; exact hP, va_K.moved hW.alike hK, hD⟩, hS.F ht⟩) hS.2.2 dXs_perform_74 hlocks
        · have hw := hw.2 c_11
          rcases Classical.em (p1 = 4) with c_16 | c_16
          · have hw := hw.1 c_16
            refine lv_tableIn (tgt := 75) (off := 74) hx hb dXs_perform_1 (by rw [c_16]; decide) (by rw [c_16]; decide) (by rw [c_16]; decide) (by decide) ?_
            refine lv_aload_n hx hb dXs_perform_75 rfl (lv_at hl 0 rfl) ?_
            refine lv_iload_n hx hb dXs_perform_76 rfl (lv_at hl 1 rfl) ?_
            refine lv_iload_n hx hb dXs_perform_77 rfl (lv_at hl 3 rfl) ?_
            refine cn_i (w := (wX q dA)) (M := M) (wX_ad q dA) (va_runV (As := [.int p0, .int p2]) (rest := []) ⟨hx, hb, hml, hown, hta⟩ (mtXs_closeCall l dC dI q dA s.heap.size p0 p2 M _ hw) (cwV 2 hta (giV wt_431 wt_433 ws_12 wt_1 wt_434) rfl rfl rfl (by decide +kernel) ⟨Nat.le_of_ble_eq_true rfl, Nat.le_of_ble_eq_true rfl⟩) ⟨pW_blind, va_recv hK hP (ci := 0) (q0 := 0) rfl (wX_0 q dA M), pW_of hK hP hD⟩ rfl rfl hl.1 rfl (lv_room (Nat.le_of_ble_eq_true rfl)) dXs_perform_78 ⟨Nat.le_of_ble_eq_true rfl, Nat.le_of_ble_eq_true rfl⟩) hD hS hA (fun r_17 M_18 H locs hw hP hD hS => ?_)
            exact W.iret (v := r_17) hx hb hr (fun t ht hW => ⟨⟨r_17, M_18, rfl, hw, by rw [ht]; exact hP, va_K.moved hW.alike hK, hD⟩, hS.F ht⟩) hS.2.2 dXs_perform_81 hlocks
          · have hw := hw.2 c_16
            rcases Classical.em (p1 = 5) with c_19 | c_19
            · have hw := hw.1 c_19
              refine lv_tableIn (tgt := 82) (off := 81) hx hb dXs_perform_1 (by rw [c_19]; decide) (by rw [c_19]; decide) (by rw [c_19]; decide) (by decide) ?_
              refine lv_aload_n hx hb dXs_perform_82 rfl (lv_at hl 0 rfl) ?_
              refine lv_iload_n hx hb dXs_perform_83 rfl (lv_at hl 1 rfl) ?_
              refine lv_iload_n hx hb dXs_perform_84 rfl (lv_at hl 3 rfl) ?_
              refine cn_i (w := (wX q dA)) (M := M) (wX_ad q dA) (va_runV (As := [.int p0, .int p2]) (rest := []) ⟨hx, hb, hml, hown, hta⟩ (mtXs_rest l dC dI q dA s.heap.size p0 p2 M _ hw) (cwV 2 hta (giV wt_435 wt_437 ws_13 wt_1 wt_438) rfl rfl rfl (by decide +kernel) ⟨Nat.le_of_ble_eq_true rfl, Nat.le_of_ble_eq_true rfl⟩) ⟨pW_blind, va_recv hK hP (ci := 0) (q0 := 0) rfl (wX_0 q dA M), pW_of hK hP hD⟩ rfl rfl hl.1 rfl (lv_room (Nat.le_of_ble_eq_true rfl)) dXs_perform_85 ⟨Nat.le_of_ble_eq_true rfl, Nat.le_of_ble_eq_true rfl⟩) hD hS hA (fun r_20 M_21 H locs hw hP hD hS => ?_)
              exact W.iret (v := r_20) hx hb hr (fun t ht hW => ⟨⟨r_20, M_21, rfl, hw, by rw [ht]; exact hP, va_K.moved hW.alike hK, hD⟩, hS.F ht⟩) hS.2.2 dXs_perform_88 hlocks
            · have hw := hw.2 c_19
              refine lv_tableOut (tgt := 89) hx hb dXs_perform_1 (by have n0 := lv_neT c_2 (show (0 : Int32).toInt = 0 by decide); have n1 := lv_neT c_5 (show (1 : Int32).toInt = 1 by decide); have n2 := lv_neT c_8 (show (2 : Int32).toInt = 2 by decide); have n3 := lv_neT c_11 (show (3 : Int32).toInt = 3 by decide); have n4 := lv_neT c_16 (show (4 : Int32).toInt = 4 by decide); have n5 := lv_neT c_19 (show (5 : Int32).toInt = 5 by decide); omega) (by decide) ?_
              refine lv_bipush (v := (-5)) hx hb dXs_perform_89 (by decide) ?_
              exact W.iret (v := (-5)) hx hb hr (fun t ht hW => ⟨⟨(-5), M, rfl, hw, by rw [ht]; exact hP, va_K.moved hW.alike hK, hD⟩, hS.F ht⟩) hS.2.2 dXs_perform_91 hlocks
