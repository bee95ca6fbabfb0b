def wpXs_fault (p0 : Int32) (p1 : Int32) (M : Mm) (post : Mm → Prop) : Prop := vp_in p0 8 ∧ (∀ y_2 : Int32, y_2 = M 15 p0.toNatClampNeg → (∀ y_3 : Int32, y_3 = M 24 0 → (wpXr_tell p0 p1 y_2 y_3 M (fun M_5 => (vp_in p0 8 ∧ (∀ M_7 : Mm, M_7 = stM M_5 16 (upd (M_5 16) p0.toNatClampNeg p1) → (wpXu_freeAllOf p0 M_7 (fun M_9 => (wpXc_dropUnsentOf p0 M_9 (fun M_11 => (wpXp_finishOf p0 M_11 (fun r_12 M_13 => (vp_in p0 8 ∧ (∀ y_15 : Int32, y_15 = M_13 15 p0.toNatClampNeg → (((r_12 ≤ y_15 → (wpXs_end p0 M_13 (fun M_18 => (post M_18)))) ∧ (¬ r_12 ≤ y_15 → (vp_in p0 8 ∧ (∀ M_20 : Mm, M_20 = stM M_13 15 (upd (M_13 15) p0.toNatClampNeg r_12) → (post M_20))))))))))))))))))))
set_option maxHeartbeats 4000000 in
set_option maxRecDepth 100000 in
theorem mtXs_fault (l : Launch) (dC : Nat → ClassId) (dI : Nat → Nat → Nat) (q : Nat → Nat) (dA : Nat → ClassId) (sz : Nat) (p0 : Int32) (p1 : Int32) (M : Mm) (post : Mm → Prop) (hw : wpXs_fault p0 p1 M post) : Met l yXs_fault (wsA yXs_fault cXs_fault 4 none) ({ frames := 3, cells := 0, slots := 0, locals := 65 }) (va_Pc [.ref (q 0), .int p0, .int p1] (pW (dC, dI) vwCl (wX q dA) (tX dA) sz M)) (va_Qv post (bW (dC, dI) vwCl (wX q dA) (tX dA) (va_A (wX q dA M) sz)) (va_A (wX q dA M) sz)) 0 0 (va_A (wX q dA M) sz) := by
  refine Met.ofW (cc := cXs_fault) (maxL := 4) (ret := none) (by decide) rfl ?_
  intro p e s m args below meth c s₁ B hml hv
  obtain ⟨rfl, hsz, hP, hK, hD0⟩ := hv
  have hx := B.exec
  have hb := B.bytes
  have hr := B.returns
  have hts := atoms_spec (ws := (wsA yXs_fault cXs_fault 4 none)) B.pre
  have hta : ∀ w ∈ wsG, w.before _ s = true := fun w h => hts w (List.mem_cons_of_mem _ h)
  have hown : s.vm.findClass "ServiceThreads" = some m.cls := findClass_of_methodNamed B.named
  have hlocks := B.notSynchronized
  subst hsz
  have hD := hD0.self (sz := s.heap.size)
  generalize hAe : va_A (wX q dA M) s.heap.size = A at hD ⊢
  have hA : ∀ q : Nat, s.heap.size ≤ q → A q := fun q h => by rw [← hAe]; exact Or.inr h
  have hS : va_S A s.heap s.heap [] := va_S.rf
  dsimp only [wpXs_fault] at hw
  have hl := lv_entry ([.ref (q 0), .int p0, .int p1]) (n := 4) (Nat.le_of_ble_eq_true rfl)
  rw [lg_entry_eq]
  generalize (lg_sl ([.ref (q 0), .int p0, .int p1]) ++ List.replicate (4 - (lg_sl ([.ref (q 0), .int p0, .int p1])).length) Slot.unset).toArray = ls at hl ⊢
  have hl : lv_has ls 4 [(0, .ref (q 0)), (1, .int p0), (2, .int p1)] := hl
  refine lv_aload_n hx hb dXs_fault_0 rfl (lv_at hl 0 rfl) ?_
  refine va_get (D := (dC, dI)) (ci := 0) (v := .ref (q 4)) (C := "ServiceThreads") (T := TXs) (N := 14) hx hb hta inXs hown hK hP 0 (wX_0 q dA M) rfl 3 (by decide) (hta _ wt_121) (fun _ h9 => h9) rfl dXs_fault_1 ?_
  refine lv_iload_n hx hb dXs_fault_4 rfl (lv_at hl 1 rfl) ?_
  refine lv_iload_n hx hb dXs_fault_5 rfl (lv_at hl 2 rfl) ?_
  refine lv_aload_n hx hb dXs_fault_6 rfl (lv_at hl 0 rfl) ?_
  refine va_get (D := (dC, dI)) (ci := 0) (v := .ref (q 20)) (C := "ServiceThreads") (T := TXs) (N := 14) hx hb hta inXs hown hK hP 0 (wX_0 q dA M) rfl 5 (by decide) (hta _ wt_123) (fun _ h9 => h9) rfl dXs_fault_7 ?_
  refine lv_iload_n hx hb dXs_fault_10 rfl (lv_at hl 1 rfl) ?_
  obtain ⟨h_1, hw⟩ := hw
  refine ro_i (w := (wX q dA)) (M := M) hx hb hK hP 20 15 (wX_20 q dA M) rfl h_1 dXs_fault_11 (fun y_2 ey_2 => ?_)
  have hw := hw y_2 ey_2
  refine lv_aload_n hx hb dXs_fault_12 rfl (lv_at hl 0 rfl) ?_
  refine va_get (D := (dC, dI)) (ci := 0) (v := .int (M 24 0)) (C := "ServiceThreads") (T := TXs) (N := 14) hx hb hta inXs hown hK hP 0 (wX_0 q dA M) rfl 12 (by decide) (hta _ wt_130) (fun _ h9 => h9) rfl dXs_fault_13 ?_
  refine lv_topi (fun y_3 ey_3 => ?_)
  have hw := hw y_3 ey_3
  refine cn_v (w := (wX q dA)) (M := M) (wX_ad q dA) (va_runV (As := [.int p0, .int p1, .int y_2, .int y_3]) (rest := []) ⟨hx, hb, hml, hown, hta⟩ (mtXr_tell l dC dI q dA s.heap.size p0 p1 y_2 y_3 M _ hw) (cwV 4 hta (giV wt_422 wt_423 wt_424 wt_6 wt_425) rfl rfl rfl (by decide +kernel) ⟨Nat.le_of_ble_eq_true rfl, Nat.le_of_ble_eq_true rfl⟩) ⟨pW_blind, va_recv hK hP (ci := 4) (q0 := 4) rfl (wX_4 q dA M), pW_of hK hP hD⟩ rfl rfl hl.1 rfl (lv_room (Nat.le_of_ble_eq_true rfl)) dXs_fault_16 ⟨Nat.le_of_ble_eq_true rfl, Nat.le_of_ble_eq_true rfl⟩) hD hS hA (fun M_5 H locs hw hP hD hS => ?_)
  refine lv_aload_n hx hb dXs_fault_19 rfl (lv_at hl 0 rfl) ?_
  refine va_get (D := (dC, dI)) (ci := 0) (v := .ref (q 21)) (C := "ServiceThreads") (T := TXs) (N := 14) hx hb hta inXs hown hK hP 0 (wX_0 q dA M_5) rfl 6 (by decide) (hta _ wt_124) (fun _ h9 => h9) rfl dXs_fault_20 ?_
  refine lv_iload_n hx hb dXs_fault_23 rfl (lv_at hl 1 rfl) ?_
  refine lv_iload_n hx hb dXs_fault_24 rfl (lv_at hl 2 rfl) ?_
  obtain ⟨h_6, hw⟩ := hw
  refine wo_i (w := (wX q dA)) (M := M_5) hx hb hK hP hD hS 21 16 (wX_21 q dA M_5) (wX_s21 q dA M_5) rfl h_6 dXs_fault_25 (fun M_7 H locs eM_7 hP hD hS => ?_)
  have hw := hw M_7 eM_7
  refine lv_aload_n hx hb dXs_fault_26 rfl (lv_at hl 0 rfl) ?_
  refine va_get (D := (dC, dI)) (ci := 0) (v := .ref (q 2)) (C := "ServiceThreads") (T := TXs) (N := 14) hx hb hta inXs hown hK hP 0 (wX_0 q dA M_7) rfl 1 (by decide) (hta _ wt_119) (fun _ h9 => h9) rfl dXs_fault_27 ?_
  refine lv_iload_n hx hb dXs_fault_30 rfl (lv_at hl 1 rfl) ?_
  refine cn_v (w := (wX q dA)) (M := M_7) (wX_ad q dA) (va_runV (As := [.int p0]) (rest := []) ⟨hx, hb, hml, hown, hta⟩ (mtXu_freeAllOf l dC dI q dA H.size p0 M_7 _ hw) (cwV 1 hta (giV wt_169 wt_170 wt_171 wt_4 wt_172) rfl rfl rfl (by decide +kernel) ⟨Nat.le_of_ble_eq_true rfl, Nat.le_of_ble_eq_true rfl⟩) ⟨pW_blind, va_recv hK hP (ci := 2) (q0 := 2) rfl (wX_2 q dA M_7), pW_of hK hP hD⟩ rfl rfl hl.1 rfl (lv_room (Nat.le_of_ble_eq_true rfl)) dXs_fault_31 ⟨Nat.le_of_ble_eq_true rfl, Nat.le_of_ble_eq_true rfl⟩) hD hS hA (fun M_9 H locs hw hP hD hS => ?_)
  refine lv_aload_n hx hb dXs_fault_34 rfl (lv_at hl 0 rfl) ?_
  refine va_get (D := (dC, dI)) (ci := 0) (v := .ref (q 3)) (C := "ServiceThreads") (T := TXs) (N := 14) hx hb hta inXs hown hK hP 0 (wX_0 q dA M_9) rfl 2 (by decide) (hta _ wt_120) (fun _ h9 => h9) rfl dXs_fault_35 ?_
  refine lv_iload_n hx hb dXs_fault_38 rfl (lv_at hl 1 rfl) ?_
  refine cn_v (w := (wX q dA)) (M := M_9) (wX_ad q dA) (va_runV (As := [.int p0]) (rest := []) ⟨hx, hb, hml, hown, hta⟩ (mtXc_dropUnsentOf l dC dI q dA H.size p0 M_9 _ hw) (cwV 1 hta (giV wt_173 wt_174 wt_175 wt_5 wt_176) rfl rfl rfl (by decide +kernel) ⟨Nat.le_of_ble_eq_true rfl, Nat.le_of_ble_eq_true rfl⟩) ⟨pW_blind, va_recv hK hP (ci := 3) (q0 := 3) rfl (wX_3 q dA M_9), pW_of hK hP hD⟩ rfl rfl hl.1 rfl (lv_room (Nat.le_of_ble_eq_true rfl)) dXs_fault_39 ⟨Nat.le_of_ble_eq_true rfl, Nat.le_of_ble_eq_true rfl⟩) hD hS hA (fun M_11 H locs hw hP hD hS => ?_)
  refine lv_aload_n hx hb dXs_fault_42 rfl (lv_at hl 0 rfl) ?_
  refine va_get (D := (dC, dI)) (ci := 0) (v := .ref (q 1)) (C := "ServiceThreads") (T := TXs) (N := 14) hx hb hta inXs hown hK hP 0 (wX_0 q dA M_11) rfl 0 (by decide) (hta _ wt_118) (fun _ h9 => h9) rfl dXs_fault_43 ?_
  refine lv_iload_n hx hb dXs_fault_46 rfl (lv_at hl 1 rfl) ?_
  refine cn_i (w := (wX q dA)) (M := M_11) (wX_ad q dA) (va_runV (As := [.int p0]) (rest := []) ⟨hx, hb, hml, hown, hta⟩ (mtXp_finishOf l dC dI q dA H.size p0 M_11 _ hw) (cwV 1 hta (giV wt_443 wt_444 wt_445 wt_2 wt_446) rfl rfl rfl (by decide +kernel) ⟨Nat.le_of_ble_eq_true rfl, Nat.le_of_ble_eq_true rfl⟩) ⟨pW_blind, va_recv hK hP (ci := 1) (q0 := 1) rfl (wX_1 q dA M_11), pW_of hK hP hD⟩ rfl rfl hl.1 rfl (lv_room (Nat.le_of_ble_eq_true rfl)) dXs_fault_47 ⟨Nat.le_of_ble_eq_true rfl, Nat.le_of_ble_eq_true rfl⟩) hD hS hA (fun r_12 M_13 H locs hw hP hD hS => ?_)
  refine lv_istore_n (lv' := [(3, .int r_12), (0, .ref (q 0)), (1, .int p0), (2, .int p1)]) hx hb dXs_fault_50 rfl hl (by decide) rfl (fun ls hl => ?_)
  refine lv_aload_n hx hb dXs_fault_51 rfl (lv_at hl 1 rfl) ?_
  refine va_get (D := (dC, dI)) (ci := 0) (v := .ref (q 20)) (C := "ServiceThreads") (T := TXs) (N := 14) hx hb hta inXs hown hK hP 0 (wX_0 q dA M_13) rfl 5 (by decide) (hta _ wt_123) (fun _ h9 => h9) rfl dXs_fault_52 ?_
  refine lv_iload_n hx hb dXs_fault_55 rfl (lv_at hl 2 rfl) ?_
  obtain ⟨h_14, hw⟩ := hw
  refine ro_i (w := (wX q dA)) (M := M_13) hx hb hK hP 20 15 (wX_20 q dA M_13) rfl h_14 dXs_fault_56 (fun y_15 ey_15 => ?_)
  have hw := hw y_15 ey_15
  refine lv_iload_n hx hb dXs_fault_57 rfl (lv_at hl 0 rfl) ?_
  refine lv_icmp_ge (tgt := 71) hx hb dXs_fault_58 (by decide) (fun c_16 => ?_) (fun c_16 => ?_)
  · have hw := hw.1 c_16
    refine lv_aload_n hx hb dXs_fault_71 rfl (lv_at hl 1 rfl) ?_
    refine lv_iload_n hx hb dXs_fault_72 rfl (lv_at hl 2 rfl) ?_
    refine cn_v (w := (wX q dA)) (M := M_13) (wX_ad q dA) (va_runV (As := [.int p0]) (rest := []) ⟨hx, hb, hml, hown, hta⟩ (mtXs_end l dC dI q dA H.size p0 M_13 _ hw) (cwV 1 hta (giV wt_165 wt_167 ws_0 wt_1 wt_168) rfl rfl rfl (by decide +kernel) ⟨Nat.le_of_ble_eq_true rfl, Nat.le_of_ble_eq_true rfl⟩) ⟨pW_blind, va_recv hK hP (ci := 0) (q0 := 0) rfl (wX_0 q dA M_13), pW_of hK hP hD⟩ rfl rfl hl.1 rfl (lv_room (Nat.le_of_ble_eq_true rfl)) dXs_fault_73 ⟨Nat.le_of_ble_eq_true rfl, Nat.le_of_ble_eq_true rfl⟩) hD hS hA (fun M_18 H locs hw hP hD hS => ?_)
    exact W.vret hx hb hr (fun t ht hW => ⟨⟨M_18, rfl, hw, by rw [ht]; exact hP, va_K.moved hW.alike hK, hD⟩, hS.F ht⟩) hS.2.2 dXs_fault_76 hlocks
  · have hw := hw.2 c_16
    refine lv_aload_n hx hb dXs_fault_61 rfl (lv_at hl 1 rfl) ?_
    refine va_get (D := (dC, dI)) (ci := 0) (v := .ref (q 20)) (C := "ServiceThreads") (T := TXs) (N := 14) hx hb hta inXs hown hK hP 0 (wX_0 q dA M_13) rfl 5 (by decide) (hta _ wt_123) (fun _ h9 => h9) rfl dXs_fault_62 ?_
    refine lv_iload_n hx hb dXs_fault_65 rfl (lv_at hl 2 rfl) ?_
    refine lv_iload_n hx hb dXs_fault_66 rfl (lv_at hl 0 rfl) ?_
    obtain ⟨h_19, hw⟩ := hw
    refine wo_i (w := (wX q dA)) (M := M_13) hx hb hK hP hD hS 20 15 (wX_20 q dA M_13) (wX_s20 q dA M_13) rfl h_19 dXs_fault_67 (fun M_20 H locs eM_20 hP hD hS => ?_)
    have hw := hw M_20 eM_20
    refine lv_goto (tgt := 76) hx hb dXs_fault_68 (by decide) ?_
    exact W.vret hx hb hr (fun t ht hW => ⟨⟨M_20, rfl, hw, by rw [ht]; exact hP, va_K.moved hW.alike hK, hD⟩, hS.F ht⟩) hS.2.2 dXs_fault_76 hlocks
def wpXs_takeTurn (p0 : Int32) (M : Mm) (post : Int32 → Mm → Prop) : Prop := ∀ y_1 : Int32, y_1 = M 24 0 → (∀ y_2 : Int32, y_2 = y_1 + 1 → (∀ M_3 : Mm, M_3 = stM M 24 (fun _ => y_2) → (vp_in p0 8 ∧ (∀ M_5 : Mm, M_5 = stM M_3 21 (upd (M_3 21) p0.toNatClampNeg 1) → (wpXs_freeLocksThatAreDue M_5 (fun M_7 => (vp_in p0 8 ∧ (∀ y_9 : Int32, y_9 = M_7 15 p0.toNatClampNeg → (wpXp_actsOf p0 M_7 (fun r_10 M_11 => (((y_9 < r_10 → (wpXp_kindOf p0 y_9 M_11 (fun r_13 M_14 => (wpXp_numberOf p0 y_9 M_14 (fun r_15 M_16 => (wpXs_perform p0 r_13 r_15 M_16 (fun r_17 M_18 => (((0 ≤ r_17 → (((r_17 = 1 → (vp_in p0 8 ∧ (∀ y_22 : Int32, y_22 = M_18 15 p0.toNatClampNeg → (∀ y_23 : Int32, y_23 = y_22 + 1 → (vp_in p0 8 ∧ (∀ M_25 : Mm, M_25 = stM M_18 15 (upd (M_18 15) p0.toNatClampNeg y_23) → (post r_17 M_25))))))) ∧ (¬ r_17 = 1 → (((r_17 = 2 → (vp_in p0 8 ∧ (∀ y_28 : Int32, y_28 = M_18 15 p0.toNatClampNeg → (∀ y_29 : Int32, y_29 = y_28 + 1 → (vp_in p0 8 ∧ (∀ M_31 : Mm, M_31 = stM M_18 15 (upd (M_18 15) p0.toNatClampNeg y_29) → (post r_17 M_31))))))) ∧ (¬ r_17 = 2 → (post r_17 M_18)))))))) ∧ (¬ 0 ≤ r_17 → (∀ y_32 : Int32, y_32 = -r_17 → (wpXs_fault p0 y_32 M_18 (fun M_34 => (post 3 M_34)))))))))))))) ∧ (¬ y_9 < r_10 → (wpXs_end p0 M_11 (fun M_36 => (post 4 M_36))))))))))))))))
set_option maxHeartbeats 4000000 in
set_option maxRecDepth 100000 in
theorem mtXs_takeTurn (l : Launch) (dC : Nat → ClassId) (dI : Nat → Nat → Nat) (q : Nat → Nat) (dA : Nat → ClassId) (sz : Nat) (p0 : Int32) (M : Mm) (post : Int32 → Mm → Prop) (hw : wpXs_takeTurn p0 M post) : Met l yXs_takeTurn (wsA yXs_takeTurn cXs_takeTurn 4 (some .int)) ({ frames := 4, cells := 0, slots := 0, locals := 89 }) (va_Pc [.ref (q 0), .int p0] (pW (dC, dI) vwCl (wX q dA) (tX dA) sz M)) (va_Qi post (bW (dC, dI) vwCl (wX q dA) (tX dA) (va_A (wX q dA M) sz)) (va_A (wX q dA M) sz)) 0 0 (va_A (wX q dA M) sz) := by
  refine Met.ofW (cc := cXs_takeTurn) (maxL := 4) (ret := (some .int)) (by decide) rfl ?_
  intro p e s m args below meth c s₁ B hml hv
  obtain ⟨rfl, hsz, hP, hK, hD0⟩ := hv
  have hx := B.exec
  have hb := B.bytes
  have hr := B.returns
  have hts := atoms_spec (ws := (wsA yXs_takeTurn cXs_takeTurn 4 (some .int))) B.pre
  have hta : ∀ w ∈ wsG, w.before _ s = true := fun w h => hts w (List.mem_cons_of_mem _ h)
  have hown : s.vm.findClass "ServiceThreads" = some m.cls := findClass_of_methodNamed B.named
  have hlocks := B.notSynchronized
  subst hsz
  have hD := hD0.self (sz := s.heap.size)
  generalize hAe : va_A (wX q dA M) s.heap.size = A at hD ⊢
  have hA : ∀ q : Nat, s.heap.size ≤ q → A q := fun q h => by rw [← hAe]; exact Or.inr h
  have hS : va_S A s.heap s.heap [] := va_S.rf
  dsimp only [wpXs_takeTurn] at hw
  have hl := lv_entry ([.ref (q 0), .int p0]) (n := 4) (Nat.le_of_ble_eq_true rfl)
  rw [lg_entry_eq]
  generalize (lg_sl ([.ref (q 0), .int p0]) ++ List.replicate (4 - (lg_sl ([.ref (q 0), .int p0])).length) Slot.unset).toArray = ls at hl ⊢
  have hl : lv_has ls 4 [(0, .ref (q 0)), (1, .int p0)] := hl
  refine lv_aload_n hx hb dXs_takeTurn_0 rfl (lv_at hl 0 rfl) ?_
  refine lv_dup hx hb dXs_takeTurn_1 rfl ?_
  refine va_get (D := (dC, dI)) (ci := 0) (v := .int (M 24 0)) (C := "ServiceThreads") (T := TXs) (N := 14) hx hb hta inXs hown hK hP 0 (wX_0 q dA M) rfl 12 (by decide) (hta _ wt_130) (fun _ h9 => h9) rfl dXs_takeTurn_2 ?_
  refine lv_topi (fun y_1 ey_1 => ?_)
  have hw := hw y_1 ey_1
  refine lv_iconst (v := 1) hx hb dXs_takeTurn_5 (by decide) ?_
  refine lv_iadd hx hb dXs_takeTurn_6 ?_
  refine lv_topi (fun y_2 ey_2 => ?_)
  have hw := hw y_2 ey_2
  refine va_put (D := (dC, dI)) (ci := 0) (v := .int y_2) (ty := .int) (C := "ServiceThreads") (T := TXs) (N := 14) hx hb hta inXs tyXs tyXs_ok nmXs hown hK hP hD hS 0 (wX_0 q dA M) rfl 12 (by decide) (hta _ wt_130) (fun _ h9 => h9) rfl (by decide +kernel) rfl rfl (Nat.le_of_ble_eq_true rfl) dXs_takeTurn_7 (fun H locs hP hD hS => ?_)
  obtain ⟨M_3, eM_3⟩ : ∃ y : Mm, y = stM M 24 (fun _ => y_2) := ⟨_, rfl⟩
  have hP : va_P (dC, dI) vwCl (wX q dA M_3) H := by rw [eM_3]; exact hP
  have hD : va_D A (wX q dA M_3) := by rw [eM_3]; exact hD
  have hw := hw M_3 eM_3
  refine lv_aload_n hx hb dXs_takeTurn_10 rfl (lv_at hl 0 rfl) ?_
  refine va_get (D := (dC, dI)) (ci := 0) (v := .ref (q 26)) (C := "ServiceThreads") (T := TXs) (N := 14) hx hb hta inXs hown hK hP 0 (wX_0 q dA M_3) rfl 11 (by decide) (hta _ wt_129) (fun _ h9 => h9) rfl dXs_takeTurn_11 ?_
  refine lv_iload_n hx hb dXs_takeTurn_14 rfl (lv_at hl 1 rfl) ?_
  refine lv_iconst (v := 1) hx hb dXs_takeTurn_15 (by decide) ?_
  obtain ⟨h_4, hw⟩ := hw
  refine wo_z (w := (wX q dA)) (M := M_3) hx hb hK hP hD hS 26 21 (wX_26 q dA M_3) (wX_s26 q dA M_3) rfl (by decide) h_4 dXs_takeTurn_16 (fun M_5 H locs eM_5 hP hD hS => ?_)
  have hw := hw M_5 eM_5
  refine lv_aload_n hx hb dXs_takeTurn_17 rfl (lv_at hl 0 rfl) ?_
  refine cn_v (w := (wX q dA)) (M := M_5) (wX_ad q dA) (va_runV (As := []) (rest := []) ⟨hx, hb, hml, hown, hta⟩ (mtXs_freeLocksThatAreDue l dC dI q dA H.size M_5 _ hw) (cwV 0 hta (giV wt_389 wt_391 ws_6 wt_1 wt_392) rfl rfl rfl (by decide +kernel) ⟨Nat.le_of_ble_eq_true rfl, Nat.le_of_ble_eq_true rfl⟩) ⟨pW_blind, va_recv hK hP (ci := 0) (q0 := 0) rfl (wX_0 q dA M_5), pW_of hK hP hD⟩ rfl rfl hl.1 rfl (lv_room (Nat.le_of_ble_eq_true rfl)) dXs_takeTurn_18 ⟨Nat.le_of_ble_eq_true rfl, Nat.le_of_ble_eq_true rfl⟩) hD hS hA (fun M_7 H locs hw hP hD hS => ?_)
  refine lv_aload_n hx hb dXs_takeTurn_21 rfl (lv_at hl 0 rfl) ?_
  refine va_get (D := (dC, dI)) (ci := 0) (v := .ref (q 20)) (C := "ServiceThreads") (T := TXs) (N := 14) hx hb hta inXs hown hK hP 0 (wX_0 q dA M_7) rfl 5 (by decide) (hta _ wt_123) (fun _ h9 => h9) rfl dXs_takeTurn_22 ?_
  refine lv_iload_n hx hb dXs_takeTurn_25 rfl (lv_at hl 1 rfl) ?_
  obtain ⟨h_8, hw⟩ := hw
  refine ro_i (w := (wX q dA)) (M := M_7) hx hb hK hP 20 15 (wX_20 q dA M_7) rfl h_8 dXs_takeTurn_26 (fun y_9 ey_9 => ?_)
  have hw := hw y_9 ey_9
  refine lv_istore_n (lv' := [(2, .int y_9), (0, .ref (q 0)), (1, .int p0)]) hx hb dXs_takeTurn_27 rfl hl (by decide) rfl (fun ls hl => ?_)
  refine lv_iload_n hx hb dXs_takeTurn_28 rfl (lv_at hl 0 rfl) ?_
  refine lv_aload_n hx hb dXs_takeTurn_29 rfl (lv_at hl 1 rfl) ?_
  refine va_get (D := (dC, dI)) (ci := 0) (v := .ref (q 1)) (C := "ServiceThreads") (T := TXs) (N := 14) hx hb hta inXs hown hK hP 0 (wX_0 q dA M_7) rfl 0 (by decide) (hta _ wt_118) (fun _ h9 => h9) rfl dXs_takeTurn_30 ?_
  refine lv_iload_n hx hb dXs_takeTurn_33 rfl (lv_at hl 2 rfl) ?_
  refine cn_i (w := (wX q dA)) (M := M_7) (wX_ad q dA) (va_runV (As := [.int p0]) (rest := [.int y_9]) ⟨hx, hb, hml, hown, hta⟩ (mtXp_actsOf l dC dI q dA H.size p0 M_7 _ hw) (cwV 1 hta (giV wt_336 wt_337 wt_338 wt_2 wt_339) rfl rfl rfl (by decide +kernel) ⟨Nat.le_of_ble_eq_true rfl, Nat.le_of_ble_eq_true rfl⟩) ⟨pW_blind, va_recv hK hP (ci := 1) (q0 := 1) rfl (wX_1 q dA M_7), pW_of hK hP hD⟩ rfl rfl hl.1 rfl (lv_room (Nat.le_of_ble_eq_true rfl)) dXs_takeTurn_34 ⟨Nat.le_of_ble_eq_true rfl, Nat.le_of_ble_eq_true rfl⟩) hD hS hA (fun r_10 M_11 H locs hw hP hD hS => ?_)
  refine lv_icmp_lt (tgt := 47) hx hb dXs_takeTurn_37 (by decide) (fun c_12 => ?_) (fun c_12 => ?_)
  · have hw := hw.1 c_12
    refine lv_aload_n hx hb dXs_takeTurn_47 rfl (lv_at hl 1 rfl) ?_
    refine lv_iload_n hx hb dXs_takeTurn_48 rfl (lv_at hl 2 rfl) ?_
    refine lv_aload_n hx hb dXs_takeTurn_49 rfl (lv_at hl 1 rfl) ?_
    refine va_get (D := (dC, dI)) (ci := 0) (v := .ref (q 1)) (C := "ServiceThreads") (T := TXs) (N := 14) hx hb hta inXs hown hK hP 0 (wX_0 q dA M_11) rfl 0 (by decide) (hta _ wt_118) (fun _ h9 => h9) rfl dXs_takeTurn_50 ?_
    refine lv_iload_n hx hb dXs_takeTurn_53 rfl (lv_at hl 2 rfl) ?_
    refine lv_iload_n hx hb dXs_takeTurn_54 rfl (lv_at hl 0 rfl) ?_
    refine cn_i (w := (wX q dA)) (M := M_11) (wX_ad q dA) (va_runV (As := [.int p0, .int y_9]) (rest := [.int p0, .ref (q 0)]) ⟨hx, hb, hml, hown, hta⟩ (mtXp_kindOf l dC dI q dA H.size p0 y_9 M_11 _ hw) (cwV 2 hta (giV wt_393 wt_394 wt_395 wt_2 wt_396) rfl rfl rfl (by decide +kernel) ⟨Nat.le_of_ble_eq_true rfl, Nat.le_of_ble_eq_true rfl⟩) ⟨pW_blind, va_recv hK hP (ci := 1) (q0 := 1) rfl (wX_1 q dA M_11), pW_of hK hP hD⟩ rfl rfl hl.1 rfl (lv_room (Nat.le_of_ble_eq_true rfl)) dXs_takeTurn_55 ⟨Nat.le_of_ble_eq_true rfl, Nat.le_of_ble_eq_true rfl⟩) hD hS hA (fun r_13 M_14 H locs hw hP hD hS => ?_)
    refine lv_aload_n hx hb dXs_takeTurn_58 rfl (lv_at hl 1 rfl) ?_
    refine va_get (D := (dC, dI)) (ci := 0) (v := .ref (q 1)) (C := "ServiceThreads") (T := TXs) (N := 14) hx hb hta inXs hown hK hP 0 (wX_0 q dA M_14) rfl 0 (by decide) (hta _ wt_118) (fun _ h9 => h9) rfl dXs_takeTurn_59 ?_
    refine lv_iload_n hx hb dXs_takeTurn_62 rfl (lv_at hl 2 rfl) ?_
    refine lv_iload_n hx hb dXs_takeTurn_63 rfl (lv_at hl 0 rfl) ?_
    refine cn_i (w := (wX q dA)) (M := M_14) (wX_ad q dA) (va_runV (As := [.int p0, .int y_9]) (rest := [.int r_13, .int p0, .ref (q 0)]) ⟨hx, hb, hml, hown, hta⟩ (mtXp_numberOf l dC dI q dA H.size p0 y_9 M_14 _ hw) (cwV 2 hta (giV wt_397 wt_398 wt_399 wt_2 wt_400) rfl rfl rfl (by decide +kernel) ⟨Nat.le_of_ble_eq_true rfl, Nat.le_of_ble_eq_true rfl⟩) ⟨pW_blind, va_recv hK hP (ci := 1) (q0 := 1) rfl (wX_1 q dA M_14), pW_of hK hP hD⟩ rfl rfl hl.1 rfl (lv_room (Nat.le_of_ble_eq_true rfl)) dXs_takeTurn_64 ⟨Nat.le_of_ble_eq_true rfl, Nat.le_of_ble_eq_true rfl⟩) hD hS hA (fun r_15 M_16 H locs hw hP hD hS => ?_)
    refine cn_i (w := (wX q dA)) (M := M_16) (wX_ad q dA) (va_runV (As := [.int p0, .int r_13, .int r_15]) (rest := []) ⟨hx, hb, hml, hown, hta⟩ (mtXs_perform l dC dI q dA H.size p0 r_13 r_15 M_16 _ hw) (cwV 3 hta (giV wt_401 wt_403 ws_7 wt_1 wt_404) rfl rfl rfl (by decide +kernel) ⟨Nat.le_of_ble_eq_true rfl, Nat.le_of_ble_eq_true rfl⟩) ⟨pW_blind, va_recv hK hP (ci := 0) (q0 := 0) rfl (wX_0 q dA M_16), pW_of hK hP hD⟩ rfl rfl hl.1 rfl (lv_room (Nat.le_of_ble_eq_true rfl)) dXs_takeTurn_67 ⟨Nat.le_of_ble_eq_true rfl, Nat.le_of_ble_eq_true rfl⟩) hD hS hA (fun r_17 M_18 H locs hw hP hD hS => ?_)
    refine lv_istore_n (lv' := [(3, .int r_17), (2, .int y_9), (0, .ref (q 0)), (1, .int p0)]) hx hb dXs_takeTurn_70 rfl hl (by decide) rfl (fun ls hl => ?_)
    refine lv_iload_n hx hb dXs_takeTurn_71 rfl (lv_at hl 0 rfl) ?_
    refine lv_if_ge (tgt := 84) hx hb dXs_takeTurn_72 (by decide) (fun c_19 => ?_) (fun c_19 => ?_)
    · have hw := hw.1 c_19
      refine lv_iload_n hx hb dXs_takeTurn_84 rfl (lv_at hl 0 rfl) ?_
      refine lv_iconst (v := 1) hx hb dXs_takeTurn_85 (by decide) ?_
      refine lv_icmp_eq (tgt := 94) hx hb dXs_takeTurn_86 (by decide) (fun c_20 => ?_) (fun c_20 => ?_)
      · have hw := hw.1 c_20
        refine lv_aload_n hx hb dXs_takeTurn_94 rfl (lv_at hl 2 rfl) ?_
        refine va_get (D := (dC, dI)) (ci := 0) (v := .ref (q 20)) (C := "ServiceThreads") (T := TXs) (N := 14) hx hb hta inXs hown hK hP 0 (wX_0 q dA M_18) rfl 5 (by decide) (hta _ wt_123) (fun _ h9 => h9) rfl dXs_takeTurn_95 ?_
        refine lv_iload_n hx hb dXs_takeTurn_98 rfl (lv_at hl 3 rfl) ?_
        refine lv_dup2_11 hx hb dXs_takeTurn_99 rfl rfl ?_
        obtain ⟨h_21, hw⟩ := hw
        refine ro_i (w := (wX q dA)) (M := M_18) hx hb hK hP 20 15 (wX_20 q dA M_18) rfl h_21 dXs_takeTurn_100 (fun y_22 ey_22 => ?_)
        have hw := hw y_22 ey_22
        refine lv_iconst (v := 1) hx hb dXs_takeTurn_101 (by decide) ?_
        refine lv_iadd hx hb dXs_takeTurn_102 ?_
        refine lv_topi (fun y_23 ey_23 => ?_)
        have hw := hw y_23 ey_23
        obtain ⟨h_24, hw⟩ := hw
        refine wo_i (w := (wX q dA)) (M := M_18) hx hb hK hP hD hS 20 15 (wX_20 q dA M_18) (wX_s20 q dA M_18) rfl h_24 dXs_takeTurn_103 (fun M_25 H locs eM_25 hP hD hS => ?_)
        have hw := hw M_25 eM_25
        refine lv_iload_n hx hb dXs_takeTurn_104 rfl (lv_at hl 0 rfl) ?_
        exact W.iret (v := r_17) hx hb hr (fun t ht hW => ⟨⟨r_17, M_25, rfl, hw, by rw [ht]; exact hP, va_K.moved hW.alike hK, hD⟩, hS.F ht⟩) hS.2.2 dXs_takeTurn_105 hlocks
      · have hw := hw.2 c_20
        refine lv_iload_n hx hb dXs_takeTurn_89 rfl (lv_at hl 0 rfl) ?_
        refine lv_iconst (v := 2) hx hb dXs_takeTurn_90 (by decide) ?_
        refine lv_icmp_ne (tgt := 104) hx hb dXs_takeTurn_91 (by decide) (fun c_26 => ?_) (fun c_26 => ?_)
        · have hw := hw.2 c_26
          refine lv_iload_n hx hb dXs_takeTurn_104 rfl (lv_at hl 0 rfl) ?_
          exact W.iret (v := r_17) hx hb hr (fun t ht hW => ⟨⟨r_17, M_18, rfl, hw, by rw [ht]; exact hP, va_K.moved hW.alike hK, hD⟩, hS.F ht⟩) hS.2.2 dXs_takeTurn_105 hlocks
        · have hw := hw.1 c_26
          refine lv_aload_n hx hb dXs_takeTurn_94 rfl (lv_at hl 2 rfl) ?_
          refine va_get (D := (dC, dI)) (ci := 0) (v := .ref (q 20)) (C := "ServiceThreads") (T := TXs) (N := 14) hx hb hta inXs hown hK hP 0 (wX_0 q dA M_18) rfl 5 (by decide) (hta _ wt_123) (fun _ h9 => h9) rfl dXs_takeTurn_95 ?_
          refine lv_iload_n hx hb dXs_takeTurn_98 rfl (lv_at hl 3 rfl) ?_
          refine lv_dup2_11 hx hb dXs_takeTurn_99 rfl rfl ?_
          obtain ⟨h_27, hw⟩ := hw
          refine ro_i (w := (wX q dA)) (M := M_18) hx hb hK hP 20 15 (wX_20 q dA M_18) rfl h_27 dXs_takeTurn_100 (fun y_28 ey_28 => ?_)
          have hw := hw y_28 ey_28
          refine lv_iconst (v := 1) hx hb dXs_takeTurn_101 (by decide) ?_
          refine lv_iadd hx hb dXs_takeTurn_102 ?_
          refine lv_topi (fun y_29 ey_29 => ?_)
          have hw := hw y_29 ey_29
          obtain ⟨h_30, hw⟩ := hw
          refine wo_i (w := (wX q dA)) (M := M_18) hx hb hK hP hD hS 20 15 (wX_20 q dA M_18) (wX_s20 q dA M_18) rfl h_30 dXs_takeTurn_103 (fun M_31 H locs eM_31 hP hD hS => ?_)
          have hw := hw M_31 eM_31
          refine lv_iload_n hx hb dXs_takeTurn_104 rfl (lv_at hl 0 rfl) ?_
          exact W.iret (v := r_17) hx hb hr (fun t ht hW => ⟨⟨r_17, M_31, rfl, hw, by rw [ht]; exact hP, va_K.moved hW.alike hK, hD⟩, hS.F ht⟩) hS.2.2 dXs_takeTurn_105 hlocks
    · have hw := hw.2 c_19
      refine lv_aload_n hx hb dXs_takeTurn_75 rfl (lv_at hl 2 rfl) ?_
      refine lv_iload_n hx hb dXs_takeTurn_76 rfl (lv_at hl 3 rfl) ?_
      refine lv_iload_n hx hb dXs_takeTurn_77 rfl (lv_at hl 0 rfl) ?_
      refine lv_ineg hx hb dXs_takeTurn_78 ?_
      refine lv_topi (fun y_32 ey_32 => ?_)
      have hw := hw y_32 ey_32
      refine cn_v (w := (wX q dA)) (M := M_18) (wX_ad q dA) (va_runV (As := [.int p0, .int y_32]) (rest := []) ⟨hx, hb, hml, hown, hta⟩ (mtXs_fault l dC dI q dA H.size p0 y_32 M_18 _ hw) (cwV 2 hta (giV wt_439 wt_441 ws_14 wt_1 wt_442) rfl rfl rfl (by decide +kernel) ⟨Nat.le_of_ble_eq_true rfl, Nat.le_of_ble_eq_true rfl⟩) ⟨pW_blind, va_recv hK hP (ci := 0) (q0 := 0) rfl (wX_0 q dA M_18), pW_of hK hP hD⟩ rfl rfl hl.1 rfl (lv_room (Nat.le_of_ble_eq_true rfl)) dXs_takeTurn_79 ⟨Nat.le_of_ble_eq_true rfl, Nat.le_of_ble_eq_true rfl⟩) hD hS hA (fun M_34 H locs hw hP hD hS => ?_)
      refine lv_iconst (v := 3) hx hb dXs_takeTurn_82 (by decide) ?_
      exact W.iret (v := 3) hx hb hr (fun t ht hW => ⟨⟨3, M_34, rfl, hw, by rw [ht]; exact hP, va_K.moved hW.alike hK, hD⟩, hS.F ht⟩) hS.2.2 dXs_takeTurn_83 hlocks
  · have hw := hw.2 c_12
    refine lv_aload_n hx hb dXs_takeTurn_40 rfl (lv_at hl 1 rfl) ?_
    refine lv_iload_n hx hb dXs_takeTurn_41 rfl (lv_at hl 2 rfl) ?_
    refine cn_v (w := (wX q dA)) (M := M_11) (wX_ad q dA) (va_runV (As := [.int p0]) (rest := []) ⟨hx, hb, hml, hown, hta⟩ (mtXs_end l dC dI q dA H.size p0 M_11 _ hw) (cwV 1 hta (giV wt_165 wt_167 ws_0 wt_1 wt_168) rfl rfl rfl (by decide +kernel) ⟨Nat.le_of_ble_eq_true rfl, Nat.le_of_ble_eq_true rfl⟩) ⟨pW_blind, va_recv hK hP (ci := 0) (q0 := 0) rfl (wX_0 q dA M_11), pW_of hK hP hD⟩ rfl rfl hl.1 rfl (lv_room (Nat.le_of_ble_eq_true rfl)) dXs_takeTurn_42 ⟨Nat.le_of_ble_eq_true rfl, Nat.le_of_ble_eq_true rfl⟩) hD hS hA (fun M_36 H locs hw hP hD hS => ?_)
    refine lv_iconst (v := 4) hx hb dXs_takeTurn_45 (by decide) ?_
    exact W.iret (v := 4) hx hb hr (fun t ht hW => ⟨⟨4, M_36, rfl, hw, by rw [ht]; exact hP, va_K.moved hW.alike hK, hD⟩, hS.F ht⟩) hS.2.2 dXs_takeTurn_46 hlocks
def wpXs_step (p0 : Int32) (M : Mm) (post : Int32 → Mm → Prop) (px : Nat → Mm → Prop) : Prop := ((wpXs_requireThread p0 M (fun M_2 => (((wpXs_requireRunning p0 M_2 (fun M_4 => (wpXs_takeTurn p0 M_4 (fun r_5 M_6 => (post r_5 M_6)))) (fun _ _ => False)) ∨ (wpXs_requireRunning p0 M_2 (fun _ => False) px)))) (fun _ _ => False)) ∨ (wpXs_requireThread p0 M (fun _ => False) px))
set_option maxHeartbeats 4000000 in
set_option maxRecDepth 100000 in
theorem mtnXs_step (l : Launch) (dC : Nat → ClassId) (dI : Nat → Nat → Nat) (q : Nat → Nat) (dA : Nat → ClassId) (sz : Nat) (p0 : Int32) (M : Mm) (post : Int32 → Mm → Prop) (hw : wpXs_step p0 M post (fun _ _ => False)) : Met l yXs_step (wsA yXs_step cXs_step 2 (some .int)) ({ frames := 5, cells := 0, slots := 0, locals := 112 }) (va_Pc [.ref (q 0), .int p0] (pW (dC, dI) vwCl (wX q dA) (tX dA) sz M)) (va_Qi post (bW (dC, dI) vwCl (wX q dA) (tX dA) (va_A (wX q dA M) sz)) (va_A (wX q dA M) sz)) 0 0 (va_A (wX q dA M) sz) := by
  refine Met.ofW (cc := cXs_step) (maxL := 2) (ret := (some .int)) (by decide) rfl ?_
  intro p e s m args below meth c s₁ B hml hv
  obtain ⟨rfl, hsz, hP, hK, hD0⟩ := hv
  have hx := B.exec
  have hb := B.bytes
  have hr := B.returns
  have hts := atoms_spec (ws := (wsA yXs_step cXs_step 2 (some .int))) B.pre
  have hta : ∀ w ∈ wsG, w.before _ s = true := fun w h => hts w (List.mem_cons_of_mem _ h)
  have hown : s.vm.findClass "ServiceThreads" = some m.cls := findClass_of_methodNamed B.named
  have hlocks := B.notSynchronized
  subst hsz
  have hD := hD0.self (sz := s.heap.size)
  generalize hAe : va_A (wX q dA M) s.heap.size = A at hD ⊢
  have hA : ∀ q : Nat, s.heap.size ≤ q → A q := fun q h => by rw [← hAe]; exact Or.inr h
  have hS : va_S A s.heap s.heap [] := va_S.rf
  dsimp only [wpXs_step] at hw
  have hl := lv_entry ([.ref (q 0), .int p0]) (n := 2) (Nat.le_of_ble_eq_true rfl)
  rw [lg_entry_eq]
  generalize (lg_sl ([.ref (q 0), .int p0]) ++ List.replicate (2 - (lg_sl ([.ref (q 0), .int p0])).length) Slot.unset).toArray = ls at hl ⊢
  have hl : lv_has ls 2 [(0, .ref (q 0)), (1, .int p0)] := hl
  refine lv_iload_n hx hb dXs_step_0 rfl (lv_at hl 1 rfl) ?_
  rcases hw with hw | hw
  · refine cn_v (w := (wX q dA)) (M := M) (wX_ad q dA) (va_runS (As := [.int p0]) (rest := []) ⟨hx, hb, hml, hown, hta⟩ (mtnXs_requireThread l dC dI q dA s.heap.size p0 M _ hw) (va_cwS 1 hta (giS wt_196 wt_197 wt_1 wt_198) rfl rfl rfl (by decide +kernel) ⟨Nat.le_of_ble_eq_true rfl, Nat.le_of_ble_eq_true rfl⟩) ⟨pW_blind, pW_of hK hP hD⟩ rfl rfl hl.1 rfl (lv_room (Nat.le_of_ble_eq_true rfl)) dXs_step_1 ⟨Nat.le_of_ble_eq_true rfl, Nat.le_of_ble_eq_true rfl⟩) hD hS hA (fun M_2 H locs hw hP hD hS => ?_)
    refine lv_aload_n hx hb dXs_step_4 rfl (lv_at hl 0 rfl) ?_
    refine lv_iload_n hx hb dXs_step_5 rfl (lv_at hl 1 rfl) ?_
    rcases hw with hw | hw
    · refine cn_v (w := (wX q dA)) (M := M_2) (wX_ad q dA) (va_runV (As := [.int p0]) (rest := []) ⟨hx, hb, hml, hown, hta⟩ (mtnXs_requireRunning l dC dI q dA H.size p0 M_2 _ hw) (cwV 1 hta (giV wt_380 wt_382 ws_4 wt_1 wt_383) rfl rfl rfl (by decide +kernel) ⟨Nat.le_of_ble_eq_true rfl, Nat.le_of_ble_eq_true rfl⟩) ⟨pW_blind, va_recv hK hP (ci := 0) (q0 := 0) rfl (wX_0 q dA M_2), pW_of hK hP hD⟩ rfl rfl hl.1 rfl (lv_room (Nat.le_of_ble_eq_true rfl)) dXs_step_6 ⟨Nat.le_of_ble_eq_true rfl, Nat.le_of_ble_eq_true rfl⟩) hD hS hA (fun M_4 H locs hw hP hD hS => ?_)
      refine lv_aload_n hx hb dXs_step_9 rfl (lv_at hl 0 rfl) ?_
      refine lv_iload_n hx hb dXs_step_10 rfl (lv_at hl 1 rfl) ?_
      refine cn_i (w := (wX q dA)) (M := M_4) (wX_ad q dA) (va_runV (As := [.int p0]) (rest := []) ⟨hx, hb, hml, hown, hta⟩ (mtXs_takeTurn l dC dI q dA H.size p0 M_4 _ hw) (cwV 1 hta (giV wt_385 wt_387 ws_5 wt_1 wt_388) rfl rfl rfl (by decide +kernel) ⟨Nat.le_of_ble_eq_true rfl, Nat.le_of_ble_eq_true rfl⟩) ⟨pW_blind, va_recv hK hP (ci := 0) (q0 := 0) rfl (wX_0 q dA M_4), pW_of hK hP hD⟩ rfl rfl hl.1 rfl (lv_room (Nat.le_of_ble_eq_true rfl)) dXs_step_11 ⟨Nat.le_of_ble_eq_true rfl, Nat.le_of_ble_eq_true rfl⟩) hD hS hA (fun r_5 M_6 H locs hw hP hD hS => ?_)
      exact W.iret (v := r_5) hx hb hr (fun t ht hW => ⟨⟨r_5, M_6, rfl, hw, by rw [ht]; exact hP, va_K.moved hW.alike hK, hD⟩, hS.F ht⟩) hS.2.2 dXs_step_14 hlocks
    · exact cn_v (w := (wX q dA)) (M := M_2) (wX_ad q dA) (va_runV (As := [.int p0]) (rest := []) ⟨hx, hb, hml, hown, hta⟩ (mtnXs_requireRunning l dC dI q dA H.size p0 M_2 _ hw) (cwV 1 hta (giV wt_380 wt_382 ws_4 wt_1 wt_383) rfl rfl rfl (by decide +kernel) ⟨Nat.le_of_ble_eq_true rfl, Nat.le_of_ble_eq_true rfl⟩) ⟨pW_blind, va_recv hK hP (ci := 0) (q0 := 0) rfl (wX_0 q dA M_2), pW_of hK hP hD⟩ rfl rfl hl.1 rfl (lv_room (Nat.le_of_ble_eq_true rfl)) dXs_step_6 ⟨Nat.le_of_ble_eq_true rfl, Nat.le_of_ble_eq_true rfl⟩) hD hS hA (fun M_4 H locs hw hP hD hS => False.elim hw)
  · exact cn_v (w := (wX q dA)) (M := M) (wX_ad q dA) (va_runS (As := [.int p0]) (rest := []) ⟨hx, hb, hml, hown, hta⟩ (mtnXs_requireThread l dC dI q dA s.heap.size p0 M _ hw) (va_cwS 1 hta (giS wt_196 wt_197 wt_1 wt_198) rfl rfl rfl (by decide +kernel) ⟨Nat.le_of_ble_eq_true rfl, Nat.le_of_ble_eq_true rfl⟩) ⟨pW_blind, pW_of hK hP hD⟩ rfl rfl hl.1 rfl (lv_room (Nat.le_of_ble_eq_true rfl)) dXs_step_1 ⟨Nat.le_of_ble_eq_true rfl, Nat.le_of_ble_eq_true rfl⟩) hD hS hA (fun M_2 H locs hw hP hD hS => False.elim hw)
set_option maxHeartbeats 4000000 in
set_option maxRecDepth 100000 in
theorem mtXs_step (l : Launch) (hl9 : l.stackTraces = false) (dC : Nat → ClassId) (dI : Nat → Nat → Nat) (q : Nat → Nat) (dA : Nat → ClassId) (sz : Nat) (p0 : Int32) (M : Mm) (post : Int32 → Mm → Prop) (px : Nat → Mm → Prop) (hw : wpXs_step p0 M post px) : vx_Met l yXs_step (wsA yXs_step cXs_step 2 (some .int)) ({ frames := 7, cells := 1, slots := 6, locals := 112 }) (va_Pc [.ref (q 0), .int p0] (pWx (dC, dI) vwCl (wX q dA) (tX dA) sX sz M)) (va_Qi post (bW (dC, dI) vwCl (wX q dA) (tX dA) (va_A (wX q dA M) sz)) (va_A (wX q dA M) sz)) (vx_X (fun u : Nat × Mm => px u.1 u.2) (xW (dC, dI) vwCl (wX q dA) (tX dA) (va_A (wX q dA M) sz)) (va_A (wX q dA M) sz)) 1 6 (va_A (wX q dA M) sz) := by
  refine vx_ofW (cc := cXs_step) (maxL := 2) (ret := (some .int)) (by decide) rfl ?_
  intro p e s m args below meth c s₁ B hml hEx hv
  obtain ⟨rfl, hsz, hP, hK, hD0, hZ, hsp⟩ := hv
  have hx := B.exec
  have hb := B.bytes
  have hr := B.returns
  have hts := atoms_spec (ws := (wsA yXs_step cXs_step 2 (some .int))) B.pre
  have hta : ∀ w ∈ wsG, w.before _ s = true := fun w h => hts w (List.mem_cons_of_mem _ h)
  have hown : s.vm.findClass "ServiceThreads" = some m.cls := findClass_of_methodNamed B.named
  have hlocks := B.notSynchronized
  subst hsz
  have hD := hD0.self (sz := s.heap.size)
  generalize hAe : va_A (wX q dA M) s.heap.size = A at hD hZ ⊢
  have hA : ∀ q : Nat, s.heap.size ≤ q → A q := fun q h => by rw [← hAe]; exact Or.inr h
  have hS : va_S A s.heap s.heap [] := va_S.rf
  dsimp only [wpXs_step] at hw
  have hl := lv_entry ([.ref (q 0), .int p0]) (n := 2) (Nat.le_of_ble_eq_true rfl)
  rw [lg_entry_eq]
  generalize (lg_sl ([.ref (q 0), .int p0]) ++ List.replicate (2 - (lg_sl ([.ref (q 0), .int p0])).length) Slot.unset).toArray = ls at hl ⊢
  have hl : lv_has ls 2 [(0, .ref (q 0)), (1, .int p0)] := hl
  refine lv_iload_n hx hb dXs_step_0 rfl (lv_at hl 1 rfl) ?_
  rcases hw with hw | hw
  · refine cn_v (w := (wX q dA)) (M := M) (wX_ad q dA) (va_runS (As := [.int p0]) (rest := []) ⟨hx, hb, hml, hown, hta⟩ (mtnXs_requireThread l dC dI q dA s.heap.size p0 M _ hw) (va_cwS 1 hta (giS wt_196 wt_197 wt_1 wt_198) rfl rfl rfl (by decide +kernel) ⟨Nat.le_of_ble_eq_true rfl, Nat.le_of_ble_eq_true rfl⟩) ⟨pW_blind, pW_of hK hP hD⟩ rfl rfl hl.1 rfl (lv_room (Nat.le_of_ble_eq_true rfl)) dXs_step_1 ⟨Nat.le_of_ble_eq_true rfl, Nat.le_of_ble_eq_true rfl⟩) hD hS hA (fun M_2 H locs hw hP hD hS => ?_)
    refine lv_aload_n hx hb dXs_step_4 rfl (lv_at hl 0 rfl) ?_
    refine lv_iload_n hx hb dXs_step_5 rfl (lv_at hl 1 rfl) ?_
    rcases hw with hw | hw
    · refine cn_v (w := (wX q dA)) (M := M_2) (wX_ad q dA) (va_runV (As := [.int p0]) (rest := []) ⟨hx, hb, hml, hown, hta⟩ (mtnXs_requireRunning l dC dI q dA H.size p0 M_2 _ hw) (cwV 1 hta (giV wt_380 wt_382 ws_4 wt_1 wt_383) rfl rfl rfl (by decide +kernel) ⟨Nat.le_of_ble_eq_true rfl, Nat.le_of_ble_eq_true rfl⟩) ⟨pW_blind, va_recv hK hP (ci := 0) (q0 := 0) rfl (wX_0 q dA M_2), pW_of hK hP hD⟩ rfl rfl hl.1 rfl (lv_room (Nat.le_of_ble_eq_true rfl)) dXs_step_6 ⟨Nat.le_of_ble_eq_true rfl, Nat.le_of_ble_eq_true rfl⟩) hD hS hA (fun M_4 H locs hw hP hD hS => ?_)
      refine lv_aload_n hx hb dXs_step_9 rfl (lv_at hl 0 rfl) ?_
      refine lv_iload_n hx hb dXs_step_10 rfl (lv_at hl 1 rfl) ?_
      refine cn_i (w := (wX q dA)) (M := M_4) (wX_ad q dA) (va_runV (As := [.int p0]) (rest := []) ⟨hx, hb, hml, hown, hta⟩ (mtXs_takeTurn l dC dI q dA H.size p0 M_4 _ hw) (cwV 1 hta (giV wt_385 wt_387 ws_5 wt_1 wt_388) rfl rfl rfl (by decide +kernel) ⟨Nat.le_of_ble_eq_true rfl, Nat.le_of_ble_eq_true rfl⟩) ⟨pW_blind, va_recv hK hP (ci := 0) (q0 := 0) rfl (wX_0 q dA M_4), pW_of hK hP hD⟩ rfl rfl hl.1 rfl (lv_room (Nat.le_of_ble_eq_true rfl)) dXs_step_11 ⟨Nat.le_of_ble_eq_true rfl, Nat.le_of_ble_eq_true rfl⟩) hD hS hA (fun r_5 M_6 H locs hw hP hD hS => ?_)
      refine vx_ret ?_
      refine W.widen (k := 1) (n := 6) (Nat.le_of_ble_eq_true rfl) (Nat.le_of_ble_eq_true rfl) ?_
      exact W.iret (v := r_5) hx hb hr (fun t ht hW => ⟨⟨r_5, M_6, rfl, hw, by rw [ht]; exact hP, va_K.moved hW.alike hK, hD⟩, hS.F ht⟩) hS.2.2 dXs_step_14 hlocks
    · exact cx_v (w := (wX q dA)) (M := M_2) (wX_ad q dA) (vx_runV (As := [.int p0]) (rest := []) ⟨hx, hb, hml, hown, hta⟩ (mtXs_requireRunning l hl9 dC dI q dA H.size p0 M_2 _ _ hw) (cwV 1 hta (giV wt_380 wt_382 ws_4 wt_1 wt_383) rfl rfl rfl (by decide +kernel) ⟨Nat.le_of_ble_eq_true rfl, Nat.le_of_ble_eq_true rfl⟩) ⟨pWx_blind sX_ok, va_recv hK hP (ci := 0) (q0 := 0) rfl (wX_0 q dA M_2), pWx_ofn sX_ok hK hP hD hS hA hZ hsp⟩ rfl rfl hl.1 rfl (lv_room (Nat.le_of_ble_eq_true rfl)) dXs_step_6 ⟨Nat.le_of_ble_eq_true rfl, Nat.le_of_ble_eq_true rfl⟩) hD hS hA (fun k9 E9 ce q9 M9 H1 locs1 hE hw hP hD hS hce hcv hcl => vx_out (E := E9) (fun x hx => (hEx x hx).elim) hlocks hce hcv hcl (fun t ht ha => ⟨(k9, M9), hw, ⟨hE, by rw [ht]; exact hP, va_K.moved ha hK, hD⟩, hS.F ht⟩) hS.2.2 (Nat.le_of_ble_eq_true rfl) (Nat.le_of_ble_eq_true rfl)) (fun M_4 H locs hw hP hD hS => False.elim hw)
  · exact cx_v (w := (wX q dA)) (M := M) (wX_ad q dA) (vx_runS (As := [.int p0]) (rest := []) ⟨hx, hb, hml, hown, hta⟩ (mtXs_requireThread l hl9 dC dI q dA s.heap.size p0 M _ _ hw) (va_cwS 1 hta (giS wt_196 wt_197 wt_1 wt_198) rfl rfl rfl (by decide +kernel) ⟨Nat.le_of_ble_eq_true rfl, Nat.le_of_ble_eq_true rfl⟩) ⟨pWx_blind sX_ok, pWx_ofn sX_ok hK hP hD hS hA hZ hsp⟩ rfl rfl hl.1 rfl (lv_room (Nat.le_of_ble_eq_true rfl)) dXs_step_1 ⟨Nat.le_of_ble_eq_true rfl, Nat.le_of_ble_eq_true rfl⟩) hD hS hA (fun k9 E9 ce q9 M9 H1 locs1 hE hw hP hD hS hce hcv hcl => vx_out (E := E9) (fun x hx => (hEx x hx).elim) hlocks hce hcv hcl (fun t ht ha => ⟨(k9, M9), hw, ⟨hE, by rw [ht]; exact hP, va_K.moved ha hK, hD⟩, hS.F ht⟩) hS.2.2 (Nat.le_of_ble_eq_true rfl) (Nat.le_of_ble_eq_true rfl)) (fun M_2 H locs hw hP hD hS => False.elim hw)
def wlXs_run_26 (post : Int32 → Mm → Prop) (px : Nat → Mm → Prop) : Nat → Int64 → Int32 → Int32 → Int32 → Mm → Prop
  | 0, _, _, _, _ => fun _ => False
  | n26 + 1, x1, x3, x4, x5 => fun M => ((x3 ≤ x5 → (post x4 M)) ∧ (¬ x3 ≤ x5 → (∀ y_4 : Int32, y_4 = (4 : Int32) * x5 → (∀ y_5 : Int64, y_5 = (x1.toUInt64 >>> (y_4.toInt64.toUInt64 &&& Int64.toUInt64 63)).toInt64 → (∀ y_6 : Int64, y_6 = y_5 &&& 7 → (∀ y_7 : Int32, y_7 = y_6.toInt32 → (vp_in y_7 8 ∧ (∀ y_9 : Int32, y_9 = M 14 y_7.toNatClampNeg → (((y_9 = 0 → (wpXs_takeTurn y_7 M (fun r_12 M_13 => (((r_12 = 1 → (∀ x4_16 : Int32, x4_16 = x4 + 1 → (∀ x5_17 : Int32, x5_17 = x5 + 1 → (wlXs_run_26 post px n26 x1 x3 x4_16 x5_17 M_13)))) ∧ (¬ r_12 = 1 → (∀ x5_15 : Int32, x5_15 = x5 + 1 → (wlXs_run_26 post px n26 x1 x3 x4 x5_15 M_13)))))))) ∧ (¬ y_9 = 0 → (∀ x5_11 : Int32, x5_11 = x5 + 1 → (wlXs_run_26 post px n26 x1 x3 x4 x5_11 M)))))))))))))
def wpXs_run (p0 : Int64) (p1 : Int32) (M : Mm) (post : Int32 → Mm → Prop) (px : Nat → Mm → Prop) : Prop := ((p1 < 0 → (px 1 M)) ∧ (¬ p1 < 0 → (((p1 ≤ 16 → (∃ n26 : Nat, wlXs_run_26 post px n26 p0 p1 0 0 M)) ∧ (¬ p1 ≤ 16 → (px 1 M))))))
set_option maxHeartbeats 4000000 in
set_option maxRecDepth 100000 in
theorem LnwlXs_run_26 {p : Program} {l : Launch} {e : Env} {s : State} {m : MethodId} {below : List Frame} {meth : Method} {c : Code} {dC : Nat → ClassId} {dI : Nat → Nat → Nat} {q : Nat → Nat} {dA : Nat → ClassId} {A : Nat → Prop} {av : List Value} {post : Int32 → Mm → Prop} (CX : p.tables.exec = Jvm.exec ∧ c.code = cXs_run ∧ meth.sig.returnType = (some .int) ∧ c.maxLocals = 7 ∧ s.vm.findClass "ServiceThreads" = some m.cls ∧ (∀ w ∈ wsG, w.before av.toArray s = true) ∧ (∀ q : Nat, s.heap.size ≤ q → A q) ∧ va_K (dC, dI) vwCl (tX dA) s ∧ meth.locks = false) : ∀ (n26 : Nat) (x1 : Int64) (x3 : Int32) (x4 : Int32) (x5 : Int32) (M : Mm) (H : Heap) (locs : List Loc) (ls : Array Slot), wlXs_run_26 post (fun _ _ => False) n26 x1 x3 x4 x5 M → va_P (dC, dI) vwCl (wX q dA M) H → va_D A (wX q dA M) → va_S A s.heap H locs → lv_has ls 7 [(0, .ref (q 0)), (1, .long x1), (3, .int x3), (4, .int x4), (5, .int x5)] → W p l e (headSpec (wsA yXs_run cXs_run 7 (some .int)) ({ frames := 5, cells := 0, slots := 0, locals := 112 })).room s m av.toArray below meth c H locs 0 0 (MQ below (va_Qi post (bW (dC, dI) vwCl (wX q dA) (tX dA) A) A) av.toArray s 0 0 A) (F0 m 26 ls []) := by
  obtain ⟨hx, hb, hr, hml, hown, hta, hA, hK, hlocks⟩ := CX
  intro n26
  induction n26 with
  | zero =>
    intro x1 x3 x4 x5 M H locs ls hw
    exact False.elim hw
  | succ n26 ih26 =>
    intro x1 x3 x4 x5 M H locs ls hw hP hD hS hl
    dsimp only [wlXs_run_26] at hw
    refine lv_iload hx hb dXs_run_26 (lv_at hl 4 rfl) ?_
    refine lv_iload_n hx hb dXs_run_28 rfl (lv_at hl 2 rfl) ?_
    refine lv_icmp_ge (tgt := 74) hx hb dXs_run_29 (by decide) (fun c_3 => ?_) (fun c_3 => ?_)
    · have hw := hw.1 c_3
      refine lv_iload hx hb dXs_run_74 (lv_at hl 3 rfl) ?_
      exact W.iret (v := x4) hx hb hr (fun t ht hW => ⟨⟨x4, M, rfl, hw, by rw [ht]; exact hP, va_K.moved hW.alike hK, hD⟩, hS.F ht⟩) hS.2.2 dXs_run_76 hlocks
    · have hw := hw.2 c_3
      refine lv_lload_n hx hb dXs_run_32 rfl (lv_at hl 1 rfl) ?_
      refine lv_iconst (v := 4) hx hb dXs_run_33 (by decide) ?_
      refine lv_iload hx hb dXs_run_34 (lv_at hl 4 rfl) ?_
      refine lv_imul hx hb dXs_run_36 ?_
      refine lv_topi (fun y_4 ey_4 => ?_)
      have hw := hw y_4 ey_4
      refine lv_lushr hx hb dXs_run_37 rfl ?_
      refine lv_topl (fun y_5 ey_5 => ?_)
      have hw := hw y_5 ey_5
      refine lv_ldc2 hx hb hown (hta _ wt_455) dXs_run_38 ?_
      refine lv_land hx hb dXs_run_41 ?_
      refine lv_topl (fun y_6 ey_6 => ?_)
      have hw := hw y_6 ey_6
      refine lv_l2i hx hb dXs_run_42 rfl ?_
      refine lv_topi (fun y_7 ey_7 => ?_)
      have hw := hw y_7 ey_7
      refine lv_istore (lv' := [(6, .int y_7), (0, .ref (q 0)), (1, .long x1), (3, .int x3), (4, .int x4), (5, .int x5)]) hx hb dXs_run_43 hl (by decide) rfl (fun ls hl => ?_)
      refine lv_aload_n hx hb dXs_run_45 rfl (lv_at hl 1 rfl) ?_
      refine va_get (D := (dC, dI)) (ci := 0) (v := .ref (q 19)) (C := "ServiceThreads") (T := TXs) (N := 14) hx hb hta inXs hown hK hP 0 (wX_0 q dA M) rfl 4 (by decide) (hta _ wt_122) (fun _ h9 => h9) rfl dXs_run_46 ?_
      refine lv_iload hx hb dXs_run_49 (lv_at hl 0 rfl) ?_
      obtain ⟨h_8, hw⟩ := hw
      refine ro_i (w := (wX q dA)) (M := M) hx hb hK hP 19 14 (wX_19 q dA M) rfl h_8 dXs_run_51 (fun y_9 ey_9 => ?_)
      have hw := hw y_9 ey_9
      refine lv_if_ne (tgt := 68) hx hb dXs_run_52 (by decide) (fun c_10 => ?_) (fun c_10 => ?_)
      · have hw := hw.2 c_10
        obtain ⟨x5_11, ex5_11⟩ : ∃ y : Int32, y = x5 + 1 := ⟨_, rfl⟩
        have hw := hw x5_11 ex5_11
        refine lv_iinc (v := x5_11) (lv' := [(5, .int x5_11), (6, .int y_7), (0, .ref (q 0)), (1, .long x1), (3, .int x3), (4, .int x4)]) hx hb dXs_run_68 hl (k := 5) rfl (by rw [ex5_11]; rfl) (by decide) rfl (fun ls hl => ?_)
        refine lv_goto (tgt := 26) hx hb dXs_run_71 (by decide) ?_
        exact ih26 x1 x3 x4 x5_11 M _ _ _ hw hP hD hS (lv_sub hl [2, 3, 4, 5, 0] rfl)
      · have hw := hw.1 c_10
        refine lv_aload_n hx hb dXs_run_55 rfl (lv_at hl 1 rfl) ?_
        refine lv_iload hx hb dXs_run_56 (lv_at hl 0 rfl) ?_
        refine cn_i (w := (wX q dA)) (M := M) (wX_ad q dA) (va_runV (As := [.int y_7]) (rest := []) ⟨hx, hb, hml, hown, hta⟩ (mtXs_takeTurn l dC dI q dA H.size y_7 M _ hw) (cwV 1 hta (giV wt_385 wt_387 ws_5 wt_1 wt_388) rfl rfl rfl (by decide +kernel) ⟨Nat.le_of_ble_eq_true rfl, Nat.le_of_ble_eq_true rfl⟩) ⟨pW_blind, va_recv hK hP (ci := 0) (q0 := 0) rfl (wX_0 q dA M), pW_of hK hP hD⟩ rfl rfl hl.1 rfl (lv_room (Nat.le_of_ble_eq_true rfl)) dXs_run_58 ⟨Nat.le_of_ble_eq_true rfl, Nat.le_of_ble_eq_true rfl⟩) hD hS hA (fun r_12 M_13 H locs hw hP hD hS => ?_)
        refine lv_iconst (v := 1) hx hb dXs_run_61 (by decide) ?_
        refine lv_icmp_ne (tgt := 68) hx hb dXs_run_62 (by decide) (fun c_14 => ?_) (fun c_14 => ?_)
        · have hw := hw.2 c_14
          obtain ⟨x5_15, ex5_15⟩ : ∃ y : Int32, y = x5 + 1 := ⟨_, rfl⟩
          have hw := hw x5_15 ex5_15
          refine lv_iinc (v := x5_15) (lv' := [(5, .int x5_15), (6, .int y_7), (0, .ref (q 0)), (1, .long x1), (3, .int x3), (4, .int x4)]) hx hb dXs_run_68 hl (k := 5) rfl (by rw [ex5_15]; rfl) (by decide) rfl (fun ls hl => ?_)
          refine lv_goto (tgt := 26) hx hb dXs_run_71 (by decide) ?_
          exact ih26 x1 x3 x4 x5_15 M_13 _ _ _ hw hP hD hS (lv_sub hl [2, 3, 4, 5, 0] rfl)
        · have hw := hw.1 c_14
          obtain ⟨x4_16, ex4_16⟩ : ∃ y : Int32, y = x4 + 1 := ⟨_, rfl⟩
          have hw := hw x4_16 ex4_16
          refine lv_iinc (v := x4_16) (lv' := [(4, .int x4_16), (6, .int y_7), (0, .ref (q 0)), (1, .long x1), (3, .int x3), (5, .int x5)]) hx hb dXs_run_65 hl (k := 4) rfl (by rw [ex4_16]; rfl) (by decide) rfl (fun ls hl => ?_)
          obtain ⟨x5_17, ex5_17⟩ : ∃ y : Int32, y = x5 + 1 := ⟨_, rfl⟩
          have hw := hw x5_17 ex5_17
          refine lv_iinc (v := x5_17) (lv' := [(5, .int x5_17), (4, .int x4_16), (6, .int y_7), (0, .ref (q 0)), (1, .long x1), (3, .int x3)]) hx hb dXs_run_68 hl (k := 5) rfl (by rw [ex5_17]; rfl) (by decide) rfl (fun ls hl => ?_)
          refine lv_goto (tgt := 26) hx hb dXs_run_71 (by decide) ?_
          exact ih26 x1 x3 x4_16 x5_17 M_13 _ _ _ hw hP hD hS (lv_sub hl [3, 4, 5, 1, 0] rfl)
set_option maxHeartbeats 4000000 in
set_option maxRecDepth 100000 in
theorem mtnXs_run (l : Launch) (dC : Nat → ClassId) (dI : Nat → Nat → Nat) (q : Nat → Nat) (dA : Nat → ClassId) (sz : Nat) (p0 : Int64) (p1 : Int32) (M : Mm) (post : Int32 → Mm → Prop) (hw : wpXs_run p0 p1 M post (fun _ _ => False)) : Met l yXs_run (wsA yXs_run cXs_run 7 (some .int)) ({ frames := 5, cells := 0, slots := 0, locals := 112 }) (va_Pc [.ref (q 0), .long p0, .int p1] (pW (dC, dI) vwCl (wX q dA) (tX dA) sz M)) (va_Qi post (bW (dC, dI) vwCl (wX q dA) (tX dA) (va_A (wX q dA M) sz)) (va_A (wX q dA M) sz)) 0 0 (va_A (wX q dA M) sz) := by
  refine Met.ofW (cc := cXs_run) (maxL := 7) (ret := (some .int)) (by decide) rfl ?_
  intro p e s m args below meth c s₁ B hml hv
  obtain ⟨rfl, hsz, hP, hK, hD0⟩ := hv
  have hx := B.exec
  have hb := B.bytes
  have hr := B.returns
  have hts := atoms_spec (ws := (wsA yXs_run cXs_run 7 (some .int))) B.pre
  have hta : ∀ w ∈ wsG, w.before _ s = true := fun w h => hts w (List.mem_cons_of_mem _ h)
  have hown : s.vm.findClass "ServiceThreads" = some m.cls := findClass_of_methodNamed B.named
  have hlocks := B.notSynchronized
  subst hsz
  have hD := hD0.self (sz := s.heap.size)
  generalize hAe : va_A (wX q dA M) s.heap.size = A at hD ⊢
  have hA : ∀ q : Nat, s.heap.size ≤ q → A q := fun q h => by rw [← hAe]; exact Or.inr h
  have hS : va_S A s.heap s.heap [] := va_S.rf
  dsimp only [wpXs_run] at hw
  have hl := lv_entry ([.ref (q 0), .long p0, .int p1]) (n := 7) (Nat.le_of_ble_eq_true rfl)
  rw [lg_entry_eq]
  generalize (lg_sl ([.ref (q 0), .long p0, .int p1]) ++ List.replicate (7 - (lg_sl ([.ref (q 0), .long p0, .int p1])).length) Slot.unset).toArray = ls at hl ⊢
  have hl : lv_has ls 7 [(0, .ref (q 0)), (1, .long p0), (3, .int p1)] := hl
  refine lv_iload_n hx hb dXs_run_0 rfl (lv_at hl 2 rfl) ?_
  refine lv_if_lt (tgt := 10) hx hb dXs_run_1 (by decide) (fun c_1 => ?_) (fun c_1 => ?_)
  · have hw := hw.1 c_1
    exact False.elim hw
  · have hw := hw.2 c_1
    refine lv_iload_n hx hb dXs_run_4 rfl (lv_at hl 2 rfl) ?_
    refine lv_bipush (v := 16) hx hb dXs_run_5 (by decide) ?_
    refine lv_icmp_le (tgt := 20) hx hb dXs_run_7 (by decide) (fun c_2 => ?_) (fun c_2 => ?_)
    · have hw := hw.1 c_2
      refine lv_iconst (v := 0) hx hb dXs_run_20 (by decide) ?_
      refine lv_istore (lv' := [(4, .int 0), (0, .ref (q 0)), (1, .long p0), (3, .int p1)]) hx hb dXs_run_21 hl (by decide) rfl (fun ls hl => ?_)
      refine lv_iconst (v := 0) hx hb dXs_run_23 (by decide) ?_
      refine lv_istore (lv' := [(5, .int 0), (4, .int 0), (0, .ref (q 0)), (1, .long p0), (3, .int p1)]) hx hb dXs_run_24 hl (by decide) rfl (fun ls hl => ?_)
      obtain ⟨n26, hw⟩ := hw
      exact LnwlXs_run_26 (A := A) (av := [.ref (q 0), .long p0, .int p1]) ⟨hx, hb, hr, hml, hown, hta, hA, hK, hlocks⟩ n26 p0 p1 0 0 M _ _ _ hw hP hD hS (lv_sub hl [2, 3, 4, 1, 0] rfl)
    · have hw := hw.2 c_2
      exact False.elim hw
set_option maxHeartbeats 4000000 in
set_option maxRecDepth 100000 in
theorem LxwlXs_run_26 {p : Program} {l : Launch} {e : Env} {s : State} {m : MethodId} {below : List Frame} {meth : Method} {c : Code} {dC : Nat → ClassId} {dI : Nat → Nat → Nat} {q : Nat → Nat} {dA : Nat → ClassId} {A : Nat → Prop} {av : List Value} {post : Int32 → Mm → Prop} {px : Nat → Mm → Prop} (CX : p.tables.exec = Jvm.exec ∧ c.code = cXs_run ∧ meth.sig.returnType = (some .int) ∧ c.maxLocals = 7 ∧ s.vm.findClass "ServiceThreads" = some m.cls ∧ (∀ w ∈ wsG, w.before av.toArray s = true) ∧ (∀ q : Nat, s.heap.size ≤ q → A q) ∧ va_K (dC, dI) vwCl (tX dA) s ∧ meth.locks = false) : ∀ (n26 : Nat) (x1 : Int64) (x3 : Int32) (x4 : Int32) (x5 : Int32) (M : Mm) (H : Heap) (locs : List Loc) (ls : Array Slot), wlXs_run_26 post px n26 x1 x3 x4 x5 M → va_P (dC, dI) vwCl (wX q dA M) H → va_D A (wX q dA M) → va_S A s.heap H locs → lv_has ls 7 [(0, .ref (q 0)), (1, .long x1), (3, .int x3), (4, .int x4), (5, .int x5)] → W p l e (headSpec (wsA yXs_run cXs_run 7 (some .int)) ({ frames := 6, cells := 1, slots := 6, locals := 112 })).room s m av.toArray below meth c H locs 0 0 (vx_MQ below (va_Qi post (bW (dC, dI) vwCl (wX q dA) (tX dA) A) A) (vx_X (fun u : Nat × Mm => px u.1 u.2) (xW (dC, dI) vwCl (wX q dA) (tX dA) A) A) av.toArray s 1 6 A) (F0 m 26 ls []) := by
  obtain ⟨hx, hb, hr, hml, hown, hta, hA, hK, hlocks⟩ := CX
  intro n26
  induction n26 with
  | zero =>
    intro x1 x3 x4 x5 M H locs ls hw
    exact False.elim hw
  | succ n26 ih26 =>
    intro x1 x3 x4 x5 M H locs ls hw hP hD hS hl
    dsimp only [wlXs_run_26] at hw
    refine lv_iload hx hb dXs_run_26 (lv_at hl 4 rfl) ?_
    refine lv_iload_n hx hb dXs_run_28 rfl (lv_at hl 2 rfl) ?_
    refine lv_icmp_ge (tgt := 74) hx hb dXs_run_29 (by decide) (fun c_3 => ?_) (fun c_3 => ?_)
    · have hw := hw.1 c_3
      refine lv_iload hx hb dXs_run_74 (lv_at hl 3 rfl) ?_
      refine vx_ret ?_
      refine W.widen (k := 1) (n := 6) (Nat.le_of_ble_eq_true rfl) (Nat.le_of_ble_eq_true rfl) ?_
      exact W.iret (v := x4) hx hb hr (fun t ht hW => ⟨⟨x4, M, rfl, hw, by rw [ht]; exact hP, va_K.moved hW.alike hK, hD⟩, hS.F ht⟩) hS.2.2 dXs_run_76 hlocks
    · have hw := hw.2 c_3
      refine lv_lload_n hx hb dXs_run_32 rfl (lv_at hl 1 rfl) ?_
      refine lv_iconst (v := 4) hx hb dXs_run_33 (by decide) ?_
      refine lv_iload hx hb dXs_run_34 (lv_at hl 4 rfl) ?_
      refine lv_imul hx hb dXs_run_36 ?_
      refine lv_topi (fun y_4 ey_4 => ?_)
      have hw := hw y_4 ey_4
      refine lv_lushr hx hb dXs_run_37 rfl ?_
      refine lv_topl (fun y_5 ey_5 => ?_)
      have hw := hw y_5 ey_5
      refine lv_ldc2 hx hb hown (hta _ wt_455) dXs_run_38 ?_
      refine lv_land hx hb dXs_run_41 ?_
      refine lv_topl (fun y_6 ey_6 => ?_)
      have hw := hw y_6 ey_6
      refine lv_l2i hx hb dXs_run_42 rfl ?_
      refine lv_topi (fun y_7 ey_7 => ?_)
      have hw := hw y_7 ey_7
      refine lv_istore (lv' := [(6, .int y_7), (0, .ref (q 0)), (1, .long x1), (3, .int x3), (4, .int x4), (5, .int x5)]) hx hb dXs_run_43 hl (by decide) rfl (fun ls hl => ?_)
      refine lv_aload_n hx hb dXs_run_45 rfl (lv_at hl 1 rfl) ?_
      refine va_get (D := (dC, dI)) (ci := 0) (v := .ref (q 19)) (C := "ServiceThreads") (T := TXs) (N := 14) hx hb hta inXs hown hK hP 0 (wX_0 q dA M) rfl 4 (by decide) (hta _ wt_122) (fun _ h9 => h9) rfl dXs_run_46 ?_
      refine lv_iload hx hb dXs_run_49 (lv_at hl 0 rfl) ?_
      obtain ⟨h_8, hw⟩ := hw
      refine ro_i (w := (wX q dA)) (M := M) hx hb hK hP 19 14 (wX_19 q dA M) rfl h_8 dXs_run_51 (fun y_9 ey_9 => ?_)
      have hw := hw y_9 ey_9
      refine lv_if_ne (tgt := 68) hx hb dXs_run_52 (by decide) (fun c_10 => ?_) (fun c_10 => ?_)
      · have hw := hw.2 c_10
        obtain ⟨x5_11, ex5_11⟩ : ∃ y : Int32, y = x5 + 1 := ⟨_, rfl⟩
        have hw := hw x5_11 ex5_11
        refine lv_iinc (v := x5_11) (lv' := [(5, .int x5_11), (6, .int y_7), (0, .ref (q 0)), (1, .long x1), (3, .int x3), (4, .int x4)]) hx hb dXs_run_68 hl (k := 5) rfl (by rw [ex5_11]; rfl) (by decide) rfl (fun ls hl => ?_)
        refine lv_goto (tgt := 26) hx hb dXs_run_71 (by decide) ?_
        exact ih26 x1 x3 x4 x5_11 M _ _ _ hw hP hD hS (lv_sub hl [2, 3, 4, 5, 0] rfl)
      · have hw := hw.1 c_10
        refine lv_aload_n hx hb dXs_run_55 rfl (lv_at hl 1 rfl) ?_
        refine lv_iload hx hb dXs_run_56 (lv_at hl 0 rfl) ?_
        refine cn_i (w := (wX q dA)) (M := M) (wX_ad q dA) (va_runV (As := [.int y_7]) (rest := []) ⟨hx, hb, hml, hown, hta⟩ (mtXs_takeTurn l dC dI q dA H.size y_7 M _ hw) (cwV 1 hta (giV wt_385 wt_387 ws_5 wt_1 wt_388) rfl rfl rfl (by decide +kernel) ⟨Nat.le_of_ble_eq_true rfl, Nat.le_of_ble_eq_true rfl⟩) ⟨pW_blind, va_recv hK hP (ci := 0) (q0 := 0) rfl (wX_0 q dA M), pW_of hK hP hD⟩ rfl rfl hl.1 rfl (lv_room (Nat.le_of_ble_eq_true rfl)) dXs_run_58 ⟨Nat.le_of_ble_eq_true rfl, Nat.le_of_ble_eq_true rfl⟩) hD hS hA (fun r_12 M_13 H locs hw hP hD hS => ?_)
        refine lv_iconst (v := 1) hx hb dXs_run_61 (by decide) ?_
        refine lv_icmp_ne (tgt := 68) hx hb dXs_run_62 (by decide) (fun c_14 => ?_) (fun c_14 => ?_)
        · have hw := hw.2 c_14
          obtain ⟨x5_15, ex5_15⟩ : ∃ y : Int32, y = x5 + 1 := ⟨_, rfl⟩
          have hw := hw x5_15 ex5_15
          refine lv_iinc (v := x5_15) (lv' := [(5, .int x5_15), (6, .int y_7), (0, .ref (q 0)), (1, .long x1), (3, .int x3), (4, .int x4)]) hx hb dXs_run_68 hl (k := 5) rfl (by rw [ex5_15]; rfl) (by decide) rfl (fun ls hl => ?_)
          refine lv_goto (tgt := 26) hx hb dXs_run_71 (by decide) ?_
          exact ih26 x1 x3 x4 x5_15 M_13 _ _ _ hw hP hD hS (lv_sub hl [2, 3, 4, 5, 0] rfl)
        · have hw := hw.1 c_14
          obtain ⟨x4_16, ex4_16⟩ : ∃ y : Int32, y = x4 + 1 := ⟨_, rfl⟩
          have hw := hw x4_16 ex4_16
          refine lv_iinc (v := x4_16) (lv' := [(4, .int x4_16), (6, .int y_7), (0, .ref (q 0)), (1, .long x1), (3, .int x3), (5, .int x5)]) hx hb dXs_run_65 hl (k := 4) rfl (by rw [ex4_16]; rfl) (by decide) rfl (fun ls hl => ?_)
          obtain ⟨x5_17, ex5_17⟩ : ∃ y : Int32, y = x5 + 1 := ⟨_, rfl⟩
          have hw := hw x5_17 ex5_17
          refine lv_iinc (v := x5_17) (lv' := [(5, .int x5_17), (4, .int x4_16), (6, .int y_7), (0, .ref (q 0)), (1, .long x1), (3, .int x3)]) hx hb dXs_run_68 hl (k := 5) rfl (by rw [ex5_17]; rfl) (by decide) rfl (fun ls hl => ?_)
          refine lv_goto (tgt := 26) hx hb dXs_run_71 (by decide) ?_
          exact ih26 x1 x3 x4_16 x5_17 M_13 _ _ _ hw hP hD hS (lv_sub hl [3, 4, 5, 1, 0] rfl)
set_option maxHeartbeats 4000000 in
set_option maxRecDepth 100000 in
theorem mtXs_run (l : Launch) (hl9 : l.stackTraces = false) (dC : Nat → ClassId) (dI : Nat → Nat → Nat) (q : Nat → Nat) (dA : Nat → ClassId) (sz : Nat) (p0 : Int64) (p1 : Int32) (M : Mm) (post : Int32 → Mm → Prop) (px : Nat → Mm → Prop) (hw : wpXs_run p0 p1 M post px) : vx_Met l yXs_run (wsA yXs_run cXs_run 7 (some .int)) ({ frames := 6, cells := 1, slots := 6, locals := 112 }) (va_Pc [.ref (q 0), .long p0, .int p1] (pWx (dC, dI) vwCl (wX q dA) (tX dA) sX sz M)) (va_Qi post (bW (dC, dI) vwCl (wX q dA) (tX dA) (va_A (wX q dA M) sz)) (va_A (wX q dA M) sz)) (vx_X (fun u : Nat × Mm => px u.1 u.2) (xW (dC, dI) vwCl (wX q dA) (tX dA) (va_A (wX q dA M) sz)) (va_A (wX q dA M) sz)) 1 6 (va_A (wX q dA M) sz) := by
  refine vx_ofW (cc := cXs_run) (maxL := 7) (ret := (some .int)) (by decide) rfl ?_
  intro p e s m args below meth c s₁ B hml hEx hv
  obtain ⟨rfl, hsz, hP, hK, hD0, hZ, hsp⟩ := hv
  have hx := B.exec
  have hb := B.bytes
  have hr := B.returns
  have hts := atoms_spec (ws := (wsA yXs_run cXs_run 7 (some .int))) B.pre
  have hta : ∀ w ∈ wsG, w.before _ s = true := fun w h => hts w (List.mem_cons_of_mem _ h)
  have hown : s.vm.findClass "ServiceThreads" = some m.cls := findClass_of_methodNamed B.named
  have hlocks := B.notSynchronized
  subst hsz
  have hD := hD0.self (sz := s.heap.size)
  generalize hAe : va_A (wX q dA M) s.heap.size = A at hD hZ ⊢
  have hA : ∀ q : Nat, s.heap.size ≤ q → A q := fun q h => by rw [← hAe]; exact Or.inr h
  have hS : va_S A s.heap s.heap [] := va_S.rf
  dsimp only [wpXs_run] at hw
  have hl := lv_entry ([.ref (q 0), .long p0, .int p1]) (n := 7) (Nat.le_of_ble_eq_true rfl)
  rw [lg_entry_eq]
  generalize (lg_sl ([.ref (q 0), .long p0, .int p1]) ++ List.replicate (7 - (lg_sl ([.ref (q 0), .long p0, .int p1])).length) Slot.unset).toArray = ls at hl ⊢
  have hl : lv_has ls 7 [(0, .ref (q 0)), (1, .long p0), (3, .int p1)] := hl
  refine lv_iload_n hx hb dXs_run_0 rfl (lv_at hl 2 rfl) ?_
  refine lv_if_lt (tgt := 10) hx hb dXs_run_1 (by decide) (fun c_1 => ?_) (fun c_1 => ?_)
  · have hw := hw.1 c_1
    obtain ⟨sa9, hsa9⟩ := sX_s9 hsp
    exact vx_throwS (own := "ServiceThreads") (cls := "java/lang/IndexOutOfBoundsException") (names := ["java/lang/RuntimeException", "java/lang/Exception"]) hx hb hl9 hown (by decide +kernel) (by decide +kernel) (hta _ wt_269) (hta _ wt_12) hsa9 (vx_hat (L := vx_atS "ServiceThreads" 85 "java/lang/IndexOutOfBoundsException" ["java/lang/RuntimeException", "java/lang/Exception"]) (B := [.castable "java/lang/IndexOutOfBoundsException" "java/lang/IndexOutOfBoundsException", .declares ⟨"java/lang/RuntimeException", "<init>", "(Ljava/lang/String;)V"⟩, .declares ⟨"java/lang/Exception", "<init>", "(Ljava/lang/String;)V"⟩, .declares ⟨"java/lang/Throwable", "<init>", "(Ljava/lang/String;)V"⟩]) (fun w hw => hta w (vxw_2 w hw)) vxw_2b (vx_c (va_Nw.use rfl (sX_w5 hsp)) (vx_c (va_Nw.use rfl (sX_w1 hsp)) (vx_c (va_Nw.use rfl (sX_w2 hsp)) (vx_c (va_Nw.use rfl (sX_w3 hsp)) (vx_n)))))) vxw_2g hZ.1 hZ.2 hS (hl.1.trans hml.symm) dXs_run_10 dXs_run_13 dXs_run_14 dXs_run_16 dXs_run_19 (fun x hx => (hEx x hx).elim) (Nat.le_of_ble_eq_true rfl) (Nat.le_of_ble_eq_true rfl) (Nat.le_of_ble_eq_true rfl) (Nat.le_of_ble_eq_true rfl) hlocks (th_x (px := px) (k := 1) hP hK hD hS hw) hS.2.2 (Nat.le_of_ble_eq_true rfl) (Nat.le_of_ble_eq_true rfl)
  · have hw := hw.2 c_1
    refine lv_iload_n hx hb dXs_run_4 rfl (lv_at hl 2 rfl) ?_
    refine lv_bipush (v := 16) hx hb dXs_run_5 (by decide) ?_
    refine lv_icmp_le (tgt := 20) hx hb dXs_run_7 (by decide) (fun c_2 => ?_) (fun c_2 => ?_)
    · have hw := hw.1 c_2
      refine lv_iconst (v := 0) hx hb dXs_run_20 (by decide) ?_
      refine lv_istore (lv' := [(4, .int 0), (0, .ref (q 0)), (1, .long p0), (3, .int p1)]) hx hb dXs_run_21 hl (by decide) rfl (fun ls hl => ?_)
      refine lv_iconst (v := 0) hx hb dXs_run_23 (by decide) ?_
      refine lv_istore (lv' := [(5, .int 0), (4, .int 0), (0, .ref (q 0)), (1, .long p0), (3, .int p1)]) hx hb dXs_run_24 hl (by decide) rfl (fun ls hl => ?_)
      obtain ⟨n26, hw⟩ := hw
      exact LxwlXs_run_26 (A := A) (av := [.ref (q 0), .long p0, .int p1]) ⟨hx, hb, hr, hml, hown, hta, hA, hK, hlocks⟩ n26 p0 p1 0 0 M _ _ _ hw hP hD hS (lv_sub hl [2, 3, 4, 1, 0] rfl)
    · have hw := hw.2 c_2
      obtain ⟨sa9, hsa9⟩ := sX_s9 hsp
      exact vx_throwS (own := "ServiceThreads") (cls := "java/lang/IndexOutOfBoundsException") (names := ["java/lang/RuntimeException", "java/lang/Exception"]) hx hb hl9 hown (by decide +kernel) (by decide +kernel) (hta _ wt_269) (hta _ wt_12) hsa9 (vx_hat (L := vx_atS "ServiceThreads" 85 "java/lang/IndexOutOfBoundsException" ["java/lang/RuntimeException", "java/lang/Exception"]) (B := [.castable "java/lang/IndexOutOfBoundsException" "java/lang/IndexOutOfBoundsException", .declares ⟨"java/lang/RuntimeException", "<init>", "(Ljava/lang/String;)V"⟩, .declares ⟨"java/lang/Exception", "<init>", "(Ljava/lang/String;)V"⟩, .declares ⟨"java/lang/Throwable", "<init>", "(Ljava/lang/String;)V"⟩]) (fun w hw => hta w (vxw_2 w hw)) vxw_2b (vx_c (va_Nw.use rfl (sX_w5 hsp)) (vx_c (va_Nw.use rfl (sX_w1 hsp)) (vx_c (va_Nw.use rfl (sX_w2 hsp)) (vx_c (va_Nw.use rfl (sX_w3 hsp)) (vx_n)))))) vxw_2g hZ.1 hZ.2 hS (hl.1.trans hml.symm) dXs_run_10 dXs_run_13 dXs_run_14 dXs_run_16 dXs_run_19 (fun x hx => (hEx x hx).elim) (Nat.le_of_ble_eq_true rfl) (Nat.le_of_ble_eq_true rfl) (Nat.le_of_ble_eq_true rfl) (Nat.le_of_ble_eq_true rfl) hlocks (th_x (px := px) (k := 1) hP hK hD hS hw) hS.2.2 (Nat.le_of_ble_eq_true rfl) (Nat.le_of_ble_eq_true rfl)
def wpXs_runsWithActs (p0 : Int32) (M : Mm) (post : Int32 → Mm → Prop) : Prop := vp_in p0 8 ∧ (∀ y_2 : Int32, y_2 = M 14 p0.toNatClampNeg → (((y_2 = 0 → (wpXp_actsOf p0 M (fun r_4 M_5 => (((r_4 ≤ 0 → (post 0 M_5)) ∧ (¬ r_4 ≤ 0 → (post 1 M_5))))))) ∧ (¬ y_2 = 0 → (post 0 M)))))
set_option maxHeartbeats 4000000 in
set_option maxRecDepth 100000 in
theorem mtXs_runsWithActs (l : Launch) (dC : Nat → ClassId) (dI : Nat → Nat → Nat) (q : Nat → Nat) (dA : Nat → ClassId) (sz : Nat) (p0 : Int32) (M : Mm) (post : Int32 → Mm → Prop) (hw : wpXs_runsWithActs p0 M post) : Met l yXs_runsWithActs (wsA yXs_runsWithActs cXs_runsWithActs 2 (some .boolean)) ({ frames := 1, cells := 0, slots := 0, locals := 21 }) (va_Pc [.ref (q 0), .int p0] (pW (dC, dI) vwCl (wX q dA) (tX dA) sz M)) (va_Qi post (bW (dC, dI) vwCl (wX q dA) (tX dA) (va_A (wX q dA M) sz)) (va_A (wX q dA M) sz)) 0 0 (va_A (wX q dA M) sz) := by
  refine Met.ofW (cc := cXs_runsWithActs) (maxL := 2) (ret := (some .boolean)) (by decide) rfl ?_
  intro p e s m args below meth c s₁ B hml hv
  obtain ⟨rfl, hsz, hP, hK, hD0⟩ := hv
  have hx := B.exec
  have hb := B.bytes
  have hr := B.returns
  have hts := atoms_spec (ws := (wsA yXs_runsWithActs cXs_runsWithActs 2 (some .boolean))) B.pre
  have hta : ∀ w ∈ wsG, w.before _ s = true := fun w h => hts w (List.mem_cons_of_mem _ h)
  have hown : s.vm.findClass "ServiceThreads" = some m.cls := findClass_of_methodNamed B.named
  have hlocks := B.notSynchronized
  subst hsz
  have hD := hD0.self (sz := s.heap.size)
  generalize hAe : va_A (wX q dA M) s.heap.size = A at hD ⊢
  have hA : ∀ q : Nat, s.heap.size ≤ q → A q := fun q h => by rw [← hAe]; exact Or.inr h
  have hS : va_S A s.heap s.heap [] := va_S.rf
  dsimp only [wpXs_runsWithActs] at hw
  have hl := lv_entry ([.ref (q 0), .int p0]) (n := 2) (Nat.le_of_ble_eq_true rfl)
  rw [lg_entry_eq]
  generalize (lg_sl ([.ref (q 0), .int p0]) ++ List.replicate (2 - (lg_sl ([.ref (q 0), .int p0])).length) Slot.unset).toArray = ls at hl ⊢
  have hl : lv_has ls 2 [(0, .ref (q 0)), (1, .int p0)] := hl
  refine lv_aload_n hx hb dXs_runsWithActs_0 rfl (lv_at hl 0 rfl) ?_
  refine va_get (D := (dC, dI)) (ci := 0) (v := .ref (q 19)) (C := "ServiceThreads") (T := TXs) (N := 14) hx hb hta inXs hown hK hP 0 (wX_0 q dA M) rfl 4 (by decide) (hta _ wt_122) (fun _ h9 => h9) rfl dXs_runsWithActs_1 ?_
  refine lv_iload_n hx hb dXs_runsWithActs_4 rfl (lv_at hl 1 rfl) ?_
  obtain ⟨h_1, hw⟩ := hw
  refine ro_i (w := (wX q dA)) (M := M) hx hb hK hP 19 14 (wX_19 q dA M) rfl h_1 dXs_runsWithActs_5 (fun y_2 ey_2 => ?_)
  have hw := hw y_2 ey_2
  refine lv_if_ne (tgt := 24) hx hb dXs_runsWithActs_6 (by decide) (fun c_3 => ?_) (fun c_3 => ?_)
  · have hw := hw.2 c_3
    refine lv_iconst (v := 0) hx hb dXs_runsWithActs_24 (by decide) ?_
    exact W.zret (v := 0) hx hb hr (by decide) (fun t ht hW => ⟨⟨0, M, rfl, hw, by rw [ht]; exact hP, va_K.moved hW.alike hK, hD⟩, hS.F ht⟩) hS.2.2 dXs_runsWithActs_25 hlocks
  · have hw := hw.1 c_3
    refine lv_aload_n hx hb dXs_runsWithActs_9 rfl (lv_at hl 0 rfl) ?_
    refine va_get (D := (dC, dI)) (ci := 0) (v := .ref (q 1)) (C := "ServiceThreads") (T := TXs) (N := 14) hx hb hta inXs hown hK hP 0 (wX_0 q dA M) rfl 0 (by decide) (hta _ wt_118) (fun _ h9 => h9) rfl dXs_runsWithActs_10 ?_
    refine lv_iload_n hx hb dXs_runsWithActs_13 rfl (lv_at hl 1 rfl) ?_
    refine cn_i (w := (wX q dA)) (M := M) (wX_ad q dA) (va_runV (As := [.int p0]) (rest := []) ⟨hx, hb, hml, hown, hta⟩ (mtXp_actsOf l dC dI q dA s.heap.size p0 M _ hw) (cwV 1 hta (giV wt_336 wt_337 wt_338 wt_2 wt_339) rfl rfl rfl (by decide +kernel) ⟨Nat.le_of_ble_eq_true rfl, Nat.le_of_ble_eq_true rfl⟩) ⟨pW_blind, va_recv hK hP (ci := 1) (q0 := 1) rfl (wX_1 q dA M), pW_of hK hP hD⟩ rfl rfl hl.1 rfl (lv_room (Nat.le_of_ble_eq_true rfl)) dXs_runsWithActs_14 ⟨Nat.le_of_ble_eq_true rfl, Nat.le_of_ble_eq_true rfl⟩) hD hS hA (fun r_4 M_5 H locs hw hP hD hS => ?_)
    refine lv_if_le (tgt := 24) hx hb dXs_runsWithActs_17 (by decide) (fun c_6 => ?_) (fun c_6 => ?_)
    · have hw := hw.1 c_6
      refine lv_iconst (v := 0) hx hb dXs_runsWithActs_24 (by decide) ?_
      exact W.zret (v := 0) hx hb hr (by decide) (fun t ht hW => ⟨⟨0, M_5, rfl, hw, by rw [ht]; exact hP, va_K.moved hW.alike hK, hD⟩, hS.F ht⟩) hS.2.2 dXs_runsWithActs_25 hlocks
    · have hw := hw.2 c_6
      refine lv_iconst (v := 1) hx hb dXs_runsWithActs_20 (by decide) ?_
      refine lv_goto (tgt := 25) hx hb dXs_runsWithActs_21 (by decide) ?_
      exact W.zret (v := 1) hx hb hr (by decide) (fun t ht hW => ⟨⟨1, M_5, rfl, hw, by rw [ht]; exact hP, va_K.moved hW.alike hK, hD⟩, hS.F ht⟩) hS.2.2 dXs_runsWithActs_25 hlocks
def wlXs_nextRunningBehind_2 (post : Int32 → Mm → Prop) : Nat → Int32 → Int32 → Mm → Prop
  | 0, _, _ => fun _ => False
  | n2 + 1, x1, x2 => fun M => ((8 ≤ x2 → (post (-1) M)) ∧ (¬ 8 ≤ x2 → (∀ y_2 : Int32, y_2 = x1 + x2 → (∀ y_3 : Int32, y_3 = y_2 - y_2 / 8 * 8 → (wpXs_runsWithActs y_3 M (fun r_4 M_5 => (((r_4 = 0 → (∀ x2_7 : Int32, x2_7 = x2 + 1 → (wlXs_nextRunningBehind_2 post n2 x1 x2_7 M_5))) ∧ (¬ r_4 = 0 → (post y_3 M_5))))))))))
def wpXs_nextRunningBehind (p0 : Int32) (M : Mm) (post : Int32 → Mm → Prop) : Prop := ∃ n2 : Nat, wlXs_nextRunningBehind_2 post n2 p0 1 M
set_option maxHeartbeats 4000000 in
set_option maxRecDepth 100000 in
theorem LwlXs_nextRunningBehind_2 {p : Program} {l : Launch} {e : Env} {s : State} {m : MethodId} {below : List Frame} {meth : Method} {c : Code} {dC : Nat → ClassId} {dI : Nat → Nat → Nat} {q : Nat → Nat} {dA : Nat → ClassId} {A : Nat → Prop} {av : List Value} {post : Int32 → Mm → Prop} (CX : p.tables.exec = Jvm.exec ∧ c.code = cXs_nextRunningBehind ∧ meth.sig.returnType = (some .int) ∧ c.maxLocals = 4 ∧ s.vm.findClass "ServiceThreads" = some m.cls ∧ (∀ w ∈ wsG, w.before av.toArray s = true) ∧ (∀ q : Nat, s.heap.size ≤ q → A q) ∧ va_K (dC, dI) vwCl (tX dA) s ∧ meth.locks = false) : ∀ (n2 : Nat) (x1 : Int32) (x2 : Int32) (M : Mm) (H : Heap) (locs : List Loc) (ls : Array Slot), wlXs_nextRunningBehind_2 post n2 x1 x2 M → va_P (dC, dI) vwCl (wX q dA M) H → va_D A (wX q dA M) → va_S A s.heap H locs → lv_has ls 4 [(0, .ref (q 0)), (1, .int x1), (2, .int x2)] → W p l e (headSpec (wsA yXs_nextRunningBehind cXs_nextRunningBehind 4 (some .int)) ({ frames := 2, cells := 0, slots := 0, locals := 42 })).room s m av.toArray below meth c H locs 0 0 (MQ below (va_Qi post (bW (dC, dI) vwCl (wX q dA) (tX dA) A) A) av.toArray s 0 0 A) (F0 m 2 ls []) := by
  obtain ⟨hx, hb, hr, hml, hown, hta, hA, hK, hlocks⟩ := CX
  intro n2
  induction n2 with
  | zero =>
    intro x1 x2 M H locs ls hw
    exact False.elim hw
  | succ n2 ih2 =>
    intro x1 x2 M H locs ls hw hP hD hS hl
    dsimp only [wlXs_nextRunningBehind_2] at hw
    refine lv_iload_n hx hb dXs_nextRunningBehind_2 rfl (lv_at hl 2 rfl) ?_
    refine lv_bipush (v := 8) hx hb dXs_nextRunningBehind_3 (by decide) ?_
    refine lv_icmp_ge (tgt := 31) hx hb dXs_nextRunningBehind_5 (by decide) (fun c_1 => ?_) (fun c_1 => ?_)
    · have hw := hw.1 c_1
      refine lv_iconst (v := (-1)) hx hb dXs_nextRunningBehind_31 (by decide) ?_
      exact W.iret (v := (-1)) hx hb hr (fun t ht hW => ⟨⟨(-1), M, rfl, hw, by rw [ht]; exact hP, va_K.moved hW.alike hK, hD⟩, hS.F ht⟩) hS.2.2 dXs_nextRunningBehind_32 hlocks
    · have hw := hw.2 c_1
      refine lv_iload_n hx hb dXs_nextRunningBehind_8 rfl (lv_at hl 1 rfl) ?_
      refine lv_iload_n hx hb dXs_nextRunningBehind_9 rfl (lv_at hl 2 rfl) ?_
      refine lv_iadd hx hb dXs_nextRunningBehind_10 ?_
      refine lv_topi (fun y_2 ey_2 => ?_)
      have hw := hw y_2 ey_2
      refine lv_bipush (v := 8) hx hb dXs_nextRunningBehind_11 (by decide) ?_
      refine lv_irem hx hb dXs_nextRunningBehind_13 (by decide) ?_
      refine lv_topi (fun y_3 ey_3 => ?_)
      have hw := hw y_3 ey_3
      refine lv_istore_n (lv' := [(3, .int y_3), (0, .ref (q 0)), (1, .int x1), (2, .int x2)]) hx hb dXs_nextRunningBehind_14 rfl hl (by decide) rfl (fun ls hl => ?_)
      refine lv_aload_n hx hb dXs_nextRunningBehind_15 rfl (lv_at hl 1 rfl) ?_
      refine lv_iload_n hx hb dXs_nextRunningBehind_16 rfl (lv_at hl 0 rfl) ?_
      refine cn_i (w := (wX q dA)) (M := M) (wX_ad q dA) (va_runV (As := [.int y_3]) (rest := []) ⟨hx, hb, hml, hown, hta⟩ (mtXs_runsWithActs l dC dI q dA H.size y_3 M _ hw) (cwV 1 hta (giV wt_467 wt_469 ws_16 wt_1 wt_470) rfl rfl rfl (by decide +kernel) ⟨Nat.le_of_ble_eq_true rfl, Nat.le_of_ble_eq_true rfl⟩) ⟨pW_blind, va_recv hK hP (ci := 0) (q0 := 0) rfl (wX_0 q dA M), pW_of hK hP hD⟩ rfl rfl hl.1 rfl (lv_room (Nat.le_of_ble_eq_true rfl)) dXs_nextRunningBehind_17 ⟨Nat.le_of_ble_eq_true rfl, Nat.le_of_ble_eq_true rfl⟩) hD hS hA (fun r_4 M_5 H locs hw hP hD hS => ?_)
      refine lv_if_eq (tgt := 25) hx hb dXs_nextRunningBehind_20 (by decide) (fun c_6 => ?_) (fun c_6 => ?_)
      · have hw := hw.1 c_6
        obtain ⟨x2_7, ex2_7⟩ : ∃ y : Int32, y = x2 + 1 := ⟨_, rfl⟩
        have hw := hw x2_7 ex2_7
        refine lv_iinc (v := x2_7) (lv' := [(2, .int x2_7), (3, .int y_3), (0, .ref (q 0)), (1, .int x1)]) hx hb dXs_nextRunningBehind_25 hl (k := 3) rfl (by rw [ex2_7]; rfl) (by decide) rfl (fun ls hl => ?_)
        refine lv_goto (tgt := 2) hx hb dXs_nextRunningBehind_28 (by decide) ?_
        exact ih2 x1 x2_7 M_5 _ _ _ hw hP hD hS (lv_sub hl [2, 3, 0] rfl)
      · have hw := hw.2 c_6
        refine lv_iload_n hx hb dXs_nextRunningBehind_23 rfl (lv_at hl 0 rfl) ?_
        exact W.iret (v := y_3) hx hb hr (fun t ht hW => ⟨⟨y_3, M_5, rfl, hw, by rw [ht]; exact hP, va_K.moved hW.alike hK, hD⟩, hS.F ht⟩) hS.2.2 dXs_nextRunningBehind_24 hlocks
set_option maxHeartbeats 4000000 in
set_option maxRecDepth 100000 in
theorem mtXs_nextRunningBehind (l : Launch) (dC : Nat → ClassId) (dI : Nat → Nat → Nat) (q : Nat → Nat) (dA : Nat → ClassId) (sz : Nat) (p0 : Int32) (M : Mm) (post : Int32 → Mm → Prop) (hw : wpXs_nextRunningBehind p0 M post) : Met l yXs_nextRunningBehind (wsA yXs_nextRunningBehind cXs_nextRunningBehind 4 (some .int)) ({ frames := 2, cells := 0, slots := 0, locals := 42 }) (va_Pc [.ref (q 0), .int p0] (pW (dC, dI) vwCl (wX q dA) (tX dA) sz M)) (va_Qi post (bW (dC, dI) vwCl (wX q dA) (tX dA) (va_A (wX q dA M) sz)) (va_A (wX q dA M) sz)) 0 0 (va_A (wX q dA M) sz) := by
  refine Met.ofW (cc := cXs_nextRunningBehind) (maxL := 4) (ret := (some .int)) (by decide) rfl ?_
  intro p e s m args below meth c s₁ B hml hv
  obtain ⟨rfl, hsz, hP, hK, hD0⟩ := hv
  have hx := B.exec
  have hb := B.bytes
  have hr := B.returns
  have hts := atoms_spec (ws := (wsA yXs_nextRunningBehind cXs_nextRunningBehind 4 (some .int))) B.pre
  have hta : ∀ w ∈ wsG, w.before _ s = true := fun w h => hts w (List.mem_cons_of_mem _ h)
  have hown : s.vm.findClass "ServiceThreads" = some m.cls := findClass_of_methodNamed B.named
  have hlocks := B.notSynchronized
  subst hsz
  have hD := hD0.self (sz := s.heap.size)
  generalize hAe : va_A (wX q dA M) s.heap.size = A at hD ⊢
  have hA : ∀ q : Nat, s.heap.size ≤ q → A q := fun q h => by rw [← hAe]; exact Or.inr h
  have hS : va_S A s.heap s.heap [] := va_S.rf
  dsimp only [wpXs_nextRunningBehind] at hw
  have hl := lv_entry ([.ref (q 0), .int p0]) (n := 4) (Nat.le_of_ble_eq_true rfl)
  rw [lg_entry_eq]
  generalize (lg_sl ([.ref (q 0), .int p0]) ++ List.replicate (4 - (lg_sl ([.ref (q 0), .int p0])).length) Slot.unset).toArray = ls at hl ⊢
  have hl : lv_has ls 4 [(0, .ref (q 0)), (1, .int p0)] := hl
  refine lv_iconst (v := 1) hx hb dXs_nextRunningBehind_0 (by decide) ?_
  refine lv_istore_n (lv' := [(2, .int 1), (0, .ref (q 0)), (1, .int p0)]) hx hb dXs_nextRunningBehind_1 rfl hl (by decide) rfl (fun ls hl => ?_)
  obtain ⟨n2, hw⟩ := hw
  exact LwlXs_nextRunningBehind_2 (A := A) (av := [.ref (q 0), .int p0]) ⟨hx, hb, hr, hml, hown, hta, hA, hK, hlocks⟩ n2 p0 1 M _ _ _ hw hP hD hS (lv_sub hl [1, 2, 0] rfl)
def wpXs_kill (p0 : Int32) (M : Mm) (post : Mm → Prop) (px : Nat → Mm → Prop) : Prop := ((wpXs_requireThread p0 M (fun M_2 => (((wpXs_requireRunning p0 M_2 (fun M_4 => (vp_in p0 8 ∧ (∀ M_6 : Mm, M_6 = stM M_4 14 (upd (M_4 14) p0.toNatClampNeg 2) → (∀ y_7 : Int32, y_7 = M_6 24 0 → (∀ y_8 : Int32, y_8 = M_6 25 0 → (∀ y_9 : Int32, y_9 = y_7 + y_8 → (vp_in p0 8 ∧ (∀ M_11 : Mm, M_11 = stM M_6 19 (upd (M_6 19) p0.toNatClampNeg y_9) → (∀ y_12 : Int32, y_12 = M_11 25 0 → (((y_12 = 0 → (wpXu_freeAllOf p0 M_11 (fun M_19 => (wpXs_nextRunningBehind p0 M_19 (fun r_20 M_21 => (wpXc_passOn p0 r_20 M_21 (fun M_23 => (post M_23)))))))) ∧ (¬ y_12 = 0 → (wpXs_nextRunningBehind p0 M_11 (fun r_14 M_15 => (wpXc_passOn p0 r_14 M_15 (fun M_17 => (post M_17))))))))))))))))) (fun _ _ => False)) ∨ (wpXs_requireRunning p0 M_2 (fun _ => False) px)))) (fun _ _ => False)) ∨ (wpXs_requireThread p0 M (fun _ => False) px))
set_option maxHeartbeats 4000000 in
set_option maxRecDepth 100000 in
theorem mtnXs_kill (l : Launch) (dC : Nat → ClassId) (dI : Nat → Nat → Nat) (q : Nat → Nat) (dA : Nat → ClassId) (sz : Nat) (p0 : Int32) (M : Mm) (post : Mm → Prop) (hw : wpXs_kill p0 M post (fun _ _ => False)) : Met l yXs_kill (wsA yXs_kill cXs_kill 2 none) ({ frames := 3, cells := 0, slots := 0, locals := 66 }) (va_Pc [.ref (q 0), .int p0] (pW (dC, dI) vwCl (wX q dA) (tX dA) sz M)) (va_Qv post (bW (dC, dI) vwCl (wX q dA) (tX dA) (va_A (wX q dA M) sz)) (va_A (wX q dA M) sz)) 0 0 (va_A (wX q dA M) sz) := by
  refine Met.ofW (cc := cXs_kill) (maxL := 2) (ret := none) (by decide) rfl ?_
  intro p e s m args below meth c s₁ B hml hv
  obtain ⟨rfl, hsz, hP, hK, hD0⟩ := hv
  have hx := B.exec
  have hb := B.bytes
  have hr := B.returns
  have hts := atoms_spec (ws := (wsA yXs_kill cXs_kill 2 none)) B.pre
  have hta : ∀ w ∈ wsG, w.before _ s = true := fun w h => hts w (List.mem_cons_of_mem _ h)
  have hown : s.vm.findClass "ServiceThreads" = some m.cls := findClass_of_methodNamed B.named
  have hlocks := B.notSynchronized
  subst hsz
  have hD := hD0.self (sz := s.heap.size)
  generalize hAe : va_A (wX q dA M) s.heap.size = A at hD ⊢
  have hA : ∀ q : Nat, s.heap.size ≤ q → A q := fun q h => by rw [← hAe]; exact Or.inr h
  have hS : va_S A s.heap s.heap [] := va_S.rf
  dsimp only [wpXs_kill] at hw
  have hl := lv_entry ([.ref (q 0), .int p0]) (n := 2) (Nat.le_of_ble_eq_true rfl)
  rw [lg_entry_eq]
  generalize (lg_sl ([.ref (q 0), .int p0]) ++ List.replicate (2 - (lg_sl ([.ref (q 0), .int p0])).length) Slot.unset).toArray = ls at hl ⊢
  have hl : lv_has ls 2 [(0, .ref (q 0)), (1, .int p0)] := hl
  refine lv_iload_n hx hb dXs_kill_0 rfl (lv_at hl 1 rfl) ?_
  rcases hw with hw | hw
  · refine cn_v (w := (wX q dA)) (M := M) (wX_ad q dA) (va_runS (As := [.int p0]) (rest := []) ⟨hx, hb, hml, hown, hta⟩ (mtnXs_requireThread l dC dI q dA s.heap.size p0 M _ hw) (va_cwS 1 hta (giS wt_196 wt_197 wt_1 wt_198) rfl rfl rfl (by decide +kernel) ⟨Nat.le_of_ble_eq_true rfl, Nat.le_of_ble_eq_true rfl⟩) ⟨pW_blind, pW_of hK hP hD⟩ rfl rfl hl.1 rfl (lv_room (Nat.le_of_ble_eq_true rfl)) dXs_kill_1 ⟨Nat.le_of_ble_eq_true rfl, Nat.le_of_ble_eq_true rfl⟩) hD hS hA (fun M_2 H locs hw hP hD hS => ?_)
    refine lv_aload_n hx hb dXs_kill_4 rfl (lv_at hl 0 rfl) ?_
    refine lv_iload_n hx hb dXs_kill_5 rfl (lv_at hl 1 rfl) ?_
    rcases hw with hw | hw
    · refine cn_v (w := (wX q dA)) (M := M_2) (wX_ad q dA) (va_runV (As := [.int p0]) (rest := []) ⟨hx, hb, hml, hown, hta⟩ (mtnXs_requireRunning l dC dI q dA H.size p0 M_2 _ hw) (cwV 1 hta (giV wt_380 wt_382 ws_4 wt_1 wt_383) rfl rfl rfl (by decide +kernel) ⟨Nat.le_of_ble_eq_true rfl, Nat.le_of_ble_eq_true rfl⟩) ⟨pW_blind, va_recv hK hP (ci := 0) (q0 := 0) rfl (wX_0 q dA M_2), pW_of hK hP hD⟩ rfl rfl hl.1 rfl (lv_room (Nat.le_of_ble_eq_true rfl)) dXs_kill_6 ⟨Nat.le_of_ble_eq_true rfl, Nat.le_of_ble_eq_true rfl⟩) hD hS hA (fun M_4 H locs hw hP hD hS => ?_)
      refine lv_aload_n hx hb dXs_kill_9 rfl (lv_at hl 0 rfl) ?_
      refine va_get (D := (dC, dI)) (ci := 0) (v := .ref (q 19)) (C := "ServiceThreads") (T := TXs) (N := 14) hx hb hta inXs hown hK hP 0 (wX_0 q dA M_4) rfl 4 (by decide) (hta _ wt_122) (fun _ h9 => h9) rfl dXs_kill_10 ?_
      refine lv_iload_n hx hb dXs_kill_13 rfl (lv_at hl 1 rfl) ?_
      refine lv_iconst (v := 2) hx hb dXs_kill_14 (by decide) ?_
      obtain ⟨h_5, hw⟩ := hw
      refine wo_i (w := (wX q dA)) (M := M_4) hx hb hK hP hD hS 19 14 (wX_19 q dA M_4) (wX_s19 q dA M_4) rfl h_5 dXs_kill_15 (fun M_6 H locs eM_6 hP hD hS => ?_)
      have hw := hw M_6 eM_6
      refine lv_aload_n hx hb dXs_kill_16 rfl (lv_at hl 0 rfl) ?_
      refine va_get (D := (dC, dI)) (ci := 0) (v := .ref (q 24)) (C := "ServiceThreads") (T := TXs) (N := 14) hx hb hta inXs hown hK hP 0 (wX_0 q dA M_6) rfl 9 (by decide) (hta _ wt_127) (fun _ h9 => h9) rfl dXs_kill_17 ?_
      refine lv_iload_n hx hb dXs_kill_20 rfl (lv_at hl 1 rfl) ?_
      refine lv_aload_n hx hb dXs_kill_21 rfl (lv_at hl 0 rfl) ?_
      refine va_get (D := (dC, dI)) (ci := 0) (v := .int (M_6 24 0)) (C := "ServiceThreads") (T := TXs) (N := 14) hx hb hta inXs hown hK hP 0 (wX_0 q dA M_6) rfl 12 (by decide) (hta _ wt_130) (fun _ h9 => h9) rfl dXs_kill_22 ?_
      refine lv_topi (fun y_7 ey_7 => ?_)
      have hw := hw y_7 ey_7
      refine lv_aload_n hx hb dXs_kill_25 rfl (lv_at hl 0 rfl) ?_
      refine va_get (D := (dC, dI)) (ci := 0) (v := .int (M_6 25 0)) (C := "ServiceThreads") (T := TXs) (N := 14) hx hb hta inXs hown hK hP 0 (wX_0 q dA M_6) rfl 13 (by decide) (hta _ wt_131) (fun _ h9 => h9) rfl dXs_kill_26 ?_
      refine lv_topi (fun y_8 ey_8 => ?_)
      have hw := hw y_8 ey_8
      refine lv_iadd hx hb dXs_kill_29 ?_
      refine lv_topi (fun y_9 ey_9 => ?_)
      have hw := hw y_9 ey_9
      obtain ⟨h_10, hw⟩ := hw
      refine wo_i (w := (wX q dA)) (M := M_6) hx hb hK hP hD hS 24 19 (wX_24 q dA M_6) (wX_s24 q dA M_6) rfl h_10 dXs_kill_30 (fun M_11 H locs eM_11 hP hD hS => ?_)
      have hw := hw M_11 eM_11
      refine lv_aload_n hx hb dXs_kill_31 rfl (lv_at hl 0 rfl) ?_
      refine va_get (D := (dC, dI)) (ci := 0) (v := .int (M_11 25 0)) (C := "ServiceThreads") (T := TXs) (N := 14) hx hb hta inXs hown hK hP 0 (wX_0 q dA M_11) rfl 13 (by decide) (hta _ wt_131) (fun _ h9 => h9) rfl dXs_kill_32 ?_
      refine lv_topi (fun y_12 ey_12 => ?_)
      have hw := hw y_12 ey_12
      refine lv_if_ne (tgt := 46) hx hb dXs_kill_35 (by decide) (fun c_13 => ?_) (fun c_13 => ?_)
      · have hw := hw.2 c_13
        refine lv_aload_n hx hb dXs_kill_46 rfl (lv_at hl 0 rfl) ?_
        refine va_get (D := (dC, dI)) (ci := 0) (v := .ref (q 3)) (C := "ServiceThreads") (T := TXs) (N := 14) hx hb hta inXs hown hK hP 0 (wX_0 q dA M_11) rfl 2 (by decide) (hta _ wt_120) (fun _ h9 => h9) rfl dXs_kill_47 ?_
        refine lv_iload_n hx hb dXs_kill_50 rfl (lv_at hl 1 rfl) ?_
        refine lv_aload_n hx hb dXs_kill_51 rfl (lv_at hl 0 rfl) ?_
        refine lv_iload_n hx hb dXs_kill_52 rfl (lv_at hl 1 rfl) ?_
        refine cn_i (w := (wX q dA)) (M := M_11) (wX_ad q dA) (va_runV (As := [.int p0]) (rest := [.int p0, .ref (q 3)]) ⟨hx, hb, hml, hown, hta⟩ (mtXs_nextRunningBehind l dC dI q dA H.size p0 M_11 _ hw) (cwV 1 hta (giV wt_463 wt_465 ws_15 wt_1 wt_466) rfl rfl rfl (by decide +kernel) ⟨Nat.le_of_ble_eq_true rfl, Nat.le_of_ble_eq_true rfl⟩) ⟨pW_blind, va_recv hK hP (ci := 0) (q0 := 0) rfl (wX_0 q dA M_11), pW_of hK hP hD⟩ rfl rfl hl.1 rfl (lv_room (Nat.le_of_ble_eq_true rfl)) dXs_kill_53 ⟨Nat.le_of_ble_eq_true rfl, Nat.le_of_ble_eq_true rfl⟩) hD hS hA (fun r_14 M_15 H locs hw hP hD hS => ?_)
        refine cn_v (w := (wX q dA)) (M := M_15) (wX_ad q dA) (va_runV (As := [.int p0, .int r_14]) (rest := []) ⟨hx, hb, hml, hown, hta⟩ (mtXc_passOn l dC dI q dA H.size p0 r_14 M_15 _ hw) (cwV 2 hta (giV wt_471 wt_472 wt_473 wt_5 wt_474) rfl rfl rfl (by decide +kernel) ⟨Nat.le_of_ble_eq_true rfl, Nat.le_of_ble_eq_true rfl⟩) ⟨pW_blind, va_recv hK hP (ci := 3) (q0 := 3) rfl (wX_3 q dA M_15), pW_of hK hP hD⟩ rfl rfl hl.1 rfl (lv_room (Nat.le_of_ble_eq_true rfl)) dXs_kill_56 ⟨Nat.le_of_ble_eq_true rfl, Nat.le_of_ble_eq_true rfl⟩) hD hS hA (fun M_17 H locs hw hP hD hS => ?_)
        exact W.vret hx hb hr (fun t ht hW => ⟨⟨M_17, rfl, hw, by rw [ht]; exact hP, va_K.moved hW.alike hK, hD⟩, hS.F ht⟩) hS.2.2 dXs_kill_59 hlocks
      · have hw := hw.1 c_13
        refine lv_aload_n hx hb dXs_kill_38 rfl (lv_at hl 0 rfl) ?_
        refine va_get (D := (dC, dI)) (ci := 0) (v := .ref (q 2)) (C := "ServiceThreads") (T := TXs) (N := 14) hx hb hta inXs hown hK hP 0 (wX_0 q dA M_11) rfl 1 (by decide) (hta _ wt_119) (fun _ h9 => h9) rfl dXs_kill_39 ?_
        refine lv_iload_n hx hb dXs_kill_42 rfl (lv_at hl 1 rfl) ?_
        refine cn_v (w := (wX q dA)) (M := M_11) (wX_ad q dA) (va_runV (As := [.int p0]) (rest := []) ⟨hx, hb, hml, hown, hta⟩ (mtXu_freeAllOf l dC dI q dA H.size p0 M_11 _ hw) (cwV 1 hta (giV wt_169 wt_170 wt_171 wt_4 wt_172) rfl rfl rfl (by decide +kernel) ⟨Nat.le_of_ble_eq_true rfl, Nat.le_of_ble_eq_true rfl⟩) ⟨pW_blind, va_recv hK hP (ci := 2) (q0 := 2) rfl (wX_2 q dA M_11), pW_of hK hP hD⟩ rfl rfl hl.1 rfl (lv_room (Nat.le_of_ble_eq_true rfl)) dXs_kill_43 ⟨Nat.le_of_ble_eq_true rfl, Nat.le_of_ble_eq_true rfl⟩) hD hS hA (fun M_19 H locs hw hP hD hS => ?_)
        refine lv_aload_n hx hb dXs_kill_46 rfl (lv_at hl 0 rfl) ?_
        refine va_get (D := (dC, dI)) (ci := 0) (v := .ref (q 3)) (C := "ServiceThreads") (T := TXs) (N := 14) hx hb hta inXs hown hK hP 0 (wX_0 q dA M_19) rfl 2 (by decide) (hta _ wt_120) (fun _ h9 => h9) rfl dXs_kill_47 ?_
        refine lv_iload_n hx hb dXs_kill_50 rfl (lv_at hl 1 rfl) ?_
        refine lv_aload_n hx hb dXs_kill_51 rfl (lv_at hl 0 rfl) ?_
        refine lv_iload_n hx hb dXs_kill_52 rfl (lv_at hl 1 rfl) ?_
        refine cn_i (w := (wX q dA)) (M := M_19) (wX_ad q dA) (va_runV (As := [.int p0]) (rest := [.int p0, .ref (q 3)]) ⟨hx, hb, hml, hown, hta⟩ (mtXs_nextRunningBehind l dC dI q dA H.size p0 M_19 _ hw) (cwV 1 hta (giV wt_463 wt_465 ws_15 wt_1 wt_466) rfl rfl rfl (by decide +kernel) ⟨Nat.le_of_ble_eq_true rfl, Nat.le_of_ble_eq_true rfl⟩) ⟨pW_blind, va_recv hK hP (ci := 0) (q0 := 0) rfl (wX_0 q dA M_19), pW_of hK hP hD⟩ rfl rfl hl.1 rfl (lv_room (Nat.le_of_ble_eq_true rfl)) dXs_kill_53 ⟨Nat.le_of_ble_eq_true rfl, Nat.le_of_ble_eq_true rfl⟩) hD hS hA (fun r_20 M_21 H locs hw hP hD hS => ?_)
        refine cn_v (w := (wX q dA)) (M := M_21) (wX_ad q dA) (va_runV (As := [.int p0, .int r_20]) (rest := []) ⟨hx, hb, hml, hown, hta⟩ (mtXc_passOn l dC dI q dA H.size p0 r_20 M_21 _ hw) (cwV 2 hta (giV wt_471 wt_472 wt_473 wt_5 wt_474) rfl rfl rfl (by decide +kernel) ⟨Nat.le_of_ble_eq_true rfl, Nat.le_of_ble_eq_true rfl⟩) ⟨pW_blind, va_recv hK hP (ci := 3) (q0 := 3) rfl (wX_3 q dA M_21), pW_of hK hP hD⟩ rfl rfl hl.1 rfl (lv_room (Nat.le_of_ble_eq_true rfl)) dXs_kill_56 ⟨Nat.le_of_ble_eq_true rfl, Nat.le_of_ble_eq_true rfl⟩) hD hS hA (fun M_23 H locs hw hP hD hS => ?_)
        exact W.vret hx hb hr (fun t ht hW => ⟨⟨M_23, rfl, hw, by rw [ht]; exact hP, va_K.moved hW.alike hK, hD⟩, hS.F ht⟩) hS.2.2 dXs_kill_59 hlocks
    · exact cn_v (w := (wX q dA)) (M := M_2) (wX_ad q dA) (va_runV (As := [.int p0]) (rest := []) ⟨hx, hb, hml, hown, hta⟩ (mtnXs_requireRunning l dC dI q dA H.size p0 M_2 _ hw) (cwV 1 hta (giV wt_380 wt_382 ws_4 wt_1 wt_383) rfl rfl rfl (by decide +kernel) ⟨Nat.le_of_ble_eq_true rfl, Nat.le_of_ble_eq_true rfl⟩) ⟨pW_blind, va_recv hK hP (ci := 0) (q0 := 0) rfl (wX_0 q dA M_2), pW_of hK hP hD⟩ rfl rfl hl.1 rfl (lv_room (Nat.le_of_ble_eq_true rfl)) dXs_kill_6 ⟨Nat.le_of_ble_eq_true rfl, Nat.le_of_ble_eq_true rfl⟩) hD hS hA (fun M_4 H locs hw hP hD hS => False.elim hw)
  · exact cn_v (w := (wX q dA)) (M := M) (wX_ad q dA) (va_runS (As := [.int p0]) (rest := []) ⟨hx, hb, hml, hown, hta⟩ (mtnXs_requireThread l dC dI q dA s.heap.size p0 M _ hw) (va_cwS 1 hta (giS wt_196 wt_197 wt_1 wt_198) rfl rfl rfl (by decide +kernel) ⟨Nat.le_of_ble_eq_true rfl, Nat.le_of_ble_eq_true rfl⟩) ⟨pW_blind, pW_of hK hP hD⟩ rfl rfl hl.1 rfl (lv_room (Nat.le_of_ble_eq_true rfl)) dXs_kill_1 ⟨Nat.le_of_ble_eq_true rfl, Nat.le_of_ble_eq_true rfl⟩) hD hS hA (fun M_2 H locs hw hP hD hS => False.elim hw)
set_option maxHeartbeats 4000000 in
set_option maxRecDepth 100000 in
theorem mtXs_kill (l : Launch) (hl9 : l.stackTraces = false) (dC : Nat → ClassId) (dI : Nat → Nat → Nat) (q : Nat → Nat) (dA : Nat → ClassId) (sz : Nat) (p0 : Int32) (M : Mm) (post : Mm → Prop) (px : Nat → Mm → Prop) (hw : wpXs_kill p0 M post px) : vx_Met l yXs_kill (wsA yXs_kill cXs_kill 2 none) ({ frames := 7, cells := 1, slots := 6, locals := 103 }) (va_Pc [.ref (q 0), .int p0] (pWx (dC, dI) vwCl (wX q dA) (tX dA) sX sz M)) (va_Qv post (bW (dC, dI) vwCl (wX q dA) (tX dA) (va_A (wX q dA M) sz)) (va_A (wX q dA M) sz)) (vx_X (fun u : Nat × Mm => px u.1 u.2) (xW (dC, dI) vwCl (wX q dA) (tX dA) (va_A (wX q dA M) sz)) (va_A (wX q dA M) sz)) 1 6 (va_A (wX q dA M) sz) := by
  refine vx_ofW (cc := cXs_kill) (maxL := 2) (ret := none) (by decide) rfl ?_
  intro p e s m args below meth c s₁ B hml hEx hv
  obtain ⟨rfl, hsz, hP, hK, hD0, hZ, hsp⟩ := hv
  have hx := B.exec
  have hb := B.bytes
  have hr := B.returns
  have hts := atoms_spec (ws := (wsA yXs_kill cXs_kill 2 none)) B.pre
  have hta : ∀ w ∈ wsG, w.before _ s = true := fun w h => hts w (List.mem_cons_of_mem _ h)
  have hown : s.vm.findClass "ServiceThreads" = some m.cls := findClass_of_methodNamed B.named
  have hlocks := B.notSynchronized
  subst hsz
  have hD := hD0.self (sz := s.heap.size)
  generalize hAe : va_A (wX q dA M) s.heap.size = A at hD hZ ⊢
  have hA : ∀ q : Nat, s.heap.size ≤ q → A q := fun q h => by rw [← hAe]; exact Or.inr h
  have hS : va_S A s.heap s.heap [] := va_S.rf
  dsimp only [wpXs_kill] at hw
  have hl := lv_entry ([.ref (q 0), .int p0]) (n := 2) (Nat.le_of_ble_eq_true rfl)
  rw [lg_entry_eq]
  generalize (lg_sl ([.ref (q 0), .int p0]) ++ List.replicate (2 - (lg_sl ([.ref (q 0), .int p0])).length) Slot.unset).toArray = ls at hl ⊢
  have hl : lv_has ls 2 [(0, .ref (q 0)), (1, .int p0)] := hl
  refine lv_iload_n hx hb dXs_kill_0 rfl (lv_at hl 1 rfl) ?_
  rcases hw with hw | hw
  · refine cn_v (w := (wX q dA)) (M := M) (wX_ad q dA) (va_runS (As := [.int p0]) (rest := []) ⟨hx, hb, hml, hown, hta⟩ (mtnXs_requireThread l dC dI q dA s.heap.size p0 M _ hw) (va_cwS 1 hta (giS wt_196 wt_197 wt_1 wt_198) rfl rfl rfl (by decide +kernel) ⟨Nat.le_of_ble_eq_true rfl, Nat.le_of_ble_eq_true rfl⟩) ⟨pW_blind, pW_of hK hP hD⟩ rfl rfl hl.1 rfl (lv_room (Nat.le_of_ble_eq_true rfl)) dXs_kill_1 ⟨Nat.le_of_ble_eq_true rfl, Nat.le_of_ble_eq_true rfl⟩) hD hS hA (fun M_2 H locs hw hP hD hS => ?_)
    refine lv_aload_n hx hb dXs_kill_4 rfl (lv_at hl 0 rfl) ?_
    refine lv_iload_n hx hb dXs_kill_5 rfl (lv_at hl 1 rfl) ?_
    rcases hw with hw | hw
    · refine cn_v (w := (wX q dA)) (M := M_2) (wX_ad q dA) (va_runV (As := [.int p0]) (rest := []) ⟨hx, hb, hml, hown, hta⟩ (mtnXs_requireRunning l dC dI q dA H.size p0 M_2 _ hw) (cwV 1 hta (giV wt_380 wt_382 ws_4 wt_1 wt_383) rfl rfl rfl (by decide +kernel) ⟨Nat.le_of_ble_eq_true rfl, Nat.le_of_ble_eq_true rfl⟩) ⟨pW_blind, va_recv hK hP (ci := 0) (q0 := 0) rfl (wX_0 q dA M_2), pW_of hK hP hD⟩ rfl rfl hl.1 rfl (lv_room (Nat.le_of_ble_eq_true rfl)) dXs_kill_6 ⟨Nat.le_of_ble_eq_true rfl, Nat.le_of_ble_eq_true rfl⟩) hD hS hA (fun M_4 H locs hw hP hD hS => ?_)
      refine lv_aload_n hx hb dXs_kill_9 rfl (lv_at hl 0 rfl) ?_
      refine va_get (D := (dC, dI)) (ci := 0) (v := .ref (q 19)) (C := "ServiceThreads") (T := TXs) (N := 14) hx hb hta inXs hown hK hP 0 (wX_0 q dA M_4) rfl 4 (by decide) (hta _ wt_122) (fun _ h9 => h9) rfl dXs_kill_10 ?_
      refine lv_iload_n hx hb dXs_kill_13 rfl (lv_at hl 1 rfl) ?_
      refine lv_iconst (v := 2) hx hb dXs_kill_14 (by decide) ?_
      obtain ⟨h_5, hw⟩ := hw
      refine wo_i (w := (wX q dA)) (M := M_4) hx hb hK hP hD hS 19 14 (wX_19 q dA M_4) (wX_s19 q dA M_4) rfl h_5 dXs_kill_15 (fun M_6 H locs eM_6 hP hD hS => ?_)
      have hw := hw M_6 eM_6
      refine lv_aload_n hx hb dXs_kill_16 rfl (lv_at hl 0 rfl) ?_
      refine va_get (D := (dC, dI)) (ci := 0) (v := .ref (q 24)) (C := "ServiceThreads") (T := TXs) (N := 14) hx hb hta inXs hown hK hP 0 (wX_0 q dA M_6) rfl 9 (by decide) (hta _ wt_127) (fun _ h9 => h9) rfl dXs_kill_17 ?_
      refine lv_iload_n hx hb dXs_kill_20 rfl (lv_at hl 1 rfl) ?_
      refine lv_aload_n hx hb dXs_kill_21 rfl (lv_at hl 0 rfl) ?_
      refine va_get (D := (dC, dI)) (ci := 0) (v := .int (M_6 24 0)) (C := "ServiceThreads") (T := TXs) (N := 14) hx hb hta inXs hown hK hP 0 (wX_0 q dA M_6) rfl 12 (by decide) (hta _ wt_130) (fun _ h9 => h9) rfl dXs_kill_22 ?_
      refine lv_topi (fun y_7 ey_7 => ?_)
      have hw := hw y_7 ey_7
      refine lv_aload_n hx hb dXs_kill_25 rfl (lv_at hl 0 rfl) ?_
      refine va_get (D := (dC, dI)) (ci := 0) (v := .int (M_6 25 0)) (C := "ServiceThreads") (T := TXs) (N := 14) hx hb hta inXs hown hK hP 0 (wX_0 q dA M_6) rfl 13 (by decide) (hta _ wt_131) (fun _ h9 => h9) rfl dXs_kill_26 ?_
      refine lv_topi (fun y_8 ey_8 => ?_)
      have hw := hw y_8 ey_8
      refine lv_iadd hx hb dXs_kill_29 ?_
      refine lv_topi (fun y_9 ey_9 => ?_)
      have hw := hw y_9 ey_9
      obtain ⟨h_10, hw⟩ := hw
      refine wo_i (w := (wX q dA)) (M := M_6) hx hb hK hP hD hS 24 19 (wX_24 q dA M_6) (wX_s24 q dA M_6) rfl h_10 dXs_kill_30 (fun M_11 H locs eM_11 hP hD hS => ?_)
      have hw := hw M_11 eM_11
      refine lv_aload_n hx hb dXs_kill_31 rfl (lv_at hl 0 rfl) ?_
      refine va_get (D := (dC, dI)) (ci := 0) (v := .int (M_11 25 0)) (C := "ServiceThreads") (T := TXs) (N := 14) hx hb hta inXs hown hK hP 0 (wX_0 q dA M_11) rfl 13 (by decide) (hta _ wt_131) (fun _ h9 => h9) rfl dXs_kill_32 ?_
      refine lv_topi (fun y_12 ey_12 => ?_)
      have hw := hw y_12 ey_12
      refine lv_if_ne (tgt := 46) hx hb dXs_kill_35 (by decide) (fun c_13 => ?_) (fun c_13 => ?_)
      · have hw := hw.2 c_13
        refine lv_aload_n hx hb dXs_kill_46 rfl (lv_at hl 0 rfl) ?_
        refine va_get (D := (dC, dI)) (ci := 0) (v := .ref (q 3)) (C := "ServiceThreads") (T := TXs) (N := 14) hx hb hta inXs hown hK hP 0 (wX_0 q dA M_11) rfl 2 (by decide) (hta _ wt_120) (fun _ h9 => h9) rfl dXs_kill_47 ?_
        refine lv_iload_n hx hb dXs_kill_50 rfl (lv_at hl 1 rfl) ?_
        refine lv_aload_n hx hb dXs_kill_51 rfl (lv_at hl 0 rfl) ?_
        refine lv_iload_n hx hb dXs_kill_52 rfl (lv_at hl 1 rfl) ?_
        refine cn_i (w := (wX q dA)) (M := M_11) (wX_ad q dA) (va_runV (As := [.int p0]) (rest := [.int p0, .ref (q 3)]) ⟨hx, hb, hml, hown, hta⟩ (mtXs_nextRunningBehind l dC dI q dA H.size p0 M_11 _ hw) (cwV 1 hta (giV wt_463 wt_465 ws_15 wt_1 wt_466) rfl rfl rfl (by decide +kernel) ⟨Nat.le_of_ble_eq_true rfl, Nat.le_of_ble_eq_true rfl⟩) ⟨pW_blind, va_recv hK hP (ci := 0) (q0 := 0) rfl (wX_0 q dA M_11), pW_of hK hP hD⟩ rfl rfl hl.1 rfl (lv_room (Nat.le_of_ble_eq_true rfl)) dXs_kill_53 ⟨Nat.le_of_ble_eq_true rfl, Nat.le_of_ble_eq_true rfl⟩) hD hS hA (fun r_14 M_15 H locs hw hP hD hS => ?_)
        refine cn_v (w := (wX q dA)) (M := M_15) (wX_ad q dA) (va_runV (As := [.int p0, .int r_14]) (rest := []) ⟨hx, hb, hml, hown, hta⟩ (mtXc_passOn l dC dI q dA H.size p0 r_14 M_15 _ hw) (cwV 2 hta (giV wt_471 wt_472 wt_473 wt_5 wt_474) rfl rfl rfl (by decide +kernel) ⟨Nat.le_of_ble_eq_true rfl, Nat.le_of_ble_eq_true rfl⟩) ⟨pW_blind, va_recv hK hP (ci := 3) (q0 := 3) rfl (wX_3 q dA M_15), pW_of hK hP hD⟩ rfl rfl hl.1 rfl (lv_room (Nat.le_of_ble_eq_true rfl)) dXs_kill_56 ⟨Nat.le_of_ble_eq_true rfl, Nat.le_of_ble_eq_true rfl⟩) hD hS hA (fun M_17 H locs hw hP hD hS => ?_)
        refine vx_ret ?_
        refine W.widen (k := 1) (n := 6) (Nat.le_of_ble_eq_true rfl) (Nat.le_of_ble_eq_true rfl) ?_
        exact W.vret hx hb hr (fun t ht hW => ⟨⟨M_17, rfl, hw, by rw [ht]; exact hP, va_K.moved hW.alike hK, hD⟩, hS.F ht⟩) hS.2.2 dXs_kill_59 hlocks
      · have hw := hw.1 c_13
        refine lv_aload_n hx hb dXs_kill_38 rfl (lv_at hl 0 rfl) ?_
        refine va_get (D := (dC, dI)) (ci := 0) (v := .ref (q 2)) (C := "ServiceThreads") (T := TXs) (N := 14) hx hb hta inXs hown hK hP 0 (wX_0 q dA M_11) rfl 1 (by decide) (hta _ wt_119) (fun _ h9 => h9) rfl dXs_kill_39 ?_
        refine lv_iload_n hx hb dXs_kill_42 rfl (lv_at hl 1 rfl) ?_
        refine cn_v (w := (wX q dA)) (M := M_11) (wX_ad q dA) (va_runV (As := [.int p0]) (rest := []) ⟨hx, hb, hml, hown, hta⟩ (mtXu_freeAllOf l dC dI q dA H.size p0 M_11 _ hw) (cwV 1 hta (giV wt_169 wt_170 wt_171 wt_4 wt_172) rfl rfl rfl (by decide +kernel) ⟨Nat.le_of_ble_eq_true rfl, Nat.le_of_ble_eq_true rfl⟩) ⟨pW_blind, va_recv hK hP (ci := 2) (q0 := 2) rfl (wX_2 q dA M_11), pW_of hK hP hD⟩ rfl rfl hl.1 rfl (lv_room (Nat.le_of_ble_eq_true rfl)) dXs_kill_43 ⟨Nat.le_of_ble_eq_true rfl, Nat.le_of_ble_eq_true rfl⟩) hD hS hA (fun M_19 H locs hw hP hD hS => ?_)
        refine lv_aload_n hx hb dXs_kill_46 rfl (lv_at hl 0 rfl) ?_
        refine va_get (D := (dC, dI)) (ci := 0) (v := .ref (q 3)) (C := "ServiceThreads") (T := TXs) (N := 14) hx hb hta inXs hown hK hP 0 (wX_0 q dA M_19) rfl 2 (by decide) (hta _ wt_120) (fun _ h9 => h9) rfl dXs_kill_47 ?_
        refine lv_iload_n hx hb dXs_kill_50 rfl (lv_at hl 1 rfl) ?_
        refine lv_aload_n hx hb dXs_kill_51 rfl (lv_at hl 0 rfl) ?_
        refine lv_iload_n hx hb dXs_kill_52 rfl (lv_at hl 1 rfl) ?_
        refine cn_i (w := (wX q dA)) (M := M_19) (wX_ad q dA) (va_runV (As := [.int p0]) (rest := [.int p0, .ref (q 3)]) ⟨hx, hb, hml, hown, hta⟩ (mtXs_nextRunningBehind l dC dI q dA H.size p0 M_19 _ hw) (cwV 1 hta (giV wt_463 wt_465 ws_15 wt_1 wt_466) rfl rfl rfl (by decide +kernel) ⟨Nat.le_of_ble_eq_true rfl, Nat.le_of_ble_eq_true rfl⟩) ⟨pW_blind, va_recv hK hP (ci := 0) (q0 := 0) rfl (wX_0 q dA M_19), pW_of hK hP hD⟩ rfl rfl hl.1 rfl (lv_room (Nat.le_of_ble_eq_true rfl)) dXs_kill_53 ⟨Nat.le_of_ble_eq_true rfl, Nat.le_of_ble_eq_true rfl⟩) hD hS hA (fun r_20 M_21 H locs hw hP hD hS => ?_)
        refine cn_v (w := (wX q dA)) (M := M_21) (wX_ad q dA) (va_runV (As := [.int p0, .int r_20]) (rest := []) ⟨hx, hb, hml, hown, hta⟩ (mtXc_passOn l dC dI q dA H.size p0 r_20 M_21 _ hw) (cwV 2 hta (giV wt_471 wt_472 wt_473 wt_5 wt_474) rfl rfl rfl (by decide +kernel) ⟨Nat.le_of_ble_eq_true rfl, Nat.le_of_ble_eq_true rfl⟩) ⟨pW_blind, va_recv hK hP (ci := 3) (q0 := 3) rfl (wX_3 q dA M_21), pW_of hK hP hD⟩ rfl rfl hl.1 rfl (lv_room (Nat.le_of_ble_eq_true rfl)) dXs_kill_56 ⟨Nat.le_of_ble_eq_true rfl, Nat.le_of_ble_eq_true rfl⟩) hD hS hA (fun M_23 H locs hw hP hD hS => ?_)
        refine vx_ret ?_
        refine W.widen (k := 1) (n := 6) (Nat.le_of_ble_eq_true rfl) (Nat.le_of_ble_eq_true rfl) ?_
        exact W.vret hx hb hr (fun t ht hW => ⟨⟨M_23, rfl, hw, by rw [ht]; exact hP, va_K.moved hW.alike hK, hD⟩, hS.F ht⟩) hS.2.2 dXs_kill_59 hlocks
    · exact cx_v (w := (wX q dA)) (M := M_2) (wX_ad q dA) (vx_runV (As := [.int p0]) (rest := []) ⟨hx, hb, hml, hown, hta⟩ (mtXs_requireRunning l hl9 dC dI q dA H.size p0 M_2 _ _ hw) (cwV 1 hta (giV wt_380 wt_382 ws_4 wt_1 wt_383) rfl rfl rfl (by decide +kernel) ⟨Nat.le_of_ble_eq_true rfl, Nat.le_of_ble_eq_true rfl⟩) ⟨pWx_blind sX_ok, va_recv hK hP (ci := 0) (q0 := 0) rfl (wX_0 q dA M_2), pWx_ofn sX_ok hK hP hD hS hA hZ hsp⟩ rfl rfl hl.1 rfl (lv_room (Nat.le_of_ble_eq_true rfl)) dXs_kill_6 ⟨Nat.le_of_ble_eq_true rfl, Nat.le_of_ble_eq_true rfl⟩) hD hS hA (fun k9 E9 ce q9 M9 H1 locs1 hE hw hP hD hS hce hcv hcl => vx_out (E := E9) (fun x hx => (hEx x hx).elim) hlocks hce hcv hcl (fun t ht ha => ⟨(k9, M9), hw, ⟨hE, by rw [ht]; exact hP, va_K.moved ha hK, hD⟩, hS.F ht⟩) hS.2.2 (Nat.le_of_ble_eq_true rfl) (Nat.le_of_ble_eq_true rfl)) (fun M_4 H locs hw hP hD hS => False.elim hw)
  · exact cx_v (w := (wX q dA)) (M := M) (wX_ad q dA) (vx_runS (As := [.int p0]) (rest := []) ⟨hx, hb, hml, hown, hta⟩ (mtXs_requireThread l hl9 dC dI q dA s.heap.size p0 M _ _ hw) (va_cwS 1 hta (giS wt_196 wt_197 wt_1 wt_198) rfl rfl rfl (by decide +kernel) ⟨Nat.le_of_ble_eq_true rfl, Nat.le_of_ble_eq_true rfl⟩) ⟨pWx_blind sX_ok, pWx_ofn sX_ok hK hP hD hS hA hZ hsp⟩ rfl rfl hl.1 rfl (lv_room (Nat.le_of_ble_eq_true rfl)) dXs_kill_1 ⟨Nat.le_of_ble_eq_true rfl, Nat.le_of_ble_eq_true rfl⟩) hD hS hA (fun k9 E9 ce q9 M9 H1 locs1 hE hw hP hD hS hce hcv hcl => vx_out (E := E9) (fun x hx => (hEx x hx).elim) hlocks hce hcv hcl (fun t ht ha => ⟨(k9, M9), hw, ⟨hE, by rw [ht]; exact hP, va_K.moved ha hK, hD⟩, hS.F ht⟩) hS.2.2 (Nat.le_of_ble_eq_true rfl) (Nat.le_of_ble_eq_true rfl)) (fun M_2 H locs hw hP hD hS => False.elim hw)
def wpXs_restart (p0 : Int32) (M : Mm) (post : Mm → Prop) (px : Nat → Mm → Prop) : Prop := ((wpXs_requireThread p0 M (fun M_2 => (vp_in p0 8 ∧ (∀ y_4 : Int32, y_4 = M_2 14 p0.toNatClampNeg → (((y_4 = 0 → (px 2 M_2)) ∧ (¬ y_4 = 0 → (wpXu_freeAllOf p0 M_2 (fun M_7 => (vp_in p0 8 ∧ (∀ M_9 : Mm, M_9 = stM M_7 14 (upd (M_7 14) p0.toNatClampNeg 0) → (vp_in p0 8 ∧ (∀ M_11 : Mm, M_11 = stM M_9 15 (upd (M_9 15) p0.toNatClampNeg 0) → (vp_in p0 8 ∧ (∀ M_13 : Mm, M_13 = stM M_11 16 (upd (M_11 16) p0.toNatClampNeg 0) → (vp_in p0 8 ∧ (∀ M_15 : Mm, M_15 = stM M_13 17 (upd (M_13 17) p0.toNatClampNeg 0) → (vp_in p0 8 ∧ (∀ M_17 : Mm, M_17 = stM M_15 20 (upd (M_15 20) p0.toNatClampNeg 0) → (vp_in p0 8 ∧ (∀ M_19 : Mm, M_19 = stM M_17 21 (upd (M_17 21) p0.toNatClampNeg 0) → (post M_19))))))))))))))))))))) (fun _ _ => False)) ∨ (wpXs_requireThread p0 M (fun _ => False) px))
set_option maxHeartbeats 4000000 in
set_option maxRecDepth 100000 in
theorem mtnXs_restart (l : Launch) (dC : Nat → ClassId) (dI : Nat → Nat → Nat) (q : Nat → Nat) (dA : Nat → ClassId) (sz : Nat) (p0 : Int32) (M : Mm) (post : Mm → Prop) (hw : wpXs_restart p0 M post (fun _ _ => False)) : Met l yXs_restart (wsA yXs_restart cXs_restart 2 none) ({ frames := 1, cells := 0, slots := 0, locals := 22 }) (va_Pc [.ref (q 0), .int p0] (pW (dC, dI) vwCl (wX q dA) (tX dA) sz M)) (va_Qv post (bW (dC, dI) vwCl (wX q dA) (tX dA) (va_A (wX q dA M) sz)) (va_A (wX q dA M) sz)) 0 0 (va_A (wX q dA M) sz) := by
  refine Met.ofW (cc := cXs_restart) (maxL := 2) (ret := none) (by decide) rfl ?_
  intro p e s m args below meth c s₁ B hml hv
  obtain ⟨rfl, hsz, hP, hK, hD0⟩ := hv
  have hx := B.exec
  have hb := B.bytes
  have hr := B.returns
  have hts := atoms_spec (ws := (wsA yXs_restart cXs_restart 2 none)) B.pre
  have hta : ∀ w ∈ wsG, w.before _ s = true := fun w h => hts w (List.mem_cons_of_mem _ h)
  have hown : s.vm.findClass "ServiceThreads" = some m.cls := findClass_of_methodNamed B.named
  have hlocks := B.notSynchronized
  subst hsz
  have hD := hD0.self (sz := s.heap.size)
  generalize hAe : va_A (wX q dA M) s.heap.size = A at hD ⊢
  have hA : ∀ q : Nat, s.heap.size ≤ q → A q := fun q h => by rw [← hAe]; exact Or.inr h
  have hS : va_S A s.heap s.heap [] := va_S.rf
  dsimp only [wpXs_restart] at hw
  have hl := lv_entry ([.ref (q 0), .int p0]) (n := 2) (Nat.le_of_ble_eq_true rfl)
  rw [lg_entry_eq]
  generalize (lg_sl ([.ref (q 0), .int p0]) ++ List.replicate (2 - (lg_sl ([.ref (q 0), .int p0])).length) Slot.unset).toArray = ls at hl ⊢
  have hl : lv_has ls 2 [(0, .ref (q 0)), (1, .int p0)] := hl
  refine lv_iload_n hx hb dXs_restart_0 rfl (lv_at hl 1 rfl) ?_
  rcases hw with hw | hw
  · refine cn_v (w := (wX q dA)) (M := M) (wX_ad q dA) (va_runS (As := [.int p0]) (rest := []) ⟨hx, hb, hml, hown, hta⟩ (mtnXs_requireThread l dC dI q dA s.heap.size p0 M _ hw) (va_cwS 1 hta (giS wt_196 wt_197 wt_1 wt_198) rfl rfl rfl (by decide +kernel) ⟨Nat.le_of_ble_eq_true rfl, Nat.le_of_ble_eq_true rfl⟩) ⟨pW_blind, pW_of hK hP hD⟩ rfl rfl hl.1 rfl (lv_room (Nat.le_of_ble_eq_true rfl)) dXs_restart_1 ⟨Nat.le_of_ble_eq_true rfl, Nat.le_of_ble_eq_true rfl⟩) hD hS hA (fun M_2 H locs hw hP hD hS => ?_)
    refine lv_aload_n hx hb dXs_restart_4 rfl (lv_at hl 0 rfl) ?_
    refine va_get (D := (dC, dI)) (ci := 0) (v := .ref (q 19)) (C := "ServiceThreads") (T := TXs) (N := 14) hx hb hta inXs hown hK hP 0 (wX_0 q dA M_2) rfl 4 (by decide) (hta _ wt_122) (fun _ h9 => h9) rfl dXs_restart_5 ?_
    refine lv_iload_n hx hb dXs_restart_8 rfl (lv_at hl 1 rfl) ?_
    obtain ⟨h_3, hw⟩ := hw
    refine ro_i (w := (wX q dA)) (M := M_2) hx hb hK hP 19 14 (wX_19 q dA M_2) rfl h_3 dXs_restart_9 (fun y_4 ey_4 => ?_)
    have hw := hw y_4 ey_4
    refine lv_if_ne (tgt := 23) hx hb dXs_restart_10 (by decide) (fun c_5 => ?_) (fun c_5 => ?_)
    · have hw := hw.2 c_5
      refine lv_aload_n hx hb dXs_restart_23 rfl (lv_at hl 0 rfl) ?_
      refine va_get (D := (dC, dI)) (ci := 0) (v := .ref (q 2)) (C := "ServiceThreads") (T := TXs) (N := 14) hx hb hta inXs hown hK hP 0 (wX_0 q dA M_2) rfl 1 (by decide) (hta _ wt_119) (fun _ h9 => h9) rfl dXs_restart_24 ?_
      refine lv_iload_n hx hb dXs_restart_27 rfl (lv_at hl 1 rfl) ?_
      refine cn_v (w := (wX q dA)) (M := M_2) (wX_ad q dA) (va_runV (As := [.int p0]) (rest := []) ⟨hx, hb, hml, hown, hta⟩ (mtXu_freeAllOf l dC dI q dA H.size p0 M_2 _ hw) (cwV 1 hta (giV wt_169 wt_170 wt_171 wt_4 wt_172) rfl rfl rfl (by decide +kernel) ⟨Nat.le_of_ble_eq_true rfl, Nat.le_of_ble_eq_true rfl⟩) ⟨pW_blind, va_recv hK hP (ci := 2) (q0 := 2) rfl (wX_2 q dA M_2), pW_of hK hP hD⟩ rfl rfl hl.1 rfl (lv_room (Nat.le_of_ble_eq_true rfl)) dXs_restart_28 ⟨Nat.le_of_ble_eq_true rfl, Nat.le_of_ble_eq_true rfl⟩) hD hS hA (fun M_7 H locs hw hP hD hS => ?_)
      refine lv_aload_n hx hb dXs_restart_31 rfl (lv_at hl 0 rfl) ?_
      refine va_get (D := (dC, dI)) (ci := 0) (v := .ref (q 19)) (C := "ServiceThreads") (T := TXs) (N := 14) hx hb hta inXs hown hK hP 0 (wX_0 q dA M_7) rfl 4 (by decide) (hta _ wt_122) (fun _ h9 => h9) rfl dXs_restart_32 ?_
      refine lv_iload_n hx hb dXs_restart_35 rfl (lv_at hl 1 rfl) ?_
      refine lv_iconst (v := 0) hx hb dXs_restart_36 (by decide) ?_
      obtain ⟨h_8, hw⟩ := hw
      refine wo_i (w := (wX q dA)) (M := M_7) hx hb hK hP hD hS 19 14 (wX_19 q dA M_7) (wX_s19 q dA M_7) rfl h_8 dXs_restart_37 (fun M_9 H locs eM_9 hP hD hS => ?_)
      have hw := hw M_9 eM_9
      refine lv_aload_n hx hb dXs_restart_38 rfl (lv_at hl 0 rfl) ?_
      refine va_get (D := (dC, dI)) (ci := 0) (v := .ref (q 20)) (C := "ServiceThreads") (T := TXs) (N := 14) hx hb hta inXs hown hK hP 0 (wX_0 q dA M_9) rfl 5 (by decide) (hta _ wt_123) (fun _ h9 => h9) rfl dXs_restart_39 ?_
      refine lv_iload_n hx hb dXs_restart_42 rfl (lv_at hl 1 rfl) ?_
      refine lv_iconst (v := 0) hx hb dXs_restart_43 (by decide) ?_
      obtain ⟨h_10, hw⟩ := hw
      refine wo_i (w := (wX q dA)) (M := M_9) hx hb hK hP hD hS 20 15 (wX_20 q dA M_9) (wX_s20 q dA M_9) rfl h_10 dXs_restart_44 (fun M_11 H locs eM_11 hP hD hS => ?_)
      have hw := hw M_11 eM_11
      refine lv_aload_n hx hb dXs_restart_45 rfl (lv_at hl 0 rfl) ?_
      refine va_get (D := (dC, dI)) (ci := 0) (v := .ref (q 21)) (C := "ServiceThreads") (T := TXs) (N := 14) hx hb hta inXs hown hK hP 0 (wX_0 q dA M_11) rfl 6 (by decide) (hta _ wt_124) (fun _ h9 => h9) rfl dXs_restart_46 ?_
      refine lv_iload_n hx hb dXs_restart_49 rfl (lv_at hl 1 rfl) ?_
      refine lv_iconst (v := 0) hx hb dXs_restart_50 (by decide) ?_
      obtain ⟨h_12, hw⟩ := hw
      refine wo_i (w := (wX q dA)) (M := M_11) hx hb hK hP hD hS 21 16 (wX_21 q dA M_11) (wX_s21 q dA M_11) rfl h_12 dXs_restart_51 (fun M_13 H locs eM_13 hP hD hS => ?_)
      have hw := hw M_13 eM_13
      refine lv_aload_n hx hb dXs_restart_52 rfl (lv_at hl 0 rfl) ?_
      refine va_get (D := (dC, dI)) (ci := 0) (v := .ref (q 22)) (C := "ServiceThreads") (T := TXs) (N := 14) hx hb hta inXs hown hK hP 0 (wX_0 q dA M_13) rfl 7 (by decide) (hta _ wt_125) (fun _ h9 => h9) rfl dXs_restart_53 ?_
      refine lv_iload_n hx hb dXs_restart_56 rfl (lv_at hl 1 rfl) ?_
      refine lv_iconst (v := 0) hx hb dXs_restart_57 (by decide) ?_
      obtain ⟨h_14, hw⟩ := hw
      refine wo_i (w := (wX q dA)) (M := M_13) hx hb hK hP hD hS 22 17 (wX_22 q dA M_13) (wX_s22 q dA M_13) rfl h_14 dXs_restart_58 (fun M_15 H locs eM_15 hP hD hS => ?_)
      have hw := hw M_15 eM_15
      refine lv_aload_n hx hb dXs_restart_59 rfl (lv_at hl 0 rfl) ?_
      refine va_get (D := (dC, dI)) (ci := 0) (v := .ref (q 25)) (C := "ServiceThreads") (T := TXs) (N := 14) hx hb hta inXs hown hK hP 0 (wX_0 q dA M_15) rfl 10 (by decide) (hta _ wt_128) (fun _ h9 => h9) rfl dXs_restart_60 ?_
      refine lv_iload_n hx hb dXs_restart_63 rfl (lv_at hl 1 rfl) ?_
      refine lv_iconst (v := 0) hx hb dXs_restart_64 (by decide) ?_
      obtain ⟨h_16, hw⟩ := hw
      refine wo_z (w := (wX q dA)) (M := M_15) hx hb hK hP hD hS 25 20 (wX_25 q dA M_15) (wX_s25 q dA M_15) rfl (by decide) h_16 dXs_restart_65 (fun M_17 H locs eM_17 hP hD hS => ?_)
      have hw := hw M_17 eM_17
      refine lv_aload_n hx hb dXs_restart_66 rfl (lv_at hl 0 rfl) ?_
      refine va_get (D := (dC, dI)) (ci := 0) (v := .ref (q 26)) (C := "ServiceThreads") (T := TXs) (N := 14) hx hb hta inXs hown hK hP 0 (wX_0 q dA M_17) rfl 11 (by decide) (hta _ wt_129) (fun _ h9 => h9) rfl dXs_restart_67 ?_
      refine lv_iload_n hx hb dXs_restart_70 rfl (lv_at hl 1 rfl) ?_
      refine lv_iconst (v := 0) hx hb dXs_restart_71 (by decide) ?_
      obtain ⟨h_18, hw⟩ := hw
      refine wo_z (w := (wX q dA)) (M := M_17) hx hb hK hP hD hS 26 21 (wX_26 q dA M_17) (wX_s26 q dA M_17) rfl (by decide) h_18 dXs_restart_72 (fun M_19 H locs eM_19 hP hD hS => ?_)
      have hw := hw M_19 eM_19
      exact W.vret hx hb hr (fun t ht hW => ⟨⟨M_19, rfl, hw, by rw [ht]; exact hP, va_K.moved hW.alike hK, hD⟩, hS.F ht⟩) hS.2.2 dXs_restart_73 hlocks
    · have hw := hw.1 c_5
      exact False.elim hw
  · exact cn_v (w := (wX q dA)) (M := M) (wX_ad q dA) (va_runS (As := [.int p0]) (rest := []) ⟨hx, hb, hml, hown, hta⟩ (mtnXs_requireThread l dC dI q dA s.heap.size p0 M _ hw) (va_cwS 1 hta (giS wt_196 wt_197 wt_1 wt_198) rfl rfl rfl (by decide +kernel) ⟨Nat.le_of_ble_eq_true rfl, Nat.le_of_ble_eq_true rfl⟩) ⟨pW_blind, pW_of hK hP hD⟩ rfl rfl hl.1 rfl (lv_room (Nat.le_of_ble_eq_true rfl)) dXs_restart_1 ⟨Nat.le_of_ble_eq_true rfl, Nat.le_of_ble_eq_true rfl⟩) hD hS hA (fun M_2 H locs hw hP hD hS => False.elim hw)
set_option maxHeartbeats 4000000 in
set_option maxRecDepth 100000 in
theorem mtXs_restart (l : Launch) (hl9 : l.stackTraces = false) (dC : Nat → ClassId) (dI : Nat → Nat → Nat) (q : Nat → Nat) (dA : Nat → ClassId) (sz : Nat) (p0 : Int32) (M : Mm) (post : Mm → Prop) (px : Nat → Mm → Prop) (hw : wpXs_restart p0 M post px) : vx_Met l yXs_restart (wsA yXs_restart cXs_restart 2 none) ({ frames := 7, cells := 1, slots := 6, locals := 102 }) (va_Pc [.ref (q 0), .int p0] (pWx (dC, dI) vwCl (wX q dA) (tX dA) sX sz M)) (va_Qv post (bW (dC, dI) vwCl (wX q dA) (tX dA) (va_A (wX q dA M) sz)) (va_A (wX q dA M) sz)) (vx_X (fun u : Nat × Mm => px u.1 u.2) (xW (dC, dI) vwCl (wX q dA) (tX dA) (va_A (wX q dA M) sz)) (va_A (wX q dA M) sz)) 1 6 (va_A (wX q dA M) sz) := by
  refine vx_ofW (cc := cXs_restart) (maxL := 2) (ret := none) (by decide) rfl ?_
  intro p e s m args below meth c s₁ B hml hEx hv
  obtain ⟨rfl, hsz, hP, hK, hD0, hZ, hsp⟩ := hv
  have hx := B.exec
  have hb := B.bytes
  have hr := B.returns
  have hts := atoms_spec (ws := (wsA yXs_restart cXs_restart 2 none)) B.pre
  have hta : ∀ w ∈ wsG, w.before _ s = true := fun w h => hts w (List.mem_cons_of_mem _ h)
  have hown : s.vm.findClass "ServiceThreads" = some m.cls := findClass_of_methodNamed B.named
  have hlocks := B.notSynchronized
  subst hsz
  have hD := hD0.self (sz := s.heap.size)
  generalize hAe : va_A (wX q dA M) s.heap.size = A at hD hZ ⊢
  have hA : ∀ q : Nat, s.heap.size ≤ q → A q := fun q h => by rw [← hAe]; exact Or.inr h
  have hS : va_S A s.heap s.heap [] := va_S.rf
  dsimp only [wpXs_restart] at hw
  have hl := lv_entry ([.ref (q 0), .int p0]) (n := 2) (Nat.le_of_ble_eq_true rfl)
  rw [lg_entry_eq]
  generalize (lg_sl ([.ref (q 0), .int p0]) ++ List.replicate (2 - (lg_sl ([.ref (q 0), .int p0])).length) Slot.unset).toArray = ls at hl ⊢
  have hl : lv_has ls 2 [(0, .ref (q 0)), (1, .int p0)] := hl
  refine lv_iload_n hx hb dXs_restart_0 rfl (lv_at hl 1 rfl) ?_
  rcases hw with hw | hw
  · refine cn_v (w := (wX q dA)) (M := M) (wX_ad q dA) (va_runS (As := [.int p0]) (rest := []) ⟨hx, hb, hml, hown, hta⟩ (mtnXs_requireThread l dC dI q dA s.heap.size p0 M _ hw) (va_cwS 1 hta (giS wt_196 wt_197 wt_1 wt_198) rfl rfl rfl (by decide +kernel) ⟨Nat.le_of_ble_eq_true rfl, Nat.le_of_ble_eq_true rfl⟩) ⟨pW_blind, pW_of hK hP hD⟩ rfl rfl hl.1 rfl (lv_room (Nat.le_of_ble_eq_true rfl)) dXs_restart_1 ⟨Nat.le_of_ble_eq_true rfl, Nat.le_of_ble_eq_true rfl⟩) hD hS hA (fun M_2 H locs hw hP hD hS => ?_)
    refine lv_aload_n hx hb dXs_restart_4 rfl (lv_at hl 0 rfl) ?_
    refine va_get (D := (dC, dI)) (ci := 0) (v := .ref (q 19)) (C := "ServiceThreads") (T := TXs) (N := 14) hx hb hta inXs hown hK hP 0 (wX_0 q dA M_2) rfl 4 (by decide) (hta _ wt_122) (fun _ h9 => h9) rfl dXs_restart_5 ?_
    refine lv_iload_n hx hb dXs_restart_8 rfl (lv_at hl 1 rfl) ?_
    obtain ⟨h_3, hw⟩ := hw
    refine ro_i (w := (wX q dA)) (M := M_2) hx hb hK hP 19 14 (wX_19 q dA M_2) rfl h_3 dXs_restart_9 (fun y_4 ey_4 => ?_)
    have hw := hw y_4 ey_4
    refine lv_if_ne (tgt := 23) hx hb dXs_restart_10 (by decide) (fun c_5 => ?_) (fun c_5 => ?_)
    · have hw := hw.2 c_5
      refine lv_aload_n hx hb dXs_restart_23 rfl (lv_at hl 0 rfl) ?_
      refine va_get (D := (dC, dI)) (ci := 0) (v := .ref (q 2)) (C := "ServiceThreads") (T := TXs) (N := 14) hx hb hta inXs hown hK hP 0 (wX_0 q dA M_2) rfl 1 (by decide) (hta _ wt_119) (fun _ h9 => h9) rfl dXs_restart_24 ?_
      refine lv_iload_n hx hb dXs_restart_27 rfl (lv_at hl 1 rfl) ?_
      refine cn_v (w := (wX q dA)) (M := M_2) (wX_ad q dA) (va_runV (As := [.int p0]) (rest := []) ⟨hx, hb, hml, hown, hta⟩ (mtXu_freeAllOf l dC dI q dA H.size p0 M_2 _ hw) (cwV 1 hta (giV wt_169 wt_170 wt_171 wt_4 wt_172) rfl rfl rfl (by decide +kernel) ⟨Nat.le_of_ble_eq_true rfl, Nat.le_of_ble_eq_true rfl⟩) ⟨pW_blind, va_recv hK hP (ci := 2) (q0 := 2) rfl (wX_2 q dA M_2), pW_of hK hP hD⟩ rfl rfl hl.1 rfl (lv_room (Nat.le_of_ble_eq_true rfl)) dXs_restart_28 ⟨Nat.le_of_ble_eq_true rfl, Nat.le_of_ble_eq_true rfl⟩) hD hS hA (fun M_7 H locs hw hP hD hS => ?_)
      refine lv_aload_n hx hb dXs_restart_31 rfl (lv_at hl 0 rfl) ?_
      refine va_get (D := (dC, dI)) (ci := 0) (v := .ref (q 19)) (C := "ServiceThreads") (T := TXs) (N := 14) hx hb hta inXs hown hK hP 0 (wX_0 q dA M_7) rfl 4 (by decide) (hta _ wt_122) (fun _ h9 => h9) rfl dXs_restart_32 ?_
      refine lv_iload_n hx hb dXs_restart_35 rfl (lv_at hl 1 rfl) ?_
      refine lv_iconst (v := 0) hx hb dXs_restart_36 (by decide) ?_
      obtain ⟨h_8, hw⟩ := hw
      refine wo_i (w := (wX q dA)) (M := M_7) hx hb hK hP hD hS 19 14 (wX_19 q dA M_7) (wX_s19 q dA M_7) rfl h_8 dXs_restart_37 (fun M_9 H locs eM_9 hP hD hS => ?_)
      have hw := hw M_9 eM_9
      refine lv_aload_n hx hb dXs_restart_38 rfl (lv_at hl 0 rfl) ?_
      refine va_get (D := (dC, dI)) (ci := 0) (v := .ref (q 20)) (C := "ServiceThreads") (T := TXs) (N := 14) hx hb hta inXs hown hK hP 0 (wX_0 q dA M_9) rfl 5 (by decide) (hta _ wt_123) (fun _ h9 => h9) rfl dXs_restart_39 ?_
      refine lv_iload_n hx hb dXs_restart_42 rfl (lv_at hl 1 rfl) ?_
      refine lv_iconst (v := 0) hx hb dXs_restart_43 (by decide) ?_
      obtain ⟨h_10, hw⟩ := hw
      refine wo_i (w := (wX q dA)) (M := M_9) hx hb hK hP hD hS 20 15 (wX_20 q dA M_9) (wX_s20 q dA M_9) rfl h_10 dXs_restart_44 (fun M_11 H locs eM_11 hP hD hS => ?_)
      have hw := hw M_11 eM_11
      refine lv_aload_n hx hb dXs_restart_45 rfl (lv_at hl 0 rfl) ?_
      refine va_get (D := (dC, dI)) (ci := 0) (v := .ref (q 21)) (C := "ServiceThreads") (T := TXs) (N := 14) hx hb hta inXs hown hK hP 0 (wX_0 q dA M_11) rfl 6 (by decide) (hta _ wt_124) (fun _ h9 => h9) rfl dXs_restart_46 ?_
      refine lv_iload_n hx hb dXs_restart_49 rfl (lv_at hl 1 rfl) ?_
      refine lv_iconst (v := 0) hx hb dXs_restart_50 (by decide) ?_
      obtain ⟨h_12, hw⟩ := hw
      refine wo_i (w := (wX q dA)) (M := M_11) hx hb hK hP hD hS 21 16 (wX_21 q dA M_11) (wX_s21 q dA M_11) rfl h_12 dXs_restart_51 (fun M_13 H locs eM_13 hP hD hS => ?_)
      have hw := hw M_13 eM_13
      refine lv_aload_n hx hb dXs_restart_52 rfl (lv_at hl 0 rfl) ?_
      refine va_get (D := (dC, dI)) (ci := 0) (v := .ref (q 22)) (C := "ServiceThreads") (T := TXs) (N := 14) hx hb hta inXs hown hK hP 0 (wX_0 q dA M_13) rfl 7 (by decide) (hta _ wt_125) (fun _ h9 => h9) rfl dXs_restart_53 ?_
      refine lv_iload_n hx hb dXs_restart_56 rfl (lv_at hl 1 rfl) ?_
      refine lv_iconst (v := 0) hx hb dXs_restart_57 (by decide) ?_
      obtain ⟨h_14, hw⟩ := hw
      refine wo_i (w := (wX q dA)) (M := M_13) hx hb hK hP hD hS 22 17 (wX_22 q dA M_13) (wX_s22 q dA M_13) rfl h_14 dXs_restart_58 (fun M_15 H locs eM_15 hP hD hS => ?_)
      have hw := hw M_15 eM_15
      refine lv_aload_n hx hb dXs_restart_59 rfl (lv_at hl 0 rfl) ?_
      refine va_get (D := (dC, dI)) (ci := 0) (v := .ref (q 25)) (C := "ServiceThreads") (T := TXs) (N := 14) hx hb hta inXs hown hK hP 0 (wX_0 q dA M_15) rfl 10 (by decide) (hta _ wt_128) (fun _ h9 => h9) rfl dXs_restart_60 ?_
      refine lv_iload_n hx hb dXs_restart_63 rfl (lv_at hl 1 rfl) ?_
      refine lv_iconst (v := 0) hx hb dXs_restart_64 (by decide) ?_
      obtain ⟨h_16, hw⟩ := hw
      refine wo_z (w := (wX q dA)) (M := M_15) hx hb hK hP hD hS 25 20 (wX_25 q dA M_15) (wX_s25 q dA M_15) rfl (by decide) h_16 dXs_restart_65 (fun M_17 H locs eM_17 hP hD hS => ?_)
      have hw := hw M_17 eM_17
      refine lv_aload_n hx hb dXs_restart_66 rfl (lv_at hl 0 rfl) ?_
      refine va_get (D := (dC, dI)) (ci := 0) (v := .ref (q 26)) (C := "ServiceThreads") (T := TXs) (N := 14) hx hb hta inXs hown hK hP 0 (wX_0 q dA M_17) rfl 11 (by decide) (hta _ wt_129) (fun _ h9 => h9) rfl dXs_restart_67 ?_
      refine lv_iload_n hx hb dXs_restart_70 rfl (lv_at hl 1 rfl) ?_
      refine lv_iconst (v := 0) hx hb dXs_restart_71 (by decide) ?_
      obtain ⟨h_18, hw⟩ := hw
      refine wo_z (w := (wX q dA)) (M := M_17) hx hb hK hP hD hS 26 21 (wX_26 q dA M_17) (wX_s26 q dA M_17) rfl (by decide) h_18 dXs_restart_72 (fun M_19 H locs eM_19 hP hD hS => ?_)
      have hw := hw M_19 eM_19
      refine vx_ret ?_
      refine W.widen (k := 1) (n := 6) (Nat.le_of_ble_eq_true rfl) (Nat.le_of_ble_eq_true rfl) ?_
      exact W.vret hx hb hr (fun t ht hW => ⟨⟨M_19, rfl, hw, by rw [ht]; exact hP, va_K.moved hW.alike hK, hD⟩, hS.F ht⟩) hS.2.2 dXs_restart_73 hlocks
    · have hw := hw.1 c_5
      obtain ⟨sa9, hsa9⟩ := sX_s10 hsp
      exact vx_throwS (own := "ServiceThreads") (cls := "java/lang/IllegalStateException") (names := ["java/lang/RuntimeException", "java/lang/Exception"]) hx hb hl9 hown (by decide +kernel) (by decide +kernel) (hta _ wt_289) (hta _ wt_13) hsa9 (vx_hat (L := vx_atS "ServiceThreads" 147 "java/lang/IllegalStateException" ["java/lang/RuntimeException", "java/lang/Exception"]) (B := [.castable "java/lang/IllegalStateException" "java/lang/IllegalStateException", .declares ⟨"java/lang/RuntimeException", "<init>", "(Ljava/lang/String;)V"⟩, .declares ⟨"java/lang/Exception", "<init>", "(Ljava/lang/String;)V"⟩, .declares ⟨"java/lang/Throwable", "<init>", "(Ljava/lang/String;)V"⟩]) (fun w hw => hta w (vxw_1 w hw)) vxw_1b (vx_c (va_Nw.use rfl (sX_w4 hsp)) (vx_c (va_Nw.use rfl (sX_w1 hsp)) (vx_c (va_Nw.use rfl (sX_w2 hsp)) (vx_c (va_Nw.use rfl (sX_w3 hsp)) (vx_n)))))) vxw_1g hZ.1 hZ.2 hS (hl.1.trans hml.symm) dXs_restart_13 dXs_restart_16 dXs_restart_17 dXs_restart_19 dXs_restart_22 (fun x hx => (hEx x hx).elim) (Nat.le_of_ble_eq_true rfl) (Nat.le_of_ble_eq_true rfl) (Nat.le_of_ble_eq_true rfl) (Nat.le_of_ble_eq_true rfl) hlocks (th_x (px := px) (k := 2) hP hK hD hS hw) hS.2.2 (Nat.le_of_ble_eq_true rfl) (Nat.le_of_ble_eq_true rfl)
  · exact cx_v (w := (wX q dA)) (M := M) (wX_ad q dA) (vx_runS (As := [.int p0]) (rest := []) ⟨hx, hb, hml, hown, hta⟩ (mtXs_requireThread l hl9 dC dI q dA s.heap.size p0 M _ _ hw) (va_cwS 1 hta (giS wt_196 wt_197 wt_1 wt_198) rfl rfl rfl (by decide +kernel) ⟨Nat.le_of_ble_eq_true rfl, Nat.le_of_ble_eq_true rfl⟩) ⟨pWx_blind sX_ok, pWx_ofn sX_ok hK hP hD hS hA hZ hsp⟩ rfl rfl hl.1 rfl (lv_room (Nat.le_of_ble_eq_true rfl)) dXs_restart_1 ⟨Nat.le_of_ble_eq_true rfl, Nat.le_of_ble_eq_true rfl⟩) hD hS hA (fun k9 E9 ce q9 M9 H1 locs1 hE hw hP hD hS hce hcv hcl => vx_out (E := E9) (fun x hx => (hEx x hx).elim) hlocks hce hcv hcl (fun t ht ha => ⟨(k9, M9), hw, ⟨hE, by rw [ht]; exact hP, va_K.moved ha hK, hD⟩, hS.F ht⟩) hS.2.2 (Nat.le_of_ble_eq_true rfl) (Nat.le_of_ble_eq_true rfl)) (fun M_2 H locs hw hP hD hS => False.elim hw)
