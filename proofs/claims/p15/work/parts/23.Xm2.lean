def wpXm_lock (p0 : Int32) (p1 : Int32) (M : Mm) (post : Int32 → Mm → Prop) : Prop := ((p1 ≤ 9 → (vp_in p1 10 ∧ (∀ y_3 : Int32, y_3 = M 4 p1.toNatClampNeg → (((y_3 = p0 → (wpXm_fail p0 1 M (fun r_17 M_18 => (post r_17 M_18)))) ∧ (¬ y_3 = p0 → (wpXm_hasAbove p0 p1 M (fun r_5 M_6 => (((r_5 = 0 → (vp_in p1 10 ∧ (∀ y_9 : Int32, y_9 = M_6 4 p1.toNatClampNeg → (((y_9 < 0 → (vp_in p1 10 ∧ (∀ M_12 : Mm, M_12 = stM M_6 4 (upd (M_6 4) p1.toNatClampNeg p0) → (wpXm_done p0 M_12 (fun r_13 M_14 => (post r_13 M_14)))))) ∧ (¬ y_9 < 0 → (post 0 M_6))))))) ∧ (¬ r_5 = 0 → (wpXm_fail p0 2 M_6 (fun r_15 M_16 => (post r_15 M_16)))))))))))))) ∧ (¬ p1 ≤ 9 → (wpXm_fail p0 3 M (fun r_19 M_20 => (post r_19 M_20)))))
set_option maxHeartbeats 4000000 in
set_option maxRecDepth 100000 in
theorem mtXm_lock (l : Launch) (dC : Nat → ClassId) (dI : Nat → Nat → Nat) (q : Nat → Nat) (dA : Nat → ClassId) (sz : Nat) (p0 : Int32) (p1 : Int32) (M : Mm) (post : Int32 → Mm → Prop) (hw : wpXm_lock p0 p1 M post) : Met l yXm_lock (wsA yXm_lock cXm_lock 3 (some .int)) ({ frames := 2, cells := 0, slots := 0, locals := 44 }) (va_Pc [.ref (q 0), .int p0, .int p1] (pW (dC, dI) vwCl (wM q dA) (tM dA) sz M)) (va_Qi post (bW (dC, dI) vwCl (wM q dA) (tM dA) (va_A (wM q dA M) sz)) (va_A (wM q dA M) sz)) 0 0 (va_A (wM q dA M) sz) := by
  refine Met.ofW (cc := cXm_lock) (maxL := 3) (ret := (some .int)) (by decide) rfl ?_
  intro p e s m args below meth c s₁ B hml hv
  obtain ⟨rfl, hsz, hP, hK, hD0⟩ := hv
  have hx := B.exec
  have hb := B.bytes
  have hr := B.returns
  have hts := atoms_spec (ws := (wsA yXm_lock cXm_lock 3 (some .int))) B.pre
  have hta : ∀ w ∈ wsG, w.before _ s = true := fun w h => hts w (List.mem_cons_of_mem _ h)
  have hown : s.vm.findClass "ServiceThreadsModel" = some m.cls := findClass_of_methodNamed B.named
  have hlocks := B.notSynchronized
  subst hsz
  have hD := hD0.self (sz := s.heap.size)
  generalize hAe : va_A (wM q dA M) s.heap.size = A at hD ⊢
  have hA : ∀ q : Nat, s.heap.size ≤ q → A q := fun q h => by rw [← hAe]; exact Or.inr h
  have hS : va_S A s.heap s.heap [] := va_S.rf
  dsimp only [wpXm_lock] at hw
  have hl := lv_entry ([.ref (q 0), .int p0, .int p1]) (n := 3) (Nat.le_of_ble_eq_true rfl)
  rw [lg_entry_eq]
  generalize (lg_sl ([.ref (q 0), .int p0, .int p1]) ++ List.replicate (3 - (lg_sl ([.ref (q 0), .int p0, .int p1])).length) Slot.unset).toArray = ls at hl ⊢
  have hl : lv_has ls 3 [(0, .ref (q 0)), (1, .int p0), (2, .int p1)] := hl
  refine lv_iload_n hx hb dXm_lock_0 rfl (lv_at hl 2 rfl) ?_
  refine lv_bipush (v := 9) hx hb dXm_lock_1 (by decide) ?_
  refine lv_icmp_le (tgt := 13) hx hb dXm_lock_3 (by decide) (fun c_1 => ?_) (fun c_1 => ?_)
  · have hw := hw.1 c_1
    refine lv_aload_n hx hb dXm_lock_13 rfl (lv_at hl 0 rfl) ?_
    refine va_get (D := (dC, dI)) (ci := 5) (v := .ref (q 14)) (C := "ServiceThreadsModel") (T := TXm) (N := 28) hx hb hta inXm hown hK hP 0 (wM_0 q dA M) rfl 16 (by decide) (hta _ wt_581) (fun _ h9 => h9) rfl dXm_lock_14 ?_
    refine lv_iload_n hx hb dXm_lock_17 rfl (lv_at hl 2 rfl) ?_
    obtain ⟨h_2, hw⟩ := hw
    refine ro_i (w := (wM q dA)) (M := M) hx hb hK hP 14 13 (wM_14 q dA M) rfl h_2 dXm_lock_18 (fun y_3 ey_3 => ?_)
    have hw := hw y_3 ey_3
    refine lv_iload_n hx hb dXm_lock_19 rfl (lv_at hl 1 rfl) ?_
    refine lv_icmp_ne (tgt := 30) hx hb dXm_lock_20 (by decide) (fun c_4 => ?_) (fun c_4 => ?_)
    · have hw := hw.2 c_4
      refine lv_aload_n hx hb dXm_lock_30 rfl (lv_at hl 0 rfl) ?_
      refine lv_iload_n hx hb dXm_lock_31 rfl (lv_at hl 1 rfl) ?_
      refine lv_iload_n hx hb dXm_lock_32 rfl (lv_at hl 2 rfl) ?_
      refine cn_i (w := (wM q dA)) (M := M) (wM_ad q dA) (va_runV (As := [.int p0, .int p1]) (rest := []) ⟨hx, hb, hml, hown, hta⟩ (mtXm_hasAbove l dC dI q dA s.heap.size p0 p1 M _ hw) (cwV 2 hta (giV wt_712 wt_714 ws_27 wt_7 wt_715) rfl rfl rfl (by decide +kernel) ⟨Nat.le_of_ble_eq_true rfl, Nat.le_of_ble_eq_true rfl⟩) ⟨pW_blind, va_recv hK hP (ci := 5) (q0 := 0) rfl (wM_0 q dA M), pW_of hK hP hD⟩ rfl rfl hl.1 rfl (lv_room (Nat.le_of_ble_eq_true rfl)) dXm_lock_33 ⟨Nat.le_of_ble_eq_true rfl, Nat.le_of_ble_eq_true rfl⟩) hD hS hA (fun r_5 M_6 H locs hw hP hD hS => ?_)
      refine lv_if_eq (tgt := 46) hx hb dXm_lock_36 (by decide) (fun c_7 => ?_) (fun c_7 => ?_)
      · have hw := hw.1 c_7
        refine lv_aload_n hx hb dXm_lock_46 rfl (lv_at hl 0 rfl) ?_
        refine va_get (D := (dC, dI)) (ci := 5) (v := .ref (q 14)) (C := "ServiceThreadsModel") (T := TXm) (N := 28) hx hb hta inXm hown hK hP 0 (wM_0 q dA M_6) rfl 16 (by decide) (hta _ wt_581) (fun _ h9 => h9) rfl dXm_lock_47 ?_
        refine lv_iload_n hx hb dXm_lock_50 rfl (lv_at hl 2 rfl) ?_
        obtain ⟨h_8, hw⟩ := hw
        refine ro_i (w := (wM q dA)) (M := M_6) hx hb hK hP 14 13 (wM_14 q dA M_6) rfl h_8 dXm_lock_51 (fun y_9 ey_9 => ?_)
        have hw := hw y_9 ey_9
        refine lv_if_lt (tgt := 57) hx hb dXm_lock_52 (by decide) (fun c_10 => ?_) (fun c_10 => ?_)
        · have hw := hw.1 c_10
          refine lv_aload_n hx hb dXm_lock_57 rfl (lv_at hl 0 rfl) ?_
          refine va_get (D := (dC, dI)) (ci := 5) (v := .ref (q 14)) (C := "ServiceThreadsModel") (T := TXm) (N := 28) hx hb hta inXm hown hK hP 0 (wM_0 q dA M_6) rfl 16 (by decide) (hta _ wt_581) (fun _ h9 => h9) rfl dXm_lock_58 ?_
          refine lv_iload_n hx hb dXm_lock_61 rfl (lv_at hl 2 rfl) ?_
          refine lv_iload_n hx hb dXm_lock_62 rfl (lv_at hl 1 rfl) ?_
          obtain ⟨h_11, hw⟩ := hw
          refine wo_i (w := (wM q dA)) (M := M_6) hx hb hK hP hD hS 14 13 (wM_14 q dA M_6) (wM_s14 q dA M_6) rfl h_11 dXm_lock_63 (fun M_12 H locs eM_12 hP hD hS => ?_)
          have hw := hw M_12 eM_12
          refine lv_aload_n hx hb dXm_lock_64 rfl (lv_at hl 0 rfl) ?_
          refine lv_iload_n hx hb dXm_lock_65 rfl (lv_at hl 1 rfl) ?_
          refine cn_i (w := (wM q dA)) (M := M_12) (wM_ad q dA) (va_runV (As := [.int p0]) (rest := []) ⟨hx, hb, hml, hown, hta⟩ (mtXm_done l dC dI q dA H.size p0 M_12 _ hw) (cwV 1 hta (giV wt_716 wt_718 ws_28 wt_7 wt_719) rfl rfl rfl (by decide +kernel) ⟨Nat.le_of_ble_eq_true rfl, Nat.le_of_ble_eq_true rfl⟩) ⟨pW_blind, va_recv hK hP (ci := 5) (q0 := 0) rfl (wM_0 q dA M_12), pW_of hK hP hD⟩ rfl rfl hl.1 rfl (lv_room (Nat.le_of_ble_eq_true rfl)) dXm_lock_66 ⟨Nat.le_of_ble_eq_true rfl, Nat.le_of_ble_eq_true rfl⟩) hD hS hA (fun r_13 M_14 H locs hw hP hD hS => ?_)
          exact W.iret (v := r_13) hx hb hr (fun t ht hW => ⟨⟨r_13, M_14, rfl, hw, by rw [ht]; exact hP, va_K.moved hW.alike hK, hD⟩, hS.F ht⟩) hS.2.2 dXm_lock_69 hlocks
        · have hw := hw.2 c_10
          refine lv_iconst (v := 0) hx hb dXm_lock_55 (by decide) ?_
          exact W.iret (v := 0) hx hb hr (fun t ht hW => ⟨⟨0, M_6, rfl, hw, by rw [ht]; exact hP, va_K.moved hW.alike hK, hD⟩, hS.F ht⟩) hS.2.2 dXm_lock_56 hlocks
      · have hw := hw.2 c_7
        refine lv_aload_n hx hb dXm_lock_39 rfl (lv_at hl 0 rfl) ?_
        refine lv_iload_n hx hb dXm_lock_40 rfl (lv_at hl 1 rfl) ?_
        refine lv_iconst (v := 2) hx hb dXm_lock_41 (by decide) ?_
        refine cn_i (w := (wM q dA)) (M := M_6) (wM_ad q dA) (va_runV (As := [.int p0, .int 2]) (rest := []) ⟨hx, hb, hml, hown, hta⟩ (mtXm_fail l dC dI q dA H.size p0 2 M_6 _ hw) (cwV 2 hta (giV wt_700 wt_702 ws_24 wt_7 wt_703) rfl rfl rfl (by decide +kernel) ⟨Nat.le_of_ble_eq_true rfl, Nat.le_of_ble_eq_true rfl⟩) ⟨pW_blind, va_recv hK hP (ci := 5) (q0 := 0) rfl (wM_0 q dA M_6), pW_of hK hP hD⟩ rfl rfl hl.1 rfl (lv_room (Nat.le_of_ble_eq_true rfl)) dXm_lock_42 ⟨Nat.le_of_ble_eq_true rfl, Nat.le_of_ble_eq_true rfl⟩) hD hS hA (fun r_15 M_16 H locs hw hP hD hS => ?_)
        exact W.iret (v := r_15) hx hb hr (fun t ht hW => ⟨⟨r_15, M_16, rfl, hw, by rw [ht]; exact hP, va_K.moved hW.alike hK, hD⟩, hS.F ht⟩) hS.2.2 dXm_lock_45 hlocks
    · have hw := hw.1 c_4
      refine lv_aload_n hx hb dXm_lock_23 rfl (lv_at hl 0 rfl) ?_
      refine lv_iload_n hx hb dXm_lock_24 rfl (lv_at hl 1 rfl) ?_
      refine lv_iconst (v := 1) hx hb dXm_lock_25 (by decide) ?_
      refine cn_i (w := (wM q dA)) (M := M) (wM_ad q dA) (va_runV (As := [.int p0, .int 1]) (rest := []) ⟨hx, hb, hml, hown, hta⟩ (mtXm_fail l dC dI q dA s.heap.size p0 1 M _ hw) (cwV 2 hta (giV wt_700 wt_702 ws_24 wt_7 wt_703) rfl rfl rfl (by decide +kernel) ⟨Nat.le_of_ble_eq_true rfl, Nat.le_of_ble_eq_true rfl⟩) ⟨pW_blind, va_recv hK hP (ci := 5) (q0 := 0) rfl (wM_0 q dA M), pW_of hK hP hD⟩ rfl rfl hl.1 rfl (lv_room (Nat.le_of_ble_eq_true rfl)) dXm_lock_26 ⟨Nat.le_of_ble_eq_true rfl, Nat.le_of_ble_eq_true rfl⟩) hD hS hA (fun r_17 M_18 H locs hw hP hD hS => ?_)
      exact W.iret (v := r_17) hx hb hr (fun t ht hW => ⟨⟨r_17, M_18, rfl, hw, by rw [ht]; exact hP, va_K.moved hW.alike hK, hD⟩, hS.F ht⟩) hS.2.2 dXm_lock_29 hlocks
  · have hw := hw.2 c_1
    refine lv_aload_n hx hb dXm_lock_6 rfl (lv_at hl 0 rfl) ?_
    refine lv_iload_n hx hb dXm_lock_7 rfl (lv_at hl 1 rfl) ?_
    refine lv_iconst (v := 3) hx hb dXm_lock_8 (by decide) ?_
    refine cn_i (w := (wM q dA)) (M := M) (wM_ad q dA) (va_runV (As := [.int p0, .int 3]) (rest := []) ⟨hx, hb, hml, hown, hta⟩ (mtXm_fail l dC dI q dA s.heap.size p0 3 M _ hw) (cwV 2 hta (giV wt_700 wt_702 ws_24 wt_7 wt_703) rfl rfl rfl (by decide +kernel) ⟨Nat.le_of_ble_eq_true rfl, Nat.le_of_ble_eq_true rfl⟩) ⟨pW_blind, va_recv hK hP (ci := 5) (q0 := 0) rfl (wM_0 q dA M), pW_of hK hP hD⟩ rfl rfl hl.1 rfl (lv_room (Nat.le_of_ble_eq_true rfl)) dXm_lock_9 ⟨Nat.le_of_ble_eq_true rfl, Nat.le_of_ble_eq_true rfl⟩) hD hS hA (fun r_19 M_20 H locs hw hP hD hS => ?_)
    exact W.iret (v := r_19) hx hb hr (fun t ht hW => ⟨⟨r_19, M_20, rfl, hw, by rw [ht]; exact hP, va_K.moved hW.alike hK, hD⟩, hS.F ht⟩) hS.2.2 dXm_lock_12 hlocks
def wpXm_unlock (p0 : Int32) (p1 : Int32) (M : Mm) (post : Int32 → Mm → Prop) : Prop := ((9 < p1 → (wpXm_fail p0 3 M (fun r_2 M_3 => (post r_2 M_3)))) ∧ (¬ 9 < p1 → (vp_in p1 10 ∧ (∀ y_5 : Int32, y_5 = M 4 p1.toNatClampNeg → (((y_5 = p0 → (vp_in p1 10 ∧ (∀ M_8 : Mm, M_8 = stM M 4 (upd (M 4) p1.toNatClampNeg (-1)) → (wpXm_done p0 M_8 (fun r_9 M_10 => (post r_9 M_10)))))) ∧ (¬ y_5 = p0 → (wpXm_fail p0 3 M (fun r_11 M_12 => (post r_11 M_12))))))))))
set_option maxHeartbeats 4000000 in
set_option maxRecDepth 100000 in
theorem mtXm_unlock (l : Launch) (dC : Nat → ClassId) (dI : Nat → Nat → Nat) (q : Nat → Nat) (dA : Nat → ClassId) (sz : Nat) (p0 : Int32) (p1 : Int32) (M : Mm) (post : Int32 → Mm → Prop) (hw : wpXm_unlock p0 p1 M post) : Met l yXm_unlock (wsA yXm_unlock cXm_unlock 3 (some .int)) ({ frames := 2, cells := 0, slots := 0, locals := 44 }) (va_Pc [.ref (q 0), .int p0, .int p1] (pW (dC, dI) vwCl (wM q dA) (tM dA) sz M)) (va_Qi post (bW (dC, dI) vwCl (wM q dA) (tM dA) (va_A (wM q dA M) sz)) (va_A (wM q dA M) sz)) 0 0 (va_A (wM q dA M) sz) := by
  refine Met.ofW (cc := cXm_unlock) (maxL := 3) (ret := (some .int)) (by decide) rfl ?_
  intro p e s m args below meth c s₁ B hml hv
  obtain ⟨rfl, hsz, hP, hK, hD0⟩ := hv
  have hx := B.exec
  have hb := B.bytes
  have hr := B.returns
  have hts := atoms_spec (ws := (wsA yXm_unlock cXm_unlock 3 (some .int))) B.pre
  have hta : ∀ w ∈ wsG, w.before _ s = true := fun w h => hts w (List.mem_cons_of_mem _ h)
  have hown : s.vm.findClass "ServiceThreadsModel" = some m.cls := findClass_of_methodNamed B.named
  have hlocks := B.notSynchronized
  subst hsz
  have hD := hD0.self (sz := s.heap.size)
  generalize hAe : va_A (wM q dA M) s.heap.size = A at hD ⊢
  have hA : ∀ q : Nat, s.heap.size ≤ q → A q := fun q h => by rw [← hAe]; exact Or.inr h
  have hS : va_S A s.heap s.heap [] := va_S.rf
  dsimp only [wpXm_unlock] at hw
  have hl := lv_entry ([.ref (q 0), .int p0, .int p1]) (n := 3) (Nat.le_of_ble_eq_true rfl)
  rw [lg_entry_eq]
  generalize (lg_sl ([.ref (q 0), .int p0, .int p1]) ++ List.replicate (3 - (lg_sl ([.ref (q 0), .int p0, .int p1])).length) Slot.unset).toArray = ls at hl ⊢
  have hl : lv_has ls 3 [(0, .ref (q 0)), (1, .int p0), (2, .int p1)] := hl
  refine lv_iload_n hx hb dXm_unlock_0 rfl (lv_at hl 2 rfl) ?_
  refine lv_bipush (v := 9) hx hb dXm_unlock_1 (by decide) ?_
  refine lv_icmp_gt (tgt := 16) hx hb dXm_unlock_3 (by decide) (fun c_1 => ?_) (fun c_1 => ?_)
  · have hw := hw.1 c_1
    refine lv_aload_n hx hb dXm_unlock_16 rfl (lv_at hl 0 rfl) ?_
    refine lv_iload_n hx hb dXm_unlock_17 rfl (lv_at hl 1 rfl) ?_
    refine lv_iconst (v := 3) hx hb dXm_unlock_18 (by decide) ?_
    refine cn_i (w := (wM q dA)) (M := M) (wM_ad q dA) (va_runV (As := [.int p0, .int 3]) (rest := []) ⟨hx, hb, hml, hown, hta⟩ (mtXm_fail l dC dI q dA s.heap.size p0 3 M _ hw) (cwV 2 hta (giV wt_700 wt_702 ws_24 wt_7 wt_703) rfl rfl rfl (by decide +kernel) ⟨Nat.le_of_ble_eq_true rfl, Nat.le_of_ble_eq_true rfl⟩) ⟨pW_blind, va_recv hK hP (ci := 5) (q0 := 0) rfl (wM_0 q dA M), pW_of hK hP hD⟩ rfl rfl hl.1 rfl (lv_room (Nat.le_of_ble_eq_true rfl)) dXm_unlock_19 ⟨Nat.le_of_ble_eq_true rfl, Nat.le_of_ble_eq_true rfl⟩) hD hS hA (fun r_2 M_3 H locs hw hP hD hS => ?_)
    exact W.iret (v := r_2) hx hb hr (fun t ht hW => ⟨⟨r_2, M_3, rfl, hw, by rw [ht]; exact hP, va_K.moved hW.alike hK, hD⟩, hS.F ht⟩) hS.2.2 dXm_unlock_22 hlocks
  · have hw := hw.2 c_1
    refine lv_aload_n hx hb dXm_unlock_6 rfl (lv_at hl 0 rfl) ?_
    refine va_get (D := (dC, dI)) (ci := 5) (v := .ref (q 14)) (C := "ServiceThreadsModel") (T := TXm) (N := 28) hx hb hta inXm hown hK hP 0 (wM_0 q dA M) rfl 16 (by decide) (hta _ wt_581) (fun _ h9 => h9) rfl dXm_unlock_7 ?_
    refine lv_iload_n hx hb dXm_unlock_10 rfl (lv_at hl 2 rfl) ?_
    obtain ⟨h_4, hw⟩ := hw
    refine ro_i (w := (wM q dA)) (M := M) hx hb hK hP 14 13 (wM_14 q dA M) rfl h_4 dXm_unlock_11 (fun y_5 ey_5 => ?_)
    have hw := hw y_5 ey_5
    refine lv_iload_n hx hb dXm_unlock_12 rfl (lv_at hl 1 rfl) ?_
    refine lv_icmp_eq (tgt := 23) hx hb dXm_unlock_13 (by decide) (fun c_6 => ?_) (fun c_6 => ?_)
    · have hw := hw.1 c_6
      refine lv_aload_n hx hb dXm_unlock_23 rfl (lv_at hl 0 rfl) ?_
      refine va_get (D := (dC, dI)) (ci := 5) (v := .ref (q 14)) (C := "ServiceThreadsModel") (T := TXm) (N := 28) hx hb hta inXm hown hK hP 0 (wM_0 q dA M) rfl 16 (by decide) (hta _ wt_581) (fun _ h9 => h9) rfl dXm_unlock_24 ?_
      refine lv_iload_n hx hb dXm_unlock_27 rfl (lv_at hl 2 rfl) ?_
      refine lv_iconst (v := (-1)) hx hb dXm_unlock_28 (by decide) ?_
      obtain ⟨h_7, hw⟩ := hw
      refine wo_i (w := (wM q dA)) (M := M) hx hb hK hP hD hS 14 13 (wM_14 q dA M) (wM_s14 q dA M) rfl h_7 dXm_unlock_29 (fun M_8 H locs eM_8 hP hD hS => ?_)
      have hw := hw M_8 eM_8
      refine lv_aload_n hx hb dXm_unlock_30 rfl (lv_at hl 0 rfl) ?_
      refine lv_iload_n hx hb dXm_unlock_31 rfl (lv_at hl 1 rfl) ?_
      refine cn_i (w := (wM q dA)) (M := M_8) (wM_ad q dA) (va_runV (As := [.int p0]) (rest := []) ⟨hx, hb, hml, hown, hta⟩ (mtXm_done l dC dI q dA H.size p0 M_8 _ hw) (cwV 1 hta (giV wt_716 wt_718 ws_28 wt_7 wt_719) rfl rfl rfl (by decide +kernel) ⟨Nat.le_of_ble_eq_true rfl, Nat.le_of_ble_eq_true rfl⟩) ⟨pW_blind, va_recv hK hP (ci := 5) (q0 := 0) rfl (wM_0 q dA M_8), pW_of hK hP hD⟩ rfl rfl hl.1 rfl (lv_room (Nat.le_of_ble_eq_true rfl)) dXm_unlock_32 ⟨Nat.le_of_ble_eq_true rfl, Nat.le_of_ble_eq_true rfl⟩) hD hS hA (fun r_9 M_10 H locs hw hP hD hS => ?_)
      exact W.iret (v := r_9) hx hb hr (fun t ht hW => ⟨⟨r_9, M_10, rfl, hw, by rw [ht]; exact hP, va_K.moved hW.alike hK, hD⟩, hS.F ht⟩) hS.2.2 dXm_unlock_35 hlocks
    · have hw := hw.2 c_6
      refine lv_aload_n hx hb dXm_unlock_16 rfl (lv_at hl 0 rfl) ?_
      refine lv_iload_n hx hb dXm_unlock_17 rfl (lv_at hl 1 rfl) ?_
      refine lv_iconst (v := 3) hx hb dXm_unlock_18 (by decide) ?_
      refine cn_i (w := (wM q dA)) (M := M) (wM_ad q dA) (va_runV (As := [.int p0, .int 3]) (rest := []) ⟨hx, hb, hml, hown, hta⟩ (mtXm_fail l dC dI q dA s.heap.size p0 3 M _ hw) (cwV 2 hta (giV wt_700 wt_702 ws_24 wt_7 wt_703) rfl rfl rfl (by decide +kernel) ⟨Nat.le_of_ble_eq_true rfl, Nat.le_of_ble_eq_true rfl⟩) ⟨pW_blind, va_recv hK hP (ci := 5) (q0 := 0) rfl (wM_0 q dA M), pW_of hK hP hD⟩ rfl rfl hl.1 rfl (lv_room (Nat.le_of_ble_eq_true rfl)) dXm_unlock_19 ⟨Nat.le_of_ble_eq_true rfl, Nat.le_of_ble_eq_true rfl⟩) hD hS hA (fun r_11 M_12 H locs hw hP hD hS => ?_)
      exact W.iret (v := r_11) hx hb hr (fun t ht hW => ⟨⟨r_11, M_12, rfl, hw, by rw [ht]; exact hP, va_K.moved hW.alike hK, hD⟩, hS.F ht⟩) hS.2.2 dXm_unlock_22 hlocks
def wpXm_take (p0 : Int32) (p1 : Int32) (M : Mm) (post : Int32 → Mm → Prop) : Prop := ∀ y_1 : Int32, y_1 = M 22 0 → (((y_1 ≤ p1 → (wpXm_fail p0 6 M (fun r_3 M_4 => (post r_3 M_4)))) ∧ (¬ y_1 ≤ p1 → (vp_in p1 16 ∧ (∀ y_6 : Int32, y_6 = M 9 p1.toNatClampNeg → (((y_6 = 0 → (wpXm_fail p0 6 M (fun r_29 M_30 => (post r_29 M_30)))) ∧ (¬ y_6 = 0 → (vp_in p1 16 ∧ (∀ y_9 : Int32, y_9 = M 7 p1.toNatClampNeg → (((y_9 < 0 → (vp_in p1 16 ∧ (∀ M_12 : Mm, M_12 = stM M 7 (upd (M 7) p1.toNatClampNeg p0) → (wpXm_done p0 M_12 (fun r_13 M_14 => (post r_13 M_14)))))) ∧ (¬ y_9 < 0 → (vp_in p1 16 ∧ (∀ y_16 : Int32, y_16 = M 7 p1.toNatClampNeg → (((y_16 = p0 → (vp_in p1 16 ∧ (∀ M_19 : Mm, M_19 = stM M 7 (upd (M 7) p1.toNatClampNeg p0) → (wpXm_done p0 M_19 (fun r_20 M_21 => (post r_20 M_21)))))) ∧ (¬ y_16 = p0 → (wpXm_tell p0 0 M (fun M_23 => (vp_in p0 8 ∧ (∀ y_25 : Int32, y_25 = M_23 15 p0.toNatClampNeg → (∀ y_26 : Int32, y_26 = y_25 + 1 → (vp_in p0 8 ∧ (∀ M_28 : Mm, M_28 = stM M_23 15 (upd (M_23 15) p0.toNatClampNeg y_26) → (post 2 M_28))))))))))))))))))))))))))
set_option maxHeartbeats 4000000 in
set_option maxRecDepth 100000 in
theorem mtXm_take (l : Launch) (dC : Nat → ClassId) (dI : Nat → Nat → Nat) (q : Nat → Nat) (dA : Nat → ClassId) (sz : Nat) (p0 : Int32) (p1 : Int32) (M : Mm) (post : Int32 → Mm → Prop) (hw : wpXm_take p0 p1 M post) : Met l yXm_take (wsA yXm_take cXm_take 3 (some .int)) ({ frames := 2, cells := 0, slots := 0, locals := 44 }) (va_Pc [.ref (q 0), .int p0, .int p1] (pW (dC, dI) vwCl (wM q dA) (tM dA) sz M)) (va_Qi post (bW (dC, dI) vwCl (wM q dA) (tM dA) (va_A (wM q dA M) sz)) (va_A (wM q dA M) sz)) 0 0 (va_A (wM q dA M) sz) := by
  refine Met.ofW (cc := cXm_take) (maxL := 3) (ret := (some .int)) (by decide) rfl ?_
  intro p e s m args below meth c s₁ B hml hv
  obtain ⟨rfl, hsz, hP, hK, hD0⟩ := hv
  have hx := B.exec
  have hb := B.bytes
  have hr := B.returns
  have hts := atoms_spec (ws := (wsA yXm_take cXm_take 3 (some .int))) B.pre
  have hta : ∀ w ∈ wsG, w.before _ s = true := fun w h => hts w (List.mem_cons_of_mem _ h)
  have hown : s.vm.findClass "ServiceThreadsModel" = some m.cls := findClass_of_methodNamed B.named
  have hlocks := B.notSynchronized
  subst hsz
  have hD := hD0.self (sz := s.heap.size)
  generalize hAe : va_A (wM q dA M) s.heap.size = A at hD ⊢
  have hA : ∀ q : Nat, s.heap.size ≤ q → A q := fun q h => by rw [← hAe]; exact Or.inr h
  have hS : va_S A s.heap s.heap [] := va_S.rf
  dsimp only [wpXm_take] at hw
  have hl := lv_entry ([.ref (q 0), .int p0, .int p1]) (n := 3) (Nat.le_of_ble_eq_true rfl)
  rw [lg_entry_eq]
  generalize (lg_sl ([.ref (q 0), .int p0, .int p1]) ++ List.replicate (3 - (lg_sl ([.ref (q 0), .int p0, .int p1])).length) Slot.unset).toArray = ls at hl ⊢
  have hl : lv_has ls 3 [(0, .ref (q 0)), (1, .int p0), (2, .int p1)] := hl
  refine lv_iload_n hx hb dXm_take_0 rfl (lv_at hl 2 rfl) ?_
  refine lv_aload_n hx hb dXm_take_1 rfl (lv_at hl 0 rfl) ?_
  refine va_get (D := (dC, dI)) (ci := 5) (v := .int (M 22 0)) (C := "ServiceThreadsModel") (T := TXm) (N := 28) hx hb hta inXm hown hK hP 0 (wM_0 q dA M) rfl 18 (by decide) (hta _ wt_583) (fun _ h9 => h9) rfl dXm_take_2 ?_
  refine lv_topi (fun y_1 ey_1 => ?_)
  have hw := hw y_1 ey_1
  refine lv_icmp_ge (tgt := 17) hx hb dXm_take_5 (by decide) (fun c_2 => ?_) (fun c_2 => ?_)
  · have hw := hw.1 c_2
    refine lv_aload_n hx hb dXm_take_17 rfl (lv_at hl 0 rfl) ?_
    refine lv_iload_n hx hb dXm_take_18 rfl (lv_at hl 1 rfl) ?_
    refine lv_bipush (v := 6) hx hb dXm_take_19 (by decide) ?_
    refine cn_i (w := (wM q dA)) (M := M) (wM_ad q dA) (va_runV (As := [.int p0, .int 6]) (rest := []) ⟨hx, hb, hml, hown, hta⟩ (mtXm_fail l dC dI q dA s.heap.size p0 6 M _ hw) (cwV 2 hta (giV wt_700 wt_702 ws_24 wt_7 wt_703) rfl rfl rfl (by decide +kernel) ⟨Nat.le_of_ble_eq_true rfl, Nat.le_of_ble_eq_true rfl⟩) ⟨pW_blind, va_recv hK hP (ci := 5) (q0 := 0) rfl (wM_0 q dA M), pW_of hK hP hD⟩ rfl rfl hl.1 rfl (lv_room (Nat.le_of_ble_eq_true rfl)) dXm_take_21 ⟨Nat.le_of_ble_eq_true rfl, Nat.le_of_ble_eq_true rfl⟩) hD hS hA (fun r_3 M_4 H locs hw hP hD hS => ?_)
    exact W.iret (v := r_3) hx hb hr (fun t ht hW => ⟨⟨r_3, M_4, rfl, hw, by rw [ht]; exact hP, va_K.moved hW.alike hK, hD⟩, hS.F ht⟩) hS.2.2 dXm_take_24 hlocks
  · have hw := hw.2 c_2
    refine lv_aload_n hx hb dXm_take_8 rfl (lv_at hl 0 rfl) ?_
    refine va_get (D := (dC, dI)) (ci := 5) (v := .ref (q 19)) (C := "ServiceThreadsModel") (T := TXm) (N := 28) hx hb hta inXm hown hK hP 0 (wM_0 q dA M) rfl 22 (by decide) (hta _ wt_587) (fun _ h9 => h9) rfl dXm_take_9 ?_
    refine lv_iload_n hx hb dXm_take_12 rfl (lv_at hl 2 rfl) ?_
    obtain ⟨h_5, hw⟩ := hw
    refine ro_z (w := (wM q dA)) (M := M) hx hb hK hP 19 18 (wM_19 q dA M) rfl h_5 dXm_take_13 (fun y_6 ey_6 => ?_)
    have hw := hw y_6 ey_6
    refine lv_if_ne (tgt := 25) hx hb dXm_take_14 (by decide) (fun c_7 => ?_) (fun c_7 => ?_)
    · have hw := hw.2 c_7
      refine lv_aload_n hx hb dXm_take_25 rfl (lv_at hl 0 rfl) ?_
      refine va_get (D := (dC, dI)) (ci := 5) (v := .ref (q 17)) (C := "ServiceThreadsModel") (T := TXm) (N := 28) hx hb hta inXm hown hK hP 0 (wM_0 q dA M) rfl 20 (by decide) (hta _ wt_585) (fun _ h9 => h9) rfl dXm_take_26 ?_
      refine lv_iload_n hx hb dXm_take_29 rfl (lv_at hl 2 rfl) ?_
      obtain ⟨h_8, hw⟩ := hw
      refine ro_i (w := (wM q dA)) (M := M) hx hb hK hP 17 16 (wM_17 q dA M) rfl h_8 dXm_take_30 (fun y_9 ey_9 => ?_)
      have hw := hw y_9 ey_9
      refine lv_if_lt (tgt := 62) hx hb dXm_take_31 (by decide) (fun c_10 => ?_) (fun c_10 => ?_)
      · have hw := hw.1 c_10
        refine lv_aload_n hx hb dXm_take_62 rfl (lv_at hl 0 rfl) ?_
        refine va_get (D := (dC, dI)) (ci := 5) (v := .ref (q 17)) (C := "ServiceThreadsModel") (T := TXm) (N := 28) hx hb hta inXm hown hK hP 0 (wM_0 q dA M) rfl 20 (by decide) (hta _ wt_585) (fun _ h9 => h9) rfl dXm_take_63 ?_
        refine lv_iload_n hx hb dXm_take_66 rfl (lv_at hl 2 rfl) ?_
        refine lv_iload_n hx hb dXm_take_67 rfl (lv_at hl 1 rfl) ?_
        obtain ⟨h_11, hw⟩ := hw
        refine wo_i (w := (wM q dA)) (M := M) hx hb hK hP hD hS 17 16 (wM_17 q dA M) (wM_s17 q dA M) rfl h_11 dXm_take_68 (fun M_12 H locs eM_12 hP hD hS => ?_)
        have hw := hw M_12 eM_12
        refine lv_aload_n hx hb dXm_take_69 rfl (lv_at hl 0 rfl) ?_
        refine lv_iload_n hx hb dXm_take_70 rfl (lv_at hl 1 rfl) ?_
        refine cn_i (w := (wM q dA)) (M := M_12) (wM_ad q dA) (va_runV (As := [.int p0]) (rest := []) ⟨hx, hb, hml, hown, hta⟩ (mtXm_done l dC dI q dA H.size p0 M_12 _ hw) (cwV 1 hta (giV wt_716 wt_718 ws_28 wt_7 wt_719) rfl rfl rfl (by decide +kernel) ⟨Nat.le_of_ble_eq_true rfl, Nat.le_of_ble_eq_true rfl⟩) ⟨pW_blind, va_recv hK hP (ci := 5) (q0 := 0) rfl (wM_0 q dA M_12), pW_of hK hP hD⟩ rfl rfl hl.1 rfl (lv_room (Nat.le_of_ble_eq_true rfl)) dXm_take_71 ⟨Nat.le_of_ble_eq_true rfl, Nat.le_of_ble_eq_true rfl⟩) hD hS hA (fun r_13 M_14 H locs hw hP hD hS => ?_)
        exact W.iret (v := r_13) hx hb hr (fun t ht hW => ⟨⟨r_13, M_14, rfl, hw, by rw [ht]; exact hP, va_K.moved hW.alike hK, hD⟩, hS.F ht⟩) hS.2.2 dXm_take_74 hlocks
      · have hw := hw.2 c_10
        refine lv_aload_n hx hb dXm_take_34 rfl (lv_at hl 0 rfl) ?_
        refine va_get (D := (dC, dI)) (ci := 5) (v := .ref (q 17)) (C := "ServiceThreadsModel") (T := TXm) (N := 28) hx hb hta inXm hown hK hP 0 (wM_0 q dA M) rfl 20 (by decide) (hta _ wt_585) (fun _ h9 => h9) rfl dXm_take_35 ?_
        refine lv_iload_n hx hb dXm_take_38 rfl (lv_at hl 2 rfl) ?_
        obtain ⟨h_15, hw⟩ := hw
        refine ro_i (w := (wM q dA)) (M := M) hx hb hK hP 17 16 (wM_17 q dA M) rfl h_15 dXm_take_39 (fun y_16 ey_16 => ?_)
        have hw := hw y_16 ey_16
        refine lv_iload_n hx hb dXm_take_40 rfl (lv_at hl 1 rfl) ?_
        refine lv_icmp_eq (tgt := 62) hx hb dXm_take_41 (by decide) (fun c_17 => ?_) (fun c_17 => ?_)
        · have hw := hw.1 c_17
          refine lv_aload_n hx hb dXm_take_62 rfl (lv_at hl 0 rfl) ?_
          refine va_get (D := (dC, dI)) (ci := 5) (v := .ref (q 17)) (C := "ServiceThreadsModel") (T := TXm) (N := 28) hx hb hta inXm hown hK hP 0 (wM_0 q dA M) rfl 20 (by decide) (hta _ wt_585) (fun _ h9 => h9) rfl dXm_take_63 ?_
          refine lv_iload_n hx hb dXm_take_66 rfl (lv_at hl 2 rfl) ?_
          refine lv_iload_n hx hb dXm_take_67 rfl (lv_at hl 1 rfl) ?_
          obtain ⟨h_18, hw⟩ := hw
          refine wo_i (w := (wM q dA)) (M := M) hx hb hK hP hD hS 17 16 (wM_17 q dA M) (wM_s17 q dA M) rfl h_18 dXm_take_68 (fun M_19 H locs eM_19 hP hD hS => ?_)
          have hw := hw M_19 eM_19
          refine lv_aload_n hx hb dXm_take_69 rfl (lv_at hl 0 rfl) ?_
          refine lv_iload_n hx hb dXm_take_70 rfl (lv_at hl 1 rfl) ?_
          refine cn_i (w := (wM q dA)) (M := M_19) (wM_ad q dA) (va_runV (As := [.int p0]) (rest := []) ⟨hx, hb, hml, hown, hta⟩ (mtXm_done l dC dI q dA H.size p0 M_19 _ hw) (cwV 1 hta (giV wt_716 wt_718 ws_28 wt_7 wt_719) rfl rfl rfl (by decide +kernel) ⟨Nat.le_of_ble_eq_true rfl, Nat.le_of_ble_eq_true rfl⟩) ⟨pW_blind, va_recv hK hP (ci := 5) (q0 := 0) rfl (wM_0 q dA M_19), pW_of hK hP hD⟩ rfl rfl hl.1 rfl (lv_room (Nat.le_of_ble_eq_true rfl)) dXm_take_71 ⟨Nat.le_of_ble_eq_true rfl, Nat.le_of_ble_eq_true rfl⟩) hD hS hA (fun r_20 M_21 H locs hw hP hD hS => ?_)
          exact W.iret (v := r_20) hx hb hr (fun t ht hW => ⟨⟨r_20, M_21, rfl, hw, by rw [ht]; exact hP, va_K.moved hW.alike hK, hD⟩, hS.F ht⟩) hS.2.2 dXm_take_74 hlocks
        · have hw := hw.2 c_17
          refine lv_aload_n hx hb dXm_take_44 rfl (lv_at hl 0 rfl) ?_
          refine lv_iload_n hx hb dXm_take_45 rfl (lv_at hl 1 rfl) ?_
          refine lv_iconst (v := 0) hx hb dXm_take_46 (by decide) ?_
          refine cn_v (w := (wM q dA)) (M := M) (wM_ad q dA) (va_runV (As := [.int p0, .int 0]) (rest := []) ⟨hx, hb, hml, hown, hta⟩ (mtXm_tell l dC dI q dA s.heap.size p0 0 M _ hw) (cwV 2 hta (giV wt_704 wt_706 ws_25 wt_7 wt_707) rfl rfl rfl (by decide +kernel) ⟨Nat.le_of_ble_eq_true rfl, Nat.le_of_ble_eq_true rfl⟩) ⟨pW_blind, va_recv hK hP (ci := 5) (q0 := 0) rfl (wM_0 q dA M), pW_of hK hP hD⟩ rfl rfl hl.1 rfl (lv_room (Nat.le_of_ble_eq_true rfl)) dXm_take_47 ⟨Nat.le_of_ble_eq_true rfl, Nat.le_of_ble_eq_true rfl⟩) hD hS hA (fun M_23 H locs hw hP hD hS => ?_)
          refine lv_aload_n hx hb dXm_take_50 rfl (lv_at hl 0 rfl) ?_
          refine va_get (D := (dC, dI)) (ci := 5) (v := .ref (q 6)) (C := "ServiceThreadsModel") (T := TXm) (N := 28) hx hb hta inXm hown hK hP 0 (wM_0 q dA M_23) rfl 8 (by decide) (hta _ wt_573) (fun _ h9 => h9) rfl dXm_take_51 ?_
          refine lv_iload_n hx hb dXm_take_54 rfl (lv_at hl 1 rfl) ?_
          refine lv_dup2_11 hx hb dXm_take_55 rfl rfl ?_
          obtain ⟨h_24, hw⟩ := hw
          refine ro_i (w := (wM q dA)) (M := M_23) hx hb hK hP 6 5 (wM_6 q dA M_23) rfl h_24 dXm_take_56 (fun y_25 ey_25 => ?_)
          have hw := hw y_25 ey_25
          refine lv_iconst (v := 1) hx hb dXm_take_57 (by decide) ?_
          refine lv_iadd hx hb dXm_take_58 ?_
          refine lv_topi (fun y_26 ey_26 => ?_)
          have hw := hw y_26 ey_26
          obtain ⟨h_27, hw⟩ := hw
          refine wo_i (w := (wM q dA)) (M := M_23) hx hb hK hP hD hS 6 5 (wM_6 q dA M_23) (wM_s6 q dA M_23) rfl h_27 dXm_take_59 (fun M_28 H locs eM_28 hP hD hS => ?_)
          have hw := hw M_28 eM_28
          refine lv_iconst (v := 2) hx hb dXm_take_60 (by decide) ?_
          exact W.iret (v := 2) hx hb hr (fun t ht hW => ⟨⟨2, M_28, rfl, hw, by rw [ht]; exact hP, va_K.moved hW.alike hK, hD⟩, hS.F ht⟩) hS.2.2 dXm_take_61 hlocks
    · have hw := hw.1 c_7
      refine lv_aload_n hx hb dXm_take_17 rfl (lv_at hl 0 rfl) ?_
      refine lv_iload_n hx hb dXm_take_18 rfl (lv_at hl 1 rfl) ?_
      refine lv_bipush (v := 6) hx hb dXm_take_19 (by decide) ?_
      refine cn_i (w := (wM q dA)) (M := M) (wM_ad q dA) (va_runV (As := [.int p0, .int 6]) (rest := []) ⟨hx, hb, hml, hown, hta⟩ (mtXm_fail l dC dI q dA s.heap.size p0 6 M _ hw) (cwV 2 hta (giV wt_700 wt_702 ws_24 wt_7 wt_703) rfl rfl rfl (by decide +kernel) ⟨Nat.le_of_ble_eq_true rfl, Nat.le_of_ble_eq_true rfl⟩) ⟨pW_blind, va_recv hK hP (ci := 5) (q0 := 0) rfl (wM_0 q dA M), pW_of hK hP hD⟩ rfl rfl hl.1 rfl (lv_room (Nat.le_of_ble_eq_true rfl)) dXm_take_21 ⟨Nat.le_of_ble_eq_true rfl, Nat.le_of_ble_eq_true rfl⟩) hD hS hA (fun r_29 M_30 H locs hw hP hD hS => ?_)
      exact W.iret (v := r_29) hx hb hr (fun t ht hW => ⟨⟨r_29, M_30, rfl, hw, by rw [ht]; exact hP, va_K.moved hW.alike hK, hD⟩, hS.F ht⟩) hS.2.2 dXm_take_24 hlocks
def wpXm_isOwn (p0 : Int32) (p1 : Int32) (M : Mm) (post : Int32 → Mm → Prop) : Prop := ∀ y_1 : Int32, y_1 = M 22 0 → (((y_1 ≤ p1 → (post 0 M)) ∧ (¬ y_1 ≤ p1 → (vp_in p1 16 ∧ (∀ y_4 : Int32, y_4 = M 9 p1.toNatClampNeg → (((y_4 = 0 → (post 0 M)) ∧ (¬ y_4 = 0 → (vp_in p1 16 ∧ (∀ y_7 : Int32, y_7 = M 7 p1.toNatClampNeg → (((y_7 = p0 → (post 1 M)) ∧ (¬ y_7 = p0 → (post 0 M))))))))))))))
set_option maxHeartbeats 4000000 in
set_option maxRecDepth 100000 in
theorem mtXm_isOwn (l : Launch) (dC : Nat → ClassId) (dI : Nat → Nat → Nat) (q : Nat → Nat) (dA : Nat → ClassId) (sz : Nat) (p0 : Int32) (p1 : Int32) (M : Mm) (post : Int32 → Mm → Prop) (hw : wpXm_isOwn p0 p1 M post) : Met l yXm_isOwn (wsA yXm_isOwn cXm_isOwn 3 (some .boolean)) ({ frames := 0, cells := 0, slots := 0, locals := 0 }) (va_Pc [.ref (q 0), .int p0, .int p1] (pW (dC, dI) vwCl (wM q dA) (tM dA) sz M)) (va_Qi post (bW (dC, dI) vwCl (wM q dA) (tM dA) (va_A (wM q dA M) sz)) (va_A (wM q dA M) sz)) 0 0 (va_A (wM q dA M) sz) := by
  refine Met.ofW (cc := cXm_isOwn) (maxL := 3) (ret := (some .boolean)) (by decide) rfl ?_
  intro p e s m args below meth c s₁ B hml hv
  obtain ⟨rfl, hsz, hP, hK, hD0⟩ := hv
  have hx := B.exec
  have hb := B.bytes
  have hr := B.returns
  have hts := atoms_spec (ws := (wsA yXm_isOwn cXm_isOwn 3 (some .boolean))) B.pre
  have hta : ∀ w ∈ wsG, w.before _ s = true := fun w h => hts w (List.mem_cons_of_mem _ h)
  have hown : s.vm.findClass "ServiceThreadsModel" = some m.cls := findClass_of_methodNamed B.named
  have hlocks := B.notSynchronized
  subst hsz
  have hD := hD0.self (sz := s.heap.size)
  generalize hAe : va_A (wM q dA M) s.heap.size = A at hD ⊢
  have hA : ∀ q : Nat, s.heap.size ≤ q → A q := fun q h => by rw [← hAe]; exact Or.inr h
  have hS : va_S A s.heap s.heap [] := va_S.rf
  dsimp only [wpXm_isOwn] at hw
  have hl := lv_entry ([.ref (q 0), .int p0, .int p1]) (n := 3) (Nat.le_of_ble_eq_true rfl)
  rw [lg_entry_eq]
  generalize (lg_sl ([.ref (q 0), .int p0, .int p1]) ++ List.replicate (3 - (lg_sl ([.ref (q 0), .int p0, .int p1])).length) Slot.unset).toArray = ls at hl ⊢
  have hl : lv_has ls 3 [(0, .ref (q 0)), (1, .int p0), (2, .int p1)] := hl
  refine lv_iload_n hx hb dXm_isOwn_0 rfl (lv_at hl 2 rfl) ?_
  refine lv_aload_n hx hb dXm_isOwn_1 rfl (lv_at hl 0 rfl) ?_
  refine va_get (D := (dC, dI)) (ci := 5) (v := .int (M 22 0)) (C := "ServiceThreadsModel") (T := TXm) (N := 28) hx hb hta inXm hown hK hP 0 (wM_0 q dA M) rfl 18 (by decide) (hta _ wt_583) (fun _ h9 => h9) rfl dXm_isOwn_2 ?_
  refine lv_topi (fun y_1 ey_1 => ?_)
  have hw := hw y_1 ey_1
  refine lv_icmp_ge (tgt := 31) hx hb dXm_isOwn_5 (by decide) (fun c_2 => ?_) (fun c_2 => ?_)
  · have hw := hw.1 c_2
    refine lv_iconst (v := 0) hx hb dXm_isOwn_31 (by decide) ?_
    exact W.zret (v := 0) hx hb hr (by decide) (fun t ht hW => ⟨⟨0, M, rfl, hw, by rw [ht]; exact hP, va_K.moved hW.alike hK, hD⟩, hS.F ht⟩) hS.2.2 dXm_isOwn_32 hlocks
  · have hw := hw.2 c_2
    refine lv_aload_n hx hb dXm_isOwn_8 rfl (lv_at hl 0 rfl) ?_
    refine va_get (D := (dC, dI)) (ci := 5) (v := .ref (q 19)) (C := "ServiceThreadsModel") (T := TXm) (N := 28) hx hb hta inXm hown hK hP 0 (wM_0 q dA M) rfl 22 (by decide) (hta _ wt_587) (fun _ h9 => h9) rfl dXm_isOwn_9 ?_
    refine lv_iload_n hx hb dXm_isOwn_12 rfl (lv_at hl 2 rfl) ?_
    obtain ⟨h_3, hw⟩ := hw
    refine ro_z (w := (wM q dA)) (M := M) hx hb hK hP 19 18 (wM_19 q dA M) rfl h_3 dXm_isOwn_13 (fun y_4 ey_4 => ?_)
    have hw := hw y_4 ey_4
    refine lv_if_eq (tgt := 31) hx hb dXm_isOwn_14 (by decide) (fun c_5 => ?_) (fun c_5 => ?_)
    · have hw := hw.1 c_5
      refine lv_iconst (v := 0) hx hb dXm_isOwn_31 (by decide) ?_
      exact W.zret (v := 0) hx hb hr (by decide) (fun t ht hW => ⟨⟨0, M, rfl, hw, by rw [ht]; exact hP, va_K.moved hW.alike hK, hD⟩, hS.F ht⟩) hS.2.2 dXm_isOwn_32 hlocks
    · have hw := hw.2 c_5
      refine lv_aload_n hx hb dXm_isOwn_17 rfl (lv_at hl 0 rfl) ?_
      refine va_get (D := (dC, dI)) (ci := 5) (v := .ref (q 17)) (C := "ServiceThreadsModel") (T := TXm) (N := 28) hx hb hta inXm hown hK hP 0 (wM_0 q dA M) rfl 20 (by decide) (hta _ wt_585) (fun _ h9 => h9) rfl dXm_isOwn_18 ?_
      refine lv_iload_n hx hb dXm_isOwn_21 rfl (lv_at hl 2 rfl) ?_
      obtain ⟨h_6, hw⟩ := hw
      refine ro_i (w := (wM q dA)) (M := M) hx hb hK hP 17 16 (wM_17 q dA M) rfl h_6 dXm_isOwn_22 (fun y_7 ey_7 => ?_)
      have hw := hw y_7 ey_7
      refine lv_iload_n hx hb dXm_isOwn_23 rfl (lv_at hl 1 rfl) ?_
      refine lv_icmp_ne (tgt := 31) hx hb dXm_isOwn_24 (by decide) (fun c_8 => ?_) (fun c_8 => ?_)
      · have hw := hw.2 c_8
        refine lv_iconst (v := 0) hx hb dXm_isOwn_31 (by decide) ?_
        exact W.zret (v := 0) hx hb hr (by decide) (fun t ht hW => ⟨⟨0, M, rfl, hw, by rw [ht]; exact hP, va_K.moved hW.alike hK, hD⟩, hS.F ht⟩) hS.2.2 dXm_isOwn_32 hlocks
      · have hw := hw.1 c_8
        refine lv_iconst (v := 1) hx hb dXm_isOwn_27 (by decide) ?_
        refine lv_goto (tgt := 32) hx hb dXm_isOwn_28 (by decide) ?_
        exact W.zret (v := 1) hx hb hr (by decide) (fun t ht hW => ⟨⟨1, M, rfl, hw, by rw [ht]; exact hP, va_K.moved hW.alike hK, hD⟩, hS.F ht⟩) hS.2.2 dXm_isOwn_32 hlocks
def wpXm_send (p0 : Int32) (p1 : Int32) (p2 : Int32) (M : Mm) (post : Int32 → Mm → Prop) : Prop := ((9 < p1 → (wpXm_fail p0 4 M (fun r_3 M_4 => (post r_3 M_4)))) ∧ (¬ 9 < p1 → (wpXm_isOwn p0 p2 M (fun r_5 M_6 => (((r_5 = 0 → (wpXm_fail p0 4 M_6 (fun r_9 M_10 => (post r_9 M_10)))) ∧ (¬ r_5 = 0 → (vp_in p1 10 ∧ (∀ y_13 : Int32, y_13 = M_6 4 p1.toNatClampNeg → (((y_13 = p0 → (vp_in p1 10 ∧ (∀ y_18 : Int32, y_18 = M_6 5 p1.toNatClampNeg → (((0 ≤ y_18 → (wpXm_fail p0 4 M_6 (fun r_20 M_21 => (post r_20 M_21)))) ∧ (¬ 0 ≤ y_18 → (vp_in p2 16 ∧ (∀ y_23 : Int32, y_23 = M_6 8 p2.toNatClampNeg → (((y_23 < 0 → (vp_in p1 10 ∧ (∀ M_26 : Mm, M_26 = stM M_6 5 (upd (M_6 5) p1.toNatClampNeg p2) → (vp_in p2 16 ∧ (∀ M_28 : Mm, M_28 = stM M_26 8 (upd (M_26 8) p2.toNatClampNeg p1) → (wpXm_done p0 M_28 (fun r_29 M_30 => (post r_29 M_30)))))))) ∧ (¬ y_23 < 0 → (wpXm_fail p0 4 M_6 (fun r_31 M_32 => (post r_31 M_32)))))))))))))) ∧ (¬ y_13 = p0 → (wpXm_fail p0 4 M_6 (fun r_15 M_16 => (post r_15 M_16)))))))))))))))
set_option maxHeartbeats 4000000 in
set_option maxRecDepth 100000 in
theorem mtXm_send (l : Launch) (dC : Nat → ClassId) (dI : Nat → Nat → Nat) (q : Nat → Nat) (dA : Nat → ClassId) (sz : Nat) (p0 : Int32) (p1 : Int32) (p2 : Int32) (M : Mm) (post : Int32 → Mm → Prop) (hw : wpXm_send p0 p1 p2 M post) : Met l yXm_send (wsA yXm_send cXm_send 5 (some .int)) ({ frames := 2, cells := 0, slots := 0, locals := 44 }) (va_Pc [.ref (q 0), .int p0, .int p1, .int p2] (pW (dC, dI) vwCl (wM q dA) (tM dA) sz M)) (va_Qi post (bW (dC, dI) vwCl (wM q dA) (tM dA) (va_A (wM q dA M) sz)) (va_A (wM q dA M) sz)) 0 0 (va_A (wM q dA M) sz) := by
  refine Met.ofW (cc := cXm_send) (maxL := 5) (ret := (some .int)) (by decide) rfl ?_
  intro p e s m args below meth c s₁ B hml hv
  obtain ⟨rfl, hsz, hP, hK, hD0⟩ := hv
  have hx := B.exec
  have hb := B.bytes
  have hr := B.returns
  have hts := atoms_spec (ws := (wsA yXm_send cXm_send 5 (some .int))) B.pre
  have hta : ∀ w ∈ wsG, w.before _ s = true := fun w h => hts w (List.mem_cons_of_mem _ h)
  have hown : s.vm.findClass "ServiceThreadsModel" = some m.cls := findClass_of_methodNamed B.named
  have hlocks := B.notSynchronized
  subst hsz
  have hD := hD0.self (sz := s.heap.size)
  generalize hAe : va_A (wM q dA M) s.heap.size = A at hD ⊢
  have hA : ∀ q : Nat, s.heap.size ≤ q → A q := fun q h => by rw [← hAe]; exact Or.inr h
  have hS : va_S A s.heap s.heap [] := va_S.rf
  dsimp only [wpXm_send] at hw
  have hl := lv_entry ([.ref (q 0), .int p0, .int p1, .int p2]) (n := 5) (Nat.le_of_ble_eq_true rfl)
  rw [lg_entry_eq]
  generalize (lg_sl ([.ref (q 0), .int p0, .int p1, .int p2]) ++ List.replicate (5 - (lg_sl ([.ref (q 0), .int p0, .int p1, .int p2])).length) Slot.unset).toArray = ls at hl ⊢
  have hl : lv_has ls 5 [(0, .ref (q 0)), (1, .int p0), (2, .int p1), (3, .int p2)] := hl
  refine lv_iload_n hx hb dXm_send_0 rfl (lv_at hl 2 rfl) ?_
  refine lv_bipush (v := 9) hx hb dXm_send_1 (by decide) ?_
  refine lv_icmp_gt (tgt := 19) hx hb dXm_send_3 (by decide) (fun c_1 => ?_) (fun c_1 => ?_)
  · have hw := hw.1 c_1
    refine lv_iconst (v := 0) hx hb dXm_send_19 (by decide) ?_
    refine lv_istore (lv' := [(4, .int 0), (0, .ref (q 0)), (1, .int p0), (2, .int p1), (3, .int p2)]) hx hb dXm_send_20 hl (by decide) rfl (fun ls hl => ?_)
    refine lv_iload hx hb dXm_send_22 (lv_at hl 0 rfl) ?_
    refine lv_if_eq (tgt := 55) hx hb dXm_send_24 (by decide) (fun c_2 => ?_) (fun c_2 => absurd c_2 (by decide))
    · skip
      refine lv_aload_n hx hb dXm_send_55 rfl (lv_at hl 1 rfl) ?_
      refine lv_iload_n hx hb dXm_send_56 rfl (lv_at hl 2 rfl) ?_
      refine lv_iconst (v := 4) hx hb dXm_send_57 (by decide) ?_
      refine cn_i (w := (wM q dA)) (M := M) (wM_ad q dA) (va_runV (As := [.int p0, .int 4]) (rest := []) ⟨hx, hb, hml, hown, hta⟩ (mtXm_fail l dC dI q dA s.heap.size p0 4 M _ hw) (cwV 2 hta (giV wt_700 wt_702 ws_24 wt_7 wt_703) rfl rfl rfl (by decide +kernel) ⟨Nat.le_of_ble_eq_true rfl, Nat.le_of_ble_eq_true rfl⟩) ⟨pW_blind, va_recv hK hP (ci := 5) (q0 := 0) rfl (wM_0 q dA M), pW_of hK hP hD⟩ rfl rfl hl.1 rfl (lv_room (Nat.le_of_ble_eq_true rfl)) dXm_send_58 ⟨Nat.le_of_ble_eq_true rfl, Nat.le_of_ble_eq_true rfl⟩) hD hS hA (fun r_3 M_4 H locs hw hP hD hS => ?_)
      exact W.iret (v := r_3) hx hb hr (fun t ht hW => ⟨⟨r_3, M_4, rfl, hw, by rw [ht]; exact hP, va_K.moved hW.alike hK, hD⟩, hS.F ht⟩) hS.2.2 dXm_send_61 hlocks
  · have hw := hw.2 c_1
    refine lv_aload_n hx hb dXm_send_6 rfl (lv_at hl 0 rfl) ?_
    refine lv_iload_n hx hb dXm_send_7 rfl (lv_at hl 1 rfl) ?_
    refine lv_iload_n hx hb dXm_send_8 rfl (lv_at hl 3 rfl) ?_
    refine cn_i (w := (wM q dA)) (M := M) (wM_ad q dA) (va_runV (As := [.int p0, .int p2]) (rest := []) ⟨hx, hb, hml, hown, hta⟩ (mtXm_isOwn l dC dI q dA s.heap.size p0 p2 M _ hw) (cwV 2 hta (giV wt_732 wt_734 ws_32 wt_7 wt_735) rfl rfl rfl (by decide +kernel) ⟨Nat.le_of_ble_eq_true rfl, Nat.le_of_ble_eq_true rfl⟩) ⟨pW_blind, va_recv hK hP (ci := 5) (q0 := 0) rfl (wM_0 q dA M), pW_of hK hP hD⟩ rfl rfl hl.1 rfl (lv_room (Nat.le_of_ble_eq_true rfl)) dXm_send_9 ⟨Nat.le_of_ble_eq_true rfl, Nat.le_of_ble_eq_true rfl⟩) hD hS hA (fun r_5 M_6 H locs hw hP hD hS => ?_)
    refine lv_if_eq (tgt := 19) hx hb dXm_send_12 (by decide) (fun c_7 => ?_) (fun c_7 => ?_)
    · have hw := hw.1 c_7
      refine lv_iconst (v := 0) hx hb dXm_send_19 (by decide) ?_
      refine lv_istore (lv' := [(4, .int 0), (0, .ref (q 0)), (1, .int p0), (2, .int p1), (3, .int p2)]) hx hb dXm_send_20 hl (by decide) rfl (fun ls hl => ?_)
      refine lv_iload hx hb dXm_send_22 (lv_at hl 0 rfl) ?_
      refine lv_if_eq (tgt := 55) hx hb dXm_send_24 (by decide) (fun c_8 => ?_) (fun c_8 => absurd c_8 (by decide))
      · skip
        refine lv_aload_n hx hb dXm_send_55 rfl (lv_at hl 1 rfl) ?_
        refine lv_iload_n hx hb dXm_send_56 rfl (lv_at hl 2 rfl) ?_
        refine lv_iconst (v := 4) hx hb dXm_send_57 (by decide) ?_
        refine cn_i (w := (wM q dA)) (M := M_6) (wM_ad q dA) (va_runV (As := [.int p0, .int 4]) (rest := []) ⟨hx, hb, hml, hown, hta⟩ (mtXm_fail l dC dI q dA H.size p0 4 M_6 _ hw) (cwV 2 hta (giV wt_700 wt_702 ws_24 wt_7 wt_703) rfl rfl rfl (by decide +kernel) ⟨Nat.le_of_ble_eq_true rfl, Nat.le_of_ble_eq_true rfl⟩) ⟨pW_blind, va_recv hK hP (ci := 5) (q0 := 0) rfl (wM_0 q dA M_6), pW_of hK hP hD⟩ rfl rfl hl.1 rfl (lv_room (Nat.le_of_ble_eq_true rfl)) dXm_send_58 ⟨Nat.le_of_ble_eq_true rfl, Nat.le_of_ble_eq_true rfl⟩) hD hS hA (fun r_9 M_10 H locs hw hP hD hS => ?_)
        exact W.iret (v := r_9) hx hb hr (fun t ht hW => ⟨⟨r_9, M_10, rfl, hw, by rw [ht]; exact hP, va_K.moved hW.alike hK, hD⟩, hS.F ht⟩) hS.2.2 dXm_send_61 hlocks
    · have hw := hw.2 c_7
      refine lv_iconst (v := 1) hx hb dXm_send_15 (by decide) ?_
      refine lv_goto (tgt := 20) hx hb dXm_send_16 (by decide) ?_
      refine lv_istore (lv' := [(4, .int 1), (0, .ref (q 0)), (1, .int p0), (2, .int p1), (3, .int p2)]) hx hb dXm_send_20 hl (by decide) rfl (fun ls hl => ?_)
      refine lv_iload hx hb dXm_send_22 (lv_at hl 0 rfl) ?_
      refine lv_if_eq (tgt := 55) hx hb dXm_send_24 (by decide) (fun c_11 => absurd c_11 (by decide)) (fun c_11 => ?_)
      · skip
        refine lv_aload_n hx hb dXm_send_27 rfl (lv_at hl 1 rfl) ?_
        refine va_get (D := (dC, dI)) (ci := 5) (v := .ref (q 14)) (C := "ServiceThreadsModel") (T := TXm) (N := 28) hx hb hta inXm hown hK hP 0 (wM_0 q dA M_6) rfl 16 (by decide) (hta _ wt_581) (fun _ h9 => h9) rfl dXm_send_28 ?_
        refine lv_iload_n hx hb dXm_send_31 rfl (lv_at hl 3 rfl) ?_
        obtain ⟨h_12, hw⟩ := hw
        refine ro_i (w := (wM q dA)) (M := M_6) hx hb hK hP 14 13 (wM_14 q dA M_6) rfl h_12 dXm_send_32 (fun y_13 ey_13 => ?_)
        have hw := hw y_13 ey_13
        refine lv_iload_n hx hb dXm_send_33 rfl (lv_at hl 2 rfl) ?_
        refine lv_icmp_ne (tgt := 55) hx hb dXm_send_34 (by decide) (fun c_14 => ?_) (fun c_14 => ?_)
        · have hw := hw.2 c_14
          refine lv_aload_n hx hb dXm_send_55 rfl (lv_at hl 1 rfl) ?_
          refine lv_iload_n hx hb dXm_send_56 rfl (lv_at hl 2 rfl) ?_
          refine lv_iconst (v := 4) hx hb dXm_send_57 (by decide) ?_
          refine cn_i (w := (wM q dA)) (M := M_6) (wM_ad q dA) (va_runV (As := [.int p0, .int 4]) (rest := []) ⟨hx, hb, hml, hown, hta⟩ (mtXm_fail l dC dI q dA H.size p0 4 M_6 _ hw) (cwV 2 hta (giV wt_700 wt_702 ws_24 wt_7 wt_703) rfl rfl rfl (by decide +kernel) ⟨Nat.le_of_ble_eq_true rfl, Nat.le_of_ble_eq_true rfl⟩) ⟨pW_blind, va_recv hK hP (ci := 5) (q0 := 0) rfl (wM_0 q dA M_6), pW_of hK hP hD⟩ rfl rfl hl.1 rfl (lv_room (Nat.le_of_ble_eq_true rfl)) dXm_send_58 ⟨Nat.le_of_ble_eq_true rfl, Nat.le_of_ble_eq_true rfl⟩) hD hS hA (fun r_15 M_16 H locs hw hP hD hS => ?_)
          exact W.iret (v := r_15) hx hb hr (fun t ht hW => ⟨⟨r_15, M_16, rfl, hw, by rw [ht]; exact hP, va_K.moved hW.alike hK, hD⟩, hS.F ht⟩) hS.2.2 dXm_send_61 hlocks
        · have hw := hw.1 c_14
          refine lv_aload_n hx hb dXm_send_37 rfl (lv_at hl 1 rfl) ?_
          refine va_get (D := (dC, dI)) (ci := 5) (v := .ref (q 15)) (C := "ServiceThreadsModel") (T := TXm) (N := 28) hx hb hta inXm hown hK hP 0 (wM_0 q dA M_6) rfl 17 (by decide) (hta _ wt_582) (fun _ h9 => h9) rfl dXm_send_38 ?_
          refine lv_iload_n hx hb dXm_send_41 rfl (lv_at hl 3 rfl) ?_
          obtain ⟨h_17, hw⟩ := hw
          refine ro_i (w := (wM q dA)) (M := M_6) hx hb hK hP 15 14 (wM_15 q dA M_6) rfl h_17 dXm_send_42 (fun y_18 ey_18 => ?_)
          have hw := hw y_18 ey_18
          refine lv_if_ge (tgt := 55) hx hb dXm_send_43 (by decide) (fun c_19 => ?_) (fun c_19 => ?_)
          · have hw := hw.1 c_19
            refine lv_aload_n hx hb dXm_send_55 rfl (lv_at hl 1 rfl) ?_
            refine lv_iload_n hx hb dXm_send_56 rfl (lv_at hl 2 rfl) ?_
            refine lv_iconst (v := 4) hx hb dXm_send_57 (by decide) ?_
            refine cn_i (w := (wM q dA)) (M := M_6) (wM_ad q dA) (va_runV (As := [.int p0, .int 4]) (rest := []) ⟨hx, hb, hml, hown, hta⟩ (mtXm_fail l dC dI q dA H.size p0 4 M_6 _ hw) (cwV 2 hta (giV wt_700 wt_702 ws_24 wt_7 wt_703) rfl rfl rfl (by decide +kernel) ⟨Nat.le_of_ble_eq_true rfl, Nat.le_of_ble_eq_true rfl⟩) ⟨pW_blind, va_recv hK hP (ci := 5) (q0 := 0) rfl (wM_0 q dA M_6), pW_of hK hP hD⟩ rfl rfl hl.1 rfl (lv_room (Nat.le_of_ble_eq_true rfl)) dXm_send_58 ⟨Nat.le_of_ble_eq_true rfl, Nat.le_of_ble_eq_true rfl⟩) hD hS hA (fun r_20 M_21 H locs hw hP hD hS => ?_)
            exact W.iret (v := r_20) hx hb hr (fun t ht hW => ⟨⟨r_20, M_21, rfl, hw, by rw [ht]; exact hP, va_K.moved hW.alike hK, hD⟩, hS.F ht⟩) hS.2.2 dXm_send_61 hlocks
          · have hw := hw.2 c_19
            refine lv_aload_n hx hb dXm_send_46 rfl (lv_at hl 1 rfl) ?_
            refine va_get (D := (dC, dI)) (ci := 5) (v := .ref (q 18)) (C := "ServiceThreadsModel") (T := TXm) (N := 28) hx hb hta inXm hown hK hP 0 (wM_0 q dA M_6) rfl 21 (by decide) (hta _ wt_586) (fun _ h9 => h9) rfl dXm_send_47 ?_
            refine lv_iload_n hx hb dXm_send_50 rfl (lv_at hl 4 rfl) ?_
            obtain ⟨h_22, hw⟩ := hw
            refine ro_i (w := (wM q dA)) (M := M_6) hx hb hK hP 18 17 (wM_18 q dA M_6) rfl h_22 dXm_send_51 (fun y_23 ey_23 => ?_)
            have hw := hw y_23 ey_23
            refine lv_if_lt (tgt := 62) hx hb dXm_send_52 (by decide) (fun c_24 => ?_) (fun c_24 => ?_)
            · have hw := hw.1 c_24
              refine lv_aload_n hx hb dXm_send_62 rfl (lv_at hl 1 rfl) ?_
              refine va_get (D := (dC, dI)) (ci := 5) (v := .ref (q 15)) (C := "ServiceThreadsModel") (T := TXm) (N := 28) hx hb hta inXm hown hK hP 0 (wM_0 q dA M_6) rfl 17 (by decide) (hta _ wt_582) (fun _ h9 => h9) rfl dXm_send_63 ?_
              refine lv_iload_n hx hb dXm_send_66 rfl (lv_at hl 3 rfl) ?_
              refine lv_iload_n hx hb dXm_send_67 rfl (lv_at hl 4 rfl) ?_
              obtain ⟨h_25, hw⟩ := hw
              refine wo_i (w := (wM q dA)) (M := M_6) hx hb hK hP hD hS 15 14 (wM_15 q dA M_6) (wM_s15 q dA M_6) rfl h_25 dXm_send_68 (fun M_26 H locs eM_26 hP hD hS => ?_)
              have hw := hw M_26 eM_26
              refine lv_aload_n hx hb dXm_send_69 rfl (lv_at hl 1 rfl) ?_
              refine va_get (D := (dC, dI)) (ci := 5) (v := .ref (q 18)) (C := "ServiceThreadsModel") (T := TXm) (N := 28) hx hb hta inXm hown hK hP 0 (wM_0 q dA M_26) rfl 21 (by decide) (hta _ wt_586) (fun _ h9 => h9) rfl dXm_send_70 ?_
              refine lv_iload_n hx hb dXm_send_73 rfl (lv_at hl 4 rfl) ?_
              refine lv_iload_n hx hb dXm_send_74 rfl (lv_at hl 3 rfl) ?_
              obtain ⟨h_27, hw⟩ := hw
              refine wo_i (w := (wM q dA)) (M := M_26) hx hb hK hP hD hS 18 17 (wM_18 q dA M_26) (wM_s18 q dA M_26) rfl h_27 dXm_send_75 (fun M_28 H locs eM_28 hP hD hS => ?_)
              have hw := hw M_28 eM_28
              refine lv_aload_n hx hb dXm_send_76 rfl (lv_at hl 1 rfl) ?_
              refine lv_iload_n hx hb dXm_send_77 rfl (lv_at hl 2 rfl) ?_
              refine cn_i (w := (wM q dA)) (M := M_28) (wM_ad q dA) (va_runV (As := [.int p0]) (rest := []) ⟨hx, hb, hml, hown, hta⟩ (mtXm_done l dC dI q dA H.size p0 M_28 _ hw) (cwV 1 hta (giV wt_716 wt_718 ws_28 wt_7 wt_719) rfl rfl rfl (by decide +kernel) ⟨Nat.le_of_ble_eq_true rfl, Nat.le_of_ble_eq_true rfl⟩) ⟨pW_blind, va_recv hK hP (ci := 5) (q0 := 0) rfl (wM_0 q dA M_28), pW_of hK hP hD⟩ rfl rfl hl.1 rfl (lv_room (Nat.le_of_ble_eq_true rfl)) dXm_send_78 ⟨Nat.le_of_ble_eq_true rfl, Nat.le_of_ble_eq_true rfl⟩) hD hS hA (fun r_29 M_30 H locs hw hP hD hS => ?_)
              exact W.iret (v := r_29) hx hb hr (fun t ht hW => ⟨⟨r_29, M_30, rfl, hw, by rw [ht]; exact hP, va_K.moved hW.alike hK, hD⟩, hS.F ht⟩) hS.2.2 dXm_send_81 hlocks
            · have hw := hw.2 c_24
              refine lv_aload_n hx hb dXm_send_55 rfl (lv_at hl 1 rfl) ?_
              refine lv_iload_n hx hb dXm_send_56 rfl (lv_at hl 2 rfl) ?_
              refine lv_iconst (v := 4) hx hb dXm_send_57 (by decide) ?_
              refine cn_i (w := (wM q dA)) (M := M_6) (wM_ad q dA) (va_runV (As := [.int p0, .int 4]) (rest := []) ⟨hx, hb, hml, hown, hta⟩ (mtXm_fail l dC dI q dA H.size p0 4 M_6 _ hw) (cwV 2 hta (giV wt_700 wt_702 ws_24 wt_7 wt_703) rfl rfl rfl (by decide +kernel) ⟨Nat.le_of_ble_eq_true rfl, Nat.le_of_ble_eq_true rfl⟩) ⟨pW_blind, va_recv hK hP (ci := 5) (q0 := 0) rfl (wM_0 q dA M_6), pW_of hK hP hD⟩ rfl rfl hl.1 rfl (lv_room (Nat.le_of_ble_eq_true rfl)) dXm_send_58 ⟨Nat.le_of_ble_eq_true rfl, Nat.le_of_ble_eq_true rfl⟩) hD hS hA (fun r_31 M_32 H locs hw hP hD hS => ?_)
              exact W.iret (v := r_31) hx hb hr (fun t ht hW => ⟨⟨r_31, M_32, rfl, hw, by rw [ht]; exact hP, va_K.moved hW.alike hK, hD⟩, hS.F ht⟩) hS.2.2 dXm_send_61 hlocks
def wpXm_shut (p0 : Int32) (p1 : Int32) (M : Mm) (post : Int32 → Mm → Prop) : Prop := wpXm_isOwn p0 p1 M (fun r_1 M_2 => (((r_1 = 0 → (wpXm_fail p0 4 M_2 (fun r_21 M_22 => (post r_21 M_22)))) ∧ (¬ r_1 = 0 → (vp_in p1 16 ∧ (∀ M_5 : Mm, M_5 = stM M_2 9 (upd (M_2 9) p1.toNatClampNeg 0) → (vp_in p1 16 ∧ (∀ y_7 : Int32, y_7 = M_5 8 p1.toNatClampNeg → (((y_7 < 0 → (vp_in p1 16 ∧ (∀ M_10 : Mm, M_10 = stM M_5 8 (upd (M_5 8) p1.toNatClampNeg (-1)) → (wpXm_done p0 M_10 (fun r_11 M_12 => (post r_11 M_12)))))) ∧ (¬ y_7 < 0 → (vp_in p1 16 ∧ (∀ y_14 : Int32, y_14 = M_5 8 p1.toNatClampNeg → (vp_in y_14 10 ∧ (∀ M_16 : Mm, M_16 = stM M_5 5 (upd (M_5 5) y_14.toNatClampNeg (-1)) → (vp_in p1 16 ∧ (∀ M_18 : Mm, M_18 = stM M_16 8 (upd (M_16 8) p1.toNatClampNeg (-1)) → (wpXm_done p0 M_18 (fun r_19 M_20 => (post r_19 M_20))))))))))))))))))))
set_option maxHeartbeats 4000000 in
set_option maxRecDepth 100000 in
theorem mtXm_shut (l : Launch) (dC : Nat → ClassId) (dI : Nat → Nat → Nat) (q : Nat → Nat) (dA : Nat → ClassId) (sz : Nat) (p0 : Int32) (p1 : Int32) (M : Mm) (post : Int32 → Mm → Prop) (hw : wpXm_shut p0 p1 M post) : Met l yXm_shut (wsA yXm_shut cXm_shut 3 (some .int)) ({ frames := 2, cells := 0, slots := 0, locals := 44 }) (va_Pc [.ref (q 0), .int p0, .int p1] (pW (dC, dI) vwCl (wM q dA) (tM dA) sz M)) (va_Qi post (bW (dC, dI) vwCl (wM q dA) (tM dA) (va_A (wM q dA M) sz)) (va_A (wM q dA M) sz)) 0 0 (va_A (wM q dA M) sz) := by
  refine Met.ofW (cc := cXm_shut) (maxL := 3) (ret := (some .int)) (by decide) rfl ?_
  intro p e s m args below meth c s₁ B hml hv
  obtain ⟨rfl, hsz, hP, hK, hD0⟩ := hv
  have hx := B.exec
  have hb := B.bytes
  have hr := B.returns
  have hts := atoms_spec (ws := (wsA yXm_shut cXm_shut 3 (some .int))) B.pre
  have hta : ∀ w ∈ wsG, w.before _ s = true := fun w h => hts w (List.mem_cons_of_mem _ h)
  have hown : s.vm.findClass "ServiceThreadsModel" = some m.cls := findClass_of_methodNamed B.named
  have hlocks := B.notSynchronized
  subst hsz
  have hD := hD0.self (sz := s.heap.size)
  generalize hAe : va_A (wM q dA M) s.heap.size = A at hD ⊢
  have hA : ∀ q : Nat, s.heap.size ≤ q → A q := fun q h => by rw [← hAe]; exact Or.inr h
  have hS : va_S A s.heap s.heap [] := va_S.rf
  dsimp only [wpXm_shut] at hw
  have hl := lv_entry ([.ref (q 0), .int p0, .int p1]) (n := 3) (Nat.le_of_ble_eq_true rfl)
  rw [lg_entry_eq]
  generalize (lg_sl ([.ref (q 0), .int p0, .int p1]) ++ List.replicate (3 - (lg_sl ([.ref (q 0), .int p0, .int p1])).length) Slot.unset).toArray = ls at hl ⊢
  have hl : lv_has ls 3 [(0, .ref (q 0)), (1, .int p0), (2, .int p1)] := hl
  refine lv_aload_n hx hb dXm_shut_0 rfl (lv_at hl 0 rfl) ?_
  refine lv_iload_n hx hb dXm_shut_1 rfl (lv_at hl 1 rfl) ?_
  refine lv_iload_n hx hb dXm_shut_2 rfl (lv_at hl 2 rfl) ?_
  refine cn_i (w := (wM q dA)) (M := M) (wM_ad q dA) (va_runV (As := [.int p0, .int p1]) (rest := []) ⟨hx, hb, hml, hown, hta⟩ (mtXm_isOwn l dC dI q dA s.heap.size p0 p1 M _ hw) (cwV 2 hta (giV wt_732 wt_734 ws_32 wt_7 wt_735) rfl rfl rfl (by decide +kernel) ⟨Nat.le_of_ble_eq_true rfl, Nat.le_of_ble_eq_true rfl⟩) ⟨pW_blind, va_recv hK hP (ci := 5) (q0 := 0) rfl (wM_0 q dA M), pW_of hK hP hD⟩ rfl rfl hl.1 rfl (lv_room (Nat.le_of_ble_eq_true rfl)) dXm_shut_3 ⟨Nat.le_of_ble_eq_true rfl, Nat.le_of_ble_eq_true rfl⟩) hD hS hA (fun r_1 M_2 H locs hw hP hD hS => ?_)
  refine lv_if_ne (tgt := 16) hx hb dXm_shut_6 (by decide) (fun c_3 => ?_) (fun c_3 => ?_)
  · have hw := hw.2 c_3
    refine lv_aload_n hx hb dXm_shut_16 rfl (lv_at hl 0 rfl) ?_
    refine va_get (D := (dC, dI)) (ci := 5) (v := .ref (q 19)) (C := "ServiceThreadsModel") (T := TXm) (N := 28) hx hb hta inXm hown hK hP 0 (wM_0 q dA M_2) rfl 22 (by decide) (hta _ wt_587) (fun _ h9 => h9) rfl dXm_shut_17 ?_
    refine lv_iload_n hx hb dXm_shut_20 rfl (lv_at hl 2 rfl) ?_
    refine lv_iconst (v := 0) hx hb dXm_shut_21 (by decide) ?_
    obtain ⟨h_4, hw⟩ := hw
    refine wo_z (w := (wM q dA)) (M := M_2) hx hb hK hP hD hS 19 18 (wM_19 q dA M_2) (wM_s19 q dA M_2) rfl (by decide) h_4 dXm_shut_22 (fun M_5 H locs eM_5 hP hD hS => ?_)
    have hw := hw M_5 eM_5
    refine lv_aload_n hx hb dXm_shut_23 rfl (lv_at hl 0 rfl) ?_
    refine va_get (D := (dC, dI)) (ci := 5) (v := .ref (q 18)) (C := "ServiceThreadsModel") (T := TXm) (N := 28) hx hb hta inXm hown hK hP 0 (wM_0 q dA M_5) rfl 21 (by decide) (hta _ wt_586) (fun _ h9 => h9) rfl dXm_shut_24 ?_
    refine lv_iload_n hx hb dXm_shut_27 rfl (lv_at hl 2 rfl) ?_
    obtain ⟨h_6, hw⟩ := hw
    refine ro_i (w := (wM q dA)) (M := M_5) hx hb hK hP 18 17 (wM_18 q dA M_5) rfl h_6 dXm_shut_28 (fun y_7 ey_7 => ?_)
    have hw := hw y_7 ey_7
    refine lv_if_lt (tgt := 44) hx hb dXm_shut_29 (by decide) (fun c_8 => ?_) (fun c_8 => ?_)
    · have hw := hw.1 c_8
      refine lv_aload_n hx hb dXm_shut_44 rfl (lv_at hl 0 rfl) ?_
      refine va_get (D := (dC, dI)) (ci := 5) (v := .ref (q 18)) (C := "ServiceThreadsModel") (T := TXm) (N := 28) hx hb hta inXm hown hK hP 0 (wM_0 q dA M_5) rfl 21 (by decide) (hta _ wt_586) (fun _ h9 => h9) rfl dXm_shut_45 ?_
      refine lv_iload_n hx hb dXm_shut_48 rfl (lv_at hl 2 rfl) ?_
      refine lv_iconst (v := (-1)) hx hb dXm_shut_49 (by decide) ?_
      obtain ⟨h_9, hw⟩ := hw
      refine wo_i (w := (wM q dA)) (M := M_5) hx hb hK hP hD hS 18 17 (wM_18 q dA M_5) (wM_s18 q dA M_5) rfl h_9 dXm_shut_50 (fun M_10 H locs eM_10 hP hD hS => ?_)
      have hw := hw M_10 eM_10
      refine lv_aload_n hx hb dXm_shut_51 rfl (lv_at hl 0 rfl) ?_
      refine lv_iload_n hx hb dXm_shut_52 rfl (lv_at hl 1 rfl) ?_
      refine cn_i (w := (wM q dA)) (M := M_10) (wM_ad q dA) (va_runV (As := [.int p0]) (rest := []) ⟨hx, hb, hml, hown, hta⟩ (mtXm_done l dC dI q dA H.size p0 M_10 _ hw) (cwV 1 hta (giV wt_716 wt_718 ws_28 wt_7 wt_719) rfl rfl rfl (by decide +kernel) ⟨Nat.le_of_ble_eq_true rfl, Nat.le_of_ble_eq_true rfl⟩) ⟨pW_blind, va_recv hK hP (ci := 5) (q0 := 0) rfl (wM_0 q dA M_10), pW_of hK hP hD⟩ rfl rfl hl.1 rfl (lv_room (Nat.le_of_ble_eq_true rfl)) dXm_shut_53 ⟨Nat.le_of_ble_eq_true rfl, Nat.le_of_ble_eq_true rfl⟩) hD hS hA (fun r_11 M_12 H locs hw hP hD hS => ?_)
      exact W.iret (v := r_11) hx hb hr (fun t ht hW => ⟨⟨r_11, M_12, rfl, hw, by rw [ht]; exact hP, va_K.moved hW.alike hK, hD⟩, hS.F ht⟩) hS.2.2 dXm_shut_56 hlocks
    · have hw := hw.2 c_8
      refine lv_aload_n hx hb dXm_shut_32 rfl (lv_at hl 0 rfl) ?_
      refine va_get (D := (dC, dI)) (ci := 5) (v := .ref (q 15)) (C := "ServiceThreadsModel") (T := TXm) (N := 28) hx hb hta inXm hown hK hP 0 (wM_0 q dA M_5) rfl 17 (by decide) (hta _ wt_582) (fun _ h9 => h9) rfl dXm_shut_33 ?_
      refine lv_aload_n hx hb dXm_shut_36 rfl (lv_at hl 0 rfl) ?_
      refine va_get (D := (dC, dI)) (ci := 5) (v := .ref (q 18)) (C := "ServiceThreadsModel") (T := TXm) (N := 28) hx hb hta inXm hown hK hP 0 (wM_0 q dA M_5) rfl 21 (by decide) (hta _ wt_586) (fun _ h9 => h9) rfl dXm_shut_37 ?_
      refine lv_iload_n hx hb dXm_shut_40 rfl (lv_at hl 2 rfl) ?_
      obtain ⟨h_13, hw⟩ := hw
      refine ro_i (w := (wM q dA)) (M := M_5) hx hb hK hP 18 17 (wM_18 q dA M_5) rfl h_13 dXm_shut_41 (fun y_14 ey_14 => ?_)
      have hw := hw y_14 ey_14
      refine lv_iconst (v := (-1)) hx hb dXm_shut_42 (by decide) ?_
      obtain ⟨h_15, hw⟩ := hw
      refine wo_i (w := (wM q dA)) (M := M_5) hx hb hK hP hD hS 15 14 (wM_15 q dA M_5) (wM_s15 q dA M_5) rfl h_15 dXm_shut_43 (fun M_16 H locs eM_16 hP hD hS => ?_)
      have hw := hw M_16 eM_16
      refine lv_aload_n hx hb dXm_shut_44 rfl (lv_at hl 0 rfl) ?_
      refine va_get (D := (dC, dI)) (ci := 5) (v := .ref (q 18)) (C := "ServiceThreadsModel") (T := TXm) (N := 28) hx hb hta inXm hown hK hP 0 (wM_0 q dA M_16) rfl 21 (by decide) (hta _ wt_586) (fun _ h9 => h9) rfl dXm_shut_45 ?_
      refine lv_iload_n hx hb dXm_shut_48 rfl (lv_at hl 2 rfl) ?_
      refine lv_iconst (v := (-1)) hx hb dXm_shut_49 (by decide) ?_
      obtain ⟨h_17, hw⟩ := hw
      refine wo_i (w := (wM q dA)) (M := M_16) hx hb hK hP hD hS 18 17 (wM_18 q dA M_16) (wM_s18 q dA M_16) rfl h_17 dXm_shut_50 (fun M_18 H locs eM_18 hP hD hS => ?_)
      have hw := hw M_18 eM_18
      refine lv_aload_n hx hb dXm_shut_51 rfl (lv_at hl 0 rfl) ?_
      refine lv_iload_n hx hb dXm_shut_52 rfl (lv_at hl 1 rfl) ?_
      refine cn_i (w := (wM q dA)) (M := M_18) (wM_ad q dA) (va_runV (As := [.int p0]) (rest := []) ⟨hx, hb, hml, hown, hta⟩ (mtXm_done l dC dI q dA H.size p0 M_18 _ hw) (cwV 1 hta (giV wt_716 wt_718 ws_28 wt_7 wt_719) rfl rfl rfl (by decide +kernel) ⟨Nat.le_of_ble_eq_true rfl, Nat.le_of_ble_eq_true rfl⟩) ⟨pW_blind, va_recv hK hP (ci := 5) (q0 := 0) rfl (wM_0 q dA M_18), pW_of hK hP hD⟩ rfl rfl hl.1 rfl (lv_room (Nat.le_of_ble_eq_true rfl)) dXm_shut_53 ⟨Nat.le_of_ble_eq_true rfl, Nat.le_of_ble_eq_true rfl⟩) hD hS hA (fun r_19 M_20 H locs hw hP hD hS => ?_)
      exact W.iret (v := r_19) hx hb hr (fun t ht hW => ⟨⟨r_19, M_20, rfl, hw, by rw [ht]; exact hP, va_K.moved hW.alike hK, hD⟩, hS.F ht⟩) hS.2.2 dXm_shut_56 hlocks
  · have hw := hw.1 c_3
    refine lv_aload_n hx hb dXm_shut_9 rfl (lv_at hl 0 rfl) ?_
    refine lv_iload_n hx hb dXm_shut_10 rfl (lv_at hl 1 rfl) ?_
    refine lv_iconst (v := 4) hx hb dXm_shut_11 (by decide) ?_
    refine cn_i (w := (wM q dA)) (M := M_2) (wM_ad q dA) (va_runV (As := [.int p0, .int 4]) (rest := []) ⟨hx, hb, hml, hown, hta⟩ (mtXm_fail l dC dI q dA H.size p0 4 M_2 _ hw) (cwV 2 hta (giV wt_700 wt_702 ws_24 wt_7 wt_703) rfl rfl rfl (by decide +kernel) ⟨Nat.le_of_ble_eq_true rfl, Nat.le_of_ble_eq_true rfl⟩) ⟨pW_blind, va_recv hK hP (ci := 5) (q0 := 0) rfl (wM_0 q dA M_2), pW_of hK hP hD⟩ rfl rfl hl.1 rfl (lv_room (Nat.le_of_ble_eq_true rfl)) dXm_shut_12 ⟨Nat.le_of_ble_eq_true rfl, Nat.le_of_ble_eq_true rfl⟩) hD hS hA (fun r_21 M_22 H locs hw hP hD hS => ?_)
    exact W.iret (v := r_21) hx hb hr (fun t ht hW => ⟨⟨r_21, M_22, rfl, hw, by rw [ht]; exact hP, va_K.moved hW.alike hK, hD⟩, hS.F ht⟩) hS.2.2 dXm_shut_15 hlocks
def wpXm_rest (p0 : Int32) (p1 : Int32) (M : Mm) (post : Int32 → Mm → Prop) : Prop := ((p1 = 0 → (wpXm_done p0 M (fun r_66 M_67 => (post r_66 M_67)))) ∧ (¬ p1 = 0 → (vp_in p0 8 ∧ (∀ y_3 : Int32, y_3 = M 27 p0.toNatClampNeg → (((y_3 = 0 → (vp_in p0 8 ∧ (∀ y_6 : Int32, y_6 = M 18 p0.toNatClampNeg → (vp_in p0 8 ∧ (∀ y_8 : Int32, y_8 = M 20 p0.toNatClampNeg → (((y_8 = 0 → (∀ y_10 : Int32, y_10 = y_6 + 0 → (vp_in p0 8 ∧ (∀ M_12 : Mm, M_12 = stM M 18 (upd (M 18) p0.toNatClampNeg y_10) → (vp_in p0 8 ∧ (∀ M_14 : Mm, M_14 = stM M_12 27 (upd (M_12 27) p0.toNatClampNeg 1) → (vp_in p0 8 ∧ (∀ M_16 : Mm, M_16 = stM M_14 20 (upd (M_14 20) p0.toNatClampNeg 0) → (vp_in p0 8 ∧ (∀ M_18 : Mm, M_18 = stM M_16 17 (upd (M_16 17) p0.toNatClampNeg p1) → (post 5 M_18))))))))))) ∧ (¬ y_8 = 0 → (∀ y_19 : Int32, y_19 = y_6 + 1 → (vp_in p0 8 ∧ (∀ M_21 : Mm, M_21 = stM M 18 (upd (M 18) p0.toNatClampNeg y_19) → (vp_in p0 8 ∧ (∀ M_23 : Mm, M_23 = stM M_21 27 (upd (M_21 27) p0.toNatClampNeg 1) → (vp_in p0 8 ∧ (∀ M_25 : Mm, M_25 = stM M_23 20 (upd (M_23 20) p0.toNatClampNeg 0) → (vp_in p0 8 ∧ (∀ M_27 : Mm, M_27 = stM M_25 17 (upd (M_25 17) p0.toNatClampNeg p1) → (post 5 M_27)))))))))))))))))) ∧ (¬ y_3 = 0 → (vp_in p0 8 ∧ (∀ y_29 : Int32, y_29 = M 20 p0.toNatClampNeg → (((y_29 = 0 → (vp_in p0 8 ∧ (∀ y_32 : Int32, y_32 = M 17 p0.toNatClampNeg → (∀ y_33 : Int32, y_33 = y_32 - 1 → (vp_in p0 8 ∧ (∀ M_35 : Mm, M_35 = stM M 17 (upd (M 17) p0.toNatClampNeg y_33) → (vp_in p0 8 ∧ (∀ y_37 : Int32, y_37 = M_35 17 p0.toNatClampNeg → (((y_37 ≤ 0 → (vp_in p0 8 ∧ (∀ M_40 : Mm, M_40 = stM M_35 27 (upd (M_35 27) p0.toNatClampNeg 0) → (wpXm_done p0 M_40 (fun r_41 M_42 => (post r_41 M_42)))))) ∧ (¬ y_37 ≤ 0 → (post 5 M_35)))))))))))) ∧ (¬ y_29 = 0 → (vp_in p0 8 ∧ (∀ y_44 : Int32, y_44 = M 18 p0.toNatClampNeg → (vp_in p0 8 ∧ (∀ y_46 : Int32, y_46 = M 20 p0.toNatClampNeg → (((y_46 = 0 → (∀ y_48 : Int32, y_48 = y_44 + 0 → (vp_in p0 8 ∧ (∀ M_50 : Mm, M_50 = stM M 18 (upd (M 18) p0.toNatClampNeg y_48) → (vp_in p0 8 ∧ (∀ M_52 : Mm, M_52 = stM M_50 27 (upd (M_50 27) p0.toNatClampNeg 1) → (vp_in p0 8 ∧ (∀ M_54 : Mm, M_54 = stM M_52 20 (upd (M_52 20) p0.toNatClampNeg 0) → (vp_in p0 8 ∧ (∀ M_56 : Mm, M_56 = stM M_54 17 (upd (M_54 17) p0.toNatClampNeg p1) → (post 5 M_56))))))))))) ∧ (¬ y_46 = 0 → (∀ y_57 : Int32, y_57 = y_44 + 1 → (vp_in p0 8 ∧ (∀ M_59 : Mm, M_59 = stM M 18 (upd (M 18) p0.toNatClampNeg y_57) → (vp_in p0 8 ∧ (∀ M_61 : Mm, M_61 = stM M_59 27 (upd (M_59 27) p0.toNatClampNeg 1) → (vp_in p0 8 ∧ (∀ M_63 : Mm, M_63 = stM M_61 20 (upd (M_61 20) p0.toNatClampNeg 0) → (vp_in p0 8 ∧ (∀ M_65 : Mm, M_65 = stM M_63 17 (upd (M_63 17) p0.toNatClampNeg p1) → (post 5 M_65)))))))))))))))))))))))))))))
set_option maxHeartbeats 4000000 in
set_option maxRecDepth 100000 in
theorem mtXm_rest (l : Launch) (dC : Nat → ClassId) (dI : Nat → Nat → Nat) (q : Nat → Nat) (dA : Nat → ClassId) (sz : Nat) (p0 : Int32) (p1 : Int32) (M : Mm) (post : Int32 → Mm → Prop) (hw : wpXm_rest p0 p1 M post) : Met l yXm_rest (wsA yXm_rest cXm_rest 3 (some .int)) ({ frames := 1, cells := 0, slots := 0, locals := 21 }) (va_Pc [.ref (q 0), .int p0, .int p1] (pW (dC, dI) vwCl (wM q dA) (tM dA) sz M)) (va_Qi post (bW (dC, dI) vwCl (wM q dA) (tM dA) (va_A (wM q dA M) sz)) (va_A (wM q dA M) sz)) 0 0 (va_A (wM q dA M) sz) := by
  refine Met.ofW (cc := cXm_rest) (maxL := 3) (ret := (some .int)) (by decide) rfl ?_
  intro p e s m args below meth c s₁ B hml hv
  obtain ⟨rfl, hsz, hP, hK, hD0⟩ := hv
  have hx := B.exec
  have hb := B.bytes
  have hr := B.returns
  have hts := atoms_spec (ws := (wsA yXm_rest cXm_rest 3 (some .int))) B.pre
  have hta : ∀ w ∈ wsG, w.before _ s = true := fun w h => hts w (List.mem_cons_of_mem _ h)
  have hown : s.vm.findClass "ServiceThreadsModel" = some m.cls := findClass_of_methodNamed B.named
  have hlocks := B.notSynchronized
  subst hsz
  have hD := hD0.self (sz := s.heap.size)
  generalize hAe : va_A (wM q dA M) s.heap.size = A at hD ⊢
  have hA : ∀ q : Nat, s.heap.size ≤ q → A q := fun q h => by rw [← hAe]; exact Or.inr h
  have hS : va_S A s.heap s.heap [] := va_S.rf
  dsimp only [wpXm_rest] at hw
  have hl := lv_entry ([.ref (q 0), .int p0, .int p1]) (n := 3) (Nat.le_of_ble_eq_true rfl)
  rw [lg_entry_eq]
  generalize (lg_sl ([.ref (q 0), .int p0, .int p1]) ++ List.replicate (3 - (lg_sl ([.ref (q 0), .int p0, .int p1])).length) Slot.unset).toArray = ls at hl ⊢
  have hl : lv_has ls 3 [(0, .ref (q 0)), (1, .int p0), (2, .int p1)] := hl
  refine lv_iload_n hx hb dXm_rest_0 rfl (lv_at hl 2 rfl) ?_
  refine lv_if_ne (tgt := 10) hx hb dXm_rest_1 (by decide) (fun c_1 => ?_) (fun c_1 => ?_)
  · have hw := hw.2 c_1
    refine lv_aload_n hx hb dXm_rest_10 rfl (lv_at hl 0 rfl) ?_
    refine va_get (D := (dC, dI)) (ci := 5) (v := .ref (q 12)) (C := "ServiceThreadsModel") (T := TXm) (N := 28) hx hb hta inXm hown hK hP 0 (wM_0 q dA M) rfl 14 (by decide) (hta _ wt_579) (fun _ h9 => h9) rfl dXm_rest_11 ?_
    refine lv_iload_n hx hb dXm_rest_14 rfl (lv_at hl 1 rfl) ?_
    obtain ⟨h_2, hw⟩ := hw
    refine ro_z (w := (wM q dA)) (M := M) hx hb hK hP 12 11 (wM_12 q dA M) rfl h_2 dXm_rest_15 (fun y_3 ey_3 => ?_)
    have hw := hw y_3 ey_3
    refine lv_if_eq (tgt := 28) hx hb dXm_rest_16 (by decide) (fun c_4 => ?_) (fun c_4 => ?_)
    · have hw := hw.1 c_4
      refine lv_aload_n hx hb dXm_rest_28 rfl (lv_at hl 0 rfl) ?_
      refine va_get (D := (dC, dI)) (ci := 5) (v := .ref (q 10)) (C := "ServiceThreadsModel") (T := TXm) (N := 28) hx hb hta inXm hown hK hP 0 (wM_0 q dA M) rfl 12 (by decide) (hta _ wt_577) (fun _ h9 => h9) rfl dXm_rest_29 ?_
      refine lv_iload_n hx hb dXm_rest_32 rfl (lv_at hl 1 rfl) ?_
      refine lv_dup2_11 hx hb dXm_rest_33 rfl rfl ?_
      obtain ⟨h_5, hw⟩ := hw
      refine ro_i (w := (wM q dA)) (M := M) hx hb hK hP 10 9 (wM_10 q dA M) rfl h_5 dXm_rest_34 (fun y_6 ey_6 => ?_)
      have hw := hw y_6 ey_6
      refine lv_aload_n hx hb dXm_rest_35 rfl (lv_at hl 0 rfl) ?_
      refine va_get (D := (dC, dI)) (ci := 5) (v := .ref (q 13)) (C := "ServiceThreadsModel") (T := TXm) (N := 28) hx hb hta inXm hown hK hP 0 (wM_0 q dA M) rfl 15 (by decide) (hta _ wt_580) (fun _ h9 => h9) rfl dXm_rest_36 ?_
      refine lv_iload_n hx hb dXm_rest_39 rfl (lv_at hl 1 rfl) ?_
      obtain ⟨h_7, hw⟩ := hw
      refine ro_z (w := (wM q dA)) (M := M) hx hb hK hP 13 12 (wM_13 q dA M) rfl h_7 dXm_rest_40 (fun y_8 ey_8 => ?_)
      have hw := hw y_8 ey_8
      refine lv_if_eq (tgt := 48) hx hb dXm_rest_41 (by decide) (fun c_9 => ?_) (fun c_9 => ?_)
      · have hw := hw.1 c_9
        refine lv_iconst (v := 0) hx hb dXm_rest_48 (by decide) ?_
        refine lv_iadd hx hb dXm_rest_49 ?_
        refine lv_topi (fun y_10 ey_10 => ?_)
        have hw := hw y_10 ey_10
        obtain ⟨h_11, hw⟩ := hw
        refine wo_i (w := (wM q dA)) (M := M) hx hb hK hP hD hS 10 9 (wM_10 q dA M) (wM_s10 q dA M) rfl h_11 dXm_rest_50 (fun M_12 H locs eM_12 hP hD hS => ?_)
        have hw := hw M_12 eM_12
        refine lv_aload_n hx hb dXm_rest_51 rfl (lv_at hl 0 rfl) ?_
        refine va_get (D := (dC, dI)) (ci := 5) (v := .ref (q 12)) (C := "ServiceThreadsModel") (T := TXm) (N := 28) hx hb hta inXm hown hK hP 0 (wM_0 q dA M_12) rfl 14 (by decide) (hta _ wt_579) (fun _ h9 => h9) rfl dXm_rest_52 ?_
        refine lv_iload_n hx hb dXm_rest_55 rfl (lv_at hl 1 rfl) ?_
        refine lv_iconst (v := 1) hx hb dXm_rest_56 (by decide) ?_
        obtain ⟨h_13, hw⟩ := hw
        refine wo_z (w := (wM q dA)) (M := M_12) hx hb hK hP hD hS 12 11 (wM_12 q dA M_12) (wM_s12 q dA M_12) rfl (by decide) h_13 dXm_rest_57 (fun M_14 H locs eM_14 hP hD hS => ?_)
        have hw := hw M_14 eM_14
        refine lv_aload_n hx hb dXm_rest_58 rfl (lv_at hl 0 rfl) ?_
        refine va_get (D := (dC, dI)) (ci := 5) (v := .ref (q 13)) (C := "ServiceThreadsModel") (T := TXm) (N := 28) hx hb hta inXm hown hK hP 0 (wM_0 q dA M_14) rfl 15 (by decide) (hta _ wt_580) (fun _ h9 => h9) rfl dXm_rest_59 ?_
        refine lv_iload_n hx hb dXm_rest_62 rfl (lv_at hl 1 rfl) ?_
        refine lv_iconst (v := 0) hx hb dXm_rest_63 (by decide) ?_
        obtain ⟨h_15, hw⟩ := hw
        refine wo_z (w := (wM q dA)) (M := M_14) hx hb hK hP hD hS 13 12 (wM_13 q dA M_14) (wM_s13 q dA M_14) rfl (by decide) h_15 dXm_rest_64 (fun M_16 H locs eM_16 hP hD hS => ?_)
        have hw := hw M_16 eM_16
        refine lv_aload_n hx hb dXm_rest_65 rfl (lv_at hl 0 rfl) ?_
        refine va_get (D := (dC, dI)) (ci := 5) (v := .ref (q 9)) (C := "ServiceThreadsModel") (T := TXm) (N := 28) hx hb hta inXm hown hK hP 0 (wM_0 q dA M_16) rfl 11 (by decide) (hta _ wt_576) (fun _ h9 => h9) rfl dXm_rest_66 ?_
        refine lv_iload_n hx hb dXm_rest_69 rfl (lv_at hl 1 rfl) ?_
        refine lv_iload_n hx hb dXm_rest_70 rfl (lv_at hl 2 rfl) ?_
        obtain ⟨h_17, hw⟩ := hw
        refine wo_i (w := (wM q dA)) (M := M_16) hx hb hK hP hD hS 9 8 (wM_9 q dA M_16) (wM_s9 q dA M_16) rfl h_17 dXm_rest_71 (fun M_18 H locs eM_18 hP hD hS => ?_)
        have hw := hw M_18 eM_18
        refine lv_iconst (v := 5) hx hb dXm_rest_72 (by decide) ?_
        exact W.iret (v := 5) hx hb hr (fun t ht hW => ⟨⟨5, M_18, rfl, hw, by rw [ht]; exact hP, va_K.moved hW.alike hK, hD⟩, hS.F ht⟩) hS.2.2 dXm_rest_73 hlocks
      · have hw := hw.2 c_9
        refine lv_iconst (v := 1) hx hb dXm_rest_44 (by decide) ?_
        refine lv_goto (tgt := 49) hx hb dXm_rest_45 (by decide) ?_
        refine lv_iadd hx hb dXm_rest_49 ?_
        refine lv_topi (fun y_19 ey_19 => ?_)
        have hw := hw y_19 ey_19
        obtain ⟨h_20, hw⟩ := hw
        refine wo_i (w := (wM q dA)) (M := M) hx hb hK hP hD hS 10 9 (wM_10 q dA M) (wM_s10 q dA M) rfl h_20 dXm_rest_50 (fun M_21 H locs eM_21 hP hD hS => ?_)
        have hw := hw M_21 eM_21
        refine lv_aload_n hx hb dXm_rest_51 rfl (lv_at hl 0 rfl) ?_
        refine va_get (D := (dC, dI)) (ci := 5) (v := .ref (q 12)) (C := "ServiceThreadsModel") (T := TXm) (N := 28) hx hb hta inXm hown hK hP 0 (wM_0 q dA M_21) rfl 14 (by decide) (hta _ wt_579) (fun _ h9 => h9) rfl dXm_rest_52 ?_
        refine lv_iload_n hx hb dXm_rest_55 rfl (lv_at hl 1 rfl) ?_
        refine lv_iconst (v := 1) hx hb dXm_rest_56 (by decide) ?_
        obtain ⟨h_22, hw⟩ := hw
        refine wo_z (w := (wM q dA)) (M := M_21) hx hb hK hP hD hS 12 11 (wM_12 q dA M_21) (wM_s12 q dA M_21) rfl (by decide) h_22 dXm_rest_57 (fun M_23 H locs eM_23 hP hD hS => ?_)
        have hw := hw M_23 eM_23
        refine lv_aload_n hx hb dXm_rest_58 rfl (lv_at hl 0 rfl) ?_
        refine va_get (D := (dC, dI)) (ci := 5) (v := .ref (q 13)) (C := "ServiceThreadsModel") (T := TXm) (N := 28) hx hb hta inXm hown hK hP 0 (wM_0 q dA M_23) rfl 15 (by decide) (hta _ wt_580) (fun _ h9 => h9) rfl dXm_rest_59 ?_
        refine lv_iload_n hx hb dXm_rest_62 rfl (lv_at hl 1 rfl) ?_
        refine lv_iconst (v := 0) hx hb dXm_rest_63 (by decide) ?_
        obtain ⟨h_24, hw⟩ := hw
        refine wo_z (w := (wM q dA)) (M := M_23) hx hb hK hP hD hS 13 12 (wM_13 q dA M_23) (wM_s13 q dA M_23) rfl (by decide) h_24 dXm_rest_64 (fun M_25 H locs eM_25 hP hD hS => ?_)
        have hw := hw M_25 eM_25
        refine lv_aload_n hx hb dXm_rest_65 rfl (lv_at hl 0 rfl) ?_
        refine va_get (D := (dC, dI)) (ci := 5) (v := .ref (q 9)) (C := "ServiceThreadsModel") (T := TXm) (N := 28) hx hb hta inXm hown hK hP 0 (wM_0 q dA M_25) rfl 11 (by decide) (hta _ wt_576) (fun _ h9 => h9) rfl dXm_rest_66 ?_
        refine lv_iload_n hx hb dXm_rest_69 rfl (lv_at hl 1 rfl) ?_
        refine lv_iload_n hx hb dXm_rest_70 rfl (lv_at hl 2 rfl) ?_
        obtain ⟨h_26, hw⟩ := hw
        refine wo_i (w := (wM q dA)) (M := M_25) hx hb hK hP hD hS 9 8 (wM_9 q dA M_25) (wM_s9 q dA M_25) rfl h_26 dXm_rest_71 (fun M_27 H locs eM_27 hP hD hS => ?_)
        have hw := hw M_27 eM_27
        refine lv_iconst (v := 5) hx hb dXm_rest_72 (by decide) ?_
        exact W.iret (v := 5) hx hb hr (fun t ht hW => ⟨⟨5, M_27, rfl, hw, by rw [ht]; exact hP, va_K.moved hW.alike hK, hD⟩, hS.F ht⟩) hS.2.2 dXm_rest_73 hlocks
    · have hw := hw.2 c_4
      refine lv_aload_n hx hb dXm_rest_19 rfl (lv_at hl 0 rfl) ?_
      refine va_get (D := (dC, dI)) (ci := 5) (v := .ref (q 13)) (C := "ServiceThreadsModel") (T := TXm) (N := 28) hx hb hta inXm hown hK hP 0 (wM_0 q dA M) rfl 15 (by decide) (hta _ wt_580) (fun _ h9 => h9) rfl dXm_rest_20 ?_
      refine lv_iload_n hx hb dXm_rest_23 rfl (lv_at hl 1 rfl) ?_
      obtain ⟨h_28, hw⟩ := hw
      refine ro_z (w := (wM q dA)) (M := M) hx hb hK hP 13 12 (wM_13 q dA M) rfl h_28 dXm_rest_24 (fun y_29 ey_29 => ?_)
      have hw := hw y_29 ey_29
      refine lv_if_eq (tgt := 74) hx hb dXm_rest_25 (by decide) (fun c_30 => ?_) (fun c_30 => ?_)
      · have hw := hw.1 c_30
        refine lv_aload_n hx hb dXm_rest_74 rfl (lv_at hl 0 rfl) ?_
        refine va_get (D := (dC, dI)) (ci := 5) (v := .ref (q 9)) (C := "ServiceThreadsModel") (T := TXm) (N := 28) hx hb hta inXm hown hK hP 0 (wM_0 q dA M) rfl 11 (by decide) (hta _ wt_576) (fun _ h9 => h9) rfl dXm_rest_75 ?_
        refine lv_iload_n hx hb dXm_rest_78 rfl (lv_at hl 1 rfl) ?_
        refine lv_dup2_11 hx hb dXm_rest_79 rfl rfl ?_
        obtain ⟨h_31, hw⟩ := hw
        refine ro_i (w := (wM q dA)) (M := M) hx hb hK hP 9 8 (wM_9 q dA M) rfl h_31 dXm_rest_80 (fun y_32 ey_32 => ?_)
        have hw := hw y_32 ey_32
        refine lv_iconst (v := 1) hx hb dXm_rest_81 (by decide) ?_
        refine lv_isub hx hb dXm_rest_82 ?_
        refine lv_topi (fun y_33 ey_33 => ?_)
        have hw := hw y_33 ey_33
        obtain ⟨h_34, hw⟩ := hw
        refine wo_i (w := (wM q dA)) (M := M) hx hb hK hP hD hS 9 8 (wM_9 q dA M) (wM_s9 q dA M) rfl h_34 dXm_rest_83 (fun M_35 H locs eM_35 hP hD hS => ?_)
        have hw := hw M_35 eM_35
        refine lv_aload_n hx hb dXm_rest_84 rfl (lv_at hl 0 rfl) ?_
        refine va_get (D := (dC, dI)) (ci := 5) (v := .ref (q 9)) (C := "ServiceThreadsModel") (T := TXm) (N := 28) hx hb hta inXm hown hK hP 0 (wM_0 q dA M_35) rfl 11 (by decide) (hta _ wt_576) (fun _ h9 => h9) rfl dXm_rest_85 ?_
        refine lv_iload_n hx hb dXm_rest_88 rfl (lv_at hl 1 rfl) ?_
        obtain ⟨h_36, hw⟩ := hw
        refine ro_i (w := (wM q dA)) (M := M_35) hx hb hK hP 9 8 (wM_9 q dA M_35) rfl h_36 dXm_rest_89 (fun y_37 ey_37 => ?_)
        have hw := hw y_37 ey_37
        refine lv_if_le (tgt := 95) hx hb dXm_rest_90 (by decide) (fun c_38 => ?_) (fun c_38 => ?_)
        · have hw := hw.1 c_38
          refine lv_aload_n hx hb dXm_rest_95 rfl (lv_at hl 0 rfl) ?_
          refine va_get (D := (dC, dI)) (ci := 5) (v := .ref (q 12)) (C := "ServiceThreadsModel") (T := TXm) (N := 28) hx hb hta inXm hown hK hP 0 (wM_0 q dA M_35) rfl 14 (by decide) (hta _ wt_579) (fun _ h9 => h9) rfl dXm_rest_96 ?_
          refine lv_iload_n hx hb dXm_rest_99 rfl (lv_at hl 1 rfl) ?_
          refine lv_iconst (v := 0) hx hb dXm_rest_100 (by decide) ?_
          obtain ⟨h_39, hw⟩ := hw
          refine wo_z (w := (wM q dA)) (M := M_35) hx hb hK hP hD hS 12 11 (wM_12 q dA M_35) (wM_s12 q dA M_35) rfl (by decide) h_39 dXm_rest_101 (fun M_40 H locs eM_40 hP hD hS => ?_)
          have hw := hw M_40 eM_40
          refine lv_aload_n hx hb dXm_rest_102 rfl (lv_at hl 0 rfl) ?_
          refine lv_iload_n hx hb dXm_rest_103 rfl (lv_at hl 1 rfl) ?_
          refine cn_i (w := (wM q dA)) (M := M_40) (wM_ad q dA) (va_runV (As := [.int p0]) (rest := []) ⟨hx, hb, hml, hown, hta⟩ (mtXm_done l dC dI q dA H.size p0 M_40 _ hw) (cwV 1 hta (giV wt_716 wt_718 ws_28 wt_7 wt_719) rfl rfl rfl (by decide +kernel) ⟨Nat.le_of_ble_eq_true rfl, Nat.le_of_ble_eq_true rfl⟩) ⟨pW_blind, va_recv hK hP (ci := 5) (q0 := 0) rfl (wM_0 q dA M_40), pW_of hK hP hD⟩ rfl rfl hl.1 rfl (lv_room (Nat.le_of_ble_eq_true rfl)) dXm_rest_104 ⟨Nat.le_of_ble_eq_true rfl, Nat.le_of_ble_eq_true rfl⟩) hD hS hA (fun r_41 M_42 H locs hw hP hD hS => ?_)
          exact W.iret (v := r_41) hx hb hr (fun t ht hW => ⟨⟨r_41, M_42, rfl, hw, by rw [ht]; exact hP, va_K.moved hW.alike hK, hD⟩, hS.F ht⟩) hS.2.2 dXm_rest_107 hlocks
        · have hw := hw.2 c_38
          refine lv_iconst (v := 5) hx hb dXm_rest_93 (by decide) ?_
          exact W.iret (v := 5) hx hb hr (fun t ht hW => ⟨⟨5, M_35, rfl, hw, by rw [ht]; exact hP, va_K.moved hW.alike hK, hD⟩, hS.F ht⟩) hS.2.2 dXm_rest_94 hlocks
      · have hw := hw.2 c_30
        refine lv_aload_n hx hb dXm_rest_28 rfl (lv_at hl 0 rfl) ?_
        refine va_get (D := (dC, dI)) (ci := 5) (v := .ref (q 10)) (C := "ServiceThreadsModel") (T := TXm) (N := 28) hx hb hta inXm hown hK hP 0 (wM_0 q dA M) rfl 12 (by decide) (hta _ wt_577) (fun _ h9 => h9) rfl dXm_rest_29 ?_
        refine lv_iload_n hx hb dXm_rest_32 rfl (lv_at hl 1 rfl) ?_
        refine lv_dup2_11 hx hb dXm_rest_33 rfl rfl ?_
        obtain ⟨h_43, hw⟩ := hw
        refine ro_i (w := (wM q dA)) (M := M) hx hb hK hP 10 9 (wM_10 q dA M) rfl h_43 dXm_rest_34 (fun y_44 ey_44 => ?_)
        have hw := hw y_44 ey_44
        refine lv_aload_n hx hb dXm_rest_35 rfl (lv_at hl 0 rfl) ?_
        refine va_get (D := (dC, dI)) (ci := 5) (v := .ref (q 13)) (C := "ServiceThreadsModel") (T := TXm) (N := 28) hx hb hta inXm hown hK hP 0 (wM_0 q dA M) rfl 15 (by decide) (hta _ wt_580) (fun _ h9 => h9) rfl dXm_rest_36 ?_
        refine lv_iload_n hx hb dXm_rest_39 rfl (lv_at hl 1 rfl) ?_
        obtain ⟨h_45, hw⟩ := hw
        refine ro_z (w := (wM q dA)) (M := M) hx hb hK hP 13 12 (wM_13 q dA M) rfl h_45 dXm_rest_40 (fun y_46 ey_46 => ?_)
        have hw := hw y_46 ey_46
        refine lv_if_eq (tgt := 48) hx hb dXm_rest_41 (by decide) (fun c_47 => ?_) (fun c_47 => ?_)
        · have hw := hw.1 c_47
          refine lv_iconst (v := 0) hx hb dXm_rest_48 (by decide) ?_
          refine lv_iadd hx hb dXm_rest_49 ?_
          refine lv_topi (fun y_48 ey_48 => ?_)
          have hw := hw y_48 ey_48
          obtain ⟨h_49, hw⟩ := hw
          refine wo_i (w := (wM q dA)) (M := M) hx hb hK hP hD hS 10 9 (wM_10 q dA M) (wM_s10 q dA M) rfl h_49 dXm_rest_50 (fun M_50 H locs eM_50 hP hD hS => ?_)
          have hw := hw M_50 eM_50
          refine lv_aload_n hx hb dXm_rest_51 rfl (lv_at hl 0 rfl) ?_
          refine va_get (D := (dC, dI)) (ci := 5) (v := .ref (q 12)) (C := "ServiceThreadsModel") (T := TXm) (N := 28) hx hb hta inXm hown hK hP 0 (wM_0 q dA M_50) rfl 14 (by decide) (hta _ wt_579) (fun _ h9 => h9) rfl dXm_rest_52 ?_
          refine lv_iload_n hx hb dXm_rest_55 rfl (lv_at hl 1 rfl) ?_
          refine lv_iconst (v := 1) hx hb dXm_rest_56 (by decide) ?_
          obtain ⟨h_51, hw⟩ := hw
          refine wo_z (w := (wM q dA)) (M := M_50) hx hb hK hP hD hS 12 11 (wM_12 q dA M_50) (wM_s12 q dA M_50) rfl (by decide) h_51 dXm_rest_57 (fun M_52 H locs eM_52 hP hD hS => ?_)
          have hw := hw M_52 eM_52
          refine lv_aload_n hx hb dXm_rest_58 rfl (lv_at hl 0 rfl) ?_
          refine va_get (D := (dC, dI)) (ci := 5) (v := .ref (q 13)) (C := "ServiceThreadsModel") (T := TXm) (N := 28) hx hb hta inXm hown hK hP 0 (wM_0 q dA M_52) rfl 15 (by decide) (hta _ wt_580) (fun _ h9 => h9) rfl dXm_rest_59 ?_
          refine lv_iload_n hx hb dXm_rest_62 rfl (lv_at hl 1 rfl) ?_
          refine lv_iconst (v := 0) hx hb dXm_rest_63 (by decide) ?_
          obtain ⟨h_53, hw⟩ := hw
          refine wo_z (w := (wM q dA)) (M := M_52) hx hb hK hP hD hS 13 12 (wM_13 q dA M_52) (wM_s13 q dA M_52) rfl (by decide) h_53 dXm_rest_64 (fun M_54 H locs eM_54 hP hD hS => ?_)
          have hw := hw M_54 eM_54
          refine lv_aload_n hx hb dXm_rest_65 rfl (lv_at hl 0 rfl) ?_
          refine va_get (D := (dC, dI)) (ci := 5) (v := .ref (q 9)) (C := "ServiceThreadsModel") (T := TXm) (N := 28) hx hb hta inXm hown hK hP 0 (wM_0 q dA M_54) rfl 11 (by decide) (hta _ wt_576) (fun _ h9 => h9) rfl dXm_rest_66 ?_
          refine lv_iload_n hx hb dXm_rest_69 rfl (lv_at hl 1 rfl) ?_
          refine lv_iload_n hx hb dXm_rest_70 rfl (lv_at hl 2 rfl) ?_
          obtain ⟨h_55, hw⟩ := hw
          refine wo_i (w := (wM q dA)) (M := M_54) hx hb hK hP hD hS 9 8 (wM_9 q dA M_54) (wM_s9 q dA M_54) rfl h_55 dXm_rest_71 (fun M_56 H locs eM_56 hP hD hS => ?_)
          have hw := hw M_56 eM_56
          refine lv_iconst (v := 5) hx hb dXm_rest_72 (by decide) ?_
          exact W.iret (v := 5) hx hb hr (fun t ht hW => ⟨⟨5, M_56, rfl, hw, by rw [ht]; exact hP, va_K.moved hW.alike hK, hD⟩, hS.F ht⟩) hS.2.2 dXm_rest_73 hlocks
        · have hw := hw.2 c_47
          refine lv_iconst (v := 1) hx hb dXm_rest_44 (by decide) ?_
          refine lv_goto (tgt := 49) hx hb dXm_rest_45 (by decide) ?_
          refine lv_iadd hx hb dXm_rest_49 ?_
          refine lv_topi (fun y_57 ey_57 => ?_)
          have hw := hw y_57 ey_57
          obtain ⟨h_58, hw⟩ := hw
          refine wo_i (w := (wM q dA)) (M := M) hx hb hK hP hD hS 10 9 (wM_10 q dA M) (wM_s10 q dA M) rfl h_58 dXm_rest_50 (fun M_59 H locs eM_59 hP hD hS => ?_)
          have hw := hw M_59 eM_59
          refine lv_aload_n hx hb dXm_rest_51 rfl (lv_at hl 0 rfl) ?_
          refine va_get (D := (dC, dI)) (ci := 5) (v := .ref (q 12)) (C := "ServiceThreadsModel") (T := TXm) (N := 28) hx hb hta inXm hown hK hP 0 (wM_0 q dA M_59) rfl 14 (by decide) (hta _ wt_579) (fun _ h9 => h9) rfl dXm_rest_52 ?_
          refine lv_iload_n hx hb dXm_rest_55 rfl (lv_at hl 1 rfl) ?_
          refine lv_iconst (v := 1) hx hb dXm_rest_56 (by decide) ?_
          obtain ⟨h_60, hw⟩ := hw
          refine wo_z (w := (wM q dA)) (M := M_59) hx hb hK hP hD hS 12 11 (wM_12 q dA M_59) (wM_s12 q dA M_59) rfl (by decide) h_60 dXm_rest_57 (fun M_61 H locs eM_61 hP hD hS => ?_)
          have hw := hw M_61 eM_61
          refine lv_aload_n hx hb dXm_rest_58 rfl (lv_at hl 0 rfl) ?_
          refine va_get (D := (dC, dI)) (ci := 5) (v := .ref (q 13)) (C := "ServiceThreadsModel") (T := TXm) (N := 28) hx hb hta inXm hown hK hP 0 (wM_0 q dA M_61) rfl 15 (by decide) (hta _ wt_580) (fun _ h9 => h9) rfl dXm_rest_59 ?_
          refine lv_iload_n hx hb dXm_rest_62 rfl (lv_at hl 1 rfl) ?_
          refine lv_iconst (v := 0) hx hb dXm_rest_63 (by decide) ?_
          obtain ⟨h_62, hw⟩ := hw
          refine wo_z (w := (wM q dA)) (M := M_61) hx hb hK hP hD hS 13 12 (wM_13 q dA M_61) (wM_s13 q dA M_61) rfl (by decide) h_62 dXm_rest_64 (fun M_63 H locs eM_63 hP hD hS => ?_)
          have hw := hw M_63 eM_63
          refine lv_aload_n hx hb dXm_rest_65 rfl (lv_at hl 0 rfl) ?_
          refine va_get (D := (dC, dI)) (ci := 5) (v := .ref (q 9)) (C := "ServiceThreadsModel") (T := TXm) (N := 28) hx hb hta inXm hown hK hP 0 (wM_0 q dA M_63) rfl 11 (by decide) (hta _ wt_576) (fun _ h9 => h9) rfl dXm_rest_66 ?_
          refine lv_iload_n hx hb dXm_rest_69 rfl (lv_at hl 1 rfl) ?_
          refine lv_iload_n hx hb dXm_rest_70 rfl (lv_at hl 2 rfl) ?_
          obtain ⟨h_64, hw⟩ := hw
          refine wo_i (w := (wM q dA)) (M := M_63) hx hb hK hP hD hS 9 8 (wM_9 q dA M_63) (wM_s9 q dA M_63) rfl h_64 dXm_rest_71 (fun M_65 H locs eM_65 hP hD hS => ?_)
          have hw := hw M_65 eM_65
          refine lv_iconst (v := 5) hx hb dXm_rest_72 (by decide) ?_
          exact W.iret (v := 5) hx hb hr (fun t ht hW => ⟨⟨5, M_65, rfl, hw, by rw [ht]; exact hP, va_K.moved hW.alike hK, hD⟩, hS.F ht⟩) hS.2.2 dXm_rest_73 hlocks
  · have hw := hw.1 c_1
    refine lv_aload_n hx hb dXm_rest_4 rfl (lv_at hl 0 rfl) ?_
    refine lv_iload_n hx hb dXm_rest_5 rfl (lv_at hl 1 rfl) ?_
    refine cn_i (w := (wM q dA)) (M := M) (wM_ad q dA) (va_runV (As := [.int p0]) (rest := []) ⟨hx, hb, hml, hown, hta⟩ (mtXm_done l dC dI q dA s.heap.size p0 M _ hw) (cwV 1 hta (giV wt_716 wt_718 ws_28 wt_7 wt_719) rfl rfl rfl (by decide +kernel) ⟨Nat.le_of_ble_eq_true rfl, Nat.le_of_ble_eq_true rfl⟩) ⟨pW_blind, va_recv hK hP (ci := 5) (q0 := 0) rfl (wM_0 q dA M), pW_of hK hP hD⟩ rfl rfl hl.1 rfl (lv_room (Nat.le_of_ble_eq_true rfl)) dXm_rest_6 ⟨Nat.le_of_ble_eq_true rfl, Nat.le_of_ble_eq_true rfl⟩) hD hS hA (fun r_66 M_67 H locs hw hP hD hS => ?_)
    exact W.iret (v := r_66) hx hb hr (fun t ht hW => ⟨⟨r_66, M_67, rfl, hw, by rw [ht]; exact hP, va_K.moved hW.alike hK, hD⟩, hS.F ht⟩) hS.2.2 dXm_rest_9 hlocks
