def wpXm_thrown (M : Mm) (post : Int32 → Mm → Prop) : Prop := ∀ y_1 : Int32, y_1 = M 26 0 → (post y_1 M)
set_option maxHeartbeats 4000000 in
set_option maxRecDepth 100000 in
theorem mtXm_thrown (l : Launch) (dC : Nat → ClassId) (dI : Nat → Nat → Nat) (q : Nat → Nat) (dA : Nat → ClassId) (sz : Nat) (M : Mm) (post : Int32 → Mm → Prop) (hw : wpXm_thrown M post) : Met l yXm_thrown (wsA yXm_thrown cXm_thrown 1 (some .int)) ({ frames := 0, cells := 0, slots := 0, locals := 0 }) (va_Pc [.ref (q 0)] (pW (dC, dI) vwCl (wM q dA) (tM dA) sz M)) (va_Qi post (bW (dC, dI) vwCl (wM q dA) (tM dA) (va_A (wM q dA M) sz)) (va_A (wM q dA M) sz)) 0 0 (va_A (wM q dA M) sz) := by
  refine Met.ofW (cc := cXm_thrown) (maxL := 1) (ret := (some .int)) (by decide) rfl ?_
  intro p e s m args below meth c s₁ B hml hv
  obtain ⟨rfl, hsz, hP, hK, hD0⟩ := hv
  have hx := B.exec
  have hb := B.bytes
  have hr := B.returns
  have hts := atoms_spec (ws := (wsA yXm_thrown cXm_thrown 1 (some .int))) B.pre
  have hta : ∀ w ∈ wsG, w.before _ s = true := fun w h => hts w (List.mem_cons_of_mem _ h)
  have hown : s.vm.findClass "ServiceThreadsModel" = some m.cls := findClass_of_methodNamed B.named
  have hlocks := B.notSynchronized
  subst hsz
  have hD := hD0.self (sz := s.heap.size)
  generalize hAe : va_A (wM q dA M) s.heap.size = A at hD ⊢
  have hA : ∀ q : Nat, s.heap.size ≤ q → A q := fun q h => by rw [← hAe]; exact Or.inr h
  have hS : va_S A s.heap s.heap [] := va_S.rf
  dsimp only [wpXm_thrown] at hw
  have hl := lv_entry ([.ref (q 0)]) (n := 1) (Nat.le_of_ble_eq_true rfl)
  rw [lg_entry_eq]
  generalize (lg_sl ([.ref (q 0)]) ++ List.replicate (1 - (lg_sl ([.ref (q 0)])).length) Slot.unset).toArray = ls at hl ⊢
  have hl : lv_has ls 1 [(0, .ref (q 0))] := hl
  refine lv_aload_n hx hb dXm_thrown_0 rfl (lv_at hl 0 rfl) ?_
  refine va_get (D := (dC, dI)) (ci := 5) (v := .int (M 26 0)) (C := "ServiceThreadsModel") (T := TXm) (N := 28) hx hb hta inXm hown hK hP 0 (wM_0 q dA M) rfl 0 (by decide) (hta _ wt_565) (fun _ h9 => h9) rfl dXm_thrown_1 ?_
  refine lv_topi (fun y_1 ey_1 => ?_)
  have hw := hw y_1 ey_1
  exact W.iret (v := y_1) hx hb hr (fun t ht hW => ⟨⟨y_1, M, rfl, hw, by rw [ht]; exact hP, va_K.moved hW.alike hK, hD⟩, hS.F ht⟩) hS.2.2 dXm_thrown_4 hlocks
def wpXm_throwing (p0 : Int32) (p1 : Int32) (p2 : Int32) (p3 : Int32) (M : Mm) (post : Int32 → Mm → Prop) : Prop := ((p0 = 0 → (((p1 = 0 → (((p2 = 0 → (((p3 = 0 → (∀ M_5 : Mm, M_5 = stM M 26 (fun _ => 0) → (∀ y_6 : Int32, y_6 = M_5 26 0 → (((y_6 ≤ 0 → (post 0 M_5)) ∧ (¬ y_6 ≤ 0 → (post 1 M_5))))))) ∧ (¬ p3 = 0 → (∀ M_8 : Mm, M_8 = stM M 26 (fun _ => 4) → (∀ y_9 : Int32, y_9 = M_8 26 0 → (((y_9 ≤ 0 → (post 0 M_8)) ∧ (¬ y_9 ≤ 0 → (post 1 M_8)))))))))) ∧ (¬ p2 = 0 → (∀ M_11 : Mm, M_11 = stM M 26 (fun _ => 3) → (∀ y_12 : Int32, y_12 = M_11 26 0 → (((y_12 ≤ 0 → (post 0 M_11)) ∧ (¬ y_12 ≤ 0 → (post 1 M_11)))))))))) ∧ (¬ p1 = 0 → (∀ M_14 : Mm, M_14 = stM M 26 (fun _ => 2) → (∀ y_15 : Int32, y_15 = M_14 26 0 → (((y_15 ≤ 0 → (post 0 M_14)) ∧ (¬ y_15 ≤ 0 → (post 1 M_14)))))))))) ∧ (¬ p0 = 0 → (∀ M_17 : Mm, M_17 = stM M 26 (fun _ => 1) → (∀ y_18 : Int32, y_18 = M_17 26 0 → (((y_18 ≤ 0 → (post 0 M_17)) ∧ (¬ y_18 ≤ 0 → (post 1 M_17))))))))
set_option maxHeartbeats 4000000 in
set_option maxRecDepth 100000 in
theorem mtXm_throwing (l : Launch) (dC : Nat → ClassId) (dI : Nat → Nat → Nat) (q : Nat → Nat) (dA : Nat → ClassId) (sz : Nat) (p0 : Int32) (p1 : Int32) (p2 : Int32) (p3 : Int32) (M : Mm) (post : Int32 → Mm → Prop) (hw : wpXm_throwing p0 p1 p2 p3 M post) : Met l yXm_throwing (wsA yXm_throwing cXm_throwing 5 (some .boolean)) ({ frames := 0, cells := 0, slots := 0, locals := 0 }) (va_Pc [.ref (q 0), .int p0, .int p1, .int p2, .int p3] (pW (dC, dI) vwCl (wM q dA) (tM dA) sz M)) (va_Qi post (bW (dC, dI) vwCl (wM q dA) (tM dA) (va_A (wM q dA M) sz)) (va_A (wM q dA M) sz)) 0 0 (va_A (wM q dA M) sz) := by
  refine Met.ofW (cc := cXm_throwing) (maxL := 5) (ret := (some .boolean)) (by decide) rfl ?_
  intro p e s m args below meth c s₁ B hml hv
  obtain ⟨rfl, hsz, hP, hK, hD0⟩ := hv
  have hx := B.exec
  have hb := B.bytes
  have hr := B.returns
  have hts := atoms_spec (ws := (wsA yXm_throwing cXm_throwing 5 (some .boolean))) B.pre
  have hta : ∀ w ∈ wsG, w.before _ s = true := fun w h => hts w (List.mem_cons_of_mem _ h)
  have hown : s.vm.findClass "ServiceThreadsModel" = some m.cls := findClass_of_methodNamed B.named
  have hlocks := B.notSynchronized
  subst hsz
  have hD := hD0.self (sz := s.heap.size)
  generalize hAe : va_A (wM q dA M) s.heap.size = A at hD ⊢
  have hA : ∀ q : Nat, s.heap.size ≤ q → A q := fun q h => by rw [← hAe]; exact Or.inr h
  have hS : va_S A s.heap s.heap [] := va_S.rf
  dsimp only [wpXm_throwing] at hw
  have hl := lv_entry ([.ref (q 0), .int p0, .int p1, .int p2, .int p3]) (n := 5) (Nat.le_of_ble_eq_true rfl)
  rw [lg_entry_eq]
  generalize (lg_sl ([.ref (q 0), .int p0, .int p1, .int p2, .int p3]) ++ List.replicate (5 - (lg_sl ([.ref (q 0), .int p0, .int p1, .int p2, .int p3])).length) Slot.unset).toArray = ls at hl ⊢
  have hl : lv_has ls 5 [(0, .ref (q 0)), (1, .int p0), (2, .int p1), (3, .int p2), (4, .int p3)] := hl
  refine lv_aload_n hx hb dXm_throwing_0 rfl (lv_at hl 0 rfl) ?_
  refine lv_iload_n hx hb dXm_throwing_1 rfl (lv_at hl 1 rfl) ?_
  refine lv_if_eq (tgt := 9) hx hb dXm_throwing_2 (by decide) (fun c_1 => ?_) (fun c_1 => ?_)
  · have hw := hw.1 c_1
    refine lv_iload_n hx hb dXm_throwing_9 rfl (lv_at hl 2 rfl) ?_
    refine lv_if_eq (tgt := 17) hx hb dXm_throwing_10 (by decide) (fun c_2 => ?_) (fun c_2 => ?_)
    · have hw := hw.1 c_2
      refine lv_iload_n hx hb dXm_throwing_17 rfl (lv_at hl 3 rfl) ?_
      refine lv_if_eq (tgt := 25) hx hb dXm_throwing_18 (by decide) (fun c_3 => ?_) (fun c_3 => ?_)
      · have hw := hw.1 c_3
        refine lv_iload hx hb dXm_throwing_25 (lv_at hl 4 rfl) ?_
        refine lv_if_eq (tgt := 34) hx hb dXm_throwing_27 (by decide) (fun c_4 => ?_) (fun c_4 => ?_)
        · have hw := hw.1 c_4
          refine lv_iconst (v := 0) hx hb dXm_throwing_34 (by decide) ?_
          refine va_put (D := (dC, dI)) (ci := 5) (v := .int 0) (ty := .int) (C := "ServiceThreadsModel") (T := TXm) (N := 28) hx hb hta inXm tyXm tyXm_ok nmXm hown hK hP hD hS 0 (wM_0 q dA M) rfl 0 (by decide) (hta _ wt_565) (fun _ h9 => h9) rfl (by decide +kernel) rfl rfl (Nat.le_of_ble_eq_true rfl) dXm_throwing_35 (fun H locs hP hD hS => ?_)
          obtain ⟨M_5, eM_5⟩ : ∃ y : Mm, y = stM M 26 (fun _ => 0) := ⟨_, rfl⟩
          have hP : va_P (dC, dI) vwCl (wM q dA M_5) H := by rw [eM_5]; exact hP
          have hD : va_D A (wM q dA M_5) := by rw [eM_5]; exact hD
          have hw := hw M_5 eM_5
          refine lv_aload_n hx hb dXm_throwing_38 rfl (lv_at hl 0 rfl) ?_
          refine va_get (D := (dC, dI)) (ci := 5) (v := .int (M_5 26 0)) (C := "ServiceThreadsModel") (T := TXm) (N := 28) hx hb hta inXm hown hK hP 0 (wM_0 q dA M_5) rfl 0 (by decide) (hta _ wt_565) (fun _ h9 => h9) rfl dXm_throwing_39 ?_
          refine lv_topi (fun y_6 ey_6 => ?_)
          have hw := hw y_6 ey_6
          refine lv_if_le (tgt := 49) hx hb dXm_throwing_42 (by decide) (fun c_7 => ?_) (fun c_7 => ?_)
          · have hw := hw.1 c_7
            refine lv_iconst (v := 0) hx hb dXm_throwing_49 (by decide) ?_
            exact W.zret (v := 0) hx hb hr (by decide) (fun t ht hW => ⟨⟨0, M_5, rfl, hw, by rw [ht]; exact hP, va_K.moved hW.alike hK, hD⟩, hS.F ht⟩) hS.2.2 dXm_throwing_50 hlocks
          · have hw := hw.2 c_7
            refine lv_iconst (v := 1) hx hb dXm_throwing_45 (by decide) ?_
            refine lv_goto (tgt := 50) hx hb dXm_throwing_46 (by decide) ?_
            exact W.zret (v := 1) hx hb hr (by decide) (fun t ht hW => ⟨⟨1, M_5, rfl, hw, by rw [ht]; exact hP, va_K.moved hW.alike hK, hD⟩, hS.F ht⟩) hS.2.2 dXm_throwing_50 hlocks
        · have hw := hw.2 c_4
          refine lv_iconst (v := 4) hx hb dXm_throwing_30 (by decide) ?_
          refine lv_goto (tgt := 35) hx hb dXm_throwing_31 (by decide) ?_
          refine va_put (D := (dC, dI)) (ci := 5) (v := .int 4) (ty := .int) (C := "ServiceThreadsModel") (T := TXm) (N := 28) hx hb hta inXm tyXm tyXm_ok nmXm hown hK hP hD hS 0 (wM_0 q dA M) rfl 0 (by decide) (hta _ wt_565) (fun _ h9 => h9) rfl (by decide +kernel) rfl rfl (Nat.le_of_ble_eq_true rfl) dXm_throwing_35 (fun H locs hP hD hS => ?_)
          obtain ⟨M_8, eM_8⟩ : ∃ y : Mm, y = stM M 26 (fun _ => 4) := ⟨_, rfl⟩
          have hP : va_P (dC, dI) vwCl (wM q dA M_8) H := by rw [eM_8]; exact hP
          have hD : va_D A (wM q dA M_8) := by rw [eM_8]; exact hD
          have hw := hw M_8 eM_8
          refine lv_aload_n hx hb dXm_throwing_38 rfl (lv_at hl 0 rfl) ?_
          refine va_get (D := (dC, dI)) (ci := 5) (v := .int (M_8 26 0)) (C := "ServiceThreadsModel") (T := TXm) (N := 28) hx hb hta inXm hown hK hP 0 (wM_0 q dA M_8) rfl 0 (by decide) (hta _ wt_565) (fun _ h9 => h9) rfl dXm_throwing_39 ?_
          refine lv_topi (fun y_9 ey_9 => ?_)
          have hw := hw y_9 ey_9
          refine lv_if_le (tgt := 49) hx hb dXm_throwing_42 (by decide) (fun c_10 => ?_) (fun c_10 => ?_)
          · have hw := hw.1 c_10
            refine lv_iconst (v := 0) hx hb dXm_throwing_49 (by decide) ?_
            exact W.zret (v := 0) hx hb hr (by decide) (fun t ht hW => ⟨⟨0, M_8, rfl, hw, by rw [ht]; exact hP, va_K.moved hW.alike hK, hD⟩, hS.F ht⟩) hS.2.2 dXm_throwing_50 hlocks
          · have hw := hw.2 c_10
            refine lv_iconst (v := 1) hx hb dXm_throwing_45 (by decide) ?_
            refine lv_goto (tgt := 50) hx hb dXm_throwing_46 (by decide) ?_
            exact W.zret (v := 1) hx hb hr (by decide) (fun t ht hW => ⟨⟨1, M_8, rfl, hw, by rw [ht]; exact hP, va_K.moved hW.alike hK, hD⟩, hS.F ht⟩) hS.2.2 dXm_throwing_50 hlocks
      · have hw := hw.2 c_3
        refine lv_iconst (v := 3) hx hb dXm_throwing_21 (by decide) ?_
        refine lv_goto (tgt := 35) hx hb dXm_throwing_22 (by decide) ?_
        refine va_put (D := (dC, dI)) (ci := 5) (v := .int 3) (ty := .int) (C := "ServiceThreadsModel") (T := TXm) (N := 28) hx hb hta inXm tyXm tyXm_ok nmXm hown hK hP hD hS 0 (wM_0 q dA M) rfl 0 (by decide) (hta _ wt_565) (fun _ h9 => h9) rfl (by decide +kernel) rfl rfl (Nat.le_of_ble_eq_true rfl) dXm_throwing_35 (fun H locs hP hD hS => ?_)
        obtain ⟨M_11, eM_11⟩ : ∃ y : Mm, y = stM M 26 (fun _ => 3) := ⟨_, rfl⟩
        have hP : va_P (dC, dI) vwCl (wM q dA M_11) H := by rw [eM_11]; exact hP
        have hD : va_D A (wM q dA M_11) := by rw [eM_11]; exact hD
        have hw := hw M_11 eM_11
        refine lv_aload_n hx hb dXm_throwing_38 rfl (lv_at hl 0 rfl) ?_
        refine va_get (D := (dC, dI)) (ci := 5) (v := .int (M_11 26 0)) (C := "ServiceThreadsModel") (T := TXm) (N := 28) hx hb hta inXm hown hK hP 0 (wM_0 q dA M_11) rfl 0 (by decide) (hta _ wt_565) (fun _ h9 => h9) rfl dXm_throwing_39 ?_
        refine lv_topi (fun y_12 ey_12 => ?_)
        have hw := hw y_12 ey_12
        refine lv_if_le (tgt := 49) hx hb dXm_throwing_42 (by decide) (fun c_13 => ?_) (fun c_13 => ?_)
        · have hw := hw.1 c_13
          refine lv_iconst (v := 0) hx hb dXm_throwing_49 (by decide) ?_
          exact W.zret (v := 0) hx hb hr (by decide) (fun t ht hW => ⟨⟨0, M_11, rfl, hw, by rw [ht]; exact hP, va_K.moved hW.alike hK, hD⟩, hS.F ht⟩) hS.2.2 dXm_throwing_50 hlocks
        · have hw := hw.2 c_13
          refine lv_iconst (v := 1) hx hb dXm_throwing_45 (by decide) ?_
          refine lv_goto (tgt := 50) hx hb dXm_throwing_46 (by decide) ?_
          exact W.zret (v := 1) hx hb hr (by decide) (fun t ht hW => ⟨⟨1, M_11, rfl, hw, by rw [ht]; exact hP, va_K.moved hW.alike hK, hD⟩, hS.F ht⟩) hS.2.2 dXm_throwing_50 hlocks
    · have hw := hw.2 c_2
      refine lv_iconst (v := 2) hx hb dXm_throwing_13 (by decide) ?_
      refine lv_goto (tgt := 35) hx hb dXm_throwing_14 (by decide) ?_
      refine va_put (D := (dC, dI)) (ci := 5) (v := .int 2) (ty := .int) (C := "ServiceThreadsModel") (T := TXm) (N := 28) hx hb hta inXm tyXm tyXm_ok nmXm hown hK hP hD hS 0 (wM_0 q dA M) rfl 0 (by decide) (hta _ wt_565) (fun _ h9 => h9) rfl (by decide +kernel) rfl rfl (Nat.le_of_ble_eq_true rfl) dXm_throwing_35 (fun H locs hP hD hS => ?_)
      obtain ⟨M_14, eM_14⟩ : ∃ y : Mm, y = stM M 26 (fun _ => 2) := ⟨_, rfl⟩
      have hP : va_P (dC, dI) vwCl (wM q dA M_14) H := by rw [eM_14]; exact hP
      have hD : va_D A (wM q dA M_14) := by rw [eM_14]; exact hD
      have hw := hw M_14 eM_14
      refine lv_aload_n hx hb dXm_throwing_38 rfl (lv_at hl 0 rfl) ?_
      refine va_get (D := (dC, dI)) (ci := 5) (v := .int (M_14 26 0)) (C := "ServiceThreadsModel") (T := TXm) (N := 28) hx hb hta inXm hown hK hP 0 (wM_0 q dA M_14) rfl 0 (by decide) (hta _ wt_565) (fun _ h9 => h9) rfl dXm_throwing_39 ?_
      refine lv_topi (fun y_15 ey_15 => ?_)
      have hw := hw y_15 ey_15
      refine lv_if_le (tgt := 49) hx hb dXm_throwing_42 (by decide) (fun c_16 => ?_) (fun c_16 => ?_)
      · have hw := hw.1 c_16
        refine lv_iconst (v := 0) hx hb dXm_throwing_49 (by decide) ?_
        exact W.zret (v := 0) hx hb hr (by decide) (fun t ht hW => ⟨⟨0, M_14, rfl, hw, by rw [ht]; exact hP, va_K.moved hW.alike hK, hD⟩, hS.F ht⟩) hS.2.2 dXm_throwing_50 hlocks
      · have hw := hw.2 c_16
        refine lv_iconst (v := 1) hx hb dXm_throwing_45 (by decide) ?_
        refine lv_goto (tgt := 50) hx hb dXm_throwing_46 (by decide) ?_
        exact W.zret (v := 1) hx hb hr (by decide) (fun t ht hW => ⟨⟨1, M_14, rfl, hw, by rw [ht]; exact hP, va_K.moved hW.alike hK, hD⟩, hS.F ht⟩) hS.2.2 dXm_throwing_50 hlocks
  · have hw := hw.2 c_1
    refine lv_iconst (v := 1) hx hb dXm_throwing_5 (by decide) ?_
    refine lv_goto (tgt := 35) hx hb dXm_throwing_6 (by decide) ?_
    refine va_put (D := (dC, dI)) (ci := 5) (v := .int 1) (ty := .int) (C := "ServiceThreadsModel") (T := TXm) (N := 28) hx hb hta inXm tyXm tyXm_ok nmXm hown hK hP hD hS 0 (wM_0 q dA M) rfl 0 (by decide) (hta _ wt_565) (fun _ h9 => h9) rfl (by decide +kernel) rfl rfl (Nat.le_of_ble_eq_true rfl) dXm_throwing_35 (fun H locs hP hD hS => ?_)
    obtain ⟨M_17, eM_17⟩ : ∃ y : Mm, y = stM M 26 (fun _ => 1) := ⟨_, rfl⟩
    have hP : va_P (dC, dI) vwCl (wM q dA M_17) H := by rw [eM_17]; exact hP
    have hD : va_D A (wM q dA M_17) := by rw [eM_17]; exact hD
    have hw := hw M_17 eM_17
    refine lv_aload_n hx hb dXm_throwing_38 rfl (lv_at hl 0 rfl) ?_
    refine va_get (D := (dC, dI)) (ci := 5) (v := .int (M_17 26 0)) (C := "ServiceThreadsModel") (T := TXm) (N := 28) hx hb hta inXm hown hK hP 0 (wM_0 q dA M_17) rfl 0 (by decide) (hta _ wt_565) (fun _ h9 => h9) rfl dXm_throwing_39 ?_
    refine lv_topi (fun y_18 ey_18 => ?_)
    have hw := hw y_18 ey_18
    refine lv_if_le (tgt := 49) hx hb dXm_throwing_42 (by decide) (fun c_19 => ?_) (fun c_19 => ?_)
    · have hw := hw.1 c_19
      refine lv_iconst (v := 0) hx hb dXm_throwing_49 (by decide) ?_
      exact W.zret (v := 0) hx hb hr (by decide) (fun t ht hW => ⟨⟨0, M_17, rfl, hw, by rw [ht]; exact hP, va_K.moved hW.alike hK, hD⟩, hS.F ht⟩) hS.2.2 dXm_throwing_50 hlocks
    · have hw := hw.2 c_19
      refine lv_iconst (v := 1) hx hb dXm_throwing_45 (by decide) ?_
      refine lv_goto (tgt := 50) hx hb dXm_throwing_46 (by decide) ?_
      exact W.zret (v := 1) hx hb hr (by decide) (fun t ht hW => ⟨⟨1, M_17, rfl, hw, by rw [ht]; exact hP, va_K.moved hW.alike hK, hD⟩, hS.F ht⟩) hS.2.2 dXm_throwing_50 hlocks
def wpXm_in (p0 : Int32) (p1 : Int32) (p2 : Int32) (M : Mm) (post : Int32 → Mm → Prop) : Prop := ((p0 < p1 → (post 0 M)) ∧ (¬ p0 < p1 → (((p2 < p0 → (post 0 M)) ∧ (¬ p2 < p0 → (post 1 M))))))
set_option maxHeartbeats 4000000 in
set_option maxRecDepth 100000 in
theorem mtXm_in (l : Launch) (dC : Nat → ClassId) (dI : Nat → Nat → Nat) (q : Nat → Nat) (dA : Nat → ClassId) (sz : Nat) (p0 : Int32) (p1 : Int32) (p2 : Int32) (M : Mm) (post : Int32 → Mm → Prop) (hw : wpXm_in p0 p1 p2 M post) : Met l yXm_in (wsA yXm_in cXm_in 3 (some .boolean)) ({ frames := 0, cells := 0, slots := 0, locals := 0 }) (va_Pc [.int p0, .int p1, .int p2] (pW (dC, dI) vwCl (wM q dA) (tM dA) sz M)) (va_Qi post (bW (dC, dI) vwCl (wM q dA) (tM dA) (va_A (wM q dA M) sz)) (va_A (wM q dA M) sz)) 0 0 (va_A (wM q dA M) sz) := by
  refine Met.ofW (cc := cXm_in) (maxL := 3) (ret := (some .boolean)) (by decide) rfl ?_
  intro p e s m args below meth c s₁ B hml hv
  obtain ⟨rfl, hsz, hP, hK, hD0⟩ := hv
  have hx := B.exec
  have hb := B.bytes
  have hr := B.returns
  have hts := atoms_spec (ws := (wsA yXm_in cXm_in 3 (some .boolean))) B.pre
  have hta : ∀ w ∈ wsG, w.before _ s = true := fun w h => hts w (List.mem_cons_of_mem _ h)
  have hown : s.vm.findClass "ServiceThreadsModel" = some m.cls := findClass_of_methodNamed B.named
  have hlocks := B.notSynchronized
  subst hsz
  have hD := hD0.self (sz := s.heap.size)
  generalize hAe : va_A (wM q dA M) s.heap.size = A at hD ⊢
  have hA : ∀ q : Nat, s.heap.size ≤ q → A q := fun q h => by rw [← hAe]; exact Or.inr h
  have hS : va_S A s.heap s.heap [] := va_S.rf
  dsimp only [wpXm_in] at hw
  have hl := lv_entry ([.int p0, .int p1, .int p2]) (n := 3) (Nat.le_of_ble_eq_true rfl)
  rw [lg_entry_eq]
  generalize (lg_sl ([.int p0, .int p1, .int p2]) ++ List.replicate (3 - (lg_sl ([.int p0, .int p1, .int p2])).length) Slot.unset).toArray = ls at hl ⊢
  have hl : lv_has ls 3 [(0, .int p0), (1, .int p1), (2, .int p2)] := hl
  refine lv_iload_n hx hb dXm_in_0 rfl (lv_at hl 0 rfl) ?_
  refine lv_iload_n hx hb dXm_in_1 rfl (lv_at hl 1 rfl) ?_
  refine lv_icmp_lt (tgt := 14) hx hb dXm_in_2 (by decide) (fun c_1 => ?_) (fun c_1 => ?_)
  · have hw := hw.1 c_1
    refine lv_iconst (v := 0) hx hb dXm_in_14 (by decide) ?_
    exact W.zret (v := 0) hx hb hr (by decide) (fun t ht hW => ⟨⟨0, M, rfl, hw, by rw [ht]; exact hP, va_K.moved hW.alike hK, hD⟩, hS.F ht⟩) hS.2.2 dXm_in_15 hlocks
  · have hw := hw.2 c_1
    refine lv_iload_n hx hb dXm_in_5 rfl (lv_at hl 0 rfl) ?_
    refine lv_iload_n hx hb dXm_in_6 rfl (lv_at hl 2 rfl) ?_
    refine lv_icmp_gt (tgt := 14) hx hb dXm_in_7 (by decide) (fun c_2 => ?_) (fun c_2 => ?_)
    · have hw := hw.1 c_2
      refine lv_iconst (v := 0) hx hb dXm_in_14 (by decide) ?_
      exact W.zret (v := 0) hx hb hr (by decide) (fun t ht hW => ⟨⟨0, M, rfl, hw, by rw [ht]; exact hP, va_K.moved hW.alike hK, hD⟩, hS.F ht⟩) hS.2.2 dXm_in_15 hlocks
    · have hw := hw.2 c_2
      refine lv_iconst (v := 1) hx hb dXm_in_10 (by decide) ?_
      refine lv_goto (tgt := 15) hx hb dXm_in_11 (by decide) ?_
      exact W.zret (v := 1) hx hb hr (by decide) (fun t ht hW => ⟨⟨1, M, rfl, hw, by rw [ht]; exact hP, va_K.moved hW.alike hK, hD⟩, hS.F ht⟩) hS.2.2 dXm_in_15 hlocks
def wpXm_isThread (p0 : Int32) (M : Mm) (post : Int32 → Mm → Prop) : Prop := wpXm_in p0 0 7 M (fun r_1 M_2 => (narrow .boolean (.int r_1) = .int r_1 ∧ (post r_1 M_2)))
set_option maxHeartbeats 4000000 in
set_option maxRecDepth 100000 in
theorem mtXm_isThread (l : Launch) (dC : Nat → ClassId) (dI : Nat → Nat → Nat) (q : Nat → Nat) (dA : Nat → ClassId) (sz : Nat) (p0 : Int32) (M : Mm) (post : Int32 → Mm → Prop) (hw : wpXm_isThread p0 M post) : Met l yXm_isThread (wsA yXm_isThread cXm_isThread 1 (some .boolean)) ({ frames := 1, cells := 0, slots := 0, locals := 22 }) (va_Pc [.int p0] (pW (dC, dI) vwCl (wM q dA) (tM dA) sz M)) (va_Qi post (bW (dC, dI) vwCl (wM q dA) (tM dA) (va_A (wM q dA M) sz)) (va_A (wM q dA M) sz)) 0 0 (va_A (wM q dA M) sz) := by
  refine Met.ofW (cc := cXm_isThread) (maxL := 1) (ret := (some .boolean)) (by decide) rfl ?_
  intro p e s m args below meth c s₁ B hml hv
  obtain ⟨rfl, hsz, hP, hK, hD0⟩ := hv
  have hx := B.exec
  have hb := B.bytes
  have hr := B.returns
  have hts := atoms_spec (ws := (wsA yXm_isThread cXm_isThread 1 (some .boolean))) B.pre
  have hta : ∀ w ∈ wsG, w.before _ s = true := fun w h => hts w (List.mem_cons_of_mem _ h)
  have hown : s.vm.findClass "ServiceThreadsModel" = some m.cls := findClass_of_methodNamed B.named
  have hlocks := B.notSynchronized
  subst hsz
  have hD := hD0.self (sz := s.heap.size)
  generalize hAe : va_A (wM q dA M) s.heap.size = A at hD ⊢
  have hA : ∀ q : Nat, s.heap.size ≤ q → A q := fun q h => by rw [← hAe]; exact Or.inr h
  have hS : va_S A s.heap s.heap [] := va_S.rf
  dsimp only [wpXm_isThread] at hw
  have hl := lv_entry ([.int p0]) (n := 1) (Nat.le_of_ble_eq_true rfl)
  rw [lg_entry_eq]
  generalize (lg_sl ([.int p0]) ++ List.replicate (1 - (lg_sl ([.int p0])).length) Slot.unset).toArray = ls at hl ⊢
  have hl : lv_has ls 1 [(0, .int p0)] := hl
  refine lv_iload_n hx hb dXm_isThread_0 rfl (lv_at hl 0 rfl) ?_
  refine lv_iconst (v := 0) hx hb dXm_isThread_1 (by decide) ?_
  refine lv_bipush (v := 7) hx hb dXm_isThread_2 (by decide) ?_
  refine cn_i (w := (wM q dA)) (M := M) (wM_ad q dA) (va_runS (As := [.int p0, .int 0, .int 7]) (rest := []) ⟨hx, hb, hml, hown, hta⟩ (mtXm_in l dC dI q dA s.heap.size p0 0 7 M _ hw) (va_cwS 3 hta (giS wt_661 wt_662 wt_7 wt_663) rfl rfl rfl (by decide +kernel) ⟨Nat.le_of_ble_eq_true rfl, Nat.le_of_ble_eq_true rfl⟩) ⟨pW_blind, pW_of hK hP hD⟩ rfl rfl hl.1 rfl (lv_room (Nat.le_of_ble_eq_true rfl)) dXm_isThread_4 ⟨Nat.le_of_ble_eq_true rfl, Nat.le_of_ble_eq_true rfl⟩) hD hS hA (fun r_1 M_2 H locs hw hP hD hS => ?_)
  obtain ⟨h_3, hw⟩ := hw
  exact W.zret (v := r_1) hx hb hr h_3 (fun t ht hW => ⟨⟨r_1, M_2, rfl, hw, by rw [ht]; exact hP, va_K.moved hW.alike hK, hD⟩, hS.F ht⟩) hS.2.2 dXm_isThread_7 hlocks
def wpXm_hasBegun (p0 : Int32) (M : Mm) (post : Int32 → Mm → Prop) : Prop := wpXm_isThread p0 M (fun r_1 M_2 => (((r_1 = 0 → (post 0 M_2)) ∧ (¬ r_1 = 0 → (vp_in p0 8 ∧ (∀ y_5 : Int32, y_5 = M_2 21 p0.toNatClampNeg → (((y_5 = 0 → (post 0 M_2)) ∧ (¬ y_5 = 0 → (post 1 M_2))))))))))
set_option maxHeartbeats 4000000 in
set_option maxRecDepth 100000 in
theorem mtXm_hasBegun (l : Launch) (dC : Nat → ClassId) (dI : Nat → Nat → Nat) (q : Nat → Nat) (dA : Nat → ClassId) (sz : Nat) (p0 : Int32) (M : Mm) (post : Int32 → Mm → Prop) (hw : wpXm_hasBegun p0 M post) : Met l yXm_hasBegun (wsA yXm_hasBegun cXm_hasBegun 2 (some .boolean)) ({ frames := 2, cells := 0, slots := 0, locals := 42 }) (va_Pc [.ref (q 0), .int p0] (pW (dC, dI) vwCl (wM q dA) (tM dA) sz M)) (va_Qi post (bW (dC, dI) vwCl (wM q dA) (tM dA) (va_A (wM q dA M) sz)) (va_A (wM q dA M) sz)) 0 0 (va_A (wM q dA M) sz) := by
  refine Met.ofW (cc := cXm_hasBegun) (maxL := 2) (ret := (some .boolean)) (by decide) rfl ?_
  intro p e s m args below meth c s₁ B hml hv
  obtain ⟨rfl, hsz, hP, hK, hD0⟩ := hv
  have hx := B.exec
  have hb := B.bytes
  have hr := B.returns
  have hts := atoms_spec (ws := (wsA yXm_hasBegun cXm_hasBegun 2 (some .boolean))) B.pre
  have hta : ∀ w ∈ wsG, w.before _ s = true := fun w h => hts w (List.mem_cons_of_mem _ h)
  have hown : s.vm.findClass "ServiceThreadsModel" = some m.cls := findClass_of_methodNamed B.named
  have hlocks := B.notSynchronized
  subst hsz
  have hD := hD0.self (sz := s.heap.size)
  generalize hAe : va_A (wM q dA M) s.heap.size = A at hD ⊢
  have hA : ∀ q : Nat, s.heap.size ≤ q → A q := fun q h => by rw [← hAe]; exact Or.inr h
  have hS : va_S A s.heap s.heap [] := va_S.rf
  dsimp only [wpXm_hasBegun] at hw
  have hl := lv_entry ([.ref (q 0), .int p0]) (n := 2) (Nat.le_of_ble_eq_true rfl)
  rw [lg_entry_eq]
  generalize (lg_sl ([.ref (q 0), .int p0]) ++ List.replicate (2 - (lg_sl ([.ref (q 0), .int p0])).length) Slot.unset).toArray = ls at hl ⊢
  have hl : lv_has ls 2 [(0, .ref (q 0)), (1, .int p0)] := hl
  refine lv_iload_n hx hb dXm_hasBegun_0 rfl (lv_at hl 1 rfl) ?_
  refine cn_i (w := (wM q dA)) (M := M) (wM_ad q dA) (va_runS (As := [.int p0]) (rest := []) ⟨hx, hb, hml, hown, hta⟩ (mtXm_isThread l dC dI q dA s.heap.size p0 M _ hw) (va_cwS 1 hta (giS wt_658 wt_659 wt_7 wt_660) rfl rfl rfl (by decide +kernel) ⟨Nat.le_of_ble_eq_true rfl, Nat.le_of_ble_eq_true rfl⟩) ⟨pW_blind, pW_of hK hP hD⟩ rfl rfl hl.1 rfl (lv_room (Nat.le_of_ble_eq_true rfl)) dXm_hasBegun_1 ⟨Nat.le_of_ble_eq_true rfl, Nat.le_of_ble_eq_true rfl⟩) hD hS hA (fun r_1 M_2 H locs hw hP hD hS => ?_)
  refine lv_if_eq (tgt := 20) hx hb dXm_hasBegun_4 (by decide) (fun c_3 => ?_) (fun c_3 => ?_)
  · have hw := hw.1 c_3
    refine lv_iconst (v := 0) hx hb dXm_hasBegun_20 (by decide) ?_
    exact W.zret (v := 0) hx hb hr (by decide) (fun t ht hW => ⟨⟨0, M_2, rfl, hw, by rw [ht]; exact hP, va_K.moved hW.alike hK, hD⟩, hS.F ht⟩) hS.2.2 dXm_hasBegun_21 hlocks
  · have hw := hw.2 c_3
    refine lv_aload_n hx hb dXm_hasBegun_7 rfl (lv_at hl 0 rfl) ?_
    refine va_get (D := (dC, dI)) (ci := 5) (v := .ref (q 11)) (C := "ServiceThreadsModel") (T := TXm) (N := 28) hx hb hta inXm hown hK hP 0 (wM_0 q dA M_2) rfl 13 (by decide) (hta _ wt_578) (fun _ h9 => h9) rfl dXm_hasBegun_8 ?_
    refine lv_iload_n hx hb dXm_hasBegun_11 rfl (lv_at hl 1 rfl) ?_
    obtain ⟨h_4, hw⟩ := hw
    refine ro_z (w := (wM q dA)) (M := M_2) hx hb hK hP 11 10 (wM_11 q dA M_2) rfl h_4 dXm_hasBegun_12 (fun y_5 ey_5 => ?_)
    have hw := hw y_5 ey_5
    refine lv_if_eq (tgt := 20) hx hb dXm_hasBegun_13 (by decide) (fun c_6 => ?_) (fun c_6 => ?_)
    · have hw := hw.1 c_6
      refine lv_iconst (v := 0) hx hb dXm_hasBegun_20 (by decide) ?_
      exact W.zret (v := 0) hx hb hr (by decide) (fun t ht hW => ⟨⟨0, M_2, rfl, hw, by rw [ht]; exact hP, va_K.moved hW.alike hK, hD⟩, hS.F ht⟩) hS.2.2 dXm_hasBegun_21 hlocks
    · have hw := hw.2 c_6
      refine lv_iconst (v := 1) hx hb dXm_hasBegun_16 (by decide) ?_
      refine lv_goto (tgt := 21) hx hb dXm_hasBegun_17 (by decide) ?_
      exact W.zret (v := 1) hx hb hr (by decide) (fun t ht hW => ⟨⟨1, M_2, rfl, hw, by rw [ht]; exact hP, va_K.moved hW.alike hK, hD⟩, hS.F ht⟩) hS.2.2 dXm_hasBegun_21 hlocks
def wpXm_act (p0 : Int32) (p1 : Int32) (p2 : Int32) (M : Mm) (post : Int32 → Mm → Prop) : Prop := wpXm_isThread p0 M (fun r_1 M_2 => (((r_1 = 0 → (wpXm_in p2 0 255 M_2 (fun r_4 M_5 => (((r_4 = 0 → (wpXm_hasBegun p0 M_5 (fun r_32 M_33 => (wpXm_throwing 1 1 r_32 0 M_33 (fun r_35 M_36 => (((r_35 = 0 → (∀ y_38 : Int32, y_38 = (16 : Int32) * p0 → (vp_in p0 8 ∧ (∀ y_40 : Int32, y_40 = M_36 2 p0.toNatClampNeg → (∀ y_41 : Int32, y_41 = y_38 + y_40 → (vp_in y_41 128 ∧ (∀ M_43 : Mm, M_43 = stM M_36 0 (upd (M_36 0) y_41.toNatClampNeg p1) → (∀ y_44 : Int32, y_44 = (16 : Int32) * p0 → (vp_in p0 8 ∧ (∀ y_46 : Int32, y_46 = M_43 2 p0.toNatClampNeg → (∀ y_47 : Int32, y_47 = y_44 + y_46 → (vp_in y_47 128 ∧ (∀ M_49 : Mm, M_49 = stM M_43 1 (upd (M_43 1) y_47.toNatClampNeg p2) → (vp_in p0 8 ∧ (∀ y_51 : Int32, y_51 = M_49 2 p0.toNatClampNeg → (∀ y_52 : Int32, y_52 = y_51 + 1 → (vp_in p0 8 ∧ (∀ M_54 : Mm, M_54 = stM M_49 2 (upd (M_49 2) p0.toNatClampNeg y_52) → (vp_in p0 8 ∧ (∀ y_56 : Int32, y_56 = M_54 2 p0.toNatClampNeg → (post y_56 M_54))))))))))))))))))))) ∧ (¬ r_35 = 0 → (post 0 M_36))))))))) ∧ (¬ r_4 = 0 → (wpXm_hasBegun p0 M_5 (fun r_7 M_8 => (wpXm_throwing 1 0 r_7 0 M_8 (fun r_10 M_11 => (((r_10 = 0 → (∀ y_13 : Int32, y_13 = (16 : Int32) * p0 → (vp_in p0 8 ∧ (∀ y_15 : Int32, y_15 = M_11 2 p0.toNatClampNeg → (∀ y_16 : Int32, y_16 = y_13 + y_15 → (vp_in y_16 128 ∧ (∀ M_18 : Mm, M_18 = stM M_11 0 (upd (M_11 0) y_16.toNatClampNeg p1) → (∀ y_19 : Int32, y_19 = (16 : Int32) * p0 → (vp_in p0 8 ∧ (∀ y_21 : Int32, y_21 = M_18 2 p0.toNatClampNeg → (∀ y_22 : Int32, y_22 = y_19 + y_21 → (vp_in y_22 128 ∧ (∀ M_24 : Mm, M_24 = stM M_18 1 (upd (M_18 1) y_22.toNatClampNeg p2) → (vp_in p0 8 ∧ (∀ y_26 : Int32, y_26 = M_24 2 p0.toNatClampNeg → (∀ y_27 : Int32, y_27 = y_26 + 1 → (vp_in p0 8 ∧ (∀ M_29 : Mm, M_29 = stM M_24 2 (upd (M_24 2) p0.toNatClampNeg y_27) → (vp_in p0 8 ∧ (∀ y_31 : Int32, y_31 = M_29 2 p0.toNatClampNeg → (post y_31 M_29))))))))))))))))))))) ∧ (¬ r_10 = 0 → (post 0 M_11)))))))))))))) ∧ (¬ r_1 = 0 → (wpXm_in p1 0 6 M_2 (fun r_57 M_58 => (((r_57 = 0 → (wpXm_in p2 0 255 M_58 (fun r_165 M_166 => (((r_165 = 0 → (wpXm_hasBegun p0 M_166 (fun r_193 M_194 => (wpXm_throwing 1 1 r_193 0 M_194 (fun r_196 M_197 => (((r_196 = 0 → (∀ y_199 : Int32, y_199 = (16 : Int32) * p0 → (vp_in p0 8 ∧ (∀ y_201 : Int32, y_201 = M_197 2 p0.toNatClampNeg → (∀ y_202 : Int32, y_202 = y_199 + y_201 → (vp_in y_202 128 ∧ (∀ M_204 : Mm, M_204 = stM M_197 0 (upd (M_197 0) y_202.toNatClampNeg p1) → (∀ y_205 : Int32, y_205 = (16 : Int32) * p0 → (vp_in p0 8 ∧ (∀ y_207 : Int32, y_207 = M_204 2 p0.toNatClampNeg → (∀ y_208 : Int32, y_208 = y_205 + y_207 → (vp_in y_208 128 ∧ (∀ M_210 : Mm, M_210 = stM M_204 1 (upd (M_204 1) y_208.toNatClampNeg p2) → (vp_in p0 8 ∧ (∀ y_212 : Int32, y_212 = M_210 2 p0.toNatClampNeg → (∀ y_213 : Int32, y_213 = y_212 + 1 → (vp_in p0 8 ∧ (∀ M_215 : Mm, M_215 = stM M_210 2 (upd (M_210 2) p0.toNatClampNeg y_213) → (vp_in p0 8 ∧ (∀ y_217 : Int32, y_217 = M_215 2 p0.toNatClampNeg → (post y_217 M_215))))))))))))))))))))) ∧ (¬ r_196 = 0 → (post 0 M_197))))))))) ∧ (¬ r_165 = 0 → (wpXm_hasBegun p0 M_166 (fun r_168 M_169 => (wpXm_throwing 1 0 r_168 0 M_169 (fun r_171 M_172 => (((r_171 = 0 → (∀ y_174 : Int32, y_174 = (16 : Int32) * p0 → (vp_in p0 8 ∧ (∀ y_176 : Int32, y_176 = M_172 2 p0.toNatClampNeg → (∀ y_177 : Int32, y_177 = y_174 + y_176 → (vp_in y_177 128 ∧ (∀ M_179 : Mm, M_179 = stM M_172 0 (upd (M_172 0) y_177.toNatClampNeg p1) → (∀ y_180 : Int32, y_180 = (16 : Int32) * p0 → (vp_in p0 8 ∧ (∀ y_182 : Int32, y_182 = M_179 2 p0.toNatClampNeg → (∀ y_183 : Int32, y_183 = y_180 + y_182 → (vp_in y_183 128 ∧ (∀ M_185 : Mm, M_185 = stM M_179 1 (upd (M_179 1) y_183.toNatClampNeg p2) → (vp_in p0 8 ∧ (∀ y_187 : Int32, y_187 = M_185 2 p0.toNatClampNeg → (∀ y_188 : Int32, y_188 = y_187 + 1 → (vp_in p0 8 ∧ (∀ M_190 : Mm, M_190 = stM M_185 2 (upd (M_185 2) p0.toNatClampNeg y_188) → (vp_in p0 8 ∧ (∀ y_192 : Int32, y_192 = M_190 2 p0.toNatClampNeg → (post y_192 M_190))))))))))))))))))))) ∧ (¬ r_171 = 0 → (post 0 M_172)))))))))))))) ∧ (¬ r_57 = 0 → (wpXm_in p2 0 255 M_58 (fun r_60 M_61 => (((r_60 = 0 → (wpXm_hasBegun p0 M_61 (fun r_114 M_115 => (vp_in p0 8 ∧ (∀ y_119 : Int32, y_119 = M_115 2 p0.toNatClampNeg → (((y_119 = 16 → (wpXm_throwing 0 1 r_114 1 M_115 (fun r_143 M_144 => (((r_143 = 0 → (∀ y_146 : Int32, y_146 = (16 : Int32) * p0 → (vp_in p0 8 ∧ (∀ y_148 : Int32, y_148 = M_144 2 p0.toNatClampNeg → (∀ y_149 : Int32, y_149 = y_146 + y_148 → (vp_in y_149 128 ∧ (∀ M_151 : Mm, M_151 = stM M_144 0 (upd (M_144 0) y_149.toNatClampNeg p1) → (∀ y_152 : Int32, y_152 = (16 : Int32) * p0 → (vp_in p0 8 ∧ (∀ y_154 : Int32, y_154 = M_151 2 p0.toNatClampNeg → (∀ y_155 : Int32, y_155 = y_152 + y_154 → (vp_in y_155 128 ∧ (∀ M_157 : Mm, M_157 = stM M_151 1 (upd (M_151 1) y_155.toNatClampNeg p2) → (vp_in p0 8 ∧ (∀ y_159 : Int32, y_159 = M_157 2 p0.toNatClampNeg → (∀ y_160 : Int32, y_160 = y_159 + 1 → (vp_in p0 8 ∧ (∀ M_162 : Mm, M_162 = stM M_157 2 (upd (M_157 2) p0.toNatClampNeg y_160) → (vp_in p0 8 ∧ (∀ y_164 : Int32, y_164 = M_162 2 p0.toNatClampNeg → (post y_164 M_162))))))))))))))))))))) ∧ (¬ r_143 = 0 → (post 0 M_144))))))) ∧ (¬ y_119 = 16 → (wpXm_throwing 0 1 r_114 0 M_115 (fun r_121 M_122 => (((r_121 = 0 → (∀ y_124 : Int32, y_124 = (16 : Int32) * p0 → (vp_in p0 8 ∧ (∀ y_126 : Int32, y_126 = M_122 2 p0.toNatClampNeg → (∀ y_127 : Int32, y_127 = y_124 + y_126 → (vp_in y_127 128 ∧ (∀ M_129 : Mm, M_129 = stM M_122 0 (upd (M_122 0) y_127.toNatClampNeg p1) → (∀ y_130 : Int32, y_130 = (16 : Int32) * p0 → (vp_in p0 8 ∧ (∀ y_132 : Int32, y_132 = M_129 2 p0.toNatClampNeg → (∀ y_133 : Int32, y_133 = y_130 + y_132 → (vp_in y_133 128 ∧ (∀ M_135 : Mm, M_135 = stM M_129 1 (upd (M_129 1) y_133.toNatClampNeg p2) → (vp_in p0 8 ∧ (∀ y_137 : Int32, y_137 = M_135 2 p0.toNatClampNeg → (∀ y_138 : Int32, y_138 = y_137 + 1 → (vp_in p0 8 ∧ (∀ M_140 : Mm, M_140 = stM M_135 2 (upd (M_135 2) p0.toNatClampNeg y_138) → (vp_in p0 8 ∧ (∀ y_142 : Int32, y_142 = M_140 2 p0.toNatClampNeg → (post y_142 M_140))))))))))))))))))))) ∧ (¬ r_121 = 0 → (post 0 M_122)))))))))))))) ∧ (¬ r_60 = 0 → (wpXm_hasBegun p0 M_61 (fun r_63 M_64 => (vp_in p0 8 ∧ (∀ y_68 : Int32, y_68 = M_64 2 p0.toNatClampNeg → (((y_68 = 16 → (wpXm_throwing 0 0 r_63 1 M_64 (fun r_92 M_93 => (((r_92 = 0 → (∀ y_95 : Int32, y_95 = (16 : Int32) * p0 → (vp_in p0 8 ∧ (∀ y_97 : Int32, y_97 = M_93 2 p0.toNatClampNeg → (∀ y_98 : Int32, y_98 = y_95 + y_97 → (vp_in y_98 128 ∧ (∀ M_100 : Mm, M_100 = stM M_93 0 (upd (M_93 0) y_98.toNatClampNeg p1) → (∀ y_101 : Int32, y_101 = (16 : Int32) * p0 → (vp_in p0 8 ∧ (∀ y_103 : Int32, y_103 = M_100 2 p0.toNatClampNeg → (∀ y_104 : Int32, y_104 = y_101 + y_103 → (vp_in y_104 128 ∧ (∀ M_106 : Mm, M_106 = stM M_100 1 (upd (M_100 1) y_104.toNatClampNeg p2) → (vp_in p0 8 ∧ (∀ y_108 : Int32, y_108 = M_106 2 p0.toNatClampNeg → (∀ y_109 : Int32, y_109 = y_108 + 1 → (vp_in p0 8 ∧ (∀ M_111 : Mm, M_111 = stM M_106 2 (upd (M_106 2) p0.toNatClampNeg y_109) → (vp_in p0 8 ∧ (∀ y_113 : Int32, y_113 = M_111 2 p0.toNatClampNeg → (post y_113 M_111))))))))))))))))))))) ∧ (¬ r_92 = 0 → (post 0 M_93))))))) ∧ (¬ y_68 = 16 → (wpXm_throwing 0 0 r_63 0 M_64 (fun r_70 M_71 => (((r_70 = 0 → (∀ y_73 : Int32, y_73 = (16 : Int32) * p0 → (vp_in p0 8 ∧ (∀ y_75 : Int32, y_75 = M_71 2 p0.toNatClampNeg → (∀ y_76 : Int32, y_76 = y_73 + y_75 → (vp_in y_76 128 ∧ (∀ M_78 : Mm, M_78 = stM M_71 0 (upd (M_71 0) y_76.toNatClampNeg p1) → (∀ y_79 : Int32, y_79 = (16 : Int32) * p0 → (vp_in p0 8 ∧ (∀ y_81 : Int32, y_81 = M_78 2 p0.toNatClampNeg → (∀ y_82 : Int32, y_82 = y_79 + y_81 → (vp_in y_82 128 ∧ (∀ M_84 : Mm, M_84 = stM M_78 1 (upd (M_78 1) y_82.toNatClampNeg p2) → (vp_in p0 8 ∧ (∀ y_86 : Int32, y_86 = M_84 2 p0.toNatClampNeg → (∀ y_87 : Int32, y_87 = y_86 + 1 → (vp_in p0 8 ∧ (∀ M_89 : Mm, M_89 = stM M_84 2 (upd (M_84 2) p0.toNatClampNeg y_87) → (vp_in p0 8 ∧ (∀ y_91 : Int32, y_91 = M_89 2 p0.toNatClampNeg → (post y_91 M_89))))))))))))))))))))) ∧ (¬ r_70 = 0 → (post 0 M_71)))))))))))))))))))))))))))
set_option maxHeartbeats 4000000 in
set_option maxRecDepth 100000 in
theorem mtXm_act (l : Launch) (dC : Nat → ClassId) (dI : Nat → Nat → Nat) (q : Nat → Nat) (dA : Nat → ClassId) (sz : Nat) (p0 : Int32) (p1 : Int32) (p2 : Int32) (M : Mm) (post : Int32 → Mm → Prop) (hw : wpXm_act p0 p1 p2 M post) : Met l yXm_act (wsA yXm_act cXm_act 5 (some .int)) ({ frames := 3, cells := 0, slots := 0, locals := 63 }) (va_Pc [.ref (q 0), .int p0, .int p1, .int p2] (pW (dC, dI) vwCl (wM q dA) (tM dA) sz M)) (va_Qi post (bW (dC, dI) vwCl (wM q dA) (tM dA) (va_A (wM q dA M) sz)) (va_A (wM q dA M) sz)) 0 0 (va_A (wM q dA M) sz) := by
  refine Met.ofW (cc := cXm_act) (maxL := 5) (ret := (some .int)) (by decide) rfl ?_
  intro p e s m args below meth c s₁ B hml hv
  obtain ⟨rfl, hsz, hP, hK, hD0⟩ := hv
  have hx := B.exec
  have hb := B.bytes
  have hr := B.returns
  have hts := atoms_spec (ws := (wsA yXm_act cXm_act 5 (some .int))) B.pre
  have hta : ∀ w ∈ wsG, w.before _ s = true := fun w h => hts w (List.mem_cons_of_mem _ h)
  have hown : s.vm.findClass "ServiceThreadsModel" = some m.cls := findClass_of_methodNamed B.named
  have hlocks := B.notSynchronized
  subst hsz
  have hD := hD0.self (sz := s.heap.size)
  generalize hAe : va_A (wM q dA M) s.heap.size = A at hD ⊢
  have hA : ∀ q : Nat, s.heap.size ≤ q → A q := fun q h => by rw [← hAe]; exact Or.inr h
  have hS : va_S A s.heap s.heap [] := va_S.rf
  dsimp only [wpXm_act] at hw
  have hl := lv_entry ([.ref (q 0), .int p0, .int p1, .int p2]) (n := 5) (Nat.le_of_ble_eq_true rfl)
  rw [lg_entry_eq]
  generalize (lg_sl ([.ref (q 0), .int p0, .int p1, .int p2]) ++ List.replicate (5 - (lg_sl ([.ref (q 0), .int p0, .int p1, .int p2])).length) Slot.unset).toArray = ls at hl ⊢
  have hl : lv_has ls 5 [(0, .ref (q 0)), (1, .int p0), (2, .int p1), (3, .int p2)] := hl
  refine lv_iload_n hx hb dXm_act_0 rfl (lv_at hl 1 rfl) ?_
  refine cn_i (w := (wM q dA)) (M := M) (wM_ad q dA) (va_runS (As := [.int p0]) (rest := []) ⟨hx, hb, hml, hown, hta⟩ (mtXm_isThread l dC dI q dA s.heap.size p0 M _ hw) (va_cwS 1 hta (giS wt_658 wt_659 wt_7 wt_660) rfl rfl rfl (by decide +kernel) ⟨Nat.le_of_ble_eq_true rfl, Nat.le_of_ble_eq_true rfl⟩) ⟨pW_blind, pW_of hK hP hD⟩ rfl rfl hl.1 rfl (lv_room (Nat.le_of_ble_eq_true rfl)) dXm_act_1 ⟨Nat.le_of_ble_eq_true rfl, Nat.le_of_ble_eq_true rfl⟩) hD hS hA (fun r_1 M_2 H locs hw hP hD hS => ?_)
  refine lv_if_eq (tgt := 17) hx hb dXm_act_4 (by decide) (fun c_3 => ?_) (fun c_3 => ?_)
  · have hw := hw.1 c_3
    refine lv_iconst (v := 1) hx hb dXm_act_17 (by decide) ?_
    refine lv_goto (tgt := 22) hx hb dXm_act_18 (by decide) ?_
    refine lv_istore (lv' := [(4, .int 1), (0, .ref (q 0)), (1, .int p0), (2, .int p1), (3, .int p2)]) hx hb dXm_act_22 hl (by decide) rfl (fun ls hl => ?_)
    refine lv_aload_n hx hb dXm_act_24 rfl (lv_at hl 1 rfl) ?_
    refine lv_iload hx hb dXm_act_25 (lv_at hl 0 rfl) ?_
    refine lv_iload_n hx hb dXm_act_27 rfl (lv_at hl 4 rfl) ?_
    refine lv_iconst (v := 0) hx hb dXm_act_28 (by decide) ?_
    refine lv_sipush (v := 255) hx hb dXm_act_29 (by decide) ?_
    refine cn_i (w := (wM q dA)) (M := M_2) (wM_ad q dA) (va_runS (As := [.int p2, .int 0, .int 255]) (rest := [.int 1, .ref (q 0)]) ⟨hx, hb, hml, hown, hta⟩ (mtXm_in l dC dI q dA H.size p2 0 255 M_2 _ hw) (va_cwS 3 hta (giS wt_661 wt_662 wt_7 wt_663) rfl rfl rfl (by decide +kernel) ⟨Nat.le_of_ble_eq_true rfl, Nat.le_of_ble_eq_true rfl⟩) ⟨pW_blind, pW_of hK hP hD⟩ rfl rfl hl.1 rfl (lv_room (Nat.le_of_ble_eq_true rfl)) dXm_act_32 ⟨Nat.le_of_ble_eq_true rfl, Nat.le_of_ble_eq_true rfl⟩) hD hS hA (fun r_4 M_5 H locs hw hP hD hS => ?_)
    refine lv_if_ne (tgt := 42) hx hb dXm_act_35 (by decide) (fun c_6 => ?_) (fun c_6 => ?_)
    · have hw := hw.2 c_6
      refine lv_iconst (v := 0) hx hb dXm_act_42 (by decide) ?_
      refine lv_aload_n hx hb dXm_act_43 rfl (lv_at hl 1 rfl) ?_
      refine lv_iload_n hx hb dXm_act_44 rfl (lv_at hl 2 rfl) ?_
      refine cn_i (w := (wM q dA)) (M := M_5) (wM_ad q dA) (va_runV (As := [.int p0]) (rest := [.int 0, .int 1, .ref (q 0)]) ⟨hx, hb, hml, hown, hta⟩ (mtXm_hasBegun l dC dI q dA H.size p0 M_5 _ hw) (cwV 1 hta (giV wt_664 wt_666 ws_18 wt_7 wt_667) rfl rfl rfl (by decide +kernel) ⟨Nat.le_of_ble_eq_true rfl, Nat.le_of_ble_eq_true rfl⟩) ⟨pW_blind, va_recv hK hP (ci := 5) (q0 := 0) rfl (wM_0 q dA M_5), pW_of hK hP hD⟩ rfl rfl hl.1 rfl (lv_room (Nat.le_of_ble_eq_true rfl)) dXm_act_45 ⟨Nat.le_of_ble_eq_true rfl, Nat.le_of_ble_eq_true rfl⟩) hD hS hA (fun r_7 M_8 H locs hw hP hD hS => ?_)
      refine lv_iload hx hb dXm_act_48 (lv_at hl 0 rfl) ?_
      refine lv_if_ne (tgt := 77) hx hb dXm_act_50 (by decide) (fun c_9 => ?_) (fun c_9 => absurd c_9 (by decide))
      · skip
        refine lv_iconst (v := 0) hx hb dXm_act_77 (by decide) ?_
        refine cn_i (w := (wM q dA)) (M := M_8) (wM_ad q dA) (va_runV (As := [.int 1, .int 0, .int r_7, .int 0]) (rest := []) ⟨hx, hb, hml, hown, hta⟩ (mtXm_throwing l dC dI q dA H.size 1 0 r_7 0 M_8 _ hw) (cwV 4 hta (giV wt_668 wt_670 ws_19 wt_7 wt_671) rfl rfl rfl (by decide +kernel) ⟨Nat.le_of_ble_eq_true rfl, Nat.le_of_ble_eq_true rfl⟩) ⟨pW_blind, va_recv hK hP (ci := 5) (q0 := 0) rfl (wM_0 q dA M_8), pW_of hK hP hD⟩ rfl rfl hl.1 rfl (lv_room (Nat.le_of_ble_eq_true rfl)) dXm_act_78 ⟨Nat.le_of_ble_eq_true rfl, Nat.le_of_ble_eq_true rfl⟩) hD hS hA (fun r_10 M_11 H locs hw hP hD hS => ?_)
        refine lv_if_eq (tgt := 86) hx hb dXm_act_81 (by decide) (fun c_12 => ?_) (fun c_12 => ?_)
        · have hw := hw.1 c_12
          refine lv_aload_n hx hb dXm_act_86 rfl (lv_at hl 1 rfl) ?_
          refine va_get (D := (dC, dI)) (ci := 5) (v := .ref (q 1)) (C := "ServiceThreadsModel") (T := TXm) (N := 28) hx hb hta inXm hown hK hP 0 (wM_0 q dA M_11) rfl 3 (by decide) (hta _ wt_568) (fun _ h9 => h9) rfl dXm_act_87 ?_
          refine lv_bipush (v := 16) hx hb dXm_act_90 (by decide) ?_
          refine lv_iload_n hx hb dXm_act_92 rfl (lv_at hl 2 rfl) ?_
          refine lv_imul hx hb dXm_act_93 ?_
          refine lv_topi (fun y_13 ey_13 => ?_)
          have hw := hw y_13 ey_13
          refine lv_aload_n hx hb dXm_act_94 rfl (lv_at hl 1 rfl) ?_
          refine va_get (D := (dC, dI)) (ci := 5) (v := .ref (q 3)) (C := "ServiceThreadsModel") (T := TXm) (N := 28) hx hb hta inXm hown hK hP 0 (wM_0 q dA M_11) rfl 5 (by decide) (hta _ wt_570) (fun _ h9 => h9) rfl dXm_act_95 ?_
          refine lv_iload_n hx hb dXm_act_98 rfl (lv_at hl 2 rfl) ?_
          obtain ⟨h_14, hw⟩ := hw
          refine ro_i (w := (wM q dA)) (M := M_11) hx hb hK hP 3 2 (wM_3 q dA M_11) rfl h_14 dXm_act_99 (fun y_15 ey_15 => ?_)
          have hw := hw y_15 ey_15
          refine lv_iadd hx hb dXm_act_100 ?_
          refine lv_topi (fun y_16 ey_16 => ?_)
          have hw := hw y_16 ey_16
          refine lv_iload_n hx hb dXm_act_101 rfl (lv_at hl 3 rfl) ?_
          obtain ⟨h_17, hw⟩ := hw
          refine wo_i (w := (wM q dA)) (M := M_11) hx hb hK hP hD hS 1 0 (wM_1 q dA M_11) (wM_s1 q dA M_11) rfl h_17 dXm_act_102 (fun M_18 H locs eM_18 hP hD hS => ?_)
          have hw := hw M_18 eM_18
          refine lv_aload_n hx hb dXm_act_103 rfl (lv_at hl 1 rfl) ?_
          refine va_get (D := (dC, dI)) (ci := 5) (v := .ref (q 2)) (C := "ServiceThreadsModel") (T := TXm) (N := 28) hx hb hta inXm hown hK hP 0 (wM_0 q dA M_18) rfl 4 (by decide) (hta _ wt_569) (fun _ h9 => h9) rfl dXm_act_104 ?_
          refine lv_bipush (v := 16) hx hb dXm_act_107 (by decide) ?_
          refine lv_iload_n hx hb dXm_act_109 rfl (lv_at hl 2 rfl) ?_
          refine lv_imul hx hb dXm_act_110 ?_
          refine lv_topi (fun y_19 ey_19 => ?_)
          have hw := hw y_19 ey_19
          refine lv_aload_n hx hb dXm_act_111 rfl (lv_at hl 1 rfl) ?_
          refine va_get (D := (dC, dI)) (ci := 5) (v := .ref (q 3)) (C := "ServiceThreadsModel") (T := TXm) (N := 28) hx hb hta inXm hown hK hP 0 (wM_0 q dA M_18) rfl 5 (by decide) (hta _ wt_570) (fun _ h9 => h9) rfl dXm_act_112 ?_
          refine lv_iload_n hx hb dXm_act_115 rfl (lv_at hl 2 rfl) ?_
          obtain ⟨h_20, hw⟩ := hw
          refine ro_i (w := (wM q dA)) (M := M_18) hx hb hK hP 3 2 (wM_3 q dA M_18) rfl h_20 dXm_act_116 (fun y_21 ey_21 => ?_)
          have hw := hw y_21 ey_21
          refine lv_iadd hx hb dXm_act_117 ?_
          refine lv_topi (fun y_22 ey_22 => ?_)
          have hw := hw y_22 ey_22
          refine lv_iload_n hx hb dXm_act_118 rfl (lv_at hl 4 rfl) ?_
          obtain ⟨h_23, hw⟩ := hw
          refine wo_i (w := (wM q dA)) (M := M_18) hx hb hK hP hD hS 2 1 (wM_2 q dA M_18) (wM_s2 q dA M_18) rfl h_23 dXm_act_119 (fun M_24 H locs eM_24 hP hD hS => ?_)
          have hw := hw M_24 eM_24
          refine lv_aload_n hx hb dXm_act_120 rfl (lv_at hl 1 rfl) ?_
          refine va_get (D := (dC, dI)) (ci := 5) (v := .ref (q 3)) (C := "ServiceThreadsModel") (T := TXm) (N := 28) hx hb hta inXm hown hK hP 0 (wM_0 q dA M_24) rfl 5 (by decide) (hta _ wt_570) (fun _ h9 => h9) rfl dXm_act_121 ?_
          refine lv_iload_n hx hb dXm_act_124 rfl (lv_at hl 2 rfl) ?_
          refine lv_dup2_11 hx hb dXm_act_125 rfl rfl ?_
          obtain ⟨h_25, hw⟩ := hw
          refine ro_i (w := (wM q dA)) (M := M_24) hx hb hK hP 3 2 (wM_3 q dA M_24) rfl h_25 dXm_act_126 (fun y_26 ey_26 => ?_)
          have hw := hw y_26 ey_26
          refine lv_iconst (v := 1) hx hb dXm_act_127 (by decide) ?_
          refine lv_iadd hx hb dXm_act_128 ?_
          refine lv_topi (fun y_27 ey_27 => ?_)
          have hw := hw y_27 ey_27
          obtain ⟨h_28, hw⟩ := hw
          refine wo_i (w := (wM q dA)) (M := M_24) hx hb hK hP hD hS 3 2 (wM_3 q dA M_24) (wM_s3 q dA M_24) rfl h_28 dXm_act_129 (fun M_29 H locs eM_29 hP hD hS => ?_)
          have hw := hw M_29 eM_29
          refine lv_aload_n hx hb dXm_act_130 rfl (lv_at hl 1 rfl) ?_
          refine va_get (D := (dC, dI)) (ci := 5) (v := .ref (q 3)) (C := "ServiceThreadsModel") (T := TXm) (N := 28) hx hb hta inXm hown hK hP 0 (wM_0 q dA M_29) rfl 5 (by decide) (hta _ wt_570) (fun _ h9 => h9) rfl dXm_act_131 ?_
          refine lv_iload_n hx hb dXm_act_134 rfl (lv_at hl 2 rfl) ?_
          obtain ⟨h_30, hw⟩ := hw
          refine ro_i (w := (wM q dA)) (M := M_29) hx hb hK hP 3 2 (wM_3 q dA M_29) rfl h_30 dXm_act_135 (fun y_31 ey_31 => ?_)
          have hw := hw y_31 ey_31
          exact W.iret (v := y_31) hx hb hr (fun t ht hW => ⟨⟨y_31, M_29, rfl, hw, by rw [ht]; exact hP, va_K.moved hW.alike hK, hD⟩, hS.F ht⟩) hS.2.2 dXm_act_136 hlocks
        · have hw := hw.2 c_12
          refine lv_iconst (v := 0) hx hb dXm_act_84 (by decide) ?_
          exact W.iret (v := 0) hx hb hr (fun t ht hW => ⟨⟨0, M_11, rfl, hw, by rw [ht]; exact hP, va_K.moved hW.alike hK, hD⟩, hS.F ht⟩) hS.2.2 dXm_act_85 hlocks
    · have hw := hw.1 c_6
      refine lv_iconst (v := 1) hx hb dXm_act_38 (by decide) ?_
      refine lv_goto (tgt := 43) hx hb dXm_act_39 (by decide) ?_
      refine lv_aload_n hx hb dXm_act_43 rfl (lv_at hl 1 rfl) ?_
      refine lv_iload_n hx hb dXm_act_44 rfl (lv_at hl 2 rfl) ?_
      refine cn_i (w := (wM q dA)) (M := M_5) (wM_ad q dA) (va_runV (As := [.int p0]) (rest := [.int 1, .int 1, .ref (q 0)]) ⟨hx, hb, hml, hown, hta⟩ (mtXm_hasBegun l dC dI q dA H.size p0 M_5 _ hw) (cwV 1 hta (giV wt_664 wt_666 ws_18 wt_7 wt_667) rfl rfl rfl (by decide +kernel) ⟨Nat.le_of_ble_eq_true rfl, Nat.le_of_ble_eq_true rfl⟩) ⟨pW_blind, va_recv hK hP (ci := 5) (q0 := 0) rfl (wM_0 q dA M_5), pW_of hK hP hD⟩ rfl rfl hl.1 rfl (lv_room (Nat.le_of_ble_eq_true rfl)) dXm_act_45 ⟨Nat.le_of_ble_eq_true rfl, Nat.le_of_ble_eq_true rfl⟩) hD hS hA (fun r_32 M_33 H locs hw hP hD hS => ?_)
      refine lv_iload hx hb dXm_act_48 (lv_at hl 0 rfl) ?_
      refine lv_if_ne (tgt := 77) hx hb dXm_act_50 (by decide) (fun c_34 => ?_) (fun c_34 => absurd c_34 (by decide))
      · skip
        refine lv_iconst (v := 0) hx hb dXm_act_77 (by decide) ?_
        refine cn_i (w := (wM q dA)) (M := M_33) (wM_ad q dA) (va_runV (As := [.int 1, .int 1, .int r_32, .int 0]) (rest := []) ⟨hx, hb, hml, hown, hta⟩ (mtXm_throwing l dC dI q dA H.size 1 1 r_32 0 M_33 _ hw) (cwV 4 hta (giV wt_668 wt_670 ws_19 wt_7 wt_671) rfl rfl rfl (by decide +kernel) ⟨Nat.le_of_ble_eq_true rfl, Nat.le_of_ble_eq_true rfl⟩) ⟨pW_blind, va_recv hK hP (ci := 5) (q0 := 0) rfl (wM_0 q dA M_33), pW_of hK hP hD⟩ rfl rfl hl.1 rfl (lv_room (Nat.le_of_ble_eq_true rfl)) dXm_act_78 ⟨Nat.le_of_ble_eq_true rfl, Nat.le_of_ble_eq_true rfl⟩) hD hS hA (fun r_35 M_36 H locs hw hP hD hS => ?_)
        refine lv_if_eq (tgt := 86) hx hb dXm_act_81 (by decide) (fun c_37 => ?_) (fun c_37 => ?_)
        · have hw := hw.1 c_37
          refine lv_aload_n hx hb dXm_act_86 rfl (lv_at hl 1 rfl) ?_
          refine va_get (D := (dC, dI)) (ci := 5) (v := .ref (q 1)) (C := "ServiceThreadsModel") (T := TXm) (N := 28) hx hb hta inXm hown hK hP 0 (wM_0 q dA M_36) rfl 3 (by decide) (hta _ wt_568) (fun _ h9 => h9) rfl dXm_act_87 ?_
          refine lv_bipush (v := 16) hx hb dXm_act_90 (by decide) ?_
          refine lv_iload_n hx hb dXm_act_92 rfl (lv_at hl 2 rfl) ?_
          refine lv_imul hx hb dXm_act_93 ?_
          refine lv_topi (fun y_38 ey_38 => ?_)
          have hw := hw y_38 ey_38
          refine lv_aload_n hx hb dXm_act_94 rfl (lv_at hl 1 rfl) ?_
          refine va_get (D := (dC, dI)) (ci := 5) (v := .ref (q 3)) (C := "ServiceThreadsModel") (T := TXm) (N := 28) hx hb hta inXm hown hK hP 0 (wM_0 q dA M_36) rfl 5 (by decide) (hta _ wt_570) (fun _ h9 => h9) rfl dXm_act_95 ?_
          refine lv_iload_n hx hb dXm_act_98 rfl (lv_at hl 2 rfl) ?_
          obtain ⟨h_39, hw⟩ := hw
          refine ro_i (w := (wM q dA)) (M := M_36) hx hb hK hP 3 2 (wM_3 q dA M_36) rfl h_39 dXm_act_99 (fun y_40 ey_40 => ?_)
          have hw := hw y_40 ey_40
          refine lv_iadd hx hb dXm_act_100 ?_
          refine lv_topi (fun y_41 ey_41 => ?_)
          have hw := hw y_41 ey_41
          refine lv_iload_n hx hb dXm_act_101 rfl (lv_at hl 3 rfl) ?_
          obtain ⟨h_42, hw⟩ := hw
          refine wo_i (w := (wM q dA)) (M := M_36) hx hb hK hP hD hS 1 0 (wM_1 q dA M_36) (wM_s1 q dA M_36) rfl h_42 dXm_act_102 (fun M_43 H locs eM_43 hP hD hS => ?_)
          have hw := hw M_43 eM_43
          refine lv_aload_n hx hb dXm_act_103 rfl (lv_at hl 1 rfl) ?_
          refine va_get (D := (dC, dI)) (ci := 5) (v := .ref (q 2)) (C := "ServiceThreadsModel") (T := TXm) (N := 28) hx hb hta inXm hown hK hP 0 (wM_0 q dA M_43) rfl 4 (by decide) (hta _ wt_569) (fun _ h9 => h9) rfl dXm_act_104 ?_
          refine lv_bipush (v := 16) hx hb dXm_act_107 (by decide) ?_
          refine lv_iload_n hx hb dXm_act_109 rfl (lv_at hl 2 rfl) ?_
          refine lv_imul hx hb dXm_act_110 ?_
          refine lv_topi (fun y_44 ey_44 => ?_)
          have hw := hw y_44 ey_44
          refine lv_aload_n hx hb dXm_act_111 rfl (lv_at hl 1 rfl) ?_
          refine va_get (D := (dC, dI)) (ci := 5) (v := .ref (q 3)) (C := "ServiceThreadsModel") (T := TXm) (N := 28) hx hb hta inXm hown hK hP 0 (wM_0 q dA M_43) rfl 5 (by decide) (hta _ wt_570) (fun _ h9 => h9) rfl dXm_act_112 ?_
          refine lv_iload_n hx hb dXm_act_115 rfl (lv_at hl 2 rfl) ?_
          obtain ⟨h_45, hw⟩ := hw
          refine ro_i (w := (wM q dA)) (M := M_43) hx hb hK hP 3 2 (wM_3 q dA M_43) rfl h_45 dXm_act_116 (fun y_46 ey_46 => ?_)
          have hw := hw y_46 ey_46
          refine lv_iadd hx hb dXm_act_117 ?_
          refine lv_topi (fun y_47 ey_47 => ?_)
          have hw := hw y_47 ey_47
          refine lv_iload_n hx hb dXm_act_118 rfl (lv_at hl 4 rfl) ?_
          obtain ⟨h_48, hw⟩ := hw
          refine wo_i (w := (wM q dA)) (M := M_43) hx hb hK hP hD hS 2 1 (wM_2 q dA M_43) (wM_s2 q dA M_43) rfl h_48 dXm_act_119 (fun M_49 H locs eM_49 hP hD hS => ?_)
          have hw := hw M_49 eM_49
          refine lv_aload_n hx hb dXm_act_120 rfl (lv_at hl 1 rfl) ?_
          refine va_get (D := (dC, dI)) (ci := 5) (v := .ref (q 3)) (C := "ServiceThreadsModel") (T := TXm) (N := 28) hx hb hta inXm hown hK hP 0 (wM_0 q dA M_49) rfl 5 (by decide) (hta _ wt_570) (fun _ h9 => h9) rfl dXm_act_121 ?_
          refine lv_iload_n hx hb dXm_act_124 rfl (lv_at hl 2 rfl) ?_
          refine lv_dup2_11 hx hb dXm_act_125 rfl rfl ?_
          obtain ⟨h_50, hw⟩ := hw
          refine ro_i (w := (wM q dA)) (M := M_49) hx hb hK hP 3 2 (wM_3 q dA M_49) rfl h_50 dXm_act_126 (fun y_51 ey_51 => ?_)
          have hw := hw y_51 ey_51
          refine lv_iconst (v := 1) hx hb dXm_act_127 (by decide) ?_
          refine lv_iadd hx hb dXm_act_128 ?_
          refine lv_topi (fun y_52 ey_52 => ?_)
          have hw := hw y_52 ey_52
          obtain ⟨h_53, hw⟩ := hw
          refine wo_i (w := (wM q dA)) (M := M_49) hx hb hK hP hD hS 3 2 (wM_3 q dA M_49) (wM_s3 q dA M_49) rfl h_53 dXm_act_129 (fun M_54 H locs eM_54 hP hD hS => ?_)
          have hw := hw M_54 eM_54
          refine lv_aload_n hx hb dXm_act_130 rfl (lv_at hl 1 rfl) ?_
          refine va_get (D := (dC, dI)) (ci := 5) (v := .ref (q 3)) (C := "ServiceThreadsModel") (T := TXm) (N := 28) hx hb hta inXm hown hK hP 0 (wM_0 q dA M_54) rfl 5 (by decide) (hta _ wt_570) (fun _ h9 => h9) rfl dXm_act_131 ?_
          refine lv_iload_n hx hb dXm_act_134 rfl (lv_at hl 2 rfl) ?_
          obtain ⟨h_55, hw⟩ := hw
          refine ro_i (w := (wM q dA)) (M := M_54) hx hb hK hP 3 2 (wM_3 q dA M_54) rfl h_55 dXm_act_135 (fun y_56 ey_56 => ?_)
          have hw := hw y_56 ey_56
          exact W.iret (v := y_56) hx hb hr (fun t ht hW => ⟨⟨y_56, M_54, rfl, hw, by rw [ht]; exact hP, va_K.moved hW.alike hK, hD⟩, hS.F ht⟩) hS.2.2 dXm_act_136 hlocks
        · have hw := hw.2 c_37
          refine lv_iconst (v := 0) hx hb dXm_act_84 (by decide) ?_
          exact W.iret (v := 0) hx hb hr (fun t ht hW => ⟨⟨0, M_36, rfl, hw, by rw [ht]; exact hP, va_K.moved hW.alike hK, hD⟩, hS.F ht⟩) hS.2.2 dXm_act_85 hlocks
  · have hw := hw.2 c_3
    refine lv_iload_n hx hb dXm_act_7 rfl (lv_at hl 2 rfl) ?_
    refine lv_iconst (v := 0) hx hb dXm_act_8 (by decide) ?_
    refine lv_bipush (v := 6) hx hb dXm_act_9 (by decide) ?_
    refine cn_i (w := (wM q dA)) (M := M_2) (wM_ad q dA) (va_runS (As := [.int p1, .int 0, .int 6]) (rest := []) ⟨hx, hb, hml, hown, hta⟩ (mtXm_in l dC dI q dA H.size p1 0 6 M_2 _ hw) (va_cwS 3 hta (giS wt_661 wt_662 wt_7 wt_663) rfl rfl rfl (by decide +kernel) ⟨Nat.le_of_ble_eq_true rfl, Nat.le_of_ble_eq_true rfl⟩) ⟨pW_blind, pW_of hK hP hD⟩ rfl rfl hl.1 rfl (lv_room (Nat.le_of_ble_eq_true rfl)) dXm_act_11 ⟨Nat.le_of_ble_eq_true rfl, Nat.le_of_ble_eq_true rfl⟩) hD hS hA (fun r_57 M_58 H locs hw hP hD hS => ?_)
    refine lv_if_ne (tgt := 21) hx hb dXm_act_14 (by decide) (fun c_59 => ?_) (fun c_59 => ?_)
    · have hw := hw.2 c_59
      refine lv_iconst (v := 0) hx hb dXm_act_21 (by decide) ?_
      refine lv_istore (lv' := [(4, .int 0), (0, .ref (q 0)), (1, .int p0), (2, .int p1), (3, .int p2)]) hx hb dXm_act_22 hl (by decide) rfl (fun ls hl => ?_)
      refine lv_aload_n hx hb dXm_act_24 rfl (lv_at hl 1 rfl) ?_
      refine lv_iload hx hb dXm_act_25 (lv_at hl 0 rfl) ?_
      refine lv_iload_n hx hb dXm_act_27 rfl (lv_at hl 4 rfl) ?_
      refine lv_iconst (v := 0) hx hb dXm_act_28 (by decide) ?_
      refine lv_sipush (v := 255) hx hb dXm_act_29 (by decide) ?_
      refine cn_i (w := (wM q dA)) (M := M_58) (wM_ad q dA) (va_runS (As := [.int p2, .int 0, .int 255]) (rest := [.int 0, .ref (q 0)]) ⟨hx, hb, hml, hown, hta⟩ (mtXm_in l dC dI q dA H.size p2 0 255 M_58 _ hw) (va_cwS 3 hta (giS wt_661 wt_662 wt_7 wt_663) rfl rfl rfl (by decide +kernel) ⟨Nat.le_of_ble_eq_true rfl, Nat.le_of_ble_eq_true rfl⟩) ⟨pW_blind, pW_of hK hP hD⟩ rfl rfl hl.1 rfl (lv_room (Nat.le_of_ble_eq_true rfl)) dXm_act_32 ⟨Nat.le_of_ble_eq_true rfl, Nat.le_of_ble_eq_true rfl⟩) hD hS hA (fun r_60 M_61 H locs hw hP hD hS => ?_)
      refine lv_if_ne (tgt := 42) hx hb dXm_act_35 (by decide) (fun c_62 => ?_) (fun c_62 => ?_)
      · have hw := hw.2 c_62
        refine lv_iconst (v := 0) hx hb dXm_act_42 (by decide) ?_
        refine lv_aload_n hx hb dXm_act_43 rfl (lv_at hl 1 rfl) ?_
        refine lv_iload_n hx hb dXm_act_44 rfl (lv_at hl 2 rfl) ?_
        refine cn_i (w := (wM q dA)) (M := M_61) (wM_ad q dA) (va_runV (As := [.int p0]) (rest := [.int 0, .int 0, .ref (q 0)]) ⟨hx, hb, hml, hown, hta⟩ (mtXm_hasBegun l dC dI q dA H.size p0 M_61 _ hw) (cwV 1 hta (giV wt_664 wt_666 ws_18 wt_7 wt_667) rfl rfl rfl (by decide +kernel) ⟨Nat.le_of_ble_eq_true rfl, Nat.le_of_ble_eq_true rfl⟩) ⟨pW_blind, va_recv hK hP (ci := 5) (q0 := 0) rfl (wM_0 q dA M_61), pW_of hK hP hD⟩ rfl rfl hl.1 rfl (lv_room (Nat.le_of_ble_eq_true rfl)) dXm_act_45 ⟨Nat.le_of_ble_eq_true rfl, Nat.le_of_ble_eq_true rfl⟩) hD hS hA (fun r_63 M_64 H locs hw hP hD hS => ?_)
        refine lv_iload hx hb dXm_act_48 (lv_at hl 0 rfl) ?_
        refine lv_if_ne (tgt := 77) hx hb dXm_act_50 (by decide) (fun c_65 => absurd c_65 (by decide)) (fun c_65 => ?_)
        · skip
          refine lv_aload_n hx hb dXm_act_53 rfl (lv_at hl 1 rfl) ?_
          refine va_get (D := (dC, dI)) (ci := 5) (v := .ref (q 3)) (C := "ServiceThreadsModel") (T := TXm) (N := 28) hx hb hta inXm hown hK hP 0 (wM_0 q dA M_64) rfl 5 (by decide) (hta _ wt_570) (fun _ h9 => h9) rfl dXm_act_54 ?_
          refine lv_iload hx hb dXm_act_57 (lv_at hl 0 rfl) ?_
          refine lv_if_eq (tgt := 66) hx hb dXm_act_59 (by decide) (fun c_66 => ?_) (fun c_66 => absurd c_66 (by decide))
          · skip
            refine lv_iload_n hx hb dXm_act_66 rfl (lv_at hl 2 rfl) ?_
            obtain ⟨h_67, hw⟩ := hw
            refine ro_i (w := (wM q dA)) (M := M_64) hx hb hK hP 3 2 (wM_3 q dA M_64) rfl h_67 dXm_act_67 (fun y_68 ey_68 => ?_)
            have hw := hw y_68 ey_68
            refine lv_bipush (v := 16) hx hb dXm_act_68 (by decide) ?_
            refine lv_icmp_ne (tgt := 77) hx hb dXm_act_70 (by decide) (fun c_69 => ?_) (fun c_69 => ?_)
            · have hw := hw.2 c_69
              refine lv_iconst (v := 0) hx hb dXm_act_77 (by decide) ?_
              refine cn_i (w := (wM q dA)) (M := M_64) (wM_ad q dA) (va_runV (As := [.int 0, .int 0, .int r_63, .int 0]) (rest := []) ⟨hx, hb, hml, hown, hta⟩ (mtXm_throwing l dC dI q dA H.size 0 0 r_63 0 M_64 _ hw) (cwV 4 hta (giV wt_668 wt_670 ws_19 wt_7 wt_671) rfl rfl rfl (by decide +kernel) ⟨Nat.le_of_ble_eq_true rfl, Nat.le_of_ble_eq_true rfl⟩) ⟨pW_blind, va_recv hK hP (ci := 5) (q0 := 0) rfl (wM_0 q dA M_64), pW_of hK hP hD⟩ rfl rfl hl.1 rfl (lv_room (Nat.le_of_ble_eq_true rfl)) dXm_act_78 ⟨Nat.le_of_ble_eq_true rfl, Nat.le_of_ble_eq_true rfl⟩) hD hS hA (fun r_70 M_71 H locs hw hP hD hS => ?_)
              refine lv_if_eq (tgt := 86) hx hb dXm_act_81 (by decide) (fun c_72 => ?_) (fun c_72 => ?_)
              · have hw := hw.1 c_72
                refine lv_aload_n hx hb dXm_act_86 rfl (lv_at hl 1 rfl) ?_
                refine va_get (D := (dC, dI)) (ci := 5) (v := .ref (q 1)) (C := "ServiceThreadsModel") (T := TXm) (N := 28) hx hb hta inXm hown hK hP 0 (wM_0 q dA M_71) rfl 3 (by decide) (hta _ wt_568) (fun _ h9 => h9) rfl dXm_act_87 ?_
                refine lv_bipush (v := 16) hx hb dXm_act_90 (by decide) ?_
                refine lv_iload_n hx hb dXm_act_92 rfl (lv_at hl 2 rfl) ?_
                refine lv_imul hx hb dXm_act_93 ?_
                refine lv_topi (fun y_73 ey_73 => ?_)
                have hw := hw y_73 ey_73
                refine lv_aload_n hx hb dXm_act_94 rfl (lv_at hl 1 rfl) ?_
                refine va_get (D := (dC, dI)) (ci := 5) (v := .ref (q 3)) (C := "ServiceThreadsModel") (T := TXm) (N := 28) hx hb hta inXm hown hK hP 0 (wM_0 q dA M_71) rfl 5 (by decide) (hta _ wt_570) (fun _ h9 => h9) rfl dXm_act_95 ?_
                refine lv_iload_n hx hb dXm_act_98 rfl (lv_at hl 2 rfl) ?_
                obtain ⟨h_74, hw⟩ := hw
                refine ro_i (w := (wM q dA)) (M := M_71) hx hb hK hP 3 2 (wM_3 q dA M_71) rfl h_74 dXm_act_99 (fun y_75 ey_75 => ?_)
                have hw := hw y_75 ey_75
                refine lv_iadd hx hb dXm_act_100 ?_
                refine lv_topi (fun y_76 ey_76 => ?_)
                have hw := hw y_76 ey_76
                refine lv_iload_n hx hb dXm_act_101 rfl (lv_at hl 3 rfl) ?_
                obtain ⟨h_77, hw⟩ := hw
                refine wo_i (w := (wM q dA)) (M := M_71) hx hb hK hP hD hS 1 0 (wM_1 q dA M_71) (wM_s1 q dA M_71) rfl h_77 dXm_act_102 (fun M_78 H locs eM_78 hP hD hS => ?_)
                have hw := hw M_78 eM_78
                refine lv_aload_n hx hb dXm_act_103 rfl (lv_at hl 1 rfl) ?_
                refine va_get (D := (dC, dI)) (ci := 5) (v := .ref (q 2)) (C := "ServiceThreadsModel") (T := TXm) (N := 28) hx hb hta inXm hown hK hP 0 (wM_0 q dA M_78) rfl 4 (by decide) (hta _ wt_569) (fun _ h9 => h9) rfl dXm_act_104 ?_
                refine lv_bipush (v := 16) hx hb dXm_act_107 (by decide) ?_
                refine lv_iload_n hx hb dXm_act_109 rfl (lv_at hl 2 rfl) ?_
                refine lv_imul hx hb dXm_act_110 ?_
                refine lv_topi (fun y_79 ey_79 => ?_)
                have hw := hw y_79 ey_79
                refine lv_aload_n hx hb dXm_act_111 rfl (lv_at hl 1 rfl) ?_
                refine va_get (D := (dC, dI)) (ci := 5) (v := .ref (q 3)) (C := "ServiceThreadsModel") (T := TXm) (N := 28) hx hb hta inXm hown hK hP 0 (wM_0 q dA M_78) rfl 5 (by decide) (hta _ wt_570) (fun _ h9 => h9) rfl dXm_act_112 ?_
                refine lv_iload_n hx hb dXm_act_115 rfl (lv_at hl 2 rfl) ?_
                obtain ⟨h_80, hw⟩ := hw
                refine ro_i (w := (wM q dA)) (M := M_78) hx hb hK hP 3 2 (wM_3 q dA M_78) rfl h_80 dXm_act_116 (fun y_81 ey_81 => ?_)
                have hw := hw y_81 ey_81
                refine lv_iadd hx hb dXm_act_117 ?_
                refine lv_topi (fun y_82 ey_82 => ?_)
                have hw := hw y_82 ey_82
                refine lv_iload_n hx hb dXm_act_118 rfl (lv_at hl 4 rfl) ?_
                obtain ⟨h_83, hw⟩ := hw
                refine wo_i (w := (wM q dA)) (M := M_78) hx hb hK hP hD hS 2 1 (wM_2 q dA M_78) (wM_s2 q dA M_78) rfl h_83 dXm_act_119 (fun M_84 H locs eM_84 hP hD hS => ?_)
                have hw := hw M_84 eM_84
                refine lv_aload_n hx hb dXm_act_120 rfl (lv_at hl 1 rfl) ?_
                refine va_get (D := (dC, dI)) (ci := 5) (v := .ref (q 3)) (C := "ServiceThreadsModel") (T := TXm) (N := 28) hx hb hta inXm hown hK hP 0 (wM_0 q dA M_84) rfl 5 (by decide) (hta _ wt_570) (fun _ h9 => h9) rfl dXm_act_121 ?_
                refine lv_iload_n hx hb dXm_act_124 rfl (lv_at hl 2 rfl) ?_
                refine lv_dup2_11 hx hb dXm_act_125 rfl rfl ?_
                obtain ⟨h_85, hw⟩ := hw
                refine ro_i (w := (wM q dA)) (M := M_84) hx hb hK hP 3 2 (wM_3 q dA M_84) rfl h_85 dXm_act_126 (fun y_86 ey_86 => ?_)
                have hw := hw y_86 ey_86
                refine lv_iconst (v := 1) hx hb dXm_act_127 (by decide) ?_
                refine lv_iadd hx hb dXm_act_128 ?_
                refine lv_topi (fun y_87 ey_87 => ?_)
                have hw := hw y_87 ey_87
                obtain ⟨h_88, hw⟩ := hw
                refine wo_i (w := (wM q dA)) (M := M_84) hx hb hK hP hD hS 3 2 (wM_3 q dA M_84) (wM_s3 q dA M_84) rfl h_88 dXm_act_129 (fun M_89 H locs eM_89 hP hD hS => ?_)
                have hw := hw M_89 eM_89
                refine lv_aload_n hx hb dXm_act_130 rfl (lv_at hl 1 rfl) ?_
                refine va_get (D := (dC, dI)) (ci := 5) (v := .ref (q 3)) (C := "ServiceThreadsModel") (T := TXm) (N := 28) hx hb hta inXm hown hK hP 0 (wM_0 q dA M_89) rfl 5 (by decide) (hta _ wt_570) (fun _ h9 => h9) rfl dXm_act_131 ?_
                refine lv_iload_n hx hb dXm_act_134 rfl (lv_at hl 2 rfl) ?_
                obtain ⟨h_90, hw⟩ := hw
                refine ro_i (w := (wM q dA)) (M := M_89) hx hb hK hP 3 2 (wM_3 q dA M_89) rfl h_90 dXm_act_135 (fun y_91 ey_91 => ?_)
                have hw := hw y_91 ey_91
                exact W.iret (v := y_91) hx hb hr (fun t ht hW => ⟨⟨y_91, M_89, rfl, hw, by rw [ht]; exact hP, va_K.moved hW.alike hK, hD⟩, hS.F ht⟩) hS.2.2 dXm_act_136 hlocks
              · have hw := hw.2 c_72
                refine lv_iconst (v := 0) hx hb dXm_act_84 (by decide) ?_
                exact W.iret (v := 0) hx hb hr (fun t ht hW => ⟨⟨0, M_71, rfl, hw, by rw [ht]; exact hP, va_K.moved hW.alike hK, hD⟩, hS.F ht⟩) hS.2.2 dXm_act_85 hlocks
            · have hw := hw.1 c_69
              refine lv_iconst (v := 1) hx hb dXm_act_73 (by decide) ?_
              refine lv_goto (tgt := 78) hx hb dXm_act_74 (by decide) ?_
              refine cn_i (w := (wM q dA)) (M := M_64) (wM_ad q dA) (va_runV (As := [.int 0, .int 0, .int r_63, .int 1]) (rest := []) ⟨hx, hb, hml, hown, hta⟩ (mtXm_throwing l dC dI q dA H.size 0 0 r_63 1 M_64 _ hw) (cwV 4 hta (giV wt_668 wt_670 ws_19 wt_7 wt_671) rfl rfl rfl (by decide +kernel) ⟨Nat.le_of_ble_eq_true rfl, Nat.le_of_ble_eq_true rfl⟩) ⟨pW_blind, va_recv hK hP (ci := 5) (q0 := 0) rfl (wM_0 q dA M_64), pW_of hK hP hD⟩ rfl rfl hl.1 rfl (lv_room (Nat.le_of_ble_eq_true rfl)) dXm_act_78 ⟨Nat.le_of_ble_eq_true rfl, Nat.le_of_ble_eq_true rfl⟩) hD hS hA (fun r_92 M_93 H locs hw hP hD hS => ?_)
              refine lv_if_eq (tgt := 86) hx hb dXm_act_81 (by decide) (fun c_94 => ?_) (fun c_94 => ?_)
              · have hw := hw.1 c_94
                refine lv_aload_n hx hb dXm_act_86 rfl (lv_at hl 1 rfl) ?_
                refine va_get (D := (dC, dI)) (ci := 5) (v := .ref (q 1)) (C := "ServiceThreadsModel") (T := TXm) (N := 28) hx hb hta inXm hown hK hP 0 (wM_0 q dA M_93) rfl 3 (by decide) (hta _ wt_568) (fun _ h9 => h9) rfl dXm_act_87 ?_
                refine lv_bipush (v := 16) hx hb dXm_act_90 (by decide) ?_
                refine lv_iload_n hx hb dXm_act_92 rfl (lv_at hl 2 rfl) ?_
                refine lv_imul hx hb dXm_act_93 ?_
                refine lv_topi (fun y_95 ey_95 => ?_)
                have hw := hw y_95 ey_95
                refine lv_aload_n hx hb dXm_act_94 rfl (lv_at hl 1 rfl) ?_
                refine va_get (D := (dC, dI)) (ci := 5) (v := .ref (q 3)) (C := "ServiceThreadsModel") (T := TXm) (N := 28) hx hb hta inXm hown hK hP 0 (wM_0 q dA M_93) rfl 5 (by decide) (hta _ wt_570) (fun _ h9 => h9) rfl dXm_act_95 ?_
                refine lv_iload_n hx hb dXm_act_98 rfl (lv_at hl 2 rfl) ?_
                obtain ⟨h_96, hw⟩ := hw
                refine ro_i (w := (wM q dA)) (M := M_93) hx hb hK hP 3 2 (wM_3 q dA M_93) rfl h_96 dXm_act_99 (fun y_97 ey_97 => ?_)
                have hw := hw y_97 ey_97
                refine lv_iadd hx hb dXm_act_100 ?_
                refine lv_topi (fun y_98 ey_98 => ?_)
                have hw := hw y_98 ey_98
                refine lv_iload_n hx hb dXm_act_101 rfl (lv_at hl 3 rfl) ?_
                obtain ⟨h_99, hw⟩ := hw
                refine wo_i (w := (wM q dA)) (M := M_93) hx hb hK hP hD hS 1 0 (wM_1 q dA M_93) (wM_s1 q dA M_93) rfl h_99 dXm_act_102 (fun M_100 H locs eM_100 hP hD hS => ?_)
                have hw := hw M_100 eM_100
                refine lv_aload_n hx hb dXm_act_103 rfl (lv_at hl 1 rfl) ?_
                refine va_get (D := (dC, dI)) (ci := 5) (v := .ref (q 2)) (C := "ServiceThreadsModel") (T := TXm) (N := 28) hx hb hta inXm hown hK hP 0 (wM_0 q dA M_100) rfl 4 (by decide) (hta _ wt_569) (fun _ h9 => h9) rfl dXm_act_104 ?_
                refine lv_bipush (v := 16) hx hb dXm_act_107 (by decide) ?_
                refine lv_iload_n hx hb dXm_act_109 rfl (lv_at hl 2 rfl) ?_
                refine lv_imul hx hb dXm_act_110 ?_
                refine lv_topi (fun y_101 ey_101 => ?_)
                have hw := hw y_101 ey_101
                refine lv_aload_n hx hb dXm_act_111 rfl (lv_at hl 1 rfl) ?_
                refine va_get (D := (dC, dI)) (ci := 5) (v := .ref (q 3)) (C := "ServiceThreadsModel") (T := TXm) (N := 28) hx hb hta inXm hown hK hP 0 (wM_0 q dA M_100) rfl 5 (by decide) (hta _ wt_570) (fun _ h9 => h9) rfl dXm_act_112 ?_
                refine lv_iload_n hx hb dXm_act_115 rfl (lv_at hl 2 rfl) ?_
                obtain ⟨h_102, hw⟩ := hw
                refine ro_i (w := (wM q dA)) (M := M_100) hx hb hK hP 3 2 (wM_3 q dA M_100) rfl h_102 dXm_act_116 (fun y_103 ey_103 => ?_)
                have hw := hw y_103 ey_103
                refine lv_iadd hx hb dXm_act_117 ?_
                refine lv_topi (fun y_104 ey_104 => ?_)
                have hw := hw y_104 ey_104
                refine lv_iload_n hx hb dXm_act_118 rfl (lv_at hl 4 rfl) ?_
                obtain ⟨h_105, hw⟩ := hw
                refine wo_i (w := (wM q dA)) (M := M_100) hx hb hK hP hD hS 2 1 (wM_2 q dA M_100) (wM_s2 q dA M_100) rfl h_105 dXm_act_119 (fun M_106 H locs eM_106 hP hD hS => ?_)
                have hw := hw M_106 eM_106
                refine lv_aload_n hx hb dXm_act_120 rfl (lv_at hl 1 rfl) ?_
                refine va_get (D := (dC, dI)) (ci := 5) (v := .ref (q 3)) (C := "ServiceThreadsModel") (T := TXm) (N := 28) hx hb hta inXm hown hK hP 0 (wM_0 q dA M_106) rfl 5 (by decide) (hta _ wt_570) (fun _ h9 => h9) rfl dXm_act_121 ?_
                refine lv_iload_n hx hb dXm_act_124 rfl (lv_at hl 2 rfl) ?_
                refine lv_dup2_11 hx hb dXm_act_125 rfl rfl ?_
                obtain ⟨h_107, hw⟩ := hw
                refine ro_i (w := (wM q dA)) (M := M_106) hx hb hK hP 3 2 (wM_3 q dA M_106) rfl h_107 dXm_act_126 (fun y_108 ey_108 => ?_)
                have hw := hw y_108 ey_108
                refine lv_iconst (v := 1) hx hb dXm_act_127 (by decide) ?_
                refine lv_iadd hx hb dXm_act_128 ?_
                refine lv_topi (fun y_109 ey_109 => ?_)
                have hw := hw y_109 ey_109
                obtain ⟨h_110, hw⟩ := hw
                refine wo_i (w := (wM q dA)) (M := M_106) hx hb hK hP hD hS 3 2 (wM_3 q dA M_106) (wM_s3 q dA M_106) rfl h_110 dXm_act_129 (fun M_111 H locs eM_111 hP hD hS => ?_)
                have hw := hw M_111 eM_111
                refine lv_aload_n hx hb dXm_act_130 rfl (lv_at hl 1 rfl) ?_
                refine va_get (D := (dC, dI)) (ci := 5) (v := .ref (q 3)) (C := "ServiceThreadsModel") (T := TXm) (N := 28) hx hb hta inXm hown hK hP 0 (wM_0 q dA M_111) rfl 5 (by decide) (hta _ wt_570) (fun _ h9 => h9) rfl dXm_act_131 ?_
                refine lv_iload_n hx hb dXm_act_134 rfl (lv_at hl 2 rfl) ?_
                obtain ⟨h_112, hw⟩ := hw
                refine ro_i (w := (wM q dA)) (M := M_111) hx hb hK hP 3 2 (wM_3 q dA M_111) rfl h_112 dXm_act_135 (fun y_113 ey_113 => ?_)
                have hw := hw y_113 ey_113
                exact W.iret (v := y_113) hx hb hr (fun t ht hW => ⟨⟨y_113, M_111, rfl, hw, by rw [ht]; exact hP, va_K.moved hW.alike hK, hD⟩, hS.F ht⟩) hS.2.2 dXm_act_136 hlocks
              · have hw := hw.2 c_94
                refine lv_iconst (v := 0) hx hb dXm_act_84 (by decide) ?_
                exact W.iret (v := 0) hx hb hr (fun t ht hW => ⟨⟨0, M_93, rfl, hw, by rw [ht]; exact hP, va_K.moved hW.alike hK, hD⟩, hS.F ht⟩) hS.2.2 dXm_act_85 hlocks
      · have hw := hw.1 c_62
        refine lv_iconst (v := 1) hx hb dXm_act_38 (by decide) ?_
        refine lv_goto (tgt := 43) hx hb dXm_act_39 (by decide) ?_
        refine lv_aload_n hx hb dXm_act_43 rfl (lv_at hl 1 rfl) ?_
        refine lv_iload_n hx hb dXm_act_44 rfl (lv_at hl 2 rfl) ?_
        refine cn_i (w := (wM q dA)) (M := M_61) (wM_ad q dA) (va_runV (As := [.int p0]) (rest := [.int 1, .int 0, .ref (q 0)]) ⟨hx, hb, hml, hown, hta⟩ (mtXm_hasBegun l dC dI q dA H.size p0 M_61 _ hw) (cwV 1 hta (giV wt_664 wt_666 ws_18 wt_7 wt_667) rfl rfl rfl (by decide +kernel) ⟨Nat.le_of_ble_eq_true rfl, Nat.le_of_ble_eq_true rfl⟩) ⟨pW_blind, va_recv hK hP (ci := 5) (q0 := 0) rfl (wM_0 q dA M_61), pW_of hK hP hD⟩ rfl rfl hl.1 rfl (lv_room (Nat.le_of_ble_eq_true rfl)) dXm_act_45 ⟨Nat.le_of_ble_eq_true rfl, Nat.le_of_ble_eq_true rfl⟩) hD hS hA (fun r_114 M_115 H locs hw hP hD hS => ?_)
        refine lv_iload hx hb dXm_act_48 (lv_at hl 0 rfl) ?_
        refine lv_if_ne (tgt := 77) hx hb dXm_act_50 (by decide) (fun c_116 => absurd c_116 (by decide)) (fun c_116 => ?_)
        · skip
          refine lv_aload_n hx hb dXm_act_53 rfl (lv_at hl 1 rfl) ?_
          refine va_get (D := (dC, dI)) (ci := 5) (v := .ref (q 3)) (C := "ServiceThreadsModel") (T := TXm) (N := 28) hx hb hta inXm hown hK hP 0 (wM_0 q dA M_115) rfl 5 (by decide) (hta _ wt_570) (fun _ h9 => h9) rfl dXm_act_54 ?_
          refine lv_iload hx hb dXm_act_57 (lv_at hl 0 rfl) ?_
          refine lv_if_eq (tgt := 66) hx hb dXm_act_59 (by decide) (fun c_117 => ?_) (fun c_117 => absurd c_117 (by decide))
          · skip
            refine lv_iload_n hx hb dXm_act_66 rfl (lv_at hl 2 rfl) ?_
            obtain ⟨h_118, hw⟩ := hw
            refine ro_i (w := (wM q dA)) (M := M_115) hx hb hK hP 3 2 (wM_3 q dA M_115) rfl h_118 dXm_act_67 (fun y_119 ey_119 => ?_)
            have hw := hw y_119 ey_119
            refine lv_bipush (v := 16) hx hb dXm_act_68 (by decide) ?_
            refine lv_icmp_ne (tgt := 77) hx hb dXm_act_70 (by decide) (fun c_120 => ?_) (fun c_120 => ?_)
            · have hw := hw.2 c_120
              refine lv_iconst (v := 0) hx hb dXm_act_77 (by decide) ?_
              refine cn_i (w := (wM q dA)) (M := M_115) (wM_ad q dA) (va_runV (As := [.int 0, .int 1, .int r_114, .int 0]) (rest := []) ⟨hx, hb, hml, hown, hta⟩ (mtXm_throwing l dC dI q dA H.size 0 1 r_114 0 M_115 _ hw) (cwV 4 hta (giV wt_668 wt_670 ws_19 wt_7 wt_671) rfl rfl rfl (by decide +kernel) ⟨Nat.le_of_ble_eq_true rfl, Nat.le_of_ble_eq_true rfl⟩) ⟨pW_blind, va_recv hK hP (ci := 5) (q0 := 0) rfl (wM_0 q dA M_115), pW_of hK hP hD⟩ rfl rfl hl.1 rfl (lv_room (Nat.le_of_ble_eq_true rfl)) dXm_act_78 ⟨Nat.le_of_ble_eq_true rfl, Nat.le_of_ble_eq_true rfl⟩) hD hS hA (fun r_121 M_122 H locs hw hP hD hS => ?_)
              refine lv_if_eq (tgt := 86) hx hb dXm_act_81 (by decide) (fun c_123 => ?_) (fun c_123 => ?_)
              · have hw := hw.1 c_123
                refine lv_aload_n hx hb dXm_act_86 rfl (lv_at hl 1 rfl) ?_
                refine va_get (D := (dC, dI)) (ci := 5) (v := .ref (q 1)) (C := "ServiceThreadsModel") (T := TXm) (N := 28) hx hb hta inXm hown hK hP 0 (wM_0 q dA M_122) rfl 3 (by decide) (hta _ wt_568) (fun _ h9 => h9) rfl dXm_act_87 ?_
                refine lv_bipush (v := 16) hx hb dXm_act_90 (by decide) ?_
                refine lv_iload_n hx hb dXm_act_92 rfl (lv_at hl 2 rfl) ?_
                refine lv_imul hx hb dXm_act_93 ?_
                refine lv_topi (fun y_124 ey_124 => ?_)
                have hw := hw y_124 ey_124
                refine lv_aload_n hx hb dXm_act_94 rfl (lv_at hl 1 rfl) ?_
                refine va_get (D := (dC, dI)) (ci := 5) (v := .ref (q 3)) (C := "ServiceThreadsModel") (T := TXm) (N := 28) hx hb hta inXm hown hK hP 0 (wM_0 q dA M_122) rfl 5 (by decide) (hta _ wt_570) (fun _ h9 => h9) rfl dXm_act_95 ?_
                refine lv_iload_n hx hb dXm_act_98 rfl (lv_at hl 2 rfl) ?_
                obtain ⟨h_125, hw⟩ := hw
                refine ro_i (w := (wM q dA)) (M := M_122) hx hb hK hP 3 2 (wM_3 q dA M_122) rfl h_125 dXm_act_99 (fun y_126 ey_126 => ?_)
                have hw := hw y_126 ey_126
                refine lv_iadd hx hb dXm_act_100 ?_
                refine lv_topi (fun y_127 ey_127 => ?_)
                have hw := hw y_127 ey_127
                refine lv_iload_n hx hb dXm_act_101 rfl (lv_at hl 3 rfl) ?_
                obtain ⟨h_128, hw⟩ := hw
                refine wo_i (w := (wM q dA)) (M := M_122) hx hb hK hP hD hS 1 0 (wM_1 q dA M_122) (wM_s1 q dA M_122) rfl h_128 dXm_act_102 (fun M_129 H locs eM_129 hP hD hS => ?_)
                have hw := hw M_129 eM_129
                refine lv_aload_n hx hb dXm_act_103 rfl (lv_at hl 1 rfl) ?_
                refine va_get (D := (dC, dI)) (ci := 5) (v := .ref (q 2)) (C := "ServiceThreadsModel") (T := TXm) (N := 28) hx hb hta inXm hown hK hP 0 (wM_0 q dA M_129) rfl 4 (by decide) (hta _ wt_569) (fun _ h9 => h9) rfl dXm_act_104 ?_
                refine lv_bipush (v := 16) hx hb dXm_act_107 (by decide) ?_
                refine lv_iload_n hx hb dXm_act_109 rfl (lv_at hl 2 rfl) ?_
                refine lv_imul hx hb dXm_act_110 ?_
                refine lv_topi (fun y_130 ey_130 => ?_)
                have hw := hw y_130 ey_130
                refine lv_aload_n hx hb dXm_act_111 rfl (lv_at hl 1 rfl) ?_
                refine va_get (D := (dC, dI)) (ci := 5) (v := .ref (q 3)) (C := "ServiceThreadsModel") (T := TXm) (N := 28) hx hb hta inXm hown hK hP 0 (wM_0 q dA M_129) rfl 5 (by decide) (hta _ wt_570) (fun _ h9 => h9) rfl dXm_act_112 ?_
                refine lv_iload_n hx hb dXm_act_115 rfl (lv_at hl 2 rfl) ?_
                obtain ⟨h_131, hw⟩ := hw
                refine ro_i (w := (wM q dA)) (M := M_129) hx hb hK hP 3 2 (wM_3 q dA M_129) rfl h_131 dXm_act_116 (fun y_132 ey_132 => ?_)
                have hw := hw y_132 ey_132
                refine lv_iadd hx hb dXm_act_117 ?_
                refine lv_topi (fun y_133 ey_133 => ?_)
                have hw := hw y_133 ey_133
                refine lv_iload_n hx hb dXm_act_118 rfl (lv_at hl 4 rfl) ?_
                obtain ⟨h_134, hw⟩ := hw
                refine wo_i (w := (wM q dA)) (M := M_129) hx hb hK hP hD hS 2 1 (wM_2 q dA M_129) (wM_s2 q dA M_129) rfl h_134 dXm_act_119 (fun M_135 H locs eM_135 hP hD hS => ?_)
                have hw := hw M_135 eM_135
                refine lv_aload_n hx hb dXm_act_120 rfl (lv_at hl 1 rfl) ?_
                refine va_get (D := (dC, dI)) (ci := 5) (v := .ref (q 3)) (C := "ServiceThreadsModel") (T := TXm) (N := 28) hx hb hta inXm hown hK hP 0 (wM_0 q dA M_135) rfl 5 (by decide) (hta _ wt_570) (fun _ h9 => h9) rfl dXm_act_121 ?_
                refine lv_iload_n hx hb dXm_act_124 rfl (lv_at hl 2 rfl) ?_
                refine lv_dup2_11 hx hb dXm_act_125 rfl rfl ?_
                obtain ⟨h_136, hw⟩ := hw
                refine ro_i (w := (wM q dA)) (M := M_135) hx hb hK hP 3 2 (wM_3 q dA M_135) rfl h_136 dXm_act_126 (fun y_137 ey_137 => ?_)
                have hw := hw y_137 ey_137
                refine lv_iconst (v := 1) hx hb dXm_act_127 (by decide) ?_
                refine lv_iadd hx hb dXm_act_128 ?_
                refine lv_topi (fun y_138 ey_138 => ?_)
                have hw := hw y_138 ey_138
                obtain ⟨h_139, hw⟩ := hw
                refine wo_i (w := (wM q dA)) (M := M_135) hx hb hK hP hD hS 3 2 (wM_3 q dA M_135) (wM_s3 q dA M_135) rfl h_139 dXm_act_129 (fun M_140 H locs eM_140 hP hD hS => ?_)
                have hw := hw M_140 eM_140
                refine lv_aload_n hx hb dXm_act_130 rfl (lv_at hl 1 rfl) ?_
                refine va_get (D := (dC, dI)) (ci := 5) (v := .ref (q 3)) (C := "ServiceThreadsModel") (T := TXm) (N := 28) hx hb hta inXm hown hK hP 0 (wM_0 q dA M_140) rfl 5 (by decide) (hta _ wt_570) (fun _ h9 => h9) rfl dXm_act_131 ?_
                refine lv_iload_n hx hb dXm_act_134 rfl (lv_at hl 2 rfl) ?_
                obtain ⟨h_141, hw⟩ := hw
                refine ro_i (w := (wM q dA)) (M := M_140) hx hb hK hP 3 2 (wM_3 q dA M_140) rfl h_141 dXm_act_135 (fun y_142 ey_142 => ?_)
                have hw := hw y_142 ey_142
                exact W.iret (v := y_142) hx hb hr (fun t ht hW => ⟨⟨y_142, M_140, rfl, hw, by rw [ht]; exact hP, va_K.moved hW.alike hK, hD⟩, hS.F ht⟩) hS.2.2 dXm_act_136 hlocks
              · have hw := hw.2 c_123
                refine lv_iconst (v := 0) hx hb dXm_act_84 (by decide) ?_
                exact W.iret (v := 0) hx hb hr (fun t ht hW => ⟨⟨0, M_122, rfl, hw, by rw [ht]; exact hP, va_K.moved hW.alike hK, hD⟩, hS.F ht⟩) hS.2.2 dXm_act_85 hlocks
            · have hw := hw.1 c_120
              refine lv_iconst (v := 1) hx hb dXm_act_73 (by decide) ?_
              refine lv_goto (tgt := 78) hx hb dXm_act_74 (by decide) ?_
              refine cn_i (w := (wM q dA)) (M := M_115) (wM_ad q dA) (va_runV (As := [.int 0, .int 1, .int r_114, .int 1]) (rest := []) ⟨hx, hb, hml, hown, hta⟩ (mtXm_throwing l dC dI q dA H.size 0 1 r_114 1 M_115 _ hw) (cwV 4 hta (giV wt_668 wt_670 ws_19 wt_7 wt_671) rfl rfl rfl (by decide +kernel) ⟨Nat.le_of_ble_eq_true rfl, Nat.le_of_ble_eq_true rfl⟩) ⟨pW_blind, va_recv hK hP (ci := 5) (q0 := 0) rfl (wM_0 q dA M_115), pW_of hK hP hD⟩ rfl rfl hl.1 rfl (lv_room (Nat.le_of_ble_eq_true rfl)) dXm_act_78 ⟨Nat.le_of_ble_eq_true rfl, Nat.le_of_ble_eq_true rfl⟩) hD hS hA (fun r_143 M_144 H locs hw hP hD hS => ?_)
              refine lv_if_eq (tgt := 86) hx hb dXm_act_81 (by decide) (fun c_145 => ?_) (fun c_145 => ?_)
              · have hw := hw.1 c_145
                refine lv_aload_n hx hb dXm_act_86 rfl (lv_at hl 1 rfl) ?_
                refine va_get (D := (dC, dI)) (ci := 5) (v := .ref (q 1)) (C := "ServiceThreadsModel") (T := TXm) (N := 28) hx hb hta inXm hown hK hP 0 (wM_0 q dA M_144) rfl 3 (by decide) (hta _ wt_568) (fun _ h9 => h9) rfl dXm_act_87 ?_
                refine lv_bipush (v := 16) hx hb dXm_act_90 (by decide) ?_
                refine lv_iload_n hx hb dXm_act_92 rfl (lv_at hl 2 rfl) ?_
                refine lv_imul hx hb dXm_act_93 ?_
                refine lv_topi (fun y_146 ey_146 => ?_)
                have hw := hw y_146 ey_146
                refine lv_aload_n hx hb dXm_act_94 rfl (lv_at hl 1 rfl) ?_
                refine va_get (D := (dC, dI)) (ci := 5) (v := .ref (q 3)) (C := "ServiceThreadsModel") (T := TXm) (N := 28) hx hb hta inXm hown hK hP 0 (wM_0 q dA M_144) rfl 5 (by decide) (hta _ wt_570) (fun _ h9 => h9) rfl dXm_act_95 ?_
                refine lv_iload_n hx hb dXm_act_98 rfl (lv_at hl 2 rfl) ?_
                obtain ⟨h_147, hw⟩ := hw
                refine ro_i (w := (wM q dA)) (M := M_144) hx hb hK hP 3 2 (wM_3 q dA M_144) rfl h_147 dXm_act_99 (fun y_148 ey_148 => ?_)
                have hw := hw y_148 ey_148
                refine lv_iadd hx hb dXm_act_100 ?_
                refine lv_topi (fun y_149 ey_149 => ?_)
                have hw := hw y_149 ey_149
                refine lv_iload_n hx hb dXm_act_101 rfl (lv_at hl 3 rfl) ?_
                obtain ⟨h_150, hw⟩ := hw
                refine wo_i (w := (wM q dA)) (M := M_144) hx hb hK hP hD hS 1 0 (wM_1 q dA M_144) (wM_s1 q dA M_144) rfl h_150 dXm_act_102 (fun M_151 H locs eM_151 hP hD hS => ?_)
                have hw := hw M_151 eM_151
                refine lv_aload_n hx hb dXm_act_103 rfl (lv_at hl 1 rfl) ?_
                refine va_get (D := (dC, dI)) (ci := 5) (v := .ref (q 2)) (C := "ServiceThreadsModel") (T := TXm) (N := 28) hx hb hta inXm hown hK hP 0 (wM_0 q dA M_151) rfl 4 (by decide) (hta _ wt_569) (fun _ h9 => h9) rfl dXm_act_104 ?_
                refine lv_bipush (v := 16) hx hb dXm_act_107 (by decide) ?_
                refine lv_iload_n hx hb dXm_act_109 rfl (lv_at hl 2 rfl) ?_
                refine lv_imul hx hb dXm_act_110 ?_
                refine lv_topi (fun y_152 ey_152 => ?_)
                have hw := hw y_152 ey_152
                refine lv_aload_n hx hb dXm_act_111 rfl (lv_at hl 1 rfl) ?_
                refine va_get (D := (dC, dI)) (ci := 5) (v := .ref (q 3)) (C := "ServiceThreadsModel") (T := TXm) (N := 28) hx hb hta inXm hown hK hP 0 (wM_0 q dA M_151) rfl 5 (by decide) (hta _ wt_570) (fun _ h9 => h9) rfl dXm_act_112 ?_
                refine lv_iload_n hx hb dXm_act_115 rfl (lv_at hl 2 rfl) ?_
                obtain ⟨h_153, hw⟩ := hw
                refine ro_i (w := (wM q dA)) (M := M_151) hx hb hK hP 3 2 (wM_3 q dA M_151) rfl h_153 dXm_act_116 (fun y_154 ey_154 => ?_)
                have hw := hw y_154 ey_154
                refine lv_iadd hx hb dXm_act_117 ?_
                refine lv_topi (fun y_155 ey_155 => ?_)
                have hw := hw y_155 ey_155
                refine lv_iload_n hx hb dXm_act_118 rfl (lv_at hl 4 rfl) ?_
                obtain ⟨h_156, hw⟩ := hw
                refine wo_i (w := (wM q dA)) (M := M_151) hx hb hK hP hD hS 2 1 (wM_2 q dA M_151) (wM_s2 q dA M_151) rfl h_156 dXm_act_119 (fun M_157 H locs eM_157 hP hD hS => ?_)
                have hw := hw M_157 eM_157
                refine lv_aload_n hx hb dXm_act_120 rfl (lv_at hl 1 rfl) ?_
                refine va_get (D := (dC, dI)) (ci := 5) (v := .ref (q 3)) (C := "ServiceThreadsModel") (T := TXm) (N := 28) hx hb hta inXm hown hK hP 0 (wM_0 q dA M_157) rfl 5 (by decide) (hta _ wt_570) (fun _ h9 => h9) rfl dXm_act_121 ?_
                refine lv_iload_n hx hb dXm_act_124 rfl (lv_at hl 2 rfl) ?_
                refine lv_dup2_11 hx hb dXm_act_125 rfl rfl ?_
                obtain ⟨h_158, hw⟩ := hw
                refine ro_i (w := (wM q dA)) (M := M_157) hx hb hK hP 3 2 (wM_3 q dA M_157) rfl h_158 dXm_act_126 (fun y_159 ey_159 => ?_)
                have hw := hw y_159 ey_159
                refine lv_iconst (v := 1) hx hb dXm_act_127 (by decide) ?_
                refine lv_iadd hx hb dXm_act_128 ?_
                refine lv_topi (fun y_160 ey_160 => ?_)
                have hw := hw y_160 ey_160
                obtain ⟨h_161, hw⟩ := hw
                refine wo_i (w := (wM q dA)) (M := M_157) hx hb hK hP hD hS 3 2 (wM_3 q dA M_157) (wM_s3 q dA M_157) rfl h_161 dXm_act_129 (fun M_162 H locs eM_162 hP hD hS => ?_)
                have hw := hw M_162 eM_162
                refine lv_aload_n hx hb dXm_act_130 rfl (lv_at hl 1 rfl) ?_
                refine va_get (D := (dC, dI)) (ci := 5) (v := .ref (q 3)) (C := "ServiceThreadsModel") (T := TXm) (N := 28) hx hb hta inXm hown hK hP 0 (wM_0 q dA M_162) rfl 5 (by decide) (hta _ wt_570) (fun _ h9 => h9) rfl dXm_act_131 ?_
                refine lv_iload_n hx hb dXm_act_134 rfl (lv_at hl 2 rfl) ?_
                obtain ⟨h_163, hw⟩ := hw
                refine ro_i (w := (wM q dA)) (M := M_162) hx hb hK hP 3 2 (wM_3 q dA M_162) rfl h_163 dXm_act_135 (fun y_164 ey_164 => ?_)
                have hw := hw y_164 ey_164
                exact W.iret (v := y_164) hx hb hr (fun t ht hW => ⟨⟨y_164, M_162, rfl, hw, by rw [ht]; exact hP, va_K.moved hW.alike hK, hD⟩, hS.F ht⟩) hS.2.2 dXm_act_136 hlocks
              · have hw := hw.2 c_145
                refine lv_iconst (v := 0) hx hb dXm_act_84 (by decide) ?_
                exact W.iret (v := 0) hx hb hr (fun t ht hW => ⟨⟨0, M_144, rfl, hw, by rw [ht]; exact hP, va_K.moved hW.alike hK, hD⟩, hS.F ht⟩) hS.2.2 dXm_act_85 hlocks
    · have hw := hw.1 c_59
      refine lv_iconst (v := 1) hx hb dXm_act_17 (by decide) ?_
      refine lv_goto (tgt := 22) hx hb dXm_act_18 (by decide) ?_
      refine lv_istore (lv' := [(4, .int 1), (0, .ref (q 0)), (1, .int p0), (2, .int p1), (3, .int p2)]) hx hb dXm_act_22 hl (by decide) rfl (fun ls hl => ?_)
      refine lv_aload_n hx hb dXm_act_24 rfl (lv_at hl 1 rfl) ?_
      refine lv_iload hx hb dXm_act_25 (lv_at hl 0 rfl) ?_
      refine lv_iload_n hx hb dXm_act_27 rfl (lv_at hl 4 rfl) ?_
      refine lv_iconst (v := 0) hx hb dXm_act_28 (by decide) ?_
      refine lv_sipush (v := 255) hx hb dXm_act_29 (by decide) ?_
      refine cn_i (w := (wM q dA)) (M := M_58) (wM_ad q dA) (va_runS (As := [.int p2, .int 0, .int 255]) (rest := [.int 1, .ref (q 0)]) ⟨hx, hb, hml, hown, hta⟩ (mtXm_in l dC dI q dA H.size p2 0 255 M_58 _ hw) (va_cwS 3 hta (giS wt_661 wt_662 wt_7 wt_663) rfl rfl rfl (by decide +kernel) ⟨Nat.le_of_ble_eq_true rfl, Nat.le_of_ble_eq_true rfl⟩) ⟨pW_blind, pW_of hK hP hD⟩ rfl rfl hl.1 rfl (lv_room (Nat.le_of_ble_eq_true rfl)) dXm_act_32 ⟨Nat.le_of_ble_eq_true rfl, Nat.le_of_ble_eq_true rfl⟩) hD hS hA (fun r_165 M_166 H locs hw hP hD hS => ?_)
      refine lv_if_ne (tgt := 42) hx hb dXm_act_35 (by decide) (fun c_167 => ?_) (fun c_167 => ?_)
      · have hw := hw.2 c_167
        refine lv_iconst (v := 0) hx hb dXm_act_42 (by decide) ?_
        refine lv_aload_n hx hb dXm_act_43 rfl (lv_at hl 1 rfl) ?_
        refine lv_iload_n hx hb dXm_act_44 rfl (lv_at hl 2 rfl) ?_
        refine cn_i (w := (wM q dA)) (M := M_166) (wM_ad q dA) (va_runV (As := [.int p0]) (rest := [.int 0, .int 1, .ref (q 0)]) ⟨hx, hb, hml, hown, hta⟩ (mtXm_hasBegun l dC dI q dA H.size p0 M_166 _ hw) (cwV 1 hta (giV wt_664 wt_666 ws_18 wt_7 wt_667) rfl rfl rfl (by decide +kernel) ⟨Nat.le_of_ble_eq_true rfl, Nat.le_of_ble_eq_true rfl⟩) ⟨pW_blind, va_recv hK hP (ci := 5) (q0 := 0) rfl (wM_0 q dA M_166), pW_of hK hP hD⟩ rfl rfl hl.1 rfl (lv_room (Nat.le_of_ble_eq_true rfl)) dXm_act_45 ⟨Nat.le_of_ble_eq_true rfl, Nat.le_of_ble_eq_true rfl⟩) hD hS hA (fun r_168 M_169 H locs hw hP hD hS => ?_)
        refine lv_iload hx hb dXm_act_48 (lv_at hl 0 rfl) ?_
        refine lv_if_ne (tgt := 77) hx hb dXm_act_50 (by decide) (fun c_170 => ?_) (fun c_170 => absurd c_170 (by decide))
        · skip
          refine lv_iconst (v := 0) hx hb dXm_act_77 (by decide) ?_
          refine cn_i (w := (wM q dA)) (M := M_169) (wM_ad q dA) (va_runV (As := [.int 1, .int 0, .int r_168, .int 0]) (rest := []) ⟨hx, hb, hml, hown, hta⟩ (mtXm_throwing l dC dI q dA H.size 1 0 r_168 0 M_169 _ hw) (cwV 4 hta (giV wt_668 wt_670 ws_19 wt_7 wt_671) rfl rfl rfl (by decide +kernel) ⟨Nat.le_of_ble_eq_true rfl, Nat.le_of_ble_eq_true rfl⟩) ⟨pW_blind, va_recv hK hP (ci := 5) (q0 := 0) rfl (wM_0 q dA M_169), pW_of hK hP hD⟩ rfl rfl hl.1 rfl (lv_room (Nat.le_of_ble_eq_true rfl)) dXm_act_78 ⟨Nat.le_of_ble_eq_true rfl, Nat.le_of_ble_eq_true rfl⟩) hD hS hA (fun r_171 M_172 H locs hw hP hD hS => ?_)
          refine lv_if_eq (tgt := 86) hx hb dXm_act_81 (by decide) (fun c_173 => ?_) (fun c_173 => ?_)
          · have hw := hw.1 c_173
            refine lv_aload_n hx hb dXm_act_86 rfl (lv_at hl 1 rfl) ?_
            refine va_get (D := (dC, dI)) (ci := 5) (v := .ref (q 1)) (C := "ServiceThreadsModel") (T := TXm) (N := 28) hx hb hta inXm hown hK hP 0 (wM_0 q dA M_172) rfl 3 (by decide) (hta _ wt_568) (fun _ h9 => h9) rfl dXm_act_87 ?_
            refine lv_bipush (v := 16) hx hb dXm_act_90 (by decide) ?_
            refine lv_iload_n hx hb dXm_act_92 rfl (lv_at hl 2 rfl) ?_
            refine lv_imul hx hb dXm_act_93 ?_
            refine lv_topi (fun y_174 ey_174 => ?_)
            have hw := hw y_174 ey_174
            refine lv_aload_n hx hb dXm_act_94 rfl (lv_at hl 1 rfl) ?_
            refine va_get (D := (dC, dI)) (ci := 5) (v := .ref (q 3)) (C := "ServiceThreadsModel") (T := TXm) (N := 28) hx hb hta inXm hown hK hP 0 (wM_0 q dA M_172) rfl 5 (by decide) (hta _ wt_570) (fun _ h9 => h9) rfl dXm_act_95 ?_
            refine lv_iload_n hx hb dXm_act_98 rfl (lv_at hl 2 rfl) ?_
            obtain ⟨h_175, hw⟩ := hw
            refine ro_i (w := (wM q dA)) (M := M_172) hx hb hK hP 3 2 (wM_3 q dA M_172) rfl h_175 dXm_act_99 (fun y_176 ey_176 => ?_)
            have hw := hw y_176 ey_176
            refine lv_iadd hx hb dXm_act_100 ?_
            refine lv_topi (fun y_177 ey_177 => ?_)
            have hw := hw y_177 ey_177
            refine lv_iload_n hx hb dXm_act_101 rfl (lv_at hl 3 rfl) ?_
            obtain ⟨h_178, hw⟩ := hw
            refine wo_i (w := (wM q dA)) (M := M_172) hx hb hK hP hD hS 1 0 (wM_1 q dA M_172) (wM_s1 q dA M_172) rfl h_178 dXm_act_102 (fun M_179 H locs eM_179 hP hD hS => ?_)
            have hw := hw M_179 eM_179
            refine lv_aload_n hx hb dXm_act_103 rfl (lv_at hl 1 rfl) ?_
            refine va_get (D := (dC, dI)) (ci := 5) (v := .ref (q 2)) (C := "ServiceThreadsModel") (T := TXm) (N := 28) hx hb hta inXm hown hK hP 0 (wM_0 q dA M_179) rfl 4 (by decide) (hta _ wt_569) (fun _ h9 => h9) rfl dXm_act_104 ?_
            refine lv_bipush (v := 16) hx hb dXm_act_107 (by decide) ?_
            refine lv_iload_n hx hb dXm_act_109 rfl (lv_at hl 2 rfl) ?_
            refine lv_imul hx hb dXm_act_110 ?_
            refine lv_topi (fun y_180 ey_180 => ?_)
            have hw := hw y_180 ey_180
            refine lv_aload_n hx hb dXm_act_111 rfl (lv_at hl 1 rfl) ?_
            refine va_get (D := (dC, dI)) (ci := 5) (v := .ref (q 3)) (C := "ServiceThreadsModel") (T := TXm) (N := 28) hx hb hta inXm hown hK hP 0 (wM_0 q dA M_179) rfl 5 (by decide) (hta _ wt_570) (fun _ h9 => h9) rfl dXm_act_112 ?_
            refine lv_iload_n hx hb dXm_act_115 rfl (lv_at hl 2 rfl) ?_
            obtain ⟨h_181, hw⟩ := hw
            refine ro_i (w := (wM q dA)) (M := M_179) hx hb hK hP 3 2 (wM_3 q dA M_179) rfl h_181 dXm_act_116 (fun y_182 ey_182 => ?_)
            have hw := hw y_182 ey_182
            refine lv_iadd hx hb dXm_act_117 ?_
            refine lv_topi (fun y_183 ey_183 => ?_)
            have hw := hw y_183 ey_183
            refine lv_iload_n hx hb dXm_act_118 rfl (lv_at hl 4 rfl) ?_
            obtain ⟨h_184, hw⟩ := hw
            refine wo_i (w := (wM q dA)) (M := M_179) hx hb hK hP hD hS 2 1 (wM_2 q dA M_179) (wM_s2 q dA M_179) rfl h_184 dXm_act_119 (fun M_185 H locs eM_185 hP hD hS => ?_)
            have hw := hw M_185 eM_185
            refine lv_aload_n hx hb dXm_act_120 rfl (lv_at hl 1 rfl) ?_
            refine va_get (D := (dC, dI)) (ci := 5) (v := .ref (q 3)) (C := "ServiceThreadsModel") (T := TXm) (N := 28) hx hb hta inXm hown hK hP 0 (wM_0 q dA M_185) rfl 5 (by decide) (hta _ wt_570) (fun _ h9 => h9) rfl dXm_act_121 ?_
            refine lv_iload_n hx hb dXm_act_124 rfl (lv_at hl 2 rfl) ?_
            refine lv_dup2_11 hx hb dXm_act_125 rfl rfl ?_
            obtain ⟨h_186, hw⟩ := hw
            refine ro_i (w := (wM q dA)) (M := M_185) hx hb hK hP 3 2 (wM_3 q dA M_185) rfl h_186 dXm_act_126 (fun y_187 ey_187 => ?_)
            have hw := hw y_187 ey_187
            refine lv_iconst (v := 1) hx hb dXm_act_127 (by decide) ?_
            refine lv_iadd hx hb dXm_act_128 ?_
            refine lv_topi (fun y_188 ey_188 => ?_)
            have hw := hw y_188 ey_188
            obtain ⟨h_189, hw⟩ := hw
            refine wo_i (w := (wM q dA)) (M := M_185) hx hb hK hP hD hS 3 2 (wM_3 q dA M_185) (wM_s3 q dA M_185) rfl h_189 dXm_act_129 (fun M_190 H locs eM_190 hP hD hS => ?_)
            have hw := hw M_190 eM_190
            refine lv_aload_n hx hb dXm_act_130 rfl (lv_at hl 1 rfl) ?_
            refine va_get (D := (dC, dI)) (ci := 5) (v := .ref (q 3)) (C := "ServiceThreadsModel") (T := TXm) (N := 28) hx hb hta inXm hown hK hP 0 (wM_0 q dA M_190) rfl 5 (by decide) (hta _ wt_570) (fun _ h9 => h9) rfl dXm_act_131 ?_
            refine lv_iload_n hx hb dXm_act_134 rfl (lv_at hl 2 rfl) ?_
            obtain ⟨h_191, hw⟩ := hw
            refine ro_i (w := (wM q dA)) (M := M_190) hx hb hK hP 3 2 (wM_3 q dA M_190) rfl h_191 dXm_act_135 (fun y_192 ey_192 => ?_)
            have hw := hw y_192 ey_192
            exact W.iret (v := y_192) hx hb hr (fun t ht hW => ⟨⟨y_192, M_190, rfl, hw, by rw [ht]; exact hP, va_K.moved hW.alike hK, hD⟩, hS.F ht⟩) hS.2.2 dXm_act_136 hlocks
          · have hw := hw.2 c_173
            refine lv_iconst (v := 0) hx hb dXm_act_84 (by decide) ?_
            exact W.iret (v := 0) hx hb hr (fun t ht hW => ⟨⟨0, M_172, rfl, hw, by rw [ht]; exact hP, va_K.moved hW.alike hK, hD⟩, hS.F ht⟩) hS.2.2 dXm_act_85 hlocks
      · have hw := hw.1 c_167
        refine lv_iconst (v := 1) hx hb dXm_act_38 (by decide) ?_
        refine lv_goto (tgt := 43) hx hb dXm_act_39 (by decide) ?_
        refine lv_aload_n hx hb dXm_act_43 rfl (lv_at hl 1 rfl) ?_
        refine lv_iload_n hx hb dXm_act_44 rfl (lv_at hl 2 rfl) ?_
        refine cn_i (w := (wM q dA)) (M := M_166) (wM_ad q dA) (va_runV (As := [.int p0]) (rest := [.int 1, .int 1, .ref (q 0)]) ⟨hx, hb, hml, hown, hta⟩ (mtXm_hasBegun l dC dI q dA H.size p0 M_166 _ hw) (cwV 1 hta (giV wt_664 wt_666 ws_18 wt_7 wt_667) rfl rfl rfl (by decide +kernel) ⟨Nat.le_of_ble_eq_true rfl, Nat.le_of_ble_eq_true rfl⟩) ⟨pW_blind, va_recv hK hP (ci := 5) (q0 := 0) rfl (wM_0 q dA M_166), pW_of hK hP hD⟩ rfl rfl hl.1 rfl (lv_room (Nat.le_of_ble_eq_true rfl)) dXm_act_45 ⟨Nat.le_of_ble_eq_true rfl, Nat.le_of_ble_eq_true rfl⟩) hD hS hA (fun r_193 M_194 H locs hw hP hD hS => ?_)
        refine lv_iload hx hb dXm_act_48 (lv_at hl 0 rfl) ?_
        refine lv_if_ne (tgt := 77) hx hb dXm_act_50 (by decide) (fun c_195 => ?_) (fun c_195 => absurd c_195 (by decide))
        · skip
          refine lv_iconst (v := 0) hx hb dXm_act_77 (by decide) ?_
          refine cn_i (w := (wM q dA)) (M := M_194) (wM_ad q dA) (va_runV (As := [.int 1, .int 1, .int r_193, .int 0]) (rest := []) ⟨hx, hb, hml, hown, hta⟩ (mtXm_throwing l dC dI q dA H.size 1 1 r_193 0 M_194 _ hw) (cwV 4 hta (giV wt_668 wt_670 ws_19 wt_7 wt_671) rfl rfl rfl (by decide +kernel) ⟨Nat.le_of_ble_eq_true rfl, Nat.le_of_ble_eq_true rfl⟩) ⟨pW_blind, va_recv hK hP (ci := 5) (q0 := 0) rfl (wM_0 q dA M_194), pW_of hK hP hD⟩ rfl rfl hl.1 rfl (lv_room (Nat.le_of_ble_eq_true rfl)) dXm_act_78 ⟨Nat.le_of_ble_eq_true rfl, Nat.le_of_ble_eq_true rfl⟩) hD hS hA (fun r_196 M_197 H locs hw hP hD hS => ?_)
          refine lv_if_eq (tgt := 86) hx hb dXm_act_81 (by decide) (fun c_198 => ?_) (fun c_198 => ?_)
          · have hw := hw.1 c_198
            refine lv_aload_n hx hb dXm_act_86 rfl (lv_at hl 1 rfl) ?_
            refine va_get (D := (dC, dI)) (ci := 5) (v := .ref (q 1)) (C := "ServiceThreadsModel") (T := TXm) (N := 28) hx hb hta inXm hown hK hP 0 (wM_0 q dA M_197) rfl 3 (by decide) (hta _ wt_568) (fun _ h9 => h9) rfl dXm_act_87 ?_
            refine lv_bipush (v := 16) hx hb dXm_act_90 (by decide) ?_
            refine lv_iload_n hx hb dXm_act_92 rfl (lv_at hl 2 rfl) ?_
            refine lv_imul hx hb dXm_act_93 ?_
            refine lv_topi (fun y_199 ey_199 => ?_)
            have hw := hw y_199 ey_199
            refine lv_aload_n hx hb dXm_act_94 rfl (lv_at hl 1 rfl) ?_
            refine va_get (D := (dC, dI)) (ci := 5) (v := .ref (q 3)) (C := "ServiceThreadsModel") (T := TXm) (N := 28) hx hb hta inXm hown hK hP 0 (wM_0 q dA M_197) rfl 5 (by decide) (hta _ wt_570) (fun _ h9 => h9) rfl dXm_act_95 ?_
            refine lv_iload_n hx hb dXm_act_98 rfl (lv_at hl 2 rfl) ?_
            obtain ⟨h_200, hw⟩ := hw
            refine ro_i (w := (wM q dA)) (M := M_197) hx hb hK hP 3 2 (wM_3 q dA M_197) rfl h_200 dXm_act_99 (fun y_201 ey_201 => ?_)
            have hw := hw y_201 ey_201
            refine lv_iadd hx hb dXm_act_100 ?_
            refine lv_topi (fun y_202 ey_202 => ?_)
            have hw := hw y_202 ey_202
            refine lv_iload_n hx hb dXm_act_101 rfl (lv_at hl 3 rfl) ?_
            obtain ⟨h_203, hw⟩ := hw
            refine wo_i (w := (wM q dA)) (M := M_197) hx hb hK hP hD hS 1 0 (wM_1 q dA M_197) (wM_s1 q dA M_197) rfl h_203 dXm_act_102 (fun M_204 H locs eM_204 hP hD hS => ?_)
            have hw := hw M_204 eM_204
            refine lv_aload_n hx hb dXm_act_103 rfl (lv_at hl 1 rfl) ?_
            refine va_get (D := (dC, dI)) (ci := 5) (v := .ref (q 2)) (C := "ServiceThreadsModel") (T := TXm) (N := 28) hx hb hta inXm hown hK hP 0 (wM_0 q dA M_204) rfl 4 (by decide) (hta _ wt_569) (fun _ h9 => h9) rfl dXm_act_104 ?_
            refine lv_bipush (v := 16) hx hb dXm_act_107 (by decide) ?_
            refine lv_iload_n hx hb dXm_act_109 rfl (lv_at hl 2 rfl) ?_
            refine lv_imul hx hb dXm_act_110 ?_
            refine lv_topi (fun y_205 ey_205 => ?_)
            have hw := hw y_205 ey_205
            refine lv_aload_n hx hb dXm_act_111 rfl (lv_at hl 1 rfl) ?_
            refine va_get (D := (dC, dI)) (ci := 5) (v := .ref (q 3)) (C := "ServiceThreadsModel") (T := TXm) (N := 28) hx hb hta inXm hown hK hP 0 (wM_0 q dA M_204) rfl 5 (by decide) (hta _ wt_570) (fun _ h9 => h9) rfl dXm_act_112 ?_
            refine lv_iload_n hx hb dXm_act_115 rfl (lv_at hl 2 rfl) ?_
            obtain ⟨h_206, hw⟩ := hw
            refine ro_i (w := (wM q dA)) (M := M_204) hx hb hK hP 3 2 (wM_3 q dA M_204) rfl h_206 dXm_act_116 (fun y_207 ey_207 => ?_)
            have hw := hw y_207 ey_207
            refine lv_iadd hx hb dXm_act_117 ?_
            refine lv_topi (fun y_208 ey_208 => ?_)
            have hw := hw y_208 ey_208
            refine lv_iload_n hx hb dXm_act_118 rfl (lv_at hl 4 rfl) ?_
            obtain ⟨h_209, hw⟩ := hw
            refine wo_i (w := (wM q dA)) (M := M_204) hx hb hK hP hD hS 2 1 (wM_2 q dA M_204) (wM_s2 q dA M_204) rfl h_209 dXm_act_119 (fun M_210 H locs eM_210 hP hD hS => ?_)
            have hw := hw M_210 eM_210
            refine lv_aload_n hx hb dXm_act_120 rfl (lv_at hl 1 rfl) ?_
            refine va_get (D := (dC, dI)) (ci := 5) (v := .ref (q 3)) (C := "ServiceThreadsModel") (T := TXm) (N := 28) hx hb hta inXm hown hK hP 0 (wM_0 q dA M_210) rfl 5 (by decide) (hta _ wt_570) (fun _ h9 => h9) rfl dXm_act_121 ?_
            refine lv_iload_n hx hb dXm_act_124 rfl (lv_at hl 2 rfl) ?_
            refine lv_dup2_11 hx hb dXm_act_125 rfl rfl ?_
            obtain ⟨h_211, hw⟩ := hw
            refine ro_i (w := (wM q dA)) (M := M_210) hx hb hK hP 3 2 (wM_3 q dA M_210) rfl h_211 dXm_act_126 (fun y_212 ey_212 => ?_)
            have hw := hw y_212 ey_212
            refine lv_iconst (v := 1) hx hb dXm_act_127 (by decide) ?_
            refine lv_iadd hx hb dXm_act_128 ?_
            refine lv_topi (fun y_213 ey_213 => ?_)
            have hw := hw y_213 ey_213
            obtain ⟨h_214, hw⟩ := hw
            refine wo_i (w := (wM q dA)) (M := M_210) hx hb hK hP hD hS 3 2 (wM_3 q dA M_210) (wM_s3 q dA M_210) rfl h_214 dXm_act_129 (fun M_215 H locs eM_215 hP hD hS => ?_)
            have hw := hw M_215 eM_215
            refine lv_aload_n hx hb dXm_act_130 rfl (lv_at hl 1 rfl) ?_
            refine va_get (D := (dC, dI)) (ci := 5) (v := .ref (q 3)) (C := "ServiceThreadsModel") (T := TXm) (N := 28) hx hb hta inXm hown hK hP 0 (wM_0 q dA M_215) rfl 5 (by decide) (hta _ wt_570) (fun _ h9 => h9) rfl dXm_act_131 ?_
            refine lv_iload_n hx hb dXm_act_134 rfl (lv_at hl 2 rfl) ?_
            obtain ⟨h_216, hw⟩ := hw
            refine ro_i (w := (wM q dA)) (M := M_215) hx hb hK hP 3 2 (wM_3 q dA M_215) rfl h_216 dXm_act_135 (fun y_217 ey_217 => ?_)
            have hw := hw y_217 ey_217
            exact W.iret (v := y_217) hx hb hr (fun t ht hW => ⟨⟨y_217, M_215, rfl, hw, by rw [ht]; exact hP, va_K.moved hW.alike hK, hD⟩, hS.F ht⟩) hS.2.2 dXm_act_136 hlocks
          · have hw := hw.2 c_198
            refine lv_iconst (v := 0) hx hb dXm_act_84 (by decide) ?_
            exact W.iret (v := 0) hx hb hr (fun t ht hW => ⟨⟨0, M_197, rfl, hw, by rw [ht]; exact hP, va_K.moved hW.alike hK, hD⟩, hS.F ht⟩) hS.2.2 dXm_act_85 hlocks
def wpXm_finish (p0 : Int32) (p1 : Int32) (M : Mm) (post : Mm → Prop) : Prop := wpXm_isThread p0 M (fun r_1 M_2 => (((r_1 = 0 → (wpXm_hasBegun p0 M_2 (fun r_36 M_37 => (wpXm_throwing 1 0 r_36 0 M_37 (fun r_38 M_39 => (((r_38 = 0 → (vp_in p0 8 ∧ (∀ y_42 : Int32, y_42 = M_39 2 p0.toNatClampNeg → (((p1 = y_42 → (vp_in p0 8 ∧ (∀ M_47 : Mm, M_47 = stM M_39 3 (upd (M_39 3) p0.toNatClampNeg 16) → (post M_47)))) ∧ (¬ p1 = y_42 → (vp_in p0 8 ∧ (∀ M_45 : Mm, M_45 = stM M_39 3 (upd (M_39 3) p0.toNatClampNeg p1) → (post M_45))))))))) ∧ (¬ r_38 = 0 → (post M_39))))))))) ∧ (¬ r_1 = 0 → (vp_in p0 8 ∧ (∀ y_7 : Int32, y_7 = M_2 2 p0.toNatClampNeg → (wpXm_in p1 0 y_7 M_2 (fun r_8 M_9 => (((r_8 = 0 → (wpXm_hasBegun p0 M_9 (fun r_23 M_24 => (wpXm_throwing 0 1 r_23 0 M_24 (fun r_25 M_26 => (((r_25 = 0 → (vp_in p0 8 ∧ (∀ y_29 : Int32, y_29 = M_26 2 p0.toNatClampNeg → (((p1 = y_29 → (vp_in p0 8 ∧ (∀ M_34 : Mm, M_34 = stM M_26 3 (upd (M_26 3) p0.toNatClampNeg 16) → (post M_34)))) ∧ (¬ p1 = y_29 → (vp_in p0 8 ∧ (∀ M_32 : Mm, M_32 = stM M_26 3 (upd (M_26 3) p0.toNatClampNeg p1) → (post M_32))))))))) ∧ (¬ r_25 = 0 → (post M_26))))))))) ∧ (¬ r_8 = 0 → (wpXm_hasBegun p0 M_9 (fun r_11 M_12 => (wpXm_throwing 0 0 r_11 0 M_12 (fun r_13 M_14 => (((r_13 = 0 → (vp_in p0 8 ∧ (∀ y_17 : Int32, y_17 = M_14 2 p0.toNatClampNeg → (((p1 = y_17 → (vp_in p0 8 ∧ (∀ M_22 : Mm, M_22 = stM M_14 3 (upd (M_14 3) p0.toNatClampNeg 16) → (post M_22)))) ∧ (¬ p1 = y_17 → (vp_in p0 8 ∧ (∀ M_20 : Mm, M_20 = stM M_14 3 (upd (M_14 3) p0.toNatClampNeg p1) → (post M_20))))))))) ∧ (¬ r_13 = 0 → (post M_14)))))))))))))))))))
set_option maxHeartbeats 4000000 in
set_option maxRecDepth 100000 in
theorem mtXm_finish (l : Launch) (dC : Nat → ClassId) (dI : Nat → Nat → Nat) (q : Nat → Nat) (dA : Nat → ClassId) (sz : Nat) (p0 : Int32) (p1 : Int32) (M : Mm) (post : Mm → Prop) (hw : wpXm_finish p0 p1 M post) : Met l yXm_finish (wsA yXm_finish cXm_finish 4 none) ({ frames := 3, cells := 0, slots := 0, locals := 63 }) (va_Pc [.ref (q 0), .int p0, .int p1] (pW (dC, dI) vwCl (wM q dA) (tM dA) sz M)) (va_Qv post (bW (dC, dI) vwCl (wM q dA) (tM dA) (va_A (wM q dA M) sz)) (va_A (wM q dA M) sz)) 0 0 (va_A (wM q dA M) sz) := by
  refine Met.ofW (cc := cXm_finish) (maxL := 4) (ret := none) (by decide) rfl ?_
  intro p e s m args below meth c s₁ B hml hv
  obtain ⟨rfl, hsz, hP, hK, hD0⟩ := hv
  have hx := B.exec
  have hb := B.bytes
  have hr := B.returns
  have hts := atoms_spec (ws := (wsA yXm_finish cXm_finish 4 none)) B.pre
  have hta : ∀ w ∈ wsG, w.before _ s = true := fun w h => hts w (List.mem_cons_of_mem _ h)
  have hown : s.vm.findClass "ServiceThreadsModel" = some m.cls := findClass_of_methodNamed B.named
  have hlocks := B.notSynchronized
  subst hsz
  have hD := hD0.self (sz := s.heap.size)
  generalize hAe : va_A (wM q dA M) s.heap.size = A at hD ⊢
  have hA : ∀ q : Nat, s.heap.size ≤ q → A q := fun q h => by rw [← hAe]; exact Or.inr h
  have hS : va_S A s.heap s.heap [] := va_S.rf
  dsimp only [wpXm_finish] at hw
  have hl := lv_entry ([.ref (q 0), .int p0, .int p1]) (n := 4) (Nat.le_of_ble_eq_true rfl)
  rw [lg_entry_eq]
  generalize (lg_sl ([.ref (q 0), .int p0, .int p1]) ++ List.replicate (4 - (lg_sl ([.ref (q 0), .int p0, .int p1])).length) Slot.unset).toArray = ls at hl ⊢
  have hl : lv_has ls 4 [(0, .ref (q 0)), (1, .int p0), (2, .int p1)] := hl
  refine lv_iload_n hx hb dXm_finish_0 rfl (lv_at hl 1 rfl) ?_
  refine cn_i (w := (wM q dA)) (M := M) (wM_ad q dA) (va_runS (As := [.int p0]) (rest := []) ⟨hx, hb, hml, hown, hta⟩ (mtXm_isThread l dC dI q dA s.heap.size p0 M _ hw) (va_cwS 1 hta (giS wt_658 wt_659 wt_7 wt_660) rfl rfl rfl (by decide +kernel) ⟨Nat.le_of_ble_eq_true rfl, Nat.le_of_ble_eq_true rfl⟩) ⟨pW_blind, pW_of hK hP hD⟩ rfl rfl hl.1 rfl (lv_room (Nat.le_of_ble_eq_true rfl)) dXm_finish_1 ⟨Nat.le_of_ble_eq_true rfl, Nat.le_of_ble_eq_true rfl⟩) hD hS hA (fun r_1 M_2 H locs hw hP hD hS => ?_)
  refine lv_if_ne (tgt := 11) hx hb dXm_finish_4 (by decide) (fun c_3 => ?_) (fun c_3 => ?_)
  · have hw := hw.2 c_3
    refine lv_iconst (v := 0) hx hb dXm_finish_11 (by decide) ?_
    refine lv_istore_n (lv' := [(3, .int 0), (0, .ref (q 0)), (1, .int p0), (2, .int p1)]) hx hb dXm_finish_12 rfl hl (by decide) rfl (fun ls hl => ?_)
    refine lv_aload_n hx hb dXm_finish_13 rfl (lv_at hl 1 rfl) ?_
    refine lv_iload_n hx hb dXm_finish_14 rfl (lv_at hl 0 rfl) ?_
    refine lv_iload_n hx hb dXm_finish_15 rfl (lv_at hl 0 rfl) ?_
    refine lv_if_ne (tgt := 45) hx hb dXm_finish_16 (by decide) (fun c_4 => absurd c_4 (by decide)) (fun c_4 => ?_)
    · skip
      refine lv_iload_n hx hb dXm_finish_19 rfl (lv_at hl 3 rfl) ?_
      refine lv_iconst (v := 0) hx hb dXm_finish_20 (by decide) ?_
      refine lv_aload_n hx hb dXm_finish_21 rfl (lv_at hl 1 rfl) ?_
      refine va_get (D := (dC, dI)) (ci := 5) (v := .ref (q 3)) (C := "ServiceThreadsModel") (T := TXm) (N := 28) hx hb hta inXm hown hK hP 0 (wM_0 q dA M_2) rfl 5 (by decide) (hta _ wt_570) (fun _ h9 => h9) rfl dXm_finish_22 ?_
      refine lv_iload_n hx hb dXm_finish_25 rfl (lv_at hl 0 rfl) ?_
      refine lv_if_eq (tgt := 33) hx hb dXm_finish_26 (by decide) (fun c_5 => ?_) (fun c_5 => absurd c_5 (by decide))
      · skip
        refine lv_iload_n hx hb dXm_finish_33 rfl (lv_at hl 2 rfl) ?_
        obtain ⟨h_6, hw⟩ := hw
        refine ro_i (w := (wM q dA)) (M := M_2) hx hb hK hP 3 2 (wM_3 q dA M_2) rfl h_6 dXm_finish_34 (fun y_7 ey_7 => ?_)
        have hw := hw y_7 ey_7
        refine cn_i (w := (wM q dA)) (M := M_2) (wM_ad q dA) (va_runS (As := [.int p1, .int 0, .int y_7]) (rest := [.int 0, .ref (q 0)]) ⟨hx, hb, hml, hown, hta⟩ (mtXm_in l dC dI q dA H.size p1 0 y_7 M_2 _ hw) (va_cwS 3 hta (giS wt_661 wt_662 wt_7 wt_663) rfl rfl rfl (by decide +kernel) ⟨Nat.le_of_ble_eq_true rfl, Nat.le_of_ble_eq_true rfl⟩) ⟨pW_blind, pW_of hK hP hD⟩ rfl rfl hl.1 rfl (lv_room (Nat.le_of_ble_eq_true rfl)) dXm_finish_35 ⟨Nat.le_of_ble_eq_true rfl, Nat.le_of_ble_eq_true rfl⟩) hD hS hA (fun r_8 M_9 H locs hw hP hD hS => ?_)
        refine lv_if_ne (tgt := 45) hx hb dXm_finish_38 (by decide) (fun c_10 => ?_) (fun c_10 => ?_)
        · have hw := hw.2 c_10
          refine lv_iconst (v := 0) hx hb dXm_finish_45 (by decide) ?_
          refine lv_aload_n hx hb dXm_finish_46 rfl (lv_at hl 1 rfl) ?_
          refine lv_iload_n hx hb dXm_finish_47 rfl (lv_at hl 2 rfl) ?_
          refine cn_i (w := (wM q dA)) (M := M_9) (wM_ad q dA) (va_runV (As := [.int p0]) (rest := [.int 0, .int 0, .ref (q 0)]) ⟨hx, hb, hml, hown, hta⟩ (mtXm_hasBegun l dC dI q dA H.size p0 M_9 _ hw) (cwV 1 hta (giV wt_664 wt_666 ws_18 wt_7 wt_667) rfl rfl rfl (by decide +kernel) ⟨Nat.le_of_ble_eq_true rfl, Nat.le_of_ble_eq_true rfl⟩) ⟨pW_blind, va_recv hK hP (ci := 5) (q0 := 0) rfl (wM_0 q dA M_9), pW_of hK hP hD⟩ rfl rfl hl.1 rfl (lv_room (Nat.le_of_ble_eq_true rfl)) dXm_finish_48 ⟨Nat.le_of_ble_eq_true rfl, Nat.le_of_ble_eq_true rfl⟩) hD hS hA (fun r_11 M_12 H locs hw hP hD hS => ?_)
          refine lv_iconst (v := 0) hx hb dXm_finish_51 (by decide) ?_
          refine cn_i (w := (wM q dA)) (M := M_12) (wM_ad q dA) (va_runV (As := [.int 0, .int 0, .int r_11, .int 0]) (rest := []) ⟨hx, hb, hml, hown, hta⟩ (mtXm_throwing l dC dI q dA H.size 0 0 r_11 0 M_12 _ hw) (cwV 4 hta (giV wt_668 wt_670 ws_19 wt_7 wt_671) rfl rfl rfl (by decide +kernel) ⟨Nat.le_of_ble_eq_true rfl, Nat.le_of_ble_eq_true rfl⟩) ⟨pW_blind, va_recv hK hP (ci := 5) (q0 := 0) rfl (wM_0 q dA M_12), pW_of hK hP hD⟩ rfl rfl hl.1 rfl (lv_room (Nat.le_of_ble_eq_true rfl)) dXm_finish_52 ⟨Nat.le_of_ble_eq_true rfl, Nat.le_of_ble_eq_true rfl⟩) hD hS hA (fun r_13 M_14 H locs hw hP hD hS => ?_)
          refine lv_if_eq (tgt := 59) hx hb dXm_finish_55 (by decide) (fun c_15 => ?_) (fun c_15 => ?_)
          · have hw := hw.1 c_15
            refine lv_aload_n hx hb dXm_finish_59 rfl (lv_at hl 1 rfl) ?_
            refine va_get (D := (dC, dI)) (ci := 5) (v := .ref (q 4)) (C := "ServiceThreadsModel") (T := TXm) (N := 28) hx hb hta inXm hown hK hP 0 (wM_0 q dA M_14) rfl 6 (by decide) (hta _ wt_571) (fun _ h9 => h9) rfl dXm_finish_60 ?_
            refine lv_iload_n hx hb dXm_finish_63 rfl (lv_at hl 2 rfl) ?_
            refine lv_iload_n hx hb dXm_finish_64 rfl (lv_at hl 3 rfl) ?_
            refine lv_aload_n hx hb dXm_finish_65 rfl (lv_at hl 1 rfl) ?_
            refine va_get (D := (dC, dI)) (ci := 5) (v := .ref (q 3)) (C := "ServiceThreadsModel") (T := TXm) (N := 28) hx hb hta inXm hown hK hP 0 (wM_0 q dA M_14) rfl 5 (by decide) (hta _ wt_570) (fun _ h9 => h9) rfl dXm_finish_66 ?_
            refine lv_iload_n hx hb dXm_finish_69 rfl (lv_at hl 2 rfl) ?_
            obtain ⟨h_16, hw⟩ := hw
            refine ro_i (w := (wM q dA)) (M := M_14) hx hb hK hP 3 2 (wM_3 q dA M_14) rfl h_16 dXm_finish_70 (fun y_17 ey_17 => ?_)
            have hw := hw y_17 ey_17
            refine lv_icmp_ne (tgt := 79) hx hb dXm_finish_71 (by decide) (fun c_18 => ?_) (fun c_18 => ?_)
            · have hw := hw.2 c_18
              refine lv_iload_n hx hb dXm_finish_79 rfl (lv_at hl 3 rfl) ?_
              obtain ⟨h_19, hw⟩ := hw
              refine wo_i (w := (wM q dA)) (M := M_14) hx hb hK hP hD hS 4 3 (wM_4 q dA M_14) (wM_s4 q dA M_14) rfl h_19 dXm_finish_80 (fun M_20 H locs eM_20 hP hD hS => ?_)
              have hw := hw M_20 eM_20
              exact W.vret hx hb hr (fun t ht hW => ⟨⟨M_20, rfl, hw, by rw [ht]; exact hP, va_K.moved hW.alike hK, hD⟩, hS.F ht⟩) hS.2.2 dXm_finish_81 hlocks
            · have hw := hw.1 c_18
              refine lv_bipush (v := 16) hx hb dXm_finish_74 (by decide) ?_
              refine lv_goto (tgt := 80) hx hb dXm_finish_76 (by decide) ?_
              obtain ⟨h_21, hw⟩ := hw
              refine wo_i (w := (wM q dA)) (M := M_14) hx hb hK hP hD hS 4 3 (wM_4 q dA M_14) (wM_s4 q dA M_14) rfl h_21 dXm_finish_80 (fun M_22 H locs eM_22 hP hD hS => ?_)
              have hw := hw M_22 eM_22
              exact W.vret hx hb hr (fun t ht hW => ⟨⟨M_22, rfl, hw, by rw [ht]; exact hP, va_K.moved hW.alike hK, hD⟩, hS.F ht⟩) hS.2.2 dXm_finish_81 hlocks
          · have hw := hw.2 c_15
            exact W.vret hx hb hr (fun t ht hW => ⟨⟨M_14, rfl, hw, by rw [ht]; exact hP, va_K.moved hW.alike hK, hD⟩, hS.F ht⟩) hS.2.2 dXm_finish_58 hlocks
        · have hw := hw.1 c_10
          refine lv_iconst (v := 1) hx hb dXm_finish_41 (by decide) ?_
          refine lv_goto (tgt := 46) hx hb dXm_finish_42 (by decide) ?_
          refine lv_aload_n hx hb dXm_finish_46 rfl (lv_at hl 1 rfl) ?_
          refine lv_iload_n hx hb dXm_finish_47 rfl (lv_at hl 2 rfl) ?_
          refine cn_i (w := (wM q dA)) (M := M_9) (wM_ad q dA) (va_runV (As := [.int p0]) (rest := [.int 1, .int 0, .ref (q 0)]) ⟨hx, hb, hml, hown, hta⟩ (mtXm_hasBegun l dC dI q dA H.size p0 M_9 _ hw) (cwV 1 hta (giV wt_664 wt_666 ws_18 wt_7 wt_667) rfl rfl rfl (by decide +kernel) ⟨Nat.le_of_ble_eq_true rfl, Nat.le_of_ble_eq_true rfl⟩) ⟨pW_blind, va_recv hK hP (ci := 5) (q0 := 0) rfl (wM_0 q dA M_9), pW_of hK hP hD⟩ rfl rfl hl.1 rfl (lv_room (Nat.le_of_ble_eq_true rfl)) dXm_finish_48 ⟨Nat.le_of_ble_eq_true rfl, Nat.le_of_ble_eq_true rfl⟩) hD hS hA (fun r_23 M_24 H locs hw hP hD hS => ?_)
          refine lv_iconst (v := 0) hx hb dXm_finish_51 (by decide) ?_
          refine cn_i (w := (wM q dA)) (M := M_24) (wM_ad q dA) (va_runV (As := [.int 0, .int 1, .int r_23, .int 0]) (rest := []) ⟨hx, hb, hml, hown, hta⟩ (mtXm_throwing l dC dI q dA H.size 0 1 r_23 0 M_24 _ hw) (cwV 4 hta (giV wt_668 wt_670 ws_19 wt_7 wt_671) rfl rfl rfl (by decide +kernel) ⟨Nat.le_of_ble_eq_true rfl, Nat.le_of_ble_eq_true rfl⟩) ⟨pW_blind, va_recv hK hP (ci := 5) (q0 := 0) rfl (wM_0 q dA M_24), pW_of hK hP hD⟩ rfl rfl hl.1 rfl (lv_room (Nat.le_of_ble_eq_true rfl)) dXm_finish_52 ⟨Nat.le_of_ble_eq_true rfl, Nat.le_of_ble_eq_true rfl⟩) hD hS hA (fun r_25 M_26 H locs hw hP hD hS => ?_)
          refine lv_if_eq (tgt := 59) hx hb dXm_finish_55 (by decide) (fun c_27 => ?_) (fun c_27 => ?_)
          · have hw := hw.1 c_27
            refine lv_aload_n hx hb dXm_finish_59 rfl (lv_at hl 1 rfl) ?_
            refine va_get (D := (dC, dI)) (ci := 5) (v := .ref (q 4)) (C := "ServiceThreadsModel") (T := TXm) (N := 28) hx hb hta inXm hown hK hP 0 (wM_0 q dA M_26) rfl 6 (by decide) (hta _ wt_571) (fun _ h9 => h9) rfl dXm_finish_60 ?_
            refine lv_iload_n hx hb dXm_finish_63 rfl (lv_at hl 2 rfl) ?_
            refine lv_iload_n hx hb dXm_finish_64 rfl (lv_at hl 3 rfl) ?_
            refine lv_aload_n hx hb dXm_finish_65 rfl (lv_at hl 1 rfl) ?_
            refine va_get (D := (dC, dI)) (ci := 5) (v := .ref (q 3)) (C := "ServiceThreadsModel") (T := TXm) (N := 28) hx hb hta inXm hown hK hP 0 (wM_0 q dA M_26) rfl 5 (by decide) (hta _ wt_570) (fun _ h9 => h9) rfl dXm_finish_66 ?_
            refine lv_iload_n hx hb dXm_finish_69 rfl (lv_at hl 2 rfl) ?_
            obtain ⟨h_28, hw⟩ := hw
            refine ro_i (w := (wM q dA)) (M := M_26) hx hb hK hP 3 2 (wM_3 q dA M_26) rfl h_28 dXm_finish_70 (fun y_29 ey_29 => ?_)
            have hw := hw y_29 ey_29
            refine lv_icmp_ne (tgt := 79) hx hb dXm_finish_71 (by decide) (fun c_30 => ?_) (fun c_30 => ?_)
            · have hw := hw.2 c_30
              refine lv_iload_n hx hb dXm_finish_79 rfl (lv_at hl 3 rfl) ?_
              obtain ⟨h_31, hw⟩ := hw
              refine wo_i (w := (wM q dA)) (M := M_26) hx hb hK hP hD hS 4 3 (wM_4 q dA M_26) (wM_s4 q dA M_26) rfl h_31 dXm_finish_80 (fun M_32 H locs eM_32 hP hD hS => ?_)
              have hw := hw M_32 eM_32
              exact W.vret hx hb hr (fun t ht hW => ⟨⟨M_32, rfl, hw, by rw [ht]; exact hP, va_K.moved hW.alike hK, hD⟩, hS.F ht⟩) hS.2.2 dXm_finish_81 hlocks
            · have hw := hw.1 c_30
              refine lv_bipush (v := 16) hx hb dXm_finish_74 (by decide) ?_
              refine lv_goto (tgt := 80) hx hb dXm_finish_76 (by decide) ?_
              obtain ⟨h_33, hw⟩ := hw
              refine wo_i (w := (wM q dA)) (M := M_26) hx hb hK hP hD hS 4 3 (wM_4 q dA M_26) (wM_s4 q dA M_26) rfl h_33 dXm_finish_80 (fun M_34 H locs eM_34 hP hD hS => ?_)
              have hw := hw M_34 eM_34
              exact W.vret hx hb hr (fun t ht hW => ⟨⟨M_34, rfl, hw, by rw [ht]; exact hP, va_K.moved hW.alike hK, hD⟩, hS.F ht⟩) hS.2.2 dXm_finish_81 hlocks
          · have hw := hw.2 c_27
            exact W.vret hx hb hr (fun t ht hW => ⟨⟨M_26, rfl, hw, by rw [ht]; exact hP, va_K.moved hW.alike hK, hD⟩, hS.F ht⟩) hS.2.2 dXm_finish_58 hlocks
  · have hw := hw.1 c_3
    refine lv_iconst (v := 1) hx hb dXm_finish_7 (by decide) ?_
    refine lv_goto (tgt := 12) hx hb dXm_finish_8 (by decide) ?_
    refine lv_istore_n (lv' := [(3, .int 1), (0, .ref (q 0)), (1, .int p0), (2, .int p1)]) hx hb dXm_finish_12 rfl hl (by decide) rfl (fun ls hl => ?_)
    refine lv_aload_n hx hb dXm_finish_13 rfl (lv_at hl 1 rfl) ?_
    refine lv_iload_n hx hb dXm_finish_14 rfl (lv_at hl 0 rfl) ?_
    refine lv_iload_n hx hb dXm_finish_15 rfl (lv_at hl 0 rfl) ?_
    refine lv_if_ne (tgt := 45) hx hb dXm_finish_16 (by decide) (fun c_35 => ?_) (fun c_35 => absurd c_35 (by decide))
    · skip
      refine lv_iconst (v := 0) hx hb dXm_finish_45 (by decide) ?_
      refine lv_aload_n hx hb dXm_finish_46 rfl (lv_at hl 1 rfl) ?_
      refine lv_iload_n hx hb dXm_finish_47 rfl (lv_at hl 2 rfl) ?_
      refine cn_i (w := (wM q dA)) (M := M_2) (wM_ad q dA) (va_runV (As := [.int p0]) (rest := [.int 0, .int 1, .ref (q 0)]) ⟨hx, hb, hml, hown, hta⟩ (mtXm_hasBegun l dC dI q dA H.size p0 M_2 _ hw) (cwV 1 hta (giV wt_664 wt_666 ws_18 wt_7 wt_667) rfl rfl rfl (by decide +kernel) ⟨Nat.le_of_ble_eq_true rfl, Nat.le_of_ble_eq_true rfl⟩) ⟨pW_blind, va_recv hK hP (ci := 5) (q0 := 0) rfl (wM_0 q dA M_2), pW_of hK hP hD⟩ rfl rfl hl.1 rfl (lv_room (Nat.le_of_ble_eq_true rfl)) dXm_finish_48 ⟨Nat.le_of_ble_eq_true rfl, Nat.le_of_ble_eq_true rfl⟩) hD hS hA (fun r_36 M_37 H locs hw hP hD hS => ?_)
      refine lv_iconst (v := 0) hx hb dXm_finish_51 (by decide) ?_
      refine cn_i (w := (wM q dA)) (M := M_37) (wM_ad q dA) (va_runV (As := [.int 1, .int 0, .int r_36, .int 0]) (rest := []) ⟨hx, hb, hml, hown, hta⟩ (mtXm_throwing l dC dI q dA H.size 1 0 r_36 0 M_37 _ hw) (cwV 4 hta (giV wt_668 wt_670 ws_19 wt_7 wt_671) rfl rfl rfl (by decide +kernel) ⟨Nat.le_of_ble_eq_true rfl, Nat.le_of_ble_eq_true rfl⟩) ⟨pW_blind, va_recv hK hP (ci := 5) (q0 := 0) rfl (wM_0 q dA M_37), pW_of hK hP hD⟩ rfl rfl hl.1 rfl (lv_room (Nat.le_of_ble_eq_true rfl)) dXm_finish_52 ⟨Nat.le_of_ble_eq_true rfl, Nat.le_of_ble_eq_true rfl⟩) hD hS hA (fun r_38 M_39 H locs hw hP hD hS => ?_)
      refine lv_if_eq (tgt := 59) hx hb dXm_finish_55 (by decide) (fun c_40 => ?_) (fun c_40 => ?_)
      · have hw := hw.1 c_40
        refine lv_aload_n hx hb dXm_finish_59 rfl (lv_at hl 1 rfl) ?_
        refine va_get (D := (dC, dI)) (ci := 5) (v := .ref (q 4)) (C := "ServiceThreadsModel") (T := TXm) (N := 28) hx hb hta inXm hown hK hP 0 (wM_0 q dA M_39) rfl 6 (by decide) (hta _ wt_571) (fun _ h9 => h9) rfl dXm_finish_60 ?_
        refine lv_iload_n hx hb dXm_finish_63 rfl (lv_at hl 2 rfl) ?_
        refine lv_iload_n hx hb dXm_finish_64 rfl (lv_at hl 3 rfl) ?_
        refine lv_aload_n hx hb dXm_finish_65 rfl (lv_at hl 1 rfl) ?_
        refine va_get (D := (dC, dI)) (ci := 5) (v := .ref (q 3)) (C := "ServiceThreadsModel") (T := TXm) (N := 28) hx hb hta inXm hown hK hP 0 (wM_0 q dA M_39) rfl 5 (by decide) (hta _ wt_570) (fun _ h9 => h9) rfl dXm_finish_66 ?_
        refine lv_iload_n hx hb dXm_finish_69 rfl (lv_at hl 2 rfl) ?_
        obtain ⟨h_41, hw⟩ := hw
        refine ro_i (w := (wM q dA)) (M := M_39) hx hb hK hP 3 2 (wM_3 q dA M_39) rfl h_41 dXm_finish_70 (fun y_42 ey_42 => ?_)
        have hw := hw y_42 ey_42
        refine lv_icmp_ne (tgt := 79) hx hb dXm_finish_71 (by decide) (fun c_43 => ?_) (fun c_43 => ?_)
        · have hw := hw.2 c_43
          refine lv_iload_n hx hb dXm_finish_79 rfl (lv_at hl 3 rfl) ?_
          obtain ⟨h_44, hw⟩ := hw
          refine wo_i (w := (wM q dA)) (M := M_39) hx hb hK hP hD hS 4 3 (wM_4 q dA M_39) (wM_s4 q dA M_39) rfl h_44 dXm_finish_80 (fun M_45 H locs eM_45 hP hD hS => ?_)
          have hw := hw M_45 eM_45
          exact W.vret hx hb hr (fun t ht hW => ⟨⟨M_45, rfl, hw, by rw [ht]; exact hP, va_K.moved hW.alike hK, hD⟩, hS.F ht⟩) hS.2.2 dXm_finish_81 hlocks
        · have hw := hw.1 c_43
          refine lv_bipush (v := 16) hx hb dXm_finish_74 (by decide) ?_
          refine lv_goto (tgt := 80) hx hb dXm_finish_76 (by decide) ?_
          obtain ⟨h_46, hw⟩ := hw
          refine wo_i (w := (wM q dA)) (M := M_39) hx hb hK hP hD hS 4 3 (wM_4 q dA M_39) (wM_s4 q dA M_39) rfl h_46 dXm_finish_80 (fun M_47 H locs eM_47 hP hD hS => ?_)
          have hw := hw M_47 eM_47
          exact W.vret hx hb hr (fun t ht hW => ⟨⟨M_47, rfl, hw, by rw [ht]; exact hP, va_K.moved hW.alike hK, hD⟩, hS.F ht⟩) hS.2.2 dXm_finish_81 hlocks
      · have hw := hw.2 c_40
        exact W.vret hx hb hr (fun t ht hW => ⟨⟨M_39, rfl, hw, by rw [ht]; exact hP, va_K.moved hW.alike hK, hD⟩, hS.F ht⟩) hS.2.2 dXm_finish_58 hlocks
