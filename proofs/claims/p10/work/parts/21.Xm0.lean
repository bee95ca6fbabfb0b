def wpXm_throwing (p0 : Int32) (p1 : Int32) (p2 : Int32) (p3 : Int32) (M : Mm) (post : Int32 → Mm → Prop) : Prop := ((p0 = 0 → (((p1 = 0 → (((p2 = 0 → (((p3 = 0 → (∀ M_5 : Mm, M_5 = stM M 26 (fun _ => 0) → (∀ y_6 : Int32, y_6 = M_5 26 0 → (((y_6 ≤ 0 → (post 0 M_5)) ∧ (¬ y_6 ≤ 0 → (post 1 M_5))))))) ∧ (¬ p3 = 0 → (∀ M_8 : Mm, M_8 = stM M 26 (fun _ => 4) → (∀ y_9 : Int32, y_9 = M_8 26 0 → (((y_9 ≤ 0 → (post 0 M_8)) ∧ (¬ y_9 ≤ 0 → (post 1 M_8)))))))))) ∧ (¬ p2 = 0 → (∀ M_11 : Mm, M_11 = stM M 26 (fun _ => 3) → (∀ y_12 : Int32, y_12 = M_11 26 0 → (((y_12 ≤ 0 → (post 0 M_11)) ∧ (¬ y_12 ≤ 0 → (post 1 M_11)))))))))) ∧ (¬ p1 = 0 → (∀ M_14 : Mm, M_14 = stM M 26 (fun _ => 2) → (∀ y_15 : Int32, y_15 = M_14 26 0 → (((y_15 ≤ 0 → (post 0 M_14)) ∧ (¬ y_15 ≤ 0 → (post 1 M_14)))))))))) ∧ (¬ p0 = 0 → (∀ M_17 : Mm, M_17 = stM M 26 (fun _ => 1) → (∀ y_18 : Int32, y_18 = M_17 26 0 → (((y_18 ≤ 0 → (post 0 M_17)) ∧ (¬ y_18 ≤ 0 → (post 1 M_17))))))))
set_option maxHeartbeats 4000000 in
set_option maxRecDepth 100000 in
theorem mtXm_throwing (l : Launch) (dC : Nat → ClassId) (dI : Nat → Nat → Nat) (q : Nat → Nat) (dA : Nat → ClassId) (sz : Nat) (p0 : Int32) (p1 : Int32) (p2 : Int32) (p3 : Int32) (M : Mm) (post : Int32 → Mm → Prop) (hw : wpXm_throwing p0 p1 p2 p3 M post) : Met l yXm_throwing (wsA yXm_throwing cXm_throwing 5 (some .boolean)) ({ frames := 0, cells := 0, slots := 0, locals := 0 }) (va_Pc [.ref (q 0), .int p0, .int p1, .int p2, .int p3] (pW (dC, dI) vwCl (wM q dA) (tM dA) sz M)) (va_Qi post (bW (dC, dI) vwCl (wM q dA) (tM dA) (va_A (wM q dA M) sz)) (va_A (wM q dA M) sz)) 0 0 (va_A (wM q dA M) sz) := by
  refine Met.ofW (cc := cXm_throwing) (maxL := 5) (ret := (some .boolean)) (by decide) rfl ?_
  intro p e s m args below meth c s₁ B hml hv
  obtain ⟨rfl, hsz, hP, hK, hD0⟩ := hv
  have hx := B.exec
  have hb := B.bytes
  have hr := B.returns
  have hts := atoms_spec (ws := (wsA yXm_throwing cXm_throwing 5 (some .boolean))) B.pre
  have hta : ∀ w ∈ wsG, w.before _ s = true := fun w h => hts w (List.mem_cons_of_mem _ h)
  have hown : s.vm.findClass "ServiceThreadsModel" = some m.cls := findClass_of_methodNamed B.named
  have hlocks := B.notSynchronized
  subst hsz
  have hD := hD0.self (sz := s.heap.size)
  generalize hAe : va_A (wM q dA M) s.heap.size = A at hD ⊢
  have hA : ∀ q : Nat, s.heap.size ≤ q → A q := fun q h => by rw [← hAe]; exact Or.inr h
  have hS : va_S A s.heap s.heap [] := va_S.rf
  dsimp only [wpXm_throwing] at hw
  have hl := lv_entry ([.ref (q 0), .int p0, .int p1, .int p2, .int p3]) (n := 5) (Nat.le_of_ble_eq_true rfl)
  rw [lg_entry_eq]
  generalize (lg_sl ([.ref (q 0), .int p0, .int p1, .int p2, .int p3]) ++ List.replicate (5 - (lg_sl ([.ref (q 0), .int p0, .int p1, .int p2, .int p3])).length) Slot.unset).toArray = ls at hl ⊢
  have hl : lv_has ls 5 [(0, .ref (q 0)), (1, .int p0), (2, .int p1), (3, .int p2), (4, .int p3)] := hl
  refine lv_aload_n hx hb dXm_throwing_0 rfl (lv_at hl 0 rfl) ?_
  refine lv_iload_n hx hb dXm_throwing_1 rfl (lv_at hl 1 rfl) ?_
  refine lv_if_eq (tgt := 9) hx hb dXm_throwing_2 (by decide) (fun c_1 => ?_) (fun c_1 => ?_)
  · have hw := hw.1 c_1
    refine lv_iload_n hx hb dXm_throwing_9 rfl (lv_at hl 2 rfl) ?_
    refine lv_if_eq (tgt := 17) hx hb dXm_throwing_10 (by decide) (fun c_2 => ?_) (fun c_2 => ?_)
    · have hw := hw.1 c_2
      refine lv_iload_n hx hb dXm_throwing_17 rfl (lv_at hl 3 rfl) ?_
      refine lv_if_eq (tgt := 25) hx hb dXm_throwing_18 (by decide) (fun c_3 => ?_) (fun c_3 => ?_)
      · have hw := hw.1 c_3
        refine lv_iload hx hb dXm_throwing_25 (lv_at hl 4 rfl) ?_
        refine lv_if_eq (tgt := 34) hx hb dXm_throwing_27 (by decide) (fun c_4 => ?_) (fun c_4 => ?_)
        · have hw := hw.1 c_4
          refine lv_iconst (v := 0) hx hb dXm_throwing_34 (by decide) ?_
          refine va_put (D := (dC, dI)) (ci := 5) (v := .int 0) (ty := .int) (C := "ServiceThreadsModel") (T := TXm) (N := 28) hx hb hta inXm tyXm tyXm_ok nmXm hown hK hP hD hS 0 (wM_0 q dA M) rfl 0 (by decide) (hta _ wt_565) (fun _ h9 => h9) rfl (by decide +kernel) rfl rfl (Nat.le_of_ble_eq_true rfl) dXm_throwing_35 (fun H locs hP hD hS => ?_)
          obtain ⟨M_5, eM_5⟩ : ∃ y : Mm, y = stM M 26 (fun _ => 0) := ⟨_, rfl⟩
          have hP : va_P (dC, dI) vwCl (wM q dA M_5) H := by rw [eM_5]; exact hP
          have hD : va_D A (wM q dA M_5) := by rw [eM_5]; exact hD
          have hw := hw M_5 eM_5
          refine lv_aload_n hx hb dXm_throwing_38 rfl (lv_at hl 0 rfl) ?_
          refine va_get (D := (dC, dI)) (ci := 5) (v := .int (M_5 26 0)) (C := "ServiceThreadsModel") (T := TXm) (N := 28) hx hb hta inXm hown hK hP 0 (wM_0 q dA M_5) rfl 0 (by decide) (hta _ wt_565) (fun _ h9 => h9) rfl dXm_throwing_39 ?_
          refine lv_topi (fun y_6 ey_6 => ?_)
          have hw := hw y_6 ey_6
          refine lv_if_le (tgt := 49) hx hb dXm_throwing_42 (by decide) (fun c_7 => ?_) (fun c_7 => ?_)
          · have hw := hw.1 c_7
            refine lv_iconst (v := 0) hx hb dXm_throwing_49 (by decide) ?_
            exact W.zret (v := 0) hx hb hr (by decide) (fun t ht hW => ⟨⟨0, M_5, rfl, hw, by rw [ht]; exact hP, va_K.moved hW.alike hK, hD⟩, hS.F ht⟩) hS.2.2 dXm_throwing_50 hlocks
          · have hw := hw.2 c_7
            refine lv_iconst (v := 1) hx hb dXm_throwing_45 (by decide) ?_
            refine lv_goto (tgt := 50) hx hb dXm_throwing_46 (by decide) ?_
            exact W.zret (v := 1) hx hb hr (by decide) (fun t ht hW => ⟨⟨1, M_5, rfl, hw, by rw [ht]; exact hP, va_K.moved hW.alike hK, hD⟩, hS.F ht⟩) hS.2.2 dXm_throwing_50 hlocks
        · have hw := hw.2 c_4
          refine lv_iconst (v := 4) hx hb dXm_throwing_30 (by decide) ?_
          refine lv_goto (tgt := 35) hx hb dXm_throwing_31 (by decide) ?_
          refine va_put (D := (dC, dI)) (ci := 5) (v := .int 4) (ty := .int) (C := "ServiceThreadsModel") (T := TXm) (N := 28) hx hb hta inXm tyXm tyXm_ok nmXm hown hK hP hD hS 0 (wM_0 q dA M) rfl 0 (by decide) (hta _ wt_565) (fun _ h9 => h9) rfl (by decide +kernel) rfl rfl (Nat.le_of_ble_eq_true rfl) dXm_throwing_35 (fun H locs hP hD hS => ?_)
          obtain ⟨M_8, eM_8⟩ : ∃ y : Mm, y = stM M 26 (fun _ => 4) := ⟨_, rfl⟩
          have hP : va_P (dC, dI) vwCl (wM q dA M_8) H := by rw [eM_8]; exact hP
          have hD : va_D A (wM q dA M_8) := by rw [eM_8]; exact hD
          have hw := hw M_8 eM_8
          refine lv_aload_n hx hb dXm_throwing_38 rfl (lv_at hl 0 rfl) ?_
          refine va_get (D := (dC, dI)) (ci := 5) (v := .int (M_8 26 0)) (C := "ServiceThreadsModel") (T := TXm) (N := 28) hx hb hta inXm hown hK hP 0 (wM_0 q dA M_8) rfl 0 (by decide) (hta _ wt_565) (fun _ h9 => h9) rfl dXm_throwing_39 ?_
          refine lv_topi (fun y_9 ey_9 => ?_)
          have hw := hw y_9 ey_9
          refine lv_if_le (tgt := 49) hx hb dXm_throwing_42 (by decide) (fun c_10 => ?_) (fun c_10 => ?_)
          · have hw := hw.1 c_10
            refine lv_iconst (v := 0) hx hb dXm_throwing_49 (by decide) ?_
            exact W.zret (v := 0) hx hb hr (by decide) (fun t ht hW => ⟨⟨0, M_8, rfl, hw, by rw [ht]; exact hP, va_K.moved hW.alike hK, hD⟩, hS.F ht⟩) hS.2.2 dXm_throwing_50 hlocks
          · have hw := hw.2 c_10
            refine lv_iconst (v := 1) hx hb dXm_throwing_45 (by decide) ?_
            refine lv_goto (tgt := 50) hx hb dXm_throwing_46 (by decide) ?_
            exact W.zret (v := 1) hx hb hr (by decide) (fun t ht hW => ⟨⟨1, M_8, rfl, hw, by rw [ht]; exact hP, va_K.moved hW.alike hK, hD⟩, hS.F ht⟩) hS.2.2 dXm_throwing_50 hlocks
      · have hw := hw.2 c_3
        refine lv_iconst (v := 3) hx hb dXm_throwing_21 (by decide) ?_
        refine lv_goto (tgt := 35) hx hb dXm_throwing_22 (by decide) ?_
        refine va_put (D := (dC, dI)) (ci := 5) (v := .int 3) (ty := .int) (C := "ServiceThreadsModel") (T := TXm) (N := 28) hx hb hta inXm tyXm tyXm_ok nmXm hown hK hP hD hS 0 (wM_0 q dA M) rfl 0 (by decide) (hta _ wt_565) (fun _ h9 => h9) rfl (by decide +kernel) rfl rfl (Nat.le_of_ble_eq_true rfl) dXm_throwing_35 (fun H locs hP hD hS => ?_)
        obtain ⟨M_11, eM_11⟩ : ∃ y : Mm, y = stM M 26 (fun _ => 3) := ⟨_, rfl⟩
        have hP : va_P (dC, dI) vwCl (wM q dA M_11) H := by rw [eM_11]; exact hP
        have hD : va_D A (wM q dA M_11) := by rw [eM_11]; exact hD
        have hw := hw M_11 eM_11
        refine lv_aload_n hx hb dXm_throwing_38 rfl (lv_at hl 0 rfl) ?_
        refine va_get (D := (dC, dI)) (ci := 5) (v := .int (M_11 26 0)) (C := "ServiceThreadsModel") (T := TXm) (N := 28) hx hb hta inXm hown hK hP 0 (wM_0 q dA M_11) rfl 0 (by decide) (hta _ wt_565) (fun _ h9 => h9) rfl dXm_throwing_39 ?_
        refine lv_topi (fun y_12 ey_12 => ?_)
        have hw := hw y_12 ey_12
        refine lv_if_le (tgt := 49) hx hb dXm_throwing_42 (by decide) (fun c_13 => ?_) (fun c_13 => ?_)
        · have hw := hw.1 c_13
          refine lv_iconst (v := 0) hx hb dXm_throwing_49 (by decide) ?_
          exact W.zret (v := 0) hx hb hr (by decide) (fun t ht hW => ⟨⟨0, M_11, rfl, hw, by rw [ht]; exact hP, va_K.moved hW.alike hK, hD⟩, hS.F ht⟩) hS.2.2 dXm_throwing_50 hlocks
        · have hw := hw.2 c_13
          refine lv_iconst (v := 1) hx hb dXm_throwing_45 (by decide) ?_
          refine lv_goto (tgt := 50) hx hb dXm_throwing_46 (by decide) ?_
          exact W.zret (v := 1) hx hb hr (by decide) (fun t ht hW => ⟨⟨1, M_11, rfl, hw, by rw [ht]; exact hP, va_K.moved hW.alike hK, hD⟩, hS.F ht⟩) hS.2.2 dXm_throwing_50 hlocks
    · have hw := hw.2 c_2
      refine lv_iconst (v := 2) hx hb dXm_throwing_13 (by decide) ?_
      refine lv_goto (tgt := 35) hx hb dXm_throwing_14 (by decide) ?_
      refine va_put (D := (dC, dI)) (ci := 5) (v := .int 2) (ty := .int) (C := "ServiceThreadsModel") (T := TXm) (N := 28) hx hb hta inXm tyXm tyXm_ok nmXm hown hK hP hD hS 0 (wM_0 q dA M) rfl 0 (by decide) (hta _ wt_565) (fun _ h9 => h9) rfl (by decide +kernel) rfl rfl (Nat.le_of_ble_eq_true rfl) dXm_throwing_35 (fun H locs hP hD hS => ?_)
      obtain ⟨M_14, eM_14⟩ : ∃ y : Mm, y = stM M 26 (fun _ => 2) := ⟨_, rfl⟩
      have hP : va_P (dC, dI) vwCl (wM q dA M_14) H := by rw [eM_14]; exact hP
      have hD : va_D A (wM q dA M_14) := by rw [eM_14]; exact hD
      have hw := hw M_14 eM_14
      refine lv_aload_n hx hb dXm_throwing_38 rfl (lv_at hl 0 rfl) ?_
      refine va_get (D := (dC, dI)) (ci := 5) (v := .int (M_14 26 0)) (C := "ServiceThreadsModel") (T := TXm) (N := 28) hx hb hta inXm hown hK hP 0 (wM_0 q dA M_14) rfl 0 (by decide) (hta _ wt_565) (fun _ h9 => h9) rfl dXm_throwing_39 ?_
      refine lv_topi (fun y_15 ey_15 => ?_)
      have hw := hw y_15 ey_15
      refine lv_if_le (tgt := 49) hx hb dXm_throwing_42 (by decide) (fun c_16 => ?_) (fun c_16 => ?_)
      · have hw := hw.1 c_16
        refine lv_iconst (v := 0) hx hb dXm_throwing_49 (by decide) ?_
        exact W.zret (v := 0) hx hb hr (by decide) (fun t ht hW => ⟨⟨0, M_14, rfl, hw, by rw [ht]; exact hP, va_K.moved hW.alike hK, hD⟩, hS.F ht⟩) hS.2.2 dXm_throwing_50 hlocks
      · have hw := hw.2 c_16
        refine lv_iconst (v := 1) hx hb dXm_throwing_45 (by decide) ?_
        refine lv_goto (tgt := 50) hx hb dXm_throwing_46 (by decide) ?_
        exact W.zret (v := 1) hx hb hr (by decide) (fun t ht hW => ⟨⟨1, M_14, rfl, hw, by rw [ht]; exact hP, va_K.moved hW.alike hK, hD⟩, hS.F ht⟩) hS.2.2 dXm_throwing_50 hlocks
  · have hw := hw.2 c_1
    refine lv_iconst (v := 1) hx hb dXm_throwing_5 (by decide) ?_
    refine lv_goto (tgt := 35) hx hb dXm_throwing_6 (by decide) ?_
    refine va_put (D := (dC, dI)) (ci := 5) (v := .int 1) (ty := .int) (C := "ServiceThreadsModel") (T := TXm) (N := 28) hx hb hta inXm tyXm tyXm_ok nmXm hown hK hP hD hS 0 (wM_0 q dA M) rfl 0 (by decide) (hta _ wt_565) (fun _ h9 => h9) rfl (by decide +kernel) rfl rfl (Nat.le_of_ble_eq_true rfl) dXm_throwing_35 (fun H locs hP hD hS => ?_)
    obtain ⟨M_17, eM_17⟩ : ∃ y : Mm, y = stM M 26 (fun _ => 1) := ⟨_, rfl⟩
    have hP : va_P (dC, dI) vwCl (wM q dA M_17) H := by rw [eM_17]; exact hP
    have hD : va_D A (wM q dA M_17) := by rw [eM_17]; exact hD
    have hw := hw M_17 eM_17
    refine lv_aload_n hx hb dXm_throwing_38 rfl (lv_at hl 0 rfl) ?_
    refine va_get (D := (dC, dI)) (ci := 5) (v := .int (M_17 26 0)) (C := "ServiceThreadsModel") (T := TXm) (N := 28) hx hb hta inXm hown hK hP 0 (wM_0 q dA M_17) rfl 0 (by decide) (hta _ wt_565) (fun _ h9 => h9) rfl dXm_throwing_39 ?_
    refine lv_topi (fun y_18 ey_18 => ?_)
    have hw := hw y_18 ey_18
    refine lv_if_le (tgt := 49) hx hb dXm_throwing_42 (by decide) (fun c_19 => ?_) (fun c_19 => ?_)
    · have hw := hw.1 c_19
      refine lv_iconst (v := 0) hx hb dXm_throwing_49 (by decide) ?_
      exact W.zret (v := 0) hx hb hr (by decide) (fun t ht hW => ⟨⟨0, M_17, rfl, hw, by rw [ht]; exact hP, va_K.moved hW.alike hK, hD⟩, hS.F ht⟩) hS.2.2 dXm_throwing_50 hlocks
    · have hw := hw.2 c_19
      refine lv_iconst (v := 1) hx hb dXm_throwing_45 (by decide) ?_
      refine lv_goto (tgt := 50) hx hb dXm_throwing_46 (by decide) ?_
      exact W.zret (v := 1) hx hb hr (by decide) (fun t ht hW => ⟨⟨1, M_17, rfl, hw, by rw [ht]; exact hP, va_K.moved hW.alike hK, hD⟩, hS.F ht⟩) hS.2.2 dXm_throwing_50 hlocks
def wpXm_in (p0 : Int32) (p1 : Int32) (p2 : Int32) (M : Mm) (post : Int32 → Mm → Prop) : Prop := ((p0 < p1 → (post 0 M)) ∧ (¬ p0 < p1 → (((p2 < p0 → (post 0 M)) ∧ (¬ p2 < p0 → (post 1 M))))))
set_option maxHeartbeats 4000000 in
set_option maxRecDepth 100000 in
theorem mtXm_in (l : Launch) (dC : Nat → ClassId) (dI : Nat → Nat → Nat) (q : Nat → Nat) (dA : Nat → ClassId) (sz : Nat) (p0 : Int32) (p1 : Int32) (p2 : Int32) (M : Mm) (post : Int32 → Mm → Prop) (hw : wpXm_in p0 p1 p2 M post) : Met l yXm_in (wsA yXm_in cXm_in 3 (some .boolean)) ({ frames := 0, cells := 0, slots := 0, locals := 0 }) (va_Pc [.int p0, .int p1, .int p2] (pW (dC, dI) vwCl (wM q dA) (tM dA) sz M)) (va_Qi post (bW (dC, dI) vwCl (wM q dA) (tM dA) (va_A (wM q dA M) sz)) (va_A (wM q dA M) sz)) 0 0 (va_A (wM q dA M) sz) := by
  refine Met.ofW (cc := cXm_in) (maxL := 3) (ret := (some .boolean)) (by decide) rfl ?_
  intro p e s m args below meth c s₁ B hml hv
  obtain ⟨rfl, hsz, hP, hK, hD0⟩ := hv
  have hx := B.exec
  have hb := B.bytes
  have hr := B.returns
  have hts := atoms_spec (ws := (wsA yXm_in cXm_in 3 (some .boolean))) B.pre
  have hta : ∀ w ∈ wsG, w.before _ s = true := fun w h => hts w (List.mem_cons_of_mem _ h)
  have hown : s.vm.findClass "ServiceThreadsModel" = some m.cls := findClass_of_methodNamed B.named
  have hlocks := B.notSynchronized
  subst hsz
  have hD := hD0.self (sz := s.heap.size)
  generalize hAe : va_A (wM q dA M) s.heap.size = A at hD ⊢
  have hA : ∀ q : Nat, s.heap.size ≤ q → A q := fun q h => by rw [← hAe]; exact Or.inr h
  have hS : va_S A s.heap s.heap [] := va_S.rf
  dsimp only [wpXm_in] at hw
  have hl := lv_entry ([.int p0, .int p1, .int p2]) (n := 3) (Nat.le_of_ble_eq_true rfl)
  rw [lg_entry_eq]
  generalize (lg_sl ([.int p0, .int p1, .int p2]) ++ List.replicate (3 - (lg_sl ([.int p0, .int p1, .int p2])).length) Slot.unset).toArray = ls at hl ⊢
  have hl : lv_has ls 3 [(0, .int p0), (1, .int p1), (2, .int p2)] := hl
  refine lv_iload_n hx hb dXm_in_0 rfl (lv_at hl 0 rfl) ?_
  refine lv_iload_n hx hb dXm_in_1 rfl (lv_at hl 1 rfl) ?_
  refine lv_icmp_lt (tgt := 14) hx hb dXm_in_2 (by decide) (fun c_1 => ?_) (fun c_1 => ?_)
  · have hw := hw.1 c_1
    refine lv_iconst (v := 0) hx hb dXm_in_14 (by decide) ?_
    exact W.zret (v := 0) hx hb hr (by decide) (fun t ht hW => ⟨⟨0, M, rfl, hw, by rw [ht]; exact hP, va_K.moved hW.alike hK, hD⟩, hS.F ht⟩) hS.2.2 dXm_in_15 hlocks
  · have hw := hw.2 c_1
    refine lv_iload_n hx hb dXm_in_5 rfl (lv_at hl 0 rfl) ?_
    refine lv_iload_n hx hb dXm_in_6 rfl (lv_at hl 2 rfl) ?_
    refine lv_icmp_gt (tgt := 14) hx hb dXm_in_7 (by decide) (fun c_2 => ?_) (fun c_2 => ?_)
    · have hw := hw.1 c_2
      refine lv_iconst (v := 0) hx hb dXm_in_14 (by decide) ?_
      exact W.zret (v := 0) hx hb hr (by decide) (fun t ht hW => ⟨⟨0, M, rfl, hw, by rw [ht]; exact hP, va_K.moved hW.alike hK, hD⟩, hS.F ht⟩) hS.2.2 dXm_in_15 hlocks
    · have hw := hw.2 c_2
      refine lv_iconst (v := 1) hx hb dXm_in_10 (by decide) ?_
      refine lv_goto (tgt := 15) hx hb dXm_in_11 (by decide) ?_
      exact W.zret (v := 1) hx hb hr (by decide) (fun t ht hW => ⟨⟨1, M, rfl, hw, by rw [ht]; exact hP, va_K.moved hW.alike hK, hD⟩, hS.F ht⟩) hS.2.2 dXm_in_15 hlocks
def wpXm_isThread (p0 : Int32) (M : Mm) (post : Int32 → Mm → Prop) : Prop := wpXm_in p0 0 7 M (fun r_1 M_2 => (narrow .boolean (.int r_1) = .int r_1 ∧ (post r_1 M_2)))
set_option maxHeartbeats 4000000 in
set_option maxRecDepth 100000 in
theorem mtXm_isThread (l : Launch) (dC : Nat → ClassId) (dI : Nat → Nat → Nat) (q : Nat → Nat) (dA : Nat → ClassId) (sz : Nat) (p0 : Int32) (M : Mm) (post : Int32 → Mm → Prop) (hw : wpXm_isThread p0 M post) : Met l yXm_isThread (wsA yXm_isThread cXm_isThread 1 (some .boolean)) ({ frames := 1, cells := 0, slots := 0, locals := 22 }) (va_Pc [.int p0] (pW (dC, dI) vwCl (wM q dA) (tM dA) sz M)) (va_Qi post (bW (dC, dI) vwCl (wM q dA) (tM dA) (va_A (wM q dA M) sz)) (va_A (wM q dA M) sz)) 0 0 (va_A (wM q dA M) sz) := by
  refine Met.ofW (cc := cXm_isThread) (maxL := 1) (ret := (some .boolean)) (by decide) rfl ?_
  intro p e s m args below meth c s₁ B hml hv
  obtain ⟨rfl, hsz, hP, hK, hD0⟩ := hv
  have hx := B.exec
  have hb := B.bytes
  have hr := B.returns
  have hts := atoms_spec (ws := (wsA yXm_isThread cXm_isThread 1 (some .boolean))) B.pre
  have hta : ∀ w ∈ wsG, w.before _ s = true := fun w h => hts w (List.mem_cons_of_mem _ h)
  have hown : s.vm.findClass "ServiceThreadsModel" = some m.cls := findClass_of_methodNamed B.named
  have hlocks := B.notSynchronized
  subst hsz
  have hD := hD0.self (sz := s.heap.size)
  generalize hAe : va_A (wM q dA M) s.heap.size = A at hD ⊢
  have hA : ∀ q : Nat, s.heap.size ≤ q → A q := fun q h => by rw [← hAe]; exact Or.inr h
  have hS : va_S A s.heap s.heap [] := va_S.rf
  dsimp only [wpXm_isThread] at hw
  have hl := lv_entry ([.int p0]) (n := 1) (Nat.le_of_ble_eq_true rfl)
  rw [lg_entry_eq]
  generalize (lg_sl ([.int p0]) ++ List.replicate (1 - (lg_sl ([.int p0])).length) Slot.unset).toArray = ls at hl ⊢
  have hl : lv_has ls 1 [(0, .int p0)] := hl
  refine lv_iload_n hx hb dXm_isThread_0 rfl (lv_at hl 0 rfl) ?_
  refine lv_iconst (v := 0) hx hb dXm_isThread_1 (by decide) ?_
  refine lv_bipush (v := 7) hx hb dXm_isThread_2 (by decide) ?_
  refine cn_i (w := (wM q dA)) (M := M) (wM_ad q dA) (va_runS (As := [.int p0, .int 0, .int 7]) (rest := []) ⟨hx, hb, hml, hown, hta⟩ (mtXm_in l dC dI q dA s.heap.size p0 0 7 M _ hw) (va_cwS 3 hta (giS wt_657 wt_658 wt_7 wt_659) rfl rfl rfl (by decide +kernel) ⟨Nat.le_of_ble_eq_true rfl, Nat.le_of_ble_eq_true rfl⟩) ⟨pW_blind, pW_of hK hP hD⟩ rfl rfl hl.1 rfl (lv_room (Nat.le_of_ble_eq_true rfl)) dXm_isThread_4 ⟨Nat.le_of_ble_eq_true rfl, Nat.le_of_ble_eq_true rfl⟩) hD hS hA (fun r_1 M_2 H locs hw hP hD hS => ?_)
  obtain ⟨h_3, hw⟩ := hw
  exact W.zret (v := r_1) hx hb hr h_3 (fun t ht hW => ⟨⟨r_1, M_2, rfl, hw, by rw [ht]; exact hP, va_K.moved hW.alike hK, hD⟩, hS.F ht⟩) hS.2.2 dXm_isThread_7 hlocks
def wpXm_hasBegun (p0 : Int32) (M : Mm) (post : Int32 → Mm → Prop) : Prop := wpXm_isThread p0 M (fun r_1 M_2 => (((r_1 = 0 → (post 0 M_2)) ∧ (¬ r_1 = 0 → (vp_in p0 8 ∧ (∀ y_5 : Int32, y_5 = M_2 21 p0.toNatClampNeg → (((y_5 = 0 → (post 0 M_2)) ∧ (¬ y_5 = 0 → (post 1 M_2))))))))))
set_option maxHeartbeats 4000000 in
set_option maxRecDepth 100000 in
theorem mtXm_hasBegun (l : Launch) (dC : Nat → ClassId) (dI : Nat → Nat → Nat) (q : Nat → Nat) (dA : Nat → ClassId) (sz : Nat) (p0 : Int32) (M : Mm) (post : Int32 → Mm → Prop) (hw : wpXm_hasBegun p0 M post) : Met l yXm_hasBegun (wsA yXm_hasBegun cXm_hasBegun 2 (some .boolean)) ({ frames := 2, cells := 0, slots := 0, locals := 42 }) (va_Pc [.ref (q 0), .int p0] (pW (dC, dI) vwCl (wM q dA) (tM dA) sz M)) (va_Qi post (bW (dC, dI) vwCl (wM q dA) (tM dA) (va_A (wM q dA M) sz)) (va_A (wM q dA M) sz)) 0 0 (va_A (wM q dA M) sz) := by
  refine Met.ofW (cc := cXm_hasBegun) (maxL := 2) (ret := (some .boolean)) (by decide) rfl ?_
  intro p e s m args below meth c s₁ B hml hv
  obtain ⟨rfl, hsz, hP, hK, hD0⟩ := hv
  have hx := B.exec
  have hb := B.bytes
  have hr := B.returns
  have hts := atoms_spec (ws := (wsA yXm_hasBegun cXm_hasBegun 2 (some .boolean))) B.pre
  have hta : ∀ w ∈ wsG, w.before _ s = true := fun w h => hts w (List.mem_cons_of_mem _ h)
  have hown : s.vm.findClass "ServiceThreadsModel" = some m.cls := findClass_of_methodNamed B.named
  have hlocks := B.notSynchronized
  subst hsz
  have hD := hD0.self (sz := s.heap.size)
  generalize hAe : va_A (wM q dA M) s.heap.size = A at hD ⊢
  have hA : ∀ q : Nat, s.heap.size ≤ q → A q := fun q h => by rw [← hAe]; exact Or.inr h
  have hS : va_S A s.heap s.heap [] := va_S.rf
  dsimp only [wpXm_hasBegun] at hw
  have hl := lv_entry ([.ref (q 0), .int p0]) (n := 2) (Nat.le_of_ble_eq_true rfl)
  rw [lg_entry_eq]
  generalize (lg_sl ([.ref (q 0), .int p0]) ++ List.replicate (2 - (lg_sl ([.ref (q 0), .int p0])).length) Slot.unset).toArray = ls at hl ⊢
  have hl : lv_has ls 2 [(0, .ref (q 0)), (1, .int p0)] := hl
  refine lv_iload_n hx hb dXm_hasBegun_0 rfl (lv_at hl 1 rfl) ?_
  refine cn_i (w := (wM q dA)) (M := M) (wM_ad q dA) (va_runS (As := [.int p0]) (rest := []) ⟨hx, hb, hml, hown, hta⟩ (mtXm_isThread l dC dI q dA s.heap.size p0 M _ hw) (va_cwS 1 hta (giS wt_654 wt_655 wt_7 wt_656) rfl rfl rfl (by decide +kernel) ⟨Nat.le_of_ble_eq_true rfl, Nat.le_of_ble_eq_true rfl⟩) ⟨pW_blind, pW_of hK hP hD⟩ rfl rfl hl.1 rfl (lv_room (Nat.le_of_ble_eq_true rfl)) dXm_hasBegun_1 ⟨Nat.le_of_ble_eq_true rfl, Nat.le_of_ble_eq_true rfl⟩) hD hS hA (fun r_1 M_2 H locs hw hP hD hS => ?_)
  refine lv_if_eq (tgt := 20) hx hb dXm_hasBegun_4 (by decide) (fun c_3 => ?_) (fun c_3 => ?_)
  · have hw := hw.1 c_3
    refine lv_iconst (v := 0) hx hb dXm_hasBegun_20 (by decide) ?_
    exact W.zret (v := 0) hx hb hr (by decide) (fun t ht hW => ⟨⟨0, M_2, rfl, hw, by rw [ht]; exact hP, va_K.moved hW.alike hK, hD⟩, hS.F ht⟩) hS.2.2 dXm_hasBegun_21 hlocks
  · have hw := hw.2 c_3
    refine lv_aload_n hx hb dXm_hasBegun_7 rfl (lv_at hl 0 rfl) ?_
    refine va_get (D := (dC, dI)) (ci := 5) (v := .ref (q 11)) (C := "ServiceThreadsModel") (T := TXm) (N := 28) hx hb hta inXm hown hK hP 0 (wM_0 q dA M_2) rfl 13 (by decide) (hta _ wt_578) (fun _ h9 => h9) rfl dXm_hasBegun_8 ?_
    refine lv_iload_n hx hb dXm_hasBegun_11 rfl (lv_at hl 1 rfl) ?_
    obtain ⟨h_4, hw⟩ := hw
    refine ro_z (w := (wM q dA)) (M := M_2) hx hb hK hP 11 10 (wM_11 q dA M_2) rfl h_4 dXm_hasBegun_12 (fun y_5 ey_5 => ?_)
    have hw := hw y_5 ey_5
    refine lv_if_eq (tgt := 20) hx hb dXm_hasBegun_13 (by decide) (fun c_6 => ?_) (fun c_6 => ?_)
    · have hw := hw.1 c_6
      refine lv_iconst (v := 0) hx hb dXm_hasBegun_20 (by decide) ?_
      exact W.zret (v := 0) hx hb hr (by decide) (fun t ht hW => ⟨⟨0, M_2, rfl, hw, by rw [ht]; exact hP, va_K.moved hW.alike hK, hD⟩, hS.F ht⟩) hS.2.2 dXm_hasBegun_21 hlocks
    · have hw := hw.2 c_6
      refine lv_iconst (v := 1) hx hb dXm_hasBegun_16 (by decide) ?_
      refine lv_goto (tgt := 21) hx hb dXm_hasBegun_17 (by decide) ?_
      exact W.zret (v := 1) hx hb hr (by decide) (fun t ht hW => ⟨⟨1, M_2, rfl, hw, by rw [ht]; exact hP, va_K.moved hW.alike hK, hD⟩, hS.F ht⟩) hS.2.2 dXm_hasBegun_21 hlocks
def wpXm_act (p0 : Int32) (p1 : Int32) (p2 : Int32) (M : Mm) (post : Int32 → Mm → Prop) : Prop := wpXm_isThread p0 M (fun r_1 M_2 => (((r_1 = 0 → (wpXm_in p2 0 255 M_2 (fun r_4 M_5 => (((r_4 = 0 → (wpXm_hasBegun p0 M_5 (fun r_32 M_33 => (wpXm_throwing 1 1 r_32 0 M_33 (fun r_35 M_36 => (((r_35 = 0 → (∀ y_38 : Int32, y_38 = (16 : Int32) * p0 → (vp_in p0 8 ∧ (∀ y_40 : Int32, y_40 = M_36 2 p0.toNatClampNeg → (∀ y_41 : Int32, y_41 = y_38 + y_40 → (vp_in y_41 128 ∧ (∀ M_43 : Mm, M_43 = stM M_36 0 (upd (M_36 0) y_41.toNatClampNeg p1) → (∀ y_44 : Int32, y_44 = (16 : Int32) * p0 → (vp_in p0 8 ∧ (∀ y_46 : Int32, y_46 = M_43 2 p0.toNatClampNeg → (∀ y_47 : Int32, y_47 = y_44 + y_46 → (vp_in y_47 128 ∧ (∀ M_49 : Mm, M_49 = stM M_43 1 (upd (M_43 1) y_47.toNatClampNeg p2) → (vp_in p0 8 ∧ (∀ y_51 : Int32, y_51 = M_49 2 p0.toNatClampNeg → (∀ y_52 : Int32, y_52 = y_51 + 1 → (vp_in p0 8 ∧ (∀ M_54 : Mm, M_54 = stM M_49 2 (upd (M_49 2) p0.toNatClampNeg y_52) → (vp_in p0 8 ∧ (∀ y_56 : Int32, y_56 = M_54 2 p0.toNatClampNeg → (post y_56 M_54))))))))))))))))))))) ∧ (¬ r_35 = 0 → (post 0 M_36))))))))) ∧ (¬ r_4 = 0 → (wpXm_hasBegun p0 M_5 (fun r_7 M_8 => (wpXm_throwing 1 0 r_7 0 M_8 (fun r_10 M_11 => (((r_10 = 0 → (∀ y_13 : Int32, y_13 = (16 : Int32) * p0 → (vp_in p0 8 ∧ (∀ y_15 : Int32, y_15 = M_11 2 p0.toNatClampNeg → (∀ y_16 : Int32, y_16 = y_13 + y_15 → (vp_in y_16 128 ∧ (∀ M_18 : Mm, M_18 = stM M_11 0 (upd (M_11 0) y_16.toNatClampNeg p1) → (∀ y_19 : Int32, y_19 = (16 : Int32) * p0 → (vp_in p0 8 ∧ (∀ y_21 : Int32, y_21 = M_18 2 p0.toNatClampNeg → (∀ y_22 : Int32, y_22 = y_19 + y_21 → (vp_in y_22 128 ∧ (∀ M_24 : Mm, M_24 = stM M_18 1 (upd (M_18 1) y_22.toNatClampNeg p2) → (vp_in p0 8 ∧ (∀ y_26 : Int32, y_26 = M_24 2 p0.toNatClampNeg → (∀ y_27 : Int32, y_27 = y_26 + 1 → (vp_in p0 8 ∧ (∀ M_29 : Mm, M_29 = stM M_24 2 (upd (M_24 2) p0.toNatClampNeg y_27) → (vp_in p0 8 ∧ (∀ y_31 : Int32, y_31 = M_29 2 p0.toNatClampNeg → (post y_31 M_29))))))))))))))))))))) ∧ (¬ r_10 = 0 → (post 0 M_11)))))))))))))) ∧ (¬ r_1 = 0 → (wpXm_in p1 0 6 M_2 (fun r_57 M_58 => (((r_57 = 0 → (wpXm_in p2 0 255 M_58 (fun r_165 M_166 => (((r_165 = 0 → (wpXm_hasBegun p0 M_166 (fun r_193 M_194 => (wpXm_throwing 1 1 r_193 0 M_194 (fun r_196 M_197 => (((r_196 = 0 → (∀ y_199 : Int32, y_199 = (16 : Int32) * p0 → (vp_in p0 8 ∧ (∀ y_201 : Int32, y_201 = M_197 2 p0.toNatClampNeg → (∀ y_202 : Int32, y_202 = y_199 + y_201 → (vp_in y_202 128 ∧ (∀ M_204 : Mm, M_204 = stM M_197 0 (upd (M_197 0) y_202.toNatClampNeg p1) → (∀ y_205 : Int32, y_205 = (16 : Int32) * p0 → (vp_in p0 8 ∧ (∀ y_207 : Int32, y_207 = M_204 2 p0.toNatClampNeg → (∀ y_208 : Int32, y_208 = y_205 + y_207 → (vp_in y_208 128 ∧ (∀ M_210 : Mm, M_210 = stM M_204 1 (upd (M_204 1) y_208.toNatClampNeg p2) → (vp_in p0 8 ∧ (∀ y_212 : Int32, y_212 = M_210 2 p0.toNatClampNeg → (∀ y_213 : Int32, y_213 = y_212 + 1 → (vp_in p0 8 ∧ (∀ M_215 : Mm, M_215 = stM M_210 2 (upd (M_210 2) p0.toNatClampNeg y_213) → (vp_in p0 8 ∧ (∀ y_217 : Int32, y_217 = M_215 2 p0.toNatClampNeg → (post y_217 M_215))))))))))))))))))))) ∧ (¬ r_196 = 0 → (post 0 M_197))))))))) ∧ (¬ r_165 = 0 → (wpXm_hasBegun p0 M_166 (fun r_168 M_169 => (wpXm_throwing 1 0 r_168 0 M_169 (fun r_171 M_172 => (((r_171 = 0 → (∀ y_174 : Int32, y_174 = (16 : Int32) * p0 → (vp_in p0 8 ∧ (∀ y_176 : Int32, y_176 = M_172 2 p0.toNatClampNeg → (∀ y_177 : Int32, y_177 = y_174 + y_176 → (vp_in y_177 128 ∧ (∀ M_179 : Mm, M_179 = stM M_172 0 (upd (M_172 0) y_177.toNatClampNeg p1) → (∀ y_180 : Int32, y_180 = (16 : Int32) * p0 → (vp_in p0 8 ∧ (∀ y_182 : Int32, y_182 = M_179 2 p0.toNatClampNeg → (∀ y_183 : Int32, y_183 = y_180 + y_182 → (vp_in y_183 128 ∧ (∀ M_185 : Mm, M_185 = stM M_179 1 (upd (M_179 1) y_183.toNatClampNeg p2) → (vp_in p0 8 ∧ (∀ y_187 : Int32, y_187 = M_185 2 p0.toNatClampNeg → (∀ y_188 : Int32, y_188 = y_187 + 1 → (vp_in p0 8 ∧ (∀ M_190 : Mm, M_190 = stM M_185 2 (upd (M_185 2) p0.toNatClampNeg y_188) → (vp_in p0 8 ∧ (∀ y_192 : Int32, y_192 = M_190 2 p0.toNatClampNeg → (post y_192 M_190))))))))))))))))))))) ∧ (¬ r_171 = 0 → (post 0 M_172)))))))))))))) ∧ (¬ r_57 = 0 → (wpXm_in p2 0 255 M_58 (fun r_60 M_61 => (((r_60 = 0 → (wpXm_hasBegun p0 M_61 (fun r_114 M_115 => (vp_in p0 8 ∧ (∀ y_119 : Int32, y_119 = M_115 2 p0.toNatClampNeg → (((y_119 = 16 → (wpXm_throwing 0 1 r_114 1 M_115 (fun r_143 M_144 => (((r_143 = 0 → (∀ y_146 : Int32, y_146 = (16 : Int32) * p0 → (vp_in p0 8 ∧ (∀ y_148 : Int32, y_148 = M_144 2 p0.toNatClampNeg → (∀ y_149 : Int32, y_149 = y_146 + y_148 → (vp_in y_149 128 ∧ (∀ M_151 : Mm, M_151 = stM M_144 0 (upd (M_144 0) y_149.toNatClampNeg p1) → (∀ y_152 : Int32, y_152 = (16 : Int32) * p0 → (vp_in p0 8 ∧ (∀ y_154 : Int32, y_154 = M_151 2 p0.toNatClampNeg → (∀ y_155 : Int32, y_155 = y_152 + y_154 → (vp_in y_155 128 ∧ (∀ M_157 : Mm, M_157 = stM M_151 1 (upd (M_151 1) y_155.toNatClampNeg p2) → (vp_in p0 8 ∧ (∀ y_159 : Int32, y_159 = M_157 2 p0.toNatClampNeg → (∀ y_160 : Int32, y_160 = y_159 + 1 → (vp_in p0 8 ∧ (∀ M_162 : Mm, M_162 = stM M_157 2 (upd (M_157 2) p0.toNatClampNeg y_160) → (vp_in p0 8 ∧ (∀ y_164 : Int32, y_164 = M_162 2 p0.toNatClampNeg → (post y_164 M_162))))))))))))))))))))) ∧ (¬ r_143 = 0 → (post 0 M_144))))))) ∧ (¬ y_119 = 16 → (wpXm_throwing 0 1 r_114 0 M_115 (fun r_121 M_122 => (((r_121 = 0 → (∀ y_124 : Int32, y_124 = (16 : Int32) * p0 → (vp_in p0 8 ∧ (∀ y_126 : Int32, y_126 = M_122 2 p0.toNatClampNeg → (∀ y_127 : Int32, y_127 = y_124 + y_126 → (vp_in y_127 128 ∧ (∀ M_129 : Mm, M_129 = stM M_122 0 (upd (M_122 0) y_127.toNatClampNeg p1) → (∀ y_130 : Int32, y_130 = (16 : Int32) * p0 → (vp_in p0 8 ∧ (∀ y_132 : Int32, y_132 = M_129 2 p0.toNatClampNeg → (∀ y_133 : Int32, y_133 = y_130 + y_132 → (vp_in y_133 128 ∧ (∀ M_135 : Mm, M_135 = stM M_129 1 (upd (M_129 1) y_133.toNatClampNeg p2) → (vp_in p0 8 ∧ (∀ y_137 : Int32, y_137 = M_135 2 p0.toNatClampNeg → (∀ y_138 : Int32, y_138 = y_137 + 1 → (vp_in p0 8 ∧ (∀ M_140 : Mm, M_140 = stM M_135 2 (upd (M_135 2) p0.toNatClampNeg y_138) → (vp_in p0 8 ∧ (∀ y_142 : Int32, y_142 = M_140 2 p0.toNatClampNeg → (post y_142 M_140))))))))))))))))))))) ∧ (¬ r_121 = 0 → (post 0 M_122)))))))))))))) ∧ (¬ r_60 = 0 → (wpXm_hasBegun p0 M_61 (fun r_63 M_64 => (vp_in p0 8 ∧ (∀ y_68 : Int32, y_68 = M_64 2 p0.toNatClampNeg → (((y_68 = 16 → (wpXm_throwing 0 0 r_63 1 M_64 (fun r_92 M_93 => (((r_92 = 0 → (∀ y_95 : Int32, y_95 = (16 : Int32) * p0 → (vp_in p0 8 ∧ (∀ y_97 : Int32, y_97 = M_93 2 p0.toNatClampNeg → (∀ y_98 : Int32, y_98 = y_95 + y_97 → (vp_in y_98 128 ∧ (∀ M_100 : Mm, M_100 = stM M_93 0 (upd (M_93 0) y_98.toNatClampNeg p1) → (∀ y_101 : Int32, y_101 = (16 : Int32) * p0 → (vp_in p0 8 ∧ (∀ y_103 : Int32, y_103 = M_100 2 p0.toNatClampNeg → (∀ y_104 : Int32, y_104 = y_101 + y_103 → (vp_in y_104 128 ∧ (∀ M_106 : Mm, M_106 = stM M_100 1 (upd (M_100 1) y_104.toNatClampNeg p2) → (vp_in p0 8 ∧ (∀ y_108 : Int32, y_108 = M_106 2 p0.toNatClampNeg → (∀ y_109 : Int32, y_109 = y_108 + 1 → (vp_in p0 8 ∧ (∀ M_111 : Mm, M_111 = stM M_106 2 (upd (M_106 2) p0.toNatClampNeg y_109) → (vp_in p0 8 ∧ (∀ y_113 : Int32, y_113 = M_111 2 p0.toNatClampNeg → (post y_113 M_111))))))))))))))))))))) ∧ (¬ r_92 = 0 → (post 0 M_93))))))) ∧ (¬ y_68 = 16 → (wpXm_throwing 0 0 r_63 0 M_64 (fun r_70 M_71 => (((r_70 = 0 → (∀ y_73 : Int32, y_73 = (16 : Int32) * p0 → (vp_in p0 8 ∧ (∀ y_75 : Int32, y_75 = M_71 2 p0.toNatClampNeg → (∀ y_76 : Int32, y_76 = y_73 + y_75 → (vp_in y_76 128 ∧ (∀ M_78 : Mm, M_78 = stM M_71 0 (upd (M_71 0) y_76.toNatClampNeg p1) → (∀ y_79 : Int32, y_79 = (16 : Int32) * p0 → (vp_in p0 8 ∧ (∀ y_81 : Int32, y_81 = M_78 2 p0.toNatClampNeg → (∀ y_82 : Int32, y_82 = y_79 + y_81 → (vp_in y_82 128 ∧ (∀ M_84 : Mm, M_84 = stM M_78 1 (upd (M_78 1) y_82.toNatClampNeg p2) → (vp_in p0 8 ∧ (∀ y_86 : Int32, y_86 = M_84 2 p0.toNatClampNeg → (∀ y_87 : Int32, y_87 = y_86 + 1 → (vp_in p0 8 ∧ (∀ M_89 : Mm, M_89 = stM M_84 2 (upd (M_84 2) p0.toNatClampNeg y_87) → (vp_in p0 8 ∧ (∀ y_91 : Int32, y_91 = M_89 2 p0.toNatClampNeg → (post y_91 M_89))))))))))))))))))))) ∧ (¬ r_70 = 0 → (post 0 M_71)))))))))))))))))))))))))))
set_option maxHeartbeats 4000000 in
set_option maxRecDepth 100000 in
theorem mtXm_act (l : Launch) (dC : Nat → ClassId) (dI : Nat → Nat → Nat) (q : Nat → Nat) (dA : Nat → ClassId) (sz : Nat) (p0 : Int32) (p1 : Int32) (p2 : Int32) (M : Mm) (post : Int32 → Mm → Prop) (hw : wpXm_act p0 p1 p2 M post) : Met l yXm_act (wsA yXm_act cXm_act 5 (some .int)) ({ frames := 3, cells := 0, slots := 0, locals := 63 }) (va_Pc [.ref (q 0), .int p0, .int p1, .int p2] (pW (dC, dI) vwCl (wM q dA) (tM dA) sz M)) (va_Qi post (bW (dC, dI) vwCl (wM q dA) (tM dA) (va_A (wM q dA M) sz)) (va_A (wM q dA M) sz)) 0 0 (va_A (wM q dA M) sz) := by
  refine Met.ofW (cc := cXm_act) (maxL := 5) (ret := (some .int)) (by decide) rfl ?_
  intro p e s m args below meth c s₁ B hml hv
  obtain ⟨rfl, hsz, hP, hK, hD0⟩ := hv
  have hx := B.exec
  have hb := B.bytes
  have hr := B.returns
  have hts := atoms_spec (ws := (wsA yXm_act cXm_act 5 (some .int))) B.pre
  have hta : ∀ w ∈ wsG, w.before _ s = true := fun w h => hts w (List.mem_cons_of_mem _ h)
  have hown : s.vm.findClass "ServiceThreadsModel" = some m.cls := findClass_of_methodNamed B.named
  have hlocks := B.notSynchronized
  subst hsz
  have hD := hD0.self (sz := s.heap.size)
  generalize hAe : va_A (wM q dA M) s.heap.size = A at hD ⊢
  have hA : ∀ q : Nat, s.heap.size ≤ q → A q := fun q h => by rw [← hAe]; exact Or.inr h
  have hS : va_S A s.heap s.heap [] := va_S.rf
  dsimp only [wpXm_act] at hw
  have hl := lv_entry ([.ref (q 0), .int p0, .int p1, .int p2]) (n := 5) (Nat.le_of_ble_eq_true rfl)
  rw [lg_entry_eq]
  generalize (lg_sl ([.ref (q 0), .int p0, .int p1, .int p2]) ++ List.replicate (5 - (lg_sl ([.ref (q 0), .int p0, .int p1, .int p2])).length) Slot.unset).toArray = ls at hl ⊢
  have hl : lv_has ls 5 [(0, .ref (q 0)), (1, .int p0), (2, .int p1), (3, .int p2)] := hl
  refine lv_iload_n hx hb dXm_act_0 rfl (lv_at hl 1 rfl) ?_
  refine cn_i (w := (wM q dA)) (M := M) (wM_ad q dA) (va_runS (As := [.int p0]) (rest := []) ⟨hx, hb, hml, hown, hta⟩ (mtXm_isThread l dC dI q dA s.heap.size p0 M _ hw) (va_cwS 1 hta (giS wt_654 wt_655 wt_7 wt_656) rfl rfl rfl (by decide +kernel) ⟨Nat.le_of_ble_eq_true rfl, Nat.le_of_ble_eq_true rfl⟩) ⟨pW_blind, pW_of hK hP hD⟩ rfl rfl hl.1 rfl (lv_room (Nat.le_of_ble_eq_true rfl)) dXm_act_1 ⟨Nat.le_of_ble_eq_true rfl, Nat.le_of_ble_eq_true rfl⟩) hD hS hA (fun r_1 M_2 H locs hw hP hD hS => ?_)
  refine lv_if_eq (tgt := 17) hx hb dXm_act_4 (by decide) (fun c_3 => ?_) (fun c_3 => ?_)
  · have hw := hw.1 c_3
    refine lv_iconst (v := 1) hx hb dXm_act_17 (by decide) ?_
    refine lv_goto (tgt := 22) hx hb dXm_act_18 (by decide) ?_
    refine lv_istore (lv' := [(4, .int 1), (0, .ref (q 0)), (1, .int p0), (2, .int p1), (3, .int p2)]) hx hb dXm_act_22 hl (by decide) rfl (fun ls hl => ?_)
    refine lv_aload_n hx hb dXm_act_24 rfl (lv_at hl 1 rfl) ?_
    refine lv_iload hx hb dXm_act_25 (lv_at hl 0 rfl) ?_
    refine lv_iload_n hx hb dXm_act_27 rfl (lv_at hl 4 rfl) ?_
    refine lv_iconst (v := 0) hx hb dXm_act_28 (by decide) ?_
    refine lv_sipush (v := 255) hx hb dXm_act_29 (by decide) ?_
    refine cn_i (w := (wM q dA)) (M := M_2) (wM_ad q dA) (va_runS (As := [.int p2, .int 0, .int 255]) (rest := [.int 1, .ref (q 0)]) ⟨hx, hb, hml, hown, hta⟩ (mtXm_in l dC dI q dA H.size p2 0 255 M_2 _ hw) (va_cwS 3 hta (giS wt_657 wt_658 wt_7 wt_659) rfl rfl rfl (by decide +kernel) ⟨Nat.le_of_ble_eq_true rfl, Nat.le_of_ble_eq_true rfl⟩) ⟨pW_blind, pW_of hK hP hD⟩ rfl rfl hl.1 rfl (lv_room (Nat.le_of_ble_eq_true rfl)) dXm_act_32 ⟨Nat.le_of_ble_eq_true rfl, Nat.le_of_ble_eq_true rfl⟩) hD hS hA (fun r_4 M_5 H locs hw hP hD hS => ?_)
    refine lv_if_ne (tgt := 42) hx hb dXm_act_35 (by decide) (fun c_6 => ?_) (fun c_6 => ?_)
    · have hw := hw.2 c_6
      refine lv_iconst (v := 0) hx hb dXm_act_42 (by decide) ?_
      refine lv_aload_n hx hb dXm_act_43 rfl (lv_at hl 1 rfl) ?_
      refine lv_iload_n hx hb dXm_act_44 rfl (lv_at hl 2 rfl) ?_
      refine cn_i (w := (wM q dA)) (M := M_5) (wM_ad q dA) (va_runV (As := [.int p0]) (rest := [.int 0, .int 1, .ref (q 0)]) ⟨hx, hb, hml, hown, hta⟩ (mtXm_hasBegun l dC dI q dA H.size p0 M_5 _ hw) (cwV 1 hta (giV wt_660 wt_662 ws_18 wt_7 wt_663) rfl rfl rfl (by decide +kernel) ⟨Nat.le_of_ble_eq_true rfl, Nat.le_of_ble_eq_true rfl⟩) ⟨pW_blind, va_recv hK hP (ci := 5) (q0 := 0) rfl (wM_0 q dA M_5), pW_of hK hP hD⟩ rfl rfl hl.1 rfl (lv_room (Nat.le_of_ble_eq_true rfl)) dXm_act_45 ⟨Nat.le_of_ble_eq_true rfl, Nat.le_of_ble_eq_true rfl⟩) hD hS hA (fun r_7 M_8 H locs hw hP hD hS => ?_)
      refine lv_iload hx hb dXm_act_48 (lv_at hl 0 rfl) ?_
      refine lv_if_ne (tgt := 77) hx hb dXm_act_50 (by decide) (fun c_9 => ?_) (fun c_9 => absurd c_9 (by decide))
      · skip
        refine lv_iconst (v := 0) hx hb dXm_act_77 (by decide) ?_
        refine cn_i (w := (wM q dA)) (M := M_8) (wM_ad q dA) (va_runV (As := [.int 1, .int 0, .int r_7, .int 0]) (rest := []) ⟨hx, hb, hml, hown, hta⟩ (mtXm_throwing l dC dI q dA H.size 1 0 r_7 0 M_8 _ hw) (cwV 4 hta (giV wt_664 wt_666 ws_19 wt_7 wt_667) rfl rfl rfl (by decide +kernel) ⟨Nat.le_of_ble_eq_true rfl, Nat.le_of_ble_eq_true rfl⟩) ⟨pW_blind, va_recv hK hP (ci := 5) (q0 := 0) rfl (wM_0 q dA M_8), pW_of hK hP hD⟩ rfl rfl hl.1 rfl (lv_room (Nat.le_of_ble_eq_true rfl)) dXm_act_78 ⟨Nat.le_of_ble_eq_true rfl, Nat.le_of_ble_eq_true rfl⟩) hD hS hA (fun r_10 M_11 H locs hw hP hD hS => ?_)
        refine lv_if_eq (tgt := 86) hx hb dXm_act_81 (by decide) (fun c_12 => ?_) (fun c_12 => ?_)
        · have hw := hw.1 c_12
          refine lv_aload_n hx hb dXm_act_86 rfl (lv_at hl 1 rfl) ?_
          refine va_get (D := (dC, dI)) (ci := 5) (v := .ref (q 1)) (C := "ServiceThreadsModel") (T := TXm) (N := 28) hx hb hta inXm hown hK hP 0 (wM_0 q dA M_11) rfl 3 (by decide) (hta _ wt_568) (fun _ h9 => h9) rfl dXm_act_87 ?_
          refine lv_bipush (v := 16) hx hb dXm_act_90 (by decide) ?_
          refine lv_iload_n hx hb dXm_act_92 rfl (lv_at hl 2 rfl) ?_
          refine lv_imul hx hb dXm_act_93 ?_
          refine lv_topi (fun y_13 ey_13 => ?_)
          have hw := hw y_13 ey_13
          refine lv_aload_n hx hb dXm_act_94 rfl (lv_at hl 1 rfl) ?_
          refine va_get (D := (dC, dI)) (ci := 5) (v := .ref (q 3)) (C := "ServiceThreadsModel") (T := TXm) (N := 28) hx hb hta inXm hown hK hP 0 (wM_0 q dA M_11) rfl 5 (by decide) (hta _ wt_570) (fun _ h9 => h9) rfl dXm_act_95 ?_
          refine lv_iload_n hx hb dXm_act_98 rfl (lv_at hl 2 rfl) ?_
          obtain ⟨h_14, hw⟩ := hw
          refine ro_i (w := (wM q dA)) (M := M_11) hx hb hK hP 3 2 (wM_3 q dA M_11) rfl h_14 dXm_act_99 (fun y_15 ey_15 => ?_)
          have hw := hw y_15 ey_15
          refine lv_iadd hx hb dXm_act_100 ?_
          refine lv_topi (fun y_16 ey_16 => ?_)
          have hw := hw y_16 ey_16
          refine lv_iload_n hx hb dXm_act_101 rfl (lv_at hl 3 rfl) ?_
          obtain ⟨h_17, hw⟩ := hw
          refine wo_i (w := (wM q dA)) (M := M_11) hx hb hK hP hD hS 1 0 (wM_1 q dA M_11) (wM_s1 q dA M_11) rfl h_17 dXm_act_102 (fun M_18 H locs eM_18 hP hD hS => ?_)
          have hw := hw M_18 eM_18
          refine lv_aload_n hx hb dXm_act_103 rfl (lv_at hl 1 rfl) ?_
          refine va_get (D := (dC, dI)) (ci := 5) (v := .ref (q 2)) (C := "ServiceThreadsModel") (T := TXm) (N := 28) hx hb hta inXm hown hK hP 0 (wM_0 q dA M_18) rfl 4 (by decide) (hta _ wt_569) (fun _ h9 => h9) rfl dXm_act_104 ?_
          refine lv_bipush (v := 16) hx hb dXm_act_107 (by decide) ?_
          refine lv_iload_n hx hb dXm_act_109 rfl (lv_at hl 2 rfl) ?_
          refine lv_imul hx hb dXm_act_110 ?_
          refine lv_topi (fun y_19 ey_19 => ?_)
          have hw := hw y_19 ey_19
          refine lv_aload_n hx hb dXm_act_111 rfl (lv_at hl 1 rfl) ?_
          refine va_get (D := (dC, dI)) (ci := 5) (v := .ref (q 3)) (C := "ServiceThreadsModel") (T := TXm) (N := 28) hx hb hta inXm hown hK hP 0 (wM_0 q dA M_18) rfl 5 (by decide) (hta _ wt_570) (fun _ h9 => h9) rfl dXm_act_112 ?_
          refine lv_iload_n hx hb dXm_act_115 rfl (lv_at hl 2 rfl) ?_
          obtain ⟨h_20, hw⟩ := hw
          refine ro_i (w := (wM q dA)) (M := M_18) hx hb hK hP 3 2 (wM_3 q dA M_18) rfl h_20 dXm_act_116 (fun y_21 ey_21 => ?_)
          have hw := hw y_21 ey_21
          refine lv_iadd hx hb dXm_act_117 ?_
          refine lv_topi (fun y_22 ey_22 => ?_)
          have hw := hw y_22 ey_22
          refine lv_iload_n hx hb dXm_act_118 rfl (lv_at hl 4 rfl) ?_
          obtain ⟨h_23, hw⟩ := hw
          refine wo_i (w := (wM q dA)) (M := M_18) hx hb hK hP hD hS 2 1 (wM_2 q dA M_18) (wM_s2 q dA M_18) rfl h_23 dXm_act_119 (fun M_24 H locs eM_24 hP hD hS => ?_)
          have hw := hw M_24 eM_24
          refine lv_aload_n hx hb dXm_act_120 rfl (lv_at hl 1 rfl) ?_
          refine va_get (D := (dC, dI)) (ci := 5) (v := .ref (q 3)) (C := "ServiceThreadsModel") (T := TXm) (N := 28) hx hb hta inXm hown hK hP 0 (wM_0 q dA M_24) rfl 5 (by decide) (hta _ wt_570) (fun _ h9 => h9) rfl dXm_act_121 ?_
          refine lv_iload_n hx hb dXm_act_124 rfl (lv_at hl 2 rfl) ?_
          refine lv_dup2_11 hx hb dXm_act_125 rfl rfl ?_
          obtain ⟨h_25, hw⟩ := hw
          refine ro_i (w := (wM q dA)) (M := M_24) hx hb hK hP 3 2 (wM_3 q dA M_24) rfl h_25 dXm_act_126 (fun y_26 ey_26 => ?_)
          have hw := hw y_26 ey_26
          refine lv_iconst (v := 1) hx hb dXm_act_127 (by decide) ?_
          refine lv_iadd hx hb dXm_act_128 ?_
          refine lv_topi (fun y_27 ey_27 => ?_)
          have hw := hw y_27 ey_27
          obtain ⟨h_28, hw⟩ := hw
          refine wo_i (w := (wM q dA)) (M := M_24) hx hb hK hP hD hS 3 2 (wM_3 q dA M_24) (wM_s3 q dA M_24) rfl h_28 dXm_act_129 (fun M_29 H locs eM_29 hP hD hS => ?_)
          have hw := hw M_29 eM_29
          refine lv_aload_n hx hb dXm_act_130 rfl (lv_at hl 1 rfl) ?_
          refine va_get (D := (dC, dI)) (ci := 5) (v := .ref (q 3)) (C := "ServiceThreadsModel") (T := TXm) (N := 28) hx hb hta inXm hown hK hP 0 (wM_0 q dA M_29) rfl 5 (by decide) (hta _ wt_570) (fun _ h9 => h9) rfl dXm_act_131 ?_
          refine lv_iload_n hx hb dXm_act_134 rfl (lv_at hl 2 rfl) ?_
          obtain ⟨h_30, hw⟩ := hw
          refine ro_i (w := (wM q dA)) (M := M_29) hx hb hK hP 3 2 (wM_3 q dA M_29) rfl h_30 dXm_act_135 (fun y_31 ey_31 => ?_)
          have hw := hw y_31 ey_31
          exact W.iret (v := y_31) hx hb hr (fun t ht hW => ⟨⟨y_31, M_29, rfl, hw, by rw [ht]; exact hP, va_K.moved hW.alike hK, hD⟩, hS.F ht⟩) hS.2.2 dXm_act_136 hlocks
        · have hw := hw.2 c_12
          refine lv_iconst (v := 0) hx hb dXm_act_84 (by decide) ?_
          exact W.iret (v := 0) hx hb hr (fun t ht hW => ⟨⟨0, M_11, rfl, hw, by rw [ht]; exact hP, va_K.moved hW.alike hK, hD⟩, hS.F ht⟩) hS.2.2 dXm_act_85 hlocks
    · have hw := hw.1 c_6
      refine lv_iconst (v := 1) hx hb dXm_act_38 (by decide) ?_
      refine lv_goto (tgt := 43) hx hb dXm_act_39 (by decide) ?_
      refine lv_aload_n hx hb dXm_act_43 rfl (lv_at hl 1 rfl) ?_
      refine lv_iload_n hx hb dXm_act_44 rfl (lv_at hl 2 rfl) ?_
      refine cn_i (w := (wM q dA)) (M := M_5) (wM_ad q dA) (va_runV (As := [.int p0]) (rest := [.int 1, .int 1, .ref (q 0)]) ⟨hx, hb, hml, hown, hta⟩ (mtXm_hasBegun l dC dI q dA H.size p0 M_5 _ hw) (cwV 1 hta (giV wt_660 wt_662 ws_18 wt_7 wt_663) rfl rfl rfl (by decide +kernel) ⟨Nat.le_of_ble_eq_true rfl, Nat.le_of_ble_eq_true rfl⟩) ⟨pW_blind, va_recv hK hP (ci := 5) (q0 := 0) rfl (wM_0 q dA M_5), pW_of hK hP hD⟩ rfl rfl hl.1 rfl (lv_room (Nat.le_of_ble_eq_true rfl)) dXm_act_45 ⟨Nat.le_of_ble_eq_true rfl, Nat.le_of_ble_eq_true rfl⟩) hD hS hA (fun r_32 M_33 H locs hw hP hD hS => ?_)
      refine lv_iload hx hb dXm_act_48 (lv_at hl 0 rfl) ?_
      refine lv_if_ne (tgt := 77) hx hb dXm_act_50 (by decide) (fun c_34 => ?_) (fun c_34 => absurd c_34 (by decide))
      · skip
        refine lv_iconst (v := 0) hx hb dXm_act_77 (by decide) ?_
        refine cn_i (w := (wM q dA)) (M := M_33) (wM_ad q dA) (va_runV (As := [.int 1, .int 1, .int r_32, .int 0]) (rest := []) ⟨hx, hb, hml, hown, hta⟩ (mtXm_throwing l dC dI q dA H.size 1 1 r_32 0 M_33 _ hw) (cwV 4 hta (giV wt_664 wt_666 ws_19 wt_7 wt_667) rfl rfl rfl (by decide +kernel) ⟨Nat.le_of_ble_eq_true rfl, Nat.le_of_ble_eq_true rfl⟩) ⟨pW_blind, va_recv hK hP (ci := 5) (q0 := 0) rfl (wM_0 q dA M_33), pW_of hK hP hD⟩ rfl rfl hl.1 rfl (lv_room (Nat.le_of_ble_eq_true rfl)) dXm_act_78 ⟨Nat.le_of_ble_eq_true rfl, Nat.le_of_ble_eq_true rfl⟩) hD hS hA (fun r_35 M_36 H locs hw hP hD hS => ?_)
        refine lv_if_eq (tgt := 86) hx hb dXm_act_81 (by decide) (fun c_37 => ?_) (fun c_37 => ?_)
        · have hw := hw.1 c_37
          refine lv_aload_n hx hb dXm_act_86 rfl (lv_at hl 1 rfl) ?_
          refine va_get (D := (dC, dI)) (ci := 5) (v := .ref (q 1)) (C := "ServiceThreadsModel") (T := TXm) (N := 28) hx hb hta inXm hown hK hP 0 (wM_0 q dA M_36) rfl 3 (by decide) (hta _ wt_568) (fun _ h9 => h9) rfl dXm_act_87 ?_
          refine lv_bipush (v := 16) hx hb dXm_act_90 (by decide) ?_
          refine lv_iload_n hx hb dXm_act_92 rfl (lv_at hl 2 rfl) ?_
          refine lv_imul hx hb dXm_act_93 ?_
          refine lv_topi (fun y_38 ey_38 => ?_)
          have hw := hw y_38 ey_38
          refine lv_aload_n hx hb dXm_act_94 rfl (lv_at hl 1 rfl) ?_
          refine va_get (D := (dC, dI)) (ci := 5) (v := .ref (q 3)) (C := "ServiceThreadsModel") (T := TXm) (N := 28) hx hb hta inXm hown hK hP 0 (wM_0 q dA M_36) rfl 5 (by decide) (hta _ wt_570) (fun _ h9 => h9) rfl dXm_act_95 ?_
          refine lv_iload_n hx hb dXm_act_98 rfl (lv_at hl 2 rfl) ?_
          obtain ⟨h_39, hw⟩ := hw
          refine ro_i (w := (wM q dA)) (M := M_36) hx hb hK hP 3 2 (wM_3 q dA M_36) rfl h_39 dXm_act_99 (fun y_40 ey_40 => ?_)
          have hw := hw y_40 ey_40
          refine lv_iadd hx hb dXm_act_100 ?_
          refine lv_topi (fun y_41 ey_41 => ?_)
          have hw := hw y_41 ey_41
          refine lv_iload_n hx hb dXm_act_101 rfl (lv_at hl 3 rfl) ?_
          obtain ⟨h_42, hw⟩ := hw
          refine wo_i (w := (wM q dA)) (M := M_36) hx hb hK hP hD hS 1 0 (wM_1 q dA M_36) (wM_s1 q dA M_36) rfl h_42 dXm_act_102 (fun M_43 H locs eM_43 hP hD hS => ?_)
          have hw := hw M_43 eM_43
          refine lv_aload_n hx hb dXm_act_103 rfl (lv_at hl 1 rfl) ?_
          refine va_get (D := (dC, dI)) (ci := 5) (v := .ref (q 2)) (C := "ServiceThreadsModel") (T := TXm) (N := 28) hx hb hta inXm hown hK hP 0 (wM_0 q dA M_43) rfl 4 (by decide) (hta _ wt_569) (fun _ h9 => h9) rfl dXm_act_104 ?_
          refine lv_bipush (v := 16) hx hb dXm_act_107 (by decide) ?_
          refine lv_iload_n hx hb dXm_act_109 rfl (lv_at hl 2 rfl) ?_
          refine lv_imul hx hb dXm_act_110 ?_
          refine lv_topi (fun y_44 ey_44 => ?_)
          have hw := hw y_44 ey_44
          refine lv_aload_n hx hb dXm_act_111 rfl (lv_at hl 1 rfl) ?_
          refine va_get (D := (dC, dI)) (ci := 5) (v := .ref (q 3)) (C := "ServiceThreadsModel") (T := TXm) (N := 28) hx hb hta inXm hown hK hP 0 (wM_0 q dA M_43) rfl 5 (by decide) (hta _ wt_570) (fun _ h9 => h9) rfl dXm_act_112 ?_
          refine lv_iload_n hx hb dXm_act_115 rfl (lv_at hl 2 rfl) ?_
          obtain ⟨h_45, hw⟩ := hw
          refine ro_i (w := (wM q dA)) (M := M_43) hx hb hK hP 3 2 (wM_3 q dA M_43) rfl h_45 dXm_act_116 (fun y_46 ey_46 => ?_)
          have hw := hw y_46 ey_46
          refine lv_iadd hx hb dXm_act_117 ?_
          refine lv_topi (fun y_47 ey_47 => ?_)
          have hw := hw y_47 ey_47
          refine lv_iload_n hx hb dXm_act_118 rfl (lv_at hl 4 rfl) ?_
          obtain ⟨h_48, hw⟩ := hw
          refine wo_i (w := (wM q dA)) (M := M_43) hx hb hK hP hD hS 2 1 (wM_2 q dA M_43) (wM_s2 q dA M_43) rfl h_48 dXm_act_119 (fun M_49 H locs eM_49 hP hD hS => ?_)
          have hw := hw M_49 eM_49
          refine lv_aload_n hx hb dXm_act_120 rfl (lv_at hl 1 rfl) ?_
          refine va_get (D := (dC, dI)) (ci := 5) (v := .ref (q 3)) (C := "ServiceThreadsModel") (T := TXm) (N := 28) hx hb hta inXm hown hK hP 0 (wM_0 q dA M_49) rfl 5 (by decide) (hta _ wt_570) (fun _ h9 => h9) rfl dXm_act_121 ?_
          refine lv_iload_n hx hb dXm_act_124 rfl (lv_at hl 2 rfl) ?_
          refine lv_dup2_11 hx hb dXm_act_125 rfl rfl ?_
          obtain ⟨h_50, hw⟩ := hw
          refine ro_i (w := (wM q dA)) (M := M_49) hx hb hK hP 3 2 (wM_3 q dA M_49) rfl h_50 dXm_act_126 (fun y_51 ey_51 => ?_)
          have hw := hw y_51 ey_51
          refine lv_iconst (v := 1) hx hb dXm_act_127 (by decide) ?_
          refine lv_iadd hx hb dXm_act_128 ?_
          refine lv_topi (fun y_52 ey_52 => ?_)
          have hw := hw y_52 ey_52
          obtain ⟨h_53, hw⟩ := hw
          refine wo_i (w := (wM q dA)) (M := M_49) hx hb hK hP hD hS 3 2 (wM_3 q dA M_49) (wM_s3 q dA M_49) rfl h_53 dXm_act_129 (fun M_54 H locs eM_54 hP hD hS => ?_)
          have hw := hw M_54 eM_54
          refine lv_aload_n hx hb dXm_act_130 rfl (lv_at hl 1 rfl) ?_
          refine va_get (D := (dC, dI)) (ci := 5) (v := .ref (q 3)) (C := "ServiceThreadsModel") (T := TXm) (N := 28) hx hb hta inXm hown hK hP 0 (wM_0 q dA M_54) rfl 5 (by decide) (hta _ wt_570) (fun _ h9 => h9) rfl dXm_act_131 ?_
          refine lv_iload_n hx hb dXm_act_134 rfl (lv_at hl 2 rfl) ?_
          obtain ⟨h_55, hw⟩ := hw
          refine ro_i (w := (wM q dA)) (M := M_54) hx hb hK hP 3 2 (wM_3 q dA M_54) rfl h_55 dXm_act_135 (fun y_56 ey_56 => ?_)
          have hw := hw y_56 ey_56
          exact W.iret (v := y_56) hx hb hr (fun t ht hW => ⟨⟨y_56, M_54, rfl, hw, by rw [ht]; exact hP, va_K.moved hW.alike hK, hD⟩, hS.F ht⟩) hS.2.2 dXm_act_136 hlocks
        · have hw := hw.2 c_37
          refine lv_iconst (v := 0) hx hb dXm_act_84 (by decide) ?_
          exact W.iret (v := 0) hx hb hr (fun t ht hW => ⟨⟨0, M_36, rfl, hw, by rw [ht]; exact hP, va_K.moved hW.alike hK, hD⟩, hS.F ht⟩) hS.2.2 dXm_act_85 hlocks
  · have hw := hw.2 c_3
    refine lv_iload_n hx hb dXm_act_7 rfl (lv_at hl 2 rfl) ?_
    refine lv_iconst (v := 0) hx hb dXm_act_8 (by decide) ?_
    refine lv_bipush (v := 6) hx hb dXm_act_9 (by decide) ?_
    refine cn_i (w := (wM q dA)) (M := M_2) (wM_ad q dA) (va_runS (As := [.int p1, .int 0, .int 6]) (rest := []) ⟨hx, hb, hml, hown, hta⟩ (mtXm_in l dC dI q dA H.size p1 0 6 M_2 _ hw) (va_cwS 3 hta (giS wt_657 wt_658 wt_7 wt_659) rfl rfl rfl (by decide +kernel) ⟨Nat.le_of_ble_eq_true rfl, Nat.le_of_ble_eq_true rfl⟩) ⟨pW_blind, pW_of hK hP hD⟩ rfl rfl hl.1 rfl (lv_room (Nat.le_of_ble_eq_true rfl)) dXm_act_11 ⟨Nat.le_of_ble_eq_true rfl, Nat.le_of_ble_eq_true rfl⟩) hD hS hA (fun r_57 M_58 H locs hw hP hD hS => ?_)
    refine lv_if_ne (tgt := 21) hx hb dXm_act_14 (by decide) (fun c_59 => ?_) (fun c_59 => ?_)
    · have hw := hw.2 c_59
      refine lv_iconst (v := 0) hx hb dXm_act_21 (by decide) ?_
      refine lv_istore (lv' := [(4, .int 0), (0, .ref (q 0)), (1, .int p0), (2, .int p1), (3, .int p2)]) hx hb dXm_act_22 hl (by decide) rfl (fun ls hl => ?_)
      refine lv_aload_n hx hb dXm_act_24 rfl (lv_at hl 1 rfl) ?_
      refine lv_iload hx hb dXm_act_25 (lv_at hl 0 rfl) ?_
      refine lv_iload_n hx hb dXm_act_27 rfl (lv_at hl 4 rfl) ?_
      refine lv_iconst (v := 0) hx hb dXm_act_28 (by decide) ?_
      refine lv_sipush (v := 255) hx hb dXm_act_29 (by decide) ?_
      refine cn_i (w := (wM q dA)) (M := M_58) (wM_ad q dA) (va_runS (As := [.int p2, .int 0, .int 255]) (rest := [.int 0, .ref (q 0)]) ⟨hx, hb, hml, hown, hta⟩ (mtXm_in l dC dI q dA H.size p2 0 255 M_58 _ hw) (va_cwS 3 hta (giS wt_657 wt_658 wt_7 wt_659) rfl rfl rfl (by decide +kernel) ⟨Nat.le_of_ble_eq_true rfl, Nat.le_of_ble_eq_true rfl⟩) ⟨pW_blind, pW_of hK hP hD⟩ rfl rfl hl.1 rfl (lv_room (Nat.le_of_ble_eq_true rfl)) dXm_act_32 ⟨Nat.le_of_ble_eq_true rfl, Nat.le_of_ble_eq_true rfl⟩) hD hS hA (fun r_60 M_61 H locs hw hP hD hS => ?_)
      refine lv_if_ne (tgt := 42) hx hb dXm_act_35 (by decide) (fun c_62 => ?_) (fun c_62 => ?_)
      · have hw := hw.2 c_62
        refine lv_iconst (v := 0) hx hb dXm_act_42 (by decide) ?_
        refine lv_aload_n hx hb dXm_act_43 rfl (lv_at hl 1 rfl) ?_
        refine lv_iload_n hx hb dXm_act_44 rfl (lv_at hl 2 rfl) ?_
        refine cn_i (w := (wM q dA)) (M := M_61) (wM_ad q dA) (va_runV (As := [.int p0]) (rest := [.int 0, .int 0, .ref (q 0)]) ⟨hx, hb, hml, hown, hta⟩ (mtXm_hasBegun l dC dI q dA H.size p0 M_61 _ hw) (cwV 1 hta (giV wt_660 wt_662 ws_18 wt_7 wt_663) rfl rfl rfl (by decide +kernel) ⟨Nat.le_of_ble_eq_true rfl, Nat.le_of_ble_eq_true rfl⟩) ⟨pW_blind, va_recv hK hP (ci := 5) (q0 := 0) rfl (wM_0 q dA M_61), pW_of hK hP hD⟩ rfl rfl hl.1 rfl (lv_room (Nat.le_of_ble_eq_true rfl)) dXm_act_45 ⟨Nat.le_of_ble_eq_true rfl, Nat.le_of_ble_eq_true rfl⟩) hD hS hA (fun r_63 M_64 H locs hw hP hD hS => ?_)
        refine lv_iload hx hb dXm_act_48 (lv_at hl 0 rfl) ?_
        refine lv_if_ne (tgt := 77) hx hb dXm_act_50 (by decide) (fun c_65 => absurd c_65 (by decide)) (fun c_65 => ?_)
        · skip
          refine lv_aload_n hx hb dXm_act_53 rfl (lv_at hl 1 rfl) ?_
          refine va_get (D := (dC, dI)) (ci := 5) (v := .ref (q 3)) (C := "ServiceThreadsModel") (T := TXm) (N := 28) hx hb hta inXm hown hK hP 0 (wM_0 q dA M_64) rfl 5 (by decide) (hta _ wt_570) (fun _ h9 => h9) rfl dXm_act_54 ?_
          refine lv_iload hx hb dXm_act_57 (lv_at hl 0 rfl) ?_
          refine lv_if_eq (tgt := 66) hx hb dXm_act_59 (by decide) (fun c_66 => ?_) (fun c_66 => absurd c_66 (by decide))
          · skip
            refine lv_iload_n hx hb dXm_act_66 rfl (lv_at hl 2 rfl) ?_
            obtain ⟨h_67, hw⟩ := hw
            refine ro_i (w := (wM q dA)) (M := M_64) hx hb hK hP 3 2 (wM_3 q dA M_64) rfl h_67 dXm_act_67 (fun y_68 ey_68 => ?_)
            have hw := hw y_68 ey_68
            refine lv_bipush (v := 16) hx hb dXm_act_68 (by decide) ?_
            refine lv_icmp_ne (tgt := 77) hx hb dXm_act_70 (by decide) (fun c_69 => ?_) (fun c_69 => ?_)
            · have hw := hw.2 c_69
              refine lv_iconst (v := 0) hx hb dXm_act_77 (by decide) ?_
              refine cn_i (w := (wM q dA)) (M := M_64) (wM_ad q dA) (va_runV (As := [.int 0, .int 0, .int r_63, .int 0]) (rest := []) ⟨hx, hb, hml, hown, hta⟩ (mtXm_throwing l dC dI q dA H.size 0 0 r_63 0 M_64 _ hw) (cwV 4 hta (giV wt_664 wt_666 ws_19 wt_7 wt_667) rfl rfl rfl (by decide +kernel) ⟨Nat.le_of_ble_eq_true rfl, Nat.le_of_ble_eq_true rfl⟩) ⟨pW_blind, va_recv hK hP (ci := 5) (q0 := 0) rfl (wM_0 q dA M_64), pW_of hK hP hD⟩ rfl rfl hl.1 rfl (lv_room (Nat.le_of_ble_eq_true rfl)) dXm_act_78 ⟨Nat.le_of_ble_eq_true rfl, Nat.le_of_ble_eq_true rfl⟩) hD hS hA (fun r_70 M_71 H locs hw hP hD hS => ?_)
              refine lv_if_eq (tgt := 86) hx hb dXm_act_81 (by decide) (fun c_72 => ?_) (fun c_72 => ?_)
              · have hw := hw.1 c_72
                refine lv_aload_n hx hb dXm_act_86 rfl (lv_at hl 1 rfl) ?_
                refine va_get (D := (dC, dI)) (ci := 5) (v := .ref (q 1)) (C := "ServiceThreadsModel") (T := TXm) (N := 28) hx hb hta inXm hown hK hP 0 (wM_0 q dA M_71) rfl 3 (by decide) (hta _ wt_568) (fun _ h9 => h9) rfl dXm_act_87 ?_
                refine lv_bipush (v := 16) hx hb dXm_act_90 (by decide) ?_
                refine lv_iload_n hx hb dXm_act_92 rfl (lv_at hl 2 rfl) ?_
                refine lv_imul hx hb dXm_act_93 ?_
                refine lv_topi (fun y_73 ey_73 => ?_)
                have hw := hw y_73 ey_73
                refine lv_aload_n hx hb dXm_act_94 rfl (lv_at hl 1 rfl) ?_
                refine va_get (D := (dC, dI)) (ci := 5) (v := .ref (q 3)) (C := "ServiceThreadsModel") (T := TXm) (N := 28) hx hb hta inXm hown hK hP 0 (wM_0 q dA M_71) rfl 5 (by decide) (hta _ wt_570) (fun _ h9 => h9) rfl dXm_act_95 ?_
                refine lv_iload_n hx hb dXm_act_98 rfl (lv_at hl 2 rfl) ?_
                obtain ⟨h_74, hw⟩ := hw
                refine ro_i (w := (wM q dA)) (M := M_71) hx hb hK hP 3 2 (wM_3 q dA M_71) rfl h_74 dXm_act_99 (fun y_75 ey_75 => ?_)
                have hw := hw y_75 ey_75
                refine lv_iadd hx hb dXm_act_100 ?_
                refine lv_topi (fun y_76 ey_76 => ?_)
                have hw := hw y_76 ey_76
                refine lv_iload_n hx hb dXm_act_101 rfl (lv_at hl 3 rfl) ?_
                obtain ⟨h_77, hw⟩ := hw
                refine wo_i (w := (wM q dA)) (M := M_71) hx hb hK hP hD hS 1 0 (wM_1 q dA M_71) (wM_s1 q dA M_71) rfl h_77 dXm_act_102 (fun M_78 H locs eM_78 hP hD hS => ?_)
                have hw := hw M_78 eM_78
                refine lv_aload_n hx hb dXm_act_103 rfl (lv_at hl 1 rfl) ?_
                refine va_get (D := (dC, dI)) (ci := 5) (v := .ref (q 2)) (C := "ServiceThreadsModel") (T := TXm) (N := 28) hx hb hta inXm hown hK hP 0 (wM_0 q dA M_78) rfl 4 (by decide) (hta _ wt_569) (fun _ h9 => h9) rfl dXm_act_104 ?_
                refine lv_bipush (v := 16) hx hb dXm_act_107 (by decide) ?_
                refine lv_iload_n hx hb dXm_act_109 rfl (lv_at hl 2 rfl) ?_
                refine lv_imul hx hb dXm_act_110 ?_
                refine lv_topi (fun y_79 ey_79 => ?_)
                have hw := hw y_79 ey_79
                refine lv_aload_n hx hb dXm_act_111 rfl (lv_at hl 1 rfl) ?_
                refine va_get (D := (dC, dI)) (ci := 5) (v := .ref (q 3)) (C := "ServiceThreadsModel") (T := TXm) (N := 28) hx hb hta inXm hown hK hP 0 (wM_0 q dA M_78) rfl 5 (by decide) (hta _ wt_570) (fun _ h9 => h9) rfl dXm_act_112 ?_
                refine lv_iload_n hx hb dXm_act_115 rfl (lv_at hl 2 rfl) ?_
                obtain ⟨h_80, hw⟩ := hw
                refine ro_i (w := (wM q dA)) (M := M_78) hx hb hK hP 3 2 (wM_3 q dA M_78) rfl h_80 dXm_act_116 (fun y_81 ey_81 => ?_)
                have hw := hw y_81 ey_81
                refine lv_iadd hx hb dXm_act_117 ?_
                refine lv_topi (fun y_82 ey_82 => ?_)
                have hw := hw y_82 ey_82
                refine lv_iload_n hx hb dXm_act_118 rfl (lv_at hl 4 rfl) ?_
                obtain ⟨h_83, hw⟩ := hw
                refine wo_i (w := (wM q dA)) (M := M_78) hx hb hK hP hD hS 2 1 (wM_2 q dA M_78) (wM_s2 q dA M_78) rfl h_83 dXm_act_119 (fun M_84 H locs eM_84 hP hD hS => ?_)
                have hw := hw M_84 eM_84
                refine lv_aload_n hx hb dXm_act_120 rfl (lv_at hl 1 rfl) ?_
                refine va_get (D := (dC, dI)) (ci := 5) (v := .ref (q 3)) (C := "ServiceThreadsModel") (T := TXm) (N := 28) hx hb hta inXm hown hK hP 0 (wM_0 q dA M_84) rfl 5 (by decide) (hta _ wt_570) (fun _ h9 => h9) rfl dXm_act_121 ?_
                refine lv_iload_n hx hb dXm_act_124 rfl (lv_at hl 2 rfl) ?_
                refine lv_dup2_11 hx hb dXm_act_125 rfl rfl ?_
                obtain ⟨h_85, hw⟩ := hw
                refine ro_i (w := (wM q dA)) (M := M_84) hx hb hK hP 3 2 (wM_3 q dA M_84) rfl h_85 dXm_act_126 (fun y_86 ey_86 => ?_)
                have hw := hw y_86 ey_86
                refine lv_iconst (v := 1) hx hb dXm_act_127 (by decide) ?_
                refine lv_iadd hx hb dXm_act_128 ?_
                refine lv_topi (fun y_87 ey_87 => ?_)
                have hw := hw y_87 ey_87
                obtain ⟨h_88, hw⟩ := hw
                refine wo_i (w := (wM q dA)) (M := M_84) hx hb hK hP hD hS 3 2 (wM_3 q dA M_84) (wM_s3 q dA M_84) rfl h_88 dXm_act_129 (fun M_89 H locs eM_89 hP hD hS => ?_)
                have hw := hw M_89 eM_89
                refine lv_aload_n hx hb dXm_act_130 rfl (lv_at hl 1 rfl) ?_
                refine va_get (D := (dC, dI)) (ci := 5) (v := .ref (q 3)) (C := "ServiceThreadsModel") (T := TXm) (N := 28) hx hb hta inXm hown hK hP 0 (wM_0 q dA M_89) rfl 5 (by decide) (hta _ wt_570) (fun _ h9 => h9) rfl dXm_act_131 ?_
                refine lv_iload_n hx hb dXm_act_134 rfl (lv_at hl 2 rfl) ?_
                obtain ⟨h_90, hw⟩ := hw
                refine ro_i (w := (wM q dA)) (M := M_89) hx hb hK hP 3 2 (wM_3 q dA M_89) rfl h_90 dXm_act_135 (fun y_91 ey_91 => ?_)
                have hw := hw y_91 ey_91
                exact W.iret (v := y_91) hx hb hr (fun t ht hW => ⟨⟨y_91, M_89, rfl, hw, by rw [ht]; exact hP, va_K.moved hW.alike hK, hD⟩, hS.F ht⟩) hS.2.2 dXm_act_136 hlocks
              · have hw := hw.2 c_72
                refine lv_iconst (v := 0) hx hb dXm_act_84 (by decide) ?_
                exact W.iret (v := 0) hx hb hr (fun t ht hW => ⟨⟨0, M_71, rfl, hw, by rw [ht]; exact hP, va_K.moved hW.alike hK, hD⟩, hS.F ht⟩) hS.2.2 dXm_act_85 hlocks
            · have hw := hw.1 c_69
              refine lv_iconst (v := 1) hx hb dXm_act_73 (by decide) ?_
              refine lv_goto (tgt := 78) hx hb dXm_act_74 (by decide) ?_
              refine cn_i (w := (wM q dA)) (M := M_64) (wM_ad q dA) (va_runV (As := [.int 0, .int 0, .int r_63, .int 1]) (rest := []) ⟨hx, hb, hml, hown, hta⟩ (mtXm_throwing l dC dI q dA H.size 0 0 r_63 1 M_64 _ hw) (cwV 4 hta (giV wt_664 wt_666 ws_19 wt_7 wt_667) rfl rfl rfl (by decide +kernel) ⟨Nat.le_of_ble_eq_true rfl, Nat.le_of_ble_eq_true rfl⟩) ⟨pW_blind, va_recv hK hP (ci := 5) (q0 := 0) rfl (wM_0 q dA M_64), pW_of hK hP hD⟩ rfl rfl hl.1 rfl (lv_room (Nat.le_of_ble_eq_true rfl)) dXm_act_78 ⟨Nat.le_of_ble_eq_true rfl, Nat.le_of_ble_eq_true rfl⟩) hD hS hA (fun r_92 M_93 H locs hw hP hD hS => ?_)
              refine lv_if_eq (tgt := 86) hx hb dXm_act_81 (by decide) (fun c_94 => ?_) (fun c_94 => ?_)
              · have hw := hw.1 c_94
                refine lv_aload_n hx hb dXm_act_86 rfl (lv_at hl 1 rfl) ?_
                refine va_get (D := (dC, dI)) (ci := 5) (v := .ref (q 1)) (C := "ServiceThreadsModel") (T := TXm) (N := 28) hx hb hta inXm hown hK hP 0 (wM_0 q dA M_93) rfl 3 (by decide) (hta _ wt_568) (fun _ h9 => h9) rfl dXm_act_87 ?_
                refine lv_bipush (v := 16) hx hb dXm_act_90 (by decide) ?_
                refine lv_iload_n hx hb dXm_act_92 rfl (lv_at hl 2 rfl) ?_
                refine lv_imul hx hb dXm_act_93 ?_
                refine lv_topi (fun y_95 ey_95 => ?_)
                have hw := hw y_95 ey_95
                refine lv_aload_n hx hb dXm_act_94 rfl (lv_at hl 1 rfl) ?_
                refine va_get (D := (dC, dI)) (ci := 5) (v := .ref (q 3)) (C := "ServiceThreadsModel") (T := TXm) (N := 28) hx hb hta inXm hown hK hP 0 (wM_0 q dA M_93) rfl 5 (by decide) (hta _ wt_570) (fun _ h9 => h9) rfl dXm_act_95 ?_
                refine lv_iload_n hx hb dXm_act_98 rfl (lv_at hl 2 rfl) ?_
                obtain ⟨h_96, hw⟩ := hw
                refine ro_i (w := (wM q dA)) (M := M_93) hx hb hK hP 3 2 (wM_3 q dA M_93) rfl h_96 dXm_act_99 (fun y_97 ey_97 => ?_)
                have hw := hw y_97 ey_97
                refine lv_iadd hx hb dXm_act_100 ?_
                refine lv_topi (fun y_98 ey_98 => ?_)
                have hw := hw y_98 ey_98
                refine lv_iload_n hx hb dXm_act_101 rfl (lv_at hl 3 rfl) ?_
                obtain ⟨h_99, hw⟩ := hw
                refine wo_i (w := (wM q dA)) (M := M_93) hx hb hK hP hD hS 1 0 (wM_1 q dA M_93) (wM_s1 q dA M_93) rfl h_99 dXm_act_102 (fun M_100 H locs eM_100 hP hD hS => ?_)
                have hw := hw M_100 eM_100
                refine lv_aload_n hx hb dXm_act_103 rfl (lv_at hl 1 rfl) ?_
                refine va_get (D := (dC, dI)) (ci := 5) (v := .ref (q 2)) (C := "ServiceThreadsModel") (T := TXm) (N := 28) hx hb hta inXm hown hK hP 0 (wM_0 q dA M_100) rfl 4 (by decide) (hta _ wt_569) (fun _ h9 => h9) rfl dXm_act_104 ?_
                refine lv_bipush (v := 16) hx hb dXm_act_107 (by decide) ?_
                refine lv_iload_n hx hb dXm_act_109 rfl (lv_at hl 2 rfl) ?_
                refine lv_imul hx hb dXm_act_110 ?_
                refine lv_topi (fun y_101 ey_101 => ?_)
                have hw := hw y_101 ey_101
                refine lv_aload_n hx hb dXm_act_111 rfl (lv_at hl 1 rfl) ?_
                refine va_get (D := (dC, dI)) (ci := 5) (v := .ref (q 3)) (C := "ServiceThreadsModel") (T := TXm) (N := 28) hx hb hta inXm hown hK hP 0 (wM_0 q dA M_100) rfl 5 (by decide) (hta _ wt_570) (fun _ h9 => h9) rfl dXm_act_112 ?_
                refine lv_iload_n hx hb dXm_act_115 rfl (lv_at hl 2 rfl) ?_
                obtain ⟨h_102, hw⟩ := hw
                refine ro_i (w := (wM q dA)) (M := M_100) hx hb hK hP 3 2 (wM_3 q dA M_100) rfl h_102 dXm_act_116 (fun y_103 ey_103 => ?_)
                have hw := hw y_103 ey_103
                refine lv_iadd hx hb dXm_act_117 ?_
                refine lv_topi (fun y_104 ey_104 => ?_)
                have hw := hw y_104 ey_104
                refine lv_iload_n hx hb dXm_act_118 rfl (lv_at hl 4 rfl) ?_
                obtain ⟨h_105, hw⟩ := hw
                refine wo_i (w := (wM q dA)) (M := M_100) hx hb hK hP hD hS 2 1 (wM_2 q dA M_100) (wM_s2 q dA M_100) rfl h_105 dXm_act_119 (fun M_106 H locs eM_106 hP hD hS => ?_)
                have hw := hw M_106 eM_106
                refine lv_aload_n hx hb dXm_act_120 rfl (lv_at hl 1 rfl) ?_
                refine va_get (D := (dC, dI)) (ci := 5) (v := .ref (q 3)) (C := "ServiceThreadsModel") (T := TXm) (N := 28) hx hb hta inXm hown hK hP 0 (wM_0 q dA M_106) rfl 5 (by decide) (hta _ wt_570) (fun _ h9 => h9) rfl dXm_act_121 ?_
                refine lv_iload_n hx hb dXm_act_124 rfl (lv_at hl 2 rfl) ?_
                refine lv_dup2_11 hx hb dXm_act_125 rfl rfl ?_
                obtain ⟨h_107, hw⟩ := hw
                refine ro_i (w := (wM q dA)) (M := M_106) hx hb hK hP 3 2 (wM_3 q dA M_106) rfl h_107 dXm_act_126 (fun y_108 ey_108 => ?_)
                have hw := hw y_108 ey_108
                refine lv_iconst (v := 1) hx hb dXm_act_127 (by decide) ?_
                refine lv_iadd hx hb dXm_act_128 ?_
                refine lv_topi (fun y_109 ey_109 => ?_)
                have hw := hw y_109 ey_109
                obtain ⟨h_110, hw⟩ := hw
                refine wo_i (w := (wM q dA)) (M := M_106) hx hb hK hP hD hS 3 2 (wM_3 q dA M_106) (wM_s3 q dA M_106) rfl h_110 dXm_act_129 (fun M_111 H locs eM_111 hP hD hS => ?_)
                have hw := hw M_111 eM_111
                refine lv_aload_n hx hb dXm_act_130 rfl (lv_at hl 1 rfl) ?_
                refine va_get (D := (dC, dI)) (ci := 5) (v := .ref (q 3)) (C := "ServiceThreadsModel") (T := TXm) (N := 28) hx hb hta inXm hown hK hP 0 (wM_0 q dA M_111) rfl 5 (by decide) (hta _ wt_570) (fun _ h9 => h9) rfl dXm_act_131 ?_
                refine lv_iload_n hx hb dXm_act_134 rfl (lv_at hl 2 rfl) ?_
                obtain ⟨h_112, hw⟩ := hw
                refine ro_i (w := (wM q dA)) (M := M_111) hx hb hK hP 3 2 (wM_3 q dA M_111) rfl h_112 dXm_act_135 (fun y_113 ey_113 => ?_)
                have hw := hw y_113 ey_113
                exact W.iret (v := y_113) hx hb hr (fun t ht hW => ⟨⟨y_113, M_111, rfl, hw, by rw [ht]; exact hP, va_K.moved hW.alike hK, hD⟩, hS.F ht⟩) hS.2.2 dXm_act_136 hlocks
              · have hw := hw.2 c_94
                refine lv_iconst (v := 0) hx hb dXm_act_84 (by decide) ?_
                exact W.iret (v := 0) hx hb hr (fun t ht hW => ⟨⟨0, M_93, rfl, hw, by rw [ht]; exact hP, va_K.moved hW.alike hK, hD⟩, hS.F ht⟩) hS.2.2 dXm_act_85 hlocks
      · have hw := hw.1 c_62
        refine lv_iconst (v := 1) hx hb dXm_act_38 (by decide) ?_
        refine lv_goto (tgt := 43) hx hb dXm_act_39 (by decide) ?_
        refine lv_aload_n hx hb dXm_act_43 rfl (lv_at hl 1 rfl) ?_
        refine lv_iload_n hx hb dXm_act_44 rfl (lv_at hl 2 rfl) ?_
        refine cn_i (w := (wM q dA)) (M := M_61) (wM_ad q dA) (va_runV (As := [.int p0]) (rest := [.int 1, .int 0, .ref (q 0)]) ⟨hx, hb, hml, hown, hta⟩ (mtXm_hasBegun l dC dI q dA H.size p0 M_61 _ hw) (cwV 1 hta (giV wt_660 wt_662 ws_18 wt_7 wt_663) rfl rfl rfl (by decide +kernel) ⟨Nat.le_of_ble_eq_true rfl, Nat.le_of_ble_eq_true rfl⟩) ⟨pW_blind, va_recv hK hP (ci := 5) (q0 := 0) rfl (wM_0 q dA M_61), pW_of hK hP hD⟩ rfl rfl hl.1 rfl (lv_room (Nat.le_of_ble_eq_true rfl)) dXm_act_45 ⟨Nat.le_of_ble_eq_true rfl, Nat.le_of_ble_eq_true rfl⟩) hD hS hA (fun r_114 M_115 H locs hw hP hD hS => ?_)
        refine lv_iload hx hb dXm_act_48 (lv_at hl 0 rfl) ?_
        refine lv_if_ne (tgt := 77) hx hb dXm_act_50 (by decide) (fun c_116 => absurd c_116 (by decide)) (fun c_116 => ?_)
        · skip
          refine lv_aload_n hx hb dXm_act_53 rfl (lv_at hl 1 rfl) ?_
          refine va_get (D := (dC, dI)) (ci := 5) (v := .ref (q 3)) (C := "ServiceThreadsModel") (T := TXm) (N := 28) hx hb hta inXm hown hK hP 0 (wM_0 q dA M_115) rfl 5 (by decide) (hta _ wt_570) (fun _ h9 => h9) rfl dXm_act_54 ?_
          refine lv_iload hx hb dXm_act_57 (lv_at hl 0 rfl) ?_
          refine lv_if_eq (tgt := 66) hx hb dXm_act_59 (by decide) (fun c_117 => ?_) (fun c_117 => absurd c_117 (by decide))
          · skip
            refine lv_iload_n hx hb dXm_act_66 rfl (lv_at hl 2 rfl) ?_
            obtain ⟨h_118, hw⟩ := hw
            refine ro_i (w := (wM q dA)) (M := M_115) hx hb hK hP 3 2 (wM_3 q dA M_115) rfl h_118 dXm_act_67 (fun y_119 ey_119 => ?_)
            have hw := hw y_119 ey_119
            refine lv_bipush (v := 16) hx hb dXm_act_68 (by decide) ?_
            refine lv_icmp_ne (tgt := 77) hx hb dXm_act_70 (by decide) (fun c_120 => ?_) (fun c_120 => ?_)
            · have hw := hw.2 c_120
              refine lv_iconst (v := 0) hx hb dXm_act_77 (by decide) ?_
              refine cn_i (w := (wM q dA)) (M := M_115) (wM_ad q dA) (va_runV (As := [.int 0, .int 1, .int r_114, .int 0]) (rest := []) ⟨hx, hb, hml, hown, hta⟩ (mtXm_throwing l dC dI q dA H.size 0 1 r_114 0 M_115 _ hw) (cwV 4 hta (giV wt_664 wt_666 ws_19 wt_7 wt_667) rfl rfl rfl (by decide +kernel) ⟨Nat.le_of_ble_eq_true rfl, Nat.le_of_ble_eq_true rfl⟩) ⟨pW_blind, va_recv hK hP (ci := 5) (q0 := 0) rfl (wM_0 q dA M_115), pW_of hK hP hD⟩ rfl rfl hl.1 rfl (lv_room (Nat.le_of_ble_eq_true rfl)) dXm_act_78 ⟨Nat.le_of_ble_eq_true rfl, Nat.le_of_ble_eq_true rfl⟩) hD hS hA (fun r_121 M_122 H locs hw hP hD hS => ?_)
              refine lv_if_eq (tgt := 86) hx hb dXm_act_81 (by decide) (fun c_123 => ?_) (fun c_123 => ?_)
              · have hw := hw.1 c_123
                refine lv_aload_n hx hb dXm_act_86 rfl (lv_at hl 1 rfl) ?_
                refine va_get (D := (dC, dI)) (ci := 5) (v := .ref (q 1)) (C := "ServiceThreadsModel") (T := TXm) (N := 28) hx hb hta inXm hown hK hP 0 (wM_0 q dA M_122) rfl 3 (by decide) (hta _ wt_568) (fun _ h9 => h9) rfl dXm_act_87 ?_
                refine lv_bipush (v := 16) hx hb dXm_act_90 (by decide) ?_
                refine lv_iload_n hx hb dXm_act_92 rfl (lv_at hl 2 rfl) ?_
                refine lv_imul hx hb dXm_act_93 ?_
                refine lv_topi (fun y_124 ey_124 => ?_)
                have hw := hw y_124 ey_124
                refine lv_aload_n hx hb dXm_act_94 rfl (lv_at hl 1 rfl) ?_
                refine va_get (D := (dC, dI)) (ci := 5) (v := .ref (q 3)) (C := "ServiceThreadsModel") (T := TXm) (N := 28) hx hb hta inXm hown hK hP 0 (wM_0 q dA M_122) rfl 5 (by decide) (hta _ wt_570) (fun _ h9 => h9) rfl dXm_act_95 ?_
                refine lv_iload_n hx hb dXm_act_98 rfl (lv_at hl 2 rfl) ?_
                obtain ⟨h_125, hw⟩ := hw
                refine ro_i (w := (wM q dA)) (M := M_122) hx hb hK hP 3 2 (wM_3 q dA M_122) rfl h_125 dXm_act_99 (fun y_126 ey_126 => ?_)
                have hw := hw y_126 ey_126
                refine lv_iadd hx hb dXm_act_100 ?_
                refine lv_topi (fun y_127 ey_127 => ?_)
                have hw := hw y_127 ey_127
                refine lv_iload_n hx hb dXm_act_101 rfl (lv_at hl 3 rfl) ?_
                obtain ⟨h_128, hw⟩ := hw
                refine wo_i (w := (wM q dA)) (M := M_122) hx hb hK hP hD hS 1 0 (wM_1 q dA M_122) (wM_s1 q dA M_122) rfl h_128 dXm_act_102 (fun M_129 H locs eM_129 hP hD hS => ?_)
                have hw := hw M_129 eM_129
                refine lv_aload_n hx hb dXm_act_103 rfl (lv_at hl 1 rfl) ?_
                refine va_get (D := (dC, dI)) (ci := 5) (v := .ref (q 2)) (C := "ServiceThreadsModel") (T := TXm) (N := 28) hx hb hta inXm hown hK hP 0 (wM_0 q dA M_129) rfl 4 (by decide) (hta _ wt_569) (fun _ h9 => h9) rfl dXm_act_104 ?_
                refine lv_bipush (v := 16) hx hb dXm_act_107 (by decide) ?_
                refine lv_iload_n hx hb dXm_act_109 rfl (lv_at hl 2 rfl) ?_
                refine lv_imul hx hb dXm_act_110 ?_
                refine lv_topi (fun y_130 ey_130 => ?_)
                have hw := hw y_130 ey_130
                refine lv_aload_n hx hb dXm_act_111 rfl (lv_at hl 1 rfl) ?_
                refine va_get (D := (dC, dI)) (ci := 5) (v := .ref (q 3)) (C := "ServiceThreadsModel") (T := TXm) (N := 28) hx hb hta inXm hown hK hP 0 (wM_0 q dA M_129) rfl 5 (by decide) (hta _ wt_570) (fun _ h9 => h9) rfl dXm_act_112 ?_
                refine lv_iload_n hx hb dXm_act_115 rfl (lv_at hl 2 rfl) ?_
                obtain ⟨h_131, hw⟩ := hw
                refine ro_i (w := (wM q dA)) (M := M_129) hx hb hK hP 3 2 (wM_3 q dA M_129) rfl h_131 dXm_act_116 (fun y_132 ey_132 => ?_)
                have hw := hw y_132 ey_132
                refine lv_iadd hx hb dXm_act_117 ?_
                refine lv_topi (fun y_133 ey_133 => ?_)
                have hw := hw y_133 ey_133
                refine lv_iload_n hx hb dXm_act_118 rfl (lv_at hl 4 rfl) ?_
                obtain ⟨h_134, hw⟩ := hw
                refine wo_i (w := (wM q dA)) (M := M_129) hx hb hK hP hD hS 2 1 (wM_2 q dA M_129) (wM_s2 q dA M_129) rfl h_134 dXm_act_119 (fun M_135 H locs eM_135 hP hD hS => ?_)
                have hw := hw M_135 eM_135
                refine lv_aload_n hx hb dXm_act_120 rfl (lv_at hl 1 rfl) ?_
                refine va_get (D := (dC, dI)) (ci := 5) (v := .ref (q 3)) (C := "ServiceThreadsModel") (T := TXm) (N := 28) hx hb hta inXm hown hK hP 0 (wM_0 q dA M_135) rfl 5 (by decide) (hta _ wt_570) (fun _ h9 => h9) rfl dXm_act_121 ?_
                refine lv_iload_n hx hb dXm_act_124 rfl (lv_at hl 2 rfl) ?_
                refine lv_dup2_11 hx hb dXm_act_125 rfl rfl ?_
                obtain ⟨h_136, hw⟩ := hw
                refine ro_i (w := (wM q dA)) (M := M_135) hx hb hK hP 3 2 (wM_3 q dA M_135) rfl h_136 dXm_act_126 (fun y_137 ey_137 => ?_)
                have hw := hw y_137 ey_137
                refine lv_iconst (v := 1) hx hb dXm_act_127 (by decide) ?_
                refine lv_iadd hx hb dXm_act_128 ?_
                refine lv_topi (fun y_138 ey_138 => ?_)
                have hw := hw y_138 ey_138
                obtain ⟨h_139, hw⟩ := hw
                refine wo_i (w := (wM q dA)) (M := M_135) hx hb hK hP hD hS 3 2 (wM_3 q dA M_135) (wM_s3 q dA M_135) rfl h_139 dXm_act_129 (fun M_140 H locs eM_140 hP hD hS => ?_)
                have hw := hw M_140 eM_140
                refine lv_aload_n hx hb dXm_act_130 rfl (lv_at hl 1 rfl) ?_
                refine va_get (D := (dC, dI)) (ci := 5) (v := .ref (q 3)) (C := "ServiceThreadsModel") (T := TXm) (N := 28) hx hb hta inXm hown hK hP 0 (wM_0 q dA M_140) rfl 5 (by decide) (hta _ wt_570) (fun _ h9 => h9) rfl dXm_act_131 ?_
                refine lv_iload_n hx hb dXm_act_134 rfl (lv_at hl 2 rfl) ?_
                obtain ⟨h_141, hw⟩ := hw
                refine ro_i (w := (wM q dA)) (M := M_140) hx hb hK hP 3 2 (wM_3 q dA M_140) rfl h_141 dXm_act_135 (fun y_142 ey_142 => ?_)
                have hw := hw y_142 ey_142
                exact W.iret (v := y_142) hx hb hr (fun t ht hW => ⟨⟨y_142, M_140, rfl, hw, by rw [ht]; exact hP, va_K.moved hW.alike hK, hD⟩, hS.F ht⟩) hS.2.2 dXm_act_136 hlocks
              · have hw := hw.2 c_123
                refine lv_iconst (v := 0) hx hb dXm_act_84 (by decide) ?_
                exact W.iret (v := 0) hx hb hr (fun t ht hW => ⟨⟨0, M_122, rfl, hw, by rw [ht]; exact hP, va_K.moved hW.alike hK, hD⟩, hS.F ht⟩) hS.2.2 dXm_act_85 hlocks
            · have hw := hw.1 c_120
              refine lv_iconst (v := 1) hx hb dXm_act_73 (by decide) ?_
              refine lv_goto (tgt := 78) hx hb dXm_act_74 (by decide) ?_
              refine cn_i (w := (wM q dA)) (M := M_115) (wM_ad q dA) (va_runV (As := [.int 0, .int 1, .int r_114, .int 1]) (rest := []) ⟨hx, hb, hml, hown, hta⟩ (mtXm_throwing l dC dI q dA H.size 0 1 r_114 1 M_115 _ hw) (cwV 4 hta (giV wt_664 wt_666 ws_19 wt_7 wt_667) rfl rfl rfl (by decide +kernel) ⟨Nat.le_of_ble_eq_true rfl, Nat.le_of_ble_eq_true rfl⟩) ⟨pW_blind, va_recv hK hP (ci := 5) (q0 := 0) rfl (wM_0 q dA M_115), pW_of hK hP hD⟩ rfl rfl hl.1 rfl (lv_room (Nat.le_of_ble_eq_true rfl)) dXm_act_78 ⟨Nat.le_of_ble_eq_true rfl, Nat.le_of_ble_eq_true rfl⟩) hD hS hA (fun r_143 M_144 H locs hw hP hD hS => ?_)
              refine lv_if_eq (tgt := 86) hx hb dXm_act_81 (by decide) (fun c_145 => ?_) (fun c_145 => ?_)
              · have hw := hw.1 c_145
                refine lv_aload_n hx hb dXm_act_86 rfl (lv_at hl 1 rfl) ?_
                refine va_get (D := (dC, dI)) (ci := 5) (v := .ref (q 1)) (C := "ServiceThreadsModel") (T := TXm) (N := 28) hx hb hta inXm hown hK hP 0 (wM_0 q dA M_144) rfl 3 (by decide) (hta _ wt_568) (fun _ h9 => h9) rfl dXm_act_87 ?_
                refine lv_bipush (v := 16) hx hb dXm_act_90 (by decide) ?_
                refine lv_iload_n hx hb dXm_act_92 rfl (lv_at hl 2 rfl) ?_
                refine lv_imul hx hb dXm_act_93 ?_
                refine lv_topi (fun y_146 ey_146 => ?_)
                have hw := hw y_146 ey_146
                refine lv_aload_n hx hb dXm_act_94 rfl (lv_at hl 1 rfl) ?_
                refine va_get (D := (dC, dI)) (ci := 5) (v := .ref (q 3)) (C := "ServiceThreadsModel") (T := TXm) (N := 28) hx hb hta inXm hown hK hP 0 (wM_0 q dA M_144) rfl 5 (by decide) (hta _ wt_570) (fun _ h9 => h9) rfl dXm_act_95 ?_
                refine lv_iload_n hx hb dXm_act_98 rfl (lv_at hl 2 rfl) ?_
                obtain ⟨h_147, hw⟩ := hw
                refine ro_i (w := (wM q dA)) (M := M_144) hx hb hK hP 3 2 (wM_3 q dA M_144) rfl h_147 dXm_act_99 (fun y_148 ey_148 => ?_)
                have hw := hw y_148 ey_148
                refine lv_iadd hx hb dXm_act_100 ?_
                refine lv_topi (fun y_149 ey_149 => ?_)
                have hw := hw y_149 ey_149
                refine lv_iload_n hx hb dXm_act_101 rfl (lv_at hl 3 rfl) ?_
                obtain ⟨h_150, hw⟩ := hw
                refine wo_i (w := (wM q dA)) (M := M_144) hx hb hK hP hD hS 1 0 (wM_1 q dA M_144) (wM_s1 q dA M_144) rfl h_150 dXm_act_102 (fun M_151 H locs eM_151 hP hD hS => ?_)
                have hw := hw M_151 eM_151
                refine lv_aload_n hx hb dXm_act_103 rfl (lv_at hl 1 rfl) ?_
                refine va_get (D := (dC, dI)) (ci := 5) (v := .ref (q 2)) (C := "ServiceThreadsModel") (T := TXm) (N := 28) hx hb hta inXm hown hK hP 0 (wM_0 q dA M_151) rfl 4 (by decide) (hta _ wt_569) (fun _ h9 => h9) rfl dXm_act_104 ?_
                refine lv_bipush (v := 16) hx hb dXm_act_107 (by decide) ?_
                refine lv_iload_n hx hb dXm_act_109 rfl (lv_at hl 2 rfl) ?_
                refine lv_imul hx hb dXm_act_110 ?_
                refine lv_topi (fun y_152 ey_152 => ?_)
                have hw := hw y_152 ey_152
                refine lv_aload_n hx hb dXm_act_111 rfl (lv_at hl 1 rfl) ?_
                refine va_get (D := (dC, dI)) (ci := 5) (v := .ref (q 3)) (C := "ServiceThreadsModel") (T := TXm) (N := 28) hx hb hta inXm hown hK hP 0 (wM_0 q dA M_151) rfl 5 (by decide) (hta _ wt_570) (fun _ h9 => h9) rfl dXm_act_112 ?_
                refine lv_iload_n hx hb dXm_act_115 rfl (lv_at hl 2 rfl) ?_
                obtain ⟨h_153, hw⟩ := hw
                refine ro_i (w := (wM q dA)) (M := M_151) hx hb hK hP 3 2 (wM_3 q dA M_151) rfl h_153 dXm_act_116 (fun y_154 ey_154 => ?_)
                have hw := hw y_154 ey_154
                refine lv_iadd hx hb dXm_act_117 ?_
                refine lv_topi (fun y_155 ey_155 => ?_)
                have hw := hw y_155 ey_155
                refine lv_iload_n hx hb dXm_act_118 rfl (lv_at hl 4 rfl) ?_
                obtain ⟨h_156, hw⟩ := hw
                refine wo_i (w := (wM q dA)) (M := M_151) hx hb hK hP hD hS 2 1 (wM_2 q dA M_151) (wM_s2 q dA M_151) rfl h_156 dXm_act_119 (fun M_157 H locs eM_157 hP hD hS => ?_)
                have hw := hw M_157 eM_157
                refine lv_aload_n hx hb dXm_act_120 rfl (lv_at hl 1 rfl) ?_
                refine va_get (D := (dC, dI)) (ci := 5) (v := .ref (q 3)) (C := "ServiceThreadsModel") (T := TXm) (N := 28) hx hb hta inXm hown hK hP 0 (wM_0 q dA M_157) rfl 5 (by decide) (hta _ wt_570) (fun _ h9 => h9) rfl dXm_act_121 ?_
                refine lv_iload_n hx hb dXm_act_124 rfl (lv_at hl 2 rfl) ?_
                refine lv_dup2_11 hx hb dXm_act_125 rfl rfl ?_
                obtain ⟨h_158, hw⟩ := hw
                refine ro_i (w := (wM q dA)) (M := M_157) hx hb hK hP 3 2 (wM_3 q dA M_157) rfl h_158 dXm_act_126 (fun y_159 ey_159 => ?_)
                have hw := hw y_159 ey_159
                refine lv_iconst (v := 1) hx hb dXm_act_127 (by decide) ?_
                refine lv_iadd hx hb dXm_act_128 ?_
                refine lv_topi (fun y_160 ey_160 => ?_)
                have hw := hw y_160 ey_160
                obtain ⟨h_161, hw⟩ := hw
                refine wo_i (w := (wM q dA)) (M := M_157) hx hb hK hP hD hS 3 2 (wM_3 q dA M_157) (wM_s3 q dA M_157) rfl h_161 dXm_act_129 (fun M_162 H locs eM_162 hP hD hS => ?_)
                have hw := hw M_162 eM_162
                refine lv_aload_n hx hb dXm_act_130 rfl (lv_at hl 1 rfl) ?_
                refine va_get (D := (dC, dI)) (ci := 5) (v := .ref (q 3)) (C := "ServiceThreadsModel") (T := TXm) (N := 28) hx hb hta inXm hown hK hP 0 (wM_0 q dA M_162) rfl 5 (by decide) (hta _ wt_570) (fun _ h9 => h9) rfl dXm_act_131 ?_
                refine lv_iload_n hx hb dXm_act_134 rfl (lv_at hl 2 rfl) ?_
                obtain ⟨h_163, hw⟩ := hw
                refine ro_i (w := (wM q dA)) (M := M_162) hx hb hK hP 3 2 (wM_3 q dA M_162) rfl h_163 dXm_act_135 (fun y_164 ey_164 => ?_)
                have hw := hw y_164 ey_164
                exact W.iret (v := y_164) hx hb hr (fun t ht hW => ⟨⟨y_164, M_162, rfl, hw, by rw [ht]; exact hP, va_K.moved hW.alike hK, hD⟩, hS.F ht⟩) hS.2.2 dXm_act_136 hlocks
              · have hw := hw.2 c_145
                refine lv_iconst (v := 0) hx hb dXm_act_84 (by decide) ?_
                exact W.iret (v := 0) hx hb hr (fun t ht hW => ⟨⟨0, M_144, rfl, hw, by rw [ht]; exact hP, va_K.moved hW.alike hK, hD⟩, hS.F ht⟩) hS.2.2 dXm_act_85 hlocks
    · have hw := hw.1 c_59
      refine lv_iconst (v := 1) hx hb dXm_act_17 (by decide) ?_
      refine lv_goto (tgt := 22) hx hb dXm_act_18 (by decide) ?_
      refine lv_istore (lv' := [(4, .int 1), (0, .ref (q 0)), (1, .int p0), (2, .int p1), (3, .int p2)]) hx hb dXm_act_22 hl (by decide) rfl (fun ls hl => ?_)
      refine lv_aload_n hx hb dXm_act_24 rfl (lv_at hl 1 rfl) ?_
      refine lv_iload hx hb dXm_act_25 (lv_at hl 0 rfl) ?_
      refine lv_iload_n hx hb dXm_act_27 rfl (lv_at hl 4 rfl) ?_
      refine lv_iconst (v := 0) hx hb dXm_act_28 (by decide) ?_
      refine lv_sipush (v := 255) hx hb dXm_act_29 (by decide) ?_
      refine cn_i (w := (wM q dA)) (M := M_58) (wM_ad q dA) (va_runS (As := [.int p2, .int 0, .int 255]) (rest := [.int 1, .ref (q 0)]) ⟨hx, hb, hml, hown, hta⟩ (mtXm_in l dC dI q dA H.size p2 0 255 M_58 _ hw) (va_cwS 3 hta (giS wt_657 wt_658 wt_7 wt_659) rfl rfl rfl (by decide +kernel) ⟨Nat.le_of_ble_eq_true rfl, Nat.le_of_ble_eq_true rfl⟩) ⟨pW_blind, pW_of hK hP hD⟩ rfl rfl hl.1 rfl (lv_room (Nat.le_of_ble_eq_true rfl)) dXm_act_32 ⟨Nat.le_of_ble_eq_true rfl, Nat.le_of_ble_eq_true rfl⟩) hD hS hA (fun r_165 M_166 H locs hw hP hD hS => ?_)
      refine lv_if_ne (tgt := 42) hx hb dXm_act_35 (by decide) (fun c_167 => ?_) (fun c_167 => ?_)
      · have hw := hw.2 c_167
        refine lv_iconst (v := 0) hx hb dXm_act_42 (by decide) ?_
        refine lv_aload_n hx hb dXm_act_43 rfl (lv_at hl 1 rfl) ?_
        refine lv_iload_n hx hb dXm_act_44 rfl (lv_at hl 2 rfl) ?_
        refine cn_i (w := (wM q dA)) (M := M_166) (wM_ad q dA) (va_runV (As := [.int p0]) (rest := [.int 0, .int 1, .ref (q 0)]) ⟨hx, hb, hml, hown, hta⟩ (mtXm_hasBegun l dC dI q dA H.size p0 M_166 _ hw) (cwV 1 hta (giV wt_660 wt_662 ws_18 wt_7 wt_663) rfl rfl rfl (by decide +kernel) ⟨Nat.le_of_ble_eq_true rfl, Nat.le_of_ble_eq_true rfl⟩) ⟨pW_blind, va_recv hK hP (ci := 5) (q0 := 0) rfl (wM_0 q dA M_166), pW_of hK hP hD⟩ rfl rfl hl.1 rfl (lv_room (Nat.le_of_ble_eq_true rfl)) dXm_act_45 ⟨Nat.le_of_ble_eq_true rfl, Nat.le_of_ble_eq_true rfl⟩) hD hS hA (fun r_168 M_169 H locs hw hP hD hS => ?_)
        refine lv_iload hx hb dXm_act_48 (lv_at hl 0 rfl) ?_
        refine lv_if_ne (tgt := 77) hx hb dXm_act_50 (by decide) (fun c_170 => ?_) (fun c_170 => absurd c_170 (by decide))
        · skip
          refine lv_iconst (v := 0) hx hb dXm_act_77 (by decide) ?_
          refine cn_i (w := (wM q dA)) (M := M_169) (wM_ad q dA) (va_runV (As := [.int 1, .int 0, .int r_168, .int 0]) (rest := []) ⟨hx, hb, hml, hown, hta⟩ (mtXm_throwing l dC dI q dA H.size 1 0 r_168 0 M_169 _ hw) (cwV 4 hta (giV wt_664 wt_666 ws_19 wt_7 wt_667) rfl rfl rfl (by decide +kernel) ⟨Nat.le_of_ble_eq_true rfl, Nat.le_of_ble_eq_true rfl⟩) ⟨pW_blind, va_recv hK hP (ci := 5) (q0 := 0) rfl (wM_0 q dA M_169), pW_of hK hP hD⟩ rfl rfl hl.1 rfl (lv_room (Nat.le_of_ble_eq_true rfl)) dXm_act_78 ⟨Nat.le_of_ble_eq_true rfl, Nat.le_of_ble_eq_true rfl⟩) hD hS hA (fun r_171 M_172 H locs hw hP hD hS => ?_)
          refine lv_if_eq (tgt := 86) hx hb dXm_act_81 (by decide) (fun c_173 => ?_) (fun c_173 => ?_)
          · have hw := hw.1 c_173
            refine lv_aload_n hx hb dXm_act_86 rfl (lv_at hl 1 rfl) ?_
            refine va_get (D := (dC, dI)) (ci := 5) (v := .ref (q 1)) (C := "ServiceThreadsModel") (T := TXm) (N := 28) hx hb hta inXm hown hK hP 0 (wM_0 q dA M_172) rfl 3 (by decide) (hta _ wt_568) (fun _ h9 => h9) rfl dXm_act_87 ?_
            refine lv_bipush (v := 16) hx hb dXm_act_90 (by decide) ?_
            refine lv_iload_n hx hb dXm_act_92 rfl (lv_at hl 2 rfl) ?_
            refine lv_imul hx hb dXm_act_93 ?_
            refine lv_topi (fun y_174 ey_174 => ?_)
            have hw := hw y_174 ey_174
            refine lv_aload_n hx hb dXm_act_94 rfl (lv_at hl 1 rfl) ?_
            refine va_get (D := (dC, dI)) (ci := 5) (v := .ref (q 3)) (C := "ServiceThreadsModel") (T := TXm) (N := 28) hx hb hta inXm hown hK hP 0 (wM_0 q dA M_172) rfl 5 (by decide) (hta _ wt_570) (fun _ h9 => h9) rfl dXm_act_95 ?_
            refine lv_iload_n hx hb dXm_act_98 rfl (lv_at hl 2 rfl) ?_
            obtain ⟨h_175, hw⟩ := hw
            refine ro_i (w := (wM q dA)) (M := M_172) hx hb hK hP 3 2 (wM_3 q dA M_172) rfl h_175 dXm_act_99 (fun y_176 ey_176 => ?_)
            have hw := hw y_176 ey_176
            refine lv_iadd hx hb dXm_act_100 ?_
            refine lv_topi (fun y_177 ey_177 => ?_)
            have hw := hw y_177 ey_177
            refine lv_iload_n hx hb dXm_act_101 rfl (lv_at hl 3 rfl) ?_
            obtain ⟨h_178, hw⟩ := hw
            refine wo_i (w := (wM q dA)) (M := M_172) hx hb hK hP hD hS 1 0 (wM_1 q dA M_172) (wM_s1 q dA M_172) rfl h_178 dXm_act_102 (fun M_179 H locs eM_179 hP hD hS => ?_)
            have hw := hw M_179 eM_179
            refine lv_aload_n hx hb dXm_act_103 rfl (lv_at hl 1 rfl) ?_
            refine va_get (D := (dC, dI)) (ci := 5) (v := .ref (q 2)) (C := "ServiceThreadsModel") (T := TXm) (N := 28) hx hb hta inXm hown hK hP 0 (wM_0 q dA M_179) rfl 4 (by decide) (hta _ wt_569) (fun _ h9 => h9) rfl dXm_act_104 ?_
            refine lv_bipush (v := 16) hx hb dXm_act_107 (by decide) ?_
            refine lv_iload_n hx hb dXm_act_109 rfl (lv_at hl 2 rfl) ?_
            refine lv_imul hx hb dXm_act_110 ?_
            refine lv_topi (fun y_180 ey_180 => ?_)
            have hw := hw y_180 ey_180
            refine lv_aload_n hx hb dXm_act_111 rfl (lv_at hl 1 rfl) ?_
            refine va_get (D := (dC, dI)) (ci := 5) (v := .ref (q 3)) (C := "ServiceThreadsModel") (T := TXm) (N := 28) hx hb hta inXm hown hK hP 0 (wM_0 q dA M_179) rfl 5 (by decide) (hta _ wt_570) (fun _ h9 => h9) rfl dXm_act_112 ?_
            refine lv_iload_n hx hb dXm_act_115 rfl (lv_at hl 2 rfl) ?_
            obtain ⟨h_181, hw⟩ := hw
            refine ro_i (w := (wM q dA)) (M := M_179) hx hb hK hP 3 2 (wM_3 q dA M_179) rfl h_181 dXm_act_116 (fun y_182 ey_182 => ?_)
            have hw := hw y_182 ey_182
            refine lv_iadd hx hb dXm_act_117 ?_
            refine lv_topi (fun y_183 ey_183 => ?_)
            have hw := hw y_183 ey_183
            refine lv_iload_n hx hb dXm_act_118 rfl (lv_at hl 4 rfl) ?_
            obtain ⟨h_184, hw⟩ := hw
            refine wo_i (w := (wM q dA)) (M := M_179) hx hb hK hP hD hS 2 1 (wM_2 q dA M_179) (wM_s2 q dA M_179) rfl h_184 dXm_act_119 (fun M_185 H locs eM_185 hP hD hS => ?_)
            have hw := hw M_185 eM_185
            refine lv_aload_n hx hb dXm_act_120 rfl (lv_at hl 1 rfl) ?_
            refine va_get (D := (dC, dI)) (ci := 5) (v := .ref (q 3)) (C := "ServiceThreadsModel") (T := TXm) (N := 28) hx hb hta inXm hown hK hP 0 (wM_0 q dA M_185) rfl 5 (by decide) (hta _ wt_570) (fun _ h9 => h9) rfl dXm_act_121 ?_
            refine lv_iload_n hx hb dXm_act_124 rfl (lv_at hl 2 rfl) ?_
            refine lv_dup2_11 hx hb dXm_act_125 rfl rfl ?_
            obtain ⟨h_186, hw⟩ := hw
            refine ro_i (w := (wM q dA)) (M := M_185) hx hb hK hP 3 2 (wM_3 q dA M_185) rfl h_186 dXm_act_126 (fun y_187 ey_187 => ?_)
            have hw := hw y_187 ey_187
            refine lv_iconst (v := 1) hx hb dXm_act_127 (by decide) ?_
            refine lv_iadd hx hb dXm_act_128 ?_
            refine lv_topi (fun y_188 ey_188 => ?_)
            have hw := hw y_188 ey_188
            obtain ⟨h_189, hw⟩ := hw
            refine wo_i (w := (wM q dA)) (M := M_185) hx hb hK hP hD hS 3 2 (wM_3 q dA M_185) (wM_s3 q dA M_185) rfl h_189 dXm_act_129 (fun M_190 H locs eM_190 hP hD hS => ?_)
            have hw := hw M_190 eM_190
            refine lv_aload_n hx hb dXm_act_130 rfl (lv_at hl 1 rfl) ?_
            refine va_get (D := (dC, dI)) (ci := 5) (v := .ref (q 3)) (C := "ServiceThreadsModel") (T := TXm) (N := 28) hx hb hta inXm hown hK hP 0 (wM_0 q dA M_190) rfl 5 (by decide) (hta _ wt_570) (fun _ h9 => h9) rfl dXm_act_131 ?_
            refine lv_iload_n hx hb dXm_act_134 rfl (lv_at hl 2 rfl) ?_
            obtain ⟨h_191, hw⟩ := hw
            refine ro_i (w := (wM q dA)) (M := M_190) hx hb hK hP 3 2 (wM_3 q dA M_190) rfl h_191 dXm_act_135 (fun y_192 ey_192 => ?_)
            have hw := hw y_192 ey_192
            exact W.iret (v := y_192) hx hb hr (fun t ht hW => ⟨⟨y_192, M_190, rfl, hw, by rw [ht]; exact hP, va_K.moved hW.alike hK, hD⟩, hS.F ht⟩) hS.2.2 dXm_act_136 hlocks
          · have hw := hw.2 c_173
            refine lv_iconst (v := 0) hx hb dXm_act_84 (by decide) ?_
            exact W.iret (v := 0) hx hb hr (fun t ht hW => ⟨⟨0, M_172, rfl, hw, by rw [ht]; exact hP, va_K.moved hW.alike hK, hD⟩, hS.F ht⟩) hS.2.2 dXm_act_85 hlocks
      · have hw := hw.1 c_167
        refine lv_iconst (v := 1) hx hb dXm_act_38 (by decide) ?_
        refine lv_goto (tgt := 43) hx hb dXm_act_39 (by decide) ?_
        refine lv_aload_n hx hb dXm_act_43 rfl (lv_at hl 1 rfl) ?_
        refine lv_iload_n hx hb dXm_act_44 rfl (lv_at hl 2 rfl) ?_
        refine cn_i (w := (wM q dA)) (M := M_166) (wM_ad q dA) (va_runV (As := [.int p0]) (rest := [.int 1, .int 1, .ref (q 0)]) ⟨hx, hb, hml, hown, hta⟩ (mtXm_hasBegun l dC dI q dA H.size p0 M_166 _ hw) (cwV 1 hta (giV wt_660 wt_662 ws_18 wt_7 wt_663) rfl rfl rfl (by decide +kernel) ⟨Nat.le_of_ble_eq_true rfl, Nat.le_of_ble_eq_true rfl⟩) ⟨pW_blind, va_recv hK hP (ci := 5) (q0 := 0) rfl (wM_0 q dA M_166), pW_of hK hP hD⟩ rfl rfl hl.1 rfl (lv_room (Nat.le_of_ble_eq_true rfl)) dXm_act_45 ⟨Nat.le_of_ble_eq_true rfl, Nat.le_of_ble_eq_true rfl⟩) hD hS hA (fun r_193 M_194 H locs hw hP hD hS => ?_)
        refine lv_iload hx hb dXm_act_48 (lv_at hl 0 rfl) ?_
        refine lv_if_ne (tgt := 77) hx hb dXm_act_50 (by decide) (fun c_195 => ?_) (fun c_195 => absurd c_195 (by decide))
        · skip
          refine lv_iconst (v := 0) hx hb dXm_act_77 (by decide) ?_
          refine cn_i (w := (wM q dA)) (M := M_194) (wM_ad q dA) (va_runV (As := [.int 1, .int 1, .int r_193, .int 0]) (rest := []) ⟨hx, hb, hml, hown, hta⟩ (mtXm_throwing l dC dI q dA H.size 1 1 r_193 0 M_194 _ hw) (cwV 4 hta (giV wt_664 wt_666 ws_19 wt_7 wt_667) rfl rfl rfl (by decide +kernel) ⟨Nat.le_of_ble_eq_true rfl, Nat.le_of_ble_eq_true rfl⟩) ⟨pW_blind, va_recv hK hP (ci := 5) (q0 := 0) rfl (wM_0 q dA M_194), pW_of hK hP hD⟩ rfl rfl hl.1 rfl (lv_room (Nat.le_of_ble_eq_true rfl)) dXm_act_78 ⟨Nat.le_of_ble_eq_true rfl, Nat.le_of_ble_eq_true rfl⟩) hD hS hA (fun r_196 M_197 H locs hw hP hD hS => ?_)
          refine lv_if_eq (tgt := 86) hx hb dXm_act_81 (by decide) (fun c_198 => ?_) (fun c_198 => ?_)
          · have hw := hw.1 c_198
            refine lv_aload_n hx hb dXm_act_86 rfl (lv_at hl 1 rfl) ?_
            refine va_get (D := (dC, dI)) (ci := 5) (v := .ref (q 1)) (C := "ServiceThreadsModel") (T := TXm) (N := 28) hx hb hta inXm hown hK hP 0 (wM_0 q dA M_197) rfl 3 (by decide) (hta _ wt_568) (fun _ h9 => h9) rfl dXm_act_87 ?_
            refine lv_bipush (v := 16) hx hb dXm_act_90 (by decide) ?_
            refine lv_iload_n hx hb dXm_act_92 rfl (lv_at hl 2 rfl) ?_
            refine lv_imul hx hb dXm_act_93 ?_
            refine lv_topi (fun y_199 ey_199 => ?_)
            have hw := hw y_199 ey_199
            refine lv_aload_n hx hb dXm_act_94 rfl (lv_at hl 1 rfl) ?_
            refine va_get (D := (dC, dI)) (ci := 5) (v := .ref (q 3)) (C := "ServiceThreadsModel") (T := TXm) (N := 28) hx hb hta inXm hown hK hP 0 (wM_0 q dA M_197) rfl 5 (by decide) (hta _ wt_570) (fun _ h9 => h9) rfl dXm_act_95 ?_
            refine lv_iload_n hx hb dXm_act_98 rfl (lv_at hl 2 rfl) ?_
            obtain ⟨h_200, hw⟩ := hw
            refine ro_i (w := (wM q dA)) (M := M_197) hx hb hK hP 3 2 (wM_3 q dA M_197) rfl h_200 dXm_act_99 (fun y_201 ey_201 => ?_)
            have hw := hw y_201 ey_201
            refine lv_iadd hx hb dXm_act_100 ?_
            refine lv_topi (fun y_202 ey_202 => ?_)
            have hw := hw y_202 ey_202
            refine lv_iload_n hx hb dXm_act_101 rfl (lv_at hl 3 rfl) ?_
            obtain ⟨h_203, hw⟩ := hw
            refine wo_i (w := (wM q dA)) (M := M_197) hx hb hK hP hD hS 1 0 (wM_1 q dA M_197) (wM_s1 q dA M_197) rfl h_203 dXm_act_102 (fun M_204 H locs eM_204 hP hD hS => ?_)
            have hw := hw M_204 eM_204
            refine lv_aload_n hx hb dXm_act_103 rfl (lv_at hl 1 rfl) ?_
            refine va_get (D := (dC, dI)) (ci := 5) (v := .ref (q 2)) (C := "ServiceThreadsModel") (T := TXm) (N := 28) hx hb hta inXm hown hK hP 0 (wM_0 q dA M_204) rfl 4 (by decide) (hta _ wt_569) (fun _ h9 => h9) rfl dXm_act_104 ?_
            refine lv_bipush (v := 16) hx hb dXm_act_107 (by decide) ?_
            refine lv_iload_n hx hb dXm_act_109 rfl (lv_at hl 2 rfl) ?_
            refine lv_imul hx hb dXm_act_110 ?_
            refine lv_topi (fun y_205 ey_205 => ?_)
            have hw := hw y_205 ey_205
            refine lv_aload_n hx hb dXm_act_111 rfl (lv_at hl 1 rfl) ?_
            refine va_get (D := (dC, dI)) (ci := 5) (v := .ref (q 3)) (C := "ServiceThreadsModel") (T := TXm) (N := 28) hx hb hta inXm hown hK hP 0 (wM_0 q dA M_204) rfl 5 (by decide) (hta _ wt_570) (fun _ h9 => h9) rfl dXm_act_112 ?_
            refine lv_iload_n hx hb dXm_act_115 rfl (lv_at hl 2 rfl) ?_
            obtain ⟨h_206, hw⟩ := hw
            refine ro_i (w := (wM q dA)) (M := M_204) hx hb hK hP 3 2 (wM_3 q dA M_204) rfl h_206 dXm_act_116 (fun y_207 ey_207 => ?_)
            have hw := hw y_207 ey_207
            refine lv_iadd hx hb dXm_act_117 ?_
            refine lv_topi (fun y_208 ey_208 => ?_)
            have hw := hw y_208 ey_208
            refine lv_iload_n hx hb dXm_act_118 rfl (lv_at hl 4 rfl) ?_
            obtain ⟨h_209, hw⟩ := hw
            refine wo_i (w := (wM q dA)) (M := M_204) hx hb hK hP hD hS 2 1 (wM_2 q dA M_204) (wM_s2 q dA M_204) rfl h_209 dXm_act_119 (fun M_210 H locs eM_210 hP hD hS => ?_)
            have hw := hw M_210 eM_210
            refine lv_aload_n hx hb dXm_act_120 rfl (lv_at hl 1 rfl) ?_
            refine va_get (D := (dC, dI)) (ci := 5) (v := .ref (q 3)) (C := "ServiceThreadsModel") (T := TXm) (N := 28) hx hb hta inXm hown hK hP 0 (wM_0 q dA M_210) rfl 5 (by decide) (hta _ wt_570) (fun _ h9 => h9) rfl dXm_act_121 ?_
            refine lv_iload_n hx hb dXm_act_124 rfl (lv_at hl 2 rfl) ?_
            refine lv_dup2_11 hx hb dXm_act_125 rfl rfl ?_
            obtain ⟨h_211, hw⟩ := hw
            refine ro_i (w := (wM q dA)) (M := M_210) hx hb hK hP 3 2 (wM_3 q dA M_210) rfl h_211 dXm_act_126 (fun y_212 ey_212 => ?_)
            have hw := hw y_212 ey_212
            refine lv_iconst (v := 1) hx hb dXm_act_127 (by decide) ?_
            refine lv_iadd hx hb dXm_act_128 ?_
            refine lv_topi (fun y_213 ey_213 => ?_)
            have hw := hw y_213 ey_213
            obtain ⟨h_214, hw⟩ := hw
            refine wo_i (w := (wM q dA)) (M := M_210) hx hb hK hP hD hS 3 2 (wM_3 q dA M_210) (wM_s3 q dA M_210) rfl h_214 dXm_act_129 (fun M_215 H locs eM_215 hP hD hS => ?_)
            have hw := hw M_215 eM_215
            refine lv_aload_n hx hb dXm_act_130 rfl (lv_at hl 1 rfl) ?_
            refine va_get (D := (dC, dI)) (ci := 5) (v := .ref (q 3)) (C := "ServiceThreadsModel") (T := TXm) (N := 28) hx hb hta inXm hown hK hP 0 (wM_0 q dA M_215) rfl 5 (by decide) (hta _ wt_570) (fun _ h9 => h9) rfl dXm_act_131 ?_
            refine lv_iload_n hx hb dXm_act_134 rfl (lv_at hl 2 rfl) ?_
            obtain ⟨h_216, hw⟩ := hw
            refine ro_i (w := (wM q dA)) (M := M_215) hx hb hK hP 3 2 (wM_3 q dA M_215) rfl h_216 dXm_act_135 (fun y_217 ey_217 => ?_)
            have hw := hw y_217 ey_217
            exact W.iret (v := y_217) hx hb hr (fun t ht hW => ⟨⟨y_217, M_215, rfl, hw, by rw [ht]; exact hP, va_K.moved hW.alike hK, hD⟩, hS.F ht⟩) hS.2.2 dXm_act_136 hlocks
          · have hw := hw.2 c_198
            refine lv_iconst (v := 0) hx hb dXm_act_84 (by decide) ?_
            exact W.iret (v := 0) hx hb hr (fun t ht hW => ⟨⟨0, M_197, rfl, hw, by rw [ht]; exact hP, va_K.moved hW.alike hK, hD⟩, hS.F ht⟩) hS.2.2 dXm_act_85 hlocks
def wpXm_finish (p0 : Int32) (p1 : Int32) (M : Mm) (post : Mm → Prop) : Prop := wpXm_isThread p0 M (fun r_1 M_2 => (((r_1 = 0 → (wpXm_hasBegun p0 M_2 (fun r_36 M_37 => (wpXm_throwing 1 0 r_36 0 M_37 (fun r_38 M_39 => (((r_38 = 0 → (vp_in p0 8 ∧ (∀ y_42 : Int32, y_42 = M_39 2 p0.toNatClampNeg → (((p1 = y_42 → (vp_in p0 8 ∧ (∀ M_47 : Mm, M_47 = stM M_39 3 (upd (M_39 3) p0.toNatClampNeg 16) → (post M_47)))) ∧ (¬ p1 = y_42 → (vp_in p0 8 ∧ (∀ M_45 : Mm, M_45 = stM M_39 3 (upd (M_39 3) p0.toNatClampNeg p1) → (post M_45))))))))) ∧ (¬ r_38 = 0 → (post M_39))))))))) ∧ (¬ r_1 = 0 → (vp_in p0 8 ∧ (∀ y_7 : Int32, y_7 = M_2 2 p0.toNatClampNeg → (wpXm_in p1 0 y_7 M_2 (fun r_8 M_9 => (((r_8 = 0 → (wpXm_hasBegun p0 M_9 (fun r_23 M_24 => (wpXm_throwing 0 1 r_23 0 M_24 (fun r_25 M_26 => (((r_25 = 0 → (vp_in p0 8 ∧ (∀ y_29 : Int32, y_29 = M_26 2 p0.toNatClampNeg → (((p1 = y_29 → (vp_in p0 8 ∧ (∀ M_34 : Mm, M_34 = stM M_26 3 (upd (M_26 3) p0.toNatClampNeg 16) → (post M_34)))) ∧ (¬ p1 = y_29 → (vp_in p0 8 ∧ (∀ M_32 : Mm, M_32 = stM M_26 3 (upd (M_26 3) p0.toNatClampNeg p1) → (post M_32))))))))) ∧ (¬ r_25 = 0 → (post M_26))))))))) ∧ (¬ r_8 = 0 → (wpXm_hasBegun p0 M_9 (fun r_11 M_12 => (wpXm_throwing 0 0 r_11 0 M_12 (fun r_13 M_14 => (((r_13 = 0 → (vp_in p0 8 ∧ (∀ y_17 : Int32, y_17 = M_14 2 p0.toNatClampNeg → (((p1 = y_17 → (vp_in p0 8 ∧ (∀ M_22 : Mm, M_22 = stM M_14 3 (upd (M_14 3) p0.toNatClampNeg 16) → (post M_22)))) ∧ (¬ p1 = y_17 → (vp_in p0 8 ∧ (∀ M_20 : Mm, M_20 = stM M_14 3 (upd (M_14 3) p0.toNatClampNeg p1) → (post M_20))))))))) ∧ (¬ r_13 = 0 → (post M_14)))))))))))))))))))
set_option maxHeartbeats 4000000 in
set_option maxRecDepth 100000 in
theorem mtXm_finish (l : Launch) (dC : Nat → ClassId) (dI : Nat → Nat → Nat) (q : Nat → Nat) (dA : Nat → ClassId) (sz : Nat) (p0 : Int32) (p1 : Int32) (M : Mm) (post : Mm → Prop) (hw : wpXm_finish p0 p1 M post) : Met l yXm_finish (wsA yXm_finish cXm_finish 4 none) ({ frames := 3, cells := 0, slots := 0, locals := 63 }) (va_Pc [.ref (q 0), .int p0, .int p1] (pW (dC, dI) vwCl (wM q dA) (tM dA) sz M)) (va_Qv post (bW (dC, dI) vwCl (wM q dA) (tM dA) (va_A (wM q dA M) sz)) (va_A (wM q dA M) sz)) 0 0 (va_A (wM q dA M) sz) := by
  refine Met.ofW (cc := cXm_finish) (maxL := 4) (ret := none) (by decide) rfl ?_
  intro p e s m args below meth c s₁ B hml hv
  obtain ⟨rfl, hsz, hP, hK, hD0⟩ := hv
  have hx := B.exec
  have hb := B.bytes
  have hr := B.returns
  have hts := atoms_spec (ws := (wsA yXm_finish cXm_finish 4 none)) B.pre
  have hta : ∀ w ∈ wsG, w.before _ s = true := fun w h => hts w (List.mem_cons_of_mem _ h)
  have hown : s.vm.findClass "ServiceThreadsModel" = some m.cls := findClass_of_methodNamed B.named
  have hlocks := B.notSynchronized
  subst hsz
  have hD := hD0.self (sz := s.heap.size)
  generalize hAe : va_A (wM q dA M) s.heap.size = A at hD ⊢
  have hA : ∀ q : Nat, s.heap.size ≤ q → A q := fun q h => by rw [← hAe]; exact Or.inr h
  have hS : va_S A s.heap s.heap [] := va_S.rf
  dsimp only [wpXm_finish] at hw
  have hl := lv_entry ([.ref (q 0), .int p0, .int p1]) (n := 4) (Nat.le_of_ble_eq_true rfl)
  rw [lg_entry_eq]
  generalize (lg_sl ([.ref (q 0), .int p0, .int p1]) ++ List.replicate (4 - (lg_sl ([.ref (q 0), .int p0, .int p1])).length) Slot.unset).toArray = ls at hl ⊢
  have hl : lv_has ls 4 [(0, .ref (q 0)), (1, .int p0), (2, .int p1)] := hl
  refine lv_iload_n hx hb dXm_finish_0 rfl (lv_at hl 1 rfl) ?_
  refine cn_i (w := (wM q dA)) (M := M) (wM_ad q dA) (va_runS (As := [.int p0]) (rest := []) ⟨hx, hb, hml, hown, hta⟩ (mtXm_isThread l dC dI q dA s.heap.size p0 M _ hw) (va_cwS 1 hta (giS wt_654 wt_655 wt_7 wt_656) rfl rfl rfl (by decide +kernel) ⟨Nat.le_of_ble_eq_true rfl, Nat.le_of_ble_eq_true rfl⟩) ⟨pW_blind, pW_of hK hP hD⟩ rfl rfl hl.1 rfl (lv_room (Nat.le_of_ble_eq_true rfl)) dXm_finish_1 ⟨Nat.le_of_ble_eq_true rfl, Nat.le_of_ble_eq_true rfl⟩) hD hS hA (fun r_1 M_2 H locs hw hP hD hS => ?_)
  refine lv_if_ne (tgt := 11) hx hb dXm_finish_4 (by decide) (fun c_3 => ?_) (fun c_3 => ?_)
  · have hw := hw.2 c_3
    refine lv_iconst (v := 0) hx hb dXm_finish_11 (by decide) ?_
    refine lv_istore_n (lv' := [(3, .int 0), (0, .ref (q 0)), (1, .int p0), (2, .int p1)]) hx hb dXm_finish_12 rfl hl (by decide) rfl (fun ls hl => ?_)
    refine lv_aload_n hx hb dXm_finish_13 rfl (lv_at hl 1 rfl) ?_
    refine lv_iload_n hx hb dXm_finish_14 rfl (lv_at hl 0 rfl) ?_
    refine lv_iload_n hx hb dXm_finish_15 rfl (lv_at hl 0 rfl) ?_
    refine lv_if_ne (tgt := 45) hx hb dXm_finish_16 (by decide) (fun c_4 => absurd c_4 (by decide)) (fun c_4 => ?_)
    · skip
      refine lv_iload_n hx hb dXm_finish_19 rfl (lv_at hl 3 rfl) ?_
      refine lv_iconst (v := 0) hx hb dXm_finish_20 (by decide) ?_
      refine lv_aload_n hx hb dXm_finish_21 rfl (lv_at hl 1 rfl) ?_
      refine va_get (D := (dC, dI)) (ci := 5) (v := .ref (q 3)) (C := "ServiceThreadsModel") (T := TXm) (N := 28) hx hb hta inXm hown hK hP 0 (wM_0 q dA M_2) rfl 5 (by decide) (hta _ wt_570) (fun _ h9 => h9) rfl dXm_finish_22 ?_
      refine lv_iload_n hx hb dXm_finish_25 rfl (lv_at hl 0 rfl) ?_
      refine lv_if_eq (tgt := 33) hx hb dXm_finish_26 (by decide) (fun c_5 => ?_) (fun c_5 => absurd c_5 (by decide))
      · skip
        refine lv_iload_n hx hb dXm_finish_33 rfl (lv_at hl 2 rfl) ?_
        obtain ⟨h_6, hw⟩ := hw
        refine ro_i (w := (wM q dA)) (M := M_2) hx hb hK hP 3 2 (wM_3 q dA M_2) rfl h_6 dXm_finish_34 (fun y_7 ey_7 => ?_)
        have hw := hw y_7 ey_7
        refine cn_i (w := (wM q dA)) (M := M_2) (wM_ad q dA) (va_runS (As := [.int p1, .int 0, .int y_7]) (rest := [.int 0, .ref (q 0)]) ⟨hx, hb, hml, hown, hta⟩ (mtXm_in l dC dI q dA H.size p1 0 y_7 M_2 _ hw) (va_cwS 3 hta (giS wt_657 wt_658 wt_7 wt_659) rfl rfl rfl (by decide +kernel) ⟨Nat.le_of_ble_eq_true rfl, Nat.le_of_ble_eq_true rfl⟩) ⟨pW_blind, pW_of hK hP hD⟩ rfl rfl hl.1 rfl (lv_room (Nat.le_of_ble_eq_true rfl)) dXm_finish_35 ⟨Nat.le_of_ble_eq_true rfl, Nat.le_of_ble_eq_true rfl⟩) hD hS hA (fun r_8 M_9 H locs hw hP hD hS => ?_)
        refine lv_if_ne (tgt := 45) hx hb dXm_finish_38 (by decide) (fun c_10 => ?_) (fun c_10 => ?_)
        · have hw := hw.2 c_10
          refine lv_iconst (v := 0) hx hb dXm_finish_45 (by decide) ?_
          refine lv_aload_n hx hb dXm_finish_46 rfl (lv_at hl 1 rfl) ?_
          refine lv_iload_n hx hb dXm_finish_47 rfl (lv_at hl 2 rfl) ?_
          refine cn_i (w := (wM q dA)) (M := M_9) (wM_ad q dA) (va_runV (As := [.int p0]) (rest := [.int 0, .int 0, .ref (q 0)]) ⟨hx, hb, hml, hown, hta⟩ (mtXm_hasBegun l dC dI q dA H.size p0 M_9 _ hw) (cwV 1 hta (giV wt_660 wt_662 ws_18 wt_7 wt_663) rfl rfl rfl (by decide +kernel) ⟨Nat.le_of_ble_eq_true rfl, Nat.le_of_ble_eq_true rfl⟩) ⟨pW_blind, va_recv hK hP (ci := 5) (q0 := 0) rfl (wM_0 q dA M_9), pW_of hK hP hD⟩ rfl rfl hl.1 rfl (lv_room (Nat.le_of_ble_eq_true rfl)) dXm_finish_48 ⟨Nat.le_of_ble_eq_true rfl, Nat.le_of_ble_eq_true rfl⟩) hD hS hA (fun r_11 M_12 H locs hw hP hD hS => ?_)
          refine lv_iconst (v := 0) hx hb dXm_finish_51 (by decide) ?_
          refine cn_i (w := (wM q dA)) (M := M_12) (wM_ad q dA) (va_runV (As := [.int 0, .int 0, .int r_11, .int 0]) (rest := []) ⟨hx, hb, hml, hown, hta⟩ (mtXm_throwing l dC dI q dA H.size 0 0 r_11 0 M_12 _ hw) (cwV 4 hta (giV wt_664 wt_666 ws_19 wt_7 wt_667) rfl rfl rfl (by decide +kernel) ⟨Nat.le_of_ble_eq_true rfl, Nat.le_of_ble_eq_true rfl⟩) ⟨pW_blind, va_recv hK hP (ci := 5) (q0 := 0) rfl (wM_0 q dA M_12), pW_of hK hP hD⟩ rfl rfl hl.1 rfl (lv_room (Nat.le_of_ble_eq_true rfl)) dXm_finish_52 ⟨Nat.le_of_ble_eq_true rfl, Nat.le_of_ble_eq_true rfl⟩) hD hS hA (fun r_13 M_14 H locs hw hP hD hS => ?_)
          refine lv_if_eq (tgt := 59) hx hb dXm_finish_55 (by decide) (fun c_15 => ?_) (fun c_15 => ?_)
          · have hw := hw.1 c_15
            refine lv_aload_n hx hb dXm_finish_59 rfl (lv_at hl 1 rfl) ?_
            refine va_get (D := (dC, dI)) (ci := 5) (v := .ref (q 4)) (C := "ServiceThreadsModel") (T := TXm) (N := 28) hx hb hta inXm hown hK hP 0 (wM_0 q dA M_14) rfl 6 (by decide) (hta _ wt_571) (fun _ h9 => h9) rfl dXm_finish_60 ?_
            refine lv_iload_n hx hb dXm_finish_63 rfl (lv_at hl 2 rfl) ?_
            refine lv_iload_n hx hb dXm_finish_64 rfl (lv_at hl 3 rfl) ?_
            refine lv_aload_n hx hb dXm_finish_65 rfl (lv_at hl 1 rfl) ?_
            refine va_get (D := (dC, dI)) (ci := 5) (v := .ref (q 3)) (C := "ServiceThreadsModel") (T := TXm) (N := 28) hx hb hta inXm hown hK hP 0 (wM_0 q dA M_14) rfl 5 (by decide) (hta _ wt_570) (fun _ h9 => h9) rfl dXm_finish_66 ?_
            refine lv_iload_n hx hb dXm_finish_69 rfl (lv_at hl 2 rfl) ?_
            obtain ⟨h_16, hw⟩ := hw
            refine ro_i (w := (wM q dA)) (M := M_14) hx hb hK hP 3 2 (wM_3 q dA M_14) rfl h_16 dXm_finish_70 (fun y_17 ey_17 => ?_)
            have hw := hw y_17 ey_17
            refine lv_icmp_ne (tgt := 79) hx hb dXm_finish_71 (by decide) (fun c_18 => ?_) (fun c_18 => ?_)
            · have hw := hw.2 c_18
              refine lv_iload_n hx hb dXm_finish_79 rfl (lv_at hl 3 rfl) ?_
              obtain ⟨h_19, hw⟩ := hw
              refine wo_i (w := (wM q dA)) (M := M_14) hx hb hK hP hD hS 4 3 (wM_4 q dA M_14) (wM_s4 q dA M_14) rfl h_19 dXm_finish_80 (fun M_20 H locs eM_20 hP hD hS => ?_)
              have hw := hw M_20 eM_20
              exact W.vret hx hb hr (fun t ht hW => ⟨⟨M_20, rfl, hw, by rw [ht]; exact hP, va_K.moved hW.alike hK, hD⟩, hS.F ht⟩) hS.2.2 dXm_finish_81 hlocks
            · have hw := hw.1 c_18
              refine lv_bipush (v := 16) hx hb dXm_finish_74 (by decide) ?_
              refine lv_goto (tgt := 80) hx hb dXm_finish_76 (by decide) ?_
              obtain ⟨h_21, hw⟩ := hw
              refine wo_i (w := (wM q dA)) (M := M_14) hx hb hK hP hD hS 4 3 (wM_4 q dA M_14) (wM_s4 q dA M_14) rfl h_21 dXm_finish_80 (fun M_22 H locs eM_22 hP hD hS => ?_)
              have hw := hw M_22 eM_22
              exact W.vret hx hb hr (fun t ht hW => ⟨⟨M_22, rfl, hw, by rw [ht]; exact hP, va_K.moved hW.alike hK, hD⟩, hS.F ht⟩) hS.2.2 dXm_finish_81 hlocks
          · have hw := hw.2 c_15
            exact W.vret hx hb hr (fun t ht hW => ⟨⟨M_14, rfl, hw, by rw [ht]; exact hP, va_K.moved hW.alike hK, hD⟩, hS.F ht⟩) hS.2.2 dXm_finish_58 hlocks
        · have hw := hw.1 c_10
          refine lv_iconst (v := 1) hx hb dXm_finish_41 (by decide) ?_
          refine lv_goto (tgt := 46) hx hb dXm_finish_42 (by decide) ?_
          refine lv_aload_n hx hb dXm_finish_46 rfl (lv_at hl 1 rfl) ?_
          refine lv_iload_n hx hb dXm_finish_47 rfl (lv_at hl 2 rfl) ?_
          refine cn_i (w := (wM q dA)) (M := M_9) (wM_ad q dA) (va_runV (As := [.int p0]) (rest := [.int 1, .int 0, .ref (q 0)]) ⟨hx, hb, hml, hown, hta⟩ (mtXm_hasBegun l dC dI q dA H.size p0 M_9 _ hw) (cwV 1 hta (giV wt_660 wt_662 ws_18 wt_7 wt_663) rfl rfl rfl (by decide +kernel) ⟨Nat.le_of_ble_eq_true rfl, Nat.le_of_ble_eq_true rfl⟩) ⟨pW_blind, va_recv hK hP (ci := 5) (q0 := 0) rfl (wM_0 q dA M_9), pW_of hK hP hD⟩ rfl rfl hl.1 rfl (lv_room (Nat.le_of_ble_eq_true rfl)) dXm_finish_48 ⟨Nat.le_of_ble_eq_true rfl, Nat.le_of_ble_eq_true rfl⟩) hD hS hA (fun r_23 M_24 H locs hw hP hD hS => ?_)
          refine lv_iconst (v := 0) hx hb dXm_finish_51 (by decide) ?_
          refine cn_i (w := (wM q dA)) (M := M_24) (wM_ad q dA) (va_runV (As := [.int 0, .int 1, .int r_23, .int 0]) (rest := []) ⟨hx, hb, hml, hown, hta⟩ (mtXm_throwing l dC dI q dA H.size 0 1 r_23 0 M_24 _ hw) (cwV 4 hta (giV wt_664 wt_666 ws_19 wt_7 wt_667) rfl rfl rfl (by decide +kernel) ⟨Nat.le_of_ble_eq_true rfl, Nat.le_of_ble_eq_true rfl⟩) ⟨pW_blind, va_recv hK hP (ci := 5) (q0 := 0) rfl (wM_0 q dA M_24), pW_of hK hP hD⟩ rfl rfl hl.1 rfl (lv_room (Nat.le_of_ble_eq_true rfl)) dXm_finish_52 ⟨Nat.le_of_ble_eq_true rfl, Nat.le_of_ble_eq_true rfl⟩) hD hS hA (fun r_25 M_26 H locs hw hP hD hS => ?_)
          refine lv_if_eq (tgt := 59) hx hb dXm_finish_55 (by decide) (fun c_27 => ?_) (fun c_27 => ?_)
          · have hw := hw.1 c_27
            refine lv_aload_n hx hb dXm_finish_59 rfl (lv_at hl 1 rfl) ?_
            refine va_get (D := (dC, dI)) (ci := 5) (v := .ref (q 4)) (C := "ServiceThreadsModel") (T := TXm) (N := 28) hx hb hta inXm hown hK hP 0 (wM_0 q dA M_26) rfl 6 (by decide) (hta _ wt_571) (fun _ h9 => h9) rfl dXm_finish_60 ?_
            refine lv_iload_n hx hb dXm_finish_63 rfl (lv_at hl 2 rfl) ?_
            refine lv_iload_n hx hb dXm_finish_64 rfl (lv_at hl 3 rfl) ?_
            refine lv_aload_n hx hb dXm_finish_65 rfl (lv_at hl 1 rfl) ?_
            refine va_get (D := (dC, dI)) (ci := 5) (v := .ref (q 3)) (C := "ServiceThreadsModel") (T := TXm) (N := 28) hx hb hta inXm hown hK hP 0 (wM_0 q dA M_26) rfl 5 (by decide) (hta _ wt_570) (fun _ h9 => h9) rfl dXm_finish_66 ?_
            refine lv_iload_n hx hb dXm_finish_69 rfl (lv_at hl 2 rfl) ?_
            obtain ⟨h_28, hw⟩ := hw
            refine ro_i (w := (wM q dA)) (M := M_26) hx hb hK hP 3 2 (wM_3 q dA M_26) rfl h_28 dXm_finish_70 (fun y_29 ey_29 => ?_)
            have hw := hw y_29 ey_29
            refine lv_icmp_ne (tgt := 79) hx hb dXm_finish_71 (by decide) (fun c_30 => ?_) (fun c_30 => ?_)
            · have hw := hw.2 c_30
              refine lv_iload_n hx hb dXm_finish_79 rfl (lv_at hl 3 rfl) ?_
              obtain ⟨h_31, hw⟩ := hw
              refine wo_i (w := (wM q dA)) (M := M_26) hx hb hK hP hD hS 4 3 (wM_4 q dA M_26) (wM_s4 q dA M_26) rfl h_31 dXm_finish_80 (fun M_32 H locs eM_32 hP hD hS => ?_)
              have hw := hw M_32 eM_32
              exact W.vret hx hb hr (fun t ht hW => ⟨⟨M_32, rfl, hw, by rw [ht]; exact hP, va_K.moved hW.alike hK, hD⟩, hS.F ht⟩) hS.2.2 dXm_finish_81 hlocks
            · have hw := hw.1 c_30
              refine lv_bipush (v := 16) hx hb dXm_finish_74 (by decide) ?_
              refine lv_goto (tgt := 80) hx hb dXm_finish_76 (by decide) ?_
              obtain ⟨h_33, hw⟩ := hw
              refine wo_i (w := (wM q dA)) (M := M_26) hx hb hK hP hD hS 4 3 (wM_4 q dA M_26) (wM_s4 q dA M_26) rfl h_33 dXm_finish_80 (fun M_34 H locs eM_34 hP hD hS => ?_)
              have hw := hw M_34 eM_34
              exact W.vret hx hb hr (fun t ht hW => ⟨⟨M_34, rfl, hw, by rw [ht]; exact hP, va_K.moved hW.alike hK, hD⟩, hS.F ht⟩) hS.2.2 dXm_finish_81 hlocks
          · have hw := hw.2 c_27
            exact W.vret hx hb hr (fun t ht hW => ⟨⟨M_26, rfl, hw, by rw [ht]; exact hP, va_K.moved hW.alike hK, hD⟩, hS.F ht⟩) hS.2.2 dXm_finish_58 hlocks
  · have hw := hw.1 c_3
    refine lv_iconst (v := 1) hx hb dXm_finish_7 (by decide) ?_
    refine lv_goto (tgt := 12) hx hb dXm_finish_8 (by decide) ?_
    refine lv_istore_n (lv' := [(3, .int 1), (0, .ref (q 0)), (1, .int p0), (2, .int p1)]) hx hb dXm_finish_12 rfl hl (by decide) rfl (fun ls hl => ?_)
    refine lv_aload_n hx hb dXm_finish_13 rfl (lv_at hl 1 rfl) ?_
    refine lv_iload_n hx hb dXm_finish_14 rfl (lv_at hl 0 rfl) ?_
    refine lv_iload_n hx hb dXm_finish_15 rfl (lv_at hl 0 rfl) ?_
    refine lv_if_ne (tgt := 45) hx hb dXm_finish_16 (by decide) (fun c_35 => ?_) (fun c_35 => absurd c_35 (by decide))
    · skip
      refine lv_iconst (v := 0) hx hb dXm_finish_45 (by decide) ?_
      refine lv_aload_n hx hb dXm_finish_46 rfl (lv_at hl 1 rfl) ?_
      refine lv_iload_n hx hb dXm_finish_47 rfl (lv_at hl 2 rfl) ?_
      refine cn_i (w := (wM q dA)) (M := M_2) (wM_ad q dA) (va_runV (As := [.int p0]) (rest := [.int 0, .int 1, .ref (q 0)]) ⟨hx, hb, hml, hown, hta⟩ (mtXm_hasBegun l dC dI q dA H.size p0 M_2 _ hw) (cwV 1 hta (giV wt_660 wt_662 ws_18 wt_7 wt_663) rfl rfl rfl (by decide +kernel) ⟨Nat.le_of_ble_eq_true rfl, Nat.le_of_ble_eq_true rfl⟩) ⟨pW_blind, va_recv hK hP (ci := 5) (q0 := 0) rfl (wM_0 q dA M_2), pW_of hK hP hD⟩ rfl rfl hl.1 rfl (lv_room (Nat.le_of_ble_eq_true rfl)) dXm_finish_48 ⟨Nat.le_of_ble_eq_true rfl, Nat.le_of_ble_eq_true rfl⟩) hD hS hA (fun r_36 M_37 H locs hw hP hD hS => ?_)
      refine lv_iconst (v := 0) hx hb dXm_finish_51 (by decide) ?_
      refine cn_i (w := (wM q dA)) (M := M_37) (wM_ad q dA) (va_runV (As := [.int 1, .int 0, .int r_36, .int 0]) (rest := []) ⟨hx, hb, hml, hown, hta⟩ (mtXm_throwing l dC dI q dA H.size 1 0 r_36 0 M_37 _ hw) (cwV 4 hta (giV wt_664 wt_666 ws_19 wt_7 wt_667) rfl rfl rfl (by decide +kernel) ⟨Nat.le_of_ble_eq_true rfl, Nat.le_of_ble_eq_true rfl⟩) ⟨pW_blind, va_recv hK hP (ci := 5) (q0 := 0) rfl (wM_0 q dA M_37), pW_of hK hP hD⟩ rfl rfl hl.1 rfl (lv_room (Nat.le_of_ble_eq_true rfl)) dXm_finish_52 ⟨Nat.le_of_ble_eq_true rfl, Nat.le_of_ble_eq_true rfl⟩) hD hS hA (fun r_38 M_39 H locs hw hP hD hS => ?_)
      refine lv_if_eq (tgt := 59) hx hb dXm_finish_55 (by decide) (fun c_40 => ?_) (fun c_40 => ?_)
      · have hw := hw.1 c_40
        refine lv_aload_n hx hb dXm_finish_59 rfl (lv_at hl 1 rfl) ?_
        refine va_get (D := (dC, dI)) (ci := 5) (v := .ref (q 4)) (C := "ServiceThreadsModel") (T := TXm) (N := 28) hx hb hta inXm hown hK hP 0 (wM_0 q dA M_39) rfl 6 (by decide) (hta _ wt_571) (fun _ h9 => h9) rfl dXm_finish_60 ?_
        refine lv_iload_n hx hb dXm_finish_63 rfl (lv_at hl 2 rfl) ?_
        refine lv_iload_n hx hb dXm_finish_64 rfl (lv_at hl 3 rfl) ?_
        refine lv_aload_n hx hb dXm_finish_65 rfl (lv_at hl 1 rfl) ?_
        refine va_get (D := (dC, dI)) (ci := 5) (v := .ref (q 3)) (C := "ServiceThreadsModel") (T := TXm) (N := 28) hx hb hta inXm hown hK hP 0 (wM_0 q dA M_39) rfl 5 (by decide) (hta _ wt_570) (fun _ h9 => h9) rfl dXm_finish_66 ?_
        refine lv_iload_n hx hb dXm_finish_69 rfl (lv_at hl 2 rfl) ?_
        obtain ⟨h_41, hw⟩ := hw
        refine ro_i (w := (wM q dA)) (M := M_39) hx hb hK hP 3 2 (wM_3 q dA M_39) rfl h_41 dXm_finish_70 (fun y_42 ey_42 => ?_)
        have hw := hw y_42 ey_42
        refine lv_icmp_ne (tgt := 79) hx hb dXm_finish_71 (by decide) (fun c_43 => ?_) (fun c_43 => ?_)
        · have hw := hw.2 c_43
          refine lv_iload_n hx hb dXm_finish_79 rfl (lv_at hl 3 rfl) ?_
          obtain ⟨h_44, hw⟩ := hw
          refine wo_i (w := (wM q dA)) (M := M_39) hx hb hK hP hD hS 4 3 (wM_4 q dA M_39) (wM_s4 q dA M_39) rfl h_44 dXm_finish_80 (fun M_45 H locs eM_45 hP hD hS => ?_)
          have hw := hw M_45 eM_45
          exact W.vret hx hb hr (fun t ht hW => ⟨⟨M_45, rfl, hw, by rw [ht]; exact hP, va_K.moved hW.alike hK, hD⟩, hS.F ht⟩) hS.2.2 dXm_finish_81 hlocks
        · have hw := hw.1 c_43
          refine lv_bipush (v := 16) hx hb dXm_finish_74 (by decide) ?_
          refine lv_goto (tgt := 80) hx hb dXm_finish_76 (by decide) ?_
          obtain ⟨h_46, hw⟩ := hw
          refine wo_i (w := (wM q dA)) (M := M_39) hx hb hK hP hD hS 4 3 (wM_4 q dA M_39) (wM_s4 q dA M_39) rfl h_46 dXm_finish_80 (fun M_47 H locs eM_47 hP hD hS => ?_)
          have hw := hw M_47 eM_47
          exact W.vret hx hb hr (fun t ht hW => ⟨⟨M_47, rfl, hw, by rw [ht]; exact hP, va_K.moved hW.alike hK, hD⟩, hS.F ht⟩) hS.2.2 dXm_finish_81 hlocks
      · have hw := hw.2 c_40
        exact W.vret hx hb hr (fun t ht hW => ⟨⟨M_39, rfl, hw, by rw [ht]; exact hP, va_K.moved hW.alike hK, hD⟩, hS.F ht⟩) hS.2.2 dXm_finish_58 hlocks
def wlXm_call_102 (post : Int32 → Mm → Prop) (K91 : Int32 → Int32 → Mm → Prop) : Nat → Int32 → Int32 → Int32 → Int32 → Mm → Prop
  | 0, _, _, _, _ => fun _ => False
  | n102 + 1, x1, x2, x3, x4 => fun M => ∀ y_27 : Int32, y_27 = M 22 0 → (∀ y_28 : Int32, y_28 = y_27 - 1 → (((y_28 ≤ x4 → (vp_in x2 8 ∧ (∀ y_31 : Int32, y_31 = M 14 x2.toNatClampNeg → (((y_31 = 0 → (vp_in x2 8 ∧ (∀ y_35 : Int32, y_35 = M 27 x2.toNatClampNeg → (((y_35 = 0 → (∀ x2_37 : Int32, x2_37 = x2 + 1 → (K91 x1 x2_37 M))) ∧ (¬ y_35 = 0 → (((x3 = 0 → (∀ x2_39 : Int32, x2_39 = x2 + 1 → (K91 x1 x2_39 M))) ∧ (¬ x3 = 0 → (vp_in x2 8 ∧ (∀ M_41 : Mm, M_41 = stM M 20 (upd (M 20) x2.toNatClampNeg 1) → (∀ x2_42 : Int32, x2_42 = x2 + 1 → (K91 x1 x2_42 M_41))))))))))))) ∧ (¬ y_31 = 0 → (∀ x2_33 : Int32, x2_33 = x2 + 1 → (K91 x1 x2_33 M)))))))) ∧ (¬ y_28 ≤ x4 → (((x3 = 0 → (∀ x4_44 : Int32, x4_44 = x4 + 1 → (wlXm_call_102 post K91 n102 x1 x2 0 x4_44 M))) ∧ (¬ x3 = 0 → (vp_in x4 16 ∧ (∀ y_46 : Int32, y_46 = M 9 x4.toNatClampNeg → (((y_46 = 0 → (∀ x4_48 : Int32, x4_48 = x4 + 1 → (wlXm_call_102 post K91 n102 x1 x2 1 x4_48 M))) ∧ (¬ y_46 = 0 → (vp_in x4 16 ∧ (∀ y_50 : Int32, y_50 = M 7 x4.toNatClampNeg → (((y_50 = x2 → (vp_in x4 16 ∧ (∀ y_54 : Int32, y_54 = M 6 x4.toNatClampNeg → (((x1 ≤ y_54 → (∀ x4_56 : Int32, x4_56 = x4 + 1 → (wlXm_call_102 post K91 n102 x1 x2 0 x4_56 M))) ∧ (¬ x1 ≤ y_54 → (∀ x4_57 : Int32, x4_57 = x4 + 1 → (wlXm_call_102 post K91 n102 x1 x2 1 x4_57 M)))))))) ∧ (¬ y_50 = x2 → (∀ x4_52 : Int32, x4_52 = x4 + 1 → (wlXm_call_102 post K91 n102 x1 x2 1 x4_52 M)))))))))))))))))))
def wlXm_call_91 (post : Int32 → Mm → Prop) : Nat → Int32 → Int32 → Mm → Prop
  | 0, _, _ => fun _ => False
  | n91 + 1, x1, x2 => fun M => ((8 ≤ x2 → (∀ y_25 : Int32, y_25 = M 22 0 → (∀ y_26 : Int32, y_26 = y_25 - 1 → (post y_26 M)))) ∧ (¬ 8 ≤ x2 → (∃ n102 : Nat, wlXm_call_102 post (wlXm_call_91 post n91) n102 x1 x2 1 0 M)))
def wpXm_call (p0 : Int32) (M : Mm) (post : Int32 → Mm → Prop) : Prop := wpXm_in p0 0 3 M (fun r_1 M_2 => (((r_1 = 0 → (∀ y_76 : Int32, y_76 = M_2 22 0 → (((y_76 = 16 → (wpXm_throwing 1 1 0 0 M_2 (fun r_96 M_97 => (((r_96 = 0 → (∀ y_99 : Int32, y_99 = M_97 22 0 → (vp_in y_99 16 ∧ (∀ M_101 : Mm, M_101 = stM M_97 6 (upd (M_97 6) y_99.toNatClampNeg p0) → (∀ y_102 : Int32, y_102 = M_101 22 0 → (vp_in y_102 16 ∧ (∀ M_104 : Mm, M_104 = stM M_101 7 (upd (M_101 7) y_102.toNatClampNeg (-1)) → (∀ y_105 : Int32, y_105 = M_104 22 0 → (vp_in y_105 16 ∧ (∀ M_107 : Mm, M_107 = stM M_104 8 (upd (M_104 8) y_105.toNatClampNeg (-1)) → (∀ y_108 : Int32, y_108 = M_107 22 0 → (vp_in y_108 16 ∧ (∀ M_110 : Mm, M_110 = stM M_107 9 (upd (M_107 9) y_108.toNatClampNeg 1) → (∀ y_111 : Int32, y_111 = M_110 22 0 → (∀ y_112 : Int32, y_112 = y_111 + 1 → (∀ M_113 : Mm, M_113 = stM M_110 22 (fun _ => y_112) → (∃ n91 : Nat, wlXm_call_91 post n91 p0 0 M_113))))))))))))))))) ∧ (¬ r_96 = 0 → (post 0 M_97))))))) ∧ (¬ y_76 = 16 → (wpXm_throwing 1 0 0 0 M_2 (fun r_78 M_79 => (((r_78 = 0 → (∀ y_81 : Int32, y_81 = M_79 22 0 → (vp_in y_81 16 ∧ (∀ M_83 : Mm, M_83 = stM M_79 6 (upd (M_79 6) y_81.toNatClampNeg p0) → (∀ y_84 : Int32, y_84 = M_83 22 0 → (vp_in y_84 16 ∧ (∀ M_86 : Mm, M_86 = stM M_83 7 (upd (M_83 7) y_84.toNatClampNeg (-1)) → (∀ y_87 : Int32, y_87 = M_86 22 0 → (vp_in y_87 16 ∧ (∀ M_89 : Mm, M_89 = stM M_86 8 (upd (M_86 8) y_87.toNatClampNeg (-1)) → (∀ y_90 : Int32, y_90 = M_89 22 0 → (vp_in y_90 16 ∧ (∀ M_92 : Mm, M_92 = stM M_89 9 (upd (M_89 9) y_90.toNatClampNeg 1) → (∀ y_93 : Int32, y_93 = M_92 22 0 → (∀ y_94 : Int32, y_94 = y_93 + 1 → (∀ M_95 : Mm, M_95 = stM M_92 22 (fun _ => y_94) → (∃ n91 : Nat, wlXm_call_91 post n91 p0 0 M_95))))))))))))))))) ∧ (¬ r_78 = 0 → (post 0 M_79))))))))))) ∧ (¬ r_1 = 0 → (∀ y_4 : Int32, y_4 = M_2 22 0 → (((y_4 = 16 → (wpXm_throwing 0 1 0 0 M_2 (fun r_58 M_59 => (((r_58 = 0 → (∀ y_61 : Int32, y_61 = M_59 22 0 → (vp_in y_61 16 ∧ (∀ M_63 : Mm, M_63 = stM M_59 6 (upd (M_59 6) y_61.toNatClampNeg p0) → (∀ y_64 : Int32, y_64 = M_63 22 0 → (vp_in y_64 16 ∧ (∀ M_66 : Mm, M_66 = stM M_63 7 (upd (M_63 7) y_64.toNatClampNeg (-1)) → (∀ y_67 : Int32, y_67 = M_66 22 0 → (vp_in y_67 16 ∧ (∀ M_69 : Mm, M_69 = stM M_66 8 (upd (M_66 8) y_67.toNatClampNeg (-1)) → (∀ y_70 : Int32, y_70 = M_69 22 0 → (vp_in y_70 16 ∧ (∀ M_72 : Mm, M_72 = stM M_69 9 (upd (M_69 9) y_70.toNatClampNeg 1) → (∀ y_73 : Int32, y_73 = M_72 22 0 → (∀ y_74 : Int32, y_74 = y_73 + 1 → (∀ M_75 : Mm, M_75 = stM M_72 22 (fun _ => y_74) → (∃ n91 : Nat, wlXm_call_91 post n91 p0 0 M_75))))))))))))))))) ∧ (¬ r_58 = 0 → (post 0 M_59))))))) ∧ (¬ y_4 = 16 → (wpXm_throwing 0 0 0 0 M_2 (fun r_6 M_7 => (((r_6 = 0 → (∀ y_9 : Int32, y_9 = M_7 22 0 → (vp_in y_9 16 ∧ (∀ M_11 : Mm, M_11 = stM M_7 6 (upd (M_7 6) y_9.toNatClampNeg p0) → (∀ y_12 : Int32, y_12 = M_11 22 0 → (vp_in y_12 16 ∧ (∀ M_14 : Mm, M_14 = stM M_11 7 (upd (M_11 7) y_12.toNatClampNeg (-1)) → (∀ y_15 : Int32, y_15 = M_14 22 0 → (vp_in y_15 16 ∧ (∀ M_17 : Mm, M_17 = stM M_14 8 (upd (M_14 8) y_15.toNatClampNeg (-1)) → (∀ y_18 : Int32, y_18 = M_17 22 0 → (vp_in y_18 16 ∧ (∀ M_20 : Mm, M_20 = stM M_17 9 (upd (M_17 9) y_18.toNatClampNeg 1) → (∀ y_21 : Int32, y_21 = M_20 22 0 → (∀ y_22 : Int32, y_22 = y_21 + 1 → (∀ M_23 : Mm, M_23 = stM M_20 22 (fun _ => y_22) → (∃ n91 : Nat, wlXm_call_91 post n91 p0 0 M_23))))))))))))))))) ∧ (¬ r_6 = 0 → (post 0 M_7))))))))))))))
set_option maxHeartbeats 4000000 in
set_option maxRecDepth 100000 in
theorem LwlXm_call_102 {p : Program} {l : Launch} {e : Env} {s : State} {m : MethodId} {below : List Frame} {meth : Method} {c : Code} {dC : Nat → ClassId} {dI : Nat → Nat → Nat} {q : Nat → Nat} {dA : Nat → ClassId} {A : Nat → Prop} {av : List Value} {post : Int32 → Mm → Prop} {K91 : Int32 → Int32 → Mm → Prop} (CX : p.tables.exec = Jvm.exec ∧ c.code = cXm_call ∧ meth.sig.returnType = (some .int) ∧ c.maxLocals = 5 ∧ s.vm.findClass "ServiceThreadsModel" = some m.cls ∧ (∀ w ∈ wsG, w.before av.toArray s = true) ∧ (∀ q : Nat, s.heap.size ≤ q → A q) ∧ va_K (dC, dI) vwCl (tM dA) s ∧ meth.locks = false) (hk91 : ∀ (x1 : Int32) (x2 : Int32) (M : Mm) (H : Heap) (locs : List Loc) (ls : Array Slot), K91 x1 x2 M → va_P (dC, dI) vwCl (wM q dA M) H → va_D A (wM q dA M) → va_S A s.heap H locs → lv_has ls 5 [(0, .ref (q 0)), (1, .int x1), (2, .int x2)] → W p l e (headSpec (wsA yXm_call cXm_call 5 (some .int)) ({ frames := 1, cells := 0, slots := 0, locals := 24 })).room s m av.toArray below meth c H locs 0 0 (MQ below (va_Qi post (bW (dC, dI) vwCl (wM q dA) (tM dA) A) A) av.toArray s 0 0 A) (F0 m 91 ls [])) : ∀ (n102 : Nat) (x1 : Int32) (x2 : Int32) (x3 : Int32) (x4 : Int32) (M : Mm) (H : Heap) (locs : List Loc) (ls : Array Slot), wlXm_call_102 post K91 n102 x1 x2 x3 x4 M → va_P (dC, dI) vwCl (wM q dA M) H → va_D A (wM q dA M) → va_S A s.heap H locs → lv_has ls 5 [(0, .ref (q 0)), (1, .int x1), (2, .int x2), (3, .int x3), (4, .int x4)] → W p l e (headSpec (wsA yXm_call cXm_call 5 (some .int)) ({ frames := 1, cells := 0, slots := 0, locals := 24 })).room s m av.toArray below meth c H locs 0 0 (MQ below (va_Qi post (bW (dC, dI) vwCl (wM q dA) (tM dA) A) A) av.toArray s 0 0 A) (F0 m 102 ls []) := by
  obtain ⟨hx, hb, hr, hml, hown, hta, hA, hK, hlocks⟩ := CX
  intro n102
  induction n102 with
  | zero =>
    intro x1 x2 x3 x4 M H locs ls hw
    exact False.elim hw
  | succ n102 ih102 =>
    intro x1 x2 x3 x4 M H locs ls hw hP hD hS hl
    dsimp only [wlXm_call_102] at hw
    refine lv_iload hx hb dXm_call_102 (lv_at hl 4 rfl) ?_
    refine lv_aload_n hx hb dXm_call_104 rfl (lv_at hl 0 rfl) ?_
    refine va_get (D := (dC, dI)) (ci := 5) (v := .int (M 22 0)) (C := "ServiceThreadsModel") (T := TXm) (N := 28) hx hb hta inXm hown hK hP 0 (wM_0 q dA M) rfl 18 (by decide) (hta _ wt_583) (fun _ h9 => h9) rfl dXm_call_105 ?_
    refine lv_topi (fun y_27 ey_27 => ?_)
    have hw := hw y_27 ey_27
    refine lv_iconst (v := 1) hx hb dXm_call_108 (by decide) ?_
    refine lv_isub hx hb dXm_call_109 ?_
    refine lv_topi (fun y_28 ey_28 => ?_)
    have hw := hw y_28 ey_28
    refine lv_icmp_ge (tgt := 161) hx hb dXm_call_110 (by decide) (fun c_29 => ?_) (fun c_29 => ?_)
    · have hw := hw.1 c_29
      refine lv_aload_n hx hb dXm_call_161 rfl (lv_at hl 0 rfl) ?_
      refine va_get (D := (dC, dI)) (ci := 5) (v := .ref (q 5)) (C := "ServiceThreadsModel") (T := TXm) (N := 28) hx hb hta inXm hown hK hP 0 (wM_0 q dA M) rfl 7 (by decide) (hta _ wt_572) (fun _ h9 => h9) rfl dXm_call_162 ?_
      refine lv_iload_n hx hb dXm_call_165 rfl (lv_at hl 2 rfl) ?_
      obtain ⟨h_30, hw⟩ := hw
      refine ro_i (w := (wM q dA)) (M := M) hx hb hK hP 5 4 (wM_5 q dA M) rfl h_30 dXm_call_166 (fun y_31 ey_31 => ?_)
      have hw := hw y_31 ey_31
      refine lv_if_ne (tgt := 190) hx hb dXm_call_167 (by decide) (fun c_32 => ?_) (fun c_32 => ?_)
      · have hw := hw.2 c_32
        obtain ⟨x2_33, ex2_33⟩ : ∃ y : Int32, y = x2 + 1 := ⟨_, rfl⟩
        have hw := hw x2_33 ex2_33
        refine lv_iinc (v := x2_33) (lv' := [(2, .int x2_33), (0, .ref (q 0)), (1, .int x1), (3, .int x3), (4, .int x4)]) hx hb dXm_call_190 hl (k := 2) rfl (by rw [ex2_33]; rfl) (by decide) rfl (fun ls hl => ?_)
        refine lv_goto (tgt := 91) hx hb dXm_call_193 (by decide) ?_
        exact hk91 x1 x2_33 M _ _ _ hw hP hD hS (lv_sub hl [1, 2, 0] rfl)
      · have hw := hw.1 c_32
        refine lv_aload_n hx hb dXm_call_170 rfl (lv_at hl 0 rfl) ?_
        refine va_get (D := (dC, dI)) (ci := 5) (v := .ref (q 12)) (C := "ServiceThreadsModel") (T := TXm) (N := 28) hx hb hta inXm hown hK hP 0 (wM_0 q dA M) rfl 14 (by decide) (hta _ wt_579) (fun _ h9 => h9) rfl dXm_call_171 ?_
        refine lv_iload_n hx hb dXm_call_174 rfl (lv_at hl 2 rfl) ?_
        obtain ⟨h_34, hw⟩ := hw
        refine ro_z (w := (wM q dA)) (M := M) hx hb hK hP 12 11 (wM_12 q dA M) rfl h_34 dXm_call_175 (fun y_35 ey_35 => ?_)
        have hw := hw y_35 ey_35
        refine lv_if_eq (tgt := 190) hx hb dXm_call_176 (by decide) (fun c_36 => ?_) (fun c_36 => ?_)
        · have hw := hw.1 c_36
          obtain ⟨x2_37, ex2_37⟩ : ∃ y : Int32, y = x2 + 1 := ⟨_, rfl⟩
          have hw := hw x2_37 ex2_37
          refine lv_iinc (v := x2_37) (lv' := [(2, .int x2_37), (0, .ref (q 0)), (1, .int x1), (3, .int x3), (4, .int x4)]) hx hb dXm_call_190 hl (k := 2) rfl (by rw [ex2_37]; rfl) (by decide) rfl (fun ls hl => ?_)
          refine lv_goto (tgt := 91) hx hb dXm_call_193 (by decide) ?_
          exact hk91 x1 x2_37 M _ _ _ hw hP hD hS (lv_sub hl [1, 2, 0] rfl)
        · have hw := hw.2 c_36
          refine lv_iload_n hx hb dXm_call_179 rfl (lv_at hl 3 rfl) ?_
          refine lv_if_eq (tgt := 190) hx hb dXm_call_180 (by decide) (fun c_38 => ?_) (fun c_38 => ?_)
          · have hw := hw.1 c_38
            obtain ⟨x2_39, ex2_39⟩ : ∃ y : Int32, y = x2 + 1 := ⟨_, rfl⟩
            have hw := hw x2_39 ex2_39
            refine lv_iinc (v := x2_39) (lv' := [(2, .int x2_39), (0, .ref (q 0)), (1, .int x1), (3, .int x3), (4, .int x4)]) hx hb dXm_call_190 hl (k := 2) rfl (by rw [ex2_39]; rfl) (by decide) rfl (fun ls hl => ?_)
            refine lv_goto (tgt := 91) hx hb dXm_call_193 (by decide) ?_
            exact hk91 x1 x2_39 M _ _ _ hw hP hD hS (lv_sub hl [1, 2, 0] rfl)
          · have hw := hw.2 c_38
            refine lv_aload_n hx hb dXm_call_183 rfl (lv_at hl 0 rfl) ?_
            refine va_get (D := (dC, dI)) (ci := 5) (v := .ref (q 13)) (C := "ServiceThreadsModel") (T := TXm) (N := 28) hx hb hta inXm hown hK hP 0 (wM_0 q dA M) rfl 15 (by decide) (hta _ wt_580) (fun _ h9 => h9) rfl dXm_call_184 ?_
            refine lv_iload_n hx hb dXm_call_187 rfl (lv_at hl 2 rfl) ?_
            refine lv_iconst (v := 1) hx hb dXm_call_188 (by decide) ?_
            obtain ⟨h_40, hw⟩ := hw
            refine wo_z (w := (wM q dA)) (M := M) hx hb hK hP hD hS 13 12 (wM_13 q dA M) (wM_s13 q dA M) rfl (by decide) h_40 dXm_call_189 (fun M_41 H locs eM_41 hP hD hS => ?_)
            have hw := hw M_41 eM_41
            obtain ⟨x2_42, ex2_42⟩ : ∃ y : Int32, y = x2 + 1 := ⟨_, rfl⟩
            have hw := hw x2_42 ex2_42
            refine lv_iinc (v := x2_42) (lv' := [(2, .int x2_42), (0, .ref (q 0)), (1, .int x1), (3, .int x3), (4, .int x4)]) hx hb dXm_call_190 hl (k := 2) rfl (by rw [ex2_42]; rfl) (by decide) rfl (fun ls hl => ?_)
            refine lv_goto (tgt := 91) hx hb dXm_call_193 (by decide) ?_
            exact hk91 x1 x2_42 M_41 _ _ _ hw hP hD hS (lv_sub hl [1, 2, 0] rfl)
    · have hw := hw.2 c_29
      refine lv_iload_n hx hb dXm_call_113 rfl (lv_at hl 3 rfl) ?_
      refine lv_if_eq (tgt := 153) hx hb dXm_call_114 (by decide) (fun c_43 => ?_) (fun c_43 => ?_)
      · have hw := hw.1 c_43
        refine lv_iconst (v := 0) hx hb dXm_call_153 (by decide) ?_
        refine lv_istore_n (lv' := [(3, .int 0), (0, .ref (q 0)), (1, .int x1), (2, .int x2), (4, .int x4)]) hx hb dXm_call_154 rfl hl (by decide) rfl (fun ls hl => ?_)
        obtain ⟨x4_44, ex4_44⟩ : ∃ y : Int32, y = x4 + 1 := ⟨_, rfl⟩
        have hw := hw x4_44 ex4_44
        refine lv_iinc (v := x4_44) (lv' := [(4, .int x4_44), (3, .int 0), (0, .ref (q 0)), (1, .int x1), (2, .int x2)]) hx hb dXm_call_155 hl (k := 4) rfl (by rw [ex4_44]; rfl) (by decide) rfl (fun ls hl => ?_)
        refine lv_goto (tgt := 102) hx hb dXm_call_158 (by decide) ?_
        exact ih102 x1 x2 0 x4_44 M _ _ _ hw hP hD hS (lv_sub hl [2, 3, 4, 1, 0] rfl)
      · have hw := hw.2 c_43
        refine lv_aload_n hx hb dXm_call_117 rfl (lv_at hl 0 rfl) ?_
        refine va_get (D := (dC, dI)) (ci := 5) (v := .ref (q 19)) (C := "ServiceThreadsModel") (T := TXm) (N := 28) hx hb hta inXm hown hK hP 0 (wM_0 q dA M) rfl 22 (by decide) (hta _ wt_587) (fun _ h9 => h9) rfl dXm_call_118 ?_
        refine lv_iload hx hb dXm_call_121 (lv_at hl 4 rfl) ?_
        obtain ⟨h_45, hw⟩ := hw
        refine ro_z (w := (wM q dA)) (M := M) hx hb hK hP 19 18 (wM_19 q dA M) rfl h_45 dXm_call_123 (fun y_46 ey_46 => ?_)
        have hw := hw y_46 ey_46
        refine lv_if_eq (tgt := 149) hx hb dXm_call_124 (by decide) (fun c_47 => ?_) (fun c_47 => ?_)
        · have hw := hw.1 c_47
          refine lv_iconst (v := 1) hx hb dXm_call_149 (by decide) ?_
          refine lv_goto (tgt := 154) hx hb dXm_call_150 (by decide) ?_
          refine lv_istore_n (lv' := [(3, .int 1), (0, .ref (q 0)), (1, .int x1), (2, .int x2), (4, .int x4)]) hx hb dXm_call_154 rfl hl (by decide) rfl (fun ls hl => ?_)
          obtain ⟨x4_48, ex4_48⟩ : ∃ y : Int32, y = x4 + 1 := ⟨_, rfl⟩
          have hw := hw x4_48 ex4_48
          refine lv_iinc (v := x4_48) (lv' := [(4, .int x4_48), (3, .int 1), (0, .ref (q 0)), (1, .int x1), (2, .int x2)]) hx hb dXm_call_155 hl (k := 4) rfl (by rw [ex4_48]; rfl) (by decide) rfl (fun ls hl => ?_)
          refine lv_goto (tgt := 102) hx hb dXm_call_158 (by decide) ?_
          exact ih102 x1 x2 1 x4_48 M _ _ _ hw hP hD hS (lv_sub hl [2, 3, 4, 1, 0] rfl)
        · have hw := hw.2 c_47
          refine lv_aload_n hx hb dXm_call_127 rfl (lv_at hl 0 rfl) ?_
          refine va_get (D := (dC, dI)) (ci := 5) (v := .ref (q 17)) (C := "ServiceThreadsModel") (T := TXm) (N := 28) hx hb hta inXm hown hK hP 0 (wM_0 q dA M) rfl 20 (by decide) (hta _ wt_585) (fun _ h9 => h9) rfl dXm_call_128 ?_
          refine lv_iload hx hb dXm_call_131 (lv_at hl 4 rfl) ?_
          obtain ⟨h_49, hw⟩ := hw
          refine ro_i (w := (wM q dA)) (M := M) hx hb hK hP 17 16 (wM_17 q dA M) rfl h_49 dXm_call_133 (fun y_50 ey_50 => ?_)
          have hw := hw y_50 ey_50
          refine lv_iload_n hx hb dXm_call_134 rfl (lv_at hl 2 rfl) ?_
          refine lv_icmp_ne (tgt := 149) hx hb dXm_call_135 (by decide) (fun c_51 => ?_) (fun c_51 => ?_)
          · have hw := hw.2 c_51
            refine lv_iconst (v := 1) hx hb dXm_call_149 (by decide) ?_
            refine lv_goto (tgt := 154) hx hb dXm_call_150 (by decide) ?_
            refine lv_istore_n (lv' := [(3, .int 1), (0, .ref (q 0)), (1, .int x1), (2, .int x2), (4, .int x4)]) hx hb dXm_call_154 rfl hl (by decide) rfl (fun ls hl => ?_)
            obtain ⟨x4_52, ex4_52⟩ : ∃ y : Int32, y = x4 + 1 := ⟨_, rfl⟩
            have hw := hw x4_52 ex4_52
            refine lv_iinc (v := x4_52) (lv' := [(4, .int x4_52), (3, .int 1), (0, .ref (q 0)), (1, .int x1), (2, .int x2)]) hx hb dXm_call_155 hl (k := 4) rfl (by rw [ex4_52]; rfl) (by decide) rfl (fun ls hl => ?_)
            refine lv_goto (tgt := 102) hx hb dXm_call_158 (by decide) ?_
            exact ih102 x1 x2 1 x4_52 M _ _ _ hw hP hD hS (lv_sub hl [2, 3, 4, 1, 0] rfl)
          · have hw := hw.1 c_51
            refine lv_aload_n hx hb dXm_call_138 rfl (lv_at hl 0 rfl) ?_
            refine va_get (D := (dC, dI)) (ci := 5) (v := .ref (q 16)) (C := "ServiceThreadsModel") (T := TXm) (N := 28) hx hb hta inXm hown hK hP 0 (wM_0 q dA M) rfl 19 (by decide) (hta _ wt_584) (fun _ h9 => h9) rfl dXm_call_139 ?_
            refine lv_iload hx hb dXm_call_142 (lv_at hl 4 rfl) ?_
            obtain ⟨h_53, hw⟩ := hw
            refine ro_i (w := (wM q dA)) (M := M) hx hb hK hP 16 15 (wM_16 q dA M) rfl h_53 dXm_call_144 (fun y_54 ey_54 => ?_)
            have hw := hw y_54 ey_54
            refine lv_iload_n hx hb dXm_call_145 rfl (lv_at hl 1 rfl) ?_
            refine lv_icmp_ge (tgt := 153) hx hb dXm_call_146 (by decide) (fun c_55 => ?_) (fun c_55 => ?_)
            · have hw := hw.1 c_55
              refine lv_iconst (v := 0) hx hb dXm_call_153 (by decide) ?_
              refine lv_istore_n (lv' := [(3, .int 0), (0, .ref (q 0)), (1, .int x1), (2, .int x2), (4, .int x4)]) hx hb dXm_call_154 rfl hl (by decide) rfl (fun ls hl => ?_)
              obtain ⟨x4_56, ex4_56⟩ : ∃ y : Int32, y = x4 + 1 := ⟨_, rfl⟩
              have hw := hw x4_56 ex4_56
              refine lv_iinc (v := x4_56) (lv' := [(4, .int x4_56), (3, .int 0), (0, .ref (q 0)), (1, .int x1), (2, .int x2)]) hx hb dXm_call_155 hl (k := 4) rfl (by rw [ex4_56]; rfl) (by decide) rfl (fun ls hl => ?_)
              refine lv_goto (tgt := 102) hx hb dXm_call_158 (by decide) ?_
              exact ih102 x1 x2 0 x4_56 M _ _ _ hw hP hD hS (lv_sub hl [2, 3, 4, 1, 0] rfl)
            · have hw := hw.2 c_55
              refine lv_iconst (v := 1) hx hb dXm_call_149 (by decide) ?_
              refine lv_goto (tgt := 154) hx hb dXm_call_150 (by decide) ?_
              refine lv_istore_n (lv' := [(3, .int 1), (0, .ref (q 0)), (1, .int x1), (2, .int x2), (4, .int x4)]) hx hb dXm_call_154 rfl hl (by decide) rfl (fun ls hl => ?_)
              obtain ⟨x4_57, ex4_57⟩ : ∃ y : Int32, y = x4 + 1 := ⟨_, rfl⟩
              have hw := hw x4_57 ex4_57
              refine lv_iinc (v := x4_57) (lv' := [(4, .int x4_57), (3, .int 1), (0, .ref (q 0)), (1, .int x1), (2, .int x2)]) hx hb dXm_call_155 hl (k := 4) rfl (by rw [ex4_57]; rfl) (by decide) rfl (fun ls hl => ?_)
              refine lv_goto (tgt := 102) hx hb dXm_call_158 (by decide) ?_
              exact ih102 x1 x2 1 x4_57 M _ _ _ hw hP hD hS (lv_sub hl [2, 3, 4, 1, 0] rfl)
set_option maxHeartbeats 4000000 in
set_option maxRecDepth 100000 in
theorem LwlXm_call_91 {p : Program} {l : Launch} {e : Env} {s : State} {m : MethodId} {below : List Frame} {meth : Method} {c : Code} {dC : Nat → ClassId} {dI : Nat → Nat → Nat} {q : Nat → Nat} {dA : Nat → ClassId} {A : Nat → Prop} {av : List Value} {post : Int32 → Mm → Prop} (CX : p.tables.exec = Jvm.exec ∧ c.code = cXm_call ∧ meth.sig.returnType = (some .int) ∧ c.maxLocals = 5 ∧ s.vm.findClass "ServiceThreadsModel" = some m.cls ∧ (∀ w ∈ wsG, w.before av.toArray s = true) ∧ (∀ q : Nat, s.heap.size ≤ q → A q) ∧ va_K (dC, dI) vwCl (tM dA) s ∧ meth.locks = false) : ∀ (n91 : Nat) (x1 : Int32) (x2 : Int32) (M : Mm) (H : Heap) (locs : List Loc) (ls : Array Slot), wlXm_call_91 post n91 x1 x2 M → va_P (dC, dI) vwCl (wM q dA M) H → va_D A (wM q dA M) → va_S A s.heap H locs → lv_has ls 5 [(0, .ref (q 0)), (1, .int x1), (2, .int x2)] → W p l e (headSpec (wsA yXm_call cXm_call 5 (some .int)) ({ frames := 1, cells := 0, slots := 0, locals := 24 })).room s m av.toArray below meth c H locs 0 0 (MQ below (va_Qi post (bW (dC, dI) vwCl (wM q dA) (tM dA) A) A) av.toArray s 0 0 A) (F0 m 91 ls []) := by
  obtain ⟨hx, hb, hr, hml, hown, hta, hA, hK, hlocks⟩ := CX
  intro n91
  induction n91 with
  | zero =>
    intro x1 x2 M H locs ls hw
    exact False.elim hw
  | succ n91 ih91 =>
    intro x1 x2 M H locs ls hw hP hD hS hl
    dsimp only [wlXm_call_91] at hw
    refine lv_iload_n hx hb dXm_call_91 rfl (lv_at hl 2 rfl) ?_
    refine lv_bipush (v := 8) hx hb dXm_call_92 (by decide) ?_
    refine lv_icmp_ge (tgt := 196) hx hb dXm_call_94 (by decide) (fun c_24 => ?_) (fun c_24 => ?_)
    · have hw := hw.1 c_24
      refine lv_aload_n hx hb dXm_call_196 rfl (lv_at hl 0 rfl) ?_
      refine va_get (D := (dC, dI)) (ci := 5) (v := .int (M 22 0)) (C := "ServiceThreadsModel") (T := TXm) (N := 28) hx hb hta inXm hown hK hP 0 (wM_0 q dA M) rfl 18 (by decide) (hta _ wt_583) (fun _ h9 => h9) rfl dXm_call_197 ?_
      refine lv_topi (fun y_25 ey_25 => ?_)
      have hw := hw y_25 ey_25
      refine lv_iconst (v := 1) hx hb dXm_call_200 (by decide) ?_
      refine lv_isub hx hb dXm_call_201 ?_
      refine lv_topi (fun y_26 ey_26 => ?_)
      have hw := hw y_26 ey_26
      exact W.iret (v := y_26) hx hb hr (fun t ht hW => ⟨⟨y_26, M, rfl, hw, by rw [ht]; exact hP, va_K.moved hW.alike hK, hD⟩, hS.F ht⟩) hS.2.2 dXm_call_202 hlocks
    · have hw := hw.2 c_24
      refine lv_iconst (v := 1) hx hb dXm_call_97 (by decide) ?_
      refine lv_istore_n (lv' := [(3, .int 1), (0, .ref (q 0)), (1, .int x1), (2, .int x2)]) hx hb dXm_call_98 rfl hl (by decide) rfl (fun ls hl => ?_)
      refine lv_iconst (v := 0) hx hb dXm_call_99 (by decide) ?_
      refine lv_istore (lv' := [(4, .int 0), (3, .int 1), (0, .ref (q 0)), (1, .int x1), (2, .int x2)]) hx hb dXm_call_100 hl (by decide) rfl (fun ls hl => ?_)
      obtain ⟨n102, hw⟩ := hw
      exact LwlXm_call_102 (A := A) (av := av) ⟨hx, hb, hr, hml, hown, hta, hA, hK, hlocks⟩ ih91 n102 x1 x2 1 0 M _ _ _ hw hP hD hS (lv_sub hl [2, 3, 4, 1, 0] rfl)
set_option maxHeartbeats 4000000 in
set_option maxRecDepth 100000 in
theorem mtXm_call (l : Launch) (dC : Nat → ClassId) (dI : Nat → Nat → Nat) (q : Nat → Nat) (dA : Nat → ClassId) (sz : Nat) (p0 : Int32) (M : Mm) (post : Int32 → Mm → Prop) (hw : wpXm_call p0 M post) : Met l yXm_call (wsA yXm_call cXm_call 5 (some .int)) ({ frames := 1, cells := 0, slots := 0, locals := 24 }) (va_Pc [.ref (q 0), .int p0] (pW (dC, dI) vwCl (wM q dA) (tM dA) sz M)) (va_Qi post (bW (dC, dI) vwCl (wM q dA) (tM dA) (va_A (wM q dA M) sz)) (va_A (wM q dA M) sz)) 0 0 (va_A (wM q dA M) sz) := by
  refine Met.ofW (cc := cXm_call) (maxL := 5) (ret := (some .int)) (by decide) rfl ?_
  intro p e s m args below meth c s₁ B hml hv
  obtain ⟨rfl, hsz, hP, hK, hD0⟩ := hv
  have hx := B.exec
  have hb := B.bytes
  have hr := B.returns
  have hts := atoms_spec (ws := (wsA yXm_call cXm_call 5 (some .int))) B.pre
  have hta : ∀ w ∈ wsG, w.before _ s = true := fun w h => hts w (List.mem_cons_of_mem _ h)
  have hown : s.vm.findClass "ServiceThreadsModel" = some m.cls := findClass_of_methodNamed B.named
  have hlocks := B.notSynchronized
  subst hsz
  have hD := hD0.self (sz := s.heap.size)
  generalize hAe : va_A (wM q dA M) s.heap.size = A at hD ⊢
  have hA : ∀ q : Nat, s.heap.size ≤ q → A q := fun q h => by rw [← hAe]; exact Or.inr h
  have hS : va_S A s.heap s.heap [] := va_S.rf
  dsimp only [wpXm_call] at hw
  have hl := lv_entry ([.ref (q 0), .int p0]) (n := 5) (Nat.le_of_ble_eq_true rfl)
  rw [lg_entry_eq]
  generalize (lg_sl ([.ref (q 0), .int p0]) ++ List.replicate (5 - (lg_sl ([.ref (q 0), .int p0])).length) Slot.unset).toArray = ls at hl ⊢
  have hl : lv_has ls 5 [(0, .ref (q 0)), (1, .int p0)] := hl
  refine lv_aload_n hx hb dXm_call_0 rfl (lv_at hl 0 rfl) ?_
  refine lv_iload_n hx hb dXm_call_1 rfl (lv_at hl 1 rfl) ?_
  refine lv_iconst (v := 0) hx hb dXm_call_2 (by decide) ?_
  refine lv_iconst (v := 3) hx hb dXm_call_3 (by decide) ?_
  refine cn_i (w := (wM q dA)) (M := M) (wM_ad q dA) (va_runS (As := [.int p0, .int 0, .int 3]) (rest := [.ref (q 0)]) ⟨hx, hb, hml, hown, hta⟩ (mtXm_in l dC dI q dA s.heap.size p0 0 3 M _ hw) (va_cwS 3 hta (giS wt_657 wt_658 wt_7 wt_659) rfl rfl rfl (by decide +kernel) ⟨Nat.le_of_ble_eq_true rfl, Nat.le_of_ble_eq_true rfl⟩) ⟨pW_blind, pW_of hK hP hD⟩ rfl rfl hl.1 rfl (lv_room (Nat.le_of_ble_eq_true rfl)) dXm_call_4 ⟨Nat.le_of_ble_eq_true rfl, Nat.le_of_ble_eq_true rfl⟩) hD hS hA (fun r_1 M_2 H locs hw hP hD hS => ?_)
  refine lv_if_ne (tgt := 14) hx hb dXm_call_7 (by decide) (fun c_3 => ?_) (fun c_3 => ?_)
  · have hw := hw.2 c_3
    refine lv_iconst (v := 0) hx hb dXm_call_14 (by decide) ?_
    refine lv_aload_n hx hb dXm_call_15 rfl (lv_at hl 0 rfl) ?_
    refine va_get (D := (dC, dI)) (ci := 5) (v := .int (M_2 22 0)) (C := "ServiceThreadsModel") (T := TXm) (N := 28) hx hb hta inXm hown hK hP 0 (wM_0 q dA M_2) rfl 18 (by decide) (hta _ wt_583) (fun _ h9 => h9) rfl dXm_call_16 ?_
    refine lv_topi (fun y_4 ey_4 => ?_)
    have hw := hw y_4 ey_4
    refine lv_bipush (v := 16) hx hb dXm_call_19 (by decide) ?_
    refine lv_icmp_ne (tgt := 28) hx hb dXm_call_21 (by decide) (fun c_5 => ?_) (fun c_5 => ?_)
    · have hw := hw.2 c_5
      refine lv_iconst (v := 0) hx hb dXm_call_28 (by decide) ?_
      refine lv_iconst (v := 0) hx hb dXm_call_29 (by decide) ?_
      refine lv_iconst (v := 0) hx hb dXm_call_30 (by decide) ?_
      refine cn_i (w := (wM q dA)) (M := M_2) (wM_ad q dA) (va_runV (As := [.int 0, .int 0, .int 0, .int 0]) (rest := []) ⟨hx, hb, hml, hown, hta⟩ (mtXm_throwing l dC dI q dA H.size 0 0 0 0 M_2 _ hw) (cwV 4 hta (giV wt_664 wt_666 ws_19 wt_7 wt_667) rfl rfl rfl (by decide +kernel) ⟨Nat.le_of_ble_eq_true rfl, Nat.le_of_ble_eq_true rfl⟩) ⟨pW_blind, va_recv hK hP (ci := 5) (q0 := 0) rfl (wM_0 q dA M_2), pW_of hK hP hD⟩ rfl rfl hl.1 rfl (lv_room (Nat.le_of_ble_eq_true rfl)) dXm_call_31 ⟨Nat.le_of_ble_eq_true rfl, Nat.le_of_ble_eq_true rfl⟩) hD hS hA (fun r_6 M_7 H locs hw hP hD hS => ?_)
      refine lv_if_eq (tgt := 39) hx hb dXm_call_34 (by decide) (fun c_8 => ?_) (fun c_8 => ?_)
      · have hw := hw.1 c_8
        refine lv_aload_n hx hb dXm_call_39 rfl (lv_at hl 0 rfl) ?_
        refine va_get (D := (dC, dI)) (ci := 5) (v := .ref (q 16)) (C := "ServiceThreadsModel") (T := TXm) (N := 28) hx hb hta inXm hown hK hP 0 (wM_0 q dA M_7) rfl 19 (by decide) (hta _ wt_584) (fun _ h9 => h9) rfl dXm_call_40 ?_
        refine lv_aload_n hx hb dXm_call_43 rfl (lv_at hl 0 rfl) ?_
        refine va_get (D := (dC, dI)) (ci := 5) (v := .int (M_7 22 0)) (C := "ServiceThreadsModel") (T := TXm) (N := 28) hx hb hta inXm hown hK hP 0 (wM_0 q dA M_7) rfl 18 (by decide) (hta _ wt_583) (fun _ h9 => h9) rfl dXm_call_44 ?_
        refine lv_topi (fun y_9 ey_9 => ?_)
        have hw := hw y_9 ey_9
        refine lv_iload_n hx hb dXm_call_47 rfl (lv_at hl 1 rfl) ?_
        obtain ⟨h_10, hw⟩ := hw
        refine wo_i (w := (wM q dA)) (M := M_7) hx hb hK hP hD hS 16 15 (wM_16 q dA M_7) (wM_s16 q dA M_7) rfl h_10 dXm_call_48 (fun M_11 H locs eM_11 hP hD hS => ?_)
        have hw := hw M_11 eM_11
        refine lv_aload_n hx hb dXm_call_49 rfl (lv_at hl 0 rfl) ?_
        refine va_get (D := (dC, dI)) (ci := 5) (v := .ref (q 17)) (C := "ServiceThreadsModel") (T := TXm) (N := 28) hx hb hta inXm hown hK hP 0 (wM_0 q dA M_11) rfl 20 (by decide) (hta _ wt_585) (fun _ h9 => h9) rfl dXm_call_50 ?_
        refine lv_aload_n hx hb dXm_call_53 rfl (lv_at hl 0 rfl) ?_
        refine va_get (D := (dC, dI)) (ci := 5) (v := .int (M_11 22 0)) (C := "ServiceThreadsModel") (T := TXm) (N := 28) hx hb hta inXm hown hK hP 0 (wM_0 q dA M_11) rfl 18 (by decide) (hta _ wt_583) (fun _ h9 => h9) rfl dXm_call_54 ?_
        refine lv_topi (fun y_12 ey_12 => ?_)
        have hw := hw y_12 ey_12
        refine lv_iconst (v := (-1)) hx hb dXm_call_57 (by decide) ?_
        obtain ⟨h_13, hw⟩ := hw
        refine wo_i (w := (wM q dA)) (M := M_11) hx hb hK hP hD hS 17 16 (wM_17 q dA M_11) (wM_s17 q dA M_11) rfl h_13 dXm_call_58 (fun M_14 H locs eM_14 hP hD hS => ?_)
        have hw := hw M_14 eM_14
        refine lv_aload_n hx hb dXm_call_59 rfl (lv_at hl 0 rfl) ?_
        refine va_get (D := (dC, dI)) (ci := 5) (v := .ref (q 18)) (C := "ServiceThreadsModel") (T := TXm) (N := 28) hx hb hta inXm hown hK hP 0 (wM_0 q dA M_14) rfl 21 (by decide) (hta _ wt_586) (fun _ h9 => h9) rfl dXm_call_60 ?_
        refine lv_aload_n hx hb dXm_call_63 rfl (lv_at hl 0 rfl) ?_
        refine va_get (D := (dC, dI)) (ci := 5) (v := .int (M_14 22 0)) (C := "ServiceThreadsModel") (T := TXm) (N := 28) hx hb hta inXm hown hK hP 0 (wM_0 q dA M_14) rfl 18 (by decide) (hta _ wt_583) (fun _ h9 => h9) rfl dXm_call_64 ?_
        refine lv_topi (fun y_15 ey_15 => ?_)
        have hw := hw y_15 ey_15
        refine lv_iconst (v := (-1)) hx hb dXm_call_67 (by decide) ?_
        obtain ⟨h_16, hw⟩ := hw
        refine wo_i (w := (wM q dA)) (M := M_14) hx hb hK hP hD hS 18 17 (wM_18 q dA M_14) (wM_s18 q dA M_14) rfl h_16 dXm_call_68 (fun M_17 H locs eM_17 hP hD hS => ?_)
        have hw := hw M_17 eM_17
        refine lv_aload_n hx hb dXm_call_69 rfl (lv_at hl 0 rfl) ?_
        refine va_get (D := (dC, dI)) (ci := 5) (v := .ref (q 19)) (C := "ServiceThreadsModel") (T := TXm) (N := 28) hx hb hta inXm hown hK hP 0 (wM_0 q dA M_17) rfl 22 (by decide) (hta _ wt_587) (fun _ h9 => h9) rfl dXm_call_70 ?_
        refine lv_aload_n hx hb dXm_call_73 rfl (lv_at hl 0 rfl) ?_
        refine va_get (D := (dC, dI)) (ci := 5) (v := .int (M_17 22 0)) (C := "ServiceThreadsModel") (T := TXm) (N := 28) hx hb hta inXm hown hK hP 0 (wM_0 q dA M_17) rfl 18 (by decide) (hta _ wt_583) (fun _ h9 => h9) rfl dXm_call_74 ?_
        refine lv_topi (fun y_18 ey_18 => ?_)
        have hw := hw y_18 ey_18
        refine lv_iconst (v := 1) hx hb dXm_call_77 (by decide) ?_
        obtain ⟨h_19, hw⟩ := hw
        refine wo_z (w := (wM q dA)) (M := M_17) hx hb hK hP hD hS 19 18 (wM_19 q dA M_17) (wM_s19 q dA M_17) rfl (by decide) h_19 dXm_call_78 (fun M_20 H locs eM_20 hP hD hS => ?_)
        have hw := hw M_20 eM_20
        refine lv_aload_n hx hb dXm_call_79 rfl (lv_at hl 0 rfl) ?_
        refine lv_dup hx hb dXm_call_80 rfl ?_
        refine va_get (D := (dC, dI)) (ci := 5) (v := .int (M_20 22 0)) (C := "ServiceThreadsModel") (T := TXm) (N := 28) hx hb hta inXm hown hK hP 0 (wM_0 q dA M_20) rfl 18 (by decide) (hta _ wt_583) (fun _ h9 => h9) rfl dXm_call_81 ?_
        refine lv_topi (fun y_21 ey_21 => ?_)
        have hw := hw y_21 ey_21
        refine lv_iconst (v := 1) hx hb dXm_call_84 (by decide) ?_
        refine lv_iadd hx hb dXm_call_85 ?_
        refine lv_topi (fun y_22 ey_22 => ?_)
        have hw := hw y_22 ey_22
        refine va_put (D := (dC, dI)) (ci := 5) (v := .int y_22) (ty := .int) (C := "ServiceThreadsModel") (T := TXm) (N := 28) hx hb hta inXm tyXm tyXm_ok nmXm hown hK hP hD hS 0 (wM_0 q dA M_20) rfl 18 (by decide) (hta _ wt_583) (fun _ h9 => h9) rfl (by decide +kernel) rfl rfl (Nat.le_of_ble_eq_true rfl) dXm_call_86 (fun H locs hP hD hS => ?_)
        obtain ⟨M_23, eM_23⟩ : ∃ y : Mm, y = stM M_20 22 (fun _ => y_22) := ⟨_, rfl⟩
        have hP : va_P (dC, dI) vwCl (wM q dA M_23) H := by rw [eM_23]; exact hP
        have hD : va_D A (wM q dA M_23) := by rw [eM_23]; exact hD
        have hw := hw M_23 eM_23
        refine lv_iconst (v := 0) hx hb dXm_call_89 (by decide) ?_
        refine lv_istore_n (lv' := [(2, .int 0), (0, .ref (q 0)), (1, .int p0)]) hx hb dXm_call_90 rfl hl (by decide) rfl (fun ls hl => ?_)
        obtain ⟨n91, hw⟩ := hw
        exact LwlXm_call_91 (A := A) (av := [.ref (q 0), .int p0]) ⟨hx, hb, hr, hml, hown, hta, hA, hK, hlocks⟩ n91 p0 0 M_23 _ _ _ hw hP hD hS (lv_sub hl [1, 2, 0] rfl)
      · have hw := hw.2 c_8
        refine lv_iconst (v := 0) hx hb dXm_call_37 (by decide) ?_
        exact W.iret (v := 0) hx hb hr (fun t ht hW => ⟨⟨0, M_7, rfl, hw, by rw [ht]; exact hP, va_K.moved hW.alike hK, hD⟩, hS.F ht⟩) hS.2.2 dXm_call_38 hlocks
    · have hw := hw.1 c_5
      refine lv_iconst (v := 1) hx hb dXm_call_24 (by decide) ?_
      refine lv_goto (tgt := 29) hx hb dXm_call_25 (by decide) ?_
      refine lv_iconst (v := 0) hx hb dXm_call_29 (by decide) ?_
      refine lv_iconst (v := 0) hx hb dXm_call_30 (by decide) ?_
      refine cn_i (w := (wM q dA)) (M := M_2) (wM_ad q dA) (va_runV (As := [.int 0, .int 1, .int 0, .int 0]) (rest := []) ⟨hx, hb, hml, hown, hta⟩ (mtXm_throwing l dC dI q dA H.size 0 1 0 0 M_2 _ hw) (cwV 4 hta (giV wt_664 wt_666 ws_19 wt_7 wt_667) rfl rfl rfl (by decide +kernel) ⟨Nat.le_of_ble_eq_true rfl, Nat.le_of_ble_eq_true rfl⟩) ⟨pW_blind, va_recv hK hP (ci := 5) (q0 := 0) rfl (wM_0 q dA M_2), pW_of hK hP hD⟩ rfl rfl hl.1 rfl (lv_room (Nat.le_of_ble_eq_true rfl)) dXm_call_31 ⟨Nat.le_of_ble_eq_true rfl, Nat.le_of_ble_eq_true rfl⟩) hD hS hA (fun r_58 M_59 H locs hw hP hD hS => ?_)
      refine lv_if_eq (tgt := 39) hx hb dXm_call_34 (by decide) (fun c_60 => ?_) (fun c_60 => ?_)
      · have hw := hw.1 c_60
        refine lv_aload_n hx hb dXm_call_39 rfl (lv_at hl 0 rfl) ?_
        refine va_get (D := (dC, dI)) (ci := 5) (v := .ref (q 16)) (C := "ServiceThreadsModel") (T := TXm) (N := 28) hx hb hta inXm hown hK hP 0 (wM_0 q dA M_59) rfl 19 (by decide) (hta _ wt_584) (fun _ h9 => h9) rfl dXm_call_40 ?_
        refine lv_aload_n hx hb dXm_call_43 rfl (lv_at hl 0 rfl) ?_
        refine va_get (D := (dC, dI)) (ci := 5) (v := .int (M_59 22 0)) (C := "ServiceThreadsModel") (T := TXm) (N := 28) hx hb hta inXm hown hK hP 0 (wM_0 q dA M_59) rfl 18 (by decide) (hta _ wt_583) (fun _ h9 => h9) rfl dXm_call_44 ?_
        refine lv_topi (fun y_61 ey_61 => ?_)
        have hw := hw y_61 ey_61
        refine lv_iload_n hx hb dXm_call_47 rfl (lv_at hl 1 rfl) ?_
        obtain ⟨h_62, hw⟩ := hw
        refine wo_i (w := (wM q dA)) (M := M_59) hx hb hK hP hD hS 16 15 (wM_16 q dA M_59) (wM_s16 q dA M_59) rfl h_62 dXm_call_48 (fun M_63 H locs eM_63 hP hD hS => ?_)
        have hw := hw M_63 eM_63
        refine lv_aload_n hx hb dXm_call_49 rfl (lv_at hl 0 rfl) ?_
        refine va_get (D := (dC, dI)) (ci := 5) (v := .ref (q 17)) (C := "ServiceThreadsModel") (T := TXm) (N := 28) hx hb hta inXm hown hK hP 0 (wM_0 q dA M_63) rfl 20 (by decide) (hta _ wt_585) (fun _ h9 => h9) rfl dXm_call_50 ?_
        refine lv_aload_n hx hb dXm_call_53 rfl (lv_at hl 0 rfl) ?_
        refine va_get (D := (dC, dI)) (ci := 5) (v := .int (M_63 22 0)) (C := "ServiceThreadsModel") (T := TXm) (N := 28) hx hb hta inXm hown hK hP 0 (wM_0 q dA M_63) rfl 18 (by decide) (hta _ wt_583) (fun _ h9 => h9) rfl dXm_call_54 ?_
        refine lv_topi (fun y_64 ey_64 => ?_)
        have hw := hw y_64 ey_64
        refine lv_iconst (v := (-1)) hx hb dXm_call_57 (by decide) ?_
        obtain ⟨h_65, hw⟩ := hw
        refine wo_i (w := (wM q dA)) (M := M_63) hx hb hK hP hD hS 17 16 (wM_17 q dA M_63) (wM_s17 q dA M_63) rfl h_65 dXm_call_58 (fun M_66 H locs eM_66 hP hD hS => ?_)
        have hw := hw M_66 eM_66
        refine lv_aload_n hx hb dXm_call_59 rfl (lv_at hl 0 rfl) ?_
        refine va_get (D := (dC, dI)) (ci := 5) (v := .ref (q 18)) (C := "ServiceThreadsModel") (T := TXm) (N := 28) hx hb hta inXm hown hK hP 0 (wM_0 q dA M_66) rfl 21 (by decide) (hta _ wt_586) (fun _ h9 => h9) rfl dXm_call_60 ?_
        refine lv_aload_n hx hb dXm_call_63 rfl (lv_at hl 0 rfl) ?_
        refine va_get (D := (dC, dI)) (ci := 5) (v := .int (M_66 22 0)) (C := "ServiceThreadsModel") (T := TXm) (N := 28) hx hb hta inXm hown hK hP 0 (wM_0 q dA M_66) rfl 18 (by decide) (hta _ wt_583) (fun _ h9 => h9) rfl dXm_call_64 ?_
        refine lv_topi (fun y_67 ey_67 => ?_)
        have hw := hw y_67 ey_67
        refine lv_iconst (v := (-1)) hx hb dXm_call_67 (by decide) ?_
        obtain ⟨h_68, hw⟩ := hw
        refine wo_i (w := (wM q dA)) (M := M_66) hx hb hK hP hD hS 18 17 (wM_18 q dA M_66) (wM_s18 q dA M_66) rfl h_68 dXm_call_68 (fun M_69 H locs eM_69 hP hD hS => ?_)
        have hw := hw M_69 eM_69
        refine lv_aload_n hx hb dXm_call_69 rfl (lv_at hl 0 rfl) ?_
        refine va_get (D := (dC, dI)) (ci := 5) (v := .ref (q 19)) (C := "ServiceThreadsModel") (T := TXm) (N := 28) hx hb hta inXm hown hK hP 0 (wM_0 q dA M_69) rfl 22 (by decide) (hta _ wt_587) (fun _ h9 => h9) rfl dXm_call_70 ?_
        refine lv_aload_n hx hb dXm_call_73 rfl (lv_at hl 0 rfl) ?_
        refine va_get (D := (dC, dI)) (ci := 5) (v := .int (M_69 22 0)) (C := "ServiceThreadsModel") (T := TXm) (N := 28) hx hb hta inXm hown hK hP 0 (wM_0 q dA M_69) rfl 18 (by decide) (hta _ wt_583) (fun _ h9 => h9) rfl dXm_call_74 ?_
        refine lv_topi (fun y_70 ey_70 => ?_)
        have hw := hw y_70 ey_70
        refine lv_iconst (v := 1) hx hb dXm_call_77 (by decide) ?_
        obtain ⟨h_71, hw⟩ := hw
        refine wo_z (w := (wM q dA)) (M := M_69) hx hb hK hP hD hS 19 18 (wM_19 q dA M_69) (wM_s19 q dA M_69) rfl (by decide) h_71 dXm_call_78 (fun M_72 H locs eM_72 hP hD hS => ?_)
        have hw := hw M_72 eM_72
        refine lv_aload_n hx hb dXm_call_79 rfl (lv_at hl 0 rfl) ?_
        refine lv_dup hx hb dXm_call_80 rfl ?_
        refine va_get (D := (dC, dI)) (ci := 5) (v := .int (M_72 22 0)) (C := "ServiceThreadsModel") (T := TXm) (N := 28) hx hb hta inXm hown hK hP 0 (wM_0 q dA M_72) rfl 18 (by decide) (hta _ wt_583) (fun _ h9 => h9) rfl dXm_call_81 ?_
        refine lv_topi (fun y_73 ey_73 => ?_)
        have hw := hw y_73 ey_73
        refine lv_iconst (v := 1) hx hb dXm_call_84 (by decide) ?_
        refine lv_iadd hx hb dXm_call_85 ?_
        refine lv_topi (fun y_74 ey_74 => ?_)
        have hw := hw y_74 ey_74
        refine va_put (D := (dC, dI)) (ci := 5) (v := .int y_74) (ty := .int) (C := "ServiceThreadsModel") (T := TXm) (N := 28) hx hb hta inXm tyXm tyXm_ok nmXm hown hK hP hD hS 0 (wM_0 q dA M_72) rfl 18 (by decide) (hta _ wt_583) (fun _ h9 => h9) rfl (by decide +kernel) rfl rfl (Nat.le_of_ble_eq_true rfl) dXm_call_86 (fun H locs hP hD hS => ?_)
        obtain ⟨M_75, eM_75⟩ : ∃ y : Mm, y = stM M_72 22 (fun _ => y_74) := ⟨_, rfl⟩
        have hP : va_P (dC, dI) vwCl (wM q dA M_75) H := by rw [eM_75]; exact hP
        have hD : va_D A (wM q dA M_75) := by rw [eM_75]; exact hD
        have hw := hw M_75 eM_75
        refine lv_iconst (v := 0) hx hb dXm_call_89 (by decide) ?_
        refine lv_istore_n (lv' := [(2, .int 0), (0, .ref (q 0)), (1, .int p0)]) hx hb dXm_call_90 rfl hl (by decide) rfl (fun ls hl => ?_)
        obtain ⟨n91, hw⟩ := hw
        exact LwlXm_call_91 (A := A) (av := [.ref (q 0), .int p0]) ⟨hx, hb, hr, hml, hown, hta, hA, hK, hlocks⟩ n91 p0 0 M_75 _ _ _ hw hP hD hS (lv_sub hl [1, 2, 0] rfl)
      · have hw := hw.2 c_60
        refine lv_iconst (v := 0) hx hb dXm_call_37 (by decide) ?_
        exact W.iret (v := 0) hx hb hr (fun t ht hW => ⟨⟨0, M_59, rfl, hw, by rw [ht]; exact hP, va_K.moved hW.alike hK, hD⟩, hS.F ht⟩) hS.2.2 dXm_call_38 hlocks
  · have hw := hw.1 c_3
    refine lv_iconst (v := 1) hx hb dXm_call_10 (by decide) ?_
    refine lv_goto (tgt := 15) hx hb dXm_call_11 (by decide) ?_
    refine lv_aload_n hx hb dXm_call_15 rfl (lv_at hl 0 rfl) ?_
    refine va_get (D := (dC, dI)) (ci := 5) (v := .int (M_2 22 0)) (C := "ServiceThreadsModel") (T := TXm) (N := 28) hx hb hta inXm hown hK hP 0 (wM_0 q dA M_2) rfl 18 (by decide) (hta _ wt_583) (fun _ h9 => h9) rfl dXm_call_16 ?_
    refine lv_topi (fun y_76 ey_76 => ?_)
    have hw := hw y_76 ey_76
    refine lv_bipush (v := 16) hx hb dXm_call_19 (by decide) ?_
    refine lv_icmp_ne (tgt := 28) hx hb dXm_call_21 (by decide) (fun c_77 => ?_) (fun c_77 => ?_)
    · have hw := hw.2 c_77
      refine lv_iconst (v := 0) hx hb dXm_call_28 (by decide) ?_
      refine lv_iconst (v := 0) hx hb dXm_call_29 (by decide) ?_
      refine lv_iconst (v := 0) hx hb dXm_call_30 (by decide) ?_
      refine cn_i (w := (wM q dA)) (M := M_2) (wM_ad q dA) (va_runV (As := [.int 1, .int 0, .int 0, .int 0]) (rest := []) ⟨hx, hb, hml, hown, hta⟩ (mtXm_throwing l dC dI q dA H.size 1 0 0 0 M_2 _ hw) (cwV 4 hta (giV wt_664 wt_666 ws_19 wt_7 wt_667) rfl rfl rfl (by decide +kernel) ⟨Nat.le_of_ble_eq_true rfl, Nat.le_of_ble_eq_true rfl⟩) ⟨pW_blind, va_recv hK hP (ci := 5) (q0 := 0) rfl (wM_0 q dA M_2), pW_of hK hP hD⟩ rfl rfl hl.1 rfl (lv_room (Nat.le_of_ble_eq_true rfl)) dXm_call_31 ⟨Nat.le_of_ble_eq_true rfl, Nat.le_of_ble_eq_true rfl⟩) hD hS hA (fun r_78 M_79 H locs hw hP hD hS => ?_)
      refine lv_if_eq (tgt := 39) hx hb dXm_call_34 (by decide) (fun c_80 => ?_) (fun c_80 => ?_)
      · have hw := hw.1 c_80
        refine lv_aload_n hx hb dXm_call_39 rfl (lv_at hl 0 rfl) ?_
        refine va_get (D := (dC, dI)) (ci := 5) (v := .ref (q 16)) (C := "ServiceThreadsModel") (T := TXm) (N := 28) hx hb hta inXm hown hK hP 0 (wM_0 q dA M_79) rfl 19 (by decide) (hta _ wt_584) (fun _ h9 => h9) rfl dXm_call_40 ?_
        refine lv_aload_n hx hb dXm_call_43 rfl (lv_at hl 0 rfl) ?_
        refine va_get (D := (dC, dI)) (ci := 5) (v := .int (M_79 22 0)) (C := "ServiceThreadsModel") (T := TXm) (N := 28) hx hb hta inXm hown hK hP 0 (wM_0 q dA M_79) rfl 18 (by decide) (hta _ wt_583) (fun _ h9 => h9) rfl dXm_call_44 ?_
        refine lv_topi (fun y_81 ey_81 => ?_)
        have hw := hw y_81 ey_81
        refine lv_iload_n hx hb dXm_call_47 rfl (lv_at hl 1 rfl) ?_
        obtain ⟨h_82, hw⟩ := hw
        refine wo_i (w := (wM q dA)) (M := M_79) hx hb hK hP hD hS 16 15 (wM_16 q dA M_79) (wM_s16 q dA M_79) rfl h_82 dXm_call_48 (fun M_83 H locs eM_83 hP hD hS => ?_)
        have hw := hw M_83 eM_83
        refine lv_aload_n hx hb dXm_call_49 rfl (lv_at hl 0 rfl) ?_
        refine va_get (D := (dC, dI)) (ci := 5) (v := .ref (q 17)) (C := "ServiceThreadsModel") (T := TXm) (N := 28) hx hb hta inXm hown hK hP 0 (wM_0 q dA M_83) rfl 20 (by decide) (hta _ wt_585) (fun _ h9 => h9) rfl dXm_call_50 ?_
        refine lv_aload_n hx hb dXm_call_53 rfl (lv_at hl 0 rfl) ?_
        refine va_get (D := (dC, dI)) (ci := 5) (v := .int (M_83 22 0)) (C := "ServiceThreadsModel") (T := TXm) (N := 28) hx hb hta inXm hown hK hP 0 (wM_0 q dA M_83) rfl 18 (by decide) (hta _ wt_583) (fun _ h9 => h9) rfl dXm_call_54 ?_
        refine lv_topi (fun y_84 ey_84 => ?_)
        have hw := hw y_84 ey_84
        refine lv_iconst (v := (-1)) hx hb dXm_call_57 (by decide) ?_
        obtain ⟨h_85, hw⟩ := hw
        refine wo_i (w := (wM q dA)) (M := M_83) hx hb hK hP hD hS 17 16 (wM_17 q dA M_83) (wM_s17 q dA M_83) rfl h_85 dXm_call_58 (fun M_86 H locs eM_86 hP hD hS => ?_)
        have hw := hw M_86 eM_86
        refine lv_aload_n hx hb dXm_call_59 rfl (lv_at hl 0 rfl) ?_
        refine va_get (D := (dC, dI)) (ci := 5) (v := .ref (q 18)) (C := "ServiceThreadsModel") (T := TXm) (N := 28) hx hb hta inXm hown hK hP 0 (wM_0 q dA M_86) rfl 21 (by decide) (hta _ wt_586) (fun _ h9 => h9) rfl dXm_call_60 ?_
        refine lv_aload_n hx hb dXm_call_63 rfl (lv_at hl 0 rfl) ?_
        refine va_get (D := (dC, dI)) (ci := 5) (v := .int (M_86 22 0)) (C := "ServiceThreadsModel") (T := TXm) (N := 28) hx hb hta inXm hown hK hP 0 (wM_0 q dA M_86) rfl 18 (by decide) (hta _ wt_583) (fun _ h9 => h9) rfl dXm_call_64 ?_
        refine lv_topi (fun y_87 ey_87 => ?_)
        have hw := hw y_87 ey_87
        refine lv_iconst (v := (-1)) hx hb dXm_call_67 (by decide) ?_
        obtain ⟨h_88, hw⟩ := hw
        refine wo_i (w := (wM q dA)) (M := M_86) hx hb hK hP hD hS 18 17 (wM_18 q dA M_86) (wM_s18 q dA M_86) rfl h_88 dXm_call_68 (fun M_89 H locs eM_89 hP hD hS => ?_)
        have hw := hw M_89 eM_89
        refine lv_aload_n hx hb dXm_call_69 rfl (lv_at hl 0 rfl) ?_
        refine va_get (D := (dC, dI)) (ci := 5) (v := .ref (q 19)) (C := "ServiceThreadsModel") (T := TXm) (N := 28) hx hb hta inXm hown hK hP 0 (wM_0 q dA M_89) rfl 22 (by decide) (hta _ wt_587) (fun _ h9 => h9) rfl dXm_call_70 ?_
        refine lv_aload_n hx hb dXm_call_73 rfl (lv_at hl 0 rfl) ?_
        refine va_get (D := (dC, dI)) (ci := 5) (v := .int (M_89 22 0)) (C := "ServiceThreadsModel") (T := TXm) (N := 28) hx hb hta inXm hown hK hP 0 (wM_0 q dA M_89) rfl 18 (by decide) (hta _ wt_583) (fun _ h9 => h9) rfl dXm_call_74 ?_
        refine lv_topi (fun y_90 ey_90 => ?_)
        have hw := hw y_90 ey_90
        refine lv_iconst (v := 1) hx hb dXm_call_77 (by decide) ?_
        obtain ⟨h_91, hw⟩ := hw
        refine wo_z (w := (wM q dA)) (M := M_89) hx hb hK hP hD hS 19 18 (wM_19 q dA M_89) (wM_s19 q dA M_89) rfl (by decide) h_91 dXm_call_78 (fun M_92 H locs eM_92 hP hD hS => ?_)
        have hw := hw M_92 eM_92
        refine lv_aload_n hx hb dXm_call_79 rfl (lv_at hl 0 rfl) ?_
        refine lv_dup hx hb dXm_call_80 rfl ?_
        refine va_get (D := (dC, dI)) (ci := 5) (v := .int (M_92 22 0)) (C := "ServiceThreadsModel") (T := TXm) (N := 28) hx hb hta inXm hown hK hP 0 (wM_0 q dA M_92) rfl 18 (by decide) (hta _ wt_583) (fun _ h9 => h9) rfl dXm_call_81 ?_
        refine lv_topi (fun y_93 ey_93 => ?_)
        have hw := hw y_93 ey_93
        refine lv_iconst (v := 1) hx hb dXm_call_84 (by decide) ?_
        refine lv_iadd hx hb dXm_call_85 ?_
        refine lv_topi (fun y_94 ey_94 => ?_)
        have hw := hw y_94 ey_94
        refine va_put (D := (dC, dI)) (ci := 5) (v := .int y_94) (ty := .int) (C := "ServiceThreadsModel") (T := TXm) (N := 28) hx hb hta inXm tyXm tyXm_ok nmXm hown hK hP hD hS 0 (wM_0 q dA M_92) rfl 18 (by decide) (hta _ wt_583) (fun _ h9 => h9) rfl (by decide +kernel) rfl rfl (Nat.le_of_ble_eq_true rfl) dXm_call_86 (fun H locs hP hD hS => ?_)
        obtain ⟨M_95, eM_95⟩ : ∃ y : Mm, y = stM M_92 22 (fun _ => y_94) := ⟨_, rfl⟩
        have hP : va_P (dC, dI) vwCl (wM q dA M_95) H := by rw [eM_95]; exact hP
        have hD : va_D A (wM q dA M_95) := by rw [eM_95]; exact hD
        have hw := hw M_95 eM_95
        refine lv_iconst (v := 0) hx hb dXm_call_89 (by decide) ?_
        refine lv_istore_n (lv' := [(2, .int 0), (0, .ref (q 0)), (1, .int p0)]) hx hb dXm_call_90 rfl hl (by decide) rfl (fun ls hl => ?_)
        obtain ⟨n91, hw⟩ := hw
        exact LwlXm_call_91 (A := A) (av := [.ref (q 0), .int p0]) ⟨hx, hb, hr, hml, hown, hta, hA, hK, hlocks⟩ n91 p0 0 M_95 _ _ _ hw hP hD hS (lv_sub hl [1, 2, 0] rfl)
      · have hw := hw.2 c_80
        refine lv_iconst (v := 0) hx hb dXm_call_37 (by decide) ?_
        exact W.iret (v := 0) hx hb hr (fun t ht hW => ⟨⟨0, M_79, rfl, hw, by rw [ht]; exact hP, va_K.moved hW.alike hK, hD⟩, hS.F ht⟩) hS.2.2 dXm_call_38 hlocks
    · have hw := hw.1 c_77
      refine lv_iconst (v := 1) hx hb dXm_call_24 (by decide) ?_
      refine lv_goto (tgt := 29) hx hb dXm_call_25 (by decide) ?_
      refine lv_iconst (v := 0) hx hb dXm_call_29 (by decide) ?_
      refine lv_iconst (v := 0) hx hb dXm_call_30 (by decide) ?_
      refine cn_i (w := (wM q dA)) (M := M_2) (wM_ad q dA) (va_runV (As := [.int 1, .int 1, .int 0, .int 0]) (rest := []) ⟨hx, hb, hml, hown, hta⟩ (mtXm_throwing l dC dI q dA H.size 1 1 0 0 M_2 _ hw) (cwV 4 hta (giV wt_664 wt_666 ws_19 wt_7 wt_667) rfl rfl rfl (by decide +kernel) ⟨Nat.le_of_ble_eq_true rfl, Nat.le_of_ble_eq_true rfl⟩) ⟨pW_blind, va_recv hK hP (ci := 5) (q0 := 0) rfl (wM_0 q dA M_2), pW_of hK hP hD⟩ rfl rfl hl.1 rfl (lv_room (Nat.le_of_ble_eq_true rfl)) dXm_call_31 ⟨Nat.le_of_ble_eq_true rfl, Nat.le_of_ble_eq_true rfl⟩) hD hS hA (fun r_96 M_97 H locs hw hP hD hS => ?_)
      refine lv_if_eq (tgt := 39) hx hb dXm_call_34 (by decide) (fun c_98 => ?_) (fun c_98 => ?_)
      · have hw := hw.1 c_98
        refine lv_aload_n hx hb dXm_call_39 rfl (lv_at hl 0 rfl) ?_
        refine va_get (D := (dC, dI)) (ci := 5) (v := .ref (q 16)) (C := "ServiceThreadsModel") (T := TXm) (N := 28) hx hb hta inXm hown hK hP 0 (wM_0 q dA M_97) rfl 19 (by decide) (hta _ wt_584) (fun _ h9 => h9) rfl dXm_call_40 ?_
        refine lv_aload_n hx hb dXm_call_43 rfl (lv_at hl 0 rfl) ?_
        refine va_get (D := (dC, dI)) (ci := 5) (v := .int (M_97 22 0)) (C := "ServiceThreadsModel") (T := TXm) (N := 28) hx hb hta inXm hown hK hP 0 (wM_0 q dA M_97) rfl 18 (by decide) (hta _ wt_583) (fun _ h9 => h9) rfl dXm_call_44 ?_
        refine lv_topi (fun y_99 ey_99 => ?_)
        have hw := hw y_99 ey_99
        refine lv_iload_n hx hb dXm_call_47 rfl (lv_at hl 1 rfl) ?_
        obtain ⟨h_100, hw⟩ := hw
        refine wo_i (w := (wM q dA)) (M := M_97) hx hb hK hP hD hS 16 15 (wM_16 q dA M_97) (wM_s16 q dA M_97) rfl h_100 dXm_call_48 (fun M_101 H locs eM_101 hP hD hS => ?_)
        have hw := hw M_101 eM_101
        refine lv_aload_n hx hb dXm_call_49 rfl (lv_at hl 0 rfl) ?_
        refine va_get (D := (dC, dI)) (ci := 5) (v := .ref (q 17)) (C := "ServiceThreadsModel") (T := TXm) (N := 28) hx hb hta inXm hown hK hP 0 (wM_0 q dA M_101) rfl 20 (by decide) (hta _ wt_585) (fun _ h9 => h9) rfl dXm_call_50 ?_
        refine lv_aload_n hx hb dXm_call_53 rfl (lv_at hl 0 rfl) ?_
        refine va_get (D := (dC, dI)) (ci := 5) (v := .int (M_101 22 0)) (C := "ServiceThreadsModel") (T := TXm) (N := 28) hx hb hta inXm hown hK hP 0 (wM_0 q dA M_101) rfl 18 (by decide) (hta _ wt_583) (fun _ h9 => h9) rfl dXm_call_54 ?_
        refine lv_topi (fun y_102 ey_102 => ?_)
        have hw := hw y_102 ey_102
        refine lv_iconst (v := (-1)) hx hb dXm_call_57 (by decide) ?_
        obtain ⟨h_103, hw⟩ := hw
        refine wo_i (w := (wM q dA)) (M := M_101) hx hb hK hP hD hS 17 16 (wM_17 q dA M_101) (wM_s17 q dA M_101) rfl h_103 dXm_call_58 (fun M_104 H locs eM_104 hP hD hS => ?_)
        have hw := hw M_104 eM_104
        refine lv_aload_n hx hb dXm_call_59 rfl (lv_at hl 0 rfl) ?_
        refine va_get (D := (dC, dI)) (ci := 5) (v := .ref (q 18)) (C := "ServiceThreadsModel") (T := TXm) (N := 28) hx hb hta inXm hown hK hP 0 (wM_0 q dA M_104) rfl 21 (by decide) (hta _ wt_586) (fun _ h9 => h9) rfl dXm_call_60 ?_
        refine lv_aload_n hx hb dXm_call_63 rfl (lv_at hl 0 rfl) ?_
        refine va_get (D := (dC, dI)) (ci := 5) (v := .int (M_104 22 0)) (C := "ServiceThreadsModel") (T := TXm) (N := 28) hx hb hta inXm hown hK hP 0 (wM_0 q dA M_104) rfl 18 (by decide) (hta _ wt_583) (fun _ h9 => h9) rfl dXm_call_64 ?_
        refine lv_topi (fun y_105 ey_105 => ?_)
        have hw := hw y_105 ey_105
        refine lv_iconst (v := (-1)) hx hb dXm_call_67 (by decide) ?_
        obtain ⟨h_106, hw⟩ := hw
        refine wo_i (w := (wM q dA)) (M := M_104) hx hb hK hP hD hS 18 17 (wM_18 q dA M_104) (wM_s18 q dA M_104) rfl h_106 dXm_call_68 (fun M_107 H locs eM_107 hP hD hS => ?_)
        have hw := hw M_107 eM_107
        refine lv_aload_n hx hb dXm_call_69 rfl (lv_at hl 0 rfl) ?_
        refine va_get (D := (dC, dI)) (ci := 5) (v := .ref (q 19)) (C := "ServiceThreadsModel") (T := TXm) (N := 28) hx hb hta inXm hown hK hP 0 (wM_0 q dA M_107) rfl 22 (by decide) (hta _ wt_587) (fun _ h9 => h9) rfl dXm_call_70 ?_
        refine lv_aload_n hx hb dXm_call_73 rfl (lv_at hl 0 rfl) ?_
        refine va_get (D := (dC, dI)) (ci := 5) (v := .int (M_107 22 0)) (C := "ServiceThreadsModel") (T := TXm) (N := 28) hx hb hta inXm hown hK hP 0 (wM_0 q dA M_107) rfl 18 (by decide) (hta _ wt_583) (fun _ h9 => h9) rfl dXm_call_74 ?_
        refine lv_topi (fun y_108 ey_108 => ?_)
        have hw := hw y_108 ey_108
        refine lv_iconst (v := 1) hx hb dXm_call_77 (by decide) ?_
        obtain ⟨h_109, hw⟩ := hw
        refine wo_z (w := (wM q dA)) (M := M_107) hx hb hK hP hD hS 19 18 (wM_19 q dA M_107) (wM_s19 q dA M_107) rfl (by decide) h_109 dXm_call_78 (fun M_110 H locs eM_110 hP hD hS => ?_)
        have hw := hw M_110 eM_110
        refine lv_aload_n hx hb dXm_call_79 rfl (lv_at hl 0 rfl) ?_
        refine lv_dup hx hb dXm_call_80 rfl ?_
        refine va_get (D := (dC, dI)) (ci := 5) (v := .int (M_110 22 0)) (C := "ServiceThreadsModel") (T := TXm) (N := 28) hx hb hta inXm hown hK hP 0 (wM_0 q dA M_110) rfl 18 (by decide) (hta _ wt_583) (fun _ h9 => h9) rfl dXm_call_81 ?_
        refine lv_topi (fun y_111 ey_111 => ?_)
        have hw := hw y_111 ey_111
        refine lv_iconst (v := 1) hx hb dXm_call_84 (by decide) ?_
        refine lv_iadd hx hb dXm_call_85 ?_
        refine lv_topi (fun y_112 ey_112 => ?_)
        have hw := hw y_112 ey_112
        refine va_put (D := (dC, dI)) (ci := 5) (v := .int y_112) (ty := .int) (C := "ServiceThreadsModel") (T := TXm) (N := 28) hx hb hta inXm tyXm tyXm_ok nmXm hown hK hP hD hS 0 (wM_0 q dA M_110) rfl 18 (by decide) (hta _ wt_583) (fun _ h9 => h9) rfl (by decide +kernel) rfl rfl (Nat.le_of_ble_eq_true rfl) dXm_call_86 (fun H locs hP hD hS => ?_)
        obtain ⟨M_113, eM_113⟩ : ∃ y : Mm, y = stM M_110 22 (fun _ => y_112) := ⟨_, rfl⟩
        have hP : va_P (dC, dI) vwCl (wM q dA M_113) H := by rw [eM_113]; exact hP
        have hD : va_D A (wM q dA M_113) := by rw [eM_113]; exact hD
        have hw := hw M_113 eM_113
        refine lv_iconst (v := 0) hx hb dXm_call_89 (by decide) ?_
        refine lv_istore_n (lv' := [(2, .int 0), (0, .ref (q 0)), (1, .int p0)]) hx hb dXm_call_90 rfl hl (by decide) rfl (fun ls hl => ?_)
        obtain ⟨n91, hw⟩ := hw
        exact LwlXm_call_91 (A := A) (av := [.ref (q 0), .int p0]) ⟨hx, hb, hr, hml, hown, hta, hA, hK, hlocks⟩ n91 p0 0 M_113 _ _ _ hw hP hD hS (lv_sub hl [1, 2, 0] rfl)
      · have hw := hw.2 c_98
        refine lv_iconst (v := 0) hx hb dXm_call_37 (by decide) ?_
        exact W.iret (v := 0) hx hb hr (fun t ht hW => ⟨⟨0, M_97, rfl, hw, by rw [ht]; exact hP, va_K.moved hW.alike hK, hD⟩, hS.F ht⟩) hS.2.2 dXm_call_38 hlocks
