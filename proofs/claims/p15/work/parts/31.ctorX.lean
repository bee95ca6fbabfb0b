abbrev BXp_init (dC : Nat → ClassId) (dI : Nat → Nat → Nat) (A : Nat → Prop) (h0 : Nat) (_ : Unit) (t : State) : Prop := ∃ (q1 : Nat) (q2 : Nat) (q3 : Nat) (q4 : Nat) (c1 : ClassId) (c2 : ClassId) (c3 : ClassId) (c4 : ClassId) (f5 : Mm), (∀ j : Nat, j < 8 → f5 0 j = (-1)) ∧ va_P (dC, dI) vwCl [(h0, .inr (1, [.ref q1, .ref q2, .ref q3, .ref q4])), (q1, .inl (c1, 128, .inl (fun _ => 0))), (q2, .inl (c2, 128, .inl (fun _ => 0))), (q3, .inl (c3, 8, .inl (fun _ => 0))), (q4, .inl (c4, 8, .inl (f5 0)))] t.heap ∧ va_K (dC, dI) vwCl [(c1, .int), (c2, .int), (c3, .int), (c4, .int)] t ∧ va_D A [(h0, .inr (1, [.ref q1, .ref q2, .ref q3, .ref q4])), (q1, .inl (c1, 128, .inl (fun _ => 0))), (q2, .inl (c2, 128, .inl (fun _ => 0))), (q3, .inl (c3, 8, .inl (fun _ => 0))), (q4, .inl (c4, 8, .inl (f5 0)))]
set_option maxHeartbeats 4000000 in
set_option maxRecDepth 100000 in
theorem mtXp_init (l : Launch) (dC : Nat → ClassId) (dI : Nat → Nat → Nat) (h0 sz : Nat) : Met l yXp_init (wsA yXp_init cXp_init 1 none) ({ frames := 1, cells := 4, slots := 272, locals := 23 }) (va_Pc [.ref h0] (pW (dC, dI) vwCl (fun _ : Unit => [(h0, .inr (1, [.null, .null, .null, .null]))]) [] sz ())) (va_Qv (fun _ : Unit => True) (BXp_init dC dI (va_A [(h0, .inr (1, [.null, .null, .null, .null]))] sz) h0) (va_A [(h0, .inr (1, [.null, .null, .null, .null]))] sz)) 4 272 (va_A [(h0, .inr (1, [.null, .null, .null, .null]))] sz) := by
  refine Met.ofW (cc := cXp_init) (maxL := 1) (ret := none) (by decide) rfl ?_
  intro p e s m args below meth c s₁ B hml hv
  obtain ⟨rfl, hsz, hP, hK, hD0⟩ := hv
  have hx := B.exec
  have hb := B.bytes
  have hr := B.returns
  have hts := atoms_spec (ws := (wsA yXp_init cXp_init 1 none)) B.pre
  have hta : ∀ w ∈ wsG, w.before _ s = true := fun w h => hts w (List.mem_cons_of_mem _ h)
  have hown : s.vm.findClass "ServiceThreads$Programs" = some m.cls := findClass_of_methodNamed B.named
  have hlocks := B.notSynchronized
  have hin : meth.name = "<init>" := (name_of_methodNamed B.named B.method).1
  subst hsz
  have hD := hD0.self (sz := s.heap.size)
  generalize hAe : va_A _ s.heap.size = A at hD ⊢
  have hA : ∀ q : Nat, s.heap.size ≤ q → A q := fun q h => by rw [← hAe]; exact Or.inr h
  have hS : va_S A s.heap s.heap [] := va_S.rf
  have hP : va_P (dC, dI) vwCl [(h0, .inr (1, [.null, .null, .null, .null]))] s.heap := hP
  skip
  have hD : va_D A [(h0, .inr (1, [.null, .null, .null, .null]))] := hD
  have hl := lv_entry ([.ref h0]) (n := 1) (Nat.le_of_ble_eq_true rfl)
  rw [lg_entry_eq]
  generalize (lg_sl ([.ref h0]) ++ List.replicate (1 - (lg_sl ([.ref h0])).length) Slot.unset).toArray = ls at hl ⊢
  have hl : lv_has ls 1 [(0, .ref h0)] := hl
  refine lv_aload_n hx hb dXp_init_0 rfl (lv_at hl 0 rfl) ?_
  refine W.objInit hx hb hown (hta _ wt_29) (hta _ wt_22) (hta (.code objectInit ⟨#[0xb1]⟩ 1 none) (wsG_of (by decide +kernel) (by decide +kernel))) rfl (by rw [hml]; exact hl.1) rfl dXp_init_1 (Nat.le_of_ble_eq_true rfl) (Nat.le_of_ble_eq_true rfl) ?_
  refine W.eq (g2 := F0 m 4 ls []) rfl ?_
  refine lv_aload_n hx hb dXp_init_4 rfl (lv_at hl 0 rfl) ?_
  refine lv_sipush (v := 128) hx hb dXp_init_5 (by decide) ?_
  refine va_newa (atype := .int) (N' := 128) (a0 := (128, .inl (fun _ => 0))) (ty := .int) (n := 128) hx hb (hta _ wt_46) rfl hK hP hD hS hA (fun _ => rfl) (by decide) (by decide) (by decide) (Nat.le_of_ble_eq_true rfl) (Nat.le_of_ble_eq_true rfl) dXp_init_8 (fun q1 c1 H hK hP hD hS => ?_)
  have hP : va_P (dC, dI) vwCl [(h0, .inr (1, [.null, .null, .null, .null])), (q1, .inl (c1, 128, .inl (fun _ => 0)))] H := hP
  have hD : va_D A [(h0, .inr (1, [.null, .null, .null, .null])), (q1, .inl (c1, 128, .inl (fun _ => 0)))] := hD
  have hK : va_K (dC, dI) vwCl [(c1, .int)] s := hK
  refine W.widen (k := 1) (n := 128) (Nat.le_of_ble_eq_true rfl) (Nat.le_of_ble_eq_true rfl) ?_
  refine va_putF (D := (dC, dI)) (ci := 1) (v := .ref q1) (ty := (.array .int)) (C := "ServiceThreads$Programs") (T := TXp) (N := 4) hx hb hta inXp tyXp tyXp_ok nmXp hown hK hP hD hS 0 rfl rfl 0 (by decide) (hta _ wt_33) (fun _ h9 => h9) rfl hin rfl (by decide +kernel) rfl rfl (Nat.le_of_ble_eq_true rfl) dXp_init_10 (fun H locs hP hD hS => ?_)
  have hP : va_P (dC, dI) vwCl [(h0, .inr (1, [.ref q1, .null, .null, .null])), (q1, .inl (c1, 128, .inl (fun _ => 0)))] H := hP
  have hD : va_D A [(h0, .inr (1, [.ref q1, .null, .null, .null])), (q1, .inl (c1, 128, .inl (fun _ => 0)))] := hD
  refine lv_aload_n hx hb dXp_init_13 rfl (lv_at hl 0 rfl) ?_
  refine lv_sipush (v := 128) hx hb dXp_init_14 (by decide) ?_
  refine va_newa (atype := .int) (N' := 128) (a0 := (128, .inl (fun _ => 0))) (ty := .int) (n := 128) hx hb (hta _ wt_46) rfl hK hP hD hS hA (fun _ => rfl) (by decide) (by decide) (by decide) (Nat.le_of_ble_eq_true rfl) (Nat.le_of_ble_eq_true rfl) dXp_init_17 (fun q2 c2 H hK hP hD hS => ?_)
  have hP : va_P (dC, dI) vwCl [(h0, .inr (1, [.ref q1, .null, .null, .null])), (q1, .inl (c1, 128, .inl (fun _ => 0))), (q2, .inl (c2, 128, .inl (fun _ => 0)))] H := hP
  have hD : va_D A [(h0, .inr (1, [.ref q1, .null, .null, .null])), (q1, .inl (c1, 128, .inl (fun _ => 0))), (q2, .inl (c2, 128, .inl (fun _ => 0)))] := hD
  have hK : va_K (dC, dI) vwCl [(c1, .int), (c2, .int)] s := hK
  refine W.widen (k := 2) (n := 256) (Nat.le_of_ble_eq_true rfl) (Nat.le_of_ble_eq_true rfl) ?_
  refine va_putF (D := (dC, dI)) (ci := 1) (v := .ref q2) (ty := (.array .int)) (C := "ServiceThreads$Programs") (T := TXp) (N := 4) hx hb hta inXp tyXp tyXp_ok nmXp hown hK hP hD hS 0 rfl rfl 1 (by decide) (hta _ wt_34) (fun _ h9 => h9) rfl hin rfl (by decide +kernel) rfl rfl (Nat.le_of_ble_eq_true rfl) dXp_init_19 (fun H locs hP hD hS => ?_)
  have hP : va_P (dC, dI) vwCl [(h0, .inr (1, [.ref q1, .ref q2, .null, .null])), (q1, .inl (c1, 128, .inl (fun _ => 0))), (q2, .inl (c2, 128, .inl (fun _ => 0)))] H := hP
  have hD : va_D A [(h0, .inr (1, [.ref q1, .ref q2, .null, .null])), (q1, .inl (c1, 128, .inl (fun _ => 0))), (q2, .inl (c2, 128, .inl (fun _ => 0)))] := hD
  refine lv_aload_n hx hb dXp_init_22 rfl (lv_at hl 0 rfl) ?_
  refine lv_bipush (v := 8) hx hb dXp_init_23 (by decide) ?_
  refine va_newa (atype := .int) (N' := 8) (a0 := (8, .inl (fun _ => 0))) (ty := .int) (n := 8) hx hb (hta _ wt_46) rfl hK hP hD hS hA (fun _ => rfl) (by decide) (by decide) (by decide) (Nat.le_of_ble_eq_true rfl) (Nat.le_of_ble_eq_true rfl) dXp_init_25 (fun q3 c3 H hK hP hD hS => ?_)
  have hP : va_P (dC, dI) vwCl [(h0, .inr (1, [.ref q1, .ref q2, .null, .null])), (q1, .inl (c1, 128, .inl (fun _ => 0))), (q2, .inl (c2, 128, .inl (fun _ => 0))), (q3, .inl (c3, 8, .inl (fun _ => 0)))] H := hP
  have hD : va_D A [(h0, .inr (1, [.ref q1, .ref q2, .null, .null])), (q1, .inl (c1, 128, .inl (fun _ => 0))), (q2, .inl (c2, 128, .inl (fun _ => 0))), (q3, .inl (c3, 8, .inl (fun _ => 0)))] := hD
  have hK : va_K (dC, dI) vwCl [(c1, .int), (c2, .int), (c3, .int)] s := hK
  refine W.widen (k := 3) (n := 264) (Nat.le_of_ble_eq_true rfl) (Nat.le_of_ble_eq_true rfl) ?_
  refine va_putF (D := (dC, dI)) (ci := 1) (v := .ref q3) (ty := (.array .int)) (C := "ServiceThreads$Programs") (T := TXp) (N := 4) hx hb hta inXp tyXp tyXp_ok nmXp hown hK hP hD hS 0 rfl rfl 2 (by decide) (hta _ wt_35) (fun _ h9 => h9) rfl hin rfl (by decide +kernel) rfl rfl (Nat.le_of_ble_eq_true rfl) dXp_init_27 (fun H locs hP hD hS => ?_)
  have hP : va_P (dC, dI) vwCl [(h0, .inr (1, [.ref q1, .ref q2, .ref q3, .null])), (q1, .inl (c1, 128, .inl (fun _ => 0))), (q2, .inl (c2, 128, .inl (fun _ => 0))), (q3, .inl (c3, 8, .inl (fun _ => 0)))] H := hP
  have hD : va_D A [(h0, .inr (1, [.ref q1, .ref q2, .ref q3, .null])), (q1, .inl (c1, 128, .inl (fun _ => 0))), (q2, .inl (c2, 128, .inl (fun _ => 0))), (q3, .inl (c3, 8, .inl (fun _ => 0)))] := hD
  refine lv_aload_n hx hb dXp_init_30 rfl (lv_at hl 0 rfl) ?_
  refine lv_bipush (v := 8) hx hb dXp_init_31 (by decide) ?_
  refine va_newa (atype := .int) (N' := 8) (a0 := (8, .inl (fun _ => 0))) (ty := .int) (n := 8) hx hb (hta _ wt_46) rfl hK hP hD hS hA (fun _ => rfl) (by decide) (by decide) (by decide) (Nat.le_of_ble_eq_true rfl) (Nat.le_of_ble_eq_true rfl) dXp_init_33 (fun q4 c4 H hK hP hD hS => ?_)
  have hP : va_P (dC, dI) vwCl [(h0, .inr (1, [.ref q1, .ref q2, .ref q3, .null])), (q1, .inl (c1, 128, .inl (fun _ => 0))), (q2, .inl (c2, 128, .inl (fun _ => 0))), (q3, .inl (c3, 8, .inl (fun _ => 0))), (q4, .inl (c4, 8, .inl (fun _ => 0)))] H := hP
  have hD : va_D A [(h0, .inr (1, [.ref q1, .ref q2, .ref q3, .null])), (q1, .inl (c1, 128, .inl (fun _ => 0))), (q2, .inl (c2, 128, .inl (fun _ => 0))), (q3, .inl (c3, 8, .inl (fun _ => 0))), (q4, .inl (c4, 8, .inl (fun _ => 0)))] := hD
  have hK : va_K (dC, dI) vwCl [(c1, .int), (c2, .int), (c3, .int), (c4, .int)] s := hK
  refine W.widen (k := 4) (n := 272) (Nat.le_of_ble_eq_true rfl) (Nat.le_of_ble_eq_true rfl) ?_
  refine va_putF (D := (dC, dI)) (ci := 1) (v := .ref q4) (ty := (.array .int)) (C := "ServiceThreads$Programs") (T := TXp) (N := 4) hx hb hta inXp tyXp tyXp_ok nmXp hown hK hP hD hS 0 rfl rfl 3 (by decide) (hta _ wt_36) (fun _ h9 => h9) rfl hin rfl (by decide +kernel) rfl rfl (Nat.le_of_ble_eq_true rfl) dXp_init_35 (fun H locs hP hD hS => ?_)
  have hP : va_P (dC, dI) vwCl [(h0, .inr (1, [.ref q1, .ref q2, .ref q3, .ref q4])), (q1, .inl (c1, 128, .inl (fun _ => 0))), (q2, .inl (c2, 128, .inl (fun _ => 0))), (q3, .inl (c3, 8, .inl (fun _ => 0))), (q4, .inl (c4, 8, .inl (fun _ => 0)))] H := hP
  have hD : va_D A [(h0, .inr (1, [.ref q1, .ref q2, .ref q3, .ref q4])), (q1, .inl (c1, 128, .inl (fun _ => 0))), (q2, .inl (c2, 128, .inl (fun _ => 0))), (q3, .inl (c3, 8, .inl (fun _ => 0))), (q4, .inl (c4, 8, .inl (fun _ => 0)))] := hD
  refine lv_aload_n hx hb dXp_init_38 rfl (lv_at hl 0 rfl) ?_
  refine va_get (D := (dC, dI)) (ci := 1) (v := .ref q4) (C := "ServiceThreads$Programs") (T := TXp) (N := 4) hx hb hta inXp hown hK hP 0 rfl rfl 3 (by decide) (hta _ wt_36) (fun _ h9 => h9) rfl dXp_init_39 ?_
  refine lv_iconst (v := (-1)) hx hb dXp_init_42 (by decide) ?_
  have hPc : va_P (dC, dI) vwCl (wF 8 (fun _ => q4) (fun _ => c4) (fun _ => (fun _ => 0))) H := hP.sub (ws' := [(q4, .inl (c4, 8, .inl (fun _ => 0)))]) [4] rfl
  have hDc : va_D A (wF 8 (fun _ => q4) (fun _ => c4) (fun _ => (fun _ => 0))) := hD.sub (ws' := [(q4, .inl (c4, 8, .inl (fun _ => 0)))]) [4] (by decide) rfl
  have hKc : va_K (dC, dI) vwCl (tF (fun _ => c4)) s := hK.sub (tys' := [(c4, .int)]) [3] rfl
  have hFc := va_free (wc := [(q4, .inl (c4, 8, .inl (fun _ => 0)))]) hD hS hA [4] rfl
  refine va_callv (va_runS (As := [.ref q4, .int (-1)]) (rest := []) ⟨hx, hb, hml, hown, hta⟩ (mtXf_fill l dC dI 8 (fun _ => q4) (fun _ => c4) H.size (-1) (fun _ => (fun _ => 0)) (fun M => ∀ j : Nat, j < 8 → M 0 j = (-1)) (fill_ok (by decide) _ _)) (va_cwS 2 hta (giS wt_30 wt_31 wt_3 wt_32) rfl rfl rfl (by decide +kernel) ⟨(Nat.le_of_ble_eq_true rfl), (Nat.le_of_ble_eq_true rfl)⟩) ⟨pW_blind, pW_of hKc hPc hDc⟩ rfl rfl hl.1 rfl (lv_room (Nat.le_of_ble_eq_true rfl)) dXp_init_43 ⟨(Nat.le_of_ble_eq_true rfl), (Nat.le_of_ble_eq_true rfl)⟩) hS (fun q _ h => hFc q h) hFc (fun f5 t H1 locs ht hvm hw hB hz1 hk1 hS => ?_)
  obtain ⟨hP1, hK1, hD1⟩ := hB
  rw [ht] at hP1
  obtain ⟨hP, hD⟩ := va_join (wr := [(h0, .inr (1, [.ref q1, .ref q2, .ref q3, .ref q4])), (q1, .inl (c1, 128, .inl (fun _ => 0))), (q2, .inl (c2, 128, .inl (fun _ => 0))), (q3, .inl (c3, 8, .inl (fun _ => 0)))]) (w1 := [(q4, .inl (c4, 8, .inl (f5 0)))]) hP hD [4] [0, 1, 2, 3] rfl rfl (by decide) (by decide) hk1 hFc hP1 hD1
  generalize H1 = H at hP hS ⊢
  have hwf5 : ∀ j : Nat, j < 8 → f5 0 j = (-1) := hw
  have hP := hP.sub (ws' := [(h0, .inr (1, [.ref q1, .ref q2, .ref q3, .ref q4])), (q1, .inl (c1, 128, .inl (fun _ => 0))), (q2, .inl (c2, 128, .inl (fun _ => 0))), (q3, .inl (c3, 8, .inl (fun _ => 0))), (q4, .inl (c4, 8, .inl (f5 0)))]) [0, 1, 2, 3, 4] rfl
  have hD := hD.sub (ws' := [(h0, .inr (1, [.ref q1, .ref q2, .ref q3, .ref q4])), (q1, .inl (c1, 128, .inl (fun _ => 0))), (q2, .inl (c2, 128, .inl (fun _ => 0))), (q3, .inl (c3, 8, .inl (fun _ => 0))), (q4, .inl (c4, 8, .inl (f5 0)))]) [0, 1, 2, 3, 4] (by decide) rfl
  have hP9 := hP.sub (ws' := [(h0, .inr (1, [.ref q1, .ref q2, .ref q3, .ref q4])), (q1, .inl (c1, 128, .inl (fun _ => 0))), (q2, .inl (c2, 128, .inl (fun _ => 0))), (q3, .inl (c3, 8, .inl (fun _ => 0))), (q4, .inl (c4, 8, .inl (f5 0)))]) [0, 1, 2, 3, 4] rfl
  have hD9 := hD.sub (ws' := [(h0, .inr (1, [.ref q1, .ref q2, .ref q3, .ref q4])), (q1, .inl (c1, 128, .inl (fun _ => 0))), (q2, .inl (c2, 128, .inl (fun _ => 0))), (q3, .inl (c3, 8, .inl (fun _ => 0))), (q4, .inl (c4, 8, .inl (f5 0)))]) [0, 1, 2, 3, 4] (by decide) rfl
  have hK9 := hK.sub (tys' := [(c1, .int), (c2, .int), (c3, .int), (c4, .int)]) [0, 1, 2, 3] rfl
  exact W.vret hx hb hr (fun t ht hW => ⟨⟨(), rfl, trivial, q1, q2, q3, q4, c1, c2, c3, c4, f5, hwf5,  by rw [ht]; exact hP9, va_K.moved hW.alike hK9, hD9⟩, hS.F ht⟩) hS.2.2 dXp_init_46 hlocks
abbrev BXu_init (dC : Nat → ClassId) (dI : Nat → Nat → Nat) (A : Nat → Prop) (h0 : Nat) (_ : Unit) (t : State) : Prop := ∃ (q1 : Nat) (q2 : Nat) (c1 : ClassId) (c2 : ClassId) (f3 : Mm) (f4 : Mm), (∀ j : Nat, j < 10 → f3 0 j = (-1)) ∧ (∀ j : Nat, j < 10 → f4 0 j = (-1)) ∧ va_P (dC, dI) vwCl [(h0, .inr (2, [.ref q1, .ref q2])), (q1, .inl (c1, 10, .inl (f3 0))), (q2, .inl (c2, 10, .inl (f4 0)))] t.heap ∧ va_K (dC, dI) vwCl [(c1, .int), (c2, .int)] t ∧ va_D A [(h0, .inr (2, [.ref q1, .ref q2])), (q1, .inl (c1, 10, .inl (f3 0))), (q2, .inl (c2, 10, .inl (f4 0)))]
set_option maxHeartbeats 4000000 in
set_option maxRecDepth 100000 in
theorem mtXu_init (l : Launch) (dC : Nat → ClassId) (dI : Nat → Nat → Nat) (h0 sz : Nat) : Met l yXu_init (wsA yXu_init cXu_init 1 none) ({ frames := 1, cells := 2, slots := 20, locals := 23 }) (va_Pc [.ref h0] (pW (dC, dI) vwCl (fun _ : Unit => [(h0, .inr (2, [.null, .null]))]) [] sz ())) (va_Qv (fun _ : Unit => True) (BXu_init dC dI (va_A [(h0, .inr (2, [.null, .null]))] sz) h0) (va_A [(h0, .inr (2, [.null, .null]))] sz)) 2 20 (va_A [(h0, .inr (2, [.null, .null]))] sz) := by
  refine Met.ofW (cc := cXu_init) (maxL := 1) (ret := none) (by decide) rfl ?_
  intro p e s m args below meth c s₁ B hml hv
  obtain ⟨rfl, hsz, hP, hK, hD0⟩ := hv
  have hx := B.exec
  have hb := B.bytes
  have hr := B.returns
  have hts := atoms_spec (ws := (wsA yXu_init cXu_init 1 none)) B.pre
  have hta : ∀ w ∈ wsG, w.before _ s = true := fun w h => hts w (List.mem_cons_of_mem _ h)
  have hown : s.vm.findClass "ServiceThreads$Units" = some m.cls := findClass_of_methodNamed B.named
  have hlocks := B.notSynchronized
  have hin : meth.name = "<init>" := (name_of_methodNamed B.named B.method).1
  subst hsz
  have hD := hD0.self (sz := s.heap.size)
  generalize hAe : va_A _ s.heap.size = A at hD ⊢
  have hA : ∀ q : Nat, s.heap.size ≤ q → A q := fun q h => by rw [← hAe]; exact Or.inr h
  have hS : va_S A s.heap s.heap [] := va_S.rf
  have hP : va_P (dC, dI) vwCl [(h0, .inr (2, [.null, .null]))] s.heap := hP
  skip
  have hD : va_D A [(h0, .inr (2, [.null, .null]))] := hD
  have hl := lv_entry ([.ref h0]) (n := 1) (Nat.le_of_ble_eq_true rfl)
  rw [lg_entry_eq]
  generalize (lg_sl ([.ref h0]) ++ List.replicate (1 - (lg_sl ([.ref h0])).length) Slot.unset).toArray = ls at hl ⊢
  have hl : lv_has ls 1 [(0, .ref h0)] := hl
  refine lv_aload_n hx hb dXu_init_0 rfl (lv_at hl 0 rfl) ?_
  refine W.objInit hx hb hown (hta _ wt_52) (hta _ wt_22) (hta (.code objectInit ⟨#[0xb1]⟩ 1 none) (wsG_of (by decide +kernel) (by decide +kernel))) rfl (by rw [hml]; exact hl.1) rfl dXu_init_1 (Nat.le_of_ble_eq_true rfl) (Nat.le_of_ble_eq_true rfl) ?_
  refine W.eq (g2 := F0 m 4 ls []) rfl ?_
  refine lv_aload_n hx hb dXu_init_4 rfl (lv_at hl 0 rfl) ?_
  refine lv_bipush (v := 10) hx hb dXu_init_5 (by decide) ?_
  refine va_newa (atype := .int) (N' := 10) (a0 := (10, .inl (fun _ => 0))) (ty := .int) (n := 10) hx hb (hta _ wt_46) rfl hK hP hD hS hA (fun _ => rfl) (by decide) (by decide) (by decide) (Nat.le_of_ble_eq_true rfl) (Nat.le_of_ble_eq_true rfl) dXu_init_7 (fun q1 c1 H hK hP hD hS => ?_)
  have hP : va_P (dC, dI) vwCl [(h0, .inr (2, [.null, .null])), (q1, .inl (c1, 10, .inl (fun _ => 0)))] H := hP
  have hD : va_D A [(h0, .inr (2, [.null, .null])), (q1, .inl (c1, 10, .inl (fun _ => 0)))] := hD
  have hK : va_K (dC, dI) vwCl [(c1, .int)] s := hK
  refine W.widen (k := 1) (n := 10) (Nat.le_of_ble_eq_true rfl) (Nat.le_of_ble_eq_true rfl) ?_
  refine va_putF (D := (dC, dI)) (ci := 2) (v := .ref q1) (ty := (.array .int)) (C := "ServiceThreads$Units") (T := TXu) (N := 2) hx hb hta inXu tyXu tyXu_ok nmXu hown hK hP hD hS 0 rfl rfl 0 (by decide) (hta _ wt_54) (fun _ h9 => h9) rfl hin rfl (by decide +kernel) rfl rfl (Nat.le_of_ble_eq_true rfl) dXu_init_9 (fun H locs hP hD hS => ?_)
  have hP : va_P (dC, dI) vwCl [(h0, .inr (2, [.ref q1, .null])), (q1, .inl (c1, 10, .inl (fun _ => 0)))] H := hP
  have hD : va_D A [(h0, .inr (2, [.ref q1, .null])), (q1, .inl (c1, 10, .inl (fun _ => 0)))] := hD
  refine lv_aload_n hx hb dXu_init_12 rfl (lv_at hl 0 rfl) ?_
  refine lv_bipush (v := 10) hx hb dXu_init_13 (by decide) ?_
  refine va_newa (atype := .int) (N' := 10) (a0 := (10, .inl (fun _ => 0))) (ty := .int) (n := 10) hx hb (hta _ wt_46) rfl hK hP hD hS hA (fun _ => rfl) (by decide) (by decide) (by decide) (Nat.le_of_ble_eq_true rfl) (Nat.le_of_ble_eq_true rfl) dXu_init_15 (fun q2 c2 H hK hP hD hS => ?_)
  have hP : va_P (dC, dI) vwCl [(h0, .inr (2, [.ref q1, .null])), (q1, .inl (c1, 10, .inl (fun _ => 0))), (q2, .inl (c2, 10, .inl (fun _ => 0)))] H := hP
  have hD : va_D A [(h0, .inr (2, [.ref q1, .null])), (q1, .inl (c1, 10, .inl (fun _ => 0))), (q2, .inl (c2, 10, .inl (fun _ => 0)))] := hD
  have hK : va_K (dC, dI) vwCl [(c1, .int), (c2, .int)] s := hK
  refine W.widen (k := 2) (n := 20) (Nat.le_of_ble_eq_true rfl) (Nat.le_of_ble_eq_true rfl) ?_
  refine va_putF (D := (dC, dI)) (ci := 2) (v := .ref q2) (ty := (.array .int)) (C := "ServiceThreads$Units") (T := TXu) (N := 2) hx hb hta inXu tyXu tyXu_ok nmXu hown hK hP hD hS 0 rfl rfl 1 (by decide) (hta _ wt_56) (fun _ h9 => h9) rfl hin rfl (by decide +kernel) rfl rfl (Nat.le_of_ble_eq_true rfl) dXu_init_17 (fun H locs hP hD hS => ?_)
  have hP : va_P (dC, dI) vwCl [(h0, .inr (2, [.ref q1, .ref q2])), (q1, .inl (c1, 10, .inl (fun _ => 0))), (q2, .inl (c2, 10, .inl (fun _ => 0)))] H := hP
  have hD : va_D A [(h0, .inr (2, [.ref q1, .ref q2])), (q1, .inl (c1, 10, .inl (fun _ => 0))), (q2, .inl (c2, 10, .inl (fun _ => 0)))] := hD
  refine lv_aload_n hx hb dXu_init_20 rfl (lv_at hl 0 rfl) ?_
  refine va_get (D := (dC, dI)) (ci := 2) (v := .ref q1) (C := "ServiceThreads$Units") (T := TXu) (N := 2) hx hb hta inXu hown hK hP 0 rfl rfl 0 (by decide) (hta _ wt_54) (fun _ h9 => h9) rfl dXu_init_21 ?_
  refine lv_iconst (v := (-1)) hx hb dXu_init_24 (by decide) ?_
  have hPc : va_P (dC, dI) vwCl (wF 10 (fun _ => q1) (fun _ => c1) (fun _ => (fun _ => 0))) H := hP.sub (ws' := [(q1, .inl (c1, 10, .inl (fun _ => 0)))]) [1] rfl
  have hDc : va_D A (wF 10 (fun _ => q1) (fun _ => c1) (fun _ => (fun _ => 0))) := hD.sub (ws' := [(q1, .inl (c1, 10, .inl (fun _ => 0)))]) [1] (by decide) rfl
  have hKc : va_K (dC, dI) vwCl (tF (fun _ => c1)) s := hK.sub (tys' := [(c1, .int)]) [0] rfl
  have hFc := va_free (wc := [(q1, .inl (c1, 10, .inl (fun _ => 0)))]) hD hS hA [1] rfl
  refine va_callv (va_runS (As := [.ref q1, .int (-1)]) (rest := []) ⟨hx, hb, hml, hown, hta⟩ (mtXf_fill l dC dI 10 (fun _ => q1) (fun _ => c1) H.size (-1) (fun _ => (fun _ => 0)) (fun M => ∀ j : Nat, j < 10 → M 0 j = (-1)) (fill_ok (by decide) _ _)) (va_cwS 2 hta (giS wt_53 wt_31 wt_3 wt_32) rfl rfl rfl (by decide +kernel) ⟨(Nat.le_of_ble_eq_true rfl), (Nat.le_of_ble_eq_true rfl)⟩) ⟨pW_blind, pW_of hKc hPc hDc⟩ rfl rfl hl.1 rfl (lv_room (Nat.le_of_ble_eq_true rfl)) dXu_init_25 ⟨(Nat.le_of_ble_eq_true rfl), (Nat.le_of_ble_eq_true rfl)⟩) hS (fun q _ h => hFc q h) hFc (fun f3 t H1 locs ht hvm hw hB hz1 hk1 hS => ?_)
  obtain ⟨hP1, hK1, hD1⟩ := hB
  rw [ht] at hP1
  obtain ⟨hP, hD⟩ := va_join (wr := [(h0, .inr (2, [.ref q1, .ref q2])), (q2, .inl (c2, 10, .inl (fun _ => 0)))]) (w1 := [(q1, .inl (c1, 10, .inl (f3 0)))]) hP hD [1] [0, 2] rfl rfl (by decide) (by decide) hk1 hFc hP1 hD1
  generalize H1 = H at hP hS ⊢
  have hwf3 : ∀ j : Nat, j < 10 → f3 0 j = (-1) := hw
  have hP := hP.sub (ws' := [(h0, .inr (2, [.ref q1, .ref q2])), (q1, .inl (c1, 10, .inl (f3 0))), (q2, .inl (c2, 10, .inl (fun _ => 0)))]) [0, 2, 1] rfl
  have hD := hD.sub (ws' := [(h0, .inr (2, [.ref q1, .ref q2])), (q1, .inl (c1, 10, .inl (f3 0))), (q2, .inl (c2, 10, .inl (fun _ => 0)))]) [0, 2, 1] (by decide) rfl
  refine lv_aload_n hx hb dXu_init_28 rfl (lv_at hl 0 rfl) ?_
  refine va_get (D := (dC, dI)) (ci := 2) (v := .ref q2) (C := "ServiceThreads$Units") (T := TXu) (N := 2) hx hb hta inXu hown hK hP 0 rfl rfl 1 (by decide) (hta _ wt_56) (fun _ h9 => h9) rfl dXu_init_29 ?_
  refine lv_iconst (v := (-1)) hx hb dXu_init_32 (by decide) ?_
  have hPc : va_P (dC, dI) vwCl (wF 10 (fun _ => q2) (fun _ => c2) (fun _ => (fun _ => 0))) H := hP.sub (ws' := [(q2, .inl (c2, 10, .inl (fun _ => 0)))]) [2] rfl
  have hDc : va_D A (wF 10 (fun _ => q2) (fun _ => c2) (fun _ => (fun _ => 0))) := hD.sub (ws' := [(q2, .inl (c2, 10, .inl (fun _ => 0)))]) [2] (by decide) rfl
  have hKc : va_K (dC, dI) vwCl (tF (fun _ => c2)) s := hK.sub (tys' := [(c2, .int)]) [1] rfl
  have hFc := va_free (wc := [(q2, .inl (c2, 10, .inl (fun _ => 0)))]) hD hS hA [2] rfl
  refine va_callv (va_runS (As := [.ref q2, .int (-1)]) (rest := []) ⟨hx, hb, hml, hown, hta⟩ (mtXf_fill l dC dI 10 (fun _ => q2) (fun _ => c2) H.size (-1) (fun _ => (fun _ => 0)) (fun M => ∀ j : Nat, j < 10 → M 0 j = (-1)) (fill_ok (by decide) _ _)) (va_cwS 2 hta (giS wt_53 wt_31 wt_3 wt_32) rfl rfl rfl (by decide +kernel) ⟨(Nat.le_of_ble_eq_true rfl), (Nat.le_of_ble_eq_true rfl)⟩) ⟨pW_blind, pW_of hKc hPc hDc⟩ rfl rfl hl.1 rfl (lv_room (Nat.le_of_ble_eq_true rfl)) dXu_init_33 ⟨(Nat.le_of_ble_eq_true rfl), (Nat.le_of_ble_eq_true rfl)⟩) hS (fun q _ h => hFc q h) hFc (fun f4 t H1 locs ht hvm hw hB hz1 hk1 hS => ?_)
  obtain ⟨hP1, hK1, hD1⟩ := hB
  rw [ht] at hP1
  obtain ⟨hP, hD⟩ := va_join (wr := [(h0, .inr (2, [.ref q1, .ref q2])), (q1, .inl (c1, 10, .inl (f3 0)))]) (w1 := [(q2, .inl (c2, 10, .inl (f4 0)))]) hP hD [2] [0, 1] rfl rfl (by decide) (by decide) hk1 hFc hP1 hD1
  generalize H1 = H at hP hS ⊢
  have hwf4 : ∀ j : Nat, j < 10 → f4 0 j = (-1) := hw
  have hP := hP.sub (ws' := [(h0, .inr (2, [.ref q1, .ref q2])), (q1, .inl (c1, 10, .inl (f3 0))), (q2, .inl (c2, 10, .inl (f4 0)))]) [0, 1, 2] rfl
  have hD := hD.sub (ws' := [(h0, .inr (2, [.ref q1, .ref q2])), (q1, .inl (c1, 10, .inl (f3 0))), (q2, .inl (c2, 10, .inl (f4 0)))]) [0, 1, 2] (by decide) rfl
  have hP9 := hP.sub (ws' := [(h0, .inr (2, [.ref q1, .ref q2])), (q1, .inl (c1, 10, .inl (f3 0))), (q2, .inl (c2, 10, .inl (f4 0)))]) [0, 1, 2] rfl
  have hD9 := hD.sub (ws' := [(h0, .inr (2, [.ref q1, .ref q2])), (q1, .inl (c1, 10, .inl (f3 0))), (q2, .inl (c2, 10, .inl (f4 0)))]) [0, 1, 2] (by decide) rfl
  have hK9 := hK.sub (tys' := [(c1, .int), (c2, .int)]) [0, 1] rfl
  exact W.vret hx hb hr (fun t ht hW => ⟨⟨(), rfl, trivial, q1, q2, c1, c2, f3, f4, hwf3, hwf4,  by rw [ht]; exact hP9, va_K.moved hW.alike hK9, hD9⟩, hS.F ht⟩) hS.2.2 dXu_init_36 hlocks
abbrev BXc_init (dC : Nat → ClassId) (dI : Nat → Nat → Nat) (A : Nat → Prop) (h0 : Nat) (_ : Unit) (t : State) : Prop := ∃ (q1 : Nat) (q2 : Nat) (q3 : Nat) (q4 : Nat) (c1 : ClassId) (c2 : ClassId) (c3 : ClassId) (c4 : ClassId) (f5 : Mm) (f6 : Mm), (∀ j : Nat, j < 16 → f5 0 j = (-1)) ∧ (∀ j : Nat, j < 16 → f6 0 j = (-1)) ∧ va_P (dC, dI) vwCl [(h0, .inr (3, [.ref q1, .ref q2, .ref q3, .ref q4, .int 0])), (q1, .inl (c1, 16, .inl (fun _ => 0))), (q2, .inl (c2, 16, .inl (f5 0))), (q3, .inl (c3, 16, .inl (f6 0))), (q4, .inl (c4, 16, .inl (fun _ => 0)))] t.heap ∧ va_K (dC, dI) vwCl [(c1, .int), (c2, .int), (c3, .int), (c4, .boolean)] t ∧ va_D A [(h0, .inr (3, [.ref q1, .ref q2, .ref q3, .ref q4, .int 0])), (q1, .inl (c1, 16, .inl (fun _ => 0))), (q2, .inl (c2, 16, .inl (f5 0))), (q3, .inl (c3, 16, .inl (f6 0))), (q4, .inl (c4, 16, .inl (fun _ => 0)))]
set_option maxHeartbeats 4000000 in
set_option maxRecDepth 100000 in
theorem mtXc_init (l : Launch) (dC : Nat → ClassId) (dI : Nat → Nat → Nat) (h0 sz : Nat) : Met l yXc_init (wsA yXc_init cXc_init 1 none) ({ frames := 1, cells := 4, slots := 64, locals := 23 }) (va_Pc [.ref h0] (pW (dC, dI) vwCl (fun _ : Unit => [(h0, .inr (3, [.null, .null, .null, .null, .int 0]))]) [] sz ())) (va_Qv (fun _ : Unit => True) (BXc_init dC dI (va_A [(h0, .inr (3, [.null, .null, .null, .null, .int 0]))] sz) h0) (va_A [(h0, .inr (3, [.null, .null, .null, .null, .int 0]))] sz)) 4 64 (va_A [(h0, .inr (3, [.null, .null, .null, .null, .int 0]))] sz) := by
  refine Met.ofW (cc := cXc_init) (maxL := 1) (ret := none) (by decide) rfl ?_
  intro p e s m args below meth c s₁ B hml hv
  obtain ⟨rfl, hsz, hP, hK, hD0⟩ := hv
  have hx := B.exec
  have hb := B.bytes
  have hr := B.returns
  have hts := atoms_spec (ws := (wsA yXc_init cXc_init 1 none)) B.pre
  have hta : ∀ w ∈ wsG, w.before _ s = true := fun w h => hts w (List.mem_cons_of_mem _ h)
  have hown : s.vm.findClass "ServiceThreads$Calls" = some m.cls := findClass_of_methodNamed B.named
  have hlocks := B.notSynchronized
  have hin : meth.name = "<init>" := (name_of_methodNamed B.named B.method).1
  subst hsz
  have hD := hD0.self (sz := s.heap.size)
  generalize hAe : va_A _ s.heap.size = A at hD ⊢
  have hA : ∀ q : Nat, s.heap.size ≤ q → A q := fun q h => by rw [← hAe]; exact Or.inr h
  have hS : va_S A s.heap s.heap [] := va_S.rf
  have hP : va_P (dC, dI) vwCl [(h0, .inr (3, [.null, .null, .null, .null, .int 0]))] s.heap := hP
  skip
  have hD : va_D A [(h0, .inr (3, [.null, .null, .null, .null, .int 0]))] := hD
  have hl := lv_entry ([.ref h0]) (n := 1) (Nat.le_of_ble_eq_true rfl)
  rw [lg_entry_eq]
  generalize (lg_sl ([.ref h0]) ++ List.replicate (1 - (lg_sl ([.ref h0])).length) Slot.unset).toArray = ls at hl ⊢
  have hl : lv_has ls 1 [(0, .ref h0)] := hl
  refine lv_aload_n hx hb dXc_init_0 rfl (lv_at hl 0 rfl) ?_
  refine W.objInit hx hb hown (hta _ wt_68) (hta _ wt_22) (hta (.code objectInit ⟨#[0xb1]⟩ 1 none) (wsG_of (by decide +kernel) (by decide +kernel))) rfl (by rw [hml]; exact hl.1) rfl dXc_init_1 (Nat.le_of_ble_eq_true rfl) (Nat.le_of_ble_eq_true rfl) ?_
  refine W.eq (g2 := F0 m 4 ls []) rfl ?_
  refine lv_aload_n hx hb dXc_init_4 rfl (lv_at hl 0 rfl) ?_
  refine lv_bipush (v := 16) hx hb dXc_init_5 (by decide) ?_
  refine va_newa (atype := .int) (N' := 16) (a0 := (16, .inl (fun _ => 0))) (ty := .int) (n := 16) hx hb (hta _ wt_46) rfl hK hP hD hS hA (fun _ => rfl) (by decide) (by decide) (by decide) (Nat.le_of_ble_eq_true rfl) (Nat.le_of_ble_eq_true rfl) dXc_init_7 (fun q1 c1 H hK hP hD hS => ?_)
  have hP : va_P (dC, dI) vwCl [(h0, .inr (3, [.null, .null, .null, .null, .int 0])), (q1, .inl (c1, 16, .inl (fun _ => 0)))] H := hP
  have hD : va_D A [(h0, .inr (3, [.null, .null, .null, .null, .int 0])), (q1, .inl (c1, 16, .inl (fun _ => 0)))] := hD
  have hK : va_K (dC, dI) vwCl [(c1, .int)] s := hK
  refine W.widen (k := 1) (n := 16) (Nat.le_of_ble_eq_true rfl) (Nat.le_of_ble_eq_true rfl) ?_
  refine va_putF (D := (dC, dI)) (ci := 3) (v := .ref q1) (ty := (.array .int)) (C := "ServiceThreads$Calls") (T := TXc) (N := 5) hx hb hta inXc tyXc tyXc_ok nmXc hown hK hP hD hS 0 rfl rfl 0 (by decide) (hta _ wt_70) (fun _ h9 => h9) rfl hin rfl (by decide +kernel) rfl rfl (Nat.le_of_ble_eq_true rfl) dXc_init_9 (fun H locs hP hD hS => ?_)
  have hP : va_P (dC, dI) vwCl [(h0, .inr (3, [.ref q1, .null, .null, .null, .int 0])), (q1, .inl (c1, 16, .inl (fun _ => 0)))] H := hP
  have hD : va_D A [(h0, .inr (3, [.ref q1, .null, .null, .null, .int 0])), (q1, .inl (c1, 16, .inl (fun _ => 0)))] := hD
  refine lv_aload_n hx hb dXc_init_12 rfl (lv_at hl 0 rfl) ?_
  refine lv_bipush (v := 16) hx hb dXc_init_13 (by decide) ?_
  refine va_newa (atype := .int) (N' := 16) (a0 := (16, .inl (fun _ => 0))) (ty := .int) (n := 16) hx hb (hta _ wt_46) rfl hK hP hD hS hA (fun _ => rfl) (by decide) (by decide) (by decide) (Nat.le_of_ble_eq_true rfl) (Nat.le_of_ble_eq_true rfl) dXc_init_15 (fun q2 c2 H hK hP hD hS => ?_)
  have hP : va_P (dC, dI) vwCl [(h0, .inr (3, [.ref q1, .null, .null, .null, .int 0])), (q1, .inl (c1, 16, .inl (fun _ => 0))), (q2, .inl (c2, 16, .inl (fun _ => 0)))] H := hP
  have hD : va_D A [(h0, .inr (3, [.ref q1, .null, .null, .null, .int 0])), (q1, .inl (c1, 16, .inl (fun _ => 0))), (q2, .inl (c2, 16, .inl (fun _ => 0)))] := hD
  have hK : va_K (dC, dI) vwCl [(c1, .int), (c2, .int)] s := hK
  refine W.widen (k := 2) (n := 32) (Nat.le_of_ble_eq_true rfl) (Nat.le_of_ble_eq_true rfl) ?_
  refine va_putF (D := (dC, dI)) (ci := 3) (v := .ref q2) (ty := (.array .int)) (C := "ServiceThreads$Calls") (T := TXc) (N := 5) hx hb hta inXc tyXc tyXc_ok nmXc hown hK hP hD hS 0 rfl rfl 1 (by decide) (hta _ wt_72) (fun _ h9 => h9) rfl hin rfl (by decide +kernel) rfl rfl (Nat.le_of_ble_eq_true rfl) dXc_init_17 (fun H locs hP hD hS => ?_)
  have hP : va_P (dC, dI) vwCl [(h0, .inr (3, [.ref q1, .ref q2, .null, .null, .int 0])), (q1, .inl (c1, 16, .inl (fun _ => 0))), (q2, .inl (c2, 16, .inl (fun _ => 0)))] H := hP
  have hD : va_D A [(h0, .inr (3, [.ref q1, .ref q2, .null, .null, .int 0])), (q1, .inl (c1, 16, .inl (fun _ => 0))), (q2, .inl (c2, 16, .inl (fun _ => 0)))] := hD
  refine lv_aload_n hx hb dXc_init_20 rfl (lv_at hl 0 rfl) ?_
  refine lv_bipush (v := 16) hx hb dXc_init_21 (by decide) ?_
  refine va_newa (atype := .int) (N' := 16) (a0 := (16, .inl (fun _ => 0))) (ty := .int) (n := 16) hx hb (hta _ wt_46) rfl hK hP hD hS hA (fun _ => rfl) (by decide) (by decide) (by decide) (Nat.le_of_ble_eq_true rfl) (Nat.le_of_ble_eq_true rfl) dXc_init_23 (fun q3 c3 H hK hP hD hS => ?_)
  have hP : va_P (dC, dI) vwCl [(h0, .inr (3, [.ref q1, .ref q2, .null, .null, .int 0])), (q1, .inl (c1, 16, .inl (fun _ => 0))), (q2, .inl (c2, 16, .inl (fun _ => 0))), (q3, .inl (c3, 16, .inl (fun _ => 0)))] H := hP
  have hD : va_D A [(h0, .inr (3, [.ref q1, .ref q2, .null, .null, .int 0])), (q1, .inl (c1, 16, .inl (fun _ => 0))), (q2, .inl (c2, 16, .inl (fun _ => 0))), (q3, .inl (c3, 16, .inl (fun _ => 0)))] := hD
  have hK : va_K (dC, dI) vwCl [(c1, .int), (c2, .int), (c3, .int)] s := hK
  refine W.widen (k := 3) (n := 48) (Nat.le_of_ble_eq_true rfl) (Nat.le_of_ble_eq_true rfl) ?_
  refine va_putF (D := (dC, dI)) (ci := 3) (v := .ref q3) (ty := (.array .int)) (C := "ServiceThreads$Calls") (T := TXc) (N := 5) hx hb hta inXc tyXc tyXc_ok nmXc hown hK hP hD hS 0 rfl rfl 2 (by decide) (hta _ wt_74) (fun _ h9 => h9) rfl hin rfl (by decide +kernel) rfl rfl (Nat.le_of_ble_eq_true rfl) dXc_init_25 (fun H locs hP hD hS => ?_)
  have hP : va_P (dC, dI) vwCl [(h0, .inr (3, [.ref q1, .ref q2, .ref q3, .null, .int 0])), (q1, .inl (c1, 16, .inl (fun _ => 0))), (q2, .inl (c2, 16, .inl (fun _ => 0))), (q3, .inl (c3, 16, .inl (fun _ => 0)))] H := hP
  have hD : va_D A [(h0, .inr (3, [.ref q1, .ref q2, .ref q3, .null, .int 0])), (q1, .inl (c1, 16, .inl (fun _ => 0))), (q2, .inl (c2, 16, .inl (fun _ => 0))), (q3, .inl (c3, 16, .inl (fun _ => 0)))] := hD
  refine lv_aload_n hx hb dXc_init_28 rfl (lv_at hl 0 rfl) ?_
  refine lv_bipush (v := 16) hx hb dXc_init_29 (by decide) ?_
  refine va_newa (atype := .boolean) (N' := 16) (a0 := (16, .inl (fun _ => 0))) (ty := .boolean) (n := 16) hx hb (hta _ wt_90) rfl hK hP hD hS hA (fun _ => rfl) (by decide) (by decide) (by decide) (Nat.le_of_ble_eq_true rfl) (Nat.le_of_ble_eq_true rfl) dXc_init_31 (fun q4 c4 H hK hP hD hS => ?_)
  have hP : va_P (dC, dI) vwCl [(h0, .inr (3, [.ref q1, .ref q2, .ref q3, .null, .int 0])), (q1, .inl (c1, 16, .inl (fun _ => 0))), (q2, .inl (c2, 16, .inl (fun _ => 0))), (q3, .inl (c3, 16, .inl (fun _ => 0))), (q4, .inl (c4, 16, .inl (fun _ => 0)))] H := hP
  have hD : va_D A [(h0, .inr (3, [.ref q1, .ref q2, .ref q3, .null, .int 0])), (q1, .inl (c1, 16, .inl (fun _ => 0))), (q2, .inl (c2, 16, .inl (fun _ => 0))), (q3, .inl (c3, 16, .inl (fun _ => 0))), (q4, .inl (c4, 16, .inl (fun _ => 0)))] := hD
  have hK : va_K (dC, dI) vwCl [(c1, .int), (c2, .int), (c3, .int), (c4, .boolean)] s := hK
  refine W.widen (k := 4) (n := 64) (Nat.le_of_ble_eq_true rfl) (Nat.le_of_ble_eq_true rfl) ?_
  refine va_putF (D := (dC, dI)) (ci := 3) (v := .ref q4) (ty := (.array .boolean)) (C := "ServiceThreads$Calls") (T := TXc) (N := 5) hx hb hta inXc tyXc tyXc_ok nmXc hown hK hP hD hS 0 rfl rfl 3 (by decide) (hta _ wt_76) (fun _ h9 => h9) rfl hin rfl (by decide +kernel) rfl rfl (Nat.le_of_ble_eq_true rfl) dXc_init_33 (fun H locs hP hD hS => ?_)
  have hP : va_P (dC, dI) vwCl [(h0, .inr (3, [.ref q1, .ref q2, .ref q3, .ref q4, .int 0])), (q1, .inl (c1, 16, .inl (fun _ => 0))), (q2, .inl (c2, 16, .inl (fun _ => 0))), (q3, .inl (c3, 16, .inl (fun _ => 0))), (q4, .inl (c4, 16, .inl (fun _ => 0)))] H := hP
  have hD : va_D A [(h0, .inr (3, [.ref q1, .ref q2, .ref q3, .ref q4, .int 0])), (q1, .inl (c1, 16, .inl (fun _ => 0))), (q2, .inl (c2, 16, .inl (fun _ => 0))), (q3, .inl (c3, 16, .inl (fun _ => 0))), (q4, .inl (c4, 16, .inl (fun _ => 0)))] := hD
  refine lv_aload_n hx hb dXc_init_36 rfl (lv_at hl 0 rfl) ?_
  refine va_get (D := (dC, dI)) (ci := 3) (v := .ref q2) (C := "ServiceThreads$Calls") (T := TXc) (N := 5) hx hb hta inXc hown hK hP 0 rfl rfl 1 (by decide) (hta _ wt_72) (fun _ h9 => h9) rfl dXc_init_37 ?_
  refine lv_iconst (v := (-1)) hx hb dXc_init_40 (by decide) ?_
  have hPc : va_P (dC, dI) vwCl (wF 16 (fun _ => q2) (fun _ => c2) (fun _ => (fun _ => 0))) H := hP.sub (ws' := [(q2, .inl (c2, 16, .inl (fun _ => 0)))]) [2] rfl
  have hDc : va_D A (wF 16 (fun _ => q2) (fun _ => c2) (fun _ => (fun _ => 0))) := hD.sub (ws' := [(q2, .inl (c2, 16, .inl (fun _ => 0)))]) [2] (by decide) rfl
  have hKc : va_K (dC, dI) vwCl (tF (fun _ => c2)) s := hK.sub (tys' := [(c2, .int)]) [1] rfl
  have hFc := va_free (wc := [(q2, .inl (c2, 16, .inl (fun _ => 0)))]) hD hS hA [2] rfl
  refine va_callv (va_runS (As := [.ref q2, .int (-1)]) (rest := []) ⟨hx, hb, hml, hown, hta⟩ (mtXf_fill l dC dI 16 (fun _ => q2) (fun _ => c2) H.size (-1) (fun _ => (fun _ => 0)) (fun M => ∀ j : Nat, j < 16 → M 0 j = (-1)) (fill_ok (by decide) _ _)) (va_cwS 2 hta (giS wt_69 wt_31 wt_3 wt_32) rfl rfl rfl (by decide +kernel) ⟨(Nat.le_of_ble_eq_true rfl), (Nat.le_of_ble_eq_true rfl)⟩) ⟨pW_blind, pW_of hKc hPc hDc⟩ rfl rfl hl.1 rfl (lv_room (Nat.le_of_ble_eq_true rfl)) dXc_init_41 ⟨(Nat.le_of_ble_eq_true rfl), (Nat.le_of_ble_eq_true rfl)⟩) hS (fun q _ h => hFc q h) hFc (fun f5 t H1 locs ht hvm hw hB hz1 hk1 hS => ?_)
  obtain ⟨hP1, hK1, hD1⟩ := hB
  rw [ht] at hP1
  obtain ⟨hP, hD⟩ := va_join (wr := [(h0, .inr (3, [.ref q1, .ref q2, .ref q3, .ref q4, .int 0])), (q1, .inl (c1, 16, .inl (fun _ => 0))), (q3, .inl (c3, 16, .inl (fun _ => 0))), (q4, .inl (c4, 16, .inl (fun _ => 0)))]) (w1 := [(q2, .inl (c2, 16, .inl (f5 0)))]) hP hD [2] [0, 1, 3, 4] rfl rfl (by decide) (by decide) hk1 hFc hP1 hD1
  generalize H1 = H at hP hS ⊢
  have hwf5 : ∀ j : Nat, j < 16 → f5 0 j = (-1) := hw
  have hP := hP.sub (ws' := [(h0, .inr (3, [.ref q1, .ref q2, .ref q3, .ref q4, .int 0])), (q1, .inl (c1, 16, .inl (fun _ => 0))), (q2, .inl (c2, 16, .inl (f5 0))), (q3, .inl (c3, 16, .inl (fun _ => 0))), (q4, .inl (c4, 16, .inl (fun _ => 0)))]) [0, 1, 4, 2, 3] rfl
  have hD := hD.sub (ws' := [(h0, .inr (3, [.ref q1, .ref q2, .ref q3, .ref q4, .int 0])), (q1, .inl (c1, 16, .inl (fun _ => 0))), (q2, .inl (c2, 16, .inl (f5 0))), (q3, .inl (c3, 16, .inl (fun _ => 0))), (q4, .inl (c4, 16, .inl (fun _ => 0)))]) [0, 1, 4, 2, 3] (by decide) rfl
  refine lv_aload_n hx hb dXc_init_44 rfl (lv_at hl 0 rfl) ?_
  refine va_get (D := (dC, dI)) (ci := 3) (v := .ref q3) (C := "ServiceThreads$Calls") (T := TXc) (N := 5) hx hb hta inXc hown hK hP 0 rfl rfl 2 (by decide) (hta _ wt_74) (fun _ h9 => h9) rfl dXc_init_45 ?_
  refine lv_iconst (v := (-1)) hx hb dXc_init_48 (by decide) ?_
  have hPc : va_P (dC, dI) vwCl (wF 16 (fun _ => q3) (fun _ => c3) (fun _ => (fun _ => 0))) H := hP.sub (ws' := [(q3, .inl (c3, 16, .inl (fun _ => 0)))]) [3] rfl
  have hDc : va_D A (wF 16 (fun _ => q3) (fun _ => c3) (fun _ => (fun _ => 0))) := hD.sub (ws' := [(q3, .inl (c3, 16, .inl (fun _ => 0)))]) [3] (by decide) rfl
  have hKc : va_K (dC, dI) vwCl (tF (fun _ => c3)) s := hK.sub (tys' := [(c3, .int)]) [2] rfl
  have hFc := va_free (wc := [(q3, .inl (c3, 16, .inl (fun _ => 0)))]) hD hS hA [3] rfl
  refine va_callv (va_runS (As := [.ref q3, .int (-1)]) (rest := []) ⟨hx, hb, hml, hown, hta⟩ (mtXf_fill l dC dI 16 (fun _ => q3) (fun _ => c3) H.size (-1) (fun _ => (fun _ => 0)) (fun M => ∀ j : Nat, j < 16 → M 0 j = (-1)) (fill_ok (by decide) _ _)) (va_cwS 2 hta (giS wt_69 wt_31 wt_3 wt_32) rfl rfl rfl (by decide +kernel) ⟨(Nat.le_of_ble_eq_true rfl), (Nat.le_of_ble_eq_true rfl)⟩) ⟨pW_blind, pW_of hKc hPc hDc⟩ rfl rfl hl.1 rfl (lv_room (Nat.le_of_ble_eq_true rfl)) dXc_init_49 ⟨(Nat.le_of_ble_eq_true rfl), (Nat.le_of_ble_eq_true rfl)⟩) hS (fun q _ h => hFc q h) hFc (fun f6 t H1 locs ht hvm hw hB hz1 hk1 hS => ?_)
  obtain ⟨hP1, hK1, hD1⟩ := hB
  rw [ht] at hP1
  obtain ⟨hP, hD⟩ := va_join (wr := [(h0, .inr (3, [.ref q1, .ref q2, .ref q3, .ref q4, .int 0])), (q1, .inl (c1, 16, .inl (fun _ => 0))), (q2, .inl (c2, 16, .inl (f5 0))), (q4, .inl (c4, 16, .inl (fun _ => 0)))]) (w1 := [(q3, .inl (c3, 16, .inl (f6 0)))]) hP hD [3] [0, 1, 2, 4] rfl rfl (by decide) (by decide) hk1 hFc hP1 hD1
  generalize H1 = H at hP hS ⊢
  have hwf6 : ∀ j : Nat, j < 16 → f6 0 j = (-1) := hw
  have hP := hP.sub (ws' := [(h0, .inr (3, [.ref q1, .ref q2, .ref q3, .ref q4, .int 0])), (q1, .inl (c1, 16, .inl (fun _ => 0))), (q2, .inl (c2, 16, .inl (f5 0))), (q3, .inl (c3, 16, .inl (f6 0))), (q4, .inl (c4, 16, .inl (fun _ => 0)))]) [0, 1, 2, 4, 3] rfl
  have hD := hD.sub (ws' := [(h0, .inr (3, [.ref q1, .ref q2, .ref q3, .ref q4, .int 0])), (q1, .inl (c1, 16, .inl (fun _ => 0))), (q2, .inl (c2, 16, .inl (f5 0))), (q3, .inl (c3, 16, .inl (f6 0))), (q4, .inl (c4, 16, .inl (fun _ => 0)))]) [0, 1, 2, 4, 3] (by decide) rfl
  refine lv_aload_n hx hb dXc_init_52 rfl (lv_at hl 0 rfl) ?_
  refine lv_iconst (v := 0) hx hb dXc_init_53 (by decide) ?_
  refine va_put (D := (dC, dI)) (ci := 3) (v := .int 0) (ty := .int) (C := "ServiceThreads$Calls") (T := TXc) (N := 5) hx hb hta inXc tyXc tyXc_ok nmXc hown hK hP hD hS 0 rfl rfl 4 (by decide) (hta _ wt_78) (fun _ h9 => h9) rfl (by decide +kernel) rfl rfl (Nat.le_of_ble_eq_true rfl) dXc_init_54 (fun H locs hP hD hS => ?_)
  have hP : va_P (dC, dI) vwCl [(h0, .inr (3, [.ref q1, .ref q2, .ref q3, .ref q4, .int 0])), (q1, .inl (c1, 16, .inl (fun _ => 0))), (q2, .inl (c2, 16, .inl (f5 0))), (q3, .inl (c3, 16, .inl (f6 0))), (q4, .inl (c4, 16, .inl (fun _ => 0)))] H := hP
  have hD : va_D A [(h0, .inr (3, [.ref q1, .ref q2, .ref q3, .ref q4, .int 0])), (q1, .inl (c1, 16, .inl (fun _ => 0))), (q2, .inl (c2, 16, .inl (f5 0))), (q3, .inl (c3, 16, .inl (f6 0))), (q4, .inl (c4, 16, .inl (fun _ => 0)))] := hD
  have hP9 := hP.sub (ws' := [(h0, .inr (3, [.ref q1, .ref q2, .ref q3, .ref q4, .int 0])), (q1, .inl (c1, 16, .inl (fun _ => 0))), (q2, .inl (c2, 16, .inl (f5 0))), (q3, .inl (c3, 16, .inl (f6 0))), (q4, .inl (c4, 16, .inl (fun _ => 0)))]) [0, 1, 2, 3, 4] rfl
  have hD9 := hD.sub (ws' := [(h0, .inr (3, [.ref q1, .ref q2, .ref q3, .ref q4, .int 0])), (q1, .inl (c1, 16, .inl (fun _ => 0))), (q2, .inl (c2, 16, .inl (f5 0))), (q3, .inl (c3, 16, .inl (f6 0))), (q4, .inl (c4, 16, .inl (fun _ => 0)))]) [0, 1, 2, 3, 4] (by decide) rfl
  have hK9 := hK.sub (tys' := [(c1, .int), (c2, .int), (c3, .int), (c4, .boolean)]) [0, 1, 2, 3] rfl
  exact W.vret hx hb hr (fun t ht hW => ⟨⟨(), rfl, trivial, q1, q2, q3, q4, c1, c2, c3, c4, f5, f6, hwf5, hwf6,  by rw [ht]; exact hP9, va_K.moved hW.alike hK9, hD9⟩, hS.F ht⟩) hS.2.2 dXc_init_57 hlocks
abbrev BXr_init (dC : Nat → ClassId) (dI : Nat → Nat → Nat) (A : Nat → Prop) (h0 : Nat) (_ : Unit) (t : State) : Prop := ∃ (q1 : Nat) (q2 : Nat) (q3 : Nat) (q4 : Nat) (c1 : ClassId) (c2 : ClassId) (c3 : ClassId) (c4 : ClassId), va_P (dC, dI) vwCl [(h0, .inr (4, [.ref q1, .ref q2, .ref q3, .ref q4, .int 0])), (q1, .inl (c1, 100, .inl (fun _ => 0))), (q2, .inl (c2, 100, .inl (fun _ => 0))), (q3, .inl (c3, 100, .inl (fun _ => 0))), (q4, .inl (c4, 100, .inl (fun _ => 0)))] t.heap ∧ va_K (dC, dI) vwCl [(c1, .int), (c2, .int), (c3, .int), (c4, .int)] t ∧ va_D A [(h0, .inr (4, [.ref q1, .ref q2, .ref q3, .ref q4, .int 0])), (q1, .inl (c1, 100, .inl (fun _ => 0))), (q2, .inl (c2, 100, .inl (fun _ => 0))), (q3, .inl (c3, 100, .inl (fun _ => 0))), (q4, .inl (c4, 100, .inl (fun _ => 0)))]
set_option maxHeartbeats 4000000 in
set_option maxRecDepth 100000 in
theorem mtXr_init (l : Launch) (dC : Nat → ClassId) (dI : Nat → Nat → Nat) (h0 sz : Nat) : Met l yXr_init (wsA yXr_init cXr_init 1 none) ({ frames := 1, cells := 4, slots := 400, locals := 12 }) (va_Pc [.ref h0] (pW (dC, dI) vwCl (fun _ : Unit => [(h0, .inr (4, [.null, .null, .null, .null, .int 0]))]) [] sz ())) (va_Qv (fun _ : Unit => True) (BXr_init dC dI (va_A [(h0, .inr (4, [.null, .null, .null, .null, .int 0]))] sz) h0) (va_A [(h0, .inr (4, [.null, .null, .null, .null, .int 0]))] sz)) 4 400 (va_A [(h0, .inr (4, [.null, .null, .null, .null, .int 0]))] sz) := by
  refine Met.ofW (cc := cXr_init) (maxL := 1) (ret := none) (by decide) rfl ?_
  intro p e s m args below meth c s₁ B hml hv
  obtain ⟨rfl, hsz, hP, hK, hD0⟩ := hv
  have hx := B.exec
  have hb := B.bytes
  have hr := B.returns
  have hts := atoms_spec (ws := (wsA yXr_init cXr_init 1 none)) B.pre
  have hta : ∀ w ∈ wsG, w.before _ s = true := fun w h => hts w (List.mem_cons_of_mem _ h)
  have hown : s.vm.findClass "ServiceThreads$Rows" = some m.cls := findClass_of_methodNamed B.named
  have hlocks := B.notSynchronized
  have hin : meth.name = "<init>" := (name_of_methodNamed B.named B.method).1
  subst hsz
  have hD := hD0.self (sz := s.heap.size)
  generalize hAe : va_A _ s.heap.size = A at hD ⊢
  have hA : ∀ q : Nat, s.heap.size ≤ q → A q := fun q h => by rw [← hAe]; exact Or.inr h
  have hS : va_S A s.heap s.heap [] := va_S.rf
  have hP : va_P (dC, dI) vwCl [(h0, .inr (4, [.null, .null, .null, .null, .int 0]))] s.heap := hP
  skip
  have hD : va_D A [(h0, .inr (4, [.null, .null, .null, .null, .int 0]))] := hD
  have hl := lv_entry ([.ref h0]) (n := 1) (Nat.le_of_ble_eq_true rfl)
  rw [lg_entry_eq]
  generalize (lg_sl ([.ref h0]) ++ List.replicate (1 - (lg_sl ([.ref h0])).length) Slot.unset).toArray = ls at hl ⊢
  have hl : lv_has ls 1 [(0, .ref h0)] := hl
  refine lv_aload_n hx hb dXr_init_0 rfl (lv_at hl 0 rfl) ?_
  refine W.objInit hx hb hown (hta _ wt_96) (hta _ wt_22) (hta (.code objectInit ⟨#[0xb1]⟩ 1 none) (wsG_of (by decide +kernel) (by decide +kernel))) rfl (by rw [hml]; exact hl.1) rfl dXr_init_1 (Nat.le_of_ble_eq_true rfl) (Nat.le_of_ble_eq_true rfl) ?_
  refine W.eq (g2 := F0 m 4 ls []) rfl ?_
  refine lv_aload_n hx hb dXr_init_4 rfl (lv_at hl 0 rfl) ?_
  refine lv_bipush (v := 100) hx hb dXr_init_5 (by decide) ?_
  refine va_newa (atype := .int) (N' := 100) (a0 := (100, .inl (fun _ => 0))) (ty := .int) (n := 100) hx hb (hta _ wt_46) rfl hK hP hD hS hA (fun _ => rfl) (by decide) (by decide) (by decide) (Nat.le_of_ble_eq_true rfl) (Nat.le_of_ble_eq_true rfl) dXr_init_7 (fun q1 c1 H hK hP hD hS => ?_)
  have hP : va_P (dC, dI) vwCl [(h0, .inr (4, [.null, .null, .null, .null, .int 0])), (q1, .inl (c1, 100, .inl (fun _ => 0)))] H := hP
  have hD : va_D A [(h0, .inr (4, [.null, .null, .null, .null, .int 0])), (q1, .inl (c1, 100, .inl (fun _ => 0)))] := hD
  have hK : va_K (dC, dI) vwCl [(c1, .int)] s := hK
  refine W.widen (k := 1) (n := 100) (Nat.le_of_ble_eq_true rfl) (Nat.le_of_ble_eq_true rfl) ?_
  refine va_putF (D := (dC, dI)) (ci := 4) (v := .ref q1) (ty := (.array .int)) (C := "ServiceThreads$Rows") (T := TXr) (N := 5) hx hb hta inXr tyXr tyXr_ok nmXr hown hK hP hD hS 0 rfl rfl 0 (by decide) (hta _ wt_97) (fun _ h9 => h9) rfl hin rfl (by decide +kernel) rfl rfl (Nat.le_of_ble_eq_true rfl) dXr_init_9 (fun H locs hP hD hS => ?_)
  have hP : va_P (dC, dI) vwCl [(h0, .inr (4, [.ref q1, .null, .null, .null, .int 0])), (q1, .inl (c1, 100, .inl (fun _ => 0)))] H := hP
  have hD : va_D A [(h0, .inr (4, [.ref q1, .null, .null, .null, .int 0])), (q1, .inl (c1, 100, .inl (fun _ => 0)))] := hD
  refine lv_aload_n hx hb dXr_init_12 rfl (lv_at hl 0 rfl) ?_
  refine lv_bipush (v := 100) hx hb dXr_init_13 (by decide) ?_
  refine va_newa (atype := .int) (N' := 100) (a0 := (100, .inl (fun _ => 0))) (ty := .int) (n := 100) hx hb (hta _ wt_46) rfl hK hP hD hS hA (fun _ => rfl) (by decide) (by decide) (by decide) (Nat.le_of_ble_eq_true rfl) (Nat.le_of_ble_eq_true rfl) dXr_init_15 (fun q2 c2 H hK hP hD hS => ?_)
  have hP : va_P (dC, dI) vwCl [(h0, .inr (4, [.ref q1, .null, .null, .null, .int 0])), (q1, .inl (c1, 100, .inl (fun _ => 0))), (q2, .inl (c2, 100, .inl (fun _ => 0)))] H := hP
  have hD : va_D A [(h0, .inr (4, [.ref q1, .null, .null, .null, .int 0])), (q1, .inl (c1, 100, .inl (fun _ => 0))), (q2, .inl (c2, 100, .inl (fun _ => 0)))] := hD
  have hK : va_K (dC, dI) vwCl [(c1, .int), (c2, .int)] s := hK
  refine W.widen (k := 2) (n := 200) (Nat.le_of_ble_eq_true rfl) (Nat.le_of_ble_eq_true rfl) ?_
  refine va_putF (D := (dC, dI)) (ci := 4) (v := .ref q2) (ty := (.array .int)) (C := "ServiceThreads$Rows") (T := TXr) (N := 5) hx hb hta inXr tyXr tyXr_ok nmXr hown hK hP hD hS 0 rfl rfl 1 (by decide) (hta _ wt_99) (fun _ h9 => h9) rfl hin rfl (by decide +kernel) rfl rfl (Nat.le_of_ble_eq_true rfl) dXr_init_17 (fun H locs hP hD hS => ?_)
  have hP : va_P (dC, dI) vwCl [(h0, .inr (4, [.ref q1, .ref q2, .null, .null, .int 0])), (q1, .inl (c1, 100, .inl (fun _ => 0))), (q2, .inl (c2, 100, .inl (fun _ => 0)))] H := hP
  have hD : va_D A [(h0, .inr (4, [.ref q1, .ref q2, .null, .null, .int 0])), (q1, .inl (c1, 100, .inl (fun _ => 0))), (q2, .inl (c2, 100, .inl (fun _ => 0)))] := hD
  refine lv_aload_n hx hb dXr_init_20 rfl (lv_at hl 0 rfl) ?_
  refine lv_bipush (v := 100) hx hb dXr_init_21 (by decide) ?_
  refine va_newa (atype := .int) (N' := 100) (a0 := (100, .inl (fun _ => 0))) (ty := .int) (n := 100) hx hb (hta _ wt_46) rfl hK hP hD hS hA (fun _ => rfl) (by decide) (by decide) (by decide) (Nat.le_of_ble_eq_true rfl) (Nat.le_of_ble_eq_true rfl) dXr_init_23 (fun q3 c3 H hK hP hD hS => ?_)
  have hP : va_P (dC, dI) vwCl [(h0, .inr (4, [.ref q1, .ref q2, .null, .null, .int 0])), (q1, .inl (c1, 100, .inl (fun _ => 0))), (q2, .inl (c2, 100, .inl (fun _ => 0))), (q3, .inl (c3, 100, .inl (fun _ => 0)))] H := hP
  have hD : va_D A [(h0, .inr (4, [.ref q1, .ref q2, .null, .null, .int 0])), (q1, .inl (c1, 100, .inl (fun _ => 0))), (q2, .inl (c2, 100, .inl (fun _ => 0))), (q3, .inl (c3, 100, .inl (fun _ => 0)))] := hD
  have hK : va_K (dC, dI) vwCl [(c1, .int), (c2, .int), (c3, .int)] s := hK
  refine W.widen (k := 3) (n := 300) (Nat.le_of_ble_eq_true rfl) (Nat.le_of_ble_eq_true rfl) ?_
  refine va_putF (D := (dC, dI)) (ci := 4) (v := .ref q3) (ty := (.array .int)) (C := "ServiceThreads$Rows") (T := TXr) (N := 5) hx hb hta inXr tyXr tyXr_ok nmXr hown hK hP hD hS 0 rfl rfl 2 (by decide) (hta _ wt_101) (fun _ h9 => h9) rfl hin rfl (by decide +kernel) rfl rfl (Nat.le_of_ble_eq_true rfl) dXr_init_25 (fun H locs hP hD hS => ?_)
  have hP : va_P (dC, dI) vwCl [(h0, .inr (4, [.ref q1, .ref q2, .ref q3, .null, .int 0])), (q1, .inl (c1, 100, .inl (fun _ => 0))), (q2, .inl (c2, 100, .inl (fun _ => 0))), (q3, .inl (c3, 100, .inl (fun _ => 0)))] H := hP
  have hD : va_D A [(h0, .inr (4, [.ref q1, .ref q2, .ref q3, .null, .int 0])), (q1, .inl (c1, 100, .inl (fun _ => 0))), (q2, .inl (c2, 100, .inl (fun _ => 0))), (q3, .inl (c3, 100, .inl (fun _ => 0)))] := hD
  refine lv_aload_n hx hb dXr_init_28 rfl (lv_at hl 0 rfl) ?_
  refine lv_bipush (v := 100) hx hb dXr_init_29 (by decide) ?_
  refine va_newa (atype := .int) (N' := 100) (a0 := (100, .inl (fun _ => 0))) (ty := .int) (n := 100) hx hb (hta _ wt_46) rfl hK hP hD hS hA (fun _ => rfl) (by decide) (by decide) (by decide) (Nat.le_of_ble_eq_true rfl) (Nat.le_of_ble_eq_true rfl) dXr_init_31 (fun q4 c4 H hK hP hD hS => ?_)
  have hP : va_P (dC, dI) vwCl [(h0, .inr (4, [.ref q1, .ref q2, .ref q3, .null, .int 0])), (q1, .inl (c1, 100, .inl (fun _ => 0))), (q2, .inl (c2, 100, .inl (fun _ => 0))), (q3, .inl (c3, 100, .inl (fun _ => 0))), (q4, .inl (c4, 100, .inl (fun _ => 0)))] H := hP
  have hD : va_D A [(h0, .inr (4, [.ref q1, .ref q2, .ref q3, .null, .int 0])), (q1, .inl (c1, 100, .inl (fun _ => 0))), (q2, .inl (c2, 100, .inl (fun _ => 0))), (q3, .inl (c3, 100, .inl (fun _ => 0))), (q4, .inl (c4, 100, .inl (fun _ => 0)))] := hD
  have hK : va_K (dC, dI) vwCl [(c1, .int), (c2, .int), (c3, .int), (c4, .int)] s := hK
  refine W.widen (k := 4) (n := 400) (Nat.le_of_ble_eq_true rfl) (Nat.le_of_ble_eq_true rfl) ?_
  refine va_putF (D := (dC, dI)) (ci := 4) (v := .ref q4) (ty := (.array .int)) (C := "ServiceThreads$Rows") (T := TXr) (N := 5) hx hb hta inXr tyXr tyXr_ok nmXr hown hK hP hD hS 0 rfl rfl 3 (by decide) (hta _ wt_103) (fun _ h9 => h9) rfl hin rfl (by decide +kernel) rfl rfl (Nat.le_of_ble_eq_true rfl) dXr_init_33 (fun H locs hP hD hS => ?_)
  have hP : va_P (dC, dI) vwCl [(h0, .inr (4, [.ref q1, .ref q2, .ref q3, .ref q4, .int 0])), (q1, .inl (c1, 100, .inl (fun _ => 0))), (q2, .inl (c2, 100, .inl (fun _ => 0))), (q3, .inl (c3, 100, .inl (fun _ => 0))), (q4, .inl (c4, 100, .inl (fun _ => 0)))] H := hP
  have hD : va_D A [(h0, .inr (4, [.ref q1, .ref q2, .ref q3, .ref q4, .int 0])), (q1, .inl (c1, 100, .inl (fun _ => 0))), (q2, .inl (c2, 100, .inl (fun _ => 0))), (q3, .inl (c3, 100, .inl (fun _ => 0))), (q4, .inl (c4, 100, .inl (fun _ => 0)))] := hD
  refine lv_aload_n hx hb dXr_init_36 rfl (lv_at hl 0 rfl) ?_
  refine lv_iconst (v := 0) hx hb dXr_init_37 (by decide) ?_
  refine va_put (D := (dC, dI)) (ci := 4) (v := .int 0) (ty := .int) (C := "ServiceThreads$Rows") (T := TXr) (N := 5) hx hb hta inXr tyXr tyXr_ok nmXr hown hK hP hD hS 0 rfl rfl 4 (by decide) (hta _ wt_105) (fun _ h9 => h9) rfl (by decide +kernel) rfl rfl (Nat.le_of_ble_eq_true rfl) dXr_init_38 (fun H locs hP hD hS => ?_)
  have hP : va_P (dC, dI) vwCl [(h0, .inr (4, [.ref q1, .ref q2, .ref q3, .ref q4, .int 0])), (q1, .inl (c1, 100, .inl (fun _ => 0))), (q2, .inl (c2, 100, .inl (fun _ => 0))), (q3, .inl (c3, 100, .inl (fun _ => 0))), (q4, .inl (c4, 100, .inl (fun _ => 0)))] H := hP
  have hD : va_D A [(h0, .inr (4, [.ref q1, .ref q2, .ref q3, .ref q4, .int 0])), (q1, .inl (c1, 100, .inl (fun _ => 0))), (q2, .inl (c2, 100, .inl (fun _ => 0))), (q3, .inl (c3, 100, .inl (fun _ => 0))), (q4, .inl (c4, 100, .inl (fun _ => 0)))] := hD
  have hP9 := hP.sub (ws' := [(h0, .inr (4, [.ref q1, .ref q2, .ref q3, .ref q4, .int 0])), (q1, .inl (c1, 100, .inl (fun _ => 0))), (q2, .inl (c2, 100, .inl (fun _ => 0))), (q3, .inl (c3, 100, .inl (fun _ => 0))), (q4, .inl (c4, 100, .inl (fun _ => 0)))]) [0, 1, 2, 3, 4] rfl
  have hD9 := hD.sub (ws' := [(h0, .inr (4, [.ref q1, .ref q2, .ref q3, .ref q4, .int 0])), (q1, .inl (c1, 100, .inl (fun _ => 0))), (q2, .inl (c2, 100, .inl (fun _ => 0))), (q3, .inl (c3, 100, .inl (fun _ => 0))), (q4, .inl (c4, 100, .inl (fun _ => 0)))]) [0, 1, 2, 3, 4] (by decide) rfl
  have hK9 := hK.sub (tys' := [(c1, .int), (c2, .int), (c3, .int), (c4, .int)]) [0, 1, 2, 3] rfl
  exact W.vret hx hb hr (fun t ht hW => ⟨⟨(), rfl, trivial, q1, q2, q3, q4, c1, c2, c3, c4,  by rw [ht]; exact hP9, va_K.moved hW.alike hK9, hD9⟩, hS.F ht⟩) hS.2.2 dXr_init_41 hlocks
