def wpXl_act (p1 : Int32) (p2 : Int32) (p3 : Int32) (M : Mm) (o : Nat → Int64) (post : Int32 → Mm × (Nat → Int64) → Prop) : Prop := (wpXs_act p1 p2 p3 M (fun r M' => post 0 (M', vp_updL o 0 r.toInt64)) (fun _ _ => False)) ∨ (wpXs_act p1 p2 p3 M (fun _ _ => False) (fun k9 M' => (k9 = 0 ∧ post 1 (M', o)) ∨ (k9 = 1 ∧ post 2 (M', o)) ∨ (k9 = 2 ∧ post 3 (M', o)) ∨ (k9 = 3 ∧ post 4 (M', o))))
set_option maxHeartbeats 4000000 in
set_option maxRecDepth 100000 in
theorem mtXl_act (l : Launch) (hl9 : l.stackTraces = false) (dC : Nat → ClassId) (dI : Nat → Nat → Nat) (q : Nat → Nat) (dA : Nat → ClassId) (qo : Nat) (dO : ClassId) (sz : Nat) (p1 : Int32) (p2 : Int32) (p3 : Int32) (M : Mm) (o : Nat → Int64) (post : Int32 → Mm × (Nat → Int64) → Prop) (hw : wpXl_act p1 p2 p3 M o post) : Met l yXl_act (wsH yXl_act cXl_act 6 (some .int) [(0, 12, 15, 13), (0, 12, 19, 15), (0, 12, 23, 17), (0, 12, 27, 19)]) ({ frames := 8, cells := 1, slots := 6, locals := 126 }) (va_Pc [.ref (q 0), .int p1, .int p2, .int p3, .ref qo] (pWx (dC, dI) vwCl (wH q dA qo dO) (tH dA dO) sL sz (M, o))) (va_Qi post (bW (dC, dI) vwCl (wH q dA qo dO) (tH dA dO) (va_A (wH q dA qo dO (M, o)) sz)) (va_A (wH q dA qo dO (M, o)) sz)) 1 6 (va_A (wH q dA qo dO (M, o)) sz) := by
  refine va_MetW (cc := cXl_act) (maxL := 6) (ret := (some .int)) (hh := [(0, 12, 15, 13), (0, 12, 19, 15), (0, 12, 23, 17), (0, 12, 27, 19)]) (by decide) rfl ?_
  intro p e s m args below meth c s₁ B hml hv
  obtain ⟨rfl, hsz, hP, hK, hD0, hZ, hsp⟩ := hv
  have hx := B.exec
  have hb := B.bytes
  have hr := B.returns
  have hts := atoms_spec (ws := (wsH yXl_act cXl_act 6 (some .int) [(0, 12, 15, 13), (0, 12, 19, 15), (0, 12, 23, 17), (0, 12, 27, 19)])) B.pre
  have hta : ∀ w ∈ wsG, w.before _ s = true := fun w h => hts w (List.mem_cons_of_mem _ h)
  have hown : s.vm.findClass "ServiceThreadsLaw" = some m.cls := findClass_of_methodNamed B.named
  have hlocks := B.notSynchronized
  have hTab : c.exceptionTable.toList = tableOf [(0, 12, 15, 13), (0, 12, 19, 15), (0, 12, 23, 17), (0, 12, 27, 19)] := vx_table (x := yXl_act) B (hts _ List.mem_cons_self)
  subst hsz
  have hD := hD0.self (sz := s.heap.size)
  generalize hAe : va_A _ s.heap.size = A at hD hZ ⊢
  have hA : ∀ q : Nat, s.heap.size ≤ q → A q := fun q h => by rw [← hAe]; exact Or.inr h
  have hS : va_S A s.heap s.heap [] := va_S.rf
  dsimp only [wpXl_act] at hw
  have hl := lv_entry ([.ref (q 0), .int p1, .int p2, .int p3, .ref qo]) (n := 6) (Nat.le_of_ble_eq_true rfl)
  rw [lg_entry_eq]
  generalize (lg_sl ([.ref (q 0), .int p1, .int p2, .int p3, .ref qo]) ++ List.replicate (6 - (lg_sl ([.ref (q 0), .int p1, .int p2, .int p3, .ref qo])).length) Slot.unset).toArray = ls at hl ⊢
  have hl : lv_has ls 6 [(0, .ref (q 0)), (1, .int p1), (2, .int p2), (3, .int p3), (4, .ref qo)] := hl
  have hKx : va_K (dC, dI) vwCl (tX dA) s := hK.sub (tys' := tX dA) [0, 1, 2, 3, 4, 5, 6, 7, 8, 9, 10, 11, 12, 13, 14, 15, 16, 17, 18, 19, 20, 21] rfl
  have hP : va_P (dC, dI) vwCl (wX q dA M ++ [(qo, .inl (dO, 1, .inr (.inl o)))]) s.heap := hP
  have hD : va_D A (wX q dA M ++ [(qo, .inl (dO, 1, .inr (.inl o)))]) := hD
  refine lv_aload hx hb dXl_act_0 (lv_at hl 4 rfl) ?_
  refine lv_iconst (v := 0) hx hb dXl_act_2 (by decide) ?_
  refine lv_aload_n hx hb dXl_act_3 rfl (lv_at hl 0 rfl) ?_
  refine lv_iload_n hx hb dXl_act_4 rfl (lv_at hl 1 rfl) ?_
  refine lv_iload_n hx hb dXl_act_5 rfl (lv_at hl 2 rfl) ?_
  refine lv_iload_n hx hb dXl_act_6 rfl (lv_at hl 3 rfl) ?_
  rcases hw with hw | hw
  · refine cp_i (w := (wX q dA)) (M := M) (suf := [(qo, .inl (dO, 1, .inr (.inl o)))]) (wX_ad q dA) (va_runV (As := [.int p1, .int p2, .int p3]) (rest := [.int 0, .ref qo]) ⟨hx, hb, hml, hown, hta⟩ (mtnXs_act l dC dI q dA s.heap.size p1 p2 p3 M _ hw) (cwV 3 hta (giV wt_192 wt_193 wt_194 wt_1 wt_195) rfl rfl rfl (by decide +kernel) ⟨(Nat.le_of_ble_eq_true rfl), (Nat.le_of_ble_eq_true rfl)⟩) ⟨pW_blind, va_recv hKx (wP_l hP) (ci := 0) (q0 := 0) rfl (wX_0 q dA M), pW_of hKx (wP_l hP) (wD_l hD)⟩ rfl rfl hl.1 rfl (lv_room (Nat.le_of_ble_eq_true rfl)) dXl_act_7 ⟨(Nat.le_of_ble_eq_true rfl), (Nat.le_of_ble_eq_true rfl)⟩) hP hD hS hA (fun r M2 H locs hw hP hD hS => ?_)
    refine lv_i2l hx hb dXl_act_10 rfl ?_
    refine va_last hx hb hK hP hD hS 27 22 rfl rfl (by unfold vp_in; decide) dXl_act_11 (fun H locs hP hD hS => ?_)
    have hP : va_P (dC, dI) vwCl (wH q dA qo dO (M2, vp_updL o 0 r.toInt64)) H := hP
    have hD : va_D A (wH q dA qo dO (M2, vp_updL o 0 r.toInt64)) := hD
    refine lv_goto (tgt := 31) hx hb dXl_act_12 (by decide) ?_
    refine lv_iconst (v := 0) hx hb dXl_act_31 (by decide) ?_
    refine W.widen (k := 1) (n := 6) (Nat.le_of_ble_eq_true rfl) (Nat.le_of_ble_eq_true rfl) ?_
    exact W.iret (v := 0) hx hb hr (fun t ht hW => ⟨⟨0, (M2, vp_updL o 0 r.toInt64), rfl, hw, by rw [ht]; exact hP, va_K.moved hW.alike hK, hD⟩, hS.F ht⟩) hS.2.2 dXl_act_32 hlocks
  · refine px_i (w := (wX q dA)) (M := M) (suf := [(qo, .inl (dO, 1, .inr (.inl o)))]) (wX_ad q dA) (vx_runV (As := [.int p1, .int p2, .int p3]) (rest := [.int 0, .ref qo]) ⟨hx, hb, hml, hown, hta⟩ (mtXs_act l hl9 dC dI q dA s.heap.size p1 p2 p3 M _ _ hw) (cwV 3 hta (giV wt_192 wt_193 wt_194 wt_1 wt_195) rfl rfl rfl (by decide +kernel) ⟨(Nat.le_of_ble_eq_true rfl), (Nat.le_of_ble_eq_true rfl)⟩) ⟨pWx_blind sX_ok, va_recv hKx (wP_l hP) (ci := 0) (q0 := 0) rfl (wX_0 q dA M), pWx_of (pre := []) (suf := [(qo, .inl (dO, 1, .inr (.inl o)))]) sX_ok hKx (wP_l hP) hD hS hA hZ hsp.1⟩ rfl rfl hl.1 rfl (lv_room (Nat.le_of_ble_eq_true rfl)) dXl_act_7 ⟨(Nat.le_of_ble_eq_true rfl), (Nat.le_of_ble_eq_true rfl)⟩) hP hD hS hA (fun k9 E9 ce q9 M2 H locs hE hw hP hD hS hce hcv hcl => ?_) (fun r M2 H locs hw hP hD hS => False.elim hw)
    have hP : va_P (dC, dI) vwCl (wH q dA qo dO (M2, o)) H := hP
    have hD : va_D A (wH q dA qo dO (M2, o)) := hD
    rcases hw with ⟨hk9, hw⟩ | ⟨hk9, hw⟩ | ⟨hk9, hw⟩ | ⟨hk9, hw⟩
    · subst hk9
      subst hE
      refine vx_catch (own := "ServiceThreadsLaw") (name := "java/lang/IllegalArgumentException") (E := "java/lang/IllegalArgumentException") hown [] ⟨0, 12, 15, 13⟩ [⟨0, 12, 19, 15⟩, ⟨0, 12, 23, 17⟩, ⟨0, 12, 27, 19⟩] (by rw [hTab]; rfl) (fun z hz => nomatch hz) (by decide) (by decide) (hta _ wt_188) (va_Nw.use rfl (sX_w0 hsp.1)) hce hcv hcl ?_
      refine lv_astore (lv' := [(5, .ref q9), (0, .ref (q 0)), (1, .int p1), (2, .int p2), (3, .int p3), (4, .ref qo)]) hx hb dXl_act_15 hl (by decide) rfl (fun ls hl => ?_)
      refine lv_iconst (v := 1) hx hb dXl_act_17 (by decide) ?_
      refine W.widen (k := 1) (n := 6) (Nat.le_of_ble_eq_true rfl) (Nat.le_of_ble_eq_true rfl) ?_
      exact W.iret (v := 1) hx hb hr (fun t ht hW => ⟨⟨1, (M2, o), rfl, hw, by rw [ht]; exact hP, va_K.moved hW.alike hK, hD⟩, hS.F ht⟩) hS.2.2 dXl_act_18 hlocks
    · subst hk9
      subst hE
      refine vx_catch (own := "ServiceThreadsLaw") (name := "java/lang/IndexOutOfBoundsException") (E := "java/lang/IndexOutOfBoundsException") hown [⟨0, 12, 15, 13⟩] ⟨0, 12, 19, 15⟩ [⟨0, 12, 23, 17⟩, ⟨0, 12, 27, 19⟩] (by rw [hTab]; rfl) (by
        intro z hz
        rcases List.mem_cons.mp hz with rfl | hz
        · exact Or.inr ⟨by decide, "java/lang/IllegalArgumentException", hta _ wt_188, sL_n0 hsp⟩
        cases hz) (by decide) (by decide) (hta _ wt_189) (va_Nw.use rfl (sX_w5 hsp.1)) hce hcv hcl ?_
      refine lv_astore (lv' := [(5, .ref q9), (0, .ref (q 0)), (1, .int p1), (2, .int p2), (3, .int p3), (4, .ref qo)]) hx hb dXl_act_19 hl (by decide) rfl (fun ls hl => ?_)
      refine lv_iconst (v := 2) hx hb dXl_act_21 (by decide) ?_
      refine W.widen (k := 1) (n := 6) (Nat.le_of_ble_eq_true rfl) (Nat.le_of_ble_eq_true rfl) ?_
      exact W.iret (v := 2) hx hb hr (fun t ht hW => ⟨⟨2, (M2, o), rfl, hw, by rw [ht]; exact hP, va_K.moved hW.alike hK, hD⟩, hS.F ht⟩) hS.2.2 dXl_act_22 hlocks
    · subst hk9
      subst hE
      refine vx_catch (own := "ServiceThreadsLaw") (name := "java/lang/IllegalStateException") (E := "java/lang/IllegalStateException") hown [⟨0, 12, 15, 13⟩, ⟨0, 12, 19, 15⟩] ⟨0, 12, 23, 17⟩ [⟨0, 12, 27, 19⟩] (by rw [hTab]; rfl) (by
        intro z hz
        rcases List.mem_cons.mp hz with rfl | hz
        · exact Or.inr ⟨by decide, "java/lang/IllegalArgumentException", hta _ wt_188, sL_n1 hsp⟩
        rcases List.mem_cons.mp hz with rfl | hz
        · exact Or.inr ⟨by decide, "java/lang/IndexOutOfBoundsException", hta _ wt_189, sL_n2 hsp⟩
        cases hz) (by decide) (by decide) (hta _ wt_190) (va_Nw.use rfl (sX_w4 hsp.1)) hce hcv hcl ?_
      refine lv_astore (lv' := [(5, .ref q9), (0, .ref (q 0)), (1, .int p1), (2, .int p2), (3, .int p3), (4, .ref qo)]) hx hb dXl_act_23 hl (by decide) rfl (fun ls hl => ?_)
      refine lv_iconst (v := 3) hx hb dXl_act_25 (by decide) ?_
      refine W.widen (k := 1) (n := 6) (Nat.le_of_ble_eq_true rfl) (Nat.le_of_ble_eq_true rfl) ?_
      exact W.iret (v := 3) hx hb hr (fun t ht hW => ⟨⟨3, (M2, o), rfl, hw, by rw [ht]; exact hP, va_K.moved hW.alike hK, hD⟩, hS.F ht⟩) hS.2.2 dXl_act_26 hlocks
    · subst hk9
      subst hE
      refine vx_catch (own := "ServiceThreadsLaw") (name := "java/lang/UnsupportedOperationException") (E := "java/lang/UnsupportedOperationException") hown [⟨0, 12, 15, 13⟩, ⟨0, 12, 19, 15⟩, ⟨0, 12, 23, 17⟩] ⟨0, 12, 27, 19⟩ [] (by rw [hTab]; rfl) (by
        intro z hz
        rcases List.mem_cons.mp hz with rfl | hz
        · exact Or.inr ⟨by decide, "java/lang/IllegalArgumentException", hta _ wt_188, sL_n3 hsp⟩
        rcases List.mem_cons.mp hz with rfl | hz
        · exact Or.inr ⟨by decide, "java/lang/IndexOutOfBoundsException", hta _ wt_189, sL_n4 hsp⟩
        rcases List.mem_cons.mp hz with rfl | hz
        · exact Or.inr ⟨by decide, "java/lang/IllegalStateException", hta _ wt_190, sL_n5 hsp⟩
        cases hz) (by decide) (by decide) (hta _ wt_191) (va_Nw.use rfl (sX_w6 hsp.1)) hce hcv hcl ?_
      refine lv_astore (lv' := [(5, .ref q9), (0, .ref (q 0)), (1, .int p1), (2, .int p2), (3, .int p3), (4, .ref qo)]) hx hb dXl_act_27 hl (by decide) rfl (fun ls hl => ?_)
      refine lv_iconst (v := 4) hx hb dXl_act_29 (by decide) ?_
      refine W.widen (k := 1) (n := 6) (Nat.le_of_ble_eq_true rfl) (Nat.le_of_ble_eq_true rfl) ?_
      exact W.iret (v := 4) hx hb hr (fun t ht hW => ⟨⟨4, (M2, o), rfl, hw, by rw [ht]; exact hP, va_K.moved hW.alike hK, hD⟩, hS.F ht⟩) hS.2.2 dXl_act_30 hlocks
def wpXl_finish (p1 : Int32) (p2 : Int32) (M : Mm) (post : Int32 → Mm → Prop) : Prop := (wpXs_finish p1 p2 M (fun M' => post 0 M') (fun _ _ => False)) ∨ (wpXs_finish p1 p2 M (fun _ => False) (fun k9 M' => (k9 = 0 ∧ post 1 M') ∨ (k9 = 1 ∧ post 2 M') ∨ (k9 = 2 ∧ post 3 M')))
set_option maxHeartbeats 4000000 in
set_option maxRecDepth 100000 in
theorem mtXl_finish (l : Launch) (hl9 : l.stackTraces = false) (dC : Nat → ClassId) (dI : Nat → Nat → Nat) (q : Nat → Nat) (dA : Nat → ClassId) (sz : Nat) (p1 : Int32) (p2 : Int32) (M : Mm) (post : Int32 → Mm → Prop) (hw : wpXl_finish p1 p2 M post) : Met l yXl_finish (wsH yXl_finish cXl_finish 4 (some .int) [(0, 6, 9, 13), (0, 6, 12, 15), (0, 6, 15, 17)]) ({ frames := 8, cells := 1, slots := 6, locals := 125 }) (va_Pc [.ref (q 0), .int p1, .int p2] (pWx (dC, dI) vwCl (wX q dA) (tX dA) sL sz M)) (va_Qi post (bW (dC, dI) vwCl (wX q dA) (tX dA) (va_A (wX q dA M) sz)) (va_A (wX q dA M) sz)) 1 6 (va_A (wX q dA M) sz) := by
  refine va_MetW (cc := cXl_finish) (maxL := 4) (ret := (some .int)) (hh := [(0, 6, 9, 13), (0, 6, 12, 15), (0, 6, 15, 17)]) (by decide) rfl ?_
  intro p e s m args below meth c s₁ B hml hv
  obtain ⟨rfl, hsz, hP, hK, hD0, hZ, hsp⟩ := hv
  have hx := B.exec
  have hb := B.bytes
  have hr := B.returns
  have hts := atoms_spec (ws := (wsH yXl_finish cXl_finish 4 (some .int) [(0, 6, 9, 13), (0, 6, 12, 15), (0, 6, 15, 17)])) B.pre
  have hta : ∀ w ∈ wsG, w.before _ s = true := fun w h => hts w (List.mem_cons_of_mem _ h)
  have hown : s.vm.findClass "ServiceThreadsLaw" = some m.cls := findClass_of_methodNamed B.named
  have hlocks := B.notSynchronized
  have hTab : c.exceptionTable.toList = tableOf [(0, 6, 9, 13), (0, 6, 12, 15), (0, 6, 15, 17)] := vx_table (x := yXl_finish) B (hts _ List.mem_cons_self)
  subst hsz
  have hD := hD0.self (sz := s.heap.size)
  generalize hAe : va_A _ s.heap.size = A at hD hZ ⊢
  have hA : ∀ q : Nat, s.heap.size ≤ q → A q := fun q h => by rw [← hAe]; exact Or.inr h
  have hS : va_S A s.heap s.heap [] := va_S.rf
  dsimp only [wpXl_finish] at hw
  have hl := lv_entry ([.ref (q 0), .int p1, .int p2]) (n := 4) (Nat.le_of_ble_eq_true rfl)
  rw [lg_entry_eq]
  generalize (lg_sl ([.ref (q 0), .int p1, .int p2]) ++ List.replicate (4 - (lg_sl ([.ref (q 0), .int p1, .int p2])).length) Slot.unset).toArray = ls at hl ⊢
  have hl : lv_has ls 4 [(0, .ref (q 0)), (1, .int p1), (2, .int p2)] := hl
  have hKx := hK
  refine lv_aload_n hx hb dXl_finish_0 rfl (lv_at hl 0 rfl) ?_
  refine lv_iload_n hx hb dXl_finish_1 rfl (lv_at hl 1 rfl) ?_
  refine lv_iload_n hx hb dXl_finish_2 rfl (lv_at hl 2 rfl) ?_
  rcases hw with hw | hw
  · refine cn_v (w := (wX q dA)) (M := M) (wX_ad q dA) (va_runV (As := [.int p1, .int p2]) (rest := []) ⟨hx, hb, hml, hown, hta⟩ (mtnXs_finish l dC dI q dA s.heap.size p1 p2 M _ hw) (cwV 2 hta (giV wt_332 wt_333 wt_334 wt_1 wt_335) rfl rfl rfl (by decide +kernel) ⟨(Nat.le_of_ble_eq_true rfl), (Nat.le_of_ble_eq_true rfl)⟩) ⟨pW_blind, va_recv hKx hP (ci := 0) (q0 := 0) rfl (wX_0 q dA M), pW_of hKx hP hD⟩ rfl rfl hl.1 rfl (lv_room (Nat.le_of_ble_eq_true rfl)) dXl_finish_3 ⟨(Nat.le_of_ble_eq_true rfl), (Nat.le_of_ble_eq_true rfl)⟩) hD hS hA (fun M2 H locs hw hP hD hS => ?_)
    refine lv_goto (tgt := 18) hx hb dXl_finish_6 (by decide) ?_
    refine lv_iconst (v := 0) hx hb dXl_finish_18 (by decide) ?_
    refine W.widen (k := 1) (n := 6) (Nat.le_of_ble_eq_true rfl) (Nat.le_of_ble_eq_true rfl) ?_
    exact W.iret (v := 0) hx hb hr (fun t ht hW => ⟨⟨0, M2, rfl, hw, by rw [ht]; exact hP, va_K.moved hW.alike hK, hD⟩, hS.F ht⟩) hS.2.2 dXl_finish_19 hlocks
  · refine cx_v (w := (wX q dA)) (M := M) (wX_ad q dA) (vx_runV (As := [.int p1, .int p2]) (rest := []) ⟨hx, hb, hml, hown, hta⟩ (mtXs_finish l hl9 dC dI q dA s.heap.size p1 p2 M _ _ hw) (cwV 2 hta (giV wt_332 wt_333 wt_334 wt_1 wt_335) rfl rfl rfl (by decide +kernel) ⟨(Nat.le_of_ble_eq_true rfl), (Nat.le_of_ble_eq_true rfl)⟩) ⟨pWx_blind sX_ok, va_recv hKx hP (ci := 0) (q0 := 0) rfl (wX_0 q dA M), pWx_ofn sX_ok hKx hP hD hS hA hZ hsp.1⟩ rfl rfl hl.1 rfl (lv_room (Nat.le_of_ble_eq_true rfl)) dXl_finish_3 ⟨(Nat.le_of_ble_eq_true rfl), (Nat.le_of_ble_eq_true rfl)⟩) hD hS hA (fun k9 E9 ce q9 M2 H locs hE hw hP hD hS hce hcv hcl => ?_) (fun M2 H locs hw hP hD hS => False.elim hw)
    rcases hw with ⟨hk9, hw⟩ | ⟨hk9, hw⟩ | ⟨hk9, hw⟩
    · subst hk9
      subst hE
      refine vx_catch (own := "ServiceThreadsLaw") (name := "java/lang/IllegalArgumentException") (E := "java/lang/IllegalArgumentException") hown [] ⟨0, 6, 9, 13⟩ [⟨0, 6, 12, 15⟩, ⟨0, 6, 15, 17⟩] (by rw [hTab]; rfl) (fun z hz => nomatch hz) (by decide) (by decide) (hta _ wt_188) (va_Nw.use rfl (sX_w0 hsp.1)) hce hcv hcl ?_
      refine lv_astore_n (lv' := [(3, .ref q9), (0, .ref (q 0)), (1, .int p1), (2, .int p2)]) hx hb dXl_finish_9 rfl hl (by decide) rfl (fun ls hl => ?_)
      refine lv_iconst (v := 1) hx hb dXl_finish_10 (by decide) ?_
      refine W.widen (k := 1) (n := 6) (Nat.le_of_ble_eq_true rfl) (Nat.le_of_ble_eq_true rfl) ?_
      exact W.iret (v := 1) hx hb hr (fun t ht hW => ⟨⟨1, M2, rfl, hw, by rw [ht]; exact hP, va_K.moved hW.alike hK, hD⟩, hS.F ht⟩) hS.2.2 dXl_finish_11 hlocks
    · subst hk9
      subst hE
      refine vx_catch (own := "ServiceThreadsLaw") (name := "java/lang/IndexOutOfBoundsException") (E := "java/lang/IndexOutOfBoundsException") hown [⟨0, 6, 9, 13⟩] ⟨0, 6, 12, 15⟩ [⟨0, 6, 15, 17⟩] (by rw [hTab]; rfl) (by
        intro z hz
        rcases List.mem_cons.mp hz with rfl | hz
        · exact Or.inr ⟨by decide, "java/lang/IllegalArgumentException", hta _ wt_188, sL_n0 hsp⟩
        cases hz) (by decide) (by decide) (hta _ wt_189) (va_Nw.use rfl (sX_w5 hsp.1)) hce hcv hcl ?_
      refine lv_astore_n (lv' := [(3, .ref q9), (0, .ref (q 0)), (1, .int p1), (2, .int p2)]) hx hb dXl_finish_12 rfl hl (by decide) rfl (fun ls hl => ?_)
      refine lv_iconst (v := 2) hx hb dXl_finish_13 (by decide) ?_
      refine W.widen (k := 1) (n := 6) (Nat.le_of_ble_eq_true rfl) (Nat.le_of_ble_eq_true rfl) ?_
      exact W.iret (v := 2) hx hb hr (fun t ht hW => ⟨⟨2, M2, rfl, hw, by rw [ht]; exact hP, va_K.moved hW.alike hK, hD⟩, hS.F ht⟩) hS.2.2 dXl_finish_14 hlocks
    · subst hk9
      subst hE
      refine vx_catch (own := "ServiceThreadsLaw") (name := "java/lang/IllegalStateException") (E := "java/lang/IllegalStateException") hown [⟨0, 6, 9, 13⟩, ⟨0, 6, 12, 15⟩] ⟨0, 6, 15, 17⟩ [] (by rw [hTab]; rfl) (by
        intro z hz
        rcases List.mem_cons.mp hz with rfl | hz
        · exact Or.inr ⟨by decide, "java/lang/IllegalArgumentException", hta _ wt_188, sL_n1 hsp⟩
        rcases List.mem_cons.mp hz with rfl | hz
        · exact Or.inr ⟨by decide, "java/lang/IndexOutOfBoundsException", hta _ wt_189, sL_n2 hsp⟩
        cases hz) (by decide) (by decide) (hta _ wt_190) (va_Nw.use rfl (sX_w4 hsp.1)) hce hcv hcl ?_
      refine lv_astore_n (lv' := [(3, .ref q9), (0, .ref (q 0)), (1, .int p1), (2, .int p2)]) hx hb dXl_finish_15 rfl hl (by decide) rfl (fun ls hl => ?_)
      refine lv_iconst (v := 3) hx hb dXl_finish_16 (by decide) ?_
      refine W.widen (k := 1) (n := 6) (Nat.le_of_ble_eq_true rfl) (Nat.le_of_ble_eq_true rfl) ?_
      exact W.iret (v := 3) hx hb hr (fun t ht hW => ⟨⟨3, M2, rfl, hw, by rw [ht]; exact hP, va_K.moved hW.alike hK, hD⟩, hS.F ht⟩) hS.2.2 dXl_finish_17 hlocks
def wpXl_call (p1 : Int32) (M : Mm) (o : Nat → Int64) (post : Int32 → Mm × (Nat → Int64) → Prop) : Prop := (wpXs_call p1 M (fun r M' => post 0 (M', vp_updL o 0 r.toInt64)) (fun _ _ => False)) ∨ (wpXs_call p1 M (fun _ _ => False) (fun k9 M' => (k9 = 1 ∧ post 1 (M', o)) ∨ (k9 = 3 ∧ post 2 (M', o))))
set_option maxHeartbeats 4000000 in
set_option maxRecDepth 100000 in
theorem mtXl_call (l : Launch) (hl9 : l.stackTraces = false) (dC : Nat → ClassId) (dI : Nat → Nat → Nat) (q : Nat → Nat) (dA : Nat → ClassId) (qo : Nat) (dO : ClassId) (sz : Nat) (p1 : Int32) (M : Mm) (o : Nat → Int64) (post : Int32 → Mm × (Nat → Int64) → Prop) (hw : wpXl_call p1 M o post) : Met l yXl_call (wsH yXl_call cXl_call 4 (some .int) [(0, 9, 12, 15), (0, 9, 15, 19)]) ({ frames := 7, cells := 1, slots := 6, locals := 110 }) (va_Pc [.ref (q 0), .int p1, .ref qo] (pWx (dC, dI) vwCl (wH q dA qo dO) (tH dA dO) sL sz (M, o))) (va_Qi post (bW (dC, dI) vwCl (wH q dA qo dO) (tH dA dO) (va_A (wH q dA qo dO (M, o)) sz)) (va_A (wH q dA qo dO (M, o)) sz)) 1 6 (va_A (wH q dA qo dO (M, o)) sz) := by
  refine va_MetW (cc := cXl_call) (maxL := 4) (ret := (some .int)) (hh := [(0, 9, 12, 15), (0, 9, 15, 19)]) (by decide) rfl ?_
  intro p e s m args below meth c s₁ B hml hv
  obtain ⟨rfl, hsz, hP, hK, hD0, hZ, hsp⟩ := hv
  have hx := B.exec
  have hb := B.bytes
  have hr := B.returns
  have hts := atoms_spec (ws := (wsH yXl_call cXl_call 4 (some .int) [(0, 9, 12, 15), (0, 9, 15, 19)])) B.pre
  have hta : ∀ w ∈ wsG, w.before _ s = true := fun w h => hts w (List.mem_cons_of_mem _ h)
  have hown : s.vm.findClass "ServiceThreadsLaw" = some m.cls := findClass_of_methodNamed B.named
  have hlocks := B.notSynchronized
  have hTab : c.exceptionTable.toList = tableOf [(0, 9, 12, 15), (0, 9, 15, 19)] := vx_table (x := yXl_call) B (hts _ List.mem_cons_self)
  subst hsz
  have hD := hD0.self (sz := s.heap.size)
  generalize hAe : va_A _ s.heap.size = A at hD hZ ⊢
  have hA : ∀ q : Nat, s.heap.size ≤ q → A q := fun q h => by rw [← hAe]; exact Or.inr h
  have hS : va_S A s.heap s.heap [] := va_S.rf
  dsimp only [wpXl_call] at hw
  have hl := lv_entry ([.ref (q 0), .int p1, .ref qo]) (n := 4) (Nat.le_of_ble_eq_true rfl)
  rw [lg_entry_eq]
  generalize (lg_sl ([.ref (q 0), .int p1, .ref qo]) ++ List.replicate (4 - (lg_sl ([.ref (q 0), .int p1, .ref qo])).length) Slot.unset).toArray = ls at hl ⊢
  have hl : lv_has ls 4 [(0, .ref (q 0)), (1, .int p1), (2, .ref qo)] := hl
  have hKx : va_K (dC, dI) vwCl (tX dA) s := hK.sub (tys' := tX dA) [0, 1, 2, 3, 4, 5, 6, 7, 8, 9, 10, 11, 12, 13, 14, 15, 16, 17, 18, 19, 20, 21] rfl
  have hP : va_P (dC, dI) vwCl (wX q dA M ++ [(qo, .inl (dO, 1, .inr (.inl o)))]) s.heap := hP
  have hD : va_D A (wX q dA M ++ [(qo, .inl (dO, 1, .inr (.inl o)))]) := hD
  refine lv_aload_n hx hb dXl_call_0 rfl (lv_at hl 2 rfl) ?_
  refine lv_iconst (v := 0) hx hb dXl_call_1 (by decide) ?_
  refine lv_aload_n hx hb dXl_call_2 rfl (lv_at hl 0 rfl) ?_
  refine lv_iload_n hx hb dXl_call_3 rfl (lv_at hl 1 rfl) ?_
  rcases hw with hw | hw
  · refine cp_i (w := (wX q dA)) (M := M) (suf := [(qo, .inl (dO, 1, .inr (.inl o)))]) (wX_ad q dA) (va_runV (As := [.int p1]) (rest := [.int 0, .ref qo]) ⟨hx, hb, hml, hown, hta⟩ (mtnXs_call l dC dI q dA s.heap.size p1 M _ hw) (cwV 1 hta (giV wt_348 wt_349 wt_350 wt_1 wt_351) rfl rfl rfl (by decide +kernel) ⟨(Nat.le_of_ble_eq_true rfl), (Nat.le_of_ble_eq_true rfl)⟩) ⟨pW_blind, va_recv hKx (wP_l hP) (ci := 0) (q0 := 0) rfl (wX_0 q dA M), pW_of hKx (wP_l hP) (wD_l hD)⟩ rfl rfl hl.1 rfl (lv_room (Nat.le_of_ble_eq_true rfl)) dXl_call_4 ⟨(Nat.le_of_ble_eq_true rfl), (Nat.le_of_ble_eq_true rfl)⟩) hP hD hS hA (fun r M2 H locs hw hP hD hS => ?_)
    refine lv_i2l hx hb dXl_call_7 rfl ?_
    refine va_last hx hb hK hP hD hS 27 22 rfl rfl (by unfold vp_in; decide) dXl_call_8 (fun H locs hP hD hS => ?_)
    have hP : va_P (dC, dI) vwCl (wH q dA qo dO (M2, vp_updL o 0 r.toInt64)) H := hP
    have hD : va_D A (wH q dA qo dO (M2, vp_updL o 0 r.toInt64)) := hD
    refine lv_goto (tgt := 18) hx hb dXl_call_9 (by decide) ?_
    refine lv_iconst (v := 0) hx hb dXl_call_18 (by decide) ?_
    refine W.widen (k := 1) (n := 6) (Nat.le_of_ble_eq_true rfl) (Nat.le_of_ble_eq_true rfl) ?_
    exact W.iret (v := 0) hx hb hr (fun t ht hW => ⟨⟨0, (M2, vp_updL o 0 r.toInt64), rfl, hw, by rw [ht]; exact hP, va_K.moved hW.alike hK, hD⟩, hS.F ht⟩) hS.2.2 dXl_call_19 hlocks
  · refine px_i (w := (wX q dA)) (M := M) (suf := [(qo, .inl (dO, 1, .inr (.inl o)))]) (wX_ad q dA) (vx_runV (As := [.int p1]) (rest := [.int 0, .ref qo]) ⟨hx, hb, hml, hown, hta⟩ (mtXs_call l hl9 dC dI q dA s.heap.size p1 M _ _ hw) (cwV 1 hta (giV wt_348 wt_349 wt_350 wt_1 wt_351) rfl rfl rfl (by decide +kernel) ⟨(Nat.le_of_ble_eq_true rfl), (Nat.le_of_ble_eq_true rfl)⟩) ⟨pWx_blind sX_ok, va_recv hKx (wP_l hP) (ci := 0) (q0 := 0) rfl (wX_0 q dA M), pWx_of (pre := []) (suf := [(qo, .inl (dO, 1, .inr (.inl o)))]) sX_ok hKx (wP_l hP) hD hS hA hZ hsp.1⟩ rfl rfl hl.1 rfl (lv_room (Nat.le_of_ble_eq_true rfl)) dXl_call_4 ⟨(Nat.le_of_ble_eq_true rfl), (Nat.le_of_ble_eq_true rfl)⟩) hP hD hS hA (fun k9 E9 ce q9 M2 H locs hE hw hP hD hS hce hcv hcl => ?_) (fun r M2 H locs hw hP hD hS => False.elim hw)
    have hP : va_P (dC, dI) vwCl (wH q dA qo dO (M2, o)) H := hP
    have hD : va_D A (wH q dA qo dO (M2, o)) := hD
    rcases hw with ⟨hk9, hw⟩ | ⟨hk9, hw⟩
    · subst hk9
      subst hE
      refine vx_catch (own := "ServiceThreadsLaw") (name := "java/lang/IndexOutOfBoundsException") (E := "java/lang/IndexOutOfBoundsException") hown [] ⟨0, 9, 12, 15⟩ [⟨0, 9, 15, 19⟩] (by rw [hTab]; rfl) (fun z hz => nomatch hz) (by decide) (by decide) (hta _ wt_189) (va_Nw.use rfl (sX_w5 hsp.1)) hce hcv hcl ?_
      refine lv_astore_n (lv' := [(3, .ref q9), (0, .ref (q 0)), (1, .int p1), (2, .ref qo)]) hx hb dXl_call_12 rfl hl (by decide) rfl (fun ls hl => ?_)
      refine lv_iconst (v := 1) hx hb dXl_call_13 (by decide) ?_
      refine W.widen (k := 1) (n := 6) (Nat.le_of_ble_eq_true rfl) (Nat.le_of_ble_eq_true rfl) ?_
      exact W.iret (v := 1) hx hb hr (fun t ht hW => ⟨⟨1, (M2, o), rfl, hw, by rw [ht]; exact hP, va_K.moved hW.alike hK, hD⟩, hS.F ht⟩) hS.2.2 dXl_call_14 hlocks
    · subst hk9
      subst hE
      refine vx_catch (own := "ServiceThreadsLaw") (name := "java/lang/UnsupportedOperationException") (E := "java/lang/UnsupportedOperationException") hown [⟨0, 9, 12, 15⟩] ⟨0, 9, 15, 19⟩ [] (by rw [hTab]; rfl) (by
        intro z hz
        rcases List.mem_cons.mp hz with rfl | hz
        · exact Or.inr ⟨by decide, "java/lang/IndexOutOfBoundsException", hta _ wt_189, sL_n4 hsp⟩
        cases hz) (by decide) (by decide) (hta _ wt_191) (va_Nw.use rfl (sX_w6 hsp.1)) hce hcv hcl ?_
      refine lv_astore_n (lv' := [(3, .ref q9), (0, .ref (q 0)), (1, .int p1), (2, .ref qo)]) hx hb dXl_call_15 rfl hl (by decide) rfl (fun ls hl => ?_)
      refine lv_iconst (v := 2) hx hb dXl_call_16 (by decide) ?_
      refine W.widen (k := 1) (n := 6) (Nat.le_of_ble_eq_true rfl) (Nat.le_of_ble_eq_true rfl) ?_
      exact W.iret (v := 2) hx hb hr (fun t ht hW => ⟨⟨2, (M2, o), rfl, hw, by rw [ht]; exact hP, va_K.moved hW.alike hK, hD⟩, hS.F ht⟩) hS.2.2 dXl_call_17 hlocks
def wpXl_step (p1 : Int32) (M : Mm) (o : Nat → Int64) (post : Int32 → Mm × (Nat → Int64) → Prop) : Prop := (wpXs_step p1 M (fun r M' => post 0 (M', vp_updL o 0 r.toInt64)) (fun _ _ => False)) ∨ (wpXs_step p1 M (fun _ _ => False) (fun k9 M' => (k9 = 0 ∧ post 1 (M', o)) ∨ (k9 = 2 ∧ post 2 (M', o))))
set_option maxHeartbeats 4000000 in
set_option maxRecDepth 100000 in
theorem mtXl_step (l : Launch) (hl9 : l.stackTraces = false) (dC : Nat → ClassId) (dI : Nat → Nat → Nat) (q : Nat → Nat) (dA : Nat → ClassId) (qo : Nat) (dO : ClassId) (sz : Nat) (p1 : Int32) (M : Mm) (o : Nat → Int64) (post : Int32 → Mm × (Nat → Int64) → Prop) (hw : wpXl_step p1 M o post) : Met l yXl_step (wsH yXl_step cXl_step 4 (some .int) [(0, 9, 12, 13), (0, 9, 15, 17)]) ({ frames := 8, cells := 1, slots := 6, locals := 133 }) (va_Pc [.ref (q 0), .int p1, .ref qo] (pWx (dC, dI) vwCl (wH q dA qo dO) (tH dA dO) sL sz (M, o))) (va_Qi post (bW (dC, dI) vwCl (wH q dA qo dO) (tH dA dO) (va_A (wH q dA qo dO (M, o)) sz)) (va_A (wH q dA qo dO (M, o)) sz)) 1 6 (va_A (wH q dA qo dO (M, o)) sz) := by
  refine va_MetW (cc := cXl_step) (maxL := 4) (ret := (some .int)) (hh := [(0, 9, 12, 13), (0, 9, 15, 17)]) (by decide) rfl ?_
  intro p e s m args below meth c s₁ B hml hv
  obtain ⟨rfl, hsz, hP, hK, hD0, hZ, hsp⟩ := hv
  have hx := B.exec
  have hb := B.bytes
  have hr := B.returns
  have hts := atoms_spec (ws := (wsH yXl_step cXl_step 4 (some .int) [(0, 9, 12, 13), (0, 9, 15, 17)])) B.pre
  have hta : ∀ w ∈ wsG, w.before _ s = true := fun w h => hts w (List.mem_cons_of_mem _ h)
  have hown : s.vm.findClass "ServiceThreadsLaw" = some m.cls := findClass_of_methodNamed B.named
  have hlocks := B.notSynchronized
  have hTab : c.exceptionTable.toList = tableOf [(0, 9, 12, 13), (0, 9, 15, 17)] := vx_table (x := yXl_step) B (hts _ List.mem_cons_self)
  subst hsz
  have hD := hD0.self (sz := s.heap.size)
  generalize hAe : va_A _ s.heap.size = A at hD hZ ⊢
  have hA : ∀ q : Nat, s.heap.size ≤ q → A q := fun q h => by rw [← hAe]; exact Or.inr h
  have hS : va_S A s.heap s.heap [] := va_S.rf
  dsimp only [wpXl_step] at hw
  have hl := lv_entry ([.ref (q 0), .int p1, .ref qo]) (n := 4) (Nat.le_of_ble_eq_true rfl)
  rw [lg_entry_eq]
  generalize (lg_sl ([.ref (q 0), .int p1, .ref qo]) ++ List.replicate (4 - (lg_sl ([.ref (q 0), .int p1, .ref qo])).length) Slot.unset).toArray = ls at hl ⊢
  have hl : lv_has ls 4 [(0, .ref (q 0)), (1, .int p1), (2, .ref qo)] := hl
  have hKx : va_K (dC, dI) vwCl (tX dA) s := hK.sub (tys' := tX dA) [0, 1, 2, 3, 4, 5, 6, 7, 8, 9, 10, 11, 12, 13, 14, 15, 16, 17, 18, 19, 20, 21] rfl
  have hP : va_P (dC, dI) vwCl (wX q dA M ++ [(qo, .inl (dO, 1, .inr (.inl o)))]) s.heap := hP
  have hD : va_D A (wX q dA M ++ [(qo, .inl (dO, 1, .inr (.inl o)))]) := hD
  refine lv_aload_n hx hb dXl_step_0 rfl (lv_at hl 2 rfl) ?_
  refine lv_iconst (v := 0) hx hb dXl_step_1 (by decide) ?_
  refine lv_aload_n hx hb dXl_step_2 rfl (lv_at hl 0 rfl) ?_
  refine lv_iload_n hx hb dXl_step_3 rfl (lv_at hl 1 rfl) ?_
  rcases hw with hw | hw
  · refine cp_i (w := (wX q dA)) (M := M) (suf := [(qo, .inl (dO, 1, .inr (.inl o)))]) (wX_ad q dA) (va_runV (As := [.int p1]) (rest := [.int 0, .ref qo]) ⟨hx, hb, hml, hown, hta⟩ (mtnXs_step l dC dI q dA s.heap.size p1 M _ hw) (cwV 1 hta (giV wt_376 wt_377 wt_378 wt_1 wt_379) rfl rfl rfl (by decide +kernel) ⟨(Nat.le_of_ble_eq_true rfl), (Nat.le_of_ble_eq_true rfl)⟩) ⟨pW_blind, va_recv hKx (wP_l hP) (ci := 0) (q0 := 0) rfl (wX_0 q dA M), pW_of hKx (wP_l hP) (wD_l hD)⟩ rfl rfl hl.1 rfl (lv_room (Nat.le_of_ble_eq_true rfl)) dXl_step_4 ⟨(Nat.le_of_ble_eq_true rfl), (Nat.le_of_ble_eq_true rfl)⟩) hP hD hS hA (fun r M2 H locs hw hP hD hS => ?_)
    refine lv_i2l hx hb dXl_step_7 rfl ?_
    refine va_last hx hb hK hP hD hS 27 22 rfl rfl (by unfold vp_in; decide) dXl_step_8 (fun H locs hP hD hS => ?_)
    have hP : va_P (dC, dI) vwCl (wH q dA qo dO (M2, vp_updL o 0 r.toInt64)) H := hP
    have hD : va_D A (wH q dA qo dO (M2, vp_updL o 0 r.toInt64)) := hD
    refine lv_goto (tgt := 18) hx hb dXl_step_9 (by decide) ?_
    refine lv_iconst (v := 0) hx hb dXl_step_18 (by decide) ?_
    refine W.widen (k := 1) (n := 6) (Nat.le_of_ble_eq_true rfl) (Nat.le_of_ble_eq_true rfl) ?_
    exact W.iret (v := 0) hx hb hr (fun t ht hW => ⟨⟨0, (M2, vp_updL o 0 r.toInt64), rfl, hw, by rw [ht]; exact hP, va_K.moved hW.alike hK, hD⟩, hS.F ht⟩) hS.2.2 dXl_step_19 hlocks
  · refine px_i (w := (wX q dA)) (M := M) (suf := [(qo, .inl (dO, 1, .inr (.inl o)))]) (wX_ad q dA) (vx_runV (As := [.int p1]) (rest := [.int 0, .ref qo]) ⟨hx, hb, hml, hown, hta⟩ (mtXs_step l hl9 dC dI q dA s.heap.size p1 M _ _ hw) (cwV 1 hta (giV wt_376 wt_377 wt_378 wt_1 wt_379) rfl rfl rfl (by decide +kernel) ⟨(Nat.le_of_ble_eq_true rfl), (Nat.le_of_ble_eq_true rfl)⟩) ⟨pWx_blind sX_ok, va_recv hKx (wP_l hP) (ci := 0) (q0 := 0) rfl (wX_0 q dA M), pWx_of (pre := []) (suf := [(qo, .inl (dO, 1, .inr (.inl o)))]) sX_ok hKx (wP_l hP) hD hS hA hZ hsp.1⟩ rfl rfl hl.1 rfl (lv_room (Nat.le_of_ble_eq_true rfl)) dXl_step_4 ⟨(Nat.le_of_ble_eq_true rfl), (Nat.le_of_ble_eq_true rfl)⟩) hP hD hS hA (fun k9 E9 ce q9 M2 H locs hE hw hP hD hS hce hcv hcl => ?_) (fun r M2 H locs hw hP hD hS => False.elim hw)
    have hP : va_P (dC, dI) vwCl (wH q dA qo dO (M2, o)) H := hP
    have hD : va_D A (wH q dA qo dO (M2, o)) := hD
    rcases hw with ⟨hk9, hw⟩ | ⟨hk9, hw⟩
    · subst hk9
      subst hE
      refine vx_catch (own := "ServiceThreadsLaw") (name := "java/lang/IllegalArgumentException") (E := "java/lang/IllegalArgumentException") hown [] ⟨0, 9, 12, 13⟩ [⟨0, 9, 15, 17⟩] (by rw [hTab]; rfl) (fun z hz => nomatch hz) (by decide) (by decide) (hta _ wt_188) (va_Nw.use rfl (sX_w0 hsp.1)) hce hcv hcl ?_
      refine lv_astore_n (lv' := [(3, .ref q9), (0, .ref (q 0)), (1, .int p1), (2, .ref qo)]) hx hb dXl_step_12 rfl hl (by decide) rfl (fun ls hl => ?_)
      refine lv_iconst (v := 1) hx hb dXl_step_13 (by decide) ?_
      refine W.widen (k := 1) (n := 6) (Nat.le_of_ble_eq_true rfl) (Nat.le_of_ble_eq_true rfl) ?_
      exact W.iret (v := 1) hx hb hr (fun t ht hW => ⟨⟨1, (M2, o), rfl, hw, by rw [ht]; exact hP, va_K.moved hW.alike hK, hD⟩, hS.F ht⟩) hS.2.2 dXl_step_14 hlocks
    · subst hk9
      subst hE
      refine vx_catch (own := "ServiceThreadsLaw") (name := "java/lang/IllegalStateException") (E := "java/lang/IllegalStateException") hown [⟨0, 9, 12, 13⟩] ⟨0, 9, 15, 17⟩ [] (by rw [hTab]; rfl) (by
        intro z hz
        rcases List.mem_cons.mp hz with rfl | hz
        · exact Or.inr ⟨by decide, "java/lang/IllegalArgumentException", hta _ wt_188, sL_n1 hsp⟩
        cases hz) (by decide) (by decide) (hta _ wt_190) (va_Nw.use rfl (sX_w4 hsp.1)) hce hcv hcl ?_
      refine lv_astore_n (lv' := [(3, .ref q9), (0, .ref (q 0)), (1, .int p1), (2, .ref qo)]) hx hb dXl_step_15 rfl hl (by decide) rfl (fun ls hl => ?_)
      refine lv_iconst (v := 2) hx hb dXl_step_16 (by decide) ?_
      refine W.widen (k := 1) (n := 6) (Nat.le_of_ble_eq_true rfl) (Nat.le_of_ble_eq_true rfl) ?_
      exact W.iret (v := 2) hx hb hr (fun t ht hW => ⟨⟨2, (M2, o), rfl, hw, by rw [ht]; exact hP, va_K.moved hW.alike hK, hD⟩, hS.F ht⟩) hS.2.2 dXl_step_17 hlocks
def wpXl_run (p1 : Int64) (p2 : Int32) (M : Mm) (o : Nat → Int64) (post : Int32 → Mm × (Nat → Int64) → Prop) : Prop := (wpXs_run p1 p2 M (fun r M' => post 0 (M', vp_updL o 0 r.toInt64)) (fun _ _ => False)) ∨ (wpXs_run p1 p2 M (fun _ _ => False) (fun k9 M' => (k9 = 1 ∧ post 1 (M', o))))
set_option maxHeartbeats 4000000 in
set_option maxRecDepth 100000 in
theorem mtXl_run (l : Launch) (hl9 : l.stackTraces = false) (dC : Nat → ClassId) (dI : Nat → Nat → Nat) (q : Nat → Nat) (dA : Nat → ClassId) (qo : Nat) (dO : ClassId) (sz : Nat) (p1 : Int64) (p2 : Int32) (M : Mm) (o : Nat → Int64) (post : Int32 → Mm × (Nat → Int64) → Prop) (hw : wpXl_run p1 p2 M o post) : Met l yXl_run (wsH yXl_run cXl_run 6 (some .int) [(0, 11, 14, 15)]) ({ frames := 7, cells := 1, slots := 6, locals := 138 }) (va_Pc [.ref (q 0), .long p1, .int p2, .ref qo] (pWx (dC, dI) vwCl (wH q dA qo dO) (tH dA dO) sL sz (M, o))) (va_Qi post (bW (dC, dI) vwCl (wH q dA qo dO) (tH dA dO) (va_A (wH q dA qo dO (M, o)) sz)) (va_A (wH q dA qo dO (M, o)) sz)) 1 6 (va_A (wH q dA qo dO (M, o)) sz) := by
  refine va_MetW (cc := cXl_run) (maxL := 6) (ret := (some .int)) (hh := [(0, 11, 14, 15)]) (by decide) rfl ?_
  intro p e s m args below meth c s₁ B hml hv
  obtain ⟨rfl, hsz, hP, hK, hD0, hZ, hsp⟩ := hv
  have hx := B.exec
  have hb := B.bytes
  have hr := B.returns
  have hts := atoms_spec (ws := (wsH yXl_run cXl_run 6 (some .int) [(0, 11, 14, 15)])) B.pre
  have hta : ∀ w ∈ wsG, w.before _ s = true := fun w h => hts w (List.mem_cons_of_mem _ h)
  have hown : s.vm.findClass "ServiceThreadsLaw" = some m.cls := findClass_of_methodNamed B.named
  have hlocks := B.notSynchronized
  have hTab : c.exceptionTable.toList = tableOf [(0, 11, 14, 15)] := vx_table (x := yXl_run) B (hts _ List.mem_cons_self)
  subst hsz
  have hD := hD0.self (sz := s.heap.size)
  generalize hAe : va_A _ s.heap.size = A at hD hZ ⊢
  have hA : ∀ q : Nat, s.heap.size ≤ q → A q := fun q h => by rw [← hAe]; exact Or.inr h
  have hS : va_S A s.heap s.heap [] := va_S.rf
  dsimp only [wpXl_run] at hw
  have hl := lv_entry ([.ref (q 0), .long p1, .int p2, .ref qo]) (n := 6) (Nat.le_of_ble_eq_true rfl)
  rw [lg_entry_eq]
  generalize (lg_sl ([.ref (q 0), .long p1, .int p2, .ref qo]) ++ List.replicate (6 - (lg_sl ([.ref (q 0), .long p1, .int p2, .ref qo])).length) Slot.unset).toArray = ls at hl ⊢
  have hl : lv_has ls 6 [(0, .ref (q 0)), (1, .long p1), (3, .int p2), (4, .ref qo)] := hl
  have hKx : va_K (dC, dI) vwCl (tX dA) s := hK.sub (tys' := tX dA) [0, 1, 2, 3, 4, 5, 6, 7, 8, 9, 10, 11, 12, 13, 14, 15, 16, 17, 18, 19, 20, 21] rfl
  have hP : va_P (dC, dI) vwCl (wX q dA M ++ [(qo, .inl (dO, 1, .inr (.inl o)))]) s.heap := hP
  have hD : va_D A (wX q dA M ++ [(qo, .inl (dO, 1, .inr (.inl o)))]) := hD
  refine lv_aload hx hb dXl_run_0 (lv_at hl 3 rfl) ?_
  refine lv_iconst (v := 0) hx hb dXl_run_2 (by decide) ?_
  refine lv_aload_n hx hb dXl_run_3 rfl (lv_at hl 0 rfl) ?_
  refine lv_lload_n hx hb dXl_run_4 rfl (lv_at hl 1 rfl) ?_
  refine lv_iload_n hx hb dXl_run_5 rfl (lv_at hl 2 rfl) ?_
  rcases hw with hw | hw
  · refine cp_i (w := (wX q dA)) (M := M) (suf := [(qo, .inl (dO, 1, .inr (.inl o)))]) (wX_ad q dA) (va_runV (As := [.long p1, .int p2]) (rest := [.int 0, .ref qo]) ⟨hx, hb, hml, hown, hta⟩ (mtnXs_run l dC dI q dA s.heap.size p1 p2 M _ hw) (cwV 2 hta (giV wt_450 wt_451 wt_452 wt_1 wt_453) rfl rfl rfl (by decide +kernel) ⟨(Nat.le_of_ble_eq_true rfl), (Nat.le_of_ble_eq_true rfl)⟩) ⟨pW_blind, va_recv hKx (wP_l hP) (ci := 0) (q0 := 0) rfl (wX_0 q dA M), pW_of hKx (wP_l hP) (wD_l hD)⟩ rfl rfl hl.1 rfl (lv_room (Nat.le_of_ble_eq_true rfl)) dXl_run_6 ⟨(Nat.le_of_ble_eq_true rfl), (Nat.le_of_ble_eq_true rfl)⟩) hP hD hS hA (fun r M2 H locs hw hP hD hS => ?_)
    refine lv_i2l hx hb dXl_run_9 rfl ?_
    refine va_last hx hb hK hP hD hS 27 22 rfl rfl (by unfold vp_in; decide) dXl_run_10 (fun H locs hP hD hS => ?_)
    have hP : va_P (dC, dI) vwCl (wH q dA qo dO (M2, vp_updL o 0 r.toInt64)) H := hP
    have hD : va_D A (wH q dA qo dO (M2, vp_updL o 0 r.toInt64)) := hD
    refine lv_goto (tgt := 18) hx hb dXl_run_11 (by decide) ?_
    refine lv_iconst (v := 0) hx hb dXl_run_18 (by decide) ?_
    refine W.widen (k := 1) (n := 6) (Nat.le_of_ble_eq_true rfl) (Nat.le_of_ble_eq_true rfl) ?_
    exact W.iret (v := 0) hx hb hr (fun t ht hW => ⟨⟨0, (M2, vp_updL o 0 r.toInt64), rfl, hw, by rw [ht]; exact hP, va_K.moved hW.alike hK, hD⟩, hS.F ht⟩) hS.2.2 dXl_run_19 hlocks
  · refine px_i (w := (wX q dA)) (M := M) (suf := [(qo, .inl (dO, 1, .inr (.inl o)))]) (wX_ad q dA) (vx_runV (As := [.long p1, .int p2]) (rest := [.int 0, .ref qo]) ⟨hx, hb, hml, hown, hta⟩ (mtXs_run l hl9 dC dI q dA s.heap.size p1 p2 M _ _ hw) (cwV 2 hta (giV wt_450 wt_451 wt_452 wt_1 wt_453) rfl rfl rfl (by decide +kernel) ⟨(Nat.le_of_ble_eq_true rfl), (Nat.le_of_ble_eq_true rfl)⟩) ⟨pWx_blind sX_ok, va_recv hKx (wP_l hP) (ci := 0) (q0 := 0) rfl (wX_0 q dA M), pWx_of (pre := []) (suf := [(qo, .inl (dO, 1, .inr (.inl o)))]) sX_ok hKx (wP_l hP) hD hS hA hZ hsp.1⟩ rfl rfl hl.1 rfl (lv_room (Nat.le_of_ble_eq_true rfl)) dXl_run_6 ⟨(Nat.le_of_ble_eq_true rfl), (Nat.le_of_ble_eq_true rfl)⟩) hP hD hS hA (fun k9 E9 ce q9 M2 H locs hE hw hP hD hS hce hcv hcl => ?_) (fun r M2 H locs hw hP hD hS => False.elim hw)
    have hP : va_P (dC, dI) vwCl (wH q dA qo dO (M2, o)) H := hP
    have hD : va_D A (wH q dA qo dO (M2, o)) := hD
    rcases hw with ⟨hk9, hw⟩
    · subst hk9
      subst hE
      refine vx_catch (own := "ServiceThreadsLaw") (name := "java/lang/IndexOutOfBoundsException") (E := "java/lang/IndexOutOfBoundsException") hown [] ⟨0, 11, 14, 15⟩ [] (by rw [hTab]; rfl) (fun z hz => nomatch hz) (by decide) (by decide) (hta _ wt_189) (va_Nw.use rfl (sX_w5 hsp.1)) hce hcv hcl ?_
      refine lv_astore (lv' := [(5, .ref q9), (0, .ref (q 0)), (1, .long p1), (3, .int p2), (4, .ref qo)]) hx hb dXl_run_14 hl (by decide) rfl (fun ls hl => ?_)
      refine lv_iconst (v := 1) hx hb dXl_run_16 (by decide) ?_
      refine W.widen (k := 1) (n := 6) (Nat.le_of_ble_eq_true rfl) (Nat.le_of_ble_eq_true rfl) ?_
      exact W.iret (v := 1) hx hb hr (fun t ht hW => ⟨⟨1, (M2, o), rfl, hw, by rw [ht]; exact hP, va_K.moved hW.alike hK, hD⟩, hS.F ht⟩) hS.2.2 dXl_run_17 hlocks
def wpXl_kill (p1 : Int32) (M : Mm) (post : Int32 → Mm → Prop) : Prop := (wpXs_kill p1 M (fun M' => post 0 M') (fun _ _ => False)) ∨ (wpXs_kill p1 M (fun _ => False) (fun k9 M' => (k9 = 0 ∧ post 1 M') ∨ (k9 = 2 ∧ post 2 M')))
set_option maxHeartbeats 4000000 in
set_option maxRecDepth 100000 in
theorem mtXl_kill (l : Launch) (hl9 : l.stackTraces = false) (dC : Nat → ClassId) (dI : Nat → Nat → Nat) (q : Nat → Nat) (dA : Nat → ClassId) (sz : Nat) (p1 : Int32) (M : Mm) (post : Int32 → Mm → Prop) (hw : wpXl_kill p1 M post) : Met l yXl_kill (wsH yXl_kill cXl_kill 3 (some .int) [(0, 5, 8, 13), (0, 5, 11, 17)]) ({ frames := 8, cells := 1, slots := 6, locals := 124 }) (va_Pc [.ref (q 0), .int p1] (pWx (dC, dI) vwCl (wX q dA) (tX dA) sL sz M)) (va_Qi post (bW (dC, dI) vwCl (wX q dA) (tX dA) (va_A (wX q dA M) sz)) (va_A (wX q dA M) sz)) 1 6 (va_A (wX q dA M) sz) := by
  refine va_MetW (cc := cXl_kill) (maxL := 3) (ret := (some .int)) (hh := [(0, 5, 8, 13), (0, 5, 11, 17)]) (by decide) rfl ?_
  intro p e s m args below meth c s₁ B hml hv
  obtain ⟨rfl, hsz, hP, hK, hD0, hZ, hsp⟩ := hv
  have hx := B.exec
  have hb := B.bytes
  have hr := B.returns
  have hts := atoms_spec (ws := (wsH yXl_kill cXl_kill 3 (some .int) [(0, 5, 8, 13), (0, 5, 11, 17)])) B.pre
  have hta : ∀ w ∈ wsG, w.before _ s = true := fun w h => hts w (List.mem_cons_of_mem _ h)
  have hown : s.vm.findClass "ServiceThreadsLaw" = some m.cls := findClass_of_methodNamed B.named
  have hlocks := B.notSynchronized
  have hTab : c.exceptionTable.toList = tableOf [(0, 5, 8, 13), (0, 5, 11, 17)] := vx_table (x := yXl_kill) B (hts _ List.mem_cons_self)
  subst hsz
  have hD := hD0.self (sz := s.heap.size)
  generalize hAe : va_A _ s.heap.size = A at hD hZ ⊢
  have hA : ∀ q : Nat, s.heap.size ≤ q → A q := fun q h => by rw [← hAe]; exact Or.inr h
  have hS : va_S A s.heap s.heap [] := va_S.rf
  dsimp only [wpXl_kill] at hw
  have hl := lv_entry ([.ref (q 0), .int p1]) (n := 3) (Nat.le_of_ble_eq_true rfl)
  rw [lg_entry_eq]
  generalize (lg_sl ([.ref (q 0), .int p1]) ++ List.replicate (3 - (lg_sl ([.ref (q 0), .int p1])).length) Slot.unset).toArray = ls at hl ⊢
  have hl : lv_has ls 3 [(0, .ref (q 0)), (1, .int p1)] := hl
  have hKx := hK
  refine lv_aload_n hx hb dXl_kill_0 rfl (lv_at hl 0 rfl) ?_
  refine lv_iload_n hx hb dXl_kill_1 rfl (lv_at hl 1 rfl) ?_
  rcases hw with hw | hw
  · refine cn_v (w := (wX q dA)) (M := M) (wX_ad q dA) (va_runV (As := [.int p1]) (rest := []) ⟨hx, hb, hml, hown, hta⟩ (mtnXs_kill l dC dI q dA s.heap.size p1 M _ hw) (cwV 1 hta (giV wt_459 wt_460 wt_461 wt_1 wt_462) rfl rfl rfl (by decide +kernel) ⟨(Nat.le_of_ble_eq_true rfl), (Nat.le_of_ble_eq_true rfl)⟩) ⟨pW_blind, va_recv hKx hP (ci := 0) (q0 := 0) rfl (wX_0 q dA M), pW_of hKx hP hD⟩ rfl rfl hl.1 rfl (lv_room (Nat.le_of_ble_eq_true rfl)) dXl_kill_2 ⟨(Nat.le_of_ble_eq_true rfl), (Nat.le_of_ble_eq_true rfl)⟩) hD hS hA (fun M2 H locs hw hP hD hS => ?_)
    refine lv_goto (tgt := 14) hx hb dXl_kill_5 (by decide) ?_
    refine lv_iconst (v := 0) hx hb dXl_kill_14 (by decide) ?_
    refine W.widen (k := 1) (n := 6) (Nat.le_of_ble_eq_true rfl) (Nat.le_of_ble_eq_true rfl) ?_
    exact W.iret (v := 0) hx hb hr (fun t ht hW => ⟨⟨0, M2, rfl, hw, by rw [ht]; exact hP, va_K.moved hW.alike hK, hD⟩, hS.F ht⟩) hS.2.2 dXl_kill_15 hlocks
  · refine cx_v (w := (wX q dA)) (M := M) (wX_ad q dA) (vx_runV (As := [.int p1]) (rest := []) ⟨hx, hb, hml, hown, hta⟩ (mtXs_kill l hl9 dC dI q dA s.heap.size p1 M _ _ hw) (cwV 1 hta (giV wt_459 wt_460 wt_461 wt_1 wt_462) rfl rfl rfl (by decide +kernel) ⟨(Nat.le_of_ble_eq_true rfl), (Nat.le_of_ble_eq_true rfl)⟩) ⟨pWx_blind sX_ok, va_recv hKx hP (ci := 0) (q0 := 0) rfl (wX_0 q dA M), pWx_ofn sX_ok hKx hP hD hS hA hZ hsp.1⟩ rfl rfl hl.1 rfl (lv_room (Nat.le_of_ble_eq_true rfl)) dXl_kill_2 ⟨(Nat.le_of_ble_eq_true rfl), (Nat.le_of_ble_eq_true rfl)⟩) hD hS hA (fun k9 E9 ce q9 M2 H locs hE hw hP hD hS hce hcv hcl => ?_) (fun M2 H locs hw hP hD hS => False.elim hw)
    rcases hw with ⟨hk9, hw⟩ | ⟨hk9, hw⟩
    · subst hk9
      subst hE
      refine vx_catch (own := "ServiceThreadsLaw") (name := "java/lang/IllegalArgumentException") (E := "java/lang/IllegalArgumentException") hown [] ⟨0, 5, 8, 13⟩ [⟨0, 5, 11, 17⟩] (by rw [hTab]; rfl) (fun z hz => nomatch hz) (by decide) (by decide) (hta _ wt_188) (va_Nw.use rfl (sX_w0 hsp.1)) hce hcv hcl ?_
      refine lv_astore_n (lv' := [(2, .ref q9), (0, .ref (q 0)), (1, .int p1)]) hx hb dXl_kill_8 rfl hl (by decide) rfl (fun ls hl => ?_)
      refine lv_iconst (v := 1) hx hb dXl_kill_9 (by decide) ?_
      refine W.widen (k := 1) (n := 6) (Nat.le_of_ble_eq_true rfl) (Nat.le_of_ble_eq_true rfl) ?_
      exact W.iret (v := 1) hx hb hr (fun t ht hW => ⟨⟨1, M2, rfl, hw, by rw [ht]; exact hP, va_K.moved hW.alike hK, hD⟩, hS.F ht⟩) hS.2.2 dXl_kill_10 hlocks
    · subst hk9
      subst hE
      refine vx_catch (own := "ServiceThreadsLaw") (name := "java/lang/IllegalStateException") (E := "java/lang/IllegalStateException") hown [⟨0, 5, 8, 13⟩] ⟨0, 5, 11, 17⟩ [] (by rw [hTab]; rfl) (by
        intro z hz
        rcases List.mem_cons.mp hz with rfl | hz
        · exact Or.inr ⟨by decide, "java/lang/IllegalArgumentException", hta _ wt_188, sL_n1 hsp⟩
        cases hz) (by decide) (by decide) (hta _ wt_190) (va_Nw.use rfl (sX_w4 hsp.1)) hce hcv hcl ?_
      refine lv_astore_n (lv' := [(2, .ref q9), (0, .ref (q 0)), (1, .int p1)]) hx hb dXl_kill_11 rfl hl (by decide) rfl (fun ls hl => ?_)
      refine lv_iconst (v := 2) hx hb dXl_kill_12 (by decide) ?_
      refine W.widen (k := 1) (n := 6) (Nat.le_of_ble_eq_true rfl) (Nat.le_of_ble_eq_true rfl) ?_
      exact W.iret (v := 2) hx hb hr (fun t ht hW => ⟨⟨2, M2, rfl, hw, by rw [ht]; exact hP, va_K.moved hW.alike hK, hD⟩, hS.F ht⟩) hS.2.2 dXl_kill_13 hlocks
def wpXl_restart (p1 : Int32) (M : Mm) (post : Int32 → Mm → Prop) : Prop := (wpXs_restart p1 M (fun M' => post 0 M') (fun _ _ => False)) ∨ (wpXs_restart p1 M (fun _ => False) (fun k9 M' => (k9 = 0 ∧ post 1 M') ∨ (k9 = 2 ∧ post 2 M')))
set_option maxHeartbeats 4000000 in
set_option maxRecDepth 100000 in
theorem mtXl_restart (l : Launch) (hl9 : l.stackTraces = false) (dC : Nat → ClassId) (dI : Nat → Nat → Nat) (q : Nat → Nat) (dA : Nat → ClassId) (sz : Nat) (p1 : Int32) (M : Mm) (post : Int32 → Mm → Prop) (hw : wpXl_restart p1 M post) : Met l yXl_restart (wsH yXl_restart cXl_restart 3 (some .int) [(0, 5, 8, 13), (0, 5, 11, 17)]) ({ frames := 8, cells := 1, slots := 6, locals := 123 }) (va_Pc [.ref (q 0), .int p1] (pWx (dC, dI) vwCl (wX q dA) (tX dA) sL sz M)) (va_Qi post (bW (dC, dI) vwCl (wX q dA) (tX dA) (va_A (wX q dA M) sz)) (va_A (wX q dA M) sz)) 1 6 (va_A (wX q dA M) sz) := by
  refine va_MetW (cc := cXl_restart) (maxL := 3) (ret := (some .int)) (hh := [(0, 5, 8, 13), (0, 5, 11, 17)]) (by decide) rfl ?_
  intro p e s m args below meth c s₁ B hml hv
  obtain ⟨rfl, hsz, hP, hK, hD0, hZ, hsp⟩ := hv
  have hx := B.exec
  have hb := B.bytes
  have hr := B.returns
  have hts := atoms_spec (ws := (wsH yXl_restart cXl_restart 3 (some .int) [(0, 5, 8, 13), (0, 5, 11, 17)])) B.pre
  have hta : ∀ w ∈ wsG, w.before _ s = true := fun w h => hts w (List.mem_cons_of_mem _ h)
  have hown : s.vm.findClass "ServiceThreadsLaw" = some m.cls := findClass_of_methodNamed B.named
  have hlocks := B.notSynchronized
  have hTab : c.exceptionTable.toList = tableOf [(0, 5, 8, 13), (0, 5, 11, 17)] := vx_table (x := yXl_restart) B (hts _ List.mem_cons_self)
  subst hsz
  have hD := hD0.self (sz := s.heap.size)
  generalize hAe : va_A _ s.heap.size = A at hD hZ ⊢
  have hA : ∀ q : Nat, s.heap.size ≤ q → A q := fun q h => by rw [← hAe]; exact Or.inr h
  have hS : va_S A s.heap s.heap [] := va_S.rf
  dsimp only [wpXl_restart] at hw
  have hl := lv_entry ([.ref (q 0), .int p1]) (n := 3) (Nat.le_of_ble_eq_true rfl)
  rw [lg_entry_eq]
  generalize (lg_sl ([.ref (q 0), .int p1]) ++ List.replicate (3 - (lg_sl ([.ref (q 0), .int p1])).length) Slot.unset).toArray = ls at hl ⊢
  have hl : lv_has ls 3 [(0, .ref (q 0)), (1, .int p1)] := hl
  have hKx := hK
  refine lv_aload_n hx hb dXl_restart_0 rfl (lv_at hl 0 rfl) ?_
  refine lv_iload_n hx hb dXl_restart_1 rfl (lv_at hl 1 rfl) ?_
  rcases hw with hw | hw
  · refine cn_v (w := (wX q dA)) (M := M) (wX_ad q dA) (va_runV (As := [.int p1]) (rest := []) ⟨hx, hb, hml, hown, hta⟩ (mtnXs_restart l dC dI q dA s.heap.size p1 M _ hw) (cwV 1 hta (giV wt_478 wt_479 wt_480 wt_1 wt_481) rfl rfl rfl (by decide +kernel) ⟨(Nat.le_of_ble_eq_true rfl), (Nat.le_of_ble_eq_true rfl)⟩) ⟨pW_blind, va_recv hKx hP (ci := 0) (q0 := 0) rfl (wX_0 q dA M), pW_of hKx hP hD⟩ rfl rfl hl.1 rfl (lv_room (Nat.le_of_ble_eq_true rfl)) dXl_restart_2 ⟨(Nat.le_of_ble_eq_true rfl), (Nat.le_of_ble_eq_true rfl)⟩) hD hS hA (fun M2 H locs hw hP hD hS => ?_)
    refine lv_goto (tgt := 14) hx hb dXl_restart_5 (by decide) ?_
    refine lv_iconst (v := 0) hx hb dXl_restart_14 (by decide) ?_
    refine W.widen (k := 1) (n := 6) (Nat.le_of_ble_eq_true rfl) (Nat.le_of_ble_eq_true rfl) ?_
    exact W.iret (v := 0) hx hb hr (fun t ht hW => ⟨⟨0, M2, rfl, hw, by rw [ht]; exact hP, va_K.moved hW.alike hK, hD⟩, hS.F ht⟩) hS.2.2 dXl_restart_15 hlocks
  · refine cx_v (w := (wX q dA)) (M := M) (wX_ad q dA) (vx_runV (As := [.int p1]) (rest := []) ⟨hx, hb, hml, hown, hta⟩ (mtXs_restart l hl9 dC dI q dA s.heap.size p1 M _ _ hw) (cwV 1 hta (giV wt_478 wt_479 wt_480 wt_1 wt_481) rfl rfl rfl (by decide +kernel) ⟨(Nat.le_of_ble_eq_true rfl), (Nat.le_of_ble_eq_true rfl)⟩) ⟨pWx_blind sX_ok, va_recv hKx hP (ci := 0) (q0 := 0) rfl (wX_0 q dA M), pWx_ofn sX_ok hKx hP hD hS hA hZ hsp.1⟩ rfl rfl hl.1 rfl (lv_room (Nat.le_of_ble_eq_true rfl)) dXl_restart_2 ⟨(Nat.le_of_ble_eq_true rfl), (Nat.le_of_ble_eq_true rfl)⟩) hD hS hA (fun k9 E9 ce q9 M2 H locs hE hw hP hD hS hce hcv hcl => ?_) (fun M2 H locs hw hP hD hS => False.elim hw)
    rcases hw with ⟨hk9, hw⟩ | ⟨hk9, hw⟩
    · subst hk9
      subst hE
      refine vx_catch (own := "ServiceThreadsLaw") (name := "java/lang/IllegalArgumentException") (E := "java/lang/IllegalArgumentException") hown [] ⟨0, 5, 8, 13⟩ [⟨0, 5, 11, 17⟩] (by rw [hTab]; rfl) (fun z hz => nomatch hz) (by decide) (by decide) (hta _ wt_188) (va_Nw.use rfl (sX_w0 hsp.1)) hce hcv hcl ?_
      refine lv_astore_n (lv' := [(2, .ref q9), (0, .ref (q 0)), (1, .int p1)]) hx hb dXl_restart_8 rfl hl (by decide) rfl (fun ls hl => ?_)
      refine lv_iconst (v := 1) hx hb dXl_restart_9 (by decide) ?_
      refine W.widen (k := 1) (n := 6) (Nat.le_of_ble_eq_true rfl) (Nat.le_of_ble_eq_true rfl) ?_
      exact W.iret (v := 1) hx hb hr (fun t ht hW => ⟨⟨1, M2, rfl, hw, by rw [ht]; exact hP, va_K.moved hW.alike hK, hD⟩, hS.F ht⟩) hS.2.2 dXl_restart_10 hlocks
    · subst hk9
      subst hE
      refine vx_catch (own := "ServiceThreadsLaw") (name := "java/lang/IllegalStateException") (E := "java/lang/IllegalStateException") hown [⟨0, 5, 8, 13⟩] ⟨0, 5, 11, 17⟩ [] (by rw [hTab]; rfl) (by
        intro z hz
        rcases List.mem_cons.mp hz with rfl | hz
        · exact Or.inr ⟨by decide, "java/lang/IllegalArgumentException", hta _ wt_188, sL_n1 hsp⟩
        cases hz) (by decide) (by decide) (hta _ wt_190) (va_Nw.use rfl (sX_w4 hsp.1)) hce hcv hcl ?_
      refine lv_astore_n (lv' := [(2, .ref q9), (0, .ref (q 0)), (1, .int p1)]) hx hb dXl_restart_11 rfl hl (by decide) rfl (fun ls hl => ?_)
      refine lv_iconst (v := 2) hx hb dXl_restart_12 (by decide) ?_
      refine W.widen (k := 1) (n := 6) (Nat.le_of_ble_eq_true rfl) (Nat.le_of_ble_eq_true rfl) ?_
      exact W.iret (v := 2) hx hb hr (fun t ht hW => ⟨⟨2, M2, rfl, hw, by rw [ht]; exact hP, va_K.moved hW.alike hK, hD⟩, hS.F ht⟩) hS.2.2 dXl_restart_13 hlocks
def wpXl_lease (p1 : Int32) (M : Mm) (post : Int32 → Mm → Prop) : Prop := (wpXs_lease p1 M (fun M' => post 0 M') (fun _ _ => False)) ∨ (wpXs_lease p1 M (fun _ => False) (fun k9 M' => (k9 = 1 ∧ post 1 M')))
set_option maxHeartbeats 4000000 in
set_option maxRecDepth 100000 in
theorem mtXl_lease (l : Launch) (hl9 : l.stackTraces = false) (dC : Nat → ClassId) (dI : Nat → Nat → Nat) (q : Nat → Nat) (dA : Nat → ClassId) (sz : Nat) (p1 : Int32) (M : Mm) (post : Int32 → Mm → Prop) (hw : wpXl_lease p1 M post) : Met l yXl_lease (wsH yXl_lease cXl_lease 3 (some .int) [(0, 5, 8, 15)]) ({ frames := 7, cells := 1, slots := 6, locals := 103 }) (va_Pc [.ref (q 0), .int p1] (pWx (dC, dI) vwCl (wX q dA) (tX dA) sL sz M)) (va_Qi post (bW (dC, dI) vwCl (wX q dA) (tX dA) (va_A (wX q dA M) sz)) (va_A (wX q dA M) sz)) 1 6 (va_A (wX q dA M) sz) := by
  refine va_MetW (cc := cXl_lease) (maxL := 3) (ret := (some .int)) (hh := [(0, 5, 8, 15)]) (by decide) rfl ?_
  intro p e s m args below meth c s₁ B hml hv
  obtain ⟨rfl, hsz, hP, hK, hD0, hZ, hsp⟩ := hv
  have hx := B.exec
  have hb := B.bytes
  have hr := B.returns
  have hts := atoms_spec (ws := (wsH yXl_lease cXl_lease 3 (some .int) [(0, 5, 8, 15)])) B.pre
  have hta : ∀ w ∈ wsG, w.before _ s = true := fun w h => hts w (List.mem_cons_of_mem _ h)
  have hown : s.vm.findClass "ServiceThreadsLaw" = some m.cls := findClass_of_methodNamed B.named
  have hlocks := B.notSynchronized
  have hTab : c.exceptionTable.toList = tableOf [(0, 5, 8, 15)] := vx_table (x := yXl_lease) B (hts _ List.mem_cons_self)
  subst hsz
  have hD := hD0.self (sz := s.heap.size)
  generalize hAe : va_A _ s.heap.size = A at hD hZ ⊢
  have hA : ∀ q : Nat, s.heap.size ≤ q → A q := fun q h => by rw [← hAe]; exact Or.inr h
  have hS : va_S A s.heap s.heap [] := va_S.rf
  dsimp only [wpXl_lease] at hw
  have hl := lv_entry ([.ref (q 0), .int p1]) (n := 3) (Nat.le_of_ble_eq_true rfl)
  rw [lg_entry_eq]
  generalize (lg_sl ([.ref (q 0), .int p1]) ++ List.replicate (3 - (lg_sl ([.ref (q 0), .int p1])).length) Slot.unset).toArray = ls at hl ⊢
  have hl : lv_has ls 3 [(0, .ref (q 0)), (1, .int p1)] := hl
  have hKx := hK
  refine lv_aload_n hx hb dXl_lease_0 rfl (lv_at hl 0 rfl) ?_
  refine lv_iload_n hx hb dXl_lease_1 rfl (lv_at hl 1 rfl) ?_
  rcases hw with hw | hw
  · refine cn_v (w := (wX q dA)) (M := M) (wX_ad q dA) (va_runV (As := [.int p1]) (rest := []) ⟨hx, hb, hml, hown, hta⟩ (mtnXs_lease l dC dI q dA s.heap.size p1 M _ hw) (cwV 1 hta (giV wt_486 wt_487 wt_488 wt_1 wt_489) rfl rfl rfl (by decide +kernel) ⟨(Nat.le_of_ble_eq_true rfl), (Nat.le_of_ble_eq_true rfl)⟩) ⟨pW_blind, va_recv hKx hP (ci := 0) (q0 := 0) rfl (wX_0 q dA M), pW_of hKx hP hD⟩ rfl rfl hl.1 rfl (lv_room (Nat.le_of_ble_eq_true rfl)) dXl_lease_2 ⟨(Nat.le_of_ble_eq_true rfl), (Nat.le_of_ble_eq_true rfl)⟩) hD hS hA (fun M2 H locs hw hP hD hS => ?_)
    refine lv_goto (tgt := 11) hx hb dXl_lease_5 (by decide) ?_
    refine lv_iconst (v := 0) hx hb dXl_lease_11 (by decide) ?_
    refine W.widen (k := 1) (n := 6) (Nat.le_of_ble_eq_true rfl) (Nat.le_of_ble_eq_true rfl) ?_
    exact W.iret (v := 0) hx hb hr (fun t ht hW => ⟨⟨0, M2, rfl, hw, by rw [ht]; exact hP, va_K.moved hW.alike hK, hD⟩, hS.F ht⟩) hS.2.2 dXl_lease_12 hlocks
  · refine cx_v (w := (wX q dA)) (M := M) (wX_ad q dA) (vx_runV (As := [.int p1]) (rest := []) ⟨hx, hb, hml, hown, hta⟩ (mtXs_lease l hl9 dC dI q dA s.heap.size p1 M _ _ hw) (cwV 1 hta (giV wt_486 wt_487 wt_488 wt_1 wt_489) rfl rfl rfl (by decide +kernel) ⟨(Nat.le_of_ble_eq_true rfl), (Nat.le_of_ble_eq_true rfl)⟩) ⟨pWx_blind sX_ok, va_recv hKx hP (ci := 0) (q0 := 0) rfl (wX_0 q dA M), pWx_ofn sX_ok hKx hP hD hS hA hZ hsp.1⟩ rfl rfl hl.1 rfl (lv_room (Nat.le_of_ble_eq_true rfl)) dXl_lease_2 ⟨(Nat.le_of_ble_eq_true rfl), (Nat.le_of_ble_eq_true rfl)⟩) hD hS hA (fun k9 E9 ce q9 M2 H locs hE hw hP hD hS hce hcv hcl => ?_) (fun M2 H locs hw hP hD hS => False.elim hw)
    rcases hw with ⟨hk9, hw⟩
    · subst hk9
      subst hE
      refine vx_catch (own := "ServiceThreadsLaw") (name := "java/lang/IndexOutOfBoundsException") (E := "java/lang/IndexOutOfBoundsException") hown [] ⟨0, 5, 8, 15⟩ [] (by rw [hTab]; rfl) (fun z hz => nomatch hz) (by decide) (by decide) (hta _ wt_189) (va_Nw.use rfl (sX_w5 hsp.1)) hce hcv hcl ?_
      refine lv_astore_n (lv' := [(2, .ref q9), (0, .ref (q 0)), (1, .int p1)]) hx hb dXl_lease_8 rfl hl (by decide) rfl (fun ls hl => ?_)
      refine lv_iconst (v := 1) hx hb dXl_lease_9 (by decide) ?_
      refine W.widen (k := 1) (n := 6) (Nat.le_of_ble_eq_true rfl) (Nat.le_of_ble_eq_true rfl) ?_
      exact W.iret (v := 1) hx hb hr (fun t ht hW => ⟨⟨1, M2, rfl, hw, by rw [ht]; exact hP, va_K.moved hW.alike hK, hD⟩, hS.F ht⟩) hS.2.2 dXl_lease_10 hlocks
def wpXl_unit (p1 : Int32) (p2 : Int32) (M : Mm) (o : Nat → Int64) (post : Int32 → Mm × (Nat → Int64) → Prop) : Prop := (wpXs_unit p1 p2 M (fun r M' => post 0 (M', vp_updL o 0 r.toInt64)) (fun _ _ => False)) ∨ (wpXs_unit p1 p2 M (fun _ _ => False) (fun k9 M' => (k9 = 0 ∧ post 1 (M', o))))
set_option maxHeartbeats 4000000 in
set_option maxRecDepth 100000 in
theorem mtXl_unit (l : Launch) (hl9 : l.stackTraces = false) (dC : Nat → ClassId) (dI : Nat → Nat → Nat) (q : Nat → Nat) (dA : Nat → ClassId) (qo : Nat) (dO : ClassId) (sz : Nat) (p1 : Int32) (p2 : Int32) (M : Mm) (o : Nat → Int64) (post : Int32 → Mm × (Nat → Int64) → Prop) (hw : wpXl_unit p1 p2 M o post) : Met l yXl_unit (wsH yXl_unit cXl_unit 5 (some .int) [(0, 10, 13, 13)]) ({ frames := 7, cells := 1, slots := 6, locals := 104 }) (va_Pc [.ref (q 0), .int p1, .int p2, .ref qo] (pWx (dC, dI) vwCl (wH q dA qo dO) (tH dA dO) sL sz (M, o))) (va_Qi post (bW (dC, dI) vwCl (wH q dA qo dO) (tH dA dO) (va_A (wH q dA qo dO (M, o)) sz)) (va_A (wH q dA qo dO (M, o)) sz)) 1 6 (va_A (wH q dA qo dO (M, o)) sz) := by
  refine va_MetW (cc := cXl_unit) (maxL := 5) (ret := (some .int)) (hh := [(0, 10, 13, 13)]) (by decide) rfl ?_
  intro p e s m args below meth c s₁ B hml hv
  obtain ⟨rfl, hsz, hP, hK, hD0, hZ, hsp⟩ := hv
  have hx := B.exec
  have hb := B.bytes
  have hr := B.returns
  have hts := atoms_spec (ws := (wsH yXl_unit cXl_unit 5 (some .int) [(0, 10, 13, 13)])) B.pre
  have hta : ∀ w ∈ wsG, w.before _ s = true := fun w h => hts w (List.mem_cons_of_mem _ h)
  have hown : s.vm.findClass "ServiceThreadsLaw" = some m.cls := findClass_of_methodNamed B.named
  have hlocks := B.notSynchronized
  have hTab : c.exceptionTable.toList = tableOf [(0, 10, 13, 13)] := vx_table (x := yXl_unit) B (hts _ List.mem_cons_self)
  subst hsz
  have hD := hD0.self (sz := s.heap.size)
  generalize hAe : va_A _ s.heap.size = A at hD hZ ⊢
  have hA : ∀ q : Nat, s.heap.size ≤ q → A q := fun q h => by rw [← hAe]; exact Or.inr h
  have hS : va_S A s.heap s.heap [] := va_S.rf
  dsimp only [wpXl_unit] at hw
  have hl := lv_entry ([.ref (q 0), .int p1, .int p2, .ref qo]) (n := 5) (Nat.le_of_ble_eq_true rfl)
  rw [lg_entry_eq]
  generalize (lg_sl ([.ref (q 0), .int p1, .int p2, .ref qo]) ++ List.replicate (5 - (lg_sl ([.ref (q 0), .int p1, .int p2, .ref qo])).length) Slot.unset).toArray = ls at hl ⊢
  have hl : lv_has ls 5 [(0, .ref (q 0)), (1, .int p1), (2, .int p2), (3, .ref qo)] := hl
  have hKx : va_K (dC, dI) vwCl (tX dA) s := hK.sub (tys' := tX dA) [0, 1, 2, 3, 4, 5, 6, 7, 8, 9, 10, 11, 12, 13, 14, 15, 16, 17, 18, 19, 20, 21] rfl
  have hP : va_P (dC, dI) vwCl (wX q dA M ++ [(qo, .inl (dO, 1, .inr (.inl o)))]) s.heap := hP
  have hD : va_D A (wX q dA M ++ [(qo, .inl (dO, 1, .inr (.inl o)))]) := hD
  refine lv_aload_n hx hb dXl_unit_0 rfl (lv_at hl 3 rfl) ?_
  refine lv_iconst (v := 0) hx hb dXl_unit_1 (by decide) ?_
  refine lv_aload_n hx hb dXl_unit_2 rfl (lv_at hl 0 rfl) ?_
  refine lv_iload_n hx hb dXl_unit_3 rfl (lv_at hl 1 rfl) ?_
  refine lv_iload_n hx hb dXl_unit_4 rfl (lv_at hl 2 rfl) ?_
  rcases hw with hw | hw
  · refine cp_i (w := (wX q dA)) (M := M) (suf := [(qo, .inl (dO, 1, .inr (.inl o)))]) (wX_ad q dA) (va_runV (As := [.int p1, .int p2]) (rest := [.int 0, .ref qo]) ⟨hx, hb, hml, hown, hta⟩ (mtnXs_unit l dC dI q dA s.heap.size p1 p2 M _ hw) (cwV 2 hta (giV wt_494 wt_495 wt_496 wt_1 wt_497) rfl rfl rfl (by decide +kernel) ⟨(Nat.le_of_ble_eq_true rfl), (Nat.le_of_ble_eq_true rfl)⟩) ⟨pW_blind, va_recv hKx (wP_l hP) (ci := 0) (q0 := 0) rfl (wX_0 q dA M), pW_of hKx (wP_l hP) (wD_l hD)⟩ rfl rfl hl.1 rfl (lv_room (Nat.le_of_ble_eq_true rfl)) dXl_unit_5 ⟨(Nat.le_of_ble_eq_true rfl), (Nat.le_of_ble_eq_true rfl)⟩) hP hD hS hA (fun r M2 H locs hw hP hD hS => ?_)
    refine lv_i2l hx hb dXl_unit_8 rfl ?_
    refine va_last hx hb hK hP hD hS 27 22 rfl rfl (by unfold vp_in; decide) dXl_unit_9 (fun H locs hP hD hS => ?_)
    have hP : va_P (dC, dI) vwCl (wH q dA qo dO (M2, vp_updL o 0 r.toInt64)) H := hP
    have hD : va_D A (wH q dA qo dO (M2, vp_updL o 0 r.toInt64)) := hD
    refine lv_goto (tgt := 17) hx hb dXl_unit_10 (by decide) ?_
    refine lv_iconst (v := 0) hx hb dXl_unit_17 (by decide) ?_
    refine W.widen (k := 1) (n := 6) (Nat.le_of_ble_eq_true rfl) (Nat.le_of_ble_eq_true rfl) ?_
    exact W.iret (v := 0) hx hb hr (fun t ht hW => ⟨⟨0, (M2, vp_updL o 0 r.toInt64), rfl, hw, by rw [ht]; exact hP, va_K.moved hW.alike hK, hD⟩, hS.F ht⟩) hS.2.2 dXl_unit_18 hlocks
  · refine px_i (w := (wX q dA)) (M := M) (suf := [(qo, .inl (dO, 1, .inr (.inl o)))]) (wX_ad q dA) (vx_runV (As := [.int p1, .int p2]) (rest := [.int 0, .ref qo]) ⟨hx, hb, hml, hown, hta⟩ (mtXs_unit l hl9 dC dI q dA s.heap.size p1 p2 M _ _ hw) (cwV 2 hta (giV wt_494 wt_495 wt_496 wt_1 wt_497) rfl rfl rfl (by decide +kernel) ⟨(Nat.le_of_ble_eq_true rfl), (Nat.le_of_ble_eq_true rfl)⟩) ⟨pWx_blind sX_ok, va_recv hKx (wP_l hP) (ci := 0) (q0 := 0) rfl (wX_0 q dA M), pWx_of (pre := []) (suf := [(qo, .inl (dO, 1, .inr (.inl o)))]) sX_ok hKx (wP_l hP) hD hS hA hZ hsp.1⟩ rfl rfl hl.1 rfl (lv_room (Nat.le_of_ble_eq_true rfl)) dXl_unit_5 ⟨(Nat.le_of_ble_eq_true rfl), (Nat.le_of_ble_eq_true rfl)⟩) hP hD hS hA (fun k9 E9 ce q9 M2 H locs hE hw hP hD hS hce hcv hcl => ?_) (fun r M2 H locs hw hP hD hS => False.elim hw)
    have hP : va_P (dC, dI) vwCl (wH q dA qo dO (M2, o)) H := hP
    have hD : va_D A (wH q dA qo dO (M2, o)) := hD
    rcases hw with ⟨hk9, hw⟩
    · subst hk9
      subst hE
      refine vx_catch (own := "ServiceThreadsLaw") (name := "java/lang/IllegalArgumentException") (E := "java/lang/IllegalArgumentException") hown [] ⟨0, 10, 13, 13⟩ [] (by rw [hTab]; rfl) (fun z hz => nomatch hz) (by decide) (by decide) (hta _ wt_188) (va_Nw.use rfl (sX_w0 hsp.1)) hce hcv hcl ?_
      refine lv_astore (lv' := [(4, .ref q9), (0, .ref (q 0)), (1, .int p1), (2, .int p2), (3, .ref qo)]) hx hb dXl_unit_13 hl (by decide) rfl (fun ls hl => ?_)
      refine lv_iconst (v := 1) hx hb dXl_unit_15 (by decide) ?_
      refine W.widen (k := 1) (n := 6) (Nat.le_of_ble_eq_true rfl) (Nat.le_of_ble_eq_true rfl) ?_
      exact W.iret (v := 1) hx hb hr (fun t ht hW => ⟨⟨1, (M2, o), rfl, hw, by rw [ht]; exact hP, va_K.moved hW.alike hK, hD⟩, hS.F ht⟩) hS.2.2 dXl_unit_16 hlocks
def wpXl_callAt (p1 : Int32) (p2 : Int32) (M : Mm) (o : Nat → Int64) (post : Int32 → Mm × (Nat → Int64) → Prop) : Prop := (wpXs_callAt p1 p2 M (fun r M' => post 0 (M', vp_updL o 0 r.toInt64)) (fun _ _ => False)) ∨ (wpXs_callAt p1 p2 M (fun _ _ => False) (fun k9 M' => (k9 = 0 ∧ post 1 (M', o))))
set_option maxHeartbeats 4000000 in
set_option maxRecDepth 100000 in
theorem mtXl_callAt (l : Launch) (hl9 : l.stackTraces = false) (dC : Nat → ClassId) (dI : Nat → Nat → Nat) (q : Nat → Nat) (dA : Nat → ClassId) (qo : Nat) (dO : ClassId) (sz : Nat) (p1 : Int32) (p2 : Int32) (M : Mm) (o : Nat → Int64) (post : Int32 → Mm × (Nat → Int64) → Prop) (hw : wpXl_callAt p1 p2 M o post) : Met l yXl_callAt (wsH yXl_callAt cXl_callAt 5 (some .int) [(0, 10, 13, 13)]) ({ frames := 7, cells := 1, slots := 6, locals := 104 }) (va_Pc [.ref (q 0), .int p1, .int p2, .ref qo] (pWx (dC, dI) vwCl (wH q dA qo dO) (tH dA dO) sL sz (M, o))) (va_Qi post (bW (dC, dI) vwCl (wH q dA qo dO) (tH dA dO) (va_A (wH q dA qo dO (M, o)) sz)) (va_A (wH q dA qo dO (M, o)) sz)) 1 6 (va_A (wH q dA qo dO (M, o)) sz) := by
  refine va_MetW (cc := cXl_callAt) (maxL := 5) (ret := (some .int)) (hh := [(0, 10, 13, 13)]) (by decide) rfl ?_
  intro p e s m args below meth c s₁ B hml hv
  obtain ⟨rfl, hsz, hP, hK, hD0, hZ, hsp⟩ := hv
  have hx := B.exec
  have hb := B.bytes
  have hr := B.returns
  have hts := atoms_spec (ws := (wsH yXl_callAt cXl_callAt 5 (some .int) [(0, 10, 13, 13)])) B.pre
  have hta : ∀ w ∈ wsG, w.before _ s = true := fun w h => hts w (List.mem_cons_of_mem _ h)
  have hown : s.vm.findClass "ServiceThreadsLaw" = some m.cls := findClass_of_methodNamed B.named
  have hlocks := B.notSynchronized
  have hTab : c.exceptionTable.toList = tableOf [(0, 10, 13, 13)] := vx_table (x := yXl_callAt) B (hts _ List.mem_cons_self)
  subst hsz
  have hD := hD0.self (sz := s.heap.size)
  generalize hAe : va_A _ s.heap.size = A at hD hZ ⊢
  have hA : ∀ q : Nat, s.heap.size ≤ q → A q := fun q h => by rw [← hAe]; exact Or.inr h
  have hS : va_S A s.heap s.heap [] := va_S.rf
  dsimp only [wpXl_callAt] at hw
  have hl := lv_entry ([.ref (q 0), .int p1, .int p2, .ref qo]) (n := 5) (Nat.le_of_ble_eq_true rfl)
  rw [lg_entry_eq]
  generalize (lg_sl ([.ref (q 0), .int p1, .int p2, .ref qo]) ++ List.replicate (5 - (lg_sl ([.ref (q 0), .int p1, .int p2, .ref qo])).length) Slot.unset).toArray = ls at hl ⊢
  have hl : lv_has ls 5 [(0, .ref (q 0)), (1, .int p1), (2, .int p2), (3, .ref qo)] := hl
  have hKx : va_K (dC, dI) vwCl (tX dA) s := hK.sub (tys' := tX dA) [0, 1, 2, 3, 4, 5, 6, 7, 8, 9, 10, 11, 12, 13, 14, 15, 16, 17, 18, 19, 20, 21] rfl
  have hP : va_P (dC, dI) vwCl (wX q dA M ++ [(qo, .inl (dO, 1, .inr (.inl o)))]) s.heap := hP
  have hD : va_D A (wX q dA M ++ [(qo, .inl (dO, 1, .inr (.inl o)))]) := hD
  refine lv_aload_n hx hb dXl_callAt_0 rfl (lv_at hl 3 rfl) ?_
  refine lv_iconst (v := 0) hx hb dXl_callAt_1 (by decide) ?_
  refine lv_aload_n hx hb dXl_callAt_2 rfl (lv_at hl 0 rfl) ?_
  refine lv_iload_n hx hb dXl_callAt_3 rfl (lv_at hl 1 rfl) ?_
  refine lv_iload_n hx hb dXl_callAt_4 rfl (lv_at hl 2 rfl) ?_
  rcases hw with hw | hw
  · refine cp_i (w := (wX q dA)) (M := M) (suf := [(qo, .inl (dO, 1, .inr (.inl o)))]) (wX_ad q dA) (va_runV (As := [.int p1, .int p2]) (rest := [.int 0, .ref qo]) ⟨hx, hb, hml, hown, hta⟩ (mtnXs_callAt l dC dI q dA s.heap.size p1 p2 M _ hw) (cwV 2 hta (giV wt_503 wt_504 wt_505 wt_1 wt_506) rfl rfl rfl (by decide +kernel) ⟨(Nat.le_of_ble_eq_true rfl), (Nat.le_of_ble_eq_true rfl)⟩) ⟨pW_blind, va_recv hKx (wP_l hP) (ci := 0) (q0 := 0) rfl (wX_0 q dA M), pW_of hKx (wP_l hP) (wD_l hD)⟩ rfl rfl hl.1 rfl (lv_room (Nat.le_of_ble_eq_true rfl)) dXl_callAt_5 ⟨(Nat.le_of_ble_eq_true rfl), (Nat.le_of_ble_eq_true rfl)⟩) hP hD hS hA (fun r M2 H locs hw hP hD hS => ?_)
    refine lv_i2l hx hb dXl_callAt_8 rfl ?_
    refine va_last hx hb hK hP hD hS 27 22 rfl rfl (by unfold vp_in; decide) dXl_callAt_9 (fun H locs hP hD hS => ?_)
    have hP : va_P (dC, dI) vwCl (wH q dA qo dO (M2, vp_updL o 0 r.toInt64)) H := hP
    have hD : va_D A (wH q dA qo dO (M2, vp_updL o 0 r.toInt64)) := hD
    refine lv_goto (tgt := 17) hx hb dXl_callAt_10 (by decide) ?_
    refine lv_iconst (v := 0) hx hb dXl_callAt_17 (by decide) ?_
    refine W.widen (k := 1) (n := 6) (Nat.le_of_ble_eq_true rfl) (Nat.le_of_ble_eq_true rfl) ?_
    exact W.iret (v := 0) hx hb hr (fun t ht hW => ⟨⟨0, (M2, vp_updL o 0 r.toInt64), rfl, hw, by rw [ht]; exact hP, va_K.moved hW.alike hK, hD⟩, hS.F ht⟩) hS.2.2 dXl_callAt_18 hlocks
  · refine px_i (w := (wX q dA)) (M := M) (suf := [(qo, .inl (dO, 1, .inr (.inl o)))]) (wX_ad q dA) (vx_runV (As := [.int p1, .int p2]) (rest := [.int 0, .ref qo]) ⟨hx, hb, hml, hown, hta⟩ (mtXs_callAt l hl9 dC dI q dA s.heap.size p1 p2 M _ _ hw) (cwV 2 hta (giV wt_503 wt_504 wt_505 wt_1 wt_506) rfl rfl rfl (by decide +kernel) ⟨(Nat.le_of_ble_eq_true rfl), (Nat.le_of_ble_eq_true rfl)⟩) ⟨pWx_blind sX_ok, va_recv hKx (wP_l hP) (ci := 0) (q0 := 0) rfl (wX_0 q dA M), pWx_of (pre := []) (suf := [(qo, .inl (dO, 1, .inr (.inl o)))]) sX_ok hKx (wP_l hP) hD hS hA hZ hsp.1⟩ rfl rfl hl.1 rfl (lv_room (Nat.le_of_ble_eq_true rfl)) dXl_callAt_5 ⟨(Nat.le_of_ble_eq_true rfl), (Nat.le_of_ble_eq_true rfl)⟩) hP hD hS hA (fun k9 E9 ce q9 M2 H locs hE hw hP hD hS hce hcv hcl => ?_) (fun r M2 H locs hw hP hD hS => False.elim hw)
    have hP : va_P (dC, dI) vwCl (wH q dA qo dO (M2, o)) H := hP
    have hD : va_D A (wH q dA qo dO (M2, o)) := hD
    rcases hw with ⟨hk9, hw⟩
    · subst hk9
      subst hE
      refine vx_catch (own := "ServiceThreadsLaw") (name := "java/lang/IllegalArgumentException") (E := "java/lang/IllegalArgumentException") hown [] ⟨0, 10, 13, 13⟩ [] (by rw [hTab]; rfl) (fun z hz => nomatch hz) (by decide) (by decide) (hta _ wt_188) (va_Nw.use rfl (sX_w0 hsp.1)) hce hcv hcl ?_
      refine lv_astore (lv' := [(4, .ref q9), (0, .ref (q 0)), (1, .int p1), (2, .int p2), (3, .ref qo)]) hx hb dXl_callAt_13 hl (by decide) rfl (fun ls hl => ?_)
      refine lv_iconst (v := 1) hx hb dXl_callAt_15 (by decide) ?_
      refine W.widen (k := 1) (n := 6) (Nat.le_of_ble_eq_true rfl) (Nat.le_of_ble_eq_true rfl) ?_
      exact W.iret (v := 1) hx hb hr (fun t ht hW => ⟨⟨1, (M2, o), rfl, hw, by rw [ht]; exact hP, va_K.moved hW.alike hK, hD⟩, hS.F ht⟩) hS.2.2 dXl_callAt_16 hlocks
def wpXl_thread (p1 : Int32) (p2 : Int32) (M : Mm) (o : Nat → Int64) (post : Int32 → Mm × (Nat → Int64) → Prop) : Prop := (wpXs_thread p1 p2 M (fun r M' => post 0 (M', vp_updL o 0 r.toInt64)) (fun _ _ => False)) ∨ (wpXs_thread p1 p2 M (fun _ _ => False) (fun k9 M' => (k9 = 0 ∧ post 1 (M', o))))
set_option maxHeartbeats 4000000 in
set_option maxRecDepth 100000 in
theorem mtXl_thread (l : Launch) (hl9 : l.stackTraces = false) (dC : Nat → ClassId) (dI : Nat → Nat → Nat) (q : Nat → Nat) (dA : Nat → ClassId) (qo : Nat) (dO : ClassId) (sz : Nat) (p1 : Int32) (p2 : Int32) (M : Mm) (o : Nat → Int64) (post : Int32 → Mm × (Nat → Int64) → Prop) (hw : wpXl_thread p1 p2 M o post) : Met l yXl_thread (wsH yXl_thread cXl_thread 5 (some .int) [(0, 10, 13, 13)]) ({ frames := 8, cells := 1, slots := 6, locals := 124 }) (va_Pc [.ref (q 0), .int p1, .int p2, .ref qo] (pWx (dC, dI) vwCl (wH q dA qo dO) (tH dA dO) sL sz (M, o))) (va_Qi post (bW (dC, dI) vwCl (wH q dA qo dO) (tH dA dO) (va_A (wH q dA qo dO (M, o)) sz)) (va_A (wH q dA qo dO (M, o)) sz)) 1 6 (va_A (wH q dA qo dO (M, o)) sz) := by
  refine va_MetW (cc := cXl_thread) (maxL := 5) (ret := (some .int)) (hh := [(0, 10, 13, 13)]) (by decide) rfl ?_
  intro p e s m args below meth c s₁ B hml hv
  obtain ⟨rfl, hsz, hP, hK, hD0, hZ, hsp⟩ := hv
  have hx := B.exec
  have hb := B.bytes
  have hr := B.returns
  have hts := atoms_spec (ws := (wsH yXl_thread cXl_thread 5 (some .int) [(0, 10, 13, 13)])) B.pre
  have hta : ∀ w ∈ wsG, w.before _ s = true := fun w h => hts w (List.mem_cons_of_mem _ h)
  have hown : s.vm.findClass "ServiceThreadsLaw" = some m.cls := findClass_of_methodNamed B.named
  have hlocks := B.notSynchronized
  have hTab : c.exceptionTable.toList = tableOf [(0, 10, 13, 13)] := vx_table (x := yXl_thread) B (hts _ List.mem_cons_self)
  subst hsz
  have hD := hD0.self (sz := s.heap.size)
  generalize hAe : va_A _ s.heap.size = A at hD hZ ⊢
  have hA : ∀ q : Nat, s.heap.size ≤ q → A q := fun q h => by rw [← hAe]; exact Or.inr h
  have hS : va_S A s.heap s.heap [] := va_S.rf
  dsimp only [wpXl_thread] at hw
  have hl := lv_entry ([.ref (q 0), .int p1, .int p2, .ref qo]) (n := 5) (Nat.le_of_ble_eq_true rfl)
  rw [lg_entry_eq]
  generalize (lg_sl ([.ref (q 0), .int p1, .int p2, .ref qo]) ++ List.replicate (5 - (lg_sl ([.ref (q 0), .int p1, .int p2, .ref qo])).length) Slot.unset).toArray = ls at hl ⊢
  have hl : lv_has ls 5 [(0, .ref (q 0)), (1, .int p1), (2, .int p2), (3, .ref qo)] := hl
  have hKx : va_K (dC, dI) vwCl (tX dA) s := hK.sub (tys' := tX dA) [0, 1, 2, 3, 4, 5, 6, 7, 8, 9, 10, 11, 12, 13, 14, 15, 16, 17, 18, 19, 20, 21] rfl
  have hP : va_P (dC, dI) vwCl (wX q dA M ++ [(qo, .inl (dO, 1, .inr (.inl o)))]) s.heap := hP
  have hD : va_D A (wX q dA M ++ [(qo, .inl (dO, 1, .inr (.inl o)))]) := hD
  refine lv_aload_n hx hb dXl_thread_0 rfl (lv_at hl 3 rfl) ?_
  refine lv_iconst (v := 0) hx hb dXl_thread_1 (by decide) ?_
  refine lv_aload_n hx hb dXl_thread_2 rfl (lv_at hl 0 rfl) ?_
  refine lv_iload_n hx hb dXl_thread_3 rfl (lv_at hl 1 rfl) ?_
  refine lv_iload_n hx hb dXl_thread_4 rfl (lv_at hl 2 rfl) ?_
  rcases hw with hw | hw
  · refine cp_i (w := (wX q dA)) (M := M) (suf := [(qo, .inl (dO, 1, .inr (.inl o)))]) (wX_ad q dA) (va_runV (As := [.int p1, .int p2]) (rest := [.int 0, .ref qo]) ⟨hx, hb, hml, hown, hta⟩ (mtnXs_thread l dC dI q dA s.heap.size p1 p2 M _ hw) (cwV 2 hta (giV wt_512 wt_513 wt_514 wt_1 wt_515) rfl rfl rfl (by decide +kernel) ⟨(Nat.le_of_ble_eq_true rfl), (Nat.le_of_ble_eq_true rfl)⟩) ⟨pW_blind, va_recv hKx (wP_l hP) (ci := 0) (q0 := 0) rfl (wX_0 q dA M), pW_of hKx (wP_l hP) (wD_l hD)⟩ rfl rfl hl.1 rfl (lv_room (Nat.le_of_ble_eq_true rfl)) dXl_thread_5 ⟨(Nat.le_of_ble_eq_true rfl), (Nat.le_of_ble_eq_true rfl)⟩) hP hD hS hA (fun r M2 H locs hw hP hD hS => ?_)
    refine lv_i2l hx hb dXl_thread_8 rfl ?_
    refine va_last hx hb hK hP hD hS 27 22 rfl rfl (by unfold vp_in; decide) dXl_thread_9 (fun H locs hP hD hS => ?_)
    have hP : va_P (dC, dI) vwCl (wH q dA qo dO (M2, vp_updL o 0 r.toInt64)) H := hP
    have hD : va_D A (wH q dA qo dO (M2, vp_updL o 0 r.toInt64)) := hD
    refine lv_goto (tgt := 17) hx hb dXl_thread_10 (by decide) ?_
    refine lv_iconst (v := 0) hx hb dXl_thread_17 (by decide) ?_
    refine W.widen (k := 1) (n := 6) (Nat.le_of_ble_eq_true rfl) (Nat.le_of_ble_eq_true rfl) ?_
    exact W.iret (v := 0) hx hb hr (fun t ht hW => ⟨⟨0, (M2, vp_updL o 0 r.toInt64), rfl, hw, by rw [ht]; exact hP, va_K.moved hW.alike hK, hD⟩, hS.F ht⟩) hS.2.2 dXl_thread_18 hlocks
  · refine px_i (w := (wX q dA)) (M := M) (suf := [(qo, .inl (dO, 1, .inr (.inl o)))]) (wX_ad q dA) (vx_runV (As := [.int p1, .int p2]) (rest := [.int 0, .ref qo]) ⟨hx, hb, hml, hown, hta⟩ (mtXs_thread l hl9 dC dI q dA s.heap.size p1 p2 M _ _ hw) (cwV 2 hta (giV wt_512 wt_513 wt_514 wt_1 wt_515) rfl rfl rfl (by decide +kernel) ⟨(Nat.le_of_ble_eq_true rfl), (Nat.le_of_ble_eq_true rfl)⟩) ⟨pWx_blind sX_ok, va_recv hKx (wP_l hP) (ci := 0) (q0 := 0) rfl (wX_0 q dA M), pWx_of (pre := []) (suf := [(qo, .inl (dO, 1, .inr (.inl o)))]) sX_ok hKx (wP_l hP) hD hS hA hZ hsp.1⟩ rfl rfl hl.1 rfl (lv_room (Nat.le_of_ble_eq_true rfl)) dXl_thread_5 ⟨(Nat.le_of_ble_eq_true rfl), (Nat.le_of_ble_eq_true rfl)⟩) hP hD hS hA (fun k9 E9 ce q9 M2 H locs hE hw hP hD hS hce hcv hcl => ?_) (fun r M2 H locs hw hP hD hS => False.elim hw)
    have hP : va_P (dC, dI) vwCl (wH q dA qo dO (M2, o)) H := hP
    have hD : va_D A (wH q dA qo dO (M2, o)) := hD
    rcases hw with ⟨hk9, hw⟩
    · subst hk9
      subst hE
      refine vx_catch (own := "ServiceThreadsLaw") (name := "java/lang/IllegalArgumentException") (E := "java/lang/IllegalArgumentException") hown [] ⟨0, 10, 13, 13⟩ [] (by rw [hTab]; rfl) (fun z hz => nomatch hz) (by decide) (by decide) (hta _ wt_188) (va_Nw.use rfl (sX_w0 hsp.1)) hce hcv hcl ?_
      refine lv_astore (lv' := [(4, .ref q9), (0, .ref (q 0)), (1, .int p1), (2, .int p2), (3, .ref qo)]) hx hb dXl_thread_13 hl (by decide) rfl (fun ls hl => ?_)
      refine lv_iconst (v := 1) hx hb dXl_thread_15 (by decide) ?_
      refine W.widen (k := 1) (n := 6) (Nat.le_of_ble_eq_true rfl) (Nat.le_of_ble_eq_true rfl) ?_
      exact W.iret (v := 1) hx hb hr (fun t ht hW => ⟨⟨1, (M2, o), rfl, hw, by rw [ht]; exact hP, va_K.moved hW.alike hK, hD⟩, hS.F ht⟩) hS.2.2 dXl_thread_16 hlocks
def wpXl_row (p1 : Int32) (p2 : Int32) (M : Mm) (o : Nat → Int64) (post : Int32 → Mm × (Nat → Int64) → Prop) : Prop := (wpXs_row p1 p2 M (fun r M' => post 0 (M', vp_updL o 0 r.toInt64)) (fun _ _ => False)) ∨ (wpXs_row p1 p2 M (fun _ _ => False) (fun k9 M' => (k9 = 0 ∧ post 1 (M', o))))
set_option maxHeartbeats 4000000 in
set_option maxRecDepth 100000 in
theorem mtXl_row (l : Launch) (hl9 : l.stackTraces = false) (dC : Nat → ClassId) (dI : Nat → Nat → Nat) (q : Nat → Nat) (dA : Nat → ClassId) (qo : Nat) (dO : ClassId) (sz : Nat) (p1 : Int32) (p2 : Int32) (M : Mm) (o : Nat → Int64) (post : Int32 → Mm × (Nat → Int64) → Prop) (hw : wpXl_row p1 p2 M o post) : Met l yXl_row (wsH yXl_row cXl_row 5 (some .int) [(0, 10, 13, 13)]) ({ frames := 7, cells := 1, slots := 6, locals := 104 }) (va_Pc [.ref (q 0), .int p1, .int p2, .ref qo] (pWx (dC, dI) vwCl (wH q dA qo dO) (tH dA dO) sL sz (M, o))) (va_Qi post (bW (dC, dI) vwCl (wH q dA qo dO) (tH dA dO) (va_A (wH q dA qo dO (M, o)) sz)) (va_A (wH q dA qo dO (M, o)) sz)) 1 6 (va_A (wH q dA qo dO (M, o)) sz) := by
  refine va_MetW (cc := cXl_row) (maxL := 5) (ret := (some .int)) (hh := [(0, 10, 13, 13)]) (by decide) rfl ?_
  intro p e s m args below meth c s₁ B hml hv
  obtain ⟨rfl, hsz, hP, hK, hD0, hZ, hsp⟩ := hv
  have hx := B.exec
  have hb := B.bytes
  have hr := B.returns
  have hts := atoms_spec (ws := (wsH yXl_row cXl_row 5 (some .int) [(0, 10, 13, 13)])) B.pre
  have hta : ∀ w ∈ wsG, w.before _ s = true := fun w h => hts w (List.mem_cons_of_mem _ h)
  have hown : s.vm.findClass "ServiceThreadsLaw" = some m.cls := findClass_of_methodNamed B.named
  have hlocks := B.notSynchronized
  have hTab : c.exceptionTable.toList = tableOf [(0, 10, 13, 13)] := vx_table (x := yXl_row) B (hts _ List.mem_cons_self)
  subst hsz
  have hD := hD0.self (sz := s.heap.size)
  generalize hAe : va_A _ s.heap.size = A at hD hZ ⊢
  have hA : ∀ q : Nat, s.heap.size ≤ q → A q := fun q h => by rw [← hAe]; exact Or.inr h
  have hS : va_S A s.heap s.heap [] := va_S.rf
  dsimp only [wpXl_row] at hw
  have hl := lv_entry ([.ref (q 0), .int p1, .int p2, .ref qo]) (n := 5) (Nat.le_of_ble_eq_true rfl)
  rw [lg_entry_eq]
  generalize (lg_sl ([.ref (q 0), .int p1, .int p2, .ref qo]) ++ List.replicate (5 - (lg_sl ([.ref (q 0), .int p1, .int p2, .ref qo])).length) Slot.unset).toArray = ls at hl ⊢
  have hl : lv_has ls 5 [(0, .ref (q 0)), (1, .int p1), (2, .int p2), (3, .ref qo)] := hl
  have hKx : va_K (dC, dI) vwCl (tX dA) s := hK.sub (tys' := tX dA) [0, 1, 2, 3, 4, 5, 6, 7, 8, 9, 10, 11, 12, 13, 14, 15, 16, 17, 18, 19, 20, 21] rfl
  have hP : va_P (dC, dI) vwCl (wX q dA M ++ [(qo, .inl (dO, 1, .inr (.inl o)))]) s.heap := hP
  have hD : va_D A (wX q dA M ++ [(qo, .inl (dO, 1, .inr (.inl o)))]) := hD
  refine lv_aload_n hx hb dXl_row_0 rfl (lv_at hl 3 rfl) ?_
  refine lv_iconst (v := 0) hx hb dXl_row_1 (by decide) ?_
  refine lv_aload_n hx hb dXl_row_2 rfl (lv_at hl 0 rfl) ?_
  refine lv_iload_n hx hb dXl_row_3 rfl (lv_at hl 1 rfl) ?_
  refine lv_iload_n hx hb dXl_row_4 rfl (lv_at hl 2 rfl) ?_
  rcases hw with hw | hw
  · refine cp_i (w := (wX q dA)) (M := M) (suf := [(qo, .inl (dO, 1, .inr (.inl o)))]) (wX_ad q dA) (va_runV (As := [.int p1, .int p2]) (rest := [.int 0, .ref qo]) ⟨hx, hb, hml, hown, hta⟩ (mtnXs_row l dC dI q dA s.heap.size p1 p2 M _ hw) (cwV 2 hta (giV wt_524 wt_525 wt_526 wt_1 wt_527) rfl rfl rfl (by decide +kernel) ⟨(Nat.le_of_ble_eq_true rfl), (Nat.le_of_ble_eq_true rfl)⟩) ⟨pW_blind, va_recv hKx (wP_l hP) (ci := 0) (q0 := 0) rfl (wX_0 q dA M), pW_of hKx (wP_l hP) (wD_l hD)⟩ rfl rfl hl.1 rfl (lv_room (Nat.le_of_ble_eq_true rfl)) dXl_row_5 ⟨(Nat.le_of_ble_eq_true rfl), (Nat.le_of_ble_eq_true rfl)⟩) hP hD hS hA (fun r M2 H locs hw hP hD hS => ?_)
    refine lv_i2l hx hb dXl_row_8 rfl ?_
    refine va_last hx hb hK hP hD hS 27 22 rfl rfl (by unfold vp_in; decide) dXl_row_9 (fun H locs hP hD hS => ?_)
    have hP : va_P (dC, dI) vwCl (wH q dA qo dO (M2, vp_updL o 0 r.toInt64)) H := hP
    have hD : va_D A (wH q dA qo dO (M2, vp_updL o 0 r.toInt64)) := hD
    refine lv_goto (tgt := 17) hx hb dXl_row_10 (by decide) ?_
    refine lv_iconst (v := 0) hx hb dXl_row_17 (by decide) ?_
    refine W.widen (k := 1) (n := 6) (Nat.le_of_ble_eq_true rfl) (Nat.le_of_ble_eq_true rfl) ?_
    exact W.iret (v := 0) hx hb hr (fun t ht hW => ⟨⟨0, (M2, vp_updL o 0 r.toInt64), rfl, hw, by rw [ht]; exact hP, va_K.moved hW.alike hK, hD⟩, hS.F ht⟩) hS.2.2 dXl_row_18 hlocks
  · refine px_i (w := (wX q dA)) (M := M) (suf := [(qo, .inl (dO, 1, .inr (.inl o)))]) (wX_ad q dA) (vx_runV (As := [.int p1, .int p2]) (rest := [.int 0, .ref qo]) ⟨hx, hb, hml, hown, hta⟩ (mtXs_row l hl9 dC dI q dA s.heap.size p1 p2 M _ _ hw) (cwV 2 hta (giV wt_524 wt_525 wt_526 wt_1 wt_527) rfl rfl rfl (by decide +kernel) ⟨(Nat.le_of_ble_eq_true rfl), (Nat.le_of_ble_eq_true rfl)⟩) ⟨pWx_blind sX_ok, va_recv hKx (wP_l hP) (ci := 0) (q0 := 0) rfl (wX_0 q dA M), pWx_of (pre := []) (suf := [(qo, .inl (dO, 1, .inr (.inl o)))]) sX_ok hKx (wP_l hP) hD hS hA hZ hsp.1⟩ rfl rfl hl.1 rfl (lv_room (Nat.le_of_ble_eq_true rfl)) dXl_row_5 ⟨(Nat.le_of_ble_eq_true rfl), (Nat.le_of_ble_eq_true rfl)⟩) hP hD hS hA (fun k9 E9 ce q9 M2 H locs hE hw hP hD hS hce hcv hcl => ?_) (fun r M2 H locs hw hP hD hS => False.elim hw)
    have hP : va_P (dC, dI) vwCl (wH q dA qo dO (M2, o)) H := hP
    have hD : va_D A (wH q dA qo dO (M2, o)) := hD
    rcases hw with ⟨hk9, hw⟩
    · subst hk9
      subst hE
      refine vx_catch (own := "ServiceThreadsLaw") (name := "java/lang/IllegalArgumentException") (E := "java/lang/IllegalArgumentException") hown [] ⟨0, 10, 13, 13⟩ [] (by rw [hTab]; rfl) (fun z hz => nomatch hz) (by decide) (by decide) (hta _ wt_188) (va_Nw.use rfl (sX_w0 hsp.1)) hce hcv hcl ?_
      refine lv_astore (lv' := [(4, .ref q9), (0, .ref (q 0)), (1, .int p1), (2, .int p2), (3, .ref qo)]) hx hb dXl_row_13 hl (by decide) rfl (fun ls hl => ?_)
      refine lv_iconst (v := 1) hx hb dXl_row_15 (by decide) ?_
      refine W.widen (k := 1) (n := 6) (Nat.le_of_ble_eq_true rfl) (Nat.le_of_ble_eq_true rfl) ?_
      exact W.iret (v := 1) hx hb hr (fun t ht hW => ⟨⟨1, (M2, o), rfl, hw, by rw [ht]; exact hP, va_K.moved hW.alike hK, hD⟩, hS.F ht⟩) hS.2.2 dXl_row_16 hlocks
def wpXl_count (p1 : Int32) (M : Mm) (o : Nat → Int64) (post : Int32 → Mm × (Nat → Int64) → Prop) : Prop := (wpXs_count p1 M (fun r M' => post 0 (M', vp_updL o 0 r.toInt64)) (fun _ _ => False)) ∨ (wpXs_count p1 M (fun _ _ => False) (fun k9 M' => (k9 = 0 ∧ post 1 (M', o))))
set_option maxHeartbeats 4000000 in
set_option maxRecDepth 100000 in
theorem mtXl_count (l : Launch) (hl9 : l.stackTraces = false) (dC : Nat → ClassId) (dI : Nat → Nat → Nat) (q : Nat → Nat) (dA : Nat → ClassId) (qo : Nat) (dO : ClassId) (sz : Nat) (p1 : Int32) (M : Mm) (o : Nat → Int64) (post : Int32 → Mm × (Nat → Int64) → Prop) (hw : wpXl_count p1 M o post) : Met l yXl_count (wsH yXl_count cXl_count 4 (some .int) [(0, 9, 12, 13)]) ({ frames := 7, cells := 1, slots := 6, locals := 103 }) (va_Pc [.ref (q 0), .int p1, .ref qo] (pWx (dC, dI) vwCl (wH q dA qo dO) (tH dA dO) sL sz (M, o))) (va_Qi post (bW (dC, dI) vwCl (wH q dA qo dO) (tH dA dO) (va_A (wH q dA qo dO (M, o)) sz)) (va_A (wH q dA qo dO (M, o)) sz)) 1 6 (va_A (wH q dA qo dO (M, o)) sz) := by
  refine va_MetW (cc := cXl_count) (maxL := 4) (ret := (some .int)) (hh := [(0, 9, 12, 13)]) (by decide) rfl ?_
  intro p e s m args below meth c s₁ B hml hv
  obtain ⟨rfl, hsz, hP, hK, hD0, hZ, hsp⟩ := hv
  have hx := B.exec
  have hb := B.bytes
  have hr := B.returns
  have hts := atoms_spec (ws := (wsH yXl_count cXl_count 4 (some .int) [(0, 9, 12, 13)])) B.pre
  have hta : ∀ w ∈ wsG, w.before _ s = true := fun w h => hts w (List.mem_cons_of_mem _ h)
  have hown : s.vm.findClass "ServiceThreadsLaw" = some m.cls := findClass_of_methodNamed B.named
  have hlocks := B.notSynchronized
  have hTab : c.exceptionTable.toList = tableOf [(0, 9, 12, 13)] := vx_table (x := yXl_count) B (hts _ List.mem_cons_self)
  subst hsz
  have hD := hD0.self (sz := s.heap.size)
  generalize hAe : va_A _ s.heap.size = A at hD hZ ⊢
  have hA : ∀ q : Nat, s.heap.size ≤ q → A q := fun q h => by rw [← hAe]; exact Or.inr h
  have hS : va_S A s.heap s.heap [] := va_S.rf
  dsimp only [wpXl_count] at hw
  have hl := lv_entry ([.ref (q 0), .int p1, .ref qo]) (n := 4) (Nat.le_of_ble_eq_true rfl)
  rw [lg_entry_eq]
  generalize (lg_sl ([.ref (q 0), .int p1, .ref qo]) ++ List.replicate (4 - (lg_sl ([.ref (q 0), .int p1, .ref qo])).length) Slot.unset).toArray = ls at hl ⊢
  have hl : lv_has ls 4 [(0, .ref (q 0)), (1, .int p1), (2, .ref qo)] := hl
  have hKx : va_K (dC, dI) vwCl (tX dA) s := hK.sub (tys' := tX dA) [0, 1, 2, 3, 4, 5, 6, 7, 8, 9, 10, 11, 12, 13, 14, 15, 16, 17, 18, 19, 20, 21] rfl
  have hP : va_P (dC, dI) vwCl (wX q dA M ++ [(qo, .inl (dO, 1, .inr (.inl o)))]) s.heap := hP
  have hD : va_D A (wX q dA M ++ [(qo, .inl (dO, 1, .inr (.inl o)))]) := hD
  refine lv_aload_n hx hb dXl_count_0 rfl (lv_at hl 2 rfl) ?_
  refine lv_iconst (v := 0) hx hb dXl_count_1 (by decide) ?_
  refine lv_aload_n hx hb dXl_count_2 rfl (lv_at hl 0 rfl) ?_
  refine lv_iload_n hx hb dXl_count_3 rfl (lv_at hl 1 rfl) ?_
  rcases hw with hw | hw
  · refine cp_i (w := (wX q dA)) (M := M) (suf := [(qo, .inl (dO, 1, .inr (.inl o)))]) (wX_ad q dA) (va_runV (As := [.int p1]) (rest := [.int 0, .ref qo]) ⟨hx, hb, hml, hown, hta⟩ (mtnXs_count l dC dI q dA s.heap.size p1 M _ hw) (cwV 1 hta (giV wt_537 wt_538 wt_539 wt_1 wt_540) rfl rfl rfl (by decide +kernel) ⟨(Nat.le_of_ble_eq_true rfl), (Nat.le_of_ble_eq_true rfl)⟩) ⟨pW_blind, va_recv hKx (wP_l hP) (ci := 0) (q0 := 0) rfl (wX_0 q dA M), pW_of hKx (wP_l hP) (wD_l hD)⟩ rfl rfl hl.1 rfl (lv_room (Nat.le_of_ble_eq_true rfl)) dXl_count_4 ⟨(Nat.le_of_ble_eq_true rfl), (Nat.le_of_ble_eq_true rfl)⟩) hP hD hS hA (fun r M2 H locs hw hP hD hS => ?_)
    refine lv_i2l hx hb dXl_count_7 rfl ?_
    refine va_last hx hb hK hP hD hS 27 22 rfl rfl (by unfold vp_in; decide) dXl_count_8 (fun H locs hP hD hS => ?_)
    have hP : va_P (dC, dI) vwCl (wH q dA qo dO (M2, vp_updL o 0 r.toInt64)) H := hP
    have hD : va_D A (wH q dA qo dO (M2, vp_updL o 0 r.toInt64)) := hD
    refine lv_goto (tgt := 15) hx hb dXl_count_9 (by decide) ?_
    refine lv_iconst (v := 0) hx hb dXl_count_15 (by decide) ?_
    refine W.widen (k := 1) (n := 6) (Nat.le_of_ble_eq_true rfl) (Nat.le_of_ble_eq_true rfl) ?_
    exact W.iret (v := 0) hx hb hr (fun t ht hW => ⟨⟨0, (M2, vp_updL o 0 r.toInt64), rfl, hw, by rw [ht]; exact hP, va_K.moved hW.alike hK, hD⟩, hS.F ht⟩) hS.2.2 dXl_count_16 hlocks
  · refine px_i (w := (wX q dA)) (M := M) (suf := [(qo, .inl (dO, 1, .inr (.inl o)))]) (wX_ad q dA) (vx_runV (As := [.int p1]) (rest := [.int 0, .ref qo]) ⟨hx, hb, hml, hown, hta⟩ (mtXs_count l hl9 dC dI q dA s.heap.size p1 M _ _ hw) (cwV 1 hta (giV wt_537 wt_538 wt_539 wt_1 wt_540) rfl rfl rfl (by decide +kernel) ⟨(Nat.le_of_ble_eq_true rfl), (Nat.le_of_ble_eq_true rfl)⟩) ⟨pWx_blind sX_ok, va_recv hKx (wP_l hP) (ci := 0) (q0 := 0) rfl (wX_0 q dA M), pWx_of (pre := []) (suf := [(qo, .inl (dO, 1, .inr (.inl o)))]) sX_ok hKx (wP_l hP) hD hS hA hZ hsp.1⟩ rfl rfl hl.1 rfl (lv_room (Nat.le_of_ble_eq_true rfl)) dXl_count_4 ⟨(Nat.le_of_ble_eq_true rfl), (Nat.le_of_ble_eq_true rfl)⟩) hP hD hS hA (fun k9 E9 ce q9 M2 H locs hE hw hP hD hS hce hcv hcl => ?_) (fun r M2 H locs hw hP hD hS => False.elim hw)
    have hP : va_P (dC, dI) vwCl (wH q dA qo dO (M2, o)) H := hP
    have hD : va_D A (wH q dA qo dO (M2, o)) := hD
    rcases hw with ⟨hk9, hw⟩
    · subst hk9
      subst hE
      refine vx_catch (own := "ServiceThreadsLaw") (name := "java/lang/IllegalArgumentException") (E := "java/lang/IllegalArgumentException") hown [] ⟨0, 9, 12, 13⟩ [] (by rw [hTab]; rfl) (fun z hz => nomatch hz) (by decide) (by decide) (hta _ wt_188) (va_Nw.use rfl (sX_w0 hsp.1)) hce hcv hcl ?_
      refine lv_astore_n (lv' := [(3, .ref q9), (0, .ref (q 0)), (1, .int p1), (2, .ref qo)]) hx hb dXl_count_12 rfl hl (by decide) rfl (fun ls hl => ?_)
      refine lv_iconst (v := 1) hx hb dXl_count_13 (by decide) ?_
      refine W.widen (k := 1) (n := 6) (Nat.le_of_ble_eq_true rfl) (Nat.le_of_ble_eq_true rfl) ?_
      exact W.iret (v := 1) hx hb hr (fun t ht hW => ⟨⟨1, (M2, o), rfl, hw, by rw [ht]; exact hP, va_K.moved hW.alike hK, hD⟩, hS.F ht⟩) hS.2.2 dXl_count_14 hlocks
