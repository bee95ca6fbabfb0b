def wpXs_requireThread (p0 : Int32) (M : Mm) (post : Mm → Prop) (px : Nat → Mm → Prop) : Prop := ((p0 < 0 → (px 0 M)) ∧ (¬ p0 < 0 → (((p0 < 8 → (post M)) ∧ (¬ p0 < 8 → (px 0 M))))))
set_option maxHeartbeats 4000000 in
set_option maxRecDepth 100000 in
theorem mtnXs_requireThread (l : Launch) (dC : Nat → ClassId) (dI : Nat → Nat → Nat) (q : Nat → Nat) (dA : Nat → ClassId) (sz : Nat) (p0 : Int32) (M : Mm) (post : Mm → Prop) (hw : wpXs_requireThread p0 M post (fun _ _ => False)) : Met l yXs_requireThread (wsA yXs_requireThread cXs_requireThread 1 none) ({ frames := 0, cells := 0, slots := 0, locals := 0 }) (va_Pc [.int p0] (pW (dC, dI) vwCl (wX q dA) (tX dA) sz M)) (va_Qv post (bW (dC, dI) vwCl (wX q dA) (tX dA) (va_A (wX q dA M) sz)) (va_A (wX q dA M) sz)) 0 0 (va_A (wX q dA M) sz) := by
  refine Met.ofW (cc := cXs_requireThread) (maxL := 1) (ret := none) (by decide) rfl ?_
  intro p e s m args below meth c s₁ B hml hv
  obtain ⟨rfl, hsz, hP, hK, hD0⟩ := hv
  have hx := B.exec
  have hb := B.bytes
  have hr := B.returns
  have hts := atoms_spec (ws := (wsA yXs_requireThread cXs_requireThread 1 none)) B.pre
  have hta : ∀ w ∈ wsG, w.before _ s = true := fun w h => hts w (List.mem_cons_of_mem _ h)
  have hown : s.vm.findClass "ServiceThreads" = some m.cls := findClass_of_methodNamed B.named
  have hlocks := B.notSynchronized
  subst hsz
  have hD := hD0.self (sz := s.heap.size)
  generalize hAe : va_A (wX q dA M) s.heap.size = A at hD ⊢
  have hA : ∀ q : Nat, s.heap.size ≤ q → A q := fun q h => by rw [← hAe]; exact Or.inr h
  have hS : va_S A s.heap s.heap [] := va_S.rf
  dsimp only [wpXs_requireThread] at hw
  have hl := lv_entry ([.int p0]) (n := 1) (Nat.le_of_ble_eq_true rfl)
  rw [lg_entry_eq]
  generalize (lg_sl ([.int p0]) ++ List.replicate (1 - (lg_sl ([.int p0])).length) Slot.unset).toArray = ls at hl ⊢
  have hl : lv_has ls 1 [(0, .int p0)] := hl
  refine lv_iload_n hx hb dXs_requireThread_0 rfl (lv_at hl 0 rfl) ?_
  refine lv_if_lt (tgt := 10) hx hb dXs_requireThread_1 (by decide) (fun c_1 => ?_) (fun c_1 => ?_)
  · have hw := hw.1 c_1
    exact False.elim hw
  · have hw := hw.2 c_1
    refine lv_iload_n hx hb dXs_requireThread_4 rfl (lv_at hl 0 rfl) ?_
    refine lv_bipush (v := 8) hx hb dXs_requireThread_5 (by decide) ?_
    refine lv_icmp_lt (tgt := 20) hx hb dXs_requireThread_7 (by decide) (fun c_2 => ?_) (fun c_2 => ?_)
    · have hw := hw.1 c_2
      exact W.vret hx hb hr (fun t ht hW => ⟨⟨M, rfl, hw, by rw [ht]; exact hP, va_K.moved hW.alike hK, hD⟩, hS.F ht⟩) hS.2.2 dXs_requireThread_20 hlocks
    · have hw := hw.2 c_2
      exact False.elim hw
set_option maxHeartbeats 4000000 in
set_option maxRecDepth 100000 in
theorem mtXs_requireThread (l : Launch) (hl9 : l.stackTraces = false) (dC : Nat → ClassId) (dI : Nat → Nat → Nat) (q : Nat → Nat) (dA : Nat → ClassId) (sz : Nat) (p0 : Int32) (M : Mm) (post : Mm → Prop) (px : Nat → Mm → Prop) (hw : wpXs_requireThread p0 M post px) : vx_Met l yXs_requireThread (wsA yXs_requireThread cXs_requireThread 1 none) ({ frames := 6, cells := 1, slots := 6, locals := 82 }) (va_Pc [.int p0] (pWx (dC, dI) vwCl (wX q dA) (tX dA) sX sz M)) (va_Qv post (bW (dC, dI) vwCl (wX q dA) (tX dA) (va_A (wX q dA M) sz)) (va_A (wX q dA M) sz)) (vx_X (fun u : Nat × Mm => px u.1 u.2) (xW (dC, dI) vwCl (wX q dA) (tX dA) (va_A (wX q dA M) sz)) (va_A (wX q dA M) sz)) 1 6 (va_A (wX q dA M) sz) := by
  refine vx_ofW (cc := cXs_requireThread) (maxL := 1) (ret := none) (by decide) rfl ?_
  intro p e s m args below meth c s₁ B hml hEx hv
  obtain ⟨rfl, hsz, hP, hK, hD0, hZ, hsp⟩ := hv
  have hx := B.exec
  have hb := B.bytes
  have hr := B.returns
  have hts := atoms_spec (ws := (wsA yXs_requireThread cXs_requireThread 1 none)) B.pre
  have hta : ∀ w ∈ wsG, w.before _ s = true := fun w h => hts w (List.mem_cons_of_mem _ h)
  have hown : s.vm.findClass "ServiceThreads" = some m.cls := findClass_of_methodNamed B.named
  have hlocks := B.notSynchronized
  subst hsz
  have hD := hD0.self (sz := s.heap.size)
  generalize hAe : va_A (wX q dA M) s.heap.size = A at hD hZ ⊢
  have hA : ∀ q : Nat, s.heap.size ≤ q → A q := fun q h => by rw [← hAe]; exact Or.inr h
  have hS : va_S A s.heap s.heap [] := va_S.rf
  dsimp only [wpXs_requireThread] at hw
  have hl := lv_entry ([.int p0]) (n := 1) (Nat.le_of_ble_eq_true rfl)
  rw [lg_entry_eq]
  generalize (lg_sl ([.int p0]) ++ List.replicate (1 - (lg_sl ([.int p0])).length) Slot.unset).toArray = ls at hl ⊢
  have hl : lv_has ls 1 [(0, .int p0)] := hl
  refine lv_iload_n hx hb dXs_requireThread_0 rfl (lv_at hl 0 rfl) ?_
  refine lv_if_lt (tgt := 10) hx hb dXs_requireThread_1 (by decide) (fun c_1 => ?_) (fun c_1 => ?_)
  · have hw := hw.1 c_1
    obtain ⟨sa9, hsa9⟩ := sX_s0 hsp
    exact vx_throwS (own := "ServiceThreads") (cls := "java/lang/IllegalArgumentException") (names := ["java/lang/RuntimeException", "java/lang/Exception"]) hx hb hl9 hown (by decide +kernel) (by decide +kernel) (hta _ wt_199) (hta _ wt_11) hsa9 (vx_hat (L := vx_atS "ServiceThreads" 78 "java/lang/IllegalArgumentException" ["java/lang/RuntimeException", "java/lang/Exception"]) (B := [.castable "java/lang/IllegalArgumentException" "java/lang/IllegalArgumentException", .declares ⟨"java/lang/RuntimeException", "<init>", "(Ljava/lang/String;)V"⟩, .declares ⟨"java/lang/Exception", "<init>", "(Ljava/lang/String;)V"⟩, .declares ⟨"java/lang/Throwable", "<init>", "(Ljava/lang/String;)V"⟩]) (fun w hw => hta w (vxw_0 w hw)) vxw_0b (vx_c (va_Nw.use rfl (sX_w0 hsp)) (vx_c (va_Nw.use rfl (sX_w1 hsp)) (vx_c (va_Nw.use rfl (sX_w2 hsp)) (vx_c (va_Nw.use rfl (sX_w3 hsp)) (vx_n)))))) vxw_0g hZ.1 hZ.2 hS (hl.1.trans hml.symm) dXs_requireThread_10 dXs_requireThread_13 dXs_requireThread_14 dXs_requireThread_16 dXs_requireThread_19 (fun x hx => (hEx x hx).elim) (Nat.le_of_ble_eq_true rfl) (Nat.le_of_ble_eq_true rfl) (Nat.le_of_ble_eq_true rfl) (Nat.le_of_ble_eq_true rfl) hlocks (th_x (px := px) (k := 0) hP hK hD hS hw) hS.2.2 (Nat.le_of_ble_eq_true rfl) (Nat.le_of_ble_eq_true rfl)
  · have hw := hw.2 c_1
    refine lv_iload_n hx hb dXs_requireThread_4 rfl (lv_at hl 0 rfl) ?_
    refine lv_bipush (v := 8) hx hb dXs_requireThread_5 (by decide) ?_
    refine lv_icmp_lt (tgt := 20) hx hb dXs_requireThread_7 (by decide) (fun c_2 => ?_) (fun c_2 => ?_)
    · have hw := hw.1 c_2
      refine vx_ret ?_
      refine W.widen (k := 1) (n := 6) (Nat.le_of_ble_eq_true rfl) (Nat.le_of_ble_eq_true rfl) ?_
      exact W.vret hx hb hr (fun t ht hW => ⟨⟨M, rfl, hw, by rw [ht]; exact hP, va_K.moved hW.alike hK, hD⟩, hS.F ht⟩) hS.2.2 dXs_requireThread_20 hlocks
    · have hw := hw.2 c_2
      obtain ⟨sa9, hsa9⟩ := sX_s0 hsp
      exact vx_throwS (own := "ServiceThreads") (cls := "java/lang/IllegalArgumentException") (names := ["java/lang/RuntimeException", "java/lang/Exception"]) hx hb hl9 hown (by decide +kernel) (by decide +kernel) (hta _ wt_199) (hta _ wt_11) hsa9 (vx_hat (L := vx_atS "ServiceThreads" 78 "java/lang/IllegalArgumentException" ["java/lang/RuntimeException", "java/lang/Exception"]) (B := [.castable "java/lang/IllegalArgumentException" "java/lang/IllegalArgumentException", .declares ⟨"java/lang/RuntimeException", "<init>", "(Ljava/lang/String;)V"⟩, .declares ⟨"java/lang/Exception", "<init>", "(Ljava/lang/String;)V"⟩, .declares ⟨"java/lang/Throwable", "<init>", "(Ljava/lang/String;)V"⟩]) (fun w hw => hta w (vxw_0 w hw)) vxw_0b (vx_c (va_Nw.use rfl (sX_w0 hsp)) (vx_c (va_Nw.use rfl (sX_w1 hsp)) (vx_c (va_Nw.use rfl (sX_w2 hsp)) (vx_c (va_Nw.use rfl (sX_w3 hsp)) (vx_n)))))) vxw_0g hZ.1 hZ.2 hS (hl.1.trans hml.symm) dXs_requireThread_10 dXs_requireThread_13 dXs_requireThread_14 dXs_requireThread_16 dXs_requireThread_19 (fun x hx => (hEx x hx).elim) (Nat.le_of_ble_eq_true rfl) (Nat.le_of_ble_eq_true rfl) (Nat.le_of_ble_eq_true rfl) (Nat.le_of_ble_eq_true rfl) hlocks (th_x (px := px) (k := 0) hP hK hD hS hw) hS.2.2 (Nat.le_of_ble_eq_true rfl) (Nat.le_of_ble_eq_true rfl)
def wpXs_requireNoTurnYet (p0 : Int32) (M : Mm) (post : Mm → Prop) (px : Nat → Mm → Prop) : Prop := vp_in p0 8 ∧ (∀ y_2 : Int32, y_2 = M 21 p0.toNatClampNeg → (((y_2 = 0 → (post M)) ∧ (¬ y_2 = 0 → (px 2 M)))))
set_option maxHeartbeats 4000000 in
set_option maxRecDepth 100000 in
theorem mtnXs_requireNoTurnYet (l : Launch) (dC : Nat → ClassId) (dI : Nat → Nat → Nat) (q : Nat → Nat) (dA : Nat → ClassId) (sz : Nat) (p0 : Int32) (M : Mm) (post : Mm → Prop) (hw : wpXs_requireNoTurnYet p0 M post (fun _ _ => False)) : Met l yXs_requireNoTurnYet (wsA yXs_requireNoTurnYet cXs_requireNoTurnYet 2 none) ({ frames := 0, cells := 0, slots := 0, locals := 0 }) (va_Pc [.ref (q 0), .int p0] (pW (dC, dI) vwCl (wX q dA) (tX dA) sz M)) (va_Qv post (bW (dC, dI) vwCl (wX q dA) (tX dA) (va_A (wX q dA M) sz)) (va_A (wX q dA M) sz)) 0 0 (va_A (wX q dA M) sz) := by
  refine Met.ofW (cc := cXs_requireNoTurnYet) (maxL := 2) (ret := none) (by decide) rfl ?_
  intro p e s m args below meth c s₁ B hml hv
  obtain ⟨rfl, hsz, hP, hK, hD0⟩ := hv
  have hx := B.exec
  have hb := B.bytes
  have hr := B.returns
  have hts := atoms_spec (ws := (wsA yXs_requireNoTurnYet cXs_requireNoTurnYet 2 none)) B.pre
  have hta : ∀ w ∈ wsG, w.before _ s = true := fun w h => hts w (List.mem_cons_of_mem _ h)
  have hown : s.vm.findClass "ServiceThreads" = some m.cls := findClass_of_methodNamed B.named
  have hlocks := B.notSynchronized
  subst hsz
  have hD := hD0.self (sz := s.heap.size)
  generalize hAe : va_A (wX q dA M) s.heap.size = A at hD ⊢
  have hA : ∀ q : Nat, s.heap.size ≤ q → A q := fun q h => by rw [← hAe]; exact Or.inr h
  have hS : va_S A s.heap s.heap [] := va_S.rf
  dsimp only [wpXs_requireNoTurnYet] at hw
  have hl := lv_entry ([.ref (q 0), .int p0]) (n := 2) (Nat.le_of_ble_eq_true rfl)
  rw [lg_entry_eq]
  generalize (lg_sl ([.ref (q 0), .int p0]) ++ List.replicate (2 - (lg_sl ([.ref (q 0), .int p0])).length) Slot.unset).toArray = ls at hl ⊢
  have hl : lv_has ls 2 [(0, .ref (q 0)), (1, .int p0)] := hl
  refine lv_aload_n hx hb dXs_requireNoTurnYet_0 rfl (lv_at hl 0 rfl) ?_
  refine va_get (D := (dC, dI)) (ci := 0) (v := .ref (q 26)) (C := "ServiceThreads") (T := TXs) (N := 14) hx hb hta inXs hown hK hP 0 (wX_0 q dA M) rfl 11 (by decide) (hta _ wt_129) (fun _ h9 => h9) rfl dXs_requireNoTurnYet_1 ?_
  refine lv_iload_n hx hb dXs_requireNoTurnYet_4 rfl (lv_at hl 1 rfl) ?_
  obtain ⟨h_1, hw⟩ := hw
  refine ro_z (w := (wX q dA)) (M := M) hx hb hK hP 26 21 (wX_26 q dA M) rfl h_1 dXs_requireNoTurnYet_5 (fun y_2 ey_2 => ?_)
  have hw := hw y_2 ey_2
  refine lv_if_eq (tgt := 19) hx hb dXs_requireNoTurnYet_6 (by decide) (fun c_3 => ?_) (fun c_3 => ?_)
  · have hw := hw.1 c_3
    exact W.vret hx hb hr (fun t ht hW => ⟨⟨M, rfl, hw, by rw [ht]; exact hP, va_K.moved hW.alike hK, hD⟩, hS.F ht⟩) hS.2.2 dXs_requireNoTurnYet_19 hlocks
  · have hw := hw.2 c_3
    exact False.elim hw
set_option maxHeartbeats 4000000 in
set_option maxRecDepth 100000 in
theorem mtXs_requireNoTurnYet (l : Launch) (hl9 : l.stackTraces = false) (dC : Nat → ClassId) (dI : Nat → Nat → Nat) (q : Nat → Nat) (dA : Nat → ClassId) (sz : Nat) (p0 : Int32) (M : Mm) (post : Mm → Prop) (px : Nat → Mm → Prop) (hw : wpXs_requireNoTurnYet p0 M post px) : vx_Met l yXs_requireNoTurnYet (wsA yXs_requireNoTurnYet cXs_requireNoTurnYet 2 none) ({ frames := 6, cells := 1, slots := 6, locals := 82 }) (va_Pc [.ref (q 0), .int p0] (pWx (dC, dI) vwCl (wX q dA) (tX dA) sX sz M)) (va_Qv post (bW (dC, dI) vwCl (wX q dA) (tX dA) (va_A (wX q dA M) sz)) (va_A (wX q dA M) sz)) (vx_X (fun u : Nat × Mm => px u.1 u.2) (xW (dC, dI) vwCl (wX q dA) (tX dA) (va_A (wX q dA M) sz)) (va_A (wX q dA M) sz)) 1 6 (va_A (wX q dA M) sz) := by
  refine vx_ofW (cc := cXs_requireNoTurnYet) (maxL := 2) (ret := none) (by decide) rfl ?_
  intro p e s m args below meth c s₁ B hml hEx hv
  obtain ⟨rfl, hsz, hP, hK, hD0, hZ, hsp⟩ := hv
  have hx := B.exec
  have hb := B.bytes
  have hr := B.returns
  have hts := atoms_spec (ws := (wsA yXs_requireNoTurnYet cXs_requireNoTurnYet 2 none)) B.pre
  have hta : ∀ w ∈ wsG, w.before _ s = true := fun w h => hts w (List.mem_cons_of_mem _ h)
  have hown : s.vm.findClass "ServiceThreads" = some m.cls := findClass_of_methodNamed B.named
  have hlocks := B.notSynchronized
  subst hsz
  have hD := hD0.self (sz := s.heap.size)
  generalize hAe : va_A (wX q dA M) s.heap.size = A at hD hZ ⊢
  have hA : ∀ q : Nat, s.heap.size ≤ q → A q := fun q h => by rw [← hAe]; exact Or.inr h
  have hS : va_S A s.heap s.heap [] := va_S.rf
  dsimp only [wpXs_requireNoTurnYet] at hw
  have hl := lv_entry ([.ref (q 0), .int p0]) (n := 2) (Nat.le_of_ble_eq_true rfl)
  rw [lg_entry_eq]
  generalize (lg_sl ([.ref (q 0), .int p0]) ++ List.replicate (2 - (lg_sl ([.ref (q 0), .int p0])).length) Slot.unset).toArray = ls at hl ⊢
  have hl : lv_has ls 2 [(0, .ref (q 0)), (1, .int p0)] := hl
  refine lv_aload_n hx hb dXs_requireNoTurnYet_0 rfl (lv_at hl 0 rfl) ?_
  refine va_get (D := (dC, dI)) (ci := 0) (v := .ref (q 26)) (C := "ServiceThreads") (T := TXs) (N := 14) hx hb hta inXs hown hK hP 0 (wX_0 q dA M) rfl 11 (by decide) (hta _ wt_129) (fun _ h9 => h9) rfl dXs_requireNoTurnYet_1 ?_
  refine lv_iload_n hx hb dXs_requireNoTurnYet_4 rfl (lv_at hl 1 rfl) ?_
  obtain ⟨h_1, hw⟩ := hw
  refine ro_z (w := (wX q dA)) (M := M) hx hb hK hP 26 21 (wX_26 q dA M) rfl h_1 dXs_requireNoTurnYet_5 (fun y_2 ey_2 => ?_)
  have hw := hw y_2 ey_2
  refine lv_if_eq (tgt := 19) hx hb dXs_requireNoTurnYet_6 (by decide) (fun c_3 => ?_) (fun c_3 => ?_)
  · have hw := hw.1 c_3
    refine vx_ret ?_
    refine W.widen (k := 1) (n := 6) (Nat.le_of_ble_eq_true rfl) (Nat.le_of_ble_eq_true rfl) ?_
    exact W.vret hx hb hr (fun t ht hW => ⟨⟨M, rfl, hw, by rw [ht]; exact hP, va_K.moved hW.alike hK, hD⟩, hS.F ht⟩) hS.2.2 dXs_requireNoTurnYet_19 hlocks
  · have hw := hw.2 c_3
    obtain ⟨sa9, hsa9⟩ := sX_s1 hsp
    exact vx_throwS (own := "ServiceThreads") (cls := "java/lang/IllegalStateException") (names := ["java/lang/RuntimeException", "java/lang/Exception"]) hx hb hl9 hown (by decide +kernel) (by decide +kernel) (hta _ wt_289) (hta _ wt_13) hsa9 (vx_hat (L := vx_atS "ServiceThreads" 147 "java/lang/IllegalStateException" ["java/lang/RuntimeException", "java/lang/Exception"]) (B := [.castable "java/lang/IllegalStateException" "java/lang/IllegalStateException", .declares ⟨"java/lang/RuntimeException", "<init>", "(Ljava/lang/String;)V"⟩, .declares ⟨"java/lang/Exception", "<init>", "(Ljava/lang/String;)V"⟩, .declares ⟨"java/lang/Throwable", "<init>", "(Ljava/lang/String;)V"⟩]) (fun w hw => hta w (vxw_1 w hw)) vxw_1b (vx_c (va_Nw.use rfl (sX_w4 hsp)) (vx_c (va_Nw.use rfl (sX_w1 hsp)) (vx_c (va_Nw.use rfl (sX_w2 hsp)) (vx_c (va_Nw.use rfl (sX_w3 hsp)) (vx_n)))))) vxw_1g hZ.1 hZ.2 hS (hl.1.trans hml.symm) dXs_requireNoTurnYet_9 dXs_requireNoTurnYet_12 dXs_requireNoTurnYet_13 dXs_requireNoTurnYet_15 dXs_requireNoTurnYet_18 (fun x hx => (hEx x hx).elim) (Nat.le_of_ble_eq_true rfl) (Nat.le_of_ble_eq_true rfl) (Nat.le_of_ble_eq_true rfl) (Nat.le_of_ble_eq_true rfl) hlocks (th_x (px := px) (k := 2) hP hK hD hS hw) hS.2.2 (Nat.le_of_ble_eq_true rfl) (Nat.le_of_ble_eq_true rfl)
def wpXs_act (p0 : Int32) (p1 : Int32) (p2 : Int32) (M : Mm) (post : Int32 → Mm → Prop) (px : Nat → Mm → Prop) : Prop := ((wpXs_requireThread p0 M (fun M_2 => (((p1 < 0 → (px 0 M_2)) ∧ (¬ p1 < 0 → (((p1 ≤ 6 → (((p2 < 0 → (px 1 M_2)) ∧ (¬ p2 < 0 → (((p2 ≤ 255 → (((wpXs_requireNoTurnYet p0 M_2 (fun M_8 => (wpXp_isFull p0 M_8 (fun r_9 M_10 => (((r_9 = 0 → (wpXp_add p0 p1 p2 M_10 (fun r_12 M_13 => (post r_12 M_13)))) ∧ (¬ r_9 = 0 → (px 3 M_10))))))) (fun _ _ => False)) ∨ (wpXs_requireNoTurnYet p0 M_2 (fun _ => False) px)))) ∧ (¬ p2 ≤ 255 → (px 1 M_2)))))))) ∧ (¬ p1 ≤ 6 → (px 0 M_2)))))))) (fun _ _ => False)) ∨ (wpXs_requireThread p0 M (fun _ => False) px))
set_option maxHeartbeats 4000000 in
set_option maxRecDepth 100000 in
theorem mtnXs_act (l : Launch) (dC : Nat → ClassId) (dI : Nat → Nat → Nat) (q : Nat → Nat) (dA : Nat → ClassId) (sz : Nat) (p0 : Int32) (p1 : Int32) (p2 : Int32) (M : Mm) (post : Int32 → Mm → Prop) (hw : wpXs_act p0 p1 p2 M post (fun _ _ => False)) : Met l yXs_act (wsA yXs_act cXs_act 4 (some .int)) ({ frames := 1, cells := 0, slots := 0, locals := 24 }) (va_Pc [.ref (q 0), .int p0, .int p1, .int p2] (pW (dC, dI) vwCl (wX q dA) (tX dA) sz M)) (va_Qi post (bW (dC, dI) vwCl (wX q dA) (tX dA) (va_A (wX q dA M) sz)) (va_A (wX q dA M) sz)) 0 0 (va_A (wX q dA M) sz) := by
  refine Met.ofW (cc := cXs_act) (maxL := 4) (ret := (some .int)) (by decide) rfl ?_
  intro p e s m args below meth c s₁ B hml hv
  obtain ⟨rfl, hsz, hP, hK, hD0⟩ := hv
  have hx := B.exec
  have hb := B.bytes
  have hr := B.returns
  have hts := atoms_spec (ws := (wsA yXs_act cXs_act 4 (some .int))) B.pre
  have hta : ∀ w ∈ wsG, w.before _ s = true := fun w h => hts w (List.mem_cons_of_mem _ h)
  have hown : s.vm.findClass "ServiceThreads" = some m.cls := findClass_of_methodNamed B.named
  have hlocks := B.notSynchronized
  subst hsz
  have hD := hD0.self (sz := s.heap.size)
  generalize hAe : va_A (wX q dA M) s.heap.size = A at hD ⊢
  have hA : ∀ q : Nat, s.heap.size ≤ q → A q := fun q h => by rw [← hAe]; exact Or.inr h
  have hS : va_S A s.heap s.heap [] := va_S.rf
  dsimp only [wpXs_act] at hw
  have hl := lv_entry ([.ref (q 0), .int p0, .int p1, .int p2]) (n := 4) (Nat.le_of_ble_eq_true rfl)
  rw [lg_entry_eq]
  generalize (lg_sl ([.ref (q 0), .int p0, .int p1, .int p2]) ++ List.replicate (4 - (lg_sl ([.ref (q 0), .int p0, .int p1, .int p2])).length) Slot.unset).toArray = ls at hl ⊢
  have hl : lv_has ls 4 [(0, .ref (q 0)), (1, .int p0), (2, .int p1), (3, .int p2)] := hl
  refine lv_iload_n hx hb dXs_act_0 rfl (lv_at hl 1 rfl) ?_
  rcases hw with hw | hw
  · refine cn_v (w := (wX q dA)) (M := M) (wX_ad q dA) (va_runS (As := [.int p0]) (rest := []) ⟨hx, hb, hml, hown, hta⟩ (mtnXs_requireThread l dC dI q dA s.heap.size p0 M _ hw) (va_cwS 1 hta (giS wt_196 wt_197 wt_1 wt_198) rfl rfl rfl (by decide +kernel) ⟨Nat.le_of_ble_eq_true rfl, Nat.le_of_ble_eq_true rfl⟩) ⟨pW_blind, pW_of hK hP hD⟩ rfl rfl hl.1 rfl (lv_room (Nat.le_of_ble_eq_true rfl)) dXs_act_1 ⟨Nat.le_of_ble_eq_true rfl, Nat.le_of_ble_eq_true rfl⟩) hD hS hA (fun M_2 H locs hw hP hD hS => ?_)
    refine lv_iload_n hx hb dXs_act_4 rfl (lv_at hl 2 rfl) ?_
    refine lv_if_lt (tgt := 14) hx hb dXs_act_5 (by decide) (fun c_3 => ?_) (fun c_3 => ?_)
    · have hw := hw.1 c_3
      exact False.elim hw
    · have hw := hw.2 c_3
      refine lv_iload_n hx hb dXs_act_8 rfl (lv_at hl 2 rfl) ?_
      refine lv_bipush (v := 6) hx hb dXs_act_9 (by decide) ?_
      refine lv_icmp_le (tgt := 24) hx hb dXs_act_11 (by decide) (fun c_4 => ?_) (fun c_4 => ?_)
      · have hw := hw.1 c_4
        refine lv_iload_n hx hb dXs_act_24 rfl (lv_at hl 3 rfl) ?_
        refine lv_if_lt (tgt := 35) hx hb dXs_act_25 (by decide) (fun c_5 => ?_) (fun c_5 => ?_)
        · have hw := hw.1 c_5
          exact False.elim hw
        · have hw := hw.2 c_5
          refine lv_iload_n hx hb dXs_act_28 rfl (lv_at hl 3 rfl) ?_
          refine lv_sipush (v := 255) hx hb dXs_act_29 (by decide) ?_
          refine lv_icmp_le (tgt := 45) hx hb dXs_act_32 (by decide) (fun c_6 => ?_) (fun c_6 => ?_)
          · have hw := hw.1 c_6
            refine lv_aload_n hx hb dXs_act_45 rfl (lv_at hl 0 rfl) ?_
            refine lv_iload_n hx hb dXs_act_46 rfl (lv_at hl 1 rfl) ?_
            rcases hw with hw | hw
            · refine cn_v (w := (wX q dA)) (M := M_2) (wX_ad q dA) (va_runV (As := [.int p0]) (rest := []) ⟨hx, hb, hml, hown, hta⟩ (mtnXs_requireNoTurnYet l dC dI q dA H.size p0 M_2 _ hw) (cwV 1 hta (giV wt_285 wt_287 ws_2 wt_1 wt_288) rfl rfl rfl (by decide +kernel) ⟨Nat.le_of_ble_eq_true rfl, Nat.le_of_ble_eq_true rfl⟩) ⟨pW_blind, va_recv hK hP (ci := 0) (q0 := 0) rfl (wX_0 q dA M_2), pW_of hK hP hD⟩ rfl rfl hl.1 rfl (lv_room (Nat.le_of_ble_eq_true rfl)) dXs_act_47 ⟨Nat.le_of_ble_eq_true rfl, Nat.le_of_ble_eq_true rfl⟩) hD hS hA (fun M_8 H locs hw hP hD hS => ?_)
              refine lv_aload_n hx hb dXs_act_50 rfl (lv_at hl 0 rfl) ?_
              refine va_get (D := (dC, dI)) (ci := 0) (v := .ref (q 1)) (C := "ServiceThreads") (T := TXs) (N := 14) hx hb hta inXs hown hK hP 0 (wX_0 q dA M_8) rfl 0 (by decide) (hta _ wt_118) (fun _ h9 => h9) rfl dXs_act_51 ?_
              refine lv_iload_n hx hb dXs_act_54 rfl (lv_at hl 1 rfl) ?_
              refine cn_i (w := (wX q dA)) (M := M_8) (wX_ad q dA) (va_runV (As := [.int p0]) (rest := []) ⟨hx, hb, hml, hown, hta⟩ (mtXp_isFull l dC dI q dA H.size p0 M_8 _ hw) (cwV 1 hta (giV wt_305 wt_306 wt_307 wt_2 wt_308) rfl rfl rfl (by decide +kernel) ⟨Nat.le_of_ble_eq_true rfl, Nat.le_of_ble_eq_true rfl⟩) ⟨pW_blind, va_recv hK hP (ci := 1) (q0 := 1) rfl (wX_1 q dA M_8), pW_of hK hP hD⟩ rfl rfl hl.1 rfl (lv_room (Nat.le_of_ble_eq_true rfl)) dXs_act_55 ⟨Nat.le_of_ble_eq_true rfl, Nat.le_of_ble_eq_true rfl⟩) hD hS hA (fun r_9 M_10 H locs hw hP hD hS => ?_)
              refine lv_if_eq (tgt := 71) hx hb dXs_act_58 (by decide) (fun c_11 => ?_) (fun c_11 => ?_)
              · have hw := hw.1 c_11
                refine lv_aload_n hx hb dXs_act_71 rfl (lv_at hl 0 rfl) ?_
                refine va_get (D := (dC, dI)) (ci := 0) (v := .ref (q 1)) (C := "ServiceThreads") (T := TXs) (N := 14) hx hb hta inXs hown hK hP 0 (wX_0 q dA M_10) rfl 0 (by decide) (hta _ wt_118) (fun _ h9 => h9) rfl dXs_act_72 ?_
                refine lv_iload_n hx hb dXs_act_75 rfl (lv_at hl 1 rfl) ?_
                refine lv_iload_n hx hb dXs_act_76 rfl (lv_at hl 2 rfl) ?_
                refine lv_iload_n hx hb dXs_act_77 rfl (lv_at hl 3 rfl) ?_
                refine cn_i (w := (wX q dA)) (M := M_10) (wX_ad q dA) (va_runV (As := [.int p0, .int p1, .int p2]) (rest := []) ⟨hx, hb, hml, hown, hta⟩ (mtXp_add l dC dI q dA H.size p0 p1 p2 M_10 _ hw) (cwV 3 hta (giV wt_325 wt_326 wt_327 wt_2 wt_328) rfl rfl rfl (by decide +kernel) ⟨Nat.le_of_ble_eq_true rfl, Nat.le_of_ble_eq_true rfl⟩) ⟨pW_blind, va_recv hK hP (ci := 1) (q0 := 1) rfl (wX_1 q dA M_10), pW_of hK hP hD⟩ rfl rfl hl.1 rfl (lv_room (Nat.le_of_ble_eq_true rfl)) dXs_act_78 ⟨Nat.le_of_ble_eq_true rfl, Nat.le_of_ble_eq_true rfl⟩) hD hS hA (fun r_12 M_13 H locs hw hP hD hS => ?_)
                exact W.iret (v := r_12) hx hb hr (fun t ht hW => ⟨⟨r_12, M_13, rfl, hw, by rw [ht]; exact hP, va_K.moved hW.alike hK, hD⟩, hS.F ht⟩) hS.2.2 dXs_act_81 hlocks
              · have hw := hw.2 c_11
                exact False.elim hw
            · exact cn_v (w := (wX q dA)) (M := M_2) (wX_ad q dA) (va_runV (As := [.int p0]) (rest := []) ⟨hx, hb, hml, hown, hta⟩ (mtnXs_requireNoTurnYet l dC dI q dA H.size p0 M_2 _ hw) (cwV 1 hta (giV wt_285 wt_287 ws_2 wt_1 wt_288) rfl rfl rfl (by decide +kernel) ⟨Nat.le_of_ble_eq_true rfl, Nat.le_of_ble_eq_true rfl⟩) ⟨pW_blind, va_recv hK hP (ci := 0) (q0 := 0) rfl (wX_0 q dA M_2), pW_of hK hP hD⟩ rfl rfl hl.1 rfl (lv_room (Nat.le_of_ble_eq_true rfl)) dXs_act_47 ⟨Nat.le_of_ble_eq_true rfl, Nat.le_of_ble_eq_true rfl⟩) hD hS hA (fun M_8 H locs hw hP hD hS => False.elim hw)
          · have hw := hw.2 c_6
            exact False.elim hw
      · have hw := hw.2 c_4
        exact False.elim hw
  · exact cn_v (w := (wX q dA)) (M := M) (wX_ad q dA) (va_runS (As := [.int p0]) (rest := []) ⟨hx, hb, hml, hown, hta⟩ (mtnXs_requireThread l dC dI q dA s.heap.size p0 M _ hw) (va_cwS 1 hta (giS wt_196 wt_197 wt_1 wt_198) rfl rfl rfl (by decide +kernel) ⟨Nat.le_of_ble_eq_true rfl, Nat.le_of_ble_eq_true rfl⟩) ⟨pW_blind, pW_of hK hP hD⟩ rfl rfl hl.1 rfl (lv_room (Nat.le_of_ble_eq_true rfl)) dXs_act_1 ⟨Nat.le_of_ble_eq_true rfl, Nat.le_of_ble_eq_true rfl⟩) hD hS hA (fun M_2 H locs hw hP hD hS => False.elim hw)
set_option maxHeartbeats 4000000 in
set_option maxRecDepth 100000 in
theorem mtXs_act (l : Launch) (hl9 : l.stackTraces = false) (dC : Nat → ClassId) (dI : Nat → Nat → Nat) (q : Nat → Nat) (dA : Nat → ClassId) (sz : Nat) (p0 : Int32) (p1 : Int32) (p2 : Int32) (M : Mm) (post : Int32 → Mm → Prop) (px : Nat → Mm → Prop) (hw : wpXs_act p0 p1 p2 M post px) : vx_Met l yXs_act (wsA yXs_act cXs_act 4 (some .int)) ({ frames := 7, cells := 1, slots := 6, locals := 103 }) (va_Pc [.ref (q 0), .int p0, .int p1, .int p2] (pWx (dC, dI) vwCl (wX q dA) (tX dA) sX sz M)) (va_Qi post (bW (dC, dI) vwCl (wX q dA) (tX dA) (va_A (wX q dA M) sz)) (va_A (wX q dA M) sz)) (vx_X (fun u : Nat × Mm => px u.1 u.2) (xW (dC, dI) vwCl (wX q dA) (tX dA) (va_A (wX q dA M) sz)) (va_A (wX q dA M) sz)) 1 6 (va_A (wX q dA M) sz) := by
  refine vx_ofW (cc := cXs_act) (maxL := 4) (ret := (some .int)) (by decide) rfl ?_
  intro p e s m args below meth c s₁ B hml hEx hv
  obtain ⟨rfl, hsz, hP, hK, hD0, hZ, hsp⟩ := hv
  have hx := B.exec
  have hb := B.bytes
  have hr := B.returns
  have hts := atoms_spec (ws := (wsA yXs_act cXs_act 4 (some .int))) B.pre
  have hta : ∀ w ∈ wsG, w.before _ s = true := fun w h => hts w (List.mem_cons_of_mem _ h)
  have hown : s.vm.findClass "ServiceThreads" = some m.cls := findClass_of_methodNamed B.named
  have hlocks := B.notSynchronized
  subst hsz
  have hD := hD0.self (sz := s.heap.size)
  generalize hAe : va_A (wX q dA M) s.heap.size = A at hD hZ ⊢
  have hA : ∀ q : Nat, s.heap.size ≤ q → A q := fun q h => by rw [← hAe]; exact Or.inr h
  have hS : va_S A s.heap s.heap [] := va_S.rf
  dsimp only [wpXs_act] at hw
  have hl := lv_entry ([.ref (q 0), .int p0, .int p1, .int p2]) (n := 4) (Nat.le_of_ble_eq_true rfl)
  rw [lg_entry_eq]
  generalize (lg_sl ([.ref (q 0), .int p0, .int p1, .int p2]) ++ List.replicate (4 - (lg_sl ([.ref (q 0), .int p0, .int p1, .int p2])).length) Slot.unset).toArray = ls at hl ⊢
  have hl : lv_has ls 4 [(0, .ref (q 0)), (1, .int p0), (2, .int p1), (3, .int p2)] := hl
  refine lv_iload_n hx hb dXs_act_0 rfl (lv_at hl 1 rfl) ?_
  rcases hw with hw | hw
  · refine cn_v (w := (wX q dA)) (M := M) (wX_ad q dA) (va_runS (As := [.int p0]) (rest := []) ⟨hx, hb, hml, hown, hta⟩ (mtnXs_requireThread l dC dI q dA s.heap.size p0 M _ hw) (va_cwS 1 hta (giS wt_196 wt_197 wt_1 wt_198) rfl rfl rfl (by decide +kernel) ⟨Nat.le_of_ble_eq_true rfl, Nat.le_of_ble_eq_true rfl⟩) ⟨pW_blind, pW_of hK hP hD⟩ rfl rfl hl.1 rfl (lv_room (Nat.le_of_ble_eq_true rfl)) dXs_act_1 ⟨Nat.le_of_ble_eq_true rfl, Nat.le_of_ble_eq_true rfl⟩) hD hS hA (fun M_2 H locs hw hP hD hS => ?_)
    refine lv_iload_n hx hb dXs_act_4 rfl (lv_at hl 2 rfl) ?_
    refine lv_if_lt (tgt := 14) hx hb dXs_act_5 (by decide) (fun c_3 => ?_) (fun c_3 => ?_)
    · have hw := hw.1 c_3
      obtain ⟨sa9, hsa9⟩ := sX_s2 hsp
      exact vx_throwS (own := "ServiceThreads") (cls := "java/lang/IllegalArgumentException") (names := ["java/lang/RuntimeException", "java/lang/Exception"]) hx hb hl9 hown (by decide +kernel) (by decide +kernel) (hta _ wt_199) (hta _ wt_11) hsa9 (vx_hat (L := vx_atS "ServiceThreads" 78 "java/lang/IllegalArgumentException" ["java/lang/RuntimeException", "java/lang/Exception"]) (B := [.castable "java/lang/IllegalArgumentException" "java/lang/IllegalArgumentException", .declares ⟨"java/lang/RuntimeException", "<init>", "(Ljava/lang/String;)V"⟩, .declares ⟨"java/lang/Exception", "<init>", "(Ljava/lang/String;)V"⟩, .declares ⟨"java/lang/Throwable", "<init>", "(Ljava/lang/String;)V"⟩]) (fun w hw => hta w (vxw_0 w hw)) vxw_0b (vx_c (va_Nw.use rfl (sX_w0 hsp)) (vx_c (va_Nw.use rfl (sX_w1 hsp)) (vx_c (va_Nw.use rfl (sX_w2 hsp)) (vx_c (va_Nw.use rfl (sX_w3 hsp)) (vx_n)))))) vxw_0g hZ.1 hZ.2 hS (hl.1.trans hml.symm) dXs_act_14 dXs_act_17 dXs_act_18 dXs_act_20 dXs_act_23 (fun x hx => (hEx x hx).elim) (Nat.le_of_ble_eq_true rfl) (Nat.le_of_ble_eq_true rfl) (Nat.le_of_ble_eq_true rfl) (Nat.le_of_ble_eq_true rfl) hlocks (th_x (px := px) (k := 0) hP hK hD hS hw) hS.2.2 (Nat.le_of_ble_eq_true rfl) (Nat.le_of_ble_eq_true rfl)
    · have hw := hw.2 c_3
      refine lv_iload_n hx hb dXs_act_8 rfl (lv_at hl 2 rfl) ?_
      refine lv_bipush (v := 6) hx hb dXs_act_9 (by decide) ?_
      refine lv_icmp_le (tgt := 24) hx hb dXs_act_11 (by decide) (fun c_4 => ?_) (fun c_4 => ?_)
      · have hw := hw.1 c_4
        refine lv_iload_n hx hb dXs_act_24 rfl (lv_at hl 3 rfl) ?_
        refine lv_if_lt (tgt := 35) hx hb dXs_act_25 (by decide) (fun c_5 => ?_) (fun c_5 => ?_)
        · have hw := hw.1 c_5
          obtain ⟨sa9, hsa9⟩ := sX_s3 hsp
          exact vx_throwS (own := "ServiceThreads") (cls := "java/lang/IndexOutOfBoundsException") (names := ["java/lang/RuntimeException", "java/lang/Exception"]) hx hb hl9 hown (by decide +kernel) (by decide +kernel) (hta _ wt_269) (hta _ wt_12) hsa9 (vx_hat (L := vx_atS "ServiceThreads" 85 "java/lang/IndexOutOfBoundsException" ["java/lang/RuntimeException", "java/lang/Exception"]) (B := [.castable "java/lang/IndexOutOfBoundsException" "java/lang/IndexOutOfBoundsException", .declares ⟨"java/lang/RuntimeException", "<init>", "(Ljava/lang/String;)V"⟩, .declares ⟨"java/lang/Exception", "<init>", "(Ljava/lang/String;)V"⟩, .declares ⟨"java/lang/Throwable", "<init>", "(Ljava/lang/String;)V"⟩]) (fun w hw => hta w (vxw_2 w hw)) vxw_2b (vx_c (va_Nw.use rfl (sX_w5 hsp)) (vx_c (va_Nw.use rfl (sX_w1 hsp)) (vx_c (va_Nw.use rfl (sX_w2 hsp)) (vx_c (va_Nw.use rfl (sX_w3 hsp)) (vx_n)))))) vxw_2g hZ.1 hZ.2 hS (hl.1.trans hml.symm) dXs_act_35 dXs_act_38 dXs_act_39 dXs_act_41 dXs_act_44 (fun x hx => (hEx x hx).elim) (Nat.le_of_ble_eq_true rfl) (Nat.le_of_ble_eq_true rfl) (Nat.le_of_ble_eq_true rfl) (Nat.le_of_ble_eq_true rfl) hlocks (th_x (px := px) (k := 1) hP hK hD hS hw) hS.2.2 (Nat.le_of_ble_eq_true rfl) (Nat.le_of_ble_eq_true rfl)
        · have hw := hw.2 c_5
          refine lv_iload_n hx hb dXs_act_28 rfl (lv_at hl 3 rfl) ?_
          refine lv_sipush (v := 255) hx hb dXs_act_29 (by decide) ?_
          refine lv_icmp_le (tgt := 45) hx hb dXs_act_32 (by decide) (fun c_6 => ?_) (fun c_6 => ?_)
          · have hw := hw.1 c_6
            refine lv_aload_n hx hb dXs_act_45 rfl (lv_at hl 0 rfl) ?_
            refine lv_iload_n hx hb dXs_act_46 rfl (lv_at hl 1 rfl) ?_
            rcases hw with hw | hw
            · refine cn_v (w := (wX q dA)) (M := M_2) (wX_ad q dA) (va_runV (As := [.int p0]) (rest := []) ⟨hx, hb, hml, hown, hta⟩ (mtnXs_requireNoTurnYet l dC dI q dA H.size p0 M_2 _ hw) (cwV 1 hta (giV wt_285 wt_287 ws_2 wt_1 wt_288) rfl rfl rfl (by decide +kernel) ⟨Nat.le_of_ble_eq_true rfl, Nat.le_of_ble_eq_true rfl⟩) ⟨pW_blind, va_recv hK hP (ci := 0) (q0 := 0) rfl (wX_0 q dA M_2), pW_of hK hP hD⟩ rfl rfl hl.1 rfl (lv_room (Nat.le_of_ble_eq_true rfl)) dXs_act_47 ⟨Nat.le_of_ble_eq_true rfl, Nat.le_of_ble_eq_true rfl⟩) hD hS hA (fun M_8 H locs hw hP hD hS => ?_)
              refine lv_aload_n hx hb dXs_act_50 rfl (lv_at hl 0 rfl) ?_
              refine va_get (D := (dC, dI)) (ci := 0) (v := .ref (q 1)) (C := "ServiceThreads") (T := TXs) (N := 14) hx hb hta inXs hown hK hP 0 (wX_0 q dA M_8) rfl 0 (by decide) (hta _ wt_118) (fun _ h9 => h9) rfl dXs_act_51 ?_
              refine lv_iload_n hx hb dXs_act_54 rfl (lv_at hl 1 rfl) ?_
              refine cn_i (w := (wX q dA)) (M := M_8) (wX_ad q dA) (va_runV (As := [.int p0]) (rest := []) ⟨hx, hb, hml, hown, hta⟩ (mtXp_isFull l dC dI q dA H.size p0 M_8 _ hw) (cwV 1 hta (giV wt_305 wt_306 wt_307 wt_2 wt_308) rfl rfl rfl (by decide +kernel) ⟨Nat.le_of_ble_eq_true rfl, Nat.le_of_ble_eq_true rfl⟩) ⟨pW_blind, va_recv hK hP (ci := 1) (q0 := 1) rfl (wX_1 q dA M_8), pW_of hK hP hD⟩ rfl rfl hl.1 rfl (lv_room (Nat.le_of_ble_eq_true rfl)) dXs_act_55 ⟨Nat.le_of_ble_eq_true rfl, Nat.le_of_ble_eq_true rfl⟩) hD hS hA (fun r_9 M_10 H locs hw hP hD hS => ?_)
              refine lv_if_eq (tgt := 71) hx hb dXs_act_58 (by decide) (fun c_11 => ?_) (fun c_11 => ?_)
              · have hw := hw.1 c_11
                refine lv_aload_n hx hb dXs_act_71 rfl (lv_at hl 0 rfl) ?_
                refine va_get (D := (dC, dI)) (ci := 0) (v := .ref (q 1)) (C := "ServiceThreads") (T := TXs) (N := 14) hx hb hta inXs hown hK hP 0 (wX_0 q dA M_10) rfl 0 (by decide) (hta _ wt_118) (fun _ h9 => h9) rfl dXs_act_72 ?_
                refine lv_iload_n hx hb dXs_act_75 rfl (lv_at hl 1 rfl) ?_
                refine lv_iload_n hx hb dXs_act_76 rfl (lv_at hl 2 rfl) ?_
                refine lv_iload_n hx hb dXs_act_77 rfl (lv_at hl 3 rfl) ?_
                refine cn_i (w := (wX q dA)) (M := M_10) (wX_ad q dA) (va_runV (As := [.int p0, .int p1, .int p2]) (rest := []) ⟨hx, hb, hml, hown, hta⟩ (mtXp_add l dC dI q dA H.size p0 p1 p2 M_10 _ hw) (cwV 3 hta (giV wt_325 wt_326 wt_327 wt_2 wt_328) rfl rfl rfl (by decide +kernel) ⟨Nat.le_of_ble_eq_true rfl, Nat.le_of_ble_eq_true rfl⟩) ⟨pW_blind, va_recv hK hP (ci := 1) (q0 := 1) rfl (wX_1 q dA M_10), pW_of hK hP hD⟩ rfl rfl hl.1 rfl (lv_room (Nat.le_of_ble_eq_true rfl)) dXs_act_78 ⟨Nat.le_of_ble_eq_true rfl, Nat.le_of_ble_eq_true rfl⟩) hD hS hA (fun r_12 M_13 H locs hw hP hD hS => ?_)
                refine vx_ret ?_
                refine W.widen (k := 1) (n := 6) (Nat.le_of_ble_eq_true rfl) (Nat.le_of_ble_eq_true rfl) ?_
                exact W.iret (v := r_12) hx hb hr (fun t ht hW => ⟨⟨r_12, M_13, rfl, hw, by rw [ht]; exact hP, va_K.moved hW.alike hK, hD⟩, hS.F ht⟩) hS.2.2 dXs_act_81 hlocks
              · have hw := hw.2 c_11
                obtain ⟨sa9, hsa9⟩ := sX_s4 hsp
                exact vx_throwS (own := "ServiceThreads") (cls := "java/lang/UnsupportedOperationException") (names := ["java/lang/RuntimeException", "java/lang/Exception"]) hx hb hl9 hown (by decide +kernel) (by decide +kernel) (hta _ wt_309) (hta _ wt_14) hsa9 (vx_hat (L := vx_atS "ServiceThreads" 97 "java/lang/UnsupportedOperationException" ["java/lang/RuntimeException", "java/lang/Exception"]) (B := [.castable "java/lang/UnsupportedOperationException" "java/lang/UnsupportedOperationException", .declares ⟨"java/lang/RuntimeException", "<init>", "(Ljava/lang/String;)V"⟩, .declares ⟨"java/lang/Exception", "<init>", "(Ljava/lang/String;)V"⟩, .declares ⟨"java/lang/Throwable", "<init>", "(Ljava/lang/String;)V"⟩]) (fun w hw => hta w (vxw_3 w hw)) vxw_3b (vx_c (va_Nw.use rfl (sX_w6 hsp)) (vx_c (va_Nw.use rfl (sX_w1 hsp)) (vx_c (va_Nw.use rfl (sX_w2 hsp)) (vx_c (va_Nw.use rfl (sX_w3 hsp)) (vx_n)))))) vxw_3g hZ.1 hZ.2 hS (hl.1.trans hml.symm) dXs_act_61 dXs_act_64 dXs_act_65 dXs_act_67 dXs_act_70 (fun x hx => (hEx x hx).elim) (Nat.le_of_ble_eq_true rfl) (Nat.le_of_ble_eq_true rfl) (Nat.le_of_ble_eq_true rfl) (Nat.le_of_ble_eq_true rfl) hlocks (th_x (px := px) (k := 3) hP hK hD hS hw) hS.2.2 (Nat.le_of_ble_eq_true rfl) (Nat.le_of_ble_eq_true rfl)
            · exact cx_v (w := (wX q dA)) (M := M_2) (wX_ad q dA) (vx_runV (As := [.int p0]) (rest := []) ⟨hx, hb, hml, hown, hta⟩ (mtXs_requireNoTurnYet l hl9 dC dI q dA H.size p0 M_2 _ _ hw) (cwV 1 hta (giV wt_285 wt_287 ws_2 wt_1 wt_288) rfl rfl rfl (by decide +kernel) ⟨Nat.le_of_ble_eq_true rfl, Nat.le_of_ble_eq_true rfl⟩) ⟨pWx_blind sX_ok, va_recv hK hP (ci := 0) (q0 := 0) rfl (wX_0 q dA M_2), pWx_ofn sX_ok hK hP hD hS hA hZ hsp⟩ rfl rfl hl.1 rfl (lv_room (Nat.le_of_ble_eq_true rfl)) dXs_act_47 ⟨Nat.le_of_ble_eq_true rfl, Nat.le_of_ble_eq_true rfl⟩) hD hS hA (fun k9 E9 ce q9 M9 H1 locs1 hE hw hP hD hS hce hcv hcl => vx_out (E := E9) (fun x hx => (hEx x hx).elim) hlocks hce hcv hcl (fun t ht ha => ⟨(k9, M9), hw, ⟨hE, by rw [ht]; exact hP, va_K.moved ha hK, hD⟩, hS.F ht⟩) hS.2.2 (Nat.le_of_ble_eq_true rfl) (Nat.le_of_ble_eq_true rfl)) (fun M_8 H locs hw hP hD hS => False.elim hw)
          · have hw := hw.2 c_6
            obtain ⟨sa9, hsa9⟩ := sX_s3 hsp
            exact vx_throwS (own := "ServiceThreads") (cls := "java/lang/IndexOutOfBoundsException") (names := ["java/lang/RuntimeException", "java/lang/Exception"]) hx hb hl9 hown (by decide +kernel) (by decide +kernel) (hta _ wt_269) (hta _ wt_12) hsa9 (vx_hat (L := vx_atS "ServiceThreads" 85 "java/lang/IndexOutOfBoundsException" ["java/lang/RuntimeException", "java/lang/Exception"]) (B := [.castable "java/lang/IndexOutOfBoundsException" "java/lang/IndexOutOfBoundsException", .declares ⟨"java/lang/RuntimeException", "<init>", "(Ljava/lang/String;)V"⟩, .declares ⟨"java/lang/Exception", "<init>", "(Ljava/lang/String;)V"⟩, .declares ⟨"java/lang/Throwable", "<init>", "(Ljava/lang/String;)V"⟩]) (fun w hw => hta w (vxw_2 w hw)) vxw_2b (vx_c (va_Nw.use rfl (sX_w5 hsp)) (vx_c (va_Nw.use rfl (sX_w1 hsp)) (vx_c (va_Nw.use rfl (sX_w2 hsp)) (vx_c (va_Nw.use rfl (sX_w3 hsp)) (vx_n)))))) vxw_2g hZ.1 hZ.2 hS (hl.1.trans hml.symm) dXs_act_35 dXs_act_38 dXs_act_39 dXs_act_41 dXs_act_44 (fun x hx => (hEx x hx).elim) (Nat.le_of_ble_eq_true rfl) (Nat.le_of_ble_eq_true rfl) (Nat.le_of_ble_eq_true rfl) (Nat.le_of_ble_eq_true rfl) hlocks (th_x (px := px) (k := 1) hP hK hD hS hw) hS.2.2 (Nat.le_of_ble_eq_true rfl) (Nat.le_of_ble_eq_true rfl)
      · have hw := hw.2 c_4
        obtain ⟨sa9, hsa9⟩ := sX_s2 hsp
        exact vx_throwS (own := "ServiceThreads") (cls := "java/lang/IllegalArgumentException") (names := ["java/lang/RuntimeException", "java/lang/Exception"]) hx hb hl9 hown (by decide +kernel) (by decide +kernel) (hta _ wt_199) (hta _ wt_11) hsa9 (vx_hat (L := vx_atS "ServiceThreads" 78 "java/lang/IllegalArgumentException" ["java/lang/RuntimeException", "java/lang/Exception"]) (B := [.castable "java/lang/IllegalArgumentException" "java/lang/IllegalArgumentException", .declares ⟨"java/lang/RuntimeException", "<init>", "(Ljava/lang/String;)V"⟩, .declares ⟨"java/lang/Exception", "<init>", "(Ljava/lang/String;)V"⟩, .declares ⟨"java/lang/Throwable", "<init>", "(Ljava/lang/String;)V"⟩]) (fun w hw => hta w (vxw_0 w hw)) vxw_0b (vx_c (va_Nw.use rfl (sX_w0 hsp)) (vx_c (va_Nw.use rfl (sX_w1 hsp)) (vx_c (va_Nw.use rfl (sX_w2 hsp)) (vx_c (va_Nw.use rfl (sX_w3 hsp)) (vx_n)))))) vxw_0g hZ.1 hZ.2 hS (hl.1.trans hml.symm) dXs_act_14 dXs_act_17 dXs_act_18 dXs_act_20 dXs_act_23 (fun x hx => (hEx x hx).elim) (Nat.le_of_ble_eq_true rfl) (Nat.le_of_ble_eq_true rfl) (Nat.le_of_ble_eq_true rfl) (Nat.le_of_ble_eq_true rfl) hlocks (th_x (px := px) (k := 0) hP hK hD hS hw) hS.2.2 (Nat.le_of_ble_eq_true rfl) (Nat.le_of_ble_eq_true rfl)
  · exact cx_v (w := (wX q dA)) (M := M) (wX_ad q dA) (vx_runS (As := [.int p0]) (rest := []) ⟨hx, hb, hml, hown, hta⟩ (mtXs_requireThread l hl9 dC dI q dA s.heap.size p0 M _ _ hw) (va_cwS 1 hta (giS wt_196 wt_197 wt_1 wt_198) rfl rfl rfl (by decide +kernel) ⟨Nat.le_of_ble_eq_true rfl, Nat.le_of_ble_eq_true rfl⟩) ⟨pWx_blind sX_ok, pWx_ofn sX_ok hK hP hD hS hA hZ hsp⟩ rfl rfl hl.1 rfl (lv_room (Nat.le_of_ble_eq_true rfl)) dXs_act_1 ⟨Nat.le_of_ble_eq_true rfl, Nat.le_of_ble_eq_true rfl⟩) hD hS hA (fun k9 E9 ce q9 M9 H1 locs1 hE hw hP hD hS hce hcv hcl => vx_out (E := E9) (fun x hx => (hEx x hx).elim) hlocks hce hcv hcl (fun t ht ha => ⟨(k9, M9), hw, ⟨hE, by rw [ht]; exact hP, va_K.moved ha hK, hD⟩, hS.F ht⟩) hS.2.2 (Nat.le_of_ble_eq_true rfl) (Nat.le_of_ble_eq_true rfl)) (fun M_2 H locs hw hP hD hS => False.elim hw)
def wpXs_finish (p0 : Int32) (p1 : Int32) (M : Mm) (post : Mm → Prop) (px : Nat → Mm → Prop) : Prop := ((wpXs_requireThread p0 M (fun M_2 => (((p1 < 0 → (px 1 M_2)) ∧ (¬ p1 < 0 → (wpXp_actsOf p0 M_2 (fun r_4 M_5 => (((p1 ≤ r_4 → (((wpXs_requireNoTurnYet p0 M_5 (fun M_8 => (wpXp_setFinish p0 p1 M_8 (fun M_10 => (post M_10)))) (fun _ _ => False)) ∨ (wpXs_requireNoTurnYet p0 M_5 (fun _ => False) px)))) ∧ (¬ p1 ≤ r_4 → (px 1 M_5)))))))))) (fun _ _ => False)) ∨ (wpXs_requireThread p0 M (fun _ => False) px))
set_option maxHeartbeats 4000000 in
set_option maxRecDepth 100000 in
theorem mtnXs_finish (l : Launch) (dC : Nat → ClassId) (dI : Nat → Nat → Nat) (q : Nat → Nat) (dA : Nat → ClassId) (sz : Nat) (p0 : Int32) (p1 : Int32) (M : Mm) (post : Mm → Prop) (hw : wpXs_finish p0 p1 M post (fun _ _ => False)) : Met l yXs_finish (wsA yXs_finish cXs_finish 3 none) ({ frames := 1, cells := 0, slots := 0, locals := 22 }) (va_Pc [.ref (q 0), .int p0, .int p1] (pW (dC, dI) vwCl (wX q dA) (tX dA) sz M)) (va_Qv post (bW (dC, dI) vwCl (wX q dA) (tX dA) (va_A (wX q dA M) sz)) (va_A (wX q dA M) sz)) 0 0 (va_A (wX q dA M) sz) := by
  refine Met.ofW (cc := cXs_finish) (maxL := 3) (ret := none) (by decide) rfl ?_
  intro p e s m args below meth c s₁ B hml hv
  obtain ⟨rfl, hsz, hP, hK, hD0⟩ := hv
  have hx := B.exec
  have hb := B.bytes
  have hr := B.returns
  have hts := atoms_spec (ws := (wsA yXs_finish cXs_finish 3 none)) B.pre
  have hta : ∀ w ∈ wsG, w.before _ s = true := fun w h => hts w (List.mem_cons_of_mem _ h)
  have hown : s.vm.findClass "ServiceThreads" = some m.cls := findClass_of_methodNamed B.named
  have hlocks := B.notSynchronized
  subst hsz
  have hD := hD0.self (sz := s.heap.size)
  generalize hAe : va_A (wX q dA M) s.heap.size = A at hD ⊢
  have hA : ∀ q : Nat, s.heap.size ≤ q → A q := fun q h => by rw [← hAe]; exact Or.inr h
  have hS : va_S A s.heap s.heap [] := va_S.rf
  dsimp only [wpXs_finish] at hw
  have hl := lv_entry ([.ref (q 0), .int p0, .int p1]) (n := 3) (Nat.le_of_ble_eq_true rfl)
  rw [lg_entry_eq]
  generalize (lg_sl ([.ref (q 0), .int p0, .int p1]) ++ List.replicate (3 - (lg_sl ([.ref (q 0), .int p0, .int p1])).length) Slot.unset).toArray = ls at hl ⊢
  have hl : lv_has ls 3 [(0, .ref (q 0)), (1, .int p0), (2, .int p1)] := hl
  refine lv_iload_n hx hb dXs_finish_0 rfl (lv_at hl 1 rfl) ?_
  rcases hw with hw | hw
  · refine cn_v (w := (wX q dA)) (M := M) (wX_ad q dA) (va_runS (As := [.int p0]) (rest := []) ⟨hx, hb, hml, hown, hta⟩ (mtnXs_requireThread l dC dI q dA s.heap.size p0 M _ hw) (va_cwS 1 hta (giS wt_196 wt_197 wt_1 wt_198) rfl rfl rfl (by decide +kernel) ⟨Nat.le_of_ble_eq_true rfl, Nat.le_of_ble_eq_true rfl⟩) ⟨pW_blind, pW_of hK hP hD⟩ rfl rfl hl.1 rfl (lv_room (Nat.le_of_ble_eq_true rfl)) dXs_finish_1 ⟨Nat.le_of_ble_eq_true rfl, Nat.le_of_ble_eq_true rfl⟩) hD hS hA (fun M_2 H locs hw hP hD hS => ?_)
    refine lv_iload_n hx hb dXs_finish_4 rfl (lv_at hl 2 rfl) ?_
    refine lv_if_lt (tgt := 20) hx hb dXs_finish_5 (by decide) (fun c_3 => ?_) (fun c_3 => ?_)
    · have hw := hw.1 c_3
      exact False.elim hw
    · have hw := hw.2 c_3
      refine lv_iload_n hx hb dXs_finish_8 rfl (lv_at hl 2 rfl) ?_
      refine lv_aload_n hx hb dXs_finish_9 rfl (lv_at hl 0 rfl) ?_
      refine va_get (D := (dC, dI)) (ci := 0) (v := .ref (q 1)) (C := "ServiceThreads") (T := TXs) (N := 14) hx hb hta inXs hown hK hP 0 (wX_0 q dA M_2) rfl 0 (by decide) (hta _ wt_118) (fun _ h9 => h9) rfl dXs_finish_10 ?_
      refine lv_iload_n hx hb dXs_finish_13 rfl (lv_at hl 1 rfl) ?_
      refine cn_i (w := (wX q dA)) (M := M_2) (wX_ad q dA) (va_runV (As := [.int p0]) (rest := [.int p1]) ⟨hx, hb, hml, hown, hta⟩ (mtXp_actsOf l dC dI q dA H.size p0 M_2 _ hw) (cwV 1 hta (giV wt_336 wt_337 wt_338 wt_2 wt_339) rfl rfl rfl (by decide +kernel) ⟨Nat.le_of_ble_eq_true rfl, Nat.le_of_ble_eq_true rfl⟩) ⟨pW_blind, va_recv hK hP (ci := 1) (q0 := 1) rfl (wX_1 q dA M_2), pW_of hK hP hD⟩ rfl rfl hl.1 rfl (lv_room (Nat.le_of_ble_eq_true rfl)) dXs_finish_14 ⟨Nat.le_of_ble_eq_true rfl, Nat.le_of_ble_eq_true rfl⟩) hD hS hA (fun r_4 M_5 H locs hw hP hD hS => ?_)
      refine lv_icmp_le (tgt := 30) hx hb dXs_finish_17 (by decide) (fun c_6 => ?_) (fun c_6 => ?_)
      · have hw := hw.1 c_6
        refine lv_aload_n hx hb dXs_finish_30 rfl (lv_at hl 0 rfl) ?_
        refine lv_iload_n hx hb dXs_finish_31 rfl (lv_at hl 1 rfl) ?_
        rcases hw with hw | hw
        · refine cn_v (w := (wX q dA)) (M := M_5) (wX_ad q dA) (va_runV (As := [.int p0]) (rest := []) ⟨hx, hb, hml, hown, hta⟩ (mtnXs_requireNoTurnYet l dC dI q dA H.size p0 M_5 _ hw) (cwV 1 hta (giV wt_285 wt_287 ws_2 wt_1 wt_288) rfl rfl rfl (by decide +kernel) ⟨Nat.le_of_ble_eq_true rfl, Nat.le_of_ble_eq_true rfl⟩) ⟨pW_blind, va_recv hK hP (ci := 0) (q0 := 0) rfl (wX_0 q dA M_5), pW_of hK hP hD⟩ rfl rfl hl.1 rfl (lv_room (Nat.le_of_ble_eq_true rfl)) dXs_finish_32 ⟨Nat.le_of_ble_eq_true rfl, Nat.le_of_ble_eq_true rfl⟩) hD hS hA (fun M_8 H locs hw hP hD hS => ?_)
          refine lv_aload_n hx hb dXs_finish_35 rfl (lv_at hl 0 rfl) ?_
          refine va_get (D := (dC, dI)) (ci := 0) (v := .ref (q 1)) (C := "ServiceThreads") (T := TXs) (N := 14) hx hb hta inXs hown hK hP 0 (wX_0 q dA M_8) rfl 0 (by decide) (hta _ wt_118) (fun _ h9 => h9) rfl dXs_finish_36 ?_
          refine lv_iload_n hx hb dXs_finish_39 rfl (lv_at hl 1 rfl) ?_
          refine lv_iload_n hx hb dXs_finish_40 rfl (lv_at hl 2 rfl) ?_
          refine cn_v (w := (wX q dA)) (M := M_8) (wX_ad q dA) (va_runV (As := [.int p0, .int p1]) (rest := []) ⟨hx, hb, hml, hown, hta⟩ (mtXp_setFinish l dC dI q dA H.size p0 p1 M_8 _ hw) (cwV 2 hta (giV wt_341 wt_342 wt_343 wt_2 wt_344) rfl rfl rfl (by decide +kernel) ⟨Nat.le_of_ble_eq_true rfl, Nat.le_of_ble_eq_true rfl⟩) ⟨pW_blind, va_recv hK hP (ci := 1) (q0 := 1) rfl (wX_1 q dA M_8), pW_of hK hP hD⟩ rfl rfl hl.1 rfl (lv_room (Nat.le_of_ble_eq_true rfl)) dXs_finish_41 ⟨Nat.le_of_ble_eq_true rfl, Nat.le_of_ble_eq_true rfl⟩) hD hS hA (fun M_10 H locs hw hP hD hS => ?_)
          exact W.vret hx hb hr (fun t ht hW => ⟨⟨M_10, rfl, hw, by rw [ht]; exact hP, va_K.moved hW.alike hK, hD⟩, hS.F ht⟩) hS.2.2 dXs_finish_44 hlocks
        · exact cn_v (w := (wX q dA)) (M := M_5) (wX_ad q dA) (va_runV (As := [.int p0]) (rest := []) ⟨hx, hb, hml, hown, hta⟩ (mtnXs_requireNoTurnYet l dC dI q dA H.size p0 M_5 _ hw) (cwV 1 hta (giV wt_285 wt_287 ws_2 wt_1 wt_288) rfl rfl rfl (by decide +kernel) ⟨Nat.le_of_ble_eq_true rfl, Nat.le_of_ble_eq_true rfl⟩) ⟨pW_blind, va_recv hK hP (ci := 0) (q0 := 0) rfl (wX_0 q dA M_5), pW_of hK hP hD⟩ rfl rfl hl.1 rfl (lv_room (Nat.le_of_ble_eq_true rfl)) dXs_finish_32 ⟨Nat.le_of_ble_eq_true rfl, Nat.le_of_ble_eq_true rfl⟩) hD hS hA (fun M_8 H locs hw hP hD hS => False.elim hw)
      · have hw := hw.2 c_6
        exact False.elim hw
  · exact cn_v (w := (wX q dA)) (M := M) (wX_ad q dA) (va_runS (As := [.int p0]) (rest := []) ⟨hx, hb, hml, hown, hta⟩ (mtnXs_requireThread l dC dI q dA s.heap.size p0 M _ hw) (va_cwS 1 hta (giS wt_196 wt_197 wt_1 wt_198) rfl rfl rfl (by decide +kernel) ⟨Nat.le_of_ble_eq_true rfl, Nat.le_of_ble_eq_true rfl⟩) ⟨pW_blind, pW_of hK hP hD⟩ rfl rfl hl.1 rfl (lv_room (Nat.le_of_ble_eq_true rfl)) dXs_finish_1 ⟨Nat.le_of_ble_eq_true rfl, Nat.le_of_ble_eq_true rfl⟩) hD hS hA (fun M_2 H locs hw hP hD hS => False.elim hw)
set_option maxHeartbeats 4000000 in
set_option maxRecDepth 100000 in
theorem mtXs_finish (l : Launch) (hl9 : l.stackTraces = false) (dC : Nat → ClassId) (dI : Nat → Nat → Nat) (q : Nat → Nat) (dA : Nat → ClassId) (sz : Nat) (p0 : Int32) (p1 : Int32) (M : Mm) (post : Mm → Prop) (px : Nat → Mm → Prop) (hw : wpXs_finish p0 p1 M post px) : vx_Met l yXs_finish (wsA yXs_finish cXs_finish 3 none) ({ frames := 7, cells := 1, slots := 6, locals := 103 }) (va_Pc [.ref (q 0), .int p0, .int p1] (pWx (dC, dI) vwCl (wX q dA) (tX dA) sX sz M)) (va_Qv post (bW (dC, dI) vwCl (wX q dA) (tX dA) (va_A (wX q dA M) sz)) (va_A (wX q dA M) sz)) (vx_X (fun u : Nat × Mm => px u.1 u.2) (xW (dC, dI) vwCl (wX q dA) (tX dA) (va_A (wX q dA M) sz)) (va_A (wX q dA M) sz)) 1 6 (va_A (wX q dA M) sz) := by
  refine vx_ofW (cc := cXs_finish) (maxL := 3) (ret := none) (by decide) rfl ?_
  intro p e s m args below meth c s₁ B hml hEx hv
  obtain ⟨rfl, hsz, hP, hK, hD0, hZ, hsp⟩ := hv
  have hx := B.exec
  have hb := B.bytes
  have hr := B.returns
  have hts := atoms_spec (ws := (wsA yXs_finish cXs_finish 3 none)) B.pre
  have hta : ∀ w ∈ wsG, w.before _ s = true := fun w h => hts w (List.mem_cons_of_mem _ h)
  have hown : s.vm.findClass "ServiceThreads" = some m.cls := findClass_of_methodNamed B.named
  have hlocks := B.notSynchronized
  subst hsz
  have hD := hD0.self (sz := s.heap.size)
  generalize hAe : va_A (wX q dA M) s.heap.size = A at hD hZ ⊢
  have hA : ∀ q : Nat, s.heap.size ≤ q → A q := fun q h => by rw [← hAe]; exact Or.inr h
  have hS : va_S A s.heap s.heap [] := va_S.rf
  dsimp only [wpXs_finish] at hw
  have hl := lv_entry ([.ref (q 0), .int p0, .int p1]) (n := 3) (Nat.le_of_ble_eq_true rfl)
  rw [lg_entry_eq]
  generalize (lg_sl ([.ref (q 0), .int p0, .int p1]) ++ List.replicate (3 - (lg_sl ([.ref (q 0), .int p0, .int p1])).length) Slot.unset).toArray = ls at hl ⊢
  have hl : lv_has ls 3 [(0, .ref (q 0)), (1, .int p0), (2, .int p1)] := hl
  refine lv_iload_n hx hb dXs_finish_0 rfl (lv_at hl 1 rfl) ?_
  rcases hw with hw | hw
  · refine cn_v (w := (wX q dA)) (M := M) (wX_ad q dA) (va_runS (As := [.int p0]) (rest := []) ⟨hx, hb, hml, hown, hta⟩ (mtnXs_requireThread l dC dI q dA s.heap.size p0 M _ hw) (va_cwS 1 hta (giS wt_196 wt_197 wt_1 wt_198) rfl rfl rfl (by decide +kernel) ⟨Nat.le_of_ble_eq_true rfl, Nat.le_of_ble_eq_true rfl⟩) ⟨pW_blind, pW_of hK hP hD⟩ rfl rfl hl.1 rfl (lv_room (Nat.le_of_ble_eq_true rfl)) dXs_finish_1 ⟨Nat.le_of_ble_eq_true rfl, Nat.le_of_ble_eq_true rfl⟩) hD hS hA (fun M_2 H locs hw hP hD hS => ?_)
    refine lv_iload_n hx hb dXs_finish_4 rfl (lv_at hl 2 rfl) ?_
    refine lv_if_lt (tgt := 20) hx hb dXs_finish_5 (by decide) (fun c_3 => ?_) (fun c_3 => ?_)
    · have hw := hw.1 c_3
      obtain ⟨sa9, hsa9⟩ := sX_s5 hsp
      exact vx_throwS (own := "ServiceThreads") (cls := "java/lang/IndexOutOfBoundsException") (names := ["java/lang/RuntimeException", "java/lang/Exception"]) hx hb hl9 hown (by decide +kernel) (by decide +kernel) (hta _ wt_269) (hta _ wt_12) hsa9 (vx_hat (L := vx_atS "ServiceThreads" 85 "java/lang/IndexOutOfBoundsException" ["java/lang/RuntimeException", "java/lang/Exception"]) (B := [.castable "java/lang/IndexOutOfBoundsException" "java/lang/IndexOutOfBoundsException", .declares ⟨"java/lang/RuntimeException", "<init>", "(Ljava/lang/String;)V"⟩, .declares ⟨"java/lang/Exception", "<init>", "(Ljava/lang/String;)V"⟩, .declares ⟨"java/lang/Throwable", "<init>", "(Ljava/lang/String;)V"⟩]) (fun w hw => hta w (vxw_2 w hw)) vxw_2b (vx_c (va_Nw.use rfl (sX_w5 hsp)) (vx_c (va_Nw.use rfl (sX_w1 hsp)) (vx_c (va_Nw.use rfl (sX_w2 hsp)) (vx_c (va_Nw.use rfl (sX_w3 hsp)) (vx_n)))))) vxw_2g hZ.1 hZ.2 hS (hl.1.trans hml.symm) dXs_finish_20 dXs_finish_23 dXs_finish_24 dXs_finish_26 dXs_finish_29 (fun x hx => (hEx x hx).elim) (Nat.le_of_ble_eq_true rfl) (Nat.le_of_ble_eq_true rfl) (Nat.le_of_ble_eq_true rfl) (Nat.le_of_ble_eq_true rfl) hlocks (th_x (px := px) (k := 1) hP hK hD hS hw) hS.2.2 (Nat.le_of_ble_eq_true rfl) (Nat.le_of_ble_eq_true rfl)
    · have hw := hw.2 c_3
      refine lv_iload_n hx hb dXs_finish_8 rfl (lv_at hl 2 rfl) ?_
      refine lv_aload_n hx hb dXs_finish_9 rfl (lv_at hl 0 rfl) ?_
      refine va_get (D := (dC, dI)) (ci := 0) (v := .ref (q 1)) (C := "ServiceThreads") (T := TXs) (N := 14) hx hb hta inXs hown hK hP 0 (wX_0 q dA M_2) rfl 0 (by decide) (hta _ wt_118) (fun _ h9 => h9) rfl dXs_finish_10 ?_
      refine lv_iload_n hx hb dXs_finish_13 rfl (lv_at hl 1 rfl) ?_
      refine cn_i (w := (wX q dA)) (M := M_2) (wX_ad q dA) (va_runV (As := [.int p0]) (rest := [.int p1]) ⟨hx, hb, hml, hown, hta⟩ (mtXp_actsOf l dC dI q dA H.size p0 M_2 _ hw) (cwV 1 hta (giV wt_336 wt_337 wt_338 wt_2 wt_339) rfl rfl rfl (by decide +kernel) ⟨Nat.le_of_ble_eq_true rfl, Nat.le_of_ble_eq_true rfl⟩) ⟨pW_blind, va_recv hK hP (ci := 1) (q0 := 1) rfl (wX_1 q dA M_2), pW_of hK hP hD⟩ rfl rfl hl.1 rfl (lv_room (Nat.le_of_ble_eq_true rfl)) dXs_finish_14 ⟨Nat.le_of_ble_eq_true rfl, Nat.le_of_ble_eq_true rfl⟩) hD hS hA (fun r_4 M_5 H locs hw hP hD hS => ?_)
      refine lv_icmp_le (tgt := 30) hx hb dXs_finish_17 (by decide) (fun c_6 => ?_) (fun c_6 => ?_)
      · have hw := hw.1 c_6
        refine lv_aload_n hx hb dXs_finish_30 rfl (lv_at hl 0 rfl) ?_
        refine lv_iload_n hx hb dXs_finish_31 rfl (lv_at hl 1 rfl) ?_
        rcases hw with hw | hw
        · refine cn_v (w := (wX q dA)) (M := M_5) (wX_ad q dA) (va_runV (As := [.int p0]) (rest := []) ⟨hx, hb, hml, hown, hta⟩ (mtnXs_requireNoTurnYet l dC dI q dA H.size p0 M_5 _ hw) (cwV 1 hta (giV wt_285 wt_287 ws_2 wt_1 wt_288) rfl rfl rfl (by decide +kernel) ⟨Nat.le_of_ble_eq_true rfl, Nat.le_of_ble_eq_true rfl⟩) ⟨pW_blind, va_recv hK hP (ci := 0) (q0 := 0) rfl (wX_0 q dA M_5), pW_of hK hP hD⟩ rfl rfl hl.1 rfl (lv_room (Nat.le_of_ble_eq_true rfl)) dXs_finish_32 ⟨Nat.le_of_ble_eq_true rfl, Nat.le_of_ble_eq_true rfl⟩) hD hS hA (fun M_8 H locs hw hP hD hS => ?_)
          refine lv_aload_n hx hb dXs_finish_35 rfl (lv_at hl 0 rfl) ?_
          refine va_get (D := (dC, dI)) (ci := 0) (v := .ref (q 1)) (C := "ServiceThreads") (T := TXs) (N := 14) hx hb hta inXs hown hK hP 0 (wX_0 q dA M_8) rfl 0 (by decide) (hta _ wt_118) (fun _ h9 => h9) rfl dXs_finish_36 ?_
          refine lv_iload_n hx hb dXs_finish_39 rfl (lv_at hl 1 rfl) ?_
          refine lv_iload_n hx hb dXs_finish_40 rfl (lv_at hl 2 rfl) ?_
          refine cn_v (w := (wX q dA)) (M := M_8) (wX_ad q dA) (va_runV (As := [.int p0, .int p1]) (rest := []) ⟨hx, hb, hml, hown, hta⟩ (mtXp_setFinish l dC dI q dA H.size p0 p1 M_8 _ hw) (cwV 2 hta (giV wt_341 wt_342 wt_343 wt_2 wt_344) rfl rfl rfl (by decide +kernel) ⟨Nat.le_of_ble_eq_true rfl, Nat.le_of_ble_eq_true rfl⟩) ⟨pW_blind, va_recv hK hP (ci := 1) (q0 := 1) rfl (wX_1 q dA M_8), pW_of hK hP hD⟩ rfl rfl hl.1 rfl (lv_room (Nat.le_of_ble_eq_true rfl)) dXs_finish_41 ⟨Nat.le_of_ble_eq_true rfl, Nat.le_of_ble_eq_true rfl⟩) hD hS hA (fun M_10 H locs hw hP hD hS => ?_)
          refine vx_ret ?_
          refine W.widen (k := 1) (n := 6) (Nat.le_of_ble_eq_true rfl) (Nat.le_of_ble_eq_true rfl) ?_
          exact W.vret hx hb hr (fun t ht hW => ⟨⟨M_10, rfl, hw, by rw [ht]; exact hP, va_K.moved hW.alike hK, hD⟩, hS.F ht⟩) hS.2.2 dXs_finish_44 hlocks
        · exact cx_v (w := (wX q dA)) (M := M_5) (wX_ad q dA) (vx_runV (As := [.int p0]) (rest := []) ⟨hx, hb, hml, hown, hta⟩ (mtXs_requireNoTurnYet l hl9 dC dI q dA H.size p0 M_5 _ _ hw) (cwV 1 hta (giV wt_285 wt_287 ws_2 wt_1 wt_288) rfl rfl rfl (by decide +kernel) ⟨Nat.le_of_ble_eq_true rfl, Nat.le_of_ble_eq_true rfl⟩) ⟨pWx_blind sX_ok, va_recv hK hP (ci := 0) (q0 := 0) rfl (wX_0 q dA M_5), pWx_ofn sX_ok hK hP hD hS hA hZ hsp⟩ rfl rfl hl.1 rfl (lv_room (Nat.le_of_ble_eq_true rfl)) dXs_finish_32 ⟨Nat.le_of_ble_eq_true rfl, Nat.le_of_ble_eq_true rfl⟩) hD hS hA (fun k9 E9 ce q9 M9 H1 locs1 hE hw hP hD hS hce hcv hcl => vx_out (E := E9) (fun x hx => (hEx x hx).elim) hlocks hce hcv hcl (fun t ht ha => ⟨(k9, M9), hw, ⟨hE, by rw [ht]; exact hP, va_K.moved ha hK, hD⟩, hS.F ht⟩) hS.2.2 (Nat.le_of_ble_eq_true rfl) (Nat.le_of_ble_eq_true rfl)) (fun M_8 H locs hw hP hD hS => False.elim hw)
      · have hw := hw.2 c_6
        obtain ⟨sa9, hsa9⟩ := sX_s5 hsp
        exact vx_throwS (own := "ServiceThreads") (cls := "java/lang/IndexOutOfBoundsException") (names := ["java/lang/RuntimeException", "java/lang/Exception"]) hx hb hl9 hown (by decide +kernel) (by decide +kernel) (hta _ wt_269) (hta _ wt_12) hsa9 (vx_hat (L := vx_atS "ServiceThreads" 85 "java/lang/IndexOutOfBoundsException" ["java/lang/RuntimeException", "java/lang/Exception"]) (B := [.castable "java/lang/IndexOutOfBoundsException" "java/lang/IndexOutOfBoundsException", .declares ⟨"java/lang/RuntimeException", "<init>", "(Ljava/lang/String;)V"⟩, .declares ⟨"java/lang/Exception", "<init>", "(Ljava/lang/String;)V"⟩, .declares ⟨"java/lang/Throwable", "<init>", "(Ljava/lang/String;)V"⟩]) (fun w hw => hta w (vxw_2 w hw)) vxw_2b (vx_c (va_Nw.use rfl (sX_w5 hsp)) (vx_c (va_Nw.use rfl (sX_w1 hsp)) (vx_c (va_Nw.use rfl (sX_w2 hsp)) (vx_c (va_Nw.use rfl (sX_w3 hsp)) (vx_n)))))) vxw_2g hZ.1 hZ.2 hS (hl.1.trans hml.symm) dXs_finish_20 dXs_finish_23 dXs_finish_24 dXs_finish_26 dXs_finish_29 (fun x hx => (hEx x hx).elim) (Nat.le_of_ble_eq_true rfl) (Nat.le_of_ble_eq_true rfl) (Nat.le_of_ble_eq_true rfl) (Nat.le_of_ble_eq_true rfl) hlocks (th_x (px := px) (k := 1) hP hK hD hS hw) hS.2.2 (Nat.le_of_ble_eq_true rfl) (Nat.le_of_ble_eq_true rfl)
  · exact cx_v (w := (wX q dA)) (M := M) (wX_ad q dA) (vx_runS (As := [.int p0]) (rest := []) ⟨hx, hb, hml, hown, hta⟩ (mtXs_requireThread l hl9 dC dI q dA s.heap.size p0 M _ _ hw) (va_cwS 1 hta (giS wt_196 wt_197 wt_1 wt_198) rfl rfl rfl (by decide +kernel) ⟨Nat.le_of_ble_eq_true rfl, Nat.le_of_ble_eq_true rfl⟩) ⟨pWx_blind sX_ok, pWx_ofn sX_ok hK hP hD hS hA hZ hsp⟩ rfl rfl hl.1 rfl (lv_room (Nat.le_of_ble_eq_true rfl)) dXs_finish_1 ⟨Nat.le_of_ble_eq_true rfl, Nat.le_of_ble_eq_true rfl⟩) hD hS hA (fun k9 E9 ce q9 M9 H1 locs1 hE hw hP hD hS hce hcv hcl => vx_out (E := E9) (fun x hx => (hEx x hx).elim) hlocks hce hcv hcl (fun t ht ha => ⟨(k9, M9), hw, ⟨hE, by rw [ht]; exact hP, va_K.moved ha hK, hD⟩, hS.F ht⟩) hS.2.2 (Nat.le_of_ble_eq_true rfl) (Nat.le_of_ble_eq_true rfl)) (fun M_2 H locs hw hP hD hS => False.elim hw)
def wlXs_interruptResting_2 (post : Mm → Prop) : Nat → Int32 → Int32 → Mm → Prop
  | 0, _, _ => fun _ => False
  | n2 + 1, x1, x2 => fun M => ((8 ≤ x2 → (post M)) ∧ (¬ 8 ≤ x2 → (vp_in x2 8 ∧ (∀ y_3 : Int32, y_3 = M 14 x2.toNatClampNeg → (((y_3 = 0 → (vp_in x2 8 ∧ (∀ y_8 : Int32, y_8 = M 17 x2.toNatClampNeg → (((y_8 ≤ 0 → (∀ x2_11 : Int32, x2_11 = x2 + 1 → (wlXs_interruptResting_2 post n2 x1 x2_11 M))) ∧ (¬ y_8 ≤ 0 → (wpXc_highestOpenRankOf x2 M (fun r_13 M_14 => (((x1 ≤ r_13 → (∀ x2_16 : Int32, x2_16 = x2 + 1 → (wlXs_interruptResting_2 post n2 x1 x2_16 M_14))) ∧ (¬ x1 ≤ r_13 → (vp_in x2 8 ∧ (∀ M_18 : Mm, M_18 = stM M_14 20 (upd (M_14 20) x2.toNatClampNeg 1) → (∀ x2_19 : Int32, x2_19 = x2 + 1 → (wlXs_interruptResting_2 post n2 x1 x2_19 M_18))))))))))))))) ∧ (¬ y_3 = 0 → (∀ x2_6 : Int32, x2_6 = x2 + 1 → (wlXs_interruptResting_2 post n2 x1 x2_6 M)))))))))
def wpXs_interruptResting (p0 : Int32) (M : Mm) (post : Mm → Prop) : Prop := ∃ n2 : Nat, wlXs_interruptResting_2 post n2 p0 0 M
set_option maxHeartbeats 4000000 in
set_option maxRecDepth 100000 in
theorem LwlXs_interruptResting_2 {p : Program} {l : Launch} {e : Env} {s : State} {m : MethodId} {below : List Frame} {meth : Method} {c : Code} {dC : Nat → ClassId} {dI : Nat → Nat → Nat} {q : Nat → Nat} {dA : Nat → ClassId} {A : Nat → Prop} {av : List Value} {post : Mm → Prop} (CX : p.tables.exec = Jvm.exec ∧ c.code = cXs_interruptResting ∧ meth.sig.returnType = none ∧ c.maxLocals = 4 ∧ s.vm.findClass "ServiceThreads" = some m.cls ∧ (∀ w ∈ wsG, w.before av.toArray s = true) ∧ (∀ q : Nat, s.heap.size ≤ q → A q) ∧ va_K (dC, dI) vwCl (tX dA) s ∧ meth.locks = false) : ∀ (n2 : Nat) (x1 : Int32) (x2 : Int32) (M : Mm) (H : Heap) (locs : List Loc) (ls : Array Slot), wlXs_interruptResting_2 post n2 x1 x2 M → va_P (dC, dI) vwCl (wX q dA M) H → va_D A (wX q dA M) → va_S A s.heap H locs → lv_has ls 4 [(0, .ref (q 0)), (1, .int x1), (2, .int x2)] → W p l e (headSpec (wsA yXs_interruptResting cXs_interruptResting 4 none) ({ frames := 3, cells := 0, slots := 0, locals := 66 })).room s m av.toArray below meth c H locs 0 0 (MQ below (va_Qv post (bW (dC, dI) vwCl (wX q dA) (tX dA) A) A) av.toArray s 0 0 A) (F0 m 2 ls []) := by
  obtain ⟨hx, hb, hr, hml, hown, hta, hA, hK, hlocks⟩ := CX
  intro n2
  induction n2 with
  | zero =>
    intro x1 x2 M H locs ls hw
    exact False.elim hw
  | succ n2 ih2 =>
    intro x1 x2 M H locs ls hw hP hD hS hl
    dsimp only [wlXs_interruptResting_2] at hw
    refine lv_iload_n hx hb dXs_interruptResting_2 rfl (lv_at hl 2 rfl) ?_
    refine lv_bipush (v := 8) hx hb dXs_interruptResting_3 (by decide) ?_
    refine lv_icmp_ge (tgt := 61) hx hb dXs_interruptResting_5 (by decide) (fun c_1 => ?_) (fun c_1 => ?_)
    · have hw := hw.1 c_1
      exact W.vret hx hb hr (fun t ht hW => ⟨⟨M, rfl, hw, by rw [ht]; exact hP, va_K.moved hW.alike hK, hD⟩, hS.F ht⟩) hS.2.2 dXs_interruptResting_61 hlocks
    · have hw := hw.2 c_1
      refine lv_aload_n hx hb dXs_interruptResting_8 rfl (lv_at hl 0 rfl) ?_
      refine va_get (D := (dC, dI)) (ci := 0) (v := .ref (q 19)) (C := "ServiceThreads") (T := TXs) (N := 14) hx hb hta inXs hown hK hP 0 (wX_0 q dA M) rfl 4 (by decide) (hta _ wt_122) (fun _ h9 => h9) rfl dXs_interruptResting_9 ?_
      refine lv_iload_n hx hb dXs_interruptResting_12 rfl (lv_at hl 2 rfl) ?_
      obtain ⟨h_2, hw⟩ := hw
      refine ro_i (w := (wX q dA)) (M := M) hx hb hK hP 19 14 (wX_19 q dA M) rfl h_2 dXs_interruptResting_13 (fun y_3 ey_3 => ?_)
      have hw := hw y_3 ey_3
      refine lv_if_ne (tgt := 30) hx hb dXs_interruptResting_14 (by decide) (fun c_4 => ?_) (fun c_4 => ?_)
      · have hw := hw.2 c_4
        refine lv_iconst (v := 0) hx hb dXs_interruptResting_30 (by decide) ?_
        refine lv_istore_n (lv' := [(3, .int 0), (0, .ref (q 0)), (1, .int x1), (2, .int x2)]) hx hb dXs_interruptResting_31 rfl hl (by decide) rfl (fun ls hl => ?_)
        refine lv_iload_n hx hb dXs_interruptResting_32 rfl (lv_at hl 0 rfl) ?_
        refine lv_if_eq (tgt := 55) hx hb dXs_interruptResting_33 (by decide) (fun c_5 => ?_) (fun c_5 => absurd c_5 (by decide))
        · skip
          obtain ⟨x2_6, ex2_6⟩ : ∃ y : Int32, y = x2 + 1 := ⟨_, rfl⟩
          have hw := hw x2_6 ex2_6
          refine lv_iinc (v := x2_6) (lv' := [(2, .int x2_6), (3, .int 0), (0, .ref (q 0)), (1, .int x1)]) hx hb dXs_interruptResting_55 hl (k := 3) rfl (by rw [ex2_6]; rfl) (by decide) rfl (fun ls hl => ?_)
          refine lv_goto (tgt := 2) hx hb dXs_interruptResting_58 (by decide) ?_
          exact ih2 x1 x2_6 M _ _ _ hw hP hD hS (lv_sub hl [2, 3, 0] rfl)
      · have hw := hw.1 c_4
        refine lv_aload_n hx hb dXs_interruptResting_17 rfl (lv_at hl 0 rfl) ?_
        refine va_get (D := (dC, dI)) (ci := 0) (v := .ref (q 22)) (C := "ServiceThreads") (T := TXs) (N := 14) hx hb hta inXs hown hK hP 0 (wX_0 q dA M) rfl 7 (by decide) (hta _ wt_125) (fun _ h9 => h9) rfl dXs_interruptResting_18 ?_
        refine lv_iload_n hx hb dXs_interruptResting_21 rfl (lv_at hl 2 rfl) ?_
        obtain ⟨h_7, hw⟩ := hw
        refine ro_i (w := (wX q dA)) (M := M) hx hb hK hP 22 17 (wX_22 q dA M) rfl h_7 dXs_interruptResting_22 (fun y_8 ey_8 => ?_)
        have hw := hw y_8 ey_8
        refine lv_if_le (tgt := 30) hx hb dXs_interruptResting_23 (by decide) (fun c_9 => ?_) (fun c_9 => ?_)
        · have hw := hw.1 c_9
          refine lv_iconst (v := 0) hx hb dXs_interruptResting_30 (by decide) ?_
          refine lv_istore_n (lv' := [(3, .int 0), (0, .ref (q 0)), (1, .int x1), (2, .int x2)]) hx hb dXs_interruptResting_31 rfl hl (by decide) rfl (fun ls hl => ?_)
          refine lv_iload_n hx hb dXs_interruptResting_32 rfl (lv_at hl 0 rfl) ?_
          refine lv_if_eq (tgt := 55) hx hb dXs_interruptResting_33 (by decide) (fun c_10 => ?_) (fun c_10 => absurd c_10 (by decide))
          · skip
            obtain ⟨x2_11, ex2_11⟩ : ∃ y : Int32, y = x2 + 1 := ⟨_, rfl⟩
            have hw := hw x2_11 ex2_11
            refine lv_iinc (v := x2_11) (lv' := [(2, .int x2_11), (3, .int 0), (0, .ref (q 0)), (1, .int x1)]) hx hb dXs_interruptResting_55 hl (k := 3) rfl (by rw [ex2_11]; rfl) (by decide) rfl (fun ls hl => ?_)
            refine lv_goto (tgt := 2) hx hb dXs_interruptResting_58 (by decide) ?_
            exact ih2 x1 x2_11 M _ _ _ hw hP hD hS (lv_sub hl [2, 3, 0] rfl)
        · have hw := hw.2 c_9
          refine lv_iconst (v := 1) hx hb dXs_interruptResting_26 (by decide) ?_
          refine lv_goto (tgt := 31) hx hb dXs_interruptResting_27 (by decide) ?_
          refine lv_istore_n (lv' := [(3, .int 1), (0, .ref (q 0)), (1, .int x1), (2, .int x2)]) hx hb dXs_interruptResting_31 rfl hl (by decide) rfl (fun ls hl => ?_)
          refine lv_iload_n hx hb dXs_interruptResting_32 rfl (lv_at hl 0 rfl) ?_
          refine lv_if_eq (tgt := 55) hx hb dXs_interruptResting_33 (by decide) (fun c_12 => absurd c_12 (by decide)) (fun c_12 => ?_)
          · skip
            refine lv_iload_n hx hb dXs_interruptResting_36 rfl (lv_at hl 2 rfl) ?_
            refine lv_aload_n hx hb dXs_interruptResting_37 rfl (lv_at hl 1 rfl) ?_
            refine va_get (D := (dC, dI)) (ci := 0) (v := .ref (q 3)) (C := "ServiceThreads") (T := TXs) (N := 14) hx hb hta inXs hown hK hP 0 (wX_0 q dA M) rfl 2 (by decide) (hta _ wt_120) (fun _ h9 => h9) rfl dXs_interruptResting_38 ?_
            refine lv_iload_n hx hb dXs_interruptResting_41 rfl (lv_at hl 3 rfl) ?_
            refine cn_i (w := (wX q dA)) (M := M) (wX_ad q dA) (va_runV (As := [.int x2]) (rest := [.int x1]) ⟨hx, hb, hml, hown, hta⟩ (mtXc_highestOpenRankOf l dC dI q dA H.size x2 M _ hw) (cwV 1 hta (giV wt_362 wt_363 wt_364 wt_5 wt_365) rfl rfl rfl (by decide +kernel) ⟨Nat.le_of_ble_eq_true rfl, Nat.le_of_ble_eq_true rfl⟩) ⟨pW_blind, va_recv hK hP (ci := 3) (q0 := 3) rfl (wX_3 q dA M), pW_of hK hP hD⟩ rfl rfl hl.1 rfl (lv_room (Nat.le_of_ble_eq_true rfl)) dXs_interruptResting_42 ⟨Nat.le_of_ble_eq_true rfl, Nat.le_of_ble_eq_true rfl⟩) hD hS hA (fun r_13 M_14 H locs hw hP hD hS => ?_)
            refine lv_icmp_le (tgt := 55) hx hb dXs_interruptResting_45 (by decide) (fun c_15 => ?_) (fun c_15 => ?_)
            · have hw := hw.1 c_15
              obtain ⟨x2_16, ex2_16⟩ : ∃ y : Int32, y = x2 + 1 := ⟨_, rfl⟩
              have hw := hw x2_16 ex2_16
              refine lv_iinc (v := x2_16) (lv' := [(2, .int x2_16), (3, .int 1), (0, .ref (q 0)), (1, .int x1)]) hx hb dXs_interruptResting_55 hl (k := 3) rfl (by rw [ex2_16]; rfl) (by decide) rfl (fun ls hl => ?_)
              refine lv_goto (tgt := 2) hx hb dXs_interruptResting_58 (by decide) ?_
              exact ih2 x1 x2_16 M_14 _ _ _ hw hP hD hS (lv_sub hl [2, 3, 0] rfl)
            · have hw := hw.2 c_15
              refine lv_aload_n hx hb dXs_interruptResting_48 rfl (lv_at hl 1 rfl) ?_
              refine va_get (D := (dC, dI)) (ci := 0) (v := .ref (q 25)) (C := "ServiceThreads") (T := TXs) (N := 14) hx hb hta inXs hown hK hP 0 (wX_0 q dA M_14) rfl 10 (by decide) (hta _ wt_128) (fun _ h9 => h9) rfl dXs_interruptResting_49 ?_
              refine lv_iload_n hx hb dXs_interruptResting_52 rfl (lv_at hl 3 rfl) ?_
              refine lv_iconst (v := 1) hx hb dXs_interruptResting_53 (by decide) ?_
              obtain ⟨h_17, hw⟩ := hw
              refine wo_z (w := (wX q dA)) (M := M_14) hx hb hK hP hD hS 25 20 (wX_25 q dA M_14) (wX_s25 q dA M_14) rfl (by decide) h_17 dXs_interruptResting_54 (fun M_18 H locs eM_18 hP hD hS => ?_)
              have hw := hw M_18 eM_18
              obtain ⟨x2_19, ex2_19⟩ : ∃ y : Int32, y = x2 + 1 := ⟨_, rfl⟩
              have hw := hw x2_19 ex2_19
              refine lv_iinc (v := x2_19) (lv' := [(2, .int x2_19), (3, .int 1), (0, .ref (q 0)), (1, .int x1)]) hx hb dXs_interruptResting_55 hl (k := 3) rfl (by rw [ex2_19]; rfl) (by decide) rfl (fun ls hl => ?_)
              refine lv_goto (tgt := 2) hx hb dXs_interruptResting_58 (by decide) ?_
              exact ih2 x1 x2_19 M_18 _ _ _ hw hP hD hS (lv_sub hl [2, 3, 0] rfl)
set_option maxHeartbeats 4000000 in
set_option maxRecDepth 100000 in
theorem mtXs_interruptResting (l : Launch) (dC : Nat → ClassId) (dI : Nat → Nat → Nat) (q : Nat → Nat) (dA : Nat → ClassId) (sz : Nat) (p0 : Int32) (M : Mm) (post : Mm → Prop) (hw : wpXs_interruptResting p0 M post) : Met l yXs_interruptResting (wsA yXs_interruptResting cXs_interruptResting 4 none) ({ frames := 3, cells := 0, slots := 0, locals := 66 }) (va_Pc [.ref (q 0), .int p0] (pW (dC, dI) vwCl (wX q dA) (tX dA) sz M)) (va_Qv post (bW (dC, dI) vwCl (wX q dA) (tX dA) (va_A (wX q dA M) sz)) (va_A (wX q dA M) sz)) 0 0 (va_A (wX q dA M) sz) := by
  refine Met.ofW (cc := cXs_interruptResting) (maxL := 4) (ret := none) (by decide) rfl ?_
  intro p e s m args below meth c s₁ B hml hv
  obtain ⟨rfl, hsz, hP, hK, hD0⟩ := hv
  have hx := B.exec
  have hb := B.bytes
  have hr := B.returns
  have hts := atoms_spec (ws := (wsA yXs_interruptResting cXs_interruptResting 4 none)) B.pre
  have hta : ∀ w ∈ wsG, w.before _ s = true := fun w h => hts w (List.mem_cons_of_mem _ h)
  have hown : s.vm.findClass "ServiceThreads" = some m.cls := findClass_of_methodNamed B.named
  have hlocks := B.notSynchronized
  subst hsz
  have hD := hD0.self (sz := s.heap.size)
  generalize hAe : va_A (wX q dA M) s.heap.size = A at hD ⊢
  have hA : ∀ q : Nat, s.heap.size ≤ q → A q := fun q h => by rw [← hAe]; exact Or.inr h
  have hS : va_S A s.heap s.heap [] := va_S.rf
  dsimp only [wpXs_interruptResting] at hw
  have hl := lv_entry ([.ref (q 0), .int p0]) (n := 4) (Nat.le_of_ble_eq_true rfl)
  rw [lg_entry_eq]
  generalize (lg_sl ([.ref (q 0), .int p0]) ++ List.replicate (4 - (lg_sl ([.ref (q 0), .int p0])).length) Slot.unset).toArray = ls at hl ⊢
  have hl : lv_has ls 4 [(0, .ref (q 0)), (1, .int p0)] := hl
  refine lv_iconst (v := 0) hx hb dXs_interruptResting_0 (by decide) ?_
  refine lv_istore_n (lv' := [(2, .int 0), (0, .ref (q 0)), (1, .int p0)]) hx hb dXs_interruptResting_1 rfl hl (by decide) rfl (fun ls hl => ?_)
  obtain ⟨n2, hw⟩ := hw
  exact LwlXs_interruptResting_2 (A := A) (av := [.ref (q 0), .int p0]) ⟨hx, hb, hr, hml, hown, hta, hA, hK, hlocks⟩ n2 p0 0 M _ _ _ hw hP hD hS (lv_sub hl [1, 2, 0] rfl)
def wpXs_call (p0 : Int32) (M : Mm) (post : Int32 → Mm → Prop) (px : Nat → Mm → Prop) : Prop := ((p0 < 0 → (px 1 M)) ∧ (¬ p0 < 0 → (((p0 ≤ 3 → (wpXc_isFull M (fun r_3 M_4 => (((r_3 = 0 → (wpXs_interruptResting p0 M_4 (fun M_7 => (wpXc_add p0 M_7 (fun r_8 M_9 => (post r_8 M_9)))))) ∧ (¬ r_3 = 0 → (px 3 M_4))))))) ∧ (¬ p0 ≤ 3 → (px 1 M))))))
set_option maxHeartbeats 4000000 in
set_option maxRecDepth 100000 in
theorem mtnXs_call (l : Launch) (dC : Nat → ClassId) (dI : Nat → Nat → Nat) (q : Nat → Nat) (dA : Nat → ClassId) (sz : Nat) (p0 : Int32) (M : Mm) (post : Int32 → Mm → Prop) (hw : wpXs_call p0 M post (fun _ _ => False)) : Met l yXs_call (wsA yXs_call cXs_call 2 (some .int)) ({ frames := 4, cells := 0, slots := 0, locals := 89 }) (va_Pc [.ref (q 0), .int p0] (pW (dC, dI) vwCl (wX q dA) (tX dA) sz M)) (va_Qi post (bW (dC, dI) vwCl (wX q dA) (tX dA) (va_A (wX q dA M) sz)) (va_A (wX q dA M) sz)) 0 0 (va_A (wX q dA M) sz) := by
  refine Met.ofW (cc := cXs_call) (maxL := 2) (ret := (some .int)) (by decide) rfl ?_
  intro p e s m args below meth c s₁ B hml hv
  obtain ⟨rfl, hsz, hP, hK, hD0⟩ := hv
  have hx := B.exec
  have hb := B.bytes
  have hr := B.returns
  have hts := atoms_spec (ws := (wsA yXs_call cXs_call 2 (some .int))) B.pre
  have hta : ∀ w ∈ wsG, w.before _ s = true := fun w h => hts w (List.mem_cons_of_mem _ h)
  have hown : s.vm.findClass "ServiceThreads" = some m.cls := findClass_of_methodNamed B.named
  have hlocks := B.notSynchronized
  subst hsz
  have hD := hD0.self (sz := s.heap.size)
  generalize hAe : va_A (wX q dA M) s.heap.size = A at hD ⊢
  have hA : ∀ q : Nat, s.heap.size ≤ q → A q := fun q h => by rw [← hAe]; exact Or.inr h
  have hS : va_S A s.heap s.heap [] := va_S.rf
  dsimp only [wpXs_call] at hw
  have hl := lv_entry ([.ref (q 0), .int p0]) (n := 2) (Nat.le_of_ble_eq_true rfl)
  rw [lg_entry_eq]
  generalize (lg_sl ([.ref (q 0), .int p0]) ++ List.replicate (2 - (lg_sl ([.ref (q 0), .int p0])).length) Slot.unset).toArray = ls at hl ⊢
  have hl : lv_has ls 2 [(0, .ref (q 0)), (1, .int p0)] := hl
  refine lv_iload_n hx hb dXs_call_0 rfl (lv_at hl 1 rfl) ?_
  refine lv_if_lt (tgt := 9) hx hb dXs_call_1 (by decide) (fun c_1 => ?_) (fun c_1 => ?_)
  · have hw := hw.1 c_1
    exact False.elim hw
  · have hw := hw.2 c_1
    refine lv_iload_n hx hb dXs_call_4 rfl (lv_at hl 1 rfl) ?_
    refine lv_iconst (v := 3) hx hb dXs_call_5 (by decide) ?_
    refine lv_icmp_le (tgt := 19) hx hb dXs_call_6 (by decide) (fun c_2 => ?_) (fun c_2 => ?_)
    · have hw := hw.1 c_2
      refine lv_aload_n hx hb dXs_call_19 rfl (lv_at hl 0 rfl) ?_
      refine va_get (D := (dC, dI)) (ci := 0) (v := .ref (q 3)) (C := "ServiceThreads") (T := TXs) (N := 14) hx hb hta inXs hown hK hP 0 (wX_0 q dA M) rfl 2 (by decide) (hta _ wt_120) (fun _ h9 => h9) rfl dXs_call_20 ?_
      refine cn_i (w := (wX q dA)) (M := M) (wX_ad q dA) (va_runV (As := []) (rest := []) ⟨hx, hb, hml, hown, hta⟩ (mtXc_isFull l dC dI q dA s.heap.size M _ hw) (cwV 0 hta (giV wt_353 wt_354 wt_355 wt_5 wt_356) rfl rfl rfl (by decide +kernel) ⟨Nat.le_of_ble_eq_true rfl, Nat.le_of_ble_eq_true rfl⟩) ⟨pW_blind, va_recv hK hP (ci := 3) (q0 := 3) rfl (wX_3 q dA M), pW_of hK hP hD⟩ rfl rfl hl.1 rfl (lv_room (Nat.le_of_ble_eq_true rfl)) dXs_call_23 ⟨Nat.le_of_ble_eq_true rfl, Nat.le_of_ble_eq_true rfl⟩) hD hS hA (fun r_3 M_4 H locs hw hP hD hS => ?_)
      refine lv_if_eq (tgt := 39) hx hb dXs_call_26 (by decide) (fun c_5 => ?_) (fun c_5 => ?_)
      · have hw := hw.1 c_5
        refine lv_aload_n hx hb dXs_call_39 rfl (lv_at hl 0 rfl) ?_
        refine lv_iload_n hx hb dXs_call_40 rfl (lv_at hl 1 rfl) ?_
        refine cn_v (w := (wX q dA)) (M := M_4) (wX_ad q dA) (va_runV (As := [.int p0]) (rest := []) ⟨hx, hb, hml, hown, hta⟩ (mtXs_interruptResting l dC dI q dA H.size p0 M_4 _ hw) (cwV 1 hta (giV wt_358 wt_360 ws_3 wt_1 wt_361) rfl rfl rfl (by decide +kernel) ⟨Nat.le_of_ble_eq_true rfl, Nat.le_of_ble_eq_true rfl⟩) ⟨pW_blind, va_recv hK hP (ci := 0) (q0 := 0) rfl (wX_0 q dA M_4), pW_of hK hP hD⟩ rfl rfl hl.1 rfl (lv_room (Nat.le_of_ble_eq_true rfl)) dXs_call_41 ⟨Nat.le_of_ble_eq_true rfl, Nat.le_of_ble_eq_true rfl⟩) hD hS hA (fun M_7 H locs hw hP hD hS => ?_)
        refine lv_aload_n hx hb dXs_call_44 rfl (lv_at hl 0 rfl) ?_
        refine va_get (D := (dC, dI)) (ci := 0) (v := .ref (q 3)) (C := "ServiceThreads") (T := TXs) (N := 14) hx hb hta inXs hown hK hP 0 (wX_0 q dA M_7) rfl 2 (by decide) (hta _ wt_120) (fun _ h9 => h9) rfl dXs_call_45 ?_
        refine lv_iload_n hx hb dXs_call_48 rfl (lv_at hl 1 rfl) ?_
        refine cn_i (w := (wX q dA)) (M := M_7) (wX_ad q dA) (va_runV (As := [.int p0]) (rest := []) ⟨hx, hb, hml, hown, hta⟩ (mtXc_add l dC dI q dA H.size p0 M_7 _ hw) (cwV 1 hta (giV wt_369 wt_370 wt_371 wt_5 wt_372) rfl rfl rfl (by decide +kernel) ⟨Nat.le_of_ble_eq_true rfl, Nat.le_of_ble_eq_true rfl⟩) ⟨pW_blind, va_recv hK hP (ci := 3) (q0 := 3) rfl (wX_3 q dA M_7), pW_of hK hP hD⟩ rfl rfl hl.1 rfl (lv_room (Nat.le_of_ble_eq_true rfl)) dXs_call_49 ⟨Nat.le_of_ble_eq_true rfl, Nat.le_of_ble_eq_true rfl⟩) hD hS hA (fun r_8 M_9 H locs hw hP hD hS => ?_)
        exact W.iret (v := r_8) hx hb hr (fun t ht hW => ⟨⟨r_8, M_9, rfl, hw, by rw [ht]; exact hP, va_K.moved hW.alike hK, hD⟩, hS.F ht⟩) hS.2.2 dXs_call_52 hlocks
      · have hw := hw.2 c_5
        exact False.elim hw
    · have hw := hw.2 c_2
      exact False.elim hw
set_option maxHeartbeats 4000000 in
set_option maxRecDepth 100000 in
theorem mtXs_call (l : Launch) (hl9 : l.stackTraces = false) (dC : Nat → ClassId) (dI : Nat → Nat → Nat) (q : Nat → Nat) (dA : Nat → ClassId) (sz : Nat) (p0 : Int32) (M : Mm) (post : Int32 → Mm → Prop) (px : Nat → Mm → Prop) (hw : wpXs_call p0 M post px) : vx_Met l yXs_call (wsA yXs_call cXs_call 2 (some .int)) ({ frames := 6, cells := 1, slots := 6, locals := 89 }) (va_Pc [.ref (q 0), .int p0] (pWx (dC, dI) vwCl (wX q dA) (tX dA) sX sz M)) (va_Qi post (bW (dC, dI) vwCl (wX q dA) (tX dA) (va_A (wX q dA M) sz)) (va_A (wX q dA M) sz)) (vx_X (fun u : Nat × Mm => px u.1 u.2) (xW (dC, dI) vwCl (wX q dA) (tX dA) (va_A (wX q dA M) sz)) (va_A (wX q dA M) sz)) 1 6 (va_A (wX q dA M) sz) := by
  refine vx_ofW (cc := cXs_call) (maxL := 2) (ret := (some .int)) (by decide) rfl ?_
  intro p e s m args below meth c s₁ B hml hEx hv
  obtain ⟨rfl, hsz, hP, hK, hD0, hZ, hsp⟩ := hv
  have hx := B.exec
  have hb := B.bytes
  have hr := B.returns
  have hts := atoms_spec (ws := (wsA yXs_call cXs_call 2 (some .int))) B.pre
  have hta : ∀ w ∈ wsG, w.before _ s = true := fun w h => hts w (List.mem_cons_of_mem _ h)
  have hown : s.vm.findClass "ServiceThreads" = some m.cls := findClass_of_methodNamed B.named
  have hlocks := B.notSynchronized
  subst hsz
  have hD := hD0.self (sz := s.heap.size)
  generalize hAe : va_A (wX q dA M) s.heap.size = A at hD hZ ⊢
  have hA : ∀ q : Nat, s.heap.size ≤ q → A q := fun q h => by rw [← hAe]; exact Or.inr h
  have hS : va_S A s.heap s.heap [] := va_S.rf
  dsimp only [wpXs_call] at hw
  have hl := lv_entry ([.ref (q 0), .int p0]) (n := 2) (Nat.le_of_ble_eq_true rfl)
  rw [lg_entry_eq]
  generalize (lg_sl ([.ref (q 0), .int p0]) ++ List.replicate (2 - (lg_sl ([.ref (q 0), .int p0])).length) Slot.unset).toArray = ls at hl ⊢
  have hl : lv_has ls 2 [(0, .ref (q 0)), (1, .int p0)] := hl
  refine lv_iload_n hx hb dXs_call_0 rfl (lv_at hl 1 rfl) ?_
  refine lv_if_lt (tgt := 9) hx hb dXs_call_1 (by decide) (fun c_1 => ?_) (fun c_1 => ?_)
  · have hw := hw.1 c_1
    obtain ⟨sa9, hsa9⟩ := sX_s6 hsp
    exact vx_throwS (own := "ServiceThreads") (cls := "java/lang/IndexOutOfBoundsException") (names := ["java/lang/RuntimeException", "java/lang/Exception"]) hx hb hl9 hown (by decide +kernel) (by decide +kernel) (hta _ wt_269) (hta _ wt_12) hsa9 (vx_hat (L := vx_atS "ServiceThreads" 85 "java/lang/IndexOutOfBoundsException" ["java/lang/RuntimeException", "java/lang/Exception"]) (B := [.castable "java/lang/IndexOutOfBoundsException" "java/lang/IndexOutOfBoundsException", .declares ⟨"java/lang/RuntimeException", "<init>", "(Ljava/lang/String;)V"⟩, .declares ⟨"java/lang/Exception", "<init>", "(Ljava/lang/String;)V"⟩, .declares ⟨"java/lang/Throwable", "<init>", "(Ljava/lang/String;)V"⟩]) (fun w hw => hta w (vxw_2 w hw)) vxw_2b (vx_c (va_Nw.use rfl (sX_w5 hsp)) (vx_c (va_Nw.use rfl (sX_w1 hsp)) (vx_c (va_Nw.use rfl (sX_w2 hsp)) (vx_c (va_Nw.use rfl (sX_w3 hsp)) (vx_n)))))) vxw_2g hZ.1 hZ.2 hS (hl.1.trans hml.symm) dXs_call_9 dXs_call_12 dXs_call_13 dXs_call_15 dXs_call_18 (fun x hx => (hEx x hx).elim) (Nat.le_of_ble_eq_true rfl) (Nat.le_of_ble_eq_true rfl) (Nat.le_of_ble_eq_true rfl) (Nat.le_of_ble_eq_true rfl) hlocks (th_x (px := px) (k := 1) hP hK hD hS hw) hS.2.2 (Nat.le_of_ble_eq_true rfl) (Nat.le_of_ble_eq_true rfl)
  · have hw := hw.2 c_1
    refine lv_iload_n hx hb dXs_call_4 rfl (lv_at hl 1 rfl) ?_
    refine lv_iconst (v := 3) hx hb dXs_call_5 (by decide) ?_
    refine lv_icmp_le (tgt := 19) hx hb dXs_call_6 (by decide) (fun c_2 => ?_) (fun c_2 => ?_)
    · have hw := hw.1 c_2
      refine lv_aload_n hx hb dXs_call_19 rfl (lv_at hl 0 rfl) ?_
      refine va_get (D := (dC, dI)) (ci := 0) (v := .ref (q 3)) (C := "ServiceThreads") (T := TXs) (N := 14) hx hb hta inXs hown hK hP 0 (wX_0 q dA M) rfl 2 (by decide) (hta _ wt_120) (fun _ h9 => h9) rfl dXs_call_20 ?_
      refine cn_i (w := (wX q dA)) (M := M) (wX_ad q dA) (va_runV (As := []) (rest := []) ⟨hx, hb, hml, hown, hta⟩ (mtXc_isFull l dC dI q dA s.heap.size M _ hw) (cwV 0 hta (giV wt_353 wt_354 wt_355 wt_5 wt_356) rfl rfl rfl (by decide +kernel) ⟨Nat.le_of_ble_eq_true rfl, Nat.le_of_ble_eq_true rfl⟩) ⟨pW_blind, va_recv hK hP (ci := 3) (q0 := 3) rfl (wX_3 q dA M), pW_of hK hP hD⟩ rfl rfl hl.1 rfl (lv_room (Nat.le_of_ble_eq_true rfl)) dXs_call_23 ⟨Nat.le_of_ble_eq_true rfl, Nat.le_of_ble_eq_true rfl⟩) hD hS hA (fun r_3 M_4 H locs hw hP hD hS => ?_)
      refine lv_if_eq (tgt := 39) hx hb dXs_call_26 (by decide) (fun c_5 => ?_) (fun c_5 => ?_)
      · have hw := hw.1 c_5
        refine lv_aload_n hx hb dXs_call_39 rfl (lv_at hl 0 rfl) ?_
        refine lv_iload_n hx hb dXs_call_40 rfl (lv_at hl 1 rfl) ?_
        refine cn_v (w := (wX q dA)) (M := M_4) (wX_ad q dA) (va_runV (As := [.int p0]) (rest := []) ⟨hx, hb, hml, hown, hta⟩ (mtXs_interruptResting l dC dI q dA H.size p0 M_4 _ hw) (cwV 1 hta (giV wt_358 wt_360 ws_3 wt_1 wt_361) rfl rfl rfl (by decide +kernel) ⟨Nat.le_of_ble_eq_true rfl, Nat.le_of_ble_eq_true rfl⟩) ⟨pW_blind, va_recv hK hP (ci := 0) (q0 := 0) rfl (wX_0 q dA M_4), pW_of hK hP hD⟩ rfl rfl hl.1 rfl (lv_room (Nat.le_of_ble_eq_true rfl)) dXs_call_41 ⟨Nat.le_of_ble_eq_true rfl, Nat.le_of_ble_eq_true rfl⟩) hD hS hA (fun M_7 H locs hw hP hD hS => ?_)
        refine lv_aload_n hx hb dXs_call_44 rfl (lv_at hl 0 rfl) ?_
        refine va_get (D := (dC, dI)) (ci := 0) (v := .ref (q 3)) (C := "ServiceThreads") (T := TXs) (N := 14) hx hb hta inXs hown hK hP 0 (wX_0 q dA M_7) rfl 2 (by decide) (hta _ wt_120) (fun _ h9 => h9) rfl dXs_call_45 ?_
        refine lv_iload_n hx hb dXs_call_48 rfl (lv_at hl 1 rfl) ?_
        refine cn_i (w := (wX q dA)) (M := M_7) (wX_ad q dA) (va_runV (As := [.int p0]) (rest := []) ⟨hx, hb, hml, hown, hta⟩ (mtXc_add l dC dI q dA H.size p0 M_7 _ hw) (cwV 1 hta (giV wt_369 wt_370 wt_371 wt_5 wt_372) rfl rfl rfl (by decide +kernel) ⟨Nat.le_of_ble_eq_true rfl, Nat.le_of_ble_eq_true rfl⟩) ⟨pW_blind, va_recv hK hP (ci := 3) (q0 := 3) rfl (wX_3 q dA M_7), pW_of hK hP hD⟩ rfl rfl hl.1 rfl (lv_room (Nat.le_of_ble_eq_true rfl)) dXs_call_49 ⟨Nat.le_of_ble_eq_true rfl, Nat.le_of_ble_eq_true rfl⟩) hD hS hA (fun r_8 M_9 H locs hw hP hD hS => ?_)
        refine vx_ret ?_
        refine W.widen (k := 1) (n := 6) (Nat.le_of_ble_eq_true rfl) (Nat.le_of_ble_eq_true rfl) ?_
        exact W.iret (v := r_8) hx hb hr (fun t ht hW => ⟨⟨r_8, M_9, rfl, hw, by rw [ht]; exact hP, va_K.moved hW.alike hK, hD⟩, hS.F ht⟩) hS.2.2 dXs_call_52 hlocks
      · have hw := hw.2 c_5
        obtain ⟨sa9, hsa9⟩ := sX_s7 hsp
        exact vx_throwS (own := "ServiceThreads") (cls := "java/lang/UnsupportedOperationException") (names := ["java/lang/RuntimeException", "java/lang/Exception"]) hx hb hl9 hown (by decide +kernel) (by decide +kernel) (hta _ wt_309) (hta _ wt_14) hsa9 (vx_hat (L := vx_atS "ServiceThreads" 97 "java/lang/UnsupportedOperationException" ["java/lang/RuntimeException", "java/lang/Exception"]) (B := [.castable "java/lang/UnsupportedOperationException" "java/lang/UnsupportedOperationException", .declares ⟨"java/lang/RuntimeException", "<init>", "(Ljava/lang/String;)V"⟩, .declares ⟨"java/lang/Exception", "<init>", "(Ljava/lang/String;)V"⟩, .declares ⟨"java/lang/Throwable", "<init>", "(Ljava/lang/String;)V"⟩]) (fun w hw => hta w (vxw_3 w hw)) vxw_3b (vx_c (va_Nw.use rfl (sX_w6 hsp)) (vx_c (va_Nw.use rfl (sX_w1 hsp)) (vx_c (va_Nw.use rfl (sX_w2 hsp)) (vx_c (va_Nw.use rfl (sX_w3 hsp)) (vx_n)))))) vxw_3g hZ.1 hZ.2 hS (hl.1.trans hml.symm) dXs_call_29 dXs_call_32 dXs_call_33 dXs_call_35 dXs_call_38 (fun x hx => (hEx x hx).elim) (Nat.le_of_ble_eq_true rfl) (Nat.le_of_ble_eq_true rfl) (Nat.le_of_ble_eq_true rfl) (Nat.le_of_ble_eq_true rfl) hlocks (th_x (px := px) (k := 3) hP hK hD hS hw) hS.2.2 (Nat.le_of_ble_eq_true rfl) (Nat.le_of_ble_eq_true rfl)
    · have hw := hw.2 c_2
      obtain ⟨sa9, hsa9⟩ := sX_s6 hsp
      exact vx_throwS (own := "ServiceThreads") (cls := "java/lang/IndexOutOfBoundsException") (names := ["java/lang/RuntimeException", "java/lang/Exception"]) hx hb hl9 hown (by decide +kernel) (by decide +kernel) (hta _ wt_269) (hta _ wt_12) hsa9 (vx_hat (L := vx_atS "ServiceThreads" 85 "java/lang/IndexOutOfBoundsException" ["java/lang/RuntimeException", "java/lang/Exception"]) (B := [.castable "java/lang/IndexOutOfBoundsException" "java/lang/IndexOutOfBoundsException", .declares ⟨"java/lang/RuntimeException", "<init>", "(Ljava/lang/String;)V"⟩, .declares ⟨"java/lang/Exception", "<init>", "(Ljava/lang/String;)V"⟩, .declares ⟨"java/lang/Throwable", "<init>", "(Ljava/lang/String;)V"⟩]) (fun w hw => hta w (vxw_2 w hw)) vxw_2b (vx_c (va_Nw.use rfl (sX_w5 hsp)) (vx_c (va_Nw.use rfl (sX_w1 hsp)) (vx_c (va_Nw.use rfl (sX_w2 hsp)) (vx_c (va_Nw.use rfl (sX_w3 hsp)) (vx_n)))))) vxw_2g hZ.1 hZ.2 hS (hl.1.trans hml.symm) dXs_call_9 dXs_call_12 dXs_call_13 dXs_call_15 dXs_call_18 (fun x hx => (hEx x hx).elim) (Nat.le_of_ble_eq_true rfl) (Nat.le_of_ble_eq_true rfl) (Nat.le_of_ble_eq_true rfl) (Nat.le_of_ble_eq_true rfl) hlocks (th_x (px := px) (k := 1) hP hK hD hS hw) hS.2.2 (Nat.le_of_ble_eq_true rfl) (Nat.le_of_ble_eq_true rfl)
def wpXs_requireRunning (p0 : Int32) (M : Mm) (post : Mm → Prop) (px : Nat → Mm → Prop) : Prop := vp_in p0 8 ∧ (∀ y_2 : Int32, y_2 = M 14 p0.toNatClampNeg → (((y_2 = 0 → (post M)) ∧ (¬ y_2 = 0 → (px 2 M)))))
set_option maxHeartbeats 4000000 in
set_option maxRecDepth 100000 in
theorem mtnXs_requireRunning (l : Launch) (dC : Nat → ClassId) (dI : Nat → Nat → Nat) (q : Nat → Nat) (dA : Nat → ClassId) (sz : Nat) (p0 : Int32) (M : Mm) (post : Mm → Prop) (hw : wpXs_requireRunning p0 M post (fun _ _ => False)) : Met l yXs_requireRunning (wsA yXs_requireRunning cXs_requireRunning 2 none) ({ frames := 0, cells := 0, slots := 0, locals := 0 }) (va_Pc [.ref (q 0), .int p0] (pW (dC, dI) vwCl (wX q dA) (tX dA) sz M)) (va_Qv post (bW (dC, dI) vwCl (wX q dA) (tX dA) (va_A (wX q dA M) sz)) (va_A (wX q dA M) sz)) 0 0 (va_A (wX q dA M) sz) := by
  refine Met.ofW (cc := cXs_requireRunning) (maxL := 2) (ret := none) (by decide) rfl ?_
  intro p e s m args below meth c s₁ B hml hv
  obtain ⟨rfl, hsz, hP, hK, hD0⟩ := hv
  have hx := B.exec
  have hb := B.bytes
  have hr := B.returns
  have hts := atoms_spec (ws := (wsA yXs_requireRunning cXs_requireRunning 2 none)) B.pre
  have hta : ∀ w ∈ wsG, w.before _ s = true := fun w h => hts w (List.mem_cons_of_mem _ h)
  have hown : s.vm.findClass "ServiceThreads" = some m.cls := findClass_of_methodNamed B.named
  have hlocks := B.notSynchronized
  subst hsz
  have hD := hD0.self (sz := s.heap.size)
  generalize hAe : va_A (wX q dA M) s.heap.size = A at hD ⊢
  have hA : ∀ q : Nat, s.heap.size ≤ q → A q := fun q h => by rw [← hAe]; exact Or.inr h
  have hS : va_S A s.heap s.heap [] := va_S.rf
  dsimp only [wpXs_requireRunning] at hw
  have hl := lv_entry ([.ref (q 0), .int p0]) (n := 2) (Nat.le_of_ble_eq_true rfl)
  rw [lg_entry_eq]
  generalize (lg_sl ([.ref (q 0), .int p0]) ++ List.replicate (2 - (lg_sl ([.ref (q 0), .int p0])).length) Slot.unset).toArray = ls at hl ⊢
  have hl : lv_has ls 2 [(0, .ref (q 0)), (1, .int p0)] := hl
  refine lv_aload_n hx hb dXs_requireRunning_0 rfl (lv_at hl 0 rfl) ?_
  refine va_get (D := (dC, dI)) (ci := 0) (v := .ref (q 19)) (C := "ServiceThreads") (T := TXs) (N := 14) hx hb hta inXs hown hK hP 0 (wX_0 q dA M) rfl 4 (by decide) (hta _ wt_122) (fun _ h9 => h9) rfl dXs_requireRunning_1 ?_
  refine lv_iload_n hx hb dXs_requireRunning_4 rfl (lv_at hl 1 rfl) ?_
  obtain ⟨h_1, hw⟩ := hw
  refine ro_i (w := (wX q dA)) (M := M) hx hb hK hP 19 14 (wX_19 q dA M) rfl h_1 dXs_requireRunning_5 (fun y_2 ey_2 => ?_)
  have hw := hw y_2 ey_2
  refine lv_if_eq (tgt := 19) hx hb dXs_requireRunning_6 (by decide) (fun c_3 => ?_) (fun c_3 => ?_)
  · have hw := hw.1 c_3
    exact W.vret hx hb hr (fun t ht hW => ⟨⟨M, rfl, hw, by rw [ht]; exact hP, va_K.moved hW.alike hK, hD⟩, hS.F ht⟩) hS.2.2 dXs_requireRunning_19 hlocks
  · have hw := hw.2 c_3
    exact False.elim hw
set_option maxHeartbeats 4000000 in
set_option maxRecDepth 100000 in
theorem mtXs_requireRunning (l : Launch) (hl9 : l.stackTraces = false) (dC : Nat → ClassId) (dI : Nat → Nat → Nat) (q : Nat → Nat) (dA : Nat → ClassId) (sz : Nat) (p0 : Int32) (M : Mm) (post : Mm → Prop) (px : Nat → Mm → Prop) (hw : wpXs_requireRunning p0 M post px) : vx_Met l yXs_requireRunning (wsA yXs_requireRunning cXs_requireRunning 2 none) ({ frames := 6, cells := 1, slots := 6, locals := 82 }) (va_Pc [.ref (q 0), .int p0] (pWx (dC, dI) vwCl (wX q dA) (tX dA) sX sz M)) (va_Qv post (bW (dC, dI) vwCl (wX q dA) (tX dA) (va_A (wX q dA M) sz)) (va_A (wX q dA M) sz)) (vx_X (fun u : Nat × Mm => px u.1 u.2) (xW (dC, dI) vwCl (wX q dA) (tX dA) (va_A (wX q dA M) sz)) (va_A (wX q dA M) sz)) 1 6 (va_A (wX q dA M) sz) := by
  refine vx_ofW (cc := cXs_requireRunning) (maxL := 2) (ret := none) (by decide) rfl ?_
  intro p e s m args below meth c s₁ B hml hEx hv
  obtain ⟨rfl, hsz, hP, hK, hD0, hZ, hsp⟩ := hv
  have hx := B.exec
  have hb := B.bytes
  have hr := B.returns
  have hts := atoms_spec (ws := (wsA yXs_requireRunning cXs_requireRunning 2 none)) B.pre
  have hta : ∀ w ∈ wsG, w.before _ s = true := fun w h => hts w (List.mem_cons_of_mem _ h)
  have hown : s.vm.findClass "ServiceThreads" = some m.cls := findClass_of_methodNamed B.named
  have hlocks := B.notSynchronized
  subst hsz
  have hD := hD0.self (sz := s.heap.size)
  generalize hAe : va_A (wX q dA M) s.heap.size = A at hD hZ ⊢
  have hA : ∀ q : Nat, s.heap.size ≤ q → A q := fun q h => by rw [← hAe]; exact Or.inr h
  have hS : va_S A s.heap s.heap [] := va_S.rf
  dsimp only [wpXs_requireRunning] at hw
  have hl := lv_entry ([.ref (q 0), .int p0]) (n := 2) (Nat.le_of_ble_eq_true rfl)
  rw [lg_entry_eq]
  generalize (lg_sl ([.ref (q 0), .int p0]) ++ List.replicate (2 - (lg_sl ([.ref (q 0), .int p0])).length) Slot.unset).toArray = ls at hl ⊢
  have hl : lv_has ls 2 [(0, .ref (q 0)), (1, .int p0)] := hl
  refine lv_aload_n hx hb dXs_requireRunning_0 rfl (lv_at hl 0 rfl) ?_
  refine va_get (D := (dC, dI)) (ci := 0) (v := .ref (q 19)) (C := "ServiceThreads") (T := TXs) (N := 14) hx hb hta inXs hown hK hP 0 (wX_0 q dA M) rfl 4 (by decide) (hta _ wt_122) (fun _ h9 => h9) rfl dXs_requireRunning_1 ?_
  refine lv_iload_n hx hb dXs_requireRunning_4 rfl (lv_at hl 1 rfl) ?_
  obtain ⟨h_1, hw⟩ := hw
  refine ro_i (w := (wX q dA)) (M := M) hx hb hK hP 19 14 (wX_19 q dA M) rfl h_1 dXs_requireRunning_5 (fun y_2 ey_2 => ?_)
  have hw := hw y_2 ey_2
  refine lv_if_eq (tgt := 19) hx hb dXs_requireRunning_6 (by decide) (fun c_3 => ?_) (fun c_3 => ?_)
  · have hw := hw.1 c_3
    refine vx_ret ?_
    refine W.widen (k := 1) (n := 6) (Nat.le_of_ble_eq_true rfl) (Nat.le_of_ble_eq_true rfl) ?_
    exact W.vret hx hb hr (fun t ht hW => ⟨⟨M, rfl, hw, by rw [ht]; exact hP, va_K.moved hW.alike hK, hD⟩, hS.F ht⟩) hS.2.2 dXs_requireRunning_19 hlocks
  · have hw := hw.2 c_3
    obtain ⟨sa9, hsa9⟩ := sX_s8 hsp
    exact vx_throwS (own := "ServiceThreads") (cls := "java/lang/IllegalStateException") (names := ["java/lang/RuntimeException", "java/lang/Exception"]) hx hb hl9 hown (by decide +kernel) (by decide +kernel) (hta _ wt_289) (hta _ wt_13) hsa9 (vx_hat (L := vx_atS "ServiceThreads" 147 "java/lang/IllegalStateException" ["java/lang/RuntimeException", "java/lang/Exception"]) (B := [.castable "java/lang/IllegalStateException" "java/lang/IllegalStateException", .declares ⟨"java/lang/RuntimeException", "<init>", "(Ljava/lang/String;)V"⟩, .declares ⟨"java/lang/Exception", "<init>", "(Ljava/lang/String;)V"⟩, .declares ⟨"java/lang/Throwable", "<init>", "(Ljava/lang/String;)V"⟩]) (fun w hw => hta w (vxw_1 w hw)) vxw_1b (vx_c (va_Nw.use rfl (sX_w4 hsp)) (vx_c (va_Nw.use rfl (sX_w1 hsp)) (vx_c (va_Nw.use rfl (sX_w2 hsp)) (vx_c (va_Nw.use rfl (sX_w3 hsp)) (vx_n)))))) vxw_1g hZ.1 hZ.2 hS (hl.1.trans hml.symm) dXs_requireRunning_9 dXs_requireRunning_12 dXs_requireRunning_13 dXs_requireRunning_15 dXs_requireRunning_18 (fun x hx => (hEx x hx).elim) (Nat.le_of_ble_eq_true rfl) (Nat.le_of_ble_eq_true rfl) (Nat.le_of_ble_eq_true rfl) (Nat.le_of_ble_eq_true rfl) hlocks (th_x (px := px) (k := 2) hP hK hD hS hw) hS.2.2 (Nat.le_of_ble_eq_true rfl) (Nat.le_of_ble_eq_true rfl)
def wlXs_freeLocksThatAreDue_2 (post : Mm → Prop) : Nat → Int32 → Mm → Prop
  | 0, _ => fun _ => False
  | n2 + 1, x1 => fun M => ((8 ≤ x1 → (post M)) ∧ (¬ 8 ≤ x1 → (vp_in x1 8 ∧ (∀ y_3 : Int32, y_3 = M 14 x1.toNatClampNeg → (((y_3 = 2 → (∀ y_6 : Int32, y_6 = M 24 0 → (vp_in x1 8 ∧ (∀ y_8 : Int32, y_8 = M 19 x1.toNatClampNeg → (((y_6 < y_8 → (∀ x1_10 : Int32, x1_10 = x1 + 1 → (wlXs_freeLocksThatAreDue_2 post n2 x1_10 M))) ∧ (¬ y_6 < y_8 → (wpXu_freeAllOf x1 M (fun M_12 => (∀ x1_13 : Int32, x1_13 = x1 + 1 → (wlXs_freeLocksThatAreDue_2 post n2 x1_13 M_12))))))))))) ∧ (¬ y_3 = 2 → (∀ x1_5 : Int32, x1_5 = x1 + 1 → (wlXs_freeLocksThatAreDue_2 post n2 x1_5 M)))))))))
def wpXs_freeLocksThatAreDue (M : Mm) (post : Mm → Prop) : Prop := ∃ n2 : Nat, wlXs_freeLocksThatAreDue_2 post n2 0 M
set_option maxHeartbeats 4000000 in
set_option maxRecDepth 100000 in
theorem LwlXs_freeLocksThatAreDue_2 {p : Program} {l : Launch} {e : Env} {s : State} {m : MethodId} {below : List Frame} {meth : Method} {c : Code} {dC : Nat → ClassId} {dI : Nat → Nat → Nat} {q : Nat → Nat} {dA : Nat → ClassId} {A : Nat → Prop} {av : List Value} {post : Mm → Prop} (CX : p.tables.exec = Jvm.exec ∧ c.code = cXs_freeLocksThatAreDue ∧ meth.sig.returnType = none ∧ c.maxLocals = 2 ∧ s.vm.findClass "ServiceThreads" = some m.cls ∧ (∀ w ∈ wsG, w.before av.toArray s = true) ∧ (∀ q : Nat, s.heap.size ≤ q → A q) ∧ va_K (dC, dI) vwCl (tX dA) s ∧ meth.locks = false) : ∀ (n2 : Nat) (x1 : Int32) (M : Mm) (H : Heap) (locs : List Loc) (ls : Array Slot), wlXs_freeLocksThatAreDue_2 post n2 x1 M → va_P (dC, dI) vwCl (wX q dA M) H → va_D A (wX q dA M) → va_S A s.heap H locs → lv_has ls 2 [(0, .ref (q 0)), (1, .int x1)] → W p l e (headSpec (wsA yXs_freeLocksThatAreDue cXs_freeLocksThatAreDue 2 none) ({ frames := 1, cells := 0, slots := 0, locals := 22 })).room s m av.toArray below meth c H locs 0 0 (MQ below (va_Qv post (bW (dC, dI) vwCl (wX q dA) (tX dA) A) A) av.toArray s 0 0 A) (F0 m 2 ls []) := by
  obtain ⟨hx, hb, hr, hml, hown, hta, hA, hK, hlocks⟩ := CX
  intro n2
  induction n2 with
  | zero =>
    intro x1 M H locs ls hw
    exact False.elim hw
  | succ n2 ih2 =>
    intro x1 M H locs ls hw hP hD hS hl
    dsimp only [wlXs_freeLocksThatAreDue_2] at hw
    refine lv_iload_n hx hb dXs_freeLocksThatAreDue_2 rfl (lv_at hl 1 rfl) ?_
    refine lv_bipush (v := 8) hx hb dXs_freeLocksThatAreDue_3 (by decide) ?_
    refine lv_icmp_ge (tgt := 45) hx hb dXs_freeLocksThatAreDue_5 (by decide) (fun c_1 => ?_) (fun c_1 => ?_)
    · have hw := hw.1 c_1
      exact W.vret hx hb hr (fun t ht hW => ⟨⟨M, rfl, hw, by rw [ht]; exact hP, va_K.moved hW.alike hK, hD⟩, hS.F ht⟩) hS.2.2 dXs_freeLocksThatAreDue_45 hlocks
    · have hw := hw.2 c_1
      refine lv_aload_n hx hb dXs_freeLocksThatAreDue_8 rfl (lv_at hl 0 rfl) ?_
      refine va_get (D := (dC, dI)) (ci := 0) (v := .ref (q 19)) (C := "ServiceThreads") (T := TXs) (N := 14) hx hb hta inXs hown hK hP 0 (wX_0 q dA M) rfl 4 (by decide) (hta _ wt_122) (fun _ h9 => h9) rfl dXs_freeLocksThatAreDue_9 ?_
      refine lv_iload_n hx hb dXs_freeLocksThatAreDue_12 rfl (lv_at hl 1 rfl) ?_
      obtain ⟨h_2, hw⟩ := hw
      refine ro_i (w := (wX q dA)) (M := M) hx hb hK hP 19 14 (wX_19 q dA M) rfl h_2 dXs_freeLocksThatAreDue_13 (fun y_3 ey_3 => ?_)
      have hw := hw y_3 ey_3
      refine lv_iconst (v := 2) hx hb dXs_freeLocksThatAreDue_14 (by decide) ?_
      refine lv_icmp_ne (tgt := 39) hx hb dXs_freeLocksThatAreDue_15 (by decide) (fun c_4 => ?_) (fun c_4 => ?_)
      · have hw := hw.2 c_4
        obtain ⟨x1_5, ex1_5⟩ : ∃ y : Int32, y = x1 + 1 := ⟨_, rfl⟩
        have hw := hw x1_5 ex1_5
        refine lv_iinc (v := x1_5) (lv' := [(1, .int x1_5), (0, .ref (q 0))]) hx hb dXs_freeLocksThatAreDue_39 hl (k := 1) rfl (by rw [ex1_5]; rfl) (by decide) rfl (fun ls hl => ?_)
        refine lv_goto (tgt := 2) hx hb dXs_freeLocksThatAreDue_42 (by decide) ?_
        exact ih2 x1_5 M _ _ _ hw hP hD hS (lv_sub hl [1, 0] rfl)
      · have hw := hw.1 c_4
        refine lv_aload_n hx hb dXs_freeLocksThatAreDue_18 rfl (lv_at hl 0 rfl) ?_
        refine va_get (D := (dC, dI)) (ci := 0) (v := .int (M 24 0)) (C := "ServiceThreads") (T := TXs) (N := 14) hx hb hta inXs hown hK hP 0 (wX_0 q dA M) rfl 12 (by decide) (hta _ wt_130) (fun _ h9 => h9) rfl dXs_freeLocksThatAreDue_19 ?_
        refine lv_topi (fun y_6 ey_6 => ?_)
        have hw := hw y_6 ey_6
        refine lv_aload_n hx hb dXs_freeLocksThatAreDue_22 rfl (lv_at hl 0 rfl) ?_
        refine va_get (D := (dC, dI)) (ci := 0) (v := .ref (q 24)) (C := "ServiceThreads") (T := TXs) (N := 14) hx hb hta inXs hown hK hP 0 (wX_0 q dA M) rfl 9 (by decide) (hta _ wt_127) (fun _ h9 => h9) rfl dXs_freeLocksThatAreDue_23 ?_
        refine lv_iload_n hx hb dXs_freeLocksThatAreDue_26 rfl (lv_at hl 1 rfl) ?_
        obtain ⟨h_7, hw⟩ := hw
        refine ro_i (w := (wX q dA)) (M := M) hx hb hK hP 24 19 (wX_24 q dA M) rfl h_7 dXs_freeLocksThatAreDue_27 (fun y_8 ey_8 => ?_)
        have hw := hw y_8 ey_8
        refine lv_icmp_lt (tgt := 39) hx hb dXs_freeLocksThatAreDue_28 (by decide) (fun c_9 => ?_) (fun c_9 => ?_)
        · have hw := hw.1 c_9
          obtain ⟨x1_10, ex1_10⟩ : ∃ y : Int32, y = x1 + 1 := ⟨_, rfl⟩
          have hw := hw x1_10 ex1_10
          refine lv_iinc (v := x1_10) (lv' := [(1, .int x1_10), (0, .ref (q 0))]) hx hb dXs_freeLocksThatAreDue_39 hl (k := 1) rfl (by rw [ex1_10]; rfl) (by decide) rfl (fun ls hl => ?_)
          refine lv_goto (tgt := 2) hx hb dXs_freeLocksThatAreDue_42 (by decide) ?_
          exact ih2 x1_10 M _ _ _ hw hP hD hS (lv_sub hl [1, 0] rfl)
        · have hw := hw.2 c_9
          refine lv_aload_n hx hb dXs_freeLocksThatAreDue_31 rfl (lv_at hl 0 rfl) ?_
          refine va_get (D := (dC, dI)) (ci := 0) (v := .ref (q 2)) (C := "ServiceThreads") (T := TXs) (N := 14) hx hb hta inXs hown hK hP 0 (wX_0 q dA M) rfl 1 (by decide) (hta _ wt_119) (fun _ h9 => h9) rfl dXs_freeLocksThatAreDue_32 ?_
          refine lv_iload_n hx hb dXs_freeLocksThatAreDue_35 rfl (lv_at hl 1 rfl) ?_
          refine cn_v (w := (wX q dA)) (M := M) (wX_ad q dA) (va_runV (As := [.int x1]) (rest := []) ⟨hx, hb, hml, hown, hta⟩ (mtXu_freeAllOf l dC dI q dA H.size x1 M _ hw) (cwV 1 hta (giV wt_169 wt_170 wt_171 wt_4 wt_172) rfl rfl rfl (by decide +kernel) ⟨Nat.le_of_ble_eq_true rfl, Nat.le_of_ble_eq_true rfl⟩) ⟨pW_blind, va_recv hK hP (ci := 2) (q0 := 2) rfl (wX_2 q dA M), pW_of hK hP hD⟩ rfl rfl hl.1 rfl (lv_room (Nat.le_of_ble_eq_true rfl)) dXs_freeLocksThatAreDue_36 ⟨Nat.le_of_ble_eq_true rfl, Nat.le_of_ble_eq_true rfl⟩) hD hS hA (fun M_12 H locs hw hP hD hS => ?_)
          obtain ⟨x1_13, ex1_13⟩ : ∃ y : Int32, y = x1 + 1 := ⟨_, rfl⟩
          have hw := hw x1_13 ex1_13
          refine lv_iinc (v := x1_13) (lv' := [(1, .int x1_13), (0, .ref (q 0))]) hx hb dXs_freeLocksThatAreDue_39 hl (k := 1) rfl (by rw [ex1_13]; rfl) (by decide) rfl (fun ls hl => ?_)
          refine lv_goto (tgt := 2) hx hb dXs_freeLocksThatAreDue_42 (by decide) ?_
          exact ih2 x1_13 M_12 _ _ _ hw hP hD hS (lv_sub hl [1, 0] rfl)
set_option maxHeartbeats 4000000 in
set_option maxRecDepth 100000 in
theorem mtXs_freeLocksThatAreDue (l : Launch) (dC : Nat → ClassId) (dI : Nat → Nat → Nat) (q : Nat → Nat) (dA : Nat → ClassId) (sz : Nat) (M : Mm) (post : Mm → Prop) (hw : wpXs_freeLocksThatAreDue M post) : Met l yXs_freeLocksThatAreDue (wsA yXs_freeLocksThatAreDue cXs_freeLocksThatAreDue 2 none) ({ frames := 1, cells := 0, slots := 0, locals := 22 }) (va_Pc [.ref (q 0)] (pW (dC, dI) vwCl (wX q dA) (tX dA) sz M)) (va_Qv post (bW (dC, dI) vwCl (wX q dA) (tX dA) (va_A (wX q dA M) sz)) (va_A (wX q dA M) sz)) 0 0 (va_A (wX q dA M) sz) := by
  refine Met.ofW (cc := cXs_freeLocksThatAreDue) (maxL := 2) (ret := none) (by decide) rfl ?_
  intro p e s m args below meth c s₁ B hml hv
  obtain ⟨rfl, hsz, hP, hK, hD0⟩ := hv
  have hx := B.exec
  have hb := B.bytes
  have hr := B.returns
  have hts := atoms_spec (ws := (wsA yXs_freeLocksThatAreDue cXs_freeLocksThatAreDue 2 none)) B.pre
  have hta : ∀ w ∈ wsG, w.before _ s = true := fun w h => hts w (List.mem_cons_of_mem _ h)
  have hown : s.vm.findClass "ServiceThreads" = some m.cls := findClass_of_methodNamed B.named
  have hlocks := B.notSynchronized
  subst hsz
  have hD := hD0.self (sz := s.heap.size)
  generalize hAe : va_A (wX q dA M) s.heap.size = A at hD ⊢
  have hA : ∀ q : Nat, s.heap.size ≤ q → A q := fun q h => by rw [← hAe]; exact Or.inr h
  have hS : va_S A s.heap s.heap [] := va_S.rf
  dsimp only [wpXs_freeLocksThatAreDue] at hw
  have hl := lv_entry ([.ref (q 0)]) (n := 2) (Nat.le_of_ble_eq_true rfl)
  rw [lg_entry_eq]
  generalize (lg_sl ([.ref (q 0)]) ++ List.replicate (2 - (lg_sl ([.ref (q 0)])).length) Slot.unset).toArray = ls at hl ⊢
  have hl : lv_has ls 2 [(0, .ref (q 0))] := hl
  refine lv_iconst (v := 0) hx hb dXs_freeLocksThatAreDue_0 (by decide) ?_
  refine lv_istore_n (lv' := [(1, .int 0), (0, .ref (q 0))]) hx hb dXs_freeLocksThatAreDue_1 rfl hl (by decide) rfl (fun ls hl => ?_)
  obtain ⟨n2, hw⟩ := hw
  exact LwlXs_freeLocksThatAreDue_2 (A := A) (av := [.ref (q 0)]) ⟨hx, hb, hr, hml, hown, hta, hA, hK, hlocks⟩ n2 0 M _ _ _ hw hP hD hS (lv_sub hl [1, 0] rfl)
