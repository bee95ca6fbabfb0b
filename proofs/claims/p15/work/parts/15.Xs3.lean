def wpXs_lease (p0 : Int32) (M : Mm) (post : Mm → Prop) (px : Nat → Mm → Prop) : Prop := ((p0 < 0 → (px 1 M)) ∧ (¬ p0 < 0 → (((p0 ≤ 100 → (∀ M_3 : Mm, M_3 = stM M 25 (fun _ => p0) → (post M_3))) ∧ (¬ p0 ≤ 100 → (px 1 M))))))
set_option maxHeartbeats 4000000 in
set_option maxRecDepth 100000 in
theorem mtnXs_lease (l : Launch) (dC : Nat → ClassId) (dI : Nat → Nat → Nat) (q : Nat → Nat) (dA : Nat → ClassId) (sz : Nat) (p0 : Int32) (M : Mm) (post : Mm → Prop) (hw : wpXs_lease p0 M post (fun _ _ => False)) : Met l yXs_lease (wsA yXs_lease cXs_lease 2 none) ({ frames := 0, cells := 0, slots := 0, locals := 0 }) (va_Pc [.ref (q 0), .int p0] (pW (dC, dI) vwCl (wX q dA) (tX dA) sz M)) (va_Qv post (bW (dC, dI) vwCl (wX q dA) (tX dA) (va_A (wX q dA M) sz)) (va_A (wX q dA M) sz)) 0 0 (va_A (wX q dA M) sz) := by
  refine Met.ofW (cc := cXs_lease) (maxL := 2) (ret := none) (by decide) rfl ?_
  intro p e s m args below meth c s₁ B hml hv
  obtain ⟨rfl, hsz, hP, hK, hD0⟩ := hv
  have hx := B.exec
  have hb := B.bytes
  have hr := B.returns
  have hts := atoms_spec (ws := (wsA yXs_lease cXs_lease 2 none)) B.pre
  have hta : ∀ w ∈ wsG, w.before _ s = true := fun w h => hts w (List.mem_cons_of_mem _ h)
  have hown : s.vm.findClass "ServiceThreads" = some m.cls := findClass_of_methodNamed B.named
  have hlocks := B.notSynchronized
  subst hsz
  have hD := hD0.self (sz := s.heap.size)
  generalize hAe : va_A (wX q dA M) s.heap.size = A at hD ⊢
  have hA : ∀ q : Nat, s.heap.size ≤ q → A q := fun q h => by rw [← hAe]; exact Or.inr h
  have hS : va_S A s.heap s.heap [] := va_S.rf
  dsimp only [wpXs_lease] at hw
  have hl := lv_entry ([.ref (q 0), .int p0]) (n := 2) (Nat.le_of_ble_eq_true rfl)
  rw [lg_entry_eq]
  generalize (lg_sl ([.ref (q 0), .int p0]) ++ List.replicate (2 - (lg_sl ([.ref (q 0), .int p0])).length) Slot.unset).toArray = ls at hl ⊢
  have hl : lv_has ls 2 [(0, .ref (q 0)), (1, .int p0)] := hl
  refine lv_iload_n hx hb dXs_lease_0 rfl (lv_at hl 1 rfl) ?_
  refine lv_if_lt (tgt := 10) hx hb dXs_lease_1 (by decide) (fun c_1 => ?_) (fun c_1 => ?_)
  · have hw := hw.1 c_1
    exact False.elim hw
  · have hw := hw.2 c_1
    refine lv_iload_n hx hb dXs_lease_4 rfl (lv_at hl 1 rfl) ?_
    refine lv_bipush (v := 100) hx hb dXs_lease_5 (by decide) ?_
    refine lv_icmp_le (tgt := 20) hx hb dXs_lease_7 (by decide) (fun c_2 => ?_) (fun c_2 => ?_)
    · have hw := hw.1 c_2
      refine lv_aload_n hx hb dXs_lease_20 rfl (lv_at hl 0 rfl) ?_
      refine lv_iload_n hx hb dXs_lease_21 rfl (lv_at hl 1 rfl) ?_
      refine va_put (D := (dC, dI)) (ci := 0) (v := .int p0) (ty := .int) (C := "ServiceThreads") (T := TXs) (N := 14) hx hb hta inXs tyXs tyXs_ok nmXs hown hK hP hD hS 0 (wX_0 q dA M) rfl 13 (by decide) (hta _ wt_131) (fun _ h9 => h9) rfl (by decide +kernel) rfl rfl (Nat.le_of_ble_eq_true rfl) dXs_lease_22 (fun H locs hP hD hS => ?_)
      obtain ⟨M_3, eM_3⟩ : ∃ y : Mm, y = stM M 25 (fun _ => p0) := ⟨_, rfl⟩
      have hP : va_P (dC, dI) vwCl (wX q dA M_3) H := by rw [eM_3]; exact hP
      have hD : va_D A (wX q dA M_3) := by rw [eM_3]; exact hD
      have hw := hw M_3 eM_3
      exact W.vret hx hb hr (fun t ht hW => ⟨⟨M_3, rfl, hw, by rw [ht]; exact hP, va_K.moved hW.alike hK, hD⟩, hS.F ht⟩) hS.2.2 dXs_lease_25 hlocks
    · have hw := hw.2 c_2
      exact False.elim hw
set_option maxHeartbeats 4000000 in
set_option maxRecDepth 100000 in
theorem mtXs_lease (l : Launch) (hl9 : l.stackTraces = false) (dC : Nat → ClassId) (dI : Nat → Nat → Nat) (q : Nat → Nat) (dA : Nat → ClassId) (sz : Nat) (p0 : Int32) (M : Mm) (post : Mm → Prop) (px : Nat → Mm → Prop) (hw : wpXs_lease p0 M post px) : vx_Met l yXs_lease (wsA yXs_lease cXs_lease 2 none) ({ frames := 6, cells := 1, slots := 6, locals := 82 }) (va_Pc [.ref (q 0), .int p0] (pWx (dC, dI) vwCl (wX q dA) (tX dA) sX sz M)) (va_Qv post (bW (dC, dI) vwCl (wX q dA) (tX dA) (va_A (wX q dA M) sz)) (va_A (wX q dA M) sz)) (vx_X (fun u : Nat × Mm => px u.1 u.2) (xW (dC, dI) vwCl (wX q dA) (tX dA) (va_A (wX q dA M) sz)) (va_A (wX q dA M) sz)) 1 6 (va_A (wX q dA M) sz) := by
  refine vx_ofW (cc := cXs_lease) (maxL := 2) (ret := none) (by decide) rfl ?_
  intro p e s m args below meth c s₁ B hml hEx hv
  obtain ⟨rfl, hsz, hP, hK, hD0, hZ, hsp⟩ := hv
  have hx := B.exec
  have hb := B.bytes
  have hr := B.returns
  have hts := atoms_spec (ws := (wsA yXs_lease cXs_lease 2 none)) B.pre
  have hta : ∀ w ∈ wsG, w.before _ s = true := fun w h => hts w (List.mem_cons_of_mem _ h)
  have hown : s.vm.findClass "ServiceThreads" = some m.cls := findClass_of_methodNamed B.named
  have hlocks := B.notSynchronized
  subst hsz
  have hD := hD0.self (sz := s.heap.size)
  generalize hAe : va_A (wX q dA M) s.heap.size = A at hD hZ ⊢
  have hA : ∀ q : Nat, s.heap.size ≤ q → A q := fun q h => by rw [← hAe]; exact Or.inr h
  have hS : va_S A s.heap s.heap [] := va_S.rf
  dsimp only [wpXs_lease] at hw
  have hl := lv_entry ([.ref (q 0), .int p0]) (n := 2) (Nat.le_of_ble_eq_true rfl)
  rw [lg_entry_eq]
  generalize (lg_sl ([.ref (q 0), .int p0]) ++ List.replicate (2 - (lg_sl ([.ref (q 0), .int p0])).length) Slot.unset).toArray = ls at hl ⊢
  have hl : lv_has ls 2 [(0, .ref (q 0)), (1, .int p0)] := hl
  refine lv_iload_n hx hb dXs_lease_0 rfl (lv_at hl 1 rfl) ?_
  refine lv_if_lt (tgt := 10) hx hb dXs_lease_1 (by decide) (fun c_1 => ?_) (fun c_1 => ?_)
  · have hw := hw.1 c_1
    obtain ⟨sa9, hsa9⟩ := sX_s11 hsp
    exact vx_throwS (own := "ServiceThreads") (cls := "java/lang/IndexOutOfBoundsException") (names := ["java/lang/RuntimeException", "java/lang/Exception"]) hx hb hl9 hown (by decide +kernel) (by decide +kernel) (hta _ wt_269) (hta _ wt_12) hsa9 (vx_hat (L := vx_atS "ServiceThreads" 85 "java/lang/IndexOutOfBoundsException" ["java/lang/RuntimeException", "java/lang/Exception"]) (B := [.castable "java/lang/IndexOutOfBoundsException" "java/lang/IndexOutOfBoundsException", .declares ⟨"java/lang/RuntimeException", "<init>", "(Ljava/lang/String;)V"⟩, .declares ⟨"java/lang/Exception", "<init>", "(Ljava/lang/String;)V"⟩, .declares ⟨"java/lang/Throwable", "<init>", "(Ljava/lang/String;)V"⟩]) (fun w hw => hta w (vxw_2 w hw)) vxw_2b (vx_c (va_Nw.use rfl (sX_w5 hsp)) (vx_c (va_Nw.use rfl (sX_w1 hsp)) (vx_c (va_Nw.use rfl (sX_w2 hsp)) (vx_c (va_Nw.use rfl (sX_w3 hsp)) (vx_n)))))) vxw_2g hZ.1 hZ.2 hS (hl.1.trans hml.symm) dXs_lease_10 dXs_lease_13 dXs_lease_14 dXs_lease_16 dXs_lease_19 (fun x hx => (hEx x hx).elim) (Nat.le_of_ble_eq_true rfl) (Nat.le_of_ble_eq_true rfl) (Nat.le_of_ble_eq_true rfl) (Nat.le_of_ble_eq_true rfl) hlocks (th_x (px := px) (k := 1) hP hK hD hS hw) hS.2.2 (Nat.le_of_ble_eq_true rfl) (Nat.le_of_ble_eq_true rfl)
  · have hw := hw.2 c_1
    refine lv_iload_n hx hb dXs_lease_4 rfl (lv_at hl 1 rfl) ?_
    refine lv_bipush (v := 100) hx hb dXs_lease_5 (by decide) ?_
    refine lv_icmp_le (tgt := 20) hx hb dXs_lease_7 (by decide) (fun c_2 => ?_) (fun c_2 => ?_)
    · have hw := hw.1 c_2
      refine lv_aload_n hx hb dXs_lease_20 rfl (lv_at hl 0 rfl) ?_
      refine lv_iload_n hx hb dXs_lease_21 rfl (lv_at hl 1 rfl) ?_
      refine va_put (D := (dC, dI)) (ci := 0) (v := .int p0) (ty := .int) (C := "ServiceThreads") (T := TXs) (N := 14) hx hb hta inXs tyXs tyXs_ok nmXs hown hK hP hD hS 0 (wX_0 q dA M) rfl 13 (by decide) (hta _ wt_131) (fun _ h9 => h9) rfl (by decide +kernel) rfl rfl (Nat.le_of_ble_eq_true rfl) dXs_lease_22 (fun H locs hP hD hS => ?_)
      obtain ⟨M_3, eM_3⟩ : ∃ y : Mm, y = stM M 25 (fun _ => p0) := ⟨_, rfl⟩
      have hP : va_P (dC, dI) vwCl (wX q dA M_3) H := by rw [eM_3]; exact hP
      have hD : va_D A (wX q dA M_3) := by rw [eM_3]; exact hD
      have hw := hw M_3 eM_3
      refine vx_ret ?_
      refine W.widen (k := 1) (n := 6) (Nat.le_of_ble_eq_true rfl) (Nat.le_of_ble_eq_true rfl) ?_
      exact W.vret hx hb hr (fun t ht hW => ⟨⟨M_3, rfl, hw, by rw [ht]; exact hP, va_K.moved hW.alike hK, hD⟩, hS.F ht⟩) hS.2.2 dXs_lease_25 hlocks
    · have hw := hw.2 c_2
      obtain ⟨sa9, hsa9⟩ := sX_s11 hsp
      exact vx_throwS (own := "ServiceThreads") (cls := "java/lang/IndexOutOfBoundsException") (names := ["java/lang/RuntimeException", "java/lang/Exception"]) hx hb hl9 hown (by decide +kernel) (by decide +kernel) (hta _ wt_269) (hta _ wt_12) hsa9 (vx_hat (L := vx_atS "ServiceThreads" 85 "java/lang/IndexOutOfBoundsException" ["java/lang/RuntimeException", "java/lang/Exception"]) (B := [.castable "java/lang/IndexOutOfBoundsException" "java/lang/IndexOutOfBoundsException", .declares ⟨"java/lang/RuntimeException", "<init>", "(Ljava/lang/String;)V"⟩, .declares ⟨"java/lang/Exception", "<init>", "(Ljava/lang/String;)V"⟩, .declares ⟨"java/lang/Throwable", "<init>", "(Ljava/lang/String;)V"⟩]) (fun w hw => hta w (vxw_2 w hw)) vxw_2b (vx_c (va_Nw.use rfl (sX_w5 hsp)) (vx_c (va_Nw.use rfl (sX_w1 hsp)) (vx_c (va_Nw.use rfl (sX_w2 hsp)) (vx_c (va_Nw.use rfl (sX_w3 hsp)) (vx_n)))))) vxw_2g hZ.1 hZ.2 hS (hl.1.trans hml.symm) dXs_lease_10 dXs_lease_13 dXs_lease_14 dXs_lease_16 dXs_lease_19 (fun x hx => (hEx x hx).elim) (Nat.le_of_ble_eq_true rfl) (Nat.le_of_ble_eq_true rfl) (Nat.le_of_ble_eq_true rfl) (Nat.le_of_ble_eq_true rfl) hlocks (th_x (px := px) (k := 1) hP hK hD hS hw) hS.2.2 (Nat.le_of_ble_eq_true rfl) (Nat.le_of_ble_eq_true rfl)
def wlXs_close_4 (post : Int32 → Mm → Prop) : Nat → Int32 → Int32 → Mm → Prop
  | 0, _, _ => fun _ => False
  | n4 + 1, x1, x2 => fun M => ((8 ≤ x2 → (post x1 M)) ∧ (¬ 8 ≤ x2 → (vp_in x2 8 ∧ (∀ y_3 : Int32, y_3 = M 14 x2.toNatClampNeg → (((y_3 = 0 → (wpXs_end x2 M (fun M_13 => (wpXc_dropUnsentOf x2 M_13 (fun M_15 => (∀ x1_16 : Int32, x1_16 = x1 + 1 → (∀ x2_17 : Int32, x2_17 = x2 + 1 → (wlXs_close_4 post n4 x1_16 x2_17 M_15)))))))) ∧ (¬ y_3 = 0 → (vp_in x2 8 ∧ (∀ y_6 : Int32, y_6 = M 14 x2.toNatClampNeg → (((y_6 = 2 → (wpXu_freeAllOf x2 M (fun M_10 => (∀ x2_11 : Int32, x2_11 = x2 + 1 → (wlXs_close_4 post n4 x1 x2_11 M_10))))) ∧ (¬ y_6 = 2 → (∀ x2_8 : Int32, x2_8 = x2 + 1 → (wlXs_close_4 post n4 x1 x2_8 M))))))))))))))
def wpXs_close (M : Mm) (post : Int32 → Mm → Prop) : Prop := ∃ n4 : Nat, wlXs_close_4 post n4 0 0 M
set_option maxHeartbeats 4000000 in
set_option maxRecDepth 100000 in
theorem LwlXs_close_4 {p : Program} {l : Launch} {e : Env} {s : State} {m : MethodId} {below : List Frame} {meth : Method} {c : Code} {dC : Nat → ClassId} {dI : Nat → Nat → Nat} {q : Nat → Nat} {dA : Nat → ClassId} {A : Nat → Prop} {av : List Value} {post : Int32 → Mm → Prop} (CX : p.tables.exec = Jvm.exec ∧ c.code = cXs_close ∧ meth.sig.returnType = (some .int) ∧ c.maxLocals = 3 ∧ s.vm.findClass "ServiceThreads" = some m.cls ∧ (∀ w ∈ wsG, w.before av.toArray s = true) ∧ (∀ q : Nat, s.heap.size ≤ q → A q) ∧ va_K (dC, dI) vwCl (tX dA) s ∧ meth.locks = false) : ∀ (n4 : Nat) (x1 : Int32) (x2 : Int32) (M : Mm) (H : Heap) (locs : List Loc) (ls : Array Slot), wlXs_close_4 post n4 x1 x2 M → va_P (dC, dI) vwCl (wX q dA M) H → va_D A (wX q dA M) → va_S A s.heap H locs → lv_has ls 3 [(0, .ref (q 0)), (1, .int x1), (2, .int x2)] → W p l e (headSpec (wsA yXs_close cXs_close 3 (some .int)) ({ frames := 3, cells := 0, slots := 0, locals := 65 })).room s m av.toArray below meth c H locs 0 0 (MQ below (va_Qi post (bW (dC, dI) vwCl (wX q dA) (tX dA) A) A) av.toArray s 0 0 A) (F0 m 4 ls []) := by
  obtain ⟨hx, hb, hr, hml, hown, hta, hA, hK, hlocks⟩ := CX
  intro n4
  induction n4 with
  | zero =>
    intro x1 x2 M H locs ls hw
    exact False.elim hw
  | succ n4 ih4 =>
    intro x1 x2 M H locs ls hw hP hD hS hl
    dsimp only [wlXs_close_4] at hw
    refine lv_iload_n hx hb dXs_close_4 rfl (lv_at hl 2 rfl) ?_
    refine lv_bipush (v := 8) hx hb dXs_close_5 (by decide) ?_
    refine lv_icmp_ge (tgt := 62) hx hb dXs_close_7 (by decide) (fun c_1 => ?_) (fun c_1 => ?_)
    · have hw := hw.1 c_1
      refine lv_iload_n hx hb dXs_close_62 rfl (lv_at hl 1 rfl) ?_
      exact W.iret (v := x1) hx hb hr (fun t ht hW => ⟨⟨x1, M, rfl, hw, by rw [ht]; exact hP, va_K.moved hW.alike hK, hD⟩, hS.F ht⟩) hS.2.2 dXs_close_63 hlocks
    · have hw := hw.2 c_1
      refine lv_aload_n hx hb dXs_close_10 rfl (lv_at hl 0 rfl) ?_
      refine va_get (D := (dC, dI)) (ci := 0) (v := .ref (q 19)) (C := "ServiceThreads") (T := TXs) (N := 14) hx hb hta inXs hown hK hP 0 (wX_0 q dA M) rfl 4 (by decide) (hta _ wt_122) (fun _ h9 => h9) rfl dXs_close_11 ?_
      refine lv_iload_n hx hb dXs_close_14 rfl (lv_at hl 2 rfl) ?_
      obtain ⟨h_2, hw⟩ := hw
      refine ro_i (w := (wX q dA)) (M := M) hx hb hK hP 19 14 (wX_19 q dA M) rfl h_2 dXs_close_15 (fun y_3 ey_3 => ?_)
      have hw := hw y_3 ey_3
      refine lv_if_ne (tgt := 38) hx hb dXs_close_16 (by decide) (fun c_4 => ?_) (fun c_4 => ?_)
      · have hw := hw.2 c_4
        refine lv_aload_n hx hb dXs_close_38 rfl (lv_at hl 0 rfl) ?_
        refine va_get (D := (dC, dI)) (ci := 0) (v := .ref (q 19)) (C := "ServiceThreads") (T := TXs) (N := 14) hx hb hta inXs hown hK hP 0 (wX_0 q dA M) rfl 4 (by decide) (hta _ wt_122) (fun _ h9 => h9) rfl dXs_close_39 ?_
        refine lv_iload_n hx hb dXs_close_42 rfl (lv_at hl 2 rfl) ?_
        obtain ⟨h_5, hw⟩ := hw
        refine ro_i (w := (wX q dA)) (M := M) hx hb hK hP 19 14 (wX_19 q dA M) rfl h_5 dXs_close_43 (fun y_6 ey_6 => ?_)
        have hw := hw y_6 ey_6
        refine lv_iconst (v := 2) hx hb dXs_close_44 (by decide) ?_
        refine lv_icmp_ne (tgt := 56) hx hb dXs_close_45 (by decide) (fun c_7 => ?_) (fun c_7 => ?_)
        · have hw := hw.2 c_7
          obtain ⟨x2_8, ex2_8⟩ : ∃ y : Int32, y = x2 + 1 := ⟨_, rfl⟩
          have hw := hw x2_8 ex2_8
          refine lv_iinc (v := x2_8) (lv' := [(2, .int x2_8), (0, .ref (q 0)), (1, .int x1)]) hx hb dXs_close_56 hl (k := 2) rfl (by rw [ex2_8]; rfl) (by decide) rfl (fun ls hl => ?_)
          refine lv_goto (tgt := 4) hx hb dXs_close_59 (by decide) ?_
          exact ih4 x1 x2_8 M _ _ _ hw hP hD hS (lv_sub hl [1, 2, 0] rfl)
        · have hw := hw.1 c_7
          refine lv_aload_n hx hb dXs_close_48 rfl (lv_at hl 0 rfl) ?_
          refine va_get (D := (dC, dI)) (ci := 0) (v := .ref (q 2)) (C := "ServiceThreads") (T := TXs) (N := 14) hx hb hta inXs hown hK hP 0 (wX_0 q dA M) rfl 1 (by decide) (hta _ wt_119) (fun _ h9 => h9) rfl dXs_close_49 ?_
          refine lv_iload_n hx hb dXs_close_52 rfl (lv_at hl 2 rfl) ?_
          refine cn_v (w := (wX q dA)) (M := M) (wX_ad q dA) (va_runV (As := [.int x2]) (rest := []) ⟨hx, hb, hml, hown, hta⟩ (mtXu_freeAllOf l dC dI q dA H.size x2 M _ hw) (cwV 1 hta (giV wt_169 wt_170 wt_171 wt_4 wt_172) rfl rfl rfl (by decide +kernel) ⟨Nat.le_of_ble_eq_true rfl, Nat.le_of_ble_eq_true rfl⟩) ⟨pW_blind, va_recv hK hP (ci := 2) (q0 := 2) rfl (wX_2 q dA M), pW_of hK hP hD⟩ rfl rfl hl.1 rfl (lv_room (Nat.le_of_ble_eq_true rfl)) dXs_close_53 ⟨Nat.le_of_ble_eq_true rfl, Nat.le_of_ble_eq_true rfl⟩) hD hS hA (fun M_10 H locs hw hP hD hS => ?_)
          obtain ⟨x2_11, ex2_11⟩ : ∃ y : Int32, y = x2 + 1 := ⟨_, rfl⟩
          have hw := hw x2_11 ex2_11
          refine lv_iinc (v := x2_11) (lv' := [(2, .int x2_11), (0, .ref (q 0)), (1, .int x1)]) hx hb dXs_close_56 hl (k := 2) rfl (by rw [ex2_11]; rfl) (by decide) rfl (fun ls hl => ?_)
          refine lv_goto (tgt := 4) hx hb dXs_close_59 (by decide) ?_
          exact ih4 x1 x2_11 M_10 _ _ _ hw hP hD hS (lv_sub hl [1, 2, 0] rfl)
      · have hw := hw.1 c_4
        refine lv_aload_n hx hb dXs_close_19 rfl (lv_at hl 0 rfl) ?_
        refine lv_iload_n hx hb dXs_close_20 rfl (lv_at hl 2 rfl) ?_
        refine cn_v (w := (wX q dA)) (M := M) (wX_ad q dA) (va_runV (As := [.int x2]) (rest := []) ⟨hx, hb, hml, hown, hta⟩ (mtXs_end l dC dI q dA H.size x2 M _ hw) (cwV 1 hta (giV wt_165 wt_167 ws_0 wt_1 wt_168) rfl rfl rfl (by decide +kernel) ⟨Nat.le_of_ble_eq_true rfl, Nat.le_of_ble_eq_true rfl⟩) ⟨pW_blind, va_recv hK hP (ci := 0) (q0 := 0) rfl (wX_0 q dA M), pW_of hK hP hD⟩ rfl rfl hl.1 rfl (lv_room (Nat.le_of_ble_eq_true rfl)) dXs_close_21 ⟨Nat.le_of_ble_eq_true rfl, Nat.le_of_ble_eq_true rfl⟩) hD hS hA (fun M_13 H locs hw hP hD hS => ?_)
        refine lv_aload_n hx hb dXs_close_24 rfl (lv_at hl 0 rfl) ?_
        refine va_get (D := (dC, dI)) (ci := 0) (v := .ref (q 3)) (C := "ServiceThreads") (T := TXs) (N := 14) hx hb hta inXs hown hK hP 0 (wX_0 q dA M_13) rfl 2 (by decide) (hta _ wt_120) (fun _ h9 => h9) rfl dXs_close_25 ?_
        refine lv_iload_n hx hb dXs_close_28 rfl (lv_at hl 2 rfl) ?_
        refine cn_v (w := (wX q dA)) (M := M_13) (wX_ad q dA) (va_runV (As := [.int x2]) (rest := []) ⟨hx, hb, hml, hown, hta⟩ (mtXc_dropUnsentOf l dC dI q dA H.size x2 M_13 _ hw) (cwV 1 hta (giV wt_173 wt_174 wt_175 wt_5 wt_176) rfl rfl rfl (by decide +kernel) ⟨Nat.le_of_ble_eq_true rfl, Nat.le_of_ble_eq_true rfl⟩) ⟨pW_blind, va_recv hK hP (ci := 3) (q0 := 3) rfl (wX_3 q dA M_13), pW_of hK hP hD⟩ rfl rfl hl.1 rfl (lv_room (Nat.le_of_ble_eq_true rfl)) dXs_close_29 ⟨Nat.le_of_ble_eq_true rfl, Nat.le_of_ble_eq_true rfl⟩) hD hS hA (fun M_15 H locs hw hP hD hS => ?_)
        obtain ⟨x1_16, ex1_16⟩ : ∃ y : Int32, y = x1 + 1 := ⟨_, rfl⟩
        have hw := hw x1_16 ex1_16
        refine lv_iinc (v := x1_16) (lv' := [(1, .int x1_16), (0, .ref (q 0)), (2, .int x2)]) hx hb dXs_close_32 hl (k := 1) rfl (by rw [ex1_16]; rfl) (by decide) rfl (fun ls hl => ?_)
        refine lv_goto (tgt := 56) hx hb dXs_close_35 (by decide) ?_
        obtain ⟨x2_17, ex2_17⟩ : ∃ y : Int32, y = x2 + 1 := ⟨_, rfl⟩
        have hw := hw x2_17 ex2_17
        refine lv_iinc (v := x2_17) (lv' := [(2, .int x2_17), (1, .int x1_16), (0, .ref (q 0))]) hx hb dXs_close_56 hl (k := 2) rfl (by rw [ex2_17]; rfl) (by decide) rfl (fun ls hl => ?_)
        refine lv_goto (tgt := 4) hx hb dXs_close_59 (by decide) ?_
        exact ih4 x1_16 x2_17 M_15 _ _ _ hw hP hD hS (lv_sub hl [2, 1, 0] rfl)
set_option maxHeartbeats 4000000 in
set_option maxRecDepth 100000 in
theorem mtXs_close (l : Launch) (dC : Nat → ClassId) (dI : Nat → Nat → Nat) (q : Nat → Nat) (dA : Nat → ClassId) (sz : Nat) (M : Mm) (post : Int32 → Mm → Prop) (hw : wpXs_close M post) : Met l yXs_close (wsA yXs_close cXs_close 3 (some .int)) ({ frames := 3, cells := 0, slots := 0, locals := 65 }) (va_Pc [.ref (q 0)] (pW (dC, dI) vwCl (wX q dA) (tX dA) sz M)) (va_Qi post (bW (dC, dI) vwCl (wX q dA) (tX dA) (va_A (wX q dA M) sz)) (va_A (wX q dA M) sz)) 0 0 (va_A (wX q dA M) sz) := by
  refine Met.ofW (cc := cXs_close) (maxL := 3) (ret := (some .int)) (by decide) rfl ?_
  intro p e s m args below meth c s₁ B hml hv
  obtain ⟨rfl, hsz, hP, hK, hD0⟩ := hv
  have hx := B.exec
  have hb := B.bytes
  have hr := B.returns
  have hts := atoms_spec (ws := (wsA yXs_close cXs_close 3 (some .int))) B.pre
  have hta : ∀ w ∈ wsG, w.before _ s = true := fun w h => hts w (List.mem_cons_of_mem _ h)
  have hown : s.vm.findClass "ServiceThreads" = some m.cls := findClass_of_methodNamed B.named
  have hlocks := B.notSynchronized
  subst hsz
  have hD := hD0.self (sz := s.heap.size)
  generalize hAe : va_A (wX q dA M) s.heap.size = A at hD ⊢
  have hA : ∀ q : Nat, s.heap.size ≤ q → A q := fun q h => by rw [← hAe]; exact Or.inr h
  have hS : va_S A s.heap s.heap [] := va_S.rf
  dsimp only [wpXs_close] at hw
  have hl := lv_entry ([.ref (q 0)]) (n := 3) (Nat.le_of_ble_eq_true rfl)
  rw [lg_entry_eq]
  generalize (lg_sl ([.ref (q 0)]) ++ List.replicate (3 - (lg_sl ([.ref (q 0)])).length) Slot.unset).toArray = ls at hl ⊢
  have hl : lv_has ls 3 [(0, .ref (q 0))] := hl
  refine lv_iconst (v := 0) hx hb dXs_close_0 (by decide) ?_
  refine lv_istore_n (lv' := [(1, .int 0), (0, .ref (q 0))]) hx hb dXs_close_1 rfl hl (by decide) rfl (fun ls hl => ?_)
  refine lv_iconst (v := 0) hx hb dXs_close_2 (by decide) ?_
  refine lv_istore_n (lv' := [(2, .int 0), (1, .int 0), (0, .ref (q 0))]) hx hb dXs_close_3 rfl hl (by decide) rfl (fun ls hl => ?_)
  obtain ⟨n4, hw⟩ := hw
  exact LwlXs_close_4 (A := A) (av := [.ref (q 0)]) ⟨hx, hb, hr, hml, hown, hta, hA, hK, hlocks⟩ n4 0 0 M _ _ _ hw hP hD hS (lv_sub hl [2, 1, 0] rfl)
def wpXs_unit (p0 : Int32) (p1 : Int32) (M : Mm) (post : Int32 → Mm → Prop) (px : Nat → Mm → Prop) : Prop := ((p0 < 0 → (px 0 M)) ∧ (¬ p0 < 0 → (((p0 < 10 → (((p1 = 0 → (vp_in p0 10 ∧ (∀ y_6 : Int32, y_6 = M 4 p0.toNatClampNeg → (post y_6 M)))) ∧ (¬ p1 = 0 → (((p1 = 1 → (vp_in p0 10 ∧ (∀ y_9 : Int32, y_9 = M 5 p0.toNatClampNeg → (post y_9 M)))) ∧ (¬ p1 = 1 → (px 0 M)))))))) ∧ (¬ p0 < 10 → (px 0 M))))))
set_option maxHeartbeats 4000000 in
set_option maxRecDepth 100000 in
theorem mtnXs_unit (l : Launch) (dC : Nat → ClassId) (dI : Nat → Nat → Nat) (q : Nat → Nat) (dA : Nat → ClassId) (sz : Nat) (p0 : Int32) (p1 : Int32) (M : Mm) (post : Int32 → Mm → Prop) (hw : wpXs_unit p0 p1 M post (fun _ _ => False)) : Met l yXs_unit (wsA yXs_unit cXs_unit 3 (some .int)) ({ frames := 0, cells := 0, slots := 0, locals := 0 }) (va_Pc [.ref (q 0), .int p0, .int p1] (pW (dC, dI) vwCl (wX q dA) (tX dA) sz M)) (va_Qi post (bW (dC, dI) vwCl (wX q dA) (tX dA) (va_A (wX q dA M) sz)) (va_A (wX q dA M) sz)) 0 0 (va_A (wX q dA M) sz) := by
  refine Met.ofW (cc := cXs_unit) (maxL := 3) (ret := (some .int)) (by decide) rfl ?_
  intro p e s m args below meth c s₁ B hml hv
  obtain ⟨rfl, hsz, hP, hK, hD0⟩ := hv
  have hx := B.exec
  have hb := B.bytes
  have hr := B.returns
  have hts := atoms_spec (ws := (wsA yXs_unit cXs_unit 3 (some .int))) B.pre
  have hta : ∀ w ∈ wsG, w.before _ s = true := fun w h => hts w (List.mem_cons_of_mem _ h)
  have hown : s.vm.findClass "ServiceThreads" = some m.cls := findClass_of_methodNamed B.named
  have hlocks := B.notSynchronized
  subst hsz
  have hD := hD0.self (sz := s.heap.size)
  generalize hAe : va_A (wX q dA M) s.heap.size = A at hD ⊢
  have hA : ∀ q : Nat, s.heap.size ≤ q → A q := fun q h => by rw [← hAe]; exact Or.inr h
  have hS : va_S A s.heap s.heap [] := va_S.rf
  dsimp only [wpXs_unit] at hw
  have hl := lv_entry ([.ref (q 0), .int p0, .int p1]) (n := 3) (Nat.le_of_ble_eq_true rfl)
  rw [lg_entry_eq]
  generalize (lg_sl ([.ref (q 0), .int p0, .int p1]) ++ List.replicate (3 - (lg_sl ([.ref (q 0), .int p0, .int p1])).length) Slot.unset).toArray = ls at hl ⊢
  have hl : lv_has ls 3 [(0, .ref (q 0)), (1, .int p0), (2, .int p1)] := hl
  refine lv_iload_n hx hb dXs_unit_0 rfl (lv_at hl 1 rfl) ?_
  refine lv_if_lt (tgt := 10) hx hb dXs_unit_1 (by decide) (fun c_1 => ?_) (fun c_1 => ?_)
  · have hw := hw.1 c_1
    exact False.elim hw
  · have hw := hw.2 c_1
    refine lv_iload_n hx hb dXs_unit_4 rfl (lv_at hl 1 rfl) ?_
    refine lv_bipush (v := 10) hx hb dXs_unit_5 (by decide) ?_
    refine lv_icmp_lt (tgt := 20) hx hb dXs_unit_7 (by decide) (fun c_2 => ?_) (fun c_2 => ?_)
    · have hw := hw.1 c_2
      refine lv_iload_n hx hb dXs_unit_20 rfl (lv_at hl 2 rfl) ?_
      rcases Classical.em (p1 = 0) with c_4 | c_4
      · have hw := hw.1 c_4
        refine lv_lookup (tgt := 48) (off := 27) hx hb dXs_unit_21 (by decide) (by rw [c_4]; decide) (by decide) ?_
        refine lv_aload_n hx hb dXs_unit_48 rfl (lv_at hl 0 rfl) ?_
        refine va_get (D := (dC, dI)) (ci := 0) (v := .ref (q 2)) (C := "ServiceThreads") (T := TXs) (N := 14) hx hb hta inXs hown hK hP 0 (wX_0 q dA M) rfl 1 (by decide) (hta _ wt_119) (fun _ h9 => h9) rfl dXs_unit_49 ?_
        refine va_get (D := (dC, dI)) (ci := 2) (v := .ref (q 9)) (C := "ServiceThreads$Units") (T := TXu) (N := 2) hx hb hta inXu hown hK hP 2 (wX_2 q dA M) rfl 0 (by decide) (hta _ wt_55) (fun _ h9 => h9) rfl dXs_unit_52 ?_
        refine lv_iload_n hx hb dXs_unit_55 rfl (lv_at hl 1 rfl) ?_
        obtain ⟨h_5, hw⟩ := hw
        refine ro_i (w := (wX q dA)) (M := M) hx hb hK hP 9 4 (wX_9 q dA M) rfl h_5 dXs_unit_56 (fun y_6 ey_6 => ?_)
        have hw := hw y_6 ey_6
        exact W.iret (v := y_6) hx hb hr (fun t ht hW => ⟨⟨y_6, M, rfl, hw, by rw [ht]; exact hP, va_K.moved hW.alike hK, hD⟩, hS.F ht⟩) hS.2.2 dXs_unit_57 hlocks
      · have hw := hw.2 c_4
        rcases Classical.em (p1 = 1) with c_7 | c_7
        · have hw := hw.1 c_7
          refine lv_lookup (tgt := 58) (off := 37) hx hb dXs_unit_21 (by decide) (by rw [c_7]; decide) (by decide) ?_
          refine lv_aload_n hx hb dXs_unit_58 rfl (lv_at hl 0 rfl) ?_
          refine va_get (D := (dC, dI)) (ci := 0) (v := .ref (q 2)) (C := "ServiceThreads") (T := TXs) (N := 14) hx hb hta inXs hown hK hP 0 (wX_0 q dA M) rfl 1 (by decide) (hta _ wt_119) (fun _ h9 => h9) rfl dXs_unit_59 ?_
          refine va_get (D := (dC, dI)) (ci := 2) (v := .ref (q 10)) (C := "ServiceThreads$Units") (T := TXu) (N := 2) hx hb hta inXu hown hK hP 2 (wX_2 q dA M) rfl 1 (by decide) (hta _ wt_57) (fun _ h9 => h9) rfl dXs_unit_62 ?_
          refine lv_iload_n hx hb dXs_unit_65 rfl (lv_at hl 1 rfl) ?_
          obtain ⟨h_8, hw⟩ := hw
          refine ro_i (w := (wX q dA)) (M := M) hx hb hK hP 10 5 (wX_10 q dA M) rfl h_8 dXs_unit_66 (fun y_9 ey_9 => ?_)
          have hw := hw y_9 ey_9
          exact W.iret (v := y_9) hx hb hr (fun t ht hW => ⟨⟨y_9, M, rfl, hw, by rw [ht]; exact hP, va_K.moved hW.alike hK, hD⟩, hS.F ht⟩) hS.2.2 dXs_unit_67 hlocks
        · have hw := hw.2 c_7
          refine lv_lookup (tgt := 68) (off := 47) hx hb dXs_unit_21 (by decide) (by show Op.lookupswitch.offset _ _ _ = _; rw [lv_osw c_4 (by decide)]; rw [lv_osw c_7 (by decide)]; rfl) (by decide) ?_
          exact False.elim hw
    · have hw := hw.2 c_2
      exact False.elim hw
set_option maxHeartbeats 4000000 in
set_option maxRecDepth 100000 in
theorem mtXs_unit (l : Launch) (hl9 : l.stackTraces = false) (dC : Nat → ClassId) (dI : Nat → Nat → Nat) (q : Nat → Nat) (dA : Nat → ClassId) (sz : Nat) (p0 : Int32) (p1 : Int32) (M : Mm) (post : Int32 → Mm → Prop) (px : Nat → Mm → Prop) (hw : wpXs_unit p0 p1 M post px) : vx_Met l yXs_unit (wsA yXs_unit cXs_unit 3 (some .int)) ({ frames := 6, cells := 1, slots := 6, locals := 82 }) (va_Pc [.ref (q 0), .int p0, .int p1] (pWx (dC, dI) vwCl (wX q dA) (tX dA) sX sz M)) (va_Qi post (bW (dC, dI) vwCl (wX q dA) (tX dA) (va_A (wX q dA M) sz)) (va_A (wX q dA M) sz)) (vx_X (fun u : Nat × Mm => px u.1 u.2) (xW (dC, dI) vwCl (wX q dA) (tX dA) (va_A (wX q dA M) sz)) (va_A (wX q dA M) sz)) 1 6 (va_A (wX q dA M) sz) := by
  refine vx_ofW (cc := cXs_unit) (maxL := 3) (ret := (some .int)) (by decide) rfl ?_
  intro p e s m args below meth c s₁ B hml hEx hv
  obtain ⟨rfl, hsz, hP, hK, hD0, hZ, hsp⟩ := hv
  have hx := B.exec
  have hb := B.bytes
  have hr := B.returns
  have hts := atoms_spec (ws := (wsA yXs_unit cXs_unit 3 (some .int))) B.pre
  have hta : ∀ w ∈ wsG, w.before _ s = true := fun w h => hts w (List.mem_cons_of_mem _ h)
  have hown : s.vm.findClass "ServiceThreads" = some m.cls := findClass_of_methodNamed B.named
  have hlocks := B.notSynchronized
  subst hsz
  have hD := hD0.self (sz := s.heap.size)
  generalize hAe : va_A (wX q dA M) s.heap.size = A at hD hZ ⊢
  have hA : ∀ q : Nat, s.heap.size ≤ q → A q := fun q h => by rw [← hAe]; exact Or.inr h
  have hS : va_S A s.heap s.heap [] := va_S.rf
  dsimp only [wpXs_unit] at hw
  have hl := lv_entry ([.ref (q 0), .int p0, .int p1]) (n := 3) (Nat.le_of_ble_eq_true rfl)
  rw [lg_entry_eq]
  generalize (lg_sl ([.ref (q 0), .int p0, .int p1]) ++ List.replicate (3 - (lg_sl ([.ref (q 0), .int p0, .int p1])).length) Slot.unset).toArray = ls at hl ⊢
  have hl : lv_has ls 3 [(0, .ref (q 0)), (1, .int p0), (2, .int p1)] := hl
  refine lv_iload_n hx hb dXs_unit_0 rfl (lv_at hl 1 rfl) ?_
  refine lv_if_lt (tgt := 10) hx hb dXs_unit_1 (by decide) (fun c_1 => ?_) (fun c_1 => ?_)
  · have hw := hw.1 c_1
    obtain ⟨sa9, hsa9⟩ := sX_s12 hsp
    exact vx_throwS (own := "ServiceThreads") (cls := "java/lang/IllegalArgumentException") (names := ["java/lang/RuntimeException", "java/lang/Exception"]) hx hb hl9 hown (by decide +kernel) (by decide +kernel) (hta _ wt_199) (hta _ wt_11) hsa9 (vx_hat (L := vx_atS "ServiceThreads" 78 "java/lang/IllegalArgumentException" ["java/lang/RuntimeException", "java/lang/Exception"]) (B := [.castable "java/lang/IllegalArgumentException" "java/lang/IllegalArgumentException", .declares ⟨"java/lang/RuntimeException", "<init>", "(Ljava/lang/String;)V"⟩, .declares ⟨"java/lang/Exception", "<init>", "(Ljava/lang/String;)V"⟩, .declares ⟨"java/lang/Throwable", "<init>", "(Ljava/lang/String;)V"⟩]) (fun w hw => hta w (vxw_0 w hw)) vxw_0b (vx_c (va_Nw.use rfl (sX_w0 hsp)) (vx_c (va_Nw.use rfl (sX_w1 hsp)) (vx_c (va_Nw.use rfl (sX_w2 hsp)) (vx_c (va_Nw.use rfl (sX_w3 hsp)) (vx_n)))))) vxw_0g hZ.1 hZ.2 hS (hl.1.trans hml.symm) dXs_unit_10 dXs_unit_13 dXs_unit_14 dXs_unit_16 dXs_unit_19 (fun x hx => (hEx x hx).elim) (Nat.le_of_ble_eq_true rfl) (Nat.le_of_ble_eq_true rfl) (Nat.le_of_ble_eq_true rfl) (Nat.le_of_ble_eq_true rfl) hlocks (th_x (px := px) (k := 0) hP hK hD hS hw) hS.2.2 (Nat.le_of_ble_eq_true rfl) (Nat.le_of_ble_eq_true rfl)
  · have hw := hw.2 c_1
    refine lv_iload_n hx hb dXs_unit_4 rfl (lv_at hl 1 rfl) ?_
    refine lv_bipush (v := 10) hx hb dXs_unit_5 (by decide) ?_
    refine lv_icmp_lt (tgt := 20) hx hb dXs_unit_7 (by decide) (fun c_2 => ?_) (fun c_2 => ?_)
    · have hw := hw.1 c_2
      refine lv_iload_n hx hb dXs_unit_20 rfl (lv_at hl 2 rfl) ?_
      rcases Classical.em (p1 = 0) with c_4 | c_4
      · have hw := hw.1 c_4
        refine lv_lookup (tgt := 48) (off := 27) hx hb dXs_unit_21 (by decide) (by rw [c_4]; decide) (by decide) ?_
        refine lv_aload_n hx hb dXs_unit_48 rfl (lv_at hl 0 rfl) ?_
        refine va_get (D := (dC, dI)) (ci := 0) (v := .ref (q 2)) (C := "ServiceThreads") (T := TXs) (N := 14) hx hb hta inXs hown hK hP 0 (wX_0 q dA M) rfl 1 (by decide) (hta _ wt_119) (fun _ h9 => h9) rfl dXs_unit_49 ?_
        refine va_get (D := (dC, dI)) (ci := 2) (v := .ref (q 9)) (C := "ServiceThreads$Units") (T := TXu) (N := 2) hx hb hta inXu hown hK hP 2 (wX_2 q dA M) rfl 0 (by decide) (hta _ wt_55) (fun _ h9 => h9) rfl dXs_unit_52 ?_
        refine lv_iload_n hx hb dXs_unit_55 rfl (lv_at hl 1 rfl) ?_
        obtain ⟨h_5, hw⟩ := hw
        refine ro_i (w := (wX q dA)) (M := M) hx hb hK hP 9 4 (wX_9 q dA M) rfl h_5 dXs_unit_56 (fun y_6 ey_6 => ?_)
        have hw := hw y_6 ey_6
        refine vx_ret ?_
        refine W.widen (k := 1) (n := 6) (Nat.le_of_ble_eq_true rfl) (Nat.le_of_ble_eq_true rfl) ?_
        exact W.iret (v := y_6) hx hb hr (fun t ht hW => ⟨⟨y_6, M, rfl, hw, by rw [ht]; exact hP, va_K.moved hW.alike hK, hD⟩, hS.F ht⟩) hS.2.2 dXs_unit_57 hlocks
      · have hw := hw.2 c_4
        rcases Classical.em (p1 = 1) with c_7 | c_7
        · have hw := hw.1 c_7
          refine lv_lookup (tgt := 58) (off := 37) hx hb dXs_unit_21 (by decide) (by rw [c_7]; decide) (by decide) ?_
          refine lv_aload_n hx hb dXs_unit_58 rfl (lv_at hl 0 rfl) ?_
          refine va_get (D := (dC, dI)) (ci := 0) (v := .ref (q 2)) (C := "ServiceThreads") (T := TXs) (N := 14) hx hb hta inXs hown hK hP 0 (wX_0 q dA M) rfl 1 (by decide) (hta _ wt_119) (fun _ h9 => h9) rfl dXs_unit_59 ?_
          refine va_get (D := (dC, dI)) (ci := 2) (v := .ref (q 10)) (C := "ServiceThreads$Units") (T := TXu) (N := 2) hx hb hta inXu hown hK hP 2 (wX_2 q dA M) rfl 1 (by decide) (hta _ wt_57) (fun _ h9 => h9) rfl dXs_unit_62 ?_
          refine lv_iload_n hx hb dXs_unit_65 rfl (lv_at hl 1 rfl) ?_
          obtain ⟨h_8, hw⟩ := hw
          refine ro_i (w := (wX q dA)) (M := M) hx hb hK hP 10 5 (wX_10 q dA M) rfl h_8 dXs_unit_66 (fun y_9 ey_9 => ?_)
          have hw := hw y_9 ey_9
          refine vx_ret ?_
          refine W.widen (k := 1) (n := 6) (Nat.le_of_ble_eq_true rfl) (Nat.le_of_ble_eq_true rfl) ?_
          exact W.iret (v := y_9) hx hb hr (fun t ht hW => ⟨⟨y_9, M, rfl, hw, by rw [ht]; exact hP, va_K.moved hW.alike hK, hD⟩, hS.F ht⟩) hS.2.2 dXs_unit_67 hlocks
        · have hw := hw.2 c_7
          refine lv_lookup (tgt := 68) (off := 47) hx hb dXs_unit_21 (by decide) (by show Op.lookupswitch.offset _ _ _ = _; rw [lv_osw c_4 (by decide)]; rw [lv_osw c_7 (by decide)]; rfl) (by decide) ?_
          obtain ⟨sa9, hsa9⟩ := sX_s13 hsp
          exact vx_throwS (own := "ServiceThreads") (cls := "java/lang/IllegalArgumentException") (names := ["java/lang/RuntimeException", "java/lang/Exception"]) hx hb hl9 hown (by decide +kernel) (by decide +kernel) (hta _ wt_199) (hta _ wt_11) hsa9 (vx_hat (L := vx_atS "ServiceThreads" 78 "java/lang/IllegalArgumentException" ["java/lang/RuntimeException", "java/lang/Exception"]) (B := [.castable "java/lang/IllegalArgumentException" "java/lang/IllegalArgumentException", .declares ⟨"java/lang/RuntimeException", "<init>", "(Ljava/lang/String;)V"⟩, .declares ⟨"java/lang/Exception", "<init>", "(Ljava/lang/String;)V"⟩, .declares ⟨"java/lang/Throwable", "<init>", "(Ljava/lang/String;)V"⟩]) (fun w hw => hta w (vxw_0 w hw)) vxw_0b (vx_c (va_Nw.use rfl (sX_w0 hsp)) (vx_c (va_Nw.use rfl (sX_w1 hsp)) (vx_c (va_Nw.use rfl (sX_w2 hsp)) (vx_c (va_Nw.use rfl (sX_w3 hsp)) (vx_n)))))) vxw_0g hZ.1 hZ.2 hS (hl.1.trans hml.symm) dXs_unit_68 dXs_unit_71 dXs_unit_72 dXs_unit_74 dXs_unit_77 (fun x hx => (hEx x hx).elim) (Nat.le_of_ble_eq_true rfl) (Nat.le_of_ble_eq_true rfl) (Nat.le_of_ble_eq_true rfl) (Nat.le_of_ble_eq_true rfl) hlocks (th_x (px := px) (k := 0) hP hK hD hS hw) hS.2.2 (Nat.le_of_ble_eq_true rfl) (Nat.le_of_ble_eq_true rfl)
    · have hw := hw.2 c_2
      obtain ⟨sa9, hsa9⟩ := sX_s12 hsp
      exact vx_throwS (own := "ServiceThreads") (cls := "java/lang/IllegalArgumentException") (names := ["java/lang/RuntimeException", "java/lang/Exception"]) hx hb hl9 hown (by decide +kernel) (by decide +kernel) (hta _ wt_199) (hta _ wt_11) hsa9 (vx_hat (L := vx_atS "ServiceThreads" 78 "java/lang/IllegalArgumentException" ["java/lang/RuntimeException", "java/lang/Exception"]) (B := [.castable "java/lang/IllegalArgumentException" "java/lang/IllegalArgumentException", .declares ⟨"java/lang/RuntimeException", "<init>", "(Ljava/lang/String;)V"⟩, .declares ⟨"java/lang/Exception", "<init>", "(Ljava/lang/String;)V"⟩, .declares ⟨"java/lang/Throwable", "<init>", "(Ljava/lang/String;)V"⟩]) (fun w hw => hta w (vxw_0 w hw)) vxw_0b (vx_c (va_Nw.use rfl (sX_w0 hsp)) (vx_c (va_Nw.use rfl (sX_w1 hsp)) (vx_c (va_Nw.use rfl (sX_w2 hsp)) (vx_c (va_Nw.use rfl (sX_w3 hsp)) (vx_n)))))) vxw_0g hZ.1 hZ.2 hS (hl.1.trans hml.symm) dXs_unit_10 dXs_unit_13 dXs_unit_14 dXs_unit_16 dXs_unit_19 (fun x hx => (hEx x hx).elim) (Nat.le_of_ble_eq_true rfl) (Nat.le_of_ble_eq_true rfl) (Nat.le_of_ble_eq_true rfl) (Nat.le_of_ble_eq_true rfl) hlocks (th_x (px := px) (k := 0) hP hK hD hS hw) hS.2.2 (Nat.le_of_ble_eq_true rfl) (Nat.le_of_ble_eq_true rfl)
def wpXs_callAt (p0 : Int32) (p1 : Int32) (M : Mm) (post : Int32 → Mm → Prop) (px : Nat → Mm → Prop) : Prop := wpXc_isKnown p0 M (fun r_1 M_2 => (((r_1 = 0 → (px 0 M_2)) ∧ (¬ r_1 = 0 → (((p1 = 0 → (vp_in p0 16 ∧ (∀ y_7 : Int32, y_7 = M_2 6 p0.toNatClampNeg → (post y_7 M_2)))) ∧ (¬ p1 = 0 → (((p1 = 1 → (vp_in p0 16 ∧ (∀ y_10 : Int32, y_10 = M_2 7 p0.toNatClampNeg → (post y_10 M_2)))) ∧ (¬ p1 = 1 → (((p1 = 2 → (vp_in p0 16 ∧ (∀ y_13 : Int32, y_13 = M_2 8 p0.toNatClampNeg → (post y_13 M_2)))) ∧ (¬ p1 = 2 → (((p1 = 3 → (vp_in p0 16 ∧ (∀ y_16 : Int32, y_16 = M_2 9 p0.toNatClampNeg → (((y_16 = 0 → (post 0 M_2)) ∧ (¬ y_16 = 0 → (post 1 M_2))))))) ∧ (¬ p1 = 3 → (px 0 M_2)))))))))))))))))
set_option maxHeartbeats 4000000 in
set_option maxRecDepth 100000 in
theorem mtnXs_callAt (l : Launch) (dC : Nat → ClassId) (dI : Nat → Nat → Nat) (q : Nat → Nat) (dA : Nat → ClassId) (sz : Nat) (p0 : Int32) (p1 : Int32) (M : Mm) (post : Int32 → Mm → Prop) (hw : wpXs_callAt p0 p1 M post (fun _ _ => False)) : Met l yXs_callAt (wsA yXs_callAt cXs_callAt 3 (some .int)) ({ frames := 1, cells := 0, slots := 0, locals := 21 }) (va_Pc [.ref (q 0), .int p0, .int p1] (pW (dC, dI) vwCl (wX q dA) (tX dA) sz M)) (va_Qi post (bW (dC, dI) vwCl (wX q dA) (tX dA) (va_A (wX q dA M) sz)) (va_A (wX q dA M) sz)) 0 0 (va_A (wX q dA M) sz) := by
  refine Met.ofW (cc := cXs_callAt) (maxL := 3) (ret := (some .int)) (by decide) rfl ?_
  intro p e s m args below meth c s₁ B hml hv
  obtain ⟨rfl, hsz, hP, hK, hD0⟩ := hv
  have hx := B.exec
  have hb := B.bytes
  have hr := B.returns
  have hts := atoms_spec (ws := (wsA yXs_callAt cXs_callAt 3 (some .int))) B.pre
  have hta : ∀ w ∈ wsG, w.before _ s = true := fun w h => hts w (List.mem_cons_of_mem _ h)
  have hown : s.vm.findClass "ServiceThreads" = some m.cls := findClass_of_methodNamed B.named
  have hlocks := B.notSynchronized
  subst hsz
  have hD := hD0.self (sz := s.heap.size)
  generalize hAe : va_A (wX q dA M) s.heap.size = A at hD ⊢
  have hA : ∀ q : Nat, s.heap.size ≤ q → A q := fun q h => by rw [← hAe]; exact Or.inr h
  have hS : va_S A s.heap s.heap [] := va_S.rf
  dsimp only [wpXs_callAt] at hw
  have hl := lv_entry ([.ref (q 0), .int p0, .int p1]) (n := 3) (Nat.le_of_ble_eq_true rfl)
  rw [lg_entry_eq]
  generalize (lg_sl ([.ref (q 0), .int p0, .int p1]) ++ List.replicate (3 - (lg_sl ([.ref (q 0), .int p0, .int p1])).length) Slot.unset).toArray = ls at hl ⊢
  have hl : lv_has ls 3 [(0, .ref (q 0)), (1, .int p0), (2, .int p1)] := hl
  refine lv_aload_n hx hb dXs_callAt_0 rfl (lv_at hl 0 rfl) ?_
  refine va_get (D := (dC, dI)) (ci := 0) (v := .ref (q 3)) (C := "ServiceThreads") (T := TXs) (N := 14) hx hb hta inXs hown hK hP 0 (wX_0 q dA M) rfl 2 (by decide) (hta _ wt_120) (fun _ h9 => h9) rfl dXs_callAt_1 ?_
  refine lv_iload_n hx hb dXs_callAt_4 rfl (lv_at hl 1 rfl) ?_
  refine cn_i (w := (wX q dA)) (M := M) (wX_ad q dA) (va_runV (As := [.int p0]) (rest := []) ⟨hx, hb, hml, hown, hta⟩ (mtXc_isKnown l dC dI q dA s.heap.size p0 M _ hw) (cwV 1 hta (giV wt_421 wt_182 wt_183 wt_5 wt_184) rfl rfl rfl (by decide +kernel) ⟨Nat.le_of_ble_eq_true rfl, Nat.le_of_ble_eq_true rfl⟩) ⟨pW_blind, va_recv hK hP (ci := 3) (q0 := 3) rfl (wX_3 q dA M), pW_of hK hP hD⟩ rfl rfl hl.1 rfl (lv_room (Nat.le_of_ble_eq_true rfl)) dXs_callAt_5 ⟨Nat.le_of_ble_eq_true rfl, Nat.le_of_ble_eq_true rfl⟩) hD hS hA (fun r_1 M_2 H locs hw hP hD hS => ?_)
  refine lv_if_ne (tgt := 21) hx hb dXs_callAt_8 (by decide) (fun c_3 => ?_) (fun c_3 => ?_)
  · have hw := hw.2 c_3
    refine lv_iload_n hx hb dXs_callAt_21 rfl (lv_at hl 2 rfl) ?_
    rcases Classical.em (p1 = 0) with c_5 | c_5
    · have hw := hw.1 c_5
      refine lv_tableIn (tgt := 52) (off := 30) hx hb dXs_callAt_22 (by rw [c_5]; decide) (by rw [c_5]; decide) (by rw [c_5]; decide) (by decide) ?_
      refine lv_aload_n hx hb dXs_callAt_52 rfl (lv_at hl 0 rfl) ?_
      refine va_get (D := (dC, dI)) (ci := 0) (v := .ref (q 3)) (C := "ServiceThreads") (T := TXs) (N := 14) hx hb hta inXs hown hK hP 0 (wX_0 q dA M_2) rfl 2 (by decide) (hta _ wt_120) (fun _ h9 => h9) rfl dXs_callAt_53 ?_
      refine va_get (D := (dC, dI)) (ci := 3) (v := .ref (q 11)) (C := "ServiceThreads$Calls") (T := TXc) (N := 5) hx hb hta inXc hown hK hP 3 (wX_3 q dA M_2) rfl 0 (by decide) (hta _ wt_71) (fun _ h9 => h9) rfl dXs_callAt_56 ?_
      refine lv_iload_n hx hb dXs_callAt_59 rfl (lv_at hl 1 rfl) ?_
      obtain ⟨h_6, hw⟩ := hw
      refine ro_i (w := (wX q dA)) (M := M_2) hx hb hK hP 11 6 (wX_11 q dA M_2) rfl h_6 dXs_callAt_60 (fun y_7 ey_7 => ?_)
      have hw := hw y_7 ey_7
      exact W.iret (v := y_7) hx hb hr (fun t ht hW => ⟨⟨y_7, M_2, rfl, hw, by rw [ht]; exact hP, va_K.moved hW.alike hK, hD⟩, hS.F ht⟩) hS.2.2 dXs_callAt_61 hlocks
    · have hw := hw.2 c_5
      rcases Classical.em (p1 = 1) with c_8 | c_8
      · have hw := hw.1 c_8
        refine lv_tableIn (tgt := 62) (off := 40) hx hb dXs_callAt_22 (by rw [c_8]; decide) (by rw [c_8]; decide) (by rw [c_8]; decide) (by decide) ?_
        refine lv_aload_n hx hb dXs_callAt_62 rfl (lv_at hl 0 rfl) ?_
        refine va_get (D := (dC, dI)) (ci := 0) (v := .ref (q 3)) (C := "ServiceThreads") (T := TXs) (N := 14) hx hb hta inXs hown hK hP 0 (wX_0 q dA M_2) rfl 2 (by decide) (hta _ wt_120) (fun _ h9 => h9) rfl dXs_callAt_63 ?_
        refine va_get (D := (dC, dI)) (ci := 3) (v := .ref (q 12)) (C := "ServiceThreads$Calls") (T := TXc) (N := 5) hx hb hta inXc hown hK hP 3 (wX_3 q dA M_2) rfl 1 (by decide) (hta _ wt_73) (fun _ h9 => h9) rfl dXs_callAt_66 ?_
        refine lv_iload_n hx hb dXs_callAt_69 rfl (lv_at hl 1 rfl) ?_
        obtain ⟨h_9, hw⟩ := hw
        refine ro_i (w := (wX q dA)) (M := M_2) hx hb hK hP 12 7 (wX_12 q dA M_2) rfl h_9 dXs_callAt_70 (fun y_10 ey_10 => ?_)
        have hw := hw y_10 ey_10
        exact W.iret (v := y_10) hx hb hr (fun t ht hW => ⟨⟨y_10, M_2, rfl, hw, by rw [ht]; exact hP, va_K.moved hW.alike hK, hD⟩, hS.F ht⟩) hS.2.2 dXs_callAt_71 hlocks
      · have hw := hw.2 c_8
        rcases Classical.em (p1 = 2) with c_11 | c_11
        · have hw := hw.1 c_11
          refine lv_tableIn (tgt := 72) (off := 50) hx hb dXs_callAt_22 (by rw [c_11]; decide) (by rw [c_11]; decide) (by rw [c_11]; decide) (by decide) ?_
          refine lv_aload_n hx hb dXs_callAt_72 rfl (lv_at hl 0 rfl) ?_
          refine va_get (D := (dC, dI)) (ci := 0) (v := .ref (q 3)) (C := "ServiceThreads") (T := TXs) (N := 14) hx hb hta inXs hown hK hP 0 (wX_0 q dA M_2) rfl 2 (by decide) (hta _ wt_120) (fun _ h9 => h9) rfl dXs_callAt_73 ?_
          refine va_get (D := (dC, dI)) (ci := 3) (v := .ref (q 13)) (C := "ServiceThreads$Calls") (T := TXc) (N := 5) hx hb hta inXc hown hK hP 3 (wX_3 q dA M_2) rfl 2 (by decide) (hta _ wt_75) (fun _ h9 => h9) rfl dXs_callAt_76 ?_
          refine lv_iload_n hx hb dXs_callAt_79 rfl (lv_at hl 1 rfl) ?_
          obtain ⟨h_12, hw⟩ := hw
          refine ro_i (w := (wX q dA)) (M := M_2) hx hb hK hP 13 8 (wX_13 q dA M_2) rfl h_12 dXs_callAt_80 (fun y_13 ey_13 => ?_)
          have hw := hw y_13 ey_13
          exact W.iret (v := y_13) hx hb hr (fun t ht hW => ⟨⟨y_13, M_2, rfl, hw, by rw [ht]; exact hP, va_K.moved hW.alike hK, hD⟩, hS.F ht⟩) hS.2.2 dXs_callAt_81 hlocks
        · have hw := hw.2 c_11
          rcases Classical.em (p1 = 3) with c_14 | c_14
          · have hw := hw.1 c_14
            refine lv_tableIn (tgt := 82) (off := 60) hx hb dXs_callAt_22 (by rw [c_14]; decide) (by rw [c_14]; decide) (by rw [c_14]; decide) (by decide) ?_
            refine lv_aload_n hx hb dXs_callAt_82 rfl (lv_at hl 0 rfl) ?_
            refine va_get (D := (dC, dI)) (ci := 0) (v := .ref (q 3)) (C := "ServiceThreads") (T := TXs) (N := 14) hx hb hta inXs hown hK hP 0 (wX_0 q dA M_2) rfl 2 (by decide) (hta _ wt_120) (fun _ h9 => h9) rfl dXs_callAt_83 ?_
            refine va_get (D := (dC, dI)) (ci := 3) (v := .ref (q 14)) (C := "ServiceThreads$Calls") (T := TXc) (N := 5) hx hb hta inXc hown hK hP 3 (wX_3 q dA M_2) rfl 3 (by decide) (hta _ wt_77) (fun _ h9 => h9) rfl dXs_callAt_86 ?_
            refine lv_iload_n hx hb dXs_callAt_89 rfl (lv_at hl 1 rfl) ?_
            obtain ⟨h_15, hw⟩ := hw
            refine ro_z (w := (wX q dA)) (M := M_2) hx hb hK hP 14 9 (wX_14 q dA M_2) rfl h_15 dXs_callAt_90 (fun y_16 ey_16 => ?_)
            have hw := hw y_16 ey_16
            refine lv_if_eq (tgt := 98) hx hb dXs_callAt_91 (by decide) (fun c_17 => ?_) (fun c_17 => ?_)
            · have hw := hw.1 c_17
              refine lv_iconst (v := 0) hx hb dXs_callAt_98 (by decide) ?_
              exact W.iret (v := 0) hx hb hr (fun t ht hW => ⟨⟨0, M_2, rfl, hw, by rw [ht]; exact hP, va_K.moved hW.alike hK, hD⟩, hS.F ht⟩) hS.2.2 dXs_callAt_99 hlocks
            · have hw := hw.2 c_17
              refine lv_iconst (v := 1) hx hb dXs_callAt_94 (by decide) ?_
              refine lv_goto (tgt := 99) hx hb dXs_callAt_95 (by decide) ?_
              exact W.iret (v := 1) hx hb hr (fun t ht hW => ⟨⟨1, M_2, rfl, hw, by rw [ht]; exact hP, va_K.moved hW.alike hK, hD⟩, hS.F ht⟩) hS.2.2 dXs_callAt_99 hlocks
          · have hw := hw.2 c_14
            refine lv_tableOut (tgt := 100) hx hb dXs_callAt_22 (by have n0 := lv_neT c_5 (show (0 : Int32).toInt = 0 by decide); have n1 := lv_neT c_8 (show (1 : Int32).toInt = 1 by decide); have n2 := lv_neT c_11 (show (2 : Int32).toInt = 2 by decide); have n3 := lv_neT c_14 (show (3 : Int32).toInt = 3 by decide); omega) (by decide) ?_
            exact False.elim hw
  · have hw := hw.1 c_3
    exact False.elim hw
set_option maxHeartbeats 4000000 in
set_option maxRecDepth 100000 in
theorem mtXs_callAt (l : Launch) (hl9 : l.stackTraces = false) (dC : Nat → ClassId) (dI : Nat → Nat → Nat) (q : Nat → Nat) (dA : Nat → ClassId) (sz : Nat) (p0 : Int32) (p1 : Int32) (M : Mm) (post : Int32 → Mm → Prop) (px : Nat → Mm → Prop) (hw : wpXs_callAt p0 p1 M post px) : vx_Met l yXs_callAt (wsA yXs_callAt cXs_callAt 3 (some .int)) ({ frames := 6, cells := 1, slots := 6, locals := 82 }) (va_Pc [.ref (q 0), .int p0, .int p1] (pWx (dC, dI) vwCl (wX q dA) (tX dA) sX sz M)) (va_Qi post (bW (dC, dI) vwCl (wX q dA) (tX dA) (va_A (wX q dA M) sz)) (va_A (wX q dA M) sz)) (vx_X (fun u : Nat × Mm => px u.1 u.2) (xW (dC, dI) vwCl (wX q dA) (tX dA) (va_A (wX q dA M) sz)) (va_A (wX q dA M) sz)) 1 6 (va_A (wX q dA M) sz) := by
  refine vx_ofW (cc := cXs_callAt) (maxL := 3) (ret := (some .int)) (by decide) rfl ?_
  intro p e s m args below meth c s₁ B hml hEx hv
  obtain ⟨rfl, hsz, hP, hK, hD0, hZ, hsp⟩ := hv
  have hx := B.exec
  have hb := B.bytes
  have hr := B.returns
  have hts := atoms_spec (ws := (wsA yXs_callAt cXs_callAt 3 (some .int))) B.pre
  have hta : ∀ w ∈ wsG, w.before _ s = true := fun w h => hts w (List.mem_cons_of_mem _ h)
  have hown : s.vm.findClass "ServiceThreads" = some m.cls := findClass_of_methodNamed B.named
  have hlocks := B.notSynchronized
  subst hsz
  have hD := hD0.self (sz := s.heap.size)
  generalize hAe : va_A (wX q dA M) s.heap.size = A at hD hZ ⊢
  have hA : ∀ q : Nat, s.heap.size ≤ q → A q := fun q h => by rw [← hAe]; exact Or.inr h
  have hS : va_S A s.heap s.heap [] := va_S.rf
  dsimp only [wpXs_callAt] at hw
  have hl := lv_entry ([.ref (q 0), .int p0, .int p1]) (n := 3) (Nat.le_of_ble_eq_true rfl)
  rw [lg_entry_eq]
  generalize (lg_sl ([.ref (q 0), .int p0, .int p1]) ++ List.replicate (3 - (lg_sl ([.ref (q 0), .int p0, .int p1])).length) Slot.unset).toArray = ls at hl ⊢
  have hl : lv_has ls 3 [(0, .ref (q 0)), (1, .int p0), (2, .int p1)] := hl
  refine lv_aload_n hx hb dXs_callAt_0 rfl (lv_at hl 0 rfl) ?_
  refine va_get (D := (dC, dI)) (ci := 0) (v := .ref (q 3)) (C := "ServiceThreads") (T := TXs) (N := 14) hx hb hta inXs hown hK hP 0 (wX_0 q dA M) rfl 2 (by decide) (hta _ wt_120) (fun _ h9 => h9) rfl dXs_callAt_1 ?_
  refine lv_iload_n hx hb dXs_callAt_4 rfl (lv_at hl 1 rfl) ?_
  refine cn_i (w := (wX q dA)) (M := M) (wX_ad q dA) (va_runV (As := [.int p0]) (rest := []) ⟨hx, hb, hml, hown, hta⟩ (mtXc_isKnown l dC dI q dA s.heap.size p0 M _ hw) (cwV 1 hta (giV wt_421 wt_182 wt_183 wt_5 wt_184) rfl rfl rfl (by decide +kernel) ⟨Nat.le_of_ble_eq_true rfl, Nat.le_of_ble_eq_true rfl⟩) ⟨pW_blind, va_recv hK hP (ci := 3) (q0 := 3) rfl (wX_3 q dA M), pW_of hK hP hD⟩ rfl rfl hl.1 rfl (lv_room (Nat.le_of_ble_eq_true rfl)) dXs_callAt_5 ⟨Nat.le_of_ble_eq_true rfl, Nat.le_of_ble_eq_true rfl⟩) hD hS hA (fun r_1 M_2 H locs hw hP hD hS => ?_)
  refine lv_if_ne (tgt := 21) hx hb dXs_callAt_8 (by decide) (fun c_3 => ?_) (fun c_3 => ?_)
  · have hw := hw.2 c_3
    refine lv_iload_n hx hb dXs_callAt_21 rfl (lv_at hl 2 rfl) ?_
    rcases Classical.em (p1 = 0) with c_5 | c_5
    · have hw := hw.1 c_5
      refine lv_tableIn (tgt := 52) (off := 30) hx hb dXs_callAt_22 (by rw [c_5]; decide) (by rw [c_5]; decide) (by rw [c_5]; decide) (by decide) ?_
      refine lv_aload_n hx hb dXs_callAt_52 rfl (lv_at hl 0 rfl) ?_
      refine va_get (D := (dC, dI)) (ci := 0) (v := .ref (q 3)) (C := "ServiceThreads") (T := TXs) (N := 14) hx hb hta inXs hown hK hP 0 (wX_0 q dA M_2) rfl 2 (by decide) (hta _ wt_120) (fun _ h9 => h9) rfl dXs_callAt_53 ?_
      refine va_get (D := (dC, dI)) (ci := 3) (v := .ref (q 11)) (C := "ServiceThreads$Calls") (T := TXc) (N := 5) hx hb hta inXc hown hK hP 3 (wX_3 q dA M_2) rfl 0 (by decide) (hta _ wt_71) (fun _ h9 => h9) rfl dXs_callAt_56 ?_
      refine lv_iload_n hx hb dXs_callAt_59 rfl (lv_at hl 1 rfl) ?_
      obtain ⟨h_6, hw⟩ := hw
      refine ro_i (w := (wX q dA)) (M := M_2) hx hb hK hP 11 6 (wX_11 q dA M_2) rfl h_6 dXs_callAt_60 (fun y_7 ey_7 => ?_)
      have hw := hw y_7 ey_7
      refine vx_ret ?_
      refine W.widen (k := 1) (n := 6) (Nat.le_of_ble_eq_true rfl) (Nat.le_of_ble_eq_true rfl) ?_
      exact W.iret (v := y_7) hx hb hr (fun t ht hW => ⟨⟨y_7, M_2, rfl, hw, by rw [ht]; exact hP, va_K.moved hW.alike hK, hD⟩, hS.F ht⟩) hS.2.2 dXs_callAt_61 hlocks
    · have hw := hw.2 c_5
      rcases Classical.em (p1 = 1) with c_8 | c_8
      · have hw := hw.1 c_8
        refine lv_tableIn (tgt := 62) (off := 40) hx hb dXs_callAt_22 (by rw [c_8]; decide) (by rw [c_8]; decide) (by rw [c_8]; decide) (by decide) ?_
        refine lv_aload_n hx hb dXs_callAt_62 rfl (lv_at hl 0 rfl) ?_
        refine va_get (D := (dC, dI)) (ci := 0) (v := .ref (q 3)) (C := "ServiceThreads") (T := TXs) (N := 14) hx hb hta inXs hown hK hP 0 (wX_0 q dA M_2) rfl 2 (by decide) (hta _ wt_120) (fun _ h9 => h9) rfl dXs_callAt_63 ?_
        refine va_get (D := (dC, dI)) (ci := 3) (v := .ref (q 12)) (C := "ServiceThreads$Calls") (T := TXc) (N := 5) hx hb hta inXc hown hK hP 3 (wX_3 q dA M_2) rfl 1 (by decide) (hta _ wt_73) (fun _ h9 => h9) rfl dXs_callAt_66 ?_
        refine lv_iload_n hx hb dXs_callAt_69 rfl (lv_at hl 1 rfl) ?_
        obtain ⟨h_9, hw⟩ := hw
        refine ro_i (w := (wX q dA)) (M := M_2) hx hb hK hP 12 7 (wX_12 q dA M_2) rfl h_9 dXs_callAt_70 (fun y_10 ey_10 => ?_)
        have hw := hw y_10 ey_10
        refine vx_ret ?_
        refine W.widen (k := 1) (n := 6) (Nat.le_of_ble_eq_true rfl) (Nat.le_of_ble_eq_true rfl) ?_
        exact W.iret (v := y_10) hx hb hr (fun t ht hW => ⟨⟨y_10, M_2, rfl, hw, by rw [ht]; exact hP, va_K.moved hW.alike hK, hD⟩, hS.F ht⟩) hS.2.2 dXs_callAt_71 hlocks
      · have hw := hw.2 c_8
        rcases Classical.em (p1 = 2) with c_11 | c_11
        · have hw := hw.1 c_11
          refine lv_tableIn (tgt := 72) (off := 50) hx hb dXs_callAt_22 (by rw [c_11]; decide) (by rw [c_11]; decide) (by rw [c_11]; decide) (by decide) ?_
          refine lv_aload_n hx hb dXs_callAt_72 rfl (lv_at hl 0 rfl) ?_
          refine va_get (D := (dC, dI)) (ci := 0) (v := .ref (q 3)) (C := "ServiceThreads") (T := TXs) (N := 14) hx hb hta inXs hown hK hP 0 (wX_0 q dA M_2) rfl 2 (by decide) (hta _ wt_120) (fun _ h9 => h9) rfl dXs_callAt_73 ?_
          refine va_get (D := (dC, dI)) (ci := 3) (v := .ref (q 13)) (C := "ServiceThreads$Calls") (T := TXc) (N := 5) hx hb hta inXc hown hK hP 3 (wX_3 q dA M_2) rfl 2 (by decide) (hta _ wt_75) (fun _ h9 => h9) rfl dXs_callAt_76 ?_
          refine lv_iload_n hx hb dXs_callAt_79 rfl (lv_at hl 1 rfl) ?_
          obtain ⟨h_12, hw⟩ := hw
          refine ro_i (w := (wX q dA)) (M := M_2) hx hb hK hP 13 8 (wX_13 q dA M_2) rfl h_12 dXs_callAt_80 (fun y_13 ey_13 => ?_)
          have hw := hw y_13 ey_13
          refine vx_ret ?_
          refine W.widen (k := 1) (n := 6) (Nat.le_of_ble_eq_true rfl) (Nat.le_of_ble_eq_true rfl) ?_
          exact W.iret (v := y_13) hx hb hr (fun t ht hW => ⟨⟨y_13, M_2, rfl, hw, by rw [ht]; exact hP, va_K.moved hW.alike hK, hD⟩, hS.F ht⟩) hS.2.2 dXs_callAt_81 hlocks
        · have hw := hw.2 c_11
          rcases Classical.em (p1 = 3) with c_14 | c_14
          · have hw := hw.1 c_14
            refine lv_tableIn (tgt := 82) (off := 60) hx hb dXs_callAt_22 (by rw [c_14]; decide) (by rw [c_14]; decide) (by rw [c_14]; decide) (by decide) ?_
            refine lv_aload_n hx hb dXs_callAt_82 rfl (lv_at hl 0 rfl) ?_
            refine va_get (D := (dC, dI)) (ci := 0) (v := .ref (q 3)) (C := "ServiceThreads") (T := TXs) (N := 14) hx hb hta inXs hown hK hP 0 (wX_0 q dA M_2) rfl 2 (by decide) (hta _ wt_120) (fun _ h9 => h9) rfl dXs_callAt_83 ?_
            refine va_get (D := (dC, dI)) (ci := 3) (v := .ref (q 14)) (C := "ServiceThreads$Calls") (T := TXc) (N := 5) hx hb hta inXc hown hK hP 3 (wX_3 q dA M_2) rfl 3 (by decide) (hta _ wt_77) (fun _ h9 => h9) rfl dXs_callAt_86 ?_
            refine lv_iload_n hx hb dXs_callAt_89 rfl (lv_at hl 1 rfl) ?_
            obtain ⟨h_15, hw⟩ := hw
            refine ro_z (w := (wX q dA)) (M := M_2) hx hb hK hP 14 9 (wX_14 q dA M_2) rfl h_15 dXs_callAt_90 (fun y_16 ey_16 => ?_)
            have hw := hw y_16 ey_16
            refine lv_if_eq (tgt := 98) hx hb dXs_callAt_91 (by decide) (fun c_17 => ?_) (fun c_17 => ?_)
            · have hw := hw.1 c_17
              refine lv_iconst (v := 0) hx hb dXs_callAt_98 (by decide) ?_
              refine vx_ret ?_
              refine W.widen (k := 1) (n := 6) (Nat.le_of_ble_eq_true rfl) (Nat.le_of_ble_eq_true rfl) ?_
              exact W.iret (v := 0) hx hb hr (fun t ht hW => ⟨⟨0, M_2, rfl, hw, by rw [ht]; exact hP, va_K.moved hW.alike hK, hD⟩, hS.F ht⟩) hS.2.2 dXs_callAt_99 hlocks
            · have hw := hw.2 c_17
              refine lv_iconst (v := 1) hx hb dXs_callAt_94 (by decide) ?_
              refine lv_goto (tgt := 99) hx hb dXs_callAt_95 (by decide) ?_
              refine vx_ret ?_
              refine W.widen (k := 1) (n := 6) (Nat.le_of_ble_eq_true rfl) (Nat.le_of_ble_eq_true rfl) ?_
              exact W.iret (v := 1) hx hb hr (fun t ht hW => ⟨⟨1, M_2, rfl, hw, by rw [ht]; exact hP, va_K.moved hW.alike hK, hD⟩, hS.F ht⟩) hS.2.2 dXs_callAt_99 hlocks
          · have hw := hw.2 c_14
            refine lv_tableOut (tgt := 100) hx hb dXs_callAt_22 (by have n0 := lv_neT c_5 (show (0 : Int32).toInt = 0 by decide); have n1 := lv_neT c_8 (show (1 : Int32).toInt = 1 by decide); have n2 := lv_neT c_11 (show (2 : Int32).toInt = 2 by decide); have n3 := lv_neT c_14 (show (3 : Int32).toInt = 3 by decide); omega) (by decide) ?_
            obtain ⟨sa9, hsa9⟩ := sX_s14 hsp
            exact vx_throwS (own := "ServiceThreads") (cls := "java/lang/IllegalArgumentException") (names := ["java/lang/RuntimeException", "java/lang/Exception"]) hx hb hl9 hown (by decide +kernel) (by decide +kernel) (hta _ wt_199) (hta _ wt_11) hsa9 (vx_hat (L := vx_atS "ServiceThreads" 78 "java/lang/IllegalArgumentException" ["java/lang/RuntimeException", "java/lang/Exception"]) (B := [.castable "java/lang/IllegalArgumentException" "java/lang/IllegalArgumentException", .declares ⟨"java/lang/RuntimeException", "<init>", "(Ljava/lang/String;)V"⟩, .declares ⟨"java/lang/Exception", "<init>", "(Ljava/lang/String;)V"⟩, .declares ⟨"java/lang/Throwable", "<init>", "(Ljava/lang/String;)V"⟩]) (fun w hw => hta w (vxw_0 w hw)) vxw_0b (vx_c (va_Nw.use rfl (sX_w0 hsp)) (vx_c (va_Nw.use rfl (sX_w1 hsp)) (vx_c (va_Nw.use rfl (sX_w2 hsp)) (vx_c (va_Nw.use rfl (sX_w3 hsp)) (vx_n)))))) vxw_0g hZ.1 hZ.2 hS (hl.1.trans hml.symm) dXs_callAt_100 dXs_callAt_103 dXs_callAt_104 dXs_callAt_106 dXs_callAt_109 (fun x hx => (hEx x hx).elim) (Nat.le_of_ble_eq_true rfl) (Nat.le_of_ble_eq_true rfl) (Nat.le_of_ble_eq_true rfl) (Nat.le_of_ble_eq_true rfl) hlocks (th_x (px := px) (k := 0) hP hK hD hS hw) hS.2.2 (Nat.le_of_ble_eq_true rfl) (Nat.le_of_ble_eq_true rfl)
  · have hw := hw.1 c_3
    obtain ⟨sa9, hsa9⟩ := sX_s15 hsp
    exact vx_throwS (own := "ServiceThreads") (cls := "java/lang/IllegalArgumentException") (names := ["java/lang/RuntimeException", "java/lang/Exception"]) hx hb hl9 hown (by decide +kernel) (by decide +kernel) (hta _ wt_199) (hta _ wt_11) hsa9 (vx_hat (L := vx_atS "ServiceThreads" 78 "java/lang/IllegalArgumentException" ["java/lang/RuntimeException", "java/lang/Exception"]) (B := [.castable "java/lang/IllegalArgumentException" "java/lang/IllegalArgumentException", .declares ⟨"java/lang/RuntimeException", "<init>", "(Ljava/lang/String;)V"⟩, .declares ⟨"java/lang/Exception", "<init>", "(Ljava/lang/String;)V"⟩, .declares ⟨"java/lang/Throwable", "<init>", "(Ljava/lang/String;)V"⟩]) (fun w hw => hta w (vxw_0 w hw)) vxw_0b (vx_c (va_Nw.use rfl (sX_w0 hsp)) (vx_c (va_Nw.use rfl (sX_w1 hsp)) (vx_c (va_Nw.use rfl (sX_w2 hsp)) (vx_c (va_Nw.use rfl (sX_w3 hsp)) (vx_n)))))) vxw_0g hZ.1 hZ.2 hS (hl.1.trans hml.symm) dXs_callAt_11 dXs_callAt_14 dXs_callAt_15 dXs_callAt_17 dXs_callAt_20 (fun x hx => (hEx x hx).elim) (Nat.le_of_ble_eq_true rfl) (Nat.le_of_ble_eq_true rfl) (Nat.le_of_ble_eq_true rfl) (Nat.le_of_ble_eq_true rfl) hlocks (th_x (px := px) (k := 0) hP hK hD hS hw) hS.2.2 (Nat.le_of_ble_eq_true rfl) (Nat.le_of_ble_eq_true rfl)
def wpXs_thread (p0 : Int32) (p1 : Int32) (M : Mm) (post : Int32 → Mm → Prop) (px : Nat → Mm → Prop) : Prop := ((wpXs_requireThread p0 M (fun M_2 => (((p1 = 0 → (vp_in p0 8 ∧ (∀ y_6 : Int32, y_6 = M_2 14 p0.toNatClampNeg → (post y_6 M_2)))) ∧ (¬ p1 = 0 → (((p1 = 1 → (vp_in p0 8 ∧ (∀ y_9 : Int32, y_9 = M_2 15 p0.toNatClampNeg → (post y_9 M_2)))) ∧ (¬ p1 = 1 → (((p1 = 2 → (vp_in p0 8 ∧ (∀ y_12 : Int32, y_12 = M_2 16 p0.toNatClampNeg → (post y_12 M_2)))) ∧ (¬ p1 = 2 → (((p1 = 3 → (wpXu_lockedByCount p0 M_2 (fun r_14 M_15 => (post r_14 M_15)))) ∧ (¬ p1 = 3 → (((p1 = 4 → (vp_in p0 8 ∧ (∀ y_18 : Int32, y_18 = M_2 17 p0.toNatClampNeg → (post y_18 M_2)))) ∧ (¬ p1 = 4 → (((p1 = 5 → (vp_in p0 8 ∧ (∀ y_21 : Int32, y_21 = M_2 18 p0.toNatClampNeg → (post y_21 M_2)))) ∧ (¬ p1 = 5 → (px 0 M_2)))))))))))))))))))) (fun _ _ => False)) ∨ (wpXs_requireThread p0 M (fun _ => False) px))
set_option maxHeartbeats 4000000 in
set_option maxRecDepth 100000 in
theorem mtnXs_thread (l : Launch) (dC : Nat → ClassId) (dI : Nat → Nat → Nat) (q : Nat → Nat) (dA : Nat → ClassId) (sz : Nat) (p0 : Int32) (p1 : Int32) (M : Mm) (post : Int32 → Mm → Prop) (hw : wpXs_thread p0 p1 M post (fun _ _ => False)) : Met l yXs_thread (wsA yXs_thread cXs_thread 3 (some .int)) ({ frames := 1, cells := 0, slots := 0, locals := 23 }) (va_Pc [.ref (q 0), .int p0, .int p1] (pW (dC, dI) vwCl (wX q dA) (tX dA) sz M)) (va_Qi post (bW (dC, dI) vwCl (wX q dA) (tX dA) (va_A (wX q dA M) sz)) (va_A (wX q dA M) sz)) 0 0 (va_A (wX q dA M) sz) := by
  refine Met.ofW (cc := cXs_thread) (maxL := 3) (ret := (some .int)) (by decide) rfl ?_
  intro p e s m args below meth c s₁ B hml hv
  obtain ⟨rfl, hsz, hP, hK, hD0⟩ := hv
  have hx := B.exec
  have hb := B.bytes
  have hr := B.returns
  have hts := atoms_spec (ws := (wsA yXs_thread cXs_thread 3 (some .int))) B.pre
  have hta : ∀ w ∈ wsG, w.before _ s = true := fun w h => hts w (List.mem_cons_of_mem _ h)
  have hown : s.vm.findClass "ServiceThreads" = some m.cls := findClass_of_methodNamed B.named
  have hlocks := B.notSynchronized
  subst hsz
  have hD := hD0.self (sz := s.heap.size)
  generalize hAe : va_A (wX q dA M) s.heap.size = A at hD ⊢
  have hA : ∀ q : Nat, s.heap.size ≤ q → A q := fun q h => by rw [← hAe]; exact Or.inr h
  have hS : va_S A s.heap s.heap [] := va_S.rf
  dsimp only [wpXs_thread] at hw
  have hl := lv_entry ([.ref (q 0), .int p0, .int p1]) (n := 3) (Nat.le_of_ble_eq_true rfl)
  rw [lg_entry_eq]
  generalize (lg_sl ([.ref (q 0), .int p0, .int p1]) ++ List.replicate (3 - (lg_sl ([.ref (q 0), .int p0, .int p1])).length) Slot.unset).toArray = ls at hl ⊢
  have hl : lv_has ls 3 [(0, .ref (q 0)), (1, .int p0), (2, .int p1)] := hl
  refine lv_iload_n hx hb dXs_thread_0 rfl (lv_at hl 1 rfl) ?_
  rcases hw with hw | hw
  · refine cn_v (w := (wX q dA)) (M := M) (wX_ad q dA) (va_runS (As := [.int p0]) (rest := []) ⟨hx, hb, hml, hown, hta⟩ (mtnXs_requireThread l dC dI q dA s.heap.size p0 M _ hw) (va_cwS 1 hta (giS wt_196 wt_197 wt_1 wt_198) rfl rfl rfl (by decide +kernel) ⟨Nat.le_of_ble_eq_true rfl, Nat.le_of_ble_eq_true rfl⟩) ⟨pW_blind, pW_of hK hP hD⟩ rfl rfl hl.1 rfl (lv_room (Nat.le_of_ble_eq_true rfl)) dXs_thread_1 ⟨Nat.le_of_ble_eq_true rfl, Nat.le_of_ble_eq_true rfl⟩) hD hS hA (fun M_2 H locs hw hP hD hS => ?_)
    refine lv_iload_n hx hb dXs_thread_4 rfl (lv_at hl 2 rfl) ?_
    rcases Classical.em (p1 = 0) with c_4 | c_4
    · have hw := hw.1 c_4
      refine lv_tableIn (tgt := 44) (off := 39) hx hb dXs_thread_5 (by rw [c_4]; decide) (by rw [c_4]; decide) (by rw [c_4]; decide) (by decide) ?_
      refine lv_aload_n hx hb dXs_thread_44 rfl (lv_at hl 0 rfl) ?_
      refine va_get (D := (dC, dI)) (ci := 0) (v := .ref (q 19)) (C := "ServiceThreads") (T := TXs) (N := 14) hx hb hta inXs hown hK hP 0 (wX_0 q dA M_2) rfl 4 (by decide) (hta _ wt_122) (fun _ h9 => h9) rfl dXs_thread_45 ?_
      refine lv_iload_n hx hb dXs_thread_48 rfl (lv_at hl 1 rfl) ?_
      obtain ⟨h_5, hw⟩ := hw
      refine ro_i (w := (wX q dA)) (M := M_2) hx hb hK hP 19 14 (wX_19 q dA M_2) rfl h_5 dXs_thread_49 (fun y_6 ey_6 => ?_)
      have hw := hw y_6 ey_6
      exact W.iret (v := y_6) hx hb hr (fun t ht hW => ⟨⟨y_6, M_2, rfl, hw, by rw [ht]; exact hP, va_K.moved hW.alike hK, hD⟩, hS.F ht⟩) hS.2.2 dXs_thread_50 hlocks
    · have hw := hw.2 c_4
      rcases Classical.em (p1 = 1) with c_7 | c_7
      · have hw := hw.1 c_7
        refine lv_tableIn (tgt := 51) (off := 46) hx hb dXs_thread_5 (by rw [c_7]; decide) (by rw [c_7]; decide) (by rw [c_7]; decide) (by decide) ?_
        refine lv_aload_n hx hb dXs_thread_51 rfl (lv_at hl 0 rfl) ?_
        refine va_get (D := (dC, dI)) (ci := 0) (v := .ref (q 20)) (C := "ServiceThreads") (T := TXs) (N := 14) hx hb hta inXs hown hK hP 0 (wX_0 q dA M_2) rfl 5 (by decide) (hta _ wt_123) (fun _ h9 => h9) rfl dXs_thread_52 ?_
        refine lv_iload_n hx hb dXs_thread_55 rfl (lv_at hl 1 rfl) ?_
        obtain ⟨h_8, hw⟩ := hw
        refine ro_i (w := (wX q dA)) (M := M_2) hx hb hK hP 20 15 (wX_20 q dA M_2) rfl h_8 dXs_thread_56 (fun y_9 ey_9 => ?_)
        have hw := hw y_9 ey_9
        exact W.iret (v := y_9) hx hb hr (fun t ht hW => ⟨⟨y_9, M_2, rfl, hw, by rw [ht]; exact hP, va_K.moved hW.alike hK, hD⟩, hS.F ht⟩) hS.2.2 dXs_thread_57 hlocks
      · have hw := hw.2 c_7
        rcases Classical.em (p1 = 2) with c_10 | c_10
        · have hw := hw.1 c_10
          refine lv_tableIn (tgt := 58) (off := 53) hx hb dXs_thread_5 (by rw [c_10]; decide) (by rw [c_10]; decide) (by rw [c_10]; decide) (by decide) ?_
          refine lv_aload_n hx hb dXs_thread_58 rfl (lv_at hl 0 rfl) ?_
          refine va_get (D := (dC, dI)) (ci := 0) (v := .ref (q 21)) (C := "ServiceThreads") (T := TXs) (N := 14) hx hb hta inXs hown hK hP 0 (wX_0 q dA M_2) rfl 6 (by decide) (hta _ wt_124) (fun _ h9 => h9) rfl dXs_thread_59 ?_
          refine lv_iload_n hx hb dXs_thread_62 rfl (lv_at hl 1 rfl) ?_
          obtain ⟨h_11, hw⟩ := hw
          refine ro_i (w := (wX q dA)) (M := M_2) hx hb hK hP 21 16 (wX_21 q dA M_2) rfl h_11 dXs_thread_63 (fun y_12 ey_12 => ?_)
          have hw := hw y_12 ey_12
          exact W.iret (v := y_12) hx hb hr (fun t ht hW => ⟨⟨y_12, M_2, rfl, hw, by rw [ht]; exact hP, va_K.moved hW.alike hK, hD⟩, hS.F ht⟩) hS.2.2 dXs_thread_64 hlocks
        · have hw := hw.2 c_10
          rcases Classical.em (p1 = 3) with c_13 | c_13
          · have hw := hw.1 c_13
            refine lv_tableIn (tgt := 65) (off := 60) hx hb dXs_thread_5 (by rw [c_13]; decide) (by rw [c_13]; decide) (by rw [c_13]; decide) (by decide) ?_
            refine lv_aload_n hx hb dXs_thread_65 rfl (lv_at hl 0 rfl) ?_
            refine va_get (D := (dC, dI)) (ci := 0) (v := .ref (q 2)) (C := "ServiceThreads") (T := TXs) (N := 14) hx hb hta inXs hown hK hP 0 (wX_0 q dA M_2) rfl 1 (by decide) (hta _ wt_119) (fun _ h9 => h9) rfl dXs_thread_66 ?_
            refine lv_iload_n hx hb dXs_thread_69 rfl (lv_at hl 1 rfl) ?_
            refine cn_i (w := (wX q dA)) (M := M_2) (wX_ad q dA) (va_runV (As := [.int p0]) (rest := []) ⟨hx, hb, hml, hown, hta⟩ (mtXu_lockedByCount l dC dI q dA H.size p0 M_2 _ hw) (cwV 1 hta (giV wt_516 wt_517 wt_518 wt_4 wt_519) rfl rfl rfl (by decide +kernel) ⟨Nat.le_of_ble_eq_true rfl, Nat.le_of_ble_eq_true rfl⟩) ⟨pW_blind, va_recv hK hP (ci := 2) (q0 := 2) rfl (wX_2 q dA M_2), pW_of hK hP hD⟩ rfl rfl hl.1 rfl (lv_room (Nat.le_of_ble_eq_true rfl)) dXs_thread_70 ⟨Nat.le_of_ble_eq_true rfl, Nat.le_of_ble_eq_true rfl⟩) hD hS hA (fun r_14 M_15 H locs hw hP hD hS => ?_)
            exact W.iret (v := r_14) hx hb hr (fun t ht hW => ⟨⟨r_14, M_15, rfl, hw, by rw [ht]; exact hP, va_K.moved hW.alike hK, hD⟩, hS.F ht⟩) hS.2.2 dXs_thread_73 hlocks
          · have hw := hw.2 c_13
            rcases Classical.em (p1 = 4) with c_16 | c_16
            · have hw := hw.1 c_16
              refine lv_tableIn (tgt := 74) (off := 69) hx hb dXs_thread_5 (by rw [c_16]; decide) (by rw [c_16]; decide) (by rw [c_16]; decide) (by decide) ?_
              refine lv_aload_n hx hb dXs_thread_74 rfl (lv_at hl 0 rfl) ?_
              refine va_get (D := (dC, dI)) (ci := 0) (v := .ref (q 22)) (C := "ServiceThreads") (T := TXs) (N := 14) hx hb hta inXs hown hK hP 0 (wX_0 q dA M_2) rfl 7 (by decide) (hta _ wt_125) (fun _ h9 => h9) rfl dXs_thread_75 ?_
              refine lv_iload_n hx hb dXs_thread_78 rfl (lv_at hl 1 rfl) ?_
              obtain ⟨h_17, hw⟩ := hw
              refine ro_i (w := (wX q dA)) (M := M_2) hx hb hK hP 22 17 (wX_22 q dA M_2) rfl h_17 dXs_thread_79 (fun y_18 ey_18 => ?_)
              have hw := hw y_18 ey_18
              exact W.iret (v := y_18) hx hb hr (fun t ht hW => ⟨⟨y_18, M_2, rfl, hw, by rw [ht]; exact hP, va_K.moved hW.alike hK, hD⟩, hS.F ht⟩) hS.2.2 dXs_thread_80 hlocks
            · have hw := hw.2 c_16
              rcases Classical.em (p1 = 5) with c_19 | c_19
              · have hw := hw.1 c_19
                refine lv_tableIn (tgt := 81) (off := 76) hx hb dXs_thread_5 (by rw [c_19]; decide) (by rw [c_19]; decide) (by rw [c_19]; decide) (by decide) ?_
                refine lv_aload_n hx hb dXs_thread_81 rfl (lv_at hl 0 rfl) ?_
                refine va_get (D := (dC, dI)) (ci := 0) (v := .ref (q 23)) (C := "ServiceThreads") (T := TXs) (N := 14) hx hb hta inXs hown hK hP 0 (wX_0 q dA M_2) rfl 8 (by decide) (hta _ wt_126) (fun _ h9 => h9) rfl dXs_thread_82 ?_
                refine lv_iload_n hx hb dXs_thread_85 rfl (lv_at hl 1 rfl) ?_
                obtain ⟨h_20, hw⟩ := hw
                refine ro_i (w := (wX q dA)) (M := M_2) hx hb hK hP 23 18 (wX_23 q dA M_2) rfl h_20 dXs_thread_86 (fun y_21 ey_21 => ?_)
                have hw := hw y_21 ey_21
                exact W.iret (v := y_21) hx hb hr (fun t ht hW => ⟨⟨y_21, M_2, rfl, hw, by rw [ht]; exact hP, va_K.moved hW.alike hK, hD⟩, hS.F ht⟩) hS.2.2 dXs_thread_87 hlocks
              · have hw := hw.2 c_19
                refine lv_tableOut (tgt := 88) hx hb dXs_thread_5 (by have n0 := lv_neT c_4 (show (0 : Int32).toInt = 0 by decide); have n1 := lv_neT c_7 (show (1 : Int32).toInt = 1 by decide); have n2 := lv_neT c_10 (show (2 : Int32).toInt = 2 by decide); have n3 := lv_neT c_13 (show (3 : Int32).toInt = 3 by decide); have n4 := lv_neT c_16 (show (4 : Int32).toInt = 4 by decide); have n5 := lv_neT c_19 (show (5 : Int32).toInt = 5 by decide); omega) (by decide) ?_
                exact False.elim hw
  · exact cn_v (w := (wX q dA)) (M := M) (wX_ad q dA) (va_runS (As := [.int p0]) (rest := []) ⟨hx, hb, hml, hown, hta⟩ (mtnXs_requireThread l dC dI q dA s.heap.size p0 M _ hw) (va_cwS 1 hta (giS wt_196 wt_197 wt_1 wt_198) rfl rfl rfl (by decide +kernel) ⟨Nat.le_of_ble_eq_true rfl, Nat.le_of_ble_eq_true rfl⟩) ⟨pW_blind, pW_of hK hP hD⟩ rfl rfl hl.1 rfl (lv_room (Nat.le_of_ble_eq_true rfl)) dXs_thread_1 ⟨Nat.le_of_ble_eq_true rfl, Nat.le_of_ble_eq_true rfl⟩) hD hS hA (fun M_2 H locs hw hP hD hS => False.elim hw)
set_option maxHeartbeats 4000000 in
set_option maxRecDepth 100000 in
theorem mtXs_thread (l : Launch) (hl9 : l.stackTraces = false) (dC : Nat → ClassId) (dI : Nat → Nat → Nat) (q : Nat → Nat) (dA : Nat → ClassId) (sz : Nat) (p0 : Int32) (p1 : Int32) (M : Mm) (post : Int32 → Mm → Prop) (px : Nat → Mm → Prop) (hw : wpXs_thread p0 p1 M post px) : vx_Met l yXs_thread (wsA yXs_thread cXs_thread 3 (some .int)) ({ frames := 7, cells := 1, slots := 6, locals := 102 }) (va_Pc [.ref (q 0), .int p0, .int p1] (pWx (dC, dI) vwCl (wX q dA) (tX dA) sX sz M)) (va_Qi post (bW (dC, dI) vwCl (wX q dA) (tX dA) (va_A (wX q dA M) sz)) (va_A (wX q dA M) sz)) (vx_X (fun u : Nat × Mm => px u.1 u.2) (xW (dC, dI) vwCl (wX q dA) (tX dA) (va_A (wX q dA M) sz)) (va_A (wX q dA M) sz)) 1 6 (va_A (wX q dA M) sz) := by
  refine vx_ofW (cc := cXs_thread) (maxL := 3) (ret := (some .int)) (by decide) rfl ?_
  intro p e s m args below meth c s₁ B hml hEx hv
  obtain ⟨rfl, hsz, hP, hK, hD0, hZ, hsp⟩ := hv
  have hx := B.exec
  have hb := B.bytes
  have hr := B.returns
  have hts := atoms_spec (ws := (wsA yXs_thread cXs_thread 3 (some .int))) B.pre
  have hta : ∀ w ∈ wsG, w.before _ s = true := fun w h => hts w (List.mem_cons_of_mem _ h)
  have hown : s.vm.findClass "ServiceThreads" = some m.cls := findClass_of_methodNamed B.named
  have hlocks := B.notSynchronized
  subst hsz
  have hD := hD0.self (sz := s.heap.size)
  generalize hAe : va_A (wX q dA M) s.heap.size = A at hD hZ ⊢
  have hA : ∀ q : Nat, s.heap.size ≤ q → A q := fun q h => by rw [← hAe]; exact Or.inr h
  have hS : va_S A s.heap s.heap [] := va_S.rf
  dsimp only [wpXs_thread] at hw
  have hl := lv_entry ([.ref (q 0), .int p0, .int p1]) (n := 3) (Nat.le_of_ble_eq_true rfl)
  rw [lg_entry_eq]
  generalize (lg_sl ([.ref (q 0), .int p0, .int p1]) ++ List.replicate (3 - (lg_sl ([.ref (q 0), .int p0, .int p1])).length) Slot.unset).toArray = ls at hl ⊢
  have hl : lv_has ls 3 [(0, .ref (q 0)), (1, .int p0), (2, .int p1)] := hl
  refine lv_iload_n hx hb dXs_thread_0 rfl (lv_at hl 1 rfl) ?_
  rcases hw with hw | hw
  · refine cn_v (w := (wX q dA)) (M := M) (wX_ad q dA) (va_runS (As := [.int p0]) (rest := []) ⟨hx, hb, hml, hown, hta⟩ (mtnXs_requireThread l dC dI q dA s.heap.size p0 M _ hw) (va_cwS 1 hta (giS wt_196 wt_197 wt_1 wt_198) rfl rfl rfl (by decide +kernel) ⟨Nat.le_of_ble_eq_true rfl, Nat.le_of_ble_eq_true rfl⟩) ⟨pW_blind, pW_of hK hP hD⟩ rfl rfl hl.1 rfl (lv_room (Nat.le_of_ble_eq_true rfl)) dXs_thread_1 ⟨Nat.le_of_ble_eq_true rfl, Nat.le_of_ble_eq_true rfl⟩) hD hS hA (fun M_2 H locs hw hP hD hS => ?_)
    refine lv_iload_n hx hb dXs_thread_4 rfl (lv_at hl 2 rfl) ?_
    rcases Classical.em (p1 = 0) with c_4 | c_4
    · have hw := hw.1 c_4
      refine lv_tableIn (tgt := 44) (off := 39) hx hb dXs_thread_5 (by rw [c_4]; decide) (by rw [c_4]; decide) (by rw [c_4]; decide) (by decide) ?_
      refine lv_aload_n hx hb dXs_thread_44 rfl (lv_at hl 0 rfl) ?_
      refine va_get (D := (dC, dI)) (ci := 0) (v := .ref (q 19)) (C := "ServiceThreads") (T := TXs) (N := 14) hx hb hta inXs hown hK hP 0 (wX_0 q dA M_2) rfl 4 (by decide) (hta _ wt_122) (fun _ h9 => h9) rfl dXs_thread_45 ?_
      refine lv_iload_n hx hb dXs_thread_48 rfl (lv_at hl 1 rfl) ?_
      obtain ⟨h_5, hw⟩ := hw
      refine ro_i (w := (wX q dA)) (M := M_2) hx hb hK hP 19 14 (wX_19 q dA M_2) rfl h_5 dXs_thread_49 (fun y_6 ey_6 => ?_)
      have hw := hw y_6 ey_6
      refine vx_ret ?_
      refine W.widen (k := 1) (n := 6) (Nat.le_of_ble_eq_true rfl) (Nat.le_of_ble_eq_true rfl) ?_
      exact W.iret (v := y_6) hx hb hr (fun t ht hW => ⟨⟨y_6, M_2, rfl, hw, by rw [ht]; exact hP, va_K.moved hW.alike hK, hD⟩, hS.F ht⟩) hS.2.2 dXs_thread_50 hlocks
    · have hw := hw.2 c_4
      rcases Classical.em (p1 = 1) with c_7 | c_7
      · have hw := hw.1 c_7
        refine lv_tableIn (tgt := 51) (off := 46) hx hb dXs_thread_5 (by rw [c_7]; decide) (by rw [c_7]; decide) (by rw [c_7]; decide) (by decide) ?_
        refine lv_aload_n hx hb dXs_thread_51 rfl (lv_at hl 0 rfl) ?_
        refine va_get (D := (dC, dI)) (ci := 0) (v := .ref (q 20)) (C := "ServiceThreads") (T := TXs) (N := 14) hx hb hta inXs hown hK hP 0 (wX_0 q dA M_2) rfl 5 (by decide) (hta _ wt_123) (fun _ h9 => h9) rfl dXs_thread_52 ?_
        refine lv_iload_n hx hb dXs_thread_55 rfl (lv_at hl 1 rfl) ?_
        obtain ⟨h_8, hw⟩ := hw
        refine ro_i (w := (wX q dA)) (M := M_2) hx hb hK hP 20 15 (wX_20 q dA M_2) rfl h_8 dXs_thread_56 (fun y_9 ey_9 => ?_)
        have hw := hw y_9 ey_9
        refine vx_ret ?_
        refine W.widen (k := 1) (n := 6) (Nat.le_of_ble_eq_true rfl) (Nat.le_of_ble_eq_true rfl) ?_
        exact W.iret (v := y_9) hx hb hr (fun t ht hW => ⟨⟨y_9, M_2, rfl, hw, by rw [ht]; exact hP, va_K.moved hW.alike hK, hD⟩, hS.F ht⟩) hS.2.2 dXs_thread_57 hlocks
      · have hw := hw.2 c_7
        rcases Classical.em (p1 = 2) with c_10 | c_10
        · have hw := hw.1 c_10
          refine lv_tableIn (tgt := 58) (off := 53) hx hb dXs_thread_5 (by rw [c_10]; decide) (by rw [c_10]; decide) (by rw [c_10]; decide) (by decide) ?_
          refine lv_aload_n hx hb dXs_thread_58 rfl (lv_at hl 0 rfl) ?_
          refine va_get (D := (dC, dI)) (ci := 0) (v := .ref (q 21)) (C := "ServiceThreads") (T := TXs) (N := 14) hx hb hta inXs hown hK hP 0 (wX_0 q dA M_2) rfl 6 (by decide) (hta _ wt_124) (fun _ h9 => h9) rfl dXs_thread_59 ?_
          refine lv_iload_n hx hb dXs_thread_62 rfl (lv_at hl 1 rfl) ?_
          obtain ⟨h_11, hw⟩ := hw
          refine ro_i (w := (wX q dA)) (M := M_2) hx hb hK hP 21 16 (wX_21 q dA M_2) rfl h_11 dXs_thread_63 (fun y_12 ey_12 => ?_)
          have hw := hw y_12 ey_12
          refine vx_ret ?_
          refine W.widen (k := 1) (n := 6) (Nat.le_of_ble_eq_true rfl) (Nat.le_of_ble_eq_true rfl) ?_
          exact W.iret (v := y_12) hx hb hr (fun t ht hW => ⟨⟨y_12, M_2, rfl, hw, by rw [ht]; exact hP, va_K.moved hW.alike hK, hD⟩, hS.F ht⟩) hS.2.2 dXs_thread_64 hlocks
        · have hw := hw.2 c_10
          rcases Classical.em (p1 = 3) with c_13 | c_13
          · have hw := hw.1 c_13
            refine lv_tableIn (tgt := 65) (off := 60) hx hb dXs_thread_5 (by rw [c_13]; decide) (by rw [c_13]; decide) (by rw [c_13]; decide) (by decide) ?_
            refine lv_aload_n hx hb dXs_thread_65 rfl (lv_at hl 0 rfl) ?_
            refine va_get (D := (dC, dI)) (ci := 0) (v := .ref (q 2)) (C := "ServiceThreads") (T := TXs) (N := 14) hx hb hta inXs hown hK hP 0 (wX_0 q dA M_2) rfl 1 (by decide) (hta _ wt_119) (fun _ h9 => h9) rfl dXs_thread_66 ?_
            refine lv_iload_n hx hb dXs_thread_69 rfl (lv_at hl 1 rfl) ?_
            refine cn_i (w := (wX q dA)) (M := M_2) (wX_ad q dA) (va_runV (As := [.int p0]) (rest := []) ⟨hx, hb, hml, hown, hta⟩ (mtXu_lockedByCount l dC dI q dA H.size p0 M_2 _ hw) (cwV 1 hta (giV wt_516 wt_517 wt_518 wt_4 wt_519) rfl rfl rfl (by decide +kernel) ⟨Nat.le_of_ble_eq_true rfl, Nat.le_of_ble_eq_true rfl⟩) ⟨pW_blind, va_recv hK hP (ci := 2) (q0 := 2) rfl (wX_2 q dA M_2), pW_of hK hP hD⟩ rfl rfl hl.1 rfl (lv_room (Nat.le_of_ble_eq_true rfl)) dXs_thread_70 ⟨Nat.le_of_ble_eq_true rfl, Nat.le_of_ble_eq_true rfl⟩) hD hS hA (fun r_14 M_15 H locs hw hP hD hS => ?_)
            refine vx_ret ?_
            refine W.widen (k := 1) (n := 6) (Nat.le_of_ble_eq_true rfl) (Nat.le_of_ble_eq_true rfl) ?_
            exact W.iret (v := r_14) hx hb hr (fun t ht hW => ⟨⟨r_14, M_15, rfl, hw, by rw [ht]; exact hP, va_K.moved hW.alike hK, hD⟩, hS.F ht⟩) hS.2.2 dXs_thread_73 hlocks
          · have hw := hw.2 c_13
            rcases Classical.em (p1 = 4) with c_16 | c_16
            · have hw := hw.1 c_16
              refine lv_tableIn (tgt := 74) (off := 69) hx hb dXs_thread_5 (by rw [c_16]; decide) (by rw [c_16]; decide) (by rw [c_16]; decide) (by decide) ?_
              refine lv_aload_n hx hb dXs_thread_74 rfl (lv_at hl 0 rfl) ?_
              refine va_get (D := (dC, dI)) (ci := 0) (v := .ref (q 22)) (C := "ServiceThreads") (T := TXs) (N := 14) hx hb hta inXs hown hK hP 0 (wX_0 q dA M_2) rfl 7 (by decide) (hta _ wt_125) (fun _ h9 => h9) rfl dXs_thread_75 ?_
              refine lv_iload_n hx hb dXs_thread_78 rfl (lv_at hl 1 rfl) ?_
              obtain ⟨h_17, hw⟩ := hw
              refine ro_i (w := (wX q dA)) (M := M_2) hx hb hK hP 22 17 (wX_22 q dA M_2) rfl h_17 dXs_thread_79 (fun y_18 ey_18 => ?_)
              have hw := hw y_18 ey_18
              refine vx_ret ?_
              refine W.widen (k := 1) (n := 6) (Nat.le_of_ble_eq_true rfl) (Nat.le_of_ble_eq_true rfl) ?_
              exact W.iret (v := y_18) hx hb hr (fun t ht hW => ⟨⟨y_18, M_2, rfl, hw, by rw [ht]; exact hP, va_K.moved hW.alike hK, hD⟩, hS.F ht⟩) hS.2.2 dXs_thread_80 hlocks
            · have hw := hw.2 c_16
              rcases Classical.em (p1 = 5) with c_19 | c_19
              · have hw := hw.1 c_19
                refine lv_tableIn (tgt := 81) (off := 76) hx hb dXs_thread_5 (by rw [c_19]; decide) (by rw [c_19]; decide) (by rw [c_19]; decide) (by decide) ?_
                refine lv_aload_n hx hb dXs_thread_81 rfl (lv_at hl 0 rfl) ?_
                refine va_get (D := (dC, dI)) (ci := 0) (v := .ref (q 23)) (C := "ServiceThreads") (T := TXs) (N := 14) hx hb hta inXs hown hK hP 0 (wX_0 q dA M_2) rfl 8 (by decide) (hta _ wt_126) (fun _ h9 => h9) rfl dXs_thread_82 ?_
                refine lv_iload_n hx hb dXs_thread_85 rfl (lv_at hl 1 rfl) ?_
                obtain ⟨h_20, hw⟩ := hw
                refine ro_i (w := (wX q dA)) (M := M_2) hx hb hK hP 23 18 (wX_23 q dA M_2) rfl h_20 dXs_thread_86 (fun y_21 ey_21 => ?_)
                have hw := hw y_21 ey_21
                refine vx_ret ?_
                refine W.widen (k := 1) (n := 6) (Nat.le_of_ble_eq_true rfl) (Nat.le_of_ble_eq_true rfl) ?_
                exact W.iret (v := y_21) hx hb hr (fun t ht hW => ⟨⟨y_21, M_2, rfl, hw, by rw [ht]; exact hP, va_K.moved hW.alike hK, hD⟩, hS.F ht⟩) hS.2.2 dXs_thread_87 hlocks
              · have hw := hw.2 c_19
                refine lv_tableOut (tgt := 88) hx hb dXs_thread_5 (by have n0 := lv_neT c_4 (show (0 : Int32).toInt = 0 by decide); have n1 := lv_neT c_7 (show (1 : Int32).toInt = 1 by decide); have n2 := lv_neT c_10 (show (2 : Int32).toInt = 2 by decide); have n3 := lv_neT c_13 (show (3 : Int32).toInt = 3 by decide); have n4 := lv_neT c_16 (show (4 : Int32).toInt = 4 by decide); have n5 := lv_neT c_19 (show (5 : Int32).toInt = 5 by decide); omega) (by decide) ?_
                obtain ⟨sa9, hsa9⟩ := sX_s16 hsp
                exact vx_throwS (own := "ServiceThreads") (cls := "java/lang/IllegalArgumentException") (names := ["java/lang/RuntimeException", "java/lang/Exception"]) hx hb hl9 hown (by decide +kernel) (by decide +kernel) (hta _ wt_199) (hta _ wt_11) hsa9 (vx_hat (L := vx_atS "ServiceThreads" 78 "java/lang/IllegalArgumentException" ["java/lang/RuntimeException", "java/lang/Exception"]) (B := [.castable "java/lang/IllegalArgumentException" "java/lang/IllegalArgumentException", .declares ⟨"java/lang/RuntimeException", "<init>", "(Ljava/lang/String;)V"⟩, .declares ⟨"java/lang/Exception", "<init>", "(Ljava/lang/String;)V"⟩, .declares ⟨"java/lang/Throwable", "<init>", "(Ljava/lang/String;)V"⟩]) (fun w hw => hta w (vxw_0 w hw)) vxw_0b (vx_c (va_Nw.use rfl (sX_w0 hsp)) (vx_c (va_Nw.use rfl (sX_w1 hsp)) (vx_c (va_Nw.use rfl (sX_w2 hsp)) (vx_c (va_Nw.use rfl (sX_w3 hsp)) (vx_n)))))) vxw_0g hZ.1 hZ.2 hS (hl.1.trans hml.symm) dXs_thread_88 dXs_thread_91 dXs_thread_92 dXs_thread_94 dXs_thread_97 (fun x hx => (hEx x hx).elim) (Nat.le_of_ble_eq_true rfl) (Nat.le_of_ble_eq_true rfl) (Nat.le_of_ble_eq_true rfl) (Nat.le_of_ble_eq_true rfl) hlocks (th_x (px := px) (k := 0) hP hK hD hS hw) hS.2.2 (Nat.le_of_ble_eq_true rfl) (Nat.le_of_ble_eq_true rfl)
  · exact cx_v (w := (wX q dA)) (M := M) (wX_ad q dA) (vx_runS (As := [.int p0]) (rest := []) ⟨hx, hb, hml, hown, hta⟩ (mtXs_requireThread l hl9 dC dI q dA s.heap.size p0 M _ _ hw) (va_cwS 1 hta (giS wt_196 wt_197 wt_1 wt_198) rfl rfl rfl (by decide +kernel) ⟨Nat.le_of_ble_eq_true rfl, Nat.le_of_ble_eq_true rfl⟩) ⟨pWx_blind sX_ok, pWx_ofn sX_ok hK hP hD hS hA hZ hsp⟩ rfl rfl hl.1 rfl (lv_room (Nat.le_of_ble_eq_true rfl)) dXs_thread_1 ⟨Nat.le_of_ble_eq_true rfl, Nat.le_of_ble_eq_true rfl⟩) hD hS hA (fun k9 E9 ce q9 M9 H1 locs1 hE hw hP hD hS hce hcv hcl => vx_out (E := E9) (fun x hx => (hEx x hx).elim) hlocks hce hcv hcl (fun t ht ha => ⟨(k9, M9), hw, ⟨hE, by rw [ht]; exact hP, va_K.moved ha hK, hD⟩, hS.F ht⟩) hS.2.2 (Nat.le_of_ble_eq_true rfl) (Nat.le_of_ble_eq_true rfl)) (fun M_2 H locs hw hP hD hS => False.elim hw)
def wpXs_row (p0 : Int32) (p1 : Int32) (M : Mm) (post : Int32 → Mm → Prop) (px : Nat → Mm → Prop) : Prop := wpXr_isKnown p0 M (fun r_1 M_2 => (((r_1 = 0 → (px 0 M_2)) ∧ (¬ r_1 = 0 → (((p1 = 0 → (vp_in p0 100 ∧ (∀ y_7 : Int32, y_7 = M_2 10 p0.toNatClampNeg → (post y_7 M_2)))) ∧ (¬ p1 = 0 → (((p1 = 1 → (vp_in p0 100 ∧ (∀ y_10 : Int32, y_10 = M_2 11 p0.toNatClampNeg → (post y_10 M_2)))) ∧ (¬ p1 = 1 → (((p1 = 2 → (vp_in p0 100 ∧ (∀ y_13 : Int32, y_13 = M_2 12 p0.toNatClampNeg → (post y_13 M_2)))) ∧ (¬ p1 = 2 → (((p1 = 3 → (vp_in p0 100 ∧ (∀ y_16 : Int32, y_16 = M_2 13 p0.toNatClampNeg → (post y_16 M_2)))) ∧ (¬ p1 = 3 → (px 0 M_2)))))))))))))))))
set_option maxHeartbeats 4000000 in
set_option maxRecDepth 100000 in
theorem mtnXs_row (l : Launch) (dC : Nat → ClassId) (dI : Nat → Nat → Nat) (q : Nat → Nat) (dA : Nat → ClassId) (sz : Nat) (p0 : Int32) (p1 : Int32) (M : Mm) (post : Int32 → Mm → Prop) (hw : wpXs_row p0 p1 M post (fun _ _ => False)) : Met l yXs_row (wsA yXs_row cXs_row 3 (some .int)) ({ frames := 1, cells := 0, slots := 0, locals := 21 }) (va_Pc [.ref (q 0), .int p0, .int p1] (pW (dC, dI) vwCl (wX q dA) (tX dA) sz M)) (va_Qi post (bW (dC, dI) vwCl (wX q dA) (tX dA) (va_A (wX q dA M) sz)) (va_A (wX q dA M) sz)) 0 0 (va_A (wX q dA M) sz) := by
  refine Met.ofW (cc := cXs_row) (maxL := 3) (ret := (some .int)) (by decide) rfl ?_
  intro p e s m args below meth c s₁ B hml hv
  obtain ⟨rfl, hsz, hP, hK, hD0⟩ := hv
  have hx := B.exec
  have hb := B.bytes
  have hr := B.returns
  have hts := atoms_spec (ws := (wsA yXs_row cXs_row 3 (some .int))) B.pre
  have hta : ∀ w ∈ wsG, w.before _ s = true := fun w h => hts w (List.mem_cons_of_mem _ h)
  have hown : s.vm.findClass "ServiceThreads" = some m.cls := findClass_of_methodNamed B.named
  have hlocks := B.notSynchronized
  subst hsz
  have hD := hD0.self (sz := s.heap.size)
  generalize hAe : va_A (wX q dA M) s.heap.size = A at hD ⊢
  have hA : ∀ q : Nat, s.heap.size ≤ q → A q := fun q h => by rw [← hAe]; exact Or.inr h
  have hS : va_S A s.heap s.heap [] := va_S.rf
  dsimp only [wpXs_row] at hw
  have hl := lv_entry ([.ref (q 0), .int p0, .int p1]) (n := 3) (Nat.le_of_ble_eq_true rfl)
  rw [lg_entry_eq]
  generalize (lg_sl ([.ref (q 0), .int p0, .int p1]) ++ List.replicate (3 - (lg_sl ([.ref (q 0), .int p0, .int p1])).length) Slot.unset).toArray = ls at hl ⊢
  have hl : lv_has ls 3 [(0, .ref (q 0)), (1, .int p0), (2, .int p1)] := hl
  refine lv_aload_n hx hb dXs_row_0 rfl (lv_at hl 0 rfl) ?_
  refine va_get (D := (dC, dI)) (ci := 0) (v := .ref (q 4)) (C := "ServiceThreads") (T := TXs) (N := 14) hx hb hta inXs hown hK hP 0 (wX_0 q dA M) rfl 3 (by decide) (hta _ wt_121) (fun _ h9 => h9) rfl dXs_row_1 ?_
  refine lv_iload_n hx hb dXs_row_4 rfl (lv_at hl 1 rfl) ?_
  refine cn_i (w := (wX q dA)) (M := M) (wX_ad q dA) (va_runV (As := [.int p0]) (rest := []) ⟨hx, hb, hml, hown, hta⟩ (mtXr_isKnown l dC dI q dA s.heap.size p0 M _ hw) (cwV 1 hta (giV wt_528 wt_529 wt_530 wt_6 wt_531) rfl rfl rfl (by decide +kernel) ⟨Nat.le_of_ble_eq_true rfl, Nat.le_of_ble_eq_true rfl⟩) ⟨pW_blind, va_recv hK hP (ci := 4) (q0 := 4) rfl (wX_4 q dA M), pW_of hK hP hD⟩ rfl rfl hl.1 rfl (lv_room (Nat.le_of_ble_eq_true rfl)) dXs_row_5 ⟨Nat.le_of_ble_eq_true rfl, Nat.le_of_ble_eq_true rfl⟩) hD hS hA (fun r_1 M_2 H locs hw hP hD hS => ?_)
  refine lv_if_ne (tgt := 21) hx hb dXs_row_8 (by decide) (fun c_3 => ?_) (fun c_3 => ?_)
  · have hw := hw.2 c_3
    refine lv_iload_n hx hb dXs_row_21 rfl (lv_at hl 2 rfl) ?_
    rcases Classical.em (p1 = 0) with c_5 | c_5
    · have hw := hw.1 c_5
      refine lv_tableIn (tgt := 52) (off := 30) hx hb dXs_row_22 (by rw [c_5]; decide) (by rw [c_5]; decide) (by rw [c_5]; decide) (by decide) ?_
      refine lv_aload_n hx hb dXs_row_52 rfl (lv_at hl 0 rfl) ?_
      refine va_get (D := (dC, dI)) (ci := 0) (v := .ref (q 4)) (C := "ServiceThreads") (T := TXs) (N := 14) hx hb hta inXs hown hK hP 0 (wX_0 q dA M_2) rfl 3 (by decide) (hta _ wt_121) (fun _ h9 => h9) rfl dXs_row_53 ?_
      refine va_get (D := (dC, dI)) (ci := 4) (v := .ref (q 15)) (C := "ServiceThreads$Rows") (T := TXr) (N := 5) hx hb hta inXr hown hK hP 4 (wX_4 q dA M_2) rfl 0 (by decide) (hta _ wt_98) (fun _ h9 => h9) rfl dXs_row_56 ?_
      refine lv_iload_n hx hb dXs_row_59 rfl (lv_at hl 1 rfl) ?_
      obtain ⟨h_6, hw⟩ := hw
      refine ro_i (w := (wX q dA)) (M := M_2) hx hb hK hP 15 10 (wX_15 q dA M_2) rfl h_6 dXs_row_60 (fun y_7 ey_7 => ?_)
      have hw := hw y_7 ey_7
      exact W.iret (v := y_7) hx hb hr (fun t ht hW => ⟨⟨y_7, M_2, rfl, hw, by rw [ht]; exact hP, va_K.moved hW.alike hK, hD⟩, hS.F ht⟩) hS.2.2 dXs_row_61 hlocks
    · have hw := hw.2 c_5
      rcases Classical.em (p1 = 1) with c_8 | c_8
      · have hw := hw.1 c_8
        refine lv_tableIn (tgt := 62) (off := 40) hx hb dXs_row_22 (by rw [c_8]; decide) (by rw [c_8]; decide) (by rw [c_8]; decide) (by decide) ?_
        refine lv_aload_n hx hb dXs_row_62 rfl (lv_at hl 0 rfl) ?_
        refine va_get (D := (dC, dI)) (ci := 0) (v := .ref (q 4)) (C := "ServiceThreads") (T := TXs) (N := 14) hx hb hta inXs hown hK hP 0 (wX_0 q dA M_2) rfl 3 (by decide) (hta _ wt_121) (fun _ h9 => h9) rfl dXs_row_63 ?_
        refine va_get (D := (dC, dI)) (ci := 4) (v := .ref (q 16)) (C := "ServiceThreads$Rows") (T := TXr) (N := 5) hx hb hta inXr hown hK hP 4 (wX_4 q dA M_2) rfl 1 (by decide) (hta _ wt_100) (fun _ h9 => h9) rfl dXs_row_66 ?_
        refine lv_iload_n hx hb dXs_row_69 rfl (lv_at hl 1 rfl) ?_
        obtain ⟨h_9, hw⟩ := hw
        refine ro_i (w := (wX q dA)) (M := M_2) hx hb hK hP 16 11 (wX_16 q dA M_2) rfl h_9 dXs_row_70 (fun y_10 ey_10 => ?_)
        have hw := hw y_10 ey_10
        exact W.iret (v := y_10) hx hb hr (fun t ht hW => ⟨⟨y_10, M_2, rfl, hw, by rw [ht]; exact hP, va_K.moved hW.alike hK, hD⟩, hS.F ht⟩) hS.2.2 dXs_row_71 hlocks
      · have hw := hw.2 c_8
        rcases Classical.em (p1 = 2) with c_11 | c_11
        · have hw := hw.1 c_11
          refine lv_tableIn (tgt := 72) (off := 50) hx hb dXs_row_22 (by rw [c_11]; decide) (by rw [c_11]; decide) (by rw [c_11]; decide) (by decide) ?_
          refine lv_aload_n hx hb dXs_row_72 rfl (lv_at hl 0 rfl) ?_
          refine va_get (D := (dC, dI)) (ci := 0) (v := .ref (q 4)) (C := "ServiceThreads") (T := TXs) (N := 14) hx hb hta inXs hown hK hP 0 (wX_0 q dA M_2) rfl 3 (by decide) (hta _ wt_121) (fun _ h9 => h9) rfl dXs_row_73 ?_
          refine va_get (D := (dC, dI)) (ci := 4) (v := .ref (q 17)) (C := "ServiceThreads$Rows") (T := TXr) (N := 5) hx hb hta inXr hown hK hP 4 (wX_4 q dA M_2) rfl 2 (by decide) (hta _ wt_102) (fun _ h9 => h9) rfl dXs_row_76 ?_
          refine lv_iload_n hx hb dXs_row_79 rfl (lv_at hl 1 rfl) ?_
          obtain ⟨h_12, hw⟩ := hw
          refine ro_i (w := (wX q dA)) (M := M_2) hx hb hK hP 17 12 (wX_17 q dA M_2) rfl h_12 dXs_row_80 (fun y_13 ey_13 => ?_)
          have hw := hw y_13 ey_13
          exact W.iret (v := y_13) hx hb hr (fun t ht hW => ⟨⟨y_13, M_2, rfl, hw, by rw [ht]; exact hP, va_K.moved hW.alike hK, hD⟩, hS.F ht⟩) hS.2.2 dXs_row_81 hlocks
        · have hw := hw.2 c_11
          rcases Classical.em (p1 = 3) with c_14 | c_14
          · have hw := hw.1 c_14
            refine lv_tableIn (tgt := 82) (off := 60) hx hb dXs_row_22 (by rw [c_14]; decide) (by rw [c_14]; decide) (by rw [c_14]; decide) (by decide) ?_
            refine lv_aload_n hx hb dXs_row_82 rfl (lv_at hl 0 rfl) ?_
            refine va_get (D := (dC, dI)) (ci := 0) (v := .ref (q 4)) (C := "ServiceThreads") (T := TXs) (N := 14) hx hb hta inXs hown hK hP 0 (wX_0 q dA M_2) rfl 3 (by decide) (hta _ wt_121) (fun _ h9 => h9) rfl dXs_row_83 ?_
            refine va_get (D := (dC, dI)) (ci := 4) (v := .ref (q 18)) (C := "ServiceThreads$Rows") (T := TXr) (N := 5) hx hb hta inXr hown hK hP 4 (wX_4 q dA M_2) rfl 3 (by decide) (hta _ wt_104) (fun _ h9 => h9) rfl dXs_row_86 ?_
            refine lv_iload_n hx hb dXs_row_89 rfl (lv_at hl 1 rfl) ?_
            obtain ⟨h_15, hw⟩ := hw
            refine ro_i (w := (wX q dA)) (M := M_2) hx hb hK hP 18 13 (wX_18 q dA M_2) rfl h_15 dXs_row_90 (fun y_16 ey_16 => ?_)
            have hw := hw y_16 ey_16
            exact W.iret (v := y_16) hx hb hr (fun t ht hW => ⟨⟨y_16, M_2, rfl, hw, by rw [ht]; exact hP, va_K.moved hW.alike hK, hD⟩, hS.F ht⟩) hS.2.2 dXs_row_91 hlocks
          · have hw := hw.2 c_14
            refine lv_tableOut (tgt := 92) hx hb dXs_row_22 (by have n0 := lv_neT c_5 (show (0 : Int32).toInt = 0 by decide); have n1 := lv_neT c_8 (show (1 : Int32).toInt = 1 by decide); have n2 := lv_neT c_11 (show (2 : Int32).toInt = 2 by decide); have n3 := lv_neT c_14 (show (3 : Int32).toInt = 3 by decide); omega) (by decide) ?_
            exact False.elim hw
  · have hw := hw.1 c_3
    exact False.elim hw
set_option maxHeartbeats 4000000 in
set_option maxRecDepth 100000 in
theorem mtXs_row (l : Launch) (hl9 : l.stackTraces = false) (dC : Nat → ClassId) (dI : Nat → Nat → Nat) (q : Nat → Nat) (dA : Nat → ClassId) (sz : Nat) (p0 : Int32) (p1 : Int32) (M : Mm) (post : Int32 → Mm → Prop) (px : Nat → Mm → Prop) (hw : wpXs_row p0 p1 M post px) : vx_Met l yXs_row (wsA yXs_row cXs_row 3 (some .int)) ({ frames := 6, cells := 1, slots := 6, locals := 82 }) (va_Pc [.ref (q 0), .int p0, .int p1] (pWx (dC, dI) vwCl (wX q dA) (tX dA) sX sz M)) (va_Qi post (bW (dC, dI) vwCl (wX q dA) (tX dA) (va_A (wX q dA M) sz)) (va_A (wX q dA M) sz)) (vx_X (fun u : Nat × Mm => px u.1 u.2) (xW (dC, dI) vwCl (wX q dA) (tX dA) (va_A (wX q dA M) sz)) (va_A (wX q dA M) sz)) 1 6 (va_A (wX q dA M) sz) := by
  refine vx_ofW (cc := cXs_row) (maxL := 3) (ret := (some .int)) (by decide) rfl ?_
  intro p e s m args below meth c s₁ B hml hEx hv
  obtain ⟨rfl, hsz, hP, hK, hD0, hZ, hsp⟩ := hv
  have hx := B.exec
  have hb := B.bytes
  have hr := B.returns
  have hts := atoms_spec (ws := (wsA yXs_row cXs_row 3 (some .int))) B.pre
  have hta : ∀ w ∈ wsG, w.before _ s = true := fun w h => hts w (List.mem_cons_of_mem _ h)
  have hown : s.vm.findClass "ServiceThreads" = some m.cls := findClass_of_methodNamed B.named
  have hlocks := B.notSynchronized
  subst hsz
  have hD := hD0.self (sz := s.heap.size)
  generalize hAe : va_A (wX q dA M) s.heap.size = A at hD hZ ⊢
  have hA : ∀ q : Nat, s.heap.size ≤ q → A q := fun q h => by rw [← hAe]; exact Or.inr h
  have hS : va_S A s.heap s.heap [] := va_S.rf
  dsimp only [wpXs_row] at hw
  have hl := lv_entry ([.ref (q 0), .int p0, .int p1]) (n := 3) (Nat.le_of_ble_eq_true rfl)
  rw [lg_entry_eq]
  generalize (lg_sl ([.ref (q 0), .int p0, .int p1]) ++ List.replicate (3 - (lg_sl ([.ref (q 0), .int p0, .int p1])).length) Slot.unset).toArray = ls at hl ⊢
  have hl : lv_has ls 3 [(0, .ref (q 0)), (1, .int p0), (2, .int p1)] := hl
  refine lv_aload_n hx hb dXs_row_0 rfl (lv_at hl 0 rfl) ?_
  refine va_get (D := (dC, dI)) (ci := 0) (v := .ref (q 4)) (C := "ServiceThreads") (T := TXs) (N := 14) hx hb hta inXs hown hK hP 0 (wX_0 q dA M) rfl 3 (by decide) (hta _ wt_121) (fun _ h9 => h9) rfl dXs_row_1 ?_
  refine lv_iload_n hx hb dXs_row_4 rfl (lv_at hl 1 rfl) ?_
  refine cn_i (w := (wX q dA)) (M := M) (wX_ad q dA) (va_runV (As := [.int p0]) (rest := []) ⟨hx, hb, hml, hown, hta⟩ (mtXr_isKnown l dC dI q dA s.heap.size p0 M _ hw) (cwV 1 hta (giV wt_528 wt_529 wt_530 wt_6 wt_531) rfl rfl rfl (by decide +kernel) ⟨Nat.le_of_ble_eq_true rfl, Nat.le_of_ble_eq_true rfl⟩) ⟨pW_blind, va_recv hK hP (ci := 4) (q0 := 4) rfl (wX_4 q dA M), pW_of hK hP hD⟩ rfl rfl hl.1 rfl (lv_room (Nat.le_of_ble_eq_true rfl)) dXs_row_5 ⟨Nat.le_of_ble_eq_true rfl, Nat.le_of_ble_eq_true rfl⟩) hD hS hA (fun r_1 M_2 H locs hw hP hD hS => ?_)
  refine lv_if_ne (tgt := 21) hx hb dXs_row_8 (by decide) (fun c_3 => ?_) (fun c_3 => ?_)
  · have hw := hw.2 c_3
    refine lv_iload_n hx hb dXs_row_21 rfl (lv_at hl 2 rfl) ?_
    rcases Classical.em (p1 = 0) with c_5 | c_5
    · have hw := hw.1 c_5
      refine lv_tableIn (tgt := 52) (off := 30) hx hb dXs_row_22 (by rw [c_5]; decide) (by rw [c_5]; decide) (by rw [c_5]; decide) (by decide) ?_
      refine lv_aload_n hx hb dXs_row_52 rfl (lv_at hl 0 rfl) ?_
      refine va_get (D := (dC, dI)) (ci := 0) (v := .ref (q 4)) (C := "ServiceThreads") (T := TXs) (N := 14) hx hb hta inXs hown hK hP 0 (wX_0 q dA M_2) rfl 3 (by decide) (hta _ wt_121) (fun _ h9 => h9) rfl dXs_row_53 ?_
      refine va_get (D := (dC, dI)) (ci := 4) (v := .ref (q 15)) (C := "ServiceThreads$Rows") (T := TXr) (N := 5) hx hb hta inXr hown hK hP 4 (wX_4 q dA M_2) rfl 0 (by decide) (hta _ wt_98) (fun _ h9 => h9) rfl dXs_row_56 ?_
      refine lv_iload_n hx hb dXs_row_59 rfl (lv_at hl 1 rfl) ?_
      obtain ⟨h_6, hw⟩ := hw
      refine ro_i (w := (wX q dA)) (M := M_2) hx hb hK hP 15 10 (wX_15 q dA M_2) rfl h_6 dXs_row_60 (fun y_7 ey_7 => ?_)
      have hw := hw y_7 ey_7
      refine vx_ret ?_
      refine W.widen (k := 1) (n := 6) (Nat.le_of_ble_eq_true rfl) (Nat.le_of_ble_eq_true rfl) ?_
      exact W.iret (v := y_7) hx hb hr (fun t ht hW => ⟨⟨y_7, M_2, rfl, hw, by rw [ht]; exact hP, va_K.moved hW.alike hK, hD⟩, hS.F ht⟩) hS.2.2 dXs_row_61 hlocks
    · have hw := hw.2 c_5
      rcases Classical.em (p1 = 1) with c_8 | c_8
      · have hw := hw.1 c_8
        refine lv_tableIn (tgt := 62) (off := 40) hx hb dXs_row_22 (by rw [c_8]; decide) (by rw [c_8]; decide) (by rw [c_8]; decide) (by decide) ?_
        refine lv_aload_n hx hb dXs_row_62 rfl (lv_at hl 0 rfl) ?_
        refine va_get (D := (dC, dI)) (ci := 0) (v := .ref (q 4)) (C := "ServiceThreads") (T := TXs) (N := 14) hx hb hta inXs hown hK hP 0 (wX_0 q dA M_2) rfl 3 (by decide) (hta _ wt_121) (fun _ h9 => h9) rfl dXs_row_63 ?_
        refine va_get (D := (dC, dI)) (ci := 4) (v := .ref (q 16)) (C := "ServiceThreads$Rows") (T := TXr) (N := 5) hx hb hta inXr hown hK hP 4 (wX_4 q dA M_2) rfl 1 (by decide) (hta _ wt_100) (fun _ h9 => h9) rfl dXs_row_66 ?_
        refine lv_iload_n hx hb dXs_row_69 rfl (lv_at hl 1 rfl) ?_
        obtain ⟨h_9, hw⟩ := hw
        refine ro_i (w := (wX q dA)) (M := M_2) hx hb hK hP 16 11 (wX_16 q dA M_2) rfl h_9 dXs_row_70 (fun y_10 ey_10 => ?_)
        have hw := hw y_10 ey_10
        refine vx_ret ?_
        refine W.widen (k := 1) (n := 6) (Nat.le_of_ble_eq_true rfl) (Nat.le_of_ble_eq_true rfl) ?_
        exact W.iret (v := y_10) hx hb hr (fun t ht hW => ⟨⟨y_10, M_2, rfl, hw, by rw [ht]; exact hP, va_K.moved hW.alike hK, hD⟩, hS.F ht⟩) hS.2.2 dXs_row_71 hlocks
      · have hw := hw.2 c_8
        rcases Classical.em (p1 = 2) with c_11 | c_11
        · have hw := hw.1 c_11
          refine lv_tableIn (tgt := 72) (off := 50) hx hb dXs_row_22 (by rw [c_11]; decide) (by rw [c_11]; decide) (by rw [c_11]; decide) (by decide) ?_
          refine lv_aload_n hx hb dXs_row_72 rfl (lv_at hl 0 rfl) ?_
          refine va_get (D := (dC, dI)) (ci := 0) (v := .ref (q 4)) (C := "ServiceThreads") (T := TXs) (N := 14) hx hb hta inXs hown hK hP 0 (wX_0 q dA M_2) rfl 3 (by decide) (hta _ wt_121) (fun _ h9 => h9) rfl dXs_row_73 ?_
          refine va_get (D := (dC, dI)) (ci := 4) (v := .ref (q 17)) (C := "ServiceThreads$Rows") (T := TXr) (N := 5) hx hb hta inXr hown hK hP 4 (wX_4 q dA M_2) rfl 2 (by decide) (hta _ wt_102) (fun _ h9 => h9) rfl dXs_row_76 ?_
          refine lv_iload_n hx hb dXs_row_79 rfl (lv_at hl 1 rfl) ?_
          obtain ⟨h_12, hw⟩ := hw
          refine ro_i (w := (wX q dA)) (M := M_2) hx hb hK hP 17 12 (wX_17 q dA M_2) rfl h_12 dXs_row_80 (fun y_13 ey_13 => ?_)
          have hw := hw y_13 ey_13
          refine vx_ret ?_
          refine W.widen (k := 1) (n := 6) (Nat.le_of_ble_eq_true rfl) (Nat.le_of_ble_eq_true rfl) ?_
          exact W.iret (v := y_13) hx hb hr (fun t ht hW => ⟨⟨y_13, M_2, rfl, hw, by rw [ht]; exact hP, va_K.moved hW.alike hK, hD⟩, hS.F ht⟩) hS.2.2 dXs_row_81 hlocks
        · have hw := hw.2 c_11
          rcases Classical.em (p1 = 3) with c_14 | c_14
          · have hw := hw.1 c_14
            refine lv_tableIn (tgt := 82) (off := 60) hx hb dXs_row_22 (by rw [c_14]; decide) (by rw [c_14]; decide) (by rw [c_14]; decide) (by decide) ?_
            refine lv_aload_n hx hb dXs_row_82 rfl (lv_at hl 0 rfl) ?_
            refine va_get (D := (dC, dI)) (ci := 0) (v := .ref (q 4)) (C := "ServiceThreads") (T := TXs) (N := 14) hx hb hta inXs hown hK hP 0 (wX_0 q dA M_2) rfl 3 (by decide) (hta _ wt_121) (fun _ h9 => h9) rfl dXs_row_83 ?_
            refine va_get (D := (dC, dI)) (ci := 4) (v := .ref (q 18)) (C := "ServiceThreads$Rows") (T := TXr) (N := 5) hx hb hta inXr hown hK hP 4 (wX_4 q dA M_2) rfl 3 (by decide) (hta _ wt_104) (fun _ h9 => h9) rfl dXs_row_86 ?_
            refine lv_iload_n hx hb dXs_row_89 rfl (lv_at hl 1 rfl) ?_
            obtain ⟨h_15, hw⟩ := hw
            refine ro_i (w := (wX q dA)) (M := M_2) hx hb hK hP 18 13 (wX_18 q dA M_2) rfl h_15 dXs_row_90 (fun y_16 ey_16 => ?_)
            have hw := hw y_16 ey_16
            refine vx_ret ?_
            refine W.widen (k := 1) (n := 6) (Nat.le_of_ble_eq_true rfl) (Nat.le_of_ble_eq_true rfl) ?_
            exact W.iret (v := y_16) hx hb hr (fun t ht hW => ⟨⟨y_16, M_2, rfl, hw, by rw [ht]; exact hP, va_K.moved hW.alike hK, hD⟩, hS.F ht⟩) hS.2.2 dXs_row_91 hlocks
          · have hw := hw.2 c_14
            refine lv_tableOut (tgt := 92) hx hb dXs_row_22 (by have n0 := lv_neT c_5 (show (0 : Int32).toInt = 0 by decide); have n1 := lv_neT c_8 (show (1 : Int32).toInt = 1 by decide); have n2 := lv_neT c_11 (show (2 : Int32).toInt = 2 by decide); have n3 := lv_neT c_14 (show (3 : Int32).toInt = 3 by decide); omega) (by decide) ?_
            obtain ⟨sa9, hsa9⟩ := sX_s17 hsp
            exact vx_throwS (own := "ServiceThreads") (cls := "java/lang/IllegalArgumentException") (names := ["java/lang/RuntimeException", "java/lang/Exception"]) hx hb hl9 hown (by decide +kernel) (by decide +kernel) (hta _ wt_199) (hta _ wt_11) hsa9 (vx_hat (L := vx_atS "ServiceThreads" 78 "java/lang/IllegalArgumentException" ["java/lang/RuntimeException", "java/lang/Exception"]) (B := [.castable "java/lang/IllegalArgumentException" "java/lang/IllegalArgumentException", .declares ⟨"java/lang/RuntimeException", "<init>", "(Ljava/lang/String;)V"⟩, .declares ⟨"java/lang/Exception", "<init>", "(Ljava/lang/String;)V"⟩, .declares ⟨"java/lang/Throwable", "<init>", "(Ljava/lang/String;)V"⟩]) (fun w hw => hta w (vxw_0 w hw)) vxw_0b (vx_c (va_Nw.use rfl (sX_w0 hsp)) (vx_c (va_Nw.use rfl (sX_w1 hsp)) (vx_c (va_Nw.use rfl (sX_w2 hsp)) (vx_c (va_Nw.use rfl (sX_w3 hsp)) (vx_n)))))) vxw_0g hZ.1 hZ.2 hS (hl.1.trans hml.symm) dXs_row_92 dXs_row_95 dXs_row_96 dXs_row_98 dXs_row_101 (fun x hx => (hEx x hx).elim) (Nat.le_of_ble_eq_true rfl) (Nat.le_of_ble_eq_true rfl) (Nat.le_of_ble_eq_true rfl) (Nat.le_of_ble_eq_true rfl) hlocks (th_x (px := px) (k := 0) hP hK hD hS hw) hS.2.2 (Nat.le_of_ble_eq_true rfl) (Nat.le_of_ble_eq_true rfl)
  · have hw := hw.1 c_3
    obtain ⟨sa9, hsa9⟩ := sX_s18 hsp
    exact vx_throwS (own := "ServiceThreads") (cls := "java/lang/IllegalArgumentException") (names := ["java/lang/RuntimeException", "java/lang/Exception"]) hx hb hl9 hown (by decide +kernel) (by decide +kernel) (hta _ wt_199) (hta _ wt_11) hsa9 (vx_hat (L := vx_atS "ServiceThreads" 78 "java/lang/IllegalArgumentException" ["java/lang/RuntimeException", "java/lang/Exception"]) (B := [.castable "java/lang/IllegalArgumentException" "java/lang/IllegalArgumentException", .declares ⟨"java/lang/RuntimeException", "<init>", "(Ljava/lang/String;)V"⟩, .declares ⟨"java/lang/Exception", "<init>", "(Ljava/lang/String;)V"⟩, .declares ⟨"java/lang/Throwable", "<init>", "(Ljava/lang/String;)V"⟩]) (fun w hw => hta w (vxw_0 w hw)) vxw_0b (vx_c (va_Nw.use rfl (sX_w0 hsp)) (vx_c (va_Nw.use rfl (sX_w1 hsp)) (vx_c (va_Nw.use rfl (sX_w2 hsp)) (vx_c (va_Nw.use rfl (sX_w3 hsp)) (vx_n)))))) vxw_0g hZ.1 hZ.2 hS (hl.1.trans hml.symm) dXs_row_11 dXs_row_14 dXs_row_15 dXs_row_17 dXs_row_20 (fun x hx => (hEx x hx).elim) (Nat.le_of_ble_eq_true rfl) (Nat.le_of_ble_eq_true rfl) (Nat.le_of_ble_eq_true rfl) (Nat.le_of_ble_eq_true rfl) hlocks (th_x (px := px) (k := 0) hP hK hD hS hw) hS.2.2 (Nat.le_of_ble_eq_true rfl) (Nat.le_of_ble_eq_true rfl)
def wlXs_runningWithActs_4 (post : Int32 → Mm → Prop) : Nat → Int32 → Int32 → Mm → Prop
  | 0, _, _ => fun _ => False
  | n4 + 1, x1, x2 => fun M => ((8 ≤ x2 → (post x1 M)) ∧ (¬ 8 ≤ x2 → (wpXs_runsWithActs x2 M (fun r_2 M_3 => (((r_2 = 0 → (∀ x2_5 : Int32, x2_5 = x2 + 1 → (wlXs_runningWithActs_4 post n4 x1 x2_5 M_3))) ∧ (¬ r_2 = 0 → (∀ x1_6 : Int32, x1_6 = x1 + 1 → (∀ x2_7 : Int32, x2_7 = x2 + 1 → (wlXs_runningWithActs_4 post n4 x1_6 x2_7 M_3))))))))))
def wpXs_runningWithActs (M : Mm) (post : Int32 → Mm → Prop) : Prop := ∃ n4 : Nat, wlXs_runningWithActs_4 post n4 0 0 M
set_option maxHeartbeats 4000000 in
set_option maxRecDepth 100000 in
theorem LwlXs_runningWithActs_4 {p : Program} {l : Launch} {e : Env} {s : State} {m : MethodId} {below : List Frame} {meth : Method} {c : Code} {dC : Nat → ClassId} {dI : Nat → Nat → Nat} {q : Nat → Nat} {dA : Nat → ClassId} {A : Nat → Prop} {av : List Value} {post : Int32 → Mm → Prop} (CX : p.tables.exec = Jvm.exec ∧ c.code = cXs_runningWithActs ∧ meth.sig.returnType = (some .int) ∧ c.maxLocals = 3 ∧ s.vm.findClass "ServiceThreads" = some m.cls ∧ (∀ w ∈ wsG, w.before av.toArray s = true) ∧ (∀ q : Nat, s.heap.size ≤ q → A q) ∧ va_K (dC, dI) vwCl (tX dA) s ∧ meth.locks = false) : ∀ (n4 : Nat) (x1 : Int32) (x2 : Int32) (M : Mm) (H : Heap) (locs : List Loc) (ls : Array Slot), wlXs_runningWithActs_4 post n4 x1 x2 M → va_P (dC, dI) vwCl (wX q dA M) H → va_D A (wX q dA M) → va_S A s.heap H locs → lv_has ls 3 [(0, .ref (q 0)), (1, .int x1), (2, .int x2)] → W p l e (headSpec (wsA yXs_runningWithActs cXs_runningWithActs 3 (some .int)) ({ frames := 2, cells := 0, slots := 0, locals := 42 })).room s m av.toArray below meth c H locs 0 0 (MQ below (va_Qi post (bW (dC, dI) vwCl (wX q dA) (tX dA) A) A) av.toArray s 0 0 A) (F0 m 4 ls []) := by
  obtain ⟨hx, hb, hr, hml, hown, hta, hA, hK, hlocks⟩ := CX
  intro n4
  induction n4 with
  | zero =>
    intro x1 x2 M H locs ls hw
    exact False.elim hw
  | succ n4 ih4 =>
    intro x1 x2 M H locs ls hw hP hD hS hl
    dsimp only [wlXs_runningWithActs_4] at hw
    refine lv_iload_n hx hb dXs_runningWithActs_4 rfl (lv_at hl 2 rfl) ?_
    refine lv_bipush (v := 8) hx hb dXs_runningWithActs_5 (by decide) ?_
    refine lv_icmp_ge (tgt := 27) hx hb dXs_runningWithActs_7 (by decide) (fun c_1 => ?_) (fun c_1 => ?_)
    · have hw := hw.1 c_1
      refine lv_iload_n hx hb dXs_runningWithActs_27 rfl (lv_at hl 1 rfl) ?_
      exact W.iret (v := x1) hx hb hr (fun t ht hW => ⟨⟨x1, M, rfl, hw, by rw [ht]; exact hP, va_K.moved hW.alike hK, hD⟩, hS.F ht⟩) hS.2.2 dXs_runningWithActs_28 hlocks
    · have hw := hw.2 c_1
      refine lv_aload_n hx hb dXs_runningWithActs_10 rfl (lv_at hl 0 rfl) ?_
      refine lv_iload_n hx hb dXs_runningWithActs_11 rfl (lv_at hl 2 rfl) ?_
      refine cn_i (w := (wX q dA)) (M := M) (wX_ad q dA) (va_runV (As := [.int x2]) (rest := []) ⟨hx, hb, hml, hown, hta⟩ (mtXs_runsWithActs l dC dI q dA H.size x2 M _ hw) (cwV 1 hta (giV wt_467 wt_469 ws_16 wt_1 wt_470) rfl rfl rfl (by decide +kernel) ⟨Nat.le_of_ble_eq_true rfl, Nat.le_of_ble_eq_true rfl⟩) ⟨pW_blind, va_recv hK hP (ci := 0) (q0 := 0) rfl (wX_0 q dA M), pW_of hK hP hD⟩ rfl rfl hl.1 rfl (lv_room (Nat.le_of_ble_eq_true rfl)) dXs_runningWithActs_12 ⟨Nat.le_of_ble_eq_true rfl, Nat.le_of_ble_eq_true rfl⟩) hD hS hA (fun r_2 M_3 H locs hw hP hD hS => ?_)
      refine lv_if_eq (tgt := 21) hx hb dXs_runningWithActs_15 (by decide) (fun c_4 => ?_) (fun c_4 => ?_)
      · have hw := hw.1 c_4
        obtain ⟨x2_5, ex2_5⟩ : ∃ y : Int32, y = x2 + 1 := ⟨_, rfl⟩
        have hw := hw x2_5 ex2_5
        refine lv_iinc (v := x2_5) (lv' := [(2, .int x2_5), (0, .ref (q 0)), (1, .int x1)]) hx hb dXs_runningWithActs_21 hl (k := 2) rfl (by rw [ex2_5]; rfl) (by decide) rfl (fun ls hl => ?_)
        refine lv_goto (tgt := 4) hx hb dXs_runningWithActs_24 (by decide) ?_
        exact ih4 x1 x2_5 M_3 _ _ _ hw hP hD hS (lv_sub hl [1, 2, 0] rfl)
      · have hw := hw.2 c_4
        obtain ⟨x1_6, ex1_6⟩ : ∃ y : Int32, y = x1 + 1 := ⟨_, rfl⟩
        have hw := hw x1_6 ex1_6
        refine lv_iinc (v := x1_6) (lv' := [(1, .int x1_6), (0, .ref (q 0)), (2, .int x2)]) hx hb dXs_runningWithActs_18 hl (k := 1) rfl (by rw [ex1_6]; rfl) (by decide) rfl (fun ls hl => ?_)
        obtain ⟨x2_7, ex2_7⟩ : ∃ y : Int32, y = x2 + 1 := ⟨_, rfl⟩
        have hw := hw x2_7 ex2_7
        refine lv_iinc (v := x2_7) (lv' := [(2, .int x2_7), (1, .int x1_6), (0, .ref (q 0))]) hx hb dXs_runningWithActs_21 hl (k := 2) rfl (by rw [ex2_7]; rfl) (by decide) rfl (fun ls hl => ?_)
        refine lv_goto (tgt := 4) hx hb dXs_runningWithActs_24 (by decide) ?_
        exact ih4 x1_6 x2_7 M_3 _ _ _ hw hP hD hS (lv_sub hl [2, 1, 0] rfl)
set_option maxHeartbeats 4000000 in
set_option maxRecDepth 100000 in
theorem mtXs_runningWithActs (l : Launch) (dC : Nat → ClassId) (dI : Nat → Nat → Nat) (q : Nat → Nat) (dA : Nat → ClassId) (sz : Nat) (M : Mm) (post : Int32 → Mm → Prop) (hw : wpXs_runningWithActs M post) : Met l yXs_runningWithActs (wsA yXs_runningWithActs cXs_runningWithActs 3 (some .int)) ({ frames := 2, cells := 0, slots := 0, locals := 42 }) (va_Pc [.ref (q 0)] (pW (dC, dI) vwCl (wX q dA) (tX dA) sz M)) (va_Qi post (bW (dC, dI) vwCl (wX q dA) (tX dA) (va_A (wX q dA M) sz)) (va_A (wX q dA M) sz)) 0 0 (va_A (wX q dA M) sz) := by
  refine Met.ofW (cc := cXs_runningWithActs) (maxL := 3) (ret := (some .int)) (by decide) rfl ?_
  intro p e s m args below meth c s₁ B hml hv
  obtain ⟨rfl, hsz, hP, hK, hD0⟩ := hv
  have hx := B.exec
  have hb := B.bytes
  have hr := B.returns
  have hts := atoms_spec (ws := (wsA yXs_runningWithActs cXs_runningWithActs 3 (some .int))) B.pre
  have hta : ∀ w ∈ wsG, w.before _ s = true := fun w h => hts w (List.mem_cons_of_mem _ h)
  have hown : s.vm.findClass "ServiceThreads" = some m.cls := findClass_of_methodNamed B.named
  have hlocks := B.notSynchronized
  subst hsz
  have hD := hD0.self (sz := s.heap.size)
  generalize hAe : va_A (wX q dA M) s.heap.size = A at hD ⊢
  have hA : ∀ q : Nat, s.heap.size ≤ q → A q := fun q h => by rw [← hAe]; exact Or.inr h
  have hS : va_S A s.heap s.heap [] := va_S.rf
  dsimp only [wpXs_runningWithActs] at hw
  have hl := lv_entry ([.ref (q 0)]) (n := 3) (Nat.le_of_ble_eq_true rfl)
  rw [lg_entry_eq]
  generalize (lg_sl ([.ref (q 0)]) ++ List.replicate (3 - (lg_sl ([.ref (q 0)])).length) Slot.unset).toArray = ls at hl ⊢
  have hl : lv_has ls 3 [(0, .ref (q 0))] := hl
  refine lv_iconst (v := 0) hx hb dXs_runningWithActs_0 (by decide) ?_
  refine lv_istore_n (lv' := [(1, .int 0), (0, .ref (q 0))]) hx hb dXs_runningWithActs_1 rfl hl (by decide) rfl (fun ls hl => ?_)
  refine lv_iconst (v := 0) hx hb dXs_runningWithActs_2 (by decide) ?_
  refine lv_istore_n (lv' := [(2, .int 0), (1, .int 0), (0, .ref (q 0))]) hx hb dXs_runningWithActs_3 rfl hl (by decide) rfl (fun ls hl => ?_)
  obtain ⟨n4, hw⟩ := hw
  exact LwlXs_runningWithActs_4 (A := A) (av := [.ref (q 0)]) ⟨hx, hb, hr, hml, hown, hta, hA, hK, hlocks⟩ n4 0 0 M _ _ _ hw hP hD hS (lv_sub hl [2, 1, 0] rfl)
def wpXs_count (p0 : Int32) (M : Mm) (post : Int32 → Mm → Prop) (px : Nat → Mm → Prop) : Prop := ((p0 = 0 → (∀ y_3 : Int32, y_3 = M 24 0 → (post y_3 M))) ∧ (¬ p0 = 0 → (((p0 = 1 → (∀ y_5 : Int32, y_5 = M 23 0 → (post y_5 M))) ∧ (¬ p0 = 1 → (((p0 = 2 → (wpXs_runningWithActs M (fun r_7 M_8 => (post r_7 M_8)))) ∧ (¬ p0 = 2 → (((p0 = 3 → (wpXu_sentCount M (fun r_10 M_11 => (post r_10 M_11)))) ∧ (¬ p0 = 3 → (((p0 = 4 → (wpXc_openCount M (fun r_13 M_14 => (post r_13 M_14)))) ∧ (¬ p0 = 4 → (((p0 = 5 → (wpXu_lockedCount M (fun r_16 M_17 => (post r_16 M_17)))) ∧ (¬ p0 = 5 → (px 0 M))))))))))))))))))
set_option maxHeartbeats 4000000 in
set_option maxRecDepth 100000 in
theorem mtnXs_count (l : Launch) (dC : Nat → ClassId) (dI : Nat → Nat → Nat) (q : Nat → Nat) (dA : Nat → ClassId) (sz : Nat) (p0 : Int32) (M : Mm) (post : Int32 → Mm → Prop) (hw : wpXs_count p0 M post (fun _ _ => False)) : Met l yXs_count (wsA yXs_count cXs_count 2 (some .int)) ({ frames := 3, cells := 0, slots := 0, locals := 64 }) (va_Pc [.ref (q 0), .int p0] (pW (dC, dI) vwCl (wX q dA) (tX dA) sz M)) (va_Qi post (bW (dC, dI) vwCl (wX q dA) (tX dA) (va_A (wX q dA M) sz)) (va_A (wX q dA M) sz)) 0 0 (va_A (wX q dA M) sz) := by
  refine Met.ofW (cc := cXs_count) (maxL := 2) (ret := (some .int)) (by decide) rfl ?_
  intro p e s m args below meth c s₁ B hml hv
  obtain ⟨rfl, hsz, hP, hK, hD0⟩ := hv
  have hx := B.exec
  have hb := B.bytes
  have hr := B.returns
  have hts := atoms_spec (ws := (wsA yXs_count cXs_count 2 (some .int))) B.pre
  have hta : ∀ w ∈ wsG, w.before _ s = true := fun w h => hts w (List.mem_cons_of_mem _ h)
  have hown : s.vm.findClass "ServiceThreads" = some m.cls := findClass_of_methodNamed B.named
  have hlocks := B.notSynchronized
  subst hsz
  have hD := hD0.self (sz := s.heap.size)
  generalize hAe : va_A (wX q dA M) s.heap.size = A at hD ⊢
  have hA : ∀ q : Nat, s.heap.size ≤ q → A q := fun q h => by rw [← hAe]; exact Or.inr h
  have hS : va_S A s.heap s.heap [] := va_S.rf
  dsimp only [wpXs_count] at hw
  have hl := lv_entry ([.ref (q 0), .int p0]) (n := 2) (Nat.le_of_ble_eq_true rfl)
  rw [lg_entry_eq]
  generalize (lg_sl ([.ref (q 0), .int p0]) ++ List.replicate (2 - (lg_sl ([.ref (q 0), .int p0])).length) Slot.unset).toArray = ls at hl ⊢
  have hl : lv_has ls 2 [(0, .ref (q 0)), (1, .int p0)] := hl
  refine lv_iload_n hx hb dXs_count_0 rfl (lv_at hl 1 rfl) ?_
  rcases Classical.em (p0 = 0) with c_2 | c_2
  · have hw := hw.1 c_2
    refine lv_tableIn (tgt := 40) (off := 39) hx hb dXs_count_1 (by rw [c_2]; decide) (by rw [c_2]; decide) (by rw [c_2]; decide) (by decide) ?_
    refine lv_aload_n hx hb dXs_count_40 rfl (lv_at hl 0 rfl) ?_
    refine va_get (D := (dC, dI)) (ci := 0) (v := .int (M 24 0)) (C := "ServiceThreads") (T := TXs) (N := 14) hx hb hta inXs hown hK hP 0 (wX_0 q dA M) rfl 12 (by decide) (hta _ wt_130) (fun _ h9 => h9) rfl dXs_count_41 ?_
    refine lv_topi (fun y_3 ey_3 => ?_)
    have hw := hw y_3 ey_3
    exact W.iret (v := y_3) hx hb hr (fun t ht hW => ⟨⟨y_3, M, rfl, hw, by rw [ht]; exact hP, va_K.moved hW.alike hK, hD⟩, hS.F ht⟩) hS.2.2 dXs_count_44 hlocks
  · have hw := hw.2 c_2
    rcases Classical.em (p0 = 1) with c_4 | c_4
    · have hw := hw.1 c_4
      refine lv_tableIn (tgt := 45) (off := 44) hx hb dXs_count_1 (by rw [c_4]; decide) (by rw [c_4]; decide) (by rw [c_4]; decide) (by decide) ?_
      refine lv_aload_n hx hb dXs_count_45 rfl (lv_at hl 0 rfl) ?_
      refine va_get (D := (dC, dI)) (ci := 0) (v := .ref (q 4)) (C := "ServiceThreads") (T := TXs) (N := 14) hx hb hta inXs hown hK hP 0 (wX_0 q dA M) rfl 3 (by decide) (hta _ wt_121) (fun _ h9 => h9) rfl dXs_count_46 ?_
      refine va_get (D := (dC, dI)) (ci := 4) (v := .int (M 23 0)) (C := "ServiceThreads$Rows") (T := TXr) (N := 5) hx hb hta inXr hown hK hP 4 (wX_4 q dA M) rfl 4 (by decide) (hta _ wt_106) (fun _ h9 => h9) rfl dXs_count_49 ?_
      refine lv_topi (fun y_5 ey_5 => ?_)
      have hw := hw y_5 ey_5
      exact W.iret (v := y_5) hx hb hr (fun t ht hW => ⟨⟨y_5, M, rfl, hw, by rw [ht]; exact hP, va_K.moved hW.alike hK, hD⟩, hS.F ht⟩) hS.2.2 dXs_count_52 hlocks
    · have hw := hw.2 c_4
      rcases Classical.em (p0 = 2) with c_6 | c_6
      · have hw := hw.1 c_6
        refine lv_tableIn (tgt := 53) (off := 52) hx hb dXs_count_1 (by rw [c_6]; decide) (by rw [c_6]; decide) (by rw [c_6]; decide) (by decide) ?_
        refine lv_aload_n hx hb dXs_count_53 rfl (lv_at hl 0 rfl) ?_
        refine cn_i (w := (wX q dA)) (M := M) (wX_ad q dA) (va_runV (As := []) (rest := []) ⟨hx, hb, hml, hown, hta⟩ (mtXs_runningWithActs l dC dI q dA s.heap.size M _ hw) (cwV 0 hta (giV wt_541 wt_543 ws_17 wt_1 wt_544) rfl rfl rfl (by decide +kernel) ⟨Nat.le_of_ble_eq_true rfl, Nat.le_of_ble_eq_true rfl⟩) ⟨pW_blind, va_recv hK hP (ci := 0) (q0 := 0) rfl (wX_0 q dA M), pW_of hK hP hD⟩ rfl rfl hl.1 rfl (lv_room (Nat.le_of_ble_eq_true rfl)) dXs_count_54 ⟨Nat.le_of_ble_eq_true rfl, Nat.le_of_ble_eq_true rfl⟩) hD hS hA (fun r_7 M_8 H locs hw hP hD hS => ?_)
        exact W.iret (v := r_7) hx hb hr (fun t ht hW => ⟨⟨r_7, M_8, rfl, hw, by rw [ht]; exact hP, va_K.moved hW.alike hK, hD⟩, hS.F ht⟩) hS.2.2 dXs_count_57 hlocks
      · have hw := hw.2 c_6
        rcases Classical.em (p0 = 3) with c_9 | c_9
        · have hw := hw.1 c_9
          refine lv_tableIn (tgt := 58) (off := 57) hx hb dXs_count_1 (by rw [c_9]; decide) (by rw [c_9]; decide) (by rw [c_9]; decide) (by decide) ?_
          refine lv_aload_n hx hb dXs_count_58 rfl (lv_at hl 0 rfl) ?_
          refine va_get (D := (dC, dI)) (ci := 0) (v := .ref (q 2)) (C := "ServiceThreads") (T := TXs) (N := 14) hx hb hta inXs hown hK hP 0 (wX_0 q dA M) rfl 1 (by decide) (hta _ wt_119) (fun _ h9 => h9) rfl dXs_count_59 ?_
          refine cn_i (w := (wX q dA)) (M := M) (wX_ad q dA) (va_runV (As := []) (rest := []) ⟨hx, hb, hml, hown, hta⟩ (mtXu_sentCount l dC dI q dA s.heap.size M _ hw) (cwV 0 hta (giV wt_545 wt_546 wt_547 wt_4 wt_548) rfl rfl rfl (by decide +kernel) ⟨Nat.le_of_ble_eq_true rfl, Nat.le_of_ble_eq_true rfl⟩) ⟨pW_blind, va_recv hK hP (ci := 2) (q0 := 2) rfl (wX_2 q dA M), pW_of hK hP hD⟩ rfl rfl hl.1 rfl (lv_room (Nat.le_of_ble_eq_true rfl)) dXs_count_62 ⟨Nat.le_of_ble_eq_true rfl, Nat.le_of_ble_eq_true rfl⟩) hD hS hA (fun r_10 M_11 H locs hw hP hD hS => ?_)
          exact W.iret (v := r_10) hx hb hr (fun t ht hW => ⟨⟨r_10, M_11, rfl, hw, by rw [ht]; exact hP, va_K.moved hW.alike hK, hD⟩, hS.F ht⟩) hS.2.2 dXs_count_65 hlocks
        · have hw := hw.2 c_9
          rcases Classical.em (p0 = 4) with c_12 | c_12
          · have hw := hw.1 c_12
            refine lv_tableIn (tgt := 66) (off := 65) hx hb dXs_count_1 (by rw [c_12]; decide) (by rw [c_12]; decide) (by rw [c_12]; decide) (by decide) ?_
            refine lv_aload_n hx hb dXs_count_66 rfl (lv_at hl 0 rfl) ?_
            refine va_get (D := (dC, dI)) (ci := 0) (v := .ref (q 3)) (C := "ServiceThreads") (T := TXs) (N := 14) hx hb hta inXs hown hK hP 0 (wX_0 q dA M) rfl 2 (by decide) (hta _ wt_120) (fun _ h9 => h9) rfl dXs_count_67 ?_
            refine cn_i (w := (wX q dA)) (M := M) (wX_ad q dA) (va_runV (As := []) (rest := []) ⟨hx, hb, hml, hown, hta⟩ (mtXc_openCount l dC dI q dA s.heap.size M _ hw) (cwV 0 hta (giV wt_549 wt_550 wt_551 wt_5 wt_552) rfl rfl rfl (by decide +kernel) ⟨Nat.le_of_ble_eq_true rfl, Nat.le_of_ble_eq_true rfl⟩) ⟨pW_blind, va_recv hK hP (ci := 3) (q0 := 3) rfl (wX_3 q dA M), pW_of hK hP hD⟩ rfl rfl hl.1 rfl (lv_room (Nat.le_of_ble_eq_true rfl)) dXs_count_70 ⟨Nat.le_of_ble_eq_true rfl, Nat.le_of_ble_eq_true rfl⟩) hD hS hA (fun r_13 M_14 H locs hw hP hD hS => ?_)
            exact W.iret (v := r_13) hx hb hr (fun t ht hW => ⟨⟨r_13, M_14, rfl, hw, by rw [ht]; exact hP, va_K.moved hW.alike hK, hD⟩, hS.F ht⟩) hS.2.2 dXs_count_73 hlocks
          · have hw := hw.2 c_12
            rcases Classical.em (p0 = 5) with c_15 | c_15
            · have hw := hw.1 c_15
              refine lv_tableIn (tgt := 74) (off := 73) hx hb dXs_count_1 (by rw [c_15]; decide) (by rw [c_15]; decide) (by rw [c_15]; decide) (by decide) ?_
              refine lv_aload_n hx hb dXs_count_74 rfl (lv_at hl 0 rfl) ?_
              refine va_get (D := (dC, dI)) (ci := 0) (v := .ref (q 2)) (C := "ServiceThreads") (T := TXs) (N := 14) hx hb hta inXs hown hK hP 0 (wX_0 q dA M) rfl 1 (by decide) (hta _ wt_119) (fun _ h9 => h9) rfl dXs_count_75 ?_
              refine cn_i (w := (wX q dA)) (M := M) (wX_ad q dA) (va_runV (As := []) (rest := []) ⟨hx, hb, hml, hown, hta⟩ (mtXu_lockedCount l dC dI q dA s.heap.size M _ hw) (cwV 0 hta (giV wt_553 wt_554 wt_555 wt_4 wt_556) rfl rfl rfl (by decide +kernel) ⟨Nat.le_of_ble_eq_true rfl, Nat.le_of_ble_eq_true rfl⟩) ⟨pW_blind, va_recv hK hP (ci := 2) (q0 := 2) rfl (wX_2 q dA M), pW_of hK hP hD⟩ rfl rfl hl.1 rfl (lv_room (Nat.le_of_ble_eq_true rfl)) dXs_count_78 ⟨Nat.le_of_ble_eq_true rfl, Nat.le_of_ble_eq_true rfl⟩) hD hS hA (fun r_16 M_17 H locs hw hP hD hS => ?_)
              exact W.iret (v := r_16) hx hb hr (fun t ht hW => ⟨⟨r_16, M_17, rfl, hw, by rw [ht]; exact hP, va_K.moved hW.alike hK, hD⟩, hS.F ht⟩) hS.2.2 dXs_count_81 hlocks
            · have hw := hw.2 c_15
              refine lv_tableOut (tgt := 82) hx hb dXs_count_1 (by have n0 := lv_neT c_2 (show (0 : Int32).toInt = 0 by decide); have n1 := lv_neT c_4 (show (1 : Int32).toInt = 1 by decide); have n2 := lv_neT c_6 (show (2 : Int32).toInt = 2 by decide); have n3 := lv_neT c_9 (show (3 : Int32).toInt = 3 by decide); have n4 := lv_neT c_12 (show (4 : Int32).toInt = 4 by decide); have n5 := lv_neT c_15 (show (5 : Int32).toInt = 5 by decide); omega) (by decide) ?_
              exact False.elim hw
set_option maxHeartbeats 4000000 in
set_option maxRecDepth 100000 in
theorem mtXs_count (l : Launch) (hl9 : l.stackTraces = false) (dC : Nat → ClassId) (dI : Nat → Nat → Nat) (q : Nat → Nat) (dA : Nat → ClassId) (sz : Nat) (p0 : Int32) (M : Mm) (post : Int32 → Mm → Prop) (px : Nat → Mm → Prop) (hw : wpXs_count p0 M post px) : vx_Met l yXs_count (wsA yXs_count cXs_count 2 (some .int)) ({ frames := 6, cells := 1, slots := 6, locals := 82 }) (va_Pc [.ref (q 0), .int p0] (pWx (dC, dI) vwCl (wX q dA) (tX dA) sX sz M)) (va_Qi post (bW (dC, dI) vwCl (wX q dA) (tX dA) (va_A (wX q dA M) sz)) (va_A (wX q dA M) sz)) (vx_X (fun u : Nat × Mm => px u.1 u.2) (xW (dC, dI) vwCl (wX q dA) (tX dA) (va_A (wX q dA M) sz)) (va_A (wX q dA M) sz)) 1 6 (va_A (wX q dA M) sz) := by
  refine vx_ofW (cc := cXs_count) (maxL := 2) (ret := (some .int)) (by decide) rfl ?_
  intro p e s m args below meth c s₁ B hml hEx hv
  obtain ⟨rfl, hsz, hP, hK, hD0, hZ, hsp⟩ := hv
  have hx := B.exec
  have hb := B.bytes
  have hr := B.returns
  have hts := atoms_spec (ws := (wsA yXs_count cXs_count 2 (some .int))) B.pre
  have hta : ∀ w ∈ wsG, w.before _ s = true := fun w h => hts w (List.mem_cons_of_mem _ h)
  have hown : s.vm.findClass "ServiceThreads" = some m.cls := findClass_of_methodNamed B.named
  have hlocks := B.notSynchronized
  subst hsz
  have hD := hD0.self (sz := s.heap.size)
  generalize hAe : va_A (wX q dA M) s.heap.size = A at hD hZ ⊢
  have hA : ∀ q : Nat, s.heap.size ≤ q → A q := fun q h => by rw [← hAe]; exact Or.inr h
  have hS : va_S A s.heap s.heap [] := va_S.rf
  dsimp only [wpXs_count] at hw
  have hl := lv_entry ([.ref (q 0), .int p0]) (n := 2) (Nat.le_of_ble_eq_true rfl)
  rw [lg_entry_eq]
  generalize (lg_sl ([.ref (q 0), .int p0]) ++ List.replicate (2 - (lg_sl ([.ref (q 0), .int p0])).length) Slot.unset).toArray = ls at hl ⊢
  have hl : lv_has ls 2 [(0, .ref (q 0)), (1, .int p0)] := hl
  refine lv_iload_n hx hb dXs_count_0 rfl (lv_at hl 1 rfl) ?_
  rcases Classical.em (p0 = 0) with c_2 | c_2
  · have hw := hw.1 c_2
    refine lv_tableIn (tgt := 40) (off := 39) hx hb dXs_count_1 (by rw [c_2]; decide) (by rw [c_2]; decide) (by rw [c_2]; decide) (by decide) ?_
    refine lv_aload_n hx hb dXs_count_40 rfl (lv_at hl 0 rfl) ?_
    refine va_get (D := (dC, dI)) (ci := 0) (v := .int (M 24 0)) (C := "ServiceThreads") (T := TXs) (N := 14) hx hb hta inXs hown hK hP 0 (wX_0 q dA M) rfl 12 (by decide) (hta _ wt_130) (fun _ h9 => h9) rfl dXs_count_41 ?_
    refine lv_topi (fun y_3 ey_3 => ?_)
    have hw := hw y_3 ey_3
    refine vx_ret ?_
    refine W.widen (k := 1) (n := 6) (Nat.le_of_ble_eq_true rfl) (Nat.le_of_ble_eq_true rfl) ?_
    exact W.iret (v := y_3) hx hb hr (fun t ht hW => ⟨⟨y_3, M, rfl, hw, by rw [ht]; exact hP, va_K.moved hW.alike hK, hD⟩, hS.F ht⟩) hS.2.2 dXs_count_44 hlocks
  · have hw := hw.2 c_2
    rcases Classical.em (p0 = 1) with c_4 | c_4
    · have hw := hw.1 c_4
      refine lv_tableIn (tgt := 45) (off := 44) hx hb dXs_count_1 (by rw [c_4]; decide) (by rw [c_4]; decide) (by rw [c_4]; decide) (by decide) ?_
      refine lv_aload_n hx hb dXs_count_45 rfl (lv_at hl 0 rfl) ?_
      refine va_get (D := (dC, dI)) (ci := 0) (v := .ref (q 4)) (C := "ServiceThreads") (T := TXs) (N := 14) hx hb hta inXs hown hK hP 0 (wX_0 q dA M) rfl 3 (by decide) (hta _ wt_121) (fun _ h9 => h9) rfl dXs_count_46 ?_
      refine va_get (D := (dC, dI)) (ci := 4) (v := .int (M 23 0)) (C := "ServiceThreads$Rows") (T := TXr) (N := 5) hx hb hta inXr hown hK hP 4 (wX_4 q dA M) rfl 4 (by decide) (hta _ wt_106) (fun _ h9 => h9) rfl dXs_count_49 ?_
      refine lv_topi (fun y_5 ey_5 => ?_)
      have hw := hw y_5 ey_5
      refine vx_ret ?_
      refine W.widen (k := 1) (n := 6) (Nat.le_of_ble_eq_true rfl) (Nat.le_of_ble_eq_true rfl) ?_
      exact W.iret (v := y_5) hx hb hr (fun t ht hW => ⟨⟨y_5, M, rfl, hw, by rw [ht]; exact hP, va_K.moved hW.alike hK, hD⟩, hS.F ht⟩) hS.2.2 dXs_count_52 hlocks
    · have hw := hw.2 c_4
      rcases Classical.em (p0 = 2) with c_6 | c_6
      · have hw := hw.1 c_6
        refine lv_tableIn (tgt := 53) (off := 52) hx hb dXs_count_1 (by rw [c_6]; decide) (by rw [c_6]; decide) (by rw [c_6]; decide) (by decide) ?_
        refine lv_aload_n hx hb dXs_count_53 rfl (lv_at hl 0 rfl) ?_
        refine cn_i (w := (wX q dA)) (M := M) (wX_ad q dA) (va_runV (As := []) (rest := []) ⟨hx, hb, hml, hown, hta⟩ (mtXs_runningWithActs l dC dI q dA s.heap.size M _ hw) (cwV 0 hta (giV wt_541 wt_543 ws_17 wt_1 wt_544) rfl rfl rfl (by decide +kernel) ⟨Nat.le_of_ble_eq_true rfl, Nat.le_of_ble_eq_true rfl⟩) ⟨pW_blind, va_recv hK hP (ci := 0) (q0 := 0) rfl (wX_0 q dA M), pW_of hK hP hD⟩ rfl rfl hl.1 rfl (lv_room (Nat.le_of_ble_eq_true rfl)) dXs_count_54 ⟨Nat.le_of_ble_eq_true rfl, Nat.le_of_ble_eq_true rfl⟩) hD hS hA (fun r_7 M_8 H locs hw hP hD hS => ?_)
        refine vx_ret ?_
        refine W.widen (k := 1) (n := 6) (Nat.le_of_ble_eq_true rfl) (Nat.le_of_ble_eq_true rfl) ?_
        exact W.iret (v := r_7) hx hb hr (fun t ht hW => ⟨⟨r_7, M_8, rfl, hw, by rw [ht]; exact hP, va_K.moved hW.alike hK, hD⟩, hS.F ht⟩) hS.2.2 dXs_count_57 hlocks
      · have hw := hw.2 c_6
        rcases Classical.em (p0 = 3) with c_9 | c_9
        · have hw := hw.1 c_9
          refine lv_tableIn (tgt := 58) (off := 57) hx hb dXs_count_1 (by rw [c_9]; decide) (by rw [c_9]; decide) (by rw [c_9]; decide) (by decide) ?_
          refine lv_aload_n hx hb dXs_count_58 rfl (lv_at hl 0 rfl) ?_
          refine va_get (D := (dC, dI)) (ci := 0) (v := .ref (q 2)) (C := "ServiceThreads") (T := TXs) (N := 14) hx hb hta inXs hown hK hP 0 (wX_0 q dA M) rfl 1 (by decide) (hta _ wt_119) (fun _ h9 => h9) rfl dXs_count_59 ?_
          refine cn_i (w := (wX q dA)) (M := M) (wX_ad q dA) (va_runV (As := []) (rest := []) ⟨hx, hb, hml, hown, hta⟩ (mtXu_sentCount l dC dI q dA s.heap.size M _ hw) (cwV 0 hta (giV wt_545 wt_546 wt_547 wt_4 wt_548) rfl rfl rfl (by decide +kernel) ⟨Nat.le_of_ble_eq_true rfl, Nat.le_of_ble_eq_true rfl⟩) ⟨pW_blind, va_recv hK hP (ci := 2) (q0 := 2) rfl (wX_2 q dA M), pW_of hK hP hD⟩ rfl rfl hl.1 rfl (lv_room (Nat.le_of_ble_eq_true rfl)) dXs_count_62 ⟨Nat.le_of_ble_eq_true rfl, Nat.le_of_ble_eq_true rfl⟩) hD hS hA (fun r_10 M_11 H locs hw hP hD hS => ?_)
          refine vx_ret ?_
          refine W.widen (k := 1) (n := 6) (Nat.le_of_ble_eq_true rfl) (Nat.le_of_ble_eq_true rfl) ?_
          exact W.iret (v := r_10) hx hb hr (fun t ht hW => ⟨⟨r_10, M_11, rfl, hw, by rw [ht]; exact hP, va_K.moved hW.alike hK, hD⟩, hS.F ht⟩) hS.2.2 dXs_count_65 hlocks
        · have hw := hw.2 c_9
          rcases Classical.em (p0 = 4) with c_12 | c_12
          · have hw := hw.1 c_12
            refine lv_tableIn (tgt := 66) (off := 65) hx hb dXs_count_1 (by rw [c_12]; decide) (by rw [c_12]; decide) (by rw [c_12]; decide) (by decide) ?_
            refine lv_aload_n hx hb dXs_count_66 rfl (lv_at hl 0 rfl) ?_
            refine va_get (D := (dC, dI)) (ci := 0) (v := .ref (q 3)) (C := "ServiceThreads") (T := TXs) (N := 14) hx hb hta inXs hown hK hP 0 (wX_0 q dA M) rfl 2 (by decide) (hta _ wt_120) (fun _ h9 => h9) rfl dXs_count_67 ?_
            refine cn_i (w := (wX q dA)) (M := M) (wX_ad q dA) (va_runV (As := []) (rest := []) ⟨hx, hb, hml, hown, hta⟩ (mtXc_openCount l dC dI q dA s.heap.size M _ hw) (cwV 0 hta (giV wt_549 wt_550 wt_551 wt_5 wt_552) rfl rfl rfl (by decide +kernel) ⟨Nat.le_of_ble_eq_true rfl, Nat.le_of_ble_eq_true rfl⟩) ⟨pW_blind, va_recv hK hP (ci := 3) (q0 := 3) rfl (wX_3 q dA M), pW_of hK hP hD⟩ rfl rfl hl.1 rfl (lv_room (Nat.le_of_ble_eq_true rfl)) dXs_count_70 ⟨Nat.le_of_ble_eq_true rfl, Nat.le_of_ble_eq_true rfl⟩) hD hS hA (fun r_13 M_14 H locs hw hP hD hS => ?_)
            refine vx_ret ?_
            refine W.widen (k := 1) (n := 6) (Nat.le_of_ble_eq_true rfl) (Nat.le_of_ble_eq_true rfl) ?_
            exact W.iret (v := r_13) hx hb hr (fun t ht hW => ⟨⟨r_13, M_14, rfl, hw, by rw [ht]; exact hP, va_K.moved hW.alike hK, hD⟩, hS.F ht⟩) hS.2.2 dXs_count_73 hlocks
          · have hw := hw.2 c_12
            rcases Classical.em (p0 = 5) with c_15 | c_15
            · have hw := hw.1 c_15
              refine lv_tableIn (tgt := 74) (off := 73) hx hb dXs_count_1 (by rw [c_15]; decide) (by rw [c_15]; decide) (by rw [c_15]; decide) (by decide) ?_
              refine lv_aload_n hx hb dXs_count_74 rfl (lv_at hl 0 rfl) ?_
              refine va_get (D := (dC, dI)) (ci := 0) (v := .ref (q 2)) (C := "ServiceThreads") (T := TXs) (N := 14) hx hb hta inXs hown hK hP 0 (wX_0 q dA M) rfl 1 (by decide) (hta _ wt_119) (fun _ h9 => h9) rfl dXs_count_75 ?_
              refine cn_i (w := (wX q dA)) (M := M) (wX_ad q dA) (va_runV (As := []) (rest := []) ⟨hx, hb, hml, hown, hta⟩ (mtXu_lockedCount l dC dI q dA s.heap.size M _ hw) (cwV 0 hta (giV wt_553 wt_554 wt_555 wt_4 wt_556) rfl rfl rfl (by decide +kernel) ⟨Nat.le_of_ble_eq_true rfl, Nat.le_of_ble_eq_true rfl⟩) ⟨pW_blind, va_recv hK hP (ci := 2) (q0 := 2) rfl (wX_2 q dA M), pW_of hK hP hD⟩ rfl rfl hl.1 rfl (lv_room (Nat.le_of_ble_eq_true rfl)) dXs_count_78 ⟨Nat.le_of_ble_eq_true rfl, Nat.le_of_ble_eq_true rfl⟩) hD hS hA (fun r_16 M_17 H locs hw hP hD hS => ?_)
              refine vx_ret ?_
              refine W.widen (k := 1) (n := 6) (Nat.le_of_ble_eq_true rfl) (Nat.le_of_ble_eq_true rfl) ?_
              exact W.iret (v := r_16) hx hb hr (fun t ht hW => ⟨⟨r_16, M_17, rfl, hw, by rw [ht]; exact hP, va_K.moved hW.alike hK, hD⟩, hS.F ht⟩) hS.2.2 dXs_count_81 hlocks
            · have hw := hw.2 c_15
              refine lv_tableOut (tgt := 82) hx hb dXs_count_1 (by have n0 := lv_neT c_2 (show (0 : Int32).toInt = 0 by decide); have n1 := lv_neT c_4 (show (1 : Int32).toInt = 1 by decide); have n2 := lv_neT c_6 (show (2 : Int32).toInt = 2 by decide); have n3 := lv_neT c_9 (show (3 : Int32).toInt = 3 by decide); have n4 := lv_neT c_12 (show (4 : Int32).toInt = 4 by decide); have n5 := lv_neT c_15 (show (5 : Int32).toInt = 5 by decide); omega) (by decide) ?_
              obtain ⟨sa9, hsa9⟩ := sX_s19 hsp
              exact vx_throwS (own := "ServiceThreads") (cls := "java/lang/IllegalArgumentException") (names := ["java/lang/RuntimeException", "java/lang/Exception"]) hx hb hl9 hown (by decide +kernel) (by decide +kernel) (hta _ wt_199) (hta _ wt_11) hsa9 (vx_hat (L := vx_atS "ServiceThreads" 78 "java/lang/IllegalArgumentException" ["java/lang/RuntimeException", "java/lang/Exception"]) (B := [.castable "java/lang/IllegalArgumentException" "java/lang/IllegalArgumentException", .declares ⟨"java/lang/RuntimeException", "<init>", "(Ljava/lang/String;)V"⟩, .declares ⟨"java/lang/Exception", "<init>", "(Ljava/lang/String;)V"⟩, .declares ⟨"java/lang/Throwable", "<init>", "(Ljava/lang/String;)V"⟩]) (fun w hw => hta w (vxw_0 w hw)) vxw_0b (vx_c (va_Nw.use rfl (sX_w0 hsp)) (vx_c (va_Nw.use rfl (sX_w1 hsp)) (vx_c (va_Nw.use rfl (sX_w2 hsp)) (vx_c (va_Nw.use rfl (sX_w3 hsp)) (vx_n)))))) vxw_0g hZ.1 hZ.2 hS (hl.1.trans hml.symm) dXs_count_82 dXs_count_85 dXs_count_86 dXs_count_88 dXs_count_91 (fun x hx => (hEx x hx).elim) (Nat.le_of_ble_eq_true rfl) (Nat.le_of_ble_eq_true rfl) (Nat.le_of_ble_eq_true rfl) (Nat.le_of_ble_eq_true rfl) hlocks (th_x (px := px) (k := 0) hP hK hD hS hw) hS.2.2 (Nat.le_of_ble_eq_true rfl) (Nat.le_of_ble_eq_true rfl)
