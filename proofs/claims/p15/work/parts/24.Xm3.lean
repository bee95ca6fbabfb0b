def wpXm_end (p0 : Int32) (M : Mm) (post : Mm → Prop) : Prop := vp_in p0 8 ∧ (∀ M_2 : Mm, M_2 = stM M 14 (upd (M 14) p0.toNatClampNeg 1) → (wpXm_free p0 M_2 (fun M_4 => (post M_4))))
set_option maxHeartbeats 4000000 in
set_option maxRecDepth 100000 in
theorem mtXm_end (l : Launch) (dC : Nat → ClassId) (dI : Nat → Nat → Nat) (q : Nat → Nat) (dA : Nat → ClassId) (sz : Nat) (p0 : Int32) (M : Mm) (post : Mm → Prop) (hw : wpXm_end p0 M post) : Met l yXm_end (wsA yXm_end cXm_end 2 none) ({ frames := 1, cells := 0, slots := 0, locals := 22 }) (va_Pc [.ref (q 0), .int p0] (pW (dC, dI) vwCl (wM q dA) (tM dA) sz M)) (va_Qv post (bW (dC, dI) vwCl (wM q dA) (tM dA) (va_A (wM q dA M) sz)) (va_A (wM q dA M) sz)) 0 0 (va_A (wM q dA M) sz) := by
  refine Met.ofW (cc := cXm_end) (maxL := 2) (ret := none) (by decide) rfl ?_
  intro p e s m args below meth c s₁ B hml hv
  obtain ⟨rfl, hsz, hP, hK, hD0⟩ := hv
  have hx := B.exec
  have hb := B.bytes
  have hr := B.returns
  have hts := atoms_spec (ws := (wsA yXm_end cXm_end 2 none)) B.pre
  have hta : ∀ w ∈ wsG, w.before _ s = true := fun w h => hts w (List.mem_cons_of_mem _ h)
  have hown : s.vm.findClass "ServiceThreadsModel" = some m.cls := findClass_of_methodNamed B.named
  have hlocks := B.notSynchronized
  subst hsz
  have hD := hD0.self (sz := s.heap.size)
  generalize hAe : va_A (wM q dA M) s.heap.size = A at hD ⊢
  have hA : ∀ q : Nat, s.heap.size ≤ q → A q := fun q h => by rw [← hAe]; exact Or.inr h
  have hS : va_S A s.heap s.heap [] := va_S.rf
  dsimp only [wpXm_end] at hw
  have hl := lv_entry ([.ref (q 0), .int p0]) (n := 2) (Nat.le_of_ble_eq_true rfl)
  rw [lg_entry_eq]
  generalize (lg_sl ([.ref (q 0), .int p0]) ++ List.replicate (2 - (lg_sl ([.ref (q 0), .int p0])).length) Slot.unset).toArray = ls at hl ⊢
  have hl : lv_has ls 2 [(0, .ref (q 0)), (1, .int p0)] := hl
  refine lv_aload_n hx hb dXm_end_0 rfl (lv_at hl 0 rfl) ?_
  refine va_get (D := (dC, dI)) (ci := 5) (v := .ref (q 5)) (C := "ServiceThreadsModel") (T := TXm) (N := 28) hx hb hta inXm hown hK hP 0 (wM_0 q dA M) rfl 7 (by decide) (hta _ wt_572) (fun _ h9 => h9) rfl dXm_end_1 ?_
  refine lv_iload_n hx hb dXm_end_4 rfl (lv_at hl 1 rfl) ?_
  refine lv_iconst (v := 1) hx hb dXm_end_5 (by decide) ?_
  obtain ⟨h_1, hw⟩ := hw
  refine wo_i (w := (wM q dA)) (M := M) hx hb hK hP hD hS 5 4 (wM_5 q dA M) (wM_s5 q dA M) rfl h_1 dXm_end_6 (fun M_2 H locs eM_2 hP hD hS => ?_)
  have hw := hw M_2 eM_2
  refine lv_aload_n hx hb dXm_end_7 rfl (lv_at hl 0 rfl) ?_
  refine lv_iload_n hx hb dXm_end_8 rfl (lv_at hl 1 rfl) ?_
  refine cn_v (w := (wM q dA)) (M := M_2) (wM_ad q dA) (va_runV (As := [.int p0]) (rest := []) ⟨hx, hb, hml, hown, hta⟩ (mtXm_free l dC dI q dA H.size p0 M_2 _ hw) (cwV 1 hta (giV wt_688 wt_690 ws_21 wt_7 wt_691) rfl rfl rfl (by decide +kernel) ⟨Nat.le_of_ble_eq_true rfl, Nat.le_of_ble_eq_true rfl⟩) ⟨pW_blind, va_recv hK hP (ci := 5) (q0 := 0) rfl (wM_0 q dA M_2), pW_of hK hP hD⟩ rfl rfl hl.1 rfl (lv_room (Nat.le_of_ble_eq_true rfl)) dXm_end_9 ⟨Nat.le_of_ble_eq_true rfl, Nat.le_of_ble_eq_true rfl⟩) hD hS hA (fun M_4 H locs hw hP hD hS => ?_)
  exact W.vret hx hb hr (fun t ht hW => ⟨⟨M_4, rfl, hw, by rw [ht]; exact hP, va_K.moved hW.alike hK, hD⟩, hS.F ht⟩) hS.2.2 dXm_end_12 hlocks
def wlXm_turn_19 (post : Int32 → Mm → Prop) : Nat → Int32 → Int32 → Mm → Prop
  | 0, _, _ => fun _ => False
  | n19 + 1, x1, x2 => fun M => ((8 ≤ x2 → (vp_in x1 8 ∧ (∀ y_8 : Int32, y_8 = M 15 x1.toNatClampNeg → (vp_in x1 8 ∧ (∀ y_10 : Int32, y_10 = M 2 x1.toNatClampNeg → (((y_8 = y_10 → (wpXm_end x1 M (fun M_48 => (post 4 M_48)))) ∧ (¬ y_8 = y_10 → (∀ y_12 : Int32, y_12 = (16 : Int32) * x1 → (vp_in x1 8 ∧ (∀ y_14 : Int32, y_14 = M 15 x1.toNatClampNeg → (∀ y_15 : Int32, y_15 = y_12 + y_14 → (vp_in y_15 128 ∧ (∀ y_17 : Int32, y_17 = M 1 y_15.toNatClampNeg → (∀ y_18 : Int32, y_18 = (16 : Int32) * x1 → (vp_in x1 8 ∧ (∀ y_20 : Int32, y_20 = M 15 x1.toNatClampNeg → (∀ y_21 : Int32, y_21 = y_18 + y_20 → (vp_in y_21 128 ∧ (∀ y_23 : Int32, y_23 = M 0 y_21.toNatClampNeg → (((y_23 = 0 → (wpXm_lock x1 y_17 M (fun r_26 M_27 => (post r_26 M_27)))) ∧ (¬ y_23 = 0 → (((y_23 = 1 → (wpXm_unlock x1 y_17 M (fun r_29 M_30 => (post r_29 M_30)))) ∧ (¬ y_23 = 1 → (((y_23 = 2 → (wpXm_take x1 y_17 M (fun r_32 M_33 => (post r_32 M_33)))) ∧ (¬ y_23 = 2 → (((y_23 = 3 → (∀ y_35 : Int32, y_35 = y_17 / 16 → (∀ y_36 : Int32, y_36 = y_17 - y_17 / 16 * 16 → (wpXm_send x1 y_35 y_36 M (fun r_37 M_38 => (post r_37 M_38)))))) ∧ (¬ y_23 = 3 → (((y_23 = 4 → (wpXm_shut x1 y_17 M (fun r_40 M_41 => (post r_40 M_41)))) ∧ (¬ y_23 = 4 → (((y_23 = 5 → (wpXm_rest x1 y_17 M (fun r_43 M_44 => (post r_43 M_44)))) ∧ (¬ y_23 = 5 → (wpXm_fail x1 5 M (fun r_45 M_46 => (post r_45 M_46))))))))))))))))))))))))))))))))))))))))) ∧ (¬ 8 ≤ x2 → (vp_in x2 8 ∧ (∀ y_50 : Int32, y_50 = M 14 x2.toNatClampNeg → (((y_50 = 2 → (∀ y_53 : Int32, y_53 = M 24 0 → (vp_in x2 8 ∧ (∀ y_55 : Int32, y_55 = M 19 x2.toNatClampNeg → (((y_53 < y_55 → (∀ x2_57 : Int32, x2_57 = x2 + 1 → (wlXm_turn_19 post n19 x1 x2_57 M))) ∧ (¬ y_53 < y_55 → (wpXm_free x2 M (fun M_59 => (∀ x2_60 : Int32, x2_60 = x2 + 1 → (wlXm_turn_19 post n19 x1 x2_60 M_59))))))))))) ∧ (¬ y_50 = 2 → (∀ x2_52 : Int32, x2_52 = x2 + 1 → (wlXm_turn_19 post n19 x1 x2_52 M)))))))))
def wpXm_turn (p0 : Int32) (M : Mm) (post : Int32 → Mm → Prop) : Prop := ∀ y_1 : Int32, y_1 = M 24 0 → (∀ y_2 : Int32, y_2 = y_1 + 1 → (∀ M_3 : Mm, M_3 = stM M 24 (fun _ => y_2) → (vp_in p0 8 ∧ (∀ M_5 : Mm, M_5 = stM M_3 21 (upd (M_3 21) p0.toNatClampNeg 1) → (∃ n19 : Nat, wlXm_turn_19 post n19 p0 0 M_5)))))
set_option maxHeartbeats 4000000 in
set_option maxRecDepth 100000 in
theorem LwlXm_turn_19 {p : Program} {l : Launch} {e : Env} {s : State} {m : MethodId} {below : List Frame} {meth : Method} {c : Code} {dC : Nat → ClassId} {dI : Nat → Nat → Nat} {q : Nat → Nat} {dA : Nat → ClassId} {A : Nat → Prop} {av : List Value} {post : Int32 → Mm → Prop} (CX : p.tables.exec = Jvm.exec ∧ c.code = cXm_turn ∧ meth.sig.returnType = (some .int) ∧ c.maxLocals = 3 ∧ s.vm.findClass "ServiceThreadsModel" = some m.cls ∧ (∀ w ∈ wsG, w.before av.toArray s = true) ∧ (∀ q : Nat, s.heap.size ≤ q → A q) ∧ va_K (dC, dI) vwCl (tM dA) s ∧ meth.locks = false) : ∀ (n19 : Nat) (x1 : Int32) (x2 : Int32) (M : Mm) (H : Heap) (locs : List Loc) (ls : Array Slot), wlXm_turn_19 post n19 x1 x2 M → va_P (dC, dI) vwCl (wM q dA M) H → va_D A (wM q dA M) → va_S A s.heap H locs → lv_has ls 3 [(0, .ref (q 0)), (1, .int x1), (2, .int x2)] → W p l e (headSpec (wsA yXm_turn cXm_turn 3 (some .int)) ({ frames := 3, cells := 0, slots := 0, locals := 68 })).room s m av.toArray below meth c H locs 0 0 (MQ below (va_Qi post (bW (dC, dI) vwCl (wM q dA) (tM dA) A) A) av.toArray s 0 0 A) (F0 m 19 ls []) := by
  obtain ⟨hx, hb, hr, hml, hown, hta, hA, hK, hlocks⟩ := CX
  intro n19
  induction n19 with
  | zero =>
    intro x1 x2 M H locs ls hw
    exact False.elim hw
  | succ n19 ih19 =>
    intro x1 x2 M H locs ls hw hP hD hS hl
    dsimp only [wlXm_turn_19] at hw
    refine lv_iload_n hx hb dXm_turn_19 rfl (lv_at hl 2 rfl) ?_
    refine lv_bipush (v := 8) hx hb dXm_turn_20 (by decide) ?_
    refine lv_icmp_ge (tgt := 59) hx hb dXm_turn_22 (by decide) (fun c_6 => ?_) (fun c_6 => ?_)
    · have hw := hw.1 c_6
      refine lv_aload_n hx hb dXm_turn_59 rfl (lv_at hl 0 rfl) ?_
      refine va_get (D := (dC, dI)) (ci := 5) (v := .ref (q 6)) (C := "ServiceThreadsModel") (T := TXm) (N := 28) hx hb hta inXm hown hK hP 0 (wM_0 q dA M) rfl 8 (by decide) (hta _ wt_573) (fun _ h9 => h9) rfl dXm_turn_60 ?_
      refine lv_iload_n hx hb dXm_turn_63 rfl (lv_at hl 1 rfl) ?_
      obtain ⟨h_7, hw⟩ := hw
      refine ro_i (w := (wM q dA)) (M := M) hx hb hK hP 6 5 (wM_6 q dA M) rfl h_7 dXm_turn_64 (fun y_8 ey_8 => ?_)
      have hw := hw y_8 ey_8
      refine lv_aload_n hx hb dXm_turn_65 rfl (lv_at hl 0 rfl) ?_
      refine va_get (D := (dC, dI)) (ci := 5) (v := .ref (q 3)) (C := "ServiceThreadsModel") (T := TXm) (N := 28) hx hb hta inXm hown hK hP 0 (wM_0 q dA M) rfl 5 (by decide) (hta _ wt_570) (fun _ h9 => h9) rfl dXm_turn_66 ?_
      refine lv_iload_n hx hb dXm_turn_69 rfl (lv_at hl 1 rfl) ?_
      obtain ⟨h_9, hw⟩ := hw
      refine ro_i (w := (wM q dA)) (M := M) hx hb hK hP 3 2 (wM_3 q dA M) rfl h_9 dXm_turn_70 (fun y_10 ey_10 => ?_)
      have hw := hw y_10 ey_10
      refine lv_icmp_ne (tgt := 81) hx hb dXm_turn_71 (by decide) (fun c_11 => ?_) (fun c_11 => ?_)
      · have hw := hw.2 c_11
        refine lv_aload_n hx hb dXm_turn_81 rfl (lv_at hl 0 rfl) ?_
        refine va_get (D := (dC, dI)) (ci := 5) (v := .ref (q 2)) (C := "ServiceThreadsModel") (T := TXm) (N := 28) hx hb hta inXm hown hK hP 0 (wM_0 q dA M) rfl 4 (by decide) (hta _ wt_569) (fun _ h9 => h9) rfl dXm_turn_82 ?_
        refine lv_bipush (v := 16) hx hb dXm_turn_85 (by decide) ?_
        refine lv_iload_n hx hb dXm_turn_87 rfl (lv_at hl 1 rfl) ?_
        refine lv_imul hx hb dXm_turn_88 ?_
        refine lv_topi (fun y_12 ey_12 => ?_)
        have hw := hw y_12 ey_12
        refine lv_aload_n hx hb dXm_turn_89 rfl (lv_at hl 0 rfl) ?_
        refine va_get (D := (dC, dI)) (ci := 5) (v := .ref (q 6)) (C := "ServiceThreadsModel") (T := TXm) (N := 28) hx hb hta inXm hown hK hP 0 (wM_0 q dA M) rfl 8 (by decide) (hta _ wt_573) (fun _ h9 => h9) rfl dXm_turn_90 ?_
        refine lv_iload_n hx hb dXm_turn_93 rfl (lv_at hl 1 rfl) ?_
        obtain ⟨h_13, hw⟩ := hw
        refine ro_i (w := (wM q dA)) (M := M) hx hb hK hP 6 5 (wM_6 q dA M) rfl h_13 dXm_turn_94 (fun y_14 ey_14 => ?_)
        have hw := hw y_14 ey_14
        refine lv_iadd hx hb dXm_turn_95 ?_
        refine lv_topi (fun y_15 ey_15 => ?_)
        have hw := hw y_15 ey_15
        obtain ⟨h_16, hw⟩ := hw
        refine ro_i (w := (wM q dA)) (M := M) hx hb hK hP 2 1 (wM_2 q dA M) rfl h_16 dXm_turn_96 (fun y_17 ey_17 => ?_)
        have hw := hw y_17 ey_17
        refine lv_istore_n (lv' := [(2, .int y_17), (0, .ref (q 0)), (1, .int x1)]) hx hb dXm_turn_97 rfl hl (by decide) rfl (fun ls hl => ?_)
        refine lv_aload_n hx hb dXm_turn_98 rfl (lv_at hl 1 rfl) ?_
        refine va_get (D := (dC, dI)) (ci := 5) (v := .ref (q 1)) (C := "ServiceThreadsModel") (T := TXm) (N := 28) hx hb hta inXm hown hK hP 0 (wM_0 q dA M) rfl 3 (by decide) (hta _ wt_568) (fun _ h9 => h9) rfl dXm_turn_99 ?_
        refine lv_bipush (v := 16) hx hb dXm_turn_102 (by decide) ?_
        refine lv_iload_n hx hb dXm_turn_104 rfl (lv_at hl 2 rfl) ?_
        refine lv_imul hx hb dXm_turn_105 ?_
        refine lv_topi (fun y_18 ey_18 => ?_)
        have hw := hw y_18 ey_18
        refine lv_aload_n hx hb dXm_turn_106 rfl (lv_at hl 1 rfl) ?_
        refine va_get (D := (dC, dI)) (ci := 5) (v := .ref (q 6)) (C := "ServiceThreadsModel") (T := TXm) (N := 28) hx hb hta inXm hown hK hP 0 (wM_0 q dA M) rfl 8 (by decide) (hta _ wt_573) (fun _ h9 => h9) rfl dXm_turn_107 ?_
        refine lv_iload_n hx hb dXm_turn_110 rfl (lv_at hl 2 rfl) ?_
        obtain ⟨h_19, hw⟩ := hw
        refine ro_i (w := (wM q dA)) (M := M) hx hb hK hP 6 5 (wM_6 q dA M) rfl h_19 dXm_turn_111 (fun y_20 ey_20 => ?_)
        have hw := hw y_20 ey_20
        refine lv_iadd hx hb dXm_turn_112 ?_
        refine lv_topi (fun y_21 ey_21 => ?_)
        have hw := hw y_21 ey_21
        obtain ⟨h_22, hw⟩ := hw
        refine ro_i (w := (wM q dA)) (M := M) hx hb hK hP 1 0 (wM_1 q dA M) rfl h_22 dXm_turn_113 (fun y_23 ey_23 => ?_)
        have hw := hw y_23 ey_23
        rcases Classical.em (y_23 = 0) with c_25 | c_25
        · have hw := hw.1 c_25
          refine lv_tableIn (tgt := 152) (off := 38) hx hb dXm_turn_114 (by rw [c_25]; decide) (by rw [c_25]; decide) (by rw [c_25]; decide) (by decide) ?_
          refine lv_aload_n hx hb dXm_turn_152 rfl (lv_at hl 1 rfl) ?_
          refine lv_iload_n hx hb dXm_turn_153 rfl (lv_at hl 2 rfl) ?_
          refine lv_iload_n hx hb dXm_turn_154 rfl (lv_at hl 0 rfl) ?_
          refine cn_i (w := (wM q dA)) (M := M) (wM_ad q dA) (va_runV (As := [.int x1, .int y_17]) (rest := []) ⟨hx, hb, hml, hown, hta⟩ (mtXm_lock l dC dI q dA H.size x1 y_17 M _ hw) (cwV 2 hta (giV wt_696 wt_698 ws_23 wt_7 wt_699) rfl rfl rfl (by decide +kernel) ⟨Nat.le_of_ble_eq_true rfl, Nat.le_of_ble_eq_true rfl⟩) ⟨pW_blind, va_recv hK hP (ci := 5) (q0 := 0) rfl (wM_0 q dA M), pW_of hK hP hD⟩ rfl rfl hl.1 rfl (lv_room (Nat.le_of_ble_eq_true rfl)) dXm_turn_155 ⟨Nat.le_of_ble_eq_true rfl, Nat.le_of_ble_eq_true rfl⟩) hD hS hA (fun r_26 M_27 H locs hw hP hD hS => ?_)
          exact W.iret (v := r_26) hx hb hr (fun t ht hW => ⟨⟨r_26, M_27, rfl, hw, by rw [ht]; exact hP, va_K.moved hW.alike hK, hD⟩, hS.F ht⟩) hS.2.2 dXm_turn_158 hlocks
        · have hw := hw.2 c_25
          rcases Classical.em (y_23 = 1) with c_28 | c_28
          · have hw := hw.1 c_28
            refine lv_tableIn (tgt := 159) (off := 45) hx hb dXm_turn_114 (by rw [c_28]; decide) (by rw [c_28]; decide) (by rw [c_28]; decide) (by decide) ?_
            refine lv_aload_n hx hb dXm_turn_159 rfl (lv_at hl 1 rfl) ?_
            refine lv_iload_n hx hb dXm_turn_160 rfl (lv_at hl 2 rfl) ?_
            refine lv_iload_n hx hb dXm_turn_161 rfl (lv_at hl 0 rfl) ?_
            refine cn_i (w := (wM q dA)) (M := M) (wM_ad q dA) (va_runV (As := [.int x1, .int y_17]) (rest := []) ⟨hx, hb, hml, hown, hta⟩ (mtXm_unlock l dC dI q dA H.size x1 y_17 M _ hw) (cwV 2 hta (giV wt_720 wt_722 ws_29 wt_7 wt_723) rfl rfl rfl (by decide +kernel) ⟨Nat.le_of_ble_eq_true rfl, Nat.le_of_ble_eq_true rfl⟩) ⟨pW_blind, va_recv hK hP (ci := 5) (q0 := 0) rfl (wM_0 q dA M), pW_of hK hP hD⟩ rfl rfl hl.1 rfl (lv_room (Nat.le_of_ble_eq_true rfl)) dXm_turn_162 ⟨Nat.le_of_ble_eq_true rfl, Nat.le_of_ble_eq_true rfl⟩) hD hS hA (fun r_29 M_30 H locs hw hP hD hS => ?_)
            exact W.iret (v := r_29) hx hb hr (fun t ht hW => ⟨⟨r_29, M_30, rfl, hw, by rw [ht]; exact hP, va_K.moved hW.alike hK, hD⟩, hS.F ht⟩) hS.2.2 dXm_turn_165 hlocks
          · have hw := hw.2 c_28
            rcases Classical.em (y_23 = 2) with c_31 | c_31
            · have hw := hw.1 c_31
              refine lv_tableIn (tgt := 166) (off := 52) hx hb dXm_turn_114 (by rw [c_31]; decide) (by rw [c_31]; decide) (by rw [c_31]; decide) (by decide) ?_
              refine lv_aload_n hx hb dXm_turn_166 rfl (lv_at hl 1 rfl) ?_
              refine lv_iload_n hx hb dXm_turn_167 rfl (lv_at hl 2 rfl) ?_
              refine lv_iload_n hx hb dXm_turn_168 rfl (lv_at hl 0 rfl) ?_
              refine cn_i (w := (wM q dA)) (M := M) (wM_ad q dA) (va_runV (As := [.int x1, .int y_17]) (rest := []) ⟨hx, hb, hml, hown, hta⟩ (mtXm_take l dC dI q dA H.size x1 y_17 M _ hw) (cwV 2 hta (giV wt_724 wt_726 ws_30 wt_7 wt_727) rfl rfl rfl (by decide +kernel) ⟨Nat.le_of_ble_eq_true rfl, Nat.le_of_ble_eq_true rfl⟩) ⟨pW_blind, va_recv hK hP (ci := 5) (q0 := 0) rfl (wM_0 q dA M), pW_of hK hP hD⟩ rfl rfl hl.1 rfl (lv_room (Nat.le_of_ble_eq_true rfl)) dXm_turn_169 ⟨Nat.le_of_ble_eq_true rfl, Nat.le_of_ble_eq_true rfl⟩) hD hS hA (fun r_32 M_33 H locs hw hP hD hS => ?_)
              exact W.iret (v := r_32) hx hb hr (fun t ht hW => ⟨⟨r_32, M_33, rfl, hw, by rw [ht]; exact hP, va_K.moved hW.alike hK, hD⟩, hS.F ht⟩) hS.2.2 dXm_turn_172 hlocks
            · have hw := hw.2 c_31
              rcases Classical.em (y_23 = 3) with c_34 | c_34
              · have hw := hw.1 c_34
                refine lv_tableIn (tgt := 173) (off := 59) hx hb dXm_turn_114 (by rw [c_34]; decide) (by rw [c_34]; decide) (by rw [c_34]; decide) (by decide) ?_
                refine lv_aload_n hx hb dXm_turn_173 rfl (lv_at hl 1 rfl) ?_
                refine lv_iload_n hx hb dXm_turn_174 rfl (lv_at hl 2 rfl) ?_
                refine lv_iload_n hx hb dXm_turn_175 rfl (lv_at hl 0 rfl) ?_
                refine lv_bipush (v := 16) hx hb dXm_turn_176 (by decide) ?_
                refine lv_idiv hx hb dXm_turn_178 (by decide) ?_
                refine lv_topi (fun y_35 ey_35 => ?_)
                have hw := hw y_35 ey_35
                refine lv_iload_n hx hb dXm_turn_179 rfl (lv_at hl 0 rfl) ?_
                refine lv_bipush (v := 16) hx hb dXm_turn_180 (by decide) ?_
                refine lv_irem hx hb dXm_turn_182 (by decide) ?_
                refine lv_topi (fun y_36 ey_36 => ?_)
                have hw := hw y_36 ey_36
                refine cn_i (w := (wM q dA)) (M := M) (wM_ad q dA) (va_runV (As := [.int x1, .int y_35, .int y_36]) (rest := []) ⟨hx, hb, hml, hown, hta⟩ (mtXm_send l dC dI q dA H.size x1 y_35 y_36 M _ hw) (cwV 3 hta (giV wt_728 wt_730 ws_31 wt_7 wt_731) rfl rfl rfl (by decide +kernel) ⟨Nat.le_of_ble_eq_true rfl, Nat.le_of_ble_eq_true rfl⟩) ⟨pW_blind, va_recv hK hP (ci := 5) (q0 := 0) rfl (wM_0 q dA M), pW_of hK hP hD⟩ rfl rfl hl.1 rfl (lv_room (Nat.le_of_ble_eq_true rfl)) dXm_turn_183 ⟨Nat.le_of_ble_eq_true rfl, Nat.le_of_ble_eq_true rfl⟩) hD hS hA (fun r_37 M_38 H locs hw hP hD hS => ?_)
                exact W.iret (v := r_37) hx hb hr (fun t ht hW => ⟨⟨r_37, M_38, rfl, hw, by rw [ht]; exact hP, va_K.moved hW.alike hK, hD⟩, hS.F ht⟩) hS.2.2 dXm_turn_186 hlocks
              · have hw := hw.2 c_34
                rcases Classical.em (y_23 = 4) with c_39 | c_39
                · have hw := hw.1 c_39
                  refine lv_tableIn (tgt := 187) (off := 73) hx hb dXm_turn_114 (by rw [c_39]; decide) (by rw [c_39]; decide) (by rw [c_39]; decide) (by decide) ?_
                  refine lv_aload_n hx hb dXm_turn_187 rfl (lv_at hl 1 rfl) ?_
                  refine lv_iload_n hx hb dXm_turn_188 rfl (lv_at hl 2 rfl) ?_
                  refine lv_iload_n hx hb dXm_turn_189 rfl (lv_at hl 0 rfl) ?_
                  refine cn_i (w := (wM q dA)) (M := M) (wM_ad q dA) (va_runV (As := [.int x1, .int y_17]) (rest := []) ⟨hx, hb, hml, hown, hta⟩ (mtXm_shut l dC dI q dA H.size x1 y_17 M _ hw) (cwV 2 hta (giV wt_736 wt_738 ws_33 wt_7 wt_739) rfl rfl rfl (by decide +kernel) ⟨Nat.le_of_ble_eq_true rfl, Nat.le_of_ble_eq_true rfl⟩) ⟨pW_blind, va_recv hK hP (ci := 5) (q0 := 0) rfl (wM_0 q dA M), pW_of hK hP hD⟩ rfl rfl hl.1 rfl (lv_room (Nat.le_of_ble_eq_true rfl)) dXm_turn_190 ⟨Nat.le_of_ble_eq_true rfl, Nat.le_of_ble_eq_true rfl⟩) hD hS hA (fun r_40 M_41 H locs hw hP hD hS => ?_)
                  exact W.iret (v := r_40) hx hb hr (fun t ht hW => ⟨⟨r_40, M_41, rfl, hw, by rw [ht]; exact hP, va_K.moved hW.alike hK, hD⟩, hS.F ht⟩) hS.2.2 dXm_turn_193 hlocks
                · have hw := hw.2 c_39
                  rcases Classical.em (y_23 = 5) with c_42 | c_42
                  · have hw := hw.1 c_42
                    refine lv_tableIn (tgt := 194) (off := 80) hx hb dXm_turn_114 (by rw [c_42]; decide) (by rw [c_42]; decide) (by rw [c_42]; decide) (by decide) ?_
                    refine lv_aload_n hx hb dXm_turn_194 rfl (lv_at hl 1 rfl) ?_
                    refine lv_iload_n hx hb dXm_turn_195 rfl (lv_at hl 2 rfl) ?_
                    refine lv_iload_n hx hb dXm_turn_196 rfl (lv_at hl 0 rfl) ?_
                    refine cn_i (w := (wM q dA)) (M := M) (wM_ad q dA) (va_runV (As := [.int x1, .int y_17]) (rest := []) ⟨hx, hb, hml, hown, hta⟩ (mtXm_rest l dC dI q dA H.size x1 y_17 M _ hw) (cwV 2 hta (giV wt_740 wt_742 ws_34 wt_7 wt_743) rfl rfl rfl (by decide +kernel) ⟨Nat.le_of_ble_eq_true rfl, Nat.le_of_ble_eq_true rfl⟩) ⟨pW_blind, va_recv hK hP (ci := 5) (q0 := 0) rfl (wM_0 q dA M), pW_of hK hP hD⟩ rfl rfl hl.1 rfl (lv_room (Nat.le_of_ble_eq_true rfl)) dXm_turn_197 ⟨Nat.le_of_ble_eq_true rfl, Nat.le_of_ble_eq_true rfl⟩) hD hS hA (fun r_43 M_44 H locs hw hP hD hS => ?_)
                    exact W.iret (v := r_43) hx hb hr (fun t ht hW => ⟨⟨r_43, M_44, rfl, hw, by rw [ht]; exact hP, va_K.moved hW.alike hK, hD⟩, hS.F ht⟩) hS.2.2 dXm_turn_200 hlocks
                  · have hw := hw.2 c_42
                    refine lv_tableOut (tgt := 201) hx hb dXm_turn_114 (by have n0 := lv_neT c_25 (show (0 : Int32).toInt = 0 by decide); have n1 := lv_neT c_28 (show (1 : Int32).toInt = 1 by decide); have n2 := lv_neT c_31 (show (2 : Int32).toInt = 2 by decide); have n3 := lv_neT c_34 (show (3 : Int32).toInt = 3 by decide); have n4 := lv_neT c_39 (show (4 : Int32).toInt = 4 by decide); have n5 := lv_neT c_42 (show (5 : Int32).toInt = 5 by decide); omega) (by decide) ?_
                    refine lv_aload_n hx hb dXm_turn_201 rfl (lv_at hl 1 rfl) ?_
                    refine lv_iload_n hx hb dXm_turn_202 rfl (lv_at hl 2 rfl) ?_
                    refine lv_iconst (v := 5) hx hb dXm_turn_203 (by decide) ?_
                    refine cn_i (w := (wM q dA)) (M := M) (wM_ad q dA) (va_runV (As := [.int x1, .int 5]) (rest := []) ⟨hx, hb, hml, hown, hta⟩ (mtXm_fail l dC dI q dA H.size x1 5 M _ hw) (cwV 2 hta (giV wt_700 wt_702 ws_24 wt_7 wt_703) rfl rfl rfl (by decide +kernel) ⟨Nat.le_of_ble_eq_true rfl, Nat.le_of_ble_eq_true rfl⟩) ⟨pW_blind, va_recv hK hP (ci := 5) (q0 := 0) rfl (wM_0 q dA M), pW_of hK hP hD⟩ rfl rfl hl.1 rfl (lv_room (Nat.le_of_ble_eq_true rfl)) dXm_turn_204 ⟨Nat.le_of_ble_eq_true rfl, Nat.le_of_ble_eq_true rfl⟩) hD hS hA (fun r_45 M_46 H locs hw hP hD hS => ?_)
                    exact W.iret (v := r_45) hx hb hr (fun t ht hW => ⟨⟨r_45, M_46, rfl, hw, by rw [ht]; exact hP, va_K.moved hW.alike hK, hD⟩, hS.F ht⟩) hS.2.2 dXm_turn_207 hlocks
      · have hw := hw.1 c_11
        refine lv_aload_n hx hb dXm_turn_74 rfl (lv_at hl 0 rfl) ?_
        refine lv_iload_n hx hb dXm_turn_75 rfl (lv_at hl 1 rfl) ?_
        refine cn_v (w := (wM q dA)) (M := M) (wM_ad q dA) (va_runV (As := [.int x1]) (rest := []) ⟨hx, hb, hml, hown, hta⟩ (mtXm_end l dC dI q dA H.size x1 M _ hw) (cwV 1 hta (giV wt_692 wt_694 ws_22 wt_7 wt_695) rfl rfl rfl (by decide +kernel) ⟨Nat.le_of_ble_eq_true rfl, Nat.le_of_ble_eq_true rfl⟩) ⟨pW_blind, va_recv hK hP (ci := 5) (q0 := 0) rfl (wM_0 q dA M), pW_of hK hP hD⟩ rfl rfl hl.1 rfl (lv_room (Nat.le_of_ble_eq_true rfl)) dXm_turn_76 ⟨Nat.le_of_ble_eq_true rfl, Nat.le_of_ble_eq_true rfl⟩) hD hS hA (fun M_48 H locs hw hP hD hS => ?_)
        refine lv_iconst (v := 4) hx hb dXm_turn_79 (by decide) ?_
        exact W.iret (v := 4) hx hb hr (fun t ht hW => ⟨⟨4, M_48, rfl, hw, by rw [ht]; exact hP, va_K.moved hW.alike hK, hD⟩, hS.F ht⟩) hS.2.2 dXm_turn_80 hlocks
    · have hw := hw.2 c_6
      refine lv_aload_n hx hb dXm_turn_25 rfl (lv_at hl 0 rfl) ?_
      refine va_get (D := (dC, dI)) (ci := 5) (v := .ref (q 5)) (C := "ServiceThreadsModel") (T := TXm) (N := 28) hx hb hta inXm hown hK hP 0 (wM_0 q dA M) rfl 7 (by decide) (hta _ wt_572) (fun _ h9 => h9) rfl dXm_turn_26 ?_
      refine lv_iload_n hx hb dXm_turn_29 rfl (lv_at hl 2 rfl) ?_
      obtain ⟨h_49, hw⟩ := hw
      refine ro_i (w := (wM q dA)) (M := M) hx hb hK hP 5 4 (wM_5 q dA M) rfl h_49 dXm_turn_30 (fun y_50 ey_50 => ?_)
      have hw := hw y_50 ey_50
      refine lv_iconst (v := 2) hx hb dXm_turn_31 (by decide) ?_
      refine lv_icmp_ne (tgt := 53) hx hb dXm_turn_32 (by decide) (fun c_51 => ?_) (fun c_51 => ?_)
      · have hw := hw.2 c_51
        obtain ⟨x2_52, ex2_52⟩ : ∃ y : Int32, y = x2 + 1 := ⟨_, rfl⟩
        have hw := hw x2_52 ex2_52
        refine lv_iinc (v := x2_52) (lv' := [(2, .int x2_52), (0, .ref (q 0)), (1, .int x1)]) hx hb dXm_turn_53 hl (k := 2) rfl (by rw [ex2_52]; rfl) (by decide) rfl (fun ls hl => ?_)
        refine lv_goto (tgt := 19) hx hb dXm_turn_56 (by decide) ?_
        exact ih19 x1 x2_52 M _ _ _ hw hP hD hS (lv_sub hl [1, 2, 0] rfl)
      · have hw := hw.1 c_51
        refine lv_aload_n hx hb dXm_turn_35 rfl (lv_at hl 0 rfl) ?_
        refine va_get (D := (dC, dI)) (ci := 5) (v := .int (M 24 0)) (C := "ServiceThreadsModel") (T := TXm) (N := 28) hx hb hta inXm hown hK hP 0 (wM_0 q dA M) rfl 1 (by decide) (hta _ wt_566) (fun _ h9 => h9) rfl dXm_turn_36 ?_
        refine lv_topi (fun y_53 ey_53 => ?_)
        have hw := hw y_53 ey_53
        refine lv_aload_n hx hb dXm_turn_39 rfl (lv_at hl 0 rfl) ?_
        refine va_get (D := (dC, dI)) (ci := 5) (v := .ref (q 8)) (C := "ServiceThreadsModel") (T := TXm) (N := 28) hx hb hta inXm hown hK hP 0 (wM_0 q dA M) rfl 10 (by decide) (hta _ wt_575) (fun _ h9 => h9) rfl dXm_turn_40 ?_
        refine lv_iload_n hx hb dXm_turn_43 rfl (lv_at hl 2 rfl) ?_
        obtain ⟨h_54, hw⟩ := hw
        refine ro_i (w := (wM q dA)) (M := M) hx hb hK hP 8 7 (wM_8 q dA M) rfl h_54 dXm_turn_44 (fun y_55 ey_55 => ?_)
        have hw := hw y_55 ey_55
        refine lv_icmp_lt (tgt := 53) hx hb dXm_turn_45 (by decide) (fun c_56 => ?_) (fun c_56 => ?_)
        · have hw := hw.1 c_56
          obtain ⟨x2_57, ex2_57⟩ : ∃ y : Int32, y = x2 + 1 := ⟨_, rfl⟩
          have hw := hw x2_57 ex2_57
          refine lv_iinc (v := x2_57) (lv' := [(2, .int x2_57), (0, .ref (q 0)), (1, .int x1)]) hx hb dXm_turn_53 hl (k := 2) rfl (by rw [ex2_57]; rfl) (by decide) rfl (fun ls hl => ?_)
          refine lv_goto (tgt := 19) hx hb dXm_turn_56 (by decide) ?_
          exact ih19 x1 x2_57 M _ _ _ hw hP hD hS (lv_sub hl [1, 2, 0] rfl)
        · have hw := hw.2 c_56
          refine lv_aload_n hx hb dXm_turn_48 rfl (lv_at hl 0 rfl) ?_
          refine lv_iload_n hx hb dXm_turn_49 rfl (lv_at hl 2 rfl) ?_
          refine cn_v (w := (wM q dA)) (M := M) (wM_ad q dA) (va_runV (As := [.int x2]) (rest := []) ⟨hx, hb, hml, hown, hta⟩ (mtXm_free l dC dI q dA H.size x2 M _ hw) (cwV 1 hta (giV wt_688 wt_690 ws_21 wt_7 wt_691) rfl rfl rfl (by decide +kernel) ⟨Nat.le_of_ble_eq_true rfl, Nat.le_of_ble_eq_true rfl⟩) ⟨pW_blind, va_recv hK hP (ci := 5) (q0 := 0) rfl (wM_0 q dA M), pW_of hK hP hD⟩ rfl rfl hl.1 rfl (lv_room (Nat.le_of_ble_eq_true rfl)) dXm_turn_50 ⟨Nat.le_of_ble_eq_true rfl, Nat.le_of_ble_eq_true rfl⟩) hD hS hA (fun M_59 H locs hw hP hD hS => ?_)
          obtain ⟨x2_60, ex2_60⟩ : ∃ y : Int32, y = x2 + 1 := ⟨_, rfl⟩
          have hw := hw x2_60 ex2_60
          refine lv_iinc (v := x2_60) (lv' := [(2, .int x2_60), (0, .ref (q 0)), (1, .int x1)]) hx hb dXm_turn_53 hl (k := 2) rfl (by rw [ex2_60]; rfl) (by decide) rfl (fun ls hl => ?_)
          refine lv_goto (tgt := 19) hx hb dXm_turn_56 (by decide) ?_
          exact ih19 x1 x2_60 M_59 _ _ _ hw hP hD hS (lv_sub hl [1, 2, 0] rfl)
set_option maxHeartbeats 4000000 in
set_option maxRecDepth 100000 in
theorem mtXm_turn (l : Launch) (dC : Nat → ClassId) (dI : Nat → Nat → Nat) (q : Nat → Nat) (dA : Nat → ClassId) (sz : Nat) (p0 : Int32) (M : Mm) (post : Int32 → Mm → Prop) (hw : wpXm_turn p0 M post) : Met l yXm_turn (wsA yXm_turn cXm_turn 3 (some .int)) ({ frames := 3, cells := 0, slots := 0, locals := 68 }) (va_Pc [.ref (q 0), .int p0] (pW (dC, dI) vwCl (wM q dA) (tM dA) sz M)) (va_Qi post (bW (dC, dI) vwCl (wM q dA) (tM dA) (va_A (wM q dA M) sz)) (va_A (wM q dA M) sz)) 0 0 (va_A (wM q dA M) sz) := by
  refine Met.ofW (cc := cXm_turn) (maxL := 3) (ret := (some .int)) (by decide) rfl ?_
  intro p e s m args below meth c s₁ B hml hv
  obtain ⟨rfl, hsz, hP, hK, hD0⟩ := hv
  have hx := B.exec
  have hb := B.bytes
  have hr := B.returns
  have hts := atoms_spec (ws := (wsA yXm_turn cXm_turn 3 (some .int))) B.pre
  have hta : ∀ w ∈ wsG, w.before _ s = true := fun w h => hts w (List.mem_cons_of_mem _ h)
  have hown : s.vm.findClass "ServiceThreadsModel" = some m.cls := findClass_of_methodNamed B.named
  have hlocks := B.notSynchronized
  subst hsz
  have hD := hD0.self (sz := s.heap.size)
  generalize hAe : va_A (wM q dA M) s.heap.size = A at hD ⊢
  have hA : ∀ q : Nat, s.heap.size ≤ q → A q := fun q h => by rw [← hAe]; exact Or.inr h
  have hS : va_S A s.heap s.heap [] := va_S.rf
  dsimp only [wpXm_turn] at hw
  have hl := lv_entry ([.ref (q 0), .int p0]) (n := 3) (Nat.le_of_ble_eq_true rfl)
  rw [lg_entry_eq]
  generalize (lg_sl ([.ref (q 0), .int p0]) ++ List.replicate (3 - (lg_sl ([.ref (q 0), .int p0])).length) Slot.unset).toArray = ls at hl ⊢
  have hl : lv_has ls 3 [(0, .ref (q 0)), (1, .int p0)] := hl
  refine lv_aload_n hx hb dXm_turn_0 rfl (lv_at hl 0 rfl) ?_
  refine lv_dup hx hb dXm_turn_1 rfl ?_
  refine va_get (D := (dC, dI)) (ci := 5) (v := .int (M 24 0)) (C := "ServiceThreadsModel") (T := TXm) (N := 28) hx hb hta inXm hown hK hP 0 (wM_0 q dA M) rfl 1 (by decide) (hta _ wt_566) (fun _ h9 => h9) rfl dXm_turn_2 ?_
  refine lv_topi (fun y_1 ey_1 => ?_)
  have hw := hw y_1 ey_1
  refine lv_iconst (v := 1) hx hb dXm_turn_5 (by decide) ?_
  refine lv_iadd hx hb dXm_turn_6 ?_
  refine lv_topi (fun y_2 ey_2 => ?_)
  have hw := hw y_2 ey_2
  refine va_put (D := (dC, dI)) (ci := 5) (v := .int y_2) (ty := .int) (C := "ServiceThreadsModel") (T := TXm) (N := 28) hx hb hta inXm tyXm tyXm_ok nmXm hown hK hP hD hS 0 (wM_0 q dA M) rfl 1 (by decide) (hta _ wt_566) (fun _ h9 => h9) rfl (by decide +kernel) rfl rfl (Nat.le_of_ble_eq_true rfl) dXm_turn_7 (fun H locs hP hD hS => ?_)
  obtain ⟨M_3, eM_3⟩ : ∃ y : Mm, y = stM M 24 (fun _ => y_2) := ⟨_, rfl⟩
  have hP : va_P (dC, dI) vwCl (wM q dA M_3) H := by rw [eM_3]; exact hP
  have hD : va_D A (wM q dA M_3) := by rw [eM_3]; exact hD
  have hw := hw M_3 eM_3
  refine lv_aload_n hx hb dXm_turn_10 rfl (lv_at hl 0 rfl) ?_
  refine va_get (D := (dC, dI)) (ci := 5) (v := .ref (q 11)) (C := "ServiceThreadsModel") (T := TXm) (N := 28) hx hb hta inXm hown hK hP 0 (wM_0 q dA M_3) rfl 13 (by decide) (hta _ wt_578) (fun _ h9 => h9) rfl dXm_turn_11 ?_
  refine lv_iload_n hx hb dXm_turn_14 rfl (lv_at hl 1 rfl) ?_
  refine lv_iconst (v := 1) hx hb dXm_turn_15 (by decide) ?_
  obtain ⟨h_4, hw⟩ := hw
  refine wo_z (w := (wM q dA)) (M := M_3) hx hb hK hP hD hS 11 10 (wM_11 q dA M_3) (wM_s11 q dA M_3) rfl (by decide) h_4 dXm_turn_16 (fun M_5 H locs eM_5 hP hD hS => ?_)
  have hw := hw M_5 eM_5
  refine lv_iconst (v := 0) hx hb dXm_turn_17 (by decide) ?_
  refine lv_istore_n (lv' := [(2, .int 0), (0, .ref (q 0)), (1, .int p0)]) hx hb dXm_turn_18 rfl hl (by decide) rfl (fun ls hl => ?_)
  obtain ⟨n19, hw⟩ := hw
  exact LwlXm_turn_19 (A := A) (av := [.ref (q 0), .int p0]) ⟨hx, hb, hr, hml, hown, hta, hA, hK, hlocks⟩ n19 p0 0 M_5 _ _ _ hw hP hD hS (lv_sub hl [1, 2, 0] rfl)
def wpXm_step (p0 : Int32) (M : Mm) (post : Int32 → Mm → Prop) : Prop := wpXm_isThread p0 M (fun r_1 M_2 => (((r_1 = 0 → (wpXm_throwing 1 0 0 0 M_2 (fun r_20 M_21 => (((r_20 = 0 → (wpXm_turn p0 M_21 (fun r_23 M_24 => (post r_23 M_24)))) ∧ (¬ r_20 = 0 → (post 0 M_21))))))) ∧ (¬ r_1 = 0 → (vp_in p0 8 ∧ (∀ y_7 : Int32, y_7 = M_2 14 p0.toNatClampNeg → (((y_7 = 0 → (wpXm_throwing 0 0 0 0 M_2 (fun r_9 M_10 => (((r_9 = 0 → (wpXm_turn p0 M_10 (fun r_12 M_13 => (post r_12 M_13)))) ∧ (¬ r_9 = 0 → (post 0 M_10))))))) ∧ (¬ y_7 = 0 → (wpXm_throwing 0 1 0 0 M_2 (fun r_14 M_15 => (((r_14 = 0 → (wpXm_turn p0 M_15 (fun r_17 M_18 => (post r_17 M_18)))) ∧ (¬ r_14 = 0 → (post 0 M_15)))))))))))))))
set_option maxHeartbeats 4000000 in
set_option maxRecDepth 100000 in
theorem mtXm_step (l : Launch) (dC : Nat → ClassId) (dI : Nat → Nat → Nat) (q : Nat → Nat) (dA : Nat → ClassId) (sz : Nat) (p0 : Int32) (M : Mm) (post : Int32 → Mm → Prop) (hw : wpXm_step p0 M post) : Met l yXm_step (wsA yXm_step cXm_step 3 (some .int)) ({ frames := 4, cells := 0, slots := 0, locals := 90 }) (va_Pc [.ref (q 0), .int p0] (pW (dC, dI) vwCl (wM q dA) (tM dA) sz M)) (va_Qi post (bW (dC, dI) vwCl (wM q dA) (tM dA) (va_A (wM q dA M) sz)) (va_A (wM q dA M) sz)) 0 0 (va_A (wM q dA M) sz) := by
  refine Met.ofW (cc := cXm_step) (maxL := 3) (ret := (some .int)) (by decide) rfl ?_
  intro p e s m args below meth c s₁ B hml hv
  obtain ⟨rfl, hsz, hP, hK, hD0⟩ := hv
  have hx := B.exec
  have hb := B.bytes
  have hr := B.returns
  have hts := atoms_spec (ws := (wsA yXm_step cXm_step 3 (some .int))) B.pre
  have hta : ∀ w ∈ wsG, w.before _ s = true := fun w h => hts w (List.mem_cons_of_mem _ h)
  have hown : s.vm.findClass "ServiceThreadsModel" = some m.cls := findClass_of_methodNamed B.named
  have hlocks := B.notSynchronized
  subst hsz
  have hD := hD0.self (sz := s.heap.size)
  generalize hAe : va_A (wM q dA M) s.heap.size = A at hD ⊢
  have hA : ∀ q : Nat, s.heap.size ≤ q → A q := fun q h => by rw [← hAe]; exact Or.inr h
  have hS : va_S A s.heap s.heap [] := va_S.rf
  dsimp only [wpXm_step] at hw
  have hl := lv_entry ([.ref (q 0), .int p0]) (n := 3) (Nat.le_of_ble_eq_true rfl)
  rw [lg_entry_eq]
  generalize (lg_sl ([.ref (q 0), .int p0]) ++ List.replicate (3 - (lg_sl ([.ref (q 0), .int p0])).length) Slot.unset).toArray = ls at hl ⊢
  have hl : lv_has ls 3 [(0, .ref (q 0)), (1, .int p0)] := hl
  refine lv_iload_n hx hb dXm_step_0 rfl (lv_at hl 1 rfl) ?_
  refine cn_i (w := (wM q dA)) (M := M) (wM_ad q dA) (va_runS (As := [.int p0]) (rest := []) ⟨hx, hb, hml, hown, hta⟩ (mtXm_isThread l dC dI q dA s.heap.size p0 M _ hw) (va_cwS 1 hta (giS wt_658 wt_659 wt_7 wt_660) rfl rfl rfl (by decide +kernel) ⟨Nat.le_of_ble_eq_true rfl, Nat.le_of_ble_eq_true rfl⟩) ⟨pW_blind, pW_of hK hP hD⟩ rfl rfl hl.1 rfl (lv_room (Nat.le_of_ble_eq_true rfl)) dXm_step_1 ⟨Nat.le_of_ble_eq_true rfl, Nat.le_of_ble_eq_true rfl⟩) hD hS hA (fun r_1 M_2 H locs hw hP hD hS => ?_)
  refine lv_if_ne (tgt := 11) hx hb dXm_step_4 (by decide) (fun c_3 => ?_) (fun c_3 => ?_)
  · have hw := hw.2 c_3
    refine lv_iconst (v := 0) hx hb dXm_step_11 (by decide) ?_
    refine lv_istore_n (lv' := [(2, .int 0), (0, .ref (q 0)), (1, .int p0)]) hx hb dXm_step_12 rfl hl (by decide) rfl (fun ls hl => ?_)
    refine lv_aload_n hx hb dXm_step_13 rfl (lv_at hl 1 rfl) ?_
    refine lv_iload_n hx hb dXm_step_14 rfl (lv_at hl 0 rfl) ?_
    refine lv_iload_n hx hb dXm_step_15 rfl (lv_at hl 0 rfl) ?_
    refine lv_if_ne (tgt := 40) hx hb dXm_step_16 (by decide) (fun c_4 => absurd c_4 (by decide)) (fun c_4 => ?_)
    · skip
      refine lv_aload_n hx hb dXm_step_19 rfl (lv_at hl 1 rfl) ?_
      refine va_get (D := (dC, dI)) (ci := 5) (v := .ref (q 5)) (C := "ServiceThreadsModel") (T := TXm) (N := 28) hx hb hta inXm hown hK hP 0 (wM_0 q dA M_2) rfl 7 (by decide) (hta _ wt_572) (fun _ h9 => h9) rfl dXm_step_20 ?_
      refine lv_iload_n hx hb dXm_step_23 rfl (lv_at hl 0 rfl) ?_
      refine lv_if_eq (tgt := 31) hx hb dXm_step_24 (by decide) (fun c_5 => ?_) (fun c_5 => absurd c_5 (by decide))
      · skip
        refine lv_iload_n hx hb dXm_step_31 rfl (lv_at hl 2 rfl) ?_
        obtain ⟨h_6, hw⟩ := hw
        refine ro_i (w := (wM q dA)) (M := M_2) hx hb hK hP 5 4 (wM_5 q dA M_2) rfl h_6 dXm_step_32 (fun y_7 ey_7 => ?_)
        have hw := hw y_7 ey_7
        refine lv_if_eq (tgt := 40) hx hb dXm_step_33 (by decide) (fun c_8 => ?_) (fun c_8 => ?_)
        · have hw := hw.1 c_8
          refine lv_iconst (v := 0) hx hb dXm_step_40 (by decide) ?_
          refine lv_iconst (v := 0) hx hb dXm_step_41 (by decide) ?_
          refine lv_iconst (v := 0) hx hb dXm_step_42 (by decide) ?_
          refine cn_i (w := (wM q dA)) (M := M_2) (wM_ad q dA) (va_runV (As := [.int 0, .int 0, .int 0, .int 0]) (rest := []) ⟨hx, hb, hml, hown, hta⟩ (mtXm_throwing l dC dI q dA H.size 0 0 0 0 M_2 _ hw) (cwV 4 hta (giV wt_668 wt_670 ws_19 wt_7 wt_671) rfl rfl rfl (by decide +kernel) ⟨Nat.le_of_ble_eq_true rfl, Nat.le_of_ble_eq_true rfl⟩) ⟨pW_blind, va_recv hK hP (ci := 5) (q0 := 0) rfl (wM_0 q dA M_2), pW_of hK hP hD⟩ rfl rfl hl.1 rfl (lv_room (Nat.le_of_ble_eq_true rfl)) dXm_step_43 ⟨Nat.le_of_ble_eq_true rfl, Nat.le_of_ble_eq_true rfl⟩) hD hS hA (fun r_9 M_10 H locs hw hP hD hS => ?_)
          refine lv_if_eq (tgt := 51) hx hb dXm_step_46 (by decide) (fun c_11 => ?_) (fun c_11 => ?_)
          · have hw := hw.1 c_11
            refine lv_aload_n hx hb dXm_step_51 rfl (lv_at hl 1 rfl) ?_
            refine lv_iload_n hx hb dXm_step_52 rfl (lv_at hl 2 rfl) ?_
            refine cn_i (w := (wM q dA)) (M := M_10) (wM_ad q dA) (va_runV (As := [.int p0]) (rest := []) ⟨hx, hb, hml, hown, hta⟩ (mtXm_turn l dC dI q dA H.size p0 M_10 _ hw) (cwV 1 hta (giV wt_684 wt_686 ws_20 wt_7 wt_687) rfl rfl rfl (by decide +kernel) ⟨Nat.le_of_ble_eq_true rfl, Nat.le_of_ble_eq_true rfl⟩) ⟨pW_blind, va_recv hK hP (ci := 5) (q0 := 0) rfl (wM_0 q dA M_10), pW_of hK hP hD⟩ rfl rfl hl.1 rfl (lv_room (Nat.le_of_ble_eq_true rfl)) dXm_step_53 ⟨Nat.le_of_ble_eq_true rfl, Nat.le_of_ble_eq_true rfl⟩) hD hS hA (fun r_12 M_13 H locs hw hP hD hS => ?_)
            exact W.iret (v := r_12) hx hb hr (fun t ht hW => ⟨⟨r_12, M_13, rfl, hw, by rw [ht]; exact hP, va_K.moved hW.alike hK, hD⟩, hS.F ht⟩) hS.2.2 dXm_step_56 hlocks
          · have hw := hw.2 c_11
            refine lv_iconst (v := 0) hx hb dXm_step_49 (by decide) ?_
            exact W.iret (v := 0) hx hb hr (fun t ht hW => ⟨⟨0, M_10, rfl, hw, by rw [ht]; exact hP, va_K.moved hW.alike hK, hD⟩, hS.F ht⟩) hS.2.2 dXm_step_50 hlocks
        · have hw := hw.2 c_8
          refine lv_iconst (v := 1) hx hb dXm_step_36 (by decide) ?_
          refine lv_goto (tgt := 41) hx hb dXm_step_37 (by decide) ?_
          refine lv_iconst (v := 0) hx hb dXm_step_41 (by decide) ?_
          refine lv_iconst (v := 0) hx hb dXm_step_42 (by decide) ?_
          refine cn_i (w := (wM q dA)) (M := M_2) (wM_ad q dA) (va_runV (As := [.int 0, .int 1, .int 0, .int 0]) (rest := []) ⟨hx, hb, hml, hown, hta⟩ (mtXm_throwing l dC dI q dA H.size 0 1 0 0 M_2 _ hw) (cwV 4 hta (giV wt_668 wt_670 ws_19 wt_7 wt_671) rfl rfl rfl (by decide +kernel) ⟨Nat.le_of_ble_eq_true rfl, Nat.le_of_ble_eq_true rfl⟩) ⟨pW_blind, va_recv hK hP (ci := 5) (q0 := 0) rfl (wM_0 q dA M_2), pW_of hK hP hD⟩ rfl rfl hl.1 rfl (lv_room (Nat.le_of_ble_eq_true rfl)) dXm_step_43 ⟨Nat.le_of_ble_eq_true rfl, Nat.le_of_ble_eq_true rfl⟩) hD hS hA (fun r_14 M_15 H locs hw hP hD hS => ?_)
          refine lv_if_eq (tgt := 51) hx hb dXm_step_46 (by decide) (fun c_16 => ?_) (fun c_16 => ?_)
          · have hw := hw.1 c_16
            refine lv_aload_n hx hb dXm_step_51 rfl (lv_at hl 1 rfl) ?_
            refine lv_iload_n hx hb dXm_step_52 rfl (lv_at hl 2 rfl) ?_
            refine cn_i (w := (wM q dA)) (M := M_15) (wM_ad q dA) (va_runV (As := [.int p0]) (rest := []) ⟨hx, hb, hml, hown, hta⟩ (mtXm_turn l dC dI q dA H.size p0 M_15 _ hw) (cwV 1 hta (giV wt_684 wt_686 ws_20 wt_7 wt_687) rfl rfl rfl (by decide +kernel) ⟨Nat.le_of_ble_eq_true rfl, Nat.le_of_ble_eq_true rfl⟩) ⟨pW_blind, va_recv hK hP (ci := 5) (q0 := 0) rfl (wM_0 q dA M_15), pW_of hK hP hD⟩ rfl rfl hl.1 rfl (lv_room (Nat.le_of_ble_eq_true rfl)) dXm_step_53 ⟨Nat.le_of_ble_eq_true rfl, Nat.le_of_ble_eq_true rfl⟩) hD hS hA (fun r_17 M_18 H locs hw hP hD hS => ?_)
            exact W.iret (v := r_17) hx hb hr (fun t ht hW => ⟨⟨r_17, M_18, rfl, hw, by rw [ht]; exact hP, va_K.moved hW.alike hK, hD⟩, hS.F ht⟩) hS.2.2 dXm_step_56 hlocks
          · have hw := hw.2 c_16
            refine lv_iconst (v := 0) hx hb dXm_step_49 (by decide) ?_
            exact W.iret (v := 0) hx hb hr (fun t ht hW => ⟨⟨0, M_15, rfl, hw, by rw [ht]; exact hP, va_K.moved hW.alike hK, hD⟩, hS.F ht⟩) hS.2.2 dXm_step_50 hlocks
  · have hw := hw.1 c_3
    refine lv_iconst (v := 1) hx hb dXm_step_7 (by decide) ?_
    refine lv_goto (tgt := 12) hx hb dXm_step_8 (by decide) ?_
    refine lv_istore_n (lv' := [(2, .int 1), (0, .ref (q 0)), (1, .int p0)]) hx hb dXm_step_12 rfl hl (by decide) rfl (fun ls hl => ?_)
    refine lv_aload_n hx hb dXm_step_13 rfl (lv_at hl 1 rfl) ?_
    refine lv_iload_n hx hb dXm_step_14 rfl (lv_at hl 0 rfl) ?_
    refine lv_iload_n hx hb dXm_step_15 rfl (lv_at hl 0 rfl) ?_
    refine lv_if_ne (tgt := 40) hx hb dXm_step_16 (by decide) (fun c_19 => ?_) (fun c_19 => absurd c_19 (by decide))
    · skip
      refine lv_iconst (v := 0) hx hb dXm_step_40 (by decide) ?_
      refine lv_iconst (v := 0) hx hb dXm_step_41 (by decide) ?_
      refine lv_iconst (v := 0) hx hb dXm_step_42 (by decide) ?_
      refine cn_i (w := (wM q dA)) (M := M_2) (wM_ad q dA) (va_runV (As := [.int 1, .int 0, .int 0, .int 0]) (rest := []) ⟨hx, hb, hml, hown, hta⟩ (mtXm_throwing l dC dI q dA H.size 1 0 0 0 M_2 _ hw) (cwV 4 hta (giV wt_668 wt_670 ws_19 wt_7 wt_671) rfl rfl rfl (by decide +kernel) ⟨Nat.le_of_ble_eq_true rfl, Nat.le_of_ble_eq_true rfl⟩) ⟨pW_blind, va_recv hK hP (ci := 5) (q0 := 0) rfl (wM_0 q dA M_2), pW_of hK hP hD⟩ rfl rfl hl.1 rfl (lv_room (Nat.le_of_ble_eq_true rfl)) dXm_step_43 ⟨Nat.le_of_ble_eq_true rfl, Nat.le_of_ble_eq_true rfl⟩) hD hS hA (fun r_20 M_21 H locs hw hP hD hS => ?_)
      refine lv_if_eq (tgt := 51) hx hb dXm_step_46 (by decide) (fun c_22 => ?_) (fun c_22 => ?_)
      · have hw := hw.1 c_22
        refine lv_aload_n hx hb dXm_step_51 rfl (lv_at hl 1 rfl) ?_
        refine lv_iload_n hx hb dXm_step_52 rfl (lv_at hl 2 rfl) ?_
        refine cn_i (w := (wM q dA)) (M := M_21) (wM_ad q dA) (va_runV (As := [.int p0]) (rest := []) ⟨hx, hb, hml, hown, hta⟩ (mtXm_turn l dC dI q dA H.size p0 M_21 _ hw) (cwV 1 hta (giV wt_684 wt_686 ws_20 wt_7 wt_687) rfl rfl rfl (by decide +kernel) ⟨Nat.le_of_ble_eq_true rfl, Nat.le_of_ble_eq_true rfl⟩) ⟨pW_blind, va_recv hK hP (ci := 5) (q0 := 0) rfl (wM_0 q dA M_21), pW_of hK hP hD⟩ rfl rfl hl.1 rfl (lv_room (Nat.le_of_ble_eq_true rfl)) dXm_step_53 ⟨Nat.le_of_ble_eq_true rfl, Nat.le_of_ble_eq_true rfl⟩) hD hS hA (fun r_23 M_24 H locs hw hP hD hS => ?_)
        exact W.iret (v := r_23) hx hb hr (fun t ht hW => ⟨⟨r_23, M_24, rfl, hw, by rw [ht]; exact hP, va_K.moved hW.alike hK, hD⟩, hS.F ht⟩) hS.2.2 dXm_step_56 hlocks
      · have hw := hw.2 c_22
        refine lv_iconst (v := 0) hx hb dXm_step_49 (by decide) ?_
        exact W.iret (v := 0) hx hb hr (fun t ht hW => ⟨⟨0, M_21, rfl, hw, by rw [ht]; exact hP, va_K.moved hW.alike hK, hD⟩, hS.F ht⟩) hS.2.2 dXm_step_50 hlocks
def wlXm_run_33 (post : Int32 → Mm → Prop) : Nat → Int64 → Int32 → Int32 → Int32 → Mm → Prop
  | 0, _, _, _, _ => fun _ => False
  | n33 + 1, x1, x3, x4, x5 => fun M => ((x3 ≤ x5 → (post x4 M)) ∧ (¬ x3 ≤ x5 → (∀ y_8 : Int32, y_8 = (4 : Int32) * x5 → (∀ y_9 : Int64, y_9 = x1 >>> (y_8.toInt64 &&& 63) → (∀ y_10 : Int32, y_10 = y_9.toInt32 → (∀ y_11 : Int32, y_11 = y_10 &&& 7 → (vp_in y_11 8 ∧ (∀ y_13 : Int32, y_13 = M 14 y_11.toNatClampNeg → (((y_13 = 0 → (wpXm_turn y_11 M (fun r_16 M_17 => (((r_16 = 1 → (∀ y_21 : Int32, y_21 = x4 + 1 → (∀ x5_22 : Int32, x5_22 = x5 + 1 → (wlXm_run_33 post n33 x1 x3 y_21 x5_22 M_17)))) ∧ (¬ r_16 = 1 → (∀ y_19 : Int32, y_19 = x4 + 0 → (∀ x5_20 : Int32, x5_20 = x5 + 1 → (wlXm_run_33 post n33 x1 x3 y_19 x5_20 M_17))))))))) ∧ (¬ y_13 = 0 → (∀ x5_15 : Int32, x5_15 = x5 + 1 → (wlXm_run_33 post n33 x1 x3 x4 x5_15 M)))))))))))))
def wpXm_run (p0 : Int64) (p1 : Int32) (M : Mm) (post : Int32 → Mm → Prop) : Prop := wpXm_in p1 0 16 M (fun r_1 M_2 => (((r_1 = 0 → (wpXm_throwing 1 0 0 0 M_2 (fun r_23 M_24 => (((r_23 = 0 → (∃ n33 : Nat, wlXm_run_33 post n33 p0 p1 0 0 M_24)) ∧ (¬ r_23 = 0 → (post 0 M_24))))))) ∧ (¬ r_1 = 0 → (wpXm_throwing 0 0 0 0 M_2 (fun r_4 M_5 => (((r_4 = 0 → (∃ n33 : Nat, wlXm_run_33 post n33 p0 p1 0 0 M_5)) ∧ (¬ r_4 = 0 → (post 0 M_5))))))))))
set_option maxHeartbeats 4000000 in
set_option maxRecDepth 100000 in
theorem LwlXm_run_33 {p : Program} {l : Launch} {e : Env} {s : State} {m : MethodId} {below : List Frame} {meth : Method} {c : Code} {dC : Nat → ClassId} {dI : Nat → Nat → Nat} {q : Nat → Nat} {dA : Nat → ClassId} {A : Nat → Prop} {av : List Value} {post : Int32 → Mm → Prop} (CX : p.tables.exec = Jvm.exec ∧ c.code = cXm_run ∧ meth.sig.returnType = (some .int) ∧ c.maxLocals = 7 ∧ s.vm.findClass "ServiceThreadsModel" = some m.cls ∧ (∀ w ∈ wsG, w.before av.toArray s = true) ∧ (∀ q : Nat, s.heap.size ≤ q → A q) ∧ va_K (dC, dI) vwCl (tM dA) s ∧ meth.locks = false) : ∀ (n33 : Nat) (x1 : Int64) (x3 : Int32) (x4 : Int32) (x5 : Int32) (M : Mm) (H : Heap) (locs : List Loc) (ls : Array Slot), wlXm_run_33 post n33 x1 x3 x4 x5 M → va_P (dC, dI) vwCl (wM q dA M) H → va_D A (wM q dA M) → va_S A s.heap H locs → lv_has ls 7 [(0, .ref (q 0)), (1, .long x1), (3, .int x3), (4, .int x4), (5, .int x5)] → W p l e (headSpec (wsA yXm_run cXm_run 7 (some .int)) ({ frames := 4, cells := 0, slots := 0, locals := 90 })).room s m av.toArray below meth c H locs 0 0 (MQ below (va_Qi post (bW (dC, dI) vwCl (wM q dA) (tM dA) A) A) av.toArray s 0 0 A) (F0 m 33 ls []) := by
  obtain ⟨hx, hb, hr, hml, hown, hta, hA, hK, hlocks⟩ := CX
  intro n33
  induction n33 with
  | zero =>
    intro x1 x3 x4 x5 M H locs ls hw
    exact False.elim hw
  | succ n33 ih33 =>
    intro x1 x3 x4 x5 M H locs ls hw hP hD hS hl
    dsimp only [wlXm_run_33] at hw
    refine lv_iload hx hb dXm_run_33 (lv_at hl 4 rfl) ?_
    refine lv_iload_n hx hb dXm_run_35 rfl (lv_at hl 2 rfl) ?_
    refine lv_icmp_ge (tgt := 87) hx hb dXm_run_36 (by decide) (fun c_7 => ?_) (fun c_7 => ?_)
    · have hw := hw.1 c_7
      refine lv_iload hx hb dXm_run_87 (lv_at hl 3 rfl) ?_
      exact W.iret (v := x4) hx hb hr (fun t ht hW => ⟨⟨x4, M, rfl, hw, by rw [ht]; exact hP, va_K.moved hW.alike hK, hD⟩, hS.F ht⟩) hS.2.2 dXm_run_89 hlocks
    · have hw := hw.2 c_7
      refine lv_lload_n hx hb dXm_run_39 rfl (lv_at hl 1 rfl) ?_
      refine lv_iconst (v := 4) hx hb dXm_run_40 (by decide) ?_
      refine lv_iload hx hb dXm_run_41 (lv_at hl 4 rfl) ?_
      refine lv_imul hx hb dXm_run_43 ?_
      refine lv_topi (fun y_8 ey_8 => ?_)
      have hw := hw y_8 ey_8
      refine lv_lshr hx hb dXm_run_44 rfl ?_
      refine lv_topl (fun y_9 ey_9 => ?_)
      have hw := hw y_9 ey_9
      refine lv_l2i hx hb dXm_run_45 rfl ?_
      refine lv_topi (fun y_10 ey_10 => ?_)
      have hw := hw y_10 ey_10
      refine lv_bipush (v := 7) hx hb dXm_run_46 (by decide) ?_
      refine lv_iand hx hb dXm_run_48 ?_
      refine lv_topi (fun y_11 ey_11 => ?_)
      have hw := hw y_11 ey_11
      refine lv_istore (lv' := [(6, .int y_11), (0, .ref (q 0)), (1, .long x1), (3, .int x3), (4, .int x4), (5, .int x5)]) hx hb dXm_run_49 hl (by decide) rfl (fun ls hl => ?_)
      refine lv_aload_n hx hb dXm_run_51 rfl (lv_at hl 1 rfl) ?_
      refine va_get (D := (dC, dI)) (ci := 5) (v := .ref (q 5)) (C := "ServiceThreadsModel") (T := TXm) (N := 28) hx hb hta inXm hown hK hP 0 (wM_0 q dA M) rfl 7 (by decide) (hta _ wt_572) (fun _ h9 => h9) rfl dXm_run_52 ?_
      refine lv_iload hx hb dXm_run_55 (lv_at hl 0 rfl) ?_
      obtain ⟨h_12, hw⟩ := hw
      refine ro_i (w := (wM q dA)) (M := M) hx hb hK hP 5 4 (wM_5 q dA M) rfl h_12 dXm_run_57 (fun y_13 ey_13 => ?_)
      have hw := hw y_13 ey_13
      refine lv_if_ne (tgt := 81) hx hb dXm_run_58 (by decide) (fun c_14 => ?_) (fun c_14 => ?_)
      · have hw := hw.2 c_14
        obtain ⟨x5_15, ex5_15⟩ : ∃ y : Int32, y = x5 + 1 := ⟨_, rfl⟩
        have hw := hw x5_15 ex5_15
        refine lv_iinc (v := x5_15) (lv' := [(5, .int x5_15), (6, .int y_11), (0, .ref (q 0)), (1, .long x1), (3, .int x3), (4, .int x4)]) hx hb dXm_run_81 hl (k := 5) rfl (by rw [ex5_15]; rfl) (by decide) rfl (fun ls hl => ?_)
        refine lv_goto (tgt := 33) hx hb dXm_run_84 (by decide) ?_
        exact ih33 x1 x3 x4 x5_15 M _ _ _ hw hP hD hS (lv_sub hl [2, 3, 4, 5, 0] rfl)
      · have hw := hw.1 c_14
        refine lv_iload hx hb dXm_run_61 (lv_at hl 4 rfl) ?_
        refine lv_aload_n hx hb dXm_run_63 rfl (lv_at hl 1 rfl) ?_
        refine lv_iload hx hb dXm_run_64 (lv_at hl 0 rfl) ?_
        refine cn_i (w := (wM q dA)) (M := M) (wM_ad q dA) (va_runV (As := [.int y_11]) (rest := [.int x4]) ⟨hx, hb, hml, hown, hta⟩ (mtXm_turn l dC dI q dA H.size y_11 M _ hw) (cwV 1 hta (giV wt_684 wt_686 ws_20 wt_7 wt_687) rfl rfl rfl (by decide +kernel) ⟨Nat.le_of_ble_eq_true rfl, Nat.le_of_ble_eq_true rfl⟩) ⟨pW_blind, va_recv hK hP (ci := 5) (q0 := 0) rfl (wM_0 q dA M), pW_of hK hP hD⟩ rfl rfl hl.1 rfl (lv_room (Nat.le_of_ble_eq_true rfl)) dXm_run_66 ⟨Nat.le_of_ble_eq_true rfl, Nat.le_of_ble_eq_true rfl⟩) hD hS hA (fun r_16 M_17 H locs hw hP hD hS => ?_)
        refine lv_iconst (v := 1) hx hb dXm_run_69 (by decide) ?_
        refine lv_icmp_ne (tgt := 77) hx hb dXm_run_70 (by decide) (fun c_18 => ?_) (fun c_18 => ?_)
        · have hw := hw.2 c_18
          refine lv_iconst (v := 0) hx hb dXm_run_77 (by decide) ?_
          refine lv_iadd hx hb dXm_run_78 ?_
          refine lv_topi (fun y_19 ey_19 => ?_)
          have hw := hw y_19 ey_19
          refine lv_istore (lv' := [(4, .int y_19), (6, .int y_11), (0, .ref (q 0)), (1, .long x1), (3, .int x3), (5, .int x5)]) hx hb dXm_run_79 hl (by decide) rfl (fun ls hl => ?_)
          obtain ⟨x5_20, ex5_20⟩ : ∃ y : Int32, y = x5 + 1 := ⟨_, rfl⟩
          have hw := hw x5_20 ex5_20
          refine lv_iinc (v := x5_20) (lv' := [(5, .int x5_20), (4, .int y_19), (6, .int y_11), (0, .ref (q 0)), (1, .long x1), (3, .int x3)]) hx hb dXm_run_81 hl (k := 5) rfl (by rw [ex5_20]; rfl) (by decide) rfl (fun ls hl => ?_)
          refine lv_goto (tgt := 33) hx hb dXm_run_84 (by decide) ?_
          exact ih33 x1 x3 y_19 x5_20 M_17 _ _ _ hw hP hD hS (lv_sub hl [3, 4, 5, 1, 0] rfl)
        · have hw := hw.1 c_18
          refine lv_iconst (v := 1) hx hb dXm_run_73 (by decide) ?_
          refine lv_goto (tgt := 78) hx hb dXm_run_74 (by decide) ?_
          refine lv_iadd hx hb dXm_run_78 ?_
          refine lv_topi (fun y_21 ey_21 => ?_)
          have hw := hw y_21 ey_21
          refine lv_istore (lv' := [(4, .int y_21), (6, .int y_11), (0, .ref (q 0)), (1, .long x1), (3, .int x3), (5, .int x5)]) hx hb dXm_run_79 hl (by decide) rfl (fun ls hl => ?_)
          obtain ⟨x5_22, ex5_22⟩ : ∃ y : Int32, y = x5 + 1 := ⟨_, rfl⟩
          have hw := hw x5_22 ex5_22
          refine lv_iinc (v := x5_22) (lv' := [(5, .int x5_22), (4, .int y_21), (6, .int y_11), (0, .ref (q 0)), (1, .long x1), (3, .int x3)]) hx hb dXm_run_81 hl (k := 5) rfl (by rw [ex5_22]; rfl) (by decide) rfl (fun ls hl => ?_)
          refine lv_goto (tgt := 33) hx hb dXm_run_84 (by decide) ?_
          exact ih33 x1 x3 y_21 x5_22 M_17 _ _ _ hw hP hD hS (lv_sub hl [3, 4, 5, 1, 0] rfl)
set_option maxHeartbeats 4000000 in
set_option maxRecDepth 100000 in
theorem mtXm_run (l : Launch) (dC : Nat → ClassId) (dI : Nat → Nat → Nat) (q : Nat → Nat) (dA : Nat → ClassId) (sz : Nat) (p0 : Int64) (p1 : Int32) (M : Mm) (post : Int32 → Mm → Prop) (hw : wpXm_run p0 p1 M post) : Met l yXm_run (wsA yXm_run cXm_run 7 (some .int)) ({ frames := 4, cells := 0, slots := 0, locals := 90 }) (va_Pc [.ref (q 0), .long p0, .int p1] (pW (dC, dI) vwCl (wM q dA) (tM dA) sz M)) (va_Qi post (bW (dC, dI) vwCl (wM q dA) (tM dA) (va_A (wM q dA M) sz)) (va_A (wM q dA M) sz)) 0 0 (va_A (wM q dA M) sz) := by
  refine Met.ofW (cc := cXm_run) (maxL := 7) (ret := (some .int)) (by decide) rfl ?_
  intro p e s m args below meth c s₁ B hml hv
  obtain ⟨rfl, hsz, hP, hK, hD0⟩ := hv
  have hx := B.exec
  have hb := B.bytes
  have hr := B.returns
  have hts := atoms_spec (ws := (wsA yXm_run cXm_run 7 (some .int))) B.pre
  have hta : ∀ w ∈ wsG, w.before _ s = true := fun w h => hts w (List.mem_cons_of_mem _ h)
  have hown : s.vm.findClass "ServiceThreadsModel" = some m.cls := findClass_of_methodNamed B.named
  have hlocks := B.notSynchronized
  subst hsz
  have hD := hD0.self (sz := s.heap.size)
  generalize hAe : va_A (wM q dA M) s.heap.size = A at hD ⊢
  have hA : ∀ q : Nat, s.heap.size ≤ q → A q := fun q h => by rw [← hAe]; exact Or.inr h
  have hS : va_S A s.heap s.heap [] := va_S.rf
  dsimp only [wpXm_run] at hw
  have hl := lv_entry ([.ref (q 0), .long p0, .int p1]) (n := 7) (Nat.le_of_ble_eq_true rfl)
  rw [lg_entry_eq]
  generalize (lg_sl ([.ref (q 0), .long p0, .int p1]) ++ List.replicate (7 - (lg_sl ([.ref (q 0), .long p0, .int p1])).length) Slot.unset).toArray = ls at hl ⊢
  have hl : lv_has ls 7 [(0, .ref (q 0)), (1, .long p0), (3, .int p1)] := hl
  refine lv_aload_n hx hb dXm_run_0 rfl (lv_at hl 0 rfl) ?_
  refine lv_iload_n hx hb dXm_run_1 rfl (lv_at hl 2 rfl) ?_
  refine lv_iconst (v := 0) hx hb dXm_run_2 (by decide) ?_
  refine lv_bipush (v := 16) hx hb dXm_run_3 (by decide) ?_
  refine cn_i (w := (wM q dA)) (M := M) (wM_ad q dA) (va_runS (As := [.int p1, .int 0, .int 16]) (rest := [.ref (q 0)]) ⟨hx, hb, hml, hown, hta⟩ (mtXm_in l dC dI q dA s.heap.size p1 0 16 M _ hw) (va_cwS 3 hta (giS wt_661 wt_662 wt_7 wt_663) rfl rfl rfl (by decide +kernel) ⟨Nat.le_of_ble_eq_true rfl, Nat.le_of_ble_eq_true rfl⟩) ⟨pW_blind, pW_of hK hP hD⟩ rfl rfl hl.1 rfl (lv_room (Nat.le_of_ble_eq_true rfl)) dXm_run_5 ⟨Nat.le_of_ble_eq_true rfl, Nat.le_of_ble_eq_true rfl⟩) hD hS hA (fun r_1 M_2 H locs hw hP hD hS => ?_)
  refine lv_if_ne (tgt := 15) hx hb dXm_run_8 (by decide) (fun c_3 => ?_) (fun c_3 => ?_)
  · have hw := hw.2 c_3
    refine lv_iconst (v := 0) hx hb dXm_run_15 (by decide) ?_
    refine lv_iconst (v := 0) hx hb dXm_run_16 (by decide) ?_
    refine lv_iconst (v := 0) hx hb dXm_run_17 (by decide) ?_
    refine lv_iconst (v := 0) hx hb dXm_run_18 (by decide) ?_
    refine cn_i (w := (wM q dA)) (M := M_2) (wM_ad q dA) (va_runV (As := [.int 0, .int 0, .int 0, .int 0]) (rest := []) ⟨hx, hb, hml, hown, hta⟩ (mtXm_throwing l dC dI q dA H.size 0 0 0 0 M_2 _ hw) (cwV 4 hta (giV wt_668 wt_670 ws_19 wt_7 wt_671) rfl rfl rfl (by decide +kernel) ⟨Nat.le_of_ble_eq_true rfl, Nat.le_of_ble_eq_true rfl⟩) ⟨pW_blind, va_recv hK hP (ci := 5) (q0 := 0) rfl (wM_0 q dA M_2), pW_of hK hP hD⟩ rfl rfl hl.1 rfl (lv_room (Nat.le_of_ble_eq_true rfl)) dXm_run_19 ⟨Nat.le_of_ble_eq_true rfl, Nat.le_of_ble_eq_true rfl⟩) hD hS hA (fun r_4 M_5 H locs hw hP hD hS => ?_)
    refine lv_if_eq (tgt := 27) hx hb dXm_run_22 (by decide) (fun c_6 => ?_) (fun c_6 => ?_)
    · have hw := hw.1 c_6
      refine lv_iconst (v := 0) hx hb dXm_run_27 (by decide) ?_
      refine lv_istore (lv' := [(4, .int 0), (0, .ref (q 0)), (1, .long p0), (3, .int p1)]) hx hb dXm_run_28 hl (by decide) rfl (fun ls hl => ?_)
      refine lv_iconst (v := 0) hx hb dXm_run_30 (by decide) ?_
      refine lv_istore (lv' := [(5, .int 0), (4, .int 0), (0, .ref (q 0)), (1, .long p0), (3, .int p1)]) hx hb dXm_run_31 hl (by decide) rfl (fun ls hl => ?_)
      obtain ⟨n33, hw⟩ := hw
      exact LwlXm_run_33 (A := A) (av := [.ref (q 0), .long p0, .int p1]) ⟨hx, hb, hr, hml, hown, hta, hA, hK, hlocks⟩ n33 p0 p1 0 0 M_5 _ _ _ hw hP hD hS (lv_sub hl [2, 3, 4, 1, 0] rfl)
    · have hw := hw.2 c_6
      refine lv_iconst (v := 0) hx hb dXm_run_25 (by decide) ?_
      exact W.iret (v := 0) hx hb hr (fun t ht hW => ⟨⟨0, M_5, rfl, hw, by rw [ht]; exact hP, va_K.moved hW.alike hK, hD⟩, hS.F ht⟩) hS.2.2 dXm_run_26 hlocks
  · have hw := hw.1 c_3
    refine lv_iconst (v := 1) hx hb dXm_run_11 (by decide) ?_
    refine lv_goto (tgt := 16) hx hb dXm_run_12 (by decide) ?_
    refine lv_iconst (v := 0) hx hb dXm_run_16 (by decide) ?_
    refine lv_iconst (v := 0) hx hb dXm_run_17 (by decide) ?_
    refine lv_iconst (v := 0) hx hb dXm_run_18 (by decide) ?_
    refine cn_i (w := (wM q dA)) (M := M_2) (wM_ad q dA) (va_runV (As := [.int 1, .int 0, .int 0, .int 0]) (rest := []) ⟨hx, hb, hml, hown, hta⟩ (mtXm_throwing l dC dI q dA H.size 1 0 0 0 M_2 _ hw) (cwV 4 hta (giV wt_668 wt_670 ws_19 wt_7 wt_671) rfl rfl rfl (by decide +kernel) ⟨Nat.le_of_ble_eq_true rfl, Nat.le_of_ble_eq_true rfl⟩) ⟨pW_blind, va_recv hK hP (ci := 5) (q0 := 0) rfl (wM_0 q dA M_2), pW_of hK hP hD⟩ rfl rfl hl.1 rfl (lv_room (Nat.le_of_ble_eq_true rfl)) dXm_run_19 ⟨Nat.le_of_ble_eq_true rfl, Nat.le_of_ble_eq_true rfl⟩) hD hS hA (fun r_23 M_24 H locs hw hP hD hS => ?_)
    refine lv_if_eq (tgt := 27) hx hb dXm_run_22 (by decide) (fun c_25 => ?_) (fun c_25 => ?_)
    · have hw := hw.1 c_25
      refine lv_iconst (v := 0) hx hb dXm_run_27 (by decide) ?_
      refine lv_istore (lv' := [(4, .int 0), (0, .ref (q 0)), (1, .long p0), (3, .int p1)]) hx hb dXm_run_28 hl (by decide) rfl (fun ls hl => ?_)
      refine lv_iconst (v := 0) hx hb dXm_run_30 (by decide) ?_
      refine lv_istore (lv' := [(5, .int 0), (4, .int 0), (0, .ref (q 0)), (1, .long p0), (3, .int p1)]) hx hb dXm_run_31 hl (by decide) rfl (fun ls hl => ?_)
      obtain ⟨n33, hw⟩ := hw
      exact LwlXm_run_33 (A := A) (av := [.ref (q 0), .long p0, .int p1]) ⟨hx, hb, hr, hml, hown, hta, hA, hK, hlocks⟩ n33 p0 p1 0 0 M_24 _ _ _ hw hP hD hS (lv_sub hl [2, 3, 4, 1, 0] rfl)
    · have hw := hw.2 c_25
      refine lv_iconst (v := 0) hx hb dXm_run_25 (by decide) ?_
      exact W.iret (v := 0) hx hb hr (fun t ht hW => ⟨⟨0, M_24, rfl, hw, by rw [ht]; exact hP, va_K.moved hW.alike hK, hD⟩, hS.F ht⟩) hS.2.2 dXm_run_26 hlocks
def wlXm_heir_2 (post : Int32 → Mm → Prop) : Nat → Int32 → Int32 → Mm → Prop
  | 0, _, _ => fun _ => False
  | n2 + 1, x1, x2 => fun M => ((8 ≤ x2 → (post (-1) M)) ∧ (¬ 8 ≤ x2 → (∀ y_2 : Int32, y_2 = x1 + x2 → (∀ y_3 : Int32, y_3 = y_2 - y_2 / 8 * 8 → (vp_in y_3 8 ∧ (∀ y_5 : Int32, y_5 = M 14 y_3.toNatClampNeg → (((y_5 = 0 → (vp_in y_3 8 ∧ (∀ y_9 : Int32, y_9 = M 2 y_3.toNatClampNeg → (((y_9 ≤ 0 → (∀ x2_11 : Int32, x2_11 = x2 + 1 → (wlXm_heir_2 post n2 x1 x2_11 M))) ∧ (¬ y_9 ≤ 0 → (post y_3 M))))))) ∧ (¬ y_5 = 0 → (∀ x2_7 : Int32, x2_7 = x2 + 1 → (wlXm_heir_2 post n2 x1 x2_7 M)))))))))))
def wpXm_heir (p0 : Int32) (M : Mm) (post : Int32 → Mm → Prop) : Prop := ∃ n2 : Nat, wlXm_heir_2 post n2 p0 1 M
set_option maxHeartbeats 4000000 in
set_option maxRecDepth 100000 in
theorem LwlXm_heir_2 {p : Program} {l : Launch} {e : Env} {s : State} {m : MethodId} {below : List Frame} {meth : Method} {c : Code} {dC : Nat → ClassId} {dI : Nat → Nat → Nat} {q : Nat → Nat} {dA : Nat → ClassId} {A : Nat → Prop} {av : List Value} {post : Int32 → Mm → Prop} (CX : p.tables.exec = Jvm.exec ∧ c.code = cXm_heir ∧ meth.sig.returnType = (some .int) ∧ c.maxLocals = 4 ∧ s.vm.findClass "ServiceThreadsModel" = some m.cls ∧ (∀ w ∈ wsG, w.before av.toArray s = true) ∧ (∀ q : Nat, s.heap.size ≤ q → A q) ∧ va_K (dC, dI) vwCl (tM dA) s ∧ meth.locks = false) : ∀ (n2 : Nat) (x1 : Int32) (x2 : Int32) (M : Mm) (H : Heap) (locs : List Loc) (ls : Array Slot), wlXm_heir_2 post n2 x1 x2 M → va_P (dC, dI) vwCl (wM q dA M) H → va_D A (wM q dA M) → va_S A s.heap H locs → lv_has ls 4 [(0, .ref (q 0)), (1, .int x1), (2, .int x2)] → W p l e (headSpec (wsA yXm_heir cXm_heir 4 (some .int)) ({ frames := 0, cells := 0, slots := 0, locals := 0 })).room s m av.toArray below meth c H locs 0 0 (MQ below (va_Qi post (bW (dC, dI) vwCl (wM q dA) (tM dA) A) A) av.toArray s 0 0 A) (F0 m 2 ls []) := by
  obtain ⟨hx, hb, hr, hml, hown, hta, hA, hK, hlocks⟩ := CX
  intro n2
  induction n2 with
  | zero =>
    intro x1 x2 M H locs ls hw
    exact False.elim hw
  | succ n2 ih2 =>
    intro x1 x2 M H locs ls hw hP hD hS hl
    dsimp only [wlXm_heir_2] at hw
    refine lv_iload_n hx hb dXm_heir_2 rfl (lv_at hl 2 rfl) ?_
    refine lv_bipush (v := 8) hx hb dXm_heir_3 (by decide) ?_
    refine lv_icmp_ge (tgt := 41) hx hb dXm_heir_5 (by decide) (fun c_1 => ?_) (fun c_1 => ?_)
    · have hw := hw.1 c_1
      refine lv_iconst (v := (-1)) hx hb dXm_heir_41 (by decide) ?_
      exact W.iret (v := (-1)) hx hb hr (fun t ht hW => ⟨⟨(-1), M, rfl, hw, by rw [ht]; exact hP, va_K.moved hW.alike hK, hD⟩, hS.F ht⟩) hS.2.2 dXm_heir_42 hlocks
    · have hw := hw.2 c_1
      refine lv_iload_n hx hb dXm_heir_8 rfl (lv_at hl 1 rfl) ?_
      refine lv_iload_n hx hb dXm_heir_9 rfl (lv_at hl 2 rfl) ?_
      refine lv_iadd hx hb dXm_heir_10 ?_
      refine lv_topi (fun y_2 ey_2 => ?_)
      have hw := hw y_2 ey_2
      refine lv_bipush (v := 8) hx hb dXm_heir_11 (by decide) ?_
      refine lv_irem hx hb dXm_heir_13 (by decide) ?_
      refine lv_topi (fun y_3 ey_3 => ?_)
      have hw := hw y_3 ey_3
      refine lv_istore_n (lv' := [(3, .int y_3), (0, .ref (q 0)), (1, .int x1), (2, .int x2)]) hx hb dXm_heir_14 rfl hl (by decide) rfl (fun ls hl => ?_)
      refine lv_aload_n hx hb dXm_heir_15 rfl (lv_at hl 1 rfl) ?_
      refine va_get (D := (dC, dI)) (ci := 5) (v := .ref (q 5)) (C := "ServiceThreadsModel") (T := TXm) (N := 28) hx hb hta inXm hown hK hP 0 (wM_0 q dA M) rfl 7 (by decide) (hta _ wt_572) (fun _ h9 => h9) rfl dXm_heir_16 ?_
      refine lv_iload_n hx hb dXm_heir_19 rfl (lv_at hl 0 rfl) ?_
      obtain ⟨h_4, hw⟩ := hw
      refine ro_i (w := (wM q dA)) (M := M) hx hb hK hP 5 4 (wM_5 q dA M) rfl h_4 dXm_heir_20 (fun y_5 ey_5 => ?_)
      have hw := hw y_5 ey_5
      refine lv_if_ne (tgt := 35) hx hb dXm_heir_21 (by decide) (fun c_6 => ?_) (fun c_6 => ?_)
      · have hw := hw.2 c_6
        obtain ⟨x2_7, ex2_7⟩ : ∃ y : Int32, y = x2 + 1 := ⟨_, rfl⟩
        have hw := hw x2_7 ex2_7
        refine lv_iinc (v := x2_7) (lv' := [(2, .int x2_7), (3, .int y_3), (0, .ref (q 0)), (1, .int x1)]) hx hb dXm_heir_35 hl (k := 3) rfl (by rw [ex2_7]; rfl) (by decide) rfl (fun ls hl => ?_)
        refine lv_goto (tgt := 2) hx hb dXm_heir_38 (by decide) ?_
        exact ih2 x1 x2_7 M _ _ _ hw hP hD hS (lv_sub hl [2, 3, 0] rfl)
      · have hw := hw.1 c_6
        refine lv_aload_n hx hb dXm_heir_24 rfl (lv_at hl 1 rfl) ?_
        refine va_get (D := (dC, dI)) (ci := 5) (v := .ref (q 3)) (C := "ServiceThreadsModel") (T := TXm) (N := 28) hx hb hta inXm hown hK hP 0 (wM_0 q dA M) rfl 5 (by decide) (hta _ wt_570) (fun _ h9 => h9) rfl dXm_heir_25 ?_
        refine lv_iload_n hx hb dXm_heir_28 rfl (lv_at hl 0 rfl) ?_
        obtain ⟨h_8, hw⟩ := hw
        refine ro_i (w := (wM q dA)) (M := M) hx hb hK hP 3 2 (wM_3 q dA M) rfl h_8 dXm_heir_29 (fun y_9 ey_9 => ?_)
        have hw := hw y_9 ey_9
        refine lv_if_le (tgt := 35) hx hb dXm_heir_30 (by decide) (fun c_10 => ?_) (fun c_10 => ?_)
        · have hw := hw.1 c_10
          obtain ⟨x2_11, ex2_11⟩ : ∃ y : Int32, y = x2 + 1 := ⟨_, rfl⟩
          have hw := hw x2_11 ex2_11
          refine lv_iinc (v := x2_11) (lv' := [(2, .int x2_11), (3, .int y_3), (0, .ref (q 0)), (1, .int x1)]) hx hb dXm_heir_35 hl (k := 3) rfl (by rw [ex2_11]; rfl) (by decide) rfl (fun ls hl => ?_)
          refine lv_goto (tgt := 2) hx hb dXm_heir_38 (by decide) ?_
          exact ih2 x1 x2_11 M _ _ _ hw hP hD hS (lv_sub hl [2, 3, 0] rfl)
        · have hw := hw.2 c_10
          refine lv_iload_n hx hb dXm_heir_33 rfl (lv_at hl 0 rfl) ?_
          exact W.iret (v := y_3) hx hb hr (fun t ht hW => ⟨⟨y_3, M, rfl, hw, by rw [ht]; exact hP, va_K.moved hW.alike hK, hD⟩, hS.F ht⟩) hS.2.2 dXm_heir_34 hlocks
set_option maxHeartbeats 4000000 in
set_option maxRecDepth 100000 in
theorem mtXm_heir (l : Launch) (dC : Nat → ClassId) (dI : Nat → Nat → Nat) (q : Nat → Nat) (dA : Nat → ClassId) (sz : Nat) (p0 : Int32) (M : Mm) (post : Int32 → Mm → Prop) (hw : wpXm_heir p0 M post) : Met l yXm_heir (wsA yXm_heir cXm_heir 4 (some .int)) ({ frames := 0, cells := 0, slots := 0, locals := 0 }) (va_Pc [.ref (q 0), .int p0] (pW (dC, dI) vwCl (wM q dA) (tM dA) sz M)) (va_Qi post (bW (dC, dI) vwCl (wM q dA) (tM dA) (va_A (wM q dA M) sz)) (va_A (wM q dA M) sz)) 0 0 (va_A (wM q dA M) sz) := by
  refine Met.ofW (cc := cXm_heir) (maxL := 4) (ret := (some .int)) (by decide) rfl ?_
  intro p e s m args below meth c s₁ B hml hv
  obtain ⟨rfl, hsz, hP, hK, hD0⟩ := hv
  have hx := B.exec
  have hb := B.bytes
  have hr := B.returns
  have hts := atoms_spec (ws := (wsA yXm_heir cXm_heir 4 (some .int))) B.pre
  have hta : ∀ w ∈ wsG, w.before _ s = true := fun w h => hts w (List.mem_cons_of_mem _ h)
  have hown : s.vm.findClass "ServiceThreadsModel" = some m.cls := findClass_of_methodNamed B.named
  have hlocks := B.notSynchronized
  subst hsz
  have hD := hD0.self (sz := s.heap.size)
  generalize hAe : va_A (wM q dA M) s.heap.size = A at hD ⊢
  have hA : ∀ q : Nat, s.heap.size ≤ q → A q := fun q h => by rw [← hAe]; exact Or.inr h
  have hS : va_S A s.heap s.heap [] := va_S.rf
  dsimp only [wpXm_heir] at hw
  have hl := lv_entry ([.ref (q 0), .int p0]) (n := 4) (Nat.le_of_ble_eq_true rfl)
  rw [lg_entry_eq]
  generalize (lg_sl ([.ref (q 0), .int p0]) ++ List.replicate (4 - (lg_sl ([.ref (q 0), .int p0])).length) Slot.unset).toArray = ls at hl ⊢
  have hl : lv_has ls 4 [(0, .ref (q 0)), (1, .int p0)] := hl
  refine lv_iconst (v := 1) hx hb dXm_heir_0 (by decide) ?_
  refine lv_istore_n (lv' := [(2, .int 1), (0, .ref (q 0)), (1, .int p0)]) hx hb dXm_heir_1 rfl hl (by decide) rfl (fun ls hl => ?_)
  obtain ⟨n2, hw⟩ := hw
  exact LwlXm_heir_2 (A := A) (av := [.ref (q 0), .int p0]) ⟨hx, hb, hr, hml, hown, hta, hA, hK, hlocks⟩ n2 p0 1 M _ _ _ hw hP hD hS (lv_sub hl [1, 2, 0] rfl)
def wlXm_kill_114 (post : Mm → Prop) : Nat → Int32 → Int32 → Int32 → Mm → Prop
  | 0, _, _, _ => fun _ => False
  | n114 + 1, x1, x3, x4 => fun M => ∀ y_29 : Int32, y_29 = M 22 0 → (((y_29 ≤ x4 → (post M)) ∧ (¬ y_29 ≤ x4 → (vp_in x4 16 ∧ (∀ y_32 : Int32, y_32 = M 9 x4.toNatClampNeg → (((y_32 = 0 → (∀ x4_34 : Int32, x4_34 = x4 + 1 → (wlXm_kill_114 post n114 x1 x3 x4_34 M))) ∧ (¬ y_32 = 0 → (vp_in x4 16 ∧ (∀ y_36 : Int32, y_36 = M 7 x4.toNatClampNeg → (((y_36 = x1 → (vp_in x4 16 ∧ (∀ M_40 : Mm, M_40 = stM M 7 (upd (M 7) x4.toNatClampNeg x3) → (∀ x4_41 : Int32, x4_41 = x4 + 1 → (wlXm_kill_114 post n114 x1 x3 x4_41 M_40))))) ∧ (¬ y_36 = x1 → (∀ x4_38 : Int32, x4_38 = x4 + 1 → (wlXm_kill_114 post n114 x1 x3 x4_38 M)))))))))))))))
def wpXm_kill (p0 : Int32) (M : Mm) (post : Mm → Prop) : Prop := wpXm_isThread p0 M (fun r_1 M_2 => (((r_1 = 0 → (wpXm_throwing 1 0 0 0 M_2 (fun r_83 M_84 => (((r_83 = 0 → (vp_in p0 8 ∧ (∀ M_87 : Mm, M_87 = stM M_84 14 (upd (M_84 14) p0.toNatClampNeg 2) → (∀ y_88 : Int32, y_88 = M_87 24 0 → (∀ y_89 : Int32, y_89 = M_87 25 0 → (∀ y_90 : Int32, y_90 = y_88 + y_89 → (vp_in p0 8 ∧ (∀ M_92 : Mm, M_92 = stM M_87 19 (upd (M_87 19) p0.toNatClampNeg y_90) → (∀ y_93 : Int32, y_93 = M_92 25 0 → (((y_93 = 0 → (wpXm_free p0 M_92 (fun M_104 => (vp_in p0 8 ∧ (∀ M_106 : Mm, M_106 = stM M_104 27 (upd (M_104 27) p0.toNatClampNeg 0) → (vp_in p0 8 ∧ (∀ M_108 : Mm, M_108 = stM M_106 20 (upd (M_106 20) p0.toNatClampNeg 0) → (vp_in p0 8 ∧ (∀ M_110 : Mm, M_110 = stM M_108 17 (upd (M_108 17) p0.toNatClampNeg 0) → (wpXm_heir p0 M_110 (fun r_111 M_112 => (∃ n114 : Nat, wlXm_kill_114 post n114 p0 r_111 0 M_112)))))))))))) ∧ (¬ y_93 = 0 → (vp_in p0 8 ∧ (∀ M_96 : Mm, M_96 = stM M_92 27 (upd (M_92 27) p0.toNatClampNeg 0) → (vp_in p0 8 ∧ (∀ M_98 : Mm, M_98 = stM M_96 20 (upd (M_96 20) p0.toNatClampNeg 0) → (vp_in p0 8 ∧ (∀ M_100 : Mm, M_100 = stM M_98 17 (upd (M_98 17) p0.toNatClampNeg 0) → (wpXm_heir p0 M_100 (fun r_101 M_102 => (∃ n114 : Nat, wlXm_kill_114 post n114 p0 r_101 0 M_102))))))))))))))))))))) ∧ (¬ r_83 = 0 → (post M_84))))))) ∧ (¬ r_1 = 0 → (vp_in p0 8 ∧ (∀ y_7 : Int32, y_7 = M_2 14 p0.toNatClampNeg → (((y_7 = 0 → (wpXm_throwing 0 0 0 0 M_2 (fun r_9 M_10 => (((r_9 = 0 → (vp_in p0 8 ∧ (∀ M_13 : Mm, M_13 = stM M_10 14 (upd (M_10 14) p0.toNatClampNeg 2) → (∀ y_14 : Int32, y_14 = M_13 24 0 → (∀ y_15 : Int32, y_15 = M_13 25 0 → (∀ y_16 : Int32, y_16 = y_14 + y_15 → (vp_in p0 8 ∧ (∀ M_18 : Mm, M_18 = stM M_13 19 (upd (M_13 19) p0.toNatClampNeg y_16) → (∀ y_19 : Int32, y_19 = M_18 25 0 → (((y_19 = 0 → (wpXm_free p0 M_18 (fun M_43 => (vp_in p0 8 ∧ (∀ M_45 : Mm, M_45 = stM M_43 27 (upd (M_43 27) p0.toNatClampNeg 0) → (vp_in p0 8 ∧ (∀ M_47 : Mm, M_47 = stM M_45 20 (upd (M_45 20) p0.toNatClampNeg 0) → (vp_in p0 8 ∧ (∀ M_49 : Mm, M_49 = stM M_47 17 (upd (M_47 17) p0.toNatClampNeg 0) → (wpXm_heir p0 M_49 (fun r_50 M_51 => (∃ n114 : Nat, wlXm_kill_114 post n114 p0 r_50 0 M_51)))))))))))) ∧ (¬ y_19 = 0 → (vp_in p0 8 ∧ (∀ M_22 : Mm, M_22 = stM M_18 27 (upd (M_18 27) p0.toNatClampNeg 0) → (vp_in p0 8 ∧ (∀ M_24 : Mm, M_24 = stM M_22 20 (upd (M_22 20) p0.toNatClampNeg 0) → (vp_in p0 8 ∧ (∀ M_26 : Mm, M_26 = stM M_24 17 (upd (M_24 17) p0.toNatClampNeg 0) → (wpXm_heir p0 M_26 (fun r_27 M_28 => (∃ n114 : Nat, wlXm_kill_114 post n114 p0 r_27 0 M_28))))))))))))))))))))) ∧ (¬ r_9 = 0 → (post M_10))))))) ∧ (¬ y_7 = 0 → (wpXm_throwing 0 1 0 0 M_2 (fun r_52 M_53 => (((r_52 = 0 → (vp_in p0 8 ∧ (∀ M_56 : Mm, M_56 = stM M_53 14 (upd (M_53 14) p0.toNatClampNeg 2) → (∀ y_57 : Int32, y_57 = M_56 24 0 → (∀ y_58 : Int32, y_58 = M_56 25 0 → (∀ y_59 : Int32, y_59 = y_57 + y_58 → (vp_in p0 8 ∧ (∀ M_61 : Mm, M_61 = stM M_56 19 (upd (M_56 19) p0.toNatClampNeg y_59) → (∀ y_62 : Int32, y_62 = M_61 25 0 → (((y_62 = 0 → (wpXm_free p0 M_61 (fun M_73 => (vp_in p0 8 ∧ (∀ M_75 : Mm, M_75 = stM M_73 27 (upd (M_73 27) p0.toNatClampNeg 0) → (vp_in p0 8 ∧ (∀ M_77 : Mm, M_77 = stM M_75 20 (upd (M_75 20) p0.toNatClampNeg 0) → (vp_in p0 8 ∧ (∀ M_79 : Mm, M_79 = stM M_77 17 (upd (M_77 17) p0.toNatClampNeg 0) → (wpXm_heir p0 M_79 (fun r_80 M_81 => (∃ n114 : Nat, wlXm_kill_114 post n114 p0 r_80 0 M_81)))))))))))) ∧ (¬ y_62 = 0 → (vp_in p0 8 ∧ (∀ M_65 : Mm, M_65 = stM M_61 27 (upd (M_61 27) p0.toNatClampNeg 0) → (vp_in p0 8 ∧ (∀ M_67 : Mm, M_67 = stM M_65 20 (upd (M_65 20) p0.toNatClampNeg 0) → (vp_in p0 8 ∧ (∀ M_69 : Mm, M_69 = stM M_67 17 (upd (M_67 17) p0.toNatClampNeg 0) → (wpXm_heir p0 M_69 (fun r_70 M_71 => (∃ n114 : Nat, wlXm_kill_114 post n114 p0 r_70 0 M_71))))))))))))))))))))) ∧ (¬ r_52 = 0 → (post M_53)))))))))))))))
set_option maxHeartbeats 4000000 in
set_option maxRecDepth 100000 in
theorem LwlXm_kill_114 {p : Program} {l : Launch} {e : Env} {s : State} {m : MethodId} {below : List Frame} {meth : Method} {c : Code} {dC : Nat → ClassId} {dI : Nat → Nat → Nat} {q : Nat → Nat} {dA : Nat → ClassId} {A : Nat → Prop} {av : List Value} {post : Mm → Prop} (CX : p.tables.exec = Jvm.exec ∧ c.code = cXm_kill ∧ meth.sig.returnType = none ∧ c.maxLocals = 5 ∧ s.vm.findClass "ServiceThreadsModel" = some m.cls ∧ (∀ w ∈ wsG, w.before av.toArray s = true) ∧ (∀ q : Nat, s.heap.size ≤ q → A q) ∧ va_K (dC, dI) vwCl (tM dA) s ∧ meth.locks = false) : ∀ (n114 : Nat) (x1 : Int32) (x3 : Int32) (x4 : Int32) (M : Mm) (H : Heap) (locs : List Loc) (ls : Array Slot), wlXm_kill_114 post n114 x1 x3 x4 M → va_P (dC, dI) vwCl (wM q dA M) H → va_D A (wM q dA M) → va_S A s.heap H locs → lv_has ls 5 [(0, .ref (q 0)), (1, .int x1), (3, .int x3), (4, .int x4)] → W p l e (headSpec (wsA yXm_kill cXm_kill 5 none) ({ frames := 2, cells := 0, slots := 0, locals := 42 })).room s m av.toArray below meth c H locs 0 0 (MQ below (va_Qv post (bW (dC, dI) vwCl (wM q dA) (tM dA) A) A) av.toArray s 0 0 A) (F0 m 114 ls []) := by
  obtain ⟨hx, hb, hr, hml, hown, hta, hA, hK, hlocks⟩ := CX
  intro n114
  induction n114 with
  | zero =>
    intro x1 x3 x4 M H locs ls hw
    exact False.elim hw
  | succ n114 ih114 =>
    intro x1 x3 x4 M H locs ls hw hP hD hS hl
    dsimp only [wlXm_kill_114] at hw
    refine lv_iload hx hb dXm_kill_114 (lv_at hl 3 rfl) ?_
    refine lv_aload_n hx hb dXm_kill_116 rfl (lv_at hl 0 rfl) ?_
    refine va_get (D := (dC, dI)) (ci := 5) (v := .int (M 22 0)) (C := "ServiceThreadsModel") (T := TXm) (N := 28) hx hb hta inXm hown hK hP 0 (wM_0 q dA M) rfl 18 (by decide) (hta _ wt_583) (fun _ h9 => h9) rfl dXm_kill_117 ?_
    refine lv_topi (fun y_29 ey_29 => ?_)
    have hw := hw y_29 ey_29
    refine lv_icmp_ge (tgt := 158) hx hb dXm_kill_120 (by decide) (fun c_30 => ?_) (fun c_30 => ?_)
    · have hw := hw.1 c_30
      exact W.vret hx hb hr (fun t ht hW => ⟨⟨M, rfl, hw, by rw [ht]; exact hP, va_K.moved hW.alike hK, hD⟩, hS.F ht⟩) hS.2.2 dXm_kill_158 hlocks
    · have hw := hw.2 c_30
      refine lv_aload_n hx hb dXm_kill_123 rfl (lv_at hl 0 rfl) ?_
      refine va_get (D := (dC, dI)) (ci := 5) (v := .ref (q 19)) (C := "ServiceThreadsModel") (T := TXm) (N := 28) hx hb hta inXm hown hK hP 0 (wM_0 q dA M) rfl 22 (by decide) (hta _ wt_587) (fun _ h9 => h9) rfl dXm_kill_124 ?_
      refine lv_iload hx hb dXm_kill_127 (lv_at hl 3 rfl) ?_
      obtain ⟨h_31, hw⟩ := hw
      refine ro_z (w := (wM q dA)) (M := M) hx hb hK hP 19 18 (wM_19 q dA M) rfl h_31 dXm_kill_129 (fun y_32 ey_32 => ?_)
      have hw := hw y_32 ey_32
      refine lv_if_eq (tgt := 152) hx hb dXm_kill_130 (by decide) (fun c_33 => ?_) (fun c_33 => ?_)
      · have hw := hw.1 c_33
        obtain ⟨x4_34, ex4_34⟩ : ∃ y : Int32, y = x4 + 1 := ⟨_, rfl⟩
        have hw := hw x4_34 ex4_34
        refine lv_iinc (v := x4_34) (lv' := [(4, .int x4_34), (0, .ref (q 0)), (1, .int x1), (3, .int x3)]) hx hb dXm_kill_152 hl (k := 3) rfl (by rw [ex4_34]; rfl) (by decide) rfl (fun ls hl => ?_)
        refine lv_goto (tgt := 114) hx hb dXm_kill_155 (by decide) ?_
        exact ih114 x1 x3 x4_34 M _ _ _ hw hP hD hS (lv_sub hl [1, 2, 3, 0] rfl)
      · have hw := hw.2 c_33
        refine lv_aload_n hx hb dXm_kill_133 rfl (lv_at hl 0 rfl) ?_
        refine va_get (D := (dC, dI)) (ci := 5) (v := .ref (q 17)) (C := "ServiceThreadsModel") (T := TXm) (N := 28) hx hb hta inXm hown hK hP 0 (wM_0 q dA M) rfl 20 (by decide) (hta _ wt_585) (fun _ h9 => h9) rfl dXm_kill_134 ?_
        refine lv_iload hx hb dXm_kill_137 (lv_at hl 3 rfl) ?_
        obtain ⟨h_35, hw⟩ := hw
        refine ro_i (w := (wM q dA)) (M := M) hx hb hK hP 17 16 (wM_17 q dA M) rfl h_35 dXm_kill_139 (fun y_36 ey_36 => ?_)
        have hw := hw y_36 ey_36
        refine lv_iload_n hx hb dXm_kill_140 rfl (lv_at hl 1 rfl) ?_
        refine lv_icmp_ne (tgt := 152) hx hb dXm_kill_141 (by decide) (fun c_37 => ?_) (fun c_37 => ?_)
        · have hw := hw.2 c_37
          obtain ⟨x4_38, ex4_38⟩ : ∃ y : Int32, y = x4 + 1 := ⟨_, rfl⟩
          have hw := hw x4_38 ex4_38
          refine lv_iinc (v := x4_38) (lv' := [(4, .int x4_38), (0, .ref (q 0)), (1, .int x1), (3, .int x3)]) hx hb dXm_kill_152 hl (k := 3) rfl (by rw [ex4_38]; rfl) (by decide) rfl (fun ls hl => ?_)
          refine lv_goto (tgt := 114) hx hb dXm_kill_155 (by decide) ?_
          exact ih114 x1 x3 x4_38 M _ _ _ hw hP hD hS (lv_sub hl [1, 2, 3, 0] rfl)
        · have hw := hw.1 c_37
          refine lv_aload_n hx hb dXm_kill_144 rfl (lv_at hl 0 rfl) ?_
          refine va_get (D := (dC, dI)) (ci := 5) (v := .ref (q 17)) (C := "ServiceThreadsModel") (T := TXm) (N := 28) hx hb hta inXm hown hK hP 0 (wM_0 q dA M) rfl 20 (by decide) (hta _ wt_585) (fun _ h9 => h9) rfl dXm_kill_145 ?_
          refine lv_iload hx hb dXm_kill_148 (lv_at hl 3 rfl) ?_
          refine lv_iload_n hx hb dXm_kill_150 rfl (lv_at hl 2 rfl) ?_
          obtain ⟨h_39, hw⟩ := hw
          refine wo_i (w := (wM q dA)) (M := M) hx hb hK hP hD hS 17 16 (wM_17 q dA M) (wM_s17 q dA M) rfl h_39 dXm_kill_151 (fun M_40 H locs eM_40 hP hD hS => ?_)
          have hw := hw M_40 eM_40
          obtain ⟨x4_41, ex4_41⟩ : ∃ y : Int32, y = x4 + 1 := ⟨_, rfl⟩
          have hw := hw x4_41 ex4_41
          refine lv_iinc (v := x4_41) (lv' := [(4, .int x4_41), (0, .ref (q 0)), (1, .int x1), (3, .int x3)]) hx hb dXm_kill_152 hl (k := 3) rfl (by rw [ex4_41]; rfl) (by decide) rfl (fun ls hl => ?_)
          refine lv_goto (tgt := 114) hx hb dXm_kill_155 (by decide) ?_
          exact ih114 x1 x3 x4_41 M_40 _ _ _ hw hP hD hS (lv_sub hl [1, 2, 3, 0] rfl)
set_option maxHeartbeats 4000000 in
set_option maxRecDepth 100000 in
theorem mtXm_kill (l : Launch) (dC : Nat → ClassId) (dI : Nat → Nat → Nat) (q : Nat → Nat) (dA : Nat → ClassId) (sz : Nat) (p0 : Int32) (M : Mm) (post : Mm → Prop) (hw : wpXm_kill p0 M post) : Met l yXm_kill (wsA yXm_kill cXm_kill 5 none) ({ frames := 2, cells := 0, slots := 0, locals := 42 }) (va_Pc [.ref (q 0), .int p0] (pW (dC, dI) vwCl (wM q dA) (tM dA) sz M)) (va_Qv post (bW (dC, dI) vwCl (wM q dA) (tM dA) (va_A (wM q dA M) sz)) (va_A (wM q dA M) sz)) 0 0 (va_A (wM q dA M) sz) := by
  refine Met.ofW (cc := cXm_kill) (maxL := 5) (ret := none) (by decide) rfl ?_
  intro p e s m args below meth c s₁ B hml hv
  obtain ⟨rfl, hsz, hP, hK, hD0⟩ := hv
  have hx := B.exec
  have hb := B.bytes
  have hr := B.returns
  have hts := atoms_spec (ws := (wsA yXm_kill cXm_kill 5 none)) B.pre
  have hta : ∀ w ∈ wsG, w.before _ s = true := fun w h => hts w (List.mem_cons_of_mem _ h)
  have hown : s.vm.findClass "ServiceThreadsModel" = some m.cls := findClass_of_methodNamed B.named
  have hlocks := B.notSynchronized
  subst hsz
  have hD := hD0.self (sz := s.heap.size)
  generalize hAe : va_A (wM q dA M) s.heap.size = A at hD ⊢
  have hA : ∀ q : Nat, s.heap.size ≤ q → A q := fun q h => by rw [← hAe]; exact Or.inr h
  have hS : va_S A s.heap s.heap [] := va_S.rf
  dsimp only [wpXm_kill] at hw
  have hl := lv_entry ([.ref (q 0), .int p0]) (n := 5) (Nat.le_of_ble_eq_true rfl)
  rw [lg_entry_eq]
  generalize (lg_sl ([.ref (q 0), .int p0]) ++ List.replicate (5 - (lg_sl ([.ref (q 0), .int p0])).length) Slot.unset).toArray = ls at hl ⊢
  have hl : lv_has ls 5 [(0, .ref (q 0)), (1, .int p0)] := hl
  refine lv_iload_n hx hb dXm_kill_0 rfl (lv_at hl 1 rfl) ?_
  refine cn_i (w := (wM q dA)) (M := M) (wM_ad q dA) (va_runS (As := [.int p0]) (rest := []) ⟨hx, hb, hml, hown, hta⟩ (mtXm_isThread l dC dI q dA s.heap.size p0 M _ hw) (va_cwS 1 hta (giS wt_658 wt_659 wt_7 wt_660) rfl rfl rfl (by decide +kernel) ⟨Nat.le_of_ble_eq_true rfl, Nat.le_of_ble_eq_true rfl⟩) ⟨pW_blind, pW_of hK hP hD⟩ rfl rfl hl.1 rfl (lv_room (Nat.le_of_ble_eq_true rfl)) dXm_kill_1 ⟨Nat.le_of_ble_eq_true rfl, Nat.le_of_ble_eq_true rfl⟩) hD hS hA (fun r_1 M_2 H locs hw hP hD hS => ?_)
  refine lv_if_ne (tgt := 11) hx hb dXm_kill_4 (by decide) (fun c_3 => ?_) (fun c_3 => ?_)
  · have hw := hw.2 c_3
    refine lv_iconst (v := 0) hx hb dXm_kill_11 (by decide) ?_
    refine lv_istore_n (lv' := [(2, .int 0), (0, .ref (q 0)), (1, .int p0)]) hx hb dXm_kill_12 rfl hl (by decide) rfl (fun ls hl => ?_)
    refine lv_aload_n hx hb dXm_kill_13 rfl (lv_at hl 1 rfl) ?_
    refine lv_iload_n hx hb dXm_kill_14 rfl (lv_at hl 0 rfl) ?_
    refine lv_iload_n hx hb dXm_kill_15 rfl (lv_at hl 0 rfl) ?_
    refine lv_if_ne (tgt := 40) hx hb dXm_kill_16 (by decide) (fun c_4 => absurd c_4 (by decide)) (fun c_4 => ?_)
    · skip
      refine lv_aload_n hx hb dXm_kill_19 rfl (lv_at hl 1 rfl) ?_
      refine va_get (D := (dC, dI)) (ci := 5) (v := .ref (q 5)) (C := "ServiceThreadsModel") (T := TXm) (N := 28) hx hb hta inXm hown hK hP 0 (wM_0 q dA M_2) rfl 7 (by decide) (hta _ wt_572) (fun _ h9 => h9) rfl dXm_kill_20 ?_
      refine lv_iload_n hx hb dXm_kill_23 rfl (lv_at hl 0 rfl) ?_
      refine lv_if_eq (tgt := 31) hx hb dXm_kill_24 (by decide) (fun c_5 => ?_) (fun c_5 => absurd c_5 (by decide))
      · skip
        refine lv_iload_n hx hb dXm_kill_31 rfl (lv_at hl 2 rfl) ?_
        obtain ⟨h_6, hw⟩ := hw
        refine ro_i (w := (wM q dA)) (M := M_2) hx hb hK hP 5 4 (wM_5 q dA M_2) rfl h_6 dXm_kill_32 (fun y_7 ey_7 => ?_)
        have hw := hw y_7 ey_7
        refine lv_if_eq (tgt := 40) hx hb dXm_kill_33 (by decide) (fun c_8 => ?_) (fun c_8 => ?_)
        · have hw := hw.1 c_8
          refine lv_iconst (v := 0) hx hb dXm_kill_40 (by decide) ?_
          refine lv_iconst (v := 0) hx hb dXm_kill_41 (by decide) ?_
          refine lv_iconst (v := 0) hx hb dXm_kill_42 (by decide) ?_
          refine cn_i (w := (wM q dA)) (M := M_2) (wM_ad q dA) (va_runV (As := [.int 0, .int 0, .int 0, .int 0]) (rest := []) ⟨hx, hb, hml, hown, hta⟩ (mtXm_throwing l dC dI q dA H.size 0 0 0 0 M_2 _ hw) (cwV 4 hta (giV wt_668 wt_670 ws_19 wt_7 wt_671) rfl rfl rfl (by decide +kernel) ⟨Nat.le_of_ble_eq_true rfl, Nat.le_of_ble_eq_true rfl⟩) ⟨pW_blind, va_recv hK hP (ci := 5) (q0 := 0) rfl (wM_0 q dA M_2), pW_of hK hP hD⟩ rfl rfl hl.1 rfl (lv_room (Nat.le_of_ble_eq_true rfl)) dXm_kill_43 ⟨Nat.le_of_ble_eq_true rfl, Nat.le_of_ble_eq_true rfl⟩) hD hS hA (fun r_9 M_10 H locs hw hP hD hS => ?_)
          refine lv_if_eq (tgt := 50) hx hb dXm_kill_46 (by decide) (fun c_11 => ?_) (fun c_11 => ?_)
          · have hw := hw.1 c_11
            refine lv_aload_n hx hb dXm_kill_50 rfl (lv_at hl 1 rfl) ?_
            refine va_get (D := (dC, dI)) (ci := 5) (v := .ref (q 5)) (C := "ServiceThreadsModel") (T := TXm) (N := 28) hx hb hta inXm hown hK hP 0 (wM_0 q dA M_10) rfl 7 (by decide) (hta _ wt_572) (fun _ h9 => h9) rfl dXm_kill_51 ?_
            refine lv_iload_n hx hb dXm_kill_54 rfl (lv_at hl 2 rfl) ?_
            refine lv_iconst (v := 2) hx hb dXm_kill_55 (by decide) ?_
            obtain ⟨h_12, hw⟩ := hw
            refine wo_i (w := (wM q dA)) (M := M_10) hx hb hK hP hD hS 5 4 (wM_5 q dA M_10) (wM_s5 q dA M_10) rfl h_12 dXm_kill_56 (fun M_13 H locs eM_13 hP hD hS => ?_)
            have hw := hw M_13 eM_13
            refine lv_aload_n hx hb dXm_kill_57 rfl (lv_at hl 1 rfl) ?_
            refine va_get (D := (dC, dI)) (ci := 5) (v := .ref (q 8)) (C := "ServiceThreadsModel") (T := TXm) (N := 28) hx hb hta inXm hown hK hP 0 (wM_0 q dA M_13) rfl 10 (by decide) (hta _ wt_575) (fun _ h9 => h9) rfl dXm_kill_58 ?_
            refine lv_iload_n hx hb dXm_kill_61 rfl (lv_at hl 2 rfl) ?_
            refine lv_aload_n hx hb dXm_kill_62 rfl (lv_at hl 1 rfl) ?_
            refine va_get (D := (dC, dI)) (ci := 5) (v := .int (M_13 24 0)) (C := "ServiceThreadsModel") (T := TXm) (N := 28) hx hb hta inXm hown hK hP 0 (wM_0 q dA M_13) rfl 1 (by decide) (hta _ wt_566) (fun _ h9 => h9) rfl dXm_kill_63 ?_
            refine lv_topi (fun y_14 ey_14 => ?_)
            have hw := hw y_14 ey_14
            refine lv_aload_n hx hb dXm_kill_66 rfl (lv_at hl 1 rfl) ?_
            refine va_get (D := (dC, dI)) (ci := 5) (v := .int (M_13 25 0)) (C := "ServiceThreadsModel") (T := TXm) (N := 28) hx hb hta inXm hown hK hP 0 (wM_0 q dA M_13) rfl 2 (by decide) (hta _ wt_567) (fun _ h9 => h9) rfl dXm_kill_67 ?_
            refine lv_topi (fun y_15 ey_15 => ?_)
            have hw := hw y_15 ey_15
            refine lv_iadd hx hb dXm_kill_70 ?_
            refine lv_topi (fun y_16 ey_16 => ?_)
            have hw := hw y_16 ey_16
            obtain ⟨h_17, hw⟩ := hw
            refine wo_i (w := (wM q dA)) (M := M_13) hx hb hK hP hD hS 8 7 (wM_8 q dA M_13) (wM_s8 q dA M_13) rfl h_17 dXm_kill_71 (fun M_18 H locs eM_18 hP hD hS => ?_)
            have hw := hw M_18 eM_18
            refine lv_aload_n hx hb dXm_kill_72 rfl (lv_at hl 1 rfl) ?_
            refine va_get (D := (dC, dI)) (ci := 5) (v := .int (M_18 25 0)) (C := "ServiceThreadsModel") (T := TXm) (N := 28) hx hb hta inXm hown hK hP 0 (wM_0 q dA M_18) rfl 2 (by decide) (hta _ wt_567) (fun _ h9 => h9) rfl dXm_kill_73 ?_
            refine lv_topi (fun y_19 ey_19 => ?_)
            have hw := hw y_19 ey_19
            refine lv_if_ne (tgt := 84) hx hb dXm_kill_76 (by decide) (fun c_20 => ?_) (fun c_20 => ?_)
            · have hw := hw.2 c_20
              refine lv_aload_n hx hb dXm_kill_84 rfl (lv_at hl 1 rfl) ?_
              refine va_get (D := (dC, dI)) (ci := 5) (v := .ref (q 12)) (C := "ServiceThreadsModel") (T := TXm) (N := 28) hx hb hta inXm hown hK hP 0 (wM_0 q dA M_18) rfl 14 (by decide) (hta _ wt_579) (fun _ h9 => h9) rfl dXm_kill_85 ?_
              refine lv_iload_n hx hb dXm_kill_88 rfl (lv_at hl 2 rfl) ?_
              refine lv_iconst (v := 0) hx hb dXm_kill_89 (by decide) ?_
              obtain ⟨h_21, hw⟩ := hw
              refine wo_z (w := (wM q dA)) (M := M_18) hx hb hK hP hD hS 12 11 (wM_12 q dA M_18) (wM_s12 q dA M_18) rfl (by decide) h_21 dXm_kill_90 (fun M_22 H locs eM_22 hP hD hS => ?_)
              have hw := hw M_22 eM_22
              refine lv_aload_n hx hb dXm_kill_91 rfl (lv_at hl 1 rfl) ?_
              refine va_get (D := (dC, dI)) (ci := 5) (v := .ref (q 13)) (C := "ServiceThreadsModel") (T := TXm) (N := 28) hx hb hta inXm hown hK hP 0 (wM_0 q dA M_22) rfl 15 (by decide) (hta _ wt_580) (fun _ h9 => h9) rfl dXm_kill_92 ?_
              refine lv_iload_n hx hb dXm_kill_95 rfl (lv_at hl 2 rfl) ?_
              refine lv_iconst (v := 0) hx hb dXm_kill_96 (by decide) ?_
              obtain ⟨h_23, hw⟩ := hw
              refine wo_z (w := (wM q dA)) (M := M_22) hx hb hK hP hD hS 13 12 (wM_13 q dA M_22) (wM_s13 q dA M_22) rfl (by decide) h_23 dXm_kill_97 (fun M_24 H locs eM_24 hP hD hS => ?_)
              have hw := hw M_24 eM_24
              refine lv_aload_n hx hb dXm_kill_98 rfl (lv_at hl 1 rfl) ?_
              refine va_get (D := (dC, dI)) (ci := 5) (v := .ref (q 9)) (C := "ServiceThreadsModel") (T := TXm) (N := 28) hx hb hta inXm hown hK hP 0 (wM_0 q dA M_24) rfl 11 (by decide) (hta _ wt_576) (fun _ h9 => h9) rfl dXm_kill_99 ?_
              refine lv_iload_n hx hb dXm_kill_102 rfl (lv_at hl 2 rfl) ?_
              refine lv_iconst (v := 0) hx hb dXm_kill_103 (by decide) ?_
              obtain ⟨h_25, hw⟩ := hw
              refine wo_i (w := (wM q dA)) (M := M_24) hx hb hK hP hD hS 9 8 (wM_9 q dA M_24) (wM_s9 q dA M_24) rfl h_25 dXm_kill_104 (fun M_26 H locs eM_26 hP hD hS => ?_)
              have hw := hw M_26 eM_26
              refine lv_aload_n hx hb dXm_kill_105 rfl (lv_at hl 1 rfl) ?_
              refine lv_iload_n hx hb dXm_kill_106 rfl (lv_at hl 2 rfl) ?_
              refine cn_i (w := (wM q dA)) (M := M_26) (wM_ad q dA) (va_runV (As := [.int p0]) (rest := []) ⟨hx, hb, hml, hown, hta⟩ (mtXm_heir l dC dI q dA H.size p0 M_26 _ hw) (cwV 1 hta (giV wt_752 wt_754 ws_35 wt_7 wt_755) rfl rfl rfl (by decide +kernel) ⟨Nat.le_of_ble_eq_true rfl, Nat.le_of_ble_eq_true rfl⟩) ⟨pW_blind, va_recv hK hP (ci := 5) (q0 := 0) rfl (wM_0 q dA M_26), pW_of hK hP hD⟩ rfl rfl hl.1 rfl (lv_room (Nat.le_of_ble_eq_true rfl)) dXm_kill_107 ⟨Nat.le_of_ble_eq_true rfl, Nat.le_of_ble_eq_true rfl⟩) hD hS hA (fun r_27 M_28 H locs hw hP hD hS => ?_)
              refine lv_istore_n (lv' := [(3, .int r_27), (2, .int 0), (0, .ref (q 0)), (1, .int p0)]) hx hb dXm_kill_110 rfl hl (by decide) rfl (fun ls hl => ?_)
              refine lv_iconst (v := 0) hx hb dXm_kill_111 (by decide) ?_
              refine lv_istore (lv' := [(4, .int 0), (3, .int r_27), (2, .int 0), (0, .ref (q 0)), (1, .int p0)]) hx hb dXm_kill_112 hl (by decide) rfl (fun ls hl => ?_)
              obtain ⟨n114, hw⟩ := hw
              exact LwlXm_kill_114 (A := A) (av := [.ref (q 0), .int p0]) ⟨hx, hb, hr, hml, hown, hta, hA, hK, hlocks⟩ n114 p0 r_27 0 M_28 _ _ _ hw hP hD hS (lv_sub hl [3, 4, 1, 0] rfl)
            · have hw := hw.1 c_20
              refine lv_aload_n hx hb dXm_kill_79 rfl (lv_at hl 1 rfl) ?_
              refine lv_iload_n hx hb dXm_kill_80 rfl (lv_at hl 2 rfl) ?_
              refine cn_v (w := (wM q dA)) (M := M_18) (wM_ad q dA) (va_runV (As := [.int p0]) (rest := []) ⟨hx, hb, hml, hown, hta⟩ (mtXm_free l dC dI q dA H.size p0 M_18 _ hw) (cwV 1 hta (giV wt_688 wt_690 ws_21 wt_7 wt_691) rfl rfl rfl (by decide +kernel) ⟨Nat.le_of_ble_eq_true rfl, Nat.le_of_ble_eq_true rfl⟩) ⟨pW_blind, va_recv hK hP (ci := 5) (q0 := 0) rfl (wM_0 q dA M_18), pW_of hK hP hD⟩ rfl rfl hl.1 rfl (lv_room (Nat.le_of_ble_eq_true rfl)) dXm_kill_81 ⟨Nat.le_of_ble_eq_true rfl, Nat.le_of_ble_eq_true rfl⟩) hD hS hA (fun M_43 H locs hw hP hD hS => ?_)
              refine lv_aload_n hx hb dXm_kill_84 rfl (lv_at hl 1 rfl) ?_
              refine va_get (D := (dC, dI)) (ci := 5) (v := .ref (q 12)) (C := "ServiceThreadsModel") (T := TXm) (N := 28) hx hb hta inXm hown hK hP 0 (wM_0 q dA M_43) rfl 14 (by decide) (hta _ wt_579) (fun _ h9 => h9) rfl dXm_kill_85 ?_
              refine lv_iload_n hx hb dXm_kill_88 rfl (lv_at hl 2 rfl) ?_
              refine lv_iconst (v := 0) hx hb dXm_kill_89 (by decide) ?_
              obtain ⟨h_44, hw⟩ := hw
              refine wo_z (w := (wM q dA)) (M := M_43) hx hb hK hP hD hS 12 11 (wM_12 q dA M_43) (wM_s12 q dA M_43) rfl (by decide) h_44 dXm_kill_90 (fun M_45 H locs eM_45 hP hD hS => ?_)
              have hw := hw M_45 eM_45
              refine lv_aload_n hx hb dXm_kill_91 rfl (lv_at hl 1 rfl) ?_
              refine va_get (D := (dC, dI)) (ci := 5) (v := .ref (q 13)) (C := "ServiceThreadsModel") (T := TXm) (N := 28) hx hb hta inXm hown hK hP 0 (wM_0 q dA M_45) rfl 15 (by decide) (hta _ wt_580) (fun _ h9 => h9) rfl dXm_kill_92 ?_
              refine lv_iload_n hx hb dXm_kill_95 rfl (lv_at hl 2 rfl) ?_
              refine lv_iconst (v := 0) hx hb dXm_kill_96 (by decide) ?_
              obtain ⟨h_46, hw⟩ := hw
              refine wo_z (w := (wM q dA)) (M := M_45) hx hb hK hP hD hS 13 12 (wM_13 q dA M_45) (wM_s13 q dA M_45) rfl (by decide) h_46 dXm_kill_97 (fun M_47 H locs eM_47 hP hD hS => ?_)
              have hw := hw M_47 eM_47
              refine lv_aload_n hx hb dXm_kill_98 rfl (lv_at hl 1 rfl) ?_
              refine va_get (D := (dC, dI)) (ci := 5) (v := .ref (q 9)) (C := "ServiceThreadsModel") (T := TXm) (N := 28) hx hb hta inXm hown hK hP 0 (wM_0 q dA M_47) rfl 11 (by decide) (hta _ wt_576) (fun _ h9 => h9) rfl dXm_kill_99 ?_
              refine lv_iload_n hx hb dXm_kill_102 rfl (lv_at hl 2 rfl) ?_
              refine lv_iconst (v := 0) hx hb dXm_kill_103 (by decide) ?_
              obtain ⟨h_48, hw⟩ := hw
              refine wo_i (w := (wM q dA)) (M := M_47) hx hb hK hP hD hS 9 8 (wM_9 q dA M_47) (wM_s9 q dA M_47) rfl h_48 dXm_kill_104 (fun M_49 H locs eM_49 hP hD hS => ?_)
              have hw := hw M_49 eM_49
              refine lv_aload_n hx hb dXm_kill_105 rfl (lv_at hl 1 rfl) ?_
              refine lv_iload_n hx hb dXm_kill_106 rfl (lv_at hl 2 rfl) ?_
              refine cn_i (w := (wM q dA)) (M := M_49) (wM_ad q dA) (va_runV (As := [.int p0]) (rest := []) ⟨hx, hb, hml, hown, hta⟩ (mtXm_heir l dC dI q dA H.size p0 M_49 _ hw) (cwV 1 hta (giV wt_752 wt_754 ws_35 wt_7 wt_755) rfl rfl rfl (by decide +kernel) ⟨Nat.le_of_ble_eq_true rfl, Nat.le_of_ble_eq_true rfl⟩) ⟨pW_blind, va_recv hK hP (ci := 5) (q0 := 0) rfl (wM_0 q dA M_49), pW_of hK hP hD⟩ rfl rfl hl.1 rfl (lv_room (Nat.le_of_ble_eq_true rfl)) dXm_kill_107 ⟨Nat.le_of_ble_eq_true rfl, Nat.le_of_ble_eq_true rfl⟩) hD hS hA (fun r_50 M_51 H locs hw hP hD hS => ?_)
              refine lv_istore_n (lv' := [(3, .int r_50), (2, .int 0), (0, .ref (q 0)), (1, .int p0)]) hx hb dXm_kill_110 rfl hl (by decide) rfl (fun ls hl => ?_)
              refine lv_iconst (v := 0) hx hb dXm_kill_111 (by decide) ?_
              refine lv_istore (lv' := [(4, .int 0), (3, .int r_50), (2, .int 0), (0, .ref (q 0)), (1, .int p0)]) hx hb dXm_kill_112 hl (by decide) rfl (fun ls hl => ?_)
              obtain ⟨n114, hw⟩ := hw
              exact LwlXm_kill_114 (A := A) (av := [.ref (q 0), .int p0]) ⟨hx, hb, hr, hml, hown, hta, hA, hK, hlocks⟩ n114 p0 r_50 0 M_51 _ _ _ hw hP hD hS (lv_sub hl [3, 4, 1, 0] rfl)
          · have hw := hw.2 c_11
            exact W.vret hx hb hr (fun t ht hW => ⟨⟨M_10, rfl, hw, by rw [ht]; exact hP, va_K.moved hW.alike hK, hD⟩, hS.F ht⟩) hS.2.2 dXm_kill_49 hlocks
        · have hw := hw.2 c_8
          refine lv_iconst (v := 1) hx hb dXm_kill_36 (by decide) ?_
          refine lv_goto (tgt := 41) hx hb dXm_kill_37 (by decide) ?_
          refine lv_iconst (v := 0) hx hb dXm_kill_41 (by decide) ?_
          refine lv_iconst (v := 0) hx hb dXm_kill_42 (by decide) ?_
          refine cn_i (w := (wM q dA)) (M := M_2) (wM_ad q dA) (va_runV (As := [.int 0, .int 1, .int 0, .int 0]) (rest := []) ⟨hx, hb, hml, hown, hta⟩ (mtXm_throwing l dC dI q dA H.size 0 1 0 0 M_2 _ hw) (cwV 4 hta (giV wt_668 wt_670 ws_19 wt_7 wt_671) rfl rfl rfl (by decide +kernel) ⟨Nat.le_of_ble_eq_true rfl, Nat.le_of_ble_eq_true rfl⟩) ⟨pW_blind, va_recv hK hP (ci := 5) (q0 := 0) rfl (wM_0 q dA M_2), pW_of hK hP hD⟩ rfl rfl hl.1 rfl (lv_room (Nat.le_of_ble_eq_true rfl)) dXm_kill_43 ⟨Nat.le_of_ble_eq_true rfl, Nat.le_of_ble_eq_true rfl⟩) hD hS hA (fun r_52 M_53 H locs hw hP hD hS => ?_)
          refine lv_if_eq (tgt := 50) hx hb dXm_kill_46 (by decide) (fun c_54 => ?_) (fun c_54 => ?_)
          · have hw := hw.1 c_54
            refine lv_aload_n hx hb dXm_kill_50 rfl (lv_at hl 1 rfl) ?_
            refine va_get (D := (dC, dI)) (ci := 5) (v := .ref (q 5)) (C := "ServiceThreadsModel") (T := TXm) (N := 28) hx hb hta inXm hown hK hP 0 (wM_0 q dA M_53) rfl 7 (by decide) (hta _ wt_572) (fun _ h9 => h9) rfl dXm_kill_51 ?_
            refine lv_iload_n hx hb dXm_kill_54 rfl (lv_at hl 2 rfl) ?_
            refine lv_iconst (v := 2) hx hb dXm_kill_55 (by decide) ?_
            obtain ⟨h_55, hw⟩ := hw
            refine wo_i (w := (wM q dA)) (M := M_53) hx hb hK hP hD hS 5 4 (wM_5 q dA M_53) (wM_s5 q dA M_53) rfl h_55 dXm_kill_56 (fun M_56 H locs eM_56 hP hD hS => ?_)
            have hw := hw M_56 eM_56
            refine lv_aload_n hx hb dXm_kill_57 rfl (lv_at hl 1 rfl) ?_
            refine va_get (D := (dC, dI)) (ci := 5) (v := .ref (q 8)) (C := "ServiceThreadsModel") (T := TXm) (N := 28) hx hb hta inXm hown hK hP 0 (wM_0 q dA M_56) rfl 10 (by decide) (hta _ wt_575) (fun _ h9 => h9) rfl dXm_kill_58 ?_
            refine lv_iload_n hx hb dXm_kill_61 rfl (lv_at hl 2 rfl) ?_
            refine lv_aload_n hx hb dXm_kill_62 rfl (lv_at hl 1 rfl) ?_
            refine va_get (D := (dC, dI)) (ci := 5) (v := .int (M_56 24 0)) (C := "ServiceThreadsModel") (T := TXm) (N := 28) hx hb hta inXm hown hK hP 0 (wM_0 q dA M_56) rfl 1 (by decide) (hta _ wt_566) (fun _ h9 => h9) rfl dXm_kill_63 ?_
            refine lv_topi (fun y_57 ey_57 => ?_)
            have hw := hw y_57 ey_57
            refine lv_aload_n hx hb dXm_kill_66 rfl (lv_at hl 1 rfl) ?_
            refine va_get (D := (dC, dI)) (ci := 5) (v := .int (M_56 25 0)) (C := "ServiceThreadsModel") (T := TXm) (N := 28) hx hb hta inXm hown hK hP 0 (wM_0 q dA M_56) rfl 2 (by decide) (hta _ wt_567) (fun _ h9 => h9) rfl dXm_kill_67 ?_
            refine lv_topi (fun y_58 ey_58 => ?_)
            have hw := hw y_58 ey_58
            refine lv_iadd hx hb dXm_kill_70 ?_
            refine lv_topi (fun y_59 ey_59 => ?_)
            have hw := hw y_59 ey_59
            obtain ⟨h_60, hw⟩ := hw
            refine wo_i (w := (wM q dA)) (M := M_56) hx hb hK hP hD hS 8 7 (wM_8 q dA M_56) (wM_s8 q dA M_56) rfl h_60 dXm_kill_71 (fun M_61 H locs eM_61 hP hD hS => ?_)
            have hw := hw M_61 eM_61
            refine lv_aload_n hx hb dXm_kill_72 rfl (lv_at hl 1 rfl) ?_
            refine va_get (D := (dC, dI)) (ci := 5) (v := .int (M_61 25 0)) (C := "ServiceThreadsModel") (T := TXm) (N := 28) hx hb hta inXm hown hK hP 0 (wM_0 q dA M_61) rfl 2 (by decide) (hta _ wt_567) (fun _ h9 => h9) rfl dXm_kill_73 ?_
            refine lv_topi (fun y_62 ey_62 => ?_)
            have hw := hw y_62 ey_62
            refine lv_if_ne (tgt := 84) hx hb dXm_kill_76 (by decide) (fun c_63 => ?_) (fun c_63 => ?_)
            · have hw := hw.2 c_63
              refine lv_aload_n hx hb dXm_kill_84 rfl (lv_at hl 1 rfl) ?_
              refine va_get (D := (dC, dI)) (ci := 5) (v := .ref (q 12)) (C := "ServiceThreadsModel") (T := TXm) (N := 28) hx hb hta inXm hown hK hP 0 (wM_0 q dA M_61) rfl 14 (by decide) (hta _ wt_579) (fun _ h9 => h9) rfl dXm_kill_85 ?_
              refine lv_iload_n hx hb dXm_kill_88 rfl (lv_at hl 2 rfl) ?_
              refine lv_iconst (v := 0) hx hb dXm_kill_89 (by decide) ?_
              obtain ⟨h_64, hw⟩ := hw
              refine wo_z (w := (wM q dA)) (M := M_61) hx hb hK hP hD hS 12 11 (wM_12 q dA M_61) (wM_s12 q dA M_61) rfl (by decide) h_64 dXm_kill_90 (fun M_65 H locs eM_65 hP hD hS => ?_)
              have hw := hw M_65 eM_65
              refine lv_aload_n hx hb dXm_kill_91 rfl (lv_at hl 1 rfl) ?_
              refine va_get (D := (dC, dI)) (ci := 5) (v := .ref (q 13)) (C := "ServiceThreadsModel") (T := TXm) (N := 28) hx hb hta inXm hown hK hP 0 (wM_0 q dA M_65) rfl 15 (by decide) (hta _ wt_580) (fun _ h9 => h9) rfl dXm_kill_92 ?_
              refine lv_iload_n hx hb dXm_kill_95 rfl (lv_at hl 2 rfl) ?_
              refine lv_iconst (v := 0) hx hb dXm_kill_96 (by decide) ?_
              obtain ⟨h_66, hw⟩ := hw
              refine wo_z (w := (wM q dA)) (M := M_65) hx hb hK hP hD hS 13 12 (wM_13 q dA M_65) (wM_s13 q dA M_65) rfl (by decide) h_66 dXm_kill_97 (fun M_67 H locs eM_67 hP hD hS => ?_)
              have hw := hw M_67 eM_67
              refine lv_aload_n hx hb dXm_kill_98 rfl (lv_at hl 1 rfl) ?_
              refine va_get (D := (dC, dI)) (ci := 5) (v := .ref (q 9)) (C := "ServiceThreadsModel") (T := TXm) (N := 28) hx hb hta inXm hown hK hP 0 (wM_0 q dA M_67) rfl 11 (by decide) (hta _ wt_576) (fun _ h9 => h9) rfl dXm_kill_99 ?_
              refine lv_iload_n hx hb dXm_kill_102 rfl (lv_at hl 2 rfl) ?_
              refine lv_iconst (v := 0) hx hb dXm_kill_103 (by decide) ?_
              obtain ⟨h_68, hw⟩ := hw
              refine wo_i (w := (wM q dA)) (M := M_67) hx hb hK hP hD hS 9 8 (wM_9 q dA M_67) (wM_s9 q dA M_67) rfl h_68 dXm_kill_104 (fun M_69 H locs eM_69 hP hD hS => ?_)
              have hw := hw M_69 eM_69
              refine lv_aload_n hx hb dXm_kill_105 rfl (lv_at hl 1 rfl) ?_
              refine lv_iload_n hx hb dXm_kill_106 rfl (lv_at hl 2 rfl) ?_
              refine cn_i (w := (wM q dA)) (M := M_69) (wM_ad q dA) (va_runV (As := [.int p0]) (rest := []) ⟨hx, hb, hml, hown, hta⟩ (mtXm_heir l dC dI q dA H.size p0 M_69 _ hw) (cwV 1 hta (giV wt_752 wt_754 ws_35 wt_7 wt_755) rfl rfl rfl (by decide +kernel) ⟨Nat.le_of_ble_eq_true rfl, Nat.le_of_ble_eq_true rfl⟩) ⟨pW_blind, va_recv hK hP (ci := 5) (q0 := 0) rfl (wM_0 q dA M_69), pW_of hK hP hD⟩ rfl rfl hl.1 rfl (lv_room (Nat.le_of_ble_eq_true rfl)) dXm_kill_107 ⟨Nat.le_of_ble_eq_true rfl, Nat.le_of_ble_eq_true rfl⟩) hD hS hA (fun r_70 M_71 H locs hw hP hD hS => ?_)
              refine lv_istore_n (lv' := [(3, .int r_70), (2, .int 0), (0, .ref (q 0)), (1, .int p0)]) hx hb dXm_kill_110 rfl hl (by decide) rfl (fun ls hl => ?_)
              refine lv_iconst (v := 0) hx hb dXm_kill_111 (by decide) ?_
              refine lv_istore (lv' := [(4, .int 0), (3, .int r_70), (2, .int 0), (0, .ref (q 0)), (1, .int p0)]) hx hb dXm_kill_112 hl (by decide) rfl (fun ls hl => ?_)
              obtain ⟨n114, hw⟩ := hw
              exact LwlXm_kill_114 (A := A) (av := [.ref (q 0), .int p0]) ⟨hx, hb, hr, hml, hown, hta, hA, hK, hlocks⟩ n114 p0 r_70 0 M_71 _ _ _ hw hP hD hS (lv_sub hl [3, 4, 1, 0] rfl)
            · have hw := hw.1 c_63
              refine lv_aload_n hx hb dXm_kill_79 rfl (lv_at hl 1 rfl) ?_
              refine lv_iload_n hx hb dXm_kill_80 rfl (lv_at hl 2 rfl) ?_
              refine cn_v (w := (wM q dA)) (M := M_61) (wM_ad q dA) (va_runV (As := [.int p0]) (rest := []) ⟨hx, hb, hml, hown, hta⟩ (mtXm_free l dC dI q dA H.size p0 M_61 _ hw) (cwV 1 hta (giV wt_688 wt_690 ws_21 wt_7 wt_691) rfl rfl rfl (by decide +kernel) ⟨Nat.le_of_ble_eq_true rfl, Nat.le_of_ble_eq_true rfl⟩) ⟨pW_blind, va_recv hK hP (ci := 5) (q0 := 0) rfl (wM_0 q dA M_61), pW_of hK hP hD⟩ rfl rfl hl.1 rfl (lv_room (Nat.le_of_ble_eq_true rfl)) dXm_kill_81 ⟨Nat.le_of_ble_eq_true rfl, Nat.le_of_ble_eq_true rfl⟩) hD hS hA (fun M_73 H locs hw hP hD hS => ?_)
              refine lv_aload_n hx hb dXm_kill_84 rfl (lv_at hl 1 rfl) ?_
              refine va_get (D := (dC, dI)) (ci := 5) (v := .ref (q 12)) (C := "ServiceThreadsModel") (T := TXm) (N := 28) hx hb hta inXm hown hK hP 0 (wM_0 q dA M_73) rfl 14 (by decide) (hta _ wt_579) (fun _ h9 => h9) rfl dXm_kill_85 ?_
              refine lv_iload_n hx hb dXm_kill_88 rfl (lv_at hl 2 rfl) ?_
              refine lv_iconst (v := 0) hx hb dXm_kill_89 (by decide) ?_
              obtain ⟨h_74, hw⟩ := hw
              refine wo_z (w := (wM q dA)) (M := M_73) hx hb hK hP hD hS 12 11 (wM_12 q dA M_73) (wM_s12 q dA M_73) rfl (by decide) h_74 dXm_kill_90 (fun M_75 H locs eM_75 hP hD hS => ?_)
              have hw := hw M_75 eM_75
              refine lv_aload_n hx hb dXm_kill_91 rfl (lv_at hl 1 rfl) ?_
              refine va_get (D := (dC, dI)) (ci := 5) (v := .ref (q 13)) (C := "ServiceThreadsModel") (T := TXm) (N := 28) hx hb hta inXm hown hK hP 0 (wM_0 q dA M_75) rfl 15 (by decide) (hta _ wt_580) (fun _ h9 => h9) rfl dXm_kill_92 ?_
              refine lv_iload_n hx hb dXm_kill_95 rfl (lv_at hl 2 rfl) ?_
              refine lv_iconst (v := 0) hx hb dXm_kill_96 (by decide) ?_
              obtain ⟨h_76, hw⟩ := hw
              refine wo_z (w := (wM q dA)) (M := M_75) hx hb hK hP hD hS 13 12 (wM_13 q dA M_75) (wM_s13 q dA M_75) rfl (by decide) h_76 dXm_kill_97 (fun M_77 H locs eM_77 hP hD hS => ?_)
              have hw := hw M_77 eM_77
              refine lv_aload_n hx hb dXm_kill_98 rfl (lv_at hl 1 rfl) ?_
              refine va_get (D := (dC, dI)) (ci := 5) (v := .ref (q 9)) (C := "ServiceThreadsModel") (T := TXm) (N := 28) hx hb hta inXm hown hK hP 0 (wM_0 q dA M_77) rfl 11 (by decide) (hta _ wt_576) (fun _ h9 => h9) rfl dXm_kill_99 ?_
              refine lv_iload_n hx hb dXm_kill_102 rfl (lv_at hl 2 rfl) ?_
              refine lv_iconst (v := 0) hx hb dXm_kill_103 (by decide) ?_
              obtain ⟨h_78, hw⟩ := hw
              refine wo_i (w := (wM q dA)) (M := M_77) hx hb hK hP hD hS 9 8 (wM_9 q dA M_77) (wM_s9 q dA M_77) rfl h_78 dXm_kill_104 (fun M_79 H locs eM_79 hP hD hS => ?_)
              have hw := hw M_79 eM_79
              refine lv_aload_n hx hb dXm_kill_105 rfl (lv_at hl 1 rfl) ?_
              refine lv_iload_n hx hb dXm_kill_106 rfl (lv_at hl 2 rfl) ?_
              refine cn_i (w := (wM q dA)) (M := M_79) (wM_ad q dA) (va_runV (As := [.int p0]) (rest := []) ⟨hx, hb, hml, hown, hta⟩ (mtXm_heir l dC dI q dA H.size p0 M_79 _ hw) (cwV 1 hta (giV wt_752 wt_754 ws_35 wt_7 wt_755) rfl rfl rfl (by decide +kernel) ⟨Nat.le_of_ble_eq_true rfl, Nat.le_of_ble_eq_true rfl⟩) ⟨pW_blind, va_recv hK hP (ci := 5) (q0 := 0) rfl (wM_0 q dA M_79), pW_of hK hP hD⟩ rfl rfl hl.1 rfl (lv_room (Nat.le_of_ble_eq_true rfl)) dXm_kill_107 ⟨Nat.le_of_ble_eq_true rfl, Nat.le_of_ble_eq_true rfl⟩) hD hS hA (fun r_80 M_81 H locs hw hP hD hS => ?_)
              refine lv_istore_n (lv' := [(3, .int r_80), (2, .int 0), (0, .ref (q 0)), (1, .int p0)]) hx hb dXm_kill_110 rfl hl (by decide) rfl (fun ls hl => ?_)
              refine lv_iconst (v := 0) hx hb dXm_kill_111 (by decide) ?_
              refine lv_istore (lv' := [(4, .int 0), (3, .int r_80), (2, .int 0), (0, .ref (q 0)), (1, .int p0)]) hx hb dXm_kill_112 hl (by decide) rfl (fun ls hl => ?_)
              obtain ⟨n114, hw⟩ := hw
              exact LwlXm_kill_114 (A := A) (av := [.ref (q 0), .int p0]) ⟨hx, hb, hr, hml, hown, hta, hA, hK, hlocks⟩ n114 p0 r_80 0 M_81 _ _ _ hw hP hD hS (lv_sub hl [3, 4, 1, 0] rfl)
          · have hw := hw.2 c_54
            exact W.vret hx hb hr (fun t ht hW => ⟨⟨M_53, rfl, hw, by rw [ht]; exact hP, va_K.moved hW.alike hK, hD⟩, hS.F ht⟩) hS.2.2 dXm_kill_49 hlocks
  · have hw := hw.1 c_3
    refine lv_iconst (v := 1) hx hb dXm_kill_7 (by decide) ?_
    refine lv_goto (tgt := 12) hx hb dXm_kill_8 (by decide) ?_
    refine lv_istore_n (lv' := [(2, .int 1), (0, .ref (q 0)), (1, .int p0)]) hx hb dXm_kill_12 rfl hl (by decide) rfl (fun ls hl => ?_)
    refine lv_aload_n hx hb dXm_kill_13 rfl (lv_at hl 1 rfl) ?_
    refine lv_iload_n hx hb dXm_kill_14 rfl (lv_at hl 0 rfl) ?_
    refine lv_iload_n hx hb dXm_kill_15 rfl (lv_at hl 0 rfl) ?_
    refine lv_if_ne (tgt := 40) hx hb dXm_kill_16 (by decide) (fun c_82 => ?_) (fun c_82 => absurd c_82 (by decide))
    · skip
      refine lv_iconst (v := 0) hx hb dXm_kill_40 (by decide) ?_
      refine lv_iconst (v := 0) hx hb dXm_kill_41 (by decide) ?_
      refine lv_iconst (v := 0) hx hb dXm_kill_42 (by decide) ?_
      refine cn_i (w := (wM q dA)) (M := M_2) (wM_ad q dA) (va_runV (As := [.int 1, .int 0, .int 0, .int 0]) (rest := []) ⟨hx, hb, hml, hown, hta⟩ (mtXm_throwing l dC dI q dA H.size 1 0 0 0 M_2 _ hw) (cwV 4 hta (giV wt_668 wt_670 ws_19 wt_7 wt_671) rfl rfl rfl (by decide +kernel) ⟨Nat.le_of_ble_eq_true rfl, Nat.le_of_ble_eq_true rfl⟩) ⟨pW_blind, va_recv hK hP (ci := 5) (q0 := 0) rfl (wM_0 q dA M_2), pW_of hK hP hD⟩ rfl rfl hl.1 rfl (lv_room (Nat.le_of_ble_eq_true rfl)) dXm_kill_43 ⟨Nat.le_of_ble_eq_true rfl, Nat.le_of_ble_eq_true rfl⟩) hD hS hA (fun r_83 M_84 H locs hw hP hD hS => ?_)
      refine lv_if_eq (tgt := 50) hx hb dXm_kill_46 (by decide) (fun c_85 => ?_) (fun c_85 => ?_)
      · have hw := hw.1 c_85
        refine lv_aload_n hx hb dXm_kill_50 rfl (lv_at hl 1 rfl) ?_
        refine va_get (D := (dC, dI)) (ci := 5) (v := .ref (q 5)) (C := "ServiceThreadsModel") (T := TXm) (N := 28) hx hb hta inXm hown hK hP 0 (wM_0 q dA M_84) rfl 7 (by decide) (hta _ wt_572) (fun _ h9 => h9) rfl dXm_kill_51 ?_
        refine lv_iload_n hx hb dXm_kill_54 rfl (lv_at hl 2 rfl) ?_
        refine lv_iconst (v := 2) hx hb dXm_kill_55 (by decide) ?_
        obtain ⟨h_86, hw⟩ := hw
        refine wo_i (w := (wM q dA)) (M := M_84) hx hb hK hP hD hS 5 4 (wM_5 q dA M_84) (wM_s5 q dA M_84) rfl h_86 dXm_kill_56 (fun M_87 H locs eM_87 hP hD hS => ?_)
        have hw := hw M_87 eM_87
        refine lv_aload_n hx hb dXm_kill_57 rfl (lv_at hl 1 rfl) ?_
        refine va_get (D := (dC, dI)) (ci := 5) (v := .ref (q 8)) (C := "ServiceThreadsModel") (T := TXm) (N := 28) hx hb hta inXm hown hK hP 0 (wM_0 q dA M_87) rfl 10 (by decide) (hta _ wt_575) (fun _ h9 => h9) rfl dXm_kill_58 ?_
        refine lv_iload_n hx hb dXm_kill_61 rfl (lv_at hl 2 rfl) ?_
        refine lv_aload_n hx hb dXm_kill_62 rfl (lv_at hl 1 rfl) ?_
        refine va_get (D := (dC, dI)) (ci := 5) (v := .int (M_87 24 0)) (C := "ServiceThreadsModel") (T := TXm) (N := 28) hx hb hta inXm hown hK hP 0 (wM_0 q dA M_87) rfl 1 (by decide) (hta _ wt_566) (fun _ h9 => h9) rfl dXm_kill_63 ?_
        refine lv_topi (fun y_88 ey_88 => ?_)
        have hw := hw y_88 ey_88
        refine lv_aload_n hx hb dXm_kill_66 rfl (lv_at hl 1 rfl) ?_
        refine va_get (D := (dC, dI)) (ci := 5) (v := .int (M_87 25 0)) (C := "ServiceThreadsModel") (T := TXm) (N := 28) hx hb hta inXm hown hK hP 0 (wM_0 q dA M_87) rfl 2 (by decide) (hta _ wt_567) (fun _ h9 => h9) rfl dXm_kill_67 ?_
        refine lv_topi (fun y_89 ey_89 => ?_)
        have hw := hw y_89 ey_89
        refine lv_iadd hx hb dXm_kill_70 ?_
        refine lv_topi (fun y_90 ey_90 => ?_)
        have hw := hw y_90 ey_90
        obtain ⟨h_91, hw⟩ := hw
        refine wo_i (w := (wM q dA)) (M := M_87) hx hb hK hP hD hS 8 7 (wM_8 q dA M_87) (wM_s8 q dA M_87) rfl h_91 dXm_kill_71 (fun M_92 H locs eM_92 hP hD hS => ?_)
        have hw := hw M_92 eM_92
        refine lv_aload_n hx hb dXm_kill_72 rfl (lv_at hl 1 rfl) ?_
        refine va_get (D := (dC, dI)) (ci := 5) (v := .int (M_92 25 0)) (C := "ServiceThreadsModel") (T := TXm) (N := 28) hx hb hta inXm hown hK hP 0 (wM_0 q dA M_92) rfl 2 (by decide) (hta _ wt_567) (fun _ h9 => h9) rfl dXm_kill_73 ?_
        refine lv_topi (fun y_93 ey_93 => ?_)
        have hw := hw y_93 ey_93
        refine lv_if_ne (tgt := 84) hx hb dXm_kill_76 (by decide) (fun c_94 => ?_) (fun c_94 => ?_)
        · have hw := hw.2 c_94
          refine lv_aload_n hx hb dXm_kill_84 rfl (lv_at hl 1 rfl) ?_
          refine va_get (D := (dC, dI)) (ci := 5) (v := .ref (q 12)) (C := "ServiceThreadsModel") (T := TXm) (N := 28) hx hb hta inXm hown hK hP 0 (wM_0 q dA M_92) rfl 14 (by decide) (hta _ wt_579) (fun _ h9 => h9) rfl dXm_kill_85 ?_
          refine lv_iload_n hx hb dXm_kill_88 rfl (lv_at hl 2 rfl) ?_
          refine lv_iconst (v := 0) hx hb dXm_kill_89 (by decide) ?_
          obtain ⟨h_95, hw⟩ := hw
          refine wo_z (w := (wM q dA)) (M := M_92) hx hb hK hP hD hS 12 11 (wM_12 q dA M_92) (wM_s12 q dA M_92) rfl (by decide) h_95 dXm_kill_90 (fun M_96 H locs eM_96 hP hD hS => ?_)
          have hw := hw M_96 eM_96
          refine lv_aload_n hx hb dXm_kill_91 rfl (lv_at hl 1 rfl) ?_
          refine va_get (D := (dC, dI)) (ci := 5) (v := .ref (q 13)) (C := "ServiceThreadsModel") (T := TXm) (N := 28) hx hb hta inXm hown hK hP 0 (wM_0 q dA M_96) rfl 15 (by decide) (hta _ wt_580) (fun _ h9 => h9) rfl dXm_kill_92 ?_
          refine lv_iload_n hx hb dXm_kill_95 rfl (lv_at hl 2 rfl) ?_
          refine lv_iconst (v := 0) hx hb dXm_kill_96 (by decide) ?_
          obtain ⟨h_97, hw⟩ := hw
          refine wo_z (w := (wM q dA)) (M := M_96) hx hb hK hP hD hS 13 12 (wM_13 q dA M_96) (wM_s13 q dA M_96) rfl (by decide) h_97 dXm_kill_97 (fun M_98 H locs eM_98 hP hD hS => ?_)
          have hw := hw M_98 eM_98
          refine lv_aload_n hx hb dXm_kill_98 rfl (lv_at hl 1 rfl) ?_
          refine va_get (D := (dC, dI)) (ci := 5) (v := .ref (q 9)) (C := "ServiceThreadsModel") (T := TXm) (N := 28) hx hb hta inXm hown hK hP 0 (wM_0 q dA M_98) rfl 11 (by decide) (hta _ wt_576) (fun _ h9 => h9) rfl dXm_kill_99 ?_
          refine lv_iload_n hx hb dXm_kill_102 rfl (lv_at hl 2 rfl) ?_
          refine lv_iconst (v := 0) hx hb dXm_kill_103 (by decide) ?_
          obtain ⟨h_99, hw⟩ := hw
          refine wo_i (w := (wM q dA)) (M := M_98) hx hb hK hP hD hS 9 8 (wM_9 q dA M_98) (wM_s9 q dA M_98) rfl h_99 dXm_kill_104 (fun M_100 H locs eM_100 hP hD hS => ?_)
          have hw := hw M_100 eM_100
          refine lv_aload_n hx hb dXm_kill_105 rfl (lv_at hl 1 rfl) ?_
          refine lv_iload_n hx hb dXm_kill_106 rfl (lv_at hl 2 rfl) ?_
          refine cn_i (w := (wM q dA)) (M := M_100) (wM_ad q dA) (va_runV (As := [.int p0]) (rest := []) ⟨hx, hb, hml, hown, hta⟩ (mtXm_heir l dC dI q dA H.size p0 M_100 _ hw) (cwV 1 hta (giV wt_752 wt_754 ws_35 wt_7 wt_755) rfl rfl rfl (by decide +kernel) ⟨Nat.le_of_ble_eq_true rfl, Nat.le_of_ble_eq_true rfl⟩) ⟨pW_blind, va_recv hK hP (ci := 5) (q0 := 0) rfl (wM_0 q dA M_100), pW_of hK hP hD⟩ rfl rfl hl.1 rfl (lv_room (Nat.le_of_ble_eq_true rfl)) dXm_kill_107 ⟨Nat.le_of_ble_eq_true rfl, Nat.le_of_ble_eq_true rfl⟩) hD hS hA (fun r_101 M_102 H locs hw hP hD hS => ?_)
          refine lv_istore_n (lv' := [(3, .int r_101), (2, .int 1), (0, .ref (q 0)), (1, .int p0)]) hx hb dXm_kill_110 rfl hl (by decide) rfl (fun ls hl => ?_)
          refine lv_iconst (v := 0) hx hb dXm_kill_111 (by decide) ?_
          refine lv_istore (lv' := [(4, .int 0), (3, .int r_101), (2, .int 1), (0, .ref (q 0)), (1, .int p0)]) hx hb dXm_kill_112 hl (by decide) rfl (fun ls hl => ?_)
          obtain ⟨n114, hw⟩ := hw
          exact LwlXm_kill_114 (A := A) (av := [.ref (q 0), .int p0]) ⟨hx, hb, hr, hml, hown, hta, hA, hK, hlocks⟩ n114 p0 r_101 0 M_102 _ _ _ hw hP hD hS (lv_sub hl [3, 4, 1, 0] rfl)
        · have hw := hw.1 c_94
          refine lv_aload_n hx hb dXm_kill_79 rfl (lv_at hl 1 rfl) ?_
          refine lv_iload_n hx hb dXm_kill_80 rfl (lv_at hl 2 rfl) ?_
          refine cn_v (w := (wM q dA)) (M := M_92) (wM_ad q dA) (va_runV (As := [.int p0]) (rest := []) ⟨hx, hb, hml, hown, hta⟩ (mtXm_free l dC dI q dA H.size p0 M_92 _ hw) (cwV 1 hta (giV wt_688 wt_690 ws_21 wt_7 wt_691) rfl rfl rfl (by decide +kernel) ⟨Nat.le_of_ble_eq_true rfl, Nat.le_of_ble_eq_true rfl⟩) ⟨pW_blind, va_recv hK hP (ci := 5) (q0 := 0) rfl (wM_0 q dA M_92), pW_of hK hP hD⟩ rfl rfl hl.1 rfl (lv_room (Nat.le_of_ble_eq_true rfl)) dXm_kill_81 ⟨Nat.le_of_ble_eq_true rfl, Nat.le_of_ble_eq_true rfl⟩) hD hS hA (fun M_104 H locs hw hP hD hS => ?_)
          refine lv_aload_n hx hb dXm_kill_84 rfl (lv_at hl 1 rfl) ?_
          refine va_get (D := (dC, dI)) (ci := 5) (v := .ref (q 12)) (C := "ServiceThreadsModel") (T := TXm) (N := 28) hx hb hta inXm hown hK hP 0 (wM_0 q dA M_104) rfl 14 (by decide) (hta _ wt_579) (fun _ h9 => h9) rfl dXm_kill_85 ?_
          refine lv_iload_n hx hb dXm_kill_88 rfl (lv_at hl 2 rfl) ?_
          refine lv_iconst (v := 0) hx hb dXm_kill_89 (by decide) ?_
          obtain ⟨h_105, hw⟩ := hw
          refine wo_z (w := (wM q dA)) (M := M_104) hx hb hK hP hD hS 12 11 (wM_12 q dA M_104) (wM_s12 q dA M_104) rfl (by decide) h_105 dXm_kill_90 (fun M_106 H locs eM_106 hP hD hS => ?_)
          have hw := hw M_106 eM_106
          refine lv_aload_n hx hb dXm_kill_91 rfl (lv_at hl 1 rfl) ?_
          refine va_get (D := (dC, dI)) (ci := 5) (v := .ref (q 13)) (C := "ServiceThreadsModel") (T := TXm) (N := 28) hx hb hta inXm hown hK hP 0 (wM_0 q dA M_106) rfl 15 (by decide) (hta _ wt_580) (fun _ h9 => h9) rfl dXm_kill_92 ?_
          refine lv_iload_n hx hb dXm_kill_95 rfl (lv_at hl 2 rfl) ?_
          refine lv_iconst (v := 0) hx hb dXm_kill_96 (by decide) ?_
          obtain ⟨h_107, hw⟩ := hw
          refine wo_z (w := (wM q dA)) (M := M_106) hx hb hK hP hD hS 13 12 (wM_13 q dA M_106) (wM_s13 q dA M_106) rfl (by decide) h_107 dXm_kill_97 (fun M_108 H locs eM_108 hP hD hS => ?_)
          have hw := hw M_108 eM_108
          refine lv_aload_n hx hb dXm_kill_98 rfl (lv_at hl 1 rfl) ?_
          refine va_get (D := (dC, dI)) (ci := 5) (v := .ref (q 9)) (C := "ServiceThreadsModel") (T := TXm) (N := 28) hx hb hta inXm hown hK hP 0 (wM_0 q dA M_108) rfl 11 (by decide) (hta _ wt_576) (fun _ h9 => h9) rfl dXm_kill_99 ?_
          refine lv_iload_n hx hb dXm_kill_102 rfl (lv_at hl 2 rfl) ?_
          refine lv_iconst (v := 0) hx hb dXm_kill_103 (by decide) ?_
          obtain ⟨h_109, hw⟩ := hw
          refine wo_i (w := (wM q dA)) (M := M_108) hx hb hK hP hD hS 9 8 (wM_9 q dA M_108) (wM_s9 q dA M_108) rfl h_109 dXm_kill_104 (fun M_110 H locs eM_110 hP hD hS => ?_)
          have hw := hw M_110 eM_110
          refine lv_aload_n hx hb dXm_kill_105 rfl (lv_at hl 1 rfl) ?_
          refine lv_iload_n hx hb dXm_kill_106 rfl (lv_at hl 2 rfl) ?_
          refine cn_i (w := (wM q dA)) (M := M_110) (wM_ad q dA) (va_runV (As := [.int p0]) (rest := []) ⟨hx, hb, hml, hown, hta⟩ (mtXm_heir l dC dI q dA H.size p0 M_110 _ hw) (cwV 1 hta (giV wt_752 wt_754 ws_35 wt_7 wt_755) rfl rfl rfl (by decide +kernel) ⟨Nat.le_of_ble_eq_true rfl, Nat.le_of_ble_eq_true rfl⟩) ⟨pW_blind, va_recv hK hP (ci := 5) (q0 := 0) rfl (wM_0 q dA M_110), pW_of hK hP hD⟩ rfl rfl hl.1 rfl (lv_room (Nat.le_of_ble_eq_true rfl)) dXm_kill_107 ⟨Nat.le_of_ble_eq_true rfl, Nat.le_of_ble_eq_true rfl⟩) hD hS hA (fun r_111 M_112 H locs hw hP hD hS => ?_)
          refine lv_istore_n (lv' := [(3, .int r_111), (2, .int 1), (0, .ref (q 0)), (1, .int p0)]) hx hb dXm_kill_110 rfl hl (by decide) rfl (fun ls hl => ?_)
          refine lv_iconst (v := 0) hx hb dXm_kill_111 (by decide) ?_
          refine lv_istore (lv' := [(4, .int 0), (3, .int r_111), (2, .int 1), (0, .ref (q 0)), (1, .int p0)]) hx hb dXm_kill_112 hl (by decide) rfl (fun ls hl => ?_)
          obtain ⟨n114, hw⟩ := hw
          exact LwlXm_kill_114 (A := A) (av := [.ref (q 0), .int p0]) ⟨hx, hb, hr, hml, hown, hta, hA, hK, hlocks⟩ n114 p0 r_111 0 M_112 _ _ _ hw hP hD hS (lv_sub hl [3, 4, 1, 0] rfl)
      · have hw := hw.2 c_85
        exact W.vret hx hb hr (fun t ht hW => ⟨⟨M_84, rfl, hw, by rw [ht]; exact hP, va_K.moved hW.alike hK, hD⟩, hS.F ht⟩) hS.2.2 dXm_kill_49 hlocks
def wpXm_restart (p0 : Int32) (M : Mm) (post : Mm → Prop) : Prop := wpXm_isThread p0 M (fun r_1 M_2 => (((r_1 = 0 → (wpXm_throwing 1 0 0 0 M_2 (fun r_48 M_49 => (((r_48 = 0 → (wpXm_free p0 M_49 (fun M_52 => (vp_in p0 8 ∧ (∀ M_54 : Mm, M_54 = stM M_52 14 (upd (M_52 14) p0.toNatClampNeg 0) → (vp_in p0 8 ∧ (∀ M_56 : Mm, M_56 = stM M_54 15 (upd (M_54 15) p0.toNatClampNeg 0) → (vp_in p0 8 ∧ (∀ M_58 : Mm, M_58 = stM M_56 16 (upd (M_56 16) p0.toNatClampNeg 0) → (vp_in p0 8 ∧ (∀ M_60 : Mm, M_60 = stM M_58 21 (upd (M_58 21) p0.toNatClampNeg 0) → (vp_in p0 8 ∧ (∀ M_62 : Mm, M_62 = stM M_60 27 (upd (M_60 27) p0.toNatClampNeg 0) → (vp_in p0 8 ∧ (∀ M_64 : Mm, M_64 = stM M_62 20 (upd (M_62 20) p0.toNatClampNeg 0) → (vp_in p0 8 ∧ (∀ M_66 : Mm, M_66 = stM M_64 17 (upd (M_64 17) p0.toNatClampNeg 0) → (post M_66)))))))))))))))))) ∧ (¬ r_48 = 0 → (post M_49))))))) ∧ (¬ r_1 = 0 → (vp_in p0 8 ∧ (∀ y_7 : Int32, y_7 = M_2 14 p0.toNatClampNeg → (((y_7 = 0 → (wpXm_throwing 0 1 0 0 M_2 (fun r_28 M_29 => (((r_28 = 0 → (wpXm_free p0 M_29 (fun M_32 => (vp_in p0 8 ∧ (∀ M_34 : Mm, M_34 = stM M_32 14 (upd (M_32 14) p0.toNatClampNeg 0) → (vp_in p0 8 ∧ (∀ M_36 : Mm, M_36 = stM M_34 15 (upd (M_34 15) p0.toNatClampNeg 0) → (vp_in p0 8 ∧ (∀ M_38 : Mm, M_38 = stM M_36 16 (upd (M_36 16) p0.toNatClampNeg 0) → (vp_in p0 8 ∧ (∀ M_40 : Mm, M_40 = stM M_38 21 (upd (M_38 21) p0.toNatClampNeg 0) → (vp_in p0 8 ∧ (∀ M_42 : Mm, M_42 = stM M_40 27 (upd (M_40 27) p0.toNatClampNeg 0) → (vp_in p0 8 ∧ (∀ M_44 : Mm, M_44 = stM M_42 20 (upd (M_42 20) p0.toNatClampNeg 0) → (vp_in p0 8 ∧ (∀ M_46 : Mm, M_46 = stM M_44 17 (upd (M_44 17) p0.toNatClampNeg 0) → (post M_46)))))))))))))))))) ∧ (¬ r_28 = 0 → (post M_29))))))) ∧ (¬ y_7 = 0 → (wpXm_throwing 0 0 0 0 M_2 (fun r_9 M_10 => (((r_9 = 0 → (wpXm_free p0 M_10 (fun M_13 => (vp_in p0 8 ∧ (∀ M_15 : Mm, M_15 = stM M_13 14 (upd (M_13 14) p0.toNatClampNeg 0) → (vp_in p0 8 ∧ (∀ M_17 : Mm, M_17 = stM M_15 15 (upd (M_15 15) p0.toNatClampNeg 0) → (vp_in p0 8 ∧ (∀ M_19 : Mm, M_19 = stM M_17 16 (upd (M_17 16) p0.toNatClampNeg 0) → (vp_in p0 8 ∧ (∀ M_21 : Mm, M_21 = stM M_19 21 (upd (M_19 21) p0.toNatClampNeg 0) → (vp_in p0 8 ∧ (∀ M_23 : Mm, M_23 = stM M_21 27 (upd (M_21 27) p0.toNatClampNeg 0) → (vp_in p0 8 ∧ (∀ M_25 : Mm, M_25 = stM M_23 20 (upd (M_23 20) p0.toNatClampNeg 0) → (vp_in p0 8 ∧ (∀ M_27 : Mm, M_27 = stM M_25 17 (upd (M_25 17) p0.toNatClampNeg 0) → (post M_27)))))))))))))))))) ∧ (¬ r_9 = 0 → (post M_10)))))))))))))))
set_option maxHeartbeats 4000000 in
set_option maxRecDepth 100000 in
theorem mtXm_restart (l : Launch) (dC : Nat → ClassId) (dI : Nat → Nat → Nat) (q : Nat → Nat) (dA : Nat → ClassId) (sz : Nat) (p0 : Int32) (M : Mm) (post : Mm → Prop) (hw : wpXm_restart p0 M post) : Met l yXm_restart (wsA yXm_restart cXm_restart 3 none) ({ frames := 2, cells := 0, slots := 0, locals := 42 }) (va_Pc [.ref (q 0), .int p0] (pW (dC, dI) vwCl (wM q dA) (tM dA) sz M)) (va_Qv post (bW (dC, dI) vwCl (wM q dA) (tM dA) (va_A (wM q dA M) sz)) (va_A (wM q dA M) sz)) 0 0 (va_A (wM q dA M) sz) := by
  refine Met.ofW (cc := cXm_restart) (maxL := 3) (ret := none) (by decide) rfl ?_
  intro p e s m args below meth c s₁ B hml hv
  obtain ⟨rfl, hsz, hP, hK, hD0⟩ := hv
  have hx := B.exec
  have hb := B.bytes
  have hr := B.returns
  have hts := atoms_spec (ws := (wsA yXm_restart cXm_restart 3 none)) B.pre
  have hta : ∀ w ∈ wsG, w.before _ s = true := fun w h => hts w (List.mem_cons_of_mem _ h)
  have hown : s.vm.findClass "ServiceThreadsModel" = some m.cls := findClass_of_methodNamed B.named
  have hlocks := B.notSynchronized
  subst hsz
  have hD := hD0.self (sz := s.heap.size)
  generalize hAe : va_A (wM q dA M) s.heap.size = A at hD ⊢
  have hA : ∀ q : Nat, s.heap.size ≤ q → A q := fun q h => by rw [← hAe]; exact Or.inr h
  have hS : va_S A s.heap s.heap [] := va_S.rf
  dsimp only [wpXm_restart] at hw
  have hl := lv_entry ([.ref (q 0), .int p0]) (n := 3) (Nat.le_of_ble_eq_true rfl)
  rw [lg_entry_eq]
  generalize (lg_sl ([.ref (q 0), .int p0]) ++ List.replicate (3 - (lg_sl ([.ref (q 0), .int p0])).length) Slot.unset).toArray = ls at hl ⊢
  have hl : lv_has ls 3 [(0, .ref (q 0)), (1, .int p0)] := hl
  refine lv_iload_n hx hb dXm_restart_0 rfl (lv_at hl 1 rfl) ?_
  refine cn_i (w := (wM q dA)) (M := M) (wM_ad q dA) (va_runS (As := [.int p0]) (rest := []) ⟨hx, hb, hml, hown, hta⟩ (mtXm_isThread l dC dI q dA s.heap.size p0 M _ hw) (va_cwS 1 hta (giS wt_658 wt_659 wt_7 wt_660) rfl rfl rfl (by decide +kernel) ⟨Nat.le_of_ble_eq_true rfl, Nat.le_of_ble_eq_true rfl⟩) ⟨pW_blind, pW_of hK hP hD⟩ rfl rfl hl.1 rfl (lv_room (Nat.le_of_ble_eq_true rfl)) dXm_restart_1 ⟨Nat.le_of_ble_eq_true rfl, Nat.le_of_ble_eq_true rfl⟩) hD hS hA (fun r_1 M_2 H locs hw hP hD hS => ?_)
  refine lv_if_ne (tgt := 11) hx hb dXm_restart_4 (by decide) (fun c_3 => ?_) (fun c_3 => ?_)
  · have hw := hw.2 c_3
    refine lv_iconst (v := 0) hx hb dXm_restart_11 (by decide) ?_
    refine lv_istore_n (lv' := [(2, .int 0), (0, .ref (q 0)), (1, .int p0)]) hx hb dXm_restart_12 rfl hl (by decide) rfl (fun ls hl => ?_)
    refine lv_aload_n hx hb dXm_restart_13 rfl (lv_at hl 1 rfl) ?_
    refine lv_iload_n hx hb dXm_restart_14 rfl (lv_at hl 0 rfl) ?_
    refine lv_iload_n hx hb dXm_restart_15 rfl (lv_at hl 0 rfl) ?_
    refine lv_if_ne (tgt := 40) hx hb dXm_restart_16 (by decide) (fun c_4 => absurd c_4 (by decide)) (fun c_4 => ?_)
    · skip
      refine lv_aload_n hx hb dXm_restart_19 rfl (lv_at hl 1 rfl) ?_
      refine va_get (D := (dC, dI)) (ci := 5) (v := .ref (q 5)) (C := "ServiceThreadsModel") (T := TXm) (N := 28) hx hb hta inXm hown hK hP 0 (wM_0 q dA M_2) rfl 7 (by decide) (hta _ wt_572) (fun _ h9 => h9) rfl dXm_restart_20 ?_
      refine lv_iload_n hx hb dXm_restart_23 rfl (lv_at hl 0 rfl) ?_
      refine lv_if_eq (tgt := 31) hx hb dXm_restart_24 (by decide) (fun c_5 => ?_) (fun c_5 => absurd c_5 (by decide))
      · skip
        refine lv_iload_n hx hb dXm_restart_31 rfl (lv_at hl 2 rfl) ?_
        obtain ⟨h_6, hw⟩ := hw
        refine ro_i (w := (wM q dA)) (M := M_2) hx hb hK hP 5 4 (wM_5 q dA M_2) rfl h_6 dXm_restart_32 (fun y_7 ey_7 => ?_)
        have hw := hw y_7 ey_7
        refine lv_if_ne (tgt := 40) hx hb dXm_restart_33 (by decide) (fun c_8 => ?_) (fun c_8 => ?_)
        · have hw := hw.2 c_8
          refine lv_iconst (v := 0) hx hb dXm_restart_40 (by decide) ?_
          refine lv_iconst (v := 0) hx hb dXm_restart_41 (by decide) ?_
          refine lv_iconst (v := 0) hx hb dXm_restart_42 (by decide) ?_
          refine cn_i (w := (wM q dA)) (M := M_2) (wM_ad q dA) (va_runV (As := [.int 0, .int 0, .int 0, .int 0]) (rest := []) ⟨hx, hb, hml, hown, hta⟩ (mtXm_throwing l dC dI q dA H.size 0 0 0 0 M_2 _ hw) (cwV 4 hta (giV wt_668 wt_670 ws_19 wt_7 wt_671) rfl rfl rfl (by decide +kernel) ⟨Nat.le_of_ble_eq_true rfl, Nat.le_of_ble_eq_true rfl⟩) ⟨pW_blind, va_recv hK hP (ci := 5) (q0 := 0) rfl (wM_0 q dA M_2), pW_of hK hP hD⟩ rfl rfl hl.1 rfl (lv_room (Nat.le_of_ble_eq_true rfl)) dXm_restart_43 ⟨Nat.le_of_ble_eq_true rfl, Nat.le_of_ble_eq_true rfl⟩) hD hS hA (fun r_9 M_10 H locs hw hP hD hS => ?_)
          refine lv_if_eq (tgt := 50) hx hb dXm_restart_46 (by decide) (fun c_11 => ?_) (fun c_11 => ?_)
          · have hw := hw.1 c_11
            refine lv_aload_n hx hb dXm_restart_50 rfl (lv_at hl 1 rfl) ?_
            refine lv_iload_n hx hb dXm_restart_51 rfl (lv_at hl 2 rfl) ?_
            refine cn_v (w := (wM q dA)) (M := M_10) (wM_ad q dA) (va_runV (As := [.int p0]) (rest := []) ⟨hx, hb, hml, hown, hta⟩ (mtXm_free l dC dI q dA H.size p0 M_10 _ hw) (cwV 1 hta (giV wt_688 wt_690 ws_21 wt_7 wt_691) rfl rfl rfl (by decide +kernel) ⟨Nat.le_of_ble_eq_true rfl, Nat.le_of_ble_eq_true rfl⟩) ⟨pW_blind, va_recv hK hP (ci := 5) (q0 := 0) rfl (wM_0 q dA M_10), pW_of hK hP hD⟩ rfl rfl hl.1 rfl (lv_room (Nat.le_of_ble_eq_true rfl)) dXm_restart_52 ⟨Nat.le_of_ble_eq_true rfl, Nat.le_of_ble_eq_true rfl⟩) hD hS hA (fun M_13 H locs hw hP hD hS => ?_)
            refine lv_aload_n hx hb dXm_restart_55 rfl (lv_at hl 1 rfl) ?_
            refine va_get (D := (dC, dI)) (ci := 5) (v := .ref (q 5)) (C := "ServiceThreadsModel") (T := TXm) (N := 28) hx hb hta inXm hown hK hP 0 (wM_0 q dA M_13) rfl 7 (by decide) (hta _ wt_572) (fun _ h9 => h9) rfl dXm_restart_56 ?_
            refine lv_iload_n hx hb dXm_restart_59 rfl (lv_at hl 2 rfl) ?_
            refine lv_iconst (v := 0) hx hb dXm_restart_60 (by decide) ?_
            obtain ⟨h_14, hw⟩ := hw
            refine wo_i (w := (wM q dA)) (M := M_13) hx hb hK hP hD hS 5 4 (wM_5 q dA M_13) (wM_s5 q dA M_13) rfl h_14 dXm_restart_61 (fun M_15 H locs eM_15 hP hD hS => ?_)
            have hw := hw M_15 eM_15
            refine lv_aload_n hx hb dXm_restart_62 rfl (lv_at hl 1 rfl) ?_
            refine va_get (D := (dC, dI)) (ci := 5) (v := .ref (q 6)) (C := "ServiceThreadsModel") (T := TXm) (N := 28) hx hb hta inXm hown hK hP 0 (wM_0 q dA M_15) rfl 8 (by decide) (hta _ wt_573) (fun _ h9 => h9) rfl dXm_restart_63 ?_
            refine lv_iload_n hx hb dXm_restart_66 rfl (lv_at hl 2 rfl) ?_
            refine lv_iconst (v := 0) hx hb dXm_restart_67 (by decide) ?_
            obtain ⟨h_16, hw⟩ := hw
            refine wo_i (w := (wM q dA)) (M := M_15) hx hb hK hP hD hS 6 5 (wM_6 q dA M_15) (wM_s6 q dA M_15) rfl h_16 dXm_restart_68 (fun M_17 H locs eM_17 hP hD hS => ?_)
            have hw := hw M_17 eM_17
            refine lv_aload_n hx hb dXm_restart_69 rfl (lv_at hl 1 rfl) ?_
            refine va_get (D := (dC, dI)) (ci := 5) (v := .ref (q 7)) (C := "ServiceThreadsModel") (T := TXm) (N := 28) hx hb hta inXm hown hK hP 0 (wM_0 q dA M_17) rfl 9 (by decide) (hta _ wt_574) (fun _ h9 => h9) rfl dXm_restart_70 ?_
            refine lv_iload_n hx hb dXm_restart_73 rfl (lv_at hl 2 rfl) ?_
            refine lv_iconst (v := 0) hx hb dXm_restart_74 (by decide) ?_
            obtain ⟨h_18, hw⟩ := hw
            refine wo_i (w := (wM q dA)) (M := M_17) hx hb hK hP hD hS 7 6 (wM_7 q dA M_17) (wM_s7 q dA M_17) rfl h_18 dXm_restart_75 (fun M_19 H locs eM_19 hP hD hS => ?_)
            have hw := hw M_19 eM_19
            refine lv_aload_n hx hb dXm_restart_76 rfl (lv_at hl 1 rfl) ?_
            refine va_get (D := (dC, dI)) (ci := 5) (v := .ref (q 11)) (C := "ServiceThreadsModel") (T := TXm) (N := 28) hx hb hta inXm hown hK hP 0 (wM_0 q dA M_19) rfl 13 (by decide) (hta _ wt_578) (fun _ h9 => h9) rfl dXm_restart_77 ?_
            refine lv_iload_n hx hb dXm_restart_80 rfl (lv_at hl 2 rfl) ?_
            refine lv_iconst (v := 0) hx hb dXm_restart_81 (by decide) ?_
            obtain ⟨h_20, hw⟩ := hw
            refine wo_z (w := (wM q dA)) (M := M_19) hx hb hK hP hD hS 11 10 (wM_11 q dA M_19) (wM_s11 q dA M_19) rfl (by decide) h_20 dXm_restart_82 (fun M_21 H locs eM_21 hP hD hS => ?_)
            have hw := hw M_21 eM_21
            refine lv_aload_n hx hb dXm_restart_83 rfl (lv_at hl 1 rfl) ?_
            refine va_get (D := (dC, dI)) (ci := 5) (v := .ref (q 12)) (C := "ServiceThreadsModel") (T := TXm) (N := 28) hx hb hta inXm hown hK hP 0 (wM_0 q dA M_21) rfl 14 (by decide) (hta _ wt_579) (fun _ h9 => h9) rfl dXm_restart_84 ?_
            refine lv_iload_n hx hb dXm_restart_87 rfl (lv_at hl 2 rfl) ?_
            refine lv_iconst (v := 0) hx hb dXm_restart_88 (by decide) ?_
            obtain ⟨h_22, hw⟩ := hw
            refine wo_z (w := (wM q dA)) (M := M_21) hx hb hK hP hD hS 12 11 (wM_12 q dA M_21) (wM_s12 q dA M_21) rfl (by decide) h_22 dXm_restart_89 (fun M_23 H locs eM_23 hP hD hS => ?_)
            have hw := hw M_23 eM_23
            refine lv_aload_n hx hb dXm_restart_90 rfl (lv_at hl 1 rfl) ?_
            refine va_get (D := (dC, dI)) (ci := 5) (v := .ref (q 13)) (C := "ServiceThreadsModel") (T := TXm) (N := 28) hx hb hta inXm hown hK hP 0 (wM_0 q dA M_23) rfl 15 (by decide) (hta _ wt_580) (fun _ h9 => h9) rfl dXm_restart_91 ?_
            refine lv_iload_n hx hb dXm_restart_94 rfl (lv_at hl 2 rfl) ?_
            refine lv_iconst (v := 0) hx hb dXm_restart_95 (by decide) ?_
            obtain ⟨h_24, hw⟩ := hw
            refine wo_z (w := (wM q dA)) (M := M_23) hx hb hK hP hD hS 13 12 (wM_13 q dA M_23) (wM_s13 q dA M_23) rfl (by decide) h_24 dXm_restart_96 (fun M_25 H locs eM_25 hP hD hS => ?_)
            have hw := hw M_25 eM_25
            refine lv_aload_n hx hb dXm_restart_97 rfl (lv_at hl 1 rfl) ?_
            refine va_get (D := (dC, dI)) (ci := 5) (v := .ref (q 9)) (C := "ServiceThreadsModel") (T := TXm) (N := 28) hx hb hta inXm hown hK hP 0 (wM_0 q dA M_25) rfl 11 (by decide) (hta _ wt_576) (fun _ h9 => h9) rfl dXm_restart_98 ?_
            refine lv_iload_n hx hb dXm_restart_101 rfl (lv_at hl 2 rfl) ?_
            refine lv_iconst (v := 0) hx hb dXm_restart_102 (by decide) ?_
            obtain ⟨h_26, hw⟩ := hw
            refine wo_i (w := (wM q dA)) (M := M_25) hx hb hK hP hD hS 9 8 (wM_9 q dA M_25) (wM_s9 q dA M_25) rfl h_26 dXm_restart_103 (fun M_27 H locs eM_27 hP hD hS => ?_)
            have hw := hw M_27 eM_27
            exact W.vret hx hb hr (fun t ht hW => ⟨⟨M_27, rfl, hw, by rw [ht]; exact hP, va_K.moved hW.alike hK, hD⟩, hS.F ht⟩) hS.2.2 dXm_restart_104 hlocks
          · have hw := hw.2 c_11
            exact W.vret hx hb hr (fun t ht hW => ⟨⟨M_10, rfl, hw, by rw [ht]; exact hP, va_K.moved hW.alike hK, hD⟩, hS.F ht⟩) hS.2.2 dXm_restart_49 hlocks
        · have hw := hw.1 c_8
          refine lv_iconst (v := 1) hx hb dXm_restart_36 (by decide) ?_
          refine lv_goto (tgt := 41) hx hb dXm_restart_37 (by decide) ?_
          refine lv_iconst (v := 0) hx hb dXm_restart_41 (by decide) ?_
          refine lv_iconst (v := 0) hx hb dXm_restart_42 (by decide) ?_
          refine cn_i (w := (wM q dA)) (M := M_2) (wM_ad q dA) (va_runV (As := [.int 0, .int 1, .int 0, .int 0]) (rest := []) ⟨hx, hb, hml, hown, hta⟩ (mtXm_throwing l dC dI q dA H.size 0 1 0 0 M_2 _ hw) (cwV 4 hta (giV wt_668 wt_670 ws_19 wt_7 wt_671) rfl rfl rfl (by decide +kernel) ⟨Nat.le_of_ble_eq_true rfl, Nat.le_of_ble_eq_true rfl⟩) ⟨pW_blind, va_recv hK hP (ci := 5) (q0 := 0) rfl (wM_0 q dA M_2), pW_of hK hP hD⟩ rfl rfl hl.1 rfl (lv_room (Nat.le_of_ble_eq_true rfl)) dXm_restart_43 ⟨Nat.le_of_ble_eq_true rfl, Nat.le_of_ble_eq_true rfl⟩) hD hS hA (fun r_28 M_29 H locs hw hP hD hS => ?_)
          refine lv_if_eq (tgt := 50) hx hb dXm_restart_46 (by decide) (fun c_30 => ?_) (fun c_30 => ?_)
          · have hw := hw.1 c_30
            refine lv_aload_n hx hb dXm_restart_50 rfl (lv_at hl 1 rfl) ?_
            refine lv_iload_n hx hb dXm_restart_51 rfl (lv_at hl 2 rfl) ?_
            refine cn_v (w := (wM q dA)) (M := M_29) (wM_ad q dA) (va_runV (As := [.int p0]) (rest := []) ⟨hx, hb, hml, hown, hta⟩ (mtXm_free l dC dI q dA H.size p0 M_29 _ hw) (cwV 1 hta (giV wt_688 wt_690 ws_21 wt_7 wt_691) rfl rfl rfl (by decide +kernel) ⟨Nat.le_of_ble_eq_true rfl, Nat.le_of_ble_eq_true rfl⟩) ⟨pW_blind, va_recv hK hP (ci := 5) (q0 := 0) rfl (wM_0 q dA M_29), pW_of hK hP hD⟩ rfl rfl hl.1 rfl (lv_room (Nat.le_of_ble_eq_true rfl)) dXm_restart_52 ⟨Nat.le_of_ble_eq_true rfl, Nat.le_of_ble_eq_true rfl⟩) hD hS hA (fun M_32 H locs hw hP hD hS => ?_)
            refine lv_aload_n hx hb dXm_restart_55 rfl (lv_at hl 1 rfl) ?_
            refine va_get (D := (dC, dI)) (ci := 5) (v := .ref (q 5)) (C := "ServiceThreadsModel") (T := TXm) (N := 28) hx hb hta inXm hown hK hP 0 (wM_0 q dA M_32) rfl 7 (by decide) (hta _ wt_572) (fun _ h9 => h9) rfl dXm_restart_56 ?_
            refine lv_iload_n hx hb dXm_restart_59 rfl (lv_at hl 2 rfl) ?_
            refine lv_iconst (v := 0) hx hb dXm_restart_60 (by decide) ?_
            obtain ⟨h_33, hw⟩ := hw
            refine wo_i (w := (wM q dA)) (M := M_32) hx hb hK hP hD hS 5 4 (wM_5 q dA M_32) (wM_s5 q dA M_32) rfl h_33 dXm_restart_61 (fun M_34 H locs eM_34 hP hD hS => ?_)
            have hw := hw M_34 eM_34
            refine lv_aload_n hx hb dXm_restart_62 rfl (lv_at hl 1 rfl) ?_
            refine va_get (D := (dC, dI)) (ci := 5) (v := .ref (q 6)) (C := "ServiceThreadsModel") (T := TXm) (N := 28) hx hb hta inXm hown hK hP 0 (wM_0 q dA M_34) rfl 8 (by decide) (hta _ wt_573) (fun _ h9 => h9) rfl dXm_restart_63 ?_
            refine lv_iload_n hx hb dXm_restart_66 rfl (lv_at hl 2 rfl) ?_
            refine lv_iconst (v := 0) hx hb dXm_restart_67 (by decide) ?_
            obtain ⟨h_35, hw⟩ := hw
            refine wo_i (w := (wM q dA)) (M := M_34) hx hb hK hP hD hS 6 5 (wM_6 q dA M_34) (wM_s6 q dA M_34) rfl h_35 dXm_restart_68 (fun M_36 H locs eM_36 hP hD hS => ?_)
            have hw := hw M_36 eM_36
            refine lv_aload_n hx hb dXm_restart_69 rfl (lv_at hl 1 rfl) ?_
            refine va_get (D := (dC, dI)) (ci := 5) (v := .ref (q 7)) (C := "ServiceThreadsModel") (T := TXm) (N := 28) hx hb hta inXm hown hK hP 0 (wM_0 q dA M_36) rfl 9 (by decide) (hta _ wt_574) (fun _ h9 => h9) rfl dXm_restart_70 ?_
            refine lv_iload_n hx hb dXm_restart_73 rfl (lv_at hl 2 rfl) ?_
            refine lv_iconst (v := 0) hx hb dXm_restart_74 (by decide) ?_
            obtain ⟨h_37, hw⟩ := hw
            refine wo_i (w := (wM q dA)) (M := M_36) hx hb hK hP hD hS 7 6 (wM_7 q dA M_36) (wM_s7 q dA M_36) rfl h_37 dXm_restart_75 (fun M_38 H locs eM_38 hP hD hS => ?_)
            have hw := hw M_38 eM_38
            refine lv_aload_n hx hb dXm_restart_76 rfl (lv_at hl 1 rfl) ?_
            refine va_get (D := (dC, dI)) (ci := 5) (v := .ref (q 11)) (C := "ServiceThreadsModel") (T := TXm) (N := 28) hx hb hta inXm hown hK hP 0 (wM_0 q dA M_38) rfl 13 (by decide) (hta _ wt_578) (fun _ h9 => h9) rfl dXm_restart_77 ?_
            refine lv_iload_n hx hb dXm_restart_80 rfl (lv_at hl 2 rfl) ?_
            refine lv_iconst (v := 0) hx hb dXm_restart_81 (by decide) ?_
            obtain ⟨h_39, hw⟩ := hw
            refine wo_z (w := (wM q dA)) (M := M_38) hx hb hK hP hD hS 11 10 (wM_11 q dA M_38) (wM_s11 q dA M_38) rfl (by decide) h_39 dXm_restart_82 (fun M_40 H locs eM_40 hP hD hS => ?_)
            have hw := hw M_40 eM_40
            refine lv_aload_n hx hb dXm_restart_83 rfl (lv_at hl 1 rfl) ?_
            refine va_get (D := (dC, dI)) (ci := 5) (v := .ref (q 12)) (C := "ServiceThreadsModel") (T := TXm) (N := 28) hx hb hta inXm hown hK hP 0 (wM_0 q dA M_40) rfl 14 (by decide) (hta _ wt_579) (fun _ h9 => h9) rfl dXm_restart_84 ?_
            refine lv_iload_n hx hb dXm_restart_87 rfl (lv_at hl 2 rfl) ?_
            refine lv_iconst (v := 0) hx hb dXm_restart_88 (by decide) ?_
            obtain ⟨h_41, hw⟩ := hw
            refine wo_z (w := (wM q dA)) (M := M_40) hx hb hK hP hD hS 12 11 (wM_12 q dA M_40) (wM_s12 q dA M_40) rfl (by decide) h_41 dXm_restart_89 (fun M_42 H locs eM_42 hP hD hS => ?_)
            have hw := hw M_42 eM_42
            refine lv_aload_n hx hb dXm_restart_90 rfl (lv_at hl 1 rfl) ?_
            refine va_get (D := (dC, dI)) (ci := 5) (v := .ref (q 13)) (C := "ServiceThreadsModel") (T := TXm) (N := 28) hx hb hta inXm hown hK hP 0 (wM_0 q dA M_42) rfl 15 (by decide) (hta _ wt_580) (fun _ h9 => h9) rfl dXm_restart_91 ?_
            refine lv_iload_n hx hb dXm_restart_94 rfl (lv_at hl 2 rfl) ?_
            refine lv_iconst (v := 0) hx hb dXm_restart_95 (by decide) ?_
            obtain ⟨h_43, hw⟩ := hw
            refine wo_z (w := (wM q dA)) (M := M_42) hx hb hK hP hD hS 13 12 (wM_13 q dA M_42) (wM_s13 q dA M_42) rfl (by decide) h_43 dXm_restart_96 (fun M_44 H locs eM_44 hP hD hS => ?_)
            have hw := hw M_44 eM_44
            refine lv_aload_n hx hb dXm_restart_97 rfl (lv_at hl 1 rfl) ?_
            refine va_get (D := (dC, dI)) (ci := 5) (v := .ref (q 9)) (C := "ServiceThreadsModel") (T := TXm) (N := 28) hx hb hta inXm hown hK hP 0 (wM_0 q dA M_44) rfl 11 (by decide) (hta _ wt_576) (fun _ h9 => h9) rfl dXm_restart_98 ?_
            refine lv_iload_n hx hb dXm_restart_101 rfl (lv_at hl 2 rfl) ?_
            refine lv_iconst (v := 0) hx hb dXm_restart_102 (by decide) ?_
            obtain ⟨h_45, hw⟩ := hw
            refine wo_i (w := (wM q dA)) (M := M_44) hx hb hK hP hD hS 9 8 (wM_9 q dA M_44) (wM_s9 q dA M_44) rfl h_45 dXm_restart_103 (fun M_46 H locs eM_46 hP hD hS => ?_)
            have hw := hw M_46 eM_46
            exact W.vret hx hb hr (fun t ht hW => ⟨⟨M_46, rfl, hw, by rw [ht]; exact hP, va_K.moved hW.alike hK, hD⟩, hS.F ht⟩) hS.2.2 dXm_restart_104 hlocks
          · have hw := hw.2 c_30
            exact W.vret hx hb hr (fun t ht hW => ⟨⟨M_29, rfl, hw, by rw [ht]; exact hP, va_K.moved hW.alike hK, hD⟩, hS.F ht⟩) hS.2.2 dXm_restart_49 hlocks
  · have hw := hw.1 c_3
    refine lv_iconst (v := 1) hx hb dXm_restart_7 (by decide) ?_
    refine lv_goto (tgt := 12) hx hb dXm_restart_8 (by decide) ?_
    refine lv_istore_n (lv' := [(2, .int 1), (0, .ref (q 0)), (1, .int p0)]) hx hb dXm_restart_12 rfl hl (by decide) rfl (fun ls hl => ?_)
    refine lv_aload_n hx hb dXm_restart_13 rfl (lv_at hl 1 rfl) ?_
    refine lv_iload_n hx hb dXm_restart_14 rfl (lv_at hl 0 rfl) ?_
    refine lv_iload_n hx hb dXm_restart_15 rfl (lv_at hl 0 rfl) ?_
    refine lv_if_ne (tgt := 40) hx hb dXm_restart_16 (by decide) (fun c_47 => ?_) (fun c_47 => absurd c_47 (by decide))
    · skip
      refine lv_iconst (v := 0) hx hb dXm_restart_40 (by decide) ?_
      refine lv_iconst (v := 0) hx hb dXm_restart_41 (by decide) ?_
      refine lv_iconst (v := 0) hx hb dXm_restart_42 (by decide) ?_
      refine cn_i (w := (wM q dA)) (M := M_2) (wM_ad q dA) (va_runV (As := [.int 1, .int 0, .int 0, .int 0]) (rest := []) ⟨hx, hb, hml, hown, hta⟩ (mtXm_throwing l dC dI q dA H.size 1 0 0 0 M_2 _ hw) (cwV 4 hta (giV wt_668 wt_670 ws_19 wt_7 wt_671) rfl rfl rfl (by decide +kernel) ⟨Nat.le_of_ble_eq_true rfl, Nat.le_of_ble_eq_true rfl⟩) ⟨pW_blind, va_recv hK hP (ci := 5) (q0 := 0) rfl (wM_0 q dA M_2), pW_of hK hP hD⟩ rfl rfl hl.1 rfl (lv_room (Nat.le_of_ble_eq_true rfl)) dXm_restart_43 ⟨Nat.le_of_ble_eq_true rfl, Nat.le_of_ble_eq_true rfl⟩) hD hS hA (fun r_48 M_49 H locs hw hP hD hS => ?_)
      refine lv_if_eq (tgt := 50) hx hb dXm_restart_46 (by decide) (fun c_50 => ?_) (fun c_50 => ?_)
      · have hw := hw.1 c_50
        refine lv_aload_n hx hb dXm_restart_50 rfl (lv_at hl 1 rfl) ?_
        refine lv_iload_n hx hb dXm_restart_51 rfl (lv_at hl 2 rfl) ?_
        refine cn_v (w := (wM q dA)) (M := M_49) (wM_ad q dA) (va_runV (As := [.int p0]) (rest := []) ⟨hx, hb, hml, hown, hta⟩ (mtXm_free l dC dI q dA H.size p0 M_49 _ hw) (cwV 1 hta (giV wt_688 wt_690 ws_21 wt_7 wt_691) rfl rfl rfl (by decide +kernel) ⟨Nat.le_of_ble_eq_true rfl, Nat.le_of_ble_eq_true rfl⟩) ⟨pW_blind, va_recv hK hP (ci := 5) (q0 := 0) rfl (wM_0 q dA M_49), pW_of hK hP hD⟩ rfl rfl hl.1 rfl (lv_room (Nat.le_of_ble_eq_true rfl)) dXm_restart_52 ⟨Nat.le_of_ble_eq_true rfl, Nat.le_of_ble_eq_true rfl⟩) hD hS hA (fun M_52 H locs hw hP hD hS => ?_)
        refine lv_aload_n hx hb dXm_restart_55 rfl (lv_at hl 1 rfl) ?_
        refine va_get (D := (dC, dI)) (ci := 5) (v := .ref (q 5)) (C := "ServiceThreadsModel") (T := TXm) (N := 28) hx hb hta inXm hown hK hP 0 (wM_0 q dA M_52) rfl 7 (by decide) (hta _ wt_572) (fun _ h9 => h9) rfl dXm_restart_56 ?_
        refine lv_iload_n hx hb dXm_restart_59 rfl (lv_at hl 2 rfl) ?_
        refine lv_iconst (v := 0) hx hb dXm_restart_60 (by decide) ?_
        obtain ⟨h_53, hw⟩ := hw
        refine wo_i (w := (wM q dA)) (M := M_52) hx hb hK hP hD hS 5 4 (wM_5 q dA M_52) (wM_s5 q dA M_52) rfl h_53 dXm_restart_61 (fun M_54 H locs eM_54 hP hD hS => ?_)
        have hw := hw M_54 eM_54
        refine lv_aload_n hx hb dXm_restart_62 rfl (lv_at hl 1 rfl) ?_
        refine va_get (D := (dC, dI)) (ci := 5) (v := .ref (q 6)) (C := "ServiceThreadsModel") (T := TXm) (N := 28) hx hb hta inXm hown hK hP 0 (wM_0 q dA M_54) rfl 8 (by decide) (hta _ wt_573) (fun _ h9 => h9) rfl dXm_restart_63 ?_
        refine lv_iload_n hx hb dXm_restart_66 rfl (lv_at hl 2 rfl) ?_
        refine lv_iconst (v := 0) hx hb dXm_restart_67 (by decide) ?_
        obtain ⟨h_55, hw⟩ := hw
        refine wo_i (w := (wM q dA)) (M := M_54) hx hb hK hP hD hS 6 5 (wM_6 q dA M_54) (wM_s6 q dA M_54) rfl h_55 dXm_restart_68 (fun M_56 H locs eM_56 hP hD hS => ?_)
        have hw := hw M_56 eM_56
        refine lv_aload_n hx hb dXm_restart_69 rfl (lv_at hl 1 rfl) ?_
        refine va_get (D := (dC, dI)) (ci := 5) (v := .ref (q 7)) (C := "ServiceThreadsModel") (T := TXm) (N := 28) hx hb hta inXm hown hK hP 0 (wM_0 q dA M_56) rfl 9 (by decide) (hta _ wt_574) (fun _ h9 => h9) rfl dXm_restart_70 ?_
        refine lv_iload_n hx hb dXm_restart_73 rfl (lv_at hl 2 rfl) ?_
        refine lv_iconst (v := 0) hx hb dXm_restart_74 (by decide) ?_
        obtain ⟨h_57, hw⟩ := hw
        refine wo_i (w := (wM q dA)) (M := M_56) hx hb hK hP hD hS 7 6 (wM_7 q dA M_56) (wM_s7 q dA M_56) rfl h_57 dXm_restart_75 (fun M_58 H locs eM_58 hP hD hS => ?_)
        have hw := hw M_58 eM_58
        refine lv_aload_n hx hb dXm_restart_76 rfl (lv_at hl 1 rfl) ?_
        refine va_get (D := (dC, dI)) (ci := 5) (v := .ref (q 11)) (C := "ServiceThreadsModel") (T := TXm) (N := 28) hx hb hta inXm hown hK hP 0 (wM_0 q dA M_58) rfl 13 (by decide) (hta _ wt_578) (fun _ h9 => h9) rfl dXm_restart_77 ?_
        refine lv_iload_n hx hb dXm_restart_80 rfl (lv_at hl 2 rfl) ?_
        refine lv_iconst (v := 0) hx hb dXm_restart_81 (by decide) ?_
        obtain ⟨h_59, hw⟩ := hw
        refine wo_z (w := (wM q dA)) (M := M_58) hx hb hK hP hD hS 11 10 (wM_11 q dA M_58) (wM_s11 q dA M_58) rfl (by decide) h_59 dXm_restart_82 (fun M_60 H locs eM_60 hP hD hS => ?_)
        have hw := hw M_60 eM_60
        refine lv_aload_n hx hb dXm_restart_83 rfl (lv_at hl 1 rfl) ?_
        refine va_get (D := (dC, dI)) (ci := 5) (v := .ref (q 12)) (C := "ServiceThreadsModel") (T := TXm) (N := 28) hx hb hta inXm hown hK hP 0 (wM_0 q dA M_60) rfl 14 (by decide) (hta _ wt_579) (fun _ h9 => h9) rfl dXm_restart_84 ?_
        refine lv_iload_n hx hb dXm_restart_87 rfl (lv_at hl 2 rfl) ?_
        refine lv_iconst (v := 0) hx hb dXm_restart_88 (by decide) ?_
        obtain ⟨h_61, hw⟩ := hw
        refine wo_z (w := (wM q dA)) (M := M_60) hx hb hK hP hD hS 12 11 (wM_12 q dA M_60) (wM_s12 q dA M_60) rfl (by decide) h_61 dXm_restart_89 (fun M_62 H locs eM_62 hP hD hS => ?_)
        have hw := hw M_62 eM_62
        refine lv_aload_n hx hb dXm_restart_90 rfl (lv_at hl 1 rfl) ?_
        refine va_get (D := (dC, dI)) (ci := 5) (v := .ref (q 13)) (C := "ServiceThreadsModel") (T := TXm) (N := 28) hx hb hta inXm hown hK hP 0 (wM_0 q dA M_62) rfl 15 (by decide) (hta _ wt_580) (fun _ h9 => h9) rfl dXm_restart_91 ?_
        refine lv_iload_n hx hb dXm_restart_94 rfl (lv_at hl 2 rfl) ?_
        refine lv_iconst (v := 0) hx hb dXm_restart_95 (by decide) ?_
        obtain ⟨h_63, hw⟩ := hw
        refine wo_z (w := (wM q dA)) (M := M_62) hx hb hK hP hD hS 13 12 (wM_13 q dA M_62) (wM_s13 q dA M_62) rfl (by decide) h_63 dXm_restart_96 (fun M_64 H locs eM_64 hP hD hS => ?_)
        have hw := hw M_64 eM_64
        refine lv_aload_n hx hb dXm_restart_97 rfl (lv_at hl 1 rfl) ?_
        refine va_get (D := (dC, dI)) (ci := 5) (v := .ref (q 9)) (C := "ServiceThreadsModel") (T := TXm) (N := 28) hx hb hta inXm hown hK hP 0 (wM_0 q dA M_64) rfl 11 (by decide) (hta _ wt_576) (fun _ h9 => h9) rfl dXm_restart_98 ?_
        refine lv_iload_n hx hb dXm_restart_101 rfl (lv_at hl 2 rfl) ?_
        refine lv_iconst (v := 0) hx hb dXm_restart_102 (by decide) ?_
        obtain ⟨h_65, hw⟩ := hw
        refine wo_i (w := (wM q dA)) (M := M_64) hx hb hK hP hD hS 9 8 (wM_9 q dA M_64) (wM_s9 q dA M_64) rfl h_65 dXm_restart_103 (fun M_66 H locs eM_66 hP hD hS => ?_)
        have hw := hw M_66 eM_66
        exact W.vret hx hb hr (fun t ht hW => ⟨⟨M_66, rfl, hw, by rw [ht]; exact hP, va_K.moved hW.alike hK, hD⟩, hS.F ht⟩) hS.2.2 dXm_restart_104 hlocks
      · have hw := hw.2 c_50
        exact W.vret hx hb hr (fun t ht hW => ⟨⟨M_49, rfl, hw, by rw [ht]; exact hP, va_K.moved hW.alike hK, hD⟩, hS.F ht⟩) hS.2.2 dXm_restart_49 hlocks
