def wpXm_lease (p0 : Int32) (M : Mm) (post : Mm → Prop) : Prop := wpXm_in p0 0 100 M (fun r_1 M_2 => (((r_1 = 0 → (wpXm_throwing 1 0 0 0 M_2 (fun r_8 M_9 => (((r_8 = 0 → (∀ M_11 : Mm, M_11 = stM M_9 25 (fun _ => p0) → (post M_11))) ∧ (¬ r_8 = 0 → (post M_9))))))) ∧ (¬ r_1 = 0 → (wpXm_throwing 0 0 0 0 M_2 (fun r_4 M_5 => (((r_4 = 0 → (∀ M_7 : Mm, M_7 = stM M_5 25 (fun _ => p0) → (post M_7))) ∧ (¬ r_4 = 0 → (post M_5))))))))))
set_option maxHeartbeats 4000000 in
set_option maxRecDepth 100000 in
theorem mtXm_lease (l : Launch) (dC : Nat → ClassId) (dI : Nat → Nat → Nat) (q : Nat → Nat) (dA : Nat → ClassId) (sz : Nat) (p0 : Int32) (M : Mm) (post : Mm → Prop) (hw : wpXm_lease p0 M post) : Met l yXm_lease (wsA yXm_lease cXm_lease 2 none) ({ frames := 1, cells := 0, slots := 0, locals := 24 }) (va_Pc [.ref (q 0), .int p0] (pW (dC, dI) vwCl (wM q dA) (tM dA) sz M)) (va_Qv post (bW (dC, dI) vwCl (wM q dA) (tM dA) (va_A (wM q dA M) sz)) (va_A (wM q dA M) sz)) 0 0 (va_A (wM q dA M) sz) := by
  refine Met.ofW (cc := cXm_lease) (maxL := 2) (ret := none) (by decide) rfl ?_
  intro p e s m args below meth c s₁ B hml hv
  obtain ⟨rfl, hsz, hP, hK, hD0⟩ := hv
  have hx := B.exec
  have hb := B.bytes
  have hr := B.returns
  have hts := atoms_spec (ws := (wsA yXm_lease cXm_lease 2 none)) B.pre
  have hta : ∀ w ∈ wsG, w.before _ s = true := fun w h => hts w (List.mem_cons_of_mem _ h)
  have hown : s.vm.findClass "ServiceThreadsModel" = some m.cls := findClass_of_methodNamed B.named
  have hlocks := B.notSynchronized
  subst hsz
  have hD := hD0.self (sz := s.heap.size)
  generalize hAe : va_A (wM q dA M) s.heap.size = A at hD ⊢
  have hA : ∀ q : Nat, s.heap.size ≤ q → A q := fun q h => by rw [← hAe]; exact Or.inr h
  have hS : va_S A s.heap s.heap [] := va_S.rf
  dsimp only [wpXm_lease] at hw
  have hl := lv_entry ([.ref (q 0), .int p0]) (n := 2) (Nat.le_of_ble_eq_true rfl)
  rw [lg_entry_eq]
  generalize (lg_sl ([.ref (q 0), .int p0]) ++ List.replicate (2 - (lg_sl ([.ref (q 0), .int p0])).length) Slot.unset).toArray = ls at hl ⊢
  have hl : lv_has ls 2 [(0, .ref (q 0)), (1, .int p0)] := hl
  refine lv_aload_n hx hb dXm_lease_0 rfl (lv_at hl 0 rfl) ?_
  refine lv_iload_n hx hb dXm_lease_1 rfl (lv_at hl 1 rfl) ?_
  refine lv_iconst (v := 0) hx hb dXm_lease_2 (by decide) ?_
  refine lv_bipush (v := 100) hx hb dXm_lease_3 (by decide) ?_
  refine cn_i (w := (wM q dA)) (M := M) (wM_ad q dA) (va_runS (As := [.int p0, .int 0, .int 100]) (rest := [.ref (q 0)]) ⟨hx, hb, hml, hown, hta⟩ (mtXm_in l dC dI q dA s.heap.size p0 0 100 M _ hw) (va_cwS 3 hta (giS wt_661 wt_662 wt_7 wt_663) rfl rfl rfl (by decide +kernel) ⟨Nat.le_of_ble_eq_true rfl, Nat.le_of_ble_eq_true rfl⟩) ⟨pW_blind, pW_of hK hP hD⟩ rfl rfl hl.1 rfl (lv_room (Nat.le_of_ble_eq_true rfl)) dXm_lease_5 ⟨Nat.le_of_ble_eq_true rfl, Nat.le_of_ble_eq_true rfl⟩) hD hS hA (fun r_1 M_2 H locs hw hP hD hS => ?_)
  refine lv_if_ne (tgt := 15) hx hb dXm_lease_8 (by decide) (fun c_3 => ?_) (fun c_3 => ?_)
  · have hw := hw.2 c_3
    refine lv_iconst (v := 0) hx hb dXm_lease_15 (by decide) ?_
    refine lv_iconst (v := 0) hx hb dXm_lease_16 (by decide) ?_
    refine lv_iconst (v := 0) hx hb dXm_lease_17 (by decide) ?_
    refine lv_iconst (v := 0) hx hb dXm_lease_18 (by decide) ?_
    refine cn_i (w := (wM q dA)) (M := M_2) (wM_ad q dA) (va_runV (As := [.int 0, .int 0, .int 0, .int 0]) (rest := []) ⟨hx, hb, hml, hown, hta⟩ (mtXm_throwing l dC dI q dA H.size 0 0 0 0 M_2 _ hw) (cwV 4 hta (giV wt_668 wt_670 ws_19 wt_7 wt_671) rfl rfl rfl (by decide +kernel) ⟨Nat.le_of_ble_eq_true rfl, Nat.le_of_ble_eq_true rfl⟩) ⟨pW_blind, va_recv hK hP (ci := 5) (q0 := 0) rfl (wM_0 q dA M_2), pW_of hK hP hD⟩ rfl rfl hl.1 rfl (lv_room (Nat.le_of_ble_eq_true rfl)) dXm_lease_19 ⟨Nat.le_of_ble_eq_true rfl, Nat.le_of_ble_eq_true rfl⟩) hD hS hA (fun r_4 M_5 H locs hw hP hD hS => ?_)
    refine lv_if_eq (tgt := 26) hx hb dXm_lease_22 (by decide) (fun c_6 => ?_) (fun c_6 => ?_)
    · have hw := hw.1 c_6
      refine lv_aload_n hx hb dXm_lease_26 rfl (lv_at hl 0 rfl) ?_
      refine lv_iload_n hx hb dXm_lease_27 rfl (lv_at hl 1 rfl) ?_
      refine va_put (D := (dC, dI)) (ci := 5) (v := .int p0) (ty := .int) (C := "ServiceThreadsModel") (T := TXm) (N := 28) hx hb hta inXm tyXm tyXm_ok nmXm hown hK hP hD hS 0 (wM_0 q dA M_5) rfl 2 (by decide) (hta _ wt_567) (fun _ h9 => h9) rfl (by decide +kernel) rfl rfl (Nat.le_of_ble_eq_true rfl) dXm_lease_28 (fun H locs hP hD hS => ?_)
      obtain ⟨M_7, eM_7⟩ : ∃ y : Mm, y = stM M_5 25 (fun _ => p0) := ⟨_, rfl⟩
      have hP : va_P (dC, dI) vwCl (wM q dA M_7) H := by rw [eM_7]; exact hP
      have hD : va_D A (wM q dA M_7) := by rw [eM_7]; exact hD
      have hw := hw M_7 eM_7
      exact W.vret hx hb hr (fun t ht hW => ⟨⟨M_7, rfl, hw, by rw [ht]; exact hP, va_K.moved hW.alike hK, hD⟩, hS.F ht⟩) hS.2.2 dXm_lease_31 hlocks
    · have hw := hw.2 c_6
      exact W.vret hx hb hr (fun t ht hW => ⟨⟨M_5, rfl, hw, by rw [ht]; exact hP, va_K.moved hW.alike hK, hD⟩, hS.F ht⟩) hS.2.2 dXm_lease_25 hlocks
  · have hw := hw.1 c_3
    refine lv_iconst (v := 1) hx hb dXm_lease_11 (by decide) ?_
    refine lv_goto (tgt := 16) hx hb dXm_lease_12 (by decide) ?_
    refine lv_iconst (v := 0) hx hb dXm_lease_16 (by decide) ?_
    refine lv_iconst (v := 0) hx hb dXm_lease_17 (by decide) ?_
    refine lv_iconst (v := 0) hx hb dXm_lease_18 (by decide) ?_
    refine cn_i (w := (wM q dA)) (M := M_2) (wM_ad q dA) (va_runV (As := [.int 1, .int 0, .int 0, .int 0]) (rest := []) ⟨hx, hb, hml, hown, hta⟩ (mtXm_throwing l dC dI q dA H.size 1 0 0 0 M_2 _ hw) (cwV 4 hta (giV wt_668 wt_670 ws_19 wt_7 wt_671) rfl rfl rfl (by decide +kernel) ⟨Nat.le_of_ble_eq_true rfl, Nat.le_of_ble_eq_true rfl⟩) ⟨pW_blind, va_recv hK hP (ci := 5) (q0 := 0) rfl (wM_0 q dA M_2), pW_of hK hP hD⟩ rfl rfl hl.1 rfl (lv_room (Nat.le_of_ble_eq_true rfl)) dXm_lease_19 ⟨Nat.le_of_ble_eq_true rfl, Nat.le_of_ble_eq_true rfl⟩) hD hS hA (fun r_8 M_9 H locs hw hP hD hS => ?_)
    refine lv_if_eq (tgt := 26) hx hb dXm_lease_22 (by decide) (fun c_10 => ?_) (fun c_10 => ?_)
    · have hw := hw.1 c_10
      refine lv_aload_n hx hb dXm_lease_26 rfl (lv_at hl 0 rfl) ?_
      refine lv_iload_n hx hb dXm_lease_27 rfl (lv_at hl 1 rfl) ?_
      refine va_put (D := (dC, dI)) (ci := 5) (v := .int p0) (ty := .int) (C := "ServiceThreadsModel") (T := TXm) (N := 28) hx hb hta inXm tyXm tyXm_ok nmXm hown hK hP hD hS 0 (wM_0 q dA M_9) rfl 2 (by decide) (hta _ wt_567) (fun _ h9 => h9) rfl (by decide +kernel) rfl rfl (Nat.le_of_ble_eq_true rfl) dXm_lease_28 (fun H locs hP hD hS => ?_)
      obtain ⟨M_11, eM_11⟩ : ∃ y : Mm, y = stM M_9 25 (fun _ => p0) := ⟨_, rfl⟩
      have hP : va_P (dC, dI) vwCl (wM q dA M_11) H := by rw [eM_11]; exact hP
      have hD : va_D A (wM q dA M_11) := by rw [eM_11]; exact hD
      have hw := hw M_11 eM_11
      exact W.vret hx hb hr (fun t ht hW => ⟨⟨M_11, rfl, hw, by rw [ht]; exact hP, va_K.moved hW.alike hK, hD⟩, hS.F ht⟩) hS.2.2 dXm_lease_31 hlocks
    · have hw := hw.2 c_10
      exact W.vret hx hb hr (fun t ht hW => ⟨⟨M_9, rfl, hw, by rw [ht]; exact hP, va_K.moved hW.alike hK, hD⟩, hS.F ht⟩) hS.2.2 dXm_lease_25 hlocks
def wlXm_close_9 (post : Int32 → Mm → Prop) : Nat → Int32 → Int32 → Mm → Prop
  | 0, _, _ => fun _ => False
  | n9 + 1, x1, x2 => fun M => ((8 ≤ x2 → (post x1 M)) ∧ (¬ 8 ≤ x2 → (vp_in x2 8 ∧ (∀ y_4 : Int32, y_4 = M 14 x2.toNatClampNeg → (((y_4 = 0 → (wpXm_end x2 M (fun M_10 => (wpXm_drop x2 M_10 (fun M_12 => (vp_in x2 8 ∧ (∀ M_14 : Mm, M_14 = stM M_12 27 (upd (M_12 27) x2.toNatClampNeg 0) → (vp_in x2 8 ∧ (∀ M_16 : Mm, M_16 = stM M_14 20 (upd (M_14 20) x2.toNatClampNeg 0) → (vp_in x2 8 ∧ (∀ M_18 : Mm, M_18 = stM M_16 17 (upd (M_16 17) x2.toNatClampNeg 0) → (∀ x1_19 : Int32, x1_19 = x1 + 1 → (wpXm_free x2 M_18 (fun M_21 => (∀ x2_22 : Int32, x2_22 = x2 + 1 → (wlXm_close_9 post n9 x1_19 x2_22 M_21)))))))))))))))) ∧ (¬ y_4 = 0 → (wpXm_free x2 M (fun M_7 => (∀ x2_8 : Int32, x2_8 = x2 + 1 → (wlXm_close_9 post n9 x1 x2_8 M_7)))))))))))
def wpXm_close (M : Mm) (post : Int32 → Mm → Prop) : Prop := ∀ M_1 : Mm, M_1 = stM M 26 (fun _ => 0) → (∃ n9 : Nat, wlXm_close_9 post n9 0 0 M_1)
set_option maxHeartbeats 4000000 in
set_option maxRecDepth 100000 in
theorem LwlXm_close_9 {p : Program} {l : Launch} {e : Env} {s : State} {m : MethodId} {below : List Frame} {meth : Method} {c : Code} {dC : Nat → ClassId} {dI : Nat → Nat → Nat} {q : Nat → Nat} {dA : Nat → ClassId} {A : Nat → Prop} {av : List Value} {post : Int32 → Mm → Prop} (CX : p.tables.exec = Jvm.exec ∧ c.code = cXm_close ∧ meth.sig.returnType = (some .int) ∧ c.maxLocals = 3 ∧ s.vm.findClass "ServiceThreadsModel" = some m.cls ∧ (∀ w ∈ wsG, w.before av.toArray s = true) ∧ (∀ q : Nat, s.heap.size ≤ q → A q) ∧ va_K (dC, dI) vwCl (tM dA) s ∧ meth.locks = false) : ∀ (n9 : Nat) (x1 : Int32) (x2 : Int32) (M : Mm) (H : Heap) (locs : List Loc) (ls : Array Slot), wlXm_close_9 post n9 x1 x2 M → va_P (dC, dI) vwCl (wM q dA M) H → va_D A (wM q dA M) → va_S A s.heap H locs → lv_has ls 3 [(0, .ref (q 0)), (1, .int x1), (2, .int x2)] → W p l e (headSpec (wsA yXm_close cXm_close 3 (some .int)) ({ frames := 2, cells := 0, slots := 0, locals := 43 })).room s m av.toArray below meth c H locs 0 0 (MQ below (va_Qi post (bW (dC, dI) vwCl (wM q dA) (tM dA) A) A) av.toArray s 0 0 A) (F0 m 9 ls []) := by
  obtain ⟨hx, hb, hr, hml, hown, hta, hA, hK, hlocks⟩ := CX
  intro n9
  induction n9 with
  | zero =>
    intro x1 x2 M H locs ls hw
    exact False.elim hw
  | succ n9 ih9 =>
    intro x1 x2 M H locs ls hw hP hD hS hl
    dsimp only [wlXm_close_9] at hw
    refine lv_iload_n hx hb dXm_close_9 rfl (lv_at hl 2 rfl) ?_
    refine lv_bipush (v := 8) hx hb dXm_close_10 (by decide) ?_
    refine lv_icmp_ge (tgt := 69) hx hb dXm_close_12 (by decide) (fun c_2 => ?_) (fun c_2 => ?_)
    · have hw := hw.1 c_2
      refine lv_iload_n hx hb dXm_close_69 rfl (lv_at hl 1 rfl) ?_
      exact W.iret (v := x1) hx hb hr (fun t ht hW => ⟨⟨x1, M, rfl, hw, by rw [ht]; exact hP, va_K.moved hW.alike hK, hD⟩, hS.F ht⟩) hS.2.2 dXm_close_70 hlocks
    · have hw := hw.2 c_2
      refine lv_aload_n hx hb dXm_close_15 rfl (lv_at hl 0 rfl) ?_
      refine va_get (D := (dC, dI)) (ci := 5) (v := .ref (q 5)) (C := "ServiceThreadsModel") (T := TXm) (N := 28) hx hb hta inXm hown hK hP 0 (wM_0 q dA M) rfl 7 (by decide) (hta _ wt_572) (fun _ h9 => h9) rfl dXm_close_16 ?_
      refine lv_iload_n hx hb dXm_close_19 rfl (lv_at hl 2 rfl) ?_
      obtain ⟨h_3, hw⟩ := hw
      refine ro_i (w := (wM q dA)) (M := M) hx hb hK hP 5 4 (wM_5 q dA M) rfl h_3 dXm_close_20 (fun y_4 ey_4 => ?_)
      have hw := hw y_4 ey_4
      refine lv_if_ne (tgt := 58) hx hb dXm_close_21 (by decide) (fun c_5 => ?_) (fun c_5 => ?_)
      · have hw := hw.2 c_5
        refine lv_aload_n hx hb dXm_close_58 rfl (lv_at hl 0 rfl) ?_
        refine lv_iload_n hx hb dXm_close_59 rfl (lv_at hl 2 rfl) ?_
        refine cn_v (w := (wM q dA)) (M := M) (wM_ad q dA) (va_runV (As := [.int x2]) (rest := []) ⟨hx, hb, hml, hown, hta⟩ (mtXm_free l dC dI q dA H.size x2 M _ hw) (cwV 1 hta (giV wt_688 wt_690 ws_21 wt_7 wt_691) rfl rfl rfl (by decide +kernel) ⟨Nat.le_of_ble_eq_true rfl, Nat.le_of_ble_eq_true rfl⟩) ⟨pW_blind, va_recv hK hP (ci := 5) (q0 := 0) rfl (wM_0 q dA M), pW_of hK hP hD⟩ rfl rfl hl.1 rfl (lv_room (Nat.le_of_ble_eq_true rfl)) dXm_close_60 ⟨Nat.le_of_ble_eq_true rfl, Nat.le_of_ble_eq_true rfl⟩) hD hS hA (fun M_7 H locs hw hP hD hS => ?_)
        obtain ⟨x2_8, ex2_8⟩ : ∃ y : Int32, y = x2 + 1 := ⟨_, rfl⟩
        have hw := hw x2_8 ex2_8
        refine lv_iinc (v := x2_8) (lv' := [(2, .int x2_8), (0, .ref (q 0)), (1, .int x1)]) hx hb dXm_close_63 hl (k := 2) rfl (by rw [ex2_8]; rfl) (by decide) rfl (fun ls hl => ?_)
        refine lv_goto (tgt := 9) hx hb dXm_close_66 (by decide) ?_
        exact ih9 x1 x2_8 M_7 _ _ _ hw hP hD hS (lv_sub hl [1, 2, 0] rfl)
      · have hw := hw.1 c_5
        refine lv_aload_n hx hb dXm_close_24 rfl (lv_at hl 0 rfl) ?_
        refine lv_iload_n hx hb dXm_close_25 rfl (lv_at hl 2 rfl) ?_
        refine cn_v (w := (wM q dA)) (M := M) (wM_ad q dA) (va_runV (As := [.int x2]) (rest := []) ⟨hx, hb, hml, hown, hta⟩ (mtXm_end l dC dI q dA H.size x2 M _ hw) (cwV 1 hta (giV wt_692 wt_694 ws_22 wt_7 wt_695) rfl rfl rfl (by decide +kernel) ⟨Nat.le_of_ble_eq_true rfl, Nat.le_of_ble_eq_true rfl⟩) ⟨pW_blind, va_recv hK hP (ci := 5) (q0 := 0) rfl (wM_0 q dA M), pW_of hK hP hD⟩ rfl rfl hl.1 rfl (lv_room (Nat.le_of_ble_eq_true rfl)) dXm_close_26 ⟨Nat.le_of_ble_eq_true rfl, Nat.le_of_ble_eq_true rfl⟩) hD hS hA (fun M_10 H locs hw hP hD hS => ?_)
        refine lv_aload_n hx hb dXm_close_29 rfl (lv_at hl 0 rfl) ?_
        refine lv_iload_n hx hb dXm_close_30 rfl (lv_at hl 2 rfl) ?_
        refine cn_v (w := (wM q dA)) (M := M_10) (wM_ad q dA) (va_runV (As := [.int x2]) (rest := []) ⟨hx, hb, hml, hown, hta⟩ (mtXm_drop l dC dI q dA H.size x2 M_10 _ hw) (cwV 1 hta (giV wt_708 wt_710 ws_26 wt_7 wt_711) rfl rfl rfl (by decide +kernel) ⟨Nat.le_of_ble_eq_true rfl, Nat.le_of_ble_eq_true rfl⟩) ⟨pW_blind, va_recv hK hP (ci := 5) (q0 := 0) rfl (wM_0 q dA M_10), pW_of hK hP hD⟩ rfl rfl hl.1 rfl (lv_room (Nat.le_of_ble_eq_true rfl)) dXm_close_31 ⟨Nat.le_of_ble_eq_true rfl, Nat.le_of_ble_eq_true rfl⟩) hD hS hA (fun M_12 H locs hw hP hD hS => ?_)
        refine lv_aload_n hx hb dXm_close_34 rfl (lv_at hl 0 rfl) ?_
        refine va_get (D := (dC, dI)) (ci := 5) (v := .ref (q 12)) (C := "ServiceThreadsModel") (T := TXm) (N := 28) hx hb hta inXm hown hK hP 0 (wM_0 q dA M_12) rfl 14 (by decide) (hta _ wt_579) (fun _ h9 => h9) rfl dXm_close_35 ?_
        refine lv_iload_n hx hb dXm_close_38 rfl (lv_at hl 2 rfl) ?_
        refine lv_iconst (v := 0) hx hb dXm_close_39 (by decide) ?_
        obtain ⟨h_13, hw⟩ := hw
        refine wo_z (w := (wM q dA)) (M := M_12) hx hb hK hP hD hS 12 11 (wM_12 q dA M_12) (wM_s12 q dA M_12) rfl (by decide) h_13 dXm_close_40 (fun M_14 H locs eM_14 hP hD hS => ?_)
        have hw := hw M_14 eM_14
        refine lv_aload_n hx hb dXm_close_41 rfl (lv_at hl 0 rfl) ?_
        refine va_get (D := (dC, dI)) (ci := 5) (v := .ref (q 13)) (C := "ServiceThreadsModel") (T := TXm) (N := 28) hx hb hta inXm hown hK hP 0 (wM_0 q dA M_14) rfl 15 (by decide) (hta _ wt_580) (fun _ h9 => h9) rfl dXm_close_42 ?_
        refine lv_iload_n hx hb dXm_close_45 rfl (lv_at hl 2 rfl) ?_
        refine lv_iconst (v := 0) hx hb dXm_close_46 (by decide) ?_
        obtain ⟨h_15, hw⟩ := hw
        refine wo_z (w := (wM q dA)) (M := M_14) hx hb hK hP hD hS 13 12 (wM_13 q dA M_14) (wM_s13 q dA M_14) rfl (by decide) h_15 dXm_close_47 (fun M_16 H locs eM_16 hP hD hS => ?_)
        have hw := hw M_16 eM_16
        refine lv_aload_n hx hb dXm_close_48 rfl (lv_at hl 0 rfl) ?_
        refine va_get (D := (dC, dI)) (ci := 5) (v := .ref (q 9)) (C := "ServiceThreadsModel") (T := TXm) (N := 28) hx hb hta inXm hown hK hP 0 (wM_0 q dA M_16) rfl 11 (by decide) (hta _ wt_576) (fun _ h9 => h9) rfl dXm_close_49 ?_
        refine lv_iload_n hx hb dXm_close_52 rfl (lv_at hl 2 rfl) ?_
        refine lv_iconst (v := 0) hx hb dXm_close_53 (by decide) ?_
        obtain ⟨h_17, hw⟩ := hw
        refine wo_i (w := (wM q dA)) (M := M_16) hx hb hK hP hD hS 9 8 (wM_9 q dA M_16) (wM_s9 q dA M_16) rfl h_17 dXm_close_54 (fun M_18 H locs eM_18 hP hD hS => ?_)
        have hw := hw M_18 eM_18
        obtain ⟨x1_19, ex1_19⟩ : ∃ y : Int32, y = x1 + 1 := ⟨_, rfl⟩
        have hw := hw x1_19 ex1_19
        refine lv_iinc (v := x1_19) (lv' := [(1, .int x1_19), (0, .ref (q 0)), (2, .int x2)]) hx hb dXm_close_55 hl (k := 1) rfl (by rw [ex1_19]; rfl) (by decide) rfl (fun ls hl => ?_)
        refine lv_aload_n hx hb dXm_close_58 rfl (lv_at hl 1 rfl) ?_
        refine lv_iload_n hx hb dXm_close_59 rfl (lv_at hl 2 rfl) ?_
        refine cn_v (w := (wM q dA)) (M := M_18) (wM_ad q dA) (va_runV (As := [.int x2]) (rest := []) ⟨hx, hb, hml, hown, hta⟩ (mtXm_free l dC dI q dA H.size x2 M_18 _ hw) (cwV 1 hta (giV wt_688 wt_690 ws_21 wt_7 wt_691) rfl rfl rfl (by decide +kernel) ⟨Nat.le_of_ble_eq_true rfl, Nat.le_of_ble_eq_true rfl⟩) ⟨pW_blind, va_recv hK hP (ci := 5) (q0 := 0) rfl (wM_0 q dA M_18), pW_of hK hP hD⟩ rfl rfl hl.1 rfl (lv_room (Nat.le_of_ble_eq_true rfl)) dXm_close_60 ⟨Nat.le_of_ble_eq_true rfl, Nat.le_of_ble_eq_true rfl⟩) hD hS hA (fun M_21 H locs hw hP hD hS => ?_)
        obtain ⟨x2_22, ex2_22⟩ : ∃ y : Int32, y = x2 + 1 := ⟨_, rfl⟩
        have hw := hw x2_22 ex2_22
        refine lv_iinc (v := x2_22) (lv' := [(2, .int x2_22), (1, .int x1_19), (0, .ref (q 0))]) hx hb dXm_close_63 hl (k := 2) rfl (by rw [ex2_22]; rfl) (by decide) rfl (fun ls hl => ?_)
        refine lv_goto (tgt := 9) hx hb dXm_close_66 (by decide) ?_
        exact ih9 x1_19 x2_22 M_21 _ _ _ hw hP hD hS (lv_sub hl [2, 1, 0] rfl)
set_option maxHeartbeats 4000000 in
set_option maxRecDepth 100000 in
theorem mtXm_close (l : Launch) (dC : Nat → ClassId) (dI : Nat → Nat → Nat) (q : Nat → Nat) (dA : Nat → ClassId) (sz : Nat) (M : Mm) (post : Int32 → Mm → Prop) (hw : wpXm_close M post) : Met l yXm_close (wsA yXm_close cXm_close 3 (some .int)) ({ frames := 2, cells := 0, slots := 0, locals := 43 }) (va_Pc [.ref (q 0)] (pW (dC, dI) vwCl (wM q dA) (tM dA) sz M)) (va_Qi post (bW (dC, dI) vwCl (wM q dA) (tM dA) (va_A (wM q dA M) sz)) (va_A (wM q dA M) sz)) 0 0 (va_A (wM q dA M) sz) := by
  refine Met.ofW (cc := cXm_close) (maxL := 3) (ret := (some .int)) (by decide) rfl ?_
  intro p e s m args below meth c s₁ B hml hv
  obtain ⟨rfl, hsz, hP, hK, hD0⟩ := hv
  have hx := B.exec
  have hb := B.bytes
  have hr := B.returns
  have hts := atoms_spec (ws := (wsA yXm_close cXm_close 3 (some .int))) B.pre
  have hta : ∀ w ∈ wsG, w.before _ s = true := fun w h => hts w (List.mem_cons_of_mem _ h)
  have hown : s.vm.findClass "ServiceThreadsModel" = some m.cls := findClass_of_methodNamed B.named
  have hlocks := B.notSynchronized
  subst hsz
  have hD := hD0.self (sz := s.heap.size)
  generalize hAe : va_A (wM q dA M) s.heap.size = A at hD ⊢
  have hA : ∀ q : Nat, s.heap.size ≤ q → A q := fun q h => by rw [← hAe]; exact Or.inr h
  have hS : va_S A s.heap s.heap [] := va_S.rf
  dsimp only [wpXm_close] at hw
  have hl := lv_entry ([.ref (q 0)]) (n := 3) (Nat.le_of_ble_eq_true rfl)
  rw [lg_entry_eq]
  generalize (lg_sl ([.ref (q 0)]) ++ List.replicate (3 - (lg_sl ([.ref (q 0)])).length) Slot.unset).toArray = ls at hl ⊢
  have hl : lv_has ls 3 [(0, .ref (q 0))] := hl
  refine lv_aload_n hx hb dXm_close_0 rfl (lv_at hl 0 rfl) ?_
  refine lv_iconst (v := 0) hx hb dXm_close_1 (by decide) ?_
  refine va_put (D := (dC, dI)) (ci := 5) (v := .int 0) (ty := .int) (C := "ServiceThreadsModel") (T := TXm) (N := 28) hx hb hta inXm tyXm tyXm_ok nmXm hown hK hP hD hS 0 (wM_0 q dA M) rfl 0 (by decide) (hta _ wt_565) (fun _ h9 => h9) rfl (by decide +kernel) rfl rfl (Nat.le_of_ble_eq_true rfl) dXm_close_2 (fun H locs hP hD hS => ?_)
  obtain ⟨M_1, eM_1⟩ : ∃ y : Mm, y = stM M 26 (fun _ => 0) := ⟨_, rfl⟩
  have hP : va_P (dC, dI) vwCl (wM q dA M_1) H := by rw [eM_1]; exact hP
  have hD : va_D A (wM q dA M_1) := by rw [eM_1]; exact hD
  have hw := hw M_1 eM_1
  refine lv_iconst (v := 0) hx hb dXm_close_5 (by decide) ?_
  refine lv_istore_n (lv' := [(1, .int 0), (0, .ref (q 0))]) hx hb dXm_close_6 rfl hl (by decide) rfl (fun ls hl => ?_)
  refine lv_iconst (v := 0) hx hb dXm_close_7 (by decide) ?_
  refine lv_istore_n (lv' := [(2, .int 0), (1, .int 0), (0, .ref (q 0))]) hx hb dXm_close_8 rfl hl (by decide) rfl (fun ls hl => ?_)
  obtain ⟨n9, hw⟩ := hw
  exact LwlXm_close_9 (A := A) (av := [.ref (q 0)]) ⟨hx, hb, hr, hml, hown, hta, hA, hK, hlocks⟩ n9 0 0 M_1 _ _ _ hw hP hD hS (lv_sub hl [2, 1, 0] rfl)
def wpXm_unit (p0 : Int32) (p1 : Int32) (M : Mm) (post : Int32 → Mm → Prop) : Prop := wpXm_in p0 0 9 M (fun r_1 M_2 => (((r_1 = 0 → (wpXm_throwing 1 0 0 0 M_2 (fun r_4 M_5 => (((r_4 = 0 → (((p1 = 0 → (vp_in p0 10 ∧ (∀ y_11 : Int32, y_11 = M_5 4 p0.toNatClampNeg → (post y_11 M_5)))) ∧ (¬ p1 = 0 → (vp_in p0 10 ∧ (∀ y_9 : Int32, y_9 = M_5 5 p0.toNatClampNeg → (post y_9 M_5))))))) ∧ (¬ r_4 = 0 → (post 0 M_5))))))) ∧ (¬ r_1 = 0 → (wpXm_in p1 0 1 M_2 (fun r_12 M_13 => (((r_12 = 0 → (wpXm_throwing 1 0 0 0 M_13 (fun r_23 M_24 => (((r_23 = 0 → (((p1 = 0 → (vp_in p0 10 ∧ (∀ y_30 : Int32, y_30 = M_24 4 p0.toNatClampNeg → (post y_30 M_24)))) ∧ (¬ p1 = 0 → (vp_in p0 10 ∧ (∀ y_28 : Int32, y_28 = M_24 5 p0.toNatClampNeg → (post y_28 M_24))))))) ∧ (¬ r_23 = 0 → (post 0 M_24))))))) ∧ (¬ r_12 = 0 → (wpXm_throwing 0 0 0 0 M_13 (fun r_15 M_16 => (((r_15 = 0 → (((p1 = 0 → (vp_in p0 10 ∧ (∀ y_22 : Int32, y_22 = M_16 4 p0.toNatClampNeg → (post y_22 M_16)))) ∧ (¬ p1 = 0 → (vp_in p0 10 ∧ (∀ y_20 : Int32, y_20 = M_16 5 p0.toNatClampNeg → (post y_20 M_16))))))) ∧ (¬ r_15 = 0 → (post 0 M_16)))))))))))))))
set_option maxHeartbeats 4000000 in
set_option maxRecDepth 100000 in
theorem mtXm_unit (l : Launch) (dC : Nat → ClassId) (dI : Nat → Nat → Nat) (q : Nat → Nat) (dA : Nat → ClassId) (sz : Nat) (p0 : Int32) (p1 : Int32) (M : Mm) (post : Int32 → Mm → Prop) (hw : wpXm_unit p0 p1 M post) : Met l yXm_unit (wsA yXm_unit cXm_unit 3 (some .int)) ({ frames := 1, cells := 0, slots := 0, locals := 24 }) (va_Pc [.ref (q 0), .int p0, .int p1] (pW (dC, dI) vwCl (wM q dA) (tM dA) sz M)) (va_Qi post (bW (dC, dI) vwCl (wM q dA) (tM dA) (va_A (wM q dA M) sz)) (va_A (wM q dA M) sz)) 0 0 (va_A (wM q dA M) sz) := by
  refine Met.ofW (cc := cXm_unit) (maxL := 3) (ret := (some .int)) (by decide) rfl ?_
  intro p e s m args below meth c s₁ B hml hv
  obtain ⟨rfl, hsz, hP, hK, hD0⟩ := hv
  have hx := B.exec
  have hb := B.bytes
  have hr := B.returns
  have hts := atoms_spec (ws := (wsA yXm_unit cXm_unit 3 (some .int))) B.pre
  have hta : ∀ w ∈ wsG, w.before _ s = true := fun w h => hts w (List.mem_cons_of_mem _ h)
  have hown : s.vm.findClass "ServiceThreadsModel" = some m.cls := findClass_of_methodNamed B.named
  have hlocks := B.notSynchronized
  subst hsz
  have hD := hD0.self (sz := s.heap.size)
  generalize hAe : va_A (wM q dA M) s.heap.size = A at hD ⊢
  have hA : ∀ q : Nat, s.heap.size ≤ q → A q := fun q h => by rw [← hAe]; exact Or.inr h
  have hS : va_S A s.heap s.heap [] := va_S.rf
  dsimp only [wpXm_unit] at hw
  have hl := lv_entry ([.ref (q 0), .int p0, .int p1]) (n := 3) (Nat.le_of_ble_eq_true rfl)
  rw [lg_entry_eq]
  generalize (lg_sl ([.ref (q 0), .int p0, .int p1]) ++ List.replicate (3 - (lg_sl ([.ref (q 0), .int p0, .int p1])).length) Slot.unset).toArray = ls at hl ⊢
  have hl : lv_has ls 3 [(0, .ref (q 0)), (1, .int p0), (2, .int p1)] := hl
  refine lv_aload_n hx hb dXm_unit_0 rfl (lv_at hl 0 rfl) ?_
  refine lv_iload_n hx hb dXm_unit_1 rfl (lv_at hl 1 rfl) ?_
  refine lv_iconst (v := 0) hx hb dXm_unit_2 (by decide) ?_
  refine lv_bipush (v := 9) hx hb dXm_unit_3 (by decide) ?_
  refine cn_i (w := (wM q dA)) (M := M) (wM_ad q dA) (va_runS (As := [.int p0, .int 0, .int 9]) (rest := [.ref (q 0)]) ⟨hx, hb, hml, hown, hta⟩ (mtXm_in l dC dI q dA s.heap.size p0 0 9 M _ hw) (va_cwS 3 hta (giS wt_661 wt_662 wt_7 wt_663) rfl rfl rfl (by decide +kernel) ⟨Nat.le_of_ble_eq_true rfl, Nat.le_of_ble_eq_true rfl⟩) ⟨pW_blind, pW_of hK hP hD⟩ rfl rfl hl.1 rfl (lv_room (Nat.le_of_ble_eq_true rfl)) dXm_unit_5 ⟨Nat.le_of_ble_eq_true rfl, Nat.le_of_ble_eq_true rfl⟩) hD hS hA (fun r_1 M_2 H locs hw hP hD hS => ?_)
  refine lv_if_eq (tgt := 20) hx hb dXm_unit_8 (by decide) (fun c_3 => ?_) (fun c_3 => ?_)
  · have hw := hw.1 c_3
    refine lv_iconst (v := 1) hx hb dXm_unit_20 (by decide) ?_
    refine lv_goto (tgt := 25) hx hb dXm_unit_21 (by decide) ?_
    refine lv_iconst (v := 0) hx hb dXm_unit_25 (by decide) ?_
    refine lv_iconst (v := 0) hx hb dXm_unit_26 (by decide) ?_
    refine lv_iconst (v := 0) hx hb dXm_unit_27 (by decide) ?_
    refine cn_i (w := (wM q dA)) (M := M_2) (wM_ad q dA) (va_runV (As := [.int 1, .int 0, .int 0, .int 0]) (rest := []) ⟨hx, hb, hml, hown, hta⟩ (mtXm_throwing l dC dI q dA H.size 1 0 0 0 M_2 _ hw) (cwV 4 hta (giV wt_668 wt_670 ws_19 wt_7 wt_671) rfl rfl rfl (by decide +kernel) ⟨Nat.le_of_ble_eq_true rfl, Nat.le_of_ble_eq_true rfl⟩) ⟨pW_blind, va_recv hK hP (ci := 5) (q0 := 0) rfl (wM_0 q dA M_2), pW_of hK hP hD⟩ rfl rfl hl.1 rfl (lv_room (Nat.le_of_ble_eq_true rfl)) dXm_unit_28 ⟨Nat.le_of_ble_eq_true rfl, Nat.le_of_ble_eq_true rfl⟩) hD hS hA (fun r_4 M_5 H locs hw hP hD hS => ?_)
    refine lv_if_eq (tgt := 36) hx hb dXm_unit_31 (by decide) (fun c_6 => ?_) (fun c_6 => ?_)
    · have hw := hw.1 c_6
      refine lv_iload_n hx hb dXm_unit_36 rfl (lv_at hl 2 rfl) ?_
      refine lv_if_ne (tgt := 49) hx hb dXm_unit_37 (by decide) (fun c_7 => ?_) (fun c_7 => ?_)
      · have hw := hw.2 c_7
        refine lv_aload_n hx hb dXm_unit_49 rfl (lv_at hl 0 rfl) ?_
        refine va_get (D := (dC, dI)) (ci := 5) (v := .ref (q 15)) (C := "ServiceThreadsModel") (T := TXm) (N := 28) hx hb hta inXm hown hK hP 0 (wM_0 q dA M_5) rfl 17 (by decide) (hta _ wt_582) (fun _ h9 => h9) rfl dXm_unit_50 ?_
        refine lv_iload_n hx hb dXm_unit_53 rfl (lv_at hl 1 rfl) ?_
        obtain ⟨h_8, hw⟩ := hw
        refine ro_i (w := (wM q dA)) (M := M_5) hx hb hK hP 15 14 (wM_15 q dA M_5) rfl h_8 dXm_unit_54 (fun y_9 ey_9 => ?_)
        have hw := hw y_9 ey_9
        exact W.iret (v := y_9) hx hb hr (fun t ht hW => ⟨⟨y_9, M_5, rfl, hw, by rw [ht]; exact hP, va_K.moved hW.alike hK, hD⟩, hS.F ht⟩) hS.2.2 dXm_unit_55 hlocks
      · have hw := hw.1 c_7
        refine lv_aload_n hx hb dXm_unit_40 rfl (lv_at hl 0 rfl) ?_
        refine va_get (D := (dC, dI)) (ci := 5) (v := .ref (q 14)) (C := "ServiceThreadsModel") (T := TXm) (N := 28) hx hb hta inXm hown hK hP 0 (wM_0 q dA M_5) rfl 16 (by decide) (hta _ wt_581) (fun _ h9 => h9) rfl dXm_unit_41 ?_
        refine lv_iload_n hx hb dXm_unit_44 rfl (lv_at hl 1 rfl) ?_
        obtain ⟨h_10, hw⟩ := hw
        refine ro_i (w := (wM q dA)) (M := M_5) hx hb hK hP 14 13 (wM_14 q dA M_5) rfl h_10 dXm_unit_45 (fun y_11 ey_11 => ?_)
        have hw := hw y_11 ey_11
        refine lv_goto (tgt := 55) hx hb dXm_unit_46 (by decide) ?_
        exact W.iret (v := y_11) hx hb hr (fun t ht hW => ⟨⟨y_11, M_5, rfl, hw, by rw [ht]; exact hP, va_K.moved hW.alike hK, hD⟩, hS.F ht⟩) hS.2.2 dXm_unit_55 hlocks
    · have hw := hw.2 c_6
      refine lv_iconst (v := 0) hx hb dXm_unit_34 (by decide) ?_
      exact W.iret (v := 0) hx hb hr (fun t ht hW => ⟨⟨0, M_5, rfl, hw, by rw [ht]; exact hP, va_K.moved hW.alike hK, hD⟩, hS.F ht⟩) hS.2.2 dXm_unit_35 hlocks
  · have hw := hw.2 c_3
    refine lv_iload_n hx hb dXm_unit_11 rfl (lv_at hl 2 rfl) ?_
    refine lv_iconst (v := 0) hx hb dXm_unit_12 (by decide) ?_
    refine lv_iconst (v := 1) hx hb dXm_unit_13 (by decide) ?_
    refine cn_i (w := (wM q dA)) (M := M_2) (wM_ad q dA) (va_runS (As := [.int p1, .int 0, .int 1]) (rest := [.ref (q 0)]) ⟨hx, hb, hml, hown, hta⟩ (mtXm_in l dC dI q dA H.size p1 0 1 M_2 _ hw) (va_cwS 3 hta (giS wt_661 wt_662 wt_7 wt_663) rfl rfl rfl (by decide +kernel) ⟨Nat.le_of_ble_eq_true rfl, Nat.le_of_ble_eq_true rfl⟩) ⟨pW_blind, pW_of hK hP hD⟩ rfl rfl hl.1 rfl (lv_room (Nat.le_of_ble_eq_true rfl)) dXm_unit_14 ⟨Nat.le_of_ble_eq_true rfl, Nat.le_of_ble_eq_true rfl⟩) hD hS hA (fun r_12 M_13 H locs hw hP hD hS => ?_)
    refine lv_if_ne (tgt := 24) hx hb dXm_unit_17 (by decide) (fun c_14 => ?_) (fun c_14 => ?_)
    · have hw := hw.2 c_14
      refine lv_iconst (v := 0) hx hb dXm_unit_24 (by decide) ?_
      refine lv_iconst (v := 0) hx hb dXm_unit_25 (by decide) ?_
      refine lv_iconst (v := 0) hx hb dXm_unit_26 (by decide) ?_
      refine lv_iconst (v := 0) hx hb dXm_unit_27 (by decide) ?_
      refine cn_i (w := (wM q dA)) (M := M_13) (wM_ad q dA) (va_runV (As := [.int 0, .int 0, .int 0, .int 0]) (rest := []) ⟨hx, hb, hml, hown, hta⟩ (mtXm_throwing l dC dI q dA H.size 0 0 0 0 M_13 _ hw) (cwV 4 hta (giV wt_668 wt_670 ws_19 wt_7 wt_671) rfl rfl rfl (by decide +kernel) ⟨Nat.le_of_ble_eq_true rfl, Nat.le_of_ble_eq_true rfl⟩) ⟨pW_blind, va_recv hK hP (ci := 5) (q0 := 0) rfl (wM_0 q dA M_13), pW_of hK hP hD⟩ rfl rfl hl.1 rfl (lv_room (Nat.le_of_ble_eq_true rfl)) dXm_unit_28 ⟨Nat.le_of_ble_eq_true rfl, Nat.le_of_ble_eq_true rfl⟩) hD hS hA (fun r_15 M_16 H locs hw hP hD hS => ?_)
      refine lv_if_eq (tgt := 36) hx hb dXm_unit_31 (by decide) (fun c_17 => ?_) (fun c_17 => ?_)
      · have hw := hw.1 c_17
        refine lv_iload_n hx hb dXm_unit_36 rfl (lv_at hl 2 rfl) ?_
        refine lv_if_ne (tgt := 49) hx hb dXm_unit_37 (by decide) (fun c_18 => ?_) (fun c_18 => ?_)
        · have hw := hw.2 c_18
          refine lv_aload_n hx hb dXm_unit_49 rfl (lv_at hl 0 rfl) ?_
          refine va_get (D := (dC, dI)) (ci := 5) (v := .ref (q 15)) (C := "ServiceThreadsModel") (T := TXm) (N := 28) hx hb hta inXm hown hK hP 0 (wM_0 q dA M_16) rfl 17 (by decide) (hta _ wt_582) (fun _ h9 => h9) rfl dXm_unit_50 ?_
          refine lv_iload_n hx hb dXm_unit_53 rfl (lv_at hl 1 rfl) ?_
          obtain ⟨h_19, hw⟩ := hw
          refine ro_i (w := (wM q dA)) (M := M_16) hx hb hK hP 15 14 (wM_15 q dA M_16) rfl h_19 dXm_unit_54 (fun y_20 ey_20 => ?_)
          have hw := hw y_20 ey_20
          exact W.iret (v := y_20) hx hb hr (fun t ht hW => ⟨⟨y_20, M_16, rfl, hw, by rw [ht]; exact hP, va_K.moved hW.alike hK, hD⟩, hS.F ht⟩) hS.2.2 dXm_unit_55 hlocks
        · have hw := hw.1 c_18
          refine lv_aload_n hx hb dXm_unit_40 rfl (lv_at hl 0 rfl) ?_
          refine va_get (D := (dC, dI)) (ci := 5) (v := .ref (q 14)) (C := "ServiceThreadsModel") (T := TXm) (N := 28) hx hb hta inXm hown hK hP 0 (wM_0 q dA M_16) rfl 16 (by decide) (hta _ wt_581) (fun _ h9 => h9) rfl dXm_unit_41 ?_
          refine lv_iload_n hx hb dXm_unit_44 rfl (lv_at hl 1 rfl) ?_
          obtain ⟨h_21, hw⟩ := hw
          refine ro_i (w := (wM q dA)) (M := M_16) hx hb hK hP 14 13 (wM_14 q dA M_16) rfl h_21 dXm_unit_45 (fun y_22 ey_22 => ?_)
          have hw := hw y_22 ey_22
          refine lv_goto (tgt := 55) hx hb dXm_unit_46 (by decide) ?_
          exact W.iret (v := y_22) hx hb hr (fun t ht hW => ⟨⟨y_22, M_16, rfl, hw, by rw [ht]; exact hP, va_K.moved hW.alike hK, hD⟩, hS.F ht⟩) hS.2.2 dXm_unit_55 hlocks
      · have hw := hw.2 c_17
        refine lv_iconst (v := 0) hx hb dXm_unit_34 (by decide) ?_
        exact W.iret (v := 0) hx hb hr (fun t ht hW => ⟨⟨0, M_16, rfl, hw, by rw [ht]; exact hP, va_K.moved hW.alike hK, hD⟩, hS.F ht⟩) hS.2.2 dXm_unit_35 hlocks
    · have hw := hw.1 c_14
      refine lv_iconst (v := 1) hx hb dXm_unit_20 (by decide) ?_
      refine lv_goto (tgt := 25) hx hb dXm_unit_21 (by decide) ?_
      refine lv_iconst (v := 0) hx hb dXm_unit_25 (by decide) ?_
      refine lv_iconst (v := 0) hx hb dXm_unit_26 (by decide) ?_
      refine lv_iconst (v := 0) hx hb dXm_unit_27 (by decide) ?_
      refine cn_i (w := (wM q dA)) (M := M_13) (wM_ad q dA) (va_runV (As := [.int 1, .int 0, .int 0, .int 0]) (rest := []) ⟨hx, hb, hml, hown, hta⟩ (mtXm_throwing l dC dI q dA H.size 1 0 0 0 M_13 _ hw) (cwV 4 hta (giV wt_668 wt_670 ws_19 wt_7 wt_671) rfl rfl rfl (by decide +kernel) ⟨Nat.le_of_ble_eq_true rfl, Nat.le_of_ble_eq_true rfl⟩) ⟨pW_blind, va_recv hK hP (ci := 5) (q0 := 0) rfl (wM_0 q dA M_13), pW_of hK hP hD⟩ rfl rfl hl.1 rfl (lv_room (Nat.le_of_ble_eq_true rfl)) dXm_unit_28 ⟨Nat.le_of_ble_eq_true rfl, Nat.le_of_ble_eq_true rfl⟩) hD hS hA (fun r_23 M_24 H locs hw hP hD hS => ?_)
      refine lv_if_eq (tgt := 36) hx hb dXm_unit_31 (by decide) (fun c_25 => ?_) (fun c_25 => ?_)
      · have hw := hw.1 c_25
        refine lv_iload_n hx hb dXm_unit_36 rfl (lv_at hl 2 rfl) ?_
        refine lv_if_ne (tgt := 49) hx hb dXm_unit_37 (by decide) (fun c_26 => ?_) (fun c_26 => ?_)
        · have hw := hw.2 c_26
          refine lv_aload_n hx hb dXm_unit_49 rfl (lv_at hl 0 rfl) ?_
          refine va_get (D := (dC, dI)) (ci := 5) (v := .ref (q 15)) (C := "ServiceThreadsModel") (T := TXm) (N := 28) hx hb hta inXm hown hK hP 0 (wM_0 q dA M_24) rfl 17 (by decide) (hta _ wt_582) (fun _ h9 => h9) rfl dXm_unit_50 ?_
          refine lv_iload_n hx hb dXm_unit_53 rfl (lv_at hl 1 rfl) ?_
          obtain ⟨h_27, hw⟩ := hw
          refine ro_i (w := (wM q dA)) (M := M_24) hx hb hK hP 15 14 (wM_15 q dA M_24) rfl h_27 dXm_unit_54 (fun y_28 ey_28 => ?_)
          have hw := hw y_28 ey_28
          exact W.iret (v := y_28) hx hb hr (fun t ht hW => ⟨⟨y_28, M_24, rfl, hw, by rw [ht]; exact hP, va_K.moved hW.alike hK, hD⟩, hS.F ht⟩) hS.2.2 dXm_unit_55 hlocks
        · have hw := hw.1 c_26
          refine lv_aload_n hx hb dXm_unit_40 rfl (lv_at hl 0 rfl) ?_
          refine va_get (D := (dC, dI)) (ci := 5) (v := .ref (q 14)) (C := "ServiceThreadsModel") (T := TXm) (N := 28) hx hb hta inXm hown hK hP 0 (wM_0 q dA M_24) rfl 16 (by decide) (hta _ wt_581) (fun _ h9 => h9) rfl dXm_unit_41 ?_
          refine lv_iload_n hx hb dXm_unit_44 rfl (lv_at hl 1 rfl) ?_
          obtain ⟨h_29, hw⟩ := hw
          refine ro_i (w := (wM q dA)) (M := M_24) hx hb hK hP 14 13 (wM_14 q dA M_24) rfl h_29 dXm_unit_45 (fun y_30 ey_30 => ?_)
          have hw := hw y_30 ey_30
          refine lv_goto (tgt := 55) hx hb dXm_unit_46 (by decide) ?_
          exact W.iret (v := y_30) hx hb hr (fun t ht hW => ⟨⟨y_30, M_24, rfl, hw, by rw [ht]; exact hP, va_K.moved hW.alike hK, hD⟩, hS.F ht⟩) hS.2.2 dXm_unit_55 hlocks
      · have hw := hw.2 c_25
        refine lv_iconst (v := 0) hx hb dXm_unit_34 (by decide) ?_
        exact W.iret (v := 0) hx hb hr (fun t ht hW => ⟨⟨0, M_24, rfl, hw, by rw [ht]; exact hP, va_K.moved hW.alike hK, hD⟩, hS.F ht⟩) hS.2.2 dXm_unit_35 hlocks
def wpXm_callAt (p0 : Int32) (p1 : Int32) (M : Mm) (post : Int32 → Mm → Prop) : Prop := ∀ y_1 : Int32, y_1 = M 22 0 → (∀ y_2 : Int32, y_2 = y_1 - 1 → (wpXm_in p0 0 y_2 M (fun r_3 M_4 => (((r_3 = 0 → (wpXm_throwing 1 0 0 0 M_4 (fun r_6 M_7 => (((r_6 = 0 → (((p1 = 0 → (vp_in p0 16 ∧ (∀ y_20 : Int32, y_20 = M_7 6 p0.toNatClampNeg → (post y_20 M_7)))) ∧ (¬ p1 = 0 → (((p1 = 1 → (vp_in p0 16 ∧ (∀ y_18 : Int32, y_18 = M_7 7 p0.toNatClampNeg → (post y_18 M_7)))) ∧ (¬ p1 = 1 → (((p1 = 2 → (vp_in p0 16 ∧ (∀ y_16 : Int32, y_16 = M_7 8 p0.toNatClampNeg → (post y_16 M_7)))) ∧ (¬ p1 = 2 → (vp_in p0 16 ∧ (∀ y_13 : Int32, y_13 = M_7 9 p0.toNatClampNeg → (((y_13 = 0 → (post 0 M_7)) ∧ (¬ y_13 = 0 → (post 1 M_7)))))))))))))))) ∧ (¬ r_6 = 0 → (post 0 M_7))))))) ∧ (¬ r_3 = 0 → (wpXm_in p1 0 3 M_4 (fun r_21 M_22 => (((r_21 = 0 → (wpXm_throwing 1 0 0 0 M_22 (fun r_39 M_40 => (((r_39 = 0 → (((p1 = 0 → (vp_in p0 16 ∧ (∀ y_53 : Int32, y_53 = M_40 6 p0.toNatClampNeg → (post y_53 M_40)))) ∧ (¬ p1 = 0 → (((p1 = 1 → (vp_in p0 16 ∧ (∀ y_51 : Int32, y_51 = M_40 7 p0.toNatClampNeg → (post y_51 M_40)))) ∧ (¬ p1 = 1 → (((p1 = 2 → (vp_in p0 16 ∧ (∀ y_49 : Int32, y_49 = M_40 8 p0.toNatClampNeg → (post y_49 M_40)))) ∧ (¬ p1 = 2 → (vp_in p0 16 ∧ (∀ y_46 : Int32, y_46 = M_40 9 p0.toNatClampNeg → (((y_46 = 0 → (post 0 M_40)) ∧ (¬ y_46 = 0 → (post 1 M_40)))))))))))))))) ∧ (¬ r_39 = 0 → (post 0 M_40))))))) ∧ (¬ r_21 = 0 → (wpXm_throwing 0 0 0 0 M_22 (fun r_24 M_25 => (((r_24 = 0 → (((p1 = 0 → (vp_in p0 16 ∧ (∀ y_38 : Int32, y_38 = M_25 6 p0.toNatClampNeg → (post y_38 M_25)))) ∧ (¬ p1 = 0 → (((p1 = 1 → (vp_in p0 16 ∧ (∀ y_36 : Int32, y_36 = M_25 7 p0.toNatClampNeg → (post y_36 M_25)))) ∧ (¬ p1 = 1 → (((p1 = 2 → (vp_in p0 16 ∧ (∀ y_34 : Int32, y_34 = M_25 8 p0.toNatClampNeg → (post y_34 M_25)))) ∧ (¬ p1 = 2 → (vp_in p0 16 ∧ (∀ y_31 : Int32, y_31 = M_25 9 p0.toNatClampNeg → (((y_31 = 0 → (post 0 M_25)) ∧ (¬ y_31 = 0 → (post 1 M_25)))))))))))))))) ∧ (¬ r_24 = 0 → (post 0 M_25)))))))))))))))))
set_option maxHeartbeats 4000000 in
set_option maxRecDepth 100000 in
theorem mtXm_callAt (l : Launch) (dC : Nat → ClassId) (dI : Nat → Nat → Nat) (q : Nat → Nat) (dA : Nat → ClassId) (sz : Nat) (p0 : Int32) (p1 : Int32) (M : Mm) (post : Int32 → Mm → Prop) (hw : wpXm_callAt p0 p1 M post) : Met l yXm_callAt (wsA yXm_callAt cXm_callAt 3 (some .int)) ({ frames := 1, cells := 0, slots := 0, locals := 24 }) (va_Pc [.ref (q 0), .int p0, .int p1] (pW (dC, dI) vwCl (wM q dA) (tM dA) sz M)) (va_Qi post (bW (dC, dI) vwCl (wM q dA) (tM dA) (va_A (wM q dA M) sz)) (va_A (wM q dA M) sz)) 0 0 (va_A (wM q dA M) sz) := by
  refine Met.ofW (cc := cXm_callAt) (maxL := 3) (ret := (some .int)) (by decide) rfl ?_
  intro p e s m args below meth c s₁ B hml hv
  obtain ⟨rfl, hsz, hP, hK, hD0⟩ := hv
  have hx := B.exec
  have hb := B.bytes
  have hr := B.returns
  have hts := atoms_spec (ws := (wsA yXm_callAt cXm_callAt 3 (some .int))) B.pre
  have hta : ∀ w ∈ wsG, w.before _ s = true := fun w h => hts w (List.mem_cons_of_mem _ h)
  have hown : s.vm.findClass "ServiceThreadsModel" = some m.cls := findClass_of_methodNamed B.named
  have hlocks := B.notSynchronized
  subst hsz
  have hD := hD0.self (sz := s.heap.size)
  generalize hAe : va_A (wM q dA M) s.heap.size = A at hD ⊢
  have hA : ∀ q : Nat, s.heap.size ≤ q → A q := fun q h => by rw [← hAe]; exact Or.inr h
  have hS : va_S A s.heap s.heap [] := va_S.rf
  dsimp only [wpXm_callAt] at hw
  have hl := lv_entry ([.ref (q 0), .int p0, .int p1]) (n := 3) (Nat.le_of_ble_eq_true rfl)
  rw [lg_entry_eq]
  generalize (lg_sl ([.ref (q 0), .int p0, .int p1]) ++ List.replicate (3 - (lg_sl ([.ref (q 0), .int p0, .int p1])).length) Slot.unset).toArray = ls at hl ⊢
  have hl : lv_has ls 3 [(0, .ref (q 0)), (1, .int p0), (2, .int p1)] := hl
  refine lv_aload_n hx hb dXm_callAt_0 rfl (lv_at hl 0 rfl) ?_
  refine lv_iload_n hx hb dXm_callAt_1 rfl (lv_at hl 1 rfl) ?_
  refine lv_iconst (v := 0) hx hb dXm_callAt_2 (by decide) ?_
  refine lv_aload_n hx hb dXm_callAt_3 rfl (lv_at hl 0 rfl) ?_
  refine va_get (D := (dC, dI)) (ci := 5) (v := .int (M 22 0)) (C := "ServiceThreadsModel") (T := TXm) (N := 28) hx hb hta inXm hown hK hP 0 (wM_0 q dA M) rfl 18 (by decide) (hta _ wt_583) (fun _ h9 => h9) rfl dXm_callAt_4 ?_
  refine lv_topi (fun y_1 ey_1 => ?_)
  have hw := hw y_1 ey_1
  refine lv_iconst (v := 1) hx hb dXm_callAt_7 (by decide) ?_
  refine lv_isub hx hb dXm_callAt_8 ?_
  refine lv_topi (fun y_2 ey_2 => ?_)
  have hw := hw y_2 ey_2
  refine cn_i (w := (wM q dA)) (M := M) (wM_ad q dA) (va_runS (As := [.int p0, .int 0, .int y_2]) (rest := [.ref (q 0)]) ⟨hx, hb, hml, hown, hta⟩ (mtXm_in l dC dI q dA s.heap.size p0 0 y_2 M _ hw) (va_cwS 3 hta (giS wt_661 wt_662 wt_7 wt_663) rfl rfl rfl (by decide +kernel) ⟨Nat.le_of_ble_eq_true rfl, Nat.le_of_ble_eq_true rfl⟩) ⟨pW_blind, pW_of hK hP hD⟩ rfl rfl hl.1 rfl (lv_room (Nat.le_of_ble_eq_true rfl)) dXm_callAt_9 ⟨Nat.le_of_ble_eq_true rfl, Nat.le_of_ble_eq_true rfl⟩) hD hS hA (fun r_3 M_4 H locs hw hP hD hS => ?_)
  refine lv_if_eq (tgt := 24) hx hb dXm_callAt_12 (by decide) (fun c_5 => ?_) (fun c_5 => ?_)
  · have hw := hw.1 c_5
    refine lv_iconst (v := 1) hx hb dXm_callAt_24 (by decide) ?_
    refine lv_goto (tgt := 29) hx hb dXm_callAt_25 (by decide) ?_
    refine lv_iconst (v := 0) hx hb dXm_callAt_29 (by decide) ?_
    refine lv_iconst (v := 0) hx hb dXm_callAt_30 (by decide) ?_
    refine lv_iconst (v := 0) hx hb dXm_callAt_31 (by decide) ?_
    refine cn_i (w := (wM q dA)) (M := M_4) (wM_ad q dA) (va_runV (As := [.int 1, .int 0, .int 0, .int 0]) (rest := []) ⟨hx, hb, hml, hown, hta⟩ (mtXm_throwing l dC dI q dA H.size 1 0 0 0 M_4 _ hw) (cwV 4 hta (giV wt_668 wt_670 ws_19 wt_7 wt_671) rfl rfl rfl (by decide +kernel) ⟨Nat.le_of_ble_eq_true rfl, Nat.le_of_ble_eq_true rfl⟩) ⟨pW_blind, va_recv hK hP (ci := 5) (q0 := 0) rfl (wM_0 q dA M_4), pW_of hK hP hD⟩ rfl rfl hl.1 rfl (lv_room (Nat.le_of_ble_eq_true rfl)) dXm_callAt_32 ⟨Nat.le_of_ble_eq_true rfl, Nat.le_of_ble_eq_true rfl⟩) hD hS hA (fun r_6 M_7 H locs hw hP hD hS => ?_)
    refine lv_if_eq (tgt := 40) hx hb dXm_callAt_35 (by decide) (fun c_8 => ?_) (fun c_8 => ?_)
    · have hw := hw.1 c_8
      refine lv_iload_n hx hb dXm_callAt_40 rfl (lv_at hl 2 rfl) ?_
      refine lv_if_ne (tgt := 53) hx hb dXm_callAt_41 (by decide) (fun c_9 => ?_) (fun c_9 => ?_)
      · have hw := hw.2 c_9
        refine lv_iload_n hx hb dXm_callAt_53 rfl (lv_at hl 2 rfl) ?_
        refine lv_iconst (v := 1) hx hb dXm_callAt_54 (by decide) ?_
        refine lv_icmp_ne (tgt := 67) hx hb dXm_callAt_55 (by decide) (fun c_10 => ?_) (fun c_10 => ?_)
        · have hw := hw.2 c_10
          refine lv_iload_n hx hb dXm_callAt_67 rfl (lv_at hl 2 rfl) ?_
          refine lv_iconst (v := 2) hx hb dXm_callAt_68 (by decide) ?_
          refine lv_icmp_ne (tgt := 81) hx hb dXm_callAt_69 (by decide) (fun c_11 => ?_) (fun c_11 => ?_)
          · have hw := hw.2 c_11
            refine lv_aload_n hx hb dXm_callAt_81 rfl (lv_at hl 0 rfl) ?_
            refine va_get (D := (dC, dI)) (ci := 5) (v := .ref (q 19)) (C := "ServiceThreadsModel") (T := TXm) (N := 28) hx hb hta inXm hown hK hP 0 (wM_0 q dA M_7) rfl 22 (by decide) (hta _ wt_587) (fun _ h9 => h9) rfl dXm_callAt_82 ?_
            refine lv_iload_n hx hb dXm_callAt_85 rfl (lv_at hl 1 rfl) ?_
            obtain ⟨h_12, hw⟩ := hw
            refine ro_z (w := (wM q dA)) (M := M_7) hx hb hK hP 19 18 (wM_19 q dA M_7) rfl h_12 dXm_callAt_86 (fun y_13 ey_13 => ?_)
            have hw := hw y_13 ey_13
            refine lv_if_eq (tgt := 94) hx hb dXm_callAt_87 (by decide) (fun c_14 => ?_) (fun c_14 => ?_)
            · have hw := hw.1 c_14
              refine lv_iconst (v := 0) hx hb dXm_callAt_94 (by decide) ?_
              exact W.iret (v := 0) hx hb hr (fun t ht hW => ⟨⟨0, M_7, rfl, hw, by rw [ht]; exact hP, va_K.moved hW.alike hK, hD⟩, hS.F ht⟩) hS.2.2 dXm_callAt_95 hlocks
            · have hw := hw.2 c_14
              refine lv_iconst (v := 1) hx hb dXm_callAt_90 (by decide) ?_
              refine lv_goto (tgt := 95) hx hb dXm_callAt_91 (by decide) ?_
              exact W.iret (v := 1) hx hb hr (fun t ht hW => ⟨⟨1, M_7, rfl, hw, by rw [ht]; exact hP, va_K.moved hW.alike hK, hD⟩, hS.F ht⟩) hS.2.2 dXm_callAt_95 hlocks
          · have hw := hw.1 c_11
            refine lv_aload_n hx hb dXm_callAt_72 rfl (lv_at hl 0 rfl) ?_
            refine va_get (D := (dC, dI)) (ci := 5) (v := .ref (q 18)) (C := "ServiceThreadsModel") (T := TXm) (N := 28) hx hb hta inXm hown hK hP 0 (wM_0 q dA M_7) rfl 21 (by decide) (hta _ wt_586) (fun _ h9 => h9) rfl dXm_callAt_73 ?_
            refine lv_iload_n hx hb dXm_callAt_76 rfl (lv_at hl 1 rfl) ?_
            obtain ⟨h_15, hw⟩ := hw
            refine ro_i (w := (wM q dA)) (M := M_7) hx hb hK hP 18 17 (wM_18 q dA M_7) rfl h_15 dXm_callAt_77 (fun y_16 ey_16 => ?_)
            have hw := hw y_16 ey_16
            refine lv_goto (tgt := 95) hx hb dXm_callAt_78 (by decide) ?_
            exact W.iret (v := y_16) hx hb hr (fun t ht hW => ⟨⟨y_16, M_7, rfl, hw, by rw [ht]; exact hP, va_K.moved hW.alike hK, hD⟩, hS.F ht⟩) hS.2.2 dXm_callAt_95 hlocks
        · have hw := hw.1 c_10
          refine lv_aload_n hx hb dXm_callAt_58 rfl (lv_at hl 0 rfl) ?_
          refine va_get (D := (dC, dI)) (ci := 5) (v := .ref (q 17)) (C := "ServiceThreadsModel") (T := TXm) (N := 28) hx hb hta inXm hown hK hP 0 (wM_0 q dA M_7) rfl 20 (by decide) (hta _ wt_585) (fun _ h9 => h9) rfl dXm_callAt_59 ?_
          refine lv_iload_n hx hb dXm_callAt_62 rfl (lv_at hl 1 rfl) ?_
          obtain ⟨h_17, hw⟩ := hw
          refine ro_i (w := (wM q dA)) (M := M_7) hx hb hK hP 17 16 (wM_17 q dA M_7) rfl h_17 dXm_callAt_63 (fun y_18 ey_18 => ?_)
          have hw := hw y_18 ey_18
          refine lv_goto (tgt := 95) hx hb dXm_callAt_64 (by decide) ?_
          exact W.iret (v := y_18) hx hb hr (fun t ht hW => ⟨⟨y_18, M_7, rfl, hw, by rw [ht]; exact hP, va_K.moved hW.alike hK, hD⟩, hS.F ht⟩) hS.2.2 dXm_callAt_95 hlocks
      · have hw := hw.1 c_9
        refine lv_aload_n hx hb dXm_callAt_44 rfl (lv_at hl 0 rfl) ?_
        refine va_get (D := (dC, dI)) (ci := 5) (v := .ref (q 16)) (C := "ServiceThreadsModel") (T := TXm) (N := 28) hx hb hta inXm hown hK hP 0 (wM_0 q dA M_7) rfl 19 (by decide) (hta _ wt_584) (fun _ h9 => h9) rfl dXm_callAt_45 ?_
        refine lv_iload_n hx hb dXm_callAt_48 rfl (lv_at hl 1 rfl) ?_
        obtain ⟨h_19, hw⟩ := hw
        refine ro_i (w := (wM q dA)) (M := M_7) hx hb hK hP 16 15 (wM_16 q dA M_7) rfl h_19 dXm_callAt_49 (fun y_20 ey_20 => ?_)
        have hw := hw y_20 ey_20
        refine lv_goto (tgt := 95) hx hb dXm_callAt_50 (by decide) ?_
        exact W.iret (v := y_20) hx hb hr (fun t ht hW => ⟨⟨y_20, M_7, rfl, hw, by rw [ht]; exact hP, va_K.moved hW.alike hK, hD⟩, hS.F ht⟩) hS.2.2 dXm_callAt_95 hlocks
    · have hw := hw.2 c_8
      refine lv_iconst (v := 0) hx hb dXm_callAt_38 (by decide) ?_
      exact W.iret (v := 0) hx hb hr (fun t ht hW => ⟨⟨0, M_7, rfl, hw, by rw [ht]; exact hP, va_K.moved hW.alike hK, hD⟩, hS.F ht⟩) hS.2.2 dXm_callAt_39 hlocks
  · have hw := hw.2 c_5
    refine lv_iload_n hx hb dXm_callAt_15 rfl (lv_at hl 2 rfl) ?_
    refine lv_iconst (v := 0) hx hb dXm_callAt_16 (by decide) ?_
    refine lv_iconst (v := 3) hx hb dXm_callAt_17 (by decide) ?_
    refine cn_i (w := (wM q dA)) (M := M_4) (wM_ad q dA) (va_runS (As := [.int p1, .int 0, .int 3]) (rest := [.ref (q 0)]) ⟨hx, hb, hml, hown, hta⟩ (mtXm_in l dC dI q dA H.size p1 0 3 M_4 _ hw) (va_cwS 3 hta (giS wt_661 wt_662 wt_7 wt_663) rfl rfl rfl (by decide +kernel) ⟨Nat.le_of_ble_eq_true rfl, Nat.le_of_ble_eq_true rfl⟩) ⟨pW_blind, pW_of hK hP hD⟩ rfl rfl hl.1 rfl (lv_room (Nat.le_of_ble_eq_true rfl)) dXm_callAt_18 ⟨Nat.le_of_ble_eq_true rfl, Nat.le_of_ble_eq_true rfl⟩) hD hS hA (fun r_21 M_22 H locs hw hP hD hS => ?_)
    refine lv_if_ne (tgt := 28) hx hb dXm_callAt_21 (by decide) (fun c_23 => ?_) (fun c_23 => ?_)
    · have hw := hw.2 c_23
      refine lv_iconst (v := 0) hx hb dXm_callAt_28 (by decide) ?_
      refine lv_iconst (v := 0) hx hb dXm_callAt_29 (by decide) ?_
      refine lv_iconst (v := 0) hx hb dXm_callAt_30 (by decide) ?_
      refine lv_iconst (v := 0) hx hb dXm_callAt_31 (by decide) ?_
      refine cn_i (w := (wM q dA)) (M := M_22) (wM_ad q dA) (va_runV (As := [.int 0, .int 0, .int 0, .int 0]) (rest := []) ⟨hx, hb, hml, hown, hta⟩ (mtXm_throwing l dC dI q dA H.size 0 0 0 0 M_22 _ hw) (cwV 4 hta (giV wt_668 wt_670 ws_19 wt_7 wt_671) rfl rfl rfl (by decide +kernel) ⟨Nat.le_of_ble_eq_true rfl, Nat.le_of_ble_eq_true rfl⟩) ⟨pW_blind, va_recv hK hP (ci := 5) (q0 := 0) rfl (wM_0 q dA M_22), pW_of hK hP hD⟩ rfl rfl hl.1 rfl (lv_room (Nat.le_of_ble_eq_true rfl)) dXm_callAt_32 ⟨Nat.le_of_ble_eq_true rfl, Nat.le_of_ble_eq_true rfl⟩) hD hS hA (fun r_24 M_25 H locs hw hP hD hS => ?_)
      refine lv_if_eq (tgt := 40) hx hb dXm_callAt_35 (by decide) (fun c_26 => ?_) (fun c_26 => ?_)
      · have hw := hw.1 c_26
        refine lv_iload_n hx hb dXm_callAt_40 rfl (lv_at hl 2 rfl) ?_
        refine lv_if_ne (tgt := 53) hx hb dXm_callAt_41 (by decide) (fun c_27 => ?_) (fun c_27 => ?_)
        · have hw := hw.2 c_27
          refine lv_iload_n hx hb dXm_callAt_53 rfl (lv_at hl 2 rfl) ?_
          refine lv_iconst (v := 1) hx hb dXm_callAt_54 (by decide) ?_
          refine lv_icmp_ne (tgt := 67) hx hb dXm_callAt_55 (by decide) (fun c_28 => ?_) (fun c_28 => ?_)
          · have hw := hw.2 c_28
            refine lv_iload_n hx hb dXm_callAt_67 rfl (lv_at hl 2 rfl) ?_
            refine lv_iconst (v := 2) hx hb dXm_callAt_68 (by decide) ?_
            refine lv_icmp_ne (tgt := 81) hx hb dXm_callAt_69 (by decide) (fun c_29 => ?_) (fun c_29 => ?_)
            · have hw := hw.2 c_29
              refine lv_aload_n hx hb dXm_callAt_81 rfl (lv_at hl 0 rfl) ?_
              refine va_get (D := (dC, dI)) (ci := 5) (v := .ref (q 19)) (C := "ServiceThreadsModel") (T := TXm) (N := 28) hx hb hta inXm hown hK hP 0 (wM_0 q dA M_25) rfl 22 (by decide) (hta _ wt_587) (fun _ h9 => h9) rfl dXm_callAt_82 ?_
              refine lv_iload_n hx hb dXm_callAt_85 rfl (lv_at hl 1 rfl) ?_
              obtain ⟨h_30, hw⟩ := hw
              refine ro_z (w := (wM q dA)) (M := M_25) hx hb hK hP 19 18 (wM_19 q dA M_25) rfl h_30 dXm_callAt_86 (fun y_31 ey_31 => ?_)
              have hw := hw y_31 ey_31
              refine lv_if_eq (tgt := 94) hx hb dXm_callAt_87 (by decide) (fun c_32 => ?_) (fun c_32 => ?_)
              · have hw := hw.1 c_32
                refine lv_iconst (v := 0) hx hb dXm_callAt_94 (by decide) ?_
                exact W.iret (v := 0) hx hb hr (fun t ht hW => ⟨⟨0, M_25, rfl, hw, by rw [ht]; exact hP, va_K.moved hW.alike hK, hD⟩, hS.F ht⟩) hS.2.2 dXm_callAt_95 hlocks
              · have hw := hw.2 c_32
                refine lv_iconst (v := 1) hx hb dXm_callAt_90 (by decide) ?_
                refine lv_goto (tgt := 95) hx hb dXm_callAt_91 (by decide) ?_
                exact W.iret (v := 1) hx hb hr (fun t ht hW => ⟨⟨1, M_25, rfl, hw, by rw [ht]; exact hP, va_K.moved hW.alike hK, hD⟩, hS.F ht⟩) hS.2.2 dXm_callAt_95 hlocks
            · have hw := hw.1 c_29
              refine lv_aload_n hx hb dXm_callAt_72 rfl (lv_at hl 0 rfl) ?_
              refine va_get (D := (dC, dI)) (ci := 5) (v := .ref (q 18)) (C := "ServiceThreadsModel") (T := TXm) (N := 28) hx hb hta inXm hown hK hP 0 (wM_0 q dA M_25) rfl 21 (by decide) (hta _ wt_586) (fun _ h9 => h9) rfl dXm_callAt_73 ?_
              refine lv_iload_n hx hb dXm_callAt_76 rfl (lv_at hl 1 rfl) ?_
              obtain ⟨h_33, hw⟩ := hw
              refine ro_i (w := (wM q dA)) (M := M_25) hx hb hK hP 18 17 (wM_18 q dA M_25) rfl h_33 dXm_callAt_77 (fun y_34 ey_34 => ?_)
              have hw := hw y_34 ey_34
              refine lv_goto (tgt := 95) hx hb dXm_callAt_78 (by decide) ?_
              exact W.iret (v := y_34) hx hb hr (fun t ht hW => ⟨⟨y_34, M_25, rfl, hw, by rw [ht]; exact hP, va_K.moved hW.alike hK, hD⟩, hS.F ht⟩) hS.2.2 dXm_callAt_95 hlocks
          · have hw := hw.1 c_28
            refine lv_aload_n hx hb dXm_callAt_58 rfl (lv_at hl 0 rfl) ?_
            refine va_get (D := (dC, dI)) (ci := 5) (v := .ref (q 17)) (C := "ServiceThreadsModel") (T := TXm) (N := 28) hx hb hta inXm hown hK hP 0 (wM_0 q dA M_25) rfl 20 (by decide) (hta _ wt_585) (fun _ h9 => h9) rfl dXm_callAt_59 ?_
            refine lv_iload_n hx hb dXm_callAt_62 rfl (lv_at hl 1 rfl) ?_
            obtain ⟨h_35, hw⟩ := hw
            refine ro_i (w := (wM q dA)) (M := M_25) hx hb hK hP 17 16 (wM_17 q dA M_25) rfl h_35 dXm_callAt_63 (fun y_36 ey_36 => ?_)
            have hw := hw y_36 ey_36
            refine lv_goto (tgt := 95) hx hb dXm_callAt_64 (by decide) ?_
            exact W.iret (v := y_36) hx hb hr (fun t ht hW => ⟨⟨y_36, M_25, rfl, hw, by rw [ht]; exact hP, va_K.moved hW.alike hK, hD⟩, hS.F ht⟩) hS.2.2 dXm_callAt_95 hlocks
        · have hw := hw.1 c_27
          refine lv_aload_n hx hb dXm_callAt_44 rfl (lv_at hl 0 rfl) ?_
          refine va_get (D := (dC, dI)) (ci := 5) (v := .ref (q 16)) (C := "ServiceThreadsModel") (T := TXm) (N := 28) hx hb hta inXm hown hK hP 0 (wM_0 q dA M_25) rfl 19 (by decide) (hta _ wt_584) (fun _ h9 => h9) rfl dXm_callAt_45 ?_
          refine lv_iload_n hx hb dXm_callAt_48 rfl (lv_at hl 1 rfl) ?_
          obtain ⟨h_37, hw⟩ := hw
          refine ro_i (w := (wM q dA)) (M := M_25) hx hb hK hP 16 15 (wM_16 q dA M_25) rfl h_37 dXm_callAt_49 (fun y_38 ey_38 => ?_)
          have hw := hw y_38 ey_38
          refine lv_goto (tgt := 95) hx hb dXm_callAt_50 (by decide) ?_
          exact W.iret (v := y_38) hx hb hr (fun t ht hW => ⟨⟨y_38, M_25, rfl, hw, by rw [ht]; exact hP, va_K.moved hW.alike hK, hD⟩, hS.F ht⟩) hS.2.2 dXm_callAt_95 hlocks
      · have hw := hw.2 c_26
        refine lv_iconst (v := 0) hx hb dXm_callAt_38 (by decide) ?_
        exact W.iret (v := 0) hx hb hr (fun t ht hW => ⟨⟨0, M_25, rfl, hw, by rw [ht]; exact hP, va_K.moved hW.alike hK, hD⟩, hS.F ht⟩) hS.2.2 dXm_callAt_39 hlocks
    · have hw := hw.1 c_23
      refine lv_iconst (v := 1) hx hb dXm_callAt_24 (by decide) ?_
      refine lv_goto (tgt := 29) hx hb dXm_callAt_25 (by decide) ?_
      refine lv_iconst (v := 0) hx hb dXm_callAt_29 (by decide) ?_
      refine lv_iconst (v := 0) hx hb dXm_callAt_30 (by decide) ?_
      refine lv_iconst (v := 0) hx hb dXm_callAt_31 (by decide) ?_
      refine cn_i (w := (wM q dA)) (M := M_22) (wM_ad q dA) (va_runV (As := [.int 1, .int 0, .int 0, .int 0]) (rest := []) ⟨hx, hb, hml, hown, hta⟩ (mtXm_throwing l dC dI q dA H.size 1 0 0 0 M_22 _ hw) (cwV 4 hta (giV wt_668 wt_670 ws_19 wt_7 wt_671) rfl rfl rfl (by decide +kernel) ⟨Nat.le_of_ble_eq_true rfl, Nat.le_of_ble_eq_true rfl⟩) ⟨pW_blind, va_recv hK hP (ci := 5) (q0 := 0) rfl (wM_0 q dA M_22), pW_of hK hP hD⟩ rfl rfl hl.1 rfl (lv_room (Nat.le_of_ble_eq_true rfl)) dXm_callAt_32 ⟨Nat.le_of_ble_eq_true rfl, Nat.le_of_ble_eq_true rfl⟩) hD hS hA (fun r_39 M_40 H locs hw hP hD hS => ?_)
      refine lv_if_eq (tgt := 40) hx hb dXm_callAt_35 (by decide) (fun c_41 => ?_) (fun c_41 => ?_)
      · have hw := hw.1 c_41
        refine lv_iload_n hx hb dXm_callAt_40 rfl (lv_at hl 2 rfl) ?_
        refine lv_if_ne (tgt := 53) hx hb dXm_callAt_41 (by decide) (fun c_42 => ?_) (fun c_42 => ?_)
        · have hw := hw.2 c_42
          refine lv_iload_n hx hb dXm_callAt_53 rfl (lv_at hl 2 rfl) ?_
          refine lv_iconst (v := 1) hx hb dXm_callAt_54 (by decide) ?_
          refine lv_icmp_ne (tgt := 67) hx hb dXm_callAt_55 (by decide) (fun c_43 => ?_) (fun c_43 => ?_)
          · have hw := hw.2 c_43
            refine lv_iload_n hx hb dXm_callAt_67 rfl (lv_at hl 2 rfl) ?_
            refine lv_iconst (v := 2) hx hb dXm_callAt_68 (by decide) ?_
            refine lv_icmp_ne (tgt := 81) hx hb dXm_callAt_69 (by decide) (fun c_44 => ?_) (fun c_44 => ?_)
            · have hw := hw.2 c_44
              refine lv_aload_n hx hb dXm_callAt_81 rfl (lv_at hl 0 rfl) ?_
              refine va_get (D := (dC, dI)) (ci := 5) (v := .ref (q 19)) (C := "ServiceThreadsModel") (T := TXm) (N := 28) hx hb hta inXm hown hK hP 0 (wM_0 q dA M_40) rfl 22 (by decide) (hta _ wt_587) (fun _ h9 => h9) rfl dXm_callAt_82 ?_
              refine lv_iload_n hx hb dXm_callAt_85 rfl (lv_at hl 1 rfl) ?_
              obtain ⟨h_45, hw⟩ := hw
              refine ro_z (w := (wM q dA)) (M := M_40) hx hb hK hP 19 18 (wM_19 q dA M_40) rfl h_45 dXm_callAt_86 (fun y_46 ey_46 => ?_)
              have hw := hw y_46 ey_46
              refine lv_if_eq (tgt := 94) hx hb dXm_callAt_87 (by decide) (fun c_47 => ?_) (fun c_47 => ?_)
              · have hw := hw.1 c_47
                refine lv_iconst (v := 0) hx hb dXm_callAt_94 (by decide) ?_
                exact W.iret (v := 0) hx hb hr (fun t ht hW => ⟨⟨0, M_40, rfl, hw, by rw [ht]; exact hP, va_K.moved hW.alike hK, hD⟩, hS.F ht⟩) hS.2.2 dXm_callAt_95 hlocks
              · have hw := hw.2 c_47
                refine lv_iconst (v := 1) hx hb dXm_callAt_90 (by decide) ?_
                refine lv_goto (tgt := 95) hx hb dXm_callAt_91 (by decide) ?_
                exact W.iret (v := 1) hx hb hr (fun t ht hW => ⟨⟨1, M_40, rfl, hw, by rw [ht]; exact hP, va_K.moved hW.alike hK, hD⟩, hS.F ht⟩) hS.2.2 dXm_callAt_95 hlocks
            · have hw := hw.1 c_44
              refine lv_aload_n hx hb dXm_callAt_72 rfl (lv_at hl 0 rfl) ?_
              refine va_get (D := (dC, dI)) (ci := 5) (v := .ref (q 18)) (C := "ServiceThreadsModel") (T := TXm) (N := 28) hx hb hta inXm hown hK hP 0 (wM_0 q dA M_40) rfl 21 (by decide) (hta _ wt_586) (fun _ h9 => h9) rfl dXm_callAt_73 ?_
              refine lv_iload_n hx hb dXm_callAt_76 rfl (lv_at hl 1 rfl) ?_
              obtain ⟨h_48, hw⟩ := hw
              refine ro_i (w := (wM q dA)) (M := M_40) hx hb hK hP 18 17 (wM_18 q dA M_40) rfl h_48 dXm_callAt_77 (fun y_49 ey_49 => ?_)
              have hw := hw y_49 ey_49
              refine lv_goto (tgt := 95) hx hb dXm_callAt_78 (by decide) ?_
              exact W.iret (v := y_49) hx hb hr (fun t ht hW => ⟨⟨y_49, M_40, rfl, hw, by rw [ht]; exact hP, va_K.moved hW.alike hK, hD⟩, hS.F ht⟩) hS.2.2 dXm_callAt_95 hlocks
          · have hw := hw.1 c_43
            refine lv_aload_n hx hb dXm_callAt_58 rfl (lv_at hl 0 rfl) ?_
            refine va_get (D := (dC, dI)) (ci := 5) (v := .ref (q 17)) (C := "ServiceThreadsModel") (T := TXm) (N := 28) hx hb hta inXm hown hK hP 0 (wM_0 q dA M_40) rfl 20 (by decide) (hta _ wt_585) (fun _ h9 => h9) rfl dXm_callAt_59 ?_
            refine lv_iload_n hx hb dXm_callAt_62 rfl (lv_at hl 1 rfl) ?_
            obtain ⟨h_50, hw⟩ := hw
            refine ro_i (w := (wM q dA)) (M := M_40) hx hb hK hP 17 16 (wM_17 q dA M_40) rfl h_50 dXm_callAt_63 (fun y_51 ey_51 => ?_)
            have hw := hw y_51 ey_51
            refine lv_goto (tgt := 95) hx hb dXm_callAt_64 (by decide) ?_
            exact W.iret (v := y_51) hx hb hr (fun t ht hW => ⟨⟨y_51, M_40, rfl, hw, by rw [ht]; exact hP, va_K.moved hW.alike hK, hD⟩, hS.F ht⟩) hS.2.2 dXm_callAt_95 hlocks
        · have hw := hw.1 c_42
          refine lv_aload_n hx hb dXm_callAt_44 rfl (lv_at hl 0 rfl) ?_
          refine va_get (D := (dC, dI)) (ci := 5) (v := .ref (q 16)) (C := "ServiceThreadsModel") (T := TXm) (N := 28) hx hb hta inXm hown hK hP 0 (wM_0 q dA M_40) rfl 19 (by decide) (hta _ wt_584) (fun _ h9 => h9) rfl dXm_callAt_45 ?_
          refine lv_iload_n hx hb dXm_callAt_48 rfl (lv_at hl 1 rfl) ?_
          obtain ⟨h_52, hw⟩ := hw
          refine ro_i (w := (wM q dA)) (M := M_40) hx hb hK hP 16 15 (wM_16 q dA M_40) rfl h_52 dXm_callAt_49 (fun y_53 ey_53 => ?_)
          have hw := hw y_53 ey_53
          refine lv_goto (tgt := 95) hx hb dXm_callAt_50 (by decide) ?_
          exact W.iret (v := y_53) hx hb hr (fun t ht hW => ⟨⟨y_53, M_40, rfl, hw, by rw [ht]; exact hP, va_K.moved hW.alike hK, hD⟩, hS.F ht⟩) hS.2.2 dXm_callAt_95 hlocks
      · have hw := hw.2 c_41
        refine lv_iconst (v := 0) hx hb dXm_callAt_38 (by decide) ?_
        exact W.iret (v := 0) hx hb hr (fun t ht hW => ⟨⟨0, M_40, rfl, hw, by rw [ht]; exact hP, va_K.moved hW.alike hK, hD⟩, hS.F ht⟩) hS.2.2 dXm_callAt_39 hlocks
def wlXm_thread_38 (post : Int32 → Mm → Prop) : Nat → Int32 → Int32 → Int32 → Int32 → Mm → Prop
  | 0, _, _, _, _ => fun _ => False
  | n38 + 1, x1, x2, x3, x4 => fun M => ((10 ≤ x4 → (((x2 = 0 → (vp_in x1 8 ∧ (∀ y_11 : Int32, y_11 = M 14 x1.toNatClampNeg → (post y_11 M)))) ∧ (¬ x2 = 0 → (((x2 = 1 → (vp_in x1 8 ∧ (∀ y_14 : Int32, y_14 = M 15 x1.toNatClampNeg → (post y_14 M)))) ∧ (¬ x2 = 1 → (((x2 = 2 → (vp_in x1 8 ∧ (∀ y_17 : Int32, y_17 = M 16 x1.toNatClampNeg → (post y_17 M)))) ∧ (¬ x2 = 2 → (((x2 = 3 → (post x3 M)) ∧ (¬ x2 = 3 → (((x2 = 4 → (vp_in x1 8 ∧ (∀ y_21 : Int32, y_21 = M 17 x1.toNatClampNeg → (post y_21 M)))) ∧ (¬ x2 = 4 → (vp_in x1 8 ∧ (∀ y_23 : Int32, y_23 = M 18 x1.toNatClampNeg → (post y_23 M))))))))))))))))))) ∧ (¬ 10 ≤ x4 → (vp_in x4 10 ∧ (∀ y_25 : Int32, y_25 = M 4 x4.toNatClampNeg → (((y_25 = x1 → (∀ y_29 : Int32, y_29 = x3 + 1 → (∀ x4_30 : Int32, x4_30 = x4 + 1 → (wlXm_thread_38 post n38 x1 x2 y_29 x4_30 M)))) ∧ (¬ y_25 = x1 → (∀ y_27 : Int32, y_27 = x3 + 0 → (∀ x4_28 : Int32, x4_28 = x4 + 1 → (wlXm_thread_38 post n38 x1 x2 y_27 x4_28 M))))))))))
def wpXm_thread (p0 : Int32) (p1 : Int32) (M : Mm) (post : Int32 → Mm → Prop) : Prop := wpXm_isThread p0 M (fun r_1 M_2 => (((r_1 = 0 → (wpXm_throwing 1 0 0 0 M_2 (fun r_4 M_5 => (((r_4 = 0 → (∃ n38 : Nat, wlXm_thread_38 post n38 p0 p1 0 0 M_5)) ∧ (¬ r_4 = 0 → (post 0 M_5))))))) ∧ (¬ r_1 = 0 → (wpXm_in p1 0 5 M_2 (fun r_31 M_32 => (((r_31 = 0 → (wpXm_throwing 1 0 0 0 M_32 (fun r_37 M_38 => (((r_37 = 0 → (∃ n38 : Nat, wlXm_thread_38 post n38 p0 p1 0 0 M_38)) ∧ (¬ r_37 = 0 → (post 0 M_38))))))) ∧ (¬ r_31 = 0 → (wpXm_throwing 0 0 0 0 M_32 (fun r_34 M_35 => (((r_34 = 0 → (∃ n38 : Nat, wlXm_thread_38 post n38 p0 p1 0 0 M_35)) ∧ (¬ r_34 = 0 → (post 0 M_35)))))))))))))))
set_option maxHeartbeats 4000000 in
set_option maxRecDepth 100000 in
theorem LwlXm_thread_38 {p : Program} {l : Launch} {e : Env} {s : State} {m : MethodId} {below : List Frame} {meth : Method} {c : Code} {dC : Nat → ClassId} {dI : Nat → Nat → Nat} {q : Nat → Nat} {dA : Nat → ClassId} {A : Nat → Prop} {av : List Value} {post : Int32 → Mm → Prop} (CX : p.tables.exec = Jvm.exec ∧ c.code = cXm_thread ∧ meth.sig.returnType = (some .int) ∧ c.maxLocals = 5 ∧ s.vm.findClass "ServiceThreadsModel" = some m.cls ∧ (∀ w ∈ wsG, w.before av.toArray s = true) ∧ (∀ q : Nat, s.heap.size ≤ q → A q) ∧ va_K (dC, dI) vwCl (tM dA) s ∧ meth.locks = false) : ∀ (n38 : Nat) (x1 : Int32) (x2 : Int32) (x3 : Int32) (x4 : Int32) (M : Mm) (H : Heap) (locs : List Loc) (ls : Array Slot), wlXm_thread_38 post n38 x1 x2 x3 x4 M → va_P (dC, dI) vwCl (wM q dA M) H → va_D A (wM q dA M) → va_S A s.heap H locs → lv_has ls 5 [(0, .ref (q 0)), (1, .int x1), (2, .int x2), (3, .int x3), (4, .int x4)] → W p l e (headSpec (wsA yXm_thread cXm_thread 5 (some .int)) ({ frames := 2, cells := 0, slots := 0, locals := 42 })).room s m av.toArray below meth c H locs 0 0 (MQ below (va_Qi post (bW (dC, dI) vwCl (wM q dA) (tM dA) A) A) av.toArray s 0 0 A) (F0 m 38 ls []) := by
  obtain ⟨hx, hb, hr, hml, hown, hta, hA, hK, hlocks⟩ := CX
  intro n38
  induction n38 with
  | zero =>
    intro x1 x2 x3 x4 M H locs ls hw
    exact False.elim hw
  | succ n38 ih38 =>
    intro x1 x2 x3 x4 M H locs ls hw hP hD hS hl
    dsimp only [wlXm_thread_38] at hw
    refine lv_iload hx hb dXm_thread_38 (lv_at hl 4 rfl) ?_
    refine lv_bipush (v := 10) hx hb dXm_thread_40 (by decide) ?_
    refine lv_icmp_ge (tgt := 70) hx hb dXm_thread_42 (by decide) (fun c_7 => ?_) (fun c_7 => ?_)
    · have hw := hw.1 c_7
      refine lv_iload_n hx hb dXm_thread_70 rfl (lv_at hl 2 rfl) ?_
      rcases Classical.em (x2 = 0) with c_9 | c_9
      · have hw := hw.1 c_9
        refine lv_tableIn (tgt := 104) (off := 33) hx hb dXm_thread_71 (by rw [c_9]; decide) (by rw [c_9]; decide) (by rw [c_9]; decide) (by decide) ?_
        refine lv_aload_n hx hb dXm_thread_104 rfl (lv_at hl 0 rfl) ?_
        refine va_get (D := (dC, dI)) (ci := 5) (v := .ref (q 5)) (C := "ServiceThreadsModel") (T := TXm) (N := 28) hx hb hta inXm hown hK hP 0 (wM_0 q dA M) rfl 7 (by decide) (hta _ wt_572) (fun _ h9 => h9) rfl dXm_thread_105 ?_
        refine lv_iload_n hx hb dXm_thread_108 rfl (lv_at hl 1 rfl) ?_
        obtain ⟨h_10, hw⟩ := hw
        refine ro_i (w := (wM q dA)) (M := M) hx hb hK hP 5 4 (wM_5 q dA M) rfl h_10 dXm_thread_109 (fun y_11 ey_11 => ?_)
        have hw := hw y_11 ey_11
        exact W.iret (v := y_11) hx hb hr (fun t ht hW => ⟨⟨y_11, M, rfl, hw, by rw [ht]; exact hP, va_K.moved hW.alike hK, hD⟩, hS.F ht⟩) hS.2.2 dXm_thread_110 hlocks
      · have hw := hw.2 c_9
        rcases Classical.em (x2 = 1) with c_12 | c_12
        · have hw := hw.1 c_12
          refine lv_tableIn (tgt := 111) (off := 40) hx hb dXm_thread_71 (by rw [c_12]; decide) (by rw [c_12]; decide) (by rw [c_12]; decide) (by decide) ?_
          refine lv_aload_n hx hb dXm_thread_111 rfl (lv_at hl 0 rfl) ?_
          refine va_get (D := (dC, dI)) (ci := 5) (v := .ref (q 6)) (C := "ServiceThreadsModel") (T := TXm) (N := 28) hx hb hta inXm hown hK hP 0 (wM_0 q dA M) rfl 8 (by decide) (hta _ wt_573) (fun _ h9 => h9) rfl dXm_thread_112 ?_
          refine lv_iload_n hx hb dXm_thread_115 rfl (lv_at hl 1 rfl) ?_
          obtain ⟨h_13, hw⟩ := hw
          refine ro_i (w := (wM q dA)) (M := M) hx hb hK hP 6 5 (wM_6 q dA M) rfl h_13 dXm_thread_116 (fun y_14 ey_14 => ?_)
          have hw := hw y_14 ey_14
          exact W.iret (v := y_14) hx hb hr (fun t ht hW => ⟨⟨y_14, M, rfl, hw, by rw [ht]; exact hP, va_K.moved hW.alike hK, hD⟩, hS.F ht⟩) hS.2.2 dXm_thread_117 hlocks
        · have hw := hw.2 c_12
          rcases Classical.em (x2 = 2) with c_15 | c_15
          · have hw := hw.1 c_15
            refine lv_tableIn (tgt := 118) (off := 47) hx hb dXm_thread_71 (by rw [c_15]; decide) (by rw [c_15]; decide) (by rw [c_15]; decide) (by decide) ?_
            refine lv_aload_n hx hb dXm_thread_118 rfl (lv_at hl 0 rfl) ?_
            refine va_get (D := (dC, dI)) (ci := 5) (v := .ref (q 7)) (C := "ServiceThreadsModel") (T := TXm) (N := 28) hx hb hta inXm hown hK hP 0 (wM_0 q dA M) rfl 9 (by decide) (hta _ wt_574) (fun _ h9 => h9) rfl dXm_thread_119 ?_
            refine lv_iload_n hx hb dXm_thread_122 rfl (lv_at hl 1 rfl) ?_
            obtain ⟨h_16, hw⟩ := hw
            refine ro_i (w := (wM q dA)) (M := M) hx hb hK hP 7 6 (wM_7 q dA M) rfl h_16 dXm_thread_123 (fun y_17 ey_17 => ?_)
            have hw := hw y_17 ey_17
            exact W.iret (v := y_17) hx hb hr (fun t ht hW => ⟨⟨y_17, M, rfl, hw, by rw [ht]; exact hP, va_K.moved hW.alike hK, hD⟩, hS.F ht⟩) hS.2.2 dXm_thread_124 hlocks
          · have hw := hw.2 c_15
            rcases Classical.em (x2 = 3) with c_18 | c_18
            · have hw := hw.1 c_18
              refine lv_tableIn (tgt := 125) (off := 54) hx hb dXm_thread_71 (by rw [c_18]; decide) (by rw [c_18]; decide) (by rw [c_18]; decide) (by decide) ?_
              refine lv_iload_n hx hb dXm_thread_125 rfl (lv_at hl 3 rfl) ?_
              exact W.iret (v := x3) hx hb hr (fun t ht hW => ⟨⟨x3, M, rfl, hw, by rw [ht]; exact hP, va_K.moved hW.alike hK, hD⟩, hS.F ht⟩) hS.2.2 dXm_thread_126 hlocks
            · have hw := hw.2 c_18
              rcases Classical.em (x2 = 4) with c_19 | c_19
              · have hw := hw.1 c_19
                refine lv_tableIn (tgt := 127) (off := 56) hx hb dXm_thread_71 (by rw [c_19]; decide) (by rw [c_19]; decide) (by rw [c_19]; decide) (by decide) ?_
                refine lv_aload_n hx hb dXm_thread_127 rfl (lv_at hl 0 rfl) ?_
                refine va_get (D := (dC, dI)) (ci := 5) (v := .ref (q 9)) (C := "ServiceThreadsModel") (T := TXm) (N := 28) hx hb hta inXm hown hK hP 0 (wM_0 q dA M) rfl 11 (by decide) (hta _ wt_576) (fun _ h9 => h9) rfl dXm_thread_128 ?_
                refine lv_iload_n hx hb dXm_thread_131 rfl (lv_at hl 1 rfl) ?_
                obtain ⟨h_20, hw⟩ := hw
                refine ro_i (w := (wM q dA)) (M := M) hx hb hK hP 9 8 (wM_9 q dA M) rfl h_20 dXm_thread_132 (fun y_21 ey_21 => ?_)
                have hw := hw y_21 ey_21
                exact W.iret (v := y_21) hx hb hr (fun t ht hW => ⟨⟨y_21, M, rfl, hw, by rw [ht]; exact hP, va_K.moved hW.alike hK, hD⟩, hS.F ht⟩) hS.2.2 dXm_thread_133 hlocks
              · have hw := hw.2 c_19
                refine lv_tableOut (tgt := 134) hx hb dXm_thread_71 (by have n0 := lv_neT c_9 (show (0 : Int32).toInt = 0 by decide); have n1 := lv_neT c_12 (show (1 : Int32).toInt = 1 by decide); have n2 := lv_neT c_15 (show (2 : Int32).toInt = 2 by decide); have n3 := lv_neT c_18 (show (3 : Int32).toInt = 3 by decide); have n4 := lv_neT c_19 (show (4 : Int32).toInt = 4 by decide); omega) (by decide) ?_
                refine lv_aload_n hx hb dXm_thread_134 rfl (lv_at hl 0 rfl) ?_
                refine va_get (D := (dC, dI)) (ci := 5) (v := .ref (q 10)) (C := "ServiceThreadsModel") (T := TXm) (N := 28) hx hb hta inXm hown hK hP 0 (wM_0 q dA M) rfl 12 (by decide) (hta _ wt_577) (fun _ h9 => h9) rfl dXm_thread_135 ?_
                refine lv_iload_n hx hb dXm_thread_138 rfl (lv_at hl 1 rfl) ?_
                obtain ⟨h_22, hw⟩ := hw
                refine ro_i (w := (wM q dA)) (M := M) hx hb hK hP 10 9 (wM_10 q dA M) rfl h_22 dXm_thread_139 (fun y_23 ey_23 => ?_)
                have hw := hw y_23 ey_23
                exact W.iret (v := y_23) hx hb hr (fun t ht hW => ⟨⟨y_23, M, rfl, hw, by rw [ht]; exact hP, va_K.moved hW.alike hK, hD⟩, hS.F ht⟩) hS.2.2 dXm_thread_140 hlocks
    · have hw := hw.2 c_7
      refine lv_iload_n hx hb dXm_thread_45 rfl (lv_at hl 3 rfl) ?_
      refine lv_aload_n hx hb dXm_thread_46 rfl (lv_at hl 0 rfl) ?_
      refine va_get (D := (dC, dI)) (ci := 5) (v := .ref (q 14)) (C := "ServiceThreadsModel") (T := TXm) (N := 28) hx hb hta inXm hown hK hP 0 (wM_0 q dA M) rfl 16 (by decide) (hta _ wt_581) (fun _ h9 => h9) rfl dXm_thread_47 ?_
      refine lv_iload hx hb dXm_thread_50 (lv_at hl 4 rfl) ?_
      obtain ⟨h_24, hw⟩ := hw
      refine ro_i (w := (wM q dA)) (M := M) hx hb hK hP 14 13 (wM_14 q dA M) rfl h_24 dXm_thread_52 (fun y_25 ey_25 => ?_)
      have hw := hw y_25 ey_25
      refine lv_iload_n hx hb dXm_thread_53 rfl (lv_at hl 1 rfl) ?_
      refine lv_icmp_ne (tgt := 61) hx hb dXm_thread_54 (by decide) (fun c_26 => ?_) (fun c_26 => ?_)
      · have hw := hw.2 c_26
        refine lv_iconst (v := 0) hx hb dXm_thread_61 (by decide) ?_
        refine lv_iadd hx hb dXm_thread_62 ?_
        refine lv_topi (fun y_27 ey_27 => ?_)
        have hw := hw y_27 ey_27
        refine lv_istore_n (lv' := [(3, .int y_27), (0, .ref (q 0)), (1, .int x1), (2, .int x2), (4, .int x4)]) hx hb dXm_thread_63 rfl hl (by decide) rfl (fun ls hl => ?_)
        obtain ⟨x4_28, ex4_28⟩ : ∃ y : Int32, y = x4 + 1 := ⟨_, rfl⟩
        have hw := hw x4_28 ex4_28
        refine lv_iinc (v := x4_28) (lv' := [(4, .int x4_28), (3, .int y_27), (0, .ref (q 0)), (1, .int x1), (2, .int x2)]) hx hb dXm_thread_64 hl (k := 4) rfl (by rw [ex4_28]; rfl) (by decide) rfl (fun ls hl => ?_)
        refine lv_goto (tgt := 38) hx hb dXm_thread_67 (by decide) ?_
        exact ih38 x1 x2 y_27 x4_28 M _ _ _ hw hP hD hS (lv_sub hl [2, 3, 4, 1, 0] rfl)
      · have hw := hw.1 c_26
        refine lv_iconst (v := 1) hx hb dXm_thread_57 (by decide) ?_
        refine lv_goto (tgt := 62) hx hb dXm_thread_58 (by decide) ?_
        refine lv_iadd hx hb dXm_thread_62 ?_
        refine lv_topi (fun y_29 ey_29 => ?_)
        have hw := hw y_29 ey_29
        refine lv_istore_n (lv' := [(3, .int y_29), (0, .ref (q 0)), (1, .int x1), (2, .int x2), (4, .int x4)]) hx hb dXm_thread_63 rfl hl (by decide) rfl (fun ls hl => ?_)
        obtain ⟨x4_30, ex4_30⟩ : ∃ y : Int32, y = x4 + 1 := ⟨_, rfl⟩
        have hw := hw x4_30 ex4_30
        refine lv_iinc (v := x4_30) (lv' := [(4, .int x4_30), (3, .int y_29), (0, .ref (q 0)), (1, .int x1), (2, .int x2)]) hx hb dXm_thread_64 hl (k := 4) rfl (by rw [ex4_30]; rfl) (by decide) rfl (fun ls hl => ?_)
        refine lv_goto (tgt := 38) hx hb dXm_thread_67 (by decide) ?_
        exact ih38 x1 x2 y_29 x4_30 M _ _ _ hw hP hD hS (lv_sub hl [2, 3, 4, 1, 0] rfl)
set_option maxHeartbeats 4000000 in
set_option maxRecDepth 100000 in
theorem mtXm_thread (l : Launch) (dC : Nat → ClassId) (dI : Nat → Nat → Nat) (q : Nat → Nat) (dA : Nat → ClassId) (sz : Nat) (p0 : Int32) (p1 : Int32) (M : Mm) (post : Int32 → Mm → Prop) (hw : wpXm_thread p0 p1 M post) : Met l yXm_thread (wsA yXm_thread cXm_thread 5 (some .int)) ({ frames := 2, cells := 0, slots := 0, locals := 42 }) (va_Pc [.ref (q 0), .int p0, .int p1] (pW (dC, dI) vwCl (wM q dA) (tM dA) sz M)) (va_Qi post (bW (dC, dI) vwCl (wM q dA) (tM dA) (va_A (wM q dA M) sz)) (va_A (wM q dA M) sz)) 0 0 (va_A (wM q dA M) sz) := by
  refine Met.ofW (cc := cXm_thread) (maxL := 5) (ret := (some .int)) (by decide) rfl ?_
  intro p e s m args below meth c s₁ B hml hv
  obtain ⟨rfl, hsz, hP, hK, hD0⟩ := hv
  have hx := B.exec
  have hb := B.bytes
  have hr := B.returns
  have hts := atoms_spec (ws := (wsA yXm_thread cXm_thread 5 (some .int))) B.pre
  have hta : ∀ w ∈ wsG, w.before _ s = true := fun w h => hts w (List.mem_cons_of_mem _ h)
  have hown : s.vm.findClass "ServiceThreadsModel" = some m.cls := findClass_of_methodNamed B.named
  have hlocks := B.notSynchronized
  subst hsz
  have hD := hD0.self (sz := s.heap.size)
  generalize hAe : va_A (wM q dA M) s.heap.size = A at hD ⊢
  have hA : ∀ q : Nat, s.heap.size ≤ q → A q := fun q h => by rw [← hAe]; exact Or.inr h
  have hS : va_S A s.heap s.heap [] := va_S.rf
  dsimp only [wpXm_thread] at hw
  have hl := lv_entry ([.ref (q 0), .int p0, .int p1]) (n := 5) (Nat.le_of_ble_eq_true rfl)
  rw [lg_entry_eq]
  generalize (lg_sl ([.ref (q 0), .int p0, .int p1]) ++ List.replicate (5 - (lg_sl ([.ref (q 0), .int p0, .int p1])).length) Slot.unset).toArray = ls at hl ⊢
  have hl : lv_has ls 5 [(0, .ref (q 0)), (1, .int p0), (2, .int p1)] := hl
  refine lv_aload_n hx hb dXm_thread_0 rfl (lv_at hl 0 rfl) ?_
  refine lv_iload_n hx hb dXm_thread_1 rfl (lv_at hl 1 rfl) ?_
  refine cn_i (w := (wM q dA)) (M := M) (wM_ad q dA) (va_runS (As := [.int p0]) (rest := [.ref (q 0)]) ⟨hx, hb, hml, hown, hta⟩ (mtXm_isThread l dC dI q dA s.heap.size p0 M _ hw) (va_cwS 1 hta (giS wt_658 wt_659 wt_7 wt_660) rfl rfl rfl (by decide +kernel) ⟨Nat.le_of_ble_eq_true rfl, Nat.le_of_ble_eq_true rfl⟩) ⟨pW_blind, pW_of hK hP hD⟩ rfl rfl hl.1 rfl (lv_room (Nat.le_of_ble_eq_true rfl)) dXm_thread_2 ⟨Nat.le_of_ble_eq_true rfl, Nat.le_of_ble_eq_true rfl⟩) hD hS hA (fun r_1 M_2 H locs hw hP hD hS => ?_)
  refine lv_if_eq (tgt := 17) hx hb dXm_thread_5 (by decide) (fun c_3 => ?_) (fun c_3 => ?_)
  · have hw := hw.1 c_3
    refine lv_iconst (v := 1) hx hb dXm_thread_17 (by decide) ?_
    refine lv_goto (tgt := 22) hx hb dXm_thread_18 (by decide) ?_
    refine lv_iconst (v := 0) hx hb dXm_thread_22 (by decide) ?_
    refine lv_iconst (v := 0) hx hb dXm_thread_23 (by decide) ?_
    refine lv_iconst (v := 0) hx hb dXm_thread_24 (by decide) ?_
    refine cn_i (w := (wM q dA)) (M := M_2) (wM_ad q dA) (va_runV (As := [.int 1, .int 0, .int 0, .int 0]) (rest := []) ⟨hx, hb, hml, hown, hta⟩ (mtXm_throwing l dC dI q dA H.size 1 0 0 0 M_2 _ hw) (cwV 4 hta (giV wt_668 wt_670 ws_19 wt_7 wt_671) rfl rfl rfl (by decide +kernel) ⟨Nat.le_of_ble_eq_true rfl, Nat.le_of_ble_eq_true rfl⟩) ⟨pW_blind, va_recv hK hP (ci := 5) (q0 := 0) rfl (wM_0 q dA M_2), pW_of hK hP hD⟩ rfl rfl hl.1 rfl (lv_room (Nat.le_of_ble_eq_true rfl)) dXm_thread_25 ⟨Nat.le_of_ble_eq_true rfl, Nat.le_of_ble_eq_true rfl⟩) hD hS hA (fun r_4 M_5 H locs hw hP hD hS => ?_)
    refine lv_if_eq (tgt := 33) hx hb dXm_thread_28 (by decide) (fun c_6 => ?_) (fun c_6 => ?_)
    · have hw := hw.1 c_6
      refine lv_iconst (v := 0) hx hb dXm_thread_33 (by decide) ?_
      refine lv_istore_n (lv' := [(3, .int 0), (0, .ref (q 0)), (1, .int p0), (2, .int p1)]) hx hb dXm_thread_34 rfl hl (by decide) rfl (fun ls hl => ?_)
      refine lv_iconst (v := 0) hx hb dXm_thread_35 (by decide) ?_
      refine lv_istore (lv' := [(4, .int 0), (3, .int 0), (0, .ref (q 0)), (1, .int p0), (2, .int p1)]) hx hb dXm_thread_36 hl (by decide) rfl (fun ls hl => ?_)
      obtain ⟨n38, hw⟩ := hw
      exact LwlXm_thread_38 (A := A) (av := [.ref (q 0), .int p0, .int p1]) ⟨hx, hb, hr, hml, hown, hta, hA, hK, hlocks⟩ n38 p0 p1 0 0 M_5 _ _ _ hw hP hD hS (lv_sub hl [2, 3, 4, 1, 0] rfl)
    · have hw := hw.2 c_6
      refine lv_iconst (v := 0) hx hb dXm_thread_31 (by decide) ?_
      exact W.iret (v := 0) hx hb hr (fun t ht hW => ⟨⟨0, M_5, rfl, hw, by rw [ht]; exact hP, va_K.moved hW.alike hK, hD⟩, hS.F ht⟩) hS.2.2 dXm_thread_32 hlocks
  · have hw := hw.2 c_3
    refine lv_iload_n hx hb dXm_thread_8 rfl (lv_at hl 2 rfl) ?_
    refine lv_iconst (v := 0) hx hb dXm_thread_9 (by decide) ?_
    refine lv_iconst (v := 5) hx hb dXm_thread_10 (by decide) ?_
    refine cn_i (w := (wM q dA)) (M := M_2) (wM_ad q dA) (va_runS (As := [.int p1, .int 0, .int 5]) (rest := [.ref (q 0)]) ⟨hx, hb, hml, hown, hta⟩ (mtXm_in l dC dI q dA H.size p1 0 5 M_2 _ hw) (va_cwS 3 hta (giS wt_661 wt_662 wt_7 wt_663) rfl rfl rfl (by decide +kernel) ⟨Nat.le_of_ble_eq_true rfl, Nat.le_of_ble_eq_true rfl⟩) ⟨pW_blind, pW_of hK hP hD⟩ rfl rfl hl.1 rfl (lv_room (Nat.le_of_ble_eq_true rfl)) dXm_thread_11 ⟨Nat.le_of_ble_eq_true rfl, Nat.le_of_ble_eq_true rfl⟩) hD hS hA (fun r_31 M_32 H locs hw hP hD hS => ?_)
    refine lv_if_ne (tgt := 21) hx hb dXm_thread_14 (by decide) (fun c_33 => ?_) (fun c_33 => ?_)
    · have hw := hw.2 c_33
      refine lv_iconst (v := 0) hx hb dXm_thread_21 (by decide) ?_
      refine lv_iconst (v := 0) hx hb dXm_thread_22 (by decide) ?_
      refine lv_iconst (v := 0) hx hb dXm_thread_23 (by decide) ?_
      refine lv_iconst (v := 0) hx hb dXm_thread_24 (by decide) ?_
      refine cn_i (w := (wM q dA)) (M := M_32) (wM_ad q dA) (va_runV (As := [.int 0, .int 0, .int 0, .int 0]) (rest := []) ⟨hx, hb, hml, hown, hta⟩ (mtXm_throwing l dC dI q dA H.size 0 0 0 0 M_32 _ hw) (cwV 4 hta (giV wt_668 wt_670 ws_19 wt_7 wt_671) rfl rfl rfl (by decide +kernel) ⟨Nat.le_of_ble_eq_true rfl, Nat.le_of_ble_eq_true rfl⟩) ⟨pW_blind, va_recv hK hP (ci := 5) (q0 := 0) rfl (wM_0 q dA M_32), pW_of hK hP hD⟩ rfl rfl hl.1 rfl (lv_room (Nat.le_of_ble_eq_true rfl)) dXm_thread_25 ⟨Nat.le_of_ble_eq_true rfl, Nat.le_of_ble_eq_true rfl⟩) hD hS hA (fun r_34 M_35 H locs hw hP hD hS => ?_)
      refine lv_if_eq (tgt := 33) hx hb dXm_thread_28 (by decide) (fun c_36 => ?_) (fun c_36 => ?_)
      · have hw := hw.1 c_36
        refine lv_iconst (v := 0) hx hb dXm_thread_33 (by decide) ?_
        refine lv_istore_n (lv' := [(3, .int 0), (0, .ref (q 0)), (1, .int p0), (2, .int p1)]) hx hb dXm_thread_34 rfl hl (by decide) rfl (fun ls hl => ?_)
        refine lv_iconst (v := 0) hx hb dXm_thread_35 (by decide) ?_
        refine lv_istore (lv' := [(4, .int 0), (3, .int 0), (0, .ref (q 0)), (1, .int p0), (2, .int p1)]) hx hb dXm_thread_36 hl (by decide) rfl (fun ls hl => ?_)
        obtain ⟨n38, hw⟩ := hw
        exact LwlXm_thread_38 (A := A) (av := [.ref (q 0), .int p0, .int p1]) ⟨hx, hb, hr, hml, hown, hta, hA, hK, hlocks⟩ n38 p0 p1 0 0 M_35 _ _ _ hw hP hD hS (lv_sub hl [2, 3, 4, 1, 0] rfl)
      · have hw := hw.2 c_36
        refine lv_iconst (v := 0) hx hb dXm_thread_31 (by decide) ?_
        exact W.iret (v := 0) hx hb hr (fun t ht hW => ⟨⟨0, M_35, rfl, hw, by rw [ht]; exact hP, va_K.moved hW.alike hK, hD⟩, hS.F ht⟩) hS.2.2 dXm_thread_32 hlocks
    · have hw := hw.1 c_33
      refine lv_iconst (v := 1) hx hb dXm_thread_17 (by decide) ?_
      refine lv_goto (tgt := 22) hx hb dXm_thread_18 (by decide) ?_
      refine lv_iconst (v := 0) hx hb dXm_thread_22 (by decide) ?_
      refine lv_iconst (v := 0) hx hb dXm_thread_23 (by decide) ?_
      refine lv_iconst (v := 0) hx hb dXm_thread_24 (by decide) ?_
      refine cn_i (w := (wM q dA)) (M := M_32) (wM_ad q dA) (va_runV (As := [.int 1, .int 0, .int 0, .int 0]) (rest := []) ⟨hx, hb, hml, hown, hta⟩ (mtXm_throwing l dC dI q dA H.size 1 0 0 0 M_32 _ hw) (cwV 4 hta (giV wt_668 wt_670 ws_19 wt_7 wt_671) rfl rfl rfl (by decide +kernel) ⟨Nat.le_of_ble_eq_true rfl, Nat.le_of_ble_eq_true rfl⟩) ⟨pW_blind, va_recv hK hP (ci := 5) (q0 := 0) rfl (wM_0 q dA M_32), pW_of hK hP hD⟩ rfl rfl hl.1 rfl (lv_room (Nat.le_of_ble_eq_true rfl)) dXm_thread_25 ⟨Nat.le_of_ble_eq_true rfl, Nat.le_of_ble_eq_true rfl⟩) hD hS hA (fun r_37 M_38 H locs hw hP hD hS => ?_)
      refine lv_if_eq (tgt := 33) hx hb dXm_thread_28 (by decide) (fun c_39 => ?_) (fun c_39 => ?_)
      · have hw := hw.1 c_39
        refine lv_iconst (v := 0) hx hb dXm_thread_33 (by decide) ?_
        refine lv_istore_n (lv' := [(3, .int 0), (0, .ref (q 0)), (1, .int p0), (2, .int p1)]) hx hb dXm_thread_34 rfl hl (by decide) rfl (fun ls hl => ?_)
        refine lv_iconst (v := 0) hx hb dXm_thread_35 (by decide) ?_
        refine lv_istore (lv' := [(4, .int 0), (3, .int 0), (0, .ref (q 0)), (1, .int p0), (2, .int p1)]) hx hb dXm_thread_36 hl (by decide) rfl (fun ls hl => ?_)
        obtain ⟨n38, hw⟩ := hw
        exact LwlXm_thread_38 (A := A) (av := [.ref (q 0), .int p0, .int p1]) ⟨hx, hb, hr, hml, hown, hta, hA, hK, hlocks⟩ n38 p0 p1 0 0 M_38 _ _ _ hw hP hD hS (lv_sub hl [2, 3, 4, 1, 0] rfl)
      · have hw := hw.2 c_39
        refine lv_iconst (v := 0) hx hb dXm_thread_31 (by decide) ?_
        exact W.iret (v := 0) hx hb hr (fun t ht hW => ⟨⟨0, M_38, rfl, hw, by rw [ht]; exact hP, va_K.moved hW.alike hK, hD⟩, hS.F ht⟩) hS.2.2 dXm_thread_32 hlocks
def wpXm_row (p0 : Int32) (p1 : Int32) (M : Mm) (post : Int32 → Mm → Prop) : Prop := ∀ y_1 : Int32, y_1 = M 23 0 → (∀ y_2 : Int32, y_2 = y_1 - 1 → (wpXm_in p0 0 y_2 M (fun r_3 M_4 => (((r_3 = 0 → (wpXm_throwing 1 0 0 0 M_4 (fun r_6 M_7 => (((r_6 = 0 → (((p1 = 0 → (vp_in p0 100 ∧ (∀ y_19 : Int32, y_19 = M_7 10 p0.toNatClampNeg → (post y_19 M_7)))) ∧ (¬ p1 = 0 → (((p1 = 1 → (vp_in p0 100 ∧ (∀ y_17 : Int32, y_17 = M_7 11 p0.toNatClampNeg → (post y_17 M_7)))) ∧ (¬ p1 = 1 → (((p1 = 2 → (vp_in p0 100 ∧ (∀ y_15 : Int32, y_15 = M_7 12 p0.toNatClampNeg → (post y_15 M_7)))) ∧ (¬ p1 = 2 → (vp_in p0 100 ∧ (∀ y_13 : Int32, y_13 = M_7 13 p0.toNatClampNeg → (post y_13 M_7))))))))))))) ∧ (¬ r_6 = 0 → (post 0 M_7))))))) ∧ (¬ r_3 = 0 → (wpXm_in p1 0 3 M_4 (fun r_20 M_21 => (((r_20 = 0 → (wpXm_throwing 1 0 0 0 M_21 (fun r_37 M_38 => (((r_37 = 0 → (((p1 = 0 → (vp_in p0 100 ∧ (∀ y_50 : Int32, y_50 = M_38 10 p0.toNatClampNeg → (post y_50 M_38)))) ∧ (¬ p1 = 0 → (((p1 = 1 → (vp_in p0 100 ∧ (∀ y_48 : Int32, y_48 = M_38 11 p0.toNatClampNeg → (post y_48 M_38)))) ∧ (¬ p1 = 1 → (((p1 = 2 → (vp_in p0 100 ∧ (∀ y_46 : Int32, y_46 = M_38 12 p0.toNatClampNeg → (post y_46 M_38)))) ∧ (¬ p1 = 2 → (vp_in p0 100 ∧ (∀ y_44 : Int32, y_44 = M_38 13 p0.toNatClampNeg → (post y_44 M_38))))))))))))) ∧ (¬ r_37 = 0 → (post 0 M_38))))))) ∧ (¬ r_20 = 0 → (wpXm_throwing 0 0 0 0 M_21 (fun r_23 M_24 => (((r_23 = 0 → (((p1 = 0 → (vp_in p0 100 ∧ (∀ y_36 : Int32, y_36 = M_24 10 p0.toNatClampNeg → (post y_36 M_24)))) ∧ (¬ p1 = 0 → (((p1 = 1 → (vp_in p0 100 ∧ (∀ y_34 : Int32, y_34 = M_24 11 p0.toNatClampNeg → (post y_34 M_24)))) ∧ (¬ p1 = 1 → (((p1 = 2 → (vp_in p0 100 ∧ (∀ y_32 : Int32, y_32 = M_24 12 p0.toNatClampNeg → (post y_32 M_24)))) ∧ (¬ p1 = 2 → (vp_in p0 100 ∧ (∀ y_30 : Int32, y_30 = M_24 13 p0.toNatClampNeg → (post y_30 M_24))))))))))))) ∧ (¬ r_23 = 0 → (post 0 M_24)))))))))))))))))
set_option maxHeartbeats 4000000 in
set_option maxRecDepth 100000 in
theorem mtXm_row (l : Launch) (dC : Nat → ClassId) (dI : Nat → Nat → Nat) (q : Nat → Nat) (dA : Nat → ClassId) (sz : Nat) (p0 : Int32) (p1 : Int32) (M : Mm) (post : Int32 → Mm → Prop) (hw : wpXm_row p0 p1 M post) : Met l yXm_row (wsA yXm_row cXm_row 3 (some .int)) ({ frames := 1, cells := 0, slots := 0, locals := 24 }) (va_Pc [.ref (q 0), .int p0, .int p1] (pW (dC, dI) vwCl (wM q dA) (tM dA) sz M)) (va_Qi post (bW (dC, dI) vwCl (wM q dA) (tM dA) (va_A (wM q dA M) sz)) (va_A (wM q dA M) sz)) 0 0 (va_A (wM q dA M) sz) := by
  refine Met.ofW (cc := cXm_row) (maxL := 3) (ret := (some .int)) (by decide) rfl ?_
  intro p e s m args below meth c s₁ B hml hv
  obtain ⟨rfl, hsz, hP, hK, hD0⟩ := hv
  have hx := B.exec
  have hb := B.bytes
  have hr := B.returns
  have hts := atoms_spec (ws := (wsA yXm_row cXm_row 3 (some .int))) B.pre
  have hta : ∀ w ∈ wsG, w.before _ s = true := fun w h => hts w (List.mem_cons_of_mem _ h)
  have hown : s.vm.findClass "ServiceThreadsModel" = some m.cls := findClass_of_methodNamed B.named
  have hlocks := B.notSynchronized
  subst hsz
  have hD := hD0.self (sz := s.heap.size)
  generalize hAe : va_A (wM q dA M) s.heap.size = A at hD ⊢
  have hA : ∀ q : Nat, s.heap.size ≤ q → A q := fun q h => by rw [← hAe]; exact Or.inr h
  have hS : va_S A s.heap s.heap [] := va_S.rf
  dsimp only [wpXm_row] at hw
  have hl := lv_entry ([.ref (q 0), .int p0, .int p1]) (n := 3) (Nat.le_of_ble_eq_true rfl)
  rw [lg_entry_eq]
  generalize (lg_sl ([.ref (q 0), .int p0, .int p1]) ++ List.replicate (3 - (lg_sl ([.ref (q 0), .int p0, .int p1])).length) Slot.unset).toArray = ls at hl ⊢
  have hl : lv_has ls 3 [(0, .ref (q 0)), (1, .int p0), (2, .int p1)] := hl
  refine lv_aload_n hx hb dXm_row_0 rfl (lv_at hl 0 rfl) ?_
  refine lv_iload_n hx hb dXm_row_1 rfl (lv_at hl 1 rfl) ?_
  refine lv_iconst (v := 0) hx hb dXm_row_2 (by decide) ?_
  refine lv_aload_n hx hb dXm_row_3 rfl (lv_at hl 0 rfl) ?_
  refine va_get (D := (dC, dI)) (ci := 5) (v := .int (M 23 0)) (C := "ServiceThreadsModel") (T := TXm) (N := 28) hx hb hta inXm hown hK hP 0 (wM_0 q dA M) rfl 23 (by decide) (hta _ wt_588) (fun _ h9 => h9) rfl dXm_row_4 ?_
  refine lv_topi (fun y_1 ey_1 => ?_)
  have hw := hw y_1 ey_1
  refine lv_iconst (v := 1) hx hb dXm_row_7 (by decide) ?_
  refine lv_isub hx hb dXm_row_8 ?_
  refine lv_topi (fun y_2 ey_2 => ?_)
  have hw := hw y_2 ey_2
  refine cn_i (w := (wM q dA)) (M := M) (wM_ad q dA) (va_runS (As := [.int p0, .int 0, .int y_2]) (rest := [.ref (q 0)]) ⟨hx, hb, hml, hown, hta⟩ (mtXm_in l dC dI q dA s.heap.size p0 0 y_2 M _ hw) (va_cwS 3 hta (giS wt_661 wt_662 wt_7 wt_663) rfl rfl rfl (by decide +kernel) ⟨Nat.le_of_ble_eq_true rfl, Nat.le_of_ble_eq_true rfl⟩) ⟨pW_blind, pW_of hK hP hD⟩ rfl rfl hl.1 rfl (lv_room (Nat.le_of_ble_eq_true rfl)) dXm_row_9 ⟨Nat.le_of_ble_eq_true rfl, Nat.le_of_ble_eq_true rfl⟩) hD hS hA (fun r_3 M_4 H locs hw hP hD hS => ?_)
  refine lv_if_eq (tgt := 24) hx hb dXm_row_12 (by decide) (fun c_5 => ?_) (fun c_5 => ?_)
  · have hw := hw.1 c_5
    refine lv_iconst (v := 1) hx hb dXm_row_24 (by decide) ?_
    refine lv_goto (tgt := 29) hx hb dXm_row_25 (by decide) ?_
    refine lv_iconst (v := 0) hx hb dXm_row_29 (by decide) ?_
    refine lv_iconst (v := 0) hx hb dXm_row_30 (by decide) ?_
    refine lv_iconst (v := 0) hx hb dXm_row_31 (by decide) ?_
    refine cn_i (w := (wM q dA)) (M := M_4) (wM_ad q dA) (va_runV (As := [.int 1, .int 0, .int 0, .int 0]) (rest := []) ⟨hx, hb, hml, hown, hta⟩ (mtXm_throwing l dC dI q dA H.size 1 0 0 0 M_4 _ hw) (cwV 4 hta (giV wt_668 wt_670 ws_19 wt_7 wt_671) rfl rfl rfl (by decide +kernel) ⟨Nat.le_of_ble_eq_true rfl, Nat.le_of_ble_eq_true rfl⟩) ⟨pW_blind, va_recv hK hP (ci := 5) (q0 := 0) rfl (wM_0 q dA M_4), pW_of hK hP hD⟩ rfl rfl hl.1 rfl (lv_room (Nat.le_of_ble_eq_true rfl)) dXm_row_32 ⟨Nat.le_of_ble_eq_true rfl, Nat.le_of_ble_eq_true rfl⟩) hD hS hA (fun r_6 M_7 H locs hw hP hD hS => ?_)
    refine lv_if_eq (tgt := 40) hx hb dXm_row_35 (by decide) (fun c_8 => ?_) (fun c_8 => ?_)
    · have hw := hw.1 c_8
      refine lv_iload_n hx hb dXm_row_40 rfl (lv_at hl 2 rfl) ?_
      refine lv_if_ne (tgt := 53) hx hb dXm_row_41 (by decide) (fun c_9 => ?_) (fun c_9 => ?_)
      · have hw := hw.2 c_9
        refine lv_iload_n hx hb dXm_row_53 rfl (lv_at hl 2 rfl) ?_
        refine lv_iconst (v := 1) hx hb dXm_row_54 (by decide) ?_
        refine lv_icmp_ne (tgt := 67) hx hb dXm_row_55 (by decide) (fun c_10 => ?_) (fun c_10 => ?_)
        · have hw := hw.2 c_10
          refine lv_iload_n hx hb dXm_row_67 rfl (lv_at hl 2 rfl) ?_
          refine lv_iconst (v := 2) hx hb dXm_row_68 (by decide) ?_
          refine lv_icmp_ne (tgt := 81) hx hb dXm_row_69 (by decide) (fun c_11 => ?_) (fun c_11 => ?_)
          · have hw := hw.2 c_11
            refine lv_aload_n hx hb dXm_row_81 rfl (lv_at hl 0 rfl) ?_
            refine va_get (D := (dC, dI)) (ci := 5) (v := .ref (q 23)) (C := "ServiceThreadsModel") (T := TXm) (N := 28) hx hb hta inXm hown hK hP 0 (wM_0 q dA M_7) rfl 27 (by decide) (hta _ wt_592) (fun _ h9 => h9) rfl dXm_row_82 ?_
            refine lv_iload_n hx hb dXm_row_85 rfl (lv_at hl 1 rfl) ?_
            obtain ⟨h_12, hw⟩ := hw
            refine ro_i (w := (wM q dA)) (M := M_7) hx hb hK hP 23 22 (wM_23 q dA M_7) rfl h_12 dXm_row_86 (fun y_13 ey_13 => ?_)
            have hw := hw y_13 ey_13
            exact W.iret (v := y_13) hx hb hr (fun t ht hW => ⟨⟨y_13, M_7, rfl, hw, by rw [ht]; exact hP, va_K.moved hW.alike hK, hD⟩, hS.F ht⟩) hS.2.2 dXm_row_87 hlocks
          · have hw := hw.1 c_11
            refine lv_aload_n hx hb dXm_row_72 rfl (lv_at hl 0 rfl) ?_
            refine va_get (D := (dC, dI)) (ci := 5) (v := .ref (q 22)) (C := "ServiceThreadsModel") (T := TXm) (N := 28) hx hb hta inXm hown hK hP 0 (wM_0 q dA M_7) rfl 26 (by decide) (hta _ wt_591) (fun _ h9 => h9) rfl dXm_row_73 ?_
            refine lv_iload_n hx hb dXm_row_76 rfl (lv_at hl 1 rfl) ?_
            obtain ⟨h_14, hw⟩ := hw
            refine ro_i (w := (wM q dA)) (M := M_7) hx hb hK hP 22 21 (wM_22 q dA M_7) rfl h_14 dXm_row_77 (fun y_15 ey_15 => ?_)
            have hw := hw y_15 ey_15
            refine lv_goto (tgt := 87) hx hb dXm_row_78 (by decide) ?_
            exact W.iret (v := y_15) hx hb hr (fun t ht hW => ⟨⟨y_15, M_7, rfl, hw, by rw [ht]; exact hP, va_K.moved hW.alike hK, hD⟩, hS.F ht⟩) hS.2.2 dXm_row_87 hlocks
        · have hw := hw.1 c_10
          refine lv_aload_n hx hb dXm_row_58 rfl (lv_at hl 0 rfl) ?_
          refine va_get (D := (dC, dI)) (ci := 5) (v := .ref (q 21)) (C := "ServiceThreadsModel") (T := TXm) (N := 28) hx hb hta inXm hown hK hP 0 (wM_0 q dA M_7) rfl 25 (by decide) (hta _ wt_590) (fun _ h9 => h9) rfl dXm_row_59 ?_
          refine lv_iload_n hx hb dXm_row_62 rfl (lv_at hl 1 rfl) ?_
          obtain ⟨h_16, hw⟩ := hw
          refine ro_i (w := (wM q dA)) (M := M_7) hx hb hK hP 21 20 (wM_21 q dA M_7) rfl h_16 dXm_row_63 (fun y_17 ey_17 => ?_)
          have hw := hw y_17 ey_17
          refine lv_goto (tgt := 87) hx hb dXm_row_64 (by decide) ?_
          exact W.iret (v := y_17) hx hb hr (fun t ht hW => ⟨⟨y_17, M_7, rfl, hw, by rw [ht]; exact hP, va_K.moved hW.alike hK, hD⟩, hS.F ht⟩) hS.2.2 dXm_row_87 hlocks
      · have hw := hw.1 c_9
        refine lv_aload_n hx hb dXm_row_44 rfl (lv_at hl 0 rfl) ?_
        refine va_get (D := (dC, dI)) (ci := 5) (v := .ref (q 20)) (C := "ServiceThreadsModel") (T := TXm) (N := 28) hx hb hta inXm hown hK hP 0 (wM_0 q dA M_7) rfl 24 (by decide) (hta _ wt_589) (fun _ h9 => h9) rfl dXm_row_45 ?_
        refine lv_iload_n hx hb dXm_row_48 rfl (lv_at hl 1 rfl) ?_
        obtain ⟨h_18, hw⟩ := hw
        refine ro_i (w := (wM q dA)) (M := M_7) hx hb hK hP 20 19 (wM_20 q dA M_7) rfl h_18 dXm_row_49 (fun y_19 ey_19 => ?_)
        have hw := hw y_19 ey_19
        refine lv_goto (tgt := 87) hx hb dXm_row_50 (by decide) ?_
        exact W.iret (v := y_19) hx hb hr (fun t ht hW => ⟨⟨y_19, M_7, rfl, hw, by rw [ht]; exact hP, va_K.moved hW.alike hK, hD⟩, hS.F ht⟩) hS.2.2 dXm_row_87 hlocks
    · have hw := hw.2 c_8
      refine lv_iconst (v := 0) hx hb dXm_row_38 (by decide) ?_
      exact W.iret (v := 0) hx hb hr (fun t ht hW => ⟨⟨0, M_7, rfl, hw, by rw [ht]; exact hP, va_K.moved hW.alike hK, hD⟩, hS.F ht⟩) hS.2.2 dXm_row_39 hlocks
  · have hw := hw.2 c_5
    refine lv_iload_n hx hb dXm_row_15 rfl (lv_at hl 2 rfl) ?_
    refine lv_iconst (v := 0) hx hb dXm_row_16 (by decide) ?_
    refine lv_iconst (v := 3) hx hb dXm_row_17 (by decide) ?_
    refine cn_i (w := (wM q dA)) (M := M_4) (wM_ad q dA) (va_runS (As := [.int p1, .int 0, .int 3]) (rest := [.ref (q 0)]) ⟨hx, hb, hml, hown, hta⟩ (mtXm_in l dC dI q dA H.size p1 0 3 M_4 _ hw) (va_cwS 3 hta (giS wt_661 wt_662 wt_7 wt_663) rfl rfl rfl (by decide +kernel) ⟨Nat.le_of_ble_eq_true rfl, Nat.le_of_ble_eq_true rfl⟩) ⟨pW_blind, pW_of hK hP hD⟩ rfl rfl hl.1 rfl (lv_room (Nat.le_of_ble_eq_true rfl)) dXm_row_18 ⟨Nat.le_of_ble_eq_true rfl, Nat.le_of_ble_eq_true rfl⟩) hD hS hA (fun r_20 M_21 H locs hw hP hD hS => ?_)
    refine lv_if_ne (tgt := 28) hx hb dXm_row_21 (by decide) (fun c_22 => ?_) (fun c_22 => ?_)
    · have hw := hw.2 c_22
      refine lv_iconst (v := 0) hx hb dXm_row_28 (by decide) ?_
      refine lv_iconst (v := 0) hx hb dXm_row_29 (by decide) ?_
      refine lv_iconst (v := 0) hx hb dXm_row_30 (by decide) ?_
      refine lv_iconst (v := 0) hx hb dXm_row_31 (by decide) ?_
      refine cn_i (w := (wM q dA)) (M := M_21) (wM_ad q dA) (va_runV (As := [.int 0, .int 0, .int 0, .int 0]) (rest := []) ⟨hx, hb, hml, hown, hta⟩ (mtXm_throwing l dC dI q dA H.size 0 0 0 0 M_21 _ hw) (cwV 4 hta (giV wt_668 wt_670 ws_19 wt_7 wt_671) rfl rfl rfl (by decide +kernel) ⟨Nat.le_of_ble_eq_true rfl, Nat.le_of_ble_eq_true rfl⟩) ⟨pW_blind, va_recv hK hP (ci := 5) (q0 := 0) rfl (wM_0 q dA M_21), pW_of hK hP hD⟩ rfl rfl hl.1 rfl (lv_room (Nat.le_of_ble_eq_true rfl)) dXm_row_32 ⟨Nat.le_of_ble_eq_true rfl, Nat.le_of_ble_eq_true rfl⟩) hD hS hA (fun r_23 M_24 H locs hw hP hD hS => ?_)
      refine lv_if_eq (tgt := 40) hx hb dXm_row_35 (by decide) (fun c_25 => ?_) (fun c_25 => ?_)
      · have hw := hw.1 c_25
        refine lv_iload_n hx hb dXm_row_40 rfl (lv_at hl 2 rfl) ?_
        refine lv_if_ne (tgt := 53) hx hb dXm_row_41 (by decide) (fun c_26 => ?_) (fun c_26 => ?_)
        · have hw := hw.2 c_26
          refine lv_iload_n hx hb dXm_row_53 rfl (lv_at hl 2 rfl) ?_
          refine lv_iconst (v := 1) hx hb dXm_row_54 (by decide) ?_
          refine lv_icmp_ne (tgt := 67) hx hb dXm_row_55 (by decide) (fun c_27 => ?_) (fun c_27 => ?_)
          · have hw := hw.2 c_27
            refine lv_iload_n hx hb dXm_row_67 rfl (lv_at hl 2 rfl) ?_
            refine lv_iconst (v := 2) hx hb dXm_row_68 (by decide) ?_
            refine lv_icmp_ne (tgt := 81) hx hb dXm_row_69 (by decide) (fun c_28 => ?_) (fun c_28 => ?_)
            · have hw := hw.2 c_28
              refine lv_aload_n hx hb dXm_row_81 rfl (lv_at hl 0 rfl) ?_
              refine va_get (D := (dC, dI)) (ci := 5) (v := .ref (q 23)) (C := "ServiceThreadsModel") (T := TXm) (N := 28) hx hb hta inXm hown hK hP 0 (wM_0 q dA M_24) rfl 27 (by decide) (hta _ wt_592) (fun _ h9 => h9) rfl dXm_row_82 ?_
              refine lv_iload_n hx hb dXm_row_85 rfl (lv_at hl 1 rfl) ?_
              obtain ⟨h_29, hw⟩ := hw
              refine ro_i (w := (wM q dA)) (M := M_24) hx hb hK hP 23 22 (wM_23 q dA M_24) rfl h_29 dXm_row_86 (fun y_30 ey_30 => ?_)
              have hw := hw y_30 ey_30
              exact W.iret (v := y_30) hx hb hr (fun t ht hW => ⟨⟨y_30, M_24, rfl, hw, by rw [ht]; exact hP, va_K.moved hW.alike hK, hD⟩, hS.F ht⟩) hS.2.2 dXm_row_87 hlocks
            · have hw := hw.1 c_28
              refine lv_aload_n hx hb dXm_row_72 rfl (lv_at hl 0 rfl) ?_
              refine va_get (D := (dC, dI)) (ci := 5) (v := .ref (q 22)) (C := "ServiceThreadsModel") (T := TXm) (N := 28) hx hb hta inXm hown hK hP 0 (wM_0 q dA M_24) rfl 26 (by decide) (hta _ wt_591) (fun _ h9 => h9) rfl dXm_row_73 ?_
              refine lv_iload_n hx hb dXm_row_76 rfl (lv_at hl 1 rfl) ?_
              obtain ⟨h_31, hw⟩ := hw
              refine ro_i (w := (wM q dA)) (M := M_24) hx hb hK hP 22 21 (wM_22 q dA M_24) rfl h_31 dXm_row_77 (fun y_32 ey_32 => ?_)
              have hw := hw y_32 ey_32
              refine lv_goto (tgt := 87) hx hb dXm_row_78 (by decide) ?_
              exact W.iret (v := y_32) hx hb hr (fun t ht hW => ⟨⟨y_32, M_24, rfl, hw, by rw [ht]; exact hP, va_K.moved hW.alike hK, hD⟩, hS.F ht⟩) hS.2.2 dXm_row_87 hlocks
          · have hw := hw.1 c_27
            refine lv_aload_n hx hb dXm_row_58 rfl (lv_at hl 0 rfl) ?_
            refine va_get (D := (dC, dI)) (ci := 5) (v := .ref (q 21)) (C := "ServiceThreadsModel") (T := TXm) (N := 28) hx hb hta inXm hown hK hP 0 (wM_0 q dA M_24) rfl 25 (by decide) (hta _ wt_590) (fun _ h9 => h9) rfl dXm_row_59 ?_
            refine lv_iload_n hx hb dXm_row_62 rfl (lv_at hl 1 rfl) ?_
            obtain ⟨h_33, hw⟩ := hw
            refine ro_i (w := (wM q dA)) (M := M_24) hx hb hK hP 21 20 (wM_21 q dA M_24) rfl h_33 dXm_row_63 (fun y_34 ey_34 => ?_)
            have hw := hw y_34 ey_34
            refine lv_goto (tgt := 87) hx hb dXm_row_64 (by decide) ?_
            exact W.iret (v := y_34) hx hb hr (fun t ht hW => ⟨⟨y_34, M_24, rfl, hw, by rw [ht]; exact hP, va_K.moved hW.alike hK, hD⟩, hS.F ht⟩) hS.2.2 dXm_row_87 hlocks
        · have hw := hw.1 c_26
          refine lv_aload_n hx hb dXm_row_44 rfl (lv_at hl 0 rfl) ?_
          refine va_get (D := (dC, dI)) (ci := 5) (v := .ref (q 20)) (C := "ServiceThreadsModel") (T := TXm) (N := 28) hx hb hta inXm hown hK hP 0 (wM_0 q dA M_24) rfl 24 (by decide) (hta _ wt_589) (fun _ h9 => h9) rfl dXm_row_45 ?_
          refine lv_iload_n hx hb dXm_row_48 rfl (lv_at hl 1 rfl) ?_
          obtain ⟨h_35, hw⟩ := hw
          refine ro_i (w := (wM q dA)) (M := M_24) hx hb hK hP 20 19 (wM_20 q dA M_24) rfl h_35 dXm_row_49 (fun y_36 ey_36 => ?_)
          have hw := hw y_36 ey_36
          refine lv_goto (tgt := 87) hx hb dXm_row_50 (by decide) ?_
          exact W.iret (v := y_36) hx hb hr (fun t ht hW => ⟨⟨y_36, M_24, rfl, hw, by rw [ht]; exact hP, va_K.moved hW.alike hK, hD⟩, hS.F ht⟩) hS.2.2 dXm_row_87 hlocks
      · have hw := hw.2 c_25
        refine lv_iconst (v := 0) hx hb dXm_row_38 (by decide) ?_
        exact W.iret (v := 0) hx hb hr (fun t ht hW => ⟨⟨0, M_24, rfl, hw, by rw [ht]; exact hP, va_K.moved hW.alike hK, hD⟩, hS.F ht⟩) hS.2.2 dXm_row_39 hlocks
    · have hw := hw.1 c_22
      refine lv_iconst (v := 1) hx hb dXm_row_24 (by decide) ?_
      refine lv_goto (tgt := 29) hx hb dXm_row_25 (by decide) ?_
      refine lv_iconst (v := 0) hx hb dXm_row_29 (by decide) ?_
      refine lv_iconst (v := 0) hx hb dXm_row_30 (by decide) ?_
      refine lv_iconst (v := 0) hx hb dXm_row_31 (by decide) ?_
      refine cn_i (w := (wM q dA)) (M := M_21) (wM_ad q dA) (va_runV (As := [.int 1, .int 0, .int 0, .int 0]) (rest := []) ⟨hx, hb, hml, hown, hta⟩ (mtXm_throwing l dC dI q dA H.size 1 0 0 0 M_21 _ hw) (cwV 4 hta (giV wt_668 wt_670 ws_19 wt_7 wt_671) rfl rfl rfl (by decide +kernel) ⟨Nat.le_of_ble_eq_true rfl, Nat.le_of_ble_eq_true rfl⟩) ⟨pW_blind, va_recv hK hP (ci := 5) (q0 := 0) rfl (wM_0 q dA M_21), pW_of hK hP hD⟩ rfl rfl hl.1 rfl (lv_room (Nat.le_of_ble_eq_true rfl)) dXm_row_32 ⟨Nat.le_of_ble_eq_true rfl, Nat.le_of_ble_eq_true rfl⟩) hD hS hA (fun r_37 M_38 H locs hw hP hD hS => ?_)
      refine lv_if_eq (tgt := 40) hx hb dXm_row_35 (by decide) (fun c_39 => ?_) (fun c_39 => ?_)
      · have hw := hw.1 c_39
        refine lv_iload_n hx hb dXm_row_40 rfl (lv_at hl 2 rfl) ?_
        refine lv_if_ne (tgt := 53) hx hb dXm_row_41 (by decide) (fun c_40 => ?_) (fun c_40 => ?_)
        · have hw := hw.2 c_40
          refine lv_iload_n hx hb dXm_row_53 rfl (lv_at hl 2 rfl) ?_
          refine lv_iconst (v := 1) hx hb dXm_row_54 (by decide) ?_
          refine lv_icmp_ne (tgt := 67) hx hb dXm_row_55 (by decide) (fun c_41 => ?_) (fun c_41 => ?_)
          · have hw := hw.2 c_41
            refine lv_iload_n hx hb dXm_row_67 rfl (lv_at hl 2 rfl) ?_
            refine lv_iconst (v := 2) hx hb dXm_row_68 (by decide) ?_
            refine lv_icmp_ne (tgt := 81) hx hb dXm_row_69 (by decide) (fun c_42 => ?_) (fun c_42 => ?_)
            · have hw := hw.2 c_42
              refine lv_aload_n hx hb dXm_row_81 rfl (lv_at hl 0 rfl) ?_
              refine va_get (D := (dC, dI)) (ci := 5) (v := .ref (q 23)) (C := "ServiceThreadsModel") (T := TXm) (N := 28) hx hb hta inXm hown hK hP 0 (wM_0 q dA M_38) rfl 27 (by decide) (hta _ wt_592) (fun _ h9 => h9) rfl dXm_row_82 ?_
              refine lv_iload_n hx hb dXm_row_85 rfl (lv_at hl 1 rfl) ?_
              obtain ⟨h_43, hw⟩ := hw
              refine ro_i (w := (wM q dA)) (M := M_38) hx hb hK hP 23 22 (wM_23 q dA M_38) rfl h_43 dXm_row_86 (fun y_44 ey_44 => ?_)
              have hw := hw y_44 ey_44
              exact W.iret (v := y_44) hx hb hr (fun t ht hW => ⟨⟨y_44, M_38, rfl, hw, by rw [ht]; exact hP, va_K.moved hW.alike hK, hD⟩, hS.F ht⟩) hS.2.2 dXm_row_87 hlocks
            · have hw := hw.1 c_42
              refine lv_aload_n hx hb dXm_row_72 rfl (lv_at hl 0 rfl) ?_
              refine va_get (D := (dC, dI)) (ci := 5) (v := .ref (q 22)) (C := "ServiceThreadsModel") (T := TXm) (N := 28) hx hb hta inXm hown hK hP 0 (wM_0 q dA M_38) rfl 26 (by decide) (hta _ wt_591) (fun _ h9 => h9) rfl dXm_row_73 ?_
              refine lv_iload_n hx hb dXm_row_76 rfl (lv_at hl 1 rfl) ?_
              obtain ⟨h_45, hw⟩ := hw
              refine ro_i (w := (wM q dA)) (M := M_38) hx hb hK hP 22 21 (wM_22 q dA M_38) rfl h_45 dXm_row_77 (fun y_46 ey_46 => ?_)
              have hw := hw y_46 ey_46
              refine lv_goto (tgt := 87) hx hb dXm_row_78 (by decide) ?_
              exact W.iret (v := y_46) hx hb hr (fun t ht hW => ⟨⟨y_46, M_38, rfl, hw, by rw [ht]; exact hP, va_K.moved hW.alike hK, hD⟩, hS.F ht⟩) hS.2.2 dXm_row_87 hlocks
          · have hw := hw.1 c_41
            refine lv_aload_n hx hb dXm_row_58 rfl (lv_at hl 0 rfl) ?_
            refine va_get (D := (dC, dI)) (ci := 5) (v := .ref (q 21)) (C := "ServiceThreadsModel") (T := TXm) (N := 28) hx hb hta inXm hown hK hP 0 (wM_0 q dA M_38) rfl 25 (by decide) (hta _ wt_590) (fun _ h9 => h9) rfl dXm_row_59 ?_
            refine lv_iload_n hx hb dXm_row_62 rfl (lv_at hl 1 rfl) ?_
            obtain ⟨h_47, hw⟩ := hw
            refine ro_i (w := (wM q dA)) (M := M_38) hx hb hK hP 21 20 (wM_21 q dA M_38) rfl h_47 dXm_row_63 (fun y_48 ey_48 => ?_)
            have hw := hw y_48 ey_48
            refine lv_goto (tgt := 87) hx hb dXm_row_64 (by decide) ?_
            exact W.iret (v := y_48) hx hb hr (fun t ht hW => ⟨⟨y_48, M_38, rfl, hw, by rw [ht]; exact hP, va_K.moved hW.alike hK, hD⟩, hS.F ht⟩) hS.2.2 dXm_row_87 hlocks
        · have hw := hw.1 c_40
          refine lv_aload_n hx hb dXm_row_44 rfl (lv_at hl 0 rfl) ?_
          refine va_get (D := (dC, dI)) (ci := 5) (v := .ref (q 20)) (C := "ServiceThreadsModel") (T := TXm) (N := 28) hx hb hta inXm hown hK hP 0 (wM_0 q dA M_38) rfl 24 (by decide) (hta _ wt_589) (fun _ h9 => h9) rfl dXm_row_45 ?_
          refine lv_iload_n hx hb dXm_row_48 rfl (lv_at hl 1 rfl) ?_
          obtain ⟨h_49, hw⟩ := hw
          refine ro_i (w := (wM q dA)) (M := M_38) hx hb hK hP 20 19 (wM_20 q dA M_38) rfl h_49 dXm_row_49 (fun y_50 ey_50 => ?_)
          have hw := hw y_50 ey_50
          refine lv_goto (tgt := 87) hx hb dXm_row_50 (by decide) ?_
          exact W.iret (v := y_50) hx hb hr (fun t ht hW => ⟨⟨y_50, M_38, rfl, hw, by rw [ht]; exact hP, va_K.moved hW.alike hK, hD⟩, hS.F ht⟩) hS.2.2 dXm_row_87 hlocks
      · have hw := hw.2 c_39
        refine lv_iconst (v := 0) hx hb dXm_row_38 (by decide) ?_
        exact W.iret (v := 0) hx hb hr (fun t ht hW => ⟨⟨0, M_38, rfl, hw, by rw [ht]; exact hP, va_K.moved hW.alike hK, hD⟩, hS.F ht⟩) hS.2.2 dXm_row_39 hlocks
def wlXm_count_133 (post : Int32 → Mm → Prop) : Nat → Int32 → Int32 → Int32 → Int32 → Int32 → Int32 → Mm → Prop
  | 0, _, _, _, _, _, _ => fun _ => False
  | n133 + 1, x1, x2, x3, x4, x5, x6 => fun M => ∀ y_9 : Int32, y_9 = M 22 0 → (((y_9 ≤ x6 → (((x1 = 0 → (∀ y_17 : Int32, y_17 = M 24 0 → (post y_17 M))) ∧ (¬ x1 = 0 → (((x1 = 1 → (∀ y_16 : Int32, y_16 = M 23 0 → (post y_16 M))) ∧ (¬ x1 = 1 → (((x1 = 2 → (post x2 M)) ∧ (¬ x1 = 2 → (((x1 = 3 → (post x3 M)) ∧ (¬ x1 = 3 → (((x1 = 4 → (post x5 M)) ∧ (¬ x1 = 4 → (post x4 M))))))))))))))))) ∧ (¬ y_9 ≤ x6 → (vp_in x6 16 ∧ (∀ y_19 : Int32, y_19 = M 9 x6.toNatClampNeg → (((y_19 = 0 → (∀ y_21 : Int32, y_21 = x5 + 0 → (∀ x6_22 : Int32, x6_22 = x6 + 1 → (wlXm_count_133 post n133 x1 x2 x3 x4 y_21 x6_22 M)))) ∧ (¬ y_19 = 0 → (∀ y_23 : Int32, y_23 = x5 + 1 → (∀ x6_24 : Int32, x6_24 = x6 + 1 → (wlXm_count_133 post n133 x1 x2 x3 x4 y_23 x6_24 M)))))))))))
def wlXm_count_76 (post : Int32 → Mm → Prop) : Nat → Int32 → Int32 → Int32 → Int32 → Int32 → Mm → Prop
  | 0, _, _, _, _, _ => fun _ => False
  | n76 + 1, x1, x2, x3, x4, x5 => fun M => ((10 ≤ x5 → (∃ n133 : Nat, wlXm_count_133 post n133 x1 x2 x3 x4 0 0 M)) ∧ (¬ 10 ≤ x5 → (vp_in x5 10 ∧ (∀ y_26 : Int32, y_26 = M 5 x5.toNatClampNeg → (((y_26 < 0 → (∀ y_28 : Int32, y_28 = x3 + 0 → (vp_in x5 10 ∧ (∀ y_30 : Int32, y_30 = M 4 x5.toNatClampNeg → (((y_30 < 0 → (∀ y_32 : Int32, y_32 = x4 + 0 → (∀ x5_33 : Int32, x5_33 = x5 + 1 → (wlXm_count_76 post n76 x1 x2 y_28 y_32 x5_33 M)))) ∧ (¬ y_30 < 0 → (∀ y_34 : Int32, y_34 = x4 + 1 → (∀ x5_35 : Int32, x5_35 = x5 + 1 → (wlXm_count_76 post n76 x1 x2 y_28 y_34 x5_35 M)))))))))) ∧ (¬ y_26 < 0 → (∀ y_36 : Int32, y_36 = x3 + 1 → (vp_in x5 10 ∧ (∀ y_38 : Int32, y_38 = M 4 x5.toNatClampNeg → (((y_38 < 0 → (∀ y_40 : Int32, y_40 = x4 + 0 → (∀ x5_41 : Int32, x5_41 = x5 + 1 → (wlXm_count_76 post n76 x1 x2 y_36 y_40 x5_41 M)))) ∧ (¬ y_38 < 0 → (∀ y_42 : Int32, y_42 = x4 + 1 → (∀ x5_43 : Int32, x5_43 = x5 + 1 → (wlXm_count_76 post n76 x1 x2 y_36 y_42 x5_43 M))))))))))))))))
def wlXm_count_30 (post : Int32 → Mm → Prop) : Nat → Int32 → Int32 → Int32 → Mm → Prop
  | 0, _, _, _ => fun _ => False
  | n30 + 1, x1, x2, x3 => fun M => ((8 ≤ x3 → (∃ n76 : Nat, wlXm_count_76 post n76 x1 x2 0 0 0 M)) ∧ (¬ 8 ≤ x3 → (vp_in x3 8 ∧ (∀ y_45 : Int32, y_45 = M 14 x3.toNatClampNeg → (((y_45 = 0 → (vp_in x3 8 ∧ (∀ y_50 : Int32, y_50 = M 2 x3.toNatClampNeg → (((y_50 ≤ 0 → (∀ y_52 : Int32, y_52 = x2 + 0 → (∀ x3_53 : Int32, x3_53 = x3 + 1 → (wlXm_count_30 post n30 x1 y_52 x3_53 M)))) ∧ (¬ y_50 ≤ 0 → (∀ y_54 : Int32, y_54 = x2 + 1 → (∀ x3_55 : Int32, x3_55 = x3 + 1 → (wlXm_count_30 post n30 x1 y_54 x3_55 M))))))))) ∧ (¬ y_45 = 0 → (∀ y_47 : Int32, y_47 = x2 + 0 → (∀ x3_48 : Int32, x3_48 = x3 + 1 → (wlXm_count_30 post n30 x1 y_47 x3_48 M))))))))))
def wpXm_count (p0 : Int32) (M : Mm) (post : Int32 → Mm → Prop) : Prop := wpXm_in p0 0 5 M (fun r_1 M_2 => (((r_1 = 0 → (wpXm_throwing 1 0 0 0 M_2 (fun r_56 M_57 => (((r_56 = 0 → (∃ n30 : Nat, wlXm_count_30 post n30 p0 0 0 M_57)) ∧ (¬ r_56 = 0 → (post 0 M_57))))))) ∧ (¬ r_1 = 0 → (wpXm_throwing 0 0 0 0 M_2 (fun r_4 M_5 => (((r_4 = 0 → (∃ n30 : Nat, wlXm_count_30 post n30 p0 0 0 M_5)) ∧ (¬ r_4 = 0 → (post 0 M_5))))))))))
set_option maxHeartbeats 4000000 in
set_option maxRecDepth 100000 in
theorem LwlXm_count_133 {p : Program} {l : Launch} {e : Env} {s : State} {m : MethodId} {below : List Frame} {meth : Method} {c : Code} {dC : Nat → ClassId} {dI : Nat → Nat → Nat} {q : Nat → Nat} {dA : Nat → ClassId} {A : Nat → Prop} {av : List Value} {post : Int32 → Mm → Prop} (CX : p.tables.exec = Jvm.exec ∧ c.code = cXm_count ∧ meth.sig.returnType = (some .int) ∧ c.maxLocals = 7 ∧ s.vm.findClass "ServiceThreadsModel" = some m.cls ∧ (∀ w ∈ wsG, w.before av.toArray s = true) ∧ (∀ q : Nat, s.heap.size ≤ q → A q) ∧ va_K (dC, dI) vwCl (tM dA) s ∧ meth.locks = false) : ∀ (n133 : Nat) (x1 : Int32) (x2 : Int32) (x3 : Int32) (x4 : Int32) (x5 : Int32) (x6 : Int32) (M : Mm) (H : Heap) (locs : List Loc) (ls : Array Slot), wlXm_count_133 post n133 x1 x2 x3 x4 x5 x6 M → va_P (dC, dI) vwCl (wM q dA M) H → va_D A (wM q dA M) → va_S A s.heap H locs → lv_has ls 7 [(0, .ref (q 0)), (1, .int x1), (2, .int x2), (3, .int x3), (4, .int x4), (5, .int x5), (6, .int x6)] → W p l e (headSpec (wsA yXm_count cXm_count 7 (some .int)) ({ frames := 1, cells := 0, slots := 0, locals := 24 })).room s m av.toArray below meth c H locs 0 0 (MQ below (va_Qi post (bW (dC, dI) vwCl (wM q dA) (tM dA) A) A) av.toArray s 0 0 A) (F0 m 133 ls []) := by
  obtain ⟨hx, hb, hr, hml, hown, hta, hA, hK, hlocks⟩ := CX
  intro n133
  induction n133 with
  | zero =>
    intro x1 x2 x3 x4 x5 x6 M H locs ls hw
    exact False.elim hw
  | succ n133 ih133 =>
    intro x1 x2 x3 x4 x5 x6 M H locs ls hw hP hD hS hl
    dsimp only [wlXm_count_133] at hw
    refine lv_iload hx hb dXm_count_133 (lv_at hl 6 rfl) ?_
    refine lv_aload_n hx hb dXm_count_135 rfl (lv_at hl 0 rfl) ?_
    refine va_get (D := (dC, dI)) (ci := 5) (v := .int (M 22 0)) (C := "ServiceThreadsModel") (T := TXm) (N := 28) hx hb hta inXm hown hK hP 0 (wM_0 q dA M) rfl 18 (by decide) (hta _ wt_583) (fun _ h9 => h9) rfl dXm_count_136 ?_
    refine lv_topi (fun y_9 ey_9 => ?_)
    have hw := hw y_9 ey_9
    refine lv_icmp_ge (tgt := 168) hx hb dXm_count_139 (by decide) (fun c_10 => ?_) (fun c_10 => ?_)
    · have hw := hw.1 c_10
      refine lv_iload_n hx hb dXm_count_168 rfl (lv_at hl 1 rfl) ?_
      refine lv_if_ne (tgt := 179) hx hb dXm_count_169 (by decide) (fun c_11 => ?_) (fun c_11 => ?_)
      · have hw := hw.2 c_11
        refine lv_iload_n hx hb dXm_count_179 rfl (lv_at hl 1 rfl) ?_
        refine lv_iconst (v := 1) hx hb dXm_count_180 (by decide) ?_
        refine lv_icmp_ne (tgt := 191) hx hb dXm_count_181 (by decide) (fun c_12 => ?_) (fun c_12 => ?_)
        · have hw := hw.2 c_12
          refine lv_iload_n hx hb dXm_count_191 rfl (lv_at hl 1 rfl) ?_
          refine lv_iconst (v := 2) hx hb dXm_count_192 (by decide) ?_
          refine lv_icmp_ne (tgt := 200) hx hb dXm_count_193 (by decide) (fun c_13 => ?_) (fun c_13 => ?_)
          · have hw := hw.2 c_13
            refine lv_iload_n hx hb dXm_count_200 rfl (lv_at hl 1 rfl) ?_
            refine lv_iconst (v := 3) hx hb dXm_count_201 (by decide) ?_
            refine lv_icmp_ne (tgt := 209) hx hb dXm_count_202 (by decide) (fun c_14 => ?_) (fun c_14 => ?_)
            · have hw := hw.2 c_14
              refine lv_iload_n hx hb dXm_count_209 rfl (lv_at hl 1 rfl) ?_
              refine lv_iconst (v := 4) hx hb dXm_count_210 (by decide) ?_
              refine lv_icmp_ne (tgt := 219) hx hb dXm_count_211 (by decide) (fun c_15 => ?_) (fun c_15 => ?_)
              · have hw := hw.2 c_15
                refine lv_iload hx hb dXm_count_219 (lv_at hl 4 rfl) ?_
                exact W.iret (v := x4) hx hb hr (fun t ht hW => ⟨⟨x4, M, rfl, hw, by rw [ht]; exact hP, va_K.moved hW.alike hK, hD⟩, hS.F ht⟩) hS.2.2 dXm_count_221 hlocks
              · have hw := hw.1 c_15
                refine lv_iload hx hb dXm_count_214 (lv_at hl 5 rfl) ?_
                refine lv_goto (tgt := 221) hx hb dXm_count_216 (by decide) ?_
                exact W.iret (v := x5) hx hb hr (fun t ht hW => ⟨⟨x5, M, rfl, hw, by rw [ht]; exact hP, va_K.moved hW.alike hK, hD⟩, hS.F ht⟩) hS.2.2 dXm_count_221 hlocks
            · have hw := hw.1 c_14
              refine lv_iload_n hx hb dXm_count_205 rfl (lv_at hl 3 rfl) ?_
              refine lv_goto (tgt := 221) hx hb dXm_count_206 (by decide) ?_
              exact W.iret (v := x3) hx hb hr (fun t ht hW => ⟨⟨x3, M, rfl, hw, by rw [ht]; exact hP, va_K.moved hW.alike hK, hD⟩, hS.F ht⟩) hS.2.2 dXm_count_221 hlocks
          · have hw := hw.1 c_13
            refine lv_iload_n hx hb dXm_count_196 rfl (lv_at hl 2 rfl) ?_
            refine lv_goto (tgt := 221) hx hb dXm_count_197 (by decide) ?_
            exact W.iret (v := x2) hx hb hr (fun t ht hW => ⟨⟨x2, M, rfl, hw, by rw [ht]; exact hP, va_K.moved hW.alike hK, hD⟩, hS.F ht⟩) hS.2.2 dXm_count_221 hlocks
        · have hw := hw.1 c_12
          refine lv_aload_n hx hb dXm_count_184 rfl (lv_at hl 0 rfl) ?_
          refine va_get (D := (dC, dI)) (ci := 5) (v := .int (M 23 0)) (C := "ServiceThreadsModel") (T := TXm) (N := 28) hx hb hta inXm hown hK hP 0 (wM_0 q dA M) rfl 23 (by decide) (hta _ wt_588) (fun _ h9 => h9) rfl dXm_count_185 ?_
          refine lv_topi (fun y_16 ey_16 => ?_)
          have hw := hw y_16 ey_16
          refine lv_goto (tgt := 221) hx hb dXm_count_188 (by decide) ?_
          exact W.iret (v := y_16) hx hb hr (fun t ht hW => ⟨⟨y_16, M, rfl, hw, by rw [ht]; exact hP, va_K.moved hW.alike hK, hD⟩, hS.F ht⟩) hS.2.2 dXm_count_221 hlocks
      · have hw := hw.1 c_11
        refine lv_aload_n hx hb dXm_count_172 rfl (lv_at hl 0 rfl) ?_
        refine va_get (D := (dC, dI)) (ci := 5) (v := .int (M 24 0)) (C := "ServiceThreadsModel") (T := TXm) (N := 28) hx hb hta inXm hown hK hP 0 (wM_0 q dA M) rfl 1 (by decide) (hta _ wt_566) (fun _ h9 => h9) rfl dXm_count_173 ?_
        refine lv_topi (fun y_17 ey_17 => ?_)
        have hw := hw y_17 ey_17
        refine lv_goto (tgt := 221) hx hb dXm_count_176 (by decide) ?_
        exact W.iret (v := y_17) hx hb hr (fun t ht hW => ⟨⟨y_17, M, rfl, hw, by rw [ht]; exact hP, va_K.moved hW.alike hK, hD⟩, hS.F ht⟩) hS.2.2 dXm_count_221 hlocks
    · have hw := hw.2 c_10
      refine lv_iload hx hb dXm_count_142 (lv_at hl 5 rfl) ?_
      refine lv_aload_n hx hb dXm_count_144 rfl (lv_at hl 0 rfl) ?_
      refine va_get (D := (dC, dI)) (ci := 5) (v := .ref (q 19)) (C := "ServiceThreadsModel") (T := TXm) (N := 28) hx hb hta inXm hown hK hP 0 (wM_0 q dA M) rfl 22 (by decide) (hta _ wt_587) (fun _ h9 => h9) rfl dXm_count_145 ?_
      refine lv_iload hx hb dXm_count_148 (lv_at hl 6 rfl) ?_
      obtain ⟨h_18, hw⟩ := hw
      refine ro_z (w := (wM q dA)) (M := M) hx hb hK hP 19 18 (wM_19 q dA M) rfl h_18 dXm_count_150 (fun y_19 ey_19 => ?_)
      have hw := hw y_19 ey_19
      refine lv_if_eq (tgt := 158) hx hb dXm_count_151 (by decide) (fun c_20 => ?_) (fun c_20 => ?_)
      · have hw := hw.1 c_20
        refine lv_iconst (v := 0) hx hb dXm_count_158 (by decide) ?_
        refine lv_iadd hx hb dXm_count_159 ?_
        refine lv_topi (fun y_21 ey_21 => ?_)
        have hw := hw y_21 ey_21
        refine lv_istore (lv' := [(5, .int y_21), (0, .ref (q 0)), (1, .int x1), (2, .int x2), (3, .int x3), (4, .int x4), (6, .int x6)]) hx hb dXm_count_160 hl (by decide) rfl (fun ls hl => ?_)
        obtain ⟨x6_22, ex6_22⟩ : ∃ y : Int32, y = x6 + 1 := ⟨_, rfl⟩
        have hw := hw x6_22 ex6_22
        refine lv_iinc (v := x6_22) (lv' := [(6, .int x6_22), (5, .int y_21), (0, .ref (q 0)), (1, .int x1), (2, .int x2), (3, .int x3), (4, .int x4)]) hx hb dXm_count_162 hl (k := 6) rfl (by rw [ex6_22]; rfl) (by decide) rfl (fun ls hl => ?_)
        refine lv_goto (tgt := 133) hx hb dXm_count_165 (by decide) ?_
        exact ih133 x1 x2 x3 x4 y_21 x6_22 M _ _ _ hw hP hD hS (lv_sub hl [2, 3, 4, 5, 6, 1, 0] rfl)
      · have hw := hw.2 c_20
        refine lv_iconst (v := 1) hx hb dXm_count_154 (by decide) ?_
        refine lv_goto (tgt := 159) hx hb dXm_count_155 (by decide) ?_
        refine lv_iadd hx hb dXm_count_159 ?_
        refine lv_topi (fun y_23 ey_23 => ?_)
        have hw := hw y_23 ey_23
        refine lv_istore (lv' := [(5, .int y_23), (0, .ref (q 0)), (1, .int x1), (2, .int x2), (3, .int x3), (4, .int x4), (6, .int x6)]) hx hb dXm_count_160 hl (by decide) rfl (fun ls hl => ?_)
        obtain ⟨x6_24, ex6_24⟩ : ∃ y : Int32, y = x6 + 1 := ⟨_, rfl⟩
        have hw := hw x6_24 ex6_24
        refine lv_iinc (v := x6_24) (lv' := [(6, .int x6_24), (5, .int y_23), (0, .ref (q 0)), (1, .int x1), (2, .int x2), (3, .int x3), (4, .int x4)]) hx hb dXm_count_162 hl (k := 6) rfl (by rw [ex6_24]; rfl) (by decide) rfl (fun ls hl => ?_)
        refine lv_goto (tgt := 133) hx hb dXm_count_165 (by decide) ?_
        exact ih133 x1 x2 x3 x4 y_23 x6_24 M _ _ _ hw hP hD hS (lv_sub hl [2, 3, 4, 5, 6, 1, 0] rfl)
set_option maxHeartbeats 4000000 in
set_option maxRecDepth 100000 in
theorem LwlXm_count_76 {p : Program} {l : Launch} {e : Env} {s : State} {m : MethodId} {below : List Frame} {meth : Method} {c : Code} {dC : Nat → ClassId} {dI : Nat → Nat → Nat} {q : Nat → Nat} {dA : Nat → ClassId} {A : Nat → Prop} {av : List Value} {post : Int32 → Mm → Prop} (CX : p.tables.exec = Jvm.exec ∧ c.code = cXm_count ∧ meth.sig.returnType = (some .int) ∧ c.maxLocals = 7 ∧ s.vm.findClass "ServiceThreadsModel" = some m.cls ∧ (∀ w ∈ wsG, w.before av.toArray s = true) ∧ (∀ q : Nat, s.heap.size ≤ q → A q) ∧ va_K (dC, dI) vwCl (tM dA) s ∧ meth.locks = false) : ∀ (n76 : Nat) (x1 : Int32) (x2 : Int32) (x3 : Int32) (x4 : Int32) (x5 : Int32) (M : Mm) (H : Heap) (locs : List Loc) (ls : Array Slot), wlXm_count_76 post n76 x1 x2 x3 x4 x5 M → va_P (dC, dI) vwCl (wM q dA M) H → va_D A (wM q dA M) → va_S A s.heap H locs → lv_has ls 7 [(0, .ref (q 0)), (1, .int x1), (2, .int x2), (3, .int x3), (4, .int x4), (5, .int x5)] → W p l e (headSpec (wsA yXm_count cXm_count 7 (some .int)) ({ frames := 1, cells := 0, slots := 0, locals := 24 })).room s m av.toArray below meth c H locs 0 0 (MQ below (va_Qi post (bW (dC, dI) vwCl (wM q dA) (tM dA) A) A) av.toArray s 0 0 A) (F0 m 76 ls []) := by
  obtain ⟨hx, hb, hr, hml, hown, hta, hA, hK, hlocks⟩ := CX
  intro n76
  induction n76 with
  | zero =>
    intro x1 x2 x3 x4 x5 M H locs ls hw
    exact False.elim hw
  | succ n76 ih76 =>
    intro x1 x2 x3 x4 x5 M H locs ls hw hP hD hS hl
    dsimp only [wlXm_count_76] at hw
    refine lv_iload hx hb dXm_count_76 (lv_at hl 5 rfl) ?_
    refine lv_bipush (v := 10) hx hb dXm_count_78 (by decide) ?_
    refine lv_icmp_ge (tgt := 127) hx hb dXm_count_80 (by decide) (fun c_8 => ?_) (fun c_8 => ?_)
    · have hw := hw.1 c_8
      refine lv_iconst (v := 0) hx hb dXm_count_127 (by decide) ?_
      refine lv_istore (lv' := [(5, .int 0), (0, .ref (q 0)), (1, .int x1), (2, .int x2), (3, .int x3), (4, .int x4)]) hx hb dXm_count_128 hl (by decide) rfl (fun ls hl => ?_)
      refine lv_iconst (v := 0) hx hb dXm_count_130 (by decide) ?_
      refine lv_istore (lv' := [(6, .int 0), (5, .int 0), (0, .ref (q 0)), (1, .int x1), (2, .int x2), (3, .int x3), (4, .int x4)]) hx hb dXm_count_131 hl (by decide) rfl (fun ls hl => ?_)
      obtain ⟨n133, hw⟩ := hw
      exact LwlXm_count_133 (A := A) (av := av) ⟨hx, hb, hr, hml, hown, hta, hA, hK, hlocks⟩ n133 x1 x2 x3 x4 0 0 M _ _ _ hw hP hD hS (lv_sub hl [2, 3, 4, 5, 6, 1, 0] rfl)
    · have hw := hw.2 c_8
      refine lv_iload_n hx hb dXm_count_83 rfl (lv_at hl 3 rfl) ?_
      refine lv_aload_n hx hb dXm_count_84 rfl (lv_at hl 0 rfl) ?_
      refine va_get (D := (dC, dI)) (ci := 5) (v := .ref (q 15)) (C := "ServiceThreadsModel") (T := TXm) (N := 28) hx hb hta inXm hown hK hP 0 (wM_0 q dA M) rfl 17 (by decide) (hta _ wt_582) (fun _ h9 => h9) rfl dXm_count_85 ?_
      refine lv_iload hx hb dXm_count_88 (lv_at hl 5 rfl) ?_
      obtain ⟨h_25, hw⟩ := hw
      refine ro_i (w := (wM q dA)) (M := M) hx hb hK hP 15 14 (wM_15 q dA M) rfl h_25 dXm_count_90 (fun y_26 ey_26 => ?_)
      have hw := hw y_26 ey_26
      refine lv_if_lt (tgt := 98) hx hb dXm_count_91 (by decide) (fun c_27 => ?_) (fun c_27 => ?_)
      · have hw := hw.1 c_27
        refine lv_iconst (v := 0) hx hb dXm_count_98 (by decide) ?_
        refine lv_iadd hx hb dXm_count_99 ?_
        refine lv_topi (fun y_28 ey_28 => ?_)
        have hw := hw y_28 ey_28
        refine lv_istore_n (lv' := [(3, .int y_28), (0, .ref (q 0)), (1, .int x1), (2, .int x2), (4, .int x4), (5, .int x5)]) hx hb dXm_count_100 rfl hl (by decide) rfl (fun ls hl => ?_)
        refine lv_iload hx hb dXm_count_101 (lv_at hl 4 rfl) ?_
        refine lv_aload_n hx hb dXm_count_103 rfl (lv_at hl 1 rfl) ?_
        refine va_get (D := (dC, dI)) (ci := 5) (v := .ref (q 14)) (C := "ServiceThreadsModel") (T := TXm) (N := 28) hx hb hta inXm hown hK hP 0 (wM_0 q dA M) rfl 16 (by decide) (hta _ wt_581) (fun _ h9 => h9) rfl dXm_count_104 ?_
        refine lv_iload hx hb dXm_count_107 (lv_at hl 5 rfl) ?_
        obtain ⟨h_29, hw⟩ := hw
        refine ro_i (w := (wM q dA)) (M := M) hx hb hK hP 14 13 (wM_14 q dA M) rfl h_29 dXm_count_109 (fun y_30 ey_30 => ?_)
        have hw := hw y_30 ey_30
        refine lv_if_lt (tgt := 117) hx hb dXm_count_110 (by decide) (fun c_31 => ?_) (fun c_31 => ?_)
        · have hw := hw.1 c_31
          refine lv_iconst (v := 0) hx hb dXm_count_117 (by decide) ?_
          refine lv_iadd hx hb dXm_count_118 ?_
          refine lv_topi (fun y_32 ey_32 => ?_)
          have hw := hw y_32 ey_32
          refine lv_istore (lv' := [(4, .int y_32), (3, .int y_28), (0, .ref (q 0)), (1, .int x1), (2, .int x2), (5, .int x5)]) hx hb dXm_count_119 hl (by decide) rfl (fun ls hl => ?_)
          obtain ⟨x5_33, ex5_33⟩ : ∃ y : Int32, y = x5 + 1 := ⟨_, rfl⟩
          have hw := hw x5_33 ex5_33
          refine lv_iinc (v := x5_33) (lv' := [(5, .int x5_33), (4, .int y_32), (3, .int y_28), (0, .ref (q 0)), (1, .int x1), (2, .int x2)]) hx hb dXm_count_121 hl (k := 5) rfl (by rw [ex5_33]; rfl) (by decide) rfl (fun ls hl => ?_)
          refine lv_goto (tgt := 76) hx hb dXm_count_124 (by decide) ?_
          exact ih76 x1 x2 y_28 y_32 x5_33 M _ _ _ hw hP hD hS (lv_sub hl [3, 4, 5, 2, 1, 0] rfl)
        · have hw := hw.2 c_31
          refine lv_iconst (v := 1) hx hb dXm_count_113 (by decide) ?_
          refine lv_goto (tgt := 118) hx hb dXm_count_114 (by decide) ?_
          refine lv_iadd hx hb dXm_count_118 ?_
          refine lv_topi (fun y_34 ey_34 => ?_)
          have hw := hw y_34 ey_34
          refine lv_istore (lv' := [(4, .int y_34), (3, .int y_28), (0, .ref (q 0)), (1, .int x1), (2, .int x2), (5, .int x5)]) hx hb dXm_count_119 hl (by decide) rfl (fun ls hl => ?_)
          obtain ⟨x5_35, ex5_35⟩ : ∃ y : Int32, y = x5 + 1 := ⟨_, rfl⟩
          have hw := hw x5_35 ex5_35
          refine lv_iinc (v := x5_35) (lv' := [(5, .int x5_35), (4, .int y_34), (3, .int y_28), (0, .ref (q 0)), (1, .int x1), (2, .int x2)]) hx hb dXm_count_121 hl (k := 5) rfl (by rw [ex5_35]; rfl) (by decide) rfl (fun ls hl => ?_)
          refine lv_goto (tgt := 76) hx hb dXm_count_124 (by decide) ?_
          exact ih76 x1 x2 y_28 y_34 x5_35 M _ _ _ hw hP hD hS (lv_sub hl [3, 4, 5, 2, 1, 0] rfl)
      · have hw := hw.2 c_27
        refine lv_iconst (v := 1) hx hb dXm_count_94 (by decide) ?_
        refine lv_goto (tgt := 99) hx hb dXm_count_95 (by decide) ?_
        refine lv_iadd hx hb dXm_count_99 ?_
        refine lv_topi (fun y_36 ey_36 => ?_)
        have hw := hw y_36 ey_36
        refine lv_istore_n (lv' := [(3, .int y_36), (0, .ref (q 0)), (1, .int x1), (2, .int x2), (4, .int x4), (5, .int x5)]) hx hb dXm_count_100 rfl hl (by decide) rfl (fun ls hl => ?_)
        refine lv_iload hx hb dXm_count_101 (lv_at hl 4 rfl) ?_
        refine lv_aload_n hx hb dXm_count_103 rfl (lv_at hl 1 rfl) ?_
        refine va_get (D := (dC, dI)) (ci := 5) (v := .ref (q 14)) (C := "ServiceThreadsModel") (T := TXm) (N := 28) hx hb hta inXm hown hK hP 0 (wM_0 q dA M) rfl 16 (by decide) (hta _ wt_581) (fun _ h9 => h9) rfl dXm_count_104 ?_
        refine lv_iload hx hb dXm_count_107 (lv_at hl 5 rfl) ?_
        obtain ⟨h_37, hw⟩ := hw
        refine ro_i (w := (wM q dA)) (M := M) hx hb hK hP 14 13 (wM_14 q dA M) rfl h_37 dXm_count_109 (fun y_38 ey_38 => ?_)
        have hw := hw y_38 ey_38
        refine lv_if_lt (tgt := 117) hx hb dXm_count_110 (by decide) (fun c_39 => ?_) (fun c_39 => ?_)
        · have hw := hw.1 c_39
          refine lv_iconst (v := 0) hx hb dXm_count_117 (by decide) ?_
          refine lv_iadd hx hb dXm_count_118 ?_
          refine lv_topi (fun y_40 ey_40 => ?_)
          have hw := hw y_40 ey_40
          refine lv_istore (lv' := [(4, .int y_40), (3, .int y_36), (0, .ref (q 0)), (1, .int x1), (2, .int x2), (5, .int x5)]) hx hb dXm_count_119 hl (by decide) rfl (fun ls hl => ?_)
          obtain ⟨x5_41, ex5_41⟩ : ∃ y : Int32, y = x5 + 1 := ⟨_, rfl⟩
          have hw := hw x5_41 ex5_41
          refine lv_iinc (v := x5_41) (lv' := [(5, .int x5_41), (4, .int y_40), (3, .int y_36), (0, .ref (q 0)), (1, .int x1), (2, .int x2)]) hx hb dXm_count_121 hl (k := 5) rfl (by rw [ex5_41]; rfl) (by decide) rfl (fun ls hl => ?_)
          refine lv_goto (tgt := 76) hx hb dXm_count_124 (by decide) ?_
          exact ih76 x1 x2 y_36 y_40 x5_41 M _ _ _ hw hP hD hS (lv_sub hl [3, 4, 5, 2, 1, 0] rfl)
        · have hw := hw.2 c_39
          refine lv_iconst (v := 1) hx hb dXm_count_113 (by decide) ?_
          refine lv_goto (tgt := 118) hx hb dXm_count_114 (by decide) ?_
          refine lv_iadd hx hb dXm_count_118 ?_
          refine lv_topi (fun y_42 ey_42 => ?_)
          have hw := hw y_42 ey_42
          refine lv_istore (lv' := [(4, .int y_42), (3, .int y_36), (0, .ref (q 0)), (1, .int x1), (2, .int x2), (5, .int x5)]) hx hb dXm_count_119 hl (by decide) rfl (fun ls hl => ?_)
          obtain ⟨x5_43, ex5_43⟩ : ∃ y : Int32, y = x5 + 1 := ⟨_, rfl⟩
          have hw := hw x5_43 ex5_43
          refine lv_iinc (v := x5_43) (lv' := [(5, .int x5_43), (4, .int y_42), (3, .int y_36), (0, .ref (q 0)), (1, .int x1), (2, .int x2)]) hx hb dXm_count_121 hl (k := 5) rfl (by rw [ex5_43]; rfl) (by decide) rfl (fun ls hl => ?_)
          refine lv_goto (tgt := 76) hx hb dXm_count_124 (by decide) ?_
          exact ih76 x1 x2 y_36 y_42 x5_43 M _ _ _ hw hP hD hS (lv_sub hl [3, 4, 5, 2, 1, 0] rfl)
set_option maxHeartbeats 4000000 in
set_option maxRecDepth 100000 in
theorem LwlXm_count_30 {p : Program} {l : Launch} {e : Env} {s : State} {m : MethodId} {below : List Frame} {meth : Method} {c : Code} {dC : Nat → ClassId} {dI : Nat → Nat → Nat} {q : Nat → Nat} {dA : Nat → ClassId} {A : Nat → Prop} {av : List Value} {post : Int32 → Mm → Prop} (CX : p.tables.exec = Jvm.exec ∧ c.code = cXm_count ∧ meth.sig.returnType = (some .int) ∧ c.maxLocals = 7 ∧ s.vm.findClass "ServiceThreadsModel" = some m.cls ∧ (∀ w ∈ wsG, w.before av.toArray s = true) ∧ (∀ q : Nat, s.heap.size ≤ q → A q) ∧ va_K (dC, dI) vwCl (tM dA) s ∧ meth.locks = false) : ∀ (n30 : Nat) (x1 : Int32) (x2 : Int32) (x3 : Int32) (M : Mm) (H : Heap) (locs : List Loc) (ls : Array Slot), wlXm_count_30 post n30 x1 x2 x3 M → va_P (dC, dI) vwCl (wM q dA M) H → va_D A (wM q dA M) → va_S A s.heap H locs → lv_has ls 7 [(0, .ref (q 0)), (1, .int x1), (2, .int x2), (3, .int x3)] → W p l e (headSpec (wsA yXm_count cXm_count 7 (some .int)) ({ frames := 1, cells := 0, slots := 0, locals := 24 })).room s m av.toArray below meth c H locs 0 0 (MQ below (va_Qi post (bW (dC, dI) vwCl (wM q dA) (tM dA) A) A) av.toArray s 0 0 A) (F0 m 30 ls []) := by
  obtain ⟨hx, hb, hr, hml, hown, hta, hA, hK, hlocks⟩ := CX
  intro n30
  induction n30 with
  | zero =>
    intro x1 x2 x3 M H locs ls hw
    exact False.elim hw
  | succ n30 ih30 =>
    intro x1 x2 x3 M H locs ls hw hP hD hS hl
    dsimp only [wlXm_count_30] at hw
    refine lv_iload_n hx hb dXm_count_30 rfl (lv_at hl 3 rfl) ?_
    refine lv_bipush (v := 8) hx hb dXm_count_31 (by decide) ?_
    refine lv_icmp_ge (tgt := 68) hx hb dXm_count_33 (by decide) (fun c_7 => ?_) (fun c_7 => ?_)
    · have hw := hw.1 c_7
      refine lv_iconst (v := 0) hx hb dXm_count_68 (by decide) ?_
      refine lv_istore_n (lv' := [(3, .int 0), (0, .ref (q 0)), (1, .int x1), (2, .int x2)]) hx hb dXm_count_69 rfl hl (by decide) rfl (fun ls hl => ?_)
      refine lv_iconst (v := 0) hx hb dXm_count_70 (by decide) ?_
      refine lv_istore (lv' := [(4, .int 0), (3, .int 0), (0, .ref (q 0)), (1, .int x1), (2, .int x2)]) hx hb dXm_count_71 hl (by decide) rfl (fun ls hl => ?_)
      refine lv_iconst (v := 0) hx hb dXm_count_73 (by decide) ?_
      refine lv_istore (lv' := [(5, .int 0), (4, .int 0), (3, .int 0), (0, .ref (q 0)), (1, .int x1), (2, .int x2)]) hx hb dXm_count_74 hl (by decide) rfl (fun ls hl => ?_)
      obtain ⟨n76, hw⟩ := hw
      exact LwlXm_count_76 (A := A) (av := av) ⟨hx, hb, hr, hml, hown, hta, hA, hK, hlocks⟩ n76 x1 x2 0 0 0 M _ _ _ hw hP hD hS (lv_sub hl [3, 4, 5, 2, 1, 0] rfl)
    · have hw := hw.2 c_7
      refine lv_iload_n hx hb dXm_count_36 rfl (lv_at hl 2 rfl) ?_
      refine lv_aload_n hx hb dXm_count_37 rfl (lv_at hl 0 rfl) ?_
      refine va_get (D := (dC, dI)) (ci := 5) (v := .ref (q 5)) (C := "ServiceThreadsModel") (T := TXm) (N := 28) hx hb hta inXm hown hK hP 0 (wM_0 q dA M) rfl 7 (by decide) (hta _ wt_572) (fun _ h9 => h9) rfl dXm_count_38 ?_
      refine lv_iload_n hx hb dXm_count_41 rfl (lv_at hl 3 rfl) ?_
      obtain ⟨h_44, hw⟩ := hw
      refine ro_i (w := (wM q dA)) (M := M) hx hb hK hP 5 4 (wM_5 q dA M) rfl h_44 dXm_count_42 (fun y_45 ey_45 => ?_)
      have hw := hw y_45 ey_45
      refine lv_if_ne (tgt := 59) hx hb dXm_count_43 (by decide) (fun c_46 => ?_) (fun c_46 => ?_)
      · have hw := hw.2 c_46
        refine lv_iconst (v := 0) hx hb dXm_count_59 (by decide) ?_
        refine lv_iadd hx hb dXm_count_60 ?_
        refine lv_topi (fun y_47 ey_47 => ?_)
        have hw := hw y_47 ey_47
        refine lv_istore_n (lv' := [(2, .int y_47), (0, .ref (q 0)), (1, .int x1), (3, .int x3)]) hx hb dXm_count_61 rfl hl (by decide) rfl (fun ls hl => ?_)
        obtain ⟨x3_48, ex3_48⟩ : ∃ y : Int32, y = x3 + 1 := ⟨_, rfl⟩
        have hw := hw x3_48 ex3_48
        refine lv_iinc (v := x3_48) (lv' := [(3, .int x3_48), (2, .int y_47), (0, .ref (q 0)), (1, .int x1)]) hx hb dXm_count_62 hl (k := 3) rfl (by rw [ex3_48]; rfl) (by decide) rfl (fun ls hl => ?_)
        refine lv_goto (tgt := 30) hx hb dXm_count_65 (by decide) ?_
        exact ih30 x1 y_47 x3_48 M _ _ _ hw hP hD hS (lv_sub hl [2, 3, 1, 0] rfl)
      · have hw := hw.1 c_46
        refine lv_aload_n hx hb dXm_count_46 rfl (lv_at hl 0 rfl) ?_
        refine va_get (D := (dC, dI)) (ci := 5) (v := .ref (q 3)) (C := "ServiceThreadsModel") (T := TXm) (N := 28) hx hb hta inXm hown hK hP 0 (wM_0 q dA M) rfl 5 (by decide) (hta _ wt_570) (fun _ h9 => h9) rfl dXm_count_47 ?_
        refine lv_iload_n hx hb dXm_count_50 rfl (lv_at hl 3 rfl) ?_
        obtain ⟨h_49, hw⟩ := hw
        refine ro_i (w := (wM q dA)) (M := M) hx hb hK hP 3 2 (wM_3 q dA M) rfl h_49 dXm_count_51 (fun y_50 ey_50 => ?_)
        have hw := hw y_50 ey_50
        refine lv_if_le (tgt := 59) hx hb dXm_count_52 (by decide) (fun c_51 => ?_) (fun c_51 => ?_)
        · have hw := hw.1 c_51
          refine lv_iconst (v := 0) hx hb dXm_count_59 (by decide) ?_
          refine lv_iadd hx hb dXm_count_60 ?_
          refine lv_topi (fun y_52 ey_52 => ?_)
          have hw := hw y_52 ey_52
          refine lv_istore_n (lv' := [(2, .int y_52), (0, .ref (q 0)), (1, .int x1), (3, .int x3)]) hx hb dXm_count_61 rfl hl (by decide) rfl (fun ls hl => ?_)
          obtain ⟨x3_53, ex3_53⟩ : ∃ y : Int32, y = x3 + 1 := ⟨_, rfl⟩
          have hw := hw x3_53 ex3_53
          refine lv_iinc (v := x3_53) (lv' := [(3, .int x3_53), (2, .int y_52), (0, .ref (q 0)), (1, .int x1)]) hx hb dXm_count_62 hl (k := 3) rfl (by rw [ex3_53]; rfl) (by decide) rfl (fun ls hl => ?_)
          refine lv_goto (tgt := 30) hx hb dXm_count_65 (by decide) ?_
          exact ih30 x1 y_52 x3_53 M _ _ _ hw hP hD hS (lv_sub hl [2, 3, 1, 0] rfl)
        · have hw := hw.2 c_51
          refine lv_iconst (v := 1) hx hb dXm_count_55 (by decide) ?_
          refine lv_goto (tgt := 60) hx hb dXm_count_56 (by decide) ?_
          refine lv_iadd hx hb dXm_count_60 ?_
          refine lv_topi (fun y_54 ey_54 => ?_)
          have hw := hw y_54 ey_54
          refine lv_istore_n (lv' := [(2, .int y_54), (0, .ref (q 0)), (1, .int x1), (3, .int x3)]) hx hb dXm_count_61 rfl hl (by decide) rfl (fun ls hl => ?_)
          obtain ⟨x3_55, ex3_55⟩ : ∃ y : Int32, y = x3 + 1 := ⟨_, rfl⟩
          have hw := hw x3_55 ex3_55
          refine lv_iinc (v := x3_55) (lv' := [(3, .int x3_55), (2, .int y_54), (0, .ref (q 0)), (1, .int x1)]) hx hb dXm_count_62 hl (k := 3) rfl (by rw [ex3_55]; rfl) (by decide) rfl (fun ls hl => ?_)
          refine lv_goto (tgt := 30) hx hb dXm_count_65 (by decide) ?_
          exact ih30 x1 y_54 x3_55 M _ _ _ hw hP hD hS (lv_sub hl [2, 3, 1, 0] rfl)
set_option maxHeartbeats 4000000 in
set_option maxRecDepth 100000 in
theorem mtXm_count (l : Launch) (dC : Nat → ClassId) (dI : Nat → Nat → Nat) (q : Nat → Nat) (dA : Nat → ClassId) (sz : Nat) (p0 : Int32) (M : Mm) (post : Int32 → Mm → Prop) (hw : wpXm_count p0 M post) : Met l yXm_count (wsA yXm_count cXm_count 7 (some .int)) ({ frames := 1, cells := 0, slots := 0, locals := 24 }) (va_Pc [.ref (q 0), .int p0] (pW (dC, dI) vwCl (wM q dA) (tM dA) sz M)) (va_Qi post (bW (dC, dI) vwCl (wM q dA) (tM dA) (va_A (wM q dA M) sz)) (va_A (wM q dA M) sz)) 0 0 (va_A (wM q dA M) sz) := by
  refine Met.ofW (cc := cXm_count) (maxL := 7) (ret := (some .int)) (by decide) rfl ?_
  intro p e s m args below meth c s₁ B hml hv
  obtain ⟨rfl, hsz, hP, hK, hD0⟩ := hv
  have hx := B.exec
  have hb := B.bytes
  have hr := B.returns
  have hts := atoms_spec (ws := (wsA yXm_count cXm_count 7 (some .int))) B.pre
  have hta : ∀ w ∈ wsG, w.before _ s = true := fun w h => hts w (List.mem_cons_of_mem _ h)
  have hown : s.vm.findClass "ServiceThreadsModel" = some m.cls := findClass_of_methodNamed B.named
  have hlocks := B.notSynchronized
  subst hsz
  have hD := hD0.self (sz := s.heap.size)
  generalize hAe : va_A (wM q dA M) s.heap.size = A at hD ⊢
  have hA : ∀ q : Nat, s.heap.size ≤ q → A q := fun q h => by rw [← hAe]; exact Or.inr h
  have hS : va_S A s.heap s.heap [] := va_S.rf
  dsimp only [wpXm_count] at hw
  have hl := lv_entry ([.ref (q 0), .int p0]) (n := 7) (Nat.le_of_ble_eq_true rfl)
  rw [lg_entry_eq]
  generalize (lg_sl ([.ref (q 0), .int p0]) ++ List.replicate (7 - (lg_sl ([.ref (q 0), .int p0])).length) Slot.unset).toArray = ls at hl ⊢
  have hl : lv_has ls 7 [(0, .ref (q 0)), (1, .int p0)] := hl
  refine lv_aload_n hx hb dXm_count_0 rfl (lv_at hl 0 rfl) ?_
  refine lv_iload_n hx hb dXm_count_1 rfl (lv_at hl 1 rfl) ?_
  refine lv_iconst (v := 0) hx hb dXm_count_2 (by decide) ?_
  refine lv_iconst (v := 5) hx hb dXm_count_3 (by decide) ?_
  refine cn_i (w := (wM q dA)) (M := M) (wM_ad q dA) (va_runS (As := [.int p0, .int 0, .int 5]) (rest := [.ref (q 0)]) ⟨hx, hb, hml, hown, hta⟩ (mtXm_in l dC dI q dA s.heap.size p0 0 5 M _ hw) (va_cwS 3 hta (giS wt_661 wt_662 wt_7 wt_663) rfl rfl rfl (by decide +kernel) ⟨Nat.le_of_ble_eq_true rfl, Nat.le_of_ble_eq_true rfl⟩) ⟨pW_blind, pW_of hK hP hD⟩ rfl rfl hl.1 rfl (lv_room (Nat.le_of_ble_eq_true rfl)) dXm_count_4 ⟨Nat.le_of_ble_eq_true rfl, Nat.le_of_ble_eq_true rfl⟩) hD hS hA (fun r_1 M_2 H locs hw hP hD hS => ?_)
  refine lv_if_ne (tgt := 14) hx hb dXm_count_7 (by decide) (fun c_3 => ?_) (fun c_3 => ?_)
  · have hw := hw.2 c_3
    refine lv_iconst (v := 0) hx hb dXm_count_14 (by decide) ?_
    refine lv_iconst (v := 0) hx hb dXm_count_15 (by decide) ?_
    refine lv_iconst (v := 0) hx hb dXm_count_16 (by decide) ?_
    refine lv_iconst (v := 0) hx hb dXm_count_17 (by decide) ?_
    refine cn_i (w := (wM q dA)) (M := M_2) (wM_ad q dA) (va_runV (As := [.int 0, .int 0, .int 0, .int 0]) (rest := []) ⟨hx, hb, hml, hown, hta⟩ (mtXm_throwing l dC dI q dA H.size 0 0 0 0 M_2 _ hw) (cwV 4 hta (giV wt_668 wt_670 ws_19 wt_7 wt_671) rfl rfl rfl (by decide +kernel) ⟨Nat.le_of_ble_eq_true rfl, Nat.le_of_ble_eq_true rfl⟩) ⟨pW_blind, va_recv hK hP (ci := 5) (q0 := 0) rfl (wM_0 q dA M_2), pW_of hK hP hD⟩ rfl rfl hl.1 rfl (lv_room (Nat.le_of_ble_eq_true rfl)) dXm_count_18 ⟨Nat.le_of_ble_eq_true rfl, Nat.le_of_ble_eq_true rfl⟩) hD hS hA (fun r_4 M_5 H locs hw hP hD hS => ?_)
    refine lv_if_eq (tgt := 26) hx hb dXm_count_21 (by decide) (fun c_6 => ?_) (fun c_6 => ?_)
    · have hw := hw.1 c_6
      refine lv_iconst (v := 0) hx hb dXm_count_26 (by decide) ?_
      refine lv_istore_n (lv' := [(2, .int 0), (0, .ref (q 0)), (1, .int p0)]) hx hb dXm_count_27 rfl hl (by decide) rfl (fun ls hl => ?_)
      refine lv_iconst (v := 0) hx hb dXm_count_28 (by decide) ?_
      refine lv_istore_n (lv' := [(3, .int 0), (2, .int 0), (0, .ref (q 0)), (1, .int p0)]) hx hb dXm_count_29 rfl hl (by decide) rfl (fun ls hl => ?_)
      obtain ⟨n30, hw⟩ := hw
      exact LwlXm_count_30 (A := A) (av := [.ref (q 0), .int p0]) ⟨hx, hb, hr, hml, hown, hta, hA, hK, hlocks⟩ n30 p0 0 0 M_5 _ _ _ hw hP hD hS (lv_sub hl [2, 3, 1, 0] rfl)
    · have hw := hw.2 c_6
      refine lv_iconst (v := 0) hx hb dXm_count_24 (by decide) ?_
      exact W.iret (v := 0) hx hb hr (fun t ht hW => ⟨⟨0, M_5, rfl, hw, by rw [ht]; exact hP, va_K.moved hW.alike hK, hD⟩, hS.F ht⟩) hS.2.2 dXm_count_25 hlocks
  · have hw := hw.1 c_3
    refine lv_iconst (v := 1) hx hb dXm_count_10 (by decide) ?_
    refine lv_goto (tgt := 15) hx hb dXm_count_11 (by decide) ?_
    refine lv_iconst (v := 0) hx hb dXm_count_15 (by decide) ?_
    refine lv_iconst (v := 0) hx hb dXm_count_16 (by decide) ?_
    refine lv_iconst (v := 0) hx hb dXm_count_17 (by decide) ?_
    refine cn_i (w := (wM q dA)) (M := M_2) (wM_ad q dA) (va_runV (As := [.int 1, .int 0, .int 0, .int 0]) (rest := []) ⟨hx, hb, hml, hown, hta⟩ (mtXm_throwing l dC dI q dA H.size 1 0 0 0 M_2 _ hw) (cwV 4 hta (giV wt_668 wt_670 ws_19 wt_7 wt_671) rfl rfl rfl (by decide +kernel) ⟨Nat.le_of_ble_eq_true rfl, Nat.le_of_ble_eq_true rfl⟩) ⟨pW_blind, va_recv hK hP (ci := 5) (q0 := 0) rfl (wM_0 q dA M_2), pW_of hK hP hD⟩ rfl rfl hl.1 rfl (lv_room (Nat.le_of_ble_eq_true rfl)) dXm_count_18 ⟨Nat.le_of_ble_eq_true rfl, Nat.le_of_ble_eq_true rfl⟩) hD hS hA (fun r_56 M_57 H locs hw hP hD hS => ?_)
    refine lv_if_eq (tgt := 26) hx hb dXm_count_21 (by decide) (fun c_58 => ?_) (fun c_58 => ?_)
    · have hw := hw.1 c_58
      refine lv_iconst (v := 0) hx hb dXm_count_26 (by decide) ?_
      refine lv_istore_n (lv' := [(2, .int 0), (0, .ref (q 0)), (1, .int p0)]) hx hb dXm_count_27 rfl hl (by decide) rfl (fun ls hl => ?_)
      refine lv_iconst (v := 0) hx hb dXm_count_28 (by decide) ?_
      refine lv_istore_n (lv' := [(3, .int 0), (2, .int 0), (0, .ref (q 0)), (1, .int p0)]) hx hb dXm_count_29 rfl hl (by decide) rfl (fun ls hl => ?_)
      obtain ⟨n30, hw⟩ := hw
      exact LwlXm_count_30 (A := A) (av := [.ref (q 0), .int p0]) ⟨hx, hb, hr, hml, hown, hta, hA, hK, hlocks⟩ n30 p0 0 0 M_57 _ _ _ hw hP hD hS (lv_sub hl [2, 3, 1, 0] rfl)
    · have hw := hw.2 c_58
      refine lv_iconst (v := 0) hx hb dXm_count_24 (by decide) ?_
      exact W.iret (v := 0) hx hb hr (fun t ht hW => ⟨⟨0, M_57, rfl, hw, by rw [ht]; exact hP, va_K.moved hW.alike hK, hD⟩, hS.F ht⟩) hS.2.2 dXm_count_25 hlocks
