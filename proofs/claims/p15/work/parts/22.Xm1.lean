def wlXm_call_102 (post : Int32 → Mm → Prop) (K91 : Int32 → Int32 → Mm → Prop) : Nat → Int32 → Int32 → Int32 → Int32 → Mm → Prop
  | 0, _, _, _, _ => fun _ => False
  | n102 + 1, x1, x2, x3, x4 => fun M => ∀ y_27 : Int32, y_27 = M 22 0 → (∀ y_28 : Int32, y_28 = y_27 - 1 → (((y_28 ≤ x4 → (vp_in x2 8 ∧ (∀ y_31 : Int32, y_31 = M 14 x2.toNatClampNeg → (((y_31 = 0 → (vp_in x2 8 ∧ (∀ y_35 : Int32, y_35 = M 27 x2.toNatClampNeg → (((y_35 = 0 → (∀ x2_37 : Int32, x2_37 = x2 + 1 → (K91 x1 x2_37 M))) ∧ (¬ y_35 = 0 → (((x3 = 0 → (∀ x2_39 : Int32, x2_39 = x2 + 1 → (K91 x1 x2_39 M))) ∧ (¬ x3 = 0 → (vp_in x2 8 ∧ (∀ M_41 : Mm, M_41 = stM M 20 (upd (M 20) x2.toNatClampNeg 1) → (∀ x2_42 : Int32, x2_42 = x2 + 1 → (K91 x1 x2_42 M_41))))))))))))) ∧ (¬ y_31 = 0 → (∀ x2_33 : Int32, x2_33 = x2 + 1 → (K91 x1 x2_33 M)))))))) ∧ (¬ y_28 ≤ x4 → (((x3 = 0 → (∀ x4_44 : Int32, x4_44 = x4 + 1 → (wlXm_call_102 post K91 n102 x1 x2 0 x4_44 M))) ∧ (¬ x3 = 0 → (vp_in x4 16 ∧ (∀ y_46 : Int32, y_46 = M 9 x4.toNatClampNeg → (((y_46 = 0 → (∀ x4_48 : Int32, x4_48 = x4 + 1 → (wlXm_call_102 post K91 n102 x1 x2 1 x4_48 M))) ∧ (¬ y_46 = 0 → (vp_in x4 16 ∧ (∀ y_50 : Int32, y_50 = M 7 x4.toNatClampNeg → (((y_50 = x2 → (vp_in x4 16 ∧ (∀ y_54 : Int32, y_54 = M 6 x4.toNatClampNeg → (((x1 ≤ y_54 → (∀ x4_56 : Int32, x4_56 = x4 + 1 → (wlXm_call_102 post K91 n102 x1 x2 0 x4_56 M))) ∧ (¬ x1 ≤ y_54 → (∀ x4_57 : Int32, x4_57 = x4 + 1 → (wlXm_call_102 post K91 n102 x1 x2 1 x4_57 M)))))))) ∧ (¬ y_50 = x2 → (∀ x4_52 : Int32, x4_52 = x4 + 1 → (wlXm_call_102 post K91 n102 x1 x2 1 x4_52 M)))))))))))))))))))
def wlXm_call_91 (post : Int32 → Mm → Prop) : Nat → Int32 → Int32 → Mm → Prop
  | 0, _, _ => fun _ => False
  | n91 + 1, x1, x2 => fun M => ((8 ≤ x2 → (∀ y_25 : Int32, y_25 = M 22 0 → (∀ y_26 : Int32, y_26 = y_25 - 1 → (post y_26 M)))) ∧ (¬ 8 ≤ x2 → (∃ n102 : Nat, wlXm_call_102 post (wlXm_call_91 post n91) n102 x1 x2 1 0 M)))
def wpXm_call (p0 : Int32) (M : Mm) (post : Int32 → Mm → Prop) : Prop := wpXm_in p0 0 3 M (fun r_1 M_2 => (((r_1 = 0 → (∀ y_76 : Int32, y_76 = M_2 22 0 → (((y_76 = 16 → (wpXm_throwing 1 1 0 0 M_2 (fun r_96 M_97 => (((r_96 = 0 → (∀ y_99 : Int32, y_99 = M_97 22 0 → (vp_in y_99 16 ∧ (∀ M_101 : Mm, M_101 = stM M_97 6 (upd (M_97 6) y_99.toNatClampNeg p0) → (∀ y_102 : Int32, y_102 = M_101 22 0 → (vp_in y_102 16 ∧ (∀ M_104 : Mm, M_104 = stM M_101 7 (upd (M_101 7) y_102.toNatClampNeg (-1)) → (∀ y_105 : Int32, y_105 = M_104 22 0 → (vp_in y_105 16 ∧ (∀ M_107 : Mm, M_107 = stM M_104 8 (upd (M_104 8) y_105.toNatClampNeg (-1)) → (∀ y_108 : Int32, y_108 = M_107 22 0 → (vp_in y_108 16 ∧ (∀ M_110 : Mm, M_110 = stM M_107 9 (upd (M_107 9) y_108.toNatClampNeg 1) → (∀ y_111 : Int32, y_111 = M_110 22 0 → (∀ y_112 : Int32, y_112 = y_111 + 1 → (∀ M_113 : Mm, M_113 = stM M_110 22 (fun _ => y_112) → (∃ n91 : Nat, wlXm_call_91 post n91 p0 0 M_113))))))))))))))))) ∧ (¬ r_96 = 0 → (post 0 M_97))))))) ∧ (¬ y_76 = 16 → (wpXm_throwing 1 0 0 0 M_2 (fun r_78 M_79 => (((r_78 = 0 → (∀ y_81 : Int32, y_81 = M_79 22 0 → (vp_in y_81 16 ∧ (∀ M_83 : Mm, M_83 = stM M_79 6 (upd (M_79 6) y_81.toNatClampNeg p0) → (∀ y_84 : Int32, y_84 = M_83 22 0 → (vp_in y_84 16 ∧ (∀ M_86 : Mm, M_86 = stM M_83 7 (upd (M_83 7) y_84.toNatClampNeg (-1)) → (∀ y_87 : Int32, y_87 = M_86 22 0 → (vp_in y_87 16 ∧ (∀ M_89 : Mm, M_89 = stM M_86 8 (upd (M_86 8) y_87.toNatClampNeg (-1)) → (∀ y_90 : Int32, y_90 = M_89 22 0 → (vp_in y_90 16 ∧ (∀ M_92 : Mm, M_92 = stM M_89 9 (upd (M_89 9) y_90.toNatClampNeg 1) → (∀ y_93 : Int32, y_93 = M_92 22 0 → (∀ y_94 : Int32, y_94 = y_93 + 1 → (∀ M_95 : Mm, M_95 = stM M_92 22 (fun _ => y_94) → (∃ n91 : Nat, wlXm_call_91 post n91 p0 0 M_95))))))))))))))))) ∧ (¬ r_78 = 0 → (post 0 M_79))))))))))) ∧ (¬ r_1 = 0 → (∀ y_4 : Int32, y_4 = M_2 22 0 → (((y_4 = 16 → (wpXm_throwing 0 1 0 0 M_2 (fun r_58 M_59 => (((r_58 = 0 → (∀ y_61 : Int32, y_61 = M_59 22 0 → (vp_in y_61 16 ∧ (∀ M_63 : Mm, M_63 = stM M_59 6 (upd (M_59 6) y_61.toNatClampNeg p0) → (∀ y_64 : Int32, y_64 = M_63 22 0 → (vp_in y_64 16 ∧ (∀ M_66 : Mm, M_66 = stM M_63 7 (upd (M_63 7) y_64.toNatClampNeg (-1)) → (∀ y_67 : Int32, y_67 = M_66 22 0 → (vp_in y_67 16 ∧ (∀ M_69 : Mm, M_69 = stM M_66 8 (upd (M_66 8) y_67.toNatClampNeg (-1)) → (∀ y_70 : Int32, y_70 = M_69 22 0 → (vp_in y_70 16 ∧ (∀ M_72 : Mm, M_72 = stM M_69 9 (upd (M_69 9) y_70.toNatClampNeg 1) → (∀ y_73 : Int32, y_73 = M_72 22 0 → (∀ y_74 : Int32, y_74 = y_73 + 1 → (∀ M_75 : Mm, M_75 = stM M_72 22 (fun _ => y_74) → (∃ n91 : Nat, wlXm_call_91 post n91 p0 0 M_75))))))))))))))))) ∧ (¬ r_58 = 0 → (post 0 M_59))))))) ∧ (¬ y_4 = 16 → (wpXm_throwing 0 0 0 0 M_2 (fun r_6 M_7 => (((r_6 = 0 → (∀ y_9 : Int32, y_9 = M_7 22 0 → (vp_in y_9 16 ∧ (∀ M_11 : Mm, M_11 = stM M_7 6 (upd (M_7 6) y_9.toNatClampNeg p0) → (∀ y_12 : Int32, y_12 = M_11 22 0 → (vp_in y_12 16 ∧ (∀ M_14 : Mm, M_14 = stM M_11 7 (upd (M_11 7) y_12.toNatClampNeg (-1)) → (∀ y_15 : Int32, y_15 = M_14 22 0 → (vp_in y_15 16 ∧ (∀ M_17 : Mm, M_17 = stM M_14 8 (upd (M_14 8) y_15.toNatClampNeg (-1)) → (∀ y_18 : Int32, y_18 = M_17 22 0 → (vp_in y_18 16 ∧ (∀ M_20 : Mm, M_20 = stM M_17 9 (upd (M_17 9) y_18.toNatClampNeg 1) → (∀ y_21 : Int32, y_21 = M_20 22 0 → (∀ y_22 : Int32, y_22 = y_21 + 1 → (∀ M_23 : Mm, M_23 = stM M_20 22 (fun _ => y_22) → (∃ n91 : Nat, wlXm_call_91 post n91 p0 0 M_23))))))))))))))))) ∧ (¬ r_6 = 0 → (post 0 M_7))))))))))))))
set_option maxHeartbeats 4000000 in
set_option maxRecDepth 100000 in
theorem LwlXm_call_102 {p : Program} {l : Launch} {e : Env} {s : State} {m : MethodId} {below : List Frame} {meth : Method} {c : Code} {dC : Nat → ClassId} {dI : Nat → Nat → Nat} {q : Nat → Nat} {dA : Nat → ClassId} {A : Nat → Prop} {av : List Value} {post : Int32 → Mm → Prop} {K91 : Int32 → Int32 → Mm → Prop} (CX : p.tables.exec = Jvm.exec ∧ c.code = cXm_call ∧ meth.sig.returnType = (some .int) ∧ c.maxLocals = 5 ∧ s.vm.findClass "ServiceThreadsModel" = some m.cls ∧ (∀ w ∈ wsG, w.before av.toArray s = true) ∧ (∀ q : Nat, s.heap.size ≤ q → A q) ∧ va_K (dC, dI) vwCl (tM dA) s ∧ meth.locks = false) (hk91 : ∀ (x1 : Int32) (x2 : Int32) (M : Mm) (H : Heap) (locs : List Loc) (ls : Array Slot), K91 x1 x2 M → va_P (dC, dI) vwCl (wM q dA M) H → va_D A (wM q dA M) → va_S A s.heap H locs → lv_has ls 5 [(0, .ref (q 0)), (1, .int x1), (2, .int x2)] → W p l e (headSpec (wsA yXm_call cXm_call 5 (some .int)) ({ frames := 1, cells := 0, slots := 0, locals := 24 })).room s m av.toArray below meth c H locs 0 0 (MQ below (va_Qi post (bW (dC, dI) vwCl (wM q dA) (tM dA) A) A) av.toArray s 0 0 A) (F0 m 91 ls [])) : ∀ (n102 : Nat) (x1 : Int32) (x2 : Int32) (x3 : Int32) (x4 : Int32) (M : Mm) (H : Heap) (locs : List Loc) (ls : Array Slot), wlXm_call_102 post K91 n102 x1 x2 x3 x4 M → va_P (dC, dI) vwCl (wM q dA M) H → va_D A (wM q dA M) → va_S A s.heap H locs → lv_has ls 5 [(0, .ref (q 0)), (1, .int x1), (2, .int x2), (3, .int x3), (4, .int x4)] → W p l e (headSpec (wsA yXm_call cXm_call 5 (some .int)) ({ frames := 1, cells := 0, slots := 0, locals := 24 })).room s m av.toArray below meth c H locs 0 0 (MQ below (va_Qi post (bW (dC, dI) vwCl (wM q dA) (tM dA) A) A) av.toArray s 0 0 A) (F0 m 102 ls []) := by
  obtain ⟨hx, hb, hr, hml, hown, hta, hA, hK, hlocks⟩ := CX
  intro n102
  induction n102 with
  | zero =>
    intro x1 x2 x3 x4 M H locs ls hw
    exact False.elim hw
  | succ n102 ih102 =>
    intro x1 x2 x3 x4 M H locs ls hw hP hD hS hl
    dsimp only [wlXm_call_102] at hw
    refine lv_iload hx hb dXm_call_102 (lv_at hl 4 rfl) ?_
    refine lv_aload_n hx hb dXm_call_104 rfl (lv_at hl 0 rfl) ?_
    refine va_get (D := (dC, dI)) (ci := 5) (v := .int (M 22 0)) (C := "ServiceThreadsModel") (T := TXm) (N := 28) hx hb hta inXm hown hK hP 0 (wM_0 q dA M) rfl 18 (by decide) (hta _ wt_583) (fun _ h9 => h9) rfl dXm_call_105 ?_
    refine lv_topi (fun y_27 ey_27 => ?_)
    have hw := hw y_27 ey_27
    refine lv_iconst (v := 1) hx hb dXm_call_108 (by decide) ?_
    refine lv_isub hx hb dXm_call_109 ?_
    refine lv_topi (fun y_28 ey_28 => ?_)
    have hw := hw y_28 ey_28
    refine lv_icmp_ge (tgt := 161) hx hb dXm_call_110 (by decide) (fun c_29 => ?_) (fun c_29 => ?_)
    · have hw := hw.1 c_29
      refine lv_aload_n hx hb dXm_call_161 rfl (lv_at hl 0 rfl) ?_
      refine va_get (D := (dC, dI)) (ci := 5) (v := .ref (q 5)) (C := "ServiceThreadsModel") (T := TXm) (N := 28) hx hb hta inXm hown hK hP 0 (wM_0 q dA M) rfl 7 (by decide) (hta _ wt_572) (fun _ h9 => h9) rfl dXm_call_162 ?_
      refine lv_iload_n hx hb dXm_call_165 rfl (lv_at hl 2 rfl) ?_
      obtain ⟨h_30, hw⟩ := hw
      refine ro_i (w := (wM q dA)) (M := M) hx hb hK hP 5 4 (wM_5 q dA M) rfl h_30 dXm_call_166 (fun y_31 ey_31 => ?_)
      have hw := hw y_31 ey_31
      refine lv_if_ne (tgt := 190) hx hb dXm_call_167 (by decide) (fun c_32 => ?_) (fun c_32 => ?_)
      · have hw := hw.2 c_32
        obtain ⟨x2_33, ex2_33⟩ : ∃ y : Int32, y = x2 + 1 := ⟨_, rfl⟩
        have hw := hw x2_33 ex2_33
        refine lv_iinc (v := x2_33) (lv' := [(2, .int x2_33), (0, .ref (q 0)), (1, .int x1), (3, .int x3), (4, .int x4)]) hx hb dXm_call_190 hl (k := 2) rfl (by rw [ex2_33]; rfl) (by decide) rfl (fun ls hl => ?_)
        refine lv_goto (tgt := 91) hx hb dXm_call_193 (by decide) ?_
        exact hk91 x1 x2_33 M _ _ _ hw hP hD hS (lv_sub hl [1, 2, 0] rfl)
      · have hw := hw.1 c_32
        refine lv_aload_n hx hb dXm_call_170 rfl (lv_at hl 0 rfl) ?_
        refine va_get (D := (dC, dI)) (ci := 5) (v := .ref (q 12)) (C := "ServiceThreadsModel") (T := TXm) (N := 28) hx hb hta inXm hown hK hP 0 (wM_0 q dA M) rfl 14 (by decide) (hta _ wt_579) (fun _ h9 => h9) rfl dXm_call_171 ?_
        refine lv_iload_n hx hb dXm_call_174 rfl (lv_at hl 2 rfl) ?_
        obtain ⟨h_34, hw⟩ := hw
        refine ro_z (w := (wM q dA)) (M := M) hx hb hK hP 12 11 (wM_12 q dA M) rfl h_34 dXm_call_175 (fun y_35 ey_35 => ?_)
        have hw := hw y_35 ey_35
        refine lv_if_eq (tgt := 190) hx hb dXm_call_176 (by decide) (fun c_36 => ?_) (fun c_36 => ?_)
        · have hw := hw.1 c_36
          obtain ⟨x2_37, ex2_37⟩ : ∃ y : Int32, y = x2 + 1 := ⟨_, rfl⟩
          have hw := hw x2_37 ex2_37
          refine lv_iinc (v := x2_37) (lv' := [(2, .int x2_37), (0, .ref (q 0)), (1, .int x1), (3, .int x3), (4, .int x4)]) hx hb dXm_call_190 hl (k := 2) rfl (by rw [ex2_37]; rfl) (by decide) rfl (fun ls hl => ?_)
          refine lv_goto (tgt := 91) hx hb dXm_call_193 (by decide) ?_
          exact hk91 x1 x2_37 M _ _ _ hw hP hD hS (lv_sub hl [1, 2, 0] rfl)
        · have hw := hw.2 c_36
          refine lv_iload_n hx hb dXm_call_179 rfl (lv_at hl 3 rfl) ?_
          refine lv_if_eq (tgt := 190) hx hb dXm_call_180 (by decide) (fun c_38 => ?_) (fun c_38 => ?_)
          · have hw := hw.1 c_38
            obtain ⟨x2_39, ex2_39⟩ : ∃ y : Int32, y = x2 + 1 := ⟨_, rfl⟩
            have hw := hw x2_39 ex2_39
            refine lv_iinc (v := x2_39) (lv' := [(2, .int x2_39), (0, .ref (q 0)), (1, .int x1), (3, .int x3), (4, .int x4)]) hx hb dXm_call_190 hl (k := 2) rfl (by rw [ex2_39]; rfl) (by decide) rfl (fun ls hl => ?_)
            refine lv_goto (tgt := 91) hx hb dXm_call_193 (by decide) ?_
            exact hk91 x1 x2_39 M _ _ _ hw hP hD hS (lv_sub hl [1, 2, 0] rfl)
          · have hw := hw.2 c_38
            refine lv_aload_n hx hb dXm_call_183 rfl (lv_at hl 0 rfl) ?_
            refine va_get (D := (dC, dI)) (ci := 5) (v := .ref (q 13)) (C := "ServiceThreadsModel") (T := TXm) (N := 28) hx hb hta inXm hown hK hP 0 (wM_0 q dA M) rfl 15 (by decide) (hta _ wt_580) (fun _ h9 => h9) rfl dXm_call_184 ?_
            refine lv_iload_n hx hb dXm_call_187 rfl (lv_at hl 2 rfl) ?_
            refine lv_iconst (v := 1) hx hb dXm_call_188 (by decide) ?_
            obtain ⟨h_40, hw⟩ := hw
            refine wo_z (w := (wM q dA)) (M := M) hx hb hK hP hD hS 13 12 (wM_13 q dA M) (wM_s13 q dA M) rfl (by decide) h_40 dXm_call_189 (fun M_41 H locs eM_41 hP hD hS => ?_)
            have hw := hw M_41 eM_41
            obtain ⟨x2_42, ex2_42⟩ : ∃ y : Int32, y = x2 + 1 := ⟨_, rfl⟩
            have hw := hw x2_42 ex2_42
            refine lv_iinc (v := x2_42) (lv' := [(2, .int x2_42), (0, .ref (q 0)), (1, .int x1), (3, .int x3), (4, .int x4)]) hx hb dXm_call_190 hl (k := 2) rfl (by rw [ex2_42]; rfl) (by decide) rfl (fun ls hl => ?_)
            refine lv_goto (tgt := 91) hx hb dXm_call_193 (by decide) ?_
            exact hk91 x1 x2_42 M_41 _ _ _ hw hP hD hS (lv_sub hl [1, 2, 0] rfl)
    · have hw := hw.2 c_29
      refine lv_iload_n hx hb dXm_call_113 rfl (lv_at hl 3 rfl) ?_
      refine lv_if_eq (tgt := 153) hx hb dXm_call_114 (by decide) (fun c_43 => ?_) (fun c_43 => ?_)
      · have hw := hw.1 c_43
        refine lv_iconst (v := 0) hx hb dXm_call_153 (by decide) ?_
        refine lv_istore_n (lv' := [(3, .int 0), (0, .ref (q 0)), (1, .int x1), (2, .int x2), (4, .int x4)]) hx hb dXm_call_154 rfl hl (by decide) rfl (fun ls hl => ?_)
        obtain ⟨x4_44, ex4_44⟩ : ∃ y : Int32, y = x4 + 1 := ⟨_, rfl⟩
        have hw := hw x4_44 ex4_44
        refine lv_iinc (v := x4_44) (lv' := [(4, .int x4_44), (3, .int 0), (0, .ref (q 0)), (1, .int x1), (2, .int x2)]) hx hb dXm_call_155 hl (k := 4) rfl (by rw [ex4_44]; rfl) (by decide) rfl (fun ls hl => ?_)
        refine lv_goto (tgt := 102) hx hb dXm_call_158 (by decide) ?_
        exact ih102 x1 x2 0 x4_44 M _ _ _ hw hP hD hS (lv_sub hl [2, 3, 4, 1, 0] rfl)
      · have hw := hw.2 c_43
        refine lv_aload_n hx hb dXm_call_117 rfl (lv_at hl 0 rfl) ?_
        refine va_get (D := (dC, dI)) (ci := 5) (v := .ref (q 19)) (C := "ServiceThreadsModel") (T := TXm) (N := 28) hx hb hta inXm hown hK hP 0 (wM_0 q dA M) rfl 22 (by decide) (hta _ wt_587) (fun _ h9 => h9) rfl dXm_call_118 ?_
        refine lv_iload hx hb dXm_call_121 (lv_at hl 4 rfl) ?_
        obtain ⟨h_45, hw⟩ := hw
        refine ro_z (w := (wM q dA)) (M := M) hx hb hK hP 19 18 (wM_19 q dA M) rfl h_45 dXm_call_123 (fun y_46 ey_46 => ?_)
        have hw := hw y_46 ey_46
        refine lv_if_eq (tgt := 149) hx hb dXm_call_124 (by decide) (fun c_47 => ?_) (fun c_47 => ?_)
        · have hw := hw.1 c_47
          refine lv_iconst (v := 1) hx hb dXm_call_149 (by decide) ?_
          refine lv_goto (tgt := 154) hx hb dXm_call_150 (by decide) ?_
          refine lv_istore_n (lv' := [(3, .int 1), (0, .ref (q 0)), (1, .int x1), (2, .int x2), (4, .int x4)]) hx hb dXm_call_154 rfl hl (by decide) rfl (fun ls hl => ?_)
          obtain ⟨x4_48, ex4_48⟩ : ∃ y : Int32, y = x4 + 1 := ⟨_, rfl⟩
          have hw := hw x4_48 ex4_48
          refine lv_iinc (v := x4_48) (lv' := [(4, .int x4_48), (3, .int 1), (0, .ref (q 0)), (1, .int x1), (2, .int x2)]) hx hb dXm_call_155 hl (k := 4) rfl (by rw [ex4_48]; rfl) (by decide) rfl (fun ls hl => ?_)
          refine lv_goto (tgt := 102) hx hb dXm_call_158 (by decide) ?_
          exact ih102 x1 x2 1 x4_48 M _ _ _ hw hP hD hS (lv_sub hl [2, 3, 4, 1, 0] rfl)
        · have hw := hw.2 c_47
          refine lv_aload_n hx hb dXm_call_127 rfl (lv_at hl 0 rfl) ?_
          refine va_get (D := (dC, dI)) (ci := 5) (v := .ref (q 17)) (C := "ServiceThreadsModel") (T := TXm) (N := 28) hx hb hta inXm hown hK hP 0 (wM_0 q dA M) rfl 20 (by decide) (hta _ wt_585) (fun _ h9 => h9) rfl dXm_call_128 ?_
          refine lv_iload hx hb dXm_call_131 (lv_at hl 4 rfl) ?_
          obtain ⟨h_49, hw⟩ := hw
          refine ro_i (w := (wM q dA)) (M := M) hx hb hK hP 17 16 (wM_17 q dA M) rfl h_49 dXm_call_133 (fun y_50 ey_50 => ?_)
          have hw := hw y_50 ey_50
          refine lv_iload_n hx hb dXm_call_134 rfl (lv_at hl 2 rfl) ?_
          refine lv_icmp_ne (tgt := 149) hx hb dXm_call_135 (by decide) (fun c_51 => ?_) (fun c_51 => ?_)
          · have hw := hw.2 c_51
            refine lv_iconst (v := 1) hx hb dXm_call_149 (by decide) ?_
            refine lv_goto (tgt := 154) hx hb dXm_call_150 (by decide) ?_
            refine lv_istore_n (lv' := [(3, .int 1), (0, .ref (q 0)), (1, .int x1), (2, .int x2), (4, .int x4)]) hx hb dXm_call_154 rfl hl (by decide) rfl (fun ls hl => ?_)
            obtain ⟨x4_52, ex4_52⟩ : ∃ y : Int32, y = x4 + 1 := ⟨_, rfl⟩
            have hw := hw x4_52 ex4_52
            refine lv_iinc (v := x4_52) (lv' := [(4, .int x4_52), (3, .int 1), (0, .ref (q 0)), (1, .int x1), (2, .int x2)]) hx hb dXm_call_155 hl (k := 4) rfl (by rw [ex4_52]; rfl) (by decide) rfl (fun ls hl => ?_)
            refine lv_goto (tgt := 102) hx hb dXm_call_158 (by decide) ?_
            exact ih102 x1 x2 1 x4_52 M _ _ _ hw hP hD hS (lv_sub hl [2, 3, 4, 1, 0] rfl)
          · have hw := hw.1 c_51
            refine lv_aload_n hx hb dXm_call_138 rfl (lv_at hl 0 rfl) ?_
            refine va_get (D := (dC, dI)) (ci := 5) (v := .ref (q 16)) (C := "ServiceThreadsModel") (T := TXm) (N := 28) hx hb hta inXm hown hK hP 0 (wM_0 q dA M) rfl 19 (by decide) (hta _ wt_584) (fun _ h9 => h9) rfl dXm_call_139 ?_
            refine lv_iload hx hb dXm_call_142 (lv_at hl 4 rfl) ?_
            obtain ⟨h_53, hw⟩ := hw
            refine ro_i (w := (wM q dA)) (M := M) hx hb hK hP 16 15 (wM_16 q dA M) rfl h_53 dXm_call_144 (fun y_54 ey_54 => ?_)
            have hw := hw y_54 ey_54
            refine lv_iload_n hx hb dXm_call_145 rfl (lv_at hl 1 rfl) ?_
            refine lv_icmp_ge (tgt := 153) hx hb dXm_call_146 (by decide) (fun c_55 => ?_) (fun c_55 => ?_)
            · have hw := hw.1 c_55
              refine lv_iconst (v := 0) hx hb dXm_call_153 (by decide) ?_
              refine lv_istore_n (lv' := [(3, .int 0), (0, .ref (q 0)), (1, .int x1), (2, .int x2), (4, .int x4)]) hx hb dXm_call_154 rfl hl (by decide) rfl (fun ls hl => ?_)
              obtain ⟨x4_56, ex4_56⟩ : ∃ y : Int32, y = x4 + 1 := ⟨_, rfl⟩
              have hw := hw x4_56 ex4_56
              refine lv_iinc (v := x4_56) (lv' := [(4, .int x4_56), (3, .int 0), (0, .ref (q 0)), (1, .int x1), (2, .int x2)]) hx hb dXm_call_155 hl (k := 4) rfl (by rw [ex4_56]; rfl) (by decide) rfl (fun ls hl => ?_)
              refine lv_goto (tgt := 102) hx hb dXm_call_158 (by decide) ?_
              exact ih102 x1 x2 0 x4_56 M _ _ _ hw hP hD hS (lv_sub hl [2, 3, 4, 1, 0] rfl)
            · have hw := hw.2 c_55
              refine lv_iconst (v := 1) hx hb dXm_call_149 (by decide) ?_
              refine lv_goto (tgt := 154) hx hb dXm_call_150 (by decide) ?_
              refine lv_istore_n (lv' := [(3, .int 1), (0, .ref (q 0)), (1, .int x1), (2, .int x2), (4, .int x4)]) hx hb dXm_call_154 rfl hl (by decide) rfl (fun ls hl => ?_)
              obtain ⟨x4_57, ex4_57⟩ : ∃ y : Int32, y = x4 + 1 := ⟨_, rfl⟩
              have hw := hw x4_57 ex4_57
              refine lv_iinc (v := x4_57) (lv' := [(4, .int x4_57), (3, .int 1), (0, .ref (q 0)), (1, .int x1), (2, .int x2)]) hx hb dXm_call_155 hl (k := 4) rfl (by rw [ex4_57]; rfl) (by decide) rfl (fun ls hl => ?_)
              refine lv_goto (tgt := 102) hx hb dXm_call_158 (by decide) ?_
              exact ih102 x1 x2 1 x4_57 M _ _ _ hw hP hD hS (lv_sub hl [2, 3, 4, 1, 0] rfl)
set_option maxHeartbeats 4000000 in
set_option maxRecDepth 100000 in
theorem LwlXm_call_91 {p : Program} {l : Launch} {e : Env} {s : State} {m : MethodId} {below : List Frame} {meth : Method} {c : Code} {dC : Nat → ClassId} {dI : Nat → Nat → Nat} {q : Nat → Nat} {dA : Nat → ClassId} {A : Nat → Prop} {av : List Value} {post : Int32 → Mm → Prop} (CX : p.tables.exec = Jvm.exec ∧ c.code = cXm_call ∧ meth.sig.returnType = (some .int) ∧ c.maxLocals = 5 ∧ s.vm.findClass "ServiceThreadsModel" = some m.cls ∧ (∀ w ∈ wsG, w.before av.toArray s = true) ∧ (∀ q : Nat, s.heap.size ≤ q → A q) ∧ va_K (dC, dI) vwCl (tM dA) s ∧ meth.locks = false) : ∀ (n91 : Nat) (x1 : Int32) (x2 : Int32) (M : Mm) (H : Heap) (locs : List Loc) (ls : Array Slot), wlXm_call_91 post n91 x1 x2 M → va_P (dC, dI) vwCl (wM q dA M) H → va_D A (wM q dA M) → va_S A s.heap H locs → lv_has ls 5 [(0, .ref (q 0)), (1, .int x1), (2, .int x2)] → W p l e (headSpec (wsA yXm_call cXm_call 5 (some .int)) ({ frames := 1, cells := 0, slots := 0, locals := 24 })).room s m av.toArray below meth c H locs 0 0 (MQ below (va_Qi post (bW (dC, dI) vwCl (wM q dA) (tM dA) A) A) av.toArray s 0 0 A) (F0 m 91 ls []) := by
  obtain ⟨hx, hb, hr, hml, hown, hta, hA, hK, hlocks⟩ := CX
  intro n91
  induction n91 with
  | zero =>
    intro x1 x2 M H locs ls hw
    exact False.elim hw
  | succ n91 ih91 =>
    intro x1 x2 M H locs ls hw hP hD hS hl
    dsimp only [wlXm_call_91] at hw
    refine lv_iload_n hx hb dXm_call_91 rfl (lv_at hl 2 rfl) ?_
    refine lv_bipush (v := 8) hx hb dXm_call_92 (by decide) ?_
    refine lv_icmp_ge (tgt := 196) hx hb dXm_call_94 (by decide) (fun c_24 => ?_) (fun c_24 => ?_)
    · have hw := hw.1 c_24
      refine lv_aload_n hx hb dXm_call_196 rfl (lv_at hl 0 rfl) ?_
      refine va_get (D := (dC, dI)) (ci := 5) (v := .int (M 22 0)) (C := "ServiceThreadsModel") (T := TXm) (N := 28) hx hb hta inXm hown hK hP 0 (wM_0 q dA M) rfl 18 (by decide) (hta _ wt_583) (fun _ h9 => h9) rfl dXm_call_197 ?_
      refine lv_topi (fun y_25 ey_25 => ?_)
      have hw := hw y_25 ey_25
      refine lv_iconst (v := 1) hx hb dXm_call_200 (by decide) ?_
      refine lv_isub hx hb dXm_call_201 ?_
      refine lv_topi (fun y_26 ey_26 => ?_)
      have hw := hw y_26 ey_26
      exact W.iret (v := y_26) hx hb hr (fun t ht hW => ⟨⟨y_26, M, rfl, hw, by rw [ht]; exact hP, va_K.moved hW.alike hK, hD⟩, hS.F ht⟩) hS.2.2 dXm_call_202 hlocks
    · have hw := hw.2 c_24
      refine lv_iconst (v := 1) hx hb dXm_call_97 (by decide) ?_
      refine lv_istore_n (lv' := [(3, .int 1), (0, .ref (q 0)), (1, .int x1), (2, .int x2)]) hx hb dXm_call_98 rfl hl (by decide) rfl (fun ls hl => ?_)
      refine lv_iconst (v := 0) hx hb dXm_call_99 (by decide) ?_
      refine lv_istore (lv' := [(4, .int 0), (3, .int 1), (0, .ref (q 0)), (1, .int x1), (2, .int x2)]) hx hb dXm_call_100 hl (by decide) rfl (fun ls hl => ?_)
      obtain ⟨n102, hw⟩ := hw
      exact LwlXm_call_102 (A := A) (av := av) ⟨hx, hb, hr, hml, hown, hta, hA, hK, hlocks⟩ ih91 n102 x1 x2 1 0 M _ _ _ hw hP hD hS (lv_sub hl [2, 3, 4, 1, 0] rfl)
set_option maxHeartbeats 4000000 in
set_option maxRecDepth 100000 in
theorem mtXm_call (l : Launch) (dC : Nat → ClassId) (dI : Nat → Nat → Nat) (q : Nat → Nat) (dA : Nat → ClassId) (sz : Nat) (p0 : Int32) (M : Mm) (post : Int32 → Mm → Prop) (hw : wpXm_call p0 M post) : Met l yXm_call (wsA yXm_call cXm_call 5 (some .int)) ({ frames := 1, cells := 0, slots := 0, locals := 24 }) (va_Pc [.ref (q 0), .int p0] (pW (dC, dI) vwCl (wM q dA) (tM dA) sz M)) (va_Qi post (bW (dC, dI) vwCl (wM q dA) (tM dA) (va_A (wM q dA M) sz)) (va_A (wM q dA M) sz)) 0 0 (va_A (wM q dA M) sz) := by
  refine Met.ofW (cc := cXm_call) (maxL := 5) (ret := (some .int)) (by decide) rfl ?_
  intro p e s m args below meth c s₁ B hml hv
  obtain ⟨rfl, hsz, hP, hK, hD0⟩ := hv
  have hx := B.exec
  have hb := B.bytes
  have hr := B.returns
  have hts := atoms_spec (ws := (wsA yXm_call cXm_call 5 (some .int))) B.pre
  have hta : ∀ w ∈ wsG, w.before _ s = true := fun w h => hts w (List.mem_cons_of_mem _ h)
  have hown : s.vm.findClass "ServiceThreadsModel" = some m.cls := findClass_of_methodNamed B.named
  have hlocks := B.notSynchronized
  subst hsz
  have hD := hD0.self (sz := s.heap.size)
  generalize hAe : va_A (wM q dA M) s.heap.size = A at hD ⊢
  have hA : ∀ q : Nat, s.heap.size ≤ q → A q := fun q h => by rw [← hAe]; exact Or.inr h
  have hS : va_S A s.heap s.heap [] := va_S.rf
  dsimp only [wpXm_call] at hw
  have hl := lv_entry ([.ref (q 0), .int p0]) (n := 5) (Nat.le_of_ble_eq_true rfl)
  rw [lg_entry_eq]
  generalize (lg_sl ([.ref (q 0), .int p0]) ++ List.replicate (5 - (lg_sl ([.ref (q 0), .int p0])).length) Slot.unset).toArray = ls at hl ⊢
  have hl : lv_has ls 5 [(0, .ref (q 0)), (1, .int p0)] := hl
  refine lv_aload_n hx hb dXm_call_0 rfl (lv_at hl 0 rfl) ?_
  refine lv_iload_n hx hb dXm_call_1 rfl (lv_at hl 1 rfl) ?_
  refine lv_iconst (v := 0) hx hb dXm_call_2 (by decide) ?_
  refine lv_iconst (v := 3) hx hb dXm_call_3 (by decide) ?_
  refine cn_i (w := (wM q dA)) (M := M) (wM_ad q dA) (va_runS (As := [.int p0, .int 0, .int 3]) (rest := [.ref (q 0)]) ⟨hx, hb, hml, hown, hta⟩ (mtXm_in l dC dI q dA s.heap.size p0 0 3 M _ hw) (va_cwS 3 hta (giS wt_661 wt_662 wt_7 wt_663) rfl rfl rfl (by decide +kernel) ⟨Nat.le_of_ble_eq_true rfl, Nat.le_of_ble_eq_true rfl⟩) ⟨pW_blind, pW_of hK hP hD⟩ rfl rfl hl.1 rfl (lv_room (Nat.le_of_ble_eq_true rfl)) dXm_call_4 ⟨Nat.le_of_ble_eq_true rfl, Nat.le_of_ble_eq_true rfl⟩) hD hS hA (fun r_1 M_2 H locs hw hP hD hS => ?_)
  refine lv_if_ne (tgt := 14) hx hb dXm_call_7 (by decide) (fun c_3 => ?_) (fun c_3 => ?_)
  · have hw := hw.2 c_3
    refine lv_iconst (v := 0) hx hb dXm_call_14 (by decide) ?_
    refine lv_aload_n hx hb dXm_call_15 rfl (lv_at hl 0 rfl) ?_
    refine va_get (D := (dC, dI)) (ci := 5) (v := .int (M_2 22 0)) (C := "ServiceThreadsModel") (T := TXm) (N := 28) hx hb hta inXm hown hK hP 0 (wM_0 q dA M_2) rfl 18 (by decide) (hta _ wt_583) (fun _ h9 => h9) rfl dXm_call_16 ?_
    refine lv_topi (fun y_4 ey_4 => ?_)
    have hw := hw y_4 ey_4
    refine lv_bipush (v := 16) hx hb dXm_call_19 (by decide) ?_
    refine lv_icmp_ne (tgt := 28) hx hb dXm_call_21 (by decide) (fun c_5 => ?_) (fun c_5 => ?_)
    · have hw := hw.2 c_5
      refine lv_iconst (v := 0) hx hb dXm_call_28 (by decide) ?_
      refine lv_iconst (v := 0) hx hb dXm_call_29 (by decide) ?_
      refine lv_iconst (v := 0) hx hb dXm_call_30 (by decide) ?_
      refine cn_i (w := (wM q dA)) (M := M_2) (wM_ad q dA) (va_runV (As := [.int 0, .int 0, .int 0, .int 0]) (rest := []) ⟨hx, hb, hml, hown, hta⟩ (mtXm_throwing l dC dI q dA H.size 0 0 0 0 M_2 _ hw) (cwV 4 hta (giV wt_668 wt_670 ws_19 wt_7 wt_671) rfl rfl rfl (by decide +kernel) ⟨Nat.le_of_ble_eq_true rfl, Nat.le_of_ble_eq_true rfl⟩) ⟨pW_blind, va_recv hK hP (ci := 5) (q0 := 0) rfl (wM_0 q dA M_2), pW_of hK hP hD⟩ rfl rfl hl.1 rfl (lv_room (Nat.le_of_ble_eq_true rfl)) dXm_call_31 ⟨Nat.le_of_ble_eq_true rfl, Nat.le_of_ble_eq_true rfl⟩) hD hS hA (fun r_6 M_7 H locs hw hP hD hS => ?_)
      refine lv_if_eq (tgt := 39) hx hb dXm_call_34 (by decide) (fun c_8 => ?_) (fun c_8 => ?_)
      · have hw := hw.1 c_8
        refine lv_aload_n hx hb dXm_call_39 rfl (lv_at hl 0 rfl) ?_
        refine va_get (D := (dC, dI)) (ci := 5) (v := .ref (q 16)) (C := "ServiceThreadsModel") (T := TXm) (N := 28) hx hb hta inXm hown hK hP 0 (wM_0 q dA M_7) rfl 19 (by decide) (hta _ wt_584) (fun _ h9 => h9) rfl dXm_call_40 ?_
        refine lv_aload_n hx hb dXm_call_43 rfl (lv_at hl 0 rfl) ?_
        refine va_get (D := (dC, dI)) (ci := 5) (v := .int (M_7 22 0)) (C := "ServiceThreadsModel") (T := TXm) (N := 28) hx hb hta inXm hown hK hP 0 (wM_0 q dA M_7) rfl 18 (by decide) (hta _ wt_583) (fun _ h9 => h9) rfl dXm_call_44 ?_
        refine lv_topi (fun y_9 ey_9 => ?_)
        have hw := hw y_9 ey_9
        refine lv_iload_n hx hb dXm_call_47 rfl (lv_at hl 1 rfl) ?_
        obtain ⟨h_10, hw⟩ := hw
        refine wo_i (w := (wM q dA)) (M := M_7) hx hb hK hP hD hS 16 15 (wM_16 q dA M_7) (wM_s16 q dA M_7) rfl h_10 dXm_call_48 (fun M_11 H locs eM_11 hP hD hS => ?_)
        have hw := hw M_11 eM_11
        refine lv_aload_n hx hb dXm_call_49 rfl (lv_at hl 0 rfl) ?_
        refine va_get (D := (dC, dI)) (ci := 5) (v := .ref (q 17)) (C := "ServiceThreadsModel") (T := TXm) (N := 28) hx hb hta inXm hown hK hP 0 (wM_0 q dA M_11) rfl 20 (by decide) (hta _ wt_585) (fun _ h9 => h9) rfl dXm_call_50 ?_
        refine lv_aload_n hx hb dXm_call_53 rfl (lv_at hl 0 rfl) ?_
        refine va_get (D := (dC, dI)) (ci := 5) (v := .int (M_11 22 0)) (C := "ServiceThreadsModel") (T := TXm) (N := 28) hx hb hta inXm hown hK hP 0 (wM_0 q dA M_11) rfl 18 (by decide) (hta _ wt_583) (fun _ h9 => h9) rfl dXm_call_54 ?_
        refine lv_topi (fun y_12 ey_12 => ?_)
        have hw := hw y_12 ey_12
        refine lv_iconst (v := (-1)) hx hb dXm_call_57 (by decide) ?_
        obtain ⟨h_13, hw⟩ := hw
        refine wo_i (w := (wM q dA)) (M := M_11) hx hb hK hP hD hS 17 16 (wM_17 q dA M_11) (wM_s17 q dA M_11) rfl h_13 dXm_call_58 (fun M_14 H locs eM_14 hP hD hS => ?_)
        have hw := hw M_14 eM_14
        refine lv_aload_n hx hb dXm_call_59 rfl (lv_at hl 0 rfl) ?_
        refine va_get (D := (dC, dI)) (ci := 5) (v := .ref (q 18)) (C := "ServiceThreadsModel") (T := TXm) (N := 28) hx hb hta inXm hown hK hP 0 (wM_0 q dA M_14) rfl 21 (by decide) (hta _ wt_586) (fun _ h9 => h9) rfl dXm_call_60 ?_
        refine lv_aload_n hx hb dXm_call_63 rfl (lv_at hl 0 rfl) ?_
        refine va_get (D := (dC, dI)) (ci := 5) (v := .int (M_14 22 0)) (C := "ServiceThreadsModel") (T := TXm) (N := 28) hx hb hta inXm hown hK hP 0 (wM_0 q dA M_14) rfl 18 (by decide) (hta _ wt_583) (fun _ h9 => h9) rfl dXm_call_64 ?_
        refine lv_topi (fun y_15 ey_15 => ?_)
        have hw := hw y_15 ey_15
        refine lv_iconst (v := (-1)) hx hb dXm_call_67 (by decide) ?_
        obtain ⟨h_16, hw⟩ := hw
        refine wo_i (w := (wM q dA)) (M := M_14) hx hb hK hP hD hS 18 17 (wM_18 q dA M_14) (wM_s18 q dA M_14) rfl h_16 dXm_call_68 (fun M_17 H locs eM_17 hP hD hS => ?_)
        have hw := hw M_17 eM_17
        refine lv_aload_n hx hb dXm_call_69 rfl (lv_at hl 0 rfl) ?_
        refine va_get (D := (dC, dI)) (ci := 5) (v := .ref (q 19)) (C := "ServiceThreadsModel") (T := TXm) (N := 28) hx hb hta inXm hown hK hP 0 (wM_0 q dA M_17) rfl 22 (by decide) (hta _ wt_587) (fun _ h9 => h9) rfl dXm_call_70 ?_
        refine lv_aload_n hx hb dXm_call_73 rfl (lv_at hl 0 rfl) ?_
        refine va_get (D := (dC, dI)) (ci := 5) (v := .int (M_17 22 0)) (C := "ServiceThreadsModel") (T := TXm) (N := 28) hx hb hta inXm hown hK hP 0 (wM_0 q dA M_17) rfl 18 (by decide) (hta _ wt_583) (fun _ h9 => h9) rfl dXm_call_74 ?_
        refine lv_topi (fun y_18 ey_18 => ?_)
        have hw := hw y_18 ey_18
        refine lv_iconst (v := 1) hx hb dXm_call_77 (by decide) ?_
        obtain ⟨h_19, hw⟩ := hw
        refine wo_z (w := (wM q dA)) (M := M_17) hx hb hK hP hD hS 19 18 (wM_19 q dA M_17) (wM_s19 q dA M_17) rfl (by decide) h_19 dXm_call_78 (fun M_20 H locs eM_20 hP hD hS => ?_)
        have hw := hw M_20 eM_20
        refine lv_aload_n hx hb dXm_call_79 rfl (lv_at hl 0 rfl) ?_
        refine lv_dup hx hb dXm_call_80 rfl ?_
        refine va_get (D := (dC, dI)) (ci := 5) (v := .int (M_20 22 0)) (C := "ServiceThreadsModel") (T := TXm) (N := 28) hx hb hta inXm hown hK hP 0 (wM_0 q dA M_20) rfl 18 (by decide) (hta _ wt_583) (fun _ h9 => h9) rfl dXm_call_81 ?_
        refine lv_topi (fun y_21 ey_21 => ?_)
        have hw := hw y_21 ey_21
        refine lv_iconst (v := 1) hx hb dXm_call_84 (by decide) ?_
        refine lv_iadd hx hb dXm_call_85 ?_
        refine lv_topi (fun y_22 ey_22 => ?_)
        have hw := hw y_22 ey_22
        refine va_put (D := (dC, dI)) (ci := 5) (v := .int y_22) (ty := .int) (C := "ServiceThreadsModel") (T := TXm) (N := 28) hx hb hta inXm tyXm tyXm_ok nmXm hown hK hP hD hS 0 (wM_0 q dA M_20) rfl 18 (by decide) (hta _ wt_583) (fun _ h9 => h9) rfl (by decide +kernel) rfl rfl (Nat.le_of_ble_eq_true rfl) dXm_call_86 (fun H locs hP hD hS => ?_)
        obtain ⟨M_23, eM_23⟩ : ∃ y : Mm, y = stM M_20 22 (fun _ => y_22) := ⟨_, rfl⟩
        have hP : va_P (dC, dI) vwCl (wM q dA M_23) H := by rw [eM_23]; exact hP
        have hD : va_D A (wM q dA M_23) := by rw [eM_23]; exact hD
        have hw := hw M_23 eM_23
        refine lv_iconst (v := 0) hx hb dXm_call_89 (by decide) ?_
        refine lv_istore_n (lv' := [(2, .int 0), (0, .ref (q 0)), (1, .int p0)]) hx hb dXm_call_90 rfl hl (by decide) rfl (fun ls hl => ?_)
        obtain ⟨n91, hw⟩ := hw
        exact LwlXm_call_91 (A := A) (av := [.ref (q 0), .int p0]) ⟨hx, hb, hr, hml, hown, hta, hA, hK, hlocks⟩ n91 p0 0 M_23 _ _ _ hw hP hD hS (lv_sub hl [1, 2, 0] rfl)
      · have hw := hw.2 c_8
        refine lv_iconst (v := 0) hx hb dXm_call_37 (by decide) ?_
        exact W.iret (v := 0) hx hb hr (fun t ht hW => ⟨⟨0, M_7, rfl, hw, by rw [ht]; exact hP, va_K.moved hW.alike hK, hD⟩, hS.F ht⟩) hS.2.2 dXm_call_38 hlocks
    · have hw := hw.1 c_5
      refine lv_iconst (v := 1) hx hb dXm_call_24 (by decide) ?_
      refine lv_goto (tgt := 29) hx hb dXm_call_25 (by decide) ?_
      refine lv_iconst (v := 0) hx hb dXm_call_29 (by decide) ?_
      refine lv_iconst (v := 0) hx hb dXm_call_30 (by decide) ?_
      refine cn_i (w := (wM q dA)) (M := M_2) (wM_ad q dA) (va_runV (As := [.int 0, .int 1, .int 0, .int 0]) (rest := []) ⟨hx, hb, hml, hown, hta⟩ (mtXm_throwing l dC dI q dA H.size 0 1 0 0 M_2 _ hw) (cwV 4 hta (giV wt_668 wt_670 ws_19 wt_7 wt_671) rfl rfl rfl (by decide +kernel) ⟨Nat.le_of_ble_eq_true rfl, Nat.le_of_ble_eq_true rfl⟩) ⟨pW_blind, va_recv hK hP (ci := 5) (q0 := 0) rfl (wM_0 q dA M_2), pW_of hK hP hD⟩ rfl rfl hl.1 rfl (lv_room (Nat.le_of_ble_eq_true rfl)) dXm_call_31 ⟨Nat.le_of_ble_eq_true rfl, Nat.le_of_ble_eq_true rfl⟩) hD hS hA (fun r_58 M_59 H locs hw hP hD hS => ?_)
      refine lv_if_eq (tgt := 39) hx hb dXm_call_34 (by decide) (fun c_60 => ?_) (fun c_60 => ?_)
      · have hw := hw.1 c_60
        refine lv_aload_n hx hb dXm_call_39 rfl (lv_at hl 0 rfl) ?_
        refine va_get (D := (dC, dI)) (ci := 5) (v := .ref (q 16)) (C := "ServiceThreadsModel") (T := TXm) (N := 28) hx hb hta inXm hown hK hP 0 (wM_0 q dA M_59) rfl 19 (by decide) (hta _ wt_584) (fun _ h9 => h9) rfl dXm_call_40 ?_
        refine lv_aload_n hx hb dXm_call_43 rfl (lv_at hl 0 rfl) ?_
        refine va_get (D := (dC, dI)) (ci := 5) (v := .int (M_59 22 0)) (C := "ServiceThreadsModel") (T := TXm) (N := 28) hx hb hta inXm hown hK hP 0 (wM_0 q dA M_59) rfl 18 (by decide) (hta _ wt_583) (fun _ h9 => h9) rfl dXm_call_44 ?_
        refine lv_topi (fun y_61 ey_61 => ?_)
        have hw := hw y_61 ey_61
        refine lv_iload_n hx hb dXm_call_47 rfl (lv_at hl 1 rfl) ?_
        obtain ⟨h_62, hw⟩ := hw
        refine wo_i (w := (wM q dA)) (M := M_59) hx hb hK hP hD hS 16 15 (wM_16 q dA M_59) (wM_s16 q dA M_59) rfl h_62 dXm_call_48 (fun M_63 H locs eM_63 hP hD hS => ?_)
        have hw := hw M_63 eM_63
        refine lv_aload_n hx hb dXm_call_49 rfl (lv_at hl 0 rfl) ?_
        refine va_get (D := (dC, dI)) (ci := 5) (v := .ref (q 17)) (C := "ServiceThreadsModel") (T := TXm) (N := 28) hx hb hta inXm hown hK hP 0 (wM_0 q dA M_63) rfl 20 (by decide) (hta _ wt_585) (fun _ h9 => h9) rfl dXm_call_50 ?_
        refine lv_aload_n hx hb dXm_call_53 rfl (lv_at hl 0 rfl) ?_
        refine va_get (D := (dC, dI)) (ci := 5) (v := .int (M_63 22 0)) (C := "ServiceThreadsModel") (T := TXm) (N := 28) hx hb hta inXm hown hK hP 0 (wM_0 q dA M_63) rfl 18 (by decide) (hta _ wt_583) (fun _ h9 => h9) rfl dXm_call_54 ?_
        refine lv_topi (fun y_64 ey_64 => ?_)
        have hw := hw y_64 ey_64
        refine lv_iconst (v := (-1)) hx hb dXm_call_57 (by decide) ?_
        obtain ⟨h_65, hw⟩ := hw
        refine wo_i (w := (wM q dA)) (M := M_63) hx hb hK hP hD hS 17 16 (wM_17 q dA M_63) (wM_s17 q dA M_63) rfl h_65 dXm_call_58 (fun M_66 H locs eM_66 hP hD hS => ?_)
        have hw := hw M_66 eM_66
        refine lv_aload_n hx hb dXm_call_59 rfl (lv_at hl 0 rfl) ?_
        refine va_get (D := (dC, dI)) (ci := 5) (v := .ref (q 18)) (C := "ServiceThreadsModel") (T := TXm) (N := 28) hx hb hta inXm hown hK hP 0 (wM_0 q dA M_66) rfl 21 (by decide) (hta _ wt_586) (fun _ h9 => h9) rfl dXm_call_60 ?_
        refine lv_aload_n hx hb dXm_call_63 rfl (lv_at hl 0 rfl) ?_
        refine va_get (D := (dC, dI)) (ci := 5) (v := .int (M_66 22 0)) (C := "ServiceThreadsModel") (T := TXm) (N := 28) hx hb hta inXm hown hK hP 0 (wM_0 q dA M_66) rfl 18 (by decide) (hta _ wt_583) (fun _ h9 => h9) rfl dXm_call_64 ?_
        refine lv_topi (fun y_67 ey_67 => ?_)
        have hw := hw y_67 ey_67
        refine lv_iconst (v := (-1)) hx hb dXm_call_67 (by decide) ?_
        obtain ⟨h_68, hw⟩ := hw
        refine wo_i (w := (wM q dA)) (M := M_66) hx hb hK hP hD hS 18 17 (wM_18 q dA M_66) (wM_s18 q dA M_66) rfl h_68 dXm_call_68 (fun M_69 H locs eM_69 hP hD hS => ?_)
        have hw := hw M_69 eM_69
        refine lv_aload_n hx hb dXm_call_69 rfl (lv_at hl 0 rfl) ?_
        refine va_get (D := (dC, dI)) (ci := 5) (v := .ref (q 19)) (C := "ServiceThreadsModel") (T := TXm) (N := 28) hx hb hta inXm hown hK hP 0 (wM_0 q dA M_69) rfl 22 (by decide) (hta _ wt_587) (fun _ h9 => h9) rfl dXm_call_70 ?_
        refine lv_aload_n hx hb dXm_call_73 rfl (lv_at hl 0 rfl) ?_
        refine va_get (D := (dC, dI)) (ci := 5) (v := .int (M_69 22 0)) (C := "ServiceThreadsModel") (T := TXm) (N := 28) hx hb hta inXm hown hK hP 0 (wM_0 q dA M_69) rfl 18 (by decide) (hta _ wt_583) (fun _ h9 => h9) rfl dXm_call_74 ?_
        refine lv_topi (fun y_70 ey_70 => ?_)
        have hw := hw y_70 ey_70
        refine lv_iconst (v := 1) hx hb dXm_call_77 (by decide) ?_
        obtain ⟨h_71, hw⟩ := hw
        refine wo_z (w := (wM q dA)) (M := M_69) hx hb hK hP hD hS 19 18 (wM_19 q dA M_69) (wM_s19 q dA M_69) rfl (by decide) h_71 dXm_call_78 (fun M_72 H locs eM_72 hP hD hS => ?_)
        have hw := hw M_72 eM_72
        refine lv_aload_n hx hb dXm_call_79 rfl (lv_at hl 0 rfl) ?_
        refine lv_dup hx hb dXm_call_80 rfl ?_
        refine va_get (D := (dC, dI)) (ci := 5) (v := .int (M_72 22 0)) (C := "ServiceThreadsModel") (T := TXm) (N := 28) hx hb hta inXm hown hK hP 0 (wM_0 q dA M_72) rfl 18 (by decide) (hta _ wt_583) (fun _ h9 => h9) rfl dXm_call_81 ?_
        refine lv_topi (fun y_73 ey_73 => ?_)
        have hw := hw y_73 ey_73
        refine lv_iconst (v := 1) hx hb dXm_call_84 (by decide) ?_
        refine lv_iadd hx hb dXm_call_85 ?_
        refine lv_topi (fun y_74 ey_74 => ?_)
        have hw := hw y_74 ey_74
        refine va_put (D := (dC, dI)) (ci := 5) (v := .int y_74) (ty := .int) (C := "ServiceThreadsModel") (T := TXm) (N := 28) hx hb hta inXm tyXm tyXm_ok nmXm hown hK hP hD hS 0 (wM_0 q dA M_72) rfl 18 (by decide) (hta _ wt_583) (fun _ h9 => h9) rfl (by decide +kernel) rfl rfl (Nat.le_of_ble_eq_true rfl) dXm_call_86 (fun H locs hP hD hS => ?_)
        obtain ⟨M_75, eM_75⟩ : ∃ y : Mm, y = stM M_72 22 (fun _ => y_74) := ⟨_, rfl⟩
        have hP : va_P (dC, dI) vwCl (wM q dA M_75) H := by rw [eM_75]; exact hP
        have hD : va_D A (wM q dA M_75) := by rw [eM_75]; exact hD
        have hw := hw M_75 eM_75
        refine lv_iconst (v := 0) hx hb dXm_call_89 (by decide) ?_
        refine lv_istore_n (lv' := [(2, .int 0), (0, .ref (q 0)), (1, .int p0)]) hx hb dXm_call_90 rfl hl (by decide) rfl (fun ls hl => ?_)
        obtain ⟨n91, hw⟩ := hw
        exact LwlXm_call_91 (A := A) (av := [.ref (q 0), .int p0]) ⟨hx, hb, hr, hml, hown, hta, hA, hK, hlocks⟩ n91 p0 0 M_75 _ _ _ hw hP hD hS (lv_sub hl [1, 2, 0] rfl)
      · have hw := hw.2 c_60
        refine lv_iconst (v := 0) hx hb dXm_call_37 (by decide) ?_
        exact W.iret (v := 0) hx hb hr (fun t ht hW => ⟨⟨0, M_59, rfl, hw, by rw [ht]; exact hP, va_K.moved hW.alike hK, hD⟩, hS.F ht⟩) hS.2.2 dXm_call_38 hlocks
  · have hw := hw.1 c_3
    refine lv_iconst (v := 1) hx hb dXm_call_10 (by decide) ?_
    refine lv_goto (tgt := 15) hx hb dXm_call_11 (by decide) ?_
    refine lv_aload_n hx hb dXm_call_15 rfl (lv_at hl 0 rfl) ?_
    refine va_get (D := (dC, dI)) (ci := 5) (v := .int (M_2 22 0)) (C := "ServiceThreadsModel") (T := TXm) (N := 28) hx hb hta inXm hown hK hP 0 (wM_0 q dA M_2) rfl 18 (by decide) (hta _ wt_583) (fun _ h9 => h9) rfl dXm_call_16 ?_
    refine lv_topi (fun y_76 ey_76 => ?_)
    have hw := hw y_76 ey_76
    refine lv_bipush (v := 16) hx hb dXm_call_19 (by decide) ?_
    refine lv_icmp_ne (tgt := 28) hx hb dXm_call_21 (by decide) (fun c_77 => ?_) (fun c_77 => ?_)
    · have hw := hw.2 c_77
      refine lv_iconst (v := 0) hx hb dXm_call_28 (by decide) ?_
      refine lv_iconst (v := 0) hx hb dXm_call_29 (by decide) ?_
      refine lv_iconst (v := 0) hx hb dXm_call_30 (by decide) ?_
      refine cn_i (w := (wM q dA)) (M := M_2) (wM_ad q dA) (va_runV (As := [.int 1, .int 0, .int 0, .int 0]) (rest := []) ⟨hx, hb, hml, hown, hta⟩ (mtXm_throwing l dC dI q dA H.size 1 0 0 0 M_2 _ hw) (cwV 4 hta (giV wt_668 wt_670 ws_19 wt_7 wt_671) rfl rfl rfl (by decide +kernel) ⟨Nat.le_of_ble_eq_true rfl, Nat.le_of_ble_eq_true rfl⟩) ⟨pW_blind, va_recv hK hP (ci := 5) (q0 := 0) rfl (wM_0 q dA M_2), pW_of hK hP hD⟩ rfl rfl hl.1 rfl (lv_room (Nat.le_of_ble_eq_true rfl)) dXm_call_31 ⟨Nat.le_of_ble_eq_true rfl, Nat.le_of_ble_eq_true rfl⟩) hD hS hA (fun r_78 M_79 H locs hw hP hD hS => ?_)
      refine lv_if_eq (tgt := 39) hx hb dXm_call_34 (by decide) (fun c_80 => ?_) (fun c_80 => ?_)
      · have hw := hw.1 c_80
        refine lv_aload_n hx hb dXm_call_39 rfl (lv_at hl 0 rfl) ?_
        refine va_get (D := (dC, dI)) (ci := 5) (v := .ref (q 16)) (C := "ServiceThreadsModel") (T := TXm) (N := 28) hx hb hta inXm hown hK hP 0 (wM_0 q dA M_79) rfl 19 (by decide) (hta _ wt_584) (fun _ h9 => h9) rfl dXm_call_40 ?_
        refine lv_aload_n hx hb dXm_call_43 rfl (lv_at hl 0 rfl) ?_
        refine va_get (D := (dC, dI)) (ci := 5) (v := .int (M_79 22 0)) (C := "ServiceThreadsModel") (T := TXm) (N := 28) hx hb hta inXm hown hK hP 0 (wM_0 q dA M_79) rfl 18 (by decide) (hta _ wt_583) (fun _ h9 => h9) rfl dXm_call_44 ?_
        refine lv_topi (fun y_81 ey_81 => ?_)
        have hw := hw y_81 ey_81
        refine lv_iload_n hx hb dXm_call_47 rfl (lv_at hl 1 rfl) ?_
        obtain ⟨h_82, hw⟩ := hw
        refine wo_i (w := (wM q dA)) (M := M_79) hx hb hK hP hD hS 16 15 (wM_16 q dA M_79) (wM_s16 q dA M_79) rfl h_82 dXm_call_48 (fun M_83 H locs eM_83 hP hD hS => ?_)
        have hw := hw M_83 eM_83
        refine lv_aload_n hx hb dXm_call_49 rfl (lv_at hl 0 rfl) ?_
        refine va_get (D := (dC, dI)) (ci := 5) (v := .ref (q 17)) (C := "ServiceThreadsModel") (T := TXm) (N := 28) hx hb hta inXm hown hK hP 0 (wM_0 q dA M_83) rfl 20 (by decide) (hta _ wt_585) (fun _ h9 => h9) rfl dXm_call_50 ?_
        refine lv_aload_n hx hb dXm_call_53 rfl (lv_at hl 0 rfl) ?_
        refine va_get (D := (dC, dI)) (ci := 5) (v := .int (M_83 22 0)) (C := "ServiceThreadsModel") (T := TXm) (N := 28) hx hb hta inXm hown hK hP 0 (wM_0 q dA M_83) rfl 18 (by decide) (hta _ wt_583) (fun _ h9 => h9) rfl dXm_call_54 ?_
        refine lv_topi (fun y_84 ey_84 => ?_)
        have hw := hw y_84 ey_84
        refine lv_iconst (v := (-1)) hx hb dXm_call_57 (by decide) ?_
        obtain ⟨h_85, hw⟩ := hw
        refine wo_i (w := (wM q dA)) (M := M_83) hx hb hK hP hD hS 17 16 (wM_17 q dA M_83) (wM_s17 q dA M_83) rfl h_85 dXm_call_58 (fun M_86 H locs eM_86 hP hD hS => ?_)
        have hw := hw M_86 eM_86
        refine lv_aload_n hx hb dXm_call_59 rfl (lv_at hl 0 rfl) ?_
        refine va_get (D := (dC, dI)) (ci := 5) (v := .ref (q 18)) (C := "ServiceThreadsModel") (T := TXm) (N := 28) hx hb hta inXm hown hK hP 0 (wM_0 q dA M_86) rfl 21 (by decide) (hta _ wt_586) (fun _ h9 => h9) rfl dXm_call_60 ?_
        refine lv_aload_n hx hb dXm_call_63 rfl (lv_at hl 0 rfl) ?_
        refine va_get (D := (dC, dI)) (ci := 5) (v := .int (M_86 22 0)) (C := "ServiceThreadsModel") (T := TXm) (N := 28) hx hb hta inXm hown hK hP 0 (wM_0 q dA M_86) rfl 18 (by decide) (hta _ wt_583) (fun _ h9 => h9) rfl dXm_call_64 ?_
        refine lv_topi (fun y_87 ey_87 => ?_)
        have hw := hw y_87 ey_87
        refine lv_iconst (v := (-1)) hx hb dXm_call_67 (by decide) ?_
        obtain ⟨h_88, hw⟩ := hw
        refine wo_i (w := (wM q dA)) (M := M_86) hx hb hK hP hD hS 18 17 (wM_18 q dA M_86) (wM_s18 q dA M_86) rfl h_88 dXm_call_68 (fun M_89 H locs eM_89 hP hD hS => ?_)
        have hw := hw M_89 eM_89
        refine lv_aload_n hx hb dXm_call_69 rfl (lv_at hl 0 rfl) ?_
        refine va_get (D := (dC, dI)) (ci := 5) (v := .ref (q 19)) (C := "ServiceThreadsModel") (T := TXm) (N := 28) hx hb hta inXm hown hK hP 0 (wM_0 q dA M_89) rfl 22 (by decide) (hta _ wt_587) (fun _ h9 => h9) rfl dXm_call_70 ?_
        refine lv_aload_n hx hb dXm_call_73 rfl (lv_at hl 0 rfl) ?_
        refine va_get (D := (dC, dI)) (ci := 5) (v := .int (M_89 22 0)) (C := "ServiceThreadsModel") (T := TXm) (N := 28) hx hb hta inXm hown hK hP 0 (wM_0 q dA M_89) rfl 18 (by decide) (hta _ wt_583) (fun _ h9 => h9) rfl dXm_call_74 ?_
        refine lv_topi (fun y_90 ey_90 => ?_)
        have hw := hw y_90 ey_90
        refine lv_iconst (v := 1) hx hb dXm_call_77 (by decide) ?_
        obtain ⟨h_91, hw⟩ := hw
        refine wo_z (w := (wM q dA)) (M := M_89) hx hb hK hP hD hS 19 18 (wM_19 q dA M_89) (wM_s19 q dA M_89) rfl (by decide) h_91 dXm_call_78 (fun M_92 H locs eM_92 hP hD hS => ?_)
        have hw := hw M_92 eM_92
        refine lv_aload_n hx hb dXm_call_79 rfl (lv_at hl 0 rfl) ?_
        refine lv_dup hx hb dXm_call_80 rfl ?_
        refine va_get (D := (dC, dI)) (ci := 5) (v := .int (M_92 22 0)) (C := "ServiceThreadsModel") (T := TXm) (N := 28) hx hb hta inXm hown hK hP 0 (wM_0 q dA M_92) rfl 18 (by decide) (hta _ wt_583) (fun _ h9 => h9) rfl dXm_call_81 ?_
        refine lv_topi (fun y_93 ey_93 => ?_)
        have hw := hw y_93 ey_93
        refine lv_iconst (v := 1) hx hb dXm_call_84 (by decide) ?_
        refine lv_iadd hx hb dXm_call_85 ?_
        refine lv_topi (fun y_94 ey_94 => ?_)
        have hw := hw y_94 ey_94
        refine va_put (D := (dC, dI)) (ci := 5) (v := .int y_94) (ty := .int) (C := "ServiceThreadsModel") (T := TXm) (N := 28) hx hb hta inXm tyXm tyXm_ok nmXm hown hK hP hD hS 0 (wM_0 q dA M_92) rfl 18 (by decide) (hta _ wt_583) (fun _ h9 => h9) rfl (by decide +kernel) rfl rfl (Nat.le_of_ble_eq_true rfl) dXm_call_86 (fun H locs hP hD hS => ?_)
        obtain ⟨M_95, eM_95⟩ : ∃ y : Mm, y = stM M_92 22 (fun _ => y_94) := ⟨_, rfl⟩
        have hP : va_P (dC, dI) vwCl (wM q dA M_95) H := by rw [eM_95]; exact hP
        have hD : va_D A (wM q dA M_95) := by rw [eM_95]; exact hD
        have hw := hw M_95 eM_95
        refine lv_iconst (v := 0) hx hb dXm_call_89 (by decide) ?_
        refine lv_istore_n (lv' := [(2, .int 0), (0, .ref (q 0)), (1, .int p0)]) hx hb dXm_call_90 rfl hl (by decide) rfl (fun ls hl => ?_)
        obtain ⟨n91, hw⟩ := hw
        exact LwlXm_call_91 (A := A) (av := [.ref (q 0), .int p0]) ⟨hx, hb, hr, hml, hown, hta, hA, hK, hlocks⟩ n91 p0 0 M_95 _ _ _ hw hP hD hS (lv_sub hl [1, 2, 0] rfl)
      · have hw := hw.2 c_80
        refine lv_iconst (v := 0) hx hb dXm_call_37 (by decide) ?_
        exact W.iret (v := 0) hx hb hr (fun t ht hW => ⟨⟨0, M_79, rfl, hw, by rw [ht]; exact hP, va_K.moved hW.alike hK, hD⟩, hS.F ht⟩) hS.2.2 dXm_call_38 hlocks
    · have hw := hw.1 c_77
      refine lv_iconst (v := 1) hx hb dXm_call_24 (by decide) ?_
      refine lv_goto (tgt := 29) hx hb dXm_call_25 (by decide) ?_
      refine lv_iconst (v := 0) hx hb dXm_call_29 (by decide) ?_
      refine lv_iconst (v := 0) hx hb dXm_call_30 (by decide) ?_
      refine cn_i (w := (wM q dA)) (M := M_2) (wM_ad q dA) (va_runV (As := [.int 1, .int 1, .int 0, .int 0]) (rest := []) ⟨hx, hb, hml, hown, hta⟩ (mtXm_throwing l dC dI q dA H.size 1 1 0 0 M_2 _ hw) (cwV 4 hta (giV wt_668 wt_670 ws_19 wt_7 wt_671) rfl rfl rfl (by decide +kernel) ⟨Nat.le_of_ble_eq_true rfl, Nat.le_of_ble_eq_true rfl⟩) ⟨pW_blind, va_recv hK hP (ci := 5) (q0 := 0) rfl (wM_0 q dA M_2), pW_of hK hP hD⟩ rfl rfl hl.1 rfl (lv_room (Nat.le_of_ble_eq_true rfl)) dXm_call_31 ⟨Nat.le_of_ble_eq_true rfl, Nat.le_of_ble_eq_true rfl⟩) hD hS hA (fun r_96 M_97 H locs hw hP hD hS => ?_)
      refine lv_if_eq (tgt := 39) hx hb dXm_call_34 (by decide) (fun c_98 => ?_) (fun c_98 => ?_)
      · have hw := hw.1 c_98
        refine lv_aload_n hx hb dXm_call_39 rfl (lv_at hl 0 rfl) ?_
        refine va_get (D := (dC, dI)) (ci := 5) (v := .ref (q 16)) (C := "ServiceThreadsModel") (T := TXm) (N := 28) hx hb hta inXm hown hK hP 0 (wM_0 q dA M_97) rfl 19 (by decide) (hta _ wt_584) (fun _ h9 => h9) rfl dXm_call_40 ?_
        refine lv_aload_n hx hb dXm_call_43 rfl (lv_at hl 0 rfl) ?_
        refine va_get (D := (dC, dI)) (ci := 5) (v := .int (M_97 22 0)) (C := "ServiceThreadsModel") (T := TXm) (N := 28) hx hb hta inXm hown hK hP 0 (wM_0 q dA M_97) rfl 18 (by decide) (hta _ wt_583) (fun _ h9 => h9) rfl dXm_call_44 ?_
        refine lv_topi (fun y_99 ey_99 => ?_)
        have hw := hw y_99 ey_99
        refine lv_iload_n hx hb dXm_call_47 rfl (lv_at hl 1 rfl) ?_
        obtain ⟨h_100, hw⟩ := hw
        refine wo_i (w := (wM q dA)) (M := M_97) hx hb hK hP hD hS 16 15 (wM_16 q dA M_97) (wM_s16 q dA M_97) rfl h_100 dXm_call_48 (fun M_101 H locs eM_101 hP hD hS => ?_)
        have hw := hw M_101 eM_101
        refine lv_aload_n hx hb dXm_call_49 rfl (lv_at hl 0 rfl) ?_
        refine va_get (D := (dC, dI)) (ci := 5) (v := .ref (q 17)) (C := "ServiceThreadsModel") (T := TXm) (N := 28) hx hb hta inXm hown hK hP 0 (wM_0 q dA M_101) rfl 20 (by decide) (hta _ wt_585) (fun _ h9 => h9) rfl dXm_call_50 ?_
        refine lv_aload_n hx hb dXm_call_53 rfl (lv_at hl 0 rfl) ?_
        refine va_get (D := (dC, dI)) (ci := 5) (v := .int (M_101 22 0)) (C := "ServiceThreadsModel") (T := TXm) (N := 28) hx hb hta inXm hown hK hP 0 (wM_0 q dA M_101) rfl 18 (by decide) (hta _ wt_583) (fun _ h9 => h9) rfl dXm_call_54 ?_
        refine lv_topi (fun y_102 ey_102 => ?_)
        have hw := hw y_102 ey_102
        refine lv_iconst (v := (-1)) hx hb dXm_call_57 (by decide) ?_
        obtain ⟨h_103, hw⟩ := hw
        refine wo_i (w := (wM q dA)) (M := M_101) hx hb hK hP hD hS 17 16 (wM_17 q dA M_101) (wM_s17 q dA M_101) rfl h_103 dXm_call_58 (fun M_104 H locs eM_104 hP hD hS => ?_)
        have hw := hw M_104 eM_104
        refine lv_aload_n hx hb dXm_call_59 rfl (lv_at hl 0 rfl) ?_
        refine va_get (D := (dC, dI)) (ci := 5) (v := .ref (q 18)) (C := "ServiceThreadsModel") (T := TXm) (N := 28) hx hb hta inXm hown hK hP 0 (wM_0 q dA M_104) rfl 21 (by decide) (hta _ wt_586) (fun _ h9 => h9) rfl dXm_call_60 ?_
        refine lv_aload_n hx hb dXm_call_63 rfl (lv_at hl 0 rfl) ?_
        refine va_get (D := (dC, dI)) (ci := 5) (v := .int (M_104 22 0)) (C := "ServiceThreadsModel") (T := TXm) (N := 28) hx hb hta inXm hown hK hP 0 (wM_0 q dA M_104) rfl 18 (by decide) (hta _ wt_583) (fun _ h9 => h9) rfl dXm_call_64 ?_
        refine lv_topi (fun y_105 ey_105 => ?_)
        have hw := hw y_105 ey_105
        refine lv_iconst (v := (-1)) hx hb dXm_call_67 (by decide) ?_
        obtain ⟨h_106, hw⟩ := hw
        refine wo_i (w := (wM q dA)) (M := M_104) hx hb hK hP hD hS 18 17 (wM_18 q dA M_104) (wM_s18 q dA M_104) rfl h_106 dXm_call_68 (fun M_107 H locs eM_107 hP hD hS => ?_)
        have hw := hw M_107 eM_107
        refine lv_aload_n hx hb dXm_call_69 rfl (lv_at hl 0 rfl) ?_
        refine va_get (D := (dC, dI)) (ci := 5) (v := .ref (q 19)) (C := "ServiceThreadsModel") (T := TXm) (N := 28) hx hb hta inXm hown hK hP 0 (wM_0 q dA M_107) rfl 22 (by decide) (hta _ wt_587) (fun _ h9 => h9) rfl dXm_call_70 ?_
        refine lv_aload_n hx hb dXm_call_73 rfl (lv_at hl 0 rfl) ?_
        refine va_get (D := (dC, dI)) (ci := 5) (v := .int (M_107 22 0)) (C := "ServiceThreadsModel") (T := TXm) (N := 28) hx hb hta inXm hown hK hP 0 (wM_0 q dA M_107) rfl 18 (by decide) (hta _ wt_583) (fun _ h9 => h9) rfl dXm_call_74 ?_
        refine lv_topi (fun y_108 ey_108 => ?_)
        have hw := hw y_108 ey_108
        refine lv_iconst (v := 1) hx hb dXm_call_77 (by decide) ?_
        obtain ⟨h_109, hw⟩ := hw
        refine wo_z (w := (wM q dA)) (M := M_107) hx hb hK hP hD hS 19 18 (wM_19 q dA M_107) (wM_s19 q dA M_107) rfl (by decide) h_109 dXm_call_78 (fun M_110 H locs eM_110 hP hD hS => ?_)
        have hw := hw M_110 eM_110
        refine lv_aload_n hx hb dXm_call_79 rfl (lv_at hl 0 rfl) ?_
        refine lv_dup hx hb dXm_call_80 rfl ?_
        refine va_get (D := (dC, dI)) (ci := 5) (v := .int (M_110 22 0)) (C := "ServiceThreadsModel") (T := TXm) (N := 28) hx hb hta inXm hown hK hP 0 (wM_0 q dA M_110) rfl 18 (by decide) (hta _ wt_583) (fun _ h9 => h9) rfl dXm_call_81 ?_
        refine lv_topi (fun y_111 ey_111 => ?_)
        have hw := hw y_111 ey_111
        refine lv_iconst (v := 1) hx hb dXm_call_84 (by decide) ?_
        refine lv_iadd hx hb dXm_call_85 ?_
        refine lv_topi (fun y_112 ey_112 => ?_)
        have hw := hw y_112 ey_112
        refine va_put (D := (dC, dI)) (ci := 5) (v := .int y_112) (ty := .int) (C := "ServiceThreadsModel") (T := TXm) (N := 28) hx hb hta inXm tyXm tyXm_ok nmXm hown hK hP hD hS 0 (wM_0 q dA M_110) rfl 18 (by decide) (hta _ wt_583) (fun _ h9 => h9) rfl (by decide +kernel) rfl rfl (Nat.le_of_ble_eq_true rfl) dXm_call_86 (fun H locs hP hD hS => ?_)
        obtain ⟨M_113, eM_113⟩ : ∃ y : Mm, y = stM M_110 22 (fun _ => y_112) := ⟨_, rfl⟩
        have hP : va_P (dC, dI) vwCl (wM q dA M_113) H := by rw [eM_113]; exact hP
        have hD : va_D A (wM q dA M_113) := by rw [eM_113]; exact hD
        have hw := hw M_113 eM_113
        refine lv_iconst (v := 0) hx hb dXm_call_89 (by decide) ?_
        refine lv_istore_n (lv' := [(2, .int 0), (0, .ref (q 0)), (1, .int p0)]) hx hb dXm_call_90 rfl hl (by decide) rfl (fun ls hl => ?_)
        obtain ⟨n91, hw⟩ := hw
        exact LwlXm_call_91 (A := A) (av := [.ref (q 0), .int p0]) ⟨hx, hb, hr, hml, hown, hta, hA, hK, hlocks⟩ n91 p0 0 M_113 _ _ _ hw hP hD hS (lv_sub hl [1, 2, 0] rfl)
      · have hw := hw.2 c_98
        refine lv_iconst (v := 0) hx hb dXm_call_37 (by decide) ?_
        exact W.iret (v := 0) hx hb hr (fun t ht hW => ⟨⟨0, M_97, rfl, hw, by rw [ht]; exact hP, va_K.moved hW.alike hK, hD⟩, hS.F ht⟩) hS.2.2 dXm_call_38 hlocks
def wlXm_free_2 (post : Mm → Prop) : Nat → Int32 → Int32 → Mm → Prop
  | 0, _, _ => fun _ => False
  | n2 + 1, x1, x2 => fun M => ((10 ≤ x2 → (post M)) ∧ (¬ 10 ≤ x2 → (vp_in x2 10 ∧ (∀ y_3 : Int32, y_3 = M 4 x2.toNatClampNeg → (((y_3 = x1 → (vp_in x2 10 ∧ (∀ M_7 : Mm, M_7 = stM M 4 (upd (M 4) x2.toNatClampNeg (-1)) → (∀ x2_8 : Int32, x2_8 = x2 + 1 → (wlXm_free_2 post n2 x1 x2_8 M_7))))) ∧ (¬ y_3 = x1 → (∀ x2_5 : Int32, x2_5 = x2 + 1 → (wlXm_free_2 post n2 x1 x2_5 M)))))))))
def wpXm_free (p0 : Int32) (M : Mm) (post : Mm → Prop) : Prop := ∃ n2 : Nat, wlXm_free_2 post n2 p0 0 M
set_option maxHeartbeats 4000000 in
set_option maxRecDepth 100000 in
theorem LwlXm_free_2 {p : Program} {l : Launch} {e : Env} {s : State} {m : MethodId} {below : List Frame} {meth : Method} {c : Code} {dC : Nat → ClassId} {dI : Nat → Nat → Nat} {q : Nat → Nat} {dA : Nat → ClassId} {A : Nat → Prop} {av : List Value} {post : Mm → Prop} (CX : p.tables.exec = Jvm.exec ∧ c.code = cXm_free ∧ meth.sig.returnType = none ∧ c.maxLocals = 3 ∧ s.vm.findClass "ServiceThreadsModel" = some m.cls ∧ (∀ w ∈ wsG, w.before av.toArray s = true) ∧ (∀ q : Nat, s.heap.size ≤ q → A q) ∧ va_K (dC, dI) vwCl (tM dA) s ∧ meth.locks = false) : ∀ (n2 : Nat) (x1 : Int32) (x2 : Int32) (M : Mm) (H : Heap) (locs : List Loc) (ls : Array Slot), wlXm_free_2 post n2 x1 x2 M → va_P (dC, dI) vwCl (wM q dA M) H → va_D A (wM q dA M) → va_S A s.heap H locs → lv_has ls 3 [(0, .ref (q 0)), (1, .int x1), (2, .int x2)] → W p l e (headSpec (wsA yXm_free cXm_free 3 none) ({ frames := 0, cells := 0, slots := 0, locals := 0 })).room s m av.toArray below meth c H locs 0 0 (MQ below (va_Qv post (bW (dC, dI) vwCl (wM q dA) (tM dA) A) A) av.toArray s 0 0 A) (F0 m 2 ls []) := by
  obtain ⟨hx, hb, hr, hml, hown, hta, hA, hK, hlocks⟩ := CX
  intro n2
  induction n2 with
  | zero =>
    intro x1 x2 M H locs ls hw
    exact False.elim hw
  | succ n2 ih2 =>
    intro x1 x2 M H locs ls hw hP hD hS hl
    dsimp only [wlXm_free_2] at hw
    refine lv_iload_n hx hb dXm_free_2 rfl (lv_at hl 2 rfl) ?_
    refine lv_bipush (v := 10) hx hb dXm_free_3 (by decide) ?_
    refine lv_icmp_ge (tgt := 31) hx hb dXm_free_5 (by decide) (fun c_1 => ?_) (fun c_1 => ?_)
    · have hw := hw.1 c_1
      exact W.vret hx hb hr (fun t ht hW => ⟨⟨M, rfl, hw, by rw [ht]; exact hP, va_K.moved hW.alike hK, hD⟩, hS.F ht⟩) hS.2.2 dXm_free_31 hlocks
    · have hw := hw.2 c_1
      refine lv_aload_n hx hb dXm_free_8 rfl (lv_at hl 0 rfl) ?_
      refine va_get (D := (dC, dI)) (ci := 5) (v := .ref (q 14)) (C := "ServiceThreadsModel") (T := TXm) (N := 28) hx hb hta inXm hown hK hP 0 (wM_0 q dA M) rfl 16 (by decide) (hta _ wt_581) (fun _ h9 => h9) rfl dXm_free_9 ?_
      refine lv_iload_n hx hb dXm_free_12 rfl (lv_at hl 2 rfl) ?_
      obtain ⟨h_2, hw⟩ := hw
      refine ro_i (w := (wM q dA)) (M := M) hx hb hK hP 14 13 (wM_14 q dA M) rfl h_2 dXm_free_13 (fun y_3 ey_3 => ?_)
      have hw := hw y_3 ey_3
      refine lv_iload_n hx hb dXm_free_14 rfl (lv_at hl 1 rfl) ?_
      refine lv_icmp_ne (tgt := 25) hx hb dXm_free_15 (by decide) (fun c_4 => ?_) (fun c_4 => ?_)
      · have hw := hw.2 c_4
        obtain ⟨x2_5, ex2_5⟩ : ∃ y : Int32, y = x2 + 1 := ⟨_, rfl⟩
        have hw := hw x2_5 ex2_5
        refine lv_iinc (v := x2_5) (lv' := [(2, .int x2_5), (0, .ref (q 0)), (1, .int x1)]) hx hb dXm_free_25 hl (k := 2) rfl (by rw [ex2_5]; rfl) (by decide) rfl (fun ls hl => ?_)
        refine lv_goto (tgt := 2) hx hb dXm_free_28 (by decide) ?_
        exact ih2 x1 x2_5 M _ _ _ hw hP hD hS (lv_sub hl [1, 2, 0] rfl)
      · have hw := hw.1 c_4
        refine lv_aload_n hx hb dXm_free_18 rfl (lv_at hl 0 rfl) ?_
        refine va_get (D := (dC, dI)) (ci := 5) (v := .ref (q 14)) (C := "ServiceThreadsModel") (T := TXm) (N := 28) hx hb hta inXm hown hK hP 0 (wM_0 q dA M) rfl 16 (by decide) (hta _ wt_581) (fun _ h9 => h9) rfl dXm_free_19 ?_
        refine lv_iload_n hx hb dXm_free_22 rfl (lv_at hl 2 rfl) ?_
        refine lv_iconst (v := (-1)) hx hb dXm_free_23 (by decide) ?_
        obtain ⟨h_6, hw⟩ := hw
        refine wo_i (w := (wM q dA)) (M := M) hx hb hK hP hD hS 14 13 (wM_14 q dA M) (wM_s14 q dA M) rfl h_6 dXm_free_24 (fun M_7 H locs eM_7 hP hD hS => ?_)
        have hw := hw M_7 eM_7
        obtain ⟨x2_8, ex2_8⟩ : ∃ y : Int32, y = x2 + 1 := ⟨_, rfl⟩
        have hw := hw x2_8 ex2_8
        refine lv_iinc (v := x2_8) (lv' := [(2, .int x2_8), (0, .ref (q 0)), (1, .int x1)]) hx hb dXm_free_25 hl (k := 2) rfl (by rw [ex2_8]; rfl) (by decide) rfl (fun ls hl => ?_)
        refine lv_goto (tgt := 2) hx hb dXm_free_28 (by decide) ?_
        exact ih2 x1 x2_8 M_7 _ _ _ hw hP hD hS (lv_sub hl [1, 2, 0] rfl)
set_option maxHeartbeats 4000000 in
set_option maxRecDepth 100000 in
theorem mtXm_free (l : Launch) (dC : Nat → ClassId) (dI : Nat → Nat → Nat) (q : Nat → Nat) (dA : Nat → ClassId) (sz : Nat) (p0 : Int32) (M : Mm) (post : Mm → Prop) (hw : wpXm_free p0 M post) : Met l yXm_free (wsA yXm_free cXm_free 3 none) ({ frames := 0, cells := 0, slots := 0, locals := 0 }) (va_Pc [.ref (q 0), .int p0] (pW (dC, dI) vwCl (wM q dA) (tM dA) sz M)) (va_Qv post (bW (dC, dI) vwCl (wM q dA) (tM dA) (va_A (wM q dA M) sz)) (va_A (wM q dA M) sz)) 0 0 (va_A (wM q dA M) sz) := by
  refine Met.ofW (cc := cXm_free) (maxL := 3) (ret := none) (by decide) rfl ?_
  intro p e s m args below meth c s₁ B hml hv
  obtain ⟨rfl, hsz, hP, hK, hD0⟩ := hv
  have hx := B.exec
  have hb := B.bytes
  have hr := B.returns
  have hts := atoms_spec (ws := (wsA yXm_free cXm_free 3 none)) B.pre
  have hta : ∀ w ∈ wsG, w.before _ s = true := fun w h => hts w (List.mem_cons_of_mem _ h)
  have hown : s.vm.findClass "ServiceThreadsModel" = some m.cls := findClass_of_methodNamed B.named
  have hlocks := B.notSynchronized
  subst hsz
  have hD := hD0.self (sz := s.heap.size)
  generalize hAe : va_A (wM q dA M) s.heap.size = A at hD ⊢
  have hA : ∀ q : Nat, s.heap.size ≤ q → A q := fun q h => by rw [← hAe]; exact Or.inr h
  have hS : va_S A s.heap s.heap [] := va_S.rf
  dsimp only [wpXm_free] at hw
  have hl := lv_entry ([.ref (q 0), .int p0]) (n := 3) (Nat.le_of_ble_eq_true rfl)
  rw [lg_entry_eq]
  generalize (lg_sl ([.ref (q 0), .int p0]) ++ List.replicate (3 - (lg_sl ([.ref (q 0), .int p0])).length) Slot.unset).toArray = ls at hl ⊢
  have hl : lv_has ls 3 [(0, .ref (q 0)), (1, .int p0)] := hl
  refine lv_iconst (v := 0) hx hb dXm_free_0 (by decide) ?_
  refine lv_istore_n (lv' := [(2, .int 0), (0, .ref (q 0)), (1, .int p0)]) hx hb dXm_free_1 rfl hl (by decide) rfl (fun ls hl => ?_)
  obtain ⟨n2, hw⟩ := hw
  exact LwlXm_free_2 (A := A) (av := [.ref (q 0), .int p0]) ⟨hx, hb, hr, hml, hown, hta, hA, hK, hlocks⟩ n2 p0 0 M _ _ _ hw hP hD hS (lv_sub hl [1, 2, 0] rfl)
def wpXm_tell (p0 : Int32) (p1 : Int32) (M : Mm) (post : Mm → Prop) : Prop := ∀ y_1 : Int32, y_1 = M 23 0 → (((y_1 = 100 → (post M)) ∧ (¬ y_1 = 100 → (∀ y_3 : Int32, y_3 = M 23 0 → (vp_in y_3 100 ∧ (∀ M_5 : Mm, M_5 = stM M 10 (upd (M 10) y_3.toNatClampNeg p0) → (∀ y_6 : Int32, y_6 = M_5 23 0 → (vp_in y_6 100 ∧ (∀ M_8 : Mm, M_8 = stM M_5 11 (upd (M_5 11) y_6.toNatClampNeg p1) → (∀ y_9 : Int32, y_9 = M_8 23 0 → (vp_in p0 8 ∧ (∀ y_11 : Int32, y_11 = M_8 15 p0.toNatClampNeg → (vp_in y_9 100 ∧ (∀ M_13 : Mm, M_13 = stM M_8 12 (upd (M_8 12) y_9.toNatClampNeg y_11) → (∀ y_14 : Int32, y_14 = M_13 23 0 → (∀ y_15 : Int32, y_15 = M_13 24 0 → (vp_in y_14 100 ∧ (∀ M_17 : Mm, M_17 = stM M_13 13 (upd (M_13 13) y_14.toNatClampNeg y_15) → (∀ y_18 : Int32, y_18 = M_17 23 0 → (∀ y_19 : Int32, y_19 = y_18 + 1 → (∀ M_20 : Mm, M_20 = stM M_17 23 (fun _ => y_19) → (post M_20))))))))))))))))))))))
set_option maxHeartbeats 4000000 in
set_option maxRecDepth 100000 in
theorem mtXm_tell (l : Launch) (dC : Nat → ClassId) (dI : Nat → Nat → Nat) (q : Nat → Nat) (dA : Nat → ClassId) (sz : Nat) (p0 : Int32) (p1 : Int32) (M : Mm) (post : Mm → Prop) (hw : wpXm_tell p0 p1 M post) : Met l yXm_tell (wsA yXm_tell cXm_tell 3 none) ({ frames := 0, cells := 0, slots := 0, locals := 0 }) (va_Pc [.ref (q 0), .int p0, .int p1] (pW (dC, dI) vwCl (wM q dA) (tM dA) sz M)) (va_Qv post (bW (dC, dI) vwCl (wM q dA) (tM dA) (va_A (wM q dA M) sz)) (va_A (wM q dA M) sz)) 0 0 (va_A (wM q dA M) sz) := by
  refine Met.ofW (cc := cXm_tell) (maxL := 3) (ret := none) (by decide) rfl ?_
  intro p e s m args below meth c s₁ B hml hv
  obtain ⟨rfl, hsz, hP, hK, hD0⟩ := hv
  have hx := B.exec
  have hb := B.bytes
  have hr := B.returns
  have hts := atoms_spec (ws := (wsA yXm_tell cXm_tell 3 none)) B.pre
  have hta : ∀ w ∈ wsG, w.before _ s = true := fun w h => hts w (List.mem_cons_of_mem _ h)
  have hown : s.vm.findClass "ServiceThreadsModel" = some m.cls := findClass_of_methodNamed B.named
  have hlocks := B.notSynchronized
  subst hsz
  have hD := hD0.self (sz := s.heap.size)
  generalize hAe : va_A (wM q dA M) s.heap.size = A at hD ⊢
  have hA : ∀ q : Nat, s.heap.size ≤ q → A q := fun q h => by rw [← hAe]; exact Or.inr h
  have hS : va_S A s.heap s.heap [] := va_S.rf
  dsimp only [wpXm_tell] at hw
  have hl := lv_entry ([.ref (q 0), .int p0, .int p1]) (n := 3) (Nat.le_of_ble_eq_true rfl)
  rw [lg_entry_eq]
  generalize (lg_sl ([.ref (q 0), .int p0, .int p1]) ++ List.replicate (3 - (lg_sl ([.ref (q 0), .int p0, .int p1])).length) Slot.unset).toArray = ls at hl ⊢
  have hl : lv_has ls 3 [(0, .ref (q 0)), (1, .int p0), (2, .int p1)] := hl
  refine lv_aload_n hx hb dXm_tell_0 rfl (lv_at hl 0 rfl) ?_
  refine va_get (D := (dC, dI)) (ci := 5) (v := .int (M 23 0)) (C := "ServiceThreadsModel") (T := TXm) (N := 28) hx hb hta inXm hown hK hP 0 (wM_0 q dA M) rfl 23 (by decide) (hta _ wt_588) (fun _ h9 => h9) rfl dXm_tell_1 ?_
  refine lv_topi (fun y_1 ey_1 => ?_)
  have hw := hw y_1 ey_1
  refine lv_bipush (v := 100) hx hb dXm_tell_4 (by decide) ?_
  refine lv_icmp_ne (tgt := 10) hx hb dXm_tell_6 (by decide) (fun c_2 => ?_) (fun c_2 => ?_)
  · have hw := hw.2 c_2
    refine lv_aload_n hx hb dXm_tell_10 rfl (lv_at hl 0 rfl) ?_
    refine va_get (D := (dC, dI)) (ci := 5) (v := .ref (q 20)) (C := "ServiceThreadsModel") (T := TXm) (N := 28) hx hb hta inXm hown hK hP 0 (wM_0 q dA M) rfl 24 (by decide) (hta _ wt_589) (fun _ h9 => h9) rfl dXm_tell_11 ?_
    refine lv_aload_n hx hb dXm_tell_14 rfl (lv_at hl 0 rfl) ?_
    refine va_get (D := (dC, dI)) (ci := 5) (v := .int (M 23 0)) (C := "ServiceThreadsModel") (T := TXm) (N := 28) hx hb hta inXm hown hK hP 0 (wM_0 q dA M) rfl 23 (by decide) (hta _ wt_588) (fun _ h9 => h9) rfl dXm_tell_15 ?_
    refine lv_topi (fun y_3 ey_3 => ?_)
    have hw := hw y_3 ey_3
    refine lv_iload_n hx hb dXm_tell_18 rfl (lv_at hl 1 rfl) ?_
    obtain ⟨h_4, hw⟩ := hw
    refine wo_i (w := (wM q dA)) (M := M) hx hb hK hP hD hS 20 19 (wM_20 q dA M) (wM_s20 q dA M) rfl h_4 dXm_tell_19 (fun M_5 H locs eM_5 hP hD hS => ?_)
    have hw := hw M_5 eM_5
    refine lv_aload_n hx hb dXm_tell_20 rfl (lv_at hl 0 rfl) ?_
    refine va_get (D := (dC, dI)) (ci := 5) (v := .ref (q 21)) (C := "ServiceThreadsModel") (T := TXm) (N := 28) hx hb hta inXm hown hK hP 0 (wM_0 q dA M_5) rfl 25 (by decide) (hta _ wt_590) (fun _ h9 => h9) rfl dXm_tell_21 ?_
    refine lv_aload_n hx hb dXm_tell_24 rfl (lv_at hl 0 rfl) ?_
    refine va_get (D := (dC, dI)) (ci := 5) (v := .int (M_5 23 0)) (C := "ServiceThreadsModel") (T := TXm) (N := 28) hx hb hta inXm hown hK hP 0 (wM_0 q dA M_5) rfl 23 (by decide) (hta _ wt_588) (fun _ h9 => h9) rfl dXm_tell_25 ?_
    refine lv_topi (fun y_6 ey_6 => ?_)
    have hw := hw y_6 ey_6
    refine lv_iload_n hx hb dXm_tell_28 rfl (lv_at hl 2 rfl) ?_
    obtain ⟨h_7, hw⟩ := hw
    refine wo_i (w := (wM q dA)) (M := M_5) hx hb hK hP hD hS 21 20 (wM_21 q dA M_5) (wM_s21 q dA M_5) rfl h_7 dXm_tell_29 (fun M_8 H locs eM_8 hP hD hS => ?_)
    have hw := hw M_8 eM_8
    refine lv_aload_n hx hb dXm_tell_30 rfl (lv_at hl 0 rfl) ?_
    refine va_get (D := (dC, dI)) (ci := 5) (v := .ref (q 22)) (C := "ServiceThreadsModel") (T := TXm) (N := 28) hx hb hta inXm hown hK hP 0 (wM_0 q dA M_8) rfl 26 (by decide) (hta _ wt_591) (fun _ h9 => h9) rfl dXm_tell_31 ?_
    refine lv_aload_n hx hb dXm_tell_34 rfl (lv_at hl 0 rfl) ?_
    refine va_get (D := (dC, dI)) (ci := 5) (v := .int (M_8 23 0)) (C := "ServiceThreadsModel") (T := TXm) (N := 28) hx hb hta inXm hown hK hP 0 (wM_0 q dA M_8) rfl 23 (by decide) (hta _ wt_588) (fun _ h9 => h9) rfl dXm_tell_35 ?_
    refine lv_topi (fun y_9 ey_9 => ?_)
    have hw := hw y_9 ey_9
    refine lv_aload_n hx hb dXm_tell_38 rfl (lv_at hl 0 rfl) ?_
    refine va_get (D := (dC, dI)) (ci := 5) (v := .ref (q 6)) (C := "ServiceThreadsModel") (T := TXm) (N := 28) hx hb hta inXm hown hK hP 0 (wM_0 q dA M_8) rfl 8 (by decide) (hta _ wt_573) (fun _ h9 => h9) rfl dXm_tell_39 ?_
    refine lv_iload_n hx hb dXm_tell_42 rfl (lv_at hl 1 rfl) ?_
    obtain ⟨h_10, hw⟩ := hw
    refine ro_i (w := (wM q dA)) (M := M_8) hx hb hK hP 6 5 (wM_6 q dA M_8) rfl h_10 dXm_tell_43 (fun y_11 ey_11 => ?_)
    have hw := hw y_11 ey_11
    obtain ⟨h_12, hw⟩ := hw
    refine wo_i (w := (wM q dA)) (M := M_8) hx hb hK hP hD hS 22 21 (wM_22 q dA M_8) (wM_s22 q dA M_8) rfl h_12 dXm_tell_44 (fun M_13 H locs eM_13 hP hD hS => ?_)
    have hw := hw M_13 eM_13
    refine lv_aload_n hx hb dXm_tell_45 rfl (lv_at hl 0 rfl) ?_
    refine va_get (D := (dC, dI)) (ci := 5) (v := .ref (q 23)) (C := "ServiceThreadsModel") (T := TXm) (N := 28) hx hb hta inXm hown hK hP 0 (wM_0 q dA M_13) rfl 27 (by decide) (hta _ wt_592) (fun _ h9 => h9) rfl dXm_tell_46 ?_
    refine lv_aload_n hx hb dXm_tell_49 rfl (lv_at hl 0 rfl) ?_
    refine va_get (D := (dC, dI)) (ci := 5) (v := .int (M_13 23 0)) (C := "ServiceThreadsModel") (T := TXm) (N := 28) hx hb hta inXm hown hK hP 0 (wM_0 q dA M_13) rfl 23 (by decide) (hta _ wt_588) (fun _ h9 => h9) rfl dXm_tell_50 ?_
    refine lv_topi (fun y_14 ey_14 => ?_)
    have hw := hw y_14 ey_14
    refine lv_aload_n hx hb dXm_tell_53 rfl (lv_at hl 0 rfl) ?_
    refine va_get (D := (dC, dI)) (ci := 5) (v := .int (M_13 24 0)) (C := "ServiceThreadsModel") (T := TXm) (N := 28) hx hb hta inXm hown hK hP 0 (wM_0 q dA M_13) rfl 1 (by decide) (hta _ wt_566) (fun _ h9 => h9) rfl dXm_tell_54 ?_
    refine lv_topi (fun y_15 ey_15 => ?_)
    have hw := hw y_15 ey_15
    obtain ⟨h_16, hw⟩ := hw
    refine wo_i (w := (wM q dA)) (M := M_13) hx hb hK hP hD hS 23 22 (wM_23 q dA M_13) (wM_s23 q dA M_13) rfl h_16 dXm_tell_57 (fun M_17 H locs eM_17 hP hD hS => ?_)
    have hw := hw M_17 eM_17
    refine lv_aload_n hx hb dXm_tell_58 rfl (lv_at hl 0 rfl) ?_
    refine lv_dup hx hb dXm_tell_59 rfl ?_
    refine va_get (D := (dC, dI)) (ci := 5) (v := .int (M_17 23 0)) (C := "ServiceThreadsModel") (T := TXm) (N := 28) hx hb hta inXm hown hK hP 0 (wM_0 q dA M_17) rfl 23 (by decide) (hta _ wt_588) (fun _ h9 => h9) rfl dXm_tell_60 ?_
    refine lv_topi (fun y_18 ey_18 => ?_)
    have hw := hw y_18 ey_18
    refine lv_iconst (v := 1) hx hb dXm_tell_63 (by decide) ?_
    refine lv_iadd hx hb dXm_tell_64 ?_
    refine lv_topi (fun y_19 ey_19 => ?_)
    have hw := hw y_19 ey_19
    refine va_put (D := (dC, dI)) (ci := 5) (v := .int y_19) (ty := .int) (C := "ServiceThreadsModel") (T := TXm) (N := 28) hx hb hta inXm tyXm tyXm_ok nmXm hown hK hP hD hS 0 (wM_0 q dA M_17) rfl 23 (by decide) (hta _ wt_588) (fun _ h9 => h9) rfl (by decide +kernel) rfl rfl (Nat.le_of_ble_eq_true rfl) dXm_tell_65 (fun H locs hP hD hS => ?_)
    obtain ⟨M_20, eM_20⟩ : ∃ y : Mm, y = stM M_17 23 (fun _ => y_19) := ⟨_, rfl⟩
    have hP : va_P (dC, dI) vwCl (wM q dA M_20) H := by rw [eM_20]; exact hP
    have hD : va_D A (wM q dA M_20) := by rw [eM_20]; exact hD
    have hw := hw M_20 eM_20
    exact W.vret hx hb hr (fun t ht hW => ⟨⟨M_20, rfl, hw, by rw [ht]; exact hP, va_K.moved hW.alike hK, hD⟩, hS.F ht⟩) hS.2.2 dXm_tell_68 hlocks
  · have hw := hw.1 c_2
    exact W.vret hx hb hr (fun t ht hW => ⟨⟨M, rfl, hw, by rw [ht]; exact hP, va_K.moved hW.alike hK, hD⟩, hS.F ht⟩) hS.2.2 dXm_tell_9 hlocks
def wlXm_drop_2 (post : Mm → Prop) : Nat → Int32 → Int32 → Mm → Prop
  | 0, _, _ => fun _ => False
  | n2 + 1, x1, x2 => fun M => ∀ y_1 : Int32, y_1 = M 22 0 → (((y_1 ≤ x2 → (post M)) ∧ (¬ y_1 ≤ x2 → (vp_in x2 16 ∧ (∀ y_4 : Int32, y_4 = M 9 x2.toNatClampNeg → (((y_4 = 0 → (∀ x2_6 : Int32, x2_6 = x2 + 1 → (wlXm_drop_2 post n2 x1 x2_6 M))) ∧ (¬ y_4 = 0 → (vp_in x2 16 ∧ (∀ y_8 : Int32, y_8 = M 7 x2.toNatClampNeg → (((y_8 = x1 → (vp_in x2 16 ∧ (∀ y_12 : Int32, y_12 = M 8 x2.toNatClampNeg → (((0 ≤ y_12 → (∀ x2_14 : Int32, x2_14 = x2 + 1 → (wlXm_drop_2 post n2 x1 x2_14 M))) ∧ (¬ 0 ≤ y_12 → (vp_in x2 16 ∧ (∀ M_16 : Mm, M_16 = stM M 7 (upd (M 7) x2.toNatClampNeg (-1)) → (∀ x2_17 : Int32, x2_17 = x2 + 1 → (wlXm_drop_2 post n2 x1 x2_17 M_16)))))))))) ∧ (¬ y_8 = x1 → (∀ x2_10 : Int32, x2_10 = x2 + 1 → (wlXm_drop_2 post n2 x1 x2_10 M)))))))))))))))
def wpXm_drop (p0 : Int32) (M : Mm) (post : Mm → Prop) : Prop := ∃ n2 : Nat, wlXm_drop_2 post n2 p0 0 M
set_option maxHeartbeats 4000000 in
set_option maxRecDepth 100000 in
theorem LwlXm_drop_2 {p : Program} {l : Launch} {e : Env} {s : State} {m : MethodId} {below : List Frame} {meth : Method} {c : Code} {dC : Nat → ClassId} {dI : Nat → Nat → Nat} {q : Nat → Nat} {dA : Nat → ClassId} {A : Nat → Prop} {av : List Value} {post : Mm → Prop} (CX : p.tables.exec = Jvm.exec ∧ c.code = cXm_drop ∧ meth.sig.returnType = none ∧ c.maxLocals = 3 ∧ s.vm.findClass "ServiceThreadsModel" = some m.cls ∧ (∀ w ∈ wsG, w.before av.toArray s = true) ∧ (∀ q : Nat, s.heap.size ≤ q → A q) ∧ va_K (dC, dI) vwCl (tM dA) s ∧ meth.locks = false) : ∀ (n2 : Nat) (x1 : Int32) (x2 : Int32) (M : Mm) (H : Heap) (locs : List Loc) (ls : Array Slot), wlXm_drop_2 post n2 x1 x2 M → va_P (dC, dI) vwCl (wM q dA M) H → va_D A (wM q dA M) → va_S A s.heap H locs → lv_has ls 3 [(0, .ref (q 0)), (1, .int x1), (2, .int x2)] → W p l e (headSpec (wsA yXm_drop cXm_drop 3 none) ({ frames := 0, cells := 0, slots := 0, locals := 0 })).room s m av.toArray below meth c H locs 0 0 (MQ below (va_Qv post (bW (dC, dI) vwCl (wM q dA) (tM dA) A) A) av.toArray s 0 0 A) (F0 m 2 ls []) := by
  obtain ⟨hx, hb, hr, hml, hown, hta, hA, hK, hlocks⟩ := CX
  intro n2
  induction n2 with
  | zero =>
    intro x1 x2 M H locs ls hw
    exact False.elim hw
  | succ n2 ih2 =>
    intro x1 x2 M H locs ls hw hP hD hS hl
    dsimp only [wlXm_drop_2] at hw
    refine lv_iload_n hx hb dXm_drop_2 rfl (lv_at hl 2 rfl) ?_
    refine lv_aload_n hx hb dXm_drop_3 rfl (lv_at hl 0 rfl) ?_
    refine va_get (D := (dC, dI)) (ci := 5) (v := .int (M 22 0)) (C := "ServiceThreadsModel") (T := TXm) (N := 28) hx hb hta inXm hown hK hP 0 (wM_0 q dA M) rfl 18 (by decide) (hta _ wt_583) (fun _ h9 => h9) rfl dXm_drop_4 ?_
    refine lv_topi (fun y_1 ey_1 => ?_)
    have hw := hw y_1 ey_1
    refine lv_icmp_ge (tgt := 51) hx hb dXm_drop_7 (by decide) (fun c_2 => ?_) (fun c_2 => ?_)
    · have hw := hw.1 c_2
      exact W.vret hx hb hr (fun t ht hW => ⟨⟨M, rfl, hw, by rw [ht]; exact hP, va_K.moved hW.alike hK, hD⟩, hS.F ht⟩) hS.2.2 dXm_drop_51 hlocks
    · have hw := hw.2 c_2
      refine lv_aload_n hx hb dXm_drop_10 rfl (lv_at hl 0 rfl) ?_
      refine va_get (D := (dC, dI)) (ci := 5) (v := .ref (q 19)) (C := "ServiceThreadsModel") (T := TXm) (N := 28) hx hb hta inXm hown hK hP 0 (wM_0 q dA M) rfl 22 (by decide) (hta _ wt_587) (fun _ h9 => h9) rfl dXm_drop_11 ?_
      refine lv_iload_n hx hb dXm_drop_14 rfl (lv_at hl 2 rfl) ?_
      obtain ⟨h_3, hw⟩ := hw
      refine ro_z (w := (wM q dA)) (M := M) hx hb hK hP 19 18 (wM_19 q dA M) rfl h_3 dXm_drop_15 (fun y_4 ey_4 => ?_)
      have hw := hw y_4 ey_4
      refine lv_if_eq (tgt := 45) hx hb dXm_drop_16 (by decide) (fun c_5 => ?_) (fun c_5 => ?_)
      · have hw := hw.1 c_5
        obtain ⟨x2_6, ex2_6⟩ : ∃ y : Int32, y = x2 + 1 := ⟨_, rfl⟩
        have hw := hw x2_6 ex2_6
        refine lv_iinc (v := x2_6) (lv' := [(2, .int x2_6), (0, .ref (q 0)), (1, .int x1)]) hx hb dXm_drop_45 hl (k := 2) rfl (by rw [ex2_6]; rfl) (by decide) rfl (fun ls hl => ?_)
        refine lv_goto (tgt := 2) hx hb dXm_drop_48 (by decide) ?_
        exact ih2 x1 x2_6 M _ _ _ hw hP hD hS (lv_sub hl [1, 2, 0] rfl)
      · have hw := hw.2 c_5
        refine lv_aload_n hx hb dXm_drop_19 rfl (lv_at hl 0 rfl) ?_
        refine va_get (D := (dC, dI)) (ci := 5) (v := .ref (q 17)) (C := "ServiceThreadsModel") (T := TXm) (N := 28) hx hb hta inXm hown hK hP 0 (wM_0 q dA M) rfl 20 (by decide) (hta _ wt_585) (fun _ h9 => h9) rfl dXm_drop_20 ?_
        refine lv_iload_n hx hb dXm_drop_23 rfl (lv_at hl 2 rfl) ?_
        obtain ⟨h_7, hw⟩ := hw
        refine ro_i (w := (wM q dA)) (M := M) hx hb hK hP 17 16 (wM_17 q dA M) rfl h_7 dXm_drop_24 (fun y_8 ey_8 => ?_)
        have hw := hw y_8 ey_8
        refine lv_iload_n hx hb dXm_drop_25 rfl (lv_at hl 1 rfl) ?_
        refine lv_icmp_ne (tgt := 45) hx hb dXm_drop_26 (by decide) (fun c_9 => ?_) (fun c_9 => ?_)
        · have hw := hw.2 c_9
          obtain ⟨x2_10, ex2_10⟩ : ∃ y : Int32, y = x2 + 1 := ⟨_, rfl⟩
          have hw := hw x2_10 ex2_10
          refine lv_iinc (v := x2_10) (lv' := [(2, .int x2_10), (0, .ref (q 0)), (1, .int x1)]) hx hb dXm_drop_45 hl (k := 2) rfl (by rw [ex2_10]; rfl) (by decide) rfl (fun ls hl => ?_)
          refine lv_goto (tgt := 2) hx hb dXm_drop_48 (by decide) ?_
          exact ih2 x1 x2_10 M _ _ _ hw hP hD hS (lv_sub hl [1, 2, 0] rfl)
        · have hw := hw.1 c_9
          refine lv_aload_n hx hb dXm_drop_29 rfl (lv_at hl 0 rfl) ?_
          refine va_get (D := (dC, dI)) (ci := 5) (v := .ref (q 18)) (C := "ServiceThreadsModel") (T := TXm) (N := 28) hx hb hta inXm hown hK hP 0 (wM_0 q dA M) rfl 21 (by decide) (hta _ wt_586) (fun _ h9 => h9) rfl dXm_drop_30 ?_
          refine lv_iload_n hx hb dXm_drop_33 rfl (lv_at hl 2 rfl) ?_
          obtain ⟨h_11, hw⟩ := hw
          refine ro_i (w := (wM q dA)) (M := M) hx hb hK hP 18 17 (wM_18 q dA M) rfl h_11 dXm_drop_34 (fun y_12 ey_12 => ?_)
          have hw := hw y_12 ey_12
          refine lv_if_ge (tgt := 45) hx hb dXm_drop_35 (by decide) (fun c_13 => ?_) (fun c_13 => ?_)
          · have hw := hw.1 c_13
            obtain ⟨x2_14, ex2_14⟩ : ∃ y : Int32, y = x2 + 1 := ⟨_, rfl⟩
            have hw := hw x2_14 ex2_14
            refine lv_iinc (v := x2_14) (lv' := [(2, .int x2_14), (0, .ref (q 0)), (1, .int x1)]) hx hb dXm_drop_45 hl (k := 2) rfl (by rw [ex2_14]; rfl) (by decide) rfl (fun ls hl => ?_)
            refine lv_goto (tgt := 2) hx hb dXm_drop_48 (by decide) ?_
            exact ih2 x1 x2_14 M _ _ _ hw hP hD hS (lv_sub hl [1, 2, 0] rfl)
          · have hw := hw.2 c_13
            refine lv_aload_n hx hb dXm_drop_38 rfl (lv_at hl 0 rfl) ?_
            refine va_get (D := (dC, dI)) (ci := 5) (v := .ref (q 17)) (C := "ServiceThreadsModel") (T := TXm) (N := 28) hx hb hta inXm hown hK hP 0 (wM_0 q dA M) rfl 20 (by decide) (hta _ wt_585) (fun _ h9 => h9) rfl dXm_drop_39 ?_
            refine lv_iload_n hx hb dXm_drop_42 rfl (lv_at hl 2 rfl) ?_
            refine lv_iconst (v := (-1)) hx hb dXm_drop_43 (by decide) ?_
            obtain ⟨h_15, hw⟩ := hw
            refine wo_i (w := (wM q dA)) (M := M) hx hb hK hP hD hS 17 16 (wM_17 q dA M) (wM_s17 q dA M) rfl h_15 dXm_drop_44 (fun M_16 H locs eM_16 hP hD hS => ?_)
            have hw := hw M_16 eM_16
            obtain ⟨x2_17, ex2_17⟩ : ∃ y : Int32, y = x2 + 1 := ⟨_, rfl⟩
            have hw := hw x2_17 ex2_17
            refine lv_iinc (v := x2_17) (lv' := [(2, .int x2_17), (0, .ref (q 0)), (1, .int x1)]) hx hb dXm_drop_45 hl (k := 2) rfl (by rw [ex2_17]; rfl) (by decide) rfl (fun ls hl => ?_)
            refine lv_goto (tgt := 2) hx hb dXm_drop_48 (by decide) ?_
            exact ih2 x1 x2_17 M_16 _ _ _ hw hP hD hS (lv_sub hl [1, 2, 0] rfl)
set_option maxHeartbeats 4000000 in
set_option maxRecDepth 100000 in
theorem mtXm_drop (l : Launch) (dC : Nat → ClassId) (dI : Nat → Nat → Nat) (q : Nat → Nat) (dA : Nat → ClassId) (sz : Nat) (p0 : Int32) (M : Mm) (post : Mm → Prop) (hw : wpXm_drop p0 M post) : Met l yXm_drop (wsA yXm_drop cXm_drop 3 none) ({ frames := 0, cells := 0, slots := 0, locals := 0 }) (va_Pc [.ref (q 0), .int p0] (pW (dC, dI) vwCl (wM q dA) (tM dA) sz M)) (va_Qv post (bW (dC, dI) vwCl (wM q dA) (tM dA) (va_A (wM q dA M) sz)) (va_A (wM q dA M) sz)) 0 0 (va_A (wM q dA M) sz) := by
  refine Met.ofW (cc := cXm_drop) (maxL := 3) (ret := none) (by decide) rfl ?_
  intro p e s m args below meth c s₁ B hml hv
  obtain ⟨rfl, hsz, hP, hK, hD0⟩ := hv
  have hx := B.exec
  have hb := B.bytes
  have hr := B.returns
  have hts := atoms_spec (ws := (wsA yXm_drop cXm_drop 3 none)) B.pre
  have hta : ∀ w ∈ wsG, w.before _ s = true := fun w h => hts w (List.mem_cons_of_mem _ h)
  have hown : s.vm.findClass "ServiceThreadsModel" = some m.cls := findClass_of_methodNamed B.named
  have hlocks := B.notSynchronized
  subst hsz
  have hD := hD0.self (sz := s.heap.size)
  generalize hAe : va_A (wM q dA M) s.heap.size = A at hD ⊢
  have hA : ∀ q : Nat, s.heap.size ≤ q → A q := fun q h => by rw [← hAe]; exact Or.inr h
  have hS : va_S A s.heap s.heap [] := va_S.rf
  dsimp only [wpXm_drop] at hw
  have hl := lv_entry ([.ref (q 0), .int p0]) (n := 3) (Nat.le_of_ble_eq_true rfl)
  rw [lg_entry_eq]
  generalize (lg_sl ([.ref (q 0), .int p0]) ++ List.replicate (3 - (lg_sl ([.ref (q 0), .int p0])).length) Slot.unset).toArray = ls at hl ⊢
  have hl : lv_has ls 3 [(0, .ref (q 0)), (1, .int p0)] := hl
  refine lv_iconst (v := 0) hx hb dXm_drop_0 (by decide) ?_
  refine lv_istore_n (lv' := [(2, .int 0), (0, .ref (q 0)), (1, .int p0)]) hx hb dXm_drop_1 rfl hl (by decide) rfl (fun ls hl => ?_)
  obtain ⟨n2, hw⟩ := hw
  exact LwlXm_drop_2 (A := A) (av := [.ref (q 0), .int p0]) ⟨hx, hb, hr, hml, hown, hta, hA, hK, hlocks⟩ n2 p0 0 M _ _ _ hw hP hD hS (lv_sub hl [1, 2, 0] rfl)
def wpXm_fail (p0 : Int32) (p1 : Int32) (M : Mm) (post : Int32 → Mm → Prop) : Prop := wpXm_tell p0 p1 M (fun M_2 => (vp_in p0 8 ∧ (∀ M_4 : Mm, M_4 = stM M_2 16 (upd (M_2 16) p0.toNatClampNeg p1) → (wpXm_free p0 M_4 (fun M_6 => (wpXm_drop p0 M_6 (fun M_8 => (vp_in p0 8 ∧ (∀ M_10 : Mm, M_10 = stM M_8 27 (upd (M_8 27) p0.toNatClampNeg 0) → (vp_in p0 8 ∧ (∀ M_12 : Mm, M_12 = stM M_10 20 (upd (M_10 20) p0.toNatClampNeg 0) → (vp_in p0 8 ∧ (∀ M_14 : Mm, M_14 = stM M_12 17 (upd (M_12 17) p0.toNatClampNeg 0) → (vp_in p0 8 ∧ (∀ y_16 : Int32, y_16 = M_14 15 p0.toNatClampNeg → (vp_in p0 8 ∧ (∀ y_18 : Int32, y_18 = M_14 3 p0.toNatClampNeg → (((y_18 ≤ y_16 → (vp_in p0 8 ∧ (∀ M_21 : Mm, M_21 = stM M_14 14 (upd (M_14 14) p0.toNatClampNeg 1) → (post 3 M_21)))) ∧ (¬ y_18 ≤ y_16 → (vp_in p0 8 ∧ (∀ y_23 : Int32, y_23 = M_14 3 p0.toNatClampNeg → (vp_in p0 8 ∧ (∀ y_25 : Int32, y_25 = M_14 2 p0.toNatClampNeg → (((y_25 ≤ y_23 → (vp_in p0 8 ∧ (∀ y_28 : Int32, y_28 = M_14 2 p0.toNatClampNeg → (vp_in p0 8 ∧ (∀ M_30 : Mm, M_30 = stM M_14 15 (upd (M_14 15) p0.toNatClampNeg y_28) → (post 3 M_30)))))) ∧ (¬ y_25 ≤ y_23 → (vp_in p0 8 ∧ (∀ y_32 : Int32, y_32 = M_14 3 p0.toNatClampNeg → (vp_in p0 8 ∧ (∀ M_34 : Mm, M_34 = stM M_14 15 (upd (M_14 15) p0.toNatClampNeg y_32) → (post 3 M_34))))))))))))))))))))))))))))))))
set_option maxHeartbeats 4000000 in
set_option maxRecDepth 100000 in
theorem mtXm_fail (l : Launch) (dC : Nat → ClassId) (dI : Nat → Nat → Nat) (q : Nat → Nat) (dA : Nat → ClassId) (sz : Nat) (p0 : Int32) (p1 : Int32) (M : Mm) (post : Int32 → Mm → Prop) (hw : wpXm_fail p0 p1 M post) : Met l yXm_fail (wsA yXm_fail cXm_fail 3 (some .int)) ({ frames := 1, cells := 0, slots := 0, locals := 22 }) (va_Pc [.ref (q 0), .int p0, .int p1] (pW (dC, dI) vwCl (wM q dA) (tM dA) sz M)) (va_Qi post (bW (dC, dI) vwCl (wM q dA) (tM dA) (va_A (wM q dA M) sz)) (va_A (wM q dA M) sz)) 0 0 (va_A (wM q dA M) sz) := by
  refine Met.ofW (cc := cXm_fail) (maxL := 3) (ret := (some .int)) (by decide) rfl ?_
  intro p e s m args below meth c s₁ B hml hv
  obtain ⟨rfl, hsz, hP, hK, hD0⟩ := hv
  have hx := B.exec
  have hb := B.bytes
  have hr := B.returns
  have hts := atoms_spec (ws := (wsA yXm_fail cXm_fail 3 (some .int))) B.pre
  have hta : ∀ w ∈ wsG, w.before _ s = true := fun w h => hts w (List.mem_cons_of_mem _ h)
  have hown : s.vm.findClass "ServiceThreadsModel" = some m.cls := findClass_of_methodNamed B.named
  have hlocks := B.notSynchronized
  subst hsz
  have hD := hD0.self (sz := s.heap.size)
  generalize hAe : va_A (wM q dA M) s.heap.size = A at hD ⊢
  have hA : ∀ q : Nat, s.heap.size ≤ q → A q := fun q h => by rw [← hAe]; exact Or.inr h
  have hS : va_S A s.heap s.heap [] := va_S.rf
  dsimp only [wpXm_fail] at hw
  have hl := lv_entry ([.ref (q 0), .int p0, .int p1]) (n := 3) (Nat.le_of_ble_eq_true rfl)
  rw [lg_entry_eq]
  generalize (lg_sl ([.ref (q 0), .int p0, .int p1]) ++ List.replicate (3 - (lg_sl ([.ref (q 0), .int p0, .int p1])).length) Slot.unset).toArray = ls at hl ⊢
  have hl : lv_has ls 3 [(0, .ref (q 0)), (1, .int p0), (2, .int p1)] := hl
  refine lv_aload_n hx hb dXm_fail_0 rfl (lv_at hl 0 rfl) ?_
  refine lv_iload_n hx hb dXm_fail_1 rfl (lv_at hl 1 rfl) ?_
  refine lv_iload_n hx hb dXm_fail_2 rfl (lv_at hl 2 rfl) ?_
  refine cn_v (w := (wM q dA)) (M := M) (wM_ad q dA) (va_runV (As := [.int p0, .int p1]) (rest := []) ⟨hx, hb, hml, hown, hta⟩ (mtXm_tell l dC dI q dA s.heap.size p0 p1 M _ hw) (cwV 2 hta (giV wt_704 wt_706 ws_25 wt_7 wt_707) rfl rfl rfl (by decide +kernel) ⟨Nat.le_of_ble_eq_true rfl, Nat.le_of_ble_eq_true rfl⟩) ⟨pW_blind, va_recv hK hP (ci := 5) (q0 := 0) rfl (wM_0 q dA M), pW_of hK hP hD⟩ rfl rfl hl.1 rfl (lv_room (Nat.le_of_ble_eq_true rfl)) dXm_fail_3 ⟨Nat.le_of_ble_eq_true rfl, Nat.le_of_ble_eq_true rfl⟩) hD hS hA (fun M_2 H locs hw hP hD hS => ?_)
  refine lv_aload_n hx hb dXm_fail_6 rfl (lv_at hl 0 rfl) ?_
  refine va_get (D := (dC, dI)) (ci := 5) (v := .ref (q 7)) (C := "ServiceThreadsModel") (T := TXm) (N := 28) hx hb hta inXm hown hK hP 0 (wM_0 q dA M_2) rfl 9 (by decide) (hta _ wt_574) (fun _ h9 => h9) rfl dXm_fail_7 ?_
  refine lv_iload_n hx hb dXm_fail_10 rfl (lv_at hl 1 rfl) ?_
  refine lv_iload_n hx hb dXm_fail_11 rfl (lv_at hl 2 rfl) ?_
  obtain ⟨h_3, hw⟩ := hw
  refine wo_i (w := (wM q dA)) (M := M_2) hx hb hK hP hD hS 7 6 (wM_7 q dA M_2) (wM_s7 q dA M_2) rfl h_3 dXm_fail_12 (fun M_4 H locs eM_4 hP hD hS => ?_)
  have hw := hw M_4 eM_4
  refine lv_aload_n hx hb dXm_fail_13 rfl (lv_at hl 0 rfl) ?_
  refine lv_iload_n hx hb dXm_fail_14 rfl (lv_at hl 1 rfl) ?_
  refine cn_v (w := (wM q dA)) (M := M_4) (wM_ad q dA) (va_runV (As := [.int p0]) (rest := []) ⟨hx, hb, hml, hown, hta⟩ (mtXm_free l dC dI q dA H.size p0 M_4 _ hw) (cwV 1 hta (giV wt_688 wt_690 ws_21 wt_7 wt_691) rfl rfl rfl (by decide +kernel) ⟨Nat.le_of_ble_eq_true rfl, Nat.le_of_ble_eq_true rfl⟩) ⟨pW_blind, va_recv hK hP (ci := 5) (q0 := 0) rfl (wM_0 q dA M_4), pW_of hK hP hD⟩ rfl rfl hl.1 rfl (lv_room (Nat.le_of_ble_eq_true rfl)) dXm_fail_15 ⟨Nat.le_of_ble_eq_true rfl, Nat.le_of_ble_eq_true rfl⟩) hD hS hA (fun M_6 H locs hw hP hD hS => ?_)
  refine lv_aload_n hx hb dXm_fail_18 rfl (lv_at hl 0 rfl) ?_
  refine lv_iload_n hx hb dXm_fail_19 rfl (lv_at hl 1 rfl) ?_
  refine cn_v (w := (wM q dA)) (M := M_6) (wM_ad q dA) (va_runV (As := [.int p0]) (rest := []) ⟨hx, hb, hml, hown, hta⟩ (mtXm_drop l dC dI q dA H.size p0 M_6 _ hw) (cwV 1 hta (giV wt_708 wt_710 ws_26 wt_7 wt_711) rfl rfl rfl (by decide +kernel) ⟨Nat.le_of_ble_eq_true rfl, Nat.le_of_ble_eq_true rfl⟩) ⟨pW_blind, va_recv hK hP (ci := 5) (q0 := 0) rfl (wM_0 q dA M_6), pW_of hK hP hD⟩ rfl rfl hl.1 rfl (lv_room (Nat.le_of_ble_eq_true rfl)) dXm_fail_20 ⟨Nat.le_of_ble_eq_true rfl, Nat.le_of_ble_eq_true rfl⟩) hD hS hA (fun M_8 H locs hw hP hD hS => ?_)
  refine lv_aload_n hx hb dXm_fail_23 rfl (lv_at hl 0 rfl) ?_
  refine va_get (D := (dC, dI)) (ci := 5) (v := .ref (q 12)) (C := "ServiceThreadsModel") (T := TXm) (N := 28) hx hb hta inXm hown hK hP 0 (wM_0 q dA M_8) rfl 14 (by decide) (hta _ wt_579) (fun _ h9 => h9) rfl dXm_fail_24 ?_
  refine lv_iload_n hx hb dXm_fail_27 rfl (lv_at hl 1 rfl) ?_
  refine lv_iconst (v := 0) hx hb dXm_fail_28 (by decide) ?_
  obtain ⟨h_9, hw⟩ := hw
  refine wo_z (w := (wM q dA)) (M := M_8) hx hb hK hP hD hS 12 11 (wM_12 q dA M_8) (wM_s12 q dA M_8) rfl (by decide) h_9 dXm_fail_29 (fun M_10 H locs eM_10 hP hD hS => ?_)
  have hw := hw M_10 eM_10
  refine lv_aload_n hx hb dXm_fail_30 rfl (lv_at hl 0 rfl) ?_
  refine va_get (D := (dC, dI)) (ci := 5) (v := .ref (q 13)) (C := "ServiceThreadsModel") (T := TXm) (N := 28) hx hb hta inXm hown hK hP 0 (wM_0 q dA M_10) rfl 15 (by decide) (hta _ wt_580) (fun _ h9 => h9) rfl dXm_fail_31 ?_
  refine lv_iload_n hx hb dXm_fail_34 rfl (lv_at hl 1 rfl) ?_
  refine lv_iconst (v := 0) hx hb dXm_fail_35 (by decide) ?_
  obtain ⟨h_11, hw⟩ := hw
  refine wo_z (w := (wM q dA)) (M := M_10) hx hb hK hP hD hS 13 12 (wM_13 q dA M_10) (wM_s13 q dA M_10) rfl (by decide) h_11 dXm_fail_36 (fun M_12 H locs eM_12 hP hD hS => ?_)
  have hw := hw M_12 eM_12
  refine lv_aload_n hx hb dXm_fail_37 rfl (lv_at hl 0 rfl) ?_
  refine va_get (D := (dC, dI)) (ci := 5) (v := .ref (q 9)) (C := "ServiceThreadsModel") (T := TXm) (N := 28) hx hb hta inXm hown hK hP 0 (wM_0 q dA M_12) rfl 11 (by decide) (hta _ wt_576) (fun _ h9 => h9) rfl dXm_fail_38 ?_
  refine lv_iload_n hx hb dXm_fail_41 rfl (lv_at hl 1 rfl) ?_
  refine lv_iconst (v := 0) hx hb dXm_fail_42 (by decide) ?_
  obtain ⟨h_13, hw⟩ := hw
  refine wo_i (w := (wM q dA)) (M := M_12) hx hb hK hP hD hS 9 8 (wM_9 q dA M_12) (wM_s9 q dA M_12) rfl h_13 dXm_fail_43 (fun M_14 H locs eM_14 hP hD hS => ?_)
  have hw := hw M_14 eM_14
  refine lv_aload_n hx hb dXm_fail_44 rfl (lv_at hl 0 rfl) ?_
  refine va_get (D := (dC, dI)) (ci := 5) (v := .ref (q 6)) (C := "ServiceThreadsModel") (T := TXm) (N := 28) hx hb hta inXm hown hK hP 0 (wM_0 q dA M_14) rfl 8 (by decide) (hta _ wt_573) (fun _ h9 => h9) rfl dXm_fail_45 ?_
  refine lv_iload_n hx hb dXm_fail_48 rfl (lv_at hl 1 rfl) ?_
  obtain ⟨h_15, hw⟩ := hw
  refine ro_i (w := (wM q dA)) (M := M_14) hx hb hK hP 6 5 (wM_6 q dA M_14) rfl h_15 dXm_fail_49 (fun y_16 ey_16 => ?_)
  have hw := hw y_16 ey_16
  refine lv_aload_n hx hb dXm_fail_50 rfl (lv_at hl 0 rfl) ?_
  refine va_get (D := (dC, dI)) (ci := 5) (v := .ref (q 4)) (C := "ServiceThreadsModel") (T := TXm) (N := 28) hx hb hta inXm hown hK hP 0 (wM_0 q dA M_14) rfl 6 (by decide) (hta _ wt_571) (fun _ h9 => h9) rfl dXm_fail_51 ?_
  refine lv_iload_n hx hb dXm_fail_54 rfl (lv_at hl 1 rfl) ?_
  obtain ⟨h_17, hw⟩ := hw
  refine ro_i (w := (wM q dA)) (M := M_14) hx hb hK hP 4 3 (wM_4 q dA M_14) rfl h_17 dXm_fail_55 (fun y_18 ey_18 => ?_)
  have hw := hw y_18 ey_18
  refine lv_icmp_ge (tgt := 98) hx hb dXm_fail_56 (by decide) (fun c_19 => ?_) (fun c_19 => ?_)
  · have hw := hw.1 c_19
    refine lv_aload_n hx hb dXm_fail_98 rfl (lv_at hl 0 rfl) ?_
    refine va_get (D := (dC, dI)) (ci := 5) (v := .ref (q 5)) (C := "ServiceThreadsModel") (T := TXm) (N := 28) hx hb hta inXm hown hK hP 0 (wM_0 q dA M_14) rfl 7 (by decide) (hta _ wt_572) (fun _ h9 => h9) rfl dXm_fail_99 ?_
    refine lv_iload_n hx hb dXm_fail_102 rfl (lv_at hl 1 rfl) ?_
    refine lv_iconst (v := 1) hx hb dXm_fail_103 (by decide) ?_
    obtain ⟨h_20, hw⟩ := hw
    refine wo_i (w := (wM q dA)) (M := M_14) hx hb hK hP hD hS 5 4 (wM_5 q dA M_14) (wM_s5 q dA M_14) rfl h_20 dXm_fail_104 (fun M_21 H locs eM_21 hP hD hS => ?_)
    have hw := hw M_21 eM_21
    refine lv_iconst (v := 3) hx hb dXm_fail_105 (by decide) ?_
    exact W.iret (v := 3) hx hb hr (fun t ht hW => ⟨⟨3, M_21, rfl, hw, by rw [ht]; exact hP, va_K.moved hW.alike hK, hD⟩, hS.F ht⟩) hS.2.2 dXm_fail_106 hlocks
  · have hw := hw.2 c_19
    refine lv_aload_n hx hb dXm_fail_59 rfl (lv_at hl 0 rfl) ?_
    refine va_get (D := (dC, dI)) (ci := 5) (v := .ref (q 6)) (C := "ServiceThreadsModel") (T := TXm) (N := 28) hx hb hta inXm hown hK hP 0 (wM_0 q dA M_14) rfl 8 (by decide) (hta _ wt_573) (fun _ h9 => h9) rfl dXm_fail_60 ?_
    refine lv_iload_n hx hb dXm_fail_63 rfl (lv_at hl 1 rfl) ?_
    refine lv_aload_n hx hb dXm_fail_64 rfl (lv_at hl 0 rfl) ?_
    refine va_get (D := (dC, dI)) (ci := 5) (v := .ref (q 4)) (C := "ServiceThreadsModel") (T := TXm) (N := 28) hx hb hta inXm hown hK hP 0 (wM_0 q dA M_14) rfl 6 (by decide) (hta _ wt_571) (fun _ h9 => h9) rfl dXm_fail_65 ?_
    refine lv_iload_n hx hb dXm_fail_68 rfl (lv_at hl 1 rfl) ?_
    obtain ⟨h_22, hw⟩ := hw
    refine ro_i (w := (wM q dA)) (M := M_14) hx hb hK hP 4 3 (wM_4 q dA M_14) rfl h_22 dXm_fail_69 (fun y_23 ey_23 => ?_)
    have hw := hw y_23 ey_23
    refine lv_aload_n hx hb dXm_fail_70 rfl (lv_at hl 0 rfl) ?_
    refine va_get (D := (dC, dI)) (ci := 5) (v := .ref (q 3)) (C := "ServiceThreadsModel") (T := TXm) (N := 28) hx hb hta inXm hown hK hP 0 (wM_0 q dA M_14) rfl 5 (by decide) (hta _ wt_570) (fun _ h9 => h9) rfl dXm_fail_71 ?_
    refine lv_iload_n hx hb dXm_fail_74 rfl (lv_at hl 1 rfl) ?_
    obtain ⟨h_24, hw⟩ := hw
    refine ro_i (w := (wM q dA)) (M := M_14) hx hb hK hP 3 2 (wM_3 q dA M_14) rfl h_24 dXm_fail_75 (fun y_25 ey_25 => ?_)
    have hw := hw y_25 ey_25
    refine lv_icmp_ge (tgt := 88) hx hb dXm_fail_76 (by decide) (fun c_26 => ?_) (fun c_26 => ?_)
    · have hw := hw.1 c_26
      refine lv_aload_n hx hb dXm_fail_88 rfl (lv_at hl 0 rfl) ?_
      refine va_get (D := (dC, dI)) (ci := 5) (v := .ref (q 3)) (C := "ServiceThreadsModel") (T := TXm) (N := 28) hx hb hta inXm hown hK hP 0 (wM_0 q dA M_14) rfl 5 (by decide) (hta _ wt_570) (fun _ h9 => h9) rfl dXm_fail_89 ?_
      refine lv_iload_n hx hb dXm_fail_92 rfl (lv_at hl 1 rfl) ?_
      obtain ⟨h_27, hw⟩ := hw
      refine ro_i (w := (wM q dA)) (M := M_14) hx hb hK hP 3 2 (wM_3 q dA M_14) rfl h_27 dXm_fail_93 (fun y_28 ey_28 => ?_)
      have hw := hw y_28 ey_28
      obtain ⟨h_29, hw⟩ := hw
      refine wo_i (w := (wM q dA)) (M := M_14) hx hb hK hP hD hS 6 5 (wM_6 q dA M_14) (wM_s6 q dA M_14) rfl h_29 dXm_fail_94 (fun M_30 H locs eM_30 hP hD hS => ?_)
      have hw := hw M_30 eM_30
      refine lv_goto (tgt := 105) hx hb dXm_fail_95 (by decide) ?_
      refine lv_iconst (v := 3) hx hb dXm_fail_105 (by decide) ?_
      exact W.iret (v := 3) hx hb hr (fun t ht hW => ⟨⟨3, M_30, rfl, hw, by rw [ht]; exact hP, va_K.moved hW.alike hK, hD⟩, hS.F ht⟩) hS.2.2 dXm_fail_106 hlocks
    · have hw := hw.2 c_26
      refine lv_aload_n hx hb dXm_fail_79 rfl (lv_at hl 0 rfl) ?_
      refine va_get (D := (dC, dI)) (ci := 5) (v := .ref (q 4)) (C := "ServiceThreadsModel") (T := TXm) (N := 28) hx hb hta inXm hown hK hP 0 (wM_0 q dA M_14) rfl 6 (by decide) (hta _ wt_571) (fun _ h9 => h9) rfl dXm_fail_80 ?_
      refine lv_iload_n hx hb dXm_fail_83 rfl (lv_at hl 1 rfl) ?_
      obtain ⟨h_31, hw⟩ := hw
      refine ro_i (w := (wM q dA)) (M := M_14) hx hb hK hP 4 3 (wM_4 q dA M_14) rfl h_31 dXm_fail_84 (fun y_32 ey_32 => ?_)
      have hw := hw y_32 ey_32
      refine lv_goto (tgt := 94) hx hb dXm_fail_85 (by decide) ?_
      obtain ⟨h_33, hw⟩ := hw
      refine wo_i (w := (wM q dA)) (M := M_14) hx hb hK hP hD hS 6 5 (wM_6 q dA M_14) (wM_s6 q dA M_14) rfl h_33 dXm_fail_94 (fun M_34 H locs eM_34 hP hD hS => ?_)
      have hw := hw M_34 eM_34
      refine lv_goto (tgt := 105) hx hb dXm_fail_95 (by decide) ?_
      refine lv_iconst (v := 3) hx hb dXm_fail_105 (by decide) ?_
      exact W.iret (v := 3) hx hb hr (fun t ht hW => ⟨⟨3, M_34, rfl, hw, by rw [ht]; exact hP, va_K.moved hW.alike hK, hD⟩, hS.F ht⟩) hS.2.2 dXm_fail_106 hlocks
def wpXm_done (p0 : Int32) (M : Mm) (post : Int32 → Mm → Prop) : Prop := vp_in p0 8 ∧ (∀ y_2 : Int32, y_2 = M 15 p0.toNatClampNeg → (∀ y_3 : Int32, y_3 = y_2 + 1 → (vp_in p0 8 ∧ (∀ M_5 : Mm, M_5 = stM M 15 (upd (M 15) p0.toNatClampNeg y_3) → (post 1 M_5)))))
set_option maxHeartbeats 4000000 in
set_option maxRecDepth 100000 in
theorem mtXm_done (l : Launch) (dC : Nat → ClassId) (dI : Nat → Nat → Nat) (q : Nat → Nat) (dA : Nat → ClassId) (sz : Nat) (p0 : Int32) (M : Mm) (post : Int32 → Mm → Prop) (hw : wpXm_done p0 M post) : Met l yXm_done (wsA yXm_done cXm_done 2 (some .int)) ({ frames := 0, cells := 0, slots := 0, locals := 0 }) (va_Pc [.ref (q 0), .int p0] (pW (dC, dI) vwCl (wM q dA) (tM dA) sz M)) (va_Qi post (bW (dC, dI) vwCl (wM q dA) (tM dA) (va_A (wM q dA M) sz)) (va_A (wM q dA M) sz)) 0 0 (va_A (wM q dA M) sz) := by
  refine Met.ofW (cc := cXm_done) (maxL := 2) (ret := (some .int)) (by decide) rfl ?_
  intro p e s m args below meth c s₁ B hml hv
  obtain ⟨rfl, hsz, hP, hK, hD0⟩ := hv
  have hx := B.exec
  have hb := B.bytes
  have hr := B.returns
  have hts := atoms_spec (ws := (wsA yXm_done cXm_done 2 (some .int))) B.pre
  have hta : ∀ w ∈ wsG, w.before _ s = true := fun w h => hts w (List.mem_cons_of_mem _ h)
  have hown : s.vm.findClass "ServiceThreadsModel" = some m.cls := findClass_of_methodNamed B.named
  have hlocks := B.notSynchronized
  subst hsz
  have hD := hD0.self (sz := s.heap.size)
  generalize hAe : va_A (wM q dA M) s.heap.size = A at hD ⊢
  have hA : ∀ q : Nat, s.heap.size ≤ q → A q := fun q h => by rw [← hAe]; exact Or.inr h
  have hS : va_S A s.heap s.heap [] := va_S.rf
  dsimp only [wpXm_done] at hw
  have hl := lv_entry ([.ref (q 0), .int p0]) (n := 2) (Nat.le_of_ble_eq_true rfl)
  rw [lg_entry_eq]
  generalize (lg_sl ([.ref (q 0), .int p0]) ++ List.replicate (2 - (lg_sl ([.ref (q 0), .int p0])).length) Slot.unset).toArray = ls at hl ⊢
  have hl : lv_has ls 2 [(0, .ref (q 0)), (1, .int p0)] := hl
  refine lv_aload_n hx hb dXm_done_0 rfl (lv_at hl 0 rfl) ?_
  refine va_get (D := (dC, dI)) (ci := 5) (v := .ref (q 6)) (C := "ServiceThreadsModel") (T := TXm) (N := 28) hx hb hta inXm hown hK hP 0 (wM_0 q dA M) rfl 8 (by decide) (hta _ wt_573) (fun _ h9 => h9) rfl dXm_done_1 ?_
  refine lv_iload_n hx hb dXm_done_4 rfl (lv_at hl 1 rfl) ?_
  refine lv_dup2_11 hx hb dXm_done_5 rfl rfl ?_
  obtain ⟨h_1, hw⟩ := hw
  refine ro_i (w := (wM q dA)) (M := M) hx hb hK hP 6 5 (wM_6 q dA M) rfl h_1 dXm_done_6 (fun y_2 ey_2 => ?_)
  have hw := hw y_2 ey_2
  refine lv_iconst (v := 1) hx hb dXm_done_7 (by decide) ?_
  refine lv_iadd hx hb dXm_done_8 ?_
  refine lv_topi (fun y_3 ey_3 => ?_)
  have hw := hw y_3 ey_3
  obtain ⟨h_4, hw⟩ := hw
  refine wo_i (w := (wM q dA)) (M := M) hx hb hK hP hD hS 6 5 (wM_6 q dA M) (wM_s6 q dA M) rfl h_4 dXm_done_9 (fun M_5 H locs eM_5 hP hD hS => ?_)
  have hw := hw M_5 eM_5
  refine lv_iconst (v := 1) hx hb dXm_done_10 (by decide) ?_
  exact W.iret (v := 1) hx hb hr (fun t ht hW => ⟨⟨1, M_5, rfl, hw, by rw [ht]; exact hP, va_K.moved hW.alike hK, hD⟩, hS.F ht⟩) hS.2.2 dXm_done_11 hlocks
def wlXm_hasAbove_7 (post : Int32 → Mm → Prop) : Nat → Int32 → Int32 → Int32 → Mm → Prop
  | 0, _, _, _ => fun _ => False
  | n7 + 1, x1, x3, x4 => fun M => ((10 ≤ x4 → (narrow .boolean (.int x3) = .int x3 ∧ (post x3 M))) ∧ (¬ 10 ≤ x4 → (((x3 = 0 → (vp_in x4 10 ∧ (∀ y_7 : Int32, y_7 = M 4 x4.toNatClampNeg → (((y_7 = x1 → (∀ x4_10 : Int32, x4_10 = x4 + 1 → (wlXm_hasAbove_7 post n7 x1 1 x4_10 M))) ∧ (¬ y_7 = x1 → (∀ x4_9 : Int32, x4_9 = x4 + 1 → (wlXm_hasAbove_7 post n7 x1 0 x4_9 M)))))))) ∧ (¬ x3 = 0 → (∀ x4_5 : Int32, x4_5 = x4 + 1 → (wlXm_hasAbove_7 post n7 x1 1 x4_5 M)))))))
def wpXm_hasAbove (p0 : Int32) (p1 : Int32) (M : Mm) (post : Int32 → Mm → Prop) : Prop := ∀ y_1 : Int32, y_1 = p1 + 1 → (∃ n7 : Nat, wlXm_hasAbove_7 post n7 p0 0 y_1 M)
set_option maxHeartbeats 4000000 in
set_option maxRecDepth 100000 in
theorem LwlXm_hasAbove_7 {p : Program} {l : Launch} {e : Env} {s : State} {m : MethodId} {below : List Frame} {meth : Method} {c : Code} {dC : Nat → ClassId} {dI : Nat → Nat → Nat} {q : Nat → Nat} {dA : Nat → ClassId} {A : Nat → Prop} {av : List Value} {post : Int32 → Mm → Prop} (CX : p.tables.exec = Jvm.exec ∧ c.code = cXm_hasAbove ∧ meth.sig.returnType = (some .boolean) ∧ c.maxLocals = 5 ∧ s.vm.findClass "ServiceThreadsModel" = some m.cls ∧ (∀ w ∈ wsG, w.before av.toArray s = true) ∧ (∀ q : Nat, s.heap.size ≤ q → A q) ∧ va_K (dC, dI) vwCl (tM dA) s ∧ meth.locks = false) : ∀ (n7 : Nat) (x1 : Int32) (x3 : Int32) (x4 : Int32) (M : Mm) (H : Heap) (locs : List Loc) (ls : Array Slot), wlXm_hasAbove_7 post n7 x1 x3 x4 M → va_P (dC, dI) vwCl (wM q dA M) H → va_D A (wM q dA M) → va_S A s.heap H locs → lv_has ls 5 [(0, .ref (q 0)), (1, .int x1), (3, .int x3), (4, .int x4)] → W p l e (headSpec (wsA yXm_hasAbove cXm_hasAbove 5 (some .boolean)) ({ frames := 0, cells := 0, slots := 0, locals := 0 })).room s m av.toArray below meth c H locs 0 0 (MQ below (va_Qi post (bW (dC, dI) vwCl (wM q dA) (tM dA) A) A) av.toArray s 0 0 A) (F0 m 7 ls []) := by
  obtain ⟨hx, hb, hr, hml, hown, hta, hA, hK, hlocks⟩ := CX
  intro n7
  induction n7 with
  | zero =>
    intro x1 x3 x4 M H locs ls hw
    exact False.elim hw
  | succ n7 ih7 =>
    intro x1 x3 x4 M H locs ls hw hP hD hS hl
    dsimp only [wlXm_hasAbove_7] at hw
    refine lv_iload hx hb dXm_hasAbove_7 (lv_at hl 3 rfl) ?_
    refine lv_bipush (v := 10) hx hb dXm_hasAbove_9 (by decide) ?_
    refine lv_icmp_ge (tgt := 41) hx hb dXm_hasAbove_11 (by decide) (fun c_2 => ?_) (fun c_2 => ?_)
    · have hw := hw.1 c_2
      refine lv_iload_n hx hb dXm_hasAbove_41 rfl (lv_at hl 2 rfl) ?_
      obtain ⟨h_3, hw⟩ := hw
      exact W.zret (v := x3) hx hb hr h_3 (fun t ht hW => ⟨⟨x3, M, rfl, hw, by rw [ht]; exact hP, va_K.moved hW.alike hK, hD⟩, hS.F ht⟩) hS.2.2 dXm_hasAbove_42 hlocks
    · have hw := hw.2 c_2
      refine lv_iload_n hx hb dXm_hasAbove_14 rfl (lv_at hl 2 rfl) ?_
      refine lv_if_ne (tgt := 29) hx hb dXm_hasAbove_15 (by decide) (fun c_4 => ?_) (fun c_4 => ?_)
      · have hw := hw.2 c_4
        refine lv_iconst (v := 1) hx hb dXm_hasAbove_29 (by decide) ?_
        refine lv_goto (tgt := 34) hx hb dXm_hasAbove_30 (by decide) ?_
        refine lv_istore_n (lv' := [(3, .int 1), (0, .ref (q 0)), (1, .int x1), (4, .int x4)]) hx hb dXm_hasAbove_34 rfl hl (by decide) rfl (fun ls hl => ?_)
        obtain ⟨x4_5, ex4_5⟩ : ∃ y : Int32, y = x4 + 1 := ⟨_, rfl⟩
        have hw := hw x4_5 ex4_5
        refine lv_iinc (v := x4_5) (lv' := [(4, .int x4_5), (3, .int 1), (0, .ref (q 0)), (1, .int x1)]) hx hb dXm_hasAbove_35 hl (k := 3) rfl (by rw [ex4_5]; rfl) (by decide) rfl (fun ls hl => ?_)
        refine lv_goto (tgt := 7) hx hb dXm_hasAbove_38 (by decide) ?_
        exact ih7 x1 1 x4_5 M _ _ _ hw hP hD hS (lv_sub hl [2, 3, 1, 0] rfl)
      · have hw := hw.1 c_4
        refine lv_aload_n hx hb dXm_hasAbove_18 rfl (lv_at hl 0 rfl) ?_
        refine va_get (D := (dC, dI)) (ci := 5) (v := .ref (q 14)) (C := "ServiceThreadsModel") (T := TXm) (N := 28) hx hb hta inXm hown hK hP 0 (wM_0 q dA M) rfl 16 (by decide) (hta _ wt_581) (fun _ h9 => h9) rfl dXm_hasAbove_19 ?_
        refine lv_iload hx hb dXm_hasAbove_22 (lv_at hl 3 rfl) ?_
        obtain ⟨h_6, hw⟩ := hw
        refine ro_i (w := (wM q dA)) (M := M) hx hb hK hP 14 13 (wM_14 q dA M) rfl h_6 dXm_hasAbove_24 (fun y_7 ey_7 => ?_)
        have hw := hw y_7 ey_7
        refine lv_iload_n hx hb dXm_hasAbove_25 rfl (lv_at hl 1 rfl) ?_
        refine lv_icmp_ne (tgt := 33) hx hb dXm_hasAbove_26 (by decide) (fun c_8 => ?_) (fun c_8 => ?_)
        · have hw := hw.2 c_8
          refine lv_iconst (v := 0) hx hb dXm_hasAbove_33 (by decide) ?_
          refine lv_istore_n (lv' := [(3, .int 0), (0, .ref (q 0)), (1, .int x1), (4, .int x4)]) hx hb dXm_hasAbove_34 rfl hl (by decide) rfl (fun ls hl => ?_)
          obtain ⟨x4_9, ex4_9⟩ : ∃ y : Int32, y = x4 + 1 := ⟨_, rfl⟩
          have hw := hw x4_9 ex4_9
          refine lv_iinc (v := x4_9) (lv' := [(4, .int x4_9), (3, .int 0), (0, .ref (q 0)), (1, .int x1)]) hx hb dXm_hasAbove_35 hl (k := 3) rfl (by rw [ex4_9]; rfl) (by decide) rfl (fun ls hl => ?_)
          refine lv_goto (tgt := 7) hx hb dXm_hasAbove_38 (by decide) ?_
          exact ih7 x1 0 x4_9 M _ _ _ hw hP hD hS (lv_sub hl [2, 3, 1, 0] rfl)
        · have hw := hw.1 c_8
          refine lv_iconst (v := 1) hx hb dXm_hasAbove_29 (by decide) ?_
          refine lv_goto (tgt := 34) hx hb dXm_hasAbove_30 (by decide) ?_
          refine lv_istore_n (lv' := [(3, .int 1), (0, .ref (q 0)), (1, .int x1), (4, .int x4)]) hx hb dXm_hasAbove_34 rfl hl (by decide) rfl (fun ls hl => ?_)
          obtain ⟨x4_10, ex4_10⟩ : ∃ y : Int32, y = x4 + 1 := ⟨_, rfl⟩
          have hw := hw x4_10 ex4_10
          refine lv_iinc (v := x4_10) (lv' := [(4, .int x4_10), (3, .int 1), (0, .ref (q 0)), (1, .int x1)]) hx hb dXm_hasAbove_35 hl (k := 3) rfl (by rw [ex4_10]; rfl) (by decide) rfl (fun ls hl => ?_)
          refine lv_goto (tgt := 7) hx hb dXm_hasAbove_38 (by decide) ?_
          exact ih7 x1 1 x4_10 M _ _ _ hw hP hD hS (lv_sub hl [2, 3, 1, 0] rfl)
set_option maxHeartbeats 4000000 in
set_option maxRecDepth 100000 in
theorem mtXm_hasAbove (l : Launch) (dC : Nat → ClassId) (dI : Nat → Nat → Nat) (q : Nat → Nat) (dA : Nat → ClassId) (sz : Nat) (p0 : Int32) (p1 : Int32) (M : Mm) (post : Int32 → Mm → Prop) (hw : wpXm_hasAbove p0 p1 M post) : Met l yXm_hasAbove (wsA yXm_hasAbove cXm_hasAbove 5 (some .boolean)) ({ frames := 0, cells := 0, slots := 0, locals := 0 }) (va_Pc [.ref (q 0), .int p0, .int p1] (pW (dC, dI) vwCl (wM q dA) (tM dA) sz M)) (va_Qi post (bW (dC, dI) vwCl (wM q dA) (tM dA) (va_A (wM q dA M) sz)) (va_A (wM q dA M) sz)) 0 0 (va_A (wM q dA M) sz) := by
  refine Met.ofW (cc := cXm_hasAbove) (maxL := 5) (ret := (some .boolean)) (by decide) rfl ?_
  intro p e s m args below meth c s₁ B hml hv
  obtain ⟨rfl, hsz, hP, hK, hD0⟩ := hv
  have hx := B.exec
  have hb := B.bytes
  have hr := B.returns
  have hts := atoms_spec (ws := (wsA yXm_hasAbove cXm_hasAbove 5 (some .boolean))) B.pre
  have hta : ∀ w ∈ wsG, w.before _ s = true := fun w h => hts w (List.mem_cons_of_mem _ h)
  have hown : s.vm.findClass "ServiceThreadsModel" = some m.cls := findClass_of_methodNamed B.named
  have hlocks := B.notSynchronized
  subst hsz
  have hD := hD0.self (sz := s.heap.size)
  generalize hAe : va_A (wM q dA M) s.heap.size = A at hD ⊢
  have hA : ∀ q : Nat, s.heap.size ≤ q → A q := fun q h => by rw [← hAe]; exact Or.inr h
  have hS : va_S A s.heap s.heap [] := va_S.rf
  dsimp only [wpXm_hasAbove] at hw
  have hl := lv_entry ([.ref (q 0), .int p0, .int p1]) (n := 5) (Nat.le_of_ble_eq_true rfl)
  rw [lg_entry_eq]
  generalize (lg_sl ([.ref (q 0), .int p0, .int p1]) ++ List.replicate (5 - (lg_sl ([.ref (q 0), .int p0, .int p1])).length) Slot.unset).toArray = ls at hl ⊢
  have hl : lv_has ls 5 [(0, .ref (q 0)), (1, .int p0), (2, .int p1)] := hl
  refine lv_iconst (v := 0) hx hb dXm_hasAbove_0 (by decide) ?_
  refine lv_istore_n (lv' := [(3, .int 0), (0, .ref (q 0)), (1, .int p0), (2, .int p1)]) hx hb dXm_hasAbove_1 rfl hl (by decide) rfl (fun ls hl => ?_)
  refine lv_iload_n hx hb dXm_hasAbove_2 rfl (lv_at hl 3 rfl) ?_
  refine lv_iconst (v := 1) hx hb dXm_hasAbove_3 (by decide) ?_
  refine lv_iadd hx hb dXm_hasAbove_4 ?_
  refine lv_topi (fun y_1 ey_1 => ?_)
  have hw := hw y_1 ey_1
  refine lv_istore (lv' := [(4, .int y_1), (3, .int 0), (0, .ref (q 0)), (1, .int p0), (2, .int p1)]) hx hb dXm_hasAbove_5 hl (by decide) rfl (fun ls hl => ?_)
  obtain ⟨n7, hw⟩ := hw
  exact LwlXm_hasAbove_7 (A := A) (av := [.ref (q 0), .int p0, .int p1]) ⟨hx, hb, hr, hml, hown, hta, hA, hK, hlocks⟩ n7 p0 0 y_1 M _ _ _ hw hP hD hS (lv_sub hl [2, 3, 1, 0] rfl)
