def wF (n : Nat) (q : Nat → Nat) (dA : Nat → ClassId) (M : Mm) : va_W := [(q 0, .inl (dA 0, n, .inl (M 0)))]
def tF (dA : Nat → ClassId) : List (ClassId × FieldType) := [(dA 0, .int)]
theorem wF_ad (n : Nat) (q : Nat → Nat) (dA : Nat → ClassId) (M M2 : Mm) : wAd (wF n q dA M) = wAd (wF n q dA M2) := rfl
theorem wF_0 (n : Nat) (q : Nat → Nat) (dA : Nat → ClassId) (M : Mm) : (wF n q dA M)[0]? = some (q 0, .inl (dA 0, n, .inl (M 0))) := rfl
theorem wF_s0 (n : Nat) (q : Nat → Nat) (dA : Nat → ClassId) (M : Mm) (f' : Nat → Int32) : (wF n q dA M).set 0 (q 0, .inl (dA 0, n, .inl f')) = wF n q dA (stM M 0 f') := rfl
def wlXf_fill_5 (n : Nat) (post : Mm → Prop) : Nat → Int32 → Int32 → Int32 → Mm → Prop
  | 0, _, _, _ => fun _ => False
  | n5 + 1, x1, x2, x3 => fun M => ((x3 ≤ x2 → (post M)) ∧ (¬ x3 ≤ x2 → (vp_in x2 n ∧ (∀ M_5 : Mm, M_5 = stM M 0 (upd (M 0) x2.toNatClampNeg x1) → (∀ x2_6 : Int32, x2_6 = x2 + 1 → (wlXf_fill_5 n post n5 x1 x2_6 x3 M_5))))))
def wpXf_fill (n : Nat) (p1 : Int32) (M : Mm) (post : Mm → Prop) : Prop := ∀ y_2 : Int32, y_2 = nI n → (∃ n5 : Nat, wlXf_fill_5 n post n5 p1 0 y_2 M)
set_option maxHeartbeats 4000000 in
set_option maxRecDepth 100000 in
theorem LwlXf_fill_5 {p : Program} {l : Launch} {e : Env} {s : State} {m : MethodId} {below : List Frame} {meth : Method} {c : Code} {dC : Nat → ClassId} {dI : Nat → Nat → Nat} {n : Nat} {q : Nat → Nat} {dA : Nat → ClassId} {A : Nat → Prop} {av : List Value} {post : Mm → Prop} (CX : p.tables.exec = Jvm.exec ∧ c.code = cXf_fill ∧ meth.sig.returnType = none ∧ c.maxLocals = 4 ∧ s.vm.findClass "java/util/Arrays" = some m.cls ∧ (∀ w ∈ wsG, w.before av.toArray s = true) ∧ (∀ q : Nat, s.heap.size ≤ q → A q) ∧ va_K (dC, dI) vwCl (tF dA) s ∧ meth.locks = false) : ∀ (n5 : Nat) (x1 : Int32) (x2 : Int32) (x3 : Int32) (M : Mm) (H : Heap) (locs : List Loc) (ls : Array Slot), wlXf_fill_5 n post n5 x1 x2 x3 M → va_P (dC, dI) vwCl (wF n q dA M) H → va_D A (wF n q dA M) → va_S A s.heap H locs → lv_has ls 4 [(0, .ref (q 0)), (1, .int x1), (2, .int x2), (3, .int x3)] → W p l e (headSpec (wsA yXf_fill cXf_fill 4 none) ({ frames := 0, cells := 0, slots := 0, locals := 0 })).room s m av.toArray below meth c H locs 0 0 (MQ below (va_Qv post (bW (dC, dI) vwCl (wF n q dA) (tF dA) A) A) av.toArray s 0 0 A) (F0 m 5 ls []) := by
  obtain ⟨hx, hb, hr, hml, hown, hta, hA, hK, hlocks⟩ := CX
  intro n5
  induction n5 with
  | zero =>
    intro x1 x2 x3 M H locs ls hw
    exact False.elim hw
  | succ n5 ih5 =>
    intro x1 x2 x3 M H locs ls hw hP hD hS hl
    dsimp only [wlXf_fill_5] at hw
    refine lv_iload_n hx hb dXf_fill_5 rfl (lv_at hl 2 rfl) ?_
    refine lv_iload_n hx hb dXf_fill_6 rfl (lv_at hl 3 rfl) ?_
    refine lv_icmp_ge (tgt := 20) hx hb dXf_fill_7 (by decide) (fun c_3 => ?_) (fun c_3 => ?_)
    · have hw := hw.1 c_3
      exact W.vret hx hb hr (fun t ht hW => ⟨⟨M, rfl, hw, by rw [ht]; exact hP, va_K.moved hW.alike hK, hD⟩, hS.F ht⟩) hS.2.2 dXf_fill_20 hlocks
    · have hw := hw.2 c_3
      refine lv_aload_n hx hb dXf_fill_10 rfl (lv_at hl 0 rfl) ?_
      refine lv_iload_n hx hb dXf_fill_11 rfl (lv_at hl 2 rfl) ?_
      refine lv_iload_n hx hb dXf_fill_12 rfl (lv_at hl 1 rfl) ?_
      obtain ⟨h_4, hw⟩ := hw
      refine wo_i (w := (wF n q dA)) (M := M) hx hb hK hP hD hS 0 0 (wF_0 n q dA M) (wF_s0 n q dA M) rfl h_4 dXf_fill_13 (fun M_5 H locs eM_5 hP hD hS => ?_)
      have hw := hw M_5 eM_5
      obtain ⟨x2_6, ex2_6⟩ : ∃ y : Int32, y = x2 + 1 := ⟨_, rfl⟩
      have hw := hw x2_6 ex2_6
      refine lv_iinc (v := x2_6) (lv' := [(2, .int x2_6), (0, .ref (q 0)), (1, .int x1), (3, .int x3)]) hx hb dXf_fill_14 hl (k := 2) rfl (by rw [ex2_6]; rfl) (by decide) rfl (fun ls hl => ?_)
      refine lv_goto (tgt := 5) hx hb dXf_fill_17 (by decide) ?_
      exact ih5 x1 x2_6 x3 M_5 _ _ _ hw hP hD hS (lv_sub hl [1, 2, 0, 3] rfl)
set_option maxHeartbeats 4000000 in
set_option maxRecDepth 100000 in
theorem mtXf_fill (l : Launch) (dC : Nat → ClassId) (dI : Nat → Nat → Nat) (n : Nat) (q : Nat → Nat) (dA : Nat → ClassId) (sz : Nat) (p1 : Int32) (M : Mm) (post : Mm → Prop) (hw : wpXf_fill n p1 M post) : Met l yXf_fill (wsA yXf_fill cXf_fill 4 none) ({ frames := 0, cells := 0, slots := 0, locals := 0 }) (va_Pc [.ref (q 0), .int p1] (pW (dC, dI) vwCl (wF n q dA) (tF dA) sz M)) (va_Qv post (bW (dC, dI) vwCl (wF n q dA) (tF dA) (va_A (wF n q dA M) sz)) (va_A (wF n q dA M) sz)) 0 0 (va_A (wF n q dA M) sz) := by
  refine Met.ofW (cc := cXf_fill) (maxL := 4) (ret := none) (by decide) rfl ?_
  intro p e s m args below meth c s₁ B hml hv
  obtain ⟨rfl, hsz, hP, hK, hD0⟩ := hv
  have hx := B.exec
  have hb := B.bytes
  have hr := B.returns
  have hts := atoms_spec (ws := (wsA yXf_fill cXf_fill 4 none)) B.pre
  have hta : ∀ w ∈ wsG, w.before _ s = true := fun w h => hts w (List.mem_cons_of_mem _ h)
  have hown : s.vm.findClass "java/util/Arrays" = some m.cls := findClass_of_methodNamed B.named
  have hlocks := B.notSynchronized
  subst hsz
  have hD := hD0.self (sz := s.heap.size)
  generalize hAe : va_A (wF n q dA M) s.heap.size = A at hD ⊢
  have hA : ∀ q : Nat, s.heap.size ≤ q → A q := fun q h => by rw [← hAe]; exact Or.inr h
  have hS : va_S A s.heap s.heap [] := va_S.rf
  dsimp only [wpXf_fill] at hw
  have hl := lv_entry ([.ref (q 0), .int p1]) (n := 4) (Nat.le_of_ble_eq_true rfl)
  rw [lg_entry_eq]
  generalize (lg_sl ([.ref (q 0), .int p1]) ++ List.replicate (4 - (lg_sl ([.ref (q 0), .int p1])).length) Slot.unset).toArray = ls at hl ⊢
  have hl : lv_has ls 4 [(0, .ref (q 0)), (1, .int p1)] := hl
  refine lv_iconst (v := 0) hx hb dXf_fill_0 (by decide) ?_
  refine lv_istore_n (lv' := [(2, .int 0), (0, .ref (q 0)), (1, .int p1)]) hx hb dXf_fill_1 rfl hl (by decide) rfl (fun ls hl => ?_)
  refine lv_aload_n hx hb dXf_fill_2 rfl (lv_at hl 1 rfl) ?_
  refine va_alen (v := nI n) hx hb hK hP 0 0 (wF_0 n q dA M) rfl rfl dXf_fill_3 ?_
  refine lv_topi (fun y_2 ey_2 => ?_)
  have hw := hw y_2 ey_2
  refine lv_istore_n (lv' := [(3, .int y_2), (2, .int 0), (0, .ref (q 0)), (1, .int p1)]) hx hb dXf_fill_4 rfl hl (by decide) rfl (fun ls hl => ?_)
  obtain ⟨n5, hw⟩ := hw
  exact LwlXf_fill_5 (A := A) (av := [.ref (q 0), .int p1]) ⟨hx, hb, hr, hml, hown, hta, hA, hK, hlocks⟩ n5 p1 0 y_2 M _ _ _ hw hP hD hS (lv_sub hl [2, 3, 1, 0] rfl)
theorem fill_lp {n : Nat} (hn : n < 2 ^ 31) (v : Int32) : ∀ (k j : Nat) (M : Mm), j + k = n → (∀ i, i < j → M 0 i = v) → wlXf_fill_5 n (fun M => ∀ i, i < n → M 0 i = v) (k + 1) v (nI j) (nI n) M := by
  intro k
  induction k with
  | zero =>
    intro j M hj hM
    have e : j = n := by omega
    subst e
    dsimp only [wlXf_fill_5]
    exact ⟨fun _ => hM, fun c => absurd (nI_le (Nat.le_refl _) hn) c⟩
  | succ k ih =>
    intro j M hj hM
    rw [wlXf_fill_5]
    refine ⟨fun c => absurd c (nI_ge (by omega) hn), fun _ => ⟨vp_in_nI (by omega) hn, fun M1 e1 x e2 => ?_⟩⟩
    rw [e2, nI_1]
    refine ih (j + 1) M1 (by omega) (fun i hi => ?_)
    rw [e1, stM_s, nI_clamp (by omega)]
    by_cases hij : i = j
    · rw [hij, pk_us]
    · rw [pk_un hij]; exact hM i (by omega)
theorem fill_ok {n : Nat} (hn : n < 2 ^ 31) (v : Int32) (M : Mm) : wpXf_fill n v M (fun M => ∀ j : Nat, j < n → M 0 j = v) := by
  intro y ey
  rw [ey]
  exact ⟨n + 1, fill_lp hn v n 0 M (by omega) (fun i hi => absurd hi (by omega))⟩
