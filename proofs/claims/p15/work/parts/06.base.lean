/-! memories, worlds that depend on them, rows over such worlds -/
abbrev Mm : Type := Nat → Nat → Int32
def stM (M : Mm) (k : Nat) (f : Nat → Int32) : Mm := fun j => cond (Nat.beq j k) f (M j)
theorem stM_s (M : Mm) (k : Nat) (f : Nat → Int32) : stM M k f k = f := by
  unfold stM
  rw [Nat.beq_refl]
  rfl
theorem stM_n (M : Mm) {k j : Nat} (f : Nat → Int32) (h : j ≠ k) : stM M k f j = M j := by
  have e : Nat.beq j k = false := by
    cases hb : Nat.beq j k with
    | false => rfl
    | true => exact absurd (Nat.eq_of_beq_eq_true hb) h
  unfold stM
  rw [e]
  rfl
/-- the addresses of a world -/
def wAd (ws : va_W) : List Nat := ws.map Prod.fst
theorem wAd_at {w1 w2 : va_W} (h : wAd w1 = wAd w2) {k : Nat} {q : Nat × va_E} (hk : w2[k]? = some q) : ∃ q', w1[k]? = some q' ∧ q'.1 = q.1 := by
  have e : (wAd w1)[k]? = some q.1 := by
    rw [h]
    unfold wAd
    rw [List.getElem?_map, hk]
    rfl
  unfold wAd at e
  rw [List.getElem?_map] at e
  cases hq : w1[k]? with
  | none => rw [hq] at e; cases e
  | some q' => rw [hq] at e; exact ⟨q', rfl, Option.some.inj e⟩
theorem wAd_D {A : Nat → Prop} {w1 w2 : va_W} (h : wAd w1 = wAd w2) (hD : va_D A w1) : va_D A w2 := by
  refine ⟨fun i j p q hi hj hpq => ?_, fun k q hk => ?_⟩
  · obtain ⟨p', hp', ep⟩ := wAd_at h hi
    obtain ⟨q', hq', eq⟩ := wAd_at h hj
    exact hD.1 i j p' q' hp' hq' (by rw [ep, eq]; exact hpq)
  · obtain ⟨q', hq', eq⟩ := wAd_at h hk
    exact eq ▸ hD.2 k q' hq'
theorem wP_l {D : va_G} {cl : List vw_C} {a b : va_W} {H : Heap} (h : va_P D cl (a ++ b) H) : va_P D cl a H := by
  intro k q hk
  have hlt : k < a.length := (List.getElem?_eq_some_iff.mp hk).1
  exact h k q (by rw [List.getElem?_append_left hlt]; exact hk)
theorem wP_r {D : va_G} {cl : List vw_C} {a b : va_W} {H : Heap} (h : va_P D cl (a ++ b) H) : va_P D cl b H := by
  intro k q hk
  exact h (a.length + k) q (by rw [List.getElem?_append_right (Nat.le_add_right _ _), Nat.add_sub_cancel_left]; exact hk)
theorem wD_l {A : Nat → Prop} {a b : va_W} (h : va_D A (a ++ b)) : va_D A a := by
  have go : ∀ {k : Nat} {q : Nat × va_E}, a[k]? = some q → (a ++ b)[k]? = some q := fun {k q} hk => by
    rw [List.getElem?_append_left (List.getElem?_eq_some_iff.mp hk).1]; exact hk
  exact ⟨fun i j p q hi hj e => h.1 i j p q (go hi) (go hj) e, fun k q hk => h.2 k q (go hk)⟩
theorem wD_r {A : Nat → Prop} {a b : va_W} (h : va_D A (a ++ b)) : va_D A b := by
  have go : ∀ {k : Nat} {q : Nat × va_E}, b[k]? = some q → (a ++ b)[a.length + k]? = some q := fun {k q} hk => by
    rw [List.getElem?_append_right (Nat.le_add_right _ _), Nat.add_sub_cancel_left]; exact hk
  exact ⟨fun i j p q hi hj e => by have := h.1 _ _ p q (go hi) (go hj) e; omega, fun k q hk => h.2 _ q (go hk)⟩
theorem wD_x {A : Nat → Prop} {a b : va_W} (h : va_D A (a ++ b)) : ∀ (i j : Nat) (p q : Nat × va_E), a[i]? = some p → b[j]? = some q → p.1 ≠ q.1 := by
  intro i j p q hi hj e
  have hlt : i < a.length := (List.getElem?_eq_some_iff.mp hi).1
  have h1 : (a ++ b)[i]? = some p := by rw [List.getElem?_append_left hlt]; exact hi
  have h2 : (a ++ b)[a.length + j]? = some q := by rw [List.getElem?_append_right (Nat.le_add_right _ _), Nat.add_sub_cancel_left]; exact hj
  have := h.1 _ _ p q h1 h2 e
  omega
theorem wAd_app {a a' b b' : va_W} (h1 : wAd a = wAd a') (h2 : wAd b = wAd b') : wAd (a ++ b) = wAd (a' ++ b') := by
  unfold wAd at *
  rw [List.map_append, List.map_append, h1, h2]
/-- what a contract takes, what it leaves -/
def pW {σ : Type} (D : va_G) (cl : List vw_C) (w : σ → va_W) (ty : List (ClassId × FieldType)) (sz : Nat) (M : σ) : State → Prop := fun U => U.heap.size = sz ∧ va_P D cl (w M) U.heap ∧ va_K D cl ty U ∧ va_D (fun _ => True) (w M)
def bW {σ : Type} (D : va_G) (cl : List vw_C) (w : σ → va_W) (ty : List (ClassId × FieldType)) (A : Nat → Prop) : σ → State → Prop := fun M t => va_P D cl (w M) t.heap ∧ va_K D cl ty t ∧ va_D A (w M)
theorem pW_blind {σ : Type} {D : va_G} {cl : List vw_C} {w : σ → va_W} {ty : List (ClassId × FieldType)} {sz : Nat} {M : σ} {av : List Value} : FrameBlind (va_Pc av (pW D cl w ty sz M)) := by
  unfold FrameBlind
  intro a U g mk q
  obtain ⟨q0, q1, qP, qK, qD⟩ := q
  exact ⟨q0, q1, qP, va_K.moved (u := U) (U := U.calling g mk a) (Vm.Alike.refl U.vm) qK, qD⟩
theorem pW_of {σ : Type} {D : va_G} {cl : List vw_C} {w : σ → va_W} {ty : List (ClassId × FieldType)} {M : σ} {A : Nat → Prop} {s : State} {H : Heap} {av : List Value} (hK : va_K D cl ty s) (hP : va_P D cl (w M) H) (hD : va_D A (w M)) : ∀ U : State, U.heap = H → s.WarmedH U.vm → va_Pc av (pW D cl w ty H.size M) av.toArray U :=
  fun U hU hW => ⟨rfl, by rw [hU], by rw [hU]; exact hP, va_K.moved hW.alike hK, hD.weaken (fun _ _ _ _ => trivial)⟩
section CR
variable {p : Program} {l : Launch} {e : Env} {R : Room} {s : State} {m : MethodId} {args : Array Value} {below : List Frame} {meth : Method} {c : Code} {H : Heap} {locs : List Loc} {cells slots : Nat} {Q : State → Prop}
variable {mc ms : Nat} {A : Nat → Prop} {a : Array Value} {pc : Nat} {ls : Array Slot} {st0 rest : List Value} {D : va_G} {cl : List vw_C} {ty : List (ClassId × FieldType)}
theorem cr_free {ws pre suf : va_W} (hD : va_D A (pre ++ (ws ++ suf))) (hS : va_S A s.heap H locs) (hA : ∀ q, s.heap.size ≤ q → A q) : ∀ q, va_A ws H.size q → A q := by
  intro q h
  rcases h with ⟨k, e, h⟩ | h
  · exact (wD_l (wD_r hD)).2 k (q, e) h
  · exact hA q (Nat.le_trans hS.1 h)
theorem cr_keep {ws b : va_W} {H1 : Heap} (hP : va_P D cl b H) (hx : ∀ (i j : Nat) (p q : Nat × va_E), b[i]? = some p → ws[j]? = some q → p.1 ≠ q.1) (hk : ∀ q : Nat, q < H.size → ¬ va_A ws H.size q → H1[q]? = H[q]?) : va_P D cl b H1 := by
  refine va_P.kept hP (fun k q hq => hk q.1 (hP k q hq).lt ?_)
  rintro (⟨k', e', h⟩ | h)
  · exact hx k k' q (q.1, e') hq h rfl
  · exact absurd (hP k q hq).lt (Nat.not_lt.mpr h)
theorem cr_join {w1 w2 pre suf : va_W} {H1 : Heap} (ha : wAd w1 = wAd w2) (hP : va_P D cl (pre ++ (w1 ++ suf)) H) (hD : va_D A (pre ++ (w1 ++ suf))) (hk : ∀ q : Nat, q < H.size → ¬ va_A w1 H.size q → H1[q]? = H[q]?) (hP1 : va_P D cl w2 H1) : va_P D cl (pre ++ (w2 ++ suf)) H1 ∧ va_D A (pre ++ (w2 ++ suf)) := by
  refine ⟨(cr_keep (wP_l hP) (fun i j p q hi hj => ?_) hk).app (hP1.app (cr_keep (wP_r (wP_r hP)) (fun i j p q hi hj => ?_) hk)), wAd_D (wAd_app rfl (wAd_app ha rfl)) hD⟩
  · exact wD_x hD i j p q hi (by rw [List.getElem?_append_left (List.getElem?_eq_some_iff.mp hj).1]; exact hj)
  · exact fun e => wD_x (wD_r hD) j i q p hj hi e.symm
variable {σ : Type} {w : σ → va_W} {M : σ}
theorem cr_i {pre suf : va_W} {post : Int32 → σ → Prop} (hsame : ∀ M M', wAd (w M) = wAd (w M')) (hr : va_Run p l e R s m args below meth c H locs cells slots mc ms (F0 m pc ls st0) rest (va_Qi post (bW D cl w ty (va_A (w M) H.size)) (va_A (w M) H.size) a) (va_A (w M) H.size)) (hP : va_P D cl (pre ++ (w M ++ suf)) H) (hD : va_D A (pre ++ (w M ++ suf))) (hS : va_S A s.heap H locs) (hA : ∀ q, s.heap.size ≤ q → A q)
    (kk : ∀ (r : Int32) (M' : σ) (H1 : Heap) (locs1 : List Loc), post r M' → va_P D cl (pre ++ (w M' ++ suf)) H1 → va_D A (pre ++ (w M' ++ suf)) → va_S A s.heap H1 locs1 → W p l e R s m args below meth c H1 locs1 (cells + mc) (slots + ms) Q (F0 m (pc + 3) ls (.int r :: rest))) : W p l e R s m args below meth c H locs cells slots Q (F0 m pc ls st0) := by
  have hFc := cr_free hD hS hA
  refine va_calli hr hS (fun q _ h => hFc q h) hFc (fun r u t H1 locs1 ht hvm hw hB hz1 hk1 hS => ?_)
  obtain ⟨hP1, hK1, hD1⟩ := hB
  rw [ht] at hP1
  obtain ⟨hP2, hD2⟩ := cr_join (hsame M u) hP hD hk1 hP1
  exact kk r u H1 locs1 hw hP2 hD2 hS
theorem cr_v {pre suf : va_W} {post : σ → Prop} (hsame : ∀ M M', wAd (w M) = wAd (w M')) (hr : va_Run p l e R s m args below meth c H locs cells slots mc ms (F0 m pc ls st0) rest (va_Qv post (bW D cl w ty (va_A (w M) H.size)) (va_A (w M) H.size) a) (va_A (w M) H.size)) (hP : va_P D cl (pre ++ (w M ++ suf)) H) (hD : va_D A (pre ++ (w M ++ suf))) (hS : va_S A s.heap H locs) (hA : ∀ q, s.heap.size ≤ q → A q)
    (kk : ∀ (M' : σ) (H1 : Heap) (locs1 : List Loc), post M' → va_P D cl (pre ++ (w M' ++ suf)) H1 → va_D A (pre ++ (w M' ++ suf)) → va_S A s.heap H1 locs1 → W p l e R s m args below meth c H1 locs1 (cells + mc) (slots + ms) Q (F0 m (pc + 3) ls rest)) : W p l e R s m args below meth c H locs cells slots Q (F0 m pc ls st0) := by
  have hFc := cr_free hD hS hA
  refine va_callv hr hS (fun q _ h => hFc q h) hFc (fun u t H1 locs1 ht hvm hw hB hz1 hk1 hS => ?_)
  obtain ⟨hP1, hK1, hD1⟩ := hB
  rw [ht] at hP1
  obtain ⟨hP2, hD2⟩ := cr_join (hsame M u) hP hD hk1 hP1
  exact kk u H1 locs1 hw hP2 hD2 hS
theorem cn_i {post : Int32 → σ → Prop} (hsame : ∀ M M', wAd (w M) = wAd (w M')) (hr : va_Run p l e R s m args below meth c H locs cells slots mc ms (F0 m pc ls st0) rest (va_Qi post (bW D cl w ty (va_A (w M) H.size)) (va_A (w M) H.size) a) (va_A (w M) H.size)) (hD : va_D A (w M)) (hS : va_S A s.heap H locs) (hA : ∀ q, s.heap.size ≤ q → A q)
    (kk : ∀ (r : Int32) (M' : σ) (H1 : Heap) (locs1 : List Loc), post r M' → va_P D cl (w M') H1 → va_D A (w M') → va_S A s.heap H1 locs1 → W p l e R s m args below meth c H1 locs1 (cells + mc) (slots + ms) Q (F0 m (pc + 3) ls (.int r :: rest))) : W p l e R s m args below meth c H locs cells slots Q (F0 m pc ls st0) := by
  have hFc : ∀ q, va_A (w M) H.size q → A q := cr_free (pre := []) (suf := []) (by rw [List.append_nil]; exact hD) hS hA
  refine va_calli hr hS (fun q _ h => hFc q h) hFc (fun r u t H1 locs1 ht hvm hw hB hz1 hk1 hS => ?_)
  obtain ⟨hP1, hK1, hD1⟩ := hB
  rw [ht] at hP1
  exact kk r u H1 locs1 hw hP1 (wAd_D (hsame M u) hD) hS
theorem cn_v {post : σ → Prop} (hsame : ∀ M M', wAd (w M) = wAd (w M')) (hr : va_Run p l e R s m args below meth c H locs cells slots mc ms (F0 m pc ls st0) rest (va_Qv post (bW D cl w ty (va_A (w M) H.size)) (va_A (w M) H.size) a) (va_A (w M) H.size)) (hD : va_D A (w M)) (hS : va_S A s.heap H locs) (hA : ∀ q, s.heap.size ≤ q → A q)
    (kk : ∀ (M' : σ) (H1 : Heap) (locs1 : List Loc), post M' → va_P D cl (w M') H1 → va_D A (w M') → va_S A s.heap H1 locs1 → W p l e R s m args below meth c H1 locs1 (cells + mc) (slots + ms) Q (F0 m (pc + 3) ls rest)) : W p l e R s m args below meth c H locs cells slots Q (F0 m pc ls st0) := by
  have hFc : ∀ q, va_A (w M) H.size q → A q := cr_free (pre := []) (suf := []) (by rw [List.append_nil]; exact hD) hS hA
  refine va_callv hr hS (fun q _ h => hFc q h) hFc (fun u t H1 locs1 ht hvm hw hB hz1 hk1 hS => ?_)
  obtain ⟨hP1, hK1, hD1⟩ := hB
  rw [ht] at hP1
  exact kk u H1 locs1 hw hP1 (wAd_D (hsame M u) hD) hS
/-- an array's element, read and written; a number's field, written -/
theorem ro_i {cc : ByteArray} {qa : Nat} {cA : ClassId} {n : Nat} {f : Nat → Int32} (hexec : p.tables.exec = Jvm.exec) (hb : c.code = cc) (hK : va_K D cl ty s) (hP : va_P D cl (w M) H) (q0 t0 : Nat) (ha : (w M)[q0]? = some (qa, .inl (cA, n, .inl f))) (ht : ty[t0]? = some (cA, .int)) {i : Int32} (hin : vp_in i n) (hdg : decode cc pc = .ok (.iaload, 1))
    (kk : ∀ y : Int32, y = f i.toNatClampNeg → W p l e R s m args below meth c H locs cells slots Q (F0 m (pc + 1) ls (.int y :: rest))) : W p l e R s m args below meth c H locs cells slots Q (F0 m pc ls (.int i :: .ref qa :: rest)) :=
  va_iald hexec hb hK hP q0 t0 ha ht hin hdg (kk _ rfl)
theorem ro_z {cc : ByteArray} {qa : Nat} {cA : ClassId} {n : Nat} {f : Nat → Int32} (hexec : p.tables.exec = Jvm.exec) (hb : c.code = cc) (hK : va_K D cl ty s) (hP : va_P D cl (w M) H) (q0 t0 : Nat) (ha : (w M)[q0]? = some (qa, .inl (cA, n, .inl f))) (ht : ty[t0]? = some (cA, .boolean)) {i : Int32} (hin : vp_in i n) (hdg : decode cc pc = .ok (.baload, 1))
    (kk : ∀ y : Int32, y = f i.toNatClampNeg → W p l e R s m args below meth c H locs cells slots Q (F0 m (pc + 1) ls (.int y :: rest))) : W p l e R s m args below meth c H locs cells slots Q (F0 m pc ls (.int i :: .ref qa :: rest)) :=
  va_zald hexec hb hK hP q0 t0 ha ht hin hdg (kk _ rfl)
theorem wo_i {cc : ByteArray} {qa : Nat} {cA : ClassId} {n : Nat} {f : Nat → Int32} {g : (Nat → Int32) → σ} (hexec : p.tables.exec = Jvm.exec) (hb : c.code = cc) (hK : va_K D cl ty s) (hP : va_P D cl (w M) H) (hD : va_D A (w M)) (hS : va_S A s.heap H locs) (q0 t0 : Nat) (ha : (w M)[q0]? = some (qa, .inl (cA, n, .inl f))) (hset : ∀ f' : Nat → Int32, (w M).set q0 (qa, .inl (cA, n, .inl f')) = w (g f')) (ht : ty[t0]? = some (cA, .int)) {i x : Int32} (hin : vp_in i n) (hdg : decode cc pc = .ok (.iastore, 1))
    (kk : ∀ (M' : σ) (H1 : Heap) (locs1 : List Loc), M' = g (upd f i.toNatClampNeg x) → va_P D cl (w M') H1 → va_D A (w M') → va_S A s.heap H1 locs1 → W p l e R s m args below meth c H1 locs1 cells slots Q (F0 m (pc + 1) ls rest)) : W p l e R s m args below meth c H locs cells slots Q (F0 m pc ls (.int x :: .int i :: .ref qa :: rest)) := by
  refine va_iast hexec hb hK hP hD hS q0 t0 ha ht hin hdg (fun H1 locs1 hP hD hS => ?_)
  rw [hset] at hP hD
  exact kk _ H1 locs1 rfl hP hD hS
theorem wo_z {cc : ByteArray} {qa : Nat} {cA : ClassId} {n : Nat} {f : Nat → Int32} {g : (Nat → Int32) → σ} (hexec : p.tables.exec = Jvm.exec) (hb : c.code = cc) (hK : va_K D cl ty s) (hP : va_P D cl (w M) H) (hD : va_D A (w M)) (hS : va_S A s.heap H locs) (q0 t0 : Nat) (ha : (w M)[q0]? = some (qa, .inl (cA, n, .inl f))) (hset : ∀ f' : Nat → Int32, (w M).set q0 (qa, .inl (cA, n, .inl f')) = w (g f')) (ht : ty[t0]? = some (cA, .boolean)) {i x : Int32} (hx : vp_nar .boolean x = x) (hin : vp_in i n) (hdg : decode cc pc = .ok (.bastore, 1))
    (kk : ∀ (M' : σ) (H1 : Heap) (locs1 : List Loc), M' = g (upd f i.toNatClampNeg x) → va_P D cl (w M') H1 → va_D A (w M') → va_S A s.heap H1 locs1 → W p l e R s m args below meth c H1 locs1 cells slots Q (F0 m (pc + 1) ls rest)) : W p l e R s m args below meth c H locs cells slots Q (F0 m pc ls (.int x :: .int i :: .ref qa :: rest)) := by
  refine va_zast hexec hb hK hP hD hS q0 t0 ha ht hin hdg (fun H1 locs1 hP hD hS => ?_)
  rw [hx, hset] at hP hD
  exact kk _ H1 locs1 rfl hP hD hS
end CR
