/-! methods that may throw, over such worlds -/
def exN : Nat → String
  | 0 => "java/lang/IllegalArgumentException"
  | 1 => "java/lang/IndexOutOfBoundsException"
  | 2 => "java/lang/IllegalStateException"
  | _ => "java/lang/UnsupportedOperationException"
def zU (A : Nat → Prop) (U : State) (H : Heap) : Prop := vx_Zq Bundle.tN "UNASSIGNED_STACK" Bundle.steD A U H ∧ vx_Zq Bundle.tN "SUPPRESSED_SENTINEL" Bundle.listD A U H
theorem zU.go {A B : Nat → Prop} {s U : State} {H : Heap} (h : zU A s s.heap) (hq : ∀ a : Nat, a < s.heap.size → ¬ A a → H[a]? = s.heap[a]?) (hvm : s.vm.Alike U.vm) (hAB : ∀ q, B q → A q) : zU B U H :=
  ⟨((h.1.kept hq).moved hvm).narrow hAB, ((h.2.kept hq).moved hvm).narrow hAB⟩
theorem zU.moved {A : Nat → Prop} {s U : State} {H : Heap} (h : zU A s H) (hvm : s.vm.Alike U.vm) : zU A U H := ⟨h.1.moved hvm, h.2.moved hvm⟩
/-- facts of String constants: kept where the tables are -/
def spS (sp : State → Prop) : Prop := (∀ u U : State, U.vm = u.vm → sp u → sp U) ∧ ∀ s U : State, s.WarmedH U.vm → sp s → sp U
def pWx {σ : Type} (D : va_G) (cl : List vw_C) (w : σ → va_W) (ty : List (ClassId × FieldType)) (sp : State → Prop) (sz : Nat) (M : σ) : State → Prop := fun U => U.heap.size = sz ∧ va_P D cl (w M) U.heap ∧ va_K D cl ty U ∧ va_D (fun _ => True) (w M) ∧ zU (va_A (w M) sz) U U.heap ∧ sp U
def xW {σ : Type} (D : va_G) (cl : List vw_C) (w : σ → va_W) (ty : List (ClassId × FieldType)) (A : Nat → Prop) : String → Nat × σ → State → Prop := fun E u t => E = exN u.1 ∧ va_P D cl (w u.2) t.heap ∧ va_K D cl ty t ∧ va_D A (w u.2)
theorem pWx_blind {σ : Type} {D : va_G} {cl : List vw_C} {w : σ → va_W} {ty : List (ClassId × FieldType)} {sp : State → Prop} (hsp : spS sp) {sz : Nat} {M : σ} {av : List Value} : FrameBlind (va_Pc av (pWx D cl w ty sp sz M)) := by
  unfold FrameBlind
  intro a U g mk q
  obtain ⟨q0, q1, qP, qK, qD, qZ, qs⟩ := q
  exact ⟨q0, q1, qP, va_K.moved (u := U) (U := U.calling g mk a) (Vm.Alike.refl U.vm) qK, qD, zU.moved (s := U) (U := U.calling g mk a) qZ (Vm.Alike.refl U.vm), hsp.1 U (U.calling g mk a) rfl qs⟩
theorem pWx_of {σ : Type} {D : va_G} {cl : List vw_C} {w : σ → va_W} {ty : List (ClassId × FieldType)} {sp : State → Prop} {pre suf : va_W} (hsp : spS sp) {M : σ} {A : Nat → Prop} {s : State} {H : Heap} {locs : List Loc} {av : List Value} (hK : va_K D cl ty s) (hP : va_P D cl (w M) H) (hD : va_D A (pre ++ (w M ++ suf))) (hS : va_S A s.heap H locs) (hA : ∀ q, s.heap.size ≤ q → A q) (hZ : zU A s s.heap) (hs : sp s) : ∀ U : State, U.heap = H → s.WarmedH U.vm → va_Pc av (pWx D cl w ty sp H.size M) av.toArray U :=
  fun U hU hW => ⟨rfl, by rw [hU], by rw [hU]; exact hP, va_K.moved hW.alike hK, (wD_l (wD_r hD)).weaken (fun _ _ _ _ => trivial), by rw [hU]; exact hZ.go hS.2.1 hW.alike (cr_free hD hS hA), hsp.2 s U hW hs⟩
theorem pWx_ofn {σ : Type} {D : va_G} {cl : List vw_C} {w : σ → va_W} {ty : List (ClassId × FieldType)} {sp : State → Prop} (hsp : spS sp) {M : σ} {A : Nat → Prop} {s : State} {H : Heap} {locs : List Loc} {av : List Value} (hK : va_K D cl ty s) (hP : va_P D cl (w M) H) (hD : va_D A (w M)) (hS : va_S A s.heap H locs) (hA : ∀ q, s.heap.size ≤ q → A q) (hZ : zU A s s.heap) (hs : sp s) : ∀ U : State, U.heap = H → s.WarmedH U.vm → va_Pc av (pWx D cl w ty sp H.size M) av.toArray U :=
  pWx_of (pre := []) (suf := []) hsp hK hP (by rw [List.append_nil]; exact hD) hS hA hZ hs
section CX
variable {p : Program} {l : Launch} {e : Env} {R : Room} {s : State} {m : MethodId} {args : Array Value} {below : List Frame} {meth : Method} {c : Code} {H : Heap} {locs : List Loc} {cells slots : Nat} {Q : State → Prop}
variable {mc ms : Nat} {A : Nat → Prop} {a : Array Value} {pc : Nat} {ls : Array Slot} {st0 rest : List Value} {D : va_G} {cl : List vw_C} {ty : List (ClassId × FieldType)} {σ : Type} {w : σ → va_W} {M : σ}
theorem th_x {px : Nat → σ → Prop} {k : Nat} (hP : va_P D cl (w M) H) (hK : va_K D cl ty s) (hD : va_D A (w M)) (hS : va_S A s.heap H locs) (hw : px k M) : ∀ t : State, s.vm.Alike t.vm → H.size ≤ t.heap.size → (∀ q : Nat, q < H.size → t.heap[q]? = H[q]?) → vx_X (fun u : Nat × σ => px u.1 u.2) (xW D cl w ty A) A (exN k) s t := by
  intro t ha hsz hq
  refine ⟨(k, M), hw, ⟨rfl, va_P.kept hP (fun j x hj => hq x.1 (hP j x hj).lt), va_K.moved ha hK, hD⟩, ?_⟩
  exact ⟨Nat.le_trans hS.1 hsz, fun q h1 h2 => (hq q (Nat.lt_of_lt_of_le h1 hS.1)).trans (hS.2.1 q h1 h2)⟩
theorem cx_i {post : Int32 → σ → Prop} {px : Nat → σ → Prop} (hsame : ∀ M M', wAd (w M) = wAd (w M')) (hr : vx_Run p l e R s m args below meth c H locs cells slots mc ms (F0 m pc ls st0) rest (va_Qi post (bW D cl w ty (va_A (w M) H.size)) (va_A (w M) H.size) a) (vx_X (fun u : Nat × σ => px u.1 u.2) (xW D cl w ty (va_A (w M) H.size)) (va_A (w M) H.size)) (va_A (w M) H.size)) (hD : va_D A (w M)) (hS : va_S A s.heap H locs) (hA : ∀ q, s.heap.size ≤ q → A q)
    (kx : ∀ (k : Nat) (E : String) (ce : Cell) (q9 : Addr) (M' : σ) (H1 : Heap) (locs1 : List Loc), E = exN k → px k M' → va_P D cl (w M') H1 → va_D A (w M') → va_S A s.heap H1 locs1 → H1[q9]? = some ce → ce.vm = .none → s.vm.findClass E = some ce.cls → vx_W p l e R s m args below meth c H1 locs1 (cells + mc) (slots + ms) Q (F0 m pc ls rest) q9)
    (kk : ∀ (r : Int32) (M' : σ) (H1 : Heap) (locs1 : List Loc), post r M' → va_P D cl (w M') H1 → va_D A (w M') → va_S A s.heap H1 locs1 → W p l e R s m args below meth c H1 locs1 (cells + mc) (slots + ms) Q (F0 m (pc + 3) ls (.int r :: rest))) : W p l e R s m args below meth c H locs cells slots Q (F0 m pc ls st0) := by
  have hFc : ∀ q, va_A (w M) H.size q → A q := cr_free (pre := []) (suf := []) (by rw [List.append_nil]; exact hD) hS hA
  refine vx_calli hr hS (fun q _ h => hFc q h) hFc (fun q _ h => hFc q h) (fun E ce q9 u t H1 locs1 ht hvm hw hB hz1 hk1 hS hce hcv hcl => ?_) (fun r u t H1 locs1 ht hvm hw hB hz1 hk1 hS => ?_)
  · obtain ⟨hE, hP1, hK1, hD1⟩ := hB
    rw [ht] at hP1
    exact kx u.1 E ce q9 u.2 H1 locs1 hE hw hP1 (wAd_D (hsame M u.2) hD) hS hce hcv hcl
  · obtain ⟨hP1, hK1, hD1⟩ := hB
    rw [ht] at hP1
    exact kk r u H1 locs1 hw hP1 (wAd_D (hsame M u) hD) hS
theorem cx_v {post : σ → Prop} {px : Nat → σ → Prop} (hsame : ∀ M M', wAd (w M) = wAd (w M')) (hr : vx_Run p l e R s m args below meth c H locs cells slots mc ms (F0 m pc ls st0) rest (va_Qv post (bW D cl w ty (va_A (w M) H.size)) (va_A (w M) H.size) a) (vx_X (fun u : Nat × σ => px u.1 u.2) (xW D cl w ty (va_A (w M) H.size)) (va_A (w M) H.size)) (va_A (w M) H.size)) (hD : va_D A (w M)) (hS : va_S A s.heap H locs) (hA : ∀ q, s.heap.size ≤ q → A q)
    (kx : ∀ (k : Nat) (E : String) (ce : Cell) (q9 : Addr) (M' : σ) (H1 : Heap) (locs1 : List Loc), E = exN k → px k M' → va_P D cl (w M') H1 → va_D A (w M') → va_S A s.heap H1 locs1 → H1[q9]? = some ce → ce.vm = .none → s.vm.findClass E = some ce.cls → vx_W p l e R s m args below meth c H1 locs1 (cells + mc) (slots + ms) Q (F0 m pc ls rest) q9)
    (kk : ∀ (M' : σ) (H1 : Heap) (locs1 : List Loc), post M' → va_P D cl (w M') H1 → va_D A (w M') → va_S A s.heap H1 locs1 → W p l e R s m args below meth c H1 locs1 (cells + mc) (slots + ms) Q (F0 m (pc + 3) ls rest)) : W p l e R s m args below meth c H locs cells slots Q (F0 m pc ls st0) := by
  have hFc : ∀ q, va_A (w M) H.size q → A q := cr_free (pre := []) (suf := []) (by rw [List.append_nil]; exact hD) hS hA
  refine vx_callv hr hS (fun q _ h => hFc q h) hFc (fun q _ h => hFc q h) (fun E ce q9 u t H1 locs1 ht hvm hw hB hz1 hk1 hS hce hcv hcl => ?_) (fun u t H1 locs1 ht hvm hw hB hz1 hk1 hS => ?_)
  · obtain ⟨hE, hP1, hK1, hD1⟩ := hB
    rw [ht] at hP1
    exact kx u.1 E ce q9 u.2 H1 locs1 hE hw hP1 (wAd_D (hsame M u.2) hD) hS hce hcv hcl
  · obtain ⟨hP1, hK1, hD1⟩ := hB
    rw [ht] at hP1
    exact kk u H1 locs1 hw hP1 (wAd_D (hsame M u) hD) hS
/-- the same beside cells that are none of the callee's -/
theorem cy_i {pre suf : va_W} {post : Int32 → σ → Prop} {px : Nat → σ → Prop} (hsame : ∀ M M', wAd (w M) = wAd (w M')) (hr : vx_Run p l e R s m args below meth c H locs cells slots mc ms (F0 m pc ls st0) rest (va_Qi post (bW D cl w ty (va_A (w M) H.size)) (va_A (w M) H.size) a) (vx_X (fun u : Nat × σ => px u.1 u.2) (xW D cl w ty (va_A (w M) H.size)) (va_A (w M) H.size)) (va_A (w M) H.size)) (hP : va_P D cl (pre ++ (w M ++ suf)) H) (hD : va_D A (pre ++ (w M ++ suf))) (hS : va_S A s.heap H locs) (hA : ∀ q, s.heap.size ≤ q → A q)
    (kx : ∀ (k : Nat) (E : String) (ce : Cell) (q9 : Addr) (M' : σ) (H1 : Heap) (locs1 : List Loc), E = exN k → px k M' → va_P D cl (pre ++ (w M' ++ suf)) H1 → va_D A (pre ++ (w M' ++ suf)) → va_S A s.heap H1 locs1 → H1[q9]? = some ce → ce.vm = .none → s.vm.findClass E = some ce.cls → vx_W p l e R s m args below meth c H1 locs1 (cells + mc) (slots + ms) Q (F0 m pc ls rest) q9)
    (kk : ∀ (r : Int32) (M' : σ) (H1 : Heap) (locs1 : List Loc), post r M' → va_P D cl (pre ++ (w M' ++ suf)) H1 → va_D A (pre ++ (w M' ++ suf)) → va_S A s.heap H1 locs1 → W p l e R s m args below meth c H1 locs1 (cells + mc) (slots + ms) Q (F0 m (pc + 3) ls (.int r :: rest))) : W p l e R s m args below meth c H locs cells slots Q (F0 m pc ls st0) := by
  have hFc := cr_free hD hS hA
  refine vx_calli hr hS (fun q _ h => hFc q h) hFc (fun q _ h => hFc q h) (fun E ce q9 u t H1 locs1 ht hvm hw hB hz1 hk1 hS hce hcv hcl => ?_) (fun r u t H1 locs1 ht hvm hw hB hz1 hk1 hS => ?_)
  · obtain ⟨hE, hP1, hK1, hD1⟩ := hB
    rw [ht] at hP1
    obtain ⟨hP2, hD2⟩ := cr_join (hsame M u.2) hP hD hk1 hP1
    exact kx u.1 E ce q9 u.2 H1 locs1 hE hw hP2 hD2 hS hce hcv hcl
  · obtain ⟨hP1, hK1, hD1⟩ := hB
    rw [ht] at hP1
    obtain ⟨hP2, hD2⟩ := cr_join (hsame M u) hP hD hk1 hP1
    exact kk r u H1 locs1 hw hP2 hD2 hS
theorem cy_v {pre suf : va_W} {post : σ → Prop} {px : Nat → σ → Prop} (hsame : ∀ M M', wAd (w M) = wAd (w M')) (hr : vx_Run p l e R s m args below meth c H locs cells slots mc ms (F0 m pc ls st0) rest (va_Qv post (bW D cl w ty (va_A (w M) H.size)) (va_A (w M) H.size) a) (vx_X (fun u : Nat × σ => px u.1 u.2) (xW D cl w ty (va_A (w M) H.size)) (va_A (w M) H.size)) (va_A (w M) H.size)) (hP : va_P D cl (pre ++ (w M ++ suf)) H) (hD : va_D A (pre ++ (w M ++ suf))) (hS : va_S A s.heap H locs) (hA : ∀ q, s.heap.size ≤ q → A q)
    (kx : ∀ (k : Nat) (E : String) (ce : Cell) (q9 : Addr) (M' : σ) (H1 : Heap) (locs1 : List Loc), E = exN k → px k M' → va_P D cl (pre ++ (w M' ++ suf)) H1 → va_D A (pre ++ (w M' ++ suf)) → va_S A s.heap H1 locs1 → H1[q9]? = some ce → ce.vm = .none → s.vm.findClass E = some ce.cls → vx_W p l e R s m args below meth c H1 locs1 (cells + mc) (slots + ms) Q (F0 m pc ls rest) q9)
    (kk : ∀ (M' : σ) (H1 : Heap) (locs1 : List Loc), post M' → va_P D cl (pre ++ (w M' ++ suf)) H1 → va_D A (pre ++ (w M' ++ suf)) → va_S A s.heap H1 locs1 → W p l e R s m args below meth c H1 locs1 (cells + mc) (slots + ms) Q (F0 m (pc + 3) ls rest)) : W p l e R s m args below meth c H locs cells slots Q (F0 m pc ls st0) := by
  have hFc := cr_free hD hS hA
  refine vx_callv hr hS (fun q _ h => hFc q h) hFc (fun q _ h => hFc q h) (fun E ce q9 u t H1 locs1 ht hvm hw hB hz1 hk1 hS hce hcv hcl => ?_) (fun u t H1 locs1 ht hvm hw hB hz1 hk1 hS => ?_)
  · obtain ⟨hE, hP1, hK1, hD1⟩ := hB
    rw [ht] at hP1
    obtain ⟨hP2, hD2⟩ := cr_join (hsame M u.2) hP hD hk1 hP1
    exact kx u.1 E ce q9 u.2 H1 locs1 hE hw hP2 hD2 hS hce hcv hcl
  · obtain ⟨hP1, hK1, hD1⟩ := hB
    rw [ht] at hP1
    obtain ⟨hP2, hD2⟩ := cr_join (hsame M u) hP hD hk1 hP1
    exact kk u H1 locs1 hw hP2 hD2 hS
end CX
