theorem tlM_o {M : Mm} {r j : Nat} {a b x d : Int32} (h : j ≠ 10 ∧ j ≠ 11 ∧ j ≠ 12 ∧ j ≠ 13 ∧ j ≠ 23) : tlM M r a b x d j = M j := by
  unfold tlM
  by_cases hr : r < 100
  · rw [if_pos hr, stM_n _ _ h.2.2.2.2, stM_n _ _ h.2.2.2.1, stM_n _ _ h.2.2.1, stM_n _ _ h.2.1, stM_n _ _ h.1]
  · rw [if_neg hr]
/-- told, its fault, its locks, its calls without a unit -/
def faA (M : Mm) (t : Nat) (f : Int32) (r : Nat) : Mm := stM (tlM M r (nI t) f (M 15 t) (M 24 0)) 16 (upd ((tlM M r (nI t) f (M 15 t) (M 24 0)) 16) t f)
def faB (M : Mm) (t : Nat) (f : Int32) (r c : Nat) : Mm := drM (frM (faA M t f r) t) t c
theorem faA_o {M : Mm} {t r j : Nat} {f : Int32} (h : (j ≠ 10 ∧ j ≠ 11 ∧ j ≠ 12 ∧ j ≠ 13 ∧ j ≠ 23) ∧ j ≠ 16) : faA M t f r j = M j := by
  unfold faA
  rw [stM_n _ _ h.2, tlM_o h.1]
theorem faB_o {M : Mm} {t r c j : Nat} {f : Int32} (h : (j ≠ 10 ∧ j ≠ 11 ∧ j ≠ 12 ∧ j ≠ 13 ∧ j ≠ 23) ∧ j ≠ 16) (h4 : j ≠ 4) (h7 : j ≠ 7) : faB M t f r c j = M j := by
  unfold faB drM frM
  rw [stM_n _ _ h7, stM_n _ _ h4, faA_o h]
def fnX (M : Mm) (t : Nat) : Int32 := if M 3 t = -1 then M 2 t else M 3 t
def faX (M : Mm) (t : Nat) (f : Int32) (r c : Nat) : Mm := if fnX (faB M t f r c) t ≤ faB M t f r c 15 t then frM (stM (faB M t f r c) 14 (upd ((faB M t f r c) 14) t 1)) t else stM (faB M t f r c) 15 (upd ((faB M t f r c) 15) t (fnX (faB M t f r c) t))
def fnN (M : Mm) (t : Nat) : Int32 := if M 2 t ≤ M 3 t then M 2 t else M 3 t
def faN (M : Mm) (t : Nat) (f : Int32) (r c : Nat) : Mm := if rsN (faB M t f r c) t 3 t ≤ rsN (faB M t f r c) t 15 t then stM (rsN (faB M t f r c) t) 14 (upd ((rsN (faB M t f r c) t) 14) t 1) else stM (rsN (faB M t f r c) t) 15 (upd ((rsN (faB M t f r c) t) 15) t (fnN (rsN (faB M t f r c) t) t))
theorem sx_actsOf {t : Nat} {M : Mm} {post : Int32 → Mm → Prop} (ht : t < 8) (h : post (M 2 t) M) : wpXp_actsOf (nI t) M post := by
  refine ⟨inI ht (by decide), ?_⟩
  rintro y rfl
  rw [clI (by omega)]
  exact h
theorem sx_finishOf {t : Nat} {M : Mm} {post : Int32 → Mm → Prop} (ht : t < 8) (h : post (fnX M t) M) : wpXp_finishOf (nI t) M post := by
  unfold fnX at h
  refine ⟨inI ht (by decide), ?_⟩
  rintro y rfl
  rw [clI (by omega)]
  refine ⟨fun q => ⟨inI ht (by decide), ?_⟩, fun q => ⟨inI ht (by decide), ?_⟩⟩
  · rintro y rfl
    rw [if_pos q] at h
    exact h
  · rintro y rfl
    rw [if_neg q] at h
    exact h
theorem sx_end {t : Nat} {M : Mm} {post : Mm → Prop} (ht : t < 8) (h : post (frM (stM M 14 (upd (M 14) t 1)) t)) : wpXs_end (nI t) M post := by
  refine ⟨inI ht (by decide), ?_⟩
  rintro M1 rfl
  rw [clI (by omega)]
  exact sx_freeAllOf h
theorem sm_end {t : Nat} {M : Mm} {post : Mm → Prop} (ht : t < 8) (h : post (frM (stM M 14 (upd (M 14) t 1)) t)) : wpXm_end (nI t) M post := by
  refine ⟨inI ht (by decide), ?_⟩
  rintro M1 rfl
  rw [clI (by omega)]
  exact sm_free h
theorem sx_fault {t r c : Nat} {f : Int32} {M : Mm} {post : Mm → Prop} (ht : t < 8) (hr : M 23 0 = nI r) (hl : r ≤ 100) (hc : nC M c) (h : post (faX M t f r c)) : wpXs_fault (nI t) f M post := by
  refine ⟨inI ht (by decide), ?_⟩
  rintro y rfl y rfl
  rw [clI (by omega)]
  refine sx_tell hr hl ⟨inI ht (by decide), ?_⟩
  rintro M1 rfl
  refine sx_freeAllOf (sx_dropUnsentOf (c := c) ⟨?_, hc.2⟩ (sx_finishOf ht ⟨inI ht (by decide), ?_⟩))
  · show faA M t f r 22 0 = nI c
    rw [faA_o (by decide)]
    exact hc.1
  · rintro y rfl
    have h : post (faX M t f r c) := h
    unfold faX at h
    refine ⟨fun q => ?_, fun q => ⟨inI ht (by decide), ?_⟩⟩
    · rw [if_pos (show fnX (faB M t f r c) t ≤ faB M t f r c 15 t from q)] at h
      exact sx_end ht h
    · rintro M1 rfl
      rw [if_neg (show ¬ fnX (faB M t f r c) t ≤ faB M t f r c 15 t from q)] at h
      exact h
theorem sm_fail {t r c : Nat} {f : Int32} {M : Mm} {post : Int32 → Mm → Prop} (ht : t < 8) (hr : M 23 0 = nI r) (hl : r ≤ 100) (hc : nC M c) (hd : ∀ i, i < c → M 8 i = -1 ∨ 0 ≤ M 8 i) (h : post 3 (faN M t f r c)) : wpXm_fail (nI t) f M post := by
  refine sm_tell ht hr hl ⟨inI ht (by decide), ?_⟩
  rintro M1 rfl
  rw [clI (by omega)]
  refine sm_free (sm_drop (c := c) ⟨?_, hc.2⟩ (fun i hi => ?_) ⟨inI ht (by decide), ?_⟩)
  · show faA M t f r 22 0 = nI c
    rw [faA_o (by decide)]
    exact hc.1
  · show faA M t f r 8 i = -1 ∨ 0 ≤ faA M t f r 8 i
    rw [faA_o (by decide)]
    exact hd i hi
  · rintro M1 rfl
    refine ⟨inI ht (by decide), ?_⟩
    rintro M1 rfl
    refine ⟨inI ht (by decide), ?_⟩
    rintro M1 rfl
    refine ⟨inI ht (by decide), ?_⟩
    rintro y rfl
    refine ⟨inI ht (by decide), ?_⟩
    rintro y rfl
    unfold faN at h
    refine ⟨fun q => ⟨inI ht (by decide), ?_⟩, fun q => ⟨inI ht (by decide), ?_⟩⟩
    · rintro M1 rfl
      rw [if_pos (show rsN (faB M t f r c) t 3 t ≤ rsN (faB M t f r c) t 15 t from q)] at h
      exact h
    · rw [if_neg (show ¬ rsN (faB M t f r c) t 3 t ≤ rsN (faB M t f r c) t 15 t from q)] at h
      unfold fnN at h
      rintro y rfl
      refine ⟨inI ht (by decide), ?_⟩
      rintro y rfl
      refine ⟨fun z => ⟨inI ht (by decide), ?_⟩, fun z => ⟨inI ht (by decide), ?_⟩⟩
      · rintro y rfl
        refine ⟨inI ht (by decide), ?_⟩
        rintro M1 rfl
        rw [if_pos (show rsN (faB M t f r c) t 2 t ≤ rsN (faB M t f r c) t 3 t from z)] at h
        exact h
      · rintro y rfl
        refine ⟨inI ht (by decide), ?_⟩
        rintro M1 rfl
        rw [if_neg (show ¬ rsN (faB M t f r c) t 2 t ≤ rsN (faB M t f r c) t 3 t from z)] at h
        exact h
theorem RR_faB {c t r : Nat} {f : Int32} {M N : Mm} (h : RR c M N) (ht : t < 8) : RR c (faB M t f r c) (faB N t f r c) := by
  unfold faB
  refine RR_dr (RR_fr ?_)
  unfold faA
  rw [h.same (c15 ht), h.same (c24 (c := c))]
  have q := RR_tl (r := r) (a := nI t) (b := f) (x := N 15 t) (d := N 24 0) h
  exact RR_16 q (updEq q) (fun _ _ => trivial)
theorem fault_rel {c t r : Nat} {f : Int32} {M N : Mm} (h : RR c M N) (ht : t < 8) (hz : M 17 t = 0 ∧ M 20 t = 0) (hlt : M 15 t < M 2 t) : RR c (faX M t f r c) (faN N t f r c) := by
  have hB := RR_faB (f := f) (r := r) h ht
  obtain ⟨k, a, hk, ha, ek, ea⟩ := h.at_ ht
  have hka : k < a := by rw [ek, ea, nI_ltE (by omega) (by omega)] at hlt; exact hlt
  have o : ∀ (P : Mm) (j : Nat), ((j ≠ 10 ∧ j ≠ 11 ∧ j ≠ 12 ∧ j ≠ 13 ∧ j ≠ 23) ∧ j ≠ 16) → j ≠ 4 → j ≠ 7 → faB P t f r c j = P j := fun P j a b d => faB_o a b d
  have hrs : RR c (faB M t f r c) (rsN (faB N t f r c) t) := RR_rs hB (fun _ => by rw [o M 17 (by decide) (by decide) (by decide), o M 20 (by decide) (by decide) (by decide)]; exact hz)
  have n3 : rsN (faB N t f r c) t 3 = N 3 := o N 3 (by decide) (by decide) (by decide)
  have n2 : rsN (faB N t f r c) t 2 = N 2 := o N 2 (by decide) (by decide) (by decide)
  have n15 : rsN (faB N t f r c) t 15 = N 15 := o N 15 (by decide) (by decide) (by decide)
  have m3 : faB M t f r c 3 = M 3 := o M 3 (by decide) (by decide) (by decide)
  have m2 : faB M t f r c 2 = M 2 := o M 2 (by decide) (by decide) (by decide)
  have m15 : faB M t f r c 15 = M 15 := o M 15 (by decide) (by decide) (by decide)
  have m17 : faB M t f r c 17 = M 17 := o M 17 (by decide) (by decide) (by decide)
  have eN2 : N 2 t = nI a := (h.same (c2 ht)).symm.trans ea
  have eN15 : N 15 t = nI k := (h.same (c15 ht)).symm.trans ek
  have go : ∀ (x : Int32) (f1 : Nat), x = nI f1 → f1 ≤ a → RR c (stM (faB M t f r c) 15 (upd ((faB M t f r c) 15) t x)) (stM (rsN (faB N t f r c) t) 15 (upd ((rsN (faB N t f r c) t) 15) t x)) := fun x f1 hx hf => RR_15 (k := f1) (a := a) hrs ht (fun _ => by rw [m17]; exact hz.1) hx (by rw [m2]; exact ea) hf ha
  have fin : RR c (frM (stM (faB M t f r c) 14 (upd ((faB M t f r c) 14) t 1)) t) (stM (rsN (faB N t f r c) t) 14 (upd ((rsN (faB N t f r c) t) 14) t 1)) := by
    have nl : ∀ u, u < 10 → ¬ faB M t f r c 4 u = nI t := fun u hu => frK_no ((faA M t f r) 4) t ht hu
    rw [frM_id (M := stM (faB M t f r c) 14 (upd ((faB M t f r c) 14) t 1)) nl]
    exact RR_14e hrs nl
  unfold faX faN fnX fnN
  rw [m3, m2, m15, n3, n2, n15, ek, ea, eN2, eN15]
  rcases h.2.2.2.2.2.2.2.2.2.1 t ht with ⟨e1, e2⟩ | ⟨e1, e2⟩
  · have g0 : ¬ nI a ≤ nI k := fun q => absurd ((nI_leE (by omega) (by omega)).mp q) (by omega)
    have g1 : ¬ (16 : Int32) ≤ nI k := fun q => absurd ((nI_leE (a := 16) (b := k) (by omega) (by omega)).mp q) (by omega)
    have g2 : nI a ≤ (16 : Int32) := (nI_leE (a := a) (b := 16) (by omega) (by omega)).mpr ha
    rw [if_pos e1, e2, if_neg g0, if_neg g1, if_pos g2]
    have q := go (nI a) a rfl (Nat.le_refl _)
    rw [m15, n15] at q
    exact q
  · rw [if_neg e2, ← e1]
    obtain ⟨f1, hf1, ef1⟩ : ∃ f1 : Nat, f1 < a ∧ M 3 t = nI f1 := by
      rcases h.d (j := 3) ht with q | ⟨f1, q1, q2⟩
      · exact absurd q e2
      · refine ⟨f1, ?_, q2⟩
        rcases h.2.2.2.2.1 t ht with w | w
        · exact absurd w e2
        · rw [q2, ea, nI_ltE (by omega) (by omega)] at w; exact w
    rw [ef1]
    by_cases q : nI f1 ≤ nI k
    · rw [if_pos q, if_pos q]; exact fin
    · rw [if_neg q, if_neg q, if_neg (fun w => absurd ((nI_leE (by omega) (by omega)).mp w) (by omega))]
      have w := go (nI f1) f1 rfl (by omega)
      rw [m15, n15] at w
      exact w
