theorem RR_5 {c : Nat} {M N : Mm} {f g : Nat → Int32} (h : RR c M N) (hf : ∀ i, cmp c 5 i → f i = g i) (hd : ∀ i, i < ln 5 → Dv 5 (f i)) : RR c (stM M 5 f) (stM N 5 g) := ⟨h.1, R0_st h.2.1 hf, Dm_st h.2.2.1 hd, h.2.2.2.1, h.2.2.2.2.1, h.2.2.2.2.2.1, h.2.2.2.2.2.2.1, h.2.2.2.2.2.2.2.1, h.2.2.2.2.2.2.2.2.1, h.2.2.2.2.2.2.2.2.2.1, h.2.2.2.2.2.2.2.2.2.2⟩
theorem RR_6 {c : Nat} {M N : Mm} {f g : Nat → Int32} (h : RR c M N) (hf : ∀ i, cmp c 6 i → f i = g i) (hd : ∀ i, i < ln 6 → Dv 6 (f i)) : RR c (stM M 6 f) (stM N 6 g) := ⟨h.1, R0_st h.2.1 hf, Dm_st h.2.2.1 hd, h.2.2.2.1, h.2.2.2.2.1, h.2.2.2.2.2.1, h.2.2.2.2.2.2.1, h.2.2.2.2.2.2.2.1, h.2.2.2.2.2.2.2.2.1, h.2.2.2.2.2.2.2.2.2.1, h.2.2.2.2.2.2.2.2.2.2⟩
theorem RR_9 {c : Nat} {M N : Mm} {f g : Nat → Int32} (h : RR c M N) (hf : ∀ i, cmp c 9 i → f i = g i) (hd : ∀ i, i < ln 9 → Dv 9 (f i)) : RR c (stM M 9 f) (stM N 9 g) := ⟨h.1, R0_st h.2.1 hf, Dm_st h.2.2.1 hd, h.2.2.2.1, h.2.2.2.2.1, h.2.2.2.2.2.1, h.2.2.2.2.2.2.1, h.2.2.2.2.2.2.2.1, h.2.2.2.2.2.2.2.2.1, h.2.2.2.2.2.2.2.2.2.1, h.2.2.2.2.2.2.2.2.2.2⟩
theorem RR_10 {c : Nat} {M N : Mm} {f g : Nat → Int32} (h : RR c M N) (hf : ∀ i, cmp c 10 i → f i = g i) (hd : ∀ i, i < ln 10 → Dv 10 (f i)) : RR c (stM M 10 f) (stM N 10 g) := ⟨h.1, R0_st h.2.1 hf, Dm_st h.2.2.1 hd, h.2.2.2.1, h.2.2.2.2.1, h.2.2.2.2.2.1, h.2.2.2.2.2.2.1, h.2.2.2.2.2.2.2.1, h.2.2.2.2.2.2.2.2.1, h.2.2.2.2.2.2.2.2.2.1, h.2.2.2.2.2.2.2.2.2.2⟩
theorem RR_11 {c : Nat} {M N : Mm} {f g : Nat → Int32} (h : RR c M N) (hf : ∀ i, cmp c 11 i → f i = g i) (hd : ∀ i, i < ln 11 → Dv 11 (f i)) : RR c (stM M 11 f) (stM N 11 g) := ⟨h.1, R0_st h.2.1 hf, Dm_st h.2.2.1 hd, h.2.2.2.1, h.2.2.2.2.1, h.2.2.2.2.2.1, h.2.2.2.2.2.2.1, h.2.2.2.2.2.2.2.1, h.2.2.2.2.2.2.2.2.1, h.2.2.2.2.2.2.2.2.2.1, h.2.2.2.2.2.2.2.2.2.2⟩
theorem RR_12 {c : Nat} {M N : Mm} {f g : Nat → Int32} (h : RR c M N) (hf : ∀ i, cmp c 12 i → f i = g i) (hd : ∀ i, i < ln 12 → Dv 12 (f i)) : RR c (stM M 12 f) (stM N 12 g) := ⟨h.1, R0_st h.2.1 hf, Dm_st h.2.2.1 hd, h.2.2.2.1, h.2.2.2.2.1, h.2.2.2.2.2.1, h.2.2.2.2.2.2.1, h.2.2.2.2.2.2.2.1, h.2.2.2.2.2.2.2.2.1, h.2.2.2.2.2.2.2.2.2.1, h.2.2.2.2.2.2.2.2.2.2⟩
theorem RR_13 {c : Nat} {M N : Mm} {f g : Nat → Int32} (h : RR c M N) (hf : ∀ i, cmp c 13 i → f i = g i) (hd : ∀ i, i < ln 13 → Dv 13 (f i)) : RR c (stM M 13 f) (stM N 13 g) := ⟨h.1, R0_st h.2.1 hf, Dm_st h.2.2.1 hd, h.2.2.2.1, h.2.2.2.2.1, h.2.2.2.2.2.1, h.2.2.2.2.2.2.1, h.2.2.2.2.2.2.2.1, h.2.2.2.2.2.2.2.2.1, h.2.2.2.2.2.2.2.2.2.1, h.2.2.2.2.2.2.2.2.2.2⟩
theorem RR_16 {c : Nat} {M N : Mm} {f g : Nat → Int32} (h : RR c M N) (hf : ∀ i, cmp c 16 i → f i = g i) (hd : ∀ i, i < ln 16 → Dv 16 (f i)) : RR c (stM M 16 f) (stM N 16 g) := ⟨h.1, R0_st h.2.1 hf, Dm_st h.2.2.1 hd, h.2.2.2.1, h.2.2.2.2.1, h.2.2.2.2.2.1, h.2.2.2.2.2.2.1, h.2.2.2.2.2.2.2.1, h.2.2.2.2.2.2.2.2.1, h.2.2.2.2.2.2.2.2.2.1, h.2.2.2.2.2.2.2.2.2.2⟩
theorem RR_18 {c : Nat} {M N : Mm} {f g : Nat → Int32} (h : RR c M N) (hf : ∀ i, cmp c 18 i → f i = g i) (hd : ∀ i, i < ln 18 → Dv 18 (f i)) : RR c (stM M 18 f) (stM N 18 g) := ⟨h.1, R0_st h.2.1 hf, Dm_st h.2.2.1 hd, h.2.2.2.1, h.2.2.2.2.1, h.2.2.2.2.2.1, h.2.2.2.2.2.2.1, h.2.2.2.2.2.2.2.1, h.2.2.2.2.2.2.2.2.1, h.2.2.2.2.2.2.2.2.2.1, h.2.2.2.2.2.2.2.2.2.2⟩
theorem RR_19 {c : Nat} {M N : Mm} {f g : Nat → Int32} (h : RR c M N) (hf : ∀ i, cmp c 19 i → f i = g i) (hd : ∀ i, i < ln 19 → Dv 19 (f i)) : RR c (stM M 19 f) (stM N 19 g) := ⟨h.1, R0_st h.2.1 hf, Dm_st h.2.2.1 hd, h.2.2.2.1, h.2.2.2.2.1, h.2.2.2.2.2.1, h.2.2.2.2.2.2.1, h.2.2.2.2.2.2.2.1, h.2.2.2.2.2.2.2.2.1, h.2.2.2.2.2.2.2.2.2.1, h.2.2.2.2.2.2.2.2.2.2⟩
theorem RR_21 {c : Nat} {M N : Mm} {f g : Nat → Int32} (h : RR c M N) (hf : ∀ i, cmp c 21 i → f i = g i) (hd : ∀ i, i < ln 21 → Dv 21 (f i)) : RR c (stM M 21 f) (stM N 21 g) := ⟨h.1, R0_st h.2.1 hf, Dm_st h.2.2.1 hd, h.2.2.2.1, h.2.2.2.2.1, h.2.2.2.2.2.1, h.2.2.2.2.2.2.1, h.2.2.2.2.2.2.2.1, h.2.2.2.2.2.2.2.2.1, h.2.2.2.2.2.2.2.2.2.1, h.2.2.2.2.2.2.2.2.2.2⟩
theorem RR_23 {c : Nat} {M N : Mm} {f g : Nat → Int32} (h : RR c M N) (hf : ∀ i, cmp c 23 i → f i = g i) (hd : ∀ i, i < ln 23 → Dv 23 (f i)) : RR c (stM M 23 f) (stM N 23 g) := ⟨h.1, R0_st h.2.1 hf, Dm_st h.2.2.1 hd, h.2.2.2.1, h.2.2.2.2.1, h.2.2.2.2.2.1, h.2.2.2.2.2.2.1, h.2.2.2.2.2.2.2.1, h.2.2.2.2.2.2.2.2.1, h.2.2.2.2.2.2.2.2.2.1, h.2.2.2.2.2.2.2.2.2.2⟩
theorem RR_24 {c : Nat} {M N : Mm} {f g : Nat → Int32} (h : RR c M N) (hf : ∀ i, cmp c 24 i → f i = g i) (hd : ∀ i, i < ln 24 → Dv 24 (f i)) : RR c (stM M 24 f) (stM N 24 g) := ⟨h.1, R0_st h.2.1 hf, Dm_st h.2.2.1 hd, h.2.2.2.1, h.2.2.2.2.1, h.2.2.2.2.2.1, h.2.2.2.2.2.2.1, h.2.2.2.2.2.2.2.1, h.2.2.2.2.2.2.2.2.1, h.2.2.2.2.2.2.2.2.2.1, h.2.2.2.2.2.2.2.2.2.2⟩
theorem RR_25 {c : Nat} {M N : Mm} {f g : Nat → Int32} (h : RR c M N) (hf : ∀ i, cmp c 25 i → f i = g i) (hd : ∀ i, i < ln 25 → Dv 25 (f i)) : RR c (stM M 25 f) (stM N 25 g) := ⟨h.1, R0_st h.2.1 hf, Dm_st h.2.2.1 hd, h.2.2.2.1, h.2.2.2.2.1, h.2.2.2.2.2.1, h.2.2.2.2.2.2.1, h.2.2.2.2.2.2.2.1, h.2.2.2.2.2.2.2.2.1, h.2.2.2.2.2.2.2.2.2.1, h.2.2.2.2.2.2.2.2.2.2⟩
theorem RR_r26 {c : Nat} {M N : Mm} {g : Nat → Int32} (h : RR c M N) (hg : g 0 = 0) : RR c M (stM N 26 g) := ⟨h.1, R0_r h.2.1 (no26 c), h.2.2.1, h.2.2.2.1, h.2.2.2.2.1, h.2.2.2.2.2.1, h.2.2.2.2.2.2.1, h.2.2.2.2.2.2.2.1, h.2.2.2.2.2.2.2.2.1, h.2.2.2.2.2.2.2.2.2.1, h.2.2.2.2.2.2.2.2.2.2.1, hg⟩
theorem RR.z {c : Nat} {M N : Mm} (h : RR c M N) : N 26 0 = 0 := h.2.2.2.2.2.2.2.2.2.2.2
theorem updEq {c a k : Nat} {M N : Mm} {x : Int32} (h : RR c M N) : ∀ i, cmp c a i → upd (M a) k x i = upd (N a) k x i := fun i hi => by rw [upd_e, upd_e, h.same hi]
theorem updD {c a k : Nat} {M N : Mm} {x : Int32} (h : RR c M N) (hx : Dv a x) : ∀ i, i < ln a → Dv a (upd (M a) k x i) := fun i hi => by
  rw [upd_e]
  by_cases e : i = k
  · rw [if_pos e]; exact hx
  · rw [if_neg e]; exact h.d hi
theorem frK_c {c : Nat} {M N : Mm} {t : Int32} (h : R0 c M N) : ∀ i, cmp c 4 i → frK (M 4) t 10 i = frK (N 4) t 10 i := fun i hi => by
  unfold frK
  rw [h 4 i hi]
/-- locks that become fewer -/
theorem RR_4 {c : Nat} {M N : Mm} {f g : Nat → Int32} (h : RR c M N) (hf : ∀ i, cmp c 4 i → f i = g i) (hl : ∀ u, u < 10 → f u = -1 ∨ f u = M 4 u) : RR c (stM M 4 f) (stM N 4 g) := by
  refine ⟨h.1, R0_st h.2.1 hf, Dm_st h.2.2.1 (fun i hi => ?_), h.2.2.2.1, h.2.2.2.2.1, ?_, h.2.2.2.2.2.2.1, h.2.2.2.2.2.2.2.1, h.2.2.2.2.2.2.2.2.1, h.2.2.2.2.2.2.2.2.2.1, h.2.2.2.2.2.2.2.2.2.2⟩
  · rcases hl i hi with e | e
    · rw [e]; exact Or.inl rfl
    · rw [e]; exact h.d (j := 4) hi
  · intro t ht hs u hu e
    have e : f u = nI t := e
    rcases hl u hu with q | q
    · exact nI_m1 (by omega) (e.symm.trans q)
    · exact h.2.2.2.2.2.1 t ht hs u hu (q.symm.trans e)
theorem frK_l (f : Nat → Int32) (t : Int32) (u : Nat) : frK f t 10 u = -1 ∨ frK f t 10 u = f u := by
  unfold frK
  by_cases e : u < 10 ∧ f u = t
  · rw [if_pos e]; exact Or.inl rfl
  · rw [if_neg e]; exact Or.inr rfl
theorem RR_fr {c t : Nat} {M N : Mm} (h : RR c M N) : RR c (frM M t) (frM N t) := RR_4 h (frK_c h.2.1) (fun u _ => frK_l _ _ u)
theorem duF_rel {c : Nat} {M N : Mm} (h : RR c M N) : ∀ k, k ≤ 8 → (∀ i, cmp c 4 i → duF M k i = duF N k i) ∧ (∀ u, duF M k u = -1 ∨ duF M k u = M 4 u) := by
  intro k
  induction k with
  | zero => exact fun _ => ⟨fun i hi => h.same hi, fun u => Or.inr rfl⟩
  | succ k ih =>
    intro hk
    obtain ⟨i1, i2⟩ := ih (by omega)
    rw [duF, duF, h.same (c14 (t := k) (by omega)), h.same (c24 (c := c)), h.same (c19 (t := k) (by omega))]
    by_cases q : N 14 k = 2 ∧ ¬ N 24 0 < N 19 k
    · rw [if_pos q, if_pos q]
      refine ⟨fun i hi => ?_, fun u => ?_⟩
      · unfold frK
        rw [i1 i hi]
      · rcases frK_l (duF M k) (nI k) u with e | e
        · exact Or.inl e
        · rw [e]; exact i2 u
    · rw [if_neg q, if_neg q]
      exact ⟨i1, i2⟩
theorem RR_du {c : Nat} {M N : Mm} (h : RR c M N) : RR c (duM M) (duM N) := RR_4 h (duF_rel h 8 (by omega)).1 (fun u _ => (duF_rel h 8 (by omega)).2 u)
/-- who has the calls -/
theorem RR_7 {c : Nat} {M N : Mm} {f g : Nat → Int32} (h : RR c M N) (hf : ∀ i, cmp c 7 i → f i = g i) (hd : ∀ i, i < 16 → Dv 7 (f i)) (hb : ∀ i, c ≤ i → f i = M 7 i) : RR c (stM M 7 f) (stM N 7 g) := by
  refine ⟨h.1, R0_st h.2.1 hf, Dm_st h.2.2.1 hd, h.2.2.2.1, h.2.2.2.2.1, h.2.2.2.2.2.1, h.2.2.2.2.2.2.1, h.2.2.2.2.2.2.2.1, ?_, h.2.2.2.2.2.2.2.2.2.1, h.2.2.2.2.2.2.2.2.2.2⟩
  intro i hi hl
  have q := h.2.2.2.2.2.2.2.2.1 i hi hl
  exact ⟨(hb i hi).trans q.1, q.2⟩
theorem opB_eq {c i : Nat} {t : Int32} {M N : Mm} (h : RR c M N) (hi : i < c) : opB M t i ↔ opB N t i := by
  unfold opB
  rw [h.same (c9 hi), h.same (c7 hi)]
theorem RR_dr {c t : Nat} {M N : Mm} (h : RR c M N) : RR c (drM M t c) (drM N t c) := by
  refine RR_7 h (fun i hi => ?_) (fun i hi => ?_) (fun i hi => ?_)
  · have hi : i < c := by unfold cmp at hi; omega
    unfold drK
    exact ite_congr (propext (and_congr Iff.rfl (and_congr (opB_eq h hi) (by rw [h.same (c8 hi)])))) (fun _ => rfl) (fun _ => h.same (c7 hi))
  · unfold drK
    by_cases q : i < c ∧ opB M (nI t) i ∧ M 8 i = -1
    · rw [if_pos q]; exact Or.inl rfl
    · rw [if_neg q]; exact h.d (j := 7) hi
  · unfold drK
    rw [if_neg (by omega)]
theorem RR_ps {c t : Nat} {g : Int32} {M N : Mm} (h : RR c M N) (hg : Dv 7 g) : RR c (psM M t c g) (psM N t c g) := by
  refine RR_7 h (fun i hi => ?_) (fun i hi => ?_) (fun i hi => ?_)
  · have hi : i < c := by unfold cmp at hi; omega
    unfold psK
    exact ite_congr (propext (and_congr Iff.rfl (opB_eq h hi))) (fun _ => rfl) (fun _ => h.same (c7 hi))
  · unfold psK
    by_cases q : i < c ∧ opB M (nI t) i
    · rw [if_pos q]; exact hg
    · rw [if_neg q]; exact h.d (j := 7) hi
  · unfold psK
    rw [if_neg (by omega)]
/-- a row that is told -/
def tlM (M : Mm) (r : Nat) (a b x d : Int32) : Mm := if r < 100 then stM (stM (stM (stM (stM M 10 (upd (M 10) r a)) 11 (upd (M 11) r b)) 12 (upd (M 12) r x)) 13 (upd (M 13) r d)) 23 (fun _ => nI (r + 1)) else M
theorem RR_tl {c r : Nat} {a b x d : Int32} {M N : Mm} (h : RR c M N) : RR c (tlM M r a b x d) (tlM N r a b x d) := by
  unfold tlM
  by_cases hr : r < 100
  · rw [if_pos hr, if_pos hr]
    exact RR_23 (RR_13 (RR_12 (RR_11 (RR_10 h (updEq h) (fun _ _ => trivial)) (updEq h) (fun _ _ => trivial)) (updEq h) (fun _ _ => trivial)) (updEq h) (fun _ _ => trivial)) (fun _ _ => rfl) (fun _ _ => ⟨r + 1, by omega, rfl⟩)
  · rw [if_neg hr, if_neg hr]; exact h
theorem sx_tell {r : Nat} {a b x d : Int32} {M : Mm} {post : Mm → Prop} (hr : M 23 0 = nI r) (hl : r ≤ 100) (h : post (tlM M r a b x d)) : wpXr_tell a b x d M post := by
  unfold tlM at h
  rintro y rfl
  rw [hr]
  refine ⟨fun q => ?_, fun q => ?_⟩
  · have q : r < 100 := (nI_ltE (b := 100) (by omega) (by omega)).mp q
    rw [if_pos q] at h
    have hi : vp_in (nI r) 100 := inI q (by decide)
    have hc : (nI r).toNatClampNeg = r := clI (by omega)
    rintro y rfl
    rw [hc]
    refine ⟨hi, ?_⟩
    rintro M1 rfl y rfl
    rw [show (stM M 10 (upd (M 10) r a)) 23 0 = nI r from hr, hc]
    refine ⟨hi, ?_⟩
    rintro M1 rfl y rfl
    rw [show (stM (stM M 10 (upd (M 10) r a)) 11 (upd ((stM M 10 (upd (M 10) r a)) 11) r b)) 23 0 = nI r from hr, hc]
    refine ⟨hi, ?_⟩
    rintro M1 rfl y rfl
    rw [show (stM (stM (stM M 10 (upd (M 10) r a)) 11 (upd ((stM M 10 (upd (M 10) r a)) 11) r b)) 12 (upd ((stM (stM M 10 (upd (M 10) r a)) 11 (upd ((stM M 10 (upd (M 10) r a)) 11) r b)) 12) r x)) 23 0 = nI r from hr, hc]
    refine ⟨hi, ?_⟩
    rintro M1 rfl y rfl y rfl M1 rfl
    have e : (stM (stM (stM (stM M 10 (upd (M 10) r a)) 11 (upd (M 11) r b)) 12 (upd (M 12) r x)) 13 (upd (M 13) r d)) 23 0 + 1 = nI (r + 1) := by
      rw [show (stM (stM (stM (stM M 10 (upd (M 10) r a)) 11 (upd (M 11) r b)) 12 (upd (M 12) r x)) 13 (upd (M 13) r d)) 23 0 = nI r from hr, nI_1]
    rw [← e] at h
    exact h
  · have q : ¬ r < 100 := fun w => q ((nI_ltE (b := 100) (by omega) (by omega)).mpr w)
    rw [if_neg q] at h
    exact h
theorem sm_tell {r t : Nat} {b : Int32} {M : Mm} {post : Mm → Prop} (ht : t < 8) (hr : M 23 0 = nI r) (hl : r ≤ 100) (h : post (tlM M r (nI t) b (M 15 t) (M 24 0))) : wpXm_tell (nI t) b M post := by
  unfold tlM at h
  rintro y rfl
  rw [hr]
  refine ⟨fun q => ?_, fun q => ?_⟩
  · have q : r = 100 := (nI_eqE (b := 100) (by omega) (by omega)).mp q
    rw [if_neg (by omega)] at h
    exact h
  · have q : r < 100 := by
      have w : ¬ r = 100 := fun w => q ((nI_eqE (b := 100) (by omega) (by omega)).mpr w)
      omega
    rw [if_pos q] at h
    have hi : vp_in (nI r) 100 := inI q (by decide)
    have hc : (nI r).toNatClampNeg = r := clI (by omega)
    rintro y rfl
    rw [hc]
    refine ⟨hi, ?_⟩
    rintro M1 rfl y rfl
    rw [show (stM M 10 (upd (M 10) r (nI t))) 23 0 = nI r from hr, hc]
    refine ⟨hi, ?_⟩
    rintro M1 rfl y rfl
    rw [show (stM (stM M 10 (upd (M 10) r (nI t))) 11 (upd ((stM M 10 (upd (M 10) r (nI t))) 11) r b)) 23 0 = nI r from hr, hc]
    refine ⟨inI ht (by decide), ?_⟩
    rintro y rfl
    rw [clI (by omega)]
    refine ⟨hi, ?_⟩
    rintro M1 rfl y rfl y2 rfl
    rw [show (stM (stM (stM M 10 (upd (M 10) r (nI t))) 11 (upd ((stM M 10 (upd (M 10) r (nI t))) 11) r b)) 12 (upd ((stM (stM M 10 (upd (M 10) r (nI t))) 11 (upd ((stM M 10 (upd (M 10) r (nI t))) 11) r b)) 12) r ((stM (stM M 10 (upd (M 10) r (nI t))) 11 (upd ((stM M 10 (upd (M 10) r (nI t))) 11) r b)) 15 t))) 23 0 = nI r from hr, hc]
    refine ⟨hi, ?_⟩
    rintro M1 rfl y rfl y rfl M1 rfl
    have e : (stM (stM (stM (stM M 10 (upd (M 10) r (nI t))) 11 (upd (M 11) r b)) 12 (upd (M 12) r (M 15 t))) 13 (upd (M 13) r (M 24 0))) 23 0 + 1 = nI (r + 1) := by
      rw [show (stM (stM (stM (stM M 10 (upd (M 10) r (nI t))) 11 (upd (M 11) r b)) 12 (upd (M 12) r (M 15 t))) 13 (upd (M 13) r (M 24 0))) 23 0 = nI r from hr, nI_1]
    rw [← e] at h
    exact h
