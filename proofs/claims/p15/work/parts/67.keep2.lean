def incM (M : Mm) (t : Nat) : Mm := stM M 15 (upd (M 15) t (M 15 t + 1))
theorem RR.at_ {c t : Nat} {M N : Mm} (h : RR c M N) (ht : t < 8) : ∃ k a : Nat, k ≤ a ∧ a ≤ 16 ∧ M 15 t = nI k ∧ M 2 t = nI a := by
  obtain ⟨k, hk, ek⟩ := h.d (j := 15) ht
  obtain ⟨a, ha, ea⟩ := h.d (j := 2) ht
  refine ⟨k, a, ?_, ha, ek, ea⟩
  have q := h.2.2.2.1 t ht
  rw [ek, ea, nI_leE (by omega) (by omega)] at q
  exact q
/-- its act is another one; it doesn't rest then -/
theorem RR_15 {c t k a : Nat} {M N : Mm} {x : Int32} (h : RR c M N) (ht : t < 8) (h17 : M 14 t = 0 → M 17 t = 0) (hx : x = nI k) (ha : M 2 t = nI a) (hk : k ≤ a) (hl : a ≤ 16) : RR c (stM M 15 (upd (M 15) t x)) (stM N 15 (upd (N 15) t x)) := by
  refine ⟨h.1, R0_u h.2.1, Dm_u h.2.2.1 ⟨k, by omega, hx⟩, ?_, h.2.2.2.2.1, h.2.2.2.2.2.1, ?_, h.2.2.2.2.2.2.2.1, h.2.2.2.2.2.2.2.2.1, h.2.2.2.2.2.2.2.2.2.1, h.2.2.2.2.2.2.2.2.2.2⟩
  · intro s hs
    show upd (M 15) t x s ≤ M 2 s
    rw [upd_e]
    by_cases e : s = t
    · rw [if_pos e, e, hx, ha, nI_leE (by omega) (by omega)]; exact hk
    · rw [if_neg e]; exact h.2.2.2.1 s hs
  · intro s hs h0 hn
    have h0 : M 14 s = 0 := h0
    have hn : ¬ M 17 s = 0 := hn
    by_cases e : s = t
    · rw [e] at hn h0; exact absurd (h17 h0) hn
    · have q := h.2.2.2.2.2.2.1 s hs h0 hn
      show upd (M 15) t x s < M 2 s ∧ ∀ k : Nat, k < 16 → upd (M 15) t x s = nI k → M 0 (16 * s + k) = 5 ∧ ¬ M 1 (16 * s + k) = 0
      rw [upd_e, if_neg e]
      exact q
theorem RR_inc {c t : Nat} {M N : Mm} (h : RR c M N) (ht : t < 8) (h17 : M 14 t = 0 → M 17 t = 0) (hlt : M 15 t < M 2 t) : RR c (incM M t) (incM N t) := by
  obtain ⟨k, a, hk, ha, ek, ea⟩ := h.at_ ht
  have q := hlt
  rw [ek, ea, nI_ltE (by omega) (by omega)] at q
  unfold incM
  rw [← h.same (c15 ht)]
  exact RR_15 (k := k + 1) h ht h17 (by rw [ek, nI_1]) ea (by omega) ha
/-- it ends, without locks -/
theorem RR_14e {c t : Nat} {M N : Mm} (h : RR c M N) (hl : ∀ u, u < 10 → ¬ M 4 u = nI t) : RR c (stM M 14 (upd (M 14) t 1)) (stM N 14 (upd (N 14) t 1)) := by
  have st : ∀ s, upd (M 14) t 1 s = 0 → M 14 s = 0 := by
    intro s q
    rw [upd_e] at q
    by_cases e : s = t
    · rw [if_pos e] at q; exact absurd q (by decide)
    · rw [if_neg e] at q; exact q
  refine ⟨h.1, R0_u h.2.1, Dm_u h.2.2.1 (Or.inr (Or.inl rfl)), h.2.2.2.1, h.2.2.2.2.1, ?_, fun s hs h0 => h.2.2.2.2.2.2.1 s hs (st s h0), fun s hs h0 => h.2.2.2.2.2.2.2.1 s hs (st s h0), h.2.2.2.2.2.2.2.2.1, h.2.2.2.2.2.2.2.2.2.1, fun s hs h0 => h.2.2.2.2.2.2.2.2.2.2.1 s hs (st s h0), h.z⟩
  intro s hs h1 u hu
  have h1 : upd (M 14) t 1 s = 1 := h1
  rw [upd_e] at h1
  by_cases e : s = t
  · rw [e]; exact hl u hu
  · rw [if_neg e] at h1; exact h.2.2.2.2.2.1 s hs h1 u hu
/-- it dies -/
theorem RR_14d {c t : Nat} {M N : Mm} (h : RR c M N) : RR c (stM M 14 (upd (M 14) t 2)) (stM N 14 (upd (N 14) t 2)) := by
  have st : ∀ s, upd (M 14) t 2 s = 0 → M 14 s = 0 := by
    intro s q
    rw [upd_e] at q
    by_cases e : s = t
    · rw [if_pos e] at q; exact absurd q (by decide)
    · rw [if_neg e] at q; exact q
  refine ⟨h.1, R0_u h.2.1, Dm_u h.2.2.1 (Or.inr (Or.inr rfl)), h.2.2.2.1, h.2.2.2.2.1, ?_, fun s hs h0 => h.2.2.2.2.2.2.1 s hs (st s h0), fun s hs h0 => h.2.2.2.2.2.2.2.1 s hs (st s h0), h.2.2.2.2.2.2.2.2.1, h.2.2.2.2.2.2.2.2.2.1, fun s hs h0 => h.2.2.2.2.2.2.2.2.2.2.1 s hs (st s h0), h.z⟩
  intro s hs h1 u hu
  have h1 : upd (M 14) t 2 s = 1 := h1
  rw [upd_e] at h1
  by_cases e : s = t
  · rw [if_pos e] at h1; exact absurd h1 (by decide)
  · rw [if_neg e] at h1; exact h.2.2.2.2.2.1 s hs h1 u hu
/-- the reference's own flags of a rest, set back -/
def rsN (N : Mm) (t : Nat) : Mm := stM (stM (stM N 27 (upd (N 27) t 0)) 20 (upd (N 20) t 0)) 17 (upd (N 17) t 0)
theorem RR_rs {c t : Nat} {M N : Mm} (h : RR c M N) (hz : M 14 t = 0 → M 17 t = 0 ∧ M 20 t = 0) : RR c M (rsN N t) := by
  refine ⟨h.1, R0_r (R0_r (R0_r h.2.1 (no27 c)) (no20 c)) (no17 c), h.2.2.1, h.2.2.2.1, h.2.2.2.2.1, h.2.2.2.2.2.1, h.2.2.2.2.2.2.1, h.2.2.2.2.2.2.2.1, h.2.2.2.2.2.2.2.2.1, h.2.2.2.2.2.2.2.2.2.1, ?_, h.z⟩
  intro s hs h0
  show M 17 s = upd (N 17) t 0 s ∧ M 20 s = upd (N 20) t 0 s ∧ ((upd (N 27) t 0 s = 0 ∧ M 17 s = 0) ∨ (upd (N 27) t 0 s = 1 ∧ ¬ M 17 s = 0))
  rw [upd_e, upd_e, upd_e]
  by_cases e : s = t
  · rw [if_pos e, if_pos e, if_pos e]
    rw [e] at h0 ⊢
    exact ⟨(hz h0).1, (hz h0).2, Or.inl ⟨rfl, (hz h0).1⟩⟩
  · rw [if_neg e, if_neg e, if_neg e]
    exact h.2.2.2.2.2.2.2.2.2.2.1 s hs h0
theorem frK_no (f : Nat → Int32) (t : Nat) (ht : t < 8) {u : Nat} (hu : u < 10) : ¬ frK f (nI t) 10 u = nI t := by
  unfold frK
  by_cases e : u < 10 ∧ f u = nI t
  · rw [if_pos e]; exact fun q => nI_m1 (by omega) q.symm
  · rw [if_neg e]; exact fun q => e ⟨hu, q⟩
theorem frK_id {f : Nat → Int32} {t : Int32} (h : ∀ u, u < 10 → ¬ f u = t) : frK f t 10 = f := by
  funext u
  unfold frK
  rw [if_neg (fun q => h u q.1 q.2)]
theorem frM_id {M : Mm} {t : Nat} (h : ∀ u, u < 10 → ¬ M 4 u = nI t) : frM M t = M := by
  unfold frM
  rw [frK_id h, stM_id]
/-- the end of a thread: state, then locks -/
theorem RR_end {c t : Nat} {M N : Mm} (h : RR c M N) (ht : t < 8) : RR c (frM (stM M 14 (upd (M 14) t 1)) t) (frM (stM N 14 (upd (N 14) t 1)) t) := by
  have q : RR c (stM (frM M t) 14 (upd ((frM M t) 14) t 1)) (stM (frM N t) 14 (upd ((frM N t) 14) t 1)) := RR_14e (RR_fr h) (fun u hu => frK_no _ t ht hu)
  have sw : ∀ M : Mm, frM (stM M 14 (upd (M 14) t 1)) t = stM (frM M t) 14 (upd ((frM M t) 14) t 1) := by
    intro M
    funext j
    by_cases e : j = 4
    · subst e; rfl
    · by_cases e2 : j = 14
      · subst e2; rfl
      · unfold frM
        rw [stM_n _ _ e, stM_n _ _ e2, stM_n _ _ e2, stM_n _ _ e]
  rw [sw M, sw N]
  exact q
