/-- a thread that begins anew -/
theorem RR_rst {c t : Nat} {M N M' N' : Mm} (h : RR c M N) (hM : ∀ j, ¬ (j = 14 ∨ j = 15 ∨ j = 16 ∨ j = 17 ∨ j = 20 ∨ j = 21) → M' j = M j) (hN : ∀ j, ¬ (j = 14 ∨ j = 15 ∨ j = 16 ∨ j = 17 ∨ j = 20 ∨ j = 21) → j ≠ 27 → N' j = N j)
    (a : ∀ j, (j = 14 ∨ j = 15 ∨ j = 16 ∨ j = 17 ∨ j = 20 ∨ j = 21) → ∀ s, M' j s = if s = t then 0 else M j s) (b : ∀ j, (j = 14 ∨ j = 15 ∨ j = 16 ∨ j = 17 ∨ j = 20 ∨ j = 21) → ∀ s, N' j s = if s = t then 0 else N j s) (b27 : ∀ s, N' 27 s = if s = t then 0 else N 27 s) : RR c M' N' := by
  obtain ⟨r1, r2, r3, r4, r5, r6, r7, r8, r9, r10, r11⟩ := h
  refine ⟨?_, ?_, ?_, ?_, ?_, ?_, ?_, ?_, ?_, ?_, ?_⟩
  · unfold nC; rw [hM 22 (by decide)]; exact r1
  · intro j i hc
    by_cases e : j = 14 ∨ j = 15 ∨ j = 16 ∨ j = 17 ∨ j = 20 ∨ j = 21
    · rw [a j e, b j e]
      by_cases q : i = t
      · rw [if_pos q, if_pos q]
      · rw [if_neg q, if_neg q]; exact r2 j i hc
    · have x3 : j ≠ 27 := fun e => no27 c i (e ▸ hc)
      rw [hM j e, hN j e x3]
      exact r2 j i hc
  · intro j i hi
    by_cases e : j = 14 ∨ j = 15 ∨ j = 16 ∨ j = 17 ∨ j = 20 ∨ j = 21
    · rw [a j e]
      by_cases q : i = t
      · rw [if_pos q]
        rcases e with e | e | e | e | e | e
        · subst e; exact Or.inl rfl
        · subst e; exact ⟨0, by omega, rfl⟩
        · subst e; exact trivial
        · subst e; exact ⟨0, by omega, rfl⟩
        · subst e; exact Or.inl rfl
        · subst e; exact Or.inl rfl
      · rw [if_neg q]; exact r3 j i hi
    · rw [hM j e]; exact r3 j i hi
  · intro s hs
    rw [a 15 (by decide), hM 2 (by decide)]
    by_cases q : s = t
    · rw [if_pos q]
      obtain ⟨n, hn, en⟩ := r3 2 s hs
      rw [en]
      exact nI_pos' (by omega)
    · rw [if_neg q]; exact r4 s hs
  · unfold E2; rw [hM 3 (by decide), hM 2 (by decide)]; exact r5
  · intro s hs h1
    rw [a 14 (by decide)] at h1
    rw [hM 4 (by decide)]
    by_cases q : s = t
    · rw [if_pos q] at h1; exact absurd h1 (by decide)
    · rw [if_neg q] at h1; exact r6 s hs h1
  · intro s hs h0 h17
    rw [a 14 (by decide)] at h0
    rw [a 17 (by decide)] at h17
    rw [a 15 (by decide), hM 2 (by decide), hM 0 (by decide), hM 1 (by decide)]
    by_cases q : s = t
    · rw [if_pos q] at h17; exact absurd rfl h17
    · rw [if_neg q] at h17 h0 ⊢; exact r7 s hs h0 h17
  · intro s hs h0 h20
    rw [a 14 (by decide)] at h0
    rw [a 20 (by decide)] at h20
    rw [a 17 (by decide)]
    by_cases q : s = t
    · rw [if_pos q] at h20; exact absurd rfl h20
    · rw [if_neg q] at h20 h0 ⊢; exact r8 s hs h0 h20
  · unfold E6; rw [hM 7 (by decide), hM 8 (by decide)]; exact r9
  · unfold Fi; rw [hM 3 (by decide), hN 3 (by decide) (by decide)]; exact r10
  · refine ⟨?_, by rw [hN 26 (by decide) (by decide)]; exact r11.2⟩
    intro s hs h0
    rw [a 14 (by decide)] at h0
    rw [a 17 (by decide), a 20 (by decide), b 17 (by decide), b 20 (by decide), b27]
    by_cases q : s = t
    · rw [if_pos q, if_pos q, if_pos q, if_pos q, if_pos q]; exact ⟨rfl, rfl, Or.inl ⟨rfl, rfl⟩⟩
    · rw [if_neg q] at h0
      rw [if_neg q, if_neg q, if_neg q, if_neg q, if_neg q]; exact r11.1 s hs h0
def rtX (M : Mm) (t : Nat) : Mm := stM (stM (stM (stM (stM (stM M 14 (upd (M 14) t 0)) 15 (upd (M 15) t 0)) 16 (upd (M 16) t 0)) 17 (upd (M 17) t 0)) 20 (upd (M 20) t 0)) 21 (upd (M 21) t 0)
def rtN (M : Mm) (t : Nat) : Mm := stM (stM (stM (stM (stM (stM (stM M 14 (upd (M 14) t 0)) 15 (upd (M 15) t 0)) 16 (upd (M 16) t 0)) 21 (upd (M 21) t 0)) 27 (upd (M 27) t 0)) 20 (upd (M 20) t 0)) 17 (upd (M 17) t 0)
theorem RR_rt {c t : Nat} {M N : Mm} (h : RR c M N) : RR c (rtX M t) (rtN N t) := by
  refine RR_rst (t := t) h (fun j e => ?_) (fun j e e2 => ?_) (fun j e s => ?_) (fun j e s => ?_) (fun s => ?_)
  · unfold rtX
    rw [stM_n _ _ (by omega), stM_n _ _ (by omega), stM_n _ _ (by omega), stM_n _ _ (by omega), stM_n _ _ (by omega), stM_n _ _ (by omega)]
  · unfold rtN
    rw [stM_n _ _ (by omega), stM_n _ _ (by omega), stM_n _ _ (by omega), stM_n _ _ (by omega), stM_n _ _ (by omega), stM_n _ _ (by omega), stM_n _ _ (by omega)]
  · rcases e with e | e | e | e | e | e <;> subst e <;> exact upd_e _ _ _ _
  · rcases e with e | e | e | e | e | e <;> subst e <;> exact upd_e _ _ _ _
  · exact upd_e _ _ _ _
theorem restart_hv {c : Nat} {M N : Mm} (p0 : Int32) (h : RB c M N) : HV (wpXl_restart p0 M) (wpXm_restart p0 N) := by
  rcases rng p0 (n := 7) (by omega) with hb | ⟨t, ht, rfl⟩
  · refine hv_x h 1 (fun post hp => Or.inr (Or.inr (sx_rqT0 hb (Or.inl ⟨rfl, hp⟩)))) (fun post hp => ?_)
    exact sm_isT0 hb ⟨fun _ => th_1 ⟨fun q => absurd q (by decide), fun _ => hp⟩, fun q => absurd rfl q⟩
  · have ht : t < 8 := by omega
    have e14 : M 14 t = N 14 t := h.same (c14 ht) (by decide)
    have it : vp_in (nI t) 8 := inI ht (by decide)
    have ct : (nI t).toNatClampNeg = t := clI (by omega)
    by_cases q : M 14 t = 0
    · refine hv_x h 2 (fun post hp => Or.inr (Or.inl (sx_rqT1 ht ⟨it, ?_⟩))) (fun post hp => ?_)
      · rintro y rfl
        rw [ct]
        exact ⟨fun _ => Or.inr ⟨rfl, hp⟩, fun w => absurd q w⟩
      · refine sm_isT1 ht ⟨fun q => absurd q (by decide), fun _ => ⟨it, ?_⟩⟩
        rintro y rfl
        rw [ct]
        exact ⟨fun _ => th_2 ⟨fun q => absurd q (by decide), fun _ => hp⟩, fun w => absurd (e14.symm.trans q) w⟩
    · have hR : RR c (rtX (frM M t) t) (rtN (frM (thM N 0) t) t) := RR_rt (RR_fr h)
      refine hv_r hR (fun post hp => Or.inl (Or.inl (sx_rqT1 ht ⟨it, ?_⟩))) (fun post hp => ?_)
      · rintro y rfl
        rw [ct]
        refine ⟨fun w => absurd w q, fun _ => sx_freeAllOf ⟨it, ?_⟩⟩
        rintro M1 rfl
        refine ⟨it, ?_⟩
        rintro M1 rfl
        refine ⟨it, ?_⟩
        rintro M1 rfl
        refine ⟨it, ?_⟩
        rintro M1 rfl
        refine ⟨it, ?_⟩
        rintro M1 rfl
        refine ⟨it, ?_⟩
        rintro M1 rfl
        exact hp
      · refine sm_isT1 ht ⟨fun q => absurd q (by decide), fun _ => ⟨it, ?_⟩⟩
        rintro y rfl
        rw [ct]
        refine ⟨fun w => absurd (e14.trans w) q, fun _ => th_0 ⟨fun _ => sm_free ⟨it, ?_⟩, fun q => absurd rfl q⟩⟩
        rintro M1 rfl
        refine ⟨it, ?_⟩
        rintro M1 rfl
        refine ⟨it, ?_⟩
        rintro M1 rfl
        refine ⟨it, ?_⟩
        rintro M1 rfl
        refine ⟨it, ?_⟩
        rintro M1 rfl
        refine ⟨it, ?_⟩
        rintro M1 rfl
        refine ⟨it, ?_⟩
        rintro M1 rfl
        exact hp
/-- who is interrupted -/
theorem inF_at {M : Mm} {c : Nat} {rk : Int32} : ∀ k s, inF M c rk k s = if s < k ∧ M 14 s = 0 ∧ ¬ M 17 s ≤ 0 ∧ hiC M s c rk then 1 else M 20 s := by
  intro k
  induction k with
  | zero => intro s; rw [if_neg (fun q => absurd q.1 (by omega))]; rfl
  | succ k ih =>
    intro s
    rw [inF]
    by_cases q : M 14 k = 0 ∧ ¬ M 17 k ≤ 0 ∧ hiC M k c rk
    · rw [if_pos q, upd_e, ih]
      by_cases e : s = k
      · subst e; rw [if_pos rfl, if_pos ⟨by omega, q⟩]
      · rw [if_neg e]
        by_cases w : s < k ∧ M 14 s = 0 ∧ ¬ M 17 s ≤ 0 ∧ hiC M s c rk
        · rw [if_pos w, if_pos ⟨by omega, w.2⟩]
        · rw [if_neg w, if_neg (fun z => w ⟨by omega, z.2⟩)]
    · rw [if_neg q, ih]
      by_cases w : s < k ∧ M 14 s = 0 ∧ ¬ M 17 s ≤ 0 ∧ hiC M s c rk
      · rw [if_pos w, if_pos ⟨by omega, w.2⟩]
      · rw [if_neg w, if_neg (fun z => by
          by_cases e : s = k
          · subst e; exact q z.2
          · exact w ⟨by omega, z.2⟩)]
theorem inN_at {M : Mm} {c : Nat} {rk : Int32} : ∀ k s, inN M c rk k s = if s < k ∧ M 14 s = 0 ∧ ¬ M 27 s = 0 ∧ hiC M s c rk then 1 else M 20 s := by
  intro k
  induction k with
  | zero => intro s; rw [if_neg (fun q => absurd q.1 (by omega))]; rfl
  | succ k ih =>
    intro s
    rw [inN]
    by_cases q : M 14 k = 0 ∧ ¬ M 27 k = 0 ∧ hiC M k c rk
    · rw [if_pos q, upd_e, ih]
      by_cases e : s = k
      · subst e; rw [if_pos rfl, if_pos ⟨by omega, q⟩]
      · rw [if_neg e]
        by_cases w : s < k ∧ M 14 s = 0 ∧ ¬ M 27 s = 0 ∧ hiC M s c rk
        · rw [if_pos w, if_pos ⟨by omega, w.2⟩]
        · rw [if_neg w, if_neg (fun z => w ⟨by omega, z.2⟩)]
    · rw [if_neg q, ih]
      by_cases w : s < k ∧ M 14 s = 0 ∧ ¬ M 27 s = 0 ∧ hiC M s c rk
      · rw [if_pos w, if_pos ⟨by omega, w.2⟩]
      · rw [if_neg w, if_neg (fun z => by
          by_cases e : s = k
          · subst e; exact q z.2
          · exact w ⟨by omega, z.2⟩)]
theorem cmp_c {c j i : Nat} (h : cmp c j i) (hj : 6 ≤ j ∧ j ≤ 9) : i < c := by
  unfold cmp at h
  rcases h with h | h | h | h | h | h | h
  · omega
  · omega
  · omega
  · omega
  · omega
  · exact h.2.2
  · exfalso; rcases h with h | h | h | h | h | h | h | h <;> omega
theorem cmp_up {c j i : Nat} (h : cmp (c + 1) j i) (hj : ¬ (6 ≤ j ∧ j ≤ 9)) : cmp c j i := by
  unfold cmp at h ⊢
  rcases h with h | h | h | h | h | h | h
  · exact Or.inl h
  · exact Or.inr (Or.inl h)
  · exact Or.inr (Or.inr (Or.inl h))
  · exact Or.inr (Or.inr (Or.inr (Or.inl h)))
  · exact Or.inr (Or.inr (Or.inr (Or.inr (Or.inl h))))
  · exact absurd ⟨h.1, h.2.1⟩ hj
  · exact Or.inr (Or.inr (Or.inr (Or.inr (Or.inr (Or.inr h)))))
def clX (M : Mm) (c : Nat) (rk : Int32) : Mm := stM (stM (stM (stM M 20 (inF M c rk 8)) 6 (upd (M 6) c rk)) 9 (upd (M 9) c 1)) 22 (fun _ => nI (c + 1))
def clN0 (M : Mm) (c : Nat) (rk : Int32) : Mm := stM (stM (stM (stM (stM M 6 (upd (M 6) c rk)) 7 (upd (M 7) c (-1))) 8 (upd (M 8) c (-1))) 9 (upd (M 9) c 1)) 22 (fun _ => nI (c + 1))
def clN (M : Mm) (c : Nat) (rk : Int32) : Mm := stM (clN0 M c rk) 20 (inN (clN0 M c rk) c rk 8)
theorem RR_call {c : Nat} {rk : Int32} {M N : Mm} (h : RR c M N) (hc : c < 16) : RR (c + 1) (clX M c rk) (clN N c rk) := by
  obtain ⟨r1, r2, r3, r4, r5, r6, r7, r8, r9, r10, r11⟩ := id h
  have hi : ∀ s, hiC M s c rk ↔ hiC (clN0 N c rk) s c rk := by
    intro s
    have ne : ∀ i, i < c → (clN0 N c rk 9 i = N 9 i ∧ clN0 N c rk 7 i = N 7 i ∧ clN0 N c rk 6 i = N 6 i) := by
      intro i hi
      refine ⟨?_, ?_, ?_⟩
      · show upd (N 9) c 1 i = _
        rw [upd_e, if_neg (by omega)]
      · show upd (N 7) c (-1) i = _
        rw [upd_e, if_neg (by omega)]
      · show upd (N 6) c rk i = _
        rw [upd_e, if_neg (by omega)]
    have pt : ∀ i, i < c → ((opB M (nI s) i → M 6 i < rk) ↔ (opB (clN0 N c rk) (nI s) i → clN0 N c rk 6 i < rk)) := by
      intro i hi
      obtain ⟨n1, n2, n3⟩ := ne i hi
      unfold opB
      rw [n1, n2, n3, h.same (c9 hi), h.same (c7 hi), h.same (c6 hi)]
    exact ⟨fun q i hi => (pt i hi).mp (q i hi), fun q i hi => (pt i hi).mpr (q i hi)⟩
  have x17 : ∀ s, s < 8 → M 14 s = 0 → (¬ M 17 s ≤ 0 ↔ ¬ N 27 s = 0) := by
    intro s hs h0
    obtain ⟨k, hk, ek⟩ := r3 17 s hs
    obtain ⟨-, -, q⟩ := r11.1 s hs h0
    constructor
    · intro w
      rcases q with q | q
      · rw [q.2] at w; exact absurd (by decide) w
      · rw [q.1]; decide
    · intro w
      rcases q with q | q
      · exact absurd q.1 w
      · rw [ek]
        have k0 : k ≠ 0 := fun e => q.2 (by rw [ek, e]; rfl)
        exact nI_nle (by omega) (by omega)
  have m20 : ∀ s, clX M c rk 20 s = if s < 8 ∧ M 14 s = 0 ∧ ¬ M 17 s ≤ 0 ∧ hiC M s c rk then 1 else M 20 s := fun s => inF_at 8 s
  have n20 : ∀ s, clN N c rk 20 s = if s < 8 ∧ N 14 s = 0 ∧ ¬ N 27 s = 0 ∧ hiC (clN0 N c rk) s c rk then 1 else N 20 s := fun s => inN_at (M := clN0 N c rk) 8 s
  have mo : ∀ j, j ≠ 20 ∧ j ≠ 6 ∧ j ≠ 9 ∧ j ≠ 22 → clX M c rk j = M j := by
    intro j hj
    unfold clX
    rw [stM_n _ _ hj.2.2.2, stM_n _ _ hj.2.2.1, stM_n _ _ hj.2.1, stM_n _ _ hj.1]
  have no : ∀ j, j ≠ 20 ∧ j ≠ 6 ∧ j ≠ 7 ∧ j ≠ 8 ∧ j ≠ 9 ∧ j ≠ 22 → clN N c rk j = N j := by
    intro j hj
    unfold clN clN0
    rw [stM_n _ _ hj.1, stM_n _ _ hj.2.2.2.2.2, stM_n _ _ hj.2.2.2.2.1, stM_n _ _ hj.2.2.2.1, stM_n _ _ hj.2.2.1, stM_n _ _ hj.2.1]
  refine ⟨?_, ?_, ?_, ?_, ?_, ?_, ?_, ?_, ?_, ?_, ?_⟩
  · exact ⟨rfl, by omega⟩
  · intro j i hcm
    by_cases e6 : j = 6
    · subst e6
      have hi : i < c + 1 := cmp_c hcm (by decide)
      show upd (M 6) c rk i = upd (N 6) c rk i
      rw [upd_e, upd_e]
      by_cases e : i = c
      · rw [if_pos e, if_pos e]
      · rw [if_neg e, if_neg e]; exact h.same (c6 (by omega))
    · by_cases e9 : j = 9
      · subst e9
        have hi : i < c + 1 := cmp_c hcm (by decide)
        show upd (M 9) c 1 i = upd (N 9) c 1 i
        rw [upd_e, upd_e]
        by_cases e : i = c
        · rw [if_pos e, if_pos e]
        · rw [if_neg e, if_neg e]; exact h.same (c9 (by omega))
      · by_cases e7 : j = 7
        · subst e7
          have hi : i < c + 1 := cmp_c hcm (by decide)
          show M 7 i = upd (N 7) c (-1) i
          rw [upd_e]
          by_cases e : i = c
          · rw [if_pos e, e]; exact (r9 c (Nat.le_refl _) hc).1
          · rw [if_neg e]; exact h.same (c7 (by omega))
        · by_cases e8 : j = 8
          · subst e8
            have hi : i < c + 1 := cmp_c hcm (by decide)
            show M 8 i = upd (N 8) c (-1) i
            rw [upd_e]
            by_cases e : i = c
            · rw [if_pos e, e]; exact (r9 c (Nat.le_refl _) hc).2
            · rw [if_neg e]; exact h.same (c8 (by omega))
          · by_cases e22 : j = 22
            · subst e22; rfl
            · have e20 : j ≠ 20 := fun e => no20 (c + 1) i (e ▸ hcm)
              rw [mo j ⟨e20, e6, e9, e22⟩, no j ⟨e20, e6, e7, e8, e9, e22⟩]
              exact r2 j i (cmp_up hcm (by omega))
  · intro j i hi
    by_cases e20 : j = 20
    · subst e20
      rw [m20]
      split
      · exact Or.inr rfl
      · exact r3 20 i hi
    · by_cases e6 : j = 6
      · subst e6; exact trivial
      · by_cases e9 : j = 9
        · subst e9
          show Dv 9 (upd (M 9) c 1 i)
          rw [upd_e]
          split
          · exact Or.inr rfl
          · exact r3 9 i hi
        · by_cases e22 : j = 22
          · subst e22; exact trivial
          · rw [mo j ⟨e20, e6, e9, e22⟩]; exact r3 j i hi
  · exact r4
  · exact r5
  · exact r6
  · exact r7
  · intro s hs h0 h20
    show ¬ M 17 s = 0
    rw [m20] at h20
    by_cases q : s < 8 ∧ M 14 s = 0 ∧ ¬ M 17 s ≤ 0 ∧ hiC M s c rk
    · intro e
      exact q.2.2.1 (by rw [e]; decide)
    · rw [if_neg q] at h20
      exact r8 s hs h0 h20
  · exact fun i hi hl => r9 i (by omega) hl
  · intro s hs
    rw [mo 3 (by decide), no 3 (by decide)]
    exact r10 s hs
  · refine ⟨?_, ?_⟩
    · intro s hs h0
      have h0 : M 14 s = 0 := h0
      have q := r11.1 s hs h0
      rw [mo 17 (by decide), no 17 (by decide), no 27 (by decide), m20, n20]
      refine ⟨q.1, ?_, q.2.2⟩
      have iff : (s < 8 ∧ M 14 s = 0 ∧ ¬ M 17 s ≤ 0 ∧ hiC M s c rk) ↔ (s < 8 ∧ N 14 s = 0 ∧ ¬ N 27 s = 0 ∧ hiC (clN0 N c rk) s c rk) := by
        rw [← hi s, ← x17 s hs h0, h.same (c14 (c := c) hs)]
      by_cases w : s < 8 ∧ M 14 s = 0 ∧ ¬ M 17 s ≤ 0 ∧ hiC M s c rk
      · rw [if_pos w, if_pos (iff.mp w)]
      · rw [if_neg w, if_neg (fun z => w (iff.mpr z))]; exact q.2.1
    · rw [no 26 (by decide)]; exact r11.2
theorem call_hi {c : Nat} {M N : Mm} {o : Nat → Int64} (p0 : Int32) (h : RB c M N) : HI True o (wpXl_call p0 M o) (wpXm_call p0 N) := by
  have hl := h.1.2
  have e22 := h.1.1
  have e22N : N 22 0 = nI c := (RR.nN h).1
  rcases rng p0 (n := 3) (by omega) with hb | ⟨rk, hrk, rfl⟩
  · refine hi_x h 1 (by decide) (fun post hp => Or.inr ⟨fun _ => Or.inl ⟨rfl, hp⟩, fun q => ⟨fun w => absurd (hb.resolve_left q) (Int32.not_lt.mpr w), fun _ => Or.inl ⟨rfl, hp⟩⟩⟩) (fun post hp => ?_)
    refine sm_in0 hb ⟨fun _ => ?_, fun q => absurd rfl q⟩
    rintro y rfl
    exact ⟨fun _ => th_1 ⟨fun q => absurd q (by decide), fun _ => hp⟩, fun _ => th_1 ⟨fun q => absurd q (by decide), fun _ => hp⟩⟩
  · have le : nI rk ≤ 3 := (nI_leE (b := 3) (by omega) (by omega)).mpr hrk
    by_cases qc : c = 16
    · refine hi_x h 2 (by decide) (fun post hp => Or.inr ⟨fun q => absurd q (nI_nn (by omega)), fun _ => ⟨fun _ => ?_, fun w => absurd le w⟩⟩) (fun post hp => ?_)
      · rintro y rfl
        rw [e22, qc]
        exact ⟨fun q => absurd q (by decide), fun _ => ⟨fun q => absurd q (by decide), fun _ => Or.inr ⟨rfl, hp⟩⟩⟩
      · refine sm_in1 (n := 3) hrk (by omega) ⟨fun q => absurd q (by decide), fun _ => ?_⟩
        rintro y rfl
        rw [e22N, qc]
        exact ⟨fun _ => th_2 ⟨fun q => absurd q (by decide), fun _ => hp⟩, fun q => absurd rfl q⟩
    · have hc : c < 16 := by omega
      have ii : vp_in (nI c) 16 := inI hc (by decide)
      have cc : (nI c).toNatClampNeg = c := clI (by omega)
      refine hi_r (RR_call (rk := nI rk) h hc) (b := nI c) (nI c) (fun _ => rfl) (fun post hp => Or.inl ⟨fun q => absurd q (nI_nn (by omega)), fun _ => ⟨fun _ => ?_, fun w => absurd le w⟩⟩) (fun post hp => ?_)
      · rintro y rfl
        rw [e22]
        refine ⟨fun _ => ⟨fun _ => sx_interrupt h.1 ?_ ?_, fun q => absurd rfl q⟩, fun q => absurd ((nI_ltE (b := 16) (by omega) (by omega)).mpr hc) q⟩
        · have w := nI_pos' (n := rk) (by omega)
          exact Int32.lt_of_lt_of_le (by decide : (-1 : Int32) < 0) w
        · rintro y rfl
          rw [show (stM M 20 (inF M c (nI rk) 8)) 22 0 = nI c from e22, cc]
          refine ⟨ii, ?_⟩
          rintro M1 rfl
          refine ⟨ii, ?_⟩
          rintro M1 rfl y rfl y rfl M1 rfl
          rw [show (stM (stM (stM M 20 (inF M c (nI rk) 8)) 6 (upd ((stM M 20 (inF M c (nI rk) 8)) 6) c (nI rk))) 9 (upd ((stM (stM M 20 (inF M c (nI rk) 8)) 6 (upd ((stM M 20 (inF M c (nI rk) 8)) 6) c (nI rk))) 9) c 1)) 22 0 = nI c from e22, nI_1]
          exact hp
      · refine sm_in1 (n := 3) hrk (by omega) ⟨fun q => absurd q (by decide), fun _ => ?_⟩
        rintro y rfl
        rw [e22N]
        refine ⟨fun q => absurd (nI_inj (b := 16) (by omega) (by omega) q) qc, fun _ => th_0 ⟨fun _ => ?_, fun q => absurd rfl q⟩⟩
        rintro y rfl
        rw [show (thM N 0) 22 0 = nI c from e22N, cc]
        refine ⟨ii, ?_⟩
        rintro M1 rfl y rfl
        rw [show (stM (thM N 0) 6 (upd ((thM N 0) 6) c (nI rk))) 22 0 = nI c from e22N, cc]
        refine ⟨ii, ?_⟩
        rintro M1 rfl y rfl
        rw [show (stM (stM (thM N 0) 6 (upd ((thM N 0) 6) c (nI rk))) 7 (upd ((stM (thM N 0) 6 (upd ((thM N 0) 6) c (nI rk))) 7) c (-1))) 22 0 = nI c from e22N, cc]
        refine ⟨ii, ?_⟩
        rintro M1 rfl y rfl
        rw [show (stM (stM (stM (thM N 0) 6 (upd ((thM N 0) 6) c (nI rk))) 7 (upd ((stM (thM N 0) 6 (upd ((thM N 0) 6) c (nI rk))) 7) c (-1))) 8 (upd ((stM (stM (thM N 0) 6 (upd ((thM N 0) 6) c (nI rk))) 7 (upd ((stM (thM N 0) 6 (upd ((thM N 0) 6) c (nI rk))) 7) c (-1))) 8) c (-1))) 22 0 = nI c from e22N, cc]
        refine ⟨ii, ?_⟩
        rintro M1 rfl y ey y2 ey2 M1 eM
        have ey : y = nI c := ey.trans e22N
        rw [ey2, ey, nI_1] at eM
        subst eM
        exact sm_callLoop (M := clN0 (thM N 0) c (nI rk)) (c := c) rfl hc hp
