theorem RB.same {c j i : Nat} {M N : Mm} (h : RB c M N) (hc : cmp c j i) (e : j ≠ 26) : M j i = N j i := by
  have w := RR.same h hc
  unfold thM at w
  rw [stM_n _ _ e] at w
  exact w
/-- its finish -/
theorem RR_fin {c t a : Nat} {M N : Mm} {x y : Int32} (h : RR c M N) (ea : M 2 t = nI a) (hx : (x = -1 ∧ y = 16) ∨ ∃ f : Nat, f < a ∧ a ≤ 16 ∧ x = nI f ∧ y = nI f) : RR c (stM M 3 (upd (M 3) t x)) (stM N 3 (upd (N 3) t y)) := by
  have dx : Dv 3 x := by
    rcases hx with q | ⟨f, q1, q2, q3, _⟩
    · exact Or.inl q.1
    · exact Or.inr ⟨f, by omega, q3⟩
  refine ⟨h.1, R0_l (R0_r h.2.1 (no3 c)) (no3 c), Dm_u h.2.2.1 dx, h.2.2.2.1, ?_, h.2.2.2.2.2.1, h.2.2.2.2.2.2.1, h.2.2.2.2.2.2.2.1, h.2.2.2.2.2.2.2.2.1, ?_, h.2.2.2.2.2.2.2.2.2.2⟩
  · intro s hs
    show upd (M 3) t x s = -1 ∨ upd (M 3) t x s < M 2 s
    rw [upd_e]
    by_cases e : s = t
    · rw [if_pos e, e, ea]
      rcases hx with q | ⟨f, q1, q2, q3, _⟩
      · exact Or.inl q.1
      · exact Or.inr (by rw [q3, nI_ltE (by omega) (by omega)]; exact q1)
    · rw [if_neg e]; exact h.2.2.2.2.1 s hs
  · intro s hs
    show (upd (M 3) t x s = -1 ∧ upd (N 3) t y s = 16) ∨ (upd (M 3) t x s = upd (N 3) t y s ∧ ¬ upd (M 3) t x s = -1)
    rw [upd_e, upd_e]
    by_cases e : s = t
    · rw [if_pos e, if_pos e]
      rcases hx with q | ⟨f, q1, q2, q3, q4⟩
      · exact Or.inl q
      · exact Or.inr ⟨q3.trans q4.symm, by rw [q3]; exact nI_m1 (by omega)⟩
    · rw [if_neg e, if_neg e]; exact h.2.2.2.2.2.2.2.2.2.1 s hs
theorem finish_hv {c : Nat} {M N : Mm} (p0 p1 : Int32) (h : RB c M N) : HV (wpXl_finish p0 p1 M) (wpXm_finish p0 p1 N) := by
  rcases rng p0 (n := 7) (by omega) with hb | ⟨t, ht, rfl⟩
  · refine hv_x h 1 (fun post hp => Or.inr (Or.inr (sx_rqT0 hb (Or.inl ⟨rfl, hp⟩)))) (fun post hp => ?_)
    exact sm_isT0 hb ⟨fun _ => sm_bg0 hb (th_1 ⟨fun q => absurd q (by decide), fun _ => hp⟩), fun q => absurd rfl q⟩
  · have ht : t < 8 := by omega
    have e21 : M 21 t = N 21 t := h.same (c21 ht) (by decide)
    have e2 : M 2 t = N 2 t := h.same (c2 ht) (by decide)
    obtain ⟨a, ha, ea⟩ := RR.d h (j := 2) ht
    have eaN : N 2 t = nI a := e2.symm.trans ea
    have it : vp_in (nI t) 8 := inI ht (by decide)
    have ct : (nI t).toNatClampNeg = t := clI (by omega)
    rcases rng p1 (n := a) (by omega) with hb | ⟨f, hf, rfl⟩
    · refine hv_x h 2 (fun post hp => Or.inr (Or.inl (sx_rqT1 ht ⟨fun _ => Or.inr (Or.inl ⟨rfl, hp⟩), fun q => sx_actsOf ht ?_⟩))) (fun post hp => ?_)
      · rw [ea]
        exact ⟨fun w => absurd (hb.resolve_left q) (Int32.not_lt.mpr w), fun _ => Or.inr (Or.inl ⟨rfl, hp⟩)⟩
      · refine sm_isT1 ht ⟨fun q => absurd q (by decide), fun _ => ⟨it, ?_⟩⟩
        rintro y rfl
        rw [ct, eaN]
        refine sm_in0 hb ⟨fun _ => ?_, fun q => absurd rfl q⟩
        exact sm_bg ht (fun _ => th_2 ⟨fun q => absurd q (by decide), fun _ => hp⟩) (fun _ => th_2 ⟨fun q => absurd q (by decide), fun _ => hp⟩)
    · have le : nI f ≤ nI a := (nI_leE (by omega) (by omega)).mpr hf
      by_cases q21 : M 21 t = 0
      · by_cases qa : f = a
        · subst qa
          have hR := RR_fin (x := -1) (y := 16) h ea (Or.inl ⟨rfl, rfl⟩)
          refine hv_r hR (fun post hp => Or.inl (Or.inl (sx_rqT1 ht ⟨fun q => absurd q (nI_nn (by omega)), fun q => sx_actsOf ht ?_⟩))) (fun post hp => ?_)
          · rw [ea]
            refine ⟨fun _ => Or.inl (sx_rqN1 ht q21 ⟨it, ?_⟩), fun w => absurd le w⟩
            rintro y rfl
            rw [ct, ea]
            refine ⟨fun _ => ⟨it, ?_⟩, fun w => absurd rfl w⟩
            rintro M1 rfl
            exact hp
          · refine sm_isT1 ht ⟨fun q => absurd q (by decide), fun _ => ⟨it, ?_⟩⟩
            rintro y rfl
            rw [ct, eaN]
            refine sm_in1 hf (by omega) ⟨fun q => absurd q (by decide), fun _ => sm_bg ht (fun _ => th_0 ⟨fun _ => ⟨it, ?_⟩, fun q => absurd rfl q⟩) (fun q => absurd (e21.symm.trans q21) q)⟩
            rintro y rfl
            rw [show thM N 0 2 t = nI f from eaN]
            refine ⟨fun _ => ⟨it, ?_⟩, fun w => absurd rfl w⟩
            rintro M1 rfl
            exact hp
        · have hR := RR_fin (x := nI f) (y := nI f) h ea (Or.inr ⟨f, by omega, ha, rfl, rfl⟩)
          have ne : ¬ nI f = nI a := nI_ne (by omega) (by omega) qa
          refine hv_r hR (fun post hp => Or.inl (Or.inl (sx_rqT1 ht ⟨fun q => absurd q (nI_nn (by omega)), fun q => sx_actsOf ht ?_⟩))) (fun post hp => ?_)
          · rw [ea]
            refine ⟨fun _ => Or.inl (sx_rqN1 ht q21 ⟨it, ?_⟩), fun w => absurd le w⟩
            rintro y rfl
            rw [ct, ea]
            refine ⟨fun w => absurd w ne, fun _ => ⟨it, ?_⟩⟩
            rintro M1 rfl
            exact hp
          · refine sm_isT1 ht ⟨fun q => absurd q (by decide), fun _ => ⟨it, ?_⟩⟩
            rintro y rfl
            rw [ct, eaN]
            refine sm_in1 hf (by omega) ⟨fun q => absurd q (by decide), fun _ => sm_bg ht (fun _ => th_0 ⟨fun _ => ⟨it, ?_⟩, fun q => absurd rfl q⟩) (fun q => absurd (e21.symm.trans q21) q)⟩
            rintro y rfl
            rw [show thM N 0 2 t = nI a from eaN]
            refine ⟨fun w => absurd w ne, fun _ => ⟨it, ?_⟩⟩
            rintro M1 rfl
            exact hp
      · refine hv_x h 3 (fun post hp => Or.inr (Or.inl (sx_rqT1 ht ⟨fun q => absurd q (nI_nn (by omega)), fun q => sx_actsOf ht ?_⟩))) (fun post hp => ?_)
        · rw [ea]
          exact ⟨fun _ => Or.inr (sx_rqN0 ht q21 (Or.inr (Or.inr ⟨rfl, hp⟩))), fun w => absurd le w⟩
        · refine sm_isT1 ht ⟨fun q => absurd q (by decide), fun _ => ⟨it, ?_⟩⟩
          rintro y rfl
          rw [ct, eaN]
          exact sm_in1 hf (by omega) ⟨fun q => absurd q (by decide), fun _ => sm_bg ht (fun q => absurd (e21.trans q) q21) (fun _ => th_3 ⟨fun q => absurd q (by decide), fun _ => hp⟩)⟩
theorem step_hi {c : Nat} {M N : Mm} {o : Nat → Int64} (p0 : Int32) (h : RB c M N) : HI True o (wpXl_step p0 M o) (wpXm_step p0 N) := by
  rcases rng p0 (n := 7) (by omega) with hb | ⟨t, ht, rfl⟩
  · refine hi_x h 1 (by decide) (fun post hp => Or.inr (Or.inr (sx_rqT0 hb (Or.inl ⟨rfl, hp⟩)))) (fun post hp => ?_)
    exact sm_isT0 hb ⟨fun _ => th_1 ⟨fun q => absurd q (by decide), fun _ => hp⟩, fun q => absurd rfl q⟩
  · have ht : t < 8 := by omega
    have e14 : M 14 t = N 14 t := h.same (c14 ht) (by decide)
    have it : vp_in (nI t) 8 := inI ht (by decide)
    have ct : (nI t).toNatClampNeg = t := clI (by omega)
    by_cases q : M 14 t = 0
    · obtain ⟨r, M', N', a, b, d⟩ := turn_rel h ht q
      refine hi_r d (b := r) r (fun _ => rfl) (fun post hp => Or.inl (Or.inl (sx_rqT1 ht (Or.inl (sx_rqR1 ht q (a _ hp)))))) (fun post hp => ?_)
      refine sm_isT1 ht ⟨fun q => absurd q (by decide), fun _ => ⟨it, ?_⟩⟩
      rintro y rfl
      rw [ct]
      exact ⟨fun _ => th_0 ⟨fun _ => b _ hp, fun q => absurd rfl q⟩, fun w => absurd (e14.symm.trans q) w⟩
    · refine hi_x h 2 (by decide) (fun post hp => Or.inr (Or.inl (sx_rqT1 ht (Or.inr (sx_rqR0 ht q (Or.inr ⟨rfl, hp⟩)))))) (fun post hp => ?_)
      refine sm_isT1 ht ⟨fun q => absurd q (by decide), fun _ => ⟨it, ?_⟩⟩
      rintro y rfl
      rw [ct]
      exact ⟨fun w => absurd (e14.trans w) q, fun _ => th_2 ⟨fun q => absurd q (by decide), fun _ => hp⟩⟩
theorem lease_hv {c : Nat} {M N : Mm} (p0 : Int32) (h : RB c M N) : HV (wpXl_lease p0 M) (wpXm_lease p0 N) := by
  rcases rng p0 (n := 100) (by omega) with hb | ⟨n, hn, rfl⟩
  · refine hv_x h 1 (fun post hp => Or.inr ⟨fun _ => ⟨rfl, hp⟩, fun q => ⟨fun w => absurd (hb.resolve_left q) (Int32.not_lt.mpr w), fun _ => ⟨rfl, hp⟩⟩⟩) (fun post hp => ?_)
    exact sm_in0 hb ⟨fun _ => th_1 ⟨fun q => absurd q (by decide), fun _ => hp⟩, fun q => absurd rfl q⟩
  · have hR : RR c (stM M 25 (fun _ => nI n)) (stM (thM N 0) 25 (fun _ => nI n)) := RR_25 h (fun _ _ => rfl) (fun _ _ => trivial)
    refine hv_r hR (fun post hp => Or.inl ⟨fun q => absurd q (nI_nn (by omega)), fun _ => ⟨fun _ => ?_, fun w => absurd ((nI_leE (b := 100) (by omega) (by omega)).mpr hn) w⟩⟩) (fun post hp => ?_)
    · rintro M1 rfl
      exact hp
    · refine sm_in1 (n := 100) hn (by omega) ⟨fun q => absurd q (by decide), fun _ => th_0 ⟨fun _ => ?_, fun q => absurd rfl q⟩⟩
      rintro M1 rfl
      exact hp
/-- the heir -/
theorem hrL_eq {c t : Nat} {M N : Mm} (h : ∀ s, s < 8 → M 14 s = N 14 s ∧ M 2 s = N 2 s) : ∀ d, hrL M t d = hrL N t d := by
  intro d
  induction d with
  | zero => rfl
  | succ d ih =>
    have q := h ((t + (7 - d)) % 8) (by omega)
    rw [hrL, hrL, ih, q.1, q.2]
theorem hrL_D {t : Nat} {M : Mm} : ∀ d, Dv 7 (hrL M t d) := by
  intro d
  induction d with
  | zero => exact Or.inl rfl
  | succ d ih =>
    rw [hrL]
    by_cases q : M 14 ((t + (7 - d)) % 8) = 0 ∧ ¬ M 2 ((t + (7 - d)) % 8) ≤ 0
    · rw [if_pos q]; exact Or.inr ⟨(t + (7 - d)) % 8, by omega, rfl⟩
    · rw [if_neg q]; exact ih
def klM (M : Mm) (t : Nat) : Mm := stM (stM M 14 (upd (M 14) t 2)) 19 (upd (M 19) t (M 24 0 + M 25 0))
theorem RR_kl {c t : Nat} {M N : Mm} (h : RR c M N) : RR c (klM M t) (klM N t) := by
  unfold klM
  have q := RR_14d (t := t) h
  rw [h.same (c24 (c := c)), h.same (c25 (c := c))]
  exact RR_19 q (updEq (a := 19) h) (fun _ _ => trivial)
theorem kill_hv {c : Nat} {M N : Mm} (p0 : Int32) (h : RB c M N) : HV (wpXl_kill p0 M) (wpXm_kill p0 N) := by
  rcases rng p0 (n := 7) (by omega) with hb | ⟨t, ht, rfl⟩
  · refine hv_x h 1 (fun post hp => Or.inr (Or.inr (sx_rqT0 hb (Or.inl ⟨rfl, hp⟩)))) (fun post hp => ?_)
    exact sm_isT0 hb ⟨fun _ => th_1 ⟨fun q => absurd q (by decide), fun _ => hp⟩, fun q => absurd rfl q⟩
  · have ht : t < 8 := by omega
    have e14 : M 14 t = N 14 t := h.same (c14 ht) (by decide)
    have it : vp_in (nI t) 8 := inI ht (by decide)
    have ct : (nI t).toNatClampNeg = t := clI (by omega)
    by_cases q : M 14 t = 0
    · have e25 : M 25 0 = N 25 0 := h.same c25 (by decide)
      have hK : RR c (klM M t) (klM (thM N 0) t) := RR_kl h
      -- what both do then, from any related pair of memories in which t is dead
      have go : ∀ (A B : Mm), RR c A B → A 14 t = 2 → ∃ M' N' : Mm, RR c M' N' ∧ (∀ post : Mm → Prop, post M' → wpXs_nextRunningBehind (nI t) A (fun r M1 => wpXc_passOn (nI t) r M1 post)) ∧ (∀ post : Mm → Prop, post N' → wpXm_heir (nI t) (rsN B t) (fun r M1 => ∃ n, wlXm_kill_114 post n (nI t) r 0 M1)) := by
        intro A B hAB hA
        have hs : RR c A (rsN B t) := RR_rs hAB (fun w => absurd (hA.symm.trans w) (by decide))
        have he : hrL A t 7 = hrL (rsN B t) t 7 := hrL_eq (c := c) (fun s hs2 => ⟨hs.same (c14 hs2), hs.same (c2 hs2)⟩) 7
        refine ⟨psM A t c (hrL A t 7), psM (rsN B t) t c (hrL A t 7), RR_ps hs (hrL_D 7), fun post hp => sx_heir ht (sx_passOn hs.1 hp), fun post hp => sm_heir ht (sm_killLoop hs.nN ?_)⟩
        rw [← he]
        exact hp
      have eX : ∀ post : Mm → Prop, (M 25 0 = 0 → wpXs_nextRunningBehind (nI t) (frM (klM M t) t) (fun r M1 => wpXc_passOn (nI t) r M1 post)) → (¬ M 25 0 = 0 → wpXs_nextRunningBehind (nI t) (klM M t) (fun r M1 => wpXc_passOn (nI t) r M1 post)) → wpXs_kill (nI t) M post (fun _ _ => False) := by
        intro post p1 p2
        refine Or.inl (sx_rqT1 ht (Or.inl (sx_rqR1 ht q ⟨it, ?_⟩)))
        rintro M1 rfl y rfl y rfl y rfl
        refine ⟨it, ?_⟩
        rintro M1 rfl y rfl
        rw [ct]
        exact ⟨fun w => sx_freeAllOf (p1 w), fun w => p2 w⟩
      have eN : ∀ post : Mm → Prop, (M 25 0 = 0 → wpXm_heir (nI t) (rsN (frM (klM (thM N 0) t) t) t) (fun r M1 => ∃ n, wlXm_kill_114 post n (nI t) r 0 M1)) → (¬ M 25 0 = 0 → wpXm_heir (nI t) (rsN (klM (thM N 0) t) t) (fun r M1 => ∃ n, wlXm_kill_114 post n (nI t) r 0 M1)) → wpXm_kill (nI t) N post := by
        intro post p1 p2
        refine sm_isT1 ht ⟨fun q => absurd q (by decide), fun _ => ⟨it, ?_⟩⟩
        rintro y rfl
        rw [ct]
        refine ⟨fun _ => th_0 ⟨fun _ => ⟨it, ?_⟩, fun q => absurd rfl q⟩, fun w => absurd (e14.symm.trans q) w⟩
        rintro M1 rfl y rfl y rfl y rfl
        refine ⟨it, ?_⟩
        rintro M1 rfl y rfl
        refine ⟨fun w => sm_free ⟨it, ?_⟩, fun w => ⟨it, ?_⟩⟩
        · rintro M1 rfl
          refine ⟨it, ?_⟩
          rintro M1 rfl
          refine ⟨it, ?_⟩
          rintro M1 rfl
          exact p1 (e25.trans w)
        · rintro M1 rfl
          refine ⟨it, ?_⟩
          rintro M1 rfl
          refine ⟨it, ?_⟩
          rintro M1 rfl
          exact p2 (fun z => w (e25.symm.trans z))
      have k14 : klM M t 14 t = 2 := pk_us
      by_cases z : M 25 0 = 0
      · obtain ⟨M', N', r1, r2, r3⟩ := go _ _ (RR_fr (t := t) hK) k14
        exact hv_r r1 (fun post hp => Or.inl (eX _ (fun _ => r2 _ hp) (fun w => absurd z w))) (fun post hp => eN _ (fun _ => r3 _ hp) (fun w => absurd z w))
      · obtain ⟨M', N', r1, r2, r3⟩ := go _ _ hK k14
        exact hv_r r1 (fun post hp => Or.inl (eX _ (fun w => absurd w z) (fun _ => r2 _ hp))) (fun post hp => eN _ (fun w => absurd w z) (fun _ => r3 _ hp))
    · refine hv_x h 2 (fun post hp => Or.inr (Or.inl (sx_rqT1 ht (Or.inr (sx_rqR0 ht q (Or.inr ⟨rfl, hp⟩)))))) (fun post hp => ?_)
      refine sm_isT1 ht ⟨fun q => absurd q (by decide), fun _ => ⟨it, ?_⟩⟩
      rintro y rfl
      rw [ct]
      exact ⟨fun w => absurd (e14.trans w) q, fun _ => th_2 ⟨fun q => absurd q (by decide), fun _ => hp⟩⟩
