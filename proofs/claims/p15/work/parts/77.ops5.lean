theorem kn (x : Int32) {c : Nat} (hc : c ≤ 100) : ((x < 0 ∨ nI c ≤ x) ∧ (x < 0 ∨ nI c - 1 < x)) ∨ ∃ j : Nat, j < c ∧ x = nI j ∧ ¬ (nI j < 0 ∨ nI c - 1 < nI j) := by
  have e : (nI c - 1).toInt = (c : Int) - 1 := pk_sub_toInt (a := c) (b := 1) (by omega) (by omega)
  rcases Classical.em (x < 0) with q | q
  · exact Or.inl ⟨Or.inl q, Or.inl q⟩
  · obtain ⟨j, hj, ej⟩ := nI_of q
    have ej2 : x.toInt = (j : Int) := by rw [ej, nI_toInt hj]
    rcases Nat.lt_or_ge j c with w | w
    · refine Or.inr ⟨j, w, ej, fun z => z.elim (fun z => q (by rw [ej]; exact z)) (fun z => ?_)⟩
      rw [← ej] at z
      have z := Int32.lt_iff_toInt_lt.mp z
      omega
    · refine Or.inl ⟨Or.inr ?_, Or.inr ?_⟩
      · rw [ej]; exact (nI_leI (by omega) hj).mpr w
      · exact Int32.lt_iff_toInt_lt.mpr (by omega)
theorem unit_hi {c : Nat} {M N : Mm} {o : Nat → Int64} (p0 p1 : Int32) (h : RB c M N) : HI True o (wpXl_unit p0 p1 M o) (wpXm_unit p0 p1 N) := by
  rcases rng p0 (n := 9) (by omega) with hb | ⟨u, hu, rfl⟩
  · refine hi_x h 1 (by decide) (fun post hp => Or.inr ⟨fun _ => ⟨rfl, hp⟩, fun q => ⟨fun w => absurd w (lt8 (n := 9) (by omega) (hb.resolve_left q)), fun _ => ⟨rfl, hp⟩⟩⟩) (fun post hp => ?_)
    exact sm_in0 hb ⟨fun _ => th_1 ⟨fun q => absurd q (by decide), fun _ => hp⟩, fun q => absurd rfl q⟩
  · have hu : u < 10 := by omega
    have iu : vp_in (nI u) 10 := inI hu (by decide)
    have cu : (nI u).toNatClampNeg = u := clI (by omega)
    have l10 : nI u < 10 := (nI_ltE (b := 10) (by omega) (by omega)).mpr hu
    rcases rng p1 (n := 1) (by omega) with hb | ⟨w, hw, rfl⟩
    · have n0 : ¬ p1 = 0 := by
        rintro rfl; exact hb.elim (by decide) (by decide)
      have n1 : ¬ p1 = 1 := by
        rintro rfl; exact hb.elim (by decide) (by decide)
      refine hi_x h 1 (by decide) (fun post hp => Or.inr ⟨fun q => absurd q (nI_nn (by omega)), fun _ => ⟨fun _ => ⟨fun q => absurd q n0, fun _ => ⟨fun q => absurd q n1, fun _ => ⟨rfl, hp⟩⟩⟩, fun q => absurd l10 q⟩⟩) (fun post hp => ?_)
      exact sm_in1 (n := 9) (by omega) (by omega) ⟨fun q => absurd q (by decide), fun _ => sm_in0 hb ⟨fun _ => th_1 ⟨fun q => absurd q (by decide), fun _ => hp⟩, fun q => absurd rfl q⟩⟩
    · rcases (show w = 0 ∨ w = 1 by omega) with q | q
      · subst q
        refine hi_r h (b := N 4 u) (M 4 u) (fun _ => h.same (c4 hu) (by decide)) (fun post hp => Or.inl ⟨fun q => absurd q (nI_nn (by omega)), fun _ => ⟨fun _ => ⟨fun _ => ⟨iu, ?_⟩, fun q => absurd rfl q⟩, fun q => absurd l10 q⟩⟩) (fun post hp => ?_)
        · rintro y rfl
          rw [cu]; exact hp
        · refine sm_in1 (n := 9) (by omega) (by omega) ⟨fun q => absurd q (by decide), fun _ => sm_in1 (n := 1) hw (by omega) ⟨fun q => absurd q (by decide), fun _ => th_0 ⟨fun _ => ⟨fun _ => ⟨iu, ?_⟩, fun q => absurd rfl q⟩, fun q => absurd rfl q⟩⟩⟩
          rintro y rfl
          rw [cu]; exact hp
      · subst q
        refine hi_r h (b := N 5 u) (M 5 u) (fun _ => h.same (c5 hu) (by decide)) (fun post hp => Or.inl ⟨fun q => absurd q (nI_nn (by omega)), fun _ => ⟨fun _ => ⟨fun q => absurd q (by decide), fun _ => ⟨fun _ => ⟨iu, ?_⟩, fun q => absurd rfl q⟩⟩, fun q => absurd l10 q⟩⟩) (fun post hp => ?_)
        · rintro y rfl
          rw [cu]; exact hp
        · refine sm_in1 (n := 9) (by omega) (by omega) ⟨fun q => absurd q (by decide), fun _ => sm_in1 (n := 1) hw (by omega) ⟨fun q => absurd q (by decide), fun _ => th_0 ⟨fun _ => ⟨fun q => absurd q (by decide), fun _ => ⟨iu, ?_⟩⟩, fun q => absurd rfl q⟩⟩⟩
          rintro y rfl
          rw [cu]; exact hp
theorem no4 {p1 : Int32} {n : Nat} (hn : n < 1000) (hb : p1 < 0 ∨ nI n < p1) : ∀ k, k ≤ n → ¬ p1 = nI k := by
  rintro k hk rfl
  exact hb.elim (nI_nn (by omega)) (fun w => absurd ((nI_ltE (by omega) (by omega)).mp w) (by omega))
theorem callAt_hi {c : Nat} {M N : Mm} {o : Nat → Int64} (p0 p1 : Int32) (h : RB c M N) : HI True o (wpXl_callAt p0 p1 M o) (wpXm_callAt p0 p1 N) := by
  have hl := h.1.2
  have e22 := h.1.1
  have e22N : N 22 0 = nI c := (RR.nN h).1
  rcases kn p0 (c := c) (by omega) with ⟨hb, hb2⟩ | ⟨i, hi, rfl, hg⟩
  · refine hi_x h 1 (by decide) (fun post hp => Or.inr ⟨fun _ => ⟨fun _ => ⟨rfl, hp⟩, fun q => absurd rfl q⟩, fun q => ?_⟩) (fun post hp => ?_)
    · rintro y rfl
      rw [e22]
      exact ⟨fun _ => ⟨fun _ => ⟨rfl, hp⟩, fun q => absurd rfl q⟩, fun w => absurd (hb.resolve_left q) w⟩
    · rintro y rfl y rfl
      rw [e22N]
      exact sm_in0 hb2 ⟨fun _ => th_1 ⟨fun q => absurd q (by decide), fun _ => hp⟩, fun q => absurd rfl q⟩
  · have ii : vp_in (nI i) 16 := inI (by omega) (by decide)
    have ci : (nI i).toNatClampNeg = i := clI (by omega)
    have gX : ∀ (post : Int32 → Mm → Prop) (px : Nat → Mm → Prop), ((p1 = 0 → post (M 6 i) M) ∧ (p1 = 1 → post (M 7 i) M) ∧ (p1 = 2 → post (M 8 i) M) ∧ (p1 = 3 → (M 9 i = 0 → post 0 M) ∧ (¬ M 9 i = 0 → post 1 M)) ∧ (¬ p1 = 0 → ¬ p1 = 1 → ¬ p1 = 2 → ¬ p1 = 3 → px 0 M)) → wpXs_callAt (nI i) p1 M post px := by
      intro post px hp
      refine sx_isKnown h.1 (by omega) (fun _ => ⟨fun q => absurd q (by decide), fun _ => ?_⟩) (fun q => absurd hi q)
      refine ⟨fun w => ⟨ii, ?_⟩, fun w0 => ⟨fun w => ⟨ii, ?_⟩, fun w1 => ⟨fun w => ⟨ii, ?_⟩, fun w2 => ⟨fun w => ⟨ii, ?_⟩, fun w3 => hp.2.2.2.2 w0 w1 w2 w3⟩⟩⟩⟩
      · rintro y rfl; rw [ci]; exact hp.1 w
      · rintro y rfl; rw [ci]; exact hp.2.1 w
      · rintro y rfl; rw [ci]; exact hp.2.2.1 w
      · rintro y rfl; rw [ci]; exact hp.2.2.2.1 w
    rcases rng p1 (n := 3) (by omega) with hb | ⟨w, hw, rfl⟩
    · have n := no4 (by omega) hb
      refine hi_x h 1 (by decide) (fun post hp => Or.inr (gX _ _ ⟨fun q => absurd q (n 0 (by omega)), fun q => absurd q (n 1 (by omega)), fun q => absurd q (n 2 (by omega)), fun q => absurd q (n 3 (by omega)), fun _ _ _ _ => ⟨rfl, hp⟩⟩)) (fun post hp => ?_)
      rintro y rfl y rfl
      rw [e22N]
      exact sm_in (fun q => absurd q hg) (fun _ => ⟨fun q => absurd q (by decide), fun _ => sm_in0 hb ⟨fun _ => th_1 ⟨fun q => absurd q (by decide), fun _ => hp⟩, fun q => absurd rfl q⟩⟩)
    · have gN : ∀ (post : Int32 → Mm → Prop), ((nI w = 0 → post (N 6 i) (thM N 0)) ∧ (nI w = 1 → post (N 7 i) (thM N 0)) ∧ (nI w = 2 → post (N 8 i) (thM N 0)) ∧ (¬ nI w = 0 → ¬ nI w = 1 → ¬ nI w = 2 → (N 9 i = 0 → post 0 (thM N 0)) ∧ (¬ N 9 i = 0 → post 1 (thM N 0)))) → wpXm_callAt (nI i) (nI w) N post := by
        intro post hp
        rintro y rfl y rfl
        rw [e22N]
        refine sm_in (fun q => absurd q hg) (fun _ => ⟨fun q => absurd q (by decide), fun _ => sm_in1 (n := 3) hw (by omega) ⟨fun q => absurd q (by decide), fun _ => th_0 ⟨fun _ => ?_, fun q => absurd rfl q⟩⟩⟩)
        refine ⟨fun w => ⟨ii, ?_⟩, fun w0 => ⟨fun w => ⟨ii, ?_⟩, fun w1 => ⟨fun w => ⟨ii, ?_⟩, fun w2 => ⟨ii, ?_⟩⟩⟩⟩
        · rintro y rfl; rw [ci]; exact hp.1 w
        · rintro y rfl; rw [ci]; exact hp.2.1 w
        · rintro y rfl; rw [ci]; exact hp.2.2.1 w
        · rintro y rfl; rw [ci]; exact hp.2.2.2 w0 w1 w2
      rcases (show w = 0 ∨ w = 1 ∨ w = 2 ∨ w = 3 by omega) with q | q | q | q
      · subst q
        exact hi_r h (b := N 6 i) (M 6 i) (fun _ => h.same (c6 hi) (by decide)) (fun post hp => Or.inl (gX _ _ ⟨fun _ => hp, fun q => absurd q (by decide), fun q => absurd q (by decide), fun q => absurd q (by decide), fun q => absurd rfl q⟩)) (fun post hp => gN _ ⟨fun _ => hp, fun q => absurd q (by decide), fun q => absurd q (by decide), fun q => absurd rfl q⟩)
      · subst q
        exact hi_r h (b := N 7 i) (M 7 i) (fun _ => h.same (c7 hi) (by decide)) (fun post hp => Or.inl (gX _ _ ⟨fun q => absurd q (by decide), fun _ => hp, fun q => absurd q (by decide), fun q => absurd q (by decide), fun _ q => absurd rfl q⟩)) (fun post hp => gN _ ⟨fun q => absurd q (by decide), fun _ => hp, fun q => absurd q (by decide), fun _ q => absurd rfl q⟩)
      · subst q
        exact hi_r h (b := N 8 i) (M 8 i) (fun _ => h.same (c8 hi) (by decide)) (fun post hp => Or.inl (gX _ _ ⟨fun q => absurd q (by decide), fun q => absurd q (by decide), fun _ => hp, fun q => absurd q (by decide), fun _ _ q => absurd rfl q⟩)) (fun post hp => gN _ ⟨fun q => absurd q (by decide), fun q => absurd q (by decide), fun _ => hp, fun _ _ q => absurd rfl q⟩)
      · subst q
        have e9 : M 9 i = N 9 i := h.same (c9 hi) (by decide)
        by_cases z : M 9 i = 0
        · exact hi_r h (b := 0) 0 (fun _ => rfl) (fun post hp => Or.inl (gX _ _ ⟨fun q => absurd q (by decide), fun q => absurd q (by decide), fun q => absurd q (by decide), fun _ => ⟨fun _ => hp, fun v => absurd z v⟩, fun _ _ _ q => absurd rfl q⟩)) (fun post hp => gN _ ⟨fun q => absurd q (by decide), fun q => absurd q (by decide), fun q => absurd q (by decide), fun _ _ _ => ⟨fun _ => hp, fun v => absurd (e9.symm.trans z) v⟩⟩)
        · exact hi_r h (b := 1) 1 (fun _ => rfl) (fun post hp => Or.inl (gX _ _ ⟨fun q => absurd q (by decide), fun q => absurd q (by decide), fun q => absurd q (by decide), fun _ => ⟨fun v => absurd v z, fun _ => hp⟩, fun _ _ _ q => absurd rfl q⟩)) (fun post hp => gN _ ⟨fun q => absurd q (by decide), fun q => absurd q (by decide), fun q => absurd q (by decide), fun _ _ _ => ⟨fun v => absurd (e9.trans v) z, fun _ => hp⟩⟩)
theorem cR {c j i : Nat} (hj : 10 ≤ j ∧ j ≤ 13) (hi : i < 100) : cmp c j i := by
  unfold cmp
  exact Or.inr (Or.inr (Or.inr (Or.inr (Or.inr (Or.inr (Or.inl ⟨hj.1, hj.2, hi⟩))))))
theorem row_hi {c : Nat} {M N : Mm} {o : Nat → Int64} (p0 p1 : Int32) (h : RB c M N) : HI True o (wpXl_row p0 p1 M o) (wpXm_row p0 p1 N) := by
  obtain ⟨r, hr, er⟩ := RR.d h (j := 23) (i := 0) (by decide)
  have erN : N 23 0 = nI r := (h.same c23 (by decide)).symm.trans er
  rcases kn p0 (c := r) hr with ⟨hb, hb2⟩ | ⟨i, hi, rfl, hg⟩
  · refine hi_x h 1 (by decide) (fun post hp => Or.inr ⟨fun _ => ⟨fun _ => ⟨rfl, hp⟩, fun q => absurd rfl q⟩, fun q => ?_⟩) (fun post hp => ?_)
    · rintro y rfl
      rw [er]
      exact ⟨fun _ => ⟨fun _ => ⟨rfl, hp⟩, fun q => absurd rfl q⟩, fun w => absurd (hb.resolve_left q) w⟩
    · rintro y rfl y rfl
      rw [erN]
      exact sm_in0 hb2 ⟨fun _ => th_1 ⟨fun q => absurd q (by decide), fun _ => hp⟩, fun q => absurd rfl q⟩
  · have ii : vp_in (nI i) 100 := inI (by omega) (by decide)
    have ci : (nI i).toNatClampNeg = i := clI (by omega)
    have gX : ∀ (post : Int32 → Mm → Prop) (px : Nat → Mm → Prop), ((p1 = 0 → post (M 10 i) M) ∧ (p1 = 1 → post (M 11 i) M) ∧ (p1 = 2 → post (M 12 i) M) ∧ (p1 = 3 → post (M 13 i) M) ∧ (¬ p1 = 0 → ¬ p1 = 1 → ¬ p1 = 2 → ¬ p1 = 3 → px 0 M)) → wpXs_row (nI i) p1 M post px := by
      intro post px hp
      refine ⟨fun q => absurd q (nI_nn (by omega)), fun _ => ?_⟩
      rintro y rfl
      rw [er]
      refine ⟨fun q => absurd ((nI_leE (by omega) (by omega)).mp q) (by omega), fun _ => ⟨fun q => absurd q (by decide), fun _ => ?_⟩⟩
      refine ⟨fun w => ⟨ii, ?_⟩, fun w0 => ⟨fun w => ⟨ii, ?_⟩, fun w1 => ⟨fun w => ⟨ii, ?_⟩, fun w2 => ⟨fun w => ⟨ii, ?_⟩, fun w3 => hp.2.2.2.2 w0 w1 w2 w3⟩⟩⟩⟩
      · rintro y rfl; rw [ci]; exact hp.1 w
      · rintro y rfl; rw [ci]; exact hp.2.1 w
      · rintro y rfl; rw [ci]; exact hp.2.2.1 w
      · rintro y rfl; rw [ci]; exact hp.2.2.2.1 w
    rcases rng p1 (n := 3) (by omega) with hb | ⟨w, hw, rfl⟩
    · have n := no4 (by omega) hb
      refine hi_x h 1 (by decide) (fun post hp => Or.inr (gX _ _ ⟨fun q => absurd q (n 0 (by omega)), fun q => absurd q (n 1 (by omega)), fun q => absurd q (n 2 (by omega)), fun q => absurd q (n 3 (by omega)), fun _ _ _ _ => ⟨rfl, hp⟩⟩)) (fun post hp => ?_)
      rintro y rfl y rfl
      rw [erN]
      exact sm_in (fun q => absurd q hg) (fun _ => ⟨fun q => absurd q (by decide), fun _ => sm_in0 hb ⟨fun _ => th_1 ⟨fun q => absurd q (by decide), fun _ => hp⟩, fun q => absurd rfl q⟩⟩)
    · have gN : ∀ (post : Int32 → Mm → Prop), ((nI w = 0 → post (N 10 i) (thM N 0)) ∧ (nI w = 1 → post (N 11 i) (thM N 0)) ∧ (nI w = 2 → post (N 12 i) (thM N 0)) ∧ (¬ nI w = 0 → ¬ nI w = 1 → ¬ nI w = 2 → post (N 13 i) (thM N 0))) → wpXm_row (nI i) (nI w) N post := by
        intro post hp
        rintro y rfl y rfl
        rw [erN]
        refine sm_in (fun q => absurd q hg) (fun _ => ⟨fun q => absurd q (by decide), fun _ => sm_in1 (n := 3) hw (by omega) ⟨fun q => absurd q (by decide), fun _ => th_0 ⟨fun _ => ?_, fun q => absurd rfl q⟩⟩⟩)
        refine ⟨fun w => ⟨ii, ?_⟩, fun w0 => ⟨fun w => ⟨ii, ?_⟩, fun w1 => ⟨fun w => ⟨ii, ?_⟩, fun w2 => ⟨ii, ?_⟩⟩⟩⟩
        · rintro y rfl; rw [ci]; exact hp.1 w
        · rintro y rfl; rw [ci]; exact hp.2.1 w
        · rintro y rfl; rw [ci]; exact hp.2.2.1 w
        · rintro y rfl; rw [ci]; exact hp.2.2.2 w0 w1 w2
      have i100 : i < 100 := by omega
      rcases (show w = 0 ∨ w = 1 ∨ w = 2 ∨ w = 3 by omega) with q | q | q | q
      · subst q
        exact hi_r h (b := N 10 i) (M 10 i) (fun _ => h.same (cR (by decide) i100) (by decide)) (fun post hp => Or.inl (gX _ _ ⟨fun _ => hp, fun q => absurd q (by decide), fun q => absurd q (by decide), fun q => absurd q (by decide), fun q => absurd rfl q⟩)) (fun post hp => gN _ ⟨fun _ => hp, fun q => absurd q (by decide), fun q => absurd q (by decide), fun q => absurd rfl q⟩)
      · subst q
        exact hi_r h (b := N 11 i) (M 11 i) (fun _ => h.same (cR (by decide) i100) (by decide)) (fun post hp => Or.inl (gX _ _ ⟨fun q => absurd q (by decide), fun _ => hp, fun q => absurd q (by decide), fun q => absurd q (by decide), fun _ q => absurd rfl q⟩)) (fun post hp => gN _ ⟨fun q => absurd q (by decide), fun _ => hp, fun q => absurd q (by decide), fun _ q => absurd rfl q⟩)
      · subst q
        exact hi_r h (b := N 12 i) (M 12 i) (fun _ => h.same (cR (by decide) i100) (by decide)) (fun post hp => Or.inl (gX _ _ ⟨fun q => absurd q (by decide), fun q => absurd q (by decide), fun _ => hp, fun q => absurd q (by decide), fun _ _ q => absurd rfl q⟩)) (fun post hp => gN _ ⟨fun q => absurd q (by decide), fun q => absurd q (by decide), fun _ => hp, fun _ _ q => absurd rfl q⟩)
      · subst q
        exact hi_r h (b := N 13 i) (M 13 i) (fun _ => h.same (cR (by decide) i100) (by decide)) (fun post hp => Or.inl (gX _ _ ⟨fun q => absurd q (by decide), fun q => absurd q (by decide), fun q => absurd q (by decide), fun _ => hp, fun _ _ _ q => absurd rfl q⟩)) (fun post hp => gN _ ⟨fun q => absurd q (by decide), fun q => absurd q (by decide), fun q => absurd q (by decide), fun _ _ _ => hp⟩)
theorem thread_hi {c : Nat} {M N : Mm} {o : Nat → Int64} (p0 p1 : Int32) (h : RB c M N) : HI (¬ p1 = 4 ∨ ∀ t, t < 8 → M 17 t = N 17 t) o (wpXl_thread p0 p1 M o) (wpXm_thread p0 p1 N) := by
  rcases rng p0 (n := 7) (by omega) with hb | ⟨t, ht, rfl⟩
  · refine hi_x h 1 (by decide) (fun post hp => Or.inr (Or.inr (sx_rqT0 hb ⟨rfl, hp⟩))) (fun post hp => ?_)
    exact sm_isT0 hb ⟨fun _ => th_1 ⟨fun q => absurd q (by decide), fun _ => hp⟩, fun q => absurd rfl q⟩
  · have ht : t < 8 := by omega
    have it : vp_in (nI t) 8 := inI ht (by decide)
    have ct : (nI t).toNatClampNeg = t := clI (by omega)
    have gX2 : ∀ (w : Nat) (post : Int32 → Mm → Prop), w ≤ 5 → ((nI w = 0 → post (M 14 t) M) ∧ (nI w = 1 → post (M 15 t) M) ∧ (nI w = 2 → post (M 16 t) M) ∧ (nI w = 3 → post (nI (cnt (lkB (M 4) (nI t)) 10)) M) ∧ (nI w = 4 → post (M 17 t) M) ∧ (nI w = 5 → post (M 18 t) M)) → wpXs_thread (nI t) (nI w) M post (fun _ _ => False) := by
      intro w post hw hp
      refine Or.inl (sx_rqT1 ht ⟨fun w => ⟨it, ?_⟩, fun w0 => ⟨fun w => ⟨it, ?_⟩, fun w1 => ⟨fun w => ⟨it, ?_⟩, fun w2 => ⟨fun w => sx_lockedByCount (hp.2.2.2.1 w), fun w3 => ⟨fun w => ⟨it, ?_⟩, fun w4 => ⟨fun w => ⟨it, ?_⟩, fun w5 => ?_⟩⟩⟩⟩⟩⟩)
      · rintro y rfl; rw [ct]; exact hp.1 w
      · rintro y rfl; rw [ct]; exact hp.2.1 w
      · rintro y rfl; rw [ct]; exact hp.2.2.1 w
      · rintro y rfl; rw [ct]; exact hp.2.2.2.2.1 w
      · rintro y rfl; rw [ct]; exact hp.2.2.2.2.2 w
      · rcases (show w = 0 ∨ w = 1 ∨ w = 2 ∨ w = 3 ∨ w = 4 ∨ w = 5 by omega) with q | q | q | q | q | q <;> subst q
        · exact w0 rfl
        · exact w1 rfl
        · exact w2 rfl
        · exact w3 rfl
        · exact w4 rfl
        · exact w5 rfl
    rcases rng p1 (n := 5) (by omega) with hb | ⟨w, hw, rfl⟩
    · have n := no4 (by omega) hb
      refine hi_x h 1 (by decide) (fun post hp => Or.inr (Or.inl (sx_rqT1 ht ⟨fun q => absurd q (n 0 (by omega)), fun _ => ⟨fun q => absurd q (n 1 (by omega)), fun _ => ⟨fun q => absurd q (n 2 (by omega)), fun _ => ⟨fun q => absurd q (n 3 (by omega)), fun _ => ⟨fun q => absurd q (n 4 (by omega)), fun _ => ⟨fun q => absurd q (n 5 (by omega)), fun _ => ⟨rfl, hp⟩⟩⟩⟩⟩⟩⟩))) (fun post hp => ?_)
      exact sm_isT1 ht ⟨fun q => absurd q (by decide), fun _ => sm_in0 hb ⟨fun _ => th_1 ⟨fun q => absurd q (by decide), fun _ => hp⟩, fun q => absurd rfl q⟩⟩
    · have gN : ∀ post : Int32 → Mm → Prop, ((nI w = 0 → post (N 14 t) (thM N 0)) ∧ (nI w = 1 → post (N 15 t) (thM N 0)) ∧ (nI w = 2 → post (N 16 t) (thM N 0)) ∧ (nI w = 3 → post (nI (cnt (lkB (N 4) (nI t)) 10)) (thM N 0)) ∧ (nI w = 4 → post (N 17 t) (thM N 0)) ∧ (¬ nI w = 0 → ¬ nI w = 1 → ¬ nI w = 2 → ¬ nI w = 3 → ¬ nI w = 4 → post (N 18 t) (thM N 0))) → wpXm_thread (nI t) (nI w) N post := by
        intro post hp
        refine sm_isT1 ht ⟨fun q => absurd q (by decide), fun _ => sm_in1 (n := 5) hw (by omega) ⟨fun q => absurd q (by decide), fun _ => th_0 ⟨fun _ => sm_threadLoop ?_, fun q => absurd rfl q⟩⟩⟩
        rw [wlXm_thread_38]
        refine ⟨fun _ => ?_, fun q => absurd (by decide) q⟩
        refine ⟨fun w => ⟨it, ?_⟩, fun w0 => ⟨fun w => ⟨it, ?_⟩, fun w1 => ⟨fun w => ⟨it, ?_⟩, fun w2 => ⟨fun w => hp.2.2.2.1 w, fun w3 => ⟨fun w => ⟨it, ?_⟩, fun w4 => ⟨it, ?_⟩⟩⟩⟩⟩⟩
        · rintro y rfl; rw [ct]; exact hp.1 w
        · rintro y rfl; rw [ct]; exact hp.2.1 w
        · rintro y rfl; rw [ct]; exact hp.2.2.1 w
        · rintro y rfl; rw [ct]; exact hp.2.2.2.2.1 w
        · rintro y rfl; rw [ct]; exact hp.2.2.2.2.2 w0 w1 w2 w3 w4
      have ec : cnt (lkB (M 4) (nI t)) 10 = cnt (lkB (N 4) (nI t)) 10 := cnt_eq (fun u hu => by unfold lkB; rw [h.same (c4 hu) (by decide)])
      rcases (show w = 0 ∨ w = 1 ∨ w = 2 ∨ w = 3 ∨ w = 4 ∨ w = 5 by omega) with q | q | q | q | q | q
      · subst q
        exact hi_r h (b := N 14 t) (M 14 t) (fun _ => h.same (c14 ht) (by decide)) (fun post hp => Or.inl (gX2 _ _ hw ⟨fun _ => hp, fun q => absurd q (by decide), fun q => absurd q (by decide), fun q => absurd q (by decide), fun q => absurd q (by decide), fun q => absurd q (by decide)⟩)) (fun post hp => gN _ ⟨fun _ => hp, fun q => absurd q (by decide), fun q => absurd q (by decide), fun q => absurd q (by decide), fun q => absurd q (by decide), fun q => absurd rfl q⟩)
      · subst q
        exact hi_r h (b := N 15 t) (M 15 t) (fun _ => h.same (c15 ht) (by decide)) (fun post hp => Or.inl (gX2 _ _ hw ⟨fun q => absurd q (by decide), fun _ => hp, fun q => absurd q (by decide), fun q => absurd q (by decide), fun q => absurd q (by decide), fun q => absurd q (by decide)⟩)) (fun post hp => gN _ ⟨fun q => absurd q (by decide), fun _ => hp, fun q => absurd q (by decide), fun q => absurd q (by decide), fun q => absurd q (by decide), fun _ q => absurd rfl q⟩)
      · subst q
        exact hi_r h (b := N 16 t) (M 16 t) (fun _ => h.same (c16 ht) (by decide)) (fun post hp => Or.inl (gX2 _ _ hw ⟨fun q => absurd q (by decide), fun q => absurd q (by decide), fun _ => hp, fun q => absurd q (by decide), fun q => absurd q (by decide), fun q => absurd q (by decide)⟩)) (fun post hp => gN _ ⟨fun q => absurd q (by decide), fun q => absurd q (by decide), fun _ => hp, fun q => absurd q (by decide), fun q => absurd q (by decide), fun _ _ q => absurd rfl q⟩)
      · subst q
        exact hi_r h (b := nI (cnt (lkB (N 4) (nI t)) 10)) (nI (cnt (lkB (M 4) (nI t)) 10)) (fun _ => by rw [ec]) (fun post hp => Or.inl (gX2 _ _ hw ⟨fun q => absurd q (by decide), fun q => absurd q (by decide), fun q => absurd q (by decide), fun _ => hp, fun q => absurd q (by decide), fun q => absurd q (by decide)⟩)) (fun post hp => gN _ ⟨fun q => absurd q (by decide), fun q => absurd q (by decide), fun q => absurd q (by decide), fun _ => hp, fun q => absurd q (by decide), fun _ _ _ q => absurd rfl q⟩)
      · subst q
        exact hi_r h (b := N 17 t) (M 17 t) (fun z => z.elim (fun q => absurd rfl q) (fun q => q t ht)) (fun post hp => Or.inl (gX2 _ _ hw ⟨fun q => absurd q (by decide), fun q => absurd q (by decide), fun q => absurd q (by decide), fun q => absurd q (by decide), fun _ => hp, fun q => absurd q (by decide)⟩)) (fun post hp => gN _ ⟨fun q => absurd q (by decide), fun q => absurd q (by decide), fun q => absurd q (by decide), fun q => absurd q (by decide), fun _ => hp, fun _ _ _ _ q => absurd rfl q⟩)
      · subst q
        exact hi_r h (b := N 18 t) (M 18 t) (fun _ => h.same (c18 ht) (by decide)) (fun post hp => Or.inl (gX2 _ _ hw ⟨fun q => absurd q (by decide), fun q => absurd q (by decide), fun q => absurd q (by decide), fun q => absurd q (by decide), fun q => absurd q (by decide), fun _ => hp⟩)) (fun post hp => gN _ ⟨fun q => absurd q (by decide), fun q => absurd q (by decide), fun q => absurd q (by decide), fun q => absurd q (by decide), fun q => absurd q (by decide), fun _ _ _ _ _ => hp⟩)
theorem cnt_not (b : Nat → Bool) (n : Nat) : cnt b n + cnt (fun u => !b u) n = n := by
  induction n with
  | zero => rfl
  | succ n ih =>
    rw [cnt, cnt]
    cases hb : b n
    · rw [if_neg (by decide), if_pos (by decide)]; omega
    · rw [if_pos rfl, if_neg (by decide)]; omega
theorem nn_of {f : Nat → Int32} {j : Nat} {a : Nat} (h : Dv j (f a)) (hj : j = 4 ∨ j = 5) : (¬ f a < 0) ↔ ¬ f a = -1 := by
  have w : f a = -1 ∨ ∃ k : Nat, k < 16 ∧ f a = nI k := by
    rcases hj with e | e
    · subst e
      rcases h with q | ⟨k, hk, q⟩
      · exact Or.inl q
      · exact Or.inr ⟨k, by omega, q⟩
    · subst e; exact h
  rcases w with q | ⟨k, hk, q⟩
  · rw [q]; exact ⟨fun z => absurd (by decide) z, fun z => absurd rfl z⟩
  · rw [q]; exact ⟨fun _ => nI_m1 (by omega), fun _ => nI_nn (by omega)⟩
theorem count_hi {c : Nat} {M N : Mm} {o : Nat → Int64} (p0 : Int32) (h : RB c M N) : HI True o (wpXl_count p0 M o) (wpXm_count p0 N) := by
  rcases rng p0 (n := 5) (by omega) with hb | ⟨w, hw, rfl⟩
  · have n := no4 (by omega) hb
    refine hi_x h 1 (by decide) (fun post hp => Or.inr ⟨fun q => absurd q (n 0 (by omega)), fun _ => ⟨fun q => absurd q (n 1 (by omega)), fun _ => ⟨fun q => absurd q (n 2 (by omega)), fun _ => ⟨fun q => absurd q (n 3 (by omega)), fun _ => ⟨fun q => absurd q (n 4 (by omega)), fun _ => ⟨fun q => absurd q (n 5 (by omega)), fun _ => ⟨rfl, hp⟩⟩⟩⟩⟩⟩⟩) (fun post hp => ?_)
    exact sm_in0 hb ⟨fun _ => th_1 ⟨fun q => absurd q (by decide), fun _ => hp⟩, fun q => absurd rfl q⟩
  · have e2 : cnt (rwB M) 8 = cnt (rwB (thM N 0)) 8 := cnt_eq (fun t ht => by unfold rwB; rw [RR.same h (c14 ht), RR.same h (c2 ht)])
    have e3 : cnt (stB (M 5)) 10 = cnt (nnB ((thM N 0) 5)) 10 := cnt_eq (fun u hu => by
      unfold stB nnB
      rw [← RR.same h (c5 hu)]
      exact (decide_eq_decide.mpr (nn_of (j := 5) (RR.d h hu) (Or.inr rfl))).symm)
    have e4 : cnt (oB M) c = cnt (oB (thM N 0)) c := cnt_eq (fun i hi => by unfold oB; rw [RR.same h (c9 hi)])
    have e5 : 10 - cnt (lkB (M 4) (-1)) 10 = cnt (nnB ((thM N 0) 4)) 10 := by
      have a := cnt_not (lkB (M 4) (-1)) 10
      have b : cnt (fun u => !lkB (M 4) (-1) u) 10 = cnt (nnB ((thM N 0) 4)) 10 := cnt_eq (fun u hu => by
        unfold lkB nnB
        rw [← RR.same h (c4 hu), ← decide_not]
        exact (decide_eq_decide.mpr (nn_of (j := 4) (RR.d h hu) (Or.inl rfl))).symm)
      omega
    have gN : ∀ post : Int32 → Mm → Prop, ((nI w = 0 → post (N 24 0) (thM N 0)) ∧ (nI w = 1 → post (N 23 0) (thM N 0)) ∧ (nI w = 2 → post (nI (cnt (rwB (thM N 0)) 8)) (thM N 0)) ∧ (nI w = 3 → post (nI (cnt (nnB ((thM N 0) 5)) 10)) (thM N 0)) ∧ (nI w = 4 → post (nI (cnt (oB (thM N 0)) c)) (thM N 0)) ∧ (¬ nI w = 0 → ¬ nI w = 1 → ¬ nI w = 2 → ¬ nI w = 3 → ¬ nI w = 4 → post (nI (cnt (nnB ((thM N 0) 4)) 10)) (thM N 0))) → wpXm_count (nI w) N post := by
      intro post hp
      refine sm_in1 (n := 5) hw (by omega) ⟨fun q => absurd q (by decide), fun _ => th_0 ⟨fun _ => sm_count3 (sm_count2 (sm_count1 (RR.nN h) ?_)), fun q => absurd rfl q⟩⟩
      rw [wlXm_count_133]
      rintro y ey
      have ey : y = nI c := ey.trans (RR.nN h).1
      subst ey
      refine ⟨fun _ => ?_, fun q => absurd ((nI_leE (by have := h.1.2; omega) (by have := h.1.2; omega)).mpr (Nat.le_refl _)) q⟩
      refine ⟨fun w => ?_, fun w0 => ⟨fun w => ?_, fun w1 => ⟨fun w => hp.2.2.1 w, fun w2 => ⟨fun w => hp.2.2.2.1 w, fun w3 => ⟨fun w => hp.2.2.2.2.1 w, fun w4 => hp.2.2.2.2.2 w0 w1 w2 w3 w4⟩⟩⟩⟩⟩
      · rintro y rfl; exact hp.1 w
      · rintro y rfl; exact hp.2.1 w
    rcases (show w = 0 ∨ w = 1 ∨ w = 2 ∨ w = 3 ∨ w = 4 ∨ w = 5 by omega) with q | q | q | q | q | q
    · subst q
      refine hi_r h (b := N 24 0) (M 24 0) (fun _ => h.same c24 (by decide)) (fun post hp => Or.inl ⟨fun _ => ?_, fun q => absurd rfl q⟩) (fun post hp => gN _ ⟨fun _ => hp, fun q => absurd q (by decide), fun q => absurd q (by decide), fun q => absurd q (by decide), fun q => absurd q (by decide), fun q => absurd rfl q⟩)
      rintro y rfl; exact hp
    · subst q
      refine hi_r h (b := N 23 0) (M 23 0) (fun _ => h.same c23 (by decide)) (fun post hp => Or.inl ⟨fun q => absurd q (by decide), fun _ => ⟨fun _ => ?_, fun q => absurd rfl q⟩⟩) (fun post hp => gN _ ⟨fun q => absurd q (by decide), fun _ => hp, fun q => absurd q (by decide), fun q => absurd q (by decide), fun q => absurd q (by decide), fun _ q => absurd rfl q⟩)
      rintro y rfl; exact hp
    · subst q
      exact hi_r h (b := nI (cnt (rwB (thM N 0)) 8)) (nI (cnt (rwB M) 8)) (fun _ => by rw [e2]) (fun post hp => Or.inl ⟨fun q => absurd q (by decide), fun _ => ⟨fun q => absurd q (by decide), fun _ => ⟨fun _ => sx_runningWithActs hp, fun q => absurd rfl q⟩⟩⟩) (fun post hp => gN _ ⟨fun q => absurd q (by decide), fun q => absurd q (by decide), fun _ => hp, fun q => absurd q (by decide), fun q => absurd q (by decide), fun _ _ q => absurd rfl q⟩)
    · subst q
      exact hi_r h (b := nI (cnt (nnB ((thM N 0) 5)) 10)) (nI (cnt (stB (M 5)) 10)) (fun _ => by rw [e3]) (fun post hp => Or.inl ⟨fun q => absurd q (by decide), fun _ => ⟨fun q => absurd q (by decide), fun _ => ⟨fun q => absurd q (by decide), fun _ => ⟨fun _ => sx_sentCount hp, fun q => absurd rfl q⟩⟩⟩⟩) (fun post hp => gN _ ⟨fun q => absurd q (by decide), fun q => absurd q (by decide), fun q => absurd q (by decide), fun _ => hp, fun q => absurd q (by decide), fun _ _ _ q => absurd rfl q⟩)
    · subst q
      exact hi_r h (b := nI (cnt (oB (thM N 0)) c)) (nI (cnt (oB M) c)) (fun _ => by rw [e4]) (fun post hp => Or.inl ⟨fun q => absurd q (by decide), fun _ => ⟨fun q => absurd q (by decide), fun _ => ⟨fun q => absurd q (by decide), fun _ => ⟨fun q => absurd q (by decide), fun _ => ⟨fun _ => sx_openCount h.1 hp, fun q => absurd rfl q⟩⟩⟩⟩⟩) (fun post hp => gN _ ⟨fun q => absurd q (by decide), fun q => absurd q (by decide), fun q => absurd q (by decide), fun q => absurd q (by decide), fun _ => hp, fun _ _ _ _ q => absurd rfl q⟩)
    · subst q
      exact hi_r h (b := nI (cnt (nnB ((thM N 0) 4)) 10)) (nI (10 - cnt (lkB (M 4) (-1)) 10)) (fun _ => by rw [e5]) (fun post hp => Or.inl ⟨fun q => absurd q (by decide), fun _ => ⟨fun q => absurd q (by decide), fun _ => ⟨fun q => absurd q (by decide), fun _ => ⟨fun q => absurd q (by decide), fun _ => ⟨fun q => absurd q (by decide), fun _ => ⟨fun _ => sx_lockedCount hp, fun q => absurd rfl q⟩⟩⟩⟩⟩⟩) (fun post hp => gN _ ⟨fun q => absurd q (by decide), fun q => absurd q (by decide), fun q => absurd q (by decide), fun q => absurd q (by decide), fun q => absurd q (by decide), fun _ _ _ _ _ => hp⟩)
