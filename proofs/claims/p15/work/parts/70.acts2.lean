theorem RR_unlock {c u : Nat} {M N : Mm} (h : RR c M N) : RR c (stM M 4 (upd (M 4) u (-1))) (stM N 4 (upd (N 4) u (-1))) := by
  refine RR_4 h (updEq h) (fun v hv => ?_)
  rw [upd_e]
  by_cases e : v = u
  · rw [if_pos e]; exact Or.inl rfl
  · rw [if_neg e]; exact Or.inr rfl
theorem unlock_rel {c t u : Nat} {M N : Mm} (h : AtAct c t M N) (hz : M 17 t = 0 ∧ M 20 t = 0) (hu : u ≤ 255) : KR c t (wpXs_freeUnit (nI t) (nI u) M) (wpXm_unlock (nI t) (nI u) N) := by
  obtain ⟨hR, ht, h0, hlt⟩ := id h
  by_cases hu10 : u < 10
  · have eu : M 4 u = N 4 u := hR.same (c4 hu10)
    have n9 : ¬ 9 < nI u := fun q => absurd ((nI_ltE (a := 9) (by omega) (by omega)).mp q) (by omega)
    have n10 : ¬ 10 ≤ nI u := fun q => absurd ((nI_leE (a := 10) (by omega) (by omega)).mp q) (by omega)
    by_cases q : M 4 u = nI t
    · refine ⟨1, incM (stM M 4 (upd (M 4) u (-1))) t, incM (stM N 4 (upd (N 4) u (-1))) t, fun post hp => ?_, fun post hp => ?_, RR_inc (RR_unlock hR) ht (fun _ => hz.1) hlt⟩
      · refine ⟨fun w => absurd w (nI_nn (by omega)), fun _ => ⟨fun w => absurd w n10, fun _ => ⟨inI hu10 (by decide), ?_⟩⟩⟩
        rintro y rfl
        rw [clI (by omega)]
        refine ⟨fun _ => ⟨inI hu10 (by decide), ?_⟩, fun w => absurd q w⟩
        rintro M1 rfl
        exact tail_1 ht hp
      · refine ⟨fun w => absurd w n9, fun _ => ⟨inI hu10 (by decide), ?_⟩⟩
        rintro y rfl
        rw [clI (by omega), ← eu]
        refine ⟨fun _ => ⟨inI hu10 (by decide), ?_⟩, fun w => absurd q w⟩
        rintro M1 rfl
        exact sm_done ht hp
    · refine kr_f (g := -3) (f := 3) h hz (by decide) (by decide) (fun post hp => ?_) (fun post hp => ?_)
      · refine ⟨fun w => absurd w (nI_nn (by omega)), fun _ => ⟨fun w => absurd w n10, fun _ => ⟨inI hu10 (by decide), ?_⟩⟩⟩
        rintro y rfl
        rw [clI (by omega)]
        exact ⟨fun w => absurd w q, fun _ => hp⟩
      · refine ⟨fun w => absurd w n9, fun _ => ⟨inI hu10 (by decide), ?_⟩⟩
        rintro y rfl
        rw [clI (by omega), ← eu]
        exact ⟨fun w => absurd w q, fun _ => hp⟩
  · have n9 : 9 < nI u := (nI_ltE (a := 9) (by omega) (by omega)).mpr (by omega)
    have n10 : 10 ≤ nI u := (nI_leE (a := 10) (by omega) (by omega)).mpr (by omega)
    exact kr_f (g := -3) (f := 3) h hz (by decide) (by decide) (fun post hp => ⟨fun w => absurd w (nI_nn (by omega)), fun _ => ⟨fun _ => hp, fun w => absurd n10 w⟩⟩) (fun post hp => ⟨fun _ => hp, fun w => absurd n9 w⟩)
theorem RR_take {c t i : Nat} {M N : Mm} (h : RR c M N) (ht : t < 8) (hi : i < c) : RR c (stM M 7 (upd (M 7) i (nI t))) (stM N 7 (upd (N 7) i (nI t))) :=
  RR_7 h (updEq h) (updD (a := 7) h (show Dv 7 (nI t) from Or.inr ⟨t, ht, rfl⟩)) (fun k hk => by rw [upd_e, if_neg (by omega)])
theorem take_rel {c t i : Nat} {M N : Mm} (h : AtAct c t M N) (hz : M 17 t = 0 ∧ M 20 t = 0) (hi : i ≤ 255) : KR c t (wpXs_takeCall (nI t) (nI i) M) (wpXm_take (nI t) (nI i) N) := by
  obtain ⟨hR, ht, h0, hlt⟩ := id h
  have hl := hR.1.2
  have cN := hR.nN.1
  obtain ⟨r, hr, e1, e2⟩ := h.rows
  by_cases hc : i < c
  · have e9 : M 9 i = N 9 i := hR.same (c9 hc)
    have e7 : M 7 i = N 7 i := hR.same (c7 hc)
    have nc : ¬ nI c ≤ nI i := fun q => absurd ((nI_leE (by omega) (by omega)).mp q) (by omega)
    have i16 : vp_in (nI i) 16 := inI (by omega) (by decide)
    have ci : (nI i).toNatClampNeg = i := clI (by omega)
    by_cases q9 : M 9 i = 0
    · refine kr_f (g := -6) (f := 6) h hz (by decide) (by decide) (fun post hp => sx_isKnown hR.1 (by omega) (fun _ => ⟨fun z => absurd z (by decide), fun _ => ⟨i16, ?_⟩⟩) (fun w => absurd hc w)) (fun post hp => ?_)
      · rintro y rfl
        rw [ci]
        exact ⟨fun _ => hp, fun w => absurd q9 w⟩
      · rintro y rfl
        rw [cN]
        refine ⟨fun w => absurd w nc, fun _ => ⟨i16, ?_⟩⟩
        rintro y rfl
        rw [ci, ← e9]
        exact ⟨fun _ => hp, fun w => absurd q9 w⟩
    · have gX : ∀ post : Int32 → Mm → Prop, (M 7 i = -1 ∨ M 7 i = nI t → post 1 (stM M 7 (upd (M 7) i (nI t)))) → (¬ M 7 i = -1 → ¬ M 7 i = nI t → post 2 (tlM M r (nI t) 0 (M 15 t) (M 24 0))) → wpXs_takeCall (nI t) (nI i) M post := by
        intro post p1 p2
        refine sx_isKnown hR.1 (by omega) (fun _ => ⟨fun z => absurd z (by decide), fun _ => ⟨i16, ?_⟩⟩) (fun w => absurd hc w)
        rintro y rfl
        rw [ci]
        refine ⟨fun w => absurd w q9, fun _ => ⟨i16, ?_⟩⟩
        rintro y rfl
        refine ⟨fun w => ⟨i16, ?_⟩, fun w => ⟨fun v => ⟨i16, ?_⟩, fun v => ⟨inI ht (by decide), ?_⟩⟩⟩
        · rintro M1 rfl
          exact p1 (Or.inl w)
        · rintro M1 rfl
          exact p1 (Or.inr v)
        · rintro y rfl y rfl
          rw [clI (by omega)]
          exact sx_tell e1 hr (p2 w v)
      have gN : ∀ post : Int32 → Mm → Prop, (M 7 i < 0 ∨ M 7 i = nI t → post 1 (incM (stM N 7 (upd (N 7) i (nI t))) t)) → (¬ M 7 i < 0 → ¬ M 7 i = nI t → post 2 (incM (tlM N r (nI t) 0 (N 15 t) (N 24 0)) t)) → wpXm_take (nI t) (nI i) N post := by
        intro post p1 p2
        rintro y rfl
        rw [cN]
        refine ⟨fun w => absurd w nc, fun _ => ⟨i16, ?_⟩⟩
        rintro y rfl
        rw [ci, ← e9]
        refine ⟨fun w => absurd w q9, fun _ => ⟨i16, ?_⟩⟩
        rintro y rfl
        rw [← e7]
        refine ⟨fun w => ⟨i16, ?_⟩, fun w => ⟨i16, ?_⟩⟩
        · rintro M1 rfl
          exact sm_done ht (p1 (Or.inl w))
        · rintro y rfl
          refine ⟨fun v => ⟨i16, ?_⟩, fun v => ?_⟩
          · rintro M1 rfl
            exact sm_done ht (p1 (Or.inr v))
          · refine sm_tell ht e2 hr ⟨inI ht (by decide), ?_⟩
            rintro y rfl y rfl
            refine ⟨inI ht (by decide), ?_⟩
            rintro M1 rfl
            rw [clI (by omega)]
            exact p2 w v
      by_cases q : M 7 i = -1 ∨ M 7 i = nI t
      · refine ⟨1, incM (stM M 7 (upd (M 7) i (nI t))) t, incM (stM N 7 (upd (N 7) i (nI t))) t, fun post hp => gX _ (fun _ => tail_1 ht hp) (fun a b => absurd q (fun w => w.elim a b)), fun post hp => gN _ (fun _ => hp) (fun a b => absurd q (fun w => w.elim (fun z => a (by rw [z]; decide)) b)), RR_inc (RR_take hR ht hc) ht (fun _ => hz.1) hlt⟩
      · have q1 : ¬ M 7 i < 0 := by
          rcases hR.d (j := 7) (i := i) (by show i < 16; omega) with w | ⟨k, hk, w⟩
          · exact absurd (Or.inl w) q
          · rw [w]; exact nI_nn (by omega)
        have hT : RR c (tlM M r (nI t) 0 (M 15 t) (M 24 0)) (tlM N r (nI t) 0 (N 15 t) (N 24 0)) := by
          rw [hR.same (c15 ht), hR.same (c24 (c := c))]
          exact RR_tl hR
        refine ⟨2, incM (tlM M r (nI t) 0 (M 15 t) (M 24 0)) t, incM (tlM N r (nI t) 0 (N 15 t) (N 24 0)) t, fun post hp => gX _ (fun w => absurd w q) (fun _ _ => tail_2 ht hp), fun post hp => gN _ (fun w => absurd (w.elim (fun z => absurd z q1) Or.inr) q) (fun _ _ => hp), RR_inc hT ht (fun _ => by rw [tlM_o (by decide)]; exact hz.1) (by rw [tlM_o (by decide), tlM_o (by decide)]; exact hlt)⟩
  · have nc : nI c ≤ nI i := (nI_leE (by omega) (by omega)).mpr (by omega)
    refine kr_f (g := -6) (f := 6) h hz (by decide) (by decide) (fun post hp => sx_isKnown hR.1 (by omega) (fun w => absurd w hc) (fun _ => ⟨fun _ => hp, fun z => absurd rfl z⟩)) (fun post hp => ?_)
    rintro y rfl
    rw [cN]
    exact ⟨fun _ => hp, fun w => absurd nc w⟩
theorem sm_isOwn {t i c : Nat} {M : Mm} {post : Int32 → Mm → Prop} (hc : nC M c) (hi : i < 1000) (h1 : i < c → opB M (nI t) i → post 1 M) (h0 : ¬ (i < c ∧ opB M (nI t) i) → post 0 M) : wpXm_isOwn (nI t) (nI i) M post := by
  obtain ⟨e, hl⟩ := hc
  rintro y rfl
  rw [e]
  refine ⟨fun q => h0 (fun w => absurd ((nI_leE (by omega) (by omega)).mp q) (by omega)), fun q => ?_⟩
  have hic : i < c := by
    rcases Nat.lt_or_ge i c with w | w
    · exact w
    · exact absurd ((nI_leE (by omega) (by omega)).mpr w) q
  refine ⟨inI (by omega) (by decide), ?_⟩
  rintro y rfl
  rw [clI (by omega)]
  refine ⟨fun z => h0 (fun w => w.2.1 z), fun z => ⟨inI (by omega) (by decide), ?_⟩⟩
  rintro y rfl
  exact ⟨fun w => h1 hic ⟨z, w⟩, fun w => h0 (fun v => w v.2.2)⟩
theorem RR_send {c u i : Nat} {M N : Mm} (h : RR c M N) (hu : u < 10) (hi : i < c) : RR c (stM (stM M 5 (upd (M 5) u (nI i))) 8 (upd (M 8) i (nI u))) (stM (stM N 5 (upd (N 5) u (nI i))) 8 (upd (N 8) i (nI u))) := by
  have hl := h.1.2
  have h5 : RR c (stM M 5 (upd (M 5) u (nI i))) (stM N 5 (upd (N 5) u (nI i))) := RR_5 h (updEq h) (updD (a := 5) h (show Dv 5 (nI i) from Or.inr ⟨i, by omega, rfl⟩))
  have e6 := h5.2.2.2.2.2.2.2.2.1
  refine ⟨h5.1, R0_u h5.2.1, Dm_u h5.2.2.1 (show Dv 8 (nI u) from Or.inr ⟨u, hu, rfl⟩), h5.2.2.2.1, h5.2.2.2.2.1, h5.2.2.2.2.2.1, h5.2.2.2.2.2.2.1, h5.2.2.2.2.2.2.2.1, ?_, h5.2.2.2.2.2.2.2.2.2.1, h5.2.2.2.2.2.2.2.2.2.2⟩
  intro k hk hk2
  refine ⟨(e6 k hk hk2).1, ?_⟩
  show upd (M 8) i (nI u) k = -1
  rw [upd_e, if_neg (by omega)]
  exact (e6 k hk hk2).2
theorem send_rel {c t u i : Nat} {M N : Mm} (h : AtAct c t M N) (hz : M 17 t = 0 ∧ M 20 t = 0) (hu : u ≤ 255) (hi : i < 16) : KR c t (wpXs_sendUnit (nI t) (nI u) (nI i) M) (wpXm_send (nI t) (nI u) (nI i) N) := by
  obtain ⟨hR, ht, h0, hlt⟩ := id h
  have hl := hR.1.2
  by_cases hg : u < 10 ∧ (i < c ∧ opB M (nI t) i) ∧ M 4 u = nI t ∧ M 5 u = -1 ∧ M 8 i = -1
  · obtain ⟨hu10, ⟨hic, ho⟩, g4, g5, g8⟩ := hg
    have n9 : ¬ 9 < nI u := fun q => absurd ((nI_ltE (a := 9) (by omega) (by omega)).mp q) (by omega)
    have n10 : ¬ 10 ≤ nI u := fun q => absurd ((nI_leE (a := 10) (by omega) (by omega)).mp q) (by omega)
    have iu : vp_in (nI u) 10 := inI hu10 (by decide)
    have ii : vp_in (nI i) 16 := inI (by omega) (by decide)
    have cu : (nI u).toNatClampNeg = u := clI (by omega)
    have ci : (nI i).toNatClampNeg = i := clI (by omega)
    refine ⟨1, incM (stM (stM M 5 (upd (M 5) u (nI i))) 8 (upd (M 8) i (nI u))) t, incM (stM (stM N 5 (upd (N 5) u (nI i))) 8 (upd (N 8) i (nI u))) t, fun post hp => ?_, fun post hp => ?_, RR_inc (RR_send hR hu10 hic) ht (fun _ => hz.1) hlt⟩
    · refine ⟨fun w => absurd w (nI_nn (by omega)), fun _ => ⟨fun w => absurd w n10, fun _ => sx_isOpenOf hR.1 (by omega) (fun _ _ => ⟨fun z => absurd z (by decide), fun _ => ⟨iu, ?_⟩⟩) (fun w => absurd ⟨hic, ho⟩ w)⟩⟩
      rintro y rfl
      rw [cu, ci]
      refine ⟨fun _ => ⟨iu, ?_⟩, fun w => absurd g4 w⟩
      rintro y rfl
      refine ⟨fun _ => ⟨ii, ?_⟩, fun w => absurd g5 w⟩
      rintro y rfl
      refine ⟨fun _ => ⟨iu, ?_⟩, fun w => absurd g8 w⟩
      rintro M1 rfl
      refine ⟨ii, ?_⟩
      rintro M1 rfl
      exact tail_1 ht hp
    · have gN5 : ¬ 0 ≤ N 5 u := by rw [← hR.same (c5 hu10), g5]; decide
      have gN8 : N 8 i < 0 := by rw [← hR.same (c8 hic), g8]; decide
      have gN4 : N 4 u = nI t := by rw [← hR.same (c4 hu10)]; exact g4
      refine ⟨fun w => absurd w n9, fun _ => sm_isOwn hR.nN (by omega) (fun _ _ => ⟨fun z => absurd z (by decide), fun _ => ⟨iu, ?_⟩⟩) (fun w => absurd ⟨hic, (opB_eq hR hic).mp ho⟩ w)⟩
      rintro y rfl
      rw [cu, ci]
      refine ⟨fun _ => ⟨iu, ?_⟩, fun w => absurd gN4 w⟩
      rintro y rfl
      refine ⟨fun w => absurd w gN5, fun _ => ⟨ii, ?_⟩⟩
      rintro y rfl
      refine ⟨fun _ => ⟨iu, ?_⟩, fun w => absurd gN8 w⟩
      rintro M1 rfl
      refine ⟨ii, ?_⟩
      rintro M1 rfl
      exact sm_done ht hp
  · refine kr_f (g := -4) (f := 4) h hz (by decide) (by decide) (fun post hp => ?_) (fun post hp => ?_)
    · refine ⟨fun _ => hp, fun _ => ⟨fun _ => hp, fun w => ?_⟩⟩
      have hu10 : u < 10 := by
        rcases Nat.lt_or_ge u 10 with v | v
        · exact v
        · exact absurd ((nI_leE (a := 10) (by omega) (by omega)).mpr v) w
      refine sx_isOpenOf hR.1 (by omega) (fun hic ho => ⟨fun _ => hp, fun _ => ⟨inI hu10 (by decide), ?_⟩⟩) (fun _ => ⟨fun _ => hp, fun z => absurd rfl z⟩)
      rintro y rfl
      rw [clI (by omega), clI (by omega)]
      refine ⟨fun g4 => ⟨inI hu10 (by decide), ?_⟩, fun _ => hp⟩
      rintro y rfl
      refine ⟨fun g5 => ⟨inI (by omega) (by decide), ?_⟩, fun _ => hp⟩
      rintro y rfl
      exact ⟨fun g8 => absurd ⟨hu10, ⟨hic, ho⟩, g4, g5, g8⟩ hg, fun _ => hp⟩
    · refine ⟨fun _ => hp, fun w => ?_⟩
      have hu10 : u < 10 := by
        rcases Nat.lt_or_ge u 10 with v | v
        · exact v
        · exact absurd ((nI_ltE (a := 9) (by omega) (by omega)).mpr (by omega)) w
      refine sm_isOwn hR.nN (by omega) (fun hic ho => ⟨fun _ => hp, fun _ => ⟨inI hu10 (by decide), ?_⟩⟩) (fun _ => ⟨fun _ => hp, fun z => absurd rfl z⟩)
      rintro y rfl
      rw [clI (by omega), clI (by omega)]
      refine ⟨fun g4 => ⟨inI hu10 (by decide), ?_⟩, fun _ => hp⟩
      rintro y rfl
      refine ⟨fun _ => hp, fun g5 => ⟨inI (by omega) (by decide), ?_⟩⟩
      rintro y rfl
      refine ⟨fun g8 => ?_, fun _ => hp⟩
      refine absurd ⟨hu10, ⟨hic, (opB_eq hR hic).mpr ho⟩, ?_, ?_, ?_⟩ hg
      · rw [hR.same (c4 hu10)]; exact g4
      · rcases hR.d (j := 5) (i := u) hu10 with v | ⟨k, hk, v⟩
        · exact v
        · rw [hR.same (c5 hu10)] at v; rw [v] at g5; exact absurd (nI_pos' (by omega)) g5
      · rcases hR.d (j := 8) (i := i) (by show i < 16; omega) with v | ⟨k, hk, v⟩
        · exact v
        · rw [hR.same (c8 hic)] at v; rw [v] at g8; exact absurd g8 (nI_nn (by omega))
