def tailX (p0 : Int32) (post : Int32 → Mm → Prop) : Int32 → Mm → Prop := (fun r_17 M_18 => (((0 ≤ r_17 → (((r_17 = 1 → (vp_in p0 8 ∧ (∀ y_22 : Int32, y_22 = M_18 15 p0.toNatClampNeg → (∀ y_23 : Int32, y_23 = y_22 + 1 → (vp_in p0 8 ∧ (∀ M_25 : Mm, M_25 = stM M_18 15 (upd (M_18 15) p0.toNatClampNeg y_23) → (post r_17 M_25))))))) ∧ (¬ r_17 = 1 → (((r_17 = 2 → (vp_in p0 8 ∧ (∀ y_28 : Int32, y_28 = M_18 15 p0.toNatClampNeg → (∀ y_29 : Int32, y_29 = y_28 + 1 → (vp_in p0 8 ∧ (∀ M_31 : Mm, M_31 = stM M_18 15 (upd (M_18 15) p0.toNatClampNeg y_29) → (post r_17 M_31))))))) ∧ (¬ r_17 = 2 → (post r_17 M_18)))))))) ∧ (¬ 0 ≤ r_17 → (∀ y_32 : Int32, y_32 = -r_17 → (wpXs_fault p0 y_32 M_18 (fun M_34 => (post 3 M_34))))))))
theorem tail_1 {t : Nat} {M : Mm} {post : Int32 → Mm → Prop} (ht : t < 8) (h : post 1 (incM M t)) : tailX (nI t) post 1 M := by
  refine ⟨fun _ => ⟨fun _ => ⟨inI ht (by decide), ?_⟩, fun q => absurd rfl q⟩, fun q => absurd (by decide) q⟩
  rintro y rfl y rfl
  refine ⟨inI ht (by decide), ?_⟩
  rintro M1 rfl
  rw [clI (by omega)]
  exact h
theorem tail_2 {t : Nat} {M : Mm} {post : Int32 → Mm → Prop} (ht : t < 8) (h : post 2 (incM M t)) : tailX (nI t) post 2 M := by
  refine ⟨fun _ => ⟨fun q => absurd q (by decide), fun _ => ⟨fun _ => ⟨inI ht (by decide), ?_⟩, fun q => absurd rfl q⟩⟩, fun q => absurd (by decide) q⟩
  rintro y rfl y rfl
  refine ⟨inI ht (by decide), ?_⟩
  rintro M1 rfl
  rw [clI (by omega)]
  exact h
theorem tail_0 {t : Nat} {M : Mm} {post : Int32 → Mm → Prop} (h : post 0 M) : tailX (nI t) post 0 M :=
  ⟨fun _ => ⟨fun q => absurd q (by decide), fun _ => ⟨fun q => absurd q (by decide), fun _ => h⟩⟩, fun q => absurd (by decide) q⟩
theorem tail_5 {t : Nat} {M : Mm} {post : Int32 → Mm → Prop} (h : post 5 M) : tailX (nI t) post 5 M :=
  ⟨fun _ => ⟨fun q => absurd q (by decide), fun _ => ⟨fun q => absurd q (by decide), fun _ => h⟩⟩, fun q => absurd (by decide) q⟩
theorem tail_f {t r c : Nat} {f g : Int32} {M : Mm} {post : Int32 → Mm → Prop} (ht : t < 8) (hr : M 23 0 = nI r) (hl : r ≤ 100) (hc : nC M c) (hg : ¬ 0 ≤ g) (e : -g = f) (h : post 3 (faX M t f r c)) : tailX (nI t) post g M := by
  refine ⟨fun q => absurd q hg, fun _ => ?_⟩
  rintro y rfl
  rw [e]
  exact sx_fault ht hr hl hc h
/-- an act of thread t: the class's, with what its turn does then; the reference's; the same answer, the relation again -/
def KR (c t : Nat) (wX wN : (Int32 → Mm → Prop) → Prop) : Prop := ∃ (r : Int32) (M' N' : Mm), (∀ post : Int32 → Mm → Prop, post r M' → wX (tailX (nI t) post)) ∧ (∀ post : Int32 → Mm → Prop, post r N' → wN post) ∧ RR c M' N'
/-- a running thread at an act; z: it isn't in a rest -/
def AtAct (c t : Nat) (M N : Mm) : Prop := RR c M N ∧ t < 8 ∧ M 14 t = 0 ∧ M 15 t < M 2 t
theorem AtAct.rows {c t : Nat} {M N : Mm} (h : AtAct c t M N) : ∃ r : Nat, r ≤ 100 ∧ M 23 0 = nI r ∧ N 23 0 = nI r := by
  obtain ⟨r, hr, e⟩ := h.1.d (j := 23) (i := 0) (by decide)
  exact ⟨r, hr, e, (h.1.same (c23 (c := c))).symm.trans e⟩
theorem RR.d8 {c : Nat} {M N : Mm} (h : RR c M N) : ∀ i, i < c → N 8 i = -1 ∨ 0 ≤ N 8 i := by
  intro i hi
  have hl := h.1.2
  rw [← h.same (c8 hi)]
  rcases h.d (j := 8) (i := i) (by show i < 16; omega) with q | ⟨k, hk, q⟩
  · exact Or.inl q
  · exact Or.inr (by rw [q]; exact nI_pos' (by omega))
theorem kr_f {c t : Nat} {f g : Int32} {M N : Mm} {wX wN : (Int32 → Mm → Prop) → Prop} (h : AtAct c t M N) (hz : M 17 t = 0 ∧ M 20 t = 0) (hg : ¬ 0 ≤ g) (e : -g = f)
    (hX : ∀ post : Int32 → Mm → Prop, post g M → wX post) (hN : ∀ post : Int32 → Mm → Prop, wpXm_fail (nI t) f N post → wN post) : KR c t wX wN := by
  obtain ⟨hR, ht, h0, hlt⟩ := id h
  obtain ⟨r, hr, e1, e2⟩ := h.rows
  exact ⟨3, faX M t f r c, faN N t f r c, fun post hp => hX _ (tail_f ht e1 hr hR.1 hg e hp), fun post hp => hN _ (sm_fail ht e2 hr hR.nN hR.d8 hp), fault_rel hR ht hz hlt⟩
theorem sm_done {t : Nat} {M : Mm} {post : Int32 → Mm → Prop} (ht : t < 8) (h : post 1 (incM M t)) : wpXm_done (nI t) M post := by
  refine ⟨inI ht (by decide), ?_⟩
  rintro y rfl y rfl
  refine ⟨inI ht (by decide), ?_⟩
  rintro M1 rfl
  rw [clI (by omega)]
  exact h
theorem abv_eq {c t u : Nat} {M N : Mm} (h : RR c M N) : abv (M 4) t u ↔ abv (N 4) t u := by
  constructor
  · rintro ⟨v, a, b, e⟩; exact ⟨v, a, b, by rw [← h.same (c4 b)]; exact e⟩
  · rintro ⟨v, a, b, e⟩; exact ⟨v, a, b, by rw [h.same (c4 b)]; exact e⟩
theorem RR_lock {c t u : Nat} {M N : Mm} (h : RR c M N) (ht : t < 8) (h0 : M 14 t = 0) : RR c (stM M 4 (upd (M 4) u (nI t))) (stM N 4 (upd (N 4) u (nI t))) := by
  refine ⟨h.1, R0_u h.2.1, Dm_u h.2.2.1 (Or.inr ⟨t, ht, rfl⟩), h.2.2.2.1, h.2.2.2.2.1, ?_, h.2.2.2.2.2.2.1, h.2.2.2.2.2.2.2.1, h.2.2.2.2.2.2.2.2.1, h.2.2.2.2.2.2.2.2.2.1, h.2.2.2.2.2.2.2.2.2.2⟩
  intro s hs h1 v hv e
  have h1 : M 14 s = 1 := h1
  have e : upd (M 4) u (nI t) v = nI s := e
  rw [upd_e] at e
  by_cases q : v = u
  · rw [if_pos q] at e
    have w : t = s := nI_inj (by omega) (by omega) e
    rw [← w, h0] at h1
    exact absurd h1 (by decide)
  · rw [if_neg q] at e
    exact h.2.2.2.2.2.1 s hs h1 v hv e
theorem lock_rel {c t u : Nat} {M N : Mm} (h : AtAct c t M N) (hz : M 17 t = 0 ∧ M 20 t = 0) (hu : u ≤ 255) : KR c t (wpXs_lockUnit (nI t) (nI u) M) (wpXm_lock (nI t) (nI u) N) := by
  obtain ⟨hR, ht, h0, hlt⟩ := id h
  by_cases hu10 : u < 10
  · have eu : M 4 u = N 4 u := hR.same (c4 hu10)
    have n9 : nI u ≤ 9 := (nI_leE (b := 9) (by omega) (by omega)).mpr (by omega)
    have n10 : nI u < 10 := (nI_ltE (b := 10) (by omega) (by omega)).mpr hu10
    -- the class's road to the unit's holder
    have gX : ∀ post : Int32 → Mm → Prop, (M 4 u = nI t → post (-1) M) → (¬ M 4 u = nI t → abv (M 4) t u → post (-2) M) → (¬ M 4 u = nI t → ¬ abv (M 4) t u → M 4 u = -1 → post 1 (stM M 4 (upd (M 4) u (nI t)))) → (¬ M 4 u = nI t → ¬ abv (M 4) t u → ¬ M 4 u = -1 → post 0 M) → wpXs_lockUnit (nI t) (nI u) M post := by
      intro post p1 p2 p3 p4
      refine ⟨fun q => absurd q (nI_nn (by omega)), fun _ => ⟨fun _ => ⟨inI hu10 (by decide), ?_⟩, fun q => absurd n10 q⟩⟩
      rintro y rfl
      rw [clI (by omega)]
      refine ⟨p1, fun q => sx_hasOneAbove hu10 (fun a => ⟨fun z => absurd z (by decide), fun _ => p2 q a⟩) (fun a => ⟨fun _ => ⟨fun z => ⟨inI hu10 (by decide), ?_⟩, p4 q a⟩, fun z => absurd rfl z⟩)⟩
      rintro M1 rfl
      exact p3 q a z
    have gN : ∀ post : Int32 → Mm → Prop, (M 4 u = nI t → wpXm_fail (nI t) 1 N post) → (¬ M 4 u = nI t → abv (M 4) t u → wpXm_fail (nI t) 2 N post) → (¬ M 4 u = nI t → ¬ abv (M 4) t u → M 4 u < 0 → post 1 (incM (stM N 4 (upd (N 4) u (nI t))) t)) → (¬ M 4 u = nI t → ¬ abv (M 4) t u → ¬ M 4 u < 0 → post 0 N) → wpXm_lock (nI t) (nI u) N post := by
      intro post p1 p2 p3 p4
      refine ⟨fun _ => ⟨inI hu10 (by decide), ?_⟩, fun q => absurd n9 q⟩
      rintro y rfl
      rw [clI (by omega), ← eu]
      refine ⟨p1, fun q => sm_hasAbove hu10 (fun a => ⟨fun z => absurd z (by decide), fun _ => p2 q ((abv_eq hR).mpr a)⟩) (fun a => ⟨fun _ => ⟨inI hu10 (by decide), ?_⟩, fun z => absurd rfl z⟩)⟩
      have a : ¬ abv (M 4) t u := fun w => a ((abv_eq hR).mp w)
      rintro y rfl
      rw [← eu]
      refine ⟨fun z => ⟨inI hu10 (by decide), ?_⟩, p4 q a⟩
      rintro M1 rfl
      exact sm_done ht (p3 q a z)
    by_cases q1 : M 4 u = nI t
    · exact kr_f (g := -1) (f := 1) h hz (by decide) (by decide) (fun post hp => gX post (fun _ => hp) (fun w => absurd q1 w) (fun w => absurd q1 w) (fun w => absurd q1 w)) (fun post hp => gN post (fun _ => hp) (fun w => absurd q1 w) (fun w => absurd q1 w) (fun w => absurd q1 w))
    · by_cases q2 : abv (M 4) t u
      · exact kr_f (g := -2) (f := 2) h hz (by decide) (by decide) (fun post hp => gX post (fun w => absurd w q1) (fun _ _ => hp) (fun _ w => absurd q2 w) (fun _ w => absurd q2 w)) (fun post hp => gN post (fun w => absurd w q1) (fun _ _ => hp) (fun _ w => absurd q2 w) (fun _ w => absurd q2 w))
      · by_cases q3 : M 4 u = -1
        · exact ⟨1, incM (stM M 4 (upd (M 4) u (nI t))) t, incM (stM N 4 (upd (N 4) u (nI t))) t, fun post hp => gX _ (fun w => absurd w q1) (fun _ w => absurd w q2) (fun _ _ _ => tail_1 ht hp) (fun _ _ w => absurd q3 w), fun post hp => gN _ (fun w => absurd w q1) (fun _ w => absurd w q2) (fun _ _ _ => hp) (fun _ _ w => absurd (by rw [q3]; decide) w), RR_inc (RR_lock hR ht h0) ht (fun _ => hz.1) hlt⟩
        · have q4 : ¬ M 4 u < 0 := by
            rcases hR.d (j := 4) (i := u) hu10 with w | ⟨k, hk, w⟩
            · exact absurd w q3
            · rw [w]; exact nI_nn (by omega)
          exact ⟨0, M, N, fun post hp => gX _ (fun w => absurd w q1) (fun _ w => absurd w q2) (fun _ _ w => absurd w q3) (fun _ _ _ => tail_0 hp), fun post hp => gN _ (fun w => absurd w q1) (fun _ w => absurd w q2) (fun _ _ w => absurd w q4) (fun _ _ _ => hp), hR⟩
  · have n9 : ¬ nI u ≤ 9 := fun q => absurd ((nI_leE (b := 9) (by omega) (by omega)).mp q) (by omega)
    have n10 : ¬ nI u < 10 := fun q => absurd ((nI_ltE (b := 10) (by omega) (by omega)).mp q) (by omega)
    exact kr_f (g := -3) (f := 3) h hz (by decide) (by decide) (fun post hp => ⟨fun _ => hp, fun _ => ⟨fun q => absurd q n10, fun _ => hp⟩⟩) (fun post hp => ⟨fun q => absurd q n9, fun _ => hp⟩)
