/-! the public calls, class's and reference's, through the law's helpers -/
def thM (N : Mm) (k : Int32) : Mm := stM N 26 (fun _ => k)
theorem th_1 {b d e : Int32} {N : Mm} {post : Int32 → Mm → Prop} (h : post 1 (thM N 1)) : wpXm_throwing 1 b d e N post := by
  refine ⟨fun q => absurd q (by decide), fun _ => ?_⟩
  rintro M rfl y rfl
  exact ⟨fun q => absurd q (by decide : ¬ (1 : Int32) ≤ 0), fun _ => h⟩
theorem th_2 {d e : Int32} {N : Mm} {post : Int32 → Mm → Prop} (h : post 1 (thM N 2)) : wpXm_throwing 0 1 d e N post := by
  refine ⟨fun _ => ⟨fun q => absurd q (by decide), fun _ => ?_⟩, fun q => absurd rfl q⟩
  rintro M rfl y rfl
  exact ⟨fun q => absurd q (by decide : ¬ (2 : Int32) ≤ 0), fun _ => h⟩
theorem th_3 {e : Int32} {N : Mm} {post : Int32 → Mm → Prop} (h : post 1 (thM N 3)) : wpXm_throwing 0 0 1 e N post := by
  refine ⟨fun _ => ⟨fun _ => ⟨fun q => absurd q (by decide), fun _ => ?_⟩, fun q => absurd rfl q⟩, fun q => absurd rfl q⟩
  rintro M rfl y rfl
  exact ⟨fun q => absurd q (by decide : ¬ (3 : Int32) ≤ 0), fun _ => h⟩
theorem th_4 {N : Mm} {post : Int32 → Mm → Prop} (h : post 1 (thM N 4)) : wpXm_throwing 0 0 0 1 N post := by
  refine ⟨fun _ => ⟨fun _ => ⟨fun _ => ⟨fun q => absurd q (by decide), fun _ => ?_⟩, fun q => absurd rfl q⟩, fun q => absurd rfl q⟩, fun q => absurd rfl q⟩
  rintro M rfl y rfl
  exact ⟨fun q => absurd q (by decide : ¬ (4 : Int32) ≤ 0), fun _ => h⟩
theorem th_0 {N : Mm} {post : Int32 → Mm → Prop} (h : post 0 (thM N 0)) : wpXm_throwing 0 0 0 0 N post := by
  refine ⟨fun _ => ⟨fun _ => ⟨fun _ => ⟨fun _ => ?_, fun q => absurd rfl q⟩, fun q => absurd rfl q⟩, fun q => absurd rfl q⟩, fun q => absurd rfl q⟩
  rintro M rfl y rfl
  exact ⟨fun _ => h, fun q => absurd (by decide : (0 : Int32) ≤ 0) q⟩
theorem thM_2 (N : Mm) (a b : Int32) : thM (thM N a) b = thM N b := stM_st _ _ _ _
theorem rng (x : Int32) {n : Nat} (hn : n < 1000) : (x < 0 ∨ nI n < x) ∨ ∃ j : Nat, j ≤ n ∧ x = nI j := by
  rcases Classical.em (x < 0) with q | q
  · exact Or.inl (Or.inl q)
  · obtain ⟨j, hj, e⟩ := nI_of q
    rcases Nat.lt_or_ge n j with w | w
    · exact Or.inl (Or.inr (by rw [e]; exact (nI_ltI (by omega) hj).mpr w))
    · exact Or.inr ⟨j, w, e⟩
theorem lt8 {x : Int32} {n : Nat} (hn : n < 1000) (h : nI n < x) : ¬ x < nI (n + 1) := by
  intro q
  have h1 := Int32.lt_iff_toInt_lt.mp h
  have h2 := Int32.lt_iff_toInt_lt.mp q
  rw [nI_toInt (by omega)] at h1 h2
  omega
theorem sm_in {x a b : Int32} {N : Mm} {post : Int32 → Mm → Prop} (h0 : x < a ∨ b < x → post 0 N) (h1 : ¬ (x < a ∨ b < x) → post 1 N) : wpXm_in x a b N post :=
  ⟨fun q => h0 (Or.inl q), fun q => ⟨fun w => h0 (Or.inr w), fun w => h1 (fun z => z.elim q w)⟩⟩
theorem sm_in0 {x a b : Int32} {N : Mm} {post : Int32 → Mm → Prop} (hb : x < a ∨ b < x) (h0 : post 0 N) : wpXm_in x a b N post := sm_in (fun _ => h0) (fun q => absurd hb q)
theorem inR {j n : Nat} (h : j ≤ n) (hn : n < 1000000) : ¬ (nI j < 0 ∨ nI n < nI j) := fun q => q.elim (nI_nn (by omega)) (fun w => absurd ((nI_ltE (by omega) (by omega)).mp w) (by omega))
theorem sm_in1 {j n : Nat} {N : Mm} {post : Int32 → Mm → Prop} (h : j ≤ n) (hn : n < 1000000) (h1 : post 1 N) : wpXm_in (nI j) 0 (nI n) N post := sm_in (fun q => absurd q (inR h hn)) (fun _ => h1)
theorem sm_isT0 {x : Int32} {N : Mm} {post : Int32 → Mm → Prop} (hb : x < 0 ∨ nI 7 < x) (h : post 0 N) : wpXm_isThread x N post := sm_in0 hb ⟨by decide, h⟩
theorem sm_isT1 {t : Nat} {N : Mm} {post : Int32 → Mm → Prop} (ht : t < 8) (h : post 1 N) : wpXm_isThread (nI t) N post := sm_in1 (n := 7) (by omega) (by omega) ⟨by decide, h⟩
theorem sm_bg0 {x : Int32} {N : Mm} {post : Int32 → Mm → Prop} (hb : x < 0 ∨ nI 7 < x) (h : post 0 N) : wpXm_hasBegun x N post := sm_isT0 hb ⟨fun _ => h, fun q => absurd rfl q⟩
theorem sm_bg {t : Nat} {N : Mm} {post : Int32 → Mm → Prop} (ht : t < 8) (h0 : N 21 t = 0 → post 0 N) (h1 : ¬ N 21 t = 0 → post 1 N) : wpXm_hasBegun (nI t) N post := by
  refine sm_isT1 ht ⟨fun q => absurd q (by decide), fun _ => ⟨inI ht (by decide), ?_⟩⟩
  rintro y rfl
  rw [clI (by omega)]
  exact ⟨h0, h1⟩
theorem sx_rqT0 {x : Int32} {M : Mm} {post : Mm → Prop} {px : Nat → Mm → Prop} (hb : x < 0 ∨ nI 7 < x) (h : px 0 M) : wpXs_requireThread x M post px :=
  ⟨fun _ => h, fun q => ⟨fun w => absurd w (lt8 (n := 7) (by omega) (hb.resolve_left q)), fun _ => h⟩⟩
theorem sx_rqT1 {t : Nat} {M : Mm} {post : Mm → Prop} {px : Nat → Mm → Prop} (ht : t < 8) (h : post M) : wpXs_requireThread (nI t) M post px :=
  ⟨fun q => absurd q (nI_nn (by omega)), fun _ => ⟨fun _ => h, fun w => absurd ((nI_ltE (b := 8) (by omega) (by omega)).mpr ht) w⟩⟩
theorem sx_rqN0 {t : Nat} {M : Mm} {post : Mm → Prop} {px : Nat → Mm → Prop} (ht : t < 8) (h2 : ¬ M 21 t = 0) (h : px 2 M) : wpXs_requireNoTurnYet (nI t) M post px := by
  refine ⟨inI ht (by decide), ?_⟩
  rintro y rfl
  rw [clI (by omega)]
  exact ⟨fun q => absurd q h2, fun _ => h⟩
theorem sx_rqN1 {t : Nat} {M : Mm} {post : Mm → Prop} {px : Nat → Mm → Prop} (ht : t < 8) (h2 : M 21 t = 0) (h : post M) : wpXs_requireNoTurnYet (nI t) M post px := by
  refine ⟨inI ht (by decide), ?_⟩
  rintro y rfl
  rw [clI (by omega)]
  exact ⟨fun _ => h, fun q => absurd h2 q⟩
theorem sx_rqR0 {t : Nat} {M : Mm} {post : Mm → Prop} {px : Nat → Mm → Prop} (ht : t < 8) (h2 : ¬ M 14 t = 0) (h : px 2 M) : wpXs_requireRunning (nI t) M post px := by
  refine ⟨inI ht (by decide), ?_⟩
  rintro y rfl
  rw [clI (by omega)]
  exact ⟨fun q => absurd q h2, fun _ => h⟩
theorem sx_rqR1 {t : Nat} {M : Mm} {post : Mm → Prop} {px : Nat → Mm → Prop} (ht : t < 8) (h2 : M 14 t = 0) (h : post M) : wpXs_requireRunning (nI t) M post px := by
  refine ⟨inI ht (by decide), ?_⟩
  rintro y rfl
  rw [clI (by omega)]
  exact ⟨fun _ => h, fun q => absurd h2 q⟩
/-- between the calls: what the reference has told of its last throw doesn't matter -/
def RB (c : Nat) (M N : Mm) : Prop := RR c M (thM N 0)
theorem RB_of {c : Nat} {M N : Mm} (h : RR c M N) : RB c M N := RR_r26 h rfl
theorem RB_x {c : Nat} {M N : Mm} {k : Int32} (h : RB c M N) : RB c M (thM N k) := by
  unfold RB
  rw [thM_2]
  exact h
/-- a helper that answers: code k, its answer in the row, the relation again; e: where the answers are the same -/
def HI (e : Prop) (o : Nat → Int64) (wH : (Int32 → Mm × (Nat → Int64) → Prop) → Prop) (wN : (Int32 → Mm → Prop) → Prop) : Prop :=
  ∃ (c' : Nat) (M' N' : Mm) (k b : Int32) (o' : Nat → Int64), RB c' M' N' ∧ N' 26 0 = k ∧ (∀ post : Int32 → Mm × (Nat → Int64) → Prop, post k (M', o') → wH post) ∧ (∀ post : Int32 → Mm → Prop, post b N' → wN post) ∧ (k = 0 → e → o' 0 = b.toInt64)
def HV (wH : (Int32 → Mm → Prop) → Prop) (wN : (Mm → Prop) → Prop) : Prop :=
  ∃ (c' : Nat) (M' N' : Mm) (k : Int32), RB c' M' N' ∧ N' 26 0 = k ∧ (∀ post : Int32 → Mm → Prop, post k M' → wH post) ∧ (∀ post : Mm → Prop, post N' → wN post)
section H
variable {c : Nat} {M N : Mm} {o : Nat → Int64}
theorem hi_x {e : Prop} {wH : (Int32 → Mm × (Nat → Int64) → Prop) → Prop} {wN : (Int32 → Mm → Prop) → Prop} (h : RB c M N) (k : Int32) (hk : ¬ k = 0) (hX : ∀ post : Int32 → Mm × (Nat → Int64) → Prop, post k (M, o) → wH post) (hN : ∀ post : Int32 → Mm → Prop, post 0 (thM N k) → wN post) : HI e o wH wN :=
  ⟨c, M, thM N k, k, 0, o, RB_x h, rfl, hX, hN, fun q => absurd q hk⟩
theorem hi_r {e : Prop} {M' N' : Mm} {c' : Nat} {b : Int32} {wH : (Int32 → Mm × (Nat → Int64) → Prop) → Prop} {wN : (Int32 → Mm → Prop) → Prop} (h : RR c' M' N') (r : Int32) (hr : e → r = b) (hX : ∀ post : Int32 → Mm × (Nat → Int64) → Prop, post 0 (M', vp_updL o 0 r.toInt64) → wH post) (hN : ∀ post : Int32 → Mm → Prop, post b N' → wN post) : HI e o wH wN :=
  ⟨c', M', N', 0, b, vp_updL o 0 r.toInt64, RB_of h, h.z, hX, hN, fun _ q => by rw [pk_uLs, hr q]⟩
theorem hv_x {wH : (Int32 → Mm → Prop) → Prop} {wN : (Mm → Prop) → Prop} (h : RB c M N) (k : Int32) (hX : ∀ post : Int32 → Mm → Prop, post k M → wH post) (hN : ∀ post : Mm → Prop, post (thM N k) → wN post) : HV wH wN :=
  ⟨c, M, thM N k, k, RB_x h, rfl, hX, hN⟩
theorem hv_r {M' N' : Mm} {c' : Nat} {wH : (Int32 → Mm → Prop) → Prop} {wN : (Mm → Prop) → Prop} (h : RR c' M' N') (hX : ∀ post : Int32 → Mm → Prop, post 0 M' → wH post) (hN : ∀ post : Mm → Prop, post N' → wN post) : HV wH wN :=
  ⟨c', M', N', 0, RB_of h, h.z, hX, hN⟩
end H
/-- one more act -/
def acM (M : Mm) (t a : Nat) (k n : Int32) : Mm := stM (stM (stM M 0 (upd (M 0) (16 * t + a) k)) 1 (upd (M 1) (16 * t + a) n)) 2 (upd (M 2) t (nI (a + 1)))
theorem RR_ac {c t a kd n : Nat} {M N : Mm} (h : RR c M N) (ht : t < 8) (ea : M 2 t = nI a) (ha : a < 16) (hk : kd ≤ 6) (hn : n ≤ 255) : RR c (acM M t a (nI kd) (nI n)) (acM N t a (nI kd) (nI n)) := by
  unfold acM
  refine ⟨h.1, R0_u (R0_u (R0_u h.2.1)), Dm_u (Dm_u (Dm_u h.2.2.1 (show Dv 0 (nI kd) from ⟨kd, hk, rfl⟩)) (show Dv 1 (nI n) from ⟨n, hn, rfl⟩)) (show Dv 2 (nI (a + 1)) from ⟨a + 1, by omega, rfl⟩), ?_, ?_, h.2.2.2.2.2.1, ?_, h.2.2.2.2.2.2.2.1, h.2.2.2.2.2.2.2.2.1, h.2.2.2.2.2.2.2.2.2.1, h.2.2.2.2.2.2.2.2.2.2⟩
  · intro s hs
    show M 15 s ≤ upd (M 2) t (nI (a + 1)) s
    obtain ⟨k, a2, hk2, ha2, ek, ea2⟩ := h.at_ hs
    rw [upd_e]
    by_cases e : s = t
    · subst e
      have e3 : a2 = a := nI_inj (by omega) (by omega) (ea2.symm.trans ea)
      rw [if_pos rfl, ek, nI_leE (by omega) (by omega)]; omega
    · rw [if_neg e]; exact h.2.2.2.1 s hs
  · intro s hs
    show M 3 s = -1 ∨ M 3 s < upd (M 2) t (nI (a + 1)) s
    rw [upd_e]
    by_cases e : s = t
    · subst e
      rw [if_pos rfl]
      rcases h.2.2.2.2.1 s hs with q | q
      · exact Or.inl q
      · refine Or.inr ?_
        rw [ea] at q
        exact Int32.lt_trans q ((nI_ltE (by omega) (by omega)).mpr (by omega))
    · rw [if_neg e]; exact h.2.2.2.2.1 s hs
  · intro s hs h0 h17
    have q := h.2.2.2.2.2.2.1 s hs h0 h17
    obtain ⟨k, a2, hk2, ha2, ek, ea2⟩ := h.at_ hs
    have hka : k < a2 := by
      have w := q.1
      rw [ek, ea2, nI_ltE (by omega) (by omega)] at w
      exact w
    show M 15 s < upd (M 2) t (nI (a + 1)) s ∧ ∀ k : Nat, k < 16 → M 15 s = nI k → upd (M 0) (16 * t + a) (nI kd) (16 * s + k) = 5 ∧ ¬ upd (M 1) (16 * t + a) (nI n) (16 * s + k) = 0
    constructor
    · rw [upd_e]
      by_cases e : s = t
      · subst e
        have e3 : a2 = a := nI_inj (by omega) (by omega) (ea2.symm.trans ea)
        rw [if_pos rfl, ek, nI_ltE (by omega) (by omega)]; omega
      · rw [if_neg e]; exact q.1
    · intro k2 hk3 e2
      have e3 : k = k2 := nI_inj (by omega) (by omega) (ek.symm.trans e2)
      have ne : ¬ 16 * s + k2 = 16 * t + a := by
        intro w
        have e4 : s = t := by omega
        subst e4
        have e5 : a2 = a := nI_inj (by omega) (by omega) (ea2.symm.trans ea)
        omega
      rw [upd_e, upd_e, if_neg ne, if_neg ne]
      exact q.2 k2 hk3 e2
theorem sx_add {t a : Nat} {k n : Int32} {M : Mm} {post : Int32 → Mm → Prop} (ht : t < 8) (ha : a < 16) (ea : M 2 t = nI a) (h : post (nI (a + 1)) (acM M t a k n)) : wpXp_add (nI t) k n M post := by
  rintro y rfl
  refine ⟨inI ht (by decide), ?_⟩
  rintro y rfl y rfl
  rw [clI (by omega), ea, ix16', clI (by omega)]
  have ii : vp_in (nI (16 * t + a)) 128 := inI (by omega) (by decide)
  refine ⟨ii, ?_⟩
  rintro M1 rfl
  refine ⟨ii, ?_⟩
  rintro M1 rfl
  refine ⟨inI ht (by decide), ?_⟩
  rintro y rfl y rfl
  refine ⟨inI ht (by decide), ?_⟩
  rintro M1 rfl
  refine ⟨inI ht (by decide), ?_⟩
  rintro y rfl
  have e2 : (stM (stM M 0 (upd (M 0) (16 * t + a) k)) 1 (upd ((stM M 0 (upd (M 0) (16 * t + a) k)) 1) (16 * t + a) n)) 2 t + 1 = nI (a + 1) := by
    rw [show (stM (stM M 0 (upd (M 0) (16 * t + a) k)) 1 (upd ((stM M 0 (upd (M 0) (16 * t + a) k)) 1) (16 * t + a) n)) 2 t = nI a from ea, nI_1]
  rw [e2, stM_s, pk_us]
  exact h
theorem sm_add {t a : Nat} {k n : Int32} {M : Mm} {post : Int32 → Mm → Prop} (ht : t < 8) (ha : a < 16) (ea : M 2 t = nI a) (h : post (nI (a + 1)) (acM M t a k n)) : (∀ y_73 : Int32, y_73 = (16 : Int32) * nI t → (vp_in (nI t) 8 ∧ (∀ y_75 : Int32, y_75 = M 2 (nI t).toNatClampNeg → (∀ y_76 : Int32, y_76 = y_73 + y_75 → (vp_in y_76 128 ∧ (∀ M_78 : Mm, M_78 = stM M 0 (upd (M 0) y_76.toNatClampNeg k) → (∀ y_79 : Int32, y_79 = (16 : Int32) * nI t → (vp_in (nI t) 8 ∧ (∀ y_81 : Int32, y_81 = M_78 2 (nI t).toNatClampNeg → (∀ y_82 : Int32, y_82 = y_79 + y_81 → (vp_in y_82 128 ∧ (∀ M_84 : Mm, M_84 = stM M_78 1 (upd (M_78 1) y_82.toNatClampNeg n) → (vp_in (nI t) 8 ∧ (∀ y_86 : Int32, y_86 = M_84 2 (nI t).toNatClampNeg → (∀ y_87 : Int32, y_87 = y_86 + 1 → (vp_in (nI t) 8 ∧ (∀ M_89 : Mm, M_89 = stM M_84 2 (upd (M_84 2) (nI t).toNatClampNeg y_87) → (vp_in (nI t) 8 ∧ (∀ y_91 : Int32, y_91 = M_89 2 (nI t).toNatClampNeg → (post y_91 M_89)))))))))))))))))))) := by
  have ii : vp_in (nI (16 * t + a)) 128 := inI (by omega) (by decide)
  rintro y rfl
  refine ⟨inI ht (by decide), ?_⟩
  rintro y rfl y rfl
  rw [clI (by omega), ea, ix16, clI (by omega)]
  refine ⟨ii, ?_⟩
  rintro M1 rfl y rfl
  refine ⟨inI ht (by decide), ?_⟩
  rintro y rfl y rfl
  rw [show (stM M 0 (upd (M 0) (16 * t + a) k)) 2 t = nI a from ea, ix16, clI (by omega)]
  refine ⟨ii, ?_⟩
  rintro M1 rfl
  refine ⟨inI ht (by decide), ?_⟩
  rintro y rfl y rfl
  refine ⟨inI ht (by decide), ?_⟩
  rintro M1 rfl
  refine ⟨inI ht (by decide), ?_⟩
  rintro y rfl
  have e2 : (stM (stM M 0 (upd (M 0) (16 * t + a) k)) 1 (upd ((stM M 0 (upd (M 0) (16 * t + a) k)) 1) (16 * t + a) n)) 2 t + 1 = nI (a + 1) := by
    rw [show (stM (stM M 0 (upd (M 0) (16 * t + a) k)) 1 (upd ((stM M 0 (upd (M 0) (16 * t + a) k)) 1) (16 * t + a) n)) 2 t = nI a from ea, nI_1]
  rw [e2, stM_s, pk_us]
  exact h
theorem act_hi {c : Nat} {M N : Mm} {o : Nat → Int64} (p0 p1 p2 : Int32) (h : RB c M N) : HI True o (wpXl_act p0 p1 p2 M o) (wpXm_act p0 p1 p2 N) := by
  have hN2 : ∀ j i, cmp c j i → M j i = N j i ∨ j = 26 := fun j i hc => by
    by_cases e : j = 26
    · exact Or.inr e
    · have w := h.same hc
      unfold thM at w
      rw [stM_n _ _ e] at w
      exact Or.inl w
  rcases rng p0 (n := 7) (by omega) with hb | ⟨t, ht, rfl⟩
  · refine hi_x h 1 (by decide) (fun post hp => Or.inr (Or.inr (sx_rqT0 hb (Or.inl ⟨rfl, hp⟩)))) (fun post hp => ?_)
    refine sm_isT0 hb ⟨fun _ => sm_in (fun _ => ⟨fun _ => sm_bg0 hb (th_1 ⟨fun q => absurd q (by decide), fun _ => hp⟩), fun q => absurd rfl q⟩) (fun _ => ⟨fun q => absurd q (by decide), fun _ => sm_bg0 hb (th_1 ⟨fun q => absurd q (by decide), fun _ => hp⟩)⟩), fun q => absurd rfl q⟩
  · have ht : t < 8 := by omega
    rcases rng p1 (n := 6) (by omega) with hb | ⟨kd, hkd, rfl⟩
    · refine hi_x h 1 (by decide) (fun post hp => Or.inr (Or.inl (sx_rqT1 ht ⟨fun _ => Or.inl ⟨rfl, hp⟩, fun q => ⟨fun w => absurd (hb.resolve_left q) (Int32.not_lt.mpr w), fun _ => Or.inl ⟨rfl, hp⟩⟩⟩))) (fun post hp => ?_)
      have fin : ∀ b, wpXm_hasBegun (nI t) N (fun r M' => wpXm_throwing 1 b r 0 M' (fun r2 M2 => (r2 = 0 → False) ∧ (¬ r2 = 0 → post 0 M2))) := fun b => sm_bg ht (fun _ => th_1 ⟨fun q => absurd q (by decide), fun _ => hp⟩) (fun _ => th_1 ⟨fun q => absurd q (by decide), fun _ => hp⟩)
      refine sm_isT1 ht ⟨fun q => absurd q (by decide), fun _ => sm_in0 hb ⟨fun _ => sm_in (fun _ => ⟨fun _ => ?_, fun q => absurd rfl q⟩) (fun _ => ⟨fun q => absurd q (by decide), fun _ => ?_⟩), fun q => absurd rfl q⟩⟩
      · exact sm_bg ht (fun _ => th_1 ⟨fun q => absurd q (by decide), fun _ => hp⟩) (fun _ => th_1 ⟨fun q => absurd q (by decide), fun _ => hp⟩)
      · exact sm_bg ht (fun _ => th_1 ⟨fun q => absurd q (by decide), fun _ => hp⟩) (fun _ => th_1 ⟨fun q => absurd q (by decide), fun _ => hp⟩)
    · have kX : ∀ {A B : Prop}, A → ((nI kd < 0 → B) ∧ (¬ nI kd < 0 → ((nI kd ≤ 6 → A) ∧ (¬ nI kd ≤ 6 → B)))) := fun a => ⟨fun q => absurd q (nI_nn (by omega)), fun _ => ⟨fun _ => a, fun w => absurd ((nI_leE (b := 6) (by omega) (by omega)).mpr hkd) w⟩⟩
      have e21 : M 21 t = N 21 t := (hN2 21 t (c21 ht)).resolve_right (by decide)
      have e2 : M 2 t = N 2 t := (hN2 2 t (c2 ht)).resolve_right (by decide)
      obtain ⟨a, ha, ea⟩ := h.d (j := 2) ht
      have eaN : N 2 t = nI a := e2.symm.trans ea
      have it : vp_in (nI t) 8 := inI ht (by decide)
      rcases rng p2 (n := 255) (by omega) with hb | ⟨n, hn, rfl⟩
      · refine hi_x h 2 (by decide) (fun post hp => Or.inr (Or.inl (sx_rqT1 ht (kX ⟨fun _ => Or.inr (Or.inl ⟨rfl, hp⟩), fun q => ⟨fun w => absurd (hb.resolve_left q) (Int32.not_lt.mpr w), fun _ => Or.inr (Or.inl ⟨rfl, hp⟩)⟩⟩)))) (fun post hp => ?_)
        refine sm_isT1 ht ⟨fun q => absurd q (by decide), fun _ => sm_in1 (n := 6) hkd (by omega) ⟨fun q => absurd q (by decide), fun _ => sm_in0 hb ⟨fun _ => ?_, fun q => absurd rfl q⟩⟩⟩
        refine sm_bg ht (fun _ => ⟨it, ?_⟩) (fun _ => ⟨it, ?_⟩)
        · rintro y rfl
          exact ⟨fun _ => th_2 ⟨fun q => absurd q (by decide), fun _ => hp⟩, fun _ => th_2 ⟨fun q => absurd q (by decide), fun _ => hp⟩⟩
        · rintro y rfl
          exact ⟨fun _ => th_2 ⟨fun q => absurd q (by decide), fun _ => hp⟩, fun _ => th_2 ⟨fun q => absurd q (by decide), fun _ => hp⟩⟩
      · have nX : ∀ {A B : Prop}, A → ((nI n < 0 → B) ∧ (¬ nI n < 0 → ((nI n ≤ 255 → A) ∧ (¬ nI n ≤ 255 → B)))) := fun a => ⟨fun q => absurd q (nI_nn (by omega)), fun _ => ⟨fun _ => a, fun w => absurd ((nI_leE (b := 255) (by omega) (by omega)).mpr hn) w⟩⟩
        by_cases q21 : M 21 t = 0
        · by_cases qa : a = 16
          · subst qa
            refine hi_x h 4 (by decide) (fun post hp => Or.inr (Or.inl (sx_rqT1 ht (kX (nX (Or.inl (sx_rqN1 ht q21 ⟨it, ?_⟩))))))) (fun post hp => ?_)
            · rintro y rfl
              rw [clI (by omega), ea]
              exact ⟨fun q => absurd q (by decide), fun _ => ⟨fun q => absurd q (by decide), fun _ => Or.inr (Or.inr (Or.inr ⟨rfl, hp⟩))⟩⟩
            · refine sm_isT1 ht ⟨fun q => absurd q (by decide), fun _ => sm_in1 (n := 6) hkd (by omega) ⟨fun q => absurd q (by decide), fun _ => sm_in1 (n := 255) hn (by omega) ⟨fun q => absurd q (by decide), fun _ => sm_bg ht (fun _ => ⟨it, ?_⟩) (fun q => absurd (e21.symm.trans q21) q)⟩⟩⟩
              rintro y rfl
              rw [clI (by omega), eaN]
              exact ⟨fun _ => th_4 ⟨fun q => absurd q (by decide), fun _ => hp⟩, fun q => absurd rfl q⟩
          · have ha : a < 16 := by omega
            have hR := RR_ac (kd := kd) (n := n) h ht ea ha hkd hn
            refine hi_r hR (b := nI (a + 1)) (nI (a + 1)) (fun _ => rfl) (fun post hp => Or.inl (Or.inl (sx_rqT1 ht (kX (nX (Or.inl (sx_rqN1 ht q21 ⟨it, ?_⟩))))))) (fun post hp => ?_)
            · rintro y rfl
              rw [clI (by omega), ea]
              exact ⟨fun _ => ⟨fun _ => sx_add ht ha ea hp, fun q => absurd rfl q⟩, fun q => absurd ((nI_ltE (b := 16) (by omega) (by omega)).mpr ha) q⟩
            · refine sm_isT1 ht ⟨fun q => absurd q (by decide), fun _ => sm_in1 (n := 6) hkd (by omega) ⟨fun q => absurd q (by decide), fun _ => sm_in1 (n := 255) hn (by omega) ⟨fun q => absurd q (by decide), fun _ => sm_bg ht (fun _ => ⟨it, ?_⟩) (fun q => absurd (e21.symm.trans q21) q)⟩⟩⟩
              rintro y rfl
              rw [clI (by omega), eaN]
              refine ⟨fun q => absurd (nI_inj (b := 16) (by omega) (by omega) q) qa, fun _ => th_0 ⟨fun _ => ?_, fun q => absurd rfl q⟩⟩
              have w := sm_add (M := thM N 0) (k := nI kd) (n := nI n) (post := post) ht ha eaN hp
              rw [clI (t := t) (by omega)] at w
              exact w
        · refine hi_x h 3 (by decide) (fun post hp => Or.inr (Or.inl (sx_rqT1 ht (kX (nX (Or.inr (sx_rqN0 ht q21 (Or.inr (Or.inr (Or.inl ⟨rfl, hp⟩))))))))) ) (fun post hp => ?_)
          refine sm_isT1 ht ⟨fun q => absurd q (by decide), fun _ => sm_in1 (n := 6) hkd (by omega) ⟨fun q => absurd q (by decide), fun _ => sm_in1 (n := 255) hn (by omega) ⟨fun q => absurd q (by decide), fun _ => sm_bg ht (fun q => absurd (e21.trans q) q21) (fun _ => ⟨it, ?_⟩)⟩⟩⟩
          rintro y rfl
          exact ⟨fun _ => th_3 ⟨fun q => absurd q (by decide), fun _ => hp⟩, fun _ => th_3 ⟨fun q => absurd q (by decide), fun _ => hp⟩⟩
