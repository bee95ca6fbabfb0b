/-- a step of both: the same answer, the relation again -/
def BR (c : Nat) (wX wN : (Int32 → Mm → Prop) → Prop) : Prop := ∃ (r : Int32) (M' N' : Mm), (∀ post : Int32 → Mm → Prop, post r M' → wX post) ∧ (∀ post : Int32 → Mm → Prop, post r N' → wN post) ∧ RR c M' N'
/-- the turn's beginning -/
def tbM (M : Mm) (t : Nat) : Mm := stM (stM M 24 (fun _ => M 24 0 + 1)) 21 (upd (M 21) t 1)
theorem RR_tb {c t : Nat} {M N : Mm} (h : RR c M N) : RR c (tbM M t) (tbM N t) := by
  have h1 : RR c (stM M 24 (fun _ => M 24 0 + 1)) (stM N 24 (fun _ => N 24 0 + 1)) := by
    rw [h.same (c24 (c := c))]
    exact RR_24 h (fun _ _ => rfl) (fun _ _ => trivial)
  exact RR_21 h1 (updEq (a := 21) h) (updD (a := 21) h (show Dv 21 1 from Or.inr rfl))
theorem ix16 {t k : Nat} : (16 : Int32) * nI t + nI k = nI (16 * t + k) := by
  rw [lit_nI 16, pk_mul, nI_add]
theorem ix16' {t k : Nat} : nI t * 16 + nI k = nI (16 * t + k) := by
  rw [lit_nI 16, pk_mul, nI_add, Nat.mul_comm]
theorem act_rel {c t kd n k : Nat} {M N : Mm} (h : AtAct c t M N) (ek : M 15 t = nI k) (hk : k < 16) (hkd : kd ≤ 6) (hn : n ≤ 255) (e0 : M 0 (16 * t + k) = nI kd) (e1 : M 1 (16 * t + k) = nI n) :
    ∃ (r : Int32) (M' N' : Mm), (∀ post : Int32 → Mm → Prop, post r M' → wpXs_perform (nI t) (nI kd) (nI n) M (tailX (nI t) post)) ∧ (∀ post : Int32 → Mm → Prop, post r N' → (((nI kd = 0 → wpXm_lock (nI t) (nI n) N post) ∧ (¬ nI kd = 0 → (nI kd = 1 → wpXm_unlock (nI t) (nI n) N post) ∧ (¬ nI kd = 1 → (nI kd = 2 → wpXm_take (nI t) (nI n) N post) ∧ (¬ nI kd = 2 → (nI kd = 3 → wpXm_send (nI t) (nI (n / 16)) (nI (n % 16)) N post) ∧ (¬ nI kd = 3 → (nI kd = 4 → wpXm_shut (nI t) (nI n) N post) ∧ (¬ nI kd = 4 → (nI kd = 5 → wpXm_rest (nI t) (nI n) N post) ∧ (¬ nI kd = 5 → wpXm_fail (nI t) 5 N post))))))))) ∧ RR c M' N' := by
  obtain ⟨hR, ht, h0, hlt⟩ := id h
  have e4 := hR.2.2.2.2.2.2.1 t ht h0
  have e5 := hR.2.2.2.2.2.2.2.1 t ht h0
  have hz : kd ≠ 5 → M 17 t = 0 ∧ M 20 t = 0 := by
    intro hd
    have z17 : M 17 t = 0 := by
      rcases Classical.em (M 17 t = 0) with q | q
      · exact q
      · have w := ((e4 q).2 k hk ek).1
        rw [e0] at w
        exact absurd (nI_inj (b := 5) (by omega) (by omega) w) hd
    refine ⟨z17, ?_⟩
    rcases Classical.em (M 20 t = 0) with q | q
    · exact q
    · exact absurd z17 (e5 q)
  have ne : ∀ b, b < 10 → kd ≠ b → ¬ nI kd = nI b := fun b hb q => nI_ne (by omega) (by omega) q
  rcases (show kd = 0 ∨ kd = 1 ∨ kd = 2 ∨ kd = 3 ∨ kd = 4 ∨ kd = 5 ∨ kd = 6 by omega) with q | q | q | q | q | q | q
  · subst q
    obtain ⟨r, M', N', a, b, d⟩ := lock_rel h (hz (by decide)) hn
    exact ⟨r, M', N', fun post hp => ⟨fun _ => a post hp, fun w => absurd rfl w⟩, fun post hp => ⟨fun _ => b post hp, fun w => absurd rfl w⟩, d⟩
  · subst q
    obtain ⟨r, M', N', a, b, d⟩ := unlock_rel h (hz (by decide)) hn
    exact ⟨r, M', N', fun post hp => ⟨fun w => absurd w (by decide), fun _ => ⟨fun _ => a post hp, fun w => absurd rfl w⟩⟩, fun post hp => ⟨fun w => absurd w (by decide), fun _ => ⟨fun _ => b post hp, fun w => absurd rfl w⟩⟩, d⟩
  · subst q
    obtain ⟨r, M', N', a, b, d⟩ := take_rel h (hz (by decide)) hn
    exact ⟨r, M', N', fun post hp => ⟨fun w => absurd w (by decide), fun _ => ⟨fun w => absurd w (by decide), fun _ => ⟨fun _ => a post hp, fun w => absurd rfl w⟩⟩⟩, fun post hp => ⟨fun w => absurd w (by decide), fun _ => ⟨fun w => absurd w (by decide), fun _ => ⟨fun _ => b post hp, fun w => absurd rfl w⟩⟩⟩, d⟩
  · subst q
    obtain ⟨r, M', N', a, b, d⟩ := send_rel (u := n / 16) (i := n % 16) h (hz (by decide)) (by omega) (by omega)
    refine ⟨r, M', N', fun post hp => ⟨fun w => absurd w (by decide), fun _ => ⟨fun w => absurd w (by decide), fun _ => ⟨fun w => absurd w (by decide), fun _ => ⟨fun _ => ?_, fun w => absurd rfl w⟩⟩⟩⟩, fun post hp => ⟨fun w => absurd w (by decide), fun _ => ⟨fun w => absurd w (by decide), fun _ => ⟨fun w => absurd w (by decide), fun _ => ⟨fun _ => b post hp, fun w => absurd rfl w⟩⟩⟩⟩, d⟩
    rintro y rfl y rfl
    rw [show nI n / 16 = nI (n / 16) from pk_div (d := 16) (by omega) (by decide) (by decide), show nI n - nI (n / 16) * 16 = nI (n % 16) from by
      have w := pk_rem (a := n) (d := 16) (by omega) (by decide) (by decide)
      rw [pk_div (d := 16) (by omega) (by decide) (by decide)] at w
      exact w]
    exact a post hp
  · subst q
    obtain ⟨r, M', N', a, b, d⟩ := shut_rel h (hz (by decide)) hn
    exact ⟨r, M', N', fun post hp => ⟨fun w => absurd w (by decide), fun _ => ⟨fun w => absurd w (by decide), fun _ => ⟨fun w => absurd w (by decide), fun _ => ⟨fun w => absurd w (by decide), fun _ => ⟨fun _ => a post hp, fun w => absurd rfl w⟩⟩⟩⟩⟩, fun post hp => ⟨fun w => absurd w (by decide), fun _ => ⟨fun w => absurd w (by decide), fun _ => ⟨fun w => absurd w (by decide), fun _ => ⟨fun w => absurd w (by decide), fun _ => ⟨fun _ => b post hp, fun w => absurd rfl w⟩⟩⟩⟩⟩, d⟩
  · subst q
    obtain ⟨r, M', N', a, b, d⟩ := rest_rel (n := n) h hn (fun k2 hk2 e2 => by
      have e3 : k = k2 := nI_inj (by omega) (by omega) (ek.symm.trans e2)
      rw [← e3]; exact ⟨e0, e1⟩)
    exact ⟨r, M', N', fun post hp => ⟨fun w => absurd w (by decide), fun _ => ⟨fun w => absurd w (by decide), fun _ => ⟨fun w => absurd w (by decide), fun _ => ⟨fun w => absurd w (by decide), fun _ => ⟨fun w => absurd w (by decide), fun _ => ⟨fun _ => a post hp, fun w => absurd rfl w⟩⟩⟩⟩⟩⟩, fun post hp => ⟨fun w => absurd w (by decide), fun _ => ⟨fun w => absurd w (by decide), fun _ => ⟨fun w => absurd w (by decide), fun _ => ⟨fun w => absurd w (by decide), fun _ => ⟨fun w => absurd w (by decide), fun _ => ⟨fun _ => b post hp, fun w => absurd rfl w⟩⟩⟩⟩⟩⟩, d⟩
  · subst q
    obtain ⟨r, M', N', a, b, d⟩ := kr_f (g := -5) (f := 5) (wX := fun post => post (-5) M) (wN := wpXm_fail (nI t) 5 N) h (hz (by decide)) (by decide) (by decide) (fun post hp => hp) (fun post hp => hp)
    exact ⟨r, M', N', fun post hp => ⟨fun w => absurd w (by decide), fun _ => ⟨fun w => absurd w (by decide), fun _ => ⟨fun w => absurd w (by decide), fun _ => ⟨fun w => absurd w (by decide), fun _ => ⟨fun w => absurd w (by decide), fun _ => ⟨fun w => absurd w (by decide), fun _ => a post hp⟩⟩⟩⟩⟩⟩, fun post hp => ⟨fun w => absurd w (by decide), fun _ => ⟨fun w => absurd w (by decide), fun _ => ⟨fun w => absurd w (by decide), fun _ => ⟨fun w => absurd w (by decide), fun _ => ⟨fun w => absurd w (by decide), fun _ => ⟨fun w => absurd w (by decide), fun _ => b post hp⟩⟩⟩⟩⟩⟩, d⟩
theorem sx_turn {t : Nat} {M : Mm} {post : Int32 → Mm → Prop} (ht : t < 8) {k a : Nat} (ek : M 15 t = nI k) (ea : M 2 t = nI a) (hk : k ≤ a) (ha : a ≤ 16)
    (hend : k = a → post 4 (frM (stM (duM (tbM M t)) 14 (upd ((duM (tbM M t)) 14) t 1)) t))
    (hact : k < a → wpXs_perform (nI t) (M 0 (16 * t + k)) (M 1 (16 * t + k)) (duM (tbM M t)) (tailX (nI t) post)) : wpXs_takeTurn (nI t) M post := by
  have it : vp_in (nI t) 8 := inI ht (by decide)
  have ct : (nI t).toNatClampNeg = t := clI (by omega)
  rintro y rfl y rfl M1 rfl
  refine ⟨it, ?_⟩
  rintro M1 rfl
  rw [ct]
  refine sx_due (M := tbM M t) ⟨it, ?_⟩
  rintro y rfl
  refine sx_actsOf ht ?_
  rw [show duM (tbM M t) 15 t = nI k from ek, show duM (tbM M t) 2 t = nI a from ea]
  refine ⟨fun q => ?_, fun q => ?_⟩
  · have q : k < a := (nI_ltE (by omega) (by omega)).mp q
    have h := hact q
    rintro y rfl y rfl
    rw [ix16']
    refine ⟨inI (by omega) (by decide), ?_⟩
    rintro y rfl y rfl y rfl
    rw [ix16', clI (by omega)]
    refine ⟨inI (by omega) (by decide), ?_⟩
    rintro y rfl
    unfold tailX at h
    rw [ct] at h
    exact h
  · refine sx_end ht ?_
    refine hend ?_
    have w : ¬ k < a := fun w => q ((nI_ltE (by omega) (by omega)).mpr w)
    omega
theorem sm_turn {t : Nat} {M : Mm} {post : Int32 → Mm → Prop} (ht : t < 8) {k a kd n : Nat} (ek : M 15 t = nI k) (ea : M 2 t = nI a) (hk : k ≤ a) (ha : a ≤ 16) (e0 : k < a → M 0 (16 * t + k) = nI kd) (e1 : k < a → M 1 (16 * t + k) = nI n) (hn : n ≤ 255)
    (hend : k = a → post 4 (frM (stM (duM (tbM M t)) 14 (upd ((duM (tbM M t)) 14) t 1)) t))
    (hact : k < a → ((nI kd = 0 → wpXm_lock (nI t) (nI n) (duM (tbM M t)) post) ∧ (¬ nI kd = 0 → (nI kd = 1 → wpXm_unlock (nI t) (nI n) (duM (tbM M t)) post) ∧ (¬ nI kd = 1 → (nI kd = 2 → wpXm_take (nI t) (nI n) (duM (tbM M t)) post) ∧ (¬ nI kd = 2 → (nI kd = 3 → wpXm_send (nI t) (nI (n / 16)) (nI (n % 16)) (duM (tbM M t)) post) ∧ (¬ nI kd = 3 → (nI kd = 4 → wpXm_shut (nI t) (nI n) (duM (tbM M t)) post) ∧ (¬ nI kd = 4 → (nI kd = 5 → wpXm_rest (nI t) (nI n) (duM (tbM M t)) post) ∧ (¬ nI kd = 5 → wpXm_fail (nI t) 5 (duM (tbM M t)) post)))))))) : wpXm_turn (nI t) M post := by
  have it : vp_in (nI t) 8 := inI ht (by decide)
  have ct : (nI t).toNatClampNeg = t := clI (by omega)
  rintro y rfl y rfl M1 rfl
  refine ⟨it, ?_⟩
  rintro M1 rfl
  rw [ct]
  refine sm_due (M := tbM M t) ?_
  rw [wlXm_turn_19]
  refine ⟨fun _ => ⟨it, ?_⟩, fun q => absurd (by decide) q⟩
  rintro y rfl
  refine ⟨it, ?_⟩
  rintro y rfl
  rw [ct, show duM (tbM M t) 15 t = nI k from ek, show duM (tbM M t) 2 t = nI a from ea]
  refine ⟨fun q => sm_end ht (hend (nI_inj (by omega) (by omega) q)), fun q => ?_⟩
  have q : k < a := by
    have w : ¬ k = a := fun w => q (by rw [w])
    omega
  have h := hact q
  rintro y rfl
  refine ⟨it, ?_⟩
  rintro y rfl y rfl
  rw [ix16]
  refine ⟨inI (by omega) (by decide), ?_⟩
  rintro y rfl y rfl
  refine ⟨it, ?_⟩
  rintro y rfl y rfl
  rw [ix16, clI (by omega)]
  refine ⟨inI (by omega) (by decide), ?_⟩
  rintro y rfl
  rw [show duM (tbM M t) 0 (16 * t + k) = nI kd from e0 q, show duM (tbM M t) 1 (16 * t + k) = nI n from e1 q]
  refine ⟨h.1, fun z => ⟨(h.2 z).1, fun z1 => ⟨((h.2 z).2 z1).1, fun z2 => ⟨fun z3 => ?_, fun z3 => ((((h.2 z).2 z1).2 z2).2 z3)⟩⟩⟩⟩
  rintro y rfl y rfl
  rw [show nI n / 16 = nI (n / 16) from pk_div (d := 16) (by omega) (by decide) (by decide), show nI n - nI (n / 16) * 16 = nI (n % 16) from by
    have w := pk_rem (a := n) (d := 16) (by omega) (by decide) (by decide)
    rw [pk_div (d := 16) (by omega) (by decide) (by decide)] at w
    exact w]
  exact (((h.2 z).2 z1).2 z2).1 z3
theorem turn_rel {c t : Nat} {M N : Mm} (h : RR c M N) (ht : t < 8) (h0 : M 14 t = 0) : BR c (wpXs_takeTurn (nI t) M) (wpXm_turn (nI t) N) := by
  have hD : RR c (duM (tbM M t)) (duM (tbM N t)) := RR_du (RR_tb h)
  obtain ⟨k, a, hk, ha, ek, ea⟩ := h.at_ ht
  have ekN : N 15 t = nI k := (h.same (c15 ht)).symm.trans ek
  have eaN : N 2 t = nI a := (h.same (c2 ht)).symm.trans ea
  by_cases q : k = a
  · exact ⟨4, _, _, fun post hp => sx_turn ht ek ea hk ha (fun _ => hp) (fun w => absurd w (by omega)), fun post hp => sm_turn (kd := 0) (n := 0) ht ekN eaN hk ha (fun w => absurd w (by omega)) (fun w => absurd w (by omega)) (by omega) (fun _ => hp) (fun w => absurd w (by omega)), RR_end hD ht⟩
  · have hka : k < a := by omega
    obtain ⟨kd, hkd, e0⟩ := h.d (j := 0) (i := 16 * t + k) (by show 16 * t + k < 128; omega)
    obtain ⟨n, hn, e1⟩ := h.d (j := 1) (i := 16 * t + k) (by show 16 * t + k < 128; omega)
    have e0N : N 0 (16 * t + k) = nI kd := (h.same (c0 (i := 16 * t + k) (by omega))).symm.trans e0
    have e1N : N 1 (16 * t + k) = nI n := (h.same (c1 (i := 16 * t + k) (by omega))).symm.trans e1
    have hA : AtAct c t (duM (tbM M t)) (duM (tbM N t)) := ⟨hD, ht, h0, by
      show M 15 t < M 2 t
      rw [ek, ea, nI_ltE (by omega) (by omega)]; exact hka⟩
    obtain ⟨r, M', N', x, y, z⟩ := act_rel hA ek (by omega) hkd hn e0 e1
    refine ⟨r, M', N', fun post hp => sx_turn ht ek ea hk ha (fun w => absurd w q) (fun _ => ?_), fun post hp => sm_turn ht ekN eaN hk ha (fun _ => e0N) (fun _ => e1N) hn (fun w => absurd w q) (fun _ => y post hp), z⟩
    rw [e0, e1]
    exact x post hp
