/-! THE PURE SIDE: what the predicates wp_.. say, in functions of the memory -/
theorem inI {t n : Nat} (h : t < n) (hn : n < 2 ^ 31) : vp_in (nI t) n := vp_in_nI h hn
theorem clI {t : Nat} (h : t < 1000) : (nI t).toNatClampNeg = t := nI_clamp (by omega)
theorem stM_st (M : Mm) (k : Nat) (f g : Nat → Int32) : stM (stM M k f) k g = stM M k g := by
  funext j
  by_cases h : j = k
  · subst h; rw [stM_s, stM_s]
  · rw [stM_n _ _ h, stM_n _ _ h, stM_n _ _ h]
theorem stM_id (M : Mm) (k : Nat) : stM M k (M k) = M := by
  funext j
  by_cases h : j = k
  · subst h; rw [stM_s]
  · rw [stM_n _ _ h]
theorem upd_e (f : Nat → Int32) (k : Nat) (x : Int32) (j : Nat) : upd f k x j = if j = k then x else f j := by
  by_cases h : j = k
  · rw [if_pos h, h, pk_us]
  · rw [if_neg h, pk_un h]
theorem nI_inj {a b : Nat} (ha : a < 1000000) (hb : b < 1000000) (h : nI a = nI b) : a = b := (nI_eq (by omega) (by omega)).mp h
theorem nI_ne {a b : Nat} (ha : a < 1000000) (hb : b < 1000000) (h : a ≠ b) : nI a ≠ nI b := fun e => h (nI_inj ha hb e)
theorem nI_m1 {a : Nat} (ha : a < 1000000) : nI a ≠ -1 := by
  intro e
  have h1 := congrArg Int32.toInt e
  rw [nI_toInt (by omega)] at h1
  have h2 : (-1 : Int32).toInt = -1 := by decide
  omega
theorem m1_neg : (-1 : Int32) < 0 := by decide
theorem nI_nn {a : Nat} (ha : a < 1000000) : ¬ nI a < 0 := nI_pos (by omega)
theorem nI_leE {a b : Nat} (ha : a < 1000000) (hb : b < 1000000) : nI a ≤ nI b ↔ a ≤ b := nI_leI (by omega) (by omega)
theorem nI_ltE {a b : Nat} (ha : a < 1000000) (hb : b < 1000000) : nI a < nI b ↔ a < b := nI_ltI (by omega) (by omega)
theorem nI_eqE {a b : Nat} (ha : a < 1000000) (hb : b < 1000000) : nI a = nI b ↔ a = b := nI_eq (by omega) (by omega)
theorem lit_nI (k : Nat) : (OfNat.ofNat k : Int32) = nI k := rfl
/-- a loop that counts k .. n: what holds at each head holds at the end -/
theorem up_to {P : Nat → Nat → Prop} {n : Nat} (h0 : P 1 n) (hs : ∀ d k, k < n → P (d + 1) (k + 1) → P (d + 2) k) : ∀ d k, k + d = n → P (d + 1) k := by
  intro d
  induction d with
  | zero => intro k hk; have e : k = n := by omega
            subst e; exact h0
  | succ d ih => intro k hk; exact hs d k (by omega) (ih (k + 1) (by omega))
/-- the locks of t among the first k units, freed -/
def frK (f : Nat → Int32) (t : Int32) (k : Nat) : Nat → Int32 := fun u => if u < k ∧ f u = t then -1 else f u
theorem frK_0 (f : Nat → Int32) (t : Int32) : frK f t 0 = f := by
  funext u
  unfold frK
  rw [if_neg (by omega)]
theorem frK_y {f : Nat → Int32} {t : Int32} {k : Nat} (h : frK f t k k = t) : upd (frK f t k) k (-1) = frK f t (k + 1) := by
  have h1 : f k = t := by unfold frK at h; rw [if_neg (by omega)] at h; exact h
  funext u
  rw [upd_e]
  unfold frK
  by_cases hu : u = k
  · subst hu; rw [if_pos rfl, if_pos ⟨by omega, h1⟩]
  · rw [if_neg hu]
    by_cases hc : u < k ∧ f u = t
    · rw [if_pos hc, if_pos ⟨by omega, hc.2⟩]
    · rw [if_neg hc, if_neg (fun q => hc ⟨by omega, q.2⟩)]
theorem frK_n {f : Nat → Int32} {t : Int32} {k : Nat} (h : ¬ frK f t k k = t) : frK f t k = frK f t (k + 1) := by
  have h1 : ¬ f k = t := by unfold frK at h; rw [if_neg (by omega)] at h; exact h
  funext u
  unfold frK
  by_cases hc : u < k ∧ f u = t
  · rw [if_pos hc, if_pos ⟨by omega, hc.2⟩]
  · have h2 : ¬ (u < k + 1 ∧ f u = t) := by
      rintro ⟨q1, q2⟩
      by_cases e : u = k
      · subst e; exact h1 q2
      · exact hc ⟨by omega, q2⟩
    rw [if_neg hc, if_neg h2]
def frM (M : Mm) (t : Nat) : Mm := stM M 4 (frK (M 4) (nI t) 10)
theorem sx_freeAllOf {t : Nat} {M : Mm} {post : Mm → Prop} (h : post (frM M t)) : wpXu_freeAllOf (nI t) M post := by
  have key : ∀ d k, k + d = 10 → wlXu_freeAllOf_2 post (d + 1) (nI t) (nI k) (stM M 4 (frK (M 4) (nI t) k)) := by
    refine up_to (P := fun d k => wlXu_freeAllOf_2 post d (nI t) (nI k) (stM M 4 (frK (M 4) (nI t) k))) ?_ ?_
    · rw [wlXu_freeAllOf_2]
      exact ⟨fun _ => h, fun c => absurd (by decide) c⟩
    · intro d k hk ih
      rw [wlXu_freeAllOf_2]
      refine ⟨fun c => absurd c (nI_ge hk (by decide)), fun _ => ⟨inI hk (by decide), ?_⟩⟩
      rintro y rfl
      rw [clI (by omega), nI_1, stM_s]
      refine ⟨fun c => ⟨inI hk (by decide), ?_⟩, fun c => ?_⟩
      · rintro M1 rfl x rfl
        rw [stM_st, frK_y c]
        exact ih
      · rintro x rfl
        rw [frK_n c]
        exact ih
  have e : M = stM M 4 (frK (M 4) (nI t) 0) := by rw [frK_0, stM_id]
  refine ⟨11, ?_⟩
  have h0 := key 10 0 (by omega)
  rw [← e] at h0
  exact h0
theorem sm_free {t : Nat} {M : Mm} {post : Mm → Prop} (h : post (frM M t)) : wpXm_free (nI t) M post := by
  have key : ∀ d k, k + d = 10 → wlXm_free_2 post (d + 1) (nI t) (nI k) (stM M 4 (frK (M 4) (nI t) k)) := by
    refine up_to (P := fun d k => wlXm_free_2 post d (nI t) (nI k) (stM M 4 (frK (M 4) (nI t) k))) ?_ ?_
    · rw [wlXm_free_2]
      exact ⟨fun _ => h, fun c => absurd (by decide) c⟩
    · intro d k hk ih
      rw [wlXm_free_2]
      refine ⟨fun c => absurd c (nI_ge hk (by decide)), fun _ => ⟨inI hk (by decide), ?_⟩⟩
      rintro y rfl
      rw [clI (by omega), nI_1, stM_s]
      refine ⟨fun c => ⟨inI hk (by decide), ?_⟩, fun c => ?_⟩
      · rintro M1 rfl x rfl
        rw [stM_st, frK_y c]
        exact ih
      · rintro x rfl
        rw [frK_n c]
        exact ih
  have e : M = stM M 4 (frK (M 4) (nI t) 0) := by rw [frK_0, stM_id]
  refine ⟨11, ?_⟩
  have h0 := key 10 0 (by omega)
  rw [← e] at h0
  exact h0
