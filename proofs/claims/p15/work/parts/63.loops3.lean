/-- the locks, behind the first k threads: those of dead ones that are due are freed -/
def duF (M : Mm) : Nat → (Nat → Int32)
  | 0 => M 4
  | k + 1 => if M 14 k = 2 ∧ ¬ M 24 0 < M 19 k then frK (duF M k) (nI k) 10 else duF M k
def duM (M : Mm) : Mm := stM M 4 (duF M 8)
theorem sx_due {M : Mm} {post : Mm → Prop} (h : post (duM M)) : wpXs_freeLocksThatAreDue M post := by
  have key : ∀ d k, k + d = 8 → wlXs_freeLocksThatAreDue_2 post (d + 1) (nI k) (stM M 4 (duF M k)) := by
    refine up_to (P := fun d k => wlXs_freeLocksThatAreDue_2 post d (nI k) (stM M 4 (duF M k))) ?_ ?_
    · rw [wlXs_freeLocksThatAreDue_2]
      exact ⟨fun _ => h, fun c => absurd (by decide) c⟩
    · intro d k hk ih
      rw [wlXs_freeLocksThatAreDue_2]
      refine ⟨fun c => absurd c (nI_ge hk (by decide)), fun _ => ⟨inI hk (by decide), ?_⟩⟩
      rintro y rfl
      rw [clI (by omega), nI_1]
      refine ⟨fun c => ?_, fun c => ?_⟩
      · rintro y rfl
        refine ⟨inI hk (by decide), ?_⟩
        rintro y rfl
        refine ⟨fun z => ?_, fun z => ?_⟩
        · rintro x rfl
          have e : duF M (k + 1) = duF M k := by rw [duF, if_neg (fun q => q.2 z)]
          rw [e] at ih
          exact ih
        · refine sx_freeAllOf ?_
          rintro x rfl
          have e : duF M (k + 1) = frK (duF M k) (nI k) 10 := by rw [duF, if_pos ⟨c, z⟩]
          rw [e] at ih
          unfold frM
          rw [stM_s, stM_st]
          exact ih
      · rintro x rfl
        have e : duF M (k + 1) = duF M k := by rw [duF, if_neg (fun q => c q.1)]
        rw [e] at ih
        exact ih
  have e0 : M = stM M 4 (duF M 0) := by rw [duF, stM_id]
  have h0 := key 8 0 (by omega)
  rw [← e0] at h0
  exact ⟨9, h0⟩
theorem sm_due {t : Int32} {M : Mm} {post : Int32 → Mm → Prop} (h : wlXm_turn_19 post 1 t 8 (duM M)) : ∃ n, wlXm_turn_19 post n t 0 M := by
  have key : ∀ d k, k + d = 8 → wlXm_turn_19 post (d + 1) t (nI k) (stM M 4 (duF M k)) := by
    refine up_to (P := fun d k => wlXm_turn_19 post d t (nI k) (stM M 4 (duF M k))) h ?_
    intro d k hk ih
    rw [wlXm_turn_19]
    refine ⟨fun c => absurd c (nI_ge hk (by decide)), fun _ => ⟨inI hk (by decide), ?_⟩⟩
    rintro y rfl
    rw [clI (by omega), nI_1]
    refine ⟨fun c => ?_, fun c => ?_⟩
    · rintro y rfl
      refine ⟨inI hk (by decide), ?_⟩
      rintro y rfl
      refine ⟨fun z => ?_, fun z => ?_⟩
      · rintro x rfl
        have e : duF M (k + 1) = duF M k := by rw [duF, if_neg (fun q => q.2 z)]
        rw [e] at ih
        exact ih
      · refine sm_free ?_
        rintro x rfl
        have e : duF M (k + 1) = frK (duF M k) (nI k) 10 := by rw [duF, if_pos ⟨c, z⟩]
        rw [e] at ih
        unfold frM
        rw [stM_s, stM_st]
        exact ih
    · rintro x rfl
      have e : duF M (k + 1) = duF M k := by rw [duF, if_neg (fun q => c q.1)]
      rw [e] at ih
      exact ih
  have e0 : M = stM M 4 (duF M 0) := by rw [duF, stM_id]
  have h0 := key 8 0 (by omega)
  rw [← e0] at h0
  exact ⟨9, h0⟩
/-- the next running thread with acts, d to be asked -/
def hrL (M : Mm) (t : Nat) : Nat → Int32
  | 0 => -1
  | d + 1 => if M 14 ((t + (7 - d)) % 8) = 0 ∧ ¬ M 2 ((t + (7 - d)) % 8) ≤ 0 then nI ((t + (7 - d)) % 8) else hrL M t d
theorem sx_runsWithActs {t : Nat} {M : Mm} {post : Int32 → Mm → Prop} (ht : t < 8) (h1 : M 14 t = 0 ∧ ¬ M 2 t ≤ 0 → post 1 M) (h0 : ¬ (M 14 t = 0 ∧ ¬ M 2 t ≤ 0) → post 0 M) : wpXs_runsWithActs (nI t) M post := by
  refine ⟨inI ht (by decide), ?_⟩
  rintro y rfl
  rw [clI (by omega)]
  refine ⟨fun c => ⟨inI ht (by decide), ?_⟩, fun c => h0 (fun q => c q.1)⟩
  rintro y rfl
  rw [clI (by omega)]
  exact ⟨fun z => h0 (fun q => q.2 z), fun z => h1 ⟨c, z⟩⟩
theorem rem8 {t k : Nat} (ht : t < 8) (hk : k < 8) : nI t + nI k - (nI t + nI k) / 8 * 8 = nI ((t + k) % 8) := by
  rw [nI_add]
  exact pk_rem (d := 8) (by omega) (by decide) (by decide)
theorem up_to2 {P : Nat → Nat → Prop} {n : Nat} (h0 : P 1 n) (hs : ∀ d k, k + d + 1 = n → P (d + 1) (k + 1) → P (d + 2) k) : ∀ d k, k + d = n → P (d + 1) k := by
  intro d
  induction d with
  | zero => intro k hk; have e : k = n := by omega
            subst e; exact h0
  | succ d ih => intro k hk; exact hs d k (by omega) (ih (k + 1) (by omega))
theorem sx_heir {t : Nat} {M : Mm} {post : Int32 → Mm → Prop} (ht : t < 8) (h : post (hrL M t 7) M) : wpXs_nextRunningBehind (nI t) M post := by
  have key : ∀ d k, k + d = 8 → post (hrL M t d) M → wlXs_nextRunningBehind_2 post (d + 1) (nI t) (nI k) M := by
    refine up_to2 (P := fun d k => post (hrL M t (d - 1)) M → wlXs_nextRunningBehind_2 post d (nI t) (nI k) M) ?_ ?_
    · intro h
      rw [wlXs_nextRunningBehind_2]
      exact ⟨fun _ => h, fun c => absurd (by decide) c⟩
    · intro d k hk ih h
      have ih : post (hrL M t d) M → wlXs_nextRunningBehind_2 post (d + 1) (nI t) (nI (k + 1)) M := ih
      have h : post (hrL M t (d + 1)) M := h
      rw [hrL, show 7 - d = k by omega] at h
      rw [wlXs_nextRunningBehind_2]
      refine ⟨fun c => absurd c (nI_ge (a := k) (b := 8) (by omega) (by decide)), fun _ => ?_⟩
      rintro y rfl y rfl
      rw [rem8 ht (by omega)]
      refine sx_runsWithActs (by omega) (fun q => ?_) (fun q => ?_)
      · rw [if_pos q] at h
        exact ⟨fun z => absurd z (by decide), fun _ => h⟩
      · rw [if_neg q] at h
        refine ⟨fun _ => ?_, fun z => absurd rfl z⟩
        rintro x rfl
        rw [nI_1]
        exact ih h
  exact ⟨8, key 7 1 (by omega) h⟩
theorem sm_heir {t : Nat} {M : Mm} {post : Int32 → Mm → Prop} (ht : t < 8) (h : post (hrL M t 7) M) : wpXm_heir (nI t) M post := by
  have key : ∀ d k, k + d = 8 → post (hrL M t d) M → wlXm_heir_2 post (d + 1) (nI t) (nI k) M := by
    refine up_to2 (P := fun d k => post (hrL M t (d - 1)) M → wlXm_heir_2 post d (nI t) (nI k) M) ?_ ?_
    · intro h
      rw [wlXm_heir_2]
      exact ⟨fun _ => h, fun c => absurd (by decide) c⟩
    · intro d k hk ih h
      have ih : post (hrL M t d) M → wlXm_heir_2 post (d + 1) (nI t) (nI (k + 1)) M := ih
      have h : post (hrL M t (d + 1)) M := h
      rw [hrL, show 7 - d = k by omega] at h
      rw [wlXm_heir_2]
      refine ⟨fun c => absurd c (nI_ge (a := k) (b := 8) (by omega) (by decide)), fun _ => ?_⟩
      rintro y rfl y rfl
      rw [rem8 ht (by omega)]
      refine ⟨inI (by omega) (by decide), ?_⟩
      rintro y rfl
      rw [clI (by omega)]
      refine ⟨fun c => ⟨inI (by omega) (by decide), ?_⟩, fun c => ?_⟩
      · rintro y rfl
        refine ⟨fun z => ?_, fun z => ?_⟩
        · rintro x rfl
          rw [if_neg (fun q => q.2 z)] at h
          rw [nI_1]
          exact ih h
        · rw [if_pos ⟨c, z⟩] at h
          exact h
      · rintro x rfl
        rw [if_neg (fun q => c q.1)] at h
        rw [nI_1]
        exact ih h
  exact ⟨8, key 7 1 (by omega) h⟩
def rwB (M : Mm) : Nat → Bool := fun t => decide (M 14 t = 0 ∧ ¬ M 2 t ≤ 0)
theorem sx_runningWithActs {M : Mm} {post : Int32 → Mm → Prop} (h : post (nI (cnt (rwB M) 8)) M) : wpXs_runningWithActs M post := by
  have key : ∀ d k, k + d = 8 → wlXs_runningWithActs_4 post (d + 1) (nI (cnt (rwB M) k)) (nI k) M := by
    refine up_to (P := fun d k => wlXs_runningWithActs_4 post d (nI (cnt (rwB M) k)) (nI k) M) ?_ ?_
    · rw [wlXs_runningWithActs_4]
      exact ⟨fun _ => h, fun c => absurd (by decide) c⟩
    · intro d k hk ih
      rw [wlXs_runningWithActs_4]
      refine ⟨fun c => absurd c (nI_ge hk (by decide)), fun _ => sx_runsWithActs hk (fun q => ?_) (fun q => ?_)⟩
      · refine ⟨fun z => absurd z (by decide), fun _ => ?_⟩
        rintro x rfl z rfl
        rw [cnt_y (b := rwB M) (decide_eq_true q), nI_1]
        exact ih
      · refine ⟨fun _ => ?_, fun z => absurd rfl z⟩
        rintro x rfl
        rw [cnt_n (b := rwB M) (decide_eq_false q), nI_1]
        exact ih
  exact ⟨9, key 8 0 (by omega)⟩
def oB (M : Mm) : Nat → Bool := fun c => decide (¬ M 9 c = 0)
theorem sx_openCount {c : Nat} {M : Mm} {post : Int32 → Mm → Prop} (hc : nC M c) (h : post (nI (cnt (oB M) c)) M) : wpXc_openCount M post := by
  obtain ⟨e, hl⟩ := id hc
  have key : ∀ d k, k + d = c → wlXc_openCount_4 post (d + 1) (nI (cnt (oB M) k)) (nI k) M := by
    refine up_to (P := fun d k => wlXc_openCount_4 post d (nI (cnt (oB M) k)) (nI k) M) ?_ ?_
    · rw [wlXc_openCount_4]
      rintro y rfl
      rw [e]
      exact ⟨fun _ => h, fun q => absurd ((nI_leE (by omega) (by omega)).mpr (Nat.le_refl _)) q⟩
    · intro d k hk ih
      rw [wlXc_openCount_4]
      rintro y rfl
      rw [e]
      refine ⟨fun q => absurd ((nI_leE (by omega) (by omega)).mp q) (by omega), fun _ => ⟨inI (by omega) (by decide), ?_⟩⟩
      rintro y rfl
      rw [clI (by omega), nI_1 k]
      refine ⟨fun z => ?_, fun z => ?_⟩
      · rintro x rfl
        rw [cnt_n (b := oB M) (decide_eq_false (fun q => q z))]
        exact ih
      · rintro x rfl z2 rfl
        rw [cnt_y (b := oB M) (decide_eq_true z)]
        exact ih
  exact ⟨c + 1, key c 0 (by omega)⟩
/-- a rank above all open calls' that t has -/
abbrev hiC (M : Mm) (t c : Nat) (rk : Int32) : Prop := ∀ i, i < c → (opB M (nI t) i → M 6 i < rk)
def inF (M : Mm) (c : Nat) (rk : Int32) : Nat → (Nat → Int32)
  | 0 => M 20
  | k + 1 => if M 14 k = 0 ∧ ¬ M 17 k ≤ 0 ∧ hiC M k c rk then upd (inF M c rk k) k 1 else inF M c rk k
theorem sx_interrupt {c : Nat} {rk : Int32} {M : Mm} {post : Mm → Prop} (hc : nC M c) (hr : -1 < rk) (h : post (stM M 20 (inF M c rk 8))) : wpXs_interruptResting rk M post := by
  obtain ⟨e, hl⟩ := id hc
  have key : ∀ d k, k + d = 8 → wlXs_interruptResting_2 post (d + 1) rk (nI k) (stM M 20 (inF M c rk k)) := by
    refine up_to (P := fun d k => wlXs_interruptResting_2 post d rk (nI k) (stM M 20 (inF M c rk k))) ?_ ?_
    · rw [wlXs_interruptResting_2]
      exact ⟨fun _ => h, fun c => absurd (by decide) c⟩
    · intro d k hk ih
      rw [wlXs_interruptResting_2]
      refine ⟨fun c => absurd c (nI_ge hk (by decide)), fun _ => ⟨inI hk (by decide), ?_⟩⟩
      rintro y rfl
      rw [clI (by omega), nI_1]
      have no : ¬ (M 14 k = 0 ∧ ¬ M 17 k ≤ 0 ∧ hiC M k c rk) → wlXs_interruptResting_2 post (d + 1) rk (nI (k + 1)) (stM M 20 (inF M c rk k)) := by
        intro q
        have e2 : inF M c rk (k + 1) = inF M c rk k := by rw [inF, if_neg q]
        rw [e2] at ih
        exact ih
      refine ⟨fun z => ⟨inI hk (by decide), ?_⟩, fun z => ?_⟩
      · rintro y rfl
        refine ⟨fun w => ?_, fun w => ?_⟩
        · rintro x rfl
          exact no (fun q => q.2.1 w)
        · refine sx_highest (c := c) ⟨e, hl⟩ (fun r hr2 => ?_)
          have hh : r < rk ↔ hiC M k c rk := hr2 rk hr
          refine ⟨fun v => ?_, fun v => ⟨inI hk (by decide), ?_⟩⟩
          · rintro x rfl
            exact no (fun q => absurd (hh.mpr q.2.2) (Int32.not_lt.mpr v))
          · rintro M1 rfl x rfl
            have e2 : inF M c rk (k + 1) = upd (inF M c rk k) k 1 := by rw [inF, if_pos ⟨z, w, hh.mp (Int32.not_le.mp v)⟩]
            rw [e2] at ih
            rw [stM_s, stM_st]
            exact ih
      · rintro x rfl
        exact no (fun q => z q.1)
  have e0 : M = stM M 20 (inF M c rk 0) := by rw [inF, stM_id]
  have h0 := key 8 0 (by omega)
  rw [← e0] at h0
  exact ⟨9, h0⟩
