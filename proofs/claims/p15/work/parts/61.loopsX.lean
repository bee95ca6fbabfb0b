def abv (f : Nat → Int32) (t u : Nat) : Prop := ∃ v, u < v ∧ v < 10 ∧ f v = nI t
theorem sx_hasOneAbove {t u : Nat} {M : Mm} {post : Int32 → Mm → Prop} (hu : u < 10) (h1 : abv (M 4) t u → post 1 M) (h0 : ¬ abv (M 4) t u → post 0 M) : wpXu_hasOneAbove (nI t) (nI u) M post := by
  have key : ∀ d k, k + d = 10 → u < k → (∀ v, u < v → v < k → ¬ M 4 v = nI t) → wlXu_hasOneAbove_4 post (d + 1) (nI t) (nI k) M := by
    refine up_to (P := fun d k => u < k → (∀ v, u < v → v < k → ¬ M 4 v = nI t) → wlXu_hasOneAbove_4 post d (nI t) (nI k) M) ?_ ?_
    · intro _ hn
      rw [wlXu_hasOneAbove_4]
      exact ⟨fun _ => h0 (fun ⟨v, a, b, c⟩ => hn v a b c), fun c => absurd (by decide) c⟩
    · intro d k hk ih hu hn
      rw [wlXu_hasOneAbove_4]
      refine ⟨fun c => absurd c (nI_ge hk (by decide)), fun _ => ⟨inI hk (by decide), ?_⟩⟩
      rintro y rfl
      rw [clI (by omega), nI_1]
      refine ⟨fun c => h1 ⟨k, hu, hk, c⟩, fun c => ?_⟩
      rintro x rfl
      refine ih (by omega) (fun v a b => ?_)
      by_cases e : v = k
      · rw [e]; exact c
      · exact hn v a (by omega)
  rintro y rfl
  rw [nI_1]
  exact ⟨10 - u, by have h := key (9 - u) (u + 1) (by omega) (by omega) (fun v a b => absurd b (by omega)); rw [show 10 - u = 9 - u + 1 by omega]; exact h⟩
theorem sm_hasAbove {t u : Nat} {M : Mm} {post : Int32 → Mm → Prop} (hu : u < 10) (h1 : abv (M 4) t u → post 1 M) (h0 : ¬ abv (M 4) t u → post 0 M) : wpXm_hasAbove (nI t) (nI u) M post := by
  have key : ∀ d k, k + d = 10 → (u < k → (∀ v, u < v → v < k → ¬ M 4 v = nI t) → wlXm_hasAbove_7 post (d + 1) (nI t) 0 (nI k) M) ∧ (abv (M 4) t u → wlXm_hasAbove_7 post (d + 1) (nI t) 1 (nI k) M) := by
    refine up_to (P := fun d k => (u < k → (∀ v, u < v → v < k → ¬ M 4 v = nI t) → wlXm_hasAbove_7 post d (nI t) 0 (nI k) M) ∧ (abv (M 4) t u → wlXm_hasAbove_7 post d (nI t) 1 (nI k) M)) ?_ ?_
    · refine ⟨fun _ hn => ?_, fun ha => ?_⟩
      · rw [wlXm_hasAbove_7]
        exact ⟨fun _ => ⟨by decide, h0 (fun ⟨v, a, b, c⟩ => hn v a b c)⟩, fun c => absurd (by decide) c⟩
      · rw [wlXm_hasAbove_7]
        exact ⟨fun _ => ⟨by decide, h1 ha⟩, fun c => absurd (by decide) c⟩
    · intro d k hk ih
      refine ⟨fun hu hn => ?_, fun ha => ?_⟩
      · rw [wlXm_hasAbove_7]
        refine ⟨fun c => absurd c (nI_ge hk (by decide)), fun _ => ⟨fun _ => ⟨inI hk (by decide), ?_⟩, fun c => absurd rfl c⟩⟩
        rintro y rfl
        rw [clI (by omega), nI_1]
        refine ⟨fun c => ?_, fun c => ?_⟩
        · rintro x rfl
          exact ih.2 ⟨k, hu, hk, c⟩
        · rintro x rfl
          refine ih.1 (by omega) (fun v a b => ?_)
          by_cases e : v = k
          · rw [e]; exact c
          · exact hn v a (by omega)
      · rw [wlXm_hasAbove_7]
        refine ⟨fun c => absurd c (nI_ge hk (by decide)), fun _ => ⟨fun c => absurd c (by decide), fun _ => ?_⟩⟩
        rintro x rfl
        rw [nI_1]
        exact ih.2 ha
  rintro y rfl
  rw [nI_1]
  exact ⟨10 - u, by have h := (key (9 - u) (u + 1) (by omega)).1 (by omega) (fun v a b => absurd b (by omega)); rw [show 10 - u = 9 - u + 1 by omega]; exact h⟩
/-- how many of the first n -/
def cnt (b : Nat → Bool) : Nat → Nat
  | 0 => 0
  | n + 1 => cnt b n + (if b n then 1 else 0)
theorem cnt_le (b : Nat → Bool) (n : Nat) : cnt b n ≤ n := by
  induction n with
  | zero => exact Nat.le_refl 0
  | succ n ih => rw [cnt]; split <;> omega
theorem cnt_eq {b c : Nat → Bool} {n : Nat} (h : ∀ i, i < n → b i = c i) : cnt b n = cnt c n := by
  induction n with
  | zero => rfl
  | succ n ih => rw [cnt, cnt, ih (fun i hi => h i (by omega)), h n (by omega)]
theorem cnt_y {b : Nat → Bool} {k : Nat} (h : b k = true) : nI (cnt b k) + 1 = nI (cnt b (k + 1)) := by
  rw [nI_1, cnt, if_pos h]
theorem cnt_n {b : Nat → Bool} {k : Nat} (h : b k = false) : cnt b k = cnt b (k + 1) := by
  rw [cnt, h]; rfl
def lkB (f : Nat → Int32) (t : Int32) : Nat → Bool := fun u => decide (f u = t)
theorem sx_lockedByCount {t : Int32} {M : Mm} {post : Int32 → Mm → Prop} (h : post (nI (cnt (lkB (M 4) t) 10)) M) : wpXu_lockedByCount t M post := by
  have key : ∀ d k, k + d = 10 → wlXu_lockedByCount_4 post (d + 1) t (nI (cnt (lkB (M 4) t) k)) (nI k) M := by
    refine up_to (P := fun d k => wlXu_lockedByCount_4 post d t (nI (cnt (lkB (M 4) t) k)) (nI k) M) ?_ ?_
    · rw [wlXu_lockedByCount_4]
      exact ⟨fun _ => h, fun c => absurd (by decide) c⟩
    · intro d k hk ih
      rw [wlXu_lockedByCount_4]
      refine ⟨fun c => absurd c (nI_ge hk (by decide)), fun _ => ⟨inI hk (by decide), ?_⟩⟩
      rintro y rfl
      rw [clI (by omega), nI_1 k]
      refine ⟨fun c => ?_, fun c => ?_⟩
      · rintro x rfl z rfl
        rw [cnt_y (b := lkB (M 4) t) (decide_eq_true c)]
        exact ih
      · rintro x rfl
        rw [cnt_n (b := lkB (M 4) t) (decide_eq_false c)]
        exact ih
  exact ⟨11, key 10 0 (by omega)⟩
theorem sx_lockedCount {M : Mm} {post : Int32 → Mm → Prop} (h : post (nI (10 - cnt (lkB (M 4) (-1)) 10)) M) : wpXu_lockedCount M post := by
  refine sx_lockedByCount ?_
  rintro y rfl
  have e : (10 : Int32) - nI (cnt (lkB (M 4) (-1)) 10) = nI (10 - cnt (lkB (M 4) (-1)) 10) := pk_sub (a := 10) (cnt_le _ 10)
  rw [e]
  exact h
def stB (f : Nat → Int32) : Nat → Bool := fun u => decide (¬ f u = -1)
theorem sx_sentCount {M : Mm} {post : Int32 → Mm → Prop} (h : post (nI (cnt (stB (M 5)) 10)) M) : wpXu_sentCount M post := by
  have key : ∀ d k, k + d = 10 → wlXu_sentCount_4 post (d + 1) (nI (cnt (stB (M 5)) k)) (nI k) M := by
    refine up_to (P := fun d k => wlXu_sentCount_4 post d (nI (cnt (stB (M 5)) k)) (nI k) M) ?_ ?_
    · rw [wlXu_sentCount_4]
      exact ⟨fun _ => h, fun c => absurd (by decide) c⟩
    · intro d k hk ih
      rw [wlXu_sentCount_4]
      refine ⟨fun c => absurd c (nI_ge hk (by decide)), fun _ => ⟨inI hk (by decide), ?_⟩⟩
      rintro y rfl
      rw [clI (by omega), nI_1 k]
      refine ⟨fun c => ?_, fun c => ?_⟩
      · rintro x rfl
        rw [cnt_n (b := stB (M 5)) (decide_eq_false (fun q => q c))]
        exact ih
      · rintro x rfl z rfl
        rw [cnt_y (b := stB (M 5)) (decide_eq_true c)]
        exact ih
  exact ⟨11, key 10 0 (by omega)⟩
/-- the number of calls, when it is a small number -/
def nC (M : Mm) (c : Nat) : Prop := M 22 0 = nI c ∧ c ≤ 16
abbrev opB (M : Mm) (t : Int32) (c : Nat) : Prop := ¬ M 9 c = 0 ∧ M 7 c = t
theorem sx_isKnown {k c : Nat} {M : Mm} {post : Int32 → Mm → Prop} (hc : nC M c) (hk : k < 1000) (h1 : k < c → post 1 M) (h0 : ¬ k < c → post 0 M) : wpXc_isKnown (nI k) M post := by
  obtain ⟨e, hl⟩ := hc
  refine ⟨fun q => absurd q (nI_nn (by omega)), fun _ => ?_⟩
  rintro y rfl
  rw [e]
  refine ⟨fun q => h0 (by rw [nI_leE (by omega) (by omega)] at q; omega), fun q => h1 (by rw [nI_leE (by omega) (by omega)] at q; omega)⟩
theorem sx_isOpenOf {k c : Nat} {t : Int32} {M : Mm} {post : Int32 → Mm → Prop} (hc : nC M c) (hk : k < 1000) (h1 : k < c → opB M t k → post 1 M) (h0 : ¬ (k < c ∧ opB M t k) → post 0 M) : wpXc_isOpenOf (nI k) t M post := by
  have hl := hc.2
  refine sx_isKnown hc hk (fun q => ?_) (fun q => ?_)
  · refine ⟨fun z => absurd z (by decide), fun _ => ⟨inI (by omega) (by decide), ?_⟩⟩
    rintro y rfl
    rw [clI (by omega)]
    refine ⟨fun z => h0 (fun w => w.2.1 z), fun z => ⟨inI (by omega) (by decide), ?_⟩⟩
    rintro y rfl
    exact ⟨fun w => h1 q ⟨z, w⟩, fun w => h0 (fun v => w v.2.2)⟩
  · exact ⟨fun _ => h0 (fun w => q w.1), fun z => absurd rfl z⟩
