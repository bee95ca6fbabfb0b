theorem add0 (x : Int32) : x + 0 = x := Int32.add_zero x
def inN (M : Mm) (c : Nat) (rk : Int32) : Nat → (Nat → Int32)
  | 0 => M 20
  | k + 1 => if M 14 k = 0 ∧ ¬ M 27 k = 0 ∧ hiC M k c rk then upd (inN M c rk k) k 1 else inN M c rk k
theorem sm_callIn {t c : Nat} {rk : Int32} {M : Mm} {post : Int32 → Mm → Prop} {K : Int32 → Int32 → Mm → Prop} (ht : t < 8) (hc : M 22 0 = nI (c + 1)) (hl : c < 16)
    (hy : M 14 t = 0 → ¬ M 27 t = 0 → hiC M t c rk → K rk (nI (t + 1)) (stM M 20 (upd (M 20) t 1)))
    (hn : ¬ (M 14 t = 0 ∧ ¬ M 27 t = 0 ∧ hiC M t c rk) → K rk (nI (t + 1)) M) : ∃ n, wlXm_call_102 post K n rk (nI t) 1 0 M := by
  have e1 : nI (c + 1) - 1 = nI c := nI_pred c
  have key : ∀ d k, k + d = c → (hiC M t k rk → wlXm_call_102 post K (d + 1) rk (nI t) 1 (nI k) M) ∧ (¬ hiC M t c rk → wlXm_call_102 post K (d + 1) rk (nI t) 0 (nI k) M) := by
    refine up_to (P := fun d k => (hiC M t k rk → wlXm_call_102 post K d rk (nI t) 1 (nI k) M) ∧ (¬ hiC M t c rk → wlXm_call_102 post K d rk (nI t) 0 (nI k) M)) ?_ ?_
    · refine ⟨fun hh => ?_, fun hh => ?_⟩
      · rw [wlXm_call_102]
        rintro y rfl y rfl
        rw [hc, e1]
        refine ⟨fun _ => ⟨inI ht (by decide), ?_⟩, fun q => absurd ((nI_leE (by omega) (by omega)).mpr (Nat.le_refl _)) q⟩
        rintro y rfl
        rw [clI (by omega)]
        refine ⟨fun z => ⟨inI ht (by decide), ?_⟩, fun z => ?_⟩
        · rintro y rfl
          refine ⟨fun w => ?_, fun w => ⟨fun v => absurd v (by decide), fun _ => ⟨inI ht (by decide), ?_⟩⟩⟩
          · rintro x rfl
            rw [nI_1]
            exact hn (fun q => q.2.1 w)
          · rintro M1 rfl x rfl
            rw [nI_1]
            exact hy z w hh
        · rintro x rfl
          rw [nI_1]
          exact hn (fun q => z q.1)
      · rw [wlXm_call_102]
        rintro y rfl y rfl
        rw [hc, e1]
        refine ⟨fun _ => ⟨inI ht (by decide), ?_⟩, fun q => absurd ((nI_leE (by omega) (by omega)).mpr (Nat.le_refl _)) q⟩
        rintro y rfl
        rw [clI (by omega)]
        refine ⟨fun z => ⟨inI ht (by decide), ?_⟩, fun z => ?_⟩
        · rintro y rfl
          refine ⟨fun w => ?_, fun w => ⟨fun _ => ?_, fun v => absurd rfl v⟩⟩
          · rintro x rfl
            rw [nI_1]
            exact hn (fun q => hh q.2.2)
          · rintro x rfl
            rw [nI_1]
            exact hn (fun q => hh q.2.2)
        · rintro x rfl
          rw [nI_1]
          exact hn (fun q => z q.1)
    · intro d k hk ih
      refine ⟨fun hh => ?_, fun hh => ?_⟩
      · rw [wlXm_call_102]
        rintro y rfl y rfl
        rw [hc, e1]
        refine ⟨fun q => absurd ((nI_leE (by omega) (by omega)).mp q) (by omega), fun _ => ⟨fun v => absurd v (by decide), fun _ => ⟨inI (by omega) (by decide), ?_⟩⟩⟩
        rintro y rfl
        rw [clI (by omega), nI_1]
        have up : (opB M (nI t) k → M 6 k < rk) → hiC M t (k + 1) rk := by
          intro q i hi
          by_cases e : i = k
          · rw [e]; exact q
          · exact hh i (by omega)
        refine ⟨fun z => ?_, fun z => ⟨inI (by omega) (by decide), ?_⟩⟩
        · rintro x rfl
          exact ih.1 (up (fun q => absurd z q.1))
        · rintro y rfl
          refine ⟨fun w => ⟨inI (by omega) (by decide), ?_⟩, fun w => ?_⟩
          · rintro y rfl
            refine ⟨fun v => ?_, fun v => ?_⟩
            · rintro x rfl
              exact ih.2 (fun q => absurd (q k hk ⟨z, w⟩) (Int32.not_lt.mpr v))
            · rintro x rfl
              exact ih.1 (up (fun _ => Int32.not_le.mp v))
          · rintro x rfl
            exact ih.1 (up (fun q => absurd q.2 w))
      · rw [wlXm_call_102]
        rintro y rfl y rfl
        rw [hc, e1]
        refine ⟨fun q => absurd ((nI_leE (by omega) (by omega)).mp q) (by omega), fun _ => ⟨fun _ => ?_, fun v => absurd rfl v⟩⟩
        rintro x rfl
        rw [nI_1]
        exact ih.2 hh
  exact ⟨c + 1, (key c 0 (by omega)).1 (fun i hi => absurd hi (by omega))⟩
theorem sm_callLoop {c : Nat} {rk : Int32} {M : Mm} {post : Int32 → Mm → Prop} (hc : M 22 0 = nI (c + 1)) (hl : c < 16) (h : post (nI c) (stM M 20 (inN M c rk 8))) : ∃ n, wlXm_call_91 post n rk 0 M := by
  have key : ∀ d k, k + d = 8 → wlXm_call_91 post (d + 1) rk (nI k) (stM M 20 (inN M c rk k)) := by
    refine up_to (P := fun d k => wlXm_call_91 post d rk (nI k) (stM M 20 (inN M c rk k))) ?_ ?_
    · rw [wlXm_call_91]
      refine ⟨fun _ => ?_, fun c => absurd (by decide) c⟩
      rintro y rfl y rfl
      rw [show (stM M 20 (inN M c rk 8)) 22 0 = nI (c + 1) from hc, nI_pred]
      exact h
    · intro d k hk ih
      rw [wlXm_call_91]
      refine ⟨fun c => absurd c (nI_ge hk (by decide)), fun _ => ?_⟩
      refine sm_callIn (c := c) hk hc hl (fun h1 h2 h3 => ?_) (fun q => ?_)
      · have e2 : inN M c rk (k + 1) = upd (inN M c rk k) k 1 := by rw [inN, if_pos ⟨h1, h2, h3⟩]
        rw [e2] at ih
        rw [stM_s, stM_st]
        exact ih
      · have q : ¬ (M 14 k = 0 ∧ ¬ M 27 k = 0 ∧ hiC M k c rk) := q
        have e2 : inN M c rk (k + 1) = inN M c rk k := by rw [inN, if_neg q]
        rw [e2] at ih
        exact ih
  have e0 : M = stM M 20 (inN M c rk 0) := by rw [inN, stM_id]
  have h0 := key 8 0 (by omega)
  rw [← e0] at h0
  exact ⟨9, h0⟩
theorem sm_threadLoop {t : Nat} {w : Int32} {M : Mm} {post : Int32 → Mm → Prop} (h : wlXm_thread_38 post 1 (nI t) w (nI (cnt (lkB (M 4) (nI t)) 10)) 10 M) : ∃ n, wlXm_thread_38 post n (nI t) w 0 0 M := by
  have key : ∀ d k, k + d = 10 → wlXm_thread_38 post (d + 1) (nI t) w (nI (cnt (lkB (M 4) (nI t)) k)) (nI k) M := by
    refine up_to (P := fun d k => wlXm_thread_38 post d (nI t) w (nI (cnt (lkB (M 4) (nI t)) k)) (nI k) M) h ?_
    intro d k hk ih
    rw [wlXm_thread_38]
    refine ⟨fun c => absurd c (nI_ge hk (by decide)), fun _ => ⟨inI hk (by decide), ?_⟩⟩
    rintro y rfl
    rw [clI (by omega), nI_1 k]
    refine ⟨fun c => ?_, fun c => ?_⟩
    · rintro x rfl z rfl
      rw [cnt_y (b := lkB (M 4) (nI t)) (decide_eq_true c)]
      exact ih
    · rintro x rfl z rfl
      rw [add0, cnt_n (b := lkB (M 4) (nI t)) (decide_eq_false c)]
      exact ih
  exact ⟨11, key 10 0 (by omega)⟩
def nnB (f : Nat → Int32) : Nat → Bool := fun u => decide (¬ f u < 0)
theorem sm_count1 {w a b d : Int32} {c : Nat} {M : Mm} {post : Int32 → Mm → Prop} (hc : nC M c) (h : wlXm_count_133 post 1 w a b d (nI (cnt (oB M) c)) (nI c) M) : ∃ n, wlXm_count_133 post n w a b d 0 0 M := by
  obtain ⟨e, hl⟩ := id hc
  have key : ∀ d1 k, k + d1 = c → wlXm_count_133 post (d1 + 1) w a b d (nI (cnt (oB M) k)) (nI k) M := by
    refine up_to (P := fun d1 k => wlXm_count_133 post d1 w a b d (nI (cnt (oB M) k)) (nI k) M) h ?_
    intro d1 k hk ih
    rw [wlXm_count_133]
    rintro y rfl
    rw [e]
    refine ⟨fun q => absurd ((nI_leE (by omega) (by omega)).mp q) (by omega), fun _ => ⟨inI (by omega) (by decide), ?_⟩⟩
    rintro y rfl
    rw [clI (by omega), nI_1 k]
    refine ⟨fun z => ?_, fun z => ?_⟩
    · rintro x rfl z2 rfl
      rw [add0, cnt_n (b := oB M) (decide_eq_false (fun q => q z))]
      exact ih
    · rintro x rfl z2 rfl
      rw [cnt_y (b := oB M) (decide_eq_true z)]
      exact ih
  exact ⟨c + 1, key c 0 (by omega)⟩
theorem sm_count2 {w a : Int32} {M : Mm} {post : Int32 → Mm → Prop} (h : ∃ n, wlXm_count_133 post n w a (nI (cnt (nnB (M 5)) 10)) (nI (cnt (nnB (M 4)) 10)) 0 0 M) : ∃ n, wlXm_count_76 post n w a 0 0 0 M := by
  have key : ∀ d k, k + d = 10 → wlXm_count_76 post (d + 1) w a (nI (cnt (nnB (M 5)) k)) (nI (cnt (nnB (M 4)) k)) (nI k) M := by
    refine up_to (P := fun d k => wlXm_count_76 post d w a (nI (cnt (nnB (M 5)) k)) (nI (cnt (nnB (M 4)) k)) (nI k) M) ?_ ?_
    · rw [wlXm_count_76]
      exact ⟨fun _ => h, fun c => absurd (by decide) c⟩
    · intro d k hk ih
      rw [wlXm_count_76]
      refine ⟨fun c => absurd c (nI_ge hk (by decide)), fun _ => ⟨inI hk (by decide), ?_⟩⟩
      rintro y rfl
      rw [clI (by omega), nI_1 k]
      refine ⟨fun c => ?_, fun c => ?_⟩
      · rintro x rfl
        refine ⟨inI hk (by decide), ?_⟩
        rintro y rfl
        refine ⟨fun z => ?_, fun z => ?_⟩
        · rintro x rfl x rfl
          rw [add0, add0, cnt_n (b := nnB (M 5)) (decide_eq_false (fun q => q c)), cnt_n (b := nnB (M 4)) (decide_eq_false (fun q => q z))]
          exact ih
        · rintro x rfl x rfl
          rw [add0, cnt_n (b := nnB (M 5)) (decide_eq_false (fun q => q c)), cnt_y (b := nnB (M 4)) (decide_eq_true z)]
          exact ih
      · rintro x rfl
        refine ⟨inI hk (by decide), ?_⟩
        rintro y rfl
        refine ⟨fun z => ?_, fun z => ?_⟩
        · rintro x rfl x rfl
          rw [add0, cnt_y (b := nnB (M 5)) (decide_eq_true c), cnt_n (b := nnB (M 4)) (decide_eq_false (fun q => q z))]
          exact ih
        · rintro x rfl x rfl
          rw [cnt_y (b := nnB (M 5)) (decide_eq_true c), cnt_y (b := nnB (M 4)) (decide_eq_true z)]
          exact ih
  exact ⟨11, key 10 0 (by omega)⟩
theorem sm_count3 {w : Int32} {M : Mm} {post : Int32 → Mm → Prop} (h : ∃ n, wlXm_count_76 post n w (nI (cnt (rwB M) 8)) 0 0 0 M) : ∃ n, wlXm_count_30 post n w 0 0 M := by
  have key : ∀ d k, k + d = 8 → wlXm_count_30 post (d + 1) w (nI (cnt (rwB M) k)) (nI k) M := by
    refine up_to (P := fun d k => wlXm_count_30 post d w (nI (cnt (rwB M) k)) (nI k) M) ?_ ?_
    · rw [wlXm_count_30]
      exact ⟨fun _ => h, fun c => absurd (by decide) c⟩
    · intro d k hk ih
      rw [wlXm_count_30]
      refine ⟨fun c => absurd c (nI_ge hk (by decide)), fun _ => ⟨inI hk (by decide), ?_⟩⟩
      rintro y rfl
      rw [clI (by omega), nI_1 k]
      refine ⟨fun c => ⟨inI hk (by decide), ?_⟩, fun c => ?_⟩
      · rintro y rfl
        refine ⟨fun z => ?_, fun z => ?_⟩
        · rintro x rfl x rfl
          rw [add0, cnt_n (b := rwB M) (decide_eq_false (fun q => q.2 z))]
          exact ih
        · rintro x rfl x rfl
          rw [cnt_y (b := rwB M) (decide_eq_true ⟨c, z⟩)]
          exact ih
      · rintro x rfl x rfl
        rw [add0, cnt_n (b := rwB M) (decide_eq_false (fun q => c q.1))]
        exact ih
  exact ⟨9, key 8 0 (by omega)⟩
