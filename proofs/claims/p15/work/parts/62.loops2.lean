/-- a rank is above r just where it is above all open calls' that t has, of the first k -/
def HiP (M : Mm) (t : Int32) (k : Nat) (r : Int32) : Prop := ∀ rk : Int32, -1 < rk → (r < rk ↔ ∀ c, c < k → opB M t c → M 6 c < rk)
theorem HiP_0 (M : Mm) (t : Int32) : HiP M t 0 (-1) := fun rk h => ⟨fun _ c hc => absurd hc (by omega), fun _ => h⟩
theorem HiP_n {M : Mm} {t : Int32} {k : Nat} {r : Int32} (h : HiP M t k r) (hn : ¬ opB M t k) : HiP M t (k + 1) r := fun rk hk => by
  rw [h rk hk]
  exact ⟨fun q c hc ho => (by by_cases e : c = k
                              · rw [e] at ho; exact absurd ho hn
                              · exact q c (by omega) ho), fun q c hc => q c (by omega)⟩
theorem HiP_y {M : Mm} {t : Int32} {k : Nat} {r : Int32} (h : HiP M t k r) (ho : opB M t k) : HiP M t (k + 1) (if r < M 6 k then M 6 k else r) := fun rk hk => by
  have e1 : (if r < M 6 k then M 6 k else r) < rk ↔ r < rk ∧ M 6 k < rk := by
    by_cases c : r < M 6 k
    · rw [if_pos c]; exact ⟨fun q => ⟨Int32.lt_trans c q, q⟩, fun q => q.2⟩
    · rw [if_neg c]; exact ⟨fun q => ⟨q, Int32.lt_of_le_of_lt (Int32.not_lt.mp c) q⟩, fun q => q.1⟩
  rw [e1, h rk hk]
  exact ⟨fun q c hc hoc => (by by_cases e : c = k
                               · rw [e]; exact q.2
                               · exact q.1 c (by omega) hoc), fun q => ⟨fun c hc => q c (by omega), q k (by omega) ho⟩⟩
theorem sx_highest {t : Int32} {c : Nat} {M : Mm} {post : Int32 → Mm → Prop} (hc : nC M c) (h : ∀ r, HiP M t c r → post r M) : wpXc_highestOpenRankOf t M post := by
  obtain ⟨e, hl⟩ := id hc
  have key : ∀ d k, k + d = c → ∀ r, HiP M t k r → wlXc_highestOpenRankOf_4 post (d + 1) t r (nI k) M := by
    refine up_to (P := fun d k => ∀ r, HiP M t k r → wlXc_highestOpenRankOf_4 post d t r (nI k) M) ?_ ?_
    · intro r hr
      rw [wlXc_highestOpenRankOf_4]
      rintro y rfl
      rw [e]
      exact ⟨fun _ => h r hr, fun q => absurd ((nI_leE (by omega) (by omega)).mpr (Nat.le_refl _)) q⟩
    · intro d k hk ih r hr
      rw [wlXc_highestOpenRankOf_4]
      rintro y rfl
      rw [e]
      refine ⟨fun q => absurd ((nI_leE (by omega) (by omega)).mp q) (by omega), fun _ => ?_⟩
      refine sx_isOpenOf hc (by omega) (fun _ ho => ?_) (fun hn => ?_)
      · refine ⟨fun z => absurd z (by decide), fun _ => ⟨inI (by omega) (by decide), ?_⟩⟩
        rintro y rfl y rfl x rfl
        rw [clI (by omega), nI_1]
        exact ih _ (HiP_y hr ho)
      · refine ⟨fun _ => ?_, fun z => absurd rfl z⟩
        rintro x rfl
        rw [nI_1]
        exact ih _ (HiP_n hr (fun q => hn ⟨by omega, q⟩))
  exact ⟨c + 1, key c 0 (by omega) _ (HiP_0 M t)⟩
/-- calls that t has, open, without a unit, among the first k: had by none -/
def drK (M : Mm) (t : Int32) (k : Nat) : Nat → Int32 := fun c => if c < k ∧ opB M t c ∧ M 8 c = -1 then -1 else M 7 c
/-- .. handed to h -/
def psK (M : Mm) (t h : Int32) (k : Nat) : Nat → Int32 := fun c => if c < k ∧ opB M t c then h else M 7 c
theorem drK_0 (M : Mm) (t : Int32) : drK M t 0 = M 7 := by
  funext c; unfold drK; rw [if_neg (by omega)]
theorem psK_0 (M : Mm) (t h : Int32) : psK M t h 0 = M 7 := by
  funext c; unfold psK; rw [if_neg (by omega)]
theorem drK_k (M : Mm) (t : Int32) (k : Nat) : drK M t k k = M 7 k := by unfold drK; rw [if_neg (by omega)]
theorem psK_k (M : Mm) (t h : Int32) (k : Nat) : psK M t h k k = M 7 k := by unfold psK; rw [if_neg (by omega)]
theorem drK_y {M : Mm} {t : Int32} {k : Nat} (ho : opB M t k) (hu : M 8 k = -1) : upd (drK M t k) k (-1) = drK M t (k + 1) := by
  funext c
  rw [upd_e]
  unfold drK
  by_cases e : c = k
  · rw [if_pos e, e, if_pos ⟨by omega, ho, hu⟩]
  · rw [if_neg e]
    by_cases q : c < k ∧ opB M t c ∧ M 8 c = -1
    · rw [if_pos q, if_pos ⟨by omega, q.2⟩]
    · rw [if_neg q, if_neg (fun w => q ⟨by omega, w.2⟩)]
theorem drK_n {M : Mm} {t : Int32} {k : Nat} (hn : ¬ (opB M t k ∧ M 8 k = -1)) : drK M t k = drK M t (k + 1) := by
  funext c
  unfold drK
  by_cases e : c = k
  · rw [e, if_neg (by omega), if_neg (fun w => hn w.2)]
  · by_cases q : c < k ∧ opB M t c ∧ M 8 c = -1
    · rw [if_pos q, if_pos ⟨by omega, q.2⟩]
    · rw [if_neg q, if_neg (fun w => q ⟨by omega, w.2⟩)]
theorem psK_y {M : Mm} {t h : Int32} {k : Nat} (ho : opB M t k) : upd (psK M t h k) k h = psK M t h (k + 1) := by
  funext c
  rw [upd_e]
  unfold psK
  by_cases e : c = k
  · rw [if_pos e, e, if_pos ⟨by omega, ho⟩]
  · rw [if_neg e]
    by_cases q : c < k ∧ opB M t c
    · rw [if_pos q, if_pos ⟨by omega, q.2⟩]
    · rw [if_neg q, if_neg (fun w => q ⟨by omega, w.2⟩)]
theorem psK_n {M : Mm} {t h : Int32} {k : Nat} (hn : ¬ opB M t k) : psK M t h k = psK M t h (k + 1) := by
  funext c
  unfold psK
  by_cases e : c = k
  · rw [e, if_neg (by omega), if_neg (fun w => hn w.2)]
  · by_cases q : c < k ∧ opB M t c
    · rw [if_pos q, if_pos ⟨by omega, q.2⟩]
    · rw [if_neg q, if_neg (fun w => q ⟨by omega, w.2⟩)]
def drM (M : Mm) (t c : Nat) : Mm := stM M 7 (drK M (nI t) c)
def psM (M : Mm) (t c : Nat) (h : Int32) : Mm := stM M 7 (psK M (nI t) h c)
theorem sx_dropUnsentOf {t c : Nat} {M : Mm} {post : Mm → Prop} (hc : nC M c) (h : post (drM M t c)) : wpXc_dropUnsentOf (nI t) M post := by
  obtain ⟨e, hl⟩ := id hc
  have key : ∀ d k, k + d = c → wlXc_dropUnsentOf_2 post (d + 1) (nI t) (nI k) (stM M 7 (drK M (nI t) k)) := by
    refine up_to (P := fun d k => wlXc_dropUnsentOf_2 post d (nI t) (nI k) (stM M 7 (drK M (nI t) k))) ?_ ?_
    · rw [wlXc_dropUnsentOf_2]
      rintro y rfl
      rw [show (stM M 7 (drK M (nI t) c)) 22 0 = nI c from e]
      exact ⟨fun _ => h, fun q => absurd ((nI_leE (by omega) (by omega)).mpr (Nat.le_refl _)) q⟩
    · intro d k hk ih
      rw [wlXc_dropUnsentOf_2]
      rintro y rfl
      rw [show (stM M 7 (drK M (nI t) k)) 22 0 = nI c from e]
      refine ⟨fun q => absurd ((nI_leE (by omega) (by omega)).mp q) (by omega), fun _ => ?_⟩
      have hop : opB (stM M 7 (drK M (nI t) k)) (nI t) k ↔ opB M (nI t) k := by
        unfold opB
        rw [stM_s, drK_k]
        exact Iff.rfl
      refine sx_isOpenOf (c := c) ⟨e, hl⟩ (by omega) (fun _ ho => ?_) (fun hn => ?_)
      · refine ⟨fun z => absurd z (by decide), fun _ => ⟨inI (by omega) (by decide), ?_⟩⟩
        rintro y rfl
        rw [clI (by omega), nI_1]
        refine ⟨fun hu => ⟨inI (by omega) (by decide), ?_⟩, fun hu => ?_⟩
        · rintro M1 rfl x rfl
          rw [stM_s, stM_st, drK_y (hop.mp ho) hu]
          exact ih
        · rintro x rfl
          rw [drK_n (M := M) (t := nI t) (k := k) (fun q => hu q.2)]
          exact ih
      · refine ⟨fun _ => ?_, fun z => absurd rfl z⟩
        rintro x rfl
        rw [nI_1, drK_n (M := M) (t := nI t) (k := k) (fun q => hn ⟨by omega, hop.mpr q.1⟩)]
        exact ih
  have e0 : M = stM M 7 (drK M (nI t) 0) := by rw [drK_0, stM_id]
  have h0 := key c 0 (by omega)
  rw [← e0] at h0
  exact ⟨c + 1, h0⟩
theorem sx_passOn {t c : Nat} {g : Int32} {M : Mm} {post : Mm → Prop} (hc : nC M c) (h : post (psM M t c g)) : wpXc_passOn (nI t) g M post := by
  obtain ⟨e, hl⟩ := id hc
  have key : ∀ d k, k + d = c → wlXc_passOn_2 post (d + 1) (nI t) g (nI k) (stM M 7 (psK M (nI t) g k)) := by
    refine up_to (P := fun d k => wlXc_passOn_2 post d (nI t) g (nI k) (stM M 7 (psK M (nI t) g k))) ?_ ?_
    · rw [wlXc_passOn_2]
      rintro y rfl
      rw [show (stM M 7 (psK M (nI t) g c)) 22 0 = nI c from e]
      exact ⟨fun _ => h, fun q => absurd ((nI_leE (by omega) (by omega)).mpr (Nat.le_refl _)) q⟩
    · intro d k hk ih
      rw [wlXc_passOn_2]
      rintro y rfl
      rw [show (stM M 7 (psK M (nI t) g k)) 22 0 = nI c from e]
      refine ⟨fun q => absurd ((nI_leE (by omega) (by omega)).mp q) (by omega), fun _ => ?_⟩
      have hop : opB (stM M 7 (psK M (nI t) g k)) (nI t) k ↔ opB M (nI t) k := by
        unfold opB
        rw [stM_s, psK_k]
        exact Iff.rfl
      refine sx_isOpenOf (c := c) ⟨e, hl⟩ (by omega) (fun _ ho => ?_) (fun hn => ?_)
      · refine ⟨fun z => absurd z (by decide), fun _ => ⟨inI (by omega) (by decide), ?_⟩⟩
        rintro M1 rfl x rfl
        rw [clI (by omega), nI_1, stM_s, stM_st, psK_y (hop.mp ho)]
        exact ih
      · refine ⟨fun _ => ?_, fun z => absurd rfl z⟩
        rintro x rfl
        rw [nI_1, psK_n (M := M) (t := nI t) (k := k) (fun q => hn ⟨by omega, hop.mpr q⟩)]
        exact ih
  have e0 : M = stM M 7 (psK M (nI t) g 0) := by rw [psK_0, stM_id]
  have h0 := key c 0 (by omega)
  rw [← e0] at h0
  exact ⟨c + 1, h0⟩
theorem sm_drop {t c : Nat} {M : Mm} {post : Mm → Prop} (hc : nC M c) (hd : ∀ i, i < c → M 8 i = -1 ∨ 0 ≤ M 8 i) (h : post (drM M t c)) : wpXm_drop (nI t) M post := by
  obtain ⟨e, hl⟩ := id hc
  have key : ∀ d k, k + d = c → wlXm_drop_2 post (d + 1) (nI t) (nI k) (stM M 7 (drK M (nI t) k)) := by
    refine up_to (P := fun d k => wlXm_drop_2 post d (nI t) (nI k) (stM M 7 (drK M (nI t) k))) ?_ ?_
    · rw [wlXm_drop_2]
      rintro y rfl
      rw [show (stM M 7 (drK M (nI t) c)) 22 0 = nI c from e]
      exact ⟨fun _ => h, fun q => absurd ((nI_leE (by omega) (by omega)).mpr (Nat.le_refl _)) q⟩
    · intro d k hk ih
      rw [wlXm_drop_2]
      rintro y rfl
      rw [show (stM M 7 (drK M (nI t) k)) 22 0 = nI c from e]
      refine ⟨fun q => absurd ((nI_leE (by omega) (by omega)).mp q) (by omega), fun _ => ⟨inI (by omega) (by decide), ?_⟩⟩
      rintro y rfl
      rw [clI (by omega), nI_1]
      refine ⟨fun z => ?_, fun z => ⟨inI (by omega) (by decide), ?_⟩⟩
      · rintro x rfl
        rw [drK_n (M := M) (t := nI t) (k := k) (fun q => q.1.1 z)]
        exact ih
      · rintro y rfl
        rw [stM_s, drK_k]
        refine ⟨fun w => ⟨inI (by omega) (by decide), ?_⟩, fun w => ?_⟩
        · rintro y rfl
          refine ⟨fun v => ?_, fun v => ⟨inI (by omega) (by decide), ?_⟩⟩
          · rintro x rfl
            rw [drK_n (M := M) (t := nI t) (k := k) (fun q => by
              have v2 : 0 ≤ M 8 k := v
              rw [q.2] at v2
              exact absurd v2 (by decide))]
            exact ih
          · rintro M1 rfl x rfl
            have hu : M 8 k = -1 := (hd k hk).elim id (fun q => absurd q v)
            rw [stM_st, drK_y (M := M) ⟨z, w⟩ hu]
            exact ih
        · rintro x rfl
          rw [drK_n (M := M) (t := nI t) (k := k) (fun q => w q.1.2)]
          exact ih
  have e0 : M = stM M 7 (drK M (nI t) 0) := by rw [drK_0, stM_id]
  have h0 := key c 0 (by omega)
  rw [← e0] at h0
  exact ⟨c + 1, h0⟩
theorem sm_killLoop {t c : Nat} {g : Int32} {M : Mm} {post : Mm → Prop} (hc : nC M c) (h : post (psM M t c g)) : ∃ n, wlXm_kill_114 post n (nI t) g 0 M := by
  obtain ⟨e, hl⟩ := id hc
  have key : ∀ d k, k + d = c → wlXm_kill_114 post (d + 1) (nI t) g (nI k) (stM M 7 (psK M (nI t) g k)) := by
    refine up_to (P := fun d k => wlXm_kill_114 post d (nI t) g (nI k) (stM M 7 (psK M (nI t) g k))) ?_ ?_
    · rw [wlXm_kill_114]
      rintro y rfl
      rw [show (stM M 7 (psK M (nI t) g c)) 22 0 = nI c from e]
      exact ⟨fun _ => h, fun q => absurd ((nI_leE (by omega) (by omega)).mpr (Nat.le_refl _)) q⟩
    · intro d k hk ih
      rw [wlXm_kill_114]
      rintro y rfl
      rw [show (stM M 7 (psK M (nI t) g k)) 22 0 = nI c from e]
      refine ⟨fun q => absurd ((nI_leE (by omega) (by omega)).mp q) (by omega), fun _ => ⟨inI (by omega) (by decide), ?_⟩⟩
      rintro y rfl
      rw [clI (by omega), nI_1]
      refine ⟨fun z => ?_, fun z => ⟨inI (by omega) (by decide), ?_⟩⟩
      · rintro x rfl
        rw [psK_n (M := M) (t := nI t) (k := k) (fun q => q.1 z)]
        exact ih
      · rintro y rfl
        rw [stM_s, psK_k]
        refine ⟨fun w => ⟨inI (by omega) (by decide), ?_⟩, fun w => ?_⟩
        · rintro M1 rfl x rfl
          rw [stM_st, psK_y (M := M) ⟨z, w⟩]
          exact ih
        · rintro x rfl
          rw [psK_n (M := M) (t := nI t) (k := k) (fun q => w q.2)]
          exact ih
  have e0 : M = stM M 7 (psK M (nI t) g 0) := by rw [psK_0, stM_id]
  have h0 := key c 0 (by omega)
  rw [← e0] at h0
  exact ⟨c + 1, h0⟩
