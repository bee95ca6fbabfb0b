theorem stM_cm (M : Mm) {a b : Nat} (f g : Nat → Int32) (h : a ≠ b) : stM (stM M a f) b g = stM (stM M b g) a f := by
  funext j
  by_cases e : j = b
  · subst e; rw [stM_s, stM_n _ _ (Ne.symm h), stM_s]
  · rw [stM_n _ _ e]
    by_cases e2 : j = a
    · subst e2; rw [stM_s, stM_s]
    · rw [stM_n _ _ e2, stM_n _ _ e2, stM_n _ _ e]
theorem RR_8m {c i : Nat} {M N : Mm} (h : RR c M N) : RR c (stM M 8 (upd (M 8) i (-1))) (stM N 8 (upd (N 8) i (-1))) := by
  have e6 := h.2.2.2.2.2.2.2.2.1
  refine ⟨h.1, R0_u h.2.1, Dm_u h.2.2.1 (show Dv 8 (-1) from Or.inl rfl), h.2.2.2.1, h.2.2.2.2.1, h.2.2.2.2.2.1, h.2.2.2.2.2.2.1, h.2.2.2.2.2.2.2.1, ?_, h.2.2.2.2.2.2.2.2.2.1, h.2.2.2.2.2.2.2.2.2.2⟩
  intro k hk hk2
  refine ⟨(e6 k hk hk2).1, ?_⟩
  show upd (M 8) i (-1) k = -1
  rw [upd_e]
  by_cases e : k = i
  · rw [if_pos e]
  · rw [if_neg e]; exact (e6 k hk hk2).2
theorem RR_9z {c i : Nat} {M N : Mm} (h : RR c M N) : RR c (stM M 9 (upd (M 9) i 0)) (stM N 9 (upd (N 9) i 0)) := RR_9 h (updEq h) (updD (a := 9) h (show Dv 9 0 from Or.inl rfl))
theorem RR_5m {c i : Nat} {M N : Mm} (h : RR c M N) : RR c (stM M 5 (upd (M 5) i (-1))) (stM N 5 (upd (N 5) i (-1))) := RR_5 h (updEq h) (updD (a := 5) h (show Dv 5 (-1) from Or.inl rfl))
theorem shut_rel {c t i : Nat} {M N : Mm} (h : AtAct c t M N) (hz : M 17 t = 0 ∧ M 20 t = 0) (hi : i ≤ 255) : KR c t (wpXs_closeCall (nI t) (nI i) M) (wpXm_shut (nI t) (nI i) N) := by
  obtain ⟨hR, ht, h0, hlt⟩ := id h
  have hl := hR.1.2
  by_cases hg : i < c ∧ opB M (nI t) i
  · obtain ⟨hic, ho⟩ := hg
    have ii : vp_in (nI i) 16 := inI (by omega) (by decide)
    have ci : (nI i).toNatClampNeg = i := clI (by omega)
    have e8 : M 8 i = N 8 i := hR.same (c8 hic)
    have hoN := (opB_eq hR hic).mp ho
    rcases hR.d (j := 8) (i := i) (by show i < 16; omega) with q | ⟨u, hu, q⟩
    · refine ⟨1, incM (stM (stM M 8 (upd (M 8) i (-1))) 9 (upd (M 9) i 0)) t, incM (stM (stM N 9 (upd (N 9) i 0)) 8 (upd (N 8) i (-1))) t, fun post hp => ?_, fun post hp => ?_, ?_⟩
      · refine sx_isOpenOf hR.1 (by omega) (fun _ _ => ⟨fun z => absurd z (by decide), fun _ => ⟨ii, ?_⟩⟩) (fun w => absurd ⟨hic, ho⟩ w)
        rintro y rfl
        rw [ci, q]
        refine ⟨fun _ => ⟨ii, ?_⟩, fun w => absurd (by decide) w⟩
        rintro M1 rfl
        refine ⟨ii, ?_⟩
        rintro M1 rfl
        exact tail_1 ht hp
      · refine sm_isOwn hR.nN (by omega) (fun _ _ => ⟨fun z => absurd z (by decide), fun _ => ⟨ii, ?_⟩⟩) (fun w => absurd ⟨hic, hoN⟩ w)
        rintro M1 rfl
        refine ⟨ii, ?_⟩
        rintro y rfl
        rw [ci, show (stM N 9 (upd (N 9) i 0)) 8 i = -1 from e8.symm.trans q]
        refine ⟨fun _ => ⟨ii, ?_⟩, fun w => absurd (by decide) w⟩
        rintro M1 rfl
        exact sm_done ht hp
      · rw [stM_cm N _ _ (by decide : (9 : Nat) ≠ 8)]
        exact RR_inc (RR_9z (RR_8m hR)) ht (fun _ => hz.1) hlt
    · have iu : vp_in (nI u) 10 := inI hu (by decide)
      have cu : (nI u).toNatClampNeg = u := clI (by omega)
      have qN : N 8 i = nI u := e8.symm.trans q
      refine ⟨1, incM (stM (stM (stM M 5 (upd (M 5) u (-1))) 8 (upd (M 8) i (-1))) 9 (upd (M 9) i 0)) t, incM (stM (stM (stM N 9 (upd (N 9) i 0)) 5 (upd (N 5) u (-1))) 8 (upd (N 8) i (-1))) t, fun post hp => ?_, fun post hp => ?_, ?_⟩
      · refine sx_isOpenOf hR.1 (by omega) (fun _ _ => ⟨fun z => absurd z (by decide), fun _ => ⟨ii, ?_⟩⟩) (fun w => absurd ⟨hic, ho⟩ w)
        rintro y rfl
        rw [ci, q]
        refine ⟨fun w => absurd w (nI_nn (by omega)), fun _ => ⟨fun w => absurd ((nI_leE (a := 10) (by omega) (by omega)).mp w) (by omega), fun _ => ⟨iu, ?_⟩⟩⟩
        rintro M1 rfl
        refine ⟨ii, ?_⟩
        rintro M1 rfl
        refine ⟨ii, ?_⟩
        rintro M1 rfl
        rw [cu]
        exact tail_1 ht hp
      · refine sm_isOwn hR.nN (by omega) (fun _ _ => ⟨fun z => absurd z (by decide), fun _ => ⟨ii, ?_⟩⟩) (fun w => absurd ⟨hic, hoN⟩ w)
        rintro M1 rfl
        refine ⟨ii, ?_⟩
        rintro y rfl
        rw [ci, show (stM N 9 (upd (N 9) i 0)) 8 i = nI u from qN]
        refine ⟨fun w => absurd w (nI_nn (by omega)), fun _ => ⟨ii, ?_⟩⟩
        rintro y rfl
        refine ⟨iu, ?_⟩
        rintro M1 rfl
        refine ⟨ii, ?_⟩
        rintro M1 rfl
        rw [cu]
        exact sm_done ht hp
      · rw [stM_cm N _ _ (by decide : (9 : Nat) ≠ 5), stM_cm (stM N 5 (upd (N 5) u (-1))) _ _ (by decide : (9 : Nat) ≠ 8)]
        exact RR_inc (RR_9z (RR_8m (RR_5m hR))) ht (fun _ => hz.1) hlt
  · have hgN : ¬ (i < c ∧ opB N (nI t) i) := fun q => hg ⟨q.1, (opB_eq hR q.1).mpr q.2⟩
    refine kr_f (g := -4) (f := 4) h hz (by decide) (by decide) (fun post hp => ?_) (fun post hp => ?_)
    · exact sx_isOpenOf hR.1 (by omega) (fun a b => absurd ⟨a, b⟩ hg) (fun _ => ⟨fun _ => hp, fun z => absurd rfl z⟩)
    · exact sm_isOwn hR.nN (by omega) (fun a b => absurd ⟨a, b⟩ hgN) (fun _ => ⟨fun _ => hp, fun z => absurd rfl z⟩)
/-- the rest of a running thread at an act of that kind -/
theorem RR_rest {c t w : Nat} {v r : Int32} {M N M' N' : Mm} (h : RR c M N) (h0 : M 14 t = 0) (hlt : M 15 t < M 2 t)
    (hE : ∀ k : Nat, k < 16 → M 15 t = nI k → M 0 (16 * t + k) = 5 ∧ ¬ M 1 (16 * t + k) = 0) (hv : v = nI w) (hw : w ≤ 255) (hr : (r = 0 ∧ v = 0) ∨ (r = 1 ∧ ¬ v = 0))
    (hM : ∀ j, j ≠ 17 → j ≠ 20 → M' j = M j) (hN : ∀ j, j ≠ 17 → j ≠ 20 → j ≠ 27 → N' j = N j)
    (a17 : ∀ s, M' 17 s = if s = t then v else M 17 s) (a20 : ∀ s, M' 20 s = if s = t then 0 else M 20 s)
    (b17 : ∀ s, N' 17 s = if s = t then v else N 17 s) (b20 : ∀ s, N' 20 s = if s = t then 0 else N 20 s) (b27 : ∀ s, N' 27 s = if s = t then r else N 27 s) : RR c M' N' := by
  have m : ∀ j, j ≠ 17 ∧ j ≠ 20 → M' j = M j := fun j q => hM j q.1 q.2
  have n : ∀ j, (j ≠ 17 ∧ j ≠ 20) ∧ j ≠ 27 → N' j = N j := fun j q => hN j q.1.1 q.1.2 q.2
  obtain ⟨r1, r2, r3, r4, r5, r6, r7, r8, r9, r10, r11⟩ := h
  refine ⟨?_, ?_, ?_, ?_, ?_, ?_, ?_, ?_, ?_, ?_, ?_⟩
  · unfold nC; rw [m 22 (by decide)]; exact r1
  · intro j i hc
    have x1 : j ≠ 17 := fun e => no17 c i (e ▸ hc)
    have x2 : j ≠ 20 := fun e => no20 c i (e ▸ hc)
    have x3 : j ≠ 27 := fun e => no27 c i (e ▸ hc)
    rw [hM j x1 x2, hN j x1 x2 x3]
    exact r2 j i hc
  · intro j i hi
    by_cases e : j = 17
    · subst e
      rw [a17]
      by_cases q : i = t
      · rw [if_pos q]; exact ⟨w, hw, hv⟩
      · rw [if_neg q]; exact r3 17 i hi
    · by_cases e2 : j = 20
      · subst e2
        rw [a20]
        by_cases q : i = t
        · rw [if_pos q]; exact Or.inl rfl
        · rw [if_neg q]; exact r3 20 i hi
      · rw [hM j e e2]; exact r3 j i hi
  · unfold E1; rw [m 15 (by decide), m 2 (by decide)]; exact r4
  · unfold E2; rw [m 3 (by decide), m 2 (by decide)]; exact r5
  · unfold E3; rw [m 14 (by decide), m 4 (by decide)]; exact r6
  · unfold E4
    rw [m 14 (by decide), m 15 (by decide), m 2 (by decide), m 0 (by decide), m 1 (by decide)]
    intro s hs hs0 hs17
    by_cases e : s = t
    · rw [e]; exact ⟨hlt, hE⟩
    · rw [a17, if_neg e] at hs17
      exact r7 s hs hs0 hs17
  · unfold E5
    rw [m 14 (by decide)]
    intro s hs hs0 hs20
    by_cases e : s = t
    · rw [a20, if_pos e] at hs20; exact absurd rfl hs20
    · rw [a20, if_neg e] at hs20
      rw [a17, if_neg e]
      exact r8 s hs hs0 hs20
  · unfold E6; rw [m 7 (by decide), m 8 (by decide)]; exact r9
  · unfold Fi; rw [m 3 (by decide), n 3 (by decide)]; exact r10
  · refine ⟨?_, by rw [n 26 (by decide)]; exact r11.2⟩
    rw [m 14 (by decide)]
    intro s hs hs0
    rw [a17, a20, b17, b20, b27]
    by_cases e : s = t
    · rw [if_pos e, if_pos e, if_pos e, if_pos e, if_pos e]; exact ⟨rfl, rfl, hr⟩
    · rw [if_neg e, if_neg e, if_neg e, if_neg e, if_neg e]; exact r11.1 s hs hs0
theorem rest_rel {c t n : Nat} {M N : Mm} (h : AtAct c t M N) (hn : n ≤ 255) (hE : ∀ k : Nat, k < 16 → M 15 t = nI k → M 0 (16 * t + k) = 5 ∧ M 1 (16 * t + k) = nI n) : KR c t (wpXs_rest (nI t) (nI n) M) (wpXm_rest (nI t) (nI n) N) := by
  obtain ⟨hR, ht, h0, hlt⟩ := id h
  have it : vp_in (nI t) 8 := inI ht (by decide)
  have ct : (nI t).toNatClampNeg = t := clI (by omega)
  obtain ⟨s17, s20, s27⟩ := hR.2.2.2.2.2.2.2.2.2.2.1 t ht h0
  have e4 := hR.2.2.2.2.2.2.1 t ht h0
  have e5 := hR.2.2.2.2.2.2.2.1 t ht h0
  by_cases n0 : n = 0
  · have z17 : M 17 t = 0 := by
      rcases Classical.em (M 17 t = 0) with q | q
      · exact q
      · obtain ⟨k, a, hk, ha, ek, ea⟩ := hR.at_ ht
        have hka : k < a := by rw [ek, ea, nI_ltE (by omega) (by omega)] at hlt; exact hlt
        have w := ((e4 q).2 k (by omega) ek).2
        rw [(hE k (by omega) ek).2, n0] at w
        exact absurd rfl w
    subst n0
    exact ⟨1, incM M t, incM N t, fun post hp => ⟨fun _ => tail_1 ht hp, fun w => absurd rfl w⟩, fun post hp => ⟨fun _ => sm_done ht hp, fun w => absurd rfl w⟩, RR_inc hR ht (fun _ => z17) hlt⟩
  · have n1 : ¬ nI n = 0 := nI_ne (b := 0) (by omega) (by omega) n0
    have hE2 : ∀ k : Nat, k < 16 → M 15 t = nI k → M 0 (16 * t + k) = 5 ∧ ¬ M 1 (16 * t + k) = 0 := fun k hk ek => ⟨(hE k hk ek).1, by rw [(hE k hk ek).2]; exact n1⟩
    by_cases q20 : M 20 t = 0
    · by_cases q17 : M 17 t = 0
      · have q27 : N 27 t = 0 := s27.elim (fun q => q.1) (fun q => absurd q17 q.2)
        have qN20 : N 20 t = 0 := s20.symm.trans q20
        refine ⟨5, stM M 17 (upd (M 17) t (nI n)), stM (stM (stM (stM N 18 (upd (N 18) t (N 18 t + 0))) 27 (upd (N 27) t 1)) 20 (upd (N 20) t 0)) 17 (upd (N 17) t (nI n)), fun post hp => ?_, fun post hp => ?_, ?_⟩
        · refine ⟨fun w => absurd w n1, fun _ => ⟨it, ?_⟩⟩
          rintro y rfl
          rw [ct]
          refine ⟨fun _ => ⟨it, ?_⟩, fun w => absurd q20 w⟩
          rintro y rfl
          refine ⟨fun _ => ⟨it, ?_⟩, fun w => absurd q17 w⟩
          rintro M1 rfl
          exact tail_5 hp
        · refine ⟨fun w => absurd w n1, fun _ => ⟨it, ?_⟩⟩
          rintro y rfl
          rw [ct]
          refine ⟨fun _ => ⟨it, ?_⟩, fun w => absurd q27 w⟩
          rintro y rfl
          refine ⟨it, ?_⟩
          rintro y rfl
          refine ⟨fun _ => ?_, fun w => absurd qN20 w⟩
          rintro y rfl
          refine ⟨it, ?_⟩
          rintro M1 rfl
          refine ⟨it, ?_⟩
          rintro M1 rfl
          refine ⟨it, ?_⟩
          rintro M1 rfl
          refine ⟨it, ?_⟩
          rintro M1 rfl
          exact hp
        · refine RR_rest (w := n) (v := nI n) (r := 1) (t := t) hR h0 hlt hE2 rfl hn (Or.inr ⟨rfl, n1⟩) (fun j x1 _ => stM_n _ _ x1) (fun j x1 x2 x3 => ?_) (fun s => upd_e _ _ _ _) (fun s => ?_) (fun s => upd_e _ _ _ _) (fun s => upd_e _ _ _ _) (fun s => upd_e _ _ _ _)
          · rw [stM_n _ _ x1, stM_n _ _ x2, stM_n _ _ x3]
            by_cases e : j = 18
            · subst e
              rw [stM_s, add0]
              funext s
              rw [upd_e]
              by_cases e : s = t
              · rw [if_pos e, e]
              · rw [if_neg e]
            · rw [stM_n _ _ e]
          · show M 20 s = _
            by_cases e : s = t
            · rw [if_pos e, e]; exact q20
            · rw [if_neg e]
      · obtain ⟨w0, hw0, ew0⟩ := hR.d (j := 17) (i := t) ht
        have w1 : w0 ≠ 0 := fun q => q17 (by rw [ew0, q]; rfl)
        obtain ⟨w, rfl⟩ : ∃ w, w0 = w + 1 := ⟨w0 - 1, by omega⟩
        have q27 : N 27 t = 1 := s27.elim (fun q => absurd q.2 q17) (fun q => q.1)
        have q27n : ¬ N 27 t = 0 := by rw [q27]; decide
        have qN20 : N 20 t = 0 := s20.symm.trans q20
        have eN : N 17 t = nI (w + 1) := s17.symm.trans ew0
        have m20 : ∀ s, M 20 s = if s = t then 0 else M 20 s := fun s => by
          by_cases e : s = t
          · rw [if_pos e, e]; exact q20
          · rw [if_neg e]
        have k20 : ∀ s, N 20 s = if s = t then 0 else N 20 s := fun s => by
          by_cases e : s = t
          · rw [if_pos e, e]; exact qN20
          · rw [if_neg e]
        have gX : ∀ post : Int32 → Mm → Prop, (w = 0 → post 1 (stM M 17 (upd (M 17) t (nI w)))) → (¬ w = 0 → post 5 (stM M 17 (upd (M 17) t (nI w)))) → wpXs_rest (nI t) (nI n) M post := by
          intro post p1 p2
          refine ⟨fun w => absurd w n1, fun _ => ⟨it, ?_⟩⟩
          rintro y rfl
          rw [ct]
          refine ⟨fun _ => ⟨it, ?_⟩, fun w => absurd q20 w⟩
          rintro y rfl
          refine ⟨fun w => absurd w q17, fun _ => ⟨it, ?_⟩⟩
          rintro y rfl y rfl
          refine ⟨it, ?_⟩
          rintro M1 rfl
          refine ⟨it, ?_⟩
          rintro y rfl
          rw [ew0, nI_pred, stM_s, pk_us]
          exact ⟨fun z => p1 ((nI_eqE (b := 0) (by omega) (by omega)).mp z), fun z => p2 (fun q => z ((nI_eqE (b := 0) (by omega) (by omega)).mpr q))⟩
        have gN : ∀ post : Int32 → Mm → Prop, (w = 0 → post 1 (incM (stM (stM N 17 (upd (N 17) t (nI w))) 27 (upd (N 27) t 0)) t)) → (¬ w = 0 → post 5 (stM N 17 (upd (N 17) t (nI w)))) → wpXm_rest (nI t) (nI n) N post := by
          intro post p1 p2
          refine ⟨fun w => absurd w n1, fun _ => ⟨it, ?_⟩⟩
          rintro y rfl
          rw [ct]
          refine ⟨fun w => absurd w q27n, fun _ => ⟨it, ?_⟩⟩
          rintro y rfl
          refine ⟨fun _ => ⟨it, ?_⟩, fun w => absurd qN20 w⟩
          rintro y rfl y rfl
          refine ⟨it, ?_⟩
          rintro M1 rfl
          refine ⟨it, ?_⟩
          rintro y rfl
          rw [eN, nI_pred, stM_s, pk_us]
          refine ⟨fun z => ⟨it, ?_⟩, fun z => p2 (fun q => z ((nI_leE (b := 0) (by omega) (by omega)).mpr (by omega)))⟩
          rintro M1 rfl
          exact sm_done ht (p1 (by have := (nI_leE (b := 0) (by omega) (by omega)).mp z; omega))
        by_cases ww : w = 0
        · refine ⟨1, incM (stM M 17 (upd (M 17) t (nI w))) t, incM (stM (stM N 17 (upd (N 17) t (nI w))) 27 (upd (N 27) t 0)) t, fun post hp => gX _ (fun _ => tail_1 ht hp) (fun z => absurd ww z), fun post hp => gN _ (fun _ => hp) (fun z => absurd ww z), ?_⟩
          have hv : nI w = 0 := by rw [ww]; rfl
          refine RR_inc (RR_rest (w := w) (v := nI w) (r := 0) (t := t) hR h0 hlt hE2 rfl (by omega) (Or.inl ⟨rfl, hv⟩) (fun j x1 _ => stM_n _ _ x1) (fun j x1 x2 x3 => by rw [stM_n _ _ x3, stM_n _ _ x1]) (fun s => upd_e _ _ _ _) m20 (fun s => upd_e _ _ _ _) k20 (fun s => upd_e _ _ _ _)) ht (fun _ => ?_) hlt
          show upd (M 17) t (nI w) t = 0
          rw [pk_us]; exact hv
        · refine ⟨5, stM M 17 (upd (M 17) t (nI w)), stM N 17 (upd (N 17) t (nI w)), fun post hp => gX _ (fun z => absurd z ww) (fun _ => tail_5 hp), fun post hp => gN _ (fun z => absurd z ww) (fun _ => hp), ?_⟩
          refine RR_rest (w := w) (v := nI w) (r := 1) (t := t) hR h0 hlt hE2 rfl (by omega) (Or.inr ⟨rfl, fun z => ww ((nI_eqE (b := 0) (by omega) (by omega)).mp z)⟩) (fun j x1 _ => stM_n _ _ x1) (fun j x1 x2 x3 => stM_n _ _ x1) (fun s => upd_e _ _ _ _) m20 (fun s => upd_e _ _ _ _) k20 (fun s => ?_)
          show N 27 s = _
          by_cases e : s = t
          · rw [if_pos e, e]; exact q27
          · rw [if_neg e]
    · have q17 : ¬ M 17 t = 0 := e5 q20
      have q27 : N 27 t = 1 := s27.elim (fun q => absurd q.2 q17) (fun q => q.1)
      have q27n : ¬ N 27 t = 0 := by rw [q27]; decide
      have qN20 : ¬ N 20 t = 0 := fun q => q20 (s20.trans q)
      have h18 : RR c (stM M 18 (upd (M 18) t (M 18 t + 1))) (stM N 18 (upd (N 18) t (N 18 t + 1))) := by
        rw [hR.same (c18 ht)]
        exact RR_18 hR (updEq hR) (fun _ _ => trivial)
      refine ⟨5, stM (stM (stM M 20 (upd (M 20) t 0)) 18 (upd (M 18) t (M 18 t + 1))) 17 (upd (M 17) t (nI n)), stM (stM (stM (stM N 18 (upd (N 18) t (N 18 t + 1))) 27 (upd (N 27) t 1)) 20 (upd (N 20) t 0)) 17 (upd (N 17) t (nI n)), fun post hp => ?_, fun post hp => ?_, ?_⟩
      · refine ⟨fun w => absurd w n1, fun _ => ⟨it, ?_⟩⟩
        rintro y rfl
        rw [ct]
        refine ⟨fun w => absurd w q20, fun _ => ⟨it, ?_⟩⟩
        rintro M1 rfl
        refine ⟨it, ?_⟩
        rintro y rfl y rfl
        refine ⟨it, ?_⟩
        rintro M1 rfl
        refine ⟨it, ?_⟩
        rintro M1 rfl
        exact tail_5 hp
      · refine ⟨fun w => absurd w n1, fun _ => ⟨it, ?_⟩⟩
        rintro y rfl
        rw [ct]
        refine ⟨fun w => absurd w q27n, fun _ => ⟨it, ?_⟩⟩
        rintro y rfl
        refine ⟨fun w => absurd w qN20, fun _ => ⟨it, ?_⟩⟩
        rintro y rfl
        refine ⟨it, ?_⟩
        rintro y rfl
        refine ⟨fun w => absurd w qN20, fun _ => ?_⟩
        rintro y rfl
        refine ⟨it, ?_⟩
        rintro M1 rfl
        refine ⟨it, ?_⟩
        rintro M1 rfl
        refine ⟨it, ?_⟩
        rintro M1 rfl
        refine ⟨it, ?_⟩
        rintro M1 rfl
        exact hp
      · refine RR_rest (w := n) (v := nI n) (r := 1) (t := t) h18 h0 hlt hE2 rfl hn (Or.inr ⟨rfl, n1⟩) (fun j x1 x2 => ?_) (fun j x1 x2 x3 => ?_) (fun s => upd_e _ _ _ _) (fun s => upd_e _ _ _ _) (fun s => upd_e _ _ _ _) (fun s => upd_e _ _ _ _) (fun s => upd_e _ _ _ _)
        · rw [stM_n _ _ x1, stM_cm M _ _ (by decide : (20 : Nat) ≠ 18), stM_n _ _ x2]
        · rw [stM_n _ _ x1, stM_n _ _ x2, stM_n _ _ x3]
