/-- the thread of a schedule's turn: three bits -/
theorem sh64 : ∀ i, i < 16 → ((4 : Int32) * nI i).toInt64.toUInt64 &&& Int64.toUInt64 63 = UInt64.ofNat (4 * i) := by decide +kernel
theorem shi64 : ∀ i, i < 16 → (((4 : Int32) * nI i).toInt64 &&& 63).toBitVec.smod 64 = BitVec.ofNat 64 (4 * i) := by decide +kernel
theorem b7a : ∀ j, j < 32 → 3 ≤ j → (7 : BitVec 32).getLsbD j = false ∧ (7 : BitVec 64).getLsbD j = false := by decide +kernel
theorem b7b : ∀ j, j < 3 → (7 : BitVec 32).getLsbD j = true ∧ (7 : BitVec 64).getLsbD j = true := by decide +kernel
theorem low7 (z : Int32) : ∃ t : Nat, t < 8 ∧ z &&& 7 = nI t := by
  refine ⟨(z &&& 7).toBitVec.toNat, ?_, ?_⟩
  · rw [Int32.toBitVec_and, BitVec.toNat_and]
    have w : z.toBitVec.toNat &&& (7 : Int32).toBitVec.toNat ≤ (7 : Int32).toBitVec.toNat := Nat.and_le_right
    have e : (7 : Int32).toBitVec.toNat = 7 := by decide
    omega
  · refine Int32.toBitVec_inj.mp ?_
    show _ = (Int32.ofNat _).toBitVec
    rw [Int32.toBitVec_ofNat', BitVec.ofNat_toNat, BitVec.setWidth_eq]
theorem schd (x : Int64) {i : Nat} (hi : i < 16) : ((x.toUInt64 >>> (((4 : Int32) * nI i).toInt64.toUInt64 &&& Int64.toUInt64 63)).toInt64 &&& 7).toInt32 = (x >>> (((4 : Int32) * nI i).toInt64 &&& 63)).toInt32 &&& 7 := by
  rw [sh64 i hi]
  refine Int32.toBitVec_inj.mp ?_
  rw [Int64.toBitVec_toInt32, Int32.toBitVec_and, Int64.toBitVec_toInt32, Int64.toBitVec_and, Int64.toBitVec_shiftRight, shi64 i hi]
  have e1 : ((x.toUInt64 >>> UInt64.ofNat (4 * i)).toInt64).toBitVec = x.toBitVec >>> (4 * i) := by
    show (x.toUInt64 >>> UInt64.ofNat (4 * i)).toBitVec = _
    rw [UInt64.toBitVec_shiftRight]
    show x.toBitVec >>> ((UInt64.ofNat (4 * i)).toBitVec % 64) = _
    refine BitVec.eq_of_toNat_eq ?_
    rw [BitVec.ushiftRight_eq', BitVec.toNat_ushiftRight, BitVec.toNat_ushiftRight]
    have e : ((UInt64.ofNat (4 * i)).toBitVec % 64).toNat = 4 * i := by
      rw [BitVec.toNat_umod]
      show (4 * i) % 2 ^ 64 % 64 = 4 * i
      omega
    rw [e]
  rw [e1]
  refine BitVec.eq_of_getLsbD_eq (fun j hj => ?_)
  rw [BitVec.getLsbD_signExtend, BitVec.getLsbD_and, BitVec.getLsbD_and, BitVec.getLsbD_signExtend, BitVec.getLsbD_ushiftRight]
  show _ = (_ && (7 : BitVec 32).getLsbD j)
  rcases Nat.lt_or_ge j 3 with q | q
  · have b := b7b j q
    rw [b.1]
    have e2 : ((x.toBitVec.sshiftRight' (BitVec.ofNat 64 (4 * i)))).getLsbD j = x.toBitVec.getLsbD (4 * i + j) := by
      rw [BitVec.sshiftRight_eq', BitVec.getLsbD_sshiftRight]
      have e : (BitVec.ofNat 64 (4 * i)).toNat = 4 * i := by
        rw [BitVec.toNat_ofNat]; omega
      rw [e, if_pos (by omega)]
      have w : decide (64 ≤ j) = false := decide_eq_false (by omega)
      rw [w]; rfl
    rw [e2, if_pos (by omega), if_pos (by omega), show (Int64.toBitVec 7).getLsbD j = true from b.2]
    rw [Bool.and_true, Bool.and_true]
  · have b := b7a j hj q
    rw [b.1, if_pos (by omega), show (Int64.toBitVec 7).getLsbD j = false from b.2]
    rw [Bool.and_false, Bool.and_false, Bool.and_false]
theorem run_rel {c n : Nat} (x : Int64) (hn : n ≤ 16) : ∀ d k, k + d = n → ∀ (M N : Mm) (a : Int32), RR c M N → ∃ (r : Int32) (M' N' : Mm), RR c M' N' ∧ (∀ (post : Int32 → Mm → Prop) (px : Nat → Mm → Prop), post r M' → wlXs_run_26 post px (d + 1) x (nI n) a (nI k) M) ∧ (∀ post : Int32 → Mm → Prop, post r N' → wlXm_run_33 post (d + 1) x (nI n) a (nI k) N) := by
  intro d
  induction d with
  | zero =>
    intro k hk M N a h
    have e : k = n := by omega
    subst e
    refine ⟨a, M, N, h, fun post px hp => ?_, fun post hp => ?_⟩
    · rw [wlXs_run_26]
      exact ⟨fun _ => hp, fun q => absurd ((nI_leE (by omega) (by omega)).mpr (Nat.le_refl _)) q⟩
    · rw [wlXm_run_33]
      exact ⟨fun _ => hp, fun q => absurd ((nI_leE (by omega) (by omega)).mpr (Nat.le_refl _)) q⟩
  | succ d ih =>
    intro k hk M N a h
    have nk : ¬ nI n ≤ nI k := fun q => absurd ((nI_leE (by omega) (by omega)).mp q) (by omega)
    obtain ⟨t, ht, et⟩ := low7 (x >>> (((4 : Int32) * nI k).toInt64 &&& 63)).toInt32
    have it : vp_in (nI t) 8 := inI ht (by decide)
    have ct : (nI t).toNatClampNeg = t := clI (by omega)
    have gX : ∀ (post : Int32 → Mm → Prop) (px : Nat → Mm → Prop), ((M 14 t = 0 → wpXs_takeTurn (nI t) M (fun r M1 => (r = 1 → wlXs_run_26 post px (d + 1) x (nI n) (a + 1) (nI (k + 1)) M1) ∧ (¬ r = 1 → wlXs_run_26 post px (d + 1) x (nI n) a (nI (k + 1)) M1))) ∧ (¬ M 14 t = 0 → wlXs_run_26 post px (d + 1) x (nI n) a (nI (k + 1)) M)) → wlXs_run_26 post px (d + 1 + 1) x (nI n) a (nI k) M := by
      intro post px hp
      rw [wlXs_run_26]
      refine ⟨fun q => absurd q nk, fun _ => ?_⟩
      rintro y rfl y rfl y rfl y rfl
      rw [schd x (by omega : k < 16), et, ct]
      refine ⟨it, ?_⟩
      rintro y rfl
      refine ⟨fun q => ?_, fun q => ?_⟩
      · have w := hp.1 q
        rw [← nI_1] at w
        have e : (fun (r_12 : Int32) (M_13 : Mm) => ((r_12 = 1 → (∀ x4_16 : Int32, x4_16 = a + 1 → (∀ x5_17 : Int32, x5_17 = nI k + 1 → (wlXs_run_26 post px (d + 1) x (nI n) x4_16 x5_17 M_13)))) ∧ (¬ r_12 = 1 → (∀ x5_15 : Int32, x5_15 = nI k + 1 → (wlXs_run_26 post px (d + 1) x (nI n) a x5_15 M_13))))) = (fun r M1 => (r = 1 → wlXs_run_26 post px (d + 1) x (nI n) (a + 1) (nI k + 1) M1) ∧ (¬ r = 1 → wlXs_run_26 post px (d + 1) x (nI n) a (nI k + 1) M1)) := by
          funext r M1
          exact propext ⟨fun z => ⟨fun z1 => z.1 z1 _ rfl _ rfl, fun z1 => z.2 z1 _ rfl⟩, fun z => ⟨fun z1 x1 e1 x2 e2 => by rw [e1, e2]; exact z.1 z1, fun z1 x2 e2 => by rw [e2]; exact z.2 z1⟩⟩
        rw [e]
        exact w
      · rintro y rfl
        rw [nI_1]
        exact hp.2 q
    have gN : ∀ (post : Int32 → Mm → Prop), ((N 14 t = 0 → wpXm_turn (nI t) N (fun r M1 => (r = 1 → wlXm_run_33 post (d + 1) x (nI n) (a + 1) (nI (k + 1)) M1) ∧ (¬ r = 1 → wlXm_run_33 post (d + 1) x (nI n) a (nI (k + 1)) M1))) ∧ (¬ N 14 t = 0 → wlXm_run_33 post (d + 1) x (nI n) a (nI (k + 1)) N)) → wlXm_run_33 post (d + 1 + 1) x (nI n) a (nI k) N := by
      intro post hp
      rw [wlXm_run_33]
      refine ⟨fun q => absurd q nk, fun _ => ?_⟩
      rintro y rfl y rfl y rfl y rfl
      rw [et, ct]
      refine ⟨it, ?_⟩
      rintro y rfl
      refine ⟨fun q => ?_, fun q => ?_⟩
      · have w := hp.1 q
        rw [← nI_1] at w
        have e : (fun (r_16 : Int32) (M_17 : Mm) => ((r_16 = 1 → (∀ y_21 : Int32, y_21 = a + 1 → (∀ x5_22 : Int32, x5_22 = nI k + 1 → (wlXm_run_33 post (d + 1) x (nI n) y_21 x5_22 M_17)))) ∧ (¬ r_16 = 1 → (∀ y_19 : Int32, y_19 = a + 0 → (∀ x5_20 : Int32, x5_20 = nI k + 1 → (wlXm_run_33 post (d + 1) x (nI n) y_19 x5_20 M_17)))))) = (fun r M1 => (r = 1 → wlXm_run_33 post (d + 1) x (nI n) (a + 1) (nI k + 1) M1) ∧ (¬ r = 1 → wlXm_run_33 post (d + 1) x (nI n) a (nI k + 1) M1)) := by
          funext r M1
          exact propext ⟨fun z => ⟨fun z1 => z.1 z1 _ rfl _ rfl, fun z1 => by have w := z.2 z1 _ rfl _ rfl; rw [add0] at w; exact w⟩, fun z => ⟨fun z1 x1 e1 x2 e2 => by rw [e1, e2]; exact z.1 z1, fun z1 x1 e1 x2 e2 => by rw [e1, e2, add0]; exact z.2 z1⟩⟩
        rw [e]
        exact w
      · rintro y rfl
        rw [nI_1]
        exact hp.2 q
    have e14 : M 14 t = N 14 t := h.same (c14 ht)
    by_cases q : M 14 t = 0
    · obtain ⟨r, M1, N1, t1, t2, t3⟩ := turn_rel h ht q
      by_cases r1 : r = 1
      · obtain ⟨s, M', N', s1, s2, s3⟩ := ih (k + 1) (by omega) M1 N1 (a + 1) t3
        exact ⟨s, M', N', s1, fun post px hp => gX post px ⟨fun _ => t1 _ ⟨fun _ => s2 post px hp, fun z => absurd r1 z⟩, fun z => absurd q z⟩, fun post hp => gN post ⟨fun _ => t2 _ ⟨fun _ => s3 post hp, fun z => absurd r1 z⟩, fun z => absurd (e14.symm.trans q) z⟩⟩
      · obtain ⟨s, M', N', s1, s2, s3⟩ := ih (k + 1) (by omega) M1 N1 a t3
        exact ⟨s, M', N', s1, fun post px hp => gX post px ⟨fun _ => t1 _ ⟨fun z => absurd z r1, fun _ => s2 post px hp⟩, fun z => absurd q z⟩, fun post hp => gN post ⟨fun _ => t2 _ ⟨fun z => absurd z r1, fun _ => s3 post hp⟩, fun z => absurd (e14.symm.trans q) z⟩⟩
    · obtain ⟨s, M', N', s1, s2, s3⟩ := ih (k + 1) (by omega) M N a h
      exact ⟨s, M', N', s1, fun post px hp => gX post px ⟨fun z => absurd z q, fun _ => s2 post px hp⟩, fun post hp => gN post ⟨fun z => absurd (e14.trans z) q, fun _ => s3 post hp⟩⟩
theorem run_hi {c : Nat} {M N : Mm} {o : Nat → Int64} (x : Int64) (p1 : Int32) (h : RB c M N) : HI True o (wpXl_run x p1 M o) (wpXm_run x p1 N) := by
  rcases rng p1 (n := 16) (by omega) with hb | ⟨n, hn, rfl⟩
  · refine hi_x h 1 (by decide) (fun post hp => Or.inr ⟨fun _ => ⟨rfl, hp⟩, fun q => ⟨fun w => absurd (hb.resolve_left q) (Int32.not_lt.mpr w), fun _ => ⟨rfl, hp⟩⟩⟩) (fun post hp => ?_)
    exact sm_in0 hb ⟨fun _ => th_1 ⟨fun q => absurd q (by decide), fun _ => hp⟩, fun q => absurd rfl q⟩
  · obtain ⟨s, M', N', s1, s2, s3⟩ := run_rel x hn n 0 (by omega) M (thM N 0) 0 h
    refine hi_r s1 (b := s) s (fun _ => rfl) (fun post hp => Or.inl ⟨fun q => absurd q (nI_nn (by omega)), fun _ => ⟨fun _ => ⟨n + 1, s2 _ _ hp⟩, fun w => absurd ((nI_leE (b := 16) (by omega) (by omega)).mpr hn) w⟩⟩) (fun post hp => ?_)
    exact sm_in1 (n := 16) hn (by omega) ⟨fun q => absurd q (by decide), fun _ => th_0 ⟨fun _ => ⟨n + 1, s3 _ hp⟩, fun q => absurd rfl q⟩⟩
theorem close_rel {c : Nat} : ∀ d k, k + d = 8 → ∀ (M N : Mm) (a : Int32), RR c M N → ∃ (r : Int32) (M' N' : Mm), RR c M' N' ∧ (∀ post : Int32 → Mm → Prop, post r M' → wlXs_close_4 post (d + 1) a (nI k) M) ∧ (∀ post : Int32 → Mm → Prop, post r N' → wlXm_close_9 post (d + 1) a (nI k) N) := by
  intro d
  induction d with
  | zero =>
    intro k hk M N a h
    have e : k = 8 := by omega
    subst e
    refine ⟨a, M, N, h, fun post hp => ?_, fun post hp => ?_⟩
    · rw [wlXs_close_4]
      exact ⟨fun _ => hp, fun q => absurd (by decide) q⟩
    · rw [wlXm_close_9]
      exact ⟨fun _ => hp, fun q => absurd (by decide) q⟩
  | succ d ih =>
    intro k hk M N a h
    have hk8 : k < 8 := by omega
    have it : vp_in (nI k) 8 := inI hk8 (by decide)
    have ct : (nI k).toNatClampNeg = k := clI (by omega)
    have e14 : M 14 k = N 14 k := h.same (c14 hk8)
    by_cases q : M 14 k = 0
    · have hE := RR_end h hk8
      have hD := RR_dr (t := k) hE
      have hS : RR c (drM (frM (stM M 14 (upd (M 14) k 1)) k) k c) (rsN (drM (frM (stM N 14 (upd (N 14) k 1)) k) k c) k) := RR_rs hD (fun w => by
        have w : upd (M 14) k 1 k = 0 := w
        rw [pk_us] at w
        exact absurd w (by decide))
      have hF : frM (rsN (drM (frM (stM N 14 (upd (N 14) k 1)) k) k c) k) k = rsN (drM (frM (stM N 14 (upd (N 14) k 1)) k) k c) k := frM_id (fun u hu => frK_no (N 4) k hk8 hu)
      obtain ⟨s, M', N', s1, s2, s3⟩ := ih (k + 1) (by omega) _ _ (a + 1) hS
      refine ⟨s, M', N', s1, fun post hp => ?_, fun post hp => ?_⟩
      · rw [wlXs_close_4]
        refine ⟨fun w => absurd w (nI_ge hk8 (by decide)), fun _ => ⟨it, ?_⟩⟩
        rintro y rfl
        rw [ct]
        refine ⟨fun _ => sx_end hk8 (sx_dropUnsentOf (c := c) hE.1 ?_), fun w => absurd q w⟩
        rintro y rfl y rfl
        rw [nI_1]
        exact s2 post hp
      · rw [wlXm_close_9]
        refine ⟨fun w => absurd w (nI_ge hk8 (by decide)), fun _ => ⟨it, ?_⟩⟩
        rintro y rfl
        rw [ct]
        refine ⟨fun _ => sm_end hk8 (sm_drop (c := c) hE.nN hE.d8 ⟨it, ?_⟩), fun w => absurd (e14.symm.trans q) w⟩
        rintro M1 rfl
        refine ⟨it, ?_⟩
        rintro M1 rfl
        refine ⟨it, ?_⟩
        rintro M1 rfl y rfl
        refine sm_free ?_
        rintro y rfl
        rw [nI_1]
        have w := s3 post hp
        rw [← hF] at w
        exact w
    · have qN : ¬ N 14 k = 0 := fun w => q (e14.trans w)
      have gN : ∀ (post : Int32 → Mm → Prop), wlXm_close_9 post (d + 1) a (nI (k + 1)) (frM N k) → wlXm_close_9 post (d + 1 + 1) a (nI k) N := by
        intro post hp
        rw [wlXm_close_9]
        refine ⟨fun w => absurd w (nI_ge hk8 (by decide)), fun _ => ⟨it, ?_⟩⟩
        rintro y rfl
        rw [ct]
        refine ⟨fun w => absurd w qN, fun _ => sm_free ?_⟩
        rintro y rfl
        rw [nI_1]
        exact hp
      by_cases q2 : M 14 k = 2
      · obtain ⟨s, M', N', s1, s2, s3⟩ := ih (k + 1) (by omega) _ _ a (RR_fr (t := k) h)
        refine ⟨s, M', N', s1, fun post hp => ?_, fun post hp => gN post (s3 post hp)⟩
        rw [wlXs_close_4]
        refine ⟨fun w => absurd w (nI_ge hk8 (by decide)), fun _ => ⟨it, ?_⟩⟩
        rintro y rfl
        rw [ct]
        refine ⟨fun w => absurd w q, fun _ => ⟨it, ?_⟩⟩
        rintro y rfl
        refine ⟨fun _ => sx_freeAllOf ?_, fun w => absurd q2 w⟩
        rintro y rfl
        rw [nI_1]
        exact s2 post hp
      · have q1 : M 14 k = 1 := by
          rcases h.d (j := 14) (i := k) hk8 with w | w | w
          · exact absurd w q
          · exact w
          · exact absurd w q2
        have hF : frM N k = N := frM_id (fun u hu => by rw [← h.same (c4 hu)]; exact h.2.2.2.2.2.1 k hk8 q1 u hu)
        obtain ⟨s, M', N', s1, s2, s3⟩ := ih (k + 1) (by omega) _ _ a h
        refine ⟨s, M', N', s1, fun post hp => ?_, fun post hp => gN post (by rw [hF]; exact s3 post hp)⟩
        rw [wlXs_close_4]
        refine ⟨fun w => absurd w (nI_ge hk8 (by decide)), fun _ => ⟨it, ?_⟩⟩
        rintro y rfl
        rw [ct]
        refine ⟨fun w => absurd w q, fun _ => ⟨it, ?_⟩⟩
        rintro y rfl
        refine ⟨fun w => absurd w q2, fun _ => ?_⟩
        rintro y rfl
        rw [nI_1]
        exact s2 post hp
/-- close: the same answer, the relation again -/
theorem close_br {c : Nat} {M N : Mm} (h : RB c M N) : BR c (wpXs_close M) (wpXm_close N) := by
  obtain ⟨s, M', N', s1, s2, s3⟩ := close_rel (c := c) 8 0 (by omega) M (thM N 0) 0 h
  refine ⟨s, M', N', fun post hp => ⟨9, s2 post hp⟩, fun post hp => ?_, s1⟩
  rintro M1 rfl
  exact ⟨9, s3 post hp⟩
