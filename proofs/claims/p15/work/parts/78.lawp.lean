theorem cmpL {L i : Nat} (hL : L ≤ 2048) (hi : i ≤ 512) : (nI L - 4 < nI (4 * i)) ↔ L < 4 * i + 4 := by
  have e : (nI L - 4).toInt = (L : Int) - 4 := pk_sub_toInt (a := L) (b := 4) (by omega) (by omega)
  rw [Int32.lt_iff_toInt_lt, e, nI_toInt (by omega)]
  omega
set_option maxHeartbeats 4000000 in
set_option maxRecDepth 100000 in
theorem law_go {L : Nat} {xs : Nat → Int32} (hL : L ≤ 2048) : ∀ (d i kc ks : Nat) (M N : Mm) (o : Nat → Int64) (c : Nat), i + d = L / 4 → kc ≤ 52 + i → ks ≤ 1707 + 6 * i → RB c M N → wlLaw L xs (d + 1) (nI (4 * i)) kc ks M N o := by
  intro d
  induction d with
  | zero =>
    intro i kc ks M N o c hd hk hs h
    rw [wlLaw]
    rintro y rfl y rfl
    exact ⟨fun _ => ⟨by omega, by omega⟩, fun q => absurd ((cmpL hL (by omega)).mpr (by omega)) q⟩
  | succ d ih =>
    intro i kc ks M N o c hd hk hs h
    rw [wlLaw]
    rintro y rfl y rfl
    refine ⟨fun q => absurd ((cmpL hL (by omega)).mp q) (by omega), fun _ => ⟨inI (by omega) (by omega), ?_⟩⟩
    rintro y ey y6 ey6
    refine ⟨fun _ => ?_, fun _ => ?_⟩
    · clear ey ey6
      rintro y ey
      have ey : y = nI (4 * i + 1) := ey.trans (nI_add _ 1)
      subst ey
      refine ⟨inI (by omega) (by omega), ?_⟩
      rintro y ey
      have ey : y = xs (4 * i + 1) := ey.trans (by rw [nI_clamp (by omega)])
      subst ey
      rintro y ey
      have ey : y = nI (4 * i + 2) := ey.trans (nI_add _ 2)
      subst ey
      refine ⟨inI (by omega) (by omega), ?_⟩
      rintro y ey
      have ey : y = xs (4 * i + 2) := ey.trans (by rw [nI_clamp (by omega)])
      subst ey
      rintro y ey
      have ey : y = nI (4 * i + 3) := ey.trans (nI_add _ 3)
      subst ey
      refine ⟨inI (by omega) (by omega), ?_⟩
      rintro y ey
      have ey : y = xs (4 * i + 3) := ey.trans (by rw [nI_clamp (by omega)])
      subst ey
      refine ⟨by omega, by omega, ?_⟩
      obtain ⟨c', M', N', k, b, o', h1, h2, h3, h4, h5⟩ := act_hi (o := o) (xs (4 * i + 1)) (xs (4 * i + 2)) (xs (4 * i + 3)) h
      refine h3 _ ?_
      rintro y ey
      have ey : y = nI (4 * i + 1) := ey.trans (nI_add _ 1)
      subst ey
      refine ⟨inI (by omega) (by omega), ?_⟩
      rintro y ey
      have ey : y = xs (4 * i + 1) := ey.trans (by rw [nI_clamp (by omega)])
      subst ey
      rintro y ey
      have ey : y = nI (4 * i + 2) := ey.trans (nI_add _ 2)
      subst ey
      refine ⟨inI (by omega) (by omega), ?_⟩
      rintro y ey
      have ey : y = xs (4 * i + 2) := ey.trans (by rw [nI_clamp (by omega)])
      subst ey
      rintro y ey
      have ey : y = nI (4 * i + 3) := ey.trans (nI_add _ 3)
      subst ey
      refine ⟨inI (by omega) (by omega), ?_⟩
      rintro y ey
      have ey : y = xs (4 * i + 3) := ey.trans (by rw [nI_clamp (by omega)])
      subst ey
      refine ⟨by omega, by omega, h4 _ ?_⟩
      rintro y ey
      have ey : y = nI (4 * (i + 1)) := ey.trans (nI_add _ 4)
      subst ey
      exact ih (i + 1) _ _ M' N' o' _ (by omega) (by omega) (by omega) h1
    refine ⟨fun _ => ?_, fun _ => ?_⟩
    · clear ey ey6
      rintro y ey
      have ey : y = nI (4 * i + 1) := ey.trans (nI_add _ 1)
      subst ey
      refine ⟨inI (by omega) (by omega), ?_⟩
      rintro y ey
      have ey : y = xs (4 * i + 1) := ey.trans (by rw [nI_clamp (by omega)])
      subst ey
      rintro y ey
      have ey : y = nI (4 * i + 2) := ey.trans (nI_add _ 2)
      subst ey
      refine ⟨inI (by omega) (by omega), ?_⟩
      rintro y ey
      have ey : y = xs (4 * i + 2) := ey.trans (by rw [nI_clamp (by omega)])
      subst ey
      refine ⟨by omega, by omega, ?_⟩
      obtain ⟨c', M', N', k, h1, h2, h3, h4⟩ := finish_hv (xs (4 * i + 1)) (xs (4 * i + 2)) h
      refine h3 _ ?_
      rintro y ey
      have ey : y = nI (4 * i + 1) := ey.trans (nI_add _ 1)
      subst ey
      refine ⟨inI (by omega) (by omega), ?_⟩
      rintro y ey
      have ey : y = xs (4 * i + 1) := ey.trans (by rw [nI_clamp (by omega)])
      subst ey
      rintro y ey
      have ey : y = nI (4 * i + 2) := ey.trans (nI_add _ 2)
      subst ey
      refine ⟨inI (by omega) (by omega), ?_⟩
      rintro y ey
      have ey : y = xs (4 * i + 2) := ey.trans (by rw [nI_clamp (by omega)])
      subst ey
      refine ⟨by omega, by omega, h4 _ ?_⟩
      rintro y ey
      have ey : y = nI (4 * (i + 1)) := ey.trans (nI_add _ 4)
      subst ey
      exact ih (i + 1) _ _ M' N' o _ (by omega) (by omega) (by omega) h1
    refine ⟨fun _ => ?_, fun _ => ?_⟩
    · clear ey ey6
      rintro y ey
      have ey : y = nI (4 * i + 1) := ey.trans (nI_add _ 1)
      subst ey
      refine ⟨inI (by omega) (by omega), ?_⟩
      rintro y ey
      have ey : y = xs (4 * i + 1) := ey.trans (by rw [nI_clamp (by omega)])
      subst ey
      refine ⟨by omega, by omega, ?_⟩
      obtain ⟨c', M', N', k, b, o', h1, h2, h3, h4, h5⟩ := call_hi (o := o) (xs (4 * i + 1)) h
      refine h3 _ ?_
      rintro y ey
      have ey : y = nI (4 * i + 1) := ey.trans (nI_add _ 1)
      subst ey
      refine ⟨inI (by omega) (by omega), ?_⟩
      rintro y ey
      have ey : y = xs (4 * i + 1) := ey.trans (by rw [nI_clamp (by omega)])
      subst ey
      refine ⟨by omega, by omega, h4 _ ?_⟩
      rintro y ey
      have ey : y = nI (4 * (i + 1)) := ey.trans (nI_add _ 4)
      subst ey
      exact ih (i + 1) _ _ M' N' o' _ (by omega) (by omega) (by omega) h1
    refine ⟨fun _ => ?_, fun _ => ?_⟩
    · clear ey ey6
      rintro y ey
      have ey : y = nI (4 * i + 1) := ey.trans (nI_add _ 1)
      subst ey
      refine ⟨inI (by omega) (by omega), ?_⟩
      rintro y ey
      have ey : y = xs (4 * i + 1) := ey.trans (by rw [nI_clamp (by omega)])
      subst ey
      refine ⟨by omega, by omega, ?_⟩
      obtain ⟨c', M', N', k, b, o', h1, h2, h3, h4, h5⟩ := step_hi (o := o) (xs (4 * i + 1)) h
      refine h3 _ ?_
      rintro y ey
      have ey : y = nI (4 * i + 1) := ey.trans (nI_add _ 1)
      subst ey
      refine ⟨inI (by omega) (by omega), ?_⟩
      rintro y ey
      have ey : y = xs (4 * i + 1) := ey.trans (by rw [nI_clamp (by omega)])
      subst ey
      refine ⟨by omega, by omega, h4 _ ?_⟩
      rintro y ey
      have ey : y = nI (4 * (i + 1)) := ey.trans (nI_add _ 4)
      subst ey
      exact ih (i + 1) _ _ M' N' o' _ (by omega) (by omega) (by omega) h1
    refine ⟨fun _ => ?_, fun _ => ?_⟩
    · clear ey ey6
      rintro y ey
      have ey : y = nI (4 * i + 1) := ey.trans (nI_add _ 1)
      subst ey
      refine ⟨inI (by omega) (by omega), ?_⟩
      rintro y ey
      have ey : y = xs (4 * i + 1) := ey.trans (by rw [nI_clamp (by omega)])
      subst ey
      rintro y rfl y rfl
      rintro y ey
      have ey : y = nI (4 * i + 2) := ey.trans (nI_add _ 2)
      subst ey
      refine ⟨inI (by omega) (by omega), ?_⟩
      rintro y ey
      have ey : y = xs (4 * i + 2) := ey.trans (by rw [nI_clamp (by omega)])
      subst ey
      rintro y rfl y rfl y rfl
      rintro y ey
      have ey : y = nI (4 * i + 3) := ey.trans (nI_add _ 3)
      subst ey
      refine ⟨inI (by omega) (by omega), ?_⟩
      rintro y ey
      have ey : y = xs (4 * i + 3) := ey.trans (by rw [nI_clamp (by omega)])
      subst ey
      refine ⟨by omega, by omega, ?_⟩
      obtain ⟨c', M', N', k, b, o', h1, h2, h3, h4, h5⟩ := run_hi (o := o) ((xs (4 * i + 1)).toInt64 <<< ((32 : Int32).toInt64 &&& 63) ||| (xs (4 * i + 2)).toInt64 &&& 4294967295) (xs (4 * i + 3)) h
      refine h3 _ ?_
      rintro y ey
      have ey : y = nI (4 * i + 1) := ey.trans (nI_add _ 1)
      subst ey
      refine ⟨inI (by omega) (by omega), ?_⟩
      rintro y ey
      have ey : y = xs (4 * i + 1) := ey.trans (by rw [nI_clamp (by omega)])
      subst ey
      rintro y rfl y rfl
      rintro y ey
      have ey : y = nI (4 * i + 2) := ey.trans (nI_add _ 2)
      subst ey
      refine ⟨inI (by omega) (by omega), ?_⟩
      rintro y ey
      have ey : y = xs (4 * i + 2) := ey.trans (by rw [nI_clamp (by omega)])
      subst ey
      rintro y rfl y rfl y rfl
      rintro y ey
      have ey : y = nI (4 * i + 3) := ey.trans (nI_add _ 3)
      subst ey
      refine ⟨inI (by omega) (by omega), ?_⟩
      rintro y ey
      have ey : y = xs (4 * i + 3) := ey.trans (by rw [nI_clamp (by omega)])
      subst ey
      refine ⟨by omega, by omega, h4 _ ?_⟩
      rintro y ey
      have ey : y = nI (4 * (i + 1)) := ey.trans (nI_add _ 4)
      subst ey
      exact ih (i + 1) _ _ M' N' o' _ (by omega) (by omega) (by omega) h1
    refine ⟨fun _ => ?_, fun _ => ?_⟩
    · clear ey ey6
      rintro y ey
      have ey : y = nI (4 * i + 1) := ey.trans (nI_add _ 1)
      subst ey
      refine ⟨inI (by omega) (by omega), ?_⟩
      rintro y ey
      have ey : y = xs (4 * i + 1) := ey.trans (by rw [nI_clamp (by omega)])
      subst ey
      refine ⟨by omega, by omega, ?_⟩
      obtain ⟨c', M', N', k, h1, h2, h3, h4⟩ := kill_hv (xs (4 * i + 1)) h
      refine h3 _ ?_
      rintro y ey
      have ey : y = nI (4 * i + 1) := ey.trans (nI_add _ 1)
      subst ey
      refine ⟨inI (by omega) (by omega), ?_⟩
      rintro y ey
      have ey : y = xs (4 * i + 1) := ey.trans (by rw [nI_clamp (by omega)])
      subst ey
      refine ⟨by omega, by omega, h4 _ ?_⟩
      rintro y ey
      have ey : y = nI (4 * (i + 1)) := ey.trans (nI_add _ 4)
      subst ey
      exact ih (i + 1) _ _ M' N' o _ (by omega) (by omega) (by omega) h1
    refine ⟨fun _ => ?_, fun _ => ?_⟩
    · clear ey ey6
      rintro y ey
      have ey : y = nI (4 * i + 1) := ey.trans (nI_add _ 1)
      subst ey
      refine ⟨inI (by omega) (by omega), ?_⟩
      rintro y ey
      have ey : y = xs (4 * i + 1) := ey.trans (by rw [nI_clamp (by omega)])
      subst ey
      refine ⟨by omega, by omega, ?_⟩
      obtain ⟨c', M', N', k, h1, h2, h3, h4⟩ := restart_hv (xs (4 * i + 1)) h
      refine h3 _ ?_
      rintro y ey
      have ey : y = nI (4 * i + 1) := ey.trans (nI_add _ 1)
      subst ey
      refine ⟨inI (by omega) (by omega), ?_⟩
      rintro y ey
      have ey : y = xs (4 * i + 1) := ey.trans (by rw [nI_clamp (by omega)])
      subst ey
      refine ⟨by omega, by omega, h4 _ ?_⟩
      rintro y ey
      have ey : y = nI (4 * (i + 1)) := ey.trans (nI_add _ 4)
      subst ey
      exact ih (i + 1) _ _ M' N' o _ (by omega) (by omega) (by omega) h1
    refine ⟨fun _ => ?_, fun _ => ?_⟩
    · clear ey ey6
      rintro y ey
      have ey : y = nI (4 * i + 1) := ey.trans (nI_add _ 1)
      subst ey
      refine ⟨inI (by omega) (by omega), ?_⟩
      rintro y ey
      have ey : y = xs (4 * i + 1) := ey.trans (by rw [nI_clamp (by omega)])
      subst ey
      refine ⟨by omega, by omega, ?_⟩
      obtain ⟨c', M', N', k, h1, h2, h3, h4⟩ := lease_hv (xs (4 * i + 1)) h
      refine h3 _ ?_
      rintro y ey
      have ey : y = nI (4 * i + 1) := ey.trans (nI_add _ 1)
      subst ey
      refine ⟨inI (by omega) (by omega), ?_⟩
      rintro y ey
      have ey : y = xs (4 * i + 1) := ey.trans (by rw [nI_clamp (by omega)])
      subst ey
      refine ⟨by omega, by omega, h4 _ ?_⟩
      rintro y ey
      have ey : y = nI (4 * (i + 1)) := ey.trans (nI_add _ 4)
      subst ey
      exact ih (i + 1) _ _ M' N' o _ (by omega) (by omega) (by omega) h1
    refine ⟨fun _ => ?_, fun _ => ?_⟩
    · clear ey ey6
      obtain ⟨r, M', N', h3, h4, h1⟩ := close_br h
      refine ⟨by omega, by omega, h3 _ (h4 _ ?_)⟩
      rintro y ey
      have ey : y = nI (4 * (i + 1)) := ey.trans (nI_add _ 4)
      subst ey
      exact ih (i + 1) _ _ M' N' o _ (by omega) (by omega) (by omega) (RB_of h1)
    refine ⟨fun _ => ?_, fun _ => ?_⟩
    · clear ey ey6
      rintro y ey
      have ey : y = nI (4 * i + 1) := ey.trans (nI_add _ 1)
      subst ey
      refine ⟨inI (by omega) (by omega), ?_⟩
      rintro y ey
      have ey : y = xs (4 * i + 1) := ey.trans (by rw [nI_clamp (by omega)])
      subst ey
      rintro y ey
      have ey : y = nI (4 * i + 2) := ey.trans (nI_add _ 2)
      subst ey
      refine ⟨inI (by omega) (by omega), ?_⟩
      rintro y ey
      have ey : y = xs (4 * i + 2) := ey.trans (by rw [nI_clamp (by omega)])
      subst ey
      refine ⟨by omega, by omega, ?_⟩
      obtain ⟨c', M', N', k, b, o', h1, h2, h3, h4, h5⟩ := unit_hi (o := o) (xs (4 * i + 1)) (xs (4 * i + 2)) h
      refine h3 _ ?_
      rintro y ey
      have ey : y = nI (4 * i + 1) := ey.trans (nI_add _ 1)
      subst ey
      refine ⟨inI (by omega) (by omega), ?_⟩
      rintro y ey
      have ey : y = xs (4 * i + 1) := ey.trans (by rw [nI_clamp (by omega)])
      subst ey
      rintro y ey
      have ey : y = nI (4 * i + 2) := ey.trans (nI_add _ 2)
      subst ey
      refine ⟨inI (by omega) (by omega), ?_⟩
      rintro y ey
      have ey : y = xs (4 * i + 2) := ey.trans (by rw [nI_clamp (by omega)])
      subst ey
      refine ⟨by omega, by omega, h4 _ ?_⟩
      rintro y ey
      have ey : y = nI (4 * (i + 1)) := ey.trans (nI_add _ 4)
      subst ey
      exact ih (i + 1) _ _ M' N' o' _ (by omega) (by omega) (by omega) h1
    refine ⟨fun _ => ?_, fun _ => ?_⟩
    · clear ey ey6
      rintro y ey
      have ey : y = nI (4 * i + 1) := ey.trans (nI_add _ 1)
      subst ey
      refine ⟨inI (by omega) (by omega), ?_⟩
      rintro y ey
      have ey : y = xs (4 * i + 1) := ey.trans (by rw [nI_clamp (by omega)])
      subst ey
      rintro y ey
      have ey : y = nI (4 * i + 2) := ey.trans (nI_add _ 2)
      subst ey
      refine ⟨inI (by omega) (by omega), ?_⟩
      rintro y ey
      have ey : y = xs (4 * i + 2) := ey.trans (by rw [nI_clamp (by omega)])
      subst ey
      refine ⟨by omega, by omega, ?_⟩
      obtain ⟨c', M', N', k, b, o', h1, h2, h3, h4, h5⟩ := callAt_hi (o := o) (xs (4 * i + 1)) (xs (4 * i + 2)) h
      refine h3 _ ?_
      rintro y ey
      have ey : y = nI (4 * i + 1) := ey.trans (nI_add _ 1)
      subst ey
      refine ⟨inI (by omega) (by omega), ?_⟩
      rintro y ey
      have ey : y = xs (4 * i + 1) := ey.trans (by rw [nI_clamp (by omega)])
      subst ey
      rintro y ey
      have ey : y = nI (4 * i + 2) := ey.trans (nI_add _ 2)
      subst ey
      refine ⟨inI (by omega) (by omega), ?_⟩
      rintro y ey
      have ey : y = xs (4 * i + 2) := ey.trans (by rw [nI_clamp (by omega)])
      subst ey
      refine ⟨by omega, by omega, h4 _ ?_⟩
      rintro y ey
      have ey : y = nI (4 * (i + 1)) := ey.trans (nI_add _ 4)
      subst ey
      exact ih (i + 1) _ _ M' N' o' _ (by omega) (by omega) (by omega) h1
    refine ⟨fun _ => ?_, fun _ => ?_⟩
    · clear ey ey6
      rintro y ey
      have ey : y = nI (4 * i + 1) := ey.trans (nI_add _ 1)
      subst ey
      refine ⟨inI (by omega) (by omega), ?_⟩
      rintro y ey
      have ey : y = xs (4 * i + 1) := ey.trans (by rw [nI_clamp (by omega)])
      subst ey
      rintro y ey
      have ey : y = nI (4 * i + 2) := ey.trans (nI_add _ 2)
      subst ey
      refine ⟨inI (by omega) (by omega), ?_⟩
      rintro y ey
      have ey : y = xs (4 * i + 2) := ey.trans (by rw [nI_clamp (by omega)])
      subst ey
      refine ⟨by omega, by omega, ?_⟩
      obtain ⟨c', M', N', k, b, o', h1, h2, h3, h4, h5⟩ := thread_hi (o := o) (xs (4 * i + 1)) (xs (4 * i + 2)) h
      refine h3 _ ?_
      rintro y ey
      have ey : y = nI (4 * i + 1) := ey.trans (nI_add _ 1)
      subst ey
      refine ⟨inI (by omega) (by omega), ?_⟩
      rintro y ey
      have ey : y = xs (4 * i + 1) := ey.trans (by rw [nI_clamp (by omega)])
      subst ey
      rintro y ey
      have ey : y = nI (4 * i + 2) := ey.trans (nI_add _ 2)
      subst ey
      refine ⟨inI (by omega) (by omega), ?_⟩
      rintro y ey
      have ey : y = xs (4 * i + 2) := ey.trans (by rw [nI_clamp (by omega)])
      subst ey
      refine ⟨by omega, by omega, h4 _ ?_⟩
      rintro y ey
      have ey : y = nI (4 * (i + 1)) := ey.trans (nI_add _ 4)
      subst ey
      exact ih (i + 1) _ _ M' N' o' _ (by omega) (by omega) (by omega) h1
    refine ⟨fun _ => ?_, fun _ => ?_⟩
    · clear ey ey6
      rintro y ey
      have ey : y = nI (4 * i + 1) := ey.trans (nI_add _ 1)
      subst ey
      refine ⟨inI (by omega) (by omega), ?_⟩
      rintro y ey
      have ey : y = xs (4 * i + 1) := ey.trans (by rw [nI_clamp (by omega)])
      subst ey
      rintro y ey
      have ey : y = nI (4 * i + 2) := ey.trans (nI_add _ 2)
      subst ey
      refine ⟨inI (by omega) (by omega), ?_⟩
      rintro y ey
      have ey : y = xs (4 * i + 2) := ey.trans (by rw [nI_clamp (by omega)])
      subst ey
      refine ⟨by omega, by omega, ?_⟩
      obtain ⟨c', M', N', k, b, o', h1, h2, h3, h4, h5⟩ := row_hi (o := o) (xs (4 * i + 1)) (xs (4 * i + 2)) h
      refine h3 _ ?_
      rintro y ey
      have ey : y = nI (4 * i + 1) := ey.trans (nI_add _ 1)
      subst ey
      refine ⟨inI (by omega) (by omega), ?_⟩
      rintro y ey
      have ey : y = xs (4 * i + 1) := ey.trans (by rw [nI_clamp (by omega)])
      subst ey
      rintro y ey
      have ey : y = nI (4 * i + 2) := ey.trans (nI_add _ 2)
      subst ey
      refine ⟨inI (by omega) (by omega), ?_⟩
      rintro y ey
      have ey : y = xs (4 * i + 2) := ey.trans (by rw [nI_clamp (by omega)])
      subst ey
      refine ⟨by omega, by omega, h4 _ ?_⟩
      rintro y ey
      have ey : y = nI (4 * (i + 1)) := ey.trans (nI_add _ 4)
      subst ey
      exact ih (i + 1) _ _ M' N' o' _ (by omega) (by omega) (by omega) h1
    refine ⟨fun _ => ?_, fun _ => ?_⟩
    · clear ey ey6
      rintro y ey
      have ey : y = nI (4 * i + 1) := ey.trans (nI_add _ 1)
      subst ey
      refine ⟨inI (by omega) (by omega), ?_⟩
      rintro y ey
      have ey : y = xs (4 * i + 1) := ey.trans (by rw [nI_clamp (by omega)])
      subst ey
      refine ⟨by omega, by omega, ?_⟩
      obtain ⟨c', M', N', k, b, o', h1, h2, h3, h4, h5⟩ := count_hi (o := o) (xs (4 * i + 1)) h
      refine h3 _ ?_
      rintro y ey
      have ey : y = nI (4 * i + 1) := ey.trans (nI_add _ 1)
      subst ey
      refine ⟨inI (by omega) (by omega), ?_⟩
      rintro y ey
      have ey : y = xs (4 * i + 1) := ey.trans (by rw [nI_clamp (by omega)])
      subst ey
      refine ⟨by omega, by omega, h4 _ ?_⟩
      rintro y ey
      have ey : y = k := ey.trans h2
      subst ey
      refine ⟨fun _ => ⟨fun z => ?_, fun z => ?_⟩, fun q => absurd rfl q⟩
      · rintro y2 ey2 y3 ey3 y4 ey4
        have e0 : y4 = 0 := by
          rw [ey4, ey2, ey3]
          exact (lg_cmp_eq _ _).mpr (h5 z trivial)
        refine ⟨fun _ => ?_, fun q => absurd e0 q⟩
        rintro y ey
        have ey : y = nI (4 * (i + 1)) := ey.trans (nI_add _ 4)
        subst ey
        exact ih (i + 1) _ _ M' N' o' _ (by omega) (by omega) (by omega) h1
      · rintro y ey
        have ey : y = nI (4 * (i + 1)) := ey.trans (nI_add _ 4)
        subst ey
        exact ih (i + 1) _ _ M' N' o' _ (by omega) (by omega) (by omega) h1
    rintro y ey
    have ey : y = nI (4 * (i + 1)) := ey.trans (nI_add _ 4)
    subst ey
    exact ih (i + 1) _ _ M N o _ (by omega) (by omega) (by omega) h
theorem start_RB {M N : Mm} (hM : initX M) (hN : initM N) : RB 0 M N := by
  obtain ⟨a0, a1, a2, a3, a4, a5, a6, a7, a8, a9, a10, a11, a12, a13, a14, a15, a16, a17, a18, a19, a20, a21, a22, a23, a24, a25⟩ := hM
  obtain ⟨b0, b1, b2, b3, b4, b5, b6, b7, b8, b9, b10, b11, b12, b13, b14, b15, b16, b17, b18, b19, b20, b21, b22, b23, b24, b25, b26, b27⟩ := hN
  have n : ∀ j, j ≠ 26 → thM N 0 j = N j := fun j e => stM_n _ _ e
  refine ⟨⟨a22 0, by omega⟩, ?_, ?_, ?_, ?_, ?_, ?_, ?_, ?_, ?_, ?_, rfl⟩
  · intro j i hc
    unfold cmp at hc
    rcases hc with ⟨rfl, h⟩ | ⟨rfl, h⟩ | ⟨rfl, h⟩ | ⟨rfl, h⟩ | ⟨rfl, h⟩ | ⟨h1, h2, h⟩ | ⟨h1, h2, h⟩ | ⟨rfl, h⟩ | ⟨rfl, h⟩ | ⟨rfl, h⟩ | ⟨rfl, h⟩ | ⟨rfl, h⟩ | ⟨rfl, h⟩ | ⟨h1, h2, h⟩
    · exact (a0 i).trans (b0 i).symm
    · exact (a1 i).trans (b1 i).symm
    · exact (a2 i).trans (b2 i).symm
    · exact (a4 i h).trans (b4 i h).symm
    · exact (a5 i h).trans (b5 i h).symm
    · omega
    · rcases (show j = 10 ∨ j = 11 ∨ j = 12 ∨ j = 13 by omega) with rfl | rfl | rfl | rfl
      · exact (a10 i).trans (b10 i).symm
      · exact (a11 i).trans (b11 i).symm
      · exact (a12 i).trans (b12 i).symm
      · exact (a13 i).trans (b13 i).symm
    · exact (a14 i).trans (b14 i).symm
    · exact (a15 i).trans (b15 i).symm
    · exact (a16 i).trans (b16 i).symm
    · exact (a18 i).trans (b18 i).symm
    · exact (a19 i).trans (b19 i).symm
    · exact (a21 i).trans (b21 i).symm
    · rcases (show j = 22 ∨ j = 23 ∨ j = 24 ∨ j = 25 by omega) with rfl | rfl | rfl | rfl
      · exact (a22 i).trans (b22 i).symm
      · exact (a23 i).trans (b23 i).symm
      · exact (a24 i).trans (b24 i).symm
      · exact (a25 i).trans (b25 i).symm
  · intro j i hi
    match j, hi with
    | 0, _ => exact ⟨0, by omega, a0 i⟩
    | 1, _ => exact ⟨0, by omega, a1 i⟩
    | 2, _ => exact ⟨0, by omega, a2 i⟩
    | 3, hi => exact Or.inl (a3 i hi)
    | 4, hi => exact Or.inl (a4 i hi)
    | 5, hi => exact Or.inl (a5 i hi)
    | 6, _ => exact trivial
    | 7, hi => exact Or.inl (a7 i hi)
    | 8, hi => exact Or.inl (a8 i hi)
    | 9, _ => exact Or.inl (a9 i)
    | 10, _ => exact trivial
    | 11, _ => exact trivial
    | 12, _ => exact trivial
    | 13, _ => exact trivial
    | 14, _ => exact Or.inl (a14 i)
    | 15, _ => exact ⟨0, by omega, a15 i⟩
    | 16, _ => exact trivial
    | 17, _ => exact ⟨0, by omega, a17 i⟩
    | 18, _ => exact trivial
    | 19, _ => exact trivial
    | 20, _ => exact Or.inl (a20 i)
    | 21, _ => exact Or.inl (a21 i)
    | 22, _ => exact trivial
    | 23, _ => exact ⟨0, by omega, a23 i⟩
    | j + 24, _ => exact trivial
  · intro t _
    rw [a15, a2]
    decide
  · intro t ht
    exact Or.inl (a3 t ht)
  · intro t _ h1
    rw [a14] at h1
    exact absurd h1 (by decide)
  · intro t _ _ h1
    exact absurd (a17 t) h1
  · intro t _ _ h1
    exact absurd (a20 t) h1
  · intro i _ hi
    exact ⟨a7 i hi, a8 i hi⟩
  · intro t ht
    exact Or.inl ⟨a3 t ht, b3 t ht⟩
  · intro t _ _
    refine ⟨(a17 t).trans (b17 t).symm, (a20 t).trans (b20 t).symm, Or.inl ⟨b27 t, a17 t⟩⟩
theorem start_17 {M N : Mm} (hM : initX M) (hN : initM N) (t : Nat) : M 17 t = N 17 t := by
  obtain ⟨a0, a1, a2, a3, a4, a5, a6, a7, a8, a9, a10, a11, a12, a13, a14, a15, a16, a17, a18, a19, a20, a21, a22, a23, a24, a25⟩ := hM
  obtain ⟨b0, b1, b2, b3, b4, b5, b6, b7, b8, b9, b10, b11, b12, b13, b14, b15, b16, b17, b18, b19, b20, b21, b22, b23, b24, b25, b26, b27⟩ := hN
  exact (a17 t).trans (b17 t).symm
theorem law_pure : ∀ (L : Nat) (xs : Nat → Int32), L ≤ 2048 → lawPure L xs := by
  intro L xs hL M N o hM hN
  exact ⟨L / 4 + 1, law_go hL (L / 4) 0 52 1707 M N o 0 (by omega) (by omega) (by omega) (start_RB hM hN)⟩
