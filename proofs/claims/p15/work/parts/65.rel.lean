/-! the two memories beside each other -/
def cmp (c j i : Nat) : Prop := (j = 0 ∧ i < 128) ∨ (j = 1 ∧ i < 128) ∨ (j = 2 ∧ i < 8) ∨ (j = 4 ∧ i < 10) ∨ (j = 5 ∧ i < 10) ∨ (6 ≤ j ∧ j ≤ 9 ∧ i < c) ∨ (10 ≤ j ∧ j ≤ 13 ∧ i < 100) ∨ (j = 14 ∧ i < 8) ∨ (j = 15 ∧ i < 8) ∨ (j = 16 ∧ i < 8) ∨ (j = 18 ∧ i < 8) ∨ (j = 19 ∧ i < 8) ∨ (j = 21 ∧ i < 8) ∨ (22 ≤ j ∧ j ≤ 25 ∧ i = 0)
def R0 (c : Nat) (M N : Mm) : Prop := ∀ j i, cmp c j i → M j i = N j i
theorem R0_st {c a : Nat} {M N : Mm} {f g : Nat → Int32} (h : R0 c M N) (hf : ∀ i, cmp c a i → f i = g i) : R0 c (stM M a f) (stM N a g) := by
  intro j i hc
  by_cases e : j = a
  · subst e; rw [stM_s, stM_s]; exact hf i hc
  · rw [stM_n _ _ e, stM_n _ _ e]; exact h j i hc
theorem R0_l {c a : Nat} {M N : Mm} {f : Nat → Int32} (h : R0 c M N) (hf : ∀ i, ¬ cmp c a i) : R0 c (stM M a f) N := by
  intro j i hc
  by_cases e : j = a
  · subst e; exact absurd hc (hf i)
  · rw [stM_n _ _ e]; exact h j i hc
theorem R0_r {c a : Nat} {M N : Mm} {f : Nat → Int32} (h : R0 c M N) (hf : ∀ i, ¬ cmp c a i) : R0 c M (stM N a f) := by
  intro j i hc
  by_cases e : j = a
  · subst e; exact absurd hc (hf i)
  · rw [stM_n _ _ e]; exact h j i hc
theorem no3 (c i : Nat) : ¬ cmp c 3 i := by
  rintro (h | h | h | h | h | h | h | h | h | h | h | h | h | h) <;> omega
theorem no17 (c i : Nat) : ¬ cmp c 17 i := by
  rintro (h | h | h | h | h | h | h | h | h | h | h | h | h | h) <;> omega
theorem no20 (c i : Nat) : ¬ cmp c 20 i := by
  rintro (h | h | h | h | h | h | h | h | h | h | h | h | h | h) <;> omega
theorem no26 (c i : Nat) : ¬ cmp c 26 i := by
  rintro (h | h | h | h | h | h | h | h | h | h | h | h | h | h) <;> omega
theorem no27 (c i : Nat) : ¬ cmp c 27 i := by
  rintro (h | h | h | h | h | h | h | h | h | h | h | h | h | h) <;> omega
theorem R0_u {c a k : Nat} {M N : Mm} {x : Int32} (h : R0 c M N) : R0 c (stM M a (upd (M a) k x)) (stM N a (upd (N a) k x)) :=
  R0_st h (fun i hi => by rw [upd_e, upd_e, h a i hi])
/-- what the cells of an array may hold -/
def Dv : Nat → Int32 → Prop
  | 0 => fun v => ∃ k : Nat, k ≤ 6 ∧ v = nI k
  | 1 => fun v => ∃ k : Nat, k ≤ 255 ∧ v = nI k
  | 2 => fun v => ∃ k : Nat, k ≤ 16 ∧ v = nI k
  | 3 => fun v => v = -1 ∨ ∃ k : Nat, k < 16 ∧ v = nI k
  | 4 => fun v => v = -1 ∨ ∃ k : Nat, k < 8 ∧ v = nI k
  | 5 => fun v => v = -1 ∨ ∃ k : Nat, k < 16 ∧ v = nI k
  | 7 => fun v => v = -1 ∨ ∃ k : Nat, k < 8 ∧ v = nI k
  | 8 => fun v => v = -1 ∨ ∃ k : Nat, k < 10 ∧ v = nI k
  | 9 => fun v => v = 0 ∨ v = 1
  | 14 => fun v => v = 0 ∨ v = 1 ∨ v = 2
  | 15 => fun v => ∃ k : Nat, k ≤ 16 ∧ v = nI k
  | 17 => fun v => ∃ k : Nat, k ≤ 255 ∧ v = nI k
  | 20 => fun v => v = 0 ∨ v = 1
  | 21 => fun v => v = 0 ∨ v = 1
  | 23 => fun v => ∃ k : Nat, k ≤ 100 ∧ v = nI k
  | _ => fun _ => True
def ln : Nat → Nat
  | 0 => 128
  | 1 => 128
  | 4 => 10
  | 5 => 10
  | 7 => 16
  | 8 => 16
  | 9 => 16
  | 23 => 1
  | _ => 8
def Dm (M : Mm) : Prop := ∀ j i, i < ln j → Dv j (M j i)
theorem Dm_st {a : Nat} {M : Mm} {f : Nat → Int32} (h : Dm M) (hf : ∀ i, i < ln a → Dv a (f i)) : Dm (stM M a f) := by
  intro j i hi
  by_cases e : j = a
  · subst e; rw [stM_s]; exact hf i hi
  · rw [stM_n _ _ e]; exact h j i hi
theorem Dm_u {a k : Nat} {M : Mm} {x : Int32} (h : Dm M) (hx : Dv a x) : Dm (stM M a (upd (M a) k x)) :=
  Dm_st h (fun i hi => by
    rw [upd_e]
    by_cases e : i = k
    · rw [if_pos e]; exact hx
    · rw [if_neg e]; exact h a i hi)
theorem Dm_t {a : Nat} {M : Mm} {f : Nat → Int32} (h : Dm M) (ha : ∀ v, Dv a v) : Dm (stM M a f) := Dm_st h (fun i _ => ha _)
/-- what else holds of the class's memory: its act is not behind the end, its finish ahead of it, an ended one has no locks, a resting one rests at an act of that kind, calls to come are had by none -/
def E1 (M : Mm) : Prop := ∀ t, t < 8 → M 15 t ≤ M 2 t
def E2 (M : Mm) : Prop := ∀ t, t < 8 → M 3 t = -1 ∨ M 3 t < M 2 t
def E3 (M : Mm) : Prop := ∀ t, t < 8 → M 14 t = 1 → ∀ u, u < 10 → ¬ M 4 u = nI t
def E4 (M : Mm) : Prop := ∀ t, t < 8 → M 14 t = 0 → ¬ M 17 t = 0 → M 15 t < M 2 t ∧ ∀ k : Nat, k < 16 → M 15 t = nI k → M 0 (16 * t + k) = 5 ∧ ¬ M 1 (16 * t + k) = 0
def E5 (M : Mm) : Prop := ∀ t, t < 8 → M 14 t = 0 → ¬ M 20 t = 0 → ¬ M 17 t = 0
def E6 (c : Nat) (M : Mm) : Prop := ∀ i, c ≤ i → i < 16 → M 7 i = -1 ∧ M 8 i = -1
def Fi (M N : Mm) : Prop := ∀ t, t < 8 → (M 3 t = -1 ∧ N 3 t = 16) ∨ (M 3 t = N 3 t ∧ ¬ M 3 t = -1)
def Rs (M N : Mm) : Prop := (∀ t, t < 8 → M 14 t = 0 → M 17 t = N 17 t ∧ M 20 t = N 20 t ∧ ((N 27 t = 0 ∧ M 17 t = 0) ∨ (N 27 t = 1 ∧ ¬ M 17 t = 0))) ∧ N 26 0 = 0
def RR (c : Nat) (M N : Mm) : Prop := nC M c ∧ R0 c M N ∧ Dm M ∧ E1 M ∧ E2 M ∧ E3 M ∧ E4 M ∧ E5 M ∧ E6 c M ∧ Fi M N ∧ Rs M N
/-- a step of each: it answers r and leaves M' -/
def ansI (wp : (Int32 → Mm → Prop) → Prop) (r : Int32) (M : Mm) : Prop := ∀ post : Int32 → Mm → Prop, post r M → wp post
def ansV (wp : (Mm → Prop) → Prop) (M : Mm) : Prop := ∀ post : Mm → Prop, post M → wp post
section Acc
variable {c : Nat} {M N : Mm}
theorem RR.same {j i : Nat} (h : RR c M N) (hc : cmp c j i) : M j i = N j i := h.2.1 j i hc
theorem RR.d {j i : Nat} (h : RR c M N) (hi : i < ln j) : Dv j (M j i) := h.2.2.1 j i hi
theorem c2 {t : Nat} (ht : t < 8) : cmp c 2 t := Or.inr (Or.inr (Or.inl ⟨rfl, ht⟩))
theorem c4 {t : Nat} (ht : t < 10) : cmp c 4 t := Or.inr (Or.inr (Or.inr (Or.inl ⟨rfl, ht⟩)))
theorem c5 {t : Nat} (ht : t < 10) : cmp c 5 t := Or.inr (Or.inr (Or.inr (Or.inr (Or.inl ⟨rfl, ht⟩))))
theorem c6 {t : Nat} (ht : t < c) : cmp c 6 t := Or.inr (Or.inr (Or.inr (Or.inr (Or.inr (Or.inl ⟨by decide, by decide, ht⟩)))))
theorem c7 {t : Nat} (ht : t < c) : cmp c 7 t := Or.inr (Or.inr (Or.inr (Or.inr (Or.inr (Or.inl ⟨by decide, by decide, ht⟩)))))
theorem c8 {t : Nat} (ht : t < c) : cmp c 8 t := Or.inr (Or.inr (Or.inr (Or.inr (Or.inr (Or.inl ⟨by decide, by decide, ht⟩)))))
theorem c9 {t : Nat} (ht : t < c) : cmp c 9 t := Or.inr (Or.inr (Or.inr (Or.inr (Or.inr (Or.inl ⟨by decide, by decide, ht⟩)))))
theorem c14 {t : Nat} (ht : t < 8) : cmp c 14 t := Or.inr (Or.inr (Or.inr (Or.inr (Or.inr (Or.inr (Or.inr (Or.inl ⟨rfl, ht⟩)))))))
theorem c15 {t : Nat} (ht : t < 8) : cmp c 15 t := Or.inr (Or.inr (Or.inr (Or.inr (Or.inr (Or.inr (Or.inr (Or.inr (Or.inl ⟨rfl, ht⟩))))))))
theorem c16 {t : Nat} (ht : t < 8) : cmp c 16 t := Or.inr (Or.inr (Or.inr (Or.inr (Or.inr (Or.inr (Or.inr (Or.inr (Or.inr (Or.inl ⟨rfl, ht⟩)))))))))
theorem c18 {t : Nat} (ht : t < 8) : cmp c 18 t := Or.inr (Or.inr (Or.inr (Or.inr (Or.inr (Or.inr (Or.inr (Or.inr (Or.inr (Or.inr (Or.inl ⟨rfl, ht⟩))))))))))
theorem c19 {t : Nat} (ht : t < 8) : cmp c 19 t := Or.inr (Or.inr (Or.inr (Or.inr (Or.inr (Or.inr (Or.inr (Or.inr (Or.inr (Or.inr (Or.inr (Or.inl ⟨rfl, ht⟩)))))))))))
theorem c21 {t : Nat} (ht : t < 8) : cmp c 21 t := Or.inr (Or.inr (Or.inr (Or.inr (Or.inr (Or.inr (Or.inr (Or.inr (Or.inr (Or.inr (Or.inr (Or.inr (Or.inl ⟨rfl, ht⟩))))))))))))
theorem c22 : cmp c 22 0 := Or.inr (Or.inr (Or.inr (Or.inr (Or.inr (Or.inr (Or.inr (Or.inr (Or.inr (Or.inr (Or.inr (Or.inr (Or.inr (⟨by decide, by decide, rfl⟩)))))))))))))
theorem c23 : cmp c 23 0 := Or.inr (Or.inr (Or.inr (Or.inr (Or.inr (Or.inr (Or.inr (Or.inr (Or.inr (Or.inr (Or.inr (Or.inr (Or.inr (⟨by decide, by decide, rfl⟩)))))))))))))
theorem c24 : cmp c 24 0 := Or.inr (Or.inr (Or.inr (Or.inr (Or.inr (Or.inr (Or.inr (Or.inr (Or.inr (Or.inr (Or.inr (Or.inr (Or.inr (⟨by decide, by decide, rfl⟩)))))))))))))
theorem c25 : cmp c 25 0 := Or.inr (Or.inr (Or.inr (Or.inr (Or.inr (Or.inr (Or.inr (Or.inr (Or.inr (Or.inr (Or.inr (Or.inr (Or.inr (⟨by decide, by decide, rfl⟩)))))))))))))
theorem c0 {i : Nat} (h : i < 128) : cmp c 0 i := Or.inl ⟨rfl, h⟩
theorem c1 {i : Nat} (h : i < 128) : cmp c 1 i := Or.inr (Or.inl ⟨rfl, h⟩)
theorem RR.nN (h : RR c M N) : nC N c := ⟨(h.same c22).symm.trans h.1.1, h.1.2⟩
end Acc
