/-! counting below a bound, ranks, injections (draft, not yet compiled) -/
def ag_cn (P : Nat → Bool) : Nat → Nat
  | 0 => 0
  | n + 1 => ag_cn P n + (if P n = true then 1 else 0)
theorem ag_cn_s (P : Nat → Bool) (n : Nat) : ag_cn P (n + 1) = ag_cn P n + (if P n = true then 1 else 0) := rfl
theorem ag_cn_t {P : Nat → Bool} {n : Nat} (h : P n = true) : ag_cn P (n + 1) = ag_cn P n + 1 := by rw [ag_cn_s, if_pos h]
theorem ag_cn_f {P : Nat → Bool} {n : Nat} (h : ¬ P n = true) : ag_cn P (n + 1) = ag_cn P n := by rw [ag_cn_s, if_neg h]; rfl
theorem ag_cn_le (P : Nat → Bool) {a b : Nat} (h : a ≤ b) : ag_cn P a ≤ ag_cn P b := by
  induction h with
  | refl => exact Nat.le_refl _
  | step _ ih => exact Nat.le_trans ih (Nat.le_add_right _ _)
theorem ag_cn_lt (P : Nat → Bool) {a b : Nat} (h : a < b) (hp : P a = true) : ag_cn P a < ag_cn P b := by
  have h1 := ag_cn_le P (show a + 1 ≤ b from h)
  rw [ag_cn_t hp] at h1
  omega
theorem ag_cn_inj1 (P : Nat → Bool) {a b : Nat} (ha : P a = true) (hb : P b = true) (h : ag_cn P a = ag_cn P b) : a = b := by
  rcases Nat.lt_trichotomy a b with h1 | h1 | h1
  · have := ag_cn_lt P h1 ha; omega
  · exact h1
  · have := ag_cn_lt P h1 hb; omega
theorem ag_cn_sur (P : Nat → Bool) : ∀ n i : Nat, i < ag_cn P n → ∃ t, t < n ∧ P t = true ∧ ag_cn P t = i := by
  intro n
  induction n with
  | zero => intro i h; exact absurd h (Nat.not_lt_zero _)
  | succ n ih =>
    intro i h
    by_cases hp : P n = true
    · by_cases hi : i < ag_cn P n
      · obtain ⟨t, h1, h2, h3⟩ := ih i hi
        exact ⟨t, by omega, h2, h3⟩
      · rw [ag_cn_t hp] at h
        exact ⟨n, by omega, hp, by omega⟩
    · rw [ag_cn_f hp] at h
      obtain ⟨t, h1, h2, h3⟩ := ih i h
      exact ⟨t, by omega, h2, h3⟩
theorem ag_cn_ext {P Q : Nat → Bool} : ∀ n : Nat, (∀ i, i < n → P i = Q i) → ag_cn P n = ag_cn Q n := by
  intro n
  induction n with
  | zero => intro _; rfl
  | succ n ih =>
    intro h
    rw [ag_cn_s, ag_cn_s, ih (fun i hi => h i (by omega)), h n (by omega)]
theorem ag_cn_rm (Q : Nat → Bool) (j : Nat) (hj : Q j = true) : ∀ M : Nat, j < M → ag_cn (fun i => Q i && !(i == j)) M + 1 = ag_cn Q M := by
  intro M
  induction M with
  | zero => intro h; exact absurd h (Nat.not_lt_zero _)
  | succ M ih =>
    intro h
    by_cases e : j = M
    · subst e
      have e1 : ag_cn (fun i => Q i && !(i == j)) j = ag_cn Q j := ag_cn_ext j (fun i hi => by
        have : (i == j) = false := by simp; omega
        simp [this])
      rw [ag_cn_t hj, ag_cn_f (by simp), e1]
    · have hM : (Q M && !(M == j)) = Q M := by
        have : (M == j) = false := by simp; omega
        simp [this]
      rw [ag_cn_s, ag_cn_s, hM]
      have := ih (by omega)
      omega
theorem ag_cn_inj (P : Nat → Bool) (M : Nat) (f : Nat → Nat) : ∀ (N : Nat) (Q : Nat → Bool), (∀ i, i < N → P i = true → f i < M ∧ Q (f i) = true) → (∀ i i', i < N → i' < N → P i = true → P i' = true → f i = f i' → i = i') → ag_cn P N ≤ ag_cn Q M := by
  intro N
  induction N with
  | zero => intro _ _ _; exact Nat.zero_le _
  | succ N ih =>
    intro Q h hi
    by_cases hp : P N = true
    · obtain ⟨h1, h2⟩ := h N (by omega) hp
      have e := ag_cn_rm Q (f N) h2 M h1
      have := ih (fun i => Q i && !(i == f N)) (fun i hN hP => by
        refine ⟨(h i (by omega) hP).1, ?_⟩
        have h3 := (h i (by omega) hP).2
        have h4 : ¬ f i = f N := fun z => by
          have := hi i N (by omega) (by omega) hP hp z
          omega
        simp [h3, h4]) (fun i i' a b => hi i i' (by omega) (by omega))
      rw [ag_cn_t hp]
      omega
    · rw [ag_cn_f hp]
      exact ih Q (fun i a => h i (by omega)) (fun i i' a b => hi i i' (by omega) (by omega))
theorem ag_cn_all (n : Nat) : ag_cn (fun _ => true) n = n := by
  induction n with
  | zero => rfl
  | succ n ih => rw [ag_cn_t rfl, ih]
