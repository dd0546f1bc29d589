/-! no more than 125 turns from a state; a part of a graph; sets as bits; as many states on both sides (draft, not yet compiled) -/
def ag_gb (go : Nat → Nat → Bool) (q q' : Nat × Nat × Nat) : Bool :=
  go q.1 q'.1 && (go q.2.1 q'.2.1 && (go q.2.2 q'.2.2 && (!decide (ag_cl q.1 q'.1 q.2.1 q'.2.1) && (!decide (ag_cl q.1 q'.1 q.2.2 q'.2.2) && !decide (ag_cl q.2.1 q'.2.1 q.2.2 q'.2.2)))))
def ag_wt (f : Bool) (q q' : Nat × Nat × Nat) : Nat := if f = true then ag_st q.1 q'.1 + ag_st q.2.1 q'.2.1 + ag_st q.2.2 q'.2.2 else 1
theorem ag_gb_E {go : Nat → Nat → Bool} {f : Bool} {q q' : Nat × Nat × Nat} {p : Nat} : ag_E go f q q' p ↔ ag_gb go q q' = true ∧ p = ag_wt f q q' := by
  unfold ag_E ag_gb ag_wt
  simp only [Bool.and_eq_true, Bool.not_eq_true', decide_eq_false_iff_not]
  constructor
  · rintro ⟨a, b, c, d, e, g, h⟩; exact ⟨⟨a, b, c, d, e, g⟩, h⟩
  · rintro ⟨⟨a, b, c, d, e, g⟩, h⟩; exact ⟨a, b, c, d, e, g, h⟩
def ag_ix (a x : Nat) : Nat := if a = x then 4 else ag_dir a x
theorem ag_ix5 {w : Nat → Bool} {go : Nat → Nat → Bool} (hg : ag_Gd w go) {a x : Nat} (h : go a x = true) : ag_ix a x < 5 := by
  unfold ag_ix
  by_cases e : a = x
  · rw [if_pos e]; omega
  · rw [if_neg e]
    have := (hg.2 a x h e).2.2.2.2
    omega
theorem ag_ixI {w : Nat → Bool} {go : Nat → Nat → Bool} (hg : ag_Gd w go) {a x y : Nat} (h : go a x = true) (k : go a y = true) (e : ag_ix a x = ag_ix a y) : x = y := by
  unfold ag_ix at e
  by_cases e1 : a = x
  · rw [if_pos e1] at e
    by_cases e2 : a = y
    · omega
    · rw [if_neg e2] at e
      have := (hg.2 a y k e2).2.2.2.2
      omega
  · rw [if_neg e1] at e
    obtain ⟨h1, h2, _, _, h3⟩ := hg.2 a x h e1
    by_cases e2 : a = y
    · rw [if_pos e2] at e; omega
    · rw [if_neg e2] at e
      obtain ⟨_, k2, _, _, _⟩ := hg.2 a y k e2
      exact ag_dir_inj a h1 x h2 y k2 h3 e
theorem ag_c125 {w : Nat → Bool} {go : Nat → Nat → Bool} (hg : ag_Gd w go) (q : Nat × Nat × Nat) : ag_cn (fun t => ag_gb go q (ag_dx t)) 3375 ≤ 125 := by
  have e : ∀ t, ag_gb go q (ag_dx t) = true → go q.1 (t / 225) = true ∧ go q.2.1 (t / 15 % 15) = true ∧ go q.2.2 (t % 15) = true := by
    intro t h
    unfold ag_gb ag_dx at h
    simp only [Bool.and_eq_true] at h
    exact ⟨h.1, h.2.1, h.2.2.1⟩
  have := ag_cn_inj (fun t => ag_gb go q (ag_dx t)) 125 (fun t => 25 * ag_ix q.1 (t / 225) + 5 * ag_ix q.2.1 (t / 15 % 15) + ag_ix q.2.2 (t % 15)) 3375 (fun _ => true) (fun t _ h => by
    obtain ⟨h1, h2, h3⟩ := e t h
    have k1 := ag_ix5 hg h1
    have k2 := ag_ix5 hg h2
    have k3 := ag_ix5 hg h3
    exact ⟨by omega, rfl⟩) (fun t t' _ _ h h' ee => by
    obtain ⟨h1, h2, h3⟩ := e t h
    obtain ⟨i1, i2, i3⟩ := e t' h'
    have k1 := ag_ix5 hg h1
    have k2 := ag_ix5 hg h2
    have k3 := ag_ix5 hg h3
    have l1 := ag_ix5 hg i1
    have l2 := ag_ix5 hg i2
    have l3 := ag_ix5 hg i3
    have m1 := ag_ixI hg h1 i1 (by omega)
    have m2 := ag_ixI hg h2 i2 (by omega)
    have m3 := ag_ixI hg h3 i3 (by omega)
    omega)
  rw [ag_cn_all] at this
  exact this
theorem ag_RcM {α : Type} {E E' : α → α → Nat → Prop} (hE : ∀ s t p, E s t p → E' s t p) {a t : α} {c : Nat} (h : ag_Rc E a t c) : ag_Rc E' a t c :=
  ag_RcI (fun t c => ag_Rc E' a t c) (ag_Rc0 E' a) (fun s t _ p _ h1 h2 => ag_RcS h1 (hE s t p h2)) h
theorem ag_go_mono {w w' : Nat → Bool} {o : Nat → Nat} (h : ∀ c, w' c = false → w c = false) {a b : Nat} (e : ag_go w' o a b = true) : ag_go w o a b = true := by
  by_cases n : a = b
  · simp [ag_go, n]
  · have h1 : ag_mv w' o a b = true := by simpa [ag_go, n] using e
    obtain ⟨h1, h2, h3, h4, h5, h6⟩ := ag_mv_iff.mp h1
    have : ag_mv w o a b = true := ag_mv_iff.mpr ⟨h1, h2, h a h3, h b h4, h5, h6⟩
    unfold ag_go
    rw [this, Bool.or_true]
theorem ag_E_mono {w w' : Nat → Bool} {o : Nat → Nat} (h : ∀ c, w' c = false → w c = false) {f : Bool} {q q' : Nat × Nat × Nat} {p : Nat} (e : ag_E (ag_go w' o) f q q' p) : ag_E (ag_go w o) f q q' p := by
  obtain ⟨e1, e2, e3, r⟩ := e
  exact ⟨ag_go_mono h e1, ag_go_mono h e2, ag_go_mono h e3, r⟩
/-- bits of three numbers: equal if the sets are -/
theorem ag_bit3 (a b c a' b' c' : Nat) : 2 ^ a ||| 2 ^ b ||| 2 ^ c = 2 ^ a' ||| 2 ^ b' ||| 2 ^ c' ↔ ∀ x, (x = a ∨ x = b ∨ x = c) ↔ (x = a' ∨ x = b' ∨ x = c') := by
  have k : ∀ x, (2 ^ a ||| 2 ^ b ||| 2 ^ c).testBit x = true ↔ (x = a ∨ x = b ∨ x = c) := fun x => by
    simp only [Nat.testBit_or, Nat.testBit_two_pow, Bool.or_eq_true, decide_eq_true_eq]
    omega
  have k' : ∀ x, (2 ^ a' ||| 2 ^ b' ||| 2 ^ c').testBit x = true ↔ (x = a' ∨ x = b' ∨ x = c') := fun x => by
    simp only [Nat.testBit_or, Nat.testBit_two_pow, Bool.or_eq_true, decide_eq_true_eq]
    omega
  constructor
  · intro h x
    rw [← k x, ← k' x, h]
  · intro h
    refine Nat.eq_of_testBit_eq (fun x => ?_)
    rw [Bool.eq_iff_iff, k x, k' x]
    exact h x
