/-! the grid: single moves, turns of three, both codes (draft, not yet compiled) -/
def ag_dir (a b : Nat) : Nat := if b + 4 = a then 0 else if b = a + 4 then 2 else if a / 4 ≠ b / 4 then 4 else if b = a + 1 then 1 else if b + 1 = a then 3 else 4
def ag_mv (w : Nat → Bool) (o : Nat → Nat) (a b : Nat) : Bool := decide (a < 12) && (decide (b < 12) && (!w a && (!w b && (decide (ag_dir a b < 4) && (o a).testBit (ag_dir a b)))))
def ag_go (w : Nat → Bool) (o : Nat → Nat) (a b : Nat) : Bool := decide (a = b) || ag_mv w o a b
def ag_gr (go : Nat → Nat → Bool) (a b : Nat) : Bool := go b a
def ag_par (c : Nat) : Nat := (c / 4 + c % 4) % 2
theorem ag_dir_sym : ∀ a, a < 12 → ∀ b, b < 12 → ag_dir a b < 4 → ag_dir b a < 4 := by decide +kernel
theorem ag_dir_par : ∀ a, a < 12 → ∀ b, b < 12 → ag_dir a b < 4 → ag_par a + ag_par b = 1 := by decide +kernel
theorem ag_dir_inj : ∀ a, a < 12 → ∀ b, b < 12 → ∀ b', b' < 12 → ag_dir a b < 4 → ag_dir a b = ag_dir a b' → b = b' := by decide +kernel
def ag_Gd (w : Nat → Bool) (go : Nat → Nat → Bool) : Prop := (∀ a, go a a = true) ∧ ∀ a b, go a b = true → a ≠ b → a < 12 ∧ b < 12 ∧ w a = false ∧ w b = false ∧ ag_dir a b < 4
theorem ag_mv_iff {w : Nat → Bool} {o : Nat → Nat} {a b : Nat} : ag_mv w o a b = true ↔ a < 12 ∧ b < 12 ∧ w a = false ∧ w b = false ∧ ag_dir a b < 4 ∧ (o a).testBit (ag_dir a b) = true := by
  simp [ag_mv]
theorem ag_Gd_go (w : Nat → Bool) (o : Nat → Nat) : ag_Gd w (ag_go w o) := by
  refine ⟨fun a => by simp [ag_go], fun a b h n => ?_⟩
  have h1 : ag_mv w o a b = true := by simpa [ag_go, n] using h
  obtain ⟨h1, h2, h3, h4, h5, _⟩ := ag_mv_iff.mp h1
  exact ⟨h1, h2, h3, h4, h5⟩
theorem ag_Gd_gr {w : Nat → Bool} {go : Nat → Nat → Bool} (h : ag_Gd w go) : ag_Gd w (ag_gr go) := by
  refine ⟨h.1, fun a b h1 n => ?_⟩
  obtain ⟨h2, h3, h4, h5, h6⟩ := h.2 b a h1 (fun e => n e.symm)
  exact ⟨h3, h2, h5, h4, ag_dir_sym b h2 a h3 h6⟩
def ag_st (a b : Nat) : Nat := if a = b then 0 else 1
theorem ag_st_le (a b : Nat) : ag_st a b ≤ 1 := by unfold ag_st; split <;> omega
theorem ag_st0 {a b : Nat} (h : ag_st a b = 0) : a = b := by
  unfold ag_st at h
  by_cases e : a = b
  · exact e
  · rw [if_neg e] at h; omega
theorem ag_stR (a : Nat) : ag_st a a = 0 := if_pos rfl
theorem ag_stN {a b : Nat} (h : a ≠ b) : ag_st a b = 1 := if_neg h
abbrev ag_cl (a a' b b' : Nat) : Prop := a' = b' ∨ (a' = b ∧ b' = a)
def ag_E (go : Nat → Nat → Bool) (f : Bool) (q q' : Nat × Nat × Nat) (p : Nat) : Prop :=
  go q.1 q'.1 = true ∧ go q.2.1 q'.2.1 = true ∧ go q.2.2 q'.2.2 = true ∧ ¬ ag_cl q.1 q'.1 q.2.1 q'.2.1 ∧ ¬ ag_cl q.1 q'.1 q.2.2 q'.2.2 ∧ ¬ ag_cl q.2.1 q'.2.1 q.2.2 q'.2.2 ∧ p = (if f = true then ag_st q.1 q'.1 + ag_st q.2.1 q'.2.1 + ag_st q.2.2 q'.2.2 else 1)
def ag_sp (w : Nat → Bool) (m : Bool) (i a : Nat) : Prop := (m = true → a < 12 ∧ w a = false) ∧ (m = false → a = 12 + i)
def ag_V (w : Nat → Bool) (T : Nat) (q : Nat × Nat × Nat) : Prop :=
  ag_sp w (T.testBit 0) 0 q.1 ∧ ag_sp w (T.testBit 1) 1 q.2.1 ∧ ag_sp w (T.testBit 2) 2 q.2.2 ∧ q.1 ≠ q.2.1 ∧ q.1 ≠ q.2.2 ∧ q.2.1 ≠ q.2.2
theorem ag_sp_go {w : Nat → Bool} {go : Nat → Nat → Bool} (hg : ag_Gd w go) {m : Bool} {i a b : Nat} (h : ag_sp w m i a) (e : go a b = true) : ag_sp w m i b := by
  by_cases n : a = b
  · subst n; exact h
  · obtain ⟨h1, h2, h3, h4, _⟩ := hg.2 a b e n
    refine ⟨fun _ => ⟨h2, h4⟩, fun hm => ?_⟩
    have := h.2 hm
    omega
theorem ag_V_E {w : Nat → Bool} {go : Nat → Nat → Bool} (hg : ag_Gd w go) {f : Bool} {T : Nat} {q q' : Nat × Nat × Nat} {p : Nat} (h : ag_V w T q) (e : ag_E go f q q' p) : ag_V w T q' := by
  obtain ⟨v1, v2, v3, _, _, _⟩ := h
  obtain ⟨e1, e2, e3, c1, c2, c3, _⟩ := e
  exact ⟨ag_sp_go hg v1 e1, ag_sp_go hg v2 e2, ag_sp_go hg v3 e3, fun z => c1 (Or.inl z), fun z => c2 (Or.inl z), fun z => c3 (Or.inl z)⟩
theorem ag_E_z {go : Nat → Nat → Bool} {f : Bool} {q q' : Nat × Nat × Nat} (e : ag_E go f q q' 0) : q' = q := by
  obtain ⟨_, _, _, _, _, _, h⟩ := e
  obtain ⟨a, b, c⟩ := q
  obtain ⟨a', b', c'⟩ := q'
  cases f
  · exact absurd h (by simp)
  · simp only [if_true] at h
    rw [ag_st0 (a := a) (b := a') (by omega), ag_st0 (a := b) (b := b') (by omega), ag_st0 (a := c) (b := c') (by omega)]
/-- of the walkers that step there is one whose cell nobody enters: it may go last -/
theorem ag_last {w : Nat → Bool} {go : Nat → Nat → Bool} (hg : ag_Gd w go) {a b c a' b' c' : Nat} (n1 : a ≠ b) (n2 : a ≠ c) (n3 : b ≠ c) (e1 : go a a' = true) (e2 : go b b' = true) (e3 : go c c' = true) (c1 : ¬ ag_cl a a' b b') (c2 : ¬ ag_cl a a' c c') (c3 : ¬ ag_cl b b' c c') (m : a ≠ a' ∨ b ≠ b' ∨ c ≠ c') : (a ≠ a' ∧ b' ≠ a ∧ c' ≠ a) ∨ (b ≠ b' ∧ a' ≠ b ∧ c' ≠ b) ∨ (c ≠ c' ∧ a' ≠ c ∧ b' ≠ c) := by
  have pa : a ≠ a' → ag_par a + ag_par a' = 1 := fun n => by
    obtain ⟨h1, h2, _, _, h3⟩ := hg.2 a a' e1 n
    exact ag_dir_par a h1 a' h2 h3
  have pb : b ≠ b' → ag_par b + ag_par b' = 1 := fun n => by
    obtain ⟨h1, h2, _, _, h3⟩ := hg.2 b b' e2 n
    exact ag_dir_par b h1 b' h2 h3
  have pc : c ≠ c' → ag_par c + ag_par c' = 1 := fun n => by
    obtain ⟨h1, h2, _, _, h3⟩ := hg.2 c c' e3 n
    exact ag_dir_par c h1 c' h2 h3
  unfold ag_cl at c1 c2 c3
  -- the rings of three: a to b, b to c, c to a; and the other way round
  have r1 : ¬ (a' = b ∧ b' = c ∧ c' = a) := by
    rintro ⟨rfl, rfl, rfl⟩
    have h1 := pa (by omega)
    have h2 := pb (by omega)
    have h3 := pc (by omega)
    omega
  have r2 : ¬ (a' = c ∧ c' = b ∧ b' = a) := by
    rintro ⟨rfl, rfl, rfl⟩
    have h1 := pa (by omega)
    have h2 := pb (by omega)
    have h3 := pc (by omega)
    omega
  clear pa pb pc hg e1 e2 e3
  grind
theorem ag_E_c {w : Nat → Bool} {go : Nat → Nat → Bool} (hg : ag_Gd w go) {f : Bool} {T : Nat} {q q' : Nat × Nat × Nat} {p : Nat} (h : ag_V w T q) (e : ag_E go f q q' (p + 2)) : ∃ r, ag_E go f q r (p + 1) ∧ ag_E go f r q' 1 := by
  obtain ⟨_, _, _, n1, n2, n3⟩ := h
  obtain ⟨e1, e2, e3, c1, c2, c3, hp⟩ := e
  obtain ⟨a, b, c⟩ := q
  obtain ⟨a', b', c'⟩ := q'
  dsimp only at n1 n2 n3 e1 e2 e3 c1 c2 c3 hp
  cases f
  · exact absurd hp (by simp)
  · simp only [if_true] at hp
    have m : a ≠ a' ∨ b ≠ b' ∨ c ≠ c' := by
      by_cases x : a = a'
      · by_cases y : b = b'
        · by_cases z : c = c'
          · subst x; subst y; subst z
            rw [ag_stR, ag_stR, ag_stR] at hp
            omega
          · exact Or.inr (Or.inr z)
        · exact Or.inr (Or.inl y)
      · exact Or.inl x
    have l := ag_last hg n1 n2 n3 e1 e2 e3 c1 c2 c3 m
    clear m
    unfold ag_cl at c1 c2 c3
    rcases l with ⟨l1, l2, l3⟩ | ⟨l1, l2, l3⟩ | ⟨l1, l2, l3⟩
    · refine ⟨(a, b', c'), ⟨hg.1 a, e2, e3, ?_, ?_, ?_, ?_⟩, ⟨e1, hg.1 b', hg.1 c', ?_, ?_, ?_, ?_⟩⟩ <;> simp only [ag_cl, if_true, ag_stR, ag_stN l1] at hp ⊢ <;> clear e1 e2 e3 hg <;> first | (clear c1 c2 c3 l1 l2 l3 n1 n2 n3; omega) | (clear hp; grind)
    · refine ⟨(a', b, c'), ⟨e1, hg.1 b, e3, ?_, ?_, ?_, ?_⟩, ⟨hg.1 a', e2, hg.1 c', ?_, ?_, ?_, ?_⟩⟩ <;> simp only [ag_cl, if_true, ag_stR, ag_stN l1] at hp ⊢ <;> clear e1 e2 e3 hg <;> first | (clear c1 c2 c3 l1 l2 l3 n1 n2 n3; omega) | (clear hp; grind)
    · refine ⟨(a', b', c), ⟨e1, e2, hg.1 c, ?_, ?_, ?_, ?_⟩, ⟨hg.1 a', hg.1 b', e3, ?_, ?_, ?_, ?_⟩⟩ <;> simp only [ag_cl, if_true, ag_stR, ag_stN l1] at hp ⊢ <;> clear e1 e2 e3 hg <;> first | (clear c1 c2 c3 l1 l2 l3 n1 n2 n3; omega) | (clear hp; grind)
/-- a code below 1728 for the states of one team -/
def ag_z (q : Nat × Nat × Nat) : Nat := 144 * (q.1 % 12) + 12 * (q.2.1 % 12) + q.2.2 % 12
theorem ag_z_lt (q : Nat × Nat × Nat) : ag_z q < 1728 := by unfold ag_z; omega
theorem ag_sp_m {w : Nat → Bool} {m : Bool} {i a a' : Nat} (h : ag_sp w m i a) (h' : ag_sp w m i a') (e : a % 12 = a' % 12) : a = a' := by
  cases m
  · rw [h.2 rfl, h'.2 rfl]
  · have := (h.1 rfl).1
    have := (h'.1 rfl).1
    omega
theorem ag_z_inj {w : Nat → Bool} {T : Nat} {q q' : Nat × Nat × Nat} (h : ag_V w T q) (h' : ag_V w T q') (e : ag_z q = ag_z q') : q = q' := by
  obtain ⟨a, b, c⟩ := q
  obtain ⟨a', b', c'⟩ := q'
  unfold ag_z at e
  dsimp only at e
  obtain ⟨h1, h2, h3, _⟩ := h
  obtain ⟨k1, k2, k3, _⟩ := h'
  have e1 : a = a' := ag_sp_m h1 k1 (by omega)
  have e2 : b = b' := ag_sp_m h2 k2 (by omega)
  have e3 : c = c' := ag_sp_m h3 k3 (by omega)
  rw [e1, e2, e3]
theorem ag_E_bd {w : Nat → Bool} {go : Nat → Nat → Bool} (hg : ag_Gd w go) {f : Bool} {T : Nat} {a : Nat × Nat × Nat} (ha : ag_V w T a) {t : Nat × Nat × Nat} {c : Nat} (h : ag_Ls (ag_E go f) a t c) : c < 1728 :=
  ag_bd (E := ag_E go f) (ag_V w T) ha (fun _ _ _ h e => ag_V_E hg h e) (fun _ _ e => ag_E_z e) (fun _ _ _ h e => ag_E_c hg h e) 1728 ag_z (fun q _ => ag_z_lt q) (fun _ _ h h' e => ag_z_inj h h' e) h
/-! X's code -/
def ag_ex (q : Nat × Nat × Nat) : Nat := (q.1 * 15 + q.2.1) * 15 + q.2.2
def ag_dx (s : Nat) : Nat × Nat × Nat := (s / 225, s / 15 % 15, s % 15)
theorem ag_ex_dx (s : Nat) : ag_ex (ag_dx s) = s := by unfold ag_ex ag_dx; dsimp only; omega
theorem ag_dx_ex {q : Nat × Nat × Nat} (h2 : q.2.1 < 15) (h3 : q.2.2 < 15) : ag_dx (ag_ex q) = q := by
  obtain ⟨a, b, c⟩ := q
  unfold ag_ex ag_dx
  dsimp only at h2 h3 ⊢
  rw [show ((a * 15 + b) * 15 + c) / 225 = a by omega, show ((a * 15 + b) * 15 + c) / 15 % 15 = b by omega, show ((a * 15 + b) * 15 + c) % 15 = c by omega]
theorem ag_sp15 {w : Nat → Bool} {m : Bool} {i a : Nat} (hi : i < 3) (h : ag_sp w m i a) : a < 15 := by
  cases m
  · rw [h.2 rfl]; omega
  · have := (h.1 rfl).1; omega
theorem ag_V15 {w : Nat → Bool} {T : Nat} {q : Nat × Nat × Nat} (h : ag_V w T q) : q.1 < 15 ∧ q.2.1 < 15 ∧ q.2.2 < 15 :=
  ⟨ag_sp15 (by omega) h.1, ag_sp15 (by omega) h.2.1, ag_sp15 (by omega) h.2.2.1⟩
theorem ag_exV {w : Nat → Bool} {T : Nat} {q : Nat × Nat × Nat} (h : ag_V w T q) : ag_ex q < 3375 ∧ ag_dx (ag_ex q) = q := by
  obtain ⟨h1, h2, h3⟩ := ag_V15 h
  refine ⟨?_, ag_dx_ex h2 h3⟩
  unfold ag_ex
  omega
def ag_GX (go : Nat → Nat → Bool) (f : Bool) (s t p : Nat) : Prop := t < 3375 ∧ ag_E go f (ag_dx s) (ag_dx t) p
theorem ag_simX {w : Nat → Bool} {go : Nat → Nat → Bool} (hg : ag_Gd w go) (f : Bool) (T : Nat) {a : Nat × Nat × Nat} (ha : ag_V w T a) (t c : Nat) : ag_Rc (ag_GX go f) (ag_ex a) t c ↔ ∃ q, t = ag_ex q ∧ ag_V w T q ∧ ag_Rc (ag_E go f) a q c := by
  refine ag_sim ag_ex (ag_E go f) (ag_GX go f) (ag_V w T) (fun _ _ _ h e => ag_V_E hg h e) (fun q q' p h e => ?_) (fun q t p h e => ?_) ha t c
  · have h' := ag_V_E hg h e
    unfold ag_GX
    rw [(ag_exV h).2, (ag_exV h').2]
    exact ⟨(ag_exV h').1, e⟩
  · unfold ag_GX at e
    rw [(ag_exV h).2] at e
    exact ⟨ag_dx t, (ag_ex_dx t).symm, e.2⟩
