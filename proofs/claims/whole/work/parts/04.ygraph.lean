/-! the reference's graph: turns by number, codes by team (draft, not yet compiled) -/
def ag_bs (c d : Nat) : Nat := if d = 0 then (if c < 4 then 12 else c - 4) else if d = 1 then (if c % 4 = 3 then 12 else c + 1) else if d = 2 then (if c < 8 then c + 4 else 12) else if d = 3 then (if c % 4 = 0 then 12 else c - 1) else 12
theorem ag_bs_dir : ∀ c, c < 12 → ∀ d, d < 4 → ag_bs c d < 12 → ag_dir c (ag_bs c d) = d := by decide +kernel
theorem ag_dir_bs : ∀ c, c < 12 → ∀ b, b < 12 → ag_dir c b < 4 → ag_bs c (ag_dir c b) = b := by decide +kernel
theorem ag_bs_ne : ∀ c, c < 12 → ∀ d, d < 4 → ag_bs c d ≠ c := by decide +kernel
theorem ag_bs_le : ∀ c, c < 12 → ∀ d, d < 4 → ag_bs c d ≤ 12 := by decide +kernel
/-- where direction d (4: staying) leads from c; 12: nowhere -/
def ag_tg (w : Nat → Bool) (o : Nat → Nat) (c d : Nat) : Nat := if d = 4 then (if w c = true then 12 else c) else if ag_bs c d < 12 ∧ w c = false ∧ w (ag_bs c d) = false ∧ (o c).testBit d = true then ag_bs c d else 12
theorem ag_tg_le {w : Nat → Bool} {o : Nat → Nat} {c d : Nat} (hc : c < 12) : ag_tg w o c d ≤ 12 := by
  unfold ag_tg
  split
  · split <;> omega
  · split
    · omega
    · omega
theorem ag_tg4 {w : Nat → Bool} {o : Nat → Nat} {c : Nat} (h : w c = false) : ag_tg w o c 4 = c := by
  unfold ag_tg
  rw [if_pos rfl, if_neg (by rw [h]; decide)]
theorem ag_tg_st {w : Nat → Bool} {o : Nat → Nat} {c d : Nat} (hc : c < 12) (hd : d < 5) (h : ag_tg w o c d < 12) : (if d < 4 then 1 else 0) = ag_st c (ag_tg w o c d) := by
  unfold ag_tg at h ⊢
  by_cases e : d = 4
  · subst e
    rw [if_pos rfl] at h ⊢
    by_cases y : w c = true
    · rw [if_pos y] at h; omega
    · rw [if_neg y, ag_stR]; rfl
  · rw [if_neg e] at h ⊢
    by_cases y : ag_bs c d < 12 ∧ w c = false ∧ w (ag_bs c d) = false ∧ (o c).testBit d = true
    · rw [if_pos y, if_pos (show d < 4 by omega), ag_stN (fun z => ag_bs_ne c hc d (by omega) z.symm)]
    · rw [if_neg y] at h; omega
theorem ag_tg_go {w : Nat → Bool} {o : Nat → Nat} {c d : Nat} (hc : c < 12) (hd : d < 5) (h : ag_tg w o c d < 12) : ag_go w o c (ag_tg w o c d) = true := by
  unfold ag_tg at h ⊢
  by_cases e : d = 4
  · subst e
    rw [if_pos rfl] at h ⊢
    by_cases y : w c = true
    · rw [if_pos y] at h; omega
    · rw [if_neg y]; simp [ag_go]
  · rw [if_neg e] at h ⊢
    by_cases y : ag_bs c d < 12 ∧ w c = false ∧ w (ag_bs c d) = false ∧ (o c).testBit d = true
    · rw [if_pos y]
      have hd4 : d < 4 := by omega
      have k := ag_bs_dir c hc d hd4 y.1
      have : ag_mv w o c (ag_bs c d) = true := ag_mv_iff.mpr ⟨hc, y.1, y.2.1, y.2.2.1, by rw [k]; exact hd4, by rw [k]; exact y.2.2.2⟩
      unfold ag_go
      rw [this, Bool.or_true]
    · rw [if_neg y] at h; omega
theorem ag_go_tg {w : Nat → Bool} {o : Nat → Nat} {c b : Nat} (hc : c < 12) (hw : w c = false) (h : ag_go w o c b = true) : ∃ d, d < 5 ∧ ag_tg w o c d = b ∧ b < 12 := by
  by_cases e : c = b
  · subst e; exact ⟨4, by omega, ag_tg4 hw, hc⟩
  · have h1 : ag_mv w o c b = true := by simpa [ag_go, e] using h
    obtain ⟨_, h2, _, h4, h5, h6⟩ := ag_mv_iff.mp h1
    have k := ag_dir_bs c hc b h2 h5
    refine ⟨ag_dir c b, by omega, ?_, h2⟩
    unfold ag_tg
    rw [if_neg (by omega), if_pos ⟨by rw [k]; exact h2, hw, by rw [k]; exact h4, h6⟩, k]
/-- the state after a turn; 1728: it can't be done -/
def ag_af (w : Nat → Bool) (o : Nat → Nat) (n s t : Nat) : Nat :=
  let x := if 0 < n then ag_tg w o (s / 144) (t / 25) else 0
  let y := if 1 < n then ag_tg w o (s / 12 % 12) (t / 5 % 5) else 0
  let z := if 2 < n then ag_tg w o (s % 12) (t % 5) else 0
  if x = 12 ∨ y = 12 ∨ z = 12 ∨ (1 < n ∧ ag_cl (s / 144) x (s / 12 % 12) y) ∨ (2 < n ∧ (ag_cl (s / 144) x (s % 12) z ∨ ag_cl (s / 12 % 12) y (s % 12) z)) then 1728 else 144 * x + 12 * y + z
def ag_ef (n t : Nat) : Nat := (if t / 25 < 4 then 1 else 0) + (if 1 < n ∧ t / 5 % 5 < 4 then 1 else 0) + (if 2 < n ∧ t % 5 < 4 then 1 else 0)
def ag_GY (w : Nat → Bool) (o : Nat → Nat) (n : Nat) (f : Bool) (s t p : Nat) : Prop := t < 1728 ∧ ∃ k, k < 125 ∧ ag_af w o n s k = t ∧ p = (if f = true then ag_ef n k else 1)
def ag_ey (T : Nat) (q : Nat × Nat × Nat) : Nat :=
  if T = 1 then 144 * q.1 else if T = 2 then 144 * q.2.1 else if T = 3 then 144 * q.1 + 12 * q.2.1 else if T = 4 then 144 * q.2.2 else if T = 5 then 144 * q.1 + 12 * q.2.2 else if T = 6 then 144 * q.2.1 + 12 * q.2.2 else 144 * q.1 + 12 * q.2.1 + q.2.2
def ag_sz (T : Nat) : Nat := if T = 1 then 1 else if T = 2 then 1 else if T = 3 then 2 else if T = 4 then 1 else if T = 5 then 2 else if T = 6 then 2 else 3
theorem ag_GY1 {w : Nat → Bool} {o : Nat → Nat} {f : Bool} {a t p : Nat} (ha : a < 12) (wa : w a = false) : ag_GY w o 1 f (144 * a) t p ↔ ∃ a', t = 144 * a' ∧ ag_go w o a a' = true ∧ p = (if f = true then ag_st a a' else 1) := by
  have s1 : 144 * a / 144 = a := by omega
  constructor
  · rintro ⟨ht, k, hk, e, ep⟩
    unfold ag_af at e
    simp only [s1, show (0 : Nat) < 1 from by omega, show ¬ (1 : Nat) < 1 from by omega, show ¬ (2 : Nat) < 1 from by omega, if_true, if_false, false_and, or_false] at e
    have hd : k / 25 < 5 := by omega
    generalize hx : ag_tg w o a (k / 25) = x at e
    have hle : x ≤ 12 := by rw [← hx]; exact ag_tg_le ha
    have hlt : x < 12 := by
      by_cases y : x = 12
      · rw [if_pos (Or.inl y)] at e; omega
      · omega
    rw [if_neg (by omega)] at e
    refine ⟨x, by omega, by rw [← hx]; exact ag_tg_go ha hd (by omega), ?_⟩
    rw [ep]
    have := ag_tg_st (w := w) (o := o) (c := a) (d := k / 25) ha hd (by omega)
    rw [hx] at this
    rw [← this]
    simp [ag_ef]
  · rintro ⟨a', rfl, h, rfl⟩
    obtain ⟨d, hd, e, hb⟩ := ag_go_tg ha wa h
    have k1 : 25 * d / 25 = d := by omega
    refine ⟨by omega, 25 * d, by omega, ?_, ?_⟩
    · unfold ag_af
      simp only [s1, k1, e, show (0 : Nat) < 1 from by omega, show ¬ (1 : Nat) < 1 from by omega, show ¬ (2 : Nat) < 1 from by omega, if_true, if_false, false_and, or_false]
      rw [if_neg (by omega)]
      omega
    · have := ag_tg_st (w := w) (o := o) (c := a) (d := d) ha hd (by omega)
      rw [e] at this
      rw [← this]
      simp [ag_ef, k1]
theorem ag_GY2 {w : Nat → Bool} {o : Nat → Nat} {f : Bool} {a b t p : Nat} (ha : a < 12) (wa : w a = false) (hb : b < 12) (wb : w b = false) : ag_GY w o 2 f (144 * a + 12 * b) t p ↔ ∃ a' b', t = 144 * a' + 12 * b' ∧ ag_go w o a a' = true ∧ ag_go w o b b' = true ∧ ¬ ag_cl a a' b b' ∧ p = (if f = true then ag_st a a' + ag_st b b' else 1) := by
  have s1 : (144 * a + 12 * b) / 144 = a := by omega
  have s2 : (144 * a + 12 * b) / 12 % 12 = b := by omega
  constructor
  · rintro ⟨ht, k, hk, e, ep⟩
    unfold ag_af at e
    simp only [s1, s2, show (0 : Nat) < 2 from by omega, show (1 : Nat) < 2 from by omega, show ¬ (2 : Nat) < 2 from by omega, if_true, if_false, false_and, true_and, or_false] at e
    have hd : k / 25 < 5 := by omega
    have hd2 : k / 5 % 5 < 5 := by omega
    generalize hx : ag_tg w o a (k / 25) = x at e
    generalize hy : ag_tg w o b (k / 5 % 5) = y at e
    have hle : x ≤ 12 := by rw [← hx]; exact ag_tg_le ha
    have hle2 : y ≤ 12 := by rw [← hy]; exact ag_tg_le hb
    have hc : ¬ (x = 12 ∨ y = 12 ∨ (0 : Nat) = 12 ∨ ag_cl a x b y) := fun z => by
      rw [if_pos z] at e; omega
    rw [if_neg hc] at e
    have hx12 : x < 12 := by omega
    have hy12 : y < 12 := by omega
    refine ⟨x, y, by omega, by rw [← hx]; exact ag_tg_go ha hd (by omega), by rw [← hy]; exact ag_tg_go hb hd2 (by omega), fun z => hc (Or.inr (Or.inr (Or.inr z))), ?_⟩
    rw [ep]
    have k1 := ag_tg_st (w := w) (o := o) (c := a) (d := k / 25) ha hd (by omega)
    have k2 := ag_tg_st (w := w) (o := o) (c := b) (d := k / 5 % 5) hb hd2 (by omega)
    rw [hx] at k1
    rw [hy] at k2
    rw [← k1, ← k2]
    simp [ag_ef]
  · rintro ⟨a', b', rfl, h, h', hc, rfl⟩
    obtain ⟨d, hd, e, hb1⟩ := ag_go_tg ha wa h
    obtain ⟨d', hd', e', hb2⟩ := ag_go_tg hb wb h'
    have k1 : (25 * d + 5 * d') / 25 = d := by omega
    have k2 : (25 * d + 5 * d') / 5 % 5 = d' := by omega
    refine ⟨by omega, 25 * d + 5 * d', by omega, ?_, ?_⟩
    · unfold ag_af
      simp only [s1, s2, k1, k2, e, e', show (0 : Nat) < 2 from by omega, show (1 : Nat) < 2 from by omega, show ¬ (2 : Nat) < 2 from by omega, if_true, if_false, false_and, true_and, or_false]
      rw [if_neg (fun z => by rcases z with z | z | z | z; omega; omega; omega; exact hc z)]
      omega
    · have j1 := ag_tg_st (w := w) (o := o) (c := a) (d := d) ha hd (by omega)
      have j2 := ag_tg_st (w := w) (o := o) (c := b) (d := d') hb hd' (by omega)
      rw [e] at j1
      rw [e'] at j2
      rw [← j1, ← j2]
      simp [ag_ef, k1, k2]
theorem ag_GY3 {w : Nat → Bool} {o : Nat → Nat} {f : Bool} {a b c t p : Nat} (ha : a < 12) (wa : w a = false) (hb : b < 12) (wb : w b = false) (hc : c < 12) (wc : w c = false) : ag_GY w o 3 f (144 * a + 12 * b + c) t p ↔ ∃ a' b' c', t = 144 * a' + 12 * b' + c' ∧ ag_go w o a a' = true ∧ ag_go w o b b' = true ∧ ag_go w o c c' = true ∧ ¬ ag_cl a a' b b' ∧ ¬ ag_cl a a' c c' ∧ ¬ ag_cl b b' c c' ∧ p = (if f = true then ag_st a a' + ag_st b b' + ag_st c c' else 1) := by
  have s1 : (144 * a + 12 * b + c) / 144 = a := by omega
  have s2 : (144 * a + 12 * b + c) / 12 % 12 = b := by omega
  have s3 : (144 * a + 12 * b + c) % 12 = c := by omega
  constructor
  · rintro ⟨ht, k, hk, e, ep⟩
    unfold ag_af at e
    simp only [s1, s2, s3, show (0 : Nat) < 3 from by omega, show (1 : Nat) < 3 from by omega, show (2 : Nat) < 3 from by omega, if_true, true_and] at e
    have hd : k / 25 < 5 := by omega
    have hd2 : k / 5 % 5 < 5 := by omega
    have hd3 : k % 5 < 5 := by omega
    generalize hx : ag_tg w o a (k / 25) = x at e
    generalize hy : ag_tg w o b (k / 5 % 5) = y at e
    generalize hz : ag_tg w o c (k % 5) = z at e
    have hle : x ≤ 12 := by rw [← hx]; exact ag_tg_le ha
    have hle2 : y ≤ 12 := by rw [← hy]; exact ag_tg_le hb
    have hle3 : z ≤ 12 := by rw [← hz]; exact ag_tg_le hc
    have hn : ¬ (x = 12 ∨ y = 12 ∨ z = 12 ∨ ag_cl a x b y ∨ ag_cl a x c z ∨ ag_cl b y c z) := fun z => by
      rw [if_pos z] at e; omega
    rw [if_neg hn] at e
    have hx12 : x < 12 := by omega
    have hy12 : y < 12 := by omega
    have hz12 : z < 12 := by omega
    refine ⟨x, y, z, by omega, by rw [← hx]; exact ag_tg_go ha hd (by omega), by rw [← hy]; exact ag_tg_go hb hd2 (by omega), by rw [← hz]; exact ag_tg_go hc hd3 (by omega), fun z => hn (Or.inr (Or.inr (Or.inr (Or.inl z)))), fun z => hn (Or.inr (Or.inr (Or.inr (Or.inr (Or.inl z))))), fun z => hn (Or.inr (Or.inr (Or.inr (Or.inr (Or.inr z))))), ?_⟩
    rw [ep]
    have k1 := ag_tg_st (w := w) (o := o) (c := a) (d := k / 25) ha hd (by omega)
    have k2 := ag_tg_st (w := w) (o := o) (c := b) (d := k / 5 % 5) hb hd2 (by omega)
    have k3 := ag_tg_st (w := w) (o := o) (c := c) (d := k % 5) hc hd3 (by omega)
    rw [hx] at k1
    rw [hy] at k2
    rw [hz] at k3
    rw [← k1, ← k2, ← k3]
    simp [ag_ef]
  · rintro ⟨a', b', c', rfl, h, h', h'', c1, c2, c3, rfl⟩
    obtain ⟨d, hd, e, hb1⟩ := ag_go_tg ha wa h
    obtain ⟨d', hd', e', hb2⟩ := ag_go_tg hb wb h'
    obtain ⟨d'', hd'', e'', hb3⟩ := ag_go_tg hc wc h''
    have k1 : (25 * d + 5 * d' + d'') / 25 = d := by omega
    have k2 : (25 * d + 5 * d' + d'') / 5 % 5 = d' := by omega
    have k3 : (25 * d + 5 * d' + d'') % 5 = d'' := by omega
    refine ⟨by omega, 25 * d + 5 * d' + d'', by omega, ?_, ?_⟩
    · unfold ag_af
      simp only [s1, s2, s3, k1, k2, k3, e, e', e'', show (0 : Nat) < 3 from by omega, show (1 : Nat) < 3 from by omega, show (2 : Nat) < 3 from by omega, if_true, true_and]
      rw [if_neg (fun z => by rcases z with z | z | z | z | z | z; omega; omega; omega; exact c1 z; exact c2 z; exact c3 z)]
    · have j1 := ag_tg_st (w := w) (o := o) (c := a) (d := d) ha hd (by omega)
      have j2 := ag_tg_st (w := w) (o := o) (c := b) (d := d') hb hd' (by omega)
      have j3 := ag_tg_st (w := w) (o := o) (c := c) (d := d'') hc hd'' (by omega)
      rw [e] at j1
      rw [e'] at j2
      rw [e''] at j3
      rw [← j1, ← j2, ← j3]
      simp [ag_ef, k1, k2, k3]
