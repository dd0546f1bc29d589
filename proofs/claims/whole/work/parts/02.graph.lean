/-! paths with a cost; the least cost; levels; a bound by counting; a search by levels (draft, not yet compiled) -/
def ag_Pt {α : Type} (E : α → α → Nat → Prop) (a : α) : Nat → α → Nat → Prop
  | 0 => fun t c => t = a ∧ c = 0
  | n + 1 => fun t c => ∃ s c0 p, ag_Pt E a n s c0 ∧ E s t p ∧ c = c0 + p
def ag_Rc {α : Type} (E : α → α → Nat → Prop) (a t : α) (c : Nat) : Prop := ∃ n, ag_Pt E a n t c
def ag_Ls {α : Type} (E : α → α → Nat → Prop) (a t : α) (c : Nat) : Prop := ag_Rc E a t c ∧ ∀ c', ag_Rc E a t c' → c ≤ c'
theorem ag_Rc0 {α : Type} (E : α → α → Nat → Prop) (a : α) : ag_Rc E a a 0 := ⟨0, rfl, rfl⟩
theorem ag_RcS {α : Type} {E : α → α → Nat → Prop} {a s t : α} {c p : Nat} (h : ag_Rc E a s c) (e : E s t p) : ag_Rc E a t (c + p) := by
  obtain ⟨n, h⟩ := h
  exact ⟨n + 1, s, c, p, h, e, rfl⟩
theorem ag_RcI {α : Type} {E : α → α → Nat → Prop} {a : α} (P : α → Nat → Prop) (h0 : P a 0) (hs : ∀ s t c p, ag_Rc E a s c → P s c → E s t p → P t (c + p)) : ∀ {t : α} {c : Nat}, ag_Rc E a t c → P t c := by
  intro t c h
  obtain ⟨n, h⟩ := h
  induction n generalizing t c with
  | zero => obtain ⟨rfl, rfl⟩ := h; exact h0
  | succ n ih =>
    obtain ⟨s, c0, p, h1, h2, rfl⟩ := h
    exact hs s t c0 p ⟨n, h1⟩ (ih h1) h2
theorem ag_RcC {α : Type} {E : α → α → Nat → Prop} {a b : α} {p : Nat} (e : E a b p) {t : α} {c : Nat} (h : ag_Rc E b t c) : ag_Rc E a t (p + c) := by
  refine ag_RcI (fun t c => ag_Rc E a t (p + c)) ?_ ?_ h
  · have := ag_RcS (ag_Rc0 E a) e
    rw [Nat.zero_add] at this
    exact this
  · intro s t c q _ h1 h2
    have := ag_RcS h1 h2
    rw [Nat.add_assoc] at this
    exact this
theorem ag_RcT {α : Type} {E : α → α → Nat → Prop} {a b : α} {c1 : Nat} (h1 : ag_Rc E a b c1) {t : α} {c : Nat} (h : ag_Rc E b t c) : ag_Rc E a t (c1 + c) := by
  refine ag_RcI (fun t c => ag_Rc E a t (c1 + c)) h1 ?_ h
  intro s t c q _ h1 h2
  have := ag_RcS h1 h2
  rw [Nat.add_assoc] at this
  exact this
/-- the first edge of a path -/
theorem ag_RcF {α : Type} {E : α → α → Nat → Prop} {a t : α} {c : Nat} (h : ag_Rc E a t c) : (t = a ∧ c = 0) ∨ ∃ b p c', E a b p ∧ ag_Rc E b t c' ∧ c = p + c' := by
  refine ag_RcI (fun t c => (t = a ∧ c = 0) ∨ ∃ b p c', E a b p ∧ ag_Rc E b t c' ∧ c = p + c') (Or.inl ⟨rfl, rfl⟩) ?_ h
  intro s t c p _ h1 h2
  rcases h1 with ⟨rfl, rfl⟩ | ⟨b, q, c', e, h3, rfl⟩
  · exact Or.inr ⟨t, p, 0, h2, ag_Rc0 E t, by omega⟩
  · exact Or.inr ⟨b, q, c' + p, e, ag_RcS h3 h2, by omega⟩
theorem ag_RcL {α : Type} {E : α → α → Nat → Prop} {a t : α} {c : Nat} (h : ag_Rc E a t c) : ∃ c0, c0 ≤ c ∧ ag_Ls E a t c0 := by
  induction c using Nat.strongRecOn with
  | ind c ih =>
    by_cases z : ∃ c', c' < c ∧ ag_Rc E a t c'
    · obtain ⟨c', h1, h2⟩ := z
      obtain ⟨c0, h3, h4⟩ := ih c' h1 h2
      exact ⟨c0, by omega, h4⟩
    · refine ⟨c, Nat.le_refl _, h, fun c' h' => ?_⟩
      by_cases y : c' < c
      · exact absurd ⟨c', y, h'⟩ z
      · omega
theorem ag_LsU {α : Type} {E : α → α → Nat → Prop} {a t : α} {c c' : Nat} (h : ag_Ls E a t c) (h' : ag_Ls E a t c') : c = c' :=
  Nat.le_antisymm (h.2 c' h'.1) (h'.2 c h.1)
theorem ag_LsO {α : Type} (E : α → α → Nat → Prop) (a : α) : ag_Ls E a a 0 := ⟨ag_Rc0 E a, fun _ _ => Nat.zero_le _⟩
/-- a property that edges keep -/
theorem ag_RcV {α : Type} {E : α → α → Nat → Prop} {a : α} (V : α → Prop) (h0 : V a) (hs : ∀ s t p, V s → E s t p → V t) {t : α} {c : Nat} (h : ag_Rc E a t c) : V t :=
  ag_RcI (fun t _ => V t) h0 (fun s t _ p _ h1 h2 => hs s t p h1 h2) h
/-- one graph in another -/
theorem ag_sim {α β : Type} (φ : α → β) (E : α → α → Nat → Prop) (G : β → β → Nat → Prop) (V : α → Prop) (hV : ∀ q q' p, V q → E q q' p → V q') (h1 : ∀ q q' p, V q → E q q' p → G (φ q) (φ q') p) (h2 : ∀ q t p, V q → G (φ q) t p → ∃ q', t = φ q' ∧ E q q' p) {a : α} (ha : V a) (t : β) (c : Nat) : ag_Rc G (φ a) t c ↔ ∃ q, t = φ q ∧ V q ∧ ag_Rc E a q c := by
  constructor
  · intro h
    refine ag_RcI (fun t c => ∃ q, t = φ q ∧ V q ∧ ag_Rc E a q c) ⟨a, rfl, ha, ag_Rc0 E a⟩ ?_ h
    rintro s t c p _ ⟨q, rfl, hq, hr⟩ e
    obtain ⟨q', rfl, e'⟩ := h2 q t p hq e
    exact ⟨q', rfl, hV q q' p hq e', ag_RcS hr e'⟩
  · rintro ⟨q, rfl, _, hr⟩
    refine (ag_RcI (fun q c => V q ∧ ag_Rc G (φ a) (φ q) c) ⟨ha, ag_Rc0 G (φ a)⟩ ?_ hr).2
    rintro s t c p _ ⟨hs, h⟩ e
    exact ⟨hV s t p hs e, ag_RcS h (h1 s t p hs e)⟩
/-- levels: below a least cost each lesser one is the least cost of something -/
theorem ag_lev1 {α : Type} {E : α → α → Nat → Prop} {a : α} (V : α → Prop) (h0 : V a) (hs : ∀ s t p, V s → E s t p → V t) (hz : ∀ s t, E s t 0 → t = s) (hc : ∀ s t p, V s → E s t (p + 2) → ∃ r, E s r (p + 1) ∧ E r t 1) {t : α} {c : Nat} (h : ag_Ls E a t (c + 1)) : ∃ u, ag_Ls E a u c := by
  have key : ∀ {t : α} {c' : Nat}, ag_Rc E a t c' → V t ∧ (∀ c, c' = c + 1 → ag_Ls E a t (c + 1) → ∃ u, ag_Ls E a u c) := by
    intro t c' h
    refine ag_RcI (fun t c' => V t ∧ (∀ c, c' = c + 1 → ag_Ls E a t (c + 1) → ∃ u, ag_Ls E a u c)) ⟨h0, fun c e => absurd e (by omega)⟩ ?_ h
    rintro s t c0 p hr ⟨vs, ih⟩ e
    refine ⟨hs s t p vs e, fun c ec hl => ?_⟩
    match p, e, ec with
    | 0, e, ec => rw [hz s t e] at hl; exact ih c ec hl
    | 1, e, ec =>
      have : c0 = c := by omega
      subst this
      refine ⟨s, hr, fun c'' h'' => ?_⟩
      have := hl.2 _ (ag_RcS h'' e)
      omega
    | p + 2, e, ec =>
      obtain ⟨r, e1, e2⟩ := hc s t p vs e
      have h1 := ag_RcS hr e1
      have : c0 + (p + 1) = c := by omega
      rw [this] at h1
      refine ⟨r, h1, fun c'' h'' => ?_⟩
      have := hl.2 _ (ag_RcS h'' e2)
      omega
  exact (key h.1).2 c rfl h
theorem ag_lev {α : Type} {E : α → α → Nat → Prop} {a : α} (V : α → Prop) (h0 : V a) (hs : ∀ s t p, V s → E s t p → V t) (hz : ∀ s t, E s t 0 → t = s) (hc : ∀ s t p, V s → E s t (p + 2) → ∃ r, E s r (p + 1) ∧ E r t 1) : ∀ {c : Nat} {t : α}, ag_Ls E a t c → ∀ j, j ≤ c → ∃ u, ag_Ls E a u j := by
  intro c
  induction c with
  | zero => intro t h j hj; exact ⟨t, by rw [show j = 0 by omega]; exact h⟩
  | succ c ih =>
    intro t h j hj
    by_cases e : j = c + 1
    · exact ⟨t, by rw [e]; exact h⟩
    · obtain ⟨u, hu⟩ := ag_lev1 V h0 hs hz hc h
      exact ih hu j (by omega)
theorem ag_bd {α : Type} {E : α → α → Nat → Prop} {a : α} (V : α → Prop) (h0 : V a) (hs : ∀ s t p, V s → E s t p → V t) (hz : ∀ s t, E s t 0 → t = s) (hc : ∀ s t p, V s → E s t (p + 2) → ∃ r, E s r (p + 1) ∧ E r t 1) (M : Nat) (z : α → Nat) (hM : ∀ q, V q → z q < M) (hi : ∀ q q', V q → V q' → z q = z q' → q = q') {c : Nat} {t : α} (h : ag_Ls E a t c) : c < M := by
  have hl := ag_lev V h0 hs hz hc h
  have : ∃ f : Nat → α, ∀ j, j ≤ c → ag_Ls E a (f j) j := by
    refine ⟨fun j => if hj : j ≤ c then (hl j hj).choose else a, fun j hj => ?_⟩
    dsimp only
    rw [dif_pos hj]
    exact (hl j hj).choose_spec
  obtain ⟨f, hf⟩ := this
  have hv : ∀ j, j ≤ c → V (f j) := fun j hj => ag_RcV V h0 hs (hf j hj).1
  have := ag_cn_inj (fun _ => true) M (fun j => z (f j)) (c + 1) (fun _ => true) (fun i hi' _ => ⟨hM _ (hv i (by omega)), rfl⟩) (fun i i' a1 a2 _ _ e => by
    have e1 := hi _ _ (hv i (by omega)) (hv i' (by omega)) e
    have h1 := hf i (by omega)
    rw [e1] at h1
    exact ag_LsU h1 (hf i' (by omega)))
  rw [ag_cn_all, ag_cn_all] at this
  omega
/-! a search by levels over codes below N; U: not reached -/
def ag_Rl (N : Nat) (E : Nat → Nat → Nat → Prop) (s : Nat) (D D' : Nat → Nat) : Prop :=
  (∀ t, t < N → D' t ≤ D t) ∧ (∀ t p, t < N → E s t p → D' t ≤ D s + p) ∧ (∀ t, t < N → D' t = D t ∨ ∃ p, E s t p ∧ D' t = D s + p ∧ D s + p < D t)
def ag_Iv (N U : Nat) (E : Nat → Nat → Nat → Prop) (a c s : Nat) (D : Nat → Nat) : Prop :=
  D a = 0 ∧ (∀ t, t < N → D t ≤ U) ∧ (∀ t, t < N → D t < U → ag_Rc E a t (D t)) ∧ (∀ t u p, t < N → u < N → (D t < c ∨ (D t = c ∧ t < s)) → D t < U → E t u p → D u ≤ D t + p)
theorem ag_Iv0 {N U : Nat} {E : Nat → Nat → Nat → Prop} {a : Nat} (D : Nat → Nat) (ha : D a = 0) (hd : ∀ t, t < N → t ≠ a → D t = U) : ag_Iv N U E a 0 0 D := by
  refine ⟨ha, fun t ht => ?_, fun t ht h => ?_, fun t u p _ _ h => ?_⟩
  · by_cases e : t = a
    · rw [e, ha]; exact Nat.zero_le _
    · rw [hd t ht e]; exact Nat.le_refl _
  · by_cases e : t = a
    · rw [e, ha]; exact ag_Rc0 E a
    · have := hd t ht e; omega
  · omega
theorem ag_IvN {N U : Nat} {E : Nat → Nat → Nat → Prop} {a c : Nat} {D : Nat → Nat} (h : ag_Iv N U E a c N D) : ag_Iv N U E a (c + 1) 0 D :=
  ⟨h.1, h.2.1, h.2.2.1, fun t u p ht hu hd => h.2.2.2 t u p ht hu (by omega)⟩
theorem ag_IvK {N U : Nat} {E : Nat → Nat → Nat → Prop} {a c s : Nat} {D : Nat → Nat} (h : ag_Iv N U E a c s D) (hs : D s ≠ c) : ag_Iv N U E a c (s + 1) D := by
  refine ⟨h.1, h.2.1, h.2.2.1, fun t u p ht hu hd => h.2.2.2 t u p ht hu ?_⟩
  rcases hd with hd | ⟨hd, h1⟩
  · exact Or.inl hd
  · have : t ≠ s := fun e => hs (by rw [← e]; exact hd)
    exact Or.inr ⟨hd, by omega⟩
theorem ag_IvS {N U : Nat} {E : Nat → Nat → Nat → Prop} {a c s : Nat} {D D' : Nat → Nat} (ha : a < N) (hs : s < N) (hcU : c < U) (hz : ∀ t, E s t 0 → t = s) (h : ag_Iv N U E a c s D) (e : D s = c) (r : ag_Rl N E s D D') : ag_Iv N U E a c (s + 1) D' := by
  obtain ⟨i1, i2, i3, i4⟩ := h
  obtain ⟨r1, r2, r3⟩ := r
  have keep : ∀ t, t < N → D' t ≤ c → D' t = D t := fun t ht h => by
    rcases r3 t ht with h1 | ⟨p, e1, h1, h2⟩
    · exact h1
    · have : p = 0 := by omega
      subst this
      rw [hz t e1] at h2
      omega
  refine ⟨?_, fun t ht => Nat.le_trans (r1 t ht) (i2 t ht), fun t ht h => ?_, fun t u p ht hu hd hU e1 => ?_⟩
  · have := r1 a ha; omega
  · rcases r3 t ht with h1 | ⟨p, e1, h1, h2⟩
    · rw [h1]; exact i3 t ht (by omega)
    · rw [h1]; exact ag_RcS (i3 s hs (by omega)) e1
  · have k := keep t ht (by omega)
    rw [k] at hd hU ⊢
    by_cases y : t = s
    · subst y; exact r2 u p hu e1
    · exact Nat.le_trans (r1 u hu) (i4 t u p ht hu (by omega) hU e1)
/-- what is reached with less than c has no greater number than that -/
theorem ag_IvL {N U : Nat} {E : Nat → Nat → Nat → Prop} {a c s : Nat} {D : Nat → Nat} (ha : a < N) (hE : ∀ s t p, s < N → E s t p → t < N) (hcU : c ≤ U) (h : ag_Iv N U E a c s D) {t c' : Nat} (hr : ag_Rc E a t c') : t < N ∧ (c' < c → D t ≤ c') := by
  refine ag_RcI (fun t c' => t < N ∧ (c' < c → D t ≤ c')) ⟨ha, fun _ => by rw [h.1]; exact Nat.le_refl _⟩ ?_ hr
  rintro s1 t c1 p _ ⟨h1, h2⟩ e
  refine ⟨hE _ _ _ h1 e, fun h3 => ?_⟩
  have h4 := h2 (by omega)
  exact Nat.le_trans (h.2.2.2 s1 t p h1 (hE _ _ _ h1 e) (Or.inl (by omega)) (by omega) e) (by omega)
/-- the level at hand is no higher than the bound of the least costs -/
theorem ag_IvB {N U B : Nat} {E : Nat → Nat → Nat → Prop} {a c s : Nat} {D : Nat → Nat} (ha : a < N) (hE : ∀ s t p, s < N → E s t p → t < N) (hB : ∀ t c, ag_Ls E a t c → c < B) (hcU : c ≤ U) (h : ag_Iv N U E a c s D) {t : Nat} (ht : t < N) (hU : D t < U) (hc : c ≤ D t) : c < B := by
  obtain ⟨c0, h1, h2⟩ := ag_RcL (h.2.2.1 t ht hU)
  have h3 := hB t c0 h2
  by_cases y : c0 < c
  · have := (ag_IvL ha hE hcU h h2.1).2 y
    omega
  · omega
def ag_Sl (N U : Nat) (E : Nat → Nat → Nat → Prop) (a : Nat) (D : Nat → Nat) : Prop :=
  ∀ t, t < N → (D t < U ∧ ag_Ls E a t (D t)) ∨ (D t = U ∧ ∀ c, ¬ ag_Rc E a t c)
/-- all that is reached lies below the level: the numbers are the least costs -/
theorem ag_IvE {N U B : Nat} {E : Nat → Nat → Nat → Prop} {a c : Nat} {D : Nat → Nat} (ha : a < N) (hE : ∀ s t p, s < N → E s t p → t < N) (hB : ∀ t c, ag_Ls E a t c → c < B) (hBU : B ≤ U) (h : ag_Iv N U E a c 0 D) (hx : ∀ t, t < N → D t < U → D t < c) : ag_Sl N U E a D := by
  have key : ∀ {t c' : Nat}, ag_Rc E a t c' → t < N ∧ D t ≤ c' := by
    intro t c' hr
    refine ag_RcI (fun t c' => t < N ∧ D t ≤ c') ⟨ha, by rw [h.1]; exact Nat.le_refl _⟩ ?_ hr
    rintro s1 t c1 p _ ⟨h1, h2⟩ e
    have ht := hE _ _ _ h1 e
    refine ⟨ht, ?_⟩
    by_cases y : D s1 < U
    · have := h.2.2.2 s1 t p h1 ht (Or.inl (hx s1 h1 y)) y e
      omega
    · have := h.2.1 t ht
      omega
  intro t ht
  by_cases y : D t < U
  · exact Or.inl ⟨y, h.2.2.1 t ht y, fun c' hr => (key hr).2⟩
  · refine Or.inr ⟨by have := h.2.1 t ht; omega, fun c' hr => ?_⟩
    obtain ⟨c0, h1, h2⟩ := ag_RcL hr
    have h3 := (key h2.1).2
    have h4 := hB t c0 h2
    omega
