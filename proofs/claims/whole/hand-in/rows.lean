section
/-! rows pasted from kit/rows (PURE-ROWS) -/
theorem pk_us {f : Nat → Int32} {k : Nat} {x : Int32} : upd f k x k = x := if_pos rfl
theorem pk_un {f : Nat → Int32} {k j : Nat} {x : Int32} (h : j ≠ k) : upd f k x j = f j := if_neg h
theorem pk_sub {a b : Nat} (h : b ≤ a) : nI a - nI b = nI (a - b) := by
  obtain ⟨c, rfl⟩ : ∃ c, a = c + b := ⟨a - b, by omega⟩
  rw [← nI_add, Int32.add_sub_cancel, Nat.add_sub_cancel]
theorem pk_m1 (n : Nat) : nI (n + 1) + (-1) = nI n := by
  rw [← nI_1, Int32.add_assoc, show (1 : Int32) + (-1) = 0 from rfl, Int32.add_zero]
theorem pk_mul (a b : Nat) : nI a * nI b = nI (a * b) := (Int32.ofNat_mul a b).symm
theorem pk_div {a d : Nat} (ha : a < 2 ^ 31) (h0 : 0 < d) (hd : d < 2 ^ 31) : nI a / nI d = nI (a / d) := by
  apply Int32.toInt_inj.mp
  rw [lg_idiv_nonneg (by rw [nI_toInt ha]; omega) (by rw [nI_toInt hd]; omega), nI_toInt ha, nI_toInt hd, nI_toInt (Nat.lt_of_le_of_lt (Nat.div_le_self a d) ha)]
  first | rfl | exact (Int.natCast_ediv _ _).symm
theorem pk_rem {a d : Nat} (ha : a < 2 ^ 31) (h0 : 0 < d) (hd : d < 2 ^ 31) : nI a - nI a / nI d * nI d = nI (a % d) := by
  rw [pk_div ha h0 hd, pk_mul, pk_sub (Nat.div_mul_le_self a d)]
  exact congrArg nI (by have := Nat.div_add_mod' a d; omega)
theorem pk_sub_toInt {a b : Nat} (ha : a < 2 ^ 30) (hb : b < 2 ^ 30) : (nI a - nI b).toInt = (a : Int) - b := by
  rw [Int32.toInt_sub, nI_toInt (by omega), nI_toInt (by omega)]
  exact Int.bmod_eq_of_le (by omega) (by omega)
theorem pk_ix (x : Int32) {n : Nat} (hn : n < 2 ^ 31) : x < 0 ∨ nI n ≤ x ∨ ∃ j : Nat, j < n ∧ x = nI j := by
  by_cases h : x < 0
  · exact Or.inl h
  · obtain ⟨j, hj, rfl⟩ := nI_of h
    by_cases h2 : j < n
    · exact Or.inr (Or.inr ⟨j, h2, rfl⟩)
    · exact Or.inr (Or.inl (nI_le (by omega) hj))
theorem pk_le {x y : Int32} {A B : Prop} (a b : Nat) (f : a ≤ b → A) (g : b < a → B) (hx : x = nI a := by rfl) (hy : y = nI b := by rfl) (ha : a < 2 ^ 31 := by omega) (hb : b < 2 ^ 31 := by omega) : (x ≤ y → A) ∧ (¬ x ≤ y → B) := by
  subst hx hy
  rw [nI_leI ha hb]
  exact ⟨f, fun z => g (by omega)⟩
theorem pk_lt {x y : Int32} {A B : Prop} (a b : Nat) (f : a < b → A) (g : b ≤ a → B) (hx : x = nI a := by rfl) (hy : y = nI b := by rfl) (ha : a < 2 ^ 31 := by omega) (hb : b < 2 ^ 31 := by omega) : (x < y → A) ∧ (¬ x < y → B) := by
  subst hx hy
  rw [nI_ltI ha hb]
  exact ⟨f, fun z => g (by omega)⟩
theorem pk_eq {x y : Int32} {A B : Prop} (a b : Nat) (f : a = b → A) (g : a ≠ b → B) (hx : x = nI a := by rfl) (hy : y = nI b := by rfl) (ha : a < 2 ^ 31 := by omega) (hb : b < 2 ^ 31 := by omega) : (x = y → A) ∧ (¬ x = y → B) := by
  subst hx hy
  rw [nI_eq ha hb]
  exact ⟨f, g⟩
theorem pk_in {x : Int32} (n N : Nat) (h : n < N) (hx : x = nI n := by rfl) (hN : N < 2 ^ 31 := by omega) : vp_in x N := by
  subst hx
  exact vp_in_nI h hN
theorem pk_cl {x : Int32} (n : Nat) (hx : x = nI n := by rfl) (h : n < 2 ^ 31 := by omega) : x.toNatClampNeg = n := by
  subst hx
  exact nI_clamp h
theorem pk_tn {n : Nat} (h : n < 2 ^ 32) : (nI n).toBitVec.toNat = n := Nat.mod_eq_of_lt h
theorem pk_and (x : Int32) {m : Int32} (k : Nat) (hm : m.toBitVec.toNat = 2 ^ k - 1) : x &&& m = nI (x.toBitVec.toNat % 2 ^ k) := by
  apply Int32.toBitVec_inj.mp
  apply BitVec.eq_of_toNat_eq
  rw [Int32.toBitVec_and, BitVec.toNat_and, hm, Nat.and_two_pow_sub_one_eq_mod]
  show _ = (BitVec.ofNat 32 _).toNat
  rw [BitVec.toNat_ofNat]
  exact (Nat.mod_eq_of_lt (Nat.lt_of_le_of_lt (Nat.mod_le _ _) x.toBitVec.isLt)).symm
theorem pk_andN {n : Nat} (h : n < 2 ^ 32) {m : Int32} (k : Nat) (hm : m.toBitVec.toNat = 2 ^ k - 1) : nI n &&& m = nI (n % 2 ^ k) := by
  rw [pk_and _ k hm, pk_tn h]
theorem pk_shl (a s : Int32) (k : Nat) (hs : (s.toBitVec.smod 32).toNat = k) : (a <<< s).toBitVec.toNat = a.toBitVec.toNat * 2 ^ k % 2 ^ 32 := by
  show (a.toBitVec <<< (s.toBitVec.smod 32).toNat).toNat = _
  rw [hs, BitVec.toNat_shiftLeft, Nat.shiftLeft_eq]
theorem pk_shlN {n : Nat} (s : Int32) (k : Nat) (hs : (s.toBitVec.smod 32).toNat = k) (h : n * 2 ^ k < 2 ^ 32) : nI n <<< s = nI (n * 2 ^ k) := by
  apply Int32.toBitVec_inj.mp
  apply BitVec.eq_of_toNat_eq
  have hn : n < 2 ^ 32 := Nat.lt_of_le_of_lt (Nat.le_mul_of_pos_right n (Nat.two_pow_pos k)) h
  rw [pk_shl _ _ k hs, pk_tn hn, pk_tn h, Nat.mod_eq_of_lt h]
theorem pk_shr (a s : Int32) (k : Nat) (hs : (s.toBitVec.smod 32).toNat = k) : (a >>> s).toInt = a.toInt >>> k := by
  show (a.toBitVec.sshiftRight (s.toBitVec.smod 32).toNat).toInt = _
  rw [hs, BitVec.toInt_sshiftRight]
  rfl
theorem pk_shrN {n : Nat} (h : n < 2 ^ 31) (s : Int32) (k : Nat) (hs : (s.toBitVec.smod 32).toNat = k) : nI n >>> s = nI (n / 2 ^ k) := by
  apply Int32.toInt_inj.mp
  have h2 : n / 2 ^ k ≤ n := Nat.div_le_self _ _
  rw [pk_shr _ _ k hs, nI_toInt h, nI_toInt (by omega), Int.shiftRight_eq_div_pow]
  rfl
theorem pk_loop {σ : Type} (W : Nat → Nat → σ → Prop) (I : Nat → σ → Prop) (e i0 : Nat) (s : σ) (hi : i0 ≤ e) (h0 : I i0 s) (hx : ∀ n s, I e s → W (n + 1) e s)
    (hs : ∀ n i s, i < e → I i s → (∀ s', I (i + 1) s' → W n (i + 1) s') → W (n + 1) i s) : ∃ n, W n i0 s :=
  ⟨e + 1, loop_i W I e hx hs (e + 1) i0 s hi (by omega) h0⟩
theorem pk_loopD {σ : Type} (W : Nat → Nat → σ → Prop) (I : Nat → σ → Prop) (hx : ∀ n s, I 0 s → W (n + 1) 0 s)
    (hs : ∀ n i s, I (i + 1) s → (∀ s', I i s' → W n i s') → W (n + 1) (i + 1) s) : ∀ (e : Nat) (s : σ), I e s → W (e + 1) e s := by
  intro e
  induction e with
  | zero => exact fun s h => hx 0 s h
  | succ e ih => exact fun s h => hs (e + 1) e s h (fun s' h' => ih s' h')
theorem pk_mu {x : Int32} {L : Nat} (h0 : ¬ x < 0) (h : ¬ nI L ≤ x) (hL : L < 2 ^ 31) : ∃ j : Nat, j < L ∧ x = nI j ∧ x + 1 = nI (j + 1) ∧ x.toNatClampNeg = j ∧ L - (x + 1).toNatClampNeg < L - x.toNatClampNeg := by
  obtain ⟨j, hj, rfl⟩ := nI_of h0
  have hl : j < L := Nat.not_le.mp fun q => h (nI_le q hj)
  refine ⟨j, hl, rfl, nI_1 j, nI_clamp hj, ?_⟩
  rw [nI_1, nI_clamp (by omega), nI_clamp hj]
  omega
end
section
/-! counting below a bound, ranks, injections (draft, not yet compiled) -/
def ag_cn (P : Nat → Bool) : Nat → Nat
  | 0 => 0
  | n + 1 => ag_cn P n + (if P n = true then 1 else 0)
theorem ag_cn_s (P : Nat → Bool) (n : Nat) : ag_cn P (n + 1) = ag_cn P n + (if P n = true then 1 else 0) := rfl
theorem ag_cn_t {P : Nat → Bool} {n : Nat} (h : P n = true) : ag_cn P (n + 1) = ag_cn P n + 1 := by rw [ag_cn_s, if_pos h]
theorem ag_cn_f {P : Nat → Bool} {n : Nat} (h : ¬ P n = true) : ag_cn P (n + 1) = ag_cn P n := by rw [ag_cn_s, if_neg h]; rfl
theorem ag_cn_le (P : Nat → Bool) {a b : Nat} (h : a ≤ b) : ag_cn P a ≤ ag_cn P b := by
  induction h with
  | refl => exact Nat.le_refl _
  | step _ ih => exact Nat.le_trans ih (Nat.le_add_right _ _)
theorem ag_cn_lt (P : Nat → Bool) {a b : Nat} (h : a < b) (hp : P a = true) : ag_cn P a < ag_cn P b := by
  have h1 := ag_cn_le P (show a + 1 ≤ b from h)
  rw [ag_cn_t hp] at h1
  omega
theorem ag_cn_inj1 (P : Nat → Bool) {a b : Nat} (ha : P a = true) (hb : P b = true) (h : ag_cn P a = ag_cn P b) : a = b := by
  rcases Nat.lt_trichotomy a b with h1 | h1 | h1
  · have := ag_cn_lt P h1 ha; omega
  · exact h1
  · have := ag_cn_lt P h1 hb; omega
theorem ag_cn_sur (P : Nat → Bool) : ∀ n i : Nat, i < ag_cn P n → ∃ t, t < n ∧ P t = true ∧ ag_cn P t = i := by
  intro n
  induction n with
  | zero => intro i h; exact absurd h (Nat.not_lt_zero _)
  | succ n ih =>
    intro i h
    by_cases hp : P n = true
    · by_cases hi : i < ag_cn P n
      · obtain ⟨t, h1, h2, h3⟩ := ih i hi
        exact ⟨t, by omega, h2, h3⟩
      · rw [ag_cn_t hp] at h
        exact ⟨n, by omega, hp, by omega⟩
    · rw [ag_cn_f hp] at h
      obtain ⟨t, h1, h2, h3⟩ := ih i h
      exact ⟨t, by omega, h2, h3⟩
theorem ag_cn_ext {P Q : Nat → Bool} : ∀ n : Nat, (∀ i, i < n → P i = Q i) → ag_cn P n = ag_cn Q n := by
  intro n
  induction n with
  | zero => intro _; rfl
  | succ n ih =>
    intro h
    rw [ag_cn_s, ag_cn_s, ih (fun i hi => h i (by omega)), h n (by omega)]
theorem ag_cn_rm (Q : Nat → Bool) (j : Nat) (hj : Q j = true) : ∀ M : Nat, j < M → ag_cn (fun i => Q i && !(i == j)) M + 1 = ag_cn Q M := by
  intro M
  induction M with
  | zero => intro h; exact absurd h (Nat.not_lt_zero _)
  | succ M ih =>
    intro h
    by_cases e : j = M
    · subst e
      have e1 : ag_cn (fun i => Q i && !(i == j)) j = ag_cn Q j := ag_cn_ext j (fun i hi => by
        have : (i == j) = false := by simp; omega
        simp [this])
      rw [ag_cn_t hj, ag_cn_f (by simp), e1]
    · have hM : (Q M && !(M == j)) = Q M := by
        have : (M == j) = false := by simp; omega
        simp [this]
      rw [ag_cn_s, ag_cn_s, hM]
      have := ih (by omega)
      omega
theorem ag_cn_inj (P : Nat → Bool) (M : Nat) (f : Nat → Nat) : ∀ (N : Nat) (Q : Nat → Bool), (∀ i, i < N → P i = true → f i < M ∧ Q (f i) = true) → (∀ i i', i < N → i' < N → P i = true → P i' = true → f i = f i' → i = i') → ag_cn P N ≤ ag_cn Q M := by
  intro N
  induction N with
  | zero => intro _ _ _; exact Nat.zero_le _
  | succ N ih =>
    intro Q h hi
    by_cases hp : P N = true
    · obtain ⟨h1, h2⟩ := h N (by omega) hp
      have e := ag_cn_rm Q (f N) h2 M h1
      have := ih (fun i => Q i && !(i == f N)) (fun i hN hP => by
        refine ⟨(h i (by omega) hP).1, ?_⟩
        have h3 := (h i (by omega) hP).2
        have h4 : ¬ f i = f N := fun z => by
          have := hi i N (by omega) (by omega) hP hp z
          omega
        simp [h3, h4]) (fun i i' a b => hi i i' (by omega) (by omega))
      rw [ag_cn_t hp]
      omega
    · rw [ag_cn_f hp]
      exact ih Q (fun i a => h i (by omega)) (fun i i' a b => hi i i' (by omega) (by omega))
theorem ag_cn_all (n : Nat) : ag_cn (fun _ => true) n = n := by
  induction n with
  | zero => rfl
  | succ n ih => rw [ag_cn_t rfl, ih]
end
section
/-! paths with a cost; the least cost; levels; a bound by counting; a search by levels (draft, not yet compiled) -/
def ag_Pt {α : Type} (E : α → α → Nat → Prop) (a : α) : Nat → α → Nat → Prop
  | 0 => fun t c => t = a ∧ c = 0
  | n + 1 => fun t c => ∃ s c0 p, ag_Pt E a n s c0 ∧ E s t p ∧ c = c0 + p
def ag_Rc {α : Type} (E : α → α → Nat → Prop) (a t : α) (c : Nat) : Prop := ∃ n, ag_Pt E a n t c
def ag_Ls {α : Type} (E : α → α → Nat → Prop) (a t : α) (c : Nat) : Prop := ag_Rc E a t c ∧ ∀ c', ag_Rc E a t c' → c ≤ c'
theorem ag_Rc0 {α : Type} (E : α → α → Nat → Prop) (a : α) : ag_Rc E a a 0 := ⟨0, rfl, rfl⟩
theorem ag_RcS {α : Type} {E : α → α → Nat → Prop} {a s t : α} {c p : Nat} (h : ag_Rc E a s c) (e : E s t p) : ag_Rc E a t (c + p) := by
  obtain ⟨n, h⟩ := h
  exact ⟨n + 1, s, c, p, h, e, rfl⟩
theorem ag_RcI {α : Type} {E : α → α → Nat → Prop} {a : α} (P : α → Nat → Prop) (h0 : P a 0) (hs : ∀ s t c p, ag_Rc E a s c → P s c → E s t p → P t (c + p)) : ∀ {t : α} {c : Nat}, ag_Rc E a t c → P t c := by
  intro t c h
  obtain ⟨n, h⟩ := h
  induction n generalizing t c with
  | zero => obtain ⟨rfl, rfl⟩ := h; exact h0
  | succ n ih =>
    obtain ⟨s, c0, p, h1, h2, rfl⟩ := h
    exact hs s t c0 p ⟨n, h1⟩ (ih h1) h2
theorem ag_RcC {α : Type} {E : α → α → Nat → Prop} {a b : α} {p : Nat} (e : E a b p) {t : α} {c : Nat} (h : ag_Rc E b t c) : ag_Rc E a t (p + c) := by
  refine ag_RcI (fun t c => ag_Rc E a t (p + c)) ?_ ?_ h
  · have := ag_RcS (ag_Rc0 E a) e
    rw [Nat.zero_add] at this
    exact this
  · intro s t c q _ h1 h2
    have := ag_RcS h1 h2
    rw [Nat.add_assoc] at this
    exact this
theorem ag_RcT {α : Type} {E : α → α → Nat → Prop} {a b : α} {c1 : Nat} (h1 : ag_Rc E a b c1) {t : α} {c : Nat} (h : ag_Rc E b t c) : ag_Rc E a t (c1 + c) := by
  refine ag_RcI (fun t c => ag_Rc E a t (c1 + c)) h1 ?_ h
  intro s t c q _ h1 h2
  have := ag_RcS h1 h2
  rw [Nat.add_assoc] at this
  exact this
/-- the first edge of a path -/
theorem ag_RcF {α : Type} {E : α → α → Nat → Prop} {a t : α} {c : Nat} (h : ag_Rc E a t c) : (t = a ∧ c = 0) ∨ ∃ b p c', E a b p ∧ ag_Rc E b t c' ∧ c = p + c' := by
  refine ag_RcI (fun t c => (t = a ∧ c = 0) ∨ ∃ b p c', E a b p ∧ ag_Rc E b t c' ∧ c = p + c') (Or.inl ⟨rfl, rfl⟩) ?_ h
  intro s t c p _ h1 h2
  rcases h1 with ⟨rfl, rfl⟩ | ⟨b, q, c', e, h3, rfl⟩
  · exact Or.inr ⟨t, p, 0, h2, ag_Rc0 E t, by omega⟩
  · exact Or.inr ⟨b, q, c' + p, e, ag_RcS h3 h2, by omega⟩
theorem ag_RcL {α : Type} {E : α → α → Nat → Prop} {a t : α} {c : Nat} (h : ag_Rc E a t c) : ∃ c0, c0 ≤ c ∧ ag_Ls E a t c0 := by
  induction c using Nat.strongRecOn with
  | ind c ih =>
    by_cases z : ∃ c', c' < c ∧ ag_Rc E a t c'
    · obtain ⟨c', h1, h2⟩ := z
      obtain ⟨c0, h3, h4⟩ := ih c' h1 h2
      exact ⟨c0, by omega, h4⟩
    · refine ⟨c, Nat.le_refl _, h, fun c' h' => ?_⟩
      by_cases y : c' < c
      · exact absurd ⟨c', y, h'⟩ z
      · omega
theorem ag_LsU {α : Type} {E : α → α → Nat → Prop} {a t : α} {c c' : Nat} (h : ag_Ls E a t c) (h' : ag_Ls E a t c') : c = c' :=
  Nat.le_antisymm (h.2 c' h'.1) (h'.2 c h.1)
theorem ag_LsO {α : Type} (E : α → α → Nat → Prop) (a : α) : ag_Ls E a a 0 := ⟨ag_Rc0 E a, fun _ _ => Nat.zero_le _⟩
/-- a property that edges keep -/
theorem ag_RcV {α : Type} {E : α → α → Nat → Prop} {a : α} (V : α → Prop) (h0 : V a) (hs : ∀ s t p, V s → E s t p → V t) {t : α} {c : Nat} (h : ag_Rc E a t c) : V t :=
  ag_RcI (fun t _ => V t) h0 (fun s t _ p _ h1 h2 => hs s t p h1 h2) h
/-- one graph in another -/
theorem ag_sim {α β : Type} (φ : α → β) (E : α → α → Nat → Prop) (G : β → β → Nat → Prop) (V : α → Prop) (hV : ∀ q q' p, V q → E q q' p → V q') (h1 : ∀ q q' p, V q → E q q' p → G (φ q) (φ q') p) (h2 : ∀ q t p, V q → G (φ q) t p → ∃ q', t = φ q' ∧ E q q' p) {a : α} (ha : V a) (t : β) (c : Nat) : ag_Rc G (φ a) t c ↔ ∃ q, t = φ q ∧ V q ∧ ag_Rc E a q c := by
  constructor
  · intro h
    refine ag_RcI (fun t c => ∃ q, t = φ q ∧ V q ∧ ag_Rc E a q c) ⟨a, rfl, ha, ag_Rc0 E a⟩ ?_ h
    rintro s t c p _ ⟨q, rfl, hq, hr⟩ e
    obtain ⟨q', rfl, e'⟩ := h2 q t p hq e
    exact ⟨q', rfl, hV q q' p hq e', ag_RcS hr e'⟩
  · rintro ⟨q, rfl, _, hr⟩
    refine (ag_RcI (fun q c => V q ∧ ag_Rc G (φ a) (φ q) c) ⟨ha, ag_Rc0 G (φ a)⟩ ?_ hr).2
    rintro s t c p _ ⟨hs, h⟩ e
    exact ⟨hV s t p hs e, ag_RcS h (h1 s t p hs e)⟩
/-- levels: below a least cost each lesser one is the least cost of something -/
theorem ag_lev1 {α : Type} {E : α → α → Nat → Prop} {a : α} (V : α → Prop) (h0 : V a) (hs : ∀ s t p, V s → E s t p → V t) (hz : ∀ s t, E s t 0 → t = s) (hc : ∀ s t p, V s → E s t (p + 2) → ∃ r, E s r (p + 1) ∧ E r t 1) {t : α} {c : Nat} (h : ag_Ls E a t (c + 1)) : ∃ u, ag_Ls E a u c := by
  have key : ∀ {t : α} {c' : Nat}, ag_Rc E a t c' → V t ∧ (∀ c, c' = c + 1 → ag_Ls E a t (c + 1) → ∃ u, ag_Ls E a u c) := by
    intro t c' h
    refine ag_RcI (fun t c' => V t ∧ (∀ c, c' = c + 1 → ag_Ls E a t (c + 1) → ∃ u, ag_Ls E a u c)) ⟨h0, fun c e => absurd e (by omega)⟩ ?_ h
    rintro s t c0 p hr ⟨vs, ih⟩ e
    refine ⟨hs s t p vs e, fun c ec hl => ?_⟩
    match p, e, ec with
    | 0, e, ec => rw [hz s t e] at hl; exact ih c ec hl
    | 1, e, ec =>
      have : c0 = c := by omega
      subst this
      refine ⟨s, hr, fun c'' h'' => ?_⟩
      have := hl.2 _ (ag_RcS h'' e)
      omega
    | p + 2, e, ec =>
      obtain ⟨r, e1, e2⟩ := hc s t p vs e
      have h1 := ag_RcS hr e1
      have : c0 + (p + 1) = c := by omega
      rw [this] at h1
      refine ⟨r, h1, fun c'' h'' => ?_⟩
      have := hl.2 _ (ag_RcS h'' e2)
      omega
  exact (key h.1).2 c rfl h
theorem ag_lev {α : Type} {E : α → α → Nat → Prop} {a : α} (V : α → Prop) (h0 : V a) (hs : ∀ s t p, V s → E s t p → V t) (hz : ∀ s t, E s t 0 → t = s) (hc : ∀ s t p, V s → E s t (p + 2) → ∃ r, E s r (p + 1) ∧ E r t 1) : ∀ {c : Nat} {t : α}, ag_Ls E a t c → ∀ j, j ≤ c → ∃ u, ag_Ls E a u j := by
  intro c
  induction c with
  | zero => intro t h j hj; exact ⟨t, by rw [show j = 0 by omega]; exact h⟩
  | succ c ih =>
    intro t h j hj
    by_cases e : j = c + 1
    · exact ⟨t, by rw [e]; exact h⟩
    · obtain ⟨u, hu⟩ := ag_lev1 V h0 hs hz hc h
      exact ih hu j (by omega)
theorem ag_bd {α : Type} {E : α → α → Nat → Prop} {a : α} (V : α → Prop) (h0 : V a) (hs : ∀ s t p, V s → E s t p → V t) (hz : ∀ s t, E s t 0 → t = s) (hc : ∀ s t p, V s → E s t (p + 2) → ∃ r, E s r (p + 1) ∧ E r t 1) (M : Nat) (z : α → Nat) (hM : ∀ q, V q → z q < M) (hi : ∀ q q', V q → V q' → z q = z q' → q = q') {c : Nat} {t : α} (h : ag_Ls E a t c) : c < M := by
  have hl := ag_lev V h0 hs hz hc h
  have : ∃ f : Nat → α, ∀ j, j ≤ c → ag_Ls E a (f j) j := by
    refine ⟨fun j => if hj : j ≤ c then (hl j hj).choose else a, fun j hj => ?_⟩
    dsimp only
    rw [dif_pos hj]
    exact (hl j hj).choose_spec
  obtain ⟨f, hf⟩ := this
  have hv : ∀ j, j ≤ c → V (f j) := fun j hj => ag_RcV V h0 hs (hf j hj).1
  have := ag_cn_inj (fun _ => true) M (fun j => z (f j)) (c + 1) (fun _ => true) (fun i hi' _ => ⟨hM _ (hv i (by omega)), rfl⟩) (fun i i' a1 a2 _ _ e => by
    have e1 := hi _ _ (hv i (by omega)) (hv i' (by omega)) e
    have h1 := hf i (by omega)
    rw [e1] at h1
    exact ag_LsU h1 (hf i' (by omega)))
  rw [ag_cn_all, ag_cn_all] at this
  omega
/-! a search by levels over codes below N; U: not reached -/
def ag_Rl (N : Nat) (E : Nat → Nat → Nat → Prop) (s : Nat) (D D' : Nat → Nat) : Prop :=
  (∀ t, t < N → D' t ≤ D t) ∧ (∀ t p, t < N → E s t p → D' t ≤ D s + p) ∧ (∀ t, t < N → D' t = D t ∨ ∃ p, E s t p ∧ D' t = D s + p ∧ D s + p < D t)
def ag_Iv (N U : Nat) (E : Nat → Nat → Nat → Prop) (a c s : Nat) (D : Nat → Nat) : Prop :=
  D a = 0 ∧ (∀ t, t < N → D t ≤ U) ∧ (∀ t, t < N → D t < U → ag_Rc E a t (D t)) ∧ (∀ t u p, t < N → u < N → (D t < c ∨ (D t = c ∧ t < s)) → D t < U → E t u p → D u ≤ D t + p)
theorem ag_Iv0 {N U : Nat} {E : Nat → Nat → Nat → Prop} {a : Nat} (D : Nat → Nat) (ha : D a = 0) (hd : ∀ t, t < N → t ≠ a → D t = U) : ag_Iv N U E a 0 0 D := by
  refine ⟨ha, fun t ht => ?_, fun t ht h => ?_, fun t u p _ _ h => ?_⟩
  · by_cases e : t = a
    · rw [e, ha]; exact Nat.zero_le _
    · rw [hd t ht e]; exact Nat.le_refl _
  · by_cases e : t = a
    · rw [e, ha]; exact ag_Rc0 E a
    · have := hd t ht e; omega
  · omega
theorem ag_IvN {N U : Nat} {E : Nat → Nat → Nat → Prop} {a c : Nat} {D : Nat → Nat} (h : ag_Iv N U E a c N D) : ag_Iv N U E a (c + 1) 0 D :=
  ⟨h.1, h.2.1, h.2.2.1, fun t u p ht hu hd => h.2.2.2 t u p ht hu (by omega)⟩
theorem ag_IvK {N U : Nat} {E : Nat → Nat → Nat → Prop} {a c s : Nat} {D : Nat → Nat} (h : ag_Iv N U E a c s D) (hs : D s ≠ c) : ag_Iv N U E a c (s + 1) D := by
  refine ⟨h.1, h.2.1, h.2.2.1, fun t u p ht hu hd => h.2.2.2 t u p ht hu ?_⟩
  rcases hd with hd | ⟨hd, h1⟩
  · exact Or.inl hd
  · have : t ≠ s := fun e => hs (by rw [← e]; exact hd)
    exact Or.inr ⟨hd, by omega⟩
theorem ag_IvS {N U : Nat} {E : Nat → Nat → Nat → Prop} {a c s : Nat} {D D' : Nat → Nat} (ha : a < N) (hs : s < N) (hcU : c < U) (hz : ∀ t, E s t 0 → t = s) (h : ag_Iv N U E a c s D) (e : D s = c) (r : ag_Rl N E s D D') : ag_Iv N U E a c (s + 1) D' := by
  obtain ⟨i1, i2, i3, i4⟩ := h
  obtain ⟨r1, r2, r3⟩ := r
  have keep : ∀ t, t < N → D' t ≤ c → D' t = D t := fun t ht h => by
    rcases r3 t ht with h1 | ⟨p, e1, h1, h2⟩
    · exact h1
    · have : p = 0 := by omega
      subst this
      rw [hz t e1] at h2
      omega
  refine ⟨?_, fun t ht => Nat.le_trans (r1 t ht) (i2 t ht), fun t ht h => ?_, fun t u p ht hu hd hU e1 => ?_⟩
  · have := r1 a ha; omega
  · rcases r3 t ht with h1 | ⟨p, e1, h1, h2⟩
    · rw [h1]; exact i3 t ht (by omega)
    · rw [h1]; exact ag_RcS (i3 s hs (by omega)) e1
  · have k := keep t ht (by omega)
    rw [k] at hd hU ⊢
    by_cases y : t = s
    · subst y; exact r2 u p hu e1
    · exact Nat.le_trans (r1 u hu) (i4 t u p ht hu (by omega) hU e1)
/-- what is reached with less than c has no greater number than that -/
theorem ag_IvL {N U : Nat} {E : Nat → Nat → Nat → Prop} {a c s : Nat} {D : Nat → Nat} (ha : a < N) (hE : ∀ s t p, s < N → E s t p → t < N) (hcU : c ≤ U) (h : ag_Iv N U E a c s D) {t c' : Nat} (hr : ag_Rc E a t c') : t < N ∧ (c' < c → D t ≤ c') := by
  refine ag_RcI (fun t c' => t < N ∧ (c' < c → D t ≤ c')) ⟨ha, fun _ => by rw [h.1]; exact Nat.le_refl _⟩ ?_ hr
  rintro s1 t c1 p _ ⟨h1, h2⟩ e
  refine ⟨hE _ _ _ h1 e, fun h3 => ?_⟩
  have h4 := h2 (by omega)
  exact Nat.le_trans (h.2.2.2 s1 t p h1 (hE _ _ _ h1 e) (Or.inl (by omega)) (by omega) e) (by omega)
/-- the level at hand is no higher than the bound of the least costs -/
theorem ag_IvB {N U B : Nat} {E : Nat → Nat → Nat → Prop} {a c s : Nat} {D : Nat → Nat} (ha : a < N) (hE : ∀ s t p, s < N → E s t p → t < N) (hB : ∀ t c, ag_Ls E a t c → c < B) (hcU : c ≤ U) (h : ag_Iv N U E a c s D) {t : Nat} (ht : t < N) (hU : D t < U) (hc : c ≤ D t) : c < B := by
  obtain ⟨c0, h1, h2⟩ := ag_RcL (h.2.2.1 t ht hU)
  have h3 := hB t c0 h2
  by_cases y : c0 < c
  · have := (ag_IvL ha hE hcU h h2.1).2 y
    omega
  · omega
def ag_Sl (N U : Nat) (E : Nat → Nat → Nat → Prop) (a : Nat) (D : Nat → Nat) : Prop :=
  ∀ t, t < N → (D t < U ∧ ag_Ls E a t (D t)) ∨ (D t = U ∧ ∀ c, ¬ ag_Rc E a t c)
/-- all that is reached lies below the level: the numbers are the least costs -/
theorem ag_IvE {N U B : Nat} {E : Nat → Nat → Nat → Prop} {a c : Nat} {D : Nat → Nat} (ha : a < N) (hE : ∀ s t p, s < N → E s t p → t < N) (hB : ∀ t c, ag_Ls E a t c → c < B) (hBU : B ≤ U) (h : ag_Iv N U E a c 0 D) (hx : ∀ t, t < N → D t < U → D t < c) : ag_Sl N U E a D := by
  have key : ∀ {t c' : Nat}, ag_Rc E a t c' → t < N ∧ D t ≤ c' := by
    intro t c' hr
    refine ag_RcI (fun t c' => t < N ∧ D t ≤ c') ⟨ha, by rw [h.1]; exact Nat.le_refl _⟩ ?_ hr
    rintro s1 t c1 p _ ⟨h1, h2⟩ e
    have ht := hE _ _ _ h1 e
    refine ⟨ht, ?_⟩
    by_cases y : D s1 < U
    · have := h.2.2.2 s1 t p h1 ht (Or.inl (hx s1 h1 y)) y e
      omega
    · have := h.2.1 t ht
      omega
  intro t ht
  by_cases y : D t < U
  · exact Or.inl ⟨y, h.2.2.1 t ht y, fun c' hr => (key hr).2⟩
  · refine Or.inr ⟨by have := h.2.1 t ht; omega, fun c' hr => ?_⟩
    obtain ⟨c0, h1, h2⟩ := ag_RcL hr
    have h3 := (key h2.1).2
    have h4 := hB t c0 h2
    omega
end
section
/-! the grid: single moves, turns of three, both codes (draft, not yet compiled) -/
def ag_dir (a b : Nat) : Nat := if b + 4 = a then 0 else if b = a + 4 then 2 else if a / 4 ≠ b / 4 then 4 else if b = a + 1 then 1 else if b + 1 = a then 3 else 4
def ag_mv (w : Nat → Bool) (o : Nat → Nat) (a b : Nat) : Bool := decide (a < 12) && (decide (b < 12) && (!w a && (!w b && (decide (ag_dir a b < 4) && (o a).testBit (ag_dir a b)))))
def ag_go (w : Nat → Bool) (o : Nat → Nat) (a b : Nat) : Bool := decide (a = b) || ag_mv w o a b
def ag_gr (go : Nat → Nat → Bool) (a b : Nat) : Bool := go b a
def ag_par (c : Nat) : Nat := (c / 4 + c % 4) % 2
theorem ag_dir_sym : ∀ a, a < 12 → ∀ b, b < 12 → ag_dir a b < 4 → ag_dir b a < 4 := by decide +kernel
theorem ag_dir_par : ∀ a, a < 12 → ∀ b, b < 12 → ag_dir a b < 4 → ag_par a + ag_par b = 1 := by decide +kernel
theorem ag_dir_inj : ∀ a, a < 12 → ∀ b, b < 12 → ∀ b', b' < 12 → ag_dir a b < 4 → ag_dir a b = ag_dir a b' → b = b' := by decide +kernel
def ag_Gd (w : Nat → Bool) (go : Nat → Nat → Bool) : Prop := (∀ a, go a a = true) ∧ ∀ a b, go a b = true → a ≠ b → a < 12 ∧ b < 12 ∧ w a = false ∧ w b = false ∧ ag_dir a b < 4
theorem ag_mv_iff {w : Nat → Bool} {o : Nat → Nat} {a b : Nat} : ag_mv w o a b = true ↔ a < 12 ∧ b < 12 ∧ w a = false ∧ w b = false ∧ ag_dir a b < 4 ∧ (o a).testBit (ag_dir a b) = true := by
  simp [ag_mv]
theorem ag_Gd_go (w : Nat → Bool) (o : Nat → Nat) : ag_Gd w (ag_go w o) := by
  refine ⟨fun a => by simp [ag_go], fun a b h n => ?_⟩
  have h1 : ag_mv w o a b = true := by simpa [ag_go, n] using h
  obtain ⟨h1, h2, h3, h4, h5, _⟩ := ag_mv_iff.mp h1
  exact ⟨h1, h2, h3, h4, h5⟩
theorem ag_Gd_gr {w : Nat → Bool} {go : Nat → Nat → Bool} (h : ag_Gd w go) : ag_Gd w (ag_gr go) := by
  refine ⟨h.1, fun a b h1 n => ?_⟩
  obtain ⟨h2, h3, h4, h5, h6⟩ := h.2 b a h1 (fun e => n e.symm)
  exact ⟨h3, h2, h5, h4, ag_dir_sym b h2 a h3 h6⟩
def ag_st (a b : Nat) : Nat := if a = b then 0 else 1
theorem ag_st_le (a b : Nat) : ag_st a b ≤ 1 := by unfold ag_st; split <;> omega
theorem ag_st0 {a b : Nat} (h : ag_st a b = 0) : a = b := by
  unfold ag_st at h
  by_cases e : a = b
  · exact e
  · rw [if_neg e] at h; omega
theorem ag_stR (a : Nat) : ag_st a a = 0 := if_pos rfl
theorem ag_stN {a b : Nat} (h : a ≠ b) : ag_st a b = 1 := if_neg h
abbrev ag_cl (a a' b b' : Nat) : Prop := a' = b' ∨ (a' = b ∧ b' = a)
def ag_E (go : Nat → Nat → Bool) (f : Bool) (q q' : Nat × Nat × Nat) (p : Nat) : Prop :=
  go q.1 q'.1 = true ∧ go q.2.1 q'.2.1 = true ∧ go q.2.2 q'.2.2 = true ∧ ¬ ag_cl q.1 q'.1 q.2.1 q'.2.1 ∧ ¬ ag_cl q.1 q'.1 q.2.2 q'.2.2 ∧ ¬ ag_cl q.2.1 q'.2.1 q.2.2 q'.2.2 ∧ p = (if f = true then ag_st q.1 q'.1 + ag_st q.2.1 q'.2.1 + ag_st q.2.2 q'.2.2 else 1)
def ag_sp (w : Nat → Bool) (m : Bool) (i a : Nat) : Prop := (m = true → a < 12 ∧ w a = false) ∧ (m = false → a = 12 + i)
def ag_V (w : Nat → Bool) (T : Nat) (q : Nat × Nat × Nat) : Prop :=
  ag_sp w (T.testBit 0) 0 q.1 ∧ ag_sp w (T.testBit 1) 1 q.2.1 ∧ ag_sp w (T.testBit 2) 2 q.2.2 ∧ q.1 ≠ q.2.1 ∧ q.1 ≠ q.2.2 ∧ q.2.1 ≠ q.2.2
theorem ag_sp_go {w : Nat → Bool} {go : Nat → Nat → Bool} (hg : ag_Gd w go) {m : Bool} {i a b : Nat} (h : ag_sp w m i a) (e : go a b = true) : ag_sp w m i b := by
  by_cases n : a = b
  · subst n; exact h
  · obtain ⟨h1, h2, h3, h4, _⟩ := hg.2 a b e n
    refine ⟨fun _ => ⟨h2, h4⟩, fun hm => ?_⟩
    have := h.2 hm
    omega
theorem ag_V_E {w : Nat → Bool} {go : Nat → Nat → Bool} (hg : ag_Gd w go) {f : Bool} {T : Nat} {q q' : Nat × Nat × Nat} {p : Nat} (h : ag_V w T q) (e : ag_E go f q q' p) : ag_V w T q' := by
  obtain ⟨v1, v2, v3, _, _, _⟩ := h
  obtain ⟨e1, e2, e3, c1, c2, c3, _⟩ := e
  exact ⟨ag_sp_go hg v1 e1, ag_sp_go hg v2 e2, ag_sp_go hg v3 e3, fun z => c1 (Or.inl z), fun z => c2 (Or.inl z), fun z => c3 (Or.inl z)⟩
theorem ag_E_z {go : Nat → Nat → Bool} {f : Bool} {q q' : Nat × Nat × Nat} (e : ag_E go f q q' 0) : q' = q := by
  obtain ⟨_, _, _, _, _, _, h⟩ := e
  obtain ⟨a, b, c⟩ := q
  obtain ⟨a', b', c'⟩ := q'
  cases f
  · exact absurd h (by simp)
  · simp only [if_true] at h
    rw [ag_st0 (a := a) (b := a') (by omega), ag_st0 (a := b) (b := b') (by omega), ag_st0 (a := c) (b := c') (by omega)]
/-- of the walkers that step there is one whose cell nobody enters: it may go last -/
theorem ag_last {w : Nat → Bool} {go : Nat → Nat → Bool} (hg : ag_Gd w go) {a b c a' b' c' : Nat} (n1 : a ≠ b) (n2 : a ≠ c) (n3 : b ≠ c) (e1 : go a a' = true) (e2 : go b b' = true) (e3 : go c c' = true) (c1 : ¬ ag_cl a a' b b') (c2 : ¬ ag_cl a a' c c') (c3 : ¬ ag_cl b b' c c') (m : a ≠ a' ∨ b ≠ b' ∨ c ≠ c') : (a ≠ a' ∧ b' ≠ a ∧ c' ≠ a) ∨ (b ≠ b' ∧ a' ≠ b ∧ c' ≠ b) ∨ (c ≠ c' ∧ a' ≠ c ∧ b' ≠ c) := by
  have pa : a ≠ a' → ag_par a + ag_par a' = 1 := fun n => by
    obtain ⟨h1, h2, _, _, h3⟩ := hg.2 a a' e1 n
    exact ag_dir_par a h1 a' h2 h3
  have pb : b ≠ b' → ag_par b + ag_par b' = 1 := fun n => by
    obtain ⟨h1, h2, _, _, h3⟩ := hg.2 b b' e2 n
    exact ag_dir_par b h1 b' h2 h3
  have pc : c ≠ c' → ag_par c + ag_par c' = 1 := fun n => by
    obtain ⟨h1, h2, _, _, h3⟩ := hg.2 c c' e3 n
    exact ag_dir_par c h1 c' h2 h3
  unfold ag_cl at c1 c2 c3
  -- the rings of three: a to b, b to c, c to a; and the other way round
  have r1 : ¬ (a' = b ∧ b' = c ∧ c' = a) := by
    rintro ⟨rfl, rfl, rfl⟩
    have h1 := pa (by omega)
    have h2 := pb (by omega)
    have h3 := pc (by omega)
    omega
  have r2 : ¬ (a' = c ∧ c' = b ∧ b' = a) := by
    rintro ⟨rfl, rfl, rfl⟩
    have h1 := pa (by omega)
    have h2 := pb (by omega)
    have h3 := pc (by omega)
    omega
  clear pa pb pc hg e1 e2 e3
  grind
theorem ag_E_c {w : Nat → Bool} {go : Nat → Nat → Bool} (hg : ag_Gd w go) {f : Bool} {T : Nat} {q q' : Nat × Nat × Nat} {p : Nat} (h : ag_V w T q) (e : ag_E go f q q' (p + 2)) : ∃ r, ag_E go f q r (p + 1) ∧ ag_E go f r q' 1 := by
  obtain ⟨_, _, _, n1, n2, n3⟩ := h
  obtain ⟨e1, e2, e3, c1, c2, c3, hp⟩ := e
  obtain ⟨a, b, c⟩ := q
  obtain ⟨a', b', c'⟩ := q'
  dsimp only at n1 n2 n3 e1 e2 e3 c1 c2 c3 hp
  cases f
  · exact absurd hp (by simp)
  · simp only [if_true] at hp
    have m : a ≠ a' ∨ b ≠ b' ∨ c ≠ c' := by
      by_cases x : a = a'
      · by_cases y : b = b'
        · by_cases z : c = c'
          · subst x; subst y; subst z
            rw [ag_stR, ag_stR, ag_stR] at hp
            omega
          · exact Or.inr (Or.inr z)
        · exact Or.inr (Or.inl y)
      · exact Or.inl x
    have l := ag_last hg n1 n2 n3 e1 e2 e3 c1 c2 c3 m
    clear m
    unfold ag_cl at c1 c2 c3
    rcases l with ⟨l1, l2, l3⟩ | ⟨l1, l2, l3⟩ | ⟨l1, l2, l3⟩
    · refine ⟨(a, b', c'), ⟨hg.1 a, e2, e3, ?_, ?_, ?_, ?_⟩, ⟨e1, hg.1 b', hg.1 c', ?_, ?_, ?_, ?_⟩⟩ <;> simp only [ag_cl, if_true, ag_stR, ag_stN l1] at hp ⊢ <;> clear e1 e2 e3 hg <;> first | (clear c1 c2 c3 l1 l2 l3 n1 n2 n3; omega) | (clear hp; grind)
    · refine ⟨(a', b, c'), ⟨e1, hg.1 b, e3, ?_, ?_, ?_, ?_⟩, ⟨hg.1 a', e2, hg.1 c', ?_, ?_, ?_, ?_⟩⟩ <;> simp only [ag_cl, if_true, ag_stR, ag_stN l1] at hp ⊢ <;> clear e1 e2 e3 hg <;> first | (clear c1 c2 c3 l1 l2 l3 n1 n2 n3; omega) | (clear hp; grind)
    · refine ⟨(a', b', c), ⟨e1, e2, hg.1 c, ?_, ?_, ?_, ?_⟩, ⟨hg.1 a', hg.1 b', e3, ?_, ?_, ?_, ?_⟩⟩ <;> simp only [ag_cl, if_true, ag_stR, ag_stN l1] at hp ⊢ <;> clear e1 e2 e3 hg <;> first | (clear c1 c2 c3 l1 l2 l3 n1 n2 n3; omega) | (clear hp; grind)
/-- a code below 1728 for the states of one team -/
def ag_z (q : Nat × Nat × Nat) : Nat := 144 * (q.1 % 12) + 12 * (q.2.1 % 12) + q.2.2 % 12
theorem ag_z_lt (q : Nat × Nat × Nat) : ag_z q < 1728 := by unfold ag_z; omega
theorem ag_sp_m {w : Nat → Bool} {m : Bool} {i a a' : Nat} (h : ag_sp w m i a) (h' : ag_sp w m i a') (e : a % 12 = a' % 12) : a = a' := by
  cases m
  · rw [h.2 rfl, h'.2 rfl]
  · have := (h.1 rfl).1
    have := (h'.1 rfl).1
    omega
theorem ag_z_inj {w : Nat → Bool} {T : Nat} {q q' : Nat × Nat × Nat} (h : ag_V w T q) (h' : ag_V w T q') (e : ag_z q = ag_z q') : q = q' := by
  obtain ⟨a, b, c⟩ := q
  obtain ⟨a', b', c'⟩ := q'
  unfold ag_z at e
  dsimp only at e
  obtain ⟨h1, h2, h3, _⟩ := h
  obtain ⟨k1, k2, k3, _⟩ := h'
  have e1 : a = a' := ag_sp_m h1 k1 (by omega)
  have e2 : b = b' := ag_sp_m h2 k2 (by omega)
  have e3 : c = c' := ag_sp_m h3 k3 (by omega)
  rw [e1, e2, e3]
theorem ag_E_bd {w : Nat → Bool} {go : Nat → Nat → Bool} (hg : ag_Gd w go) {f : Bool} {T : Nat} {a : Nat × Nat × Nat} (ha : ag_V w T a) {t : Nat × Nat × Nat} {c : Nat} (h : ag_Ls (ag_E go f) a t c) : c < 1728 :=
  ag_bd (E := ag_E go f) (ag_V w T) ha (fun _ _ _ h e => ag_V_E hg h e) (fun _ _ e => ag_E_z e) (fun _ _ _ h e => ag_E_c hg h e) 1728 ag_z (fun q _ => ag_z_lt q) (fun _ _ h h' e => ag_z_inj h h' e) h
/-! X's code -/
def ag_ex (q : Nat × Nat × Nat) : Nat := (q.1 * 15 + q.2.1) * 15 + q.2.2
def ag_dx (s : Nat) : Nat × Nat × Nat := (s / 225, s / 15 % 15, s % 15)
theorem ag_ex_dx (s : Nat) : ag_ex (ag_dx s) = s := by unfold ag_ex ag_dx; dsimp only; omega
theorem ag_dx_ex {q : Nat × Nat × Nat} (h2 : q.2.1 < 15) (h3 : q.2.2 < 15) : ag_dx (ag_ex q) = q := by
  obtain ⟨a, b, c⟩ := q
  unfold ag_ex ag_dx
  dsimp only at h2 h3 ⊢
  rw [show ((a * 15 + b) * 15 + c) / 225 = a by omega, show ((a * 15 + b) * 15 + c) / 15 % 15 = b by omega, show ((a * 15 + b) * 15 + c) % 15 = c by omega]
theorem ag_sp15 {w : Nat → Bool} {m : Bool} {i a : Nat} (hi : i < 3) (h : ag_sp w m i a) : a < 15 := by
  cases m
  · rw [h.2 rfl]; omega
  · have := (h.1 rfl).1; omega
theorem ag_V15 {w : Nat → Bool} {T : Nat} {q : Nat × Nat × Nat} (h : ag_V w T q) : q.1 < 15 ∧ q.2.1 < 15 ∧ q.2.2 < 15 :=
  ⟨ag_sp15 (by omega) h.1, ag_sp15 (by omega) h.2.1, ag_sp15 (by omega) h.2.2.1⟩
theorem ag_exV {w : Nat → Bool} {T : Nat} {q : Nat × Nat × Nat} (h : ag_V w T q) : ag_ex q < 3375 ∧ ag_dx (ag_ex q) = q := by
  obtain ⟨h1, h2, h3⟩ := ag_V15 h
  refine ⟨?_, ag_dx_ex h2 h3⟩
  unfold ag_ex
  omega
def ag_GX (go : Nat → Nat → Bool) (f : Bool) (s t p : Nat) : Prop := t < 3375 ∧ ag_E go f (ag_dx s) (ag_dx t) p
theorem ag_simX {w : Nat → Bool} {go : Nat → Nat → Bool} (hg : ag_Gd w go) (f : Bool) (T : Nat) {a : Nat × Nat × Nat} (ha : ag_V w T a) (t c : Nat) : ag_Rc (ag_GX go f) (ag_ex a) t c ↔ ∃ q, t = ag_ex q ∧ ag_V w T q ∧ ag_Rc (ag_E go f) a q c := by
  refine ag_sim ag_ex (ag_E go f) (ag_GX go f) (ag_V w T) (fun _ _ _ h e => ag_V_E hg h e) (fun q q' p h e => ?_) (fun q t p h e => ?_) ha t c
  · have h' := ag_V_E hg h e
    unfold ag_GX
    rw [(ag_exV h).2, (ag_exV h').2]
    exact ⟨(ag_exV h').1, e⟩
  · unfold ag_GX at e
    rw [(ag_exV h).2] at e
    exact ⟨ag_dx t, (ag_ex_dx t).symm, e.2⟩
end
section
/-! the reference's graph: turns by number, codes by team (draft, not yet compiled) -/
def ag_bs (c d : Nat) : Nat := if d = 0 then (if c < 4 then 12 else c - 4) else if d = 1 then (if c % 4 = 3 then 12 else c + 1) else if d = 2 then (if c < 8 then c + 4 else 12) else if d = 3 then (if c % 4 = 0 then 12 else c - 1) else 12
theorem ag_bs_dir : ∀ c, c < 12 → ∀ d, d < 4 → ag_bs c d < 12 → ag_dir c (ag_bs c d) = d := by decide +kernel
theorem ag_dir_bs : ∀ c, c < 12 → ∀ b, b < 12 → ag_dir c b < 4 → ag_bs c (ag_dir c b) = b := by decide +kernel
theorem ag_bs_ne : ∀ c, c < 12 → ∀ d, d < 4 → ag_bs c d ≠ c := by decide +kernel
theorem ag_bs_le : ∀ c, c < 12 → ∀ d, d < 4 → ag_bs c d ≤ 12 := by decide +kernel
/-- where direction d (4: staying) leads from c; 12: nowhere -/
def ag_tg (w : Nat → Bool) (o : Nat → Nat) (c d : Nat) : Nat := if d = 4 then (if w c = true then 12 else c) else if ag_bs c d < 12 ∧ w c = false ∧ w (ag_bs c d) = false ∧ (o c).testBit d = true then ag_bs c d else 12
theorem ag_tg_le {w : Nat → Bool} {o : Nat → Nat} {c d : Nat} (hc : c < 12) : ag_tg w o c d ≤ 12 := by
  unfold ag_tg
  split
  · split <;> omega
  · split
    · omega
    · omega
theorem ag_tg4 {w : Nat → Bool} {o : Nat → Nat} {c : Nat} (h : w c = false) : ag_tg w o c 4 = c := by
  unfold ag_tg
  rw [if_pos rfl, if_neg (by rw [h]; decide)]
theorem ag_tg_st {w : Nat → Bool} {o : Nat → Nat} {c d : Nat} (hc : c < 12) (hd : d < 5) (h : ag_tg w o c d < 12) : (if d < 4 then 1 else 0) = ag_st c (ag_tg w o c d) := by
  unfold ag_tg at h ⊢
  by_cases e : d = 4
  · subst e
    rw [if_pos rfl] at h ⊢
    by_cases y : w c = true
    · rw [if_pos y] at h; omega
    · rw [if_neg y, ag_stR]; rfl
  · rw [if_neg e] at h ⊢
    by_cases y : ag_bs c d < 12 ∧ w c = false ∧ w (ag_bs c d) = false ∧ (o c).testBit d = true
    · rw [if_pos y, if_pos (show d < 4 by omega), ag_stN (fun z => ag_bs_ne c hc d (by omega) z.symm)]
    · rw [if_neg y] at h; omega
theorem ag_tg_go {w : Nat → Bool} {o : Nat → Nat} {c d : Nat} (hc : c < 12) (hd : d < 5) (h : ag_tg w o c d < 12) : ag_go w o c (ag_tg w o c d) = true := by
  unfold ag_tg at h ⊢
  by_cases e : d = 4
  · subst e
    rw [if_pos rfl] at h ⊢
    by_cases y : w c = true
    · rw [if_pos y] at h; omega
    · rw [if_neg y]; simp [ag_go]
  · rw [if_neg e] at h ⊢
    by_cases y : ag_bs c d < 12 ∧ w c = false ∧ w (ag_bs c d) = false ∧ (o c).testBit d = true
    · rw [if_pos y]
      have hd4 : d < 4 := by omega
      have k := ag_bs_dir c hc d hd4 y.1
      have : ag_mv w o c (ag_bs c d) = true := ag_mv_iff.mpr ⟨hc, y.1, y.2.1, y.2.2.1, by rw [k]; exact hd4, by rw [k]; exact y.2.2.2⟩
      unfold ag_go
      rw [this, Bool.or_true]
    · rw [if_neg y] at h; omega
theorem ag_go_tg {w : Nat → Bool} {o : Nat → Nat} {c b : Nat} (hc : c < 12) (hw : w c = false) (h : ag_go w o c b = true) : ∃ d, d < 5 ∧ ag_tg w o c d = b ∧ b < 12 := by
  by_cases e : c = b
  · subst e; exact ⟨4, by omega, ag_tg4 hw, hc⟩
  · have h1 : ag_mv w o c b = true := by simpa [ag_go, e] using h
    obtain ⟨_, h2, _, h4, h5, h6⟩ := ag_mv_iff.mp h1
    have k := ag_dir_bs c hc b h2 h5
    refine ⟨ag_dir c b, by omega, ?_, h2⟩
    unfold ag_tg
    rw [if_neg (by omega), if_pos ⟨by rw [k]; exact h2, hw, by rw [k]; exact h4, h6⟩, k]
/-- the state after a turn; 1728: it can't be done -/
def ag_af (w : Nat → Bool) (o : Nat → Nat) (n s t : Nat) : Nat :=
  let x := if 0 < n then ag_tg w o (s / 144) (t / 25) else 0
  let y := if 1 < n then ag_tg w o (s / 12 % 12) (t / 5 % 5) else 0
  let z := if 2 < n then ag_tg w o (s % 12) (t % 5) else 0
  if x = 12 ∨ y = 12 ∨ z = 12 ∨ (1 < n ∧ ag_cl (s / 144) x (s / 12 % 12) y) ∨ (2 < n ∧ (ag_cl (s / 144) x (s % 12) z ∨ ag_cl (s / 12 % 12) y (s % 12) z)) then 1728 else 144 * x + 12 * y + z
def ag_ef (n t : Nat) : Nat := (if t / 25 < 4 then 1 else 0) + (if 1 < n ∧ t / 5 % 5 < 4 then 1 else 0) + (if 2 < n ∧ t % 5 < 4 then 1 else 0)
def ag_GY (w : Nat → Bool) (o : Nat → Nat) (n : Nat) (f : Bool) (s t p : Nat) : Prop := t < 1728 ∧ ∃ k, k < 125 ∧ ag_af w o n s k = t ∧ p = (if f = true then ag_ef n k else 1)
def ag_ey (T : Nat) (q : Nat × Nat × Nat) : Nat :=
  if T = 1 then 144 * q.1 else if T = 2 then 144 * q.2.1 else if T = 3 then 144 * q.1 + 12 * q.2.1 else if T = 4 then 144 * q.2.2 else if T = 5 then 144 * q.1 + 12 * q.2.2 else if T = 6 then 144 * q.2.1 + 12 * q.2.2 else 144 * q.1 + 12 * q.2.1 + q.2.2
def ag_sz (T : Nat) : Nat := if T = 1 then 1 else if T = 2 then 1 else if T = 3 then 2 else if T = 4 then 1 else if T = 5 then 2 else if T = 6 then 2 else 3
theorem ag_GY1 {w : Nat → Bool} {o : Nat → Nat} {f : Bool} {a t p : Nat} (ha : a < 12) (wa : w a = false) : ag_GY w o 1 f (144 * a) t p ↔ ∃ a', t = 144 * a' ∧ ag_go w o a a' = true ∧ p = (if f = true then ag_st a a' else 1) := by
  have s1 : 144 * a / 144 = a := by omega
  constructor
  · rintro ⟨ht, k, hk, e, ep⟩
    unfold ag_af at e
    simp only [s1, show (0 : Nat) < 1 from by omega, show ¬ (1 : Nat) < 1 from by omega, show ¬ (2 : Nat) < 1 from by omega, if_true, if_false, false_and, or_false] at e
    have hd : k / 25 < 5 := by omega
    generalize hx : ag_tg w o a (k / 25) = x at e
    have hle : x ≤ 12 := by rw [← hx]; exact ag_tg_le ha
    have hlt : x < 12 := by
      by_cases y : x = 12
      · rw [if_pos (Or.inl y)] at e; omega
      · omega
    rw [if_neg (by omega)] at e
    refine ⟨x, by omega, by rw [← hx]; exact ag_tg_go ha hd (by omega), ?_⟩
    rw [ep]
    have := ag_tg_st (w := w) (o := o) (c := a) (d := k / 25) ha hd (by omega)
    rw [hx] at this
    rw [← this]
    simp [ag_ef]
  · rintro ⟨a', rfl, h, rfl⟩
    obtain ⟨d, hd, e, hb⟩ := ag_go_tg ha wa h
    have k1 : 25 * d / 25 = d := by omega
    refine ⟨by omega, 25 * d, by omega, ?_, ?_⟩
    · unfold ag_af
      simp only [s1, k1, e, show (0 : Nat) < 1 from by omega, show ¬ (1 : Nat) < 1 from by omega, show ¬ (2 : Nat) < 1 from by omega, if_true, if_false, false_and, or_false]
      rw [if_neg (by omega)]
      omega
    · have := ag_tg_st (w := w) (o := o) (c := a) (d := d) ha hd (by omega)
      rw [e] at this
      rw [← this]
      simp [ag_ef, k1]
theorem ag_GY2 {w : Nat → Bool} {o : Nat → Nat} {f : Bool} {a b t p : Nat} (ha : a < 12) (wa : w a = false) (hb : b < 12) (wb : w b = false) : ag_GY w o 2 f (144 * a + 12 * b) t p ↔ ∃ a' b', t = 144 * a' + 12 * b' ∧ ag_go w o a a' = true ∧ ag_go w o b b' = true ∧ ¬ ag_cl a a' b b' ∧ p = (if f = true then ag_st a a' + ag_st b b' else 1) := by
  have s1 : (144 * a + 12 * b) / 144 = a := by omega
  have s2 : (144 * a + 12 * b) / 12 % 12 = b := by omega
  constructor
  · rintro ⟨ht, k, hk, e, ep⟩
    unfold ag_af at e
    simp only [s1, s2, show (0 : Nat) < 2 from by omega, show (1 : Nat) < 2 from by omega, show ¬ (2 : Nat) < 2 from by omega, if_true, if_false, false_and, true_and, or_false] at e
    have hd : k / 25 < 5 := by omega
    have hd2 : k / 5 % 5 < 5 := by omega
    generalize hx : ag_tg w o a (k / 25) = x at e
    generalize hy : ag_tg w o b (k / 5 % 5) = y at e
    have hle : x ≤ 12 := by rw [← hx]; exact ag_tg_le ha
    have hle2 : y ≤ 12 := by rw [← hy]; exact ag_tg_le hb
    have hc : ¬ (x = 12 ∨ y = 12 ∨ (0 : Nat) = 12 ∨ ag_cl a x b y) := fun z => by
      rw [if_pos z] at e; omega
    rw [if_neg hc] at e
    have hx12 : x < 12 := by omega
    have hy12 : y < 12 := by omega
    refine ⟨x, y, by omega, by rw [← hx]; exact ag_tg_go ha hd (by omega), by rw [← hy]; exact ag_tg_go hb hd2 (by omega), fun z => hc (Or.inr (Or.inr (Or.inr z))), ?_⟩
    rw [ep]
    have k1 := ag_tg_st (w := w) (o := o) (c := a) (d := k / 25) ha hd (by omega)
    have k2 := ag_tg_st (w := w) (o := o) (c := b) (d := k / 5 % 5) hb hd2 (by omega)
    rw [hx] at k1
    rw [hy] at k2
    rw [← k1, ← k2]
    simp [ag_ef]
  · rintro ⟨a', b', rfl, h, h', hc, rfl⟩
    obtain ⟨d, hd, e, hb1⟩ := ag_go_tg ha wa h
    obtain ⟨d', hd', e', hb2⟩ := ag_go_tg hb wb h'
    have k1 : (25 * d + 5 * d') / 25 = d := by omega
    have k2 : (25 * d + 5 * d') / 5 % 5 = d' := by omega
    refine ⟨by omega, 25 * d + 5 * d', by omega, ?_, ?_⟩
    · unfold ag_af
      simp only [s1, s2, k1, k2, e, e', show (0 : Nat) < 2 from by omega, show (1 : Nat) < 2 from by omega, show ¬ (2 : Nat) < 2 from by omega, if_true, if_false, false_and, true_and, or_false]
      rw [if_neg (fun z => by rcases z with z | z | z | z; omega; omega; omega; exact hc z)]
      omega
    · have j1 := ag_tg_st (w := w) (o := o) (c := a) (d := d) ha hd (by omega)
      have j2 := ag_tg_st (w := w) (o := o) (c := b) (d := d') hb hd' (by omega)
      rw [e] at j1
      rw [e'] at j2
      rw [← j1, ← j2]
      simp [ag_ef, k1, k2]
theorem ag_GY3 {w : Nat → Bool} {o : Nat → Nat} {f : Bool} {a b c t p : Nat} (ha : a < 12) (wa : w a = false) (hb : b < 12) (wb : w b = false) (hc : c < 12) (wc : w c = false) : ag_GY w o 3 f (144 * a + 12 * b + c) t p ↔ ∃ a' b' c', t = 144 * a' + 12 * b' + c' ∧ ag_go w o a a' = true ∧ ag_go w o b b' = true ∧ ag_go w o c c' = true ∧ ¬ ag_cl a a' b b' ∧ ¬ ag_cl a a' c c' ∧ ¬ ag_cl b b' c c' ∧ p = (if f = true then ag_st a a' + ag_st b b' + ag_st c c' else 1) := by
  have s1 : (144 * a + 12 * b + c) / 144 = a := by omega
  have s2 : (144 * a + 12 * b + c) / 12 % 12 = b := by omega
  have s3 : (144 * a + 12 * b + c) % 12 = c := by omega
  constructor
  · rintro ⟨ht, k, hk, e, ep⟩
    unfold ag_af at e
    simp only [s1, s2, s3, show (0 : Nat) < 3 from by omega, show (1 : Nat) < 3 from by omega, show (2 : Nat) < 3 from by omega, if_true, true_and] at e
    have hd : k / 25 < 5 := by omega
    have hd2 : k / 5 % 5 < 5 := by omega
    have hd3 : k % 5 < 5 := by omega
    generalize hx : ag_tg w o a (k / 25) = x at e
    generalize hy : ag_tg w o b (k / 5 % 5) = y at e
    generalize hz : ag_tg w o c (k % 5) = z at e
    have hle : x ≤ 12 := by rw [← hx]; exact ag_tg_le ha
    have hle2 : y ≤ 12 := by rw [← hy]; exact ag_tg_le hb
    have hle3 : z ≤ 12 := by rw [← hz]; exact ag_tg_le hc
    have hn : ¬ (x = 12 ∨ y = 12 ∨ z = 12 ∨ ag_cl a x b y ∨ ag_cl a x c z ∨ ag_cl b y c z) := fun z => by
      rw [if_pos z] at e; omega
    rw [if_neg hn] at e
    have hx12 : x < 12 := by omega
    have hy12 : y < 12 := by omega
    have hz12 : z < 12 := by omega
    refine ⟨x, y, z, by omega, by rw [← hx]; exact ag_tg_go ha hd (by omega), by rw [← hy]; exact ag_tg_go hb hd2 (by omega), by rw [← hz]; exact ag_tg_go hc hd3 (by omega), fun z => hn (Or.inr (Or.inr (Or.inr (Or.inl z)))), fun z => hn (Or.inr (Or.inr (Or.inr (Or.inr (Or.inl z))))), fun z => hn (Or.inr (Or.inr (Or.inr (Or.inr (Or.inr z))))), ?_⟩
    rw [ep]
    have k1 := ag_tg_st (w := w) (o := o) (c := a) (d := k / 25) ha hd (by omega)
    have k2 := ag_tg_st (w := w) (o := o) (c := b) (d := k / 5 % 5) hb hd2 (by omega)
    have k3 := ag_tg_st (w := w) (o := o) (c := c) (d := k % 5) hc hd3 (by omega)
    rw [hx] at k1
    rw [hy] at k2
    rw [hz] at k3
    rw [← k1, ← k2, ← k3]
    simp [ag_ef]
  · rintro ⟨a', b', c', rfl, h, h', h'', c1, c2, c3, rfl⟩
    obtain ⟨d, hd, e, hb1⟩ := ag_go_tg ha wa h
    obtain ⟨d', hd', e', hb2⟩ := ag_go_tg hb wb h'
    obtain ⟨d'', hd'', e'', hb3⟩ := ag_go_tg hc wc h''
    have k1 : (25 * d + 5 * d' + d'') / 25 = d := by omega
    have k2 : (25 * d + 5 * d' + d'') / 5 % 5 = d' := by omega
    have k3 : (25 * d + 5 * d' + d'') % 5 = d'' := by omega
    refine ⟨by omega, 25 * d + 5 * d' + d'', by omega, ?_, ?_⟩
    · unfold ag_af
      simp only [s1, s2, s3, k1, k2, k3, e, e', e'', show (0 : Nat) < 3 from by omega, show (1 : Nat) < 3 from by omega, show (2 : Nat) < 3 from by omega, if_true, true_and]
      rw [if_neg (fun z => by rcases z with z | z | z | z | z | z; omega; omega; omega; exact c1 z; exact c2 z; exact c3 z)]
    · have j1 := ag_tg_st (w := w) (o := o) (c := a) (d := d) ha hd (by omega)
      have j2 := ag_tg_st (w := w) (o := o) (c := b) (d := d') hb hd' (by omega)
      have j3 := ag_tg_st (w := w) (o := o) (c := c) (d := d'') hc hd'' (by omega)
      rw [e] at j1
      rw [e'] at j2
      rw [e''] at j3
      rw [← j1, ← j2, ← j3]
      simp [ag_ef, k1, k2, k3]
end
section
/-! teams: the reference's graph in the turns of three; both orders; the way back; the first plan (draft, not yet compiled) -/
theorem ag_off {w : Nat → Bool} {go : Nat → Nat → Bool} (hg : ag_Gd w go) {i b : Nat} (h : go (12 + i) b = true) : b = 12 + i := by
  by_cases e : 12 + i = b
  · exact e.symm
  · have := (hg.2 _ _ h e).1; omega
theorem ag_on {w : Nat → Bool} {go : Nat → Nat → Bool} (hg : ag_Gd w go) {a b : Nat} (ha : a < 12) (h : go a b = true) : b < 12 := by
  by_cases e : a = b
  · omega
  · exact (hg.2 _ _ h e).2.1
/-- T's seven cases -/
theorem ag_T7 {P : Nat → Prop} (h1 : P 1) (h2 : P 2) (h3 : P 3) (h4 : P 4) (h5 : P 5) (h6 : P 6) (h7 : P 7) : ∀ T, 1 ≤ T → T ≤ 7 → P T := by
  intro T a b
  have : T = 1 ∨ T = 2 ∨ T = 3 ∨ T = 4 ∨ T = 5 ∨ T = 6 ∨ T = 7 := by omega
  rcases this with rfl | rfl | rfl | rfl | rfl | rfl | rfl <;> assumption
theorem ag_eyV {w : Nat → Bool} : ∀ T, 1 ≤ T → T ≤ 7 → ∀ q, ag_V w T q → ag_ey T q < 1728 := by
  refine ag_T7 ?_ ?_ ?_ ?_ ?_ ?_ ?_ <;>
  · rintro ⟨a, b, c⟩ ⟨h1, h2, h3, _⟩
    simp [ag_sp, Nat.testBit, ag_ey] at h1 h2 h3 ⊢
    omega
theorem ag_ey_ord {w : Nat → Bool} : ∀ T, 1 ≤ T → T ≤ 7 → ∀ q q', ag_V w T q → ag_V w T q' → (ag_ex q ≤ ag_ex q' ↔ ag_ey T q ≤ ag_ey T q') := by
  refine ag_T7 ?_ ?_ ?_ ?_ ?_ ?_ ?_ <;>
  · rintro ⟨a, b, c⟩ ⟨a', b', c'⟩ ⟨h1, h2, h3, _⟩ ⟨k1, k2, k3, _⟩
    simp [ag_sp, Nat.testBit, ag_ey, ag_ex] at h1 h2 h3 k1 k2 k3 ⊢
    omega
theorem ag_ex_inj {w : Nat → Bool} {T : Nat} {q q' : Nat × Nat × Nat} (h : ag_V w T q) (h' : ag_V w T q') (e : ag_ex q = ag_ex q') : q = q' := by
  rw [← (ag_exV h).2, ← (ag_exV h').2, e]
theorem ag_ey_inj {w : Nat → Bool} {T : Nat} (h1 : 1 ≤ T) (h7 : T ≤ 7) {q q' : Nat × Nat × Nat} (h : ag_V w T q) (h' : ag_V w T q') (e : ag_ey T q = ag_ey T q') : q = q' := by
  have k1 := (ag_ey_ord T h1 h7 q q' h h').mpr (by omega)
  have k2 := (ag_ey_ord T h1 h7 q' q h' h).mpr (by omega)
  exact ag_ex_inj h h' (by omega)
/-- one turn, in both graphs -/
def ag_TE (w : Nat → Bool) (o : Nat → Nat) (f : Bool) (T : Nat) : Prop := ∀ q t p, ag_V w T q → (ag_GY w o (ag_sz T) f (ag_ey T q) t p ↔ ∃ q', t = ag_ey T q' ∧ ag_E (ag_go w o) f q q' p)
theorem ag_TE7 (w : Nat → Bool) (o : Nat → Nat) (f : Bool) : ag_TE w o f 7 := by
  rintro ⟨a, b, c⟩ t p ⟨h1, h2, h3, _⟩
  obtain ⟨a1, a2⟩ := h1.1 rfl
  obtain ⟨b1, b2⟩ := h2.1 rfl
  obtain ⟨c1, c2⟩ := h3.1 rfl
  dsimp only at a1 a2 b1 b2 c1 c2
  show ag_GY w o 3 f (144 * a + 12 * b + c) t p ↔ ∃ q' : Nat × Nat × Nat, t = 144 * q'.1 + 12 * q'.2.1 + q'.2.2 ∧ ag_E (ag_go w o) f (a, b, c) q' p
  rw [ag_GY3 a1 a2 b1 b2 c1 c2]
  constructor
  · rintro ⟨a', b', c', rfl, g1, g2, g3, l1, l2, l3, e⟩
    exact ⟨(a', b', c'), rfl, g1, g2, g3, l1, l2, l3, e⟩
  · rintro ⟨⟨a', b', c'⟩, rfl, g1, g2, g3, l1, l2, l3, e⟩
    exact ⟨a', b', c', rfl, g1, g2, g3, l1, l2, l3, e⟩
theorem ag_TE3 (w : Nat → Bool) (o : Nat → Nat) (f : Bool) : ag_TE w o f 3 := by
  rintro ⟨a, b, c⟩ t p ⟨h1, h2, h3, _⟩
  obtain ⟨a1, a2⟩ := h1.1 rfl
  obtain ⟨b1, b2⟩ := h2.1 rfl
  have c1 := h3.2 rfl
  dsimp only at a1 a2 b1 b2 c1
  subst c1
  show ag_GY w o 2 f (144 * a + 12 * b) t p ↔ ∃ q' : Nat × Nat × Nat, t = 144 * q'.1 + 12 * q'.2.1 ∧ ag_E (ag_go w o) f (a, b, 12 + 2) q' p
  rw [ag_GY2 a1 a2 b1 b2]
  have hg := ag_Gd_go w o
  constructor
  · rintro ⟨a', b', rfl, g1, g2, l1, e⟩
    have k1 := ag_on hg a1 g1
    have k2 := ag_on hg b1 g2
    refine ⟨(a', b', 12 + 2), rfl, g1, g2, hg.1 _, l1, ?_, ?_, ?_⟩
    · simp only [ag_cl]; omega
    · simp only [ag_cl]; omega
    · rw [e, ag_stR, Nat.add_zero]
  · rintro ⟨⟨a', b', c'⟩, rfl, g1, g2, g3, l1, l2, l3, e⟩
    have := ag_off hg g3
    dsimp only at this g1 g2 l1 e
    subst this
    rw [ag_stR, Nat.add_zero] at e
    exact ⟨a', b', rfl, g1, g2, l1, e⟩
theorem ag_TE5 (w : Nat → Bool) (o : Nat → Nat) (f : Bool) : ag_TE w o f 5 := by
  rintro ⟨a, b, c⟩ t p ⟨h1, h2, h3, _⟩
  obtain ⟨a1, a2⟩ := h1.1 rfl
  obtain ⟨c1, c2⟩ := h3.1 rfl
  have b1 := h2.2 rfl
  dsimp only at a1 a2 b1 c1 c2
  subst b1
  show ag_GY w o 2 f (144 * a + 12 * c) t p ↔ ∃ q' : Nat × Nat × Nat, t = 144 * q'.1 + 12 * q'.2.2 ∧ ag_E (ag_go w o) f (a, 12 + 1, c) q' p
  rw [ag_GY2 a1 a2 c1 c2]
  have hg := ag_Gd_go w o
  constructor
  · rintro ⟨a', c', rfl, g1, g2, l1, e⟩
    have k1 := ag_on hg a1 g1
    have k2 := ag_on hg c1 g2
    refine ⟨(a', 12 + 1, c'), rfl, g1, hg.1 _, g2, ?_, l1, ?_, ?_⟩
    · simp only [ag_cl]; omega
    · simp only [ag_cl]; omega
    · rw [e, ag_stR, Nat.add_zero]
  · rintro ⟨⟨a', b', c'⟩, rfl, g1, g2, g3, l1, l2, l3, e⟩
    have := ag_off hg g2
    dsimp only at this g1 g3 l2 e
    subst this
    rw [ag_stR, Nat.add_zero] at e
    exact ⟨a', c', rfl, g1, g3, l2, e⟩
theorem ag_TE6 (w : Nat → Bool) (o : Nat → Nat) (f : Bool) : ag_TE w o f 6 := by
  rintro ⟨a, b, c⟩ t p ⟨h1, h2, h3, _⟩
  obtain ⟨b1, b2⟩ := h2.1 rfl
  obtain ⟨c1, c2⟩ := h3.1 rfl
  have a1 := h1.2 rfl
  dsimp only at a1 b1 b2 c1 c2
  subst a1
  show ag_GY w o 2 f (144 * b + 12 * c) t p ↔ ∃ q' : Nat × Nat × Nat, t = 144 * q'.2.1 + 12 * q'.2.2 ∧ ag_E (ag_go w o) f (12 + 0, b, c) q' p
  rw [ag_GY2 b1 b2 c1 c2]
  have hg := ag_Gd_go w o
  constructor
  · rintro ⟨b', c', rfl, g1, g2, l1, e⟩
    have k1 := ag_on hg b1 g1
    have k2 := ag_on hg c1 g2
    refine ⟨(12 + 0, b', c'), rfl, hg.1 _, g1, g2, ?_, ?_, l1, ?_⟩
    · simp only [ag_cl]; omega
    · simp only [ag_cl]; omega
    · rw [e, ag_stR, Nat.zero_add]
  · rintro ⟨⟨a', b', c'⟩, rfl, g1, g2, g3, l1, l2, l3, e⟩
    have := ag_off hg g1
    dsimp only at this g2 g3 l3 e
    subst this
    rw [ag_stR, Nat.zero_add] at e
    exact ⟨b', c', rfl, g2, g3, l3, e⟩
theorem ag_TE1 (w : Nat → Bool) (o : Nat → Nat) (f : Bool) : ag_TE w o f 1 := by
  rintro ⟨a, b, c⟩ t p ⟨h1, h2, h3, _⟩
  obtain ⟨a1, a2⟩ := h1.1 rfl
  have b1 := h2.2 rfl
  have c1 := h3.2 rfl
  dsimp only at a1 a2 b1 c1
  subst b1
  subst c1
  show ag_GY w o 1 f (144 * a) t p ↔ ∃ q' : Nat × Nat × Nat, t = 144 * q'.1 ∧ ag_E (ag_go w o) f (a, 12 + 1, 12 + 2) q' p
  rw [ag_GY1 a1 a2]
  have hg := ag_Gd_go w o
  constructor
  · rintro ⟨a', rfl, g1, e⟩
    have k1 := ag_on hg a1 g1
    refine ⟨(a', 12 + 1, 12 + 2), rfl, g1, hg.1 _, hg.1 _, ?_, ?_, ?_, ?_⟩
    · simp only [ag_cl]; omega
    · simp only [ag_cl]; omega
    · simp only [ag_cl]; omega
    · rw [e, ag_stR, ag_stR]; rfl
  · rintro ⟨⟨a', b', c'⟩, rfl, g1, g2, g3, l1, l2, l3, e⟩
    have i1 := ag_off hg g2
    have i2 := ag_off hg g3
    dsimp only at i1 i2 g1 e
    subst i1
    subst i2
    rw [ag_stR, ag_stR] at e
    exact ⟨a', rfl, g1, e⟩
theorem ag_TE2 (w : Nat → Bool) (o : Nat → Nat) (f : Bool) : ag_TE w o f 2 := by
  rintro ⟨a, b, c⟩ t p ⟨h1, h2, h3, _⟩
  obtain ⟨b1, b2⟩ := h2.1 rfl
  have a1 := h1.2 rfl
  have c1 := h3.2 rfl
  dsimp only at a1 b1 b2 c1
  subst a1
  subst c1
  show ag_GY w o 1 f (144 * b) t p ↔ ∃ q' : Nat × Nat × Nat, t = 144 * q'.2.1 ∧ ag_E (ag_go w o) f (12 + 0, b, 12 + 2) q' p
  rw [ag_GY1 b1 b2]
  have hg := ag_Gd_go w o
  constructor
  · rintro ⟨b', rfl, g1, e⟩
    have k1 := ag_on hg b1 g1
    refine ⟨(12 + 0, b', 12 + 2), rfl, hg.1 _, g1, hg.1 _, ?_, ?_, ?_, ?_⟩
    · simp only [ag_cl]; omega
    · simp only [ag_cl]; omega
    · simp only [ag_cl]; omega
    · rw [e, ag_stR, ag_stR, Nat.zero_add, Nat.add_zero]
  · rintro ⟨⟨a', b', c'⟩, rfl, g1, g2, g3, l1, l2, l3, e⟩
    have i1 := ag_off hg g1
    have i2 := ag_off hg g3
    dsimp only at i1 i2 g2 e
    subst i1
    subst i2
    rw [ag_stR, ag_stR, Nat.zero_add, Nat.add_zero] at e
    exact ⟨b', rfl, g2, e⟩
theorem ag_TE4 (w : Nat → Bool) (o : Nat → Nat) (f : Bool) : ag_TE w o f 4 := by
  rintro ⟨a, b, c⟩ t p ⟨h1, h2, h3, _⟩
  obtain ⟨c1, c2⟩ := h3.1 rfl
  have a1 := h1.2 rfl
  have b1 := h2.2 rfl
  dsimp only at a1 b1 c1 c2
  subst a1
  subst b1
  show ag_GY w o 1 f (144 * c) t p ↔ ∃ q' : Nat × Nat × Nat, t = 144 * q'.2.2 ∧ ag_E (ag_go w o) f (12 + 0, 12 + 1, c) q' p
  rw [ag_GY1 c1 c2]
  have hg := ag_Gd_go w o
  constructor
  · rintro ⟨c', rfl, g1, e⟩
    have k1 := ag_on hg c1 g1
    refine ⟨(12 + 0, 12 + 1, c'), rfl, hg.1 _, hg.1 _, g1, ?_, ?_, ?_, ?_⟩
    · simp only [ag_cl]; omega
    · simp only [ag_cl]; omega
    · simp only [ag_cl]; omega
    · rw [e, ag_stR, ag_stR, Nat.zero_add]
  · rintro ⟨⟨a', b', c'⟩, rfl, g1, g2, g3, l1, l2, l3, e⟩
    have i1 := ag_off hg g1
    have i2 := ag_off hg g2
    dsimp only at i1 i2 g3 e
    subst i1
    subst i2
    rw [ag_stR, ag_stR, Nat.zero_add] at e
    exact ⟨c', rfl, g3, e⟩
theorem ag_TEall (w : Nat → Bool) (o : Nat → Nat) (f : Bool) : ∀ T, 1 ≤ T → T ≤ 7 → ag_TE w o f T :=
  ag_T7 (ag_TE1 w o f) (ag_TE2 w o f) (ag_TE3 w o f) (ag_TE4 w o f) (ag_TE5 w o f) (ag_TE6 w o f) (ag_TE7 w o f)
theorem ag_simY {w : Nat → Bool} {o : Nat → Nat} (f : Bool) {T : Nat} (h1 : 1 ≤ T) (h7 : T ≤ 7) {a : Nat × Nat × Nat} (ha : ag_V w T a) (t c : Nat) : ag_Rc (ag_GY w o (ag_sz T) f) (ag_ey T a) t c ↔ ∃ q, t = ag_ey T q ∧ ag_V w T q ∧ ag_Rc (ag_E (ag_go w o) f) a q c := by
  have hg := ag_Gd_go w o
  have te := ag_TEall w o f T h1 h7
  exact ag_sim (ag_ey T) (ag_E (ag_go w o) f) (ag_GY w o (ag_sz T) f) (ag_V w T) (fun _ _ _ h e => ag_V_E hg h e) (fun q q' p h e => (te q _ p h).mpr ⟨q', rfl, e⟩) (fun q t p h e => (te q t p h).mp e) ha t c
/-! the way back -/
theorem ag_st_sym (a b : Nat) : ag_st a b = ag_st b a := by
  by_cases e : a = b
  · rw [e]
  · rw [ag_stN e, ag_stN (fun z => e z.symm)]
theorem ag_E_rev {go : Nat → Nat → Bool} {f : Bool} {q q' : Nat × Nat × Nat} {p : Nat} (d1 : q.1 ≠ q.2.1) (d2 : q.1 ≠ q.2.2) (d3 : q.2.1 ≠ q.2.2) (e : ag_E go f q q' p) : ag_E (ag_gr go) f q' q p := by
  obtain ⟨e1, e2, e3, c1, c2, c3, hp⟩ := e
  unfold ag_cl at c1 c2 c3
  refine ⟨e1, e2, e3, ?_, ?_, ?_, ?_⟩
  · unfold ag_cl; omega
  · unfold ag_cl; omega
  · unfold ag_cl; omega
  · rw [hp, ag_st_sym q.1, ag_st_sym q.2.1, ag_st_sym q.2.2]
theorem ag_Rc_rev {w : Nat → Bool} {go : Nat → Nat → Bool} (hg : ag_Gd w go) {f : Bool} {T : Nat} {a t : Nat × Nat × Nat} {c : Nat} (ha : ag_V w T a) (h : ag_Rc (ag_E go f) a t c) : ag_V w T t ∧ ag_Rc (ag_E (ag_gr go) f) t a c := by
  refine ag_RcI (fun t c => ag_V w T t ∧ ag_Rc (ag_E (ag_gr go) f) t a c) ⟨ha, ag_Rc0 _ _⟩ ?_ h
  rintro s t c p _ ⟨h1, h2⟩ e
  refine ⟨ag_V_E hg h1 e, ?_⟩
  rw [Nat.add_comm]
  exact ag_RcC (ag_E_rev h1.2.2.2.1 h1.2.2.2.2.1 h1.2.2.2.2.2 e) h2
theorem ag_Ls_rev {w : Nat → Bool} {go : Nat → Nat → Bool} (hg : ag_Gd w go) {f : Bool} {T : Nat} {a t : Nat × Nat × Nat} {c : Nat} (ha : ag_V w T a) (ht : ag_V w T t) : ag_Ls (ag_E (ag_gr go) f) t a c ↔ ag_Ls (ag_E go f) a t c := by
  have g2 : ag_gr (ag_gr go) = go := rfl
  have k : ∀ c, ag_Rc (ag_E (ag_gr go) f) t a c ↔ ag_Rc (ag_E go f) a t c := fun c =>
    ⟨fun h => by
      have := (ag_Rc_rev (ag_Gd_gr hg) ht h).2
      rw [g2] at this
      exact this, fun h => (ag_Rc_rev hg ha h).2⟩
  unfold ag_Ls
  rw [k c]
  exact ⟨fun h => ⟨h.1, fun c' h' => h.2 c' ((k c').mpr h')⟩, fun h => ⟨h.1, fun c' h' => h.2 c' ((k c').mp h')⟩⟩
/-! the first plan -/
def ag_Cd (E : Nat × Nat × Nat → Nat × Nat × Nat → Nat → Prop) (z : Nat × Nat × Nat) (j : Nat) (q q' : Nat × Nat × Nat) : Prop := E q q' 1 ∧ ag_Ls E q' z j
def ag_Pk (E : Nat × Nat × Nat → Nat × Nat × Nat → Nat → Prop) (z : Nat × Nat × Nat) (j : Nat) (q q' : Nat × Nat × Nat) : Prop := ag_Cd E z j q q' ∧ ∀ r, ag_Cd E z j q r → ag_ex q' ≤ ag_ex r
def ag_Wk (E : Nat × Nat × Nat → Nat × Nat × Nat → Nat → Prop) (a z : Nat × Nat × Nat) (L : Nat) : Nat → Nat × Nat × Nat → Prop
  | 0 => fun q => q = a
  | n + 1 => fun q' => ∃ q, ag_Wk E a z L n q ∧ ag_Pk E z (L - n - 1) q q'
theorem ag_WkL {E : Nat × Nat × Nat → Nat × Nat × Nat → Nat → Prop} {a z : Nat × Nat × Nat} {L : Nat} (hL : ag_Ls E a z L) : ∀ n q, n ≤ L → ag_Wk E a z L n q → ag_Ls E a q n ∧ ag_Ls E q z (L - n) := by
  intro n
  induction n with
  | zero => intro q _ h; rw [show q = a from h]; exact ⟨ag_LsO E a, hL⟩
  | succ n ih =>
    rintro q' hn ⟨q, h1, ⟨h2, h3⟩, _⟩
    obtain ⟨i1, i2⟩ := ih q (by omega) h1
    rw [show L - (n + 1) = L - n - 1 by omega]
    refine ⟨⟨ag_RcS i1.1 h2, fun c hc => ?_⟩, h3⟩
    have := hL.2 _ (ag_RcT hc h3.1)
    omega
theorem ag_WkV {w : Nat → Bool} {go : Nat → Nat → Bool} (hg : ag_Gd w go) {f : Bool} {T : Nat} {a z : Nat × Nat × Nat} {L : Nat} (ha : ag_V w T a) : ∀ n q, ag_Wk (ag_E go f) a z L n q → ag_V w T q := by
  intro n
  induction n with
  | zero => intro q h; rw [show q = a from h]; exact ha
  | succ n ih => rintro q' ⟨q, h1, ⟨h2, _⟩, _⟩; exact ag_V_E hg (ih q h1) h2
theorem ag_WkU {w : Nat → Bool} {go : Nat → Nat → Bool} (hg : ag_Gd w go) {f : Bool} {T : Nat} {a z : Nat × Nat × Nat} {L : Nat} (ha : ag_V w T a) : ∀ n q r, ag_Wk (ag_E go f) a z L n q → ag_Wk (ag_E go f) a z L n r → q = r := by
  intro n
  induction n with
  | zero => intro q r h h'; rw [show q = a from h, show r = a from h']
  | succ n ih =>
    rintro q' r' ⟨q, h1, h2, h3⟩ ⟨r, k1, k2, k3⟩
    have := ih q r h1 k1
    subst this
    have v := ag_WkV hg ha n q h1
    exact ag_ex_inj (ag_V_E hg v h2.1) (ag_V_E hg v k2.1) (Nat.le_antisymm (h3 r' k2) (k3 q' h2))
/-- what the reference asks of the next state on the way is what the class asks -/
theorem ag_gd {E : Nat × Nat × Nat → Nat × Nat × Nat → Nat → Prop} {a z : Nat × Nat × Nat} {L n : Nat} (hL : ag_Ls E a z L) (hn : n < L) {q q' : Nat × Nat × Nat} (h1 : ag_Ls E a q n) (h2 : ag_Ls E q z (L - n)) (e : E q q' 1) : (ag_Ls E a q' (n + 1) ∧ ag_Rc E q' z (L - (n + 1))) ↔ ag_Ls E q' z (L - n - 1) := by
  rw [show L - (n + 1) = L - n - 1 by omega]
  constructor
  · rintro ⟨_, k2⟩
    refine ⟨k2, fun c hc => ?_⟩
    have := h2.2 _ (ag_RcC e hc)
    omega
  · intro k
    refine ⟨⟨ag_RcS h1.1 e, fun c hc => ?_⟩, k.1⟩
    have := hL.2 _ (ag_RcT hc k.1)
    omega
end
section
/-! no more than 125 turns from a state; a part of a graph; sets as bits; as many states on both sides (draft, not yet compiled) -/
def ag_gb (go : Nat → Nat → Bool) (q q' : Nat × Nat × Nat) : Bool :=
  go q.1 q'.1 && (go q.2.1 q'.2.1 && (go q.2.2 q'.2.2 && (!decide (ag_cl q.1 q'.1 q.2.1 q'.2.1) && (!decide (ag_cl q.1 q'.1 q.2.2 q'.2.2) && !decide (ag_cl q.2.1 q'.2.1 q.2.2 q'.2.2)))))
def ag_wt (f : Bool) (q q' : Nat × Nat × Nat) : Nat := if f = true then ag_st q.1 q'.1 + ag_st q.2.1 q'.2.1 + ag_st q.2.2 q'.2.2 else 1
theorem ag_gb_E {go : Nat → Nat → Bool} {f : Bool} {q q' : Nat × Nat × Nat} {p : Nat} : ag_E go f q q' p ↔ ag_gb go q q' = true ∧ p = ag_wt f q q' := by
  unfold ag_E ag_gb ag_wt
  simp only [Bool.and_eq_true, Bool.not_eq_true', decide_eq_false_iff_not]
  constructor
  · rintro ⟨a, b, c, d, e, g, h⟩; exact ⟨⟨a, b, c, d, e, g⟩, h⟩
  · rintro ⟨⟨a, b, c, d, e, g⟩, h⟩; exact ⟨a, b, c, d, e, g, h⟩
def ag_ix (a x : Nat) : Nat := if a = x then 4 else ag_dir a x
theorem ag_ix5 {w : Nat → Bool} {go : Nat → Nat → Bool} (hg : ag_Gd w go) {a x : Nat} (h : go a x = true) : ag_ix a x < 5 := by
  unfold ag_ix
  by_cases e : a = x
  · rw [if_pos e]; omega
  · rw [if_neg e]
    have := (hg.2 a x h e).2.2.2.2
    omega
theorem ag_ixI {w : Nat → Bool} {go : Nat → Nat → Bool} (hg : ag_Gd w go) {a x y : Nat} (h : go a x = true) (k : go a y = true) (e : ag_ix a x = ag_ix a y) : x = y := by
  unfold ag_ix at e
  by_cases e1 : a = x
  · rw [if_pos e1] at e
    by_cases e2 : a = y
    · omega
    · rw [if_neg e2] at e
      have := (hg.2 a y k e2).2.2.2.2
      omega
  · rw [if_neg e1] at e
    obtain ⟨h1, h2, _, _, h3⟩ := hg.2 a x h e1
    by_cases e2 : a = y
    · rw [if_pos e2] at e; omega
    · rw [if_neg e2] at e
      obtain ⟨_, k2, _, _, _⟩ := hg.2 a y k e2
      exact ag_dir_inj a h1 x h2 y k2 h3 e
theorem ag_c125 {w : Nat → Bool} {go : Nat → Nat → Bool} (hg : ag_Gd w go) (q : Nat × Nat × Nat) : ag_cn (fun t => ag_gb go q (ag_dx t)) 3375 ≤ 125 := by
  have e : ∀ t, ag_gb go q (ag_dx t) = true → go q.1 (t / 225) = true ∧ go q.2.1 (t / 15 % 15) = true ∧ go q.2.2 (t % 15) = true := by
    intro t h
    unfold ag_gb ag_dx at h
    simp only [Bool.and_eq_true] at h
    exact ⟨h.1, h.2.1, h.2.2.1⟩
  have := ag_cn_inj (fun t => ag_gb go q (ag_dx t)) 125 (fun t => 25 * ag_ix q.1 (t / 225) + 5 * ag_ix q.2.1 (t / 15 % 15) + ag_ix q.2.2 (t % 15)) 3375 (fun _ => true) (fun t _ h => by
    obtain ⟨h1, h2, h3⟩ := e t h
    have k1 := ag_ix5 hg h1
    have k2 := ag_ix5 hg h2
    have k3 := ag_ix5 hg h3
    exact ⟨by omega, rfl⟩) (fun t t' _ _ h h' ee => by
    obtain ⟨h1, h2, h3⟩ := e t h
    obtain ⟨i1, i2, i3⟩ := e t' h'
    have k1 := ag_ix5 hg h1
    have k2 := ag_ix5 hg h2
    have k3 := ag_ix5 hg h3
    have l1 := ag_ix5 hg i1
    have l2 := ag_ix5 hg i2
    have l3 := ag_ix5 hg i3
    have m1 := ag_ixI hg h1 i1 (by omega)
    have m2 := ag_ixI hg h2 i2 (by omega)
    have m3 := ag_ixI hg h3 i3 (by omega)
    omega)
  rw [ag_cn_all] at this
  exact this
theorem ag_RcM {α : Type} {E E' : α → α → Nat → Prop} (hE : ∀ s t p, E s t p → E' s t p) {a t : α} {c : Nat} (h : ag_Rc E a t c) : ag_Rc E' a t c :=
  ag_RcI (fun t c => ag_Rc E' a t c) (ag_Rc0 E' a) (fun s t _ p _ h1 h2 => ag_RcS h1 (hE s t p h2)) h
theorem ag_go_mono {w w' : Nat → Bool} {o : Nat → Nat} (h : ∀ c, w' c = false → w c = false) {a b : Nat} (e : ag_go w' o a b = true) : ag_go w o a b = true := by
  by_cases n : a = b
  · simp [ag_go, n]
  · have h1 : ag_mv w' o a b = true := by simpa [ag_go, n] using e
    obtain ⟨h1, h2, h3, h4, h5, h6⟩ := ag_mv_iff.mp h1
    have : ag_mv w o a b = true := ag_mv_iff.mpr ⟨h1, h2, h a h3, h b h4, h5, h6⟩
    unfold ag_go
    rw [this, Bool.or_true]
theorem ag_E_mono {w w' : Nat → Bool} {o : Nat → Nat} (h : ∀ c, w' c = false → w c = false) {f : Bool} {q q' : Nat × Nat × Nat} {p : Nat} (e : ag_E (ag_go w' o) f q q' p) : ag_E (ag_go w o) f q q' p := by
  obtain ⟨e1, e2, e3, r⟩ := e
  exact ⟨ag_go_mono h e1, ag_go_mono h e2, ag_go_mono h e3, r⟩
/-- bits of three numbers: equal if the sets are -/
theorem ag_bit3 (a b c a' b' c' : Nat) : 2 ^ a ||| 2 ^ b ||| 2 ^ c = 2 ^ a' ||| 2 ^ b' ||| 2 ^ c' ↔ ∀ x, (x = a ∨ x = b ∨ x = c) ↔ (x = a' ∨ x = b' ∨ x = c') := by
  have k : ∀ x, (2 ^ a ||| 2 ^ b ||| 2 ^ c).testBit x = true ↔ (x = a ∨ x = b ∨ x = c) := fun x => by
    simp only [Nat.testBit_or, Nat.testBit_two_pow, Bool.or_eq_true, decide_eq_true_eq]
    omega
  have k' : ∀ x, (2 ^ a' ||| 2 ^ b' ||| 2 ^ c').testBit x = true ↔ (x = a' ∨ x = b' ∨ x = c') := fun x => by
    simp only [Nat.testBit_or, Nat.testBit_two_pow, Bool.or_eq_true, decide_eq_true_eq]
    omega
  constructor
  · intro h x
    rw [← k x, ← k' x, h]
  · intro h
    refine Nat.eq_of_testBit_eq (fun x => ?_)
    rw [Bool.eq_iff_iff, k x, k' x]
    exact h x
end
section
/-! bits of Int32 by naturals; tables as functions -/
theorem s_l : ∀ n, n < 32 → ((nI n &&& 31).toBitVec.smod 32).toNat = n := by decide +kernel
theorem nx_and (a b : Nat) : nI a &&& nI b = nI (a &&& b) := by
  apply Int32.toBitVec_inj.1
  show BitVec.ofNat 32 a &&& BitVec.ofNat 32 b = BitVec.ofNat 32 (a &&& b)
  apply BitVec.eq_of_getLsbD_eq
  intro i hi
  simp [hi]
theorem ag_or (a b : Nat) : nI a ||| nI b = nI (a ||| b) := by
  apply Int32.toBitVec_inj.1
  show BitVec.ofNat 32 a ||| BitVec.ofNat 32 b = BitVec.ofNat 32 (a ||| b)
  apply BitVec.eq_of_getLsbD_eq
  intro i hi
  simp [hi]
theorem ag_sh {m k : Nat} (hm : m < 2 ^ 31) (hk : k < 32) : nI m >>> (nI k &&& 31) = nI (m / 2 ^ k) := pk_shrN hm _ k (s_l k hk)
theorem ag_tb {m k : Nat} (hm : m < 2 ^ 31) (hk : k < 32) : ((nI m >>> (nI k &&& 31)) &&& 1) = 1 ↔ m.testBit k = true := by
  have h2 : m / 2 ^ k ≤ m := Nat.div_le_self _ _
  rw [ag_sh hm hk, pk_andN (by omega) 1 (by decide), show (1 : Int32) = nI 1 from rfl, nI_eq (by omega) (by omega), Nat.testBit_eq_decide_div_mod_eq, decide_eq_true_eq]
theorem ag_one {a : Nat} (ha : a < 31) : (1 : Int32) <<< (nI a &&& 31) = nI (2 ^ a) := by
  have := pk_shlN (n := 1) (nI a &&& 31) a (s_l a (by omega)) (by rw [Nat.one_mul]; exact Nat.pow_lt_pow_right (by omega) (by omega))
  rw [Nat.one_mul] at this
  exact this
theorem ag_pw {a : Nat} (ha : a < 31) : 2 ^ a < 2 ^ 31 := Nat.pow_lt_pow_right (by omega) ha
theorem ag_or_lt {a b : Nat} (ha : a < 2 ^ 31) (hb : b < 2 ^ 31) : a ||| b < 2 ^ 31 := Nat.or_lt_two_pow ha hb
theorem ag_and0 {m a : Nat} (hm : m < 2 ^ 31) (ha : a < 31) : nI m &&& nI (2 ^ a) = 0 ↔ m.testBit a = false := by
  rw [nx_and, show (0 : Int32) = nI 0 from rfl, nI_eq (Nat.lt_of_le_of_lt Nat.and_le_left hm) (by omega)]
  constructor
  · intro h
    have := congrArg (fun n => n.testBit a) h
    simpa using this
  · intro h
    refine Nat.eq_of_testBit_eq (fun x => ?_)
    rw [Nat.testBit_and, Nat.testBit_two_pow, Nat.zero_testBit]
    by_cases e : a = x
    · rw [← e, h]; rfl
    · rw [decide_eq_false e, Bool.and_false]
/-- a table of booleans, a table of numbers -/
def ag_bi (w : Nat → Bool) : Nat → Int32 := fun c => if w c = true then 1 else 0
def ag_nf (o : Nat → Nat) : Nat → Int32 := fun c => nI (o c)
theorem ag_bi0 {w : Nat → Bool} {c : Nat} : ag_bi w c = 0 ↔ w c = false := by
  unfold ag_bi
  cases w c <;> simp
def ag_bu (w : Nat → Bool) (c : Nat) (b : Bool) : Nat → Bool := fun x => if x = c then b else w x
theorem ag_nb0 : vp_nar .boolean 0 = 0 := by decide
theorem ag_nb1 : vp_nar .boolean 1 = 1 := by decide
theorem ag_bi_u {w : Nat → Bool} {c : Nat} {b : Bool} : upd (ag_bi w) c (if b = true then 1 else 0) = ag_bi (ag_bu w c b) := by
  funext x
  unfold upd ag_bi ag_bu
  by_cases e : x = c
  · rw [if_pos e, if_pos e]
  · rw [if_neg e, if_neg e]
def ag_nu (o : Nat → Nat) (c : Nat) (b : Nat) : Nat → Nat := fun x => if x = c then b else o x
theorem ag_nf_u {o : Nat → Nat} {c b : Nat} : upd (ag_nf o) c (nI b) = ag_nf (ag_nu o c b) := by
  funext x
  unfold upd ag_nf ag_nu
  by_cases e : x = c
  · rw [if_pos e, if_pos e]
  · rw [if_neg e, if_neg e]
end
section
/-! the class's small methods -/
variable {g nc : Int32} {wl wo pl gl cg co ns nt : Nat → Int32}
def ag_b1 (b : Bool) : Int32 := if b = true then 1 else 0
theorem ag_cx0 {post : Int32 → Prop} {u : SX} {x : Int32} (h : ∀ c, c < 12 → x ≠ nI c) (p : post 0) : wpX_isCell post u x := by
  obtain ⟨g, nc, wl, wo, pl, gl, cg, co, ns, nt⟩ := u
  unfold wpX_isCell
  dsimp only
  rcases pk_ix x (n := 12) (by omega) with h1 | h1 | ⟨c, hc, e⟩
  · exact br_t h1 p
  · by_cases h0 : x < 0
    · exact br_t h0 p
    · exact br_f h0 (br_t h1 p)
  · exact absurd e (h c hc)
theorem ag_cx1 {post : Int32 → Prop} {u : SX} {c : Nat} (hc : c < 12) (p : post 1) : wpX_isCell post u (nI c) := by
  obtain ⟨g, nc, wl, wo, pl, gl, cg, co, ns, nt⟩ := u
  unfold wpX_isCell
  dsimp only
  exact br_f (nI_pos (by omega)) (br_f (nI_ge (b := 12) hc (by decide)) p)
theorem ag_kx0 {post : Int32 → Prop} {u : SX} {x : Int32} (h : ∀ c, c < 3 → x ≠ nI c) (p : post 0) : wpX_isWalker post u x := by
  obtain ⟨g, nc, wl, wo, pl, gl, cg, co, ns, nt⟩ := u
  unfold wpX_isWalker
  dsimp only
  rcases pk_ix x (n := 3) (by omega) with h1 | h1 | ⟨c, hc, e⟩
  · exact br_t h1 p
  · by_cases h0 : x < 0
    · exact br_t h0 p
    · exact br_f h0 (br_t h1 p)
  · exact absurd e (h c hc)
theorem ag_kx1 {post : Int32 → Prop} {u : SX} {c : Nat} (hc : c < 3) (p : post 1) : wpX_isWalker post u (nI c) := by
  obtain ⟨g, nc, wl, wo, pl, gl, cg, co, ns, nt⟩ := u
  unfold wpX_isWalker
  dsimp only
  exact br_f (nI_pos (by omega)) (br_f (nI_ge (b := 3) hc (by decide)) p)
theorem ag_inX {post : Int32 → Prop} {u : SX} {T i : Nat} (hT : T < 8) (hi : i < 3) (p1 : T.testBit i = true → post 1) (p0 : T.testBit i = false → post 0) : wpX_isIn post u (nI T) (nI i) := by
  obtain ⟨g, nc, wl, wo, pl, gl, cg, co, ns, nt⟩ := u
  unfold wpX_isIn
  dsimp only
  have k := ag_tb (m := T) (k := i) (by omega) (by omega)
  refine br_c (fun h => p1 (k.mp h)) (fun h => p0 ?_)
  cases e : T.testBit i
  · rfl
  · exact absurd (k.mpr e) h
theorem ag_spot0 {post : Int32 → Prop} {u : SX} {s : Nat} (hs : s < 2 ^ 31) (p : post (nI (s / 225))) : wpX_spotIn post u (nI s) 0 := by
  obtain ⟨g, nc, wl, wo, pl, gl, cg, co, ns, nt⟩ := u
  unfold wpX_spotIn
  dsimp only
  refine br_t rfl ⟨by decide, ?_⟩
  rw [show (225 : Int32) = nI 225 from rfl, pk_div hs (by omega) (by omega)]
  exact p
theorem ag_spot1 {post : Int32 → Prop} {u : SX} {s : Nat} (hs : s < 2 ^ 31) (p : post (nI (s / 15 % 15))) : wpX_spotIn post u (nI s) 1 := by
  obtain ⟨g, nc, wl, wo, pl, gl, cg, co, ns, nt⟩ := u
  unfold wpX_spotIn
  dsimp only
  refine br_f (by decide) (br_t rfl ⟨by decide, by decide, ?_⟩)
  rw [show (15 : Int32) = nI 15 from rfl, pk_div hs (by omega) (by omega), pk_rem (by omega) (by omega) (by omega)]
  exact p
theorem ag_spot2 {post : Int32 → Prop} {u : SX} {s : Nat} (hs : s < 2 ^ 31) (p : post (nI (s % 15))) : wpX_spotIn post u (nI s) 2 := by
  obtain ⟨g, nc, wl, wo, pl, gl, cg, co, ns, nt⟩ := u
  unfold wpX_spotIn
  dsimp only
  refine br_f (by decide) (br_f (by decide) ⟨by decide, ?_⟩)
  rw [show (15 : Int32) = nI 15 from rfl, pk_rem (by omega) (by omega) (by omega)]
  exact p
theorem ag_clX {post : Int32 → Prop} {u : SX} {a a' b b' : Nat} (h1 : a < 2 ^ 31) (h2 : a' < 2 ^ 31) (h3 : b < 2 ^ 31) (h4 : b' < 2 ^ 31) (p1 : ag_cl a a' b b' → post 1) (p0 : ¬ ag_cl a a' b b' → post 0) : wpX_isClash post u (nI a) (nI a') (nI b) (nI b') := by
  obtain ⟨g, nc, wl, wo, pl, gl, cg, co, ns, nt⟩ := u
  unfold wpX_isClash
  dsimp only
  refine pk_eq a' b' (fun e => p1 (Or.inl e)) (fun n => pk_eq a' b (fun e => pk_eq b' a (fun e2 => p1 (Or.inr ⟨e, e2⟩)) (fun n2 => p0 ?_)) (fun n2 => p0 ?_))
  · unfold ag_cl; omega
  · unfold ag_cl; omega
theorem ag_sube {a b k : Nat} (ha : a < 2 ^ 30) (hb : b < 2 ^ 30) (hk : k < 2 ^ 30) : nI b = nI a - nI k ↔ b + k = a := by
  constructor
  · intro h
    have : nI b + nI k = nI a := by rw [h, Int32.sub_add_cancel]
    rw [nI_add, nI_eq (by omega) (by omega)] at this
    exact this
  · intro h
    rw [← h, ← nI_add, Int32.add_sub_cancel]
theorem ag_dirX {post : Int32 → Prop} {u : SX} {a b : Nat} (ha : a < 12) (hb : b < 12) (p : ag_dir a b < 4 → post (nI (ag_dir a b))) (n : ¬ ag_dir a b < 4 → post (-1)) : wpX_directionTo post u (nI a) (nI b) := by
  obtain ⟨g, nc, wl, wo, pl, gl, cg, co, ns, nt⟩ := u
  unfold wpX_directionTo
  dsimp only
  refine br_c (fun h => ?_) (fun h => ?_)
  · have h1 := (ag_sube (k := 4) (by omega) (by omega) (by omega)).mp h
    have e : ag_dir a b = 0 := by unfold ag_dir; rw [if_pos h1]
    rw [e] at p
    exact p (by omega)
  · have h1 : ¬ b + 4 = a := fun z => h ((ag_sube (k := 4) (by omega) (by omega) (by omega)).mpr z)
    refine pk_eq b (a + 4) (fun h2 => ?_) (fun h2 => ?_) rfl (nI_add a 4)
    · have e : ag_dir a b = 2 := by unfold ag_dir; rw [if_neg h1, if_pos h2]
      rw [e] at p
      exact p (by omega)
    · refine ⟨by decide, by decide, ?_⟩
      refine pk_eq (a / 4) (b / 4) (fun h3 => ?_) (fun h3 => ?_) (pk_div (d := 4) (by omega) (by omega) (by omega)) (pk_div (d := 4) (by omega) (by omega) (by omega))
      · refine pk_eq b (a + 1) (fun h4 => ?_) (fun h4 => ?_) rfl (nI_1 a)
        · have e : ag_dir a b = 1 := by unfold ag_dir; rw [if_neg h1, if_neg h2, if_neg (fun z => z h3), if_pos h4]
          rw [e] at p
          exact p (by omega)
        · refine br_c (fun h5 => ?_) (fun h5 => ?_)
          · have h6 := (ag_sube (k := 1) (by omega) (by omega) (by omega)).mp h5
            have e : ag_dir a b = 3 := by unfold ag_dir; rw [if_neg h1, if_neg h2, if_neg (fun z => z h3), if_neg h4, if_pos h6]
            rw [e] at p
            exact p (by omega)
          · have h6 : ¬ b + 1 = a := fun z => h5 ((ag_sube (k := 1) (by omega) (by omega) (by omega)).mpr z)
            have e : ag_dir a b = 4 := by unfold ag_dir; rw [if_neg h1, if_neg h2, if_neg (fun z => z h3), if_neg h4, if_neg h6]
            rw [e] at n
            exact n (by omega)
      · have e : ag_dir a b = 4 := by unfold ag_dir; rw [if_neg h1, if_neg h2, if_pos h3]
        rw [e] at n
        exact n (by omega)
theorem ag_stepX {post : Int32 → Prop} {w S : Nat → Bool} {o : Nat → Nat} {sh : Int32} {a b : Nat} (ha : a < 15) (hb : b < 15) (ho : ∀ c, c < 12 → o c < 16) (hS : ∀ c, c < 12 → (nI c = sh ↔ S c = true)) (p1 : ag_mv (fun c => w c || S c) o a b = true → post 1) (p0 : ag_mv (fun c => w c || S c) o a b = false → post 0) : wpX_canStep post (g, nc, ag_bi w, ag_nf o, pl, gl, cg, co, ns, nt) (nI a) (nI b) sh := by
  have q0 : ¬ ag_mv (fun c => w c || S c) o a b = true → post 0 := fun h => p0 (by simpa using h)
  rw [ag_mv_iff] at p1 q0
  unfold wpX_canStep
  dsimp only
  by_cases h1 : a < 12
  · refine ag_cx1 h1 (br_f (by decide) ?_)
    by_cases h2 : b < 12
    · refine ag_cx1 h2 (br_f (by decide) ?_)
      refine ⟨vp_in_nI h1 (by omega), ?_⟩
      rw [nI_clamp (n := a) (by omega)]
      refine br_c (fun h3 => ?_) (fun h3 => ?_)
      · rw [ag_bi0] at h3
        refine ⟨vp_in_nI h2 (by omega), ?_⟩
        rw [nI_clamp (n := b) (by omega)]
        refine br_c (fun h4 => ?_) (fun h4 => ?_)
        · rw [ag_bi0] at h4
          refine br_c (fun h5 => ?_) (fun h5 => ?_)
          · rw [hS a h1] at h5
            refine q0 (fun z => ?_)
            have := z.2.2.1
            simp [h5] at this
          · rw [hS a h1] at h5
            refine br_c (fun h6 => ?_) (fun h6 => ?_)
            · rw [hS b h2] at h6
              refine q0 (fun z => ?_)
              have := z.2.2.2.1
              simp [h6] at this
            · rw [hS b h2] at h6
              refine ag_dirX h1 h2 (fun h7 => ?_) (fun h7 => ?_)
              · refine br_f (nI_pos (by omega)) ⟨vp_in_nI h1 (by omega), ?_⟩
                have k := ag_tb (m := o a) (k := ag_dir a b) (by have := ho a h1; omega) (by omega)
                refine br_c (fun h8 => ?_) (fun h8 => ?_)
                · refine p1 ⟨h1, h2, ?_, ?_, h7, k.mp h8⟩
                  · simp [h3, h5]
                  · simp [h4, h6]
                · exact q0 (fun z => h8 (k.mpr z.2.2.2.2.2))
              · exact br_t (by decide) (q0 (fun z => h7 z.2.2.2.2.1))
        · refine q0 (fun z => h4 (ag_bi0.mpr ?_))
          have := z.2.2.2.1
          cases e : w b
          · rfl
          · simp [e] at this
      · refine q0 (fun z => h3 (ag_bi0.mpr ?_))
        have := z.2.2.1
        cases e : w a
        · rfl
        · simp [e] at this
    · refine ag_cx0 (fun c hc e => ?_) (br_t rfl (q0 (fun z => h2 z.2.1)))
      rw [nI_eq (by omega) (by omega)] at e
      omega
  · refine ag_cx0 (fun c hc e => ?_) (br_t rfl (q0 (fun z => h1 z.1)))
    rw [nI_eq (by omega) (by omega)] at e
    omega
end
section
/-! the class's table of moves -/
variable {g nc : Int32} {wl wo pl gl cg co ns nt : Nat → Int32}
def ag_Cg (go : Nat → Nat → Bool) (cg : Nat → Int32) : Prop := ∀ k, k < 225 → cg k = ag_b1 (go (k / 15) (k % 15))
theorem ag_Cg2 {go : Nat → Nat → Bool} (h : ag_Cg go cg) {a b : Nat} (ha : a < 15) (hb : b < 15) : cg (a * 15 + b) = ag_b1 (go a b) := by
  have := h (a * 15 + b) (by omega)
  rw [show (a * 15 + b) / 15 = a by omega, show (a * 15 + b) % 15 = b by omega] at this
  exact this
theorem ag_b10 {b : Bool} : ag_b1 b = 0 ↔ b = false := by cases b <;> simp [ag_b1]
theorem ag_i15 (i j : Nat) : nI i * 15 + nI j = nI (i * 15 + j) := by
  rw [show (15 : Int32) = nI 15 from rfl, pk_mul, nI_add]
theorem ag_wr {f : Nat → Bool} {s : Nat → Int32} {m : Nat} {x : Int32} (h : ∀ k, k < m → s k = ag_b1 (f k)) (hx : x = ag_b1 (f m)) : ∀ k, k < m + 1 → upd s m x k = ag_b1 (f k) := by
  intro k hk
  by_cases e : k = m
  · subst e; rw [pk_us]; exact hx
  · rw [pk_un e]; exact h k (by omega)
theorem ag_drawX {post : SX → Prop} {w S : Nat → Bool} {o : Nat → Nat} {sh : Int32} (ho : ∀ c, c < 12 → o c < 16) (hS : ∀ c, c < 12 → (nI c = sh ↔ S c = true)) (p : ∀ cg', ag_Cg (ag_go (fun c => w c || S c) o) cg' → post (g, nc, ag_bi w, ag_nf o, pl, gl, cg', co, ns, nt)) : wpX_drawMoves post (g, nc, ag_bi w, ag_nf o, pl, gl, cg, co, ns, nt) sh := by
  unfold wpX_drawMoves
  dsimp only
  refine loop_0 (fun n i s => wX_drawMoves_2 post sh g nc n (nI i) (ag_bi w) (ag_nf o) pl gl s co ns nt) (fun i s => ∀ k, k < i * 15 → s k = ag_b1 (ag_go (fun c => w c || S c) o (k / 15) (k % 15))) 15 cg (fun k hk => absurd hk (by omega)) ?_ ?_
  · intro n s h
    exact br_t (nI_le (b := 15) (Nat.le_refl 15) (by decide)) (p s h)
  · intro n i s hi h ih
    refine br_f (nI_ge (b := 15) hi (by decide)) ?_
    refine loop_0 (fun m j s => wX_drawMoves_10 post (wX_drawMoves_2 post sh g nc n) sh (nI i) g nc m (nI j) (ag_bi w) (ag_nf o) pl gl s co ns nt) (fun j s => ∀ k, k < i * 15 + j → s k = ag_b1 (ag_go (fun c => w c || S c) o (k / 15) (k % 15))) 15 s h ?_ ?_
    · intro m s h
      exact br_t (nI_le (b := 15) (Nat.le_refl 15) (by decide)) (nm_r (nI_1 i) (ih s (fun k hk => h k (by omega))))
    · intro m j s hj h ih2
      refine br_f (nI_ge (b := 15) hj (by decide)) ?_
      have hin : vp_in (nI i * 15 + nI j) 225 := by
        rw [ag_i15]; exact vp_in_nI (by omega) (by omega)
      have e1 : upd s (nI i * 15 + nI j).toNatClampNeg (vp_nar .boolean 1) = upd s (i * 15 + j) 1 := by
        rw [ag_i15, nI_clamp (by omega), ag_nb1]
      have e0 : upd s (nI i * 15 + nI j).toNatClampNeg (vp_nar .boolean 0) = upd s (i * 15 + j) 0 := by
        rw [ag_i15, nI_clamp (by omega), ag_nb0]
      have d1 : (i * 15 + j) / 15 = i := by omega
      have d2 : (i * 15 + j) % 15 = j := by omega
      refine pk_eq i j (fun e => ?_) (fun ne => ?_)
      · refine ⟨hin, nm_r e1 (nm_r (nI_1 j) (ih2 _ (ag_wr (m := i * 15 + j) h ?_)))⟩
        rw [d1, d2, e]
        simp [ag_go, ag_b1]
      · refine ag_stepX (by omega) (by omega) ho hS (fun hm => ?_) (fun hm => ?_)
        · refine br_f (by decide) ⟨hin, nm_r e1 (nm_r (nI_1 j) (ih2 _ (ag_wr (m := i * 15 + j) h ?_)))⟩
          rw [d1, d2]
          simp [ag_go, hm, ag_b1]
        · refine br_t rfl ⟨hin, nm_r e0 (nm_r (nI_1 j) (ih2 _ (ag_wr (m := i * 15 + j) h ?_)))⟩
          rw [d1, d2]
          simp [ag_go, hm, ag_b1, ne]
/-- the pairs turned so far -/
def ag_Tn (i j a b : Nat) : Prop := (a < i ∧ b < i) ∨ (a = i ∧ b < j) ∨ (b = i ∧ a < j)
def ag_Cb (go : Nat → Nat → Bool) (i j : Nat) (s : Nat → Int32) : Prop := ∀ a b, a < 15 → b < 15 → (ag_Tn i j a b → s (a * 15 + b) = ag_b1 (go b a)) ∧ (¬ ag_Tn i j a b → s (a * 15 + b) = ag_b1 (go a b))
theorem ag_backX {post : SX → Prop} {go : Nat → Nat → Bool} (h : ag_Cg go cg) (p : ∀ cg', ag_Cg (ag_gr go) cg' → post (g, nc, wl, wo, pl, gl, cg', co, ns, nt)) : wpX_turnMovesBack post (g, nc, wl, wo, pl, gl, cg, co, ns, nt) := by
  unfold wpX_turnMovesBack
  dsimp only
  refine loop_0 (fun n i s => wX_turnMovesBack_2 post g nc n (nI i) wl wo pl gl s co ns nt) (fun i s => ag_Cb go i 0 s) 15 cg ?_ ?_ ?_
  · intro a b ha hb
    refine ⟨fun z => ?_, fun _ => ag_Cg2 h ha hb⟩
    unfold ag_Tn at z
    omega
  · intro n s hs
    refine br_t (nI_le (b := 15) (Nat.le_refl 15) (by decide)) (p s (fun k hk => ?_))
    have := (hs (k / 15) (k % 15) (by omega) (by omega)).1 (by unfold ag_Tn; omega)
    rw [show k / 15 * 15 + k % 15 = k by omega] at this
    exact this
  · intro n i s hi hs ih
    refine br_f (nI_ge (b := 15) hi (by decide)) ?_
    refine loop_0 (fun m j s => wX_turnMovesBack_10 post (wX_turnMovesBack_2 post g nc n) (nI i) g nc m (nI j) wl wo pl gl s co ns nt) (fun j s => ag_Cb go i j s) i s hs ?_ ?_
    · intro m s hs
      refine br_t (nI_le (Nat.le_refl i) (by omega)) (nm_r (nI_1 i) (ih s ?_))
      intro a b ha hb
      have k := hs a b ha hb
      unfold ag_Tn at k ⊢
      by_cases e : a = b
      · subst e
        have : s (a * 15 + a) = ag_b1 (go a a) := by
          by_cases z : (a < i ∧ a < i) ∨ (a = i ∧ a < i) ∨ (a = i ∧ a < i)
          · exact k.1 z
          · exact k.2 z
        exact ⟨fun _ => this, fun _ => this⟩
      · exact ⟨fun z => k.1 (by omega), fun z => k.2 (by omega)⟩
    · intro m j s hj hs ih2
      refine br_f (nI_ge hj (by omega)) ?_
      have hin : vp_in (nI i * 15 + nI j) 225 := by
        rw [ag_i15]; exact vp_in_nI (by omega) (by omega)
      have hin2 : vp_in (nI j * 15 + nI i) 225 := by
        rw [ag_i15]; exact vp_in_nI (by omega) (by omega)
      have nb : ∀ b : Bool, vp_nar .boolean (ag_b1 b) = ag_b1 b := by decide
      have v1 := (hs i j hi (by omega)).2 (by unfold ag_Tn; omega)
      have v2 := (hs j i (by omega) hi).2 (by unfold ag_Tn; omega)
      have e0 : s (nI i * 15 + nI j).toNatClampNeg = ag_b1 (go i j) := by
        rw [ag_i15, nI_clamp (by omega), v1]
      have e1 : upd s (nI i * 15 + nI j).toNatClampNeg (vp_nar .boolean (s (nI j * 15 + nI i).toNatClampNeg)) = upd s (i * 15 + j) (ag_b1 (go j i)) := by
        rw [ag_i15, nI_clamp (by omega), ag_i15, nI_clamp (by omega), v2, nb]
      have e2 : upd (upd s (i * 15 + j) (ag_b1 (go j i))) (nI j * 15 + nI i).toNatClampNeg (vp_nar .boolean (ag_b1 (go i j))) = upd (upd s (i * 15 + j) (ag_b1 (go j i))) (j * 15 + i) (ag_b1 (go i j)) := by
        rw [ag_i15, nI_clamp (by omega), nb]
      refine ⟨hin, nm_r e0 ⟨hin2, hin, nm_r e1 ⟨hin2, nm_r e2 (nm_r (nI_1 j) (ih2 _ ?_))⟩⟩⟩
      intro a b ha hb
      have k := hs a b ha hb
      by_cases c2 : a = j ∧ b = i
      · obtain ⟨rfl, rfl⟩ := c2
        rw [pk_us]
        exact ⟨fun _ => rfl, fun z => absurd (show ag_Tn b (a + 1) a b by unfold ag_Tn; omega) z⟩
      · rw [pk_un (by omega)]
        by_cases c1 : a = i ∧ b = j
        · obtain ⟨rfl, rfl⟩ := c1
          rw [pk_us]
          exact ⟨fun _ => rfl, fun z => absurd (show ag_Tn a (b + 1) a b by unfold ag_Tn; omega) z⟩
        · rw [pk_un (by omega)]
          unfold ag_Tn at k ⊢
          exact ⟨fun z => k.1 (by omega), fun z => k.2 (by omega)⟩
end
section
/-! the class's list of turns -/
variable {g nc : Int32} {wl wo pl gl cg co ns nt : Nat → Int32}
def ag_Li (E : Nat → Bool) (W : Nat → Nat) (m c : Nat) (ns nt : Nat → Int32) : Prop := c = ag_cn E m ∧ ∀ t, t < m → E t = true → ns (ag_cn E t) = nI t ∧ nt (ag_cn E t) = nI (W t)
theorem ag_cn_skip {E : Nat → Bool} {m : Nat} : ∀ {m' : Nat}, m ≤ m' → (∀ t, m ≤ t → t < m' → E t = false) → ag_cn E m' = ag_cn E m := by
  intro m' h
  induction h with
  | refl => intro _; rfl
  | step h1 ih =>
    intro hf
    rw [ag_cn_f (by rw [hf _ h1 (by omega)]; decide)]
    exact ih (fun t a b => hf t a (by omega))
theorem ag_Li_skip {E : Nat → Bool} {W : Nat → Nat} {m m' c : Nat} (h : ag_Li E W m c ns nt) (hm : m ≤ m') (hf : ∀ t, m ≤ t → t < m' → E t = false) : ag_Li E W m' c ns nt := by
  refine ⟨by rw [ag_cn_skip hm hf]; exact h.1, fun t ht he => h.2 t ?_ he⟩
  by_cases z : t < m
  · exact z
  · rw [hf t (by omega) ht] at he
    exact absurd he (by decide)
theorem ag_Li_put {E : Nat → Bool} {W : Nat → Nat} {m c : Nat} (h : ag_Li E W m c ns nt) (he : E m = true) : ag_Li E W (m + 1) (c + 1) (upd ns c (nI m)) (upd nt c (nI (W m))) := by
  refine ⟨by rw [ag_cn_t he, h.1], fun t ht e => ?_⟩
  by_cases z : t = m
  · subst z
    rw [← h.1, pk_us, pk_us]
    exact ⟨rfl, rfl⟩
  · have := ag_cn_lt E (show t < m by omega) e
    rw [pk_un (by have := h.1; omega), pk_un (by have := h.1; omega)]
    exact h.2 t (by omega) e
theorem ag_i225 (x y z : Nat) : (nI x * 15 + nI y) * 15 + nI z = nI ((x * 15 + y) * 15 + z) := by
  rw [ag_i15, ag_i15]
theorem ag_dx3 {x y z : Nat} (hy : y < 15) (hz : z < 15) : ag_dx ((x * 15 + y) * 15 + z) = (x, y, z) := ag_dx_ex (q := (x, y, z)) hy hz
/-- the innermost loop -/
theorem ag_lt124 {post : SX → Prop} {J30 J58 : Int32 → Int32 → (Nat → Int32) → (Nat → Int32) → (Nat → Int32) → (Nat → Int32) → (Nat → Int32) → (Nat → Int32) → (Nat → Int32) → (Nat → Int32) → Prop} {w : Nat → Bool} {go : Nat → Nat → Bool} (hg : ag_Gd w go) (hc : ag_Cg go cg) {a b c x y k0 : Nat} (ha : a < 15) (hb : b < 15) (h3 : c < 15) (hx : x < 15) (hy : y < 15) (g1 : go a x = true) (g2 : go b y = true) (n1 : ¬ ag_cl a x b y) (h : ag_Li (fun t => ag_gb go (a, b, c) (ag_dx t)) (fun t => ag_wt true (a, b, c) (ag_dx t)) ((x * 15 + y) * 15) k0 ns nt)
    (p : ∀ k ns nt, ag_Li (fun t => ag_gb go (a, b, c) (ag_dx t)) (fun t => ag_wt true (a, b, c) (ag_dx t)) ((x * 15 + (y + 1)) * 15) k ns nt → J58 (nI (y + 1)) (nI k) wl wo pl gl cg co ns nt) : ∃ n, wX_listTurns_124 post J30 J58 (nI a) (nI b) (nI c) (nI x) (nI y) (nI (ag_st a x + ag_st b y)) g n 0 (nI k0) wl wo pl gl cg co ns nt := by
  refine loop_0 (fun n i (s : Int32 × (Nat → Int32) × (Nat → Int32)) => wX_listTurns_124 post J30 J58 (nI a) (nI b) (nI c) (nI x) (nI y) (nI (ag_st a x + ag_st b y)) g n (nI i) s.1 wl wo pl gl cg co s.2.1 s.2.2) (fun i s => ∃ k, s.1 = nI k ∧ ag_Li (fun t => ag_gb go (a, b, c) (ag_dx t)) (fun t => ag_wt true (a, b, c) (ag_dx t)) ((x * 15 + y) * 15 + i) k s.2.1 s.2.2) 15 (nI k0, ns, nt) ⟨k0, rfl, h⟩ ?_ ?_
  · rintro n ⟨s1, s2, s3⟩ ⟨k, e, hL⟩
    dsimp only at e hL ⊢
    subst e
    refine br_t (nI_le (b := 15) (Nat.le_refl 15) (by decide)) (nm_r (nI_1 y) (p k s2 s3 ?_))
    rw [show (x * 15 + (y + 1)) * 15 = (x * 15 + y) * 15 + 15 by omega]
    exact hL
  · rintro n i ⟨s1, s2, s3⟩ hi ⟨k, e, hL⟩ ih
    dsimp only at e hL ⊢
    subst e
    have hd := ag_dx3 (x := x) hy hi
    have hskip : ag_gb go (a, b, c) (x, y, i) = false → wX_listTurns_124 post J30 J58 (nI a) (nI b) (nI c) (nI x) (nI y) (nI (ag_st a x + ag_st b y)) g n (nI (i + 1)) (nI k) wl wo pl gl cg co s2 s3 := fun hf =>
      ih (nI k, s2, s3) ⟨k, rfl, ag_Li_skip hL (by omega) (fun t h1 h2 => by
        have : t = (x * 15 + y) * 15 + i := by omega
        rw [this, hd]
        exact hf)⟩
    refine br_f (nI_ge (b := 15) hi (by decide)) ⟨by rw [ag_i15]; exact vp_in_nI (by omega) (by omega), ?_⟩
    have ec : cg (nI c * 15 + nI i).toNatClampNeg = ag_b1 (go c i) := by
      rw [ag_i15, nI_clamp (by omega), ag_Cg2 hc h3 hi]
    rw [ec]
    refine br_c (fun h4 => ?_) (fun h4 => ?_)
    · rw [ag_b10] at h4
      exact nm_r (nI_1 i) (hskip (by simp [ag_gb, h4]))
    · have g3 : go c i = true := by
        cases z : go c i
        · exact absurd (ag_b10.mpr z) h4
        · rfl
      refine ag_clX (by omega) (by omega) (by omega) (by omega) (fun h5 => ?_) (fun n2 => ?_)
      · exact br_f (by decide) (nm_r (nI_1 i) (hskip (by simp [ag_gb, h5])))
      · refine br_t rfl ?_
        refine ag_clX (by omega) (by omega) (by omega) (by omega) (fun h6 => ?_) (fun n3 => ?_)
        · exact br_f (by decide) (nm_r (nI_1 i) (hskip (by simp [ag_gb, h6])))
        · refine br_t rfl ?_
          have hE : ag_gb go (a, b, c) (x, y, i) = true := by simp [ag_gb, g1, g2, g3, n1, n2, n3]
          have hE2 : (fun t => ag_gb go (a, b, c) (ag_dx t)) ((x * 15 + y) * 15 + i) = true := by
            dsimp only
            rw [hd]
            exact hE
          have hk : k < 125 := by
            have h7 := ag_cn_lt (fun t => ag_gb go (a, b, c) (ag_dx t)) (show (x * 15 + y) * 15 + i < 3375 by omega) hE2
            have h8 := ag_c125 hg (a, b, c)
            have h9 := hL.1
            omega
          refine br_f (nI_ge (b := 125) hk (by decide)) ⟨vp_in_nI hk (by omega), ?_⟩
          have hP := ag_Li_put hL hE2
          rw [hd] at hP
          refine nm_r (e' := upd s2 k (nI ((x * 15 + y) * 15 + i))) (by rw [nI_clamp (by omega), ag_i225]) ?_
          have fin : ∀ z : Nat, z = ag_st c i → wX_listTurns_229 post J30 J58 (wX_listTurns_124 post J30 J58 (nI a) (nI b) (nI c) (nI x) (nI y) (nI (ag_st a x + ag_st b y)) g n) (nI a) (nI b) (nI c) (nI x) (nI y) (nI (ag_st a x + ag_st b y)) (nI i) (nI z) (nI (ag_st a x + ag_st b y)) (nI k) g (nI k) wl wo pl gl cg co (upd s2 k (nI ((x * 15 + y) * 15 + i))) s3 := by
            intro z ez
            unfold wX_listTurns_229
            refine ⟨vp_in_nI hk (by omega), nm_r (e' := upd s3 k (nI (ag_wt true (a, b, c) (x, y, i)))) ?_ (nm_r (nI_1 k) (nm_r (nI_1 i) (ih (nI (k + 1), upd s2 k (nI ((x * 15 + y) * 15 + i)), upd s3 k (nI (ag_wt true (a, b, c) (x, y, i)))) ⟨k + 1, rfl, hP⟩)))⟩
            rw [nI_clamp (by omega), nI_add, ez]
            rfl
          refine pk_eq c i (fun e => ?_) (fun ne => ?_)
          · exact fin 0 (by rw [e, ag_stR])
          · exact fin 1 (by rw [ag_stN ne])
theorem ag_lt58 {post : SX → Prop} {J30 : Int32 → Int32 → (Nat → Int32) → (Nat → Int32) → (Nat → Int32) → (Nat → Int32) → (Nat → Int32) → (Nat → Int32) → (Nat → Int32) → (Nat → Int32) → Prop} {w : Nat → Bool} {go : Nat → Nat → Bool} (hg : ag_Gd w go) (hc : ag_Cg go cg) {a b c x k0 : Nat} (ha : a < 15) (hb : b < 15) (h3 : c < 15) (hx : x < 15) (g1 : go a x = true) (h : ag_Li (fun t => ag_gb go (a, b, c) (ag_dx t)) (fun t => ag_wt true (a, b, c) (ag_dx t)) (x * 225) k0 ns nt)
    (p : ∀ k ns nt, ag_Li (fun t => ag_gb go (a, b, c) (ag_dx t)) (fun t => ag_wt true (a, b, c) (ag_dx t)) ((x + 1) * 225) k ns nt → J30 (nI (x + 1)) (nI k) wl wo pl gl cg co ns nt) : ∃ n, wX_listTurns_58 post J30 (nI a) (nI b) (nI c) (nI x) g n 0 (nI k0) wl wo pl gl cg co ns nt := by
  refine loop_0 (fun n i (s : Int32 × (Nat → Int32) × (Nat → Int32)) => wX_listTurns_58 post J30 (nI a) (nI b) (nI c) (nI x) g n (nI i) s.1 wl wo pl gl cg co s.2.1 s.2.2) (fun i s => ∃ k, s.1 = nI k ∧ ag_Li (fun t => ag_gb go (a, b, c) (ag_dx t)) (fun t => ag_wt true (a, b, c) (ag_dx t)) ((x * 15 + i) * 15) k s.2.1 s.2.2) 15 (nI k0, ns, nt) ⟨k0, rfl, by rw [show (x * 15 + 0) * 15 = x * 225 by omega]; exact h⟩ ?_ ?_
  · rintro n ⟨s1, s2, s3⟩ ⟨k, e, hL⟩
    dsimp only at e hL ⊢
    subst e
    refine br_t (nI_le (b := 15) (Nat.le_refl 15) (by decide)) (nm_r (nI_1 x) (p k s2 s3 ?_))
    rw [show (x + 1) * 225 = (x * 15 + 15) * 15 by omega]
    exact hL
  · rintro n i ⟨s1, s2, s3⟩ hi ⟨k, e, hL⟩ ih
    dsimp only at e hL ⊢
    subst e
    have hskip : (∀ z, ag_gb go (a, b, c) (x, i, z) = false) → wX_listTurns_58 post J30 (nI a) (nI b) (nI c) (nI x) g n (nI (i + 1)) (nI k) wl wo pl gl cg co s2 s3 := fun hf =>
      ih (nI k, s2, s3) ⟨k, rfl, ag_Li_skip hL (by omega) (fun t h1 h2 => by
        have : t = (x * 15 + i) * 15 + t % 15 := by omega
        rw [this, ag_dx3 hi (Nat.mod_lt _ (by omega))]
        exact hf _)⟩
    refine br_f (nI_ge (b := 15) hi (by decide)) ⟨by rw [ag_i15]; exact vp_in_nI (by omega) (by omega), ?_⟩
    have ec : cg (nI b * 15 + nI i).toNatClampNeg = ag_b1 (go b i) := by
      rw [ag_i15, nI_clamp (by omega), ag_Cg2 hc hb hi]
    rw [ec]
    refine br_c (fun h4 => ?_) (fun h4 => ?_)
    · rw [ag_b10] at h4
      exact nm_r (nI_1 i) (hskip (fun z => by simp [ag_gb, h4]))
    · have g2 : go b i = true := by
        cases z : go b i
        · exact absurd (ag_b10.mpr z) h4
        · rfl
      refine ag_clX (by omega) (by omega) (by omega) (by omega) (fun h5 => ?_) (fun n1 => ?_)
      · exact br_f (by decide) (nm_r (nI_1 i) (hskip (fun z => by simp [ag_gb, h5])))
      · refine br_t rfl ?_
        have fin : ∀ z : Nat, z = ag_st a x → wX_listTurns_107 post J30 (wX_listTurns_58 post J30 (nI a) (nI b) (nI c) (nI x) g n) (nI a) (nI b) (nI c) (nI x) (nI i) (nI z) g (nI k) wl wo pl gl cg co s2 s3 := by
          intro z ez
          unfold wX_listTurns_107
          have inner := ag_lt124 (post := post) (J30 := J30) (J58 := wX_listTurns_58 post J30 (nI a) (nI b) (nI c) (nI x) g n) (g := g) (wl := wl) (wo := wo) (pl := pl) (gl := gl) (co := co) hg hc ha hb h3 hx hi g1 g2 n1 hL (fun k ns nt h => ih (nI k, ns, nt) ⟨k, rfl, h⟩)
          refine pk_eq b i (fun e => ?_) (fun ne => ?_)
          · refine nm_r (e' := nI (ag_st a x + ag_st b i)) ?_ inner
            rw [e, ag_stR, ez]
            exact nI_add _ 0
          · refine nm_r (e' := nI (ag_st a x + ag_st b i)) ?_ inner
            rw [ag_stN ne, ez]
            exact nI_add _ 1
        refine pk_eq a x (fun e => ?_) (fun ne => ?_)
        · exact fin 0 (by rw [e, ag_stR])
        · exact fin 1 (by rw [ag_stN ne])
/-- what the list holds -/
def ag_Lt (go : Nat → Nat → Bool) (s k : Nat) (ns nt : Nat → Int32) : Prop := ag_Li (fun t => ag_gb go (ag_dx s) (ag_dx t)) (fun t => ag_wt true (ag_dx s) (ag_dx t)) 3375 k ns nt
theorem ag_turnsX {post : SX → Prop} {w : Nat → Bool} {go : Nat → Nat → Bool} (hg : ag_Gd w go) (hc : ag_Cg go cg) {s : Nat} (hs : s < 3375) (p : ∀ k ns nt, ag_Lt go s k ns nt → post (g, nI k, wl, wo, pl, gl, cg, co, ns, nt)) : wpX_listTurns post (g, nc, wl, wo, pl, gl, cg, co, ns, nt) (nI s) := by
  unfold wpX_listTurns
  dsimp only
  refine ag_spot0 (by omega) (ag_spot1 (by omega) (ag_spot2 (by omega) ?_))
  unfold ag_Lt ag_dx at p
  have ha : s / 225 < 15 := by omega
  have hb : s / 15 % 15 < 15 := by omega
  have h3 : s % 15 < 15 := by omega
  generalize s / 225 = a at p ha ⊢
  generalize s / 15 % 15 = b at p hb ⊢
  generalize s % 15 = c at p h3 ⊢
  refine loop_0 (fun n i (s : Int32 × (Nat → Int32) × (Nat → Int32)) => wX_listTurns_30 post (nI a) (nI b) (nI c) g n (nI i) s.1 wl wo pl gl cg co s.2.1 s.2.2) (fun i s => ∃ k, s.1 = nI k ∧ ag_Li (fun t => ag_gb go (a, b, c) (ag_dx t)) (fun t => ag_wt true (a, b, c) (ag_dx t)) (i * 225) k s.2.1 s.2.2) 15 (nI 0, ns, nt) ⟨0, rfl, rfl, fun t ht => absurd ht (by omega)⟩ ?_ ?_
  · rintro n ⟨s1, s2, s3⟩ ⟨k, e, hL⟩
    dsimp only at e hL ⊢
    subst e
    exact br_t (nI_le (b := 15) (Nat.le_refl 15) (by decide)) (p k s2 s3 hL)
  · rintro n i ⟨s1, s2, s3⟩ hi ⟨k, e, hL⟩ ih
    dsimp only at e hL ⊢
    subst e
    refine br_f (nI_ge (b := 15) hi (by decide)) ⟨by rw [ag_i15]; exact vp_in_nI (by omega) (by omega), ?_⟩
    have ec : cg (nI a * 15 + nI i).toNatClampNeg = ag_b1 (go a i) := by
      rw [ag_i15, nI_clamp (by omega), ag_Cg2 hc ha hi]
    rw [ec]
    refine br_c (fun h4 => ?_) (fun h4 => ?_)
    · rw [ag_b10] at h4
      refine nm_r (nI_1 i) (ih (nI k, s2, s3) ⟨k, rfl, ag_Li_skip hL (by omega) (fun t h1 h2 => ?_)⟩)
      have : t = (i * 15 + t / 15 % 15) * 15 + t % 15 := by omega
      rw [this, ag_dx3 (Nat.mod_lt _ (by omega)) (Nat.mod_lt _ (by omega))]
      simp [ag_gb, h4]
    · have g1 : go a i = true := by
        cases z : go a i
        · exact absurd (ag_b10.mpr z) h4
        · rfl
      exact ag_lt58 hg hc ha hb h3 hi g1 hL (fun k ns nt h => ih (nI k, ns, nt) ⟨k, rfl, h⟩)
end
section
/-! the class's search -/
variable {g nc : Int32} {wl wo pl gl cg co ns nt : Nat → Int32}
theorem ag_LsG {α : Type} {φ : α → Nat} {V : α → Prop} {E : α → α → Nat → Prop} {G : Nat → Nat → Nat → Prop} {a : α} {b : Nat} (H : ∀ t c, ag_Rc G b t c ↔ ∃ q, t = φ q ∧ V q ∧ ag_Rc E a q c) {t c : Nat} (h : ag_Ls G b t c) : ∃ q, t = φ q ∧ V q ∧ ag_Ls E a q c := by
  obtain ⟨q, e, v, r⟩ := (H t c).mp h.1
  exact ⟨q, e, v, r, fun c' h' => h.2 c' ((H t c').mpr ⟨q, e, v, h'⟩)⟩
def ag_Ds {α : Type} (E : α → α → Nat → Prop) (a q : α) (d : Nat) : Prop := (d < 10126 ∧ ag_Ls E a q d) ∨ (d = 10126 ∧ ∀ c, ¬ ag_Rc E a q c)
theorem ag_DsU {α : Type} {E : α → α → Nat → Prop} {a q : α} {d d' : Nat} (h : ag_Ds E a q d) (h' : ag_Ds E a q d') : d = d' := by
  rcases h with ⟨h1, h2⟩ | ⟨h1, h2⟩
  · rcases h' with ⟨k1, k2⟩ | ⟨k1, k2⟩
    · exact ag_LsU h2 k2
    · exact absurd h2.1 (k2 _)
  · rcases h' with ⟨k1, k2⟩ | ⟨k1, k2⟩
    · exact absurd k2.1 (h2 _)
    · omega
theorem ag_SlG {α : Type} {φ : α → Nat} {V : α → Prop} {E : α → α → Nat → Prop} {G : Nat → Nat → Nat → Prop} {a : α} {b N : Nat} (H : ∀ t c, ag_Rc G b t c ↔ ∃ q, t = φ q ∧ V q ∧ ag_Rc E a q c) (inj : ∀ q q', V q → V q' → φ q = φ q' → q = q') {D : Nat → Nat} (h : ag_Sl N 10126 G b D) {q : α} (hq : V q) (hN : φ q < N) : ag_Ds E a q (D (φ q)) := by
  have k : ∀ c, ag_Rc G b (φ q) c ↔ ag_Rc E a q c := fun c => by
    constructor
    · intro h
      obtain ⟨q', e, v, r⟩ := (H _ c).mp h
      rw [inj q q' hq v e]
      exact r
    · intro h
      exact (H _ c).mpr ⟨q, rfl, hq, h⟩
  rcases h (φ q) hN with ⟨h1, h2⟩ | ⟨h1, h2⟩
  · exact Or.inl ⟨h1, (k _).mp h2.1, fun c' h' => h2.2 c' ((k c').mpr h')⟩
  · exact Or.inr ⟨h1, fun c z => h2 c ((k c).mpr z)⟩
theorem ag_SlV {α : Type} {φ : α → Nat} {V : α → Prop} {E : α → α → Nat → Prop} {G : Nat → Nat → Nat → Prop} {a : α} {b N : Nat} (H : ∀ t c, ag_Rc G b t c ↔ ∃ q, t = φ q ∧ V q ∧ ag_Rc E a q c) {D : Nat → Nat} (h : ag_Sl N 10126 G b D) {t : Nat} (ht : t < N) (hD : D t ≠ 10126) : ∃ q, t = φ q ∧ V q := by
  rcases h t ht with ⟨h1, h2⟩ | ⟨h1, h2⟩
  · obtain ⟨q, e, v, _⟩ := (H t _).mp h2.1
    exact ⟨q, e, v⟩
  · exact absurd h1 hD
/-- the costs as numbers -/
def ag_Rx (co : Nat → Int32) (D : Nat → Nat) : Prop := ∀ t, t < 3375 → co t = nI (D t) ∧ D t ≤ 10126
theorem ag_Rx_u {D : Nat → Nat} {t c : Nat} (h : ag_Rx co D) (hc : c ≤ 10126) : ag_Rx (upd co t (nI c)) (ag_nu D t c) := by
  intro x hx
  unfold ag_nu
  by_cases e : x = t
  · subst e
    rw [pk_us, if_pos rfl]
    exact ⟨rfl, hc⟩
  · rw [pk_un e, if_neg e]
    exact h x hx
theorem ag_wt3 (f : Bool) (q q' : Nat × Nat × Nat) : ag_wt f q q' ≤ 3 := by
  unfold ag_wt
  have h1 := ag_st_le q.1 q'.1
  have h2 := ag_st_le q.2.1 q'.2.1
  have h3 := ag_st_le q.2.2 q'.2.2
  split <;> omega
theorem ag_overX {post : SX → Prop} {w : Nat → Bool} {go : Nat → Nat → Bool} (hg : ag_Gd w go) (hc : ag_Cg go cg) {f : Bool} {s gg : Nat} {D : Nat → Nat} (hs : s < 3375) (hr : ag_Rx co D) (hgg : gg ≤ 10125) (hb : ∀ t, t < 3375 → D t < 10126 → D t ≤ gg)
    (p : ∀ gg' nc' co' ns' nt' D', ag_Rx co' D' → gg' ≤ 10125 → (∀ t, t < 3375 → D' t < 10126 → D' t ≤ gg') → ag_Rl 3375 (ag_GX go f) s D D' → post (nI gg', nc', wl, wo, pl, gl, cg, co', ns', nt')) : wpX_spreadOver post (nI gg, nc, wl, wo, pl, gl, cg, co, ns, nt) (nI s) (ag_b1 f) := by
  unfold wpX_spreadOver
  dsimp only
  refine ag_turnsX hg hc hs (fun k ns nt hL => ?_)
  dsimp only
  unfold ag_Lt at hL
  have hk : k ≤ 125 := by rw [hL.1]; exact ag_c125 hg _
  generalize hE : (fun t => ag_gb go (ag_dx s) (ag_dx t)) = E at hL
  have hE' : ∀ t, E t = ag_gb go (ag_dx s) (ag_dx t) := fun t => by rw [← hE]
  refine loop_0 (fun n i (x : Int32 × (Nat → Int32)) => wX_spreadOver_7 post (nI s) (ag_b1 f) (nI k) n (nI i) x.1 wl wo pl gl cg x.2 ns nt)
    (fun i x => ∃ D1 g1, x.1 = nI g1 ∧ ag_Rx x.2 D1 ∧ g1 ≤ 10125 ∧ (∀ t, t < 3375 → D1 t < 10126 → D1 t ≤ g1) ∧ D1 s = D s ∧ (∀ t, t < 3375 → D1 t ≤ D t) ∧ (∀ t, t < 3375 → E t = true → ag_cn E t < i → D1 t ≤ D s + ag_wt f (ag_dx s) (ag_dx t)) ∧ (∀ t, t < 3375 → D1 t = D t ∨ (E t = true ∧ D1 t = D s + ag_wt f (ag_dx s) (ag_dx t) ∧ D s + ag_wt f (ag_dx s) (ag_dx t) < D t))) k (nI gg, co)
    ⟨D, gg, rfl, hr, hgg, hb, rfl, fun t _ => Nat.le_refl _, fun t _ _ h => absurd h (by omega), fun t _ => Or.inl rfl⟩ ?_ ?_
  · rintro n ⟨x1, x2⟩ ⟨D1, g1, e, i1, i2, i3, i4, i5, i6, i7⟩
    dsimp only at e i1 ⊢
    subst e
    refine br_t (nI_le (Nat.le_refl k) (by omega)) (p g1 _ x2 ns nt D1 i1 i2 i3 ⟨i5, fun t q ht he => ?_, fun t ht => ?_⟩)
    · obtain ⟨_, he⟩ := he
      obtain ⟨h1, h2⟩ := ag_gb_E.mp he
      rw [← hE'] at h1
      rw [h2]
      refine i6 t ht h1 ?_
      rw [hL.1]
      exact ag_cn_lt E ht h1
    · rcases i7 t ht with h1 | ⟨h1, h2, h3⟩
      · exact Or.inl h1
      · rw [hE'] at h1
        exact Or.inr ⟨_, ⟨ht, ag_gb_E.mpr ⟨h1, rfl⟩⟩, h2, h3⟩
  · rintro n i ⟨x1, x2⟩ hi ⟨D1, g1, e, i1, i2, i3, i4, i5, i6, i7⟩ ih
    dsimp only at e i1 ⊢
    subst e
    obtain ⟨t, ht, hEt, hct⟩ := ag_cn_sur E 3375 i (by rw [← hL.1]; exact hi)
    obtain ⟨l1, l2⟩ := hL.2 t ht hEt
    rw [hct] at l1 l2
    have hw := ag_wt3 f (ag_dx s) (ag_dx t)
    have hDs := (i1 s hs).2
    have hDt := (i1 t ht).2
    refine br_f (nI_ge hi (by omega)) ⟨vp_in_nI hs (by omega), ?_⟩
    have fin : ∀ z : Int32, z = nI (ag_wt f (ag_dx s) (ag_dx t)) → wX_spreadOver_35 post (wX_spreadOver_7 post (nI s) (ag_b1 f) (nI k) n) (nI s) (ag_b1 f) (nI i) z (x2 (nI s).toNatClampNeg) (nI g1) (nI k) wl wo pl gl cg x2 ns nt := by
      intro z ez
      unfold wX_spreadOver_35
      refine nm_r (e' := nI (D s + ag_wt f (ag_dx s) (ag_dx t))) (by rw [nI_clamp (by omega), (i1 s hs).1, i4, ez, nI_add]) ?_
      refine ⟨vp_in_nI (show i < 125 by omega) (by omega), ?_⟩
      rw [nI_clamp (n := i) (by omega), l1, nI_clamp (n := t) (by omega), (i1 t ht).1]
      refine ⟨vp_in_nI ht (by omega), ?_⟩
      refine pk_le (D1 t) (D s + ag_wt f (ag_dx s) (ag_dx t)) (fun h1 => ?_) (fun h1 => ?_)
      · refine nm_r (nI_1 i) (ih (nI g1, x2) ⟨D1, g1, rfl, i1, i2, i3, i4, i5, fun t' ht' he' hc' => ?_, i7⟩)
        by_cases y : ag_cn E t' = i
        · have : t' = t := ag_cn_inj1 E he' hEt (by omega)
          rw [this]
          exact h1
        · exact i6 t' ht' he' (by omega)
      · refine ⟨vp_in_nI (show i < 125 by omega) (by omega), vp_in_nI ht (by omega), nm_e ?_⟩
        have hts : t ≠ s := fun z => by
          rw [z] at h1
          omega
        have hold : D1 t = D t ∨ (E t = true ∧ D1 t = D s + ag_wt f (ag_dx s) (ag_dx t) ∧ D s + ag_wt f (ag_dx s) (ag_dx t) < D t) := i7 t ht
        have key : ∀ g2, g1 ≤ g2 → g2 ≤ 10125 → D s + ag_wt f (ag_dx s) (ag_dx t) ≤ g2 → wX_spreadOver_7 post (nI s) (ag_b1 f) (nI k) n (nI (i + 1)) (nI g2) wl wo pl gl cg (upd x2 t (nI (D s + ag_wt f (ag_dx s) (ag_dx t)))) ns nt := by
          intro g2 j1 j2 j3
          refine ih (nI g2, upd x2 t (nI (D s + ag_wt f (ag_dx s) (ag_dx t)))) ⟨ag_nu D1 t (D s + ag_wt f (ag_dx s) (ag_dx t)), g2, rfl, ag_Rx_u i1 (by omega), j2, fun t' ht' hd' => ?_, ?_, fun t' ht' => ?_, fun t' ht' he' hc' => ?_, fun t' ht' => ?_⟩
          · unfold ag_nu at hd' ⊢
            by_cases y : t' = t
            · rw [if_pos y]; exact j3
            · rw [if_neg y] at hd' ⊢
              have := i3 t' ht' hd'
              omega
          · unfold ag_nu
            rw [if_neg (fun z => hts z.symm)]
            exact i4
          · unfold ag_nu
            by_cases y : t' = t
            · rw [if_pos y, y]
              have := i5 t ht
              omega
            · rw [if_neg y]; exact i5 t' ht'
          · unfold ag_nu
            by_cases y : t' = t
            · rw [if_pos y, y]; exact Nat.le_refl _
            · rw [if_neg y]
              refine i6 t' ht' he' ?_
              have : ag_cn E t' ≠ i := fun z => y (ag_cn_inj1 E he' hEt (by omega))
              omega
          · unfold ag_nu
            by_cases y : t' = t
            · rw [if_pos y, y]
              have := i5 t ht
              exact Or.inr ⟨hEt, rfl, by omega⟩
            · rw [if_neg y]; exact i7 t' ht'
        refine pk_le (D s + ag_wt f (ag_dx s) (ag_dx t)) g1 (fun h2 => ?_) (fun h2 => ?_)
        · exact nm_r (nI_1 i) (key g1 (by omega) (by omega) h2)
        · exact nm_r (nI_1 i) (key _ (by omega) (by omega) (Nat.le_refl _))
    cases f
    · exact br_t rfl (fin 1 rfl)
    · refine br_f (by decide) ⟨vp_in_nI (show i < 125 by omega) (by omega), fin _ ?_⟩
      rw [nI_clamp (by omega)]
      exact l2
theorem ag_GXz {go : Nat → Nat → Bool} {f : Bool} {s t : Nat} (h : ag_GX go f s t 0) : t = s := by
  have := ag_E_z h.2
  rw [← ag_ex_dx t, ← ag_ex_dx s, this]
theorem ag_fromX {post : SX → Prop} {w : Nat → Bool} {go : Nat → Nat → Bool} (hg : ag_Gd w go) (hc : ag_Cg go cg) {f : Bool} {T : Nat} {q : Nat × Nat × Nat} (hq : ag_V w T q)
    (p : ∀ g' nc' co' ns' nt' D, ag_Rx co' D → ag_Sl 3375 10126 (ag_GX go f) (ag_ex q) D → post (g', nc', wl, wo, pl, gl, cg, co', ns', nt')) : wpX_spreadFrom post (g, nc, wl, wo, pl, gl, cg, co, ns, nt) (nI (ag_ex q)) (ag_b1 f) := by
  have ha := (ag_exV hq).1
  have H := fun t c => ag_simX hg f T hq t c
  have hB : ∀ t c, ag_Ls (ag_GX go f) (ag_ex q) t c → c < 1728 := fun t c h => by
    obtain ⟨q', _, _, h'⟩ := ag_LsG H h
    exact ag_E_bd hg hq h'
  have hE : ∀ s t p, s < 3375 → ag_GX go f s t p → t < 3375 := fun s t p _ h => h.1
  have hz : ∀ s t, ag_GX go f s t 0 → t = s := fun s t h => ag_GXz h
  generalize ag_ex q = a at ha hB p ⊢
  unfold wpX_spreadFrom
  dsimp only
  refine loop_0 (fun n i s => wX_spreadFrom_2 post (nI a) (ag_b1 f) g nc n (nI i) wl wo pl gl cg s ns nt) (fun i s => ∀ t, t < i → s t = nI 10126) 3375 co (fun t h => absurd h (by omega)) ?_ ?_
  · intro n s h
    refine br_t (nI_le (b := 3375) (Nat.le_refl _) (by decide)) ⟨vp_in_nI ha (by omega), nm_r (e' := upd s a (nI 0)) (by rw [nI_clamp (by omega)]; rfl) ?_⟩
    refine loop_0 (fun n c (s : Int32 × Int32 × (Nat → Int32) × (Nat → Int32) × (Nat → Int32)) => wX_spreadFrom_38 post (ag_b1 f) n (nI c) s.1 s.2.1 wl wo pl gl cg s.2.2.1 s.2.2.2.1 s.2.2.2.2)
      (fun c s => ∃ D gg, s.1 = nI gg ∧ ag_Rx s.2.2.1 D ∧ gg ≤ 10125 ∧ (∀ t, t < 3375 → D t < 10126 → D t ≤ gg) ∧ ag_Iv 3375 10126 (ag_GX go f) a c 0 D) 10126 (nI 0, nc, upd s a (nI 0), ns, nt) ?_ ?_ ?_
    · refine ⟨ag_nu (fun _ => 10126) a 0, 0, rfl, ag_Rx_u (fun t ht => ⟨h t ht, Nat.le_refl _⟩) (by omega), by omega, fun t _ hd => ?_, ag_Iv0 _ (if_pos rfl) (fun t _ ht => if_neg ht)⟩
      unfold ag_nu at hd ⊢
      by_cases y : t = a
      · rw [if_pos y]; exact Nat.le_refl _
      · rw [if_neg y] at hd
        exact absurd hd (Nat.lt_irrefl 10126)
    · rintro n ⟨x1, x2, x3, x4, x5⟩ ⟨D, gg, e, i1, i2, i3, i4⟩
      dsimp only at e i1 ⊢
      subst e
      exact br_t (nI_lt (by omega) (by omega)) (p _ _ _ _ _ D i1 (ag_IvE ha hE hB (by omega) i4 (fun t _ h => h)))
    · rintro n c ⟨x1, x2, x3, x4, x5⟩ hcc ⟨D, gg, e, i1, i2, i3, i4⟩ ih
      dsimp only at e i1 ⊢
      subst e
      refine pk_lt gg c (fun h1 => ?_) (fun h1 => ?_)
      · exact p _ _ _ _ _ D i1 (ag_IvE ha hE hB (by omega) i4 (fun t ht h => Nat.lt_of_le_of_lt (i3 t ht h) h1))
      · refine br_f (nI_nlt (a := 10125) (by omega) (by omega)) ?_
        refine loop_0 (fun m i (s : Int32 × Int32 × (Nat → Int32) × (Nat → Int32) × (Nat → Int32)) => wX_spreadFrom_56 post (wX_spreadFrom_38 post (ag_b1 f) n) (ag_b1 f) (nI c) m (nI i) s.1 s.2.1 wl wo pl gl cg s.2.2.1 s.2.2.2.1 s.2.2.2.2)
          (fun i s => ∃ D gg, s.1 = nI gg ∧ ag_Rx s.2.2.1 D ∧ gg ≤ 10125 ∧ (∀ t, t < 3375 → D t < 10126 → D t ≤ gg) ∧ ag_Iv 3375 10126 (ag_GX go f) a c i D) 3375 (nI gg, x2, x3, x4, x5) ⟨D, gg, rfl, i1, i2, i3, i4⟩ ?_ ?_
        · rintro m ⟨y1, y2, y3, y4, y5⟩ ⟨D, gg, e, i1, i2, i3, i4⟩
          exact br_t (nI_le (b := 3375) (Nat.le_refl _) (by decide)) (nm_r (nI_1 c) (ih (y1, y2, y3, y4, y5) ⟨D, gg, e, i1, i2, i3, ag_IvN i4⟩))
        · rintro m i ⟨y1, y2, y3, y4, y5⟩ hi ⟨D, gg, e, i1, i2, i3, i4⟩ ih2
          dsimp only at e i1 ⊢
          subst e
          refine br_f (nI_ge (b := 3375) hi (by decide)) ⟨vp_in_nI hi (by omega), ?_⟩
          rw [nI_clamp (n := i) (by omega), (i1 i hi).1]
          have hDi := (i1 i hi).2
          refine pk_eq (D i) c (fun h2 => ?_) (fun h2 => ?_)
          · refine ag_overX hg hc hi i1 i2 i3 (fun gg' nc' co' ns' nt' D' j1 j2 j3 j4 => ?_)
            exact nm_r (nI_1 i) (ih2 (nI gg', nc', co', ns', nt') ⟨D', gg', rfl, j1, j2, j3, ag_IvS ha hi (by omega) (hz i) i4 h2 j4⟩)
          · exact nm_r (nI_1 i) (ih2 (nI gg, y2, y3, y4, y5) ⟨D, gg, rfl, i1, i2, i3, ag_IvK i4 h2⟩)
  · intro n i s hi h ih
    refine br_f (nI_ge (b := 3375) hi (by decide)) ⟨vp_in_nI hi (by omega), nm_r (e' := upd s i (nI 10126)) (by rw [nI_clamp (by omega)]; rfl) (nm_r (nI_1 i) (ih _ (fun t ht => ?_)))⟩
    by_cases y : t = i
    · subst y; exact pk_us
    · rw [pk_un y]; exact h t (by omega)
end
section
/-! the reference's small methods -/
variable {sz : Int32} {iw wo is py gy wk st cs gd : Nat → Int32}
theorem ag_cy0 {post : Int32 → Prop} {u : SY} {x : Int32} (h : ∀ c, c < 12 → x ≠ nI c) (p : post 0) : wpY_isCell post u x := by
  obtain ⟨sz, iw, wo, is, py, gy, wk, st, cs, gd⟩ := u
  unfold wpY_isCell
  dsimp only
  by_cases h0 : x < 0
  · exact br_t h0 p
  · obtain ⟨j, hj, rfl⟩ := nI_of h0
    have : ¬ j < 12 := fun z => h j z rfl
    exact br_f h0 (br_t (nI_lt (a := 11) (by omega) hj) p)
theorem ag_cy1 {post : Int32 → Prop} {u : SY} {c : Nat} (hc : c < 12) (p : post 1) : wpY_isCell post u (nI c) := by
  obtain ⟨sz, iw, wo, is, py, gy, wk, st, cs, gd⟩ := u
  unfold wpY_isCell
  dsimp only
  exact br_f (nI_pos (by omega)) (br_f (nI_nlt (a := 11) (by omega) (by omega)) p)
theorem ag_inY {post : Int32 → Prop} {u : SY} {T i : Nat} (hT : T < 8) (hi : i < 3) (p1 : T.testBit i = true → post 1) (p0 : T.testBit i = false → post 0) : wpY_in post u (nI T) (nI i) := by
  obtain ⟨sz, iw, wo, is, py, gy, wk, st, cs, gd⟩ := u
  unfold wpY_in
  dsimp only
  have k := ag_tb (m := T) (k := i) (by omega) (by omega)
  refine br_c (fun h => p1 (k.mp h)) (fun h => p0 ?_)
  cases e : T.testBit i
  · rfl
  · exact absurd (k.mpr e) h
def ag_iI (n : Nat) : Int32 := if n = 12 then -1 else nI n
theorem ag_iIn {n : Nat} (h : n ≠ 12) : ag_iI n = nI n := if_neg h
theorem ag_iI12 : ag_iI 12 = -1 := rfl
theorem ag_iI0 {n : Nat} (h : n ≤ 12) : ag_iI n < 0 ↔ n = 12 := by
  by_cases e : n = 12
  · subst e; exact ⟨fun _ => rfl, fun _ => by decide⟩
  · rw [ag_iIn e]
    exact ⟨fun z => absurd z (nI_pos (by omega)), fun z => absurd z e⟩
def ag_45 (r k : Int32) : Int32 := if r < 0 then -1 else if 3 ≤ r then -1 else if k < 0 then -1 else if 4 ≤ k then -1 else 4 * r + k
def ag_bsI (x y : Int32) : Int32 := ag_45 (x / 4 + (if y = 0 then -1 else if y = 2 then 1 else 0)) ((x - x / 4 * 4) + (if y = 1 then 1 else if y = 3 then -1 else 0))
theorem ag_45p {post : Int32 → Prop} {x3 z0 z1 : Int32} (p : post (ag_45 x3 (z1 + z0))) : wY_beside_45 post x3 z0 z1 sz iw wo is py gy wk st cs gd := by
  unfold wY_beside_45
  refine nm_e ?_
  unfold ag_45 at p
  by_cases h1 : x3 < 0
  · rw [if_pos h1] at p; exact br_t h1 p
  · rw [if_neg h1] at p
    refine br_f h1 ?_
    by_cases h2 : 3 ≤ x3
    · rw [if_pos h2] at p; exact br_t h2 p
    · rw [if_neg h2] at p
      refine br_f h2 ?_
      by_cases h3 : z1 + z0 < 0
      · rw [if_pos h3] at p; exact br_t h3 p
      · rw [if_neg h3] at p
        refine br_f h3 ?_
        by_cases h4 : 4 ≤ z1 + z0
        · rw [if_pos h4] at p; exact br_t h4 p
        · rw [if_neg h4] at p; exact br_f h4 p
theorem ag_21p {post : Int32 → Prop} {x y z0 : Int32} (p : post (ag_45 (x / 4 + z0) ((x - x / 4 * 4) + (if y = 1 then 1 else if y = 3 then -1 else 0)))) : wY_beside_21 post x y z0 (x / 4) sz iw wo is py gy wk st cs gd := by
  unfold wY_beside_21
  refine nm_e ⟨by decide, ?_⟩
  by_cases h1 : y = 1
  · rw [if_pos h1] at p; exact br_t h1 (ag_45p p)
  · rw [if_neg h1] at p
    refine br_f h1 ?_
    by_cases h2 : y = 3
    · rw [if_pos h2] at p; exact br_t h2 (ag_45p p)
    · rw [if_neg h2] at p; exact br_f h2 (ag_45p p)
theorem ag_bsp {post : Int32 → Prop} {x y : Int32} (p : post (ag_bsI x y)) : wpY_beside post (sz, iw, wo, is, py, gy, wk, st, cs, gd) x y := by
  unfold wpY_beside
  dsimp only
  refine ⟨by decide, ?_⟩
  unfold ag_bsI at p
  by_cases h1 : y = 0
  · rw [if_pos h1] at p; exact br_t h1 (ag_21p p)
  · rw [if_neg h1] at p
    refine br_f h1 ?_
    by_cases h2 : y = 2
    · rw [if_pos h2] at p; exact br_t h2 (ag_21p p)
    · rw [if_neg h2] at p; exact br_f h2 (ag_21p p)
theorem ag_bsI_eq : ∀ c, c < 12 → ∀ d, d < 4 → ag_bsI (nI c) (nI d) = ag_iI (ag_bs c d) := by decide +kernel
def ag_St (w : Nat → Bool) (o : Nat → Nat) (st : Nat → Int32) : Prop := ∀ k, k < 60 → st k = ag_iI (ag_tg w o (k / 5) (k % 5))
section
variable {post : SY → Prop} {J2 : Int32 → (Nat → Int32) → (Nat → Int32) → (Nat → Int32) → (Nat → Int32) → (Nat → Int32) → (Nat → Int32) → (Nat → Int32) → (Nat → Int32) → (Nat → Int32) → Prop}
theorem ag_f80 {k : Nat} {z : Int32} (hk : k < 60) (h : J2 (nI (k + 1)) iw wo is py gy wk (upd st k (-1)) cs gd) : wY_findSteps_80 post J2 (nI k) z sz iw wo is py gy wk st cs gd := by
  unfold wY_findSteps_80 wY_findSteps_81
  refine br_t rfl ⟨vp_in_nI hk (by omega), nm_r (e' := upd st k (-1)) (by rw [nI_clamp (by omega)]) (nm_r (nI_1 k) h)⟩
theorem ag_f76 {k : Nat} {z : Int32} (hk : k < 60) (h : J2 (nI (k + 1)) iw wo is py gy wk (upd st k z) cs gd) : wY_findSteps_76 post J2 (nI k) z sz iw wo is py gy wk st cs gd := by
  unfold wY_findSteps_76 wY_findSteps_81
  refine br_f (by decide) ⟨vp_in_nI hk (by omega), nm_r (e' := upd st k z) (by rw [nI_clamp (by omega)]) (nm_r (nI_1 k) h)⟩
theorem ag_f31 {w : Nat → Bool} {o : Nat → Nat} (ho : ∀ c, c < 12 → o c < 16) {k c d : Nat} (hk : k < 60) (hc : c < 12) (hd : d < 5) (h : J2 (nI (k + 1)) (ag_bi w) (ag_nf o) is py gy wk (upd st k (ag_iI (ag_tg w o c d))) cs gd) {z : Int32} {to : Nat} (hz : z = ag_iI to) (hto : to ≤ 12) (h4 : d = 4 → to = c) (h3 : d ≠ 4 → to = ag_bs c d) : wY_findSteps_31 post J2 (nI k) (nI c) (nI d) z sz (ag_bi w) (ag_nf o) is py gy wk st cs gd := by
  subst hz
  have n0 : ag_tg w o c d = 12 → wY_findSteps_80 post J2 (nI k) (ag_iI to) sz (ag_bi w) (ag_nf o) is py gy wk st cs gd := fun e => by
    rw [e] at h
    exact ag_f80 hk h
  have n1 : ag_tg w o c d = to → wY_findSteps_76 post J2 (nI k) (ag_iI to) sz (ag_bi w) (ag_nf o) is py gy wk st cs gd := fun e => by
    rw [e] at h
    exact ag_f76 hk h
  unfold ag_tg at n0 n1
  unfold wY_findSteps_31
  refine br_c (fun q1 => ?_) (fun q1 => ?_)
  · rw [ag_iI0 hto] at q1
    refine n0 ?_
    by_cases e : d = 4
    · have := h4 e; omega
    · rw [if_neg e, ← h3 e, if_neg (by omega)]
  · rw [ag_iI0 hto] at q1
    refine ⟨vp_in_nI hc (by omega), ?_⟩
    rw [nI_clamp (n := c) (by omega)]
    refine br_c (fun q2 => ?_) (fun q2 => ?_)
    · rw [ag_bi0] at q2
      rw [ag_iIn q1] at n0 n1 ⊢
      refine ⟨vp_in_nI (by omega) (by omega), ?_⟩
      rw [nI_clamp (n := to) (by omega)]
      refine br_c (fun q3 => ?_) (fun q3 => ?_)
      · rw [ag_bi0] at q3
        refine pk_eq d 4 (fun e => ?_) (fun e => ?_)
        · refine n1 ?_
          rw [if_pos e, if_neg (by rw [q2]; decide)]
          exact (h4 e).symm
        · refine ⟨vp_in_nI hc (by omega), ?_⟩
          have k := ag_tb (m := o c) (k := d) (by have := ho c hc; omega) (by omega)
          rw [if_neg e, ← h3 e] at n0 n1
          refine br_c (fun q4 => ?_) (fun q4 => ?_)
          · exact n1 (if_pos ⟨by omega, q2, q3, k.mp q4⟩)
          · exact n0 (if_neg (fun z => q4 (k.mpr z.2.2.2)))
      · refine n0 ?_
        rw [ag_bi0] at q3
        by_cases e : d = 4
        · rw [h4 e] at q3
          exact absurd q2 q3
        · rw [if_neg e, ← h3 e, if_neg (fun z => q3 z.2.2.1)]
    · refine n0 ?_
      rw [ag_bi0] at q2
      by_cases e : d = 4
      · rw [if_pos e, if_pos (by simpa using q2)]
      · rw [if_neg e, if_neg (fun z => q2 z.2.1)]
end
theorem ag_findY {post : SY → Prop} {w : Nat → Bool} {o : Nat → Nat} (ho : ∀ c, c < 12 → o c < 16) (p : ∀ st', ag_St w o st' → post (sz, ag_bi w, ag_nf o, is, py, gy, wk, st', cs, gd)) : wpY_findSteps post (sz, ag_bi w, ag_nf o, is, py, gy, wk, st, cs, gd) := by
  unfold wpY_findSteps
  dsimp only
  refine loop_0 (fun n i s => wY_findSteps_2 post sz n (nI i) (ag_bi w) (ag_nf o) is py gy wk s cs gd) (fun i s => ∀ k, k < i → s k = ag_iI (ag_tg w o (k / 5) (k % 5))) 60 st (fun k h => absurd h (by omega)) ?_ ?_
  · intro n s h
    exact br_t (nI_le (b := 60) (Nat.le_refl _) (by decide)) (p s h)
  · intro n i s hi h ih
    have key : wY_findSteps_2 post sz n (nI (i + 1)) (ag_bi w) (ag_nf o) is py gy wk (upd s i (ag_iI (ag_tg w o (i / 5) (i % 5)))) cs gd := by
      refine ih _ (fun k hk => ?_)
      by_cases e : k = i
      · subst e; exact pk_us
      · rw [pk_un e]; exact h k (by omega)
    refine br_f (nI_ge (b := 60) hi (by decide)) ⟨by decide, nm_r (pk_div (d := 5) (by omega) (by omega) (by omega)) ⟨by decide, nm_r (pk_rem (d := 5) (by omega) (by omega) (by omega)) ?_⟩⟩
    have hc : i / 5 < 12 := by omega
    have hd : i % 5 < 5 := by omega
    refine pk_eq (i % 5) 4 (fun e => ?_) (fun e => ?_)
    · exact ag_f31 ho hi hc hd key (z := nI (i / 5)) (to := i / 5) (ag_iIn (by omega)).symm (by omega) (fun _ => rfl) (fun z => absurd e z)
    · refine ag_bsp ?_
      exact ag_f31 ho hi hc hd key (to := ag_bs (i / 5) (i % 5)) (ag_bsI_eq _ hc _ (by omega)) (ag_bs_le _ hc _ (by omega)) (fun z => absurd z e) (fun _ => rfl)
/-- the walkers of a team, by rank -/
def ag_Wl (T : Nat) (wk : Nat → Int32) : Prop := ∀ j, j < 3 → T.testBit j = true → wk (ag_cn (fun j => T.testBit j) j) = nI j
theorem ag_sz_cn : ∀ T, 1 ≤ T → T ≤ 7 → ag_cn (fun j => T.testBit j) 3 = ag_sz T := ag_T7 (by decide) (by decide) (by decide) (by decide) (by decide) (by decide) (by decide)
theorem ag_cn_id (P : Nat → Bool) (n : Nat) : ag_cn P n ≤ n := by
  induction n with
  | zero => exact Nat.le_refl _
  | succ n ih => rw [ag_cn_s]; split <;> omega
theorem ag_chooseY {post : SY → Prop} {w : Nat → Bool} {o : Nat → Nat} (ho : ∀ c, c < 12 → o c < 16) {T : Nat} (h1 : 1 ≤ T) (h7 : T ≤ 7) (p : ∀ wk' st', ag_Wl T wk' → ag_St w o st' → post (nI (ag_sz T), ag_bi w, ag_nf o, is, py, gy, wk', st', cs, gd)) : wpY_choose post (sz, ag_bi w, ag_nf o, is, py, gy, wk, st, cs, gd) (nI T) := by
  unfold wpY_choose
  dsimp only
  refine ag_findY ho (fun st' hst => ?_)
  dsimp only
  refine loop_0 (fun n i (s : Int32 × (Nat → Int32)) => wY_choose_11 post (nI T) n (nI i) s.1 (ag_bi w) (ag_nf o) is py gy s.2 st' cs gd) (fun i s => s.1 = nI (ag_cn (fun j => T.testBit j) i) ∧ ∀ j, j < i → T.testBit j = true → s.2 (ag_cn (fun j => T.testBit j) j) = nI j) 3 (nI 0, wk) ⟨rfl, fun j h => absurd h (by omega)⟩ ?_ ?_
  · rintro n ⟨s1, s2⟩ ⟨e, h⟩
    dsimp only at e h ⊢
    subst e
    rw [ag_sz_cn T h1 h7]
    exact br_t (nI_le (b := 3) (Nat.le_refl _) (by decide)) (p s2 st' h hst)
  · rintro n i ⟨s1, s2⟩ hi ⟨e, h⟩ ih
    dsimp only at e h ⊢
    subst e
    have hcn := ag_cn_id (fun j => T.testBit j) i
    refine br_f (nI_ge (b := 3) hi (by decide)) (ag_inY (by omega) hi (fun hb => ?_) (fun hb => ?_))
    · refine br_f (by decide) ⟨vp_in_nI (by omega) (by omega), nm_r (e' := upd s2 (ag_cn (fun j => T.testBit j) i) (nI i)) (by rw [nI_clamp (by omega)]) (nm_r (nI_1 _) (nm_r (nI_1 i) (ih (nI (ag_cn (fun j => T.testBit j) i + 1), upd s2 (ag_cn (fun j => T.testBit j) i) (nI i)) ⟨?_, fun j hj hbj => ?_⟩)))⟩
      · rw [ag_cn_t (P := fun j => T.testBit j) hb]
      · dsimp only
        by_cases z : j = i
        · subst z; exact pk_us
        · have := ag_cn_lt (fun j => T.testBit j) (show j < i by omega) hbj
          rw [pk_un (by omega)]
          exact h j (by omega) hbj
    · refine br_t rfl (nm_r (nI_1 i) (ih (nI (ag_cn (fun j => T.testBit j) i), s2) ⟨?_, fun j hj hbj => ?_⟩))
      · rw [ag_cn_f (P := fun j => T.testBit j) (by rw [hb]; decide)]
      · refine h j ?_ hbj
        by_cases z : j = i
        · subst z; rw [hb] at hbj; exact absurd hbj (by decide)
        · omega
end
section
/-! the reference's codes, turns and search -/
variable {sz : Int32} {iw wo is py gy wk st cs gd : Nat → Int32}
def ag_hs (v : Nat → Nat) : Nat → Nat
  | 0 => 0
  | i + 1 => 12 * ag_hs v i + v i
theorem ag_hs3 (v : Nat → Nat) : ag_hs v 3 = 144 * v 0 + 12 * v 1 + v 2 := by
  show 12 * (12 * (12 * 0 + v 0) + v 1) + v 2 = _
  omega
theorem ag_startY {post : Int32 → Prop} {n : Nat} (hn : n ≤ 3) {v : Nat → Nat} (hv : ∀ k, k < n → ∃ j, j < 3 ∧ wk k = nI j ∧ py j = nI (v k)) (h0 : ∀ k, n ≤ k → v k = 0) (p : post (nI (ag_hs v 3))) : wpY_start post (nI n, iw, wo, is, py, gy, wk, st, cs, gd) := by
  unfold wpY_start
  dsimp only
  refine loop_0 (fun m i s => wY_start_4 post (nI n) iw wo is py gy wk st cs gd m s (nI i)) (fun i s => s = nI (ag_hs v i)) 3 (nI 0) rfl ?_ ?_
  · rintro m s rfl
    exact br_t (nI_le (b := 3) (Nat.le_refl _) (by decide)) p
  · rintro m i s hi rfl ih
    refine br_f (nI_ge (b := 3) hi (by decide)) ?_
    refine pk_le n i (fun h => ?_) (fun h => ?_)
    · refine nm_r (e' := nI (ag_hs v (i + 1))) ?_ (nm_r (nI_1 i) (ih _ rfl))
      rw [show ag_hs v (i + 1) = 12 * ag_hs v i + v i from rfl, h0 i h, ← nI_add, ← pk_mul]
      rfl
    · obtain ⟨j, hj, e1, e2⟩ := hv i h
      refine ⟨vp_in_nI hi (by omega), ?_⟩
      rw [nI_clamp (n := i) (by omega), e1]
      refine ⟨vp_in_nI hj (by omega), ?_⟩
      rw [nI_clamp (n := j) (by omega), e2]
      refine nm_r (e' := nI (ag_hs v (i + 1))) ?_ (nm_r (nI_1 i) (ih _ rfl))
      rw [show ag_hs v (i + 1) = 12 * ag_hs v i + v i from rfl, ← nI_add, ← pk_mul]
      rfl
theorem ag_finishY {post : Int32 → Prop} {n : Nat} (hn : n ≤ 3) {v : Nat → Nat} (hv : ∀ k, k < n → ∃ j, j < 3 ∧ wk k = nI j ∧ gy j = nI (v k)) (h0 : ∀ k, n ≤ k → v k = 0) (p : post (nI (ag_hs v 3))) : wpY_finish post (nI n, iw, wo, is, py, gy, wk, st, cs, gd) := by
  unfold wpY_finish
  dsimp only
  refine loop_0 (fun m i s => wY_finish_4 post (nI n) iw wo is py gy wk st cs gd m s (nI i)) (fun i s => s = nI (ag_hs v i)) 3 (nI 0) rfl ?_ ?_
  · rintro m s rfl
    exact br_t (nI_le (b := 3) (Nat.le_refl _) (by decide)) p
  · rintro m i s hi rfl ih
    refine br_f (nI_ge (b := 3) hi (by decide)) ?_
    refine pk_le n i (fun h => ?_) (fun h => ?_)
    · refine nm_r (e' := nI (ag_hs v (i + 1))) ?_ (nm_r (nI_1 i) (ih _ rfl))
      rw [show ag_hs v (i + 1) = 12 * ag_hs v i + v i from rfl, h0 i h, ← nI_add, ← pk_mul]
      rfl
    · obtain ⟨j, hj, e1, e2⟩ := hv i h
      refine ⟨vp_in_nI hi (by omega), ?_⟩
      rw [nI_clamp (n := i) (by omega), e1]
      refine ⟨vp_in_nI hj (by omega), ?_⟩
      rw [nI_clamp (n := j) (by omega), e2]
      refine nm_r (e' := nI (ag_hs v (i + 1))) ?_ (nm_r (nI_1 i) (ih _ rfl))
      rw [show ag_hs v (i + 1) = 12 * ag_hs v i + v i from rfl, ← nI_add, ← pk_mul]
      rfl
theorem ag_clY {post : Int32 → Prop} {u : SY} {a a' b b' : Nat} (h1 : a < 2 ^ 31) (h2 : a' < 2 ^ 31) (h3 : b < 2 ^ 31) (h4 : b' < 2 ^ 31) (p1 : ag_cl a a' b b' → post 1) (p0 : ¬ ag_cl a a' b b' → post 0) : wpY_clash post u (nI a) (nI b) (nI a') (nI b') := by
  obtain ⟨sz, iw, wo, is, py, gy, wk, st, cs, gd⟩ := u
  unfold wpY_clash
  dsimp only
  refine pk_eq a' b' (fun e => p1 (Or.inl e)) (fun n => pk_eq a' b (fun e => pk_eq b' a (fun e2 => p1 (Or.inr ⟨e, e2⟩)) (fun n2 => p0 ?_)) (fun n2 => p0 ?_))
  · unfold ag_cl; omega
  · unfold ag_cl; omega
def ag_iJ (n : Nat) : Int32 := if n = 1728 then -1 else nI n
def ag_a1 (n a b c X Y Z : Nat) : Nat := if X = 12 ∨ Y = 12 ∨ Z = 12 ∨ (1 < n ∧ ag_cl a X b Y) ∨ (2 < n ∧ (ag_cl a X c Z ∨ ag_cl b Y c Z)) then 1728 else 144 * X + 12 * Y + Z
theorem ag_179 {post : Int32 → Prop} {n a b c X Y Z : Nat} (hX : X < 12) (hY : Y < 12) (hZ : Z < 12) (hn : ¬ (X = 12 ∨ Y = 12 ∨ Z = 12 ∨ (1 < n ∧ ag_cl a X b Y) ∨ (2 < n ∧ (ag_cl a X c Z ∨ ag_cl b Y c Z)))) (p : post (ag_iJ (ag_a1 n a b c X Y Z))) : wY_after_179 post (nI X) (nI Y) (nI Z) sz iw wo is py gy wk st cs gd := by
  unfold wY_after_179
  unfold ag_a1 at p
  rw [if_neg hn, ag_iJ, if_neg (by omega), ← nI_add, ← nI_add, ← pk_mul, ← pk_mul] at p
  exact p
theorem ag_140 {post : Int32 → Prop} {n a b c X Y Z : Nat} (h3 : n ≤ 3) (ha : a < 12) (hb : b < 12) (hc : c < 12) (hX : X < 12) (hY : Y < 12) (hZ : Z < 12) (hn : ¬ (1 < n ∧ ag_cl a X b Y)) (p : post (ag_iJ (ag_a1 n a b c X Y Z))) : wY_after_140 post (nI a) (nI b) (nI c) (nI X) (nI Y) (nI Z) (nI n) iw wo is py gy wk st cs gd := by
  unfold wY_after_140
  have bad : (2 < n ∧ (ag_cl a X c Z ∨ ag_cl b Y c Z)) → post (-1) := fun h => by
    unfold ag_a1 at p
    rw [if_pos (Or.inr (Or.inr (Or.inr (Or.inr h))))] at p
    exact p
  have ok : ¬ (2 < n ∧ (ag_cl a X c Z ∨ ag_cl b Y c Z)) → wY_after_179 post (nI X) (nI Y) (nI Z) (nI n) iw wo is py gy wk st cs gd := fun h => by
    refine ag_179 (n := n) (a := a) (b := b) (c := c) hX hY hZ ?_ p
    rintro (z | z | z | z | z)
    · omega
    · omega
    · omega
    · exact hn z
    · exact h z
  refine pk_le n 2 (fun h => ok (fun z => by omega)) (fun h => ?_)
  refine ag_clY (by omega) (by omega) (by omega) (by omega) (fun c1 => ?_) (fun c1 => ?_)
  · exact br_f (by decide) (bad ⟨h, Or.inl c1⟩)
  · refine br_t rfl (ag_clY (by omega) (by omega) (by omega) (by omega) (fun c2 => ?_) (fun c2 => ?_))
    · exact br_f (by decide) (bad ⟨h, Or.inr c2⟩)
    · refine br_t rfl (ok ?_)
      rintro ⟨_, z | z⟩
      · exact c1 z
      · exact c2 z
theorem ag_101 {post : Int32 → Prop} {n a b c X Y Z : Nat} (h3 : n ≤ 3) (ha : a < 12) (hb : b < 12) (hc : c < 12) (hX : X ≤ 12) (hY : Y ≤ 12) (hZ : Z ≤ 12) (p : post (ag_iJ (ag_a1 n a b c X Y Z))) : wY_after_101 post (nI a) (nI b) (nI c) (ag_iI X) (ag_iI Y) (ag_iI Z) (nI n) iw wo is py gy wk st cs gd := by
  unfold wY_after_101
  have bad : (X = 12 ∨ Y = 12 ∨ Z = 12 ∨ (1 < n ∧ ag_cl a X b Y) ∨ (2 < n ∧ (ag_cl a X c Z ∨ ag_cl b Y c Z))) → post (-1) := fun h => by
    unfold ag_a1 at p
    rw [if_pos h] at p
    exact p
  refine br_c (fun q => bad (Or.inl ((ag_iI0 hX).mp q))) (fun q1 => ?_)
  rw [ag_iI0 hX] at q1
  refine br_c (fun q => bad (Or.inr (Or.inl ((ag_iI0 hY).mp q)))) (fun q2 => ?_)
  rw [ag_iI0 hY] at q2
  refine br_c (fun q => bad (Or.inr (Or.inr (Or.inl ((ag_iI0 hZ).mp q))))) (fun q3 => ?_)
  rw [ag_iI0 hZ] at q3
  rw [ag_iIn q1, ag_iIn q2, ag_iIn q3]
  refine pk_le n 1 (fun h => ?_) (fun h => ?_)
  · exact ag_140 h3 ha hb hc (by omega) (by omega) (by omega) (fun z => by omega) p
  · refine ag_clY (by omega) (by omega) (by omega) (by omega) (fun c1 => ?_) (fun c1 => ?_)
    · exact br_f (by decide) (bad (Or.inr (Or.inr (Or.inr (Or.inl ⟨h, c1⟩)))))
    · exact br_t rfl (ag_140 h3 ha hb hc (by omega) (by omega) (by omega) (fun z => c1 z.2) p)
theorem ag_5 (a d : Nat) : (5 : Int32) * nI a + nI d = nI (5 * a + d) := by
  rw [show (5 : Int32) = nI 5 from rfl, pk_mul, nI_add]
theorem ag_St2 {w : Nat → Bool} {o : Nat → Nat} (h : ag_St w o st) {a d : Nat} (ha : a < 12) (hd : d < 5) : st (5 * a + d) = ag_iI (ag_tg w o a d) := by
  have := h (5 * a + d) (by omega)
  rw [show (5 * a + d) / 5 = a by omega, show (5 * a + d) % 5 = d by omega] at this
  exact this
theorem ag_afterY {post : Int32 → Prop} {w : Nat → Bool} {o : Nat → Nat} {n s k : Nat} (h1 : 1 ≤ n) (h3 : n ≤ 3) (hst : ag_St w o st) (hs : s < 1728) (hk : k < 125) (p : post (ag_iJ (ag_af w o n s k))) : wpY_after post (nI n, iw, wo, is, py, gy, wk, st, cs, gd) (nI s) (nI k) := by
  unfold wpY_after
  dsimp only
  have ha : s / 144 < 12 := by omega
  have hb : s / 12 % 12 < 12 := by omega
  have hc : s % 12 < 12 := by omega
  have d1 : k / 25 < 5 := by omega
  have d2 : k / 5 % 5 < 5 := by omega
  have d3 : k % 5 < 5 := by omega
  refine ⟨by decide, nm_r (pk_div (d := 144) (by omega) (by omega) (by omega)) ⟨by decide, by decide, nm_r (e' := nI (s / 12 % 12)) ?_ ⟨by decide, nm_r (pk_rem (d := 12) (by omega) (by omega) (by omega)) ?_⟩⟩⟩
  · rw [show (12 : Int32) = nI 12 from rfl, pk_div (by omega) (by omega) (by omega), pk_rem (by omega) (by omega) (by omega)]
  · refine br_f (nI_nle (by omega) (by omega)) ⟨by decide, ?_⟩
    rw [show (25 : Int32) = nI 25 from rfl, pk_div (by omega) (by omega) (by omega), ag_5]
    refine ⟨vp_in_nI (by omega) (by omega), ?_⟩
    rw [nI_clamp (n := 5 * (s / 144) + k / 25) (by omega), ag_St2 hst ha d1]
    have e2 : nI k / 5 - nI k / 5 / 5 * 5 = nI (k / 5 % 5) := by
      rw [show (5 : Int32) = nI 5 from rfl, pk_div (by omega) (by omega) (by omega), pk_rem (by omega) (by omega) (by omega)]
    have e3 : nI k - nI k / 5 * 5 = nI (k % 5) := pk_rem (d := 5) (by omega) (by omega) (by omega)
    have X := ag_tg_le (w := w) (o := o) (d := k / 25) ha
    have Y := ag_tg_le (w := w) (o := o) (d := k / 5 % 5) hb
    have Z := ag_tg_le (w := w) (o := o) (d := k % 5) hc
    have q1 : 0 < n := by omega
    unfold wY_after_45
    refine pk_le n 1 (fun h => ?_) (fun h => ?_)
    · have q2 : ¬ 1 < n := by omega
      have q3 : ¬ 2 < n := by omega
      unfold wY_after_74
      refine br_t (nI_le (b := 2) (by omega) (by omega)) ?_
      refine ag_101 (Y := 0) (Z := 0) h3 ha hb hc X (by omega) (by omega) ?_
      unfold ag_af at p
      simp only [q1, q2, q3, if_true, if_false] at p
      unfold ag_a1
      simp only [q2, q3]
      exact p
    · refine ⟨by decide, by decide, ?_⟩
      rw [e2, ag_5]
      refine ⟨vp_in_nI (by omega) (by omega), ?_⟩
      rw [nI_clamp (n := 5 * (s / 12 % 12) + k / 5 % 5) (by omega), ag_St2 hst hb d2]
      unfold wY_after_74
      refine pk_le n 2 (fun h' => ?_) (fun h' => ?_)
      · have q3 : ¬ 2 < n := by omega
        refine ag_101 (Z := 0) h3 ha hb hc X Y (by omega) ?_
        unfold ag_af at p
        simp only [q1, h, q3, if_true, if_false] at p
        unfold ag_a1
        simp only [h, q3]
        exact p
      · refine ⟨by decide, ?_⟩
        rw [e3, ag_5]
        refine ⟨vp_in_nI (by omega) (by omega), ?_⟩
        rw [nI_clamp (n := 5 * (s % 12) + k % 5) (by omega), ag_St2 hst hc d3]
        refine ag_101 h3 ha hb hc X Y Z ?_
        unfold ag_af at p
        simp only [q1, h, h', if_true] at p
        unfold ag_a1
        simp only [h, h']
        exact p
theorem ag_effortY {post : Int32 → Prop} {n k : Nat} (h3 : n ≤ 3) (hk : k < 125) (p : post (nI (ag_ef n k))) : wpY_effort post (nI n, iw, wo, is, py, gy, wk, st, cs, gd) (nI k) := by
  have e2 : nI k / 5 - nI k / 5 / 5 * 5 = nI (k / 5 % 5) := by
    rw [show (5 : Int32) = nI 5 from rfl, pk_div (by omega) (by omega) (by omega), pk_rem (by omega) (by omega) (by omega)]
  have e3 : nI k - nI k / 5 * 5 = nI (k % 5) := pk_rem (d := 5) (by omega) (by omega) (by omega)
  have s38 : ∀ z : Nat, ag_ef n k = z + (if 2 < n ∧ k % 5 < 4 then 1 else 0) → wY_effort_38 post (nI k) (nI z) (nI n) iw wo is py gy wk st cs gd := by
    intro z hz
    unfold wY_effort_38
    refine pk_le n 2 (fun h => ?_) (fun h => ⟨by decide, ?_⟩)
    · rw [hz, if_neg (by omega)] at p
      exact p
    · rw [e3]
      refine pk_le 4 (k % 5) (fun h' => ?_) (fun h' => ?_)
      · rw [hz, if_neg (by omega)] at p
        exact p
      · rw [hz, if_pos ⟨h, h'⟩, ← nI_1] at p
        exact p
  have s13 : ∀ z : Nat, ag_ef n k = z + (if 1 < n ∧ k / 5 % 5 < 4 then 1 else 0) + (if 2 < n ∧ k % 5 < 4 then 1 else 0) → wY_effort_13 post (nI k) (nI z) (nI n) iw wo is py gy wk st cs gd := by
    intro z hz
    unfold wY_effort_13
    refine pk_le n 1 (fun h => ?_) (fun h => ⟨by decide, by decide, ?_⟩)
    · rw [if_neg (show ¬ (1 < n ∧ k / 5 % 5 < 4) by omega)] at hz
      exact s38 z hz
    · rw [e2]
      refine pk_le 4 (k / 5 % 5) (fun h' => ?_) (fun h' => ?_)
      · rw [if_neg (show ¬ (1 < n ∧ k / 5 % 5 < 4) by omega)] at hz
        exact s38 z hz
      · rw [if_pos (show 1 < n ∧ k / 5 % 5 < 4 from ⟨h, h'⟩)] at hz
        rw [nI_1]
        exact s38 (z + 1) hz
  unfold wpY_effort
  dsimp only
  refine ⟨by decide, ?_⟩
  rw [show (25 : Int32) = nI 25 from rfl, pk_div (by omega) (by omega) (by omega)]
  unfold ag_ef at s13
  refine pk_le 4 (k / 25) (fun h => ?_) (fun h => ?_)
  · exact s13 0 (by rw [if_neg (show ¬ k / 25 < 4 by omega)])
  · exact s13 1 (by rw [if_pos (show k / 25 < 4 from h)])
end
section
/-! the reference's search -/
variable {sz : Int32} {iw wo is py gy wk st cs gd : Nat → Int32}
def ag_iU (d : Nat) : Int32 := if d = 10126 then -1 else nI d
theorem ag_iUn {d : Nat} (h : d ≠ 10126) : ag_iU d = nI d := if_neg h
theorem ag_iU0 {d : Nat} (h : d ≤ 10126) : ag_iU d < 0 ↔ d = 10126 := by
  by_cases e : d = 10126
  · subst e; exact ⟨fun _ => rfl, fun _ => by decide⟩
  · rw [ag_iUn e]
    exact ⟨fun z => absurd z (nI_pos (by omega)), fun z => absurd z e⟩
def ag_Ry (cs : Nat → Int32) (D : Nat → Nat) : Prop := ∀ t, t < 1728 → cs t = ag_iU (D t) ∧ D t ≤ 10126
theorem ag_Ry_u {D : Nat → Nat} {t c : Nat} (h : ag_Ry cs D) (hc : c < 10126) : ag_Ry (upd cs t (nI c)) (ag_nu D t c) := by
  intro x hx
  unfold ag_nu
  by_cases e : x = t
  · subst e
    rw [pk_us, if_pos rfl, ag_iUn (by omega)]
    exact ⟨rfl, by omega⟩
  · rw [pk_un e, if_neg e]
    exact h x hx
theorem ag_ef3 (n k : Nat) : ag_ef n k ≤ 3 := by
  unfold ag_ef
  split <;> split <;> split <;> omega
def ag_pr (n : Nat) (f : Bool) (k : Nat) : Nat := if f = true then ag_ef n k else 1
theorem ag_pr3 (n : Nat) (f : Bool) (k : Nat) : ag_pr n f k ≤ 3 := by
  unfold ag_pr
  have := ag_ef3 n k
  split <;> omega
theorem ag_af_le {w : Nat → Bool} {o : Nat → Nat} {n s k : Nat} (hs : s < 1728) : ag_af w o n s k ≤ 1728 := by
  have ha : s / 144 < 12 := by omega
  have hb : s / 12 % 12 < 12 := by omega
  have hc : s % 12 < 12 := by omega
  have X := ag_tg_le (w := w) (o := o) (d := k / 25) ha
  have Y := ag_tg_le (w := w) (o := o) (d := k / 5 % 5) hb
  have Z := ag_tg_le (w := w) (o := o) (d := k % 5) hc
  unfold ag_af
  dsimp only
  generalize ag_tg w o (s / 144) (k / 25) = x at X ⊢
  generalize ag_tg w o (s / 12 % 12) (k / 5 % 5) = y at Y ⊢
  generalize ag_tg w o (s % 12) (k % 5) = z at Z ⊢
  have X' : (if 0 < n then x else 0) ≤ 12 := by split <;> omega
  have Y' : (if 1 < n then y else 0) ≤ 12 := by split <;> omega
  have Z' : (if 2 < n then z else 0) ≤ 12 := by split <;> omega
  generalize (if 0 < n then x else 0) = x' at X' ⊢
  generalize (if 1 < n then y else 0) = y' at Y' ⊢
  generalize (if 2 < n then z else 0) = z' at Z' ⊢
  by_cases h : x' = 12 ∨ y' = 12 ∨ z' = 12 ∨ (1 < n ∧ ag_cl (s / 144) x' (s / 12 % 12) y') ∨ (2 < n ∧ (ag_cl (s / 144) x' (s % 12) z' ∨ ag_cl (s / 12 % 12) y' (s % 12) z'))
  · rw [if_pos h]; exact Nat.le_refl _
  · rw [if_neg h]
    have h1 : x' ≠ 12 := fun z => h (Or.inl z)
    have h2 : y' ≠ 12 := fun z => h (Or.inr (Or.inl z))
    have h3 : z' ≠ 12 := fun z => h (Or.inr (Or.inr (Or.inl z)))
    clear h
    omega
theorem ag_leaveY {post : SY → Prop} {w : Nat → Bool} {o : Nat → Nat} {n s : Nat} {f : Bool} {D : Nat → Nat} (h1 : 1 ≤ n) (h3 : n ≤ 3) (hst : ag_St w o st) (hs : s < 1728) (hr : ag_Ry cs D) (hD : D s < 2000)
    (p : ∀ cs' D', ag_Ry cs' D' → ag_Rl 1728 (ag_GY w o n f) s D D' → post (nI n, iw, wo, is, py, gy, wk, st, cs', gd)) : wpY_leave post (nI n, iw, wo, is, py, gy, wk, st, cs, gd) (nI s) (nI (D s)) (ag_b1 f) := by
  unfold wpY_leave
  dsimp only
  refine loop_0 (fun m i x => wY_leave_3 post (nI s) (nI (D s)) (ag_b1 f) (nI n) m (nI i) iw wo is py gy wk st x gd)
    (fun i x => ∃ D1, ag_Ry x D1 ∧ D1 s = D s ∧ (∀ t, t < 1728 → D1 t ≤ D t) ∧ (∀ k, k < i → ag_af w o n s k < 1728 → D1 (ag_af w o n s k) ≤ D s + ag_pr n f k) ∧ (∀ t, t < 1728 → D1 t = D t ∨ ∃ k, k < 125 ∧ ag_af w o n s k = t ∧ D1 t = D s + ag_pr n f k ∧ D s + ag_pr n f k < D t)) 125 cs
    ⟨D, hr, rfl, fun t _ => Nat.le_refl _, fun k h => absurd h (by omega), fun t _ => Or.inl rfl⟩ ?_ ?_
  · rintro m x ⟨D1, i1, i2, i3, i4, i5⟩
    refine br_t (nI_le (b := 125) (Nat.le_refl _) (by decide)) (p x D1 i1 ⟨i3, ?_, fun t ht => ?_⟩)
    · rintro t q ht ⟨_, k, hk, rfl, rfl⟩
      exact i4 k hk ht
    · rcases i5 t ht with h | ⟨k, hk, e1, e2, e3⟩
      · exact Or.inl h
      · exact Or.inr ⟨_, ⟨ht, k, hk, e1, rfl⟩, e2, e3⟩
  · rintro m i x hi ⟨D1, i1, i2, i3, i4, i5⟩ ih
    refine br_f (nI_ge (b := 125) hi (by decide)) (ag_afterY h1 h3 hst hs hi ?_)
    have hp3 := ag_pr3 n f i
    have fin : ∀ z : Int32, z = nI (ag_pr n f i) → wY_leave_34 post (wY_leave_3 post (nI s) (nI (D s)) (ag_b1 f) (nI n) m) (nI s) (nI (D s)) (ag_b1 f) (nI i) (ag_iJ (ag_af w o n s i)) z (nI (D s)) (nI n) iw wo is py gy wk st x gd := by
      intro z ez
      unfold wY_leave_34
      refine nm_r (e' := nI (D s + ag_pr n f i)) (by rw [ez, nI_add]) ?_
      have hle := ag_af_le (w := w) (o := o) (n := n) (k := i) hs
      by_cases hb : ag_af w o n s i = 1728
      · refine br_t (by rw [hb]; decide) (nm_r (nI_1 i) (ih x ⟨D1, i1, i2, i3, fun k hk hl => ?_, i5⟩))
        by_cases y : k = i
        · subst y; omega
        · exact i4 k (by omega) hl
      · have ht : ag_af w o n s i < 1728 := by omega
        rw [show ag_iJ (ag_af w o n s i) = nI (ag_af w o n s i) from if_neg hb]
        refine br_f (nI_pos (by omega)) ⟨vp_in_nI ht (by omega), ?_⟩
        rw [nI_clamp (n := ag_af w o n s i) (by omega), (i1 _ ht).1]
        have hDt := (i1 _ ht).2
        have put : D s + ag_pr n f i < D1 (ag_af w o n s i) → wY_leave_3 post (nI s) (nI (D s)) (ag_b1 f) (nI n) m (nI (i + 1)) iw wo is py gy wk st (upd x (ag_af w o n s i) (nI (D s + ag_pr n f i))) gd := by
          intro hlt
          have hts : ag_af w o n s i ≠ s := fun z => by rw [z] at hlt; omega
          refine ih _ ⟨ag_nu D1 (ag_af w o n s i) (D s + ag_pr n f i), ag_Ry_u i1 (by omega), ?_, fun t ht' => ?_, fun k hk hl => ?_, fun t ht' => ?_⟩
          · unfold ag_nu
            rw [if_neg (fun z => hts z.symm)]
            exact i2
          · unfold ag_nu
            by_cases y : t = ag_af w o n s i
            · rw [if_pos y, y]
              have := i3 _ ht
              omega
            · rw [if_neg y]; exact i3 t ht'
          · unfold ag_nu
            by_cases y : ag_af w o n s k = ag_af w o n s i
            · rw [if_pos y]
              by_cases e : k = i
              · rw [e]; exact Nat.le_refl _
              · have := i4 k (by omega) hl
                rw [y] at this
                omega
            · rw [if_neg y]
              refine i4 k ?_ hl
              have : k ≠ i := fun z => y (by rw [z])
              omega
          · unfold ag_nu
            by_cases y : t = ag_af w o n s i
            · rw [if_pos y, y]
              have := i3 _ ht
              exact Or.inr ⟨i, hi, rfl, rfl, by omega⟩
            · rw [if_neg y]; exact i5 t ht'
        refine br_c (fun q => ?_) (fun q => ?_)
        · rw [ag_iU0 hDt] at q
          exact ⟨vp_in_nI ht (by omega), nm_e (nm_r (nI_1 i) (put (by omega)))⟩
        · rw [ag_iU0 hDt] at q
          rw [ag_iUn q]
          refine ⟨vp_in_nI ht (by omega), ?_⟩
          refine pk_le (D1 (ag_af w o n s i)) (D s + ag_pr n f i) (fun h => ?_) (fun h => ?_)
          · refine nm_r (nI_1 i) (ih x ⟨D1, i1, i2, i3, fun k hk hl => ?_, i5⟩)
            by_cases y : k = i
            · subst y; exact h
            · exact i4 k (by omega) hl
          · exact ⟨vp_in_nI ht (by omega), nm_e (nm_r (nI_1 i) (put h))⟩
    cases f
    · exact br_t rfl (fin 1 rfl)
    · exact br_f (by decide) (ag_effortY h3 hi (fin _ rfl))
theorem ag_GYz {w : Nat → Bool} {o : Nat → Nat} {f : Bool} {T : Nat} (h1 : 1 ≤ T) (h7 : T ≤ 7) {q : Nat × Nat × Nat} (hq : ag_V w T q) {t : Nat} (h : ag_GY w o (ag_sz T) f (ag_ey T q) t 0) : t = ag_ey T q := by
  obtain ⟨q', e, h'⟩ := (ag_TEall w o f T h1 h7 q t 0 hq).mp h
  rw [e, ag_E_z h']
theorem ag_sz3 : ∀ T, 1 ≤ T → T ≤ 7 → 1 ≤ ag_sz T ∧ ag_sz T ≤ 3 := ag_T7 (by decide) (by decide) (by decide) (by decide) (by decide) (by decide) (by decide)
theorem ag_spreadY {post : SY → Prop} {w : Nat → Bool} {o : Nat → Nat} {T : Nat} {f : Bool} {q : Nat × Nat × Nat} (h1 : 1 ≤ T) (h7 : T ≤ 7) (hst : ag_St w o st) (hq : ag_V w T q) (hstart : ∀ cs (post' : Int32 → Prop), post' (nI (ag_ey T q)) → wpY_start post' (nI (ag_sz T), iw, wo, is, py, gy, wk, st, cs, gd))
    (p : ∀ cs' D, ag_Ry cs' D → ag_Sl 1728 10126 (ag_GY w o (ag_sz T) f) (ag_ey T q) D → post (nI (ag_sz T), iw, wo, is, py, gy, wk, st, cs', gd)) : wpY_spread post (nI (ag_sz T), iw, wo, is, py, gy, wk, st, cs, gd) (ag_b1 f) := by
  have hg := ag_Gd_go w o
  have ha := ag_eyV T h1 h7 q hq
  have H := fun t c => ag_simY (o := o) f h1 h7 hq t c
  obtain ⟨n1, n3⟩ := ag_sz3 T h1 h7
  have hB : ∀ t c, ag_Ls (ag_GY w o (ag_sz T) f) (ag_ey T q) t c → c < 1728 := fun t c h => by
    obtain ⟨q', _, _, h'⟩ := ag_LsG H h
    exact ag_E_bd hg hq h'
  have hE : ∀ s t p, s < 1728 → ag_GY w o (ag_sz T) f s t p → t < 1728 := fun s t p _ h => h.1
  have hz : ∀ s c t, ag_Rc (ag_GY w o (ag_sz T) f) (ag_ey T q) s c → ag_GY w o (ag_sz T) f s t 0 → t = s := fun s c t hr h => by
    obtain ⟨q', rfl, v, _⟩ := (H s c).mp hr
    exact ag_GYz h1 h7 v h
  generalize ag_ey T q = a at ha hB hz hstart p ⊢
  generalize ag_sz T = N at n1 n3 hB hE hz hstart p ⊢
  unfold wpY_spread
  dsimp only
  refine loop_0 (fun n i s => wY_spread_2 post (ag_b1 f) (nI N) n (nI i) iw wo is py gy wk st s gd) (fun i s => ∀ t, t < i → s t = -1) 1728 cs (fun t h => absurd h (by omega)) ?_ ?_
  · intro n s h
    refine br_t (nI_le (b := 1728) (Nat.le_refl _) (by decide)) (hstart s _ ⟨vp_in_nI ha (by omega), nm_r (e' := upd s a (nI 0)) (by rw [nI_clamp (by omega)]; rfl) ?_⟩)
    refine loop_0 (fun n c (x : Int32 × (Nat → Int32)) => wY_spread_39 post (ag_b1 f) n x.1 (nI c) (nI N) iw wo is py gy wk st x.2 gd)
      (fun c x => ∃ D, ag_Ry x.2 D ∧ ag_Iv 1728 10126 (ag_GY w o N f) a c 0 D ∧ (x.1 = 0 → ∀ t, t < 1728 → D t < 10126 → D t < c)) 2000 (1, upd s a (nI 0)) ?_ ?_ ?_
    · exact ⟨ag_nu (fun _ => 10126) a 0, ag_Ry_u (fun t ht => ⟨h t ht, Nat.le_refl _⟩) (by omega), ag_Iv0 _ (if_pos rfl) (fun t _ ht => if_neg ht), fun z => absurd z (show ¬ (1 : Int32) = 0 by decide)⟩
    · rintro n ⟨x1, x2⟩ ⟨D, i1, i2, i3⟩
      refine br_t (nI_le (b := 2000) (Nat.le_refl _) (by decide)) (p x2 D i1 (ag_IvE ha hE hB (by omega) i2 (fun t ht hd => ?_)))
      by_cases y : D t < 2000
      · exact y
      · have := ag_IvB ha hE hB (by omega) i2 ht hd (by omega)
        omega
    · rintro n c ⟨x1, x2⟩ hcc ⟨D, i1, i2, i3⟩ ih
      dsimp only at i1 i3 ⊢
      refine br_f (nI_ge (b := 2000) hcc (by decide)) (br_c (fun e => ?_) (fun e => ?_))
      · exact p x2 D i1 (ag_IvE ha hE hB (by omega) i2 (i3 e))
      · refine loop_0 (fun m i (x : Int32 × (Nat → Int32)) => wY_spread_56 post (wY_spread_39 post (ag_b1 f) n) (ag_b1 f) (nI c) m x.1 (nI i) (nI N) iw wo is py gy wk st x.2 gd)
          (fun i x => ∃ D, ag_Ry x.2 D ∧ ag_Iv 1728 10126 (ag_GY w o N f) a c i D ∧ (x.1 = 0 → ∀ t, t < i → D t < 10126 → D t < c)) 1728 (0, x2) ⟨D, i1, i2, fun _ t ht => absurd ht (by omega)⟩ ?_ ?_
        · rintro m ⟨y1, y2⟩ ⟨D, i1, i2, i3⟩
          refine br_t (nI_le (b := 1728) (Nat.le_refl _) (by decide)) (nm_r (nI_1 c) (ih (y1, y2) ⟨D, i1, ag_IvN i2, fun e t ht hd => ?_⟩))
          have := i3 e t ht hd
          omega
        · rintro m i ⟨y1, y2⟩ hi ⟨D, i1, i2, i3⟩ ih2
          dsimp only at i1 i3 ⊢
          refine br_f (nI_ge (b := 1728) hi (by decide)) ⟨vp_in_nI hi (by omega), ?_⟩
          rw [nI_clamp (n := i) (by omega), (i1 i hi).1]
          have hDi := (i1 i hi).2
          have s85 : ∀ D' x', ag_Ry x' D' → ag_Iv 1728 10126 (ag_GY w o N f) a c (i + 1) D' → (D' i = c ∨ D' = D) → wY_spread_85 post (wY_spread_39 post (ag_b1 f) n) (wY_spread_56 post (wY_spread_39 post (ag_b1 f) n) (ag_b1 f) (nI c) m) (ag_b1 f) y1 (nI c) (nI i) (nI N) iw wo is py gy wk st x' gd := by
            intro D' x' j1 j2 j3
            have hDi' := (j1 i hi).2
            unfold wY_spread_85
            refine br_c (fun e => ?_) (fun e => ?_)
            · refine ⟨vp_in_nI hi (by omega), ?_⟩
              rw [nI_clamp (n := i) (by omega), (j1 i hi).1]
              refine br_c (fun q => ?_) (fun q => ?_)
              · refine nm_r (nI_1 i) (ih2 (0, x') ⟨D', j1, j2, fun _ t ht hd => ?_⟩)
                rcases j3 with j3 | j3
                · rw [j3, ag_iUn (by omega)] at q
                  exact absurd q (nI_nlt (Nat.le_refl _) (by omega))
                · rw [j3] at hd q ⊢
                  by_cases y : t = i
                  · rw [y] at hd ⊢
                    rw [ag_iUn (by omega), nI_ltI (by omega) (by omega)] at q
                    exact q
                  · exact i3 e t (by omega) hd
              · exact nm_r (nI_1 i) (ih2 (1, x') ⟨D', j1, j2, fun z => absurd z (show ¬ (1 : Int32) = 0 by decide)⟩)
            · exact nm_r (nI_1 i) (ih2 (1, x') ⟨D', j1, j2, fun z => absurd z (show ¬ (1 : Int32) = 0 by decide)⟩)
          refine br_c (fun q => ?_) (fun q => ?_)
          · have hc : D i = c := by
              by_cases y : D i = 10126
              · rw [y] at q
                exact absurd q (by
                  intro z
                  have : (nI c) < 0 := by rw [← z]; decide
                  exact nI_pos (by omega) this)
              · rw [ag_iUn y, nI_eq (by omega) (by omega)] at q
                exact q
            rw [← hc]
            refine ag_leaveY n1 n3 hst hi i1 (by omega) (fun cs' D' j1 j2 => ?_)
            rw [hc]
            refine s85 D' cs' j1 (ag_IvS ha hi (by omega) (fun t ht => hz i (D i) t (i2.2.2.1 i hi (by omega)) ht) i2 hc j2) (Or.inl ?_)
            rcases j2.2.2 i hi with h | ⟨p, _, _, h⟩
            · omega
            · omega
          · refine s85 D y2 i1 (ag_IvK i2 (fun z => q ?_)) (Or.inr rfl)
            rw [z, ag_iUn (by omega)]
  · intro n i s hi h ih
    refine br_f (nI_ge (b := 1728) hi (by decide)) ⟨vp_in_nI hi (by omega), nm_r (e' := upd s i (-1)) (by rw [nI_clamp (by omega)]) (nm_r (nI_1 i) (ih _ (fun t ht => ?_)))⟩
    by_cases y : t = i
    · subst y; exact pk_us
    · rw [pk_un y]; exact h t (by omega)
end
section
/-! the relation; readiness on both sides -/
variable {g nc : Int32} {pl gl cg co ns nt : Nat → Int32} {sz : Int32} {is py gy wk st cs gd : Nat → Int32}
def ag_Wr (z : Nat → Bool) (P G : Nat → Nat) (pl gl is py gy : Nat → Int32) : Prop := ∀ i, i < 3 → is i = ag_b1 (z i) ∧ P i < 12 ∧ G i < 12 ∧ (z i = true → pl i = nI (P i) ∧ gl i = nI (G i) ∧ py i = nI (P i) ∧ gy i = nI (G i)) ∧ (z i = false → pl i = -1)
def i_Rel (_ : Nat) (u : SX) (v : SY) : Prop := ∃ (w : Nat → Bool) (o : Nat → Nat) (z : Nat → Bool) (P G : Nat → Nat) (g nc : Int32) (pl gl cg co ns nt : Nat → Int32) (sz : Int32) (is py gy wk st cs gd : Nat → Int32), u = (g, nc, ag_bi w, ag_nf o, pl, gl, cg, co, ns, nt) ∧ v = (sz, ag_bi w, ag_nf o, is, py, gy, wk, st, cs, gd) ∧ (∀ c, c < 12 → o c < 16) ∧ ag_Wr z P G pl gl is py gy
theorem i_up {k : Nat} {u : SX} {v : SY} (h : i_Rel k u v) : i_Rel (k + 4) u v := h
def ag_Op (w z : Nat → Bool) (P G : Nat → Nat) (i : Nat) : Prop := z i = true ∧ w (P i) = false ∧ w (G i) = false
def ag_Rd (w z : Nat → Bool) (P G : Nat → Nat) (T : Nat) : Prop := (1 ≤ T ∧ T ≤ 7) ∧ (∀ i, i < 3 → T.testBit i = true → ag_Op w z P G i) ∧ (∀ i j, i < 3 → j < i → T.testBit i = true → T.testBit j = true → P i ≠ P j ∧ G i ≠ G j)
theorem ag_nm1 {n : Nat} (h : n < 2 ^ 31) : nI n ≠ -1 := fun e => nI_pos h (by rw [e]; decide)
theorem ag_openX {post : Int32 → Prop} {w z : Nat → Bool} {o P G : Nat → Nat} (hW : ag_Wr z P G pl gl is py gy) {i : Nat} (hi : i < 3) (p1 : ag_Op w z P G i → post 1) (p0 : ¬ ag_Op w z P G i → post 0) : wpX_isSetOnOpenCells post (g, nc, ag_bi w, ag_nf o, pl, gl, cg, co, ns, nt) (nI i) := by
  obtain ⟨_, b1, b2, h1, h0⟩ := hW i hi
  unfold wpX_isSetOnOpenCells
  dsimp only
  refine ⟨vp_in_nI hi (by omega), ?_⟩
  rw [nI_clamp (n := i) (by omega)]
  cases e : z i
  · exact br_t (h0 e) (p0 (fun q => by rw [q.1] at e; exact absurd e (by decide)))
  · obtain ⟨e1, e2, _, _⟩ := h1 e
    rw [e1, e2, nI_clamp (n := P i) (by omega), nI_clamp (n := G i) (by omega)]
    refine br_f (ag_nm1 (by omega)) ⟨vp_in_nI hi (by omega), vp_in_nI b1 (by omega), ?_⟩
    refine br_c (fun q1 => ?_) (fun q1 => ?_)
    · rw [ag_bi0] at q1
      refine ⟨vp_in_nI hi (by omega), vp_in_nI b2 (by omega), ?_⟩
      refine br_c (fun q2 => ?_) (fun q2 => ?_)
      · rw [ag_bi0] at q2
        exact p1 ⟨e, q1, q2⟩
      · rw [ag_bi0] at q2
        exact p0 (fun q => q2 q.2.2)
    · rw [ag_bi0] at q1
      exact p0 (fun q => q1 q.2.1)
def ag_Ms (T : Nat) (P : Nat → Nat) (i m : Nat) : Prop := m < 2 ^ 31 ∧ ∀ c, m.testBit c = true ↔ ∃ j, j < i ∧ T.testBit j = true ∧ P j = c
theorem ag_Ms_n {T : Nat} {P : Nat → Nat} {i m : Nat} (h : ag_Ms T P i m) (hb : T.testBit i = false) : ag_Ms T P (i + 1) m := by
  refine ⟨h.1, fun c => ?_⟩
  rw [h.2 c]
  constructor
  · rintro ⟨j, a, b, e⟩; exact ⟨j, by omega, b, e⟩
  · rintro ⟨j, a, b, e⟩
    refine ⟨j, ?_, b, e⟩
    have : j ≠ i := fun z => by rw [z, hb] at b; exact absurd b (by decide)
    omega
theorem ag_Ms_y {T : Nat} {P : Nat → Nat} {i m : Nat} (h : ag_Ms T P i m) (hb : T.testBit i = true) (hP : P i < 31) : ag_Ms T P (i + 1) (m ||| 2 ^ P i) := by
  refine ⟨ag_or_lt h.1 (ag_pw hP), fun c => ?_⟩
  rw [Nat.testBit_or, Nat.testBit_two_pow, Bool.or_eq_true, h.2 c, decide_eq_true_eq]
  constructor
  · rintro (⟨j, a, b, e⟩ | e)
    · exact ⟨j, by omega, b, e⟩
    · exact ⟨i, by omega, hb, e⟩
  · rintro ⟨j, a, b, e⟩
    by_cases y : j = i
    · subst y; exact Or.inr e
    · exact Or.inl ⟨j, by omega, b, e⟩
theorem ag_rdX {post : Int32 → Prop} {w z : Nat → Bool} {o P G : Nat → Nat} (hW : ag_Wr z P G pl gl is py gy) {x : Int32} (p1 : ∀ T, x = nI T → ag_Rd w z P G T → post 1) (p0 : (∀ T, x = nI T → ¬ ag_Rd w z P G T) → post 0) : wpX_isReady post (g, nc, ag_bi w, ag_nf o, pl, gl, cg, co, ns, nt) x := by
  unfold wpX_isReady
  dsimp only
  refine br_c (fun h => p0 ?_) (fun h => ?_)
  · intro T e r
    rw [e] at h
    have := r.1
    exact absurd h (nI_nlt (b := 1) (by omega) (by omega))
  · have hx0 : ¬ x < 0 := fun q => by
      apply h
      rw [Int32.lt_iff_toInt_lt] at q ⊢
      have e0 : (0 : Int32).toInt = 0 := by decide
      have e1 : (1 : Int32).toInt = 1 := by decide
      omega
    obtain ⟨T, hT, rfl⟩ := nI_of hx0
    have hT1 : 1 ≤ T := by
      by_cases y : 1 ≤ T
      · exact y
      · exact absurd (nI_lt (b := 1) (by omega) (by omega)) h
    refine pk_le T 7 (fun hT7 => ?_) (fun hT7 => p0 (fun T' e r => ?_))
    · have q0 : ¬ ag_Rd w z P G T → post 0 := fun r => p0 (fun T' e r' => by
        have h1 := r'.1
        rw [nI_eq (by omega) (by omega)] at e
        subst e
        exact r r')
      refine loop_0 (fun n i (s : Int32 × Int32) => wX_isReady_20 post (nI T) g nc (ag_bi w) (ag_nf o) pl gl cg co ns nt n s.1 s.2 (nI i))
        (fun i s => ∃ m1 m2, s.1 = nI m1 ∧ s.2 = nI m2 ∧ ag_Ms T P i m1 ∧ ag_Ms T G i m2 ∧ (∀ j, j < i → T.testBit j = true → ag_Op w z P G j) ∧ (∀ a b, a < i → b < a → T.testBit a = true → T.testBit b = true → P a ≠ P b ∧ G a ≠ G b)) 3 (nI 0, nI 0) ?_ ?_ ?_
      · have h0 : ∀ P : Nat → Nat, ag_Ms T P 0 0 := fun P => ⟨by omega, fun c => by
          rw [Nat.zero_testBit]
          exact ⟨fun q => absurd q (by decide), fun ⟨j, q, _⟩ => absurd q (by omega)⟩⟩
        exact ⟨0, 0, rfl, rfl, h0 P, h0 G, fun j q => absurd q (by omega), fun a b q => absurd q (by omega)⟩
      · rintro n ⟨s1, s2⟩ ⟨m1, m2, _, _, _, _, i3, i4⟩
        exact br_t (nI_le (b := 3) (Nat.le_refl _) (by decide)) (p1 T rfl ⟨⟨hT1, hT7⟩, i3, fun a b h1 h2 => i4 a b h1 h2⟩)
      · rintro n i ⟨s1, s2⟩ hi ⟨m1, m2, e1, e2, i1, i2, i3, i4⟩ ih
        dsimp only at e1 e2 ⊢
        subst e1
        subst e2
        refine br_f (nI_ge (b := 3) hi (by decide)) (ag_inX (by omega) hi (fun hb => ?_) (fun hb => ?_))
        · refine br_f (by decide) (ag_openX hW hi (fun hO => ?_) (fun hO => ?_))
          · obtain ⟨_, b1, b2, h1, _⟩ := hW i hi
            obtain ⟨f1, f2, _, _⟩ := h1 hO.1
            refine br_f (by decide) ⟨vp_in_nI hi (by omega), nm_r (e' := nI (2 ^ P i)) (by rw [nI_clamp (by omega), f1, ag_one (by omega)]) ⟨vp_in_nI hi (by omega), nm_r (e' := nI (2 ^ G i)) (by rw [nI_clamp (by omega), f2, ag_one (by omega)]) ?_⟩⟩
            refine br_c (fun q1 => ?_) (fun q1 => ?_)
            · rw [ag_and0 i1.1 (by omega)] at q1
              refine br_c (fun q2 => ?_) (fun q2 => ?_)
              · rw [ag_and0 i2.1 (by omega)] at q2
                refine nm_r (ag_or m1 (2 ^ P i)) (nm_r (ag_or m2 (2 ^ G i)) (nm_r (nI_1 i) (ih (nI (m1 ||| 2 ^ P i), nI (m2 ||| 2 ^ G i)) ⟨_, _, rfl, rfl, ag_Ms_y i1 hb (by omega), ag_Ms_y i2 hb (by omega), fun j hj hbj => ?_, fun a b ha hb' ba bb => ?_⟩)))
                · by_cases y : j = i
                  · rw [y]; exact hO
                  · exact i3 j (by omega) hbj
                · by_cases y : a = i
                  · subst y
                    refine ⟨fun e => ?_, fun e => ?_⟩
                    · have := (i1.2 (P a)).mpr ⟨b, hb', bb, e.symm⟩
                      rw [q1] at this
                      exact absurd this (by decide)
                    · have := (i2.2 (G a)).mpr ⟨b, hb', bb, e.symm⟩
                      rw [q2] at this
                      exact absurd this (by decide)
                  · exact i4 a b (by omega) hb' ba bb
              · rw [ag_and0 i2.1 (by omega)] at q2
                refine q0 (fun r => ?_)
                obtain ⟨j, hj, bj, e⟩ := (i2.2 (G i)).mp (by simpa using q2)
                exact (r.2.2 i j hi hj hb bj).2 e.symm
            · rw [ag_and0 i1.1 (by omega)] at q1
              refine q0 (fun r => ?_)
              obtain ⟨j, hj, bj, e⟩ := (i1.2 (P i)).mp (by simpa using q1)
              exact (r.2.2 i j hi hj hb bj).1 e.symm
          · exact br_t rfl (q0 (fun r => hO (r.2.1 i hi hb)))
        · refine br_t rfl (nm_r (nI_1 i) (ih (nI m1, nI m2) ⟨m1, m2, rfl, rfl, ag_Ms_n i1 hb, ag_Ms_n i2 hb, fun j hj hbj => ?_, fun a b ha hb' ba bb => ?_⟩))
          · refine i3 j ?_ hbj
            have : j ≠ i := fun y => by rw [y, hb] at hbj; exact absurd hbj (by decide)
            omega
          · refine i4 a b ?_ hb' ba bb
            have : a ≠ i := fun y => by rw [y, hb] at ba; exact absurd ba (by decide)
            omega
    · rw [nI_eq hT (by have := r.1; omega)] at e
      have := r.1
      omega
/-- what the reference has seen of a team up to walker i -/
def ag_Cy (w z : Nat → Bool) (P G : Nat → Nat) (T i : Nat) : Prop := (∀ j, j < i → T.testBit j = true → ag_Op w z P G j) ∧ (∀ a b, a < i → b < a → T.testBit a = true → T.testBit b = true → P a ≠ P b ∧ G a ≠ G b)
theorem ag_i81 {post : Int32 → Prop} {J17 : Int32 → Int32 → Prop} {w z : Nat → Bool} {o P G : Nat → Nat} (hW : ag_Wr z P G pl gl is py gy) {T i : Nat} (hT : T ≤ 7) (hi : i < 3) {s : Int32} (hs : (s = 1 ∧ ag_Cy w z P G T i ∧ (T.testBit i = true → ag_Op w z P G i)) ∨ (s = 0 ∧ ¬ ag_Rd w z P G T)) (p : ∀ s', (s' = 1 ∧ ag_Cy w z P G T (i + 1)) ∨ (s' = 0 ∧ ¬ ag_Rd w z P G T) → J17 s' (nI (i + 1))) : ∃ n, wY_isReady_81 post J17 (nI T) (nI i) sz (ag_bi w) (ag_nf o) is py gy wk st cs gd n s 0 := by
  refine loop_0 (fun n j s => wY_isReady_81 post J17 (nI T) (nI i) sz (ag_bi w) (ag_nf o) is py gy wk st cs gd n s (nI j))
    (fun j s => (s = 1 ∧ ag_Cy w z P G T i ∧ (T.testBit i = true → ag_Op w z P G i) ∧ (∀ b, b < j → T.testBit i = true → T.testBit b = true → P i ≠ P b ∧ G i ≠ G b)) ∨ (s = 0 ∧ ¬ ag_Rd w z P G T)) i s ?_ ?_ ?_
  · rcases hs with ⟨a, b, c⟩ | h
    · exact Or.inl ⟨a, b, c, fun b h => absurd h (by omega)⟩
    · exact Or.inr h
  · intro n s h
    refine br_t (nI_le (Nat.le_refl i) (by omega)) (nm_r (nI_1 i) (p s ?_))
    rcases h with ⟨e, c1, c2, c3⟩ | h
    · refine Or.inl ⟨e, fun j hj hb => ?_, fun a b ha hb ba bb => ?_⟩
      · by_cases y : j = i
        · rw [y] at hb ⊢; exact c2 hb
        · exact c1.1 j (by omega) hb
      · by_cases y : a = i
        · rw [y] at ba ⊢; exact c3 b (by omega) ba bb
        · exact c1.2 a b (by omega) hb ba bb
    · exact Or.inr h
  · intro n j s hj h ih
    refine br_f (nI_ge hj (by omega)) ?_
    rcases h with ⟨e, c1, c2, c3⟩ | ⟨e, h⟩
    · subst e
      have go1 : (T.testBit i = true → T.testBit j = true → P i ≠ P j ∧ G i ≠ G j) → wY_isReady_81 post J17 (nI T) (nI i) sz (ag_bi w) (ag_nf o) is py gy wk st cs gd n 1 (nI (j + 1)) := fun q => by
        refine ih 1 (Or.inl ⟨rfl, c1, c2, fun b hb bi bb => ?_⟩)
        by_cases y : b = j
        · rw [y] at bb ⊢; exact q bi bb
        · exact c3 b (by omega) bi bb
      have go0 : ¬ (T.testBit i = true → T.testBit j = true → P i ≠ P j ∧ G i ≠ G j) → wY_isReady_81 post J17 (nI T) (nI i) sz (ag_bi w) (ag_nf o) is py gy wk st cs gd n 0 (nI (j + 1)) := fun q => by
        exact ih 0 (Or.inr ⟨rfl, fun r => q (fun bi bj => r.2.2 i j hi hj bi bj)⟩)
      refine br_f (by decide) (ag_inY (by omega) hi (fun bi => ?_) (fun bi => ?_))
      · refine br_f (by decide) (ag_inY (by omega) (by omega) (fun bj => ?_) (fun bj => ?_))
        · refine br_f (by decide) ⟨vp_in_nI hi (by omega), vp_in_nI (show j < 3 by omega) (by omega), ?_⟩
          obtain ⟨_, b1, b2, h1, _⟩ := hW i hi
          obtain ⟨_, d1, d2, k1, _⟩ := hW j (by omega)
          obtain ⟨_, _, f1, f2⟩ := h1 (c2 bi).1
          obtain ⟨_, _, f3, f4⟩ := k1 (c1.1 j hj bj).1
          rw [nI_clamp (n := i) (by omega), nI_clamp (n := j) (by omega), f1, f2, f3, f4]
          refine pk_eq (P i) (P j) (fun e => ?_) (fun ne => ⟨vp_in_nI hi (by omega), vp_in_nI (show j < 3 by omega) (by omega), ?_⟩)
          · exact nm_r (nI_1 j) (go0 (fun q => (q bi bj).1 e))
          · refine pk_eq (G i) (G j) (fun e => ?_) (fun ne2 => ?_)
            · exact nm_r (nI_1 j) (go0 (fun q => (q bi bj).2 e))
            · exact nm_r (nI_1 j) (go1 (fun _ _ => ⟨ne, ne2⟩))
        · exact br_t rfl (nm_r (nI_1 j) (go1 (fun _ q => by rw [bj] at q; exact absurd q (by decide))))
      · exact br_t rfl (nm_r (nI_1 j) (go1 (fun q => by rw [bi] at q; exact absurd q (by decide))))
    · subst e
      exact br_t rfl (nm_r (nI_1 j) (ih 0 (Or.inr ⟨rfl, h⟩)))
theorem ag_rdY {post : Int32 → Prop} {w z : Nat → Bool} {o P G : Nat → Nat} (hW : ag_Wr z P G pl gl is py gy) {x : Int32} (p1 : ∀ T, x = nI T → ag_Rd w z P G T → post 1) (p0 : (∀ T, x = nI T → ¬ ag_Rd w z P G T) → post 0) : wpY_isReady post (sz, ag_bi w, ag_nf o, is, py, gy, wk, st, cs, gd) x := by
  unfold wpY_isReady
  dsimp only
  refine br_c (fun h => p0 ?_) (fun h => ?_)
  · intro T e r
    rw [e] at h
    have := r.1
    exact absurd h (nI_nlt (b := 1) (by omega) (by omega))
  · have hx0 : ¬ x < 0 := fun q => by
      apply h
      rw [Int32.lt_iff_toInt_lt] at q ⊢
      have e0 : (0 : Int32).toInt = 0 := by decide
      have e1 : (1 : Int32).toInt = 1 := by decide
      omega
    obtain ⟨T, hT, rfl⟩ := nI_of hx0
    have hT1 : 1 ≤ T := by
      by_cases y : 1 ≤ T
      · exact y
      · exact absurd (nI_lt (b := 1) (by omega) (by omega)) h
    refine pk_le T 7 (fun hT7 => ?_) (fun hT7 => p0 (fun T' e r => ?_))
    · have q0 : ¬ ag_Rd w z P G T → post 0 := fun r => p0 (fun T' e r' => by
        have h1 := r'.1
        rw [nI_eq (by omega) (by omega)] at e
        subst e
        exact r r')
      refine loop_0 (fun n i s => wY_isReady_17 post (nI T) sz (ag_bi w) (ag_nf o) is py gy wk st cs gd n s (nI i))
        (fun i s => (s = 1 ∧ ag_Cy w z P G T i) ∨ (s = 0 ∧ ¬ ag_Rd w z P G T)) 3 1 (Or.inl ⟨rfl, fun j q => absurd q (by omega), fun a b q => absurd q (by omega)⟩) ?_ ?_
      · intro n s hs
        refine br_t (nI_le (b := 3) (Nat.le_refl _) (by decide)) ?_
        rcases hs with ⟨e, c⟩ | ⟨e, c⟩
        · subst e
          exact ⟨rfl, p1 T rfl ⟨⟨hT1, hT7⟩, c.1, fun a b h1 h2 => c.2 a b h1 h2⟩⟩
        · subst e
          exact ⟨rfl, q0 c⟩
      · intro n i s hi hs ih
        refine br_f (nI_ge (b := 3) hi (by decide)) ?_
        rcases hs with ⟨e, c⟩ | ⟨e, c⟩
        · subst e
          obtain ⟨e0, b1, b2, h1, h0⟩ := hW i hi
          have bad : T.testBit i = true → ¬ ag_Op w z P G i → ∃ n81, wY_isReady_81 post (wY_isReady_17 post (nI T) sz (ag_bi w) (ag_nf o) is py gy wk st cs gd n) (nI T) (nI i) sz (ag_bi w) (ag_nf o) is py gy wk st cs gd n81 0 0 := fun bi q => ag_i81 hW hT7 hi (Or.inr ⟨rfl, fun r => q (r.2.1 i hi bi)⟩) ih
          refine br_f (by decide) (ag_inY (by omega) hi (fun bi => ?_) (fun bi => ?_))
          · refine br_f (by decide) ⟨vp_in_nI hi (by omega), ?_⟩
            rw [nI_clamp (n := i) (by omega), e0]
            refine br_c (fun q => ?_) (fun q => ?_)
            · rw [ag_b10] at q
              exact bad bi (fun r => by rw [r.1] at q; exact absurd q (by decide))
            · rw [ag_b10] at q
              have hz : z i = true := by simpa using q
              obtain ⟨_, _, f1, f2⟩ := h1 hz
              rw [f1, f2, nI_clamp (n := P i) (by omega), nI_clamp (n := G i) (by omega)]
              refine ⟨vp_in_nI hi (by omega), vp_in_nI b1 (by omega), ?_⟩
              refine br_c (fun q1 => ?_) (fun q1 => ?_)
              · rw [ag_bi0] at q1
                refine ⟨vp_in_nI hi (by omega), vp_in_nI b2 (by omega), ?_⟩
                refine br_c (fun q2 => ?_) (fun q2 => ?_)
                · rw [ag_bi0] at q2
                  exact ag_i81 hW hT7 hi (Or.inl ⟨rfl, c, fun _ => ⟨hz, q1, q2⟩⟩) ih
                · rw [ag_bi0] at q2
                  exact bad bi (fun r => q2 r.2.2)
              · rw [ag_bi0] at q1
                exact bad bi (fun r => q1 r.2.1)
          · exact br_t rfl (ag_i81 hW hT7 hi (Or.inl ⟨rfl, c, fun q => by rw [bi] at q; exact absurd q (by decide)⟩) ih)
        · subst e
          exact br_t rfl (ag_i81 hW hT7 hi (Or.inr ⟨rfl, c⟩) ih)
    · rw [nI_eq hT (by have := r.1; omega)] at e
      have := r.1
      omega
end
section
/-! the codes of places and goals; a search from the places -/
variable {g nc : Int32} {wl wo pl gl cg co ns nt : Nat → Int32} {sz : Int32} {iw is py gy wk st cs gd : Nat → Int32}
def ag_sv (T : Nat) (P : Nat → Nat) (i : Nat) : Nat := if T.testBit i = true then P i else 12 + i
def ag_tr (T : Nat) (P : Nat → Nat) : Nat × Nat × Nat := (ag_sv T P 0, ag_sv T P 1, ag_sv T P 2)
def ag_h15 (v : Nat → Nat) : Nat → Nat
  | 0 => 0
  | i + 1 => ag_h15 v i * 15 + v i
theorem ag_h153 (T : Nat) (P : Nat → Nat) : ag_h15 (ag_sv T P) 3 = ag_ex (ag_tr T P) := by
  show ((0 * 15 + ag_sv T P 0) * 15 + ag_sv T P 1) * 15 + ag_sv T P 2 = (ag_sv T P 0 * 15 + ag_sv T P 1) * 15 + ag_sv T P 2
  omega
theorem ag_trV {w z : Nat → Bool} {P G : Nat → Nat} {T : Nat} (hP : ∀ i, i < 3 → P i < 12) (h : ag_Rd w z P G T) : ag_V w T (ag_tr T P) := by
  obtain ⟨_, h1, h2⟩ := h
  have sp : ∀ i, i < 3 → ag_sp w (T.testBit i) i (ag_sv T P i) := fun i hi => by
    refine ⟨fun hb => ?_, fun hb => ?_⟩
    · unfold ag_sv; rw [if_pos hb]; exact ⟨hP i hi, (h1 i hi hb).2.1⟩
    · unfold ag_sv; rw [if_neg (by rw [hb]; decide)]
  have ne : ∀ i j, i < 3 → j < i → ag_sv T P j ≠ ag_sv T P i := fun i j hi hj e => by
    have e1 := hP i hi
    have e2 := hP j (by omega)
    unfold ag_sv at e
    by_cases bi : T.testBit i = true
    · by_cases bj : T.testBit j = true
      · rw [if_pos bi, if_pos bj] at e
        exact (h2 i j hi hj bi bj).1 e.symm
      · rw [if_pos bi, if_neg bj] at e; omega
    · by_cases bj : T.testBit j = true
      · rw [if_neg bi, if_pos bj] at e; omega
      · rw [if_neg bi, if_neg bj] at e; omega
  exact ⟨sp 0 (by omega), sp 1 (by omega), sp 2 (by omega), ne 1 0 (by omega) (by omega), ne 2 0 (by omega) (by omega), ne 2 1 (by omega) (by omega)⟩
theorem ag_Rd_sw {w z : Nat → Bool} {P G : Nat → Nat} {T : Nat} (h : ag_Rd w z P G T) : ag_Rd w z G P T :=
  ⟨h.1, fun i a b => ⟨(h.2.1 i a b).1, (h.2.1 i a b).2.2, (h.2.1 i a b).2.1⟩, fun i j a b c d => ⟨(h.2.2 i j a b c d).2, (h.2.2 i j a b c d).1⟩⟩
theorem ag_of_places {post : Int32 → Prop} {P : Nat → Nat} {T : Nat} (hT : T ≤ 7) (hp : ∀ i, i < 3 → T.testBit i = true → pl i = nI (P i)) (p : post (nI (ag_ex (ag_tr T P)))) : wpX_stateOf__places post (g, nc, wl, wo, pl, gl, cg, co, ns, nt) (nI T) := by
  unfold wpX_stateOf__places
  dsimp only
  rw [← ag_h153] at p
  refine loop_0 (fun n i s => wX_stateOf__places_5 post (nI T) g nc wl wo pl gl cg co ns nt n s (nI i)) (fun i s => s = nI (ag_h15 (ag_sv T P) i)) 3 (nI 0) rfl ?_ ?_
  · rintro n s rfl
    exact br_t (nI_le (b := 3) (Nat.le_refl _) (by decide)) p
  · rintro n i s hi rfl ih
    have fin : ∀ z, z = nI (ag_sv T P i) → wX_stateOf__places_33 post (wX_stateOf__places_5 post (nI T) g nc wl wo pl gl cg co ns nt n) (nI T) (nI (ag_h15 (ag_sv T P) i)) (nI i) z g nc wl wo pl gl cg co ns nt := by
      intro z ez
      unfold wX_stateOf__places_33
      refine nm_r (e' := nI (ag_h15 (ag_sv T P) (i + 1))) ?_ (nm_r (nI_1 i) (ih _ rfl))
      rw [ez, ag_i15]
      rfl
    refine br_f (nI_ge (b := 3) hi (by decide)) (ag_inX (by omega) hi (fun hb => ?_) (fun hb => ?_))
    · refine br_f (by decide) ⟨vp_in_nI hi (by omega), fin _ ?_⟩
      rw [nI_clamp (by omega), hp i hi hb]
      unfold ag_sv
      rw [if_pos hb]
    · refine br_t rfl (fin _ ?_)
      unfold ag_sv
      rw [if_neg (by rw [hb]; decide)]
      exact nI_add 12 i
theorem ag_of_goals {post : Int32 → Prop} {P : Nat → Nat} {T : Nat} (hT : T ≤ 7) (hp : ∀ i, i < 3 → T.testBit i = true → gl i = nI (P i)) (p : post (nI (ag_ex (ag_tr T P)))) : wpX_stateOf__goals post (g, nc, wl, wo, pl, gl, cg, co, ns, nt) (nI T) := by
  unfold wpX_stateOf__goals
  dsimp only
  rw [← ag_h153] at p
  refine loop_0 (fun n i s => wX_stateOf__goals_5 post (nI T) g nc wl wo pl gl cg co ns nt n s (nI i)) (fun i s => s = nI (ag_h15 (ag_sv T P) i)) 3 (nI 0) rfl ?_ ?_
  · rintro n s rfl
    exact br_t (nI_le (b := 3) (Nat.le_refl _) (by decide)) p
  · rintro n i s hi rfl ih
    have fin : ∀ z, z = nI (ag_sv T P i) → wX_stateOf__goals_33 post (wX_stateOf__goals_5 post (nI T) g nc wl wo pl gl cg co ns nt n) (nI T) (nI (ag_h15 (ag_sv T P) i)) (nI i) z g nc wl wo pl gl cg co ns nt := by
      intro z ez
      unfold wX_stateOf__goals_33
      refine nm_r (e' := nI (ag_h15 (ag_sv T P) (i + 1))) ?_ (nm_r (nI_1 i) (ih _ rfl))
      rw [ez, ag_i15]
      rfl
    refine br_f (nI_ge (b := 3) hi (by decide)) (ag_inX (by omega) hi (fun hb => ?_) (fun hb => ?_))
    · refine br_f (by decide) ⟨vp_in_nI hi (by omega), fin _ ?_⟩
      rw [nI_clamp (by omega), hp i hi hb]
      unfold ag_sv
      rw [if_pos hb]
    · refine br_t rfl (fin _ ?_)
      unfold ag_sv
      rw [if_neg (by rw [hb]; decide)]
      exact nI_add 12 i
theorem ag_vT1 {P : Nat → Nat} (h : ag_Wl 1 wk) (hp : ∀ j, j < 3 → Nat.testBit 1 j = true → py j = nI (P j)) : ∃ v : Nat → Nat, (∀ k, k < ag_sz 1 → ∃ j, j < 3 ∧ wk k = nI j ∧ py j = nI (v k)) ∧ (∀ k, ag_sz 1 ≤ k → v k = 0) ∧ ag_hs v 3 = ag_ey 1 (ag_tr 1 P) := by
  refine ⟨fun k => if k = 0 then P 0 else 0, fun k hk => ?_, fun k hk => ?_, ?_⟩
  · have : k = 0 := by have : k < 1 := hk; omega
    subst this
    exact ⟨0, by omega, h 0 (by omega) rfl, hp 0 (by omega) rfl⟩
  · have : 1 ≤ k := hk
    dsimp only
    rw [if_neg (by omega)]
  · rw [ag_hs3]
    rfl
theorem ag_vT2 {P : Nat → Nat} (h : ag_Wl 2 wk) (hp : ∀ j, j < 3 → Nat.testBit 2 j = true → py j = nI (P j)) : ∃ v : Nat → Nat, (∀ k, k < ag_sz 2 → ∃ j, j < 3 ∧ wk k = nI j ∧ py j = nI (v k)) ∧ (∀ k, ag_sz 2 ≤ k → v k = 0) ∧ ag_hs v 3 = ag_ey 2 (ag_tr 2 P) := by
  refine ⟨fun k => if k = 0 then P 1 else 0, fun k hk => ?_, fun k hk => ?_, ?_⟩
  · have : k = 0 := by have : k < 1 := hk; omega
    subst this
    exact ⟨1, by omega, h 1 (by omega) rfl, hp 1 (by omega) rfl⟩
  · have : 1 ≤ k := hk
    dsimp only
    rw [if_neg (by omega)]
  · rw [ag_hs3]
    rfl
theorem ag_vT3 {P : Nat → Nat} (h : ag_Wl 3 wk) (hp : ∀ j, j < 3 → Nat.testBit 3 j = true → py j = nI (P j)) : ∃ v : Nat → Nat, (∀ k, k < ag_sz 3 → ∃ j, j < 3 ∧ wk k = nI j ∧ py j = nI (v k)) ∧ (∀ k, ag_sz 3 ≤ k → v k = 0) ∧ ag_hs v 3 = ag_ey 3 (ag_tr 3 P) := by
  refine ⟨fun k => if k = 0 then P 0 else if k = 1 then P 1 else 0, fun k hk => ?_, fun k hk => ?_, ?_⟩
  · have : k = 0 ∨ k = 1 := by have : k < 2 := hk; omega
    rcases this with rfl | rfl
    · exact ⟨0, by omega, h 0 (by omega) rfl, hp 0 (by omega) rfl⟩
    · exact ⟨1, by omega, h 1 (by omega) rfl, hp 1 (by omega) rfl⟩
  · have : 2 ≤ k := hk
    dsimp only
    rw [if_neg (by omega), if_neg (by omega)]
  · rw [ag_hs3]
    rfl
theorem ag_vT4 {P : Nat → Nat} (h : ag_Wl 4 wk) (hp : ∀ j, j < 3 → Nat.testBit 4 j = true → py j = nI (P j)) : ∃ v : Nat → Nat, (∀ k, k < ag_sz 4 → ∃ j, j < 3 ∧ wk k = nI j ∧ py j = nI (v k)) ∧ (∀ k, ag_sz 4 ≤ k → v k = 0) ∧ ag_hs v 3 = ag_ey 4 (ag_tr 4 P) := by
  refine ⟨fun k => if k = 0 then P 2 else 0, fun k hk => ?_, fun k hk => ?_, ?_⟩
  · have : k = 0 := by have : k < 1 := hk; omega
    subst this
    exact ⟨2, by omega, h 2 (by omega) rfl, hp 2 (by omega) rfl⟩
  · have : 1 ≤ k := hk
    dsimp only
    rw [if_neg (by omega)]
  · rw [ag_hs3]
    rfl
theorem ag_vT5 {P : Nat → Nat} (h : ag_Wl 5 wk) (hp : ∀ j, j < 3 → Nat.testBit 5 j = true → py j = nI (P j)) : ∃ v : Nat → Nat, (∀ k, k < ag_sz 5 → ∃ j, j < 3 ∧ wk k = nI j ∧ py j = nI (v k)) ∧ (∀ k, ag_sz 5 ≤ k → v k = 0) ∧ ag_hs v 3 = ag_ey 5 (ag_tr 5 P) := by
  refine ⟨fun k => if k = 0 then P 0 else if k = 1 then P 2 else 0, fun k hk => ?_, fun k hk => ?_, ?_⟩
  · have : k = 0 ∨ k = 1 := by have : k < 2 := hk; omega
    rcases this with rfl | rfl
    · exact ⟨0, by omega, h 0 (by omega) rfl, hp 0 (by omega) rfl⟩
    · exact ⟨2, by omega, h 2 (by omega) rfl, hp 2 (by omega) rfl⟩
  · have : 2 ≤ k := hk
    dsimp only
    rw [if_neg (by omega), if_neg (by omega)]
  · rw [ag_hs3]
    rfl
theorem ag_vT6 {P : Nat → Nat} (h : ag_Wl 6 wk) (hp : ∀ j, j < 3 → Nat.testBit 6 j = true → py j = nI (P j)) : ∃ v : Nat → Nat, (∀ k, k < ag_sz 6 → ∃ j, j < 3 ∧ wk k = nI j ∧ py j = nI (v k)) ∧ (∀ k, ag_sz 6 ≤ k → v k = 0) ∧ ag_hs v 3 = ag_ey 6 (ag_tr 6 P) := by
  refine ⟨fun k => if k = 0 then P 1 else if k = 1 then P 2 else 0, fun k hk => ?_, fun k hk => ?_, ?_⟩
  · have : k = 0 ∨ k = 1 := by have : k < 2 := hk; omega
    rcases this with rfl | rfl
    · exact ⟨1, by omega, h 1 (by omega) rfl, hp 1 (by omega) rfl⟩
    · exact ⟨2, by omega, h 2 (by omega) rfl, hp 2 (by omega) rfl⟩
  · have : 2 ≤ k := hk
    dsimp only
    rw [if_neg (by omega), if_neg (by omega)]
  · rw [ag_hs3]
    rfl
theorem ag_vT7 {P : Nat → Nat} (h : ag_Wl 7 wk) (hp : ∀ j, j < 3 → Nat.testBit 7 j = true → py j = nI (P j)) : ∃ v : Nat → Nat, (∀ k, k < ag_sz 7 → ∃ j, j < 3 ∧ wk k = nI j ∧ py j = nI (v k)) ∧ (∀ k, ag_sz 7 ≤ k → v k = 0) ∧ ag_hs v 3 = ag_ey 7 (ag_tr 7 P) := by
  refine ⟨fun k => if k = 0 then P 0 else if k = 1 then P 1 else if k = 2 then P 2 else 0, fun k hk => ?_, fun k hk => ?_, ?_⟩
  · have : k = 0 ∨ k = 1 ∨ k = 2 := by have : k < 3 := hk; omega
    rcases this with rfl | rfl | rfl
    · exact ⟨0, by omega, h 0 (by omega) rfl, hp 0 (by omega) rfl⟩
    · exact ⟨1, by omega, h 1 (by omega) rfl, hp 1 (by omega) rfl⟩
    · exact ⟨2, by omega, h 2 (by omega) rfl, hp 2 (by omega) rfl⟩
  · have : 3 ≤ k := hk
    dsimp only
    rw [if_neg (by omega), if_neg (by omega), if_neg (by omega)]
  · rw [ag_hs3]
    rfl
theorem ag_vT {P : Nat → Nat} : ∀ T, 1 ≤ T → T ≤ 7 → ag_Wl T wk → (∀ j, j < 3 → T.testBit j = true → py j = nI (P j)) → ∃ v : Nat → Nat, (∀ k, k < ag_sz T → ∃ j, j < 3 ∧ wk k = nI j ∧ py j = nI (v k)) ∧ (∀ k, ag_sz T ≤ k → v k = 0) ∧ ag_hs v 3 = ag_ey T (ag_tr T P) :=
  ag_T7 ag_vT1 ag_vT2 ag_vT3 ag_vT4 ag_vT5 ag_vT6 ag_vT7
theorem ag_startT {post : Int32 → Prop} {P : Nat → Nat} {T : Nat} (h1 : 1 ≤ T) (h7 : T ≤ 7) (h : ag_Wl T wk) (hp : ∀ j, j < 3 → T.testBit j = true → py j = nI (P j)) (p : post (nI (ag_ey T (ag_tr T P)))) : wpY_start post (nI (ag_sz T), iw, wo, is, py, gy, wk, st, cs, gd) := by
  obtain ⟨v, v1, v2, v3⟩ := ag_vT T h1 h7 h hp
  rw [← v3] at p
  exact ag_startY (ag_sz3 T h1 h7).2 v1 v2 p
theorem ag_finishT {post : Int32 → Prop} {G : Nat → Nat} {T : Nat} (h1 : 1 ≤ T) (h7 : T ≤ 7) (h : ag_Wl T wk) (hp : ∀ j, j < 3 → T.testBit j = true → gy j = nI (G j)) (p : post (nI (ag_ey T (ag_tr T G)))) : wpY_finish post (nI (ag_sz T), iw, wo, is, py, gy, wk, st, cs, gd) := by
  obtain ⟨v, v1, v2, v3⟩ := ag_vT T h1 h7 h hp
  rw [← v3] at p
  exact ag_finishY (ag_sz3 T h1 h7).2 v1 v2 p
/-- the class's search from the places, with a cell shut -/
theorem ag_sfpX {post : SX → Prop} {w S : Nat → Bool} {o P : Nat → Nat} {T : Nat} {sh : Int32} {f : Bool} (ho : ∀ c, c < 12 → o c < 16) (hS : ∀ c, c < 12 → (nI c = sh ↔ S c = true)) (hT : T ≤ 7) (hp : ∀ i, i < 3 → T.testBit i = true → pl i = nI (P i)) (hV : ag_V (fun c => w c || S c) T (ag_tr T P))
    (p : ∀ g' nc' cg' co' ns' nt' D, ag_Rx co' D → ag_Sl 3375 10126 (ag_GX (ag_go (fun c => w c || S c) o) f) (ag_ex (ag_tr T P)) D → post (g', nc', ag_bi w, ag_nf o, pl, gl, cg', co', ns', nt')) : wpX_spreadFromPlaces post (g, nc, ag_bi w, ag_nf o, pl, gl, cg, co, ns, nt) (nI T) sh (ag_b1 f) := by
  unfold wpX_spreadFromPlaces
  dsimp only
  refine ag_drawX ho hS (fun cg' hc => ?_)
  dsimp only
  refine ag_of_places hT hp ?_
  exact ag_fromX (ag_Gd_go _ o) hc hV (fun g' nc' co' ns' nt' D r h => p g' nc' cg' co' ns' nt' D r h)
theorem ag_or_f (w : Nat → Bool) : (fun c => w c || (fun _ => false) c) = w := by
  funext c
  exact Bool.or_false _
theorem ag_sh_m1 : ∀ c, c < 12 → (nI c = (-1 : Int32) ↔ (fun _ : Nat => false) c = true) := fun c hc => ⟨fun e => absurd e (ag_nm1 (by omega)), fun e => absurd e Bool.false_ne_true⟩
theorem ag_sfpX0 {post : SX → Prop} {w : Nat → Bool} {o P : Nat → Nat} {T : Nat} {f : Bool} (ho : ∀ c, c < 12 → o c < 16) (hT : T ≤ 7) (hp : ∀ i, i < 3 → T.testBit i = true → pl i = nI (P i)) (hV : ag_V w T (ag_tr T P))
    (p : ∀ g' nc' cg' co' ns' nt' D, ag_Rx co' D → ag_Sl 3375 10126 (ag_GX (ag_go w o) f) (ag_ex (ag_tr T P)) D → post (g', nc', ag_bi w, ag_nf o, pl, gl, cg', co', ns', nt')) : wpX_spreadFromPlaces post (g, nc, ag_bi w, ag_nf o, pl, gl, cg, co, ns, nt) (nI T) (-1) (ag_b1 f) :=
  ag_sfpX (S := fun _ => false) ho ag_sh_m1 hT hp (by rw [ag_or_f]; exact hV) (by rw [ag_or_f]; exact p)
def ag_ans (d : Nat) : Int32 := if d = 10126 then -2 else nI d
theorem ag_ansX {post : Int32 → Prop} {D : Nat → Nat} (h : ag_Rx co D) {t : Nat} (ht : t < 3375) (p : post (ag_ans (D t))) : wpX_costOrNone post (g, nc, wl, wo, pl, gl, cg, co, ns, nt) (nI t) := by
  unfold wpX_costOrNone
  dsimp only
  refine ⟨vp_in_nI ht (by omega), ?_⟩
  rw [nI_clamp (n := t) (by omega), (h t ht).1]
  have := (h t ht).2
  unfold ag_ans at p
  refine pk_eq (D t) 10126 (fun e => ?_) (fun e => ⟨vp_in_nI ht (by omega), ?_⟩)
  · rw [if_pos e] at p; exact p
  · rw [if_neg e] at p; exact p
theorem ag_ansY {post : Int32 → Prop} {D : Nat → Nat} (h : ag_Ry cs D) {t : Nat} (ht : t < 1728) (p : post (ag_ans (D t))) : wpY_costOf post (sz, iw, wo, is, py, gy, wk, st, cs, gd) (nI t) := by
  unfold wpY_costOf
  dsimp only
  refine ⟨vp_in_nI ht (by omega), ?_⟩
  rw [nI_clamp (n := t) (by omega), (h t ht).1]
  unfold ag_ans at p
  by_cases e : D t = 10126
  · rw [if_pos e] at p
    rw [e]
    exact br_f (by decide) p
  · rw [if_neg e] at p
    rw [ag_iUn e]
    exact br_t (nI_pos' (by have := (h t ht).2; omega)) ⟨vp_in_nI ht (by omega), p⟩
/-- choose and spread -/
theorem ag_csY {post : SY → Prop} {w : Nat → Bool} {o P : Nat → Nat} {T : Nat} {f : Bool} {x : Int32} (hx : x = ag_b1 f) (ho : ∀ c, c < 12 → o c < 16) (h1 : 1 ≤ T) (h7 : T ≤ 7) (hp : ∀ j, j < 3 → T.testBit j = true → py j = nI (P j)) (hV : ag_V w T (ag_tr T P))
    (p : ∀ wk' st' cs' D, ag_Wl T wk' → ag_St w o st' → ag_Ry cs' D → ag_Sl 1728 10126 (ag_GY w o (ag_sz T) f) (ag_ey T (ag_tr T P)) D → post (nI (ag_sz T), ag_bi w, ag_nf o, is, py, gy, wk', st', cs', gd)) : wpY_choose (fun u => wpY_spread post u x) (sz, ag_bi w, ag_nf o, is, py, gy, wk, st, cs, gd) (nI T) := by
  subst hx
  refine ag_chooseY ho h1 h7 (fun wk' st' hw hs => ?_)
  exact ag_spreadY h1 h7 hs hV (fun cs post' q => ag_startT h1 h7 hw hp q) (fun cs' D r h => p wk' st' cs' D hw hs r h)
end
section
/-! a new object; wall, ways, set, turnRound -/
variable {g nc : Int32} {pl gl cg co ns nt : Nat → Int32} {sz : Int32} {is py gy wk st cs gd : Nat → Int32}
theorem ag_rel {k : Nat} {w : Nat → Bool} {o : Nat → Nat} {z : Nat → Bool} {P G : Nat → Nat} (ho : ∀ c, c < 12 → o c < 16) (hW : ag_Wr z P G pl gl is py gy) : i_Rel k (g, nc, ag_bi w, ag_nf o, pl, gl, cg, co, ns, nt) (sz, ag_bi w, ag_nf o, is, py, gy, wk, st, cs, gd) :=
  ⟨w, o, z, P, G, g, nc, pl, gl, cg, co, ns, nt, sz, is, py, gy, wk, st, cs, gd, rfl, rfl, ho, hW⟩
theorem ag_15s {i : Nat} : upd (ag_nf (fun c => if c < i then 15 else 0)) i 15 = ag_nf (fun c => if c < i + 1 then 15 else 0) := by
  funext x
  unfold upd ag_nf
  dsimp only
  by_cases e : x = i
  · subst e
    rw [if_pos rfl, if_pos (by omega)]
    rfl
  · rw [if_neg e]
    by_cases y : x < i
    · rw [if_pos y, if_pos (by omega)]
    · rw [if_neg y, if_neg (by omega)]
theorem i_vc0 : wpX_init (fun u => wpY_init (fun v => i_Rel 0 u v)) := by
  unfold wpX_init
  refine loop_0 (fun n i s => wX_init_80 (fun u => wpY_init (fun v => i_Rel 0 u v)) 0 0 n (nI i) (fun _ => 0) s (fun _ => 0) (fun _ => 0) (fun _ => 0) (fun _ => 0) (fun _ => 0) (fun _ => 0)) (fun i s => s = ag_nf (fun c => if c < i then 15 else 0)) 12 (fun _ => 0) rfl ?_ ?_
  · rintro n s rfl
    refine br_t (nI_le (b := 12) (Nat.le_refl _) (by decide)) ?_
    refine loop_0 (fun n i (s : (Nat → Int32) × (Nat → Int32)) => wX_init_102 (fun u => wpY_init (fun v => i_Rel 0 u v)) 0 0 n (nI i) (fun _ => 0) (ag_nf (fun c => if c < 12 then 15 else 0)) s.1 s.2 (fun _ => 0) (fun _ => 0) (fun _ => 0) (fun _ => 0)) (fun i s => ∀ j, j < i → s.1 j = -1) 3 (fun _ => 0, fun _ => 0) (fun j h => absurd h (by omega)) ?_ ?_
    · rintro n ⟨s1, s2⟩ h
      refine br_t (nI_le (b := 3) (Nat.le_refl _) (by decide)) ?_
      dsimp only
      unfold wpY_init
      refine loop_0 (fun n i s => wY_init_76 (fun v => i_Rel 0 _ v) 0 n (nI i) (fun _ => 0) s (fun _ => 0) (fun _ => 0) (fun _ => 0) (fun _ => 0) (fun _ => 0) (fun _ => 0) (fun _ => 0)) (fun i s => s = ag_nf (fun c => if c < i then 15 else 0)) 12 (fun _ => 0) rfl ?_ ?_
      · rintro n s rfl
        refine br_t (nI_le (b := 12) (Nat.le_refl _) (by decide)) ?_
        refine ag_rel (w := fun _ => false) (z := fun _ => false) (P := fun _ => 0) (G := fun _ => 0) (fun c hc => ?_) (fun i hi => ⟨rfl, Nat.zero_lt_succ _, Nat.zero_lt_succ _, fun e => absurd e Bool.false_ne_true, fun _ => h i hi⟩)
        rw [if_pos hc]
        omega
      · rintro n i s hi rfl ih
        exact br_f (nI_ge (b := 12) hi (by decide)) ⟨vp_in_nI hi (by omega), nm_r (by rw [nI_clamp (by omega)]; exact ag_15s) (nm_r (nI_1 i) (ih _ rfl))⟩
    · rintro n i ⟨s1, s2⟩ hi h ih
      refine br_f (nI_ge (b := 3) hi (by decide)) ⟨vp_in_nI hi (by omega), nm_r (e' := upd s1 i (-1)) (by rw [nI_clamp (by omega)]) ⟨vp_in_nI hi (by omega), nm_r (e' := upd s2 i (-1)) (by rw [nI_clamp (by omega)]) (nm_r (nI_1 i) (ih (upd s1 i (-1), upd s2 i (-1)) (fun j hj => ?_)))⟩⟩
      dsimp only
      by_cases y : j = i
      · subst y; exact pk_us
      · rw [pk_un y]; exact h j (by omega)
  · rintro n i s hi rfl ih
    exact br_f (nI_ge (b := 12) hi (by decide)) ⟨vp_in_nI hi (by omega), nm_r (by rw [nI_clamp (by omega)]; exact ag_15s) (nm_r (nI_1 i) (ih _ rfl))⟩
theorem ag_nb (b : Bool) : vp_nar .boolean (ag_b1 b) = ag_b1 b := by cases b <;> decide
theorem ag_wall29X {post : Int32 → SX → Prop} {w : Nat → Bool} {o : Nat → Nat} {c : Nat} {b : Bool} {x : Int32} (hx : x = ag_b1 b) (hc : c < 12) (p : post (ag_b1 b) (g, nc, ag_bi (ag_bu w c b), ag_nf o, pl, gl, cg, co, ns, nt)) : wX_wall_29 post (nI c) x (nI c) g nc (ag_bi w) (ag_nf o) pl gl cg co ns nt := by
  subst hx
  unfold wX_wall_29
  refine ⟨vp_in_nI hc (by omega), nm_r (e' := ag_bi (ag_bu w c b)) (by rw [nI_clamp (by omega), ag_nb]; exact ag_bi_u) ⟨vp_in_nI hc (by omega), ?_⟩⟩
  rw [nI_clamp (n := c) (by omega)]
  have e : ag_bi (ag_bu w c b) c = ag_b1 b := by
    unfold ag_bi ag_bu
    rw [if_pos rfl]
    rfl
  rw [e]
  cases b
  · exact br_t rfl p
  · exact br_f (by decide) p
theorem ag_wall29Y {post : Int32 → SY → Prop} {w : Nat → Bool} {o : Nat → Nat} {c : Nat} {b : Bool} {x : Int32} (hx : x = ag_b1 b) (hc : c < 12) (p : post (ag_b1 b) (sz, ag_bi (ag_bu w c b), ag_nf o, is, py, gy, wk, st, cs, gd)) : wY_wall_29 post (nI c) x (nI c) sz (ag_bi w) (ag_nf o) is py gy wk st cs gd := by
  subst hx
  unfold wY_wall_29
  refine ⟨vp_in_nI hc (by omega), nm_r (e' := ag_bi (ag_bu w c b)) (by rw [nI_clamp (by omega), ag_nb]; exact ag_bi_u) ⟨vp_in_nI hc (by omega), ?_⟩⟩
  rw [nI_clamp (n := c) (by omega)]
  have e : ag_bi (ag_bu w c b) c = ag_b1 b := by
    unfold ag_bi ag_bu
    rw [if_pos rfl]
    rfl
  rw [e]
  cases b
  · exact br_t rfl p
  · exact br_f (by decide) p
theorem i_vc_wall {k : Nat} {u : SX} {v : SY} (I : i_Rel k u v) (hk : k + 4 ≤ 2048) (v1 : Int32) : wpX_wall (fun r u' => wpY_wall (fun r' v' => r' = r ∧ i_Rel (k + 4) u' v') v v1) u v1 := by
  obtain ⟨w, o, z, P, G, g, nc, pl, gl, cg, co, ns, nt, sz, is, py, gy, wk, st, cs, gd, rfl, rfl, ho, hW⟩ := I
  by_cases h : ∃ c, c < 12 ∧ v1 = nI c
  · obtain ⟨c, hc, rfl⟩ := h
    have hy : wpY_wall (fun r' v' => r' = ag_b1 (!w c) ∧ i_Rel (k + 4) (g, nc, ag_bi (ag_bu w c (!w c)), ag_nf o, pl, gl, cg, co, ns, nt) v') (sz, ag_bi w, ag_nf o, is, py, gy, wk, st, cs, gd) (nI c) := by
      unfold wpY_wall
      dsimp only
      refine ag_cy1 hc (br_f (by decide) ⟨vp_in_nI hc (by omega), ?_⟩)
      rw [nI_clamp (n := c) (by omega)]
      refine br_c (fun q => ?_) (fun q => ?_)
      · rw [ag_bi0] at q
        rw [q]
        exact ag_wall29Y (b := true) rfl hc ⟨rfl, ag_rel ho hW⟩
      · rw [ag_bi0] at q
        have q' : w c = true := by simpa using q
        rw [q']
        exact ag_wall29Y (b := false) rfl hc ⟨rfl, ag_rel ho hW⟩
    unfold wpX_wall
    dsimp only
    refine ag_cx1 hc (br_f (by decide) ⟨vp_in_nI hc (by omega), ?_⟩)
    rw [nI_clamp (n := c) (by omega)]
    refine br_c (fun q => ?_) (fun q => ?_)
    · rw [ag_bi0] at q
      rw [q] at hy
      exact ag_wall29X (b := true) rfl hc hy
    · rw [ag_bi0] at q
      have q' : w c = true := by simpa using q
      rw [q'] at hy
      exact ag_wall29X (b := false) rfl hc hy
  · have h' : ∀ c, c < 12 → v1 ≠ nI c := fun c hc e => h ⟨c, hc, e⟩
    unfold wpX_wall wpY_wall
    dsimp only
    exact ag_cx0 h' (br_t rfl (ag_cy0 h' (br_t rfl ⟨rfl, ag_rel ho hW⟩)))
theorem i_vc_ways {k : Nat} {u : SX} {v : SY} (I : i_Rel k u v) (hk : k + 4 ≤ 2048) (v1 : Int32) (v2 : Int32) : wpX_ways (fun r u' => wpY_ways (fun r' v' => r' = r ∧ i_Rel (k + 4) u' v') v v1 v2) u v1 v2 := by
  obtain ⟨w, o, z, P, G, g, nc, pl, gl, cg, co, ns, nt, sz, is, py, gy, wk, st, cs, gd, rfl, rfl, ho, hW⟩ := I
  unfold wpX_ways wpY_ways
  dsimp only
  by_cases h : ∃ c, c < 12 ∧ v1 = nI c
  · obtain ⟨c, hc, rfl⟩ := h
    refine ag_cx1 hc (br_f (by decide) ?_)
    by_cases h0 : v2 < 0
    · exact br_t h0 (ag_cy1 hc (br_f (by decide) (br_t h0 ⟨rfl, ag_rel ho hW⟩)))
    · by_cases h15 : v2 ≤ 15
      · obtain ⟨m, hm, rfl⟩ := nI_of2 (n := 15) (by decide) h0 h15
        have e : upd (ag_nf o) (nI c).toNatClampNeg (nI m) = ag_nf (ag_nu o c m) := by
          rw [nI_clamp (by omega)]; exact ag_nf_u
        refine br_f h0 (br_t h15 ⟨vp_in_nI hc (by omega), nm_e ⟨vp_in_nI hc (by omega), nm_r e ?_⟩⟩)
        refine ag_cy1 hc (br_f (by decide) (br_f h0 (br_t h15 ⟨vp_in_nI hc (by omega), nm_e ⟨vp_in_nI hc (by omega), nm_r e ⟨rfl, ag_rel (fun x hx => ?_) hW⟩⟩⟩)))
        unfold ag_nu
        by_cases y : x = c
        · rw [if_pos y]; omega
        · rw [if_neg y]; exact ho x hx
      · exact br_f h0 (br_f h15 (ag_cy1 hc (br_f (by decide) (br_f h0 (br_f h15 ⟨rfl, ag_rel ho hW⟩)))))
  · have h' : ∀ c, c < 12 → v1 ≠ nI c := fun c hc e => h ⟨c, hc, e⟩
    exact ag_cx0 h' (br_t rfl (ag_cy0 h' (br_t rfl ⟨rfl, ag_rel ho hW⟩)))
theorem i_vc_set {k : Nat} {u : SX} {v : SY} (I : i_Rel k u v) (hk : k + 4 ≤ 2048) (v1 : Int32) (v2 : Int32) (v3 : Int32) : wpX_set (fun r u' => wpY_set (fun r' v' => r' = r ∧ i_Rel (k + 4) u' v') v v1 v2 v3) u v1 v2 v3 := by
  obtain ⟨w, o, z, P, G, g, nc, pl, gl, cg, co, ns, nt, sz, is, py, gy, wk, st, cs, gd, rfl, rfl, ho, hW⟩ := I
  unfold wpX_set wpY_set
  dsimp only
  by_cases h : ∃ i, i < 3 ∧ v1 = nI i
  · obtain ⟨i, hi, rfl⟩ := h
    have n0 : ¬ nI i < 0 := nI_pos (by omega)
    have n2 : nI i ≤ 2 := nI_le (b := 2) (by omega) (by omega)
    refine ag_kx1 hi (br_f (by decide) ?_)
    by_cases h2 : ∃ c, c < 12 ∧ v2 = nI c
    · obtain ⟨a, ha, rfl⟩ := h2
      refine ag_cx1 ha (br_f (by decide) ?_)
      by_cases h3 : ∃ c, c < 12 ∧ v3 = nI c
      · obtain ⟨b, hb, rfl⟩ := h3
        refine ag_cx1 hb (br_f (by decide) ⟨vp_in_nI hi (by omega), nm_e ⟨vp_in_nI hi (by omega), nm_e ?_⟩⟩)
        refine br_f n0 (br_t n2 (ag_cy1 ha (br_f (by decide) (ag_cy1 hb (br_f (by decide) ⟨vp_in_nI hi (by omega), nm_e ⟨vp_in_nI hi (by omega), nm_e ⟨vp_in_nI hi (by omega), nm_e ⟨rfl, ?_⟩⟩⟩⟩)))))
        rw [nI_clamp (n := i) (by omega), ag_nb1]
        refine ag_rel (z := ag_bu z i true) (P := ag_nu P i a) (G := ag_nu G i b) ho (fun j hj => ?_)
        unfold ag_bu ag_nu
        by_cases y : j = i
        · subst y
          rw [pk_us, pk_us, pk_us, pk_us, pk_us, if_pos rfl, if_pos rfl, if_pos rfl]
          exact ⟨rfl, ha, hb, fun _ => ⟨rfl, rfl, rfl, rfl⟩, fun e => absurd e.symm Bool.false_ne_true⟩
        · rw [pk_un y, pk_un y, pk_un y, pk_un y, pk_un y, if_neg y, if_neg y, if_neg y]
          exact hW j hj
      · have h' : ∀ c, c < 12 → v3 ≠ nI c := fun c hc e => h3 ⟨c, hc, e⟩
        exact ag_cx0 h' (br_t rfl (br_f n0 (br_t n2 (ag_cy1 ha (br_f (by decide) (ag_cy0 h' (br_t rfl ⟨rfl, ag_rel ho hW⟩)))))))
    · have h' : ∀ c, c < 12 → v2 ≠ nI c := fun c hc e => h2 ⟨c, hc, e⟩
      exact ag_cx0 h' (br_t rfl (br_f n0 (br_t n2 (ag_cy0 h' (br_t rfl ⟨rfl, ag_rel ho hW⟩)))))
  · have h' : ∀ c, c < 3 → v1 ≠ nI c := fun c hc e => h ⟨c, hc, e⟩
    refine ag_kx0 h' (br_t rfl ?_)
    by_cases h0 : v1 < 0
    · exact br_t h0 ⟨rfl, ag_rel ho hW⟩
    · obtain ⟨j, hj, rfl⟩ := nI_of h0
      have : ¬ j < 3 := fun q => h' j q rfl
      exact br_f h0 (br_f (nI_ge (a := 2) (by omega) hj) ⟨rfl, ag_rel ho hW⟩)
def ag_sw (T i : Nat) (a b : Nat → Int32) (j : Nat) : Int32 := if j < i ∧ T.testBit j = true then b j else a j
theorem ag_sw0 (T : Nat) (a b : Nat → Int32) : ag_sw T 0 a b = a := by
  funext j
  unfold ag_sw
  rw [if_neg (by omega)]
theorem ag_swi (T i : Nat) (a b : Nat → Int32) : ag_sw T i a b i = a i := by
  unfold ag_sw
  rw [if_neg (by omega)]
theorem ag_swn {T i : Nat} (hb : T.testBit i = false) (a b : Nat → Int32) : ag_sw T (i + 1) a b = ag_sw T i a b := by
  funext j
  unfold ag_sw
  by_cases y : j = i
  · subst y
    rw [if_neg (by rw [hb]; simp), if_neg (by omega)]
  · by_cases q : j < i ∧ T.testBit j = true
    · rw [if_pos q, if_pos ⟨by omega, q.2⟩]
    · rw [if_neg q, if_neg (fun r => q ⟨by omega, r.2⟩)]
theorem ag_swy {T i : Nat} (hb : T.testBit i = true) (a b : Nat → Int32) : upd (ag_sw T i a b) i (b i) = ag_sw T (i + 1) a b := by
  funext j
  by_cases y : j = i
  · subst y
    rw [pk_us]
    unfold ag_sw
    rw [if_pos ⟨by omega, hb⟩]
  · rw [pk_un y]
    unfold ag_sw
    by_cases q : j < i ∧ T.testBit j = true
    · rw [if_pos q, if_pos ⟨by omega, q.2⟩]
    · rw [if_neg q, if_neg (fun r => q ⟨by omega, r.2⟩)]
theorem i_vc_turnRound {k : Nat} {u : SX} {v : SY} (I : i_Rel k u v) (hk : k + 4 ≤ 2048) (v1 : Int32) : wpX_turnRound (fun r u' => wpY_turnRound (fun r' v' => r' = r ∧ i_Rel (k + 4) u' v') v v1) u v1 := by
  obtain ⟨w, o, z, P, G, g, nc, pl, gl, cg, co, ns, nt, sz, is, py, gy, wk, st, cs, gd, rfl, rfl, ho, hW⟩ := I
  unfold wpX_turnRound
  dsimp only
  refine ag_rdX hW (fun T eT hR => ?_) (fun hN => ?_)
  · subst eT
    obtain ⟨⟨hT1, hT7⟩, hO, hD⟩ := id hR
    refine br_f (by decide) ?_
    refine loop_0 (fun n i (s : Int32 × (Nat → Int32) × (Nat → Int32)) => wX_turnRound_14 _ (nI T) g nc n s.1 (nI i) (ag_bi w) (ag_nf o) s.2.1 s.2.2 cg co ns nt) (fun i s => s.1 = nI (ag_cn (fun j => T.testBit j) i) ∧ s.2.1 = ag_sw T i pl gl ∧ s.2.2 = ag_sw T i gl pl) 3 (nI 0, pl, gl) ⟨rfl, (ag_sw0 T pl gl).symm, (ag_sw0 T gl pl).symm⟩ ?_ ?_
    · rintro n ⟨s1, s2, s3⟩ ⟨e1, e2, e3⟩
      dsimp only at e1 e2 e3 ⊢
      subst e1
      subst e2
      subst e3
      refine br_t (nI_le (b := 3) (Nat.le_refl _) (by decide)) ?_
      unfold wpY_turnRound
      dsimp only
      refine ag_rdY hW (fun T' eT' hR' => ?_) (fun hN => absurd hR (hN T rfl))
      refine br_f (by decide) ?_
      refine loop_0 (fun n i (s : Int32 × (Nat → Int32) × (Nat → Int32)) => wY_turnRound_14 _ (nI T) sz n s.1 (nI i) (ag_bi w) (ag_nf o) is s.2.1 s.2.2 wk st cs gd) (fun i s => s.1 = nI (ag_cn (fun j => T.testBit j) i) ∧ s.2.1 = ag_sw T i py gy ∧ s.2.2 = ag_sw T i gy py) 3 (nI 0, py, gy) ⟨rfl, (ag_sw0 T py gy).symm, (ag_sw0 T gy py).symm⟩ ?_ ?_
      · rintro n ⟨s1, s2, s3⟩ ⟨e1, e2, e3⟩
        dsimp only at e1 e2 e3 ⊢
        subst e1
        subst e2
        subst e3
        refine br_t (nI_le (b := 3) (Nat.le_refl _) (by decide)) ⟨rfl, ?_⟩
        refine ag_rel (z := z) (P := fun j => if T.testBit j = true then G j else P j) (G := fun j => if T.testBit j = true then P j else G j) ho (fun j hj => ?_)
        obtain ⟨q1, q2, q3, q4, q5⟩ := hW j hj
        unfold ag_sw
        by_cases y : T.testBit j = true
        · have zj := (hO j hj y).1
          obtain ⟨r1, r2, r3, r4⟩ := q4 zj
          simp only [y, hj, and_self, if_true]
          exact ⟨q1, q3, q2, fun _ => ⟨r2, r1, r4, r3⟩, fun e => by rw [zj] at e; exact absurd e.symm Bool.false_ne_true⟩
        · simp only [y, Bool.false_eq_true, and_false, if_false]
          exact ⟨q1, q2, q3, q4, q5⟩
      · rintro n i ⟨s1, s2, s3⟩ hi ⟨e1, e2, e3⟩ ih
        dsimp only at e1 e2 e3 ⊢
        subst e1
        subst e2
        subst e3
        refine br_f (nI_ge (b := 3) hi (by decide)) (ag_inY (by omega) hi (fun hb => ?_) (fun hb => ?_))
        · refine br_f (by decide) ⟨vp_in_nI hi (by omega), nm_r (e' := py i) (by rw [nI_clamp (by omega), ag_swi]) ⟨vp_in_nI hi (by omega), vp_in_nI hi (by omega), nm_r (e' := ag_sw T (i + 1) py gy) (by rw [nI_clamp (by omega), ag_swi, ag_swy hb]) ⟨vp_in_nI hi (by omega), nm_r (e' := ag_sw T (i + 1) gy py) (by rw [nI_clamp (by omega), ag_swy hb]) (nm_r (nI_1 _) (nm_r (nI_1 i) (ih (nI (ag_cn (fun j => T.testBit j) i + 1), ag_sw T (i + 1) py gy, ag_sw T (i + 1) gy py) ⟨?_, rfl, rfl⟩)))⟩⟩⟩
          rw [ag_cn_t (P := fun j => T.testBit j) hb]
        · refine br_t rfl (nm_r (nI_1 i) (ih (nI (ag_cn (fun j => T.testBit j) i), ag_sw T i py gy, ag_sw T i gy py) ⟨?_, (ag_swn hb py gy).symm, (ag_swn hb gy py).symm⟩))
          rw [ag_cn_f (P := fun j => T.testBit j) (by rw [hb]; decide)]
    · rintro n i ⟨s1, s2, s3⟩ hi ⟨e1, e2, e3⟩ ih
      dsimp only at e1 e2 e3 ⊢
      subst e1
      subst e2
      subst e3
      refine br_f (nI_ge (b := 3) hi (by decide)) (ag_inX (by omega) hi (fun hb => ?_) (fun hb => ?_))
      · refine br_f (by decide) ⟨vp_in_nI hi (by omega), nm_r (e' := pl i) (by rw [nI_clamp (by omega), ag_swi]) ⟨vp_in_nI hi (by omega), vp_in_nI hi (by omega), nm_r (e' := ag_sw T (i + 1) pl gl) (by rw [nI_clamp (by omega), ag_swi, ag_swy hb]) ⟨vp_in_nI hi (by omega), nm_r (e' := ag_sw T (i + 1) gl pl) (by rw [nI_clamp (by omega), ag_swy hb]) (nm_r (nI_1 _) (nm_r (nI_1 i) (ih (nI (ag_cn (fun j => T.testBit j) i + 1), ag_sw T (i + 1) pl gl, ag_sw T (i + 1) gl pl) ⟨?_, rfl, rfl⟩)))⟩⟩⟩
        rw [ag_cn_t (P := fun j => T.testBit j) hb]
      · refine br_t rfl (nm_r (nI_1 i) (ih (nI (ag_cn (fun j => T.testBit j) i), ag_sw T i pl gl, ag_sw T i gl pl) ⟨?_, (ag_swn hb pl gl).symm, (ag_swn hb gl pl).symm⟩))
        rw [ag_cn_f (P := fun j => T.testBit j) (by rw [hb]; decide)]
  · refine br_t rfl ?_
    unfold wpY_turnRound
    dsimp only
    exact ag_rdY hW (fun T e hR => absurd hR (hN T e)) (fun _ => br_t rfl ⟨rfl, ag_rel ho hW⟩)
end
section
/-! fastest, easiest, arrangements -/
variable {g nc : Int32} {pl gl cg co ns nt : Nat → Int32} {sz : Int32} {is py gy wk st cs gd : Nat → Int32}
theorem ag_DX {w : Nat → Bool} {go : Nat → Nat → Bool} (hg : ag_Gd w go) {f : Bool} {T : Nat} {a q : Nat × Nat × Nat} {D : Nat → Nat} (ha : ag_V w T a) (h : ag_Sl 3375 10126 (ag_GX go f) (ag_ex a) D) (hq : ag_V w T q) : ag_Ds (ag_E go f) a q (D (ag_ex q)) :=
  ag_SlG (V := ag_V w T) (fun t c => ag_simX hg f T ha t c) (fun q q' h h' e => ag_ex_inj h h' e) h hq (ag_exV hq).1
theorem ag_DY {w : Nat → Bool} {o : Nat → Nat} {f : Bool} {T : Nat} (h1 : 1 ≤ T) (h7 : T ≤ 7) {a q : Nat × Nat × Nat} {D : Nat → Nat} (ha : ag_V w T a) (h : ag_Sl 1728 10126 (ag_GY w o (ag_sz T) f) (ag_ey T a) D) (hq : ag_V w T q) : ag_Ds (ag_E (ag_go w o) f) a q (D (ag_ey T q)) :=
  ag_SlG (V := ag_V w T) (fun t c => ag_simY f h1 h7 ha t c) (fun q q' h h' e => ag_ey_inj h1 h7 h h' e) h hq (ag_eyV T h1 h7 q hq)
theorem ag_DD {w : Nat → Bool} {o : Nat → Nat} {f : Bool} {T : Nat} (h1 : 1 ≤ T) (h7 : T ≤ 7) {a q : Nat × Nat × Nat} {D D' : Nat → Nat} (ha : ag_V w T a) (h : ag_Sl 3375 10126 (ag_GX (ag_go w o) f) (ag_ex a) D) (h' : ag_Sl 1728 10126 (ag_GY w o (ag_sz T) f) (ag_ey T a) D') (hq : ag_V w T q) : D' (ag_ey T q) = D (ag_ex q) :=
  ag_DsU (ag_DY h1 h7 ha h' hq) (ag_DX (ag_Gd_go w o) ha h hq)
theorem ag_VX {w : Nat → Bool} {go : Nat → Nat → Bool} (hg : ag_Gd w go) {f : Bool} {T : Nat} {a : Nat × Nat × Nat} {D : Nat → Nat} (ha : ag_V w T a) (h : ag_Sl 3375 10126 (ag_GX go f) (ag_ex a) D) {t : Nat} (ht : t < 3375) (hD : D t ≠ 10126) : ∃ q, t = ag_ex q ∧ ag_V w T q :=
  ag_SlV (V := ag_V w T) (fun t c => ag_simX hg f T ha t c) h ht hD
theorem ag_VY {w : Nat → Bool} {o : Nat → Nat} {f : Bool} {T : Nat} (h1 : 1 ≤ T) (h7 : T ≤ 7) {a : Nat × Nat × Nat} {D : Nat → Nat} (ha : ag_V w T a) (h : ag_Sl 1728 10126 (ag_GY w o (ag_sz T) f) (ag_ey T a) D) {t : Nat} (ht : t < 1728) (hD : D t ≠ 10126) : ∃ q, t = ag_ey T q ∧ ag_V w T q :=
  ag_SlV (V := ag_V w T) (fun t c => ag_simY f h1 h7 ha t c) h ht hD
/-- what readiness gives -/
theorem ag_rdp {w z : Nat → Bool} {P G : Nat → Nat} {T : Nat} (hW : ag_Wr z P G pl gl is py gy) (hR : ag_Rd w z P G T) : (∀ i, i < 3 → T.testBit i = true → pl i = nI (P i)) ∧ (∀ i, i < 3 → T.testBit i = true → gl i = nI (G i)) ∧ (∀ i, i < 3 → T.testBit i = true → py i = nI (P i)) ∧ (∀ i, i < 3 → T.testBit i = true → gy i = nI (G i)) ∧ ag_V w T (ag_tr T P) ∧ ag_V w T (ag_tr T G) := by
  have k := fun i hi hb => (hW i hi).2.2.2.1 (hR.2.1 i hi hb).1
  exact ⟨fun i hi hb => (k i hi hb).1, fun i hi hb => (k i hi hb).2.1, fun i hi hb => (k i hi hb).2.2.1, fun i hi hb => (k i hi hb).2.2.2, ag_trV (fun i hi => (hW i hi).2.1) hR, ag_trV (fun i hi => (hW i hi).2.2.1) (ag_Rd_sw hR)⟩
theorem ag_ltY {post : Int32 → SY → Prop} {w : Nat → Bool} {o P G : Nat → Nat} {T : Nat} (ho : ∀ c, c < 12 → o c < 16) (h1 : 1 ≤ T) (h7 : T ≤ 7) (hp : ∀ j, j < 3 → T.testBit j = true → py j = nI (P j)) (hg : ∀ j, j < 3 → T.testBit j = true → gy j = nI (G j)) (hV : ag_V w T (ag_tr T P)) (hE : ag_V w T (ag_tr T G))
    (p : ∀ wk' st' cs' D, ag_Wl T wk' → ag_St w o st' → ag_Ry cs' D → ag_Sl 1728 10126 (ag_GY w o (ag_sz T) false) (ag_ey T (ag_tr T P)) D → post (ag_ans (D (ag_ey T (ag_tr T G)))) (nI (ag_sz T), ag_bi w, ag_nf o, is, py, gy, wk', st', cs', gd)) : wpY_leastTurns post (sz, ag_bi w, ag_nf o, is, py, gy, wk, st, cs, gd) (nI T) := by
  unfold wpY_leastTurns
  dsimp only
  refine ag_chooseY ho h1 h7 (fun wk' st' hw hs => ?_)
  dsimp only
  refine ag_spreadY (f := false) h1 h7 hs hV (fun cs post' q => ag_startT h1 h7 hw hp q) (fun cs' D r h => ?_)
  dsimp only
  refine ag_finishT h1 h7 hw hg ?_
  exact ag_ansY r (ag_eyV T h1 h7 _ hE) (p wk' st' cs' D hw hs r h)
theorem i_vc_fastest {k : Nat} {u : SX} {v : SY} (I : i_Rel k u v) (hk : k + 4 ≤ 2048) (v1 : Int32) : wpX_fastest (fun r u' => wpY_fastest (fun r' v' => r' = r ∧ i_Rel (k + 4) u' v') v v1) u v1 := by
  obtain ⟨w, o, z, P, G, g, nc, pl, gl, cg, co, ns, nt, sz, is, py, gy, wk, st, cs, gd, rfl, rfl, ho, hW⟩ := I
  unfold wpX_fastest
  dsimp only
  refine ag_rdX hW (fun T eT hR => ?_) (fun hN => ?_)
  · subst eT
    obtain ⟨hT1, hT7⟩ := hR.1
    obtain ⟨p1, p2, p3, p4, hV, hE⟩ := ag_rdp hW hR
    refine br_f (by decide) (ag_sfpX0 (f := false) ho hT7 p1 hV (fun g' nc' cg' co' ns' nt' D r h => ?_))
    dsimp only
    refine ag_of_goals hT7 p2 (ag_ansX r (ag_exV hE).1 ?_)
    unfold wpY_fastest
    dsimp only
    refine ag_rdY hW (fun _ _ _ => ?_) (fun hN => absurd hR (hN T rfl))
    refine br_f (by decide) (ag_ltY ho hT1 hT7 p3 p4 hV hE (fun wk' st' cs' D' hw hs r' h' => ?_))
    dsimp only
    exact ⟨by rw [ag_DD hT1 hT7 hV h h' hE], ag_rel ho hW⟩
  · refine br_t rfl ?_
    unfold wpY_fastest
    dsimp only
    exact ag_rdY hW (fun T e hR => absurd hR (hN T e)) (fun _ => br_t rfl ⟨rfl, ag_rel ho hW⟩)
theorem i_vc_easiest {k : Nat} {u : SX} {v : SY} (I : i_Rel k u v) (hk : k + 4 ≤ 2048) (v1 : Int32) : wpX_easiest (fun r u' => wpY_easiest (fun r' v' => r' = r ∧ i_Rel (k + 4) u' v') v v1) u v1 := by
  obtain ⟨w, o, z, P, G, g, nc, pl, gl, cg, co, ns, nt, sz, is, py, gy, wk, st, cs, gd, rfl, rfl, ho, hW⟩ := I
  unfold wpX_easiest
  dsimp only
  refine ag_rdX hW (fun T eT hR => ?_) (fun hN => ?_)
  · subst eT
    obtain ⟨hT1, hT7⟩ := hR.1
    obtain ⟨p1, p2, p3, p4, hV, hE⟩ := ag_rdp hW hR
    refine br_f (by decide) (ag_sfpX0 (f := true) ho hT7 p1 hV (fun g' nc' cg' co' ns' nt' D r h => ?_))
    dsimp only
    refine ag_of_goals hT7 p2 (ag_ansX r (ag_exV hE).1 ?_)
    unfold wpY_easiest
    dsimp only
    refine ag_rdY hW (fun _ _ _ => ?_) (fun hN => absurd hR (hN T rfl))
    refine br_f (by decide) (ag_chooseY ho hT1 hT7 (fun wk' st' hw hs => ?_))
    dsimp only
    refine ag_spreadY (f := true) hT1 hT7 hs hV (fun cs post' q => ag_startT hT1 hT7 hw p3 q) (fun cs' D' r' h' => ?_)
    dsimp only
    refine ag_finishT hT1 hT7 hw p4 ?_
    refine ag_ansY r' (ag_eyV T hT1 hT7 _ hE) ?_
    exact ⟨by rw [ag_DD hT1 hT7 hV h h' hE], ag_rel ho hW⟩
  · refine br_t rfl ?_
    unfold wpY_easiest
    dsimp only
    exact ag_rdY hW (fun T e hR => absurd hR (hN T e)) (fun _ => br_t rfl ⟨rfl, ag_rel ho hW⟩)
def ag_nU (D : Nat → Nat) (t : Nat) : Bool := !(D t == 10126)
theorem ag_nU_iff {D : Nat → Nat} {t : Nat} : ag_nU D t = true ↔ D t ≠ 10126 := by
  unfold ag_nU
  simp
theorem ag_arr {w : Nat → Bool} {o : Nat → Nat} {f : Bool} {T : Nat} (h1 : 1 ≤ T) (h7 : T ≤ 7) {a : Nat × Nat × Nat} {D D' : Nat → Nat} (ha : ag_V w T a) (h : ag_Sl 3375 10126 (ag_GX (ag_go w o) f) (ag_ex a) D) (h' : ag_Sl 1728 10126 (ag_GY w o (ag_sz T) f) (ag_ey T a) D') : ag_cn (ag_nU D') 1728 = ag_cn (ag_nU D) 3375 := by
  have hg := ag_Gd_go w o
  refine Nat.le_antisymm ?_ ?_
  · have kk : ∀ t, t < 1728 → ag_nU D' t = true → ∃ q, t = ag_ey T q ∧ ag_V w T q := fun t ht e => ag_VY h1 h7 ha h' ht (ag_nU_iff.mp e)
    have : ∃ φ : Nat → Nat × Nat × Nat, ∀ t, t < 1728 → ag_nU D' t = true → t = ag_ey T (φ t) ∧ ag_V w T (φ t) := by
      refine ⟨fun t => if ht : t < 1728 ∧ ag_nU D' t = true then (kk t ht.1 ht.2).choose else (0, 0, 0), fun t ht e => ?_⟩
      dsimp only
      rw [dif_pos ⟨ht, e⟩]
      exact (kk t ht e).choose_spec
    obtain ⟨φ, hφ⟩ := this
    refine ag_cn_inj _ 3375 (fun t => ag_ex (φ t)) 1728 _ (fun t ht e => ?_) (fun t t' ht ht' e e' ee => ?_)
    · obtain ⟨q1, q2⟩ := hφ t ht e
      refine ⟨(ag_exV q2).1, ag_nU_iff.mpr ?_⟩
      rw [← ag_DD h1 h7 ha h h' q2, ← q1]
      exact ag_nU_iff.mp e
    · obtain ⟨q1, q2⟩ := hφ t ht e
      obtain ⟨r1, r2⟩ := hφ t' ht' e'
      rw [q1, r1, ag_ex_inj q2 r2 ee]
  · refine ag_cn_inj _ 1728 (fun t => ag_ey T (ag_dx t)) 3375 _ (fun t ht e => ?_) (fun t t' ht ht' e e' ee => ?_)
    · obtain ⟨q, rfl, v⟩ := ag_VX hg ha h ht (ag_nU_iff.mp e)
      rw [(ag_exV v).2]
      refine ⟨ag_eyV T h1 h7 q v, ag_nU_iff.mpr ?_⟩
      rw [ag_DD h1 h7 ha h h' v]
      exact ag_nU_iff.mp e
    · obtain ⟨q, rfl, v⟩ := ag_VX hg ha h ht (ag_nU_iff.mp e)
      obtain ⟨q', rfl, v'⟩ := ag_VX hg ha h ht' (ag_nU_iff.mp e')
      rw [(ag_exV v).2, (ag_exV v').2] at ee
      rw [ag_ey_inj h1 h7 v v' ee]
theorem i_vc_arrangements {k : Nat} {u : SX} {v : SY} (I : i_Rel k u v) (hk : k + 4 ≤ 2048) (v1 : Int32) : wpX_arrangements (fun r u' => wpY_arrangements (fun r' v' => r' = r ∧ i_Rel (k + 4) u' v') v v1) u v1 := by
  obtain ⟨w, o, z, P, G, g, nc, pl, gl, cg, co, ns, nt, sz, is, py, gy, wk, st, cs, gd, rfl, rfl, ho, hW⟩ := I
  unfold wpX_arrangements
  dsimp only
  refine ag_rdX hW (fun T eT hR => ?_) (fun hN => ?_)
  · subst eT
    obtain ⟨hT1, hT7⟩ := hR.1
    obtain ⟨p1, p2, p3, p4, hV, hE⟩ := ag_rdp hW hR
    refine br_f (by decide) (ag_sfpX0 (f := false) ho hT7 p1 hV (fun g' nc' cg' co' ns' nt' D r h => ?_))
    dsimp only
    refine loop_0 (fun n i s => wX_arrangements_21 _ g' nc' (ag_bi w) (ag_nf o) pl gl cg' co' ns' nt' n s (nI i)) (fun i s => s = nI (ag_cn (ag_nU D) i)) 3375 (nI 0) rfl ?_ ?_
    · rintro n s rfl
      refine br_t (nI_le (b := 3375) (Nat.le_refl _) (by decide)) ?_
      unfold wpY_arrangements
      dsimp only
      refine ag_rdY hW (fun _ _ _ => ?_) (fun hN => absurd hR (hN T rfl))
      refine br_f (by decide) (ag_chooseY ho hT1 hT7 (fun wk' st' hw hs => ?_))
      dsimp only
      refine ag_spreadY (f := false) hT1 hT7 hs hV (fun cs post' q => ag_startT hT1 hT7 hw p3 q) (fun cs' D' r' h' => ?_)
      dsimp only
      refine loop_0 (fun n i s => wY_arrangements_24 _ (nI (ag_sz T)) (ag_bi w) (ag_nf o) is py gy wk' st' cs' gd n s (nI i)) (fun i s => s = nI (ag_cn (ag_nU D') i)) 1728 (nI 0) rfl ?_ ?_
      · rintro n s rfl
        refine br_t (nI_le (b := 1728) (Nat.le_refl _) (by decide)) ⟨?_, ag_rel ho hW⟩
        rw [ag_arr hT1 hT7 hV h h']
      · rintro n i s hi rfl ih
        refine br_f (nI_ge (b := 1728) hi (by decide)) ⟨vp_in_nI hi (by omega), ?_⟩
        rw [nI_clamp (n := i) (by omega), (r' i hi).1]
        refine br_c (fun q => ?_) (fun q => ?_)
        · rw [ag_iU0 (r' i hi).2] at q
          refine nm_r (nI_1 i) (ih _ ?_)
          rw [ag_cn_f (fun e => ag_nU_iff.mp e q)]
        · rw [ag_iU0 (r' i hi).2] at q
          refine nm_r (nI_1 _) (nm_r (nI_1 i) (ih _ ?_))
          rw [ag_cn_t (ag_nU_iff.mpr q)]
    · rintro n i s hi rfl ih
      refine br_f (nI_ge (b := 3375) hi (by decide)) ⟨vp_in_nI hi (by omega), ?_⟩
      rw [nI_clamp (n := i) (by omega), (r i hi).1]
      refine pk_eq (D i) 10126 (fun q => ?_) (fun q => ?_) rfl rfl (by have := (r i hi).2; omega)
      · refine nm_r (nI_1 i) (ih _ ?_)
        rw [ag_cn_f (fun e => ag_nU_iff.mp e q)]
      · refine nm_r (nI_1 _) (nm_r (nI_1 i) (ih _ ?_))
        rw [ag_cn_t (ag_nU_iff.mpr q)]
  · refine br_t rfl ?_
    unfold wpY_arrangements
    dsimp only
    exact ag_rdY hW (fun T e hR => absurd hR (hN T e)) (fun _ => br_t rfl ⟨rfl, ag_rel ho hW⟩)
end
section
/-! swarm: the cells of a team as sets -/
variable {g nc : Int32} {wl wo pl gl cg co ns nt : Nat → Int32} {sz : Int32} {iw is py gy wk st cs gd : Nat → Int32}
def ag_co (q : Nat × Nat × Nat) (j : Nat) : Nat := if j = 0 then q.1 else if j = 1 then q.2.1 else q.2.2
def ag_vv (T : Nat) (q : Nat × Nat × Nat) (k : Nat) : Nat := if k = 0 then (if T = 2 then q.2.1 else if T = 6 then q.2.1 else if T = 4 then q.2.2 else q.1) else if k = 1 then (if T = 3 then q.2.1 else if T = 7 then q.2.1 else if T = 5 then q.2.2 else if T = 6 then q.2.2 else 0) else if k = 2 then (if T = 7 then q.2.2 else 0) else 0
theorem ag_ey_vv : ∀ T, 1 ≤ T → T ≤ 7 → ∀ q, ag_ey T q = 144 * ag_vv T q 0 + 12 * ag_vv T q 1 + ag_vv T q 2 :=
  ag_T7 (fun _ => rfl) (fun _ => rfl) (fun _ => rfl) (fun _ => rfl) (fun _ => rfl) (fun _ => rfl) (fun _ => rfl)
theorem ag_wT1 (h : ag_Wl 1 wk) : ∀ k, k < ag_sz 1 → ∃ j, j < 3 ∧ wk k = nI j ∧ Nat.testBit 1 j = true ∧ ∀ q, ag_vv 1 q k = ag_co q j := by
  intro k hk
  have : k = 0 := by have : k < 1 := hk; omega
  subst this
  exact ⟨0, by omega, h 0 (by omega) rfl, rfl, fun _ => rfl⟩
theorem ag_wU1 : ∀ j, j < 3 → Nat.testBit 1 j = true → ∃ k, k < ag_sz 1 ∧ ∀ q, ag_vv 1 q k = ag_co q j := by
  intro j hj hb
  have : j = 0 ∨ j = 1 ∨ j = 2 := by omega
  rcases this with rfl | rfl | rfl
  · exact ⟨0, by decide, fun _ => rfl⟩
  · exact absurd hb (by decide)
  · exact absurd hb (by decide)
theorem ag_wT2 (h : ag_Wl 2 wk) : ∀ k, k < ag_sz 2 → ∃ j, j < 3 ∧ wk k = nI j ∧ Nat.testBit 2 j = true ∧ ∀ q, ag_vv 2 q k = ag_co q j := by
  intro k hk
  have : k = 0 := by have : k < 1 := hk; omega
  subst this
  exact ⟨1, by omega, h 1 (by omega) rfl, rfl, fun _ => rfl⟩
theorem ag_wU2 : ∀ j, j < 3 → Nat.testBit 2 j = true → ∃ k, k < ag_sz 2 ∧ ∀ q, ag_vv 2 q k = ag_co q j := by
  intro j hj hb
  have : j = 0 ∨ j = 1 ∨ j = 2 := by omega
  rcases this with rfl | rfl | rfl
  · exact absurd hb (by decide)
  · exact ⟨0, by decide, fun _ => rfl⟩
  · exact absurd hb (by decide)
theorem ag_wT3 (h : ag_Wl 3 wk) : ∀ k, k < ag_sz 3 → ∃ j, j < 3 ∧ wk k = nI j ∧ Nat.testBit 3 j = true ∧ ∀ q, ag_vv 3 q k = ag_co q j := by
  intro k hk
  have : k = 0 ∨ k = 1 := by have : k < 2 := hk; omega
  rcases this with rfl | rfl
  · exact ⟨0, by omega, h 0 (by omega) rfl, rfl, fun _ => rfl⟩
  · exact ⟨1, by omega, h 1 (by omega) rfl, rfl, fun _ => rfl⟩
theorem ag_wU3 : ∀ j, j < 3 → Nat.testBit 3 j = true → ∃ k, k < ag_sz 3 ∧ ∀ q, ag_vv 3 q k = ag_co q j := by
  intro j hj hb
  have : j = 0 ∨ j = 1 ∨ j = 2 := by omega
  rcases this with rfl | rfl | rfl
  · exact ⟨0, by decide, fun _ => rfl⟩
  · exact ⟨1, by decide, fun _ => rfl⟩
  · exact absurd hb (by decide)
theorem ag_wT4 (h : ag_Wl 4 wk) : ∀ k, k < ag_sz 4 → ∃ j, j < 3 ∧ wk k = nI j ∧ Nat.testBit 4 j = true ∧ ∀ q, ag_vv 4 q k = ag_co q j := by
  intro k hk
  have : k = 0 := by have : k < 1 := hk; omega
  subst this
  exact ⟨2, by omega, h 2 (by omega) rfl, rfl, fun _ => rfl⟩
theorem ag_wU4 : ∀ j, j < 3 → Nat.testBit 4 j = true → ∃ k, k < ag_sz 4 ∧ ∀ q, ag_vv 4 q k = ag_co q j := by
  intro j hj hb
  have : j = 0 ∨ j = 1 ∨ j = 2 := by omega
  rcases this with rfl | rfl | rfl
  · exact absurd hb (by decide)
  · exact absurd hb (by decide)
  · exact ⟨0, by decide, fun _ => rfl⟩
theorem ag_wT5 (h : ag_Wl 5 wk) : ∀ k, k < ag_sz 5 → ∃ j, j < 3 ∧ wk k = nI j ∧ Nat.testBit 5 j = true ∧ ∀ q, ag_vv 5 q k = ag_co q j := by
  intro k hk
  have : k = 0 ∨ k = 1 := by have : k < 2 := hk; omega
  rcases this with rfl | rfl
  · exact ⟨0, by omega, h 0 (by omega) rfl, rfl, fun _ => rfl⟩
  · exact ⟨2, by omega, h 2 (by omega) rfl, rfl, fun _ => rfl⟩
theorem ag_wU5 : ∀ j, j < 3 → Nat.testBit 5 j = true → ∃ k, k < ag_sz 5 ∧ ∀ q, ag_vv 5 q k = ag_co q j := by
  intro j hj hb
  have : j = 0 ∨ j = 1 ∨ j = 2 := by omega
  rcases this with rfl | rfl | rfl
  · exact ⟨0, by decide, fun _ => rfl⟩
  · exact absurd hb (by decide)
  · exact ⟨1, by decide, fun _ => rfl⟩
theorem ag_wT6 (h : ag_Wl 6 wk) : ∀ k, k < ag_sz 6 → ∃ j, j < 3 ∧ wk k = nI j ∧ Nat.testBit 6 j = true ∧ ∀ q, ag_vv 6 q k = ag_co q j := by
  intro k hk
  have : k = 0 ∨ k = 1 := by have : k < 2 := hk; omega
  rcases this with rfl | rfl
  · exact ⟨1, by omega, h 1 (by omega) rfl, rfl, fun _ => rfl⟩
  · exact ⟨2, by omega, h 2 (by omega) rfl, rfl, fun _ => rfl⟩
theorem ag_wU6 : ∀ j, j < 3 → Nat.testBit 6 j = true → ∃ k, k < ag_sz 6 ∧ ∀ q, ag_vv 6 q k = ag_co q j := by
  intro j hj hb
  have : j = 0 ∨ j = 1 ∨ j = 2 := by omega
  rcases this with rfl | rfl | rfl
  · exact absurd hb (by decide)
  · exact ⟨0, by decide, fun _ => rfl⟩
  · exact ⟨1, by decide, fun _ => rfl⟩
theorem ag_wT7 (h : ag_Wl 7 wk) : ∀ k, k < ag_sz 7 → ∃ j, j < 3 ∧ wk k = nI j ∧ Nat.testBit 7 j = true ∧ ∀ q, ag_vv 7 q k = ag_co q j := by
  intro k hk
  have : k = 0 ∨ k = 1 ∨ k = 2 := by have : k < 3 := hk; omega
  rcases this with rfl | rfl | rfl
  · exact ⟨0, by omega, h 0 (by omega) rfl, rfl, fun _ => rfl⟩
  · exact ⟨1, by omega, h 1 (by omega) rfl, rfl, fun _ => rfl⟩
  · exact ⟨2, by omega, h 2 (by omega) rfl, rfl, fun _ => rfl⟩
theorem ag_wU7 : ∀ j, j < 3 → Nat.testBit 7 j = true → ∃ k, k < ag_sz 7 ∧ ∀ q, ag_vv 7 q k = ag_co q j := by
  intro j hj hb
  have : j = 0 ∨ j = 1 ∨ j = 2 := by omega
  rcases this with rfl | rfl | rfl
  · exact ⟨0, by decide, fun _ => rfl⟩
  · exact ⟨1, by decide, fun _ => rfl⟩
  · exact ⟨2, by decide, fun _ => rfl⟩
theorem ag_wT : ∀ T, 1 ≤ T → T ≤ 7 → ag_Wl T wk → ∀ k, k < ag_sz T → ∃ j, j < 3 ∧ wk k = nI j ∧ T.testBit j = true ∧ ∀ q, ag_vv T q k = ag_co q j :=
  ag_T7 ag_wT1 ag_wT2 ag_wT3 ag_wT4 ag_wT5 ag_wT6 ag_wT7
theorem ag_wU : ∀ T, 1 ≤ T → T ≤ 7 → ∀ j, j < 3 → T.testBit j = true → ∃ k, k < ag_sz T ∧ ∀ q, ag_vv T q k = ag_co q j :=
  ag_T7 ag_wU1 ag_wU2 ag_wU3 ag_wU4 ag_wU5 ag_wU6 ag_wU7
/-- every team has a list of its walkers -/
theorem ag_Wl_ex (T : Nat) : ∃ wk, ag_Wl T wk := by
  refine ⟨fun k => nI (if k = ag_cn (fun j => T.testBit j) 0 ∧ T.testBit 0 = true then 0 else if k = ag_cn (fun j => T.testBit j) 1 ∧ T.testBit 1 = true then 1 else 2), fun j hj hb => ?_⟩
  dsimp only
  have k1 : ∀ i, i < j → T.testBit i = true → ag_cn (fun j => T.testBit j) i ≠ ag_cn (fun j => T.testBit j) j := fun i hi hbi e => by
    have := ag_cn_lt (fun j => T.testBit j) hi hbi
    omega
  have : j = 0 ∨ j = 1 ∨ j = 2 := by omega
  rcases this with rfl | rfl | rfl
  · rw [if_pos ⟨rfl, hb⟩]
  · rw [if_neg (fun q => k1 0 (by omega) q.2 q.1.symm), if_pos ⟨rfl, hb⟩]
  · rw [if_neg (fun q => k1 0 (by omega) q.2 q.1.symm), if_neg (fun q => k1 1 (by omega) q.2 q.1.symm)]
theorem ag_coV {w : Nat → Bool} {T : Nat} {q : Nat × Nat × Nat} (h : ag_V w T q) {j : Nat} (hj : j < 3) : ag_sp w (T.testBit j) j (ag_co q j) := by
  have : j = 0 ∨ j = 1 ∨ j = 2 := by omega
  rcases this with rfl | rfl | rfl
  · exact h.1
  · exact h.2.1
  · exact h.2.2.1
theorem ag_co_tr {T : Nat} {P : Nat → Nat} {j : Nat} (hj : j < 3) (hb : T.testBit j = true) : ag_co (ag_tr T P) j = P j := by
  have : j = 0 ∨ j = 1 ∨ j = 2 := by omega
  rcases this with rfl | rfl | rfl
  · show ag_sv T P 0 = _
    exact if_pos hb
  · show ag_sv T P 1 = _
    exact if_pos hb
  · show ag_sv T P 2 = _
    exact if_pos hb
theorem ag_vv12 {w : Nat → Bool} {T : Nat} (h1 : 1 ≤ T) (h7 : T ≤ 7) {q : Nat × Nat × Nat} (h : ag_V w T q) {k : Nat} (hk : k < ag_sz T) : ag_vv T q k < 12 := by
  obtain ⟨wk, hw⟩ := ag_Wl_ex T
  obtain ⟨j, hj, _, hb, e⟩ := ag_wT T h1 h7 hw k hk
  rw [e q]
  exact ((ag_coV h hj).1 hb).1
theorem ag_vv0 : ∀ T, 1 ≤ T → T ≤ 7 → ∀ q k, ag_sz T ≤ k → ag_vv T q k = 0 := by
  refine ag_T7 ?_ ?_ ?_ ?_ ?_ ?_ ?_
  · intro q k hk
    have hk' : 1 ≤ k := hk
    unfold ag_vv
    by_cases e1 : k = 1
    · subst e1
      first | rfl | (exfalso; omega)
    · by_cases e2 : k = 2
      · subst e2
        first | rfl | (exfalso; omega)
      · rw [if_neg (by omega), if_neg e1, if_neg e2]
  · intro q k hk
    have hk' : 1 ≤ k := hk
    unfold ag_vv
    by_cases e1 : k = 1
    · subst e1
      first | rfl | (exfalso; omega)
    · by_cases e2 : k = 2
      · subst e2
        first | rfl | (exfalso; omega)
      · rw [if_neg (by omega), if_neg e1, if_neg e2]
  · intro q k hk
    have hk' : 2 ≤ k := hk
    unfold ag_vv
    by_cases e1 : k = 1
    · subst e1
      first | rfl | (exfalso; omega)
    · by_cases e2 : k = 2
      · subst e2
        first | rfl | (exfalso; omega)
      · rw [if_neg (by omega), if_neg e1, if_neg e2]
  · intro q k hk
    have hk' : 1 ≤ k := hk
    unfold ag_vv
    by_cases e1 : k = 1
    · subst e1
      first | rfl | (exfalso; omega)
    · by_cases e2 : k = 2
      · subst e2
        first | rfl | (exfalso; omega)
      · rw [if_neg (by omega), if_neg e1, if_neg e2]
  · intro q k hk
    have hk' : 2 ≤ k := hk
    unfold ag_vv
    by_cases e1 : k = 1
    · subst e1
      first | rfl | (exfalso; omega)
    · by_cases e2 : k = 2
      · subst e2
        first | rfl | (exfalso; omega)
      · rw [if_neg (by omega), if_neg e1, if_neg e2]
  · intro q k hk
    have hk' : 2 ≤ k := hk
    unfold ag_vv
    by_cases e1 : k = 1
    · subst e1
      first | rfl | (exfalso; omega)
    · by_cases e2 : k = 2
      · subst e2
        first | rfl | (exfalso; omega)
      · rw [if_neg (by omega), if_neg e1, if_neg e2]
  · intro q k hk
    have hk' : 3 ≤ k := hk
    unfold ag_vv
    by_cases e1 : k = 1
    · subst e1
      first | rfl | (exfalso; omega)
    · by_cases e2 : k = 2
      · subst e2
        first | rfl | (exfalso; omega)
      · rw [if_neg (by omega), if_neg e1, if_neg e2]
def ag_dg (s k : Nat) : Nat := if k = 0 then s / 144 else if k = 1 then s / 12 % 12 else s % 12
theorem ag_dg_ey {w : Nat → Bool} {T : Nat} (h1 : 1 ≤ T) (h7 : T ≤ 7) {q : Nat × Nat × Nat} (h : ag_V w T q) {k : Nat} (hk : k < 3) : ag_dg (ag_ey T q) k = ag_vv T q k := by
  have b : ∀ k, ag_vv T q k < 12 := fun k => by
    by_cases y : k < ag_sz T
    · exact ag_vv12 h1 h7 h y
    · rw [ag_vv0 T h1 h7 q k (by omega)]; omega
  have b0 := b 0
  have b1 := b 1
  have b2 := b 2
  rw [ag_ey_vv T h1 h7 q]
  have : k = 0 ∨ k = 1 ∨ k = 2 := by omega
  rcases this with rfl | rfl | rfl
  · show (144 * ag_vv T q 0 + 12 * ag_vv T q 1 + ag_vv T q 2) / 144 = _
    omega
  · show (144 * ag_vv T q 0 + 12 * ag_vv T q 1 + ag_vv T q 2) / 12 % 12 = _
    omega
  · show (144 * ag_vv T q 0 + 12 * ag_vv T q 1 + ag_vv T q 2) % 12 = _
    omega
theorem ag_cellY {post : Int32 → Prop} {u : SY} {s k : Nat} (hs : s < 1728) (hk : k < 3) (p : post (nI (ag_dg s k))) : wpY_cell post u (nI s) (nI k) := by
  obtain ⟨sz, iw, wo, is, py, gy, wk, st, cs, gd⟩ := u
  unfold wpY_cell
  dsimp only
  have : k = 0 ∨ k = 1 ∨ k = 2 := by omega
  rcases this with rfl | rfl | rfl
  · refine br_t rfl ⟨by decide, ?_⟩
    rw [show (144 : Int32) = nI 144 from rfl, pk_div (by omega) (by omega) (by omega)]
    exact p
  · refine br_f (by decide) (br_t rfl ⟨by decide, by decide, ?_⟩)
    rw [show (12 : Int32) = nI 12 from rfl, pk_div (by omega) (by omega) (by omega), pk_rem (by omega) (by omega) (by omega)]
    exact p
  · refine br_f (by decide) (br_f (by decide) ⟨by decide, ?_⟩)
    rw [show (12 : Int32) = nI 12 from rfl, pk_rem (by omega) (by omega) (by omega)]
    exact p
def ag_om (v : Nat → Nat) : Nat → Nat
  | 0 => 0
  | i + 1 => ag_om v i ||| 2 ^ v i
theorem ag_om_lt {v : Nat → Nat} : ∀ {i : Nat}, (∀ k, k < i → v k < 31) → ag_om v i < 2 ^ 31 := by
  intro i
  induction i with
  | zero => intro _; exact Nat.two_pow_pos 31
  | succ i ih => exact fun h => ag_or_lt (ih (fun k hk => h k (by omega))) (ag_pw (h i (by omega)))
theorem ag_om_b (v : Nat → Nat) (i x : Nat) : (ag_om v i).testBit x = true ↔ ∃ k, k < i ∧ v k = x := by
  induction i with
  | zero => exact ⟨fun h => absurd h (by rw [show ag_om v 0 = 0 from rfl, Nat.zero_testBit]; decide), fun ⟨k, h, _⟩ => absurd h (by omega)⟩
  | succ i ih =>
    rw [show ag_om v (i + 1) = ag_om v i ||| 2 ^ v i from rfl, Nat.testBit_or, Nat.testBit_two_pow, Bool.or_eq_true, ih, decide_eq_true_eq]
    constructor
    · rintro (⟨k, h, e⟩ | e)
      · exact ⟨k, by omega, e⟩
      · exact ⟨i, by omega, e⟩
    · rintro ⟨k, h, e⟩
      by_cases y : k = i
      · subst y; exact Or.inr e
      · exact Or.inl ⟨k, by omega, e⟩
theorem ag_om_eq {v v' : Nat → Nat} {i i' : Nat} : ag_om v i = ag_om v' i' ↔ ∀ x, (∃ k, k < i ∧ v k = x) ↔ (∃ k, k < i' ∧ v' k = x) := by
  constructor
  · intro h x
    rw [← ag_om_b, ← ag_om_b, h]
  · intro h
    refine Nat.eq_of_testBit_eq (fun x => ?_)
    rw [Bool.eq_iff_iff, ag_om_b, ag_om_b]
    exact h x
/-- the same cells, by spots or by the team's list -/
theorem ag_same {w : Nat → Bool} {T : Nat} (h1 : 1 ≤ T) (h7 : T ≤ 7) {q e : Nat × Nat × Nat} (hq : ag_V w T q) (he : ag_V w T e) : ag_om (ag_vv T q) (ag_sz T) = ag_om (ag_vv T e) (ag_sz T) ↔ ag_om (ag_co q) 3 = ag_om (ag_co e) 3 := by
  obtain ⟨wk, hw⟩ := ag_Wl_ex T
  have A : ∀ q x, (∃ k, k < ag_sz T ∧ ag_vv T q k = x) ↔ (∃ j, j < 3 ∧ T.testBit j = true ∧ ag_co q j = x) := fun q x => by
    constructor
    · rintro ⟨k, hk, e⟩
      obtain ⟨j, hj, _, hb, ee⟩ := ag_wT T h1 h7 hw k hk
      exact ⟨j, hj, hb, by rw [← ee q]; exact e⟩
    · rintro ⟨j, hj, hb, e⟩
      obtain ⟨k, hk, ee⟩ := ag_wU T h1 h7 j hj hb
      exact ⟨k, hk, by rw [ee q]; exact e⟩
  have on : ∀ {q}, ag_V w T q → ∀ j, j < 3 → T.testBit j = true → ag_co q j < 12 := fun h j hj hb => ((ag_coV h hj).1 hb).1
  have off : ∀ {q}, ag_V w T q → ∀ j, j < 3 → T.testBit j = false → ag_co q j = 12 + j := fun h j hj hb => (ag_coV h hj).2 hb
  rw [ag_om_eq, ag_om_eq]
  constructor
  · intro h x
    have h' := h x
    rw [A, A] at h'
    constructor
    · rintro ⟨j, hj, ee⟩
      cases hb : T.testBit j
      · exact ⟨j, hj, by rw [off he j hj hb, ← ee, off hq j hj hb]⟩
      · obtain ⟨i, hi, _, e3⟩ := h'.mp ⟨j, hj, hb, ee⟩
        exact ⟨i, hi, e3⟩
    · rintro ⟨j, hj, ee⟩
      cases hb : T.testBit j
      · exact ⟨j, hj, by rw [off hq j hj hb, ← ee, off he j hj hb]⟩
      · obtain ⟨i, hi, _, e3⟩ := h'.mpr ⟨j, hj, hb, ee⟩
        exact ⟨i, hi, e3⟩
  · intro h x
    have h' := h x
    rw [A, A]
    constructor
    · rintro ⟨j, hj, hb, ee⟩
      obtain ⟨i, hi, e3⟩ := h'.mp ⟨j, hj, ee⟩
      refine ⟨i, hi, ?_, e3⟩
      cases hbi : T.testBit i
      · have k1 := on hq j hj hb
        have k2 := off he i hi hbi
        omega
      · rfl
    · rintro ⟨j, hj, hb, ee⟩
      obtain ⟨i, hi, e3⟩ := h'.mpr ⟨j, hj, ee⟩
      refine ⟨i, hi, ?_, e3⟩
      cases hbi : T.testBit i
      · have k1 := on he j hj hb
        have k2 := off hq i hi hbi
        omega
      · rfl
end
section
/-! swarm -/
variable {g nc : Int32} {wl wo pl gl cg co ns nt : Nat → Int32} {sz : Int32} {iw is py gy wk st cs gd : Nat → Int32}
theorem ag_spotX {post : Int32 → Prop} {u : SX} {s k : Nat} (hs : s < 3375) (hk : k < 3) (p : post (nI (ag_co (ag_dx s) k))) : wpX_spotIn post u (nI s) (nI k) := by
  have : k = 0 ∨ k = 1 ∨ k = 2 := by omega
  rcases this with rfl | rfl | rfl
  · exact ag_spot0 (by omega) p
  · exact ag_spot1 (by omega) p
  · exact ag_spot2 (by omega) p
theorem ag_co15 {s k : Nat} (hs : s < 3375) : ag_co (ag_dx s) k < 15 := by
  unfold ag_co ag_dx
  dsimp only
  split
  · omega
  · split <;> omega
theorem ag_takenX {post : Int32 → Prop} {s : Nat} (hs : s < 3375) (p : post (nI (ag_om (ag_co (ag_dx s)) 3))) : wpX_spotsTaken post (g, nc, wl, wo, pl, gl, cg, co, ns, nt) (nI s) := by
  unfold wpX_spotsTaken
  dsimp only
  refine loop_0 (fun n i x => wX_spotsTaken_4 post (nI s) g nc wl wo pl gl cg co ns nt n x (nI i)) (fun i x => x = nI (ag_om (ag_co (ag_dx s)) i)) 3 (nI 0) rfl ?_ ?_
  · rintro n x rfl
    exact br_t (nI_le (b := 3) (Nat.le_refl _) (by decide)) p
  · rintro n i x hi rfl ih
    refine br_f (nI_ge (b := 3) hi (by decide)) (ag_spotX hs hi (nm_r (e' := nI (ag_om (ag_co (ag_dx s)) (i + 1))) ?_ (nm_r (nI_1 i) (ih _ rfl))))
    rw [ag_one (by have := ag_co15 (k := i) hs; omega), ag_or]
    rfl
theorem ag_takesY {post : Int32 → Prop} {n s : Nat} {v : Nat → Nat} (hn : n ≤ 3) (hs : s < 1728) (hv : ∀ k, k < n → v k < 12 ∧ ∃ j, j < 3 ∧ wk k = nI j ∧ gy j = nI (v k)) (p1 : ag_om (ag_dg s) n = ag_om v n → post 1) (p0 : ag_om (ag_dg s) n ≠ ag_om v n → post 0) : wpY_takesGoals post (nI n, iw, wo, is, py, gy, wk, st, cs, gd) (nI s) := by
  have hd : ∀ k, k < 3 → ag_dg s k < 12 := fun k hk => by
    unfold ag_dg
    split
    · omega
    · split <;> omega
  unfold wpY_takesGoals
  dsimp only
  refine loop_0 (fun m i (x : Int32 × Int32) => wY_takesGoals_7 post (nI s) (nI n) iw wo is py gy wk st cs gd m x.1 x.2 (nI i)) (fun i x => x.1 = nI (ag_om (ag_dg s) i) ∧ x.2 = nI (ag_om v i)) n (nI 0, nI 0) ⟨rfl, rfl⟩ ?_ ?_
  · rintro m ⟨x1, x2⟩ ⟨e1, e2⟩
    dsimp only at e1 e2 ⊢
    subst e1
    subst e2
    refine br_t (nI_le (Nat.le_refl n) (by omega)) (pk_eq (ag_om (ag_dg s) n) (ag_om v n) p1 p0 rfl rfl (ag_om_lt (fun k hk => ?_)) (ag_om_lt (fun k hk => ?_)))
    · have := hd k (by omega); omega
    · have := (hv k hk).1; omega
  · rintro m i ⟨x1, x2⟩ hi ⟨e1, e2⟩ ih
    dsimp only at e1 e2 ⊢
    subst e1
    subst e2
    obtain ⟨b, j, hj, f1, f2⟩ := hv i hi
    refine br_f (nI_ge hi (by omega)) (ag_cellY hs (by omega) (nm_r (e' := nI (ag_om (ag_dg s) (i + 1))) ?_ ⟨vp_in_nI (show i < 3 by omega) (by omega), ?_⟩))
    · rw [ag_one (by have := hd i (by omega); omega), ag_or]
      rfl
    · rw [nI_clamp (n := i) (by omega), f1]
      refine ⟨vp_in_nI hj (by omega), nm_r (e' := nI (ag_om v (i + 1))) ?_ (nm_r (nI_1 i) (ih (nI (ag_om (ag_dg s) (i + 1)), nI (ag_om v (i + 1))) ⟨rfl, rfl⟩))⟩
      rw [nI_clamp (by omega), f2, ag_one (by omega), ag_or]
      rfl
theorem ag_ans0 {d : Nat} (h : d ≤ 10126) : ag_ans d < 0 ↔ d = 10126 := by
  unfold ag_ans
  by_cases e : d = 10126
  · rw [if_pos e]; exact ⟨fun _ => e, fun _ => by decide⟩
  · rw [if_neg e]
    exact ⟨fun z => absurd z (nI_pos (by omega)), fun z => absurd z e⟩
theorem ag_om_ex {f f' : Nat → Nat} {i : Nat} (h : ∀ k, k < i → f k = f' k) : ag_om f i = ag_om f' i := by
  induction i with
  | zero => rfl
  | succ i ih =>
    rw [show ag_om f (i + 1) = ag_om f i ||| 2 ^ f i from rfl, show ag_om f' (i + 1) = ag_om f' i ||| 2 ^ f' i from rfl, ih (fun k hk => h k (by omega)), h i (by omega)]
theorem i_vc_swarm {k : Nat} {u : SX} {v : SY} (I : i_Rel k u v) (hk : k + 4 ≤ 2048) (v1 : Int32) : wpX_swarm (fun r u' => wpY_swarm (fun r' v' => r' = r ∧ i_Rel (k + 4) u' v') v v1) u v1 := by
  obtain ⟨w, o, z, P, G, g, nc, pl, gl, cg, co, ns, nt, sz, is, py, gy, wk, st, cs, gd, rfl, rfl, ho, hW⟩ := I
  unfold wpX_swarm
  dsimp only
  refine ag_rdX hW (fun T eT hR => ?_) (fun hN => ?_)
  · subst eT
    obtain ⟨hT1, hT7⟩ := hR.1
    obtain ⟨p1, p2, p3, p4, hV, hE⟩ := ag_rdp hW hR
    have hg := ag_Gd_go w o
    have he := (ag_exV hE).1
    refine br_f (by decide) (ag_sfpX0 (f := false) ho hT7 p1 hV (fun g' nc' cg' co' ns' nt' D r h => ?_))
    dsimp only
    refine ag_of_goals hT7 p2 (ag_takenX he ?_)
    have tkl : ∀ t, t < 3375 → ag_om (ag_co (ag_dx t)) 3 < 2 ^ 31 := fun t ht => ag_om_lt (fun k _ => by have := ag_co15 (k := k) ht; omega)
    refine loop_0 (fun n i s => wX_swarm_39 _ (nI (ag_om (ag_co (ag_dx (ag_ex (ag_tr T G)))) 3)) g' nc' (ag_bi w) (ag_nf o) pl gl cg' co' ns' nt' n s (nI i))
      (fun i s => ∃ b, b < 3375 ∧ s = nI b ∧ ag_om (ag_co (ag_dx b)) 3 = ag_om (ag_co (ag_dx (ag_ex (ag_tr T G)))) 3 ∧ ∀ t, t < i → ag_om (ag_co (ag_dx t)) 3 = ag_om (ag_co (ag_dx (ag_ex (ag_tr T G)))) 3 → D b ≤ D t) 3375 (nI (ag_ex (ag_tr T G))) ⟨_, he, rfl, rfl, fun t ht => absurd ht (by omega)⟩ ?_ ?_
    · rintro n s ⟨b, hb, rfl, b1, b2⟩
      refine br_t (nI_le (b := 3375) (Nat.le_refl _) (by decide)) (ag_ansX r hb ?_)
      unfold wpY_swarm
      dsimp only
      refine ag_rdY hW (fun _ _ _ => ?_) (fun hN => absurd hR (hN T rfl))
      refine br_f (by decide) (ag_chooseY ho hT1 hT7 (fun wk' st' hw hs => ?_))
      dsimp only
      refine ag_spreadY (f := false) hT1 hT7 hs hV (fun cs post' q => ag_startT hT1 hT7 hw p3 q) (fun cs' D' r' h' => ?_)
      dsimp only
      rw [(ag_exV hE).2] at b1 b2
      have hn := (ag_sz3 T hT1 hT7).2
      have hv : ∀ k, k < ag_sz T → ag_vv T (ag_tr T G) k < 12 ∧ ∃ j, j < 3 ∧ wk' k = nI j ∧ gy j = nI (ag_vv T (ag_tr T G) k) := fun k hk => by
        obtain ⟨j, hj, e1, hb, e2⟩ := ag_wT T hT1 hT7 hw k hk
        refine ⟨ag_vv12 hT1 hT7 hE hk, j, hj, e1, ?_⟩
        rw [e2, ag_co_tr hj hb]
        exact p4 j hj hb
      have tg : ∀ q, ag_V w T q → (ag_om (ag_dg (ag_ey T q)) (ag_sz T) = ag_om (ag_vv T (ag_tr T G)) (ag_sz T) ↔ ag_om (ag_co q) 3 = ag_om (ag_co (ag_tr T G)) 3) := fun q hq => by
        rw [ag_om_ex (f' := ag_vv T q) (fun k hk => ag_dg_ey hT1 hT7 hq (by omega))]
        exact ag_same hT1 hT7 hq hE
      refine loop_0 (fun n i s => wY_swarm_25 _ (nI (ag_sz T)) (ag_bi w) (ag_nf o) is py gy wk' st' cs' gd n s (nI i))
        (fun i s => ∃ d, d ≤ 10126 ∧ s = ag_ans d ∧ (d = 10126 ∨ ∃ q, ag_V w T q ∧ D' (ag_ey T q) = d ∧ ag_om (ag_co q) 3 = ag_om (ag_co (ag_tr T G)) 3) ∧ ∀ q, ag_V w T q → ag_ey T q < i → ag_om (ag_co q) 3 = ag_om (ag_co (ag_tr T G)) 3 → d ≤ D' (ag_ey T q)) 1728 (ag_ans 10126) ⟨10126, Nat.le_refl _, rfl, Or.inl rfl, fun q _ hq => absurd hq (by omega)⟩ ?_ ?_
      · rintro n s ⟨d, hd, rfl, d1, d2⟩
        refine br_t (nI_le (b := 1728) (Nat.le_refl _) (by decide)) ⟨?_, ag_rel ho hW⟩
        have : d = D b := by
          refine Nat.le_antisymm ?_ ?_
          · by_cases y : D b = 10126
            · omega
            · obtain ⟨q, e, vq⟩ := ag_VX hg hV h hb y
              rw [e, (ag_exV vq).2] at b1
              have := d2 q vq (ag_eyV T hT1 hT7 q vq) b1
              rw [ag_DD hT1 hT7 hV h h' vq, ← e] at this
              exact this
          · rcases d1 with d1 | ⟨q, vq, e1, e2⟩
            · rw [d1]; exact (r b hb).2
            · have := b2 (ag_ex q) (ag_exV vq).1 (by rw [(ag_exV vq).2]; exact e2)
              rw [← ag_DD hT1 hT7 hV h h' vq, e1] at this
              exact this
        rw [this]
      · rintro n i s hi ⟨d, hd, rfl, d1, d2⟩ ih
        refine br_f (nI_ge (b := 1728) hi (by decide)) ⟨vp_in_nI hi (by omega), ?_⟩
        rw [nI_clamp (n := i) (by omega), (r' i hi).1]
        have hDi := (r' i hi).2
        refine br_c (fun q => ?_) (fun q => ?_)
        · rw [ag_iU0 hDi] at q
          refine nm_r (nI_1 i) (ih _ ⟨d, hd, rfl, d1, fun q' vq hq e => ?_⟩)
          by_cases y : ag_ey T q' = i
          · rw [y, q]; exact hd
          · exact d2 q' vq (by omega) e
        · rw [ag_iU0 hDi] at q
          obtain ⟨qi, ei, vi⟩ := ag_VY hT1 hT7 hV h' hi q
          refine ag_takesY hn hi hv (fun e => ?_) (fun e => ?_)
          · rw [ei, tg qi vi] at e
            have put : D' i ≤ d → wY_swarm_63 (fun r' v' => r' = ag_ans (D b) ∧ i_Rel (k + 4) (g', nc', ag_bi w, ag_nf o, pl, gl, cg', co', ns', nt') v') (wY_swarm_25 (fun r' v' => r' = ag_ans (D b) ∧ i_Rel (k + 4) (g', nc', ag_bi w, ag_nf o, pl, gl, cg', co', ns', nt') v') (nI (ag_sz T)) (ag_bi w) (ag_nf o) is py gy wk' st' cs' gd n) (nI i) (nI (ag_sz T)) (ag_bi w) (ag_nf o) is py gy wk' st' cs' gd := by
              intro hle
              unfold wY_swarm_63
              refine ⟨vp_in_nI hi (by omega), nm_r (e' := ag_ans (D' i)) ?_ (nm_r (nI_1 i) (ih _ ⟨D' i, hDi, rfl, Or.inr ⟨qi, vi, by rw [ei], e⟩, fun q' vq hq e' => ?_⟩))⟩
              · rw [nI_clamp (by omega), (r' i hi).1, ag_iUn q]
                unfold ag_ans
                rw [if_neg q]
              · by_cases y : ag_ey T q' = i
                · rw [y]; exact Nat.le_refl _
                · exact Nat.le_trans hle (d2 q' vq (by omega) e')
            refine br_f (by decide) (br_c (fun q2 => ?_) (fun q2 => ?_))
            · rw [ag_ans0 hd] at q2
              exact put (by omega)
            · rw [ag_ans0 hd] at q2
              refine ⟨vp_in_nI hi (by omega), ?_⟩
              rw [ag_iUn q]
              refine pk_le d (D' i) (fun q3 => ?_) (fun q3 => ?_) (if_neg q2)
              · refine nm_r (nI_1 i) (ih _ ⟨d, hd, rfl, d1, fun q' vq hq e' => ?_⟩)
                by_cases y : ag_ey T q' = i
                · rw [y]; exact q3
                · exact d2 q' vq (by omega) e'
              · exact put (by omega)
          · rw [ei, Ne, tg qi vi] at e
            refine br_t rfl (nm_r (nI_1 i) (ih _ ⟨d, hd, rfl, d1, fun q' vq hq e' => ?_⟩))
            by_cases y : ag_ey T q' = i
            · have := ag_ey_inj hT1 hT7 vq vi (by omega)
              rw [this] at e'
              exact absurd e' e
            · exact d2 q' vq (by omega) e'
    · rintro n i s hi ⟨b, hb, rfl, b1, b2⟩ ih
      refine br_f (nI_ge (b := 3375) hi (by decide)) ⟨vp_in_nI hi (by omega), vp_in_nI hb (by omega), ?_⟩
      rw [nI_clamp (n := i) (by omega), nI_clamp (n := b) (by omega), (r i hi).1, (r b hb).1]
      have m1 := (r i hi).2
      have m2 := (r b hb).2
      refine pk_le (D b) (D i) (fun q => ?_) (fun q => ?_)
      · refine nm_r (nI_1 i) (ih _ ⟨b, hb, rfl, b1, fun t ht e => ?_⟩)
        by_cases y : t = i
        · rw [y]; exact q
        · exact b2 t (by omega) e
      · refine ag_takenX hi ?_
        refine pk_eq _ _ (fun e => ?_) (fun e => ?_) rfl rfl (tkl i hi) (tkl _ he)
        · refine nm_r (nI_1 i) (ih _ ⟨i, hi, rfl, e, fun t ht e' => ?_⟩)
          by_cases y : t = i
          · rw [y]; exact Nat.le_refl _
          · have := b2 t (by omega) e'
            omega
        · refine nm_r (nI_1 i) (ih _ ⟨b, hb, rfl, b1, fun t ht e' => ?_⟩)
          by_cases y : t = i
          · rw [y] at e'; exact absurd e' e
          · exact b2 t (by omega) e'
  · refine br_t rfl ?_
    unfold wpY_swarm
    dsimp only
    exact ag_rdY hW (fun T e hR => absurd hR (hN T e)) (fun _ => br_t rfl ⟨rfl, ag_rel ho hW⟩)
end
section
/-! distance -/
variable {g nc : Int32} {wl wo pl gl cg co ns nt : Nat → Int32} {sz : Int32} {iw is py gy wk st cs gd : Nat → Int32}
def ag_E1 (w : Nat → Bool) (o : Nat → Nat) (a b p : Nat) : Prop := ag_go w o a b = true ∧ p = 1
def ag_V1 (w : Nat → Bool) (a : Nat) : Prop := a < 12 ∧ w a = false
def ag_f1 (a : Nat) : Nat × Nat × Nat := (a, 13, 14)
theorem ag_V1E {w : Nat → Bool} {o : Nat → Nat} {a b p : Nat} (h : ag_V1 w a) (e : ag_E1 w o a b p) : ag_V1 w b := by
  by_cases y : a = b
  · rw [← y]; exact h
  · obtain ⟨_, h2, _, h4, _⟩ := (ag_Gd_go w o).2 a b e.1 y
    exact ⟨h2, h4⟩
theorem ag_f1V {w : Nat → Bool} {a : Nat} (h : ag_V1 w a) : ag_V w 1 (ag_f1 a) := by
  unfold ag_V1 at h
  refine ⟨⟨fun _ => h, fun e => absurd e (by decide)⟩, ⟨fun e => absurd e (by decide), fun _ => rfl⟩, ⟨fun e => absurd e (by decide), fun _ => rfl⟩, ?_, ?_, ?_⟩
  · show a ≠ 13
    omega
  · show a ≠ 14
    omega
  · show (13 : Nat) ≠ 14
    omega
theorem ag_sim1 {w : Nat → Bool} {o : Nat → Nat} {a : Nat} (ha : ag_V1 w a) (t : Nat × Nat × Nat) (c : Nat) : ag_Rc (ag_E (ag_go w o) false) (ag_f1 a) t c ↔ ∃ q, t = ag_f1 q ∧ ag_V1 w q ∧ ag_Rc (ag_E1 w o) a q c := by
  have hg := ag_Gd_go w o
  refine ag_sim ag_f1 (ag_E1 w o) (ag_E (ag_go w o) false) (ag_V1 w) (fun _ _ _ h e => ag_V1E h e) (fun q q' p h e => ?_) (fun q t p h e => ?_) ha t c
  · have h' := ag_V1E h e
    unfold ag_V1 at h h'
    refine ⟨e.1, hg.1 _, hg.1 _, ?_, ?_, ?_, e.2⟩
    · show ¬ (q' = 13 ∨ (q' = 13 ∧ 13 = q))
      omega
    · show ¬ (q' = 14 ∨ (q' = 14 ∧ 14 = q))
      omega
    · show ¬ ((13 : Nat) = 14 ∨ ((13 : Nat) = 14 ∧ (14 : Nat) = 13))
      omega
  · obtain ⟨a', b', c'⟩ := t
    obtain ⟨e1, e2, e3, _, _, _, e7⟩ := e
    have k2 : b' = 13 := ag_off hg (i := 1) e2
    have k3 : c' = 14 := ag_off hg (i := 2) e3
    subst k2
    subst k3
    exact ⟨a', rfl, e1, e7⟩
theorem ag_Ds1 {w : Nat → Bool} {o : Nat → Nat} {a b d : Nat} (ha : ag_V1 w a) (hb : ag_V1 w b) (h : ag_Ds (ag_E (ag_go w o) false) (ag_f1 a) (ag_f1 b) d) : ag_Ds (ag_E1 w o) a b d := by
  have k : ∀ c, ag_Rc (ag_E (ag_go w o) false) (ag_f1 a) (ag_f1 b) c ↔ ag_Rc (ag_E1 w o) a b c := fun c => by
    rw [ag_sim1 ha]
    constructor
    · rintro ⟨q, e, _, r⟩
      have : b = q := congrArg Prod.fst e
      rw [this]
      exact r
    · intro r
      exact ⟨b, rfl, hb, r⟩
  rcases h with ⟨h1, h2⟩ | ⟨h1, h2⟩
  · exact Or.inl ⟨h1, (k _).mp h2.1, fun c' h' => h2.2 c' ((k c').mpr h')⟩
  · exact Or.inr ⟨h1, fun c z => h2 c ((k c).mpr z)⟩
theorem ag_E1bd {w : Nat → Bool} {o : Nat → Nat} {a t c : Nat} (ha : ag_V1 w a) (h : ag_Ls (ag_E1 w o) a t c) : c < 12 :=
  ag_bd (E := ag_E1 w o) (ag_V1 w) ha (fun _ _ _ h e => ag_V1E h e) (fun _ _ e => absurd e.2 (by decide)) (fun _ _ p _ e => absurd e.2 (by omega)) 12 (fun a => a) (fun _ h => h.1) (fun _ _ _ _ e => e) h
theorem ag_Rc1_0 {w : Nat → Bool} {o : Nat → Nat} {a b : Nat} : ag_Rc (ag_E1 w o) a b 0 ↔ b = a := by
  constructor
  · intro h
    obtain ⟨n, h⟩ := h
    cases n with
    | zero => exact h.1
    | succ n =>
      obtain ⟨s, c0, p, _, e, h3⟩ := h
      have := e.2
      omega
  · rintro rfl
    exact ag_Rc0 _ _
theorem ag_Rc1_s {w : Nat → Bool} {o : Nat → Nat} {a b n : Nat} : ag_Rc (ag_E1 w o) a b (n + 1) ↔ ∃ s, ag_Rc (ag_E1 w o) a s n ∧ ag_go w o s b = true := by
  constructor
  · intro h
    obtain ⟨m, h⟩ := h
    cases m with
    | zero => have := h.2; omega
    | succ m =>
      obtain ⟨s, c0, p, h1, e, h3⟩ := h
      have := e.2
      have : c0 = n := by omega
      subst this
      exact ⟨s, ⟨m, h1⟩, e.1⟩
  · rintro ⟨s, h, e⟩
    exact ag_RcS h ⟨e, rfl⟩
theorem ag_alone (c : Nat) : ((((nI c * 15 + 12) + 1) * 15 + 12) + 2) = nI (ag_ex (ag_f1 c)) := by
  have : ag_ex (ag_f1 c) = ((c * 15 + 12) + 1) * 15 + 12 + 2 := by
    show (c * 15 + 13) * 15 + 14 = _
    omega
  rw [this, ← nI_add, ← nI_add, ← pk_mul, ← nI_add, ← nI_add, ← pk_mul]
  rfl
theorem ag_aloneX {post : Int32 → Prop} {u : SX} {c : Nat} (p : post (nI (ag_ex (ag_f1 c)))) : wpX_aloneOn post u (nI c) := by
  obtain ⟨g, nc, wl, wo, pl, gl, cg, co, ns, nt⟩ := u
  unfold wpX_aloneOn
  dsimp only
  rw [ag_alone]
  exact p
/-- the reference's rounds: a set of cells as bits -/
def ag_Sb (w : Nat → Bool) (o : Nat → Nat) (a n m : Nat) : Prop := m < 2 ^ 31 ∧ ∀ b, m.testBit b = true ↔ ag_Rc (ag_E1 w o) a b n
theorem ag_d72 {post : Int32 → SY → Prop} {J47 : Int32 → Int32 → Prop} {w : Nat → Bool} {o : Nat → Nat} {a n m : Nat} {x2 : Int32} (ha : ag_V1 w a) (hst : ag_St w o st) (hm : ag_Sb w o a n m) (p : ∀ m', ag_Sb w o a (n + 1) m' → J47 (nI m') (nI (n + 1))) : ∃ n72, wY_distance_72 post J47 x2 (nI m) (nI n) sz iw wo is py gy wk st cs gd n72 (nI m) 0 := by
  have hV : ∀ b, m.testBit b = true → ag_V1 w b := fun b hb => ag_RcV (ag_V1 w) ha (fun _ _ _ h e => ag_V1E h e) ((hm.2 b).mp hb)
  refine loop_0 (fun q i x => wY_distance_72 post J47 x2 (nI m) (nI n) sz iw wo is py gy wk st cs gd q x (nI i)) (fun i x => ∃ m', x = nI m' ∧ m' < 2 ^ 31 ∧ ∀ b, m'.testBit b = true ↔ (m.testBit b = true ∨ ∃ k, k < i ∧ m.testBit (k / 5) = true ∧ ag_tg w o (k / 5) (k % 5) = b ∧ b < 12)) 60 (nI m) ⟨m, rfl, hm.1, fun b => ⟨fun h => Or.inl h, fun h => ?_⟩⟩ ?_ ?_
  · rcases h with h | ⟨k, h, _⟩
    · exact h
    · omega
  · rintro q x ⟨m', rfl, h1, h2⟩
    refine br_t (nI_le (b := 60) (Nat.le_refl _) (by decide)) (nm_r (nI_1 n) (p m' ⟨h1, fun b => ?_⟩))
    rw [h2 b, ag_Rc1_s]
    constructor
    · rintro (h | ⟨k, hk, e1, e2, e3⟩)
      · exact ⟨b, (hm.2 b).mp h, (ag_Gd_go w o).1 b⟩
      · refine ⟨k / 5, (hm.2 _).mp e1, ?_⟩
        have := ag_tg_go (w := w) (o := o) (c := k / 5) (d := k % 5) (by omega) (by omega) (by omega)
        rw [e2] at this
        exact this
    · rintro ⟨s, hs, e⟩
      have hs' := (hm.2 s).mpr hs
      have vs := hV s hs'
      obtain ⟨d, hd, e1, e2⟩ := ag_go_tg vs.1 vs.2 e
      have := vs.1
      refine Or.inr ⟨5 * s + d, by omega, ?_, ?_, e2⟩
      · rw [show (5 * s + d) / 5 = s by omega]; exact hs'
      · rw [show (5 * s + d) / 5 = s by omega, show (5 * s + d) % 5 = d by omega]; exact e1
  · rintro q i x hi ⟨m', rfl, h1, h2⟩ ih
    refine br_f (nI_ge (b := 60) hi (by decide)) ⟨by decide, ?_⟩
    rw [show (5 : Int32) = nI 5 from rfl, pk_div (by omega) (by omega) (by omega)]
    have k1 := ag_tb (m := m) (k := i / 5) hm.1 (by omega)
    have skip : ¬ (m.testBit (i / 5) = true ∧ ag_tg w o (i / 5) (i % 5) < 12) → wY_distance_72 post J47 x2 (nI m) (nI n) sz iw wo is py gy wk st cs gd q (nI m') (nI (i + 1)) := fun hn => by
      refine ih _ ⟨m', rfl, h1, fun b => ?_⟩
      rw [h2 b]
      constructor
      · rintro (h | ⟨k, hk, e1, e2, e3⟩)
        · exact Or.inl h
        · exact Or.inr ⟨k, by omega, e1, e2, e3⟩
      · rintro (h | ⟨k, hk, e1, e2, e3⟩)
        · exact Or.inl h
        · by_cases y : k = i
          · rw [y] at e1 e2
            exact absurd ⟨e1, by omega⟩ hn
          · exact Or.inr ⟨k, by omega, e1, e2, e3⟩
    refine br_c (fun q1 => ?_) (fun q1 => ?_)
    · rw [k1] at q1
      refine ⟨vp_in_nI hi (by omega), ?_⟩
      rw [nI_clamp (n := i) (by omega), hst i hi]
      have hle := ag_tg_le (w := w) (o := o) (c := i / 5) (d := i % 5) (by omega)
      refine br_c (fun q2 => ?_) (fun q2 => ?_)
      · rw [ag_iI0 hle] at q2
        exact nm_r (nI_1 i) (skip (fun z => by omega))
      · rw [ag_iI0 hle] at q2
        rw [ag_iIn q2]
        refine ⟨vp_in_nI hi (by omega), nm_r (e' := nI (m' ||| 2 ^ ag_tg w o (i / 5) (i % 5))) (by rw [ag_one (by omega), ag_or]) (nm_r (nI_1 i) (ih _ ⟨_, rfl, ag_or_lt h1 (ag_pw (by omega)), fun b => ?_⟩))⟩
        rw [Nat.testBit_or, Nat.testBit_two_pow, Bool.or_eq_true, h2 b, decide_eq_true_eq]
        constructor
        · rintro ((h | ⟨k, hk, e1, e2, e3⟩) | e)
          · exact Or.inl h
          · exact Or.inr ⟨k, by omega, e1, e2, e3⟩
          · exact Or.inr ⟨i, by omega, q1, e, by omega⟩
        · rintro (h | ⟨k, hk, e1, e2, e3⟩)
          · exact Or.inl (Or.inl h)
          · by_cases y : k = i
            · rw [y] at e2
              exact Or.inr e2
            · exact Or.inl (Or.inr ⟨k, by omega, e1, e2, e3⟩)
    · rw [k1] at q1
      exact nm_r (nI_1 i) (skip (fun z => q1 z.1))
theorem i_vc_distance {k : Nat} {u : SX} {v : SY} (I : i_Rel k u v) (hk : k + 4 ≤ 2048) (v1 : Int32) (v2 : Int32) : wpX_distance (fun r u' => wpY_distance (fun r' v' => r' = r ∧ i_Rel (k + 4) u' v') v v1 v2) u v1 v2 := by
  obtain ⟨w, o, z, P, G, g, nc, pl, gl, cg, co, ns, nt, sz, is, py, gy, wk, st, cs, gd, rfl, rfl, ho, hW⟩ := I
  unfold wpX_distance
  dsimp only
  by_cases h1 : ∃ c, c < 12 ∧ v1 = nI c
  · obtain ⟨a, ha, rfl⟩ := h1
    refine ag_cx1 ha (br_f (by decide) ?_)
    by_cases h2 : ∃ c, c < 12 ∧ v2 = nI c
    · obtain ⟨b, hb, rfl⟩ := h2
      refine ag_cx1 hb (br_f (by decide) ⟨vp_in_nI ha (by omega), ?_⟩)
      rw [nI_clamp (n := a) (by omega), nI_clamp (n := b) (by omega)]
      refine br_c (fun q1 => ⟨vp_in_nI hb (by omega), br_c (fun q2 => ?_) (fun q2 => ?_)⟩) (fun q1 => ?_)
      · have q1' := ag_bi0.mp q1
        have q2' := ag_bi0.mp q2
        have va : ag_V1 w a := ⟨ha, q1'⟩
        have vb : ag_V1 w b := ⟨hb, q2'⟩
        refine ag_drawX (S := fun _ => false) ho ag_sh_m1 (fun cg' hc => ?_)
        rw [ag_or_f] at hc
        dsimp only
        refine ag_aloneX ?_
        refine ag_fromX (f := false) (T := 1) (ag_Gd_go w o) hc (ag_f1V va) (fun g' nc' co' ns' nt' D r h => ?_)
        dsimp only
        refine ag_aloneX ?_
        refine ag_ansX r (ag_exV (ag_f1V vb)).1 ?_
        have hD := ag_Ds1 va vb (ag_DX (ag_Gd_go w o) (ag_f1V va) h (ag_f1V vb))
        generalize D (ag_ex (ag_f1 b)) = d at hD ⊢
        unfold wpY_distance
        dsimp only
        refine ag_cy1 ha (br_f (by decide) (ag_cy1 hb (br_f (by decide) ⟨vp_in_nI ha (by omega), ?_⟩)))
        rw [nI_clamp (n := a) (by omega), nI_clamp (n := b) (by omega)]
        refine br_t q1 ⟨vp_in_nI hb (by omega), br_t q2 (ag_findY ho (fun st' hst => ?_))⟩
        dsimp only
        refine nm_r (ag_one (by omega)) ?_
        refine loop_0 (fun n i x => wY_distance_47 _ (nI b) sz (ag_bi w) (ag_nf o) is py gy wk st' cs gd n x (nI i)) (fun i x => ∃ m, x = nI m ∧ ag_Sb w o a i m ∧ ∀ c, c < i → ¬ ag_Rc (ag_E1 w o) a b c) 12 (nI (2 ^ a)) ⟨_, rfl, ⟨ag_pw (by omega), fun b => ?_⟩, fun c hc => absurd hc (by omega)⟩ ?_ ?_
        · rw [Nat.testBit_two_pow, decide_eq_true_eq, ag_Rc1_0]
          exact ⟨fun e => e.symm, fun e => e.symm⟩
        · rintro n x ⟨m, rfl, m1, m2⟩
          refine br_t (nI_le (b := 12) (Nat.le_refl _) (by decide)) ⟨?_, ag_rel ho hW⟩
          rcases hD with ⟨d1, d2⟩ | ⟨d1, _⟩
          · exact absurd d2.1 (m2 d (ag_E1bd va d2))
          · rw [d1]; rfl
        · rintro n i x hi ⟨m, rfl, m1, m2⟩ ih
          refine br_f (nI_ge (b := 12) hi (by decide)) ?_
          have k1 := ag_tb (m := m) (k := b) m1.1 (by omega)
          refine br_c (fun q => ?_) (fun q => ?_)
          · rw [k1, m1.2 b] at q
            refine ⟨?_, ag_rel ho hW⟩
            rcases hD with ⟨d1, d2⟩ | ⟨_, d2⟩
            · have e1 := d2.2 i q
              have e2 : ¬ d < i := fun z => m2 d z d2.1
              have : d = i := by omega
              rw [this]
              unfold ag_ans
              rw [if_neg (by omega)]
            · exact absurd q (d2 i)
          · rw [k1, m1.2 b] at q
            refine ag_d72 va hst m1 (fun m' hm' => ih _ ⟨m', rfl, hm', fun c hc => ?_⟩)
            by_cases y : c = i
            · rw [y]; exact q
            · exact m2 c (by omega)
      · unfold wpY_distance
        dsimp only
        refine ag_cy1 ha (br_f (by decide) (ag_cy1 hb (br_f (by decide) ⟨vp_in_nI ha (by omega), ?_⟩)))
        rw [nI_clamp (n := a) (by omega), nI_clamp (n := b) (by omega)]
        exact br_t q1 ⟨vp_in_nI hb (by omega), br_f q2 ⟨rfl, ag_rel ho hW⟩⟩
      · unfold wpY_distance
        dsimp only
        refine ag_cy1 ha (br_f (by decide) (ag_cy1 hb (br_f (by decide) ⟨vp_in_nI ha (by omega), ?_⟩)))
        rw [nI_clamp (n := a) (by omega)]
        exact br_f q1 ⟨rfl, ag_rel ho hW⟩
    · have h' : ∀ c, c < 12 → v2 ≠ nI c := fun c hc e => h2 ⟨c, hc, e⟩
      refine ag_cx0 h' (br_t rfl ?_)
      unfold wpY_distance
      dsimp only
      exact ag_cy1 ha (br_f (by decide) (ag_cy0 h' (br_t rfl ⟨rfl, ag_rel ho hW⟩)))
  · have h' : ∀ c, c < 12 → v1 ≠ nI c := fun c hc e => h1 ⟨c, hc, e⟩
    refine ag_cx0 h' (br_t rfl ?_)
    unfold wpY_distance
    dsimp only
    exact ag_cy0 h' (br_t rfl ⟨rfl, ag_rel ho hW⟩)
end
section
/-! needed -/
variable {g nc : Int32} {wl wo pl gl cg co ns nt : Nat → Int32} {sz : Int32} {iw is py gy wk st cs gd : Nat → Int32}
def ag_Us (P G : Nat → Nat) (T c : Nat) : Prop := ∃ i, i < 3 ∧ T.testBit i = true ∧ (P i = c ∨ G i = c)
theorem ag_usX {post : Int32 → Prop} {P G : Nat → Nat} {T c : Nat} (hT : T ≤ 7) (hc : c < 12) (b1 : ∀ i, i < 3 → P i < 12) (b2 : ∀ i, i < 3 → G i < 12) (hp : ∀ i, i < 3 → T.testBit i = true → pl i = nI (P i)) (hg : ∀ i, i < 3 → T.testBit i = true → gl i = nI (G i)) (p1 : ag_Us P G T c → post 1) (p0 : ¬ ag_Us P G T c → post 0) : wpX_isPlaceOrGoal post (g, nc, wl, wo, pl, gl, cg, co, ns, nt) (nI T) (nI c) := by
  unfold wpX_isPlaceOrGoal
  dsimp only
  refine loop_0 (fun n i (_ : Unit) => wX_isPlaceOrGoal_2 post (nI T) (nI c) g nc wl wo pl gl cg co ns nt n (nI i)) (fun i _ => ∀ j, j < i → T.testBit j = true → ¬ (P j = c ∨ G j = c)) 3 () (fun j h => absurd h (by omega)) ?_ ?_
  · intro n _ h
    exact br_t (nI_le (b := 3) (Nat.le_refl _) (by decide)) (p0 (fun ⟨i, hi, hb, e⟩ => h i hi hb e))
  · intro n i _ hi h ih
    have d1 := b1 i hi
    have d2 := b2 i hi
    refine br_f (nI_ge (b := 3) hi (by decide)) (ag_inX (by omega) hi (fun hb => ?_) (fun hb => ?_))
    · refine br_f (by decide) ⟨vp_in_nI hi (by omega), ?_⟩
      rw [nI_clamp (n := i) (by omega), hp i hi hb, hg i hi hb]
      refine pk_eq (P i) c (fun e => p1 ⟨i, hi, hb, Or.inl e⟩) (fun ne => ⟨vp_in_nI hi (by omega), ?_⟩)
      refine pk_eq (G i) c (fun e => p1 ⟨i, hi, hb, Or.inr e⟩) (fun ne2 => nm_r (nI_1 i) (ih () (fun j hj hbj => ?_)))
      by_cases y : j = i
      · subst y
        rintro (e | e)
        · exact ne e
        · exact ne2 e
      · exact h j (by omega) hbj
    · refine br_t rfl (nm_r (nI_1 i) (ih () (fun j hj hbj => h j ?_ hbj)))
      have : j ≠ i := fun y => by rw [y, hb] at hbj; exact absurd hbj (by decide)
      omega
theorem ag_usY {post : Int32 → Prop} {P G : Nat → Nat} {T c : Nat} (hT : T ≤ 7) (hc : c < 12) (b1 : ∀ i, i < 3 → P i < 12) (b2 : ∀ i, i < 3 → G i < 12) (hp : ∀ i, i < 3 → T.testBit i = true → py i = nI (P i)) (hg : ∀ i, i < 3 → T.testBit i = true → gy i = nI (G i)) (p1 : ag_Us P G T c → post 1) (p0 : ¬ ag_Us P G T c → post 0) : wpY_isUsed post (sz, iw, wo, is, py, gy, wk, st, cs, gd) (nI T) (nI c) := by
  unfold wpY_isUsed
  dsimp only
  refine loop_0 (fun n i s => wY_isUsed_5 post (nI T) (nI c) sz iw wo is py gy wk st cs gd n s (nI i)) (fun i s => (s = 1 ∧ ag_Us P G T c) ∨ (s = 0 ∧ ∀ j, j < i → T.testBit j = true → ¬ (P j = c ∨ G j = c))) 3 0 (Or.inr ⟨rfl, fun j h => absurd h (by omega)⟩) ?_ ?_
  · rintro n s (⟨rfl, h⟩ | ⟨rfl, h⟩)
    · exact br_t (nI_le (b := 3) (Nat.le_refl _) (by decide)) ⟨rfl, p1 h⟩
    · exact br_t (nI_le (b := 3) (Nat.le_refl _) (by decide)) ⟨rfl, p0 (fun ⟨i, hi, hb, e⟩ => h i hi hb e)⟩
  · rintro n i s hi (⟨rfl, h⟩ | ⟨rfl, h⟩) ih
    · exact br_f (nI_ge (b := 3) hi (by decide)) (br_f (by decide) (nm_r (nI_1 i) (ih 1 (Or.inl ⟨rfl, h⟩))))
    · have d1 := b1 i hi
      have d2 := b2 i hi
      refine br_f (nI_ge (b := 3) hi (by decide)) (br_t rfl (ag_inY (by omega) hi (fun hb => ?_) (fun hb => ?_)))
      · refine br_f (by decide) ⟨vp_in_nI hi (by omega), ?_⟩
        rw [nI_clamp (n := i) (by omega), hp i hi hb, hg i hi hb]
        refine pk_eq (P i) c (fun e => nm_r (nI_1 i) (ih 1 (Or.inl ⟨rfl, i, hi, hb, Or.inl e⟩))) (fun ne => ⟨vp_in_nI hi (by omega), ?_⟩)
        refine pk_eq (G i) c (fun e => nm_r (nI_1 i) (ih 1 (Or.inl ⟨rfl, i, hi, hb, Or.inr e⟩))) (fun ne2 => nm_r (nI_1 i) (ih 0 (Or.inr ⟨rfl, fun j hj hbj => ?_⟩)))
        by_cases y : j = i
        · subst y
          rintro (e | e)
          · exact ne e
          · exact ne2 e
        · exact h j (by omega) hbj
      · refine br_t rfl (nm_r (nI_1 i) (ih 0 (Or.inr ⟨rfl, fun j hj hbj => h j ?_ hbj⟩)))
        have : j ≠ i := fun y => by rw [y, hb] at hbj; exact absurd hbj (by decide)
        omega
theorem ag_bu_or (w : Nat → Bool) (c : Nat) : (fun x => w x || decide (x = c)) = ag_bu w c true := by
  funext x
  unfold ag_bu
  by_cases e : x = c
  · rw [if_pos e, decide_eq_true e, Bool.or_true]
  · rw [if_neg e, decide_eq_false e, Bool.or_false]
theorem ag_bu_bu {w : Nat → Bool} {c : Nat} (h : w c = false) : ag_bu (ag_bu w c true) c false = w := by
  funext x
  unfold ag_bu
  by_cases e : x = c
  · rw [if_pos e, e, h]
  · rw [if_neg e, if_neg e]
theorem ag_Rd_bu {w z : Nat → Bool} {P G : Nat → Nat} {T c : Nat} (h : ag_Rd w z P G T) (hu : ¬ ag_Us P G T c) : ag_Rd (ag_bu w c true) z P G T := by
  refine ⟨h.1, fun i hi hb => ?_, h.2.2⟩
  obtain ⟨h1, h2, h3⟩ := h.2.1 i hi hb
  refine ⟨h1, ?_, ?_⟩
  · unfold ag_bu
    rw [if_neg (fun e => hu ⟨i, hi, hb, Or.inl e⟩)]
    exact h2
  · unfold ag_bu
    rw [if_neg (fun e => hu ⟨i, hi, hb, Or.inr e⟩)]
    exact h3
theorem ag_bu_mono {w : Nat → Bool} {c : Nat} : ∀ x, ag_bu w c true x = false → w x = false := by
  intro x h
  unfold ag_bu at h
  by_cases e : x = c
  · rw [if_pos e] at h; exact absurd h (by decide)
  · rw [if_neg e] at h; exact h
/-- the cell counts -/
def ag_Nd (w : Nat → Bool) (o P G : Nat → Nat) (T d : Nat) (c : Nat) : Prop := w c = false ∧ ¬ ag_Us P G T c ∧ ¬ ag_Ls (ag_E (ag_go (ag_bu w c true) o) false) (ag_tr T P) (ag_tr T G) d
noncomputable def ag_nd (w : Nat → Bool) (o P G : Nat → Nat) (T d : Nat) (c : Nat) : Bool := @decide (ag_Nd w o P G T d c) (Classical.propDecidable _)
theorem ag_nd_iff {w : Nat → Bool} {o P G : Nat → Nat} {T d c : Nat} : ag_nd w o P G T d c = true ↔ ag_Nd w o P G T d c := by
  unfold ag_nd
  exact @decide_eq_true_iff _ (Classical.propDecidable _)
theorem ag_nd_d {w : Nat → Bool} {o P G : Nat → Nat} {T d d' c : Nat} (h : ag_Ls (ag_E (ag_go w o) false) (ag_tr T P) (ag_tr T G) d) (hd : d < 10126) (h' : ag_Ds (ag_E (ag_go (ag_bu w c true) o) false) (ag_tr T P) (ag_tr T G) d') : d ≤ d' ∧ (d' = d ↔ ag_Ls (ag_E (ag_go (ag_bu w c true) o) false) (ag_tr T P) (ag_tr T G) d) := by
  rcases h' with ⟨k1, k2⟩ | ⟨k1, k2⟩
  · refine ⟨h.2 _ (ag_RcM (fun _ _ _ e => ag_E_mono ag_bu_mono e) k2.1), fun e => by rw [← e]; exact k2, fun e => ag_LsU k2 e⟩
  · exact ⟨by omega, fun e => absurd e (by omega), fun e => absurd e.1 (k2 _)⟩
theorem i_vc_needed {k : Nat} {u : SX} {v : SY} (I : i_Rel k u v) (hk : k + 4 ≤ 2048) (v1 : Int32) : wpX_needed (fun r u' => wpY_needed (fun r' v' => r' = r ∧ i_Rel (k + 4) u' v') v v1) u v1 := by
  obtain ⟨w, o, z, P, G, g, nc, pl, gl, cg, co, ns, nt, sz, is, py, gy, wk, st, cs, gd, rfl, rfl, ho, hW⟩ := I
  unfold wpX_needed
  dsimp only
  refine ag_rdX hW (fun T eT hR => ?_) (fun hN => ?_)
  · subst eT
    obtain ⟨hT1, hT7⟩ := hR.1
    obtain ⟨p1, p2, p3, p4, hV, hE⟩ := ag_rdp hW hR
    have b1 : ∀ i, i < 3 → P i < 12 := fun i hi => (hW i hi).2.1
    have b2 : ∀ i, i < 3 → G i < 12 := fun i hi => (hW i hi).2.2.1
    have he := (ag_exV hE).1
    refine br_f (by decide) (ag_of_goals hT7 p2 (ag_sfpX0 (f := false) ho hT7 p1 hV (fun g' nc' cg' co' ns' nt' D r h => ?_)))
    dsimp only
    refine ⟨vp_in_nI he (by omega), nm_r (e' := nI (D (ag_ex (ag_tr T G)))) (by rw [nI_clamp (by omega), (r _ he).1]) ?_⟩
    have hDs := ag_DX (ag_Gd_go w o) hV h hE
    have hDle := (r _ he).2
    generalize hd : D (ag_ex (ag_tr T G)) = d at hDs hDle ⊢
    refine pk_eq d 10126 (fun e => ?_) (fun ne => ?_)
    · unfold wpY_needed
      dsimp only
      refine ag_rdY hW (fun _ _ _ => ?_) (fun hN => absurd hR (hN T rfl))
      refine br_f (by decide) (ag_ltY ho hT1 hT7 p3 p4 hV hE (fun wk' st' cs' D' hw hs r' h' => ?_))
      dsimp only
      rw [ag_DD hT1 hT7 hV h h' hE, hd, e]
      exact br_f (by decide) ⟨rfl, ag_rel ho hW⟩
    · have hL : ag_Ls (ag_E (ag_go w o) false) (ag_tr T P) (ag_tr T G) d := by
        rcases hDs with ⟨_, q⟩ | ⟨q, _⟩
        · exact q
        · exact absurd q ne
      have hd2 : d < 10126 := by omega
      refine loop_0 (fun n i (s : Int32 × Int32 × Int32 × (Nat → Int32) × (Nat → Int32) × (Nat → Int32) × (Nat → Int32)) => wX_needed_50 _ (nI T) (nI (ag_ex (ag_tr T G))) (nI d) n s.1 (nI i) s.2.1 s.2.2.1 (ag_bi w) (ag_nf o) pl gl s.2.2.2.1 s.2.2.2.2.1 s.2.2.2.2.2.1 s.2.2.2.2.2.2) (fun i s => s.1 = nI (ag_cn (ag_nd w o P G T d) i)) 12 (nI 0, g', nc', cg', co', ns', nt') rfl ?_ ?_
      · rintro n ⟨s1, s2, s3, s4, s5, s6, s7⟩ e
        dsimp only at e ⊢
        subst e
        refine br_t (nI_le (b := 12) (Nat.le_refl _) (by decide)) ?_
        unfold wpY_needed
        dsimp only
        refine ag_rdY hW (fun _ _ _ => ?_) (fun hN => absurd hR (hN T rfl))
        refine br_f (by decide) (ag_ltY ho hT1 hT7 p3 p4 hV hE (fun wk' st' cs' D' hw hs r' h' => ?_))
        dsimp only
        rw [ag_DD hT1 hT7 hV h h' hE, hd, show ag_ans d = nI d from if_neg ne]
        refine br_t (nI_pos' (by omega)) ?_
        refine loop_0 (fun n i (s : Int32 × Int32 × (Nat → Int32) × (Nat → Int32) × (Nat → Int32)) => wY_needed_28 _ (nI T) (nI d) n s.1 (nI i) s.2.1 (ag_bi w) (ag_nf o) is py gy s.2.2.1 s.2.2.2.1 s.2.2.2.2 gd) (fun i s => s.1 = nI (ag_cn (ag_nd w o P G T d) i)) 12 (nI 0, nI (ag_sz T), wk', st', cs') rfl ?_ ?_
        · rintro n ⟨t1, t2, t3, t4, t5⟩ e
          dsimp only at e ⊢
          subst e
          exact br_t (nI_le (b := 12) (Nat.le_refl _) (by decide)) ⟨rfl, ag_rel ho hW⟩
        · rintro n i ⟨t1, t2, t3, t4, t5⟩ hi e ih
          dsimp only at e ⊢
          subst e
          refine br_f (nI_ge (b := 12) hi (by decide)) ⟨vp_in_nI hi (by omega), ?_⟩
          rw [nI_clamp (n := i) (by omega)]
          refine br_c (fun q1 => ?_) (fun q1 => ?_)
          · rw [ag_bi0] at q1
            refine ag_usY hT7 hi b1 b2 p3 p4 (fun q2 => ?_) (fun q2 => ?_)
            · refine br_f (by decide) (nm_r (nI_1 i) (ih (nI (ag_cn (ag_nd w o P G T d) i), t2, t3, t4, t5) ?_))
              rw [ag_cn_f (fun q => (ag_nd_iff.mp q).2.1 q2)]
            · refine br_t rfl ⟨vp_in_nI hi (by omega), nm_r (e' := ag_bi (ag_bu w i true)) (by rw [ag_nb1]; exact ag_bi_u (b := true)) ?_⟩
              have hR' := ag_Rd_bu hR q2
              obtain ⟨_, _, _, _, hV', hE'⟩ := ag_rdp hW hR'
              refine ag_ltY ho hT1 hT7 p3 p4 hV' hE' (fun wk'' st'' cs'' D'' _ _ r'' h'' => ?_)
              dsimp only
              have hDs' := ag_DY hT1 hT7 hV' h'' hE'
              have hle := (r'' _ (ag_eyV T hT1 hT7 _ hE')).2
              obtain ⟨k1, k2⟩ := ag_nd_d hL hd2 hDs'
              generalize D'' (ag_ey T (ag_tr T G)) = d' at hDs' hle k1 k2 ⊢
              have fin : ∀ c : Nat, c = ag_cn (ag_nd w o P G T d) (i + 1) → wY_needed_83 (fun r' v' => r' = nI (ag_cn (ag_nd w o P G T d) 12) ∧ i_Rel (k + 4) (s2, s3, ag_bi w, ag_nf o, pl, gl, s4, s5, s6, s7) v') (wY_needed_28 (fun r' v' => r' = nI (ag_cn (ag_nd w o P G T d) 12) ∧ i_Rel (k + 4) (s2, s3, ag_bi w, ag_nf o, pl, gl, s4, s5, s6, s7) v') (nI T) (nI d) n) (nI T) (nI d) (nI i) (nI c) (nI (ag_sz T)) (ag_bi (ag_bu w i true)) (ag_nf o) is py gy wk'' st'' cs'' gd := by
                intro c ec
                unfold wY_needed_83
                refine ⟨vp_in_nI hi (by omega), nm_r (e' := ag_bi w) ?_ (nm_r (nI_1 i) (ih (nI c, nI (ag_sz T), wk'', st'', cs'') (by rw [ec])))⟩
                rw [nI_clamp (by omega), ag_nb0]
                have := ag_bi_u (w := ag_bu w i true) (c := i) (b := false)
                rw [ag_bu_bu q1] at this
                exact this
              by_cases y : d' = d
              · refine br_t (by rw [y]; exact if_neg ne) (fin _ ?_)
                rw [ag_cn_f (fun q => (ag_nd_iff.mp q).2.2 (k2.mp y))]
              · refine br_f (fun q => y ?_) ?_
                · unfold ag_ans at q
                  by_cases e : d' = 10126
                  · rw [if_pos e] at q
                    exact absurd (show nI d < 0 by rw [← q]; decide) (nI_pos (by omega))
                  · rw [if_neg e, nI_eq (by omega) (by omega)] at q
                    exact q
                · rw [nI_1]
                  refine fin _ ?_
                  rw [ag_cn_t (ag_nd_iff.mpr ⟨q1, q2, fun q => y (k2.mpr q)⟩)]
          · rw [ag_bi0] at q1
            refine nm_r (nI_1 i) (ih (nI (ag_cn (ag_nd w o P G T d) i), t2, t3, t4, t5) ?_)
            rw [ag_cn_f (fun q => q1 (ag_nd_iff.mp q).1)]
      · rintro n i ⟨s1, s2, s3, s4, s5, s6, s7⟩ hi e ih
        dsimp only at e ⊢
        subst e
        refine br_f (nI_ge (b := 12) hi (by decide)) ⟨vp_in_nI hi (by omega), ?_⟩
        rw [nI_clamp (n := i) (by omega)]
        refine br_c (fun q1 => ?_) (fun q1 => ?_)
        · rw [ag_bi0] at q1
          refine ag_usX hT7 hi b1 b2 p1 p2 (fun q2 => ?_) (fun q2 => ?_)
          · refine br_f (by decide) (nm_r (nI_1 i) (ih (nI (ag_cn (ag_nd w o P G T d) i), s2, s3, s4, s5, s6, s7) ?_))
            rw [ag_cn_f (fun q => (ag_nd_iff.mp q).2.1 q2)]
          · have hR' := ag_Rd_bu hR q2
            obtain ⟨_, _, _, _, hV', hE'⟩ := ag_rdp hW hR'
            refine br_t rfl (ag_sfpX (f := false) (S := fun x => decide (x = i)) ho (fun c hc => ?_) hT7 p1 (by rw [ag_bu_or]; exact hV') (fun g'' nc'' cg'' co'' ns'' nt'' D'' r'' h'' => ?_))
            · rw [nI_eq (by omega) (by omega), decide_eq_true_eq]
            · rw [ag_bu_or] at h''
              dsimp only
              have hDs' := ag_DX (ag_Gd_go _ o) hV' h'' hE'
              obtain ⟨k1, k2⟩ := ag_nd_d hL hd2 hDs'
              have hle := (r'' _ he).2
              refine ⟨vp_in_nI he (by omega), ?_⟩
              rw [nI_clamp (n := ag_ex (ag_tr T G)) (by omega), (r'' _ he).1]
              generalize D'' (ag_ex (ag_tr T G)) = d' at hDs' hle k1 k2 ⊢
              refine pk_le d' d (fun y => ?_) (fun y => ?_)
              · refine nm_r (nI_1 i) (ih (nI (ag_cn (ag_nd w o P G T d) i), g'', nc'', cg'', co'', ns'', nt'') ?_)
                rw [ag_cn_f (fun q => (ag_nd_iff.mp q).2.2 (k2.mp (by omega)))]
              · refine nm_r (nI_1 _) (nm_r (nI_1 i) (ih (nI (ag_cn (ag_nd w o P G T d) i + 1), g'', nc'', cg'', co'', ns'', nt'') ?_))
                rw [ag_cn_t (ag_nd_iff.mpr ⟨q1, q2, fun q => by have := k2.mpr q; omega⟩)]
        · rw [ag_bi0] at q1
          refine nm_r (nI_1 i) (ih (nI (ag_cn (ag_nd w o P G T d) i), s2, s3, s4, s5, s6, s7) ?_)
          rw [ag_cn_f (fun q => q1 (ag_nd_iff.mp q).1)]
  · refine br_t rfl ?_
    unfold wpY_needed
    dsimp only
    exact ag_rdY hW (fun T e hR => absurd hR (hN T e)) (fun _ => br_t rfl ⟨rfl, ag_rel ho hW⟩)
end
section
/-! the first plan on both sides -/
variable {g nc : Int32} {wl wo pl gl cg co ns nt : Nat → Int32} {sz : Int32} {iw is py gy wk st cs gd : Nat → Int32}
theorem ag_E_1 {go : Nat → Nat → Bool} {q q' : Nat × Nat × Nat} {p : Nat} (h : ag_E go false q q' p) : p = 1 := h.2.2.2.2.2.2
/-- a next state on a shortest way -/
theorem ag_nx {go : Nat → Nat → Bool} {q e : Nat × Nat × Nat} {m : Nat} (h : ag_Ls (ag_E go false) q e (m + 1)) : ∃ b, ag_Cd (ag_E go false) e m q b := by
  rcases ag_RcF h.1 with ⟨_, z⟩ | ⟨b, p, c', e1, r, z⟩
  · omega
  · have hp := ag_E_1 e1
    subst hp
    have : c' = m := by omega
    subst this
    refine ⟨b, e1, r, fun c hc => ?_⟩
    have := h.2 _ (ag_RcC e1 hc)
    omega
theorem ag_nearX {post : Int32 → SX → Prop} {w : Nat → Bool} {go : Nat → Nat → Bool} (hg : ag_Gd w go) (hc : ag_Cg go cg) {T m : Nat} {e q : Nat × Nat × Nat} {D : Nat → Nat} (hr : ag_Rx co D) (hD : ∀ q d, ag_V w T q → d < 10126 → (D (ag_ex q) = d ↔ ag_Ls (ag_E go false) q e d)) (hq : ag_V w T q) (hm : ag_Ls (ag_E go false) q e (m + 1)) (hm2 : m + 1 < 10126)
    (p : ∀ q' nc' ns' nt', ag_Pk (ag_E go false) e m q q' → post (nI (ag_ex q')) (g, nc', wl, wo, pl, gl, cg, co, ns', nt')) : wpX_firstNearer post (g, nc, wl, wo, pl, gl, cg, co, ns, nt) (nI (ag_ex q)) := by
  have hs := (ag_exV hq).1
  have hDq := (hD q (m + 1) hq hm2).mpr hm
  unfold wpX_firstNearer
  dsimp only
  refine ag_turnsX hg hc hs (fun k ns nt hL => ?_)
  dsimp only
  unfold ag_Lt at hL
  rw [(ag_exV hq).2] at hL
  have hk : k ≤ 125 := by rw [hL.1]; exact ag_c125 hg _
  generalize hE : (fun t => ag_gb go q (ag_dx t)) = E at hL
  have hE' : ∀ t, E t = ag_gb go q (ag_dx t) := fun t => by rw [← hE]
  have cand : ∀ r, ag_Cd (ag_E go false) e m q r → ag_ex r < 3375 ∧ E (ag_ex r) = true ∧ D (ag_ex r) = m := fun r hr' => by
    have vr := ag_V_E hg hq hr'.1
    refine ⟨(ag_exV vr).1, ?_, (hD r m vr (by omega)).mpr hr'.2⟩
    rw [hE', (ag_exV vr).2]
    exact (ag_gb_E.mp hr'.1).1
  refine loop_0 (fun n i (_ : Unit) => wX_firstNearer_7 post (nI (ag_ex q)) g (nI k) wl wo pl gl cg co ns nt n (nI i)) (fun i _ => ∀ t, t < 3375 → E t = true → ag_cn E t < i → D t ≠ m) k () (fun t _ _ h => absurd h (by omega)) ?_ ?_
  · intro n _ h
    obtain ⟨b, hb⟩ := ag_nx hm
    obtain ⟨c1, c2, c3⟩ := cand b hb
    exact absurd c3 (h _ c1 c2 (by rw [hL.1]; exact ag_cn_lt E c1 c2))
  · intro n i _ hi h ih
    obtain ⟨t, ht, hEt, hct⟩ := ag_cn_sur E 3375 i (by rw [← hL.1]; exact hi)
    obtain ⟨l1, _⟩ := hL.2 t ht hEt
    rw [hct] at l1
    have hDt := (hr t ht).2
    refine br_f (nI_ge hi (by omega)) ⟨vp_in_nI (show i < 125 by omega) (by omega), ?_⟩
    rw [nI_clamp (n := i) (by omega), l1, nI_clamp (n := t) (by omega), nI_clamp (n := ag_ex q) (by omega), (hr t ht).1, (hr _ hs).1, hDq, nI_pred]
    refine ⟨vp_in_nI ht (by omega), vp_in_nI hs (by omega), ?_⟩
    refine pk_eq (D t) m (fun y => ⟨vp_in_nI (show i < 125 by omega) (by omega), ?_⟩) (fun y => ?_)
    · rw [hE'] at hEt
      have e1 : ag_E go false q (ag_dx t) 1 := ag_gb_E.mpr ⟨hEt, rfl⟩
      have v1 := ag_V_E hg hq e1
      have e2 : ag_Ls (ag_E go false) (ag_dx t) e m := (hD _ m v1 (by omega)).mp (by rw [ag_ex_dx]; exact y)
      have := p (ag_dx t) (nI k) ns nt ⟨⟨e1, e2⟩, fun r hr' => by
        obtain ⟨c1, c2, c3⟩ := cand r hr'
        rw [ag_ex_dx]
        by_cases z : t ≤ ag_ex r
        · exact z
        · have := ag_cn_lt E (show ag_ex r < t by omega) c2
          exact absurd c3 (h _ c1 c2 (by omega))⟩
      rw [ag_ex_dx] at this
      exact this
    · refine nm_r (nI_1 i) (ih () (fun t' ht' he' hc' => ?_))
      by_cases z : ag_cn E t' = i
      · have : t' = t := ag_cn_inj1 E he' hEt (by omega)
        rw [this]
        exact y
      · exact h t' ht' he' (by omega)
theorem ag_afterX {post : Int32 → SX → Prop} {w : Nat → Bool} {go : Nat → Nat → Bool} (hg : ag_Gd w go) (hc : ag_Cg go cg) {T L t : Nat} {a e : Nat × Nat × Nat} {D : Nat → Nat} (hr : ag_Rx co D) (hD : ∀ q d, ag_V w T q → d < 10126 → (D (ag_ex q) = d ↔ ag_Ls (ag_E go false) q e d)) (ha : ag_V w T a) (hL : ag_Ls (ag_E go false) a e L) (hL2 : L < 1728) (ht : t ≤ L)
    (p : ∀ q nc' ns' nt', ag_Wk (ag_E go false) a e L t q → post (nI (ag_ex q)) (g, nc', wl, wo, pl, gl, cg, co, ns', nt')) : wpX_stateAfter post (g, nc, wl, wo, pl, gl, cg, co, ns, nt) (nI (ag_ex a)) (nI t) := by
  unfold wpX_stateAfter
  dsimp only
  refine loop_0 (fun n i (s : Int32 × Int32 × (Nat → Int32) × (Nat → Int32)) => wX_stateAfter_5 post (nI t) n s.1 (nI i) g s.2.1 wl wo pl gl cg co s.2.2.1 s.2.2.2) (fun i s => ∃ q, s.1 = nI (ag_ex q) ∧ ag_Wk (ag_E go false) a e L i q) t (nI (ag_ex a), nc, ns, nt) ⟨a, rfl, rfl⟩ ?_ ?_
  · rintro n ⟨s1, s2, s3, s4⟩ ⟨q, e1, hw⟩
    dsimp only at e1 ⊢
    subst e1
    exact br_t (nI_le (Nat.le_refl t) (by omega)) (p q s2 s3 s4 hw)
  · rintro n i ⟨s1, s2, s3, s4⟩ hi ⟨q, e1, hw⟩ ih
    dsimp only at e1 ⊢
    subst e1
    have vq := ag_WkV hg ha i q hw
    obtain ⟨_, d2⟩ := ag_WkL hL i q (by omega) hw
    rw [show L - i = (L - i - 1) + 1 by omega] at d2
    refine br_f (nI_ge hi (by omega)) (ag_nearX hg hc hr hD vq d2 (by omega) (fun q' nc' ns' nt' hp => ?_))
    exact nm_r (nI_1 i) (ih (nI (ag_ex q'), nc', ns', nt') ⟨q', rfl, q, hw, hp⟩)
/-- what the reference looks for -/
def ag_Cn (w : Nat → Bool) (o : Nat → Nat) (T : Nat) (D : Nat → Nat) (gd : Nat → Int32) (j : Nat) (q q' : Nat × Nat × Nat) : Prop := ag_E (ag_go w o) false q q' 1 ∧ D (ag_ey T q') = j + 1 ∧ gd (ag_ey T q') ≠ 0
theorem ag_nextY {post : Int32 → Prop} {w : Nat → Bool} {o : Nat → Nat} {T j : Nat} {q : Nat × Nat × Nat} {D : Nat → Nat} (h1 : 1 ≤ T) (h7 : T ≤ 7) (hst : ag_St w o st) (hr : ag_Ry cs D) (hq : ag_V w T q) (hj : D (ag_ey T q) = j) (hj2 : j < 2000)
    (p0 : (∀ q', ¬ ag_Cn w o T D gd j q q') → post (-1)) (p1 : ∀ q', ag_Cn w o T D gd j q q' → (∀ r, ag_Cn w o T D gd j q r → ag_ey T q' ≤ ag_ey T r) → post (nI (ag_ey T q'))) : wpY_nextGood post (nI (ag_sz T), iw, wo, is, py, gy, wk, st, cs, gd) (nI (ag_ey T q)) := by
  obtain ⟨n1, n3⟩ := ag_sz3 T h1 h7
  have hs := ag_eyV T h1 h7 q hq
  have te := ag_TEall w o false T h1 h7 q
  have cf : ∀ q', ag_Cn w o T D gd j q q' → ∃ k, k < 125 ∧ ag_af w o (ag_sz T) (ag_ey T q) k = ag_ey T q' := fun q' hc => by
    obtain ⟨_, k, hk, e, _⟩ := (te _ 1 hq).mpr ⟨q', rfl, hc.1⟩
    exact ⟨k, hk, e⟩
  have cb : ∀ t k, k < 125 → ag_af w o (ag_sz T) (ag_ey T q) k = t → t < 1728 → gd t ≠ 0 → D t = j + 1 → ∃ q', t = ag_ey T q' ∧ ag_Cn w o T D gd j q q' := fun t k hk e ht h2 h3 => by
    obtain ⟨q', e', hE⟩ := (te t 1 hq).mp ⟨ht, k, hk, e, rfl⟩
    exact ⟨q', e', hE, by rw [← e']; exact h3, by rw [← e']; exact h2⟩
  unfold wpY_nextGood
  dsimp only
  refine loop_0 (fun n i x => wY_nextGood_4 post (nI (ag_ey T q)) (nI (ag_sz T)) iw wo is py gy wk st cs gd n x (nI i))
    (fun i x => (x = -1 ∧ ∀ k, k < i → ∀ r, ag_Cn w o T D gd j q r → ag_af w o (ag_sz T) (ag_ey T q) k ≠ ag_ey T r) ∨ ∃ q', x = nI (ag_ey T q') ∧ ag_Cn w o T D gd j q q' ∧ ∀ k, k < i → ∀ r, ag_Cn w o T D gd j q r → ag_af w o (ag_sz T) (ag_ey T q) k = ag_ey T r → ag_ey T q' ≤ ag_ey T r) 125 (-1) (Or.inl ⟨rfl, fun k h => absurd h (by omega)⟩) ?_ ?_
  · rintro n x (⟨rfl, h⟩ | ⟨q', rfl, hc, h⟩)
    · refine br_t (nI_le (b := 125) (Nat.le_refl _) (by decide)) (p0 (fun q' hc => ?_))
      obtain ⟨k, hk, e⟩ := cf q' hc
      exact h k hk q' hc e
    · refine br_t (nI_le (b := 125) (Nat.le_refl _) (by decide)) (p1 q' hc (fun r hr' => ?_))
      obtain ⟨k, hk, e⟩ := cf r hr'
      exact h k hk r hr' e
  · intro n i x hi hI ih
    refine br_f (nI_ge (b := 125) hi (by decide)) (ag_afterY n1 n3 hst hs hi ?_)
    have hle := ag_af_le (w := w) (o := o) (n := ag_sz T) (k := i) hs
    have keep : (∀ r, ag_Cn w o T D gd j q r → ag_af w o (ag_sz T) (ag_ey T q) i ≠ ag_ey T r) → wY_nextGood_4 post (nI (ag_ey T q)) (nI (ag_sz T)) iw wo is py gy wk st cs gd n x (nI (i + 1)) := fun hn => by
      refine ih x ?_
      rcases hI with ⟨e, h⟩ | ⟨q', e, hc, h⟩
      · refine Or.inl ⟨e, fun k hk r hr' => ?_⟩
        by_cases y : k = i
        · rw [y]; exact hn r hr'
        · exact h k (by omega) r hr'
      · refine Or.inr ⟨q', e, hc, fun k hk r hr' ee => ?_⟩
        by_cases y : k = i
        · rw [y] at ee; exact absurd ee (hn r hr')
        · exact h k (by omega) r hr' ee
    have k55 : ∀ y, (∀ r, ag_Cn w o T D gd j q r → ag_af w o (ag_sz T) (ag_ey T q) i ≠ ag_ey T r) → wY_nextGood_55 post (wY_nextGood_4 post (nI (ag_ey T q)) (nI (ag_sz T)) iw wo is py gy wk st cs gd n) (nI (ag_ey T q)) x (nI i) y (nI (ag_sz T)) iw wo is py gy wk st cs gd := fun y hn => by
      unfold wY_nextGood_55 wY_nextGood_56
      exact br_t rfl (nm_r (nI_1 i) (keep hn))
    have vr : ∀ r, ag_Cn w o T D gd j q r → ag_ey T r < 1728 := fun r hr' => ag_eyV T h1 h7 r (ag_V_E (ag_Gd_go w o) hq hr'.1)
    by_cases hb : ag_af w o (ag_sz T) (ag_ey T q) i = 1728
    · refine br_t (by rw [hb]; decide) (k55 _ (fun r hr' e => ?_))
      have := vr r hr'
      omega
    · have ht : ag_af w o (ag_sz T) (ag_ey T q) i < 1728 := by omega
      rw [show ag_iJ (ag_af w o (ag_sz T) (ag_ey T q) i) = nI (ag_af w o (ag_sz T) (ag_ey T q) i) from if_neg hb]
      refine br_f (nI_pos (by omega)) ⟨vp_in_nI ht (by omega), ?_⟩
      rw [nI_clamp (n := ag_af w o (ag_sz T) (ag_ey T q) i) (by omega), nI_clamp (n := ag_ey T q) (by omega), (hr _ ht).1, (hr _ hs).1, hj, ag_iUn (d := j) (by omega), nI_1]
      have hDt := (hr _ ht).2
      refine br_c (fun q1 => ?_) (fun q1 => ?_)
      · refine k55 _ (fun r hr' e => ?_)
        rw [e] at q1
        exact hr'.2.2 q1
      · refine ⟨vp_in_nI ht (by omega), vp_in_nI hs (by omega), ?_⟩
        refine br_c (fun q2 => ?_) (fun q2 => ?_)
        · have hd : D (ag_af w o (ag_sz T) (ag_ey T q) i) = j + 1 := by
            by_cases y : D (ag_af w o (ag_sz T) (ag_ey T q) i) = 10126
            · rw [y] at q2
              exact absurd (show nI (j + 1) < 0 by rw [← q2]; decide) (nI_pos (by omega))
            · rw [ag_iUn y, nI_eq (by omega) (by omega)] at q2
              exact q2
          obtain ⟨qi, ei, ci⟩ := cb _ i hi rfl ht q1 hd
          have vi := ag_V_E (ag_Gd_go w o) hq ci.1
          have take : (∀ k, k < i → ∀ r, ag_Cn w o T D gd j q r → ag_af w o (ag_sz T) (ag_ey T q) k = ag_ey T r → ag_ey T qi ≤ ag_ey T r) → wY_nextGood_4 post (nI (ag_ey T q)) (nI (ag_sz T)) iw wo is py gy wk st cs gd n (nI (ag_af w o (ag_sz T) (ag_ey T q) i)) (nI (i + 1)) := fun hn => by
            refine ih _ (Or.inr ⟨qi, by rw [ei], ci, fun k hk r hr' ee => ?_⟩)
            by_cases y : k = i
            · rw [y] at ee; omega
            · exact hn k (by omega) r hr' ee
          unfold wY_nextGood_56
          refine br_f (by decide) ?_
          rcases hI with ⟨e, h⟩ | ⟨q', e, hc, h⟩
          · subst e
            exact br_t (by decide) (nm_r (nI_1 i) (take (fun k hk r hr' ee => absurd ee (h k hk r hr'))))
          · subst e
            have vq' := vr q' hc
            refine br_f (nI_pos (by omega)) (pk_le (ag_ey T q') (ag_af w o (ag_sz T) (ag_ey T q) i) (fun y => ?_) (fun y => ?_))
            · refine nm_r (nI_1 i) (ih _ (Or.inr ⟨q', rfl, hc, fun k hk r hr' ee => ?_⟩))
              by_cases z : k = i
              · rw [z] at ee; omega
              · exact h k (by omega) r hr' ee
            · refine nm_r (nI_1 i) (take (fun k hk r hr' ee => ?_))
              have := h k hk r hr' ee
              omega
        · refine k55 _ (fun r hr' e => q2 ?_)
          rw [e, hr'.2.1, ag_iUn (by omega)]
/-- a state on a shortest way, from its level -/
theorem ag_lvl {go : Nat → Nat → Bool} {a e q : Nat × Nat × Nat} {L i : Nat} (hL : ag_Ls (ag_E go false) a e L) (hi : i < L) (hq : ag_Ls (ag_E go false) a q i) : ag_Rc (ag_E go false) q e (L - i) ↔ ∃ q', ag_E go false q q' 1 ∧ ag_Ls (ag_E go false) a q' (i + 1) ∧ ag_Rc (ag_E go false) q' e (L - (i + 1)) := by
  constructor
  · intro h
    rcases ag_RcF h with ⟨_, z⟩ | ⟨b, p, c', e1, r, z⟩
    · omega
    · have hp := ag_E_1 e1
      subst hp
      have : c' = L - (i + 1) := by omega
      subst this
      refine ⟨b, e1, ⟨ag_RcS hq.1 e1, fun c hc => ?_⟩, r⟩
      have := hL.2 _ (ag_RcT hc r)
      omega
  · rintro ⟨q', e1, _, r⟩
    have := ag_RcC e1 r
    rw [show 1 + (L - (i + 1)) = L - i by omega] at this
    exact this
theorem ag_Rc00 {go : Nat → Nat → Bool} {q e : Nat × Nat × Nat} (h : ag_Rc (ag_E go false) q e 0) : e = q := by
  rcases ag_RcF h with ⟨z, _⟩ | ⟨b, p, c', e1, _, z⟩
  · exact z
  · have := ag_E_1 e1
    omega
theorem ag_markY {post : SY → Prop} {w : Nat → Bool} {o G : Nat → Nat} {T L : Nat} {a : Nat × Nat × Nat} {D : Nat → Nat} (h1 : 1 ≤ T) (h7 : T ≤ 7) (hw : ag_Wl T wk) (hgy : ∀ j, j < 3 → T.testBit j = true → gy j = nI (G j)) (hst : ag_St w o st) (hr : ag_Ry cs D) (ha : ag_V w T a) (hS : ag_Sl 1728 10126 (ag_GY w o (ag_sz T) false) (ag_ey T a) D) (hD : ∀ q d, ag_V w T q → d < 10126 → (D (ag_ey T q) = d ↔ ag_Ls (ag_E (ag_go w o) false) a q d)) (he : ag_V w T (ag_tr T G)) (hL : ag_Ls (ag_E (ag_go w o) false) a (ag_tr T G) L) (hL2 : L < 1728)
    (p : ∀ gd', (∀ q j, ag_V w T q → j ≤ L → D (ag_ey T q) = j → (gd' (ag_ey T q) ≠ 0 ↔ ag_Rc (ag_E (ag_go w o) false) q (ag_tr T G) (L - j))) → post (nI (ag_sz T), iw, wo, is, py, gy, wk, st, cs, gd')) : wpY_markGood post (nI (ag_sz T), iw, wo, is, py, gy, wk, st, cs, gd) (nI L) := by
  have hl := ag_eyV T h1 h7 _ he
  unfold wpY_markGood
  dsimp only
  refine loop_0 (fun n i s => wY_markGood_2 post (nI L) (nI (ag_sz T)) n (nI i) iw wo is py gy wk st cs s) (fun i s => ∀ t, t < i → s t = 0) 1728 gd (fun t h => absurd h (by omega)) ?_ ?_
  · intro n s h
    refine br_t (nI_le (b := 1728) (Nat.le_refl _) (by decide)) (ag_finishT h1 h7 hw hgy ⟨vp_in_nI hl (by omega), nm_r (e' := upd s (ag_ey T (ag_tr T G)) 1) (by rw [nI_clamp (by omega), ag_nb1]) (nm_e ⟨L + 1, ?_⟩)⟩)
    refine pk_loopD (fun n i s => wY_markGood_38 post (nI (ag_sz T)) n (nI i - 1) iw wo is py gy wk st cs s) (fun i s => i ≤ L ∧ ∀ q j, ag_V w T q → i ≤ j → j ≤ L → D (ag_ey T q) = j → (s (ag_ey T q) ≠ 0 ↔ ag_Rc (ag_E (ag_go w o) false) q (ag_tr T G) (L - j))) ?_ ?_ L _ ⟨Nat.le_refl L, fun q j vq hj1 hj2 hd => ?_⟩
    · intro n s hs
      exact br_t (by decide) (p s (fun q j vq hj hd => hs.2 q j vq (by omega) hj hd))
    · intro n i s hs ih
      obtain ⟨hiL, hs⟩ := hs
      have hiL : i < L := hiL
      rw [nI_pred]
      · refine br_f (nI_pos (by omega)) ?_
        refine loop_0 (fun m t x => wY_markGood_45 post (wY_markGood_38 post (nI (ag_sz T)) n) (nI i) (nI (ag_sz T)) m (nI t) iw wo is py gy wk st cs x) (fun t x => (∀ q j, ag_V w T q → i + 1 ≤ j → j ≤ L → D (ag_ey T q) = j → (x (ag_ey T q) ≠ 0 ↔ ag_Rc (ag_E (ag_go w o) false) q (ag_tr T G) (L - j))) ∧ ∀ q, ag_V w T q → ag_ey T q < t → D (ag_ey T q) = i → (x (ag_ey T q) ≠ 0 ↔ ag_Rc (ag_E (ag_go w o) false) q (ag_tr T G) (L - i))) 1728 s ⟨hs, fun q _ hq => absurd hq (by omega)⟩ ?_ ?_
        · rintro m x ⟨x1, x2⟩
          refine br_t (nI_le (b := 1728) (Nat.le_refl _) (by decide)) (nm_r (e' := nI i - 1) (Int32.sub_eq_add_neg _ _).symm (ih x ⟨by omega, fun q j vq hj1 hj2 hd => ?_⟩))
          by_cases y : j = i
          · rw [y] at hd ⊢
            exact x2 q vq (ag_eyV T h1 h7 q vq) hd
          · exact x1 q j vq (by omega) hj2 hd
        · rintro m t x ht ⟨x1, x2⟩ ih2
          refine br_f (nI_ge (b := 1728) ht (by decide)) ⟨vp_in_nI ht (by omega), ?_⟩
          rw [nI_clamp (n := t) (by omega), (hr t ht).1]
          have hDt := (hr t ht).2
          refine br_c (fun y => ?_) (fun y => ?_)
          · have hd : D t = i := by
              by_cases z : D t = 10126
              · rw [z] at y
                exact absurd (show nI i < 0 by rw [← y]; decide) (nI_pos (by omega))
              · rw [ag_iUn z, nI_eq (by omega) (by omega)] at y
                exact y
            obtain ⟨q, e, vq⟩ := ag_VY h1 h7 ha hS ht (by omega)
            subst e
            have lq := (hD q i vq (by omega)).mp hd
            have key := ag_lvl hL hiL lq
            have cnd : ∀ q', ag_Cn w o T D x i q q' ↔ (ag_E (ag_go w o) false q q' 1 ∧ ag_Ls (ag_E (ag_go w o) false) a q' (i + 1) ∧ ag_Rc (ag_E (ag_go w o) false) q' (ag_tr T G) (L - (i + 1))) := fun q' => by
              constructor
              · rintro ⟨c1, c2, c3⟩
                have v' := ag_V_E (ag_Gd_go w o) vq c1
                exact ⟨c1, (hD q' _ v' (by omega)).mp c2, (x1 q' (i + 1) v' (by omega) (by omega) c2).mp c3⟩
              · rintro ⟨c1, c2, c3⟩
                have v' := ag_V_E (ag_Gd_go w o) vq c1
                have d' := (hD q' _ v' (by omega)).mpr c2
                exact ⟨c1, d', (x1 q' (i + 1) v' (by omega) (by omega) d').mpr c3⟩
            have put : ∀ b : Int32, (b ≠ 0 ↔ ag_Rc (ag_E (ag_go w o) false) q (ag_tr T G) (L - i)) → wY_markGood_45 post (wY_markGood_38 post (nI (ag_sz T)) n) (nI i) (nI (ag_sz T)) m (nI (ag_ey T q + 1)) iw wo is py gy wk st cs (upd x (ag_ey T q) b) := fun b hb => by
              refine ih2 _ ⟨fun q' j vq' hj1 hj2 hd' => ?_, fun q' vq' hq' hd' => ?_⟩
              · have : ag_ey T q' ≠ ag_ey T q := fun z => by rw [z] at hd'; omega
                rw [pk_un this]
                exact x1 q' j vq' hj1 hj2 hd'
              · by_cases z : ag_ey T q' = ag_ey T q
                · have := ag_ey_inj h1 h7 vq' vq z
                  rw [this, pk_us]
                  exact hb
                · rw [pk_un z]
                  exact x2 q' vq' (by omega) hd'
            refine ag_nextY h1 h7 hst hr vq hd (by omega) (fun hn => ?_) (fun q' hc _ => ?_)
            · refine br_t (by decide) ⟨vp_in_nI ht (by omega), nm_r (e' := upd x (ag_ey T q) 0) (by rw [ag_nb0]) (nm_r (nI_1 _) (put 0 ?_))⟩
              refine ⟨fun z => absurd rfl z, fun z => ?_⟩
              obtain ⟨q', k⟩ := key.mp z
              exact absurd ((cnd q').mpr k) (hn q')
            · have v' := ag_eyV T h1 h7 q' (ag_V_E (ag_Gd_go w o) vq hc.1)
              refine br_f (nI_pos (by omega)) ⟨vp_in_nI ht (by omega), nm_r (e' := upd x (ag_ey T q) 1) (by rw [ag_nb1]) (nm_r (nI_1 _) (put 1 ?_))⟩
              exact ⟨fun _ => key.mpr ⟨q', (cnd q').mp hc⟩, fun _ => by decide⟩
          · refine nm_r (nI_1 t) (ih2 x ⟨x1, fun q vq hq hd => ?_⟩)
            by_cases z : ag_ey T q = t
            · rw [z] at hd
              exact absurd (by rw [hd, ag_iUn (by omega)]) y
            · exact x2 q vq (by omega) hd
    · have : j = L := by omega
      subst this
      rw [Nat.sub_self]
      by_cases z : ag_ey T q = ag_ey T (ag_tr T G)
      · have := ag_ey_inj h1 h7 vq he z
        rw [this, pk_us]
        exact ⟨fun _ => ag_Rc0 _ _, fun _ => by decide⟩
      · rw [pk_un z, h _ (ag_eyV T h1 h7 q vq)]
        exact ⟨fun z => absurd rfl z, fun r => absurd (by rw [ag_Rc00 r]) z⟩
  · intro n i s hi h ih
    refine br_f (nI_ge (b := 1728) hi (by decide)) ⟨vp_in_nI hi (by omega), nm_r (e' := upd s i 0) (by rw [nI_clamp (by omega), ag_nb0]) (nm_r (nI_1 i) (ih _ (fun t ht => ?_)))⟩
    by_cases y : t = i
    · subst y; exact pk_us
    · rw [pk_un y]; exact h t (by omega)
end
section
/-! cellAt -/
variable {g nc : Int32} {wl wo pl gl cg co ns nt : Nat → Int32} {sz : Int32} {iw is py gy wk st cs gd : Nat → Int32}
/-- distances as least costs, on both sides -/
theorem ag_dsl {E : Nat × Nat × Nat → Nat × Nat × Nat → Nat → Prop} {a q : Nat × Nat × Nat} {x : Nat} (h : ag_Ds E a q x) {d : Nat} (hd : d < 10126) : x = d ↔ ag_Ls E a q d := by
  rcases h with ⟨h1, h2⟩ | ⟨h1, h2⟩
  · exact ⟨fun e => by rw [← e]; exact h2, fun e => ag_LsU h2 e⟩
  · exact ⟨fun e => by omega, fun e => absurd e.1 (h2 _)⟩
theorem ag_c114 {post : Int32 → SY → Prop} {w : Nat → Bool} {T i : Nat} {q : Nat × Nat × Nat} (h1 : 1 ≤ T) (h7 : T ≤ 7) (hw : ag_Wl T wk) (hq : ag_V w T q) (hi : i < 3) (hb : T.testBit i = true) (p : post (nI (ag_co q i)) (nI (ag_sz T), iw, wo, is, py, gy, wk, st, cs, gd)) : ∃ n, wY_cellAt_114 post (nI i) (nI (ag_ey T q)) (nI (ag_sz T)) iw wo is py gy wk st cs gd n 0 0 := by
  have hn := (ag_sz3 T h1 h7).2
  have hs := ag_eyV T h1 h7 q hq
  refine loop_0 (fun n k x => wY_cellAt_114 post (nI i) (nI (ag_ey T q)) (nI (ag_sz T)) iw wo is py gy wk st cs gd n x (nI k)) (fun k x => ∀ m, m < k → wk m = nI i → x = nI (ag_co q i)) (ag_sz T) 0 (fun m h => absurd h (by omega)) ?_ ?_
  · intro n x h
    have e := h (ag_cn (fun j => T.testBit j) i) (by rw [← ag_sz_cn T h1 h7]; exact ag_cn_lt (fun j => T.testBit j) hi hb) (hw i hi hb)
    rw [e]
    exact br_t (nI_le (Nat.le_refl _) (by omega)) p
  · intro n k x hk h ih
    obtain ⟨j, hj, e1, _, e2⟩ := ag_wT T h1 h7 hw k hk
    refine br_f (nI_ge hk (by omega)) ⟨vp_in_nI (show k < 3 by omega) (by omega), ?_⟩
    rw [nI_clamp (n := k) (by omega), e1]
    refine pk_eq j i (fun y => ?_) (fun y => ?_)
    · refine ag_cellY hs (by omega) (nm_r (nI_1 k) (ih _ (fun m _ _ => ?_)))
      rw [ag_dg_ey h1 h7 hq (by omega), e2 q, y]
    · refine nm_r (nI_1 k) (ih x (fun m hm e => ?_))
      by_cases z : m = k
      · rw [z, e1, nI_eq (by omega) (by omega)] at e
        exact absurd e y
      · exact h m (by omega) e
/-- the reference's way of t turns -/
theorem ag_c74 {post : Int32 → SY → Prop} {w : Nat → Bool} {o : Nat → Nat} {T L t i : Nat} {a e : Nat × Nat × Nat} {D : Nat → Nat} (h1 : 1 ≤ T) (h7 : T ≤ 7) (hw : ag_Wl T wk) (hst : ag_St w o st) (hr : ag_Ry cs D) (ha : ag_V w T a) (hD : ∀ q d, ag_V w T q → d < 10126 → (D (ag_ey T q) = d ↔ ag_Ls (ag_E (ag_go w o) false) a q d)) (hL : ag_Ls (ag_E (ag_go w o) false) a e L) (hL2 : L < 1728) (ht : t ≤ L) (hi : i < 3) (hb : T.testBit i = true)
    (hgd : ∀ q j, ag_V w T q → j ≤ L → D (ag_ey T q) = j → (gd (ag_ey T q) ≠ 0 ↔ ag_Rc (ag_E (ag_go w o) false) q e (L - j)))
    (p : ∀ q, ag_Wk (ag_E (ag_go w o) false) a e L t q → post (nI (ag_co q i)) (nI (ag_sz T), iw, wo, is, py, gy, wk, st, cs, gd)) : ∃ n, wY_cellAt_74 post (nI i) (nI t) (nI (ag_sz T)) iw wo is py gy wk st cs gd n (nI (ag_ey T a)) 0 := by
  have hg := ag_Gd_go w o
  refine loop_0 (fun n k x => wY_cellAt_74 post (nI i) (nI t) (nI (ag_sz T)) iw wo is py gy wk st cs gd n x (nI k)) (fun k x => ∃ q, x = nI (ag_ey T q) ∧ ag_Wk (ag_E (ag_go w o) false) a e L k q) t (nI (ag_ey T a)) ⟨a, rfl, rfl⟩ ?_ ?_
  · rintro n x ⟨q, rfl, hk⟩
    exact br_t (nI_le (Nat.le_refl t) (by omega)) (ag_c114 h1 h7 hw (ag_WkV hg ha t q hk) hi hb (p q hk))
  · rintro n k x hk ⟨q, rfl, hwk⟩ ih
    have vq := ag_WkV hg ha k q hwk
    obtain ⟨d1, d2⟩ := ag_WkL hL k q (by omega) hwk
    have dq := (hD q k vq (by omega)).mpr d1
    have cnd : ∀ q', ag_Cn w o T D gd k q q' ↔ ag_Cd (ag_E (ag_go w o) false) e (L - k - 1) q q' := fun q' => by
      constructor
      · rintro ⟨c1, c2, c3⟩
        have v' := ag_V_E hg vq c1
        have l' := (hD q' _ v' (by omega)).mp c2
        exact ⟨c1, (ag_gd hL (by omega) d1 d2 c1).mp ⟨l', (hgd q' (k + 1) v' (by omega) c2).mp c3⟩⟩
      · rintro ⟨c1, c2⟩
        have v' := ag_V_E hg vq c1
        obtain ⟨l', r'⟩ := (ag_gd hL (by omega) d1 d2 c1).mpr c2
        have d' := (hD q' _ v' (by omega)).mpr l'
        exact ⟨c1, d', (hgd q' (k + 1) v' (by omega) d').mpr r'⟩
    refine br_f (nI_ge hk (by omega)) (ag_nextY h1 h7 hst hr vq dq (by omega) (fun hn => ?_) (fun q' hc hmin => ?_))
    · rw [show L - k = (L - k - 1) + 1 by omega] at d2
      obtain ⟨b, hb'⟩ := ag_nx d2
      exact absurd ((cnd b).mpr hb') (hn b)
    · have v' := ag_V_E hg vq hc.1
      have := ag_eyV T h1 h7 q' v'
      refine br_t (nI_pos' (by omega)) (nm_r (nI_1 k) (ih _ ⟨q', rfl, q, hwk, (cnd q').mp hc, fun r hr' => ?_⟩))
      exact (ag_ey_ord T h1 h7 q' r v' (ag_V_E hg vq hr'.1)).mpr (hmin r ((cnd r).mpr hr'))
theorem i_vc_cellAt {k : Nat} {u : SX} {v : SY} (I : i_Rel k u v) (hk : k + 4 ≤ 2048) (v1 : Int32) (v2 : Int32) (v3 : Int32) : wpX_cellAt (fun r u' => wpY_cellAt (fun r' v' => r' = r ∧ i_Rel (k + 4) u' v') v v1 v2 v3) u v1 v2 v3 := by
  obtain ⟨w, o, z, P, G, g, nc, pl, gl, cg, co, ns, nt, sz, is, py, gy, wk, st, cs, gd, rfl, rfl, ho, hW⟩ := I
  unfold wpX_cellAt
  dsimp only
  refine ag_rdX hW (fun T eT hR => ?_) (fun hN => ?_)
  · subst eT
    obtain ⟨hT1, hT7⟩ := hR.1
    obtain ⟨p1, p2, p3, p4, hV, hE⟩ := ag_rdp hW hR
    have hg := ag_Gd_go w o
    have ha := (ag_exV hV).1
    refine br_f (by decide) (ag_drawX (S := fun _ => false) ho ag_sh_m1 (fun cg1 hc1 => ?_))
    rw [ag_or_f] at hc1
    dsimp only
    refine ag_backX hc1 (fun cg2 hc2 => ?_)
    dsimp only
    refine ag_of_goals hT7 p2 (ag_fromX (f := false) (T := T) (ag_Gd_gr hg) hc2 hE (fun g3 nc3 co3 ns3 nt3 D r h => ?_))
    dsimp only
    refine ag_of_places hT7 p1 ⟨vp_in_nI ha (by omega), nm_r (e' := nI (D (ag_ex (ag_tr T P)))) (by rw [nI_clamp (by omega), (r _ ha).1]) ?_⟩
    have hD : ∀ q d, ag_V w T q → d < 10126 → (D (ag_ex q) = d ↔ ag_Ls (ag_E (ag_go w o) false) q (ag_tr T G) d) := fun q d vq hd => by
      rw [ag_dsl (ag_DX (ag_Gd_gr hg) hE h vq) hd]
      exact ag_Ls_rev hg vq hE
    have hnone : D (ag_ex (ag_tr T P)) = 10126 → ∀ c, ¬ ag_Rc (ag_E (ag_go w o) false) (ag_tr T P) (ag_tr T G) c := fun e c hc => by
      obtain ⟨c0, _, hc0⟩ := ag_RcL hc
      have b := ag_E_bd hg hV hc0
      have := (hD _ c0 hV (by omega)).mpr hc0
      omega
    have hDle := (r _ ha).2
    generalize hd : D (ag_ex (ag_tr T P)) = L at hnone hDle ⊢
    -- the reference up to the length
    have yy : ∀ post : Int32 → SY → Prop, (∀ wk' st' cs' D', ag_Wl T wk' → ag_St w o st' → ag_Ry cs' D' → ag_Sl 1728 10126 (ag_GY w o (ag_sz T) false) (ag_ey T (ag_tr T P)) D' → D' (ag_ey T (ag_tr T G)) = L → post (ag_ans L) (nI (ag_sz T), ag_bi w, ag_nf o, is, py, gy, wk', st', cs', gd)) → wpY_leastTurns post (sz, ag_bi w, ag_nf o, is, py, gy, wk, st, cs, gd) (nI T) := fun post q => by
      refine ag_ltY ho hT1 hT7 p3 p4 hV hE (fun wk' st' cs' D' hw hs r' h' => ?_)
      have hY := ag_DY hT1 hT7 hV h' hE
      have eL : D' (ag_ey T (ag_tr T G)) = L := by
        by_cases y : L = 10126
        · rcases hY with ⟨_, y2⟩ | ⟨y1, _⟩
          · exact absurd y2.1 (hnone y _)
          · omega
        · exact (ag_dsl hY (by omega)).mpr ((hD _ L hV (by omega)).mp hd)
      have := q wk' st' cs' D' hw hs r' h' eL
      rw [eL]
      exact this
    refine pk_eq L 10126 (fun e => ?_) (fun ne => ?_)
    · unfold wpY_cellAt
      dsimp only
      refine ag_rdY hW (fun _ _ _ => ?_) (fun hN => absurd hR (hN T rfl))
      refine br_f (by decide) (yy _ (fun wk' st' cs' D' hw hs r' h' eL => ?_))
      dsimp only
      rw [e]
      exact br_f (by decide) ⟨rfl, ag_rel ho hW⟩
    · have hL := (hD _ L hV (by omega)).mp hd
      have hL2 := ag_E_bd hg hV hL
      have ea : ag_ans L = nI L := if_neg ne
      by_cases hw3 : ∃ i, i < 3 ∧ v2 = nI i
      · obtain ⟨i, hi, rfl⟩ := hw3
        have n0 : ¬ nI i < 0 := nI_pos (by omega)
        have n2 : ¬ (2 : Int32) < nI i := nI_nlt (a := 2) (by omega) (by omega)
        refine ag_kx1 hi (br_f (by decide) (ag_inX (by omega) hi (fun hb => br_f (by decide) ?_) (fun hb => br_t rfl ?_)))
        · by_cases h0 : v3 < 0
          · refine br_t h0 ?_
            unfold wpY_cellAt
            dsimp only
            refine ag_rdY hW (fun _ _ _ => ?_) (fun hN => absurd hR (hN T rfl))
            refine br_f (by decide) (yy _ (fun wk' st' cs' D' hw hs r' h' eL => ?_))
            dsimp only
            rw [ea]
            exact br_t (nI_pos' (by omega)) (br_f n0 (br_f n2 (ag_inY (by omega) hi (fun _ => br_f (by decide) (br_t h0 ⟨rfl, ag_rel ho hW⟩)) (fun hb' => by rw [hb] at hb'; exact absurd hb'.symm Bool.false_ne_true))))
          · refine br_f h0 ?_
            obtain ⟨t, ht, rfl⟩ := nI_of h0
            refine pk_le t L (fun htL => ?_) (fun htL => ?_)
            · refine ag_drawX (S := fun _ => false) ho ag_sh_m1 (fun cg4 hc4 => ?_)
              rw [ag_or_f] at hc4
              dsimp only
              refine ag_afterX hg hc4 r hD hV hL hL2 htL (fun q nc5 ns5 nt5 hWk => ?_)
              dsimp only
              have vq := ag_WkV hg hV t q hWk
              refine ag_spotX (ag_exV vq).1 hi ?_
              rw [(ag_exV vq).2]
              unfold wpY_cellAt
              dsimp only
              refine ag_rdY hW (fun _ _ _ => ?_) (fun hN => absurd hR (hN T rfl))
              refine br_f (by decide) (yy _ (fun wk' st' cs' D' hw hs r' h' eL => ?_))
              dsimp only
              rw [ea]
              have hD' : ∀ q d, ag_V w T q → d < 10126 → (D' (ag_ey T q) = d ↔ ag_Ls (ag_E (ag_go w o) false) (ag_tr T P) q d) := fun q d vq hd => ag_dsl (ag_DY hT1 hT7 hV h' vq) hd
              refine br_t (nI_pos' (by omega)) (br_f n0 (br_f n2 (ag_inY (by omega) hi (fun _ => br_f (by decide) (br_f h0 ?_)) (fun hb' => by rw [hb] at hb'; exact absurd hb'.symm Bool.false_ne_true))))
              refine br_t (nI_le htL (by omega)) (ag_markY hT1 hT7 hw p4 hs r' hV h' hD' hE hL hL2 (fun gd' hgd => ?_))
              dsimp only
              refine ag_startT hT1 hT7 hw p3 ?_
              refine ag_c74 hT1 hT7 hw hs r' hV hD' hL hL2 htL hi hb hgd (fun q' hWk' => ?_)
              have := ag_WkU hg hV t q q' hWk hWk'
              subst this
              exact ⟨rfl, ag_rel ho hW⟩
            · unfold wpY_cellAt
              dsimp only
              refine ag_rdY hW (fun _ _ _ => ?_) (fun hN => absurd hR (hN T rfl))
              refine br_f (by decide) (yy _ (fun wk' st' cs' D' hw hs r' h' eL => ?_))
              dsimp only
              rw [ea]
              exact br_t (nI_pos' (by omega)) (br_f n0 (br_f n2 (ag_inY (by omega) hi (fun _ => br_f (by decide) (br_f h0 (br_f (nI_ge htL (by omega)) ⟨rfl, ag_rel ho hW⟩))) (fun hb' => by rw [hb] at hb'; exact absurd hb'.symm Bool.false_ne_true))))
        · unfold wpY_cellAt
          dsimp only
          refine ag_rdY hW (fun _ _ _ => ?_) (fun hN => absurd hR (hN T rfl))
          refine br_f (by decide) (yy _ (fun wk' st' cs' D' hw hs r' h' eL => ?_))
          dsimp only
          rw [ea]
          exact br_t (nI_pos' (by omega)) (br_f n0 (br_f n2 (ag_inY (by omega) hi (fun hb' => by rw [hb] at hb'; exact absurd hb' Bool.false_ne_true) (fun _ => br_t rfl ⟨rfl, ag_rel ho hW⟩))))
      · have hw3' : ∀ c, c < 3 → v2 ≠ nI c := fun c hc e => hw3 ⟨c, hc, e⟩
        refine ag_kx0 hw3' (br_t rfl ?_)
        unfold wpY_cellAt
        dsimp only
        refine ag_rdY hW (fun _ _ _ => ?_) (fun hN => absurd hR (hN T rfl))
        refine br_f (by decide) (yy _ (fun wk' st' cs' D' hw hs r' h' eL => ?_))
        dsimp only
        rw [ea]
        refine br_t (nI_pos' (by omega)) ?_
        by_cases h0 : v2 < 0
        · exact br_t h0 ⟨rfl, ag_rel ho hW⟩
        · obtain ⟨j, hj, rfl⟩ := nI_of h0
          have : ¬ j < 3 := fun q => hw3' j q rfl
          exact br_f h0 (br_t (nI_lt (a := 2) (by omega) hj) ⟨rfl, ag_rel ho hW⟩)
  · refine br_t rfl ?_
    unfold wpY_cellAt
    dsimp only
    exact ag_rdY hW (fun T e hR => absurd hR (hN T e)) (fun _ => br_t rfl ⟨rfl, ag_rel ho hW⟩)
end
