/-! teams: the reference's graph in the turns of three; both orders; the way back; the first plan (draft, not yet compiled) -/
theorem ag_off {w : Nat → Bool} {go : Nat → Nat → Bool} (hg : ag_Gd w go) {i b : Nat} (h : go (12 + i) b = true) : b = 12 + i := by
  by_cases e : 12 + i = b
  · exact e.symm
  · have := (hg.2 _ _ h e).1; omega
theorem ag_on {w : Nat → Bool} {go : Nat → Nat → Bool} (hg : ag_Gd w go) {a b : Nat} (ha : a < 12) (h : go a b = true) : b < 12 := by
  by_cases e : a = b
  · omega
  · exact (hg.2 _ _ h e).2.1
/-- T's seven cases -/
theorem ag_T7 {P : Nat → Prop} (h1 : P 1) (h2 : P 2) (h3 : P 3) (h4 : P 4) (h5 : P 5) (h6 : P 6) (h7 : P 7) : ∀ T, 1 ≤ T → T ≤ 7 → P T := by
  intro T a b
  have : T = 1 ∨ T = 2 ∨ T = 3 ∨ T = 4 ∨ T = 5 ∨ T = 6 ∨ T = 7 := by omega
  rcases this with rfl | rfl | rfl | rfl | rfl | rfl | rfl <;> assumption
theorem ag_eyV {w : Nat → Bool} : ∀ T, 1 ≤ T → T ≤ 7 → ∀ q, ag_V w T q → ag_ey T q < 1728 := by
  refine ag_T7 ?_ ?_ ?_ ?_ ?_ ?_ ?_ <;>
  · rintro ⟨a, b, c⟩ ⟨h1, h2, h3, _⟩
    simp [ag_sp, Nat.testBit, ag_ey] at h1 h2 h3 ⊢
    omega
theorem ag_ey_ord {w : Nat → Bool} : ∀ T, 1 ≤ T → T ≤ 7 → ∀ q q', ag_V w T q → ag_V w T q' → (ag_ex q ≤ ag_ex q' ↔ ag_ey T q ≤ ag_ey T q') := by
  refine ag_T7 ?_ ?_ ?_ ?_ ?_ ?_ ?_ <;>
  · rintro ⟨a, b, c⟩ ⟨a', b', c'⟩ ⟨h1, h2, h3, _⟩ ⟨k1, k2, k3, _⟩
    simp [ag_sp, Nat.testBit, ag_ey, ag_ex] at h1 h2 h3 k1 k2 k3 ⊢
    omega
theorem ag_ex_inj {w : Nat → Bool} {T : Nat} {q q' : Nat × Nat × Nat} (h : ag_V w T q) (h' : ag_V w T q') (e : ag_ex q = ag_ex q') : q = q' := by
  rw [← (ag_exV h).2, ← (ag_exV h').2, e]
theorem ag_ey_inj {w : Nat → Bool} {T : Nat} (h1 : 1 ≤ T) (h7 : T ≤ 7) {q q' : Nat × Nat × Nat} (h : ag_V w T q) (h' : ag_V w T q') (e : ag_ey T q = ag_ey T q') : q = q' := by
  have k1 := (ag_ey_ord T h1 h7 q q' h h').mpr (by omega)
  have k2 := (ag_ey_ord T h1 h7 q' q h' h).mpr (by omega)
  exact ag_ex_inj h h' (by omega)
/-- one turn, in both graphs -/
def ag_TE (w : Nat → Bool) (o : Nat → Nat) (f : Bool) (T : Nat) : Prop := ∀ q t p, ag_V w T q → (ag_GY w o (ag_sz T) f (ag_ey T q) t p ↔ ∃ q', t = ag_ey T q' ∧ ag_E (ag_go w o) f q q' p)
theorem ag_TE7 (w : Nat → Bool) (o : Nat → Nat) (f : Bool) : ag_TE w o f 7 := by
  rintro ⟨a, b, c⟩ t p ⟨h1, h2, h3, _⟩
  obtain ⟨a1, a2⟩ := h1.1 rfl
  obtain ⟨b1, b2⟩ := h2.1 rfl
  obtain ⟨c1, c2⟩ := h3.1 rfl
  dsimp only at a1 a2 b1 b2 c1 c2
  show ag_GY w o 3 f (144 * a + 12 * b + c) t p ↔ ∃ q' : Nat × Nat × Nat, t = 144 * q'.1 + 12 * q'.2.1 + q'.2.2 ∧ ag_E (ag_go w o) f (a, b, c) q' p
  rw [ag_GY3 a1 a2 b1 b2 c1 c2]
  constructor
  · rintro ⟨a', b', c', rfl, g1, g2, g3, l1, l2, l3, e⟩
    exact ⟨(a', b', c'), rfl, g1, g2, g3, l1, l2, l3, e⟩
  · rintro ⟨⟨a', b', c'⟩, rfl, g1, g2, g3, l1, l2, l3, e⟩
    exact ⟨a', b', c', rfl, g1, g2, g3, l1, l2, l3, e⟩
theorem ag_TE3 (w : Nat → Bool) (o : Nat → Nat) (f : Bool) : ag_TE w o f 3 := by
  rintro ⟨a, b, c⟩ t p ⟨h1, h2, h3, _⟩
  obtain ⟨a1, a2⟩ := h1.1 rfl
  obtain ⟨b1, b2⟩ := h2.1 rfl
  have c1 := h3.2 rfl
  dsimp only at a1 a2 b1 b2 c1
  subst c1
  show ag_GY w o 2 f (144 * a + 12 * b) t p ↔ ∃ q' : Nat × Nat × Nat, t = 144 * q'.1 + 12 * q'.2.1 ∧ ag_E (ag_go w o) f (a, b, 12 + 2) q' p
  rw [ag_GY2 a1 a2 b1 b2]
  have hg := ag_Gd_go w o
  constructor
  · rintro ⟨a', b', rfl, g1, g2, l1, e⟩
    have k1 := ag_on hg a1 g1
    have k2 := ag_on hg b1 g2
    refine ⟨(a', b', 12 + 2), rfl, g1, g2, hg.1 _, l1, ?_, ?_, ?_⟩
    · simp only [ag_cl]; omega
    · simp only [ag_cl]; omega
    · rw [e, ag_stR, Nat.add_zero]
  · rintro ⟨⟨a', b', c'⟩, rfl, g1, g2, g3, l1, l2, l3, e⟩
    have := ag_off hg g3
    dsimp only at this g1 g2 l1 e
    subst this
    rw [ag_stR, Nat.add_zero] at e
    exact ⟨a', b', rfl, g1, g2, l1, e⟩
theorem ag_TE5 (w : Nat → Bool) (o : Nat → Nat) (f : Bool) : ag_TE w o f 5 := by
  rintro ⟨a, b, c⟩ t p ⟨h1, h2, h3, _⟩
  obtain ⟨a1, a2⟩ := h1.1 rfl
  obtain ⟨c1, c2⟩ := h3.1 rfl
  have b1 := h2.2 rfl
  dsimp only at a1 a2 b1 c1 c2
  subst b1
  show ag_GY w o 2 f (144 * a + 12 * c) t p ↔ ∃ q' : Nat × Nat × Nat, t = 144 * q'.1 + 12 * q'.2.2 ∧ ag_E (ag_go w o) f (a, 12 + 1, c) q' p
  rw [ag_GY2 a1 a2 c1 c2]
  have hg := ag_Gd_go w o
  constructor
  · rintro ⟨a', c', rfl, g1, g2, l1, e⟩
    have k1 := ag_on hg a1 g1
    have k2 := ag_on hg c1 g2
    refine ⟨(a', 12 + 1, c'), rfl, g1, hg.1 _, g2, ?_, l1, ?_, ?_⟩
    · simp only [ag_cl]; omega
    · simp only [ag_cl]; omega
    · rw [e, ag_stR, Nat.add_zero]
  · rintro ⟨⟨a', b', c'⟩, rfl, g1, g2, g3, l1, l2, l3, e⟩
    have := ag_off hg g2
    dsimp only at this g1 g3 l2 e
    subst this
    rw [ag_stR, Nat.add_zero] at e
    exact ⟨a', c', rfl, g1, g3, l2, e⟩
theorem ag_TE6 (w : Nat → Bool) (o : Nat → Nat) (f : Bool) : ag_TE w o f 6 := by
  rintro ⟨a, b, c⟩ t p ⟨h1, h2, h3, _⟩
  obtain ⟨b1, b2⟩ := h2.1 rfl
  obtain ⟨c1, c2⟩ := h3.1 rfl
  have a1 := h1.2 rfl
  dsimp only at a1 b1 b2 c1 c2
  subst a1
  show ag_GY w o 2 f (144 * b + 12 * c) t p ↔ ∃ q' : Nat × Nat × Nat, t = 144 * q'.2.1 + 12 * q'.2.2 ∧ ag_E (ag_go w o) f (12 + 0, b, c) q' p
  rw [ag_GY2 b1 b2 c1 c2]
  have hg := ag_Gd_go w o
  constructor
  · rintro ⟨b', c', rfl, g1, g2, l1, e⟩
    have k1 := ag_on hg b1 g1
    have k2 := ag_on hg c1 g2
    refine ⟨(12 + 0, b', c'), rfl, hg.1 _, g1, g2, ?_, ?_, l1, ?_⟩
    · simp only [ag_cl]; omega
    · simp only [ag_cl]; omega
    · rw [e, ag_stR, Nat.zero_add]
  · rintro ⟨⟨a', b', c'⟩, rfl, g1, g2, g3, l1, l2, l3, e⟩
    have := ag_off hg g1
    dsimp only at this g2 g3 l3 e
    subst this
    rw [ag_stR, Nat.zero_add] at e
    exact ⟨b', c', rfl, g2, g3, l3, e⟩
theorem ag_TE1 (w : Nat → Bool) (o : Nat → Nat) (f : Bool) : ag_TE w o f 1 := by
  rintro ⟨a, b, c⟩ t p ⟨h1, h2, h3, _⟩
  obtain ⟨a1, a2⟩ := h1.1 rfl
  have b1 := h2.2 rfl
  have c1 := h3.2 rfl
  dsimp only at a1 a2 b1 c1
  subst b1
  subst c1
  show ag_GY w o 1 f (144 * a) t p ↔ ∃ q' : Nat × Nat × Nat, t = 144 * q'.1 ∧ ag_E (ag_go w o) f (a, 12 + 1, 12 + 2) q' p
  rw [ag_GY1 a1 a2]
  have hg := ag_Gd_go w o
  constructor
  · rintro ⟨a', rfl, g1, e⟩
    have k1 := ag_on hg a1 g1
    refine ⟨(a', 12 + 1, 12 + 2), rfl, g1, hg.1 _, hg.1 _, ?_, ?_, ?_, ?_⟩
    · simp only [ag_cl]; omega
    · simp only [ag_cl]; omega
    · simp only [ag_cl]; omega
    · rw [e, ag_stR, ag_stR]; rfl
  · rintro ⟨⟨a', b', c'⟩, rfl, g1, g2, g3, l1, l2, l3, e⟩
    have i1 := ag_off hg g2
    have i2 := ag_off hg g3
    dsimp only at i1 i2 g1 e
    subst i1
    subst i2
    rw [ag_stR, ag_stR] at e
    exact ⟨a', rfl, g1, e⟩
theorem ag_TE2 (w : Nat → Bool) (o : Nat → Nat) (f : Bool) : ag_TE w o f 2 := by
  rintro ⟨a, b, c⟩ t p ⟨h1, h2, h3, _⟩
  obtain ⟨b1, b2⟩ := h2.1 rfl
  have a1 := h1.2 rfl
  have c1 := h3.2 rfl
  dsimp only at a1 b1 b2 c1
  subst a1
  subst c1
  show ag_GY w o 1 f (144 * b) t p ↔ ∃ q' : Nat × Nat × Nat, t = 144 * q'.2.1 ∧ ag_E (ag_go w o) f (12 + 0, b, 12 + 2) q' p
  rw [ag_GY1 b1 b2]
  have hg := ag_Gd_go w o
  constructor
  · rintro ⟨b', rfl, g1, e⟩
    have k1 := ag_on hg b1 g1
    refine ⟨(12 + 0, b', 12 + 2), rfl, hg.1 _, g1, hg.1 _, ?_, ?_, ?_, ?_⟩
    · simp only [ag_cl]; omega
    · simp only [ag_cl]; omega
    · simp only [ag_cl]; omega
    · rw [e, ag_stR, ag_stR, Nat.zero_add, Nat.add_zero]
  · rintro ⟨⟨a', b', c'⟩, rfl, g1, g2, g3, l1, l2, l3, e⟩
    have i1 := ag_off hg g1
    have i2 := ag_off hg g3
    dsimp only at i1 i2 g2 e
    subst i1
    subst i2
    rw [ag_stR, ag_stR, Nat.zero_add, Nat.add_zero] at e
    exact ⟨b', rfl, g2, e⟩
theorem ag_TE4 (w : Nat → Bool) (o : Nat → Nat) (f : Bool) : ag_TE w o f 4 := by
  rintro ⟨a, b, c⟩ t p ⟨h1, h2, h3, _⟩
  obtain ⟨c1, c2⟩ := h3.1 rfl
  have a1 := h1.2 rfl
  have b1 := h2.2 rfl
  dsimp only at a1 b1 c1 c2
  subst a1
  subst b1
  show ag_GY w o 1 f (144 * c) t p ↔ ∃ q' : Nat × Nat × Nat, t = 144 * q'.2.2 ∧ ag_E (ag_go w o) f (12 + 0, 12 + 1, c) q' p
  rw [ag_GY1 c1 c2]
  have hg := ag_Gd_go w o
  constructor
  · rintro ⟨c', rfl, g1, e⟩
    have k1 := ag_on hg c1 g1
    refine ⟨(12 + 0, 12 + 1, c'), rfl, hg.1 _, hg.1 _, g1, ?_, ?_, ?_, ?_⟩
    · simp only [ag_cl]; omega
    · simp only [ag_cl]; omega
    · simp only [ag_cl]; omega
    · rw [e, ag_stR, ag_stR, Nat.zero_add]
  · rintro ⟨⟨a', b', c'⟩, rfl, g1, g2, g3, l1, l2, l3, e⟩
    have i1 := ag_off hg g1
    have i2 := ag_off hg g2
    dsimp only at i1 i2 g3 e
    subst i1
    subst i2
    rw [ag_stR, ag_stR, Nat.zero_add] at e
    exact ⟨c', rfl, g3, e⟩
theorem ag_TEall (w : Nat → Bool) (o : Nat → Nat) (f : Bool) : ∀ T, 1 ≤ T → T ≤ 7 → ag_TE w o f T :=
  ag_T7 (ag_TE1 w o f) (ag_TE2 w o f) (ag_TE3 w o f) (ag_TE4 w o f) (ag_TE5 w o f) (ag_TE6 w o f) (ag_TE7 w o f)
theorem ag_simY {w : Nat → Bool} {o : Nat → Nat} (f : Bool) {T : Nat} (h1 : 1 ≤ T) (h7 : T ≤ 7) {a : Nat × Nat × Nat} (ha : ag_V w T a) (t c : Nat) : ag_Rc (ag_GY w o (ag_sz T) f) (ag_ey T a) t c ↔ ∃ q, t = ag_ey T q ∧ ag_V w T q ∧ ag_Rc (ag_E (ag_go w o) f) a q c := by
  have hg := ag_Gd_go w o
  have te := ag_TEall w o f T h1 h7
  exact ag_sim (ag_ey T) (ag_E (ag_go w o) f) (ag_GY w o (ag_sz T) f) (ag_V w T) (fun _ _ _ h e => ag_V_E hg h e) (fun q q' p h e => (te q _ p h).mpr ⟨q', rfl, e⟩) (fun q t p h e => (te q t p h).mp e) ha t c
/-! the way back -/
theorem ag_st_sym (a b : Nat) : ag_st a b = ag_st b a := by
  by_cases e : a = b
  · rw [e]
  · rw [ag_stN e, ag_stN (fun z => e z.symm)]
theorem ag_E_rev {go : Nat → Nat → Bool} {f : Bool} {q q' : Nat × Nat × Nat} {p : Nat} (d1 : q.1 ≠ q.2.1) (d2 : q.1 ≠ q.2.2) (d3 : q.2.1 ≠ q.2.2) (e : ag_E go f q q' p) : ag_E (ag_gr go) f q' q p := by
  obtain ⟨e1, e2, e3, c1, c2, c3, hp⟩ := e
  unfold ag_cl at c1 c2 c3
  refine ⟨e1, e2, e3, ?_, ?_, ?_, ?_⟩
  · unfold ag_cl; omega
  · unfold ag_cl; omega
  · unfold ag_cl; omega
  · rw [hp, ag_st_sym q.1, ag_st_sym q.2.1, ag_st_sym q.2.2]
theorem ag_Rc_rev {w : Nat → Bool} {go : Nat → Nat → Bool} (hg : ag_Gd w go) {f : Bool} {T : Nat} {a t : Nat × Nat × Nat} {c : Nat} (ha : ag_V w T a) (h : ag_Rc (ag_E go f) a t c) : ag_V w T t ∧ ag_Rc (ag_E (ag_gr go) f) t a c := by
  refine ag_RcI (fun t c => ag_V w T t ∧ ag_Rc (ag_E (ag_gr go) f) t a c) ⟨ha, ag_Rc0 _ _⟩ ?_ h
  rintro s t c p _ ⟨h1, h2⟩ e
  refine ⟨ag_V_E hg h1 e, ?_⟩
  rw [Nat.add_comm]
  exact ag_RcC (ag_E_rev h1.2.2.2.1 h1.2.2.2.2.1 h1.2.2.2.2.2 e) h2
theorem ag_Ls_rev {w : Nat → Bool} {go : Nat → Nat → Bool} (hg : ag_Gd w go) {f : Bool} {T : Nat} {a t : Nat × Nat × Nat} {c : Nat} (ha : ag_V w T a) (ht : ag_V w T t) : ag_Ls (ag_E (ag_gr go) f) t a c ↔ ag_Ls (ag_E go f) a t c := by
  have g2 : ag_gr (ag_gr go) = go := rfl
  have k : ∀ c, ag_Rc (ag_E (ag_gr go) f) t a c ↔ ag_Rc (ag_E go f) a t c := fun c =>
    ⟨fun h => by
      have := (ag_Rc_rev (ag_Gd_gr hg) ht h).2
      rw [g2] at this
      exact this, fun h => (ag_Rc_rev hg ha h).2⟩
  unfold ag_Ls
  rw [k c]
  exact ⟨fun h => ⟨h.1, fun c' h' => h.2 c' ((k c').mpr h')⟩, fun h => ⟨h.1, fun c' h' => h.2 c' ((k c').mp h')⟩⟩
/-! the first plan -/
def ag_Cd (E : Nat × Nat × Nat → Nat × Nat × Nat → Nat → Prop) (z : Nat × Nat × Nat) (j : Nat) (q q' : Nat × Nat × Nat) : Prop := E q q' 1 ∧ ag_Ls E q' z j
def ag_Pk (E : Nat × Nat × Nat → Nat × Nat × Nat → Nat → Prop) (z : Nat × Nat × Nat) (j : Nat) (q q' : Nat × Nat × Nat) : Prop := ag_Cd E z j q q' ∧ ∀ r, ag_Cd E z j q r → ag_ex q' ≤ ag_ex r
def ag_Wk (E : Nat × Nat × Nat → Nat × Nat × Nat → Nat → Prop) (a z : Nat × Nat × Nat) (L : Nat) : Nat → Nat × Nat × Nat → Prop
  | 0 => fun q => q = a
  | n + 1 => fun q' => ∃ q, ag_Wk E a z L n q ∧ ag_Pk E z (L - n - 1) q q'
theorem ag_WkL {E : Nat × Nat × Nat → Nat × Nat × Nat → Nat → Prop} {a z : Nat × Nat × Nat} {L : Nat} (hL : ag_Ls E a z L) : ∀ n q, n ≤ L → ag_Wk E a z L n q → ag_Ls E a q n ∧ ag_Ls E q z (L - n) := by
  intro n
  induction n with
  | zero => intro q _ h; rw [show q = a from h]; exact ⟨ag_LsO E a, hL⟩
  | succ n ih =>
    rintro q' hn ⟨q, h1, ⟨h2, h3⟩, _⟩
    obtain ⟨i1, i2⟩ := ih q (by omega) h1
    rw [show L - (n + 1) = L - n - 1 by omega]
    refine ⟨⟨ag_RcS i1.1 h2, fun c hc => ?_⟩, h3⟩
    have := hL.2 _ (ag_RcT hc h3.1)
    omega
theorem ag_WkV {w : Nat → Bool} {go : Nat → Nat → Bool} (hg : ag_Gd w go) {f : Bool} {T : Nat} {a z : Nat × Nat × Nat} {L : Nat} (ha : ag_V w T a) : ∀ n q, ag_Wk (ag_E go f) a z L n q → ag_V w T q := by
  intro n
  induction n with
  | zero => intro q h; rw [show q = a from h]; exact ha
  | succ n ih => rintro q' ⟨q, h1, ⟨h2, _⟩, _⟩; exact ag_V_E hg (ih q h1) h2
theorem ag_WkU {w : Nat → Bool} {go : Nat → Nat → Bool} (hg : ag_Gd w go) {f : Bool} {T : Nat} {a z : Nat × Nat × Nat} {L : Nat} (ha : ag_V w T a) : ∀ n q r, ag_Wk (ag_E go f) a z L n q → ag_Wk (ag_E go f) a z L n r → q = r := by
  intro n
  induction n with
  | zero => intro q r h h'; rw [show q = a from h, show r = a from h']
  | succ n ih =>
    rintro q' r' ⟨q, h1, h2, h3⟩ ⟨r, k1, k2, k3⟩
    have := ih q r h1 k1
    subst this
    have v := ag_WkV hg ha n q h1
    exact ag_ex_inj (ag_V_E hg v h2.1) (ag_V_E hg v k2.1) (Nat.le_antisymm (h3 r' k2) (k3 q' h2))
/-- what the reference asks of the next state on the way is what the class asks -/
theorem ag_gd {E : Nat × Nat × Nat → Nat × Nat × Nat → Nat → Prop} {a z : Nat × Nat × Nat} {L n : Nat} (hL : ag_Ls E a z L) (hn : n < L) {q q' : Nat × Nat × Nat} (h1 : ag_Ls E a q n) (h2 : ag_Ls E q z (L - n)) (e : E q q' 1) : (ag_Ls E a q' (n + 1) ∧ ag_Rc E q' z (L - (n + 1))) ↔ ag_Ls E q' z (L - n - 1) := by
  rw [show L - (n + 1) = L - n - 1 by omega]
  constructor
  · rintro ⟨_, k2⟩
    refine ⟨k2, fun c hc => ?_⟩
    have := h2.2 _ (ag_RcC e hc)
    omega
  · intro k
    refine ⟨⟨ag_RcS h1.1 e, fun c hc => ?_⟩, k.1⟩
    have := hL.2 _ (ag_RcT hc k.1)
    omega
