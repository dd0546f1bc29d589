/-! the relation; readiness on both sides -/
variable {g nc : Int32} {pl gl cg co ns nt : Nat → Int32} {sz : Int32} {is py gy wk st cs gd : Nat → Int32}
def ag_Wr (z : Nat → Bool) (P G : Nat → Nat) (pl gl is py gy : Nat → Int32) : Prop := ∀ i, i < 3 → is i = ag_b1 (z i) ∧ P i < 12 ∧ G i < 12 ∧ (z i = true → pl i = nI (P i) ∧ gl i = nI (G i) ∧ py i = nI (P i) ∧ gy i = nI (G i)) ∧ (z i = false → pl i = -1)
def i_Rel (_ : Nat) (u : SX) (v : SY) : Prop := ∃ (w : Nat → Bool) (o : Nat → Nat) (z : Nat → Bool) (P G : Nat → Nat) (g nc : Int32) (pl gl cg co ns nt : Nat → Int32) (sz : Int32) (is py gy wk st cs gd : Nat → Int32), u = (g, nc, ag_bi w, ag_nf o, pl, gl, cg, co, ns, nt) ∧ v = (sz, ag_bi w, ag_nf o, is, py, gy, wk, st, cs, gd) ∧ (∀ c, c < 12 → o c < 16) ∧ ag_Wr z P G pl gl is py gy
theorem i_up {k : Nat} {u : SX} {v : SY} (h : i_Rel k u v) : i_Rel (k + 4) u v := h
def ag_Op (w z : Nat → Bool) (P G : Nat → Nat) (i : Nat) : Prop := z i = true ∧ w (P i) = false ∧ w (G i) = false
def ag_Rd (w z : Nat → Bool) (P G : Nat → Nat) (T : Nat) : Prop := (1 ≤ T ∧ T ≤ 7) ∧ (∀ i, i < 3 → T.testBit i = true → ag_Op w z P G i) ∧ (∀ i j, i < 3 → j < i → T.testBit i = true → T.testBit j = true → P i ≠ P j ∧ G i ≠ G j)
theorem ag_nm1 {n : Nat} (h : n < 2 ^ 31) : nI n ≠ -1 := fun e => nI_pos h (by rw [e]; decide)
theorem ag_openX {post : Int32 → Prop} {w z : Nat → Bool} {o P G : Nat → Nat} (hW : ag_Wr z P G pl gl is py gy) {i : Nat} (hi : i < 3) (p1 : ag_Op w z P G i → post 1) (p0 : ¬ ag_Op w z P G i → post 0) : wpX_isSetOnOpenCells post (g, nc, ag_bi w, ag_nf o, pl, gl, cg, co, ns, nt) (nI i) := by
  obtain ⟨_, b1, b2, h1, h0⟩ := hW i hi
  unfold wpX_isSetOnOpenCells
  dsimp only
  refine ⟨vp_in_nI hi (by omega), ?_⟩
  rw [nI_clamp (n := i) (by omega)]
  cases e : z i
  · exact br_t (h0 e) (p0 (fun q => by rw [q.1] at e; exact absurd e (by decide)))
  · obtain ⟨e1, e2, _, _⟩ := h1 e
    rw [e1, e2, nI_clamp (n := P i) (by omega), nI_clamp (n := G i) (by omega)]
    refine br_f (ag_nm1 (by omega)) ⟨vp_in_nI hi (by omega), vp_in_nI b1 (by omega), ?_⟩
    refine br_c (fun q1 => ?_) (fun q1 => ?_)
    · rw [ag_bi0] at q1
      refine ⟨vp_in_nI hi (by omega), vp_in_nI b2 (by omega), ?_⟩
      refine br_c (fun q2 => ?_) (fun q2 => ?_)
      · rw [ag_bi0] at q2
        exact p1 ⟨e, q1, q2⟩
      · rw [ag_bi0] at q2
        exact p0 (fun q => q2 q.2.2)
    · rw [ag_bi0] at q1
      exact p0 (fun q => q1 q.2.1)
def ag_Ms (T : Nat) (P : Nat → Nat) (i m : Nat) : Prop := m < 2 ^ 31 ∧ ∀ c, m.testBit c = true ↔ ∃ j, j < i ∧ T.testBit j = true ∧ P j = c
theorem ag_Ms_n {T : Nat} {P : Nat → Nat} {i m : Nat} (h : ag_Ms T P i m) (hb : T.testBit i = false) : ag_Ms T P (i + 1) m := by
  refine ⟨h.1, fun c => ?_⟩
  rw [h.2 c]
  constructor
  · rintro ⟨j, a, b, e⟩; exact ⟨j, by omega, b, e⟩
  · rintro ⟨j, a, b, e⟩
    refine ⟨j, ?_, b, e⟩
    have : j ≠ i := fun z => by rw [z, hb] at b; exact absurd b (by decide)
    omega
theorem ag_Ms_y {T : Nat} {P : Nat → Nat} {i m : Nat} (h : ag_Ms T P i m) (hb : T.testBit i = true) (hP : P i < 31) : ag_Ms T P (i + 1) (m ||| 2 ^ P i) := by
  refine ⟨ag_or_lt h.1 (ag_pw hP), fun c => ?_⟩
  rw [Nat.testBit_or, Nat.testBit_two_pow, Bool.or_eq_true, h.2 c, decide_eq_true_eq]
  constructor
  · rintro (⟨j, a, b, e⟩ | e)
    · exact ⟨j, by omega, b, e⟩
    · exact ⟨i, by omega, hb, e⟩
  · rintro ⟨j, a, b, e⟩
    by_cases y : j = i
    · subst y; exact Or.inr e
    · exact Or.inl ⟨j, by omega, b, e⟩
theorem ag_rdX {post : Int32 → Prop} {w z : Nat → Bool} {o P G : Nat → Nat} (hW : ag_Wr z P G pl gl is py gy) {x : Int32} (p1 : ∀ T, x = nI T → ag_Rd w z P G T → post 1) (p0 : (∀ T, x = nI T → ¬ ag_Rd w z P G T) → post 0) : wpX_isReady post (g, nc, ag_bi w, ag_nf o, pl, gl, cg, co, ns, nt) x := by
  unfold wpX_isReady
  dsimp only
  refine br_c (fun h => p0 ?_) (fun h => ?_)
  · intro T e r
    rw [e] at h
    have := r.1
    exact absurd h (nI_nlt (b := 1) (by omega) (by omega))
  · have hx0 : ¬ x < 0 := fun q => by
      apply h
      rw [Int32.lt_iff_toInt_lt] at q ⊢
      have e0 : (0 : Int32).toInt = 0 := by decide
      have e1 : (1 : Int32).toInt = 1 := by decide
      omega
    obtain ⟨T, hT, rfl⟩ := nI_of hx0
    have hT1 : 1 ≤ T := by
      by_cases y : 1 ≤ T
      · exact y
      · exact absurd (nI_lt (b := 1) (by omega) (by omega)) h
    refine pk_le T 7 (fun hT7 => ?_) (fun hT7 => p0 (fun T' e r => ?_))
    · have q0 : ¬ ag_Rd w z P G T → post 0 := fun r => p0 (fun T' e r' => by
        have h1 := r'.1
        rw [nI_eq (by omega) (by omega)] at e
        subst e
        exact r r')
      refine loop_0 (fun n i (s : Int32 × Int32) => wX_isReady_20 post (nI T) g nc (ag_bi w) (ag_nf o) pl gl cg co ns nt n s.1 s.2 (nI i))
        (fun i s => ∃ m1 m2, s.1 = nI m1 ∧ s.2 = nI m2 ∧ ag_Ms T P i m1 ∧ ag_Ms T G i m2 ∧ (∀ j, j < i → T.testBit j = true → ag_Op w z P G j) ∧ (∀ a b, a < i → b < a → T.testBit a = true → T.testBit b = true → P a ≠ P b ∧ G a ≠ G b)) 3 (nI 0, nI 0) ?_ ?_ ?_
      · have h0 : ∀ P : Nat → Nat, ag_Ms T P 0 0 := fun P => ⟨by omega, fun c => by
          rw [Nat.zero_testBit]
          exact ⟨fun q => absurd q (by decide), fun ⟨j, q, _⟩ => absurd q (by omega)⟩⟩
        exact ⟨0, 0, rfl, rfl, h0 P, h0 G, fun j q => absurd q (by omega), fun a b q => absurd q (by omega)⟩
      · rintro n ⟨s1, s2⟩ ⟨m1, m2, _, _, _, _, i3, i4⟩
        exact br_t (nI_le (b := 3) (Nat.le_refl _) (by decide)) (p1 T rfl ⟨⟨hT1, hT7⟩, i3, fun a b h1 h2 => i4 a b h1 h2⟩)
      · rintro n i ⟨s1, s2⟩ hi ⟨m1, m2, e1, e2, i1, i2, i3, i4⟩ ih
        dsimp only at e1 e2 ⊢
        subst e1
        subst e2
        refine br_f (nI_ge (b := 3) hi (by decide)) (ag_inX (by omega) hi (fun hb => ?_) (fun hb => ?_))
        · refine br_f (by decide) (ag_openX hW hi (fun hO => ?_) (fun hO => ?_))
          · obtain ⟨_, b1, b2, h1, _⟩ := hW i hi
            obtain ⟨f1, f2, _, _⟩ := h1 hO.1
            refine br_f (by decide) ⟨vp_in_nI hi (by omega), nm_r (e' := nI (2 ^ P i)) (by rw [nI_clamp (by omega), f1, ag_one (by omega)]) ⟨vp_in_nI hi (by omega), nm_r (e' := nI (2 ^ G i)) (by rw [nI_clamp (by omega), f2, ag_one (by omega)]) ?_⟩⟩
            refine br_c (fun q1 => ?_) (fun q1 => ?_)
            · rw [ag_and0 i1.1 (by omega)] at q1
              refine br_c (fun q2 => ?_) (fun q2 => ?_)
              · rw [ag_and0 i2.1 (by omega)] at q2
                refine nm_r (ag_or m1 (2 ^ P i)) (nm_r (ag_or m2 (2 ^ G i)) (nm_r (nI_1 i) (ih (nI (m1 ||| 2 ^ P i), nI (m2 ||| 2 ^ G i)) ⟨_, _, rfl, rfl, ag_Ms_y i1 hb (by omega), ag_Ms_y i2 hb (by omega), fun j hj hbj => ?_, fun a b ha hb' ba bb => ?_⟩)))
                · by_cases y : j = i
                  · rw [y]; exact hO
                  · exact i3 j (by omega) hbj
                · by_cases y : a = i
                  · subst y
                    refine ⟨fun e => ?_, fun e => ?_⟩
                    · have := (i1.2 (P a)).mpr ⟨b, hb', bb, e.symm⟩
                      rw [q1] at this
                      exact absurd this (by decide)
                    · have := (i2.2 (G a)).mpr ⟨b, hb', bb, e.symm⟩
                      rw [q2] at this
                      exact absurd this (by decide)
                  · exact i4 a b (by omega) hb' ba bb
              · rw [ag_and0 i2.1 (by omega)] at q2
                refine q0 (fun r => ?_)
                obtain ⟨j, hj, bj, e⟩ := (i2.2 (G i)).mp (by simpa using q2)
                exact (r.2.2 i j hi hj hb bj).2 e.symm
            · rw [ag_and0 i1.1 (by omega)] at q1
              refine q0 (fun r => ?_)
              obtain ⟨j, hj, bj, e⟩ := (i1.2 (P i)).mp (by simpa using q1)
              exact (r.2.2 i j hi hj hb bj).1 e.symm
          · exact br_t rfl (q0 (fun r => hO (r.2.1 i hi hb)))
        · refine br_t rfl (nm_r (nI_1 i) (ih (nI m1, nI m2) ⟨m1, m2, rfl, rfl, ag_Ms_n i1 hb, ag_Ms_n i2 hb, fun j hj hbj => ?_, fun a b ha hb' ba bb => ?_⟩))
          · refine i3 j ?_ hbj
            have : j ≠ i := fun y => by rw [y, hb] at hbj; exact absurd hbj (by decide)
            omega
          · refine i4 a b ?_ hb' ba bb
            have : a ≠ i := fun y => by rw [y, hb] at ba; exact absurd ba (by decide)
            omega
    · rw [nI_eq hT (by have := r.1; omega)] at e
      have := r.1
      omega
/-- what the reference has seen of a team up to walker i -/
def ag_Cy (w z : Nat → Bool) (P G : Nat → Nat) (T i : Nat) : Prop := (∀ j, j < i → T.testBit j = true → ag_Op w z P G j) ∧ (∀ a b, a < i → b < a → T.testBit a = true → T.testBit b = true → P a ≠ P b ∧ G a ≠ G b)
theorem ag_i81 {post : Int32 → Prop} {J17 : Int32 → Int32 → Prop} {w z : Nat → Bool} {o P G : Nat → Nat} (hW : ag_Wr z P G pl gl is py gy) {T i : Nat} (hT : T ≤ 7) (hi : i < 3) {s : Int32} (hs : (s = 1 ∧ ag_Cy w z P G T i ∧ (T.testBit i = true → ag_Op w z P G i)) ∨ (s = 0 ∧ ¬ ag_Rd w z P G T)) (p : ∀ s', (s' = 1 ∧ ag_Cy w z P G T (i + 1)) ∨ (s' = 0 ∧ ¬ ag_Rd w z P G T) → J17 s' (nI (i + 1))) : ∃ n, wY_isReady_81 post J17 (nI T) (nI i) sz (ag_bi w) (ag_nf o) is py gy wk st cs gd n s 0 := by
  refine loop_0 (fun n j s => wY_isReady_81 post J17 (nI T) (nI i) sz (ag_bi w) (ag_nf o) is py gy wk st cs gd n s (nI j))
    (fun j s => (s = 1 ∧ ag_Cy w z P G T i ∧ (T.testBit i = true → ag_Op w z P G i) ∧ (∀ b, b < j → T.testBit i = true → T.testBit b = true → P i ≠ P b ∧ G i ≠ G b)) ∨ (s = 0 ∧ ¬ ag_Rd w z P G T)) i s ?_ ?_ ?_
  · rcases hs with ⟨a, b, c⟩ | h
    · exact Or.inl ⟨a, b, c, fun b h => absurd h (by omega)⟩
    · exact Or.inr h
  · intro n s h
    refine br_t (nI_le (Nat.le_refl i) (by omega)) (nm_r (nI_1 i) (p s ?_))
    rcases h with ⟨e, c1, c2, c3⟩ | h
    · refine Or.inl ⟨e, fun j hj hb => ?_, fun a b ha hb ba bb => ?_⟩
      · by_cases y : j = i
        · rw [y] at hb ⊢; exact c2 hb
        · exact c1.1 j (by omega) hb
      · by_cases y : a = i
        · rw [y] at ba ⊢; exact c3 b (by omega) ba bb
        · exact c1.2 a b (by omega) hb ba bb
    · exact Or.inr h
  · intro n j s hj h ih
    refine br_f (nI_ge hj (by omega)) ?_
    rcases h with ⟨e, c1, c2, c3⟩ | ⟨e, h⟩
    · subst e
      have go1 : (T.testBit i = true → T.testBit j = true → P i ≠ P j ∧ G i ≠ G j) → wY_isReady_81 post J17 (nI T) (nI i) sz (ag_bi w) (ag_nf o) is py gy wk st cs gd n 1 (nI (j + 1)) := fun q => by
        refine ih 1 (Or.inl ⟨rfl, c1, c2, fun b hb bi bb => ?_⟩)
        by_cases y : b = j
        · rw [y] at bb ⊢; exact q bi bb
        · exact c3 b (by omega) bi bb
      have go0 : ¬ (T.testBit i = true → T.testBit j = true → P i ≠ P j ∧ G i ≠ G j) → wY_isReady_81 post J17 (nI T) (nI i) sz (ag_bi w) (ag_nf o) is py gy wk st cs gd n 0 (nI (j + 1)) := fun q => by
        exact ih 0 (Or.inr ⟨rfl, fun r => q (fun bi bj => r.2.2 i j hi hj bi bj)⟩)
      refine br_f (by decide) (ag_inY (by omega) hi (fun bi => ?_) (fun bi => ?_))
      · refine br_f (by decide) (ag_inY (by omega) (by omega) (fun bj => ?_) (fun bj => ?_))
        · refine br_f (by decide) ⟨vp_in_nI hi (by omega), vp_in_nI (show j < 3 by omega) (by omega), ?_⟩
          obtain ⟨_, b1, b2, h1, _⟩ := hW i hi
          obtain ⟨_, d1, d2, k1, _⟩ := hW j (by omega)
          obtain ⟨_, _, f1, f2⟩ := h1 (c2 bi).1
          obtain ⟨_, _, f3, f4⟩ := k1 (c1.1 j hj bj).1
          rw [nI_clamp (n := i) (by omega), nI_clamp (n := j) (by omega), f1, f2, f3, f4]
          refine pk_eq (P i) (P j) (fun e => ?_) (fun ne => ⟨vp_in_nI hi (by omega), vp_in_nI (show j < 3 by omega) (by omega), ?_⟩)
          · exact nm_r (nI_1 j) (go0 (fun q => (q bi bj).1 e))
          · refine pk_eq (G i) (G j) (fun e => ?_) (fun ne2 => ?_)
            · exact nm_r (nI_1 j) (go0 (fun q => (q bi bj).2 e))
            · exact nm_r (nI_1 j) (go1 (fun _ _ => ⟨ne, ne2⟩))
        · exact br_t rfl (nm_r (nI_1 j) (go1 (fun _ q => by rw [bj] at q; exact absurd q (by decide))))
      · exact br_t rfl (nm_r (nI_1 j) (go1 (fun q => by rw [bi] at q; exact absurd q (by decide))))
    · subst e
      exact br_t rfl (nm_r (nI_1 j) (ih 0 (Or.inr ⟨rfl, h⟩)))
theorem ag_rdY {post : Int32 → Prop} {w z : Nat → Bool} {o P G : Nat → Nat} (hW : ag_Wr z P G pl gl is py gy) {x : Int32} (p1 : ∀ T, x = nI T → ag_Rd w z P G T → post 1) (p0 : (∀ T, x = nI T → ¬ ag_Rd w z P G T) → post 0) : wpY_isReady post (sz, ag_bi w, ag_nf o, is, py, gy, wk, st, cs, gd) x := by
  unfold wpY_isReady
  dsimp only
  refine br_c (fun h => p0 ?_) (fun h => ?_)
  · intro T e r
    rw [e] at h
    have := r.1
    exact absurd h (nI_nlt (b := 1) (by omega) (by omega))
  · have hx0 : ¬ x < 0 := fun q => by
      apply h
      rw [Int32.lt_iff_toInt_lt] at q ⊢
      have e0 : (0 : Int32).toInt = 0 := by decide
      have e1 : (1 : Int32).toInt = 1 := by decide
      omega
    obtain ⟨T, hT, rfl⟩ := nI_of hx0
    have hT1 : 1 ≤ T := by
      by_cases y : 1 ≤ T
      · exact y
      · exact absurd (nI_lt (b := 1) (by omega) (by omega)) h
    refine pk_le T 7 (fun hT7 => ?_) (fun hT7 => p0 (fun T' e r => ?_))
    · have q0 : ¬ ag_Rd w z P G T → post 0 := fun r => p0 (fun T' e r' => by
        have h1 := r'.1
        rw [nI_eq (by omega) (by omega)] at e
        subst e
        exact r r')
      refine loop_0 (fun n i s => wY_isReady_17 post (nI T) sz (ag_bi w) (ag_nf o) is py gy wk st cs gd n s (nI i))
        (fun i s => (s = 1 ∧ ag_Cy w z P G T i) ∨ (s = 0 ∧ ¬ ag_Rd w z P G T)) 3 1 (Or.inl ⟨rfl, fun j q => absurd q (by omega), fun a b q => absurd q (by omega)⟩) ?_ ?_
      · intro n s hs
        refine br_t (nI_le (b := 3) (Nat.le_refl _) (by decide)) ?_
        rcases hs with ⟨e, c⟩ | ⟨e, c⟩
        · subst e
          exact ⟨rfl, p1 T rfl ⟨⟨hT1, hT7⟩, c.1, fun a b h1 h2 => c.2 a b h1 h2⟩⟩
        · subst e
          exact ⟨rfl, q0 c⟩
      · intro n i s hi hs ih
        refine br_f (nI_ge (b := 3) hi (by decide)) ?_
        rcases hs with ⟨e, c⟩ | ⟨e, c⟩
        · subst e
          obtain ⟨e0, b1, b2, h1, h0⟩ := hW i hi
          have bad : T.testBit i = true → ¬ ag_Op w z P G i → ∃ n81, wY_isReady_81 post (wY_isReady_17 post (nI T) sz (ag_bi w) (ag_nf o) is py gy wk st cs gd n) (nI T) (nI i) sz (ag_bi w) (ag_nf o) is py gy wk st cs gd n81 0 0 := fun bi q => ag_i81 hW hT7 hi (Or.inr ⟨rfl, fun r => q (r.2.1 i hi bi)⟩) ih
          refine br_f (by decide) (ag_inY (by omega) hi (fun bi => ?_) (fun bi => ?_))
          · refine br_f (by decide) ⟨vp_in_nI hi (by omega), ?_⟩
            rw [nI_clamp (n := i) (by omega), e0]
            refine br_c (fun q => ?_) (fun q => ?_)
            · rw [ag_b10] at q
              exact bad bi (fun r => by rw [r.1] at q; exact absurd q (by decide))
            · rw [ag_b10] at q
              have hz : z i = true := by simpa using q
              obtain ⟨_, _, f1, f2⟩ := h1 hz
              rw [f1, f2, nI_clamp (n := P i) (by omega), nI_clamp (n := G i) (by omega)]
              refine ⟨vp_in_nI hi (by omega), vp_in_nI b1 (by omega), ?_⟩
              refine br_c (fun q1 => ?_) (fun q1 => ?_)
              · rw [ag_bi0] at q1
                refine ⟨vp_in_nI hi (by omega), vp_in_nI b2 (by omega), ?_⟩
                refine br_c (fun q2 => ?_) (fun q2 => ?_)
                · rw [ag_bi0] at q2
                  exact ag_i81 hW hT7 hi (Or.inl ⟨rfl, c, fun _ => ⟨hz, q1, q2⟩⟩) ih
                · rw [ag_bi0] at q2
                  exact bad bi (fun r => q2 r.2.2)
              · rw [ag_bi0] at q1
                exact bad bi (fun r => q1 r.2.1)
          · exact br_t rfl (ag_i81 hW hT7 hi (Or.inl ⟨rfl, c, fun q => by rw [bi] at q; exact absurd q (by decide)⟩) ih)
        · subst e
          exact br_t rfl (ag_i81 hW hT7 hi (Or.inr ⟨rfl, c⟩) ih)
    · rw [nI_eq hT (by have := r.1; omega)] at e
      have := r.1
      omega
