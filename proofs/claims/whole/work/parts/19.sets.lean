/-! swarm: the cells of a team as sets -/
variable {g nc : Int32} {wl wo pl gl cg co ns nt : Nat → Int32} {sz : Int32} {iw is py gy wk st cs gd : Nat → Int32}
def ag_co (q : Nat × Nat × Nat) (j : Nat) : Nat := if j = 0 then q.1 else if j = 1 then q.2.1 else q.2.2
def ag_vv (T : Nat) (q : Nat × Nat × Nat) (k : Nat) : Nat := if k = 0 then (if T = 2 then q.2.1 else if T = 6 then q.2.1 else if T = 4 then q.2.2 else q.1) else if k = 1 then (if T = 3 then q.2.1 else if T = 7 then q.2.1 else if T = 5 then q.2.2 else if T = 6 then q.2.2 else 0) else if k = 2 then (if T = 7 then q.2.2 else 0) else 0
theorem ag_ey_vv : ∀ T, 1 ≤ T → T ≤ 7 → ∀ q, ag_ey T q = 144 * ag_vv T q 0 + 12 * ag_vv T q 1 + ag_vv T q 2 :=
  ag_T7 (fun _ => rfl) (fun _ => rfl) (fun _ => rfl) (fun _ => rfl) (fun _ => rfl) (fun _ => rfl) (fun _ => rfl)
theorem ag_wT1 (h : ag_Wl 1 wk) : ∀ k, k < ag_sz 1 → ∃ j, j < 3 ∧ wk k = nI j ∧ Nat.testBit 1 j = true ∧ ∀ q, ag_vv 1 q k = ag_co q j := by
  intro k hk
  have : k = 0 := by have : k < 1 := hk; omega
  subst this
  exact ⟨0, by omega, h 0 (by omega) rfl, rfl, fun _ => rfl⟩
theorem ag_wU1 : ∀ j, j < 3 → Nat.testBit 1 j = true → ∃ k, k < ag_sz 1 ∧ ∀ q, ag_vv 1 q k = ag_co q j := by
  intro j hj hb
  have : j = 0 ∨ j = 1 ∨ j = 2 := by omega
  rcases this with rfl | rfl | rfl
  · exact ⟨0, by decide, fun _ => rfl⟩
  · exact absurd hb (by decide)
  · exact absurd hb (by decide)
theorem ag_wT2 (h : ag_Wl 2 wk) : ∀ k, k < ag_sz 2 → ∃ j, j < 3 ∧ wk k = nI j ∧ Nat.testBit 2 j = true ∧ ∀ q, ag_vv 2 q k = ag_co q j := by
  intro k hk
  have : k = 0 := by have : k < 1 := hk; omega
  subst this
  exact ⟨1, by omega, h 1 (by omega) rfl, rfl, fun _ => rfl⟩
theorem ag_wU2 : ∀ j, j < 3 → Nat.testBit 2 j = true → ∃ k, k < ag_sz 2 ∧ ∀ q, ag_vv 2 q k = ag_co q j := by
  intro j hj hb
  have : j = 0 ∨ j = 1 ∨ j = 2 := by omega
  rcases this with rfl | rfl | rfl
  · exact absurd hb (by decide)
  · exact ⟨0, by decide, fun _ => rfl⟩
  · exact absurd hb (by decide)
theorem ag_wT3 (h : ag_Wl 3 wk) : ∀ k, k < ag_sz 3 → ∃ j, j < 3 ∧ wk k = nI j ∧ Nat.testBit 3 j = true ∧ ∀ q, ag_vv 3 q k = ag_co q j := by
  intro k hk
  have : k = 0 ∨ k = 1 := by have : k < 2 := hk; omega
  rcases this with rfl | rfl
  · exact ⟨0, by omega, h 0 (by omega) rfl, rfl, fun _ => rfl⟩
  · exact ⟨1, by omega, h 1 (by omega) rfl, rfl, fun _ => rfl⟩
theorem ag_wU3 : ∀ j, j < 3 → Nat.testBit 3 j = true → ∃ k, k < ag_sz 3 ∧ ∀ q, ag_vv 3 q k = ag_co q j := by
  intro j hj hb
  have : j = 0 ∨ j = 1 ∨ j = 2 := by omega
  rcases this with rfl | rfl | rfl
  · exact ⟨0, by decide, fun _ => rfl⟩
  · exact ⟨1, by decide, fun _ => rfl⟩
  · exact absurd hb (by decide)
theorem ag_wT4 (h : ag_Wl 4 wk) : ∀ k, k < ag_sz 4 → ∃ j, j < 3 ∧ wk k = nI j ∧ Nat.testBit 4 j = true ∧ ∀ q, ag_vv 4 q k = ag_co q j := by
  intro k hk
  have : k = 0 := by have : k < 1 := hk; omega
  subst this
  exact ⟨2, by omega, h 2 (by omega) rfl, rfl, fun _ => rfl⟩
theorem ag_wU4 : ∀ j, j < 3 → Nat.testBit 4 j = true → ∃ k, k < ag_sz 4 ∧ ∀ q, ag_vv 4 q k = ag_co q j := by
  intro j hj hb
  have : j = 0 ∨ j = 1 ∨ j = 2 := by omega
  rcases this with rfl | rfl | rfl
  · exact absurd hb (by decide)
  · exact absurd hb (by decide)
  · exact ⟨0, by decide, fun _ => rfl⟩
theorem ag_wT5 (h : ag_Wl 5 wk) : ∀ k, k < ag_sz 5 → ∃ j, j < 3 ∧ wk k = nI j ∧ Nat.testBit 5 j = true ∧ ∀ q, ag_vv 5 q k = ag_co q j := by
  intro k hk
  have : k = 0 ∨ k = 1 := by have : k < 2 := hk; omega
  rcases this with rfl | rfl
  · exact ⟨0, by omega, h 0 (by omega) rfl, rfl, fun _ => rfl⟩
  · exact ⟨2, by omega, h 2 (by omega) rfl, rfl, fun _ => rfl⟩
theorem ag_wU5 : ∀ j, j < 3 → Nat.testBit 5 j = true → ∃ k, k < ag_sz 5 ∧ ∀ q, ag_vv 5 q k = ag_co q j := by
  intro j hj hb
  have : j = 0 ∨ j = 1 ∨ j = 2 := by omega
  rcases this with rfl | rfl | rfl
  · exact ⟨0, by decide, fun _ => rfl⟩
  · exact absurd hb (by decide)
  · exact ⟨1, by decide, fun _ => rfl⟩
theorem ag_wT6 (h : ag_Wl 6 wk) : ∀ k, k < ag_sz 6 → ∃ j, j < 3 ∧ wk k = nI j ∧ Nat.testBit 6 j = true ∧ ∀ q, ag_vv 6 q k = ag_co q j := by
  intro k hk
  have : k = 0 ∨ k = 1 := by have : k < 2 := hk; omega
  rcases this with rfl | rfl
  · exact ⟨1, by omega, h 1 (by omega) rfl, rfl, fun _ => rfl⟩
  · exact ⟨2, by omega, h 2 (by omega) rfl, rfl, fun _ => rfl⟩
theorem ag_wU6 : ∀ j, j < 3 → Nat.testBit 6 j = true → ∃ k, k < ag_sz 6 ∧ ∀ q, ag_vv 6 q k = ag_co q j := by
  intro j hj hb
  have : j = 0 ∨ j = 1 ∨ j = 2 := by omega
  rcases this with rfl | rfl | rfl
  · exact absurd hb (by decide)
  · exact ⟨0, by decide, fun _ => rfl⟩
  · exact ⟨1, by decide, fun _ => rfl⟩
theorem ag_wT7 (h : ag_Wl 7 wk) : ∀ k, k < ag_sz 7 → ∃ j, j < 3 ∧ wk k = nI j ∧ Nat.testBit 7 j = true ∧ ∀ q, ag_vv 7 q k = ag_co q j := by
  intro k hk
  have : k = 0 ∨ k = 1 ∨ k = 2 := by have : k < 3 := hk; omega
  rcases this with rfl | rfl | rfl
  · exact ⟨0, by omega, h 0 (by omega) rfl, rfl, fun _ => rfl⟩
  · exact ⟨1, by omega, h 1 (by omega) rfl, rfl, fun _ => rfl⟩
  · exact ⟨2, by omega, h 2 (by omega) rfl, rfl, fun _ => rfl⟩
theorem ag_wU7 : ∀ j, j < 3 → Nat.testBit 7 j = true → ∃ k, k < ag_sz 7 ∧ ∀ q, ag_vv 7 q k = ag_co q j := by
  intro j hj hb
  have : j = 0 ∨ j = 1 ∨ j = 2 := by omega
  rcases this with rfl | rfl | rfl
  · exact ⟨0, by decide, fun _ => rfl⟩
  · exact ⟨1, by decide, fun _ => rfl⟩
  · exact ⟨2, by decide, fun _ => rfl⟩
theorem ag_wT : ∀ T, 1 ≤ T → T ≤ 7 → ag_Wl T wk → ∀ k, k < ag_sz T → ∃ j, j < 3 ∧ wk k = nI j ∧ T.testBit j = true ∧ ∀ q, ag_vv T q k = ag_co q j :=
  ag_T7 ag_wT1 ag_wT2 ag_wT3 ag_wT4 ag_wT5 ag_wT6 ag_wT7
theorem ag_wU : ∀ T, 1 ≤ T → T ≤ 7 → ∀ j, j < 3 → T.testBit j = true → ∃ k, k < ag_sz T ∧ ∀ q, ag_vv T q k = ag_co q j :=
  ag_T7 ag_wU1 ag_wU2 ag_wU3 ag_wU4 ag_wU5 ag_wU6 ag_wU7
/-- every team has a list of its walkers -/
theorem ag_Wl_ex (T : Nat) : ∃ wk, ag_Wl T wk := by
  refine ⟨fun k => nI (if k = ag_cn (fun j => T.testBit j) 0 ∧ T.testBit 0 = true then 0 else if k = ag_cn (fun j => T.testBit j) 1 ∧ T.testBit 1 = true then 1 else 2), fun j hj hb => ?_⟩
  dsimp only
  have k1 : ∀ i, i < j → T.testBit i = true → ag_cn (fun j => T.testBit j) i ≠ ag_cn (fun j => T.testBit j) j := fun i hi hbi e => by
    have := ag_cn_lt (fun j => T.testBit j) hi hbi
    omega
  have : j = 0 ∨ j = 1 ∨ j = 2 := by omega
  rcases this with rfl | rfl | rfl
  · rw [if_pos ⟨rfl, hb⟩]
  · rw [if_neg (fun q => k1 0 (by omega) q.2 q.1.symm), if_pos ⟨rfl, hb⟩]
  · rw [if_neg (fun q => k1 0 (by omega) q.2 q.1.symm), if_neg (fun q => k1 1 (by omega) q.2 q.1.symm)]
theorem ag_coV {w : Nat → Bool} {T : Nat} {q : Nat × Nat × Nat} (h : ag_V w T q) {j : Nat} (hj : j < 3) : ag_sp w (T.testBit j) j (ag_co q j) := by
  have : j = 0 ∨ j = 1 ∨ j = 2 := by omega
  rcases this with rfl | rfl | rfl
  · exact h.1
  · exact h.2.1
  · exact h.2.2.1
theorem ag_co_tr {T : Nat} {P : Nat → Nat} {j : Nat} (hj : j < 3) (hb : T.testBit j = true) : ag_co (ag_tr T P) j = P j := by
  have : j = 0 ∨ j = 1 ∨ j = 2 := by omega
  rcases this with rfl | rfl | rfl
  · show ag_sv T P 0 = _
    exact if_pos hb
  · show ag_sv T P 1 = _
    exact if_pos hb
  · show ag_sv T P 2 = _
    exact if_pos hb
theorem ag_vv12 {w : Nat → Bool} {T : Nat} (h1 : 1 ≤ T) (h7 : T ≤ 7) {q : Nat × Nat × Nat} (h : ag_V w T q) {k : Nat} (hk : k < ag_sz T) : ag_vv T q k < 12 := by
  obtain ⟨wk, hw⟩ := ag_Wl_ex T
  obtain ⟨j, hj, _, hb, e⟩ := ag_wT T h1 h7 hw k hk
  rw [e q]
  exact ((ag_coV h hj).1 hb).1
theorem ag_vv0 : ∀ T, 1 ≤ T → T ≤ 7 → ∀ q k, ag_sz T ≤ k → ag_vv T q k = 0 := by
  refine ag_T7 ?_ ?_ ?_ ?_ ?_ ?_ ?_
  · intro q k hk
    have hk' : 1 ≤ k := hk
    unfold ag_vv
    by_cases e1 : k = 1
    · subst e1
      first | rfl | (exfalso; omega)
    · by_cases e2 : k = 2
      · subst e2
        first | rfl | (exfalso; omega)
      · rw [if_neg (by omega), if_neg e1, if_neg e2]
  · intro q k hk
    have hk' : 1 ≤ k := hk
    unfold ag_vv
    by_cases e1 : k = 1
    · subst e1
      first | rfl | (exfalso; omega)
    · by_cases e2 : k = 2
      · subst e2
        first | rfl | (exfalso; omega)
      · rw [if_neg (by omega), if_neg e1, if_neg e2]
  · intro q k hk
    have hk' : 2 ≤ k := hk
    unfold ag_vv
    by_cases e1 : k = 1
    · subst e1
      first | rfl | (exfalso; omega)
    · by_cases e2 : k = 2
      · subst e2
        first | rfl | (exfalso; omega)
      · rw [if_neg (by omega), if_neg e1, if_neg e2]
  · intro q k hk
    have hk' : 1 ≤ k := hk
    unfold ag_vv
    by_cases e1 : k = 1
    · subst e1
      first | rfl | (exfalso; omega)
    · by_cases e2 : k = 2
      · subst e2
        first | rfl | (exfalso; omega)
      · rw [if_neg (by omega), if_neg e1, if_neg e2]
  · intro q k hk
    have hk' : 2 ≤ k := hk
    unfold ag_vv
    by_cases e1 : k = 1
    · subst e1
      first | rfl | (exfalso; omega)
    · by_cases e2 : k = 2
      · subst e2
        first | rfl | (exfalso; omega)
      · rw [if_neg (by omega), if_neg e1, if_neg e2]
  · intro q k hk
    have hk' : 2 ≤ k := hk
    unfold ag_vv
    by_cases e1 : k = 1
    · subst e1
      first | rfl | (exfalso; omega)
    · by_cases e2 : k = 2
      · subst e2
        first | rfl | (exfalso; omega)
      · rw [if_neg (by omega), if_neg e1, if_neg e2]
  · intro q k hk
    have hk' : 3 ≤ k := hk
    unfold ag_vv
    by_cases e1 : k = 1
    · subst e1
      first | rfl | (exfalso; omega)
    · by_cases e2 : k = 2
      · subst e2
        first | rfl | (exfalso; omega)
      · rw [if_neg (by omega), if_neg e1, if_neg e2]
def ag_dg (s k : Nat) : Nat := if k = 0 then s / 144 else if k = 1 then s / 12 % 12 else s % 12
theorem ag_dg_ey {w : Nat → Bool} {T : Nat} (h1 : 1 ≤ T) (h7 : T ≤ 7) {q : Nat × Nat × Nat} (h : ag_V w T q) {k : Nat} (hk : k < 3) : ag_dg (ag_ey T q) k = ag_vv T q k := by
  have b : ∀ k, ag_vv T q k < 12 := fun k => by
    by_cases y : k < ag_sz T
    · exact ag_vv12 h1 h7 h y
    · rw [ag_vv0 T h1 h7 q k (by omega)]; omega
  have b0 := b 0
  have b1 := b 1
  have b2 := b 2
  rw [ag_ey_vv T h1 h7 q]
  have : k = 0 ∨ k = 1 ∨ k = 2 := by omega
  rcases this with rfl | rfl | rfl
  · show (144 * ag_vv T q 0 + 12 * ag_vv T q 1 + ag_vv T q 2) / 144 = _
    omega
  · show (144 * ag_vv T q 0 + 12 * ag_vv T q 1 + ag_vv T q 2) / 12 % 12 = _
    omega
  · show (144 * ag_vv T q 0 + 12 * ag_vv T q 1 + ag_vv T q 2) % 12 = _
    omega
theorem ag_cellY {post : Int32 → Prop} {u : SY} {s k : Nat} (hs : s < 1728) (hk : k < 3) (p : post (nI (ag_dg s k))) : wpY_cell post u (nI s) (nI k) := by
  obtain ⟨sz, iw, wo, is, py, gy, wk, st, cs, gd⟩ := u
  unfold wpY_cell
  dsimp only
  have : k = 0 ∨ k = 1 ∨ k = 2 := by omega
  rcases this with rfl | rfl | rfl
  · refine br_t rfl ⟨by decide, ?_⟩
    rw [show (144 : Int32) = nI 144 from rfl, pk_div (by omega) (by omega) (by omega)]
    exact p
  · refine br_f (by decide) (br_t rfl ⟨by decide, by decide, ?_⟩)
    rw [show (12 : Int32) = nI 12 from rfl, pk_div (by omega) (by omega) (by omega), pk_rem (by omega) (by omega) (by omega)]
    exact p
  · refine br_f (by decide) (br_f (by decide) ⟨by decide, ?_⟩)
    rw [show (12 : Int32) = nI 12 from rfl, pk_rem (by omega) (by omega) (by omega)]
    exact p
def ag_om (v : Nat → Nat) : Nat → Nat
  | 0 => 0
  | i + 1 => ag_om v i ||| 2 ^ v i
theorem ag_om_lt {v : Nat → Nat} : ∀ {i : Nat}, (∀ k, k < i → v k < 31) → ag_om v i < 2 ^ 31 := by
  intro i
  induction i with
  | zero => intro _; exact Nat.two_pow_pos 31
  | succ i ih => exact fun h => ag_or_lt (ih (fun k hk => h k (by omega))) (ag_pw (h i (by omega)))
theorem ag_om_b (v : Nat → Nat) (i x : Nat) : (ag_om v i).testBit x = true ↔ ∃ k, k < i ∧ v k = x := by
  induction i with
  | zero => exact ⟨fun h => absurd h (by rw [show ag_om v 0 = 0 from rfl, Nat.zero_testBit]; decide), fun ⟨k, h, _⟩ => absurd h (by omega)⟩
  | succ i ih =>
    rw [show ag_om v (i + 1) = ag_om v i ||| 2 ^ v i from rfl, Nat.testBit_or, Nat.testBit_two_pow, Bool.or_eq_true, ih, decide_eq_true_eq]
    constructor
    · rintro (⟨k, h, e⟩ | e)
      · exact ⟨k, by omega, e⟩
      · exact ⟨i, by omega, e⟩
    · rintro ⟨k, h, e⟩
      by_cases y : k = i
      · subst y; exact Or.inr e
      · exact Or.inl ⟨k, by omega, e⟩
theorem ag_om_eq {v v' : Nat → Nat} {i i' : Nat} : ag_om v i = ag_om v' i' ↔ ∀ x, (∃ k, k < i ∧ v k = x) ↔ (∃ k, k < i' ∧ v' k = x) := by
  constructor
  · intro h x
    rw [← ag_om_b, ← ag_om_b, h]
  · intro h
    refine Nat.eq_of_testBit_eq (fun x => ?_)
    rw [Bool.eq_iff_iff, ag_om_b, ag_om_b]
    exact h x
/-- the same cells, by spots or by the team's list -/
theorem ag_same {w : Nat → Bool} {T : Nat} (h1 : 1 ≤ T) (h7 : T ≤ 7) {q e : Nat × Nat × Nat} (hq : ag_V w T q) (he : ag_V w T e) : ag_om (ag_vv T q) (ag_sz T) = ag_om (ag_vv T e) (ag_sz T) ↔ ag_om (ag_co q) 3 = ag_om (ag_co e) 3 := by
  obtain ⟨wk, hw⟩ := ag_Wl_ex T
  have A : ∀ q x, (∃ k, k < ag_sz T ∧ ag_vv T q k = x) ↔ (∃ j, j < 3 ∧ T.testBit j = true ∧ ag_co q j = x) := fun q x => by
    constructor
    · rintro ⟨k, hk, e⟩
      obtain ⟨j, hj, _, hb, ee⟩ := ag_wT T h1 h7 hw k hk
      exact ⟨j, hj, hb, by rw [← ee q]; exact e⟩
    · rintro ⟨j, hj, hb, e⟩
      obtain ⟨k, hk, ee⟩ := ag_wU T h1 h7 j hj hb
      exact ⟨k, hk, by rw [ee q]; exact e⟩
  have on : ∀ {q}, ag_V w T q → ∀ j, j < 3 → T.testBit j = true → ag_co q j < 12 := fun h j hj hb => ((ag_coV h hj).1 hb).1
  have off : ∀ {q}, ag_V w T q → ∀ j, j < 3 → T.testBit j = false → ag_co q j = 12 + j := fun h j hj hb => (ag_coV h hj).2 hb
  rw [ag_om_eq, ag_om_eq]
  constructor
  · intro h x
    have h' := h x
    rw [A, A] at h'
    constructor
    · rintro ⟨j, hj, ee⟩
      cases hb : T.testBit j
      · exact ⟨j, hj, by rw [off he j hj hb, ← ee, off hq j hj hb]⟩
      · obtain ⟨i, hi, _, e3⟩ := h'.mp ⟨j, hj, hb, ee⟩
        exact ⟨i, hi, e3⟩
    · rintro ⟨j, hj, ee⟩
      cases hb : T.testBit j
      · exact ⟨j, hj, by rw [off hq j hj hb, ← ee, off he j hj hb]⟩
      · obtain ⟨i, hi, _, e3⟩ := h'.mpr ⟨j, hj, hb, ee⟩
        exact ⟨i, hi, e3⟩
  · intro h x
    have h' := h x
    rw [A, A]
    constructor
    · rintro ⟨j, hj, hb, ee⟩
      obtain ⟨i, hi, e3⟩ := h'.mp ⟨j, hj, ee⟩
      refine ⟨i, hi, ?_, e3⟩
      cases hbi : T.testBit i
      · have k1 := on hq j hj hb
        have k2 := off he i hi hbi
        omega
      · rfl
    · rintro ⟨j, hj, hb, ee⟩
      obtain ⟨i, hi, e3⟩ := h'.mpr ⟨j, hj, ee⟩
      refine ⟨i, hi, ?_, e3⟩
      cases hbi : T.testBit i
      · have k1 := on he j hj hb
        have k2 := off hq i hi hbi
        omega
      · rfl
