/-! the reference's codes, turns and search -/
variable {sz : Int32} {iw wo is py gy wk st cs gd : Nat → Int32}
def ag_hs (v : Nat → Nat) : Nat → Nat
  | 0 => 0
  | i + 1 => 12 * ag_hs v i + v i
theorem ag_hs3 (v : Nat → Nat) : ag_hs v 3 = 144 * v 0 + 12 * v 1 + v 2 := by
  show 12 * (12 * (12 * 0 + v 0) + v 1) + v 2 = _
  omega
theorem ag_startY {post : Int32 → Prop} {n : Nat} (hn : n ≤ 3) {v : Nat → Nat} (hv : ∀ k, k < n → ∃ j, j < 3 ∧ wk k = nI j ∧ py j = nI (v k)) (h0 : ∀ k, n ≤ k → v k = 0) (p : post (nI (ag_hs v 3))) : wpY_start post (nI n, iw, wo, is, py, gy, wk, st, cs, gd) := by
  unfold wpY_start
  dsimp only
  refine loop_0 (fun m i s => wY_start_4 post (nI n) iw wo is py gy wk st cs gd m s (nI i)) (fun i s => s = nI (ag_hs v i)) 3 (nI 0) rfl ?_ ?_
  · rintro m s rfl
    exact br_t (nI_le (b := 3) (Nat.le_refl _) (by decide)) p
  · rintro m i s hi rfl ih
    refine br_f (nI_ge (b := 3) hi (by decide)) ?_
    refine pk_le n i (fun h => ?_) (fun h => ?_)
    · refine nm_r (e' := nI (ag_hs v (i + 1))) ?_ (nm_r (nI_1 i) (ih _ rfl))
      rw [show ag_hs v (i + 1) = 12 * ag_hs v i + v i from rfl, h0 i h, ← nI_add, ← pk_mul]
      rfl
    · obtain ⟨j, hj, e1, e2⟩ := hv i h
      refine ⟨vp_in_nI hi (by omega), ?_⟩
      rw [nI_clamp (n := i) (by omega), e1]
      refine ⟨vp_in_nI hj (by omega), ?_⟩
      rw [nI_clamp (n := j) (by omega), e2]
      refine nm_r (e' := nI (ag_hs v (i + 1))) ?_ (nm_r (nI_1 i) (ih _ rfl))
      rw [show ag_hs v (i + 1) = 12 * ag_hs v i + v i from rfl, ← nI_add, ← pk_mul]
      rfl
theorem ag_finishY {post : Int32 → Prop} {n : Nat} (hn : n ≤ 3) {v : Nat → Nat} (hv : ∀ k, k < n → ∃ j, j < 3 ∧ wk k = nI j ∧ gy j = nI (v k)) (h0 : ∀ k, n ≤ k → v k = 0) (p : post (nI (ag_hs v 3))) : wpY_finish post (nI n, iw, wo, is, py, gy, wk, st, cs, gd) := by
  unfold wpY_finish
  dsimp only
  refine loop_0 (fun m i s => wY_finish_4 post (nI n) iw wo is py gy wk st cs gd m s (nI i)) (fun i s => s = nI (ag_hs v i)) 3 (nI 0) rfl ?_ ?_
  · rintro m s rfl
    exact br_t (nI_le (b := 3) (Nat.le_refl _) (by decide)) p
  · rintro m i s hi rfl ih
    refine br_f (nI_ge (b := 3) hi (by decide)) ?_
    refine pk_le n i (fun h => ?_) (fun h => ?_)
    · refine nm_r (e' := nI (ag_hs v (i + 1))) ?_ (nm_r (nI_1 i) (ih _ rfl))
      rw [show ag_hs v (i + 1) = 12 * ag_hs v i + v i from rfl, h0 i h, ← nI_add, ← pk_mul]
      rfl
    · obtain ⟨j, hj, e1, e2⟩ := hv i h
      refine ⟨vp_in_nI hi (by omega), ?_⟩
      rw [nI_clamp (n := i) (by omega), e1]
      refine ⟨vp_in_nI hj (by omega), ?_⟩
      rw [nI_clamp (n := j) (by omega), e2]
      refine nm_r (e' := nI (ag_hs v (i + 1))) ?_ (nm_r (nI_1 i) (ih _ rfl))
      rw [show ag_hs v (i + 1) = 12 * ag_hs v i + v i from rfl, ← nI_add, ← pk_mul]
      rfl
theorem ag_clY {post : Int32 → Prop} {u : SY} {a a' b b' : Nat} (h1 : a < 2 ^ 31) (h2 : a' < 2 ^ 31) (h3 : b < 2 ^ 31) (h4 : b' < 2 ^ 31) (p1 : ag_cl a a' b b' → post 1) (p0 : ¬ ag_cl a a' b b' → post 0) : wpY_clash post u (nI a) (nI b) (nI a') (nI b') := by
  obtain ⟨sz, iw, wo, is, py, gy, wk, st, cs, gd⟩ := u
  unfold wpY_clash
  dsimp only
  refine pk_eq a' b' (fun e => p1 (Or.inl e)) (fun n => pk_eq a' b (fun e => pk_eq b' a (fun e2 => p1 (Or.inr ⟨e, e2⟩)) (fun n2 => p0 ?_)) (fun n2 => p0 ?_))
  · unfold ag_cl; omega
  · unfold ag_cl; omega
def ag_iJ (n : Nat) : Int32 := if n = 1728 then -1 else nI n
def ag_a1 (n a b c X Y Z : Nat) : Nat := if X = 12 ∨ Y = 12 ∨ Z = 12 ∨ (1 < n ∧ ag_cl a X b Y) ∨ (2 < n ∧ (ag_cl a X c Z ∨ ag_cl b Y c Z)) then 1728 else 144 * X + 12 * Y + Z
theorem ag_179 {post : Int32 → Prop} {n a b c X Y Z : Nat} (hX : X < 12) (hY : Y < 12) (hZ : Z < 12) (hn : ¬ (X = 12 ∨ Y = 12 ∨ Z = 12 ∨ (1 < n ∧ ag_cl a X b Y) ∨ (2 < n ∧ (ag_cl a X c Z ∨ ag_cl b Y c Z)))) (p : post (ag_iJ (ag_a1 n a b c X Y Z))) : wY_after_179 post (nI X) (nI Y) (nI Z) sz iw wo is py gy wk st cs gd := by
  unfold wY_after_179
  unfold ag_a1 at p
  rw [if_neg hn, ag_iJ, if_neg (by omega), ← nI_add, ← nI_add, ← pk_mul, ← pk_mul] at p
  exact p
theorem ag_140 {post : Int32 → Prop} {n a b c X Y Z : Nat} (h3 : n ≤ 3) (ha : a < 12) (hb : b < 12) (hc : c < 12) (hX : X < 12) (hY : Y < 12) (hZ : Z < 12) (hn : ¬ (1 < n ∧ ag_cl a X b Y)) (p : post (ag_iJ (ag_a1 n a b c X Y Z))) : wY_after_140 post (nI a) (nI b) (nI c) (nI X) (nI Y) (nI Z) (nI n) iw wo is py gy wk st cs gd := by
  unfold wY_after_140
  have bad : (2 < n ∧ (ag_cl a X c Z ∨ ag_cl b Y c Z)) → post (-1) := fun h => by
    unfold ag_a1 at p
    rw [if_pos (Or.inr (Or.inr (Or.inr (Or.inr h))))] at p
    exact p
  have ok : ¬ (2 < n ∧ (ag_cl a X c Z ∨ ag_cl b Y c Z)) → wY_after_179 post (nI X) (nI Y) (nI Z) (nI n) iw wo is py gy wk st cs gd := fun h => by
    refine ag_179 (n := n) (a := a) (b := b) (c := c) hX hY hZ ?_ p
    rintro (z | z | z | z | z)
    · omega
    · omega
    · omega
    · exact hn z
    · exact h z
  refine pk_le n 2 (fun h => ok (fun z => by omega)) (fun h => ?_)
  refine ag_clY (by omega) (by omega) (by omega) (by omega) (fun c1 => ?_) (fun c1 => ?_)
  · exact br_f (by decide) (bad ⟨h, Or.inl c1⟩)
  · refine br_t rfl (ag_clY (by omega) (by omega) (by omega) (by omega) (fun c2 => ?_) (fun c2 => ?_))
    · exact br_f (by decide) (bad ⟨h, Or.inr c2⟩)
    · refine br_t rfl (ok ?_)
      rintro ⟨_, z | z⟩
      · exact c1 z
      · exact c2 z
theorem ag_101 {post : Int32 → Prop} {n a b c X Y Z : Nat} (h3 : n ≤ 3) (ha : a < 12) (hb : b < 12) (hc : c < 12) (hX : X ≤ 12) (hY : Y ≤ 12) (hZ : Z ≤ 12) (p : post (ag_iJ (ag_a1 n a b c X Y Z))) : wY_after_101 post (nI a) (nI b) (nI c) (ag_iI X) (ag_iI Y) (ag_iI Z) (nI n) iw wo is py gy wk st cs gd := by
  unfold wY_after_101
  have bad : (X = 12 ∨ Y = 12 ∨ Z = 12 ∨ (1 < n ∧ ag_cl a X b Y) ∨ (2 < n ∧ (ag_cl a X c Z ∨ ag_cl b Y c Z))) → post (-1) := fun h => by
    unfold ag_a1 at p
    rw [if_pos h] at p
    exact p
  refine br_c (fun q => bad (Or.inl ((ag_iI0 hX).mp q))) (fun q1 => ?_)
  rw [ag_iI0 hX] at q1
  refine br_c (fun q => bad (Or.inr (Or.inl ((ag_iI0 hY).mp q)))) (fun q2 => ?_)
  rw [ag_iI0 hY] at q2
  refine br_c (fun q => bad (Or.inr (Or.inr (Or.inl ((ag_iI0 hZ).mp q))))) (fun q3 => ?_)
  rw [ag_iI0 hZ] at q3
  rw [ag_iIn q1, ag_iIn q2, ag_iIn q3]
  refine pk_le n 1 (fun h => ?_) (fun h => ?_)
  · exact ag_140 h3 ha hb hc (by omega) (by omega) (by omega) (fun z => by omega) p
  · refine ag_clY (by omega) (by omega) (by omega) (by omega) (fun c1 => ?_) (fun c1 => ?_)
    · exact br_f (by decide) (bad (Or.inr (Or.inr (Or.inr (Or.inl ⟨h, c1⟩)))))
    · exact br_t rfl (ag_140 h3 ha hb hc (by omega) (by omega) (by omega) (fun z => c1 z.2) p)
theorem ag_5 (a d : Nat) : (5 : Int32) * nI a + nI d = nI (5 * a + d) := by
  rw [show (5 : Int32) = nI 5 from rfl, pk_mul, nI_add]
theorem ag_St2 {w : Nat → Bool} {o : Nat → Nat} (h : ag_St w o st) {a d : Nat} (ha : a < 12) (hd : d < 5) : st (5 * a + d) = ag_iI (ag_tg w o a d) := by
  have := h (5 * a + d) (by omega)
  rw [show (5 * a + d) / 5 = a by omega, show (5 * a + d) % 5 = d by omega] at this
  exact this
theorem ag_afterY {post : Int32 → Prop} {w : Nat → Bool} {o : Nat → Nat} {n s k : Nat} (h1 : 1 ≤ n) (h3 : n ≤ 3) (hst : ag_St w o st) (hs : s < 1728) (hk : k < 125) (p : post (ag_iJ (ag_af w o n s k))) : wpY_after post (nI n, iw, wo, is, py, gy, wk, st, cs, gd) (nI s) (nI k) := by
  unfold wpY_after
  dsimp only
  have ha : s / 144 < 12 := by omega
  have hb : s / 12 % 12 < 12 := by omega
  have hc : s % 12 < 12 := by omega
  have d1 : k / 25 < 5 := by omega
  have d2 : k / 5 % 5 < 5 := by omega
  have d3 : k % 5 < 5 := by omega
  refine ⟨by decide, nm_r (pk_div (d := 144) (by omega) (by omega) (by omega)) ⟨by decide, by decide, nm_r (e' := nI (s / 12 % 12)) ?_ ⟨by decide, nm_r (pk_rem (d := 12) (by omega) (by omega) (by omega)) ?_⟩⟩⟩
  · rw [show (12 : Int32) = nI 12 from rfl, pk_div (by omega) (by omega) (by omega), pk_rem (by omega) (by omega) (by omega)]
  · refine br_f (nI_nle (by omega) (by omega)) ⟨by decide, ?_⟩
    rw [show (25 : Int32) = nI 25 from rfl, pk_div (by omega) (by omega) (by omega), ag_5]
    refine ⟨vp_in_nI (by omega) (by omega), ?_⟩
    rw [nI_clamp (n := 5 * (s / 144) + k / 25) (by omega), ag_St2 hst ha d1]
    have e2 : nI k / 5 - nI k / 5 / 5 * 5 = nI (k / 5 % 5) := by
      rw [show (5 : Int32) = nI 5 from rfl, pk_div (by omega) (by omega) (by omega), pk_rem (by omega) (by omega) (by omega)]
    have e3 : nI k - nI k / 5 * 5 = nI (k % 5) := pk_rem (d := 5) (by omega) (by omega) (by omega)
    have X := ag_tg_le (w := w) (o := o) (d := k / 25) ha
    have Y := ag_tg_le (w := w) (o := o) (d := k / 5 % 5) hb
    have Z := ag_tg_le (w := w) (o := o) (d := k % 5) hc
    have q1 : 0 < n := by omega
    unfold wY_after_45
    refine pk_le n 1 (fun h => ?_) (fun h => ?_)
    · have q2 : ¬ 1 < n := by omega
      have q3 : ¬ 2 < n := by omega
      unfold wY_after_74
      refine br_t (nI_le (b := 2) (by omega) (by omega)) ?_
      refine ag_101 (Y := 0) (Z := 0) h3 ha hb hc X (by omega) (by omega) ?_
      unfold ag_af at p
      simp only [q1, q2, q3, if_true, if_false] at p
      unfold ag_a1
      simp only [q2, q3]
      exact p
    · refine ⟨by decide, by decide, ?_⟩
      rw [e2, ag_5]
      refine ⟨vp_in_nI (by omega) (by omega), ?_⟩
      rw [nI_clamp (n := 5 * (s / 12 % 12) + k / 5 % 5) (by omega), ag_St2 hst hb d2]
      unfold wY_after_74
      refine pk_le n 2 (fun h' => ?_) (fun h' => ?_)
      · have q3 : ¬ 2 < n := by omega
        refine ag_101 (Z := 0) h3 ha hb hc X Y (by omega) ?_
        unfold ag_af at p
        simp only [q1, h, q3, if_true, if_false] at p
        unfold ag_a1
        simp only [h, q3]
        exact p
      · refine ⟨by decide, ?_⟩
        rw [e3, ag_5]
        refine ⟨vp_in_nI (by omega) (by omega), ?_⟩
        rw [nI_clamp (n := 5 * (s % 12) + k % 5) (by omega), ag_St2 hst hc d3]
        refine ag_101 h3 ha hb hc X Y Z ?_
        unfold ag_af at p
        simp only [q1, h, h', if_true] at p
        unfold ag_a1
        simp only [h, h']
        exact p
theorem ag_effortY {post : Int32 → Prop} {n k : Nat} (h3 : n ≤ 3) (hk : k < 125) (p : post (nI (ag_ef n k))) : wpY_effort post (nI n, iw, wo, is, py, gy, wk, st, cs, gd) (nI k) := by
  have e2 : nI k / 5 - nI k / 5 / 5 * 5 = nI (k / 5 % 5) := by
    rw [show (5 : Int32) = nI 5 from rfl, pk_div (by omega) (by omega) (by omega), pk_rem (by omega) (by omega) (by omega)]
  have e3 : nI k - nI k / 5 * 5 = nI (k % 5) := pk_rem (d := 5) (by omega) (by omega) (by omega)
  have s38 : ∀ z : Nat, ag_ef n k = z + (if 2 < n ∧ k % 5 < 4 then 1 else 0) → wY_effort_38 post (nI k) (nI z) (nI n) iw wo is py gy wk st cs gd := by
    intro z hz
    unfold wY_effort_38
    refine pk_le n 2 (fun h => ?_) (fun h => ⟨by decide, ?_⟩)
    · rw [hz, if_neg (by omega)] at p
      exact p
    · rw [e3]
      refine pk_le 4 (k % 5) (fun h' => ?_) (fun h' => ?_)
      · rw [hz, if_neg (by omega)] at p
        exact p
      · rw [hz, if_pos ⟨h, h'⟩, ← nI_1] at p
        exact p
  have s13 : ∀ z : Nat, ag_ef n k = z + (if 1 < n ∧ k / 5 % 5 < 4 then 1 else 0) + (if 2 < n ∧ k % 5 < 4 then 1 else 0) → wY_effort_13 post (nI k) (nI z) (nI n) iw wo is py gy wk st cs gd := by
    intro z hz
    unfold wY_effort_13
    refine pk_le n 1 (fun h => ?_) (fun h => ⟨by decide, by decide, ?_⟩)
    · rw [if_neg (show ¬ (1 < n ∧ k / 5 % 5 < 4) by omega)] at hz
      exact s38 z hz
    · rw [e2]
      refine pk_le 4 (k / 5 % 5) (fun h' => ?_) (fun h' => ?_)
      · rw [if_neg (show ¬ (1 < n ∧ k / 5 % 5 < 4) by omega)] at hz
        exact s38 z hz
      · rw [if_pos (show 1 < n ∧ k / 5 % 5 < 4 from ⟨h, h'⟩)] at hz
        rw [nI_1]
        exact s38 (z + 1) hz
  unfold wpY_effort
  dsimp only
  refine ⟨by decide, ?_⟩
  rw [show (25 : Int32) = nI 25 from rfl, pk_div (by omega) (by omega) (by omega)]
  unfold ag_ef at s13
  refine pk_le 4 (k / 25) (fun h => ?_) (fun h => ?_)
  · exact s13 0 (by rw [if_neg (show ¬ k / 25 < 4 by omega)])
  · exact s13 1 (by rw [if_pos (show k / 25 < 4 from h)])
