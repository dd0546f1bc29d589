/-! the reference's small methods -/
variable {sz : Int32} {iw wo is py gy wk st cs gd : Nat → Int32}
theorem ag_cy0 {post : Int32 → Prop} {u : SY} {x : Int32} (h : ∀ c, c < 12 → x ≠ nI c) (p : post 0) : wpY_isCell post u x := by
  obtain ⟨sz, iw, wo, is, py, gy, wk, st, cs, gd⟩ := u
  unfold wpY_isCell
  dsimp only
  by_cases h0 : x < 0
  · exact br_t h0 p
  · obtain ⟨j, hj, rfl⟩ := nI_of h0
    have : ¬ j < 12 := fun z => h j z rfl
    exact br_f h0 (br_t (nI_lt (a := 11) (by omega) hj) p)
theorem ag_cy1 {post : Int32 → Prop} {u : SY} {c : Nat} (hc : c < 12) (p : post 1) : wpY_isCell post u (nI c) := by
  obtain ⟨sz, iw, wo, is, py, gy, wk, st, cs, gd⟩ := u
  unfold wpY_isCell
  dsimp only
  exact br_f (nI_pos (by omega)) (br_f (nI_nlt (a := 11) (by omega) (by omega)) p)
theorem ag_inY {post : Int32 → Prop} {u : SY} {T i : Nat} (hT : T < 8) (hi : i < 3) (p1 : T.testBit i = true → post 1) (p0 : T.testBit i = false → post 0) : wpY_in post u (nI T) (nI i) := by
  obtain ⟨sz, iw, wo, is, py, gy, wk, st, cs, gd⟩ := u
  unfold wpY_in
  dsimp only
  have k := ag_tb (m := T) (k := i) (by omega) (by omega)
  refine br_c (fun h => p1 (k.mp h)) (fun h => p0 ?_)
  cases e : T.testBit i
  · rfl
  · exact absurd (k.mpr e) h
def ag_iI (n : Nat) : Int32 := if n = 12 then -1 else nI n
theorem ag_iIn {n : Nat} (h : n ≠ 12) : ag_iI n = nI n := if_neg h
theorem ag_iI12 : ag_iI 12 = -1 := rfl
theorem ag_iI0 {n : Nat} (h : n ≤ 12) : ag_iI n < 0 ↔ n = 12 := by
  by_cases e : n = 12
  · subst e; exact ⟨fun _ => rfl, fun _ => by decide⟩
  · rw [ag_iIn e]
    exact ⟨fun z => absurd z (nI_pos (by omega)), fun z => absurd z e⟩
def ag_45 (r k : Int32) : Int32 := if r < 0 then -1 else if 3 ≤ r then -1 else if k < 0 then -1 else if 4 ≤ k then -1 else 4 * r + k
def ag_bsI (x y : Int32) : Int32 := ag_45 (x / 4 + (if y = 0 then -1 else if y = 2 then 1 else 0)) ((x - x / 4 * 4) + (if y = 1 then 1 else if y = 3 then -1 else 0))
theorem ag_45p {post : Int32 → Prop} {x3 z0 z1 : Int32} (p : post (ag_45 x3 (z1 + z0))) : wY_beside_45 post x3 z0 z1 sz iw wo is py gy wk st cs gd := by
  unfold wY_beside_45
  refine nm_e ?_
  unfold ag_45 at p
  by_cases h1 : x3 < 0
  · rw [if_pos h1] at p; exact br_t h1 p
  · rw [if_neg h1] at p
    refine br_f h1 ?_
    by_cases h2 : 3 ≤ x3
    · rw [if_pos h2] at p; exact br_t h2 p
    · rw [if_neg h2] at p
      refine br_f h2 ?_
      by_cases h3 : z1 + z0 < 0
      · rw [if_pos h3] at p; exact br_t h3 p
      · rw [if_neg h3] at p
        refine br_f h3 ?_
        by_cases h4 : 4 ≤ z1 + z0
        · rw [if_pos h4] at p; exact br_t h4 p
        · rw [if_neg h4] at p; exact br_f h4 p
theorem ag_21p {post : Int32 → Prop} {x y z0 : Int32} (p : post (ag_45 (x / 4 + z0) ((x - x / 4 * 4) + (if y = 1 then 1 else if y = 3 then -1 else 0)))) : wY_beside_21 post x y z0 (x / 4) sz iw wo is py gy wk st cs gd := by
  unfold wY_beside_21
  refine nm_e ⟨by decide, ?_⟩
  by_cases h1 : y = 1
  · rw [if_pos h1] at p; exact br_t h1 (ag_45p p)
  · rw [if_neg h1] at p
    refine br_f h1 ?_
    by_cases h2 : y = 3
    · rw [if_pos h2] at p; exact br_t h2 (ag_45p p)
    · rw [if_neg h2] at p; exact br_f h2 (ag_45p p)
theorem ag_bsp {post : Int32 → Prop} {x y : Int32} (p : post (ag_bsI x y)) : wpY_beside post (sz, iw, wo, is, py, gy, wk, st, cs, gd) x y := by
  unfold wpY_beside
  dsimp only
  refine ⟨by decide, ?_⟩
  unfold ag_bsI at p
  by_cases h1 : y = 0
  · rw [if_pos h1] at p; exact br_t h1 (ag_21p p)
  · rw [if_neg h1] at p
    refine br_f h1 ?_
    by_cases h2 : y = 2
    · rw [if_pos h2] at p; exact br_t h2 (ag_21p p)
    · rw [if_neg h2] at p; exact br_f h2 (ag_21p p)
theorem ag_bsI_eq : ∀ c, c < 12 → ∀ d, d < 4 → ag_bsI (nI c) (nI d) = ag_iI (ag_bs c d) := by decide +kernel
def ag_St (w : Nat → Bool) (o : Nat → Nat) (st : Nat → Int32) : Prop := ∀ k, k < 60 → st k = ag_iI (ag_tg w o (k / 5) (k % 5))
section
variable {post : SY → Prop} {J2 : Int32 → (Nat → Int32) → (Nat → Int32) → (Nat → Int32) → (Nat → Int32) → (Nat → Int32) → (Nat → Int32) → (Nat → Int32) → (Nat → Int32) → (Nat → Int32) → Prop}
theorem ag_f80 {k : Nat} {z : Int32} (hk : k < 60) (h : J2 (nI (k + 1)) iw wo is py gy wk (upd st k (-1)) cs gd) : wY_findSteps_80 post J2 (nI k) z sz iw wo is py gy wk st cs gd := by
  unfold wY_findSteps_80 wY_findSteps_81
  refine br_t rfl ⟨vp_in_nI hk (by omega), nm_r (e' := upd st k (-1)) (by rw [nI_clamp (by omega)]) (nm_r (nI_1 k) h)⟩
theorem ag_f76 {k : Nat} {z : Int32} (hk : k < 60) (h : J2 (nI (k + 1)) iw wo is py gy wk (upd st k z) cs gd) : wY_findSteps_76 post J2 (nI k) z sz iw wo is py gy wk st cs gd := by
  unfold wY_findSteps_76 wY_findSteps_81
  refine br_f (by decide) ⟨vp_in_nI hk (by omega), nm_r (e' := upd st k z) (by rw [nI_clamp (by omega)]) (nm_r (nI_1 k) h)⟩
theorem ag_f31 {w : Nat → Bool} {o : Nat → Nat} (ho : ∀ c, c < 12 → o c < 16) {k c d : Nat} (hk : k < 60) (hc : c < 12) (hd : d < 5) (h : J2 (nI (k + 1)) (ag_bi w) (ag_nf o) is py gy wk (upd st k (ag_iI (ag_tg w o c d))) cs gd) {z : Int32} {to : Nat} (hz : z = ag_iI to) (hto : to ≤ 12) (h4 : d = 4 → to = c) (h3 : d ≠ 4 → to = ag_bs c d) : wY_findSteps_31 post J2 (nI k) (nI c) (nI d) z sz (ag_bi w) (ag_nf o) is py gy wk st cs gd := by
  subst hz
  have n0 : ag_tg w o c d = 12 → wY_findSteps_80 post J2 (nI k) (ag_iI to) sz (ag_bi w) (ag_nf o) is py gy wk st cs gd := fun e => by
    rw [e] at h
    exact ag_f80 hk h
  have n1 : ag_tg w o c d = to → wY_findSteps_76 post J2 (nI k) (ag_iI to) sz (ag_bi w) (ag_nf o) is py gy wk st cs gd := fun e => by
    rw [e] at h
    exact ag_f76 hk h
  unfold ag_tg at n0 n1
  unfold wY_findSteps_31
  refine br_c (fun q1 => ?_) (fun q1 => ?_)
  · rw [ag_iI0 hto] at q1
    refine n0 ?_
    by_cases e : d = 4
    · have := h4 e; omega
    · rw [if_neg e, ← h3 e, if_neg (by omega)]
  · rw [ag_iI0 hto] at q1
    refine ⟨vp_in_nI hc (by omega), ?_⟩
    rw [nI_clamp (n := c) (by omega)]
    refine br_c (fun q2 => ?_) (fun q2 => ?_)
    · rw [ag_bi0] at q2
      rw [ag_iIn q1] at n0 n1 ⊢
      refine ⟨vp_in_nI (by omega) (by omega), ?_⟩
      rw [nI_clamp (n := to) (by omega)]
      refine br_c (fun q3 => ?_) (fun q3 => ?_)
      · rw [ag_bi0] at q3
        refine pk_eq d 4 (fun e => ?_) (fun e => ?_)
        · refine n1 ?_
          rw [if_pos e, if_neg (by rw [q2]; decide)]
          exact (h4 e).symm
        · refine ⟨vp_in_nI hc (by omega), ?_⟩
          have k := ag_tb (m := o c) (k := d) (by have := ho c hc; omega) (by omega)
          rw [if_neg e, ← h3 e] at n0 n1
          refine br_c (fun q4 => ?_) (fun q4 => ?_)
          · exact n1 (if_pos ⟨by omega, q2, q3, k.mp q4⟩)
          · exact n0 (if_neg (fun z => q4 (k.mpr z.2.2.2)))
      · refine n0 ?_
        rw [ag_bi0] at q3
        by_cases e : d = 4
        · rw [h4 e] at q3
          exact absurd q2 q3
        · rw [if_neg e, ← h3 e, if_neg (fun z => q3 z.2.2.1)]
    · refine n0 ?_
      rw [ag_bi0] at q2
      by_cases e : d = 4
      · rw [if_pos e, if_pos (by simpa using q2)]
      · rw [if_neg e, if_neg (fun z => q2 z.2.1)]
end
theorem ag_findY {post : SY → Prop} {w : Nat → Bool} {o : Nat → Nat} (ho : ∀ c, c < 12 → o c < 16) (p : ∀ st', ag_St w o st' → post (sz, ag_bi w, ag_nf o, is, py, gy, wk, st', cs, gd)) : wpY_findSteps post (sz, ag_bi w, ag_nf o, is, py, gy, wk, st, cs, gd) := by
  unfold wpY_findSteps
  dsimp only
  refine loop_0 (fun n i s => wY_findSteps_2 post sz n (nI i) (ag_bi w) (ag_nf o) is py gy wk s cs gd) (fun i s => ∀ k, k < i → s k = ag_iI (ag_tg w o (k / 5) (k % 5))) 60 st (fun k h => absurd h (by omega)) ?_ ?_
  · intro n s h
    exact br_t (nI_le (b := 60) (Nat.le_refl _) (by decide)) (p s h)
  · intro n i s hi h ih
    have key : wY_findSteps_2 post sz n (nI (i + 1)) (ag_bi w) (ag_nf o) is py gy wk (upd s i (ag_iI (ag_tg w o (i / 5) (i % 5)))) cs gd := by
      refine ih _ (fun k hk => ?_)
      by_cases e : k = i
      · subst e; exact pk_us
      · rw [pk_un e]; exact h k (by omega)
    refine br_f (nI_ge (b := 60) hi (by decide)) ⟨by decide, nm_r (pk_div (d := 5) (by omega) (by omega) (by omega)) ⟨by decide, nm_r (pk_rem (d := 5) (by omega) (by omega) (by omega)) ?_⟩⟩
    have hc : i / 5 < 12 := by omega
    have hd : i % 5 < 5 := by omega
    refine pk_eq (i % 5) 4 (fun e => ?_) (fun e => ?_)
    · exact ag_f31 ho hi hc hd key (z := nI (i / 5)) (to := i / 5) (ag_iIn (by omega)).symm (by omega) (fun _ => rfl) (fun z => absurd e z)
    · refine ag_bsp ?_
      exact ag_f31 ho hi hc hd key (to := ag_bs (i / 5) (i % 5)) (ag_bsI_eq _ hc _ (by omega)) (ag_bs_le _ hc _ (by omega)) (fun z => absurd z e) (fun _ => rfl)
/-- the walkers of a team, by rank -/
def ag_Wl (T : Nat) (wk : Nat → Int32) : Prop := ∀ j, j < 3 → T.testBit j = true → wk (ag_cn (fun j => T.testBit j) j) = nI j
theorem ag_sz_cn : ∀ T, 1 ≤ T → T ≤ 7 → ag_cn (fun j => T.testBit j) 3 = ag_sz T := ag_T7 (by decide) (by decide) (by decide) (by decide) (by decide) (by decide) (by decide)
theorem ag_cn_id (P : Nat → Bool) (n : Nat) : ag_cn P n ≤ n := by
  induction n with
  | zero => exact Nat.le_refl _
  | succ n ih => rw [ag_cn_s]; split <;> omega
theorem ag_chooseY {post : SY → Prop} {w : Nat → Bool} {o : Nat → Nat} (ho : ∀ c, c < 12 → o c < 16) {T : Nat} (h1 : 1 ≤ T) (h7 : T ≤ 7) (p : ∀ wk' st', ag_Wl T wk' → ag_St w o st' → post (nI (ag_sz T), ag_bi w, ag_nf o, is, py, gy, wk', st', cs, gd)) : wpY_choose post (sz, ag_bi w, ag_nf o, is, py, gy, wk, st, cs, gd) (nI T) := by
  unfold wpY_choose
  dsimp only
  refine ag_findY ho (fun st' hst => ?_)
  dsimp only
  refine loop_0 (fun n i (s : Int32 × (Nat → Int32)) => wY_choose_11 post (nI T) n (nI i) s.1 (ag_bi w) (ag_nf o) is py gy s.2 st' cs gd) (fun i s => s.1 = nI (ag_cn (fun j => T.testBit j) i) ∧ ∀ j, j < i → T.testBit j = true → s.2 (ag_cn (fun j => T.testBit j) j) = nI j) 3 (nI 0, wk) ⟨rfl, fun j h => absurd h (by omega)⟩ ?_ ?_
  · rintro n ⟨s1, s2⟩ ⟨e, h⟩
    dsimp only at e h ⊢
    subst e
    rw [ag_sz_cn T h1 h7]
    exact br_t (nI_le (b := 3) (Nat.le_refl _) (by decide)) (p s2 st' h hst)
  · rintro n i ⟨s1, s2⟩ hi ⟨e, h⟩ ih
    dsimp only at e h ⊢
    subst e
    have hcn := ag_cn_id (fun j => T.testBit j) i
    refine br_f (nI_ge (b := 3) hi (by decide)) (ag_inY (by omega) hi (fun hb => ?_) (fun hb => ?_))
    · refine br_f (by decide) ⟨vp_in_nI (by omega) (by omega), nm_r (e' := upd s2 (ag_cn (fun j => T.testBit j) i) (nI i)) (by rw [nI_clamp (by omega)]) (nm_r (nI_1 _) (nm_r (nI_1 i) (ih (nI (ag_cn (fun j => T.testBit j) i + 1), upd s2 (ag_cn (fun j => T.testBit j) i) (nI i)) ⟨?_, fun j hj hbj => ?_⟩)))⟩
      · rw [ag_cn_t (P := fun j => T.testBit j) hb]
      · dsimp only
        by_cases z : j = i
        · subst z; exact pk_us
        · have := ag_cn_lt (fun j => T.testBit j) (show j < i by omega) hbj
          rw [pk_un (by omega)]
          exact h j (by omega) hbj
    · refine br_t rfl (nm_r (nI_1 i) (ih (nI (ag_cn (fun j => T.testBit j) i), s2) ⟨?_, fun j hj hbj => ?_⟩))
      · rw [ag_cn_f (P := fun j => T.testBit j) (by rw [hb]; decide)]
      · refine h j ?_ hbj
        by_cases z : j = i
        · subst z; rw [hb] at hbj; exact absurd hbj (by decide)
        · omega
