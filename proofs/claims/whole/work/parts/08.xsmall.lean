/-! the class's small methods -/
variable {g nc : Int32} {wl wo pl gl cg co ns nt : Nat → Int32}
def ag_b1 (b : Bool) : Int32 := if b = true then 1 else 0
theorem ag_cx0 {post : Int32 → Prop} {u : SX} {x : Int32} (h : ∀ c, c < 12 → x ≠ nI c) (p : post 0) : wpX_isCell post u x := by
  obtain ⟨g, nc, wl, wo, pl, gl, cg, co, ns, nt⟩ := u
  unfold wpX_isCell
  dsimp only
  rcases pk_ix x (n := 12) (by omega) with h1 | h1 | ⟨c, hc, e⟩
  · exact br_t h1 p
  · by_cases h0 : x < 0
    · exact br_t h0 p
    · exact br_f h0 (br_t h1 p)
  · exact absurd e (h c hc)
theorem ag_cx1 {post : Int32 → Prop} {u : SX} {c : Nat} (hc : c < 12) (p : post 1) : wpX_isCell post u (nI c) := by
  obtain ⟨g, nc, wl, wo, pl, gl, cg, co, ns, nt⟩ := u
  unfold wpX_isCell
  dsimp only
  exact br_f (nI_pos (by omega)) (br_f (nI_ge (b := 12) hc (by decide)) p)
theorem ag_kx0 {post : Int32 → Prop} {u : SX} {x : Int32} (h : ∀ c, c < 3 → x ≠ nI c) (p : post 0) : wpX_isWalker post u x := by
  obtain ⟨g, nc, wl, wo, pl, gl, cg, co, ns, nt⟩ := u
  unfold wpX_isWalker
  dsimp only
  rcases pk_ix x (n := 3) (by omega) with h1 | h1 | ⟨c, hc, e⟩
  · exact br_t h1 p
  · by_cases h0 : x < 0
    · exact br_t h0 p
    · exact br_f h0 (br_t h1 p)
  · exact absurd e (h c hc)
theorem ag_kx1 {post : Int32 → Prop} {u : SX} {c : Nat} (hc : c < 3) (p : post 1) : wpX_isWalker post u (nI c) := by
  obtain ⟨g, nc, wl, wo, pl, gl, cg, co, ns, nt⟩ := u
  unfold wpX_isWalker
  dsimp only
  exact br_f (nI_pos (by omega)) (br_f (nI_ge (b := 3) hc (by decide)) p)
theorem ag_inX {post : Int32 → Prop} {u : SX} {T i : Nat} (hT : T < 8) (hi : i < 3) (p1 : T.testBit i = true → post 1) (p0 : T.testBit i = false → post 0) : wpX_isIn post u (nI T) (nI i) := by
  obtain ⟨g, nc, wl, wo, pl, gl, cg, co, ns, nt⟩ := u
  unfold wpX_isIn
  dsimp only
  have k := ag_tb (m := T) (k := i) (by omega) (by omega)
  refine br_c (fun h => p1 (k.mp h)) (fun h => p0 ?_)
  cases e : T.testBit i
  · rfl
  · exact absurd (k.mpr e) h
theorem ag_spot0 {post : Int32 → Prop} {u : SX} {s : Nat} (hs : s < 2 ^ 31) (p : post (nI (s / 225))) : wpX_spotIn post u (nI s) 0 := by
  obtain ⟨g, nc, wl, wo, pl, gl, cg, co, ns, nt⟩ := u
  unfold wpX_spotIn
  dsimp only
  refine br_t rfl ⟨by decide, ?_⟩
  rw [show (225 : Int32) = nI 225 from rfl, pk_div hs (by omega) (by omega)]
  exact p
theorem ag_spot1 {post : Int32 → Prop} {u : SX} {s : Nat} (hs : s < 2 ^ 31) (p : post (nI (s / 15 % 15))) : wpX_spotIn post u (nI s) 1 := by
  obtain ⟨g, nc, wl, wo, pl, gl, cg, co, ns, nt⟩ := u
  unfold wpX_spotIn
  dsimp only
  refine br_f (by decide) (br_t rfl ⟨by decide, by decide, ?_⟩)
  rw [show (15 : Int32) = nI 15 from rfl, pk_div hs (by omega) (by omega), pk_rem (by omega) (by omega) (by omega)]
  exact p
theorem ag_spot2 {post : Int32 → Prop} {u : SX} {s : Nat} (hs : s < 2 ^ 31) (p : post (nI (s % 15))) : wpX_spotIn post u (nI s) 2 := by
  obtain ⟨g, nc, wl, wo, pl, gl, cg, co, ns, nt⟩ := u
  unfold wpX_spotIn
  dsimp only
  refine br_f (by decide) (br_f (by decide) ⟨by decide, ?_⟩)
  rw [show (15 : Int32) = nI 15 from rfl, pk_rem (by omega) (by omega) (by omega)]
  exact p
theorem ag_clX {post : Int32 → Prop} {u : SX} {a a' b b' : Nat} (h1 : a < 2 ^ 31) (h2 : a' < 2 ^ 31) (h3 : b < 2 ^ 31) (h4 : b' < 2 ^ 31) (p1 : ag_cl a a' b b' → post 1) (p0 : ¬ ag_cl a a' b b' → post 0) : wpX_isClash post u (nI a) (nI a') (nI b) (nI b') := by
  obtain ⟨g, nc, wl, wo, pl, gl, cg, co, ns, nt⟩ := u
  unfold wpX_isClash
  dsimp only
  refine pk_eq a' b' (fun e => p1 (Or.inl e)) (fun n => pk_eq a' b (fun e => pk_eq b' a (fun e2 => p1 (Or.inr ⟨e, e2⟩)) (fun n2 => p0 ?_)) (fun n2 => p0 ?_))
  · unfold ag_cl; omega
  · unfold ag_cl; omega
theorem ag_sube {a b k : Nat} (ha : a < 2 ^ 30) (hb : b < 2 ^ 30) (hk : k < 2 ^ 30) : nI b = nI a - nI k ↔ b + k = a := by
  constructor
  · intro h
    have : nI b + nI k = nI a := by rw [h, Int32.sub_add_cancel]
    rw [nI_add, nI_eq (by omega) (by omega)] at this
    exact this
  · intro h
    rw [← h, ← nI_add, Int32.add_sub_cancel]
theorem ag_dirX {post : Int32 → Prop} {u : SX} {a b : Nat} (ha : a < 12) (hb : b < 12) (p : ag_dir a b < 4 → post (nI (ag_dir a b))) (n : ¬ ag_dir a b < 4 → post (-1)) : wpX_directionTo post u (nI a) (nI b) := by
  obtain ⟨g, nc, wl, wo, pl, gl, cg, co, ns, nt⟩ := u
  unfold wpX_directionTo
  dsimp only
  refine br_c (fun h => ?_) (fun h => ?_)
  · have h1 := (ag_sube (k := 4) (by omega) (by omega) (by omega)).mp h
    have e : ag_dir a b = 0 := by unfold ag_dir; rw [if_pos h1]
    rw [e] at p
    exact p (by omega)
  · have h1 : ¬ b + 4 = a := fun z => h ((ag_sube (k := 4) (by omega) (by omega) (by omega)).mpr z)
    refine pk_eq b (a + 4) (fun h2 => ?_) (fun h2 => ?_) rfl (nI_add a 4)
    · have e : ag_dir a b = 2 := by unfold ag_dir; rw [if_neg h1, if_pos h2]
      rw [e] at p
      exact p (by omega)
    · refine ⟨by decide, by decide, ?_⟩
      refine pk_eq (a / 4) (b / 4) (fun h3 => ?_) (fun h3 => ?_) (pk_div (d := 4) (by omega) (by omega) (by omega)) (pk_div (d := 4) (by omega) (by omega) (by omega))
      · refine pk_eq b (a + 1) (fun h4 => ?_) (fun h4 => ?_) rfl (nI_1 a)
        · have e : ag_dir a b = 1 := by unfold ag_dir; rw [if_neg h1, if_neg h2, if_neg (fun z => z h3), if_pos h4]
          rw [e] at p
          exact p (by omega)
        · refine br_c (fun h5 => ?_) (fun h5 => ?_)
          · have h6 := (ag_sube (k := 1) (by omega) (by omega) (by omega)).mp h5
            have e : ag_dir a b = 3 := by unfold ag_dir; rw [if_neg h1, if_neg h2, if_neg (fun z => z h3), if_neg h4, if_pos h6]
            rw [e] at p
            exact p (by omega)
          · have h6 : ¬ b + 1 = a := fun z => h5 ((ag_sube (k := 1) (by omega) (by omega) (by omega)).mpr z)
            have e : ag_dir a b = 4 := by unfold ag_dir; rw [if_neg h1, if_neg h2, if_neg (fun z => z h3), if_neg h4, if_neg h6]
            rw [e] at n
            exact n (by omega)
      · have e : ag_dir a b = 4 := by unfold ag_dir; rw [if_neg h1, if_neg h2, if_pos h3]
        rw [e] at n
        exact n (by omega)
theorem ag_stepX {post : Int32 → Prop} {w S : Nat → Bool} {o : Nat → Nat} {sh : Int32} {a b : Nat} (ha : a < 15) (hb : b < 15) (ho : ∀ c, c < 12 → o c < 16) (hS : ∀ c, c < 12 → (nI c = sh ↔ S c = true)) (p1 : ag_mv (fun c => w c || S c) o a b = true → post 1) (p0 : ag_mv (fun c => w c || S c) o a b = false → post 0) : wpX_canStep post (g, nc, ag_bi w, ag_nf o, pl, gl, cg, co, ns, nt) (nI a) (nI b) sh := by
  have q0 : ¬ ag_mv (fun c => w c || S c) o a b = true → post 0 := fun h => p0 (by simpa using h)
  rw [ag_mv_iff] at p1 q0
  unfold wpX_canStep
  dsimp only
  by_cases h1 : a < 12
  · refine ag_cx1 h1 (br_f (by decide) ?_)
    by_cases h2 : b < 12
    · refine ag_cx1 h2 (br_f (by decide) ?_)
      refine ⟨vp_in_nI h1 (by omega), ?_⟩
      rw [nI_clamp (n := a) (by omega)]
      refine br_c (fun h3 => ?_) (fun h3 => ?_)
      · rw [ag_bi0] at h3
        refine ⟨vp_in_nI h2 (by omega), ?_⟩
        rw [nI_clamp (n := b) (by omega)]
        refine br_c (fun h4 => ?_) (fun h4 => ?_)
        · rw [ag_bi0] at h4
          refine br_c (fun h5 => ?_) (fun h5 => ?_)
          · rw [hS a h1] at h5
            refine q0 (fun z => ?_)
            have := z.2.2.1
            simp [h5] at this
          · rw [hS a h1] at h5
            refine br_c (fun h6 => ?_) (fun h6 => ?_)
            · rw [hS b h2] at h6
              refine q0 (fun z => ?_)
              have := z.2.2.2.1
              simp [h6] at this
            · rw [hS b h2] at h6
              refine ag_dirX h1 h2 (fun h7 => ?_) (fun h7 => ?_)
              · refine br_f (nI_pos (by omega)) ⟨vp_in_nI h1 (by omega), ?_⟩
                have k := ag_tb (m := o a) (k := ag_dir a b) (by have := ho a h1; omega) (by omega)
                refine br_c (fun h8 => ?_) (fun h8 => ?_)
                · refine p1 ⟨h1, h2, ?_, ?_, h7, k.mp h8⟩
                  · simp [h3, h5]
                  · simp [h4, h6]
                · exact q0 (fun z => h8 (k.mpr z.2.2.2.2.2))
              · exact br_t (by decide) (q0 (fun z => h7 z.2.2.2.2.1))
        · refine q0 (fun z => h4 (ag_bi0.mpr ?_))
          have := z.2.2.2.1
          cases e : w b
          · rfl
          · simp [e] at this
      · refine q0 (fun z => h3 (ag_bi0.mpr ?_))
        have := z.2.2.1
        cases e : w a
        · rfl
        · simp [e] at this
    · refine ag_cx0 (fun c hc e => ?_) (br_t rfl (q0 (fun z => h2 z.2.1)))
      rw [nI_eq (by omega) (by omega)] at e
      omega
  · refine ag_cx0 (fun c hc e => ?_) (br_t rfl (q0 (fun z => h1 z.1)))
    rw [nI_eq (by omega) (by omega)] at e
    omega
