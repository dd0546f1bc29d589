/-! a new object; wall, ways, set, turnRound -/
variable {g nc : Int32} {pl gl cg co ns nt : Nat → Int32} {sz : Int32} {is py gy wk st cs gd : Nat → Int32}
theorem ag_rel {k : Nat} {w : Nat → Bool} {o : Nat → Nat} {z : Nat → Bool} {P G : Nat → Nat} (ho : ∀ c, c < 12 → o c < 16) (hW : ag_Wr z P G pl gl is py gy) : i_Rel k (g, nc, ag_bi w, ag_nf o, pl, gl, cg, co, ns, nt) (sz, ag_bi w, ag_nf o, is, py, gy, wk, st, cs, gd) :=
  ⟨w, o, z, P, G, g, nc, pl, gl, cg, co, ns, nt, sz, is, py, gy, wk, st, cs, gd, rfl, rfl, ho, hW⟩
theorem ag_15s {i : Nat} : upd (ag_nf (fun c => if c < i then 15 else 0)) i 15 = ag_nf (fun c => if c < i + 1 then 15 else 0) := by
  funext x
  unfold upd ag_nf
  dsimp only
  by_cases e : x = i
  · subst e
    rw [if_pos rfl, if_pos (by omega)]
    rfl
  · rw [if_neg e]
    by_cases y : x < i
    · rw [if_pos y, if_pos (by omega)]
    · rw [if_neg y, if_neg (by omega)]
theorem i_vc0 : wpX_init (fun u => wpY_init (fun v => i_Rel 0 u v)) := by
  unfold wpX_init
  refine loop_0 (fun n i s => wX_init_80 (fun u => wpY_init (fun v => i_Rel 0 u v)) 0 0 n (nI i) (fun _ => 0) s (fun _ => 0) (fun _ => 0) (fun _ => 0) (fun _ => 0) (fun _ => 0) (fun _ => 0)) (fun i s => s = ag_nf (fun c => if c < i then 15 else 0)) 12 (fun _ => 0) rfl ?_ ?_
  · rintro n s rfl
    refine br_t (nI_le (b := 12) (Nat.le_refl _) (by decide)) ?_
    refine loop_0 (fun n i (s : (Nat → Int32) × (Nat → Int32)) => wX_init_102 (fun u => wpY_init (fun v => i_Rel 0 u v)) 0 0 n (nI i) (fun _ => 0) (ag_nf (fun c => if c < 12 then 15 else 0)) s.1 s.2 (fun _ => 0) (fun _ => 0) (fun _ => 0) (fun _ => 0)) (fun i s => ∀ j, j < i → s.1 j = -1) 3 (fun _ => 0, fun _ => 0) (fun j h => absurd h (by omega)) ?_ ?_
    · rintro n ⟨s1, s2⟩ h
      refine br_t (nI_le (b := 3) (Nat.le_refl _) (by decide)) ?_
      dsimp only
      unfold wpY_init
      refine loop_0 (fun n i s => wY_init_76 (fun v => i_Rel 0 _ v) 0 n (nI i) (fun _ => 0) s (fun _ => 0) (fun _ => 0) (fun _ => 0) (fun _ => 0) (fun _ => 0) (fun _ => 0) (fun _ => 0)) (fun i s => s = ag_nf (fun c => if c < i then 15 else 0)) 12 (fun _ => 0) rfl ?_ ?_
      · rintro n s rfl
        refine br_t (nI_le (b := 12) (Nat.le_refl _) (by decide)) ?_
        refine ag_rel (w := fun _ => false) (z := fun _ => false) (P := fun _ => 0) (G := fun _ => 0) (fun c hc => ?_) (fun i hi => ⟨rfl, Nat.zero_lt_succ _, Nat.zero_lt_succ _, fun e => absurd e Bool.false_ne_true, fun _ => h i hi⟩)
        rw [if_pos hc]
        omega
      · rintro n i s hi rfl ih
        exact br_f (nI_ge (b := 12) hi (by decide)) ⟨vp_in_nI hi (by omega), nm_r (by rw [nI_clamp (by omega)]; exact ag_15s) (nm_r (nI_1 i) (ih _ rfl))⟩
    · rintro n i ⟨s1, s2⟩ hi h ih
      refine br_f (nI_ge (b := 3) hi (by decide)) ⟨vp_in_nI hi (by omega), nm_r (e' := upd s1 i (-1)) (by rw [nI_clamp (by omega)]) ⟨vp_in_nI hi (by omega), nm_r (e' := upd s2 i (-1)) (by rw [nI_clamp (by omega)]) (nm_r (nI_1 i) (ih (upd s1 i (-1), upd s2 i (-1)) (fun j hj => ?_)))⟩⟩
      dsimp only
      by_cases y : j = i
      · subst y; exact pk_us
      · rw [pk_un y]; exact h j (by omega)
  · rintro n i s hi rfl ih
    exact br_f (nI_ge (b := 12) hi (by decide)) ⟨vp_in_nI hi (by omega), nm_r (by rw [nI_clamp (by omega)]; exact ag_15s) (nm_r (nI_1 i) (ih _ rfl))⟩
theorem ag_nb (b : Bool) : vp_nar .boolean (ag_b1 b) = ag_b1 b := by cases b <;> decide
theorem ag_wall29X {post : Int32 → SX → Prop} {w : Nat → Bool} {o : Nat → Nat} {c : Nat} {b : Bool} {x : Int32} (hx : x = ag_b1 b) (hc : c < 12) (p : post (ag_b1 b) (g, nc, ag_bi (ag_bu w c b), ag_nf o, pl, gl, cg, co, ns, nt)) : wX_wall_29 post (nI c) x (nI c) g nc (ag_bi w) (ag_nf o) pl gl cg co ns nt := by
  subst hx
  unfold wX_wall_29
  refine ⟨vp_in_nI hc (by omega), nm_r (e' := ag_bi (ag_bu w c b)) (by rw [nI_clamp (by omega), ag_nb]; exact ag_bi_u) ⟨vp_in_nI hc (by omega), ?_⟩⟩
  rw [nI_clamp (n := c) (by omega)]
  have e : ag_bi (ag_bu w c b) c = ag_b1 b := by
    unfold ag_bi ag_bu
    rw [if_pos rfl]
    rfl
  rw [e]
  cases b
  · exact br_t rfl p
  · exact br_f (by decide) p
theorem ag_wall29Y {post : Int32 → SY → Prop} {w : Nat → Bool} {o : Nat → Nat} {c : Nat} {b : Bool} {x : Int32} (hx : x = ag_b1 b) (hc : c < 12) (p : post (ag_b1 b) (sz, ag_bi (ag_bu w c b), ag_nf o, is, py, gy, wk, st, cs, gd)) : wY_wall_29 post (nI c) x (nI c) sz (ag_bi w) (ag_nf o) is py gy wk st cs gd := by
  subst hx
  unfold wY_wall_29
  refine ⟨vp_in_nI hc (by omega), nm_r (e' := ag_bi (ag_bu w c b)) (by rw [nI_clamp (by omega), ag_nb]; exact ag_bi_u) ⟨vp_in_nI hc (by omega), ?_⟩⟩
  rw [nI_clamp (n := c) (by omega)]
  have e : ag_bi (ag_bu w c b) c = ag_b1 b := by
    unfold ag_bi ag_bu
    rw [if_pos rfl]
    rfl
  rw [e]
  cases b
  · exact br_t rfl p
  · exact br_f (by decide) p
theorem i_vc_wall {k : Nat} {u : SX} {v : SY} (I : i_Rel k u v) (hk : k + 4 ≤ 2048) (v1 : Int32) : wpX_wall (fun r u' => wpY_wall (fun r' v' => r' = r ∧ i_Rel (k + 4) u' v') v v1) u v1 := by
  obtain ⟨w, o, z, P, G, g, nc, pl, gl, cg, co, ns, nt, sz, is, py, gy, wk, st, cs, gd, rfl, rfl, ho, hW⟩ := I
  by_cases h : ∃ c, c < 12 ∧ v1 = nI c
  · obtain ⟨c, hc, rfl⟩ := h
    have hy : wpY_wall (fun r' v' => r' = ag_b1 (!w c) ∧ i_Rel (k + 4) (g, nc, ag_bi (ag_bu w c (!w c)), ag_nf o, pl, gl, cg, co, ns, nt) v') (sz, ag_bi w, ag_nf o, is, py, gy, wk, st, cs, gd) (nI c) := by
      unfold wpY_wall
      dsimp only
      refine ag_cy1 hc (br_f (by decide) ⟨vp_in_nI hc (by omega), ?_⟩)
      rw [nI_clamp (n := c) (by omega)]
      refine br_c (fun q => ?_) (fun q => ?_)
      · rw [ag_bi0] at q
        rw [q]
        exact ag_wall29Y (b := true) rfl hc ⟨rfl, ag_rel ho hW⟩
      · rw [ag_bi0] at q
        have q' : w c = true := by simpa using q
        rw [q']
        exact ag_wall29Y (b := false) rfl hc ⟨rfl, ag_rel ho hW⟩
    unfold wpX_wall
    dsimp only
    refine ag_cx1 hc (br_f (by decide) ⟨vp_in_nI hc (by omega), ?_⟩)
    rw [nI_clamp (n := c) (by omega)]
    refine br_c (fun q => ?_) (fun q => ?_)
    · rw [ag_bi0] at q
      rw [q] at hy
      exact ag_wall29X (b := true) rfl hc hy
    · rw [ag_bi0] at q
      have q' : w c = true := by simpa using q
      rw [q'] at hy
      exact ag_wall29X (b := false) rfl hc hy
  · have h' : ∀ c, c < 12 → v1 ≠ nI c := fun c hc e => h ⟨c, hc, e⟩
    unfold wpX_wall wpY_wall
    dsimp only
    exact ag_cx0 h' (br_t rfl (ag_cy0 h' (br_t rfl ⟨rfl, ag_rel ho hW⟩)))
theorem i_vc_ways {k : Nat} {u : SX} {v : SY} (I : i_Rel k u v) (hk : k + 4 ≤ 2048) (v1 : Int32) (v2 : Int32) : wpX_ways (fun r u' => wpY_ways (fun r' v' => r' = r ∧ i_Rel (k + 4) u' v') v v1 v2) u v1 v2 := by
  obtain ⟨w, o, z, P, G, g, nc, pl, gl, cg, co, ns, nt, sz, is, py, gy, wk, st, cs, gd, rfl, rfl, ho, hW⟩ := I
  unfold wpX_ways wpY_ways
  dsimp only
  by_cases h : ∃ c, c < 12 ∧ v1 = nI c
  · obtain ⟨c, hc, rfl⟩ := h
    refine ag_cx1 hc (br_f (by decide) ?_)
    by_cases h0 : v2 < 0
    · exact br_t h0 (ag_cy1 hc (br_f (by decide) (br_t h0 ⟨rfl, ag_rel ho hW⟩)))
    · by_cases h15 : v2 ≤ 15
      · obtain ⟨m, hm, rfl⟩ := nI_of2 (n := 15) (by decide) h0 h15
        have e : upd (ag_nf o) (nI c).toNatClampNeg (nI m) = ag_nf (ag_nu o c m) := by
          rw [nI_clamp (by omega)]; exact ag_nf_u
        refine br_f h0 (br_t h15 ⟨vp_in_nI hc (by omega), nm_e ⟨vp_in_nI hc (by omega), nm_r e ?_⟩⟩)
        refine ag_cy1 hc (br_f (by decide) (br_f h0 (br_t h15 ⟨vp_in_nI hc (by omega), nm_e ⟨vp_in_nI hc (by omega), nm_r e ⟨rfl, ag_rel (fun x hx => ?_) hW⟩⟩⟩)))
        unfold ag_nu
        by_cases y : x = c
        · rw [if_pos y]; omega
        · rw [if_neg y]; exact ho x hx
      · exact br_f h0 (br_f h15 (ag_cy1 hc (br_f (by decide) (br_f h0 (br_f h15 ⟨rfl, ag_rel ho hW⟩)))))
  · have h' : ∀ c, c < 12 → v1 ≠ nI c := fun c hc e => h ⟨c, hc, e⟩
    exact ag_cx0 h' (br_t rfl (ag_cy0 h' (br_t rfl ⟨rfl, ag_rel ho hW⟩)))
theorem i_vc_set {k : Nat} {u : SX} {v : SY} (I : i_Rel k u v) (hk : k + 4 ≤ 2048) (v1 : Int32) (v2 : Int32) (v3 : Int32) : wpX_set (fun r u' => wpY_set (fun r' v' => r' = r ∧ i_Rel (k + 4) u' v') v v1 v2 v3) u v1 v2 v3 := by
  obtain ⟨w, o, z, P, G, g, nc, pl, gl, cg, co, ns, nt, sz, is, py, gy, wk, st, cs, gd, rfl, rfl, ho, hW⟩ := I
  unfold wpX_set wpY_set
  dsimp only
  by_cases h : ∃ i, i < 3 ∧ v1 = nI i
  · obtain ⟨i, hi, rfl⟩ := h
    have n0 : ¬ nI i < 0 := nI_pos (by omega)
    have n2 : nI i ≤ 2 := nI_le (b := 2) (by omega) (by omega)
    refine ag_kx1 hi (br_f (by decide) ?_)
    by_cases h2 : ∃ c, c < 12 ∧ v2 = nI c
    · obtain ⟨a, ha, rfl⟩ := h2
      refine ag_cx1 ha (br_f (by decide) ?_)
      by_cases h3 : ∃ c, c < 12 ∧ v3 = nI c
      · obtain ⟨b, hb, rfl⟩ := h3
        refine ag_cx1 hb (br_f (by decide) ⟨vp_in_nI hi (by omega), nm_e ⟨vp_in_nI hi (by omega), nm_e ?_⟩⟩)
        refine br_f n0 (br_t n2 (ag_cy1 ha (br_f (by decide) (ag_cy1 hb (br_f (by decide) ⟨vp_in_nI hi (by omega), nm_e ⟨vp_in_nI hi (by omega), nm_e ⟨vp_in_nI hi (by omega), nm_e ⟨rfl, ?_⟩⟩⟩⟩)))))
        rw [nI_clamp (n := i) (by omega), ag_nb1]
        refine ag_rel (z := ag_bu z i true) (P := ag_nu P i a) (G := ag_nu G i b) ho (fun j hj => ?_)
        unfold ag_bu ag_nu
        by_cases y : j = i
        · subst y
          rw [pk_us, pk_us, pk_us, pk_us, pk_us, if_pos rfl, if_pos rfl, if_pos rfl]
          exact ⟨rfl, ha, hb, fun _ => ⟨rfl, rfl, rfl, rfl⟩, fun e => absurd e.symm Bool.false_ne_true⟩
        · rw [pk_un y, pk_un y, pk_un y, pk_un y, pk_un y, if_neg y, if_neg y, if_neg y]
          exact hW j hj
      · have h' : ∀ c, c < 12 → v3 ≠ nI c := fun c hc e => h3 ⟨c, hc, e⟩
        exact ag_cx0 h' (br_t rfl (br_f n0 (br_t n2 (ag_cy1 ha (br_f (by decide) (ag_cy0 h' (br_t rfl ⟨rfl, ag_rel ho hW⟩)))))))
    · have h' : ∀ c, c < 12 → v2 ≠ nI c := fun c hc e => h2 ⟨c, hc, e⟩
      exact ag_cx0 h' (br_t rfl (br_f n0 (br_t n2 (ag_cy0 h' (br_t rfl ⟨rfl, ag_rel ho hW⟩)))))
  · have h' : ∀ c, c < 3 → v1 ≠ nI c := fun c hc e => h ⟨c, hc, e⟩
    refine ag_kx0 h' (br_t rfl ?_)
    by_cases h0 : v1 < 0
    · exact br_t h0 ⟨rfl, ag_rel ho hW⟩
    · obtain ⟨j, hj, rfl⟩ := nI_of h0
      have : ¬ j < 3 := fun q => h' j q rfl
      exact br_f h0 (br_f (nI_ge (a := 2) (by omega) hj) ⟨rfl, ag_rel ho hW⟩)
def ag_sw (T i : Nat) (a b : Nat → Int32) (j : Nat) : Int32 := if j < i ∧ T.testBit j = true then b j else a j
theorem ag_sw0 (T : Nat) (a b : Nat → Int32) : ag_sw T 0 a b = a := by
  funext j
  unfold ag_sw
  rw [if_neg (by omega)]
theorem ag_swi (T i : Nat) (a b : Nat → Int32) : ag_sw T i a b i = a i := by
  unfold ag_sw
  rw [if_neg (by omega)]
theorem ag_swn {T i : Nat} (hb : T.testBit i = false) (a b : Nat → Int32) : ag_sw T (i + 1) a b = ag_sw T i a b := by
  funext j
  unfold ag_sw
  by_cases y : j = i
  · subst y
    rw [if_neg (by rw [hb]; simp), if_neg (by omega)]
  · by_cases q : j < i ∧ T.testBit j = true
    · rw [if_pos q, if_pos ⟨by omega, q.2⟩]
    · rw [if_neg q, if_neg (fun r => q ⟨by omega, r.2⟩)]
theorem ag_swy {T i : Nat} (hb : T.testBit i = true) (a b : Nat → Int32) : upd (ag_sw T i a b) i (b i) = ag_sw T (i + 1) a b := by
  funext j
  by_cases y : j = i
  · subst y
    rw [pk_us]
    unfold ag_sw
    rw [if_pos ⟨by omega, hb⟩]
  · rw [pk_un y]
    unfold ag_sw
    by_cases q : j < i ∧ T.testBit j = true
    · rw [if_pos q, if_pos ⟨by omega, q.2⟩]
    · rw [if_neg q, if_neg (fun r => q ⟨by omega, r.2⟩)]
theorem i_vc_turnRound {k : Nat} {u : SX} {v : SY} (I : i_Rel k u v) (hk : k + 4 ≤ 2048) (v1 : Int32) : wpX_turnRound (fun r u' => wpY_turnRound (fun r' v' => r' = r ∧ i_Rel (k + 4) u' v') v v1) u v1 := by
  obtain ⟨w, o, z, P, G, g, nc, pl, gl, cg, co, ns, nt, sz, is, py, gy, wk, st, cs, gd, rfl, rfl, ho, hW⟩ := I
  unfold wpX_turnRound
  dsimp only
  refine ag_rdX hW (fun T eT hR => ?_) (fun hN => ?_)
  · subst eT
    obtain ⟨⟨hT1, hT7⟩, hO, hD⟩ := id hR
    refine br_f (by decide) ?_
    refine loop_0 (fun n i (s : Int32 × (Nat → Int32) × (Nat → Int32)) => wX_turnRound_14 _ (nI T) g nc n s.1 (nI i) (ag_bi w) (ag_nf o) s.2.1 s.2.2 cg co ns nt) (fun i s => s.1 = nI (ag_cn (fun j => T.testBit j) i) ∧ s.2.1 = ag_sw T i pl gl ∧ s.2.2 = ag_sw T i gl pl) 3 (nI 0, pl, gl) ⟨rfl, (ag_sw0 T pl gl).symm, (ag_sw0 T gl pl).symm⟩ ?_ ?_
    · rintro n ⟨s1, s2, s3⟩ ⟨e1, e2, e3⟩
      dsimp only at e1 e2 e3 ⊢
      subst e1
      subst e2
      subst e3
      refine br_t (nI_le (b := 3) (Nat.le_refl _) (by decide)) ?_
      unfold wpY_turnRound
      dsimp only
      refine ag_rdY hW (fun T' eT' hR' => ?_) (fun hN => absurd hR (hN T rfl))
      refine br_f (by decide) ?_
      refine loop_0 (fun n i (s : Int32 × (Nat → Int32) × (Nat → Int32)) => wY_turnRound_14 _ (nI T) sz n s.1 (nI i) (ag_bi w) (ag_nf o) is s.2.1 s.2.2 wk st cs gd) (fun i s => s.1 = nI (ag_cn (fun j => T.testBit j) i) ∧ s.2.1 = ag_sw T i py gy ∧ s.2.2 = ag_sw T i gy py) 3 (nI 0, py, gy) ⟨rfl, (ag_sw0 T py gy).symm, (ag_sw0 T gy py).symm⟩ ?_ ?_
      · rintro n ⟨s1, s2, s3⟩ ⟨e1, e2, e3⟩
        dsimp only at e1 e2 e3 ⊢
        subst e1
        subst e2
        subst e3
        refine br_t (nI_le (b := 3) (Nat.le_refl _) (by decide)) ⟨rfl, ?_⟩
        refine ag_rel (z := z) (P := fun j => if T.testBit j = true then G j else P j) (G := fun j => if T.testBit j = true then P j else G j) ho (fun j hj => ?_)
        obtain ⟨q1, q2, q3, q4, q5⟩ := hW j hj
        unfold ag_sw
        by_cases y : T.testBit j = true
        · have zj := (hO j hj y).1
          obtain ⟨r1, r2, r3, r4⟩ := q4 zj
          simp only [y, hj, and_self, if_true]
          exact ⟨q1, q3, q2, fun _ => ⟨r2, r1, r4, r3⟩, fun e => by rw [zj] at e; exact absurd e.symm Bool.false_ne_true⟩
        · simp only [y, Bool.false_eq_true, and_false, if_false]
          exact ⟨q1, q2, q3, q4, q5⟩
      · rintro n i ⟨s1, s2, s3⟩ hi ⟨e1, e2, e3⟩ ih
        dsimp only at e1 e2 e3 ⊢
        subst e1
        subst e2
        subst e3
        refine br_f (nI_ge (b := 3) hi (by decide)) (ag_inY (by omega) hi (fun hb => ?_) (fun hb => ?_))
        · refine br_f (by decide) ⟨vp_in_nI hi (by omega), nm_r (e' := py i) (by rw [nI_clamp (by omega), ag_swi]) ⟨vp_in_nI hi (by omega), vp_in_nI hi (by omega), nm_r (e' := ag_sw T (i + 1) py gy) (by rw [nI_clamp (by omega), ag_swi, ag_swy hb]) ⟨vp_in_nI hi (by omega), nm_r (e' := ag_sw T (i + 1) gy py) (by rw [nI_clamp (by omega), ag_swy hb]) (nm_r (nI_1 _) (nm_r (nI_1 i) (ih (nI (ag_cn (fun j => T.testBit j) i + 1), ag_sw T (i + 1) py gy, ag_sw T (i + 1) gy py) ⟨?_, rfl, rfl⟩)))⟩⟩⟩
          rw [ag_cn_t (P := fun j => T.testBit j) hb]
        · refine br_t rfl (nm_r (nI_1 i) (ih (nI (ag_cn (fun j => T.testBit j) i), ag_sw T i py gy, ag_sw T i gy py) ⟨?_, (ag_swn hb py gy).symm, (ag_swn hb gy py).symm⟩))
          rw [ag_cn_f (P := fun j => T.testBit j) (by rw [hb]; decide)]
    · rintro n i ⟨s1, s2, s3⟩ hi ⟨e1, e2, e3⟩ ih
      dsimp only at e1 e2 e3 ⊢
      subst e1
      subst e2
      subst e3
      refine br_f (nI_ge (b := 3) hi (by decide)) (ag_inX (by omega) hi (fun hb => ?_) (fun hb => ?_))
      · refine br_f (by decide) ⟨vp_in_nI hi (by omega), nm_r (e' := pl i) (by rw [nI_clamp (by omega), ag_swi]) ⟨vp_in_nI hi (by omega), vp_in_nI hi (by omega), nm_r (e' := ag_sw T (i + 1) pl gl) (by rw [nI_clamp (by omega), ag_swi, ag_swy hb]) ⟨vp_in_nI hi (by omega), nm_r (e' := ag_sw T (i + 1) gl pl) (by rw [nI_clamp (by omega), ag_swy hb]) (nm_r (nI_1 _) (nm_r (nI_1 i) (ih (nI (ag_cn (fun j => T.testBit j) i + 1), ag_sw T (i + 1) pl gl, ag_sw T (i + 1) gl pl) ⟨?_, rfl, rfl⟩)))⟩⟩⟩
        rw [ag_cn_t (P := fun j => T.testBit j) hb]
      · refine br_t rfl (nm_r (nI_1 i) (ih (nI (ag_cn (fun j => T.testBit j) i), ag_sw T i pl gl, ag_sw T i gl pl) ⟨?_, (ag_swn hb pl gl).symm, (ag_swn hb gl pl).symm⟩))
        rw [ag_cn_f (P := fun j => T.testBit j) (by rw [hb]; decide)]
  · refine br_t rfl ?_
    unfold wpY_turnRound
    dsimp only
    exact ag_rdY hW (fun T e hR => absurd hR (hN T e)) (fun _ => br_t rfl ⟨rfl, ag_rel ho hW⟩)
