/-! the class's table of moves -/
variable {g nc : Int32} {wl wo pl gl cg co ns nt : Nat → Int32}
def ag_Cg (go : Nat → Nat → Bool) (cg : Nat → Int32) : Prop := ∀ k, k < 225 → cg k = ag_b1 (go (k / 15) (k % 15))
theorem ag_Cg2 {go : Nat → Nat → Bool} (h : ag_Cg go cg) {a b : Nat} (ha : a < 15) (hb : b < 15) : cg (a * 15 + b) = ag_b1 (go a b) := by
  have := h (a * 15 + b) (by omega)
  rw [show (a * 15 + b) / 15 = a by omega, show (a * 15 + b) % 15 = b by omega] at this
  exact this
theorem ag_b10 {b : Bool} : ag_b1 b = 0 ↔ b = false := by cases b <;> simp [ag_b1]
theorem ag_i15 (i j : Nat) : nI i * 15 + nI j = nI (i * 15 + j) := by
  rw [show (15 : Int32) = nI 15 from rfl, pk_mul, nI_add]
theorem ag_wr {f : Nat → Bool} {s : Nat → Int32} {m : Nat} {x : Int32} (h : ∀ k, k < m → s k = ag_b1 (f k)) (hx : x = ag_b1 (f m)) : ∀ k, k < m + 1 → upd s m x k = ag_b1 (f k) := by
  intro k hk
  by_cases e : k = m
  · subst e; rw [pk_us]; exact hx
  · rw [pk_un e]; exact h k (by omega)
theorem ag_drawX {post : SX → Prop} {w S : Nat → Bool} {o : Nat → Nat} {sh : Int32} (ho : ∀ c, c < 12 → o c < 16) (hS : ∀ c, c < 12 → (nI c = sh ↔ S c = true)) (p : ∀ cg', ag_Cg (ag_go (fun c => w c || S c) o) cg' → post (g, nc, ag_bi w, ag_nf o, pl, gl, cg', co, ns, nt)) : wpX_drawMoves post (g, nc, ag_bi w, ag_nf o, pl, gl, cg, co, ns, nt) sh := by
  unfold wpX_drawMoves
  dsimp only
  refine loop_0 (fun n i s => wX_drawMoves_2 post sh g nc n (nI i) (ag_bi w) (ag_nf o) pl gl s co ns nt) (fun i s => ∀ k, k < i * 15 → s k = ag_b1 (ag_go (fun c => w c || S c) o (k / 15) (k % 15))) 15 cg (fun k hk => absurd hk (by omega)) ?_ ?_
  · intro n s h
    exact br_t (nI_le (b := 15) (Nat.le_refl 15) (by decide)) (p s h)
  · intro n i s hi h ih
    refine br_f (nI_ge (b := 15) hi (by decide)) ?_
    refine loop_0 (fun m j s => wX_drawMoves_10 post (wX_drawMoves_2 post sh g nc n) sh (nI i) g nc m (nI j) (ag_bi w) (ag_nf o) pl gl s co ns nt) (fun j s => ∀ k, k < i * 15 + j → s k = ag_b1 (ag_go (fun c => w c || S c) o (k / 15) (k % 15))) 15 s h ?_ ?_
    · intro m s h
      exact br_t (nI_le (b := 15) (Nat.le_refl 15) (by decide)) (nm_r (nI_1 i) (ih s (fun k hk => h k (by omega))))
    · intro m j s hj h ih2
      refine br_f (nI_ge (b := 15) hj (by decide)) ?_
      have hin : vp_in (nI i * 15 + nI j) 225 := by
        rw [ag_i15]; exact vp_in_nI (by omega) (by omega)
      have e1 : upd s (nI i * 15 + nI j).toNatClampNeg (vp_nar .boolean 1) = upd s (i * 15 + j) 1 := by
        rw [ag_i15, nI_clamp (by omega), ag_nb1]
      have e0 : upd s (nI i * 15 + nI j).toNatClampNeg (vp_nar .boolean 0) = upd s (i * 15 + j) 0 := by
        rw [ag_i15, nI_clamp (by omega), ag_nb0]
      have d1 : (i * 15 + j) / 15 = i := by omega
      have d2 : (i * 15 + j) % 15 = j := by omega
      refine pk_eq i j (fun e => ?_) (fun ne => ?_)
      · refine ⟨hin, nm_r e1 (nm_r (nI_1 j) (ih2 _ (ag_wr (m := i * 15 + j) h ?_)))⟩
        rw [d1, d2, e]
        simp [ag_go, ag_b1]
      · refine ag_stepX (by omega) (by omega) ho hS (fun hm => ?_) (fun hm => ?_)
        · refine br_f (by decide) ⟨hin, nm_r e1 (nm_r (nI_1 j) (ih2 _ (ag_wr (m := i * 15 + j) h ?_)))⟩
          rw [d1, d2]
          simp [ag_go, hm, ag_b1]
        · refine br_t rfl ⟨hin, nm_r e0 (nm_r (nI_1 j) (ih2 _ (ag_wr (m := i * 15 + j) h ?_)))⟩
          rw [d1, d2]
          simp [ag_go, hm, ag_b1, ne]
/-- the pairs turned so far -/
def ag_Tn (i j a b : Nat) : Prop := (a < i ∧ b < i) ∨ (a = i ∧ b < j) ∨ (b = i ∧ a < j)
def ag_Cb (go : Nat → Nat → Bool) (i j : Nat) (s : Nat → Int32) : Prop := ∀ a b, a < 15 → b < 15 → (ag_Tn i j a b → s (a * 15 + b) = ag_b1 (go b a)) ∧ (¬ ag_Tn i j a b → s (a * 15 + b) = ag_b1 (go a b))
theorem ag_backX {post : SX → Prop} {go : Nat → Nat → Bool} (h : ag_Cg go cg) (p : ∀ cg', ag_Cg (ag_gr go) cg' → post (g, nc, wl, wo, pl, gl, cg', co, ns, nt)) : wpX_turnMovesBack post (g, nc, wl, wo, pl, gl, cg, co, ns, nt) := by
  unfold wpX_turnMovesBack
  dsimp only
  refine loop_0 (fun n i s => wX_turnMovesBack_2 post g nc n (nI i) wl wo pl gl s co ns nt) (fun i s => ag_Cb go i 0 s) 15 cg ?_ ?_ ?_
  · intro a b ha hb
    refine ⟨fun z => ?_, fun _ => ag_Cg2 h ha hb⟩
    unfold ag_Tn at z
    omega
  · intro n s hs
    refine br_t (nI_le (b := 15) (Nat.le_refl 15) (by decide)) (p s (fun k hk => ?_))
    have := (hs (k / 15) (k % 15) (by omega) (by omega)).1 (by unfold ag_Tn; omega)
    rw [show k / 15 * 15 + k % 15 = k by omega] at this
    exact this
  · intro n i s hi hs ih
    refine br_f (nI_ge (b := 15) hi (by decide)) ?_
    refine loop_0 (fun m j s => wX_turnMovesBack_10 post (wX_turnMovesBack_2 post g nc n) (nI i) g nc m (nI j) wl wo pl gl s co ns nt) (fun j s => ag_Cb go i j s) i s hs ?_ ?_
    · intro m s hs
      refine br_t (nI_le (Nat.le_refl i) (by omega)) (nm_r (nI_1 i) (ih s ?_))
      intro a b ha hb
      have k := hs a b ha hb
      unfold ag_Tn at k ⊢
      by_cases e : a = b
      · subst e
        have : s (a * 15 + a) = ag_b1 (go a a) := by
          by_cases z : (a < i ∧ a < i) ∨ (a = i ∧ a < i) ∨ (a = i ∧ a < i)
          · exact k.1 z
          · exact k.2 z
        exact ⟨fun _ => this, fun _ => this⟩
      · exact ⟨fun z => k.1 (by omega), fun z => k.2 (by omega)⟩
    · intro m j s hj hs ih2
      refine br_f (nI_ge hj (by omega)) ?_
      have hin : vp_in (nI i * 15 + nI j) 225 := by
        rw [ag_i15]; exact vp_in_nI (by omega) (by omega)
      have hin2 : vp_in (nI j * 15 + nI i) 225 := by
        rw [ag_i15]; exact vp_in_nI (by omega) (by omega)
      have nb : ∀ b : Bool, vp_nar .boolean (ag_b1 b) = ag_b1 b := by decide
      have v1 := (hs i j hi (by omega)).2 (by unfold ag_Tn; omega)
      have v2 := (hs j i (by omega) hi).2 (by unfold ag_Tn; omega)
      have e0 : s (nI i * 15 + nI j).toNatClampNeg = ag_b1 (go i j) := by
        rw [ag_i15, nI_clamp (by omega), v1]
      have e1 : upd s (nI i * 15 + nI j).toNatClampNeg (vp_nar .boolean (s (nI j * 15 + nI i).toNatClampNeg)) = upd s (i * 15 + j) (ag_b1 (go j i)) := by
        rw [ag_i15, nI_clamp (by omega), ag_i15, nI_clamp (by omega), v2, nb]
      have e2 : upd (upd s (i * 15 + j) (ag_b1 (go j i))) (nI j * 15 + nI i).toNatClampNeg (vp_nar .boolean (ag_b1 (go i j))) = upd (upd s (i * 15 + j) (ag_b1 (go j i))) (j * 15 + i) (ag_b1 (go i j)) := by
        rw [ag_i15, nI_clamp (by omega), nb]
      refine ⟨hin, nm_r e0 ⟨hin2, hin, nm_r e1 ⟨hin2, nm_r e2 (nm_r (nI_1 j) (ih2 _ ?_))⟩⟩⟩
      intro a b ha hb
      have k := hs a b ha hb
      by_cases c2 : a = j ∧ b = i
      · obtain ⟨rfl, rfl⟩ := c2
        rw [pk_us]
        exact ⟨fun _ => rfl, fun z => absurd (show ag_Tn b (a + 1) a b by unfold ag_Tn; omega) z⟩
      · rw [pk_un (by omega)]
        by_cases c1 : a = i ∧ b = j
        · obtain ⟨rfl, rfl⟩ := c1
          rw [pk_us]
          exact ⟨fun _ => rfl, fun z => absurd (show ag_Tn a (b + 1) a b by unfold ag_Tn; omega) z⟩
        · rw [pk_un (by omega)]
          unfold ag_Tn at k ⊢
          exact ⟨fun z => k.1 (by omega), fun z => k.2 (by omega)⟩
