/-! the codes of places and goals; a search from the places -/
variable {g nc : Int32} {wl wo pl gl cg co ns nt : Nat → Int32} {sz : Int32} {iw is py gy wk st cs gd : Nat → Int32}
def ag_sv (T : Nat) (P : Nat → Nat) (i : Nat) : Nat := if T.testBit i = true then P i else 12 + i
def ag_tr (T : Nat) (P : Nat → Nat) : Nat × Nat × Nat := (ag_sv T P 0, ag_sv T P 1, ag_sv T P 2)
def ag_h15 (v : Nat → Nat) : Nat → Nat
  | 0 => 0
  | i + 1 => ag_h15 v i * 15 + v i
theorem ag_h153 (T : Nat) (P : Nat → Nat) : ag_h15 (ag_sv T P) 3 = ag_ex (ag_tr T P) := by
  show ((0 * 15 + ag_sv T P 0) * 15 + ag_sv T P 1) * 15 + ag_sv T P 2 = (ag_sv T P 0 * 15 + ag_sv T P 1) * 15 + ag_sv T P 2
  omega
theorem ag_trV {w z : Nat → Bool} {P G : Nat → Nat} {T : Nat} (hP : ∀ i, i < 3 → P i < 12) (h : ag_Rd w z P G T) : ag_V w T (ag_tr T P) := by
  obtain ⟨_, h1, h2⟩ := h
  have sp : ∀ i, i < 3 → ag_sp w (T.testBit i) i (ag_sv T P i) := fun i hi => by
    refine ⟨fun hb => ?_, fun hb => ?_⟩
    · unfold ag_sv; rw [if_pos hb]; exact ⟨hP i hi, (h1 i hi hb).2.1⟩
    · unfold ag_sv; rw [if_neg (by rw [hb]; decide)]
  have ne : ∀ i j, i < 3 → j < i → ag_sv T P j ≠ ag_sv T P i := fun i j hi hj e => by
    have e1 := hP i hi
    have e2 := hP j (by omega)
    unfold ag_sv at e
    by_cases bi : T.testBit i = true
    · by_cases bj : T.testBit j = true
      · rw [if_pos bi, if_pos bj] at e
        exact (h2 i j hi hj bi bj).1 e.symm
      · rw [if_pos bi, if_neg bj] at e; omega
    · by_cases bj : T.testBit j = true
      · rw [if_neg bi, if_pos bj] at e; omega
      · rw [if_neg bi, if_neg bj] at e; omega
  exact ⟨sp 0 (by omega), sp 1 (by omega), sp 2 (by omega), ne 1 0 (by omega) (by omega), ne 2 0 (by omega) (by omega), ne 2 1 (by omega) (by omega)⟩
theorem ag_Rd_sw {w z : Nat → Bool} {P G : Nat → Nat} {T : Nat} (h : ag_Rd w z P G T) : ag_Rd w z G P T :=
  ⟨h.1, fun i a b => ⟨(h.2.1 i a b).1, (h.2.1 i a b).2.2, (h.2.1 i a b).2.1⟩, fun i j a b c d => ⟨(h.2.2 i j a b c d).2, (h.2.2 i j a b c d).1⟩⟩
theorem ag_of_places {post : Int32 → Prop} {P : Nat → Nat} {T : Nat} (hT : T ≤ 7) (hp : ∀ i, i < 3 → T.testBit i = true → pl i = nI (P i)) (p : post (nI (ag_ex (ag_tr T P)))) : wpX_stateOf__places post (g, nc, wl, wo, pl, gl, cg, co, ns, nt) (nI T) := by
  unfold wpX_stateOf__places
  dsimp only
  rw [← ag_h153] at p
  refine loop_0 (fun n i s => wX_stateOf__places_5 post (nI T) g nc wl wo pl gl cg co ns nt n s (nI i)) (fun i s => s = nI (ag_h15 (ag_sv T P) i)) 3 (nI 0) rfl ?_ ?_
  · rintro n s rfl
    exact br_t (nI_le (b := 3) (Nat.le_refl _) (by decide)) p
  · rintro n i s hi rfl ih
    have fin : ∀ z, z = nI (ag_sv T P i) → wX_stateOf__places_33 post (wX_stateOf__places_5 post (nI T) g nc wl wo pl gl cg co ns nt n) (nI T) (nI (ag_h15 (ag_sv T P) i)) (nI i) z g nc wl wo pl gl cg co ns nt := by
      intro z ez
      unfold wX_stateOf__places_33
      refine nm_r (e' := nI (ag_h15 (ag_sv T P) (i + 1))) ?_ (nm_r (nI_1 i) (ih _ rfl))
      rw [ez, ag_i15]
      rfl
    refine br_f (nI_ge (b := 3) hi (by decide)) (ag_inX (by omega) hi (fun hb => ?_) (fun hb => ?_))
    · refine br_f (by decide) ⟨vp_in_nI hi (by omega), fin _ ?_⟩
      rw [nI_clamp (by omega), hp i hi hb]
      unfold ag_sv
      rw [if_pos hb]
    · refine br_t rfl (fin _ ?_)
      unfold ag_sv
      rw [if_neg (by rw [hb]; decide)]
      exact nI_add 12 i
theorem ag_of_goals {post : Int32 → Prop} {P : Nat → Nat} {T : Nat} (hT : T ≤ 7) (hp : ∀ i, i < 3 → T.testBit i = true → gl i = nI (P i)) (p : post (nI (ag_ex (ag_tr T P)))) : wpX_stateOf__goals post (g, nc, wl, wo, pl, gl, cg, co, ns, nt) (nI T) := by
  unfold wpX_stateOf__goals
  dsimp only
  rw [← ag_h153] at p
  refine loop_0 (fun n i s => wX_stateOf__goals_5 post (nI T) g nc wl wo pl gl cg co ns nt n s (nI i)) (fun i s => s = nI (ag_h15 (ag_sv T P) i)) 3 (nI 0) rfl ?_ ?_
  · rintro n s rfl
    exact br_t (nI_le (b := 3) (Nat.le_refl _) (by decide)) p
  · rintro n i s hi rfl ih
    have fin : ∀ z, z = nI (ag_sv T P i) → wX_stateOf__goals_33 post (wX_stateOf__goals_5 post (nI T) g nc wl wo pl gl cg co ns nt n) (nI T) (nI (ag_h15 (ag_sv T P) i)) (nI i) z g nc wl wo pl gl cg co ns nt := by
      intro z ez
      unfold wX_stateOf__goals_33
      refine nm_r (e' := nI (ag_h15 (ag_sv T P) (i + 1))) ?_ (nm_r (nI_1 i) (ih _ rfl))
      rw [ez, ag_i15]
      rfl
    refine br_f (nI_ge (b := 3) hi (by decide)) (ag_inX (by omega) hi (fun hb => ?_) (fun hb => ?_))
    · refine br_f (by decide) ⟨vp_in_nI hi (by omega), fin _ ?_⟩
      rw [nI_clamp (by omega), hp i hi hb]
      unfold ag_sv
      rw [if_pos hb]
    · refine br_t rfl (fin _ ?_)
      unfold ag_sv
      rw [if_neg (by rw [hb]; decide)]
      exact nI_add 12 i
theorem ag_vT1 {P : Nat → Nat} (h : ag_Wl 1 wk) (hp : ∀ j, j < 3 → Nat.testBit 1 j = true → py j = nI (P j)) : ∃ v : Nat → Nat, (∀ k, k < ag_sz 1 → ∃ j, j < 3 ∧ wk k = nI j ∧ py j = nI (v k)) ∧ (∀ k, ag_sz 1 ≤ k → v k = 0) ∧ ag_hs v 3 = ag_ey 1 (ag_tr 1 P) := by
  refine ⟨fun k => if k = 0 then P 0 else 0, fun k hk => ?_, fun k hk => ?_, ?_⟩
  · have : k = 0 := by have : k < 1 := hk; omega
    subst this
    exact ⟨0, by omega, h 0 (by omega) rfl, hp 0 (by omega) rfl⟩
  · have : 1 ≤ k := hk
    dsimp only
    rw [if_neg (by omega)]
  · rw [ag_hs3]
    rfl
theorem ag_vT2 {P : Nat → Nat} (h : ag_Wl 2 wk) (hp : ∀ j, j < 3 → Nat.testBit 2 j = true → py j = nI (P j)) : ∃ v : Nat → Nat, (∀ k, k < ag_sz 2 → ∃ j, j < 3 ∧ wk k = nI j ∧ py j = nI (v k)) ∧ (∀ k, ag_sz 2 ≤ k → v k = 0) ∧ ag_hs v 3 = ag_ey 2 (ag_tr 2 P) := by
  refine ⟨fun k => if k = 0 then P 1 else 0, fun k hk => ?_, fun k hk => ?_, ?_⟩
  · have : k = 0 := by have : k < 1 := hk; omega
    subst this
    exact ⟨1, by omega, h 1 (by omega) rfl, hp 1 (by omega) rfl⟩
  · have : 1 ≤ k := hk
    dsimp only
    rw [if_neg (by omega)]
  · rw [ag_hs3]
    rfl
theorem ag_vT3 {P : Nat → Nat} (h : ag_Wl 3 wk) (hp : ∀ j, j < 3 → Nat.testBit 3 j = true → py j = nI (P j)) : ∃ v : Nat → Nat, (∀ k, k < ag_sz 3 → ∃ j, j < 3 ∧ wk k = nI j ∧ py j = nI (v k)) ∧ (∀ k, ag_sz 3 ≤ k → v k = 0) ∧ ag_hs v 3 = ag_ey 3 (ag_tr 3 P) := by
  refine ⟨fun k => if k = 0 then P 0 else if k = 1 then P 1 else 0, fun k hk => ?_, fun k hk => ?_, ?_⟩
  · have : k = 0 ∨ k = 1 := by have : k < 2 := hk; omega
    rcases this with rfl | rfl
    · exact ⟨0, by omega, h 0 (by omega) rfl, hp 0 (by omega) rfl⟩
    · exact ⟨1, by omega, h 1 (by omega) rfl, hp 1 (by omega) rfl⟩
  · have : 2 ≤ k := hk
    dsimp only
    rw [if_neg (by omega), if_neg (by omega)]
  · rw [ag_hs3]
    rfl
theorem ag_vT4 {P : Nat → Nat} (h : ag_Wl 4 wk) (hp : ∀ j, j < 3 → Nat.testBit 4 j = true → py j = nI (P j)) : ∃ v : Nat → Nat, (∀ k, k < ag_sz 4 → ∃ j, j < 3 ∧ wk k = nI j ∧ py j = nI (v k)) ∧ (∀ k, ag_sz 4 ≤ k → v k = 0) ∧ ag_hs v 3 = ag_ey 4 (ag_tr 4 P) := by
  refine ⟨fun k => if k = 0 then P 2 else 0, fun k hk => ?_, fun k hk => ?_, ?_⟩
  · have : k = 0 := by have : k < 1 := hk; omega
    subst this
    exact ⟨2, by omega, h 2 (by omega) rfl, hp 2 (by omega) rfl⟩
  · have : 1 ≤ k := hk
    dsimp only
    rw [if_neg (by omega)]
  · rw [ag_hs3]
    rfl
theorem ag_vT5 {P : Nat → Nat} (h : ag_Wl 5 wk) (hp : ∀ j, j < 3 → Nat.testBit 5 j = true → py j = nI (P j)) : ∃ v : Nat → Nat, (∀ k, k < ag_sz 5 → ∃ j, j < 3 ∧ wk k = nI j ∧ py j = nI (v k)) ∧ (∀ k, ag_sz 5 ≤ k → v k = 0) ∧ ag_hs v 3 = ag_ey 5 (ag_tr 5 P) := by
  refine ⟨fun k => if k = 0 then P 0 else if k = 1 then P 2 else 0, fun k hk => ?_, fun k hk => ?_, ?_⟩
  · have : k = 0 ∨ k = 1 := by have : k < 2 := hk; omega
    rcases this with rfl | rfl
    · exact ⟨0, by omega, h 0 (by omega) rfl, hp 0 (by omega) rfl⟩
    · exact ⟨2, by omega, h 2 (by omega) rfl, hp 2 (by omega) rfl⟩
  · have : 2 ≤ k := hk
    dsimp only
    rw [if_neg (by omega), if_neg (by omega)]
  · rw [ag_hs3]
    rfl
theorem ag_vT6 {P : Nat → Nat} (h : ag_Wl 6 wk) (hp : ∀ j, j < 3 → Nat.testBit 6 j = true → py j = nI (P j)) : ∃ v : Nat → Nat, (∀ k, k < ag_sz 6 → ∃ j, j < 3 ∧ wk k = nI j ∧ py j = nI (v k)) ∧ (∀ k, ag_sz 6 ≤ k → v k = 0) ∧ ag_hs v 3 = ag_ey 6 (ag_tr 6 P) := by
  refine ⟨fun k => if k = 0 then P 1 else if k = 1 then P 2 else 0, fun k hk => ?_, fun k hk => ?_, ?_⟩
  · have : k = 0 ∨ k = 1 := by have : k < 2 := hk; omega
    rcases this with rfl | rfl
    · exact ⟨1, by omega, h 1 (by omega) rfl, hp 1 (by omega) rfl⟩
    · exact ⟨2, by omega, h 2 (by omega) rfl, hp 2 (by omega) rfl⟩
  · have : 2 ≤ k := hk
    dsimp only
    rw [if_neg (by omega), if_neg (by omega)]
  · rw [ag_hs3]
    rfl
theorem ag_vT7 {P : Nat → Nat} (h : ag_Wl 7 wk) (hp : ∀ j, j < 3 → Nat.testBit 7 j = true → py j = nI (P j)) : ∃ v : Nat → Nat, (∀ k, k < ag_sz 7 → ∃ j, j < 3 ∧ wk k = nI j ∧ py j = nI (v k)) ∧ (∀ k, ag_sz 7 ≤ k → v k = 0) ∧ ag_hs v 3 = ag_ey 7 (ag_tr 7 P) := by
  refine ⟨fun k => if k = 0 then P 0 else if k = 1 then P 1 else if k = 2 then P 2 else 0, fun k hk => ?_, fun k hk => ?_, ?_⟩
  · have : k = 0 ∨ k = 1 ∨ k = 2 := by have : k < 3 := hk; omega
    rcases this with rfl | rfl | rfl
    · exact ⟨0, by omega, h 0 (by omega) rfl, hp 0 (by omega) rfl⟩
    · exact ⟨1, by omega, h 1 (by omega) rfl, hp 1 (by omega) rfl⟩
    · exact ⟨2, by omega, h 2 (by omega) rfl, hp 2 (by omega) rfl⟩
  · have : 3 ≤ k := hk
    dsimp only
    rw [if_neg (by omega), if_neg (by omega), if_neg (by omega)]
  · rw [ag_hs3]
    rfl
theorem ag_vT {P : Nat → Nat} : ∀ T, 1 ≤ T → T ≤ 7 → ag_Wl T wk → (∀ j, j < 3 → T.testBit j = true → py j = nI (P j)) → ∃ v : Nat → Nat, (∀ k, k < ag_sz T → ∃ j, j < 3 ∧ wk k = nI j ∧ py j = nI (v k)) ∧ (∀ k, ag_sz T ≤ k → v k = 0) ∧ ag_hs v 3 = ag_ey T (ag_tr T P) :=
  ag_T7 ag_vT1 ag_vT2 ag_vT3 ag_vT4 ag_vT5 ag_vT6 ag_vT7
theorem ag_startT {post : Int32 → Prop} {P : Nat → Nat} {T : Nat} (h1 : 1 ≤ T) (h7 : T ≤ 7) (h : ag_Wl T wk) (hp : ∀ j, j < 3 → T.testBit j = true → py j = nI (P j)) (p : post (nI (ag_ey T (ag_tr T P)))) : wpY_start post (nI (ag_sz T), iw, wo, is, py, gy, wk, st, cs, gd) := by
  obtain ⟨v, v1, v2, v3⟩ := ag_vT T h1 h7 h hp
  rw [← v3] at p
  exact ag_startY (ag_sz3 T h1 h7).2 v1 v2 p
theorem ag_finishT {post : Int32 → Prop} {G : Nat → Nat} {T : Nat} (h1 : 1 ≤ T) (h7 : T ≤ 7) (h : ag_Wl T wk) (hp : ∀ j, j < 3 → T.testBit j = true → gy j = nI (G j)) (p : post (nI (ag_ey T (ag_tr T G)))) : wpY_finish post (nI (ag_sz T), iw, wo, is, py, gy, wk, st, cs, gd) := by
  obtain ⟨v, v1, v2, v3⟩ := ag_vT T h1 h7 h hp
  rw [← v3] at p
  exact ag_finishY (ag_sz3 T h1 h7).2 v1 v2 p
/-- the class's search from the places, with a cell shut -/
theorem ag_sfpX {post : SX → Prop} {w S : Nat → Bool} {o P : Nat → Nat} {T : Nat} {sh : Int32} {f : Bool} (ho : ∀ c, c < 12 → o c < 16) (hS : ∀ c, c < 12 → (nI c = sh ↔ S c = true)) (hT : T ≤ 7) (hp : ∀ i, i < 3 → T.testBit i = true → pl i = nI (P i)) (hV : ag_V (fun c => w c || S c) T (ag_tr T P))
    (p : ∀ g' nc' cg' co' ns' nt' D, ag_Rx co' D → ag_Sl 3375 10126 (ag_GX (ag_go (fun c => w c || S c) o) f) (ag_ex (ag_tr T P)) D → post (g', nc', ag_bi w, ag_nf o, pl, gl, cg', co', ns', nt')) : wpX_spreadFromPlaces post (g, nc, ag_bi w, ag_nf o, pl, gl, cg, co, ns, nt) (nI T) sh (ag_b1 f) := by
  unfold wpX_spreadFromPlaces
  dsimp only
  refine ag_drawX ho hS (fun cg' hc => ?_)
  dsimp only
  refine ag_of_places hT hp ?_
  exact ag_fromX (ag_Gd_go _ o) hc hV (fun g' nc' co' ns' nt' D r h => p g' nc' cg' co' ns' nt' D r h)
theorem ag_or_f (w : Nat → Bool) : (fun c => w c || (fun _ => false) c) = w := by
  funext c
  exact Bool.or_false _
theorem ag_sh_m1 : ∀ c, c < 12 → (nI c = (-1 : Int32) ↔ (fun _ : Nat => false) c = true) := fun c hc => ⟨fun e => absurd e (ag_nm1 (by omega)), fun e => absurd e Bool.false_ne_true⟩
theorem ag_sfpX0 {post : SX → Prop} {w : Nat → Bool} {o P : Nat → Nat} {T : Nat} {f : Bool} (ho : ∀ c, c < 12 → o c < 16) (hT : T ≤ 7) (hp : ∀ i, i < 3 → T.testBit i = true → pl i = nI (P i)) (hV : ag_V w T (ag_tr T P))
    (p : ∀ g' nc' cg' co' ns' nt' D, ag_Rx co' D → ag_Sl 3375 10126 (ag_GX (ag_go w o) f) (ag_ex (ag_tr T P)) D → post (g', nc', ag_bi w, ag_nf o, pl, gl, cg', co', ns', nt')) : wpX_spreadFromPlaces post (g, nc, ag_bi w, ag_nf o, pl, gl, cg, co, ns, nt) (nI T) (-1) (ag_b1 f) :=
  ag_sfpX (S := fun _ => false) ho ag_sh_m1 hT hp (by rw [ag_or_f]; exact hV) (by rw [ag_or_f]; exact p)
def ag_ans (d : Nat) : Int32 := if d = 10126 then -2 else nI d
theorem ag_ansX {post : Int32 → Prop} {D : Nat → Nat} (h : ag_Rx co D) {t : Nat} (ht : t < 3375) (p : post (ag_ans (D t))) : wpX_costOrNone post (g, nc, wl, wo, pl, gl, cg, co, ns, nt) (nI t) := by
  unfold wpX_costOrNone
  dsimp only
  refine ⟨vp_in_nI ht (by omega), ?_⟩
  rw [nI_clamp (n := t) (by omega), (h t ht).1]
  have := (h t ht).2
  unfold ag_ans at p
  refine pk_eq (D t) 10126 (fun e => ?_) (fun e => ⟨vp_in_nI ht (by omega), ?_⟩)
  · rw [if_pos e] at p; exact p
  · rw [if_neg e] at p; exact p
theorem ag_ansY {post : Int32 → Prop} {D : Nat → Nat} (h : ag_Ry cs D) {t : Nat} (ht : t < 1728) (p : post (ag_ans (D t))) : wpY_costOf post (sz, iw, wo, is, py, gy, wk, st, cs, gd) (nI t) := by
  unfold wpY_costOf
  dsimp only
  refine ⟨vp_in_nI ht (by omega), ?_⟩
  rw [nI_clamp (n := t) (by omega), (h t ht).1]
  unfold ag_ans at p
  by_cases e : D t = 10126
  · rw [if_pos e] at p
    rw [e]
    exact br_f (by decide) p
  · rw [if_neg e] at p
    rw [ag_iUn e]
    exact br_t (nI_pos' (by have := (h t ht).2; omega)) ⟨vp_in_nI ht (by omega), p⟩
/-- choose and spread -/
theorem ag_csY {post : SY → Prop} {w : Nat → Bool} {o P : Nat → Nat} {T : Nat} {f : Bool} {x : Int32} (hx : x = ag_b1 f) (ho : ∀ c, c < 12 → o c < 16) (h1 : 1 ≤ T) (h7 : T ≤ 7) (hp : ∀ j, j < 3 → T.testBit j = true → py j = nI (P j)) (hV : ag_V w T (ag_tr T P))
    (p : ∀ wk' st' cs' D, ag_Wl T wk' → ag_St w o st' → ag_Ry cs' D → ag_Sl 1728 10126 (ag_GY w o (ag_sz T) f) (ag_ey T (ag_tr T P)) D → post (nI (ag_sz T), ag_bi w, ag_nf o, is, py, gy, wk', st', cs', gd)) : wpY_choose (fun u => wpY_spread post u x) (sz, ag_bi w, ag_nf o, is, py, gy, wk, st, cs, gd) (nI T) := by
  subst hx
  refine ag_chooseY ho h1 h7 (fun wk' st' hw hs => ?_)
  exact ag_spreadY h1 h7 hs hV (fun cs post' q => ag_startT h1 h7 hw hp q) (fun cs' D r h => p wk' st' cs' D hw hs r h)
