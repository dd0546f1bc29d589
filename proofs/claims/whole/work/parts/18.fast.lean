/-! fastest, easiest, arrangements -/
variable {g nc : Int32} {pl gl cg co ns nt : Nat → Int32} {sz : Int32} {is py gy wk st cs gd : Nat → Int32}
theorem ag_DX {w : Nat → Bool} {go : Nat → Nat → Bool} (hg : ag_Gd w go) {f : Bool} {T : Nat} {a q : Nat × Nat × Nat} {D : Nat → Nat} (ha : ag_V w T a) (h : ag_Sl 3375 10126 (ag_GX go f) (ag_ex a) D) (hq : ag_V w T q) : ag_Ds (ag_E go f) a q (D (ag_ex q)) :=
  ag_SlG (V := ag_V w T) (fun t c => ag_simX hg f T ha t c) (fun q q' h h' e => ag_ex_inj h h' e) h hq (ag_exV hq).1
theorem ag_DY {w : Nat → Bool} {o : Nat → Nat} {f : Bool} {T : Nat} (h1 : 1 ≤ T) (h7 : T ≤ 7) {a q : Nat × Nat × Nat} {D : Nat → Nat} (ha : ag_V w T a) (h : ag_Sl 1728 10126 (ag_GY w o (ag_sz T) f) (ag_ey T a) D) (hq : ag_V w T q) : ag_Ds (ag_E (ag_go w o) f) a q (D (ag_ey T q)) :=
  ag_SlG (V := ag_V w T) (fun t c => ag_simY f h1 h7 ha t c) (fun q q' h h' e => ag_ey_inj h1 h7 h h' e) h hq (ag_eyV T h1 h7 q hq)
theorem ag_DD {w : Nat → Bool} {o : Nat → Nat} {f : Bool} {T : Nat} (h1 : 1 ≤ T) (h7 : T ≤ 7) {a q : Nat × Nat × Nat} {D D' : Nat → Nat} (ha : ag_V w T a) (h : ag_Sl 3375 10126 (ag_GX (ag_go w o) f) (ag_ex a) D) (h' : ag_Sl 1728 10126 (ag_GY w o (ag_sz T) f) (ag_ey T a) D') (hq : ag_V w T q) : D' (ag_ey T q) = D (ag_ex q) :=
  ag_DsU (ag_DY h1 h7 ha h' hq) (ag_DX (ag_Gd_go w o) ha h hq)
theorem ag_VX {w : Nat → Bool} {go : Nat → Nat → Bool} (hg : ag_Gd w go) {f : Bool} {T : Nat} {a : Nat × Nat × Nat} {D : Nat → Nat} (ha : ag_V w T a) (h : ag_Sl 3375 10126 (ag_GX go f) (ag_ex a) D) {t : Nat} (ht : t < 3375) (hD : D t ≠ 10126) : ∃ q, t = ag_ex q ∧ ag_V w T q :=
  ag_SlV (V := ag_V w T) (fun t c => ag_simX hg f T ha t c) h ht hD
theorem ag_VY {w : Nat → Bool} {o : Nat → Nat} {f : Bool} {T : Nat} (h1 : 1 ≤ T) (h7 : T ≤ 7) {a : Nat × Nat × Nat} {D : Nat → Nat} (ha : ag_V w T a) (h : ag_Sl 1728 10126 (ag_GY w o (ag_sz T) f) (ag_ey T a) D) {t : Nat} (ht : t < 1728) (hD : D t ≠ 10126) : ∃ q, t = ag_ey T q ∧ ag_V w T q :=
  ag_SlV (V := ag_V w T) (fun t c => ag_simY f h1 h7 ha t c) h ht hD
/-- what readiness gives -/
theorem ag_rdp {w z : Nat → Bool} {P G : Nat → Nat} {T : Nat} (hW : ag_Wr z P G pl gl is py gy) (hR : ag_Rd w z P G T) : (∀ i, i < 3 → T.testBit i = true → pl i = nI (P i)) ∧ (∀ i, i < 3 → T.testBit i = true → gl i = nI (G i)) ∧ (∀ i, i < 3 → T.testBit i = true → py i = nI (P i)) ∧ (∀ i, i < 3 → T.testBit i = true → gy i = nI (G i)) ∧ ag_V w T (ag_tr T P) ∧ ag_V w T (ag_tr T G) := by
  have k := fun i hi hb => (hW i hi).2.2.2.1 (hR.2.1 i hi hb).1
  exact ⟨fun i hi hb => (k i hi hb).1, fun i hi hb => (k i hi hb).2.1, fun i hi hb => (k i hi hb).2.2.1, fun i hi hb => (k i hi hb).2.2.2, ag_trV (fun i hi => (hW i hi).2.1) hR, ag_trV (fun i hi => (hW i hi).2.2.1) (ag_Rd_sw hR)⟩
theorem ag_ltY {post : Int32 → SY → Prop} {w : Nat → Bool} {o P G : Nat → Nat} {T : Nat} (ho : ∀ c, c < 12 → o c < 16) (h1 : 1 ≤ T) (h7 : T ≤ 7) (hp : ∀ j, j < 3 → T.testBit j = true → py j = nI (P j)) (hg : ∀ j, j < 3 → T.testBit j = true → gy j = nI (G j)) (hV : ag_V w T (ag_tr T P)) (hE : ag_V w T (ag_tr T G))
    (p : ∀ wk' st' cs' D, ag_Wl T wk' → ag_St w o st' → ag_Ry cs' D → ag_Sl 1728 10126 (ag_GY w o (ag_sz T) false) (ag_ey T (ag_tr T P)) D → post (ag_ans (D (ag_ey T (ag_tr T G)))) (nI (ag_sz T), ag_bi w, ag_nf o, is, py, gy, wk', st', cs', gd)) : wpY_leastTurns post (sz, ag_bi w, ag_nf o, is, py, gy, wk, st, cs, gd) (nI T) := by
  unfold wpY_leastTurns
  dsimp only
  refine ag_chooseY ho h1 h7 (fun wk' st' hw hs => ?_)
  dsimp only
  refine ag_spreadY (f := false) h1 h7 hs hV (fun cs post' q => ag_startT h1 h7 hw hp q) (fun cs' D r h => ?_)
  dsimp only
  refine ag_finishT h1 h7 hw hg ?_
  exact ag_ansY r (ag_eyV T h1 h7 _ hE) (p wk' st' cs' D hw hs r h)
theorem i_vc_fastest {k : Nat} {u : SX} {v : SY} (I : i_Rel k u v) (hk : k + 4 ≤ 2048) (v1 : Int32) : wpX_fastest (fun r u' => wpY_fastest (fun r' v' => r' = r ∧ i_Rel (k + 4) u' v') v v1) u v1 := by
  obtain ⟨w, o, z, P, G, g, nc, pl, gl, cg, co, ns, nt, sz, is, py, gy, wk, st, cs, gd, rfl, rfl, ho, hW⟩ := I
  unfold wpX_fastest
  dsimp only
  refine ag_rdX hW (fun T eT hR => ?_) (fun hN => ?_)
  · subst eT
    obtain ⟨hT1, hT7⟩ := hR.1
    obtain ⟨p1, p2, p3, p4, hV, hE⟩ := ag_rdp hW hR
    refine br_f (by decide) (ag_sfpX0 (f := false) ho hT7 p1 hV (fun g' nc' cg' co' ns' nt' D r h => ?_))
    dsimp only
    refine ag_of_goals hT7 p2 (ag_ansX r (ag_exV hE).1 ?_)
    unfold wpY_fastest
    dsimp only
    refine ag_rdY hW (fun _ _ _ => ?_) (fun hN => absurd hR (hN T rfl))
    refine br_f (by decide) (ag_ltY ho hT1 hT7 p3 p4 hV hE (fun wk' st' cs' D' hw hs r' h' => ?_))
    dsimp only
    exact ⟨by rw [ag_DD hT1 hT7 hV h h' hE], ag_rel ho hW⟩
  · refine br_t rfl ?_
    unfold wpY_fastest
    dsimp only
    exact ag_rdY hW (fun T e hR => absurd hR (hN T e)) (fun _ => br_t rfl ⟨rfl, ag_rel ho hW⟩)
theorem i_vc_easiest {k : Nat} {u : SX} {v : SY} (I : i_Rel k u v) (hk : k + 4 ≤ 2048) (v1 : Int32) : wpX_easiest (fun r u' => wpY_easiest (fun r' v' => r' = r ∧ i_Rel (k + 4) u' v') v v1) u v1 := by
  obtain ⟨w, o, z, P, G, g, nc, pl, gl, cg, co, ns, nt, sz, is, py, gy, wk, st, cs, gd, rfl, rfl, ho, hW⟩ := I
  unfold wpX_easiest
  dsimp only
  refine ag_rdX hW (fun T eT hR => ?_) (fun hN => ?_)
  · subst eT
    obtain ⟨hT1, hT7⟩ := hR.1
    obtain ⟨p1, p2, p3, p4, hV, hE⟩ := ag_rdp hW hR
    refine br_f (by decide) (ag_sfpX0 (f := true) ho hT7 p1 hV (fun g' nc' cg' co' ns' nt' D r h => ?_))
    dsimp only
    refine ag_of_goals hT7 p2 (ag_ansX r (ag_exV hE).1 ?_)
    unfold wpY_easiest
    dsimp only
    refine ag_rdY hW (fun _ _ _ => ?_) (fun hN => absurd hR (hN T rfl))
    refine br_f (by decide) (ag_chooseY ho hT1 hT7 (fun wk' st' hw hs => ?_))
    dsimp only
    refine ag_spreadY (f := true) hT1 hT7 hs hV (fun cs post' q => ag_startT hT1 hT7 hw p3 q) (fun cs' D' r' h' => ?_)
    dsimp only
    refine ag_finishT hT1 hT7 hw p4 ?_
    refine ag_ansY r' (ag_eyV T hT1 hT7 _ hE) ?_
    exact ⟨by rw [ag_DD hT1 hT7 hV h h' hE], ag_rel ho hW⟩
  · refine br_t rfl ?_
    unfold wpY_easiest
    dsimp only
    exact ag_rdY hW (fun T e hR => absurd hR (hN T e)) (fun _ => br_t rfl ⟨rfl, ag_rel ho hW⟩)
def ag_nU (D : Nat → Nat) (t : Nat) : Bool := !(D t == 10126)
theorem ag_nU_iff {D : Nat → Nat} {t : Nat} : ag_nU D t = true ↔ D t ≠ 10126 := by
  unfold ag_nU
  simp
theorem ag_arr {w : Nat → Bool} {o : Nat → Nat} {f : Bool} {T : Nat} (h1 : 1 ≤ T) (h7 : T ≤ 7) {a : Nat × Nat × Nat} {D D' : Nat → Nat} (ha : ag_V w T a) (h : ag_Sl 3375 10126 (ag_GX (ag_go w o) f) (ag_ex a) D) (h' : ag_Sl 1728 10126 (ag_GY w o (ag_sz T) f) (ag_ey T a) D') : ag_cn (ag_nU D') 1728 = ag_cn (ag_nU D) 3375 := by
  have hg := ag_Gd_go w o
  refine Nat.le_antisymm ?_ ?_
  · have kk : ∀ t, t < 1728 → ag_nU D' t = true → ∃ q, t = ag_ey T q ∧ ag_V w T q := fun t ht e => ag_VY h1 h7 ha h' ht (ag_nU_iff.mp e)
    have : ∃ φ : Nat → Nat × Nat × Nat, ∀ t, t < 1728 → ag_nU D' t = true → t = ag_ey T (φ t) ∧ ag_V w T (φ t) := by
      refine ⟨fun t => if ht : t < 1728 ∧ ag_nU D' t = true then (kk t ht.1 ht.2).choose else (0, 0, 0), fun t ht e => ?_⟩
      dsimp only
      rw [dif_pos ⟨ht, e⟩]
      exact (kk t ht e).choose_spec
    obtain ⟨φ, hφ⟩ := this
    refine ag_cn_inj _ 3375 (fun t => ag_ex (φ t)) 1728 _ (fun t ht e => ?_) (fun t t' ht ht' e e' ee => ?_)
    · obtain ⟨q1, q2⟩ := hφ t ht e
      refine ⟨(ag_exV q2).1, ag_nU_iff.mpr ?_⟩
      rw [← ag_DD h1 h7 ha h h' q2, ← q1]
      exact ag_nU_iff.mp e
    · obtain ⟨q1, q2⟩ := hφ t ht e
      obtain ⟨r1, r2⟩ := hφ t' ht' e'
      rw [q1, r1, ag_ex_inj q2 r2 ee]
  · refine ag_cn_inj _ 1728 (fun t => ag_ey T (ag_dx t)) 3375 _ (fun t ht e => ?_) (fun t t' ht ht' e e' ee => ?_)
    · obtain ⟨q, rfl, v⟩ := ag_VX hg ha h ht (ag_nU_iff.mp e)
      rw [(ag_exV v).2]
      refine ⟨ag_eyV T h1 h7 q v, ag_nU_iff.mpr ?_⟩
      rw [ag_DD h1 h7 ha h h' v]
      exact ag_nU_iff.mp e
    · obtain ⟨q, rfl, v⟩ := ag_VX hg ha h ht (ag_nU_iff.mp e)
      obtain ⟨q', rfl, v'⟩ := ag_VX hg ha h ht' (ag_nU_iff.mp e')
      rw [(ag_exV v).2, (ag_exV v').2] at ee
      rw [ag_ey_inj h1 h7 v v' ee]
theorem i_vc_arrangements {k : Nat} {u : SX} {v : SY} (I : i_Rel k u v) (hk : k + 4 ≤ 2048) (v1 : Int32) : wpX_arrangements (fun r u' => wpY_arrangements (fun r' v' => r' = r ∧ i_Rel (k + 4) u' v') v v1) u v1 := by
  obtain ⟨w, o, z, P, G, g, nc, pl, gl, cg, co, ns, nt, sz, is, py, gy, wk, st, cs, gd, rfl, rfl, ho, hW⟩ := I
  unfold wpX_arrangements
  dsimp only
  refine ag_rdX hW (fun T eT hR => ?_) (fun hN => ?_)
  · subst eT
    obtain ⟨hT1, hT7⟩ := hR.1
    obtain ⟨p1, p2, p3, p4, hV, hE⟩ := ag_rdp hW hR
    refine br_f (by decide) (ag_sfpX0 (f := false) ho hT7 p1 hV (fun g' nc' cg' co' ns' nt' D r h => ?_))
    dsimp only
    refine loop_0 (fun n i s => wX_arrangements_21 _ g' nc' (ag_bi w) (ag_nf o) pl gl cg' co' ns' nt' n s (nI i)) (fun i s => s = nI (ag_cn (ag_nU D) i)) 3375 (nI 0) rfl ?_ ?_
    · rintro n s rfl
      refine br_t (nI_le (b := 3375) (Nat.le_refl _) (by decide)) ?_
      unfold wpY_arrangements
      dsimp only
      refine ag_rdY hW (fun _ _ _ => ?_) (fun hN => absurd hR (hN T rfl))
      refine br_f (by decide) (ag_chooseY ho hT1 hT7 (fun wk' st' hw hs => ?_))
      dsimp only
      refine ag_spreadY (f := false) hT1 hT7 hs hV (fun cs post' q => ag_startT hT1 hT7 hw p3 q) (fun cs' D' r' h' => ?_)
      dsimp only
      refine loop_0 (fun n i s => wY_arrangements_24 _ (nI (ag_sz T)) (ag_bi w) (ag_nf o) is py gy wk' st' cs' gd n s (nI i)) (fun i s => s = nI (ag_cn (ag_nU D') i)) 1728 (nI 0) rfl ?_ ?_
      · rintro n s rfl
        refine br_t (nI_le (b := 1728) (Nat.le_refl _) (by decide)) ⟨?_, ag_rel ho hW⟩
        rw [ag_arr hT1 hT7 hV h h']
      · rintro n i s hi rfl ih
        refine br_f (nI_ge (b := 1728) hi (by decide)) ⟨vp_in_nI hi (by omega), ?_⟩
        rw [nI_clamp (n := i) (by omega), (r' i hi).1]
        refine br_c (fun q => ?_) (fun q => ?_)
        · rw [ag_iU0 (r' i hi).2] at q
          refine nm_r (nI_1 i) (ih _ ?_)
          rw [ag_cn_f (fun e => ag_nU_iff.mp e q)]
        · rw [ag_iU0 (r' i hi).2] at q
          refine nm_r (nI_1 _) (nm_r (nI_1 i) (ih _ ?_))
          rw [ag_cn_t (ag_nU_iff.mpr q)]
    · rintro n i s hi rfl ih
      refine br_f (nI_ge (b := 3375) hi (by decide)) ⟨vp_in_nI hi (by omega), ?_⟩
      rw [nI_clamp (n := i) (by omega), (r i hi).1]
      refine pk_eq (D i) 10126 (fun q => ?_) (fun q => ?_) rfl rfl (by have := (r i hi).2; omega)
      · refine nm_r (nI_1 i) (ih _ ?_)
        rw [ag_cn_f (fun e => ag_nU_iff.mp e q)]
      · refine nm_r (nI_1 _) (nm_r (nI_1 i) (ih _ ?_))
        rw [ag_cn_t (ag_nU_iff.mpr q)]
  · refine br_t rfl ?_
    unfold wpY_arrangements
    dsimp only
    exact ag_rdY hW (fun T e hR => absurd hR (hN T e)) (fun _ => br_t rfl ⟨rfl, ag_rel ho hW⟩)
