/-! swarm -/
variable {g nc : Int32} {wl wo pl gl cg co ns nt : Nat → Int32} {sz : Int32} {iw is py gy wk st cs gd : Nat → Int32}
theorem ag_spotX {post : Int32 → Prop} {u : SX} {s k : Nat} (hs : s < 3375) (hk : k < 3) (p : post (nI (ag_co (ag_dx s) k))) : wpX_spotIn post u (nI s) (nI k) := by
  have : k = 0 ∨ k = 1 ∨ k = 2 := by omega
  rcases this with rfl | rfl | rfl
  · exact ag_spot0 (by omega) p
  · exact ag_spot1 (by omega) p
  · exact ag_spot2 (by omega) p
theorem ag_co15 {s k : Nat} (hs : s < 3375) : ag_co (ag_dx s) k < 15 := by
  unfold ag_co ag_dx
  dsimp only
  split
  · omega
  · split <;> omega
theorem ag_takenX {post : Int32 → Prop} {s : Nat} (hs : s < 3375) (p : post (nI (ag_om (ag_co (ag_dx s)) 3))) : wpX_spotsTaken post (g, nc, wl, wo, pl, gl, cg, co, ns, nt) (nI s) := by
  unfold wpX_spotsTaken
  dsimp only
  refine loop_0 (fun n i x => wX_spotsTaken_4 post (nI s) g nc wl wo pl gl cg co ns nt n x (nI i)) (fun i x => x = nI (ag_om (ag_co (ag_dx s)) i)) 3 (nI 0) rfl ?_ ?_
  · rintro n x rfl
    exact br_t (nI_le (b := 3) (Nat.le_refl _) (by decide)) p
  · rintro n i x hi rfl ih
    refine br_f (nI_ge (b := 3) hi (by decide)) (ag_spotX hs hi (nm_r (e' := nI (ag_om (ag_co (ag_dx s)) (i + 1))) ?_ (nm_r (nI_1 i) (ih _ rfl))))
    rw [ag_one (by have := ag_co15 (k := i) hs; omega), ag_or]
    rfl
theorem ag_takesY {post : Int32 → Prop} {n s : Nat} {v : Nat → Nat} (hn : n ≤ 3) (hs : s < 1728) (hv : ∀ k, k < n → v k < 12 ∧ ∃ j, j < 3 ∧ wk k = nI j ∧ gy j = nI (v k)) (p1 : ag_om (ag_dg s) n = ag_om v n → post 1) (p0 : ag_om (ag_dg s) n ≠ ag_om v n → post 0) : wpY_takesGoals post (nI n, iw, wo, is, py, gy, wk, st, cs, gd) (nI s) := by
  have hd : ∀ k, k < 3 → ag_dg s k < 12 := fun k hk => by
    unfold ag_dg
    split
    · omega
    · split <;> omega
  unfold wpY_takesGoals
  dsimp only
  refine loop_0 (fun m i (x : Int32 × Int32) => wY_takesGoals_7 post (nI s) (nI n) iw wo is py gy wk st cs gd m x.1 x.2 (nI i)) (fun i x => x.1 = nI (ag_om (ag_dg s) i) ∧ x.2 = nI (ag_om v i)) n (nI 0, nI 0) ⟨rfl, rfl⟩ ?_ ?_
  · rintro m ⟨x1, x2⟩ ⟨e1, e2⟩
    dsimp only at e1 e2 ⊢
    subst e1
    subst e2
    refine br_t (nI_le (Nat.le_refl n) (by omega)) (pk_eq (ag_om (ag_dg s) n) (ag_om v n) p1 p0 rfl rfl (ag_om_lt (fun k hk => ?_)) (ag_om_lt (fun k hk => ?_)))
    · have := hd k (by omega); omega
    · have := (hv k hk).1; omega
  · rintro m i ⟨x1, x2⟩ hi ⟨e1, e2⟩ ih
    dsimp only at e1 e2 ⊢
    subst e1
    subst e2
    obtain ⟨b, j, hj, f1, f2⟩ := hv i hi
    refine br_f (nI_ge hi (by omega)) (ag_cellY hs (by omega) (nm_r (e' := nI (ag_om (ag_dg s) (i + 1))) ?_ ⟨vp_in_nI (show i < 3 by omega) (by omega), ?_⟩))
    · rw [ag_one (by have := hd i (by omega); omega), ag_or]
      rfl
    · rw [nI_clamp (n := i) (by omega), f1]
      refine ⟨vp_in_nI hj (by omega), nm_r (e' := nI (ag_om v (i + 1))) ?_ (nm_r (nI_1 i) (ih (nI (ag_om (ag_dg s) (i + 1)), nI (ag_om v (i + 1))) ⟨rfl, rfl⟩))⟩
      rw [nI_clamp (by omega), f2, ag_one (by omega), ag_or]
      rfl
theorem ag_ans0 {d : Nat} (h : d ≤ 10126) : ag_ans d < 0 ↔ d = 10126 := by
  unfold ag_ans
  by_cases e : d = 10126
  · rw [if_pos e]; exact ⟨fun _ => e, fun _ => by decide⟩
  · rw [if_neg e]
    exact ⟨fun z => absurd z (nI_pos (by omega)), fun z => absurd z e⟩
theorem ag_om_ex {f f' : Nat → Nat} {i : Nat} (h : ∀ k, k < i → f k = f' k) : ag_om f i = ag_om f' i := by
  induction i with
  | zero => rfl
  | succ i ih =>
    rw [show ag_om f (i + 1) = ag_om f i ||| 2 ^ f i from rfl, show ag_om f' (i + 1) = ag_om f' i ||| 2 ^ f' i from rfl, ih (fun k hk => h k (by omega)), h i (by omega)]
theorem i_vc_swarm {k : Nat} {u : SX} {v : SY} (I : i_Rel k u v) (hk : k + 4 ≤ 2048) (v1 : Int32) : wpX_swarm (fun r u' => wpY_swarm (fun r' v' => r' = r ∧ i_Rel (k + 4) u' v') v v1) u v1 := by
  obtain ⟨w, o, z, P, G, g, nc, pl, gl, cg, co, ns, nt, sz, is, py, gy, wk, st, cs, gd, rfl, rfl, ho, hW⟩ := I
  unfold wpX_swarm
  dsimp only
  refine ag_rdX hW (fun T eT hR => ?_) (fun hN => ?_)
  · subst eT
    obtain ⟨hT1, hT7⟩ := hR.1
    obtain ⟨p1, p2, p3, p4, hV, hE⟩ := ag_rdp hW hR
    have hg := ag_Gd_go w o
    have he := (ag_exV hE).1
    refine br_f (by decide) (ag_sfpX0 (f := false) ho hT7 p1 hV (fun g' nc' cg' co' ns' nt' D r h => ?_))
    dsimp only
    refine ag_of_goals hT7 p2 (ag_takenX he ?_)
    have tkl : ∀ t, t < 3375 → ag_om (ag_co (ag_dx t)) 3 < 2 ^ 31 := fun t ht => ag_om_lt (fun k _ => by have := ag_co15 (k := k) ht; omega)
    refine loop_0 (fun n i s => wX_swarm_39 _ (nI (ag_om (ag_co (ag_dx (ag_ex (ag_tr T G)))) 3)) g' nc' (ag_bi w) (ag_nf o) pl gl cg' co' ns' nt' n s (nI i))
      (fun i s => ∃ b, b < 3375 ∧ s = nI b ∧ ag_om (ag_co (ag_dx b)) 3 = ag_om (ag_co (ag_dx (ag_ex (ag_tr T G)))) 3 ∧ ∀ t, t < i → ag_om (ag_co (ag_dx t)) 3 = ag_om (ag_co (ag_dx (ag_ex (ag_tr T G)))) 3 → D b ≤ D t) 3375 (nI (ag_ex (ag_tr T G))) ⟨_, he, rfl, rfl, fun t ht => absurd ht (by omega)⟩ ?_ ?_
    · rintro n s ⟨b, hb, rfl, b1, b2⟩
      refine br_t (nI_le (b := 3375) (Nat.le_refl _) (by decide)) (ag_ansX r hb ?_)
      unfold wpY_swarm
      dsimp only
      refine ag_rdY hW (fun _ _ _ => ?_) (fun hN => absurd hR (hN T rfl))
      refine br_f (by decide) (ag_chooseY ho hT1 hT7 (fun wk' st' hw hs => ?_))
      dsimp only
      refine ag_spreadY (f := false) hT1 hT7 hs hV (fun cs post' q => ag_startT hT1 hT7 hw p3 q) (fun cs' D' r' h' => ?_)
      dsimp only
      rw [(ag_exV hE).2] at b1 b2
      have hn := (ag_sz3 T hT1 hT7).2
      have hv : ∀ k, k < ag_sz T → ag_vv T (ag_tr T G) k < 12 ∧ ∃ j, j < 3 ∧ wk' k = nI j ∧ gy j = nI (ag_vv T (ag_tr T G) k) := fun k hk => by
        obtain ⟨j, hj, e1, hb, e2⟩ := ag_wT T hT1 hT7 hw k hk
        refine ⟨ag_vv12 hT1 hT7 hE hk, j, hj, e1, ?_⟩
        rw [e2, ag_co_tr hj hb]
        exact p4 j hj hb
      have tg : ∀ q, ag_V w T q → (ag_om (ag_dg (ag_ey T q)) (ag_sz T) = ag_om (ag_vv T (ag_tr T G)) (ag_sz T) ↔ ag_om (ag_co q) 3 = ag_om (ag_co (ag_tr T G)) 3) := fun q hq => by
        rw [ag_om_ex (f' := ag_vv T q) (fun k hk => ag_dg_ey hT1 hT7 hq (by omega))]
        exact ag_same hT1 hT7 hq hE
      refine loop_0 (fun n i s => wY_swarm_25 _ (nI (ag_sz T)) (ag_bi w) (ag_nf o) is py gy wk' st' cs' gd n s (nI i))
        (fun i s => ∃ d, d ≤ 10126 ∧ s = ag_ans d ∧ (d = 10126 ∨ ∃ q, ag_V w T q ∧ D' (ag_ey T q) = d ∧ ag_om (ag_co q) 3 = ag_om (ag_co (ag_tr T G)) 3) ∧ ∀ q, ag_V w T q → ag_ey T q < i → ag_om (ag_co q) 3 = ag_om (ag_co (ag_tr T G)) 3 → d ≤ D' (ag_ey T q)) 1728 (ag_ans 10126) ⟨10126, Nat.le_refl _, rfl, Or.inl rfl, fun q _ hq => absurd hq (by omega)⟩ ?_ ?_
      · rintro n s ⟨d, hd, rfl, d1, d2⟩
        refine br_t (nI_le (b := 1728) (Nat.le_refl _) (by decide)) ⟨?_, ag_rel ho hW⟩
        have : d = D b := by
          refine Nat.le_antisymm ?_ ?_
          · by_cases y : D b = 10126
            · omega
            · obtain ⟨q, e, vq⟩ := ag_VX hg hV h hb y
              rw [e, (ag_exV vq).2] at b1
              have := d2 q vq (ag_eyV T hT1 hT7 q vq) b1
              rw [ag_DD hT1 hT7 hV h h' vq, ← e] at this
              exact this
          · rcases d1 with d1 | ⟨q, vq, e1, e2⟩
            · rw [d1]; exact (r b hb).2
            · have := b2 (ag_ex q) (ag_exV vq).1 (by rw [(ag_exV vq).2]; exact e2)
              rw [← ag_DD hT1 hT7 hV h h' vq, e1] at this
              exact this
        rw [this]
      · rintro n i s hi ⟨d, hd, rfl, d1, d2⟩ ih
        refine br_f (nI_ge (b := 1728) hi (by decide)) ⟨vp_in_nI hi (by omega), ?_⟩
        rw [nI_clamp (n := i) (by omega), (r' i hi).1]
        have hDi := (r' i hi).2
        refine br_c (fun q => ?_) (fun q => ?_)
        · rw [ag_iU0 hDi] at q
          refine nm_r (nI_1 i) (ih _ ⟨d, hd, rfl, d1, fun q' vq hq e => ?_⟩)
          by_cases y : ag_ey T q' = i
          · rw [y, q]; exact hd
          · exact d2 q' vq (by omega) e
        · rw [ag_iU0 hDi] at q
          obtain ⟨qi, ei, vi⟩ := ag_VY hT1 hT7 hV h' hi q
          refine ag_takesY hn hi hv (fun e => ?_) (fun e => ?_)
          · rw [ei, tg qi vi] at e
            have put : D' i ≤ d → wY_swarm_63 (fun r' v' => r' = ag_ans (D b) ∧ i_Rel (k + 4) (g', nc', ag_bi w, ag_nf o, pl, gl, cg', co', ns', nt') v') (wY_swarm_25 (fun r' v' => r' = ag_ans (D b) ∧ i_Rel (k + 4) (g', nc', ag_bi w, ag_nf o, pl, gl, cg', co', ns', nt') v') (nI (ag_sz T)) (ag_bi w) (ag_nf o) is py gy wk' st' cs' gd n) (nI i) (nI (ag_sz T)) (ag_bi w) (ag_nf o) is py gy wk' st' cs' gd := by
              intro hle
              unfold wY_swarm_63
              refine ⟨vp_in_nI hi (by omega), nm_r (e' := ag_ans (D' i)) ?_ (nm_r (nI_1 i) (ih _ ⟨D' i, hDi, rfl, Or.inr ⟨qi, vi, by rw [ei], e⟩, fun q' vq hq e' => ?_⟩))⟩
              · rw [nI_clamp (by omega), (r' i hi).1, ag_iUn q]
                unfold ag_ans
                rw [if_neg q]
              · by_cases y : ag_ey T q' = i
                · rw [y]; exact Nat.le_refl _
                · exact Nat.le_trans hle (d2 q' vq (by omega) e')
            refine br_f (by decide) (br_c (fun q2 => ?_) (fun q2 => ?_))
            · rw [ag_ans0 hd] at q2
              exact put (by omega)
            · rw [ag_ans0 hd] at q2
              refine ⟨vp_in_nI hi (by omega), ?_⟩
              rw [ag_iUn q]
              refine pk_le d (D' i) (fun q3 => ?_) (fun q3 => ?_) (if_neg q2)
              · refine nm_r (nI_1 i) (ih _ ⟨d, hd, rfl, d1, fun q' vq hq e' => ?_⟩)
                by_cases y : ag_ey T q' = i
                · rw [y]; exact q3
                · exact d2 q' vq (by omega) e'
              · exact put (by omega)
          · rw [ei, Ne, tg qi vi] at e
            refine br_t rfl (nm_r (nI_1 i) (ih _ ⟨d, hd, rfl, d1, fun q' vq hq e' => ?_⟩))
            by_cases y : ag_ey T q' = i
            · have := ag_ey_inj hT1 hT7 vq vi (by omega)
              rw [this] at e'
              exact absurd e' e
            · exact d2 q' vq (by omega) e'
    · rintro n i s hi ⟨b, hb, rfl, b1, b2⟩ ih
      refine br_f (nI_ge (b := 3375) hi (by decide)) ⟨vp_in_nI hi (by omega), vp_in_nI hb (by omega), ?_⟩
      rw [nI_clamp (n := i) (by omega), nI_clamp (n := b) (by omega), (r i hi).1, (r b hb).1]
      have m1 := (r i hi).2
      have m2 := (r b hb).2
      refine pk_le (D b) (D i) (fun q => ?_) (fun q => ?_)
      · refine nm_r (nI_1 i) (ih _ ⟨b, hb, rfl, b1, fun t ht e => ?_⟩)
        by_cases y : t = i
        · rw [y]; exact q
        · exact b2 t (by omega) e
      · refine ag_takenX hi ?_
        refine pk_eq _ _ (fun e => ?_) (fun e => ?_) rfl rfl (tkl i hi) (tkl _ he)
        · refine nm_r (nI_1 i) (ih _ ⟨i, hi, rfl, e, fun t ht e' => ?_⟩)
          by_cases y : t = i
          · rw [y]; exact Nat.le_refl _
          · have := b2 t (by omega) e'
            omega
        · refine nm_r (nI_1 i) (ih _ ⟨b, hb, rfl, b1, fun t ht e' => ?_⟩)
          by_cases y : t = i
          · rw [y] at e'; exact absurd e' e
          · exact b2 t (by omega) e'
  · refine br_t rfl ?_
    unfold wpY_swarm
    dsimp only
    exact ag_rdY hW (fun T e hR => absurd hR (hN T e)) (fun _ => br_t rfl ⟨rfl, ag_rel ho hW⟩)
