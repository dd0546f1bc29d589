/-! needed -/
variable {g nc : Int32} {wl wo pl gl cg co ns nt : Nat → Int32} {sz : Int32} {iw is py gy wk st cs gd : Nat → Int32}
def ag_Us (P G : Nat → Nat) (T c : Nat) : Prop := ∃ i, i < 3 ∧ T.testBit i = true ∧ (P i = c ∨ G i = c)
theorem ag_usX {post : Int32 → Prop} {P G : Nat → Nat} {T c : Nat} (hT : T ≤ 7) (hc : c < 12) (b1 : ∀ i, i < 3 → P i < 12) (b2 : ∀ i, i < 3 → G i < 12) (hp : ∀ i, i < 3 → T.testBit i = true → pl i = nI (P i)) (hg : ∀ i, i < 3 → T.testBit i = true → gl i = nI (G i)) (p1 : ag_Us P G T c → post 1) (p0 : ¬ ag_Us P G T c → post 0) : wpX_isPlaceOrGoal post (g, nc, wl, wo, pl, gl, cg, co, ns, nt) (nI T) (nI c) := by
  unfold wpX_isPlaceOrGoal
  dsimp only
  refine loop_0 (fun n i (_ : Unit) => wX_isPlaceOrGoal_2 post (nI T) (nI c) g nc wl wo pl gl cg co ns nt n (nI i)) (fun i _ => ∀ j, j < i → T.testBit j = true → ¬ (P j = c ∨ G j = c)) 3 () (fun j h => absurd h (by omega)) ?_ ?_
  · intro n _ h
    exact br_t (nI_le (b := 3) (Nat.le_refl _) (by decide)) (p0 (fun ⟨i, hi, hb, e⟩ => h i hi hb e))
  · intro n i _ hi h ih
    have d1 := b1 i hi
    have d2 := b2 i hi
    refine br_f (nI_ge (b := 3) hi (by decide)) (ag_inX (by omega) hi (fun hb => ?_) (fun hb => ?_))
    · refine br_f (by decide) ⟨vp_in_nI hi (by omega), ?_⟩
      rw [nI_clamp (n := i) (by omega), hp i hi hb, hg i hi hb]
      refine pk_eq (P i) c (fun e => p1 ⟨i, hi, hb, Or.inl e⟩) (fun ne => ⟨vp_in_nI hi (by omega), ?_⟩)
      refine pk_eq (G i) c (fun e => p1 ⟨i, hi, hb, Or.inr e⟩) (fun ne2 => nm_r (nI_1 i) (ih () (fun j hj hbj => ?_)))
      by_cases y : j = i
      · subst y
        rintro (e | e)
        · exact ne e
        · exact ne2 e
      · exact h j (by omega) hbj
    · refine br_t rfl (nm_r (nI_1 i) (ih () (fun j hj hbj => h j ?_ hbj)))
      have : j ≠ i := fun y => by rw [y, hb] at hbj; exact absurd hbj (by decide)
      omega
theorem ag_usY {post : Int32 → Prop} {P G : Nat → Nat} {T c : Nat} (hT : T ≤ 7) (hc : c < 12) (b1 : ∀ i, i < 3 → P i < 12) (b2 : ∀ i, i < 3 → G i < 12) (hp : ∀ i, i < 3 → T.testBit i = true → py i = nI (P i)) (hg : ∀ i, i < 3 → T.testBit i = true → gy i = nI (G i)) (p1 : ag_Us P G T c → post 1) (p0 : ¬ ag_Us P G T c → post 0) : wpY_isUsed post (sz, iw, wo, is, py, gy, wk, st, cs, gd) (nI T) (nI c) := by
  unfold wpY_isUsed
  dsimp only
  refine loop_0 (fun n i s => wY_isUsed_5 post (nI T) (nI c) sz iw wo is py gy wk st cs gd n s (nI i)) (fun i s => (s = 1 ∧ ag_Us P G T c) ∨ (s = 0 ∧ ∀ j, j < i → T.testBit j = true → ¬ (P j = c ∨ G j = c))) 3 0 (Or.inr ⟨rfl, fun j h => absurd h (by omega)⟩) ?_ ?_
  · rintro n s (⟨rfl, h⟩ | ⟨rfl, h⟩)
    · exact br_t (nI_le (b := 3) (Nat.le_refl _) (by decide)) ⟨rfl, p1 h⟩
    · exact br_t (nI_le (b := 3) (Nat.le_refl _) (by decide)) ⟨rfl, p0 (fun ⟨i, hi, hb, e⟩ => h i hi hb e)⟩
  · rintro n i s hi (⟨rfl, h⟩ | ⟨rfl, h⟩) ih
    · exact br_f (nI_ge (b := 3) hi (by decide)) (br_f (by decide) (nm_r (nI_1 i) (ih 1 (Or.inl ⟨rfl, h⟩))))
    · have d1 := b1 i hi
      have d2 := b2 i hi
      refine br_f (nI_ge (b := 3) hi (by decide)) (br_t rfl (ag_inY (by omega) hi (fun hb => ?_) (fun hb => ?_)))
      · refine br_f (by decide) ⟨vp_in_nI hi (by omega), ?_⟩
        rw [nI_clamp (n := i) (by omega), hp i hi hb, hg i hi hb]
        refine pk_eq (P i) c (fun e => nm_r (nI_1 i) (ih 1 (Or.inl ⟨rfl, i, hi, hb, Or.inl e⟩))) (fun ne => ⟨vp_in_nI hi (by omega), ?_⟩)
        refine pk_eq (G i) c (fun e => nm_r (nI_1 i) (ih 1 (Or.inl ⟨rfl, i, hi, hb, Or.inr e⟩))) (fun ne2 => nm_r (nI_1 i) (ih 0 (Or.inr ⟨rfl, fun j hj hbj => ?_⟩)))
        by_cases y : j = i
        · subst y
          rintro (e | e)
          · exact ne e
          · exact ne2 e
        · exact h j (by omega) hbj
      · refine br_t rfl (nm_r (nI_1 i) (ih 0 (Or.inr ⟨rfl, fun j hj hbj => h j ?_ hbj⟩)))
        have : j ≠ i := fun y => by rw [y, hb] at hbj; exact absurd hbj (by decide)
        omega
theorem ag_bu_or (w : Nat → Bool) (c : Nat) : (fun x => w x || decide (x = c)) = ag_bu w c true := by
  funext x
  unfold ag_bu
  by_cases e : x = c
  · rw [if_pos e, decide_eq_true e, Bool.or_true]
  · rw [if_neg e, decide_eq_false e, Bool.or_false]
theorem ag_bu_bu {w : Nat → Bool} {c : Nat} (h : w c = false) : ag_bu (ag_bu w c true) c false = w := by
  funext x
  unfold ag_bu
  by_cases e : x = c
  · rw [if_pos e, e, h]
  · rw [if_neg e, if_neg e]
theorem ag_Rd_bu {w z : Nat → Bool} {P G : Nat → Nat} {T c : Nat} (h : ag_Rd w z P G T) (hu : ¬ ag_Us P G T c) : ag_Rd (ag_bu w c true) z P G T := by
  refine ⟨h.1, fun i hi hb => ?_, h.2.2⟩
  obtain ⟨h1, h2, h3⟩ := h.2.1 i hi hb
  refine ⟨h1, ?_, ?_⟩
  · unfold ag_bu
    rw [if_neg (fun e => hu ⟨i, hi, hb, Or.inl e⟩)]
    exact h2
  · unfold ag_bu
    rw [if_neg (fun e => hu ⟨i, hi, hb, Or.inr e⟩)]
    exact h3
theorem ag_bu_mono {w : Nat → Bool} {c : Nat} : ∀ x, ag_bu w c true x = false → w x = false := by
  intro x h
  unfold ag_bu at h
  by_cases e : x = c
  · rw [if_pos e] at h; exact absurd h (by decide)
  · rw [if_neg e] at h; exact h
/-- the cell counts -/
def ag_Nd (w : Nat → Bool) (o P G : Nat → Nat) (T d : Nat) (c : Nat) : Prop := w c = false ∧ ¬ ag_Us P G T c ∧ ¬ ag_Ls (ag_E (ag_go (ag_bu w c true) o) false) (ag_tr T P) (ag_tr T G) d
noncomputable def ag_nd (w : Nat → Bool) (o P G : Nat → Nat) (T d : Nat) (c : Nat) : Bool := @decide (ag_Nd w o P G T d c) (Classical.propDecidable _)
theorem ag_nd_iff {w : Nat → Bool} {o P G : Nat → Nat} {T d c : Nat} : ag_nd w o P G T d c = true ↔ ag_Nd w o P G T d c := by
  unfold ag_nd
  exact @decide_eq_true_iff _ (Classical.propDecidable _)
theorem ag_nd_d {w : Nat → Bool} {o P G : Nat → Nat} {T d d' c : Nat} (h : ag_Ls (ag_E (ag_go w o) false) (ag_tr T P) (ag_tr T G) d) (hd : d < 10126) (h' : ag_Ds (ag_E (ag_go (ag_bu w c true) o) false) (ag_tr T P) (ag_tr T G) d') : d ≤ d' ∧ (d' = d ↔ ag_Ls (ag_E (ag_go (ag_bu w c true) o) false) (ag_tr T P) (ag_tr T G) d) := by
  rcases h' with ⟨k1, k2⟩ | ⟨k1, k2⟩
  · refine ⟨h.2 _ (ag_RcM (fun _ _ _ e => ag_E_mono ag_bu_mono e) k2.1), fun e => by rw [← e]; exact k2, fun e => ag_LsU k2 e⟩
  · exact ⟨by omega, fun e => absurd e (by omega), fun e => absurd e.1 (k2 _)⟩
theorem i_vc_needed {k : Nat} {u : SX} {v : SY} (I : i_Rel k u v) (hk : k + 4 ≤ 2048) (v1 : Int32) : wpX_needed (fun r u' => wpY_needed (fun r' v' => r' = r ∧ i_Rel (k + 4) u' v') v v1) u v1 := by
  obtain ⟨w, o, z, P, G, g, nc, pl, gl, cg, co, ns, nt, sz, is, py, gy, wk, st, cs, gd, rfl, rfl, ho, hW⟩ := I
  unfold wpX_needed
  dsimp only
  refine ag_rdX hW (fun T eT hR => ?_) (fun hN => ?_)
  · subst eT
    obtain ⟨hT1, hT7⟩ := hR.1
    obtain ⟨p1, p2, p3, p4, hV, hE⟩ := ag_rdp hW hR
    have b1 : ∀ i, i < 3 → P i < 12 := fun i hi => (hW i hi).2.1
    have b2 : ∀ i, i < 3 → G i < 12 := fun i hi => (hW i hi).2.2.1
    have he := (ag_exV hE).1
    refine br_f (by decide) (ag_of_goals hT7 p2 (ag_sfpX0 (f := false) ho hT7 p1 hV (fun g' nc' cg' co' ns' nt' D r h => ?_)))
    dsimp only
    refine ⟨vp_in_nI he (by omega), nm_r (e' := nI (D (ag_ex (ag_tr T G)))) (by rw [nI_clamp (by omega), (r _ he).1]) ?_⟩
    have hDs := ag_DX (ag_Gd_go w o) hV h hE
    have hDle := (r _ he).2
    generalize hd : D (ag_ex (ag_tr T G)) = d at hDs hDle ⊢
    refine pk_eq d 10126 (fun e => ?_) (fun ne => ?_)
    · unfold wpY_needed
      dsimp only
      refine ag_rdY hW (fun _ _ _ => ?_) (fun hN => absurd hR (hN T rfl))
      refine br_f (by decide) (ag_ltY ho hT1 hT7 p3 p4 hV hE (fun wk' st' cs' D' hw hs r' h' => ?_))
      dsimp only
      rw [ag_DD hT1 hT7 hV h h' hE, hd, e]
      exact br_f (by decide) ⟨rfl, ag_rel ho hW⟩
    · have hL : ag_Ls (ag_E (ag_go w o) false) (ag_tr T P) (ag_tr T G) d := by
        rcases hDs with ⟨_, q⟩ | ⟨q, _⟩
        · exact q
        · exact absurd q ne
      have hd2 : d < 10126 := by omega
      refine loop_0 (fun n i (s : Int32 × Int32 × Int32 × (Nat → Int32) × (Nat → Int32) × (Nat → Int32) × (Nat → Int32)) => wX_needed_50 _ (nI T) (nI (ag_ex (ag_tr T G))) (nI d) n s.1 (nI i) s.2.1 s.2.2.1 (ag_bi w) (ag_nf o) pl gl s.2.2.2.1 s.2.2.2.2.1 s.2.2.2.2.2.1 s.2.2.2.2.2.2) (fun i s => s.1 = nI (ag_cn (ag_nd w o P G T d) i)) 12 (nI 0, g', nc', cg', co', ns', nt') rfl ?_ ?_
      · rintro n ⟨s1, s2, s3, s4, s5, s6, s7⟩ e
        dsimp only at e ⊢
        subst e
        refine br_t (nI_le (b := 12) (Nat.le_refl _) (by decide)) ?_
        unfold wpY_needed
        dsimp only
        refine ag_rdY hW (fun _ _ _ => ?_) (fun hN => absurd hR (hN T rfl))
        refine br_f (by decide) (ag_ltY ho hT1 hT7 p3 p4 hV hE (fun wk' st' cs' D' hw hs r' h' => ?_))
        dsimp only
        rw [ag_DD hT1 hT7 hV h h' hE, hd, show ag_ans d = nI d from if_neg ne]
        refine br_t (nI_pos' (by omega)) ?_
        refine loop_0 (fun n i (s : Int32 × Int32 × (Nat → Int32) × (Nat → Int32) × (Nat → Int32)) => wY_needed_28 _ (nI T) (nI d) n s.1 (nI i) s.2.1 (ag_bi w) (ag_nf o) is py gy s.2.2.1 s.2.2.2.1 s.2.2.2.2 gd) (fun i s => s.1 = nI (ag_cn (ag_nd w o P G T d) i)) 12 (nI 0, nI (ag_sz T), wk', st', cs') rfl ?_ ?_
        · rintro n ⟨t1, t2, t3, t4, t5⟩ e
          dsimp only at e ⊢
          subst e
          exact br_t (nI_le (b := 12) (Nat.le_refl _) (by decide)) ⟨rfl, ag_rel ho hW⟩
        · rintro n i ⟨t1, t2, t3, t4, t5⟩ hi e ih
          dsimp only at e ⊢
          subst e
          refine br_f (nI_ge (b := 12) hi (by decide)) ⟨vp_in_nI hi (by omega), ?_⟩
          rw [nI_clamp (n := i) (by omega)]
          refine br_c (fun q1 => ?_) (fun q1 => ?_)
          · rw [ag_bi0] at q1
            refine ag_usY hT7 hi b1 b2 p3 p4 (fun q2 => ?_) (fun q2 => ?_)
            · refine br_f (by decide) (nm_r (nI_1 i) (ih (nI (ag_cn (ag_nd w o P G T d) i), t2, t3, t4, t5) ?_))
              rw [ag_cn_f (fun q => (ag_nd_iff.mp q).2.1 q2)]
            · refine br_t rfl ⟨vp_in_nI hi (by omega), nm_r (e' := ag_bi (ag_bu w i true)) (by rw [ag_nb1]; exact ag_bi_u (b := true)) ?_⟩
              have hR' := ag_Rd_bu hR q2
              obtain ⟨_, _, _, _, hV', hE'⟩ := ag_rdp hW hR'
              refine ag_ltY ho hT1 hT7 p3 p4 hV' hE' (fun wk'' st'' cs'' D'' _ _ r'' h'' => ?_)
              dsimp only
              have hDs' := ag_DY hT1 hT7 hV' h'' hE'
              have hle := (r'' _ (ag_eyV T hT1 hT7 _ hE')).2
              obtain ⟨k1, k2⟩ := ag_nd_d hL hd2 hDs'
              generalize D'' (ag_ey T (ag_tr T G)) = d' at hDs' hle k1 k2 ⊢
              have fin : ∀ c : Nat, c = ag_cn (ag_nd w o P G T d) (i + 1) → wY_needed_83 (fun r' v' => r' = nI (ag_cn (ag_nd w o P G T d) 12) ∧ i_Rel (k + 4) (s2, s3, ag_bi w, ag_nf o, pl, gl, s4, s5, s6, s7) v') (wY_needed_28 (fun r' v' => r' = nI (ag_cn (ag_nd w o P G T d) 12) ∧ i_Rel (k + 4) (s2, s3, ag_bi w, ag_nf o, pl, gl, s4, s5, s6, s7) v') (nI T) (nI d) n) (nI T) (nI d) (nI i) (nI c) (nI (ag_sz T)) (ag_bi (ag_bu w i true)) (ag_nf o) is py gy wk'' st'' cs'' gd := by
                intro c ec
                unfold wY_needed_83
                refine ⟨vp_in_nI hi (by omega), nm_r (e' := ag_bi w) ?_ (nm_r (nI_1 i) (ih (nI c, nI (ag_sz T), wk'', st'', cs'') (by rw [ec])))⟩
                rw [nI_clamp (by omega), ag_nb0]
                have := ag_bi_u (w := ag_bu w i true) (c := i) (b := false)
                rw [ag_bu_bu q1] at this
                exact this
              by_cases y : d' = d
              · refine br_t (by rw [y]; exact if_neg ne) (fin _ ?_)
                rw [ag_cn_f (fun q => (ag_nd_iff.mp q).2.2 (k2.mp y))]
              · refine br_f (fun q => y ?_) ?_
                · unfold ag_ans at q
                  by_cases e : d' = 10126
                  · rw [if_pos e] at q
                    exact absurd (show nI d < 0 by rw [← q]; decide) (nI_pos (by omega))
                  · rw [if_neg e, nI_eq (by omega) (by omega)] at q
                    exact q
                · rw [nI_1]
                  refine fin _ ?_
                  rw [ag_cn_t (ag_nd_iff.mpr ⟨q1, q2, fun q => y (k2.mpr q)⟩)]
          · rw [ag_bi0] at q1
            refine nm_r (nI_1 i) (ih (nI (ag_cn (ag_nd w o P G T d) i), t2, t3, t4, t5) ?_)
            rw [ag_cn_f (fun q => q1 (ag_nd_iff.mp q).1)]
      · rintro n i ⟨s1, s2, s3, s4, s5, s6, s7⟩ hi e ih
        dsimp only at e ⊢
        subst e
        refine br_f (nI_ge (b := 12) hi (by decide)) ⟨vp_in_nI hi (by omega), ?_⟩
        rw [nI_clamp (n := i) (by omega)]
        refine br_c (fun q1 => ?_) (fun q1 => ?_)
        · rw [ag_bi0] at q1
          refine ag_usX hT7 hi b1 b2 p1 p2 (fun q2 => ?_) (fun q2 => ?_)
          · refine br_f (by decide) (nm_r (nI_1 i) (ih (nI (ag_cn (ag_nd w o P G T d) i), s2, s3, s4, s5, s6, s7) ?_))
            rw [ag_cn_f (fun q => (ag_nd_iff.mp q).2.1 q2)]
          · have hR' := ag_Rd_bu hR q2
            obtain ⟨_, _, _, _, hV', hE'⟩ := ag_rdp hW hR'
            refine br_t rfl (ag_sfpX (f := false) (S := fun x => decide (x = i)) ho (fun c hc => ?_) hT7 p1 (by rw [ag_bu_or]; exact hV') (fun g'' nc'' cg'' co'' ns'' nt'' D'' r'' h'' => ?_))
            · rw [nI_eq (by omega) (by omega), decide_eq_true_eq]
            · rw [ag_bu_or] at h''
              dsimp only
              have hDs' := ag_DX (ag_Gd_go _ o) hV' h'' hE'
              obtain ⟨k1, k2⟩ := ag_nd_d hL hd2 hDs'
              have hle := (r'' _ he).2
              refine ⟨vp_in_nI he (by omega), ?_⟩
              rw [nI_clamp (n := ag_ex (ag_tr T G)) (by omega), (r'' _ he).1]
              generalize D'' (ag_ex (ag_tr T G)) = d' at hDs' hle k1 k2 ⊢
              refine pk_le d' d (fun y => ?_) (fun y => ?_)
              · refine nm_r (nI_1 i) (ih (nI (ag_cn (ag_nd w o P G T d) i), g'', nc'', cg'', co'', ns'', nt'') ?_)
                rw [ag_cn_f (fun q => (ag_nd_iff.mp q).2.2 (k2.mp (by omega)))]
              · refine nm_r (nI_1 _) (nm_r (nI_1 i) (ih (nI (ag_cn (ag_nd w o P G T d) i + 1), g'', nc'', cg'', co'', ns'', nt'') ?_))
                rw [ag_cn_t (ag_nd_iff.mpr ⟨q1, q2, fun q => by have := k2.mpr q; omega⟩)]
        · rw [ag_bi0] at q1
          refine nm_r (nI_1 i) (ih (nI (ag_cn (ag_nd w o P G T d) i), s2, s3, s4, s5, s6, s7) ?_)
          rw [ag_cn_f (fun q => q1 (ag_nd_iff.mp q).1)]
  · refine br_t rfl ?_
    unfold wpY_needed
    dsimp only
    exact ag_rdY hW (fun T e hR => absurd hR (hN T e)) (fun _ => br_t rfl ⟨rfl, ag_rel ho hW⟩)
