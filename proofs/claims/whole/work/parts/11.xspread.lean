/-! the class's search -/
variable {g nc : Int32} {wl wo pl gl cg co ns nt : Nat → Int32}
theorem ag_LsG {α : Type} {φ : α → Nat} {V : α → Prop} {E : α → α → Nat → Prop} {G : Nat → Nat → Nat → Prop} {a : α} {b : Nat} (H : ∀ t c, ag_Rc G b t c ↔ ∃ q, t = φ q ∧ V q ∧ ag_Rc E a q c) {t c : Nat} (h : ag_Ls G b t c) : ∃ q, t = φ q ∧ V q ∧ ag_Ls E a q c := by
  obtain ⟨q, e, v, r⟩ := (H t c).mp h.1
  exact ⟨q, e, v, r, fun c' h' => h.2 c' ((H t c').mpr ⟨q, e, v, h'⟩)⟩
def ag_Ds {α : Type} (E : α → α → Nat → Prop) (a q : α) (d : Nat) : Prop := (d < 10126 ∧ ag_Ls E a q d) ∨ (d = 10126 ∧ ∀ c, ¬ ag_Rc E a q c)
theorem ag_DsU {α : Type} {E : α → α → Nat → Prop} {a q : α} {d d' : Nat} (h : ag_Ds E a q d) (h' : ag_Ds E a q d') : d = d' := by
  rcases h with ⟨h1, h2⟩ | ⟨h1, h2⟩
  · rcases h' with ⟨k1, k2⟩ | ⟨k1, k2⟩
    · exact ag_LsU h2 k2
    · exact absurd h2.1 (k2 _)
  · rcases h' with ⟨k1, k2⟩ | ⟨k1, k2⟩
    · exact absurd k2.1 (h2 _)
    · omega
theorem ag_SlG {α : Type} {φ : α → Nat} {V : α → Prop} {E : α → α → Nat → Prop} {G : Nat → Nat → Nat → Prop} {a : α} {b N : Nat} (H : ∀ t c, ag_Rc G b t c ↔ ∃ q, t = φ q ∧ V q ∧ ag_Rc E a q c) (inj : ∀ q q', V q → V q' → φ q = φ q' → q = q') {D : Nat → Nat} (h : ag_Sl N 10126 G b D) {q : α} (hq : V q) (hN : φ q < N) : ag_Ds E a q (D (φ q)) := by
  have k : ∀ c, ag_Rc G b (φ q) c ↔ ag_Rc E a q c := fun c => by
    constructor
    · intro h
      obtain ⟨q', e, v, r⟩ := (H _ c).mp h
      rw [inj q q' hq v e]
      exact r
    · intro h
      exact (H _ c).mpr ⟨q, rfl, hq, h⟩
  rcases h (φ q) hN with ⟨h1, h2⟩ | ⟨h1, h2⟩
  · exact Or.inl ⟨h1, (k _).mp h2.1, fun c' h' => h2.2 c' ((k c').mpr h')⟩
  · exact Or.inr ⟨h1, fun c z => h2 c ((k c).mpr z)⟩
theorem ag_SlV {α : Type} {φ : α → Nat} {V : α → Prop} {E : α → α → Nat → Prop} {G : Nat → Nat → Nat → Prop} {a : α} {b N : Nat} (H : ∀ t c, ag_Rc G b t c ↔ ∃ q, t = φ q ∧ V q ∧ ag_Rc E a q c) {D : Nat → Nat} (h : ag_Sl N 10126 G b D) {t : Nat} (ht : t < N) (hD : D t ≠ 10126) : ∃ q, t = φ q ∧ V q := by
  rcases h t ht with ⟨h1, h2⟩ | ⟨h1, h2⟩
  · obtain ⟨q, e, v, _⟩ := (H t _).mp h2.1
    exact ⟨q, e, v⟩
  · exact absurd h1 hD
/-- the costs as numbers -/
def ag_Rx (co : Nat → Int32) (D : Nat → Nat) : Prop := ∀ t, t < 3375 → co t = nI (D t) ∧ D t ≤ 10126
theorem ag_Rx_u {D : Nat → Nat} {t c : Nat} (h : ag_Rx co D) (hc : c ≤ 10126) : ag_Rx (upd co t (nI c)) (ag_nu D t c) := by
  intro x hx
  unfold ag_nu
  by_cases e : x = t
  · subst e
    rw [pk_us, if_pos rfl]
    exact ⟨rfl, hc⟩
  · rw [pk_un e, if_neg e]
    exact h x hx
theorem ag_wt3 (f : Bool) (q q' : Nat × Nat × Nat) : ag_wt f q q' ≤ 3 := by
  unfold ag_wt
  have h1 := ag_st_le q.1 q'.1
  have h2 := ag_st_le q.2.1 q'.2.1
  have h3 := ag_st_le q.2.2 q'.2.2
  split <;> omega
theorem ag_overX {post : SX → Prop} {w : Nat → Bool} {go : Nat → Nat → Bool} (hg : ag_Gd w go) (hc : ag_Cg go cg) {f : Bool} {s gg : Nat} {D : Nat → Nat} (hs : s < 3375) (hr : ag_Rx co D) (hgg : gg ≤ 10125) (hb : ∀ t, t < 3375 → D t < 10126 → D t ≤ gg)
    (p : ∀ gg' nc' co' ns' nt' D', ag_Rx co' D' → gg' ≤ 10125 → (∀ t, t < 3375 → D' t < 10126 → D' t ≤ gg') → ag_Rl 3375 (ag_GX go f) s D D' → post (nI gg', nc', wl, wo, pl, gl, cg, co', ns', nt')) : wpX_spreadOver post (nI gg, nc, wl, wo, pl, gl, cg, co, ns, nt) (nI s) (ag_b1 f) := by
  unfold wpX_spreadOver
  dsimp only
  refine ag_turnsX hg hc hs (fun k ns nt hL => ?_)
  dsimp only
  unfold ag_Lt at hL
  have hk : k ≤ 125 := by rw [hL.1]; exact ag_c125 hg _
  generalize hE : (fun t => ag_gb go (ag_dx s) (ag_dx t)) = E at hL
  have hE' : ∀ t, E t = ag_gb go (ag_dx s) (ag_dx t) := fun t => by rw [← hE]
  refine loop_0 (fun n i (x : Int32 × (Nat → Int32)) => wX_spreadOver_7 post (nI s) (ag_b1 f) (nI k) n (nI i) x.1 wl wo pl gl cg x.2 ns nt)
    (fun i x => ∃ D1 g1, x.1 = nI g1 ∧ ag_Rx x.2 D1 ∧ g1 ≤ 10125 ∧ (∀ t, t < 3375 → D1 t < 10126 → D1 t ≤ g1) ∧ D1 s = D s ∧ (∀ t, t < 3375 → D1 t ≤ D t) ∧ (∀ t, t < 3375 → E t = true → ag_cn E t < i → D1 t ≤ D s + ag_wt f (ag_dx s) (ag_dx t)) ∧ (∀ t, t < 3375 → D1 t = D t ∨ (E t = true ∧ D1 t = D s + ag_wt f (ag_dx s) (ag_dx t) ∧ D s + ag_wt f (ag_dx s) (ag_dx t) < D t))) k (nI gg, co)
    ⟨D, gg, rfl, hr, hgg, hb, rfl, fun t _ => Nat.le_refl _, fun t _ _ h => absurd h (by omega), fun t _ => Or.inl rfl⟩ ?_ ?_
  · rintro n ⟨x1, x2⟩ ⟨D1, g1, e, i1, i2, i3, i4, i5, i6, i7⟩
    dsimp only at e i1 ⊢
    subst e
    refine br_t (nI_le (Nat.le_refl k) (by omega)) (p g1 _ x2 ns nt D1 i1 i2 i3 ⟨i5, fun t q ht he => ?_, fun t ht => ?_⟩)
    · obtain ⟨_, he⟩ := he
      obtain ⟨h1, h2⟩ := ag_gb_E.mp he
      rw [← hE'] at h1
      rw [h2]
      refine i6 t ht h1 ?_
      rw [hL.1]
      exact ag_cn_lt E ht h1
    · rcases i7 t ht with h1 | ⟨h1, h2, h3⟩
      · exact Or.inl h1
      · rw [hE'] at h1
        exact Or.inr ⟨_, ⟨ht, ag_gb_E.mpr ⟨h1, rfl⟩⟩, h2, h3⟩
  · rintro n i ⟨x1, x2⟩ hi ⟨D1, g1, e, i1, i2, i3, i4, i5, i6, i7⟩ ih
    dsimp only at e i1 ⊢
    subst e
    obtain ⟨t, ht, hEt, hct⟩ := ag_cn_sur E 3375 i (by rw [← hL.1]; exact hi)
    obtain ⟨l1, l2⟩ := hL.2 t ht hEt
    rw [hct] at l1 l2
    have hw := ag_wt3 f (ag_dx s) (ag_dx t)
    have hDs := (i1 s hs).2
    have hDt := (i1 t ht).2
    refine br_f (nI_ge hi (by omega)) ⟨vp_in_nI hs (by omega), ?_⟩
    have fin : ∀ z : Int32, z = nI (ag_wt f (ag_dx s) (ag_dx t)) → wX_spreadOver_35 post (wX_spreadOver_7 post (nI s) (ag_b1 f) (nI k) n) (nI s) (ag_b1 f) (nI i) z (x2 (nI s).toNatClampNeg) (nI g1) (nI k) wl wo pl gl cg x2 ns nt := by
      intro z ez
      unfold wX_spreadOver_35
      refine nm_r (e' := nI (D s + ag_wt f (ag_dx s) (ag_dx t))) (by rw [nI_clamp (by omega), (i1 s hs).1, i4, ez, nI_add]) ?_
      refine ⟨vp_in_nI (show i < 125 by omega) (by omega), ?_⟩
      rw [nI_clamp (n := i) (by omega), l1, nI_clamp (n := t) (by omega), (i1 t ht).1]
      refine ⟨vp_in_nI ht (by omega), ?_⟩
      refine pk_le (D1 t) (D s + ag_wt f (ag_dx s) (ag_dx t)) (fun h1 => ?_) (fun h1 => ?_)
      · refine nm_r (nI_1 i) (ih (nI g1, x2) ⟨D1, g1, rfl, i1, i2, i3, i4, i5, fun t' ht' he' hc' => ?_, i7⟩)
        by_cases y : ag_cn E t' = i
        · have : t' = t := ag_cn_inj1 E he' hEt (by omega)
          rw [this]
          exact h1
        · exact i6 t' ht' he' (by omega)
      · refine ⟨vp_in_nI (show i < 125 by omega) (by omega), vp_in_nI ht (by omega), nm_e ?_⟩
        have hts : t ≠ s := fun z => by
          rw [z] at h1
          omega
        have hold : D1 t = D t ∨ (E t = true ∧ D1 t = D s + ag_wt f (ag_dx s) (ag_dx t) ∧ D s + ag_wt f (ag_dx s) (ag_dx t) < D t) := i7 t ht
        have key : ∀ g2, g1 ≤ g2 → g2 ≤ 10125 → D s + ag_wt f (ag_dx s) (ag_dx t) ≤ g2 → wX_spreadOver_7 post (nI s) (ag_b1 f) (nI k) n (nI (i + 1)) (nI g2) wl wo pl gl cg (upd x2 t (nI (D s + ag_wt f (ag_dx s) (ag_dx t)))) ns nt := by
          intro g2 j1 j2 j3
          refine ih (nI g2, upd x2 t (nI (D s + ag_wt f (ag_dx s) (ag_dx t)))) ⟨ag_nu D1 t (D s + ag_wt f (ag_dx s) (ag_dx t)), g2, rfl, ag_Rx_u i1 (by omega), j2, fun t' ht' hd' => ?_, ?_, fun t' ht' => ?_, fun t' ht' he' hc' => ?_, fun t' ht' => ?_⟩
          · unfold ag_nu at hd' ⊢
            by_cases y : t' = t
            · rw [if_pos y]; exact j3
            · rw [if_neg y] at hd' ⊢
              have := i3 t' ht' hd'
              omega
          · unfold ag_nu
            rw [if_neg (fun z => hts z.symm)]
            exact i4
          · unfold ag_nu
            by_cases y : t' = t
            · rw [if_pos y, y]
              have := i5 t ht
              omega
            · rw [if_neg y]; exact i5 t' ht'
          · unfold ag_nu
            by_cases y : t' = t
            · rw [if_pos y, y]; exact Nat.le_refl _
            · rw [if_neg y]
              refine i6 t' ht' he' ?_
              have : ag_cn E t' ≠ i := fun z => y (ag_cn_inj1 E he' hEt (by omega))
              omega
          · unfold ag_nu
            by_cases y : t' = t
            · rw [if_pos y, y]
              have := i5 t ht
              exact Or.inr ⟨hEt, rfl, by omega⟩
            · rw [if_neg y]; exact i7 t' ht'
        refine pk_le (D s + ag_wt f (ag_dx s) (ag_dx t)) g1 (fun h2 => ?_) (fun h2 => ?_)
        · exact nm_r (nI_1 i) (key g1 (by omega) (by omega) h2)
        · exact nm_r (nI_1 i) (key _ (by omega) (by omega) (Nat.le_refl _))
    cases f
    · exact br_t rfl (fin 1 rfl)
    · refine br_f (by decide) ⟨vp_in_nI (show i < 125 by omega) (by omega), fin _ ?_⟩
      rw [nI_clamp (by omega)]
      exact l2
theorem ag_GXz {go : Nat → Nat → Bool} {f : Bool} {s t : Nat} (h : ag_GX go f s t 0) : t = s := by
  have := ag_E_z h.2
  rw [← ag_ex_dx t, ← ag_ex_dx s, this]
theorem ag_fromX {post : SX → Prop} {w : Nat → Bool} {go : Nat → Nat → Bool} (hg : ag_Gd w go) (hc : ag_Cg go cg) {f : Bool} {T : Nat} {q : Nat × Nat × Nat} (hq : ag_V w T q)
    (p : ∀ g' nc' co' ns' nt' D, ag_Rx co' D → ag_Sl 3375 10126 (ag_GX go f) (ag_ex q) D → post (g', nc', wl, wo, pl, gl, cg, co', ns', nt')) : wpX_spreadFrom post (g, nc, wl, wo, pl, gl, cg, co, ns, nt) (nI (ag_ex q)) (ag_b1 f) := by
  have ha := (ag_exV hq).1
  have H := fun t c => ag_simX hg f T hq t c
  have hB : ∀ t c, ag_Ls (ag_GX go f) (ag_ex q) t c → c < 1728 := fun t c h => by
    obtain ⟨q', _, _, h'⟩ := ag_LsG H h
    exact ag_E_bd hg hq h'
  have hE : ∀ s t p, s < 3375 → ag_GX go f s t p → t < 3375 := fun s t p _ h => h.1
  have hz : ∀ s t, ag_GX go f s t 0 → t = s := fun s t h => ag_GXz h
  generalize ag_ex q = a at ha hB p ⊢
  unfold wpX_spreadFrom
  dsimp only
  refine loop_0 (fun n i s => wX_spreadFrom_2 post (nI a) (ag_b1 f) g nc n (nI i) wl wo pl gl cg s ns nt) (fun i s => ∀ t, t < i → s t = nI 10126) 3375 co (fun t h => absurd h (by omega)) ?_ ?_
  · intro n s h
    refine br_t (nI_le (b := 3375) (Nat.le_refl _) (by decide)) ⟨vp_in_nI ha (by omega), nm_r (e' := upd s a (nI 0)) (by rw [nI_clamp (by omega)]; rfl) ?_⟩
    refine loop_0 (fun n c (s : Int32 × Int32 × (Nat → Int32) × (Nat → Int32) × (Nat → Int32)) => wX_spreadFrom_38 post (ag_b1 f) n (nI c) s.1 s.2.1 wl wo pl gl cg s.2.2.1 s.2.2.2.1 s.2.2.2.2)
      (fun c s => ∃ D gg, s.1 = nI gg ∧ ag_Rx s.2.2.1 D ∧ gg ≤ 10125 ∧ (∀ t, t < 3375 → D t < 10126 → D t ≤ gg) ∧ ag_Iv 3375 10126 (ag_GX go f) a c 0 D) 10126 (nI 0, nc, upd s a (nI 0), ns, nt) ?_ ?_ ?_
    · refine ⟨ag_nu (fun _ => 10126) a 0, 0, rfl, ag_Rx_u (fun t ht => ⟨h t ht, Nat.le_refl _⟩) (by omega), by omega, fun t _ hd => ?_, ag_Iv0 _ (if_pos rfl) (fun t _ ht => if_neg ht)⟩
      unfold ag_nu at hd ⊢
      by_cases y : t = a
      · rw [if_pos y]; exact Nat.le_refl _
      · rw [if_neg y] at hd
        exact absurd hd (Nat.lt_irrefl 10126)
    · rintro n ⟨x1, x2, x3, x4, x5⟩ ⟨D, gg, e, i1, i2, i3, i4⟩
      dsimp only at e i1 ⊢
      subst e
      exact br_t (nI_lt (by omega) (by omega)) (p _ _ _ _ _ D i1 (ag_IvE ha hE hB (by omega) i4 (fun t _ h => h)))
    · rintro n c ⟨x1, x2, x3, x4, x5⟩ hcc ⟨D, gg, e, i1, i2, i3, i4⟩ ih
      dsimp only at e i1 ⊢
      subst e
      refine pk_lt gg c (fun h1 => ?_) (fun h1 => ?_)
      · exact p _ _ _ _ _ D i1 (ag_IvE ha hE hB (by omega) i4 (fun t ht h => Nat.lt_of_le_of_lt (i3 t ht h) h1))
      · refine br_f (nI_nlt (a := 10125) (by omega) (by omega)) ?_
        refine loop_0 (fun m i (s : Int32 × Int32 × (Nat → Int32) × (Nat → Int32) × (Nat → Int32)) => wX_spreadFrom_56 post (wX_spreadFrom_38 post (ag_b1 f) n) (ag_b1 f) (nI c) m (nI i) s.1 s.2.1 wl wo pl gl cg s.2.2.1 s.2.2.2.1 s.2.2.2.2)
          (fun i s => ∃ D gg, s.1 = nI gg ∧ ag_Rx s.2.2.1 D ∧ gg ≤ 10125 ∧ (∀ t, t < 3375 → D t < 10126 → D t ≤ gg) ∧ ag_Iv 3375 10126 (ag_GX go f) a c i D) 3375 (nI gg, x2, x3, x4, x5) ⟨D, gg, rfl, i1, i2, i3, i4⟩ ?_ ?_
        · rintro m ⟨y1, y2, y3, y4, y5⟩ ⟨D, gg, e, i1, i2, i3, i4⟩
          exact br_t (nI_le (b := 3375) (Nat.le_refl _) (by decide)) (nm_r (nI_1 c) (ih (y1, y2, y3, y4, y5) ⟨D, gg, e, i1, i2, i3, ag_IvN i4⟩))
        · rintro m i ⟨y1, y2, y3, y4, y5⟩ hi ⟨D, gg, e, i1, i2, i3, i4⟩ ih2
          dsimp only at e i1 ⊢
          subst e
          refine br_f (nI_ge (b := 3375) hi (by decide)) ⟨vp_in_nI hi (by omega), ?_⟩
          rw [nI_clamp (n := i) (by omega), (i1 i hi).1]
          have hDi := (i1 i hi).2
          refine pk_eq (D i) c (fun h2 => ?_) (fun h2 => ?_)
          · refine ag_overX hg hc hi i1 i2 i3 (fun gg' nc' co' ns' nt' D' j1 j2 j3 j4 => ?_)
            exact nm_r (nI_1 i) (ih2 (nI gg', nc', co', ns', nt') ⟨D', gg', rfl, j1, j2, j3, ag_IvS ha hi (by omega) (hz i) i4 h2 j4⟩)
          · exact nm_r (nI_1 i) (ih2 (nI gg, y2, y3, y4, y5) ⟨D, gg, rfl, i1, i2, i3, ag_IvK i4 h2⟩)
  · intro n i s hi h ih
    refine br_f (nI_ge (b := 3375) hi (by decide)) ⟨vp_in_nI hi (by omega), nm_r (e' := upd s i (nI 10126)) (by rw [nI_clamp (by omega)]; rfl) (nm_r (nI_1 i) (ih _ (fun t ht => ?_)))⟩
    by_cases y : t = i
    · subst y; exact pk_us
    · rw [pk_un y]; exact h t (by omega)
