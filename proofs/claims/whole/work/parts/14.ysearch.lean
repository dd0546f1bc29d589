/-! the reference's search -/
variable {sz : Int32} {iw wo is py gy wk st cs gd : Nat → Int32}
def ag_iU (d : Nat) : Int32 := if d = 10126 then -1 else nI d
theorem ag_iUn {d : Nat} (h : d ≠ 10126) : ag_iU d = nI d := if_neg h
theorem ag_iU0 {d : Nat} (h : d ≤ 10126) : ag_iU d < 0 ↔ d = 10126 := by
  by_cases e : d = 10126
  · subst e; exact ⟨fun _ => rfl, fun _ => by decide⟩
  · rw [ag_iUn e]
    exact ⟨fun z => absurd z (nI_pos (by omega)), fun z => absurd z e⟩
def ag_Ry (cs : Nat → Int32) (D : Nat → Nat) : Prop := ∀ t, t < 1728 → cs t = ag_iU (D t) ∧ D t ≤ 10126
theorem ag_Ry_u {D : Nat → Nat} {t c : Nat} (h : ag_Ry cs D) (hc : c < 10126) : ag_Ry (upd cs t (nI c)) (ag_nu D t c) := by
  intro x hx
  unfold ag_nu
  by_cases e : x = t
  · subst e
    rw [pk_us, if_pos rfl, ag_iUn (by omega)]
    exact ⟨rfl, by omega⟩
  · rw [pk_un e, if_neg e]
    exact h x hx
theorem ag_ef3 (n k : Nat) : ag_ef n k ≤ 3 := by
  unfold ag_ef
  split <;> split <;> split <;> omega
def ag_pr (n : Nat) (f : Bool) (k : Nat) : Nat := if f = true then ag_ef n k else 1
theorem ag_pr3 (n : Nat) (f : Bool) (k : Nat) : ag_pr n f k ≤ 3 := by
  unfold ag_pr
  have := ag_ef3 n k
  split <;> omega
theorem ag_af_le {w : Nat → Bool} {o : Nat → Nat} {n s k : Nat} (hs : s < 1728) : ag_af w o n s k ≤ 1728 := by
  have ha : s / 144 < 12 := by omega
  have hb : s / 12 % 12 < 12 := by omega
  have hc : s % 12 < 12 := by omega
  have X := ag_tg_le (w := w) (o := o) (d := k / 25) ha
  have Y := ag_tg_le (w := w) (o := o) (d := k / 5 % 5) hb
  have Z := ag_tg_le (w := w) (o := o) (d := k % 5) hc
  unfold ag_af
  dsimp only
  generalize ag_tg w o (s / 144) (k / 25) = x at X ⊢
  generalize ag_tg w o (s / 12 % 12) (k / 5 % 5) = y at Y ⊢
  generalize ag_tg w o (s % 12) (k % 5) = z at Z ⊢
  have X' : (if 0 < n then x else 0) ≤ 12 := by split <;> omega
  have Y' : (if 1 < n then y else 0) ≤ 12 := by split <;> omega
  have Z' : (if 2 < n then z else 0) ≤ 12 := by split <;> omega
  generalize (if 0 < n then x else 0) = x' at X' ⊢
  generalize (if 1 < n then y else 0) = y' at Y' ⊢
  generalize (if 2 < n then z else 0) = z' at Z' ⊢
  by_cases h : x' = 12 ∨ y' = 12 ∨ z' = 12 ∨ (1 < n ∧ ag_cl (s / 144) x' (s / 12 % 12) y') ∨ (2 < n ∧ (ag_cl (s / 144) x' (s % 12) z' ∨ ag_cl (s / 12 % 12) y' (s % 12) z'))
  · rw [if_pos h]; exact Nat.le_refl _
  · rw [if_neg h]
    have h1 : x' ≠ 12 := fun z => h (Or.inl z)
    have h2 : y' ≠ 12 := fun z => h (Or.inr (Or.inl z))
    have h3 : z' ≠ 12 := fun z => h (Or.inr (Or.inr (Or.inl z)))
    clear h
    omega
theorem ag_leaveY {post : SY → Prop} {w : Nat → Bool} {o : Nat → Nat} {n s : Nat} {f : Bool} {D : Nat → Nat} (h1 : 1 ≤ n) (h3 : n ≤ 3) (hst : ag_St w o st) (hs : s < 1728) (hr : ag_Ry cs D) (hD : D s < 2000)
    (p : ∀ cs' D', ag_Ry cs' D' → ag_Rl 1728 (ag_GY w o n f) s D D' → post (nI n, iw, wo, is, py, gy, wk, st, cs', gd)) : wpY_leave post (nI n, iw, wo, is, py, gy, wk, st, cs, gd) (nI s) (nI (D s)) (ag_b1 f) := by
  unfold wpY_leave
  dsimp only
  refine loop_0 (fun m i x => wY_leave_3 post (nI s) (nI (D s)) (ag_b1 f) (nI n) m (nI i) iw wo is py gy wk st x gd)
    (fun i x => ∃ D1, ag_Ry x D1 ∧ D1 s = D s ∧ (∀ t, t < 1728 → D1 t ≤ D t) ∧ (∀ k, k < i → ag_af w o n s k < 1728 → D1 (ag_af w o n s k) ≤ D s + ag_pr n f k) ∧ (∀ t, t < 1728 → D1 t = D t ∨ ∃ k, k < 125 ∧ ag_af w o n s k = t ∧ D1 t = D s + ag_pr n f k ∧ D s + ag_pr n f k < D t)) 125 cs
    ⟨D, hr, rfl, fun t _ => Nat.le_refl _, fun k h => absurd h (by omega), fun t _ => Or.inl rfl⟩ ?_ ?_
  · rintro m x ⟨D1, i1, i2, i3, i4, i5⟩
    refine br_t (nI_le (b := 125) (Nat.le_refl _) (by decide)) (p x D1 i1 ⟨i3, ?_, fun t ht => ?_⟩)
    · rintro t q ht ⟨_, k, hk, rfl, rfl⟩
      exact i4 k hk ht
    · rcases i5 t ht with h | ⟨k, hk, e1, e2, e3⟩
      · exact Or.inl h
      · exact Or.inr ⟨_, ⟨ht, k, hk, e1, rfl⟩, e2, e3⟩
  · rintro m i x hi ⟨D1, i1, i2, i3, i4, i5⟩ ih
    refine br_f (nI_ge (b := 125) hi (by decide)) (ag_afterY h1 h3 hst hs hi ?_)
    have hp3 := ag_pr3 n f i
    have fin : ∀ z : Int32, z = nI (ag_pr n f i) → wY_leave_34 post (wY_leave_3 post (nI s) (nI (D s)) (ag_b1 f) (nI n) m) (nI s) (nI (D s)) (ag_b1 f) (nI i) (ag_iJ (ag_af w o n s i)) z (nI (D s)) (nI n) iw wo is py gy wk st x gd := by
      intro z ez
      unfold wY_leave_34
      refine nm_r (e' := nI (D s + ag_pr n f i)) (by rw [ez, nI_add]) ?_
      have hle := ag_af_le (w := w) (o := o) (n := n) (k := i) hs
      by_cases hb : ag_af w o n s i = 1728
      · refine br_t (by rw [hb]; decide) (nm_r (nI_1 i) (ih x ⟨D1, i1, i2, i3, fun k hk hl => ?_, i5⟩))
        by_cases y : k = i
        · subst y; omega
        · exact i4 k (by omega) hl
      · have ht : ag_af w o n s i < 1728 := by omega
        rw [show ag_iJ (ag_af w o n s i) = nI (ag_af w o n s i) from if_neg hb]
        refine br_f (nI_pos (by omega)) ⟨vp_in_nI ht (by omega), ?_⟩
        rw [nI_clamp (n := ag_af w o n s i) (by omega), (i1 _ ht).1]
        have hDt := (i1 _ ht).2
        have put : D s + ag_pr n f i < D1 (ag_af w o n s i) → wY_leave_3 post (nI s) (nI (D s)) (ag_b1 f) (nI n) m (nI (i + 1)) iw wo is py gy wk st (upd x (ag_af w o n s i) (nI (D s + ag_pr n f i))) gd := by
          intro hlt
          have hts : ag_af w o n s i ≠ s := fun z => by rw [z] at hlt; omega
          refine ih _ ⟨ag_nu D1 (ag_af w o n s i) (D s + ag_pr n f i), ag_Ry_u i1 (by omega), ?_, fun t ht' => ?_, fun k hk hl => ?_, fun t ht' => ?_⟩
          · unfold ag_nu
            rw [if_neg (fun z => hts z.symm)]
            exact i2
          · unfold ag_nu
            by_cases y : t = ag_af w o n s i
            · rw [if_pos y, y]
              have := i3 _ ht
              omega
            · rw [if_neg y]; exact i3 t ht'
          · unfold ag_nu
            by_cases y : ag_af w o n s k = ag_af w o n s i
            · rw [if_pos y]
              by_cases e : k = i
              · rw [e]; exact Nat.le_refl _
              · have := i4 k (by omega) hl
                rw [y] at this
                omega
            · rw [if_neg y]
              refine i4 k ?_ hl
              have : k ≠ i := fun z => y (by rw [z])
              omega
          · unfold ag_nu
            by_cases y : t = ag_af w o n s i
            · rw [if_pos y, y]
              have := i3 _ ht
              exact Or.inr ⟨i, hi, rfl, rfl, by omega⟩
            · rw [if_neg y]; exact i5 t ht'
        refine br_c (fun q => ?_) (fun q => ?_)
        · rw [ag_iU0 hDt] at q
          exact ⟨vp_in_nI ht (by omega), nm_e (nm_r (nI_1 i) (put (by omega)))⟩
        · rw [ag_iU0 hDt] at q
          rw [ag_iUn q]
          refine ⟨vp_in_nI ht (by omega), ?_⟩
          refine pk_le (D1 (ag_af w o n s i)) (D s + ag_pr n f i) (fun h => ?_) (fun h => ?_)
          · refine nm_r (nI_1 i) (ih x ⟨D1, i1, i2, i3, fun k hk hl => ?_, i5⟩)
            by_cases y : k = i
            · subst y; exact h
            · exact i4 k (by omega) hl
          · exact ⟨vp_in_nI ht (by omega), nm_e (nm_r (nI_1 i) (put h))⟩
    cases f
    · exact br_t rfl (fin 1 rfl)
    · exact br_f (by decide) (ag_effortY h3 hi (fin _ rfl))
theorem ag_GYz {w : Nat → Bool} {o : Nat → Nat} {f : Bool} {T : Nat} (h1 : 1 ≤ T) (h7 : T ≤ 7) {q : Nat × Nat × Nat} (hq : ag_V w T q) {t : Nat} (h : ag_GY w o (ag_sz T) f (ag_ey T q) t 0) : t = ag_ey T q := by
  obtain ⟨q', e, h'⟩ := (ag_TEall w o f T h1 h7 q t 0 hq).mp h
  rw [e, ag_E_z h']
theorem ag_sz3 : ∀ T, 1 ≤ T → T ≤ 7 → 1 ≤ ag_sz T ∧ ag_sz T ≤ 3 := ag_T7 (by decide) (by decide) (by decide) (by decide) (by decide) (by decide) (by decide)
theorem ag_spreadY {post : SY → Prop} {w : Nat → Bool} {o : Nat → Nat} {T : Nat} {f : Bool} {q : Nat × Nat × Nat} (h1 : 1 ≤ T) (h7 : T ≤ 7) (hst : ag_St w o st) (hq : ag_V w T q) (hstart : ∀ cs (post' : Int32 → Prop), post' (nI (ag_ey T q)) → wpY_start post' (nI (ag_sz T), iw, wo, is, py, gy, wk, st, cs, gd))
    (p : ∀ cs' D, ag_Ry cs' D → ag_Sl 1728 10126 (ag_GY w o (ag_sz T) f) (ag_ey T q) D → post (nI (ag_sz T), iw, wo, is, py, gy, wk, st, cs', gd)) : wpY_spread post (nI (ag_sz T), iw, wo, is, py, gy, wk, st, cs, gd) (ag_b1 f) := by
  have hg := ag_Gd_go w o
  have ha := ag_eyV T h1 h7 q hq
  have H := fun t c => ag_simY (o := o) f h1 h7 hq t c
  obtain ⟨n1, n3⟩ := ag_sz3 T h1 h7
  have hB : ∀ t c, ag_Ls (ag_GY w o (ag_sz T) f) (ag_ey T q) t c → c < 1728 := fun t c h => by
    obtain ⟨q', _, _, h'⟩ := ag_LsG H h
    exact ag_E_bd hg hq h'
  have hE : ∀ s t p, s < 1728 → ag_GY w o (ag_sz T) f s t p → t < 1728 := fun s t p _ h => h.1
  have hz : ∀ s c t, ag_Rc (ag_GY w o (ag_sz T) f) (ag_ey T q) s c → ag_GY w o (ag_sz T) f s t 0 → t = s := fun s c t hr h => by
    obtain ⟨q', rfl, v, _⟩ := (H s c).mp hr
    exact ag_GYz h1 h7 v h
  generalize ag_ey T q = a at ha hB hz hstart p ⊢
  generalize ag_sz T = N at n1 n3 hB hE hz hstart p ⊢
  unfold wpY_spread
  dsimp only
  refine loop_0 (fun n i s => wY_spread_2 post (ag_b1 f) (nI N) n (nI i) iw wo is py gy wk st s gd) (fun i s => ∀ t, t < i → s t = -1) 1728 cs (fun t h => absurd h (by omega)) ?_ ?_
  · intro n s h
    refine br_t (nI_le (b := 1728) (Nat.le_refl _) (by decide)) (hstart s _ ⟨vp_in_nI ha (by omega), nm_r (e' := upd s a (nI 0)) (by rw [nI_clamp (by omega)]; rfl) ?_⟩)
    refine loop_0 (fun n c (x : Int32 × (Nat → Int32)) => wY_spread_39 post (ag_b1 f) n x.1 (nI c) (nI N) iw wo is py gy wk st x.2 gd)
      (fun c x => ∃ D, ag_Ry x.2 D ∧ ag_Iv 1728 10126 (ag_GY w o N f) a c 0 D ∧ (x.1 = 0 → ∀ t, t < 1728 → D t < 10126 → D t < c)) 2000 (1, upd s a (nI 0)) ?_ ?_ ?_
    · exact ⟨ag_nu (fun _ => 10126) a 0, ag_Ry_u (fun t ht => ⟨h t ht, Nat.le_refl _⟩) (by omega), ag_Iv0 _ (if_pos rfl) (fun t _ ht => if_neg ht), fun z => absurd z (show ¬ (1 : Int32) = 0 by decide)⟩
    · rintro n ⟨x1, x2⟩ ⟨D, i1, i2, i3⟩
      refine br_t (nI_le (b := 2000) (Nat.le_refl _) (by decide)) (p x2 D i1 (ag_IvE ha hE hB (by omega) i2 (fun t ht hd => ?_)))
      by_cases y : D t < 2000
      · exact y
      · have := ag_IvB ha hE hB (by omega) i2 ht hd (by omega)
        omega
    · rintro n c ⟨x1, x2⟩ hcc ⟨D, i1, i2, i3⟩ ih
      dsimp only at i1 i3 ⊢
      refine br_f (nI_ge (b := 2000) hcc (by decide)) (br_c (fun e => ?_) (fun e => ?_))
      · exact p x2 D i1 (ag_IvE ha hE hB (by omega) i2 (i3 e))
      · refine loop_0 (fun m i (x : Int32 × (Nat → Int32)) => wY_spread_56 post (wY_spread_39 post (ag_b1 f) n) (ag_b1 f) (nI c) m x.1 (nI i) (nI N) iw wo is py gy wk st x.2 gd)
          (fun i x => ∃ D, ag_Ry x.2 D ∧ ag_Iv 1728 10126 (ag_GY w o N f) a c i D ∧ (x.1 = 0 → ∀ t, t < i → D t < 10126 → D t < c)) 1728 (0, x2) ⟨D, i1, i2, fun _ t ht => absurd ht (by omega)⟩ ?_ ?_
        · rintro m ⟨y1, y2⟩ ⟨D, i1, i2, i3⟩
          refine br_t (nI_le (b := 1728) (Nat.le_refl _) (by decide)) (nm_r (nI_1 c) (ih (y1, y2) ⟨D, i1, ag_IvN i2, fun e t ht hd => ?_⟩))
          have := i3 e t ht hd
          omega
        · rintro m i ⟨y1, y2⟩ hi ⟨D, i1, i2, i3⟩ ih2
          dsimp only at i1 i3 ⊢
          refine br_f (nI_ge (b := 1728) hi (by decide)) ⟨vp_in_nI hi (by omega), ?_⟩
          rw [nI_clamp (n := i) (by omega), (i1 i hi).1]
          have hDi := (i1 i hi).2
          have s85 : ∀ D' x', ag_Ry x' D' → ag_Iv 1728 10126 (ag_GY w o N f) a c (i + 1) D' → (D' i = c ∨ D' = D) → wY_spread_85 post (wY_spread_39 post (ag_b1 f) n) (wY_spread_56 post (wY_spread_39 post (ag_b1 f) n) (ag_b1 f) (nI c) m) (ag_b1 f) y1 (nI c) (nI i) (nI N) iw wo is py gy wk st x' gd := by
            intro D' x' j1 j2 j3
            have hDi' := (j1 i hi).2
            unfold wY_spread_85
            refine br_c (fun e => ?_) (fun e => ?_)
            · refine ⟨vp_in_nI hi (by omega), ?_⟩
              rw [nI_clamp (n := i) (by omega), (j1 i hi).1]
              refine br_c (fun q => ?_) (fun q => ?_)
              · refine nm_r (nI_1 i) (ih2 (0, x') ⟨D', j1, j2, fun _ t ht hd => ?_⟩)
                rcases j3 with j3 | j3
                · rw [j3, ag_iUn (by omega)] at q
                  exact absurd q (nI_nlt (Nat.le_refl _) (by omega))
                · rw [j3] at hd q ⊢
                  by_cases y : t = i
                  · rw [y] at hd ⊢
                    rw [ag_iUn (by omega), nI_ltI (by omega) (by omega)] at q
                    exact q
                  · exact i3 e t (by omega) hd
              · exact nm_r (nI_1 i) (ih2 (1, x') ⟨D', j1, j2, fun z => absurd z (show ¬ (1 : Int32) = 0 by decide)⟩)
            · exact nm_r (nI_1 i) (ih2 (1, x') ⟨D', j1, j2, fun z => absurd z (show ¬ (1 : Int32) = 0 by decide)⟩)
          refine br_c (fun q => ?_) (fun q => ?_)
          · have hc : D i = c := by
              by_cases y : D i = 10126
              · rw [y] at q
                exact absurd q (by
                  intro z
                  have : (nI c) < 0 := by rw [← z]; decide
                  exact nI_pos (by omega) this)
              · rw [ag_iUn y, nI_eq (by omega) (by omega)] at q
                exact q
            rw [← hc]
            refine ag_leaveY n1 n3 hst hi i1 (by omega) (fun cs' D' j1 j2 => ?_)
            rw [hc]
            refine s85 D' cs' j1 (ag_IvS ha hi (by omega) (fun t ht => hz i (D i) t (i2.2.2.1 i hi (by omega)) ht) i2 hc j2) (Or.inl ?_)
            rcases j2.2.2 i hi with h | ⟨p, _, _, h⟩
            · omega
            · omega
          · refine s85 D y2 i1 (ag_IvK i2 (fun z => q ?_)) (Or.inr rfl)
            rw [z, ag_iUn (by omega)]
  · intro n i s hi h ih
    refine br_f (nI_ge (b := 1728) hi (by decide)) ⟨vp_in_nI hi (by omega), nm_r (e' := upd s i (-1)) (by rw [nI_clamp (by omega)]) (nm_r (nI_1 i) (ih _ (fun t ht => ?_)))⟩
    by_cases y : t = i
    · subst y; exact pk_us
    · rw [pk_un y]; exact h t (by omega)
