/-! the first plan on both sides -/
variable {g nc : Int32} {wl wo pl gl cg co ns nt : Nat → Int32} {sz : Int32} {iw is py gy wk st cs gd : Nat → Int32}
theorem ag_E_1 {go : Nat → Nat → Bool} {q q' : Nat × Nat × Nat} {p : Nat} (h : ag_E go false q q' p) : p = 1 := h.2.2.2.2.2.2
/-- a next state on a shortest way -/
theorem ag_nx {go : Nat → Nat → Bool} {q e : Nat × Nat × Nat} {m : Nat} (h : ag_Ls (ag_E go false) q e (m + 1)) : ∃ b, ag_Cd (ag_E go false) e m q b := by
  rcases ag_RcF h.1 with ⟨_, z⟩ | ⟨b, p, c', e1, r, z⟩
  · omega
  · have hp := ag_E_1 e1
    subst hp
    have : c' = m := by omega
    subst this
    refine ⟨b, e1, r, fun c hc => ?_⟩
    have := h.2 _ (ag_RcC e1 hc)
    omega
theorem ag_nearX {post : Int32 → SX → Prop} {w : Nat → Bool} {go : Nat → Nat → Bool} (hg : ag_Gd w go) (hc : ag_Cg go cg) {T m : Nat} {e q : Nat × Nat × Nat} {D : Nat → Nat} (hr : ag_Rx co D) (hD : ∀ q d, ag_V w T q → d < 10126 → (D (ag_ex q) = d ↔ ag_Ls (ag_E go false) q e d)) (hq : ag_V w T q) (hm : ag_Ls (ag_E go false) q e (m + 1)) (hm2 : m + 1 < 10126)
    (p : ∀ q' nc' ns' nt', ag_Pk (ag_E go false) e m q q' → post (nI (ag_ex q')) (g, nc', wl, wo, pl, gl, cg, co, ns', nt')) : wpX_firstNearer post (g, nc, wl, wo, pl, gl, cg, co, ns, nt) (nI (ag_ex q)) := by
  have hs := (ag_exV hq).1
  have hDq := (hD q (m + 1) hq hm2).mpr hm
  unfold wpX_firstNearer
  dsimp only
  refine ag_turnsX hg hc hs (fun k ns nt hL => ?_)
  dsimp only
  unfold ag_Lt at hL
  rw [(ag_exV hq).2] at hL
  have hk : k ≤ 125 := by rw [hL.1]; exact ag_c125 hg _
  generalize hE : (fun t => ag_gb go q (ag_dx t)) = E at hL
  have hE' : ∀ t, E t = ag_gb go q (ag_dx t) := fun t => by rw [← hE]
  have cand : ∀ r, ag_Cd (ag_E go false) e m q r → ag_ex r < 3375 ∧ E (ag_ex r) = true ∧ D (ag_ex r) = m := fun r hr' => by
    have vr := ag_V_E hg hq hr'.1
    refine ⟨(ag_exV vr).1, ?_, (hD r m vr (by omega)).mpr hr'.2⟩
    rw [hE', (ag_exV vr).2]
    exact (ag_gb_E.mp hr'.1).1
  refine loop_0 (fun n i (_ : Unit) => wX_firstNearer_7 post (nI (ag_ex q)) g (nI k) wl wo pl gl cg co ns nt n (nI i)) (fun i _ => ∀ t, t < 3375 → E t = true → ag_cn E t < i → D t ≠ m) k () (fun t _ _ h => absurd h (by omega)) ?_ ?_
  · intro n _ h
    obtain ⟨b, hb⟩ := ag_nx hm
    obtain ⟨c1, c2, c3⟩ := cand b hb
    exact absurd c3 (h _ c1 c2 (by rw [hL.1]; exact ag_cn_lt E c1 c2))
  · intro n i _ hi h ih
    obtain ⟨t, ht, hEt, hct⟩ := ag_cn_sur E 3375 i (by rw [← hL.1]; exact hi)
    obtain ⟨l1, _⟩ := hL.2 t ht hEt
    rw [hct] at l1
    have hDt := (hr t ht).2
    refine br_f (nI_ge hi (by omega)) ⟨vp_in_nI (show i < 125 by omega) (by omega), ?_⟩
    rw [nI_clamp (n := i) (by omega), l1, nI_clamp (n := t) (by omega), nI_clamp (n := ag_ex q) (by omega), (hr t ht).1, (hr _ hs).1, hDq, nI_pred]
    refine ⟨vp_in_nI ht (by omega), vp_in_nI hs (by omega), ?_⟩
    refine pk_eq (D t) m (fun y => ⟨vp_in_nI (show i < 125 by omega) (by omega), ?_⟩) (fun y => ?_)
    · rw [hE'] at hEt
      have e1 : ag_E go false q (ag_dx t) 1 := ag_gb_E.mpr ⟨hEt, rfl⟩
      have v1 := ag_V_E hg hq e1
      have e2 : ag_Ls (ag_E go false) (ag_dx t) e m := (hD _ m v1 (by omega)).mp (by rw [ag_ex_dx]; exact y)
      have := p (ag_dx t) (nI k) ns nt ⟨⟨e1, e2⟩, fun r hr' => by
        obtain ⟨c1, c2, c3⟩ := cand r hr'
        rw [ag_ex_dx]
        by_cases z : t ≤ ag_ex r
        · exact z
        · have := ag_cn_lt E (show ag_ex r < t by omega) c2
          exact absurd c3 (h _ c1 c2 (by omega))⟩
      rw [ag_ex_dx] at this
      exact this
    · refine nm_r (nI_1 i) (ih () (fun t' ht' he' hc' => ?_))
      by_cases z : ag_cn E t' = i
      · have : t' = t := ag_cn_inj1 E he' hEt (by omega)
        rw [this]
        exact y
      · exact h t' ht' he' (by omega)
theorem ag_afterX {post : Int32 → SX → Prop} {w : Nat → Bool} {go : Nat → Nat → Bool} (hg : ag_Gd w go) (hc : ag_Cg go cg) {T L t : Nat} {a e : Nat × Nat × Nat} {D : Nat → Nat} (hr : ag_Rx co D) (hD : ∀ q d, ag_V w T q → d < 10126 → (D (ag_ex q) = d ↔ ag_Ls (ag_E go false) q e d)) (ha : ag_V w T a) (hL : ag_Ls (ag_E go false) a e L) (hL2 : L < 1728) (ht : t ≤ L)
    (p : ∀ q nc' ns' nt', ag_Wk (ag_E go false) a e L t q → post (nI (ag_ex q)) (g, nc', wl, wo, pl, gl, cg, co, ns', nt')) : wpX_stateAfter post (g, nc, wl, wo, pl, gl, cg, co, ns, nt) (nI (ag_ex a)) (nI t) := by
  unfold wpX_stateAfter
  dsimp only
  refine loop_0 (fun n i (s : Int32 × Int32 × (Nat → Int32) × (Nat → Int32)) => wX_stateAfter_5 post (nI t) n s.1 (nI i) g s.2.1 wl wo pl gl cg co s.2.2.1 s.2.2.2) (fun i s => ∃ q, s.1 = nI (ag_ex q) ∧ ag_Wk (ag_E go false) a e L i q) t (nI (ag_ex a), nc, ns, nt) ⟨a, rfl, rfl⟩ ?_ ?_
  · rintro n ⟨s1, s2, s3, s4⟩ ⟨q, e1, hw⟩
    dsimp only at e1 ⊢
    subst e1
    exact br_t (nI_le (Nat.le_refl t) (by omega)) (p q s2 s3 s4 hw)
  · rintro n i ⟨s1, s2, s3, s4⟩ hi ⟨q, e1, hw⟩ ih
    dsimp only at e1 ⊢
    subst e1
    have vq := ag_WkV hg ha i q hw
    obtain ⟨_, d2⟩ := ag_WkL hL i q (by omega) hw
    rw [show L - i = (L - i - 1) + 1 by omega] at d2
    refine br_f (nI_ge hi (by omega)) (ag_nearX hg hc hr hD vq d2 (by omega) (fun q' nc' ns' nt' hp => ?_))
    exact nm_r (nI_1 i) (ih (nI (ag_ex q'), nc', ns', nt') ⟨q', rfl, q, hw, hp⟩)
/-- what the reference looks for -/
def ag_Cn (w : Nat → Bool) (o : Nat → Nat) (T : Nat) (D : Nat → Nat) (gd : Nat → Int32) (j : Nat) (q q' : Nat × Nat × Nat) : Prop := ag_E (ag_go w o) false q q' 1 ∧ D (ag_ey T q') = j + 1 ∧ gd (ag_ey T q') ≠ 0
theorem ag_nextY {post : Int32 → Prop} {w : Nat → Bool} {o : Nat → Nat} {T j : Nat} {q : Nat × Nat × Nat} {D : Nat → Nat} (h1 : 1 ≤ T) (h7 : T ≤ 7) (hst : ag_St w o st) (hr : ag_Ry cs D) (hq : ag_V w T q) (hj : D (ag_ey T q) = j) (hj2 : j < 2000)
    (p0 : (∀ q', ¬ ag_Cn w o T D gd j q q') → post (-1)) (p1 : ∀ q', ag_Cn w o T D gd j q q' → (∀ r, ag_Cn w o T D gd j q r → ag_ey T q' ≤ ag_ey T r) → post (nI (ag_ey T q'))) : wpY_nextGood post (nI (ag_sz T), iw, wo, is, py, gy, wk, st, cs, gd) (nI (ag_ey T q)) := by
  obtain ⟨n1, n3⟩ := ag_sz3 T h1 h7
  have hs := ag_eyV T h1 h7 q hq
  have te := ag_TEall w o false T h1 h7 q
  have cf : ∀ q', ag_Cn w o T D gd j q q' → ∃ k, k < 125 ∧ ag_af w o (ag_sz T) (ag_ey T q) k = ag_ey T q' := fun q' hc => by
    obtain ⟨_, k, hk, e, _⟩ := (te _ 1 hq).mpr ⟨q', rfl, hc.1⟩
    exact ⟨k, hk, e⟩
  have cb : ∀ t k, k < 125 → ag_af w o (ag_sz T) (ag_ey T q) k = t → t < 1728 → gd t ≠ 0 → D t = j + 1 → ∃ q', t = ag_ey T q' ∧ ag_Cn w o T D gd j q q' := fun t k hk e ht h2 h3 => by
    obtain ⟨q', e', hE⟩ := (te t 1 hq).mp ⟨ht, k, hk, e, rfl⟩
    exact ⟨q', e', hE, by rw [← e']; exact h3, by rw [← e']; exact h2⟩
  unfold wpY_nextGood
  dsimp only
  refine loop_0 (fun n i x => wY_nextGood_4 post (nI (ag_ey T q)) (nI (ag_sz T)) iw wo is py gy wk st cs gd n x (nI i))
    (fun i x => (x = -1 ∧ ∀ k, k < i → ∀ r, ag_Cn w o T D gd j q r → ag_af w o (ag_sz T) (ag_ey T q) k ≠ ag_ey T r) ∨ ∃ q', x = nI (ag_ey T q') ∧ ag_Cn w o T D gd j q q' ∧ ∀ k, k < i → ∀ r, ag_Cn w o T D gd j q r → ag_af w o (ag_sz T) (ag_ey T q) k = ag_ey T r → ag_ey T q' ≤ ag_ey T r) 125 (-1) (Or.inl ⟨rfl, fun k h => absurd h (by omega)⟩) ?_ ?_
  · rintro n x (⟨rfl, h⟩ | ⟨q', rfl, hc, h⟩)
    · refine br_t (nI_le (b := 125) (Nat.le_refl _) (by decide)) (p0 (fun q' hc => ?_))
      obtain ⟨k, hk, e⟩ := cf q' hc
      exact h k hk q' hc e
    · refine br_t (nI_le (b := 125) (Nat.le_refl _) (by decide)) (p1 q' hc (fun r hr' => ?_))
      obtain ⟨k, hk, e⟩ := cf r hr'
      exact h k hk r hr' e
  · intro n i x hi hI ih
    refine br_f (nI_ge (b := 125) hi (by decide)) (ag_afterY n1 n3 hst hs hi ?_)
    have hle := ag_af_le (w := w) (o := o) (n := ag_sz T) (k := i) hs
    have keep : (∀ r, ag_Cn w o T D gd j q r → ag_af w o (ag_sz T) (ag_ey T q) i ≠ ag_ey T r) → wY_nextGood_4 post (nI (ag_ey T q)) (nI (ag_sz T)) iw wo is py gy wk st cs gd n x (nI (i + 1)) := fun hn => by
      refine ih x ?_
      rcases hI with ⟨e, h⟩ | ⟨q', e, hc, h⟩
      · refine Or.inl ⟨e, fun k hk r hr' => ?_⟩
        by_cases y : k = i
        · rw [y]; exact hn r hr'
        · exact h k (by omega) r hr'
      · refine Or.inr ⟨q', e, hc, fun k hk r hr' ee => ?_⟩
        by_cases y : k = i
        · rw [y] at ee; exact absurd ee (hn r hr')
        · exact h k (by omega) r hr' ee
    have k55 : ∀ y, (∀ r, ag_Cn w o T D gd j q r → ag_af w o (ag_sz T) (ag_ey T q) i ≠ ag_ey T r) → wY_nextGood_55 post (wY_nextGood_4 post (nI (ag_ey T q)) (nI (ag_sz T)) iw wo is py gy wk st cs gd n) (nI (ag_ey T q)) x (nI i) y (nI (ag_sz T)) iw wo is py gy wk st cs gd := fun y hn => by
      unfold wY_nextGood_55 wY_nextGood_56
      exact br_t rfl (nm_r (nI_1 i) (keep hn))
    have vr : ∀ r, ag_Cn w o T D gd j q r → ag_ey T r < 1728 := fun r hr' => ag_eyV T h1 h7 r (ag_V_E (ag_Gd_go w o) hq hr'.1)
    by_cases hb : ag_af w o (ag_sz T) (ag_ey T q) i = 1728
    · refine br_t (by rw [hb]; decide) (k55 _ (fun r hr' e => ?_))
      have := vr r hr'
      omega
    · have ht : ag_af w o (ag_sz T) (ag_ey T q) i < 1728 := by omega
      rw [show ag_iJ (ag_af w o (ag_sz T) (ag_ey T q) i) = nI (ag_af w o (ag_sz T) (ag_ey T q) i) from if_neg hb]
      refine br_f (nI_pos (by omega)) ⟨vp_in_nI ht (by omega), ?_⟩
      rw [nI_clamp (n := ag_af w o (ag_sz T) (ag_ey T q) i) (by omega), nI_clamp (n := ag_ey T q) (by omega), (hr _ ht).1, (hr _ hs).1, hj, ag_iUn (d := j) (by omega), nI_1]
      have hDt := (hr _ ht).2
      refine br_c (fun q1 => ?_) (fun q1 => ?_)
      · refine k55 _ (fun r hr' e => ?_)
        rw [e] at q1
        exact hr'.2.2 q1
      · refine ⟨vp_in_nI ht (by omega), vp_in_nI hs (by omega), ?_⟩
        refine br_c (fun q2 => ?_) (fun q2 => ?_)
        · have hd : D (ag_af w o (ag_sz T) (ag_ey T q) i) = j + 1 := by
            by_cases y : D (ag_af w o (ag_sz T) (ag_ey T q) i) = 10126
            · rw [y] at q2
              exact absurd (show nI (j + 1) < 0 by rw [← q2]; decide) (nI_pos (by omega))
            · rw [ag_iUn y, nI_eq (by omega) (by omega)] at q2
              exact q2
          obtain ⟨qi, ei, ci⟩ := cb _ i hi rfl ht q1 hd
          have vi := ag_V_E (ag_Gd_go w o) hq ci.1
          have take : (∀ k, k < i → ∀ r, ag_Cn w o T D gd j q r → ag_af w o (ag_sz T) (ag_ey T q) k = ag_ey T r → ag_ey T qi ≤ ag_ey T r) → wY_nextGood_4 post (nI (ag_ey T q)) (nI (ag_sz T)) iw wo is py gy wk st cs gd n (nI (ag_af w o (ag_sz T) (ag_ey T q) i)) (nI (i + 1)) := fun hn => by
            refine ih _ (Or.inr ⟨qi, by rw [ei], ci, fun k hk r hr' ee => ?_⟩)
            by_cases y : k = i
            · rw [y] at ee; omega
            · exact hn k (by omega) r hr' ee
          unfold wY_nextGood_56
          refine br_f (by decide) ?_
          rcases hI with ⟨e, h⟩ | ⟨q', e, hc, h⟩
          · subst e
            exact br_t (by decide) (nm_r (nI_1 i) (take (fun k hk r hr' ee => absurd ee (h k hk r hr'))))
          · subst e
            have vq' := vr q' hc
            refine br_f (nI_pos (by omega)) (pk_le (ag_ey T q') (ag_af w o (ag_sz T) (ag_ey T q) i) (fun y => ?_) (fun y => ?_))
            · refine nm_r (nI_1 i) (ih _ (Or.inr ⟨q', rfl, hc, fun k hk r hr' ee => ?_⟩))
              by_cases z : k = i
              · rw [z] at ee; omega
              · exact h k (by omega) r hr' ee
            · refine nm_r (nI_1 i) (take (fun k hk r hr' ee => ?_))
              have := h k hk r hr' ee
              omega
        · refine k55 _ (fun r hr' e => q2 ?_)
          rw [e, hr'.2.1, ag_iUn (by omega)]
/-- a state on a shortest way, from its level -/
theorem ag_lvl {go : Nat → Nat → Bool} {a e q : Nat × Nat × Nat} {L i : Nat} (hL : ag_Ls (ag_E go false) a e L) (hi : i < L) (hq : ag_Ls (ag_E go false) a q i) : ag_Rc (ag_E go false) q e (L - i) ↔ ∃ q', ag_E go false q q' 1 ∧ ag_Ls (ag_E go false) a q' (i + 1) ∧ ag_Rc (ag_E go false) q' e (L - (i + 1)) := by
  constructor
  · intro h
    rcases ag_RcF h with ⟨_, z⟩ | ⟨b, p, c', e1, r, z⟩
    · omega
    · have hp := ag_E_1 e1
      subst hp
      have : c' = L - (i + 1) := by omega
      subst this
      refine ⟨b, e1, ⟨ag_RcS hq.1 e1, fun c hc => ?_⟩, r⟩
      have := hL.2 _ (ag_RcT hc r)
      omega
  · rintro ⟨q', e1, _, r⟩
    have := ag_RcC e1 r
    rw [show 1 + (L - (i + 1)) = L - i by omega] at this
    exact this
theorem ag_Rc00 {go : Nat → Nat → Bool} {q e : Nat × Nat × Nat} (h : ag_Rc (ag_E go false) q e 0) : e = q := by
  rcases ag_RcF h with ⟨z, _⟩ | ⟨b, p, c', e1, _, z⟩
  · exact z
  · have := ag_E_1 e1
    omega
theorem ag_markY {post : SY → Prop} {w : Nat → Bool} {o G : Nat → Nat} {T L : Nat} {a : Nat × Nat × Nat} {D : Nat → Nat} (h1 : 1 ≤ T) (h7 : T ≤ 7) (hw : ag_Wl T wk) (hgy : ∀ j, j < 3 → T.testBit j = true → gy j = nI (G j)) (hst : ag_St w o st) (hr : ag_Ry cs D) (ha : ag_V w T a) (hS : ag_Sl 1728 10126 (ag_GY w o (ag_sz T) false) (ag_ey T a) D) (hD : ∀ q d, ag_V w T q → d < 10126 → (D (ag_ey T q) = d ↔ ag_Ls (ag_E (ag_go w o) false) a q d)) (he : ag_V w T (ag_tr T G)) (hL : ag_Ls (ag_E (ag_go w o) false) a (ag_tr T G) L) (hL2 : L < 1728)
    (p : ∀ gd', (∀ q j, ag_V w T q → j ≤ L → D (ag_ey T q) = j → (gd' (ag_ey T q) ≠ 0 ↔ ag_Rc (ag_E (ag_go w o) false) q (ag_tr T G) (L - j))) → post (nI (ag_sz T), iw, wo, is, py, gy, wk, st, cs, gd')) : wpY_markGood post (nI (ag_sz T), iw, wo, is, py, gy, wk, st, cs, gd) (nI L) := by
  have hl := ag_eyV T h1 h7 _ he
  unfold wpY_markGood
  dsimp only
  refine loop_0 (fun n i s => wY_markGood_2 post (nI L) (nI (ag_sz T)) n (nI i) iw wo is py gy wk st cs s) (fun i s => ∀ t, t < i → s t = 0) 1728 gd (fun t h => absurd h (by omega)) ?_ ?_
  · intro n s h
    refine br_t (nI_le (b := 1728) (Nat.le_refl _) (by decide)) (ag_finishT h1 h7 hw hgy ⟨vp_in_nI hl (by omega), nm_r (e' := upd s (ag_ey T (ag_tr T G)) 1) (by rw [nI_clamp (by omega), ag_nb1]) (nm_e ⟨L + 1, ?_⟩)⟩)
    refine pk_loopD (fun n i s => wY_markGood_38 post (nI (ag_sz T)) n (nI i - 1) iw wo is py gy wk st cs s) (fun i s => i ≤ L ∧ ∀ q j, ag_V w T q → i ≤ j → j ≤ L → D (ag_ey T q) = j → (s (ag_ey T q) ≠ 0 ↔ ag_Rc (ag_E (ag_go w o) false) q (ag_tr T G) (L - j))) ?_ ?_ L _ ⟨Nat.le_refl L, fun q j vq hj1 hj2 hd => ?_⟩
    · intro n s hs
      exact br_t (by decide) (p s (fun q j vq hj hd => hs.2 q j vq (by omega) hj hd))
    · intro n i s hs ih
      obtain ⟨hiL, hs⟩ := hs
      have hiL : i < L := hiL
      rw [nI_pred]
      · refine br_f (nI_pos (by omega)) ?_
        refine loop_0 (fun m t x => wY_markGood_45 post (wY_markGood_38 post (nI (ag_sz T)) n) (nI i) (nI (ag_sz T)) m (nI t) iw wo is py gy wk st cs x) (fun t x => (∀ q j, ag_V w T q → i + 1 ≤ j → j ≤ L → D (ag_ey T q) = j → (x (ag_ey T q) ≠ 0 ↔ ag_Rc (ag_E (ag_go w o) false) q (ag_tr T G) (L - j))) ∧ ∀ q, ag_V w T q → ag_ey T q < t → D (ag_ey T q) = i → (x (ag_ey T q) ≠ 0 ↔ ag_Rc (ag_E (ag_go w o) false) q (ag_tr T G) (L - i))) 1728 s ⟨hs, fun q _ hq => absurd hq (by omega)⟩ ?_ ?_
        · rintro m x ⟨x1, x2⟩
          refine br_t (nI_le (b := 1728) (Nat.le_refl _) (by decide)) (nm_r (e' := nI i - 1) (Int32.sub_eq_add_neg _ _).symm (ih x ⟨by omega, fun q j vq hj1 hj2 hd => ?_⟩))
          by_cases y : j = i
          · rw [y] at hd ⊢
            exact x2 q vq (ag_eyV T h1 h7 q vq) hd
          · exact x1 q j vq (by omega) hj2 hd
        · rintro m t x ht ⟨x1, x2⟩ ih2
          refine br_f (nI_ge (b := 1728) ht (by decide)) ⟨vp_in_nI ht (by omega), ?_⟩
          rw [nI_clamp (n := t) (by omega), (hr t ht).1]
          have hDt := (hr t ht).2
          refine br_c (fun y => ?_) (fun y => ?_)
          · have hd : D t = i := by
              by_cases z : D t = 10126
              · rw [z] at y
                exact absurd (show nI i < 0 by rw [← y]; decide) (nI_pos (by omega))
              · rw [ag_iUn z, nI_eq (by omega) (by omega)] at y
                exact y
            obtain ⟨q, e, vq⟩ := ag_VY h1 h7 ha hS ht (by omega)
            subst e
            have lq := (hD q i vq (by omega)).mp hd
            have key := ag_lvl hL hiL lq
            have cnd : ∀ q', ag_Cn w o T D x i q q' ↔ (ag_E (ag_go w o) false q q' 1 ∧ ag_Ls (ag_E (ag_go w o) false) a q' (i + 1) ∧ ag_Rc (ag_E (ag_go w o) false) q' (ag_tr T G) (L - (i + 1))) := fun q' => by
              constructor
              · rintro ⟨c1, c2, c3⟩
                have v' := ag_V_E (ag_Gd_go w o) vq c1
                exact ⟨c1, (hD q' _ v' (by omega)).mp c2, (x1 q' (i + 1) v' (by omega) (by omega) c2).mp c3⟩
              · rintro ⟨c1, c2, c3⟩
                have v' := ag_V_E (ag_Gd_go w o) vq c1
                have d' := (hD q' _ v' (by omega)).mpr c2
                exact ⟨c1, d', (x1 q' (i + 1) v' (by omega) (by omega) d').mpr c3⟩
            have put : ∀ b : Int32, (b ≠ 0 ↔ ag_Rc (ag_E (ag_go w o) false) q (ag_tr T G) (L - i)) → wY_markGood_45 post (wY_markGood_38 post (nI (ag_sz T)) n) (nI i) (nI (ag_sz T)) m (nI (ag_ey T q + 1)) iw wo is py gy wk st cs (upd x (ag_ey T q) b) := fun b hb => by
              refine ih2 _ ⟨fun q' j vq' hj1 hj2 hd' => ?_, fun q' vq' hq' hd' => ?_⟩
              · have : ag_ey T q' ≠ ag_ey T q := fun z => by rw [z] at hd'; omega
                rw [pk_un this]
                exact x1 q' j vq' hj1 hj2 hd'
              · by_cases z : ag_ey T q' = ag_ey T q
                · have := ag_ey_inj h1 h7 vq' vq z
                  rw [this, pk_us]
                  exact hb
                · rw [pk_un z]
                  exact x2 q' vq' (by omega) hd'
            refine ag_nextY h1 h7 hst hr vq hd (by omega) (fun hn => ?_) (fun q' hc _ => ?_)
            · refine br_t (by decide) ⟨vp_in_nI ht (by omega), nm_r (e' := upd x (ag_ey T q) 0) (by rw [ag_nb0]) (nm_r (nI_1 _) (put 0 ?_))⟩
              refine ⟨fun z => absurd rfl z, fun z => ?_⟩
              obtain ⟨q', k⟩ := key.mp z
              exact absurd ((cnd q').mpr k) (hn q')
            · have v' := ag_eyV T h1 h7 q' (ag_V_E (ag_Gd_go w o) vq hc.1)
              refine br_f (nI_pos (by omega)) ⟨vp_in_nI ht (by omega), nm_r (e' := upd x (ag_ey T q) 1) (by rw [ag_nb1]) (nm_r (nI_1 _) (put 1 ?_))⟩
              exact ⟨fun _ => key.mpr ⟨q', (cnd q').mp hc⟩, fun _ => by decide⟩
          · refine nm_r (nI_1 t) (ih2 x ⟨x1, fun q vq hq hd => ?_⟩)
            by_cases z : ag_ey T q = t
            · rw [z] at hd
              exact absurd (by rw [hd, ag_iUn (by omega)]) y
            · exact x2 q vq (by omega) hd
    · have : j = L := by omega
      subst this
      rw [Nat.sub_self]
      by_cases z : ag_ey T q = ag_ey T (ag_tr T G)
      · have := ag_ey_inj h1 h7 vq he z
        rw [this, pk_us]
        exact ⟨fun _ => ag_Rc0 _ _, fun _ => by decide⟩
      · rw [pk_un z, h _ (ag_eyV T h1 h7 q vq)]
        exact ⟨fun z => absurd rfl z, fun r => absurd (by rw [ag_Rc00 r]) z⟩
  · intro n i s hi h ih
    refine br_f (nI_ge (b := 1728) hi (by decide)) ⟨vp_in_nI hi (by omega), nm_r (e' := upd s i 0) (by rw [nI_clamp (by omega), ag_nb0]) (nm_r (nI_1 i) (ih _ (fun t ht => ?_)))⟩
    by_cases y : t = i
    · subst y; exact pk_us
    · rw [pk_un y]; exact h t (by omega)
