/-! the class's list of turns -/
variable {g nc : Int32} {wl wo pl gl cg co ns nt : Nat → Int32}
def ag_Li (E : Nat → Bool) (W : Nat → Nat) (m c : Nat) (ns nt : Nat → Int32) : Prop := c = ag_cn E m ∧ ∀ t, t < m → E t = true → ns (ag_cn E t) = nI t ∧ nt (ag_cn E t) = nI (W t)
theorem ag_cn_skip {E : Nat → Bool} {m : Nat} : ∀ {m' : Nat}, m ≤ m' → (∀ t, m ≤ t → t < m' → E t = false) → ag_cn E m' = ag_cn E m := by
  intro m' h
  induction h with
  | refl => intro _; rfl
  | step h1 ih =>
    intro hf
    rw [ag_cn_f (by rw [hf _ h1 (by omega)]; decide)]
    exact ih (fun t a b => hf t a (by omega))
theorem ag_Li_skip {E : Nat → Bool} {W : Nat → Nat} {m m' c : Nat} (h : ag_Li E W m c ns nt) (hm : m ≤ m') (hf : ∀ t, m ≤ t → t < m' → E t = false) : ag_Li E W m' c ns nt := by
  refine ⟨by rw [ag_cn_skip hm hf]; exact h.1, fun t ht he => h.2 t ?_ he⟩
  by_cases z : t < m
  · exact z
  · rw [hf t (by omega) ht] at he
    exact absurd he (by decide)
theorem ag_Li_put {E : Nat → Bool} {W : Nat → Nat} {m c : Nat} (h : ag_Li E W m c ns nt) (he : E m = true) : ag_Li E W (m + 1) (c + 1) (upd ns c (nI m)) (upd nt c (nI (W m))) := by
  refine ⟨by rw [ag_cn_t he, h.1], fun t ht e => ?_⟩
  by_cases z : t = m
  · subst z
    rw [← h.1, pk_us, pk_us]
    exact ⟨rfl, rfl⟩
  · have := ag_cn_lt E (show t < m by omega) e
    rw [pk_un (by have := h.1; omega), pk_un (by have := h.1; omega)]
    exact h.2 t (by omega) e
theorem ag_i225 (x y z : Nat) : (nI x * 15 + nI y) * 15 + nI z = nI ((x * 15 + y) * 15 + z) := by
  rw [ag_i15, ag_i15]
theorem ag_dx3 {x y z : Nat} (hy : y < 15) (hz : z < 15) : ag_dx ((x * 15 + y) * 15 + z) = (x, y, z) := ag_dx_ex (q := (x, y, z)) hy hz
/-- the innermost loop -/
theorem ag_lt124 {post : SX → Prop} {J30 J58 : Int32 → Int32 → (Nat → Int32) → (Nat → Int32) → (Nat → Int32) → (Nat → Int32) → (Nat → Int32) → (Nat → Int32) → (Nat → Int32) → (Nat → Int32) → Prop} {w : Nat → Bool} {go : Nat → Nat → Bool} (hg : ag_Gd w go) (hc : ag_Cg go cg) {a b c x y k0 : Nat} (ha : a < 15) (hb : b < 15) (h3 : c < 15) (hx : x < 15) (hy : y < 15) (g1 : go a x = true) (g2 : go b y = true) (n1 : ¬ ag_cl a x b y) (h : ag_Li (fun t => ag_gb go (a, b, c) (ag_dx t)) (fun t => ag_wt true (a, b, c) (ag_dx t)) ((x * 15 + y) * 15) k0 ns nt)
    (p : ∀ k ns nt, ag_Li (fun t => ag_gb go (a, b, c) (ag_dx t)) (fun t => ag_wt true (a, b, c) (ag_dx t)) ((x * 15 + (y + 1)) * 15) k ns nt → J58 (nI (y + 1)) (nI k) wl wo pl gl cg co ns nt) : ∃ n, wX_listTurns_124 post J30 J58 (nI a) (nI b) (nI c) (nI x) (nI y) (nI (ag_st a x + ag_st b y)) g n 0 (nI k0) wl wo pl gl cg co ns nt := by
  refine loop_0 (fun n i (s : Int32 × (Nat → Int32) × (Nat → Int32)) => wX_listTurns_124 post J30 J58 (nI a) (nI b) (nI c) (nI x) (nI y) (nI (ag_st a x + ag_st b y)) g n (nI i) s.1 wl wo pl gl cg co s.2.1 s.2.2) (fun i s => ∃ k, s.1 = nI k ∧ ag_Li (fun t => ag_gb go (a, b, c) (ag_dx t)) (fun t => ag_wt true (a, b, c) (ag_dx t)) ((x * 15 + y) * 15 + i) k s.2.1 s.2.2) 15 (nI k0, ns, nt) ⟨k0, rfl, h⟩ ?_ ?_
  · rintro n ⟨s1, s2, s3⟩ ⟨k, e, hL⟩
    dsimp only at e hL ⊢
    subst e
    refine br_t (nI_le (b := 15) (Nat.le_refl 15) (by decide)) (nm_r (nI_1 y) (p k s2 s3 ?_))
    rw [show (x * 15 + (y + 1)) * 15 = (x * 15 + y) * 15 + 15 by omega]
    exact hL
  · rintro n i ⟨s1, s2, s3⟩ hi ⟨k, e, hL⟩ ih
    dsimp only at e hL ⊢
    subst e
    have hd := ag_dx3 (x := x) hy hi
    have hskip : ag_gb go (a, b, c) (x, y, i) = false → wX_listTurns_124 post J30 J58 (nI a) (nI b) (nI c) (nI x) (nI y) (nI (ag_st a x + ag_st b y)) g n (nI (i + 1)) (nI k) wl wo pl gl cg co s2 s3 := fun hf =>
      ih (nI k, s2, s3) ⟨k, rfl, ag_Li_skip hL (by omega) (fun t h1 h2 => by
        have : t = (x * 15 + y) * 15 + i := by omega
        rw [this, hd]
        exact hf)⟩
    refine br_f (nI_ge (b := 15) hi (by decide)) ⟨by rw [ag_i15]; exact vp_in_nI (by omega) (by omega), ?_⟩
    have ec : cg (nI c * 15 + nI i).toNatClampNeg = ag_b1 (go c i) := by
      rw [ag_i15, nI_clamp (by omega), ag_Cg2 hc h3 hi]
    rw [ec]
    refine br_c (fun h4 => ?_) (fun h4 => ?_)
    · rw [ag_b10] at h4
      exact nm_r (nI_1 i) (hskip (by simp [ag_gb, h4]))
    · have g3 : go c i = true := by
        cases z : go c i
        · exact absurd (ag_b10.mpr z) h4
        · rfl
      refine ag_clX (by omega) (by omega) (by omega) (by omega) (fun h5 => ?_) (fun n2 => ?_)
      · exact br_f (by decide) (nm_r (nI_1 i) (hskip (by simp [ag_gb, h5])))
      · refine br_t rfl ?_
        refine ag_clX (by omega) (by omega) (by omega) (by omega) (fun h6 => ?_) (fun n3 => ?_)
        · exact br_f (by decide) (nm_r (nI_1 i) (hskip (by simp [ag_gb, h6])))
        · refine br_t rfl ?_
          have hE : ag_gb go (a, b, c) (x, y, i) = true := by simp [ag_gb, g1, g2, g3, n1, n2, n3]
          have hE2 : (fun t => ag_gb go (a, b, c) (ag_dx t)) ((x * 15 + y) * 15 + i) = true := by
            dsimp only
            rw [hd]
            exact hE
          have hk : k < 125 := by
            have h7 := ag_cn_lt (fun t => ag_gb go (a, b, c) (ag_dx t)) (show (x * 15 + y) * 15 + i < 3375 by omega) hE2
            have h8 := ag_c125 hg (a, b, c)
            have h9 := hL.1
            omega
          refine br_f (nI_ge (b := 125) hk (by decide)) ⟨vp_in_nI hk (by omega), ?_⟩
          have hP := ag_Li_put hL hE2
          rw [hd] at hP
          refine nm_r (e' := upd s2 k (nI ((x * 15 + y) * 15 + i))) (by rw [nI_clamp (by omega), ag_i225]) ?_
          have fin : ∀ z : Nat, z = ag_st c i → wX_listTurns_229 post J30 J58 (wX_listTurns_124 post J30 J58 (nI a) (nI b) (nI c) (nI x) (nI y) (nI (ag_st a x + ag_st b y)) g n) (nI a) (nI b) (nI c) (nI x) (nI y) (nI (ag_st a x + ag_st b y)) (nI i) (nI z) (nI (ag_st a x + ag_st b y)) (nI k) g (nI k) wl wo pl gl cg co (upd s2 k (nI ((x * 15 + y) * 15 + i))) s3 := by
            intro z ez
            unfold wX_listTurns_229
            refine ⟨vp_in_nI hk (by omega), nm_r (e' := upd s3 k (nI (ag_wt true (a, b, c) (x, y, i)))) ?_ (nm_r (nI_1 k) (nm_r (nI_1 i) (ih (nI (k + 1), upd s2 k (nI ((x * 15 + y) * 15 + i)), upd s3 k (nI (ag_wt true (a, b, c) (x, y, i)))) ⟨k + 1, rfl, hP⟩)))⟩
            rw [nI_clamp (by omega), nI_add, ez]
            rfl
          refine pk_eq c i (fun e => ?_) (fun ne => ?_)
          · exact fin 0 (by rw [e, ag_stR])
          · exact fin 1 (by rw [ag_stN ne])
theorem ag_lt58 {post : SX → Prop} {J30 : Int32 → Int32 → (Nat → Int32) → (Nat → Int32) → (Nat → Int32) → (Nat → Int32) → (Nat → Int32) → (Nat → Int32) → (Nat → Int32) → (Nat → Int32) → Prop} {w : Nat → Bool} {go : Nat → Nat → Bool} (hg : ag_Gd w go) (hc : ag_Cg go cg) {a b c x k0 : Nat} (ha : a < 15) (hb : b < 15) (h3 : c < 15) (hx : x < 15) (g1 : go a x = true) (h : ag_Li (fun t => ag_gb go (a, b, c) (ag_dx t)) (fun t => ag_wt true (a, b, c) (ag_dx t)) (x * 225) k0 ns nt)
    (p : ∀ k ns nt, ag_Li (fun t => ag_gb go (a, b, c) (ag_dx t)) (fun t => ag_wt true (a, b, c) (ag_dx t)) ((x + 1) * 225) k ns nt → J30 (nI (x + 1)) (nI k) wl wo pl gl cg co ns nt) : ∃ n, wX_listTurns_58 post J30 (nI a) (nI b) (nI c) (nI x) g n 0 (nI k0) wl wo pl gl cg co ns nt := by
  refine loop_0 (fun n i (s : Int32 × (Nat → Int32) × (Nat → Int32)) => wX_listTurns_58 post J30 (nI a) (nI b) (nI c) (nI x) g n (nI i) s.1 wl wo pl gl cg co s.2.1 s.2.2) (fun i s => ∃ k, s.1 = nI k ∧ ag_Li (fun t => ag_gb go (a, b, c) (ag_dx t)) (fun t => ag_wt true (a, b, c) (ag_dx t)) ((x * 15 + i) * 15) k s.2.1 s.2.2) 15 (nI k0, ns, nt) ⟨k0, rfl, by rw [show (x * 15 + 0) * 15 = x * 225 by omega]; exact h⟩ ?_ ?_
  · rintro n ⟨s1, s2, s3⟩ ⟨k, e, hL⟩
    dsimp only at e hL ⊢
    subst e
    refine br_t (nI_le (b := 15) (Nat.le_refl 15) (by decide)) (nm_r (nI_1 x) (p k s2 s3 ?_))
    rw [show (x + 1) * 225 = (x * 15 + 15) * 15 by omega]
    exact hL
  · rintro n i ⟨s1, s2, s3⟩ hi ⟨k, e, hL⟩ ih
    dsimp only at e hL ⊢
    subst e
    have hskip : (∀ z, ag_gb go (a, b, c) (x, i, z) = false) → wX_listTurns_58 post J30 (nI a) (nI b) (nI c) (nI x) g n (nI (i + 1)) (nI k) wl wo pl gl cg co s2 s3 := fun hf =>
      ih (nI k, s2, s3) ⟨k, rfl, ag_Li_skip hL (by omega) (fun t h1 h2 => by
        have : t = (x * 15 + i) * 15 + t % 15 := by omega
        rw [this, ag_dx3 hi (Nat.mod_lt _ (by omega))]
        exact hf _)⟩
    refine br_f (nI_ge (b := 15) hi (by decide)) ⟨by rw [ag_i15]; exact vp_in_nI (by omega) (by omega), ?_⟩
    have ec : cg (nI b * 15 + nI i).toNatClampNeg = ag_b1 (go b i) := by
      rw [ag_i15, nI_clamp (by omega), ag_Cg2 hc hb hi]
    rw [ec]
    refine br_c (fun h4 => ?_) (fun h4 => ?_)
    · rw [ag_b10] at h4
      exact nm_r (nI_1 i) (hskip (fun z => by simp [ag_gb, h4]))
    · have g2 : go b i = true := by
        cases z : go b i
        · exact absurd (ag_b10.mpr z) h4
        · rfl
      refine ag_clX (by omega) (by omega) (by omega) (by omega) (fun h5 => ?_) (fun n1 => ?_)
      · exact br_f (by decide) (nm_r (nI_1 i) (hskip (fun z => by simp [ag_gb, h5])))
      · refine br_t rfl ?_
        have fin : ∀ z : Nat, z = ag_st a x → wX_listTurns_107 post J30 (wX_listTurns_58 post J30 (nI a) (nI b) (nI c) (nI x) g n) (nI a) (nI b) (nI c) (nI x) (nI i) (nI z) g (nI k) wl wo pl gl cg co s2 s3 := by
          intro z ez
          unfold wX_listTurns_107
          have inner := ag_lt124 (post := post) (J30 := J30) (J58 := wX_listTurns_58 post J30 (nI a) (nI b) (nI c) (nI x) g n) (g := g) (wl := wl) (wo := wo) (pl := pl) (gl := gl) (co := co) hg hc ha hb h3 hx hi g1 g2 n1 hL (fun k ns nt h => ih (nI k, ns, nt) ⟨k, rfl, h⟩)
          refine pk_eq b i (fun e => ?_) (fun ne => ?_)
          · refine nm_r (e' := nI (ag_st a x + ag_st b i)) ?_ inner
            rw [e, ag_stR, ez]
            exact nI_add _ 0
          · refine nm_r (e' := nI (ag_st a x + ag_st b i)) ?_ inner
            rw [ag_stN ne, ez]
            exact nI_add _ 1
        refine pk_eq a x (fun e => ?_) (fun ne => ?_)
        · exact fin 0 (by rw [e, ag_stR])
        · exact fin 1 (by rw [ag_stN ne])
/-- what the list holds -/
def ag_Lt (go : Nat → Nat → Bool) (s k : Nat) (ns nt : Nat → Int32) : Prop := ag_Li (fun t => ag_gb go (ag_dx s) (ag_dx t)) (fun t => ag_wt true (ag_dx s) (ag_dx t)) 3375 k ns nt
theorem ag_turnsX {post : SX → Prop} {w : Nat → Bool} {go : Nat → Nat → Bool} (hg : ag_Gd w go) (hc : ag_Cg go cg) {s : Nat} (hs : s < 3375) (p : ∀ k ns nt, ag_Lt go s k ns nt → post (g, nI k, wl, wo, pl, gl, cg, co, ns, nt)) : wpX_listTurns post (g, nc, wl, wo, pl, gl, cg, co, ns, nt) (nI s) := by
  unfold wpX_listTurns
  dsimp only
  refine ag_spot0 (by omega) (ag_spot1 (by omega) (ag_spot2 (by omega) ?_))
  unfold ag_Lt ag_dx at p
  have ha : s / 225 < 15 := by omega
  have hb : s / 15 % 15 < 15 := by omega
  have h3 : s % 15 < 15 := by omega
  generalize s / 225 = a at p ha ⊢
  generalize s / 15 % 15 = b at p hb ⊢
  generalize s % 15 = c at p h3 ⊢
  refine loop_0 (fun n i (s : Int32 × (Nat → Int32) × (Nat → Int32)) => wX_listTurns_30 post (nI a) (nI b) (nI c) g n (nI i) s.1 wl wo pl gl cg co s.2.1 s.2.2) (fun i s => ∃ k, s.1 = nI k ∧ ag_Li (fun t => ag_gb go (a, b, c) (ag_dx t)) (fun t => ag_wt true (a, b, c) (ag_dx t)) (i * 225) k s.2.1 s.2.2) 15 (nI 0, ns, nt) ⟨0, rfl, rfl, fun t ht => absurd ht (by omega)⟩ ?_ ?_
  · rintro n ⟨s1, s2, s3⟩ ⟨k, e, hL⟩
    dsimp only at e hL ⊢
    subst e
    exact br_t (nI_le (b := 15) (Nat.le_refl 15) (by decide)) (p k s2 s3 hL)
  · rintro n i ⟨s1, s2, s3⟩ hi ⟨k, e, hL⟩ ih
    dsimp only at e hL ⊢
    subst e
    refine br_f (nI_ge (b := 15) hi (by decide)) ⟨by rw [ag_i15]; exact vp_in_nI (by omega) (by omega), ?_⟩
    have ec : cg (nI a * 15 + nI i).toNatClampNeg = ag_b1 (go a i) := by
      rw [ag_i15, nI_clamp (by omega), ag_Cg2 hc ha hi]
    rw [ec]
    refine br_c (fun h4 => ?_) (fun h4 => ?_)
    · rw [ag_b10] at h4
      refine nm_r (nI_1 i) (ih (nI k, s2, s3) ⟨k, rfl, ag_Li_skip hL (by omega) (fun t h1 h2 => ?_)⟩)
      have : t = (i * 15 + t / 15 % 15) * 15 + t % 15 := by omega
      rw [this, ag_dx3 (Nat.mod_lt _ (by omega)) (Nat.mod_lt _ (by omega))]
      simp [ag_gb, h4]
    · have g1 : go a i = true := by
        cases z : go a i
        · exact absurd (ag_b10.mpr z) h4
        · rfl
      exact ag_lt58 hg hc ha hb h3 hi g1 hL (fun k ns nt h => ih (nI k, ns, nt) ⟨k, rfl, h⟩)
