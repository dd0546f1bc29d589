/-! distance -/
variable {g nc : Int32} {wl wo pl gl cg co ns nt : Nat → Int32} {sz : Int32} {iw is py gy wk st cs gd : Nat → Int32}
def ag_E1 (w : Nat → Bool) (o : Nat → Nat) (a b p : Nat) : Prop := ag_go w o a b = true ∧ p = 1
def ag_V1 (w : Nat → Bool) (a : Nat) : Prop := a < 12 ∧ w a = false
def ag_f1 (a : Nat) : Nat × Nat × Nat := (a, 13, 14)
theorem ag_V1E {w : Nat → Bool} {o : Nat → Nat} {a b p : Nat} (h : ag_V1 w a) (e : ag_E1 w o a b p) : ag_V1 w b := by
  by_cases y : a = b
  · rw [← y]; exact h
  · obtain ⟨_, h2, _, h4, _⟩ := (ag_Gd_go w o).2 a b e.1 y
    exact ⟨h2, h4⟩
theorem ag_f1V {w : Nat → Bool} {a : Nat} (h : ag_V1 w a) : ag_V w 1 (ag_f1 a) := by
  unfold ag_V1 at h
  refine ⟨⟨fun _ => h, fun e => absurd e (by decide)⟩, ⟨fun e => absurd e (by decide), fun _ => rfl⟩, ⟨fun e => absurd e (by decide), fun _ => rfl⟩, ?_, ?_, ?_⟩
  · show a ≠ 13
    omega
  · show a ≠ 14
    omega
  · show (13 : Nat) ≠ 14
    omega
theorem ag_sim1 {w : Nat → Bool} {o : Nat → Nat} {a : Nat} (ha : ag_V1 w a) (t : Nat × Nat × Nat) (c : Nat) : ag_Rc (ag_E (ag_go w o) false) (ag_f1 a) t c ↔ ∃ q, t = ag_f1 q ∧ ag_V1 w q ∧ ag_Rc (ag_E1 w o) a q c := by
  have hg := ag_Gd_go w o
  refine ag_sim ag_f1 (ag_E1 w o) (ag_E (ag_go w o) false) (ag_V1 w) (fun _ _ _ h e => ag_V1E h e) (fun q q' p h e => ?_) (fun q t p h e => ?_) ha t c
  · have h' := ag_V1E h e
    unfold ag_V1 at h h'
    refine ⟨e.1, hg.1 _, hg.1 _, ?_, ?_, ?_, e.2⟩
    · show ¬ (q' = 13 ∨ (q' = 13 ∧ 13 = q))
      omega
    · show ¬ (q' = 14 ∨ (q' = 14 ∧ 14 = q))
      omega
    · show ¬ ((13 : Nat) = 14 ∨ ((13 : Nat) = 14 ∧ (14 : Nat) = 13))
      omega
  · obtain ⟨a', b', c'⟩ := t
    obtain ⟨e1, e2, e3, _, _, _, e7⟩ := e
    have k2 : b' = 13 := ag_off hg (i := 1) e2
    have k3 : c' = 14 := ag_off hg (i := 2) e3
    subst k2
    subst k3
    exact ⟨a', rfl, e1, e7⟩
theorem ag_Ds1 {w : Nat → Bool} {o : Nat → Nat} {a b d : Nat} (ha : ag_V1 w a) (hb : ag_V1 w b) (h : ag_Ds (ag_E (ag_go w o) false) (ag_f1 a) (ag_f1 b) d) : ag_Ds (ag_E1 w o) a b d := by
  have k : ∀ c, ag_Rc (ag_E (ag_go w o) false) (ag_f1 a) (ag_f1 b) c ↔ ag_Rc (ag_E1 w o) a b c := fun c => by
    rw [ag_sim1 ha]
    constructor
    · rintro ⟨q, e, _, r⟩
      have : b = q := congrArg Prod.fst e
      rw [this]
      exact r
    · intro r
      exact ⟨b, rfl, hb, r⟩
  rcases h with ⟨h1, h2⟩ | ⟨h1, h2⟩
  · exact Or.inl ⟨h1, (k _).mp h2.1, fun c' h' => h2.2 c' ((k c').mpr h')⟩
  · exact Or.inr ⟨h1, fun c z => h2 c ((k c).mpr z)⟩
theorem ag_E1bd {w : Nat → Bool} {o : Nat → Nat} {a t c : Nat} (ha : ag_V1 w a) (h : ag_Ls (ag_E1 w o) a t c) : c < 12 :=
  ag_bd (E := ag_E1 w o) (ag_V1 w) ha (fun _ _ _ h e => ag_V1E h e) (fun _ _ e => absurd e.2 (by decide)) (fun _ _ p _ e => absurd e.2 (by omega)) 12 (fun a => a) (fun _ h => h.1) (fun _ _ _ _ e => e) h
theorem ag_Rc1_0 {w : Nat → Bool} {o : Nat → Nat} {a b : Nat} : ag_Rc (ag_E1 w o) a b 0 ↔ b = a := by
  constructor
  · intro h
    obtain ⟨n, h⟩ := h
    cases n with
    | zero => exact h.1
    | succ n =>
      obtain ⟨s, c0, p, _, e, h3⟩ := h
      have := e.2
      omega
  · rintro rfl
    exact ag_Rc0 _ _
theorem ag_Rc1_s {w : Nat → Bool} {o : Nat → Nat} {a b n : Nat} : ag_Rc (ag_E1 w o) a b (n + 1) ↔ ∃ s, ag_Rc (ag_E1 w o) a s n ∧ ag_go w o s b = true := by
  constructor
  · intro h
    obtain ⟨m, h⟩ := h
    cases m with
    | zero => have := h.2; omega
    | succ m =>
      obtain ⟨s, c0, p, h1, e, h3⟩ := h
      have := e.2
      have : c0 = n := by omega
      subst this
      exact ⟨s, ⟨m, h1⟩, e.1⟩
  · rintro ⟨s, h, e⟩
    exact ag_RcS h ⟨e, rfl⟩
theorem ag_alone (c : Nat) : ((((nI c * 15 + 12) + 1) * 15 + 12) + 2) = nI (ag_ex (ag_f1 c)) := by
  have : ag_ex (ag_f1 c) = ((c * 15 + 12) + 1) * 15 + 12 + 2 := by
    show (c * 15 + 13) * 15 + 14 = _
    omega
  rw [this, ← nI_add, ← nI_add, ← pk_mul, ← nI_add, ← nI_add, ← pk_mul]
  rfl
theorem ag_aloneX {post : Int32 → Prop} {u : SX} {c : Nat} (p : post (nI (ag_ex (ag_f1 c)))) : wpX_aloneOn post u (nI c) := by
  obtain ⟨g, nc, wl, wo, pl, gl, cg, co, ns, nt⟩ := u
  unfold wpX_aloneOn
  dsimp only
  rw [ag_alone]
  exact p
/-- the reference's rounds: a set of cells as bits -/
def ag_Sb (w : Nat → Bool) (o : Nat → Nat) (a n m : Nat) : Prop := m < 2 ^ 31 ∧ ∀ b, m.testBit b = true ↔ ag_Rc (ag_E1 w o) a b n
theorem ag_d72 {post : Int32 → SY → Prop} {J47 : Int32 → Int32 → Prop} {w : Nat → Bool} {o : Nat → Nat} {a n m : Nat} {x2 : Int32} (ha : ag_V1 w a) (hst : ag_St w o st) (hm : ag_Sb w o a n m) (p : ∀ m', ag_Sb w o a (n + 1) m' → J47 (nI m') (nI (n + 1))) : ∃ n72, wY_distance_72 post J47 x2 (nI m) (nI n) sz iw wo is py gy wk st cs gd n72 (nI m) 0 := by
  have hV : ∀ b, m.testBit b = true → ag_V1 w b := fun b hb => ag_RcV (ag_V1 w) ha (fun _ _ _ h e => ag_V1E h e) ((hm.2 b).mp hb)
  refine loop_0 (fun q i x => wY_distance_72 post J47 x2 (nI m) (nI n) sz iw wo is py gy wk st cs gd q x (nI i)) (fun i x => ∃ m', x = nI m' ∧ m' < 2 ^ 31 ∧ ∀ b, m'.testBit b = true ↔ (m.testBit b = true ∨ ∃ k, k < i ∧ m.testBit (k / 5) = true ∧ ag_tg w o (k / 5) (k % 5) = b ∧ b < 12)) 60 (nI m) ⟨m, rfl, hm.1, fun b => ⟨fun h => Or.inl h, fun h => ?_⟩⟩ ?_ ?_
  · rcases h with h | ⟨k, h, _⟩
    · exact h
    · omega
  · rintro q x ⟨m', rfl, h1, h2⟩
    refine br_t (nI_le (b := 60) (Nat.le_refl _) (by decide)) (nm_r (nI_1 n) (p m' ⟨h1, fun b => ?_⟩))
    rw [h2 b, ag_Rc1_s]
    constructor
    · rintro (h | ⟨k, hk, e1, e2, e3⟩)
      · exact ⟨b, (hm.2 b).mp h, (ag_Gd_go w o).1 b⟩
      · refine ⟨k / 5, (hm.2 _).mp e1, ?_⟩
        have := ag_tg_go (w := w) (o := o) (c := k / 5) (d := k % 5) (by omega) (by omega) (by omega)
        rw [e2] at this
        exact this
    · rintro ⟨s, hs, e⟩
      have hs' := (hm.2 s).mpr hs
      have vs := hV s hs'
      obtain ⟨d, hd, e1, e2⟩ := ag_go_tg vs.1 vs.2 e
      have := vs.1
      refine Or.inr ⟨5 * s + d, by omega, ?_, ?_, e2⟩
      · rw [show (5 * s + d) / 5 = s by omega]; exact hs'
      · rw [show (5 * s + d) / 5 = s by omega, show (5 * s + d) % 5 = d by omega]; exact e1
  · rintro q i x hi ⟨m', rfl, h1, h2⟩ ih
    refine br_f (nI_ge (b := 60) hi (by decide)) ⟨by decide, ?_⟩
    rw [show (5 : Int32) = nI 5 from rfl, pk_div (by omega) (by omega) (by omega)]
    have k1 := ag_tb (m := m) (k := i / 5) hm.1 (by omega)
    have skip : ¬ (m.testBit (i / 5) = true ∧ ag_tg w o (i / 5) (i % 5) < 12) → wY_distance_72 post J47 x2 (nI m) (nI n) sz iw wo is py gy wk st cs gd q (nI m') (nI (i + 1)) := fun hn => by
      refine ih _ ⟨m', rfl, h1, fun b => ?_⟩
      rw [h2 b]
      constructor
      · rintro (h | ⟨k, hk, e1, e2, e3⟩)
        · exact Or.inl h
        · exact Or.inr ⟨k, by omega, e1, e2, e3⟩
      · rintro (h | ⟨k, hk, e1, e2, e3⟩)
        · exact Or.inl h
        · by_cases y : k = i
          · rw [y] at e1 e2
            exact absurd ⟨e1, by omega⟩ hn
          · exact Or.inr ⟨k, by omega, e1, e2, e3⟩
    refine br_c (fun q1 => ?_) (fun q1 => ?_)
    · rw [k1] at q1
      refine ⟨vp_in_nI hi (by omega), ?_⟩
      rw [nI_clamp (n := i) (by omega), hst i hi]
      have hle := ag_tg_le (w := w) (o := o) (c := i / 5) (d := i % 5) (by omega)
      refine br_c (fun q2 => ?_) (fun q2 => ?_)
      · rw [ag_iI0 hle] at q2
        exact nm_r (nI_1 i) (skip (fun z => by omega))
      · rw [ag_iI0 hle] at q2
        rw [ag_iIn q2]
        refine ⟨vp_in_nI hi (by omega), nm_r (e' := nI (m' ||| 2 ^ ag_tg w o (i / 5) (i % 5))) (by rw [ag_one (by omega), ag_or]) (nm_r (nI_1 i) (ih _ ⟨_, rfl, ag_or_lt h1 (ag_pw (by omega)), fun b => ?_⟩))⟩
        rw [Nat.testBit_or, Nat.testBit_two_pow, Bool.or_eq_true, h2 b, decide_eq_true_eq]
        constructor
        · rintro ((h | ⟨k, hk, e1, e2, e3⟩) | e)
          · exact Or.inl h
          · exact Or.inr ⟨k, by omega, e1, e2, e3⟩
          · exact Or.inr ⟨i, by omega, q1, e, by omega⟩
        · rintro (h | ⟨k, hk, e1, e2, e3⟩)
          · exact Or.inl (Or.inl h)
          · by_cases y : k = i
            · rw [y] at e2
              exact Or.inr e2
            · exact Or.inl (Or.inr ⟨k, by omega, e1, e2, e3⟩)
    · rw [k1] at q1
      exact nm_r (nI_1 i) (skip (fun z => q1 z.1))
theorem i_vc_distance {k : Nat} {u : SX} {v : SY} (I : i_Rel k u v) (hk : k + 4 ≤ 2048) (v1 : Int32) (v2 : Int32) : wpX_distance (fun r u' => wpY_distance (fun r' v' => r' = r ∧ i_Rel (k + 4) u' v') v v1 v2) u v1 v2 := by
  obtain ⟨w, o, z, P, G, g, nc, pl, gl, cg, co, ns, nt, sz, is, py, gy, wk, st, cs, gd, rfl, rfl, ho, hW⟩ := I
  unfold wpX_distance
  dsimp only
  by_cases h1 : ∃ c, c < 12 ∧ v1 = nI c
  · obtain ⟨a, ha, rfl⟩ := h1
    refine ag_cx1 ha (br_f (by decide) ?_)
    by_cases h2 : ∃ c, c < 12 ∧ v2 = nI c
    · obtain ⟨b, hb, rfl⟩ := h2
      refine ag_cx1 hb (br_f (by decide) ⟨vp_in_nI ha (by omega), ?_⟩)
      rw [nI_clamp (n := a) (by omega), nI_clamp (n := b) (by omega)]
      refine br_c (fun q1 => ⟨vp_in_nI hb (by omega), br_c (fun q2 => ?_) (fun q2 => ?_)⟩) (fun q1 => ?_)
      · have q1' := ag_bi0.mp q1
        have q2' := ag_bi0.mp q2
        have va : ag_V1 w a := ⟨ha, q1'⟩
        have vb : ag_V1 w b := ⟨hb, q2'⟩
        refine ag_drawX (S := fun _ => false) ho ag_sh_m1 (fun cg' hc => ?_)
        rw [ag_or_f] at hc
        dsimp only
        refine ag_aloneX ?_
        refine ag_fromX (f := false) (T := 1) (ag_Gd_go w o) hc (ag_f1V va) (fun g' nc' co' ns' nt' D r h => ?_)
        dsimp only
        refine ag_aloneX ?_
        refine ag_ansX r (ag_exV (ag_f1V vb)).1 ?_
        have hD := ag_Ds1 va vb (ag_DX (ag_Gd_go w o) (ag_f1V va) h (ag_f1V vb))
        generalize D (ag_ex (ag_f1 b)) = d at hD ⊢
        unfold wpY_distance
        dsimp only
        refine ag_cy1 ha (br_f (by decide) (ag_cy1 hb (br_f (by decide) ⟨vp_in_nI ha (by omega), ?_⟩)))
        rw [nI_clamp (n := a) (by omega), nI_clamp (n := b) (by omega)]
        refine br_t q1 ⟨vp_in_nI hb (by omega), br_t q2 (ag_findY ho (fun st' hst => ?_))⟩
        dsimp only
        refine nm_r (ag_one (by omega)) ?_
        refine loop_0 (fun n i x => wY_distance_47 _ (nI b) sz (ag_bi w) (ag_nf o) is py gy wk st' cs gd n x (nI i)) (fun i x => ∃ m, x = nI m ∧ ag_Sb w o a i m ∧ ∀ c, c < i → ¬ ag_Rc (ag_E1 w o) a b c) 12 (nI (2 ^ a)) ⟨_, rfl, ⟨ag_pw (by omega), fun b => ?_⟩, fun c hc => absurd hc (by omega)⟩ ?_ ?_
        · rw [Nat.testBit_two_pow, decide_eq_true_eq, ag_Rc1_0]
          exact ⟨fun e => e.symm, fun e => e.symm⟩
        · rintro n x ⟨m, rfl, m1, m2⟩
          refine br_t (nI_le (b := 12) (Nat.le_refl _) (by decide)) ⟨?_, ag_rel ho hW⟩
          rcases hD with ⟨d1, d2⟩ | ⟨d1, _⟩
          · exact absurd d2.1 (m2 d (ag_E1bd va d2))
          · rw [d1]; rfl
        · rintro n i x hi ⟨m, rfl, m1, m2⟩ ih
          refine br_f (nI_ge (b := 12) hi (by decide)) ?_
          have k1 := ag_tb (m := m) (k := b) m1.1 (by omega)
          refine br_c (fun q => ?_) (fun q => ?_)
          · rw [k1, m1.2 b] at q
            refine ⟨?_, ag_rel ho hW⟩
            rcases hD with ⟨d1, d2⟩ | ⟨_, d2⟩
            · have e1 := d2.2 i q
              have e2 : ¬ d < i := fun z => m2 d z d2.1
              have : d = i := by omega
              rw [this]
              unfold ag_ans
              rw [if_neg (by omega)]
            · exact absurd q (d2 i)
          · rw [k1, m1.2 b] at q
            refine ag_d72 va hst m1 (fun m' hm' => ih _ ⟨m', rfl, hm', fun c hc => ?_⟩)
            by_cases y : c = i
            · rw [y]; exact q
            · exact m2 c (by omega)
      · unfold wpY_distance
        dsimp only
        refine ag_cy1 ha (br_f (by decide) (ag_cy1 hb (br_f (by decide) ⟨vp_in_nI ha (by omega), ?_⟩)))
        rw [nI_clamp (n := a) (by omega), nI_clamp (n := b) (by omega)]
        exact br_t q1 ⟨vp_in_nI hb (by omega), br_f q2 ⟨rfl, ag_rel ho hW⟩⟩
      · unfold wpY_distance
        dsimp only
        refine ag_cy1 ha (br_f (by decide) (ag_cy1 hb (br_f (by decide) ⟨vp_in_nI ha (by omega), ?_⟩)))
        rw [nI_clamp (n := a) (by omega)]
        exact br_f q1 ⟨rfl, ag_rel ho hW⟩
    · have h' : ∀ c, c < 12 → v2 ≠ nI c := fun c hc e => h2 ⟨c, hc, e⟩
      refine ag_cx0 h' (br_t rfl ?_)
      unfold wpY_distance
      dsimp only
      exact ag_cy1 ha (br_f (by decide) (ag_cy0 h' (br_t rfl ⟨rfl, ag_rel ho hW⟩)))
  · have h' : ∀ c, c < 12 → v1 ≠ nI c := fun c hc e => h1 ⟨c, hc, e⟩
    refine ag_cx0 h' (br_t rfl ?_)
    unfold wpY_distance
    dsimp only
    exact ag_cy0 h' (br_t rfl ⟨rfl, ag_rel ho hW⟩)
