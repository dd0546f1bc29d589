/-! cellAt -/
variable {g nc : Int32} {wl wo pl gl cg co ns nt : Nat → Int32} {sz : Int32} {iw is py gy wk st cs gd : Nat → Int32}
/-- distances as least costs, on both sides -/
theorem ag_dsl {E : Nat × Nat × Nat → Nat × Nat × Nat → Nat → Prop} {a q : Nat × Nat × Nat} {x : Nat} (h : ag_Ds E a q x) {d : Nat} (hd : d < 10126) : x = d ↔ ag_Ls E a q d := by
  rcases h with ⟨h1, h2⟩ | ⟨h1, h2⟩
  · exact ⟨fun e => by rw [← e]; exact h2, fun e => ag_LsU h2 e⟩
  · exact ⟨fun e => by omega, fun e => absurd e.1 (h2 _)⟩
theorem ag_c114 {post : Int32 → SY → Prop} {w : Nat → Bool} {T i : Nat} {q : Nat × Nat × Nat} (h1 : 1 ≤ T) (h7 : T ≤ 7) (hw : ag_Wl T wk) (hq : ag_V w T q) (hi : i < 3) (hb : T.testBit i = true) (p : post (nI (ag_co q i)) (nI (ag_sz T), iw, wo, is, py, gy, wk, st, cs, gd)) : ∃ n, wY_cellAt_114 post (nI i) (nI (ag_ey T q)) (nI (ag_sz T)) iw wo is py gy wk st cs gd n 0 0 := by
  have hn := (ag_sz3 T h1 h7).2
  have hs := ag_eyV T h1 h7 q hq
  refine loop_0 (fun n k x => wY_cellAt_114 post (nI i) (nI (ag_ey T q)) (nI (ag_sz T)) iw wo is py gy wk st cs gd n x (nI k)) (fun k x => ∀ m, m < k → wk m = nI i → x = nI (ag_co q i)) (ag_sz T) 0 (fun m h => absurd h (by omega)) ?_ ?_
  · intro n x h
    have e := h (ag_cn (fun j => T.testBit j) i) (by rw [← ag_sz_cn T h1 h7]; exact ag_cn_lt (fun j => T.testBit j) hi hb) (hw i hi hb)
    rw [e]
    exact br_t (nI_le (Nat.le_refl _) (by omega)) p
  · intro n k x hk h ih
    obtain ⟨j, hj, e1, _, e2⟩ := ag_wT T h1 h7 hw k hk
    refine br_f (nI_ge hk (by omega)) ⟨vp_in_nI (show k < 3 by omega) (by omega), ?_⟩
    rw [nI_clamp (n := k) (by omega), e1]
    refine pk_eq j i (fun y => ?_) (fun y => ?_)
    · refine ag_cellY hs (by omega) (nm_r (nI_1 k) (ih _ (fun m _ _ => ?_)))
      rw [ag_dg_ey h1 h7 hq (by omega), e2 q, y]
    · refine nm_r (nI_1 k) (ih x (fun m hm e => ?_))
      by_cases z : m = k
      · rw [z, e1, nI_eq (by omega) (by omega)] at e
        exact absurd e y
      · exact h m (by omega) e
/-- the reference's way of t turns -/
theorem ag_c74 {post : Int32 → SY → Prop} {w : Nat → Bool} {o : Nat → Nat} {T L t i : Nat} {a e : Nat × Nat × Nat} {D : Nat → Nat} (h1 : 1 ≤ T) (h7 : T ≤ 7) (hw : ag_Wl T wk) (hst : ag_St w o st) (hr : ag_Ry cs D) (ha : ag_V w T a) (hD : ∀ q d, ag_V w T q → d < 10126 → (D (ag_ey T q) = d ↔ ag_Ls (ag_E (ag_go w o) false) a q d)) (hL : ag_Ls (ag_E (ag_go w o) false) a e L) (hL2 : L < 1728) (ht : t ≤ L) (hi : i < 3) (hb : T.testBit i = true)
    (hgd : ∀ q j, ag_V w T q → j ≤ L → D (ag_ey T q) = j → (gd (ag_ey T q) ≠ 0 ↔ ag_Rc (ag_E (ag_go w o) false) q e (L - j)))
    (p : ∀ q, ag_Wk (ag_E (ag_go w o) false) a e L t q → post (nI (ag_co q i)) (nI (ag_sz T), iw, wo, is, py, gy, wk, st, cs, gd)) : ∃ n, wY_cellAt_74 post (nI i) (nI t) (nI (ag_sz T)) iw wo is py gy wk st cs gd n (nI (ag_ey T a)) 0 := by
  have hg := ag_Gd_go w o
  refine loop_0 (fun n k x => wY_cellAt_74 post (nI i) (nI t) (nI (ag_sz T)) iw wo is py gy wk st cs gd n x (nI k)) (fun k x => ∃ q, x = nI (ag_ey T q) ∧ ag_Wk (ag_E (ag_go w o) false) a e L k q) t (nI (ag_ey T a)) ⟨a, rfl, rfl⟩ ?_ ?_
  · rintro n x ⟨q, rfl, hk⟩
    exact br_t (nI_le (Nat.le_refl t) (by omega)) (ag_c114 h1 h7 hw (ag_WkV hg ha t q hk) hi hb (p q hk))
  · rintro n k x hk ⟨q, rfl, hwk⟩ ih
    have vq := ag_WkV hg ha k q hwk
    obtain ⟨d1, d2⟩ := ag_WkL hL k q (by omega) hwk
    have dq := (hD q k vq (by omega)).mpr d1
    have cnd : ∀ q', ag_Cn w o T D gd k q q' ↔ ag_Cd (ag_E (ag_go w o) false) e (L - k - 1) q q' := fun q' => by
      constructor
      · rintro ⟨c1, c2, c3⟩
        have v' := ag_V_E hg vq c1
        have l' := (hD q' _ v' (by omega)).mp c2
        exact ⟨c1, (ag_gd hL (by omega) d1 d2 c1).mp ⟨l', (hgd q' (k + 1) v' (by omega) c2).mp c3⟩⟩
      · rintro ⟨c1, c2⟩
        have v' := ag_V_E hg vq c1
        obtain ⟨l', r'⟩ := (ag_gd hL (by omega) d1 d2 c1).mpr c2
        have d' := (hD q' _ v' (by omega)).mpr l'
        exact ⟨c1, d', (hgd q' (k + 1) v' (by omega) d').mpr r'⟩
    refine br_f (nI_ge hk (by omega)) (ag_nextY h1 h7 hst hr vq dq (by omega) (fun hn => ?_) (fun q' hc hmin => ?_))
    · rw [show L - k = (L - k - 1) + 1 by omega] at d2
      obtain ⟨b, hb'⟩ := ag_nx d2
      exact absurd ((cnd b).mpr hb') (hn b)
    · have v' := ag_V_E hg vq hc.1
      have := ag_eyV T h1 h7 q' v'
      refine br_t (nI_pos' (by omega)) (nm_r (nI_1 k) (ih _ ⟨q', rfl, q, hwk, (cnd q').mp hc, fun r hr' => ?_⟩))
      exact (ag_ey_ord T h1 h7 q' r v' (ag_V_E hg vq hr'.1)).mpr (hmin r ((cnd r).mpr hr'))
theorem i_vc_cellAt {k : Nat} {u : SX} {v : SY} (I : i_Rel k u v) (hk : k + 4 ≤ 2048) (v1 : Int32) (v2 : Int32) (v3 : Int32) : wpX_cellAt (fun r u' => wpY_cellAt (fun r' v' => r' = r ∧ i_Rel (k + 4) u' v') v v1 v2 v3) u v1 v2 v3 := by
  obtain ⟨w, o, z, P, G, g, nc, pl, gl, cg, co, ns, nt, sz, is, py, gy, wk, st, cs, gd, rfl, rfl, ho, hW⟩ := I
  unfold wpX_cellAt
  dsimp only
  refine ag_rdX hW (fun T eT hR => ?_) (fun hN => ?_)
  · subst eT
    obtain ⟨hT1, hT7⟩ := hR.1
    obtain ⟨p1, p2, p3, p4, hV, hE⟩ := ag_rdp hW hR
    have hg := ag_Gd_go w o
    have ha := (ag_exV hV).1
    refine br_f (by decide) (ag_drawX (S := fun _ => false) ho ag_sh_m1 (fun cg1 hc1 => ?_))
    rw [ag_or_f] at hc1
    dsimp only
    refine ag_backX hc1 (fun cg2 hc2 => ?_)
    dsimp only
    refine ag_of_goals hT7 p2 (ag_fromX (f := false) (T := T) (ag_Gd_gr hg) hc2 hE (fun g3 nc3 co3 ns3 nt3 D r h => ?_))
    dsimp only
    refine ag_of_places hT7 p1 ⟨vp_in_nI ha (by omega), nm_r (e' := nI (D (ag_ex (ag_tr T P)))) (by rw [nI_clamp (by omega), (r _ ha).1]) ?_⟩
    have hD : ∀ q d, ag_V w T q → d < 10126 → (D (ag_ex q) = d ↔ ag_Ls (ag_E (ag_go w o) false) q (ag_tr T G) d) := fun q d vq hd => by
      rw [ag_dsl (ag_DX (ag_Gd_gr hg) hE h vq) hd]
      exact ag_Ls_rev hg vq hE
    have hnone : D (ag_ex (ag_tr T P)) = 10126 → ∀ c, ¬ ag_Rc (ag_E (ag_go w o) false) (ag_tr T P) (ag_tr T G) c := fun e c hc => by
      obtain ⟨c0, _, hc0⟩ := ag_RcL hc
      have b := ag_E_bd hg hV hc0
      have := (hD _ c0 hV (by omega)).mpr hc0
      omega
    have hDle := (r _ ha).2
    generalize hd : D (ag_ex (ag_tr T P)) = L at hnone hDle ⊢
    -- the reference up to the length
    have yy : ∀ post : Int32 → SY → Prop, (∀ wk' st' cs' D', ag_Wl T wk' → ag_St w o st' → ag_Ry cs' D' → ag_Sl 1728 10126 (ag_GY w o (ag_sz T) false) (ag_ey T (ag_tr T P)) D' → D' (ag_ey T (ag_tr T G)) = L → post (ag_ans L) (nI (ag_sz T), ag_bi w, ag_nf o, is, py, gy, wk', st', cs', gd)) → wpY_leastTurns post (sz, ag_bi w, ag_nf o, is, py, gy, wk, st, cs, gd) (nI T) := fun post q => by
      refine ag_ltY ho hT1 hT7 p3 p4 hV hE (fun wk' st' cs' D' hw hs r' h' => ?_)
      have hY := ag_DY hT1 hT7 hV h' hE
      have eL : D' (ag_ey T (ag_tr T G)) = L := by
        by_cases y : L = 10126
        · rcases hY with ⟨_, y2⟩ | ⟨y1, _⟩
          · exact absurd y2.1 (hnone y _)
          · omega
        · exact (ag_dsl hY (by omega)).mpr ((hD _ L hV (by omega)).mp hd)
      have := q wk' st' cs' D' hw hs r' h' eL
      rw [eL]
      exact this
    refine pk_eq L 10126 (fun e => ?_) (fun ne => ?_)
    · unfold wpY_cellAt
      dsimp only
      refine ag_rdY hW (fun _ _ _ => ?_) (fun hN => absurd hR (hN T rfl))
      refine br_f (by decide) (yy _ (fun wk' st' cs' D' hw hs r' h' eL => ?_))
      dsimp only
      rw [e]
      exact br_f (by decide) ⟨rfl, ag_rel ho hW⟩
    · have hL := (hD _ L hV (by omega)).mp hd
      have hL2 := ag_E_bd hg hV hL
      have ea : ag_ans L = nI L := if_neg ne
      by_cases hw3 : ∃ i, i < 3 ∧ v2 = nI i
      · obtain ⟨i, hi, rfl⟩ := hw3
        have n0 : ¬ nI i < 0 := nI_pos (by omega)
        have n2 : ¬ (2 : Int32) < nI i := nI_nlt (a := 2) (by omega) (by omega)
        refine ag_kx1 hi (br_f (by decide) (ag_inX (by omega) hi (fun hb => br_f (by decide) ?_) (fun hb => br_t rfl ?_)))
        · by_cases h0 : v3 < 0
          · refine br_t h0 ?_
            unfold wpY_cellAt
            dsimp only
            refine ag_rdY hW (fun _ _ _ => ?_) (fun hN => absurd hR (hN T rfl))
            refine br_f (by decide) (yy _ (fun wk' st' cs' D' hw hs r' h' eL => ?_))
            dsimp only
            rw [ea]
            exact br_t (nI_pos' (by omega)) (br_f n0 (br_f n2 (ag_inY (by omega) hi (fun _ => br_f (by decide) (br_t h0 ⟨rfl, ag_rel ho hW⟩)) (fun hb' => by rw [hb] at hb'; exact absurd hb'.symm Bool.false_ne_true))))
          · refine br_f h0 ?_
            obtain ⟨t, ht, rfl⟩ := nI_of h0
            refine pk_le t L (fun htL => ?_) (fun htL => ?_)
            · refine ag_drawX (S := fun _ => false) ho ag_sh_m1 (fun cg4 hc4 => ?_)
              rw [ag_or_f] at hc4
              dsimp only
              refine ag_afterX hg hc4 r hD hV hL hL2 htL (fun q nc5 ns5 nt5 hWk => ?_)
              dsimp only
              have vq := ag_WkV hg hV t q hWk
              refine ag_spotX (ag_exV vq).1 hi ?_
              rw [(ag_exV vq).2]
              unfold wpY_cellAt
              dsimp only
              refine ag_rdY hW (fun _ _ _ => ?_) (fun hN => absurd hR (hN T rfl))
              refine br_f (by decide) (yy _ (fun wk' st' cs' D' hw hs r' h' eL => ?_))
              dsimp only
              rw [ea]
              have hD' : ∀ q d, ag_V w T q → d < 10126 → (D' (ag_ey T q) = d ↔ ag_Ls (ag_E (ag_go w o) false) (ag_tr T P) q d) := fun q d vq hd => ag_dsl (ag_DY hT1 hT7 hV h' vq) hd
              refine br_t (nI_pos' (by omega)) (br_f n0 (br_f n2 (ag_inY (by omega) hi (fun _ => br_f (by decide) (br_f h0 ?_)) (fun hb' => by rw [hb] at hb'; exact absurd hb'.symm Bool.false_ne_true))))
              refine br_t (nI_le htL (by omega)) (ag_markY hT1 hT7 hw p4 hs r' hV h' hD' hE hL hL2 (fun gd' hgd => ?_))
              dsimp only
              refine ag_startT hT1 hT7 hw p3 ?_
              refine ag_c74 hT1 hT7 hw hs r' hV hD' hL hL2 htL hi hb hgd (fun q' hWk' => ?_)
              have := ag_WkU hg hV t q q' hWk hWk'
              subst this
              exact ⟨rfl, ag_rel ho hW⟩
            · unfold wpY_cellAt
              dsimp only
              refine ag_rdY hW (fun _ _ _ => ?_) (fun hN => absurd hR (hN T rfl))
              refine br_f (by decide) (yy _ (fun wk' st' cs' D' hw hs r' h' eL => ?_))
              dsimp only
              rw [ea]
              exact br_t (nI_pos' (by omega)) (br_f n0 (br_f n2 (ag_inY (by omega) hi (fun _ => br_f (by decide) (br_f h0 (br_f (nI_ge htL (by omega)) ⟨rfl, ag_rel ho hW⟩))) (fun hb' => by rw [hb] at hb'; exact absurd hb'.symm Bool.false_ne_true))))
        · unfold wpY_cellAt
          dsimp only
          refine ag_rdY hW (fun _ _ _ => ?_) (fun hN => absurd hR (hN T rfl))
          refine br_f (by decide) (yy _ (fun wk' st' cs' D' hw hs r' h' eL => ?_))
          dsimp only
          rw [ea]
          exact br_t (nI_pos' (by omega)) (br_f n0 (br_f n2 (ag_inY (by omega) hi (fun hb' => by rw [hb] at hb'; exact absurd hb' Bool.false_ne_true) (fun _ => br_t rfl ⟨rfl, ag_rel ho hW⟩))))
      · have hw3' : ∀ c, c < 3 → v2 ≠ nI c := fun c hc e => hw3 ⟨c, hc, e⟩
        refine ag_kx0 hw3' (br_t rfl ?_)
        unfold wpY_cellAt
        dsimp only
        refine ag_rdY hW (fun _ _ _ => ?_) (fun hN => absurd hR (hN T rfl))
        refine br_f (by decide) (yy _ (fun wk' st' cs' D' hw hs r' h' eL => ?_))
        dsimp only
        rw [ea]
        refine br_t (nI_pos' (by omega)) ?_
        by_cases h0 : v2 < 0
        · exact br_t h0 ⟨rfl, ag_rel ho hW⟩
        · obtain ⟨j, hj, rfl⟩ := nI_of h0
          have : ¬ j < 3 := fun q => hw3' j q rfl
          exact br_f h0 (br_t (nI_lt (a := 2) (by omega) hj) ⟨rfl, ag_rel ho hW⟩)
  · refine br_t rfl ?_
    unfold wpY_cellAt
    dsimp only
    exact ag_rdY hW (fun T e hR => absurd hR (hN T e)) (fun _ => br_t rfl ⟨rfl, ag_rel ho hW⟩)
