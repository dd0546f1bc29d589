/-! bits of Int32 by naturals; tables as functions -/
theorem s_l : ∀ n, n < 32 → ((nI n &&& 31).toBitVec.smod 32).toNat = n := by decide +kernel
theorem nx_and (a b : Nat) : nI a &&& nI b = nI (a &&& b) := by
  apply Int32.toBitVec_inj.1
  show BitVec.ofNat 32 a &&& BitVec.ofNat 32 b = BitVec.ofNat 32 (a &&& b)
  apply BitVec.eq_of_getLsbD_eq
  intro i hi
  simp [hi]
theorem ag_or (a b : Nat) : nI a ||| nI b = nI (a ||| b) := by
  apply Int32.toBitVec_inj.1
  show BitVec.ofNat 32 a ||| BitVec.ofNat 32 b = BitVec.ofNat 32 (a ||| b)
  apply BitVec.eq_of_getLsbD_eq
  intro i hi
  simp [hi]
theorem ag_sh {m k : Nat} (hm : m < 2 ^ 31) (hk : k < 32) : nI m >>> (nI k &&& 31) = nI (m / 2 ^ k) := pk_shrN hm _ k (s_l k hk)
theorem ag_tb {m k : Nat} (hm : m < 2 ^ 31) (hk : k < 32) : ((nI m >>> (nI k &&& 31)) &&& 1) = 1 ↔ m.testBit k = true := by
  have h2 : m / 2 ^ k ≤ m := Nat.div_le_self _ _
  rw [ag_sh hm hk, pk_andN (by omega) 1 (by decide), show (1 : Int32) = nI 1 from rfl, nI_eq (by omega) (by omega), Nat.testBit_eq_decide_div_mod_eq, decide_eq_true_eq]
theorem ag_one {a : Nat} (ha : a < 31) : (1 : Int32) <<< (nI a &&& 31) = nI (2 ^ a) := by
  have := pk_shlN (n := 1) (nI a &&& 31) a (s_l a (by omega)) (by rw [Nat.one_mul]; exact Nat.pow_lt_pow_right (by omega) (by omega))
  rw [Nat.one_mul] at this
  exact this
theorem ag_pw {a : Nat} (ha : a < 31) : 2 ^ a < 2 ^ 31 := Nat.pow_lt_pow_right (by omega) ha
theorem ag_or_lt {a b : Nat} (ha : a < 2 ^ 31) (hb : b < 2 ^ 31) : a ||| b < 2 ^ 31 := Nat.or_lt_two_pow ha hb
theorem ag_and0 {m a : Nat} (hm : m < 2 ^ 31) (ha : a < 31) : nI m &&& nI (2 ^ a) = 0 ↔ m.testBit a = false := by
  rw [nx_and, show (0 : Int32) = nI 0 from rfl, nI_eq (Nat.lt_of_le_of_lt Nat.and_le_left hm) (by omega)]
  constructor
  · intro h
    have := congrArg (fun n => n.testBit a) h
    simpa using this
  · intro h
    refine Nat.eq_of_testBit_eq (fun x => ?_)
    rw [Nat.testBit_and, Nat.testBit_two_pow, Nat.zero_testBit]
    by_cases e : a = x
    · rw [← e, h]; rfl
    · rw [decide_eq_false e, Bool.and_false]
/-- a table of booleans, a table of numbers -/
def ag_bi (w : Nat → Bool) : Nat → Int32 := fun c => if w c = true then 1 else 0
def ag_nf (o : Nat → Nat) : Nat → Int32 := fun c => nI (o c)
theorem ag_bi0 {w : Nat → Bool} {c : Nat} : ag_bi w c = 0 ↔ w c = false := by
  unfold ag_bi
  cases w c <;> simp
def ag_bu (w : Nat → Bool) (c : Nat) (b : Bool) : Nat → Bool := fun x => if x = c then b else w x
theorem ag_nb0 : vp_nar .boolean 0 = 0 := by decide
theorem ag_nb1 : vp_nar .boolean 1 = 1 := by decide
theorem ag_bi_u {w : Nat → Bool} {c : Nat} {b : Bool} : upd (ag_bi w) c (if b = true then 1 else 0) = ag_bi (ag_bu w c b) := by
  funext x
  unfold upd ag_bi ag_bu
  by_cases e : x = c
  · rw [if_pos e, if_pos e]
  · rw [if_neg e, if_neg e]
def ag_nu (o : Nat → Nat) (c : Nat) (b : Nat) : Nat → Nat := fun x => if x = c then b else o x
theorem ag_nf_u {o : Nat → Nat} {c b : Nat} : upd (ag_nf o) c (nI b) = ag_nf (ag_nu o c b) := by
  funext x
  unfold upd ag_nf ag_nu
  by_cases e : x = c
  · rw [if_pos e, if_pos e]
  · rw [if_neg e, if_neg e]
