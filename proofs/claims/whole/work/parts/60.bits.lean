/-! Sets of points as numbers below 512. -/
def z_bi (b : Bool) : Int32 := if b then 1 else 0
theorem z_bi_0 (b : Bool) : z_bi b = 0 ↔ b = false := by cases b <;> simp [z_bi]
theorem z_bi_1 (b : Bool) : z_bi b = 1 ↔ b = true := by cases b <;> simp [z_bi]
theorem z_bi_01 (b : Bool) : z_bi b = 0 ∨ z_bi b = 1 := by cases b <;> simp [z_bi]
def z_mk (p : Nat → Bool) : Nat → Nat
  | 0 => 0
  | n + 1 => z_mk p n ||| (if p n then 2 ^ n else 0)
theorem z_mk_bit (p : Nat → Bool) : ∀ (n k : Nat), (z_mk p n).testBit k = (decide (k < n) && p k)
  | 0, k => by simp [z_mk]
  | n + 1, k => by
    rw [z_mk, Nat.testBit_or, z_mk_bit p n k]
    by_cases h : k = n
    · subst h
      cases hp : p k <;> simp [hp]
    · by_cases hp : p n
      · have : n ≠ k := Ne.symm h
        simp [hp, Nat.testBit_two_pow, this]
        by_cases h2 : k < n
        · simp [h2, Nat.lt_succ_of_lt h2]
        · have h3 : ¬ k < n + 1 := by omega
          simp [h2, h3]
      · simp [hp]
        by_cases h2 : k < n
        · simp [h2, Nat.lt_succ_of_lt h2]
        · have h3 : ¬ k < n + 1 := by omega
          simp [h2, h3]
theorem z_mk_lt (p : Nat → Bool) (n : Nat) : z_mk p n < 2 ^ n := by
  apply Nat.lt_pow_two_of_testBit
  intro i hi
  rw [z_mk_bit]
  simp [Nat.not_lt.mpr hi]
theorem z_ext {a b : Nat} (ha : a < 512) (hb : b < 512) (h : ∀ k, k < 9 → a.testBit k = b.testBit k) : a = b := by
  apply Nat.eq_of_testBit_eq
  intro i
  by_cases hi : i < 9
  · exact h i hi
  · have h1 : a < 2 ^ i := Nat.lt_of_lt_of_le ha (Nat.pow_le_pow_right (n := 2) (i := 9) (by decide) (Nat.le_of_not_lt hi))
    have h2 : b < 2 ^ i := Nat.lt_of_lt_of_le hb (Nat.pow_le_pow_right (n := 2) (i := 9) (by decide) (Nat.le_of_not_lt hi))
    rw [Nat.testBit_lt_two_pow h1, Nat.testBit_lt_two_pow h2]
theorem z_hi {a : Nat} (ha : a < 512) {k : Nat} (hk : 9 ≤ k) : a.testBit k = false := Nat.testBit_lt_two_pow (Nat.lt_of_lt_of_le ha (Nat.pow_le_pow_right (n := 2) (by decide) hk))
theorem z_and (a b : Nat) : nI a &&& nI b = nI (a &&& b) := by
  apply Int32.toBitVec_inj.1
  show BitVec.ofNat 32 a &&& BitVec.ofNat 32 b = BitVec.ofNat 32 (a &&& b)
  apply BitVec.eq_of_getLsbD_eq
  intro i hi
  simp [hi]
theorem z_or (a b : Nat) : nI a ||| nI b = nI (a ||| b) := by
  apply Int32.toBitVec_inj.1
  show BitVec.ofNat 32 a ||| BitVec.ofNat 32 b = BitVec.ofNat 32 (a ||| b)
  apply BitVec.eq_of_getLsbD_eq
  intro i hi
  simp [hi]
theorem z_xor (a b : Nat) : nI a ^^^ nI b = nI (a ^^^ b) := by
  apply Int32.toBitVec_inj.1
  show BitVec.ofNat 32 a ^^^ BitVec.ofNat 32 b = BitVec.ofNat 32 (a ^^^ b)
  apply BitVec.eq_of_getLsbD_eq
  intro i hi
  simp [hi]
/-- what is in a and not in b -/
def z_df (a b : Nat) : Nat := a &&& (a ^^^ b)
theorem z_df_bit (a b k : Nat) : (z_df a b).testBit k = (a.testBit k && !b.testBit k) := by
  simp only [z_df, Nat.testBit_and, Nat.testBit_xor]
  cases a.testBit k <;> cases b.testBit k <;> rfl
theorem z_df_lt {a b : Nat} (ha : a < 512) : z_df a b < 512 := Nat.lt_of_le_of_lt Nat.and_le_left ha
theorem z_andc (a b : Nat) : nI a &&& (nI b ^^^ (-1)) = nI (z_df a b) := by
  apply Int32.toBitVec_inj.1
  show BitVec.ofNat 32 a &&& (BitVec.ofNat 32 b ^^^ BitVec.ofInt 32 (-1)) = BitVec.ofNat 32 (z_df a b)
  apply BitVec.eq_of_getLsbD_eq
  intro i hi
  have h1 : (BitVec.ofInt 32 (-1)).getLsbD i = true := (by decide +kernel : ∀ i, i < 32 → (BitVec.ofInt 32 (-1)).getLsbD i = true) i hi
  simp only [BitVec.getLsbD_and, BitVec.getLsbD_xor, h1, BitVec.getLsbD_ofNat, hi, decide_true, Bool.true_and, z_df_bit]
  cases a.testBit i <;> cases b.testBit i <;> rfl
theorem z_sh_amt : ∀ k, k < 9 → ((1 : Int32) <<< (nI k &&& 31)) = nI (2 ^ k) := by
  intro k hk
  match k, hk with
  | 0, _ => decide
  | 1, _ => decide
  | 2, _ => decide
  | 3, _ => decide
  | 4, _ => decide
  | 5, _ => decide
  | 6, _ => decide
  | 7, _ => decide
  | 8, _ => decide
theorem z_shr_bit {a k : Nat} (ha : a < 2 ^ 31) (hk : k < 9) : (nI a >>> (nI k &&& 31)) &&& 1 = z_bi (a.testBit k) := by
  have hs : ((nI k &&& 31).toBitVec.smod 32).toNat = k := by
    match k, hk with
    | 0, _ => decide
    | 1, _ => decide
    | 2, _ => decide
    | 3, _ => decide
    | 4, _ => decide
    | 5, _ => decide
    | 6, _ => decide
    | 7, _ => decide
    | 8, _ => decide
  rw [pk_shrN ha _ k hs, show (1 : Int32) = nI 1 from rfl, z_and]
  have e : a / 2 ^ k &&& 1 = (a.testBit k).toNat := by
    rw [Nat.and_one_is_mod, Nat.testBit_eq_decide_div_mod_eq]
    rcases Nat.mod_two_eq_zero_or_one (a / 2 ^ k) with h | h <;> simp [h]
  rw [e]
  cases a.testBit k <;> rfl
theorem z_ix (x : Int32) : x < 0 ∨ 9 ≤ x ∨ ∃ k, k < 9 ∧ x = nI k := pk_ix x (n := 9) (by decide)
theorem z_nI_inj {a b : Nat} (ha : a < 2 ^ 31) (hb : b < 2 ^ 31) (h : nI a = nI b) : a = b := (nI_eq ha hb).mp h
theorem z_nI0 {a : Nat} (ha : a < 2 ^ 31) : nI a = 0 ↔ a = 0 := by
  rw [show (0 : Int32) = nI 0 from rfl]
  exact nI_eq ha (by decide)
theorem z_cl {k : Nat} (hk : k < 2 ^ 31) : (nI k).toNatClampNeg = k := nI_clamp hk
theorem z_inb_nI {k n : Nat} (hk : k < n) (hn : n < 2 ^ 31) : z_inb (nI k) n = true := decide_eq_true (nI_in hk hn)
/-- is x a point (0 .. 8) of the set a -/
def z_is (a : Nat) (x : Int32) : Bool := decide (¬ x < 0) && decide (¬ 9 ≤ x) && a.testBit x.toNatClampNeg
theorem z_is_nI {a k : Nat} (hk : k < 9) : z_is a (nI k) = a.testBit k := by
  have h1 : ¬ nI k < 0 := nI_pos (by omega)
  have h2 : ¬ (9 : Int32) ≤ nI k := nI_ge (a := k) (b := 9) hk (by decide)
  simp [z_is, h1, h2, z_cl (show k < 2 ^ 31 by omega)]
theorem s_isIn {a : Nat} (ha : a < 512) (x : Int32) : f_X9_isIn (nI a) x = some (z_bi (z_is a x)) := by
  unfold f_X9_isIn
  rcases z_ix x with h | h | ⟨k, hk, rfl⟩
  · simp [h, z_is, z_bi]
  · have h0 : ¬ x < 0 := by
      intro h1
      have := Int32.lt_iff_toInt_lt.mp h1
      have := Int32.le_iff_toInt_le.mp h
      simp at *
      omega
    simp [h, h0, z_is, z_bi]
  · have h1 : ¬ nI k < 0 := nI_pos (by omega)
    have h2 : ¬ (9 : Int32) ≤ nI k := nI_ge (a := k) (b := 9) hk (by decide)
    rw [if_neg h1, if_neg h2, z_shr_bit (by omega) hk, z_is_nI hk]
    cases a.testBit k <;> simp [z_bi]
theorem s_has {a k : Nat} (ha : a < 2 ^ 31) (hk : k < 9) : f_X10_has (nI a) (nI k) = some (z_bi (a.testBit k)) := by
  unfold f_X10_has
  rw [z_shr_bit ha hk]
  cases a.testBit k <;> simp [z_bi]
def z_pc (a : Nat) : Nat := (a.testBit 0).toNat + (a.testBit 1).toNat + (a.testBit 2).toNat + (a.testBit 3).toNat + (a.testBit 4).toNat + (a.testBit 5).toNat + (a.testBit 6).toNat + (a.testBit 7).toNat + (a.testBit 8).toNat
theorem z_pc_le (a : Nat) : z_pc a ≤ 9 := by
  unfold z_pc
  have h : ∀ b : Bool, b.toNat ≤ 1 := fun b => by cases b <;> decide
  have := h (a.testBit 0)
  have := h (a.testBit 1)
  have := h (a.testBit 2)
  have := h (a.testBit 3)
  have := h (a.testBit 4)
  have := h (a.testBit 5)
  have := h (a.testBit 6)
  have := h (a.testBit 7)
  have := h (a.testBit 8)
  omega
theorem z_bitc_all : (List.range 512).all (fun a => decide (z_bitc (nI a) = nI (z_pc a))) = true := by decide +kernel
theorem s_bitc {a : Nat} (ha : a < 512) : z_bitc (nI a) = nI (z_pc a) := by
  have := List.all_eq_true.mp z_bitc_all a (List.mem_range.mpr ha)
  exact of_decide_eq_true this
def z_pcn (a : Nat) : Nat → Nat
  | 0 => 0
  | n + 1 => z_pcn a n + (a.testBit n).toNat
theorem z_pcn_9 (a : Nat) : z_pcn a 9 = z_pc a := by simp [z_pcn, z_pc]
theorem s_bits {a : Nat} (ha : a < 512) : f_X10_bits (nI a) = some (nI (z_pc a)) := by
  unfold f_X10_bits
  have h := z_lp_seq (b := b_X10_bits_4 (nI a)) (kx := fun t3 => some t3) (fun k => (nI (z_pcn a k), nI k)) 9 (some (nI (z_pc a))) ?_ ?_ z_F (z_F_lt (by omega))
  · exact h
  · intro k hk kb
    unfold b_X10_bits_4
    have h2 : ¬ (9 : Int32) ≤ nI k := nI_ge (a := k) (b := 9) hk (by decide)
    simp only [h2, if_false, z_lt]
    rw [z_shr_bit (by omega) hk, nI_1]
    have e : nI (z_pcn a k) + z_bi (a.testBit k) = nI (z_pcn a (k + 1)) := by
      rw [z_pcn]
      cases a.testBit k
      · simp [z_bi]
      · simp only [z_bi, if_true, Bool.toNat_true]
        exact nI_1 _
    rw [e]
  · intro kb
    unfold b_X10_bits_4
    have h2 : (9 : Int32) ≤ nI 9 := by decide
    simp only [h2, if_true]
    rw [z_pcn_9]
