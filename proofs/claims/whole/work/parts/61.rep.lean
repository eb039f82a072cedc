/-! What an order is, and how the two hold it. -/
abbrev z_P : Type := Nat × Nat × Nat × (Nat → Nat) × (Nat → Int32)
abbrev z_td (P : z_P) : Nat := P.1
abbrev z_th (P : z_P) : Nat := P.2.1
abbrev z_ru (P : z_P) : Nat := P.2.2.1
abbrev z_ab (P : z_P) : Nat → Nat := P.2.2.2.1
abbrev z_tg (P : z_P) : Nat → Int32 := P.2.2.2.2
/-- what is below x -/
def z_un (P : z_P) (x : Nat) : Nat := z_mk (fun y => (z_ab P y).testBit x) 9
def z_wf (P : z_P) : Prop := z_td P ≤ 9 ∧ z_th P < 512 ∧ (∀ x, x < 9 → (z_th P).testBit x = true → x < z_td P) ∧ (0 < z_td P → z_th P ≠ 0) ∧ z_ru P ≤ 3 ∧ (∀ x, x < 9 → z_ab P x < 512) ∧ (∀ x y, x < 9 → y < 9 → (z_ab P x).testBit y = true → (z_th P).testBit x = true ∧ (z_th P).testBit y = true) ∧ (∀ x, x < 9 → (z_ab P x).testBit x = false) ∧ (∀ x y t, x < 9 → y < 9 → t < 9 → (z_ab P x).testBit y = true → (z_ab P y).testBit t = true → (z_ab P x).testBit t = true)
def z_rc (u : z_M) (i : Nat) (P : z_P) : Prop := u.1 i 0 = nI (z_td P) ∧ u.1 i 1 = nI (z_th P) ∧ u.1 i 2 = nI (z_ru P) ∧ (∀ x, x < 9 → u.1 (i + 1) x = nI (z_ab P x)) ∧ (∀ x, x < 9 → u.1 (i + 2) x = nI (z_un P x)) ∧ ∀ k, k < 81 → u.1 (i + 3) k = z_tg P k
/-- what the reference's row says of x, with points that are gone -/
def z_rv (f : Nat → Int32) (x : Nat) : Nat := (f (3 + x)).toNatClampNeg
def z_rr (f : Nat → Int32) (P : z_P) : Prop := f 0 = nI (z_td P) ∧ f 1 = nI (z_th P) ∧ f 2 = nI (z_ru P) ∧ (∀ x, x < 9 → f (3 + x) = nI (z_rv f x) ∧ z_rv f x < 512 ∧ ((z_th P).testBit x = true → z_rv f x &&& z_th P = z_ab P x)) ∧ ∀ k, k < 81 → f (12 + k) = z_tg P k
theorem z_un_bit (P : z_P) {x y : Nat} (hy : y < 9) : (z_un P x).testBit y = (z_ab P y).testBit x := by simp [z_un, z_mk_bit, hy]
theorem z_un_lt (P : z_P) (x : Nat) : z_un P x < 512 := z_mk_lt _ 9
section ZP
variable {P : z_P} (hw : z_wf P)
theorem z_wf.th : z_wf P → z_th P < 512 := fun h => h.2.1
theorem z_wf.ab : z_wf P → ∀ x, x < 9 → z_ab P x < 512 := fun h => h.2.2.2.2.2.1
theorem z_wf.in : z_wf P → ∀ x y, x < 9 → y < 9 → (z_ab P x).testBit y = true → (z_th P).testBit x = true ∧ (z_th P).testBit y = true := fun h => h.2.2.2.2.2.2.1
theorem z_wf.irr : z_wf P → ∀ x, x < 9 → (z_ab P x).testBit x = false := fun h => h.2.2.2.2.2.2.2.1
theorem z_wf.tr : z_wf P → ∀ x y t, x < 9 → y < 9 → t < 9 → (z_ab P x).testBit y = true → (z_ab P y).testBit t = true → (z_ab P x).testBit t = true := fun h => h.2.2.2.2.2.2.2.2
theorem z_wf.asym (hw : z_wf P) {x y : Nat} (hx : x < 9) (hy : y < 9) (h : (z_ab P x).testBit y = true) : (z_ab P y).testBit x = false := by
  cases h2 : (z_ab P y).testBit x
  · rfl
  · have := hw.tr x y x hx hy hx h h2
    rw [hw.irr x hx] at this
    cases this
end ZP
theorem z_pw_lt {k : Nat} (hk : k < 9) : 2 ^ k < 512 := Nat.pow_lt_pow_right (n := 9) (by decide) hk
theorem z_or_lt {a b : Nat} (ha : a < 512) (hb : b < 512) : a ||| b < 512 := Nat.or_lt_two_pow (n := 9) ha hb
theorem z_and_lt {a : Nat} (b : Nat) (ha : a < 512) : a &&& b < 512 := Nat.lt_of_le_of_lt Nat.and_le_left ha
/-- a point's own bit put to a set -/
theorem z_put_bit (a : Nat) {k : Nat} (j : Nat) : (a ||| 2 ^ k).testBit j = (a.testBit j || decide (j = k)) := by
  rw [Nat.testBit_or, Nat.testBit_two_pow]
  by_cases h : k = j
  · subst h; simp
  · have : ¬ j = k := fun e => h e.symm
    simp [h, this]
section ZQ
variable {u : z_M} {i : Nat} {P : z_P}
theorem s6_has (hr : z_rc u i P) (hw : z_wf P) (x : Int32) : f_X6_has i x u = some (z_bi (z_is (z_th P) x)) := by
  unfold f_X6_has z_gI
  rw [hr.2.1, s_isIn hw.th]
  simp [z_gd, z_bi_01]
theorem s6_isUnder (hr : z_rc u i P) (hw : z_wf P) (a b : Int32) : f_X6_isUnder i a b u = some (z_bi (z_is (z_th P) a && z_is (z_ab P a.toNatClampNeg) b)) := by
  unfold f_X6_isUnder
  rw [s6_has hr hw]
  simp only [Option.bind_some, z_bi_0]
  cases ha : z_is (z_th P) a
  · simp [z_bi]
  · obtain ⟨k, hk, rfl⟩ : ∃ k, k < 9 ∧ a = nI k := by
      rcases z_ix a with h | h | h
      · simp [z_is, h] at ha
      · simp [z_is, h] at ha
      · exact h
    have hkc : (nI k).toNatClampNeg = k := z_cl (by omega)
    simp only [z_gd, z_inb_nI hk (by decide), if_true, z_gI, hkc]
    rw [if_neg (by decide), hr.2.2.2.1 k hk, s_isIn (hw.ab k hk)]
    simp only [Option.bind_some]
    cases z_is (z_ab P k) b <;> simp [z_bi]
end ZQ
