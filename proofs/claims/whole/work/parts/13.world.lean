def z_shC : List z_S := [.inr (6, [none, none, none, some 1, some 2, some 3]),
  .inl (0, 9, none),
  .inl (0, 9, none),
  .inl (0, 81, none),
  .inr (6, [none, none, none, some 5, some 6, some 7]),
  .inl (0, 9, none),
  .inl (0, 9, none),
  .inl (0, 81, none),
  .inr (6, [none, none, none, some 9, some 10, some 11]),
  .inl (0, 9, none),
  .inl (0, 9, none),
  .inl (0, 81, none),
  .inr (6, [none, none, none, some 13, some 14, some 15]),
  .inl (0, 9, none),
  .inl (0, 9, none),
  .inl (0, 81, none),
  .inr (6, [none, none, none, some 17, some 18, some 19]),
  .inl (0, 9, none),
  .inl (0, 9, none),
  .inl (0, 81, none),
  .inr (6, [none, none, none, some 21, some 22, some 23]),
  .inl (0, 9, none),
  .inl (0, 9, none),
  .inl (0, 81, none),
  .inr (6, [none, none, none, some 25, some 26, some 27]),
  .inl (0, 9, none),
  .inl (0, 9, none),
  .inl (0, 81, none),
  .inr (6, [none, none, none, some 29, some 30, some 31]),
  .inl (0, 9, none),
  .inl (0, 9, none),
  .inl (0, 81, none),
  .inr (6, [none, none, none, some 33, some 34, some 35]),
  .inl (0, 9, none),
  .inl (0, 9, none),
  .inl (0, 81, none),
  .inr (6, [none, none, none, some 37, some 38, some 39]),
  .inl (0, 9, none),
  .inl (0, 9, none),
  .inl (0, 81, none),
  .inr (6, [none, none, none, some 41, some 42, some 43]),
  .inl (0, 9, none),
  .inl (0, 9, none),
  .inl (0, 81, none),
  .inr (6, [none, none, none, some 45, some 46, some 47]),
  .inl (0, 9, none),
  .inl (0, 9, none),
  .inl (0, 81, none),
  .inr (6, [none, none, none, some 49, some 50, some 51]),
  .inl (0, 9, none),
  .inl (0, 9, none),
  .inl (0, 81, none),
  .inr (6, [none, none, none, some 53, some 54, some 55]),
  .inl (0, 9, none),
  .inl (0, 9, none),
  .inl (0, 81, none),
  .inr (6, [none, none, none, some 57, some 58, some 59]),
  .inl (0, 9, none),
  .inl (0, 9, none),
  .inl (0, 81, none),
  .inr (6, [none, none, none, some 61, some 62, some 63]),
  .inl (0, 9, none),
  .inl (0, 9, none),
  .inl (0, 81, none),
  .inr (6, [none, none, none, some 65, some 66, some 67]),
  .inl (0, 9, none),
  .inl (0, 9, none),
  .inl (0, 81, none),
  .inr (6, [none, none, none, some 69, some 70, some 71]),
  .inl (0, 9, none),
  .inl (0, 9, none),
  .inl (0, 81, none),
  .inr (6, [none, none, none, some 73, some 74, some 75]),
  .inl (0, 9, none),
  .inl (0, 9, none),
  .inl (0, 81, none),
  .inr (6, [none, none, none, some 77, some 78, some 79]),
  .inl (0, 9, none),
  .inl (0, 9, none),
  .inl (0, 81, none),
  .inr (9, [some 81, some 0, some 83, some 85, some 86, some 125, some 131, some 134, some 138]),
  .inr (7, [some 82, none, some 4, none, none, none, none, none, none, none, none]),
  .inl (1, 400, none),
  .inr (5, [some 84, none, none]),
  .inl (5, 16, some (16, 4)),
  .inl (5, 2, some (8, 4)),
  .inr (2, [none, some 87, some 88]),
  .inl (6, 12, none),
  .inl (0, 9, none),
  .inr (1, [none, none, some 90, some 91]),
  .inl (0, 9, none),
  .inl (0, 8, none),
  .inr (1, [none, none, some 93, some 94]),
  .inl (0, 9, none),
  .inl (0, 8, none),
  .inr (1, [none, none, some 96, some 97]),
  .inl (0, 9, none),
  .inl (0, 8, none),
  .inr (1, [none, none, some 99, some 100]),
  .inl (0, 9, none),
  .inl (0, 8, none),
  .inr (1, [none, none, some 102, some 103]),
  .inl (0, 9, none),
  .inl (0, 8, none),
  .inr (1, [none, none, some 105, some 106]),
  .inl (0, 9, none),
  .inl (0, 8, none),
  .inr (1, [none, none, some 108, some 109]),
  .inl (0, 9, none),
  .inl (0, 8, none),
  .inr (1, [none, none, some 111, some 112]),
  .inl (0, 9, none),
  .inl (0, 8, none),
  .inr (1, [none, none, some 114, some 115]),
  .inl (0, 9, none),
  .inl (0, 8, none),
  .inr (1, [none, none, some 117, some 118]),
  .inl (0, 9, none),
  .inl (0, 8, none),
  .inr (1, [none, none, some 120, some 121]),
  .inl (0, 9, none),
  .inl (0, 8, none),
  .inr (1, [none, none, some 123, some 124]),
  .inl (0, 9, none),
  .inl (0, 8, none),
  .inr (8, [some 126, some 127, some 128, some 129, some 130]),
  .inl (0, 9, none),
  .inl (0, 9, none),
  .inl (0, 9, none),
  .inl (0, 81, none),
  .inl (0, 512, none),
  .inr (0, [some 132, some 133]),
  .inl (0, 81, none),
  .inl (0, 81, none),
  .inr (3, [some 135, some 136, some 137]),
  .inl (0, 512, none),
  .inl (0, 1225, none),
  .inl (0, 35, none),
  .inr (4, [some 139, some 140, none]),
  .inl (0, 9, none),
  .inl (0, 9, none)]
def z_shR : List z_S := [.inr (10, [none, some 1, some 2, some 3, none, some 4, some 5, some 6, none, none, none, none, none, none, some 7, some 8, some 9, some 10, none, some 11, some 12, some 13, some 14, some 15, some 16, some 17, some 18, some 19, some 20, some 21]),
  .inl (0, 93, none),
  .inl (0, 93, none),
  .inl (0, 1488, none),
  .inl (0, 186, none),
  .inl (3, 2, none),
  .inl (2, 400, none),
  .inl (0, 9, none),
  .inl (0, 512, none),
  .inl (0, 576, none),
  .inl (0, 64, none),
  .inl (0, 10, none),
  .inl (0, 10, none),
  .inl (0, 9, none),
  .inl (0, 9, none),
  .inl (4, 9, none),
  .inl (4, 9, none),
  .inl (0, 128, none),
  .inl (0, 128, none),
  .inl (0, 1600, none),
  .inl (0, 10, none),
  .inl (0, 9, none)]
theorem z_c80 : z_shC[80]? = some (.inr (9, [some 81, some 0, some 83, some 85, some 86, some 125, some 131, some 134, some 138])) := rfl
theorem z_c81 : z_shC[81]? = some (.inr (7, [some 82, none, some 4, none, none, none, none, none, none, none, none])) := rfl
theorem z_c82 : z_shC[82]? = some (.inl (1, 400, none)) := rfl
theorem z_c83 : z_shC[83]? = some (.inr (5, [some 84, none, none])) := rfl
theorem z_c84 : z_shC[84]? = some (.inl (5, 16, some (16, 4))) := rfl
theorem z_c85 : z_shC[85]? = some (.inl (5, 2, some (8, 4))) := rfl
theorem z_c86 : z_shC[86]? = some (.inr (2, [none, some 87, some 88])) := rfl
theorem z_c87 : z_shC[87]? = some (.inl (6, 12, none)) := rfl
theorem z_c88 : z_shC[88]? = some (.inl (0, 9, none)) := rfl
theorem z_c125 : z_shC[125]? = some (.inr (8, [some 126, some 127, some 128, some 129, some 130])) := rfl
theorem z_c126 : z_shC[126]? = some (.inl (0, 9, none)) := rfl
theorem z_c127 : z_shC[127]? = some (.inl (0, 9, none)) := rfl
theorem z_c128 : z_shC[128]? = some (.inl (0, 9, none)) := rfl
theorem z_c129 : z_shC[129]? = some (.inl (0, 81, none)) := rfl
theorem z_c130 : z_shC[130]? = some (.inl (0, 512, none)) := rfl
theorem z_c131 : z_shC[131]? = some (.inr (0, [some 132, some 133])) := rfl
theorem z_c132 : z_shC[132]? = some (.inl (0, 81, none)) := rfl
theorem z_c133 : z_shC[133]? = some (.inl (0, 81, none)) := rfl
theorem z_c134 : z_shC[134]? = some (.inr (3, [some 135, some 136, some 137])) := rfl
theorem z_c135 : z_shC[135]? = some (.inl (0, 512, none)) := rfl
theorem z_c136 : z_shC[136]? = some (.inl (0, 1225, none)) := rfl
theorem z_c137 : z_shC[137]? = some (.inl (0, 35, none)) := rfl
theorem z_c138 : z_shC[138]? = some (.inr (4, [some 139, some 140, none])) := rfl
theorem z_c139 : z_shC[139]? = some (.inl (0, 9, none)) := rfl
theorem z_c140 : z_shC[140]? = some (.inl (0, 9, none)) := rfl
theorem z_r0 : z_shR[0]? = some (.inr (10, [none, some 1, some 2, some 3, none, some 4, some 5, some 6, none, none, none, none, none, none, some 7, some 8, some 9, some 10, none, some 11, some 12, some 13, some 14, some 15, some 16, some 17, some 18, some 19, some 20, some 21])) := rfl
theorem z_r1 : z_shR[1]? = some (.inl (0, 93, none)) := rfl
theorem z_r2 : z_shR[2]? = some (.inl (0, 93, none)) := rfl
theorem z_r3 : z_shR[3]? = some (.inl (0, 1488, none)) := rfl
theorem z_r4 : z_shR[4]? = some (.inl (0, 186, none)) := rfl
theorem z_r5 : z_shR[5]? = some (.inl (3, 2, none)) := rfl
theorem z_r6 : z_shR[6]? = some (.inl (2, 400, none)) := rfl
theorem z_r7 : z_shR[7]? = some (.inl (0, 9, none)) := rfl
theorem z_r8 : z_shR[8]? = some (.inl (0, 512, none)) := rfl
theorem z_r9 : z_shR[9]? = some (.inl (0, 576, none)) := rfl
theorem z_r10 : z_shR[10]? = some (.inl (0, 64, none)) := rfl
theorem z_r11 : z_shR[11]? = some (.inl (0, 10, none)) := rfl
theorem z_r12 : z_shR[12]? = some (.inl (0, 10, none)) := rfl
theorem z_r13 : z_shR[13]? = some (.inl (0, 9, none)) := rfl
theorem z_r14 : z_shR[14]? = some (.inl (0, 9, none)) := rfl
theorem z_r15 : z_shR[15]? = some (.inl (4, 9, none)) := rfl
theorem z_r16 : z_shR[16]? = some (.inl (4, 9, none)) := rfl
theorem z_r17 : z_shR[17]? = some (.inl (0, 128, none)) := rfl
theorem z_r18 : z_shR[18]? = some (.inl (0, 128, none)) := rfl
theorem z_r19 : z_shR[19]? = some (.inl (0, 1600, none)) := rfl
theorem z_r20 : z_shR[20]? = some (.inl (0, 10, none)) := rfl
theorem z_r21 : z_shR[21]? = some (.inl (0, 9, none)) := rfl
/-- the places of the orders, and of the chains -/
def z_PO (i : Nat) : Prop := ∃ k, k < 20 ∧ i = 4 * k
def z_CH (i : Nat) : Prop := ∃ k, k < 12 ∧ i = 89 + 3 * k
def z_isCh (i : Nat) : Bool := decide (89 ≤ i ∧ i < 125 ∧ (i - 89) % 3 = 0)
theorem z_ch_of {i : Nat} (h : z_isCh i = true) : z_CH i := by
  simp only [z_isCh, decide_eq_true_eq] at h
  exact ⟨(i - 89) / 3, by omega, by omega⟩
theorem z_po_0 : z_PO 0 := ⟨0, by omega, rfl⟩
theorem z_po_4 : z_PO 4 := ⟨1, by omega, rfl⟩
theorem z_clampLt {x : Int32} {n : Nat} (h : vp_in x n) : x.toNatClampNeg < n := Nat.not_le.mp fun q => h (Or.inr q)
theorem z_po_kept {x : Int32} (h : vp_in x 2) : z_PO (8 + 4 * x.toNatClampNeg) := ⟨2 + x.toNatClampNeg, by have := z_clampLt h; omega, by omega⟩
theorem z_po_ring {x : Int32} (h : vp_in x 16) : z_PO (16 + 4 * x.toNatClampNeg) := ⟨4 + x.toNatClampNeg, by have := z_clampLt h; omega, by omega⟩
theorem z_poAll : ∀ k, k < 20 → z_shC[4 * k]? = some (.inr (6, [none, none, none, some (4 * k + 1), some (4 * k + 2), some (4 * k + 3)])) ∧ z_shC[4 * k + 1]? = some (.inl (0, 9, none)) ∧ z_shC[4 * k + 2]? = some (.inl (0, 9, none)) ∧ z_shC[4 * k + 3]? = some (.inl (0, 81, none)) 
  | 0, _ => ⟨rfl, rfl, rfl, rfl⟩
  | 1, _ => ⟨rfl, rfl, rfl, rfl⟩
  | 2, _ => ⟨rfl, rfl, rfl, rfl⟩
  | 3, _ => ⟨rfl, rfl, rfl, rfl⟩
  | 4, _ => ⟨rfl, rfl, rfl, rfl⟩
  | 5, _ => ⟨rfl, rfl, rfl, rfl⟩
  | 6, _ => ⟨rfl, rfl, rfl, rfl⟩
  | 7, _ => ⟨rfl, rfl, rfl, rfl⟩
  | 8, _ => ⟨rfl, rfl, rfl, rfl⟩
  | 9, _ => ⟨rfl, rfl, rfl, rfl⟩
  | 10, _ => ⟨rfl, rfl, rfl, rfl⟩
  | 11, _ => ⟨rfl, rfl, rfl, rfl⟩
  | 12, _ => ⟨rfl, rfl, rfl, rfl⟩
  | 13, _ => ⟨rfl, rfl, rfl, rfl⟩
  | 14, _ => ⟨rfl, rfl, rfl, rfl⟩
  | 15, _ => ⟨rfl, rfl, rfl, rfl⟩
  | 16, _ => ⟨rfl, rfl, rfl, rfl⟩
  | 17, _ => ⟨rfl, rfl, rfl, rfl⟩
  | 18, _ => ⟨rfl, rfl, rfl, rfl⟩
  | 19, _ => ⟨rfl, rfl, rfl, rfl⟩
  | k + 20, h => absurd h (by omega)
theorem z_chAll : ∀ k, k < 12 → z_shC[89 + 3 * k]? = some (.inr (1, [none, none, some (89 + 3 * k + 1), some (89 + 3 * k + 2)])) ∧ z_shC[89 + 3 * k + 1]? = some (.inl (0, 9, none)) ∧ z_shC[89 + 3 * k + 2]? = some (.inl (0, 8, none)) 
  | 0, _ => ⟨rfl, rfl, rfl⟩
  | 1, _ => ⟨rfl, rfl, rfl⟩
  | 2, _ => ⟨rfl, rfl, rfl⟩
  | 3, _ => ⟨rfl, rfl, rfl⟩
  | 4, _ => ⟨rfl, rfl, rfl⟩
  | 5, _ => ⟨rfl, rfl, rfl⟩
  | 6, _ => ⟨rfl, rfl, rfl⟩
  | 7, _ => ⟨rfl, rfl, rfl⟩
  | 8, _ => ⟨rfl, rfl, rfl⟩
  | 9, _ => ⟨rfl, rfl, rfl⟩
  | 10, _ => ⟨rfl, rfl, rfl⟩
  | 11, _ => ⟨rfl, rfl, rfl⟩
  | k + 12, h => absurd h (by omega)
theorem z_po {i : Nat} (h : z_PO i) : z_shC[i]? = some (.inr (6, [none, none, none, some (i + 1), some (i + 2), some (i + 3)])) := by obtain ⟨k, hk, rfl⟩ := h; exact (z_poAll k hk).1
theorem z_poA {i : Nat} (h : z_PO i) : z_shC[i + 1]? = some (.inl (0, 9, none)) := by obtain ⟨k, hk, rfl⟩ := h; exact (z_poAll k hk).2.1
theorem z_poU {i : Nat} (h : z_PO i) : z_shC[i + 2]? = some (.inl (0, 9, none)) := by obtain ⟨k, hk, rfl⟩ := h; exact (z_poAll k hk).2.2.1
theorem z_poT {i : Nat} (h : z_PO i) : z_shC[i + 3]? = some (.inl (0, 81, none)) := by obtain ⟨k, hk, rfl⟩ := h; exact (z_poAll k hk).2.2.2
theorem z_ch {i : Nat} (h : z_CH i) : z_shC[i]? = some (.inr (1, [none, none, some (i + 1), some (i + 2)])) := by obtain ⟨k, hk, rfl⟩ := h; exact (z_chAll k hk).1
theorem z_chP {i : Nat} (h : z_CH i) : z_shC[i + 1]? = some (.inl (0, 9, none)) := by obtain ⟨k, hk, rfl⟩ := h; exact (z_chAll k hk).2.1
theorem z_chL {i : Nat} (h : z_CH i) : z_shC[i + 2]? = some (.inl (0, 8, none)) := by obtain ⟨k, hk, rfl⟩ := h; exact (z_chAll k hk).2.2
theorem z_chLt {i : Nat} (h : z_CH i) : i < 2 ^ 31 := by obtain ⟨k, hk, rfl⟩ := h; omega


theorem nn_X0 : Cond.methodLinkNest RX0 37 yX9_isIn "LabelOrder" ∈ z_N := by decide +kernel
theorem nn_X2 : Cond.methodLinkNest RX2 44 yX9_isIn "LabelOrder" ∈ z_N := by decide +kernel
theorem nn_X3 : Cond.methodLinkNest RX3 61 yX9_isIn "LabelOrder" ∈ z_N := by decide +kernel
theorem nn_X4 : Cond.methodLinkNest RX4 49 yX9_isIn "LabelOrder" ∈ z_N := by decide +kernel
theorem nn_X6 : Cond.methodLinkNest RX6 43 yX9_isIn "LabelOrder" ∈ z_N := by decide +kernel
theorem nn_X8 : Cond.methodLinkNest RX8 33 yX9_isIn "LabelOrder" ∈ z_N := by decide +kernel
