section
variable {u w v : z_M} {P : z_P} {T : Nat → Nat} {N p s : Nat}
theorem z_isIn3 (a b c : Int32) : f_X10_isIn a.toInt64 b.toInt64 c.toInt64 = some (z_bi (decide (¬ a < b) && decide (a ≤ c))) := by
  rw [s10_isIn, z_i64, z_i64, z_i64]
  have h1 : (¬ a < b) = (b.toInt ≤ a.toInt) := by
    apply propext
    rw [Int32.lt_iff_toInt_lt]
    omega
  have h2 : (a ≤ c) = (a.toInt ≤ c.toInt) := propext Int32.le_iff_toInt_le
  simp only [h1, h2]
theorem z_dgt {c : Nat} (hc : 48 ≤ c) (a : Nat) : (10 * nI a + nI c) - 48 = nI (10 * a + (c - 48)) := by
  have h1 : nI (c - 48) + 48 = nI c := by rw [show (48 : Int32) = nI 48 from rfl, nI_add, Nat.sub_add_cancel hc]
  have h2 : nI (10 * a) = 10 * nI a := by
    rw [show 10 * a = a + a + a + a + a + a + a + a + a + a by omega]
    simp only [← nI_add]
    grind
  rw [← nI_add, h2, ← h1]
  grind
def z_ed (T : Nat → Nat) (N s : Nat) : Nat := z_to (z_qd T) N s
def z_err (T : Nat → Nat) (N s : Nat) (a b : Int32) : Nat := if z_ed T N s = s then 1 else if 2 < z_ed T N s - s then 2 else if nI (z_nv T s (z_ed T N s - s)) < a then 2 else if nI (z_nv T s (z_ed T N s - s)) ≤ b then 0 else 2
def z_wr (a b : Int32) (w : z_M) : z_M := z_sI (z_sI (z_sI w 0 10 a) 0 11 b) 0 12 0
theorem s10_wrong (a b : Int32) (h : ¬ w.1 0 12 = 0) : f_X10_wrong a b w = some (z_wr a b w) := by
  unfold f_X10_wrong
  rw [z_gI, if_neg h]
  rfl
theorem s10_wrongE (a b : Int32) (h : w.1 0 12 = 0) : f_X10_wrong a b w = some w := by
  unfold f_X10_wrong
  rw [z_gI, if_pos h]
theorem z_wr_12 (a b : Int32) (w : z_M) : (z_wr a b w).1 0 12 = 0 := by unfold z_wr; rw [z_sI_1, if_pos ⟨rfl, rfl⟩]
def z_m3 (n : Nat) : Nat := if n ≤ 3 then n else 3
theorem s10_numL (h : z_ww w T N s) (a b : Int32) (kx : (Int32 × z_M) → Option (Int32 × z_M)) : z_lp (b_X10_number_13 a b (nI s)) z_F (0, w) kx = kx (nI (z_nv T s (z_m3 (z_ed T N s - s))), z_sI w 0 9 (nI (z_ed T N s))) := by
  obtain ⟨h1, h2, h3, h4, h5⟩ := h
  have hself : z_sI w 0 9 (nI s) = w := z_sIe w 0 9 h2
  have key := z_lpt (b := b_X10_number_13 a b (nI s)) (kx := kx) (fun i => (nI (z_nv T s (z_m3 (i - s))), z_sI w 0 9 (nI i))) (fun i => (nI (z_nv T s (z_m3 (i - s))), z_sI w 0 9 (nI i))) (z_qd T) h3 h4 (fun i hi1 hi2 kb => by
    obtain ⟨g1, g2, g3, g4, g5⟩ := (show z_ww w T N s from ⟨h1, h2, h3, h4, h5⟩).mv (q := i) (by omega)
    obtain ⟨f1, f2⟩ := g5 i hi2
    unfold b_X10_number_13
    dsimp only
    rw [z_gI, z_gI, g1, g2, if_neg (nI_ge hi2 (by omega)), z_gdt (z_in400 (by omega)), z_gI, z_cl (by omega), f2, z_byd _ f1, Option.bind_some, z_nsub hi1, z_gdt (z_in400 (by omega)), z_1, z_lt, z_lt, z_sIs]
    unfold z_qd
    by_cases hd : (decide (48 ≤ T i) && decide (T i ≤ 57)) = true
    · rw [hd, if_neg (show ¬ z_bi true = 0 by decide), if_pos rfl]
      rw [Bool.and_eq_true, decide_eq_true_eq, decide_eq_true_eq] at hd
      by_cases c : 3 ≤ i - s
      · rw [if_pos (show (3 : Int32) ≤ nI (i - s) from nI_le (a := 3) c (by omega))]
        have e : z_m3 (i + 1 - s) = z_m3 (i - s) := by
          unfold z_m3
          rw [if_neg (by omega)]
          by_cases c2 : i - s ≤ 3
          · rw [if_pos c2]; omega
          · rw [if_neg c2]
        rw [e]
      · rw [if_neg (show ¬ (3 : Int32) ≤ nI (i - s) from nI_ge (b := 3) (by omega) (by decide)), (z_byn _ f1).1 (by omega), z_dgt hd.1]
        have e1 : z_m3 (i - s) = i - s := by unfold z_m3; rw [if_pos (by omega)]
        have e2 : z_m3 (i + 1 - s) = i - s + 1 := by unfold z_m3; rw [if_pos (by omega)]; omega
        rw [e1, e2, z_nv, show s + (i - s) = i by omega]
        rfl
    · have hd' : (decide (48 ≤ T i) && decide (T i ≤ 57)) = false := by simpa using hd
      rw [hd']
      rfl) (fun kb => by
    obtain ⟨g1, g2, -⟩ := (show z_ww w T N s from ⟨h1, h2, h3, h4, h5⟩).mv (Nat.le_refl N)
    unfold b_X10_number_13
    dsimp only
    rw [z_gI, z_gI, g1, g2, if_pos (nI_le (Nat.le_refl _) (by omega))])
  rw [Nat.sub_self, hself, show z_m3 0 = 0 from rfl, z_nv, nI_0] at key
  exact key
theorem s10_number (h : z_ww w T N p) (a b : Int32) : f_X10_number a b w = if w.1 0 12 = 0 then some (0, z_sI w 0 9 (nI (z_ed T N (z_to (z_qb T) N p)))) else if z_err T N (z_to (z_qb T) N p) a b = 0 then some (nI (z_nv T (z_to (z_qb T) N p) (z_ed T N (z_to (z_qb T) N p) - z_to (z_qb T) N p)), z_sI w 0 9 (nI (z_ed T N (z_to (z_qb T) N p)))) else some (0, z_wr (nI (z_err T N (z_to (z_qb T) N p) a b)) (nI (z_to (z_qb T) N p)) (z_sI w 0 9 (nI (z_ed T N (z_to (z_qb T) N p))))) := by
  have hok := z_to_ok (z_qb T) h.2.2.1
  unfold f_X10_number
  rw [s10_next h, z_b2e]
  obtain ⟨s, hs⟩ : ∃ s, s = z_to (z_qb T) N p := ⟨_, rfl⟩
  rw [← hs] at hok ⊢
  have hww := h.mv hok.2.1
  have hoke := z_to_ok (z_qd T) hok.2.1
  have h4 := hww.2.2.2.1
  rw [z_lt, z_gI, hww.2.1, s10_numL hww, z_sIs]
  obtain ⟨e, he⟩ : ∃ e, e = z_ed T N s := ⟨_, rfl⟩
  have hoke' : s ≤ e ∧ e ≤ N := ⟨by rw [he]; exact hoke.1, by rw [he]; exact hoke.2.1⟩
  obtain ⟨w2, hw2⟩ : ∃ w2, w2 = z_sI w 0 9 (nI e) := ⟨_, rfl⟩
  have e9 : z_gI w2 0 9 = nI e := by rw [hw2, z_gI, z_sI_1, if_pos ⟨rfl, rfl⟩]
  have e12 : w2.1 0 12 = w.1 0 12 := by rw [hw2, z_sI_1, if_neg (by decide)]
  rw [← he, ← hw2]
  dsimp only
  rw [e9, z_nsub hoke'.1, z_isIn3, Option.bind_some]
  have ee : (nI e = nI s) = (e = s) := z_eqI (by omega) (by omega)
  have e2 : (2 < nI (e - s)) = (2 < e - s) := z_ltI (a := 2) (by decide) (by omega)
  simp only [ee, e2]
  unfold z_err
  rw [← he]
  by_cases c12 : w.1 0 12 = 0
  · rw [if_pos c12, s10_wrongE _ _ (e12.trans c12), s10_wrongE _ _ (e12.trans c12), Option.bind_some, if_pos (show z_gI w2 0 12 = 0 from e12.trans c12)]
    split
    · rfl
    · split
      · rfl
      · split <;> rfl
  · have c12' : ¬ w2.1 0 12 = 0 := by rw [e12]; exact c12
    rw [if_neg c12, s10_wrong _ _ c12', s10_wrong _ _ c12', Option.bind_some, Option.bind_some, if_pos (show z_gI (z_wr 1 (nI s) w2) 0 12 = 0 from z_wr_12 _ _ _), if_pos (show z_gI (z_wr 2 (nI s) w2) 0 12 = 0 from z_wr_12 _ _ _), if_neg (show ¬ z_gI w2 0 12 = 0 from c12')]
    by_cases c1 : e = s
    · rw [if_pos c1, if_pos c1, if_neg (by decide)]; rfl
    · rw [if_neg c1, if_neg c1]
      by_cases c2 : 2 < e - s
      · rw [if_pos c2, if_pos c2, if_neg (by decide)]; rfl
      · rw [if_neg c2, if_neg c2, show z_m3 (e - s) = e - s by unfold z_m3; rw [if_pos (by omega)]]
        by_cases c3 : nI (z_nv T s (e - s)) < a
        · rw [if_pos c3, decide_eq_false (fun q => q c3), Bool.false_and, if_pos (show z_bi false = 0 from rfl), if_neg (by decide)]; rfl
        · rw [if_neg c3, decide_eq_true c3, Bool.true_and]
          by_cases c4 : nI (z_nv T s (e - s)) ≤ b
          · rw [if_pos c4, decide_eq_true c4, if_neg (show ¬ z_bi true = 0 by decide), if_pos rfl]
          · rw [if_neg c4, decide_eq_false c4, if_pos (show z_bi false = 0 from rfl), if_neg (by decide)]; rfl
/-! the class -/
def z_rfs (k b : Int32) (u : z_M) : z_M := z_sI (z_sI u 81 3 k) 81 4 b
theorem s7_refuse (k : Int32) (h : u.1 81 8 = nI s) : f_X7_refuse k u = some (0, z_rfs k (nI s) u) := by
  unfold f_X7_refuse z_rfs
  rw [z_lt, z_lt, z_gI, z_sI_1, if_neg (by decide), h]
theorem z_tkk_4 (hs : s ≤ N) : (z_tkk T N s = 4 ↔ z_ed T N s ≠ s) ∧ (z_tkk T N s = 4 → z_tke T N s = z_ed T N s) := by
  unfold z_tkk z_tke z_ed
  by_cases c : s < N
  · rw [if_pos c, if_pos c]
    by_cases cl : z_ql T s = true
    · have cd : z_qd T s = false := by
        unfold z_ql at cl
        unfold z_qd
        rw [Bool.and_eq_true, decide_eq_true_eq, decide_eq_true_eq] at cl
        rw [decide_eq_false (show ¬ T s ≤ 57 by omega), Bool.and_false]
      rw [if_pos cl, if_pos cl, z_to_0 (z_qd T) (Or.inr cd)]
      exact ⟨⟨fun q => absurd q (z_wkd_4 T N s), fun q => absurd rfl q⟩, fun q => absurd q (z_wkd_4 T N s)⟩
    · rw [if_neg cl, if_neg cl]
      by_cases cd : z_qd T s = true
      · rw [if_pos cd, if_pos cd]
        have h1 := z_to_ok (z_qd T) (show s + 1 ≤ N by omega)
        exact ⟨⟨fun _ q => by rw [z_to_s _ c cd] at q; omega, fun _ => rfl⟩, fun _ => rfl⟩
      · rw [if_neg cd, if_neg cd, z_to_0 (z_qd T) (Or.inr (by simpa using cd))]
        have : ∀ x : Nat, x = (if T s = 59 then 5 else if T s = 60 then 6 else 7) → x ≠ 4 := fun x hx => by
          rw [hx]
          split
          · decide
          · split <;> decide
        exact ⟨⟨fun q => absurd q (this _ rfl), fun q => absurd rfl q⟩, fun q => absurd q (this _ rfl)⟩
  · rw [if_neg c, if_neg c, z_to_0 (z_qd T) (Or.inl (by omega))]
    exact ⟨⟨fun q => absurd q (by decide), fun q => absurd rfl q⟩, fun q => absurd q (by decide)⟩
theorem z_tkk_7 (T : Nat → Nat) (N s : Nat) : z_tkk T N s ≤ 7 := by
  unfold z_tkk z_wkd
  repeat' split
  all_goals decide
theorem s7_isNumber (h : z_tok u T N s) (hs : s ≤ N) (hN : N ≤ 400) (a b : Int32) : f_X7_isNumber a b u = if z_err T N s a b = 0 then some (1, u) else some (0, z_rfs (nI (z_err T N s a b)) (nI s) u) := by
  obtain ⟨h8, h7, h6, h9⟩ := h
  obtain ⟨t1, t2⟩ := z_tkk_4 (T := T) hs
  have h77 := z_tkk_7 T N s
  have hoke := z_to_ok (z_qd T) hs
  unfold f_X7_isNumber z_err
  rw [s7_refuse 2 h8, s7_refuse 1 h8, z_b2e, z_b2e, z_gI, h7]
  have e7 : (nI (z_tkk T N s) = 4) = (z_tkk T N s = 4) := z_eqI (b := 4) (by omega) (by decide)
  simp only [e7]
  by_cases c : z_tkk T N s = 4
  · obtain ⟨h9, h10⟩ := h9 c
    have te := t2 c
    have hne := t1.mp c
    have hle : z_ed T N s ≤ N := hoke.2.1
    rw [te] at h9 h10
    rw [if_pos c, if_neg hne, z_gI, h9]
    have e2 : (2 < nI (z_ed T N s - s)) = (2 < z_ed T N s - s) := z_ltI (a := 2) (by decide) (by omega)
    simp only [e2]
    by_cases c2 : 2 < z_ed T N s - s
    · rw [if_pos c2, if_pos c2, if_neg (by decide)]; rfl
    · rw [if_neg c2, if_neg c2, z_gI, h10 (by omega)]
      by_cases c3 : nI (z_nv T s (z_ed T N s - s)) < a
      · rw [if_pos c3, if_pos c3, if_neg (by decide)]; rfl
      · rw [if_neg c3, if_neg c3]
        by_cases c4 : nI (z_nv T s (z_ed T N s - s)) ≤ b
        · rw [if_pos c4, if_pos c4, if_pos rfl]
        · rw [if_neg c4, if_neg c4, if_neg (by decide)]; rfl
  · rw [if_neg c, if_pos (Decidable.not_not.mp (fun q => c (t1.mpr q))), if_neg (by decide)]; rfl
end
