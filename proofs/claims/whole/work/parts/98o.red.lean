section
variable {u w : z_M} {m p c : Nat}
theorem zh_p8 (hp : zv_pr p) : 2 ≤ p ∧ p < 8 := by rcases hp with rfl | rfl | rfl | rfl <;> decide
theorem zh_rm : ∀ p, p < 8 → 0 < p → ∀ a, a < 64 → f_X3_remainder (nI a) (nI p) = some (nI (a % p)) := by decide +kernel
theorem zh_rd : ∀ p, p < 8 → 0 < p → ∀ a, a < 100 → nI a - nI a / nI p * nI p = nI (a % p) := by decide +kernel
theorem zh_ix : ∀ c, c < 35 → ∀ i, i < 35 → (nI c * 35) + nI i = nI (c * 35 + i) := by decide +kernel
theorem zh_md (a p : Nat) : zv_dv (p : Int) (((a % p : Nat) : Int) - (a : Int)) := by
  have h := Nat.div_add_mod a p
  obtain ⟨q, hq⟩ : ∃ q, q = a / p := ⟨_, rfl⟩
  obtain ⟨r, hr⟩ : ∃ r, r = a % p := ⟨_, rfl⟩
  rw [← hq, ← hr] at h
  rw [← hr]
  have h2 : (p : Int) * (q : Int) + (r : Int) = (a : Int) := by first | exact_mod_cast h | omega
  exact ⟨-(q : Int), by rw [← h2]; grind⟩
theorem zh_md1 (a b p : Nat) : zv_dv (p : Int) (((a * b % p : Nat) : Int) - (a : Int) * (b : Int)) := by
  have h := zh_md (a * b) p
  rw [Int.natCast_mul] at h
  exact h
theorem zh_md2 (a t b p : Nat) : zv_dv (p : Int) ((((a + t * b) % p : Nat) : Int) - ((a : Int) + (t : Int) * (b : Int))) := by
  have h := zh_md (a + t * b) p
  rw [Int.natCast_add, Int.natCast_mul] at h
  exact h
theorem zh_md3 {a t b p l : Nat} (ht : t = p - l) (hl : l ≤ p) : zv_dv (p : Int) ((a : Int) - (l : Int) * (b : Int) - (((a + t * b) % p : Nat) : Int)) := by
  obtain ⟨k, hk⟩ := zh_md2 a t b p
  obtain ⟨x, hx⟩ : ∃ x : Int, x = (((a + t * b) % p : Nat) : Int) := ⟨_, rfl⟩
  rw [← hx] at hk ⊢
  have h2 : (t : Int) = (p : Int) - (l : Int) := by omega
  rw [h2] at hk
  have h3 : x = (p : Int) * k + ((a : Int) + ((p : Int) - (l : Int)) * (b : Int)) := by omega
  exact ⟨-k - (b : Int), by rw [h3]; grind⟩
theorem zh_mul6 {a b p : Nat} (ha : a ≤ p) (hb : b < p) (hp : p < 8) : a * b ≤ 42 := Nat.le_trans (Nat.mul_le_mul (show a ≤ 7 by omega) (show b ≤ 6 by omega)) (by decide)
theorem s3_inverse (hp : zv_pr p) {v : Nat} (h0 : 0 < v) (hv : v < p) : z_ok (f_X3_inverse (nI v) (nI p)) (fun r => ∃ e, r = nI e ∧ 0 < e ∧ e < p ∧ (v * e) % p = 1) := by
  obtain ⟨hp2, hp8⟩ := zh_p8 hp
  obtain ⟨e, -, e1, e2, e3⟩ := zv_inv7 p hp8 hp v hv h0
  unfold f_X3_inverse
  refine z_ok_lpm (fun q => ∃ k, q = nI k ∧ 0 < k ∧ k ≤ e) (fun q => e - q.toNatClampNeg) (Nat.lt_of_le_of_lt (Nat.sub_le _ _) (z_F_lt (by omega))) ⟨1, rfl, by omega, by omega⟩ ?_
  rintro q ⟨k, rfl, k1, k2⟩ kb hkb
  have hm6 := zh_mul6 (a := v) (b := k) (p := p) (by omega) (by omega) hp8
  unfold b_X3_inverse_2
  rw [if_neg (nI_ge (by omega) (by omega)), z_mulI, zh_rm p hp8 (by omega) _ (by omega), Option.bind_some]
  by_cases g : (v * k) % p = 1
  · rw [g, if_pos (show nI 1 = 1 from rfl), z_ok_some]
    exact ⟨k, rfl, k1, by omega, g⟩
  · rw [if_neg (show ¬ nI (v * k % p) = 1 from fun q => g ((nI_eq (b := 1) (by have := Nat.mod_lt (v * k) (show 0 < p by omega); omega) (by decide)).mp q)), z_1]
    have hke : k ≠ e := fun q => g (by rw [q]; exact e3)
    refine hkb _ ⟨k + 1, rfl, by omega, by omega⟩ ?_
    show e - (nI (k + 1)).toNatClampNeg < e - (nI k).toNatClampNeg
    rw [z_cl (by omega), z_cl (by omega)]
    omega
theorem s10_inverse (hp : zv_pr p) {v : Nat} (h0 : 0 < v) (hv : v < p) : z_ok (f_X10_inverse (nI v) (nI p)) (fun r => ∃ e, r = nI e ∧ 0 < e ∧ e < p ∧ (v * e) % p = 1) := by
  obtain ⟨hp2, hp8⟩ := zh_p8 hp
  obtain ⟨e, -, e1, e2, e3⟩ := zv_inv7 p hp8 hp v hv h0
  have hp0 : ¬ nI p = 0 := fun q => by
    have := (z_nI0 (by omega)).mp q
    omega
  unfold f_X10_inverse
  refine z_ok_lpm (fun q => ∃ k, q = nI k ∧ 0 < k ∧ k ≤ e) (fun q => e - q.toNatClampNeg) (Nat.lt_of_le_of_lt (Nat.sub_le _ _) (z_F_lt (by omega))) ⟨1, rfl, by omega, by omega⟩ ?_
  rintro q ⟨k, rfl, k1, k2⟩ kb hkb
  have hm6 := zh_mul6 (a := v) (b := k) (p := p) (by omega) (by omega) hp8
  unfold b_X10_inverse_2
  rw [z_gdt (decide_eq_true hp0), z_mulI, zh_rd p hp8 (by omega) _ (by omega)]
  by_cases g : (v * k) % p = 1
  · rw [g, if_pos (show nI 1 = 1 from rfl), z_ok_some]
    exact ⟨k, rfl, k1, by omega, g⟩
  · rw [if_neg (show ¬ nI (v * k % p) = 1 from fun q => g ((nI_eq (b := 1) (by have := Nat.mod_lt (v * k) (show 0 < p by omega); omega) (by decide)).mp q)), z_1]
    have hke : k ≠ e := fun q => g (by rw [q]; exact e3)
    refine hkb _ ⟨k + 1, rfl, by omega, by omega⟩ ?_
    show e - (nI (k + 1)).toNatClampNeg < e - (nI k).toNatClampNeg
    rw [z_cl (by omega), z_cl (by omega)]
    omega
/-! the class: the row in work, and the rows that stand -/
def zh_ln (u : z_M) (m p : Nat) (L : Nat → Nat) : Prop := ∀ i, i < m → u.1 137 i = nI (L i) ∧ L i < p
def zh_pv (u : z_M) (m p : Nat) (f : Nat → Bool) (E : Nat → Nat → Nat) : Prop := ∀ c, c < m → (f c = false → u.1 136 (c * 35 + c) = 0) ∧ (f c = true → E c c = 1 ∧ (∀ i, i < c → E c i = 0) ∧ ∀ i, c ≤ i → i < m → u.1 136 (c * 35 + i) = nI (E c i) ∧ E c i < p)
theorem zh_55 (hp : zv_pr p) (hm : m ≤ 35) (hc : c < m) {L Ec : Nat → Nat} (hl : zh_ln u m p L) (hE : ∀ i, c ≤ i → i < m → u.1 136 (c * 35 + i) = nI (Ec i) ∧ Ec i < p) {t : Nat} (ht : t ≤ p) {kx : z_M → Option (Int32 × z_M)} {Q : Int32 × z_M → Prop} (hk : ∀ u', (∀ j, j ≠ 137 → u'.1 j = u.1 j) → zh_ln u' m p (fun i => if c ≤ i then (L i + t * Ec i) % p else L i) → z_ok (kx u') Q) : z_ok (z_lp (b_X3_reduce_55 (nI m) (nI p) (nI c) (nI t)) z_F (nI c, u) kx) Q := by
  obtain ⟨hp2, hp8⟩ := zh_p8 hp
  refine z_ok_lp (fun s q => q.1 = nI (c + s) ∧ (∀ j, j ≠ 137 → q.2.1 j = u.1 j) ∧ zh_ln q.2 m p (fun i => if c ≤ i ∧ i < c + s then (L i + t * Ec i) % p else L i)) (m - c) (z_F_lt (by omega)) ⟨rfl, fun _ _ => rfl, fun i hi => by dsimp only; rw [if_neg (by omega)]; exact hl i hi⟩ ?_ ?_
  · rintro s ⟨a, v⟩ hs ⟨e1, e2, e3⟩ kb hkb
    dsimp only at e1 e2 e3
    subst e1
    obtain ⟨g1, g2⟩ := hE (c + s) (by omega) (by omega)
    obtain ⟨l1, l2⟩ := e3 (c + s) (by omega)
    dsimp only at l1 l2
    rw [if_neg (by omega)] at l1 l2
    have hm6 := zh_mul6 ht g2 hp8
    unfold b_X3_reduce_55
    dsimp only
    rw [if_neg (nI_ge (by omega) (by omega)), z_gdt (z_inb_nI (by omega) (by decide)), zh_ix c (by omega) (c + s) (by omega), z_gdt (z_inb_nI (by omega) (by decide)), z_gI, z_gI, z_cl (by omega), z_cl (by omega), l1, e2 136 (by decide), g1, z_mulI, nI_add, zh_rm p hp8 (by omega) _ (by omega), Option.bind_some, z_gdt (z_inb_nI (by omega) (by decide)), z_lt, z_1]
    refine hkb _ ⟨rfl, fun j hj => by dsimp only; rw [z_sI_ne hj]; exact e2 j hj, fun i hi => ?_⟩
    dsimp only
    rw [z_sI_1]
    obtain ⟨k1, k2⟩ := e3 i hi
    dsimp only at k1 k2
    by_cases g : c + s = i
    · subst g
      rw [if_pos ⟨rfl, rfl⟩, if_pos (by omega)]
      exact ⟨rfl, Nat.mod_lt _ (by omega)⟩
    · rw [if_neg (fun q => g q.2)]
      by_cases g2 : c ≤ i ∧ i < c + s
      · rw [if_pos g2] at k1 k2
        rw [if_pos (by omega)]
        exact ⟨k1, k2⟩
      · rw [if_neg g2] at k1 k2
        rw [if_neg (by omega)]
        exact ⟨k1, k2⟩
  · rintro ⟨a, v⟩ ⟨e1, e2, e3⟩ kb
    dsimp only at e1 e2 e3
    subst e1
    unfold b_X3_reduce_55
    dsimp only
    rw [if_pos (nI_le (by omega) (by omega))]
    refine hk v e2 (fun i hi => ?_)
    obtain ⟨k1, k2⟩ := e3 i hi
    dsimp only at k1 k2 ⊢
    by_cases g2 : c ≤ i
    · rw [if_pos (by omega)] at k1 k2
      rw [if_pos g2]
      exact ⟨k1, k2⟩
    · rw [if_neg (by omega)] at k1 k2
      rw [if_neg g2]
      exact ⟨k1, k2⟩
theorem zh_stand (hp : zv_pr p) (hm : m ≤ 35) (hc : c < m) {L : Nat → Nat} (hl : zh_ln u m p L) (h0 : L c ≠ 0) : z_ok (f_X3_stand (nI c) (nI m) (nI p) u) (fun u' => ∃ e, (L c * e) % p = 1 ∧ (∀ j, j ≠ 136 → u'.1 j = u.1 j) ∧ (∀ k, (k < c * 35 + c ∨ c * 35 + m ≤ k) → u'.1 136 k = u.1 136 k) ∧ ∀ i, c ≤ i → i < m → u'.1 136 (c * 35 + i) = nI (L i * e % p)) := by
  obtain ⟨hp2, hp8⟩ := zh_p8 hp
  obtain ⟨l1, l2⟩ := hl c hc
  obtain ⟨r, r0, e, rfl, e1, e2, e3⟩ := s3_inverse hp (v := L c) (by omega) l2
  unfold f_X3_stand
  rw [z_gdt (z_inb_nI (by omega) (by decide)), z_cl (by omega), z_gI, l1, r0, Option.bind_some]
  refine z_ok_lp (fun s q => q.1 = nI (c + s) ∧ (∀ j, j ≠ 136 → q.2.1 j = u.1 j) ∧ (∀ k, (k < c * 35 + c ∨ c * 35 + (c + s) ≤ k) → q.2.1 136 k = u.1 136 k) ∧ ∀ i, c ≤ i → i < c + s → q.2.1 136 (c * 35 + i) = nI (L i * e % p)) (m - c) (z_F_lt (by omega)) ⟨rfl, fun _ _ => rfl, fun _ _ => rfl, fun i i1 i2 => absurd i2 (by omega)⟩ ?_ ?_
  · rintro s ⟨a, v⟩ hs ⟨d1, d2, d3, d4⟩ kb hkb
    dsimp only at d1 d2 d3 d4
    subst d1
    obtain ⟨k1, k2⟩ := hl (c + s) (by omega)
    have hm6 := zh_mul6 (a := L (c + s)) (b := e) (by omega) e2 hp8
    unfold b_X3_stand_15
    dsimp only
    rw [if_neg (nI_ge (by omega) (by omega)), z_gdt (z_inb_nI (by omega) (by decide)), zh_ix c (by omega) (c + s) (by omega), z_gI, z_cl (by omega), d2 137 (by decide), k1, z_mulI, zh_rm p hp8 (by omega) _ (by omega), Option.bind_some, z_gdt (z_inb_nI (by omega) (by decide)), z_lt, z_cl (by omega), z_1]
    refine hkb _ ⟨rfl, fun j hj => by dsimp only; rw [z_sI_ne hj]; exact d2 j hj, fun k hk => ?_, fun i i1 i2 => ?_⟩
    · dsimp only
      rw [z_sI_1, if_neg (by omega)]
      exact d3 k (by omega)
    · dsimp only
      rw [z_sI_1]
      by_cases g : c + s = i
      · subst g
        rw [if_pos ⟨rfl, rfl⟩]
      · rw [if_neg (by omega)]
        exact d4 i i1 (by omega)
  · rintro ⟨a, v⟩ ⟨d1, d2, d3, d4⟩ kb
    dsimp only at d1 d2 d3 d4
    subst d1
    unfold b_X3_stand_15
    dsimp only
    rw [if_pos (nI_le (by omega) (by omega)), z_ok_some]
    exact ⟨e, e3, d2, fun k hk => d3 k (by omega), fun i i1 i2 => d4 i i1 (by omega)⟩
end
