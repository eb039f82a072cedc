section
variable {u w : z_M} {n m p i j r a : Nat} {M : Nat → Nat → Nat}
/-! the law's cells -/
theorem zr_ix : ∀ a, a < 40 → ∀ k, k < 40 → (40 * nI a) + nI k = nI (40 * a + k) := by decide +kernel
def zr_mx (w : z_M) (n m p : Nat) (M : Nat → Nat → Nat) : Prop := ∀ a, a < n → ∀ k, k < m → w.1 19 (40 * a + k) = nI (M a k) ∧ M a k < p
theorem zr_22 (hn : n ≤ 35) (hm : m ≤ 35) (hp : p < 8) (hM : zr_mx w n m p M) (hj : j < m) (hr : r ≤ n) (x2 x3 x4 : Int32) (kx : Int32 → Option (Int32 × z_M)) : z_lp (b_X10_reduced_22 (nI n) x2 x3 x4 (nI j) w) z_F (nI r) kx = kx (nI (z_to (fun i => decide (M i j = 0)) n r)) := by
  refine z_lpt (fun i => nI i) (fun i => nI i) _ hr (by omega) (fun i hi1 hi2 kb => ?_) (fun kb => ?_)
  · obtain ⟨h1, h2⟩ := hM i hi2 j hj
    unfold b_X10_reduced_22
    rw [if_neg (nI_ge hi2 (by omega)), zr_ix i (by omega) j (by omega), z_gdt (z_inb_nI (by omega) (by decide)), z_gI, z_cl (by omega), h1, z_1]
    by_cases g : M i j = 0
    · rw [if_pos (show nI (M i j) = 0 by rw [g]; exact nI_0), if_pos (decide_eq_true g)]
    · rw [if_neg (show ¬ nI (M i j) = 0 from fun q => g ((z_nI0 (by omega)).mp q)), if_neg (by simpa using g)]
  · unfold b_X10_reduced_22
    rw [if_pos (nI_le (Nat.le_refl _) (by omega))]
def zr_sw (i r a : Nat) : Nat := if a = i then r else if a = r then i else a
theorem zr_sw_lt (hi : i < n) (hr : r < n) (ha : a < n) : zr_sw i r a < n := by
  unfold zr_sw
  split
  · exact hr
  · split
    · exact hi
    · exact ha
theorem zr_sw_sw (i r a : Nat) : zr_sw i r (zr_sw i r a) = a := by
  unfold zr_sw
  by_cases h1 : a = i
  · rw [if_pos h1]
    by_cases h2 : r = i
    · rw [if_pos h2]; omega
    · rw [if_neg h2, if_pos rfl]; omega
  · rw [if_neg h1]
    by_cases h2 : a = r
    · rw [if_pos h2, if_pos rfl]; omega
    · rw [if_neg h2, if_neg h1, if_neg h2]
theorem zr_62 (hn : n ≤ 35) (hm : m ≤ 35) (hM : zr_mx w n m p M) (hi : i < n) (hr : r < n) (x1 x3 x5 : Int32) {kx : z_M → Option (Int32 × z_M)} {Q : Int32 × z_M → Prop} (hk : ∀ w', (∀ j, j ≠ 19 → w'.1 j = w.1 j) → zr_mx w' n m p (fun a => M (zr_sw i r a)) → z_ok (kx w') Q) : z_ok (z_lp (b_X10_reduced_62 x1 (nI m) x3 (nI r) x5 (nI i)) z_F (0, w) kx) Q := by
  refine z_ok_lp (fun t q => q.1 = nI t ∧ (∀ j, j ≠ 19 → q.2.1 j = w.1 j) ∧ zr_mx q.2 n m p (fun a k => if k < t then M (zr_sw i r a) k else M a k)) m (z_F_lt (by omega)) ⟨rfl, fun _ _ => rfl, fun a ha k hk => by dsimp only; rw [if_neg (by omega)]; exact hM a ha k hk⟩ ?_ ?_
  · rintro t ⟨b, v⟩ ht ⟨e1, e2, e3⟩ kb hkb
    try dsimp only at e1 e2 e3
    subst e1
    have vi := e3 i hi t ht
    have vr := e3 r hr t ht
    try dsimp only at vi vr
    rw [if_neg (by omega)] at vi vr
    unfold b_X10_reduced_62
    try dsimp only
    rw [if_neg (nI_ge ht (by omega)), zr_ix i (by omega) t (by omega), zr_ix r (by omega) t (by omega), z_gdt (z_inb_nI (by omega) (by decide)), z_cl (by omega), z_cl (by omega), z_gI, z_gI, vi.1, vr.1, z_lt, z_gdt (z_inb_nI (by omega) (by decide)), z_gdt (z_inb_nI (by omega) (by decide)), z_lt, z_gdt (z_inb_nI (by omega) (by decide)), z_lt, z_1]
    refine hkb _ ⟨rfl, fun j hj => ?_, fun a ha k hk' => ?_⟩
    · try dsimp only
      rw [z_sI_ne hj, z_sI_ne hj]; exact e2 j hj
    · try dsimp only
      have old := e3 a ha k hk'
      try dsimp only at old
      rw [z_sI_1, z_sI_1]
      by_cases g : k = t
      · subst g
        rw [if_neg (by omega)] at old
        rw [if_pos (show k < k + 1 by omega)]
        unfold zr_sw
        by_cases g1 : a = r
        · subst g1
          rw [if_pos ⟨rfl, rfl⟩]
          by_cases g2 : a = i
          · subst g2
            rw [if_pos rfl]
            exact ⟨rfl, vi.2⟩
          · rw [if_neg g2, if_pos rfl]
            exact ⟨rfl, vi.2⟩
        · rw [if_neg (show ¬ (19 = 19 ∧ 40 * r + k = 40 * a + k) by omega)]
          by_cases g2 : a = i
          · subst g2
            rw [if_pos ⟨rfl, rfl⟩, if_pos rfl]
            exact ⟨rfl, vr.2⟩
          · rw [if_neg (show ¬ (19 = 19 ∧ 40 * i + k = 40 * a + k) by omega), if_neg g2, if_neg g1]
            exact old
      · rw [if_neg (show ¬ (19 = 19 ∧ 40 * r + t = 40 * a + k) by omega), if_neg (show ¬ (19 = 19 ∧ 40 * i + t = 40 * a + k) by omega)]
        by_cases g2 : k < t
        · rw [if_pos g2] at old
          rw [if_pos (by omega)]
          exact old
        · rw [if_neg g2] at old
          rw [if_neg (by omega)]
          exact old
  · rintro ⟨b, v⟩ ⟨e1, e2, e3⟩ kb
    try dsimp only at e1 e2 e3
    subst e1
    unfold b_X10_reduced_62
    try dsimp only
    rw [if_pos (nI_le (Nat.le_refl _) (by omega))]
    refine hk v e2 (fun a ha k hk' => ?_)
    try dsimp only
    have old := e3 a ha k hk'
    try dsimp only at old
    rw [if_pos hk'] at old
    exact old
theorem zr_184 (hp : zv_pr p) (hn : n ≤ 35) (hm : m ≤ 35) (hM : zr_mx w n m p M) (ha : a < n) (hr : r < n) (hne : r ≠ a) {t0 : Nat} (ht0 : t0 < p) (x1 x5 x7 : Int32) {kx : z_M → Option (Int32 × z_M)} {Q : Int32 × z_M → Prop} (hk : ∀ w', (∀ j, j ≠ 19 → w'.1 j = w.1 j) → zr_mx w' n m p (fun b k => if b = a then (M a k + (p - t0) * M r k) % p else M b k) → z_ok (kx w') Q) : z_ok (z_lp (b_X10_reduced_184 x1 (nI m) (nI p) (nI r) x5 x7 (nI a) (nI t0)) z_F (0, w) kx) Q := by
  obtain ⟨hp2, hp8⟩ := zh_p8 hp
  have hp0 : ¬ nI p = 0 := fun q => by
    have := (z_nI0 (by omega)).mp q
    omega
  refine z_ok_lp (fun t q => q.1 = nI t ∧ (∀ j, j ≠ 19 → q.2.1 j = w.1 j) ∧ zr_mx q.2 n m p (fun b k => if b = a ∧ k < t then (M a k + (p - t0) * M r k) % p else M b k)) m (z_F_lt (by omega)) ⟨rfl, fun _ _ => rfl, fun b hb k hk => by dsimp only; rw [if_neg (by omega)]; exact hM b hb k hk⟩ ?_ ?_
  · rintro t ⟨b, v⟩ ht ⟨e1, e2, e3⟩ kb hkb
    try dsimp only at e1 e2 e3
    subst e1
    have va := e3 a ha t ht
    have vr := e3 r hr t ht
    try dsimp only at va vr
    rw [if_neg (by omega)] at va vr
    have hm6 := zh_mul6 (a := p - t0) (b := M r t) (p := p) (by omega) vr.2 hp8
    unfold b_X10_reduced_184
    try dsimp only
    rw [if_neg (nI_ge ht (by omega)), zr_ix a (by omega) t (by omega), zr_ix r (by omega) t (by omega), z_gdt (z_inb_nI (by omega) (by decide)), z_gdt (z_inb_nI (by omega) (by decide)), z_gdt (decide_eq_true hp0), z_gdt (z_inb_nI (by omega) (by decide)), z_cl (by omega), z_cl (by omega), z_gI, z_gI, va.1, vr.1, z_nsub (show t0 ≤ p by omega), z_mulI, nI_add, zh_rd p hp8 (by omega) _ (by omega), z_lt, z_1]
    refine hkb _ ⟨rfl, fun j hj => ?_, fun b hb k hk' => ?_⟩
    · try dsimp only
      rw [z_sI_ne hj]; exact e2 j hj
    · try dsimp only
      have old := e3 b hb k hk'
      try dsimp only at old
      rw [z_sI_1]
      by_cases g : b = a ∧ k = t
      · obtain ⟨rfl, rfl⟩ := g
        rw [if_pos ⟨rfl, rfl⟩, if_pos ⟨rfl, by omega⟩]
        exact ⟨rfl, Nat.mod_lt _ (by omega)⟩
      · rw [if_neg (show ¬ (19 = 19 ∧ 40 * a + t = 40 * b + k) by omega)]
        by_cases g2 : b = a ∧ k < t
        · rw [if_pos g2] at old
          rw [if_pos (by omega)]
          exact old
        · rw [if_neg g2] at old
          rw [if_neg (by omega)]
          exact old
  · rintro ⟨b, v⟩ ⟨e1, e2, e3⟩ kb
    try dsimp only at e1 e2 e3
    subst e1
    unfold b_X10_reduced_184
    try dsimp only
    rw [if_pos (nI_le (Nat.le_refl _) (by omega))]
    refine hk v e2 (fun b hb k hk' => ?_)
    try dsimp only
    have old := e3 b hb k hk'
    try dsimp only at old
    by_cases g : b = a
    · rw [if_pos ⟨g, hk'⟩] at old
      rw [if_pos g]
      exact old
    · rw [if_neg (fun q => g q.1)] at old
      rw [if_neg g]
      exact old
def zr_el (p r j e : Nat) (M : Nat → Nat → Nat) (b k : Nat) : Nat := if r < b then (M b k + (p - M b j * e % p) * M r k) % p else M b k
theorem zr_155 (hp : zv_pr p) (hn : n ≤ 35) (hm : m ≤ 35) (hM : zr_mx w n m p M) (hr : r < n) (hj : j < m) {e : Nat} (he : e < p) {kx : z_M → Option (Int32 × z_M)} {Q : Int32 × z_M → Prop} (hk : ∀ w', (∀ j, j ≠ 19 → w'.1 j = w.1 j) → zr_mx w' n m p (zr_el p r j e M) → z_ok (kx w') Q) : z_ok (z_lp (b_X10_reduced_155 (nI n) (nI m) (nI p) (nI r) (nI j) (nI e)) z_F (nI (r + 1), w) kx) Q := by
  obtain ⟨hp2, hp8⟩ := zh_p8 hp
  have hp0 : ¬ nI p = 0 := fun q => by
    have := (z_nI0 (by omega)).mp q
    omega
  refine z_ok_lp (fun s q => q.1 = nI (r + 1 + s) ∧ (∀ j, j ≠ 19 → q.2.1 j = w.1 j) ∧ zr_mx q.2 n m p (fun b k => if b < r + 1 + s then zr_el p r j e M b k else M b k)) (n - (r + 1)) (z_F_lt (by omega)) ⟨rfl, fun _ _ => rfl, fun b hb k hk => ?_⟩ ?_ ?_
  · try dsimp only
    by_cases g : b < r + 1 + 0
    · rw [if_pos g, zr_el, if_neg (by omega)]
      exact hM b hb k hk
    · rw [if_neg g]
      exact hM b hb k hk
  · rintro s ⟨b, v⟩ hs ⟨e1, e2, e3⟩ kb hkb
    try dsimp only at e1 e2 e3
    subst e1
    have va := e3 (r + 1 + s) (by omega) j hj
    try dsimp only at va
    rw [if_neg (by omega)] at va
    have hm6 := zh_mul6 (a := M (r + 1 + s) j) (b := e) (p := p) (by omega) he hp8
    unfold b_X10_reduced_155
    try dsimp only
    rw [if_neg (nI_ge (by omega) (by omega)), zr_ix (r + 1 + s) (by omega) j (by omega), z_gdt (z_inb_nI (by omega) (by decide)), z_gdt (decide_eq_true hp0), z_cl (by omega), z_gI, va.1, z_mulI, zh_rd p hp8 (by omega) _ (by omega), z_lt, z_1]
    refine zr_184 hp hn hm e3 (a := r + 1 + s) (by omega) hr (by omega) (Nat.mod_lt _ (by omega)) _ _ _ (fun w' f1 f2 => ?_)
    refine hkb _ ⟨rfl, fun i hi => (f1 i hi).trans (e2 i hi), fun b hb k hk' => ?_⟩
    have old := f2 b hb k hk'
    try dsimp only at old ⊢
    by_cases g : b = r + 1 + s
    · subst g
      rw [if_pos rfl, if_neg (show ¬ r + 1 + s < r + 1 + s by omega), if_pos (show r < r + 1 + s by omega)] at old
      rw [if_pos (show r + 1 + s < r + 1 + (s + 1) by omega), zr_el, if_pos (show r < r + 1 + s by omega)]
      rw [zr_el, if_neg (show ¬ r < r by omega)] at old
      exact old
    · rw [if_neg g] at old
      by_cases g2 : b < r + 1 + s
      · rw [if_pos g2] at old
        rw [if_pos (by omega)]
        exact old
      · rw [if_neg g2] at old
        rw [if_neg (by omega)]
        exact old
  · rintro ⟨b, v⟩ ⟨e1, e2, e3⟩ kb
    try dsimp only at e1 e2 e3
    subst e1
    unfold b_X10_reduced_155
    try dsimp only
    rw [if_pos (nI_le (by omega) (by omega))]
    refine hk v e2 (fun b hb k hk' => ?_)
    have old := e3 b hb k hk'
    try dsimp only at old
    rw [if_pos (by omega)] at old
    exact old
end
