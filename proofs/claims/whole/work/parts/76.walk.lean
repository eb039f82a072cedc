section
variable {u w : z_M} {P : z_P}
/-! Rows from a point, by their steps. -/
def z_wk (P : z_P) (W a : Nat) : Nat → Nat → Nat
  | 0, x => if x = a then 1 else 0
  | k + 1, x => fb_sm (fun y => if (z_un P x &&& W).testBit y then z_wk P W a k y else 0) 9
theorem z_wk_pow (W a : Nat) : ∀ k x, z_wk P W a k x ≤ 9 ^ k
  | 0, x => by
    rw [z_wk]
    split <;> simp
  | k + 1, x => by
    rw [z_wk, Nat.pow_succ, Nat.mul_comm]
    refine fb_sm_bound (fun y _ => ?_)
    split
    · exact z_wk_pow W a k y
    · exact Nat.zero_le _
theorem z_wk_8 (W a : Nat) {k : Nat} (hk : k ≤ 8) (x : Nat) : z_wk P W a k x < 2 ^ 31 := by
  have h1 := z_wk_pow (P := P) W a k x
  have h2 : 9 ^ k ≤ 9 ^ 8 := Nat.pow_le_pow_right (by decide) hk
  have h3 : 9 ^ 8 < 2 ^ 31 := by decide
  omega
theorem z_wk_0 (hw : z_wf P) (W a : Nat) : ∀ k x, x < 9 → z_pc (z_un P x) < k → z_wk P W a k x = 0
  | 0, x, _, h => absurd h (Nat.not_lt_zero _)
  | k + 1, x, hx, h => by
    rw [z_wk]
    have : fb_sm (fun y => if (z_un P x &&& W).testBit y then z_wk P W a k y else 0) 9 ≤ 9 * 0 := fb_sm_bound (fun y hy => by
      split
      · rename_i hb
        rw [Nat.testBit_and, Bool.and_eq_true, z_un_bit P hy] at hb
        have := z_un_st hw hy hx hb.1
        rw [z_wk_0 hw W a k y hy (by omega)]
        exact Nat.le_refl _
      · exact Nat.le_refl _)
    omega
theorem z_wk_9 (hw : z_wf P) (W a : Nat) {k x : Nat} (hk : 9 ≤ k) (hx : x < 9) : z_wk P W a k x = 0 := by
  have := z_un_8 hw hx
  exact z_wk_0 hw W a k x hx (by omega)
theorem z_ix9 : ∀ x, x < 9 → ∀ k, k < 9 → nI x * 9 + nI k = nI (9 * x + k) := by decide +kernel
theorem z_ix9m : ∀ x, x < 9 → ∀ k, k < 8 → nI x * 9 + nI (k + 1) - 1 = nI (9 * x + k) := by decide +kernel
theorem z_in81 {x k : Nat} (hx : x < 9) (hk : k < 9) : z_inb (nI (9 * x + k)) 81 = true := z_inb_nI (by omega) (by decide)
theorem z_cl81 {x k : Nat} (hx : x < 9) (hk : k < 9) : (nI (9 * x + k)).toNatClampNeg = 9 * x + k := z_cl (by omega)
theorem s8_addStep {x y : Nat} (hx : x < 9) (hy : y < 9) (hxy : x ≠ y) : z_ok (f_X8_addStep (nI y) (nI x) u) (fun u' => (∀ p, p ≠ 129 → u'.1 p = u.1 p) ∧ (∀ z k, k < 9 → z ≠ x → u'.1 129 (9 * z + k) = u.1 129 (9 * z + k)) ∧ u'.1 129 (9 * x) = u.1 129 (9 * x) ∧ ∀ k, k < 8 → u'.1 129 (9 * x + (k + 1)) = u.1 129 (9 * x + (k + 1)) + u.1 129 (9 * y + k)) := by
  unfold f_X8_addStep
  refine z_ok_lp (fun j q => q.1 = nI (j + 1) ∧ (∀ p, p ≠ 129 → q.2.1 p = u.1 p) ∧ (∀ z k, k < 9 → z ≠ x → q.2.1 129 (9 * z + k) = u.1 129 (9 * z + k)) ∧ q.2.1 129 (9 * x) = u.1 129 (9 * x) ∧ ∀ k, k < 8 → q.2.1 129 (9 * x + (k + 1)) = if k < j then u.1 129 (9 * x + (k + 1)) + u.1 129 (9 * y + k) else u.1 129 (9 * x + (k + 1))) 8 (by decide) ⟨rfl, fun _ _ => rfl, fun _ _ _ _ => rfl, rfl, fun k _ => by simp⟩ ?_ ?_
  · rintro j ⟨jj, v⟩ hj ⟨e1, e2, e3, e4, e5⟩ kb hk
    try dsimp only at e1 e2 e3 e4 e5
    subst e1
    unfold b_X8_addStep_2
    have e5j : v.1 129 (9 * x + (j + 1)) = u.1 129 (9 * x + (j + 1)) := by rw [e5 j hj, if_neg (Nat.lt_irrefl j)]
    simp only [z_le9 (show j + 1 < 9 by omega), if_false, z_ix9 x hx (j + 1) (by omega), z_ix9m y hy j hj, z_ok_gd, z_in81 hx (show j + 1 < 9 by omega), z_in81 hy (show j < 9 by omega), true_and, z_ok_lt, z_gI, z_cl81 hx (show j + 1 < 9 by omega), z_cl81 hy (show j < 9 by omega), e3 y j (by omega) (Ne.symm hxy), e5j, z_1]
    refine hk _ ⟨rfl, fun p hp => ?_, fun z k hk hz => ?_, ?_, fun k hk => ?_⟩
    · try dsimp only
      rw [z_sI_ne hp]; exact e2 p hp
    · simp only [z_sI_1, true_and]
      rw [if_neg (by omega)]; exact e3 z k hk hz
    · simp only [z_sI_1, true_and]
      rw [if_neg (by omega)]; exact e4
    · simp only [z_sI_1, true_and]
      by_cases e : k = j
      · subst e; rw [if_pos rfl, if_pos (by omega)]
      · rw [if_neg (by omega), e5 k hk]
        have : (k < j + 1) = (k < j) := propext ⟨fun h => by omega, fun h => by omega⟩
        simp only [this]
  · rintro ⟨jj, v⟩ ⟨e1, e2, e3, e4, e5⟩ kb
    try dsimp only at e1 e2 e3 e4 e5
    subst e1
    unfold b_X8_addStep_2
    simp only [show ((9 : Int32) ≤ nI (8 + 1)) = True by decide, if_true, z_ok_some]
    exact ⟨e2, e3, e4, fun k hk => by rw [e5 k hk, if_pos hk]⟩
theorem z_fill_1 (u : z_M) (i n : Nat) (v : Int32) (j k : Nat) : (z_fill u i n v).1 j k = if j = i ∧ k < n then v else u.1 j k := by
  unfold z_fill
  rw [z_sA_1]
  by_cases h : j = i
  · subst h
    by_cases h2 : k < n <;> simp [h2]
  · simp [h]
theorem z_fill_ne {u : z_M} {i n : Nat} {v : Int32} {j : Nat} (h : j ≠ i) : (z_fill u i n v).1 j = u.1 j := by
  funext k
  rw [z_fill_1]
  simp [h]
theorem s8_walk (hr : z_rc u 0 P) (hw : z_wf P) {W a : Nat} (hW : W < 512) (ha : a < 9) : z_ok (f_X8_walk 0 (nI a) (nI W) u) (fun u' => (∀ k, k ≠ 126 → k ≠ 129 → u'.1 k = u.1 k) ∧ ∀ x, x < 9 → (z_th P).testBit x = true → W.testBit x = true → ∀ k, k < 9 → u'.1 129 (9 * x + k) = nI (z_wk P W a k x)) := by
  have hm9 := z_pc_le (z_th P)
  unfold f_X8_walk
  rw [z_ok_lt]
  have hr0 : z_rc (z_fill u 129 81 0) 0 P := z_rc_cg (fun j hj => z_fill_ne (by omega)) hr
  obtain ⟨⟨n, v0⟩, q1, q2, q3, q4⟩ := s6_leastRow hr0 hw
  try dsimp only at q2 q3 q4
  subst q2
  rw [q1, z_ok_b2, z_ok_some]
  refine z_ok_lp (fun j q => q.1 = nI j ∧ (∀ k, k ≠ 126 → k ≠ 129 → q.2.1 k = u.1 k) ∧ (∀ i, i < z_pc (z_th P) → q.2.1 126 i = nI (z_rw P i)) ∧ (∀ i, i < j → W.testBit (z_rw P i) = true → ∀ k, k < 9 → q.2.1 129 (9 * z_rw P i + k) = nI (z_wk P W a k (z_rw P i))) ∧ ∀ i, j ≤ i → i < z_pc (z_th P) → ∀ k, k < 9 → q.2.1 129 (9 * z_rw P i + k) = 0) (z_pc (z_th P)) (z_F_lt (by omega)) ⟨rfl, fun k k1 k2 => by rw [q3 k k1, z_fill_ne k2], q4, fun i hi => absurd hi (by omega), fun i _ hi k hk => ?_⟩ ?_ ?_
  · try dsimp only
    have := (z_rw_ok hw hi).1
    rw [q3 129 (by decide), z_fill_1, if_pos ⟨rfl, by omega⟩]
  · rintro j ⟨jj, v⟩ hj ⟨e1, e2, e3, e4, e5⟩ kb hk
    try dsimp only at e1 e2 e3 e4 e5
    subst e1
    obtain ⟨r1, -, -, -, -⟩ := z_rw_ok hw hj
    have hlj : ¬ nI (z_pc (z_th P)) ≤ nI j := nI_ge hj (by omega)
    have ea : (nI (z_rw P j) = nI a) = (z_rw P j = a) := z_eqI (by omega) (by omega)
    have hin : ∀ v1 : z_M, (∀ k, k ≠ 129 → v1.1 k = v.1 k) → (∀ z k, k < 9 → z ≠ z_rw P j → v1.1 129 (9 * z + k) = v.1 129 (9 * z + k)) → v1.1 129 (9 * z_rw P j) = nI (z_wk P W a 0 (z_rw P j)) → (∀ k, k < 8 → v1.1 129 (9 * z_rw P j + (k + 1)) = 0) → ∀ kx : z_M → Option z_M, (∀ t, kx t = kb (nI (j + 1), t)) → z_ok (z_lp (b_X8_walk_69 0 (nI a) (nI W) (nI (z_pc (z_th P))) (nI j) (nI (z_rw P j))) z_F (0, v1) kx) (fun u' => (∀ k, k ≠ 126 → k ≠ 129 → u'.1 k = u.1 k) ∧ ∀ x, x < 9 → (z_th P).testBit x = true → W.testBit x = true → ∀ k, k < 9 → u'.1 129 (9 * x + k) = nI (z_wk P W a k x)) := by
      intro v1 g1 g2 g3 g4 kx hkx
      refine z_ok_l9 (fun y q => q.1 = nI y ∧ (∀ k, k ≠ 129 → q.2.1 k = v.1 k) ∧ (∀ z k, k < 9 → z ≠ z_rw P j → q.2.1 129 (9 * z + k) = v.1 129 (9 * z + k)) ∧ q.2.1 129 (9 * z_rw P j) = nI (z_wk P W a 0 (z_rw P j)) ∧ ∀ k, k < 8 → q.2.1 129 (9 * z_rw P j + (k + 1)) = nI (fb_sm (fun y => if (z_un P (z_rw P j) &&& W).testBit y then z_wk P W a k y else 0) y)) ⟨rfl, g1, g2, g3, fun k hk => g4 k hk⟩ ?_ ?_
      · rintro y ⟨yy, v2⟩ hi ⟨f1, f2, f3, f4, f5⟩ kb' hk'
        try dsimp only at f1 f2 f3 f4 f5
        subst f1
        have h2 : v2.1 (0 + 2) (z_rw P j) = nI (z_un P (z_rw P j)) := by
          rw [f2 _ (by decide), e2 _ (by decide) (by decide)]
          exact hr.2.2.2.2.1 _ r1
        have h2' : v2.1 2 (z_rw P j) = nI (z_un P (z_rw P j)) := h2
        unfold b_X8_walk_69
        simp only [z_le9 hi, if_false, z_ok_gd, z_in9 r1, true_and, z_gI, z_c9 r1, h2, h2', z_and, s_isIn (z_and_lt W (z_un_lt P (z_rw P j))), z_is_nI hi, Option.bind_some, z_ok_bit, z_1]
        refine ⟨fun hb => hk' _ ⟨rfl, f2, f3, f4, fun k hk => ?_⟩, fun hb => ?_⟩
        · try dsimp only
          rw [f5 k hk, fb_sm_succ]
          simp [hb]
        · have hb' := hb
          rw [Nat.testBit_and, Bool.and_eq_true] at hb'
          obtain ⟨i, hij, rfl⟩ := z_rw_bef hw hj hi hb'.1
          have hne := z_rw_ne hw hij hj
          obtain ⟨v3, m1, m2, m3, m4, m5⟩ := s8_addStep (u := v2) r1 hi (Ne.symm hne)
          rw [m1, Option.bind_some]
          refine hk' _ ⟨rfl, fun k hk => ?_, fun z k hk hz => ?_, ?_, fun k hk => ?_⟩
          · try dsimp only
            rw [m2 k hk]; exact f2 k hk
          · try dsimp only
            rw [m3 z k hk hz]; exact f3 z k hk hz
          · try dsimp only
            rw [m4]; exact f4
          · try dsimp only
            rw [m5 k hk, f5 k hk, f3 _ k (by omega) hne, e4 i hij hb'.2 k (by omega), z_addI, fb_sm_succ]
            simp [hb]
      · rintro ⟨yy, v2⟩ ⟨f1, f2, f3, f4, f5⟩ kb'
        try dsimp only at f1 f2 f3 f4 f5
        subst f1
        unfold b_X8_walk_69
        simp only [z_99, if_true]
        rw [hkx]
        refine hk _ ⟨rfl, fun k k1 k2 => ?_, fun i hi => ?_, fun i hi hWi k hk => ?_, fun i hi him k hk => ?_⟩
        · try dsimp only
          rw [f2 k k2]; exact e2 k k1 k2
        · try dsimp only
          rw [f2 126 (by decide)]; exact e3 i hi
        · try dsimp only
          by_cases e : i = j
          · subst e
            cases k with
            | zero => exact f4
            | succ k => exact f5 k (by omega)
          · rw [f3 _ k hk (z_rw_ne hw (show i < j by omega) hj)]
            exact e4 i (by omega) hWi k hk
        · try dsimp only
          rw [f3 _ k hk (Ne.symm (z_rw_ne hw (show j < i by omega) him))]
          exact e5 i (by omega) him k hk
    have e9 : nI (z_rw P j) * 9 = nI (9 * z_rw P j) := (by decide +kernel : ∀ x, x < 9 → nI x * 9 = nI (9 * x)) _ r1
    have c9 : (nI (9 * z_rw P j)).toNatClampNeg = 9 * z_rw P j := z_cl (by omega)
    unfold b_X8_walk_21
    simp only [hlj, if_false, z_ok_gd, z_in9 (show j < 9 by omega), true_and, z_ok_lt, z_gI, z_c9 (show j < 9 by omega), e3 j hj, s_isIn hW, z_is_nI r1, Option.bind_some, z_bi_0, Bool.not_eq_false, z_1, ea, z_ok_ite, e9, c9, z_inb_nI (show 9 * z_rw P j < 81 by omega) (by decide)]
    refine ⟨fun h => hk _ ⟨rfl, e2, e3, fun i hi hWi => ?_, fun i hi him => e5 i (by omega) him⟩, fun h => ⟨fun e => ?_, fun e => ?_⟩⟩
    · by_cases hij : i = j
      · rw [hij, h] at hWi; cases hWi
      · exact e4 i (by omega) hWi
    · refine hin _ (fun k hk => z_sI_ne hk) (fun z k hk hz => ?_) ?_ (fun k hk => ?_) _ (fun t => rfl)
      · rw [z_sI_1, if_neg]
        rintro ⟨-, h⟩
        omega
      · rw [z_sI_1, if_pos ⟨rfl, rfl⟩, z_wk, if_pos e]
        rfl
      · rw [z_sI_1, if_neg (by omega)]
        exact e5 j (Nat.le_refl _) hj (k + 1) (by omega)
    · refine hin _ (fun k hk => rfl) (fun z k hk hz => rfl) ?_ (fun k hk => ?_) _ (fun t => rfl)
      · have := e5 j (Nat.le_refl _) hj 0 (by omega)
        rw [Nat.add_zero] at this
        rw [this, z_wk, if_neg e]
        rfl
      · exact e5 j (Nat.le_refl _) hj (k + 1) (by omega)
  · rintro ⟨jj, v⟩ ⟨e1, e2, e3, e4, e5⟩ kb
    try dsimp only at e1 e2 e3 e4 e5
    subst e1
    unfold b_X8_walk_21
    try dsimp only
    rw [if_pos (nI_le (Nat.le_refl _) (by omega)), z_ok_some]
    refine ⟨e2, fun x hx tx hWx => ?_⟩
    obtain ⟨i, hi, rfl⟩ := z_rw_on hw tx
    exact e4 i hi hWx
theorem s8_walksTo {b : Nat} (hb : b < 9) (k : Int32) {f : Nat → Nat} (h : ∀ k, k < 9 → u.1 129 (9 * b + k) = nI (f k)) : f_X8_walksTo (nI b) k u = some (if k < 0 then 0 else if 9 ≤ k then 0 else nI (f k.toNatClampNeg)) := by
  unfold f_X8_walksTo
  have h1 : ¬ nI b < 0 := nI_pos (by omega)
  rw [if_neg h1, if_neg (by rw [z_le9 hb]; exact id)]
  rcases z_ix k with c | c | ⟨j, hj, rfl⟩
  · rw [if_pos c, if_pos c]
  · by_cases c0 : k < 0
    · rw [if_pos c0, if_pos c0]
    · rw [if_neg c0, if_neg c0, if_pos c, if_pos c]
  · have h3 : ¬ nI j < 0 := nI_pos (by omega)
    rw [if_neg h3, if_neg h3, if_neg (by rw [z_le9 hj]; exact id), if_neg (by rw [z_le9 hj]; exact id), z_ix9 b hb j hj, z_in81 hb hj, z_cl81 hb hj, z_c9 hj]
    simp only [z_gd, if_true, z_gI, h j hj]
/-! steps, as the reference counts them -/
def z_wT (P : z_P) (W a n x : Nat) : Nat := if W.testBit x then z_wk P W a n x else 0
theorem z_wT_su {W a n x : Nat} : ∀ j, fb_sm (fun y => if (z_un P x &&& W).testBit y then z_wT P W a n y else 0) j = fb_sm (fun y => if (z_un P x &&& W).testBit y then z_wk P W a n y else 0) j := fun j => fb_sm_cong (fun y _ => by
  rw [Nat.testBit_and]
  unfold z_wT
  cases (z_un P x).testBit y <;> cases W.testBit y <;> simp)
def z_sK (w : z_M) (P : z_P) (W a n : Nat) (v : z_M) : Prop := (∀ k, k ≠ 8 → k ≠ 13 → v.1 k = w.1 k) ∧ ∀ x, x < 9 → v.1 13 x = nI (z_wT P W a n x)
theorem s10_steps_rnd (hr : z_rr (w.1 1) P) (hw : z_wf P) {W a n : Nat} (hW : W < 512) (hWt : ∀ x, x < 9 → W.testBit x = true → (z_th P).testBit x = true) {v : z_M} (hK : z_sK w P W a n v) {c1 c2 c3 : Int32} {kx : z_M → Option (Int32 × z_M)} {Q : (Int32 × z_M) → Prop} (hk : ∀ v', z_sK w P W a (n + 1) v' → z_ok (kx v') Q) : z_ok (z_lp (b_X10_steps_90 c1 c2 (nI W) c3) z_F (0, v) (fun t30 => z_lp (b_X10_steps_178 c1 c2 (nI W) c3) z_F (0, t30) kx)) Q := by
  obtain ⟨k1, k2⟩ := hK
  refine z_ok_l9 (fun j q => q.1 = nI j ∧ (∀ k, k ≠ 8 → q.2.1 k = v.1 k) ∧ ∀ x, x < j → q.2.1 8 x = nI (z_wT P W a (n + 1) x)) ⟨rfl, fun _ _ => rfl, fun x hx => absurd hx (by omega)⟩ ?_ ?_
  · rintro x ⟨xx, v1⟩ hx ⟨e1, e2, e3⟩ kb hkb
    try dsimp only at e1 e2 e3
    subst e1
    have i512 : z_inb (nI x) 512 = true := z_inb_nI (by omega) (by decide)
    unfold b_X10_steps_90
    simp only [z_le9 hx, if_false, z_ok_gd, i512, true_and, z_ok_lt, z_c9 hx]
    have hend : ∀ v2 : z_M, (∀ k, k ≠ 8 → v2.1 k = v.1 k) → (∀ z, z ≠ x → v2.1 8 z = v1.1 8 z) → v2.1 8 x = nI (z_wT P W a (n + 1) x) → z_ok (kb (nI x + 1, v2)) Q := by
      intro v2 g1 g2 g3
      rw [z_1]
      refine hkb _ ⟨rfl, g1, fun z hz => ?_⟩
      try dsimp only
      by_cases e : z = x
      · subst e; exact g3
      · rw [g2 z e]; exact e3 z (by omega)
    have h0 : (z_sI v1 8 x 0).1 8 x = 0 := by simp [z_sI_1]
    cases hWx : W.testBit x
    · refine z_ok_l9 (fun j q => j = 0 ∧ q = (0, z_sI v1 8 x 0)) ⟨rfl, rfl⟩ ?_ ?_
      · rintro j q hj ⟨rfl, rfl⟩ kb' hk'
        unfold b_X10_steps_108
        simp only [show ((9 : Int32) ≤ 0) = False by decide, if_false, s_has (z_31 hW) hx, hWx, Option.bind_some, show (z_bi false = 0) = True by decide, if_true]
        refine hend _ (fun k hk => by rw [z_sI_ne hk]; exact e2 k hk) (fun z hz => by simp [z_sI_1, Ne.symm hz]) ?_
        rw [h0, z_wT, hWx]
        rfl
      · rintro q ⟨h, -⟩
        cases h
    · have tx := hWt x hx hWx
      refine z_ok_l9 (fun y q => q.1 = nI y ∧ (∀ k, k ≠ 8 → q.2.1 k = v.1 k) ∧ (∀ z, z ≠ x → q.2.1 8 z = v1.1 8 z) ∧ q.2.1 8 x = nI (fb_sm (fun y => if (z_un P x &&& W).testBit y then z_wT P W a n y else 0) y)) ⟨rfl, fun k hk => by rw [z_sI_ne hk]; exact e2 k hk, fun z hz => by simp [z_sI_1, Ne.symm hz], h0⟩ ?_ ?_
      · rintro y ⟨yy, v2⟩ hy ⟨f1, f2, f3, f4⟩ kb' hk'
        try dsimp only at f1 f2 f3 f4
        subst f1
        have hrv : z_rr (v2.1 1) P := by rw [f2 1 (by decide), k1 1 (by decide) (by decide)]; exact hr
        have e13 : v2.1 13 y = nI (z_wT P W a n y) := by rw [f2 13 (by decide)]; exact k2 y hy
        unfold b_X10_steps_108
        simp only [z_le9 hy, if_false, s_has (z_31 hW) hx, hWx, Option.bind_some, show (z_bi true = 0) = False by decide, z_ok_gd, i512, true_and, s10_belowT hrv hw hx tx, z_and, s_has (z_31 (z_and_lt (z_un P x) hW)) hy, z_ok_bit, z_ok_lt, z_gI, z_c9 hx, z_c9 hy, z_in9 hy, f4, e13, z_add0, z_addI, z_1]
        refine ⟨fun hb => hk' _ ⟨rfl, fun k hk => ?_, fun z hz => ?_, ?_⟩, fun hb => hk' _ ⟨rfl, fun k hk => ?_, fun z hz => ?_, ?_⟩⟩
        · try dsimp only
          rw [z_sI_ne hk]; exact f2 k hk
        · simp only [z_sI_1, Ne.symm hz, and_false, if_false]; exact f3 z hz
        · rw [Nat.and_comm] at hb
          simp only [z_sI_1, and_self, if_true]
          rw [fb_sm_succ]; simp [hb]
        · try dsimp only
          rw [z_sI_ne hk]; exact f2 k hk
        · simp only [z_sI_1, Ne.symm hz, and_false, if_false]; exact f3 z hz
        · rw [Nat.and_comm] at hb
          simp only [z_sI_1, and_self, if_true]
          rw [fb_sm_succ]; simp [hb]
      · rintro ⟨yy, v2⟩ ⟨f1, f2, f3, f4⟩ kb'
        try dsimp only at f1 f2 f3 f4
        subst f1
        unfold b_X10_steps_108
        simp only [z_99, if_true]
        refine hend v2 f2 f3 ?_
        rw [f4, z_wT_su, z_wT, hWx]
        rfl
  · rintro ⟨xx, v1⟩ ⟨e1, e2, e3⟩ kb
    try dsimp only at e1 e2 e3
    subst e1
    unfold b_X10_steps_90
    simp only [z_99, if_true]
    refine z_ok_l9 (fun j q => q.1 = nI j ∧ (∀ k, k ≠ 13 → q.2.1 k = v1.1 k) ∧ ∀ x, x < j → q.2.1 13 x = nI (z_wT P W a (n + 1) x)) ⟨rfl, fun _ _ => rfl, fun x hx => absurd hx (by omega)⟩ ?_ ?_
    · rintro x ⟨xx, v2⟩ hx ⟨f1, f2, f3⟩ kb' hk'
      try dsimp only at f1 f2 f3
      subst f1
      have i512 : z_inb (nI x) 512 = true := z_inb_nI (by omega) (by decide)
      have e8 : v2.1 8 x = nI (z_wT P W a (n + 1) x) := by rw [f2 8 (by decide)]; exact e3 x hx
      unfold b_X10_steps_178
      simp only [z_le9 hx, if_false, z_ok_gd, i512, z_in9 hx, true_and, z_ok_lt, z_gI, z_c9 hx, e8, z_1]
      refine hk' _ ⟨rfl, fun k hk => ?_, fun z hz => ?_⟩
      · try dsimp only
        rw [z_sI_ne hk]; exact f2 k hk
      · simp only [z_sI_1, true_and]
        by_cases e : x = z
        · subst e; rw [if_pos rfl]
        · rw [if_neg e]; exact f3 z (by omega)
    · rintro ⟨xx, v2⟩ ⟨f1, f2, f3⟩ kb'
      try dsimp only at f1 f2 f3
      subst f1
      unfold b_X10_steps_178
      simp only [z_99, if_true]
      exact hk v2 ⟨fun k k8 k13 => by rw [f2 k k13, e2 k k8]; exact k1 k k8 k13, f3⟩
theorem p_steps : z_S_steps z_Inv := by
  intro a1 a2 a3 u w hI
  refine z_rd2 hI (fun P hw hc hr pm => ?_)
  have hr' := z_rr0 hr 0
  unfold f_X9_steps f_X10_steps j_X10_steps_j19
  by_cases h3 : a3 < 0
  · have h3' : ¬ 0 ≤ a3 := by
      rw [Int32.le_iff_toInt_le]
      rw [Int32.lt_iff_toInt_lt] at h3
      omega
    refine ⟨-1, ?_, ?_⟩
    · rw [if_neg h3', z_ok_some]
      exact ⟨rfl, z_eC.rf pm⟩
    · rw [z_ok_lt, if_pos h3, if_neg (by decide), z_ok_some]
      exact ⟨rfl, z_eR0 w⟩
  obtain ⟨k, hk, rfl⟩ := nI_of h3
  have h3' : 0 ≤ nI k := nI_le (Nat.zero_le k) hk
  rw [if_pos h3', s9_troubleOf hc hw, Option.bind_some, z_lt, if_neg h3, s10_refusal hr' hw, Option.bind_some]
  rcases z_tr_cases P hw a1 a2 with h | h | ⟨h, x, y, hx, hy, rfl, rfl, tx, ty, hxy⟩
  · refine ⟨-1, ?_, ?_⟩
    · rw [h, if_neg (by decide), z_ok_some]
      exact ⟨rfl, z_eC.rf pm⟩
    · rw [h, if_neg (by decide), z_ok_some]
      exact ⟨rfl, z_eR0 w⟩
  · refine ⟨-2, ?_, ?_⟩
    · rw [h, if_neg (by decide), z_ok_some]
      exact ⟨rfl, z_eC.rf pm⟩
    · rw [h, if_neg (by decide), z_ok_some]
      exact ⟨rfl, z_eR0 w⟩
  · have hbt := z_bt_lt hw hx (b := y)
    have hWt : ∀ k, k < 9 → (z_bt P x y).testBit k = true → (z_th P).testBit k = true := fun k hk hb => z_bt_in hw hx tx hk hb
    have hWx : (z_bt P x y).testBit x = true := by
      rw [z_bt_bit hx]
      rcases hxy with h | h <;> simp [h]
    obtain ⟨u1, q1, q2, q3⟩ := s8_walk hc hw hbt hx
    refine ⟨nI (z_wk P (z_bt P x y) x (min k 9) y), ?_, ?_⟩
    · rw [h, if_pos rfl, s6_between hc hw hx hy tx ty, Option.bind_some, q1, Option.bind_some, s8_walksTo hy (nI k) (q3 y hy ty (z_bt_b hy hxy)), Option.bind_some, z_ok_some, if_neg h3]
      refine ⟨?_, z_eC.of pm (fun j hj => q2 j (by omega) (by omega))⟩
      by_cases hk9 : k < 9
      · rw [if_neg (by rw [z_le9 hk9]; exact id), z_c9 hk9, show min k 9 = k by omega]
      · rw [if_pos (show (9 : Int32) ≤ nI k from nI_le (a := 9) (by omega) hk), show min k 9 = 9 by omega, z_wk_9 hw _ _ (Nat.le_refl 9) hy]
        rfl
    · rw [h, if_pos (by decide), s10_between hr' hw hx hy tx ty, Option.bind_some]
      refine z_ok_l9 (fun j q => q.1 = nI j ∧ (∀ k, k ≠ 13 → q.2.1 k = (z_sI w 0 0 0).1 k) ∧ ∀ z, z < j → q.2.1 13 z = nI (z_wT P (z_bt P x y) x 0 z)) ⟨rfl, fun _ _ => rfl, fun x hx => absurd hx (by omega)⟩ ?_ ?_
      · rintro j ⟨jj, v⟩ hi ⟨e1, e2, e3⟩ kb hkb
        try dsimp only at e1 e2 e3
        subst e1
        unfold b_X10_steps_40
        have ea : (nI j = nI x) = (j = x) := z_eqI (by omega) (by omega)
        simp only [z_le9 hi, if_false, ea, z_ok_ite, z_ok_gd, z_in9 hi, true_and, z_ok_lt, z_c9 hi, z_1]
        refine ⟨fun h => hkb _ ⟨rfl, fun k hk => ?_, fun z hz => ?_⟩, fun h => hkb _ ⟨rfl, fun k hk => ?_, fun z hz => ?_⟩⟩
        · try dsimp only
          rw [z_sI_ne hk]; exact e2 k hk
        · simp only [z_sI_1, true_and]
          by_cases e : j = z
          · subst e; rw [if_pos rfl, z_wT, h, hWx, z_wk]; simp; rfl
          · rw [if_neg e]; exact e3 z (by omega)
        · try dsimp only
          rw [z_sI_ne hk]; exact e2 k hk
        · simp only [z_sI_1, true_and]
          by_cases e : j = z
          · subst e; rw [if_pos rfl, z_wT, z_wk]; simp [h]; rfl
          · rw [if_neg e]; exact e3 z (by omega)
      · rintro ⟨jj, v⟩ ⟨e1, e2, e3⟩ kb
        try dsimp only at e1 e2 e3
        subst e1
        unfold b_X10_steps_40
        simp only [z_99, if_true]
        refine z_ok_lp (fun n q => q.1 = nI n ∧ z_sK (z_sI w 0 0 0) P (z_bt P x y) x n q.2) (min k 9) (z_F_lt (by omega)) ⟨rfl, fun j _ j13 => e2 j j13, e3⟩ ?_ ?_
        · rintro n ⟨nn, v1⟩ hn ⟨f1, f2⟩ kb' hkb'
          try dsimp only at f1 f2
          subst f1
          unfold b_X10_steps_74
          try dsimp only
          rw [if_neg (nI_ge (show n < k by omega) hk), if_neg (by rw [z_le9 (show n < 9 by omega)]; exact id)]
          refine s10_steps_rnd hr' hw hbt hWt f2 (fun v' hv' => ?_)
          rw [z_1]
          exact hkb' _ ⟨rfl, hv'⟩
        · rintro ⟨nn, v1⟩ ⟨f1, f2⟩ kb'
          try dsimp only at f1 f2
          subst f1
          unfold b_X10_steps_74
          try dsimp only
          have hfin : z_ok (z_gd (z_inb (nI y) 9) (some (z_gI v1 13 (nI y).toNatClampNeg, v1))) (fun q => q.1 = nI (z_wk P (z_bt P x y) x (min k 9) y) ∧ z_eR w q.2) := by
            rw [z_ok_gd, z_ok_some, z_gI, z_c9 hy, f2.2 y hy, z_wT, z_bt_b hy hxy]
            exact ⟨z_in9 hy, rfl, z_eR.tr (z_eR0 w) (z_eR.of (fun j hj => f2.1 j (by omega) (by omega)))⟩
          by_cases hk9 : k ≤ 9
          · rw [if_pos (nI_le (by omega) (by omega))]
            exact hfin
          · rw [if_neg (nI_ge (by omega) hk), if_pos (show (9 : Int32) ≤ nI (min k 9) from nI_le (a := 9) (by omega) (by omega))]
            exact hfin
end
