section
variable {u w : z_M} {P : z_P}
/-! undo, keep, again -/
theorem z_le93 {i : Nat} (h : i < 93) : ((93 : Int32) ≤ nI i) = False := eq_false (nI_ge (a := i) (b := 93) h (by decide))
theorem z_9393 : ((93 : Int32) ≤ nI 93) = True := by decide
theorem s10_undo {n : Nat} (hn : n < 16) (h4 : w.1 0 4 = nI n) : z_ok (z_lp b_X10_undo_36 z_F (0, w) (fun t10 => some (z_gI t10 0 4, t10))) (fun q => q.1 = nI n ∧ (∀ i, i ≠ 1 → q.2.1 i = w.1 i) ∧ ∀ k, k < 93 → q.2.1 1 k = w.1 3 (93 * n + k)) := by
  refine z_ok_lp (fun j q => q.1 = nI j ∧ (∀ i, i ≠ 1 → q.2.1 i = w.1 i) ∧ ∀ k, k < j → q.2.1 1 k = w.1 3 (93 * n + k)) 93 (by decide) ⟨rfl, fun _ _ => rfl, fun k hk => absurd hk (by omega)⟩ ?_ ?_
  · rintro j ⟨q, v⟩ hj ⟨e1, e2, e3⟩ kb hkb
    dsimp only at e1 e2 e3
    subst e1
    unfold b_X10_undo_36
    simp only [z_le93 hj, if_false, z_ok_gd, z_ok_lt, z_gI, e2 0 (by decide), h4, z_93, z_addI, z_inb_nI (show 93 * n + j < 1488 by omega) (by decide), z_i93 hj, true_and, z_cl (show 93 * n + j < 2 ^ 31 by omega), z_cl (show j < 2 ^ 31 by omega), e2 3 (by decide), z_1]
    refine hkb _ ⟨rfl, fun i hi => ?_, fun k hk => ?_⟩
    · dsimp only
      rw [z_sI_ne hi]
      exact e2 i hi
    · simp only [z_sI_1, true_and]
      by_cases h : j = k
      · rw [if_pos h, h]
      · rw [if_neg h]
        exact e3 k (by omega)
  · rintro ⟨q, v⟩ ⟨e1, e2, e3⟩ kb
    dsimp only at e1 e2 e3
    subst e1
    unfold b_X10_undo_36
    simp only [z_9393, if_true, z_ok_some, z_gI]
    exact ⟨by rw [e2 0 (by decide), h4], e2, e3⟩
theorem s5_pop {m x : Nat} (hm : m < 16) (hx : x < 16) (h3 : u.1 83 1 = nI x) (h4 : u.1 83 2 = nI (m + 1)) : ∃ v, f_X5_pop 0 u = some (1, v) ∧ (∀ i, 4 ≤ i → i ≠ 83 → v.1 i = u.1 i) ∧ v.1 83 1 = nI ((x + 15) % 16) ∧ v.1 83 2 = nI m ∧ ∀ P, z_rc u (16 + 4 * ((x + 15) % 16)) P → z_rc v 0 P := by
  have hy : (x + 15) % 16 < 16 := Nat.mod_lt _ (by decide)
  obtain ⟨u4, hu4⟩ : ∃ u4, u4 = z_sI (z_sI u 83 1 (nI ((x + 15) % 16))) 83 2 (nI m) := ⟨_, rfl⟩
  have g1 : ∀ i, i ≠ 83 → u4.1 i = u.1 i := fun i hi => by rw [hu4, z_sI_ne hi, z_sI_ne hi]
  have g2 : u4.1 83 1 = nI ((x + 15) % 16) := by rw [hu4]; simp [z_sI_1]
  have g3 : u4.1 83 2 = nI m := by rw [hu4]; simp [z_sI_1]
  obtain ⟨v, v1, v2, v3⟩ := s6_copy u4 0 (16 + 4 * ((x + 15) % 16)) (by omega)
  have e83 : (z_sI u 83 1 (nI ((x + 15) % 16))).1 83 2 = nI (m + 1) := by simp [z_sI_1, h4]
  have hpop : j_X5_pop_j28 0 (nI ((x + 15) % 16)) u = some (1, v) := by
    unfold j_X5_pop_j28
    have e84 : z_gI (z_sI u 83 1 (nI ((x + 15) % 16))) 83 2 = nI (m + 1) := e83
    rw [z_lt, z_lt, e84, nI_pred, ← hu4, z_gI, g2, z_inb_nI hy (by decide), z_cl (by omega), v1]
    rfl
  refine ⟨v, ?_, fun i hi h8 => by rw [v2 i (by omega), g1 i h8], by rw [v2 83 (by omega)]; exact g2, by rw [v2 83 (by omega)]; exact g3, fun P hP => v3 P (z_rc_cg (fun j hj => g1 _ (by omega)) hP)⟩
  unfold f_X5_pop
  rw [z_gI, h4, if_neg (nI_ne0 (by omega) (by omega)), z_gI, h3]
  by_cases hx0 : x = 0
  · subst hx0
    rw [if_pos (by decide)]
    exact hpop
  · rw [if_neg (nI_nle (by omega) (by omega))]
    have e : nI x - 1 = nI ((x + 15) % 16) := by
      obtain ⟨y, rfl⟩ : ∃ y, x = y + 1 := ⟨x - 1, by omega⟩
      rw [nI_pred]
      congr 1
      omega
    rw [e]
    exact hpop
theorem s10_undoF (hr : z_rr (w.1 1) P) (hw : z_wf P) (ht : 0 < z_td P) {m : Nat} (hm : m < 16) (h4 : w.1 0 4 = nI (m + 1)) : z_ok (f_X10_undo w) (fun q => q.1 = nI m ∧ (∀ i, i ≠ 0 → i ≠ 1 → q.2.1 i = w.1 i) ∧ (∀ k, k ≠ 0 → k ≠ 4 → q.2.1 0 k = w.1 0 k) ∧ q.2.1 0 4 = nI m ∧ ∀ k, k < 93 → q.2.1 1 k = w.1 3 (93 * m + k)) := by
  have hr' := z_rr0 hr 0
  have e4 : (z_sI w 0 0 0).1 0 4 = nI (m + 1) := by simp [z_sI_1, h4]
  unfold f_X10_undo
  rw [z_ok_lt, s10_isTold hr' hw, Option.bind_some, if_neg (by simp [ht, z_bi]), z_gI, e4, if_neg (nI_ne0 (by omega) (by omega)), z_ok_lt, nI_pred]
  refine z_ok_mono (s10_undo hm (by simp [z_sI_1])) (fun q hq => ⟨hq.1, fun i i0 i1 => by rw [hq.2.1 i i1, z_sI_ne i0, z_sI_ne i0], fun k k0 k4 => ?_, ?_, fun k hk => by rw [hq.2.2 k hk, z_sI_ne (by decide), z_sI_ne (by decide)]⟩)
  · rw [hq.2.1 0 (by decide)]; simp [z_sI_1, Ne.symm k0, Ne.symm k4]
  · rw [hq.2.1 0 (by decide)]; simp [z_sI_1]
theorem p_undo : z_S_undo z_Inv := by
  intro u w hI
  have hI0 := hI.th0
  obtain ⟨⟨P, hw, hc, hr⟩, ⟨n, x, h, h1, h2, h3, h4, h5, h6⟩, ⟨K, hK⟩, ⟨t, T, t1, t2, t3, t4⟩, f1, f2, pm⟩ := hI
  have hr' := z_rr0 hr 0
  have e4 : (z_sI w 0 0 0).1 0 4 = nI n := by simp [z_sI_1, h5]
  by_cases ht : 0 < z_td P
  · by_cases hn : n = 0
    · subst hn
      refine ⟨-2, u, z_sI w 0 0 0, ?_, ?_, hI0⟩
      · unfold f_X9_undo f_X5_pop
        rw [s9_isOrder hc hw, Option.bind_some, if_neg (by simp [ht, z_bi]), z_gI, h4, if_pos nI_0]
        rfl
      · unfold f_X10_undo
        rw [z_lt, s10_isTold hr' hw, Option.bind_some, if_neg (by simp [ht, z_bi]), z_gI, e4, if_pos nI_0]
    · obtain ⟨m, rfl⟩ : ∃ m, n = m + 1 := ⟨n - 1, by omega⟩
      obtain ⟨d1, d2, d3, d4⟩ := h6 m (by omega)
      obtain ⟨v, v1, hv, g1, g2, g3⟩ := s5_pop (m := m) (by omega) h2 h3 h4
      obtain ⟨⟨r2, w2⟩, b1, b2, hw2, hw20, b5, b4⟩ := s10_undoF hr hw ht (m := m) (by omega) h5
      dsimp only at b2 hw2 hw20 b5 b4
      subst b2
      have ei : (x + 16 - (m + 1) + m) % 16 = (x + 15) % 16 := by omega
      have hy : (x + 15) % 16 < 16 := Nat.mod_lt _ (by decide)
      rw [ei] at d3
      refine ⟨nI m, v, w2, ?_, b1, ?_⟩
      · unfold f_X9_undo
        rw [s9_isOrder hc hw, Option.bind_some, if_neg (by simp [ht, z_bi]), v1, z_b2, Option.bind_some, if_neg (show ¬ (1 : Int32) = 0 by decide), z_gI, g2]
      · refine ⟨⟨h m, d1, g3 _ d3, z_rr_cg (fun k hk => b4 k hk) d4⟩, ⟨m, (x + 15) % 16, h, by omega, hy, g1, g2, b5, fun j hj => ?_⟩, ⟨K, fun k hk => ?_⟩, ⟨t, T, t1, by rw [hv 81 (by decide) (by decide)]; exact t2, by rw [hw20 8 (by decide) (by decide)]; exact t3, fun i hi => ?_⟩, by rw [hv 81 (by decide) (by decide), hw20 10 (by decide) (by decide)]; exact f1, by rw [hv 81 (by decide) (by decide), hw20 11 (by decide) (by decide)]; exact f2, ?_⟩
        · obtain ⟨c1, c2, c3, c4⟩ := h6 j (by omega)
          have ej : ((x + 15) % 16 + 16 - m + j) % 16 = (x + 16 - (m + 1) + j) % 16 := by omega
          have := Nat.mod_lt (x + 16 - (m + 1) + j) (show 0 < 16 by decide)
          refine ⟨c1, c2, ?_, ?_⟩
          · rw [ej]
            exact z_rc_cg (fun i hi => hv _ (by omega) (by omega)) c3
          · rw [hw2 3 (by decide) (by decide)]
            exact c4
        · obtain ⟨c1, c2, c3, c4⟩ := hK k hk
          exact ⟨c1, z_rc_cg (fun i hi => hv _ (by omega) (by omega)) c2, by rw [hw2 5 (by decide) (by decide)]; exact c3, by rw [hw2 4 (by decide) (by decide)]; exact c4⟩
        · rw [hv 82 (by decide) (by decide), hw2 6 (by decide) (by decide)]
          exact t4 i hi
        · unfold z_pm
          rw [hv 87 (by decide) (by decide)]
          exact pm
  · refine ⟨-1, u, z_sI w 0 0 0, ?_, ?_, hI0⟩
    · unfold f_X9_undo
      rw [s9_isOrder hc hw, Option.bind_some, if_pos (by simp [ht, z_bi])]
    · unfold f_X10_undo
      rw [z_lt, s10_isTold hr' hw, Option.bind_some, if_pos (by simp [ht, z_bi])]
theorem z_k2 (a : Int32) (h1 : ¬ a < 0) (h2 : a < 2) : ∃ k, k < 2 ∧ a = nI k := by
  obtain ⟨j, hj, rfl⟩ := nI_of h1
  exact ⟨j, by rw [show (2 : Int32) = nI 2 from rfl, z_ltI hj (by decide)] at h2; exact h2, rfl⟩
theorem z_isIn1 (a : Int32) : f_X10_isIn a.toInt64 0 1 = some (z_bi (decide (¬ a < 0) && decide (a < 2))) := by
  rw [z_isIn0 a 1 1 rfl]
  have : (a ≤ 1) = (a < 2) := by
    apply propext
    rw [Int32.le_iff_toInt_le, Int32.lt_iff_toInt_lt, show (1 : Int32).toInt = 1 from rfl, show (2 : Int32).toInt = 2 from rfl]
    omega
  simp only [this]
theorem s10_keep {k : Nat} (hk : k < 2) : z_ok (z_lp (b_X10_keep_26 (nI k)) z_F (0, w) (fun t10 => z_gd (z_inb (nI k) 2) (z_lt (z_sI t10 5 (nI k).toNatClampNeg (vp_nar .boolean 1)) (fun u12 => some ((1 : Int32), u12))))) (fun q => q.1 = 1 ∧ (∀ i, i ≠ 4 → i ≠ 5 → q.2.1 i = w.1 i) ∧ (∀ j, j < 93 → q.2.1 4 (93 * k + j) = w.1 1 j) ∧ (∀ j, (j < 93 * k ∨ 93 * k + 93 ≤ j) → q.2.1 4 j = w.1 4 j) ∧ ∀ j, q.2.1 5 j = if j = k then 1 else w.1 5 j) := by
  refine z_ok_lp (fun j q => q.1 = nI j ∧ (∀ i, i ≠ 4 → q.2.1 i = w.1 i) ∧ (∀ l, l < j → q.2.1 4 (93 * k + l) = w.1 1 l) ∧ (∀ l, (l < 93 * k ∨ 93 * k + 93 ≤ l) → q.2.1 4 l = w.1 4 l)) 93 (by decide) ⟨rfl, fun _ _ => rfl, fun l hl => absurd hl (by omega), fun _ _ => rfl⟩ ?_ ?_
  · rintro j ⟨q, v⟩ hj ⟨e1, e2, e3, e4⟩ kb hkb
    dsimp only at e1 e2 e3 e4
    subst e1
    unfold b_X10_keep_26
    simp only [z_le93 hj, if_false, z_ok_gd, z_ok_lt, z_gI, e2 1 (by decide), z_93, z_addI, z_inb_nI (show 93 * k + j < 186 by omega) (by decide), z_i93 hj, true_and, z_cl (show 93 * k + j < 2 ^ 31 by omega), z_cl (show j < 2 ^ 31 by omega), z_1]
    refine hkb _ ⟨rfl, fun i hi => ?_, fun l hl => ?_, fun l hl => ?_⟩
    · dsimp only
      rw [z_sI_ne hi]
      exact e2 i hi
    · simp only [z_sI_1, true_and]
      by_cases h : j = l
      · rw [if_pos (by omega), h]
      · rw [if_neg (by omega)]
        exact e3 l (by omega)
    · simp only [z_sI_1, true_and]
      rw [if_neg (by omega)]
      exact e4 l hl
  · rintro ⟨q, v⟩ ⟨e1, e2, e3, e4⟩ kb
    dsimp only at e1 e2 e3 e4
    subst e1
    unfold b_X10_keep_26
    simp only [z_9393, if_true, z_ok_gd, z_ok_lt, z_ok_some, z_inb_nI hk (by decide), true_and, z_cl (show k < 2 ^ 31 by omega)]
    refine ⟨fun i i4 i5 => ?_, fun j hj => ?_, fun j hj => ?_, fun j => ?_⟩
    · rw [z_sI_ne i5]
      exact e2 i i4
    · rw [z_sI_ne (by decide)]
      exact e3 j hj
    · rw [z_sI_ne (by decide)]
      exact e4 j hj
    · simp only [z_sI_1, true_and, e2 5 (by decide)]
      by_cases h : j = k
      · rw [if_pos h.symm, if_pos h]; rfl
      · rw [if_neg (Ne.symm h), if_neg h]
theorem p_keep : z_S_keep z_Inv := by
  intro a1 u w hI
  have hI' := hI
  obtain ⟨⟨P, hw, hc, hr⟩, ⟨n, x, h, h1, h2, h3, h4, h5, h6⟩, ⟨K, hK⟩, ⟨t, T, t1, t2, t3, t4⟩, f1, f2, pm⟩ := hI
  have hr' := z_rr0 hr 0
  have hI0 := hI'.th0
  unfold f_X9_keep f_X10_keep
  simp only [s9_isOrder hc hw, s10_isTold hr' hw, z_isIn1, Option.bind_some, z_lt, z_bi_0]
  by_cases ht : 0 < z_td P
  · by_cases c1 : a1 < 0
    · exact ⟨0, u, z_sI w 0 0 0, by simp [ht, c1], by simp [c1], hI0⟩
    by_cases c2 : a1 < 2
    · obtain ⟨k, hk, rfl⟩ := z_k2 a1 c1 c2
      obtain ⟨v, v1, v2, v3⟩ := s6_copy u (8 + 4 * k) 0 (by omega)
      obtain ⟨⟨r2, w2⟩, b1, b2, b3, b4, b5, b6⟩ := s10_keep (w := z_sI w 0 0 0) hk
      dsimp only at b2 b3 b4 b5 b6
      subst b2
      simp only [z_lt] at b1
      have e0 : w2.1 0 = (z_sI w 0 0 0).1 0 := b3 0 (by decide) (by decide)
      have ew : ∀ i, i ≠ 0 → i ≠ 4 → i ≠ 5 → w2.1 i = w.1 i := fun i i0 i4 i5 => by rw [b3 i i4 i5, z_sI_ne i0]
      refine ⟨1, v, w2, ?_, ?_, ?_⟩
      · simp [ht, c1, c2, z_gd, z_inb_nI hk (show 2 < 2 ^ 31 by decide), z_cl (show k < 2 ^ 31 by omega), v1]
      · simp only [c1, c2, ht, not_false_iff, decide_true, Bool.and_self, Bool.true_eq_false, if_false]
        exact b1
      · refine ⟨⟨P, hw, z_rc_cg (fun j hj => v2 _ (by omega)) hc, by rw [ew 1 (by decide) (by decide) (by decide)]; exact hr⟩, ⟨n, x, h, h1, h2, by rw [v2 83 (by omega)]; exact h3, by rw [v2 83 (by omega)]; exact h4, by rw [e0]; simp [z_sI_1, h5], fun j hj => ?_⟩, ⟨fun j => if j = k then P else K j, fun j hj => ?_⟩, ⟨t, T, t1, by rw [v2 81 (by omega)]; exact t2, by rw [e0]; simp [z_sI_1, t3], fun i hi => ?_⟩, by rw [v2 81 (by omega), e0]; simp [z_sI_1, f1], by rw [v2 81 (by omega), e0]; simp [z_sI_1, f2], ?_⟩
        · obtain ⟨d1, d2, d3, d4⟩ := h6 j hj
          have := Nat.mod_lt (x + 16 - n + j) (show 0 < 16 by decide)
          exact ⟨d1, d2, z_rc_cg (fun i hi => v2 _ (by omega)) d3, by rw [ew 3 (by decide) (by decide) (by decide)]; exact d4⟩
        · dsimp only
          by_cases hjk : j = k
          · subst hjk
            have ei : (if j = j then P else K j) = P := if_pos rfl
            simp only [ei]
            refine ⟨hw, v3 _ hc, ?_, fun _ => ?_⟩
            · rw [b6, if_pos rfl]; simp [ht, z_bi]
            · refine z_rr_cg (fun i hi => ?_) hr
              rw [b4 i hi, z_sI_ne (by decide)]
          · have ei : (if j = k then P else K j) = K j := if_neg hjk
            simp only [ei]
            obtain ⟨d1, d2, d3, d4⟩ := hK j hj
            refine ⟨d1, z_rc_cg (fun i hi => v2 _ (by omega)) d2, ?_, fun hp => ?_⟩
            · rw [b6, if_neg hjk, z_sI_ne (by decide)]; exact d3
            · refine z_rr_cg (fun i hi => ?_) (d4 hp)
              rw [b5 _ (by omega), z_sI_ne (by decide)]
        · rw [v2 82 (by omega), ew 6 (by decide) (by decide) (by decide)]
          exact t4 i hi
        · unfold z_pm
          rw [v2 87 (by omega)]
          exact pm
    · exact ⟨0, u, z_sI w 0 0 0, by simp [ht, c1, c2], by simp [c1, c2], hI0⟩
  · refine ⟨0, u, z_sI w 0 0 0, by simp [ht], ?_, hI0⟩
    cases (decide (¬ a1 < 0) && decide (a1 < 2)) <;> simp [ht]
theorem s10_again {k : Nat} (hk : k < 2) : z_ok (z_lp (b_X10_again_32 (nI k)) z_F (0, w) (fun t11 => some ((1 : Int32), t11))) (fun q => q.1 = 1 ∧ (∀ i, i ≠ 1 → q.2.1 i = w.1 i) ∧ ∀ j, j < 93 → q.2.1 1 j = w.1 4 (93 * k + j)) := by
  refine z_ok_lp (fun j q => q.1 = nI j ∧ (∀ i, i ≠ 1 → q.2.1 i = w.1 i) ∧ ∀ l, l < j → q.2.1 1 l = w.1 4 (93 * k + l)) 93 (by decide) ⟨rfl, fun _ _ => rfl, fun l hl => absurd hl (by omega)⟩ ?_ ?_
  · rintro j ⟨q, v⟩ hj ⟨e1, e2, e3⟩ kb hkb
    dsimp only at e1 e2 e3
    subst e1
    unfold b_X10_again_32
    simp only [z_le93 hj, if_false, z_ok_gd, z_ok_lt, z_gI, e2 4 (by decide), z_93, z_addI, z_inb_nI (show 93 * k + j < 186 by omega) (by decide), z_i93 hj, true_and, z_cl (show 93 * k + j < 2 ^ 31 by omega), z_cl (show j < 2 ^ 31 by omega), z_1]
    refine hkb _ ⟨rfl, fun i hi => ?_, fun l hl => ?_⟩
    · dsimp only
      rw [z_sI_ne hi]
      exact e2 i hi
    · simp only [z_sI_1, true_and]
      by_cases h : j = l
      · rw [if_pos h, h]
      · rw [if_neg h]
        exact e3 l (by omega)
  · rintro ⟨q, v⟩ ⟨e1, e2, e3⟩ kb
    dsimp only at e1 e2 e3
    subst e1
    unfold b_X10_again_32
    simp only [z_9393, if_true, z_ok_some]
    exact ⟨trivial, e2, e3⟩
theorem z_kept {K : Nat → z_P} (hK : z_ke u w K) {k : Nat} (hk : k < 2) : (u.1 (8 + 4 * k) 0 ≤ 0) = ¬ 0 < z_td (K k) := by
  have h := (hK k hk).2.1.1
  have h9 := (hK k hk).1.1
  rw [h, show (0 : Int32) = nI 0 from rfl, z_leI (by omega) (by decide)]
  apply propext
  omega
theorem p_again : z_S_again z_Inv := by
  intro a1 u w hI
  obtain ⟨P, hw, hc, hr⟩ := hI.1
  obtain ⟨K, hK⟩ := hI.2.2.1
  have hr' := z_rr0 hr 0
  have hI0 := hI.th0
  unfold f_X9_again f_X9_isKept f_X10_again
  simp only [z_isIn1, Option.bind_some, z_lt, z_bi_0, z_gI]
  by_cases c1 : a1 < 0
  · exact ⟨0, u, z_sI w 0 0 0, by simp [c1], by simp [c1], hI0⟩
  by_cases c2 : a1 < 2
  · obtain ⟨k, hk, rfl⟩ := z_k2 a1 c1 c2
    have hcl : (nI k).toNatClampNeg = k := z_cl (by omega)
    have hib : z_inb (nI k) 2 = true := z_inb_nI hk (by decide)
    have c3 : ¬ (2 : Int32) ≤ nI k := nI_ge (a := k) (b := 2) hk (by decide)
    have e5 : (z_sI w 0 0 0).1 5 k = z_bi (decide (0 < z_td (K k))) := by rw [z_sI_ne (by decide)]; exact (hK k hk).2.2.1
    simp only [c1, c2, c3, if_false, hcl, hib, z_gd, if_true, z_kept hK hk, e5, not_false_iff, decide_true, Bool.and_self, Bool.true_eq_false, z_bi_0]
    by_cases ht : 0 < z_td (K k)
    · obtain ⟨d1, d2, d3, d4⟩ := hK k hk
      have d4 := d4 ht
      obtain ⟨u', w', g1, g2, g3, g4, g5⟩ := z_push hI0 hw hc hr'
      have hK' : w'.1 4 = w.1 4 := by
        obtain ⟨w'', q1, q2, -⟩ := s10_remember (w := z_sI w 0 0 0) (n := hI.2.1.choose) hI.2.1.choose_spec.choose_spec.choose_spec.1 (by
          have := hI.2.1.choose_spec.choose_spec.choose_spec.2.2.2.2.1
          simp [z_sI_1, this])
        rw [g2] at q1
        cases q1
        rw [q2 4 (by decide) (by decide), z_sI_ne (by decide)]
      obtain ⟨v, v1, v2, v3⟩ := s6_copy u' 0 (8 + 4 * k) (by omega)
      obtain ⟨⟨r2, w2⟩, b1, b2, b3, b4⟩ := s10_again (w := w') hk
      dsimp only at b2 b3 b4
      subst b2
      refine ⟨1, v, w2, ?_, ?_, ?_⟩
      · simp [ht, g1, v1]
      · simp only [ht, decide_true, Bool.true_eq_false, if_false, g2, Option.bind_some]
        exact b1
      · refine g3.cur (P := K k) (fun i hi => v2 i (by omega)) b3 d1 (v3 _ (z_rc_cg (fun j hj => g4 _ (by omega)) d2)) (z_rr_cg (fun j hj => ?_) d4)
        rw [b4 j hj, hK']
    · exact ⟨0, u, z_sI w 0 0 0, by simp [ht], by simp [ht], hI0⟩
  · have c3 : (2 : Int32) ≤ a1 := by
      rw [Int32.le_iff_toInt_le]
      rw [Int32.lt_iff_toInt_lt] at c2
      omega
    exact ⟨0, u, z_sI w 0 0 0, by simp [c1, c3], by simp [c1, c2], hI0⟩
end
