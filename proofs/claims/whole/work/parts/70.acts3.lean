section
variable {u w : z_M} {P : z_P}
/-! The tape: sign, end. -/
theorem z_Inv.tape {u w u' w' : z_M} {t : Nat} {T : Nat → Nat} (hI : z_Inv u w) (hu : ∀ i, i ≠ 81 → i ≠ 82 → u'.1 i = u.1 i) (h3 : u'.1 81 3 = u.1 81 3) (h4 : u'.1 81 4 = u.1 81 4) (hw : ∀ i, i ≠ 0 → i ≠ 6 → w'.1 i = w.1 i) (g4 : w'.1 0 4 = w.1 0 4) (g10 : w'.1 0 10 = w.1 0 10) (g11 : w'.1 0 11 = w.1 0 11) (ht : z_tp u' w' t T) : z_Inv u' w' := by
  obtain ⟨⟨P, p1, p2, p3⟩, ⟨n, x, h, h1, h2, e3, e4, e5, h6⟩, ⟨K, hK⟩, -, f1, f2, pm⟩ := hI
  refine ⟨⟨P, p1, z_rc_cg (fun j hj => hu _ (by omega) (by omega)) p2, by rw [hw 1 (by decide) (by decide)]; exact p3⟩, ⟨n, x, h, h1, h2, by rw [hu 83 (by decide) (by decide)]; exact e3, by rw [hu 83 (by decide) (by decide)]; exact e4, by rw [g4]; exact e5, fun j hj => ?_⟩, ⟨K, fun k hk => ?_⟩, ⟨t, T, ht⟩, by rw [h3, g10]; exact f1, by rw [h4, g11]; exact f2, ?_⟩
  · obtain ⟨a1, a2, a3, a4⟩ := h6 j hj
    have := Nat.mod_lt (x + 16 - n + j) (show 0 < 16 by decide)
    exact ⟨a1, a2, z_rc_cg (fun i hi => hu _ (by omega) (by omega)) a3, by rw [hw 3 (by decide) (by decide)]; exact a4⟩
  · obtain ⟨a1, a2, a3, a4⟩ := hK k hk
    exact ⟨a1, z_rc_cg (fun i hi => hu _ (by omega) (by omega)) a2, by rw [hw 5 (by decide) (by decide)]; exact a3, by rw [hw 4 (by decide) (by decide)]; exact a4⟩
  · unfold z_pm
    rw [hu 87 (by decide) (by decide)]
    exact pm
theorem p_end : z_S_end z_Inv := by
  intro a1 u w hI
  obtain ⟨t, T, t1, t2, t3, t4⟩ := hI.2.2.2.1
  have hI0 := hI.th0
  unfold f_X9_end f_X7_cut f_X10_end
  have e8 : (z_sI w 0 0 0).1 0 8 = nI t := by simp [z_sI_1, t3]
  have hin := z_isIn0 a1 (nI t) (nI t).toInt64 (z_i64 _)
  simp only [z_lt, z_gI, e8, t2, hin, Option.bind_some, z_bi_0]
  by_cases h1 : a1 < 0
  · exact ⟨0, u, z_sI w 0 0 0, by simp [h1, z_b2, z_gd], by simp [h1], hI0⟩
  by_cases h2 : a1 ≤ nI t
  · obtain ⟨n, hn, rfl⟩ := nI_of2 (n := t) (nI_toInt (by omega)) h1 h2
    refine ⟨1, z_sI u 81 1 (nI n), z_sI (z_sI w 0 0 0) 0 8 (nI n), by simp [h1, h2, z_b2, z_gd], by simp [h1, h2], ?_⟩
    refine hI0.tape (t := n) (T := T) (fun i h8 _ => z_sI_ne h8) (by simp [z_sI_1]) (by simp [z_sI_1]) (fun i h8 _ => z_sI_ne h8) (by simp [z_sI_1]) (by simp [z_sI_1]) (by simp [z_sI_1]) ⟨by omega, by simp [z_sI_1], by simp [z_sI_1], fun i hi => ?_⟩
    rw [z_sI_ne (by decide), z_sI_ne (by decide), z_sI_ne (by decide)]
    exact t4 i (by omega)
  · exact ⟨0, u, z_sI w 0 0 0, by simp [h1, h2, z_b2, z_gd], by simp [h1, h2], hI0⟩
theorem z_sg_c : ∀ c, c < 256 → vp_nar .char (((nI c).toUInt32 % 65536).toInt32) = nI c ∧ vp_nar .byte ((nI c).toInt8.toInt32) = z_by c := by decide +kernel
theorem z_sg (y : Int32) : ∃ c, c < 256 ∧ vp_nar .char (((y &&& 255).toUInt32 % 65536).toInt32) = nI c ∧ vp_nar .byte (y.toInt8.toInt32) = z_by c := by
  have hc : y.toBitVec.toNat % 256 < 256 := Nat.mod_lt _ (by decide)
  have e1 : y &&& 255 = nI (y.toBitVec.toNat % 256) := by
    apply Int32.toBitVec_inj.1
    show y.toBitVec &&& BitVec.ofNat 32 255 = BitVec.ofNat 32 (y.toBitVec.toNat % 256)
    apply BitVec.eq_of_toNat_eq
    rw [BitVec.toNat_and, BitVec.toNat_ofNat, BitVec.toNat_ofNat, show 255 % 2 ^ 32 = 2 ^ 8 - 1 from rfl, Nat.and_two_pow_sub_one_eq_mod]
    omega
  have e2 : y.toInt8 = (nI (y.toBitVec.toNat % 256)).toInt8 := by
    apply Int8.toBitVec_inj.1
    show y.toBitVec.signExtend 8 = (BitVec.ofNat 32 (y.toBitVec.toNat % 256)).signExtend 8
    rw [BitVec.signExtend_eq_setWidth_of_le _ (by decide), BitVec.signExtend_eq_setWidth_of_le _ (by decide)]
    apply BitVec.eq_of_toNat_eq
    rw [BitVec.toNat_setWidth, BitVec.toNat_setWidth, BitVec.toNat_ofNat]
    omega
  obtain ⟨g1, g2⟩ := z_sg_c _ hc
  exact ⟨_, hc, by rw [e1]; exact g1, by rw [e2]; exact g2⟩
def z_sq (k : Nat) : Int32 := 24 - 8 * nI k
def z_sy (a : Int32) (k : Nat) : Int32 := (a.toUInt32 >>> ((z_sq k).toUInt32 &&& Int32.toUInt32 31)).toInt32
theorem z_sq_f : ∀ k, k < 4 → ¬ z_sq k < 0 ∧ z_sq k + (-8) = z_sq (k + 1) := by decide +kernel
noncomputable def z_sgn (a : Int32) (k : Nat) : Nat := (z_sg (z_sy a k)).choose
theorem z_sgn_ok (a : Int32) (k : Nat) : z_sgn a k < 256 ∧ vp_nar .char (((z_sy a k &&& 255).toUInt32 % 65536).toInt32) = nI (z_sgn a k) ∧ vp_nar .byte ((z_sy a k).toInt8.toInt32) = z_by (z_sgn a k) := (z_sg (z_sy a k)).choose_spec
noncomputable def z_tT (T : Nat → Nat) (t : Nat) (a : Int32) (i : Nat) : Nat := if i < t then T i else z_sgn a (i - t)
theorem s7_sign {t : Nat} {T : Nat → Nat} (a : Int32) (ht : t + 4 ≤ 400) (h1 : u.1 81 1 = nI t) (h2 : ∀ i, i < t → u.1 82 i = nI (T i)) : z_ok (z_lp (b_X7_append_17 a) z_F (24, u) (fun t6 => some (z_gI t6 81 1, t6))) (fun q => q.1 = nI (t + 4) ∧ (∀ i, i ≠ 81 → i ≠ 82 → q.2.1 i = u.1 i) ∧ (∀ k, k ≠ 1 → q.2.1 81 k = u.1 81 k) ∧ q.2.1 81 1 = nI (t + 4) ∧ ∀ i, i < t + 4 → q.2.1 82 i = nI (z_tT T t a i)) := by
  refine z_ok_lp (fun k q => q.1 = z_sq k ∧ (∀ i, i ≠ 81 → i ≠ 82 → q.2.1 i = u.1 i) ∧ (∀ j, j ≠ 1 → q.2.1 81 j = u.1 81 j) ∧ q.2.1 81 1 = nI (t + k) ∧ ∀ i, i < t + k → q.2.1 82 i = nI (z_tT T t a i)) 4 (by decide) ⟨show (24 : Int32) = z_sq 0 by decide +kernel, fun _ _ _ => rfl, fun _ _ => rfl, h1, fun i hi => by rw [h2 i (by omega), z_tT, if_pos (by omega)]⟩ ?_ ?_
  · rintro k ⟨q, v⟩ hk ⟨e1, e2, e3, e4, e5⟩ kb hkb
    dsimp only at e1 e2 e3 e4 e5
    subst e1
    obtain ⟨f1, f2⟩ := z_sq_f k hk
    obtain ⟨g1, g2, -⟩ := z_sgn_ok a k
    have g2 : vp_nar .char ((((a.toUInt32 >>> ((z_sq k).toUInt32 &&& Int32.toUInt32 31)).toInt32 &&& 255).toUInt32 % 65536).toInt32) = nI (z_sgn a k) := g2
    unfold b_X7_append_17
    simp only [f1, if_false, z_ok_gd, z_ok_lt, z_gI, e4, z_inb_nI (show t + k < 400 by omega) (by decide), true_and, z_cl (show t + k < 2 ^ 31 by omega), g2, f2]
    refine hkb _ ⟨rfl, fun i i1 i2 => ?_, fun j hj => ?_, ?_, fun i hi => ?_⟩
    · dsimp only
      rw [z_sI_ne i1, z_sI_ne i2]
      exact e2 i i1 i2
    · simp only [z_sI_1, Ne.symm hj, and_false, if_false, show (82 : Nat) = 81 ↔ False by decide, false_and]
      exact e3 j hj
    · simp only [z_sI_1, show (82 : Nat) = 81 ↔ False by decide, false_and, if_false, true_and, if_true, e4]
      exact nI_1 _
    · dsimp only
      rw [z_sI_ne (by decide)]
      simp only [z_sI_1, true_and]
      by_cases hi2 : t + k = i
      · rw [if_pos hi2, ← hi2, z_tT, if_neg (by omega), show t + k - t = k by omega]
      · rw [if_neg hi2]
        exact e5 i (by omega)
  · rintro ⟨q, v⟩ ⟨e1, e2, e3, e4, e5⟩ kb
    dsimp only at e1 e2 e3 e4 e5
    subst e1
    unfold b_X7_append_17
    rw [if_pos (show z_sq 4 < 0 by decide +kernel), z_ok_some]
    exact ⟨e4, e2, e3, e4, e5⟩
theorem s10_sign {t : Nat} {T : Nat → Nat} (a : Int32) (ht : t + 4 ≤ 400) (h1 : w.1 0 8 = nI t) (h2 : ∀ i, i < t → w.1 6 i = z_by (T i)) : z_ok (z_lp (b_X10_sign_22 a) z_F (24, w) (fun t7 => some (z_gI t7 0 8, t7))) (fun q => q.1 = nI (t + 4) ∧ (∀ i, i ≠ 0 → i ≠ 6 → q.2.1 i = w.1 i) ∧ (∀ k, k ≠ 8 → q.2.1 0 k = w.1 0 k) ∧ q.2.1 0 8 = nI (t + 4) ∧ ∀ i, i < t + 4 → q.2.1 6 i = z_by (z_tT T t a i)) := by
  refine z_ok_lp (fun k q => q.1 = z_sq k ∧ (∀ i, i ≠ 0 → i ≠ 6 → q.2.1 i = w.1 i) ∧ (∀ j, j ≠ 8 → q.2.1 0 j = w.1 0 j) ∧ q.2.1 0 8 = nI (t + k) ∧ ∀ i, i < t + k → q.2.1 6 i = z_by (z_tT T t a i)) 4 (by decide) ⟨show (24 : Int32) = z_sq 0 by decide +kernel, fun _ _ _ => rfl, fun _ _ => rfl, h1, fun i hi => by rw [h2 i (by omega), z_tT, if_pos (by omega)]⟩ ?_ ?_
  · rintro k ⟨q, v⟩ hk ⟨e1, e2, e3, e4, e5⟩ kb hkb
    dsimp only at e1 e2 e3 e4 e5
    subst e1
    obtain ⟨f1, f2⟩ := z_sq_f k hk
    obtain ⟨g1, -, g2⟩ := z_sgn_ok a k
    have g2 : vp_nar .byte ((a.toUInt32 >>> ((z_sq k).toUInt32 &&& Int32.toUInt32 31)).toInt32.toInt8.toInt32) = z_by (z_sgn a k) := g2
    unfold b_X10_sign_22
    simp only [f1, if_false, z_ok_gd, z_ok_lt, z_gI, e4, z_inb_nI (show t + k < 400 by omega) (by decide), true_and, z_cl (show t + k < 2 ^ 31 by omega), g2, f2]
    refine hkb _ ⟨rfl, fun i i1 i2 => ?_, fun j hj => ?_, ?_, fun i hi => ?_⟩
    · dsimp only
      rw [z_sI_ne i1, z_sI_ne i2]
      exact e2 i i1 i2
    · simp only [z_sI_1, Ne.symm hj, and_false, if_false, show (6 : Nat) = 0 ↔ False by decide, false_and]
      exact e3 j hj
    · simp only [z_sI_1, show (6 : Nat) = 0 ↔ False by decide, false_and, if_false, true_and, if_true, e4]
      exact nI_1 _
    · dsimp only
      rw [z_sI_ne (by decide)]
      simp only [z_sI_1, true_and]
      by_cases hi2 : t + k = i
      · rw [if_pos hi2, ← hi2, z_tT, if_neg (by omega), show t + k - t = k by omega]
      · rw [if_neg hi2]
        exact e5 i (by omega)
  · rintro ⟨q, v⟩ ⟨e1, e2, e3, e4, e5⟩ kb
    dsimp only at e1 e2 e3 e4 e5
    subst e1
    unfold b_X10_sign_22
    rw [if_pos (show z_sq 4 < 0 by decide +kernel), z_ok_some]
    exact ⟨e4, e2, e3, e4, e5⟩
theorem p_sign : z_S_sign z_Inv := by
  intro a1 u w hI
  obtain ⟨t, T, t1, t2, t3, t4⟩ := hI.2.2.2.1
  have hI0 := hI.th0
  unfold f_X9_sign f_X7_append f_X10_sign
  have e8 : (z_sI w 0 0 0).1 0 8 = nI t := by simp [z_sI_1, t3]
  have e6 : (z_sI w 0 0 0).1 6 = w.1 6 := z_sI_ne (by decide)
  have el : (nI t + 4 ≤ 400) = (t + 4 ≤ 400) := by
    rw [show nI t + 4 = nI (t + 4) from nI_add t 4]
    exact z_leI (b := 400) (by omega) (by decide)
  simp only [z_lt, z_gI, e8, t2, el]
  by_cases h1 : t + 4 ≤ 400
  · simp only [h1, if_true]
    obtain ⟨⟨r1, u1⟩, a1', a2, a3, a4, a5, a6⟩ := s7_sign (u := u) a1 h1 t2 (fun i hi => (t4 i hi).2.1)
    obtain ⟨⟨r2, w1⟩, b1, b2, b3, b4, b5, b6⟩ := s10_sign (w := z_sI w 0 0 0) a1 h1 e8 (fun i hi => by rw [e6]; exact (t4 i hi).2.2)
    dsimp only at a2 a3 a4 a5 a6 b2 b3 b4 b5 b6
    subst a2 b2
    simp only [z_gI] at a1' b1
    refine ⟨nI (t + 4), u1, w1, by rw [a1']; rfl, b1, ?_⟩
    refine hI0.tape (t := t + 4) (T := z_tT T t a1) a3 (a4 3 (by decide)) (a4 4 (by decide)) b3 (b4 4 (by decide)) (b4 10 (by decide)) (b4 11 (by decide)) ⟨h1, a5, b5, fun i hi => ⟨?_, a6 i hi, b6 i hi⟩⟩
    unfold z_tT
    split
    · rename_i h; exact (t4 i h).1
    · exact (z_sgn_ok a1 _).1
  · simp only [h1, if_false]
    exact ⟨-1, u, z_sI w 0 0 0, rfl, rfl, hI0⟩
end
