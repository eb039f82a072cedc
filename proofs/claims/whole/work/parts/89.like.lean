section
variable {u w v : z_M} {P R : z_P}
theorem z_ca_le : ∀ d x (f : Nat → Nat), z_ca P R d x f ≤ 9 ^ d
  | 0, _, _ => Nat.le_refl _
  | d + 1, x, f => by
    rw [z_ca]
    cases tx : (z_th P).testBit x
    · simp only [Bool.false_eq_true, if_false]
      have := z_ca_le d (x + 1) f
      rw [Nat.pow_succ]
      omega
    · simp only [if_true]
      rw [Nat.pow_succ, Nat.mul_comm]
      refine fb_sm_bound (fun y _ => ?_)
      split
      · exact z_ca_le d (x + 1) _
      · exact Nat.zero_le _
theorem z_ca_31 (f : Nat → Nat) : z_ca P R 9 0 f < 2 ^ 31 := Nat.lt_of_le_of_lt (z_ca_le 9 0 f) (by decide)
theorem z_93k (k : Nat) (c : Nat) : (93 : Int32) * nI k + nI c = nI (93 * k + c) := by rw [z_93, z_addI]
theorem p_like : z_S_like z_Inv := by
  intro a1 u w hI
  have hK := hI.2.2.1
  obtain ⟨K, hK⟩ := hK
  refine z_rd2 hI (fun P hw hc hr pm => ?_)
  have hr' := z_rr0 hr 0
  have hlow : z_ok (some ((-1 : Int32), u)) (fun q => q.1 = -1 ∧ z_eC u q.2) := by simpa [z_ok_some] using z_eC.rf pm
  have hlow2 : z_ok (some ((-1 : Int32), z_sI w 0 0 0)) (fun q => q.1 = -1 ∧ z_eR w q.2) := by simpa [z_ok_some] using z_eR0 w
  unfold f_X9_like f_X9_isKept f_X10_like
  by_cases c1 : a1 < 0
  · exact ⟨-1, by rw [if_pos c1, Option.bind_some, if_pos rfl]; exact hlow, by rw [z_ok_lt, z_isIn1, Option.bind_some, if_pos (by simp [c1, z_bi])]; exact hlow2⟩
  by_cases c2 : a1 < 2
  · obtain ⟨k, hk, rfl⟩ := z_k2 a1 c1 c2
    have hcl : (nI k).toNatClampNeg = k := z_cl (by omega)
    have hib : z_inb (nI k) 2 = true := z_inb_nI hk (by decide)
    have c3 : ¬ (2 : Int32) ≤ nI k := nI_ge (a := k) (b := 2) hk (by decide)
    have e5 : (z_sI w 0 0 0).1 5 k = z_bi (decide (0 < z_td (K k))) := by rw [z_sI_ne (by decide)]; exact (hK k hk).2.2.1
    obtain ⟨d1, d2, d3, d4⟩ := hK k hk
    rw [if_neg c1, if_neg c3, hib, z_gd, if_pos rfl, z_gI, hcl, z_lt, z_isIn1, Option.bind_some, if_neg (show ¬ z_bi (decide (¬ nI k < 0) && decide (nI k < 2)) = 0 by simp [c1, c2, z_bi]), z_gd, if_pos rfl, z_gI, e5]
    by_cases ht : 0 < z_td (K k)
    · have d4 := d4 ht
      have hle : ¬ u.1 (8 + 4 * k) 0 ≤ 0 := by rw [z_kept hK hk]; exact fun c => c ht
      rw [if_neg hle, Option.bind_some, if_neg (show ¬ (1 : Int32) = 0 by decide), z_gd, if_pos rfl, if_neg (by simp [ht, z_bi])]
      have e9 : (9 : Int32).toNatClampNeg = 9 := rfl
      have e31 : (93 : Int32) * nI k + 1 = nI (93 * k + 1) := z_93k k 1
      have eb1 : z_bitc (nI (z_th P)) = nI (z_pc (z_th P)) := s_bitc hw.th
      have eb2 : z_bitc (nI (z_th (K k))) = nI (z_pc (z_th (K k))) := s_bitc d1.th
      have eth : w.1 4 (93 * k + 1) = nI (z_th (K k)) := d4.2.1
      refine ⟨z_bi (decide (z_pc (z_th P) = z_pc (z_th (K k)) ∧ 0 < z_ca P (K k) 9 0 (fun z => z))), ?_, ?_⟩
      · obtain ⟨⟨r, u1⟩, g1, g2, g3⟩ := s4_isLike (i1 := 0) (i2 := 8 + 4 * k) (by decide) (by omega) hc d2 hw d1
        dsimp only at g2 g3
        have hC : z_eC u u1 := z_eC.of pm (fun j hj => g3 j (by omega))
        rw [g1, z_ok_b2, z_ok_some]
        dsimp only
        rw [g2]
        unfold f_X9_asNumber
        by_cases c : z_pc (z_th P) = z_pc (z_th (K k)) ∧ 0 < z_ca P (K k) 9 0 (fun z => z)
        · rw [decide_eq_true c, if_neg (show ¬ z_bi true = 0 by decide), Option.bind_some, z_ok_some]
          exact ⟨rfl, hC⟩
        · rw [decide_eq_false c, if_pos (show z_bi false = 0 from rfl), Option.bind_some, z_ok_some]
          exact ⟨rfl, hC⟩
      · rw [e31, z_ok_gd, z_ok_gd, z_ok_lt, z_gI, z_cl (show 93 * k + 1 < 2 ^ 31 by omega), z_sI_ne (show (4 : Nat) ≠ 0 by decide), eth, e9]
        refine ⟨z_inb_nI (by omega) (by decide), rfl, ?_⟩
        refine z_ok_l9 (fun j q => q.1 = nI j ∧ (∀ i, i ≠ 20 → q.2.1 i = (z_sI w 0 0 0).1 i) ∧ q.2.1 20 9 = nI (z_th (K k)) ∧ ∀ z, z < j → (z_th (K k)).testBit z = true → q.2.1 20 z = nI (z_ab (K k) z)) ⟨rfl, fun i hi => z_sI_ne hi, by simp [z_sI_1], fun z hz => absurd hz (by omega)⟩ ?_ ?_
        · rintro j ⟨jj, v⟩ hi ⟨f1, f2, f3, f4⟩ kb hkb
          dsimp only at f1 f2 f3 f4
          subst f1
          have e33 : (93 : Int32) * nI k + 3 + nI j = nI (93 * k + (3 + j)) := by
            rw [show (93 : Int32) * nI k + 3 = nI (93 * k + 3) from z_93k k 3, z_addI]
            congr 1
            omega
          obtain ⟨r1, r2, r3⟩ := d4.2.2.2.1 j hi
          have e4j : v.1 4 (93 * k + (3 + j)) = nI (z_rv (fun i => w.1 4 (93 * k + i)) j) := by
            rw [f2 4 (by decide), z_sI_ne (show (4 : Nat) ≠ 0 by decide)]
            exact r1
          have hj10 : z_inb (nI j) 10 = true := z_inb_nI (by omega) (by decide)
          unfold b_X10_like_46
          dsimp only
          rw [if_neg (show ¬ (9 : Int32) ≤ nI j by rw [z_le9 hi]; exact id), e33, z_ok_gd, z_ok_gd, z_ok_gd, z_ok_lt, z_gI, z_gI, z_cl (show 93 * k + (3 + j) < 2 ^ 31 by omega), e4j, e9, f3, z_and, z_c9 hi, z_1]
          refine ⟨z_inb_nI (by omega) (by decide), rfl, hj10, hkb _ ⟨rfl, fun i hi => ?_, ?_, fun z hz tz => ?_⟩⟩
          · dsimp only
            rw [z_sI_ne hi]; exact f2 i hi
          · dsimp only
            rw [z_sI_1, if_neg (by omega)]; exact f3
          · simp only [z_sI_1, true_and]
            by_cases e : j = z
            · subst e; rw [if_pos rfl, r3 tz]
            · rw [if_neg e]; exact f4 z (by omega) tz
        · rintro ⟨jj, v⟩ ⟨f1, f2, f3, f4⟩ kb
          dsimp only at f1 f2 f3 f4
          subst f1
          have hrv : z_rr (v.1 1) P := by rw [f2 1 (by decide)]; exact hr'
          unfold b_X10_like_46
          dsimp only
          rw [if_pos (show (9 : Int32) ≤ nI 9 by decide), z_ok_gd, z_gI, f3, s_bits d1.th, Option.bind_some, z_ok_gd, z_gI, z_c1, hrv.2.1, s_bits hw.th, Option.bind_some, z_ok_ite, z_pcI]
          have hR : ∀ v' : z_M, (∀ k, k ≠ 21 → v'.1 k = v.1 k) → z_eR w v' := fun v' h => z_eR.tr (z_eR0 w) (z_eR.of (fun j hj => by rw [h j (by omega)]; exact f2 j (by omega)))
          refine ⟨rfl, rfl, fun hpc => ?_, fun hpc => ?_⟩
          · obtain ⟨⟨r2, w2⟩, b1, b2, b3⟩ := s10_laidOn (w := v) hrv (R := K k) ⟨f3, f4⟩ hw d1
            dsimp only at b2 b3
            have h31 := z_ca_31 (P := P) (R := K k) (fun z => z)
            rw [b1, z_ok_b2, z_ok_some]
            dsimp only
            rw [b2]
            by_cases hp : 0 < z_ca P (K k) 9 0 (fun z => z)
            · rw [if_neg (nI_nle hp h31), z_ok_some, decide_eq_true ⟨hpc.symm, hp⟩]
              exact ⟨rfl, hR w2 b3⟩
            · rw [if_pos (by rw [show z_ca P (K k) 9 0 (fun z => z) = 0 by omega]; decide), z_ok_some, decide_eq_false (fun c => hp c.2)]
              exact ⟨rfl, hR w2 b3⟩
          · rw [z_ok_some, decide_eq_false (fun c => hpc c.1.symm)]
            exact ⟨rfl, hR v (fun _ _ => rfl)⟩
    · have hle : u.1 (8 + 4 * k) 0 ≤ 0 := by rw [z_kept hK hk]; exact ht
      exact ⟨-1, by rw [if_pos hle, Option.bind_some, if_pos rfl]; exact hlow, by rw [if_pos (by simp [ht, z_bi])]; exact hlow2⟩
  · have c3 : (2 : Int32) ≤ a1 := by
      rw [Int32.le_iff_toInt_le]
      rw [Int32.lt_iff_toInt_lt] at c2
      omega
    exact ⟨-1, by rw [if_neg c1, if_pos c3, Option.bind_some, if_pos rfl]; exact hlow, by rw [z_ok_lt, z_isIn1, Option.bind_some, if_pos (by simp [c2, z_bi])]; exact hlow2⟩
end
