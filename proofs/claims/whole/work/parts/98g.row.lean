section
variable {u w v u0 w0 : z_M} {D : z_P} {T : Nat → Nat} {N p s : Nat}
theorem z_tkk_c (c : Nat) (hc : c = 59 ∨ c = 60) : (z_tkk T N s = c - 54 ↔ s < N ∧ T s = c) ∧ (z_tkk T N s = c - 54 → z_tke T N s = s + 1) := by
  have hw : z_wkd T N s = 1 ∨ z_wkd T N s = 2 ∨ z_wkd T N s = 3 ∨ z_wkd T N s = 7 := by
    unfold z_wkd
    split
    · exact Or.inl rfl
    · split
      · exact Or.inr (Or.inl rfl)
      · split
        · exact Or.inr (Or.inr (Or.inl rfl))
        · exact Or.inr (Or.inr (Or.inr rfl))
  unfold z_tkk z_tke
  by_cases h : s < N
  · rw [if_pos h, if_pos h]
    by_cases cl : z_ql T s = true
    · rw [if_pos cl, if_pos cl]
      have h2 := cl
      unfold z_ql at h2
      rw [Bool.and_eq_true, decide_eq_true_eq, decide_eq_true_eq] at h2
      exact ⟨⟨fun q => by omega, fun q => by omega⟩, fun q => by omega⟩
    · rw [if_neg cl, if_neg cl]
      by_cases cd : z_qd T s = true
      · rw [if_pos cd, if_pos cd]
        have h2 := cd
        unfold z_qd at h2
        rw [Bool.and_eq_true, decide_eq_true_eq, decide_eq_true_eq] at h2
        exact ⟨⟨fun q => by omega, fun q => by omega⟩, fun q => by omega⟩
      · rw [if_neg cd, if_neg cd]
        refine ⟨⟨fun q => ⟨h, ?_⟩, fun q => ?_⟩, fun _ => rfl⟩
        · by_cases c1 : T s = 59
          · rw [if_pos c1] at q; omega
          · rw [if_neg c1] at q
            by_cases c2 : T s = 60
            · rw [if_pos c2] at q; omega
            · rw [if_neg c2] at q; omega
        · by_cases c1 : T s = 59
          · rw [if_pos c1]; omega
          · rw [if_neg c1, if_pos (show T s = 60 by omega)]; omega
  · rw [if_neg h, if_neg h]
    exact ⟨⟨fun q => by omega, fun q => absurd q.1 h⟩, fun q => by omega⟩
/-- a sign of one character is taken by both -/
theorem z_takeS (h : z_pst u0 w0 T N u w D p) (ht : z_tok u T N (z_to (z_qb T) N p)) (c : Nat) (hc : c = 59 ∨ c = 60) : (z_gI u 81 7 = nI (c - 54) ∧ ∃ q, p < q ∧ q ≤ N ∧ f_X10_takes (nI c) w = some (1, z_sI w 0 9 (nI q)) ∧ z_cw u T N q ∧ z_pst u0 w0 T N u (z_sI w 0 9 (nI q)) D q) ∨ (¬ z_gI u 81 7 = nI (c - 54) ∧ f_X10_takes (nI c) w = some (0, z_sI w 0 9 (nI (z_to (z_qb T) N p))) ∧ z_pst u0 w0 T N u (z_sI w 0 9 (nI (z_to (z_qb T) N p))) D (z_to (z_qb T) N p)) := by
  have hww := h.2.2.2.2.2.2.2
  have hok := z_to_ok (z_qb T) hww.2.2.1
  have h12 : ¬ w.1 0 12 = 0 := h.2.2.2.1
  obtain ⟨k1, k2⟩ := z_tkk_c (T := T) (N := N) (s := z_to (z_qb T) N p) c hc
  have h7 := z_tkk_7 T N (z_to (z_qb T) N p)
  have e7 : (z_gI u 81 7 = nI (c - 54)) = (z_tkk T N (z_to (z_qb T) N p) = c - 54) := by
    rw [z_gI, ht.2.1]
    exact z_eqI (by omega) (by omega)
  rw [s10_takes hww h12 (by omega) (by omega), e7]
  by_cases g : z_to (z_qb T) N p < N ∧ T (z_to (z_qb T) N p) = c
  · left
    rw [if_pos g]
    refine ⟨k1.mpr g, z_to (z_qb T) N p + 1, by omega, by omega, rfl, ⟨h.2.1.1, ?_, by omega, hww.2.2.2.1, h.2.1.2⟩, h.mvw (by omega)⟩
    rw [ht.2.2.1, k2 (k1.mpr g)]
  · right
    rw [if_neg g]
    exact ⟨fun q => g (k1.mp q), rfl, h.mvw hok.2.1⟩
end
