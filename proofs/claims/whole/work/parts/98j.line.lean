section
variable {u w v u0 w0 : z_M} {D : z_P} {T : Nat → Nat} {N p s : Nat}
/-- a row with no sign at its head -/
theorem z_row0 {w1 w2 : z_M} (ht : f_X10_takes 60 w = some (0, w1)) (hw : f_X10_wrong 1 (z_gI w1 0 9) w1 = some w2) (x : Int32) : ∀ F, 2 ≤ F → z_lp b_X10_readRow_9 F (x, 1, 0, w) (fun t22 => some t22) = some w2
  | 0, h => absurd h (by omega)
  | 1, h => absurd h (by omega)
  | F + 1 + 1, _ => by
    show b_X10_readRow_9 (x, 1, 0, w) (fun q' => b_X10_readRow_9 q' (fun q'' => z_lp b_X10_readRow_9 F q'' (fun t22 => some t22)) (fun t22 => some t22)) (fun t22 => some t22) = some w2
    unfold b_X10_readRow_9
    dsimp only
    rw [if_neg (show ¬ (1 : Int32) = 0 by decide), ht, z_b2e, if_pos rfl, if_pos rfl, hw, Option.bind_some, if_pos rfl]
theorem z_rowS (hf : z_ful D) (h : z_pst u0 w0 T N u w D p) (h5 : u.1 81 5 = w.1 0 13) (ht : z_tok u T N (z_to (z_qb T) N p)) : z_res u0 w0 T N p (f_X7_readRelations u) (f_X10_readRow w) := by
  have htd : z_td D ≤ 9 := h.2.2.2.2.1.1
  have hN : N ≤ 400 := h.2.2.2.2.2.2.2.2.2.2.1
  unfold f_X7_readRelations f_X10_readRow
  rw [s10_pointHere, show z_gI u 4 0 = nI (z_td D) from h.2.2.2.2.2.1.1, show w.1 2 0 = nI (z_td D) from h.2.2.2.2.2.2.1.1]
  rcases z_numS h ht 0 (nI (z_td D) - 1) with ⟨n, e, n99, he, n0, n3, b1, b2, b3, b4, b5⟩ | ⟨u', w', b1, b2, b3⟩
  · have hn : n < z_td D := z_ptN _ (by omega) n (by omega) n3
    obtain ⟨w2, hw2⟩ : ∃ w2, w2 = z_sI w 0 9 (nI e) := ⟨_, rfl⟩
    rw [← hw2] at b2 b5
    obtain ⟨u2, c1, c2, c3, c4⟩ := z_tokS b5 b4
    rw [b1, z_b2e, if_neg (show ¬ (1 : Int32) = 0 by decide), show z_gI u 81 10 = nI n from b3, z_lt, c1, Option.bind_some, b2, z_b2e, s7_refuse 1 c3.1, z_b2e]
    have h5' : u2.1 81 5 = w2.1 0 13 := by rw [c2.2 5 (by omega), h5, hw2, z_sI_1, if_neg (by decide)]
    by_cases g : z_gI u2 81 7 = 6
    · rw [if_pos g]
      have key := z_rowL (u0 := u0) (w0 := w0) (T := T) (N := N) p (N - e) e n 0 u2 w2 D z_F z_F he.1 (Nat.le_refl _) (z_F_lt (by omega)) (z_F_lt (by omega)) hf c4 h5' c3 hn (Nat.zero_le _) (fun _ => g)
      rw [nI_0] at key
      exact key
    · rw [if_neg g]
      rcases z_takeS c4 c3 60 (Or.inr rfl) with ⟨g1, -⟩ | ⟨g1, g2, g3⟩
      · exact absurd g1 g
      · have h12 : ¬ (z_sI w2 0 9 (nI (z_to (z_qb T) N e))).1 0 12 = 0 := g3.2.2.2.1
        have h9 : z_gI (z_sI w2 0 9 (nI (z_to (z_qb T) N e))) 0 9 = nI (z_to (z_qb T) N e) := by rw [z_gI, z_sI_1, if_pos ⟨rfl, rfl⟩]
        rw [z_row0 g2 (by rw [h9]; exact s10_wrong _ _ h12) (nI n) z_F (Nat.le_of_lt (z_F_lt (by omega)))]
        exact Or.inr ⟨_, _, rfl, rfl, g3.ft 1 _⟩
  · rw [b1, z_b2e, if_pos rfl, b2, z_b2e, z_row0 (s10_takesE b3.2.2.2.1 60) (s10_wrongE _ _ b3.2.2.2.1) 0 z_F (Nat.le_of_lt (z_F_lt (by omega)))]
    exact Or.inr ⟨u', w', rfl, rfl, b3⟩
/-! what begins a line -/
theorem z_isw_to {k : Nat} (hs : s ≤ N) (hk : k < 3) (h : z_isw T N s k = true) : z_to (z_ql T) N s = s + z_slenN k ∧ s < N ∧ z_ql T s = true := by
  have hok := z_to_ok (z_ql T) hs
  have h4 := z_sl4 k hk
  unfold z_isw at h
  rw [Bool.and_eq_true, decide_eq_true_eq] at h
  obtain ⟨h1, -⟩ := h
  have h2 : z_to (z_ql T) N s = s + z_slenN k := by omega
  exact ⟨h2, by omega, hok.2.2.1 s (Nat.le_refl _) (by omega)⟩
theorem z_kd (T : Nat → Nat) (hs : s ≤ N) : (z_tkk T N s = 1 ∧ z_isw T N s 0 = true ∧ z_isw T N s 1 = false ∧ z_isw T N s 2 = false ∧ z_tke T N s = s + 6) ∨ (z_tkk T N s = 2 ∧ z_isw T N s 0 = false ∧ z_isw T N s 1 = true ∧ z_isw T N s 2 = false ∧ z_tke T N s = s + 4) ∨ (z_tkk T N s = 3 ∧ z_isw T N s 0 = false ∧ z_isw T N s 1 = false ∧ z_isw T N s 2 = true ∧ z_tke T N s = s + 5) ∨ (z_tkk T N s = 4 ∧ z_isw T N s 0 = false ∧ z_isw T N s 1 = false ∧ z_isw T N s 2 = false ∧ (decide (s < N) && z_qd T s) = true) ∨ ((z_tkk T N s = 0 ∨ 4 < z_tkk T N s) ∧ z_isw T N s 0 = false ∧ z_isw T N s 1 = false ∧ z_isw T N s 2 = false ∧ (decide (s < N) && z_qd T s) = false) := by
  have l0 : z_slenN 0 = 6 := rfl
  have l1 : z_slenN 1 = 4 := rfl
  have l2 : z_slenN 2 = 5 := rfl
  have t0 := z_isw_to (T := T) (k := 0) hs (by decide)
  have t1 := z_isw_to (T := T) (k := 1) hs (by decide)
  have t2 := z_isw_to (T := T) (k := 2) hs (by decide)
  have tk : s < N → z_ql T s = true → z_tkk T N s = z_wkd T N s ∧ z_tke T N s = z_to (z_ql T) N s := fun a b => by
    unfold z_tkk z_tke
    rw [if_pos a, if_pos b, if_pos a, if_pos b]
    exact ⟨rfl, rfl⟩
  cases c0 : z_isw T N s 0
  · cases c1 : z_isw T N s 1
    · cases c2 : z_isw T N s 2
      · have hw7 : z_wkd T N s = 7 := by
          unfold z_wkd
          rw [c0, c1, c2]
          rfl
        by_cases c : s < N
        · by_cases cl : z_ql T s = true
          · obtain ⟨g1, g2⟩ := tk c cl
            have hnd : z_qd T s = false := by
              have h2 := cl
              unfold z_ql at h2
              rw [Bool.and_eq_true, decide_eq_true_eq, decide_eq_true_eq] at h2
              unfold z_qd
              rw [decide_eq_false (show ¬ T s ≤ 57 by omega), Bool.and_false]
            refine Or.inr (Or.inr (Or.inr (Or.inr ⟨Or.inr (by omega), rfl, rfl, rfl, ?_⟩)))
            rw [hnd, Bool.and_false]
          · by_cases cd : z_qd T s = true
            · refine Or.inr (Or.inr (Or.inr (Or.inl ⟨?_, rfl, rfl, rfl, ?_⟩)))
              · unfold z_tkk
                rw [if_pos c, if_neg cl, if_pos cd]
              · simp [cd, c]
            · refine Or.inr (Or.inr (Or.inr (Or.inr ⟨Or.inr ?_, rfl, rfl, rfl, ?_⟩)))
              · unfold z_tkk
                rw [if_pos c, if_neg cl, if_neg cd]
                split
                · decide
                · split <;> decide
              · rw [show z_qd T s = false by simpa using cd, Bool.and_false]
        · refine Or.inr (Or.inr (Or.inr (Or.inr ⟨Or.inl ?_, rfl, rfl, rfl, ?_⟩)))
          · unfold z_tkk
            rw [if_neg c]
          · rw [decide_eq_false c, Bool.false_and]
      · obtain ⟨a1, a2, a3⟩ := t2 c2
        obtain ⟨g1, g2⟩ := tk a2 a3
        refine Or.inr (Or.inr (Or.inl ⟨?_, rfl, rfl, rfl, by omega⟩))
        rw [g1]
        unfold z_wkd
        rw [c0, c1, c2]
        rfl
    · obtain ⟨a1, a2, a3⟩ := t1 c1
      obtain ⟨g1, g2⟩ := tk a2 a3
      refine Or.inr (Or.inl ⟨?_, rfl, rfl, ?_, by omega⟩)
      · rw [g1]
        unfold z_wkd
        rw [c0, c1]
        rfl
      · cases c2 : z_isw T N s 2
        · rfl
        · obtain ⟨b1, -⟩ := t2 c2
          omega
  · obtain ⟨a1, a2, a3⟩ := t0 c0
    obtain ⟨g1, g2⟩ := tk a2 a3
    refine Or.inl ⟨?_, rfl, ?_, ?_, by omega⟩
    · rw [g1]
      unfold z_wkd
      rw [c0]
      rfl
    · cases c1 : z_isw T N s 1
      · rfl
      · obtain ⟨b1, -⟩ := t1 c1
        omega
    · cases c2 : z_isw T N s 2
      · rfl
      · obtain ⟨b1, -⟩ := t2 c2
        omega
end
