section
variable {u0 w0 : z_M} {T : Nat → Nat} {N : Nat}
theorem z_rowL : ∀ P, ∀ k p a c u w D F G, P < p → N - p ≤ k → k + 4 < F → k + 4 < G → z_ful D → z_pst u0 w0 T N u w D p → u.1 81 5 = w.1 0 13 → z_tok u T N (z_to (z_qb T) N p) → a < z_td D → c ≤ p → (c = 0 → z_gI u 81 7 = 6) → z_res u0 w0 T N P (z_lp b_X7_readRelations_45 F (nI a, nI c, u) (fun t25 => some (1, t25))) (z_lp b_X10_readRow_9 G (nI a, 1, nI c, w) (fun t22 => some t22)) := by
  intro P k
  induction k with
  | zero =>
    intro p a c u w D F G hP hk hF hG hf h h5 ht ha hc h6
    match F, G, hF, hG with
    | F + 1, G + 1 + 1, hF, hG =>
    have hww := h.2.2.2.2.2.2.2
    have h400 := hww.2.2.2.1
    have hpN := hww.2.2.1
    have hsk := z_sk2 (z_qb T) hpN
    rcases z_takeS h ht 60 (Or.inr rfl) with ⟨g1, q, q1, q2, q3, q4, q5⟩ | ⟨g1, g2, g3⟩
    · omega
    · have hc0 : c ≠ 0 := fun q => g1 (h6 q)
      have e1 : z_lp b_X7_readRelations_45 (F + 1) (nI a, nI c, u) (fun t25 => some (1, t25)) = some (1, u) := by
        show b_X7_readRelations_45 (nI a, nI c, u) _ (fun t25 => some (1, t25)) = some (1, u)
        unfold b_X7_readRelations_45
        dsimp only
        rw [if_neg (show ¬ z_gI u 81 7 = 6 from g1)]
        split <;> rfl
      have e2 : z_lp b_X10_readRow_9 (G + 1 + 1) (nI a, 1, nI c, w) (fun t22 => some t22) = some (z_sI w 0 9 (nI (z_to (z_qb T) N p))) := by
        show b_X10_readRow_9 (nI a, 1, nI c, w) (fun q' => b_X10_readRow_9 q' (fun q'' => z_lp b_X10_readRow_9 G q'' (fun t22 => some t22)) (fun t22 => some t22)) (fun t22 => some t22) = _
        unfold b_X10_readRow_9
        dsimp only
        rw [if_neg (show ¬ (1 : Int32) = 0 by decide), show f_X10_takes 60 w = some (0, z_sI w 0 9 (nI (z_to (z_qb T) N p))) from g2, z_b2e, if_pos rfl, if_neg (show ¬ nI c = 0 from fun q => hc0 ((z_nI0 (by omega)).mp q)), if_pos rfl]
      rw [e1, e2]
      exact Or.inl ⟨u, _, D, _, Nat.lt_of_lt_of_le hP (z_to_ok (z_qb T) hpN).1, rfl, rfl, g3, by rw [z_sI_1, if_neg (by decide)]; exact h5, by rw [hsk]; exact ht, hf⟩
  | succ k ih =>
    intro p a c u w D F G hP hk hF hG hf h h5 ht ha hc h6
    match F, G, hF, hG with
    | F + 1, G + 1 + 1 + 1, hF, hG =>
    have hww := h.2.2.2.2.2.2.2
    have h400 := hww.2.2.2.1
    have hpN := hww.2.2.1
    have hsk := z_sk2 (z_qb T) hpN
    have htd : z_td D ≤ 9 := h.2.2.2.2.1.1
    rcases z_takeS h ht 60 (Or.inr rfl) with ⟨g1, q, q1, q2, q3, q4, q5⟩ | ⟨g1, g2, g3⟩
    · obtain ⟨w1, hw1⟩ : ∃ w1, w1 = z_sI w 0 9 (nI q) := ⟨_, rfl⟩
      rw [← hw1] at q3 q5
      obtain ⟨u1, a1, a2, a3, a4⟩ := z_tokS q5 q4
      have hww1 := a4.2.2.2.2.2.2.2
      have hok := z_to_ok (z_qb T) hww1.2.2.1
      have hsk1 := z_sk2 (z_qb T) hww1.2.2.1
      obtain ⟨t, htt⟩ : ∃ t, t = z_to (z_qb T) N q := ⟨_, rfl⟩
      have hnx := s10_next hww1
      rw [← htt] at hok hsk1 a3 hnx
      have c5 := a4.mvw hok.2.1
      obtain ⟨w2, hw2⟩ : ∃ w2, w2 = z_sI w1 0 9 (nI t) := ⟨_, rfl⟩
      rw [← hw2] at c5 hnx
      have a3' : z_tok u1 T N (z_to (z_qb T) N t) := by rw [hsk1]; exact a3
      have h5' : u1.1 81 5 = w2.1 0 13 := by rw [a2.2 5 (by omega), h5, hw2, z_sI_1, if_neg (by decide), hw1, z_sI_1, if_neg (by decide)]
      have h9 : z_gI w2 0 9 = nI t := by rw [hw2, z_gI, z_sI_1, if_pos ⟨rfl, rfl⟩]
      have d40 : z_gI u1 4 0 = nI (z_td D) := c5.2.2.2.2.2.1.1
      have d20 : w2.1 2 0 = nI (z_td D) := c5.2.2.2.2.2.2.1.1
      have eC : z_lp b_X7_readRelations_45 (F + 1) (nI a, nI c, u) (fun t25 => some (1, t25)) = z_b2 (f_X7_isNumber 0 (nI (z_td D) - 1) u1) (fun r10 u11 => if r10 = 0 then (some (0, u11)) else (z_lt (z_gI u11 81 10) (fun v13 => if nI a = v13 then (z_b2 (f_X7_refuse 4 u11) (fun r15 u16 => z_gd (decide (r15 = 0 ∨ r15 = 1)) (some (r15, u16)))) else (Option.bind (f_X6_isUnder 4 v13 (nI a) u11) (fun r18 => if r18 = 0 then (Option.bind (f_X6_put 4 (nI a) v13 u11) (fun r20 => Option.bind (f_X7_nextToken r20) (fun r21 => z_lp b_X7_readRelations_45 F (v13, nI (c + 1), r21) (fun t25 => some (1, t25))))) else (z_b2 (f_X7_refuse 4 u11) (fun r22 u23 => z_gd (decide (r22 = 0 ∨ r22 = 1)) (some (r22, u23))))))))) := by
        show b_X7_readRelations_45 (nI a, nI c, u) (fun q' => z_lp b_X7_readRelations_45 F q' (fun t25 => some (1, t25))) (fun t25 => some (1, t25)) = _
        unfold b_X7_readRelations_45
        dsimp only
        rw [if_neg (show ¬ (400 : Int32) ≤ nI c from nI_ge (b := 400) (by omega) (by decide)), if_pos (show z_gI u 81 7 = 6 from g1), a1, Option.bind_some, d40, z_1]
      have eR : z_lp b_X10_readRow_9 (G + 1 + 1 + 1) (nI a, 1, nI c, w) (fun t22 => some t22) = z_b2 (f_X10_number 0 (nI (z_td D) - 1) w2) (fun r12 u13 => if (z_gI u13 0 12) = 0 then (j_X10_readRow_j93 (nI a) 1 (nI c) r12 u13 (fun q' => z_lp b_X10_readRow_9 (G + 1 + 1) q' (fun t22 => some t22)) (fun t22 => some t22)) else (if nI a = r12 then (j_X10_readRow_j86 (nI a) 1 (nI c) (nI t) r12 u13 (fun q' => z_lp b_X10_readRow_9 (G + 1 + 1) q' (fun t22 => some t22)) (fun t22 => some t22)) else (z_gd (z_inb (3 + r12) 93) (Option.bind (f_X10_has (z_gI u13 2 (3 + r12).toNatClampNeg) (nI a)) (fun r20 => if r20 = 0 then (j_X10_readRow_j93 (nI a) 1 (nI c) r12 u13 (fun q' => z_lp b_X10_readRow_9 (G + 1 + 1) q' (fun t22 => some t22)) (fun t22 => some t22)) else (j_X10_readRow_j86 (nI a) 1 (nI c) (nI t) r12 u13 (fun q' => z_lp b_X10_readRow_9 (G + 1 + 1) q' (fun t22 => some t22)) (fun t22 => some t22))))))) := by
        show b_X10_readRow_9 (nI a, 1, nI c, w) (fun q' => z_lp b_X10_readRow_9 (G + 1 + 1) q' (fun t22 => some t22)) (fun t22 => some t22) = _
        unfold b_X10_readRow_9
        dsimp only
        rw [if_neg (show ¬ (1 : Int32) = 0 by decide), show f_X10_takes 60 w = some (1, w1) from q3, z_b2e, if_neg (show ¬ (1 : Int32) = 0 by decide), hnx, z_b2e, z_lt, h9, s10_pointHere, d20]
      rw [eC, eR]
      have bad86 : ∀ (x : Int32) (uu ww : z_M), ¬ ww.1 0 12 = 0 → z_bad u0 w0 T N uu (z_wr 4 (nI t) ww) → ∀ rc, rc = some ((0 : Int32), uu) → z_res u0 w0 T N P rc (j_X10_readRow_j86 (nI a) 1 (nI c) (nI t) x ww (fun q' => z_lp b_X10_readRow_9 (G + 1 + 1) q' (fun t22 => some t22)) (fun t22 => some t22)) := fun x uu ww h12 hb rc hrc => by
        unfold j_X10_readRow_j86 j_X10_readRow_j93
        rw [s10_wrong _ _ h12, Option.bind_some, if_pos (show z_gI (z_wr 4 (nI t) ww) 0 12 = 0 from z_wr_12 _ _ _)]
        dsimp only
        rw [z_1, z_rowE (z_wr_12 _ _ _) x (by omega) (by omega)]
        exact Or.inr ⟨uu, _, hrc, rfl, hb⟩
      rcases z_numS c5 a3' 0 (nI (z_td D) - 1) with ⟨m, e, m99, he, m0, m3, d1, d2, d3, d4, d5⟩ | ⟨u', w', d1, d2, d3⟩
      · have hm : m < z_td D := z_ptN _ (by omega) m (by omega) m3
        have ta := hf a ha
        have tm := hf m hm
        obtain ⟨w3, hw3⟩ : ∃ w3, w3 = z_sI w2 0 9 (nI e) := ⟨_, rfl⟩
        rw [← hw3] at d2 d5
        have h12 : ¬ w3.1 0 12 = 0 := d5.2.2.2.1
        have hrc := d5.2.2.2.2.2.1
        have hwf := d5.2.2.2.2.1
        obtain ⟨r1, r2⟩ := z_hasR d5 (by omega) (show m < 9 by omega) ta tm
        rw [d1, z_b2e, if_neg (show ¬ (1 : Int32) = 0 by decide), d2, z_b2e, if_neg (show ¬ z_gI w3 0 12 = 0 from h12), show z_gI u1 81 10 = nI m from d3, z_lt, s7_refuse 4 a3.1, z_b2e, s6_isUnderN hrc hwf (by omega) (by omega) tm, Option.bind_some]
        by_cases c1 : nI a = nI m
        · rw [if_pos c1, if_pos c1]
          exact bad86 _ _ _ h12 (d5.ft 4 t) _ rfl
        · have hne : a ≠ m := fun q => c1 (by rw [q])
          rw [if_neg c1, if_neg c1, show (3 : Int32) + nI m = nI (3 + m) from nI_add 3 m, z_gdt (z_inb_nI (by omega) (by decide)), r1, Option.bind_some]
          cases c2 : (z_ab D m).testBit a
          · rw [if_pos (show z_bi false = 0 from rfl), if_pos (show z_bi false = 0 from rfl)]
            obtain ⟨u3, s1, s2, s3⟩ := s6_put hrc hwf (show a < 9 by omega) (show m < 9 by omega) ta tm
            obtain ⟨g1', g2', g3', g4', g5'⟩ := d5.2.2.2.2.2.2.1
            obtain ⟨w5, t1, t2, t3, t4⟩ := s10_relates (w := w3) (p := 2) (R := z_rv (w3.1 2)) (show a < 9 by omega) (show m < 9 by omega) (fun x hx => ⟨(g4' x hx).1, (g4' x hx).2.1⟩) hne (by rw [r2]; exact c2)
            have hp5 : z_pst u0 w0 T N u3 w5 (z_Pp D a m) e := d5.dr (fun i hi => s2 i (by omega) (by omega)) t2 (z_Pp_wf hwf (by omega) (by omega) ta tm hne c2) s3 (z_rr_put hwf ⟨g1', g2', g3', g4', g5'⟩ (by omega) (by omega) ta tm t3 t4)
            have hcw : z_cw u3 T N e := d4.dr (s2 81 (by decide) (by decide)) (s2 82 (by decide) (by decide))
            obtain ⟨u4, v1, v2, v3, v4⟩ := z_tokS hp5 hcw
            unfold j_X10_readRow_j93
            rw [s1, Option.bind_some, v1, Option.bind_some, if_neg (show ¬ z_gI w3 0 12 = 0 from h12), t1, Option.bind_some, z_1]
            refine ih e m (c + 1) u4 w5 (z_Pp D a m) F (G + 1 + 1) (by omega) (by omega) (by omega) (by omega) hf v4 ?_ v3 hm (by omega) (fun q => absurd q (by omega))
            rw [v2.2 5 (by omega), s2 81 (by decide) (by decide), h5', t2 0 (by decide), hw3, z_sI_1, if_neg (by decide)]
          · rw [if_neg (show ¬ z_bi true = 0 by decide), if_neg (show ¬ z_bi true = 0 by decide)]
            exact bad86 _ _ _ h12 (d5.ft 4 t) _ rfl
      · rw [d1, z_b2e, if_pos rfl, d2, z_b2e, if_pos (show z_gI w' 0 12 = 0 from d3.2.2.2.1)]
        unfold j_X10_readRow_j93
        rw [if_pos (show z_gI w' 0 12 = 0 from d3.2.2.2.1)]
        dsimp only
        rw [z_1, z_rowE d3.2.2.2.1 0 (by omega) (by omega)]
        exact Or.inr ⟨u', w', rfl, rfl, d3⟩
    · have hc0 : c ≠ 0 := fun q => g1 (h6 q)
      have e1 : z_lp b_X7_readRelations_45 (F + 1) (nI a, nI c, u) (fun t25 => some (1, t25)) = some (1, u) := by
        show b_X7_readRelations_45 (nI a, nI c, u) _ (fun t25 => some (1, t25)) = some (1, u)
        unfold b_X7_readRelations_45
        dsimp only
        rw [if_neg (show ¬ z_gI u 81 7 = 6 from g1)]
        split <;> rfl
      have e2 : z_lp b_X10_readRow_9 (G + 1 + 1 + 1) (nI a, 1, nI c, w) (fun t22 => some t22) = some (z_sI w 0 9 (nI (z_to (z_qb T) N p))) := by
        show b_X10_readRow_9 (nI a, 1, nI c, w) (fun q' => b_X10_readRow_9 q' (fun q'' => z_lp b_X10_readRow_9 (G + 1) q'' (fun t22 => some t22)) (fun t22 => some t22)) (fun t22 => some t22) = _
        unfold b_X10_readRow_9
        dsimp only
        rw [if_neg (show ¬ (1 : Int32) = 0 by decide), show f_X10_takes 60 w = some (0, z_sI w 0 9 (nI (z_to (z_qb T) N p))) from g2, z_b2e, if_pos rfl, if_neg (show ¬ nI c = 0 from fun q => hc0 ((z_nI0 (by omega)).mp q)), if_pos rfl]
      rw [e1, e2]
      exact Or.inl ⟨u, _, D, _, Nat.lt_of_lt_of_le hP (z_to_ok (z_qb T) hpN).1, rfl, rfl, g3, by rw [z_sI_1, if_neg (by decide)]; exact h5, by rw [hsk]; exact ht, hf⟩
end
