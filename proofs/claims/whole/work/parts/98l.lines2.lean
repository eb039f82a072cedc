section
variable {u w v u0 w0 : z_M} {D : z_P} {T : Nat → Nat} {N p s : Nat}
/-- the end of the law's order -/
def z_ot (x1 : Int32) (u : z_M) : Option (Int32 × z_M) := z_lt (z_sI u 0 8 0) (fun u20 => if (z_gI u20 0 12) = 0 then (some ((-1), u20)) else (z_lp (b_X10_order_126 x1) z_F (0, u20) (fun t26 => z_lt (z_sI t26 0 4 0) (fun u27 => z_gd (z_inb 0 2) (z_lt (z_sI u27 5 (0 : Int32).toNatClampNeg (vp_nar .boolean 0)) (fun u29 => z_gd (z_inb 1 2) (z_lt (z_sI u29 5 (1 : Int32).toNatClampNeg (vp_nar .boolean 0)) (fun u31 => some (x1, u31)))))))))
def z_oe (t : Int32 × z_M) : Option (Int32 × z_M) := z_b2 (f_X10_next t.2) (fun _ u18 => if (z_gI u18 0 12) = 0 then z_ot t.1 u18 else (if (z_gI u18 0 8) ≤ (z_gI u18 0 9) then z_ot t.1 u18 else (Option.bind (f_X10_wrong 1 (z_gI u18 0 9) u18) (fun r41 => z_ot t.1 r41))))
theorem s10_order (u : z_M) : f_X10_order u = z_lt (z_sI u 0 0 0) (fun u1 => z_lt (z_sI u1 0 9 0) (fun u2 => z_lt (z_sI u2 0 12 1) (fun u3 => z_lt (z_sI u3 0 10 0) (fun u4 => z_lt (z_sI u4 0 11 (-1)) (fun u5 => z_lt (z_sI u5 0 13 0) (fun u6 => z_lp b_X10_order_32 z_F (0, u6) (fun t10 => Option.bind (f_X10_readLine 0 t10) (fun r11 => z_lp b_X10_order_58 z_F (1, r11) z_oe)))))))) := rfl
def z_fin (u0 w0 : z_M) (T : Nat → Nat) (N : Nat) (rc rr : Option (Int32 × z_M)) : Prop := (∃ c u' w' D' p', c ≤ 400 ∧ rc = some (nI c, u') ∧ rr = z_ot (nI c) w' ∧ z_pst u0 w0 T N u' w' D' p') ∨ (∃ u' w' x, rc = some (-1, u') ∧ rr = z_ot x w' ∧ z_bad u0 w0 T N u' w')
theorem z_tkk_0 (T : Nat → Nat) (N s : Nat) : z_tkk T N s = 0 ↔ ¬ s < N := by
  unfold z_tkk z_wkd
  by_cases h : s < N
  · rw [if_pos h]
    refine ⟨fun q => ?_, fun q => absurd h q⟩
    exfalso
    revert q
    split
    · split
      · decide
      · split
        · decide
        · split <;> decide
    · split
      · decide
      · split
        · decide
        · split <;> decide
  · rw [if_neg h]
    exact ⟨fun _ => h, fun _ => rfl⟩
theorem z_oe_bad (h : z_bad u0 w0 T N u w) (x : Int32) : ∃ w', z_oe (x, w) = z_ot x w' ∧ z_bad u0 w0 T N u w' := by
  obtain ⟨r, w', h1, h2⟩ := h.nx
  refine ⟨w', ?_, h2⟩
  unfold z_oe
  dsimp only
  rw [h1, z_b2e, if_pos (show z_gI w' 0 12 = 0 from h2.2.2.2.1)]
/-- one line, and what comes behind it -/
theorem z_linesS (F G c : Nat) (hf : z_ful D) (h : z_pst u0 w0 T N u w D p) (h5 : u.1 81 5 = w.1 0 13) (hu : z_cw u T N p) (hc : (c = 0 ∧ (∀ i, i < 93 → w.1 2 i = 0)) ∨ (0 < c ∧ c < p)) (ih : ∀ q u' w' D', p < q → q ≤ N → c + 1 < q → z_ful D' → z_pst u0 w0 T N u' w' D' q → u'.1 81 5 = w'.1 0 13 → z_cw u' T N q → z_fin u0 w0 T N (z_lp b_X7_readLines_30 F (nI (c + 1 + 1), u') (fun t16 => some (-1, t16))) (Option.bind (f_X10_readLine (nI (c + 1)) w') (fun r15 => z_lp b_X10_order_58 G (nI (c + 1 + 1), r15) z_oe))) : z_fin u0 w0 T N (z_lp b_X7_readLines_30 (F + 1) (nI (c + 1), u) (fun t16 => some (-1, t16))) (Option.bind (f_X10_readLine (nI c) w) (fun r15 => z_lp b_X10_order_58 (G + 1) (nI (c + 1), r15) z_oe)) := by
  have hww := h.2.2.2.2.2.2.2
  have hpN : p ≤ N := hww.2.2.1
  have hN : N ≤ 400 := hww.2.2.2.1
  have hc' : c = 0 ∨ c < p := by
    rcases hc with ⟨g, -⟩ | ⟨-, g⟩
    · exact Or.inl g
    · exact Or.inr g
  have hc4 : c + 1 ≤ 400 := by omega
  obtain ⟨u1, a1, a2, a3, a4⟩ := z_tokS h hu
  obtain ⟨a, eC, hx⟩ : ∃ a : Int32, z_lp b_X7_readLines_30 (F + 1) (nI (c + 1), u) (fun t16 => some (-1, t16)) = j_X7_readLines_j52 (nI (c + 1)) a u1 (fun q' => z_lp b_X7_readLines_30 F q' (fun t16 => some (-1, t16))) (fun t16 => some (-1, t16)) ∧ ((nI c = 0 ∧ a = 1 ∧ ∀ k, k < 93 → w.1 2 k = 0) ∨ (¬ nI c = 0 ∧ a = 0)) := by
    have e0 : ∀ a : Int32, (if nI (c + 1) = 1 then (1 : Int32) else 0) = a → z_lp b_X7_readLines_30 (F + 1) (nI (c + 1), u) (fun t16 => some (-1, t16)) = j_X7_readLines_j52 (nI (c + 1)) a u1 (fun q' => z_lp b_X7_readLines_30 F q' (fun t16 => some (-1, t16))) (fun t16 => some (-1, t16)) := fun a ha => by
      show b_X7_readLines_30 (nI (c + 1), u) (fun q' => z_lp b_X7_readLines_30 F q' (fun t16 => some (-1, t16))) (fun t16 => some (-1, t16)) = _
      unfold b_X7_readLines_30
      dsimp only
      rw [if_neg (show ¬ (400 : Int32) < nI (c + 1) from nI_nlt (a := 400) hc4 (by decide)), a1, Option.bind_some]
      by_cases g : nI (c + 1) = 1
      · rw [if_pos g] at ha
        rw [if_pos g, ha]
      · rw [if_neg g] at ha
        rw [if_neg g, ha]
    rcases hc with ⟨rfl, hz⟩ | ⟨hc1, hc2⟩
    · exact ⟨1, e0 1 (if_pos rfl), Or.inl ⟨nI_0, rfl, hz⟩⟩
    · refine ⟨0, e0 0 (if_neg (fun q => ?_)), Or.inr ⟨fun q => ?_, rfl⟩⟩
      · have := (nI_eq (b := 1) (by omega) (by decide)).mp q
        omega
      · have := (z_nI0 (by omega)).mp q
        omega
  rw [eC]
  unfold j_X7_readLines_j52
  rcases z_line hf a4 (by rw [a2.2 5 (by omega)]; exact h5) a3 hx with ⟨u', w', D', p', b0, b1, b2, b3, b4, b5, b6⟩ | ⟨u', w', b1, b2, b3⟩
  · rw [b1, z_b2e, if_neg (show ¬ (1 : Int32) = 0 by decide), b2, Option.bind_some, show z_gI u' 81 7 = nI (z_tkk T N (z_to (z_qb T) N p')) from b5.2.1]
    have hww' := b3.2.2.2.2.2.2.2
    have hok' := z_to_ok (z_qb T) hww'.2.2.1
    have h7 := z_tkk_7 T N (z_to (z_qb T) N p')
    have eR : z_lp b_X10_order_58 (G + 1) (nI (c + 1), w') z_oe = z_b2 (f_X10_takes 59 w') (fun r12 u13 => if r12 = 0 then z_oe (nI (c + 1), u13) else (Option.bind (f_X10_readLine (nI (c + 1)) u13) (fun r15 => z_lp b_X10_order_58 G (nI (c + 1) + 1, r15) z_oe))) := rfl
    rw [eR, z_1]
    rcases z_takeS b3 b5 59 (Or.inl rfl) with ⟨g1, q, q1, q2, q3, q4, q5⟩ | ⟨g1, g2, g3⟩
    · have g1' : nI (z_tkk T N (z_to (z_qb T) N p')) = 5 := b5.2.1.symm.trans g1
      rw [g1', if_neg (show ¬ (5 : Int32) = 0 by decide), if_pos rfl, show f_X10_takes 59 w' = some (1, z_sI w' 0 9 (nI q)) from q3, z_b2e, if_neg (show ¬ (1 : Int32) = 0 by decide)]
      exact ih q u' _ D' (by omega) q2 (by omega) b6 q5 (by rw [z_sI_1, if_neg (by decide)]; exact b4) q4
    · have g1' : ¬ nI (z_tkk T N (z_to (z_qb T) N p')) = 5 := fun q => g1 (b5.2.1.trans q)
      have hsk := z_sk2 (z_qb T) hww'.2.2.1
      rw [show f_X10_takes 59 w' = some (0, z_sI w' 0 9 (nI (z_to (z_qb T) N p'))) from g2, z_b2e, if_pos rfl, if_neg g1', s7_refuse 1 b5.1, z_b2e]
      obtain ⟨t, htt⟩ : ∃ t, t = z_to (z_qb T) N p' := ⟨_, rfl⟩
      rw [← htt] at g3 hsk hok' ⊢
      obtain ⟨w3, hw3⟩ : ∃ w3, w3 = z_sI w' 0 9 (nI t) := ⟨_, rfl⟩
      rw [← hw3] at g3 ⊢
      have hw33 := g3.2.2.2.2.2.2.2
      have h12 : ¬ w3.1 0 12 = 0 := g3.2.2.2.1
      unfold z_oe
      dsimp only
      rw [s10_next hw33, z_b2e, hsk, z_sIe w3 0 9 hw33.2.1, if_neg (show ¬ z_gI w3 0 12 = 0 from h12), show z_gI w3 0 8 = nI N from hw33.1, show z_gI w3 0 9 = nI t from hw33.2.1, s10_wrong _ _ h12, Option.bind_some]
      by_cases g : t < N
      · rw [if_neg (show ¬ nI N ≤ nI t from nI_ge g (by omega)), if_neg (show ¬ nI (z_tkk T N t) = 0 from fun q => (z_tkk_0 T N t).mp ((z_nI0 (by rw [← htt] at h7; omega)).mp q) g)]
        exact Or.inr ⟨_, _, _, rfl, rfl, g3.ft 1 t⟩
      · rw [if_pos (show nI N ≤ nI t from nI_le (by omega) (by omega)), if_pos (show nI (z_tkk T N t) = 0 by rw [(z_tkk_0 T N t).mpr g]; exact nI_0)]
        exact Or.inl ⟨c + 1, u', w3, D', t, hc4, rfl, rfl, g3⟩
  · rw [b1, z_b2e, if_pos rfl, b2, Option.bind_some]
    have eR : z_lp b_X10_order_58 (G + 1) (nI (c + 1), w') z_oe = z_b2 (f_X10_takes 59 w') (fun r12 u13 => if r12 = 0 then z_oe (nI (c + 1), u13) else (Option.bind (f_X10_readLine (nI (c + 1)) u13) (fun r15 => z_lp b_X10_order_58 G (nI (c + 1) + 1, r15) z_oe))) := rfl
    obtain ⟨w3, d1, d2⟩ := z_oe_bad b3 (nI (c + 1))
    rw [eR, s10_takesE b3.2.2.2.1, z_b2e, if_pos rfl, d1]
    exact Or.inr ⟨u', w3, _, rfl, rfl, d2⟩
theorem z_linesL : ∀ k p c u w D F G, N - p ≤ k → k < F → k < G → z_ful D → z_pst u0 w0 T N u w D p → u.1 81 5 = w.1 0 13 → z_cw u T N p → (c = 0 ∧ (∀ i, i < 93 → w.1 2 i = 0)) ∨ (0 < c ∧ c < p) → z_fin u0 w0 T N (z_lp b_X7_readLines_30 F (nI (c + 1), u) (fun t16 => some (-1, t16))) (Option.bind (f_X10_readLine (nI c) w) (fun r15 => z_lp b_X10_order_58 G (nI (c + 1), r15) z_oe)) := by
  intro k
  induction k with
  | zero =>
    intro p c u w D F G hk hF hG hf h h5 hu hc
    match F, G, hF, hG with
    | F + 1, G + 1, hF, hG => exact z_linesS F G c hf h h5 hu hc (fun q _ _ _ q1 q2 => absurd hk (by omega))
  | succ k ih =>
    intro p c u w D F G hk hF hG hf h h5 hu hc
    match F, G, hF, hG with
    | F + 1, G + 1, hF, hG => exact z_linesS F G c hf h h5 hu hc (fun q u' w' D' q1 q2 q3 q4 q5 q6 q7 => ih q (c + 1) u' w' D' F G (by omega) (by omega) (by omega) q4 q5 q6 q7 (Or.inr ⟨by omega, q3⟩))
end
