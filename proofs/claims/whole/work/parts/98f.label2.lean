section
variable {u w v u0 w0 : z_M} {D : z_P} {T : Nat → Nat} {N p s : Nat}
theorem z_label (hf : z_ful D) (h : z_pst u0 w0 T N u w D p) (h5 : u.1 81 5 = w.1 0 13) (hu : z_cw u T N p) : z_res u0 w0 T N p (f_X7_readLabel u) (f_X10_readLabel w) := by
  obtain ⟨u1, a1, a2, a3, a4⟩ := z_tokS h hu
  have td9 : z_td D < 10 := by have := a4.2.2.2.2.1.1; omega
  have hD : ∀ {u' w' : z_M} {q : Nat}, z_pst u0 w0 T N u' w' D q → z_gI u' 4 0 = nI (z_td D) ∧ w'.1 2 0 = nI (z_td D) := fun hh => ⟨hh.2.2.2.2.2.1.1, hh.2.2.2.2.2.2.1.1⟩
  unfold f_X7_readLabel f_X10_readLabel
  rw [a1, Option.bind_some, s10_pointHere, (hD a4).1, (hD a4).2]
  rcases z_numS a4 a3 0 (nI (z_td D) - 1) with ⟨n, e, n99, he, n0, n3, b1, b2, b3, b4, b5⟩ | ⟨u', w', b1, b2, b3⟩
  · have hn : n < z_td D := z_ptN _ td9 n (by omega) n3
    obtain ⟨w2, hw2⟩ : ∃ w2, w2 = z_sI w 0 9 (nI e) := ⟨_, rfl⟩
    rw [← hw2] at b2 b5
    obtain ⟨u2, c1, c2, c3, c4⟩ := z_tokS b5 b4
    have hww := c4.2.2.2.2.2.2.2
    have hok := z_to_ok (z_qb T) hww.2.2.1
    have hsk := z_sk2 (z_qb T) hww.2.2.1
    rw [b1, z_b2e, if_neg (show ¬ (1 : Int32) = 0 by decide), b2, z_b2e, show z_gI u1 81 10 = nI n from b3, z_lt, c1, Option.bind_some, s10_next hww, z_b2e]
    obtain ⟨t, ht⟩ : ∃ t, t = z_to (z_qb T) N e := ⟨_, rfl⟩
    rw [← ht] at hok hsk c3 ⊢
    have c5 := c4.mvw hok.2.1
    obtain ⟨w3, hw3⟩ : ∃ w3, w3 = z_sI w2 0 9 (nI t) := ⟨_, rfl⟩
    rw [← hw3] at c5 ⊢
    have c3' : z_tok u2 T N (z_to (z_qb T) N t) := by rw [hsk]; exact c3
    have h5' : u2.1 81 5 = w3.1 0 13 := by rw [c2.2 5 (by omega), a2.2 5 (by omega), h5, hw3, z_sI_1, if_neg (by decide), hw2, z_sI_1, if_neg (by decide)]
    have h9 : z_gI w3 0 9 = nI t := by rw [hw3, z_gI, z_sI_1, if_pos ⟨rfl, rfl⟩]
    rw [z_lt, h9, s10_pointHere, (hD c5).1, (hD c5).2]
    rcases z_numS c5 c3' 0 (nI (z_td D) - 1) with ⟨m, e2, m99, he2, m0, m3, d1, d2, d3, d4, d5⟩ | ⟨u', w', d1, d2, d3⟩
    · have hm : m < z_td D := z_ptN _ td9 m (by omega) m3
      obtain ⟨w4, hw4⟩ : ∃ w4, w4 = z_sI w3 0 9 (nI e2) := ⟨_, rfl⟩
      rw [← hw4] at d2 d5
      have h12 : ¬ w4.1 0 12 = 0 := d5.2.2.2.1
      rw [d1, z_b2e, if_neg (show ¬ (1 : Int32) = 0 by decide), d2, z_b2e, show z_gI u2 81 10 = nI m from d3, z_lt, if_neg (show ¬ z_gI w4 0 12 = 0 from h12)]
      by_cases c : nI n = nI m
      · rw [if_pos c, if_pos c, s7_refuse 2 c3.1, z_b2e, s10_wrong _ _ h12, Option.bind_some]
        obtain ⟨w5, f1, f2⟩ := (d5.ft 2 t).j38 (nI n) (nI m)
        rw [f1]
        exact Or.inr ⟨_, w5, rfl, rfl, f2⟩
      · rw [if_neg c, if_neg c]
        obtain ⟨u3, f1, f2, f3, f4⟩ := z_tokS d5 d4
        rw [f1, Option.bind_some]
        refine (z_lab3 hf f4 (by rw [f2.2 5 (by omega), h5', hw4, z_sI_1, if_neg (by decide)]) f3 (by omega) (by omega)).mono (by omega)
    · obtain ⟨w5, f1, f2⟩ := d3.j38 (nI n) 0
      rw [d1, z_b2e, if_pos rfl, d2, z_b2e, if_pos (show z_gI w' 0 12 = 0 from d3.2.2.2.1), f1]
      exact Or.inr ⟨u', w5, rfl, rfl, f2⟩
  · obtain ⟨r, w3, c1, c2⟩ := b3.nx
    obtain ⟨w4, d1, d2⟩ := c2.nu 0 (w3.1 2 0 - 1)
    obtain ⟨w5, f1, f2⟩ := d2.j38 0 0
    rw [b1, z_b2e, if_pos rfl, b2, z_b2e, c1, z_b2e, z_lt, s10_pointHere, d1, z_b2e, if_pos (show z_gI w4 0 12 = 0 from d2.2.2.2.1), f1]
    exact Or.inr ⟨u', w5, rfl, rfl, f2⟩
end
