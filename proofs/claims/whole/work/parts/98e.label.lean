section
variable {u w v u0 w0 : z_M} {D : z_P} {T : Nat → Nat} {N p s : Nat}
theorem z_ptN : ∀ t, t < 10 → ∀ n, n < 100 → nI n ≤ nI t - 1 → n < t := by decide +kernel
theorem z_bad.mv (h : z_bad u0 w0 T N u w) {q : Nat} (hq : q ≤ N) : z_bad u0 w0 T N u (z_sI w 0 9 (nI q)) := by
  obtain ⟨⟨a1, a2, a3⟩, b, ⟨d1, d2⟩, e, r, l⟩ := h
  have w0' : ∀ j, j ≠ 9 → (z_sI w 0 9 (nI q)).1 0 j = w.1 0 j := fun j hj => by rw [z_sI_1, if_neg (by omega)]
  exact ⟨⟨a1, fun i h1 h2 => by rw [z_sI_ne h1]; exact a2 i h1 h2, by rw [w0' 4 (by decide)]; exact a3⟩, b, ⟨by rw [w0' 10 (by decide)]; exact d1, by rw [w0' 11 (by decide)]; exact d2⟩, by rw [w0' 12 (by decide)]; exact e, q, l.mv hq⟩
theorem z_bad.nx (h : z_bad u0 w0 T N u w) : ∃ r w', f_X10_next w = some (r, w') ∧ z_bad u0 w0 T N u w' := by
  obtain ⟨p, l⟩ := h.2.2.2.2
  exact ⟨_, _, s10_next l, h.mv (z_to_ok (z_qb T) l.2.2.1).2.1⟩
theorem z_bad.nu (h : z_bad u0 w0 T N u w) (a b : Int32) : ∃ w', f_X10_number a b w = some (0, w') ∧ z_bad u0 w0 T N u w' := by
  obtain ⟨p, l⟩ := h.2.2.2.2
  have h1 := z_to_ok (z_qb T) l.2.2.1
  exact ⟨z_sI w 0 9 (nI (z_ed T N (z_to (z_qb T) N p))), by rw [s10_number l, if_pos h.2.2.2.1], h.mv (z_to_ok (z_qd T) h1.2.1).2.1⟩
theorem z_bad.j38 (h : z_bad u0 w0 T N u w) (a b : Int32) : ∃ w', j_X10_readLabel_j38 a b w = some w' ∧ z_bad u0 w0 T N u w' := by
  obtain ⟨w', a1, a2⟩ := h.nu 0 99
  unfold j_X10_readLabel_j38
  rw [a1, z_b2e, if_pos (show z_gI w' 0 12 = 0 from a2.2.2.2.1)]
  exact ⟨w', rfl, a2⟩
def z_Pt (D : z_P) (k : Nat) (x : Int32) : z_P := (z_td D, z_th D, z_ru D, z_ab D, fun j => if j = k then x else z_tg D j)
theorem z_wf_Pt (hw : z_wf D) (k : Nat) (x : Int32) : z_wf (z_Pt D k x) := hw
theorem z_x12 : ∀ a, a < 9 → ∀ b, b < 9 → (12 + 9 * nI a) + nI b = nI (12 + (a * 9 + b)) := by decide +kernel
theorem z_lab3 (hf : z_ful D) (h : z_pst u0 w0 T N u w D p) (h5 : u.1 81 5 = w.1 0 13) (ht : z_tok u T N (z_to (z_qb T) N p)) {a b : Nat} (ha : a < 9) (hb : b < 9) : z_res u0 w0 T N p (z_b2 (f_X7_isNumber 0 99 u) (fun r16 u17 => if r16 = 0 then (some (0, u17)) else (Option.bind (f_X6_setTag 4 (nI a) (nI b) (z_gI u17 81 10) u17) (fun r19 => Option.bind (f_X7_nextToken r19) (fun r20 => some (1, r20)))))) (j_X10_readLabel_j38 (nI a) (nI b) w) := by
  unfold j_X10_readLabel_j38
  rcases z_numS h ht 0 99 with ⟨n, e, n99, he, n0, n3, b1, b2, b3, b4, b5⟩ | ⟨u', w', b1, b2, b3⟩
  · obtain ⟨w2, hw2⟩ : ∃ w2, w2 = z_sI w 0 9 (nI e) := ⟨_, rfl⟩
    rw [← hw2] at b2 b5
    have h12 : ¬ z_gI w2 0 12 = 0 := b5.2.2.2.1
    obtain ⟨v1, hv1⟩ : ∃ v1, v1 = z_sI u 7 (a * 9 + b) (nI n) := ⟨_, rfl⟩
    obtain ⟨w3, hw3⟩ : ∃ w3, w3 = z_sI w2 2 (12 + (a * 9 + b)) (nI n) := ⟨_, rfl⟩
    have hst : f_X6_setTag 4 (nI a) (nI b) (nI n) u = some v1 := by
      unfold f_X6_setTag
      rw [z_lt, z_x9 a ha b hb, if_neg (nI_pos (by omega)), if_neg (nI_ge (by omega) (by decide)), z_gdt (z_inb_nI (by omega) (by decide)), z_lt, z_cl (by omega), hv1]
    rw [b1, z_b2e, if_neg (show ¬ (1 : Int32) = 0 by decide), b2, z_b2e, if_neg h12, z_x12 a ha b hb, z_gdt (z_inb_nI (by omega) (by decide)), z_lt, z_cl (by omega), ← hw3, show z_gI u 81 10 = nI n from b3, hst, Option.bind_some]
    have hrc := b5.2.2.2.2.2.1
    have hrr := b5.2.2.2.2.2.2.1
    have hp : z_pst u0 w0 T N v1 w3 (z_Pt D (a * 9 + b) (nI n)) e := b5.dr (fun i hi => by rw [hv1, z_sI_ne (by omega)]) (fun i hi => by rw [hw3, z_sI_ne hi]) (z_wf_Pt b5.2.2.2.2.1 _ _) (by
      obtain ⟨g1, g2, g3, g4, g5, g6⟩ := hrc
      refine ⟨?_, ?_, ?_, fun x hx => ?_, fun x hx => ?_, fun k hk => ?_⟩
      · rw [hv1, z_sI_ne (by decide)]; exact g1
      · rw [hv1, z_sI_ne (by decide)]; exact g2
      · rw [hv1, z_sI_ne (by decide)]; exact g3
      · rw [hv1, z_sI_ne (by decide)]; exact g4 x hx
      · rw [hv1, z_sI_ne (by decide)]; exact g5 x hx
      · show v1.1 7 k = if k = a * 9 + b then nI n else z_tg D k
        rw [hv1, z_sI_1]
        by_cases c : k = a * 9 + b
        · rw [if_pos ⟨rfl, c.symm⟩, if_pos c]
        · rw [if_neg (fun q => c q.2.symm), if_neg c]; exact g6 k hk) (by
      have hk : ∀ k, k < 12 → w3.1 2 k = w2.1 2 k := fun k hk => by rw [hw3, z_sI_1, if_neg (by omega)]
      obtain ⟨g1, g2, g3, g4, g5⟩ := hrr
      have hrv : ∀ x, x < 9 → z_rv (w3.1 2) x = z_rv (w2.1 2) x := fun x hx => by unfold z_rv; rw [hk _ (by omega)]
      refine ⟨?_, ?_, ?_, fun x hx => ?_, fun k hk2 => ?_⟩
      · rw [hk 0 (by decide)]; exact g1
      · rw [hk 1 (by decide)]; exact g2
      · rw [hk 2 (by decide)]; exact g3
      · rw [hk _ (by omega), hrv x hx]; exact g4 x hx
      · show w3.1 2 (12 + k) = if k = a * 9 + b then nI n else z_tg D k
        rw [hw3, z_sI_1]
        by_cases c : k = a * 9 + b
        · rw [if_pos ⟨rfl, by omega⟩, if_pos c]
        · rw [if_neg (by omega), if_neg c]; exact g5 k hk2)
    have hcw : z_cw v1 T N e := b4.dr (by rw [hv1, z_sI_ne (by decide)]) (by rw [hv1, z_sI_ne (by decide)])
    obtain ⟨u2, d1, d2, d3, d4⟩ := z_tokS hp hcw
    rw [d1, Option.bind_some]
    refine Or.inl ⟨u2, w3, z_Pt D (a * 9 + b) (nI n), e, he.1, rfl, rfl, d4, ?_, d3, hf⟩
    rw [d2.2 5 (by omega), hv1, z_sI_ne (by decide), h5, hw3, z_sI_ne (by decide), hw2, z_sI_1, if_neg (by decide)]
  · rw [b1, z_b2e, if_pos rfl, b2, z_b2e, if_pos (show z_gI w' 0 12 = 0 from b3.2.2.2.1)]
    exact Or.inr ⟨u', w', rfl, rfl, b3⟩
end
