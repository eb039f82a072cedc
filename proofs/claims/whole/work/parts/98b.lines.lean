section
variable {u w v u0 w0 : z_M} {D : z_P} {T : Nat → Nat} {N p s : Nat}
def z_ful (D : z_P) : Prop := ∀ x, x < z_td D → (z_th D).testBit x = true
def z_res (u0 w0 : z_M) (T : Nat → Nat) (N : Nat) (P : Nat) (rc : Option (Int32 × z_M)) (rr : Option z_M) : Prop := (∃ u' w' D' p', P < p' ∧ rc = some (1, u') ∧ rr = some w' ∧ z_pst u0 w0 T N u' w' D' p' ∧ u'.1 81 5 = w'.1 0 13 ∧ z_tok u' T N (z_to (z_qb T) N p') ∧ z_ful D') ∨ (∃ u' w', rc = some (0, u') ∧ rr = some w' ∧ z_bad u0 w0 T N u' w')
theorem z_res.mono {P P' : Nat} {rc : Option (Int32 × z_M)} {rr : Option z_M} (h : z_res u0 w0 T N P rc rr) (hP : P' ≤ P) : z_res u0 w0 T N P' rc rr := by
  rcases h with ⟨u', w', D', p', h1, h2⟩ | h
  · exact Or.inl ⟨u', w', D', p', by omega, h2⟩
  · exact Or.inr h
theorem z_bad.pl (h : z_bad u0 w0 T N u w) {w' : z_M} (hw : ∀ i, i ≠ 2 → w'.1 i = w.1 i) : z_bad u0 w0 T N u w' := by
  obtain ⟨⟨a1, a2, a3⟩, b, ⟨d1, d2⟩, e, q, l⟩ := h
  exact ⟨⟨a1, fun i h1 h2 => by rw [hw i h2]; exact a2 i h1 h2, by rw [hw 0 (by decide)]; exact a3⟩, b, ⟨by rw [hw 0 (by decide)]; exact d1, by rw [hw 0 (by decide)]; exact d2⟩, by rw [hw 0 (by decide)]; exact e, q, l.at0 (by rw [hw 0 (by decide)]) (hw 6 (by decide)) (by rw [hw 0 (by decide)]; exact l.2.1) l.2.2.1⟩
/-- the draft is another one -/
theorem z_pst.dr (h : z_pst u0 w0 T N u w D p) {u' w' : z_M} {D' : z_P} (hu : ∀ i, (i < 4 ∨ 7 < i) → u'.1 i = u.1 i) (hw : ∀ i, i ≠ 2 → w'.1 i = w.1 i) (h1 : z_wf D') (h2 : z_rc u' 4 D') (h3 : z_rr (w'.1 2) D') : z_pst u0 w0 T N u' w' D' p := by
  obtain ⟨⟨a1, a2, a3⟩, ⟨b1, b2⟩, ⟨d1, d2⟩, e, f, g, k, l⟩ := h
  have w00 : w'.1 0 = w.1 0 := hw 0 (by decide)
  have u81 : u'.1 81 = u.1 81 := hu 81 (by omega)
  exact ⟨⟨fun i i1 i2 => (hu i i2).trans (a1 i i1 i2), fun i i1 i2 => (hw i i2).trans (a2 i i1 i2), by rw [w00]; exact a3⟩, ⟨by rw [u81]; exact b1, fun i hi => ⟨(b2 i hi).1, by rw [hu 82 (by omega)]; exact (b2 i hi).2⟩⟩, ⟨by rw [u81, w00]; exact d1, by rw [u81, w00]; exact d2⟩, by rw [w00]; exact e, h1, h2, h3, l.at0 (by rw [w00]) (hw 6 (by decide)) (by rw [w00]; exact l.2.1) l.2.2.1⟩
theorem z_cw.dr (h : z_cw u T N p) {u' : z_M} (h81 : u'.1 81 = u.1 81) (h82 : u'.1 82 = u.1 82) : z_cw u' T N p := by
  unfold z_cw at *
  rw [h81, h82]
  exact h
/-- w with another slot 13 -/
theorem z_pst.s13 (h : z_pst u0 w0 T N u w D p) (x : Int32) : z_pst u0 w0 T N u (z_sI w 0 13 x) D p := by
  obtain ⟨⟨a1, a2, a3⟩, b, ⟨d1, d2⟩, e, f, g, k, l⟩ := h
  have w0' : ∀ j, j ≠ 13 → (z_sI w 0 13 x).1 0 j = w.1 0 j := fun j hj => by rw [z_sI_1, if_neg (by omega)]
  exact ⟨⟨a1, fun i h1 h2 => by rw [z_sI_ne h1]; exact a2 i h1 h2, by rw [w0' 4 (by decide)]; exact a3⟩, b, ⟨by rw [w0' 10 (by decide)]; exact d1, by rw [w0' 11 (by decide)]; exact d2⟩, by rw [w0' 12 (by decide)]; exact e, f, g, by rw [z_sI_ne (by decide)]; exact k, l.at0 (w0' 8 (by decide)) (z_sI_ne (by decide)) (by rw [w0' 9 (by decide)]; exact l.2.1) l.2.2.1⟩
/-- u with another slot 5 -/
theorem z_pst.s5 (h : z_pst u0 w0 T N u w D p) (x : Int32) : z_pst u0 w0 T N (z_sI u 81 5 x) w D p := by
  obtain ⟨⟨a1, a2, a3⟩, ⟨b1, b2⟩, ⟨d1, d2⟩, e, f, g, k, l⟩ := h
  have u' : ∀ j, j ≠ 5 → (z_sI u 81 5 x).1 81 j = u.1 81 j := fun j hj => by rw [z_sI_1, if_neg (by omega)]
  exact ⟨⟨fun i h1 h2 => by rw [z_sI_ne h1]; exact a1 i h1 h2, a2, a3⟩, ⟨by rw [u' 1 (by decide)]; exact b1, fun i hi => ⟨(b2 i hi).1, by rw [z_sI_ne (by decide)]; exact (b2 i hi).2⟩⟩, ⟨by rw [u' 3 (by decide)]; exact d1, by rw [u' 4 (by decide)]; exact d2⟩, e, f, z_rc_cg (fun j hj => z_sI_ne (by omega)) g, k, l⟩
def z_Pu (D : z_P) (n : Nat) : z_P := (z_td D, z_th D, n, z_ab D, z_tg D)
theorem z_wf_Pu (hw : z_wf D) {n : Nat} (hn : n ≤ 3) : z_wf (z_Pu D n) := by
  obtain ⟨h1, h2, h3, h4, h5, h6⟩ := hw
  exact ⟨h1, h2, h3, h4, hn, h6⟩
theorem z_n3 {n : Nat} (h0 : ¬ nI n < 0) (h : nI n ≤ 3) (hn : n < 2 ^ 31) : n ≤ 3 := by
  rw [show (nI n ≤ 3) = (nI n ≤ nI 3) from rfl, z_leI hn (by decide)] at h
  exact h
end
