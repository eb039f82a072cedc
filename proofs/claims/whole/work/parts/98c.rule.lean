section
variable {u w v u0 w0 : z_M} {D : z_P} {T : Nat → Nat} {N p s : Nat}
theorem z_rule (hf : z_ful D) (h : z_pst u0 w0 T N u w D p) (hu : z_cw u T N p) : z_res u0 w0 T N p (f_X7_readRule u) (z_lt (z_sI w 0 13 1) (fun u25 => z_b2 (f_X10_number 0 3 u25) (fun r26 u27 => z_gd (z_inb 2 93) (z_lt (z_sI u27 2 (2 : Int32).toNatClampNeg r26) (fun u29 => some u29))))) := by
  obtain ⟨u1, a1, a2, a3, a4⟩ := z_tokS (h.s13 1) hu
  unfold f_X7_readRule
  rw [a1, Option.bind_some, z_lt]
  rcases z_numS a4 a3 0 3 with ⟨n, e, n99, he, n0, n3, b1, b2, b3, b4, b5⟩ | ⟨u', w', b1, b2, b3⟩
  · have hn3 := z_n3 n0 n3 (by omega)
    obtain ⟨w2, hw2⟩ : ∃ w2, w2 = z_sI (z_sI w 0 13 1) 0 9 (nI e) := ⟨_, rfl⟩
    rw [← hw2] at b2 b5
    have h13 : w2.1 0 13 = 1 := by rw [hw2, z_sI_1, if_neg (by decide), z_sI_1, if_pos ⟨rfl, rfl⟩]
    rw [b1, z_b2e, if_neg (show ¬ (1 : Int32) = 0 by decide), b2, z_b2e, z_gdt (show z_inb 2 93 = true from rfl), show z_gI u1 81 10 = nI n from b3, z_lt, z_lt, z_lt, show (2 : Int32).toNatClampNeg = 2 from rfl]
    obtain ⟨v1, hv1⟩ : ∃ v1, v1 = z_sI u1 4 2 (nI n) := ⟨_, rfl⟩
    obtain ⟨w3, hw3⟩ : ∃ w3, w3 = z_sI w2 2 2 (nI n) := ⟨_, rfl⟩
    rw [← hv1, ← hw3]
    have hrc := b5.2.2.2.2.2.1
    have hrr := b5.2.2.2.2.2.2.1
    have c1 : z_pst u0 w0 T N v1 w3 (z_Pu D n) e := b5.dr (fun i hi => by rw [hv1, z_sI_ne (by omega)]) (fun i hi => by rw [hw3, z_sI_ne hi]) (z_wf_Pu b5.2.2.2.2.1 hn3) (by
      obtain ⟨g1, g2, g3, g4, g5, g6⟩ := hrc
      refine ⟨?_, ?_, ?_, fun x hx => ?_, fun x hx => ?_, fun k hk => ?_⟩
      · rw [hv1, z_sI_1, if_neg (by decide)]; exact g1
      · rw [hv1, z_sI_1, if_neg (by decide)]; exact g2
      · rw [hv1, z_sI_1, if_pos ⟨rfl, rfl⟩]; rfl
      · rw [hv1, z_sI_ne (by decide)]; exact g4 x hx
      · rw [hv1, z_sI_ne (by decide)]; exact g5 x hx
      · rw [hv1, z_sI_ne (by decide)]; exact g6 k hk) (by
      have hk : ∀ k, k ≠ 2 → w3.1 2 k = w2.1 2 k := fun k hk => by rw [hw3, z_sI_1, if_neg (by omega)]
      obtain ⟨g1, g2, g3, g4, g5⟩ := hrr
      have hrv : ∀ x, z_rv (w3.1 2) x = z_rv (w2.1 2) x := fun x => by unfold z_rv; rw [hk _ (by omega)]
      refine ⟨?_, ?_, ?_, fun x hx => ?_, fun k hk2 => ?_⟩
      · rw [hk 0 (by decide)]; exact g1
      · rw [hk 1 (by decide)]; exact g2
      · rw [hw3, z_sI_1, if_pos ⟨rfl, rfl⟩]; rfl
      · rw [hk _ (by omega), hrv x]; exact g4 x hx
      · rw [hk _ (by omega)]; exact g5 k hk2)
    have c2 : z_cw v1 T N e := b4.dr (by rw [hv1, z_sI_ne (by decide)]) (by rw [hv1, z_sI_ne (by decide)])
    have c3 := c1.s5 1
    have c4 : z_cw (z_sI v1 81 5 1) T N e := by
      obtain ⟨q1, q2, q3, q4, q5⟩ := c2
      exact ⟨by rw [z_sI_1, if_neg (by decide)]; exact q1, by rw [z_sI_1, if_neg (by decide)]; exact q2, q3, q4, fun i hi => by rw [z_sI_ne (by decide)]; exact q5 i hi⟩
    obtain ⟨u2, d1, d2, d3, d4⟩ := z_tokS c3 c4
    rw [d1, Option.bind_some]
    refine Or.inl ⟨u2, w3, z_Pu D n, e, he.1, rfl, rfl, d4, ?_, d3, hf⟩
    rw [d2.2 5 (by omega), z_sI_1, if_pos ⟨rfl, rfl⟩, hw3, z_sI_ne (by decide), h13]
  · rw [b1, z_b2e, if_pos rfl, b2, z_b2e, z_gdt (show z_inb 2 93 = true from rfl), z_lt]
    exact Or.inr ⟨u', _, rfl, rfl, b3.pl (fun i hi => z_sI_ne hi)⟩
end
