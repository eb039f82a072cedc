section
variable {u w : z_M} {P : z_P} {I k p s x g : Nat}
/-- the row of a face -/
noncomputable def zf_A (P : z_P) (I p k s : Nat) : Nat → Int := zv_c (fun c => zf_en P p s (zf_kt (z_fcp P I k) c))
def zf_G (P : z_P) (I p k : Nat) (g : Nat → Int) : Prop := ∃ s, s < 512 ∧ z_fcp P I (k + 1) s = true ∧ g = zf_A P I p k s
/-- what stands after the faces ahead of s -/
def zf_in (P : z_P) (I p k m s : Nat) (f : Nat → Bool) (E : Nat → Nat → Nat) : Prop := (∀ t, t < s → t < 512 → z_fcp P I (k + 1) t = true → zv_R p m f (zv_cE E) m 0 (zf_A P I p k t)) ∧ ∀ W, zv_cls p m W → (∀ g, zf_G P I p k g → W g) → ∀ j, j < m → f j = true → W (zv_cE E j)
theorem zf_in_end (hp : zv_pr p) {m : Nat} {f : Nat → Bool} {E : Nat → Nat → Nat} (hv : zh_pv u m p f E) (hi : zf_in P I p k m s f E) (h : s = 512 ∨ fb_ct f m = m) {j : Nat} (hj : j < m) : f j = true ↔ zv_Ld p m (zf_G P I p k) j := by
  have he : zv_ech p m f (zv_cE E) := zh_ech hp (fun c hc hf => ⟨((hv c hc).2 hf).1, ((hv c hc).2 hf).2.1⟩)
  rcases h with rfl | h
  · refine zv_main (zv_pr_inv hp) he ?_ (fun j hj hf W hW hG => hi.2 W hW hG j hj hf) hj
    rintro g ⟨t, t1, t2, rfl⟩
    exact hi.1 t t1 t1 t2
  · have hf := fb_ct_all.mp h j hj
    exact ⟨fun _ => ⟨zv_cE E j, fun W hW hG => hi.2 W hW hG j hj hf, he j hj hf⟩, fun _ => hf⟩
theorem s3_rank (hr : z_rc u 0 P) (hw : z_wf P) (hp : zv_pr p) (hI7 : z_pc I ≤ 7) (hk : k < 900) : z_ok (f_X3_rank 0 (nI I) (nI (k + 1)) (nI p) u) (fun q => ∃ f, q.1 = nI (fb_ct f (fb_ct (z_fcp P I k) 512)) ∧ (∀ j, j < fb_ct (z_fcp P I k) 512 → (f j = true ↔ zv_Ld p (fb_ct (z_fcp P I k) 512) (zf_G P I p k) j)) ∧ ∀ j, (j < 135 ∨ 137 < j) → q.2.1 j = u.1 j) := by
  have h35 := z_fcp_35 (P := P) (k := k) hI7
  obtain ⟨⟨n1, u1⟩, a0, a1, a2, a3⟩ := s3_list (I := I) hr hw (show k < 1000 by omega)
  try dsimp only at a1 a2 a3
  subst a1
  unfold f_X3_rank
  rw [if_pos (show (1 : Int32) ≤ nI (k + 1) from nI_le (a := 1) (by omega) (by omega)), zf_dec, a0, z_b2e, z_lt, if_neg (show ¬ (35 : Int32) < nI (fb_ct (z_fcp P I k) 512) from nI_nlt (a := 35) h35 (by decide))]
  obtain ⟨m, hm⟩ : ∃ m, m = fb_ct (z_fcp P I k) 512 := ⟨_, rfl⟩
  rw [← hm] at h35 ⊢
  refine z_ok_lp (fun t q => q.1 = nI t ∧ (∀ i, i ≠ 136 → q.2.1 i = u1.1 i) ∧ ∀ c, c < t → q.2.1 136 (c * 35 + c) = 0) m (z_F_lt (by omega)) ⟨rfl, fun _ _ => rfl, fun c hc => absurd hc (by omega)⟩ ?_ ?_
  · rintro t ⟨a, v⟩ ht ⟨e1, e2, e3⟩ kb hkb
    try dsimp only at e1 e2 e3
    subst e1
    unfold b_X3_rank_26
    try dsimp only
    rw [if_neg (nI_ge (by omega) (by omega)), zh_ix t (by omega) t (by omega), z_gdt (z_inb_nI (by omega) (by decide)), z_lt, z_cl (by omega), z_1]
    refine hkb _ ⟨rfl, fun i hi => ?_, fun c hc => ?_⟩
    · try dsimp only
      rw [z_sI_ne hi]; exact e2 i hi
    · try dsimp only
      rw [z_sI_1]
      by_cases g : t = c
      · rw [if_pos ⟨rfl, by rw [g]⟩]
      · rw [if_neg (fun q => g (by omega))]
        exact e3 c (by omega)
  · rintro ⟨a, v⟩ ⟨e1, e2, e3⟩ kb
    try dsimp only at e1 e2 e3
    subst e1
    unfold b_X3_rank_26
    try dsimp only
    rw [if_pos (nI_le (Nat.le_refl _) (by omega))]
    have hfr : ∀ j, (j < 135 ∨ 137 < j) → v.1 j = u.1 j := fun j hj => (e2 j (by omega)).trans (a2 j (by omega))
    have h135 : ∀ g, g < 512 → z_fcp P I k g = true → v.1 135 g = nI (fb_ct (z_fcp P I k) g) := fun g g1 g2 => by
      rw [e2 135 (by decide)]
      exact a3 g g1 g2
    refine z_ok_lp (fun s q => q.2.1 = nI s ∧ (∀ j, (j < 136 ∨ 137 < j) → q.2.2.1 j = v.1 j) ∧ ∃ f E, q.1 = nI (fb_ct f m) ∧ zh_pv q.2.2 m p f E ∧ zf_in P I p k m s f E) 512 z_512F ⟨rfl, fun _ _ => rfl, fun _ => false, fun _ _ => 0, ?_, fun c hc => ⟨fun _ => e3 c hc, fun q => by cases q⟩, fun t ht => absurd ht (by omega), fun W _ _ j _ q => by cases q⟩ ?_ ?_
    · show (0 : Int32) = nI (fb_ct (fun _ => false) m)
      rw [fb_ct_zero.mpr (fun _ _ => rfl)]
      rfl
    · rintro s ⟨a, b, v1⟩ hs ⟨d1, d2, f, E, d3, d4, d5⟩ kb hkb
      try dsimp only at d1 d2 d3 d4 d5
      subst d1 d3
      have hle := fb_ct_le f m
      have hrv : z_rc v1 0 P := z_rc_cg (fun i hi => (d2 _ (by omega)).trans (hfr _ (by omega))) hr
      unfold b_X3_rank_59
      try dsimp only
      rw [if_neg (show ¬ (512 : Int32) ≤ nI s by rw [z_512 hs]; exact id)]
      by_cases g : fb_ct f m = m
      · rw [if_pos (nI_le (by omega) (by omega)), z_ok_some]
        exact ⟨f, rfl, fun j hj => zf_in_end hp d4 d5 (Or.inr g) hj, fun j hj => (d2 j (by omega)).trans (hfr j hj)⟩
      · rw [if_neg (nI_ge (by omega) (by omega)), s3_isFace hrv hw hs (show k + 1 < 1000 by omega), Option.bind_some, z_1, z_1]
        cases hf : z_fcp P I (k + 1) s
        · rw [if_pos (show z_bi false = 0 from rfl)]
          refine hkb _ ⟨rfl, d2, f, E, rfl, d4, fun t ht t5 htf => ?_, d5.2⟩
          by_cases e : t = s
          · rw [e, hf] at htf; cases htf
          · exact d5.1 t (by omega) t5 htf
        · rw [if_neg (show ¬ z_bi true = 0 by decide)]
          obtain ⟨v2, w0, w1, w2⟩ := s3_write hrv hw hp hI7 hs hf (fun g g1 g2 => by rw [d2 135 (by omega)]; exact h135 g g1 g2)
          rw [← hm] at w2
          have hpv : zh_pv v2 m p f E := fun c hc => by
            rw [w1 136 (by decide)]
            exact d4 c hc
          obtain ⟨⟨r, v3⟩, x0, f', E', x1, x2, x3, x4, x5, x6⟩ := zh_reduce hp h35 hpv w2
          try dsimp only at x1 x5 x6
          have hin : zf_in P I p k m (s + 1) f' E' := by
            refine ⟨fun t ht t5 htf => ?_, fun W hW hG => x4 W hW (hG _ ⟨s, hs, hf, rfl⟩) (d5.2 W hW hG)⟩
            by_cases e : t = s
            · rw [e]; exact x3
            · exact zv_R_ext x2 m 0 _ (by omega) (d5.1 t (by omega) t5 htf)
          have hfr3 : ∀ j, (j < 136 ∨ 137 < j) → v3.1 j = v.1 j := fun j hj => ((x5 j (by omega) (by omega)).trans (w1 j (by omega))).trans (d2 j hj)
          rw [w0, Option.bind_some, x0, z_b2e]
          rcases x6 with ⟨rfl, x6⟩ | ⟨rfl, x6⟩
          · rw [if_pos rfl]
            exact hkb _ ⟨rfl, hfr3, f', E', congrArg nI x6.symm, x1, hin⟩
          · rw [if_neg (show ¬ (1 : Int32) = 0 by decide)]
            exact hkb _ ⟨rfl, hfr3, f', E', congrArg nI x6.symm, x1, hin⟩
    · rintro ⟨a, b, v1⟩ ⟨d1, d2, f, E, d3, d4, d5⟩ kb
      try dsimp only at d1 d2 d3 d4 d5
      subst d1 d3
      unfold b_X3_rank_59
      try dsimp only
      rw [if_pos (show (512 : Int32) ≤ nI 512 by decide), z_ok_some]
      exact ⟨f, rfl, fun j hj => zf_in_end hp d4 d5 (Or.inl rfl) hj, fun j hj => (d2 j (by omega)).trans (hfr j hj)⟩
end
