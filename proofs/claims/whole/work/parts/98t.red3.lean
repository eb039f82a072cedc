section
variable {u w : z_M} {n m p i j r a : Nat} {M : Nat → Nat → Nat} {G : (Nat → Int) → Prop} {f : Nat → Bool}
theorem zr_van : ∀ p, p < 8 → ∀ y, y < p → ∀ e, e < p → (y * e) % p = 1 → ∀ x, x < p → (x + (p - x * e % p) * y) % p = 0 := by decide +kernel
theorem zv_R_E {p : Int} {E : Nat → Nat → Int} {c : Nat} (hf : f c = true) (hc : c < m) : ∀ k j, j + k = m → j ≤ c → zv_R p m f E k j (E c)
  | 0, j, h1, h2 => absurd hc (by omega)
  | k + 1, j, h1, h2 => by
    by_cases g : j = c
    · subst g
      exact zv_R_st (v' := fun _ => 0) 1 (fun q => by rw [hf] at q; cases q) (fun i _ => ⟨0, by grind⟩) (zv_R_0 _ _)
    · exact zv_R_st 0 (fun _ => rfl) (fun i _ => ⟨0, by simp⟩) (zv_R_E hf hc k (j + 1) (by omega) (by omega))
/-- where the law stands at column j -/
def zr_st (n m p : Nat) (G : (Nat → Int) → Prop) (j : Nat) (f : Nat → Bool) (M : Nat → Nat → Nat) : Prop := fb_ct f j ≤ n ∧ (∀ c, j ≤ c → f c = false) ∧ (∀ c, c < j → f c = true → zv_ld (p : Int) (zv_c (M (fb_ct f c))) c) ∧ (∀ a, fb_ct f j ≤ a → a < n → ∀ c, c < j → M a c = 0) ∧ ∀ W, zv_cls p m W → ((∀ a, a < n → W (zv_c (M a))) ↔ ∀ g, G g → W g)
theorem zr_ctj (hj : j ≤ m) (h : ∀ c, j ≤ c → f c = false) : fb_ct f m = fb_ct f j := by
  obtain ⟨d, rfl⟩ : ∃ d, m = j + d := ⟨m - j, by omega⟩
  rw [fb_ct_split, fb_ct_zero.mpr (fun k _ => h (j + k) (by omega)), Nat.add_zero]
theorem zr_idx {c : Nat} (hc : c < j) (hf : f c = true) : fb_ct f c < fb_ct f j := by
  have := fb_ct_mono f (show c + 1 ≤ j by omega)
  rw [fb_ct_succ, hf] at this
  simp only [if_true] at this
  omega
theorem zr_end (hp : zv_pr p) (hj : j ≤ m) (h : zr_st n m p G j f M) (hE : j = m ∨ fb_ct f j = n) {c : Nat} (hc : c < m) : f c = true ↔ zv_Ld p m G c := by
  obtain ⟨h1, h2, h3, h4, h5⟩ := h
  have hlt : ∀ c, f c = true → c < j := fun c hf => by
    by_cases g : c < j
    · exact g
    · rw [h2 c (by omega)] at hf; cases hf
  have he : zv_ech p m f (fun c => zv_c (M (fb_ct f c))) := fun c _ hf => h3 c (hlt c hf) hf
  refine zv_main (zv_pr_inv hp) he ((h5 _ (zv_R_cls m 0)).mp (fun a ha => ?_)) (fun c _ hf W hW hG => (h5 W hW).mpr hG _ ?_) hc
  · by_cases g : a < fb_ct f j
    · obtain ⟨c, c1, c2, c3⟩ := fb_ct_kth g
      have := zv_R_E (p := (p : Int)) (m := m) (E := fun c => zv_c (M (fb_ct f c))) c2 (show c < m by omega) m 0 (by omega) (by omega)
      try dsimp only at this
      rw [c3] at this
      exact this
    · rcases hE with hE | hE
      · refine zv_R_cg _ _ (fun _ => 0) _ (fun i hi => ?_) (zv_R_0 _ _)
        have h0 := h4 a (by omega) ha i (by omega)
        unfold zv_c
        rw [h0]
        exact ⟨0, by simp⟩
      · omega
  · have := zr_idx (hlt c hf) hf
    omega
/-- rows exchanged, rows taken off rows -/
theorem zr_sw_W (hi : i < n) (hr : r < n) {W : (Nat → Int) → Prop} : (∀ a, a < n → W (zv_c (M (zr_sw i r a)))) ↔ ∀ a, a < n → W (zv_c (M a)) := by
  refine ⟨fun h a ha => ?_, fun h a ha => h _ (zr_sw_lt hi hr ha)⟩
  have := h _ (zr_sw_lt hi hr ha)
  rw [zr_sw_sw] at this
  exact this
theorem zr_el_W (hp : 0 < p) (hr : r < n) {e : Nat} {W : (Nat → Int) → Prop} (hW : zv_cls p m W) : (∀ a, a < n → W (zv_c (zr_el p r j e M a))) ↔ ∀ a, a < n → W (zv_c (M a)) := by
  have hd : ∀ a, r < a → ∀ k, zv_dv (p : Int) ((zr_el p r j e M a k : Int) - ((M a k : Int) - ((M a j * e % p : Nat) : Int) * (M r k : Int))) := fun a ha k => by
    unfold zr_el
    rw [if_pos ha]
    have hlt := Nat.mod_lt (M a j * e) hp
    obtain ⟨t, ht⟩ : ∃ t, t = M a j * e % p := ⟨_, rfl⟩
    rw [← ht] at hlt ⊢
    exact (zh_md3 (a := M a k) (b := M r k) (p := p) (l := t) rfl (by omega)).mul (-1) (by grind)
  have hle : ∀ a, ¬ r < a → zr_el p r j e M a = M a := fun a ha => by
    funext k
    unfold zr_el
    rw [if_neg ha]
  constructor
  · intro h a ha
    have hWr := h r hr
    rw [hle r (by omega)] at hWr
    by_cases g : r < a
    · refine hW.2.2 (fun k => 1 * zv_c (zr_el p r j e M a) k + ((M a j * e % p : Nat) : Int) * zv_c (M r) k) _ (fun k _ => ?_) (hW.2.1 _ _ _ _ (h a ha) hWr)
      exact (hd a g k).mul 1 (by dsimp only [zv_c]; grind)
    · have := h a ha
      rw [hle a g] at this
      exact this
  · intro h a ha
    by_cases g : r < a
    · refine hW.2.2 (fun k => 1 * zv_c (M a) k + (-((M a j * e % p : Nat) : Int)) * zv_c (M r) k) _ (fun k _ => ?_) (hW.2.1 _ _ _ _ (h a ha) (h r hr))
      exact (hd a g k).mul (-1) (by dsimp only [zv_c]; grind)
    · rw [hle a g]
      exact h a ha
theorem zr_step (hp : zv_pr p) (hjm : j < m) (hb : ∀ a, a < n → ∀ k, k < m → M a k < p) (h : zr_st n m p G j f M) (hr : fb_ct f j ≤ i) (hi : i < n) (h0 : M i j ≠ 0) {e : Nat} (he : e < p) (he1 : (M i j * e) % p = 1) : zr_st n m p G (j + 1) (fun k => if k = j then true else f k) (zr_el p (fb_ct f j) j e (fun a => M (zr_sw i (fb_ct f j) a))) ∧ fb_ct (fun k => if k = j then true else f k) (j + 1) = fb_ct f j + 1 := by
  obtain ⟨hp2, hp8⟩ := zh_p8 hp
  obtain ⟨h1, h2, h3, h4, h5⟩ := h
  obtain ⟨r, hr'⟩ : ∃ r, r = fb_ct f j := ⟨_, rfl⟩
  rw [← hr'] at hr h1 h4 ⊢
  have hc1 : ∀ c, c ≤ j → fb_ct (fun k => if k = j then true else f k) c = fb_ct f c := fun c hc => fb_ct_out f true hc
  have hcj : fb_ct (fun k => if k = j then true else f k) (j + 1) = r + 1 := by
    rw [fb_ct_succ, hc1 j (Nat.le_refl _), if_pos rfl, ← hr']
    rfl
  have swr : zr_sw i r r = i := by
    unfold zr_sw
    by_cases g : r = i
    · rw [if_pos g]; exact g
    · rw [if_neg g, if_pos rfl]
  have swl : ∀ a, a < r → zr_sw i r a = a := fun a ha => by
    unfold zr_sw
    rw [if_neg (by omega), if_neg (by omega)]
  have swg : ∀ a, r ≤ a → r ≤ zr_sw i r a := fun a ha => by
    unfold zr_sw
    split
    · omega
    · split
      · omega
      · exact ha
  refine ⟨⟨by omega, fun c hc => ?_, fun c hc hf => ?_, fun a ha han c hc => ?_, fun W hW => ?_⟩, hcj⟩
  · try dsimp only
    rw [if_neg (by omega)]
    exact h2 c (by omega)
  · by_cases g : c = j
    · subst g
      rw [hc1 c (Nat.le_refl _), ← hr']
      have e0 : zr_el p r c e (fun a => M (zr_sw i r a)) r = M i := by
        funext k
        unfold zr_el
        rw [if_neg (by omega)]
        dsimp only
        rw [swr]
      rw [e0]
      refine ⟨fun k hk => zv_c_0 (h4 i hr hi k hk), fun q => h0 ?_⟩
      exact (zv_dv_nat _ (hb i hi c hjm)).mp q
    · dsimp only at hf
      rw [if_neg g] at hf
      have hlt := zr_idx (show c < j by omega) hf
      rw [hc1 c (by omega)]
      have e0 : zr_el p r j e (fun a => M (zr_sw i r a)) (fb_ct f c) = M (fb_ct f c) := by
        funext k
        unfold zr_el
        rw [if_neg (by omega)]
        dsimp only
        rw [swl _ (by omega)]
      rw [e0]
      exact h3 c (by omega) hf
  · rw [hcj] at ha
    have hs1 := swg a (by omega)
    have hs2 := zr_sw_lt (i := i) (r := r) hi (by omega) han
    unfold zr_el
    rw [if_pos (show r < a by omega)]
    dsimp only
    rw [swr]
    by_cases g : c = j
    · subst g
      exact zr_van p hp8 (M i c) (hb i hi c hjm) e he he1 _ (hb _ hs2 c hjm)
    · rw [h4 _ hs1 hs2 c (by omega), h4 i hr hi c (by omega), Nat.mul_zero, Nat.zero_add, Nat.zero_mod]
  · rw [zr_el_W (by omega) (by omega) hW, zr_sw_W hi (by omega)]
    exact h5 W hW
theorem zr_reduced (hp : zv_pr p) (hn : n ≤ 35) (hm : m ≤ 35) (hM : zr_mx w n m p M) (hG : ∀ W, zv_cls p m W → ((∀ a, a < n → W (zv_c (M a))) ↔ ∀ g, G g → W g)) : z_ok (f_X10_reduced (nI n) (nI m) (nI p) w) (fun q => ∃ f, q.1 = nI (fb_ct f m) ∧ (∀ j, j < m → (f j = true ↔ zv_Ld p m G j)) ∧ ∀ i, i ≠ 19 → q.2.1 i = w.1 i) := by
  obtain ⟨hp2, hp8⟩ := zh_p8 hp
  unfold f_X10_reduced
  refine z_ok_lp (fun j q => q.2.1 = nI j ∧ (∀ i, i ≠ 19 → q.2.2.1 i = w.1 i) ∧ ∃ f M, q.1 = nI (fb_ct f j) ∧ zr_mx q.2.2 n m p M ∧ zr_st n m p G j f M) m (z_F_lt (by omega)) ⟨rfl, fun _ _ => rfl, fun _ => false, M, rfl, hM, Nat.zero_le _, fun _ _ => rfl, fun c hc => absurd hc (by omega), fun a _ _ c hc => absurd hc (by omega), hG⟩ ?_ ?_
  · rintro j ⟨a, b, v⟩ hj ⟨d1, d2, f, M, d3, d4, d5⟩ kb hkb
    try dsimp only at d1 d2 d3 d4
    subst d1 d3
    have hle : fb_ct f j ≤ n := d5.1
    obtain ⟨r, hr⟩ : ∃ r, r = fb_ct f j := ⟨_, rfl⟩
    unfold b_X10_reduced_6
    try dsimp only
    rw [if_neg (nI_ge hj (by omega)), ← hr]
    rw [← hr] at hle
    by_cases g : r = n
    · rw [if_pos (nI_le (by omega) (by omega)), z_ok_some]
      refine ⟨f, ?_, fun c hc => zr_end hp (by omega) d5 (Or.inr (by omega)) hc, d2⟩
      rw [zr_ctj (show j ≤ m by omega) d5.2.1, hr]
    · rw [if_neg (nI_ge (by omega) (by omega)), zr_22 hn hm hp8 d4 hj hle]
      obtain ⟨k1, k2, k3, k4⟩ := z_to_ok (fun i => decide (M i j = 0)) hle
      obtain ⟨i, hi⟩ : ∃ i, i = z_to (fun i => decide (M i j = 0)) n r := ⟨_, rfl⟩
      rw [← hi] at k1 k2 k3 k4 ⊢
      by_cases g2 : i = n
      · rw [if_pos (show nI i = nI n by rw [g2]), z_1]
        have hfj : f j = false := d5.2.1 j (Nat.le_refl _)
        have hct : fb_ct f (j + 1) = r := by rw [fb_ct_succ, hfj, hr]; rfl
        obtain ⟨s1, s2, s3, s4, s5⟩ := d5
        refine hkb _ ⟨rfl, d2, f, M, congrArg nI hct.symm, d4, by omega, fun c hc => s2 c (by omega), fun c hc hf => ?_, fun a ha han c hc => ?_, s5⟩
        · by_cases g3 : c = j
          · rw [g3, hfj] at hf; cases hf
          · exact s3 c (by omega) hf
        · by_cases g3 : c = j
          · have := k3 a (by omega) (by omega)
            rw [g3]
            simpa using this
          · exact s4 a (by omega) han c (by omega)
      · have hin : i < n := by omega
        have h0 : M i j ≠ 0 := by simpa using k4 hin
        rw [if_neg (show ¬ nI i = nI n from fun q => g2 ((nI_eq (by omega) (by omega)).mp q))]
        refine zr_62 hn hm d4 hin (show r < n by omega) _ _ _ (fun w1 f1 f2 => ?_)
        have swr : zr_sw i r r = i := by
          unfold zr_sw
          by_cases g : r = i
          · rw [if_pos g]; exact g
          · rw [if_neg g, if_pos rfl]
        have hv := f2 r (by omega) j hj
        try dsimp only at hv
        rw [swr] at hv
        obtain ⟨x, x0, e, rfl, e1, e2, e3⟩ := s10_inverse hp (v := M i j) (by omega) hv.2
        rw [zr_ix r (by omega) j (by omega), z_gdt (z_inb_nI (by omega) (by decide)), z_gI, z_cl (by omega), hv.1, x0, Option.bind_some, z_1, z_1, z_lt]
        refine zr_155 hp hn hm f2 (show r < n by omega) hj e2 (fun w2 f3 f4 => ?_)
        have hb : ∀ a, a < n → ∀ k, k < m → M a k < p := fun a ha k hk => (d4 a ha k hk).2
        have hst := zr_step hp hj hb d5 (i := i) (by omega) hin h0 e2 e3
        rw [← hr] at hst
        exact hkb _ ⟨rfl, fun k hk => ((f3 k hk).trans (f1 k hk)).trans (d2 k hk), _, _, congrArg nI hst.2.symm, f4, hst.1⟩
  · rintro ⟨a, b, v⟩ ⟨d1, d2, f, M, d3, d4, d5⟩ kb
    try dsimp only at d1 d2 d3 d4
    subst d1 d3
    unfold b_X10_reduced_6
    try dsimp only
    rw [if_pos (nI_le (Nat.le_refl _) (by omega)), z_ok_some]
    exact ⟨f, rfl, fun c hc => zr_end hp (Nat.le_refl _) d5 (Or.inl rfl) hc, d2⟩
end
