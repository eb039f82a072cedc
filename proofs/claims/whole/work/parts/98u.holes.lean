section
variable {u w : z_M} {P : z_P} {I k p s g i : Nat}
theorem zr_104 (hr : z_rr (w.1 1) P) (hw : z_wf P) (hs : s < 512) (hst : ∀ x, x < 9 → s.testBit x = true → (z_th P).testBit x = true) (h17 : w.1 17 i = nI s) (hi : i < 128) (x3 x4 x5 x7 : Int32) (kx : Int32 → Option (Int32 × z_M)) : z_lp (b_X10_rank_104 x3 x4 x5 (nI i) x7 (nI (z_df s g)) 1 w) z_F (0, 0) kx = kx (nI (zf_us P s g)) := by
  unfold zf_us
  refine z_lpr (fun t => (nI (fb_sm (fun x => if (z_df s g).testBit x then z_pc (z_un P x &&& s) else 0) t), nI t)) _ 9 (by decide) (fun t ht kb => ?_) (fun kb => ?_)
  · have e : fb_sm (fun x => if (z_df s g).testBit x then z_pc (z_un P x &&& s) else 0) (t + 1) = fb_sm (fun x => if (z_df s g).testBit x then z_pc (z_un P x &&& s) else 0) t + (if (z_df s g).testBit t then z_pc (z_un P t &&& s) else 0) := rfl
    unfold b_X10_rank_104
    try dsimp only
    rw [if_neg (show ¬ (9 : Int32) ≤ nI t by rw [z_le9 ht]; exact id), if_neg (show ¬ (1 : Int32) = 0 by decide), s_has (z_31 (z_df_lt hs)) ht, Option.bind_some, e, z_1]
    cases hb : (z_df s g).testBit t
    · rw [if_pos (show z_bi false = 0 from rfl), z_lt, Int32.add_zero]
      rfl
    · have hb2 := hb
      rw [z_df_bit, Bool.and_eq_true] at hb2
      rw [if_neg (show ¬ z_bi true = 0 by decide), s10_belowT hr hw ht (hst t ht hb2.1), Option.bind_some, z_gdt (z_inb_nI hi (by decide)), z_gI, z_cl (by omega), h17, z_and, s_bits (z_and_lt _ (z_un_lt P t)), Option.bind_some, z_lt, nI_add]
      rfl
  · unfold b_X10_rank_104
    try dsimp only
    rw [if_pos (show (9 : Int32) ≤ nI 9 by decide)]
theorem zr_104n (x3 x4 x5 x6 x7 x8 : Int32) (kx : Int32 → Option (Int32 × z_M)) : z_lp (b_X10_rank_104 x3 x4 x5 x6 x7 x8 0 w) z_F (0, 0) kx = kx 0 := by
  refine z_lpr (fun t => ((0 : Int32), nI t)) _ 0 (by decide) (fun t ht => absurd ht (by omega)) (fun kb => ?_)
  unfold b_X10_rank_104
  try dsimp only
  rw [if_neg (show ¬ (9 : Int32) ≤ nI 0 by decide), if_pos rfl]
theorem zf_us_le (P : z_P) (s g : Nat) : zf_us P s g ≤ 81 := by
  unfold zf_us
  refine fb_sm_bound (c := 9) (n := 9) (fun x _ => ?_)
  try dsimp only
  split
  · exact z_pc_le _
  · omega
theorem zr_45 (hr : z_rr (w.1 1) P) (hw : z_wf P) (hp : zv_pr p) (hI7 : z_pc I ≤ 7) (hs : s < 512) (hst : ∀ x, x < 9 → s.testBit x = true → (z_th P).testBit x = true) (h17 : w.1 17 i = nI s) (hi : i < 35) (h18 : ∀ t, t < 512 → z_fcp P I k t = true → w.1 18 (fb_ct (z_fcp P I k) t) = nI t) (x4 : Int32) {kx : z_M → Option (Int32 × z_M)} {Q : Int32 × z_M → Prop} (hk : ∀ w', (∀ j, j ≠ 19 → w'.1 j = w.1 j) → (∀ d, (d < 40 * i ∨ 40 * i + 40 ≤ d) → w'.1 19 d = w.1 19 d) → (∀ c, c < fb_ct (z_fcp P I k) 512 → w'.1 19 (40 * i + c) = nI (zf_en P p s (zf_kt (z_fcp P I k) c))) → z_ok (kx w') Q) : z_ok (z_lp (b_X10_rank_45 (nI p) x4 (nI (fb_ct (z_fcp P I k) 512)) (nI i)) z_F (0, w) kx) Q := by
  obtain ⟨hp2, hp8⟩ := zh_p8 hp
  have h35 := z_fcp_35 (P := P) (k := k) hI7
  refine z_ok_lp (fun t q => q.1 = nI t ∧ (∀ j, j ≠ 19 → q.2.1 j = w.1 j) ∧ (∀ d, (d < 40 * i ∨ 40 * i + 40 ≤ d) → q.2.1 19 d = w.1 19 d) ∧ ∀ c, c < t → q.2.1 19 (40 * i + c) = nI (zf_en P p s (zf_kt (z_fcp P I k) c))) (fb_ct (z_fcp P I k) 512) (z_F_lt (by omega)) ⟨rfl, fun _ _ => rfl, fun _ _ => rfl, fun c hc => absurd hc (by omega)⟩ ?_ ?_
  · rintro t ⟨a, v⟩ ht ⟨e1, e2, e3, e4⟩ kb hkb
    try dsimp only at e1 e2 e3 e4
    subst e1
    obtain ⟨k1, k2, k3⟩ := zf_kt_ok ht
    have v18 := h18 _ k1 k2
    rw [k3] at v18
    obtain ⟨g, hg⟩ : ∃ g, g = zf_kt (z_fcp P I k) t := ⟨_, rfl⟩
    rw [← hg] at k1 k2 k3 v18
    have hrv : z_rr (v.1 1) P := by rw [e2 1 (by decide)]; exact hr
    have hen : ∀ z : Int32, z = nI (zf_en P p s g) → z_ok (kb (nI (t + 1), z_sI v 19 (40 * i + t) z)) Q := fun z hz => by
      refine hkb _ ⟨rfl, fun j hj => ?_, fun d hd => ?_, fun c hc => ?_⟩
      · try dsimp only
        rw [z_sI_ne hj]; exact e2 j hj
      · try dsimp only
        rw [z_sI_1, if_neg (by omega)]; exact e3 d hd
      · try dsimp only
        rw [z_sI_1]
        by_cases h : t = c
        · subst h
          rw [if_pos ⟨rfl, rfl⟩, hz, hg]
        · rw [if_neg (by omega)]; exact e4 c (by omega)
    unfold b_X10_rank_45
    try dsimp only
    rw [if_neg (nI_ge ht (by omega)), z_gdt (z_inb_nI (by omega) (by decide)), z_gdt (z_inb_nI (by omega) (by decide)), z_cl (by omega), z_cl (by omega), z_gI, z_gI, e2 17 (by decide), e2 18 (by decide), h17, v18, z_andc, z_andc, z_lt, z_gdt (z_inb_nI (by omega) (by decide)), z_gdt (z_inb_nI (by omega) (by decide)), z_1, zr_ix i (by omega) t (by omega), z_cl (by omega)]
    by_cases h : z_sb g s = true
    · rw [if_pos (show nI (z_df g s) = 0 by rw [z_df_sb.mpr h]; exact nI_0), zr_104 hrv hw hs hst (by rw [e2 17 (by decide)]; exact h17) (by omega)]
      have hle := zf_us_le P s g
      have e : nI (zf_us P s g) - nI (zf_us P s g) / 2 * 2 = nI (zf_us P s g % 2) := zh_rd 2 (by decide) (by decide) _ (by omega)
      rw [e]
      have hm2 := Nat.mod_lt (zf_us P s g) (show 0 < 2 by decide)
      by_cases h2 : zf_us P s g % 2 = 0
      · rw [if_pos (show nI (zf_us P s g % 2) = 0 by rw [h2]; exact nI_0), z_gdt (z_inb_nI (by omega) (by decide)), z_lt]
        refine hen 1 ?_
        unfold zf_en
        rw [if_pos h, if_pos h2]
        rfl
      · rw [if_neg (show ¬ nI (zf_us P s g % 2) = 0 from fun q => h2 ((z_nI0 (by omega)).mp q)), z_gdt (z_inb_nI (by omega) (by decide)), z_lt]
        refine hen _ ?_
        unfold zf_en
        rw [if_pos h, if_neg h2]
        exact z_nsub (s := 1) (by omega)
    · rw [if_neg (show ¬ nI (z_df g s) = 0 from fun q => h (z_df_sb.mp ((z_nI0 (Nat.lt_trans (z_df_lt k1) (by decide))).mp q))), zr_104n, z_gdt (z_inb_nI (by omega) (by decide)), z_lt]
      refine hen 0 ?_
      unfold zf_en
      rw [if_neg h]
      rfl
  · rintro ⟨a, v⟩ ⟨e1, e2, e3, e4⟩ kb
    try dsimp only at e1 e2 e3 e4
    subst e1
    unfold b_X10_rank_45
    try dsimp only
    rw [if_pos (nI_le (Nat.le_refl _) (by omega))]
    exact hk v e2 e3 e4
theorem s10_rank (hr : z_rr (w.1 1) P) (hw : z_wf P) (hp : zv_pr p) (hI : I < 512) (hI7 : z_pc I ≤ 7) (hIt : ∀ x, x < 9 → I.testBit x = true → (z_th P).testBit x = true) (hk : k < 900) : z_ok (f_X10_rank (nI I) (nI (k + 1)) (nI p) w) (fun q => ∃ f, q.1 = nI (fb_ct f (fb_ct (z_fcp P I k) 512)) ∧ (∀ j, j < fb_ct (z_fcp P I k) 512 → (f j = true ↔ zv_Ld p (fb_ct (z_fcp P I k) 512) (zf_G P I p k) j)) ∧ ∀ j, j < 17 → q.2.1 j = w.1 j) := by
  obtain ⟨hp2, hp8⟩ := zh_p8 hp
  have h35 := z_fcp_35 (P := P) (k := k) hI7
  have n35 := z_fcp_35 (P := P) (k := k + 1) hI7
  obtain ⟨⟨n1, w1⟩, a0, a1, a2, a3⟩ := s10_layFaces (p := 17) (k := k + 1) hr hw (by decide) hI hI7 hIt (by omega)
  try dsimp only at a1 a2 a3
  subst a1
  have hr1 : z_rr (w1.1 1) P := by rw [a2 1 (by decide)]; exact hr
  obtain ⟨⟨n2, w2⟩, b0, b1, b2, b3⟩ := s10_layFaces (p := 18) (k := k) hr1 hw (by decide) hI hI7 hIt (by omega)
  try dsimp only at b1 b2 b3
  subst b1
  have hr2 : z_rr (w2.1 1) P := by rw [b2 1 (by decide)]; exact hr1
  unfold f_X10_rank
  rw [if_neg (show ¬ nI (k + 1) = 0 from fun q => by
    have := (z_nI0 (by omega)).mp q
    omega), a0, z_b2e, zf_dec, b0, z_b2e]
  obtain ⟨n, hn⟩ : ∃ n, n = fb_ct (z_fcp P I (k + 1)) 512 := ⟨_, rfl⟩
  rw [← hn] at n35 ⊢
  refine z_ok_lp (fun t q => q.1 = nI t ∧ (∀ j, j ≠ 19 → q.2.1 j = w2.1 j) ∧ ∀ a, a < t → ∀ c, c < fb_ct (z_fcp P I k) 512 → q.2.1 19 (40 * a + c) = nI (zf_en P p (zf_kt (z_fcp P I (k + 1)) a) (zf_kt (z_fcp P I k) c))) n (z_F_lt (by omega)) ⟨rfl, fun _ _ => rfl, fun a ha => absurd ha (by omega)⟩ ?_ ?_
  · rintro t ⟨a, v⟩ ht ⟨e1, e2, e3⟩ kb hkb
    try dsimp only at e1 e2 e3
    subst e1
    obtain ⟨k1, k2, k3⟩ := zf_kt_ok (q := z_fcp P I (k + 1)) (j := t) (by omega)
    have hrv : z_rr (v.1 1) P := by rw [e2 1 (by decide)]; exact hr2
    have hsub := (zf_fcp.mp k2).1
    rw [z_sb_iff k1] at hsub
    have v17 : v.1 17 t = nI (zf_kt (z_fcp P I (k + 1)) t) := by
      have := a3 _ k1 k2
      rw [k3] at this
      rw [e2 17 (by decide), b2 17 (by decide)]
      exact this
    unfold b_X10_rank_35
    try dsimp only
    rw [if_neg (nI_ge ht (by omega)), z_1]
    refine zr_45 hrv hw hp hI7 k1 (fun x hx hb => hIt x hx (hsub x hx hb)) v17 (by omega) (fun g g1 g2 => by rw [e2 18 (by decide)]; exact b3 g g1 g2) _ (fun w' f1 f2 f3 => ?_)
    refine hkb _ ⟨rfl, fun j hj => (f1 j hj).trans (e2 j hj), fun a ha c hc => ?_⟩
    by_cases h : a = t
    · rw [h]; exact f3 c hc
    · try dsimp only
      rw [f2 _ (by omega)]
      exact e3 a (by omega) c hc
  · rintro ⟨a, v⟩ ⟨e1, e2, e3⟩ kb
    try dsimp only at e1 e2 e3
    subst e1
    unfold b_X10_rank_35
    try dsimp only
    rw [if_pos (nI_le (Nat.le_refl _) (by omega))]
    have hG : ∀ W, zv_cls p (fb_ct (z_fcp P I k) 512) W → ((∀ a, a < n → W (zv_c (fun c => zf_en P p (zf_kt (z_fcp P I (k + 1)) a) (zf_kt (z_fcp P I k) c)))) ↔ ∀ g, zf_G P I p k g → W g) := fun W _ => by
      constructor
      · rintro h g ⟨s, s1, s2, rfl⟩
        have := h (fb_ct (z_fcp P I (k + 1)) s) (by rw [hn]; exact zf_ct_lt s1 s2)
        rw [zf_kt_of s1 s2] at this
        exact this
      · intro h a ha
        obtain ⟨k1, k2, k3⟩ := zf_kt_ok (q := z_fcp P I (k + 1)) (j := a) (by omega)
        exact h _ ⟨_, k1, k2, rfl⟩
    obtain ⟨⟨x, w3⟩, c0, f, c1, c2, c3⟩ := zr_reduced (w := v) hp n35 h35 (M := fun a c => zf_en P p (zf_kt (z_fcp P I (k + 1)) a) (zf_kt (z_fcp P I k) c)) (fun a ha c hc => ⟨e3 a ha c hc, zf_en_lt hp⟩) hG
    try dsimp only at c1 c3
    rw [c0, z_b2e, z_ok_some]
    exact ⟨f, c1, c2, fun j hj => ((c3 j (by omega)).trans (e2 j (by omega))).trans ((b2 j (by omega)).trans (a2 j (by omega)))⟩
/-! both ranks are one number -/
noncomputable def zf_rk (p : Int) (m : Nat) (G : (Nat → Int) → Prop) : Nat := fb_ct (fun j => @decide (zv_Ld p m G j) (Classical.propDecidable _)) m
theorem zf_rk_of {p : Int} {m : Nat} {G : (Nat → Int) → Prop} {f : Nat → Bool} (h : ∀ j, j < m → (f j = true ↔ zv_Ld p m G j)) : fb_ct f m = zf_rk p m G := by
  unfold zf_rk
  refine fb_ct_cong (fun j hj => ?_)
  have hj' := h j hj
  cases hf : f j
  · rw [hf] at hj'
    exact (@decide_eq_false _ (Classical.propDecidable _) (fun q => by cases hj'.mpr q)).symm
  · exact (@decide_eq_true _ (Classical.propDecidable _) (hj'.mp hf)).symm
noncomputable def zf_rz (P : z_P) (I p : Nat) : Nat → Nat
  | 0 => 0
  | k + 1 => zf_rk p (fb_ct (z_fcp P I k) 512) (zf_G P I p k)
theorem s3_rankZ (hr : z_rc u 0 P) (hw : z_wf P) (hp : zv_pr p) (hI7 : z_pc I ≤ 7) (hk : k < 900) : z_ok (f_X3_rank 0 (nI I) (nI k) (nI p) u) (fun q => q.1 = nI (zf_rz P I p k) ∧ ∀ j, (j < 135 ∨ 137 < j) → q.2.1 j = u.1 j) := by
  match k, hk with
  | 0, _ =>
    unfold f_X3_rank
    rw [if_neg (show ¬ (1 : Int32) ≤ nI 0 by decide), z_ok_some]
    exact ⟨rfl, fun _ _ => rfl⟩
  | k + 1, hk =>
    refine z_ok_mono (s3_rank hr hw hp hI7 (by omega)) ?_
    rintro q ⟨f, h1, h2, h3⟩
    refine ⟨?_, h3⟩
    rw [h1, zf_rk_of h2]
    rfl
theorem s10_rankZ (hr : z_rr (w.1 1) P) (hw : z_wf P) (hp : zv_pr p) (hI : I < 512) (hI7 : z_pc I ≤ 7) (hIt : ∀ x, x < 9 → I.testBit x = true → (z_th P).testBit x = true) (hk : k < 900) : z_ok (f_X10_rank (nI I) (nI k) (nI p) w) (fun q => q.1 = nI (zf_rz P I p k) ∧ ∀ j, j < 17 → q.2.1 j = w.1 j) := by
  match k, hk with
  | 0, _ =>
    unfold f_X10_rank
    rw [if_pos (show nI 0 = 0 from nI_0), z_ok_some]
    exact ⟨rfl, fun _ _ => rfl⟩
  | k + 1, hk =>
    refine z_ok_mono (s10_rank hr hw hp hI hI7 hIt (by omega)) ?_
    rintro q ⟨f, h1, h2, h3⟩
    refine ⟨?_, h3⟩
    rw [h1, zf_rk_of h2]
    rfl
theorem zf_none (hI7 : z_pc I ≤ 7) (hk : 8 ≤ k) : fb_ct (z_fcp P I k) 512 = 0 := by
  rw [fb_ct_zero]
  intro s hs
  cases hf : z_fcp P I k s
  · rfl
  · rw [zf_fcp] at hf
    have h1 := hf.1
    rw [z_sb_iff hs] at h1
    have := z_pc_mono h1
    omega
theorem zf_rz_0 (hI7 : z_pc I ≤ 7) (hk : 8 ≤ k) : zf_rz P I p (k + 1) = 0 := by
  show zf_rk p (fb_ct (z_fcp P I k) 512) (zf_G P I p k) = 0
  rw [zf_none hI7 hk]
  rfl
theorem zf_p4 (a : Int32) : (∃ p, zv_pr p ∧ a = nI p) ∨ (¬ a = 2 ∧ ¬ a = 3 ∧ ¬ a = 5 ∧ ¬ a = 7) := by
  by_cases h2 : a = 2
  · exact Or.inl ⟨2, Or.inl rfl, h2⟩
  · by_cases h3 : a = 3
    · exact Or.inl ⟨3, Or.inr (Or.inl rfl), h3⟩
    · by_cases h5 : a = 5
      · exact Or.inl ⟨5, Or.inr (Or.inr (Or.inl rfl)), h5⟩
      · by_cases h7 : a = 7
        · exact Or.inl ⟨7, Or.inr (Or.inr (Or.inr rfl)), h7⟩
        · exact Or.inr ⟨h2, h3, h5, h7⟩
theorem s9_holesP (hp : zv_pr p) (a1 a2 a3 : Int32) (h3 : ¬ a3 < -1) (u : z_M) : f_X9_holes a1 a2 a3 (nI p) u = j_X9_holes_j32 a1 a2 a3 (nI p) u := by
  unfold f_X9_holes
  rw [if_neg h3]
  rcases hp with rfl | rfl | rfl | rfl
  · rw [if_pos (show nI 2 = 2 from rfl)]
  · rw [if_neg (show ¬ nI 3 = 2 by decide), if_pos (show nI 3 = 3 from rfl)]
  · rw [if_neg (show ¬ nI 5 = 2 by decide), if_neg (show ¬ nI 5 = 3 by decide), if_pos (show nI 5 = 5 from rfl)]
  · rw [if_neg (show ¬ nI 7 = 2 by decide), if_neg (show ¬ nI 7 = 3 by decide), if_neg (show ¬ nI 7 = 5 by decide), if_pos (show nI 7 = 7 from rfl)]
theorem s10_holesP (hp : zv_pr p) (a1 a2 a3 : Int32) (h3 : ¬ a3 < -1) (w : z_M) : f_X10_holes a1 a2 a3 (nI p) w = j_X10_holes_j43 a1 a2 a3 (nI p) 1 a2 a1 (z_sI w 0 0 0) := by
  unfold f_X10_holes j_X10_holes_j38
  rw [z_lt, if_neg h3]
  rcases hp with rfl | rfl | rfl | rfl
  · rw [if_pos (show nI 2 = 2 from rfl)]
  · rw [if_neg (show ¬ nI 3 = 2 by decide), if_pos (show nI 3 = 3 from rfl)]
  · rw [if_neg (show ¬ nI 5 = 2 by decide), if_neg (show ¬ nI 5 = 3 by decide), if_pos (show nI 5 = 5 from rfl)]
  · rw [if_neg (show ¬ nI 7 = 2 by decide), if_neg (show ¬ nI 7 = 3 by decide), if_neg (show ¬ nI 7 = 5 by decide), if_pos (show nI 7 = 7 from rfl)]
theorem p_holes : z_S_holes z_Inv := by
  intro a1 a2 a3 a4 u w hI
  refine z_rd2 hI (fun P hw hc hr pm => ?_)
  have hr' := z_rr0 hr 0
  have hno : ∀ x1 x2 x3 x4 x5 x6, z_ok (j_X10_holes_j43 x1 x2 x3 x4 0 x5 x6 (z_sI w 0 0 0)) (fun q => q.1 = -1 ∧ z_eR w q.2) := fun x1 x2 x3 x4 x5 x6 => by
    unfold j_X10_holes_j43
    rw [s10_noInner hr' hw, Option.bind_some, if_pos rfl, if_neg (show ¬ (0 : Int32) ≤ -1 by decide), z_ok_some]
    exact ⟨rfl, z_eR0 w⟩
  by_cases h3 : a3 < -1
  · refine ⟨-1, ?_, ?_⟩
    · unfold f_X9_holes
      rw [if_pos h3, z_ok_some]
      exact ⟨rfl, z_eC.rf pm⟩
    · unfold f_X10_holes j_X10_holes_j42
      rw [z_lt, if_pos h3]
      exact hno _ _ _ _ _ _
  rcases zf_p4 a4 with ⟨p, hp, rfl⟩ | ⟨n2, n3, n5, n7⟩
  · have h3' : -1 ≤ a3 := by
      rw [Int32.le_iff_toInt_le]
      rw [Int32.lt_iff_toInt_lt] at h3
      omega
    rw [s9_holesP hp _ _ _ h3, s10_holesP hp _ _ _ h3]
    unfold j_X9_holes_j32 j_X10_holes_j43
    rw [s9_troubleWithin hc hw, s10_noInner hr' hw, Option.bind_some, Option.bind_some, if_neg (show ¬ (1 : Int32) = 0 by decide)]
    rcases z_trw_cases P hw a1 a2 with h | h | ⟨h, x, y, hx, hy, rfl, rfl, tx, ty, hxy, hne, -⟩
    · rw [h]
      exact ⟨-1, by rw [if_neg (by decide), z_ok_some]; exact ⟨rfl, z_eC.rf pm⟩, by rw [if_neg (by decide), z_ok_some]; exact ⟨rfl, z_eR0 w⟩⟩
    · rw [h]
      exact ⟨-2, by rw [if_neg (by decide), z_ok_some]; exact ⟨rfl, z_eC.rf pm⟩, by rw [if_neg (by decide), z_ok_some]; exact ⟨rfl, z_eR0 w⟩⟩
    · have hin : ∀ k, k < 9 → (z_inr P x y).testBit k = true → (z_th P).testBit k = true := fun k hk hb => by
        rw [z_inr_bit hk, Bool.and_eq_true] at hb
        exact (hw.in x k hx hk hb.1).2
      have hI5 : z_inr P x y < 512 := z_inr_lt hw hx
      have hI7 : z_pc (z_inr P x y) ≤ 7 := z_inr_7 hw hx hy hne
      rw [h, if_pos rfl, if_pos (show (0 : Int32) ≤ 0 by decide), s6_innerOf hc hw hx hy tx ty, s10_inner hr' hw hx hy tx ty, Option.bind_some, Option.bind_some]
      obtain ⟨I, hIe⟩ : ∃ I, I = z_inr P x y := ⟨_, rfl⟩
      rw [← hIe] at hin hI5 hI7 ⊢
      have hlaw : ∀ k, k < 20 → z_ok (z_b2 (f_X10_layFaces 17 128 (nI I) (nI k) (z_sI w 0 0 0)) (fun r7 u8 => z_b2 (f_X10_rank (nI I) (nI k) (nI p) u8) (fun r9 u10 => z_b2 (f_X10_rank (nI I) (nI k + 1) (nI p) u10) (fun r11 u12 => some ((r7 - r9) - r11, u12))))) (fun q => q.1 = nI (fb_ct (z_fcp P I k) 512) - nI (zf_rz P I p k) - nI (zf_rz P I p (k + 1)) ∧ z_eR w q.2) := fun k hk => by
        obtain ⟨⟨m1, w1⟩, c0, c1, c2, -⟩ := s10_layFaces (p := 17) (k := k) hr' hw (by decide) hI5 hI7 hin (by omega)
        try dsimp only at c1 c2
        have hr1 : z_rr (w1.1 1) P := by rw [c2 1 (by decide)]; exact hr'
        obtain ⟨⟨m2, w2⟩, d0, d1, d2⟩ := s10_rankZ (k := k) hr1 hw hp hI5 hI7 hin (by omega)
        try dsimp only at d1 d2
        have hr2 : z_rr (w2.1 1) P := by rw [d2 1 (by decide)]; exact hr1
        obtain ⟨⟨m3, w3⟩, e0, e1, e2⟩ := s10_rankZ (k := k + 1) hr2 hw hp hI5 hI7 hin (by omega)
        try dsimp only at e1 e2
        rw [c0, z_b2e, d0, z_b2e, z_1, e0, z_b2e, z_ok_some, c1, d1, e1]
        exact ⟨rfl, z_eR.tr (z_eR0 w) (z_eR.of (fun j hj => ((e2 j (by omega)).trans (d2 j (by omega))).trans (c2 j (by omega))))⟩
      by_cases h8 : a3 ≤ 8
      · obtain ⟨k, hk, rfl⟩ := z_dim a3 h3' h8
        obtain ⟨-, -, -, g4, g5, g6⟩ := z_ho_f k (by omega)
        refine ⟨nI (fb_ct (z_fcp P I k) 512) - nI (zf_rz P I p k) - nI (zf_rz P I p (k + 1)), ?_, ?_⟩
        · rw [if_pos h8, g6, z_lt]
          obtain ⟨⟨m1, u1⟩, c0, c1, c2, -⟩ := s3_list (I := I) (k := k) hc hw (by omega)
          try dsimp only at c1 c2
          have hc1 : z_rc u1 0 P := z_rc_cg (fun j hj => c2 _ (by omega)) hc
          obtain ⟨⟨m2, u2⟩, d0, d1, d2⟩ := s3_rankZ (k := k) hc1 hw hp hI7 (by omega)
          try dsimp only at d1 d2
          have hc2 : z_rc u2 0 P := z_rc_cg (fun j hj => d2 _ (by omega)) hc1
          obtain ⟨⟨m3, u3⟩, e0, e1, e2⟩ := s3_rankZ (k := k + 1) hc2 hw hp hI7 (by omega)
          try dsimp only at e1 e2
          rw [c0, z_b2e, d0, z_b2e, z_1, e0, z_b2e, z_ok_some, c1, d1, e1]
          exact ⟨rfl, z_eC.of pm (fun j hj => ((e2 j (by omega)).trans (d2 j (by omega))).trans (c2 j (by omega)))⟩
        · unfold f_X10_sizeOf
          rw [if_neg g5, Option.bind_some, g6]
          exact hlaw k (by omega)
      · have h9 : 9 ≤ a3 := by
          rw [Int32.le_iff_toInt_le] at h8 ⊢
          have e8 : (8 : Int32).toInt = 8 := rfl
          have e9 : (9 : Int32).toInt = 9 := rfl
          omega
        refine ⟨0, ?_, ?_⟩
        · rw [if_neg h8, z_ok_some]
          exact ⟨rfl, z_eC.rf pm⟩
        · unfold f_X10_sizeOf
          rw [if_pos h9, Option.bind_some]
          refine z_ok_mono (hlaw 9 (by decide)) (fun q hq => ⟨?_, hq.2⟩)
          rw [hq.1, zf_none hI7 (by decide), zf_rz_0 hI7 (by decide), zf_rz_0 hI7 (by decide)]
          rfl
  · refine ⟨-1, ?_, ?_⟩
    · unfold f_X9_holes
      rw [if_neg h3, if_neg n2, if_neg n3, if_neg n5, if_neg n7, z_ok_some]
      exact ⟨rfl, z_eC.rf pm⟩
    · unfold f_X10_holes j_X10_holes_j42
      rw [z_lt, if_neg h3, if_neg n2, if_neg n3, if_neg n5, if_neg n7]
      exact hno _ _ _ _ _ _
end
