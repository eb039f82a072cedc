section
variable {u w : z_M} {P : z_P}
/-! how many parts of so many points -/
theorem z_pcn_cg {a b : Nat} : ∀ n, (∀ k, k < n → a.testBit k = b.testBit k) → z_pcn a n = z_pcn b n
  | 0, _ => rfl
  | n + 1, h => by rw [z_pcn, z_pcn, z_pcn_cg n (fun k hk => h k (by omega)), h n (by omega)]
def z_sbp (I k n s : Nat) : Bool := decide (∀ j, j < n → s.testBit j = true → I.testBit j = true) && z_pcn s n == k
theorem z_sbp_ct (I : Nat) : ∀ n k, fb_ct (z_sbp I k n) (2 ^ n) = z_bn (z_pcn I n) k
  | 0, k => by
    cases k with
    | zero =>
      show fb_ct (z_sbp I 0 0) 1 = 1
      simp [fb_ct, z_sbp, z_pcn]
    | succ k =>
      show fb_ct (z_sbp I (k + 1) 0) 1 = 0
      simp [fb_ct, z_sbp, z_pcn]
  | n + 1, k => by
    have e1 : fb_ct (z_sbp I k (n + 1)) (2 ^ n) = z_bn (z_pcn I n) k := by
      rw [← z_sbp_ct I n k]
      refine fb_ct_cong (fun s hs => ?_)
      have hb : s.testBit n = false := Nat.testBit_lt_two_pow hs
      unfold z_sbp
      rw [z_pcn, hb, Bool.toNat_false, Nat.add_zero]
      congr 1
      rw [decide_eq_decide]
      constructor
      · intro h j hj; exact h j (by omega)
      · intro h j hj hj2
        by_cases e : j = n
        · rw [e, hb] at hj2; cases hj2
        · exact h j (by omega) hj2
    have hlo : ∀ s j, j < n → (2 ^ n + s).testBit j = s.testBit j := fun s j hj => Nat.testBit_two_pow_add_gt hj s
    have hhi : ∀ s, s < 2 ^ n → (2 ^ n + s).testBit n = true := fun s hs => by
      rw [Nat.testBit_two_pow_add_eq, Nat.testBit_lt_two_pow hs]; rfl
    have hpc : ∀ s, s < 2 ^ n → z_pcn (2 ^ n + s) (n + 1) = z_pcn s n + 1 := fun s hs => by
      rw [z_pcn, hhi s hs, z_pcn_cg n (hlo s)]; rfl
    rw [Nat.pow_succ, Nat.mul_two, fb_ct_split, e1, z_pcn]
    cases hI : I.testBit n
    · have e2 : fb_ct (fun s => z_sbp I k (n + 1) (2 ^ n + s)) (2 ^ n) = 0 := by
        rw [fb_ct_zero]
        intro s hs
        unfold z_sbp
        rw [Bool.and_eq_false_iff]
        left
        rw [decide_eq_false_iff_not]
        intro h
        have := h n (by omega) (hhi s hs)
        rw [hI] at this; cases this
      rw [e2]
      simp
    · have hcond : ∀ s, s < 2 ^ n → decide (∀ j, j < n + 1 → (2 ^ n + s).testBit j = true → I.testBit j = true) = decide (∀ j, j < n → s.testBit j = true → I.testBit j = true) := fun s hs => by
        rw [decide_eq_decide]
        constructor
        · intro h j hj hb
          exact h j (by omega) (by rw [hlo s j hj]; exact hb)
        · intro h j hj hb
          by_cases e : j = n
          · rw [e]; exact hI
          · rw [hlo s j (by omega)] at hb
            exact h j (by omega) hb
      simp only [Bool.toNat_true]
      cases k with
      | zero =>
        have e2 : fb_ct (fun s => z_sbp I 0 (n + 1) (2 ^ n + s)) (2 ^ n) = 0 := by
          rw [fb_ct_zero]
          intro s hs
          unfold z_sbp
          rw [hpc s hs]
          simp
        rw [e2, z_bn_z, z_bn_z]
      | succ k =>
        have e2 : fb_ct (fun s => z_sbp I (k + 1) (n + 1) (2 ^ n + s)) (2 ^ n) = z_bn (z_pcn I n) k := by
          rw [← z_sbp_ct I n k]
          refine fb_ct_cong (fun s hs => ?_)
          unfold z_sbp
          rw [hcond s hs, hpc s hs]
          congr 1
          rw [Bool.eq_iff_iff, beq_iff_eq, beq_iff_eq]
          omega
        rw [e2, z_bn_s, Nat.add_comm]
theorem z_bn_35 {p k : Nat} (hp : p ≤ 7) : z_bn p k ≤ 35 := by
  have h := z_bn_mono (k := k) 7 hp
  by_cases hk : k < 8
  · have := (by decide +kernel : ∀ k, k < 8 → z_bn 7 k ≤ 35) k hk
    omega
  · rw [z_bn_0 7 k (by omega)] at h
    omega
/-- a face of k points of a set -/
def z_fcp (P : z_P) (I k s : Nat) : Bool := z_sb s I && (z_pc s == k) && z_row P s
theorem z_fcp_35 {I k : Nat} (hI : z_pc I ≤ 7) : fb_ct (z_fcp P I k) 512 ≤ 35 := by
  have h1 : fb_ct (z_fcp P I k) 512 ≤ fb_ct (z_sbp I k 9) 512 := fb_ct_sub (fun s hs h => by
    unfold z_fcp at h
    rw [Bool.and_eq_true, Bool.and_eq_true, z_sb_iff hs, beq_iff_eq] at h
    unfold z_sbp
    rw [Bool.and_eq_true, decide_eq_true_eq, beq_iff_eq, z_pcn_9]
    exact h.1)
  have h2 : fb_ct (z_sbp I k 9) 512 = z_bn (z_pcn I 9) k := z_sbp_ct I 9 k
  have h3 : z_bn (z_pcn I 9) k ≤ 35 := z_bn_35 (by rw [z_pcn_9]; exact hI)
  omega
theorem z_inr_7 (hw : z_wf P) {a b : Nat} (ha : a < 9) (hb : b < 9) (hab : a ≠ b) : z_pc (z_inr P a b) ≤ 7 := by
  have h1 : (z_inr P a b).testBit a = false := by rw [z_inr_bit ha, hw.irr a ha]; rfl
  have h2 : (z_inr P a b ||| 2 ^ a).testBit b = false := by
    rw [z_put_bit, z_inr_bit hb, hw.irr b hb]
    simp [Ne.symm hab]
  have h3 := z_pc_put hb h2
  have h4 := z_pc_put ha h1
  have h5 := z_pc_le (z_inr P a b ||| 2 ^ a ||| 2 ^ b)
  omega
theorem z_row_iff (hw : z_wf P) {s : Nat} (hs : s < 512) : z_row P s = true ↔ ∀ x y, x < 9 → y < 9 → s.testBit x = true → s.testBit y = true → x = y ∨ (z_ab P x).testBit y = true ∨ (z_ab P y).testBit x = true := by
  have hcond : ∀ x, x < 9 → (z_df s ((z_ab P x ||| z_un P x) ||| 2 ^ x) = 0 ↔ ∀ y, y < 9 → s.testBit y = true → x = y ∨ (z_ab P x).testBit y = true ∨ (z_ab P y).testBit x = true) := by
    intro x hx
    rw [z_df_sb, z_sb_iff hs]
    constructor
    · intro h y hy hb
      have := h y hy hb
      rw [z_put_bit, Nat.testBit_or, z_un_bit P hy, Bool.or_eq_true, Bool.or_eq_true, decide_eq_true_eq] at this
      rcases this with (h1 | h1) | h1
      · exact Or.inr (Or.inl h1)
      · exact Or.inr (Or.inr h1)
      · exact Or.inl h1.symm
    · intro h y hy hb
      rw [z_put_bit, Nat.testBit_or, z_un_bit P hy, Bool.or_eq_true, Bool.or_eq_true, decide_eq_true_eq]
      rcases h y hy hb with h1 | h1 | h1
      · exact Or.inr h1.symm
      · exact Or.inl (Or.inl h1)
      · exact Or.inl (Or.inr h1)
  unfold z_row
  rw [beq_iff_eq]
  rcases z_fi_is (fun x => s.testBit x && !(z_df s ((z_ab P x ||| z_un P x) ||| 2 ^ x) == 0)) (-1) with ⟨j, h1, h2, h3, h4⟩ | ⟨h1, h2⟩
  · rw [h4]
    constructor
    · intro h; exact absurd h (z_nI9m j h1)
    · intro h
      simp only [Bool.and_eq_true, Bool.not_eq_true', beq_eq_false_iff_ne] at h2
      exact absurd ((hcond j h1).mpr (fun y hy hb => h j y h1 hy h2.1 hb)) h2.2
  · rw [h2]
    constructor
    · intro _ x y hx hy hbx hby
      have := h1 x hx
      rw [hbx, Bool.true_and, Bool.not_eq_false', beq_iff_eq] at this
      exact (hcond x hx).mp this y hy hby
    · intro _; rfl
/-- the top of a row -/
def z_tpo (P : z_P) (s : Nat) : Nat := (z_grt P s).toNatClampNeg
theorem z_tpo_ok (hw : z_wf P) {s : Nat} (hs : s < 512) (h0 : s ≠ 0) (hrow : z_row P s = true) : z_tpo P s < 9 ∧ s.testBit (z_tpo P s) = true ∧ ∀ y, y < 9 → s.testBit y = true → y = z_tpo P s ∨ (z_ab P y).testBit (z_tpo P s) = true := by
  have hex : ∃ m, m < 9 ∧ s.testBit m = true ∧ z_df s (z_dn P m) = 0 := by
    have : ∃ x, x < 9 ∧ s.testBit x = true := Classical.byContradiction (fun hn => h0 (z_ext hs (by decide) (fun k hk => by
      rw [Nat.zero_testBit]
      cases hb : s.testBit k
      · rfl
      · exact (hn ⟨k, hk, hb⟩).elim)))
    obtain ⟨x, hx, hbx⟩ := this
    obtain ⟨m, m1, m2, m3, -⟩ := z_top hw (o := s) x hx hbx
    refine ⟨m, m1, m2, ?_⟩
    rw [z_df_sb, z_sb_iff hs]
    intro y hy hb
    rw [z_dn_bit P hy, Bool.or_eq_true, decide_eq_true_eq]
    rcases (z_row_iff hw hs).mp hrow m y m1 hy m2 hb with h | h | h
    · exact Or.inr h.symm
    · have : (z_ab P m &&& s).testBit y = false := by rw [m3, Nat.zero_testBit]
      rw [Nat.testBit_and, h, hb] at this; cases this
    · exact Or.inl h
  rcases z_fi_is (fun x => s.testBit x && z_df s (z_dn P x) == 0) (-2) with ⟨j, h1, h2, h3, h4⟩ | ⟨h1, h2⟩
  · have e : z_tpo P s = j := by
      unfold z_tpo z_grt
      rw [h4]
      exact z_cl (by omega)
    rw [e]
    rw [Bool.and_eq_true, beq_iff_eq, z_df_sb, z_sb_iff hs] at h2
    refine ⟨h1, h2.1, fun y hy hb => ?_⟩
    have := h2.2 y hy hb
    rw [z_dn_bit P hy, Bool.or_eq_true, decide_eq_true_eq] at this
    exact this.symm
  · obtain ⟨m, m1, m2, m3⟩ := hex
    have := h1 m m1
    simp [m2, m3] at this
theorem z_fc0 (hw : z_wf P) (I : Nat) : fb_ct (z_fcp P I 0) 512 = 1 := by
  have : fb_ct (z_fcp P I 0) 512 = fb_ct (fun s => decide (s = 0)) 512 := fb_ct_cong (fun s hs => by
    unfold z_fcp
    rw [Bool.eq_iff_iff, Bool.and_eq_true, Bool.and_eq_true, decide_eq_true_eq, z_sb_iff hs, z_row_iff hw hs, beq_iff_eq]
    constructor
    · rintro ⟨⟨-, h⟩, -⟩
      exact z_pc_eq0 hs h
    · rintro rfl
      refine ⟨⟨fun k _ h => ?_, z_pc_0⟩, fun x y _ _ h => ?_⟩
      · rw [Nat.zero_testBit] at h; cases h
      · rw [Nat.zero_testBit] at h; cases h)
  rw [this]
  decide +kernel
theorem z_fc_wk (hw : z_wf P) {a W : Nat} (ha : a < 9) (hW : ∀ x y, x < 9 → y < 9 → W.testBit x = true → (z_ab P y).testBit x = true → (W.testBit y = true ↔ (y = a ∨ (z_ab P a).testBit y = true))) : ∀ k x, x < 9 → (z_ab P a).testBit x = true → W.testBit x = true → fb_ct (z_fcp P (z_inr P a x) k) 512 = z_wk P W a (k + 1) x
  | 0, x, hx, hax, hWx => by
    rw [z_fc0 hw, z_wk]
    have e : fb_sm (fun y => if (z_un P x &&& W).testBit y then z_wk P W a 0 y else 0) 9 = fb_sm (fun y => if y = a then 1 else 0) 9 := fb_sm_cong (fun y hy => by
      rw [z_wk]
      by_cases e : y = a
      · subst e
        have h1 := (hW x y hx hy hWx hax).mpr (Or.inl rfl)
        rw [Nat.testBit_and, z_un_bit P hy, hax, h1]
        simp
      · simp [e])
    rw [e, z_sm_one (fun _ => 1) 9 ha]
  | k + 1, x, hx, hax, hWx => by
    have hpos : ∀ s, s < 512 → z_fcp P (z_inr P a x) (k + 1) s = true → (∀ j, j < 9 → s.testBit j = true → (z_inr P a x).testBit j = true) ∧ z_pc s = k + 1 ∧ z_row P s = true ∧ s ≠ 0 := by
      intro s hs h
      unfold z_fcp at h
      rw [Bool.and_eq_true, Bool.and_eq_true, z_sb_iff hs, beq_iff_eq] at h
      refine ⟨h.1.1, h.1.2, h.2, ?_⟩
      rintro rfl
      rw [z_pc_0] at h
      omega
    rw [z_ct_part (p := z_fcp P (z_inr P a x) (k + 1)) (g := z_tpo P) 512 (fun s hs h => (z_tpo_ok hw hs (hpos s hs h).2.2.2 (hpos s hs h).2.2.1).1), z_wk]
    refine fb_sm_cong (fun y hy => ?_)
    by_cases hin : (z_inr P a x).testBit y = true
    · have hin' := hin
      rw [z_inr_bit hy, Bool.and_eq_true] at hin'
      have hWy := (hW x y hx hy hWx hin'.2).mpr (Or.inr hin'.1)
      rw [Nat.testBit_and, z_un_bit P hy, hin'.2, hWy, if_pos (by rfl), ← z_fc_wk hw ha hW k y hy hin'.1 hWy]
      apply Nat.le_antisymm
      · refine z_ct_le (fun s => z_rest y s) (fun s hs hp => ?_) (fun s t hs ht hp hq he => ?_)
        · rw [Bool.and_eq_true, decide_eq_true_eq] at hp
          obtain ⟨g1, g2, g3, g4⟩ := hpos s hs hp.1
          obtain ⟨t1, t2, t3⟩ := z_tpo_ok hw hs g4 g3
          rw [hp.2] at t2 t3
          have hpr := z_pc_rest hy t2
          refine ⟨z_rest_lt hs, ?_⟩
          unfold z_fcp
          rw [Bool.and_eq_true, Bool.and_eq_true, z_sb_iff (z_rest_lt hs), beq_iff_eq, z_row_iff hw (z_rest_lt hs)]
          refine ⟨⟨fun j hj hb => ?_, by omega⟩, fun p q hp' hq' h1 h2 => ?_⟩
          · rw [z_rest_bit, Bool.and_eq_true, Bool.not_eq_true', decide_eq_false_iff_not] at hb
            have h1 := g1 j hj hb.1
            rw [z_inr_bit hj, Bool.and_eq_true] at h1
            rw [z_inr_bit hj, h1.1]
            rcases t3 j hj hb.1 with h2 | h2
            · exact absurd h2 hb.2
            · rw [h2]; rfl
          · rw [z_rest_bit, Bool.and_eq_true] at h1 h2
            exact (z_row_iff hw hs).mp g3 p q hp' hq' h1.1 h2.1
        · rw [Bool.and_eq_true, decide_eq_true_eq] at hp hq
          obtain ⟨-, -, g3, g4⟩ := hpos s hs hp.1
          obtain ⟨-, -, m3, m4⟩ := hpos t ht hq.1
          have t2 := (z_tpo_ok hw hs g4 g3).2.1
          have t2' := (z_tpo_ok hw ht m4 m3).2.1
          rw [hp.2] at t2
          rw [hq.2] at t2'
          try dsimp only at he
          rw [← z_put_rest t2, ← z_put_rest t2', he]
      · have hnot : ∀ s, s < 512 → z_fcp P (z_inr P a y) k s = true → s.testBit y = false := by
          intro s hs h
          unfold z_fcp at h
          rw [Bool.and_eq_true, Bool.and_eq_true, z_sb_iff hs] at h
          cases hb : s.testBit y
          · rfl
          · have := h.1.1 y hy hb
            rw [z_inr_bit hy, hw.irr y hy] at this
            simp at this
        refine z_ct_le (fun s => s ||| 2 ^ y) (fun s hs hp => ?_) (fun s t hs ht hp hq he => ?_)
        · have hny := hnot s hs hp
          unfold z_fcp at hp
          rw [Bool.and_eq_true, Bool.and_eq_true, z_sb_iff hs, beq_iff_eq, z_row_iff hw hs] at hp
          have hlt : s ||| 2 ^ y < 512 := z_or_lt hs (z_pw_lt hy)
          have hbel : ∀ j, j < 9 → s.testBit j = true → (z_ab P a).testBit j = true ∧ (z_ab P j).testBit y = true := fun j hj hb => by
            have := hp.1.1 j hj hb
            rw [z_inr_bit hj, Bool.and_eq_true] at this
            exact this
          have hrow : z_row P (s ||| 2 ^ y) = true := by
            rw [z_row_iff hw hlt]
            intro p q hp' hq' h1 h2
            rw [z_put_bit, Bool.or_eq_true, decide_eq_true_eq] at h1 h2
            rcases h1 with h1 | rfl
            · rcases h2 with h2 | rfl
              · exact hp.2 p q hp' hq' h1 h2
              · exact Or.inr (Or.inl (hbel p hp' h1).2)
            · rcases h2 with h2 | rfl
              · exact Or.inr (Or.inr (hbel q hq' h2).2)
              · exact Or.inl rfl
          have hfc : z_fcp P (z_inr P a x) (k + 1) (s ||| 2 ^ y) = true := by
            unfold z_fcp
            rw [Bool.and_eq_true, Bool.and_eq_true, z_sb_iff hlt, beq_iff_eq]
            refine ⟨⟨fun j hj hb => ?_, by rw [z_pc_put hy hny, hp.1.2]⟩, hrow⟩
            rw [z_put_bit, Bool.or_eq_true, decide_eq_true_eq] at hb
            rcases hb with hb | rfl
            · obtain ⟨b1, b2⟩ := hbel j hj hb
              rw [z_inr_bit hj, b1, hw.tr j y x hj hy hx b2 hin'.2]; rfl
            · exact hin
          refine ⟨hlt, ?_⟩
          rw [Bool.and_eq_true, decide_eq_true_eq]
          refine ⟨hfc, ?_⟩
          obtain ⟨t1, t2, t3⟩ := z_tpo_ok hw hlt (hpos _ hlt hfc).2.2.2 hrow
          have hys : (s ||| 2 ^ y).testBit y = true := by rw [z_put_bit]; simp
          rcases t3 y hy hys with h | h
          · exact h.symm
          · rw [z_put_bit, Bool.or_eq_true, decide_eq_true_eq] at t2
            rcases t2 with t2 | t2
            · have := (hbel _ t1 t2).2
              rw [hw.asym hy t1 h] at this
              cases this
            · exact t2
        · have h1 := hnot s hs hp
          have h2 := hnot t ht hq
          try dsimp only at he
          rw [← z_rest_put h1, ← z_rest_put h2, he]
    · have e0 : fb_ct (fun s => z_fcp P (z_inr P a x) (k + 1) s && decide (z_tpo P s = y)) 512 = 0 := by
        rw [fb_ct_zero]
        intro s hs
        cases hp : z_fcp P (z_inr P a x) (k + 1) s
        · rfl
        · rw [Bool.true_and, decide_eq_false_iff_not]
          rintro rfl
          obtain ⟨g1, g2, g3, g4⟩ := hpos s hs hp
          exact hin (g1 _ hy (z_tpo_ok hw hs g4 g3).2.1)
      rw [e0]
      by_cases hb : (z_un P x &&& W).testBit y = true
      · rw [if_pos hb]
        rw [Nat.testBit_and, Bool.and_eq_true, z_un_bit P hy] at hb
        rcases (hW x y hx hy hWx hb.1).mp hb.2 with rfl | h2
        · rw [z_wk]
          symm
          have : fb_sm (fun z => if (z_un P y &&& W).testBit z then z_wk P W y k z else 0) 9 ≤ 9 * 0 := fb_sm_bound (fun z hz => by
            rw [if_neg]
            · exact Nat.le_refl _
            · intro h
              rw [Nat.testBit_and, Bool.and_eq_true, z_un_bit P hz] at h
              rcases (hW y z hy hz hb.2 h.1).mp h.2 with rfl | h3
              · rw [hw.irr z hz] at h; cases h.1
              · rw [hw.asym hy hz h3] at h; cases h.1)
          omega
        · exact absurd (by rw [z_inr_bit hy, h2, hb.1]; rfl) hin
      · rw [if_neg hb]
theorem z_bt_W (hw : z_wf P) {a b : Nat} (ha : a < 9) (hb : b < 9) : ∀ x y, x < 9 → y < 9 → (z_bt P a b).testBit x = true → (z_ab P y).testBit x = true → ((z_bt P a b).testBit y = true ↔ (y = a ∨ (z_ab P a).testBit y = true)) := by
  intro x y hx hy h1 h2
  rw [z_bt_bit hx, Bool.and_eq_true, Bool.or_eq_true, Bool.or_eq_true, decide_eq_true_eq, decide_eq_true_eq] at h1
  rw [z_bt_bit hy, Bool.and_eq_true, Bool.or_eq_true, Bool.or_eq_true, decide_eq_true_eq, decide_eq_true_eq]
  constructor
  · rintro ⟨h3, -⟩
    exact h3.symm
  · intro h3
    refine ⟨h3.symm, Or.inl ?_⟩
    rcases h1.2 with h4 | rfl
    · exact hw.tr y x b hy hx hb h2 h4
    · exact h2
theorem s10_isFace (hr : z_rr (w.1 1) P) (hw : z_wf P) {s : Nat} (hs : s < 512) (hst : ∀ x, x < 9 → s.testBit x = true → (z_th P).testBit x = true) : f_X10_isFace (nI s) w = some (z_bi (z_row P s)) := by
  unfold f_X10_isFace z_row
  have := z_find (b := b_X10_isFace_2 (nI s) w) (kx := fun _ => some 1) (f := fun x => z_bi (x == -1)) (fun x => s.testBit x && !(z_df s ((z_ab P x ||| z_un P x) ||| 2 ^ x) == 0)) (-1) (fun j hj kb => ?_) (fun kb => ?_)
  · exact this
  · unfold b_X10_isFace_2
    simp only [z_le9 hj, if_false, s_has (z_31 hs) hj, Option.bind_some, z_bi_0, z_1]
    have hne : (nI j == (-1 : Int32)) = false := (by decide +kernel : ∀ j, j < 9 → (nI j == (-1 : Int32)) = false) j hj
    cases h : s.testBit j
    · simp
    · have e : z_up P j ||| z_un P j = (z_ab P j ||| z_un P j) ||| 2 ^ j := by
        rw [z_up, Nat.or_assoc, Nat.or_assoc, Nat.or_comm (2 ^ j)]
      simp only [Bool.true_eq_false, if_false, s10_upTo hr hj (hst j hj h), s10_belowT hr hw hj (hst j hj h), Option.bind_some, z_or, e, z_andc, z_df0 hs]
      by_cases h2 : z_df s ((z_ab P j ||| z_un P j) ||| 2 ^ j) = 0
      · simp [h2]
      · simp [h2, hne, z_bi]
  · unfold b_X10_isFace_2
    simp only [z_99, if_true]
    rfl
theorem s10_layFaces (hr : z_rr (w.1 1) P) (hw : z_wf P) {p I k : Nat} (hp : p ≠ 1) (hI : I < 512) (hI7 : z_pc I ≤ 7) (hIt : ∀ x, x < 9 → I.testBit x = true → (z_th P).testBit x = true) (hk : k < 1000) : z_ok (f_X10_layFaces p 128 (nI I) (nI k) w) (fun q => q.1 = nI (fb_ct (z_fcp P I k) 512) ∧ (∀ i, i ≠ p → q.2.1 i = w.1 i) ∧ ∀ s, s < 512 → z_fcp P I k s = true → q.2.1 p (fb_ct (z_fcp P I k) s) = nI s) := by
  have h35 := z_fcp_35 (P := P) (k := k) hI7
  unfold f_X10_layFaces
  refine z_ok_lp (fun j q => q.1 = nI (fb_ct (z_fcp P I k) j) ∧ q.2.1 = nI j ∧ (∀ i, i ≠ p → q.2.2.1 i = w.1 i) ∧ ∀ s, s < j → z_fcp P I k s = true → q.2.2.1 p (fb_ct (z_fcp P I k) s) = nI s) 512 z_512F ⟨rfl, rfl, fun _ _ => rfl, fun s hs => absurd hs (by omega)⟩ ?_ ?_
  · rintro j ⟨n, jj, v⟩ hj ⟨e1, e2, e3, e4⟩ kb hkb
    try dsimp only at e1 e2 e3 e4
    subst e1 e2
    have hrv : z_rr (v.1 1) P := by rw [e3 1 (Ne.symm hp)]; exact hr
    have ek : (nI (z_pc j) = nI k) = (z_pc j = k) := z_eqI (by have := z_pc_le j; omega) (by omega)
    have hno : z_fcp P I k j = false → z_ok (kb (nI (fb_ct (z_fcp P I k) j), nI (j + 1), v)) (fun q => q.1 = nI (fb_ct (z_fcp P I k) 512) ∧ (∀ i, i ≠ p → q.2.1 i = w.1 i) ∧ ∀ s, s < 512 → z_fcp P I k s = true → q.2.1 p (fb_ct (z_fcp P I k) s) = nI s) := by
      intro h
      refine hkb _ ⟨?_, rfl, e3, fun s hs hf => ?_⟩
      · rw [fb_ct_succ, h]; rfl
      · by_cases e : s = j
        · rw [e, h] at hf; cases hf
        · exact e4 s (by omega) hf
    unfold b_X10_layFaces_6
    simp only [z_512 hj, if_false, z_andc, z_df0 hj, z_df_sb, z_ok_ite, s_bits hj, Option.bind_some, ek, z_1]
    refine ⟨fun h1 => ⟨fun h2 => ?_, fun h2 => hno ?_⟩, fun h1 => hno ?_⟩
    · rw [s10_isFace hrv hw hj (fun x hx hb => hIt x hx ((z_sb_iff hj).mp h1 x hx hb)), Option.bind_some, z_ok_bit]
      refine ⟨fun h3 => hno ?_, fun h3 => ?_⟩
      · unfold z_fcp; rw [h3, Bool.and_false]
      · have hf : z_fcp P I k j = true := by unfold z_fcp; rw [h1, h3, h2]; simp
        have hlt : fb_ct (z_fcp P I k) j < 35 := by
          have := fb_ct_mono (z_fcp P I k) (show j + 1 ≤ 512 by omega)
          rw [fb_ct_succ, hf] at this
          simp only [if_true] at this
          omega
        rw [z_ok_gd, z_ok_lt, z_cl (by omega)]
        refine ⟨z_inb_nI (by omega) (by decide), hkb _ ⟨?_, rfl, fun i hi => ?_, fun s hs hf' => ?_⟩⟩
        · rw [fb_ct_succ, hf]; rfl
        · try dsimp only
          rw [z_sI_ne hi]; exact e3 i hi
        · simp only [z_sI_1, true_and]
          by_cases e : s = j
          · rw [e, if_pos rfl]
          · rw [if_neg]
            · exact e4 s (by omega) hf'
            · intro he
              exact e (fb_ct_kth_one hf hf' he).symm
    · unfold z_fcp
      rw [show (z_pc j == k) = false by simpa using h2]
      simp
    · unfold z_fcp
      rw [show z_sb j I = false by simpa using h1]
      simp
  · rintro ⟨n, jj, v⟩ ⟨e1, e2, e3, e4⟩ kb
    try dsimp only at e1 e2 e3 e4
    subst e1 e2
    unfold b_X10_layFaces_6
    simp only [z_512e, if_true, z_ok_some]
    exact ⟨trivial, e3, e4⟩
/-! an interval of two points and more -/
def z_trw (P : z_P) (a b : Int32) : Int32 := if z_tr P a b = 0 ∧ a = b then -2 else z_tr P a b
theorem s9_troubleWithin (hr : z_rc u 0 P) (hw : z_wf P) (a b : Int32) : f_X9_troubleWithin a b u = some (z_trw P a b) := by
  unfold f_X9_troubleWithin z_trw
  rw [s9_troubleOf hr hw, Option.bind_some]
  by_cases h2 : a = b
  · subst h2
    by_cases h : z_tr P a a = 0 <;> simp [h]
  · by_cases h : z_tr P a b = 0 <;> simp [h, h2]
theorem s10_noInner (hr : z_rr (w.1 1) P) (hw : z_wf P) (a b c : Int32) : f_X10_noInner a b c w = some (if c = 0 then -1 else z_trw P a b) := by
  unfold f_X10_noInner z_trw
  rw [s10_refusal hr hw, Option.bind_some]
  by_cases h0 : c = 0
  · simp [h0]
  · by_cases h2 : a = b
    · subst h2
      by_cases h : z_tr P a a = 0 <;> simp [h0, h]
    · by_cases h : z_tr P a b = 0 <;> simp [h0, h, h2]
theorem z_trw_cases (P : z_P) (hw : z_wf P) (a b : Int32) : z_trw P a b = -1 ∨ z_trw P a b = -2 ∨ (z_trw P a b = 0 ∧ ∃ x y, x < 9 ∧ y < 9 ∧ a = nI x ∧ b = nI y ∧ (z_th P).testBit x = true ∧ (z_th P).testBit y = true ∧ (z_ab P x).testBit y = true ∧ x ≠ y ∧ z_tr P a b = 0) := by
  unfold z_trw
  rcases z_tr_cases P hw a b with h | h | ⟨h, x, y, hx, hy, rfl, rfl, tx, ty, hxy⟩
  · rw [h]; simp
  · rw [h]; simp
  · by_cases e : x = y
    · subst e; rw [h]; simp
    · have hne : ¬ nI x = nI y := fun h => e ((nI_eq (by omega) (by omega)).mp h)
      refine Or.inr (Or.inr ⟨by rw [if_neg (fun h => hne h.2), h], x, y, hx, hy, rfl, rfl, tx, ty, hxy.resolve_left e, e, h⟩)
theorem z_dim (a : Int32) (h1 : -1 ≤ a) (h2 : a ≤ 8) : ∃ k, k ≤ 9 ∧ a = z_ho k := by
  rw [Int32.le_iff_toInt_le] at h1 h2
  have e1 : (-1 : Int32).toInt = -1 := rfl
  have e2 : (8 : Int32).toInt = 8 := rfl
  refine ⟨(a.toInt + 1).toNat, by omega, ?_⟩
  apply Int32.toInt_inj.mp
  unfold z_ho
  rw [fb_subI, nI_toInt (by omega)]
  · show a.toInt = _ - 1; omega
  · rw [nI_toInt (by omega)]; show _ ≤ _ - (1 : Int); omega
  · rw [nI_toInt (by omega)]; show _ - (1 : Int) < _; omega
theorem z_ho_f : ∀ k, k < 10 → ¬ z_ho k < -1 ∧ -1 ≤ z_ho k ∧ z_ho k ≤ 8 ∧ z_ho k + 2 = nI (k + 1) ∧ ¬ 9 ≤ z_ho k ∧ z_ho k + 1 = nI k := by decide +kernel
theorem p_faces : z_S_faces z_Inv := by
  intro a1 a2 a3 u w hI
  refine z_rd2 hI (fun P hw hc hr pm => ?_)
  have hr' := z_rr0 hr 0
  unfold f_X9_faces f_X10_faces j_X10_faces_j18
  simp only [s9_troubleWithin hc hw, s10_noInner hr' hw, Option.bind_some, z_lt]
  by_cases h3 : a3 < -1
  · have h3' : ¬ -1 ≤ a3 := by
      rw [Int32.le_iff_toInt_le]
      rw [Int32.lt_iff_toInt_lt] at h3
      omega
    exact ⟨-1, by simpa [h3', z_ok_some] using z_eC.rf pm, by simpa [h3, z_ok_some] using z_eR0 w⟩
  have h3' : -1 ≤ a3 := by
    rw [Int32.le_iff_toInt_le]
    rw [Int32.lt_iff_toInt_lt] at h3
    omega
  simp only [h3, h3', if_true, if_false, show ((1 : Int32) = 0) = False by decide]
  rcases z_trw_cases P hw a1 a2 with h | h | ⟨h, x, y, hx, hy, rfl, rfl, tx, ty, hxy, hne, -⟩
  · exact ⟨-1, by rw [h]; simpa [z_ok_some] using z_eC.rf pm, by rw [h]; simpa [z_ok_some] using z_eR0 w⟩
  · exact ⟨-2, by rw [h]; simpa [z_ok_some] using z_eC.rf pm, by rw [h]; simpa [z_ok_some] using z_eR0 w⟩
  · have hbt := z_bt_lt hw hx (b := y)
    have hyW := z_bt_b (P := P) hy (Or.inr hxy)
    obtain ⟨u1, q1, q2, q3⟩ := s8_walk hc hw hbt hx
    have hC : z_eC u u1 := z_eC.of pm (fun j hj => q2 j (by omega) (by omega))
    have hcnt : ∀ k, fb_ct (z_fcp P (z_inr P x y) k) 512 = z_wk P (z_bt P x y) x (k + 1) y := fun k => z_fc_wk hw hx (z_bt_W hw hx hy) k y hy hxy hyW
    have hin : ∀ k, k < 9 → (z_inr P x y).testBit k = true → (z_th P).testBit k = true := fun k hk hb => by
      rw [z_inr_bit hk, Bool.and_eq_true] at hb
      exact (hw.in x k hx hk hb.1).2
    have hlay : ∀ k, k < 1000 → z_ok (z_b2 (f_X10_layFaces 17 128 (nI (z_inr P x y)) (nI k) (z_sI w 0 0 0)) (fun r7 u8 => some (r7, u8))) (fun q => q.1 = nI (z_wk P (z_bt P x y) x (k + 1) y) ∧ z_eR w q.2) := by
      intro k hk
      obtain ⟨⟨n, w1⟩, b1, b2, b3, -⟩ := s10_layFaces (p := 17) hr' hw (by decide) (z_inr_lt hw hx) (z_inr_7 hw hx hy hne) hin hk
      try dsimp only at b2 b3
      rw [b1]
      simp only [z_b2, Option.bind_some, z_ok_some]
      exact ⟨by rw [b2, hcnt], z_eR.tr (z_eR0 w) (z_eR.of (fun j hj => b3 j (by omega)))⟩
    simp only [h, show ((0 : Int32) ≤ 0) = True by decide, if_true, s6_between hc hw hx hy tx ty, s10_inner hr' hw hx hy tx ty, Option.bind_some, q1]
    by_cases h8 : a3 ≤ 8
    · obtain ⟨k, hk, rfl⟩ := z_dim a3 h3' h8
      obtain ⟨-, -, -, g4, g5, g6⟩ := z_ho_f k (by omega)
      refine ⟨nI (z_wk P (z_bt P x y) x (k + 1) y), ?_, ?_⟩
      · rw [if_pos h8, g4, s8_walksTo hy _ (q3 y hy ty hyW), Option.bind_some, z_ok_some, if_neg (nI_pos (by omega))]
        refine ⟨?_, hC⟩
        by_cases hk9 : k + 1 < 9
        · rw [if_neg (by rw [z_le9 hk9]; exact id), z_c9 hk9]
        · rw [if_pos (show (9 : Int32) ≤ nI (k + 1) from nI_le (a := 9) (by omega) (by omega)), z_wk_9 hw _ _ (by omega) hy]
          rfl
      · unfold f_X10_sizeOf
        rw [if_neg g5, Option.bind_some, g6]
        exact hlay k (by omega)
    · have h9 : 9 ≤ a3 := by
        rw [Int32.le_iff_toInt_le] at h8 ⊢
        have e8 : (8 : Int32).toInt = 8 := rfl
        have e9 : (9 : Int32).toInt = 9 := rfl
        omega
      refine ⟨0, ?_, ?_⟩
      · rw [if_neg h8, z_ok_some]
        exact ⟨rfl, z_eC.rf pm⟩
      · unfold f_X10_sizeOf
        rw [if_pos h9, Option.bind_some]
        refine z_ok_mono (hlay 9 (by decide)) (fun q hq => ⟨?_, hq.2⟩)
        rw [hq.1, z_wk_9 hw _ _ (by decide) hy]
        rfl
end
