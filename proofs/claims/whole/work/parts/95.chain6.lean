section
variable {u w v : z_M} {P : z_P}
theorem z_des_eq {c : z_Cn} (hc : c.1 ≤ 8) : (nI (z_fll P c) = nI (2 ^ c.1 - 1) - (if c.1 = 0 then 0 else 1)) = (z_des P c = true) := by
  unfold z_des z_fll
  match h : c.1, hc with
  | 0, _ => exact propext ⟨fun _ => rfl, fun _ => by show nI 0 = nI (2 ^ 0 - 1) - (if 0 = 0 then 0 else 1); decide⟩
  | 1, _ => exact propext ⟨fun _ => rfl, fun _ => by show nI 0 = nI (2 ^ 1 - 1) - (if 1 = 0 then 0 else 1); decide⟩
  | n + 2, hc =>
    have hp := z_flk_pc (P := P) c (n + 1) (by omega)
    have hlt := z_flk_lt (P := P) c (n + 1)
    have h9 : 2 ^ (n + 2) ≤ 2 ^ 8 := Nat.pow_le_pow_right (by decide) (by omega)
    have h4 : 4 ≤ 2 ^ (n + 2) := by rw [Nat.pow_add]; have := Nat.one_le_two_pow (n := n); omega
    obtain ⟨m, hm⟩ : ∃ m, 2 ^ (n + 2) - 1 = m + 1 := ⟨2 ^ (n + 2) - 2, by omega⟩
    have e2 : n + 2 - 1 = n + 1 := rfl
    have e3 : 2 ^ (n + 1 + 1) = 2 ^ (n + 2) := rfl
    rw [e3] at hp hlt
    rw [if_neg (by omega), hm, nI_pred, e2, z_eqI (by omega) (by omega), decide_eq_false (by omega), Bool.false_or, decide_eq_true_eq]
    refine propext ⟨fun e => hp.2.mpr (by omega), fun e => ?_⟩
    have := hp.2.mp e
    omega
theorem s1_isDescending {pl : Nat} {c : z_Cn} (h : z_cr1 u P pl c) : f_X1_isDescending pl u = some (z_bi (z_des P c)) := by
  unfold f_X1_isDescending z_des
  have h8 := h.2.1
  rw [z_gI, h.1, s1_fallSet h, Option.bind_some, s_bitc (z_fll_lt h8)]
  by_cases e : c.1 < 2
  · rw [if_pos (show nI c.1 < 2 from nI_lt (b := 2) e (by decide)), decide_eq_true e]; rfl
  · rw [if_neg (show ¬ nI c.1 < 2 from nI_nlt (b := 2) (by omega) (by omega)), decide_eq_false e]
    obtain ⟨m, hm⟩ : ∃ m, c.1 = m + 1 := ⟨c.1 - 1, by omega⟩
    have hpc := z_pc_le (z_fll P c)
    rw [hm, nI_pred, Nat.add_sub_cancel, Bool.false_or]
    by_cases g : z_pc (z_fll P c) = m
    · rw [g, if_pos rfl, decide_eq_true rfl]; rfl
    · rw [if_neg (fun q => g ((nI_eq (by omega) (by omega)).mp q)), decide_eq_false g]; rfl
def z_mxs (S : z_St) : Nat → Nat
  | 0 => 0
  | n + 1 => if z_mxs S n < (S.2 n).1 then (S.2 n).1 else z_mxs S n
def z_mns (s : Nat) (S : z_St) : Nat → Nat
  | 0 => s
  | n + 1 => if (S.2 n).1 < z_mns s S n then (S.2 n).1 else z_mns s S n
theorem z_mxs_8 {S : z_St} (h : ∀ i, i < S.1 → (S.2 i).1 ≤ 8) : ∀ n, n ≤ S.1 → z_mxs S n ≤ 8
  | 0, _ => Nat.zero_le _
  | n + 1, hn => by
    have := z_mxs_8 h n (by omega)
    have := h n (by omega)
    rw [z_mxs]
    split <;> omega
theorem z_mns_9 {S : z_St} (h : ∀ i, i < S.1 → (S.2 i).1 ≤ 8) {s : Nat} (hs : s ≤ 9) : ∀ n, n ≤ S.1 → z_mns s S n ≤ 9
  | 0, _ => hs
  | n + 1, hn => by
    have := z_mns_9 h hs n (by omega)
    have := h n (by omega)
    rw [z_mns]
    split <;> omega
theorem z_mns_89 {S : z_St} (h : ∀ i, i < S.1 → (S.2 i).1 ≤ 8) : ∀ n, n < S.1 → z_mns 8 S (n + 1) = z_mns 9 S (n + 1)
  | 0, hn => by
    have := h 0 hn
    show (if (S.2 0).1 < 8 then (S.2 0).1 else 8) = (if (S.2 0).1 < 9 then (S.2 0).1 else 9)
    by_cases c1 : (S.2 0).1 < 8
    · rw [if_pos c1, if_pos (show (S.2 0).1 < 9 by omega)]
    · rw [if_neg c1, if_pos (show (S.2 0).1 < 9 by omega)]
      omega
  | n + 1, hn => by
    rw [show z_mns 8 S (n + 1 + 1) = if (S.2 (n + 1)).1 < z_mns 8 S (n + 1) then (S.2 (n + 1)).1 else z_mns 8 S (n + 1) from rfl, z_mns_89 h n (by omega)]
    rfl
theorem s2_descending {S : z_St} (h : z_rcC u P S) : f_X2_descending u = some (nI (fb_ct (fun i => z_des P (S.2 i)) S.1)) := by
  unfold f_X2_descending
  have h12 := h.1
  refine z_lpr (fun t => (nI (fb_ct (fun i => z_des P (S.2 i)) t), nI t)) _ S.1 (z_F_lt (by omega)) (fun t ht kb => ?_) (fun kb => ?_)
  · obtain ⟨c1, c2, c3⟩ := h.at ht
    unfold b_X2_descending_4
    dsimp only
    rw [z_gI, h.2.1, if_neg (nI_ge ht (by omega)), z_gI, z_cl (show t < 2 ^ 31 by omega), c1, c2, s1_isDescending c3, z_1 t, fb_ct_succ]
    simp only [z_gd, if_true, Option.bind_some]
    cases z_des P (S.2 t)
    · rfl
    · rw [if_neg (by decide), z_1]; rfl
  · unfold b_X2_descending_4
    dsimp only
    rw [z_gI, h.2.1, if_pos (nI_le (Nat.le_refl _) (by omega))]
theorem s2_longest {S : z_St} (h : z_rcC u P S) : f_X2_longest u = some (nI (z_mxs S S.1)) := by
  unfold f_X2_longest
  have h12 := h.1
  have h8 : ∀ i, i < S.1 → (S.2 i).1 ≤ 8 := fun i hi => (h.at hi).2.2.2.1
  refine z_lpr (fun t => (nI (z_mxs S t), nI t)) _ S.1 (z_F_lt (by omega)) (fun t ht kb => ?_) (fun kb => ?_)
  · obtain ⟨c1, c2, c3⟩ := h.at ht
    have a1 := z_mxs_8 h8 t (by omega)
    have a2 := h8 t ht
    unfold b_X2_longest_4
    dsimp only
    rw [z_gI, h.2.1, if_neg (nI_ge ht (by omega)), z_gI, z_cl (show t < 2 ^ 31 by omega), c1, c2, z_gI, c3.1, z_1 t, z_mxs]
    simp only [z_gd, if_true, z_lt, z_ltI (show z_mxs S t < 2 ^ 31 by omega) (show (S.2 t).1 < 2 ^ 31 by omega)]
    split <;> rfl
  · unfold b_X2_longest_4
    dsimp only
    rw [z_gI, h.2.1, if_pos (nI_le (Nat.le_refl _) (by omega))]
theorem s2_shortest {S : z_St} (h : z_rcC u P S) : f_X2_shortest u = some (nI (z_mns 8 S S.1)) := by
  unfold f_X2_shortest
  have h12 := h.1
  have h8 : ∀ i, i < S.1 → (S.2 i).1 ≤ 8 := fun i hi => (h.at hi).2.2.2.1
  refine z_lpr (fun t => (nI (z_mns 8 S t), nI t)) _ S.1 (z_F_lt (by omega)) (fun t ht kb => ?_) (fun kb => ?_)
  · obtain ⟨c1, c2, c3⟩ := h.at ht
    have a1 := z_mns_9 h8 (s := 8) (by decide) t (by omega)
    have a2 := h8 t ht
    unfold b_X2_shortest_5
    dsimp only
    rw [z_gI, h.2.1, if_neg (nI_ge ht (by omega)), z_gI, z_cl (show t < 2 ^ 31 by omega), c1, c2, z_gI, c3.1, z_1 t, z_mns]
    simp only [z_gd, if_true, z_lt, z_ltI (show (S.2 t).1 < 2 ^ 31 by omega) (show z_mns 8 S t < 2 ^ 31 by omega)]
    split <;> rfl
  · unfold b_X2_shortest_5
    dsimp only
    rw [z_gI, h.2.1, if_pos (nI_le (Nat.le_refl _) (by omega))]
def z_byc (P : z_P) (a : Int32) (c : z_Cn) : Bool := if a = 0 then true else if a = 1 then decide (z_fll P c = 0) else if a = 2 then z_des P c else false
theorem s10_chainsBy (hr : z_rr (w.1 1) P) (hw : z_wf P) {S : z_St} (h : z_rrC w S) (a : Int32) : f_X10_chainsBy a w = if 3 ≤ a then (if a = 3 then some (nI (z_mxs S S.1)) else some (nI (z_mns 9 S S.1))) else some (nI (fb_ct (fun i => z_byc P a (S.2 i)) S.1)) := by
  unfold f_X10_chainsBy
  have h12 := h.1
  have h8 : ∀ i, i < S.1 → (S.2 i).1 ≤ 8 := fun i hi => (h.at hi).2.1
  refine z_lpr (fun t => (nI (fb_ct (fun i => z_byc P a (S.2 i)) t), nI (z_mxs S t), nI (z_mns 9 S t), nI t)) _ S.1 (z_F_lt (by omega)) (fun t ht kb => ?_) (fun kb => ?_)
  · have d1 := h.at ht
    have a1 := z_mxs_8 h8 t (by omega)
    have a2 := z_mns_9 h8 (s := 9) (by decide) t (by omega)
    have a3 := h8 t ht
    have hsz : nI ((S.2 t).1 + 1) - 1 = nI (S.2 t).1 := nI_pred _
    have h2p : nI (2 ^ (S.2 t).1) - 1 = nI (2 ^ (S.2 t).1 - 1) := by
      have := Nat.one_le_two_pow (n := (S.2 t).1)
      obtain ⟨m, hm⟩ : ∃ m, 2 ^ (S.2 t).1 = m + 1 := ⟨2 ^ (S.2 t).1 - 1, by omega⟩
      rw [hm, nI_pred, Nat.add_sub_cancel]
    have e64 := z_ix64 (show t < 64 by omega)
    have e1 : z_gI w 10 (nI t).toNatClampNeg = nI ((S.2 t).1 + 1) := by rw [z_gI, z_cl (show t < 2 ^ 31 by omega)]; exact d1.1
    have tail : ∀ (x2 : Int32) (kx : (Int32 × Int32 × Int32) → Option Int32), j_X10_chainsBy_j128 a x2 (nI (z_mns 9 S t)) (nI t) (nI (z_mxs S (t + 1))) w kb kx = kb (x2, nI (z_mxs S (t + 1)), nI (z_mns 9 S (t + 1)), nI (t + 1)) := fun x2 kx => by
      unfold j_X10_chainsBy_j128
      rw [e64, e1, hsz, z_1 t, z_mns]
      simp only [z_gd, if_true, z_lt, z_leI (show z_mns 9 S t < 2 ^ 31 by omega) (show (S.2 t).1 < 2 ^ 31 by omega)]
      by_cases c : z_mns 9 S t ≤ (S.2 t).1
      · rw [if_pos c, if_neg (show ¬ (S.2 t).1 < z_mns 9 S t by omega)]
      · rw [if_neg c, if_pos (show (S.2 t).1 < z_mns 9 S t by omega)]
    have mid : ∀ (x90 x91 : Int32) (kx : (Int32 × Int32 × Int32) → Option Int32), j_X10_chainsBy_j100 a (nI (z_mxs S t)) (nI (z_mns 9 S t)) (nI t) x90 x91 w kb kx = kb (x91 + x90, nI (z_mxs S (t + 1)), nI (z_mns 9 S (t + 1)), nI (t + 1)) := fun x90 x91 kx => by
      rw [← tail]
      unfold j_X10_chainsBy_j100
      rw [e64, e1, hsz, z_mxs]
      simp only [z_gd, if_true, z_lt, z_leI (show (S.2 t).1 < 2 ^ 31 by omega) (show z_mxs S t < 2 ^ 31 by omega)]
      by_cases c : (S.2 t).1 ≤ z_mxs S t
      · rw [if_pos c, if_neg (show ¬ z_mxs S t < (S.2 t).1 by omega)]
      · rw [if_neg c, if_pos (show z_mxs S t < (S.2 t).1 by omega)]
    have j95 : ∀ (x : Int32) (kx : (Int32 × Int32 × Int32) → Option Int32), j_X10_chainsBy_j95 a (nI (z_mxs S t)) (nI (z_mns 9 S t)) (nI t) x w kb kx = kb (x + 1, nI (z_mxs S (t + 1)), nI (z_mns 9 S (t + 1)), nI (t + 1)) := fun x kx => by
      unfold j_X10_chainsBy_j95; rw [mid]
    have j99 : ∀ (x : Int32) (kx : (Int32 × Int32 × Int32) → Option Int32), j_X10_chainsBy_j99 a (nI (z_mxs S t)) (nI (z_mns 9 S t)) (nI t) x w kb kx = kb (x, nI (z_mxs S (t + 1)), nI (z_mns 9 S (t + 1)), nI (t + 1)) := fun x kx => by
      unfold j_X10_chainsBy_j99; rw [mid, Int32.add_zero]
    have j64 : ∀ kx : (Int32 × Int32 × Int32) → Option Int32, j_X10_chainsBy_j64 a (nI (fb_ct (fun i => z_byc P a (S.2 i)) t)) (nI (z_mxs S t)) (nI (z_mns 9 S t)) (nI t) (z_bi (z_des P (S.2 t))) w kb kx = kb (nI (fb_ct (fun i => z_byc P a (S.2 i)) (t + 1)), nI (z_mxs S (t + 1)), nI (z_mns 9 S (t + 1)), nI (t + 1)) := fun kx => by
      unfold j_X10_chainsBy_j64 j_X10_chainsBy_j85
      rw [j95, j99, s10_isRising hr hw (show t < 12 by omega) d1, Option.bind_some, fb_ct_succ, z_1]
      by_cases c0 : a = 0
      · rw [if_pos c0, show z_byc P a (S.2 t) = true by simp [z_byc, c0]]; rfl
      · rw [if_neg c0]
        by_cases c1 : a = 1
        · rw [if_pos c1, show z_byc P a (S.2 t) = decide (z_fll P (S.2 t) = 0) by simp [z_byc, c1]]
          cases decide (z_fll P (S.2 t) = 0)
          · rw [if_pos (show z_bi false = 0 from rfl), if_neg (show ¬ a = 2 by rw [c1]; decide)]; rfl
          · rw [if_neg (show ¬ z_bi true = 0 by decide)]; rfl
        · rw [if_neg c1]
          by_cases c2 : a = 2
          · rw [if_pos c2, show z_byc P a (S.2 t) = z_des P (S.2 t) by simp [z_byc, c2]]
            cases z_des P (S.2 t)
            · rw [if_pos (show z_bi false = 0 from rfl)]; rfl
            · rw [if_neg (show ¬ z_bi true = 0 by decide)]; rfl
          · rw [if_neg c2, show z_byc P a (S.2 t) = false by simp [z_byc, c0, c1, c2]]; rfl
    have hd := z_des_eq (P := P) a3
    have j55 : ∀ kx : (Int32 × Int32 × Int32) → Option Int32, j_X10_chainsBy_j55 a (nI (fb_ct (fun i => z_byc P a (S.2 i)) t)) (nI (z_mxs S t)) (nI (z_mns 9 S t)) (nI t) (if (S.2 t).1 = 0 then 0 else 1) (nI (2 ^ (S.2 t).1 - 1)) (nI (z_fll P (S.2 t))) w kb kx = kb (nI (fb_ct (fun i => z_byc P a (S.2 i)) (t + 1)), nI (z_mxs S (t + 1)), nI (z_mns 9 S (t + 1)), nI (t + 1)) := fun kx => by
      rw [← j64]
      unfold j_X10_chainsBy_j55
      simp only [hd]
      cases z_des P (S.2 t)
      · rfl
      · rfl
    unfold b_X10_chainsBy_11
    dsimp only
    rw [show z_gI w 0 18 = nI S.1 from h.2.1, if_neg (nI_ge ht (by omega)), s10_fallsOf hr hw (show t < 12 by omega) d1, Option.bind_some, e64, e1, hsz, z_sh (by omega), h2p]
    simp only [z_gd, if_true]
    by_cases c : (S.2 t).1 = 0
    · rw [if_pos (show nI ((S.2 t).1 + 1) ≤ 1 from nI_le (b := 1) (by omega) (by decide)), ← j55, if_pos c]
    · rw [if_neg (show ¬ nI ((S.2 t).1 + 1) ≤ 1 from nI_ge (a := 1) (by omega) (by omega)), ← j55, if_neg c]
  · unfold b_X10_chainsBy_11
    dsimp only
    rw [show z_gI w 0 18 = nI S.1 from h.2.1, if_pos (nI_le (Nat.le_refl _) (by omega))]
/-! there is a chain -/
theorem z_gn_pos (hw : z_wf P) {b : Nat} (hb : b < 9) : ∀ n x, x < 9 → (x = b ∨ (z_ab P x).testBit b = true) → z_pc (z_inr P x b) + 1 < n → 0 < z_gn P b n x
  | 0, x, _, _, h => absurd h (by omega)
  | n + 1, x, hx, hl, h => by
    rw [z_gn]
    by_cases e : x = b
    · rw [if_pos e]; decide
    · have hl' := hl.resolve_left e
      rw [if_neg e]
      have hex : ∃ y, y < 9 ∧ (z_nxt P b x).testBit y = true ∧ 0 < z_gn P b n y := by
        by_cases hi : z_inr P x b = 0
        · refine ⟨b, hb, (z_nxt_bit hw hb hx hb).mpr ⟨hl', by rw [z_dn_bit P hb]; simp, hi⟩, ?_⟩
          cases n with
          | zero => omega
          | succ n => rw [z_gn, if_pos rfl]; decide
        · obtain ⟨m, m1, m2, m3⟩ := z_min hw (z_inr_lt hw hx) hi
          have m2' := m2
          rw [z_inr_bit m1, Bool.and_eq_true] at m2'
          refine ⟨m, m1, (z_nxt_bit hw hb hx m1).mpr ⟨m2'.1, by rw [z_dn_bit P m1, m2'.2]; rfl, ?_⟩, ?_⟩
          · refine z_ext (z_inr_lt hw hx) (by decide) (fun k hk => ?_)
            have : (z_un P m &&& z_inr P x b).testBit k = false := by rw [m3, Nat.zero_testBit]
            rw [Nat.testBit_and, z_un_bit P hk, z_inr_bit hk] at this
            rw [z_inr_bit hk, Nat.zero_testBit]
            cases h4 : (z_ab P x).testBit k
            · rfl
            · cases h5 : (z_ab P k).testBit m
              · rfl
              · rw [h4, h5, hw.tr k m b hk m1 hb h5 m2'.2] at this
                cases this
          · refine z_gn_pos hw hb n m m1 (Or.inr m2'.2) ?_
            have : z_pc (z_inr P m b) < z_pc (z_inr P x b) := z_pc_st m1 m2 (by rw [z_inr_bit m1, hw.irr m m1]; rfl) (fun k hk hb2 => by
              rw [z_inr_bit hk, Bool.and_eq_true] at hb2 ⊢
              exact ⟨hw.tr x m k hx m1 hk m2'.1 hb2.1, hb2.2⟩)
            omega
      obtain ⟨y, y1, y2, y3⟩ := hex
      have h1 : fb_sm (fun t => if t = y then 1 else 0) 9 ≤ fb_sm (fun y => if (z_nxt P b x).testBit y then z_gn P b n y else 0) 9 := fb_sm_le (fun t ht => by
        by_cases c : t = y
        · rw [if_pos c, c, if_pos y2]; exact y3
        · rw [if_neg c]; exact Nat.zero_le _)
      rw [z_sm_one (fun _ => 1) 9 y1] at h1
      exact h1
theorem z_all_pos (hw : z_wf P) {a b : Nat} (ha : a < 9) (hb : b < 9) (hab : a = b ∨ (z_ab P a).testBit b = true) : 0 < (z_all P a b).1 := by
  unfold z_all
  rw [z_grow_ct, Nat.zero_add]
  by_cases e : a = b
  · subst e
    rw [z_gn, if_pos rfl]
    decide
  · exact z_gn_pos hw hb 9 a ha hab (by have := z_inr_7 hw ha hb e; omega)
theorem p_chains : z_S_chains z_Inv := by
  intro a1 a2 a3 u w hI
  refine z_rd2 hI (fun P hw hc hr pm => ?_)
  have hr' := z_rr0 hr 0
  unfold f_X9_chains f_X10_chains j_X10_chains_j27
  rw [z_lt, z_isIn0 a3 4 4 rfl, Option.bind_some]
  by_cases n0 : a3 < 0
  · exact ⟨-1, by rw [if_pos n0]; simpa [z_ok_some] using z_eC.rf pm, by simpa [n0, z_bi, z_ok_some] using z_eR0 w⟩
  by_cases n4 : ¬ a3 ≤ 4
  · exact ⟨-1, by rw [if_neg n0, if_neg n4]; simpa [z_ok_some] using z_eC.rf pm, by simpa [n0, n4, z_bi, z_ok_some] using z_eR0 w⟩
  have n4 : a3 ≤ 4 := Decidable.not_not.mp n4
  rw [if_neg n0, if_pos n4, decide_eq_true n0, decide_eq_true n4, if_neg (show ¬ z_bi (true && true) = 0 by decide), s9_troubleOf hc hw, Option.bind_some, s10_refusal hr' hw, Option.bind_some]
  rcases z_tr_cases P hw a1 a2 with h | h | ⟨h, x, y, hx, hy, rfl, rfl, tx, ty, hxy⟩
  · exact ⟨-1, by rw [h]; simpa [z_ok_some] using z_eC.rf pm, by rw [h]; simpa [z_ok_some] using z_eR0 w⟩
  · exact ⟨-2, by rw [h]; simpa [z_ok_some] using z_eC.rf pm, by rw [h]; simpa [z_ok_some] using z_eR0 w⟩
  obtain ⟨u1, w1, k1, k2, k3, k4, k5, k6, k7⟩ := z_two hw hc hr' pm hx hy tx ty hxy
  have k5' := z_eR.tr (z_eR0 w) k5
  have h12 := k3.1
  have hpos := z_all_pos hw hx hy hxy
  rw [h, if_pos rfl, if_pos (show (0 : Int32) ≤ 0 by decide), k1, Option.bind_some, k4, Option.bind_some, s10_chainsBy k6 hw k7]
  obtain ⟨n, hn, rfl⟩ := nI_of n0
  have hn5 : n < 5 := by
    have : nI n < nI 5 := by
      rw [Int32.lt_iff_toInt_lt]
      rw [Int32.le_iff_toInt_le] at n4
      have e4 : (4 : Int32).toInt = 4 := rfl
      rw [show (nI 5).toInt = 5 from rfl]
      omega
    rw [z_ltI hn (by decide)] at this
    exact this
  have hcase : n = 0 ∨ n = 1 ∨ n = 2 ∨ n = 3 ∨ n = 4 := by omega
  have hct : ∀ m, fb_ct (fun _ => true) m = m := fun m => by
    induction m with
    | zero => rfl
    | succ m ih => rw [fb_ct_succ, ih]; rfl
  rcases hcase with rfl | rfl | rfl | rfl | rfl
  · refine ⟨nI (z_all P x y).1, ?_, ?_⟩
    · rw [if_pos (show nI 0 = 0 from rfl), z_ok_some]
      exact ⟨k3.2.1, k2⟩
    · rw [if_neg (show ¬ (3 : Int32) ≤ nI 0 by decide), Option.bind_some, z_ok_some]
      refine ⟨?_, k5'⟩
      dsimp only
      rw [show (fun i => z_byc P (nI 0) ((z_all P x y).2 i)) = fun _ => true from funext (fun i => if_pos rfl), hct]
  · refine ⟨nI (fb_ct (fun i => decide (nI (z_fll P ((z_all P x y).2 i)) = 0)) (z_all P x y).1), ?_, ?_⟩
    · rw [if_neg (show ¬ nI 1 = 0 by decide), if_pos (show nI 1 = 1 from rfl), f_X2_rising, s2_withFalls k3, Option.bind_some, Option.bind_some, z_ok_some]
      exact ⟨rfl, k2⟩
    · rw [if_neg (show ¬ (3 : Int32) ≤ nI 1 by decide), Option.bind_some, z_ok_some]
      refine ⟨?_, k5'⟩
      dsimp only
      congr 1
      refine fb_ct_cong (fun i hi => ?_)
      have := z_fll_lt (P := P) (k7.at hi).2.1
      rw [show z_byc P (nI 1) ((z_all P x y).2 i) = decide (z_fll P ((z_all P x y).2 i) = 0) from rfl]
      exact decide_eq_decide.mpr (z_nI0 (by omega)).symm
  · refine ⟨nI (fb_ct (fun i => z_des P ((z_all P x y).2 i)) (z_all P x y).1), ?_, ?_⟩
    · rw [if_neg (show ¬ nI 2 = 0 by decide), if_neg (show ¬ nI 2 = 1 by decide), if_pos (show nI 2 = 2 from rfl), s2_descending k3, Option.bind_some, z_ok_some]
      exact ⟨rfl, k2⟩
    · rw [if_neg (show ¬ (3 : Int32) ≤ nI 2 by decide), Option.bind_some, z_ok_some]
      exact ⟨rfl, k5'⟩
  · refine ⟨nI (z_mxs (z_all P x y) (z_all P x y).1), ?_, ?_⟩
    · rw [if_neg (show ¬ nI 3 = 0 by decide), if_neg (show ¬ nI 3 = 1 by decide), if_neg (show ¬ nI 3 = 2 by decide), if_pos (show nI 3 = 3 from rfl), s2_longest k3, Option.bind_some, z_ok_some]
      exact ⟨rfl, k2⟩
    · rw [if_pos (show (3 : Int32) ≤ nI 3 by decide), if_pos (show nI 3 = 3 from rfl), Option.bind_some, z_ok_some]
      exact ⟨rfl, k5'⟩
  · refine ⟨nI (z_mns 9 (z_all P x y) (z_all P x y).1), ?_, ?_⟩
    · rw [if_neg (show ¬ nI 4 = 0 by decide), if_neg (show ¬ nI 4 = 1 by decide), if_neg (show ¬ nI 4 = 2 by decide), if_neg (show ¬ nI 4 = 3 by decide), s2_shortest k3, Option.bind_some, z_ok_some]
      refine ⟨?_, k2⟩
      dsimp only
      obtain ⟨m, hm⟩ : ∃ m, (z_all P x y).1 = m + 1 := ⟨(z_all P x y).1 - 1, by omega⟩
      rw [hm, z_mns_89 (fun i hi => (k7.at hi).2.1) m (by omega)]
    · rw [if_pos (show (3 : Int32) ≤ nI 4 by decide), if_neg (show ¬ nI 4 = 3 by decide), Option.bind_some, z_ok_some]
      exact ⟨rfl, k5'⟩
end
