section
variable {u w v : z_M} {P : z_P}
theorem s10_creaseOf {S : z_St} {s l : Nat → Nat} (h : z_rrC w S) (hs : ∀ i, i < S.1 → z_cset (S.2 i) = s i ∧ (S.2 i).1 = l i) (hf : z_fam s l S.1) {j : Nat} (hj : j < S.1) : f_X10_creaseOf (nI j) w = some (nI (z_crs s j j)) := by
  have h12 := h.1
  have hset : ∀ i, i < S.1 → f_X10_chainSet (nI i) w = some (nI (s i)) := fun i hi => by rw [s10_chainSet (by omega) (h.at hi), (hs i hi).1]
  have h512 := hf.1 j hj
  rw [← z_crn_eq hf hj]
  unfold f_X10_creaseOf
  refine z_lpr (fun t => (nI (z_crn s j t), nI t)) _ 9 (by decide) (fun x hx kb => ?_) (fun kb => ?_)
  · unfold b_X10_creaseOf_4
    dsimp only
    rw [if_neg (by rw [z_le9 hx]; exact id), z_1 x, z_sh hx, z_or]
    rw [show z_lp (b_X10_creaseOf_16 (nI j) (nI (z_crn s j x)) (nI x) w) z_F (0, 0) (fun t10 => if t10 = 0 then (z_lt (nI (z_crn s j x) ||| 0) (fun v12 => kb (v12, nI (x + 1)))) else (z_lt (nI (z_crn s j x ||| 2 ^ x)) (fun v13 => kb (v13, nI (x + 1))))) = if z_bi (z_crr s j x) = 0 then (z_lt (nI (z_crn s j x) ||| 0) (fun v12 => kb (v12, nI (x + 1)))) else (z_lt (nI (z_crn s j x ||| 2 ^ x)) (fun v13 => kb (v13, nI (x + 1)))) from ?_]
    · rw [z_crn, Int32.or_zero]
      cases z_crr s j x
      · rfl
      · rfl
    · cases hb : (s j).testBit x
      · rw [show z_crr s j x = false by unfold z_crr; rw [hb]; rfl, if_pos (show z_bi false = 0 from rfl)]
        refine z_lpr (fun t => (0, nI t)) _ 0 (by decide) (fun i hi => absurd hi (by omega)) (fun kb => ?_)
        unfold b_X10_creaseOf_16
        dsimp only
        rw [hset j hj, Option.bind_some, s_has (by omega) hx, Option.bind_some, hb, if_pos (show z_bi false = 0 from rfl), if_pos (show (0 : Int32) = 0 from rfl)]
        split <;> rfl
      · rw [show z_crr s j x = z_anyb (fun k => decide (z_df (z_df (s j) (2 ^ x)) (s k) = 0)) j by unfold z_crr; rw [hb]; rfl]
        refine z_lpr (fun t => (z_bi (z_anyb (fun k => decide (z_df (z_df (s j) (2 ^ x)) (s k) = 0)) t), nI t)) _ j (z_F_lt (by omega)) (fun k hk kb => ?_) (fun kb => ?_)
        · unfold b_X10_creaseOf_16
          dsimp only
          have e0 : (nI (z_df (z_df (s j) (2 ^ x)) (s k)) = 0) = (z_df (z_df (s j) (2 ^ x)) (s k) = 0) := z_df0 (z_df_lt h512)
          rw [if_neg (nI_ge (by omega) (by omega)), hset j hj, Option.bind_some, s_has (by omega) hx, Option.bind_some, hb, if_neg (show ¬ z_bi true = 0 by decide), Option.bind_some, hset k (by omega), Option.bind_some, z_sh hx, z_andc, z_andc, z_1 k, z_anyb]
          simp only [e0]
          cases z_anyb (fun k => decide (z_df (z_df (s j) (2 ^ x)) (s k) = 0)) k
          · rw [if_pos (show z_bi false = 0 from rfl)]
            by_cases c : z_df (z_df (s j) (2 ^ x)) (s k) = 0
            · rw [if_pos c, decide_eq_true c]; rfl
            · rw [if_neg c, decide_eq_false c]; rfl
          · rw [if_neg (show ¬ z_bi true = 0 by decide)]; rfl
        · unfold b_X10_creaseOf_16
          dsimp only
          rw [if_pos (nI_le (Nat.le_refl _) (by omega))]
  · unfold b_X10_creaseOf_4
    dsimp only
    rw [if_pos (show (9 : Int32) ≤ nI 9 by decide)]
theorem p_shelled : z_S_shelled z_Inv := by
  intro a1 a2 u w hI
  refine z_rd2 hI (fun P hw hc hr pm => ?_)
  have hr' := z_rr0 hr 0
  unfold f_X9_shelled f_X10_shelled
  rw [s9_troubleWithin hc hw, Option.bind_some, z_lt, s10_noInner hr' hw, Option.bind_some, if_neg (show ¬ (1 : Int32) = 0 by decide)]
  rcases z_trw_cases P hw a1 a2 with h | h | ⟨h, x, y, hx, hy, rfl, rfl, tx, ty, hxy, hne, -⟩
  · exact ⟨-3, by rw [h]; simpa [z_ok_some] using z_eC.rf pm, by rw [h]; simpa [z_ok_some] using z_eR0 w⟩
  · exact ⟨-2, by rw [h]; simpa [z_ok_some] using z_eC.rf pm, by rw [h]; simpa [z_ok_some] using z_eR0 w⟩
  obtain ⟨u1, w1, k1, k2, k3, k4, k5, k6, k7⟩ := z_two hw hc hr' pm hx hy tx ty (Or.inr hxy)
  have k5' := z_eR.tr (z_eR0 w) k5
  have h12 := k3.1
  have hf := z_all_fam hw hx hy
  have hpos := z_all_pos hw hx hy (Or.inr hxy)
  rw [h, if_pos rfl, if_pos (show (0 : Int32) ≤ 0 by decide), k1, Option.bind_some, k4, Option.bind_some]
  let R : Nat × z_M → Option (Int32 × z_M) := fun q => some (nI q.1, q.2)
  obtain ⟨r, hr1⟩ : ∃ r, r = z_exi (z_shl (fun i => z_cset ((z_all P x y).2 i))) (fun j => nI j) (-1) ((z_all P x y).1 - 1) 1 := ⟨_, rfl⟩
  have hmap : ∀ v : z_M, z_exi (z_shl (fun i => z_cset ((z_all P x y).2 i))) (fun j => some (nI j, v)) (some (-1, v)) ((z_all P x y).1 - 1) 1 = some (r, v) := fun v => by
    rw [hr1]
    generalize (z_all P x y).1 - 1 = n
    generalize 1 = k
    revert k
    induction n with
    | zero => intro k; rfl
    | succ n ih =>
      intro k
      rw [z_exi, z_exi]
      by_cases c : z_shl (fun i => z_cset ((z_all P x y).2 i)) k = true
      · rw [if_pos c, if_pos c]; exact ih (k + 1)
      · rw [if_neg c, if_neg c]
  refine ⟨r, z_ok_of (r := (r, u1)) ?_ ⟨rfl, k2⟩, z_ok_of (r := (r, w1)) ?_ ⟨rfl, k5'⟩⟩
  · rw [← hmap u1]
    refine z_lpx (k0 := 1) (fun t => nI t) _ _ _ ((z_all P x y).1 - 1) (z_F_lt (by omega)) (fun j j1 j2 kb => ?_) (fun kb => ?_)
    · unfold b_X9_shelled_39
      rw [show z_gI u1 86 0 = nI (z_all P x y).1 from k3.2.1, if_neg (nI_ge (by omega) (by omega)), s2_isShell (s := fun i => z_cset ((z_all P x y).2 i)) k3 (fun i hi => ⟨rfl, hf.1 i hi⟩) (by omega), Option.bind_some, z_1]
      cases z_shl (fun i => z_cset ((z_all P x y).2 i)) j
      · rfl
      · rfl
    · unfold b_X9_shelled_39
      rw [show z_gI u1 86 0 = nI (z_all P x y).1 from k3.2.1, if_pos (nI_le (by omega) (by omega))]
  · rw [← hmap w1]
    refine z_lpx (k0 := 1) (fun t => nI t) _ _ _ ((z_all P x y).1 - 1) (z_F_lt (by omega)) (fun j j1 j2 kb => ?_) (fun kb => ?_)
    · unfold b_X10_shelled_38
      rw [show z_gI w1 0 18 = nI (z_all P x y).1 from k7.2.1, if_neg (nI_ge (by omega) (by omega)), s10_isLaid (s := fun i => z_cset ((z_all P x y).2 i)) (l := fun i => ((z_all P x y).2 i).1) k7 (fun i hi => ⟨rfl, rfl⟩) hf (by omega), Option.bind_some, z_1]
      cases z_shl (fun i => z_cset ((z_all P x y).2 i)) j
      · rfl
      · rfl
    · unfold b_X10_shelled_38
      rw [show z_gI w1 0 18 = nI (z_all P x y).1 from k7.2.1, if_pos (nI_le (by omega) (by omega))]
theorem p_crease : z_S_crease z_Inv := by
  intro a1 a2 a3 u w hI
  refine z_rd2 hI (fun P hw hc hr pm => ?_)
  have hr' := z_rr0 hr 0
  unfold f_X9_crease f_X10_crease f_X10_laidTo
  rw [s9_troubleWithin hc hw, Option.bind_some, z_lt, s10_refusal hr' hw, Option.bind_some]
  unfold z_trw
  rcases z_tr_cases P hw a1 a2 with h | h | ⟨h, x, y, hx, hy, rfl, rfl, tx, ty, hxy⟩
  · exact ⟨-1, by rw [h]; simpa [z_ok_some] using z_eC.rf pm, by rw [h]; simpa [z_ok_some, z_b2] using z_eR0 w⟩
  · exact ⟨-2, by rw [h]; simpa [z_ok_some] using z_eC.rf pm, by rw [h]; simpa [z_ok_some, z_b2] using z_eR0 w⟩
  obtain ⟨u1, w1, k1, k2, k3, k4, k5, k6, k7⟩ := z_two hw hc hr' pm hx hy tx ty hxy
  have k5' := z_eR.tr (z_eR0 w) k5
  have h12 := k3.1
  have hf := z_all_fam hw hx hy
  rw [h, if_pos (show (0 : Int32) ≤ 0 by decide), k4, Option.bind_some, show z_gI w1 0 18 = nI (z_all P x y).1 from k7.2.1, z_isInN a3 (show (z_all P x y).1 < 100000 by omega), Option.bind_some]
  by_cases e : x = y
  · subst e
    refine ⟨-2, ?_, ?_⟩
    · rw [if_pos (show (0 : Int32) = 0 ∧ nI x = nI x from ⟨rfl, rfl⟩), if_neg (show ¬ (-2 : Int32) = 0 by decide), z_ok_some]
      exact ⟨rfl, z_eC.rf pm⟩
    · rw [z_ok_b2]
      cases decide (¬ a3 < 0) && decide (a3 < nI (z_all P x x).1)
      · rw [if_pos (show z_bi false = 0 from rfl), z_ok_some]
        rw [if_neg (show ¬ (0 : Int32) ≤ -2 by decide), z_ok_some]
        exact ⟨rfl, k5'⟩
      · rw [if_neg (show ¬ z_bi true = 0 by decide), z_ok_some]
        rw [if_pos (show (0 : Int32) ≤ 0 by decide), if_pos rfl, z_ok_some]
        exact ⟨rfl, k5'⟩
  have hne : ¬ nI x = nI y := fun q => e ((nI_eq (by omega) (by omega)).mp q)
  rw [if_neg (show ¬ ((0 : Int32) = 0 ∧ nI x = nI y) from fun q => hne q.2), if_pos (show (0 : Int32) = 0 from rfl), k1, Option.bind_some, s2_hasChain k3, Option.bind_some]
  rcases z_chn a3 (show (z_all P x y).1 < 100 by omega) with g | ⟨i, hi, rfl⟩
  · rw [g, if_pos (show z_bi false = 0 from rfl), if_pos (show z_bi false = 0 from rfl)]
    refine ⟨-2, z_ok_some.mpr ⟨rfl, k2⟩, ?_⟩
    rw [z_ok_b2, z_ok_some, if_neg (show ¬ (0 : Int32) ≤ -2 by decide), z_ok_some]
    exact ⟨rfl, k5'⟩
  · rw [z_chn_t hi (by omega), if_neg (show ¬ z_bi true = 0 by decide), if_neg (show ¬ z_bi true = 0 by decide), s2_creaseSet (s := fun i => z_cset ((z_all P x y).2 i)) k3 (fun i hi => ⟨rfl, hf.1 i hi⟩) hi, Option.bind_some]
    refine ⟨_, z_ok_some.mpr ⟨rfl, k2⟩, ?_⟩
    rw [z_ok_b2, z_ok_some, if_pos (show (0 : Int32) ≤ 0 by decide), if_neg hne, s10_creaseOf (s := fun i => z_cset ((z_all P x y).2 i)) (l := fun i => ((z_all P x y).2 i).1) k7 (fun i hi => ⟨rfl, rfl⟩) hf hi, Option.bind_some, z_ok_some]
    exact ⟨rfl, k5'⟩
theorem p_creased : z_S_creased z_Inv := by
  intro a1 a2 a3 u w hI
  refine z_rd2 hI (fun P hw hc hr pm => ?_)
  have hr' := z_rr0 hr 0
  unfold f_X9_creased f_X10_creased j_X10_creased_j17
  rw [z_lt]
  by_cases n0 : a3 < 0
  · rw [if_neg (Int32.not_le.mpr n0), if_pos n0, s10_noInner hr' hw, Option.bind_some, if_pos rfl]
    exact ⟨-1, by simpa [z_ok_some] using z_eC.rf pm, by simpa [z_ok_some] using z_eR0 w⟩
  rw [if_pos (Int32.not_lt.mp n0), if_neg n0, s9_troubleWithin hc hw, Option.bind_some, s10_noInner hr' hw, Option.bind_some, if_neg (show ¬ (1 : Int32) = 0 by decide)]
  rcases z_trw_cases P hw a1 a2 with h | h | ⟨h, x, y, hx, hy, rfl, rfl, tx, ty, hxy, hne, -⟩
  · exact ⟨-1, by rw [h]; simpa [z_ok_some] using z_eC.rf pm, by rw [h]; simpa [z_ok_some] using z_eR0 w⟩
  · exact ⟨-2, by rw [h]; simpa [z_ok_some] using z_eC.rf pm, by rw [h]; simpa [z_ok_some] using z_eR0 w⟩
  obtain ⟨u1, w1, k1, k2, k3, k4, k5, k6, k7⟩ := z_two hw hc hr' pm hx hy tx ty (Or.inr hxy)
  have k5' := z_eR.tr (z_eR0 w) k5
  have h12 := k3.1
  have hf := z_all_fam hw hx hy
  rw [h, if_pos rfl, if_pos (show (0 : Int32) ≤ 0 by decide), k1, Option.bind_some, k4, Option.bind_some]
  obtain ⟨p, hp⟩ : ∃ p : Nat → Bool, p = fun j => decide (nI (z_pc (z_crs (fun i => z_cset ((z_all P x y).2 i)) j j)) = a3) := ⟨_, rfl⟩
  refine ⟨nI (fb_ct p (z_all P x y).1), z_ok_of (r := (nI (fb_ct p (z_all P x y).1), u1)) ?_ ⟨rfl, k2⟩, z_ok_of (r := (nI (fb_ct p (z_all P x y).1), w1)) ?_ ⟨rfl, k5'⟩⟩
  · refine z_lpr (fun t => (nI (fb_ct p t), nI t)) _ (z_all P x y).1 (z_F_lt (by omega)) (fun j hj kb => ?_) (fun kb => ?_)
    · unfold b_X9_creased_41
      dsimp only
      rw [show z_gI u1 86 0 = nI (z_all P x y).1 from k3.2.1, if_neg (nI_ge (by omega) (by omega)), s2_creaseSet (s := fun i => z_cset ((z_all P x y).2 i)) k3 (fun i hi => ⟨rfl, hf.1 i hi⟩) hj, Option.bind_some, s_bitc (z_crs_lt (s := fun i => z_cset ((z_all P x y).2 i)) (hf.1 j hj) j), z_1 j, fb_ct_succ]
      by_cases c : nI (z_pc (z_crs (fun i => z_cset ((z_all P x y).2 i)) j j)) = a3
      · rw [if_pos c, show p j = true by rw [hp]; exact decide_eq_true c, z_1]; rfl
      · rw [if_neg c, show p j = false by rw [hp]; exact decide_eq_false c]; rfl
    · unfold b_X9_creased_41
      dsimp only
      rw [show z_gI u1 86 0 = nI (z_all P x y).1 from k3.2.1, if_pos (nI_le (Nat.le_refl _) (by omega))]
  · refine z_lpr (fun t => (nI (fb_ct p t), nI t)) _ (z_all P x y).1 (z_F_lt (by omega)) (fun j hj kb => ?_) (fun kb => ?_)
    · unfold b_X10_creased_42
      dsimp only
      rw [show z_gI w1 0 18 = nI (z_all P x y).1 from k7.2.1, if_neg (nI_ge (by omega) (by omega)), s10_creaseOf (s := fun i => z_cset ((z_all P x y).2 i)) (l := fun i => ((z_all P x y).2 i).1) k7 (fun i hi => ⟨rfl, rfl⟩) hf hj, Option.bind_some, s_bits (z_crs_lt (s := fun i => z_cset ((z_all P x y).2 i)) (hf.1 j hj) j), Option.bind_some, z_1 j, fb_ct_succ]
      by_cases c : nI (z_pc (z_crs (fun i => z_cset ((z_all P x y).2 i)) j j)) = a3
      · rw [if_pos c, show p j = true by rw [hp]; exact decide_eq_true c, z_1]; rfl
      · rw [if_neg c, show p j = false by rw [hp]; exact decide_eq_false c, Int32.add_zero]; rfl
    · unfold b_X10_creased_42
      dsimp only
      rw [show z_gI w1 0 18 = nI (z_all P x y).1 from k7.2.1, if_pos (nI_le (Nat.le_refl _) (by omega))]
end
