section
variable {u w : z_M} {P : z_P}
/-! Choices. -/
def z_bn : Nat → Nat → Nat
  | _, 0 => 1
  | 0, _ + 1 => 0
  | n + 1, k + 1 => z_bn n k + z_bn n (k + 1)
theorem z_bn_z (n : Nat) : z_bn n 0 = 1 := by cases n <;> rfl
theorem z_bn_s (n k : Nat) : z_bn (n + 1) (k + 1) = z_bn n k + z_bn n (k + 1) := rfl
theorem z_bn_0 : ∀ n k, n < k → z_bn n k = 0
  | 0, 0, h => absurd h (Nat.lt_irrefl 0)
  | 0, k + 1, _ => rfl
  | n + 1, 0, h => absurd h (Nat.not_lt_zero _)
  | n + 1, k + 1, h => by rw [z_bn_s, z_bn_0 n k (by omega), z_bn_0 n (k + 1) (by omega)]
theorem z_bn_mul : ∀ n k, z_bn n (k + 1) * (k + 1) = z_bn n k * (n - k)
  | 0, 0 => rfl
  | 0, k + 1 => by rw [z_bn_0 0 (k + 1 + 1) (by omega), z_bn_0 0 (k + 1) (by omega)]; simp
  | n + 1, 0 => by
    have ih := z_bn_mul n 0
    rw [z_bn_z] at ih
    rw [z_bn_s, z_bn_z, z_bn_z]
    omega
  | n + 1, j + 1 => by
    have i1 := z_bn_mul n j
    have i2 := z_bn_mul n (j + 1)
    rw [z_bn_s, z_bn_s n j, Nat.add_mul, i2]
    by_cases h : j + 1 ≤ n
    · have e1 : z_bn n (j + 1) * (j + 1 + 1) + z_bn n (j + 1) * (n - (j + 1)) = z_bn n (j + 1) * (n + 1) := by
        rw [← Nat.mul_add]
        congr 1
        omega
      have e2 : n + 1 - (j + 1) = n - j := by omega
      rw [e1, e2, Nat.add_mul, ← i1, ← Nat.mul_add]
      congr 1
      omega
    · rw [z_bn_0 n (j + 1) (by omega), show n + 1 - (j + 1) = 0 by omega]
      simp
theorem z_bn_up : ∀ n k, z_bn n k ≤ z_bn (n + 1) k
  | n, 0 => by rw [z_bn_z, z_bn_z]; exact Nat.le_refl _
  | n, k + 1 => by rw [z_bn_s]; omega
theorem z_bn_mono {m k : Nat} : ∀ n, m ≤ n → z_bn m k ≤ z_bn n k
  | 0, h => by rw [show m = 0 by omega]; exact Nat.le_refl _
  | n + 1, h => by
    by_cases e : m = n + 1
    · rw [e]; exact Nat.le_refl _
    · exact Nat.le_trans (z_bn_mono n (by omega)) (z_bn_up n k)
theorem z_bn_c (n : Nat) (hn : n = 1000) : z_bn n 0 = 1 ∧ z_bn n 1 < 2 ^ 63 ∧ z_bn n 2 < 2 ^ 63 ∧ z_bn n 3 < 2 ^ 63 ∧ z_bn n 4 < 2 ^ 63 ∧ z_bn n 5 < 2 ^ 63 ∧ z_bn n 6 < 2 ^ 63 ∧ z_bn n 7 < 2 ^ 63 := by
  have h0 : z_bn n 0 = 1 := z_bn_z n
  have h1 : z_bn n 1 * 1 = z_bn n 0 * 1000 := by have := z_bn_mul n 0; rwa [show n - 0 = 1000 by omega] at this
  have h2 : z_bn n 2 * 2 = z_bn n 1 * 999 := by have := z_bn_mul n 1; rwa [show n - 1 = 999 by omega] at this
  have h3 : z_bn n 3 * 3 = z_bn n 2 * 998 := by have := z_bn_mul n 2; rwa [show n - 2 = 998 by omega] at this
  have h4 : z_bn n 4 * 4 = z_bn n 3 * 997 := by have := z_bn_mul n 3; rwa [show n - 3 = 997 by omega] at this
  have h5 : z_bn n 5 * 5 = z_bn n 4 * 996 := by have := z_bn_mul n 4; rwa [show n - 4 = 996 by omega] at this
  have h6 : z_bn n 6 * 6 = z_bn n 5 * 995 := by have := z_bn_mul n 5; rwa [show n - 5 = 995 by omega] at this
  have h7 : z_bn n 7 * 7 = z_bn n 6 * 994 := by have := z_bn_mul n 6; rwa [show n - 6 = 994 by omega] at this
  refine ⟨h0, ?_, ?_, ?_, ?_, ?_, ?_, ?_⟩ <;> omega
theorem z_bn_big {n k : Nat} (hn : n ≤ 1000) (hk : k ≤ 7) : z_bn n k < 2 ^ 63 := by
  obtain ⟨m, hm⟩ : ∃ m, m = 1000 := ⟨1000, rfl⟩
  have h := z_bn_mono (k := k) m (show n ≤ m by omega)
  obtain ⟨c0, c1, c2, c3, c4, c5, c6, c7⟩ := z_bn_c m hm
  have : k = 0 ∨ k = 1 ∨ k = 2 ∨ k = 3 ∨ k = 4 ∨ k = 5 ∨ k = 6 ∨ k = 7 := by omega
  rcases this with e | e | e | e | e | e | e | e <;> subst e <;> omega
/-! sums -/
theorem z_sm_mul (c : Nat) (f : Nat → Nat) : ∀ n, fb_sm (fun k => c * f k) n = c * fb_sm f n
  | 0 => rfl
  | n + 1 => by rw [fb_sm_succ, fb_sm_succ, z_sm_mul c f n, Nat.mul_add]
theorem z_sm_0 (f : Nat → Nat) (h : ∀ k, f k = 0) : ∀ n, fb_sm f n = 0
  | 0 => rfl
  | n + 1 => by rw [fb_sm_succ, z_sm_0 f h n, h n]
theorem z_sm_ex (f : Nat → Nat → Nat) (n : Nat) : ∀ m, fb_sm (fun y => fb_sm (fun k => f y k) n) m = fb_sm (fun k => fb_sm (fun y => f y k) m) n
  | 0 => by
    show 0 = fb_sm (fun k => 0) n
    rw [z_sm_0 _ (fun _ => rfl)]
  | m + 1 => by
    rw [fb_sm_succ, z_sm_ex f n m, ← fb_sm_add]
    rfl
theorem z_sm_one (g : Nat → Nat) {x : Nat} : ∀ n, x < n → fb_sm (fun y => if y = x then g y else 0) n = g x
  | 0, h => absurd h (Nat.not_lt_zero x)
  | n + 1, h => by
    rw [fb_sm_succ]
    by_cases e : x = n
    · subst e
      rw [if_pos rfl]
      have : fb_sm (fun y => if y = x then g y else 0) x = fb_sm (fun _ => 0) x := fb_sm_cong (fun k hk => if_neg (by omega))
      rw [this, z_sm_0 _ (fun _ => rfl), Nat.zero_add]
    · rw [z_sm_one g n (by omega), if_neg (by omega), Nat.add_zero]
def z_zt (P : z_P) (W a : Nat) : Nat → Nat → Nat
  | 0, x => if x = a then 1 else 0
  | n + 1, x => fb_sm (fun y => if (W &&& z_dn P x).testBit y then z_zt P W a n y else 0) 9
theorem z_zt_eq (hw : z_wf P) {W a : Nat} : ∀ n x, x < 9 → W.testBit x = true → z_zt P W a n x = fb_sm (fun k => z_bn n k * z_wk P W a k x) 9
  | 0, x, hx, hWx => by
    rw [z_zt]
    have e : fb_sm (fun k => z_bn 0 k * z_wk P W a k x) 9 = fb_sm (fun k => if k = 0 then z_wk P W a k x else 0) 9 := fb_sm_cong (fun k _ => by
      by_cases h : k = 0
      · subst h; simp [z_bn_z]
      · rw [z_bn_0 0 k (by omega), if_neg h]; simp)
    rw [e, z_sm_one (fun k => z_wk P W a k x) 9 (by decide)]
    rfl
  | n + 1, x, hx, hWx => by
    rw [z_zt]
    have e1 : fb_sm (fun y => if (W &&& z_dn P x).testBit y then z_zt P W a n y else 0) 9 = fb_sm (fun y => (if y = x then z_zt P W a n y else 0) + (if (z_un P x &&& W).testBit y then z_zt P W a n y else 0)) 9 := fb_sm_cong (fun y hy => by
      rw [Nat.testBit_and, z_dn_bit P hy, Nat.testBit_and, z_un_bit P hy]
      by_cases e : y = x
      · subst e
        simp [hWx, hw.irr y hy]
      · cases W.testBit y <;> cases (z_ab P y).testBit x <;> simp [e])
    rw [e1, fb_sm_add, z_sm_one (fun y => z_zt P W a n y) 9 hx, z_zt_eq hw n x hx hWx]
    have e2 : fb_sm (fun y => if (z_un P x &&& W).testBit y then z_zt P W a n y else 0) 9 = fb_sm (fun y => fb_sm (fun k => z_bn n k * (if (z_un P x &&& W).testBit y then z_wk P W a k y else 0)) 9) 9 := fb_sm_cong (fun y hy => by
      by_cases hb : (z_un P x &&& W).testBit y = true
      · have hb' := hb
        rw [Nat.testBit_and, Bool.and_eq_true] at hb'
        rw [if_pos hb, z_zt_eq hw n y hy hb'.2]
        exact fb_sm_cong (fun k _ => by rw [if_pos hb])
      · rw [if_neg hb, z_sm_0]
        intro k
        rw [if_neg hb, Nat.mul_zero])
    have e3 : fb_sm (fun y => fb_sm (fun k => z_bn n k * (if (z_un P x &&& W).testBit y then z_wk P W a k y else 0)) 9) 9 = fb_sm (fun k => z_bn n k * z_wk P W a (k + 1) x) 9 := by
      rw [z_sm_ex (fun y k => z_bn n k * (if (z_un P x &&& W).testBit y then z_wk P W a k y else 0)) 9 9]
      refine fb_sm_cong (fun k _ => ?_)
      rw [z_sm_mul (z_bn n k) (fun y => if (z_un P x &&& W).testBit y then z_wk P W a k y else 0) 9]
      rfl
    rw [e2, e3]
    have h9 : z_wk P W a 9 x = 0 := z_wk_9 hw W a (Nat.le_refl 9) hx
    simp only [fb_sm, Nat.zero_add, Nat.reduceAdd, z_bn_z, z_bn_s, h9]
    simp only [Nat.add_mul, Nat.reduceAdd, Nat.zero_add, Nat.mul_zero, Nat.one_mul]
    omega
def z_sv (v : Nat) : Int64 := if v < 2 ^ 63 then lN v else -1
theorem z_sv_lo {v : Nat} (h : v < 2 ^ 63) : z_sv v = lN v := if_pos h
theorem z_sv_hi {v : Nat} (h : ¬ v < 2 ^ 63) : z_sv v = -1 := if_neg h
theorem z_cmp_le0 (x y : Int64) : (lg_cmp x y ≤ 0) = (x.toInt ≤ y.toInt) := by
  have h := z_cmp_pos x y
  apply propext
  rw [← Int32.not_lt, h]
  omega
theorem z_cmp_ge0 (x y : Int64) : (0 ≤ lg_cmp x y) = (y.toInt ≤ x.toInt) := by
  have h := z_cmp_neg x y
  apply propext
  rw [← Int32.not_lt, h]
  omega
theorem z_MX : (9223372036854775807 : Int64) = lN (2 ^ 63 - 1) := rfl
theorem z_0t : (0 : Int64).toInt = 0 := rfl
theorem z_m1t : (-1 : Int64).toInt = -1 := rfl
theorem s10_plus (a b : Nat) : f_X10_plus (z_sv a) (z_sv b) = some (z_sv (a + b)) := by
  unfold f_X10_plus
  by_cases ha : a < 2 ^ 63
  · by_cases hb : b < 2 ^ 63
    · rw [z_sv_lo ha, z_sv_lo hb, z_MX, lN_sub (by omega)]
      simp only [z_cmp_neg, z_cmp_le0, pk_lT ha, pk_lT hb, z_0t, pk_lT (show 2 ^ 63 - 1 - b < 2 ^ 63 by omega)]
      rw [if_neg (by omega), if_neg (by omega)]
      by_cases hc : a + b < 2 ^ 63
      · rw [if_pos (by omega), z_sv_lo hc, lN_add]
      · rw [if_neg (by omega), z_sv_hi hc]
    · rw [z_sv_lo ha, z_sv_hi hb, z_sv_hi (show ¬ a + b < 2 ^ 63 by omega)]
      simp only [z_cmp_neg, pk_lT ha, z_0t, z_m1t]
      rw [if_neg (by omega), if_pos (by omega)]
  · rw [z_sv_hi ha, z_sv_hi (show ¬ a + b < 2 ^ 63 by omega)]
    simp only [z_cmp_neg, z_0t, z_m1t]
    rw [if_pos (by omega)]
theorem z_tmI (n : Nat) (hn : n ≤ 1000) {k : Nat} (hk : k ≤ n) : (nI n - nI k + 1).toInt64 = lN (n - k + 1) := by
  have e : nI n - nI k + 1 = nI (n - k + 1) := by
    have h : nI n = nI (n - k) + nI k := by rw [z_addI, Nat.sub_add_cancel hk]
    rw [h, ← nI_1]
    grind
  rw [e, nI_l (by omega)]
theorem z_tmn : ∀ k, k < 9 → ∀ n, n < k → ¬ 0 ≤ lg_cmp (nI n - nI k + 1).toInt64 1 := by decide +kernel
theorem s8_nextChoice {n k : Nat} (hn : n ≤ 1000) (hk : k < 8) : f_X8_nextChoice (z_sv (z_bn n k)) (nI n) (nI (k + 1)) = some (z_sv (z_bn n (k + 1))) := by
  have hA := z_bn_big hn (show k ≤ 7 by omega)
  unfold f_X8_nextChoice
  rw [z_lt, if_neg (show ¬ nI (k + 1) < 1 from nI_nlt (a := k + 1) (b := 1) (by omega) (by omega)), z_sv_lo hA]
  by_cases hkn : k + 1 ≤ n
  · have hmul := z_bn_mul n k
    have ht : n - (k + 1) + 1 = n - k := by omega
    have hr : z_bn n k % (k + 1) < k + 1 := Nat.mod_lt _ (by omega)
    have hrt : z_bn n k % (k + 1) * (n - k) ≤ 8 * 1000 := Nat.mul_le_mul (by omega) (by omega)
    have hrest : z_bn n k % (k + 1) * (n - k) / (k + 1) ≤ 8000 := Nat.le_trans (Nat.div_le_self _ _) hrt
    have hwh : z_bn n k / (k + 1) < 2 ^ 63 := Nat.lt_of_le_of_lt (Nat.div_le_self _ _) hA
    have hval : z_bn n k / (k + 1) * (n - k) + z_bn n k % (k + 1) * (n - k) / (k + 1) = z_bn n (k + 1) := by
      have hd : z_bn n k = (k + 1) * (z_bn n k / (k + 1)) + z_bn n k % (k + 1) := (Nat.div_add_mod _ _).symm
      have h2 : z_bn n (k + 1) = z_bn n k * (n - k) / (k + 1) := by rw [← hmul, Nat.mul_div_cancel _ (by omega)]
      have h3 : z_bn n k * (n - k) = (k + 1) * (z_bn n k / (k + 1) * (n - k)) + z_bn n k % (k + 1) * (n - k) := by
        conv => lhs; rw [hd]
        rw [Nat.add_mul, Nat.mul_assoc]
      rw [h2, h3, Nat.mul_add_div (by omega)]
    have hne : ¬ lN (k + 1) = (0 : Int64) := by
      rw [show (0 : Int64) = lN 0 from rfl, pk_lEQ (by omega) (by decide)]
      omega
    have hne2 : ¬ lN (n - k) = (0 : Int64) := by
      rw [show (0 : Int64) = lN 0 from rfl, pk_lEQ (by omega) (by decide)]
      omega
    rw [z_tmI n hn hkn, ht, nI_l (show k + 1 < 2 ^ 31 by omega)]
    rw [if_pos (by rw [z_cmp_ge0, pk_lT (by omega), show (1 : Int64).toInt = 1 from rfl]; omega)]
    rw [if_pos (by rw [z_cmp_ge0, pk_lT hA, z_0t]; omega)]
    rw [pk_lRem hA (by omega) (by omega), lN_mul, pk_lDiv (by omega) (by omega) (by omega), pk_lDiv hA (by omega) (by omega)]
    simp only [hne, hne2, not_false_iff, decide_true, z_gd, if_true, z_lt]
    have hM : 2 ^ 63 - 1 - z_bn n k % (k + 1) * (n - k) / (k + 1) < 2 ^ 63 := Nat.lt_of_le_of_lt (Nat.sub_le _ _) (by decide)
    have hD : (2 ^ 63 - 1 - z_bn n k % (k + 1) * (n - k) / (k + 1)) / (n - k) < 2 ^ 63 := Nat.lt_of_le_of_lt (Nat.div_le_self _ _) hM
    have hR : z_bn n k % (k + 1) * (n - k) / (k + 1) ≤ 2 ^ 63 - 1 := Nat.le_trans hrest (by decide)
    have hcmp : (lg_cmp (lN (z_bn n k / (k + 1))) (lN ((2 ^ 63 - 1 - z_bn n k % (k + 1) * (n - k) / (k + 1)) / (n - k))) ≤ 0) = (z_bn n k / (k + 1) * (n - k) ≤ 2 ^ 63 - 1 - z_bn n k % (k + 1) * (n - k) / (k + 1)) := by
      rw [z_cmp_le0, pk_lT hwh, pk_lT hD, ← Nat.le_div_iff_mul_le (show 0 < n - k by omega)]
      exact propext Int.ofNat_le
    rw [z_MX, lN_sub hR, pk_lDiv hM (by omega) (by omega), lN_mul, lN_add, hval]
    by_cases hc : z_bn n (k + 1) < 2 ^ 63
    · rw [if_pos, z_sv_lo hc]
      rw [hcmp]
      omega
    · rw [if_neg, z_sv_hi hc]
      rw [hcmp]
      omega
  · rw [if_neg (z_tmn (k + 1) (by omega) n (by omega)), z_bn_0 n (k + 1) (by omega)]
    rfl
theorem s8_zetaOf {b n : Nat} (hb : b < 9) (hn : n ≤ 1000) {f : Nat → Nat} (h : ∀ k, k < 9 → u.1 129 (9 * b + k) = nI (f k) ∧ f k < 2 ^ 31) : f_X8_zetaOf (nI b) (nI n) u = some (z_sv (fb_sm (fun k => z_bn n k * f k) 9)) := by
  rw [← z_ok_eq]
  unfold f_X8_zetaOf
  refine z_ok_l9 (fun k q => q.2.2 = nI k ∧ fb_sm (fun k => z_bn n k * f k) k < 2 ^ 63 ∧ q.1 = lN (fb_sm (fun k => z_bn n k * f k) k) ∧ q.2.1 = if k = 0 then 1 else z_sv (z_bn n (k - 1))) ⟨rfl, (by show 0 < 2 ^ 63; decide), rfl, rfl⟩ ?_ ?_
  · rintro k ⟨t, wy, kk⟩ hk ⟨e1, e2, e3, e4⟩ kb hkb
    try dsimp only at e1 e3 e4
    subst e1 e3
    have hmon : fb_sm (fun k => z_bn n k * f k) k + z_bn n k * f k ≤ fb_sm (fun k => z_bn n k * f k) 9 := fb_sm_part _ hk
    have hj : z_ok (j_X8_zetaOf_j30 (nI b) (nI n) (lN (fb_sm (fun k => z_bn n k * f k) k)) (z_sv (z_bn n k)) (nI k) u kb (fun t10 => some t10)) (fun y => y = z_sv (fb_sm (fun k => z_bn n k * f k) 9)) := by
      obtain ⟨h1, h2⟩ := h k hk
      unfold j_X8_zetaOf_j30
      rw [s8_walksTo hb (nI k) (fun k hk => (h k hk).1), Option.bind_some, if_neg (show ¬ nI k < 0 from nI_pos (by omega)), if_neg (show ¬ (9 : Int32) ≤ nI k by rw [z_le9 hk]; exact id), z_c9 hk, z_ok_ite]
      refine ⟨fun h0 => ?_, fun h0 => ?_⟩
      · have hf0 : f k = 0 := (z_nI0 h2).mp h0
        refine hkb _ ⟨z_1 k, ?_, ?_, ?_⟩
        · rw [fb_sm_succ, hf0]; omega
        · rw [fb_sm_succ, hf0]; rfl
        · rw [if_neg (by omega), Nat.add_sub_cancel]
      · have hf0 : 0 < f k := Nat.pos_of_ne_zero (fun e => h0 (by rw [e]; rfl))
        have hge : z_bn n k ≤ z_bn n k * f k := Nat.le_mul_of_pos_right _ hf0
        by_cases hbn : z_bn n k < 2 ^ 63
        · rw [z_sv_lo hbn, nI_l h2, if_neg (by rw [z_cmp_neg, pk_lT hbn, z_0t]; omega), z_ok_gd]
          refine ⟨?_, ?_⟩
          · rw [decide_eq_true_iff, show (0 : Int64) = lN 0 from rfl, pk_lEQ (by omega) (by decide)]
            omega
          · have hM : 2 ^ 63 - 1 - fb_sm (fun k => z_bn n k * f k) k < 2 ^ 63 := Nat.lt_of_le_of_lt (Nat.sub_le _ _) (by decide)
            have hD : (2 ^ 63 - 1 - fb_sm (fun k => z_bn n k * f k) k) / f k < 2 ^ 63 := Nat.lt_of_le_of_lt (Nat.div_le_self _ _) hM
            have hcmp : (lg_cmp (lN (z_bn n k)) (lN ((2 ^ 63 - 1 - fb_sm (fun k => z_bn n k * f k) k) / f k)) ≤ 0) = (z_bn n k * f k ≤ 2 ^ 63 - 1 - fb_sm (fun k => z_bn n k * f k) k) := by
              rw [z_cmp_le0, pk_lT hbn, pk_lT hD, ← Nat.le_div_iff_mul_le hf0]
              exact propext Int.ofNat_le
            rw [z_MX, lN_sub (show fb_sm (fun k => z_bn n k * f k) k ≤ 2 ^ 63 - 1 by omega), pk_lDiv hM hf0 (by omega), z_ok_ite, hcmp, z_ok_lt, lN_mul, lN_add]
            refine ⟨fun hc => hkb _ ⟨z_1 k, ?_, rfl, ?_⟩, fun hc => ?_⟩
            · rw [fb_sm_succ]
              omega
            · rw [if_neg (by omega), Nat.add_sub_cancel, z_sv_lo hbn]
            · rw [z_ok_some, z_sv_hi (by omega)]
        · rw [z_sv_hi hbn, if_pos (by rw [z_cmp_neg, z_m1t, z_0t]; omega), z_ok_some, z_sv_hi (by omega)]
    unfold b_X8_zetaOf_8
    try dsimp only
    rw [if_neg (show ¬ (8 : Int32) < nI k from nI_nlt (a := 8) (b := k) (by omega) (by decide))]
    by_cases h0 : k = 0
    · subst h0
      rw [if_pos (by decide)]
      rw [if_pos rfl] at e4
      rw [e4]
      have e : z_sv (z_bn n 0) = 1 := by rw [z_bn_z]; rfl
      rw [e] at hj
      exact hj
    · obtain ⟨j, rfl⟩ : ∃ j, k = j + 1 := ⟨k - 1, by omega⟩
      rw [if_neg (nI_nle (by omega) (by omega))]
      rw [if_neg h0, Nat.add_sub_cancel] at e4
      rw [e4, s8_nextChoice hn (by omega), Option.bind_some]
      exact hj
  · rintro ⟨t, wy, kk⟩ ⟨e1, e2, e3, e4⟩ kb
    try dsimp only at e1 e3 e4
    subst e1 e3
    unfold b_X8_zetaOf_8
    try dsimp only
    rw [if_pos (by decide), z_ok_some, z_sv_lo e2]
/-! the reference's -/
theorem z_sL_2 (u : z_M) (i k : Nat) (v : Int64) (j l : Nat) : (z_sL u i k v).2 j l = if i = j ∧ k = l then v else u.2 j l := by
  unfold z_sL va_up vp_updL
  try dsimp only
  by_cases h : j = i
  · subst h
    by_cases h2 : l = k
    · subst h2; simp
    · have : ¬ k = l := fun e => h2 e.symm
      simp [h2, this]
  · have : ¬ i = j := fun e => h e.symm
    simp [h, this]
def z_zT (P : z_P) (W a n x : Nat) : Nat := if W.testBit x then z_zt P W a n x else 0
def z_zK (w : z_M) (P : z_P) (W a n : Nat) (v : z_M) : Prop := v.1 = w.1 ∧ ∀ x, x < 9 → v.2 15 x = z_sv (z_zT P W a n x)
theorem s10_zeta_rnd (hr : z_rr (w.1 1) P) (hw : z_wf P) {W a n : Nat} (hW : W < 512) (hWt : ∀ x, x < 9 → W.testBit x = true → (z_th P).testBit x = true) {v : z_M} (hK : z_zK w P W a n v) {c1 c2 c3 : Int32} {kx : z_M → Option (Int64 × z_M)} {Q : (Int64 × z_M) → Prop} (hk : ∀ v', z_zK w P W a (n + 1) v' → z_ok (kx v') Q) : z_ok (z_lp (b_X10_zeta_92 c1 c2 (nI W) c3) z_F (0, v) (fun t32 => z_lp (b_X10_zeta_193 c1 c2 (nI W) c3) z_F (0, t32) kx)) Q := by
  obtain ⟨k1, k2⟩ := hK
  refine z_ok_l9 (fun j q => q.1 = nI j ∧ q.2.1 = w.1 ∧ (∀ x, q.2.2 15 x = v.2 15 x) ∧ ∀ x, x < j → q.2.2 16 x = z_sv (z_zT P W a (n + 1) x)) ⟨rfl, k1, fun _ => rfl, fun x hx => absurd hx (by omega)⟩ ?_ ?_
  · rintro x ⟨xx, v1⟩ hx ⟨e1, e2, e2', e3⟩ kb hkb
    try dsimp only at e1 e2 e2' e3
    subst e1
    unfold b_X10_zeta_92
    simp only [z_le9 hx, if_false, z_ok_gd, z_in9 hx, true_and, z_ok_lt, z_c9 hx]
    have hend : ∀ v2 : z_M, v2.1 = w.1 → (∀ z, v2.2 15 z = v.2 15 z) → (∀ z, z ≠ x → v2.2 16 z = v1.2 16 z) → v2.2 16 x = z_sv (z_zT P W a (n + 1) x) → z_ok (kb (nI x + 1, v2)) Q := by
      intro v2 g1 g1' g2 g3
      rw [z_1]
      refine hkb _ ⟨rfl, g1, g1', fun z hz => ?_⟩
      try dsimp only
      by_cases e : z = x
      · subst e; exact g3
      · rw [g2 z e]; exact e3 z (by omega)
    have h0 : (z_sL v1 16 x 0).2 16 x = z_sv 0 := by rw [z_sL_2]; simp; rfl
    have hz15 : ∀ z, (z_sL v1 16 x 0).2 15 z = v.2 15 z := fun z => by rw [z_sL_2]; simp [e2' z]
    have hz16 : ∀ z, z ≠ x → (z_sL v1 16 x 0).2 16 z = v1.2 16 z := fun z hz => by rw [z_sL_2]; simp [Ne.symm hz]
    cases hWx : W.testBit x
    · refine z_ok_l9 (fun j q => j = 0 ∧ q = (0, z_sL v1 16 x 0)) ⟨rfl, rfl⟩ ?_ ?_
      · rintro j q hj ⟨rfl, rfl⟩ kb' hk'
        unfold b_X10_zeta_110
        simp only [show ((9 : Int32) ≤ 0) = False by decide, if_false, s_has (z_31 hW) hx, hWx, Option.bind_some, show (z_bi false = 0) = True by decide, if_true]
        refine hend _ e2 hz15 hz16 ?_
        rw [h0, z_zT, hWx]
        rfl
      · rintro q ⟨h, -⟩
        cases h
    · have tx := hWt x hx hWx
      refine z_ok_l9 (fun y q => q.1 = nI y ∧ q.2.1 = w.1 ∧ (∀ z, q.2.2 15 z = v.2 15 z) ∧ (∀ z, z ≠ x → q.2.2 16 z = v1.2 16 z) ∧ q.2.2 16 x = z_sv (fb_sm (fun y => if (W &&& z_dn P x).testBit y then z_zT P W a n y else 0) y)) ⟨rfl, e2, hz15, hz16, h0⟩ ?_ ?_
      · rintro y ⟨yy, v2⟩ hy ⟨f1, f2, f2', f3, f4⟩ kb' hk'
        try dsimp only at f1 f2 f2' f3 f4
        subst f1
        have hrv : z_rr (v2.1 1) P := by rw [f2]; exact hr
        have e15 : v2.2 15 y = z_sv (z_zT P W a n y) := by rw [f2' y]; exact k2 y hy
        unfold b_X10_zeta_110
        simp only [z_le9 hy, if_false, s_has (z_31 hW) hx, hWx, Option.bind_some, show (z_bi true = 0) = False by decide, s10_downTo hrv hw hx tx, z_and, s_has (z_31 (z_and_lt (z_dn P x) hW)) hy, z_ok_bit, z_ok_gd, z_in9 hx, z_in9 hy, true_and, z_ok_lt, z_gL, z_c9 hx, z_c9 hy, f4, e15, s10_plus, z_1]
        refine ⟨fun hb => hk' _ ⟨rfl, f2, fun z => ?_, fun z hz => ?_, ?_⟩, fun hb => hk' _ ⟨rfl, f2, fun z => ?_, fun z hz => ?_, ?_⟩⟩
        · try dsimp only
          rw [z_sL_2]; simp [f2' z]
        · try dsimp only
          rw [z_sL_2]; simp [Ne.symm hz, f3 z hz]
        · try dsimp only
          rw [z_sL_2, if_pos ⟨rfl, rfl⟩, fb_sm_succ]; simp [hb]
        · try dsimp only
          rw [z_sL_2]; simp [f2' z]
        · try dsimp only
          rw [z_sL_2]; simp [Ne.symm hz, f3 z hz]
        · try dsimp only
          rw [z_sL_2, if_pos ⟨rfl, rfl⟩, fb_sm_succ]; simp [hb]
      · rintro ⟨yy, v2⟩ ⟨f1, f2, f2', f3, f4⟩ kb'
        try dsimp only at f1 f2 f2' f3 f4
        subst f1
        unfold b_X10_zeta_110
        simp only [z_99, if_true]
        refine hend v2 f2 f2' f3 ?_
        rw [f4, z_zT, hWx, if_pos rfl, z_zt]
        congr 1
        refine fb_sm_cong (fun y _ => ?_)
        rw [Nat.testBit_and]
        unfold z_zT
        cases W.testBit y <;> simp
  · rintro ⟨xx, v1⟩ ⟨e1, e2, e2', e3⟩ kb
    try dsimp only at e1 e2 e2' e3
    subst e1
    unfold b_X10_zeta_92
    simp only [z_99, if_true]
    refine z_ok_l9 (fun j q => q.1 = nI j ∧ q.2.1 = w.1 ∧ (∀ z, q.2.2 16 z = v1.2 16 z) ∧ ∀ x, x < j → q.2.2 15 x = z_sv (z_zT P W a (n + 1) x)) ⟨rfl, e2, fun _ => rfl, fun x hx => absurd hx (by omega)⟩ ?_ ?_
    · rintro x ⟨xx, v2⟩ hx ⟨f1, f2, f2', f3⟩ kb' hk'
      try dsimp only at f1 f2 f2' f3
      subst f1
      have e16 : v2.2 16 x = z_sv (z_zT P W a (n + 1) x) := by rw [f2' x]; exact e3 x hx
      unfold b_X10_zeta_193
      simp only [z_le9 hx, if_false, z_ok_gd, z_in9 hx, true_and, z_ok_lt, z_gL, z_c9 hx, e16, z_1]
      refine hk' _ ⟨rfl, f2, fun z => ?_, fun z hz => ?_⟩
      · try dsimp only
        rw [z_sL_2]; simp [f2' z]
      · try dsimp only
        rw [z_sL_2]
        by_cases e : x = z
        · subst e; simp
        · simp [e, f3 z (by omega)]
    · rintro ⟨xx, v2⟩ ⟨f1, f2, f2', f3⟩ kb'
      try dsimp only at f1 f2 f2' f3
      subst f1
      unfold b_X10_zeta_193
      simp only [z_99, if_true]
      exact hk v2 ⟨f2, f3⟩
theorem z_isIn1k (a : Int32) : f_X10_isIn a.toInt64 1 1000 = some (z_bi (decide (¬ a < 1) && decide (a ≤ 1000))) := by
  rw [s10_isIn, z_i64]
  have e0 : (1 : Int64).toInt = 1 := rfl
  have e0' : (1000 : Int64).toInt = 1000 := rfl
  have e1 : (1 : Int32).toInt = 1 := rfl
  have e2 : (1000 : Int32).toInt = 1000 := rfl
  have h1 : (¬ a < 1) = (1 ≤ a.toInt) := by
    apply propext
    rw [Int32.lt_iff_toInt_lt, e1]
    omega
  have h2 : (a ≤ 1000) = (a.toInt ≤ 1000) := by
    apply propext
    rw [Int32.le_iff_toInt_le, e2]
  simp only [e0, e0', h1, h2]
theorem p_zeta : z_S_zeta z_Inv := by
  intro a1 a2 a3 u w hI
  refine z_rd2 hI (fun P hw hc hr pm => ?_)
  have hr' := z_rr0 hr 0
  unfold f_X9_zeta f_X10_zeta j_X10_zeta_j27
  by_cases h3 : a3 < 1
  · refine ⟨-1, ?_, ?_⟩
    · rw [if_pos h3, z_ok_some]
      exact ⟨rfl, z_eC.rf pm⟩
    · rw [z_ok_lt, z_isIn1k, Option.bind_some, if_pos (by simp [h3, z_bi]), if_neg (by decide), z_ok_some]
      exact ⟨rfl, z_eR0 w⟩
  by_cases h4 : a3 ≤ 1000
  · have h3z : ¬ a3 < 0 := by
      rw [Int32.lt_iff_toInt_lt] at h3 ⊢
      have e1 : (1 : Int32).toInt = 1 := rfl
      have e0 : (0 : Int32).toInt = 0 := rfl
      omega
    obtain ⟨n, hn, rfl⟩ := nI_of2 (n := 1000) rfl h3z h4
    rw [if_neg h3, if_pos h4, s9_troubleOf hc hw, Option.bind_some, z_lt, z_isIn1k, Option.bind_some, if_neg (show ¬ z_bi (decide (¬ nI n < 1) && decide (nI n ≤ 1000)) = 0 by simp [h3, h4, z_bi]), s10_refusal hr' hw, Option.bind_some]
    rcases z_tr_cases P hw a1 a2 with h | h | ⟨h, x, y, hx, hy, rfl, rfl, tx, ty, hxy⟩
    · refine ⟨-1, ?_, ?_⟩
      · rw [h, if_neg (by decide), z_ok_some]
        exact ⟨rfl, z_eC.rf pm⟩
      · rw [h, if_neg (by decide), z_ok_some]
        exact ⟨rfl, z_eR0 w⟩
    · refine ⟨-2, ?_, ?_⟩
      · rw [h, if_neg (by decide), z_ok_some]
        exact ⟨rfl, z_eC.rf pm⟩
      · rw [h, if_neg (by decide), z_ok_some]
        exact ⟨rfl, z_eR0 w⟩
    · have hbt := z_bt_lt hw hx (b := y)
      have hWt : ∀ k, k < 9 → (z_bt P x y).testBit k = true → (z_th P).testBit k = true := fun k hk hb => z_bt_in hw hx tx hk hb
      have hWx : (z_bt P x y).testBit x = true := by
        rw [z_bt_bit hx]
        rcases hxy with h | h <;> simp [h]
      obtain ⟨u1, q1, q2, q3⟩ := s8_walk hc hw hbt hx
      have hz := s8_zetaOf (u := u1) hy hn (f := fun k => z_wk P (z_bt P x y) x k y) (fun k hk => ⟨q3 y hy ty (z_bt_b hy hxy) k hk, z_wk_8 _ _ (by omega) _⟩)
      have hze := z_zt_eq hw (W := z_bt P x y) (a := x) n y hy (z_bt_b hy hxy)
      rw [← hze] at hz
      refine ⟨if z_zt P (z_bt P x y) x n y < 2 ^ 63 then lN (z_zt P (z_bt P x y) x n y) else -3, ?_, ?_⟩
      · rw [h, if_pos rfl, s6_between hc hw hx hy tx ty, Option.bind_some, q1, Option.bind_some, hz, Option.bind_some]
        have hC : z_eC u u1 := z_eC.of pm (fun j hj => q2 j (by omega) (by omega))
        by_cases hb : z_zt P (z_bt P x y) x n y < 2 ^ 63
        · rw [if_pos hb, z_sv_lo hb, if_pos (by rw [z_cmp_ge0, pk_lT hb, z_0t]; omega), z_ok_some]
          exact ⟨rfl, hC⟩
        · rw [if_neg hb, z_sv_hi hb, if_neg (by rw [z_cmp_ge0, z_m1t, z_0t]; omega), z_ok_some]
          exact ⟨rfl, hC⟩
      · rw [h, if_pos (by decide), s10_between hr' hw hx hy tx ty, Option.bind_some]
        refine z_ok_l9 (fun j q => q.1 = nI j ∧ q.2.1 = (z_sI w 0 0 0).1 ∧ ∀ z, z < j → q.2.2 15 z = z_sv (z_zT P (z_bt P x y) x 0 z)) ⟨rfl, rfl, fun x hx => absurd hx (by omega)⟩ ?_ ?_
        · rintro j ⟨jj, v⟩ hi ⟨e1, e2, e3⟩ kb hkb
          try dsimp only at e1 e2 e3
          subst e1
          unfold b_X10_zeta_49
          have ea : (nI j = nI x) = (j = x) := z_eqI (by omega) (by omega)
          simp only [z_le9 hi, if_false, ea, z_ok_ite, z_ok_gd, z_in9 hi, true_and, z_ok_lt, z_c9 hi, z_1]
          refine ⟨fun h => hkb _ ⟨rfl, e2, fun z hz => ?_⟩, fun h => hkb _ ⟨rfl, e2, fun z hz => ?_⟩⟩
          · try dsimp only
            rw [z_sL_2]
            by_cases e : j = z
            · subst e; rw [if_pos ⟨rfl, rfl⟩, z_zT, h, hWx, z_zt]; simp; rfl
            · rw [if_neg (fun h => e h.2)]; exact e3 z (by omega)
          · try dsimp only
            rw [z_sL_2]
            by_cases e : j = z
            · subst e; rw [if_pos ⟨rfl, rfl⟩, z_zT, z_zt]; simp [h]; rfl
            · rw [if_neg (fun h => e h.2)]; exact e3 z (by omega)
        · rintro ⟨jj, v⟩ ⟨e1, e2, e3⟩ kb
          try dsimp only at e1 e2 e3
          subst e1
          unfold b_X10_zeta_49
          simp only [z_99, if_true]
          refine z_ok_lp (fun m q => q.1 = nI m ∧ z_zK (z_sI w 0 0 0) P (z_bt P x y) x m q.2) n (z_F_lt (by omega)) ⟨rfl, e2, e3⟩ ?_ ?_
          · rintro m ⟨mm, v1⟩ hm ⟨f1, f2⟩ kb' hkb'
            try dsimp only at f1 f2
            subst f1
            unfold b_X10_zeta_83
            try dsimp only
            rw [if_neg (nI_ge hm (by omega))]
            refine s10_zeta_rnd hr' hw hbt hWt f2 (fun v' hv' => ?_)
            rw [z_1]
            exact hkb' _ ⟨rfl, hv'⟩
          · rintro ⟨mm, v1⟩ ⟨f1, f2⟩ kb'
            try dsimp only at f1 f2
            subst f1
            unfold b_X10_zeta_83
            try dsimp only
            have hR : z_eR w v1 := z_eR.tr (z_eR0 w) (z_eR.of (fun k _ => by rw [f2.1]))
            have e15 : v1.2 15 y = z_sv (z_zt P (z_bt P x y) x n y) := by rw [f2.2 y hy, z_zT, z_bt_b hy hxy]; rfl
            rw [if_pos (nI_le (Nat.le_refl n) (by omega)), z_ok_gd, z_gL, z_c9 hy, e15]
            refine ⟨z_in9 hy, ?_⟩
            by_cases hb : z_zt P (z_bt P x y) x n y < 2 ^ 63
            · rw [if_pos hb, z_sv_lo hb, if_pos (by rw [z_cmp_ge0, pk_lT hb, z_0t]; omega), z_ok_gd, z_ok_some]
              exact ⟨z_in9 hy, rfl, hR⟩
            · rw [if_neg hb, z_sv_hi hb, if_neg (by rw [z_cmp_ge0, z_m1t, z_0t]; omega), z_ok_some]
              exact ⟨rfl, hR⟩
  · refine ⟨-1, ?_, ?_⟩
    · rw [if_neg h3, if_neg h4, z_ok_some]
      exact ⟨rfl, z_eC.rf pm⟩
    · rw [z_ok_lt, z_isIn1k, Option.bind_some, if_pos (by simp [h4, z_bi]), if_neg (by decide), z_ok_some]
      exact ⟨rfl, z_eR0 w⟩
end
