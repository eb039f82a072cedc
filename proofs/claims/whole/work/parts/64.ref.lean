section
theorem z_cmp_neg (x y : Int64) : (lg_cmp x y < 0) = (x.toInt < y.toInt) := by
  unfold lg_cmp
  have h5 : (y < x) = (y.toInt < x.toInt) := propext Int64.lt_iff_toInt_lt
  have h3 : (x = y) = (x.toInt = y.toInt) := propext Int64.toInt_inj.symm
  simp only [h5, h3]
  by_cases c1 : y.toInt < x.toInt
  · have : ¬ x.toInt < y.toInt := by omega
    simp [c1, this]
  · by_cases c2 : x.toInt = y.toInt
    · simp [c2]
    · have : x.toInt < y.toInt := by omega
      simp [c1, c2, this]
theorem z_cmp_pos (x y : Int64) : (0 < lg_cmp x y) = (y.toInt < x.toInt) := by
  unfold lg_cmp
  have h5 : (y < x) = (y.toInt < x.toInt) := propext Int64.lt_iff_toInt_lt
  have h3 : (x = y) = (x.toInt = y.toInt) := propext Int64.toInt_inj.symm
  simp only [h5, h3]
  by_cases c1 : y.toInt < x.toInt
  · simp [c1]
  · by_cases c2 : x.toInt = y.toInt
    · simp [c2]
    · simp [c1, c2]
theorem s10_isIn (x lo hi : Int64) : f_X10_isIn x lo hi = some (z_bi (decide (lo.toInt ≤ x.toInt) && decide (x.toInt ≤ hi.toInt))) := by
  unfold f_X10_isIn
  simp only [z_cmp_neg, z_cmp_pos]
  by_cases c1 : x.toInt < lo.toInt
  · have : ¬ lo.toInt ≤ x.toInt := by omega
    simp [c1, this, z_bi]
  · have d1 : lo.toInt ≤ x.toInt := by omega
    by_cases c2 : hi.toInt < x.toInt
    · have d2 : ¬ x.toInt ≤ hi.toInt := by omega
      simp [c1, c2, d2, z_bi]
    · have d2 : x.toInt ≤ hi.toInt := by omega
      simp [c1, c2, d1, d2, z_bi]
theorem z_i64 (a : Int32) : a.toInt64.toInt = a.toInt := Int32.toInt_toInt64 a
variable {w : z_M} {P : z_P}
theorem z_rr_th (hr : z_rr (w.1 1) P) : w.1 1 1 = nI (z_th P) := hr.2.1
theorem z_c1 : (1 : Int32).toNatClampNeg = 1 := rfl
theorem z_c0 : (0 : Int32).toNatClampNeg = 0 := rfl
theorem z_c2 : (2 : Int32).toNatClampNeg = 2 := rfl
theorem z_i93 {k : Nat} (h : k < 93) : z_inb (nI k) 93 = true := z_inb_nI h (by decide)
theorem z_31 {a : Nat} (h : a < 512) : a < 2 ^ 31 := by omega
theorem z_3i (x : Nat) : (3 : Int32) + nI x = nI (3 + x) := by rw [show (3 : Int32) = nI 3 from rfl, nI_add]
theorem s10_isThere (hr : z_rr (w.1 1) P) (hw : z_wf P) (a : Int32) : f_X10_isThere a w = some (z_bi (z_is (z_th P) a)) := by
  unfold f_X10_isThere
  rw [s10_isIn, z_i64]
  rcases z_ix a with h | h | ⟨k, hk, rfl⟩
  · have h0 : ¬ (0 : Int) ≤ a.toInt := by
      have := Int32.lt_iff_toInt_lt.mp h
      have e : (0 : Int32).toInt = 0 := rfl
      omega
    simp [z_is, h, z_bi, h0]
  · have h0 : ¬ a.toInt ≤ (8 : Int) := by
      have := Int32.le_iff_toInt_le.mp h
      have e : (9 : Int32).toInt = 9 := rfl
      omega
    simp [z_is, h, z_bi, h0]
  · have e1 : (nI k).toInt = k := nI_toInt (by omega)
    have e2 : ((0 : Int64).toInt ≤ (nI k).toInt) = True := by rw [e1]; simp
    have e3 : ((nI k).toInt ≤ (8 : Int64).toInt) = True := by rw [e1]; simp; omega
    simp only [e2, e3, decide_true, Bool.and_self, Option.bind_some, z_bi_0, Bool.true_eq_false, if_false, z_gd, show z_inb 1 93 = true from rfl, if_true, z_gI, z_c1, hr.2.1, s_has (z_31 hw.th) hk, z_is_nI hk]
    cases (z_th P).testBit k <;> simp [z_bi]
theorem s10_areThere (hr : z_rr (w.1 1) P) (hw : z_wf P) (a b : Int32) : f_X10_areThere a b w = some (z_bi (z_is (z_th P) a && z_is (z_th P) b)) := by
  unfold f_X10_areThere
  simp only [s10_isThere hr hw, Option.bind_some, z_bi_0]
  cases z_is (z_th P) a <;> cases z_is (z_th P) b <;> simp [z_bi]
theorem s10_isTold (hr : z_rr (w.1 1) P) (hw : z_wf P) : f_X10_isTold w = some (z_bi (decide (0 < z_td P))) := by
  unfold f_X10_isTold
  simp only [z_gd, show z_inb 0 93 = true from rfl, if_true, z_gI, z_c0, hr.1]
  have : z_td P ≤ 9 := hw.1
  have e : (nI (z_td P) ≤ 0) = (z_td P ≤ 0) := z_leI (b := 0) (by omega) (by decide)
  simp only [e]
  by_cases h : z_td P ≤ 0
  · have h1 : z_td P = 0 := by omega
    simp [h1, z_bi]
  · have h1 : 0 < z_td P := by omega
    have h2 : ¬ z_td P = 0 := by omega
    simp [h1, h2, z_bi]
theorem s10_isBelow (hr : z_rr (w.1 1) P) {x y : Nat} (hx : x < 9) (hy : y < 9) : f_X10_isBelow (nI x) (nI y) w = some (z_bi ((z_rv (w.1 1) x).testBit y)) := by
  unfold f_X10_isBelow
  have h := hr.2.2.2.1 x hx
  simp only [z_3i, z_i93 (show 3 + x < 93 by omega), z_gd, if_true, z_gI, z_cl (show 3 + x < 2 ^ 31 by omega)]
  rw [h.1, s_has (z_31 h.2.1) hy]
  simp [z_bi_01]
theorem z_rv_bit (hr : z_rr (w.1 1) P) {x y : Nat} (hx : x < 9) (tx : (z_th P).testBit x = true) (ty : (z_th P).testBit y = true) : (z_rv (w.1 1) x).testBit y = (z_ab P x).testBit y := by
  rw [← (hr.2.2.2.1 x hx).2.2 tx, Nat.testBit_and, ty, Bool.and_true]
theorem s10_above (hr : z_rr (w.1 1) P) {x : Nat} (hx : x < 9) : f_X10_above (nI x) w = some (nI (z_rv (w.1 1) x &&& z_th P)) := by
  unfold f_X10_above
  have h := hr.2.2.2.1 x hx
  simp only [z_3i, z_i93 (show 3 + x < 93 by omega), show z_inb 1 93 = true from rfl, z_gd, if_true, z_gI, z_cl (show 3 + x < 2 ^ 31 by omega), z_c1, hr.2.1]
  rw [h.1, z_and]
theorem s10_aboveT (hr : z_rr (w.1 1) P) {x : Nat} (hx : x < 9) (tx : (z_th P).testBit x = true) : f_X10_above (nI x) w = some (nI (z_ab P x)) := by
  rw [s10_above hr hx, (hr.2.2.2.1 x hx).2.2 tx]
/-- what the reference takes to be below x -/
def z_bl (f : Nat → Int32) (T x : Nat) : Nat := z_mk (fun y => T.testBit y && (z_rv f y).testBit x) 9
theorem z_bl_lt (f : Nat → Int32) (T x : Nat) : z_bl f T x < 512 := z_mk_lt _ 9
theorem z_or0 (a : Int32) : a ||| 0 = a := Int32.or_zero
theorem s10_below (hr : z_rr (w.1 1) P) (hw : z_wf P) {x : Nat} (hx : x < 9) : f_X10_below (nI x) w = some (nI (z_bl (w.1 1) (z_th P) x)) := by
  rw [← z_ok_eq]
  unfold f_X10_below
  refine z_ok_l9 (fun i q => q = (nI (z_mk (fun y => (z_th P).testBit y && (z_rv (w.1 1) y).testBit x) i), nI i)) rfl ?_ ?_
  · rintro i q hi rfl kb hk
    unfold b_X10_below_4
    simp only [z_le9 hi, z_le9n hi, z_in9 hi, z_c9 hi, z_sh hi, z_is_nI hi, if_false, if_true, Option.bind_some, z_ok_gd, z_ok_lt, z_ok_some, z_ok_ite, z_ok_bind, z_ok_b2, z_bi_0, Bool.not_eq_false, z_gI, z_and, z_or, z_andc, z_1, true_and, and_true, show z_inb 1 93 = true from rfl, z_c1, hr.2.1, s_has (z_31 hw.th) hi, s10_isBelow hr hi hx, z_or0]
    refine ⟨fun h1 => hk _ ?_, fun h1 => ⟨fun h2 => hk _ ?_, fun h2 => hk _ ?_⟩⟩
    · rw [z_mk_0 _ i (by simp [h1])]
    · rw [z_mk_0 _ i (by simp [h2])]
    · rw [z_mk_1 _ i (by simp [h1, h2])]
  · rintro q rfl kb
    unfold b_X10_below_4
    simp only [z_99, if_true, z_ok_some, z_bl]
theorem z_bl_T (hr : z_rr (w.1 1) P) (hw : z_wf P) {x : Nat} (hx : x < 9) (tx : (z_th P).testBit x = true) : z_bl (w.1 1) (z_th P) x = z_un P x := by
  unfold z_bl z_un
  refine z_mk_cg (fun y hy => ?_)
  cases ty : (z_th P).testBit y
  · cases h : (z_ab P y).testBit x
    · rfl
    · have := (hw.in y x hy hx h).1
      rw [ty] at this
      cases this
  · rw [z_rv_bit hr hy ty tx, Bool.true_and]
theorem s10_belowT (hr : z_rr (w.1 1) P) (hw : z_wf P) {x : Nat} (hx : x < 9) (tx : (z_th P).testBit x = true) : f_X10_below (nI x) w = some (nI (z_un P x)) := by
  rw [s10_below hr hw hx, z_bl_T hr hw hx tx]
theorem s10_isBelowT (hr : z_rr (w.1 1) P) {x y : Nat} (hx : x < 9) (hy : y < 9) (tx : (z_th P).testBit x = true) (ty : (z_th P).testBit y = true) : f_X10_isBelow (nI x) (nI y) w = some (z_bi ((z_ab P x).testBit y)) := by
  rw [s10_isBelow hr hx hy, z_rv_bit hr hx tx ty]
theorem s10_covers (hr : z_rr (w.1 1) P) (hw : z_wf P) {a b : Nat} (ha : a < 9) (hb : b < 9) (ta : (z_th P).testBit a = true) (tb : (z_th P).testBit b = true) : f_X10_covers (nI b) (nI a) w = some (z_bi ((z_ab P a).testBit b && z_inr P a b == 0)) := by
  unfold f_X10_covers
  simp only [s10_isBelowT hr ha hb ta tb, s10_aboveT hr ha ta, s10_belowT hr hw hb tb, Option.bind_some, z_bi_0, z_and, z_and0 (hw.ab a ha), z_inr]
  cases (z_ab P a).testBit b
  · simp [z_bi]
  · by_cases h2 : z_ab P a &&& z_un P b = 0
    · simp [h2, z_bi]
    · simp [h2, z_bi]
theorem s10_told (hr : z_rr (w.1 1) P) {a b : Nat} (ha : a < 9) (hb : b < 9) : f_X10_told (nI a) (nI b) w = some (z_tg P (9 * a + b)) := by
  unfold f_X10_told
  have e : (12 : Int32) + 9 * nI a + nI b = nI (12 + (9 * a + b)) := (by decide +kernel : ∀ a, a < 9 → ∀ b, b < 9 → (12 : Int32) + 9 * nI a + nI b = nI (12 + (9 * a + b))) a ha b hb
  simp only [e, z_i93 (show 12 + (9 * a + b) < 93 by omega), z_gd, if_true, z_gI, z_cl (show 12 + (9 * a + b) < 2 ^ 31 by omega), hr.2.2.2.2 (9 * a + b) (by omega)]
theorem s10_labelBy (hr : z_rr (w.1 1) P) (hw : z_wf P) {a b : Nat} (ha : a < 9) (hb : b < 9) : f_X10_labelBy (nI a) (nI b) w = some (z_lb P a b) := by
  unfold f_X10_labelBy z_lb
  have hru : z_ru P ≤ 3 := hw.2.2.2.2.1
  have e0 : (nI (z_ru P) = 0) = (z_ru P = 0) := z_eqI (b := 0) (by omega) (by decide)
  have e1 : (nI (z_ru P) = 1) = (z_ru P = 1) := z_eqI (b := 1) (by omega) (by decide)
  have e2 : (nI (z_ru P) = 2) = (z_ru P = 2) := z_eqI (b := 2) (by omega) (by decide)
  have e4 : (nI a ≤ nI b) = (a ≤ b) := z_leI (by omega) (by omega)
  have e5 : (if a ≤ b then nI b - nI a else nI a - nI b) = nI (z_di a b) := (by decide +kernel : ∀ a, a < 9 → ∀ b, b < 9 → (if a ≤ b then nI b - nI a else nI a - nI b) = nI (z_di a b)) a ha b hb
  have e6 : (if a ≤ b then nI b else nI a) = nI (z_mx a b) := (by decide +kernel : ∀ a, a < 9 → ∀ b, b < 9 → (if a ≤ b then nI b else nI a) = nI (z_mx a b)) a ha b hb
  simp only [show z_inb 2 93 = true from rfl, z_gd, if_true, z_gI, z_c2, hr.2.2.1, e0, e1, e2, e4, s10_told hr ha hb, Option.bind_some, ← e5, ← e6]
  by_cases h0 : z_ru P = 0
  · simp [h0]
  · by_cases h1 : z_ru P = 1
    · simp [h1]
    · by_cases h2 : z_ru P = 2
      · simp only [h2]
        by_cases h : a ≤ b <;> simp [h]
      · have h3 : z_ru P = 3 := by omega
        simp only [h3]
        by_cases h : a ≤ b <;> simp [h]
theorem s10_upTo (hr : z_rr (w.1 1) P) {x : Nat} (hx : x < 9) (tx : (z_th P).testBit x = true) : f_X10_upTo (nI x) w = some (nI (z_up P x)) := by
  unfold f_X10_upTo
  simp only [s10_aboveT hr hx tx, Option.bind_some, z_sh hx, z_or, z_up]
theorem s10_downTo (hr : z_rr (w.1 1) P) (hw : z_wf P) {x : Nat} (hx : x < 9) (tx : (z_th P).testBit x = true) : f_X10_downTo (nI x) w = some (nI (z_dn P x)) := by
  unfold f_X10_downTo
  simp only [s10_belowT hr hw hx tx, Option.bind_some, z_sh hx, z_or, z_dn]
theorem s10_leastOf (hr : z_rr (w.1 1) P) {s : Nat} (hs : s < 512) (hst : ∀ x, x < 9 → s.testBit x = true → (z_th P).testBit x = true) : f_X10_leastOf (nI s) w = some (z_lst P s) := by
  unfold f_X10_leastOf z_lst
  refine z_find (f := fun x => x) _ _ (fun j hj kb => ?_) (fun kb => ?_)
  · unfold b_X10_leastOf_2
    simp only [z_le9 hj, if_false, s_has (z_31 hs) hj, Option.bind_some, z_bi_0, z_1]
    cases h : s.testBit j
    · simp
    · simp only [Bool.true_eq_false, if_false, s10_upTo hr hj (hst j hj h), Option.bind_some, z_andc, z_df0 hs, Bool.true_and, beq_iff_eq]
  · unfold b_X10_leastOf_2
    simp only [z_99, if_true]
theorem s10_greatestOf (hr : z_rr (w.1 1) P) (hw : z_wf P) {s : Nat} (hs : s < 512) (hst : ∀ x, x < 9 → s.testBit x = true → (z_th P).testBit x = true) : f_X10_greatestOf (nI s) w = some (z_grt P s) := by
  unfold f_X10_greatestOf z_grt
  refine z_find (f := fun x => x) _ _ (fun j hj kb => ?_) (fun kb => ?_)
  · unfold b_X10_greatestOf_2
    simp only [z_le9 hj, if_false, s_has (z_31 hs) hj, Option.bind_some, z_bi_0, z_1]
    cases h : s.testBit j
    · simp
    · simp only [Bool.true_eq_false, if_false, s10_downTo hr hw hj (hst j hj h), Option.bind_some, z_andc, z_df0 hs, Bool.true_and, beq_iff_eq]
  · unfold b_X10_greatestOf_2
    simp only [z_99, if_true]
theorem s10_pairs (hr : z_rr (w.1 1) P) (hw : z_wf P) : f_X10_pairs w = some (z_prs P) := by
  rw [← z_ok_eq]
  unfold f_X10_pairs
  refine z_ok_l9 (fun i q => q = (z_su (fun x => nI (z_pc (z_ab P x))) i, nI i)) rfl ?_ ?_
  · rintro i q hi rfl kb hk
    unfold b_X10_pairs_4
    simp only [z_le9 hi, z_le9n hi, z_in9 hi, z_c9 hi, z_sh hi, z_is_nI hi, if_false, if_true, Option.bind_some, z_ok_gd, z_ok_lt, z_ok_some, z_ok_ite, z_ok_bind, z_ok_b2, z_bi_0, Bool.not_eq_false, z_gI, z_and, z_or, z_andc, z_1, true_and, and_true, show z_inb 1 93 = true from rfl, z_c1, hr.2.1, s_has (z_31 hw.th) hi]
    refine ⟨fun h1 => hk _ ?_, fun h1 => ?_⟩
    · have e : z_ab P i = 0 := z_ext (hw.ab i hi) (by decide) (fun k hk => by
        cases h : (z_ab P i).testBit k
        · simp
        · have := (hw.in i k hi hk h).1
          rw [h1] at this
          cases this)
      simp [z_su, e, z_pc]
      rfl
    · rw [s10_aboveT hr hi h1, z_ok_some, s_bits (hw.ab i hi), z_ok_some]
      exact hk _ rfl
  · rintro q rfl kb
    unfold b_X10_pairs_4
    simp only [z_99, if_true, z_ok_some, z_prs]
/-- covering, both ways, by points that are there -/
theorem z_cov_bit {x y : Nat} (hy : y < 9) : (z_cov P x (z_th P)).testBit y = ((z_ab P x &&& z_th P).testBit y && (z_ab P x &&& z_th P &&& z_un P y) == 0) := by
  simp [z_cov, z_en, z_mk_bit, hy]
theorem z_ab_th (hw : z_wf P) {x : Nat} (hx : x < 9) : z_ab P x &&& z_th P = z_ab P x := z_ext (z_and_lt _ (hw.ab x hx)) (hw.ab x hx) (fun k hk => by
  rw [Nat.testBit_and]
  cases h : (z_ab P x).testBit k
  · rfl
  · rw [(hw.in x k hx hk h).2]; rfl)
theorem z_un_th (hw : z_wf P) {x : Nat} (hx : x < 9) : z_un P x &&& z_th P = z_un P x := z_ext (z_and_lt _ (z_un_lt P x)) (z_un_lt P x) (fun k hk => by
  rw [Nat.testBit_and, z_un_bit P hk]
  cases h : (z_ab P k).testBit x
  · rfl
  · rw [(hw.in k x hk hx h).1]; rfl)
theorem s10_coverers (hr : z_rr (w.1 1) P) (hw : z_wf P) {x : Nat} (hx : x < 9) (tx : (z_th P).testBit x = true) : f_X10_coverers (nI x) w = some (nI (z_cov P x (z_th P))) := by
  rw [← z_ok_eq]
  unfold f_X10_coverers
  refine z_ok_l9 (fun i q => q = (nI (z_mk (fun y => (z_ab P x &&& z_th P).testBit y && (z_ab P x &&& z_th P &&& z_un P y) == 0) i), nI i)) rfl ?_ ?_
  · rintro i q hi rfl kb hk
    unfold b_X10_coverers_4
    simp only [z_le9 hi, z_le9n hi, z_in9 hi, z_c9 hi, z_sh hi, z_is_nI hi, if_false, if_true, Option.bind_some, z_ok_gd, z_ok_lt, z_ok_some, z_ok_ite, z_ok_bind, z_ok_b2, z_bi_0, Bool.not_eq_false, z_gI, z_and, z_or, z_andc, z_1, true_and, and_true, show z_inb 1 93 = true from rfl, z_c1, hr.2.1, s_has (z_31 hw.th) hi, z_or0, z_ab_th hw hx] at hk ⊢
    refine ⟨fun h1 => hk _ ?_, fun h1 => ?_⟩
    · rw [z_mk_0 _ i]
      cases h : (z_ab P x).testBit i
      · rfl
      · have := (hw.in x i hx hi h).2
        rw [h1] at this
        cases this
    · rw [s10_covers hr hw hx hi tx h1, z_ok_some, z_bi_0]
      refine ⟨fun h2 => hk _ ?_, fun h2 => hk _ ?_⟩
      · rw [z_mk_0 _ i h2]
      · rw [Bool.not_eq_false] at h2
        rw [z_mk_1 _ i h2]
  · rintro q rfl kb
    unfold b_X10_coverers_4
    simp only [z_99, if_true, z_ok_some, z_cov, z_en]
theorem s10_covered (hr : z_rr (w.1 1) P) (hw : z_wf P) {x : Nat} (hx : x < 9) (tx : (z_th P).testBit x = true) : f_X10_covered (nI x) w = some (nI (z_cvd P x (z_th P))) := by
  rw [← z_ok_eq]
  unfold f_X10_covered
  refine z_ok_l9 (fun i q => q = (nI (z_mk (fun y => (z_un P x &&& z_th P).testBit y && (z_un P x &&& z_th P &&& z_ab P y) == 0) i), nI i)) rfl ?_ ?_
  · rintro i q hi rfl kb hk
    unfold b_X10_covered_4
    simp only [z_le9 hi, z_le9n hi, z_in9 hi, z_c9 hi, z_sh hi, z_is_nI hi, if_false, if_true, Option.bind_some, z_ok_gd, z_ok_lt, z_ok_some, z_ok_ite, z_ok_bind, z_ok_b2, z_bi_0, Bool.not_eq_false, z_gI, z_and, z_or, z_andc, z_1, true_and, and_true, show z_inb 1 93 = true from rfl, z_c1, hr.2.1, s_has (z_31 hw.th) hi, z_or0, z_un_th hw hx] at hk ⊢
    refine ⟨fun h1 => hk _ ?_, fun h1 => ?_⟩
    · rw [z_mk_0 _ i]
      rw [z_un_bit P hi]
      cases h : (z_ab P i).testBit x
      · rfl
      · have := (hw.in i x hi hx h).1
        rw [h1] at this
        cases this
    · rw [s10_covers hr hw hi hx h1 tx, z_ok_some, z_bi_0]
      have e : ((z_ab P i).testBit x && z_inr P i x == 0) = ((z_un P x).testBit i && (z_un P x &&& z_ab P i) == 0) := by
        rw [z_un_bit P hi, z_inr, Nat.and_comm]
      rw [e]
      refine ⟨fun h2 => hk _ ?_, fun h2 => hk _ ?_⟩
      · rw [z_mk_0 _ i h2]
      · rw [Bool.not_eq_false] at h2
        rw [z_mk_1 _ i h2]
  · rintro q rfl kb
    unfold b_X10_covered_4
    simp only [z_99, if_true, z_ok_some, z_cvd, z_en]
end
