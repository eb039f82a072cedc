section
variable {u w : z_M} {P : z_P}
/-! How many points a set has; going upwards. -/
theorem z_pcn_le {a b : Nat} : ∀ n, (∀ k, k < n → a.testBit k = true → b.testBit k = true) → z_pcn a n ≤ z_pcn b n
  | 0, _ => Nat.le_refl _
  | n + 1, h => by
    have h1 := z_pcn_le n (fun k hk => h k (by omega))
    have h2 := h n (by omega)
    rw [z_pcn, z_pcn]
    cases ha : a.testBit n
    · simp only [Bool.toNat_false]; omega
    · rw [h2 ha]; simp only [Bool.toNat_true]; omega
theorem z_pcn_st {a b : Nat} {j : Nat} (hb : b.testBit j = true) (ha : a.testBit j = false) : ∀ n, j < n → (∀ k, k < n → a.testBit k = true → b.testBit k = true) → z_pcn a n < z_pcn b n
  | 0, h, _ => absurd h (Nat.not_lt_zero j)
  | n + 1, hj, h => by
    have h2 := h n (by omega)
    rw [z_pcn, z_pcn]
    by_cases e : j = n
    · subst e
      have h1 := z_pcn_le j (fun k hk => h k (by omega))
      rw [ha, hb]; simp only [Bool.toNat_true, Bool.toNat_false]; omega
    · have h1 := z_pcn_st hb ha n (by omega) (fun k hk => h k (by omega))
      cases ha : a.testBit n
      · simp only [Bool.toNat_false]; omega
      · rw [h2 ha]; simp only [Bool.toNat_true]; omega
theorem z_pc_mono {a b : Nat} (h : ∀ k, k < 9 → a.testBit k = true → b.testBit k = true) : z_pc a ≤ z_pc b := by
  rw [← z_pcn_9, ← z_pcn_9]
  exact z_pcn_le 9 h
theorem z_pc_st {a b j : Nat} (hj : j < 9) (hb : b.testBit j = true) (ha : a.testBit j = false) (h : ∀ k, k < 9 → a.testBit k = true → b.testBit k = true) : z_pc a < z_pc b := by
  rw [← z_pcn_9, ← z_pcn_9]
  exact z_pcn_st hb ha 9 hj h
theorem z_pc_0 : z_pc 0 = 0 := by simp [z_pc]
theorem z_pc_pos {a j : Nat} (hj : j < 9) (h : a.testBit j = true) : 0 < z_pc a := by
  have := z_pc_rest hj h
  omega
theorem z_pc_eq0 {a : Nat} (ha : a < 512) (h : z_pc a = 0) : a = 0 := z_ext ha (by decide) (fun k hk => by
  rw [Nat.zero_testBit]
  cases hb : a.testBit k
  · rfl
  · have := z_pc_pos hk hb
    omega)
theorem z_un_st (hw : z_wf P) {x y : Nat} (hx : x < 9) (hy : y < 9) (h : (z_ab P x).testBit y = true) : z_pc (z_un P x) < z_pc (z_un P y) := by
  refine z_pc_st hx (by rw [z_un_bit P hx]; exact h) (by rw [z_un_bit P hx]; exact hw.irr x hx) (fun k hk hl => ?_)
  rw [z_un_bit P hk] at hl ⊢
  exact hw.tr k x y hk hx hy hl h
theorem z_un_8 (hw : z_wf P) {x : Nat} (hx : x < 9) : z_pc (z_un P x) ≤ 8 := by
  have h1 := z_pc_st (a := z_un P x) (b := 511) hx ((by decide +kernel : ∀ x, x < 9 → Nat.testBit 511 x = true) x hx) (by rw [z_un_bit P hx]; exact hw.irr x hx) (fun k hk _ => (by decide +kernel : ∀ x, x < 9 → Nat.testBit 511 x = true) k hk)
  have h2 : z_pc 511 = 9 := by decide +kernel
  omega
theorem z_wfi {Q : Nat → Prop} (hw : z_wf P) (h : ∀ x, x < 9 → (∀ y, y < 9 → (z_ab P y).testBit x = true → Q y) → Q x) : ∀ x, x < 9 → Q x := by
  have key : ∀ n x, x < 9 → z_pc (z_un P x) < n → Q x := by
    intro n
    induction n with
    | zero => intro x _ h; omega
    | succ n ih =>
      intro x hx hp
      exact h x hx (fun y hy hl => ih y hy (by have := z_un_st hw hy hx hl; omega))
  exact fun x hx => key _ x hx (Nat.lt_succ_self _)
theorem z_min (hw : z_wf P) {o : Nat} (ho : o < 512) (h : o ≠ 0) : ∃ x, x < 9 ∧ o.testBit x = true ∧ z_un P x &&& o = 0 := by
  refine Classical.byContradiction fun hx => ?_
  have h0 : ∀ x, x < 9 → o.testBit x = false := z_wfi hw (fun x hx9 hy => by
    cases hb : o.testBit x
    · rfl
    · refine (hx ⟨x, hx9, hb, z_ext (z_and_lt _ (z_un_lt P x)) (by decide) (fun k hk => ?_)⟩).elim
      rw [Nat.testBit_and, z_un_bit P hk, Nat.zero_testBit]
      cases hl : (z_ab P k).testBit x
      · rfl
      · rw [hy k hk hl]; rfl)
  exact h (z_ext ho (by decide) (fun k hk => by rw [Nat.zero_testBit]; exact h0 k hk))
/-! The row of least numbers. -/
def z_fr (P : z_P) (o : Nat) : Int32 := z_fi (fun x => o.testBit x && (z_un P x &&& o) == 0) (-1)
def z_pk (P : z_P) (o : Nat) : Nat := (z_fr P o).toNatClampNeg
theorem z_fr_ok (hw : z_wf P) {o : Nat} (ho : o < 512) (h : o ≠ 0) : z_pk P o < 9 ∧ z_fr P o = nI (z_pk P o) ∧ o.testBit (z_pk P o) = true ∧ z_un P (z_pk P o) &&& o = 0 ∧ ∀ i, i < z_pk P o → (o.testBit i && (z_un P i &&& o) == 0) = false := by
  rcases z_fi_is (fun x => o.testBit x && (z_un P x &&& o) == 0) (-1) with ⟨j, h1, h2, h3, h4⟩ | ⟨h1, h2⟩
  · have e : z_pk P o = j := by
      unfold z_pk z_fr
      rw [h4]
      exact z_cl (by omega)
    rw [e]
    rw [Bool.and_eq_true, beq_iff_eq] at h2
    exact ⟨h1, h4, h2.1, h2.2, h3⟩
  · obtain ⟨x, hx, hx1, hx2⟩ := z_min hw ho h
    have := h1 x hx
    simp [hx1, hx2] at this
theorem z_fr_0 : z_fr P 0 = -1 := by simp [z_fr, z_fi, z_ff]
def z_op (P : z_P) : Nat → Nat
  | 0 => z_th P
  | k + 1 => z_rest (z_pk P (z_op P k)) (z_op P k)
def z_rw (P : z_P) (k : Nat) : Nat := z_pk P (z_op P k)
theorem z_op_ok (hw : z_wf P) : ∀ k, k ≤ z_pc (z_th P) → z_op P k < 512 ∧ z_pc (z_op P k) + k = z_pc (z_th P) ∧ ∀ x, x < 9 → (z_op P k).testBit x = true → (z_th P).testBit x = true
  | 0, _ => ⟨hw.th, rfl, fun _ _ h => h⟩
  | k + 1, hk => by
    obtain ⟨h1, h2, h3⟩ := z_op_ok hw k (by omega)
    have h0 : z_op P k ≠ 0 := by
      intro e
      rw [e, z_pc_0] at h2
      omega
    obtain ⟨g1, g2, g3, g4, -⟩ := z_fr_ok hw h1 h0
    have := z_pc_rest g1 g3
    refine ⟨z_rest_lt h1, ?_, fun x hx h => ?_⟩
    · show z_pc (z_rest (z_pk P (z_op P k)) (z_op P k)) + (k + 1) = _
      omega
    · have h : (z_rest (z_pk P (z_op P k)) (z_op P k)).testBit x = true := h
      rw [z_rest_bit, Bool.and_eq_true] at h
      exact h3 x hx h.1
theorem z_rw_ok (hw : z_wf P) {k : Nat} (hk : k < z_pc (z_th P)) : z_rw P k < 9 ∧ z_fr P (z_op P k) = nI (z_rw P k) ∧ (z_op P k).testBit (z_rw P k) = true ∧ z_un P (z_rw P k) &&& z_op P k = 0 ∧ ∀ i, i < z_rw P k → ((z_op P k).testBit i && (z_un P i &&& z_op P k) == 0) = false := by
  obtain ⟨h1, h2, h3⟩ := z_op_ok hw k (by omega)
  refine z_fr_ok hw h1 (fun e => ?_)
  rw [e, z_pc_0] at h2
  omega
theorem z_op_step (k x : Nat) : (z_op P (k + 1)).testBit x = ((z_op P k).testBit x && !decide (x = z_rw P k)) := z_rest_bit _ _ _
theorem z_op_le {x j : Nat} : ∀ k, j ≤ k → (z_op P k).testBit x = true → (z_op P j).testBit x = true
  | 0, h, hb => by rw [show j = 0 by omega]; exact hb
  | k + 1, h, hb => by
    by_cases e : j = k + 1
    · rw [e]; exact hb
    · rw [z_op_step, Bool.and_eq_true] at hb
      exact z_op_le k (by omega) hb.1
theorem z_rw_th (hw : z_wf P) {k : Nat} (hk : k < z_pc (z_th P)) : (z_th P).testBit (z_rw P k) = true := by
  obtain ⟨h1, -, h3, -⟩ := z_rw_ok hw hk
  exact (z_op_ok hw k (by omega)).2.2 _ h1 h3
theorem z_rw_ne (hw : z_wf P) {i j : Nat} (hij : i < j) (hj : j < z_pc (z_th P)) : z_rw P i ≠ z_rw P j := by
  intro e
  have h3 := (z_rw_ok hw hj).2.2.1
  have := z_op_le (j := i + 1) j (by omega) h3
  rw [z_op_step, e] at this
  simp at this
theorem z_rw_nu (hw : z_wf P) {i j : Nat} (hij : i ≤ j) (hj : j < z_pc (z_th P)) : (z_un P (z_rw P i)).testBit (z_rw P j) = false := by
  have h3 := (z_rw_ok hw hj).2.2.1
  have h4 := (z_rw_ok (k := i) hw (by omega)).2.2.2.1
  have h5 := z_op_le (j := i) j hij h3
  have : (z_un P (z_rw P i) &&& z_op P i).testBit (z_rw P j) = false := by rw [h4, Nat.zero_testBit]
  rw [Nat.testBit_and, h5, Bool.and_true] at this
  exact this
theorem z_op_end (hw : z_wf P) : z_op P (z_pc (z_th P)) = 0 := by
  obtain ⟨h1, h2, -⟩ := z_op_ok hw _ (Nat.le_refl _)
  exact z_pc_eq0 h1 (by omega)
theorem z_rw_on (hw : z_wf P) {x : Nat} (tx : (z_th P).testBit x = true) : ∃ i, i < z_pc (z_th P) ∧ z_rw P i = x := by
  refine Classical.byContradiction fun h => ?_
  have key : ∀ k, k ≤ z_pc (z_th P) → (z_op P k).testBit x = true := by
    intro k
    induction k with
    | zero => intro _; exact tx
    | succ k ih =>
      intro hk
      rw [z_op_step, ih (by omega), Bool.true_and, Bool.not_eq_true', decide_eq_false_iff_not]
      intro e
      exact h ⟨k, by omega, e.symm⟩
  have := key _ (Nat.le_refl _)
  rw [z_op_end hw, Nat.zero_testBit] at this
  cases this
theorem s6_leastFree {i : Nat} (hr : z_rc u i P) {o : Nat} (ho : o < 512) : f_X6_leastFree i (nI o) u = some (z_fr P o) := by
  unfold f_X6_leastFree z_fr
  refine z_find (f := fun x => x) _ _ (fun j hj kb => ?_) (fun kb => ?_)
  · unfold b_X6_leastFree_2
    simp only [z_le9 hj, if_false, s_isIn ho, z_is_nI hj, Option.bind_some, z_bi_0, z_1, z_in9 hj, z_gd, if_true, z_gI, z_c9 hj, hr.2.2.2.2.1 j hj, z_and, z_and0 (z_un_lt P j)]
    cases h : o.testBit j
    · simp
    · simp only [Bool.true_eq_false, if_false, Bool.true_and, beq_iff_eq]
  · unfold b_X6_leastFree_2
    simp only [z_99, if_true]
theorem z_nI9m : ∀ x, x < 9 → ¬ nI x = -1 := by decide +kernel
theorem s6_leastRow (hr : z_rc u 0 P) (hw : z_wf P) : z_ok (f_X6_leastRow 0 126 9 u) (fun q => q.1 = nI (z_pc (z_th P)) ∧ (∀ k, k ≠ 126 → q.2.1 k = u.1 k) ∧ ∀ j, j < z_pc (z_th P) → q.2.1 126 j = nI (z_rw P j)) := by
  have hm9 := z_pc_le (z_th P)
  unfold f_X6_leastRow
  rw [z_ok_lt, z_gI, hr.2.1]
  refine z_ok_l9 (fun t q => q.1 = nI (z_op P (min t (z_pc (z_th P)))) ∧ q.2.1 = nI (min t (z_pc (z_th P))) ∧ q.2.2.1 = nI t ∧ (∀ k, k ≠ 126 → q.2.2.2.1 k = u.1 k) ∧ ∀ j, j < min t (z_pc (z_th P)) → q.2.2.2.1 126 j = nI (z_rw P j)) ⟨by simp [z_op], by simp [nI_0], rfl, fun _ _ => rfl, fun j hj => absurd hj (by omega)⟩ ?_ ?_
  · rintro t ⟨o, n, tt, v⟩ hi ⟨e1, e2, e3, e4, e5⟩ kb hk
    dsimp only at e1 e2 e3 e4 e5
    subst e1 e2 e3
    have hrv : z_rc v 0 P := z_rc_cg (fun j hj => e4 _ (by omega)) hr
    have hn : ¬ nI 9 ≤ nI (min t (z_pc (z_th P))) := nI_ge (a := min t (z_pc (z_th P))) (b := 9) (by omega) (by decide)
    unfold b_X6_leastRow_10
    obtain ⟨o1, o2, o3⟩ := z_op_ok hw (min t (z_pc (z_th P))) (by omega)
    simp only [z_le9 hi, hn, if_false, s6_leastFree hrv o1, Option.bind_some, z_1]
    by_cases hm : t < z_pc (z_th P)
    · have em : min t (z_pc (z_th P)) = t := by omega
      have em' : min (t + 1) (z_pc (z_th P)) = t + 1 := by omega
      obtain ⟨r1, r2, r3, r4, -⟩ := z_rw_ok hw hm
      rw [em] at e5 ⊢
      rw [r2, if_neg (z_nI9m _ r1), z_ok_gd, z_ok_lt, z_ok_lt]
      refine ⟨z_in9 hi, hk _ ⟨?_, ?_, rfl, fun k hk => ?_, fun j hj => ?_⟩⟩
      · dsimp only
        rw [em', z_sh r1, z_andc]
        rfl
      · dsimp only
        rw [em']
      · dsimp only
        rw [z_sI_ne hk]
        exact e4 k hk
      · rw [em'] at hj
        simp only [z_sI_1, true_and, z_c9 hi]
        by_cases hjt : t = j
        · rw [if_pos hjt, hjt]
        · rw [if_neg hjt]
          exact e5 j (by omega)
    · have em : min t (z_pc (z_th P)) = z_pc (z_th P) := by omega
      have em' : min (t + 1) (z_pc (z_th P)) = z_pc (z_th P) := by omega
      rw [em] at e5 ⊢
      rw [z_op_end hw, z_fr_0, if_pos rfl]
      refine hk _ ⟨?_, ?_, rfl, e4, ?_⟩
      · dsimp only
        rw [em', z_op_end hw]
      · dsimp only
        rw [em']
      · rw [em']
        exact e5
  · rintro ⟨o, n, tt, v⟩ ⟨e1, e2, e3, e4, e5⟩ kb
    dsimp only at e1 e2 e3 e4 e5
    subst e1 e2 e3
    have em : min 9 (z_pc (z_th P)) = z_pc (z_th P) := by omega
    rw [em] at e5
    unfold b_X6_leastRow_10
    simp only [z_99, if_true, z_ok_some, em]
    exact ⟨trivial, e4, e5⟩
/-! a search without an end -/
theorem z_srch {β : Type} {b : Int32 → (Int32 → Option β) → (Int32 → Option β) → Option β} {kx : Int32 → Option β} (p : Nat → Bool) {j : Nat} (hj : j < 9) (h1 : p j = true) (h2 : ∀ i, i < j → p i = false) (hs : ∀ i, i < 9 → ∀ kb, b (nI i) kb kx = if p i then kx (nI i) else kb (nI (i + 1))) : z_lp b z_F 0 kx = kx (nI j) := by
  have key : ∀ k n, n + k = j → ∀ F, k < F → z_lp b F (nI n) kx = kx (nI j) := by
    intro k
    induction k with
    | zero =>
      intro n hn F hF
      match F, hF with
      | F + 1, _ =>
        show b (nI n) _ kx = _
        rw [hs n (by omega), show n = j by omega, h1, if_pos rfl]
    | succ k ih =>
      intro n hn F hF
      match F, hF with
      | F + 1, hF =>
        show b (nI n) (fun q' => z_lp b F q' kx) kx = _
        rw [hs n (by omega), h2 n (by omega), if_neg (by decide)]
        exact ih (n + 1) (by omega) F (by omega)
  exact key j 0 (by omega) z_F (Nat.lt_trans hj z_9F)
theorem z_l1 {n : Nat} (h : n < 100000) : ((nI n).toInt64 - 1).toInt = (n : Int) - 1 := by
  have e : (nI n).toInt64.toInt = (n : Int) := by rw [z_i64, nI_toInt (by omega)]
  rw [fb_subL, e]
  · rfl
  · rw [e]; show _ ≤ (n : Int) - 1; omega
  · rw [e]; show (n : Int) - 1 < _; omega
theorem z_l2 {n : Nat} (h : n < 100000) : ((nI n).toInt64 - 2).toInt = (n : Int) - 2 := by
  have e : (nI n).toInt64.toInt = (n : Int) := by rw [z_i64, nI_toInt (by omega)]
  rw [fb_subL, e]
  · rfl
  · rw [e]; show _ ≤ (n : Int) - 2; omega
  · rw [e]; show (n : Int) - 2 < _; omega
/-- within 0 .. n less 1 -/
theorem z_isInN (a : Int32) {n : Nat} (h : n < 100000) : f_X10_isIn a.toInt64 0 ((nI n).toInt64 - 1) = some (z_bi (decide (¬ a < 0) && decide (a < nI n))) := by
  rw [s10_isIn, z_i64, z_l1 h]
  have e0 : (0 : Int64).toInt = 0 := rfl
  have e1 : (0 : Int32).toInt = 0 := rfl
  have h1 : (¬ a < 0) = (0 ≤ a.toInt) := by
    apply propext
    rw [Int32.lt_iff_toInt_lt, e1]
    omega
  have h2 : (a < nI n) = (a.toInt ≤ (n : Int) - 1) := by
    apply propext
    rw [Int32.lt_iff_toInt_lt, nI_toInt (by omega)]
    omega
  simp only [e0, h1, h2]
theorem z_isInN2 (a : Int32) {n : Nat} (h : n + 1 < 100000) : f_X10_isIn a.toInt64 0 ((nI (n + 1)).toInt64 - 2) = some (z_bi (decide (¬ a < 0) && decide (a < nI n))) := by
  rw [s10_isIn, z_i64, z_l2 h]
  have e0 : (0 : Int64).toInt = 0 := rfl
  have e1 : (0 : Int32).toInt = 0 := rfl
  have h1 : (¬ a < 0) = (0 ≤ a.toInt) := by
    apply propext
    rw [Int32.lt_iff_toInt_lt, e1]
    omega
  have h2 : (a < nI n) = (a.toInt ≤ ((n + 1 : Nat) : Int) - 2) := by
    apply propext
    rw [Int32.lt_iff_toInt_lt, nI_toInt (by omega)]
    omega
  simp only [e0, h1, h2]
theorem z_th0 (hw : z_wf P) (h : ¬ 0 < z_td P) : z_th P = 0 := z_ext hw.th (by decide) (fun k hk => by
  rw [Nat.zero_testBit]
  cases hb : (z_th P).testBit k
  · rfl
  · have := hw.2.2.1 k hk hb
    omega)
theorem s10_ext_in (hr : z_rr (w.1 1) P) (hw : z_wf P) {k : Nat} (hk : k < z_pc (z_th P)) (a c : Int32) (kx : Int32 → Option (Int32 × z_M)) : z_lp (b_X10_extension_51 a (nI (z_df (z_th P) (z_op P k))) c w) z_F 0 kx = kx (nI (z_rw P k)) := by
  obtain ⟨r1, r2, r3, r4, r5⟩ := z_rw_ok hw hk
  obtain ⟨o1, o2, o3⟩ := z_op_ok hw k (by omega)
  have eo : z_df (z_th P) (z_df (z_th P) (z_op P k)) = z_op P k := z_ext (z_df_lt hw.th) o1 (fun x hx => by
    rw [z_df_bit, z_df_bit]
    have := o3 x hx
    cases h1 : (z_th P).testBit x
    · cases h2 : (z_op P k).testBit x
      · rfl
      · rw [this h2] at h1; cases h1
    · cases (z_op P k).testBit x <;> rfl)
  refine z_srch (fun x => (z_op P k).testBit x && (z_un P x &&& z_op P k) == 0) r1 (by simp [r3, r4]) r5 (fun i hi kb => ?_)
  unfold b_X10_extension_51
  simp only [show z_inb 1 93 = true from rfl, z_gd, if_true, z_gI, z_c1, hr.2.1, z_andc, eo, s_has (z_31 o1) hi, Option.bind_some, z_bi_0, z_1]
  cases h : (z_op P k).testBit i
  · simp
  · have ti := o3 i hi h
    have e2 : z_df (z_un P i) (z_df (z_th P) (z_op P k)) = z_un P i &&& z_op P k := z_ext (z_df_lt (z_un_lt P i)) (z_and_lt _ (z_un_lt P i)) (fun x hx => by
      rw [z_df_bit, z_df_bit, Nat.testBit_and]
      cases h1 : (z_un P i).testBit x
      · rfl
      · rw [z_un_bit P hx] at h1
        rw [(hw.in x i hx hi h1).1]
        cases (z_op P k).testBit x <;> rfl)
    simp only [Bool.true_eq_false, if_false, s10_belowT hr hw hi ti, Option.bind_some, z_andc, e2, z_and0 (z_un_lt P i), Bool.true_and, beq_iff_eq]
theorem p_extension : z_S_extension z_Inv := by
  intro a1 u w hI
  refine z_rd2 hI (fun P hw hc hr pm => ?_)
  have hr' := z_rr0 hr 0
  have hm9 := z_pc_le (z_th P)
  obtain ⟨⟨n, v⟩, q1, q2, q3, q4⟩ := s6_leastRow hc hw
  dsimp only at q2 q3 q4
  subst q2
  have hv : z_eC u v := ⟨fun i hi => q3 i (by omega), by unfold z_pm; rw [q3 87 (by decide)]; exact pm⟩
  unfold f_X9_extension f_X10_extension
  have e1 : (z_sI w 0 0 0).1 1 1 = nI (z_th P) := hr'.2.1
  simp only [q1, z_b2, Option.bind_some, z_lt, s10_isTold hr' hw, z_bi_0, show z_inb 1 93 = true from rfl, z_gd, if_true, z_gI, z_c1, e1, s_bits hw.th, z_isInN a1 (show z_pc (z_th P) < 100000 by omega)]
  by_cases ht : 0 < z_td P
  · by_cases c1 : a1 < 0
    · exact ⟨-1, by simp [c1, z_ok_some, hv], by simpa [ht, c1, z_ok_some] using z_eR0 w⟩
    · by_cases c2 : a1 < nI (z_pc (z_th P))
      · obtain ⟨i, hi, rfl⟩ := nI_of c1
        have c3 : i < z_pc (z_th P) := by rw [z_ltI hi (by omega)] at c2; exact c2
        have c4 : ¬ nI (z_pc (z_th P)) ≤ nI i := nI_ge c3 (by omega)
        refine ⟨nI (z_rw P i), ?_, ?_⟩
        · simp [c1, c4, z_ok_gd, z_in9 (show i < 9 by omega), z_ok_some, z_c9 (show i < 9 by omega), q4 i c3, hv]
        · simp only [ht, c1, c2, decide_true, Bool.true_eq_false, if_false, not_false_iff, Bool.and_self]
          refine z_ok_lp (fun k q => q.1 = nI (z_df (z_th P) (z_op P k)) ∧ q.2.2 = nI k ∧ (0 < k → q.2.1 = nI (z_rw P (k - 1)))) (i + 1) (z_F_lt (by omega)) ⟨?_, rfl, fun h => absurd h (by omega)⟩ ?_ ?_
          · show (0 : Int32) = nI (z_df (z_th P) (z_th P))
            simp [z_df, nI_0]
          · rintro k ⟨d, t, kk⟩ hk ⟨f1, f2, f3⟩ kb hkb
            dsimp only at f1 f2 f3
            subst f1 f2
            obtain ⟨r1, r2, r3, r4, r5⟩ := z_rw_ok hw (k := k) (by omega)
            have o3 := (z_op_ok hw k (by omega)).2.2
            unfold b_X10_extension_42
            dsimp only
            rw [if_neg (nI_nlt (by omega) (by omega)), s10_ext_in hr' hw (by omega), z_ok_lt]
            refine hkb _ ⟨?_, z_1 k, fun _ => rfl⟩
            dsimp only
            rw [z_sh r1, z_or]
            congr 1
            apply Nat.eq_of_testBit_eq
            intro x
            rw [z_put_bit, z_df_bit, z_df_bit, z_op_step]
            by_cases hx : x = z_rw P k
            · subst hx
              simp [o3 _ r1 r3]
            · simp [hx]
          · rintro ⟨d, t, kk⟩ ⟨f1, f2, f3⟩ kb
            dsimp only at f1 f2 f3
            subst f1 f2
            unfold b_X10_extension_42
            dsimp only
            rw [if_pos (nI_lt (by omega) (by omega)), z_ok_some]
            exact ⟨f3 (by omega), z_eR0 w⟩
      · have c4 : nI (z_pc (z_th P)) ≤ a1 := by
          rw [Int32.le_iff_toInt_le]
          rw [Int32.lt_iff_toInt_lt] at c2
          omega
        exact ⟨-1, by simp [c1, c4, z_ok_some, hv], by simpa [ht, c1, c2, z_ok_some] using z_eR0 w⟩
  · have e0 : z_pc (z_th P) = 0 := by rw [z_th0 hw ht, z_pc_0]
    refine ⟨-1, ?_, by simpa [ht, z_ok_some] using z_eR0 w⟩
    by_cases c1 : a1 < 0
    · simp [c1, z_ok_some, hv]
    · have c4 : nI 0 ≤ a1 := by
        rw [nI_0, Int32.le_iff_toInt_le]
        rw [Int32.lt_iff_toInt_lt] at c1
        omega
      simp [c1, e0, c4, z_ok_some, hv]
end
