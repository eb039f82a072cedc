section
variable {u w v : z_M} {P : z_P}
/-! loops that go on while something holds -/
def z_exi {β : Type} (p : Nat → Bool) (R0 : Nat → β) (R : β) : Nat → Nat → β
  | 0, _ => R
  | n + 1, k => if p k then z_exi p R0 R n (k + 1) else R0 k
theorem z_lpx {σ τ β : Type} {b : σ → (σ → Option β) → (τ → Option β) → Option β} {kx : τ → Option β} (q : Nat → σ) (p : Nat → Bool) (R0 : Nat → Option β) (R : Option β) (n : Nat) {k0 : Nat} (hn : n < z_F) (hs : ∀ i, k0 ≤ i → i < k0 + n → ∀ kb, b (q i) kb kx = if p i then kb (q (i + 1)) else R0 i) (he : ∀ kb, b (q (k0 + n)) kb kx = R) : z_lp b z_F (q k0) kx = z_exi p R0 R n k0 := by
  have key : ∀ m k, k + m = k0 + n → k0 ≤ k → ∀ F, m < F → z_lp b F (q k) kx = z_exi p R0 R m k := by
    intro m
    induction m with
    | zero =>
      intro k hk _ F hF
      have : k = k0 + n := by omega
      subst this
      match F, hF with
      | F + 1, _ => exact he _
    | succ m ih =>
      intro k hk hk0 F hF
      match F, hF with
      | F + 1, hF =>
        show b (q k) (fun q' => z_lp b F q' kx) kx = _
        rw [hs k hk0 (by omega), z_exi]
        by_cases c : p k = true
        · rw [if_pos c, if_pos c]
          exact ih (k + 1) (by omega) (by omega) F (by omega)
        · rw [if_neg c, if_neg c]
  exact key n k0 rfl (Nat.le_refl _) z_F hn
theorem z_exi_t {β : Type} {R0 : Nat → β} {R : β} : ∀ n k, z_exi (fun _ => true) R0 R n k = R
  | 0, _ => rfl
  | n + 1, k => by rw [z_exi, if_pos rfl]; exact z_exi_t n (k + 1)
theorem z_lpr {σ τ β : Type} {b : σ → (σ → Option β) → (τ → Option β) → Option β} {kx : τ → Option β} (q : Nat → σ) (R : Option β) (n : Nat) (hn : n < z_F) (hs : ∀ i, i < n → ∀ kb, b (q i) kb kx = kb (q (i + 1))) (he : ∀ kb, b (q n) kb kx = R) : z_lp b z_F (q 0) kx = R := by
  rw [z_lpx q (fun _ => true) (fun _ => R) R n hn (fun i _ hi kb => by rw [if_pos rfl]; exact hs i (by omega) kb) (fun kb => by rw [Nat.zero_add]; exact he kb)]
  exact z_exi_t n 0
theorem z_exi_cg {β : Type} {p p' : Nat → Bool} {R0 : Nat → β} {R : β} : ∀ n k, (∀ i, k ≤ i → i < k + n → p i = p' i) → z_exi p R0 R n k = z_exi p' R0 R n k
  | 0, _, _ => rfl
  | n + 1, k, h => by rw [z_exi, z_exi, h k (Nat.le_refl _) (by omega), z_exi_cg n (k + 1) (fun i h1 h2 => h i (by omega) (by omega))]
theorem z_exi_all {β : Type} {p : Nat → Bool} {R0 R : β} : ∀ n k, ((∀ i, k ≤ i → i < k + n → p i = true) ∧ z_exi p (fun _ => R0) R n k = R) ∨ ((∃ i, k ≤ i ∧ i < k + n ∧ p i = false) ∧ z_exi p (fun _ => R0) R n k = R0)
  | 0, k => Or.inl ⟨fun i h1 h2 => absurd h2 (by omega), rfl⟩
  | n + 1, k => by
    rw [z_exi]
    by_cases c : p k = true
    · rw [if_pos c]
      rcases z_exi_all (p := p) (R0 := R0) (R := R) n (k + 1) with ⟨d, e⟩ | ⟨⟨i, i1, i2, i3⟩, e⟩
      · exact Or.inl ⟨fun i h1 h2 => by
          by_cases e : i = k
          · rw [e]; exact c
          · exact d i (by omega) (by omega), e⟩
      · exact Or.inr ⟨⟨i, by omega, by omega, i3⟩, e⟩
    · rw [if_neg c]
      exact Or.inr ⟨⟨k, by omega, by omega, by simpa using c⟩, rfl⟩
/-! the falls of a chain -/
def z_flk (P : z_P) (c : z_Cn) : Nat → Nat
  | 0 => 0
  | n + 1 => if z_lbc P c n ≤ z_lbc P c (n + 1) then z_flk P c n else z_flk P c n ||| 2 ^ (n + 1)
def z_fll (P : z_P) (c : z_Cn) : Nat := z_flk P c (c.1 - 1)
theorem z_flk_lt (c : z_Cn) : ∀ n, z_flk P c n < 2 ^ (n + 1)
  | 0 => Nat.two_pow_pos 1
  | n + 1 => by
    have ih := z_flk_lt c n
    rw [z_flk]
    split
    · rw [Nat.pow_succ]; omega
    · exact Nat.or_lt_two_pow (by rw [Nat.pow_succ]; omega) (Nat.pow_lt_pow_right (by decide) (by omega))
theorem z_flk_or (c : z_Cn) (n : Nat) : z_flk P c n ||| 2 ^ (n + 1) = z_flk P c n + 2 ^ (n + 1) := by
  have h := Nat.two_pow_add_eq_or_of_lt (z_flk_lt (P := P) c n) 1
  rw [Nat.mul_one] at h
  rw [Nat.or_comm, ← h, Nat.add_comm]
theorem z_fll_lt {c : z_Cn} (hc : c.1 ≤ 8) : z_fll P c < 512 := by
  have h := z_flk_lt (P := P) c (c.1 - 1)
  have : 2 ^ (c.1 - 1 + 1) ≤ 2 ^ 9 := Nat.pow_le_pow_right (by decide) (by omega)
  unfold z_fll
  omega
theorem z_flk_pc (c : z_Cn) : ∀ n, n ≤ 7 → z_pc (z_flk P c n) ≤ n ∧ (z_pc (z_flk P c n) = n ↔ z_flk P c n = 2 ^ (n + 1) - 2)
  | 0, _ => by
    rw [z_flk, z_pc_0]
    exact ⟨Nat.le_refl _, by simp⟩
  | n + 1, hn => by
    obtain ⟨i1, i2⟩ := z_flk_pc c n (by omega)
    have hlt := z_flk_lt (P := P) c n
    have hp : 2 ^ (n + 1 + 1) = 2 ^ (n + 1) + 2 ^ (n + 1) := by rw [Nat.pow_succ 2 (n + 1)]; omega
    have h2 : 2 ≤ 2 ^ (n + 1) := by rw [Nat.pow_succ]; have := Nat.one_le_two_pow (n := n); omega
    rw [z_flk]
    by_cases h : z_lbc P c n ≤ z_lbc P c (n + 1)
    · rw [if_pos h]
      exact ⟨by omega, by omega⟩
    · rw [if_neg h, z_pc_put (by omega) (Nat.testBit_lt_two_pow hlt), z_flk_or]
      refine ⟨by omega, ?_⟩
      constructor
      · intro e
        have := i2.mp (by omega)
        omega
      · intro e
        have := i2.mpr (by omega)
        omega
def z_des (P : z_P) (c : z_Cn) : Bool := decide (c.1 < 2) || decide (z_pc (z_fll P c) = c.1 - 1)
theorem s1_fallSet {pl : Nat} {c : z_Cn} (h : z_cr1 u P pl c) : f_X1_fallSet pl u = some (nI (z_fll P c)) := by
  obtain ⟨h1, h2, -, -, h5⟩ := h
  unfold f_X1_fallSet
  refine z_lpr (fun t => (nI (z_flk P c t), nI (t + 1))) _ (c.1 - 1) (z_F_lt (by omega)) (fun t ht kb => ?_) (fun kb => ?_)
  · unfold b_X1_fallSet_4
    dsimp only
    rw [z_gI, h1, if_neg (nI_ge (by omega) (by omega)), z_in8 (show t + 1 < 8 by omega), nI_pred, z_in8 (show t < 8 by omega), z_gI, z_gI, z_cl (show t < 2 ^ 31 by omega), z_cl (show t + 1 < 2 ^ 31 by omega), h5 t (by omega), h5 (t + 1) (by omega), z_sh (by omega), z_or, z_1]
    simp only [z_gd, if_true, z_lt, z_flk]
    by_cases hh : z_lbc P c t ≤ z_lbc P c (t + 1)
    · rw [if_pos hh, if_pos hh]
    · rw [if_neg hh, if_neg hh]
  · unfold b_X1_fallSet_4
    dsimp only
    rw [z_gI, h1, if_pos (nI_le (by omega) (by omega))]
    rfl
def z_rr1 (w : z_M) (i : Nat) (c : z_Cn) : Prop := w.1 10 i = nI (c.1 + 1) ∧ c.1 ≤ 8 ∧ ∀ k, k ≤ c.1 → c.2 k < 9 ∧ w.1 9 (9 * i + k) = nI (c.2 k)
theorem s10_fallsOf (hr : z_rr (w.1 1) P) (hw : z_wf P) {i : Nat} {c : z_Cn} (hi : i < 12) (h : z_rr1 w i c) : f_X10_fallsOf (nI i) w = some (nI (z_fll P c)) := by
  obtain ⟨h1, h2, h3⟩ := h
  unfold f_X10_fallsOf
  refine z_lpr (fun t => (nI (z_flk P c t), nI (t + 1))) _ (c.1 - 1) (z_F_lt (by omega)) (fun t ht kb => ?_) (fun kb => ?_)
  · unfold b_X10_fallsOf_4
    dsimp only
    rw [z_ix64 (by omega), z_gI, z_cl (show i < 2 ^ 31 by omega), h1, z_1, if_neg (nI_ge (by omega) (by omega)), nI_pred, s10_labelAt hr hw (by omega) (show t + 1 < c.1 by omega) h2 h3, s10_labelAt hr hw (by omega) (show t < c.1 by omega) h2 h3, z_sh (by omega), z_or, Int32.or_zero]
    simp only [z_gd, if_true, z_lt, z_flk, Option.bind_some]
    by_cases hh : z_lbc P c t ≤ z_lbc P c (t + 1)
    · rw [if_pos hh, if_pos hh]
    · rw [if_neg hh, if_neg hh]
  · unfold b_X10_fallsOf_4
    dsimp only
    rw [z_ix64 (by omega), z_gI, z_cl (show i < 2 ^ 31 by omega), h1, z_1, if_pos (nI_le (by omega) (by omega))]
    rfl
theorem z_flk_0 (c : z_Cn) : ∀ n, (z_flk P c n = 0) ↔ ∀ t, t < n → z_lbc P c t ≤ z_lbc P c (t + 1)
  | 0 => ⟨fun _ t ht => absurd ht (by omega), fun _ => rfl⟩
  | n + 1 => by
    have ih := z_flk_0 c n
    rw [z_flk]
    by_cases h : z_lbc P c n ≤ z_lbc P c (n + 1)
    · rw [if_pos h, ih]
      exact ⟨fun g t ht => by
        by_cases e : t = n
        · rw [e]; exact h
        · exact g t (by omega), fun g t ht => g t (by omega)⟩
    · rw [if_neg h, z_flk_or]
      have := Nat.one_le_two_pow (n := n + 1)
      exact ⟨fun e => by omega, fun g => absurd (g n (by omega)) h⟩
theorem s10_isRising (hr : z_rr (w.1 1) P) (hw : z_wf P) {i : Nat} {c : z_Cn} (hi : i < 12) (h : z_rr1 w i c) : f_X10_isRising (nI i) w = some (z_bi (decide (z_fll P c = 0))) := by
  obtain ⟨h1, h2, h3⟩ := h
  unfold f_X10_isRising
  have key := z_lpx (b := b_X10_isRising_2 (nI i) w) (kx := fun _ => some 1) (fun t => nI (t + 1)) (fun t => decide (z_lbc P c t ≤ z_lbc P c (t + 1))) (fun _ => some 0) (some 1) (c.1 - 1) (k0 := 0) (z_F_lt (by omega)) (fun t _ ht kb => by
    unfold b_X10_isRising_2
    rw [z_ix64 (by omega), z_gI, z_cl (show i < 2 ^ 31 by omega), h1, z_1, if_neg (nI_ge (by omega) (by omega)), nI_pred, s10_labelAt hr hw (by omega) (show t + 1 < c.1 by omega) h2 h3, s10_labelAt hr hw (by omega) (show t < c.1 by omega) h2 h3]
    simp only [z_gd, if_true, Option.bind_some, decide_eq_true_eq]) (fun kb => by
    unfold b_X10_isRising_2
    rw [z_ix64 (by omega), z_gI, z_cl (show i < 2 ^ 31 by omega), h1, z_1, if_pos (nI_le (by omega) (by omega))]
    rfl)
  refine (show z_lp (b_X10_isRising_2 (nI i) w) z_F (nI (0 + 1)) (fun _ => some 1) = _ from key).trans ?_
  have e := z_flk_0 (P := P) c (c.1 - 1)
  rcases z_exi_all (p := fun t => decide (z_lbc P c t ≤ z_lbc P c (t + 1))) (R0 := some (0 : Int32)) (R := some 1) (c.1 - 1) 0 with ⟨d, e2⟩ | ⟨⟨t, t1, t2, t3⟩, e2⟩
  · rw [e2, decide_eq_true (show z_fll P c = 0 from e.mpr (fun t ht => by simpa using d t (by omega) (by omega)))]; rfl
  · rw [e2, decide_eq_false (show ¬ z_fll P c = 0 from fun g => by
      have := e.mp g t (by omega)
      simp [this] at t3)]; rfl
/-! both lists of chains -/
theorem z_two (hw : z_wf P) (hc : z_rc u 0 P) (hr : z_rr (w.1 1) P) (pm : z_pm u) {x y : Nat} (hx : x < 9) (hy : y < 9) (tx : (z_th P).testBit x = true) (ty : (z_th P).testBit y = true) (hxy : x = y ∨ (z_ab P x).testBit y = true) : ∃ u1 w1, f_X2_fill 0 (nI x) (nI y) u = some u1 ∧ z_eC u u1 ∧ z_rcC u1 P (z_all P x y) ∧ f_X10_layChains (nI x) (nI y) w = some w1 ∧ z_eR w w1 ∧ z_rr (w1.1 1) P ∧ z_rrC w1 (z_all P x y) := by
  obtain ⟨u1, q1, q2, q3⟩ := s2_fill hc hw pm hx hy tx ty hxy
  obtain ⟨w1, b1, b2, b3⟩ := s10_layChains hr hw hx hy tx ty hxy
  refine ⟨u1, w1, q1, ⟨q2, q3.2.2.1⟩, q3, b1, ⟨fun i i1 i2 i3 => b2.1 i (by omega) (by omega) (by omega) (by omega) (by omega), b2.2 4 (by decide), b2.2 8 (by decide), b2.2 10 (by decide), b2.2 11 (by decide)⟩, ?_, b3⟩
  rw [b2.1 1 (by decide) (by decide) (by decide) (by decide) (by decide)]
  exact hr
theorem z_rcC.at {S : z_St} (h : z_rcC u P S) {i : Nat} (hi : i < S.1) : z_inb (nI i) 12 = true ∧ z_isCh (u.1 87 i).toNatClampNeg = true ∧ z_cr1 u P (u.1 87 i).toNatClampNeg (S.2 i) := by
  obtain ⟨c, c1, c2, c3, c4⟩ := z_pm_pl h.2.2.1 (show i < 12 by have := h.1; omega)
  exact ⟨z_inb_nI (by have := h.1; omega) (by decide), by rw [c3]; exact c4, h.2.2.2 i hi⟩
theorem z_rrC.at {S : z_St} (h : z_rrC w S) {i : Nat} (hi : i < S.1) : z_rr1 w i (S.2 i) := h.2.2 i hi
theorem s2_hasChain {S : z_St} (h : z_rcC u P S) (a : Int32) : f_X2_hasChain a u = some (z_bi (decide (¬ a < 0) && decide (a < nI S.1))) := by
  unfold f_X2_hasChain
  rw [z_gI, h.2.1]
  by_cases c : a < 0
  · rw [if_pos c]; simp [c, z_bi]
  · rw [if_neg c]
    by_cases d : a < nI S.1
    · rw [if_neg (Int32.not_le.mpr d)]; simp [c, d, z_bi]
    · rw [if_pos (Int32.not_lt.mp d)]; simp [c, d, z_bi]
theorem z_chn (a : Int32) {n : Nat} (hn : n < 100) : (decide (¬ a < 0) && decide (a < nI n)) = false ∨ ∃ i, i < n ∧ a = nI i := by
  by_cases c : a < 0
  · left; simp [c]
  · by_cases d : a < nI n
    · obtain ⟨i, hi, rfl⟩ := nI_of c
      rw [z_ltI hi (by omega)] at d
      exact Or.inr ⟨i, d, rfl⟩
    · left; simp [d]
theorem z_chn_t {i n : Nat} (hi : i < n) (hn : n < 100) : (decide (¬ nI i < 0) && decide (nI i < nI n)) = true := by
  rw [decide_eq_true (nI_pos (by omega)), decide_eq_true (nI_lt hi (by omega))]; rfl
theorem p_point : z_S_point z_Inv := by
  intro a1 a2 a3 a4 u w hI
  refine z_rd2 hI (fun P hw hc hr pm => ?_)
  have hr' := z_rr0 hr 0
  unfold f_X9_point f_X10_point f_X10_laidTo
  simp only [s9_troubleOf hc hw, s10_refusal hr' hw, Option.bind_some, z_lt]
  rcases z_tr_cases P hw a1 a2 with h | h | ⟨h, x, y, hx, hy, rfl, rfl, tx, ty, hxy⟩
  · exact ⟨-1, by rw [h]; simpa [z_ok_some] using z_eC.rf pm, by rw [h]; simpa [z_ok_some, z_b2] using z_eR0 w⟩
  · exact ⟨-2, by rw [h]; simpa [z_ok_some] using z_eC.rf pm, by rw [h]; simpa [z_ok_some, z_b2] using z_eR0 w⟩
  obtain ⟨u1, w1, k1, k2, k3, k4, k5, k6, k7⟩ := z_two hw hc hr' pm hx hy tx ty hxy
  have k5' := z_eR.tr (z_eR0 w) k5
  have h12 := k3.1
  simp only [h, show ((0 : Int32) ≤ 0) = True by decide, if_true, k1, k4, Option.bind_some, s2_hasChain k3, show z_gI w1 0 18 = nI (z_all P x y).1 from k7.2.1, z_isInN a3 (show (z_all P x y).1 < 100000 by omega)]
  rcases z_chn a3 (show (z_all P x y).1 < 100 by omega) with e | ⟨i, hi, rfl⟩
  · exact ⟨-2, by rw [e]; simpa [z_ok_some, z_bi] using k2, by rw [e]; simpa [z_ok_some, z_bi, z_b2] using k5'⟩
  obtain ⟨c1, c2, c3⟩ := k3.at hi
  have d1 := k7.at hi
  have hci : z_cl (show i < 2 ^ 31 by omega) = z_cl (show i < 2 ^ 31 by omega) := rfl
  rw [z_chn_t hi (by omega)]
  simp only [show ¬ z_bi true = 0 by decide, if_false, z_gI, z_cl (show i < 2 ^ 31 by omega), c1, c2, c3.1, z_gd, if_true, z_b2, Option.bind_some, show ((0 : Int32) ≤ 0) = True by decide, z_ix64 (show i < 64 by omega), d1.1, z_isInN a4 (show ((z_all P x y).2 i).1 + 1 < 100000 by have := d1.2.1; omega)]
  by_cases e1 : a4 < 0
  · exact ⟨-2, by simpa [e1, z_ok_some] using k2, by simpa [e1, z_ok_some, z_bi] using k5'⟩
  obtain ⟨k, hk, rfl⟩ := nI_of e1
  have h8 := d1.2.1
  by_cases e2 : k ≤ ((z_all P x y).2 i).1
  · have e3 := d1.2.2 k e2
    have e4 := c3.2.2.2.1 k e2
    have f1 : nI k ≤ nI ((z_all P x y).2 i).1 := nI_le e2 (by omega)
    have f2 : nI k < nI (((z_all P x y).2 i).1 + 1) := nI_lt (by omega) (by omega)
    refine ⟨nI (((z_all P x y).2 i).2 k), ?_, ?_⟩
    · rw [if_neg e1, if_pos f1, z_in9 (by omega), if_pos rfl, z_ok_some, z_cl (by omega), e4.2]
      exact ⟨rfl, k2⟩
    · rw [decide_eq_true e1, decide_eq_true f2, if_neg (by decide), s10_chainAt (by omega) (by omega), Option.bind_some, z_ok_some, e3.2]
      exact ⟨rfl, k5'⟩
  · have f1 : ¬ nI k ≤ nI ((z_all P x y).2 i).1 := nI_ge (by omega) (by omega)
    have f2 : ¬ nI k < nI (((z_all P x y).2 i).1 + 1) := nI_nlt (by omega) (by omega)
    exact ⟨-2, by simpa [e1, f1, z_ok_some] using k2, by simpa [e1, f2, z_ok_some, z_bi] using k5'⟩
theorem p_labelOf : z_S_labelOf z_Inv := by
  intro a1 a2 a3 a4 u w hI
  refine z_rd2 hI (fun P hw hc hr pm => ?_)
  have hr' := z_rr0 hr 0
  unfold f_X9_labelOf f_X10_labelOf f_X10_laidTo
  simp only [s9_troubleOf hc hw, s10_refusal hr' hw, Option.bind_some, z_lt]
  rcases z_tr_cases P hw a1 a2 with h | h | ⟨h, x, y, hx, hy, rfl, rfl, tx, ty, hxy⟩
  · exact ⟨-1, by rw [h]; simpa [z_ok_some] using z_eC.rf pm, by rw [h]; simpa [z_ok_some, z_b2] using z_eR0 w⟩
  · exact ⟨-2, by rw [h]; simpa [z_ok_some] using z_eC.rf pm, by rw [h]; simpa [z_ok_some, z_b2] using z_eR0 w⟩
  obtain ⟨u1, w1, k1, k2, k3, k4, k5, k6, k7⟩ := z_two hw hc hr' pm hx hy tx ty hxy
  have k5' := z_eR.tr (z_eR0 w) k5
  have h12 := k3.1
  simp only [h, show ((0 : Int32) ≤ 0) = True by decide, if_true, k1, k4, Option.bind_some, s2_hasChain k3, show z_gI w1 0 18 = nI (z_all P x y).1 from k7.2.1, z_isInN a3 (show (z_all P x y).1 < 100000 by omega)]
  rcases z_chn a3 (show (z_all P x y).1 < 100 by omega) with e | ⟨i, hi, rfl⟩
  · exact ⟨-2, by rw [e]; simpa [z_ok_some, z_bi] using k2, by rw [e]; simpa [z_ok_some, z_bi, z_b2] using k5'⟩
  obtain ⟨c1, c2, c3⟩ := k3.at hi
  have d1 := k7.at hi
  rw [z_chn_t hi (by omega)]
  simp only [show ¬ z_bi true = 0 by decide, if_false, z_gI, z_cl (show i < 2 ^ 31 by omega), c1, c2, c3.1, z_gd, if_true, z_b2, Option.bind_some, show ((0 : Int32) ≤ 0) = True by decide, z_ix64 (show i < 64 by omega), d1.1, z_isInN2 a4 (show ((z_all P x y).2 i).1 + 1 < 100000 by have := d1.2.1; omega)]
  by_cases e1 : a4 < 0
  · exact ⟨-2, by simpa [e1, z_ok_some] using k2, by simpa [e1, z_ok_some, z_bi] using k5'⟩
  obtain ⟨k, hk, rfl⟩ := nI_of e1
  have h8 := d1.2.1
  by_cases e2 : k < ((z_all P x y).2 i).1
  · have e4 := c3.2.2.2.2 k e2
    have f1 : nI k < nI ((z_all P x y).2 i).1 := nI_lt e2 (by omega)
    refine ⟨z_lbc P ((z_all P x y).2 i) k, ?_, ?_⟩
    · rw [if_neg e1, if_pos f1, z_in8 (by omega), if_pos rfl, z_ok_some, z_cl (by omega), e4]
      exact ⟨rfl, k2⟩
    · rw [decide_eq_true e1, decide_eq_true f1, if_neg (by decide), s10_labelAt k6 hw (by omega) e2 h8 d1.2.2, Option.bind_some, z_ok_some]
      exact ⟨rfl, k5'⟩
  · have f1 : ¬ nI k < nI ((z_all P x y).2 i).1 := nI_nlt (by omega) (by omega)
    exact ⟨-2, by simpa [e1, f1, z_ok_some] using k2, by simpa [e1, f1, z_ok_some, z_bi] using k5'⟩
theorem p_falls : z_S_falls z_Inv := by
  intro a1 a2 a3 u w hI
  refine z_rd2 hI (fun P hw hc hr pm => ?_)
  have hr' := z_rr0 hr 0
  unfold f_X9_falls f_X10_falls f_X10_laidTo
  simp only [s9_troubleOf hc hw, s10_refusal hr' hw, Option.bind_some, z_lt]
  rcases z_tr_cases P hw a1 a2 with h | h | ⟨h, x, y, hx, hy, rfl, rfl, tx, ty, hxy⟩
  · exact ⟨-1, by rw [h]; simpa [z_ok_some] using z_eC.rf pm, by rw [h]; simpa [z_ok_some, z_b2] using z_eR0 w⟩
  · exact ⟨-2, by rw [h]; simpa [z_ok_some] using z_eC.rf pm, by rw [h]; simpa [z_ok_some, z_b2] using z_eR0 w⟩
  obtain ⟨u1, w1, k1, k2, k3, k4, k5, k6, k7⟩ := z_two hw hc hr' pm hx hy tx ty hxy
  have k5' := z_eR.tr (z_eR0 w) k5
  have h12 := k3.1
  simp only [h, show ((0 : Int32) ≤ 0) = True by decide, if_true, k1, k4, Option.bind_some, s2_hasChain k3, show z_gI w1 0 18 = nI (z_all P x y).1 from k7.2.1, z_isInN a3 (show (z_all P x y).1 < 100000 by omega)]
  rcases z_chn a3 (show (z_all P x y).1 < 100 by omega) with e | ⟨i, hi, rfl⟩
  · exact ⟨-2, by rw [e]; simpa [z_ok_some, z_bi] using k2, by rw [e]; simpa [z_ok_some, z_bi, z_b2] using k5'⟩
  obtain ⟨c1, c2, c3⟩ := k3.at hi
  have d1 := k7.at hi
  rw [z_chn_t hi (by omega)]
  simp only [show ¬ z_bi true = 0 by decide, if_false, z_gI, z_cl (show i < 2 ^ 31 by omega), c1, c2, s1_fallSet c3, z_gd, if_true, z_b2, Option.bind_some, show ((0 : Int32) ≤ 0) = True by decide, s10_fallsOf k6 hw (show i < 12 by omega) d1, z_ok_some]
  exact ⟨_, ⟨rfl, k2⟩, rfl, k5'⟩
/-! counting chains -/
theorem s2_withFalls {S : z_St} (h : z_rcC u P S) (f : Int32) : f_X2_withFalls f u = some (nI (fb_ct (fun i => decide (nI (z_fll P (S.2 i)) = f)) S.1)) := by
  unfold f_X2_withFalls
  have h12 := h.1
  refine z_lpr (fun t => (nI (fb_ct (fun i => decide (nI (z_fll P (S.2 i)) = f)) t), nI t)) _ S.1 (z_F_lt (by omega)) (fun t ht kb => ?_) (fun kb => ?_)
  · obtain ⟨c1, c2, c3⟩ := h.at ht
    unfold b_X2_withFalls_4
    dsimp only
    rw [z_gI, h.2.1, if_neg (nI_ge ht (by omega)), z_gI, z_cl (show t < 2 ^ 31 by omega), c1, c2, s1_fallSet c3, z_1 t, fb_ct_succ]
    simp only [z_gd, if_true, Option.bind_some]
    by_cases e : nI (z_fll P (S.2 t)) = f
    · rw [if_pos e, decide_eq_true e, z_1]; rfl
    · rw [if_neg e, decide_eq_false e]; rfl
  · unfold b_X2_withFalls_4
    dsimp only
    rw [z_gI, h.2.1, if_pos (nI_le (Nat.le_refl _) (by omega))]
theorem p_falling : z_S_falling z_Inv := by
  intro a1 a2 a3 u w hI
  refine z_rd2 hI (fun P hw hc hr pm => ?_)
  have hr' := z_rr0 hr 0
  unfold f_X9_falling f_X10_falling j_X10_falling_j22
  rcases z_set_cases a3 with ⟨g1, g2⟩ | ⟨s, hs, hs0, rfl, g1, g2⟩
  · exact ⟨-1, by rw [g1, Option.bind_some, if_pos rfl]; simpa [z_ok_some] using z_eC.rf pm, by rw [z_ok_lt, g2, Option.bind_some, if_pos rfl]; simpa [z_ok_some] using z_eR0 w⟩
  rw [g1, Option.bind_some, if_neg (show ¬ (1 : Int32) = 0 by decide), s9_troubleOf hc hw, Option.bind_some, z_lt, g2, Option.bind_some, if_neg (show ¬ (1 : Int32) = 0 by decide), s10_refusal hr' hw, Option.bind_some]
  rcases z_tr_cases P hw a1 a2 with h | h | ⟨h, x, y, hx, hy, rfl, rfl, tx, ty, hxy⟩
  · exact ⟨-1, by rw [h]; simpa [z_ok_some] using z_eC.rf pm, by rw [h]; simpa [z_ok_some] using z_eR0 w⟩
  · exact ⟨-2, by rw [h]; simpa [z_ok_some] using z_eC.rf pm, by rw [h]; simpa [z_ok_some] using z_eR0 w⟩
  obtain ⟨u1, w1, k1, k2, k3, k4, k5, k6, k7⟩ := z_two hw hc hr' pm hx hy tx ty hxy
  have k5' := z_eR.tr (z_eR0 w) k5
  have h12 := k3.1
  refine ⟨nI (fb_ct (fun i => decide (nI (z_fll P ((z_all P x y).2 i)) = nI s)) (z_all P x y).1), ?_, ?_⟩
  · rw [h, if_pos rfl, k1, Option.bind_some, s2_withFalls k3, Option.bind_some, z_ok_some]
    exact ⟨rfl, k2⟩
  · rw [h, if_pos (by decide), k4, Option.bind_some]
    refine z_ok_of (r := (nI (fb_ct (fun i => decide (nI (z_fll P ((z_all P x y).2 i)) = nI s)) (z_all P x y).1), w1)) ?_ ⟨rfl, k5'⟩
    refine z_lpr (fun t => (nI (fb_ct (fun i => decide (nI (z_fll P ((z_all P x y).2 i)) = nI s)) t), nI t)) _ (z_all P x y).1 (z_F_lt (by omega)) (fun t ht kb => ?_) (fun kb => ?_)
    · unfold b_X10_falling_44
      dsimp only
      rw [show z_gI w1 0 18 = nI (z_all P x y).1 from k7.2.1, if_neg (nI_ge ht (by omega)), s10_fallsOf k6 hw (show t < 12 by omega) (k7.at ht), Option.bind_some, z_1 t, fb_ct_succ]
      by_cases e : nI (z_fll P ((z_all P x y).2 t)) = nI s
      · rw [if_pos e, decide_eq_true e, z_1]; rfl
      · rw [if_neg e, decide_eq_false e, Int32.add_zero]; rfl
    · unfold b_X10_falling_44
      dsimp only
      rw [show z_gI w1 0 18 = nI (z_all P x y).1 from k7.2.1, if_pos (nI_le (Nat.le_refl _) (by omega))]
end
