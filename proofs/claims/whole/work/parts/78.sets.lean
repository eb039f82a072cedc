section
variable {u w : z_M} {P : z_P}
/-! Counting by going to and fro. -/
theorem z_ct_le {p q : Nat → Bool} {n m : Nat} (f : Nat → Nat) (h1 : ∀ i, i < n → p i = true → f i < m ∧ q (f i) = true) (h2 : ∀ i j, i < n → j < n → p i = true → p j = true → f i = f j → i = j) : fb_ct p n ≤ fb_ct q m := by
  have hc : ∀ k, ∃ i, k < fb_ct p n → i < n ∧ p i = true ∧ fb_ct p i = k := fun k => by
    by_cases h : k < fb_ct p n
    · obtain ⟨i, hi⟩ := fb_ct_kth h
      exact ⟨i, fun _ => hi⟩
    · exact ⟨0, fun h' => absurd h' h⟩
  have hlt : ∀ a, a < m → q a = true → fb_ct q a < fb_ct q m := fun a ha hq => by
    have := fb_ct_mono q (show a + 1 ≤ m by omega)
    rw [fb_ct_succ, hq] at this
    simp only [if_true] at this
    omega
  refine fb_holes (fb_ct q m) (fb_ct p n) (fun k => fb_ct q (f (Classical.choose (hc k)))) (fun k hk => ?_) (fun k l hkl hl e => ?_)
  · obtain ⟨a1, a2, a3⟩ := Classical.choose_spec (hc k) hk
    obtain ⟨b1, b2⟩ := h1 _ a1 a2
    exact hlt _ b1 b2
  · obtain ⟨a1, a2, a3⟩ := Classical.choose_spec (hc k) (by omega)
    obtain ⟨c1, c2, c3⟩ := Classical.choose_spec (hc l) hl
    have e1 := fb_ct_kth_one (h1 _ a1 a2).2 (h1 _ c1 c2).2 e
    have e2 := h2 _ _ a1 c1 a2 c2 e1
    rw [e2] at a3
    omega
theorem z_ct_spl (p q : Nat → Bool) : ∀ n, fb_ct p n = fb_ct (fun s => p s && !q s) n + fb_ct (fun s => p s && q s) n
  | 0 => rfl
  | n + 1 => by
    rw [fb_ct_succ, fb_ct_succ, fb_ct_succ, z_ct_spl p q n]
    cases p n <;> cases q n <;> simp <;> omega
theorem z_ct_part {p : Nat → Bool} {g : Nat → Nat} : ∀ n, (∀ i, i < n → p i = true → g i < 9) → fb_ct p n = fb_sm (fun y => fb_ct (fun i => p i && decide (g i = y)) n) 9
  | 0, _ => by
    show 0 = fb_sm (fun y => 0) 9
    rw [z_sm_0 _ (fun _ => rfl)]
  | n + 1, h => by
    have ih := z_ct_part (p := p) (g := g) n (fun i hi => h i (by omega))
    have e : fb_sm (fun y => fb_ct (fun i => p i && decide (g i = y)) (n + 1)) 9 = fb_sm (fun y => fb_ct (fun i => p i && decide (g i = y)) n + (if (p n && decide (g n = y)) = true then 1 else 0)) 9 := rfl
    rw [e, fb_sm_add, ← ih, fb_ct_succ]
    congr 1
    cases hp : p n
    · simp only [Bool.false_and, Bool.false_eq_true, if_false]
      rw [z_sm_0 _ (fun _ => rfl)]
    · have hg := h n (by omega) hp
      have e2 : fb_sm (fun y => if (true && decide (g n = y)) = true then 1 else 0) 9 = fb_sm (fun y => if y = g n then 1 else 0) 9 := fb_sm_cong (fun y _ => by
        by_cases hy : y = g n
        · simp [hy]
        · have : ¬ g n = y := fun e => hy e.symm
          simp [hy, this])
      rw [e2, z_sm_one (fun _ => 1) 9 hg]
      rfl
/-! parts of sets -/
def z_sb (s o : Nat) : Bool := z_df s o == 0
theorem z_sb_iff {s o : Nat} (hs : s < 512) : z_sb s o = true ↔ ∀ k, k < 9 → s.testBit k = true → o.testBit k = true := by
  unfold z_sb
  rw [beq_iff_eq]
  constructor
  · intro h k hk hb
    have : (z_df s o).testBit k = false := by rw [h, Nat.zero_testBit]
    rw [z_df_bit, hb, Bool.true_and] at this
    simpa using this
  · intro h
    refine z_ext (z_df_lt hs) (by decide) (fun k hk => ?_)
    rw [z_df_bit, Nat.zero_testBit]
    cases hb : s.testBit k
    · rfl
    · rw [h k hk hb]; rfl
theorem z_df_sb {s o : Nat} : (z_df s o = 0) = (z_sb s o = true) := by unfold z_sb; simp
theorem z_put_rest {x s : Nat} (h : s.testBit x = true) : z_rest x s ||| 2 ^ x = s := by
  apply Nat.eq_of_testBit_eq
  intro k
  rw [z_put_bit, z_rest_bit]
  by_cases e : k = x
  · subst e; simp [h]
  · simp [e]
theorem z_rest_put {x s : Nat} (h : s.testBit x = false) : z_rest x (s ||| 2 ^ x) = s := by
  apply Nat.eq_of_testBit_eq
  intro k
  rw [z_rest_bit, z_put_bit]
  by_cases e : k = x
  · subst e; simp [h]
  · simp [e]
theorem z_pc_put {x s : Nat} (hx : x < 9) (h : s.testBit x = false) : z_pc (s ||| 2 ^ x) = z_pc s + 1 := by
  have := z_pc_rest (a := s ||| 2 ^ x) hx (by rw [z_put_bit]; simp)
  rw [z_rest_put h] at this
  omega
theorem z_rest_ne {x s : Nat} (hx : x < 9) (hs : s < 512) (h : s.testBit x = true) : z_rest x s < s := by
  have e := z_put_rest h
  have : z_rest x s ≠ s := by
    intro e2
    have h1 : (z_rest x s).testBit x = true := by rw [e2]; exact h
    rw [z_rest_bit] at h1
    simp at h1
  have : z_rest x s ≤ s := Nat.and_le_left
  omega
/-! unions -/
def z_orn (f : Nat → Nat) : Nat → Nat
  | 0 => 0
  | n + 1 => z_orn f n ||| f n
theorem z_orn_bit {f : Nat → Nat} {k : Nat} : ∀ n, (z_orn f n).testBit k = true ↔ ∃ x, x < n ∧ (f x).testBit k = true
  | 0 => by simp [z_orn]
  | n + 1 => by
    rw [z_orn, Nat.testBit_or, Bool.or_eq_true, z_orn_bit n]
    constructor
    · rintro (⟨x, hx, h⟩ | h)
      · exact ⟨x, by omega, h⟩
      · exact ⟨n, by omega, h⟩
    · rintro ⟨x, hx, h⟩
      by_cases e : x = n
      · rw [e] at h; exact Or.inr h
      · exact Or.inl ⟨x, by omega, h⟩
theorem z_orn_lt {f : Nat → Nat} : ∀ n, (∀ x, x < n → f x < 512) → z_orn f n < 512
  | 0, _ => (by show 0 < 512; decide)
  | n + 1, h => z_or_lt (z_orn_lt n (fun x hx => h x (by omega))) (h n (by omega))
def z_sab (P : z_P) (s : Nat) : Nat := z_orn (fun x => if s.testBit x then z_ab P x else 0) 9
def z_sun (P : z_P) (s : Nat) : Nat := z_orn (fun x => if s.testBit x then z_un P x else 0) 9
theorem z_sab_lt (hw : z_wf P) (s : Nat) : z_sab P s < 512 := z_orn_lt 9 (fun x hx => by
  try dsimp only
  split
  · exact hw.ab x hx
  · decide)
theorem z_sun_lt (s : Nat) : z_sun P s < 512 := z_orn_lt 9 (fun x hx => by
  try dsimp only
  split
  · exact z_un_lt P x
  · decide)
theorem z_sab_bit {s k : Nat} : (z_sab P s).testBit k = true ↔ ∃ x, x < 9 ∧ s.testBit x = true ∧ (z_ab P x).testBit k = true := by
  unfold z_sab
  rw [z_orn_bit]
  constructor
  · rintro ⟨x, hx, h⟩
    by_cases hb : s.testBit x = true
    · rw [if_pos hb] at h; exact ⟨x, hx, hb, h⟩
    · rw [if_neg hb, Nat.zero_testBit] at h; cases h
  · rintro ⟨x, hx, h1, h2⟩
    exact ⟨x, hx, by rw [if_pos h1]; exact h2⟩
theorem z_sun_bit {s k : Nat} (hk : k < 9) : (z_sun P s).testBit k = true ↔ ∃ x, x < 9 ∧ s.testBit x = true ∧ (z_ab P k).testBit x = true := by
  unfold z_sun
  rw [z_orn_bit]
  constructor
  · rintro ⟨x, hx, h⟩
    by_cases hb : s.testBit x = true
    · rw [if_pos hb, z_un_bit P hk] at h; exact ⟨x, hx, hb, h⟩
    · rw [if_neg hb, Nat.zero_testBit] at h; cases h
  · rintro ⟨x, hx, h1, h2⟩
    exact ⟨x, hx, by rw [if_pos h1, z_un_bit P hk]; exact h2⟩
theorem s10_someAbove (hr : z_rr (w.1 1) P) {s : Nat} (hs : s < 512) (hst : z_sb s (z_th P) = true) : f_X10_someAbove (nI s) w = some (nI (z_sab P s)) := by
  rw [← z_ok_eq]
  unfold f_X10_someAbove
  refine z_ok_l9 (fun j q => q = (nI (z_orn (fun x => if s.testBit x then z_ab P x else 0) j), nI j)) rfl ?_ ?_
  · rintro j q hi rfl kb hk
    unfold b_X10_someAbove_4
    simp only [z_le9 hi, z_le9n hi, z_in9 hi, z_c9 hi, z_sh hi, z_is_nI hi, if_false, if_true, Option.bind_some, z_ok_gd, z_ok_lt, z_ok_some, z_ok_ite, z_ok_bind, z_ok_b2, z_bi_0, Bool.not_eq_false, z_gI, z_and, z_or, z_andc, z_1, true_and, and_true, s_has (z_31 hs) hi, z_or0]
    refine ⟨fun h => hk _ ?_, fun h => ?_⟩
    · rw [z_orn]; simp [h]
    · rw [s10_aboveT hr hi ((z_sb_iff hs).mp hst j hi h), z_ok_some, z_or]
      refine hk _ ?_
      rw [z_orn]; simp [h]
  · rintro q rfl kb
    unfold b_X10_someAbove_4
    simp only [z_99, if_true, z_ok_some]
    rfl
theorem s10_someBelow (hr : z_rr (w.1 1) P) (hw : z_wf P) {s : Nat} (hs : s < 512) (hst : z_sb s (z_th P) = true) : f_X10_someBelow (nI s) w = some (nI (z_sun P s)) := by
  rw [← z_ok_eq]
  unfold f_X10_someBelow
  refine z_ok_l9 (fun j q => q = (nI (z_orn (fun x => if s.testBit x then z_un P x else 0) j), nI j)) rfl ?_ ?_
  · rintro j q hi rfl kb hk
    unfold b_X10_someBelow_4
    simp only [z_le9 hi, z_le9n hi, z_in9 hi, z_c9 hi, z_sh hi, z_is_nI hi, if_false, if_true, Option.bind_some, z_ok_gd, z_ok_lt, z_ok_some, z_ok_ite, z_ok_bind, z_ok_b2, z_bi_0, Bool.not_eq_false, z_gI, z_and, z_or, z_andc, z_1, true_and, and_true, s_has (z_31 hs) hi, z_or0]
    refine ⟨fun h => hk _ ?_, fun h => ?_⟩
    · rw [z_orn]; simp [h]
    · rw [s10_belowT hr hw hi ((z_sb_iff hs).mp hst j hi h), z_ok_some, z_or]
      refine hk _ ?_
      rw [z_orn]; simp [h]
  · rintro q rfl kb
    unfold b_X10_someBelow_4
    simp only [z_99, if_true, z_ok_some]
    rfl
/-- none below another one -/
def z_acb (P : z_P) (s : Nat) : Bool := (z_sab P s &&& s) == 0
theorem z_acb_iff (hw : z_wf P) {s : Nat} : z_acb P s = true ↔ ∀ x y, x < 9 → y < 9 → s.testBit x = true → s.testBit y = true → (z_ab P x).testBit y = false := by
  unfold z_acb
  rw [beq_iff_eq]
  constructor
  · intro h x y hx hy h1 h2
    have : (z_sab P s &&& s).testBit y = false := by rw [h, Nat.zero_testBit]
    rw [Nat.testBit_and, h2, Bool.and_true] at this
    cases hb : (z_ab P x).testBit y
    · rfl
    · rw [z_sab_bit.mpr ⟨x, hx, h1, hb⟩] at this; cases this
  · intro h
    refine z_ext (z_and_lt _ (z_sab_lt hw s)) (by decide) (fun k hk => ?_)
    rw [Nat.testBit_and, Nat.zero_testBit]
    cases hb : (z_sab P s).testBit k
    · rfl
    · obtain ⟨x, hx, h1, h2⟩ := z_sab_bit.mp hb
      cases hk2 : s.testBit k
      · rfl
      · rw [h x k hx hk h1 hk2] at h2; cases h2
/-- points of a set from x on -/
def z_hi' (x o : Nat) : Nat := z_mk (fun k => decide (x ≤ k) && o.testBit k) 9
theorem z_hi'_bit {x o k : Nat} (hk : k < 9) : (z_hi' x o).testBit k = (decide (x ≤ k) && o.testBit k) := by simp [z_hi', z_mk_bit, hk]
theorem z_hi'_lt (x o : Nat) : z_hi' x o < 512 := z_mk_lt _ 9
theorem z_hi'_0 {o : Nat} (ho : o < 512) : z_hi' 0 o = o := z_ext (z_hi'_lt _ _) ho (fun k hk => by rw [z_hi'_bit hk]; simp)
theorem z_hi'_9 {o : Nat} : z_hi' 9 o = 0 := z_ext (z_hi'_lt _ _) (by decide) (fun k hk => by rw [z_hi'_bit hk]; simp [show ¬ 9 ≤ k by omega])
/-- a set goes from x on, with none of x: from the next on -/
theorem z_hi'_no {x o s : Nat} (hs : s < 512) (h : s.testBit x = false) : z_sb s (z_hi' x o) = z_sb s (z_hi' (x + 1) o) := by
  rw [Bool.eq_iff_iff, z_sb_iff hs, z_sb_iff hs]
  constructor
  · intro hh k hk hb
    have h5 := hh k hk hb
    rw [z_hi'_bit hk, Bool.and_eq_true, decide_eq_true_eq] at h5 ⊢
    have h6 : k ≠ x := by rintro rfl; rw [h] at hb; cases hb
    exact ⟨by omega, h5.2⟩
  · intro hh k hk hb
    have := hh k hk hb
    rw [z_hi'_bit hk, Bool.and_eq_true, decide_eq_true_eq] at this ⊢
    exact ⟨by omega, this.2⟩
def z_cut (P : z_P) (x o : Nat) : Nat := z_df (z_df o (z_ab P x)) (z_un P x)
theorem z_cut_bit {x o k : Nat} (hk : k < 9) : (z_cut P x o).testBit k = (o.testBit k && !(z_ab P x).testBit k && !(z_ab P k).testBit x) := by
  rw [z_cut, z_df_bit, z_df_bit, z_un_bit P hk]
theorem z_cut_lt {x o : Nat} (ho : o < 512) : z_cut P x o < 512 := z_df_lt (z_df_lt ho)
/-- with x: what is left of it is a set of the cut -/
theorem z_ac_put (hw : z_wf P) {x o s : Nat} (hx : x < 9) (hs : s < 512) (hox : o.testBit x = true) (h1 : z_sb s (z_hi' (x + 1) (z_cut P x o)) = true) (h2 : z_acb P s = true) : s.testBit x = false ∧ z_sb (s ||| 2 ^ x) (z_hi' x o) = true ∧ z_acb P (s ||| 2 ^ x) = true := by
  rw [z_sb_iff hs] at h1
  rw [z_acb_iff hw] at h2
  have hb : ∀ k, k < 9 → s.testBit k = true → x + 1 ≤ k ∧ o.testBit k = true ∧ (z_ab P x).testBit k = false ∧ (z_ab P k).testBit x = false := by
    intro k hk hb
    have := h1 k hk hb
    rw [z_hi'_bit hk, z_cut_bit hk] at this
    simp only [Bool.and_eq_true, decide_eq_true_eq, Bool.not_eq_true'] at this
    exact ⟨this.1, this.2.1.1, this.2.1.2, this.2.2⟩
  refine ⟨?_, ?_, ?_⟩
  · cases h : s.testBit x
    · rfl
    · have := (hb x hx h).1; omega
  · rw [z_sb_iff (z_or_lt hs (z_pw_lt hx))]
    intro k hk hk2
    rw [z_put_bit, Bool.or_eq_true, decide_eq_true_eq] at hk2
    rw [z_hi'_bit hk, Bool.and_eq_true, decide_eq_true_eq]
    rcases hk2 with h | rfl
    · exact ⟨by have := (hb k hk h).1; omega, (hb k hk h).2.1⟩
    · exact ⟨Nat.le_refl _, hox⟩
  · rw [z_acb_iff hw]
    intro a b ha hb' h3 h4
    rw [z_put_bit, Bool.or_eq_true, decide_eq_true_eq] at h3 h4
    rcases h3 with h3 | rfl
    · rcases h4 with h4 | rfl
      · exact h2 a b ha hb' h3 h4
      · exact (hb a ha h3).2.2.2
    · rcases h4 with h4 | rfl
      · exact (hb b hb' h4).2.2.1
      · exact hw.irr b hb'
theorem z_ac_rest (hw : z_wf P) {x o s : Nat} (hx : x < 9) (hs : s < 512) (hsx : s.testBit x = true) (h1 : z_sb s (z_hi' x o) = true) (h2 : z_acb P s = true) : o.testBit x = true ∧ z_sb (z_rest x s) (z_hi' (x + 1) (z_cut P x o)) = true ∧ z_acb P (z_rest x s) = true := by
  rw [z_sb_iff hs] at h1
  rw [z_acb_iff hw] at h2
  have hb : ∀ k, k < 9 → s.testBit k = true → x ≤ k ∧ o.testBit k = true := by
    intro k hk hb
    have := h1 k hk hb
    rw [z_hi'_bit hk, Bool.and_eq_true, decide_eq_true_eq] at this
    exact this
  refine ⟨(hb x hx hsx).2, ?_, ?_⟩
  · rw [z_sb_iff (z_rest_lt hs)]
    intro k hk hk2
    rw [z_rest_bit, Bool.and_eq_true, Bool.not_eq_true', decide_eq_false_iff_not] at hk2
    obtain ⟨g1, g2⟩ := hb k hk hk2.1
    rw [z_hi'_bit hk, z_cut_bit hk, g2, h2 x k hx hk hsx hk2.1, h2 k x hk hx hk2.1 hsx]
    simp
    omega
  · rw [z_acb_iff hw]
    intro a b ha hb' h3 h4
    rw [z_rest_bit, Bool.and_eq_true] at h3 h4
    exact h2 a b ha hb' h3.1 h4.1
theorem z_cutI (hr : z_rc u 0 P) {x o : Nat} (hx : x < 9) : (nI o &&& (u.1 (0 + 1) x ^^^ (-1))) &&& (u.1 (0 + 2) x ^^^ (-1)) = nI (z_cut P x o) := by
  rw [hr.2.2.2.1 x hx, hr.2.2.2.2.1 x hx, z_andc, z_andc]
  rfl
/-! width -/
theorem z_mxn_s (f : Nat → Nat) (n : Nat) : z_mxn f (n + 1) = if z_mxn f n < f n then f n else z_mxn f n := rfl
theorem s6_widest (hr : z_rc u 0 P) (hw : z_wf P) : ∀ d x o, x + d = 9 → o < 512 → ∀ F, d < F → ∃ m, m ≤ 9 ∧ f_X6_widest F 0 (nI o) (nI x) u = some (nI m) ∧ (∃ s, s < 512 ∧ z_sb s (z_hi' x o) = true ∧ z_acb P s = true ∧ z_pc s = m) ∧ ∀ s, s < 512 → z_sb s (z_hi' x o) = true → z_acb P s = true → z_pc s ≤ m
  | 0, x, o, hd, ho, F, hF => by
    match F, hF with
    | F + 1, _ =>
      have hx : x = 9 := by omega
      subst hx
      refine ⟨0, by decide, ?_, ⟨0, by decide, ?_, ?_, z_pc_0⟩, fun s hs h1 _ => ?_⟩
      · show fb_X6_widest _ _ _ _ _ = _
        unfold fb_X6_widest
        rw [if_neg (by decide)]
        rfl
      · rw [z_sb_iff (by decide)]; intro k _ h; rw [Nat.zero_testBit] at h; cases h
      · rw [z_acb_iff hw]; intro a b _ _ h; rw [Nat.zero_testBit] at h; cases h
      · rw [z_hi'_9, z_sb_iff hs] at h1
        have : s = 0 := z_ext hs (by decide) (fun k hk => by
          rw [Nat.zero_testBit]
          cases hb : s.testBit k
          · rfl
          · have := h1 k hk hb
            rw [Nat.zero_testBit] at this; cases this)
        rw [this, z_pc_0]
        exact Nat.le_refl _
  | d + 1, x, o, hd, ho, F, hF => by
    match F, hF with
    | F + 1, hF =>
      have hx : x < 9 := by omega
      obtain ⟨m1, b1, r1, ⟨s1, t1, t2, t3, t4⟩, m1u⟩ := s6_widest hr hw d (x + 1) o (by omega) ho F (by omega)
      have hlt : nI x < 9 := nI_lt (b := 9) hx (by decide)
      have hF' : f_X6_widest (F + 1) 0 (nI o) (nI x) u = fb_X6_widest (f_X6_widest F) 0 (nI o) (nI x) u := rfl
      have hs1x : s1.testBit x = false := by
        cases hb : s1.testBit x
        · rfl
        · have := (z_sb_iff t1).mp t2 x hx hb
          rw [z_hi'_bit hx, Bool.and_eq_true, decide_eq_true_eq] at this
          omega
      rw [hF']
      unfold fb_X6_widest
      rw [if_pos hlt, z_1, r1, Option.bind_some, s_isIn ho, Option.bind_some, z_is_nI hx]
      cases hox : o.testBit x
      · rw [if_pos z_bf0]
        refine ⟨m1, b1, rfl, ⟨s1, t1, by rw [z_hi'_no t1 hs1x]; exact t2, t3, t4⟩, fun s hs h1 h2 => ?_⟩
        have hsx : s.testBit x = false := by
          cases hb : s.testBit x
          · rfl
          · have := (z_sb_iff hs).mp h1 x hx hb
            rw [z_hi'_bit hx, hox] at this
            simp at this
        rw [z_hi'_no hs hsx] at h1
        exact m1u s hs h1 h2
      · rw [if_neg (show ¬ z_bi true = 0 by decide)]
        obtain ⟨m2, b2, r2, ⟨s2, v1, v2, v3, v4⟩, m2u⟩ := s6_widest hr hw d (x + 1) (z_cut P x o) (by omega) (z_cut_lt ho) F (by omega)
        have hcut := z_cutI hr (o := o) hx
        have e1 : (1 : Int32) + nI m2 = nI (m2 + 1) := by rw [show (1 : Int32) = nI 1 from rfl, z_addI, Nat.add_comm]
        obtain ⟨p1, p2, p3⟩ := z_ac_put hw hx v1 hox v2 v3
        have hp9 : m2 + 1 ≤ 9 := by
          have := z_pc_le (s2 ||| 2 ^ x)
          rw [z_pc_put hx p1, v4] at this
          exact this
        simp only [z_in9 hx, z_gd, if_true, z_gI, z_c9 hx, hcut, r2, Option.bind_some, z_lt, e1, z_ltI (show m1 < 2 ^ 31 by omega) (show m2 + 1 < 2 ^ 31 by omega)]
        refine ⟨if m1 < m2 + 1 then m2 + 1 else m1, by split <;> omega, by split <;> rfl, ?_, fun s hs h1 h2 => ?_⟩
        · split
          · exact ⟨s2 ||| 2 ^ x, z_or_lt v1 (z_pw_lt hx), p2, p3, by rw [z_pc_put hx p1, v4]⟩
          · exact ⟨s1, t1, by rw [z_hi'_no t1 hs1x]; exact t2, t3, t4⟩
        · cases hsx : s.testBit x
          · rw [z_hi'_no hs hsx] at h1
            have := m1u s hs h1 h2
            split <;> omega
          · obtain ⟨-, g2, g3⟩ := z_ac_rest hw hx hs hsx h1 h2
            have := m2u _ (z_rest_lt hs) g2 g3
            have := z_pc_rest hx hsx
            split <;> omega
theorem z_512 {i : Nat} (h : i < 512) : ((512 : Int32) ≤ nI i) = False := eq_false (nI_ge (a := i) (b := 512) h (by decide))
theorem z_512e : ((512 : Int32) ≤ nI 512) = True := by decide
theorem p_width : z_S_width z_Inv := by
  intro u w hI
  refine z_rd hI (fun P hw hc hr => ?_)
  have hr' := z_rr0 hr 0
  unfold f_X9_width f_X10_width
  simp only [s9_isOrder hc hw, s10_isTold hr' hw, Option.bind_some, z_lt, z_bi_0, z_gI, hc.2.1]
  by_cases ht : 0 < z_td P
  · obtain ⟨m, hm9, hm, ⟨s0, t1, t2, t3, t4⟩, hmu⟩ := s6_widest hc hw 9 0 (z_th P) rfl hw.th 14 (by decide)
    rw [z_hi'_0 hw.th] at t2
    rw [z_hi'_0 hw.th] at hmu
    have hm : f_X6_widest 14 0 (nI (z_th P)) 0 u = some (nI m) := hm
    have hg9 : ∀ n, z_mxn (fun s => if z_sb s (z_th P) && z_acb P s then z_pc s else 0) n ≤ 9 := fun n => z_mxn_le n (fun k _ => by
      try dsimp only
      split
      · exact z_pc_le k
      · omega)
    have hfin : m = z_mxn (fun s => if z_sb s (z_th P) && z_acb P s then z_pc s else 0) 512 := by
      apply Nat.le_antisymm
      · have := z_mxn_ge (f := fun s => if z_sb s (z_th P) && z_acb P s then z_pc s else 0) 512 t1
        try dsimp only at this
        rw [t2, t3] at this
        simpa [t4] using this
      · refine z_mxn_le 512 (fun s hs => ?_)
        try dsimp only
        split
        · rename_i h
          rw [Bool.and_eq_true] at h
          exact hmu s hs h.1 h.2
        · omega
    refine ⟨nI m, ?_, ?_⟩
    · simp only [ht, decide_true, Bool.true_eq_false, if_false, hm, Option.bind_some]
    · simp only [ht, decide_true, Bool.true_eq_false, if_false]
      refine z_ok_lp (fun j q => q = (nI (z_mxn (fun s => if z_sb s (z_th P) && z_acb P s then z_pc s else 0) (j + 1)), nI (j + 1))) 511 (by decide) ?_ ?_ ?_
      · have : z_mxn (fun s => if z_sb s (z_th P) && z_acb P s then z_pc s else 0) 1 = 0 := by
          have := z_mxn_le (f := fun s => if z_sb s (z_th P) && z_acb P s then z_pc s else 0) (c := 0) 1 (fun k hk => by
            have : k = 0 := by omega
            subst this
            try dsimp only
            split
            · rw [z_pc_0]; exact Nat.le_refl _
            · omega)
          omega
        rw [this]
        rfl
      · rintro j q hj rfl kb hk
        have hs : j + 1 < 512 := by omega
        have h1 := hr'.2.1
        have hb9 := hg9 (j + 1)
        have hp9 := z_pc_le (j + 1)
        unfold b_X10_width_18 j_X10_width_j52 j_X10_width_j53
        simp only [z_512 hs, if_false, z_ok_gd, show z_inb 1 93 = true from rfl, true_and, z_gI, z_c1, h1, z_andc, z_df0 hs, z_ok_ite, if_true, show ((1 : Int32) = 0) = False by decide, s_bits hs, Option.bind_some, z_leI (show z_pc (j + 1) < 2 ^ 31 by omega) (show z_mxn (fun s => if z_sb s (z_th P) && z_acb P s then z_pc s else 0) (j + 1) < 2 ^ 31 by omega), z_1, z_df_sb]
        refine ⟨fun hsb => ?_, fun hsb => hk _ ?_⟩
        · rw [s10_someAbove hr' hs hsb, Option.bind_some, z_and, z_ok_ite]
          refine ⟨fun hac => ?_, fun hac => hk _ ?_⟩
          · rw [z_and0 (z_sab_lt hw _)] at hac
            have hac' : z_acb P (j + 1) = true := by unfold z_acb; rw [hac]; rfl
            rw [z_ok_ite]
            refine ⟨fun hle => hk _ ?_, fun hle => hk _ ?_⟩
            · rw [z_mxn_s _ (j + 1)]
              simp only [hsb, hac', Bool.and_self, if_true]
              rw [if_neg (by omega)]
            · rw [z_mxn_s _ (j + 1)]
              simp only [hsb, hac', Bool.and_self, if_true]
              rw [if_pos (by omega)]
          · rw [z_and0 (z_sab_lt hw _)] at hac
            have hac' : z_acb P (j + 1) = false := by unfold z_acb; simp [hac]
            rw [z_mxn_s _ (j + 1)]
            simp [hac']
        · have hsb' : z_sb (j + 1) (z_th P) = false := by simpa using hsb
          rw [z_mxn_s _ (j + 1)]
          simp [hsb']
      · rintro q rfl kb
        unfold b_X10_width_18
        simp only [show ((512 : Int32) ≤ nI (511 + 1)) = True by decide, if_true, z_ok_some]
        exact ⟨by rw [hfin], z_eR0 w⟩
  · exact ⟨-1, by simp [ht], by simpa [ht, z_ok_some] using z_eR0 w⟩
end
