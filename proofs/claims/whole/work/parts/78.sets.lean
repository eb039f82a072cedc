section
variable {u w : z_M} {P : z_P}
/-! Counting by going to and fro. -/
theorem z_ct_le {p q : Nat → Bool} {n m : Nat} (f : Nat → Nat) (h1 : ∀ i, i < n → p i = true → f i < m ∧ q (f i) = true) (h2 : ∀ i j, i < n → j < n → p i = true → p j = true → f i = f j → i = j) : fb_ct p n ≤ fb_ct q m := by
  have hc : ∀ k, ∃ i, k < fb_ct p n → i < n ∧ p i = true ∧ fb_ct p i = k := fun k => by
    by_cases h : k < fb_ct p n
    · obtain ⟨i, hi⟩ := fb_ct_kth h
      exact ⟨i, fun _ => hi⟩
    · exact ⟨0, fun h' => absurd h' h⟩
  have hlt : ∀ a, a < m → q a = true → fb_ct q a < fb_ct q m := fun a ha hq => by
    have := fb_ct_mono q (show a + 1 ≤ m by omega)
    rw [fb_ct_succ, hq] at this
    simp only [if_true] at this
    omega
  refine fb_holes (fb_ct q m) (fb_ct p n) (fun k => fb_ct q (f (Classical.choose (hc k)))) (fun k hk => ?_) (fun k l hkl hl e => ?_)
  · obtain ⟨a1, a2, a3⟩ := Classical.choose_spec (hc k) hk
    obtain ⟨b1, b2⟩ := h1 _ a1 a2
    exact hlt _ b1 b2
  · obtain ⟨a1, a2, a3⟩ := Classical.choose_spec (hc k) (by omega)
    obtain ⟨c1, c2, c3⟩ := Classical.choose_spec (hc l) hl
    have e1 := fb_ct_kth_one (h1 _ a1 a2).2 (h1 _ c1 c2).2 e
    have e2 := h2 _ _ a1 c1 a2 c2 e1
    rw [e2] at a3
    omega
theorem z_ct_spl (p q : Nat → Bool) : ∀ n, fb_ct p n = fb_ct (fun s => p s && !q s) n + fb_ct (fun s => p s && q s) n
  | 0 => rfl
  | n + 1 => by
    rw [fb_ct_succ, fb_ct_succ, fb_ct_succ, z_ct_spl p q n]
    cases p n <;> cases q n <;> simp <;> omega
theorem z_ct_part {p : Nat → Bool} {g : Nat → Nat} : ∀ n, (∀ i, i < n → p i = true → g i < 9) → fb_ct p n = fb_sm (fun y => fb_ct (fun i => p i && decide (g i = y)) n) 9
  | 0, _ => by
    show 0 = fb_sm (fun y => 0) 9
    rw [z_sm_0 _ (fun _ => rfl)]
  | n + 1, h => by
    have ih := z_ct_part (p := p) (g := g) n (fun i hi => h i (by omega))
    have e : fb_sm (fun y => fb_ct (fun i => p i && decide (g i = y)) (n + 1)) 9 = fb_sm (fun y => fb_ct (fun i => p i && decide (g i = y)) n + (if (p n && decide (g n = y)) = true then 1 else 0)) 9 := rfl
    rw [e, fb_sm_add, ← ih, fb_ct_succ]
    congr 1
    cases hp : p n
    · simp only [Bool.false_and, Bool.false_eq_true, if_false]
      rw [z_sm_0 _ (fun _ => rfl)]
    · have hg := h n (by omega) hp
      have e2 : fb_sm (fun y => if (true && decide (g n = y)) = true then 1 else 0) 9 = fb_sm (fun y => if y = g n then 1 else 0) 9 := fb_sm_cong (fun y _ => by
        by_cases hy : y = g n
        · simp [hy]
        · have : ¬ g n = y := fun e => hy e.symm
          simp [hy, this])
      rw [e2, z_sm_one (fun _ => 1) 9 hg]
      rfl
/-! parts of sets -/
def z_sb (s o : Nat) : Bool := z_df s o == 0
theorem z_sb_iff {s o : Nat} (hs : s < 512) : z_sb s o = true ↔ ∀ k, k < 9 → s.testBit k = true → o.testBit k = true := by
  unfold z_sb
  rw [beq_iff_eq]
  constructor
  · intro h k hk hb
    have : (z_df s o).testBit k = false := by rw [h, Nat.zero_testBit]
    rw [z_df_bit, hb, Bool.true_and] at this
    simpa using this
  · intro h
    refine z_ext (z_df_lt hs) (by decide) (fun k hk => ?_)
    rw [z_df_bit, Nat.zero_testBit]
    cases hb : s.testBit k
    · rfl
    · rw [h k hk hb]; rfl
theorem z_df_sb {s o : Nat} : (z_df s o = 0) = (z_sb s o = true) := by unfold z_sb; simp
theorem z_put_rest {x s : Nat} (h : s.testBit x = true) : z_rest x s ||| 2 ^ x = s := by
  apply Nat.eq_of_testBit_eq
  intro k
  rw [z_put_bit, z_rest_bit]
  by_cases e : k = x
  · subst e; simp [h]
  · simp [e]
theorem z_rest_put {x s : Nat} (h : s.testBit x = false) : z_rest x (s ||| 2 ^ x) = s := by
  apply Nat.eq_of_testBit_eq
  intro k
  rw [z_rest_bit, z_put_bit]
  by_cases e : k = x
  · subst e; simp [h]
  · simp [e]
theorem z_pc_put {x s : Nat} (hx : x < 9) (h : s.testBit x = false) : z_pc (s ||| 2 ^ x) = z_pc s + 1 := by
  have := z_pc_rest (a := s ||| 2 ^ x) hx (by rw [z_put_bit]; simp)
  rw [z_rest_put h] at this
  omega
theorem z_rest_ne {x s : Nat} (hx : x < 9) (hs : s < 512) (h : s.testBit x = true) : z_rest x s < s := by
  have e := z_put_rest h
  have : z_rest x s ≠ s := by
    intro e2
    have h1 : (z_rest x s).testBit x = true := by rw [e2]; exact h
    rw [z_rest_bit] at h1
    simp at h1
  have : z_rest x s ≤ s := Nat.and_le_left
  omega
/-! unions -/
def z_orn (f : Nat → Nat) : Nat → Nat
  | 0 => 0
  | n + 1 => z_orn f n ||| f n
theorem z_orn_bit {f : Nat → Nat} {k : Nat} : ∀ n, (z_orn f n).testBit k = true ↔ ∃ x, x < n ∧ (f x).testBit k = true
  | 0 => by simp [z_orn]
  | n + 1 => by
    rw [z_orn, Nat.testBit_or, Bool.or_eq_true, z_orn_bit n]
    constructor
    · rintro (⟨x, hx, h⟩ | h)
      · exact ⟨x, by omega, h⟩
      · exact ⟨n, by omega, h⟩
    · rintro ⟨x, hx, h⟩
      by_cases e : x = n
      · rw [e] at h; exact Or.inr h
      · exact Or.inl ⟨x, by omega, h⟩
theorem z_orn_lt {f : Nat → Nat} : ∀ n, (∀ x, x < n → f x < 512) → z_orn f n < 512
  | 0, _ => (by show 0 < 512; decide)
  | n + 1, h => z_or_lt (z_orn_lt n (fun x hx => h x (by omega))) (h n (by omega))
def z_sab (P : z_P) (s : Nat) : Nat := z_orn (fun x => if s.testBit x then z_ab P x else 0) 9
def z_sun (P : z_P) (s : Nat) : Nat := z_orn (fun x => if s.testBit x then z_un P x else 0) 9
theorem z_sab_lt (hw : z_wf P) (s : Nat) : z_sab P s < 512 := z_orn_lt 9 (fun x hx => by
  try dsimp only
  split
  · exact hw.ab x hx
  · decide)
theorem z_sun_lt (s : Nat) : z_sun P s < 512 := z_orn_lt 9 (fun x hx => by
  try dsimp only
  split
  · exact z_un_lt P x
  · decide)
theorem z_sab_bit {s k : Nat} : (z_sab P s).testBit k = true ↔ ∃ x, x < 9 ∧ s.testBit x = true ∧ (z_ab P x).testBit k = true := by
  unfold z_sab
  rw [z_orn_bit]
  constructor
  · rintro ⟨x, hx, h⟩
    by_cases hb : s.testBit x = true
    · rw [if_pos hb] at h; exact ⟨x, hx, hb, h⟩
    · rw [if_neg hb, Nat.zero_testBit] at h; cases h
  · rintro ⟨x, hx, h1, h2⟩
    exact ⟨x, hx, by rw [if_pos h1]; exact h2⟩
theorem z_sun_bit {s k : Nat} (hk : k < 9) : (z_sun P s).testBit k = true ↔ ∃ x, x < 9 ∧ s.testBit x = true ∧ (z_ab P k).testBit x = true := by
  unfold z_sun
  rw [z_orn_bit]
  constructor
  · rintro ⟨x, hx, h⟩
    by_cases hb : s.testBit x = true
    · rw [if_pos hb, z_un_bit P hk] at h; exact ⟨x, hx, hb, h⟩
    · rw [if_neg hb, Nat.zero_testBit] at h; cases h
  · rintro ⟨x, hx, h1, h2⟩
    exact ⟨x, hx, by rw [if_pos h1, z_un_bit P hk]; exact h2⟩
theorem s10_someAbove (hr : z_rr (w.1 1) P) {s : Nat} (hs : s < 512) (hst : z_sb s (z_th P) = true) : f_X10_someAbove (nI s) w = some (nI (z_sab P s)) := by
  rw [← z_ok_eq]
  unfold f_X10_someAbove
  refine z_ok_l9 (fun j q => q = (nI (z_orn (fun x => if s.testBit x then z_ab P x else 0) j), nI j)) rfl ?_ ?_
  · rintro j q hi rfl kb hk
    unfold b_X10_someAbove_4
    simp only [z_le9 hi, z_le9n hi, z_in9 hi, z_c9 hi, z_sh hi, z_is_nI hi, if_false, if_true, Option.bind_some, z_ok_gd, z_ok_lt, z_ok_some, z_ok_ite, z_ok_bind, z_ok_b2, z_bi_0, Bool.not_eq_false, z_gI, z_and, z_or, z_andc, z_1, true_and, and_true, s_has (z_31 hs) hi, z_or0]
    refine ⟨fun h => hk _ ?_, fun h => ?_⟩
    · rw [z_orn]; simp [h]
    · rw [s10_aboveT hr hi ((z_sb_iff hs).mp hst j hi h), z_ok_some, z_or]
      refine hk _ ?_
      rw [z_orn]; simp [h]
  · rintro q rfl kb
    unfold b_X10_someAbove_4
    simp only [z_99, if_true, z_ok_some]
    rfl
theorem s10_someBelow (hr : z_rr (w.1 1) P) (hw : z_wf P) {s : Nat} (hs : s < 512) (hst : z_sb s (z_th P) = true) : f_X10_someBelow (nI s) w = some (nI (z_sun P s)) := by
  rw [← z_ok_eq]
  unfold f_X10_someBelow
  refine z_ok_l9 (fun j q => q = (nI (z_orn (fun x => if s.testBit x then z_un P x else 0) j), nI j)) rfl ?_ ?_
  · rintro j q hi rfl kb hk
    unfold b_X10_someBelow_4
    simp only [z_le9 hi, z_le9n hi, z_in9 hi, z_c9 hi, z_sh hi, z_is_nI hi, if_false, if_true, Option.bind_some, z_ok_gd, z_ok_lt, z_ok_some, z_ok_ite, z_ok_bind, z_ok_b2, z_bi_0, Bool.not_eq_false, z_gI, z_and, z_or, z_andc, z_1, true_and, and_true, s_has (z_31 hs) hi, z_or0]
    refine ⟨fun h => hk _ ?_, fun h => ?_⟩
    · rw [z_orn]; simp [h]
    · rw [s10_belowT hr hw hi ((z_sb_iff hs).mp hst j hi h), z_ok_some, z_or]
      refine hk _ ?_
      rw [z_orn]; simp [h]
  · rintro q rfl kb
    unfold b_X10_someBelow_4
    simp only [z_99, if_true, z_ok_some]
    rfl
/-- none below another one -/
def z_acb (P : z_P) (s : Nat) : Bool := (z_sab P s &&& s) == 0
theorem z_acb_iff (hw : z_wf P) {s : Nat} : z_acb P s = true ↔ ∀ x y, x < 9 → y < 9 → s.testBit x = true → s.testBit y = true → (z_ab P x).testBit y = false := by
  unfold z_acb
  rw [beq_iff_eq]
  constructor
  · intro h x y hx hy h1 h2
    have : (z_sab P s &&& s).testBit y = false := by rw [h, Nat.zero_testBit]
    rw [Nat.testBit_and, h2, Bool.and_true] at this
    cases hb : (z_ab P x).testBit y
    · rfl
    · rw [z_sab_bit.mpr ⟨x, hx, h1, hb⟩] at this; cases this
  · intro h
    refine z_ext (z_and_lt _ (z_sab_lt hw s)) (by decide) (fun k hk => ?_)
    rw [Nat.testBit_and, Nat.zero_testBit]
    cases hb : (z_sab P s).testBit k
    · rfl
    · obtain ⟨x, hx, h1, h2⟩ := z_sab_bit.mp hb
      cases hk2 : s.testBit k
      · rfl
      · rw [h x k hx hk h1 hk2] at h2; cases h2
/-- what the class asks of a set: points that are there, none below another -/
theorem s6_isSpread (hr : z_rc u 0 P) (hw : z_wf P) {s : Nat} (hs : s < 512) : f_X6_isSpread 0 (nI s) u = some (z_bi (z_sb s (z_th P) && z_acb P s)) := by
  have e0 : u.1 0 1 = nI (z_th P) := hr.2.1
  rw [← z_ok_eq]
  unfold f_X6_isSpread
  simp only [z_gI, e0, z_andc, z_ok_ite, z_ok_some, z_df0 hs, z_df_sb]
  refine ⟨fun hsb => ?_, fun hsb => ?_⟩
  · refine z_ok_l9 (fun j q => q = nI j ∧ ∀ x, x < j → s.testBit x = true → z_ab P x &&& s = 0) ⟨rfl, fun x hx => absurd hx (by omega)⟩ ?_ ?_
    · rintro j q hi ⟨rfl, hj⟩ kb hk
      have e1 : u.1 (0 + 1) j = nI (z_ab P j) := hr.2.2.2.1 j hi
      have e1' : u.1 1 j = nI (z_ab P j) := e1
      unfold b_X6_isSpread_15
      simp only [z_le9 hi, z_le9n hi, z_in9 hi, z_c9 hi, z_sh hi, z_is_nI hi, if_false, if_true, Option.bind_some, z_ok_gd, z_ok_lt, z_ok_some, z_ok_ite, z_ok_bind, z_ok_b2, z_bi_0, Bool.not_eq_false, z_gI, z_and, z_or, z_andc, z_1, true_and, and_true, e1, e1', s_isIn hs, z_and0 hs]
      refine ⟨fun h => hk _ ⟨rfl, fun x hx hb => ?_⟩, fun h => ⟨fun h2 => hk _ ⟨rfl, fun x hx hb => ?_⟩, fun h2 => ?_⟩⟩
      · by_cases e : x = j
        · subst e; rw [h] at hb; cases hb
        · exact hj x (by omega) hb
      · by_cases e : x = j
        · subst e; rw [Nat.and_comm]; exact h2
        · exact hj x (by omega) hb
      · have h3 : z_acb P s = false := by
          cases h4 : z_acb P s
          · rfl
          · refine absurd (z_ext (z_and_lt _ hs) (by decide) (fun k hk => ?_)) h2
            rw [Nat.zero_testBit, Nat.testBit_and]
            cases h5 : s.testBit k
            · rfl
            · rw [(z_acb_iff hw).mp h4 j k hi hk h h5]; rfl
        rw [h3, Bool.and_false]; rfl
    · rintro q ⟨rfl, hj⟩ kb
      unfold b_X6_isSpread_15
      simp only [z_99, if_true, z_ok_some]
      have h3 : z_acb P s = true := (z_acb_iff hw).mpr (fun x y hx hy h1 h2 => by
        have h4 : (z_ab P x &&& s).testBit y = false := by rw [hj x hx h1, Nat.zero_testBit]
        rw [Nat.testBit_and, h2, Bool.and_true] at h4
        exact h4)
      rw [hsb, h3]; rfl
  · have h3 : z_sb s (z_th P) = false := by simpa using hsb
    rw [h3]; rfl
/-! width -/
theorem z_mxn_s (f : Nat → Nat) (n : Nat) : z_mxn f (n + 1) = if z_mxn f n < f n then f n else z_mxn f n := rfl
theorem z_512 {i : Nat} (h : i < 512) : ((512 : Int32) ≤ nI i) = False := eq_false (nI_ge (a := i) (b := 512) h (by decide))
theorem z_512e : ((512 : Int32) ≤ nI 512) = True := by decide
/-- the most points of such a set, of those before n -/
def z_wd' (P : z_P) (n : Nat) : Nat := z_mxn (fun s => if z_sb s (z_th P) && z_acb P s then z_pc s else 0) n
theorem z_wd'_le (n : Nat) : z_wd' P n ≤ 9 := z_mxn_le n (fun k _ => by
  try dsimp only
  split
  · exact z_pc_le k
  · omega)
theorem s6_widest (hr : z_rc u 0 P) (hw : z_wf P) : f_X6_widest 0 u = some (nI (z_wd' P 512)) := by
  rw [← z_ok_eq]
  unfold f_X6_widest
  refine z_ok_lp (fun j q => q = (nI (z_wd' P j), nI j)) 512 z_512F rfl ?_ ?_
  · rintro j q hs rfl kb hk
    have hb9 := z_wd'_le (P := P) j
    have hp9 := z_pc_le j
    have hm := z_mxn_s (fun s => if z_sb s (z_th P) && z_acb P s then z_pc s else 0) j
    unfold b_X6_widest_4
    simp only [z_512 hs, if_false, s6_isSpread hr hw hs, Option.bind_some, z_ok_bit, z_ok_lt, s_bitc hs, z_ltI (show z_wd' P j < 2 ^ 31 by omega) (show z_pc j < 2 ^ 31 by omega), z_1]
    refine ⟨fun h => hk _ ?_, fun h => hk _ ?_⟩
    · have e : z_wd' P (j + 1) = z_wd' P j := by
        unfold z_wd'
        rw [hm, h]
        simp
      rw [e]
    · have e : z_wd' P (j + 1) = if z_wd' P j < z_pc j then z_pc j else z_wd' P j := by
        unfold z_wd'
        rw [hm, h]
        simp
      rw [e]
      split <;> rfl
  · rintro q rfl kb
    unfold b_X6_widest_4
    simp only [z_512e, if_true, z_ok_some]
theorem p_width : z_S_width z_Inv := by
  intro u w hI
  refine z_rd hI (fun P hw hc hr => ?_)
  have hr' := z_rr0 hr 0
  unfold f_X9_width f_X10_width
  simp only [s9_isOrder hc hw, s10_isTold hr' hw, Option.bind_some, z_lt, z_bi_0, z_gI, hc.2.1]
  by_cases ht : 0 < z_td P
  · have hm := s6_widest hc hw
    have hg9 : ∀ n, z_mxn (fun s => if z_sb s (z_th P) && z_acb P s then z_pc s else 0) n ≤ 9 := z_wd'_le
    refine ⟨nI (z_wd' P 512), ?_, ?_⟩
    · simp only [ht, decide_true, Bool.true_eq_false, if_false, hm, Option.bind_some]
    · simp only [ht, decide_true, Bool.true_eq_false, if_false]
      refine z_ok_lp (fun j q => q = (nI (z_mxn (fun s => if z_sb s (z_th P) && z_acb P s then z_pc s else 0) (j + 1)), nI (j + 1))) 511 (by decide) ?_ ?_ ?_
      · have : z_mxn (fun s => if z_sb s (z_th P) && z_acb P s then z_pc s else 0) 1 = 0 := by
          have := z_mxn_le (f := fun s => if z_sb s (z_th P) && z_acb P s then z_pc s else 0) (c := 0) 1 (fun k hk => by
            have : k = 0 := by omega
            subst this
            try dsimp only
            split
            · rw [z_pc_0]; exact Nat.le_refl _
            · omega)
          omega
        rw [this]
        rfl
      · rintro j q hj rfl kb hk
        have hs : j + 1 < 512 := by omega
        have h1 := hr'.2.1
        have hb9 := hg9 (j + 1)
        have hp9 := z_pc_le (j + 1)
        unfold b_X10_width_18 j_X10_width_j52 j_X10_width_j53
        simp only [z_512 hs, if_false, z_ok_gd, show z_inb 1 93 = true from rfl, true_and, z_gI, z_c1, h1, z_andc, z_df0 hs, z_ok_ite, if_true, show ((1 : Int32) = 0) = False by decide, s_bits hs, Option.bind_some, z_leI (show z_pc (j + 1) < 2 ^ 31 by omega) (show z_mxn (fun s => if z_sb s (z_th P) && z_acb P s then z_pc s else 0) (j + 1) < 2 ^ 31 by omega), z_1, z_df_sb]
        refine ⟨fun hsb => ?_, fun hsb => hk _ ?_⟩
        · rw [s10_someAbove hr' hs hsb, Option.bind_some, z_and, z_ok_ite]
          refine ⟨fun hac => ?_, fun hac => hk _ ?_⟩
          · rw [z_and0 (z_sab_lt hw _)] at hac
            have hac' : z_acb P (j + 1) = true := by unfold z_acb; rw [hac]; rfl
            rw [z_ok_ite]
            refine ⟨fun hle => hk _ ?_, fun hle => hk _ ?_⟩
            · rw [z_mxn_s _ (j + 1)]
              simp only [hsb, hac', Bool.and_self, if_true]
              rw [if_neg (by omega)]
            · rw [z_mxn_s _ (j + 1)]
              simp only [hsb, hac', Bool.and_self, if_true]
              rw [if_pos (by omega)]
          · rw [z_and0 (z_sab_lt hw _)] at hac
            have hac' : z_acb P (j + 1) = false := by unfold z_acb; simp [hac]
            rw [z_mxn_s _ (j + 1)]
            simp [hac']
        · have hsb' : z_sb (j + 1) (z_th P) = false := by simpa using hsb
          rw [z_mxn_s _ (j + 1)]
          simp [hsb']
      · rintro q rfl kb
        unfold b_X10_width_18
        simp only [show ((512 : Int32) ≤ nI (511 + 1)) = True by decide, if_true, z_ok_some]
        exact ⟨rfl, z_eR0 w⟩
  · exact ⟨-1, by simp [ht], by simpa [ht, z_ok_some] using z_eR0 w⟩
end
