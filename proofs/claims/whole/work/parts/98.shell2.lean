section
variable {u w v : z_M} {P : z_P}
def z_anyb (p : Nat → Bool) : Nat → Bool
  | 0 => false
  | n + 1 => z_anyb p n || p n
theorem z_anyb_iff {p : Nat → Bool} : ∀ n, z_anyb p n = true ↔ ∃ k, k < n ∧ p k = true
  | 0 => ⟨fun h => (by cases h), fun ⟨k, h, _⟩ => absurd h (Nat.not_lt_zero k)⟩
  | n + 1 => by
    rw [z_anyb, Bool.or_eq_true, z_anyb_iff n]
    constructor
    · rintro (⟨k, k1, k2⟩ | h)
      · exact ⟨k, by omega, k2⟩
      · exact ⟨n, by omega, h⟩
    · rintro ⟨k, k1, k2⟩
      by_cases e : k = n
      · rw [e] at k2; exact Or.inr k2
      · exact Or.inl ⟨k, by omega, k2⟩
theorem z_exi_any {p : Nat → Bool} (n : Nat) : z_exi (fun k => !p k) (fun _ => some (1 : Int32)) (some 0) n 0 = some (z_bi (z_anyb p n)) := by
  rcases z_exi_all (p := fun k => !p k) (R0 := some (1 : Int32)) (R := some 0) n 0 with ⟨h, e⟩ | ⟨⟨i, i1, i2, i3⟩, e⟩
  · rw [e, show z_anyb p n = false by
      cases c : z_anyb p n
      · rfl
      · obtain ⟨k, k1, k2⟩ := (z_anyb_iff n).mp c
        have := h k (by omega) (by omega)
        rw [k2] at this
        cases this]
    rfl
  · rw [e, show z_anyb p n = true from (z_anyb_iff n).mpr ⟨i, by omega, by simpa using i3⟩]
    rfl
theorem z_anyb_cg {p q : Nat → Bool} : ∀ n, (∀ k, k < n → p k = q k) → z_anyb p n = z_anyb q n
  | 0, _ => rfl
  | n + 1, h => by rw [z_anyb, z_anyb, z_anyb_cg n (fun k hk => h k (by omega)), h n (by omega)]
theorem z_rcC.st {S : z_St} (h : z_rcC u P S) {i : Nat} (hi : i < S.1) : z_inb (nI i) 12 = true ∧ z_isCh (z_gI u 87 (nI i).toNatClampNeg).toNatClampNeg = true ∧ z_gI u (z_gI u 87 (nI i).toNatClampNeg).toNatClampNeg 1 = nI (z_cset (S.2 i)) := by
  have h12 := h.1
  obtain ⟨c1, c2, c3⟩ := h.at hi
  rw [z_gI, z_gI, z_cl (show i < 2 ^ 31 by omega)]
  exact ⟨c1, c2, c3.2.2.1⟩
/-! the class -/
def z_sdb (s : Nat → Nat) (j k : Nat) : Bool := decide (z_pc (z_df (s j) (s k)) = 1)
theorem z_gdt {β : Type} {b : Bool} (h : b = true) (x : Option β) : z_gd b x = x := by rw [h]; rfl
theorem s2_isSide {S : z_St} {s : Nat → Nat} (h : z_rcC u P S) (hs : ∀ i, i < S.1 → z_cset (S.2 i) = s i ∧ s i < 512) {j k : Nat} (hj : j < S.1) (hk : k < S.1) : f_X2_isSide (nI j) (nI k) u = some (z_bi (z_sdb s j k)) := by
  obtain ⟨a1, a2, a3⟩ := h.st hj
  obtain ⟨b1, b2, b3⟩ := h.st hk
  unfold f_X2_isSide z_sdb
  rw [z_gdt a1, z_gdt a2, z_gdt b1, z_gdt b2, a3, b3, z_andc, (hs j hj).1, (hs k hk).1, s_bitc (z_df_lt (hs j hj).2)]
  have := z_pc_le (z_df (s j) (s k))
  by_cases e : z_pc (z_df (s j) (s k)) = 1
  · rw [e, if_pos (show nI 1 = 1 from rfl), decide_eq_true rfl]; rfl
  · rw [if_neg (z_ne1 e (by omega)), decide_eq_false e]; rfl
theorem s2_hasSide {S : z_St} {s : Nat → Nat} (h : z_rcC u P S) (hs : ∀ i, i < S.1 → z_cset (S.2 i) = s i ∧ s i < 512) {j m : Nat} (hj : j < S.1) (hm : m < 512) : f_X2_hasSide (nI j) (nI m) u = some (z_bi (z_anyb (fun k => z_sdb s j k && decide (z_df m (s k) = 0)) j)) := by
  have h12 := h.1
  unfold f_X2_hasSide
  rw [← z_exi_any]
  refine z_lpx (k0 := 0) (fun t => nI t) _ _ _ j (z_F_lt (by omega)) (fun k _ hk kb => ?_) (fun kb => ?_)
  · obtain ⟨b1, b2, b3⟩ := h.st (show k < S.1 by omega)
    unfold b_X2_hasSide_2
    rw [if_neg (nI_ge (by omega) (by omega)), s2_isSide h hs hj (by omega), Option.bind_some, z_gdt b1, z_gdt b2, b3, z_andc, (hs k (by omega)).1, z_1]
    have e0 : (nI (z_df m (s k)) = 0) = (z_df m (s k) = 0) := z_df0 hm
    simp only [e0]
    cases z_sdb s j k
    · rw [if_pos (show z_bi false = 0 from rfl)]; rfl
    · rw [if_neg (show ¬ z_bi true = 0 by decide)]
      by_cases e : z_df m (s k) = 0
      · rw [if_pos e, decide_eq_true e]; rfl
      · rw [if_neg e, decide_eq_false e]; rfl
  · unfold b_X2_hasSide_2
    rw [Nat.zero_add, if_pos (nI_le (Nat.le_refl _) (by omega))]
def z_shl (s : Nat → Nat) (j : Nat) : Bool := !z_anyb (fun i => !z_anyb (fun k => z_sdb s j k && decide (z_df (s i &&& s j) (s k) = 0)) j) j
theorem z_exi_al {p : Nat → Bool} (n : Nat) : z_exi p (fun _ => some (0 : Int32)) (some 1) n 0 = some (z_bi (!z_anyb (fun k => !p k) n)) := by
  rcases z_exi_all (p := p) (R0 := some (0 : Int32)) (R := some 1) n 0 with ⟨h, e⟩ | ⟨⟨i, i1, i2, i3⟩, e⟩
  · rw [e, show z_anyb (fun k => !p k) n = false by
      cases c : z_anyb (fun k => !p k) n
      · rfl
      · obtain ⟨k, k1, k2⟩ := (z_anyb_iff n).mp c
        have := h k (by omega) (by omega)
        simp [this] at k2]
    rfl
  · rw [e, show z_anyb (fun k => !p k) n = true from (z_anyb_iff n).mpr ⟨i, by omega, by simpa using i3⟩]
    rfl
theorem s2_isShell {S : z_St} {s : Nat → Nat} (h : z_rcC u P S) (hs : ∀ i, i < S.1 → z_cset (S.2 i) = s i ∧ s i < 512) {j : Nat} (hj : j < S.1) : f_X2_isShell (nI j) u = some (z_bi (z_shl s j)) := by
  have h12 := h.1
  obtain ⟨a1, a2, a3⟩ := h.st hj
  unfold f_X2_isShell z_shl
  rw [← z_exi_al]
  refine z_lpx (k0 := 0) (fun t => nI t) _ _ _ j (z_F_lt (by omega)) (fun i _ hi kb => ?_) (fun kb => ?_)
  · obtain ⟨b1, b2, b3⟩ := h.st (show i < S.1 by omega)
    unfold b_X2_isShell_2
    rw [if_neg (nI_ge (by omega) (by omega)), z_gdt b1, z_gdt b2, z_gdt a1, z_gdt a2, a3, b3, z_and, (hs i (by omega)).1, (hs j hj).1, s2_hasSide h hs hj (z_and_lt _ (hs i (by omega)).2), Option.bind_some, z_1]
    cases z_anyb (fun k => z_sdb s j k && decide (z_df (s i &&& s j) (s k) = 0)) j
    · rfl
    · rfl
  · unfold b_X2_isShell_2
    rw [Nat.zero_add, if_pos (nI_le (Nat.le_refl _) (by omega))]
def z_crs (s : Nat → Nat) (j : Nat) : Nat → Nat
  | 0 => 0
  | n + 1 => if z_sdb s j n then z_crs s j n ||| z_df (s j) (s n) else z_crs s j n
theorem z_crs_bit {s : Nat → Nat} {j x : Nat} : ∀ n, (z_crs s j n).testBit x = true ↔ ∃ k, k < n ∧ z_sdb s j k = true ∧ (z_df (s j) (s k)).testBit x = true
  | 0 => ⟨fun h => (by rw [z_crs, Nat.zero_testBit] at h; cases h), fun ⟨k, h, _⟩ => absurd h (Nat.not_lt_zero k)⟩
  | n + 1 => by
    have ih := z_crs_bit (s := s) (j := j) (x := x) n
    rw [z_crs]
    by_cases c : z_sdb s j n = true
    · rw [if_pos c, Nat.testBit_or, Bool.or_eq_true, ih]
      constructor
      · rintro (⟨k, k1, k2⟩ | h)
        · exact ⟨k, by omega, k2⟩
        · exact ⟨n, by omega, c, h⟩
      · rintro ⟨k, k1, k2, k3⟩
        by_cases e : k = n
        · rw [e] at k3; exact Or.inr k3
        · exact Or.inl ⟨k, by omega, k2, k3⟩
    · rw [if_neg c, ih]
      constructor
      · rintro ⟨k, k1, k2⟩
        exact ⟨k, by omega, k2⟩
      · rintro ⟨k, k1, k2, k3⟩
        by_cases e : k = n
        · rw [e] at k2; exact absurd k2 c
        · exact ⟨k, by omega, k2, k3⟩
theorem z_crs_lt {s : Nat → Nat} {j : Nat} (h : s j < 512) : ∀ n, z_crs s j n < 512
  | 0 => by rw [z_crs]; decide
  | n + 1 => by
    have ih := z_crs_lt h n
    rw [z_crs]
    split
    · exact Nat.or_lt_two_pow (n := 9) ih (z_df_lt h)
    · exact ih
theorem s2_creaseSet {S : z_St} {s : Nat → Nat} (h : z_rcC u P S) (hs : ∀ i, i < S.1 → z_cset (S.2 i) = s i ∧ s i < 512) {j : Nat} (hj : j < S.1) : f_X2_creaseSet (nI j) u = some (nI (z_crs s j j)) := by
  have h12 := h.1
  obtain ⟨a1, a2, a3⟩ := h.st hj
  unfold f_X2_creaseSet
  refine z_lpr (fun t => (nI (z_crs s j t), nI t)) _ j (z_F_lt (by omega)) (fun k hk kb => ?_) (fun kb => ?_)
  · obtain ⟨b1, b2, b3⟩ := h.st (show k < S.1 by omega)
    unfold b_X2_creaseSet_4
    dsimp only
    rw [if_neg (nI_ge (by omega) (by omega)), s2_isSide h hs hj (by omega), Option.bind_some, z_gdt a1, z_gdt a2, z_gdt b1, z_gdt b2, a3, b3, z_andc, (hs k (by omega)).1, (hs j hj).1, z_1 k, z_or, z_crs]
    cases z_sdb s j k
    · rfl
    · rfl
  · unfold b_X2_creaseSet_4
    dsimp only
    rw [if_pos (nI_le (Nat.le_refl _) (by omega))]
/-! the law -/
theorem s10_chainSet {i : Nat} {c : z_Cn} (hi : i < 12) (h : z_rr1 w i c) : f_X10_chainSet (nI i) w = some (nI (z_cset c)) := by
  obtain ⟨h1, h2, h3⟩ := h
  unfold f_X10_chainSet
  refine z_lpr (fun t => (nI (z_orn (fun k => 2 ^ c.2 k) t), nI t)) _ (c.1 + 1) (z_F_lt (by omega)) (fun t ht kb => ?_) (fun kb => ?_)
  · obtain ⟨g1, g2⟩ := h3 t (by omega)
    unfold b_X10_chainSet_4
    dsimp only
    rw [z_gdt (z_ix64 (by omega)), z_gI, z_cl (show i < 2 ^ 31 by omega), h1, if_neg (nI_ge (by omega) (by omega)), s10_chainAt (by omega) (by omega), Option.bind_some, g2, z_sh g1, z_or, z_1 t]
    rfl
  · unfold b_X10_chainSet_4
    dsimp only
    rw [z_gdt (z_ix64 (by omega)), z_gI, z_cl (show i < 2 ^ 31 by omega), h1, if_pos (nI_le (Nat.le_refl _) (by omega))]
    rfl
theorem z_sde {s l : Nat → Nat} {n : Nat} (hf : z_fam s l n) {j k : Nat} (hj : j < n) : z_sdb s j k = decide (z_pc (s k &&& s j) = l j) := by
  have h1 := z_pc_df (a := s j) (b := s k &&& s j) (fun t _ ht => by rw [Nat.testBit_and, Bool.and_eq_true] at ht; exact ht.2)
  have h2 := hf.2.1 j hj
  have e : z_df (s j) (s k &&& s j) = z_df (s j) (s k) := by
    apply Nat.eq_of_testBit_eq
    intro t
    rw [z_df_bit, z_df_bit, Nat.testBit_and]
    cases (s j).testBit t <;> cases (s k).testBit t <;> rfl
  rw [e] at h1
  unfold z_sdb
  exact decide_eq_decide.mpr ⟨fun h => by omega, fun h => by omega⟩
theorem s10_isLaid {S : z_St} {s l : Nat → Nat} (h : z_rrC w S) (hs : ∀ i, i < S.1 → z_cset (S.2 i) = s i ∧ (S.2 i).1 = l i) (hf : z_fam s l S.1) {j : Nat} (hj : j < S.1) : f_X10_isLaid (nI j) w = some (z_bi (z_shl s j)) := by
  have h12 := h.1
  have hset : ∀ i, i < S.1 → f_X10_chainSet (nI i) w = some (nI (s i)) := fun i hi => by rw [s10_chainSet (by omega) (h.at hi), (hs i hi).1]
  unfold f_X10_isLaid z_shl
  rw [← z_exi_al]
  refine z_lpx (k0 := 0) (fun t => nI t) _ _ _ j (z_F_lt (by omega)) (fun i _ hi kb => ?_) (fun kb => ?_)
  · unfold b_X10_isLaid_2
    rw [if_neg (nI_ge (by omega) (by omega)), hset i (by omega), Option.bind_some, hset j hj, Option.bind_some, z_and, z_1, z_lt]
    rw [show z_lp (b_X10_isLaid_25 (nI j) (nI i) (nI (s i &&& s j)) w) z_F (0, 0) (fun t14 => if t14 = 0 then some 0 else kb (nI (i + 1))) = if z_bi (z_anyb (fun k => z_sdb s j k && decide (z_df (s i &&& s j) (s k) = 0)) j) = 0 then some 0 else kb (nI (i + 1)) from ?_]
    · cases z_anyb (fun k => z_sdb s j k && decide (z_df (s i &&& s j) (s k) = 0)) j
      · rfl
      · rfl
    · refine z_lpr (fun t => (z_bi (z_anyb (fun k => z_sdb s j k && decide (z_df (s i &&& s j) (s k) = 0)) t), nI t)) _ j (z_F_lt (by omega)) (fun k hk kb => ?_) (fun kb => ?_)
      · unfold b_X10_isLaid_25
        dsimp only
        rw [if_neg (nI_ge (by omega) (by omega)), hset k (by omega), Option.bind_some, hset j hj, Option.bind_some, z_and, z_1 k, z_lt, s_bits (z_and_lt _ (hf.1 k (by omega))), Option.bind_some, z_gdt (z_ix64 (show j < 64 by omega)), z_gI, z_cl (show j < 2 ^ 31 by omega), (h.at hj).1, nI_pred, (hs j hj).2, z_andc, z_anyb]
        have hl : l j ≤ 8 := by rw [← (hs j hj).2]; exact (h.at hj).2.1
        have hpl := z_pc_le (s k &&& s j)
        have e0 : (nI (z_df (s i &&& s j) (s k &&& s j)) = 0) = (z_df (s i &&& s j) (s k) = 0) := by
          rw [z_df0 (z_and_lt _ (hf.1 i (by omega)))]
          have e : z_df (s i &&& s j) (s k &&& s j) = z_df (s i &&& s j) (s k) := by
            apply Nat.eq_of_testBit_eq
            intro t
            rw [z_df_bit, z_df_bit, Nat.testBit_and, Nat.testBit_and]
            cases (s j).testBit t <;> cases (s k).testBit t <;> cases (s i).testBit t <;> rfl
          rw [e]
        simp only [e0, z_eqI (show z_pc (s k &&& s j) < 2 ^ 31 by omega) (show l j < 2 ^ 31 by omega), z_sde hf (k := k) hj]
        cases z_anyb (fun k => z_sdb s j k && decide (z_df (s i &&& s j) (s k) = 0)) k
        · rw [if_pos (show z_bi false = 0 from rfl)]
          by_cases c1 : z_pc (s k &&& s j) = l j
          · rw [if_pos c1, decide_eq_true c1]
            by_cases c2 : z_df (s i &&& s j) (s k) = 0
            · rw [if_pos c2, decide_eq_true c2]; rfl
            · rw [if_neg c2, decide_eq_false c2]; rfl
          · rw [if_neg c1, decide_eq_false c1]; rfl
        · rw [if_neg (show ¬ z_bi true = 0 by decide)]; rfl
      · unfold b_X10_isLaid_25
        dsimp only
        rw [if_pos (nI_le (Nat.le_refl _) (by omega))]
  · unfold b_X10_isLaid_2
    rw [Nat.zero_add, if_pos (nI_le (Nat.le_refl _) (by omega))]
def z_crr (s : Nat → Nat) (j x : Nat) : Bool := (s j).testBit x && z_anyb (fun k => decide (z_df (z_df (s j) (2 ^ x)) (s k) = 0)) j
def z_crn (s : Nat → Nat) (j : Nat) : Nat → Nat
  | 0 => 0
  | n + 1 => if z_crr s j n then z_crn s j n ||| 2 ^ n else z_crn s j n
theorem z_crn_bit {s : Nat → Nat} {j x : Nat} : ∀ n, (z_crn s j n).testBit x = (decide (x < n) && z_crr s j x)
  | 0 => by rw [z_crn, Nat.zero_testBit, decide_eq_false (by omega)]; rfl
  | n + 1 => by
    have ih := z_crn_bit (s := s) (j := j) (x := x) n
    rw [z_crn]
    by_cases c : z_crr s j n = true
    · rw [if_pos c, z_put_bit, ih]
      by_cases e : x = n
      · subst e; simp [c]
      · rw [decide_eq_false e, Bool.or_false, show decide (x < n + 1) = decide (x < n) from decide_eq_decide.mpr (by omega)]
    · rw [if_neg c, ih]
      by_cases e : x = n
      · subst e; simp [c]
      · rw [show decide (x < n + 1) = decide (x < n) from decide_eq_decide.mpr (by omega)]
theorem z_crn_eq {s l : Nat → Nat} {n : Nat} (hf : z_fam s l n) {j : Nat} (hj : j < n) : z_crn s j 9 = z_crs s j j := by
  refine z_ext (Nat.lt_of_lt_of_le (Nat.lt_pow_two_of_testBit _ (n := 9) (fun i hi => by rw [z_crn_bit, decide_eq_false (by omega)]; rfl)) (by decide)) (z_crs_lt (hf.1 j hj) j) (fun x hx => ?_)
  rw [z_crn_bit, decide_eq_true hx, Bool.true_and]
  have hsub : ∀ k, z_df (z_df (s j) (2 ^ x)) (s k) = 0 ↔ ∀ y, y < 9 → (z_df (s j) (s k)).testBit y = true → y = x := fun k => by
    constructor
    · intro e y hy hb
      refine Decidable.byContradiction (fun hne => ?_)
      have : (z_df (z_df (s j) (2 ^ x)) (s k)).testBit y = false := by rw [e, Nat.zero_testBit]
      rw [z_df_bit, z_df_bit, Nat.testBit_two_pow, decide_eq_false (fun q => hne q.symm)] at this
      rw [z_df_bit] at hb
      rw [Bool.not_false, Bool.and_true, hb] at this
      cases this
    · intro g
      refine z_ext (z_df_lt (z_df_lt (hf.1 j hj))) (by decide) (fun y hy => ?_)
      rw [Nat.zero_testBit, z_df_bit, z_df_bit, Nat.testBit_two_pow]
      by_cases e : y = x
      · rw [e, decide_eq_true rfl]; simp
      · cases c : (z_df (s j) (s k)).testBit y
        · rw [z_df_bit] at c
          cases c1 : (s j).testBit y
          · rfl
          · rw [c1, Bool.true_and] at c
            rw [c]; simp
        · exact absurd (g y hy c) e
  rw [Bool.eq_iff_iff, z_crs_bit]
  unfold z_crr
  rw [Bool.and_eq_true, z_anyb_iff]
  constructor
  · rintro ⟨h1, k, k1, k2⟩
    rw [decide_eq_true_eq, hsub k] at k2
    have hne := hf.2.2 j k hj (by omega) (by omega)
    have hlt := z_df_lt (b := s k) (hf.1 j hj)
    have hx1 : (z_df (s j) (s k)).testBit x = true := by
      cases c : (z_df (s j) (s k)).testBit x
      · refine absurd (z_ext hlt (by decide) (fun y hy => ?_)) hne
        rw [Nat.zero_testBit]
        cases c2 : (z_df (s j) (s k)).testBit y
        · rfl
        · rw [k2 y hy c2, c] at c2; cases c2
      · rfl
    refine ⟨k, k1, ?_, hx1⟩
    unfold z_sdb
    rw [decide_eq_true_eq]
    have e : z_df (s j) (s k) = 0 ||| 2 ^ x := z_ext hlt (by rw [Nat.zero_or]; exact Nat.pow_lt_pow_right (by decide) hx) (fun y hy => by
      rw [z_put_bit, Nat.zero_testBit, Bool.false_or]
      by_cases e : y = x
      · rw [e, hx1, decide_eq_true rfl]
      · rw [decide_eq_false e]
        cases c2 : (z_df (s j) (s k)).testBit y
        · rfl
        · exact absurd (k2 y hy c2) e)
    rw [e, z_pc_put hx (Nat.zero_testBit x), z_pc_0]
  · rintro ⟨k, k1, k2, k3⟩
    unfold z_sdb at k2
    rw [decide_eq_true_eq] at k2
    refine ⟨by rw [z_df_bit, Bool.and_eq_true] at k3; exact k3.1, k, k1, ?_⟩
    rw [decide_eq_true_eq, hsub k]
    intro y hy hb
    refine Decidable.byContradiction (fun hne => ?_)
    have h1 := z_pc_rest hx k3
    have h2 : 0 < z_pc (z_rest x (z_df (s j) (s k))) := z_pc_pos hy (by rw [z_rest_bit, hb]; simp [hne])
    omega
end
