section
variable {u w v : z_M} {P : z_P}
/-! Chains: how many steps, and the points. -/
abbrev z_Cn : Type := Nat × (Nat → Nat)
abbrev z_St : Type := Nat × (Nat → z_Cn)
def z_lbc (P : z_P) (c : z_Cn) (k : Nat) : Int32 := z_lb P (c.2 k) (c.2 (k + 1))
def z_cf (P : z_P) (c d : z_Cn) : Nat → Nat → Option Bool
  | 0, _ => none
  | n + 1, k => if c.1 ≤ k ∨ d.1 ≤ k then none else if z_lbc P c k = z_lbc P d k then z_cf P c d n (k + 1) else some (decide (z_lbc P c k < z_lbc P d k))
def z_ah (P : z_P) (c d : z_Cn) : Bool := (z_cf P c d 9 0).getD (decide (c.1 < d.1))
def z_ips (P : z_P) (c : z_Cn) (L : Nat → z_Cn) : Nat → Nat
  | 0 => 0
  | n + 1 => if z_ah P c (L n) then z_ips P c L n else n + 1
theorem z_ips_le (c : z_Cn) (L : Nat → z_Cn) : ∀ n, z_ips P c L n ≤ n
  | 0 => Nat.le_refl _
  | n + 1 => by
    rw [z_ips]
    have := z_ips_le c L n
    split <;> omega
theorem z_ips_hi (c : z_Cn) (L : Nat → z_Cn) : ∀ n j, z_ips P c L n ≤ j → j < n → z_ah P c (L j) = true
  | 0, j, _, h => absurd h (Nat.not_lt_zero j)
  | n + 1, j, h1, h2 => by
    rw [z_ips] at h1
    by_cases c1 : z_ah P c (L n) = true
    · rw [if_pos c1] at h1
      by_cases e : j = n
      · rw [e]; exact c1
      · exact z_ips_hi c L n j h1 (by omega)
    · rw [if_neg c1] at h1
      omega
theorem z_ips_at (c : z_Cn) (L : Nat → z_Cn) : ∀ n, z_ips P c L n = 0 ∨ z_ah P c (L (z_ips P c L n - 1)) = false
  | 0 => Or.inl rfl
  | n + 1 => by
    rw [z_ips]
    by_cases c1 : z_ah P c (L n) = true
    · rw [if_pos c1]; exact z_ips_at c L n
    · rw [if_neg c1]
      right
      rw [Nat.add_sub_cancel]
      simpa using c1
def z_ins (P : z_P) (c : z_Cn) (L : Nat → z_Cn) (n : Nat) : Nat → z_Cn := fun j => if j < z_ips P c L n then L j else if j = z_ips P c L n then c else L (j - 1)
def z_sin (P : z_P) (c : z_Cn) (S : z_St) : z_St := (S.1 + 1, z_ins P c S.2 S.1)
def z_nxt (P : z_P) (b x : Nat) : Nat := z_cov P x (z_dn P b)
def z_fy (nx : Nat) (g : Nat → z_St → z_St) : Nat → z_St → z_St
  | 0, S => S
  | m + 1, S => if nx.testBit m then g m (z_fy nx g m S) else z_fy nx g m S
def z_grow (P : z_P) (b : Nat) : Nat → (Nat → Nat) → Nat → z_St → z_St
  | 0, _, _, S => S
  | n + 1, p, k, S => if p k = b then z_sin P (k, p) S else z_fy (z_nxt P b (p k)) (fun y S => z_grow P b n (z_ud p (k + 1) y) (k + 1) S) 9 S
def z_gn (P : z_P) (b : Nat) : Nat → Nat → Nat
  | 0, _ => 0
  | n + 1, x => if x = b then 1 else fb_sm (fun y => if (z_nxt P b x).testBit y then z_gn P b n y else 0) 9
theorem z_fy_ct {nx : Nat} {g : Nat → z_St → z_St} {c : Nat → Nat} (h : ∀ y S, y < 9 → nx.testBit y = true → (g y S).1 = S.1 + c y) (S : z_St) : ∀ m, m ≤ 9 → (z_fy nx g m S).1 = S.1 + fb_sm (fun y => if nx.testBit y then c y else 0) m
  | 0, _ => rfl
  | m + 1, hm => by
    have ih := z_fy_ct h S m (by omega)
    rw [z_fy, fb_sm_succ]
    by_cases c1 : nx.testBit m = true
    · rw [if_pos c1, if_pos c1, h m _ (by omega) c1, ih]; omega
    · rw [if_neg c1, if_neg c1, ih]; omega
theorem z_grow_ct (b : Nat) : ∀ n p k S, (z_grow P b n p k S).1 = S.1 + z_gn P b n (p k)
  | 0, _, _, _ => rfl
  | n + 1, p, k, S => by
    rw [z_grow, z_gn]
    by_cases c : p k = b
    · rw [if_pos c, if_pos c]; rfl
    · rw [if_neg c, if_neg c]
      exact z_fy_ct (c := fun y => z_gn P b n y) (fun y S _ _ => by
        rw [z_grow_ct b n (z_ud p (k + 1) y) (k + 1) S, z_ud_eq]) S 9 (Nat.le_refl 9)
/-! no more than twelve -/
def z_mm : Nat → Nat
  | 0 => 1
  | 1 => 1
  | 2 => 2
  | 3 => 3
  | 4 => 4
  | 5 => 6
  | 6 => 9
  | _ => 12
theorem z_mm_k : ∀ m, m < 8 → ∀ k, k < m + 1 → 0 < k → k * z_mm (m - k) ≤ z_mm m := by decide +kernel
theorem z_mm_mono : ∀ m, m < 8 → ∀ k, k < m + 1 → z_mm k ≤ z_mm m := by decide +kernel
theorem z_nxt_bit (hw : z_wf P) {b x y : Nat} (hb : b < 9) (hx : x < 9) (hy : y < 9) : (z_nxt P b x).testBit y = true ↔ (z_ab P x).testBit y = true ∧ (z_dn P b).testBit y = true ∧ z_inr P x y = 0 := by
  unfold z_nxt z_cov z_en
  rw [z_mk_bit]
  simp only [hy, decide_true, Bool.true_and, Bool.and_eq_true, Nat.testBit_and, beq_iff_eq]
  constructor
  · rintro ⟨⟨h1, h2⟩, h3⟩
    refine ⟨h1, h2, ?_⟩
    rw [← h3]
    refine z_ext (z_inr_lt hw hx) (z_and_lt _ (z_and_lt _ (hw.ab x hx))) (fun k hk => ?_)
    rw [z_inr_bit hk, Nat.testBit_and, Nat.testBit_and, z_un_bit P hk]
    cases h4 : (z_ab P k).testBit y
    · simp
    · have : (z_dn P b).testBit k = true := by
        rw [z_dn_bit P hy, Bool.or_eq_true, decide_eq_true_eq] at h2
        rw [z_dn_bit P hk, Bool.or_eq_true]
        rcases h2 with h2 | rfl
        · exact Or.inl (hw.tr k y b hk hy hb h4 h2)
        · exact Or.inl h4
      rw [this]
      simp
  · rintro ⟨h1, h2, h3⟩
    refine ⟨⟨h1, h2⟩, ?_⟩
    refine z_ext (z_and_lt _ (z_and_lt _ (hw.ab x hx))) (by decide) (fun k hk => ?_)
    rw [Nat.testBit_and, Nat.testBit_and, z_un_bit P hk, Nat.zero_testBit]
    have : (z_inr P x y).testBit k = false := by rw [h3, Nat.zero_testBit]
    rw [z_inr_bit hk] at this
    cases h4 : (z_ab P x).testBit k
    · simp
    · rw [h4, Bool.true_and] at this
      rw [this]
      simp
theorem z_nxt_b (hw : z_wf P) {b x y : Nat} (hb : b < 9) (hx : x < 9) (hy : y < 9) (h : (z_nxt P b x).testBit y = true) : (z_ab P x).testBit y = true ∧ (y = b ∨ (z_ab P y).testBit b = true) := by
  obtain ⟨h1, h2, -⟩ := (z_nxt_bit hw hb hx hy).mp h
  rw [z_dn_bit P hy, Bool.or_eq_true, decide_eq_true_eq] at h2
  exact ⟨h1, h2.symm⟩
theorem z_gn_12 (hw : z_wf P) {b : Nat} (hb : b < 9) : ∀ n x, x < 9 → (z_ab P x).testBit b = true → z_pc (z_inr P x b) ≤ 7 → z_gn P b n x ≤ z_mm (z_pc (z_inr P x b))
  | 0, x, _, _, _ => Nat.zero_le _
  | n + 1, x, hx, hl, h7 => by
    have hne : x ≠ b := by rintro rfl; rw [hw.irr x hx] at hl; cases hl
    rw [z_gn, if_neg hne]
    have hgb : z_gn P b n b ≤ 1 := by
      cases n with
      | zero => exact Nat.zero_le _
      | succ n => rw [z_gn, if_pos rfl]; exact Nat.le_refl _
    by_cases hi : z_inr P x b = 0
    · have : fb_sm (fun y => if (z_nxt P b x).testBit y then z_gn P b n y else 0) 9 ≤ fb_sm (fun y => if y = b then 1 else 0) 9 := fb_sm_le (fun y hy => by
        by_cases c : (z_nxt P b x).testBit y = true
        · obtain ⟨c1, c2⟩ := z_nxt_b hw hb hx hy c
          rcases c2 with rfl | c2
          · rw [if_pos c, if_pos rfl]; exact hgb
          · have : (z_inr P x b).testBit y = true := by rw [z_inr_bit hy, c1, c2]; rfl
            rw [hi, Nat.zero_testBit] at this
            cases this
        · rw [if_neg c]; exact Nat.zero_le _)
      rw [z_sm_one (fun _ => 1) 9 hb] at this
      rw [hi, z_pc_0]
      exact this
    · -- the next ones are inner, and none is above another
      have hnb : (z_nxt P b x).testBit b = false := by
        cases c : (z_nxt P b x).testBit b
        · rfl
        · exact absurd ((z_nxt_bit hw hb hx hb).mp c).2.2 hi
      have hin : ∀ y, y < 9 → (z_nxt P b x).testBit y = true → (z_inr P x b).testBit y = true := fun y hy c => by
        obtain ⟨c1, c2⟩ := z_nxt_b hw hb hx hy c
        rcases c2 with rfl | c2
        · rw [hnb] at c; cases c
        · rw [z_inr_bit hy, c1, c2]; rfl
      have hsub : ∀ y, y < 9 → (z_nxt P b x).testBit y = true → z_pc (z_inr P y b) ≤ z_pc (z_inr P x b) - z_pc (z_nxt P b x) := fun y hy c => by
        have e := z_pc_df hin
        have h1 : z_pc (z_inr P y b) ≤ z_pc (z_df (z_inr P x b) (z_nxt P b x)) := z_pc_mono (fun k hk hb2 => by
          rw [z_inr_bit hk, Bool.and_eq_true] at hb2
          obtain ⟨c1, c2⟩ := z_nxt_b hw hb hx hy c
          have h2 := hw.tr x y k hx hy hk c1 hb2.1
          rw [z_df_bit, z_inr_bit hk, h2, hb2.2, Bool.true_and, Bool.true_and, Bool.not_eq_true']
          cases c3 : (z_nxt P b x).testBit k
          · rfl
          · have h3 := ((z_nxt_bit hw hb hx hk).mp c3).2.2
            have h4 : (z_inr P x k).testBit y = true := by rw [z_inr_bit hy, c1, hb2.1]; rfl
            rw [h3, Nat.zero_testBit] at h4
            cases h4)
        omega
      have hk0 : 0 < z_pc (z_nxt P b x) := by
        obtain ⟨m, m1, m2, m3⟩ := z_min hw (z_inr_lt hw hx) hi
        have m2' := m2
        rw [z_inr_bit m1, Bool.and_eq_true] at m2'
        refine z_pc_pos m1 ((z_nxt_bit hw hb hx m1).mpr ⟨m2'.1, by rw [z_dn_bit P m1, m2'.2]; rfl, ?_⟩)
        refine z_ext (z_inr_lt hw hx) (by decide) (fun k hk => ?_)
        have : (z_un P m &&& z_inr P x b).testBit k = false := by rw [m3, Nat.zero_testBit]
        rw [Nat.testBit_and, z_un_bit P hk, z_inr_bit hk] at this
        rw [z_inr_bit hk, Nat.zero_testBit]
        cases h4 : (z_ab P x).testBit k
        · rfl
        · cases h5 : (z_ab P k).testBit m
          · rfl
          · rw [h4, h5, hw.tr k m b hk m1 hb h5 m2'.2] at this
            cases this
      have hkm : z_pc (z_nxt P b x) ≤ z_pc (z_inr P x b) := z_pc_mono hin
      have hb1 : fb_sm (fun y => if (z_nxt P b x).testBit y then z_gn P b n y else 0) 9 ≤ fb_sm (fun y => z_mm (z_pc (z_inr P x b) - z_pc (z_nxt P b x)) * (if (z_nxt P b x).testBit y then 1 else 0)) 9 := fb_sm_le (fun y hy => by
        by_cases c : (z_nxt P b x).testBit y = true
        · rw [if_pos c, if_pos c, Nat.mul_one]
          obtain ⟨c1, c2⟩ := z_nxt_b hw hb hx hy c
          rcases c2 with rfl | c2
          · rw [hnb] at c; cases c
          · have h1 := hsub y hy c
            have h2 := z_gn_12 hw hb n y hy c2 (by omega)
            have h3 := z_mm_mono (z_pc (z_inr P x b) - z_pc (z_nxt P b x)) (by omega) (z_pc (z_inr P y b)) (by omega)
            omega
        · rw [if_neg c]; exact Nat.zero_le _)
      rw [z_sm_mul (z_mm (z_pc (z_inr P x b) - z_pc (z_nxt P b x))) (fun y => if (z_nxt P b x).testBit y then 1 else 0) 9] at hb1
      have e2 : fb_sm (fun y => if (z_nxt P b x).testBit y then 1 else 0) 9 = z_pc (z_nxt P b x) := by rw [z_pc_ct]; rfl
      rw [e2, Nat.mul_comm] at hb1
      have := z_mm_k (z_pc (z_inr P x b)) (by omega) (z_pc (z_nxt P b x)) (by omega) hk0
      omega
theorem z_gn_le (hw : z_wf P) {a b : Nat} (ha : a < 9) (hb : b < 9) (hab : a = b ∨ (z_ab P a).testBit b = true) (n : Nat) : z_gn P b n a ≤ 12 := by
  rcases hab with rfl | hab
  · cases n with
    | zero => exact Nat.zero_le _
    | succ n => rw [z_gn, if_pos rfl]; decide
  · have hne : a ≠ b := by rintro rfl; rw [hw.irr a ha] at hab; cases hab
    have h7 := z_inr_7 hw ha hb hne
    have h1 := z_gn_12 hw hb n a ha hab h7
    have h2 := z_mm_mono 7 (by decide) (z_pc (z_inr P a b)) (by omega)
    have h3 : z_mm 7 = 12 := rfl
    omega
/-! the class's chains -/
def z_cset (c : z_Cn) : Nat := z_orn (fun k => 2 ^ c.2 k) (c.1 + 1)
def z_cr1 (u : z_M) (P : z_P) (pl : Nat) (c : z_Cn) : Prop := u.1 pl 0 = nI c.1 ∧ c.1 ≤ 8 ∧ u.1 pl 1 = nI (z_cset c) ∧ (∀ k, k ≤ c.1 → c.2 k < 9 ∧ u.1 (pl + 1) k = nI (c.2 k)) ∧ ∀ k, k < c.1 → u.1 (pl + 2) k = z_lbc P c k
def z_rcC (u : z_M) (P : z_P) (S : z_St) : Prop := S.1 ≤ 12 ∧ u.1 86 0 = nI S.1 ∧ z_pm u ∧ ∀ i, i < S.1 → z_cr1 u P (u.1 87 i).toNatClampNeg (S.2 i)
theorem z_cr1_cg {u u' : z_M} {pl : Nat} {c : z_Cn} (h : u'.1 pl = u.1 pl) (h1 : u'.1 (pl + 1) = u.1 (pl + 1)) (h2 : u'.1 (pl + 2) = u.1 (pl + 2)) (hc : z_cr1 u P pl c) : z_cr1 u' P pl c := by
  unfold z_cr1 at *
  rw [h, h1, h2]
  exact hc
theorem z_pm_pl {u : z_M} (h : z_pm u) {i : Nat} (hi : i < 12) : ∃ c, c < 12 ∧ u.1 87 i = nI (89 + 3 * c) ∧ (u.1 87 i).toNatClampNeg = 89 + 3 * c ∧ z_isCh (89 + 3 * c) = true := by
  obtain ⟨c, hc, e⟩ := h.1 i hi
  refine ⟨c, hc, e, by rw [e]; exact z_cl (by omega), ?_⟩
  unfold z_isCh
  rw [decide_eq_true_eq]
  omega
theorem z_in8 {k : Nat} (h : k < 8) : z_inb (nI k) 8 = true := z_inb_nI h (by decide)
def z_om : Option Bool → Option Int32 → Option Int32
  | some r, _ => some (z_bi r)
  | none, x => x
theorem s1_cmp {b : Int32 → (Int32 → Option Int32) → (Unit → Option Int32) → Option Int32} {kx : Unit → Option Int32} {c d : z_Cn} (hs : ∀ k, k < 9 → ∀ kb, b (nI k) kb kx = if c.1 ≤ k ∨ d.1 ≤ k then kx () else if z_lbc P c k = z_lbc P d k then kb (nI (k + 1)) else some (z_bi (decide (z_lbc P c k < z_lbc P d k)))) (hc : c.1 ≤ 8) : z_lp b z_F 0 kx = z_om (z_cf P c d 9 0) (kx ()) := by
  have key : ∀ n k, k + n = 8 → ∀ F, n < F → z_lp b F (nI k) kx = z_om (z_cf P c d (n + 1) k) (kx ()) := by
    intro n
    induction n with
    | zero =>
      intro k hk F hF
      have : k = 8 := by omega
      subst this
      match F, hF with
      | F + 1, _ =>
        show b (nI 8) _ kx = _
        rw [hs 8 (by decide), if_pos (Or.inl hc), z_cf, if_pos (Or.inl hc)]
        rfl
    | succ n ih =>
      intro k hk F hF
      match F, hF with
      | F + 1, hF =>
        show b (nI k) (fun q' => z_lp b F q' kx) kx = _
        rw [hs k (by omega), z_cf]
        by_cases h : c.1 ≤ k ∨ d.1 ≤ k
        · rw [if_pos h, if_pos h]; rfl
        · rw [if_neg h, if_neg h]
          by_cases e : z_lbc P c k = z_lbc P d k
          · rw [if_pos e, if_pos e]
            exact ih (k + 1) (by omega) F (by omega)
          · rw [if_neg e, if_neg e]; rfl
  exact key 8 0 rfl z_F (by decide)
theorem s1_isAheadOf {p1 p2 : Nat} {c d : z_Cn} (h1 : z_cr1 u P p1 c) (h2 : z_cr1 u P p2 d) : f_X1_isAheadOf p1 p2 u = some (z_bi (z_ah P c d)) := by
  unfold f_X1_isAheadOf
  have hc := h1.2.1
  have hd := h2.2.1
  rw [s1_cmp (P := P) (c := c) (d := d) (fun k hk kb => ?_) hc]
  · simp only [z_gI, h1.1, h2.1, z_leI (show d.1 < 2 ^ 31 by omega) (show c.1 < 2 ^ 31 by omega)]
    unfold z_ah
    cases z_cf P c d 9 0 with
    | some r => rfl
    | none =>
      show (if d.1 ≤ c.1 then some 0 else some 1) = some (z_bi (decide (c.1 < d.1)))
      by_cases e : d.1 ≤ c.1
      · rw [if_pos e, decide_eq_false (by omega)]; rfl
      · rw [if_neg e, decide_eq_true (by omega)]; rfl
  · unfold b_X1_isAheadOf_2
    simp only [h1.1, h2.1, show z_gI u p1 0 = u.1 p1 0 from rfl, show z_gI u p2 0 = u.1 p2 0 from rfl, z_leI (show c.1 < 2 ^ 31 by omega) (show k < 2 ^ 31 by omega), z_leI (show d.1 < 2 ^ 31 by omega) (show k < 2 ^ 31 by omega)]
    by_cases e1 : c.1 ≤ k
    · rw [if_pos e1, if_pos (Or.inl e1)]
    · rw [if_neg e1]
      by_cases e2 : d.1 ≤ k
      · rw [if_pos e2, if_pos (Or.inr e2)]
      · rw [if_neg e2, if_neg (show ¬ (c.1 ≤ k ∨ d.1 ≤ k) by omega), z_in8 (by omega), z_gI, z_gI, z_cl (show k < 2 ^ 31 by omega), h1.2.2.2.2 k (by omega), h2.2.2.2.2 k (by omega), z_1]
        simp only [z_gd, if_true]
        by_cases e3 : z_lbc P c k = z_lbc P d k
        · rw [if_pos e3, if_pos e3]
        · rw [if_neg e3, if_neg e3]
          by_cases e4 : z_lbc P c k < z_lbc P d k
          · rw [decide_eq_true e4, if_neg (Int32.not_le.mpr e4)]; rfl
          · rw [decide_eq_false e4, if_pos (Int32.not_lt.mp e4)]; rfl
/-! a chain is taken from the path -/
theorem s1_take (hr : z_rc u 0 P) (hw : z_wf P) {pl k : Nat} {p : Nat → Nat} (hpl : 89 ≤ pl) (hk : k ≤ 8) (hp : ∀ j, j ≤ k → p j < 9 ∧ u.1 88 j = nI (p j)) : z_ok (f_X1_take pl 0 88 9 (nI k) u) (fun u' => (∀ i, i ≠ pl → i ≠ pl + 1 → i ≠ pl + 2 → u'.1 i = u.1 i) ∧ z_cr1 u' P pl (k, p)) := by
  unfold f_X1_take
  rw [if_neg (show ¬ (8 : Int32) < nI k from nI_nlt (a := 8) (b := k) hk (by decide)), z_ok_lt, z_ok_lt]
  refine z_ok_lp (fun j q => q.1 = nI j ∧ (∀ i, i ≠ pl → i ≠ pl + 1 → i ≠ pl + 2 → q.2.1 i = u.1 i) ∧ q.2.1 pl 0 = nI k ∧ q.2.1 pl 1 = nI (z_orn (fun t => 2 ^ p t) j) ∧ (∀ t, t < j → q.2.1 (pl + 1) t = nI (p t)) ∧ ∀ t, t + 1 < j → q.2.1 (pl + 2) t = z_lb P (p t) (p (t + 1))) (k + 1) (z_F_lt (by omega)) ⟨rfl, fun i h1 h2 h3 => by rw [z_sI_ne h1, z_sI_ne h1], by simp [z_sI_1], by simp [z_sI_1, z_orn, nI_0], fun t ht => absurd ht (by omega), fun t ht => absurd ht (by omega)⟩ ?_ ?_
  · rintro j ⟨jj, v⟩ hj ⟨e1, e2, e3, e4, e5, e6⟩ kb hkb
    dsimp only at e1 e2 e3 e4 e5 e6
    subst e1
    have hj9 : j < 9 := by omega
    obtain ⟨hpj, -⟩ := hp j (by omega)
    have hu : ∀ t, t ≤ k → ∀ v' : z_M, (∀ i, i ≠ pl → i ≠ pl + 1 → i ≠ pl + 2 → v'.1 i = u.1 i) → v'.1 88 t = nI (p t) := fun t ht v' hv' => by rw [hv' 88 (by omega) (by omega) (by omega)]; exact (hp t ht).2
    obtain ⟨v1, hv1⟩ : ∃ v1, v1 = z_sI v (pl + 1) j (nI (p j)) := ⟨_, rfl⟩
    have a1 : ∀ i, i ≠ pl → i ≠ pl + 1 → i ≠ pl + 2 → v1.1 i = u.1 i := fun i h1 h2 h3 => by rw [hv1, z_sI_ne h2]; exact e2 i h1 h2 h3
    have a2 : v1.1 pl 1 = nI (z_orn (fun t => 2 ^ p t) j) := by rw [hv1, z_sI_ne (by omega)]; exact e4
    obtain ⟨v2, hv2⟩ : ∃ v2, v2 = z_sI v1 pl 1 (nI (z_orn (fun t => 2 ^ p t) (j + 1))) := ⟨_, rfl⟩
    have b1 : ∀ i, i ≠ pl → i ≠ pl + 1 → i ≠ pl + 2 → v2.1 i = u.1 i := fun i h1 h2 h3 => by rw [hv2, z_sI_ne h1]; exact a1 i h1 h2 h3
    have b2 : v2.1 pl 0 = nI k := by rw [hv2, z_sI_1, if_neg (by omega), hv1, z_sI_ne (by omega)]; exact e3
    have b3 : v2.1 pl 1 = nI (z_orn (fun t => 2 ^ p t) (j + 1)) := by rw [hv2, z_sI_1, if_pos ⟨rfl, rfl⟩]
    have b4 : ∀ t, t < j + 1 → v2.1 (pl + 1) t = nI (p t) := fun t ht => by
      rw [hv2, z_sI_ne (by omega), hv1, z_sI_1]
      by_cases c : j = t
      · rw [if_pos ⟨rfl, c⟩, c]
      · rw [if_neg (fun h => c h.2)]; exact e5 t (by omega)
    have b5 : ∀ t, t + 1 < j → v2.1 (pl + 2) t = z_lb P (p t) (p (t + 1)) := fun t ht => by rw [hv2, z_sI_ne (by omega), hv1, z_sI_ne (by omega)]; exact e6 t ht
    unfold b_X1_take_18
    dsimp only
    rw [z_gI, e3, if_neg (nI_nlt (by omega) (by omega)), z_ok_gd, z_ok_gd, z_ok_lt, z_gI, z_c9 hj9, hu j (by omega) v e2, ← hv1, z_ok_gd, z_ok_lt, z_gI, z_gI, a2, hu j (by omega) v1 a1, z_sh hpj, z_or, show z_orn (fun t => 2 ^ p t) j ||| 2 ^ p j = z_orn (fun t => 2 ^ p t) (j + 1) from rfl, ← hv2, z_1]
    refine ⟨z_in9 hj9, z_in9 hj9, z_in9 hj9, ?_⟩
    by_cases hj0 : j = 0
    · subst hj0
      rw [if_pos (by decide)]
      exact hkb _ ⟨rfl, b1, b2, b3, b4, fun t ht => absurd ht (by omega)⟩
    · obtain ⟨i, rfl⟩ : ∃ i, j = i + 1 := ⟨j - 1, by omega⟩
      have hr2 : z_rc v2 0 P := z_rc_cg (fun t ht => b1 _ (by omega) (by omega) (by omega)) hr
      rw [if_neg (nI_nle (by omega) (by omega)), nI_pred, z_ok_gd, z_ok_gd, z_gI, z_gI, z_c9 (show i < 9 by omega), hu i (by omega) v2 b1, hu (i + 1) (by omega) v2 b1, s6_edgeLabel hr2 hw (hp i (by omega)).1 hpj, Option.bind_some, z_ok_gd, z_ok_lt]
      refine ⟨z_in9 (by omega), z_in9 hj9, z_in8 (by omega), hkb _ ⟨rfl, fun t h1 h2 h3 => ?_, ?_, ?_, fun t ht => ?_, fun t ht => ?_⟩⟩
      · dsimp only
        rw [z_sI_ne h3]; exact b1 t h1 h2 h3
      · dsimp only
        rw [z_sI_ne (by omega)]; exact b2
      · dsimp only
        rw [z_sI_ne (by omega)]; exact b3
      · dsimp only
        rw [z_sI_ne (by omega)]; exact b4 t ht
      · dsimp only
        rw [z_sI_1]
        by_cases c : i = t
        · rw [if_pos ⟨rfl, c⟩, c]
        · rw [if_neg (fun h => c h.2)]; exact b5 t (by omega)
  · rintro ⟨jj, v⟩ ⟨e1, e2, e3, e4, e5, e6⟩ kb
    dsimp only at e1 e2 e3 e4 e5 e6
    subst e1
    unfold b_X1_take_18
    dsimp only
    rw [z_gI, e3, if_pos (nI_lt (by omega) (by omega)), z_ok_some]
    exact ⟨e2, e3, hk, e4, fun t ht => ⟨(hp t ht).1, e5 t (by omega)⟩, fun t ht => e6 t (by omega)⟩
end
