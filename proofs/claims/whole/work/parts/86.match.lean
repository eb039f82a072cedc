section
variable {u w : z_M} {P R : z_P}
/-! Ways in which one order is laid on another. -/
def z_ud (f : Nat → Nat) (x y : Nat) : Nat → Nat := fun z => if z = x then y else f z
theorem z_ud_eq (f : Nat → Nat) (x y : Nat) : z_ud f x y x = y := if_pos rfl
theorem z_ud_ne (f : Nat → Nat) {x y z : Nat} (h : z ≠ x) : z_ud f x y z = f z := if_neg h
/-- all below x are well laid -/
def z_Pg (P R : z_P) (x : Nat) (f : Nat → Nat) : Prop := ∀ z, z < x → (z_th P).testBit z = true → f z < 9 ∧ (z_th R).testBit (f z) = true ∧ ∀ t, t < x → (z_th P).testBit t = true → (z ≠ t → f z ≠ f t) ∧ (z_ab P z).testBit t = (z_ab R (f z)).testBit (f t)
def z_fitp (P R : z_P) (x : Nat) (f : Nat → Nat) (y z : Nat) : Prop := (z_th P).testBit z = true → f z ≠ y ∧ (z_ab P z).testBit x = (z_ab R (f z)).testBit y ∧ (z_ab P x).testBit z = (z_ab R y).testBit (f z)
def z_fit (P R : z_P) (x : Nat) (f : Nat → Nat) (y : Nat) : Bool := (z_th R).testBit y && decide (∀ z, z < x → ((z_th P).testBit z = true → f z ≠ y ∧ (z_ab P z).testBit x = (z_ab R (f z)).testBit y ∧ (z_ab P x).testBit z = (z_ab R y).testBit (f z)))
theorem z_fit_iff {x : Nat} {f : Nat → Nat} {y : Nat} : z_fit P R x f y = true ↔ (z_th R).testBit y = true ∧ ∀ z, z < x → z_fitp P R x f y z := by
  unfold z_fit z_fitp
  rw [Bool.and_eq_true, decide_eq_true_eq]
theorem z_Pg_fit (hw : z_wf P) (hw2 : z_wf R) {x y : Nat} (hx : x < 9) (hy : y < 9) {f : Nat → Nat} (h : z_Pg P R x f) (hf : z_fit P R x f y = true) : z_Pg P R (x + 1) (z_ud f x y) := by
  obtain ⟨h1, h2⟩ := z_fit_iff.mp hf
  intro z hz tz
  by_cases ez : z = x
  · subst ez
    rw [z_ud_eq]
    refine ⟨hy, h1, fun t ht tt => ?_⟩
    by_cases et : t = z
    · subst et
      rw [z_ud_eq, hw.irr t hx, hw2.irr y hy]
      exact ⟨fun c => absurd rfl c, rfl⟩
    · rw [z_ud_ne _ et]
      obtain ⟨g1, g2, g3⟩ := h2 t (by omega) tt
      exact ⟨fun _ => Ne.symm g1, g3⟩
  · rw [z_ud_ne _ ez]
    obtain ⟨a1, a2, a3⟩ := h z (by omega) tz
    refine ⟨a1, a2, fun t ht tt => ?_⟩
    by_cases et : t = x
    · subst et
      rw [z_ud_eq]
      obtain ⟨g1, g2, g3⟩ := h2 z (by omega) tz
      exact ⟨fun _ => g1, g2⟩
    · rw [z_ud_ne _ et]
      exact a3 t (by omega) tt
theorem z_Pg_skip {x : Nat} {f : Nat → Nat} (h : z_Pg P R x f) (hx : (z_th P).testBit x = false) : z_Pg P R (x + 1) f := by
  intro z hz tz
  have ez : z ≠ x := by rintro rfl; rw [hx] at tz; cases tz
  obtain ⟨a1, a2, a3⟩ := h z (by omega) tz
  refine ⟨a1, a2, fun t ht tt => ?_⟩
  have et : t ≠ x := by rintro rfl; rw [hx] at tt; cases tt
  exact a3 t (by omega) tt
theorem z_Pg_cg {x : Nat} {f g : Nat → Nat} (h : z_Pg P R x f) (he : ∀ z, z < x → (z_th P).testBit z = true → g z = f z) : z_Pg P R x g := by
  intro z hz tz
  obtain ⟨a1, a2, a3⟩ := h z hz tz
  rw [he z hz tz]
  refine ⟨a1, a2, fun t ht tt => ?_⟩
  rw [he t ht tt]
  exact a3 t ht tt
theorem z_Pg_le {x y : Nat} {f : Nat → Nat} (h : z_Pg P R y f) (hxy : x ≤ y) : z_Pg P R x f := fun z hz tz => ⟨(h z (by omega) tz).1, (h z (by omega) tz).2.1, fun t ht tt => (h z (by omega) tz).2.2 t (by omega) tt⟩
/-- how many ways there are to go on -/
def z_ca (P R : z_P) : Nat → Nat → (Nat → Nat) → Nat
  | 0, _, _ => 1
  | d + 1, x, f => if (z_th P).testBit x then fb_sm (fun y => if z_fit P R x f y then z_ca P R d (x + 1) (z_ud f x y) else 0) 9 else z_ca P R d (x + 1) f
def z_Ext (P R : z_P) (x : Nat) (f g : Nat → Nat) : Prop := (∀ z, z < x → (z_th P).testBit z = true → g z = f z) ∧ z_Pg P R 9 g
theorem z_fit_Ext {x : Nat} (hx : x < 9) (tx : (z_th P).testBit x = true) {f g : Nat → Nat} (h : z_Ext P R x f g) : g x < 9 ∧ z_fit P R x f (g x) = true ∧ z_Ext P R (x + 1) (z_ud f x (g x)) g := by
  obtain ⟨h1, h2⟩ := h
  obtain ⟨a1, a2, a3⟩ := h2 x hx tx
  refine ⟨a1, z_fit_iff.mpr ⟨a2, fun z hz tz => ?_⟩, fun z hz tz => ?_, h2⟩
  · obtain ⟨b1, b2, b3⟩ := h2 z (by omega) tz
    rw [← h1 z hz tz]
    exact ⟨(b3 x hx tx).1 (by omega), (b3 x hx tx).2, (a3 z (by omega) tz).2⟩
  · by_cases e : z = x
    · subst e; rw [z_ud_eq]
    · rw [z_ud_ne _ e]; exact h1 z (by omega) tz
theorem z_Ext_ud {x y : Nat} {f g : Nat → Nat} (h : z_Ext P R (x + 1) (z_ud f x y) g) : z_Ext P R x f g := ⟨fun z hz tz => by rw [h.1 z (by omega) tz, z_ud_ne _ (by omega)], h.2⟩
theorem z_ca_pos (hw : z_wf P) (hw2 : z_wf R) : ∀ d x f, x + d = 9 → z_Pg P R x f → (0 < z_ca P R d x f ↔ ∃ g, z_Ext P R x f g)
  | 0, x, f, hd, hp => by
    have : x = 9 := by omega
    subst this
    exact ⟨fun _ => ⟨f, fun _ _ _ => rfl, hp⟩, fun _ => Nat.one_pos⟩
  | d + 1, x, f, hd, hp => by
    have hx : x < 9 := by omega
    rw [z_ca]
    cases tx : (z_th P).testBit x
    · simp only [Bool.false_eq_true, if_false]
      rw [z_ca_pos hw hw2 d (x + 1) f (by omega) (z_Pg_skip hp tx)]
      constructor
      · rintro ⟨g, h1, h2⟩
        exact ⟨g, fun z hz tz => h1 z (by omega) tz, h2⟩
      · rintro ⟨g, h1, h2⟩
        refine ⟨g, fun z hz tz => ?_, h2⟩
        have : z ≠ x := by rintro rfl; rw [tx] at tz; cases tz
        exact h1 z (by omega) tz
    · simp only [if_true]
      constructor
      · intro h
        have hex : ∃ y, y < 9 ∧ 0 < (if z_fit P R x f y then z_ca P R d (x + 1) (z_ud f x y) else 0) := Classical.byContradiction (fun hn => by
          have : fb_sm (fun y => if z_fit P R x f y then z_ca P R d (x + 1) (z_ud f x y) else 0) 9 ≤ 9 * 0 := fb_sm_bound (fun y hy => Nat.le_of_not_lt (fun c => hn ⟨y, hy, c⟩))
          omega)
        obtain ⟨y, hy, hc⟩ := hex
        by_cases hf : z_fit P R x f y = true
        · rw [if_pos hf] at hc
          obtain ⟨g, hg⟩ := (z_ca_pos hw hw2 d (x + 1) _ (by omega) (z_Pg_fit hw hw2 hx hy hp hf)).mp hc
          exact ⟨g, z_Ext_ud hg⟩
        · rw [if_neg hf] at hc
          omega
      · rintro ⟨g, hg⟩
        obtain ⟨a1, a2, a3⟩ := z_fit_Ext hx tx hg
        have h1 := (z_ca_pos hw hw2 d (x + 1) _ (by omega) (z_Pg_fit hw hw2 hx a1 hp a2)).mpr ⟨g, a3⟩
        have h2 := fb_sm_part (fun y => if z_fit P R x f y then z_ca P R d (x + 1) (z_ud f x y) else 0) a1
        try dsimp only at h2
        rw [if_pos a2] at h2
        omega
theorem z_ca_cg : ∀ d x (f g : Nat → Nat), (∀ z, z < x → (z_th P).testBit z = true → f z = g z) → z_ca P R d x f = z_ca P R d x g
  | 0, _, _, _, _ => rfl
  | d + 1, x, f, g, h => by
    rw [z_ca, z_ca]
    cases tx : (z_th P).testBit x
    · simp only [Bool.false_eq_true, if_false]
      refine z_ca_cg d (x + 1) f g (fun z hz tz => ?_)
      have : z ≠ x := by rintro rfl; rw [tx] at tz; cases tz
      exact h z (by omega) tz
    · simp only [if_true]
      refine fb_sm_cong (fun y _ => ?_)
      have e : z_fit P R x f y = z_fit P R x g y := by
        rw [Bool.eq_iff_iff, z_fit_iff, z_fit_iff]
        constructor
        · rintro ⟨h1, h2⟩
          refine ⟨h1, fun z hz tz => ?_⟩
          rw [← h z hz tz]
          exact h2 z hz tz
        · rintro ⟨h1, h2⟩
          refine ⟨h1, fun z hz tz => ?_⟩
          rw [h z hz tz]
          exact h2 z hz tz
      rw [e, z_ca_cg d (x + 1) (z_ud f x y) (z_ud g x y) (fun z hz tz => by
        by_cases c : z = x
        · subst c; rw [z_ud_eq, z_ud_eq]
        · rw [z_ud_ne _ c, z_ud_ne _ c]; exact h z (by omega) tz)]
/-! as many points on each side -/
theorem z_pcn_ct (a : Nat) : ∀ n, z_pcn a n = fb_ct (fun k => a.testBit k) n
  | 0 => rfl
  | n + 1 => by
    rw [z_pcn, fb_ct_succ, z_pcn_ct a n]
    cases a.testBit n <;> rfl
theorem z_pc_ct (a : Nat) : z_pc a = fb_ct (fun k => a.testBit k) 9 := by rw [← z_pcn_9, z_pcn_ct]
theorem z_pc_inj {a b : Nat} (f : Nat → Nat) (h1 : ∀ k, k < 9 → a.testBit k = true → f k < 9 ∧ b.testBit (f k) = true) (h2 : ∀ k l, k < 9 → l < 9 → a.testBit k = true → a.testBit l = true → k ≠ l → f k ≠ f l) : z_pc a ≤ z_pc b := by
  rw [z_pc_ct, z_pc_ct]
  refine z_ct_le f h1 (fun k l hk hl ak al e => ?_)
  refine Classical.byContradiction (fun c => h2 k l hk hl ak al c e)
theorem z_pc_df {a b : Nat} (h : ∀ k, k < 9 → b.testBit k = true → a.testBit k = true) : z_pc b + z_pc (z_df a b) = z_pc a := by
  have key : ∀ n, n ≤ 9 → z_pcn b n + z_pcn (z_df a b) n = z_pcn a n := by
    intro n
    induction n with
    | zero => intro _; rfl
    | succ n ih =>
      intro hn
      have := ih (by omega)
      have h2 := h n (by omega)
      rw [z_pcn, z_pcn, z_pcn, z_df_bit]
      cases hb : b.testBit n
      · simp only [Bool.not_false, Bool.and_true, Bool.toNat_false]; omega
      · rw [h2 hb]; simp only [Bool.not_true, Bool.and_false, Bool.toNat_false, Bool.toNat_true]; omega
  have := key 9 (Nat.le_refl 9)
  rw [z_pcn_9, z_pcn_9, z_pcn_9] at this
  exact this
theorem z_deg (hw : z_wf P) (hw2 : z_wf R) (hpc : z_pc (z_th P) = z_pc (z_th R)) {g : Nat → Nat} (hg : z_Pg P R 9 g) {x : Nat} (hx : x < 9) (tx : (z_th P).testBit x = true) : z_pc (z_ab P x) = z_pc (z_ab R (g x)) ∧ z_pc (z_un P x) = z_pc (z_un R (g x)) := by
  obtain ⟨g1, g2, g3⟩ := hg x hx tx
  constructor
  · have s1 : ∀ k, k < 9 → (z_ab P x).testBit k = true → (z_th P).testBit k = true := fun k hk hb => (hw.in x k hx hk hb).2
    have s2 : ∀ k, k < 9 → (z_ab R (g x)).testBit k = true → (z_th R).testBit k = true := fun k hk hb => (hw2.in (g x) k g1 hk hb).2
    have e1 := z_pc_df s1
    have e2 := z_pc_df s2
    have i1 : z_pc (z_ab P x) ≤ z_pc (z_ab R (g x)) := z_pc_inj g (fun k hk hb => ⟨(hg k hk (s1 k hk hb)).1, by rw [← (g3 k hk (s1 k hk hb)).2]; exact hb⟩) (fun k l hk hl ak al hne => ((hg k hk (s1 k hk ak)).2.2 l hl (s1 l hl al)).1 hne)
    have i2 : z_pc (z_df (z_th P) (z_ab P x)) ≤ z_pc (z_df (z_th R) (z_ab R (g x))) := z_pc_inj g (fun k hk hb => by
      rw [z_df_bit, Bool.and_eq_true] at hb
      obtain ⟨k1, k2, -⟩ := hg k hk hb.1
      refine ⟨k1, ?_⟩
      rw [z_df_bit, k2, ← (g3 k hk hb.1).2]
      exact hb.2) (fun k l hk hl ak al hne => by
      rw [z_df_bit, Bool.and_eq_true] at ak al
      exact ((hg k hk ak.1).2.2 l hl al.1).1 hne)
    omega
  · have s1 : ∀ k, k < 9 → (z_un P x).testBit k = true → (z_th P).testBit k = true := fun k hk hb => by
      rw [z_un_bit P hk] at hb
      exact (hw.in k x hk hx hb).1
    have s2 : ∀ k, k < 9 → (z_un R (g x)).testBit k = true → (z_th R).testBit k = true := fun k hk hb => by
      rw [z_un_bit R hk] at hb
      exact (hw2.in k (g x) hk g1 hb).1
    have e1 := z_pc_df s1
    have e2 := z_pc_df s2
    have i1 : z_pc (z_un P x) ≤ z_pc (z_un R (g x)) := z_pc_inj g (fun k hk hb => by
      have tk := s1 k hk hb
      obtain ⟨k1, k2, k3⟩ := hg k hk tk
      refine ⟨k1, ?_⟩
      rw [z_un_bit R k1, ← (k3 x hx tx).2, ← z_un_bit P hk]
      exact hb) (fun k l hk hl ak al hne => ((hg k hk (s1 k hk ak)).2.2 l hl (s1 l hl al)).1 hne)
    have i2 : z_pc (z_df (z_th P) (z_un P x)) ≤ z_pc (z_df (z_th R) (z_un R (g x))) := z_pc_inj g (fun k hk hb => by
      rw [z_df_bit, Bool.and_eq_true] at hb
      obtain ⟨k1, k2, k3⟩ := hg k hk hb.1
      refine ⟨k1, ?_⟩
      rw [z_df_bit, k2, z_un_bit R k1, ← (k3 x hx tx).2, ← z_un_bit P hk]
      exact hb.2) (fun k l hk hl ak al hne => by
      rw [z_df_bit, Bool.and_eq_true] at ak al
      exact ((hg k hk ak.1).2.2 l hl al.1).1 hne)
    omega
/-! an order on itself: each place is as good as another -/
theorem z_re (hw : z_wf P) {g : Nat → Nat} (hg : z_Pg P P 9 g) (F : Nat → Nat) : fb_sm (fun y => if (z_th P).testBit y then F (g y) else 0) 9 = fb_sm (fun y => if (z_th P).testBit y then F y else 0) 9 := by
  have hc1 : ∀ y', fb_ct (fun y => (z_th P).testBit y && decide (g y = y')) 9 ≤ 1 := by
    intro y'
    refine Nat.le_of_not_lt (fun hlt => ?_)
    obtain ⟨i, i1, i2, i3⟩ := fb_ct_kth (p := fun y => (z_th P).testBit y && decide (g y = y')) (k := 0) (n := 9) (by omega)
    obtain ⟨j, j1, j2, j3⟩ := fb_ct_kth (p := fun y => (z_th P).testBit y && decide (g y = y')) (k := 1) (n := 9) (by omega)
    rw [Bool.and_eq_true, decide_eq_true_eq] at i2 j2
    have hne : i ≠ j := by rintro rfl; omega
    exact ((hg i i1 i2.1).2.2 j j1 j2.1).1 hne (by rw [i2.2, j2.2])
  have htot := z_ct_part (p := fun y => (z_th P).testBit y) (g := g) 9 (fun i hi hp => (hg i hi hp).1)
  have hzero : ∀ y', y' < 9 → (z_th P).testBit y' = false → fb_ct (fun y => (z_th P).testBit y && decide (g y = y')) 9 = 0 := by
    intro y' hy' h0
    rw [fb_ct_zero]
    intro k hk
    cases hb : (z_th P).testBit k
    · rfl
    · rw [Bool.true_and, decide_eq_false_iff_not]
      rintro rfl
      rw [(hg k hk hb).2.1] at h0
      cases h0
  have hone : ∀ y', y' < 9 → (z_th P).testBit y' = true → fb_ct (fun y => (z_th P).testBit y && decide (g y = y')) 9 = 1 := by
    have hsum : fb_sm (fun y' => if (z_th P).testBit y' then 1 else 0) 9 = fb_ct (fun y => (z_th P).testBit y) 9 := rfl
    have hadd : ∀ n, n ≤ 9 → fb_sm (fun y' => fb_ct (fun y => (z_th P).testBit y && decide (g y = y')) 9) n + fb_sm (fun y' => (if (z_th P).testBit y' then 1 else 0) - fb_ct (fun y => (z_th P).testBit y && decide (g y = y')) 9) n = fb_sm (fun y' => if (z_th P).testBit y' then 1 else 0) n := by
      intro n
      induction n with
      | zero => intro _; rfl
      | succ n ih =>
        intro hn
        have := ih (by omega)
        rw [fb_sm_succ, fb_sm_succ, fb_sm_succ]
        have h1 := hc1 n
        cases hb : (z_th P).testBit n
        · have := hzero n (by omega) hb
          simp only [Bool.false_eq_true, if_false]
          omega
        · simp only [if_true]
          omega
    have h9 := hadd 9 (Nat.le_refl 9)
    have hz : fb_sm (fun y' => (if (z_th P).testBit y' then 1 else 0) - fb_ct (fun y => (z_th P).testBit y && decide (g y = y')) 9) 9 = 0 := by omega
    intro y' hy' hb
    have := fb_sm_zero hz y' hy'
    rw [if_pos hb] at this
    have := hc1 y'
    omega
  have e1 : fb_sm (fun y => if (z_th P).testBit y then F (g y) else 0) 9 = fb_sm (fun y => fb_sm (fun y' => F y' * (if ((z_th P).testBit y && decide (g y = y')) = true then 1 else 0)) 9) 9 := fb_sm_cong (fun y hy => by
    cases hb : (z_th P).testBit y
    · simp only [Bool.false_and, Bool.false_eq_true, if_false, Nat.mul_zero]
      rw [z_sm_0 _ (fun _ => rfl)]
    · simp only [if_true, Bool.true_and, decide_eq_true_eq]
      have : fb_sm (fun y' => F y' * (if g y = y' then 1 else 0)) 9 = fb_sm (fun y' => if y' = g y then F y' else 0) 9 := fb_sm_cong (fun y' _ => by
        by_cases c : g y = y'
        · rw [if_pos c, if_pos c.symm, Nat.mul_one]
        · rw [if_neg c, if_neg (Ne.symm c), Nat.mul_zero])
      rw [this, z_sm_one F 9 (hg y hy hb).1])
  rw [e1, z_sm_ex]
  refine fb_sm_cong (fun y' hy' => ?_)
  rw [z_sm_mul (F y') (fun y => if ((z_th P).testBit y && decide (g y = y')) = true then 1 else 0) 9]
  have e2 : fb_sm (fun y => if ((z_th P).testBit y && decide (g y = y')) = true then 1 else 0) 9 = fb_ct (fun y => (z_th P).testBit y && decide (g y = y')) 9 := rfl
  rw [e2]
  cases hb : (z_th P).testBit y'
  · rw [hzero y' hy' hb]; simp
  · rw [hone y' hy' hb]; simp
theorem z_ca_inv (hw : z_wf P) {g : Nat → Nat} (hg : z_Pg P P 9 g) : ∀ d x (f : Nat → Nat), x + d = 9 → z_Pg P P x f → z_ca P P d x (fun z => g (f z)) = z_ca P P d x f
  | 0, _, _, _, _ => rfl
  | d + 1, x, f, hd, hp => by
    have hx : x < 9 := by omega
    rw [z_ca, z_ca]
    cases tx : (z_th P).testBit x
    · simp only [Bool.false_eq_true, if_false]
      exact z_ca_inv hw hg d (x + 1) f (by omega) (z_Pg_skip hp tx)
    · simp only [if_true]
      have e1 : fb_sm (fun y => if z_fit P P x (fun z => g (f z)) y then z_ca P P d (x + 1) (z_ud (fun z => g (f z)) x y) else 0) 9 = fb_sm (fun y => if (z_th P).testBit y then (if z_fit P P x (fun z => g (f z)) y then z_ca P P d (x + 1) (z_ud (fun z => g (f z)) x y) else 0) else 0) 9 := fb_sm_cong (fun y _ => by
        cases hb : (z_th P).testBit y
        · simp [z_fit, hb]
        · simp)
      rw [e1, ← z_re hw hg (fun y => if z_fit P P x (fun z => g (f z)) y then z_ca P P d (x + 1) (z_ud (fun z => g (f z)) x y) else 0)]
      refine fb_sm_cong (fun y hy => ?_)
      cases hb : (z_th P).testBit y
      · simp [z_fit, hb]
      · obtain ⟨g1, g2, g3⟩ := hg y hy hb
        simp only [if_true]
        have e2 : z_fit P P x (fun z => g (f z)) (g y) = z_fit P P x f y := by
          rw [Bool.eq_iff_iff, z_fit_iff, z_fit_iff]
          have hiff : ∀ z, z < x → (z_fitp P P x (fun z => g (f z)) (g y) z ↔ z_fitp P P x f y z) := by
            intro z hz
            constructor
            · intro hh tz
              obtain ⟨f1, f2, -⟩ := hp z hz tz
              obtain ⟨c1, c2, c3⟩ := hh tz
              obtain ⟨-, -, k3⟩ := hg (f z) f1 f2
              refine ⟨fun e => c1 (by dsimp only; rw [e]), ?_, ?_⟩
              · rw [c2, ← (k3 y hy hb).2]
              · rw [c3, ← (g3 (f z) f1 f2).2]
            · intro hh tz
              obtain ⟨f1, f2, -⟩ := hp z hz tz
              obtain ⟨c1, c2, c3⟩ := hh tz
              obtain ⟨-, -, k3⟩ := hg (f z) f1 f2
              refine ⟨(k3 y hy hb).1 c1, ?_, ?_⟩
              · rw [c2, (k3 y hy hb).2]
              · rw [c3, (g3 (f z) f1 f2).2]
          constructor
          · rintro ⟨-, h2⟩
            exact ⟨hb, fun z hz => (hiff z hz).mp (h2 z hz)⟩
          · rintro ⟨-, h2⟩
            exact ⟨g2, fun z hz => (hiff z hz).mpr (h2 z hz)⟩
        rw [e2]
        by_cases hf : z_fit P P x f y = true
        · rw [if_pos hf, if_pos hf, ← z_ca_inv hw hg d (x + 1) (z_ud f x y) (by omega) (z_Pg_fit hw hw hx hy hp hf)]
          refine z_ca_cg d (x + 1) _ _ (fun z hz tz => ?_)
          by_cases c : z = x
          · subst c; rw [z_ud_eq, z_ud_eq]
          · rw [z_ud_ne _ c, z_ud_ne _ c]
        · rw [if_neg hf, if_neg hf]
theorem z_id_Pg (x : Nat) (hx : x ≤ 9) : z_Pg P P x (fun z => z) := fun z hz tz => ⟨(by show z < 9; omega), tz, fun t _ _ => ⟨fun c => c, rfl⟩⟩
/-- how many places there are for x, those ahead of it standing -/
def z_np (P : z_P) (d x : Nat) : Nat := fb_ct (fun y => z_fit P P x (fun z => z) y && decide (0 < z_ca P P d (x + 1) (z_ud (fun z => z) x y))) 9
theorem z_ca_np (hw : z_wf P) {d x : Nat} (hd : x + (d + 1) = 9) (tx : (z_th P).testBit x = true) : z_ca P P (d + 1) x (fun z => z) = z_np P d x * z_ca P P d (x + 1) (fun z => z) := by
  have hx : x < 9 := by omega
  rw [z_ca, if_pos tx]
  have e : fb_sm (fun y => if z_fit P P x (fun z => z) y then z_ca P P d (x + 1) (z_ud (fun z => z) x y) else 0) 9 = fb_sm (fun y => z_ca P P d (x + 1) (fun z => z) * (if (z_fit P P x (fun z => z) y && decide (0 < z_ca P P d (x + 1) (z_ud (fun z => z) x y))) = true then 1 else 0)) 9 := fb_sm_cong (fun y hy => by
    by_cases hf : z_fit P P x (fun z => z) y = true
    · rw [if_pos hf, hf, Bool.true_and]
      simp only [decide_eq_true_eq]
      by_cases hc : 0 < z_ca P P d (x + 1) (z_ud (fun z => z) x y)
      · rw [if_pos hc, Nat.mul_one]
        have hPg := z_Pg_fit hw hw hx hy (z_id_Pg x (by omega)) hf
        obtain ⟨g, h1, h2⟩ := (z_ca_pos hw hw d (x + 1) _ (by omega) hPg).mp hc
        rw [← z_ca_inv hw h2 d (x + 1) (fun z => z) (by omega) (z_id_Pg _ (by omega))]
        exact z_ca_cg d (x + 1) _ _ (fun z hz tz => (h1 z hz tz).symm)
      · rw [if_neg hc]; omega
    · rw [if_neg hf, if_neg (by rw [Bool.and_eq_true]; exact fun c => hf c.1), Nat.mul_zero])
  rw [e, z_sm_mul, Nat.mul_comm]
  rfl
end
