section
variable {u w : z_M} {P : z_P} {I : Nat} {h : Nat → Nat}
/-! sums of Int32 -/
theorem z_su_add (f g : Nat → Int32) : ∀ n, z_su (fun k => f k + g k) n = z_su f n + z_su g n
  | 0 => (by show (0 : Int32) = 0 + 0; decide)
  | n + 1 => by
    rw [z_su, z_su, z_su, z_su_add f g n]
    grind
theorem z_su_mul (c : Int32) (f : Nat → Int32) : ∀ n, z_su (fun k => c * f k) n = c * z_su f n
  | 0 => by
    show (0 : Int32) = c * 0
    grind
  | n + 1 => by
    rw [z_su, z_su, z_su_mul c f n]
    grind
theorem z_su_neg (f : Nat → Int32) : ∀ n, z_su (fun k => -f k) n = -z_su f n
  | 0 => (by show (0 : Int32) = -0; decide)
  | n + 1 => by
    rw [z_su, z_su, z_su_neg f n]
    grind
theorem z_su_if {b : Prop} [Decidable b] (f : Nat → Int32) (n : Nat) : (if b then z_su f n else 0) = z_su (fun k => if b then f k else 0) n := by
  by_cases c : b
  · simp [c]
  · simp only [c, if_false]
    rw [z_su_0 n (fun _ _ => rfl)]
theorem z_su_ex (f : Nat → Nat → Int32) (n : Nat) : ∀ m, z_su (fun y => z_su (fun k => f y k) n) m = z_su (fun k => z_su (fun y => f y k) m) n
  | 0 => by
    show (0 : Int32) = z_su (fun k => 0) n
    rw [z_su_0 n (fun _ _ => rfl)]
  | m + 1 => by
    rw [z_su, z_su_ex f n m, ← z_su_add]
    rfl
theorem z_su_split (f : Nat → Int32) (m : Nat) : ∀ n, z_su f (m + n) = z_su f m + z_su (fun k => f (m + k)) n
  | 0 => by
    show z_su f m = z_su f m + 0
    rw [z_add0]
  | n + 1 => by
    show z_su f (m + n) + f (m + n) = z_su f m + (z_su (fun k => f (m + k)) n + f (m + n))
    rw [z_su_split f m n]
    grind
theorem z_su_pow (f : Nat → Int32) : ∀ n, z_su f (2 ^ n) = f 0 + z_su (fun t => z_su (fun p => f (2 ^ t + p)) (2 ^ t)) n
  | 0 => by
    show 0 + f 0 = f 0 + 0
    grind
  | n + 1 => by
    rw [Nat.pow_succ, Nat.mul_two, z_su_split, z_su_pow f n, z_su]
    grind
theorem z_su_one (g : Nat → Int32) {x : Nat} : ∀ n, x < n → z_su (fun y => if y = x then g y else 0) n = g x
  | 0, hh => absurd hh (Nat.not_lt_zero x)
  | n + 1, hh => by
    rw [z_su]
    by_cases e : x = n
    · subst e
      rw [if_pos rfl, z_su_0 x (fun k hk => if_neg (by omega))]
      grind
    · rw [z_su_one g n (by omega), if_neg (by omega), z_add0]
/-! signs -/
def z_ep (p : Nat) : Int32 := if z_pc p % 2 = 0 then 1 else -1
theorem z_tp_or {t p : Nat} (hp : p < 2 ^ t) : 2 ^ t + p = p ||| 2 ^ t := by
  have := Nat.two_pow_add_eq_or_of_lt hp 1
  rw [Nat.mul_one] at this
  rw [this, Nat.or_comm]
theorem z_tp_bit {t p : Nat} (hp : p < 2 ^ t) (k : Nat) : (2 ^ t + p).testBit k = (p.testBit k || decide (k = t)) := by rw [z_tp_or hp, z_put_bit]
theorem z_tp_no {t p k : Nat} (hp : p < 2 ^ t) (hk : t ≤ k) : p.testBit k = false := Nat.testBit_lt_two_pow (Nat.lt_of_lt_of_le hp (Nat.pow_le_pow_right (by decide) hk))
theorem z_ep_tp {t p : Nat} (ht : t < 9) (hp : p < 2 ^ t) : z_ep (2 ^ t + p) = -z_ep p := by
  unfold z_ep
  rw [z_tp_or hp, z_pc_put ht (z_tp_no hp (Nat.le_refl t))]
  by_cases c : z_pc p % 2 = 0
  · rw [if_pos c, if_neg (by omega)]
  · rw [if_neg c, if_pos (by omega)]
    decide
theorem z_tp_lt {t p : Nat} (ht : t < 9) (hp : p < 2 ^ t) : 2 ^ t + p < 512 := by
  have : 2 ^ (t + 1) ≤ 2 ^ 9 := Nat.pow_le_pow_right (by decide) (by omega)
  rw [Nat.pow_succ] at this
  omega
theorem z_tp_sb {t p s : Nat} (ht : t < 9) (hp : p < 2 ^ t) : z_sb (2 ^ t + p) s = (s.testBit t && z_sb p s) := by
  have h1 := z_tp_lt ht hp
  rw [Bool.eq_iff_iff, Bool.and_eq_true, z_sb_iff h1, z_sb_iff (show p < 512 by omega)]
  constructor
  · intro hh
    exact ⟨hh t ht (by rw [z_tp_bit hp]; simp), fun k hk hb => hh k hk (by rw [z_tp_bit hp, hb]; rfl)⟩
  · rintro ⟨h2, h3⟩ k hk hb
    rw [z_tp_bit hp, Bool.or_eq_true, decide_eq_true_eq] at hb
    rcases hb with hb | rfl
    · exact h3 k hk hb
    · exact h2
theorem z_tp_pv {t p n : Nat} (ht0 : t ≠ 0) (hp : p < 2 ^ t) (hn : t < n) : z_pv (2 ^ t + p) n = t := by
  rw [z_pv_ext (m := t + 1) (fun k hk => by rw [z_tp_bit hp, z_tp_no hp (by omega)]; simp; omega) n (by omega), z_pv_s, if_pos ⟨ht0, by rw [z_tp_bit hp]; simp⟩]
/-- sums of rows that end with x, by signs -/
def z_bA (P : z_P) (I : Nat) (h : Nat → Nat) (s x : Nat) : Int32 := z_su (fun p => if z_sb p s then -z_ep p * z_flv P I h (2 ^ h x + p) x else 0) (2 ^ h x)
theorem z_bA_fix (hw : z_wf P) {s : Nat} (hs0 : s.testBit 0 = false) (hh : ∀ x, x < 9 → I.testBit x = true → h x < 9 ∧ 0 < h x) (hm : ∀ x y, x < 9 → y < 9 → I.testBit x = true → I.testBit y = true → (z_un P x).testBit y = true → h y < h x) {x : Nat} (hx : x < 9) (hIx : I.testBit x = true) : z_bA P I h s x = -1 - z_su (fun y => if I.testBit y && s.testBit (h y) && (z_un P x).testBit y then z_bA P I h s y else 0) 9 := by
  obtain ⟨hx9, hx0⟩ := hh x hx hIx
  have hB0 : (if z_sb 0 s then -z_ep 0 * z_flv P I h (2 ^ h x + 0) x else 0) = (-1 : Int32) := by
    have e1 : z_sb 0 s = true := (z_sb_iff (by decide)).mpr (fun k _ c => by rw [Nat.zero_testBit] at c; cases c)
    have e2 : z_flv P I h (2 ^ h x + 0) x = 1 := by
      rw [z_fl_fix hw _ hx]
      unfold z_fg
      have : z_pv (2 ^ h x + 0) (h x) = 0 := by
        refine Classical.byContradiction (fun c => ?_)
        obtain ⟨d1, d2⟩ := z_pv_ok _ c
        rw [z_tp_bit (Nat.two_pow_pos _), Nat.zero_testBit, Bool.false_or, decide_eq_true_eq] at d2
        omega
      rw [if_pos this]
    rw [if_pos e1, e2]
    decide
  have hBt : ∀ t p, t < h x → p < 2 ^ t → (if z_sb (2 ^ t + p) s then -z_ep (2 ^ t + p) * z_flv P I h (2 ^ h x + (2 ^ t + p)) x else 0) = z_su (fun y => if (I.testBit y && (z_un P x).testBit y && decide (h y = t) && s.testBit t) = true then -(if z_sb p s then -z_ep p * z_flv P I h (2 ^ h y + p) y else 0) else 0) 9 := by
    intro t p ht hp
    have ht9 : t < 9 := by omega
    rw [z_tp_sb ht9 hp]
    cases hst : s.testBit t
    · rw [z_su_0 9 (fun k _ => by simp)]
      simp
    · have ht0 : t ≠ 0 := by rintro rfl; rw [hs0] at hst; cases hst
      have hp2 : 2 ^ t + p < 2 ^ h x := by
        have : 2 ^ (t + 1) ≤ 2 ^ h x := Nat.pow_le_pow_right (by decide) (by omega)
        rw [Nat.pow_succ] at this
        omega
      cases hsp : z_sb p s
      · rw [z_su_0 9 (fun k _ => by simp)]
        simp
      · simp only [Bool.and_self, if_true, Bool.and_true]
        rw [z_fl_fix hw _ hx]
        unfold z_fg
        have e1 : z_pv (2 ^ h x + (2 ^ t + p)) (h x) = t := by
          rw [z_pv_cg (s' := 2 ^ t + p) (h x) (fun k hk => by rw [z_tp_bit hp2]; simp; omega)]
          exact z_tp_pv ht0 hp (by omega)
        rw [e1, if_neg ht0, z_ep_tp ht9 hp, ← z_su_mul]
        refine z_su_cg (fun y hy => ?_)
        have eb : (h y == t) = decide (h y = t) := rfl
        rw [eb]
        by_cases c : (I.testBit y && (z_un P x).testBit y && decide (h y = t)) = true
        · rw [if_pos c, if_pos c]
          rw [Bool.and_eq_true, Bool.and_eq_true, decide_eq_true_eq] at c
          have e2 : z_flv P I h (2 ^ h x + (2 ^ t + p)) y = z_flv P I h (2 ^ h y + p) y := by
            rw [c.2]
            refine z_fl_cg hw y hy (fun k hk => ?_)
            rw [z_tp_bit hp2]
            simp
            omega
          rw [e2]
          grind
        · rw [if_neg c, if_neg c]
          grind
  unfold z_bA
  rw [z_su_pow, hB0]
  have e3 : z_su (fun t => z_su (fun p => if z_sb (2 ^ t + p) s then -z_ep (2 ^ t + p) * z_flv P I h (2 ^ h x + (2 ^ t + p)) x else 0) (2 ^ t)) (h x) = z_su (fun t => z_su (fun y => if (I.testBit y && (z_un P x).testBit y && decide (h y = t) && s.testBit t) = true then -z_bA P I h s y else 0) 9) (h x) := z_su_cg (fun t ht => by
    rw [z_su_cg (fun p hp => hBt t p ht hp), z_su_ex]
    refine z_su_cg (fun y hy => ?_)
    rw [← z_su_if]
    by_cases c : (I.testBit y && (z_un P x).testBit y && decide (h y = t) && s.testBit t) = true
    · rw [if_pos c, if_pos c, z_su_neg]
      simp only [Bool.and_eq_true, decide_eq_true_eq] at c
      unfold z_bA
      rw [← c.1.2]
    · rw [if_neg c, if_neg c])
  rw [e3, z_su_ex]
  have e4 : z_su (fun y => z_su (fun t => if (I.testBit y && (z_un P x).testBit y && decide (h y = t) && s.testBit t) = true then -z_bA P I h s y else 0) (h x)) 9 = z_su (fun y => -(if I.testBit y && s.testBit (h y) && (z_un P x).testBit y then z_bA P I h s y else 0)) 9 := z_su_cg (fun y hy => by
    by_cases c : (I.testBit y && (z_un P x).testBit y) = true
    · have c' := c
      rw [Bool.and_eq_true] at c'
      have hlt := hm x y hx hy hIx c'.1 c'.2
      have e5 : z_su (fun t => if (I.testBit y && (z_un P x).testBit y && decide (h y = t) && s.testBit t) = true then -z_bA P I h s y else 0) (h x) = z_su (fun t => if t = h y then (if s.testBit t then -z_bA P I h s y else 0) else 0) (h x) := z_su_cg (fun t _ => by
        by_cases d : t = h y
        · subst d
          simp [c'.1, c'.2]
        · have : ¬ h y = t := fun e => d e.symm
          simp [d, this])
      rw [e5, z_su_one (fun t => if s.testBit t then -z_bA P I h s y else 0) _ hlt]
      simp only [c'.1, c'.2, Bool.true_and, Bool.and_true]
      split
      · rfl
      · decide
    · rw [z_su_0 _ (fun t _ => if_neg (by intro d; simp only [Bool.and_eq_true] at c d; exact c d.1.1)), if_neg (by intro d; simp only [Bool.and_eq_true] at c d; exact c ⟨d.1.1, d.2⟩)]
      decide)
  rw [e4, z_su_neg]
  unfold z_bA
  grind
/-- the sum over all parts of a set of heights -/
theorem z_beta_eq (hw : z_wf P) {s : Nat} (hs0 : s.testBit 0 = false) (hh : ∀ x, x < 9 → I.testBit x = true → h x < 9 ∧ 0 < h x) : z_su (fun p => if z_sb p s then z_ep p * z_fgv P I h p else 0) (2 ^ 9) = 1 + z_su (fun x => if I.testBit x && s.testBit (h x) then z_bA P I h s x else 0) 9 := by
  have h0 : (if z_sb 0 s then z_ep 0 * z_fgv P I h 0 else 0) = (1 : Int32) := by
    have e1 : z_sb 0 s = true := (z_sb_iff (by decide)).mpr (fun k _ c => by rw [Nat.zero_testBit] at c; cases c)
    have e2 : z_fgv P I h 0 = 1 := by
      unfold z_fgv
      rw [if_pos (by decide)]
    rw [if_pos e1, e2]
    decide
  have ht : ∀ t p, t < 9 → p < 2 ^ t → (if z_sb (2 ^ t + p) s then z_ep (2 ^ t + p) * z_fgv P I h (2 ^ t + p) else 0) = z_su (fun x => if (I.testBit x && decide (h x = t) && s.testBit t) = true then (if z_sb p s then -z_ep p * z_flv P I h (2 ^ h x + p) x else 0) else 0) 9 := by
    intro t p ht9 hp
    rw [z_tp_sb ht9 hp]
    cases hst : s.testBit t
    · rw [z_su_0 9 (fun k _ => by simp)]
      simp
    · have ht0 : t ≠ 0 := by rintro rfl; rw [hs0] at hst; cases hst
      cases hsp : z_sb p s
      · rw [z_su_0 9 (fun k _ => by simp)]
        simp
      · simp only [Bool.and_self, if_true, Bool.and_true]
        unfold z_fgv
        rw [z_tp_pv ht0 hp ht9, if_neg ht0, z_ep_tp ht9 hp, ← z_su_mul]
        refine z_su_cg (fun x hx => ?_)
        have eb : (h x == t) = decide (h x = t) := rfl
        rw [eb]
        by_cases c : (I.testBit x && decide (h x = t)) = true
        · rw [if_pos c, if_pos c]
          rw [Bool.and_eq_true, decide_eq_true_eq] at c
          rw [c.2]
        · rw [if_neg c, if_neg c]
          grind
  rw [z_su_pow, h0]
  refine congrArg (fun t : Int32 => 1 + t) ?_
  have e3 : z_su (fun t => z_su (fun p => if z_sb (2 ^ t + p) s then z_ep (2 ^ t + p) * z_fgv P I h (2 ^ t + p) else 0) (2 ^ t)) 9 = z_su (fun t => z_su (fun x => if (I.testBit x && decide (h x = t) && s.testBit t) = true then z_bA P I h s x else 0) 9) 9 := z_su_cg (fun t ht9 => by
    rw [z_su_cg (fun p hp => ht t p ht9 hp), z_su_ex]
    refine z_su_cg (fun x hx => ?_)
    rw [← z_su_if]
    by_cases c : (I.testBit x && decide (h x = t) && s.testBit t) = true
    · rw [if_pos c, if_pos c]
      simp only [Bool.and_eq_true, decide_eq_true_eq] at c
      unfold z_bA
      rw [← c.1.2]
    · rw [if_neg c, if_neg c])
  rw [e3, z_su_ex]
  refine z_su_cg (fun x hx => ?_)
  cases hIx : I.testBit x
  · rw [z_su_0 9 (fun k _ => by simp)]
    simp
  · have e5 : z_su (fun t => if (true && decide (h x = t) && s.testBit t) = true then z_bA P I h s x else 0) 9 = z_su (fun t => if t = h x then (if s.testBit t then z_bA P I h s x else 0) else 0) 9 := z_su_cg (fun t _ => by
      by_cases d : t = h x
      · subst d; simp
      · have : ¬ h x = t := fun e => d e.symm
        simp [d, this])
    rw [e5, z_su_one (fun t => if s.testBit t then z_bA P I h s x else 0) 9 (hh x hx hIx).1]
    simp
end
