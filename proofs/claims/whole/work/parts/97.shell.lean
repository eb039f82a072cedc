section
variable {u w v : z_M} {P : z_P}
/-! every chain goes by next ones, and no two are the same -/
def z_sat (P : z_P) (a b : Nat) (c : z_Cn) : Prop := c.2 0 = a ∧ c.2 c.1 = b ∧ c.2 c.1 < 9 ∧ ∀ t, t < c.1 → c.2 t < 9 ∧ (z_nxt P b (c.2 t)).testBit (c.2 (t + 1)) = true
theorem z_fy_Q {nx : Nat} {g : Nat → z_St → z_St} {Q : Nat → z_St → Prop} (h : ∀ y S, y < 9 → nx.testBit y = true → Q y S → Q (y + 1) (g y S)) (hm : ∀ y S, Q y S → Q (y + 1) S) {S : z_St} (h0 : Q 0 S) : ∀ m, m ≤ 9 → Q m (z_fy nx g m S)
  | 0, _ => h0
  | m + 1, hm9 => by
    have ih := z_fy_Q h hm h0 m (by omega)
    rw [z_fy]
    by_cases c : nx.testBit m = true
    · rw [if_pos c]; exact h m _ (by omega) c ih
    · rw [if_neg c]; exact hm m _ ih
theorem z_grow_sat {a b : Nat} : ∀ n p k S, z_All (z_sat P a b) S → p 0 = a → p k < 9 → (∀ t, t < k → p t < 9 ∧ (z_nxt P b (p t)).testBit (p (t + 1)) = true) → z_All (z_sat P a b) (z_grow P b n p k S)
  | 0, _, _, _, h, _, _, _ => h
  | n + 1, p, k, S, h, h0, h9, hp => by
    rw [z_grow]
    by_cases c : p k = b
    · rw [if_pos c]
      exact z_sin_all h ⟨h0, c, h9, hp⟩
    · rw [if_neg c]
      refine z_fy_Q (Q := fun _ S => z_All (z_sat P a b) S) (fun y S hy hb hS => ?_) (fun y S hS => hS) h 9 (Nat.le_refl _)
      refine z_grow_sat n _ _ _ hS (by rw [z_ud_ne _ (by omega)]; exact h0) (by rw [z_ud_eq]; exact hy) (fun t ht => ?_)
      rw [z_ud_ne _ (by omega)]
      by_cases e : t = k
      · rw [e, z_ud_eq]; exact ⟨h9, hb⟩
      · rw [z_ud_ne _ (by omega)]; exact hp t (by omega)
theorem z_all_sat {a b : Nat} (ha : a < 9) : z_All (z_sat P a b) (z_all P a b) := z_grow_sat 9 _ 0 _ (fun i hi => absurd hi (Nat.not_lt_zero i)) rfl ha (fun t ht => absurd ht (Nat.not_lt_zero t))
def z_Df (c d : z_Cn) : Prop := ∃ t, t ≤ c.1 ∧ t ≤ d.1 ∧ c.2 t ≠ d.2 t
theorem z_Df.sy {c d : z_Cn} (h : z_Df c d) : z_Df d c := by
  obtain ⟨t, t1, t2, t3⟩ := h
  exact ⟨t, t2, t1, fun e => t3 e.symm⟩
def z_Dis (S : z_St) : Prop := ∀ i j, i < S.1 → j < S.1 → i ≠ j → z_Df (S.2 i) (S.2 j)
theorem z_ins_at {c : z_Cn} {L : Nat → z_Cn} {n j : Nat} (hj : j < n + 1) : (j = z_ips P c L n ∧ z_ins P c L n j = c) ∨ (∃ i, i < n ∧ j ≠ z_ips P c L n ∧ z_ins P c L n j = L i ∧ (j = i ∧ j < z_ips P c L n ∨ j = i + 1 ∧ z_ips P c L n < j)) := by
  have hle := z_ips_le (P := P) c L n
  unfold z_ins
  by_cases h1 : j < z_ips P c L n
  · exact Or.inr ⟨j, by omega, by omega, by rw [if_pos h1], Or.inl ⟨rfl, h1⟩⟩
  · by_cases h2 : j = z_ips P c L n
    · exact Or.inl ⟨h2, by rw [if_neg h1, if_pos h2]⟩
    · exact Or.inr ⟨j - 1, by omega, h2, by rw [if_neg h1, if_neg h2], Or.inr ⟨by omega, by omega⟩⟩
theorem z_sin_dis {c : z_Cn} {S : z_St} (h : z_Dis S) (hc : ∀ i, i < S.1 → z_Df c (S.2 i)) : z_Dis (z_sin P c S) := by
  intro i j hi hj hij
  rcases z_ins_at (P := P) (c := c) (L := S.2) (n := S.1) hi with ⟨a1, a2⟩ | ⟨i', a1, a2, a3, a4⟩
  · rcases z_ins_at (P := P) (c := c) (L := S.2) (n := S.1) hj with ⟨b1, b2⟩ | ⟨j', b1, b2, b3, b4⟩
    · exact absurd (a1.trans b1.symm) hij
    · show z_Df (z_ins P c S.2 S.1 i) (z_ins P c S.2 S.1 j)
      rw [a2, b3]; exact hc j' b1
  · rcases z_ins_at (P := P) (c := c) (L := S.2) (n := S.1) hj with ⟨b1, b2⟩ | ⟨j', b1, b2, b3, b4⟩
    · show z_Df (z_ins P c S.2 S.1 i) (z_ins P c S.2 S.1 j)
      rw [a3, b2]; exact (hc i' a1).sy
    · show z_Df (z_ins P c S.2 S.1 i) (z_ins P c S.2 S.1 j)
      rw [a3, b3]
      exact h i' j' a1 b1 (by omega)
theorem z_grow_dis (b : Nat) : ∀ n p k S, z_All (z_Lt k p) S → z_Dis S → z_Dis (z_grow P b n p k S)
  | 0, _, _, _, _, h => h
  | n + 1, p, k, S, hl, h => by
    rw [z_grow]
    by_cases c : p k = b
    · rw [if_pos c]
      refine z_sin_dis h (fun i hi => ?_)
      obtain ⟨j, j1, j2, -, j4⟩ := hl i hi
      exact ⟨j, j1, j2, fun e => by
        have e' : p j = (S.2 i).2 j := e
        omega⟩
    · rw [if_neg c]
      refine (z_fy_Q (Q := fun m S => z_All (z_Up k m p) S ∧ z_Dis S) (fun y S hy hb hS => ?_) (fun y S hS => ⟨fun i hi => z_Up_mono (hS.1 i hi), hS.2⟩) ⟨fun i hi => Or.inl (hl i hi), h⟩ 9 (Nat.le_refl _)).2
      have h1 : z_All (z_Lt (k + 1) (z_ud p (k + 1) y)) S := fun i hi => z_Up_in (hS.1 i hi)
      exact ⟨fun i hi => z_Up_out (z_grow_all b n _ _ _ h1 i hi), z_grow_dis b n _ _ _ h1 hS.2⟩
theorem z_all_dis (a b : Nat) : z_Dis (z_all P a b) := z_grow_dis b 9 _ 0 _ (fun i hi => absurd hi (Nat.not_lt_zero i)) (fun i j hi => absurd hi (Nat.not_lt_zero i))
theorem z_sat_9 {a b : Nat} {c : z_Cn} (h : z_sat P a b c) {t : Nat} (ht : t ≤ c.1) : c.2 t < 9 := by
  by_cases e : t = c.1
  · rw [e]; exact h.2.2.1
  · exact (h.2.2.2 t (by omega)).1
theorem z_sat_up (hw : z_wf P) {a b : Nat} (hb : b < 9) {c : z_Cn} (h : z_sat P a b c) (t : Nat) : ∀ s, t + s + 1 ≤ c.1 → (z_ab P (c.2 t)).testBit (c.2 (t + s + 1)) = true
  | 0, hs => ((z_nxt_bit hw hb (z_sat_9 h (by omega)) (z_sat_9 h (by omega))).mp (h.2.2.2 t (by omega)).2).1
  | s + 1, hs => by
    have ih := z_sat_up hw hb h t s (by omega)
    have h1 := ((z_nxt_bit hw hb (z_sat_9 h (by omega)) (z_sat_9 h (by omega))).mp (h.2.2.2 (t + s + 1) (by omega)).2).1
    exact hw.tr _ _ _ (z_sat_9 h (by omega)) (z_sat_9 h (by omega)) (z_sat_9 h (by omega)) ih h1
theorem z_sat_lt (hw : z_wf P) {a b : Nat} (hb : b < 9) {c : z_Cn} (h : z_sat P a b c) {t s : Nat} (hts : t < s) (hs : s ≤ c.1) : (z_ab P (c.2 t)).testBit (c.2 s) = true := by
  have := z_sat_up hw hb h t (s - t - 1) (by omega)
  rwa [show t + (s - t - 1) + 1 = s by omega] at this
theorem z_cset_bit {c : z_Cn} {x : Nat} : (z_cset c).testBit x = true ↔ ∃ t, t ≤ c.1 ∧ c.2 t = x := by
  unfold z_cset
  rw [z_orn_bit]
  constructor
  · rintro ⟨t, t1, t2⟩
    rw [Nat.testBit_two_pow, decide_eq_true_eq] at t2
    exact ⟨t, by omega, t2⟩
  · rintro ⟨t, t1, t2⟩
    exact ⟨t, by omega, by rw [Nat.testBit_two_pow, decide_eq_true_eq]; exact t2⟩
theorem z_cset_lt {a b : Nat} {c : z_Cn} (h : z_sat P a b c) : z_cset c < 512 := z_orn_lt _ (fun t ht => Nat.pow_lt_pow_right (by decide) (z_sat_9 h (by omega)))
theorem z_cset_pc (hw : z_wf P) {a b : Nat} (hb : b < 9) {c : z_Cn} (h : z_sat P a b c) : z_pc (z_cset c) = c.1 + 1 := by
  have key : ∀ n, n ≤ c.1 + 1 → z_pc (z_orn (fun k => 2 ^ c.2 k) n) = n := by
    intro n
    induction n with
    | zero => intro _; exact z_pc_0
    | succ n ih =>
      intro hn
      have e : (z_orn (fun k => 2 ^ c.2 k) n).testBit (c.2 n) = false := by
        cases e : (z_orn (fun k => 2 ^ c.2 k) n).testBit (c.2 n)
        · rfl
        · obtain ⟨t, t1, t2⟩ := (z_orn_bit n).mp e
          rw [Nat.testBit_two_pow, decide_eq_true_eq] at t2
          have := z_sat_lt hw hb h t1 (by omega)
          rw [t2, hw.irr _ (z_sat_9 h (by omega))] at this
          cases this
      rw [show z_orn (fun k => 2 ^ c.2 k) (n + 1) = z_orn (fun k => 2 ^ c.2 k) n ||| 2 ^ c.2 n from rfl, z_pc_put (z_sat_9 h (by omega)) e, ih (by omega)]
  exact key (c.1 + 1) (Nat.le_refl _)
theorem z_sat_sub (hw : z_wf P) {a b : Nat} (hb : b < 9) {c d : z_Cn} (hc : z_sat P a b c) (hd : z_sat P a b d) (hs : ∀ x, x < 9 → (z_cset c).testBit x = true → (z_cset d).testBit x = true) : ¬ z_Df c d := by
  have key : ∀ t, t ≤ c.1 → t ≤ d.1 ∧ c.2 t = d.2 t := by
    intro t
    induction t with
    | zero => intro _; exact ⟨Nat.zero_le _, by rw [hc.1, hd.1]⟩
    | succ t ih =>
      intro ht
      obtain ⟨i1, i2⟩ := ih (by omega)
      have h9 := z_sat_9 hc ht
      obtain ⟨s, s1, s2⟩ := z_cset_bit.mp (hs _ h9 (z_cset_bit.mpr ⟨t + 1, ht, rfl⟩))
      obtain ⟨n1, n2, n3⟩ := (z_nxt_bit hw hb (z_sat_9 hc (by omega)) h9).mp (hc.2.2.2 t (by omega)).2
      have hst : t < s := by
        refine Nat.lt_of_not_le (fun hle => ?_)
        by_cases e : s = t
        · rw [e, ← i2] at s2
          rw [← s2, hw.irr _ (z_sat_9 hc (by omega))] at n1
          cases n1
        · have h1 := z_sat_lt hw hb hd (show s < t by omega) i1
          rw [s2, ← i2] at h1
          have h2 := hw.tr _ _ _ (z_sat_9 hc (by omega)) h9 (z_sat_9 hc (by omega)) n1 h1
          rw [hw.irr _ (z_sat_9 hc (by omega))] at h2
          cases h2
      by_cases e : s = t + 1
      · exact ⟨by omega, by rw [← e, s2, e]⟩
      · have h1 := z_sat_lt hw hb hd (show t < t + 1 by omega) (by omega)
        have h2 := z_sat_lt hw hb hd (show t + 1 < s by omega) s1
        rw [← i2] at h1
        rw [s2] at h2
        have h3 : (z_inr P (c.2 t) (c.2 (t + 1))).testBit (d.2 (t + 1)) = true := by rw [z_inr_bit (z_sat_9 hd (by omega)), h1, h2]; rfl
        rw [n3, Nat.zero_testBit] at h3
        cases h3
  rintro ⟨t, t1, t2, t3⟩
  exact t3 (key t t1).2
/-! what the sets of the chains keep to -/
def z_fam (s : Nat → Nat) (l : Nat → Nat) (n : Nat) : Prop := (∀ i, i < n → s i < 512) ∧ (∀ i, i < n → z_pc (s i) = l i + 1) ∧ ∀ i j, i < n → j < n → i ≠ j → z_df (s i) (s j) ≠ 0
theorem z_all_fam (hw : z_wf P) {a b : Nat} (ha : a < 9) (hb : b < 9) : z_fam (fun i => z_cset ((z_all P a b).2 i)) (fun i => ((z_all P a b).2 i).1) (z_all P a b).1 := by
  have hs := z_all_sat (P := P) (b := b) ha
  refine ⟨fun i hi => z_cset_lt (hs i hi), fun i hi => z_cset_pc hw hb (hs i hi), fun i j hi hj hij e => ?_⟩
  refine z_sat_sub hw hb (hs i hi) (hs j hj) (fun x hx hx2 => ?_) (z_all_dis a b i j hi hj hij)
  have : (z_df (z_cset ((z_all P a b).2 i)) (z_cset ((z_all P a b).2 j))).testBit x = false := by rw [show z_df (z_cset ((z_all P a b).2 i)) (z_cset ((z_all P a b).2 j)) = 0 from e, Nat.zero_testBit]
  rw [z_df_bit, hx2, Bool.true_and] at this
  simpa using this
end
