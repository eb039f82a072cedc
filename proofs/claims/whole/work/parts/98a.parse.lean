section
variable {u w v u0 w0 : z_M} {D : z_P} {T : Nat → Nat} {N p s : Nat}
theorem z_sk2 (c : Nat → Bool) (hp : p ≤ N) : z_to c N (z_to c N p) = z_to c N p := by
  have h := z_to_ok c hp
  refine z_to_0 c ?_
  by_cases g : z_to c N p < N
  · exact Or.inr (h.2.2.2 g)
  · exact Or.inl (by omega)
theorem s10_pointHere (w : z_M) : f_X10_pointHere w = f_X10_number 0 (w.1 2 0 - 1) w := by
  unfold f_X10_pointHere
  rw [z_gdt (show z_inb 0 93 = true from rfl), show z_gI w 2 (0 : Int32).toNatClampNeg = w.1 2 0 from rfl]
  cases f_X10_number 0 (w.1 2 0 - 1) w with
  | none => rfl
  | some q => rfl
/-! the law goes on after a fault, and changes nothing that counts -/
theorem s10_readLineE (h : z_ww w T N p) (h12 : w.1 0 12 = 0) (a : Int32) : f_X10_readLine a w = some (z_sI w 0 9 (nI (z_to (z_qb T) N p))) := by
  have hok := z_to_ok (z_qb T) h.2.2.1
  have hsk := z_sk2 (z_qb T) h.2.2.1
  unfold f_X10_readLine
  rw [s10_next h, z_b2e]
  obtain ⟨s, hs⟩ : ∃ s, s = z_to (z_qb T) N p := ⟨_, rfl⟩
  rw [← hs] at hok hsk ⊢
  have hww := h.mv hok.2.1
  obtain ⟨w2, hw2⟩ : ∃ w2, w2 = z_sI w 0 9 (nI s) := ⟨_, rfl⟩
  rw [← hw2] at hww ⊢
  have h12' : w2.1 0 12 = 0 := by rw [hw2, z_sI_1, if_neg (by decide)]; exact h12
  have hself : z_sI w2 0 9 (nI s) = w2 := z_sIe w2 0 9 hww.2.1
  have hw : ∀ k, k < 3 → f_X10_isWord k w2 = some (0, w2) := fun k hk => by
    rw [s10_isWord hww hk, hsk, hself, decide_eq_true h12']
    rfl
  rw [z_lt, hw 0 (by decide), z_b2e, hw 1 (by decide), z_b2e, hw 2 (by decide), z_b2e, if_pos rfl, if_pos rfl, if_pos rfl, s10_isNumberE h12', z_b2e, if_pos rfl, s10_wrongE _ _ h12', Option.bind_some]
  unfold j_X10_readLine_j94
  rw [z_gI, if_pos h12']
/-! class and law side by side -/
def z_frm (u0 w0 u w : z_M) : Prop := (∀ i, i ≠ 81 → (i < 4 ∨ 7 < i) → u.1 i = u0.1 i) ∧ (∀ i, i ≠ 0 → i ≠ 2 → w.1 i = w0.1 i) ∧ w.1 0 4 = w0.1 0 4
def z_ct1 (u : z_M) (T : Nat → Nat) (N : Nat) : Prop := u.1 81 1 = nI N ∧ ∀ i, i < N → T i < 256 ∧ u.1 82 i = nI (T i)
def z_flt (u w : z_M) : Prop := u.1 81 3 = w.1 0 10 ∧ u.1 81 4 = w.1 0 11
def z_pst (u0 w0 : z_M) (T : Nat → Nat) (N : Nat) (u w : z_M) (D : z_P) (p : Nat) : Prop := z_frm u0 w0 u w ∧ z_ct1 u T N ∧ z_flt u w ∧ ¬ w.1 0 12 = 0 ∧ z_wf D ∧ z_rc u 4 D ∧ z_rr (w.1 2) D ∧ z_ww w T N p
def z_bad (u0 w0 : z_M) (T : Nat → Nat) (N : Nat) (u w : z_M) : Prop := z_frm u0 w0 u w ∧ u.1 81 1 = nI N ∧ z_flt u w ∧ w.1 0 12 = 0 ∧ ∃ p, z_ww w T N p
theorem z_pst.mvw (h : z_pst u0 w0 T N u w D p) {q : Nat} (hq : q ≤ N) : z_pst u0 w0 T N u (z_sI w 0 9 (nI q)) D q := by
  obtain ⟨⟨a1, a2, a3⟩, b, ⟨d1, d2⟩, e, f, g, k, l⟩ := h
  refine ⟨⟨a1, fun i h1 h2 => by rw [z_sI_ne h1]; exact a2 i h1 h2, by rw [z_sI_1, if_neg (by decide)]; exact a3⟩, b, ⟨?_, ?_⟩, ?_, f, g, ?_, l.mv hq⟩
  · rw [z_sI_1, if_neg (by decide)]; exact d1
  · rw [z_sI_1, if_neg (by decide)]; exact d2
  · rw [z_sI_1, if_neg (by decide)]; exact e
  · rw [z_sI_ne (by decide)]; exact k
theorem z_pst.mvu (h : z_pst u0 w0 T N u w D p) {u' : z_M} (hu : z_u81 u u') : z_pst u0 w0 T N u' w D p := by
  obtain ⟨⟨a1, a2, a3⟩, ⟨b1, b2⟩, ⟨d1, d2⟩, e, f, g, k, l⟩ := h
  refine ⟨⟨fun i h1 h2 => (hu.1 i h1).trans (a1 i h1 h2), a2, a3⟩, ⟨(hu.2 1 (by omega)).trans b1, fun i hi => ⟨(b2 i hi).1, by rw [hu.1 82 (by decide)]; exact (b2 i hi).2⟩⟩, ⟨(hu.2 3 (by omega)).trans d1, (hu.2 4 (by omega)).trans d2⟩, e, f, ?_, k, l⟩
  exact z_rc_cg (fun j hj => hu.1 _ (by omega)) g
/-- a fault is told by both -/
theorem z_pst.ft (h : z_pst u0 w0 T N u w D p) (k : Int32) (s : Nat) : z_bad u0 w0 T N (z_rfs k (nI s) u) (z_wr k (nI s) w) := by
  obtain ⟨⟨a1, a2, a3⟩, ⟨b1, b2⟩, ⟨d1, d2⟩, e, f, g, kk, l⟩ := h
  have w0' : ∀ j, j ≠ 10 → j ≠ 11 → j ≠ 12 → (z_wr k (nI s) w).1 0 j = w.1 0 j := fun j h1 h2 h3 => by
    unfold z_wr
    rw [z_sI_1, if_neg (by omega), z_sI_1, if_neg (by omega), z_sI_1, if_neg (by omega)]
  have wi : ∀ i, i ≠ 0 → (z_wr k (nI s) w).1 i = w.1 i := fun i hi => by
    unfold z_wr
    rw [z_sI_ne hi, z_sI_ne hi, z_sI_ne hi]
  refine ⟨⟨fun i h1 h2 => ?_, fun i h1 h2 => by rw [wi i h1]; exact a2 i h1 h2, by rw [w0' 4 (by decide) (by decide) (by decide)]; exact a3⟩, ?_, ⟨?_, ?_⟩, z_wr_12 _ _ _, p, l.at0 (w0' 8 (by decide) (by decide) (by decide)) (wi 6 (by decide)) (by rw [w0' 9 (by decide) (by decide) (by decide)]; exact l.2.1) l.2.2.1⟩
  · unfold z_rfs
    rw [z_sI_ne h1, z_sI_ne h1]; exact a1 i h1 h2
  · unfold z_rfs
    rw [z_sI_1, if_neg (by decide), z_sI_1, if_neg (by decide)]; exact b1
  · unfold z_rfs z_wr
    rw [z_sI_1, if_neg (by decide), z_sI_1, if_pos ⟨rfl, rfl⟩, z_sI_1, if_neg (by decide), z_sI_1, if_neg (by decide), z_sI_1, if_pos ⟨rfl, rfl⟩]
  · unfold z_rfs z_wr
    rw [z_sI_1, if_pos ⟨rfl, rfl⟩, z_sI_1, if_neg (by decide), z_sI_1, if_pos ⟨rfl, rfl⟩]
theorem z_nv2 {n : Nat} (hn : n ≤ 2) (h : ∀ i, i < n → z_qd T (s + i) = true) : z_nv T s n ≤ 99 := by
  have hd : ∀ i, i < n → T (s + i) - 48 ≤ 9 := fun i hi => by
    have := h i hi
    unfold z_qd at this
    rw [Bool.and_eq_true, decide_eq_true_eq, decide_eq_true_eq] at this
    omega
  match n, hn with
  | 0, _ => rw [z_nv]; decide
  | 1, _ =>
    have := hd 0 (by decide)
    rw [z_nv, z_nv]; omega
  | 2, _ =>
    have := hd 0 (by decide)
    have := hd 1 (by decide)
    rw [z_nv, z_nv, z_nv]; omega
/-- a number is read by both -/
theorem z_numS (h : z_pst u0 w0 T N u w D p) (ht : z_tok u T N (z_to (z_qb T) N p)) (a b : Int32) : (∃ n e, n ≤ 99 ∧ (p < e ∧ e ≤ N) ∧ ¬ nI n < a ∧ nI n ≤ b ∧ f_X7_isNumber a b u = some (1, u) ∧ f_X10_number a b w = some (nI n, z_sI w 0 9 (nI e)) ∧ u.1 81 10 = nI n ∧ z_cw u T N e ∧ z_pst u0 w0 T N u (z_sI w 0 9 (nI e)) D e) ∨ (∃ u' w', f_X7_isNumber a b u = some (0, u') ∧ f_X10_number a b w = some (0, w') ∧ z_bad u0 w0 T N u' w') := by
  have h' := h
  obtain ⟨h1, ⟨h2, h2'⟩, h4, h5, h6, h7, h8, h9⟩ := h'
  have hok := z_to_ok (z_qb T) h9.2.2.1
  have hN := h9.2.2.2.1
  rw [s7_isNumber ht hok.2.1 hN, s10_number h9, if_neg h5]
  obtain ⟨s, hs⟩ : ∃ s, s = z_to (z_qb T) N p := ⟨_, rfl⟩
  rw [← hs] at ht hok ⊢
  have hoke := z_to_ok (z_qd T) hok.2.1
  have hle : z_ed T N s ≤ N := hoke.2.1
  by_cases c : z_err T N s a b = 0
  · left
    rw [if_pos c, if_pos c]
    have c' := c
    unfold z_err at c
    by_cases c1 : z_ed T N s = s
    · rw [if_pos c1] at c; cases c
    · rw [if_neg c1] at c
      by_cases c2 : 2 < z_ed T N s - s
      · rw [if_pos c2] at c; cases c
      · rw [if_neg c2] at c
        by_cases c3 : nI (z_nv T s (z_ed T N s - s)) < a
        · rw [if_pos c3] at c; cases c
        · rw [if_neg c3] at c
          by_cases c4 : nI (z_nv T s (z_ed T N s - s)) ≤ b
          · obtain ⟨t1, t2⟩ := z_tkk_4 (T := T) hok.2.1
            have k4 := t1.mpr c1
            have te := t2 k4
            have q := ht.2.2.2 k4
            rw [te] at q
            have q6 := ht.2.2.1
            rw [te] at q6
            exact ⟨_, _, z_nv2 (by omega) (fun i hi => hoke.2.2.1 (s + i) (by omega) (by have : z_ed T N s = z_to (z_qd T) N s := rfl; omega)), ⟨by have h1 : z_ed T N s = z_to (z_qd T) N s := rfl; have h2 := hoke.1; have h3 := hok.1; omega, hle⟩, c3, c4, rfl, rfl, q.2 (by omega), ⟨h2, q6, hle, hN, h2'⟩, h.mvw hle⟩
          · rw [if_neg c4] at c; cases c
  · right
    rw [if_neg c, if_neg c]
    exact ⟨_, _, rfl, rfl, (h.mvw hle).ft _ _⟩
/-- the next token is taken by the class alone -/
theorem z_tokS (h : z_pst u0 w0 T N u w D p) (hu : z_cw u T N p) : ∃ u', f_X7_nextToken u = some u' ∧ z_u81 u u' ∧ z_tok u' T N (z_to (z_qb T) N p) ∧ z_pst u0 w0 T N u' w D p := by
  obtain ⟨u', a, b, c⟩ := s7_nextToken hu
  exact ⟨u', a, b, c, h.mvu b⟩
end
