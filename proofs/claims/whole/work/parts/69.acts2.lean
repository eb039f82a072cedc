section
variable {u w : z_M} {P : z_P}
/-! drop -/
def z_rest (x : Nat) (a : Nat) : Nat := z_df a (2 ^ x)
theorem z_rest_bit (x a k : Nat) : (z_rest x a).testBit k = (a.testBit k && !decide (k = x)) := by
  rw [z_rest, z_df_bit, Nat.testBit_two_pow]
  by_cases h : x = k
  · simp [h]
  · have : ¬ k = x := fun e => h e.symm
    simp [h, this]
theorem z_rest_lt {x a : Nat} (h : a < 512) : z_rest x a < 512 := z_df_lt h
theorem z_rest_0 (x : Nat) : z_rest x 0 = 0 := by simp [z_rest, z_df]
def z_Pd (P : z_P) (x : Nat) : z_P := (z_td P, z_rest x (z_th P), z_ru P, fun y => if y = x then 0 else z_rest x (z_ab P y), z_tg P)
theorem z_Pd_ab (P : z_P) (x y : Nat) : z_ab (z_Pd P x) y = if y = x then 0 else z_rest x (z_ab P y) := rfl
theorem z_Pd_bit (P : z_P) (x y k : Nat) : (z_ab (z_Pd P x) y).testBit k = ((z_ab P y).testBit k && !decide (k = x) && !decide (y = x)) := by
  rw [z_Pd_ab]
  by_cases h : y = x
  · simp [h]
  · simp [h, z_rest_bit]
theorem z_Pd_un (P : z_P) (x y : Nat) : z_un (z_Pd P x) y = if y = x then 0 else z_rest x (z_un P y) := by
  apply z_ext (z_un_lt _ _)
  · split
    · decide
    · exact z_rest_lt (z_un_lt _ _)
  · intro k hk
    rw [z_un_bit _ hk, z_Pd_bit]
    by_cases h : y = x
    · simp [h]
    · simp [h, z_rest_bit, z_un_bit P hk]
theorem z_pc_rest {a x : Nat} (hx : x < 9) (h : a.testBit x = true) : z_pc (z_rest x a) + 1 = z_pc a := by
  unfold z_pc
  simp only [z_rest_bit]
  match x, hx with
  | 0, _ => simp [h]; omega
  | 1, _ => simp [h]; omega
  | 2, _ => simp [h]; omega
  | 3, _ => simp [h]; omega
  | 4, _ => simp [h]; omega
  | 5, _ => simp [h]; omega
  | 6, _ => simp [h]; omega
  | 7, _ => simp [h]; omega
  | 8, _ => simp [h]
theorem z_Pd_wf (hw : z_wf P) {x : Nat} (hx : x < 9) (tx : (z_th P).testBit x = true) (h1 : z_pc (z_th P) ≠ 1) : z_wf (z_Pd P x) := by
  refine ⟨hw.1, z_rest_lt hw.th, fun y hy h => ?_, fun _ e => ?_, hw.2.2.2.2.1, fun y hy => ?_, fun y t hy ht h => ?_, fun y hy => ?_, fun y t s hy ht hs h h' => ?_⟩
  · have h : (z_rest x (z_th P)).testBit y = true := h
    rw [z_rest_bit, Bool.and_eq_true] at h
    exact hw.2.2.1 y hy h.1
  · have e : z_rest x (z_th P) = 0 := e
    have := z_pc_rest hx tx
    rw [e] at this
    simp only [z_pc, Nat.zero_testBit, Bool.toNat_false] at this
    exact h1 (by unfold z_pc; omega)
  · rw [z_Pd_ab]
    split
    · decide
    · exact z_rest_lt (hw.ab y hy)
  · rw [z_Pd_bit, Bool.and_eq_true, Bool.and_eq_true] at h
    have := hw.in y t hy ht h.1.1
    have e : z_th (z_Pd P x) = z_rest x (z_th P) := rfl
    rw [e, z_rest_bit, z_rest_bit, this.1, this.2, h.1.2, h.2]
    exact ⟨rfl, rfl⟩
  · rw [z_Pd_bit, hw.irr y hy]
    rfl
  · rw [z_Pd_bit, Bool.and_eq_true, Bool.and_eq_true] at h h' ⊢
    exact ⟨⟨hw.tr y t s hy ht hs h.1.1 h'.1.1, h'.1.2⟩, h.2⟩
def z_tkI (u : z_M) (P : z_P) (x : Nat) (j : Nat) (q : Int32 × z_M) : Prop := q.1 = nI j ∧ (∀ i, 4 ≤ i → q.2.1 i = u.1 i) ∧ (∀ k, k ≠ 1 → q.2.1 0 k = u.1 0 k) ∧ q.2.1 0 1 = nI (z_rest x (z_th P)) ∧ q.2.1 3 = u.1 3 ∧ (∀ y, y < 9 → q.2.1 1 y = nI (if y = x then 0 else if y < j then z_rest x (z_ab P y) else z_ab P y)) ∧ (∀ y, y < 9 → q.2.1 2 y = nI (if y = x then 0 else if y < j then z_rest x (z_un P y) else z_un P y))
theorem z_tk_loop (hr : z_rc u 0 P) {x : Nat} {c : Int32} (hcx : ∀ a, nI a &&& c = nI (z_df a (2 ^ x))) {q0 : Int32 × z_M} (h0 : z_tkI u P x 0 q0) : z_ok (z_lp (b_X6_takeAway_41 0 c) z_F q0 (fun t16 => some t16)) (fun u' => (∀ i, 4 ≤ i → u'.1 i = u.1 i) ∧ z_rc u' 0 (z_Pd P x)) := by
  refine z_ok_l9 (z_tkI u P x) h0 ?_ ?_
  · rintro j ⟨a, v⟩ hi ⟨e1, e2, e3, e4, e5, e6, e7⟩ kb hk
    dsimp only at e1 e2 e3 e4 e5 e6 e7
    subst e1
    unfold b_X6_takeAway_41
    simp only [z_le9 hi, z_in9 hi, z_c9 hi, if_false, z_ok_gd, z_ok_lt, true_and, z_gI, Nat.zero_add, e6 j hi, hcx, z_1]
    have e8 : (z_sI v 1 j (nI (z_df (if j = x then 0 else if j < j then z_rest x (z_ab P j) else z_ab P j) (2 ^ x)))).1 2 = v.1 2 := z_sI_ne (by decide)
    simp only [e8, e7 j hi, hcx]
    refine hk _ ⟨rfl, fun i hi => ?_, fun k hk => ?_, ?_, ?_, fun y hy => ?_, fun y hy => ?_⟩
    · dsimp only
      rw [z_sI_ne (by omega), z_sI_ne (by omega)]
      exact e2 i hi
    · dsimp only
      rw [z_sI_ne (by decide), z_sI_ne (by decide)]
      exact e3 k hk
    · dsimp only
      rw [z_sI_ne (by decide), z_sI_ne (by decide)]
      exact e4
    · dsimp only
      rw [z_sI_ne (by decide), z_sI_ne (by decide)]
      exact e5
    · dsimp only
      rw [z_sI_ne (by decide)]
      simp only [z_sI_1, true_and, Nat.lt_irrefl, if_false]
      by_cases h : j = y
      · subst h
        rw [if_pos rfl, if_pos (Nat.lt_succ_self j)]
        by_cases h2 : j = x
        · rw [if_pos h2, if_pos h2]
          show nI (z_rest x 0) = _
          rw [z_rest_0]
        · rw [if_neg h2, if_neg h2]
          rfl
      · rw [if_neg h, e6 y hy]
        by_cases h2 : y = x
        · rw [if_pos h2, if_pos h2]
        · rw [if_neg h2, if_neg h2]
          by_cases h3 : y < j
          · rw [if_pos h3, if_pos (by omega)]
          · rw [if_neg h3, if_neg (by omega)]
    · dsimp only
      simp only [z_sI_1, true_and, Nat.lt_irrefl, if_false, show (1 : Nat) = 2 ↔ False by decide, false_and]
      by_cases h : j = y
      · subst h
        rw [if_pos rfl, if_pos (Nat.lt_succ_self j)]
        by_cases h2 : j = x
        · rw [if_pos h2, if_pos h2]
          show nI (z_rest x 0) = _
          rw [z_rest_0]
        · rw [if_neg h2, if_neg h2]
          rfl
      · rw [if_neg h, e7 y hy]
        by_cases h2 : y = x
        · rw [if_pos h2, if_pos h2]
        · rw [if_neg h2, if_neg h2]
          by_cases h3 : y < j
          · rw [if_pos h3, if_pos (by omega)]
          · rw [if_neg h3, if_neg (by omega)]
  · rintro ⟨a, v⟩ ⟨e1, e2, e3, e4, e5, e6, e7⟩ kb
    dsimp only at e1 e2 e3 e4 e5 e6 e7
    subst e1
    unfold b_X6_takeAway_41
    simp only [z_99, if_true, z_ok_some]
    refine ⟨e2, by rw [e3 0 (by decide)]; exact hr.1, e4, by rw [e3 2 (by decide)]; exact hr.2.2.1, fun y hy => ?_, fun y hy => ?_, fun k hk => ?_⟩
    · rw [z_Pd_ab]
      exact (e6 y hy).trans (by simp only [hy, if_true])
    · rw [z_Pd_un]
      exact (e7 y hy).trans (by simp only [hy, if_true])
    · rw [show (0 + 3 : Nat) = 3 from rfl, e5]
      exact hr.2.2.2.2.2 k hk
theorem s6_takeAway (hr : z_rc u 0 P) (hw : z_wf P) {x : Nat} (hx : x < 9) (tx : (z_th P).testBit x = true) : z_ok (f_X6_takeAway 0 (nI x) u) (fun u' => (∀ i, 4 ≤ i → u'.1 i = u.1 i) ∧ z_rc u' 0 (z_Pd P x)) := by
  unfold f_X6_takeAway
  rw [s6_has hr hw, z_is_nI hx, tx, Option.bind_some, if_neg (show ¬ z_bi true = 0 by decide), z_ok_lt, z_ok_lt, z_ok_gd, z_ok_lt, z_ok_gd, z_ok_lt, z_sh hx, z_c9 hx]
  refine ⟨z_in9 hx, z_in9 hx, ?_⟩
  have e1 : z_gI u 0 1 &&& (nI (2 ^ x) ^^^ (-1)) = nI (z_rest x (z_th P)) := by
    rw [z_gI, hr.2.1, z_andc]
    rfl
  rw [e1]
  refine z_tk_loop hr (fun a => z_andc a (2 ^ x)) ?_
  · refine ⟨rfl, fun i hi => ?_, fun k hk => ?_, ?_, ?_, fun y hy => ?_, fun y hy => ?_⟩
    · dsimp only
      rw [z_sI_ne (by omega), z_sI_ne (by omega), z_sI_ne (by omega)]
    · simp [z_sI_1, Ne.symm hk]
    · simp [z_sI_1]
    · dsimp only
      rw [z_sI_ne (by decide), z_sI_ne (by decide), z_sI_ne (by decide)]
    · simp only [z_sI_1, true_and, show (2 : Nat) = 1 ↔ False by decide, false_and, if_false, Nat.not_lt_zero, show (0 : Nat) = 1 ↔ False by decide, hr.2.2.2.1 y hy]
      by_cases h : y = x
      · simp [h, nI_0]
      · rw [if_neg (Ne.symm h), if_neg h]
    · simp only [z_sI_1, true_and, show (1 : Nat) = 2 ↔ False by decide, false_and, if_false, Nat.not_lt_zero, show (0 : Nat) = 2 ↔ False by decide, hr.2.2.2.2.1 y hy]
      by_cases h : y = x
      · simp [h, nI_0]
      · rw [if_neg (Ne.symm h), if_neg h]
theorem p_drop : z_S_drop z_Inv := by
  intro a1 u w hI
  obtain ⟨P, hw, hc, hr⟩ := hI.1
  have hr' := z_rr0 hr 0
  have hI0 := hI.th0
  have e1 : (z_sI w 0 0 0).1 1 = w.1 1 := z_sI_ne (by decide)
  unfold f_X9_drop f_X10_drop
  simp only [s6_has hc hw, s10_isThere hr' hw, Option.bind_some, z_lt, z_bi_0, z_gI, hc.2.1, s_bitc hw.th, z_gd, show z_inb 1 93 = true from rfl, if_true, z_c1, e1, hr.2.1, s_bits hw.th]
  cases h1 : z_is (z_th P) a1
  · exact ⟨-1, u, z_sI w 0 0 0, by simp, by simp, hI0⟩
  obtain ⟨x, hx, rfl, tx⟩ := z_is_ok h1
  have hp := z_pc_rest hx tx
  have hp9 := z_pc_le (z_th P)
  have e2 : nI (z_pc (z_th P)) - 1 = nI (z_pc (z_rest x (z_th P))) := by rw [← hp]; exact nI_pred _
  have e3 : (nI (z_pc (z_rest x (z_th P))) = 0) = (z_pc (z_rest x (z_th P)) = 0) := z_eqI (b := 0) (by omega) (by decide)
  have e4 : (nI (z_pc (z_th P)) = 1) = (z_pc (z_rest x (z_th P)) = 0) := by
    rw [z_pc1]
    apply propext
    omega
  by_cases h2 : z_pc (z_rest x (z_th P)) = 0
  · refine ⟨-2, u, z_sI w 0 0 0, by simp [e2, h2, nI_0], ?_, hI0⟩
    simp only [e4, h2]
    simp
  obtain ⟨u', w', g1, g2, g3, g4, g5⟩ := z_push hI0 hw hc hr'
  have hc' : z_rc u' 0 P := z_rc_cg (fun j hj => g4 _ (by omega)) hc
  have hr2 : z_rr (w'.1 1) P := by rw [g5]; exact hr'
  obtain ⟨u2, k1, k2, k3⟩ := s6_takeAway hc' hw hx tx
  have ex : nI (z_th P) ^^^ nI (2 ^ x) = nI (z_rest x (z_th P)) := by
    rw [z_xor]
    congr 1
    apply Nat.eq_of_testBit_eq
    intro i
    rw [Nat.testBit_xor, z_rest_bit, Nat.testBit_two_pow]
    by_cases hi : x = i
    · subst hi; simp [tx]
    · have : ¬ i = x := fun e => hi e.symm
      simp [hi, this]
  have ek : ∀ k, k ≠ 1 → (z_sI w' 1 1 (nI (z_rest x (z_th P)))).1 1 k = w'.1 1 k := fun k hk => by simp [z_sI_1, Ne.symm hk]
  refine ⟨nI (z_pc (z_rest x (z_th P))), u2, z_sI w' 1 1 (nI (z_rest x (z_th P))), ?_, ?_, ?_⟩
  · simp only [e2, e3, h2, Bool.true_eq_false, if_false, g1, Option.bind_some, k1]
  · have e5 : (z_sI w' 1 1 (nI (z_rest x (z_th P)))).1 1 1 = nI (z_rest x (z_th P)) := by simp [z_sI_1]
    simp only [e4, h2, Bool.true_eq_false, if_false, g2, Option.bind_some, hr2.2.1, z_sh hx, ex, e5, s_bits (z_rest_lt hw.th)]
  · refine g3.cur (P := z_Pd P x) k2 (fun i hi => z_sI_ne hi) (z_Pd_wf hw hx tx (by omega)) k3 ?_
    refine ⟨?_, by simp [z_sI_1, z_Pd], ?_, fun t ht => ?_, fun k hk => ?_⟩
    · rw [ek 0 (by decide)]; exact hr2.1
    · rw [ek 2 (by decide)]; exact hr2.2.2.1
    · have e : z_rv ((z_sI w' 1 1 (nI (z_rest x (z_th P)))).1 1) t = z_rv (w'.1 1) t := by unfold z_rv; rw [ek _ (by omega)]
      rw [e, ek _ (by omega)]
      obtain ⟨c1, c2, c3⟩ := hr2.2.2.2.1 t ht
      refine ⟨c1, c2, fun h => ?_⟩
      have h : (z_rest x (z_th P)).testBit t = true := h
      rw [z_rest_bit, Bool.and_eq_true] at h
      have htx : ¬ t = x := by simpa using h.2
      rw [z_Pd_ab, if_neg htx, ← c3 h.1]
      apply Nat.eq_of_testBit_eq
      intro i
      show (z_rv (w'.1 1) t &&& z_rest x (z_th P)).testBit i = _
      rw [Nat.testBit_and, z_rest_bit, z_rest_bit, Nat.testBit_and, Bool.and_assoc]
    · rw [ek _ (by omega)]
      exact hr2.2.2.2.2 k hk
end
