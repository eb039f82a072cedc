section
variable {u w : z_M} {P : z_P}
/-! relate -/
def z_Pp (P : z_P) (a b : Nat) : z_P := (z_td P, z_th P, z_ru P, fun x => if (z_dn P a).testBit x then z_ab P x ||| z_up P b else z_ab P x, z_tg P)
theorem z_Pp_ab (P : z_P) (a b x : Nat) : z_ab (z_Pp P a b) x = if (z_dn P a).testBit x then z_ab P x ||| z_up P b else z_ab P x := rfl
theorem z_Pp_th (P : z_P) (a b : Nat) : z_th (z_Pp P a b) = z_th P := rfl
theorem z_Pp_bit (P : z_P) (a b x k : Nat) : (z_ab (z_Pp P a b) x).testBit k = ((z_ab P x).testBit k || ((z_dn P a).testBit x && (z_up P b).testBit k)) := by
  rw [z_Pp_ab]
  cases (z_dn P a).testBit x <;> simp [Nat.testBit_or]
theorem z_Pp_un (hw : z_wf P) {a b : Nat} (ha : a < 9) (hb : b < 9) {y : Nat} : z_un (z_Pp P a b) y = if (z_up P b).testBit y then z_un P y ||| z_dn P a else z_un P y := by
  apply z_ext (z_un_lt _ _)
  · split
    · exact z_or_lt (z_un_lt _ _) (z_dn_lt ha)
    · exact z_un_lt _ _
  · intro k hk
    rw [z_un_bit _ hk, z_Pp_bit]
    cases h : (z_up P b).testBit y
    · simp [z_un_bit P hk]
    · simp [Nat.testBit_or, z_un_bit P hk]
theorem z_Pp_wf (hw : z_wf P) {a b : Nat} (ha : a < 9) (hb : b < 9) (ta : (z_th P).testBit a = true) (tb : (z_th P).testBit b = true) (hne : a ≠ b) (hba : (z_ab P b).testBit a = false) : z_wf (z_Pp P a b) := by
  have hno : ∀ x, x < 9 → (z_dn P a).testBit x = true → (z_up P b).testBit x = true → False := by
    intro x hx h1 h2
    rw [z_dn_bit P hx, Bool.or_eq_true, decide_eq_true_eq] at h1
    rw [z_up_bit, Bool.or_eq_true, decide_eq_true_eq] at h2
    rcases h1 with h1 | rfl
    · rcases h2 with h2 | rfl
      · rw [hw.tr b x a hb hx ha h2 h1] at hba; cases hba
      · rw [h1] at hba; cases hba
    · rcases h2 with h2 | h2
      · rw [h2] at hba; cases hba
      · exact hne h2
  refine ⟨hw.1, hw.2.1, hw.2.2.1, hw.2.2.2.1, hw.2.2.2.2.1, fun x hx => ?_, fun x y hx hy h => ?_, fun x hx => ?_, fun x y t hx hy ht h1 h2 => ?_⟩
  · rw [z_Pp_ab]
    split
    · exact z_or_lt (hw.ab x hx) (z_up_lt hw hb)
    · exact hw.ab x hx
  · rw [z_Pp_bit, Bool.or_eq_true, Bool.and_eq_true] at h
    rcases h with h | ⟨h, h'⟩
    · exact hw.in x y hx hy h
    · exact ⟨z_dn_in hw ha hx ta h, z_up_in hw hb hy tb h'⟩
  · rw [z_Pp_bit, hw.irr x hx, Bool.false_or]
    cases h1 : (z_dn P a).testBit x
    · rfl
    · cases h2 : (z_up P b).testBit x
      · rfl
      · exact (hno x hx h1 h2).elim
  · rw [z_Pp_bit, Bool.or_eq_true, Bool.and_eq_true] at h1 h2 ⊢
    rcases h1 with h1 | ⟨h1, h1'⟩
    · rcases h2 with h2 | ⟨h2, h2'⟩
      · exact Or.inl (hw.tr x y t hx hy ht h1 h2)
      · refine Or.inr ⟨?_, h2'⟩
        rw [z_dn_bit P hy, Bool.or_eq_true, decide_eq_true_eq] at h2
        rw [z_dn_bit P hx, Bool.or_eq_true]
        rcases h2 with h2 | rfl
        · exact Or.inl (hw.tr x y a hx hy ha h1 h2)
        · exact Or.inl h1
    · refine Or.inr ⟨h1, ?_⟩
      rcases h2 with h2 | ⟨h2, h2'⟩
      · rw [z_up_bit, Bool.or_eq_true, decide_eq_true_eq] at h1'
        rw [z_up_bit, Bool.or_eq_true]
        rcases h1' with h1' | rfl
        · exact Or.inl (hw.tr b y t hb hy ht h1' h2)
        · exact Or.inl h2
      · exact h2'
theorem s6_put {i : Nat} (hr : z_rc u i P) (hw : z_wf P) {a b : Nat} (ha : a < 9) (hb : b < 9) (ta : (z_th P).testBit a = true) (tb : (z_th P).testBit b = true) : z_ok (f_X6_put i (nI a) (nI b) u) (fun u' => (∀ k, k ≠ i + 1 → k ≠ i + 2 → u'.1 k = u.1 k) ∧ z_rc u' i (z_Pp P a b)) := by
  have hlo := z_dn_lt (P := P) ha
  have hhi := z_up_lt hw hb
  have e1 : u.1 (i + 2) a ||| nI (2 ^ a) = nI (z_dn P a) := by rw [hr.2.2.2.2.1 a ha, z_or]; rfl
  have e2 : u.1 (i + 1) b ||| nI (2 ^ b) = nI (z_up P b) := by rw [hr.2.2.2.1 b hb, z_or]; rfl
  unfold f_X6_put
  rw [s6_has hr hw, z_is_nI ha, ta, Option.bind_some, if_neg (show ¬ z_bi true = 0 by decide), s6_has hr hw, z_is_nI hb, tb, Option.bind_some, if_neg (show ¬ z_bi true = 0 by decide), z_ok_gd, z_ok_lt, z_ok_gd, z_ok_lt, z_gI, z_gI, z_c9 ha, z_c9 hb, z_sh ha, z_sh hb, e1, e2]
  refine ⟨z_in9 ha, z_in9 hb, ?_⟩
  refine z_ok_l9 (fun j q => q.1 = nI j ∧ (∀ k, k ≠ i + 1 → k ≠ i + 2 → q.2.1 k = u.1 k) ∧ (∀ x, x < 9 → q.2.1 (i + 1) x = nI (if x < j ∧ (z_dn P a).testBit x = true then z_ab P x ||| z_up P b else z_ab P x)) ∧ (∀ x, x < 9 → q.2.1 (i + 2) x = nI (if x < j ∧ (z_up P b).testBit x = true then z_un P x ||| z_dn P a else z_un P x))) ⟨rfl, fun _ _ _ => rfl, fun x hx => by simp [hr.2.2.2.1 x hx], fun x hx => by simp [hr.2.2.2.2.1 x hx]⟩ ?_ ?_
  · rintro j ⟨q, v⟩ hi ⟨f1, f2, f3, f4⟩ kb hk
    dsimp only at f1 f2 f3 f4
    subst f1
    have hj : ∀ v' : z_M, (∀ k, k ≠ i + 1 → k ≠ i + 2 → v'.1 k = u.1 k) → (∀ x, x < 9 → v'.1 (i + 1) x = nI (if x < j + 1 ∧ (z_dn P a).testBit x = true then z_ab P x ||| z_up P b else z_ab P x)) → (∀ x, x < 9 → v'.1 (i + 2) x = nI (if x < j ∧ (z_up P b).testBit x = true then z_un P x ||| z_dn P a else z_un P x)) → z_ok (j_X6_put_j71 i (nI (z_dn P a)) (nI (z_up P b)) (nI j) v' kb (fun t20 => some t20)) (fun u' => (∀ k, k ≠ i + 1 → k ≠ i + 2 → u'.1 k = u.1 k) ∧ z_rc u' i (z_Pp P a b)) := by
      intro v' g2 g3 g4
      unfold j_X6_put_j71
      simp only [s_isIn hhi, z_is_nI hi, Option.bind_some, z_ok_bit, z_in9 hi, z_ok_gd, z_ok_lt, true_and, z_gI, z_c9 hi, z_1, g4 j hi, Nat.lt_irrefl, false_and, if_false, z_or]
      refine ⟨fun h => hk _ ⟨rfl, g2, g3, fun x hx => ?_⟩, fun h => hk _ ⟨rfl, fun k k1 k2 => ?_, fun x hx => ?_, fun x hx => ?_⟩⟩
      · dsimp only
        rw [g4 x hx]
        by_cases hxj : x = j
        · subst hxj; simp [h]
        · have : (x < j + 1) = (x < j) := propext ⟨fun h => by omega, fun h => by omega⟩
          simp only [this]
      · dsimp only
        rw [z_sI_ne k2]
        exact g2 k k1 k2
      · dsimp only
        rw [z_sI_ne (by omega)]
        exact g3 x hx
      · simp only [z_sI_1, true_and]
        by_cases hxj : j = x
        · subst hxj; simp [h]
        · rw [if_neg hxj, g4 x hx]
          have : (x < j + 1) = (x < j) := propext ⟨fun h => by omega, fun h => by omega⟩
          simp only [this]
    unfold b_X6_put_43
    simp only [z_le9 hi, if_false, s_isIn hlo, z_is_nI hi, Option.bind_some, z_ok_bit, z_in9 hi, z_ok_gd, z_ok_lt, true_and, z_gI, z_c9 hi, f3 j hi, Nat.lt_irrefl, false_and, z_or]
    refine ⟨fun h => hj _ f2 (fun x hx => ?_) f4, fun h => hj _ (fun k k1 k2 => ?_) (fun x hx => ?_) (fun x hx => ?_)⟩
    · rw [f3 x hx]
      by_cases hxj : x = j
      · subst hxj; simp [h]
      · have : (x < j + 1) = (x < j) := propext ⟨fun h => by omega, fun h => by omega⟩
        simp only [this]
    · rw [z_sI_ne k1]
      exact f2 k k1 k2
    · simp only [z_sI_1, true_and]
      by_cases hxj : j = x
      · subst hxj; simp [h]
      · rw [if_neg hxj, f3 x hx]
        have : (x < j + 1) = (x < j) := propext ⟨fun h => by omega, fun h => by omega⟩
        simp only [this]
    · rw [z_sI_ne (by omega)]
      exact f4 x hx
  · rintro ⟨q, v⟩ ⟨f1, f2, f3, f4⟩ kb
    dsimp only at f1 f2 f3 f4
    subst f1
    unfold b_X6_put_43
    simp only [z_99, if_true, z_ok_some]
    refine ⟨f2, by rw [f2 i (by omega) (by omega)]; exact hr.1, by rw [f2 i (by omega) (by omega)]; exact hr.2.1, by rw [f2 i (by omega) (by omega)]; exact hr.2.2.1, fun x hx => ?_, fun x hx => ?_, fun k hk => by rw [f2 (i + 3) (by omega) (by omega)]; exact hr.2.2.2.2.2 k hk⟩
    · rw [f3 x hx, z_Pp_ab]
      simp [hx]
    · rw [f4 x hx, z_Pp_un hw ha hb]
      simp [hx]
/-- what the reference's row becomes -/
def z_rl (R : Nat → Nat) (a b x : Nat) : Nat := if x = a ∨ (R x).testBit a = true then R x ||| (2 ^ b ||| R b) else R x
theorem s10_relates {p : Nat} {R : Nat → Nat} {a b : Nat} (ha : a < 9) (hb : b < 9) (hR : ∀ x, x < 9 → w.1 p (3 + x) = nI (R x) ∧ R x < 512) (hne : a ≠ b) (hba : (R b).testBit a = false) : z_ok (f_X10_relates p 93 (nI a) (nI b) w) (fun w' => (∀ i, i ≠ p → w'.1 i = w.1 i) ∧ (∀ k, (k < 3 ∨ 12 ≤ k) → w'.1 p k = w.1 p k) ∧ ∀ x, x < 9 → w'.1 p (3 + x) = nI (z_rl R a b x)) := by
  unfold f_X10_relates
  have hRb : z_rl R a b b = R b := by
    unfold z_rl
    rw [if_neg]
    rintro (h | h)
    · exact hne h.symm
    · rw [h] at hba; cases hba
  refine z_ok_l9 (fun j q => q.1 = nI j ∧ (∀ i, i ≠ p → q.2.1 i = w.1 i) ∧ (∀ k, (k < 3 ∨ 12 ≤ k) → q.2.1 p k = w.1 p k) ∧ ∀ x, x < 9 → q.2.1 p (3 + x) = nI (if x < j then z_rl R a b x else R x)) ⟨rfl, fun _ _ => rfl, fun _ _ => rfl, fun x hx => by simp [(hR x hx).1]⟩ ?_ ?_
  · rintro j ⟨q, v⟩ hi ⟨f1, f2, f3, f4⟩ kb hk
    dsimp only at f1 f2 f3 f4
    subst f1
    have e3 : (3 : Int32) + nI j = nI (3 + j) := z_3i j
    have e3b : (3 : Int32) + nI b = nI (3 + b) := z_3i b
    have hvb : v.1 p (3 + b) = nI (R b) := by
      rw [f4 b hb]
      split
      · rw [hRb]
      · rfl
    have hj : z_rl R a b j = R j ||| (2 ^ b ||| R b) → z_ok (j_X10_relates_j25 p 93 (nI a) (nI b) (nI j) v kb (fun t10 => some t10)) (fun w' => (∀ i, i ≠ p → w'.1 i = w.1 i) ∧ (∀ k, (k < 3 ∨ 12 ≤ k) → w'.1 p k = w.1 p k) ∧ ∀ x, x < 9 → w'.1 p (3 + x) = nI (z_rl R a b x)) := by
      intro hrl
      unfold j_X10_relates_j25
      simp only [e3, e3b, z_ok_gd, z_ok_lt, z_i93 (show 3 + j < 93 by omega), z_i93 (show 3 + b < 93 by omega), true_and, z_gI, z_cl (show 3 + j < 2 ^ 31 by omega), z_cl (show 3 + b < 2 ^ 31 by omega), f4 j hi, Nat.lt_irrefl, if_false, hvb, z_sh hb, z_or, z_1]
      refine hk _ ⟨rfl, fun i hi => ?_, fun k hk => ?_, fun x hx => ?_⟩
      · dsimp only
        rw [z_sI_ne hi]
        exact f2 i hi
      · simp only [z_sI_1, true_and]
        rw [if_neg (by omega)]
        exact f3 k hk
      · simp only [z_sI_1, true_and]
        by_cases hxj : j = x
        · subst hxj
          rw [if_pos rfl, if_pos (by omega), hrl]
        · rw [if_neg (by omega), f4 x hx]
          have : (x < j + 1) = (x < j) := propext ⟨fun h => by omega, fun h => by omega⟩
          simp only [this]
    have hno : z_rl R a b j = R j → z_ok (kb (nI (j + 1), v)) (fun w' => (∀ i, i ≠ p → w'.1 i = w.1 i) ∧ (∀ k, (k < 3 ∨ 12 ≤ k) → w'.1 p k = w.1 p k) ∧ ∀ x, x < 9 → w'.1 p (3 + x) = nI (z_rl R a b x)) := by
      intro hrl
      refine hk _ ⟨rfl, f2, f3, fun x hx => ?_⟩
      dsimp only
      rw [f4 x hx]
      by_cases hxj : j = x
      · subst hxj
        rw [if_neg (by omega), if_pos (by omega), hrl]
      · have : (x < j + 1) = (x < j) := propext ⟨fun h => by omega, fun h => by omega⟩
        simp only [this]
    unfold b_X10_relates_2
    have ea : (nI j = nI a) = (j = a) := z_eqI (by omega) (by omega)
    simp only [z_le9 hi, if_false, ea, z_ok_ite, e3, z_ok_gd, z_i93 (show 3 + j < 93 by omega), true_and, z_gI, z_cl (show 3 + j < 2 ^ 31 by omega), f4 j hi, Nat.lt_irrefl, s_has (z_31 (hR j hi).2) ha, Option.bind_some, z_bi_0, z_1]
    refine ⟨fun h => hj (by unfold z_rl; rw [if_pos (Or.inl h)]), fun h => ⟨fun h2 => hno ?_, fun h2 => hj ?_⟩⟩
    · unfold z_rl
      rw [if_neg]
      rintro (h3 | h3)
      · exact h h3
      · rw [h3] at h2; cases h2
    · unfold z_rl
      rw [if_pos (Or.inr (by simpa using h2))]
  · rintro ⟨q, v⟩ ⟨f1, f2, f3, f4⟩ kb
    dsimp only at f1 f2 f3 f4
    subst f1
    unfold b_X10_relates_2
    simp only [z_99, if_true, z_ok_some]
    exact ⟨f2, f3, fun x hx => by rw [f4 x hx, if_pos hx]⟩
/-- the row behind relates tells of the order behind put -/
theorem z_rr_put {f g : Nat → Int32} (hw : z_wf P) (hr : z_rr f P) {a b : Nat} (ha : a < 9) (hb : b < 9) (ta : (z_th P).testBit a = true) (tb : (z_th P).testBit b = true) (h1 : ∀ k, (k < 3 ∨ 12 ≤ k) → g k = f k) (h2 : ∀ x, x < 9 → g (3 + x) = nI (z_rl (z_rv f) a b x)) : z_rr g (z_Pp P a b) := by
  have hlt : ∀ x, x < 9 → z_rl (z_rv f) a b x < 512 := by
    intro x hx
    have c1 := (hr.2.2.2.1 x hx).2.1
    have c2 := (hr.2.2.2.1 b hb).2.1
    unfold z_rl
    split
    · exact z_or_lt c1 (z_or_lt (z_pw_lt hb) c2)
    · exact c1
  have hrv : ∀ x, x < 9 → z_rv g x = z_rl (z_rv f) a b x := by
    intro x hx
    have := hlt x hx
    unfold z_rv at *
    rw [h2 x hx]
    exact z_cl (by omega)
  refine ⟨by rw [h1 0 (by omega)]; exact hr.1, by rw [h1 1 (by omega)]; exact hr.2.1, by rw [h1 2 (by omega)]; exact hr.2.2.1, fun x hx => ⟨by rw [hrv x hx]; exact h2 x hx, by rw [hrv x hx]; exact hlt x hx, fun tx => ?_⟩, fun k hk => by rw [h1 _ (by omega)]; exact hr.2.2.2.2 k hk⟩
  have tx : (z_th P).testBit x = true := tx
  have cx := (hr.2.2.2.1 x hx).2.2 tx
  have cb := (hr.2.2.2.1 b hb).2.2 tb
  have hxa : (z_rv f x).testBit a = (z_ab P x).testBit a := by rw [← cx, Nat.testBit_and, ta, Bool.and_true]
  rw [hrv x hx]
  apply Nat.eq_of_testBit_eq
  intro k
  rw [Nat.testBit_and, z_Pp_th, z_Pp_bit, z_dn_bit P hx, z_up_bit, ← cx, ← cb]
  simp only [Nat.testBit_and]
  rw [ta, Bool.and_true]
  unfold z_rl
  by_cases h : x = a ∨ (z_rv f x).testBit a = true
  · rw [if_pos h, Nat.testBit_or, Nat.testBit_or, Nat.testBit_two_pow]
    have e : ((z_rv f x).testBit a || decide (x = a)) = true := by
      rcases h with h | h
      · simp [h]
      · simp [h]
    rw [e, Bool.true_and]
    by_cases hk : b = k
    · subst hk; simp [tb]
    · have : ¬ k = b := fun e => hk e.symm
      simp only [hk, this, decide_false, Bool.false_or, Bool.or_false]
      cases (z_rv f x).testBit k <;> cases (z_rv f b).testBit k <;> cases (z_th P).testBit k <;> rfl
  · rw [if_neg h]
    have e : ((z_rv f x).testBit a || decide (x = a)) = false := by
      rw [Bool.or_eq_false_iff]
      exact ⟨by cases h3 : (z_rv f x).testBit a; rfl; exact absurd (Or.inr h3) h, decide_eq_false (fun h3 => h (Or.inl h3))⟩
    rw [e, Bool.false_and, Bool.or_false]
theorem p_relate : z_S_relate z_Inv := by
  intro a1 a2 u w hI
  obtain ⟨P, hw, hc, hr⟩ := hI.1
  have hr' := z_rr0 hr 0
  have hI0 := hI.th0
  unfold f_X9_relate f_X10_relate
  simp only [s6_has hc hw, s10_areThere hr' hw, Option.bind_some, z_lt, z_bi_0, s6_isUnder hc hw]
  cases h1 : z_is (z_th P) a1
  · exact ⟨-1, u, z_sI w 0 0 0, by simp, by simp, hI0⟩
  cases h2 : z_is (z_th P) a2
  · exact ⟨-1, u, z_sI w 0 0 0, by simp, by simp, hI0⟩
  obtain ⟨a, ha, rfl, ta⟩ := z_is_ok h1
  obtain ⟨b, hb, rfl, tb⟩ := z_is_ok h2
  by_cases h3 : nI a = nI b
  · exact ⟨-2, u, z_sI w 0 0 0, by simp [h3], by simp [h3], hI0⟩
  have hne : a ≠ b := fun e => h3 (by rw [e])
  simp only [s10_isBelowT hr' hb ha tb ta, z_c9 hb, z_is_nI ha, Option.bind_some, z_bi_0, Bool.true_and]
  cases h4 : (z_ab P b).testBit a
  · obtain ⟨u', w', g1, g2, g3, g4, g5⟩ := z_push hI0 hw hc hr'
    have hc' : z_rc u' 0 P := z_rc_cg (fun j hj => g4 _ (by omega)) hc
    have hr2 : z_rr (w'.1 1) P := by rw [g5]; exact hr'
    have hw2 := z_Pp_wf hw ha hb ta tb hne h4
    obtain ⟨u2, k1, k2, k3⟩ := s6_put hc' hw ha hb ta tb
    have hrb : (z_rv (w'.1 1) b).testBit a = false := by rw [z_rv_bit hr2 hb tb ta]; exact h4
    obtain ⟨w2, m1, m2, m3, m4⟩ := s10_relates (w := w') (p := 1) (R := z_rv (w'.1 1)) ha hb (fun x hx => ⟨(hr2.2.2.2.1 x hx).1, (hr2.2.2.2.1 x hx).2.1⟩) hne hrb
    have hr3 : z_rr (w2.1 1) (z_Pp P a b) := z_rr_put hw hr2 ha hb ta tb m3 m4
    refine ⟨z_prs (z_Pp P a b), u2, w2, ?_, ?_, ?_⟩
    · simp [h3, g1, k1, s6_pairs k3 hw2]
    · simp [h3, g2, m1, s10_pairs hr3 hw2]
    · exact g3.cur (P := z_Pp P a b) (fun i hi => k2 i (by omega) (by omega)) m2 hw2 k3 hr3
  · exact ⟨-2, u, z_sI w 0 0 0, by simp [h3], by simp [h3], hI0⟩
end
