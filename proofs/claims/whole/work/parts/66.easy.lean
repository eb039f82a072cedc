section
variable {u w : z_M} {P : z_P}
theorem s9_isOrder (hr : z_rc u 0 P) (hw : z_wf P) : f_X9_isOrder u = some (z_bi (decide (0 < z_td P))) := by
  unfold f_X9_isOrder
  have : z_td P ≤ 9 := hw.1
  have e : (nI (z_td P) ≤ 0) = (z_td P ≤ 0) := z_leI (b := 0) (by omega) (by decide)
  simp only [z_gI, hr.1, e]
  by_cases h : z_td P ≤ 0
  · have h1 : z_td P = 0 := by omega
    simp [h1, z_bi]
  · have h1 : 0 < z_td P := by omega
    have h2 : ¬ z_td P = 0 := by omega
    simp [h1, h2, z_bi]
theorem s10_edges (hr : z_rr (w.1 1) P) (hw : z_wf P) : f_X10_edges w = some (z_egs P) := by
  rw [← z_ok_eq]
  unfold f_X10_edges
  refine z_ok_l9 (fun i q => q = (z_su (fun x => nI (z_pc (if (z_th P).testBit x then z_cov P x (z_th P) else 0))) i, nI i)) rfl ?_ ?_
  · rintro i q hi rfl kb hk
    unfold b_X10_edges_4
    simp only [z_le9 hi, z_le9n hi, z_in9 hi, z_c9 hi, z_sh hi, z_is_nI hi, if_false, if_true, Option.bind_some, z_ok_gd, z_ok_lt, z_ok_some, z_ok_ite, z_ok_bind, z_ok_b2, z_bi_0, Bool.not_eq_false, z_gI, z_and, z_or, z_andc, z_1, true_and, and_true, show z_inb 1 93 = true from rfl, z_c1, hr.2.1, s_has (z_31 hw.th) hi]
    refine ⟨fun h1 => hk _ ?_, fun h1 => ?_⟩
    · simp [z_su, h1, z_pc]
      rfl
    · rw [s10_coverers hr hw hi h1, z_ok_some, s_bits (show z_cov P i (z_th P) < 512 from z_en_lt _ _), z_ok_some]
      refine hk _ ?_
      simp [z_su, h1]
  · rintro q rfl kb
    unfold b_X10_edges_4
    simp only [z_99, if_true, z_ok_some, z_egs]
/-- 0 where a, b are an interval; -1, -2 -/
def z_tr (P : z_P) (a b : Int32) : Int32 := if (z_is (z_th P) a && z_is (z_th P) b) = true then (if a = b ∨ z_is (z_ab P a.toNatClampNeg) b = true then 0 else -2) else -1
theorem s9_troubleOf (hr : z_rc u 0 P) (hw : z_wf P) (a b : Int32) : f_X9_troubleOf a b u = some (z_tr P a b) := by
  unfold f_X9_troubleOf z_tr
  simp only [s6_has hr hw, s6_isUnder hr hw, Option.bind_some, z_bi_0]
  cases h1 : z_is (z_th P) a
  · simp
  · cases h2 : z_is (z_th P) b
    · simp
    · by_cases e : a = b
      · simp [e]
      · cases h3 : z_is (z_ab P a.toNatClampNeg) b <;> simp [e]
theorem s10_refusal (hr : z_rr (w.1 1) P) (hw : z_wf P) (a b : Int32) : f_X10_refusal a b w = some (z_tr P a b) := by
  unfold f_X10_refusal f_X10_isInterval z_tr
  simp only [s10_areThere hr hw, Option.bind_some, z_bi_0]
  cases h1 : z_is (z_th P) a
  · simp
  · cases h2 : z_is (z_th P) b
    · simp
    · obtain ⟨x, hx, rfl, tx⟩ := z_is_ok h1
      obtain ⟨y, hy, rfl, ty⟩ := z_is_ok h2
      by_cases e : nI x = nI y
      · simp [e]
      · simp only [e, s10_isBelowT hr hx hy tx ty, z_c9 hx, z_is_nI hy]
        cases h3 : (z_ab P x).testBit y <;> simp [z_bi]
theorem z_tr_cases (P : z_P) (hw : z_wf P) (a b : Int32) : z_tr P a b = -1 ∨ z_tr P a b = -2 ∨ (z_tr P a b = 0 ∧ ∃ x y, x < 9 ∧ y < 9 ∧ a = nI x ∧ b = nI y ∧ (z_th P).testBit x = true ∧ (z_th P).testBit y = true ∧ (x = y ∨ (z_ab P x).testBit y = true)) := by
  unfold z_tr
  by_cases h : (z_is (z_th P) a && z_is (z_th P) b) = true
  · rw [Bool.and_eq_true] at h
    obtain ⟨x, hx, rfl, tx⟩ := z_is_ok h.1
    obtain ⟨y, hy, rfl, ty⟩ := z_is_ok h.2
    simp only [h.1, h.2, Bool.and_self, if_true, z_c9 hx, z_is_nI hy]
    by_cases e : nI x = nI y ∨ (z_ab P x).testBit y = true
    · refine Or.inr (Or.inr ⟨by rw [if_pos e], x, y, hx, hy, rfl, rfl, tx, ty, ?_⟩)
      rcases e with e | e
      · exact Or.inl ((nI_eq (by omega) (by omega)).mp e)
      · exact Or.inr e
    · exact Or.inr (Or.inl (by rw [if_neg e]))
  · exact Or.inl (by rw [if_neg h])
theorem s10_between (hr : z_rr (w.1 1) P) (hw : z_wf P) {a b : Nat} (ha : a < 9) (hb : b < 9) (ta : (z_th P).testBit a = true) (tb : (z_th P).testBit b = true) : f_X10_between (nI a) (nI b) w = some (nI (z_bt P a b)) := by
  unfold f_X10_between
  simp only [s10_upTo hr ha ta, s10_downTo hr hw hb tb, Option.bind_some, z_and, z_bt]
theorem z_up_bit (P : z_P) (x k : Nat) : (z_up P x).testBit k = ((z_ab P x).testBit k || decide (k = x)) := z_put_bit _ k
theorem z_dn_bit (P : z_P) {x k : Nat} (hk : k < 9) : (z_dn P x).testBit k = ((z_ab P k).testBit x || decide (k = x)) := by
  rw [z_dn, z_put_bit, z_un_bit P hk]
theorem z_up_in (hw : z_wf P) {x k : Nat} (hx : x < 9) (hk : k < 9) (tx : (z_th P).testBit x = true) (h : (z_up P x).testBit k = true) : (z_th P).testBit k = true := by
  rw [z_up_bit, Bool.or_eq_true, decide_eq_true_eq] at h
  rcases h with h | rfl
  · exact (hw.in x k hx hk h).2
  · exact tx
theorem z_dn_in (hw : z_wf P) {x k : Nat} (hx : x < 9) (hk : k < 9) (tx : (z_th P).testBit x = true) (h : (z_dn P x).testBit k = true) : (z_th P).testBit k = true := by
  rw [z_dn_bit P hk, Bool.or_eq_true, decide_eq_true_eq] at h
  rcases h with h | rfl
  · exact (hw.in k x hk hx h).1
  · exact tx
def z_jn (P : z_P) (a b : Nat) : Int32 := z_lst P (z_up P a &&& z_up P b)
def z_mt (P : z_P) (a b : Nat) : Int32 := z_grt P (z_dn P a &&& z_dn P b)
theorem s10_joinOf (hr : z_rr (w.1 1) P) (hw : z_wf P) {a b : Nat} (ha : a < 9) (hb : b < 9) (ta : (z_th P).testBit a = true) (tb : (z_th P).testBit b = true) : f_X10_joinOf (nI a) (nI b) w = some (z_jn P a b) := by
  unfold f_X10_joinOf
  simp only [s10_upTo hr ha ta, s10_upTo hr hb tb, Option.bind_some, z_and]
  rw [s10_leastOf hr (z_and_lt _ (z_up_lt hw ha)) (fun x hx h => by rw [Nat.testBit_and, Bool.and_eq_true] at h; exact z_up_in hw ha hx ta h.1)]
  rfl
theorem s10_meetOf (hr : z_rr (w.1 1) P) (hw : z_wf P) {a b : Nat} (ha : a < 9) (hb : b < 9) (ta : (z_th P).testBit a = true) (tb : (z_th P).testBit b = true) : f_X10_meetOf (nI a) (nI b) w = some (z_mt P a b) := by
  unfold f_X10_meetOf
  simp only [s10_downTo hr hw ha ta, s10_downTo hr hw hb tb, Option.bind_some, z_and]
  rw [s10_greatestOf hr hw (z_and_lt _ (z_dn_lt ha)) (fun x hx h => by rw [Nat.testBit_and, Bool.and_eq_true] at h; exact z_dn_in hw ha hx ta h.1)]
  rfl
theorem p_label : z_S_label z_Inv := by
  intro a1 a2 u w hI
  refine z_rd hI (fun P hw hc hr => ?_)
  have hr' := z_rr0 hr 0
  unfold f_X9_label f_X10_label
  simp only [s6_has hc hw, s10_areThere hr' hw, Option.bind_some, z_bi_0, z_lt]
  cases h1 : z_is (z_th P) a1
  · simpa [z_ok_some] using z_eR0 w
  · cases h2 : z_is (z_th P) a2
    · simpa [z_ok_some] using z_eR0 w
    · obtain ⟨x, hx, rfl, tx⟩ := z_is_ok h1
      obtain ⟨y, hy, rfl, ty⟩ := z_is_ok h2
      simp only [s6_isEdge hc hw hx hy tx ty, s10_covers hr' hw hx hy tx ty, s6_edgeLabel hc hw hx hy, s10_labelBy hr' hw hx hy, Option.bind_some, z_bi_0]
      cases h3 : ((z_ab P x).testBit y && z_inr P x y == 0) <;> simpa [z_ok_some] using z_eR0 w
theorem p_join : z_S_join z_Inv := by
  intro a1 a2 u w hI
  refine z_rd hI (fun P hw hc hr => ?_)
  have hr' := z_rr0 hr 0
  unfold f_X9_join f_X10_join
  simp only [s6_has hc hw, s10_areThere hr' hw, Option.bind_some, z_bi_0, z_lt]
  cases h1 : z_is (z_th P) a1
  · simpa [z_ok_some] using z_eR0 w
  · cases h2 : z_is (z_th P) a2
    · simpa [z_ok_some] using z_eR0 w
    · obtain ⟨x, hx, rfl, tx⟩ := z_is_ok h1
      obtain ⟨y, hy, rfl, ty⟩ := z_is_ok h2
      have hJ := s6_leastOf hc hw (s := z_up P x &&& z_up P y) (z_and_lt _ (z_up_lt hw hx)) (fun k hk h => by rw [Nat.testBit_and, Bool.and_eq_true] at h; exact z_up_in hw hx hk tx h.1)
      simp only [s6_atLeast hc hw hx, s6_atLeast hc hw hy, tx, ty, if_true, z_and, s10_joinOf hr' hw hx hy tx ty, Option.bind_some, hJ]
      simpa [z_ok_some, z_jn] using z_eR0 w
theorem p_meet : z_S_meet z_Inv := by
  intro a1 a2 u w hI
  refine z_rd hI (fun P hw hc hr => ?_)
  have hr' := z_rr0 hr 0
  unfold f_X9_meet f_X10_meet
  simp only [s6_has hc hw, s10_areThere hr' hw, Option.bind_some, z_bi_0, z_lt]
  cases h1 : z_is (z_th P) a1
  · simpa [z_ok_some] using z_eR0 w
  · cases h2 : z_is (z_th P) a2
    · simpa [z_ok_some] using z_eR0 w
    · obtain ⟨x, hx, rfl, tx⟩ := z_is_ok h1
      obtain ⟨y, hy, rfl, ty⟩ := z_is_ok h2
      have hJ := s6_greatestOf hc hw (s := z_dn P x &&& z_dn P y) (z_and_lt _ (z_dn_lt hx)) (fun k hk h => by rw [Nat.testBit_and, Bool.and_eq_true] at h; exact z_dn_in hw hx hk tx h.1)
      simp only [s6_atMost hc hw hx, s6_atMost hc hw hy, tx, ty, if_true, z_and, s10_meetOf hr' hw hx hy tx ty, Option.bind_some, hJ]
      simpa [z_ok_some, z_mt] using z_eR0 w
theorem p_interval : z_S_interval z_Inv := by
  intro a1 a2 u w hI
  refine z_rd hI (fun P hw hc hr => ?_)
  have hr' := z_rr0 hr 0
  unfold f_X9_interval f_X10_interval
  simp only [s9_troubleOf hc hw, s10_refusal hr' hw, Option.bind_some, z_lt]
  rcases z_tr_cases P hw a1 a2 with h | h | ⟨h, x, y, hx, hy, rfl, rfl, tx, ty, hxy⟩
  · simpa [h, z_ok_some] using z_eR0 w
  · simpa [h, z_ok_some] using z_eR0 w
  · simp only [h, s6_between hc hw hx hy tx ty, s10_between hr' hw hx hy tx ty, Option.bind_some]
    simpa [z_ok_some] using z_eR0 w
theorem p_fault : z_S_fault z_Inv := by
  intro a1 u w hI
  have f1 := hI.2.2.2.2.1
  have f2 := hI.2.2.2.2.2.1
  refine z_rd hI (fun P hw hc hr => ?_)
  unfold f_X9_fault f_X10_fault
  have g1 : z_gI (z_sI w 0 0 0) 0 10 = w.1 0 10 := by simp [z_gI, z_sI_1]
  have g2 : z_gI (z_sI w 0 0 0) 0 11 = w.1 0 11 := by simp [z_gI, z_sI_1]
  simp only [z_lt, g1, g2]
  by_cases h0 : a1 = 0
  · simpa [h0, z_ok_some, z_gI, f1] using z_eR0 w
  · by_cases h1 : a1 = 1
    · simpa [h1, z_ok_some, z_gI, f2] using z_eR0 w
    · simpa [h0, h1, z_ok_some] using z_eR0 w
theorem p_count : z_S_count z_Inv := by
  intro a1 u w hI
  obtain ⟨n, x, h, h1, h2, h3, h4, h5, h6⟩ := hI.2.1
  obtain ⟨t, T, t1, t2, t3, t4⟩ := hI.2.2.2.1
  refine z_rd hI (fun P hw hc hr => ?_)
  have hr' := z_rr0 hr 0
  unfold f_X9_count f_X10_count
  have g1 : (z_sI w 0 0 0).1 0 4 = nI n := by simp [z_gI, z_sI_1, h5]
  have g2 : (z_sI w 0 0 0).1 0 8 = nI t := by simp [z_gI, z_sI_1, t3]
  have g3 : (z_sI w 0 0 0).1 1 = w.1 1 := z_sI_ne (by decide)
  simp only [z_lt, g1, g2, g3, s6_pairs hc hw, s6_edges hc hw, s10_pairs hr' hw, s10_edges hr' hw, Option.bind_some, z_gd, show z_inb 0 93 = true from rfl, show z_inb 1 93 = true from rfl, show z_inb 2 93 = true from rfl, if_true, z_c0, z_c1, z_c2, hr.1, hr.2.1, hr.2.2.1, z_gI, hc.1, hc.2.1, hc.2.2.1, h4, t2]
  by_cases c0 : a1 = 0
  · simpa [c0, z_ok_some] using z_eR0 w
  · by_cases c1 : a1 = 1
    · simpa [c1, z_ok_some] using z_eR0 w
    · by_cases c2 : a1 = 2
      · simpa [c2, z_ok_some] using z_eR0 w
      · by_cases c3 : a1 = 3
        · simpa [c3, z_ok_some] using z_eR0 w
        · by_cases c4 : a1 = 4
          · simpa [c4, z_ok_some] using z_eR0 w
          · by_cases c5 : a1 = 5
            · simpa [c5, z_ok_some] using z_eR0 w
            · by_cases c6 : a1 = 6
              · simpa [c6, z_ok_some] using z_eR0 w
              · simpa [c0, c1, c2, c3, c4, c5, c6, z_ok_some] using z_eR0 w
theorem z_c3 (a : Int32) (h1 : ¬ a < 0) (h2 : a ≤ 3) : a = 0 ∨ a = 1 ∨ a = 2 ∨ a = 3 := by
  obtain ⟨j, hj, rfl⟩ := nI_of2 (n := 3) rfl h1 h2
  match j, hj with
  | 0, _ => exact Or.inl rfl
  | 1, _ => exact Or.inr (Or.inl rfl)
  | 2, _ => exact Or.inr (Or.inr (Or.inl rfl))
  | 3, _ => exact Or.inr (Or.inr (Or.inr rfl))
theorem p_of : z_S_of z_Inv := by
  intro a1 a2 u w hI
  obtain ⟨P, hw, hc, hr⟩ := hI.1
  have hk : ∀ v, z_eR w (z_sI w 0 0 v) := fun v => ⟨fun i a _ _ => z_sI_ne (by omega), by simp [z_sI_1], by simp [z_sI_1], by simp [z_sI_1], by simp [z_sI_1]⟩
  have hIv : ∀ v, z_Inv u (z_sI w 0 0 v) := fun v => hI.keep (z_eC.rf hI.2.2.2.2.2.2) (hk v)
  have hthr : ∀ v, f_X10_thrown (z_sI w 0 0 v) = some v := fun v => by unfold f_X10_thrown; simp [z_gI, z_sI_1]
  have hbad : j_X10_of_j25 a1 a2 w = some (0, z_sI w 0 0 1) := by
    unfold j_X10_of_j25 j_X10_of_j26
    simp [z_lt, z_gI, z_sI_1]
  have hin : f_X10_isIn a2.toInt64 0 3 = some (z_bi (decide (0 ≤ a2.toInt) && decide (a2.toInt ≤ 3))) := by
    rw [s10_isIn, z_i64]
    rfl
  by_cases hgood : z_is (z_th P) a1 = true ∧ ¬ a2 < 0 ∧ a2 ≤ 3
  · obtain ⟨g1, g2, g3⟩ := hgood
    obtain ⟨x, hx, rfl, tx⟩ := z_is_ok g1
    have hr' := z_rr0 hr 0
    have h1 : f_X6_has 0 (nI x) u = some 1 := by rw [s6_has hc hw, g1]; rfl
    have h2 : f_X10_isThere (nI x) w = some 1 := by rw [s10_isThere hr hw, g1]; rfl
    have h3 : f_X10_isIn a2.toInt64 0 3 = some 1 := by
      rw [hin]
      have : ¬ a2.toInt < (0 : Int32).toInt := fun h => g2 (Int32.lt_iff_toInt_lt.mpr h)
      have e0 : (0 : Int32).toInt = 0 := rfl
      have : a2.toInt ≤ (3 : Int32).toInt := Int32.le_iff_toInt_le.mp g3
      have e3 : (3 : Int32).toInt = 3 := rfl
      simp [show 0 ≤ a2.toInt by omega, show a2.toInt ≤ 3 by omega, z_bi]
    have h0 : ((z_sI w 0 0 0).1 0 0 = 1) = False := by simp [z_sI_1]
    rcases z_c3 a2 g2 g3 with rfl | rfl | rfl | rfl
    · refine ⟨some (nI (z_ab P x)), nI (z_ab P x), z_sI w 0 0 0, ?_, ?_, hthr 0, fun r0 e => (Option.some.inj e).symm, hIv 0⟩
      · unfold f_X9_of
        simp [h1, z_gd, z_in9 hx, z_gI, z_c9 hx, hc.2.2.2.1 x hx]
      · unfold f_X10_of j_X10_of_j26
        rw [h3]
        simp [h2, z_lt, z_gI, h0, s10_aboveT hr' hx tx]
    · refine ⟨some (nI (z_un P x)), nI (z_un P x), z_sI w 0 0 0, ?_, ?_, hthr 0, fun r0 e => (Option.some.inj e).symm, hIv 0⟩
      · unfold f_X9_of
        simp [h1, z_gd, z_in9 hx, z_gI, z_c9 hx, hc.2.2.2.2.1 x hx]
      · unfold f_X10_of j_X10_of_j26
        rw [h3]
        simp [h2, z_lt, z_gI, h0, s10_belowT hr' hw hx tx]
    · refine ⟨some (nI (z_cov P x (z_th P))), nI (z_cov P x (z_th P)), z_sI w 0 0 0, ?_, ?_, hthr 0, fun r0 e => (Option.some.inj e).symm, hIv 0⟩
      · unfold f_X9_of
        simp [h1, z_gI, hc.2.1, s6_coverers hc hw hx, tx]
      · unfold f_X10_of j_X10_of_j26
        rw [h3]
        simp [h2, z_lt, z_gI, h0, s10_coverers hr' hw hx tx]
    · refine ⟨some (nI (z_cvd P x (z_th P))), nI (z_cvd P x (z_th P)), z_sI w 0 0 0, ?_, ?_, hthr 0, fun r0 e => (Option.some.inj e).symm, hIv 0⟩
      · unfold f_X9_of
        simp [h1, z_gI, hc.2.1, s6_covered hc hw hx, tx]
      · unfold f_X10_of j_X10_of_j26
        rw [h3]
        simp [h2, z_lt, z_gI, h0, s10_covered hr' hw hx tx]
  · refine ⟨none, 0, z_sI w 0 0 1, ?_, ?_, hthr 1, fun r0 e => (by cases e), hIv 1⟩
    · unfold f_X9_of
      rw [s6_has hc hw]
      cases h : z_is (z_th P) a1
      · simp [z_bi]
      · by_cases h2 : a2 < 0
        · simp [z_bi, h2]
        · have h3 : ¬ a2 ≤ 3 := fun h3 => hgood ⟨h, h2, h3⟩
          simp [z_bi, h2, h3]
    · unfold f_X10_of
      rw [s10_isThere hr hw]
      cases h : z_is (z_th P) a1
      · simp [z_bi, hbad]
      · have h3 : f_X10_isIn a2.toInt64 0 3 = some 0 := by
          rw [hin]
          by_cases h2 : a2 < 0
          · have := Int32.lt_iff_toInt_lt.mp h2
            have e0 : (0 : Int32).toInt = 0 := rfl
            simp [show ¬ 0 ≤ a2.toInt by omega, z_bi]
          · have h3 : ¬ a2 ≤ 3 := fun h3 => hgood ⟨h, h2, h3⟩
            have : ¬ a2.toInt ≤ (3 : Int32).toInt := fun h => h3 (Int32.le_iff_toInt_le.mpr h)
            have e3 : (3 : Int32).toInt = 3 := rfl
            simp [show ¬ a2.toInt ≤ 3 by omega, z_bi]
        simp [z_bi, h3, hbad]
end
