section
theorem z_isIn0 (a c : Int32) (C : Int64) (h : C.toInt = c.toInt) : f_X10_isIn a.toInt64 0 C = some (z_bi (decide (¬ a < 0) && decide (a ≤ c))) := by
  rw [s10_isIn, z_i64, h]
  have e0 : (0 : Int64).toInt = 0 := rfl
  have e1 : (0 : Int32).toInt = 0 := rfl
  have h1 : (¬ a < 0) = (0 ≤ a.toInt) := by
    apply propext
    rw [Int32.lt_iff_toInt_lt, e1]
    omega
  have h2 : (a ≤ c) = (a.toInt ≤ c.toInt) := propext Int32.le_iff_toInt_le
  simp only [e0, h1, h2]
theorem z_bi_t {b : Bool} (h : b = true) : z_bi b = 1 := by rw [h]; rfl
theorem z_bi_f {b : Bool} (h : b = false) : z_bi b = 0 := by rw [h]; rfl
variable {u w : z_M} {P : z_P}
theorem z_Inv.th0 (hI : z_Inv u w) : z_Inv u (z_sI w 0 0 0) := hI.keep (z_eC.rf hI.2.2.2.2.2.2) (z_eR0 w)
theorem z_td_pos (hw : z_wf P) {x : Nat} (hx : x < 9) (tx : (z_th P).testBit x = true) : 0 < z_td P := by
  have := hw.2.2.1 x hx tx
  omega
theorem p_rule : z_S_rule z_Inv := by
  intro a1 u w hI
  obtain ⟨P, hw, hc, hr⟩ := hI.1
  have hr' := z_rr0 hr 0
  have hI0 := hI.th0
  unfold f_X9_rule f_X10_rule
  simp only [s9_isOrder hc hw, s10_isTold hr' hw, z_isIn0 a1 3 3 rfl, Option.bind_some, z_lt, z_bi_0]
  by_cases ht : 0 < z_td P
  · by_cases h1 : a1 < 0
    · exact ⟨-1, u, z_sI w 0 0 0, by simp [ht, h1], by simp [ht, h1], hI0⟩
    · by_cases h2 : a1 ≤ 3
      · obtain ⟨u', w', g1, g2, g3, g4, g5⟩ := z_push hI0 hw hc hr'
        obtain ⟨r, hr3, rfl⟩ := nI_of2 (n := 3) rfl h1 h2
        have e1 : u'.1 0 2 = nI (z_ru P) := by rw [g4 0 (by decide)]; exact hc.2.2.1
        have e2 : w'.1 1 2 = nI (z_ru P) := by rw [g5]; exact hr'.2.2.1
        refine ⟨nI (z_ru P), z_sI u' 0 2 (nI r), z_sI w' 1 2 (nI r), ?_, ?_, ?_⟩
        · simp [ht, h1, h2, g1, z_gI, e1]
        · simp [ht, h1, h2, g2, z_gI, e2, z_gd, show z_inb 2 93 = true from rfl, z_c2]
        · refine g3.cur (P := (z_td P, z_th P, r, z_ab P, z_tg P)) (fun i hi => z_sI_ne (by omega)) (fun i hi => z_sI_ne hi) ?_ ?_ ?_
          · exact ⟨hw.1, hw.2.1, hw.2.2.1, hw.2.2.2.1, hr3, hw.2.2.2.2.2⟩
          · have hc' : z_rc u' 0 P := z_rc_cg (fun j hj => g4 _ (by omega)) hc
            refine ⟨?_, ?_, ?_, fun x hx => ?_, fun x hx => ?_, fun k hk => ?_⟩
            · simp [z_sI_1, hc'.1]
            · simp [z_sI_1, hc'.2.1]
            · simp [z_sI_1]
            · rw [z_sI_ne (by decide)]; exact hc'.2.2.2.1 x hx
            · rw [z_sI_ne (by decide)]; exact hc'.2.2.2.2.1 x hx
            · rw [z_sI_ne (by decide)]; exact hc'.2.2.2.2.2 k hk
          · have hr2 : z_rr (w'.1 1) P := by rw [g5]; exact hr'
            have ek : ∀ k, k ≠ 2 → (z_sI w' 1 2 (nI r)).1 1 k = w'.1 1 k := fun k hk => by simp [z_sI_1, Ne.symm hk]
            refine ⟨?_, ?_, ?_, fun x hx => ?_, fun k hk => ?_⟩
            · rw [ek 0 (by decide)]; exact hr2.1
            · rw [ek 1 (by decide)]; exact hr2.2.1
            · simp [z_sI_1]
            · have e : z_rv ((z_sI w' 1 2 (nI r)).1 1) x = z_rv (w'.1 1) x := by unfold z_rv; rw [ek _ (by omega)]
              rw [e, ek _ (by omega)]
              exact hr2.2.2.2.1 x hx
            · rw [ek _ (by omega)]
              exact hr2.2.2.2.2 k hk
      · exact ⟨-1, u, z_sI w 0 0 0, by simp [ht, h1, h2], by simp [ht, h1, h2], hI0⟩
  · exact ⟨-1, u, z_sI w 0 0 0, by simp [ht], by simp [ht], hI0⟩
theorem p_lift : z_S_lift z_Inv := by
  intro a1 a2 a3 u w hI
  obtain ⟨P, hw, hc, hr⟩ := hI.1
  have hr' := z_rr0 hr 0
  have hI0 := hI.th0
  unfold f_X9_lift f_X10_lift
  simp only [s6_has hc hw, s10_areThere hr' hw, z_isIn0 a3 99 99 rfl, Option.bind_some, z_lt, z_bi_0]
  cases h1 : z_is (z_th P) a1
  · exact ⟨-1, u, z_sI w 0 0 0, by simp, by simp, hI0⟩
  cases h2 : z_is (z_th P) a2
  · exact ⟨-1, u, z_sI w 0 0 0, by simp, by simp, hI0⟩
  by_cases h3 : a1 = a2
  · exact ⟨-1, u, z_sI w 0 0 0, by simp [h3], by simp [h3], hI0⟩
  by_cases h4 : a3 < 0
  · exact ⟨-1, u, z_sI w 0 0 0, by simp [h3, h4], by simp [h3, h4], hI0⟩
  by_cases h5 : a3 ≤ 99
  · obtain ⟨x, hx, rfl, tx⟩ := z_is_ok h1
    obtain ⟨y, hy, rfl, ty⟩ := z_is_ok h2
    obtain ⟨u', w', g1, g2, g3, g4, g5⟩ := z_push hI0 hw hc hr'
    have hc' : z_rc u' 0 P := z_rc_cg (fun j hj => g4 _ (by omega)) hc
    have hr2 : z_rr (w'.1 1) P := by rw [g5]; exact hr'
    have e : nI x * 9 + nI y = nI (9 * x + y) := (by decide +kernel : ∀ a, a < 9 → ∀ b, b < 9 → nI a * 9 + nI b = nI (9 * a + b)) x hx y hy
    have n1 : ¬ nI (9 * x + y) < 0 := nI_pos (by omega)
    have n2 : ¬ nI 81 ≤ nI (9 * x + y) := nI_ge (a := 9 * x + y) (b := 81) (by omega) (by decide)
    have e2 : (12 : Int32) + 9 * nI x + nI y = nI (12 + (9 * x + y)) := (by decide +kernel : ∀ a, a < 9 → ∀ b, b < 9 → (12 : Int32) + 9 * nI a + nI b = nI (12 + (9 * a + b))) x hx y hy
    refine ⟨z_tg P (9 * x + y), z_sI u' 3 (9 * x + y) a3, z_sI w' 1 (12 + (9 * x + y)) a3, ?_, ?_, ?_⟩
    · unfold f_X6_setTag
      simp [h3, h4, h5, g1, s6_tagOf hc' hx hy, z_lt, e, n1, n2, z_inb_nI (show 9 * x + y < 81 by omega) (by decide), z_gd, z_cl (show 9 * x + y < 2 ^ 31 by omega)]
    · simp [h3, h4, h5, g2, s10_told hr2 hx hy, e2, z_i93 (show 12 + (9 * x + y) < 93 by omega), z_gd, z_cl (show 12 + (9 * x + y) < 2 ^ 31 by omega)]
    · refine g3.cur (P := (z_td P, z_th P, z_ru P, z_ab P, fun k => if k = 9 * x + y then a3 else z_tg P k)) (fun i hi => z_sI_ne (by omega)) (fun i hi => z_sI_ne hi) hw ?_ ?_
      · refine ⟨?_, ?_, ?_, fun x hx => ?_, fun x hx => ?_, fun k hk => ?_⟩
        · rw [z_sI_ne (by decide)]; exact hc'.1
        · rw [z_sI_ne (by decide)]; exact hc'.2.1
        · rw [z_sI_ne (by decide)]; exact hc'.2.2.1
        · rw [z_sI_ne (by decide)]; exact hc'.2.2.2.1 x hx
        · rw [z_sI_ne (by decide)]; exact hc'.2.2.2.2.1 x hx
        · show _ = if k = 9 * x + y then a3 else z_tg P k
          simp only [z_sI_1, Nat.zero_add, true_and]
          by_cases hk2 : k = 9 * x + y
          · simp [hk2]
          · rw [if_neg (Ne.symm hk2), if_neg hk2]
            exact hc'.2.2.2.2.2 k hk
      · have ek : ∀ k, k ≠ 12 + (9 * x + y) → (z_sI w' 1 (12 + (9 * x + y)) a3).1 1 k = w'.1 1 k := fun k hk => by simp [z_sI_1, Ne.symm hk]
        refine ⟨?_, ?_, ?_, fun t ht => ?_, fun k hk => ?_⟩
        · rw [ek 0 (by omega)]; exact hr2.1
        · rw [ek 1 (by omega)]; exact hr2.2.1
        · rw [ek 2 (by omega)]; exact hr2.2.2.1
        · have e : z_rv ((z_sI w' 1 (12 + (9 * x + y)) a3).1 1) t = z_rv (w'.1 1) t := by unfold z_rv; rw [ek _ (by omega)]
          rw [e, ek _ (by omega)]
          exact hr2.2.2.2.1 t ht
        · show _ = if k = 9 * x + y then a3 else z_tg P k
          by_cases hk2 : k = 9 * x + y
          · simp [z_sI_1, hk2]
          · rw [ek _ (by omega)]
            rw [if_neg hk2]
            exact hr2.2.2.2.2 k hk
  · exact ⟨-1, u, z_sI w 0 0 0, by simp [h3, h4, h5], by simp [h3, h4, h5], hI0⟩
end
