section
variable {u w : z_M} {P : z_P}
/-! flag -/
theorem z_half : ∀ m, m < 512 → nI m / 2 = nI (m / 2) ∧ nI m - nI m / 2 * 2 = nI (m % 2) := by decide +kernel
theorem z_pc_half : ∀ m, m < 512 → z_pc m = z_pc (m / 2) + m % 2 := by decide +kernel
theorem s10_ones {v : Nat} (hv : v < 512) : f_X10_ones (nI v) = some (nI (z_pc v)) := by
  rw [← z_ok_eq]
  unfold f_X10_ones
  refine z_ok_lpm (fun q => ∃ c m, q = (nI c, nI m) ∧ m < 512 ∧ c + z_pc m = z_pc v) (fun q => q.2.toNatClampNeg) (q0 := (0, nI v)) ?_ ⟨0, v, rfl, hv, by omega⟩ ?_
  · show (nI v).toNatClampNeg < z_F
    rw [z_cl (by omega)]
    exact z_F_lt (by omega)
  · rintro q ⟨c, m, rfl, hm, hc⟩ kb hk
    unfold b_X10_ones_4
    dsimp only
    by_cases h0 : m = 0
    · subst h0
      rw [if_pos (by decide), z_ok_some]
      rw [z_pc_0] at hc
      rw [← hc]
      rfl
    · obtain ⟨h1, h2⟩ := z_half m hm
      rw [if_neg (nI_nle (by omega) (by omega)), z_ok_lt, z_ok_lt, h2, h1, z_addI]
      have := z_pc_half m hm
      refine hk _ ⟨c + m % 2, m / 2, rfl, by omega, by omega⟩ ?_
      dsimp only
      rw [z_cl (by omega), z_cl (by omega)]
      omega
theorem z_set_cases (s : Int32) : (f_X9_isPlaceSet s = some 0 ∧ f_X10_isHeights s = some 0) ∨ ∃ n, n < 512 ∧ n.testBit 0 = false ∧ s = nI n ∧ f_X9_isPlaceSet s = some 1 ∧ f_X10_isHeights s = some 1 := by
  unfold f_X9_isPlaceSet f_X10_isHeights
  rw [z_isIn0 s 510 510 rfl, Option.bind_some]
  by_cases c1 : s < 0
  · left
    exact ⟨by rw [if_pos c1], by rw [if_pos (by simp [c1, z_bi])]⟩
  by_cases c2 : 512 ≤ s
  · left
    have c3 : ¬ s ≤ 510 := by
      rw [Int32.le_iff_toInt_le] at c2 ⊢
      have e5 : (512 : Int32).toInt = 512 := rfl
      have e6 : (510 : Int32).toInt = 510 := rfl
      omega
    exact ⟨by rw [if_neg c1, if_pos c2], by rw [if_pos (by simp [c3, z_bi])]⟩
  obtain ⟨n, hn, rfl⟩ := nI_of c1
  have hn5 : n < 512 := by
    refine Nat.lt_of_not_le (fun c => c2 ?_)
    exact nI_le (a := 512) c hn
  have e1 : (nI n &&& 1 = 0) = (n % 2 = 0) := by
    have := (by decide +kernel : ∀ n, n < 512 → decide (nI n &&& 1 = 0) = decide (n % 2 = 0)) n hn5
    apply propext
    rw [← decide_eq_true_iff (p := nI n &&& 1 = 0), this, decide_eq_true_iff]
  have e2 := (z_half n hn5).2
  have e3 : (nI n ≤ 510) = (n ≤ 510) := z_leI (b := 510) (by omega) (by decide)
  by_cases c4 : n % 2 = 0
  · right
    refine ⟨n, hn5, ?_, rfl, ?_, ?_⟩
    · rw [Nat.testBit_zero]; simp [c4]
    · rw [if_neg c1, if_neg c2, if_pos (by rw [e1]; exact c4)]
    · rw [if_neg (by simp [c1, e3, z_bi]; omega), e2, c4, if_pos (by decide)]
  · left
    refine ⟨by rw [if_neg c1, if_neg c2, if_neg (by rw [e1]; exact c4)], ?_⟩
    by_cases c5 : n ≤ 510
    · rw [if_neg (by simp [e3, c1, c5, z_bi]), e2, show n % 2 = 1 by omega, if_neg (by decide)]
    · rw [if_pos (by simp [e3, c5, z_bi])]
theorem z_bt_F (hw : z_wf P) {a b : Nat} (ha : a < 9) (hb : b < 9) (hab : a = b ∨ (z_ab P a).testBit b = true) {F : Nat → Nat} (hF : ∀ x, x < 9 → (z_bt P a b).testBit x = true → F x = z_hg P (z_bt P a b) F x) : ∀ x, x < 9 → (z_bt P a b).testBit x = true → z_hst P a x = F x + 1 := by
  refine z_hst_F hw ha ?_ (fun x hx c => ?_) (fun x y hx hy c1 c2 c3 => (z_bt_W hw ha hb x y hx hy c1 c2).mpr c3) hF
  · rw [z_bt_bit ha]
    rcases hab with c | c <;> simp [c]
  · rw [z_bt_bit hx, Bool.and_eq_true, Bool.or_eq_true, decide_eq_true_eq] at c
    exact c.1.symm
theorem z_par {s p : Nat} (hs : s < 512) (hp : p < 512) (h : z_sb p s = true) : z_pc (s ^^^ p) + z_pc p = z_pc s := by
  have hsub := (z_sb_iff hp).mp h
  have key : ∀ n, n ≤ 9 → z_pcn (s ^^^ p) n + z_pcn p n = z_pcn s n := by
    intro n
    induction n with
    | zero => intro _; rfl
    | succ n ih =>
      intro hn
      have := ih (by omega)
      rw [z_pcn, z_pcn, z_pcn, Nat.testBit_xor]
      have h2 := hsub n (by omega)
      cases hpn : p.testBit n
      · simp only [Bool.xor_false, Bool.toNat_false]; omega
      · rw [h2 hpn]; simp only [Bool.xor_true, Bool.not_true, Bool.toNat_false, Bool.toNat_true]; omega
  have := key 9 (Nat.le_refl 9)
  rw [z_pcn_9, z_pcn_9, z_pcn_9] at this
  exact this
theorem p_flag : z_S_flag z_Inv := by
  intro a1 a2 a3 a4 u w hI ha4
  refine z_rd2 hI (fun P hw hc hr pm => ?_)
  have hr' := z_rr0 hr 0
  have hlow : z_ok (some ((-2147483648 : Int32), u)) (fun q => q.1 = -2147483648 ∧ z_eC u q.2) := by simpa [z_ok_some] using z_eC.rf pm
  have hlow2 : z_ok (some ((-2147483648 : Int32), z_sI w 0 0 0)) (fun q => q.1 = -2147483648 ∧ z_eR w q.2) := by simpa [z_ok_some] using z_eR0 w
  unfold f_X9_flag f_X10_flag
  rcases z_set_cases a3 with ⟨g1, g2⟩ | ⟨s, hs, hs0, rfl, g1, g2⟩
  · exact ⟨-2147483648, by rw [g1, Option.bind_some, if_pos rfl]; exact hlow, by rw [z_ok_lt, g2, Option.bind_some, if_pos rfl]; exact hlow2⟩
  rw [g1, Option.bind_some, if_neg (show ¬ (1 : Int32) = 0 by decide), s9_troubleOf hc hw, Option.bind_some, z_lt, g2, Option.bind_some, if_neg (show ¬ (1 : Int32) = 0 by decide), s10_areThere hr' hw, Option.bind_some]
  have hint : ∀ x y, x < 9 → y < 9 → (z_th P).testBit x = true → (z_th P).testBit y = true → f_X10_isInterval (nI x) (nI y) (z_sI w 0 0 0) = some (z_bi (decide (x = y) || (z_ab P x).testBit y)) := by
    intro x y hx hy tx ty
    unfold f_X10_isInterval
    have e : (nI x = nI y) = (x = y) := z_eqI (by omega) (by omega)
    rw [s10_isBelowT hr' hx hy tx ty, Option.bind_some]
    simp only [e]
    by_cases c : x = y
    · simp [c, z_bi]
    · cases (z_ab P x).testBit y <;> simp [c, z_bi]
  by_cases hth : (z_is (z_th P) a1 && z_is (z_th P) a2) = true
  · have hth' := hth
    rw [Bool.and_eq_true] at hth'
    obtain ⟨x, hx, rfl, tx⟩ := z_is_ok hth'.1
    obtain ⟨y, hy, rfl, ty⟩ := z_is_ok hth'.2
    rw [hth, if_neg (show ¬ z_bi true = 0 by decide), hint x y hx hy tx ty, Option.bind_some]
    by_cases hxy : x = y ∨ (z_ab P x).testBit y = true
    · have etr : z_tr P (nI x) (nI y) = 0 := by
        unfold z_tr
        rw [if_pos hth, z_c9 hx, z_is_nI hy, if_pos]
        rcases hxy with c | c
        · exact Or.inl (by rw [c])
        · exact Or.inr c
      have ein : (decide (x = y) || (z_ab P x).testBit y) = true := by rcases hxy with c | c <;> simp [c]
      rw [etr, if_pos rfl, ein, if_neg (show ¬ z_bi true = 0 by decide), s6_between hc hw hx hy tx ty, Option.bind_some]
      have hbt := z_bt_lt hw hx (b := y)
      have hWt : ∀ k, k < 9 → (z_bt P x y).testBit k = true → (z_th P).testBit k = true := fun k hk hb => z_bt_in hw hx tx hk hb
      obtain ⟨v, q1, q2, F, q3⟩ := s8_measure hc hw hbt
      have hF := z_bt_F hw hx hy hxy (F := F) (fun k hk hb => (q3 k hk (hWt k hk hb) hb).2.2)
      have hcv : z_rc v 0 P := z_rc_cg (fun j hj => q2 _ (by omega) (by omega)) hc
      obtain ⟨w1, b1, b2, b3⟩ := s10_layHeights hr' hw hx tx
      have hr1 : z_rr (w1.1 1) P := by rw [b2 1 (by decide)]; exact hr'
      have hIb : ∀ k, k < 9 → (z_inr P x y).testBit k = true → (z_bt P x y).testBit k = true := fun k hk hb => by
        rw [z_inr_bit hk, Bool.and_eq_true] at hb
        rw [z_bt_bit hk, hb.1, hb.2]; rfl
      have hIt : ∀ k, k < 9 → (z_inr P x y).testBit k = true → (z_th P).testBit k = true := fun k hk hb => hWt k hk (hIb k hk hb)
      have hF0 : ∀ k, k < 9 → (z_inr P x y).testBit k = true → F k < 9 ∧ 0 < F k := fun k hk hb => by
        have hkb := hIb k hk hb
        have h8 := (q3 k hk (hWt k hk hkb) hkb).2.1
        refine ⟨by omega, Nat.pos_of_ne_zero (fun c => ?_)⟩
        have h1 := hF k hk hkb
        rw [z_inr_bit hk, Bool.and_eq_true] at hb
        have h2 := z_hst_lt hw hx hx hk (by rw [z_hst_a hw hx]; decide) hb.1
        rw [z_hst_a hw hx] at h2
        omega
      have hcls : ∀ k, k < 9 → (z_inr P x y).testBit k = true → v.1 127 k = nI (F k) ∧ F k < 9 ∧ 0 < F k := fun k hk hb => ⟨(q3 k hk (hIt k hk hb) (hIb k hk hb)).1, hF0 k hk hb⟩
      have href : ∀ k, k < 9 → (z_inr P x y).testBit k = true → w1.1 7 k = nI (F k) ∧ F k < 9 ∧ 0 < F k := fun k hk hb => ⟨by rw [b3 k hk, hF k hk (hIb k hk hb), z_ho_s], hF0 k hk hb⟩
      have hm : ∀ p q, p < 9 → q < 9 → (z_inr P x y).testBit p = true → (z_inr P x y).testBit q = true → (z_un P p).testBit q = true → F q < F p := fun p q hp hq h1 h2 h3 => by
        rw [z_un_bit P hq] at h3
        have e1 := hF p hp (hIb p hp h1)
        have e2 := hF q hq (hIb q hq h2)
        have := z_hst_lt hw hx hq hp (by omega) h3
        omega
      rw [q1, Option.bind_some, s6_innerOf hcv hw hx hy tx ty, Option.bind_some, b1, Option.bind_some]
      rcases ha4 with rfl | rfl
      · obtain ⟨⟨r1, u1⟩, m1, m2, m3⟩ := s8_flagOf hcv hw (z_inr_lt hw hx) hs hcls
        obtain ⟨⟨r2, w2⟩, n1, n2, n3⟩ := s10_flagOf hr1 hw hx hy tx ty hs href
        dsimp only at m2 m3 n2 n3
        subst m2 n2
        refine ⟨z_fgv P (z_inr P x y) F s, ?_, ?_⟩
        · rw [if_pos rfl, m1, z_ok_b2, z_ok_some, z_ok_some]
          exact ⟨rfl, z_eC.of pm (fun k hk => by dsimp only; rw [m3 k (by omega), q2 k (by omega) (by omega)])⟩
        · rw [if_pos rfl, n1, z_ok_b2, z_ok_some, z_ok_some]
          exact ⟨rfl, z_eR.tr (z_eR0 w) (z_eR.of (fun k hk => by dsimp only; rw [n3 k (by omega), b2 k (by omega)]))⟩
      · obtain ⟨⟨r1, u1⟩, m1, m2, m3⟩ := s8_betaOf hcv hw (z_inr_lt hw hx) hs hs0 hIt hcls hm
        dsimp only at m2 m3
        subst m2
        refine ⟨z_ep s * z_su (fun p => if z_sb p s then z_ep p * z_fgv P (z_inr P x y) F p else 0) (2 ^ 9), ?_, ?_⟩
        · rw [if_neg (by decide), m1, z_ok_b2, z_ok_some, z_ok_some]
          exact ⟨rfl, z_eC.of pm (fun k hk => by dsimp only; rw [m3 k (by omega) (by omega), q2 k (by omega) (by omega)])⟩
        · rw [if_neg (by decide)]
          have hall : z_ep s * z_su (fun p => if z_sb p s then z_ep p * z_fgv P (z_inr P x y) F p else 0) (s + 1) = z_ep s * z_su (fun p => if z_sb p s then z_ep p * z_fgv P (z_inr P x y) F p else 0) (2 ^ 9) := by
            have e5 : (2 : Nat) ^ 9 = (s + 1) + (512 - (s + 1)) := by omega
            rw [e5, z_su_split _ (s + 1) (512 - (s + 1)), z_su_0 (512 - (s + 1)) (fun k hk => ?_), z_add0]
            rw [if_neg]
            intro c
            have hlt : s + 1 + k < 512 := by omega
            have hsub := (z_sb_iff hlt).mp c
            have : (s + 1 + k) &&& s = s + 1 + k := z_ext (z_and_lt _ hlt) hlt (fun j hj => by
              rw [Nat.testBit_and]
              cases hb : (s + 1 + k).testBit j
              · rfl
              · rw [hsub j hj hb]; rfl)
            have h2 : (s + 1 + k) &&& s ≤ s := Nat.and_le_right
            omega
          rw [← hall]
          refine z_ok_lp (fun j q => q.2.1 = nI j ∧ (∀ i, i ≠ 13 → q.2.2.1 i = w1.1 i) ∧ q.1 = z_ep s * z_su (fun p => if z_sb p s then z_ep p * z_fgv P (z_inr P x y) F p else 0) j) (s + 1) (z_F_lt (by omega)) ⟨rfl, fun _ _ => rfl, ?_⟩ ?_ ?_
          · show (0 : Int32) = z_ep s * 0
            grind
          · rintro p ⟨t, pp, v1⟩ hp ⟨e1, e2, e3⟩ kb hkb
            dsimp only at e1 e2 e3
            subst e1 e3
            have hp5 : p < 512 := by omega
            have hrv : z_rr (v1.1 1) P := by rw [e2 1 (by decide)]; exact hr1
            have hrf : ∀ k, k < 9 → (z_inr P x y).testBit k = true → v1.1 7 k = nI (F k) ∧ F k < 9 ∧ 0 < F k := fun k hk hb => by rw [e2 7 (by decide)]; exact href k hk hb
            unfold b_X10_flag_58
            dsimp only
            rw [if_neg (nI_nlt (by omega) (by omega)), z_andc, z_ok_ite, z_df0 hp5, z_df_sb, z_1]
            refine ⟨fun c => ?_, fun c => hkb _ ⟨rfl, e2, ?_⟩⟩
            · have hx9 : s ^^^ p < 512 := Nat.xor_lt_two_pow (n := 9) hs hp5
              have hpar := z_par hs hp5 c
              have h9 := z_pc_le (s ^^^ p)
              obtain ⟨⟨r2, w2⟩, n1, n2, n3⟩ := s10_flagOf hrv hw hx hy tx ty hp5 hrf
              dsimp only at n2 n3
              subst n2
              rw [z_xor, s10_ones hx9, Option.bind_some, (z_half (z_pc (s ^^^ p)) (by omega)).2, n1, z_ok_ite, z_ok_b2, z_ok_some, z_ok_lt, z_ok_b2, z_ok_some, z_ok_lt, show (nI (z_pc (s ^^^ p) % 2) = 0) = (z_pc (s ^^^ p) % 2 = 0) from propext (z_nI0 (by omega))]
              have e2' : ∀ i, i ≠ 13 → w2.1 i = w1.1 i := fun i hi => by rw [n3 i hi]; exact e2 i hi
              have hstep : z_su (fun p => if z_sb p s then z_ep p * z_fgv P (z_inr P x y) F p else 0) (p + 1) = z_su (fun p => if z_sb p s then z_ep p * z_fgv P (z_inr P x y) F p else 0) p + z_ep p * z_fgv P (z_inr P x y) F p := by
                rw [z_su, if_pos c]
              refine ⟨fun d => hkb _ ⟨rfl, e2', ?_⟩, fun d => hkb _ ⟨rfl, e2', ?_⟩⟩
              · dsimp only
                rw [hstep]
                unfold z_ep
                by_cases f : z_pc s % 2 = 0
                · rw [if_pos f, if_pos (show z_pc p % 2 = 0 by omega)]; grind
                · rw [if_neg f, if_neg (show ¬ z_pc p % 2 = 0 by omega)]; grind
              · dsimp only
                rw [hstep]
                unfold z_ep
                by_cases f : z_pc s % 2 = 0
                · rw [if_pos f, if_neg (show ¬ z_pc p % 2 = 0 by omega)]; grind
                · rw [if_neg f, if_pos (show z_pc p % 2 = 0 by omega)]; grind
            · dsimp only
              rw [z_su, if_neg c, z_add0]
          · rintro ⟨t, pp, v1⟩ ⟨e1, e2, e3⟩ kb
            dsimp only at e1 e2 e3
            subst e1 e3
            unfold b_X10_flag_58
            dsimp only
            rw [if_pos (nI_lt (by omega) (by omega)), z_ok_some]
            exact ⟨rfl, z_eR.tr (z_eR0 w) (z_eR.of (fun k hk => by dsimp only; rw [e2 k (by omega), b2 k (by omega)]))⟩
    · have etr : ¬ z_tr P (nI x) (nI y) = 0 := by
        unfold z_tr
        rw [if_pos hth, z_c9 hx, z_is_nI hy, if_neg]
        · decide
        · rintro (c | c)
          · exact hxy (Or.inl ((nI_eq (by omega) (by omega)).mp c))
          · exact hxy (Or.inr c)
      have ein : (decide (x = y) || (z_ab P x).testBit y) = false := by
        rw [Bool.or_eq_false_iff]
        exact ⟨decide_eq_false (fun c => hxy (Or.inl c)), by cases c : (z_ab P x).testBit y; rfl; exact absurd (Or.inr c) hxy⟩
      exact ⟨-2147483648, by rw [if_neg etr]; exact hlow, by rw [ein, if_pos z_bf0]; exact hlow2⟩
  · have etr : ¬ z_tr P a1 a2 = 0 := by
      unfold z_tr
      rw [if_neg hth]
      decide
    have hf : (z_is (z_th P) a1 && z_is (z_th P) a2) = false := by simpa using hth
    exact ⟨-2147483648, by rw [if_neg etr]; exact hlow, by rw [hf, if_pos z_bf0]; exact hlow2⟩
end
