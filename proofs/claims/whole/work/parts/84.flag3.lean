section
variable {u w : z_M} {P : z_P} {I : Nat} {h : Nat → Nat}
/-! flagOf, as the reference does it -/
def z_gI' (w : z_M) (P : z_P) (I : Nat) (h : Nat → Nat) (s k : Nat) (v : z_M) : Prop := (∀ j, j ≠ 13 → v.1 j = w.1 j) ∧ ∀ x, x < 9 → I.testBit x = true → s.testBit (h x) = true → h x < k → v.1 13 x = z_fg P I h s (v.1 13) x
theorem s10_flag_sum (hr : z_rr (w.1 1) P) (hIt : ∀ x, x < 9 → I.testBit x = true → (z_th P).testBit x = true) (hI : I < 512) (hh : ∀ x, x < 9 → I.testBit x = true → w.1 7 x = nI (h x) ∧ h x < 9) {l x : Nat} (hl : l < 9) (hx : x < 9) {c1 c2 c3 : Int32} {kx : Int32 → Option (Int32 × z_M)} {Q : (Int32 × z_M) → Prop} (hk : z_ok (kx (z_su (fun y => if (decide (l ≠ 0) && I.testBit y && (h y == l) && (z_rv (w.1 1) y).testBit x) = true then w.1 13 y else 0) 9)) Q) : z_ok (z_lp (b_X10_flagOf_86 c1 (nI I) c2 (nI l) c3 (nI x) w) z_F (0, 0) kx) Q := by
  refine z_ok_l9 (fun j q => q = (z_su (fun y => if (decide (l ≠ 0) && I.testBit y && (h y == l) && (z_rv (w.1 1) y).testBit x) = true then w.1 13 y else 0) j, nI j)) rfl ?_ ?_
  · rintro j q hi rfl kb hkb
    have el : (nI l ≤ 0) = (l = 0) := by
      rw [show (0 : Int32) = nI 0 from rfl, z_leI (by omega) (by decide)]
      exact propext Nat.le_zero
    unfold b_X10_flagOf_86
    simp only [z_le9 hi, z_le9n hi, z_in9 hi, z_c9 hi, z_sh hi, z_is_nI hi, if_false, if_true, Option.bind_some, z_ok_gd, z_ok_lt, z_ok_some, z_ok_ite, z_ok_bind, z_ok_b2, z_bi_0, Bool.not_eq_false, z_gI, z_and, z_or, z_andc, z_1, true_and, and_true, el, s_has (z_31 hI) hi, z_add0, s10_isBelow hr hi hx]
    refine ⟨fun c => hkb _ ?_, fun c => ⟨fun d => hkb _ ?_, fun d => ?_⟩⟩
    · rw [z_su]; simp [c, z_add0]
    · rw [z_su]; simp [d, z_add0]
    · obtain ⟨g1, g2⟩ := hh j hi d
      rw [g1, z_eqI (show h j < 2 ^ 31 by omega) (show l < 2 ^ 31 by omega)]
      refine ⟨fun e => ⟨fun f => hkb _ ?_, fun f => hkb _ ?_⟩, fun e => hkb _ ?_⟩
      · rw [z_su]; simp [f, z_add0]
      · rw [z_su]; simp [c, d, e, f]
      · rw [z_su]; simp [e, z_add0]
  · rintro q rfl kb
    unfold b_X10_flagOf_86
    simp only [z_99, if_true]
    exact hk
theorem s10_flag_in (hr : z_rr (w.1 1) P) (hw : z_wf P) (hIt : ∀ x, x < 9 → I.testBit x = true → (z_th P).testBit x = true) (hI : I < 512) (hh : ∀ x, x < 9 → I.testBit x = true → w.1 7 x = nI (h x) ∧ h x < 9) {s k : Nat} (hk : k < 9) (hsk : s.testBit k = true) {v : z_M} (hv : z_gI' w P I h s k v) {c1 c2 : Int32} {kx : z_M → Option (Int32 × z_M)} {Q : (Int32 × z_M) → Prop} (hq : ∀ v', z_gI' w P I h s (k + 1) v' → z_ok (kx v') Q) : z_ok (z_lp (b_X10_flagOf_73 c1 (nI I) c2 (nI (z_pv s k)) (nI k)) z_F (0, v) kx) Q := by
  have hpk : z_pv s k < 9 := by
    by_cases c : z_pv s k = 0
    · omega
    · have := (z_pv_ok _ c).1; omega
  have hgx : ∀ V, ∀ x, x < 9 → (∀ y, y < 9 → h y ≠ k → V y = v.1 13 y) → h x ≤ k → z_fg P I h s V x = z_fg P I h s (v.1 13) x := fun V x hx hV hxk => z_fg_cg (fun y hy hI hu he hne => by
    have := (z_pv_ok _ hne).1
    exact hV y hy (by omega))
  refine z_ok_l9 (fun j q => q.1 = nI j ∧ (∀ i, i ≠ 13 → q.2.1 i = w.1 i) ∧ ∀ x, x < 9 → q.2.1 13 x = if x < j ∧ I.testBit x = true ∧ h x = k then z_fg P I h s (v.1 13) x else v.1 13 x) ⟨rfl, hv.1, fun x _ => by simp⟩ ?_ ?_
  · rintro j ⟨jj, v1⟩ hi ⟨e1, e2, e3⟩ kb hkb
    dsimp only at e1 e2 e3
    subst e1
    have hr1 : z_rr (v1.1 1) P := by rw [e2 1 (by decide)]; exact hr
    have hh1 : ∀ x, x < 9 → I.testBit x = true → v1.1 7 x = nI (h x) ∧ h x < 9 := fun x hx hIx => by rw [e2 7 (by decide)]; exact hh x hx hIx
    have hset : ∀ c : Int32, (I.testBit j = true → h j = k → c = z_fg P I h s (v.1 13) j) → (¬ (I.testBit j = true ∧ h j = k) → c = v1.1 13 j) → z_ok (kb (nI (j + 1), z_sI v1 13 j c)) Q := by
      intro c hc hc2
      refine hkb _ ⟨rfl, fun i hi => ?_, fun x hx => ?_⟩
      · try dsimp only
        rw [z_sI_ne hi]; exact e2 i hi
      · simp only [z_sI_1, true_and]
        by_cases e : j = x
        · subst e
          rw [if_pos rfl]
          by_cases d : I.testBit j = true ∧ h j = k
          · rw [if_pos ⟨by omega, d⟩, hc d.1 d.2]
          · rw [if_neg (fun c => d c.2), hc2 d, e3 j hi, if_neg (fun c => d c.2)]
        · rw [if_neg e, e3 x hx]
          have : (x < j + 1 ∧ I.testBit x = true ∧ h x = k) = (x < j ∧ I.testBit x = true ∧ h x = k) := propext ⟨fun c => ⟨by omega, c.2⟩, fun c => ⟨by omega, c.2⟩⟩
          simp only [this]
    have hno : ¬ (I.testBit j = true ∧ h j = k) → ∀ n, z_ok (j_X10_flagOf_j180 c1 (nI I) c2 (nI (z_pv s k)) (nI k) (nI j) n 0 v1 kb kx) Q := by
      intro d n
      unfold j_X10_flagOf_j180
      rw [if_pos rfl, z_ok_gd, z_ok_gd, z_ok_lt, z_gI, z_c9 hi, z_1]
      exact ⟨z_in9 hi, z_in9 hi, hset _ (fun d1 d2 => absurd ⟨d1, d2⟩ d) (fun _ => rfl)⟩
    unfold b_X10_flagOf_73 j_X10_flagOf_j179
    dsimp only
    rw [if_neg (show ¬ (9 : Int32) ≤ nI j by rw [z_le9 hi]; exact id)]
    refine s10_flag_sum hr1 hIt hI hh1 hpk hi ?_
    rw [s_has (z_31 hI) hi, Option.bind_some, z_ok_bit]
    refine ⟨fun c => hno (fun d => by rw [c] at d; cases d.1) _, fun c => ?_⟩
    obtain ⟨g1, g2⟩ := hh1 j hi c
    rw [z_ok_gd, z_gI, z_c9 hi, g1, z_ok_ite, z_eqI (show h j < 2 ^ 31 by omega) (show k < 2 ^ 31 by omega)]
    refine ⟨z_in9 hi, fun e => ?_, fun e => hno (fun d => e d.2) _⟩
    unfold j_X10_flagOf_j180
    rw [if_neg (show ¬ (1 : Int32) = 0 by decide), z_ok_ite, z_ok_gd, z_ok_gd, z_ok_lt, z_ok_lt, z_c9 hi, z_1, show (nI (z_pv s k) = 0) = (z_pv s k = 0) from propext (z_nI0 (by omega))]
    refine ⟨fun f => ⟨z_in9 hi, hset _ (fun _ _ => ?_) (fun d => absurd ⟨c, e⟩ d)⟩, fun f => ⟨z_in9 hi, hset _ (fun _ _ => ?_) (fun d => absurd ⟨c, e⟩ d)⟩⟩
    · unfold z_fg
      rw [e, if_pos f]
    · unfold z_fg
      rw [e, if_neg f]
      refine z_su_cg (fun y hy => ?_)
      have tj := hIt j hi c
      have ec : (decide (z_pv s k ≠ 0) && I.testBit y && (h y == z_pv s k) && (z_rv (v1.1 1) y).testBit j) = (I.testBit y && (z_un P j).testBit y && (h y == z_pv s k)) := by
        rw [z_un_bit P hy]
        cases hIy : I.testBit y
        · simp
        · rw [z_rv_bit hr1 hy (hIt y hy hIy) tj]
          simp only [ne_eq, f, not_false_iff, decide_true, Bool.true_and]
          rw [Bool.and_comm]
      rw [ec]
      by_cases d : (I.testBit y && (z_un P j).testBit y && (h y == z_pv s k)) = true
      · rw [if_pos d, if_pos d, e3 y hy, if_neg]
        rw [Bool.and_eq_true, Bool.and_eq_true, beq_iff_eq] at d
        have := (z_pv_ok _ f).1
        rintro ⟨-, -, d3⟩
        omega
      · rw [if_neg d, if_neg d]
  · rintro ⟨jj, v1⟩ ⟨e1, e2, e3⟩ kb
    dsimp only at e1 e2 e3
    subst e1
    have hV : ∀ y, y < 9 → h y ≠ k → v1.1 13 y = v.1 13 y := fun y hy hne => by rw [e3 y hy, if_neg (fun c => hne c.2.2)]
    unfold b_X10_flagOf_73
    dsimp only
    rw [if_pos (show (9 : Int32) ≤ nI 9 by decide)]
    refine hq v1 ⟨e2, fun x hx hIx hsx hxk => ?_⟩
    rw [hgx _ x hx hV (by omega), e3 x hx]
    by_cases e : h x = k
    · rw [if_pos ⟨hx, hIx, e⟩]
    · rw [if_neg (fun c => e c.2.2)]
      exact hv.2 x hx hIx hsx (by omega)
theorem s10_flagOf (hr : z_rr (w.1 1) P) (hw : z_wf P) {a b : Nat} (ha : a < 9) (hb : b < 9) (ta : (z_th P).testBit a = true) (tb : (z_th P).testBit b = true) {s : Nat} (hs : s < 512) (hh : ∀ x, x < 9 → (z_inr P a b).testBit x = true → w.1 7 x = nI (h x) ∧ h x < 9 ∧ 0 < h x) : z_ok (f_X10_flagOf (nI a) (nI b) (nI s) w) (fun q => q.1 = z_fgv P (z_inr P a b) h s ∧ ∀ j, j ≠ 13 → q.2.1 j = w.1 j) := by
  have hI := z_inr_lt hw ha (b := b)
  have hIt : ∀ x, x < 9 → (z_inr P a b).testBit x = true → (z_th P).testBit x = true := fun x hx hb2 => by
    rw [z_inr_bit hx, Bool.and_eq_true] at hb2
    exact (hw.in a x ha hx hb2.1).2
  unfold f_X10_flagOf
  rw [s10_between hr hw ha hb ta tb, Option.bind_some, z_ok_lt, z_sh ha, z_sh hb, z_or, z_andc, z_inr_eq hw ha hb]
  refine z_ok_l9 (fun j q => q.1 = nI j ∧ ∀ i, i ≠ 13 → q.2.1 i = w.1 i) ⟨rfl, fun _ _ => rfl⟩ ?_ ?_
  · rintro j ⟨jj, v⟩ hi ⟨e1, e2⟩ kb hk
    dsimp only at e1 e2
    subst e1
    unfold b_X10_flagOf_24
    simp only [z_le9 hi, if_false, z_ok_gd, z_in9 hi, true_and, z_ok_lt, z_1]
    refine hk _ ⟨rfl, fun i hi => ?_⟩
    try dsimp only
    rw [z_sI_ne hi]; exact e2 i hi
  · rintro ⟨jj, v⟩ ⟨e1, e2⟩ kb
    dsimp only at e1 e2
    subst e1
    unfold b_X10_flagOf_24
    dsimp only
    rw [if_pos (show (9 : Int32) ≤ nI 9 by decide)]
    refine z_ok_lp (fun j q => q.2.1 = nI (j + 1) ∧ z_gI' w P (z_inr P a b) h s (j + 1) q.2.2 ∧ q.1 = nI (z_pv s (j + 1))) 8 (by decide) ⟨rfl, ⟨e2, fun x hx hIx _ c => absurd c (by have := (hh x hx hIx).2.2; omega)⟩, rfl⟩ ?_ ?_
    · rintro j ⟨l, kk, v1⟩ hj ⟨f1, f2, f3⟩ kb1 hk1
      dsimp only at f1 f2 f3
      subst f1 f3
      have hj1 : j + 1 < 9 := by omega
      unfold b_X10_flagOf_51
      dsimp only
      rw [if_neg (show ¬ (9 : Int32) ≤ nI (j + 1) by rw [z_le9 hj1]; exact id), s_has (z_31 hs) hj1, Option.bind_some, z_ok_bit, z_1]
      refine ⟨fun c => ?_, fun c => ?_⟩
      · have hpv : z_pv s (j + 1 + 1) = z_pv s (j + 1) := by
          rw [z_pv_s]
          exact if_neg (fun d => by rw [c] at d; cases d.2)
        refine hk1 _ ⟨rfl, ⟨f2.1, fun x hx hIx hsx hxk => f2.2 x hx hIx hsx ?_⟩, ?_⟩
        · have : h x ≠ j + 1 := by intro e; rw [e, c] at hsx; cases hsx
          omega
        · try dsimp only
          rw [hpv]
      · have hpv : z_pv s (j + 1 + 1) = j + 1 := by rw [z_pv_s, if_pos ⟨by omega, c⟩]
        refine s10_flag_in hr hw hIt hI (fun x hx hIx => ⟨(hh x hx hIx).1, (hh x hx hIx).2.1⟩) hj1 c f2 (fun v' hv' => ?_)
        refine hk1 _ ⟨rfl, hv', ?_⟩
        try dsimp only
        rw [hpv]
    · rintro ⟨l, kk, v1⟩ ⟨f1, f2, f3⟩ kb1
      dsimp only at f1 f2 f3
      subst f1 f3
      have hpk : z_pv s 9 < 9 := by
        by_cases c : z_pv s 9 = 0
        · omega
        · exact (z_pv_ok _ c).1
      have el : (nI (z_pv s (8 + 1)) ≤ 0) = (z_pv s 9 = 0) := by
        rw [show (0 : Int32) = nI 0 from rfl, z_leI (show z_pv s 9 < 2 ^ 31 by omega) (by decide)]
        exact propext Nat.le_zero
      unfold b_X10_flagOf_51
      dsimp only
      rw [if_pos (show (9 : Int32) ≤ nI (8 + 1) by decide)]
      refine z_ok_l9 (fun j q => q = (z_su (fun x => if (decide (z_pv s 9 ≠ 0) && (z_inr P a b).testBit x && (h x == z_pv s 9)) = true then v1.1 13 x else 0) j, nI j)) rfl ?_ ?_
      · rintro j q hi rfl kb2 hk2
        unfold b_X10_flagOf_234
        simp only [z_le9 hi, z_le9n hi, z_in9 hi, z_c9 hi, z_sh hi, z_is_nI hi, if_false, if_true, Option.bind_some, z_ok_gd, z_ok_lt, z_ok_some, z_ok_ite, z_ok_bind, z_ok_b2, z_bi_0, Bool.not_eq_false, z_gI, z_and, z_or, z_andc, z_1, true_and, and_true, el, s_has (z_31 hI) hi, z_add0]
        refine ⟨fun c => hk2 _ ?_, fun c => ⟨fun d => hk2 _ ?_, fun d => ?_⟩⟩
        · rw [z_su]; simp [c, z_add0]
        · rw [z_su]; simp [d, z_add0]
        · obtain ⟨g1, g2, -⟩ := hh j hi d
          rw [f2.1 7 (by decide), g1, z_eqI (show h j < 2 ^ 31 by omega) (show z_pv s 9 < 2 ^ 31 by omega)]
          refine ⟨fun e => hk2 _ ?_, fun e => hk2 _ ?_⟩
          · rw [z_su]; simp [c, d, e]
          · rw [z_su]; simp [e, z_add0]
      · rintro q rfl kb2
        unfold b_X10_flagOf_234
        dsimp only
        rw [if_pos (show (9 : Int32) ≤ nI 9 by decide), z_ok_ite, z_ok_some, z_ok_some, show (nI (z_pv s (8 + 1)) = 0) = (z_pv s 9 = 0) from propext (z_nI0 (show z_pv s 9 < 2 ^ 31 by omega))]
        unfold z_fgv
        refine ⟨fun c => ⟨by rw [if_pos c], f2.1⟩, fun c => ⟨?_, f2.1⟩⟩
        rw [if_neg c]
        refine z_su_cg (fun x hx => ?_)
        have ec : (decide (z_pv s 9 ≠ 0) && (z_inr P a b).testBit x && (h x == z_pv s 9)) = ((z_inr P a b).testBit x && (h x == z_pv s 9)) := by simp [c]
        rw [ec]
        by_cases d : ((z_inr P a b).testBit x && (h x == z_pv s 9)) = true
        · rw [if_pos d, if_pos d]
          rw [Bool.and_eq_true, beq_iff_eq] at d
          exact z_fl_uq hw (V := v1.1 13) (fun x hx hIx hsx => f2.2 x hx hIx hsx (hh x hx hIx).2.1) hx d.1 (by rw [d.2]; exact (z_pv_ok _ c).2)
        · rw [if_neg d, if_neg d]
/-! beta, the class's -/
theorem s8_betaOf (hr : z_rc u 0 P) (hw : z_wf P) {s : Nat} (hI : I < 512) (hs : s < 512) (hs0 : s.testBit 0 = false) (hIt : ∀ x, x < 9 → I.testBit x = true → (z_th P).testBit x = true) (hh : ∀ x, x < 9 → I.testBit x = true → u.1 127 x = nI (h x) ∧ h x < 9 ∧ 0 < h x) (hm : ∀ x y, x < 9 → y < 9 → I.testBit x = true → I.testBit y = true → (z_un P x).testBit y = true → h y < h x) : z_ok (f_X8_betaOf 0 (nI I) (nI s) u) (fun q => q.1 = z_ep s * z_su (fun p => if z_sb p s then z_ep p * z_fgv P I h p else 0) (2 ^ 9) ∧ ∀ j, j ≠ 126 → j ≠ 128 → q.2.1 j = u.1 j) := by
  have hm9 := z_pc_le (z_th P)
  rw [z_beta_eq hw hs0 (fun x hx hIx => (hh x hx hIx).2)]
  obtain ⟨O, hO⟩ : ∃ O, O = z_mk (fun x => I.testBit x && s.testBit (h x)) 9 := ⟨_, rfl⟩
  have hO9 : O < 512 := by rw [hO]; exact z_mk_lt _ 9
  have hOb : ∀ x, x < 9 → O.testBit x = (I.testBit x && s.testBit (h x)) := fun x hx => by rw [hO, z_mk_bit]; simp [hx]
  unfold f_X8_betaOf
  rw [s8_atHeights hI hs (fun x hx hIx => ⟨(hh x hx hIx).1, (hh x hx hIx).2.1⟩), ← hO, Option.bind_some]
  obtain ⟨⟨n, v0⟩, q1, q2, q3, q4⟩ := s6_leastRow hr hw
  dsimp only at q2 q3 q4
  subst q2
  rw [q1, z_ok_b2, z_ok_some]
  refine z_ok_lp (fun j q => q.1 = nI j ∧ (∀ k, k ≠ 126 → k ≠ 128 → q.2.1 k = u.1 k) ∧ (∀ i, i < z_pc (z_th P) → q.2.1 126 i = nI (z_rw P i)) ∧ ∀ i, i < j → O.testBit (z_rw P i) = true → q.2.1 128 (z_rw P i) = z_bA P I h s (z_rw P i)) (z_pc (z_th P)) (z_F_lt (by omega)) ⟨rfl, fun k k1 _ => q3 k k1, q4, fun i hi => absurd hi (by omega)⟩ ?_ ?_
  · rintro j ⟨jj, v⟩ hj ⟨e1, e2, e3, e4⟩ kb hk
    dsimp only at e1 e2 e3 e4
    subst e1
    obtain ⟨r1, -, -, -, -⟩ := z_rw_ok hw hj
    have hlj : ¬ nI (z_pc (z_th P)) ≤ nI j := nI_ge hj (by omega)
    have h2 : v.1 (0 + 2) (z_rw P j) = nI (z_un P (z_rw P j)) := by
      rw [e2 _ (by decide) (by decide)]
      exact hr.2.2.2.2.1 _ r1
    have h2' : v.1 2 (z_rw P j) = nI (z_un P (z_rw P j)) := h2
    unfold b_X8_betaOf_21
    simp only [hlj, if_false, z_ok_gd, z_in9 (show j < 9 by omega), true_and, z_ok_lt, z_gI, z_c9 (show j < 9 by omega), e3 j hj, s_isIn hO9, z_is_nI r1, Option.bind_some, z_bi_0, Bool.not_eq_false, z_1, z_in9 r1, z_c9 r1, h2, h2', z_and, s8_valuesIn (z_and_lt O (z_un_lt P (z_rw P j))), z_ok_ite]
    refine ⟨fun c => hk _ ⟨rfl, e2, e3, fun i hi hWi => ?_⟩, fun c => hk _ ⟨rfl, fun k k1 k2 => ?_, fun i hi => ?_, fun i hi hWi => ?_⟩⟩
    · by_cases hij : i = j
      · rw [hij, c] at hWi; cases hWi
      · exact e4 i (by omega) hWi
    · try dsimp only
      rw [z_sI_ne k2]; exact e2 k k1 k2
    · try dsimp only
      rw [z_sI_ne (by decide)]; exact e3 i hi
    · try dsimp only
      by_cases hij : i = j
      · subst hij
        have hIx : I.testBit (z_rw P i) = true := by rw [hOb _ r1, Bool.and_eq_true] at c; exact c.1
        rw [z_sI_1, if_pos ⟨rfl, rfl⟩, z_bA_fix hw hs0 (fun x hx hIx => (hh x hx hIx).2) hm r1 hIx]
        refine congrArg (fun t : Int32 => -1 - t) (z_su_cg (fun y hy => ?_))
        rw [Nat.testBit_and, hOb y hy, Bool.and_comm]
        by_cases d : (I.testBit y && s.testBit (h y) && (z_un P (z_rw P i)).testBit y) = true
        · rw [if_pos d, if_pos d]
          rw [Bool.and_eq_true] at d
          obtain ⟨i', hi', rfl⟩ := z_rw_bef hw hj hy d.2
          exact e4 i' hi' (by rw [hOb _ hy]; exact d.1)
        · rw [if_neg d, if_neg d]
      · have hne := z_rw_ne hw (show i < j by omega) hj
        rw [z_sI_1, if_neg (fun d => hne d.2.symm)]
        exact e4 i (by omega) hWi
  · rintro ⟨jj, v⟩ ⟨e1, e2, e3, e4⟩ kb
    dsimp only at e1 e2 e3 e4
    subst e1
    have hV : z_su (fun y => if O.testBit y then v.1 128 y else 0) 9 = z_su (fun x => if I.testBit x && s.testBit (h x) then z_bA P I h s x else 0) 9 := z_su_cg (fun x hx => by
      rw [hOb x hx]
      by_cases d : (I.testBit x && s.testBit (h x)) = true
      · rw [if_pos d, if_pos d]
        have d' := d
        rw [Bool.and_eq_true] at d'
        obtain ⟨i, hi, rfl⟩ := z_rw_on hw (hIt x hx d'.1)
        exact e4 i hi (by rw [hOb _ hx]; exact d)
      · rw [if_neg d, if_neg d])
    have hbit : (nI (z_pc s) &&& 1 = 0) = (z_pc s % 2 = 0) := by
      have h9 := z_pc_le s
      have := (by decide +kernel : ∀ k, k < 10 → decide (nI k &&& 1 = 0) = decide (k % 2 = 0)) (z_pc s) (by omega)
      apply propext
      rw [← decide_eq_true_iff (p := nI (z_pc s) &&& 1 = 0), this, decide_eq_true_iff]
    unfold b_X8_betaOf_21
    dsimp only
    rw [if_pos (nI_le (Nat.le_refl _) (by omega)), s8_valuesIn hO9, Option.bind_some, z_ok_lt, hV, s_bitc hs, z_ok_ite, hbit, z_ok_some, z_ok_some]
    unfold z_ep
    refine ⟨fun c => ⟨?_, e2⟩, fun c => ⟨?_, e2⟩⟩
    · rw [if_pos c]; grind
    · rw [if_neg c]; grind
end
