section
variable {u w : z_M} {P : z_P}
/-! Moebius numbers. -/
theorem z_bf0 : z_bi false = 0 := rfl
theorem z_bt0 : ¬ z_bi true = 0 := by decide
theorem z_subs (c s f : Int32) : c - s - f = c - (s + f) := by grind
theorem z_zsub (s : Int32) : 0 - s = -s := by grind
theorem z_add0 (s : Int32) : s + 0 = s := by grind
theorem z_sub0 (s : Int32) : s - 0 = s := by grind
def z_mg (P : z_P) (W a : Nat) (V : Nat → Int32) (x : Nat) : Int32 := if x = a then 1 else -z_su (fun y => if (z_un P x &&& W).testBit y then V y else 0) 9
theorem z_mg_cg {W a : Nat} {V V' : Nat → Int32} {x : Nat} (h : ∀ y, y < 9 → (z_un P x).testBit y = true → W.testBit y = true → V y = V' y) : z_mg P W a V x = z_mg P W a V' x := by
  unfold z_mg
  split
  · rfl
  · refine congrArg (fun s : Int32 => -s) (z_su_cg (fun y hy => ?_))
    rw [Nat.testBit_and]
    cases h1 : (z_un P x).testBit y
    · simp
    · cases h2 : W.testBit y
      · simp
      · simp [h y hy h1 h2]
def z_mvn (P : z_P) (W a : Nat) : Nat → Nat → Int32
  | 0, _ => 0
  | n + 1, x => z_mg P W a (z_mvn P W a n) x
def z_mo (P : z_P) (W a x : Nat) : Int32 := z_mvn P W a 9 x
theorem z_mo_uq (hw : z_wf P) {W a : Nat} {V : Nat → Int32} (hV : ∀ x, x < 9 → W.testBit x = true → V x = z_mg P W a V x) {x : Nat} (hx : x < 9) (hWx : W.testBit x = true) : V x = z_mo P W a x := by
  have key : ∀ n x, x < 9 → W.testBit x = true → z_pc (z_un P x) < n → V x = z_mvn P W a n x := by
    intro n
    induction n with
    | zero => intro x _ _ h; omega
    | succ n ih =>
      intro x hx hWx hp
      rw [hV x hx hWx, z_mvn]
      refine z_mg_cg (fun y hy hu hWy => ?_)
      rw [z_un_bit P hy] at hu
      have := z_un_st hw hy hx hu
      exact ih y hy hWy (by omega)
  have := z_un_8 hw hx
  exact key 9 x hx hWx (by omega)
theorem s8_valuesIn {s : Nat} (hs : s < 512) : f_X8_valuesIn (nI s) u = some (z_su (fun y => if s.testBit y then u.1 128 y else 0) 9) := by
  rw [← z_ok_eq]
  unfold f_X8_valuesIn
  refine z_ok_l9 (fun j q => q = (z_su (fun y => if s.testBit y then u.1 128 y else 0) j, nI j)) rfl ?_ ?_
  · rintro j q hi rfl kb hk
    unfold b_X8_valuesIn_4
    simp only [z_le9 hi, z_le9n hi, z_in9 hi, z_c9 hi, z_sh hi, z_is_nI hi, if_false, if_true, Option.bind_some, z_ok_gd, z_ok_lt, z_ok_some, z_ok_ite, z_ok_bind, z_ok_b2, z_bi_0, Bool.not_eq_false, z_gI, z_and, z_or, z_andc, z_1, true_and, and_true, s_isIn hs]
    refine ⟨fun h => hk _ ?_, fun h => hk _ ?_⟩
    · rw [z_su]; simp [h, z_add0]
    · rw [z_su]; simp [h]
  · rintro q rfl kb
    unfold b_X8_valuesIn_4
    simp only [z_99, if_true, z_ok_some]
theorem s8_mobius (hr : z_rc u 0 P) (hw : z_wf P) {W : Nat} (hW : W < 512) {a b : Nat} (ha : a < 9) (hb : b < 9) (hWb : W.testBit b = true) (hWt : ∀ x, x < 9 → W.testBit x = true → (z_th P).testBit x = true) : z_ok (f_X8_mobius 0 (nI a) (nI b) (nI W) u) (fun q => q.1 = z_mo P W a b ∧ (∀ k, k ≠ 126 → k ≠ 128 → q.2.1 k = u.1 k) ∧ ∀ x, x < 9 → W.testBit x = true → q.2.1 128 x = z_mo P W a x) := by
  have hm9 := z_pc_le (z_th P)
  obtain ⟨⟨n, v0⟩, q1, q2, q3, q4⟩ := s6_leastRow hr hw
  try dsimp only at q2 q3 q4
  subst q2
  unfold f_X8_mobius
  rw [q1, z_ok_b2, z_ok_some]
  refine z_ok_lp (fun j q => q.1 = nI j ∧ (∀ k, k ≠ 126 → k ≠ 128 → q.2.1 k = u.1 k) ∧ (∀ i, i < z_pc (z_th P) → q.2.1 126 i = nI (z_rw P i)) ∧ ∀ i, i < j → W.testBit (z_rw P i) = true → q.2.1 128 (z_rw P i) = z_mg P W a (q.2.1 128) (z_rw P i)) (z_pc (z_th P)) (z_F_lt (by omega)) ⟨rfl, fun k k1 _ => q3 k k1, q4, fun i hi => absurd hi (by omega)⟩ ?_ ?_
  · rintro j ⟨jj, v⟩ hj ⟨e1, e2, e3, e4⟩ kb hk
    try dsimp only at e1 e2 e3 e4
    subst e1
    obtain ⟨r1, -, -, -, -⟩ := z_rw_ok hw hj
    have hlj : ¬ nI (z_pc (z_th P)) ≤ nI j := nI_ge hj (by omega)
    have hst : ∀ c : Int32, c = z_mg P W a (v.1 128) (z_rw P j) → z_ok (kb (nI (j + 1), z_sI v 128 (z_rw P j) c)) (fun q => q.1 = z_mo P W a b ∧ (∀ k, k ≠ 126 → k ≠ 128 → q.2.1 k = u.1 k) ∧ ∀ x, x < 9 → W.testBit x = true → q.2.1 128 x = z_mo P W a x) := by
      intro c hc
      have hcg : ∀ i', i' ≤ j → z_mg P W a ((z_sI v 128 (z_rw P j) c).1 128) (z_rw P i') = z_mg P W a (v.1 128) (z_rw P i') := fun i' hi' => z_mg_cg (fun y hy hb _ => by
        rw [z_sI_1, if_neg]
        rintro ⟨-, e⟩
        rw [← e, z_rw_nu hw hi' hj] at hb
        cases hb)
      refine hk _ ⟨rfl, fun k k1 k2 => ?_, fun i hi => ?_, fun i hi hWi => ?_⟩
      · try dsimp only
        rw [z_sI_ne k2]; exact e2 k k1 k2
      · try dsimp only
        rw [z_sI_ne (by decide)]; exact e3 i hi
      · try dsimp only
        by_cases hij : i = j
        · subst hij
          rw [hcg i (Nat.le_refl _), ← hc]
          simp [z_sI_1]
        · have hne := z_rw_ne hw (show i < j by omega) hj
          rw [hcg i (by omega), z_sI_1, if_neg (fun h => hne h.2.symm)]
          exact e4 i (by omega) hWi
    have h2 : v.1 (0 + 2) (z_rw P j) = nI (z_un P (z_rw P j)) := by
      rw [e2 _ (by decide) (by decide)]
      exact hr.2.2.2.2.1 _ r1
    have h2' : v.1 2 (z_rw P j) = nI (z_un P (z_rw P j)) := h2
    have ea : (nI (z_rw P j) = nI a) = (z_rw P j = a) := z_eqI (by omega) (by omega)
    unfold b_X8_mobius_13
    simp only [hlj, if_false, z_ok_gd, z_in9 (show j < 9 by omega), true_and, z_ok_lt, z_gI, z_c9 (show j < 9 by omega), e3 j hj, s_isIn hW, z_is_nI r1, Option.bind_some, z_bi_0, Bool.not_eq_false, z_1, z_in9 r1, z_c9 r1, ea, h2, h2', z_and, s8_valuesIn (z_and_lt W (z_un_lt P (z_rw P j))), z_ok_ite]
    refine ⟨fun h => hk _ ⟨rfl, e2, e3, fun i hi hWi => ?_⟩, fun h => ⟨fun e => hst _ ?_, fun e => hst _ ?_⟩⟩
    · by_cases hij : i = j
      · rw [hij, h] at hWi; cases hWi
      · exact e4 i (by omega) hWi
    · rw [z_mg, if_pos e]
    · rw [z_mg, if_neg e]
  · rintro ⟨jj, v⟩ ⟨e1, e2, e3, e4⟩ kb
    try dsimp only at e1 e2 e3 e4
    subst e1
    have hV : ∀ x, x < 9 → W.testBit x = true → v.1 128 x = z_mo P W a x := fun x hx hWx => z_mo_uq hw (V := v.1 128) (fun x hx hWx => by
      obtain ⟨i, hi, rfl⟩ := z_rw_on hw (hWt x hx hWx)
      exact e4 i hi hWx) hx hWx
    unfold b_X8_mobius_13
    simp only [nI_le (Nat.le_refl (z_pc (z_th P))) (show z_pc (z_th P) < 2 ^ 31 by omega), if_true, s_isIn hW, z_is_nI hb, hWb, Option.bind_some, show (z_bi true = 0) = False by decide, if_false, z_ok_gd, z_in9 hb, true_and, z_ok_some, z_gI, z_c9 hb]
    exact ⟨hV b hb hWb, e2, hV⟩
/-! the reference's -/
theorem s10_moSum {c : Int32} {s : Nat} (hs : s < 512) {a1 a2 a3 a4 a5 : Int32} {kx : Int32 → Option z_M} {Q : z_M → Prop} (h : z_ok (kx (c - z_su (fun y => if s.testBit y then u.1 14 y else 0) 9)) Q) : z_ok (z_lp (b_X10_layMoebius_88 a1 a2 a3 a4 a5 (nI s) u) z_F (c, 0) kx) Q := by
  refine z_ok_l9 (fun j q => q = (c - z_su (fun y => if s.testBit y then u.1 14 y else 0) j, nI j)) (by rw [z_su, z_sub0]; rfl) ?_ ?_
  · rintro j q hi rfl kb hk
    unfold b_X10_layMoebius_88
    simp only [z_le9 hi, z_le9n hi, z_in9 hi, z_c9 hi, z_sh hi, z_is_nI hi, if_false, if_true, Option.bind_some, z_ok_gd, z_ok_lt, z_ok_some, z_ok_ite, z_ok_bind, z_ok_b2, z_bi_0, Bool.not_eq_false, z_gI, z_and, z_or, z_andc, z_1, true_and, and_true, s_has (z_31 hs) hi, z_sub0]
    refine ⟨fun h => hk _ ?_, fun h => hk _ ?_⟩
    · rw [z_su]; simp [h, z_add0]
    · rw [z_su, ← z_subs]; simp [h]
  · rintro q rfl kb
    unfold b_X10_layMoebius_88
    simp only [z_99, if_true]
    exact h
def z_mK (w : z_M) (P : z_P) (W a D : Nat) (v : z_M) : Prop := D < 512 ∧ (∀ x, x < 9 → D.testBit x = true → W.testBit x = true) ∧ (∀ k, k ≠ 14 → v.1 k = w.1 k) ∧ ∀ x, x < 9 → D.testBit x = true → (∀ y, y < 9 → (W &&& z_un P x).testBit y = true → D.testBit y = true) ∧ v.1 14 x = z_mg P W a (v.1 14) x
theorem s10_mstep (hr : z_rr (w.1 1) P) (hw : z_wf P) {W a : Nat} (ha : a < 9) (hW : W < 512) (hWt : ∀ x, x < 9 → W.testBit x = true → (z_th P).testBit x = true) (hWa : ∀ y, y < 9 → W.testBit y = true → (z_ab P y).testBit a = false) {D x : Nat} {v : z_M} (hx : x < 9) (hK : z_mK w P W a D v) {c : Int32} {kb : (Int32 × Int32 × z_M) → Option z_M} {kx : (Int32 × z_M) → Option z_M} {Q : z_M → Prop} (hk : ∀ D' v', z_mK w P W a D' v' → (∀ y, y < 9 → D.testBit y = true → D'.testBit y = true) → (W.testBit x = true → (∀ y, y < 9 → (W &&& z_un P x).testBit y = true → D.testBit y = true) → D'.testBit x = true) → z_ok (kb (nI D', nI (x + 1), v')) Q) : z_ok (b_X10_layMoebius_26 (nI a) (nI W) c (nI D, nI x, v) kb kx) Q := by
  obtain ⟨k1, k2, k3, k4⟩ := hK
  have hr1 : z_rr (v.1 1) P := by rw [k3 1 (by decide)]; exact hr
  have hKs : z_mK w P W a D v := ⟨k1, k2, k3, k4⟩
  unfold b_X10_layMoebius_26
  simp only [z_le9 hx, if_false, s10_below hr1 hw hx, Option.bind_some, z_ok_lt, z_and, z_andc, s_has (z_31 (z_df_lt hW)) hx, z_ok_bit, z_1]
  refine ⟨fun h => hk _ _ hKs (fun _ _ h => h) (fun hWx _ => ?_), fun h => ?_⟩
  · rw [z_df_bit, hWx, Bool.true_and] at h
    simpa using h
  · rw [z_df_bit, Bool.and_eq_true] at h
    obtain ⟨hWx, hDx⟩ := h
    have hDx : D.testBit x = false := by simpa using hDx
    have tx := hWt x hx hWx
    have hbl := z_bl_T hr1 hw hx tx
    have hs : W &&& z_un P x < 512 := z_and_lt _ hW
    have ea : (nI x = nI a) = (x = a) := z_eqI (by omega) (by omega)
    simp only [hbl, z_df0 hs, ea, z_ok_ite]
    refine ⟨fun h0 => ?_, fun h0 => hk _ _ hKs (fun _ _ h => h) (fun _ hsub => ?_)⟩
    · have hsub : ∀ y, y < 9 → (W &&& z_un P x).testBit y = true → D.testBit y = true := fun y hy hb => by
        have : (z_df (W &&& z_un P x) D).testBit y = false := by rw [h0, Nat.zero_testBit]
        rw [z_df_bit, hb, Bool.true_and] at this
        simpa using this
      have hfin : ∀ c : Int32, c = z_mg P W a (v.1 14) x → z_ok (kb (nI (D ||| 2 ^ x), nI (x + 1), z_sI v 14 x c)) Q := by
        intro c hc
        have hcg : ∀ z, z < 9 → (∀ y, y < 9 → (W &&& z_un P z).testBit y = true → D.testBit y = true) → z_mg P W a ((z_sI v 14 x c).1 14) z = z_mg P W a (v.1 14) z := fun z hz hD => z_mg_cg (fun y hy hu hWy => by
          rw [z_sI_1, if_neg]
          rintro ⟨-, rfl⟩
          rw [hD x hx (by rw [Nat.testBit_and, hWy, hu]; rfl)] at hDx
          cases hDx)
        refine hk _ _ ⟨z_or_lt k1 (z_pw_lt hx), fun z hz hb => ?_, fun k hk => by rw [z_sI_ne hk]; exact k3 k hk, fun z hz hb => ?_⟩ (fun y hy hb => by rw [z_put_bit, hb]; rfl) (fun _ _ => by rw [z_put_bit]; simp)
        · rw [z_put_bit, Bool.or_eq_true, decide_eq_true_eq] at hb
          rcases hb with hb | rfl
          · exact k2 z hz hb
          · exact hWx
        · rw [z_put_bit, Bool.or_eq_true, decide_eq_true_eq] at hb
          by_cases e : z = x
          · subst e
            refine ⟨fun y hy hb => by rw [z_put_bit, hsub y hy hb]; rfl, ?_⟩
            rw [hcg z hx hsub, ← hc]
            simp [z_sI_1]
          · have hb : D.testBit z = true := hb.resolve_right e
            obtain ⟨g1, g2⟩ := k4 z hz hb
            refine ⟨fun y hy hb => by rw [z_put_bit, g1 y hy hb]; rfl, ?_⟩
            rw [hcg z hz g1, z_sI_1, if_neg (fun h => e h.2.symm)]
            exact g2
      have hsum : ∀ V : Nat → Int32, z_su (fun y => if (W &&& z_un P x).testBit y then V y else 0) 9 = z_su (fun y => if (z_un P x &&& W).testBit y then V y else 0) 9 := fun V => by rw [Nat.and_comm]
      refine ⟨fun e => s10_moSum hs ?_, fun e => s10_moSum hs ?_⟩
      · rw [z_ok_gd, z_ok_lt, z_ok_lt, z_sh hx, z_or, z_c9 hx]
        refine ⟨z_in9 hx, hfin _ ?_⟩
        rw [z_mg, if_pos e]
        have h0' : z_su (fun y => if (W &&& z_un P x).testBit y then v.1 14 y else 0) 9 = 0 := by
          have : z_su (fun y => if (W &&& z_un P x).testBit y then v.1 14 y else 0) 9 = z_su (fun _ => 0) 9 := z_su_cg (fun y hy => by
            rw [if_neg]
            rw [Nat.testBit_and, z_un_bit P hy, e]
            cases hWy : W.testBit y
            · simp
            · rw [hWa y hy hWy]; simp)
          rw [this]
          decide
        rw [h0', z_sub0]
      · rw [z_ok_gd, z_ok_lt, z_ok_lt, z_sh hx, z_or, z_c9 hx]
        refine ⟨z_in9 hx, hfin _ ?_⟩
        rw [z_mg, if_neg e, z_zsub, hsum]
    · refine absurd (z_ext (z_df_lt hs) (by decide) (fun y hy => ?_)) h0
      rw [z_df_bit, Nat.zero_testBit]
      cases hb : (W &&& z_un P x).testBit y
      · rfl
      · rw [hsub y hy hb]; rfl
theorem s10_layMoebius (hr : z_rr (w.1 1) P) (hw : z_wf P) {a b S : Nat} (ha : a < 9) (hb : b < 9) (ta : (z_th P).testBit a = true) (tb : (z_th P).testBit b = true) : z_ok (f_X10_layMoebius (nI a) (nI b) (nI S) w) (fun w' => (∀ k, k ≠ 14 → w'.1 k = w.1 k) ∧ ∀ x, x < 9 → (z_bt P a b &&& S).testBit x = true → w'.1 14 x = z_mo P (z_bt P a b &&& S) a x) := by
  have hbt : z_bt P a b < 512 := z_and_lt _ (z_up_lt hw ha)
  have hW : z_bt P a b &&& S < 512 := z_and_lt _ hbt
  have hup : ∀ x, x < 9 → (z_bt P a b &&& S).testBit x = true → (z_up P a).testBit x = true := fun x hx h => by
    rw [Nat.testBit_and, Bool.and_eq_true, z_bt, Nat.testBit_and, Bool.and_eq_true] at h
    exact h.1.1
  have hWt : ∀ x, x < 9 → (z_bt P a b &&& S).testBit x = true → (z_th P).testBit x = true := fun x hx h => z_up_in hw ha hx ta (hup x hx h)
  have hWa : ∀ y, y < 9 → (z_bt P a b &&& S).testBit y = true → (z_ab P y).testBit a = false := fun y hy h => by
    have h := hup y hy h
    rw [z_up_bit, Bool.or_eq_true, decide_eq_true_eq] at h
    rcases h with h | rfl
    · exact hw.asym ha hy h
    · exact hw.irr y hy
  unfold f_X10_layMoebius
  simp only [s10_between hr hw ha hb ta tb, Option.bind_some, z_ok_lt, z_and]
  refine z_ok_l9 (fun n q => q.2.1 = nI n ∧ ∃ D, q.1 = nI D ∧ z_mK w P (z_bt P a b &&& S) a D q.2.2 ∧ ∀ x, x < 9 → (z_bt P a b &&& S).testBit x = true → z_pc (z_un P x) < n → D.testBit x = true) ⟨rfl, 0, rfl, ⟨by decide, fun x _ h => by simp at h, fun _ _ => rfl, fun x _ h => by simp at h⟩, fun x _ _ h => absurd h (by omega)⟩ ?_ ?_
  · rintro n ⟨dd, nn, v⟩ hn ⟨e1, D, e2, e3, e4⟩ kb hk
    try dsimp only at e1 e2 e3
    subst e1 e2
    unfold b_X10_layMoebius_16
    simp only [z_le9 hn, if_false]
    refine z_ok_l9 (fun j q => q.2.1 = nI j ∧ ∃ D', q.1 = nI D' ∧ z_mK w P (z_bt P a b &&& S) a D' q.2.2 ∧ (∀ x, x < 9 → D.testBit x = true → D'.testBit x = true) ∧ ∀ x, x < j → (z_bt P a b &&& S).testBit x = true → z_pc (z_un P x) < n + 1 → D'.testBit x = true) ⟨rfl, D, rfl, e3, fun _ _ h => h, fun x hx => absurd hx (by omega)⟩ ?_ ?_
    · rintro j ⟨dd, jj, v1⟩ hj ⟨f1, D1, f2, f3, f4, f5⟩ kb1 hk1
      try dsimp only at f1 f2 f3
      subst f1 f2
      refine s10_mstep hr hw ha hW hWt hWa hj f3 (fun D' v' g1 g2 g3 => hk1 _ ⟨rfl, D', rfl, g1, fun x hx h => g2 x hx (f4 x hx h), fun x hx hWx hp => ?_⟩)
      by_cases e : x = j
      · subst e
        refine g3 hWx (fun y hy hb => ?_)
        rw [Nat.testBit_and, Bool.and_eq_true, z_un_bit P hy] at hb
        have := z_un_st hw hy hj hb.2
        exact f4 y hy (e4 y hy hb.1 (by omega))
      · exact g2 x (by omega) (f5 x (by omega) hWx hp)
    · rintro ⟨dd, jj, v1⟩ ⟨f1, D1, f2, f3, f4, f5⟩ kb1
      try dsimp only at f1 f2 f3
      subst f1 f2
      unfold b_X10_layMoebius_26
      simp only [z_99, if_true]
      rw [z_1]
      exact hk _ ⟨rfl, D1, rfl, f3, f5⟩
  · rintro ⟨dd, nn, v⟩ ⟨e1, D, e2, e3, e4⟩ kb
    try dsimp only at e1 e2 e3
    subst e1 e2
    unfold b_X10_layMoebius_16
    simp only [z_99, if_true, z_ok_some]
    refine ⟨e3.2.2.1, fun x hx hWx => z_mo_uq hw (V := v.1 14) (fun x hx hWx => ?_) hx hWx⟩
    have := z_un_8 hw hx
    exact (e3.2.2.2 x hx (e4 x hx hWx (by omega))).2
theorem z_bt_bit {a b k : Nat} (hk : k < 9) : (z_bt P a b).testBit k = (((z_ab P a).testBit k || decide (k = a)) && ((z_ab P k).testBit b || decide (k = b))) := by
  rw [z_bt, Nat.testBit_and, z_up_bit, z_dn_bit P hk]
theorem z_bt_lt (hw : z_wf P) {a b : Nat} (ha : a < 9) : z_bt P a b < 512 := z_and_lt _ (z_up_lt hw ha)
theorem z_bt_in (hw : z_wf P) {a b x : Nat} (ha : a < 9) (ta : (z_th P).testBit a = true) (hx : x < 9) (h : (z_bt P a b).testBit x = true) : (z_th P).testBit x = true := by
  rw [z_bt, Nat.testBit_and, Bool.and_eq_true] at h
  exact z_up_in hw ha hx ta h.1
theorem z_bt_th (hw : z_wf P) {a b : Nat} (ha : a < 9) (ta : (z_th P).testBit a = true) : z_bt P a b &&& z_th P = z_bt P a b := z_ext (z_and_lt _ (z_bt_lt hw ha)) (z_bt_lt hw ha) (fun k hk => by
  rw [Nat.testBit_and]
  cases h : (z_bt P a b).testBit k
  · rfl
  · rw [z_bt_in hw ha ta hk h]; rfl)
theorem z_bt_b {a b : Nat} (hb : b < 9) (h : a = b ∨ (z_ab P a).testBit b = true) : (z_bt P a b).testBit b = true := by
  rw [z_bt_bit hb]
  rcases h with h | h
  · simp [h]
  · simp [h]
theorem z_inr_lt (hw : z_wf P) {a b : Nat} (ha : a < 9) : z_inr P a b < 512 := z_and_lt _ (hw.ab a ha)
theorem z_inr_bit {a b k : Nat} (hk : k < 9) : (z_inr P a b).testBit k = ((z_ab P a).testBit k && (z_ab P k).testBit b) := by
  rw [z_inr, Nat.testBit_and, z_un_bit P hk]
theorem z_inr_eq (hw : z_wf P) {a b : Nat} (ha : a < 9) (hb : b < 9) : z_df (z_bt P a b) (2 ^ a ||| 2 ^ b) = z_inr P a b := z_ext (z_df_lt (z_bt_lt hw ha)) (z_inr_lt hw ha) (fun k hk => by
  rw [z_df_bit, z_bt_bit hk, z_inr_bit hk, z_put_bit, Nat.testBit_two_pow]
  by_cases h1 : k = a
  · subst h1
    simp [hw.irr k hk]
  · have h1' : ¬ a = k := fun e => h1 e.symm
    by_cases h2 : k = b
    · subst h2
      simp [hw.irr k hk]
    · simp [h1, h1', h2])
theorem s10_inner (hr : z_rr (w.1 1) P) (hw : z_wf P) {a b : Nat} (ha : a < 9) (hb : b < 9) (ta : (z_th P).testBit a = true) (tb : (z_th P).testBit b = true) : f_X10_inner (nI a) (nI b) w = some (nI (z_inr P a b)) := by
  unfold f_X10_inner
  simp only [s10_between hr hw ha hb ta tb, Option.bind_some, z_sh ha, z_sh hb, z_or, z_andc, z_inr_eq hw ha hb]
/-- what the class may change by the way -/
theorem z_eC.of {u u' : z_M} (pm : z_pm u) (h : ∀ k, (k < 89 ∧ k ≠ 86 ∧ k ≠ 88) → u'.1 k = u.1 k) : z_eC u u' := by
  by_cases h86 : True
  · refine ⟨fun i hi => h i (by omega), ?_⟩
    unfold z_pm
    rw [h 87 (by omega)]
    exact pm
  · exact absurd trivial h86
theorem z_eR.of {w w' : z_M} (h : ∀ k, k < 7 → w'.1 k = w.1 k) : z_eR w w' := ⟨fun i i1 i2 i3 => h i i2, by rw [h 0 (by decide)], by rw [h 0 (by decide)], by rw [h 0 (by decide)], by rw [h 0 (by decide)]⟩
theorem p_moebius : z_S_moebius z_Inv := by
  intro a1 a2 u w hI
  refine z_rd2 hI (fun P hw hc hr pm => ?_)
  have hr' := z_rr0 hr 0
  have e1 : (z_sI w 0 0 0).1 1 1 = nI (z_th P) := hr'.2.1
  unfold f_X9_moebius f_X10_moebius
  simp only [s9_troubleOf hc hw, s10_refusal hr' hw, Option.bind_some, z_lt, z_gI, z_c1, e1, show z_inb 1 93 = true from rfl, z_gd, if_true]
  rcases z_tr_cases P hw a1 a2 with h | h | ⟨h, x, y, hx, hy, rfl, rfl, tx, ty, hxy⟩
  · refine ⟨-2147483648, ?_, ?_⟩
    · rw [h]; simpa [z_ok_some] using z_eC.rf pm
    · rw [h]; simpa [z_ok_some] using z_eR0 w
  · refine ⟨-2147483648, ?_, ?_⟩
    · rw [h]; simpa [z_ok_some] using z_eC.rf pm
    · rw [h]; simpa [z_ok_some] using z_eR0 w
  · obtain ⟨⟨r1, u1⟩, a1, a2, a3, -⟩ := s8_mobius hc hw (z_bt_lt hw hx (b := y)) hx hy (z_bt_b hy hxy) (fun k hk hb => z_bt_in hw hx tx hk hb)
    obtain ⟨w1, b1, b2, b3⟩ := s10_layMoebius (S := z_th P) hr' hw hx hy tx ty
    rw [z_bt_th hw hx tx] at b3
    try dsimp only at a2 a3
    subst a2
    refine ⟨z_mo P (z_bt P x y) x y, ?_, ?_⟩
    · simp only [h, if_true, s6_between hc hw hx hy tx ty, Option.bind_some, a1, z_b2, z_ok_some]
      exact ⟨trivial, z_eC.of pm (fun k hk => a3 k (by omega) (by omega))⟩
    · simp only [h, show ((0 : Int32) ≤ 0) = True by decide, if_true, b1, Option.bind_some, z_in9 hy, z_c9 hy, b3 y hy (z_bt_b hy hxy), z_ok_some]
      exact ⟨trivial, z_eR.tr (z_eR0 w) (z_eR.of (fun k hk => b2 k (by omega)))⟩
theorem s10_moWithout (hr : z_rr (w.1 1) P) (hw : z_wf P) {a b x : Nat} (ha : a < 9) (hb : b < 9) (ta : (z_th P).testBit a = true) (tb : (z_th P).testBit b = true) (hab : a = b ∨ (z_ab P a).testBit b = true) (hx : x < 9) (hxb : b ≠ x) : z_ok (f_X10_moebiusWithout (nI a) (nI b) (nI x) w) (fun q => q.1 = z_mo P (z_rest x (z_bt P a b)) a b ∧ ∀ k, k ≠ 14 → q.2.1 k = w.1 k) := by
  unfold f_X10_moebiusWithout
  have e : z_bt P a b &&& z_df (z_th P) (2 ^ x) = z_rest x (z_bt P a b) := z_ext (z_and_lt _ (z_bt_lt hw ha)) (z_rest_lt (z_bt_lt hw ha)) (fun k hk => by
    rw [Nat.testBit_and, z_rest_bit]
    show ((z_bt P a b).testBit k && (z_rest x (z_th P)).testBit k) = _
    rw [z_rest_bit]
    cases h : (z_bt P a b).testBit k
    · rfl
    · rw [z_bt_in hw ha ta hk h]; rfl)
  obtain ⟨w1, b1, b2, b3⟩ := s10_layMoebius (S := z_df (z_th P) (2 ^ x)) hr hw ha hb ta tb
  rw [e] at b3
  simp only [show z_inb 1 93 = true from rfl, z_ok_gd, true_and, z_gI, z_c1, hr.2.1, z_sh hx, z_andc, b1, Option.bind_some, z_in9 hb, z_ok_some, z_c9 hb]
  exact ⟨b3 b hb (by rw [z_rest_bit, z_bt_b hb hab]; simp [hxb]), b2⟩
theorem p_without : z_S_without z_Inv := by
  intro a1 a2 a3 u w hI
  refine z_rd2 hI (fun P hw hc hr pm => ?_)
  have hr' := z_rr0 hr 0
  have hlow : z_ok (some ((-2147483648 : Int32), u)) (fun q => q.1 = -2147483648 ∧ z_eC u q.2) := by simpa [z_ok_some] using z_eC.rf pm
  have hlow2 : z_ok (some ((-2147483648 : Int32), z_sI w 0 0 0)) (fun q => q.1 = -2147483648 ∧ z_eR w q.2) := by simpa [z_ok_some] using z_eR0 w
  unfold f_X9_without f_X10_without
  simp only [s9_troubleOf hc hw, s10_refusal hr' hw, z_isIn0 a3 8 8 rfl, Option.bind_some, z_lt, z_bi_0]
  rcases z_tr_cases P hw a1 a2 with h | h | ⟨h, x, y, hx, hy, rfl, rfl, tx, ty, hxy⟩
  · exact ⟨-2147483648, by rw [h]; exact hlow, by rw [h]; exact hlow2⟩
  · exact ⟨-2147483648, by rw [h]; exact hlow, by rw [h]; exact hlow2⟩
  · simp only [h, if_true, show ((0 : Int32) < 0) = False by decide, if_false, s6_innerOf hc hw hx hy tx ty, s10_inner hr' hw hx hy tx ty, Option.bind_some, s_isIn (z_inr_lt hw hx), z_bi_0]
    rcases z_ix a3 with c | c | ⟨k, hk, rfl⟩
    · have e : z_is (z_inr P x y) a3 = false := by simp [z_is, c]
      refine ⟨-2147483648, ?_, ?_⟩
      · simp only [e, if_true]; exact hlow
      · simp only [c, not_true, decide_false, Bool.false_and, if_true]; exact hlow2
    · have e : z_is (z_inr P x y) a3 = false := by simp [z_is, c]
      have c' : ¬ a3 ≤ 8 := by
        rw [Int32.le_iff_toInt_le] at c ⊢
        have e9 : (9 : Int32).toInt = 9 := rfl
        have e8 : (8 : Int32).toInt = 8 := rfl
        omega
      refine ⟨-2147483648, ?_, ?_⟩
      · simp only [e, if_true]; exact hlow
      · simp only [c', decide_false, Bool.and_false, if_true]; exact hlow2
    · have c1 : ¬ nI k < 0 := nI_pos (by omega)
      have c2 : nI k ≤ 8 := nI_le (a := k) (b := 8) (by omega) (by decide)
      simp only [c1, c2, not_false_iff, decide_true, Bool.and_self, Bool.true_eq_false, if_false, z_is_nI hk, s_has (z_31 (z_inr_lt hw hx)) hk, Option.bind_some, z_bi_0]
      cases hin : (z_inr P x y).testBit k
      · exact ⟨-2147483648, by simp only [if_true]; exact hlow, by simp only [if_true]; exact hlow2⟩
      · have hin' := hin
        rw [z_inr_bit hk, Bool.and_eq_true] at hin'
        have hyk : y ≠ k := by rintro rfl; rw [hw.irr y hy] at hin'; cases hin'.2
        obtain ⟨⟨r1, u1⟩, q1, q2, q3, -⟩ := s8_mobius (W := z_rest k (z_bt P x y)) hc hw (z_rest_lt (z_bt_lt hw hx)) hx hy (by rw [z_rest_bit, z_bt_b hy hxy]; simp [hyk]) (fun j hj hb => by rw [z_rest_bit, Bool.and_eq_true] at hb; exact z_bt_in hw hx tx hj hb.1)
        obtain ⟨⟨r2, w1⟩, b1, b2, b3⟩ := s10_moWithout hr' hw hx hy tx ty hxy hk hyk
        try dsimp only at q2 q3 b2 b3
        subst q2 b2
        refine ⟨z_mo P (z_rest k (z_bt P x y)) x y, ?_, ?_⟩
        · have e : nI (z_bt P x y) &&& (nI (2 ^ k) ^^^ (-1)) = nI (z_rest k (z_bt P x y)) := z_andc _ _
          simp only [Bool.true_eq_false, if_false, s6_between hc hw hx hy tx ty, Option.bind_some, z_sh hk, e, q1, z_b2, z_ok_some]
          exact ⟨trivial, z_eC.of pm (fun j hj => q3 j (by omega) (by omega))⟩
        · simp only [Bool.true_eq_false, if_false, b1, z_b2, Option.bind_some, z_ok_some]
          exact ⟨trivial, z_eR.tr (z_eR0 w) (z_eR.of (fun j hj => b3 j (by omega)))⟩
theorem p_counted : z_S_counted z_Inv := by
  intro a1 a2 u w hI
  refine z_rd2 hI (fun P hw hc hr pm => ?_)
  have hr' := z_rr0 hr 0
  have e1 : (z_sI w 0 0 0).1 1 1 = nI (z_th P) := hr'.2.1
  unfold f_X9_counted f_X10_counted
  rcases z_tr_cases P hw a1 a2 with h | h | ⟨h, x, y, hx, hy, rfl, rfl, tx, ty, hxy⟩
  · refine ⟨-1, ?_, ?_⟩
    · rw [s9_troubleOf hc hw, Option.bind_some, h, if_neg (by decide), z_ok_some]
      exact ⟨rfl, z_eC.rf pm⟩
    · rw [z_ok_lt, s10_refusal hr' hw, Option.bind_some, h, if_neg (by decide), z_ok_some]
      exact ⟨rfl, z_eR0 w⟩
  · refine ⟨-2, ?_, ?_⟩
    · rw [s9_troubleOf hc hw, Option.bind_some, h, if_neg (by decide), z_ok_some]
      exact ⟨rfl, z_eC.rf pm⟩
    · rw [z_ok_lt, s10_refusal hr' hw, Option.bind_some, h, if_neg (by decide), z_ok_some]
      exact ⟨rfl, z_eR0 w⟩
  · obtain ⟨⟨r1, u1⟩, a1, a2, a3, -⟩ := s8_mobius hc hw (z_bt_lt hw hx (b := y)) hx hy (z_bt_b hy hxy) (fun k hk hb => z_bt_in hw hx tx hk hb)
    obtain ⟨w1, b1, b2, b3⟩ := s10_layMoebius (S := z_th P) hr' hw hx hy tx ty
    rw [z_bt_th hw hx tx] at b3
    try dsimp only at a2 a3
    subst a2
    have hne : ∀ k, k < 9 → (z_inr P x y).testBit k = true → y ≠ k := by
      rintro k hk hin rfl
      rw [z_inr_bit hk, Bool.and_eq_true, hw.irr y hy] at hin
      cases hin.2
    refine ⟨nI (z_mk (fun k => (z_inr P x y).testBit k && !(z_mo P (z_rest k (z_bt P x y)) x y == z_mo P (z_bt P x y) x y)) 9), ?_, ?_⟩
    · rw [s9_troubleOf hc hw, Option.bind_some, h, if_pos rfl, s6_between hc hw hx hy tx ty, Option.bind_some, s6_innerOf hc hw hx hy tx ty, Option.bind_some, a1, z_ok_b2, z_ok_some]
      refine z_ok_l9 (fun j q => q.1 = nI (z_mk (fun k => (z_inr P x y).testBit k && !(z_mo P (z_rest k (z_bt P x y)) x y == z_mo P (z_bt P x y) x y)) j) ∧ q.2.1 = nI j ∧ ∀ k, k ≠ 126 → k ≠ 128 → q.2.2.1 k = u.1 k) ⟨rfl, rfl, a3⟩ ?_ ?_
      · rintro k ⟨f, kk, v⟩ hk ⟨f1, f2, f3⟩ kb hkb
        try dsimp only at f1 f2 f3
        subst f1 f2
        have hcv : z_rc v 0 P := z_rc_cg (fun j hj => f3 _ (by omega) (by omega)) hc
        have e : nI (z_bt P x y) &&& (nI (2 ^ k) ^^^ (-1)) = nI (z_rest k (z_bt P x y)) := z_andc _ _
        unfold b_X9_counted_58
        simp only [z_le9 hk, if_false, s_isIn (z_inr_lt hw hx), z_is_nI hk, Option.bind_some, z_ok_bit, z_1, z_sh hk, e, z_b2]
        refine ⟨fun hin => hkb _ ⟨?_, rfl, f3⟩, fun hin => ?_⟩
        · try dsimp only
          rw [z_mk_0 _ k (by simp [hin])]
        · have hyk := hne k hk hin
          obtain ⟨⟨r1, u2⟩, q1, q2, q3, -⟩ := s8_mobius (W := z_rest k (z_bt P x y)) hcv hw (z_rest_lt (z_bt_lt hw hx)) hx hy (by rw [z_rest_bit, z_bt_b hy hxy]; simp [hyk]) (fun j hj hb => by rw [z_rest_bit, Bool.and_eq_true] at hb; exact z_bt_in hw hx tx hj hb.1)
          try dsimp only at q2 q3
          subst q2
          rw [q1, Option.bind_some]
          try dsimp only
          rw [z_ok_ite, z_ok_lt, z_or]
          have f3' : ∀ k, k ≠ 126 → k ≠ 128 → u2.1 k = u.1 k := fun j j1 j2 => by rw [q3 j j1 j2]; exact f3 j j1 j2
          refine ⟨fun he => hkb _ ⟨?_, rfl, f3'⟩, fun he => hkb _ ⟨?_, rfl, f3'⟩⟩
          · try dsimp only
            rw [z_mk_0 _ k (by simp [he])]
          · try dsimp only
            rw [z_mk_1 _ k (by simp [hin, he])]
      · rintro ⟨f, kk, v⟩ ⟨f1, f2, f3⟩ kb
        try dsimp only at f1 f2 f3
        subst f1 f2
        unfold b_X9_counted_58
        simp only [z_99, if_true, z_ok_some]
        exact ⟨trivial, z_eC.of pm (fun j hj => f3 j (by omega) (by omega))⟩
    · rw [z_ok_lt, s10_refusal hr' hw, Option.bind_some, h, if_pos (by decide), z_ok_gd, z_gI, z_c1, e1, b1, Option.bind_some, z_ok_gd, z_ok_lt, z_gI, z_c9 hy, b3 y hy (z_bt_b hy hxy)]
      refine ⟨rfl, z_in9 hy, ?_⟩
      refine z_ok_l9 (fun j q => q.1 = nI (z_mk (fun k => (z_inr P x y).testBit k && !(z_mo P (z_rest k (z_bt P x y)) x y == z_mo P (z_bt P x y) x y)) j) ∧ q.2.1 = nI j ∧ ∀ k, k ≠ 14 → q.2.2.1 k = (z_sI w 0 0 0).1 k) ⟨rfl, rfl, b2⟩ ?_ ?_
      · rintro k ⟨f, kk, v⟩ hk ⟨f1, f2, f3⟩ kb hkb
        try dsimp only at f1 f2 f3
        subst f1 f2
        have hrv : z_rr (v.1 1) P := by rw [f3 1 (by decide)]; exact hr'
        unfold b_X10_counted_44
        simp only [z_le9 hk, if_false, s10_inner hrv hw hx hy tx ty, s_has (z_31 (z_inr_lt hw hx)) hk, Option.bind_some, z_ok_bit, z_1, z_sh hk, z_b2, z_ok_lt, z_or0]
        refine ⟨fun hin => hkb _ ⟨?_, rfl, f3⟩, fun hin => ?_⟩
        · try dsimp only
          rw [z_mk_0 _ k (by simp [hin])]
        · obtain ⟨⟨r2, w2⟩, q1, q2, q3⟩ := s10_moWithout hrv hw hx hy tx ty hxy hk (hne k hk hin)
          try dsimp only at q2 q3
          subst q2
          rw [q1, Option.bind_some]
          try dsimp only
          rw [z_ok_ite, z_or]
          have f3' : ∀ k, k ≠ 14 → w2.1 k = (z_sI w 0 0 0).1 k := fun j j1 => by rw [q3 j j1]; exact f3 j j1
          refine ⟨fun he => hkb _ ⟨?_, rfl, f3'⟩, fun he => hkb _ ⟨?_, rfl, f3'⟩⟩
          · try dsimp only
            rw [z_mk_0 _ k (by simp [he])]
          · try dsimp only
            rw [z_mk_1 _ k (by simp [hin, he])]
      · rintro ⟨f, kk, v⟩ ⟨f1, f2, f3⟩ kb
        try dsimp only at f1 f2 f3
        subst f1 f2
        unfold b_X10_counted_44
        simp only [z_99, if_true, z_ok_some]
        exact ⟨trivial, z_eR.tr (z_eR0 w) (z_eR.of (fun k hk => f3 k (by omega)))⟩
/-! whitney -/
theorem z_mo_bt (hw : z_wf P) {a x : Nat} (ha : a < 9) (ta : (z_th P).testBit a = true) (hx : x < 9) (h : (z_up P a).testBit x = true) : z_mo P (z_bt P a x) a x = z_mo P (z_up P a) a x := by
  have hax : a = x ∨ (z_ab P a).testBit x = true := by
    rw [z_up_bit, Bool.or_eq_true, decide_eq_true_eq] at h
    exact h.symm.imp Eq.symm id
  have hfix : ∀ n y, y < 9 → (z_bt P a x).testBit y = true → z_mvn P (z_bt P a x) a n y = z_mvn P (z_up P a) a n y := by
    intro n
    induction n with
    | zero => intro y _ _; rfl
    | succ n ih =>
      intro y hy hb
      rw [z_mvn, z_mvn]
      unfold z_mg
      split
      · rfl
      · refine congrArg (fun s : Int32 => -s) (z_su_cg (fun z hz => ?_))
        have hyx : (z_ab P y).testBit x = true ∨ y = x := by
          rw [z_bt_bit hy, Bool.and_eq_true, Bool.or_eq_true, Bool.or_eq_true, decide_eq_true_eq, decide_eq_true_eq] at hb
          exact hb.2
        have e : (z_un P y &&& z_bt P a x).testBit z = (z_un P y &&& z_up P a).testBit z := by
          rw [Nat.testBit_and, Nat.testBit_and, z_bt, Nat.testBit_and, z_dn_bit P hz, z_un_bit P hz]
          cases hzy : (z_ab P z).testBit y
          · rfl
          · have : (z_ab P z).testBit x = true := by
              rcases hyx with h1 | rfl
              · exact hw.tr z y x hz hy hx hzy h1
              · exact hzy
            rw [this]
            simp
        rw [e]
        by_cases hc : (z_un P y &&& z_up P a).testBit z = true
        · rw [if_pos hc, if_pos hc]
          refine ih z hz ?_
          rw [← e, Nat.testBit_and, Bool.and_eq_true] at hc
          exact hc.2
        · rw [if_neg hc, if_neg hc]
  exact hfix 9 x hx (z_bt_b hx hax)
theorem z_up_F (hw : z_wf P) {a : Nat} (ha : a < 9) {F : Nat → Nat} (hF : ∀ x, x < 9 → (z_up P a).testBit x = true → F x = z_hg P (z_up P a) F x) : ∀ x, x < 9 → (z_up P a).testBit x = true → z_hst P a x = F x + 1 := by
  refine z_hst_F hw ha (by rw [z_up_bit]; simp) (fun x hx h => ?_) (fun x y hx hy _ _ h => ?_) hF
  · rw [z_up_bit, Bool.or_eq_true, decide_eq_true_eq] at h
    exact h.symm
  · rw [z_up_bit, Bool.or_eq_true, decide_eq_true_eq]
    exact h.symm
theorem p_whitney : z_S_whitney z_Inv := by
  intro a1 a2 a3 u w hI
  refine z_rd2 hI (fun P hw hc hr pm => ?_)
  have hr' := z_rr0 hr 0
  have hlow : z_ok (some ((-2147483648 : Int32), u)) (fun q => q.1 = -2147483648 ∧ z_eC u q.2) := by simpa [z_ok_some] using z_eC.rf pm
  have hlow2 : z_ok (some ((-2147483648 : Int32), z_sI w 0 0 0)) (fun q => q.1 = -2147483648 ∧ z_eR w q.2) := by simpa [z_ok_some] using z_eR0 w
  unfold f_X9_whitney f_X10_whitney
  rw [s6_has hc hw, z_lt, s10_isThere hr' hw, Option.bind_some, Option.bind_some]
  cases h1 : z_is (z_th P) a1
  · exact ⟨-2147483648, by rw [if_pos z_bf0]; exact hlow, by rw [if_pos z_bf0]; exact hlow2⟩
  rw [if_neg (show ¬ z_bi true = 0 by decide), if_neg (show ¬ z_bi true = 0 by decide)]
  by_cases h2 : a2 < 0
  · exact ⟨-2147483648, by rw [if_pos h2]; exact hlow, by rw [if_pos h2]; exact hlow2⟩
  rw [if_neg h2, if_neg h2, z_isIn0 a3 1 1 rfl, Option.bind_some]
  by_cases h3 : a3 < 0
  · exact ⟨-2147483648, by rw [if_pos h3]; exact hlow, by rw [if_pos (by simp [h3, z_bi])]; exact hlow2⟩
  rw [if_neg h3]
  by_cases h4 : a3 ≤ 1
  · obtain ⟨a, ha, rfl, ta⟩ := z_is_ok h1
    rw [if_pos h4, if_neg (show ¬ z_bi (decide (¬ a3 < 0) && decide (a3 ≤ 1)) = 0 by simp [h3, h4, z_bi]), s6_atLeast hc hw ha, ta, if_pos rfl, Option.bind_some]
    have hup := z_up_lt hw ha
    have hut : ∀ x, x < 9 → (z_up P a).testBit x = true → (z_th P).testBit x = true := fun x hx h => z_up_in hw ha hx ta h
    obtain ⟨v, q1, q2, F, q3⟩ := s8_measure hc hw hup
    have hF := z_up_F hw ha (F := F) (fun x hx h => (q3 x hx (hut x hx h) h).2.2)
    have hcv : z_rc v 0 P := z_rc_cg (fun j hj => q2 _ (by omega) (by omega)) hc
    obtain ⟨⟨r1, u1⟩, m1, -, m3, m4⟩ := s8_mobius hcv hw hup ha ha (by rw [z_up_bit]; simp) hut
    try dsimp only at m3 m4
    obtain ⟨w1, b1, b2, b3⟩ := s10_layHeights hr' hw ha ta
    refine ⟨z_su (fun x => if (z_up P a).testBit x = true ∧ nI (F x) = a2 then (if a3 = 0 then 1 else z_mo P (z_up P a) a x) else 0) 9, ?_, ?_⟩
    · rw [q1, Option.bind_some, m1, z_ok_b2, z_ok_some]
      have e127 : ∀ x, x < 9 → (z_up P a).testBit x = true → u1.1 127 x = nI (F x) := fun x hx h => by
        rw [m3 127 (by decide) (by decide)]
        exact (q3 x hx (hut x hx h) h).1
      refine z_ok_l9 (fun j q => q = (z_su (fun x => if (z_up P a).testBit x = true ∧ nI (F x) = a2 then (if a3 = 0 then 1 else z_mo P (z_up P a) a x) else 0) j, nI j)) rfl ?_ ?_
      · rintro j q hi rfl kb hk
        unfold b_X9_whitney_73
        simp only [z_le9 hi, z_le9n hi, z_in9 hi, z_c9 hi, z_sh hi, z_is_nI hi, if_false, if_true, Option.bind_some, z_ok_gd, z_ok_lt, z_ok_some, z_ok_ite, z_ok_bind, z_ok_b2, z_bi_0, Bool.not_eq_false, z_gI, z_and, z_or, z_andc, z_1, true_and, and_true, s_isIn hup]
        refine ⟨fun h => hk _ ?_, fun h => ?_⟩
        · rw [z_su]; simp [h, z_add0]
        · rw [e127 j hi h]
          refine ⟨fun h5 => ⟨fun h6 => hk _ ?_, fun h6 => hk _ ?_⟩, fun h5 => hk _ ?_⟩
          · rw [z_su]; simp [h, h5, h6]
          · rw [z_su, m4 j hi h]; simp [h, h5, h6]
          · rw [z_su]; simp [h5, z_add0]
      · rintro q rfl kb
        unfold b_X9_whitney_73
        simp only [z_99, if_true, z_ok_some]
        refine ⟨trivial, z_eC.of pm (fun k hk => ?_)⟩
        rw [m3 k (by omega) (by omega), q2 k (by omega) (by omega)]
    · rw [b1, Option.bind_some]
      refine z_ok_l9 (fun j q => q.1 = z_su (fun x => if (z_up P a).testBit x = true ∧ nI (F x) = a2 then (if a3 = 0 then 1 else z_mo P (z_up P a) a x) else 0) j ∧ q.2.1 = nI j ∧ (∀ k, k ≠ 14 → q.2.2.1 k = w1.1 k)) ⟨rfl, rfl, fun _ _ => rfl⟩ ?_ ?_
      · rintro x ⟨s, xx, v1⟩ hi ⟨f1, f2, f3⟩ kb hk
        try dsimp only at f1 f2 f3
        subst f1 f2
        have hrv : z_rr (v1.1 1) P := by rw [f3 1 (by decide), b2 1 (by decide)]; exact hr'
        have e7 : v1.1 7 x = z_ho (z_hst P a x) := by rw [f3 7 (by decide)]; exact b3 x hi
        have hcase : (z_ho (z_hst P a x) = a2) ↔ ((z_up P a).testBit x = true ∧ nI (F x) = a2) := by
          cases hb : (z_up P a).testBit x
          · have h0 : z_hst P a x = 0 := by
              refine Nat.eq_zero_of_not_pos (fun hp => ?_)
              have := (z_hst_up hw ha x hi).mp hp
              rw [z_up_bit] at hb
              rcases this with rfl | h5
              · simp at hb
              · simp [h5] at hb
            rw [h0]
            constructor
            · intro h5
              rw [← h5] at h2
              exact absurd (show z_ho 0 < 0 by decide +kernel) h2
            · rintro ⟨h5, -⟩
              cases h5
          · rw [hF x hi hb, z_ho_s]
            simp
        unfold b_X10_whitney_42
        simp only [z_le9 hi, if_false, z_ok_gd, z_in9 hi, true_and, z_gI, z_c9 hi, e7, z_ok_ite, hcase, show z_inb 1 93 = true from rfl, z_c1, hrv.2.1, z_1]
        refine ⟨fun h5 => ?_, fun h5 => hk _ ⟨?_, rfl, f3⟩⟩
        · have hax : a = x ∨ (z_ab P a).testBit x = true := by
            have := h5.1
            rw [z_up_bit, Bool.or_eq_true, decide_eq_true_eq] at this
            exact this.symm.imp Eq.symm id
          obtain ⟨w2, c1, c2, c3⟩ := s10_layMoebius (S := z_th P) hrv hw ha hi ta (hut x hi h5.1)
          rw [z_bt_th hw ha ta] at c3
          have f3' : ∀ k, k ≠ 14 → w2.1 k = w1.1 k := fun k hk => by rw [c2 k hk]; exact f3 k hk
          rw [c1, Option.bind_some, z_ok_ite, z_ok_lt, z_ok_gd, z_ok_lt]
          refine ⟨fun h6 => hk _ ⟨?_, rfl, f3'⟩, fun h6 => ⟨rfl, hk _ ⟨?_, rfl, f3'⟩⟩⟩
          · try dsimp only
            rw [z_su]
            simp [h5, h6]
          · try dsimp only
            rw [z_su, c3 x hi (z_bt_b hi hax), z_mo_bt hw ha ta hi h5.1]
            simp [h5, h6]
        · try dsimp only
          rw [z_su, if_neg h5, z_add0]
      · rintro ⟨s, xx, v1⟩ ⟨f1, f2, f3⟩ kb
        try dsimp only at f1 f2 f3
        subst f1 f2
        unfold b_X10_whitney_42
        simp only [z_99, if_true, z_ok_some]
        refine ⟨trivial, z_eR.tr (z_eR0 w) (z_eR.of (fun k hk => ?_))⟩
        rw [f3 k (by omega), b2 k (by omega)]
  · exact ⟨-2147483648, by rw [if_neg h4]; exact hlow, by rw [if_pos (by simp [h4, z_bi])]; exact hlow2⟩
end
