section
variable {u w : z_M} {P : z_P}
/-! ideals -/
def z_nac (P : z_P) (n : Nat) : Nat := fb_ct (fun s => z_sb s (z_th P) && z_acb P s) n
theorem s6_spreadSets (hr : z_rc u 0 P) (hw : z_wf P) : f_X6_spreadSets 0 u = some (nI (z_nac P 512)) := by
  rw [← z_ok_eq]
  unfold f_X6_spreadSets
  refine z_ok_lp (fun j q => q = (nI (z_nac P j), nI j)) 512 z_512F rfl ?_ ?_
  · rintro j q hs rfl kb hk
    unfold b_X6_spreadSets_4
    simp only [z_512 hs, if_false, s6_isSpread hr hw hs, Option.bind_some, z_ok_bit, z_1]
    refine ⟨fun h => hk _ ?_, fun h => hk _ ?_⟩
    · rw [z_nac, z_nac, fb_ct_succ, h]; rfl
    · rw [z_nac, z_nac, fb_ct_succ, h]; rfl
  · rintro q rfl kb
    unfold b_X6_spreadSets_4
    simp only [z_512e, if_true, z_ok_some]
def z_idl (P : z_P) (s : Nat) : Bool := z_sb s (z_th P) && z_sb (z_sun P s) s
theorem z_idl_iff {s : Nat} (hs : s < 512) : z_idl P s = true ↔ (∀ k, k < 9 → s.testBit k = true → (z_th P).testBit k = true) ∧ ∀ x y, x < 9 → y < 9 → s.testBit x = true → (z_ab P y).testBit x = true → s.testBit y = true := by
  unfold z_idl
  rw [Bool.and_eq_true, z_sb_iff hs, z_sb_iff (z_sun_lt s)]
  constructor
  · rintro ⟨h1, h2⟩
    exact ⟨h1, fun x y hx hy h3 h4 => h2 y hy ((z_sun_bit hy).mpr ⟨x, hx, h3, h4⟩)⟩
  · rintro ⟨h1, h2⟩
    refine ⟨h1, fun k hk hb => ?_⟩
    obtain ⟨x, hx, h3, h4⟩ := (z_sun_bit hk).mp hb
    exact h2 x k hx hk h3 h4
theorem z_wfu {Q : Nat → Prop} (hw : z_wf P) (h : ∀ x, x < 9 → (∀ y, y < 9 → (z_ab P x).testBit y = true → Q y) → Q x) : ∀ x, x < 9 → Q x := by
  have hst : ∀ x y, x < 9 → y < 9 → (z_ab P x).testBit y = true → z_pc (z_ab P y) < z_pc (z_ab P x) := fun x y hx hy hl =>
    z_pc_st hy hl (hw.irr y hy) (fun k hk hb => hw.tr x y k hx hy hk hl hb)
  have key : ∀ n x, x < 9 → z_pc (z_ab P x) < n → Q x := by
    intro n
    induction n with
    | zero => intro x _ h; omega
    | succ n ih =>
      intro x hx hp
      exact h x hx (fun y hy hl => ih y hy (by have := hst x y hx hy hl; omega))
  exact fun x hx => key _ x hx (Nat.lt_succ_self _)
/-- above each point of a set is one that none of it is above -/
theorem z_top (hw : z_wf P) {o : Nat} : ∀ x, x < 9 → o.testBit x = true → ∃ m, m < 9 ∧ o.testBit m = true ∧ z_ab P m &&& o = 0 ∧ (x = m ∨ (z_ab P x).testBit m = true) := z_wfu hw (fun x hx ih hox => by
  by_cases h : z_ab P x &&& o = 0
  · exact ⟨x, hx, hox, h, Or.inl rfl⟩
  · have : ∃ y, y < 9 ∧ (z_ab P x &&& o).testBit y = true := Classical.byContradiction (fun hn => h (z_ext (z_and_lt _ (hw.ab x hx)) (by decide) (fun k hk => by
      rw [Nat.zero_testBit]
      cases hb : (z_ab P x &&& o).testBit k
      · rfl
      · exact (hn ⟨k, hk, hb⟩).elim)))
    obtain ⟨y, hy, hb⟩ := this
    rw [Nat.testBit_and, Bool.and_eq_true] at hb
    obtain ⟨m, m1, m2, m3, m4⟩ := ih y hy hb.1 hb.2
    refine ⟨m, m1, m2, m3, Or.inr ?_⟩
    rcases m4 with rfl | m4
    · exact hb.1
    · exact hw.tr x y m hx hy m1 hb.1 m4)
def z_dcl (P : z_P) (s : Nat) : Nat := z_sun P s ||| s
def z_mxl (P : z_P) (s : Nat) : Nat := z_mk (fun x => s.testBit x && (z_ab P x &&& s) == 0) 9
theorem z_dcl_bit {s k : Nat} (hk : k < 9) : (z_dcl P s).testBit k = true ↔ ∃ x, x < 9 ∧ s.testBit x = true ∧ (k = x ∨ (z_ab P k).testBit x = true) := by
  rw [z_dcl, Nat.testBit_or, Bool.or_eq_true, z_sun_bit hk]
  constructor
  · rintro (⟨x, hx, h1, h2⟩ | h)
    · exact ⟨x, hx, h1, Or.inr h2⟩
    · exact ⟨k, hk, h, Or.inl rfl⟩
  · rintro ⟨x, hx, h1, rfl | h2⟩
    · exact Or.inr h1
    · exact Or.inl ⟨x, hx, h1, h2⟩
theorem z_ideals_eq (hw : z_wf P) : fb_ct (fun s => z_sb s (z_th P) && z_acb P s) 512 = fb_ct (z_idl P) 512 := by
  apply Nat.le_antisymm
  · refine z_ct_le (fun s => z_dcl P s) (fun s hs hp => ?_) (fun s t hs ht hp hq he => ?_)
    · simp only [Bool.and_eq_true] at hp
      have hD : z_dcl P s < 512 := z_or_lt (z_sun_lt s) hs
      refine ⟨hD, (z_idl_iff hD).mpr ⟨fun k hk hb => ?_, fun x y hx hy hb hl => ?_⟩⟩
      · obtain ⟨x, hx, h1, rfl | h2⟩ := (z_dcl_bit hk).mp hb
        · exact (z_sb_iff hs).mp hp.1 k hk h1
        · exact (hw.in k x hk hx h2).1
      · obtain ⟨z, hz, h1, rfl | h2⟩ := (z_dcl_bit hx).mp hb
        · exact (z_dcl_bit hy).mpr ⟨x, hx, h1, Or.inr hl⟩
        · exact (z_dcl_bit hy).mpr ⟨z, hz, h1, Or.inr (hw.tr y x z hy hx hz hl h2)⟩
    · simp only [Bool.and_eq_true] at hp hq
      try dsimp only at he
      have key : ∀ s t, z_acb P s = true → z_dcl P s = z_dcl P t → ∀ k, k < 9 → s.testBit k = true → t.testBit k = true := by
        intro s t hp he k hk hb
        have h1 : (z_dcl P t).testBit k = true := by rw [← he]; exact (z_dcl_bit hk).mpr ⟨k, hk, hb, Or.inl rfl⟩
        obtain ⟨y, hy, h2, h3⟩ := (z_dcl_bit hk).mp h1
        rcases h3 with rfl | h3
        · exact h2
        · have h4 : (z_dcl P s).testBit y = true := by rw [he]; exact (z_dcl_bit hy).mpr ⟨y, hy, h2, Or.inl rfl⟩
          obtain ⟨z, hz, h5, h6⟩ := (z_dcl_bit hy).mp h4
          have h7 : (z_ab P k).testBit z = true := by
            rcases h6 with rfl | h6
            · exact h3
            · exact hw.tr k y z hk hy hz h3 h6
          rw [(z_acb_iff hw).mp hp k z hk hz hb h5] at h7
          cases h7
      refine z_ext hs ht (fun k hk => ?_)
      cases h1 : s.testBit k
      · cases h2 : t.testBit k
        · rfl
        · rw [key t s hq.2 he.symm k hk h2] at h1; cases h1
      · rw [key s t hp.2 he k hk h1]
  · refine z_ct_le (fun s => z_mxl P s) (fun s hs hp => ?_) (fun s t hs ht hp hq he => ?_)
    · have hp' := (z_idl_iff hs).mp hp
      have hM : z_mxl P s < 512 := z_mk_lt _ 9
      have hb : ∀ k, k < 9 → (z_mxl P s).testBit k = true → s.testBit k = true ∧ z_ab P k &&& s = 0 := fun k hk h => by
        rw [z_mxl, z_mk_bit] at h
        simp only [hk, decide_true, Bool.true_and, Bool.and_eq_true, beq_iff_eq] at h
        exact h
      refine ⟨hM, ?_⟩
      rw [Bool.and_eq_true, z_sb_iff hM, z_acb_iff hw]
      refine ⟨fun k hk h => hp'.1 k hk (hb k hk h).1, fun x y hx hy h1 h2 => ?_⟩
      have h3 := (hb x hx h1).2
      have h4 : (z_ab P x &&& s).testBit y = false := by rw [h3, Nat.zero_testBit]
      rw [Nat.testBit_and, (hb y hy h2).1, Bool.and_true] at h4
      exact h4
    · try dsimp only at he
      have key : ∀ s t, s < 512 → t < 512 → z_idl P t = true → z_mxl P s = z_mxl P t → ∀ k, k < 9 → s.testBit k = true → t.testBit k = true := by
        intro s t hs ht hq he k hk hb
        obtain ⟨m, m1, m2, m3, m4⟩ := z_top hw (o := s) k hk hb
        have h1 : (z_mxl P s).testBit m = true := by
          rw [z_mxl, z_mk_bit]
          simp [m1, m2, m3]
        rw [he, z_mxl, z_mk_bit] at h1
        simp only [m1, decide_true, Bool.true_and, Bool.and_eq_true] at h1
        rcases m4 with rfl | m4
        · exact h1.1
        · exact ((z_idl_iff ht).mp hq).2 m k m1 hk h1.1 m4
      refine z_ext hs ht (fun k hk => ?_)
      cases h1 : s.testBit k
      · cases h2 : t.testBit k
        · rfl
        · rw [key t s ht hs hp he.symm k hk h2] at h1; cases h1
      · rw [key s t hs ht hq he k hk h1]
theorem p_ideals : z_S_ideals z_Inv := by
  intro u w hI
  refine z_rd hI (fun P hw hc hr => ?_)
  have hr' := z_rr0 hr 0
  unfold f_X9_ideals f_X10_ideals
  simp only [s9_isOrder hc hw, s10_isTold hr' hw, Option.bind_some, z_lt, z_bi_0, z_gI, hc.2.1]
  by_cases ht : 0 < z_td P
  · have hm := s6_spreadSets hc hw
    have e : z_nac P 512 = fb_ct (z_idl P) 512 := z_ideals_eq hw
    refine ⟨nI (z_nac P 512), ?_, ?_⟩
    · simp only [ht, decide_true, Bool.true_eq_false, if_false, hm, Option.bind_some]
    · simp only [ht, decide_true, Bool.true_eq_false, if_false]
      refine z_ok_lp (fun j q => q = (nI (fb_ct (z_idl P) j), nI j)) 512 z_512F rfl ?_ ?_
      · rintro j q hs rfl kb hk
        have h1 := hr'.2.1
        unfold b_X10_ideals_18
        simp only [z_512 hs, if_false, z_ok_gd, show z_inb 1 93 = true from rfl, true_and, z_gI, z_c1, h1, z_andc, z_df0 hs, z_ok_ite, z_add0, z_ok_lt, z_1, z_df_sb]
        refine ⟨fun hsb => ?_, fun hsb => hk _ ?_⟩
        · rw [s10_someBelow hr' hw hs hsb, Option.bind_some, z_andc, z_ok_ite, z_df0 (z_sun_lt _), z_df_sb]
          refine ⟨fun hac => hk _ ?_, fun hac => hk _ ?_⟩
          · rw [fb_ct_succ, z_idl, hsb, hac]; rfl
          · have hac' : z_sb (z_sun P j) j = false := by simpa using hac
            rw [fb_ct_succ, z_idl, hac']; simp
        · have hsb' : z_sb j (z_th P) = false := by simpa using hsb
          rw [fb_ct_succ, z_idl, hsb']; simp
      · rintro q rfl kb
        unfold b_X10_ideals_18
        simp only [z_512e, if_true, z_ok_some]
        exact ⟨by rw [e], z_eR0 w⟩
  · exact ⟨-1, by simp [ht], by simpa [ht, z_ok_some] using z_eR0 w⟩
/-! extensions -/
def z_lxn (P : z_P) : Nat → Nat → Int32
  | 0, _ => 1
  | n + 1, s => z_su (fun x => if s.testBit x && (z_ab P x &&& s) == 0 then z_lxn P n (z_rest x s) else 0) 9
def z_rxn (P : z_P) : Nat → Nat → Int32
  | 0, _ => 1
  | n + 1, s => z_su (fun x => if (s &&& z_th P).testBit x && z_sb (z_un P x) s then z_rxn P n (z_rest x s) else 0) 9
theorem z_su_0 {f : Nat → Int32} : ∀ n, (∀ k, k < n → f k = 0) → z_su f n = 0
  | 0, _ => rfl
  | n + 1, h => by rw [z_su, z_su_0 n (fun k hk => h k (by omega)), h n (by omega)]; rfl
theorem z_rx_eq (hw : z_wf P) : ∀ n s, s < 512 → z_pc s = n → z_sb s (z_th P) = true → z_rxn P n s = if z_sb (z_sun P s) s then z_lxn P n s else 0
  | 0, s, hs, hp, _ => by
    have h0 := z_pc_eq0 hs hp
    subst h0
    have : z_sb (z_sun P 0) 0 = true := (z_sb_iff (z_sun_lt 0)).mpr (fun k hk hb => by
      obtain ⟨x, _, h1, _⟩ := (z_sun_bit hk).mp hb
      rw [Nat.zero_testBit] at h1; cases h1)
    rw [this]
    rfl
  | n + 1, s, hs, hp, hst => by
    have hst' := (z_sb_iff hs).mp hst
    have hsub : ∀ x, x < 9 → s.testBit x = true → z_sb (z_rest x s) (z_th P) = true := fun x hx hb => (z_sb_iff (z_rest_lt hs)).mpr (fun k hk h => by
      rw [z_rest_bit, Bool.and_eq_true] at h
      exact hst' k hk h.1)
    have ih : ∀ x, x < 9 → s.testBit x = true → z_rxn P n (z_rest x s) = if z_sb (z_sun P (z_rest x s)) (z_rest x s) then z_lxn P n (z_rest x s) else 0 := fun x hx hb => z_rx_eq hw n (z_rest x s) (z_rest_lt hs) (by have := z_pc_rest hx hb; omega) (hsub x hx hb)
    rw [z_rxn]
    cases hid : z_sb (z_sun P s) s
    · simp only [Bool.false_eq_true, if_false]
      refine z_su_0 9 (fun x hx => ?_)
      split
      · rename_i hc
        rw [Bool.and_eq_true, Nat.testBit_and, Bool.and_eq_true] at hc
        rw [ih x hx hc.1.1, if_neg]
        intro hid2
        have : z_sb (z_sun P s) s = true := (z_sb_iff (z_sun_lt s)).mpr (fun k hk hb => by
          obtain ⟨y, hy, h1, h2⟩ := (z_sun_bit hk).mp hb
          by_cases e : y = x
          · subst e
            exact (z_sb_iff (z_un_lt P y)).mp hc.2 k hk (by rw [z_un_bit P hk]; exact h2)
          · have h3 : (z_rest x s).testBit y = true := by rw [z_rest_bit, h1]; simp [e]
            have h4 := (z_sb_iff (z_sun_lt _)).mp hid2 k hk ((z_sun_bit hk).mpr ⟨y, hy, h3, h2⟩)
            rw [z_rest_bit, Bool.and_eq_true] at h4
            exact h4.1)
        rw [this] at hid; cases hid
      · rfl
    · simp only [if_true]
      have hid' := (z_sb_iff (z_sun_lt s)).mp hid
      rw [z_lxn]
      refine z_su_cg (fun x hx => ?_)
      cases hb : s.testBit x
      · rw [Nat.testBit_and, hb]; simp
      · have h1 : z_sb (z_un P x) s = true := (z_sb_iff (z_un_lt P x)).mpr (fun k hk h => hid' k hk ((z_sun_bit hk).mpr ⟨x, hx, hb, by rw [← z_un_bit P hk]; exact h⟩))
        rw [Nat.testBit_and, hb, hst' x hx hb, h1, ih x hx hb]
        simp only [Bool.true_and, Bool.and_self, if_true, beq_iff_eq]
        by_cases h0 : z_ab P x &&& s = 0
        · rw [if_pos h0]
          have : z_sb (z_sun P (z_rest x s)) (z_rest x s) = true := (z_sb_iff (z_sun_lt _)).mpr (fun k hk h => by
            obtain ⟨y, hy, h2, h3⟩ := (z_sun_bit hk).mp h
            rw [z_rest_bit, Bool.and_eq_true] at h2
            rw [z_rest_bit, hid' k hk ((z_sun_bit hk).mpr ⟨y, hy, h2.1, h3⟩)]
            have : k ≠ x := by
              rintro rfl
              have : (z_ab P k &&& s).testBit y = false := by rw [h0, Nat.zero_testBit]
              rw [Nat.testBit_and, h3, h2.1] at this
              cases this
            simp [this])
          rw [this]; rfl
        · rw [if_neg h0, if_neg]
          intro hid2
          refine h0 (z_ext (z_and_lt _ (hw.ab x hx)) (by decide) (fun y hy => ?_))
          rw [Nat.testBit_and, Nat.zero_testBit]
          cases h2 : (z_ab P x).testBit y
          · rfl
          · cases h3 : s.testBit y
            · rfl
            · have hyx : y ≠ x := by rintro rfl; rw [hw.irr y hy] at h2; cases h2
              have h4 : (z_rest x s).testBit y = true := by rw [z_rest_bit, h3]; simp [hyx]
              have := (z_sb_iff (z_sun_lt _)).mp hid2 x hx ((z_sun_bit hx).mpr ⟨y, hy, h4, h2⟩)
              rw [z_rest_bit] at this
              simp at this
theorem s8_endingsOf (hr : z_rc u 0 P) (hw : z_wf P) {s : Nat} (hs : s < 512) {L : Nat → Int32} (hL : ∀ x, x < 9 → s.testBit x = true → u.1 130 (z_rest x s) = L (z_rest x s)) : f_X8_endingsOf 0 (nI s) u = some (z_su (fun x => if s.testBit x && (z_ab P x &&& s) == 0 then L (z_rest x s) else 0) 9) := by
  rw [← z_ok_eq]
  unfold f_X8_endingsOf
  refine z_ok_l9 (fun j q => q = (z_su (fun x => if s.testBit x && (z_ab P x &&& s) == 0 then L (z_rest x s) else 0) j, nI j)) rfl ?_ ?_
  · rintro j q hi rfl kb hk
    have e1 : u.1 (0 + 1) j = nI (z_ab P j) := hr.2.2.2.1 j hi
    have e1' : u.1 1 j = nI (z_ab P j) := e1
    have e2 : nI s &&& (nI (2 ^ j) ^^^ (-1)) = nI (z_rest j s) := z_andc s (2 ^ j)
    have e3 := z_rest_lt (x := j) hs
    unfold b_X8_endingsOf_5
    simp only [z_le9 hi, z_le9n hi, z_in9 hi, z_c9 hi, z_sh hi, z_is_nI hi, if_false, if_true, Option.bind_some, z_ok_gd, z_ok_lt, z_ok_ite, z_bi_0, Bool.not_eq_false, z_gI, e1, e1', e2, z_and, z_and0 (hw.ab j hi), true_and, z_1, s_isIn hs, z_inb_nI e3 (show 512 < 2 ^ 31 by decide), z_cl (show z_rest j s < 2 ^ 31 by omega)]
    refine ⟨fun h => hk _ ?_, fun h => ⟨fun h2 => hk _ ?_, fun h2 => hk _ ?_⟩⟩
    · rw [z_su]; simp [h, z_add0]
    · rw [z_su, hL j hi h]; simp [h, h2]
    · rw [z_su]; simp [h2, z_add0]
  · rintro q rfl kb
    unfold b_X8_endingsOf_5
    simp only [z_99, if_true, z_ok_some]
theorem p_extensions : z_S_extensions z_Inv := by
  intro u w hI
  refine z_rd2 hI (fun P hw hc hr pm => ?_)
  have hr' := z_rr0 hr 0
  unfold f_X9_extensions f_X10_extensions
  simp only [s9_isOrder hc hw, s10_isTold hr' hw, Option.bind_some, z_lt, z_bi_0]
  by_cases ht : 0 < z_td P
  · simp only [ht, decide_true, Bool.true_eq_false, if_false]
    have hsbt : z_sb (z_th P) (z_th P) = true := (z_sb_iff hw.th).mpr (fun _ _ h => h)
    have hidt : z_sb (z_sun P (z_th P)) (z_th P) = true := (z_sb_iff (z_sun_lt _)).mpr (fun k hk h => by
      obtain ⟨x, hx, h1, h2⟩ := (z_sun_bit hk).mp h
      exact (hw.in k x hk hx h2).1)
    have hfin : z_rxn P (z_pc (z_th P)) (z_th P) = z_lxn P (z_pc (z_th P)) (z_th P) := by rw [z_rx_eq hw _ _ hw.th rfl hsbt, hidt]; rfl
    refine ⟨z_lxn P (z_pc (z_th P)) (z_th P), ?_, ?_⟩
    · have hmain : z_ok (f_X8_extensionsOf 0 u) (fun q => q.1 = z_lxn P (z_pc (z_th P)) (z_th P) ∧ ∀ k, k ≠ 130 → q.2.1 k = u.1 k) := by
        unfold f_X8_extensionsOf
        rw [z_ok_gd, z_ok_lt]
        refine ⟨rfl, ?_⟩
        refine z_ok_lp (fun j q => q.1 = nI (j + 1) ∧ (∀ k, k ≠ 130 → q.2.1 k = u.1 k) ∧ ∀ s, s < j + 1 → z_sb s (z_th P) = true → q.2.1 130 s = z_lxn P (z_pc s) s) 511 (by decide) ⟨rfl, fun k hk => z_sI_ne hk, fun s hs _ => ?_⟩ ?_ ?_
        · have : s = 0 := by omega
          subst this
          rw [z_pc_0]
          simp [z_sI_1, z_c0, z_lxn]
        · rintro j ⟨jj, v⟩ hj ⟨e1, e2, e3⟩ kb hk
          try dsimp only at e1 e2 e3
          subst e1
          have hs : j + 1 < 512 := by omega
          have hcv : z_rc v 0 P := z_rc_cg (fun i hi => e2 _ (by omega)) hc
          unfold b_X8_extensionsOf_9
          simp only [z_512 hs, if_false, z_gI, hcv.2.1, z_andc, z_df0 hs, z_df_sb, z_ok_ite, z_1]
          refine ⟨fun hsb => ?_, fun hsb => hk _ ⟨rfl, e2, fun s hs' h => ?_⟩⟩
          · have hL : ∀ x, x < 9 → (j + 1).testBit x = true → v.1 130 (z_rest x (j + 1)) = z_lxn P (z_pc (z_rest x (j + 1))) (z_rest x (j + 1)) := fun x hx hb => e3 _ (z_rest_ne hx hs hb) ((z_sb_iff (z_rest_lt hs)).mpr (fun k hk h => by
              rw [z_rest_bit, Bool.and_eq_true] at h
              exact (z_sb_iff hs).mp hsb k hk h.1))
            rw [s8_endingsOf hcv hw hs (L := fun t => z_lxn P (z_pc t) t) hL, Option.bind_some, z_ok_gd, z_ok_lt]
            refine ⟨z_inb_nI hs (by decide), hk _ ⟨rfl, fun k hk => ?_, fun s hs' h => ?_⟩⟩
            · try dsimp only
              rw [z_sI_ne hk]; exact e2 k hk
            · simp only [z_sI_1, true_and, z_cl (show j + 1 < 2 ^ 31 by omega)]
              by_cases e : j + 1 = s
              · subst e
                rw [if_pos rfl]
                have hp : 0 < z_pc (j + 1) := by
                  refine Nat.pos_of_ne_zero (fun h0 => ?_)
                  have := z_pc_eq0 hs h0
                  omega
                obtain ⟨n, hn⟩ : ∃ n, z_pc (j + 1) = n + 1 := ⟨z_pc (j + 1) - 1, by omega⟩
                rw [hn, z_lxn]
                refine z_su_cg (fun x hx => ?_)
                by_cases hc : ((j + 1).testBit x && (z_ab P x &&& (j + 1)) == 0) = true
                · rw [if_pos hc, if_pos hc]
                  rw [Bool.and_eq_true] at hc
                  have := z_pc_rest hx hc.1
                  rw [show z_pc (z_rest x (j + 1)) = n by omega]
                · rw [if_neg hc, if_neg hc]
              · rw [if_neg e]
                exact e3 s (by omega) h
          · by_cases e : s = j + 1
            · subst e; exact absurd h hsb
            · exact e3 s (by omega) h
        · rintro ⟨jj, v⟩ ⟨e1, e2, e3⟩ kb
          try dsimp only at e1 e2 e3
          subst e1
          have hcv : z_rc v 0 P := z_rc_cg (fun i hi => e2 _ (by omega)) hc
          have e5 : nI (z_th P) &&& 511 = nI (z_th P) := by
            rw [show (511 : Int32) = nI 511 from rfl, z_and]
            congr 1
            refine z_ext (z_and_lt _ hw.th) hw.th (fun k hk => ?_)
            rw [Nat.testBit_and, (by decide +kernel : ∀ x, x < 9 → Nat.testBit 511 x = true) k hk, Bool.and_true]
          unfold b_X8_extensionsOf_9
          simp only [show ((512 : Int32) ≤ nI (511 + 1)) = True by decide, if_true, z_gI, hcv.2.1, e5, z_ok_gd, z_inb_nI hw.th (show 512 < 2 ^ 31 by decide), true_and, z_ok_some, z_cl (z_31 hw.th)]
          exact ⟨e3 _ hw.th hsbt, e2⟩
      obtain ⟨⟨r, u1⟩, m1, m2, m3⟩ := hmain
      try dsimp only at m2 m3
      subst m2
      rw [m1]
      simp only [z_b2, Option.bind_some, z_ok_some]
      exact ⟨trivial, z_eC.of pm (fun k hk => m3 k (by omega))⟩
    · rw [← hfin]
      refine z_ok_lp (fun j q => q.1 = nI j ∧ (∀ k, k ≠ 8 → q.2.1 k = (z_sI w 0 0 0).1 k) ∧ ∀ s, s < j → q.2.1 8 s = z_rxn P (z_pc s) s) 512 z_512F ⟨rfl, fun _ _ => rfl, fun s hs => absurd hs (by omega)⟩ ?_ ?_
      · rintro s ⟨ss, v⟩ hs ⟨e1, e2, e3⟩ kb hk
        try dsimp only at e1 e2 e3
        subst e1
        have i5 : z_inb (nI s) 512 = true := z_inb_nI hs (by decide)
        have c5 : (nI s).toNatClampNeg = s := z_cl (by omega)
        have hin : ∀ (c : Int32), (s = 0 → c = 1) → (s ≠ 0 → c = 0) → z_ok (z_lp (b_X10_extensions_40 (nI s)) z_F (0, z_sI v 8 s c) (fun t => kb (nI s + 1, t))) (fun q => q.1 = z_rxn P (z_pc (z_th P)) (z_th P) ∧ z_eR w q.2) := by
          intro c hc0 hc1
          refine z_ok_l9 (fun x q => q.1 = nI x ∧ (∀ k, k ≠ 8 → q.2.1 k = (z_sI w 0 0 0).1 k) ∧ (∀ t, t < s → q.2.1 8 t = z_rxn P (z_pc t) t) ∧ q.2.1 8 s = c + z_su (fun x => if (s &&& z_th P).testBit x && z_sb (z_un P x) s then z_rxn P (z_pc (z_rest x s)) (z_rest x s) else 0) x) ⟨rfl, fun k hk => by rw [z_sI_ne hk]; exact e2 k hk, fun t ht => by rw [z_sI_1, if_neg (by omega)]; exact e3 t ht, by simp [z_sI_1, z_su, z_add0]⟩ ?_ ?_
          · rintro x ⟨xx, v1⟩ hx ⟨f1, f2, f3, f4⟩ kb' hk'
            try dsimp only at f1 f2 f3 f4
            subst f1
            have hrv : z_rr (v1.1 1) P := by rw [f2 1 (by decide)]; exact hr'
            have hst : s &&& z_th P < 512 := z_and_lt _ hs
            have hno : ((s &&& z_th P).testBit x && z_sb (z_un P x) s) = false → z_ok (j_X10_extensions_j78 (nI s) (nI x) 0 v1 kb' (fun t => kb (nI s + 1, t))) (fun q => q.1 = z_rxn P (z_pc (z_th P)) (z_th P) ∧ z_eR w q.2) := by
              intro h
              unfold j_X10_extensions_j78
              simp only [z_ok_gd, i5, true_and, if_true, z_ok_lt, z_gI, c5, z_1, z_add0]
              refine hk' _ ⟨rfl, fun k hk => by rw [z_sI_ne hk]; exact f2 k hk, fun t ht => by rw [z_sI_1, if_neg (by omega)]; exact f3 t ht, ?_⟩
              rw [z_sI_1, if_pos ⟨rfl, rfl⟩, f4, z_su, h]
              simp [z_add0]
            unfold b_X10_extensions_40 j_X10_extensions_j77
            simp only [z_le9 hx, if_false, z_ok_gd, show z_inb 1 93 = true from rfl, true_and, z_gI, z_c1, hrv.2.1, z_and, s_has (z_31 hst) hx, Option.bind_some, z_ok_bit]
            refine ⟨fun h => hno (by rw [h]; rfl), fun h => ?_⟩
            have h' := h
            rw [Nat.testBit_and, Bool.and_eq_true] at h'
            rw [s10_belowT hrv hw hx h'.2, Option.bind_some, z_andc, z_ok_ite, z_df0 (z_un_lt P x), z_df_sb]
            refine ⟨fun h2 => ?_, fun h2 => hno (by rw [show z_sb (z_un P x) s = false by simpa using h2, Bool.and_false])⟩
            have ex : nI s ^^^ nI (2 ^ x) = nI (z_rest x s) := by
              rw [z_xor]
              congr 1
              apply Nat.eq_of_testBit_eq
              intro i
              rw [Nat.testBit_xor, z_rest_bit, Nat.testBit_two_pow]
              by_cases hi : x = i
              · subst hi; simp [h'.1]
              · have : ¬ i = x := fun e => hi e.symm
                simp [hi, this]
            have e3' := z_rest_lt (x := x) hs
            have e4 := z_rest_ne hx hs h'.1
            unfold j_X10_extensions_j78
            simp only [z_ok_gd, i5, true_and, show ((1 : Int32) = 0) = False by decide, if_false, z_sh hx, ex, z_inb_nI e3' (show 512 < 2 ^ 31 by decide), z_ok_lt, z_gI, c5, z_cl (show z_rest x s < 2 ^ 31 by omega), z_1]
            refine hk' _ ⟨rfl, fun k hk => by rw [z_sI_ne hk]; exact f2 k hk, fun t ht => by rw [z_sI_1, if_neg (by omega)]; exact f3 t ht, ?_⟩
            rw [z_sI_1, if_pos ⟨rfl, rfl⟩, f4, f3 _ e4, z_su, h, h2]
            simp only [Bool.and_self, if_true]
            grind
          · rintro ⟨xx, v1⟩ ⟨f1, f2, f3, f4⟩ kb'
            try dsimp only at f1 f2 f3 f4
            subst f1
            unfold b_X10_extensions_40
            simp only [z_99, if_true]
            rw [z_1]
            refine hk _ ⟨rfl, f2, fun t ht => ?_⟩
            try dsimp only
            by_cases e : t = s
            · subst e
              rw [f4]
              by_cases h0 : t = 0
              · subst h0
                rw [hc0 rfl, z_pc_0, z_su_0 9 (fun k hk => by simp)]
                rfl
              · rw [hc1 h0]
                have hp : 0 < z_pc t := Nat.pos_of_ne_zero (fun h1 => h0 (z_pc_eq0 hs h1))
                obtain ⟨n, hn⟩ : ∃ n, z_pc t = n + 1 := ⟨z_pc t - 1, by omega⟩
                rw [hn, z_rxn]
                have : z_su (fun x => if (t &&& z_th P).testBit x && z_sb (z_un P x) t then z_rxn P (z_pc (z_rest x t)) (z_rest x t) else 0) 9 = z_su (fun x => if (t &&& z_th P).testBit x && z_sb (z_un P x) t then z_rxn P n (z_rest x t) else 0) 9 := z_su_cg (fun x hx => by
                  by_cases hc : ((t &&& z_th P).testBit x && z_sb (z_un P x) t) = true
                  · rw [if_pos hc, if_pos hc]
                    rw [Bool.and_eq_true, Nat.testBit_and, Bool.and_eq_true] at hc
                    have := z_pc_rest hx hc.1.1
                    rw [show z_pc (z_rest x t) = n by omega]
                  · rw [if_neg hc, if_neg hc])
                rw [this]
                grind
            · exact f3 t (by omega)
        have e0 : (nI s = 0) = (s = 0) := propext (z_nI0 (by omega))
        unfold b_X10_extensions_16
        simp only [z_512 hs, if_false, e0, z_ok_ite, z_ok_gd, i5, true_and, z_ok_lt, c5]
        exact ⟨fun h => hin 1 (fun _ => rfl) (fun h2 => absurd h h2), fun h => hin 0 (fun h2 => absurd h2 h) (fun _ => rfl)⟩
      · rintro ⟨ss, v⟩ ⟨e1, e2, e3⟩ kb
        try dsimp only at e1 e2 e3
        subst e1
        have h1 : v.1 1 1 = nI (z_th P) := by rw [e2 1 (by decide)]; exact hr'.2.1
        unfold b_X10_extensions_16
        simp only [z_512e, if_true, z_ok_gd, show z_inb 1 93 = true from rfl, true_and, z_gI, z_c1, h1, z_inb_nI hw.th (show 512 < 2 ^ 31 by decide), z_ok_some, z_cl (z_31 hw.th)]
        exact ⟨e3 _ hw.th, z_eR.tr (z_eR0 w) (z_eR.of (fun k hk => e2 k (by omega)))⟩
  · exact ⟨-1, by simpa [ht, z_ok_some] using z_eC.rf pm, by simpa [ht, z_ok_some] using z_eR0 w⟩
end
