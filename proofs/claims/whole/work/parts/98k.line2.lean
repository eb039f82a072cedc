section
variable {u w v u0 w0 : z_M} {D : z_P} {T : Nat → Nat} {N p s : Nat}
def z_g01 (r : Int32) (u : z_M) : Option (Int32 × z_M) := z_gd (decide (r = 0 ∨ r = 1)) (some (r, u))
theorem z_res.gr {P : Nat} {rc : Option (Int32 × z_M)} {rr : Option z_M} (h : z_res u0 w0 T N P rc rr) : z_res u0 w0 T N P (z_b2 rc z_g01) rr := by
  rcases h with ⟨u', w', D', p', h0, h1, h2, h3⟩ | ⟨u', w', h1, h2, h3⟩
  · rw [h1]
    exact Or.inl ⟨u', w', D', p', h0, rfl, h2, h3⟩
  · rw [h1]
    exact Or.inr ⟨u', w', rfl, h2, h3⟩
theorem z_res.bd {P : Nat} {rc : Option (Int32 × z_M)} {rr : Option z_M} (h : z_res u0 w0 T N P rc rr) : z_res u0 w0 T N P rc (Option.bind rr (fun r => some r)) := by
  rcases h with ⟨u', w', D', p', h0, h1, h2, h3⟩ | ⟨u', w', h1, h2, h3⟩
  · rw [h2]
    exact Or.inl ⟨u', w', D', p', h0, h1, rfl, h3⟩
  · rw [h2]
    exact Or.inr ⟨u', w', h1, rfl, h3⟩
theorem s7_l1a (hk : z_gI u 81 7 = 1) : f_X7_readLine 1 u = z_b2 (f_X7_readPoints u) z_g01 := by
  unfold f_X7_readLine
  rw [hk]
  rfl
theorem s7_l1b (hk : z_gI u 81 7 = 1) : f_X7_readLine 0 u = z_b2 (f_X7_refuse 3 u) z_g01 := by
  unfold f_X7_readLine
  rw [hk]
  rfl
theorem s7_l2a (hk : z_gI u 81 7 = 2) : f_X7_readLine 1 u = z_b2 (f_X7_refuse 3 u) z_g01 := by
  unfold f_X7_readLine
  rw [hk]
  rfl
theorem s7_l2b (hk : z_gI u 81 7 = 2) : f_X7_readLine 0 u = if z_gI u 81 5 = 0 then z_b2 (f_X7_readRule u) z_g01 else z_b2 (f_X7_refuse 3 u) z_g01 := by
  unfold f_X7_readLine
  rw [hk]
  rfl
theorem s7_l3a (hk : z_gI u 81 7 = 3) : f_X7_readLine 1 u = z_b2 (f_X7_refuse 3 u) z_g01 := by
  unfold f_X7_readLine
  rw [hk]
  rfl
theorem s7_l3b (hk : z_gI u 81 7 = 3) : f_X7_readLine 0 u = z_b2 (f_X7_readLabel u) z_g01 := by
  unfold f_X7_readLine
  rw [hk]
  rfl
theorem s7_l4a (hk : z_gI u 81 7 = 4) : f_X7_readLine 1 u = z_b2 (f_X7_refuse 3 u) z_g01 := by
  unfold f_X7_readLine
  rw [hk]
  rfl
theorem s7_l4b (hk : z_gI u 81 7 = 4) : f_X7_readLine 0 u = z_b2 (f_X7_readRelations u) z_g01 := by
  unfold f_X7_readLine
  rw [hk]
  rfl
theorem s7_l5 {k : Nat} (hk : z_gI u 81 7 = nI k) (h7 : k ≤ 7) (h : k = 0 ∨ 4 < k) (a : Int32) : f_X7_readLine a u = z_b2 (f_X7_refuse 1 u) z_g01 := by
  unfold f_X7_readLine
  have e : k = 0 ∨ k = 5 ∨ k = 6 ∨ k = 7 := by omega
  rcases e with rfl | rfl | rfl | rfl
  · rw [hk]; rfl
  · rw [hk]; rfl
  · rw [hk]; rfl
  · rw [hk]; rfl
/-! the law's line -/
def z_lnL (x v : Int32) (a b c d : Bool) (w : z_M) : Option z_M := if z_bi a = 0 then (if z_bi b = 0 then (if z_bi c = 0 then (if z_bi d = 0 then (Option.bind (f_X10_wrong 1 v w) (fun r16 => j_X10_readLine_j94 (z_bi a) (z_bi b) (z_bi c) r16)) else (j_X10_readLine_j63 x v (z_bi a) (z_bi b) (z_bi c) w)) else (j_X10_readLine_j63 x v (z_bi a) (z_bi b) (z_bi c) w)) else (j_X10_readLine_j63 x v (z_bi a) (z_bi b) (z_bi c) w)) else (j_X10_readLine_j63 x v (z_bi a) (z_bi b) (z_bi c) w)
theorem s10_line (h : z_ww w T N p) (h12 : ¬ w.1 0 12 = 0) (hs : s = z_to (z_qb T) N p) (x : Int32) : f_X10_readLine x w = z_lnL x (nI s) (z_isw T N s 0) (z_isw T N s 1) (z_isw T N s 2) (decide (s < N) && z_qd T s) (z_sI w 0 9 (nI s)) := by
  have hok := z_to_ok (z_qb T) h.2.2.1
  have hsk := z_sk2 (z_qb T) h.2.2.1
  unfold f_X10_readLine
  rw [s10_next h, z_b2e]
  rw [← hs] at hok hsk ⊢
  have hww := h.mv hok.2.1
  obtain ⟨w2, hw2⟩ : ∃ w2, w2 = z_sI w 0 9 (nI s) := ⟨_, rfl⟩
  rw [← hw2] at hww ⊢
  have h12' : ¬ w2.1 0 12 = 0 := by rw [hw2, z_sI_1, if_neg (by decide)]; exact h12
  have hself : z_sI w2 0 9 (nI s) = w2 := z_sIe w2 0 9 hww.2.1
  have hw : ∀ k, k < 3 → f_X10_isWord k w2 = some (z_bi (z_isw T N s k), w2) := fun k hk => by
    rw [s10_isWord hww hk, hsk, hself, decide_eq_false h12', Bool.not_false, Bool.true_and]
  have hn : f_X10_isNumber w2 = some (z_bi (decide (s < N) && z_qd T s), w2) := by
    rw [s10_isNumber hww h12', hsk, hself]
  have h9 : z_gI w2 0 9 = nI s := hww.2.1
  rw [z_lt, hw 0 (by decide), z_b2e, hw 1 (by decide), z_b2e, hw 2 (by decide), z_b2e, hn, z_b2e, h9]
  rfl
theorem s10_j88 (h12 : ¬ w.1 0 12 = 0) (a b c d : Int32) : j_X10_readLine_j88 a b c d w = some (z_wr 3 a w) := by
  unfold j_X10_readLine_j88 j_X10_readLine_j94
  rw [s10_wrong _ _ h12, Option.bind_some, if_pos (show z_gI (z_wr 3 a w) 0 12 = 0 from z_wr_12 _ _ _)]
theorem s10_l5 (h12 : ¬ w.1 0 12 = 0) (x v : Int32) : z_lnL x v false false false false w = some (z_wr 1 v w) := by
  show Option.bind (f_X10_wrong 1 v w) (fun r16 => j_X10_readLine_j94 0 0 0 r16) = _
  unfold j_X10_readLine_j94
  rw [s10_wrong _ _ h12, Option.bind_some, if_pos (show z_gI (z_wr 1 v w) 0 12 = 0 from z_wr_12 _ _ _)]
theorem s10_l1a (v : Int32) (d : Bool) : z_lnL 0 v true false false d w = j_X10_readLine_j94 1 0 0 w := rfl
theorem s10_l1b (h12 : ¬ w.1 0 12 = 0) {x : Int32} (hx : ¬ x = 0) (v : Int32) (d : Bool) : z_lnL x v true false false d w = some (z_wr 3 v w) := by
  rw [← s10_j88 h12 v 1 0 0]
  show j_X10_readLine_j63 x v 1 0 0 w = _
  unfold j_X10_readLine_j63
  rw [if_neg hx]
  rfl
theorem s10_l2a (h12 : ¬ w.1 0 12 = 0) (v : Int32) (d : Bool) : z_lnL 0 v false true false d w = some (z_wr 3 v w) := by
  rw [← s10_j88 h12 v 0 1 0]
  rfl
theorem s10_l2b (h12 : ¬ w.1 0 12 = 0) {x : Int32} (hx : ¬ x = 0) (v : Int32) (d : Bool) : z_lnL x v false true false d w = if z_gI w 0 13 = 0 then j_X10_readLine_j94 0 1 0 w else some (z_wr 3 v w) := by
  rw [← s10_j88 h12 v 0 1 0]
  show j_X10_readLine_j63 x v 0 1 0 w = _
  unfold j_X10_readLine_j63
  rw [if_neg hx]
  rfl
theorem s10_l3a (h12 : ¬ w.1 0 12 = 0) (v : Int32) (d : Bool) : z_lnL 0 v false false true d w = some (z_wr 3 v w) := by
  rw [← s10_j88 h12 v 0 0 1]
  rfl
theorem s10_l3b {x : Int32} (hx : ¬ x = 0) (v : Int32) (d : Bool) : z_lnL x v false false true d w = j_X10_readLine_j94 0 0 1 w := by
  show j_X10_readLine_j63 x v 0 0 1 w = _
  unfold j_X10_readLine_j63
  rw [if_neg hx]
  rfl
theorem s10_l4a (h12 : ¬ w.1 0 12 = 0) (v : Int32) : z_lnL 0 v false false false true w = some (z_wr 3 v w) := by
  rw [← s10_j88 h12 v 0 0 0]
  rfl
theorem s10_l4b {x : Int32} (hx : ¬ x = 0) (v : Int32) : z_lnL x v false false false true w = j_X10_readLine_j94 0 0 0 w := by
  show j_X10_readLine_j63 x v 0 0 0 w = _
  unfold j_X10_readLine_j63
  rw [if_neg hx]
  rfl
theorem z_line (hf : z_ful D) (h : z_pst u0 w0 T N u w D p) (h5 : u.1 81 5 = w.1 0 13) (ht : z_tok u T N (z_to (z_qb T) N p)) {x a : Int32} (hx : (x = 0 ∧ a = 1 ∧ ∀ k, k < 93 → w.1 2 k = 0) ∨ (¬ x = 0 ∧ a = 0)) : z_res u0 w0 T N p (f_X7_readLine a u) (f_X10_readLine x w) := by
  have hww := h.2.2.2.2.2.2.2
  have hok := z_to_ok (z_qb T) hww.2.2.1
  have hsk := z_sk2 (z_qb T) hww.2.2.1
  obtain ⟨s, hs⟩ : ∃ s, s = z_to (z_qb T) N p := ⟨_, rfl⟩
  rw [s10_line hww h.2.2.2.1 hs x]
  rw [← hs] at hok hsk ht
  have c := h.mvw hok.2.1
  have hfr : ∀ i, i ≠ 0 → (z_sI w 0 9 (nI s)).1 i = w.1 i := fun i hi => z_sI_ne hi
  have h5' : u.1 81 5 = (z_sI w 0 9 (nI s)).1 0 13 := by rw [z_sI_1, if_neg (by decide)]; exact h5
  obtain ⟨w2, hw2⟩ : ∃ w2, w2 = z_sI w 0 9 (nI s) := ⟨_, rfl⟩
  rw [← hw2] at c hfr h5' ⊢
  have h12 : ¬ w2.1 0 12 = 0 := c.2.2.2.1
  have h9 : z_gI w2 0 9 = nI s := c.2.2.2.2.2.2.2.2.1
  have ft : ∀ k : Int32, ∀ rr, rr = some (z_wr k (nI s) w2) → z_res u0 w0 T N p (z_b2 (f_X7_refuse k u) z_g01) rr := fun k rr hr => by
    rw [hr, s7_refuse k ht.1]
    exact Or.inr ⟨_, _, rfl, rfl, c.ft k s⟩
  have cw : ∀ q, z_tke T N s = q → q ≤ N ∧ z_cw u T N q := fun q hq => by
    have hq2 := z_tke_le (T := T) hok.2.1
    rw [hq] at hq2
    refine ⟨hq2.2, h.2.1.1, ?_, hq2.2, hww.2.2.2.1, h.2.1.2⟩
    rw [ht.2.2.1, hq]
  have k7 : z_gI u 81 7 = nI (z_tkk T N s) := ht.2.1
  rcases z_kd T hok.2.1 with ⟨k, i0, i1, i2, ke⟩ | ⟨k, i0, i1, i2, ke⟩ | ⟨k, i0, i1, i2, ke⟩ | ⟨k, i0, i1, i2, ke⟩ | ⟨k, i0, i1, i2, ke⟩
  · rw [k] at k7
    rw [i0, i1, i2]
    rcases hx with ⟨rfl, rfl, hz⟩ | ⟨hx, rfl⟩
    · obtain ⟨q1, q2⟩ := cw _ ke
      have c2 := c.mvw q1
      rw [s7_l1a k7, s10_l1a]
      unfold j_X10_readLine_j94
      rw [if_neg (show ¬ z_gI w2 0 12 = 0 from h12), if_neg (show ¬ (1 : Int32) = 0 by decide), h9, show nI s + 6 = nI (s + 6) from nI_add s 6, z_lt]
      refine ((z_points c2 ?_ (fun k hk => ?_) q2).mono (by omega)).gr
      · rw [z_sI_1, if_neg (by decide)]; exact h5'
      · rw [z_sI_ne (by decide), hfr 2 (by decide)]; exact hz k hk
    · rw [s7_l1b k7]
      exact ft 3 _ (s10_l1b h12 hx _ _)
  · rw [k] at k7
    rw [i0, i1, i2]
    rcases hx with ⟨rfl, rfl, hz⟩ | ⟨hx, rfl⟩
    · rw [s7_l2a k7]
      exact ft 3 _ (s10_l2a h12 _ _)
    · rw [s7_l2b k7, s10_l2b h12 hx, show (z_gI w2 0 13) = z_gI u 81 5 from h5'.symm]
      by_cases g : z_gI u 81 5 = 0
      · rw [if_pos g, if_pos g]
        obtain ⟨q1, q2⟩ := cw _ ke
        have c2 := c.mvw q1
        unfold j_X10_readLine_j94
        rw [if_neg (show ¬ z_gI w2 0 12 = 0 from h12), if_pos rfl, if_neg (show ¬ (1 : Int32) = 0 by decide), h9, show nI s + 4 = nI (s + 4) from nI_add s 4, z_lt]
        exact ((z_rule hf c2 q2).mono (by omega)).gr
      · rw [if_neg g, if_neg g]
        exact ft 3 _ rfl
  · rw [k] at k7
    rw [i0, i1, i2]
    rcases hx with ⟨rfl, rfl, hz⟩ | ⟨hx, rfl⟩
    · rw [s7_l3a k7]
      exact ft 3 _ (s10_l3a h12 _ _)
    · rw [s7_l3b k7, s10_l3b hx]
      obtain ⟨q1, q2⟩ := cw _ ke
      have c2 := c.mvw q1
      unfold j_X10_readLine_j94
      rw [if_neg (show ¬ z_gI w2 0 12 = 0 from h12), if_pos rfl, if_pos rfl, if_neg (show ¬ (1 : Int32) = 0 by decide), h9, show nI s + 5 = nI (s + 5) from nI_add s 5, z_lt]
      refine ((z_label hf c2 ?_ q2).mono (by omega)).gr.bd
      rw [z_sI_1, if_neg (by decide)]; exact h5'
  · rw [k] at k7
    rw [i0, i1, i2, ke]
    rcases hx with ⟨rfl, rfl, hz⟩ | ⟨hx, rfl⟩
    · rw [s7_l4a k7]
      exact ft 3 _ (s10_l4a h12 _)
    · rw [s7_l4b k7, s10_l4b hx]
      unfold j_X10_readLine_j94
      rw [if_neg (show ¬ z_gI w2 0 12 = 0 from h12), if_pos rfl, if_pos rfl, if_pos rfl]
      exact ((z_rowS hf c h5' (by rw [hsk]; exact ht)).mono hok.1).gr.bd
  · rw [i0, i1, i2, ke, s7_l5 k7 (z_tkk_7 T N s) k]
    exact ft 1 _ (s10_l5 h12 _ _)
end
