section
variable {u w v : z_M} {P : z_P}
theorem z_ne1 {n : Nat} (h : ¬ n = 1) (hn : n < 2 ^ 31) : ¬ nI n = 1 := fun q => h ((nI_eq (b := 1) hn (by decide)).mp q)
theorem z_exi_at {β : Type} {p : Nat → Bool} {R0 : Nat → β} {R : β} : ∀ n k i, k ≤ i → i < k + n → (∀ t, k ≤ t → t < i → p t = true) → p i = false → z_exi p R0 R n k = R0 i
  | 0, k, i, h1, h2, _, _ => absurd h2 (by omega)
  | n + 1, k, i, h1, h2, h3, h4 => by
    rw [z_exi]
    by_cases e : k = i
    · rw [if_neg (by rw [e, h4]; decide), e]
    · rw [if_pos (h3 k (by omega) (by omega)), z_exi_at n (k + 1) i (by omega) (by omega) (fun t t1 t2 => h3 t (by omega) t2) h4]
theorem z_exi_end {β : Type} {p : Nat → Bool} {R0 : Nat → β} {R : β} : ∀ n k, (∀ t, k ≤ t → t < k + n → p t = true) → z_exi p R0 R n k = R
  | 0, k, _ => rfl
  | n + 1, k, h => by rw [z_exi, if_pos (h k (by omega) (by omega)), z_exi_end n (k + 1) (fun t t1 t2 => h t (by omega) (by omega))]
def z_lxc (P : z_P) (S : z_St) : Bool := decide (fb_ct (fun i => decide (z_fll P (S.2 i) = 0)) S.1 = 1) && decide (z_fll P (S.2 0) = 0)
theorem s2_isLexed {S : z_St} (h : z_rcC u P S) : f_X2_isLexed u = some (z_bi (z_lxc P S)) := by
  have h12 := h.1
  have hcg : fb_ct (fun i => decide (nI (z_fll P (S.2 i)) = 0)) S.1 = fb_ct (fun i => decide (z_fll P (S.2 i) = 0)) S.1 := fb_ct_cong (fun i hi => by
    have := z_fll_lt (P := P) (h.at hi).2.2.2.1
    exact decide_eq_decide.mpr (z_nI0 (by omega)))
  have hle := fb_ct_le (fun i => decide (z_fll P (S.2 i) = 0)) S.1
  unfold f_X2_isLexed f_X2_rising z_lxc
  rw [s2_withFalls h, Option.bind_some, Option.bind_some, hcg]
  by_cases e : fb_ct (fun i => decide (z_fll P (S.2 i) = 0)) S.1 = 1
  · rw [e, if_pos (show nI 1 = 1 from rfl), decide_eq_true rfl, Bool.true_and]
    have h0 : 0 < S.1 := by omega
    obtain ⟨c1, c2, c3⟩ := h.at h0
    have h512 := z_fll_lt (P := P) c3.2.1
    rw [show z_inb 0 12 = true from rfl, z_gI, show (0 : Int32).toNatClampNeg = 0 from rfl, c2, f_X1_isRising, s1_fallSet c3, Option.bind_some]
    simp only [z_gd, if_true, z_nI0 (show z_fll P (S.2 0) < 2 ^ 31 by omega)]
    by_cases g : z_fll P (S.2 0) = 0
    · rw [if_pos g, decide_eq_true g]; rfl
    · rw [if_neg g, decide_eq_false g]; rfl
  · rw [if_neg (z_ne1 e (by omega)), decide_eq_false e]; rfl
theorem z_lxc_1 (x : Nat) : z_lxc P (z_all P x x) = true := by
  unfold z_all
  rw [z_grow, if_pos rfl]
  rfl
def z_lxd (P : z_P) (x y : Nat) : Bool := !((z_th P).testBit x && (z_th P).testBit y && (z_ab P x).testBit y) || z_lxc P (z_all P x y)
def z_lin (P : z_P) (x : Nat) : Option Int32 := z_exi (fun y => z_lxd P x y) (fun y => some (10 * nI x + nI y)) none 9 0
def z_lou (P : z_P) : Int32 := z_exi (fun x => (z_lin P x).isNone) (fun x => (z_lin P x).getD 0) (-1) 9 0
theorem z_lexG {bo : (Int32 × z_M) → ((Int32 × z_M) → Option (Int32 × z_M)) → (z_M → Option (Int32 × z_M)) → Option (Int32 × z_M)} {bi : Int32 → (Int32 × z_M) → ((Int32 × z_M) → Option (Int32 × z_M)) → (z_M → Option (Int32 × z_M)) → Option (Int32 × z_M)} (J : z_M → Prop) (h0 : J v)
    (ho : ∀ x q kb kx, x < 9 → bo (nI x, q) kb kx = z_lp (bi (nI x)) z_F (0, q) (fun t => kb (nI x + 1, t))) (he : ∀ q kb kx, bo (nI 9, q) kb kx = kx q) (hie : ∀ x q kb kx, bi (nI x) (nI 9, q) kb kx = kx q)
    (hi : ∀ x y q, x < 9 → y < 9 → J q → ∀ kb kx, (z_lxd P x y = true ∧ ∃ q', J q' ∧ bi (nI x) (nI y, q) kb kx = kb (nI y + 1, q')) ∨ (z_lxd P x y = false ∧ ∃ q', J q' ∧ bi (nI x) (nI y, q) kb kx = some (10 * nI x + nI y, q'))) : z_ok (z_lp bo z_F (0, v) (fun t => some (-1, t))) (fun r => r.1 = z_lou P ∧ J r.2) := by
  refine z_ok_l9 (fun x q => q.1 = nI x ∧ J q.2 ∧ ∀ t, t < x → (z_lin P t).isNone = true) ⟨rfl, h0, fun t ht => absurd ht (by omega)⟩ ?_ ?_
  · rintro x ⟨xx, q⟩ hx ⟨e1, e2, e3⟩ kb hkb
    dsimp only at e1 e2
    subst e1
    rw [ho x q kb _ hx]
    refine z_ok_l9 (fun y q => q.1 = nI y ∧ J q.2 ∧ ∀ t, t < y → z_lxd P x t = true) ⟨rfl, e2, fun t ht => absurd ht (by omega)⟩ ?_ ?_
    · rintro y ⟨yy, q⟩ hy ⟨d1, d2, d3⟩ kb' hkb'
      dsimp only at d1 d2
      subst d1
      rcases hi x y q hx hy d2 kb' (fun t => kb (nI x + 1, t)) with ⟨f1, q', f2, f3⟩ | ⟨f1, q', f2, f3⟩
      · rw [f3]
        refine hkb' _ ⟨z_1 y, f2, fun t ht => ?_⟩
        by_cases c : t = y
        · rw [c]; exact f1
        · exact d3 t (by omega)
      · rw [f3, z_ok_some]
        have a1 : z_lin P x = some (10 * nI x + nI y) := z_exi_at 9 0 y (Nat.zero_le _) (by omega) (fun t _ t2 => d3 t t2) f1
        have a2 : z_lou P = (z_lin P x).getD 0 := z_exi_at 9 0 x (Nat.zero_le _) (by omega) (fun t _ t2 => e3 t t2) (by rw [a1]; rfl)
        refine ⟨?_, f2⟩
        rw [a2, a1]
        rfl
    · rintro ⟨yy, q⟩ ⟨d1, d2, d3⟩ kb'
      dsimp only at d1 d2
      subst d1
      rw [hie]
      refine hkb _ ⟨z_1 x, d2, fun t ht => ?_⟩
      by_cases c : t = x
      · have : z_lin P x = none := z_exi_end 9 0 (fun t _ t2 => d3 t (by omega))
        rw [c, this]; rfl
      · exact e3 t (by omega)
  · rintro ⟨xx, q⟩ ⟨e1, e2, e3⟩ kb
    dsimp only at e1 e2
    subst e1
    rw [he, z_ok_some]
    exact ⟨(z_exi_end 9 0 (fun t _ t2 => e3 t (by omega))).symm, e2⟩
theorem p_lexed : z_S_lexed z_Inv := by
  intro u w hI
  refine z_rd2 hI (fun P hw hc hr pm => ?_)
  have hr' := z_rr0 hr 0
  unfold f_X9_lexed f_X10_lexed
  rw [s9_isOrder hc hw, Option.bind_some, z_lt, s10_isTold hr' hw, Option.bind_some]
  by_cases ht : ¬ 0 < z_td P
  · rw [decide_eq_false ht, if_pos (show z_bi false = 0 from rfl), if_pos (show z_bi false = 0 from rfl)]
    exact ⟨-2, by simpa [z_ok_some] using z_eC.rf pm, by simpa [z_ok_some] using z_eR0 w⟩
  have ht := Decidable.not_not.mp ht
  rw [decide_eq_true ht, if_neg (show ¬ z_bi true = 0 by decide), if_neg (show ¬ z_bi true = 0 by decide)]
  refine ⟨z_lou P, z_ok_mono (z_lexG (P := P) (J := fun v => z_eC u v) (bi := b_X9_lexed_20) (z_eC.rf pm) (fun x q kb kx hx => ?_) (fun q kb kx => ?_) (fun x q kb kx => ?_) (fun x y q hx hy hJ kb kx => ?_)) (fun r h => h), z_ok_mono (z_lexG (P := P) (J := fun v => z_eR w v ∧ z_rr (v.1 1) P) (bi := b_X10_lexed_25) ⟨z_eR0 w, hr'⟩ (fun x q kb kx hx => ?_) (fun q kb kx => ?_) (fun x q kb kx => ?_) (fun x y q hx hy hJ kb kx => ?_)) (fun r h => ⟨h.1, h.2.1⟩)⟩
  · unfold b_X9_lexed_12
    dsimp only
    rw [if_neg (by rw [z_le9 hx]; exact id)]
  · unfold b_X9_lexed_12
    dsimp only
    rw [if_pos (show (9 : Int32) ≤ nI 9 by decide)]
  · unfold b_X9_lexed_20
    dsimp only
    rw [if_pos (show (9 : Int32) ≤ nI 9 by decide)]
  · have hcq : z_rc q 0 P := z_rc_cg (fun j hj => hJ.1 _ (by omega)) hc
    unfold b_X9_lexed_20
    dsimp only
    rw [if_neg (by rw [z_le9 hy]; exact id), s9_troubleOf hcq hw, Option.bind_some]
    by_cases tx : (z_th P).testBit x = true ∧ (z_th P).testBit y = true ∧ (x = y ∨ (z_ab P x).testBit y = true)
    · have etr : z_tr P (nI x) (nI y) = 0 := by
        unfold z_tr
        rw [if_pos (by rw [z_is_nI hx, z_is_nI hy, tx.1, tx.2.1]; rfl), z_c9 hx, z_is_nI hy, if_pos]
        rcases tx.2.2 with c | c
        · exact Or.inl (by rw [c])
        · exact Or.inr c
      obtain ⟨u1, q1, q2, q3⟩ := s2_fill hcq hw hJ.2 hx hy tx.1 tx.2.1 tx.2.2
      have hJ1 : z_eC u u1 := ⟨fun i hi => (q2 i hi).trans (hJ.1 i hi), q3.2.2.1⟩
      rw [etr, if_pos rfl, q1, Option.bind_some, s2_isLexed q3, Option.bind_some]
      have e1 : z_lxd P x y = z_lxc P (z_all P x y) := by
        unfold z_lxd
        rcases tx.2.2 with c | c
        · rw [c, z_lxc_1, Bool.or_true]
        · rw [tx.1, tx.2.1, c]; rfl
      cases e2 : z_lxc P (z_all P x y)
      · exact Or.inr ⟨by rw [e1, e2], u1, hJ1, by rw [if_pos (show z_bi false = 0 from rfl)]⟩
      · exact Or.inl ⟨by rw [e1, e2], u1, hJ1, by rw [if_neg (show ¬ z_bi true = 0 by decide)]⟩
    · have etr : ¬ z_tr P (nI x) (nI y) = 0 := by
        rcases z_tr_cases P hw (nI x) (nI y) with c | c | ⟨c, x', y', g1, g2, g3, g4, g5, g6, g7⟩
        · rw [c]; decide
        · rw [c]; decide
        · have := (nI_eq (by omega) (by omega)).mp g3
          subst this
          have := (nI_eq (by omega) (by omega)).mp g4
          subst this
          exact absurd ⟨g5, g6, g7⟩ tx
      rw [if_neg etr]
      refine Or.inl ⟨?_, q, hJ, rfl⟩
      unfold z_lxd
      cases d1 : (z_th P).testBit x
      · rfl
      · cases d2 : (z_th P).testBit y
        · rfl
        · cases d3 : (z_ab P x).testBit y
          · rfl
          · exact absurd ⟨d1, d2, Or.inr d3⟩ tx
  · unfold b_X10_lexed_17
    dsimp only
    rw [if_neg (by rw [z_le9 hx]; exact id)]
  · unfold b_X10_lexed_17
    dsimp only
    rw [if_pos (show (9 : Int32) ≤ nI 9 by decide)]
  · unfold b_X10_lexed_25
    dsimp only
    rw [if_pos (show (9 : Int32) ≤ nI 9 by decide)]
  · obtain ⟨hJ1, hrq⟩ := hJ
    unfold b_X10_lexed_25
    dsimp only
    rw [if_neg (by rw [z_le9 hy]; exact id), s10_areThere hrq hw, Option.bind_some, z_is_nI hx, z_is_nI hy]
    cases tx : (z_th P).testBit x && (z_th P).testBit y
    · rw [if_pos (show z_bi false = 0 from rfl)]
      refine Or.inl ⟨?_, q, ⟨hJ1, hrq⟩, rfl⟩
      unfold z_lxd
      rw [tx]
      rfl
    · have tx' := tx
      rw [Bool.and_eq_true] at tx'
      rw [if_neg (show ¬ z_bi true = 0 by decide), s10_isBelowT hrq hx hy tx'.1 tx'.2, Option.bind_some]
      cases d3 : (z_ab P x).testBit y
      · rw [if_pos (show z_bi false = 0 from rfl)]
        refine Or.inl ⟨?_, q, ⟨hJ1, hrq⟩, rfl⟩
        unfold z_lxd
        rw [tx, d3]
        rfl
      · obtain ⟨w1, b1, b2, b3⟩ := s10_layChains hrq hw hx hy tx'.1 tx'.2 (Or.inr d3)
        have hr1 : z_rr (w1.1 1) P := by
          rw [b2.1 1 (by decide) (by decide) (by decide) (by decide) (by decide)]
          exact hrq
        have hJ2 : z_eR w w1 := z_eR.tr hJ1 ⟨fun i i1 i2 i3 => b2.1 i (by omega) (by omega) (by omega) (by omega) (by omega), b2.2 4 (by decide), b2.2 8 (by decide), b2.2 10 (by decide), b2.2 11 (by decide)⟩
        have h12 := b3.1
        have hpos := z_all_pos hw hx hy (Or.inr d3)
        have hle := fb_ct_le (fun i => decide (z_fll P ((z_all P x y).2 i) = 0)) (z_all P x y).1
        have hri : f_X10_isRising 0 w1 = some (z_bi (decide (z_fll P ((z_all P x y).2 0) = 0))) := s10_isRising (i := 0) hr1 hw (by decide) (b3.at hpos)
        rw [if_neg (show ¬ z_bi true = 0 by decide), b1, Option.bind_some, s10_chainsBy hr1 hw b3, if_neg (show ¬ (3 : Int32) ≤ 1 by decide), Option.bind_some, hri, Option.bind_some, show (fun i => z_byc P 1 ((z_all P x y).2 i)) = fun i => decide (z_fll P ((z_all P x y).2 i) = 0) from rfl]
        have e1 : z_lxd P x y = z_lxc P (z_all P x y) := by
          unfold z_lxd
          rw [tx, d3]; rfl
        rw [e1]
        unfold z_lxc
        by_cases e : fb_ct (fun i => decide (z_fll P ((z_all P x y).2 i) = 0)) (z_all P x y).1 = 1
        · rw [e, if_pos (show nI 1 = 1 from rfl), decide_eq_true (show 1 = 1 from rfl), Bool.true_and]
          cases decide (z_fll P ((z_all P x y).2 0) = 0)
          · exact Or.inr ⟨rfl, w1, ⟨hJ2, hr1⟩, by rw [if_pos (show z_bi false = 0 from rfl)]⟩
          · exact Or.inl ⟨rfl, w1, ⟨hJ2, hr1⟩, by rw [if_neg (show ¬ z_bi true = 0 by decide)]⟩
        · rw [if_neg (z_ne1 e (by omega)), decide_eq_false e, Bool.false_and]
          exact Or.inr ⟨rfl, w1, ⟨hJ2, hr1⟩, rfl⟩
end
