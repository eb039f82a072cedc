section
variable {u w v : z_M} {P : z_P}
theorem s9_isGradedOver (hr : z_rc u 0 P) (hw : z_wf P) {a : Nat} (ha : a < 9) (ta : (z_th P).testBit a = true) : z_ok (f_X9_isGradedOver (nI a) u) (fun q => q.1 = z_bi (z_grd P a) ∧ ∀ k, k ≠ 126 → k ≠ 127 → q.2.1 k = u.1 k) := by
  obtain ⟨v, q1, q2, F, q3⟩ := s8_measure hr hw (z_up_lt hw ha)
  have hth : ∀ x, x < 9 → (z_up P a).testBit x = true → (z_th P).testBit x = true := fun x hx h => z_up_in hw ha hx ta h
  have hF := z_up_F hw ha (F := F) (fun x hx h => (q3 x hx (hth x hx h) h).2.2)
  have hrv : z_rc v 0 P := z_rc_cg (fun j hj => q2 _ (by omega) (by omega)) hr
  unfold f_X9_isGradedOver
  rw [s6_atLeast hr hw ha, if_pos ta, Option.bind_some, q1, Option.bind_some]
  refine z_ok_of (r := (z_bi (z_grd P a), v)) ?_ ⟨rfl, q2⟩
  rw [show some (z_bi (z_grd P a), v) = if z_grd P a = true then some ((1 : Int32), v) else some (0, v) by cases z_grd P a <;> rfl]
  unfold z_grd
  rw [← z_exi_d]
  refine z_lpx (k0 := 0) (fun t => nI t) _ _ _ 9 (by decide) (fun x _ hx kb => ?_) (fun kb => ?_)
  · have hx : x < 9 := by omega
    unfold b_X9_isGradedOver_23
    rw [if_neg (by rw [z_le9 hx]; exact id), s_isIn (z_up_lt hw ha), Option.bind_some, z_is_nI hx, z_1]
    cases cx : (z_up P a).testBit x
    · rw [if_pos (show z_bi false = 0 from rfl), if_pos (show z_alb (fun y => !(false && (z_cov P x (z_up P a)).testBit y) || decide (z_hst P a y = z_hst P a x + 1)) 9 = true from z_alb_iff.mpr (fun y hy => rfl))]
    · have tx := hth x hx cx
      rw [if_neg (show ¬ z_bi true = 0 by decide), s6_coverers hrv hw hx, Option.bind_some, if_pos tx, ← z_exi_d]
      refine z_lpx (k0 := 0) (fun t => nI t) _ _ _ 9 (by decide) (fun y _ hy kb' => ?_) (fun kb => ?_)
      · have hy : y < 9 := by omega
        have hclt : z_cov P x (z_up P a) < 512 := by
          unfold z_cov z_en
          exact z_mk_lt _ 9
        unfold b_X9_isGradedOver_54
        rw [if_neg (by rw [z_le9 hy]; exact id), s_isIn hclt, Option.bind_some, z_is_nI hy, z_1]
        cases cy : (z_cov P x (z_up P a)).testBit y
        · rfl
        · have hyx := ((z_covu hw ha hx hy cx).mp cy).1
          have hay : (z_up P a).testBit y = true := z_up_iff.mpr (by
            rcases z_up_iff.mp cx with rfl | h
            · exact Or.inr hyx
            · exact Or.inr (hw.tr a x y ha hx hy h hyx))
          have f1 := q3 x hx tx cx
          have f2 := q3 y hy (hth y hy hay) hay
          rw [if_neg (show ¬ z_bi true = 0 by decide), z_gdt (z_in9 hy), z_gdt (z_in9 hx), z_gI, z_gI, z_c9 hx, z_c9 hy, f1.1, f2.1, z_1, hF x hx cx, hF y hy hay]
          by_cases e : F y = F x + 1
          · rw [e, if_pos rfl, decide_eq_true rfl]; rfl
          · rw [if_neg (fun q => e ((nI_eq (by omega) (by omega)).mp q)), decide_eq_false (by omega)]; rfl
      · unfold b_X9_isGradedOver_54
        rw [Nat.zero_add, if_pos (show (9 : Int32) ≤ nI 9 by decide)]
  · unfold b_X9_isGradedOver_23
    rw [Nat.zero_add, if_pos (show (9 : Int32) ≤ nI 9 by decide)]
theorem s9_isGraded (hr : z_rc u 0 P) (hw : z_wf P) (pm : z_pm u) : z_ok (f_X9_isGraded u) (fun q => q.1 = z_bi (z_alb (fun a => !(z_th P).testBit a || z_grd P a) 9) ∧ z_eC u q.2) := by
  have hno : ∀ a, a < 9 → (!(z_th P).testBit a || z_grd P a) = false → z_alb (fun a => !(z_th P).testBit a || z_grd P a) 9 = false := fun a ha h => by
    cases c : z_alb (fun a => !(z_th P).testBit a || z_grd P a) 9
    · rfl
    · have := z_alb_iff.mp c a ha
      rw [h] at this
      cases this
  unfold f_X9_isGraded
  refine z_ok_l9 (fun x q => q.1 = nI x ∧ z_eC u q.2 ∧ ∀ t, t < x → (!(z_th P).testBit t || z_grd P t) = true) ⟨rfl, z_eC.rf pm, fun t ht => absurd ht (by omega)⟩ ?_ ?_
  · rintro x ⟨xx, v⟩ hx ⟨e1, e2, e3⟩ kb hkb
    dsimp only at e1 e2
    subst e1
    have hrv : z_rc v 0 P := z_rc_cg (fun j hj => e2.1 _ (by omega)) hr
    unfold b_X9_isGraded_2
    dsimp only
    rw [if_neg (by rw [z_le9 hx]; exact id), s6_has hrv hw, Option.bind_some, z_is_nI hx, z_1]
    have hnx : ∀ v', z_eC u v' → (!(z_th P).testBit x || z_grd P x) = true → z_ok (kb (nI (x + 1), v')) _ := fun v' hv' h => hkb _ ⟨rfl, hv', fun t ht => by
      by_cases c : t = x
      · rw [c]; exact h
      · exact e3 t (by omega)⟩
    cases tx : (z_th P).testBit x
    · rw [if_pos (show z_bi false = 0 from rfl)]
      exact hnx v e2 (by rw [tx]; rfl)
    · obtain ⟨⟨r, v'⟩, a1, a2, a3⟩ := s9_isGradedOver hrv hw hx tx
      dsimp only at a2 a3
      subst a2
      have hv' : z_eC u v' := ⟨fun i hi => (a3 i (by omega) (by omega)).trans (e2.1 i hi), (z_eC.of e2.2 (fun k hk => a3 k (by omega) (by omega))).2⟩
      rw [if_neg (show ¬ z_bi true = 0 by decide), a1, z_ok_b2, z_ok_some]
      cases g : z_grd P x
      · rw [if_pos (show z_bi false = 0 from rfl), z_ok_some, hno x hx (by rw [tx, g]; rfl)]
        exact ⟨rfl, hv'⟩
      · rw [if_neg (show ¬ z_bi true = 0 by decide)]
        exact hnx v' hv' (by rw [tx, g]; rfl)
  · rintro ⟨xx, v⟩ ⟨e1, e2, e3⟩ kb
    dsimp only at e1 e2
    subst e1
    unfold b_X9_isGraded_2
    dsimp only
    rw [if_pos (show (9 : Int32) ≤ nI 9 by decide), z_ok_some, z_alb_iff.mpr (fun t ht => e3 t ht)]
    exact ⟨rfl, e2⟩
theorem z_dblG {bo : (Int32 × z_M) → ((Int32 × z_M) → Option (Int32 × z_M)) → (z_M → Option (Int32 × z_M)) → Option (Int32 × z_M)} {bi : Int32 → (Int32 × z_M) → ((Int32 × z_M) → Option (Int32 × z_M)) → (z_M → Option (Int32 × z_M)) → Option (Int32 × z_M)} (p : Nat → Nat → Bool) (J : z_M → Prop) (h0 : J v)
    (ho : ∀ x q kb kx, x < 9 → bo (nI x, q) kb kx = z_lp (bi (nI x)) z_F (0, q) (fun t => kb (nI x + 1, t))) (he : ∀ q kb kx, bo (nI 9, q) kb kx = kx q) (hie : ∀ x q kb kx, bi (nI x) (nI 9, q) kb kx = kx q)
    (hi : ∀ x y q, x < 9 → y < 9 → J q → ∀ kb kx, (p x y = true ∧ ∃ q', J q' ∧ bi (nI x) (nI y, q) kb kx = kb (nI y + 1, q')) ∨ (p x y = false ∧ ∃ q', J q' ∧ bi (nI x) (nI y, q) kb kx = some (0, q'))) : z_ok (z_lp bo z_F (0, v) (fun t => some (1, t))) (fun r => r.1 = z_bi (z_alb (fun x => z_alb (fun y => p x y) 9) 9) ∧ J r.2) := by
  refine z_ok_l9 (fun x q => q.1 = nI x ∧ J q.2 ∧ ∀ t, t < x → z_alb (fun y => p t y) 9 = true) ⟨rfl, h0, fun t ht => absurd ht (by omega)⟩ ?_ ?_
  · rintro x ⟨xx, q⟩ hx ⟨e1, e2, e3⟩ kb hkb
    dsimp only at e1 e2
    subst e1
    rw [ho x q kb _ hx]
    refine z_ok_l9 (fun y q => q.1 = nI y ∧ J q.2 ∧ ∀ t, t < y → p x t = true) ⟨rfl, e2, fun t ht => absurd ht (by omega)⟩ ?_ ?_
    · rintro y ⟨yy, q⟩ hy ⟨d1, d2, d3⟩ kb' hkb'
      dsimp only at d1 d2
      subst d1
      rcases hi x y q hx hy d2 kb' (fun t => kb (nI x + 1, t)) with ⟨f1, q', f2, f3⟩ | ⟨f1, q', f2, f3⟩
      · rw [f3]
        refine hkb' _ ⟨z_1 y, f2, fun t ht => ?_⟩
        by_cases c : t = y
        · rw [c]; exact f1
        · exact d3 t (by omega)
      · rw [f3, z_ok_some]
        have : z_alb (fun x => z_alb (fun y => p x y) 9) 9 = false := by
          cases c : z_alb (fun x => z_alb (fun y => p x y) 9) 9
          · rfl
          · have := z_alb_iff.mp (z_alb_iff.mp c x hx) y hy
            rw [f1] at this
            cases this
        rw [this]
        exact ⟨rfl, f2⟩
    · rintro ⟨yy, q⟩ ⟨d1, d2, d3⟩ kb'
      dsimp only at d1 d2
      subst d1
      rw [hie]
      refine hkb _ ⟨z_1 x, d2, fun t ht => ?_⟩
      by_cases c : t = x
      · rw [c]; exact z_alb_iff.mpr (fun y hy => d3 y hy)
      · exact e3 t (by omega)
  · rintro ⟨xx, q⟩ ⟨e1, e2, e3⟩ kb
    dsimp only at e1 e2
    subst e1
    rw [he, z_ok_some, z_alb_iff.mpr (fun x hx => e3 x hx)]
    exact ⟨rfl, e2⟩
theorem s10_isEven (hr : z_rr (w.1 1) P) (hw : z_wf P) : z_ok (f_X10_isEven w) (fun q => q.1 = z_bi (z_alb (fun a => z_alb (fun b => z_ev2 P a b) 9) 9) ∧ z_eR w q.2) := by
  unfold f_X10_isEven
  refine z_ok_mono (z_dblG (fun a b => z_ev2 P a b) (J := fun v => z_eR w v ∧ z_rr (v.1 1) P) (bi := b_X10_isEven_10) ⟨z_eR.rf, hr⟩ (fun x q kb kx hx => ?_) (fun q kb kx => ?_) (fun x q kb kx => ?_) (fun x y q hx hy hJ kb kx => ?_)) (fun r h => ⟨h.1, h.2.1⟩)
  · unfold b_X10_isEven_2
    dsimp only
    rw [if_neg (by rw [z_le9 hx]; exact id)]
  · unfold b_X10_isEven_2
    dsimp only
    rw [if_pos (show (9 : Int32) ≤ nI 9 by decide)]
  · unfold b_X10_isEven_10
    dsimp only
    rw [if_pos (show (9 : Int32) ≤ nI 9 by decide)]
  · obtain ⟨hJ1, hrq⟩ := hJ
    unfold b_X10_isEven_10 z_ev2
    dsimp only
    rw [if_neg (by rw [z_le9 hy]; exact id), s10_areThere hrq hw, Option.bind_some, z_is_nI hx, z_is_nI hy]
    cases tx : (z_th P).testBit x && (z_th P).testBit y
    · rw [if_pos (show z_bi false = 0 from rfl)]
      exact Or.inl ⟨rfl, q, ⟨hJ1, hrq⟩, rfl⟩
    · have tx' := tx
      rw [Bool.and_eq_true] at tx'
      rw [if_neg (show ¬ z_bi true = 0 by decide), s10_isBelowT hrq hx hy tx'.1 tx'.2, Option.bind_some]
      cases d3 : (z_ab P x).testBit y
      · rw [if_pos (show z_bi false = 0 from rfl)]
        exact Or.inl ⟨rfl, q, ⟨hJ1, hrq⟩, rfl⟩
      · obtain ⟨w1, b1, b2, b3⟩ := s10_layChains hrq hw hx hy tx'.1 tx'.2 (Or.inr d3)
        have hr1 : z_rr (w1.1 1) P := by
          rw [b2.1 1 (by decide) (by decide) (by decide) (by decide) (by decide)]
          exact hrq
        have hJ2 : z_eR w w1 := z_eR.tr hJ1 ⟨fun i i1 i2 i3 => b2.1 i (by omega) (by omega) (by omega) (by omega) (by omega), b2.2 4 (by decide), b2.2 8 (by decide), b2.2 10 (by decide), b2.2 11 (by decide)⟩
        have h8 : ∀ i, i < (z_all P x y).1 → ((z_all P x y).2 i).1 ≤ 8 := fun i hi => (b3.at hi).2.1
        have m1 := z_mxs_8 h8 _ (Nat.le_refl _)
        have m2 := z_mns_9 h8 (s := 9) (by decide) _ (Nat.le_refl _)
        rw [if_neg (show ¬ z_bi true = 0 by decide), b1, Option.bind_some, s10_chainsBy hr1 hw b3, if_pos (show (3 : Int32) ≤ 3 by decide), if_pos rfl, Option.bind_some, s10_chainsBy hr1 hw b3, if_pos (show (3 : Int32) ≤ 4 by decide), if_neg (show ¬ (4 : Int32) = 3 by decide), Option.bind_some]
        by_cases e : z_mxs (z_all P x y) (z_all P x y).1 = z_mns 9 (z_all P x y) (z_all P x y).1
        · rw [decide_eq_true e, if_pos (by rw [e])]
          exact Or.inl ⟨rfl, w1, ⟨hJ2, hr1⟩, rfl⟩
        · rw [decide_eq_false e, if_neg (fun q => e ((nI_eq (by omega) (by omega)).mp q))]
          exact Or.inr ⟨rfl, w1, ⟨hJ2, hr1⟩, rfl⟩
theorem z_asn (b : Bool) : f_X9_asNumber (z_bi b) = some (z_bi b) := by cases b <;> rfl
theorem z_bip {α : Type} (b : Bool) (x : α) : (if z_bi b = 0 then some ((0 : Int32), x) else some (1, x)) = some (z_bi b, x) := by cases b <;> rfl
theorem p_kind : z_S_kind z_Inv := by
  intro a1 u w hI
  refine z_rd2 hI (fun P hw hc hr pm => ?_)
  have hr' := z_rr0 hr 0
  have e1 : z_gI u 0 1 = nI (z_th P) := hc.2.1
  have e2 : z_gI (z_sI w 0 0 0) 1 (1 : Int32).toNatClampNeg = nI (z_th P) := hr'.2.1
  have hth := hw.th
  unfold f_X9_kind f_X10_kind
  rw [s9_isOrder hc hw, Option.bind_some, z_lt, s10_isTold hr' hw, Option.bind_some]
  by_cases ht : ¬ 0 < z_td P
  · rw [decide_eq_false ht, if_pos (show z_bi false = 0 from rfl), if_pos (show z_bi false = 0 from rfl)]
    exact ⟨-1, by simpa [z_ok_some] using z_eC.rf pm, by simpa [z_ok_some] using z_eR0 w⟩
  have ht := Decidable.not_not.mp ht
  rw [decide_eq_true ht, if_neg (show ¬ z_bi true = 0 by decide), if_neg (show ¬ z_bi true = 0 by decide), z_isIn0 a1 5 5 rfl, Option.bind_some]
  have cEC : ∀ v : z_M, (∀ k, k ≠ 132 → k ≠ 133 → v.1 k = u.1 k) → z_eC u v := fun v h => z_eC.of pm (fun k hk => h k (by omega) (by omega))
  by_cases c0 : a1 = 0
  · subst c0
    rw [if_pos rfl, e1, s6_leastOf hc hw hth (fun _ _ h => h), Option.bind_some, s6_greatestOf hc hw hth (fun _ _ h => h), Option.bind_some, if_neg (show ¬ z_bi (decide (¬ (0 : Int32) < 0) && decide ((0 : Int32) ≤ 5)) = 0 by decide), if_pos rfl, e2, z_gdt (show z_inb 1 93 = true from rfl), s10_leastOf hr' hth (fun _ _ h => h), Option.bind_some, z_gdt (show z_inb 1 93 = true from rfl), s10_greatestOf hr' hw hth (fun _ _ h => h), Option.bind_some]
    by_cases d1 : z_lst P (z_th P) < 0
    · rw [if_pos d1, if_pos d1]
      exact ⟨0, z_ok_some.mpr ⟨rfl, z_eC.rf pm⟩, z_ok_some.mpr ⟨rfl, z_eR0 w⟩⟩
    · rw [if_neg d1, if_neg d1]
      by_cases d2 : z_grt P (z_th P) < 0
      · rw [if_pos d2, if_pos d2]
        exact ⟨0, z_ok_some.mpr ⟨rfl, z_eC.rf pm⟩, z_ok_some.mpr ⟨rfl, z_eR0 w⟩⟩
      · rw [if_neg d2, if_neg d2]
        exact ⟨1, z_ok_some.mpr ⟨rfl, z_eC.rf pm⟩, z_ok_some.mpr ⟨rfl, z_eR0 w⟩⟩
  rw [if_neg c0]
  by_cases c1 : a1 = 1
  · subst c1
    obtain ⟨⟨r, v⟩, g1, g2, g3⟩ := s9_isGraded hc hw pm
    obtain ⟨⟨r', w1⟩, k1, k2, k3⟩ := s10_isEven hr' hw
    dsimp only at g2 g3 k2 k3
    rw [← z_grd_ev hw] at k2
    subst g2 k2
    rw [if_pos rfl, g1, if_neg (show ¬ z_bi (decide (¬ (1 : Int32) < 0) && decide ((1 : Int32) ≤ 5)) = 0 by decide), if_neg c0, if_pos rfl, k1]
    refine ⟨z_bi (z_alb (fun a => !(z_th P).testBit a || z_grd P a) 9), ?_, ?_⟩
    · rw [z_ok_b2, z_ok_some, z_asn, Option.bind_some, z_ok_some]
      exact ⟨rfl, g3⟩
    · rw [z_ok_b2, z_ok_some, z_bip, z_ok_some]
      exact ⟨rfl, z_eR.tr (z_eR0 w) k3⟩
  rw [if_neg c1]
  obtain ⟨⟨r, v⟩, g1, g2, g3, g4⟩ := s0_fill hc hw
  dsimp only at g2 g3 g4
  subst g2
  have hE := cEC v g3
  have hcv : z_rc v 0 P := z_rc_cg (fun j hj => g3 _ (by omega) (by omega)) hc
  by_cases c2 : a1 = 2
  · subst c2
    rw [if_pos rfl, g1, if_neg (show ¬ z_bi (decide (¬ (2 : Int32) < 0) && decide ((2 : Int32) ≤ 5)) = 0 by decide), if_neg c0, if_neg c1, if_pos rfl, s10_hasAllJoins hr' hw, Option.bind_some, z_bip]
    refine ⟨_, ?_, z_ok_some.mpr ⟨rfl, z_eR0 w⟩⟩
    rw [z_ok_b2, z_ok_some, z_asn, Option.bind_some, z_ok_some]
    exact ⟨rfl, hE⟩
  rw [if_neg c2]
  have hdst : ∀ a : Int32, ∃ r, z_ok (z_b2 (f_X0_fill 0 u) (fun r16 u17 => if r16 = 0 then (Option.bind (f_X9_asNumber 0) (fun r19 => some (r19, u17))) else (Option.bind (f_X0_distributes 0 a u17) (fun r20 => if r20 = 0 then (Option.bind (f_X9_asNumber 0) (fun r22 => some (r22, u17))) else (Option.bind (f_X9_asNumber 1) (fun r23 => some (r23, u17))))))) (fun q => q.1 = r ∧ z_eC u q.2) ∧ z_ok (Option.bind (f_X10_hasAllJoins (z_sI w 0 0 0)) (fun r17 => if r17 = 0 then (some ((0 : Int32), z_sI w 0 0 0)) else (Option.bind (f_X10_isDealt a (z_sI w 0 0 0)) (fun r19 => if r19 = 0 then (some (0, z_sI w 0 0 0)) else (some (1, z_sI w 0 0 0)))))) (fun q => q.1 = r ∧ z_eR w q.2) := fun a => by
    rw [g1, s10_hasAllJoins hr' hw, Option.bind_some]
    cases hl : z_latB P
    · refine ⟨0, ?_, ?_⟩
      · rw [z_ok_b2, z_ok_some]
        exact z_ok_some.mpr ⟨rfl, hE⟩
      · exact z_ok_some.mpr ⟨rfl, z_eR0 w⟩
    · rw [if_neg (show ¬ z_bi true = 0 by decide), s10_isDealt hr' hw hl, Option.bind_some, z_bip]
      refine ⟨_, ?_, z_ok_some.mpr ⟨rfl, z_eR0 w⟩⟩
      rw [z_ok_b2, z_ok_some, if_neg (show ¬ z_bi true = 0 by decide), s0_distributes hcv hw hl (g4 hl), Option.bind_some, z_dist_eq]
      cases z_alb (fun x => z_alb (fun y => z_alb (fun c => !((z_th P).testBit y && z_dca P a x c) || z_dd P x y c) 9) 9) 9
      · exact z_ok_some.mpr ⟨rfl, hE⟩
      · exact z_ok_some.mpr ⟨rfl, hE⟩
  by_cases c3 : a1 = 3
  · subst c3
    rw [if_pos rfl, if_neg (show ¬ z_bi (decide (¬ (3 : Int32) < 0) && decide ((3 : Int32) ≤ 5)) = 0 by decide), if_neg c0, if_neg c1, if_neg c2, if_pos rfl]
    exact hdst 0
  rw [if_neg c3]
  by_cases c4 : a1 = 4
  · subst c4
    rw [if_pos rfl, if_neg (show ¬ z_bi (decide (¬ (4 : Int32) < 0) && decide ((4 : Int32) ≤ 5)) = 0 by decide), if_neg c0, if_neg c1, if_neg c2, if_neg c3, if_pos rfl]
    exact hdst 1
  rw [if_neg c4]
  by_cases c5 : a1 = 5
  · subst c5
    rw [if_pos rfl, if_neg (show ¬ z_bi (decide (¬ (5 : Int32) < 0) && decide ((5 : Int32) ≤ 5)) = 0 by decide), if_neg c0, if_neg c1, if_neg c2, if_neg c3, if_neg c4, e1, s6_isRow hc hw hth, Option.bind_some, z_asn, Option.bind_some, s10_isRow hr' hw, Option.bind_some, z_bip]
    exact ⟨_, z_ok_some.mpr ⟨rfl, z_eC.rf pm⟩, z_ok_some.mpr ⟨rfl, z_eR0 w⟩⟩
  rw [if_neg c5]
  have hout : (decide (¬ a1 < 0) && decide (a1 ≤ 5)) = false := by
    by_cases n0 : a1 < 0
    · simp [n0]
    · obtain ⟨n, hn, rfl⟩ := nI_of n0
      by_cases n5 : nI n ≤ 5
      · rw [show (nI n ≤ 5) = (nI n ≤ nI 5) from rfl, z_leI hn (by decide)] at n5
        have : n = 0 ∨ n = 1 ∨ n = 2 ∨ n = 3 ∨ n = 4 ∨ n = 5 := by omega
        rcases this with rfl | rfl | rfl | rfl | rfl | rfl
        · exact absurd rfl c0
        · exact absurd rfl c1
        · exact absurd rfl c2
        · exact absurd rfl c3
        · exact absurd rfl c4
        · exact absurd rfl c5
      · simp [n5]
  rw [hout, if_pos (show z_bi false = 0 from rfl)]
  exact ⟨-1, z_ok_some.mpr ⟨rfl, z_eC.rf pm⟩, z_ok_some.mpr ⟨rfl, z_eR0 w⟩⟩
end
