section
variable {u w v : z_M} {P : z_P}
/-! a chain is put among the others -/
theorem s2_insert (hr : z_rc u 0 P) (hw : z_wf P) {k : Nat} {p : Nat → Nat} {S : z_St} (hk : k ≤ 8) (hp : ∀ j, j ≤ k → p j < 9 ∧ u.1 88 j = nI (p j)) (hS : z_rcC u P S) (hS12 : S.1 < 12) : z_ok (f_X2_insert 0 (nI k) u) (fun u' => (∀ i, i < 86 → u'.1 i = u.1 i) ∧ u'.1 88 = u.1 88 ∧ z_rcC u' P (z_sin P (k, p) S)) := by
  obtain ⟨h1, h2, h3, h4⟩ := hS
  obtain ⟨cf, cf1, cf2, cf3, cf4⟩ := z_pm_pl h3 hS12
  have hpl : ∀ i, i < 12 → ∃ c, c < 12 ∧ (u.1 87 i).toNatClampNeg = 89 + 3 * c ∧ u.1 87 i = nI (89 + 3 * c) ∧ z_isCh (89 + 3 * c) = true := fun i hi => by
    obtain ⟨c, c1, c2, c3, c4⟩ := z_pm_pl h3 hi
    exact ⟨c, c1, c3, c2, c4⟩
  have hneq : ∀ i, i < S.1 → (u.1 87 i).toNatClampNeg ≠ 89 + 3 * cf := fun i hi e => by
    obtain ⟨c, c1, c2, c3, c4⟩ := hpl i (by omega)
    have : i = S.1 := h3.2 i S.1 (by omega) hS12 (by rw [c3, cf2, ← c2, e])
    omega
  unfold f_X2_insert
  have hlt12 : nI S.1 < 12 := nI_lt (b := 12) hS12 (by decide)
  rw [z_gI, h2, if_pos hlt12, z_ok_gd, z_gI, z_cl (show S.1 < 2 ^ 31 by omega), cf3, z_ok_gd]
  refine ⟨z_inb_nI hS12 (by decide), cf4, ?_⟩
  obtain ⟨u1, t1, t2, t3⟩ := s1_take hr hw (pl := 89 + 3 * cf) (by omega) hk hp
  rw [t1, Option.bind_some, z_ok_lt, z_gI, t2 86 (by omega) (by omega) (by omega), h2]
  have e87 : u1.1 87 = u.1 87 := t2 87 (by omega) (by omega) (by omega)
  have hold : ∀ i, i < S.1 → z_cr1 u1 P (u.1 87 i).toNatClampNeg (S.2 i) := fun i hi => by
    obtain ⟨c, c1, c2, c3, c4⟩ := hpl i (by omega)
    have hne := hneq i hi
    have hc := h4 i hi
    rw [c2] at hne hc ⊢
    refine z_cr1_cg (t2 _ (by omega) (by omega) (by omega)) (t2 _ (by omega) (by omega) (by omega)) (t2 _ (by omega) (by omega) (by omega)) hc
  have hile := z_ips_le (P := P) (k, p) S.2 S.1
  obtain ⟨i0, hi0⟩ : ∃ i0, i0 = z_ips P (k, p) S.2 S.1 := ⟨_, rfl⟩
  rw [← hi0] at hile
  -- the places behind the way are moved on by one
  refine z_ok_lp (fun t q => q.1 = nI (S.1 - t) ∧ (∀ i, i ≠ 87 → q.2.1 i = u1.1 i) ∧ ∀ j, q.2.1 87 j = if S.1 - t < j ∧ j ≤ S.1 then u.1 87 (j - 1) else u.1 87 j) (S.1 - i0) (z_F_lt (by omega)) ⟨rfl, fun _ _ => rfl, fun j => by rw [e87, if_neg (by omega)]⟩ ?_ ?_
  · rintro t ⟨qi, v⟩ ht ⟨e1, e2, e3⟩ kb hkb
    dsimp only at e1 e2 e3
    subst e1
    obtain ⟨i, hi⟩ : ∃ i, S.1 - t = i + 1 := ⟨S.1 - t - 1, by omega⟩
    have hii : i < S.1 := by omega
    have hah : z_ah P (k, p) (S.2 i) = true := z_ips_hi (k, p) S.2 S.1 i (by omega) hii
    obtain ⟨c, c1, c2, c3, c4⟩ := hpl i (by omega)
    have ev : v.1 87 i = u.1 87 i := by rw [e3 i, if_neg (by omega)]
    have h1v : z_cr1 v P (89 + 3 * cf) (k, p) := z_cr1_cg (e2 _ (by omega)) (e2 _ (by omega)) (e2 _ (by omega)) t3
    have h2v : z_cr1 v P (89 + 3 * c) (S.2 i) := by
      have := hold i hii
      rw [c2] at this
      exact z_cr1_cg (e2 _ (by omega)) (e2 _ (by omega)) (e2 _ (by omega)) this
    unfold b_X2_insert_36
    dsimp only
    rw [hi, if_neg (nI_nle (by omega) (by omega)), nI_pred, z_ok_gd, z_gI, z_cl (show i < 2 ^ 31 by omega), ev, c2, z_ok_gd, s1_isAheadOf h1v h2v, Option.bind_some, hah, if_neg z_bt0, z_ok_gd, z_ok_gd, z_ok_gd, z_ok_lt, z_cl (show i + 1 < 2 ^ 31 by omega), z_back]
    refine ⟨z_inb_nI (by omega) (by decide), c4, z_inb_nI (by omega) (by decide), c4, z_inb_nI (by omega) (by decide), hkb _ ⟨?_, fun j hj => ?_, fun j => ?_⟩⟩
    · dsimp only
      congr 1
      omega
    · dsimp only
      rw [z_sI_ne hj]; exact e2 j hj
    · dsimp only
      rw [z_sI_1]
      by_cases c5 : i + 1 = j
      · rw [if_pos ⟨rfl, c5⟩, if_pos (by omega), ← c5, Nat.add_sub_cancel, c3]
      · rw [if_neg (fun h => c5 h.2), e3 j]
        by_cases c6 : S.1 - t < j ∧ j ≤ S.1
        · rw [if_pos c6, if_pos (by omega)]
        · rw [if_neg c6, if_neg (by omega)]
  · rintro ⟨qi, v⟩ ⟨e1, e2, e3⟩ kb
    dsimp only at e1 e2 e3
    subst e1
    have es : S.1 - (S.1 - i0) = i0 := by omega
    rw [es] at e3
    have hexit : b_X2_insert_36 (89 + 3 * cf) (nI (S.1 - (S.1 - i0)), v) kb (fun t15 => z_gd (z_inb t15.1 12) (z_lt (z_sI t15.2 87 t15.1.toNatClampNeg (nI (89 + 3 * cf))) (fun u17 => z_lt (z_sI u17 86 0 ((z_gI u17 86 0) + 1)) (fun u18 => some u18)))) = z_gd (z_inb (nI i0) 12) (z_lt (z_sI v 87 (nI i0).toNatClampNeg (nI (89 + 3 * cf))) (fun u17 => z_lt (z_sI u17 86 0 ((z_gI u17 86 0) + 1)) (fun u18 => some u18))) := by
      rw [es]
      unfold b_X2_insert_36
      dsimp only
      by_cases c0 : i0 = 0
      · rw [if_pos (by rw [c0]; decide)]
      · obtain ⟨i, hi⟩ : ∃ i, i0 = i + 1 := ⟨i0 - 1, by omega⟩
        have hii : i < S.1 := by omega
        obtain ⟨c, c1, c2, c3, c4⟩ := hpl i (by omega)
        have ev : v.1 87 i = u.1 87 i := by rw [e3 i, if_neg (by omega)]
        have h1v : z_cr1 v P (89 + 3 * cf) (k, p) := z_cr1_cg (e2 _ (by omega)) (e2 _ (by omega)) (e2 _ (by omega)) t3
        have h2v : z_cr1 v P (89 + 3 * c) (S.2 i) := by
          have := hold i hii
          rw [c2] at this
          exact z_cr1_cg (e2 _ (by omega)) (e2 _ (by omega)) (e2 _ (by omega)) this
        have hah : z_ah P (k, p) (S.2 i) = false := by
          have := z_ips_at (P := P) (k, p) S.2 S.1
          rw [← hi0, hi, Nat.add_sub_cancel] at this
          exact this.resolve_left (by omega)
        have hb : z_inb (nI i) 12 = true := z_inb_nI (by omega) (by decide)
        rw [hi, if_neg (nI_nle (by omega) (by omega)), nI_pred, z_gI, z_cl (show i < 2 ^ 31 by omega), ev, c2, s1_isAheadOf h1v h2v, Option.bind_some, hah, if_pos z_bf0, hb, c4]
        simp only [z_gd, if_true]
    rw [hexit, z_ok_gd, z_ok_lt, z_ok_lt, z_ok_some, z_gI, z_cl (show i0 < 2 ^ 31 by omega)]
    have e86 : (z_sI v 87 i0 (nI (89 + 3 * cf))).1 86 0 = nI S.1 := by rw [z_sI_ne (by decide), e2 86 (by decide), t2 86 (by omega) (by omega) (by omega)]; exact h2
    rw [e86, z_1]
    obtain ⟨u2, hu2⟩ : ∃ u2, u2 = z_sI (z_sI v 87 i0 (nI (89 + 3 * cf))) 86 0 (nI (S.1 + 1)) := ⟨_, rfl⟩
    rw [← hu2]
    have g1 : ∀ i, i ≠ 86 → i ≠ 87 → u2.1 i = u1.1 i := fun i i1 i2 => by rw [hu2, z_sI_ne i1, z_sI_ne i2]; exact e2 i i2
    have g2 : ∀ j, u2.1 87 j = if j < i0 then u.1 87 j else if j = i0 then u.1 87 S.1 else if j ≤ S.1 then u.1 87 (j - 1) else u.1 87 j := fun j => by
      rw [hu2, z_sI_ne (by decide), z_sI_1, e3 j]
      by_cases c1 : j < i0
      · rw [if_pos c1, if_neg (by omega), if_neg (by omega)]
      · rw [if_neg c1]
        by_cases c2 : j = i0
        · rw [if_pos ⟨rfl, c2.symm⟩, if_pos c2, cf2]
        · rw [if_neg (fun h => c2 h.2.symm), if_neg c2]
          by_cases c3 : j ≤ S.1
          · rw [if_pos (by omega), if_pos c3]
          · rw [if_neg (by omega), if_neg c3]
    have g3 : ∀ j, j < 12 → ∃ s, s < 12 ∧ u2.1 87 j = u.1 87 s ∧ s = (if j < i0 then j else if j = i0 then S.1 else if j ≤ S.1 then j - 1 else j) := fun j hj => by
      refine ⟨_, ?_, ?_, rfl⟩
      · split
        · exact hj
        · split
          · exact hS12
          · split <;> omega
      · rw [g2 j]
        split
        · rfl
        · split
          · rfl
          · split <;> rfl
    refine ⟨z_inb_nI (by omega) (by decide), fun i hi => by rw [g1 i (by omega) (by omega)]; exact t2 i (by omega) (by omega) (by omega), by rw [g1 88 (by decide) (by decide)]; exact t2 88 (by omega) (by omega) (by omega), ?_, ?_, ⟨fun j hj => ?_, fun j l hj hl e => ?_⟩, fun j hj => ?_⟩
    · show S.1 + 1 ≤ 12
      omega
    · rw [hu2, z_sI_1, if_pos ⟨rfl, rfl⟩]
      rfl
    · obtain ⟨s, s1, s2, -⟩ := g3 j hj
      rw [s2]
      exact h3.1 s s1
    · obtain ⟨s, s1, s2, s3⟩ := g3 j hj
      obtain ⟨s', s1', s2', s3'⟩ := g3 l hl
      rw [s2, s2'] at e
      have := h3.2 s s' s1 s1' e
      rw [s3, s3'] at this
      clear s3 s3' s2 s2'
      split at this <;> split at this <;> (try split at this) <;> (try split at this) <;> (try split at this) <;> (try split at this) <;> (try split at this) <;> omega
    · have hj : j < S.1 + 1 := hj
      show z_cr1 u2 P (u2.1 87 j).toNatClampNeg (z_ins P (k, p) S.2 S.1 j)
      unfold z_ins
      rw [← hi0, g2 j]
      have hmv : ∀ i, i < S.1 → z_cr1 u2 P (u.1 87 i).toNatClampNeg (S.2 i) := fun i hi => by
        obtain ⟨c, c1, c2, c3, c4⟩ := hpl i (by omega)
        have := hold i hi
        rw [c2] at this ⊢
        exact z_cr1_cg (g1 _ (by omega) (by omega)) (g1 _ (by omega) (by omega)) (g1 _ (by omega) (by omega)) this
      by_cases c1 : j < i0
      · rw [if_pos c1, if_pos c1]; exact hmv j (by omega)
      · rw [if_neg c1, if_neg c1]
        by_cases c2 : j = i0
        · rw [if_pos c2, if_pos c2, cf3]
          exact z_cr1_cg (g1 _ (by omega) (by omega)) (g1 _ (by omega) (by omega)) (g1 _ (by omega) (by omega)) t3
        · rw [if_neg c2, if_neg c2, if_pos (by omega)]; exact hmv (j - 1) (by omega)
/-! the path grows -/
def z_gp (P : z_P) (b : Nat) (p : Nat → Nat) (k : Nat) : Prop := (∀ j, j ≤ k → p j < 9 ∧ (z_th P).testBit (p j) = true) ∧ (p k = b ∨ (z_ab P (p k)).testBit b = true) ∧ k ≤ z_pc (z_un P (p k))
theorem z_gp_nx (hw : z_wf P) {b : Nat} (hb : b < 9) {p : Nat → Nat} {k y : Nat} (h : z_gp P b p k) (hy : y < 9) (hn : (z_nxt P b (p k)).testBit y = true) : z_gp P b (z_ud p (k + 1) y) (k + 1) := by
  obtain ⟨h1, h2, h3⟩ := h
  obtain ⟨c1, c2⟩ := z_nxt_b hw hb (h1 k (Nat.le_refl k)).1 hy hn
  refine ⟨fun j hj => ?_, by rw [z_ud_eq]; exact c2, ?_⟩
  · by_cases e : j = k + 1
    · subst e; rw [z_ud_eq]; exact ⟨hy, (hw.in _ y (h1 k (Nat.le_refl k)).1 hy c1).2⟩
    · rw [z_ud_ne _ e]; exact h1 j (by omega)
  · rw [z_ud_eq]
    have := z_un_st hw (h1 k (Nat.le_refl k)).1 hy c1
    omega
theorem z_gp_7 (hw : z_wf P) {b : Nat} (hb : b < 9) {p : Nat → Nat} {k : Nat} (h : z_gp P b p k) (hne : p k ≠ b) : k ≤ 7 := by
  obtain ⟨h1, h2, h3⟩ := h
  have := z_un_st hw (h1 k (Nat.le_refl k)).1 hb (h2.resolve_left hne)
  have := z_un_8 hw hb
  omega
theorem z_gp_8 (hw : z_wf P) {b : Nat} {p : Nat → Nat} {k : Nat} (h : z_gp P b p k) : k ≤ 8 := by
  have := z_un_8 hw (h.1 k (Nat.le_refl k)).1
  have := h.2.2
  omega
theorem s2_grow (hw : z_wf P) {b : Nat} (hb : b < 9) (tb : (z_th P).testBit b = true) : ∀ n k p S v F, k + n = 9 → n < F → z_rc v 0 P → z_gp P b p k → (∀ j, j ≤ k → v.1 88 j = nI (p j)) → z_rcC v P S → S.1 + z_gn P b n (p k) ≤ 12 → z_ok (f_X2_grow F 0 (nI b) (nI k) v) (fun v' => (∀ i, i < 86 → v'.1 i = v.1 i) ∧ (∀ j, j ≤ k → v'.1 88 j = v.1 88 j) ∧ z_rcC v' P (z_grow P b n p k S))
  | 0, k, p, S, v, F, hk, hF, hr, hg, hv, hS, h12 => by
    have := z_gp_8 hw hg
    omega
  | n + 1, k, p, S, v, F, hk, hF, hr, hg, hv, hS, h12 => by
    match F, hF with
    | F + 1, hF =>
      have hk9 : k < 9 := by omega
      obtain ⟨hpk, tpk⟩ := hg.1 k (Nat.le_refl k)
      show z_ok (fb_X2_grow (f_X2_grow F) 0 (nI b) (nI k) v) _
      unfold fb_X2_grow
      rw [z_ok_gd, z_gI, z_c9 hk9, hv k (Nat.le_refl k), z_ok_ite, z_eqI (show p k < 2 ^ 31 by omega) (show b < 2 ^ 31 by omega)]
      refine ⟨z_in9 hk9, fun e => ?_, fun e => ?_⟩
      · have hgr : z_grow P b (n + 1) p k S = z_sin P (k, p) S := by rw [z_grow, if_pos e]
        have hgn : z_gn P b (n + 1) (p k) = 1 := by rw [z_gn, if_pos e]
        obtain ⟨v', i1, i2, i3, i4⟩ := s2_insert hr hw (k := k) (p := p) (by omega) (fun j hj => ⟨(hg.1 j hj).1, hv j hj⟩) hS (by omega)
        rw [i1, Option.bind_some, z_ok_some, hgr]
        exact ⟨i2, fun j _ => by rw [i3], i4⟩
      · have hk7 := z_gp_7 hw hb hg e
        have hgr : z_grow P b (n + 1) p k S = z_fy (z_nxt P b (p k)) (fun y S => z_grow P b n (z_ud p (k + 1) y) (k + 1) S) 9 S := by rw [z_grow, if_neg e]
        have hgn : z_gn P b (n + 1) (p k) = fb_sm (fun y => if (z_nxt P b (p k)).testBit y then z_gn P b n y else 0) 9 := by rw [z_gn, if_neg e]
        have hct : ∀ m, m ≤ 9 → (z_fy (z_nxt P b (p k)) (fun y S => z_grow P b n (z_ud p (k + 1) y) (k + 1) S) m S).1 = S.1 + fb_sm (fun y => if (z_nxt P b (p k)).testBit y then z_gn P b n y else 0) m := z_fy_ct (c := fun y => z_gn P b n y) (fun y S _ _ => by rw [z_grow_ct b n (z_ud p (k + 1) y) (k + 1) S, z_ud_eq]) S
        have hn512 : z_nxt P b (p k) < 512 := z_en_lt _ _
        rw [z_1, if_pos (show nI (k + 1) < 9 from nI_lt (b := 9) (by omega) (by decide)), z_ok_gd, s6_atMost hr hw hb, tb, if_pos rfl, Option.bind_some, s6_coverers hr hw hpk, tpk, if_pos rfl, Option.bind_some, hgr]
        refine ⟨z_in9 hk9, ?_⟩
        refine z_ok_l9 (fun m q => q.1 = nI m ∧ (∀ i, i < 86 → q.2.1 i = v.1 i) ∧ (∀ j, j ≤ k → q.2.1 88 j = v.1 88 j) ∧ z_rcC q.2 P (z_fy (z_nxt P b (p k)) (fun y S => z_grow P b n (z_ud p (k + 1) y) (k + 1) S) m S)) ⟨rfl, fun _ _ => rfl, fun _ _ => rfl, hS⟩ ?_ ?_
        · rintro y ⟨yy, v1⟩ hy ⟨e1, e2, e3, e4⟩ kb hkb
          dsimp only at e1 e2 e3 e4
          subst e1
          unfold b_X2_grow_46
          dsimp only
          rw [if_neg (show ¬ (9 : Int32) ≤ nI y by rw [z_le9 hy]; exact id), show nI (z_cov P (p k) (z_dn P b)) = nI (z_nxt P b (p k)) from rfl, s_isIn hn512, Option.bind_some, z_is_nI hy, z_ok_bit, z_1 y]
          refine ⟨fun c => hkb _ ⟨rfl, e2, e3, ?_⟩, fun c => ?_⟩
          · rw [z_fy, if_neg (by rw [c]; decide)]
            exact e4
          · rw [z_1, z_ok_gd, z_ok_lt, z_c9 (show k + 1 < 9 by omega)]
            refine ⟨z_in9 (by omega), ?_⟩
            have hle := fb_sm_part (fun y => if (z_nxt P b (p k)).testBit y then z_gn P b n y else 0) hy
            try dsimp only at hle
            rw [if_pos c] at hle
            have hcy := hct y (by omega)
            obtain ⟨v2, g1, g2, g3, g4⟩ := s2_grow hw hb tb n (k + 1) (z_ud p (k + 1) y) (z_fy (z_nxt P b (p k)) (fun y S => z_grow P b n (z_ud p (k + 1) y) (k + 1) S) y S) (z_sI v1 88 (k + 1) (nI y)) F (by omega) (by omega) (z_rc_cg (fun j hj => by rw [z_sI_ne (by omega)]; exact e2 _ (by omega)) hr) (z_gp_nx hw hb hg hy c) (fun j hj => by
              rw [z_sI_1]
              by_cases c2 : k + 1 = j
              · rw [if_pos ⟨rfl, c2⟩, ← c2, z_ud_eq]
              · rw [if_neg (fun h => c2 h.2), z_ud_ne _ (Ne.symm c2), e3 j (by omega)]
                exact hv j (by omega)) (by
              obtain ⟨s1, s2, s3, s4⟩ := e4
              refine ⟨s1, by rw [z_sI_ne (by decide)]; exact s2, ?_, fun i hi => ?_⟩
              · unfold z_pm
                rw [z_sI_ne (by decide)]
                exact s3
              · rw [z_sI_ne (by decide)]
                obtain ⟨cc, c1', c2', c3', c4'⟩ := z_pm_pl s3 (show i < 12 by omega)
                have := s4 i hi
                rw [c3'] at this ⊢
                exact z_cr1_cg (z_sI_ne (by omega)) (z_sI_ne (by omega)) (z_sI_ne (by omega)) this) (by rw [z_ud_eq]; omega)
            rw [g1, Option.bind_some]
            refine hkb _ ⟨rfl, fun i hi => ?_, fun j hj => ?_, ?_⟩
            · dsimp only
              rw [g2 i hi, z_sI_ne (by omega)]; exact e2 i hi
            · dsimp only
              rw [g3 j (by omega), z_sI_1, if_neg (by omega)]; exact e3 j hj
            · dsimp only
              rw [z_fy, if_pos c]
              exact g4
        · rintro ⟨yy, v1⟩ ⟨e1, e2, e3, e4⟩ kb
          dsimp only at e1 e2 e3 e4
          subst e1
          unfold b_X2_grow_46
          dsimp only
          rw [if_pos (show (9 : Int32) ≤ nI 9 by decide), z_ok_some]
          exact ⟨e2, e3, e4⟩
/-- all chains of an interval, in their order -/
def z_all (P : z_P) (a b : Nat) : z_St := z_grow P b 9 (fun _ => a) 0 (0, fun _ => (0, fun _ => 0))
theorem s2_fill (hr : z_rc u 0 P) (hw : z_wf P) (pm : z_pm u) {a b : Nat} (ha : a < 9) (hb : b < 9) (ta : (z_th P).testBit a = true) (tb : (z_th P).testBit b = true) (hab : a = b ∨ (z_ab P a).testBit b = true) : z_ok (f_X2_fill 0 (nI a) (nI b) u) (fun u' => (∀ i, i < 86 → u'.1 i = u.1 i) ∧ z_rcC u' P (z_all P a b)) := by
  unfold f_X2_fill
  rw [z_ok_lt, z_ok_gd, z_ok_lt, z_c0]
  refine ⟨rfl, ?_⟩
  obtain ⟨v', g1, g2, g3, g4⟩ := s2_grow hw hb tb 9 0 (fun _ => a) (0, fun _ => (0, fun _ => 0)) (z_sI (z_sI u 86 0 0) 88 0 (nI a)) 14 rfl (by decide) (z_rc_cg (fun j hj => by rw [z_sI_ne (by omega), z_sI_ne (by omega)]) hr) ⟨fun j hj => ⟨ha, ta⟩, hab, Nat.zero_le _⟩ (fun j hj => by rw [show j = 0 by omega]; simp [z_sI_1]) ⟨by decide, by rw [z_sI_ne (by decide)]; simp [z_sI_1, nI_0], by unfold z_pm; rw [z_sI_ne (by decide), z_sI_ne (by decide)]; exact pm, fun i hi => absurd hi (by omega)⟩ (by
    have := z_gn_le hw ha hb hab 9
    show 0 + z_gn P b 9 a ≤ 12
    omega)
  have g1 : f_X2_grow 14 0 (nI b) 0 (z_sI (z_sI u 86 0 0) 88 0 (nI a)) = some v' := g1
  rw [g1, Option.bind_some, z_ok_some]
  exact ⟨fun i hi => by rw [g2 i hi, z_sI_ne (by omega), z_sI_ne (by omega)], g4⟩
end
