section
variable {u w v : z_M} {P : z_P}
/-! all chains come by their points -/
def z_Ag (k : Nat) (p : Nat → Nat) (d : z_Cn) : Prop := k ≤ d.1 ∧ ∀ t, t ≤ k → d.2 t = p t
def z_All (Q : z_Cn → Prop) (S : z_St) : Prop := ∀ i, i < S.1 → Q (S.2 i)
theorem z_sin_all {Q : z_Cn → Prop} {c : z_Cn} {S : z_St} (h : z_All Q S) (hc : Q c) : z_All Q (z_sin P c S) := by
  intro i hi
  have hi : i < S.1 + 1 := hi
  have hle := z_ips_le (P := P) c S.2 S.1
  show Q (z_ins P c S.2 S.1 i)
  unfold z_ins
  split
  · exact h i (by omega)
  · split
    · exact hc
    · exact h (i - 1) (by omega)
/-- behind the children up to y -/
def z_Up (k y : Nat) (p : Nat → Nat) (d : z_Cn) : Prop := z_Lt k p d ∨ (z_Ag k p d ∧ k + 1 ≤ d.1 ∧ d.2 (k + 1) < y)
theorem z_Up_in {k y : Nat} {p : Nat → Nat} {d : z_Cn} (h : z_Up k y p d) : z_Lt (k + 1) (z_ud p (k + 1) y) d := by
  rcases h with ⟨j, j1, j2, j3, j4⟩ | ⟨⟨a1, a2⟩, a3, a4⟩
  · exact ⟨j, by omega, j2, fun t ht => by rw [z_ud_ne _ (by omega)]; exact j3 t ht, by rw [z_ud_ne _ (by omega)]; exact j4⟩
  · exact ⟨k + 1, Nat.le_refl _, a3, fun t ht => by rw [z_ud_ne _ (by omega)]; exact a2 t (by omega), by rw [z_ud_eq]; exact a4⟩
theorem z_Up_out {k y : Nat} {p : Nat → Nat} {d : z_Cn} (h : z_Lt (k + 1) (z_ud p (k + 1) y) d ∨ z_Ag (k + 1) (z_ud p (k + 1) y) d) : z_Up k (y + 1) p d := by
  rcases h with ⟨j, j1, j2, j3, j4⟩ | ⟨a1, a2⟩
  · by_cases e : j = k + 1
    · subst e
      rw [z_ud_eq] at j4
      exact Or.inr ⟨⟨by omega, fun t ht => by rw [j3 t (by omega), z_ud_ne _ (by omega)]⟩, j2, by omega⟩
    · rw [z_ud_ne _ e] at j4
      exact Or.inl ⟨j, by omega, j2, fun t ht => by rw [j3 t ht, z_ud_ne _ (by omega)], j4⟩
  · have := a2 (k + 1) (Nat.le_refl _)
    rw [z_ud_eq] at this
    exact Or.inr ⟨⟨by omega, fun t ht => by rw [a2 t (by omega), z_ud_ne _ (by omega)]⟩, a1, by omega⟩
theorem z_Up_mono {k y : Nat} {p : Nat → Nat} {d : z_Cn} (h : z_Up k y p d) : z_Up k (y + 1) p d := h.imp id (fun ⟨a, b, c⟩ => ⟨a, b, by omega⟩)
theorem z_grow_all (b : Nat) : ∀ n p k S, z_All (z_Lt k p) S → z_All (fun d => z_Lt k p d ∨ z_Ag k p d) (z_grow P b n p k S)
  | 0, p, k, S, h => fun i hi => Or.inl (h i hi)
  | n + 1, p, k, S, h => by
    rw [z_grow]
    by_cases c : p k = b
    · rw [if_pos c]
      exact z_sin_all (fun i hi => Or.inl (h i hi)) (Or.inr ⟨Nat.le_refl k, fun _ _ => rfl⟩)
    · rw [if_neg c]
      have key : ∀ m, z_All (z_Up k m p) (z_fy (z_nxt P b (p k)) (fun y S => z_grow P b n (z_ud p (k + 1) y) (k + 1) S) m S) := by
        intro m
        induction m with
        | zero => exact fun i hi => Or.inl (h i hi)
        | succ m ih =>
          rw [z_fy]
          split
          · intro i hi
            exact z_Up_out (z_grow_all b n (z_ud p (k + 1) m) (k + 1) _ (fun i hi => z_Up_in (ih i hi)) i hi)
          · exact fun i hi => z_Up_mono (ih i hi)
      intro i hi
      rcases key 9 i hi with h1 | ⟨h1, -⟩
      · exact Or.inl h1
      · exact Or.inr h1
theorem z_fy_all (b n : Nat) {p : Nat → Nat} {k : Nat} {S : z_St} (h : z_All (z_Lt k p) S) : ∀ m, z_All (z_Up k m p) (z_fy (z_nxt P b (p k)) (fun y S => z_grow P b n (z_ud p (k + 1) y) (k + 1) S) m S)
  | 0 => fun i hi => Or.inl (h i hi)
  | m + 1 => by
    have ih := z_fy_all b n h m
    rw [z_fy]
    split
    · intro i hi
      exact z_Up_out (z_grow_all b n (z_ud p (k + 1) m) (k + 1) _ (fun i hi => z_Up_in (ih i hi)) i hi)
    · exact fun i hi => z_Up_mono (ih i hi)
/-! the reference's way through them -/
def z_lsm (w v : z_M) : Prop := (∀ i, i ≠ 0 → i ≠ 9 → i ≠ 10 → i ≠ 11 → i ≠ 12 → v.1 i = w.1 i) ∧ ∀ k, k ≠ 18 → v.1 0 k = w.1 0 k
theorem z_rrC_cg {v v' : z_M} {S : z_St} (h0 : v'.1 0 18 = v.1 0 18) (h9 : v'.1 9 = v.1 9) (h10 : v'.1 10 = v.1 10) (h : z_rrC v S) : z_rrC v' S := by
  unfold z_rrC at *
  rw [h0, h9, h10]
  exact h
theorem s10_lay (hr : z_rr (w.1 1) P) (hw : z_wf P) {a b : Nat} (ha : a < 9) (hb : b < 9) (ta : (z_th P).testBit a = true) (tb : (z_th P).testBit b = true) (kx : z_M → Option z_M) : ∀ n k p S v, k + n = 9 → z_lsm w v → z_gp P b p k → (p k = a ∨ (z_ab P a).testBit (p k) = true) → (∀ j, j ≤ k → v.1 11 j = nI (p j)) → v.1 12 k = 0 → z_rrC v S → z_All (z_Lt k p) S → S.1 + z_gn P b n (p k) ≤ 12 → ∃ v', z_rch (b_X10_layChains_21 (nI a) (nI b)) kx (z_LK n) (nI (k + 1), v) (nI k, v') ∧ z_lsm w v' ∧ (∀ j, j ≤ k → v'.1 11 j = v.1 11 j) ∧ (∀ j, j < k → v'.1 12 j = v.1 12 j) ∧ z_rrC v' (z_grow P b n p k S)
  | 0, k, p, S, v, hk, hv, hg, _, _, _, _, _, _ => by
    have := z_gp_8 hw hg
    omega
  | n + 1, k, p, S, v, hk, hv, hg, hpa, hpth, htr, hS, hL, h12 => by
    have hk9 : k < 9 := by omega
    obtain ⟨hpk, tpk⟩ := hg.1 k (Nat.le_refl k)
    have hn0 : ¬ nI (k + 1) ≤ 0 := nI_nle (by omega) (by omega)
    have ik10 : z_inb (nI k) 10 = true := z_inb_nI (by omega) (by decide)
    have ck : (nI k).toNatClampNeg = k := z_cl (by omega)
    have eb : (nI (p k) = nI b) = (p k = b) := z_eqI (by omega) (by omega)
    by_cases e : p k = b
    · have hgr : z_grow P b (n + 1) p k S = z_sin P (k, p) S := by rw [z_grow, if_pos e]
      have hgn : z_gn P b (n + 1) (p k) = 1 := by rw [z_gn, if_pos e]
      have hrv : z_rr (v.1 1) P := by rw [hv.1 1 (by decide) (by decide) (by decide) (by decide) (by decide)]; exact hr
      obtain ⟨v', i1, i2, i3, i4⟩ := s10_addChain (w := v) hrv hw (m := k) (p := p) (by omega) (fun j hj => ⟨(hg.1 j hj).1, hpth j hj⟩) hS (by omega) hL
      refine ⟨v', z_rch.le (z_rch.one (fun kb => ?_)) (by show 1 ≤ 9 * (z_LK n + 1) + 2; omega), ⟨fun i c0 c9 c10 c11 c12 => by rw [i2 i c0 c9 c10]; exact hv.1 i c0 c9 c10 c11 c12, fun j hj => by rw [i3 j hj]; exact hv.2 j hj⟩, fun j _ => by rw [i2 11 (by decide) (by decide) (by decide)], fun j _ => by rw [i2 12 (by decide) (by decide) (by decide)], by rw [hgr]; exact i4⟩
      unfold b_X10_layChains_21
      dsimp only
      rw [if_neg hn0, nI_pred, ik10, z_gI, z_gI, ck, hpth k (Nat.le_refl k), htr, i1, z_back]
      simp only [z_gd, if_true, z_lt, eb, e, Option.bind_some]
    · have hk7 := z_gp_7 hw hb hg e
      have hgr : z_grow P b (n + 1) p k S = z_fy (z_nxt P b (p k)) (fun y S => z_grow P b n (z_ud p (k + 1) y) (k + 1) S) 9 S := by rw [z_grow, if_neg e]
      have hgn : z_gn P b (n + 1) (p k) = fb_sm (fun y => if (z_nxt P b (p k)).testBit y then z_gn P b n y else 0) 9 := by rw [z_gn, if_neg e]
      have hct : ∀ m, m ≤ 9 → (z_fy (z_nxt P b (p k)) (fun y S => z_grow P b n (z_ud p (k + 1) y) (k + 1) S) m S).1 = S.1 + fb_sm (fun y => if (z_nxt P b (p k)).testBit y then z_gn P b n y else 0) m := z_fy_ct (c := fun y => z_gn P b n y) (fun y S _ _ => by rw [z_grow_ct b n (z_ud p (k + 1) y) (k + 1) S, z_ud_eq]) S
      have hbt := z_bt_lt hw ha (b := b)
      have key : ∀ m y0, y0 + m = 9 → ∀ v1, z_lsm w v1 → (∀ j, j ≤ k → v1.1 11 j = v.1 11 j) → (∀ j, j < k → v1.1 12 j = v.1 12 j) → v1.1 12 k = nI y0 → z_rrC v1 (z_fy (z_nxt P b (p k)) (fun y S => z_grow P b n (z_ud p (k + 1) y) (k + 1) S) y0 S) → ∃ v', z_rch (b_X10_layChains_21 (nI a) (nI b)) kx (m * (z_LK n + 1) + 1) (nI (k + 1), v1) (nI k, v') ∧ z_lsm w v' ∧ (∀ j, j ≤ k → v'.1 11 j = v.1 11 j) ∧ (∀ j, j < k → v'.1 12 j = v.1 12 j) ∧ z_rrC v' (z_fy (z_nxt P b (p k)) (fun y S => z_grow P b n (z_ud p (k + 1) y) (k + 1) S) 9 S) := by
        intro m
        induction m with
        | zero =>
          intro y0 hy0 v1 f1 f2 f3 f4 f5
          have : y0 = 9 := by omega
          subst this
          refine ⟨v1, z_rch.le (z_rch.one (fun kb => ?_)) (by omega), f1, f2, f3, f5⟩
          unfold b_X10_layChains_21
          dsimp only
          rw [if_neg hn0, nI_pred, ik10, z_gI, z_gI, ck, f2 k (Nat.le_refl k), hpth k (Nat.le_refl k), f4, z_back]
          simp only [z_gd, if_true, z_lt, eb, e, if_false, show (nI 9 = 9) = True by decide]
        | succ m ih =>
          intro y hy v1 f1 f2 f3 f4 f5
          have hy9 : y < 9 := by omega
          have ny9 : ¬ nI y = 9 := fun c => by
            have := (nI_eq (a := y) (b := 9) (by omega) (by decide)).mp c
            omega
          have hrv : z_rr (v1.1 1) P := by rw [f1.1 1 (by decide) (by decide) (by decide) (by decide) (by decide)]; exact hr
          obtain ⟨v2, hv2⟩ : ∃ v2, v2 = z_sI v1 12 k (nI (y + 1)) := ⟨_, rfl⟩
          have hrv2 : z_rr (v2.1 1) P := by rw [hv2, z_sI_ne (by decide)]; exact hrv
          have g1 : z_lsm w v2 := ⟨fun i c0 c9 c10 c11 c12 => by rw [hv2, z_sI_ne c12]; exact f1.1 i c0 c9 c10 c11 c12, fun j hj => by rw [hv2, z_sI_ne (by decide)]; exact f1.2 j hj⟩
          have g2 : ∀ j, j ≤ k → v2.1 11 j = v.1 11 j := fun j hj => by rw [hv2, z_sI_ne (by decide)]; exact f2 j hj
          have g3 : ∀ j, j < k → v2.1 12 j = v.1 12 j := fun j hj => by rw [hv2, z_sI_1, if_neg (by omega)]; exact f3 j hj
          have g4 : v2.1 12 k = nI (y + 1) := by rw [hv2, z_sI_1, if_pos ⟨rfl, rfl⟩]
          have g5 : z_rrC v2 (z_fy (z_nxt P b (p k)) (fun y S => z_grow P b n (z_ud p (k + 1) y) (k + 1) S) y S) := z_rrC_cg (by rw [hv2, z_sI_ne (by decide)]) (by rw [hv2, z_sI_ne (by decide)]) (by rw [hv2, z_sI_ne (by decide)]) f5
          have hstep : ∀ kb, b_X10_layChains_21 (nI a) (nI b) (nI (k + 1), v1) kb kx = if (z_nxt P b (p k)).testBit y = true then kb (nI (k + 1 + 1), z_sI (z_sI v2 11 (k + 1) (nI y)) 12 (k + 1) 0) else kb (nI (k + 1), v2) := by
            intro kb
            have ik1 : z_inb (nI (k + 1)) 10 = true := z_inb_nI (by omega) (by decide)
            have ck1 : (nI (k + 1)).toNatClampNeg = k + 1 := z_cl (by omega)
            unfold b_X10_layChains_21
            dsimp only
            rw [if_neg hn0, nI_pred, ik10, z_gI, z_gI, ck, f2 k (Nat.le_refl k), hpth k (Nat.le_refl k), f4, z_1]
            simp only [z_gd, if_true, z_lt, eb, e, if_false, ny9, ← hv2, ik1, ck1, z_1]
            rw [s10_between hrv2 hw ha hb ta tb, Option.bind_some, s_has (z_31 hbt) hy9, Option.bind_some]
            cases hin : (z_bt P a b).testBit y
            · rw [if_pos z_bf0, if_neg]
              intro c
              obtain ⟨c1, c2⟩ := z_nxt_b hw hb hpk hy9 c
              rw [z_bt_bit hy9] at hin
              have hay : (z_ab P a).testBit y = true := by
                rcases hpa with h | h
                · rw [← h]; exact c1
                · exact hw.tr a (p k) y ha hpk hy9 h c1
              rcases c2 with c2 | c2
              · rw [hay, Bool.true_or, Bool.true_and, c2] at hin
                simp at hin
              · simp [hay, c2] at hin
            · have ty := z_bt_in hw ha ta hy9 hin
              rw [if_neg z_bt0, s10_covers hrv2 hw hpk hy9 tpk ty, Option.bind_some]
              have hdn : (z_dn P b).testBit y = true := by rw [z_bt, Nat.testBit_and, Bool.and_eq_true] at hin; exact hin.2
              cases hcv : ((z_ab P (p k)).testBit y && z_inr P (p k) y == 0)
              · rw [if_pos z_bf0, if_neg]
                intro c
                obtain ⟨c1, -, c3⟩ := (z_nxt_bit hw hb hpk hy9).mp c
                simp [c1, c3] at hcv
              · rw [Bool.and_eq_true, beq_iff_eq] at hcv
                rw [if_neg z_bt0, if_pos ((z_nxt_bit hw hb hpk hy9).mpr ⟨hcv.1, hdn, hcv.2⟩)]
          by_cases c : (z_nxt P b (p k)).testBit y = true
          · obtain ⟨v3, hv3⟩ : ∃ v3, v3 = z_sI (z_sI v2 11 (k + 1) (nI y)) 12 (k + 1) 0 := ⟨_, rfl⟩
            have s1 : z_rch (b_X10_layChains_21 (nI a) (nI b)) kx 1 (nI (k + 1), v1) (nI (k + 1 + 1), v3) := z_rch.one (fun kb => by rw [hstep, if_pos c, hv3])
            have hle := fb_sm_part (fun y => if (z_nxt P b (p k)).testBit y then z_gn P b n y else 0) hy9
            try dsimp only at hle
            rw [if_pos c] at hle
            have hcy := hct y (by omega)
            obtain ⟨c1, c2⟩ := z_nxt_b hw hb hpk hy9 c
            obtain ⟨v4, s2, q1, q2, q3, q4⟩ := s10_lay hr hw ha hb ta tb kx n (k + 1) (z_ud p (k + 1) y) (z_fy (z_nxt P b (p k)) (fun y S => z_grow P b n (z_ud p (k + 1) y) (k + 1) S) y S) v3 (by omega) ⟨fun i c0 c9 c10 c11 c12 => by rw [hv3, z_sI_ne c12, z_sI_ne c11]; exact g1.1 i c0 c9 c10 c11 c12, fun j hj => by rw [hv3, z_sI_ne (by decide), z_sI_ne (by decide)]; exact g1.2 j hj⟩ (z_gp_nx hw hb hg hy9 c) (by
              rw [z_ud_eq]
              right
              rcases hpa with h | h
              · rw [← h]; exact c1
              · exact hw.tr a (p k) y ha hpk hy9 h c1) (fun j hj => by
              rw [hv3, z_sI_ne (by decide), z_sI_1]
              by_cases c3 : k + 1 = j
              · rw [if_pos ⟨rfl, c3⟩, ← c3, z_ud_eq]
              · rw [if_neg (fun h => c3 h.2), z_ud_ne _ (Ne.symm c3), g2 j (by omega)]
                exact hpth j (by omega)) (by rw [hv3, z_sI_1, if_pos ⟨rfl, rfl⟩]) (z_rrC_cg (by rw [hv3, z_sI_ne (by decide), z_sI_ne (by decide)]) (by rw [hv3, z_sI_ne (by decide), z_sI_ne (by decide)]) (by rw [hv3, z_sI_ne (by decide), z_sI_ne (by decide)]) g5) (fun i hi => z_Up_in (z_fy_all b n hL y i hi)) (by rw [z_ud_eq]; omega)
            have hfy : z_fy (z_nxt P b (p k)) (fun y S => z_grow P b n (z_ud p (k + 1) y) (k + 1) S) (y + 1) S = z_grow P b n (z_ud p (k + 1) y) (k + 1) (z_fy (z_nxt P b (p k)) (fun y S => z_grow P b n (z_ud p (k + 1) y) (k + 1) S) y S) := by rw [z_fy, if_pos c]
            obtain ⟨v5, s3, r1, r2, r3, r4⟩ := ih (y + 1) (by omega) v4 q1 (fun j hj => by
              rw [q2 j (by omega), hv3, z_sI_ne (by decide), z_sI_1, if_neg (by omega)]
              exact g2 j hj) (fun j hj => by
              rw [q3 j (by omega), hv3, z_sI_1, if_neg (by omega), z_sI_ne (by decide)]
              exact g3 j hj) (by
              rw [q3 k (by omega), hv3, z_sI_1, if_neg (by omega), z_sI_ne (by decide)]
              exact g4) (by rw [hfy]; exact q4)
            refine ⟨v5, ((s1.tr s2).tr s3).le ?_, r1, r2, r3, r4⟩
            rw [Nat.add_mul]
            omega
          · have s1 : z_rch (b_X10_layChains_21 (nI a) (nI b)) kx 1 (nI (k + 1), v1) (nI (k + 1), v2) := z_rch.one (fun kb => by rw [hstep, if_neg c])
            have hfy : z_fy (z_nxt P b (p k)) (fun y S => z_grow P b n (z_ud p (k + 1) y) (k + 1) S) (y + 1) S = z_fy (z_nxt P b (p k)) (fun y S => z_grow P b n (z_ud p (k + 1) y) (k + 1) S) y S := by rw [z_fy, if_neg c]
            obtain ⟨v5, s3, r1, r2, r3, r4⟩ := ih (y + 1) (by omega) v2 g1 g2 g3 g4 (by rw [hfy]; exact g5)
            refine ⟨v5, (s1.tr s3).le ?_, r1, r2, r3, r4⟩
            rw [Nat.add_mul]
            omega
      obtain ⟨v', s, r1, r2, r3, r4⟩ := key 9 0 rfl v hv (fun _ _ => rfl) (fun _ _ => rfl) htr hS
      refine ⟨v', s.le (by show 9 * (z_LK n + 1) + 1 ≤ 9 * (z_LK n + 1) + 2; omega), r1, r2, r3, by rw [hgr]; exact r4⟩
theorem s10_layChains (hr : z_rr (w.1 1) P) (hw : z_wf P) {a b : Nat} (ha : a < 9) (hb : b < 9) (ta : (z_th P).testBit a = true) (tb : (z_th P).testBit b = true) (hab : a = b ∨ (z_ab P a).testBit b = true) : z_ok (f_X10_layChains (nI a) (nI b) w) (fun w' => z_lsm w w' ∧ z_rrC w' (z_all P a b)) := by
  unfold f_X10_layChains
  rw [z_ok_lt, z_ok_gd, z_ok_lt, z_ok_gd, z_ok_lt, z_c0]
  refine ⟨rfl, rfl, ?_⟩
  obtain ⟨w1, hw1⟩ : ∃ w1, w1 = z_sI (z_sI (z_sI w 0 18 0) 11 0 (nI a)) 12 0 0 := ⟨_, rfl⟩
  rw [← hw1]
  obtain ⟨v', s, r1, -, -, r4⟩ := s10_lay hr hw ha hb ta tb (fun t26 => some t26) 9 0 (fun _ => a) (0, fun _ => (0, fun _ => 0)) w1 rfl ⟨fun i c0 c9 c10 c11 c12 => by rw [hw1, z_sI_ne c12, z_sI_ne c11, z_sI_ne c0], fun j hj => by rw [hw1, z_sI_ne (by decide), z_sI_ne (by decide), z_sI_1, if_neg (fun h => hj h.2.symm)]⟩ ⟨fun j hj => ⟨ha, ta⟩, hab, Nat.zero_le _⟩ (Or.inl rfl) (fun j hj => by
    rw [show j = 0 by omega, hw1, z_sI_ne (by decide), z_sI_1, if_pos ⟨rfl, rfl⟩]) (by rw [hw1, z_sI_1, if_pos ⟨rfl, rfl⟩]) ⟨by decide, by rw [hw1, z_sI_ne (by decide), z_sI_ne (by decide), z_sI_1, if_pos ⟨rfl, rfl⟩]; rfl, fun i hi => absurd hi (by omega)⟩ (fun i hi => absurd hi (by omega)) (by
    have := z_gn_le hw ha hb hab 9
    show 0 + z_gn P b 9 a ≤ 12
    omega)
  have hend := s.end (r := some v') (by decide) (fun kb => by
    unfold b_X10_layChains_21
    dsimp only
    rw [if_pos (show nI 0 ≤ 0 by decide)])
  exact z_ok_of hend ⟨r1, r4⟩
end
