section
variable {u w v : z_M} {P : z_P}
/-! the reference's chains -/
def z_rrC (w : z_M) (S : z_St) : Prop := S.1 ≤ 12 ∧ w.1 0 18 = nI S.1 ∧ ∀ i, i < S.1 → w.1 10 i = nI ((S.2 i).1 + 1) ∧ (S.2 i).1 ≤ 8 ∧ ∀ k, k ≤ (S.2 i).1 → (S.2 i).2 k < 9 ∧ w.1 9 (9 * i + k) = nI ((S.2 i).2 k)
theorem z_ix64 {i : Nat} (h : i < 64) : z_inb (nI i) 64 = true := z_inb_nI h (by decide)
theorem s10_chainAt {i k : Nat} (hi : i < 63) (hk : k < 9) : f_X10_chainAt (nI i) (nI k) w = some (w.1 9 (9 * i + k)) := by
  unfold f_X10_chainAt
  rw [show (9 : Int32) * nI i = nI (9 * i) from z_mulI 9 i, z_addI, z_inb_nI (show 9 * i + k < 576 by omega) (by decide), z_gI, z_cl (by omega)]
  rfl
theorem s10_labelAt (hr : z_rr (w.1 1) P) (hw : z_wf P) {i k : Nat} {c : z_Cn} (hi : i < 63) (hk : k < c.1) (hc : c.1 ≤ 8) (h : ∀ t, t ≤ c.1 → c.2 t < 9 ∧ w.1 9 (9 * i + t) = nI (c.2 t)) : f_X10_labelAt (nI i) (nI k) w = some (z_lbc P c k) := by
  unfold f_X10_labelAt
  rw [s10_chainAt hi (by omega), Option.bind_some, z_1, s10_chainAt hi (by omega), Option.bind_some, (h k (by omega)).2, (h (k + 1) (by omega)).2, s10_labelBy hr hw (h k (by omega)).1 (h (k + 1) (by omega)).1, Option.bind_some]
  rfl
/-- a chain stands ahead of the path by its points -/
def z_Lt (k : Nat) (p : Nat → Nat) (d : z_Cn) : Prop := ∃ j, j ≤ k ∧ j ≤ d.1 ∧ (∀ t, t < j → d.2 t = p t) ∧ d.2 j < p j
theorem s10_isAhead (hr : z_rr (w.1 1) P) (hw : z_wf P) {m i : Nat} {p : Nat → Nat} {d : z_Cn} (hm : m ≤ 8) (hp : ∀ j, j ≤ m → p j < 9 ∧ w.1 11 j = nI (p j)) (hi : i < 63) (hd : d.1 ≤ 8) (hs : w.1 10 i = nI (d.1 + 1)) (h : ∀ t, t ≤ d.1 → d.2 t < 9 ∧ w.1 9 (9 * i + t) = nI (d.2 t)) (hl : z_Lt m p d) : f_X10_isAhead (nI (m + 1)) (nI i) w = some (z_bi (z_ah P (m, p) d)) := by
  unfold f_X10_isAhead
  rw [s1_cmp (P := P) (c := (m, p)) (d := d) (fun k hk kb => ?_) hm]
  · have hkx : z_gd (z_inb (nI i) 64) (if nI (m + 1) = z_gI w 10 (nI i).toNatClampNeg then z_lp (b_X10_isAhead_103 (nI (m + 1)) (nI i) w) z_F 0 (fun t21 => some 0) else z_gd (z_inb (nI i) 64) (if z_gI w 10 (nI i).toNatClampNeg ≤ nI (m + 1) then some 0 else some 1)) = some (z_bi (decide (m < d.1))) := by
      rw [z_ix64 (by omega), z_gd, if_pos rfl, z_gI, z_cl (show i < 2 ^ 31 by omega), hs]
      by_cases e : m = d.1
      · rw [if_pos (by rw [e]), decide_eq_false (by omega)]
        obtain ⟨j, j1, j2, j3, j4⟩ := hl
        rw [← z_ok_eq]
        refine z_ok_lp (fun k q => q = nI k) j (z_F_lt (by omega)) rfl ?_ ?_
        · rintro k q hk rfl kb hkb
          unfold b_X10_isAhead_103
          rw [if_neg (nI_ge (by omega) (by omega)), z_ok_gd, s10_chainAt hi (by omega), Option.bind_some, z_gI, z_cl (show k < 2 ^ 31 by omega), (hp k (by omega)).2, (h k (by omega)).2, j3 k hk, if_pos rfl, z_1]
          exact ⟨z_inb_nI (by omega) (by decide), hkb _ rfl⟩
        · rintro q rfl kb
          have hpj := (hp j (by omega)).1
          have hdj := (h j (by omega)).1
          unfold b_X10_isAhead_103
          rw [if_neg (nI_ge (by omega) (by omega)), z_ok_gd, s10_chainAt hi (by omega), Option.bind_some, z_gI, z_cl (show j < 2 ^ 31 by omega), (hp j (by omega)).2, (h j (by omega)).2, if_neg (by rw [z_eqI (by omega) (by omega)]; omega), z_ok_gd, Option.bind_some, if_pos (nI_le (by omega) (by omega)), z_ok_some]
          exact ⟨z_inb_nI (by omega) (by decide), z_inb_nI (by omega) (by decide), rfl⟩
      · rw [if_neg (by rw [z_eqI (by omega) (by omega)]; omega), z_gd, if_pos rfl]
        by_cases e2 : d.1 ≤ m
        · rw [if_pos (nI_le (by omega) (by omega)), decide_eq_false (by omega)]; rfl
        · rw [if_neg (nI_ge (by omega) (by omega)), decide_eq_true (by omega)]; rfl
    rw [hkx]
    unfold z_ah
    cases z_cf P (m, p) d 9 0 with
    | some r => rfl
    | none => rfl
  · unfold b_X10_isAhead_2
    dsimp only
    rw [z_1]
    by_cases e1 : m ≤ k
    · rw [if_pos (nI_le (by omega) (by omega)), if_pos (Or.inl e1)]
    · rw [if_neg (nI_ge (by omega) (by omega)), z_ix64 (by omega), z_gd, if_pos rfl, z_gI, z_cl (show i < 2 ^ 31 by omega), hs]
      by_cases e2 : d.1 ≤ k
      · rw [if_pos (nI_le (by omega) (by omega)), if_pos (Or.inr e2)]
      · have hpk := hp k (by omega)
        have hpk1 := hp (k + 1) (by omega)
        rw [if_neg (nI_ge (by omega) (by omega)), if_neg (show ¬ (m ≤ k ∨ d.1 ≤ k) by omega), z_inb_nI (show k < 10 by omega) (by decide), z_inb_nI (show k + 1 < 10 by omega) (by decide), z_gI, z_gI, z_cl (show k < 2 ^ 31 by omega), z_cl (show k + 1 < 2 ^ 31 by omega), hpk.2, hpk1.2, s10_labelBy hr hw hpk.1 hpk1.1, s10_labelAt hr hw hi (by omega) hd h]
        simp only [z_gd, if_true, Option.bind_some]
        have el : z_lb P (p k) (p (k + 1)) = z_lbc P (m, p) k := rfl
        rw [el]
        by_cases e3 : z_lbc P (m, p) k = z_lbc P d k
        · rw [if_pos e3, if_pos e3]
        · rw [if_neg e3, if_neg e3]
          by_cases e4 : z_lbc P (m, p) k < z_lbc P d k
          · rw [decide_eq_true e4, if_neg (Int32.not_le.mpr e4)]; rfl
          · rw [decide_eq_false e4, if_pos (Int32.not_lt.mp e4)]; rfl
/-! a chain is added -/
theorem s10_cp9 {i : Nat} (hi : i < 62) {a : Int32} {kx : z_M → Option z_M} {Q : z_M → Prop} (h : ∀ v', (∀ t, t ≠ 9 → v'.1 t = v.1 t) → (∀ j k, k < 9 → v'.1 9 (9 * j + k) = if j = i + 1 then v.1 9 (9 * i + k) else v.1 9 (9 * j + k)) → z_ok (kx v') Q) : z_ok (z_lp (b_X10_addChain_36 a (nI (i + 1))) z_F (0, v) kx) Q := by
  refine z_ok_l9 (fun t q => q.1 = nI t ∧ (∀ t, t ≠ 9 → q.2.1 t = v.1 t) ∧ ∀ j k, k < 9 → q.2.1 9 (9 * j + k) = if j = i + 1 ∧ k < t then v.1 9 (9 * i + k) else v.1 9 (9 * j + k)) ⟨rfl, fun _ _ => rfl, fun j k _ => by rw [if_neg (by omega)]⟩ ?_ ?_
  · rintro t ⟨tt, v1⟩ ht ⟨e1, e2, e3⟩ kb hkb
    dsimp only at e1 e2 e3
    subst e1
    have e9 : (9 : Int32) * nI (i + 1) + nI t = nI (9 * (i + 1) + t) := by rw [show (9 : Int32) * nI (i + 1) = nI (9 * (i + 1)) from z_mulI 9 (i + 1), z_addI]
    have e9' : (9 : Int32) * nI (i + 1) - 9 + nI t = nI (9 * i + t) := by
      have : (9 : Int32) * nI (i + 1) = nI (9 * i) + 9 := by rw [show (9 : Int32) * nI (i + 1) = nI (9 * (i + 1)) from z_mulI 9 (i + 1), show 9 * (i + 1) = 9 * i + 9 by omega, ← z_addI]; rfl
      rw [this, ← z_addI]
      grind
    unfold b_X10_addChain_36
    dsimp only
    rw [if_neg (show ¬ (9 : Int32) ≤ nI t by rw [z_le9 ht]; exact id), e9, e9', z_ok_gd, z_ok_gd, z_ok_lt, z_gI, z_cl (show 9 * i + t < 2 ^ 31 by omega), z_cl (show 9 * (i + 1) + t < 2 ^ 31 by omega), e3 i t ht, if_neg (by omega), z_1]
    refine ⟨z_inb_nI (by omega) (by decide), z_inb_nI (by omega) (by decide), hkb _ ⟨rfl, fun j hj => ?_, fun j k hk => ?_⟩⟩
    · dsimp only
      rw [z_sI_ne hj]; exact e2 j hj
    · dsimp only
      rw [z_sI_1]
      by_cases c : j = i + 1 ∧ k = t
      · rw [if_pos ⟨rfl, by rw [c.1, c.2]⟩, if_pos ⟨c.1, by omega⟩, c.2]
      · rw [if_neg (fun hh => c ⟨by omega, by omega⟩), e3 j k hk]
        by_cases c2 : j = i + 1 ∧ k < t
        · rw [if_pos c2, if_pos ⟨c2.1, by omega⟩]
        · rw [if_neg c2, if_neg (by omega)]
  · rintro ⟨tt, v1⟩ ⟨e1, e2, e3⟩ kb
    dsimp only at e1 e2 e3
    subst e1
    unfold b_X10_addChain_36
    dsimp only
    rw [if_pos (show (9 : Int32) ≤ nI 9 by decide)]
    refine h v1 e2 (fun j k hk => ?_)
    rw [e3 j k hk]
    by_cases c : j = i + 1
    · rw [if_pos ⟨c, hk⟩, if_pos c]
    · rw [if_neg (fun hh => c hh.1), if_neg c]
theorem s10_addChain (hr : z_rr (w.1 1) P) (hw : z_wf P) {m : Nat} {p : Nat → Nat} {S : z_St} (hm : m ≤ 8) (hp : ∀ j, j ≤ m → p j < 9 ∧ w.1 11 j = nI (p j)) (hS : z_rrC w S) (hS12 : S.1 < 12) (hl : ∀ i, i < S.1 → z_Lt m p (S.2 i)) : z_ok (f_X10_addChain (nI (m + 1)) w) (fun w' => (∀ i, i ≠ 0 → i ≠ 9 → i ≠ 10 → w'.1 i = w.1 i) ∧ (∀ k, k ≠ 18 → w'.1 0 k = w.1 0 k) ∧ z_rrC w' (z_sin P (m, p) S)) := by
  obtain ⟨h1, h2, h3⟩ := hS
  have hile := z_ips_le (P := P) (m, p) S.2 S.1
  obtain ⟨i0, hi0⟩ : ∃ i0, i0 = z_ips P (m, p) S.2 S.1 := ⟨_, rfl⟩
  rw [← hi0] at hile
  unfold f_X10_addChain
  rw [z_ok_lt, z_gI, h2]
  refine z_ok_lp (fun t q => q.1 = nI (S.1 - t) ∧ (∀ i, i ≠ 9 → i ≠ 10 → q.2.1 i = w.1 i) ∧ (∀ j, q.2.1 10 j = if S.1 - t < j ∧ j ≤ S.1 then w.1 10 (j - 1) else w.1 10 j) ∧ ∀ j k, k < 9 → q.2.1 9 (9 * j + k) = if S.1 - t < j ∧ j ≤ S.1 then w.1 9 (9 * (j - 1) + k) else w.1 9 (9 * j + k)) (S.1 - i0) (z_F_lt (by omega)) ⟨rfl, fun _ _ _ => rfl, fun j => by rw [if_neg (by omega)], fun j k _ => by rw [if_neg (by omega)]⟩ ?_ ?_
  · rintro t ⟨qi, v⟩ ht ⟨e1, e2, e3, e4⟩ kb hkb
    dsimp only at e1 e2 e3 e4
    subst e1
    obtain ⟨i, hi⟩ : ∃ i, S.1 - t = i + 1 := ⟨S.1 - t - 1, by omega⟩
    have hii : i < S.1 := by omega
    have hah : z_ah P (m, p) (S.2 i) = true := z_ips_hi (m, p) S.2 S.1 i (by omega) hii
    obtain ⟨g1, g2, g3⟩ := h3 i hii
    have hrv : z_rr (v.1 1) P := by rw [e2 1 (by decide) (by decide)]; exact hr
    have hahd := s10_isAhead (w := v) hrv hw hm (fun j hj => by rw [e2 11 (by decide) (by decide)]; exact hp j hj) (show i < 63 by omega) g2 (by rw [e3 i, if_neg (by omega)]; exact g1) (fun k hk => ⟨(g3 k hk).1, by rw [e4 i k (by omega), if_neg (by omega)]; exact (g3 k hk).2⟩) (hl i hii)
    unfold b_X10_addChain_5
    dsimp only
    rw [hi, if_neg (nI_nle (by omega) (by omega)), nI_pred, hahd, Option.bind_some, hah, if_neg z_bt0, z_ok_gd, z_ok_gd, z_ok_lt, z_gI, z_cl (show i < 2 ^ 31 by omega), z_cl (show i + 1 < 2 ^ 31 by omega), z_back]
    refine ⟨z_ix64 (by omega), z_ix64 (by omega), s10_cp9 (by omega) (fun v' f1 f2 => hkb _ ⟨?_, fun j h9 h10 => ?_, fun j => ?_, fun j k hk => ?_⟩)⟩
    · dsimp only
      congr 1
      omega
    · dsimp only
      rw [f1 j h9, z_sI_ne h10]; exact e2 j h9 h10
    · dsimp only
      rw [f1 10 (by decide), z_sI_1]
      by_cases c5 : i + 1 = j
      · rw [if_pos ⟨rfl, c5⟩, if_pos (by omega), ← c5, Nat.add_sub_cancel, e3 i, if_neg (by omega)]
      · rw [if_neg (fun hh => c5 hh.2), e3 j]
        by_cases c6 : S.1 - t < j ∧ j ≤ S.1
        · rw [if_pos c6, if_pos (by omega)]
        · rw [if_neg c6, if_neg (by omega)]
    · dsimp only
      rw [f2 j k hk, z_sI_ne (show (9 : Nat) ≠ 10 by decide)]
      by_cases c5 : j = i + 1
      · rw [if_pos c5, if_pos (by omega), c5, Nat.add_sub_cancel, e4 i k hk, if_neg (by omega)]
      · rw [if_neg c5, e4 j k hk]
        by_cases c6 : S.1 - t < j ∧ j ≤ S.1
        · rw [if_pos c6, if_pos (by omega)]
        · rw [if_neg c6, if_neg (by omega)]
  · rintro ⟨qi, v⟩ ⟨e1, e2, e3, e4⟩ kb
    dsimp only at e1 e2 e3 e4
    subst e1
    have es : S.1 - (S.1 - i0) = i0 := by omega
    rw [es] at e3 e4 ⊢
    have hfin : z_ok (z_gd (z_inb (nI i0) 64) (z_lt (z_sI v 10 (nI i0).toNatClampNeg (nI (m + 1))) (fun u15 => z_lp (b_X10_addChain_88 (nI (m + 1)) (nI i0)) z_F (0, u15) (fun t20 => z_lt (z_sI t20 0 18 ((z_gI t20 0 18) + 1)) (fun u21 => some u21))))) (fun w' => (∀ i, i ≠ 0 → i ≠ 9 → i ≠ 10 → w'.1 i = w.1 i) ∧ (∀ k, k ≠ 18 → w'.1 0 k = w.1 0 k) ∧ z_rrC w' (z_sin P (m, p) S)) := by
      rw [z_ok_gd, z_ok_lt, z_cl (show i0 < 2 ^ 31 by omega)]
      refine ⟨z_ix64 (by omega), ?_⟩
      refine z_ok_lp (fun t q => q.1 = nI t ∧ (∀ i, i ≠ 9 → q.2.1 i = (z_sI v 10 i0 (nI (m + 1))).1 i) ∧ ∀ j k, k < 9 → q.2.1 9 (9 * j + k) = if j = i0 ∧ k < t then nI (p k) else v.1 9 (9 * j + k)) (m + 1) (z_F_lt (by omega)) ⟨rfl, fun _ _ => rfl, fun j k _ => by rw [if_neg (by omega), z_sI_ne (by decide)]⟩ ?_ ?_
      · rintro t ⟨tt, v1⟩ ht ⟨f1, f2, f3⟩ kb1 hkb1
        dsimp only at f1 f2 f3
        subst f1
        have e9 : (9 : Int32) * nI i0 + nI t = nI (9 * i0 + t) := by rw [show (9 : Int32) * nI i0 = nI (9 * i0) from z_mulI 9 i0, z_addI]
        have e11 : v1.1 11 t = nI (p t) := by rw [f2 11 (by decide), z_sI_ne (by decide), e2 11 (by decide) (by decide)]; exact (hp t (by omega)).2
        unfold b_X10_addChain_88
        dsimp only
        rw [if_neg (nI_ge ht (by omega)), e9, z_ok_gd, z_ok_gd, z_ok_lt, z_gI, z_cl (show t < 2 ^ 31 by omega), z_cl (show 9 * i0 + t < 2 ^ 31 by omega), e11, z_1]
        refine ⟨z_inb_nI (by omega) (by decide), z_inb_nI (by omega) (by decide), hkb1 _ ⟨rfl, fun j hj => ?_, fun j k hk => ?_⟩⟩
        · dsimp only
          rw [z_sI_ne hj]; exact f2 j hj
        · dsimp only
          rw [z_sI_1]
          by_cases c : j = i0 ∧ k = t
          · rw [if_pos ⟨rfl, by rw [c.1, c.2]⟩, if_pos ⟨c.1, by omega⟩, c.2]
          · rw [if_neg (fun hh => c ⟨by omega, by omega⟩), f3 j k hk]
            by_cases c2 : j = i0 ∧ k < t
            · rw [if_pos c2, if_pos ⟨c2.1, by omega⟩]
            · rw [if_neg c2, if_neg (by omega)]
      · rintro ⟨tt, v1⟩ ⟨f1, f2, f3⟩ kb1
        dsimp only at f1 f2 f3
        subst f1
        have e18 : v1.1 0 18 = nI S.1 := by rw [f2 0 (by decide), z_sI_ne (by decide), e2 0 (by decide) (by decide)]; exact h2
        unfold b_X10_addChain_88
        dsimp only
        rw [if_pos (nI_le (Nat.le_refl _) (by omega)), z_ok_lt, z_ok_some, z_gI, e18, z_1]
        refine ⟨fun i c0 c9 c10 => ?_, fun k hk => ?_, ?_, ?_, fun j hj => ?_⟩
        · rw [z_sI_ne c0, f2 i c9, z_sI_ne c10]; exact e2 i c9 c10
        · rw [z_sI_1, if_neg (fun hh => hk hh.2.symm), f2 0 (by decide), z_sI_ne (by decide), e2 0 (by decide) (by decide)]
        · show S.1 + 1 ≤ 12
          omega
        · rw [z_sI_1, if_pos ⟨rfl, rfl⟩]
          rfl
        · have hj : j < S.1 + 1 := hj
          have q10 : (z_sI v1 0 18 (nI (S.1 + 1))).1 10 j = if i0 = j then nI (m + 1) else if i0 < j ∧ j ≤ S.1 then w.1 10 (j - 1) else w.1 10 j := by
            rw [z_sI_ne (by decide), f2 10 (by decide), z_sI_1, e3 j]
            by_cases c : i0 = j
            · rw [if_pos ⟨rfl, c⟩, if_pos c]
            · rw [if_neg (fun hh => c hh.2), if_neg c]
          have q9 : ∀ k, k < 9 → (z_sI v1 0 18 (nI (S.1 + 1))).1 9 (9 * j + k) = if j = i0 ∧ k < m + 1 then nI (p k) else if i0 < j ∧ j ≤ S.1 then w.1 9 (9 * (j - 1) + k) else w.1 9 (9 * j + k) := fun k hk => by
            rw [z_sI_ne (by decide), f3 j k hk, e4 j k hk]
          show (z_sI v1 0 18 (nI (S.1 + 1))).1 10 j = nI ((z_ins P (m, p) S.2 S.1 j).1 + 1) ∧ (z_ins P (m, p) S.2 S.1 j).1 ≤ 8 ∧ ∀ k, k ≤ (z_ins P (m, p) S.2 S.1 j).1 → (z_ins P (m, p) S.2 S.1 j).2 k < 9 ∧ (z_sI v1 0 18 (nI (S.1 + 1))).1 9 (9 * j + k) = nI ((z_ins P (m, p) S.2 S.1 j).2 k)
          rw [q10]
          unfold z_ins
          rw [← hi0]
          by_cases c1 : j < i0
          · obtain ⟨g1, g2, g3⟩ := h3 j (by omega)
            rw [if_pos c1, if_neg (by omega), if_neg (by omega)]
            exact ⟨g1, g2, fun k hk => ⟨(g3 k hk).1, by rw [q9 k (by omega), if_neg (by omega), if_neg (by omega)]; exact (g3 k hk).2⟩⟩
          · rw [if_neg c1]
            by_cases c2 : j = i0
            · rw [if_pos c2, if_pos c2.symm]
              exact ⟨rfl, hm, fun k hk => by
                have hk : k ≤ m := hk
                exact ⟨(hp k hk).1, by rw [q9 k (by omega), if_pos ⟨c2, by omega⟩]⟩⟩
            · obtain ⟨g1, g2, g3⟩ := h3 (j - 1) (by omega)
              rw [if_neg c2, if_neg (Ne.symm c2), if_pos (by omega)]
              exact ⟨g1, g2, fun k hk => ⟨(g3 k hk).1, by rw [q9 k (by omega), if_neg (fun hh => c2 hh.1), if_pos (by omega)]; exact (g3 k hk).2⟩⟩
    unfold b_X10_addChain_5
    dsimp only
    by_cases c0 : i0 = 0
    · rw [if_pos (show nI i0 ≤ 0 by rw [c0]; decide)]
      exact hfin
    · obtain ⟨i, hi⟩ : ∃ i, i0 = i + 1 := ⟨i0 - 1, by omega⟩
      have hii : i < S.1 := by omega
      have hah : z_ah P (m, p) (S.2 i) = false := by
        have := z_ips_at (P := P) (m, p) S.2 S.1
        rw [← hi0, hi, Nat.add_sub_cancel] at this
        exact this.resolve_left (by omega)
      obtain ⟨g1, g2, g3⟩ := h3 i hii
      have hrv : z_rr (v.1 1) P := by rw [e2 1 (by decide) (by decide)]; exact hr
      have hahd := s10_isAhead (w := v) hrv hw hm (fun j hj => by rw [e2 11 (by decide) (by decide)]; exact hp j hj) (show i < 63 by omega) g2 (by rw [e3 i, if_neg (by omega)]; exact g1) (fun k hk => ⟨(g3 k hk).1, by rw [e4 i k (by omega), if_neg (by omega)]; exact (g3 k hk).2⟩) (hl i hii)
      have hpred : nI i0 - 1 = nI i := by rw [hi]; exact nI_pred i
      rw [if_neg (show ¬ nI i0 ≤ 0 from nI_nle (by omega) (by omega)), hpred, hahd, Option.bind_some, hah, if_pos z_bf0]
      exact hfin
end
