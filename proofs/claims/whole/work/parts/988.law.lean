section
variable {u w v : z_M} {P : z_P} {T : Nat → Nat} {N p s : Nat}
theorem z_ww.at0 (h : z_ww w T N p) {v : z_M} (h0 : v.1 0 8 = w.1 0 8) (h6 : v.1 6 = w.1 6) {q : Nat} (h9 : v.1 0 9 = nI q) (hq : q ≤ N) : z_ww v T N q := by
  obtain ⟨h1, h2, h3, h4, h5⟩ := h
  exact ⟨by rw [h0]; exact h1, h9, hq, h4, fun i hi => by rw [h6]; exact h5 i hi⟩
theorem z_b2e {α β γ : Type} (a : α) (b : β) (f : α → β → Option γ) : z_b2 (some (a, b)) f = f a b := rfl
theorem z_byc0 {c : Nat} (hc : c < 256) {d : Nat} (hd : d < 128) : (z_by c = nI d) = (c = d) := z_byq hc hd
theorem s10_takes (h : z_ww w T N p) (h12 : ¬ w.1 0 12 = 0) {c : Nat} (hc : c < 128) (hc0 : 0 < c) : f_X10_takes (nI c) w = if z_to (z_qb T) N p < N ∧ T (z_to (z_qb T) N p) = c then some (1, z_sI w 0 9 (nI (z_to (z_qb T) N p + 1))) else some (0, z_sI w 0 9 (nI (z_to (z_qb T) N p))) := by
  have hok := z_to_ok (z_qb T) h.2.2.1
  obtain ⟨s, hs⟩ : ∃ s, s = z_to (z_qb T) N p := ⟨_, rfl⟩
  rw [← hs] at hok ⊢
  obtain ⟨g1, g2, g3, g4, g5⟩ := h.mv hok.2.1
  have h30 : j_X10_takes_j30 (z_sI w 0 9 (nI s)) = some (0, z_sI w 0 9 (nI s)) := by
    unfold j_X10_takes_j30 j_X10_takes_j31
    rw [if_pos rfl, z_gI, g2, Int32.add_zero, z_sIs]
    rfl
  have h31 : j_X10_takes_j31 1 (z_sI w 0 9 (nI s)) = some (1, z_sI w 0 9 (nI (s + 1))) := by
    unfold j_X10_takes_j31
    rw [if_neg (by decide), z_gI, g2, z_1, z_sIs]
    rfl
  unfold f_X10_takes
  rw [z_gI, if_neg h12, s10_next h, ← hs]
  show (if (if s < N then z_by (T s) else 0) = nI c then (if (z_gI (z_sI w 0 9 (nI s)) 0 8) ≤ (z_gI (z_sI w 0 9 (nI s)) 0 9) then (j_X10_takes_j30 (z_sI w 0 9 (nI s))) else (j_X10_takes_j31 1 (z_sI w 0 9 (nI s)))) else (j_X10_takes_j30 (z_sI w 0 9 (nI s)))) = _
  rw [h30, h31, z_gI, z_gI, g1, g2]
  by_cases c1 : s < N
  · rw [if_pos c1, if_neg (nI_ge c1 (by omega))]
    have e := z_byq (g5 s c1).1 hc
    simp only [e]
    by_cases c2 : T s = c
    · rw [if_pos c2, if_pos ⟨c1, c2⟩]
    · rw [if_neg c2, if_neg (fun q => c2 q.2)]
  · rw [if_neg c1, if_neg (show ¬ (0 : Int32) = nI c from fun q => by
      have := (nI_eq (a := 0) (by decide) (by omega)).mp q
      omega), if_neg (fun q => c1 q.1)]
theorem s10_takesE (h12 : w.1 0 12 = 0) (c : Int32) : f_X10_takes c w = some (0, w) := by
  unfold f_X10_takes j_X10_takes_j30 j_X10_takes_j31
  rw [z_gI, if_pos h12, if_pos rfl, Int32.add_zero, z_gI, z_sIe w 0 9 rfl]
  rfl
theorem s10_isNumber (h : z_ww w T N p) (h12 : ¬ w.1 0 12 = 0) : f_X10_isNumber w = some (z_bi (decide (z_to (z_qb T) N p < N) && z_qd T (z_to (z_qb T) N p)), z_sI w 0 9 (nI (z_to (z_qb T) N p))) := by
  unfold f_X10_isNumber
  rw [z_gI, if_neg h12, s10_next h]
  obtain ⟨s, hs⟩ : ∃ s, s = z_to (z_qb T) N p := ⟨_, rfl⟩
  rw [← hs]
  show (Option.bind (f_X10_isIn (if s < N then z_by (T s) else 0).toInt64 48 57) (fun r4 => if r4 = 0 then (some ((0 : Int32), z_sI w 0 9 (nI s))) else (some (1, z_sI w 0 9 (nI s))))) = _
  by_cases c1 : s < N
  · rw [if_pos c1, z_byd _ (h.2.2.2.2 s c1).1, Option.bind_some, z_bip, decide_eq_true c1]
    rfl
  · rw [if_neg c1, show f_X10_isIn (0 : Int32).toInt64 48 57 = some 0 by decide, decide_eq_false c1]
    rfl
theorem s10_isNumberE (h12 : w.1 0 12 = 0) : f_X10_isNumber w = some (0, w) := by
  unfold f_X10_isNumber
  rw [z_gI, if_pos h12]
theorem z_chq : ∀ k, k < 3 → ∀ i, i < z_slenN k → (z_chr k (nI i)).toNatClampNeg < 128 ∧ z_chr k (nI i) = nI (z_chr k (nI i)).toNatClampNeg := by decide +kernel
theorem z_sl4 : ∀ k, k < 3 → 4 ≤ z_slenN k := by decide
theorem s10_isWord (h : z_ww w T N p) {k : Nat} (hk : k < 3) : f_X10_isWord k w = some (z_bi (!decide (w.1 0 12 = 0) && z_isw T N (z_to (z_qb T) N p) k), z_sI w 0 9 (nI (z_to (z_qb T) N p))) := by
  have hok := z_to_ok (z_qb T) h.2.2.1
  have hk8 := z_slen_8 k hk
  have hk4 := z_sl4 k hk
  unfold f_X10_isWord
  rw [s10_next h]
  obtain ⟨s, hs⟩ : ∃ s, s = z_to (z_qb T) N p := ⟨_, rfl⟩
  rw [← hs] at hok ⊢
  obtain ⟨w2, hw2⟩ : ∃ w2, w2 = z_sI w 0 9 (nI s) := ⟨_, rfl⟩
  have hww : z_ww w2 T N s := by rw [hw2]; exact h.mv hok.2.1
  have e12 : w2.1 0 12 = w.1 0 12 := by rw [hw2, z_sI_1, if_neg (by decide)]
  rw [← hw2]
  obtain ⟨g1, g2, g3, g4, g5⟩ := hww
  have hokl := z_to_ok (z_ql T) g3
  obtain ⟨e, he⟩ : ∃ e, e = z_to (z_ql T) N s := ⟨_, rfl⟩
  rw [← he] at hokl
  have l0 : z_lp (b_X10_isWord_74 k w2) z_F (0, 0) (fun t14 => z_gd (decide (t14 = 0 ∨ t14 = 1)) (some (t14, w2))) = some (0, w2) := by
    refine z_lpr (fun t => ((0 : Int32), nI t)) _ 0 (by decide) (fun i hi => absurd hi (by omega)) (fun kb => ?_)
    unfold b_X10_isWord_74
    dsimp only
    rw [if_pos (show (0 : Int32) = 0 from rfl)]
    split <;> rfl
  rw [z_b2e]
  have hl7 : ∀ kx : Int32 → Option (Int32 × z_M), z_lp (b_X10_isWord_7 k w2) z_F (nI (s - s)) kx = kx (nI (e - s)) := fun kx => by
    rw [he]
    refine z_lpt (fun i => nI (i - s)) (fun i => nI (i - s)) (z_ql T) g3 g4 (fun i hi1 hi2 kb => ?_) (fun kb => ?_)
    · unfold b_X10_isWord_7
      rw [z_gI, z_gI, g1, g2, nI_add, show s + (i - s) = i by omega, if_neg (nI_ge hi2 (by omega)), z_gdt (z_in400 (by omega)), z_gI, z_cl (by omega), (g5 i hi2).2, z_byl _ (g5 i hi2).1, Option.bind_some, z_1, show i - s + 1 = i + 1 - s by omega]
      unfold z_ql
      cases (decide (97 ≤ T i) && decide (T i ≤ 122))
      · rfl
      · rfl
    · unfold b_X10_isWord_7
      rw [z_gI, z_gI, g1, g2, nI_add, show s + (N - s) = N by omega, if_pos (nI_le (Nat.le_refl _) (by omega))]
  rw [Nat.sub_self, nI_0] at hl7
  rw [hl7, z_gI, e12, l0]
  by_cases c12 : w.1 0 12 = 0
  · rw [if_pos c12, decide_eq_true c12]; rfl
  · rw [if_neg c12, decide_eq_false c12, Bool.not_false, Bool.true_and]
    unfold z_isw z_slen
    rw [← he]
    by_cases c : e - s = z_slenN k
    · rw [c, if_pos rfl, decide_eq_true rfl, Bool.true_and]
      rw [← z_ok_eq]
      refine z_ok_lp (fun t q => q.2 = nI t ∧ ((q.1 = 1 ∧ ∀ j, j < t → decide (nI (T (s + j)) = z_chr k (nI j)) = true) ∨ (q.1 = 0 ∧ z_alb (fun i => decide (nI (T (s + i)) = z_chr k (nI i))) (z_slenN k) = false))) (z_slenN k) (z_F_lt (by omega)) ⟨rfl, Or.inl ⟨rfl, fun j hj => absurd hj (by omega)⟩⟩ ?_ ?_
      · rintro t ⟨f, tt⟩ ht ⟨d1, d2⟩ kb hkb
        dsimp only at d1 d2
        subst d1
        unfold b_X10_isWord_74 z_slen
        dsimp only
        rw [if_neg (nI_ge ht (by omega))]
        rcases d2 with ⟨rfl, d2⟩ | ⟨rfl, d2⟩
        · obtain ⟨q1, q2⟩ := z_chq k hk t ht
          have h256 := (g5 (s + t) (by omega)).1
          rw [if_neg (by decide), z_gI, g2, nI_add, z_gdt (z_in400 (by omega)), z_gdt (z_inb_nI (by omega) (by omega)), z_gI, z_cl (by omega), (g5 (s + t) (by omega)).2, z_1]
          have e1 : (z_by (T (s + t)) = z_chr k (nI t)) = (nI (T (s + t)) = z_chr k (nI t)) := by
            rw [q2, z_byq h256 q1, z_eqI (by omega) (by omega)]
          simp only [e1]
          by_cases c2 : nI (T (s + t)) = z_chr k (nI t)
          · rw [if_pos c2]
            refine hkb _ ⟨rfl, Or.inl ⟨rfl, fun j hj => ?_⟩⟩
            by_cases c3 : j = t
            · rw [c3]; exact decide_eq_true c2
            · exact d2 j (by omega)
          · rw [if_neg c2]
            refine hkb _ ⟨rfl, Or.inr ⟨rfl, ?_⟩⟩
            cases c3 : z_alb (fun i => decide (nI (T (s + i)) = z_chr k (nI i))) (z_slenN k)
            · rfl
            · have := z_alb_iff.mp c3 t ht
              rw [decide_eq_false c2] at this
              cases this
        · rw [if_pos rfl, z_ok_gd, z_ok_some, d2]
          exact ⟨rfl, rfl⟩
      · rintro ⟨f, tt⟩ ⟨d1, d2⟩ kb
        dsimp only at d1 d2
        subst d1
        unfold b_X10_isWord_74 z_slen
        dsimp only
        rw [if_pos (nI_le (Nat.le_refl _) (by omega))]
        rcases d2 with ⟨rfl, d2⟩ | ⟨rfl, d2⟩
        · rw [z_ok_gd, z_ok_some, z_alb_iff.mpr d2]
          exact ⟨rfl, rfl⟩
        · rw [z_ok_gd, z_ok_some, d2]
          exact ⟨rfl, rfl⟩
    · rw [if_neg (fun q => c ((nI_eq (by omega) (by omega)).mp q)), decide_eq_false c]; rfl
end
