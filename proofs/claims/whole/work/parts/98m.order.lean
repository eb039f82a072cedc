section
variable {u w v u0 w0 : z_M} {D : z_P} {T : Nat → Nat} {N p s : Nat}
def z_cl2 (w : z_M) : Nat → z_M
  | 0 => w
  | i + 1 => z_sI (z_cl2 w i) 2 i 0
theorem z_cl2_ok (w : z_M) : ∀ i, (∀ j, j ≠ 2 → (z_cl2 w i).1 j = w.1 j) ∧ ∀ k, k < i → (z_cl2 w i).1 2 k = 0
  | 0 => ⟨fun _ _ => rfl, fun k hk => absurd hk (by omega)⟩
  | i + 1 => by
    obtain ⟨h1, h2⟩ := z_cl2_ok w i
    refine ⟨fun j hj => ?_, fun k hk => ?_⟩
    · show (z_sI (z_cl2 w i) 2 i 0).1 j = _
      rw [z_sI_ne hj]; exact h1 j hj
    · show (z_sI (z_cl2 w i) 2 i 0).1 2 k = 0
      rw [z_sI_1]
      by_cases c : k = i
      · rw [if_pos ⟨rfl, c.symm⟩]
      · rw [if_neg (fun q => c q.2.symm)]; exact h2 k (by omega)
theorem s10_order32 (w : z_M) (kx : z_M → Option (Int32 × z_M)) : z_lp b_X10_order_32 z_F (0, w) kx = kx (z_cl2 w 93) := by
  refine z_lpr (fun t => (nI t, z_cl2 w t)) _ 93 (by decide) (fun i hi kb => ?_) (fun kb => ?_)
  · unfold b_X10_order_32
    dsimp only
    rw [if_neg (show ¬ (93 : Int32) ≤ nI i from nI_ge (b := 93) hi (by decide)), z_gdt (z_inb_nI hi (by decide)), z_lt, z_cl (by omega), z_1]
    rfl
  · unfold b_X10_order_32
    dsimp only
    rw [if_pos (show (93 : Int32) ≤ nI 93 by decide)]
def z_cp2 (w : z_M) : Nat → z_M
  | 0 => w
  | i + 1 => z_sI (z_cp2 w i) 1 i (z_gI (z_cp2 w i) 2 i)
theorem z_cp2_ok (w : z_M) : ∀ i, (∀ j, j ≠ 1 → (z_cp2 w i).1 j = w.1 j) ∧ ∀ k, k < i → (z_cp2 w i).1 1 k = w.1 2 k
  | 0 => ⟨fun _ _ => rfl, fun k hk => absurd hk (by omega)⟩
  | i + 1 => by
    obtain ⟨h1, h2⟩ := z_cp2_ok w i
    refine ⟨fun j hj => ?_, fun k hk => ?_⟩
    · show (z_sI (z_cp2 w i) 1 i (z_gI (z_cp2 w i) 2 i)).1 j = _
      rw [z_sI_ne hj]; exact h1 j hj
    · show (z_sI (z_cp2 w i) 1 i (z_gI (z_cp2 w i) 2 i)).1 1 k = w.1 2 k
      rw [z_sI_1]
      by_cases c : k = i
      · rw [if_pos ⟨rfl, c.symm⟩, z_gI, h1 2 (by decide), c]
      · rw [if_neg (fun q => c q.2.symm)]; exact h2 k (by omega)
theorem s10_order126 (x : Int32) (w : z_M) (kx : z_M → Option (Int32 × z_M)) : z_lp (b_X10_order_126 x) z_F (0, w) kx = kx (z_cp2 w 93) := by
  refine z_lpr (fun t => (nI t, z_cp2 w t)) _ 93 (by decide) (fun i hi kb => ?_) (fun kb => ?_)
  · unfold b_X10_order_126
    dsimp only
    rw [if_neg (show ¬ (93 : Int32) ≤ nI i from nI_ge (b := 93) hi (by decide)), z_gdt (z_inb_nI hi (by decide)), z_gdt (z_inb_nI hi (by decide)), z_lt, z_cl (by omega), z_1]
    rfl
  · unfold b_X10_order_126
    dsimp only
    rw [if_pos (show (93 : Int32) ≤ nI 93 by decide)]
theorem s10_ot (x : Int32) (w : z_M) (h12 : ¬ w.1 0 12 = 0) : z_ot x w = some (x, z_sI (z_sI (z_sI (z_cp2 (z_sI w 0 8 0) 93) 0 4 0) 5 0 0) 5 1 0) := by
  unfold z_ot
  rw [z_lt, if_neg (show ¬ z_gI (z_sI w 0 8 0) 0 12 = 0 by rw [z_gI, z_sI_1, if_neg (by decide)]; exact h12), s10_order126, z_lt, z_gdt (show z_inb 0 2 = true from rfl), z_lt, z_gdt (show z_inb 1 2 = true from rfl), z_lt]
  rfl
theorem s10_otE (x : Int32) (w : z_M) (h12 : w.1 0 12 = 0) : z_ot x w = some (-1, z_sI w 0 8 0) := by
  unfold z_ot
  rw [z_lt, if_pos (show z_gI (z_sI w 0 8 0) 0 12 = 0 by rw [z_gI, z_sI_1, if_neg (by decide)]; exact h12)]
theorem s7_cut0 (h : u.1 81 1 = nI N) (hN : N ≤ 400) : f_X7_cut 0 u = some (1, z_sI u 81 1 0) := by
  unfold f_X7_cut
  rw [if_neg (show ¬ (0 : Int32) < 0 by decide), z_gI, h, if_pos (show (0 : Int32) ≤ nI N from nI_le (a := 0) (Nat.zero_le _) (by omega)), z_lt]
theorem s9_order45 (x : Int32) (u : z_M) : z_ok (z_lp (b_X9_order_45 x) z_F (0, u) (fun t11 => some (x, t11))) (fun q => q.1 = x ∧ (∀ k, (k < 8 ∨ 15 < k) → q.2.1 k = u.1 k) ∧ ∀ k, k < 2 → z_rc q.2 (8 + 4 * k) (z_Pn 0)) := by
  refine z_ok_lp (fun t q => q.1 = nI t ∧ (∀ k, (k < 8 ∨ 15 < k) → q.2.1 k = u.1 k) ∧ ∀ k, k < t → z_rc q.2 (8 + 4 * k) (z_Pn 0)) 2 (by decide) ⟨rfl, fun _ _ => rfl, fun k hk => absurd hk (by omega)⟩ ?_ ?_
  · rintro t ⟨a, v⟩ ht ⟨e1, e2, e3⟩ kb hkb
    dsimp only at e1 e2 e3
    subst e1
    obtain ⟨v1, c0, c1, c2⟩ := s6_begin (i := 8 + 4 * t) (n := 0) (by decide) v
    rw [nI_0] at c0
    unfold b_X9_order_45
    dsimp only
    rw [if_neg (show ¬ (2 : Int32) ≤ nI t from nI_ge (b := 2) ht (by decide)), z_gdt (z_inb_nI ht (by decide)), z_cl (by omega), c0, Option.bind_some, z_1]
    refine hkb _ ⟨rfl, fun k hk => (c1 k (by omega)).trans (e2 k hk), fun k hk => ?_⟩
    by_cases g : k = t
    · rw [g]; exact c2
    · exact z_rc_cg (fun j hj => c1 _ (by omega)) (e3 k (by omega))
  · rintro ⟨a, v⟩ ⟨e1, e2, e3⟩ kb
    dsimp only at e1 e2 e3
    subst e1
    unfold b_X9_order_45
    dsimp only
    rw [if_pos (show (2 : Int32) ≤ nI 2 by decide), z_ok_some]
    exact ⟨rfl, e2, e3⟩
theorem p_order : z_S_order z_Inv := by
  intro u w hI
  obtain ⟨⟨P, p1, p2, p3⟩, ⟨n, x, hh, h1, h2, h3, h4, h5, h6⟩, ⟨K, hK⟩, ⟨N, T, t1, t2, t3, t4⟩, f1, f2, pm⟩ := hI
  -- both at the beginning
  obtain ⟨ua, hua⟩ : ∃ ua, ua = z_sI (z_sI (z_sI (z_sI u 81 6 0) 81 3 0) 81 4 (-1)) 81 5 0 := ⟨_, rfl⟩
  obtain ⟨u1, c0, c1, c2⟩ := s6_begin (i := 4) (n := 0) (by decide) ua
  rw [nI_0] at c0
  obtain ⟨wa, hwa⟩ : ∃ wa, wa = z_sI (z_sI (z_sI (z_sI (z_sI (z_sI w 0 0 0) 0 9 0) 0 12 1) 0 10 0) 0 11 (-1)) 0 13 0 := ⟨_, rfl⟩
  obtain ⟨w1, hw1⟩ : ∃ w1, w1 = z_cl2 wa 93 := ⟨_, rfl⟩
  obtain ⟨d1, d2⟩ := z_cl2_ok wa 93
  rw [← hw1] at d1 d2
  have ui : ∀ i, i ≠ 81 → ua.1 i = u.1 i := fun i hi => by rw [hua, z_sI_ne hi, z_sI_ne hi, z_sI_ne hi, z_sI_ne hi]
  have wi : ∀ i, i ≠ 0 → wa.1 i = w.1 i := fun i hi => by rw [hwa, z_sI_ne hi, z_sI_ne hi, z_sI_ne hi, z_sI_ne hi, z_sI_ne hi, z_sI_ne hi]
  have u81 : u1.1 81 = ua.1 81 := c1 81 (by omega)
  have u82 : u1.1 82 = u.1 82 := (c1 82 (by omega)).trans (ui 82 (by decide))
  have w00 : w1.1 0 = wa.1 0 := d1 0 (by decide)
  have w06 : w1.1 6 = w.1 6 := (d1 6 (by decide)).trans (wi 6 (by decide))
  have e1 : u1.1 81 1 = nI N := by rw [u81, hua, z_sI_1, if_neg (by decide), z_sI_1, if_neg (by decide), z_sI_1, if_neg (by decide), z_sI_1, if_neg (by decide)]; exact t2
  have e3 : u1.1 81 3 = 0 := by rw [u81, hua, z_sI_1, if_neg (by decide), z_sI_1, if_neg (by decide), z_sI_1, if_pos ⟨rfl, rfl⟩]
  have e4 : u1.1 81 4 = -1 := by rw [u81, hua, z_sI_1, if_neg (by decide), z_sI_1, if_pos ⟨rfl, rfl⟩]
  have e5 : u1.1 81 5 = 0 := by rw [u81, hua, z_sI_1, if_pos ⟨rfl, rfl⟩]
  have e6 : u1.1 81 6 = 0 := by rw [u81, hua, z_sI_1, if_neg (by decide), z_sI_1, if_neg (by decide), z_sI_1, if_neg (by decide), z_sI_1, if_pos ⟨rfl, rfl⟩]
  have g13 : w1.1 0 13 = 0 := by rw [w00, hwa, z_sI_1, if_pos ⟨rfl, rfl⟩]
  have g11 : w1.1 0 11 = -1 := by rw [w00, hwa, z_sI_1, if_neg (by decide), z_sI_1, if_pos ⟨rfl, rfl⟩]
  have g10 : w1.1 0 10 = 0 := by rw [w00, hwa, z_sI_1, if_neg (by decide), z_sI_1, if_neg (by decide), z_sI_1, if_pos ⟨rfl, rfl⟩]
  have g12 : w1.1 0 12 = 1 := by rw [w00, hwa, z_sI_1, if_neg (by decide), z_sI_1, if_neg (by decide), z_sI_1, if_neg (by decide), z_sI_1, if_pos ⟨rfl, rfl⟩]
  have g9 : w1.1 0 9 = 0 := by rw [w00, hwa, z_sI_1, if_neg (by decide), z_sI_1, if_neg (by decide), z_sI_1, if_neg (by decide), z_sI_1, if_neg (by decide), z_sI_1, if_pos ⟨rfl, rfl⟩]
  have g8 : w1.1 0 8 = nI N := by rw [w00, hwa, z_sI_1, if_neg (by decide), z_sI_1, if_neg (by decide), z_sI_1, if_neg (by decide), z_sI_1, if_neg (by decide), z_sI_1, if_neg (by decide), z_sI_1, if_neg (by decide)]; exact t3
  have g4 : w1.1 0 4 = w.1 0 4 := by rw [w00, hwa, z_sI_1, if_neg (by decide), z_sI_1, if_neg (by decide), z_sI_1, if_neg (by decide), z_sI_1, if_neg (by decide), z_sI_1, if_neg (by decide), z_sI_1, if_neg (by decide)]
  have hrr : z_rr (w1.1 2) (z_Pn 0) := by
    have hrv : ∀ x, x < 9 → z_rv (w1.1 2) x = 0 := fun x hx => by unfold z_rv; rw [d2 _ (by omega)]; rfl
    refine ⟨d2 0 (by decide), d2 1 (by decide), d2 2 (by decide), fun x hx => ?_, fun k hk2 => d2 _ (by omega)⟩
    rw [d2 _ (by omega), hrv x hx]
    exact ⟨rfl, by decide, fun _ => Nat.zero_and _⟩
  have hp0 : z_pst u w T N u1 w1 (z_Pn 0) 0 := ⟨⟨fun i i1 i2 => (c1 i (by omega)).trans (ui i i1), fun i i1 i2 => (d1 i i2).trans (wi i i1), g4⟩, ⟨e1, fun i hi => ⟨(t4 i hi).1, by rw [u82]; exact (t4 i hi).2.1⟩⟩, ⟨e3.trans g10.symm, e4.trans g11.symm⟩, by rw [g12]; decide, z_wf_Pn (by decide), c2, hrr, ⟨g8, g9, Nat.zero_le _, t1, fun i hi => ⟨(t4 i hi).1, by rw [w06]; exact (t4 i hi).2.2⟩⟩⟩
  have hcw : z_cw u1 T N 0 := ⟨e1, e6, Nat.zero_le _, t1, fun i hi => ⟨(t4 i hi).1, by rw [u82]; exact (t4 i hi).2.1⟩⟩
  have key := z_linesL (u0 := u) (w0 := w) (T := T) (N := N) N 0 0 u1 w1 (z_Pn 0) z_F z_F (by omega) (z_F_lt (by omega)) (z_F_lt (by omega)) (z_ful_Pn 0) hp0 (e5.trans g13.symm) hcw (Or.inl ⟨rfl, d2⟩)
  have eC : f_X7_readLines u = z_lp b_X7_readLines_30 z_F (nI (0 + 1), u1) (fun t16 => some (-1, t16)) := by
    unfold f_X7_readLines
    rw [z_lt, z_lt, z_lt, z_lt, ← hua, c0, Option.bind_some]
    rfl
  have eR : f_X10_order w = Option.bind (f_X10_readLine (nI 0) w1) (fun r15 => z_lp b_X10_order_58 z_F (nI (0 + 1), r15) z_oe) := by
    rw [s10_order, z_lt, z_lt, z_lt, z_lt, z_lt, z_lt, ← hwa, s10_order32, ← hw1]
    rfl
  rw [← eC, ← eR] at key
  unfold f_X9_order
  rcases key with ⟨c, u', w', D', p', k0, k1, k2, k3⟩ | ⟨u', w', y, k1, k2, k3⟩
  · obtain ⟨⟨a1, a2, a3⟩, ⟨b1, -⟩, ⟨q3, q4⟩, q12, qw, qrc, qrr, -⟩ := k3
    obtain ⟨v1, hv1⟩ : ∃ v1, v1 = z_sI u' 81 1 0 := ⟨_, rfl⟩
    obtain ⟨v2, r1, r2, r3⟩ := s6_copy v1 0 4 (Or.inl (by decide))
    obtain ⟨v3, hv3⟩ : ∃ v3, v3 = z_sI v2 83 2 0 := ⟨_, rfl⟩
    obtain ⟨⟨rx, v4⟩, s1, s2, s3, s4⟩ := s9_order45 (nI c) v3
    dsimp only at s2 s3 s4
    subst s2
    rw [k1, z_b2e, s7_cut0 b1 t1, z_b2e, if_neg (show ¬ nI c = -1 from fun q => by
      have := nI_pos (n := c) (by omega)
      rw [q] at this
      exact this (by decide)), ← hv1, r1, Option.bind_some]
    unfold f_X5_forget
    rw [z_lt, Option.bind_some, ← hv3, s1, k2, s10_ot _ _ q12]
    obtain ⟨wb, hwb⟩ : ∃ wb, wb = z_cp2 (z_sI w' 0 8 0) 93 := ⟨_, rfl⟩
    obtain ⟨m1, m2⟩ := z_cp2_ok (z_sI w' 0 8 0) 93
    rw [← hwb] at m1 m2 ⊢
    refine ⟨nI c, v4, _, rfl, rfl, ?_⟩
    have v4i : ∀ i, 15 < i → i ≠ 81 → i ≠ 83 → v4.1 i = u'.1 i := fun i i1 i2 i3 => by
      rw [s3 i (Or.inr i1), hv3, z_sI_ne i3, r2 i (by omega), hv1, z_sI_ne i2]
    have v81 : ∀ k, k ≠ 1 → v4.1 81 k = u'.1 81 k := fun k hk => by
      rw [s3 81 (by omega), hv3, z_sI_ne (by decide), r2 81 (by omega), hv1, z_sI_1, if_neg (fun q => hk q.2.symm)]
    have w4i : ∀ i, i ≠ 0 → i ≠ 5 → (z_sI (z_sI (z_sI wb 0 4 0) 5 0 0) 5 1 0).1 i = wb.1 i := fun i i1 i2 => by rw [z_sI_ne i2, z_sI_ne i2, z_sI_ne i1]
    have w40 : ∀ k, k ≠ 4 → k ≠ 8 → (z_sI (z_sI (z_sI wb 0 4 0) 5 0 0) 5 1 0).1 0 k = w'.1 0 k := fun k hk hk8 => by
      rw [z_sI_ne (by decide), z_sI_ne (by decide), z_sI_1, if_neg (fun q => hk q.2.symm), m1 0 (by decide), z_sI_1, if_neg (fun q => hk8 q.2.symm)]
    refine ⟨⟨D', qw, ?_, ?_⟩, ⟨0, x, fun _ => z_P0, by decide, h2, ?_, ?_, ?_, fun j hj => absurd hj (by omega)⟩, ⟨fun _ => z_Pn 0, fun k hk => ⟨z_wf_Pn (by decide), s4 k hk, ?_, fun q => absurd q (Nat.lt_irrefl 0)⟩⟩, ⟨0, fun _ => 0, by decide, ?_, ?_, fun i hi => absurd hi (by omega)⟩, ?_, ?_, ?_⟩
    · refine z_rc_cg (u := v2) (fun j hj => ?_) (r3 D' (z_rc_cg (u := u') (fun j hj => ?_) qrc))
      · rw [s3 _ (by omega), hv3, z_sI_ne (by omega)]
      · rw [hv1, z_sI_ne (by omega)]
    · rw [w4i 1 (by decide) (by decide)]
      refine z_rr_cg (fun k hk => ?_) qrr
      rw [m2 k hk, z_sI_ne (by decide)]
    · rw [s3 83 (by omega), hv3, z_sI_1, if_neg (by decide), r2 83 (by omega), hv1, z_sI_ne (by decide), a1 83 (by decide) (by omega)]; exact h3
    · rw [s3 83 (by omega), hv3, z_sI_1, if_pos ⟨rfl, rfl⟩]; rfl
    · rw [z_sI_ne (by decide), z_sI_ne (by decide), z_sI_1, if_pos ⟨rfl, rfl⟩]; rfl
    · have hk' : k = 0 ∨ k = 1 := by omega
      rcases hk' with rfl | rfl
      · rw [z_sI_1, if_neg (by decide), z_sI_1, if_pos ⟨rfl, rfl⟩]; rfl
      · rw [z_sI_1, if_pos ⟨rfl, rfl⟩]; rfl
    · rw [s3 81 (by omega), hv3, z_sI_ne (by decide), r2 81 (by omega), hv1, z_sI_1, if_pos ⟨rfl, rfl⟩]; rfl
    · rw [z_sI_ne (by decide), z_sI_ne (by decide), z_sI_1, if_neg (by decide), m1 0 (by decide), z_sI_1, if_pos ⟨rfl, rfl⟩]; rfl
    · rw [v81 3 (by decide), w40 10 (by decide) (by decide)]; exact q3
    · rw [v81 4 (by decide), w40 11 (by decide) (by decide)]; exact q4
    · unfold z_pm
      rw [v4i 87 (by decide) (by decide) (by decide), a1 87 (by decide) (by omega)]
      exact pm
  · obtain ⟨⟨a1, a2, a3⟩, b1, ⟨q3, q4⟩, q12, -⟩ := k3
    rw [k1, z_b2e, s7_cut0 b1 t1, z_b2e, if_pos rfl, k2, s10_otE _ _ q12]
    have ui' : ∀ i, i ≠ 81 → (i < 4 ∨ 7 < i) → (z_sI u' 81 1 0).1 i = u.1 i := fun i i1 i2 => by rw [z_sI_ne i1]; exact a1 i i1 i2
    have wi' : ∀ i, i ≠ 0 → i ≠ 2 → (z_sI w' 0 8 0).1 i = w.1 i := fun i i1 i2 => by rw [z_sI_ne i1]; exact a2 i i1 i2
    refine ⟨-1, _, _, rfl, rfl, ⟨P, p1, z_rc_cg (fun j hj => ui' _ (by omega) (by omega)) p2, by rw [wi' 1 (by decide) (by decide)]; exact p3⟩, ⟨n, x, hh, h1, h2, ?_, ?_, ?_, fun j hj => ?_⟩, ⟨K, fun k hk => ?_⟩, ⟨0, fun _ => 0, by decide, ?_, ?_, fun i hi => absurd hi (by omega)⟩, ?_, ?_, ?_⟩
    · rw [ui' 83 (by decide) (by omega)]; exact h3
    · rw [ui' 83 (by decide) (by omega)]; exact h4
    · rw [z_sI_1, if_neg (by decide), a3]; exact h5
    · obtain ⟨l1, l2, l3, l4⟩ := h6 j hj
      have := Nat.mod_lt (x + 16 - n + j) (show 0 < 16 by decide)
      exact ⟨l1, l2, z_rc_cg (fun i hi => ui' _ (by omega) (by omega)) l3, by rw [wi' 3 (by decide) (by decide)]; exact l4⟩
    · obtain ⟨l1, l2, l3, l4⟩ := hK k hk
      exact ⟨l1, z_rc_cg (fun i hi => ui' _ (by omega) (by omega)) l2, by rw [wi' 5 (by decide) (by decide)]; exact l3, by rw [wi' 4 (by decide) (by decide)]; exact l4⟩
    · rw [z_sI_1, if_pos ⟨rfl, rfl⟩]; rfl
    · rw [z_sI_1, if_pos ⟨rfl, rfl⟩]; rfl
    · rw [z_sI_1, if_neg (by decide), z_sI_1, if_neg (by decide)]; exact q3
    · rw [z_sI_1, if_neg (by decide), z_sI_1, if_neg (by decide)]; exact q4
    · unfold z_pm
      rw [ui' 87 (by decide) (by omega)]
      exact pm
end
