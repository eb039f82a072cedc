section
variable {u w v : z_M} {P : z_P} {T : Nat → Nat} {N p s : Nat}
theorem z_nsub {e s : Nat} (h : s ≤ e) : nI e - nI s = nI (e - s) := by
  have : nI (e - s) + nI s = nI e := by rw [nI_add, Nat.sub_add_cancel h]
  rw [← this]
  grind
/-! what a token is -/
def z_isw (T : Nat → Nat) (N s k : Nat) : Bool := decide (z_to (z_ql T) N s - s = z_slenN k) && z_alb (fun i => decide (nI (T (s + i)) = z_chr k (nI i))) (z_slenN k)
def z_wkd (T : Nat → Nat) (N s : Nat) : Nat := if z_isw T N s 0 then 1 else if z_isw T N s 1 then 2 else if z_isw T N s 2 then 3 else 7
def z_tke (T : Nat → Nat) (N s : Nat) : Nat := if s < N then (if z_ql T s then z_to (z_ql T) N s else if z_qd T s then z_to (z_qd T) N s else s + 1) else s
def z_tkk (T : Nat → Nat) (N s : Nat) : Nat := if s < N then (if z_ql T s then z_wkd T N s else if z_qd T s then 4 else if T s = 59 then 5 else if T s = 60 then 6 else 7) else 0
def z_nv (T : Nat → Nat) (s : Nat) : Nat → Nat
  | 0 => 0
  | n + 1 => 10 * z_nv T s n + (T (s + n) - 48)
theorem z_tke_le (hs : s ≤ N) : s ≤ z_tke T N s ∧ z_tke T N s ≤ N := by
  unfold z_tke
  by_cases h : s < N
  · rw [if_pos h]
    have h1 := z_to_ok (z_ql T) hs
    have h2 := z_to_ok (z_qd T) hs
    split
    · exact ⟨h1.1, h1.2.1⟩
    · split
      · exact ⟨h2.1, h2.2.1⟩
      · omega
  · rw [if_neg h]; omega
theorem z_slen_8 : ∀ k, k < 3 → z_slenN k ≤ 8 := by decide
theorem s7_isWord {e k : Nat} (hk : k < 3) (h : z_cw u T N e) (h8 : u.1 81 8 = nI s) (hs : s < N) (he : e = z_to (z_ql T) N s) : f_X7_isWord k u = some (z_bi (z_isw T N s k)) := by
  obtain ⟨h1, h2, h3, h4, h5⟩ := h
  have hok := z_to_ok (z_ql T) (Nat.le_of_lt hs)
  have hk8 := z_slen_8 k hk
  unfold f_X7_isWord z_isw z_slen
  rw [z_gI, z_gI, h2, h8, z_nsub (by omega), ← he]
  by_cases c : e - s = z_slenN k
  · rw [c, if_pos rfl, decide_eq_true rfl, Bool.true_and, ← z_dwn, ← z_exi_d]
    refine z_lpx (k0 := 0) (fun t => nI t) _ _ _ (z_slenN k) (z_F_lt (by omega)) (fun i _ hi kb => ?_) (fun kb => ?_)
    · unfold b_X7_isWord_20 z_slen
      rw [if_neg (nI_ge (by omega) (by omega)), z_gI, h8, nI_add, z_gdt (z_in400 (by omega)), z_gdt (z_inb_nI (by omega) (by omega)), z_gI, z_cl (by omega), (h5 (s + i) (by omega)).2, z_1]
      by_cases g : nI (T (s + i)) = z_chr k (nI i)
      · rw [if_pos g, decide_eq_true g]; rfl
      · rw [if_neg g, decide_eq_false g]; rfl
    · unfold b_X7_isWord_20 z_slen
      rw [Nat.zero_add, if_pos (nI_le (Nat.le_refl _) (by omega))]
  · rw [if_neg (fun q => c ((nI_eq (by omega) (by omega)).mp q)), decide_eq_false c]; rfl
def z_twl (u : z_M) : Option z_M := Option.bind (f_X7_isWord 0 u) (fun r2 => if r2 = 0 then (Option.bind (f_X7_isWord 1 u) (fun r4 => if r4 = 0 then (Option.bind (f_X7_isWord 2 u) (fun r6 => if r6 = 0 then (z_lt (z_sI u 81 7 7) (fun u8 => some u8)) else (z_lt (z_sI u 81 7 3) (fun u9 => some u9)))) else (z_lt (z_sI u 81 7 2) (fun u10 => some u10)))) else (z_lt (z_sI u 81 7 1) (fun u11 => some u11)))
theorem z_twl_ok {e : Nat} (h : z_cw u T N e) (h8 : u.1 81 8 = nI s) (hs : s < N) (he : e = z_to (z_ql T) N s) : z_twl u = some (z_sI u 81 7 (nI (z_wkd T N s))) := by
  unfold z_twl z_wkd
  rw [s7_isWord (by decide) h h8 hs he, Option.bind_some, s7_isWord (by decide) h h8 hs he, Option.bind_some, s7_isWord (by decide) h h8 hs he, Option.bind_some]
  cases z_isw T N s 0
  · cases z_isw T N s 1
    · cases z_isw T N s 2
      · rfl
      · rfl
    · rfl
  · rfl
theorem s7_takeWord (h : z_cw u T N s) (h8 : u.1 81 8 = nI s) (hs : s < N) (hl : z_ql T s = true) : f_X7_takeWord u = some (z_sI (z_sI u 81 6 (nI (z_to (z_ql T) N s))) 81 7 (nI (z_wkd T N s))) := by
  have h' := h
  obtain ⟨h1, h2, h3, h4, h5⟩ := h'
  have hok := z_to_ok (z_ql T) h3
  have hlp : z_lp b_X7_takeWord_0 z_F (z_sI u 81 6 (nI (s + 1))) z_twl = z_twl (z_sI u 81 6 (nI (z_to (z_ql T) N (s + 1)))) := by
    refine z_lpt (fun t => z_sI u 81 6 (nI t)) (fun t => z_sI u 81 6 (nI t)) (z_ql T) (by omega) h4 (fun j _ hj kb => ?_) (fun kb => ?_)
    · obtain ⟨g1, g2, g3, g4, g5⟩ := h.mv (q := j) (by omega)
      unfold b_X7_takeWord_0
      rw [z_gI, z_gI, g1, g2, if_neg (nI_ge hj (by omega)), z_gdt (z_in400 (by omega)), z_gI, z_cl (by omega), (g5 j hj).2, z_cll _ (g5 j hj).1, Option.bind_some, z_1, z_lt, z_sIs]
      unfold z_ql
      cases (decide (97 ≤ T j) && decide (T j ≤ 122))
      · rfl
      · rfl
    · obtain ⟨g1, g2, -⟩ := h.mv (Nat.le_refl N)
      unfold b_X7_takeWord_0
      rw [z_gI, z_gI, g1, g2, if_pos (nI_le (Nat.le_refl _) (by omega))]
  have e8 : (z_sI u 81 6 (nI (z_to (z_ql T) N s))).1 81 8 = nI s := by rw [z_sI_1, if_neg (by decide)]; exact h8
  rw [← z_twl_ok (h.mv hok.2.1) e8 hs rfl, z_to_s _ hs hl, ← hlp]
  show (if (z_gI u 81 1) ≤ (z_gI u 81 6) then z_twl u else (z_gd (z_inb (z_gI u 81 6) 400) (Option.bind (f_X7_isLetter (z_gI u 82 (z_gI u 81 6).toNatClampNeg)) (fun r13 => if r13 = 0 then z_twl u else (z_lt (z_sI u 81 6 ((z_gI u 81 6) + 1)) (fun u25 => z_lp b_X7_takeWord_0 z_F u25 z_twl)))))) = _
  rw [z_gI, z_gI, h1, h2, if_neg (nI_ge hs (by omega)), z_gdt (z_in400 (by omega)), z_gI, z_cl (by omega), (h5 s hs).2, z_cll _ (h5 s hs).1, Option.bind_some, z_1, z_lt, show (decide (97 ≤ T s) && decide (T s ≤ 122)) = true from hl, if_neg (show ¬ z_bi true = 0 by decide)]
theorem z_dg1 : ∀ c, c < 58 → 48 ≤ c → ∀ a, a < 10 → (10 * nI a) + (nI c - 48) = nI (10 * a + (c - 48)) := by decide +kernel
theorem z_nv1 {n : Nat} (hn : n ≤ 1) (h : ∀ i, i < n → z_qd T (s + i) = true) : z_nv T s n < 10 := by
  match n, hn with
  | 0, _ => rw [z_nv]; decide
  | 1, _ =>
    have := h 0 (by decide)
    unfold z_qd at this
    rw [Bool.and_eq_true, decide_eq_true_eq, decide_eq_true_eq] at this
    rw [z_nv, z_nv]
    omega
def z_u81 (u u' : z_M) : Prop := (∀ i, i ≠ 81 → u'.1 i = u.1 i) ∧ ∀ k, k < 6 ∨ 10 < k → u'.1 81 k = u.1 81 k
theorem s7_takeNumber (h : z_cw u T N s) (h8 : u.1 81 8 = nI s) : z_ok (f_X7_takeNumber u) (fun u' => z_u81 u u' ∧ u'.1 81 8 = nI s ∧ u'.1 81 7 = 4 ∧ u'.1 81 6 = nI (z_to (z_qd T) N s) ∧ u'.1 81 9 = nI (z_to (z_qd T) N s - s) ∧ (z_to (z_qd T) N s - s ≤ 2 → u'.1 81 10 = nI (z_nv T s (z_to (z_qd T) N s - s)))) := by
  obtain ⟨h1, h2, h3, h4, h5⟩ := h
  obtain ⟨k1, k2, k3, k4⟩ := z_to_ok (z_qd T) h3
  obtain ⟨e, he⟩ : ∃ e, e = z_to (z_qd T) N s := ⟨_, rfl⟩
  rw [← he] at k1 k2 k3 k4 ⊢
  unfold f_X7_takeNumber
  rw [z_ok_lt, z_ok_lt, z_ok_lt]
  refine z_ok_lp (fun t q => z_u81 u q ∧ q.1 81 8 = nI s ∧ q.1 81 7 = 4 ∧ q.1 81 6 = nI (s + t) ∧ q.1 81 9 = nI t ∧ q.1 81 10 = nI (z_nv T s (if t ≤ 2 then t else 2))) (e - s) (z_F_lt (by omega)) ⟨⟨fun i hi => by rw [z_sI_ne hi, z_sI_ne hi, z_sI_ne hi], fun k hk => by rw [z_sI_1, if_neg (by omega), z_sI_1, if_neg (by omega), z_sI_1, if_neg (by omega)]⟩, by simp [z_sI_1, h8], by simp [z_sI_1], by simp [z_sI_1, h2], by simp [z_sI_1, nI_0], by simp [z_sI_1, nI_0, z_nv]⟩ ?_ ?_
  · rintro t q ht ⟨⟨a1, a2⟩, a3, a4, a5, a6, a7⟩ kb hkb
    have hd : z_qd T (s + t) = true := k3 (s + t) (by omega) (by omega)
    have hd' := hd
    unfold z_qd at hd'
    have hd2 := hd'
    rw [Bool.and_eq_true, decide_eq_true_eq, decide_eq_true_eq] at hd2
    obtain ⟨f1, f2⟩ := h5 (s + t) (by omega)
    have e1 : q.1 81 1 = nI N := by rw [a2 1 (by omega)]; exact h1
    have e82 : q.1 82 (s + t) = nI (T (s + t)) := by rw [a1 82 (by decide)]; exact f2
    have j73 : ∀ q' : z_M, z_u81 u q' → q'.1 81 8 = nI s → q'.1 81 7 = 4 → q'.1 81 6 = nI (s + t) → q'.1 81 9 = nI t → q'.1 81 10 = nI (z_nv T s (if t + 1 ≤ 2 then t + 1 else 2)) → ∀ kx, z_ok (j_X7_takeNumber_j73 q' kb kx) _ := fun q' ⟨b1, b2⟩ b3 b4 b5 b6 b7 kx => by
      unfold j_X7_takeNumber_j73
      rw [z_ok_lt, z_ok_lt]
      refine hkb _ ⟨⟨fun i hi => by rw [z_sI_ne hi, z_sI_ne hi]; exact b1 i hi, fun k hk => by rw [z_sI_1, if_neg (by omega), z_sI_1, if_neg (by omega)]; exact b2 k hk⟩, ?_, ?_, ?_, ?_, ?_⟩
      · rw [z_sI_1, if_neg (by decide), z_sI_1, if_neg (by decide)]; exact b3
      · rw [z_sI_1, if_neg (by decide), z_sI_1, if_neg (by decide)]; exact b4
      · rw [z_sI_1, if_pos ⟨rfl, rfl⟩, z_gI, z_sI_1, if_neg (by decide), b5, z_1]; rfl
      · rw [z_sI_1, if_neg (by decide), z_sI_1, if_pos ⟨rfl, rfl⟩, z_gI, b6, z_1]
      · rw [z_sI_1, if_neg (by decide), z_sI_1, if_neg (by decide)]; exact b7
    unfold b_X7_takeNumber_15
    rw [z_gI, z_gI, e1, a5, if_neg (nI_ge (by omega) (by omega)), z_gdt (z_in400 (by omega)), z_gI, z_cl (by omega), e82, z_cld _ f1, Option.bind_some, hd', if_neg (show ¬ z_bi true = 0 by decide), z_gI, a6, z_gdt (z_in400 (by omega))]
    by_cases c : 2 ≤ t
    · rw [if_pos (show (2 : Int32) ≤ nI t from nI_le (a := 2) c (by omega))]
      refine j73 q ⟨a1, a2⟩ a3 a4 a5 a6 ?_ _
      rw [a7, if_neg (show ¬ t + 1 ≤ 2 by omega)]
      by_cases c2 : t ≤ 2
      · rw [if_pos c2, show t = 2 by omega]
      · rw [if_neg c2]
    · rw [if_neg (show ¬ (2 : Int32) ≤ nI t from nI_ge (b := 2) (by omega) (by decide)), z_ok_lt]
      rw [if_pos (show t ≤ 2 by omega)] at a7
      refine j73 _ ⟨fun i hi => by rw [z_sI_ne hi]; exact a1 i hi, fun k hk => by rw [z_sI_1, if_neg (by omega)]; exact a2 k hk⟩ ?_ ?_ ?_ ?_ ?_ _
      · rw [z_sI_1, if_neg (by decide)]; exact a3
      · rw [z_sI_1, if_neg (by decide)]; exact a4
      · rw [z_sI_1, if_neg (by decide)]; exact a5
      · rw [z_sI_1, if_neg (by decide)]; exact a6
      · rw [z_sI_1, if_pos ⟨rfl, rfl⟩, z_gI, a7, if_pos (show t + 1 ≤ 2 by omega), z_dg1 _ (by omega) hd2.1 _ (z_nv1 (by omega) (fun i hi => k3 (s + i) (by omega) (by omega)))]
        rfl
  · rintro q ⟨⟨a1, a2⟩, a3, a4, a5, a6, a7⟩ kb
    have e1 : q.1 81 1 = nI N := by rw [a2 1 (by omega)]; exact h1
    rw [show s + (e - s) = e by omega] at a5
    have hfin : z_u81 u q ∧ q.1 81 8 = nI s ∧ q.1 81 7 = 4 ∧ q.1 81 6 = nI e ∧ q.1 81 9 = nI (e - s) ∧ (e - s ≤ 2 → q.1 81 10 = nI (z_nv T s (e - s))) := ⟨⟨a1, a2⟩, a3, a4, a5, a6, fun h => by rw [a7, if_pos h]⟩
    unfold b_X7_takeNumber_15
    rw [z_gI, z_gI, e1, a5]
    by_cases c : e < N
    · obtain ⟨f1, f2⟩ := h5 e c
      rw [if_neg (nI_ge c (by omega)), z_gdt (z_in400 (by omega)), z_gI, z_cl (by omega), show q.1 82 e = nI (T e) by rw [a1 82 (by decide)]; exact f2, z_cld _ f1, Option.bind_some, show (decide (48 ≤ T e) && decide (T e ≤ 57)) = false from k4 c, if_pos (show z_bi false = 0 from rfl), z_ok_some]
      exact hfin
    · rw [if_pos (nI_le (by omega) (by omega)), z_ok_some]
      exact hfin
/-- what the class knows of the token ahead -/
def z_tok (u : z_M) (T : Nat → Nat) (N s : Nat) : Prop := u.1 81 8 = nI s ∧ u.1 81 7 = nI (z_tkk T N s) ∧ u.1 81 6 = nI (z_tke T N s) ∧ (z_tkk T N s = 4 → u.1 81 9 = nI (z_tke T N s - s) ∧ (z_tke T N s - s ≤ 2 → u.1 81 10 = nI (z_nv T s (z_tke T N s - s))))
theorem z_wkd_4 (T : Nat → Nat) (N s : Nat) : z_wkd T N s ≠ 4 := by
  unfold z_wkd
  split
  · decide
  · split
    · decide
    · split <;> decide
theorem z_ntl_ok (h : z_cw u T N s) : z_ok (z_ntl u) (fun u' => z_u81 u u' ∧ z_tok u' T N s) := by
  obtain ⟨h1, h2, h3, h4, h5⟩ := h
  unfold z_ntl
  rw [z_ok_lt, show z_gI u 81 6 = nI s from h2]
  obtain ⟨v, hv⟩ : ∃ v, v = z_sI u 81 8 (nI s) := ⟨_, rfl⟩
  rw [← hv]
  have v8 : v.1 81 8 = nI s := by rw [hv, z_sI_1, if_pos ⟨rfl, rfl⟩]
  have v1 : v.1 81 1 = nI N := by rw [hv, z_sI_1, if_neg (by decide)]; exact h1
  have v6 : v.1 81 6 = nI s := by rw [hv, z_sI_1, if_neg (by decide)]; exact h2
  have vu : z_u81 u v := ⟨fun i hi => by rw [hv, z_sI_ne hi], fun k hk => by rw [hv, z_sI_1, if_neg (by omega)]⟩
  have vw : z_cw v T N s := ⟨v1, v6, h3, h4, fun i hi => by rw [hv, z_sI_ne (by decide)]; exact h5 i hi⟩
  have step : ∀ k : Int32, ∀ kk : Nat, k = nI kk → z_tkk T N s = kk → kk ≠ 4 → z_tke T N s = s + 1 → z_ok (z_lt (z_sI v 81 7 k) (fun u12 => z_lt (z_sI u12 81 6 ((z_gI u12 81 6) + 1)) (fun u13 => some u13))) (fun u' => z_u81 u u' ∧ z_tok u' T N s) := fun k kk hk g1 g2 g3 => by
    rw [z_ok_lt, z_ok_lt, z_ok_some]
    refine ⟨⟨fun i hi => by rw [z_sI_ne hi, z_sI_ne hi]; exact vu.1 i hi, fun j hj => by rw [z_sI_1, if_neg (by omega), z_sI_1, if_neg (by omega)]; exact vu.2 j hj⟩, ?_, ?_, ?_, fun q => absurd (g1.symm.trans q) g2⟩
    · rw [z_sI_1, if_neg (by decide), z_sI_1, if_neg (by decide)]; exact v8
    · rw [z_sI_1, if_neg (by decide), z_sI_1, if_pos ⟨rfl, rfl⟩, g1, hk]
    · rw [z_sI_1, if_pos ⟨rfl, rfl⟩, z_gI, z_sI_1, if_neg (by decide), v6, z_1, g3]
  rw [z_gI, z_gI, v6, v1]
  by_cases c : s < N
  · obtain ⟨f1, f2⟩ := h5 s c
    have e82 : v.1 82 s = nI (T s) := by rw [hv, z_sI_ne (by decide)]; exact f2
    rw [if_pos (nI_lt c (by omega)), z_gdt (z_in400 (by omega)), z_gI, z_cl (by omega), e82, z_cll _ f1, Option.bind_some, z_gdt (z_in400 (by omega)), z_cld _ f1, Option.bind_some, z_gdt (z_in400 (by omega)), z_gdt (z_in400 (by omega))]
    by_cases cl : z_ql T s = true
    · rw [show (decide (97 ≤ T s) && decide (T s ≤ 122)) = true from cl, if_neg (show ¬ z_bi true = 0 by decide), s7_takeWord vw v8 c cl, Option.bind_some, z_ok_some]
      have g1 : z_tkk T N s = z_wkd T N s := by unfold z_tkk; rw [if_pos c, if_pos cl]
      have g2 : z_tke T N s = z_to (z_ql T) N s := by unfold z_tke; rw [if_pos c, if_pos cl]
      refine ⟨⟨fun i hi => by rw [z_sI_ne hi, z_sI_ne hi]; exact vu.1 i hi, fun j hj => by rw [z_sI_1, if_neg (by omega), z_sI_1, if_neg (by omega)]; exact vu.2 j hj⟩, ?_, ?_, ?_, fun q => absurd (g1.symm.trans q) (z_wkd_4 T N s)⟩
      · rw [z_sI_1, if_neg (by decide), z_sI_1, if_neg (by decide)]; exact v8
      · rw [z_sI_1, if_pos ⟨rfl, rfl⟩, g1]
      · rw [z_sI_1, if_neg (by decide), z_sI_1, if_pos ⟨rfl, rfl⟩, g2]
    · have cl' : z_ql T s = false := by simpa using cl
      rw [show (decide (97 ≤ T s) && decide (T s ≤ 122)) = false from cl', if_pos (show z_bi false = 0 from rfl)]
      by_cases cd : z_qd T s = true
      · rw [show (decide (48 ≤ T s) && decide (T s ≤ 57)) = true from cd, if_neg (show ¬ z_bi true = 0 by decide)]
        obtain ⟨v', a0, a1, a2, a3, a4, a5, a6⟩ := s7_takeNumber vw v8
        rw [a0, Option.bind_some, z_ok_some]
        have g1 : z_tkk T N s = 4 := by unfold z_tkk; rw [if_pos c, if_neg cl, if_pos cd]
        have g2 : z_tke T N s = z_to (z_qd T) N s := by unfold z_tke; rw [if_pos c, if_neg cl, if_pos cd]
        refine ⟨⟨fun i hi => (a1.1 i hi).trans (vu.1 i hi), fun k hk => (a1.2 k hk).trans (vu.2 k hk)⟩, a2, by rw [a3, g1]; rfl, by rw [a4, g2], fun _ => ?_⟩
        rw [g2]
        exact ⟨a5, a6⟩
      · have cd' : z_qd T s = false := by simpa using cd
        have g2 : z_tke T N s = s + 1 := by unfold z_tke; rw [if_pos c, if_neg cl, if_neg cd]
        rw [show (decide (48 ≤ T s) && decide (T s ≤ 57)) = false from cd', if_pos (show z_bi false = 0 from rfl)]
        simp only [show (nI (T s) = 59) = (T s = 59) from z_eqI (b := 59) (by omega) (by decide), show (nI (T s) = 60) = (T s = 60) from z_eqI (b := 60) (by omega) (by decide)]
        by_cases c59 : T s = 59
        · rw [if_pos c59]
          exact step 5 5 rfl (by unfold z_tkk; rw [if_pos c, if_neg cl, if_neg cd, if_pos c59]) (by decide) g2
        · rw [if_neg c59]
          by_cases c60 : T s = 60
          · rw [if_pos c60]
            exact step 6 6 rfl (by unfold z_tkk; rw [if_pos c, if_neg cl, if_neg cd, if_neg c59, if_pos c60]) (by decide) g2
          · rw [if_neg c60]
            exact step 7 7 rfl (by unfold z_tkk; rw [if_pos c, if_neg cl, if_neg cd, if_neg c59, if_neg c60]) (by decide) g2
  · rw [if_neg (nI_nlt (by omega) (by omega)), z_ok_lt, z_ok_some]
    have g1 : z_tkk T N s = 0 := by unfold z_tkk; rw [if_neg c]
    have g2 : z_tke T N s = s := by unfold z_tke; rw [if_neg c]
    refine ⟨⟨fun i hi => by rw [z_sI_ne hi]; exact vu.1 i hi, fun j hj => by rw [z_sI_1, if_neg (by omega)]; exact vu.2 j hj⟩, ?_, ?_, ?_, fun q => absurd (g1.symm.trans q) (by decide)⟩
    · rw [z_sI_1, if_neg (by decide)]; exact v8
    · rw [z_sI_1, if_pos ⟨rfl, rfl⟩, g1]; rfl
    · rw [z_sI_1, if_neg (by decide), g2]; exact v6
theorem s7_nextToken (h : z_cw u T N p) : z_ok (f_X7_nextToken u) (fun u' => z_u81 u u' ∧ z_tok u' T N (z_to (z_qb T) N p)) := by
  have hok := z_to_ok (z_qb T) h.2.2.1
  rw [s7_skip h]
  obtain ⟨u', a0, a1, a2⟩ := z_ntl_ok (h.mv hok.2.1)
  exact ⟨u', a0, ⟨fun i hi => by rw [a1.1 i hi, z_sI_ne hi], fun k hk => by rw [a1.2 k hk, z_sI_1, if_neg (by omega)]⟩, a2⟩
end
