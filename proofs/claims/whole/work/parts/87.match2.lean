section
variable {u w v : z_M} {P R : z_P}
theorem z_allL {b : Int32 → (Int32 → Option Int32) → (Unit → Option Int32) → Option Int32} {kx : Unit → Option Int32} (p : Nat → Bool) {n : Nat} (hn : n ≤ 9) (hs : ∀ i, i < n → ∀ kb, b (nI i) kb kx = if p i then kb (nI (i + 1)) else some 0) (he : ∀ kb, b (nI n) kb kx = some 1) : z_lp b z_F 0 kx = some (z_bi (decide (∀ i, i < n → p i = true))) := by
  rw [← z_ok_eq]
  refine z_ok_lp (fun j q => q = nI j ∧ ∀ i, i < j → p i = true) n (z_F_lt (by omega)) ⟨rfl, fun i hi => absurd hi (by omega)⟩ ?_ ?_
  · rintro j q hj ⟨rfl, h1⟩ kb hk
    rw [hs j hj]
    cases hp : p j
    · simp only [Bool.false_eq_true, if_false]
      rw [z_ok_some, decide_eq_false (fun c => by rw [c j hj] at hp; cases hp)]
      rfl
    · simp only [if_true]
      refine hk _ ⟨rfl, fun i hi => ?_⟩
      by_cases e : i = j
      · rw [e]; exact hp
      · exact h1 i (by omega)
  · rintro q ⟨rfl, h1⟩ kb
    rw [he, z_ok_some, decide_eq_true h1]
    rfl
def z_Ur (P : z_P) (x : Nat) (f : Nat → Nat) (U : Nat) : Prop := U < 512 ∧ ∀ y, y < 9 → (U.testBit y = true ↔ ∃ z, z < x ∧ (z_th P).testBit z = true ∧ f z = y)
theorem z_Ur_0 {f : Nat → Nat} : z_Ur P 0 f 0 := by
  refine ⟨by decide, fun y _ => ⟨fun c => ?_, ?_⟩⟩
  · rw [Nat.zero_testBit] at c; cases c
  · rintro ⟨z, hz, -⟩; omega
theorem z_Ur_put {x y U : Nat} {f : Nat → Nat} (h : z_Ur P x f U) (tx : (z_th P).testBit x = true) (hy : y < 9) : z_Ur P (x + 1) (z_ud f x y) (U ||| 2 ^ y) := by
  refine ⟨z_or_lt h.1 (z_pw_lt hy), fun t ht => ?_⟩
  rw [z_put_bit, Bool.or_eq_true, decide_eq_true_eq, h.2 t ht]
  constructor
  · rintro (⟨z, h1, h2, h3⟩ | rfl)
    · exact ⟨z, by omega, h2, by rw [z_ud_ne _ (by omega)]; exact h3⟩
    · exact ⟨x, by omega, tx, z_ud_eq _ _ _⟩
  · rintro ⟨z, h1, h2, h3⟩
    by_cases e : z = x
    · subst e; rw [z_ud_eq] at h3; exact Or.inr h3.symm
    · rw [z_ud_ne _ e] at h3; exact Or.inl ⟨z, by omega, h2, h3⟩
theorem z_Ur_skip {x U : Nat} {f : Nat → Nat} (h : z_Ur P x f U) (tx : (z_th P).testBit x = false) : z_Ur P (x + 1) f U := by
  refine ⟨h.1, fun t ht => ?_⟩
  rw [h.2 t ht]
  constructor
  · rintro ⟨z, h1, h2, h3⟩
    exact ⟨z, by omega, h2, h3⟩
  · rintro ⟨z, h1, h2, h3⟩
    have : z ≠ x := by rintro rfl; rw [tx] at h2; cases h2
    exact ⟨z, by omega, h2, h3⟩
theorem z_Ur_fit {x y U : Nat} {f : Nat → Nat} (h : z_Ur P x f U) (hy : y < 9) (hf : z_fit P R x f y = true) : U.testBit y = false := by
  cases hb : U.testBit y
  · rfl
  · obtain ⟨z, h1, h2, h3⟩ := (h.2 y hy).mp hb
    exact absurd h3 ((z_fit_iff.mp hf).2 z h1 h2).1
theorem z_Ur_rest {x y U : Nat} {f : Nat → Nat} (h : z_Ur P x f U) (hb : U.testBit y = false) : z_rest y (U ||| 2 ^ y) = U := z_rest_put hb
theorem s6_isUnderN {i a b : Nat} (hr : z_rc v i P) (hw : z_wf P) (ha : a < 9) (hb : b < 9) (ta : (z_th P).testBit a = true) : f_X6_isUnder i (nI a) (nI b) v = some (z_bi ((z_ab P a).testBit b)) := by
  rw [s6_isUnder hr hw, z_is_nI ha, z_c9 ha, z_is_nI hb, ta]
  rfl
/-! the class's -/
def z_dq (P R : z_P) (x y : Nat) : Bool := (z_pc (z_ab P x) == z_pc (z_ab R y)) && (z_pc (z_un P x) == z_pc (z_un R y))
theorem z_pcI {a b : Nat} : (nI (z_pc a) = nI (z_pc b)) = (z_pc a = z_pc b) := z_eqI (by have := z_pc_le a; omega) (by have := z_pc_le b; omega)
/-! points in turns, in the class -/
def z_Ul (s : List Nat) (f : Nat → Nat) (U : Nat) : Prop := U < 512 ∧ ∀ y, y < 9 → (U.testBit y = true ↔ ∃ z, z ∈ s ∧ f z = y)
theorem z_Ul_0 {f : Nat → Nat} : z_Ul [] f 0 := by
  refine ⟨by decide, fun y _ => ⟨fun c => ?_, ?_⟩⟩
  · rw [Nat.zero_testBit] at c; cases c
  · rintro ⟨z, hz, -⟩; cases hz
theorem z_Ul_put {s : List Nat} {x y U : Nat} {f : Nat → Nat} (h : z_Ul s f U) (hxs : x ∉ s) (hy : y < 9) : z_Ul (x :: s) (z_ud f x y) (U ||| 2 ^ y) := by
  refine ⟨z_or_lt h.1 (z_pw_lt hy), fun t ht => ?_⟩
  rw [z_put_bit, Bool.or_eq_true, decide_eq_true_eq, h.2 t ht]
  constructor
  · rintro (⟨z, h1, h2⟩ | rfl)
    · exact ⟨z, List.mem_cons_of_mem _ h1, by rw [z_ud_ne _ (by rintro rfl; exact hxs h1)]; exact h2⟩
    · exact ⟨x, List.mem_cons.mpr (Or.inl rfl), z_ud_eq _ _ _⟩
  · rintro ⟨z, h1, h2⟩
    by_cases e : z = x
    · subst e; rw [z_ud_eq] at h2; exact Or.inr h2.symm
    · rw [z_ud_ne _ e] at h2; exact Or.inl ⟨z, (List.mem_cons.mp h1).resolve_left e, h2⟩
theorem z_Ul_cg {s : List Nat} {f g : Nat → Nat} {U : Nat} (h : z_Ul s f U) (he : ∀ z, z ∈ s → f z = g z) : z_Ul s g U := by
  refine ⟨h.1, fun y hy => ?_⟩
  rw [h.2 y hy]
  constructor
  · rintro ⟨z, h1, h2⟩; exact ⟨z, h1, by rw [← he z h1]; exact h2⟩
  · rintro ⟨z, h1, h2⟩; exact ⟨z, h1, by rw [he z h1]; exact h2⟩
theorem z_Ul_fit {s : List Nat} {x y U : Nat} {f : Nat → Nat} (h : z_Ul s f U) (hy : y < 9) (hf : zt_fl P R s x f y = true) : U.testBit y = false := by
  cases hb : U.testBit y
  · rfl
  · obtain ⟨z, h1, h2⟩ := (h.2 y hy).mp hb
    exact absurd h2 ((zt_fl_iff.mp hf).2 z h1).1
/-- the turns as they lie there -/
def zt_tm (v : z_M) (τ : Nat → Nat) (n : Nat) : Prop := v.1 138 2 = nI n ∧ ∀ k, k < n → v.1 140 k = nI (τ k)
theorem zt_tm_cg {v v' : z_M} {τ : Nat → Nat} {n : Nat} (h : zt_tm v τ n) (e1 : v'.1 138 = v.1 138) (e2 : v'.1 140 = v.1 140) : zt_tm v' τ n := ⟨by rw [e1]; exact h.1, fun k hk => by rw [e2]; exact h.2 k hk⟩
theorem z_m1 : ∀ m, m < 10 → ¬ nI m ≤ (-1 : Int32) := by decide +kernel
theorem z_pc_pw : ∀ x, x < 9 → z_pc (2 ^ x) = 1 := by decide +kernel
theorem zt_pc_put {a x : Nat} (hx : x < 9) (h : a.testBit x = true) : z_pc (z_df a (2 ^ x)) + 1 = z_pc a := by
  have := z_pc_df (a := a) (b := 2 ^ x) (fun k _ hb => by
    rw [Nat.testBit_two_pow, decide_eq_true_eq] at hb
    rw [← hb]; exact h)
  rw [z_pc_pw x hx] at this
  omega
theorem z_pc_none {a : Nat} (h : ∀ z, z < 9 → a.testBit z = false) : z_pc a = 0 := by
  rw [z_pc_ct, fb_ct_zero]
  exact h
theorem z_df_pw {a x z : Nat} : (z_df a (2 ^ x)).testBit z = (a.testBit z && !decide (x = z)) := by rw [z_df_bit, Nat.testBit_two_pow]
theorem s4_nearest {i1 O : Nat} (h1 : z_rc v i1 P) (hw : z_wf P) (hO : O < 512) : z_ok (f_X4_nearest i1 (nI O) v) (fun r => (r = -1 ∧ ∀ z, z < 9 → O.testBit z = false) ∨ ∃ x, x < 9 ∧ r = nI x ∧ O.testBit x = true) := by
  unfold f_X4_nearest
  refine z_ok_l9 (fun j q => q.2.2 = nI j ∧ ((q.1 = -1 ∧ q.2.1 = -1 ∧ ∀ z, z < j → O.testBit z = false) ∨ ∃ x, x < 9 ∧ q.1 = nI x ∧ O.testBit x = true)) ⟨rfl, Or.inl ⟨rfl, rfl, fun z hz => absurd hz (by omega)⟩⟩ ?_ ?_
  · rintro j ⟨fd, ms, jj⟩ hj ⟨e1, e2⟩ kb hk
    dsimp only at e1 e2
    subst e1
    have eb : z_bitc (nI (z_df (z_ab P j ||| z_un P j) O)) = nI (z_pc (z_df (z_ab P j ||| z_un P j) O)) := s_bitc (z_df_lt (z_or_lt (hw.ab j hj) (z_un_lt P j)))
    unfold b_X4_nearest_7
    dsimp only
    rw [if_neg (show ¬ (9 : Int32) ≤ nI j by rw [z_le9 hj]; exact id), s_isIn hO, Option.bind_some, z_is_nI hj, z_ok_bit, z_1]
    refine ⟨fun c => hk _ ⟨rfl, ?_⟩, fun c => ?_⟩
    · rcases e2 with ⟨a1, a2, a3⟩ | h
      · refine Or.inl ⟨a1, a2, fun z hz => ?_⟩
        by_cases e : z = j
        · rw [e]; exact c
        · exact a3 z (by omega)
      · exact Or.inr h
    · rw [z_ok_gd, z_ok_gd, z_ok_lt, z_gI, z_gI, z_c9 hj, h1.2.2.2.1 j hj, h1.2.2.2.2.1 j hj, z_or, z_andc, eb, z_ok_ite]
      refine ⟨z_in9 hj, z_in9 hj, fun c2 => hk _ ⟨rfl, ?_⟩, fun _ => hk _ ⟨rfl, Or.inr ⟨j, hj, rfl, c⟩⟩⟩
      rcases e2 with ⟨a1, a2, a3⟩ | h
      · exfalso
        rw [a2] at c2
        exact z_m1 _ (Nat.lt_succ_of_le (z_pc_le _)) c2
      · exact Or.inr h
  · rintro ⟨fd, ms, jj⟩ ⟨e1, e2⟩ kb
    dsimp only at e1 e2
    subst e1
    unfold b_X4_nearest_7
    dsimp only
    rw [if_pos (show (9 : Int32) ≤ nI 9 by decide), z_ok_some]
    rcases e2 with ⟨a1, -, a3⟩ | h
    · exact Or.inl ⟨a1, a3⟩
    · exact Or.inr h
theorem s4_lineUp {i1 : Nat} (hi1 : i1 + 4 ≤ 138) (h1 : z_rc v i1 P) (hw : z_wf P) : z_ok (f_X4_lineUp i1 v) (fun r => ∃ τ n, z_Tn P τ n ∧ n = z_pc (z_th P) ∧ zt_tm r τ n ∧ ∀ k, k < 138 → r.1 k = v.1 k) := by
  unfold f_X4_lineUp
  rw [z_ok_lt, z_ok_lt, z_gI, h1.2.1]
  refine z_ok_l9 (fun j q => q.2.1 = nI j ∧ ∃ τ n O, q.1 = nI O ∧ O < 512 ∧ zt_tm q.2.2 τ n ∧ n + z_pc O = z_pc (z_th P) ∧ z_pc O + j ≤ 9 + (if z_pc O = 0 then j else 0) ∧ (∀ k, k < n → τ k < 9 ∧ (z_th P).testBit (τ k) = true ∧ O.testBit (τ k) = false) ∧ (∀ k m, k < n → m < n → τ k = τ m → k = m) ∧ (∀ z, z < 9 → (z_th P).testBit z = true → O.testBit z = true ∨ ∃ k, k < n ∧ τ k = z) ∧ (∀ z, z < 9 → O.testBit z = true → (z_th P).testBit z = true) ∧ ∀ k, k < 138 → q.2.2.1 k = v.1 k) ⟨rfl, fun z => z, 0, z_th P, rfl, hw.th, ⟨(z_sI_1 v 138 2 0 138 2).trans (if_pos ⟨rfl, rfl⟩), fun k hk => absurd hk (by omega)⟩, by omega, Nat.le_trans (show z_pc (z_th P) + 0 ≤ 9 from z_pc_le _) (Nat.le_add_right _ _), fun k hk => absurd hk (by omega), fun k m hk => absurd hk (by omega), fun z _ h => Or.inl h, fun z _ h => h, fun k hk => z_sI_ne (by omega)⟩ ?_ ?_
  · rintro j ⟨oo, jj, v1⟩ hj ⟨e1, τ, n, O, e2, hO, htm, hn, hle, ht, hinj, hcov, hin, hfr⟩ kb hk
    dsimp only at e1 e2 htm hfr
    subst e1 e2
    have h1' : z_rc v1 i1 P := z_rc_cg (fun j hj => hfr _ (by omega)) h1
    unfold b_X4_lineUp_12
    dsimp only
    rw [if_neg (show ¬ (9 : Int32) ≤ nI j by rw [z_le9 hj]; exact id)]
    obtain ⟨r, g1, g2⟩ := s4_nearest h1' hw hO
    rw [g1, Option.bind_some, z_1]
    rcases g2 with ⟨rfl, g3⟩ | ⟨x, hx, rfl, g3⟩
    · rw [if_pos rfl]
      refine hk _ ⟨rfl, τ, n, O, rfl, hO, htm, hn, ?_, ht, hinj, hcov, hin, hfr⟩
      rw [z_pc_none g3, if_pos rfl]
      omega
    · have hpc := zt_pc_put hx g3
      have hpt := z_pc_le (z_th P)
      have hn9 : n < 9 := by omega
      have hx1 := hin x hx g3
      have e138 : v1.1 138 2 = nI n := htm.1
      rw [if_neg (z_nI9m x hx), z_ok_gd, z_gI, e138, z_c9 hn9, z_ok_lt, z_ok_lt, z_ok_lt, z_gI, z_sI_ne (show (138 : Nat) ≠ 140 by decide), e138, z_1, z_sh hx, z_andc]
      refine ⟨z_in9 hn9, hk _ ⟨rfl, z_ud τ n x, n + 1, z_df O (2 ^ x), rfl, z_df_lt hO, ⟨?_, fun k hk => ?_⟩, by omega, ?_, fun k hk => ?_, fun k m hk hm e => ?_, fun z hz tz => ?_, fun z hz tz => ?_, fun k hk => ?_⟩⟩
      · show (z_sI (z_sI v1 140 n (nI x)) 138 2 (nI (n + 1))).1 138 2 = _
        rw [z_sI_1, if_pos ⟨rfl, rfl⟩]
      · show (z_sI (z_sI v1 140 n (nI x)) 138 2 (nI (n + 1))).1 140 k = _
        rw [z_sI_ne (show (140 : Nat) ≠ 138 by decide), z_sI_1]
        by_cases e : n = k
        · subst e; rw [if_pos ⟨rfl, rfl⟩, z_ud_eq]
        · rw [if_neg (fun h => e h.2), z_ud_ne _ (Ne.symm e)]
          exact htm.2 k (by omega)
      · have : ¬ z_pc O = 0 := by omega
        rw [if_neg this] at hle
        exact Nat.le_trans (show z_pc (z_df O (2 ^ x)) + (j + 1) ≤ 9 by omega) (Nat.le_add_right _ _)
      · by_cases e : k = n
        · subst e; rw [z_ud_eq, z_df_pw]
          exact ⟨hx, hx1, by simp⟩
        · rw [z_ud_ne _ e, z_df_pw]
          obtain ⟨t1, t2, t3⟩ := ht k (by omega)
          exact ⟨t1, t2, by rw [t3]; rfl⟩
      · have hx0 : ∀ k, k < n → τ k ≠ x := fun k hk c => by
          have := (ht k hk).2.2
          rw [c, g3] at this
          cases this
        by_cases ek : k = n
        · by_cases em : m = n
          · omega
          · rw [ek, z_ud_eq, z_ud_ne _ em] at e
            exact absurd e.symm (hx0 m (by omega))
        · by_cases em : m = n
          · rw [em, z_ud_eq, z_ud_ne _ ek] at e
            exact absurd e (hx0 k (by omega))
          · rw [z_ud_ne _ ek, z_ud_ne _ em] at e
            exact hinj k m (by omega) (by omega) e
      · by_cases e : x = z
        · exact Or.inr ⟨n, by omega, by rw [z_ud_eq]; exact e⟩
        · rcases hcov z hz tz with h | ⟨k, h2, h3⟩
          · exact Or.inl (by rw [z_df_pw, h]; simp [e])
          · exact Or.inr ⟨k, by omega, by rw [z_ud_ne _ (by omega)]; exact h3⟩
      · rw [z_df_pw, Bool.and_eq_true] at tz
        exact hin z hz tz.1
      · show (z_sI (z_sI v1 140 n (nI x)) 138 2 (nI (n + 1))).1 k = _
        rw [z_sI_ne (by omega), z_sI_ne (by omega)]
        exact hfr k hk
  · rintro ⟨oo, jj, v1⟩ ⟨e1, τ, n, O, e2, hO, htm, hn, hle, ht, hinj, hcov, hin, hfr⟩ kb
    dsimp only at e1 e2 htm hfr
    subst e1 e2
    unfold b_X4_lineUp_12
    dsimp only
    rw [if_pos (show (9 : Int32) ≤ nI 9 by decide), z_ok_some]
    have h0 : z_pc O = 0 := by
      refine Classical.byContradiction (fun c => ?_)
      rw [if_neg c] at hle
      omega
    have hz0 : ∀ z, z < 9 → O.testBit z = false := fun z hz => by
      cases hb : O.testBit z
      · rfl
      · have := zt_pc_put hz hb
        omega
    have hpt := z_pc_le (z_th P)
    refine ⟨τ, n, ⟨by omega, fun k hk => ⟨(ht k hk).1, (ht k hk).2.1⟩, hinj, fun z hz tz => ?_⟩, by omega, htm, hfr⟩
    rcases hcov z hz tz with h | h
    · rw [hz0 z hz] at h; cases h
    · exact h
theorem s4_fits {i1 i2 : Nat} (h1 : z_rc v i1 P) (h2 : z_rc v i2 R) (hw : z_wf P) (hw2 : z_wf R) {i n y U : Nat} {τ f : Nat → Nat} (hT : z_Tn P τ n) (htm : zt_tm v τ n) (hi : i < n) (hy : y < 9) (hp : z_Pl P R (z_pl τ i) f) (hU : z_Ul (z_pl τ i) f U) (hv : ∀ k, k < i → v.1 139 k = nI (f (τ k))) : f_X4_fits i1 (nI i) i2 (nI y) (nI U) v = some (z_bi (zt_fl P R (z_pl τ i) (τ i) f y && z_dq P R (τ i) y)) := by
  have hi9 : i < 9 := Nat.lt_of_lt_of_le hi hT.1
  obtain ⟨hx, tx⟩ := hT.2.1 i hi
  unfold f_X4_fits
  rw [z_in9 hi9, z_gd, if_pos rfl, z_gI, z_c9 hi9, htm.2 i hi, z_lt, s6_has h2 hw2, Option.bind_some, z_is_nI hy]
  generalize hxe : τ i = x at hx tx ⊢
  cases ty : (z_th R).testBit y
  · rw [if_pos z_bf0]
    simp [zt_fl, ty, z_bi]
  rw [if_neg z_bt0, s_isIn hU.1, Option.bind_some, z_is_nI hy]
  cases hUy : U.testBit y
  · rw [if_pos z_bf0]
    have hU0 : ∀ z, z ∈ z_pl τ i → f z ≠ y := fun z hz e => by
      rw [(hU.2 y hy).mpr ⟨z, hz, e⟩] at hUy
      cases hUy
    have hb1 : z_bitc (nI (z_ab P x)) = nI (z_pc (z_ab P x)) := s_bitc (hw.ab x hx)
    have hb2 : z_bitc (nI (z_ab R y)) = nI (z_pc (z_ab R y)) := s_bitc (hw2.ab y hy)
    have hb3 : z_bitc (nI (z_un P x)) = nI (z_pc (z_un P x)) := s_bitc (z_un_lt P x)
    have hb4 : z_bitc (nI (z_un R y)) = nI (z_pc (z_un R y)) := s_bitc (z_un_lt R y)
    have hloop : z_lp (b_X4_fits_78 i1 (nI i) i2 (nI y) (nI x) v) z_F 0 (fun t24 => some 1) = some (z_bi (zt_fl P R (z_pl τ i) x f y)) := by
      rw [z_allL (fun k => ((z_ab P (τ k)).testBit x == (z_ab R (f (τ k))).testBit y) && ((z_ab P x).testBit (τ k) == (z_ab R y).testBit (f (τ k)))) (n := i) (by omega) (fun k hk kb => ?_) (fun kb => ?_)]
      · congr 2
        rw [Bool.eq_iff_iff, decide_eq_true_eq, zt_fl_iff]
        constructor
        · intro hh
          refine ⟨ty, fun z hz => ?_⟩
          obtain ⟨k, hk, rfl⟩ := (z_pl_mem τ i z).mp hz
          have := hh k hk
          simp only [Bool.and_eq_true, beq_iff_eq] at this
          exact ⟨hU0 _ hz, this.1, this.2⟩
        · rintro ⟨-, hh⟩ k hk
          obtain ⟨-, c2, c3⟩ := hh (τ k) ((z_pl_mem τ i _).mpr ⟨k, hk, rfl⟩)
          simp only [Bool.and_eq_true, beq_iff_eq]
          exact ⟨c2, c3⟩
      · have hk9 : k < 9 := by omega
        obtain ⟨t1, t2⟩ := hT.2.1 k (by omega)
        obtain ⟨f1, f2, -⟩ := hp (τ k) ((z_pl_mem τ i _).mpr ⟨k, hk, rfl⟩)
        unfold b_X4_fits_78
        rw [if_neg (nI_ge hk (by omega)), z_in9 hk9, z_gd, if_pos rfl, z_gI, z_c9 hk9, htm.2 k (by omega), z_lt, s6_isUnderN h1 hw t1 hx t2, Option.bind_some, z_gI, hv k hk, s6_isUnderN h2 hw2 f1 hy f2, s6_isUnderN h1 hw hx t1 tx, s6_isUnderN h2 hw2 hy f1 ty, z_1]
        simp only [z_gd, if_true, Option.bind_some]
        cases (z_ab P (τ k)).testBit x <;> cases (z_ab R (f (τ k))).testBit y <;> cases (z_ab P x).testBit (τ k) <;> cases (z_ab R y).testBit (f (τ k)) <;> simp [z_bi]
      · unfold b_X4_fits_78
        rw [if_pos (nI_le (Nat.le_refl i) (by omega))]
    rw [z_in9 hx, z_in9 hy, z_gI, z_gI, z_gI, z_gI, z_c9 hx, z_c9 hy, h1.2.2.2.1 x hx, h2.2.2.2.1 y hy, h1.2.2.2.2.1 x hx, h2.2.2.2.2.1 y hy, hb1, hb2, hb3, hb4, hloop]
    simp only [z_gd, if_true, z_pcI]
    unfold z_dq
    by_cases c1 : z_pc (z_ab P x) = z_pc (z_ab R y)
    · by_cases c2 : z_pc (z_un P x) = z_pc (z_un R y)
      · simp [c1, c2]
      · simp [c1, c2, z_bi]
    · simp [c1, z_bi]
  · rw [if_neg z_bt0]
    have : zt_fl P R (z_pl τ i) x f y = false := by
      cases hf : zt_fl P R (z_pl τ i) x f y
      · rfl
      · rw [z_Ul_fit hU hy hf] at hUy; cases hUy
    rw [this]
    rfl
/-- one more of the row is laid -/
theorem z_im_put {v1 v : z_M} {i n x y : Nat} {τ f : Nat → Nat} (hT : z_Tn P τ n) (hi : i < n) (hx : τ i = x) (e3 : ∀ z, z < i → v1.1 139 z = v.1 139 z) (hv : ∀ k, k < i → v.1 139 k = nI (f (τ k))) : ∀ k, k < i + 1 → (z_sI v1 139 i (nI y)).1 139 k = nI (z_ud f x y (τ k)) := by
  intro k hk
  rw [z_sI_1]
  by_cases e : i = k
  · subst e; rw [if_pos ⟨rfl, rfl⟩, hx, z_ud_eq]
  · rw [if_neg (fun h => e h.2), z_ud_ne _ (fun c => e (hT.2.2.1 i k hi (by omega) (by rw [hx, c]))), e3 k (by omega)]
    exact hv k (by omega)
theorem z_wl_dq (hw : z_wf P) (hw2 : z_wf R) (hpc : z_pc (z_th P) = z_pc (z_th R)) {x y : Nat} {l s : List Nat} {f : Nat → Nat} (hL : z_Ls P (x :: l) s) (hp : z_Pl P R s f) (hy : y < 9) (hf : zt_fl P R s x f y = true) (hq : z_dq P R x y = false) : z_wl P R l (x :: s) (z_ud f x y) = 0 := by
  obtain ⟨hx, tx⟩ := hL.2.2.1 x (List.mem_cons.mpr (Or.inl rfl))
  have hxs : x ∉ s := hL.2.1 x (List.mem_cons.mpr (Or.inl rfl))
  refine Nat.eq_zero_of_not_pos (fun hpos => ?_)
  obtain ⟨g, e1, e2⟩ := (z_wl_pos hw hw2 l (x :: s) _ hL.tl (z_Pl_fit hw hw2 hx hy hxs hp hf)).mp hpos
  have eg : g x = y := by rw [e1 x (List.mem_cons.mpr (Or.inl rfl)), z_ud_eq]
  obtain ⟨d1, d2⟩ := z_deg hw hw2 hpc e2 hx tx
  unfold z_dq at hq
  rw [eg] at d1 d2
  simp [d1, d2] at hq
theorem s4_canFinish {i1 i2 : Nat} (hi1 : i1 + 4 ≤ 138) (hi2 : i2 + 4 ≤ 138) (hw : z_wf P) (hw2 : z_wf R) (hpc : z_pc (z_th P) = z_pc (z_th R)) {n : Nat} {τ : Nat → Nat} (hT : z_Tn P τ n) : ∀ d i U (f : Nat → Nat) v F, i + d = n → d < F → z_rc v i1 P → z_rc v i2 R → zt_tm v τ n → z_Pl P R (z_pl τ i) f → z_Ul (z_pl τ i) f U → (∀ k, k < i → v.1 139 k = nI (f (τ k))) → z_ok (f_X4_canFinish F i1 i2 (nI i) (nI U) v) (fun q => q.1 = z_bi (decide (0 < z_wl P R (zt_tl τ d i) (z_pl τ i) f)) ∧ (∀ k, k ≠ 139 → q.2.1 k = v.1 k) ∧ ∀ z, z < i → q.2.1 139 z = v.1 139 z)
  | 0, i, U, f, v, F, hd, hF, h1, h2, htm, hp, hU, hv => by
    match F, hF with
    | F + 1, _ =>
      have hn9 := hT.1
      show z_ok (fb_X4_canFinish _ _ _ _ _ _) _
      unfold fb_X4_canFinish
      rw [z_gI, htm.1, if_pos (nI_le (show n ≤ i by omega) (by omega)), z_ok_some]
      exact ⟨rfl, fun _ _ => rfl, fun _ _ => rfl⟩
  | d + 1, i, U, f, v, F, hd, hF, h1, h2, htm, hp, hU, hv => by
    match F, hF with
    | F + 1, hF =>
      have hn9 := hT.1
      have hi : i < n := by omega
      have hi9 : i < 9 := by omega
      have hlt : nI i < 9 := nI_lt (b := 9) hi9 (by decide)
      have hL : z_Ls P (τ i :: zt_tl τ d (i + 1)) (z_pl τ i) := by
        have := z_Tn_Ls hT i (by omega)
        rw [show n - i = d + 1 by omega] at this
        exact this
      have hxs : τ i ∉ z_pl τ i := hL.2.1 _ (List.mem_cons.mpr (Or.inl rfl))
      obtain ⟨hx, tx⟩ := hT.2.1 i hi
      show z_ok (fb_X4_canFinish (f_X4_canFinish F) i1 i2 (nI i) (nI U) v) _
      unfold fb_X4_canFinish
      rw [z_gI, htm.1, if_neg (nI_ge hi (by omega)), if_pos hlt]
      refine z_ok_l9 (fun j q => q.1 = nI j ∧ (∀ k, k ≠ 139 → q.2.1 k = v.1 k) ∧ (∀ z, z < i → q.2.1 139 z = v.1 139 z) ∧ ∀ y, y < j → zt_fl P R (z_pl τ i) (τ i) f y = true → z_wl P R (zt_tl τ d (i + 1)) (τ i :: z_pl τ i) (z_ud f (τ i) y) = 0) ⟨rfl, fun _ _ => rfl, fun _ _ => rfl, fun y hy => absurd hy (by omega)⟩ ?_ ?_
      · rintro y ⟨yy, v1⟩ hy ⟨e1, e2, e3, e4⟩ kb hk
        dsimp only at e1 e2 e3 e4
        subst e1
        have h1' : z_rc v1 i1 P := z_rc_cg (fun j hj => e2 _ (by omega)) h1
        have h2' : z_rc v1 i2 R := z_rc_cg (fun j hj => e2 _ (by omega)) h2
        have htm' : zt_tm v1 τ n := zt_tm_cg htm (e2 138 (by decide)) (e2 140 (by decide))
        unfold b_X4_canFinish_19
        dsimp only
        rw [if_neg (show ¬ (9 : Int32) ≤ nI y by rw [z_le9 hy]; exact id), s4_fits h1' h2' hw hw2 hT htm' hi hy hp hU (fun k hk => by rw [e3 k hk]; exact hv k hk), Option.bind_some, z_ok_bit, z_1]
        refine ⟨fun c => hk _ ⟨rfl, e2, e3, fun y' hy' hf => ?_⟩, fun c => ?_⟩
        · by_cases e : y' = y
          · subst e
            rw [hf, Bool.true_and] at c
            exact z_wl_dq hw hw2 hpc hL hp hy hf c
          · exact e4 y' (by omega) hf
        · rw [Bool.and_eq_true] at c
          rw [z_ok_gd, z_ok_lt, z_c9 hi9, z_sh hy, z_or, z_1 i]
          refine ⟨z_in9 hi9, ?_⟩
          obtain ⟨⟨r, v'⟩, g1, g2, g3, g4⟩ := s4_canFinish hi1 hi2 hw hw2 hpc hT d (i + 1) (U ||| 2 ^ y) (z_ud f (τ i) y) (z_sI v1 139 i (nI y)) F (by omega) (by omega) (z_rc_cg (fun j hj => z_sI_ne (by omega)) h1') (z_rc_cg (fun j hj => z_sI_ne (by omega)) h2') (zt_tm_cg htm' (z_sI_ne (by decide)) (z_sI_ne (by decide))) (z_Pl_fit hw hw2 hx hy hxs hp c.1) (z_Ul_put hU hxs hy) (z_im_put hT hi rfl e3 hv)
          dsimp only at g2 g3 g4
          have g3' : ∀ k, k ≠ 139 → v'.1 k = v.1 k := fun k hk => by rw [g3 k hk, z_sI_ne hk]; exact e2 k hk
          have g4' : ∀ z, z < i → v'.1 139 z = v.1 139 z := fun z hz => by rw [g4 z (by omega), z_sI_1, if_neg (by omega)]; exact e3 z hz
          rw [g1, z_ok_b2, z_ok_some]
          dsimp only
          rw [g2, z_ok_bit, z_ok_some]
          refine ⟨fun c2 => hk _ ⟨rfl, g3', g4', fun y' hy' hf => ?_⟩, fun c2 => ⟨?_, g3', g4'⟩⟩
          · by_cases e : y' = y
            · subst e
              rw [decide_eq_false_iff_not] at c2
              exact Nat.eq_zero_of_not_pos c2
            · exact e4 y' (by omega) hf
          · rw [decide_eq_true_eq] at c2
            have c2 : 0 < z_wl P R (zt_tl τ d (i + 1)) (τ i :: z_pl τ i) (z_ud f (τ i) y) := c2
            have h9 := fb_sm_part (fun y => if zt_fl P R (z_pl τ i) (τ i) f y then z_wl P R (zt_tl τ d (i + 1)) (τ i :: z_pl τ i) (z_ud f (τ i) y) else 0) hy
            try dsimp only at h9
            rw [if_pos c.1] at h9
            have : 0 < z_wl P R (zt_tl τ (d + 1) i) (z_pl τ i) f := by
              rw [zt_tl, z_wl]
              omega
            rw [decide_eq_true this]
            rfl
      · rintro ⟨yy, v1⟩ ⟨e1, e2, e3, e4⟩ kb
        dsimp only at e1 e2 e3 e4
        subst e1
        unfold b_X4_canFinish_19
        dsimp only
        rw [if_pos (show (9 : Int32) ≤ nI 9 by decide), z_ok_some]
        refine ⟨?_, e2, e3⟩
        have : z_wl P R (zt_tl τ (d + 1) i) (z_pl τ i) f = 0 := by
          rw [zt_tl, z_wl]
          have h9 : fb_sm (fun y => if zt_fl P R (z_pl τ i) (τ i) f y then z_wl P R (zt_tl τ d (i + 1)) (τ i :: z_pl τ i) (z_ud f (τ i) y) else 0) 9 ≤ 9 * 0 := fb_sm_bound (fun y hy => by
            split
            · rename_i hf; rw [e4 y hy hf]; exact Nat.le_refl _
            · exact Nat.le_refl _)
          omega
        rw [this]
        rfl
theorem s4_placesFor (hr : z_rc v 0 P) (hw : z_wf P) {d i n U : Nat} {τ : Nat → Nat} (hT : z_Tn P τ n) (htm : zt_tm v τ n) (hd : i + (d + 1) = n) (hU : z_Ul (z_pl τ i) (fun z => z) U) (hv : ∀ k, k < i → v.1 139 k = nI (τ k)) : z_ok (f_X4_placesFor 0 (nI i) (nI U) v) (fun q => q.1 = nI (z_nl P (zt_tl τ d (i + 1)) (z_pl τ i) (τ i)) ∧ (∀ k, k ≠ 139 → q.2.1 k = v.1 k) ∧ ∀ z, z < i → q.2.1 139 z = v.1 139 z) := by
  have hn9 := hT.1
  have hi : i < n := by omega
  have hi9 : i < 9 := by omega
  have hL : z_Ls P (τ i :: zt_tl τ d (i + 1)) (z_pl τ i) := by
    have := z_Tn_Ls hT i (by omega)
    rw [show n - i = d + 1 by omega] at this
    exact this
  have hxs : τ i ∉ z_pl τ i := hL.2.1 _ (List.mem_cons.mpr (Or.inl rfl))
  obtain ⟨hx, tx⟩ := hT.2.1 i hi
  have hid : z_Pl P P (z_pl τ i) (fun z => z) := z_id_Pl hL.2.2.2.1
  unfold f_X4_placesFor
  refine z_ok_l9 (fun j q => q.2.1 = nI j ∧ q.1 = nI (fb_ct (fun y => zt_fl P P (z_pl τ i) (τ i) (fun z => z) y && decide (0 < z_wl P P (zt_tl τ d (i + 1)) (τ i :: z_pl τ i) (z_ud (fun z => z) (τ i) y))) j) ∧ (∀ k, k ≠ 139 → q.2.2.1 k = v.1 k) ∧ ∀ z, z < i → q.2.2.1 139 z = v.1 139 z) ⟨rfl, rfl, fun _ _ => rfl, fun _ _ => rfl⟩ ?_ ?_
  · rintro y ⟨t, yy, v1⟩ hy ⟨e1, e2, e3, e4⟩ kb hk
    dsimp only at e1 e2 e3 e4
    subst e1 e2
    have hr1 : z_rc v1 0 P := z_rc_cg (fun j hj => e3 _ (by omega)) hr
    have htm' : zt_tm v1 τ n := zt_tm_cg htm (e3 138 (by decide)) (e3 140 (by decide))
    unfold b_X4_placesFor_6
    dsimp only
    rw [if_neg (show ¬ (9 : Int32) ≤ nI y by rw [z_le9 hy]; exact id), s4_fits hr1 hr1 hw hw hT htm' hi hy hid hU (fun k hk => by rw [e4 k hk]; exact hv k hk), Option.bind_some, z_ok_bit, z_1]
    refine ⟨fun c => hk _ ⟨rfl, ?_, e3, e4⟩, fun c => ?_⟩
    · dsimp only
      rw [fb_ct_succ]
      cases hf : zt_fl P P (z_pl τ i) (τ i) (fun z => z) y
      · simp
      · rw [hf, Bool.true_and] at c
        have : z_wl P P (zt_tl τ d (i + 1)) (τ i :: z_pl τ i) (z_ud (fun z => z) (τ i) y) = 0 := z_wl_dq hw hw rfl hL hid hy hf c
        simp [this]
    · rw [Bool.and_eq_true] at c
      rw [z_ok_gd, z_ok_lt, z_c9 hi9, z_sh hy, z_or, z_1 i]
      refine ⟨z_in9 hi9, ?_⟩
      obtain ⟨⟨r, v'⟩, g1, g2, g3, g4⟩ := s4_canFinish (P := P) (R := P) (i1 := 0) (i2 := 0) (by decide) (by decide) hw hw rfl hT d (i + 1) (U ||| 2 ^ y) (z_ud (fun z => z) (τ i) y) (z_sI v1 139 i (nI y)) 14 (by omega) (by omega) (z_rc_cg (fun j hj => z_sI_ne (by omega)) hr1) (z_rc_cg (fun j hj => z_sI_ne (by omega)) hr1) (zt_tm_cg htm' (z_sI_ne (by decide)) (z_sI_ne (by decide))) (z_Pl_fit hw hw hx hy hxs hid c.1) (z_Ul_put hU hxs hy) (z_im_put (f := fun z => z) hT hi rfl e4 hv)
      dsimp only at g2 g3 g4
      have g3' : ∀ k, k ≠ 139 → v'.1 k = v.1 k := fun k hk => by rw [g3 k hk, z_sI_ne hk]; exact e3 k hk
      have g4' : ∀ z, z < i → v'.1 139 z = v.1 139 z := fun z hz => by rw [g4 z (by omega), z_sI_1, if_neg (by omega)]; exact e4 z hz
      have g2 : r = z_bi (decide (0 < z_wl P P (zt_tl τ d (i + 1)) (τ i :: z_pl τ i) (z_ud (fun z => z) (τ i) y))) := g2
      rw [g1, z_ok_b2, z_ok_some]
      dsimp only
      rw [g2, z_ok_bit]
      refine ⟨fun c2 => hk _ ⟨rfl, ?_, g3', g4'⟩, fun c2 => hk _ ⟨rfl, ?_, g3', g4'⟩⟩
      · dsimp only
        rw [fb_ct_succ, c2, Bool.and_false]
        rfl
      · dsimp only
        rw [fb_ct_succ, c2, c.1]
        exact z_1 _
  · rintro ⟨t, yy, v1⟩ ⟨e1, e2, e3, e4⟩ kb
    dsimp only at e1 e2 e3 e4
    subst e1 e2
    unfold b_X4_placesFor_6
    dsimp only
    rw [if_pos (show (9 : Int32) ≤ nI 9 by decide), z_ok_some]
    exact ⟨rfl, e3, e4⟩
theorem s4_selvesOf (hr : z_rc v 0 P) (hw : z_wf P) : z_ok (f_X4_selvesOf 0 v) (fun q => q.1 = nI (z_ca P P 9 0 (fun z => z)) ∧ ∀ k, k < 138 → q.2.1 k = v.1 k) := by
  unfold f_X4_selvesOf
  obtain ⟨v0, l1, τ, n, hT, hn, htm, hfr⟩ := s4_lineUp (by decide) hr hw
  have hn9 := hT.1
  have hr0 : z_rc v0 0 P := z_rc_cg (fun j hj => hfr _ (by omega)) hr
  rw [l1, Option.bind_some, z_ca_tl hT]
  refine z_ok_lp (fun j q => q.2.2.1 = nI j ∧ (∃ U, q.2.1 = nI U ∧ z_Ul (z_pl τ j) (fun z => z) U) ∧ (∃ T, q.1 = nI T ∧ T * z_wl P P (zt_tl τ (n - j) j) (z_pl τ j) (fun z => z) = z_wl P P (zt_tl τ n 0) (z_pl τ 0) (fun z => z)) ∧ (∀ k, k ≠ 139 → q.2.2.2.1 k = v0.1 k) ∧ ∀ k, k < j → q.2.2.2.1 139 k = nI (τ k)) n (z_F_lt (by omega)) ⟨rfl, ⟨0, rfl, z_Ul_0⟩, ⟨1, rfl, by rw [Nat.one_mul, Nat.sub_zero]⟩, fun _ _ => rfl, fun z hz => absurd hz (by omega)⟩ ?_ ?_
  · rintro i ⟨t, us, xx, v1⟩ hi ⟨e1, ⟨U, e2, hU⟩, ⟨T, e3, hm⟩, e4, e5⟩ kb hk
    dsimp only at e1 e2 e3 e4 e5
    subst e1 e2 e3
    have hi9 : i < 9 := by omega
    have hr1 : z_rc v1 0 P := z_rc_cg (fun j hj => e4 _ (by omega)) hr0
    have htm' : zt_tm v1 τ n := zt_tm_cg htm (e4 138 (by decide)) (e4 140 (by decide))
    have e9 : n - i = (n - (i + 1)) + 1 := by omega
    have hL : z_Ls P (τ i :: zt_tl τ (n - (i + 1)) (i + 1)) (z_pl τ i) := by
      have := z_Tn_Ls hT i (by omega)
      rw [e9] at this
      exact this
    have hxs : τ i ∉ z_pl τ i := hL.2.1 _ (List.mem_cons.mpr (Or.inl rfl))
    obtain ⟨hx, tx⟩ := hT.2.1 i hi
    obtain ⟨⟨r, v'⟩, g1, g2, g3, g4⟩ := s4_placesFor hr1 hw (d := n - (i + 1)) hT htm' (by omega) hU e5
    dsimp only at g2 g3 g4
    unfold b_X4_selvesOf_12
    dsimp only
    rw [z_gI, htm'.1, if_neg (nI_ge hi (by omega)), if_neg (show ¬ (9 : Int32) ≤ nI i by rw [z_le9 hi9]; exact id), z_ok_gd, z_ok_lt, z_gI, z_c9 hi9, htm'.2 i hi, g1, z_ok_b2, z_ok_some]
    dsimp only
    rw [z_ok_lt, z_ok_gd, z_ok_lt, z_ok_lt, g2, z_mulI, z_sh hx, z_or, z_1]
    refine ⟨z_in9 hi9, z_in9 hi9, hk _ ⟨rfl, ⟨U ||| 2 ^ τ i, rfl, ?_⟩, ⟨T * z_nl P (zt_tl τ (n - (i + 1)) (i + 1)) (z_pl τ i) (τ i), rfl, ?_⟩, fun k hk => ?_, fun k hk => ?_⟩⟩
    · refine z_Ul_cg (z_Ul_put hU hxs hx) (fun z _ => ?_)
      by_cases c : z = τ i
      · rw [c, z_ud_eq]
      · rw [z_ud_ne _ c]
    · rw [e9, zt_tl, z_wl_np hw hL] at hm
      rw [Nat.mul_assoc]
      exact hm
    · dsimp only
      rw [z_sI_ne hk, g3 k hk]; exact e4 k hk
    · dsimp only
      rw [z_sI_1]
      by_cases c : i = k
      · subst c; rw [if_pos ⟨rfl, rfl⟩]
      · rw [if_neg (fun h => c h.2), g4 k (by omega)]
        exact e5 k (by omega)
  · rintro ⟨t, us, xx, v1⟩ ⟨e1, ⟨U, e2, hU⟩, ⟨T, e3, hm⟩, e4, e5⟩ kb
    dsimp only at e1 e2 e3 e4 e5
    subst e1 e2 e3
    have htm' : zt_tm v1 τ n := zt_tm_cg htm (e4 138 (by decide)) (e4 140 (by decide))
    unfold b_X4_selvesOf_12
    dsimp only
    rw [z_gI, htm'.1, if_pos (nI_le (Nat.le_refl n) (by omega)), z_ok_some]
    have e : T = z_wl P P (zt_tl τ n 0) (z_pl τ 0) (fun z => z) := by
      rw [← hm, Nat.sub_self]
      show T = T * 1
      rw [Nat.mul_one]
    refine ⟨by rw [e], fun k hk => ?_⟩
    dsimp only
    rw [e4 k (by omega)]
    exact hfr k hk
theorem s4_isLike {i1 i2 : Nat} (hi1 : i1 + 4 ≤ 138) (hi2 : i2 + 4 ≤ 138) (h1 : z_rc v i1 P) (h2 : z_rc v i2 R) (hw : z_wf P) (hw2 : z_wf R) : z_ok (f_X4_isLike i1 i2 v) (fun q => q.1 = z_bi (decide (z_pc (z_th P) = z_pc (z_th R) ∧ 0 < z_ca P R 9 0 (fun z => z))) ∧ ∀ k, k < 138 → q.2.1 k = v.1 k) := by
  unfold f_X4_isLike
  obtain ⟨v0, l1, τ, n, hT, hn, htm, hfr⟩ := s4_lineUp hi1 h1 hw
  have hn9 := hT.1
  have h1' : z_rc v0 i1 P := z_rc_cg (fun j hj => hfr _ (by omega)) h1
  have h2' : z_rc v0 i2 R := z_rc_cg (fun j hj => hfr _ (by omega)) h2
  have eb : z_bitc (nI (z_th R)) = nI (z_pc (z_th R)) := s_bitc hw2.th
  rw [l1, Option.bind_some, z_gI, z_gI, htm.1, h2'.2.1, eb, hn]
  by_cases hpc : z_pc (z_th P) = z_pc (z_th R)
  · obtain ⟨⟨r, v1⟩, g1, g2, g3, -⟩ := s4_canFinish hi1 hi2 hw hw2 hpc hT n 0 0 (fun z => z) v0 14 (by omega) (by omega) h1' h2' htm (fun z hz => by obtain ⟨k, hk, -⟩ := (z_pl_mem τ 0 z).mp hz; omega) z_Ul_0 (fun z hz => absurd hz (by omega))
    dsimp only at g2 g3
    have g1 : f_X4_canFinish 14 i1 i2 0 0 v0 = some (r, v1) := g1
    have hC : ∀ k, k < 138 → v1.1 k = v.1 k := fun k hk => by rw [g3 k (by omega)]; exact hfr k hk
    rw [if_pos (by rw [hpc]), g1, z_ok_b2, z_ok_some]
    dsimp only
    rw [g2, ← z_ca_tl hT, z_ok_bit, z_ok_some, z_ok_some]
    refine ⟨fun c => ⟨?_, hC⟩, fun c => ⟨?_, hC⟩⟩
    · rw [decide_eq_false_iff_not] at c
      have hn2 : ¬ (z_pc (z_th P) = z_pc (z_th R) ∧ 0 < z_ca P R 9 0 (fun z => z)) := fun h => c h.2
      rw [decide_eq_false hn2]; rfl
    · rw [decide_eq_true_eq] at c
      have hn2 : z_pc (z_th P) = z_pc (z_th R) ∧ 0 < z_ca P R 9 0 (fun z => z) := ⟨hpc, c⟩
      rw [decide_eq_true hn2]; rfl
  · have hn2 : ¬ (z_pc (z_th P) = z_pc (z_th R) ∧ 0 < z_ca P R 9 0 (fun z => z)) := fun h => hpc h.1
    rw [if_neg (by rw [z_pcI]; exact hpc), z_ok_some, decide_eq_false hn2]
    exact ⟨rfl, hfr⟩
end
