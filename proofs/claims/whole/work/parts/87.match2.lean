section
variable {u w v : z_M} {P R : z_P}
theorem z_allL {b : Int32 → (Int32 → Option Int32) → (Unit → Option Int32) → Option Int32} {kx : Unit → Option Int32} (p : Nat → Bool) {n : Nat} (hn : n ≤ 9) (hs : ∀ i, i < n → ∀ kb, b (nI i) kb kx = if p i then kb (nI (i + 1)) else some 0) (he : ∀ kb, b (nI n) kb kx = some 1) : z_lp b z_F 0 kx = some (z_bi (decide (∀ i, i < n → p i = true))) := by
  rw [← z_ok_eq]
  refine z_ok_lp (fun j q => q = nI j ∧ ∀ i, i < j → p i = true) n (z_F_lt (by omega)) ⟨rfl, fun i hi => absurd hi (by omega)⟩ ?_ ?_
  · rintro j q hj ⟨rfl, h1⟩ kb hk
    rw [hs j hj]
    cases hp : p j
    · simp only [Bool.false_eq_true, if_false]
      rw [z_ok_some, decide_eq_false (fun c => by rw [c j hj] at hp; cases hp)]
      rfl
    · simp only [if_true]
      refine hk _ ⟨rfl, fun i hi => ?_⟩
      by_cases e : i = j
      · rw [e]; exact hp
      · exact h1 i (by omega)
  · rintro q ⟨rfl, h1⟩ kb
    rw [he, z_ok_some, decide_eq_true h1]
    rfl
def z_Ur (P : z_P) (x : Nat) (f : Nat → Nat) (U : Nat) : Prop := U < 512 ∧ ∀ y, y < 9 → (U.testBit y = true ↔ ∃ z, z < x ∧ (z_th P).testBit z = true ∧ f z = y)
theorem z_Ur_0 {f : Nat → Nat} : z_Ur P 0 f 0 := by
  refine ⟨by decide, fun y _ => ⟨fun c => ?_, ?_⟩⟩
  · rw [Nat.zero_testBit] at c; cases c
  · rintro ⟨z, hz, -⟩; omega
theorem z_Ur_put {x y U : Nat} {f : Nat → Nat} (h : z_Ur P x f U) (tx : (z_th P).testBit x = true) (hy : y < 9) : z_Ur P (x + 1) (z_ud f x y) (U ||| 2 ^ y) := by
  refine ⟨z_or_lt h.1 (z_pw_lt hy), fun t ht => ?_⟩
  rw [z_put_bit, Bool.or_eq_true, decide_eq_true_eq, h.2 t ht]
  constructor
  · rintro (⟨z, h1, h2, h3⟩ | rfl)
    · exact ⟨z, by omega, h2, by rw [z_ud_ne _ (by omega)]; exact h3⟩
    · exact ⟨x, by omega, tx, z_ud_eq _ _ _⟩
  · rintro ⟨z, h1, h2, h3⟩
    by_cases e : z = x
    · subst e; rw [z_ud_eq] at h3; exact Or.inr h3.symm
    · rw [z_ud_ne _ e] at h3; exact Or.inl ⟨z, by omega, h2, h3⟩
theorem z_Ur_skip {x U : Nat} {f : Nat → Nat} (h : z_Ur P x f U) (tx : (z_th P).testBit x = false) : z_Ur P (x + 1) f U := by
  refine ⟨h.1, fun t ht => ?_⟩
  rw [h.2 t ht]
  constructor
  · rintro ⟨z, h1, h2, h3⟩
    exact ⟨z, by omega, h2, h3⟩
  · rintro ⟨z, h1, h2, h3⟩
    have : z ≠ x := by rintro rfl; rw [tx] at h2; cases h2
    exact ⟨z, by omega, h2, h3⟩
theorem z_Ur_fit {x y U : Nat} {f : Nat → Nat} (h : z_Ur P x f U) (hy : y < 9) (hf : z_fit P R x f y = true) : U.testBit y = false := by
  cases hb : U.testBit y
  · rfl
  · obtain ⟨z, h1, h2, h3⟩ := (h.2 y hy).mp hb
    exact absurd h3 ((z_fit_iff.mp hf).2 z h1 h2).1
theorem z_Ur_rest {x y U : Nat} {f : Nat → Nat} (h : z_Ur P x f U) (hb : U.testBit y = false) : z_rest y (U ||| 2 ^ y) = U := z_rest_put hb
theorem s6_isUnderN {i a b : Nat} (hr : z_rc v i P) (hw : z_wf P) (ha : a < 9) (hb : b < 9) (ta : (z_th P).testBit a = true) : f_X6_isUnder i (nI a) (nI b) v = some (z_bi ((z_ab P a).testBit b)) := by
  rw [s6_isUnder hr hw, z_is_nI ha, z_c9 ha, z_is_nI hb, ta]
  rfl
/-! the class's -/
def z_dq (P R : z_P) (x y : Nat) : Bool := (z_pc (z_ab P x) == z_pc (z_ab R y)) && (z_pc (z_un P x) == z_pc (z_un R y))
theorem z_pcI {a b : Nat} : (nI (z_pc a) = nI (z_pc b)) = (z_pc a = z_pc b) := z_eqI (by have := z_pc_le a; omega) (by have := z_pc_le b; omega)
theorem s4_fits {i1 i2 : Nat} (h1 : z_rc v i1 P) (h2 : z_rc v i2 R) (hw : z_wf P) (hw2 : z_wf R) {x y U : Nat} {f : Nat → Nat} (hx : x < 9) (hy : y < 9) (tx : (z_th P).testBit x = true) (hp : z_Pg P R x f) (hU : z_Ur P x f U) (hv : ∀ z, z < x → (z_th P).testBit z = true → v.1 139 z = nI (f z)) : f_X4_fits i1 (nI x) i2 (nI y) (nI U) v = some (z_bi (z_fit P R x f y && z_dq P R x y)) := by
  unfold f_X4_fits
  rw [s6_has h2 hw2, Option.bind_some, z_is_nI hy]
  cases ty : (z_th R).testBit y
  · rw [if_pos z_bf0]
    simp [z_fit, ty, z_bi]
  rw [if_neg z_bt0, s_isIn hU.1, Option.bind_some, z_is_nI hy]
  cases hUy : U.testBit y
  · rw [if_pos z_bf0]
    have hU0 : ∀ z, z < x → (z_th P).testBit z = true → f z ≠ y := fun z hz tz e => by
      rw [(hU.2 y hy).mpr ⟨z, hz, tz, e⟩] at hUy
      cases hUy
    have hb1 : z_bitc (nI (z_ab P x)) = nI (z_pc (z_ab P x)) := s_bitc (hw.ab x hx)
    have hb2 : z_bitc (nI (z_ab R y)) = nI (z_pc (z_ab R y)) := s_bitc (hw2.ab y hy)
    have hb3 : z_bitc (nI (z_un P x)) = nI (z_pc (z_un P x)) := s_bitc (z_un_lt P x)
    have hb4 : z_bitc (nI (z_un R y)) = nI (z_pc (z_un R y)) := s_bitc (z_un_lt R y)
    have hloop : z_lp (b_X4_fits_68 i1 (nI x) i2 (nI y) v) z_F 0 (fun t22 => some 1) = some (z_bi (z_fit P R x f y)) := by
      rw [z_allL (fun z => !(z_th P).testBit z || (((z_ab P z).testBit x == (z_ab R (f z)).testBit y) && ((z_ab P x).testBit z == (z_ab R y).testBit (f z)))) (n := x) (by omega) (fun z hz kb => ?_) (fun kb => ?_)]
      · congr 2
        rw [Bool.eq_iff_iff, decide_eq_true_eq, z_fit_iff]
        constructor
        · intro hh
          refine ⟨ty, fun z hz tz => ?_⟩
          have := hh z hz
          simp only [tz, Bool.not_true, Bool.false_or, Bool.and_eq_true, beq_iff_eq] at this
          exact ⟨hU0 z hz tz, this.1, this.2⟩
        · rintro ⟨-, hh⟩ z hz
          cases tz : (z_th P).testBit z
          · rfl
          · obtain ⟨-, c2, c3⟩ := hh z hz tz
            simp only [Bool.not_true, Bool.false_or, Bool.and_eq_true, beq_iff_eq]
            exact ⟨c2, c3⟩
      · have hz9 : z < 9 := by omega
        unfold b_X4_fits_68
        rw [if_neg (nI_ge hz (by omega)), s6_has h1 hw, Option.bind_some, z_is_nI hz9, z_1]
        cases tz : (z_th P).testBit z
        · rw [if_pos z_bf0]; rfl
        · obtain ⟨f1, f2, -⟩ := hp z hz tz
          rw [if_neg z_bt0, s6_isUnderN h1 hw hz9 hx tz, Option.bind_some, z_gI, z_c9 hz9, hv z hz tz, s6_isUnderN h2 hw2 f1 hy f2, z_in9 hz9, s6_isUnderN h1 hw hx hz9 tx, s6_isUnderN h2 hw2 hy f1 ty]
          simp only [z_gd, if_true, Option.bind_some]
          cases (z_ab P z).testBit x <;> cases (z_ab R (f z)).testBit y <;> cases (z_ab P x).testBit z <;> cases (z_ab R y).testBit (f z) <;> simp [z_bi]
      · unfold b_X4_fits_68
        rw [if_pos (nI_le (Nat.le_refl x) (by omega))]
    rw [z_in9 hx, z_in9 hy, z_gI, z_gI, z_gI, z_gI, z_c9 hx, z_c9 hy, h1.2.2.2.1 x hx, h2.2.2.2.1 y hy, h1.2.2.2.2.1 x hx, h2.2.2.2.2.1 y hy, hb1, hb2, hb3, hb4, hloop]
    simp only [z_gd, if_true, z_pcI]
    unfold z_dq
    by_cases c1 : z_pc (z_ab P x) = z_pc (z_ab R y)
    · by_cases c2 : z_pc (z_un P x) = z_pc (z_un R y)
      · simp [c1, c2]
      · simp [c1, c2, z_bi]
    · simp [c1, z_bi]
  · rw [if_neg z_bt0]
    have : z_fit P R x f y = false := by
      cases hf : z_fit P R x f y
      · rfl
      · rw [z_Ur_fit hU hy hf] at hUy; cases hUy
    rw [this]
    rfl
theorem s4_canFinish {i1 i2 : Nat} (hi1 : i1 + 4 ≤ 139) (hi2 : i2 + 4 ≤ 139) (hw : z_wf P) (hw2 : z_wf R) (hpc : z_pc (z_th P) = z_pc (z_th R)) : ∀ d x U (f : Nat → Nat) v F, x + d = 9 → d < F → z_rc v i1 P → z_rc v i2 R → z_Pg P R x f → z_Ur P x f U → (∀ z, z < x → (z_th P).testBit z = true → v.1 139 z = nI (f z)) → z_ok (f_X4_canFinish F i1 i2 (nI x) (nI U) v) (fun q => q.1 = z_bi (decide (0 < z_ca P R d x f)) ∧ (∀ k, k ≠ 139 → q.2.1 k = v.1 k) ∧ ∀ z, z < x → q.2.1 139 z = v.1 139 z)
  | 0, x, U, f, v, F, hd, hF, h1, h2, hp, hU, hv => by
    match F, hF with
    | F + 1, _ =>
      have : x = 9 := by omega
      subst this
      show z_ok (fb_X4_canFinish _ _ _ _ _ _) _
      unfold fb_X4_canFinish
      rw [if_neg (by decide), z_ok_some]
      exact ⟨rfl, fun _ _ => rfl, fun _ _ => rfl⟩
  | d + 1, x, U, f, v, F, hd, hF, h1, h2, hp, hU, hv => by
    match F, hF with
    | F + 1, hF =>
      have hx : x < 9 := by omega
      have hlt : nI x < 9 := nI_lt (b := 9) hx (by decide)
      show z_ok (fb_X4_canFinish (f_X4_canFinish F) i1 i2 (nI x) (nI U) v) _
      unfold fb_X4_canFinish
      rw [if_pos hlt, s6_has h1 hw, Option.bind_some, z_is_nI hx, z_1]
      cases tx : (z_th P).testBit x
      · rw [if_pos z_bf0]
        have e : z_ca P R (d + 1) x f = z_ca P R d (x + 1) f := by rw [z_ca, tx]; rfl
        obtain ⟨⟨r, v'⟩, g1, g2, g3, g4⟩ := s4_canFinish hi1 hi2 hw hw2 hpc d (x + 1) U f v F (by omega) (by omega) h1 h2 (z_Pg_skip hp tx) (z_Ur_skip hU tx) (fun z hz tz => hv z (Nat.lt_of_le_of_ne (Nat.le_of_lt_succ hz) (by rintro rfl; rw [tx] at tz; cases tz)) tz)
        dsimp only at g2 g3 g4
        rw [g1, z_ok_b2, z_ok_some, z_ok_gd, z_ok_some, e]
        refine ⟨?_, g2, g3, fun z hz => g4 z (by omega)⟩
        rw [g2]
        exact decide_eq_true (z_bi_01 _)
      · rw [if_neg z_bt0]
        have hcz : ∀ y, y < 9 → z_fit P R x f y = true → z_dq P R x y = false → z_ca P R d (x + 1) (z_ud f x y) = 0 := by
          intro y hy hf hq
          refine Nat.eq_zero_of_not_pos (fun hpos => ?_)
          obtain ⟨g, e1, e2⟩ := (z_ca_pos hw hw2 d (x + 1) _ (by omega) (z_Pg_fit hw hw2 hx hy hp hf)).mp hpos
          have eg : g x = y := by rw [e1 x (by omega) tx, z_ud_eq]
          obtain ⟨d1, d2⟩ := z_deg hw hw2 hpc e2 hx tx
          unfold z_dq at hq
          rw [eg] at d1 d2
          simp [d1, d2] at hq
        refine z_ok_l9 (fun j q => q.1 = nI j ∧ (∀ k, k ≠ 139 → q.2.1 k = v.1 k) ∧ (∀ z, z < x → q.2.1 139 z = v.1 139 z) ∧ ∀ y, y < j → z_fit P R x f y = true → z_ca P R d (x + 1) (z_ud f x y) = 0) ⟨rfl, fun _ _ => rfl, fun _ _ => rfl, fun y hy => absurd hy (by omega)⟩ ?_ ?_
        · rintro y ⟨yy, v1⟩ hy ⟨e1, e2, e3, e4⟩ kb hk
          dsimp only at e1 e2 e3 e4
          subst e1
          have h1' : z_rc v1 i1 P := z_rc_cg (fun j hj => e2 _ (by omega)) h1
          have h2' : z_rc v1 i2 R := z_rc_cg (fun j hj => e2 _ (by omega)) h2
          unfold b_X4_canFinish_31
          dsimp only
          rw [if_neg (show ¬ (9 : Int32) ≤ nI y by rw [z_le9 hy]; exact id), s4_fits h1' h2' hw hw2 hx hy tx hp hU (fun z hz tz => by rw [e3 z hz]; exact hv z hz tz), Option.bind_some, z_ok_bit, z_1]
          refine ⟨fun c => hk _ ⟨rfl, e2, e3, fun y' hy' hf => ?_⟩, fun c => ?_⟩
          · by_cases e : y' = y
            · subst e
              rw [hf, Bool.true_and] at c
              exact hcz y' hy hf c
            · exact e4 y' (by omega) hf
          · rw [Bool.and_eq_true] at c
            rw [z_ok_gd, z_ok_lt, z_c9 hx, z_sh hy, z_or, z_1 x]
            refine ⟨z_in9 hx, ?_⟩
            obtain ⟨⟨r, v'⟩, g1, g2, g3, g4⟩ := s4_canFinish hi1 hi2 hw hw2 hpc d (x + 1) (U ||| 2 ^ y) (z_ud f x y) (z_sI v1 139 x (nI y)) F (by omega) (by omega) (z_rc_cg (fun j hj => z_sI_ne (by omega)) h1') (z_rc_cg (fun j hj => z_sI_ne (by omega)) h2') (z_Pg_fit hw hw2 hx hy hp c.1) (z_Ur_put hU tx hy) (fun z hz tz => by
              rw [z_sI_1]
              by_cases e : x = z
              · subst e; rw [if_pos ⟨rfl, rfl⟩, z_ud_eq]
              · rw [if_neg (fun h => e h.2), z_ud_ne _ (Ne.symm e), e3 z (by omega)]
                exact hv z (by omega) tz)
            dsimp only at g2 g3 g4
            have g3' : ∀ k, k ≠ 139 → v'.1 k = v.1 k := fun k hk => by rw [g3 k hk, z_sI_ne hk]; exact e2 k hk
            have g4' : ∀ z, z < x → v'.1 139 z = v.1 139 z := fun z hz => by rw [g4 z (by omega), z_sI_1, if_neg (by omega)]; exact e3 z hz
            rw [g1, z_ok_b2, z_ok_some]
            dsimp only
            rw [g2, z_ok_bit, z_ok_some]
            refine ⟨fun c2 => hk _ ⟨rfl, g3', g4', fun y' hy' hf => ?_⟩, fun c2 => ⟨?_, g3', g4'⟩⟩
            · by_cases e : y' = y
              · subst e
                rw [decide_eq_false_iff_not] at c2
                omega
              · exact e4 y' (by omega) hf
            · rw [decide_eq_true_eq] at c2
              have h9 := fb_sm_part (fun y => if z_fit P R x f y then z_ca P R d (x + 1) (z_ud f x y) else 0) hy
              try dsimp only at h9
              rw [if_pos c.1] at h9
              have : 0 < z_ca P R (d + 1) x f := by
                rw [z_ca, if_pos tx]
                omega
              rw [decide_eq_true this]
              rfl
        · rintro ⟨yy, v1⟩ ⟨e1, e2, e3, e4⟩ kb
          dsimp only at e1 e2 e3 e4
          subst e1
          unfold b_X4_canFinish_31
          dsimp only
          rw [if_pos (show (9 : Int32) ≤ nI 9 by decide), z_ok_some]
          refine ⟨?_, e2, e3⟩
          have : z_ca P R (d + 1) x f = 0 := by
            rw [z_ca, if_pos tx]
            have h9 : fb_sm (fun y => if z_fit P R x f y then z_ca P R d (x + 1) (z_ud f x y) else 0) 9 ≤ 9 * 0 := fb_sm_bound (fun y hy => by
              split
              · rename_i hf; rw [e4 y hy hf]; exact Nat.le_refl _
              · exact Nat.le_refl _)
            omega
          rw [this]
          rfl
theorem s4_placesFor (hr : z_rc v 0 P) (hw : z_wf P) {d x U : Nat} (hd : x + (d + 1) = 9) (tx : (z_th P).testBit x = true) (hU : z_Ur P x (fun z => z) U) (hv : ∀ z, z < x → (z_th P).testBit z = true → v.1 139 z = nI z) : z_ok (f_X4_placesFor 0 (nI x) (nI U) v) (fun q => q.1 = nI (z_np P d x) ∧ (∀ k, k ≠ 139 → q.2.1 k = v.1 k) ∧ ∀ z, z < x → q.2.1 139 z = v.1 139 z) := by
  have hx : x < 9 := by omega
  have hid := z_id_Pg (P := P) x (by omega)
  unfold f_X4_placesFor
  refine z_ok_l9 (fun j q => q.2.1 = nI j ∧ q.1 = nI (fb_ct (fun y => z_fit P P x (fun z => z) y && decide (0 < z_ca P P d (x + 1) (z_ud (fun z => z) x y))) j) ∧ (∀ k, k ≠ 139 → q.2.2.1 k = v.1 k) ∧ ∀ z, z < x → q.2.2.1 139 z = v.1 139 z) ⟨rfl, rfl, fun _ _ => rfl, fun _ _ => rfl⟩ ?_ ?_
  · rintro y ⟨t, yy, v1⟩ hy ⟨e1, e2, e3, e4⟩ kb hk
    dsimp only at e1 e2 e3 e4
    subst e1 e2
    have hr1 : z_rc v1 0 P := z_rc_cg (fun j hj => e3 _ (by omega)) hr
    have hv1 : ∀ z, z < x → (z_th P).testBit z = true → v1.1 139 z = nI z := fun z hz tz => by rw [e4 z hz]; exact hv z hz tz
    unfold b_X4_placesFor_6
    dsimp only
    rw [if_neg (show ¬ (9 : Int32) ≤ nI y by rw [z_le9 hy]; exact id), s4_fits hr1 hr1 hw hw hx hy tx hid hU hv1, Option.bind_some, z_ok_bit, z_1]
    refine ⟨fun c => hk _ ⟨rfl, ?_, e3, e4⟩, fun c => ?_⟩
    · dsimp only
      rw [fb_ct_succ]
      cases hf : z_fit P P x (fun z => z) y
      · simp
      · rw [hf, Bool.true_and] at c
        have : ¬ 0 < z_ca P P d (x + 1) (z_ud (fun z => z) x y) := by
          intro hpos
          obtain ⟨g, g1, g2⟩ := (z_ca_pos hw hw d (x + 1) _ (by omega) (z_Pg_fit hw hw hx hy hid hf)).mp hpos
          have eg : g x = y := by rw [g1 x (by omega) tx, z_ud_eq]
          obtain ⟨d1, d2⟩ := z_deg hw hw rfl g2 hx tx
          unfold z_dq at c
          rw [eg] at d1 d2
          simp [d1, d2] at c
        simp [this]
    · rw [Bool.and_eq_true] at c
      rw [z_ok_gd, z_ok_lt, z_c9 hx, z_sh hy, z_or, z_1 x]
      refine ⟨z_in9 hx, ?_⟩
      obtain ⟨⟨r, v'⟩, g1, g2, g3, g4⟩ := s4_canFinish (P := P) (R := P) (i1 := 0) (i2 := 0) (by decide) (by decide) hw hw rfl d (x + 1) (U ||| 2 ^ y) (z_ud (fun z => z) x y) (z_sI v1 139 x (nI y)) 14 (by omega) (by omega) (z_rc_cg (fun j hj => z_sI_ne (by omega)) hr1) (z_rc_cg (fun j hj => z_sI_ne (by omega)) hr1) (z_Pg_fit hw hw hx hy hid c.1) (z_Ur_put hU tx hy) (fun z hz tz => by
        rw [z_sI_1]
        by_cases e : x = z
        · subst e; rw [if_pos ⟨rfl, rfl⟩, z_ud_eq]
        · rw [if_neg (fun h => e h.2), z_ud_ne _ (Ne.symm e)]
          exact hv1 z (by omega) tz)
      dsimp only at g2 g3 g4
      have g3' : ∀ k, k ≠ 139 → v'.1 k = v.1 k := fun k hk => by rw [g3 k hk, z_sI_ne hk]; exact e3 k hk
      have g4' : ∀ z, z < x → v'.1 139 z = v.1 139 z := fun z hz => by rw [g4 z (by omega), z_sI_1, if_neg (by omega)]; exact e4 z hz
      rw [g1, z_ok_b2, z_ok_some]
      dsimp only
      rw [g2, z_ok_bit]
      refine ⟨fun c2 => hk _ ⟨rfl, ?_, g3', g4'⟩, fun c2 => hk _ ⟨rfl, ?_, g3', g4'⟩⟩
      · dsimp only
        rw [fb_ct_succ, c2, Bool.and_false]
        rfl
      · dsimp only
        rw [fb_ct_succ, c2, c.1]
        exact z_1 _
  · rintro ⟨t, yy, v1⟩ ⟨e1, e2, e3, e4⟩ kb
    dsimp only at e1 e2 e3 e4
    subst e1 e2
    unfold b_X4_placesFor_6
    dsimp only
    rw [if_pos (show (9 : Int32) ≤ nI 9 by decide), z_ok_some]
    exact ⟨rfl, e3, e4⟩
theorem s4_selvesOf (hr : z_rc v 0 P) (hw : z_wf P) : z_ok (f_X4_selvesOf 0 v) (fun q => q.1 = nI (z_ca P P 9 0 (fun z => z)) ∧ ∀ k, k ≠ 139 → q.2.1 k = v.1 k) := by
  unfold f_X4_selvesOf
  refine z_ok_l9 (fun x q => q.2.2.1 = nI x ∧ (∃ U, q.2.1 = nI U ∧ z_Ur P x (fun z => z) U) ∧ (∃ T, q.1 = nI T ∧ T * z_ca P P (9 - x) x (fun z => z) = z_ca P P 9 0 (fun z => z)) ∧ (∀ k, k ≠ 139 → q.2.2.2.1 k = v.1 k) ∧ ∀ z, z < x → (z_th P).testBit z = true → q.2.2.2.1 139 z = nI z) ⟨rfl, ⟨0, rfl, z_Ur_0⟩, ⟨1, rfl, by rw [Nat.one_mul]⟩, fun _ _ => rfl, fun z hz => absurd hz (by omega)⟩ ?_ ?_
  · rintro x ⟨t, us, xx, v1⟩ hx ⟨e1, ⟨U, e2, hU⟩, ⟨T, e3, hT⟩, e4, e5⟩ kb hk
    dsimp only at e1 e2 e3 e4 e5
    subst e1 e2 e3
    have hr1 : z_rc v1 0 P := z_rc_cg (fun j hj => e4 _ (by omega)) hr
    have e9 : 9 - x = (9 - (x + 1)) + 1 := by omega
    unfold b_X4_selvesOf_7
    dsimp only
    rw [if_neg (show ¬ (9 : Int32) ≤ nI x by rw [z_le9 hx]; exact id), s6_has hr1 hw, Option.bind_some, z_is_nI hx, z_ok_bit, z_1]
    refine ⟨fun tx => hk _ ⟨rfl, ⟨U, rfl, z_Ur_skip hU tx⟩, ⟨T, rfl, ?_⟩, e4, fun z hz tz => ?_⟩, fun tx => ?_⟩
    · rw [e9, z_ca, tx] at hT
      exact hT
    · have : z ≠ x := by rintro rfl; rw [tx] at tz; cases tz
      exact e5 z (by omega) tz
    · obtain ⟨⟨r, v'⟩, g1, g2, g3, g4⟩ := s4_placesFor hr1 hw (d := 9 - (x + 1)) (by omega) tx hU e5
      dsimp only at g2 g3 g4
      rw [g1, z_ok_b2, z_ok_some]
      dsimp only
      rw [z_ok_lt, z_ok_gd, z_ok_lt, z_ok_lt, g2, z_mulI, z_c9 hx, z_sh hx, z_or]
      refine ⟨z_in9 hx, hk _ ⟨rfl, ⟨U ||| 2 ^ x, rfl, ?_⟩, ⟨T * z_np P (9 - (x + 1)) x, rfl, ?_⟩, fun k hk => ?_, fun z hz tz => ?_⟩⟩
      · have := z_Ur_put hU tx hx
        refine ⟨this.1, fun y hy => ?_⟩
        rw [this.2 y hy]
        constructor
        · rintro ⟨z, h1, h2, h3⟩
          refine ⟨z, h1, h2, ?_⟩
          by_cases c : z = x
          · subst c; rw [z_ud_eq] at h3; exact h3
          · rw [z_ud_ne _ c] at h3; exact h3
        · rintro ⟨z, h1, h2, h3⟩
          refine ⟨z, h1, h2, ?_⟩
          by_cases c : z = x
          · subst c; rw [z_ud_eq]; exact h3
          · rw [z_ud_ne _ c]; exact h3
      · rw [e9, z_ca_np hw (by omega) tx] at hT
        rw [Nat.mul_assoc]
        exact hT
      · dsimp only
        rw [z_sI_ne hk, g3 k hk]; exact e4 k hk
      · dsimp only
        rw [z_sI_1]
        by_cases c : x = z
        · subst c; rw [if_pos ⟨rfl, rfl⟩]
        · rw [if_neg (fun h => c h.2), g4 z (by omega)]
          exact e5 z (by omega) tz
  · rintro ⟨t, us, xx, v1⟩ ⟨e1, ⟨U, e2, hU⟩, ⟨T, e3, hT⟩, e4, e5⟩ kb
    dsimp only at e1 e2 e3 e4 e5
    subst e1 e2 e3
    unfold b_X4_selvesOf_7
    dsimp only
    rw [if_pos (show (9 : Int32) ≤ nI 9 by decide), z_ok_some]
    have e : T = z_ca P P 9 0 (fun z => z) := by
      rw [← hT]
      show T = T * 1
      rw [Nat.mul_one]
    exact ⟨by rw [e], e4⟩
end
