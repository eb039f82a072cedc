section
variable {u w v : z_M} {P : z_P}
def z_alb (p : Nat → Bool) (n : Nat) : Bool := decide (∀ i, i < n → p i = true)
theorem z_alb_iff {p : Nat → Bool} {n : Nat} : z_alb p n = true ↔ ∀ i, i < n → p i = true := decide_eq_true_iff
theorem z_exi_d {β : Type} {p : Nat → Bool} {R0 R : β} (n : Nat) : z_exi p (fun _ => R0) R n 0 = if z_alb p n = true then R else R0 := by
  rcases z_exi_all (p := p) (R0 := R0) (R := R) n 0 with ⟨h, e⟩ | ⟨⟨i, i1, i2, i3⟩, e⟩
  · rw [e, if_pos (z_alb_iff.mpr (fun i hi => h i (Nat.zero_le _) (by omega)))]
  · rw [e, if_neg (fun q => by
      have := z_alb_iff.mp q i (by omega)
      rw [this] at i3
      cases i3)]
theorem z_dwn {b : Bool} : (if b = true then some (1 : Int32) else some 0) = some (z_bi b) := by cases b <;> rfl
def z_lp2 (P : z_P) (x y : Nat) : Bool := !((z_th P).testBit x && (z_th P).testBit y) || (decide (¬ z_jn P x y < 0) && decide (0 ≤ z_mt P x y))
def z_latB (P : z_P) : Bool := z_alb (fun x => z_alb (fun y => z_lp2 P x y) 9) 9
theorem s10_hasAllJoins (hr : z_rr (w.1 1) P) (hw : z_wf P) : f_X10_hasAllJoins w = some (z_bi (z_latB P)) := by
  unfold f_X10_hasAllJoins z_latB
  rw [← z_dwn, ← z_exi_d]
  refine z_lpx (k0 := 0) (fun t => nI t) _ _ _ 9 (by decide) (fun x _ hx kb => ?_) (fun kb => ?_)
  · have hx : x < 9 := by omega
    unfold b_X10_hasAllJoins_2
    rw [if_neg (by rw [z_le9 hx]; exact id), z_1, ← z_exi_d]
    refine z_lpx (k0 := 0) (fun t => nI t) _ _ _ 9 (by decide) (fun y _ hy kb' => ?_) (fun kb => ?_)
    · have hy : y < 9 := by omega
      unfold b_X10_hasAllJoins_10 z_lp2
      rw [if_neg (by rw [z_le9 hy]; exact id), s10_areThere hr hw, Option.bind_some, z_is_nI hx, z_is_nI hy, z_1]
      cases tx : (z_th P).testBit x && (z_th P).testBit y
      · rfl
      · have tx' := tx
        rw [Bool.and_eq_true] at tx'
        rw [if_neg (show ¬ z_bi true = 0 by decide), s10_joinOf hr hw hx hy tx'.1 tx'.2, Option.bind_some, s10_meetOf hr hw hx hy tx'.1 tx'.2, Option.bind_some]
        by_cases c1 : z_jn P x y < 0
        · rw [if_pos c1, decide_eq_false (fun q => q c1)]; rfl
        · rw [if_neg c1, decide_eq_true c1]
          by_cases c2 : 0 ≤ z_mt P x y
          · rw [if_pos c2, decide_eq_true c2]; rfl
          · rw [if_neg c2, decide_eq_false c2]; rfl
    · unfold b_X10_hasAllJoins_10
      rw [Nat.zero_add, if_pos (show (9 : Int32) ≤ nI 9 by decide)]
  · unfold b_X10_hasAllJoins_2
    rw [Nat.zero_add, if_pos (show (9 : Int32) ≤ nI 9 by decide)]
theorem z_x9 : ∀ x, x < 9 → ∀ y, y < 9 → nI x * 9 + nI y = nI (x * 9 + y) := by decide +kernel
def z_tb (v : z_M) (P : z_P) (x y : Nat) : Prop := z_lp2 P x y = true ∧ ((z_th P).testBit x = true → (z_th P).testBit y = true → v.1 132 (x * 9 + y) = z_jn P x y ∧ v.1 133 (x * 9 + y) = z_mt P x y)
theorem s0_fill (hr : z_rc u 0 P) (hw : z_wf P) : z_ok (f_X0_fill 0 u) (fun q => q.1 = z_bi (z_latB P) ∧ (∀ k, k ≠ 132 → k ≠ 133 → q.2.1 k = u.1 k) ∧ (z_latB P = true → ∀ x y, x < 9 → y < 9 → z_tb q.2 P x y)) := by
  have hno : ∀ x y, x < 9 → y < 9 → z_lp2 P x y = false → z_latB P = false := fun x y hx hy h => by
    cases c : z_latB P
    · rfl
    · have := z_alb_iff.mp (z_alb_iff.mp c x hx) y hy
      rw [h] at this
      cases this
  unfold f_X0_fill
  refine z_ok_l9 (fun x q => q.1 = nI x ∧ (∀ k, k ≠ 132 → k ≠ 133 → q.2.1 k = u.1 k) ∧ ∀ x' y', x' < x → y' < 9 → z_tb q.2 P x' y') ⟨rfl, fun _ _ _ => rfl, fun x' y' h => absurd h (by omega)⟩ ?_ ?_
  · rintro x ⟨xx, v⟩ hx ⟨e1, e2, e3⟩ kb hkb
    dsimp only at e1 e2 e3
    subst e1
    unfold b_X0_fill_2
    dsimp only
    rw [if_neg (by rw [z_le9 hx]; exact id)]
    refine z_ok_l9 (fun y q => q.1 = nI y ∧ (∀ k, k ≠ 132 → k ≠ 133 → q.2.1 k = u.1 k) ∧ (∀ x' y', x' < x → y' < 9 → z_tb q.2 P x' y') ∧ ∀ y', y' < y → z_tb q.2 P x y') ⟨rfl, e2, e3, fun y' h => absurd h (by omega)⟩ ?_ ?_
    · rintro y ⟨yy, v⟩ hy ⟨d1, d2, d3, d4⟩ kb' hkb'
      dsimp only at d1 d2 d3 d4
      subst d1
      have hrv : z_rc v 0 P := z_rc_cg (fun j hj => d2 _ (by omega) (by omega)) hr
      unfold b_X0_fill_10
      dsimp only
      rw [if_neg (by rw [z_le9 hy]; exact id), s6_has hrv hw, Option.bind_some, z_is_nI hx, s6_has hrv hw, Option.bind_some, z_is_nI hy, z_1 y]
      have hskip : ((z_th P).testBit x && (z_th P).testBit y) = false → z_ok (kb' (nI (y + 1), v)) _ := fun hf => hkb' _ ⟨rfl, d2, d3, fun y' hy' => by
        by_cases c : y' = y
        · rw [c]
          refine ⟨by unfold z_lp2; rw [hf]; rfl, fun a b => ?_⟩
          rw [a, b] at hf
          cases hf
        · exact d4 y' (by omega)⟩
      by_cases tx : ¬ (z_th P).testBit x = true
      · rw [show (z_th P).testBit x = false by simpa using tx, if_pos (show z_bi false = 0 from rfl)]
        exact hskip (by rw [show (z_th P).testBit x = false by simpa using tx]; rfl)
      have tx := Decidable.not_not.mp tx
      rw [tx, if_neg (show ¬ z_bi true = 0 by decide)]
      by_cases ty : ¬ (z_th P).testBit y = true
      · rw [show (z_th P).testBit y = false by simpa using ty, if_pos (show z_bi false = 0 from rfl)]
        exact hskip (by rw [show (z_th P).testBit y = false by simpa using ty, Bool.and_false])
      have ty := Decidable.not_not.mp ty
      rw [ty, if_neg (show ¬ z_bi true = 0 by decide), z_ok_lt, z_x9 x hx y hy, s6_atLeast hrv hw hx, Option.bind_some, s6_atLeast hrv hw hy, Option.bind_some, if_pos tx, if_pos ty, z_and, s6_leastOf hrv hw (z_and_lt _ (z_up_lt hw hx)) (fun k hk h => by rw [Nat.testBit_and, Bool.and_eq_true] at h; exact z_up_in hw hx hk tx h.1), Option.bind_some, z_ok_gd, z_ok_lt, z_cl (show x * 9 + y < 2 ^ 31 by omega)]
      refine ⟨z_inb_nI (by omega) (by decide), ?_⟩
      obtain ⟨v1, hv1⟩ : ∃ v1, v1 = z_sI v 132 (x * 9 + y) (z_lst P (z_up P x &&& z_up P y)) := ⟨_, rfl⟩
      rw [← hv1]
      have hr1 : z_rc v1 0 P := z_rc_cg (fun j hj => by rw [hv1, z_sI_ne (by omega)]) hrv
      rw [s6_atMost hr1 hw hx, Option.bind_some, s6_atMost hr1 hw hy, Option.bind_some, if_pos tx, if_pos ty, z_and, s6_greatestOf hr1 hw (z_and_lt _ (z_dn_lt hx)) (fun k hk h => by rw [Nat.testBit_and, Bool.and_eq_true] at h; exact z_dn_in hw hx hk tx h.1), Option.bind_some, z_ok_gd, z_ok_lt, z_ok_gd]
      obtain ⟨v2, hv2⟩ : ∃ v2, v2 = z_sI v1 133 (x * 9 + y) (z_grt P (z_dn P x &&& z_dn P y)) := ⟨_, rfl⟩
      rw [← hv2]
      have a1 : ∀ k, k ≠ 132 → k ≠ 133 → v2.1 k = u.1 k := fun k h1 h2 => by rw [hv2, z_sI_ne h2, hv1, z_sI_ne h1]; exact d2 k h1 h2
      have a2 : ∀ t, v2.1 132 t = if t = x * 9 + y then z_jn P x y else v.1 132 t := fun t => by
        rw [hv2, z_sI_ne (by decide), hv1, z_sI_1]
        by_cases c : t = x * 9 + y
        · rw [if_pos ⟨rfl, c.symm⟩, if_pos c]; rfl
        · rw [if_neg (fun q => c q.2.symm), if_neg c]
      have a3 : ∀ t, v2.1 133 t = if t = x * 9 + y then z_mt P x y else v.1 133 t := fun t => by
        rw [hv2, z_sI_1]
        by_cases c : t = x * 9 + y
        · rw [if_pos ⟨rfl, c.symm⟩, if_pos c]; rfl
        · rw [if_neg (fun q => c q.2.symm), if_neg c, hv1, z_sI_ne (by decide)]
      rw [z_gI, z_gI, a2, a3, if_pos rfl, if_pos rfl]
      refine ⟨z_inb_nI (by omega) (by decide), z_inb_nI (by omega) (by decide), ?_⟩
      have hpp : z_lp2 P x y = (decide (¬ z_jn P x y < 0) && decide (0 ≤ z_mt P x y)) := by unfold z_lp2; rw [tx, ty]; rfl
      by_cases c1 : z_jn P x y < 0
      · rw [if_pos c1, z_ok_some]
        have := hno x y hx hy (by rw [hpp, decide_eq_false (fun q => q c1)]; rfl)
        exact ⟨by rw [this]; rfl, a1, fun q => by rw [this] at q; cases q⟩
      · rw [if_neg c1, z_ok_gd]
        refine ⟨z_inb_nI (by omega) (by decide), ?_⟩
        by_cases c2 : 0 ≤ z_mt P x y
        · rw [if_pos c2]
          have hold : ∀ x' y', y' < 9 → ¬ (x' = x ∧ y' = y) → z_tb v P x' y' → z_tb v2 P x' y' := fun x' y' hy' hne h => ⟨h.1, fun b1 b2 => by
            rw [a2, a3, if_neg (by omega), if_neg (by omega)]
            exact h.2 b1 b2⟩
          refine hkb' _ ⟨rfl, a1, fun x' y' h1 h2 => hold x' y' h2 (by omega) (d3 x' y' h1 h2), fun y' hy' => ?_⟩
          by_cases c : y' = y
          · subst c
            exact ⟨by rw [hpp, decide_eq_true c1, decide_eq_true c2]; rfl, fun _ _ => ⟨by rw [a2, if_pos rfl], by rw [a3, if_pos rfl]⟩⟩
          · exact hold x y' (by omega) (by omega) (d4 y' (by omega))
        · rw [if_neg c2, z_ok_some]
          have := hno x y hx hy (by rw [hpp, decide_eq_false c2, Bool.and_false])
          exact ⟨by rw [this]; rfl, a1, fun q => by rw [this] at q; cases q⟩
    · rintro ⟨yy, v⟩ ⟨d1, d2, d3, d4⟩ kb'
      dsimp only at d1 d2 d3 d4
      subst d1
      unfold b_X0_fill_10
      dsimp only
      rw [if_pos (show (9 : Int32) ≤ nI 9 by decide), z_1]
      refine hkb _ ⟨rfl, d2, fun x' y' h1 h2 => ?_⟩
      by_cases c : x' = x
      · rw [c]; exact d4 y' h2
      · exact d3 x' y' (by omega) h2
  · rintro ⟨xx, v⟩ ⟨e1, e2, e3⟩ kb
    dsimp only at e1 e2 e3
    subst e1
    unfold b_X0_fill_2
    dsimp only
    rw [if_pos (show (9 : Int32) ≤ nI 9 by decide), z_ok_some]
    refine ⟨?_, e2, fun _ x y hx hy => e3 x y hx hy⟩
    have : z_latB P = true := z_alb_iff.mpr (fun x hx => z_alb_iff.mpr (fun y hy => (e3 x y hx hy).1))
    rw [this]; rfl
end
