section
variable {u w v : z_M} {P : z_P}
theorem z_jn_is (hw : z_wf P) {x y : Nat} (hx : x < 9) (tx : (z_th P).testBit x = true) (h : ¬ z_jn P x y < 0) : ∃ j, j < 9 ∧ (z_th P).testBit j = true ∧ z_jn P x y = nI j := by
  unfold z_jn z_lst at *
  rcases z_fi_is (fun k => (z_up P x &&& z_up P y).testBit k && z_df (z_up P x &&& z_up P y) (z_up P k) == 0) (-2) with ⟨j, j1, j2, -, j4⟩ | ⟨-, e⟩
  · rw [Bool.and_eq_true, Nat.testBit_and, Bool.and_eq_true] at j2
    exact ⟨j, j1, z_up_in hw hx j1 tx j2.1.1, j4⟩
  · rw [e] at h
    exact absurd (by decide) h
theorem z_mt_is (hw : z_wf P) {x y : Nat} (hx : x < 9) (tx : (z_th P).testBit x = true) (h : 0 ≤ z_mt P x y) : ∃ j, j < 9 ∧ (z_th P).testBit j = true ∧ z_mt P x y = nI j := by
  unfold z_mt z_grt at *
  rcases z_fi_is (fun k => (z_dn P x &&& z_dn P y).testBit k && z_df (z_dn P x &&& z_dn P y) (z_dn P k) == 0) (-2) with ⟨j, j1, j2, -, j4⟩ | ⟨-, e⟩
  · rw [Bool.and_eq_true, Nat.testBit_and, Bool.and_eq_true] at j2
    exact ⟨j, j1, z_dn_in hw hx j1 tx j2.1.1, j4⟩
  · rw [e] at h
    exact absurd h (by decide)
theorem z_latJ (hw : z_wf P) (hl : z_latB P = true) {x y : Nat} (hx : x < 9) (hy : y < 9) (tx : (z_th P).testBit x = true) (ty : (z_th P).testBit y = true) : (∃ j, j < 9 ∧ (z_th P).testBit j = true ∧ z_jn P x y = nI j) ∧ ∃ j, j < 9 ∧ (z_th P).testBit j = true ∧ z_mt P x y = nI j := by
  have := z_alb_iff.mp (z_alb_iff.mp hl x hx) y hy
  unfold z_lp2 at this
  rw [tx, ty, Bool.and_self, Bool.not_true, Bool.false_or, Bool.and_eq_true, decide_eq_true_eq, decide_eq_true_eq] at this
  exact ⟨z_jn_is hw hx tx this.1, z_mt_is hw hx tx this.2⟩
def z_dd (P : z_P) (x y z : Nat) : Bool := decide (z_mt P x (z_jn P y z).toNatClampNeg = z_jn P (z_mt P x y).toNatClampNeg (z_mt P x z).toNatClampNeg)
theorem s0_at {p a b : Nat} (ha : a < 9) (hb : b < 9) : f_X0_at p 81 (nI a) (nI b) u = some (u.1 p (a * 9 + b)) := by
  unfold f_X0_at
  rw [z_lt, z_x9 a ha b hb, if_neg (nI_pos (by omega)), if_neg (nI_pos (by omega)), if_neg (nI_ge (a := a * 9 + b) (b := 81) (by omega) (by decide)), z_gdt (z_inb_nI (by omega) (by decide)), z_gI, z_cl (by omega)]
theorem s0_distributesAt (hr : z_rc u 0 P) (hw : z_wf P) (hl : z_latB P = true) (ht : ∀ x y, x < 9 → y < 9 → z_tb u P x y) {x c : Nat} (hx : x < 9) (hc : c < 9) (tx : (z_th P).testBit x = true) (tc : (z_th P).testBit c = true) : f_X0_distributesAt 0 (nI x) (nI c) u = some (z_bi (z_alb (fun y => !(z_th P).testBit y || z_dd P x y c) 9)) := by
  unfold f_X0_distributesAt
  rw [← z_dwn, ← z_exi_d]
  refine z_lpx (k0 := 0) (fun t => nI t) _ _ _ 9 (by decide) (fun y _ hy kb => ?_) (fun kb => ?_)
  · have hy : y < 9 := by omega
    unfold b_X0_distributesAt_3
    rw [if_neg (by rw [z_le9 hy]; exact id), s6_has hr hw, Option.bind_some, z_is_nI hy, z_1]
    cases ty : (z_th P).testBit y
    · rfl
    · obtain ⟨⟨j, j1, j2, j3⟩, -⟩ := z_latJ hw hl hy hc ty tc
      obtain ⟨-, m, m1, m2, m3⟩ := z_latJ hw hl hx hy tx ty
      obtain ⟨-, n, n1, n2, n3⟩ := z_latJ hw hl hx hc tx tc
      rw [if_neg (show ¬ z_bi true = 0 by decide), s0_at hy hc, Option.bind_some, ((ht y c hy hc).2 ty tc).1, j3, s0_at hx j1, Option.bind_some, ((ht x j hx j1).2 tx j2).2, s0_at hx hy, Option.bind_some, ((ht x y hx hy).2 tx ty).2, m3, s0_at hx hc, Option.bind_some, ((ht x c hx hc).2 tx tc).2, n3, s0_at m1 n1, Option.bind_some, ((ht m n m1 n1).2 m2 n2).1]
      unfold z_dd
      rw [j3, m3, n3, z_c9 j1, z_c9 m1, z_c9 n1]
      by_cases e : z_mt P x j = z_jn P m n
      · rw [if_pos e, decide_eq_true e]; rfl
      · rw [if_neg e, decide_eq_false e]; rfl
  · unfold b_X0_distributesAt_3
    rw [Nat.zero_add, if_pos (show (9 : Int32) ≤ nI 9 by decide)]
def z_dca (P : z_P) (a : Int32) (x c : Nat) : Bool := (z_th P).testBit x && (z_th P).testBit c && (decide (a = 0) || (z_dn P x).testBit c)
theorem s0_distributes (hr : z_rc u 0 P) (hw : z_wf P) (hl : z_latB P = true) (ht : ∀ x y, x < 9 → y < 9 → z_tb u P x y) (a : Int32) : f_X0_distributes 0 a u = some (z_bi (z_alb (fun x => z_alb (fun c => !z_dca P a x c || z_alb (fun y => !(z_th P).testBit y || z_dd P x y c) 9) 9) 9)) := by
  unfold f_X0_distributes
  rw [← z_dwn, ← z_exi_d]
  refine z_lpx (k0 := 0) (fun t => nI t) _ _ _ 9 (by decide) (fun x _ hx kb => ?_) (fun kb => ?_)
  · have hx : x < 9 := by omega
    unfold b_X0_distributes_2
    rw [if_neg (by rw [z_le9 hx]; exact id), z_1, ← z_exi_d]
    refine z_lpx (k0 := 0) (fun t => nI t) _ _ _ 9 (by decide) (fun c _ hc kb' => ?_) (fun kb => ?_)
    · have hc : c < 9 := by omega
      have h56 : ∀ kx, j_X0_distributes_j56 0 a (nI x) (nI c) u kb' kx = kb' (nI (c + 1)) := fun kx => by
        unfold j_X0_distributes_j56 j_X0_distributes_j57
        rw [if_pos rfl, z_1]
      unfold b_X0_distributes_11 z_dca
      rw [if_neg (by rw [z_le9 hc]; exact id), s6_has hr hw, Option.bind_some, z_is_nI hx, s6_has hr hw, Option.bind_some, z_is_nI hc, h56]
      cases tx : (z_th P).testBit x
      · rfl
      cases tc : (z_th P).testBit c
      · rfl
      have h52 : ∀ kx, j_X0_distributes_j52 0 a (nI x) (nI c) u kb' kx = if z_alb (fun y => !(z_th P).testBit y || z_dd P x y c) 9 = true then kb' (nI (c + 1)) else some 0 := fun kx => by
        unfold j_X0_distributes_j52 j_X0_distributes_j57
        rw [if_neg (show ¬ (1 : Int32) = 0 by decide), s0_distributesAt hr hw hl ht hx hc tx tc, Option.bind_some, z_1]
        cases z_alb (fun y => !(z_th P).testBit y || z_dd P x y c) 9
        · rfl
        · rfl
      rw [if_neg (show ¬ z_bi true = 0 by decide), if_neg (show ¬ z_bi true = 0 by decide), h52, s6_atMost hr hw hx, if_pos tx, Option.bind_some, s_isIn (z_dn_lt hx), z_is_nI hc, Option.bind_some]
      by_cases ha : a = 0
      · rw [if_pos ha, decide_eq_true ha]
        rfl
      · rw [if_neg ha, decide_eq_false ha]
        cases (z_dn P x).testBit c
        · rfl
        · rfl
    · unfold b_X0_distributes_11
      rw [Nat.zero_add, if_pos (show (9 : Int32) ≤ nI 9 by decide)]
  · unfold b_X0_distributes_2
    rw [Nat.zero_add, if_pos (show (9 : Int32) ≤ nI 9 by decide)]
theorem s10_isDealt (hr : z_rr (w.1 1) P) (hw : z_wf P) (hl : z_latB P = true) (a : Int32) : f_X10_isDealt a w = some (z_bi (z_alb (fun x => z_alb (fun y => z_alb (fun c => !((z_th P).testBit y && z_dca P a x c) || z_dd P x y c) 9) 9) 9)) := by
  unfold f_X10_isDealt
  rw [← z_dwn, ← z_exi_d]
  refine z_lpx (k0 := 0) (fun t => nI t) _ _ _ 9 (by decide) (fun x _ hx kb => ?_) (fun kb => ?_)
  · have hx : x < 9 := by omega
    unfold b_X10_isDealt_2
    rw [if_neg (by rw [z_le9 hx]; exact id), z_1, ← z_exi_d]
    refine z_lpx (k0 := 0) (fun t => nI t) _ _ _ 9 (by decide) (fun y _ hy kb' => ?_) (fun kb => ?_)
    · have hy : y < 9 := by omega
      unfold b_X10_isDealt_10
      rw [if_neg (by rw [z_le9 hy]; exact id), z_1, ← z_exi_d]
      refine z_lpx (k0 := 0) (fun t => nI t) _ _ _ 9 (by decide) (fun c _ hc kb'' => ?_) (fun kb => ?_)
      · have hc : c < 9 := by omega
        have h65 : ∀ kx, j_X10_isDealt_j65 a (nI x) (nI y) (nI c) w kb'' kx = kb'' (nI (c + 1)) := fun kx => by
          unfold j_X10_isDealt_j65 j_X10_isDealt_j66
          rw [if_pos rfl, z_1]
        unfold b_X10_isDealt_19 z_dca
        rw [if_neg (by rw [z_le9 hc]; exact id), s10_areThere hr hw, Option.bind_some, z_is_nI hx, z_is_nI hy, s10_isThere hr hw, Option.bind_some, z_is_nI hc, h65]
        cases tx : (z_th P).testBit x
        · cases (z_th P).testBit y <;> rfl
        cases ty : (z_th P).testBit y
        · rfl
        cases tc : (z_th P).testBit c
        · rfl
        have h61 : ∀ kx, j_X10_isDealt_j61 a (nI x) (nI y) (nI c) w kb'' kx = if z_dd P x y c = true then kb'' (nI (c + 1)) else some 0 := fun kx => by
          obtain ⟨⟨j, j1, j2, j3⟩, -⟩ := z_latJ hw hl hy hc ty tc
          obtain ⟨-, m, m1, m2, m3⟩ := z_latJ hw hl hx hy tx ty
          obtain ⟨-, n, n1, n2, n3⟩ := z_latJ hw hl hx hc tx tc
          unfold j_X10_isDealt_j61 j_X10_isDealt_j66
          rw [if_neg (show ¬ (1 : Int32) = 0 by decide), s10_joinOf hr hw hy hc ty tc, Option.bind_some, j3, s10_meetOf hr hw hx j1 tx j2, Option.bind_some, s10_meetOf hr hw hx hy tx ty, Option.bind_some, m3, s10_meetOf hr hw hx hc tx tc, Option.bind_some, n3, s10_joinOf hr hw m1 n1 m2 n2, Option.bind_some, z_1]
          unfold z_dd
          rw [j3, m3, n3, z_c9 j1, z_c9 m1, z_c9 n1]
          by_cases e : z_mt P x j = z_jn P m n
          · rw [if_pos e, if_pos (decide_eq_true e)]
          · rw [if_neg e, if_neg (fun q => e (of_decide_eq_true q))]
        rw [show z_bi (true && true) = 1 from rfl, show z_bi true = 1 from rfl, if_neg (show ¬ (1 : Int32) = 0 by decide), if_neg (show ¬ (1 : Int32) = 0 by decide), h61, s10_downTo hr hw hx tx, Option.bind_some, s_has (by have := z_dn_lt (P := P) hx; omega) hc, Option.bind_some]
        by_cases ha : a = 0
        · rw [if_pos ha, decide_eq_true ha]
          rfl
        · rw [if_neg ha, decide_eq_false ha]
          cases (z_dn P x).testBit c
          · rfl
          · rfl
      · unfold b_X10_isDealt_19
        rw [Nat.zero_add, if_pos (show (9 : Int32) ≤ nI 9 by decide)]
    · unfold b_X10_isDealt_10
      rw [Nat.zero_add, if_pos (show (9 : Int32) ≤ nI 9 by decide)]
  · unfold b_X10_isDealt_2
    rw [Nat.zero_add, if_pos (show (9 : Int32) ≤ nI 9 by decide)]
theorem z_dist_eq (a : Int32) : z_alb (fun x => z_alb (fun c => !z_dca P a x c || z_alb (fun y => !(z_th P).testBit y || z_dd P x y c) 9) 9) 9 = z_alb (fun x => z_alb (fun y => z_alb (fun c => !((z_th P).testBit y && z_dca P a x c) || z_dd P x y c) 9) 9) 9 := by
  rw [Bool.eq_iff_iff]
  simp only [z_alb_iff, Bool.or_eq_true, Bool.not_eq_true']
  constructor
  · intro h x hx y hy c hc
    rcases h x hx c hc with h1 | h1
    · left; rw [h1, Bool.and_false]
    · rcases h1 y hy with h2 | h2
      · left; rw [h2]; rfl
      · exact Or.inr h2
  · intro h x hx c hc
    cases e : z_dca P a x c
    · exact Or.inl rfl
    · refine Or.inr (fun y hy => ?_)
      rcases h x hx y hy c hc with h2 | h2
      · rw [e, Bool.and_true] at h2; exact Or.inl h2
      · exact Or.inr h2
/-! in a row -/
def z_pr (P : z_P) : Nat := fb_sm (fun x => z_pc (z_ab P x)) 9
theorem z_ab_no (hw : z_wf P) {x : Nat} (hx : x < 9) (h : (z_th P).testBit x = false) : z_pc (z_ab P x) = 0 ∧ z_pc (z_un P x) = 0 := by
  have e1 : z_ab P x = 0 := z_ext (hw.ab x hx) (by decide) (fun k hk => by
    rw [Nat.zero_testBit]
    cases c : (z_ab P x).testBit k
    · rfl
    · have := (hw.in x k hx hk c).1
      rw [h] at this; cases this)
  have e2 : z_un P x = 0 := z_ext (z_un_lt P x) (by decide) (fun k hk => by
    rw [Nat.zero_testBit, z_un_bit P hk]
    cases c : (z_ab P k).testBit x
    · rfl
    · have := (hw.in k x hk hx c).2
      rw [h] at this; cases this)
  rw [e1, e2, z_pc_0]
  exact ⟨rfl, rfl⟩
theorem z_pr_un (P : z_P) : fb_sm (fun x => z_pc (z_un P x)) 9 = z_pr P := by
  have h1 : ∀ a, z_pc a = fb_sm (fun k => if a.testBit k then 1 else 0) 9 := fun a => by rw [z_pc_ct]; rfl
  unfold z_pr
  rw [show fb_sm (fun x => z_pc (z_un P x)) 9 = fb_sm (fun x => fb_sm (fun k => if (z_ab P k).testBit x then 1 else 0) 9) 9 from fb_sm_cong (fun x hx => by
    rw [h1]
    exact fb_sm_cong (fun k hk => by rw [z_un_bit P hk])), z_sm_ex]
  exact fb_sm_cong (fun x hx => (h1 _).symm)
theorem z_cmp (hw : z_wf P) {x : Nat} (hx : x < 9) (tx : (z_th P).testBit x = true) : z_pc (z_ab P x) + z_pc (z_un P x) + 1 ≤ z_pc (z_th P) ∧ (z_pc (z_ab P x) + z_pc (z_un P x) + 1 = z_pc (z_th P) ↔ ∀ y, y < 9 → (z_th P).testBit y = true → x = y ∨ (z_ab P x).testBit y = true ∨ (z_ab P y).testBit x = true) := by
  have h1 := z_pc_df (a := z_ab P x ||| z_un P x) (b := z_ab P x) (fun k _ hb => by rw [Nat.testBit_or, hb]; rfl)
  have e : z_df (z_ab P x ||| z_un P x) (z_ab P x) = z_un P x := by
    refine z_ext (z_df_lt (Nat.or_lt_two_pow (n := 9) (hw.ab x hx) (z_un_lt P x))) (z_un_lt P x) (fun k hk => ?_)
    rw [z_df_bit, Nat.testBit_or, z_un_bit P hk]
    cases c1 : (z_ab P x).testBit k
    · simp
    · cases c2 : (z_ab P k).testBit x
      · simp
      · have := hw.tr x k x hx hk hx c1 c2
        rw [hw.irr x hx] at this; cases this
  rw [e] at h1
  have h2 := z_pc_rest hx tx
  have hsub : ∀ k, k < 9 → (z_ab P x ||| z_un P x).testBit k = true → (z_rest x (z_th P)).testBit k = true := fun k hk hb => by
    rw [Nat.testBit_or, Bool.or_eq_true, z_un_bit P hk] at hb
    rw [z_rest_bit, Bool.and_eq_true, Bool.not_eq_true', decide_eq_false_iff_not]
    rcases hb with hb | hb
    · exact ⟨(hw.in x k hx hk hb).2, fun q => by rw [q, hw.irr x hx] at hb; cases hb⟩
    · exact ⟨(hw.in k x hk hx hb).1, fun q => by rw [q, hw.irr x hx] at hb; cases hb⟩
  have h3 := z_pc_mono hsub
  refine ⟨by omega, ?_⟩
  constructor
  · intro q y hy ty
    by_cases exy : x = y
    · exact Or.inl exy
    · cases c : (z_ab P x ||| z_un P x).testBit y
      · have := z_pc_st hy (show (z_rest x (z_th P)).testBit y = true by rw [z_rest_bit, ty, decide_eq_false (fun q => exy q.symm)]; rfl) c hsub
        omega
      · rw [Nat.testBit_or, Bool.or_eq_true, z_un_bit P hy] at c
        exact Or.inr c
  · intro q
    have h4 : z_pc (z_rest x (z_th P)) ≤ z_pc (z_ab P x ||| z_un P x) := z_pc_mono (fun k hk hb => by
      rw [z_rest_bit, Bool.and_eq_true, Bool.not_eq_true', decide_eq_false_iff_not] at hb
      rw [Nat.testBit_or, Bool.or_eq_true, z_un_bit P hk]
      rcases q k hk hb.1 with c | c
      · exact absurd c.symm hb.2
      · exact c)
    omega
theorem z_tri : ∀ n, n < 10 → 2 * (n * (n - 1) / 2) = n * (n - 1) ∧ nI n * (nI n - 1) / 2 = nI (n * (n - 1) / 2) := by decide +kernel
theorem z_row_pr (hw : z_wf P) : z_row P (z_th P) = decide (z_pr P = z_pc (z_th P) * (z_pc (z_th P) - 1) / 2) := by
  have hn := z_pc_le (z_th P)
  have ht := (z_tri (z_pc (z_th P)) (by omega)).1
  obtain ⟨d, hd⟩ : ∃ d : Nat → Nat, d = fun x => if (z_th P).testBit x then z_pc (z_th P) - 1 - (z_pc (z_ab P x) + z_pc (z_un P x)) else 0 := ⟨_, rfl⟩
  have hsum : z_pr P + z_pr P + fb_sm d 9 = z_pc (z_th P) * (z_pc (z_th P) - 1) := by
    have e1 : fb_sm (fun x => (z_pc (z_th P) - 1) * (if (z_th P).testBit x then 1 else 0)) 9 = z_pr P + z_pr P + fb_sm d 9 := by
      conv => rhs; rw [← z_pr_un P]
      rw [show fb_sm (fun x => z_pc (z_un P x)) 9 + fb_sm (fun x => z_pc (z_un P x)) 9 = fb_sm (fun x => z_pc (z_ab P x)) 9 + fb_sm (fun x => z_pc (z_un P x)) 9 by rw [z_pr_un]; rfl, ← fb_sm_add, ← fb_sm_add]
      refine fb_sm_cong (fun x hx => ?_)
      rw [hd]
      dsimp only
      cases tx : (z_th P).testBit x
      · have := z_ab_no hw hx tx
        simp [this.1, this.2]
      · have := (z_cmp hw hx tx).1
        simp
        omega
    rw [z_sm_mul] at e1
    rw [← e1, Nat.mul_comm]
    congr 1
    rw [z_pc_ct]; rfl
  rw [Bool.eq_iff_iff, z_row_iff hw hw.th, decide_eq_true_eq]
  constructor
  · intro h
    have : fb_sm d 9 = fb_sm (fun _ => 0) 9 := fb_sm_cong (fun x hx => by
      rw [hd]
      dsimp only
      cases tx : (z_th P).testBit x
      · rfl
      · have := (z_cmp hw hx tx).2.mpr (fun y hy ty => h x y hx hy tx ty)
        simp
        omega)
    rw [fb_sm_const] at this
    omega
  · intro h x y hx hy tx ty
    have hz : fb_sm d 9 = 0 := by omega
    have := fb_sm_zero hz x hx
    rw [hd] at this
    dsimp only at this
    rw [if_pos tx] at this
    have h1 := (z_cmp hw hx tx).1
    exact (z_cmp hw hx tx).2.mp (by omega) y hy ty
theorem s10_isRow (hr : z_rr (w.1 1) P) (hw : z_wf P) : f_X10_isRow w = some (z_bi (z_row P (z_th P))) := by
  have e1 : z_gI w 1 (1 : Int32).toNatClampNeg = nI (z_th P) := hr.2.1
  have hth := hw.th
  have hp : f_X10_pairs w = some (nI (z_pr P)) := by
    unfold f_X10_pairs z_pr
    refine z_lpr (fun t => (nI (fb_sm (fun x => z_pc (z_ab P x)) t), nI t)) _ 9 (by decide) (fun x hx kb => ?_) (fun kb => ?_)
    · unfold b_X10_pairs_4
      dsimp only
      rw [if_neg (by rw [z_le9 hx]; exact id), z_gdt (show z_inb 1 93 = true from rfl), e1, s_has (by omega) hx, Option.bind_some, z_1 x, fb_sm_succ]
      cases tx : (z_th P).testBit x
      · rw [(z_ab_no hw hx tx).1, Int32.add_zero]; rfl
      · rw [if_neg (show ¬ z_bi true = 0 by decide), s10_aboveT hr hx tx, Option.bind_some, s_bits (hw.ab x hx), Option.bind_some, nI_add]; rfl
    · unfold b_X10_pairs_4
      dsimp only
      rw [if_pos (show (9 : Int32) ≤ nI 9 by decide)]
  have hpr : z_pr P ≤ 9 * 9 := fb_sm_bound (fun x _ => z_pc_le _)
  have hn := z_pc_le (z_th P)
  have hmul : z_pc (z_th P) * (z_pc (z_th P) - 1) ≤ 9 * 9 := Nat.mul_le_mul hn (by omega)
  unfold f_X10_isRow
  rw [hp, Option.bind_some, z_gdt (show z_inb 1 93 = true from rfl), e1, s_bits hth, Option.bind_some, z_gdt (show z_inb 1 93 = true from rfl), Option.bind_some, (z_tri _ (by omega)).2, z_row_pr hw]
  by_cases e : z_pr P = z_pc (z_th P) * (z_pc (z_th P) - 1) / 2
  · rw [if_pos (by rw [e]), decide_eq_true e]; rfl
  · rw [if_neg (fun q => e ((nI_eq (by omega) (by omega)).mp q)), decide_eq_false e]; rfl
end
