section
variable {u w : z_M} {P : z_P}
/-! Heights. -/
def z_mxn (f : Nat → Nat) : Nat → Nat
  | 0 => 0
  | n + 1 => if z_mxn f n < f n then f n else z_mxn f n
theorem z_mxn_ge {f : Nat → Nat} {k : Nat} : ∀ n, k < n → f k ≤ z_mxn f n
  | 0, h => absurd h (Nat.not_lt_zero k)
  | n + 1, h => by
    rw [z_mxn]
    by_cases e : k = n
    · subst e; split <;> omega
    · have := z_mxn_ge (f := f) n (show k < n by omega)
      split <;> omega
theorem z_mxn_le {f : Nat → Nat} {c : Nat} : ∀ n, (∀ k, k < n → f k ≤ c) → z_mxn f n ≤ c
  | 0, _ => Nat.zero_le _
  | n + 1, h => by
    have h1 := z_mxn_le (f := f) n (fun k hk => h k (by omega))
    have h2 := h n (by omega)
    rw [z_mxn]
    split <;> omega
theorem z_mxn_at {f : Nat → Nat} : ∀ n, 0 < z_mxn f n → ∃ k, k < n ∧ z_mxn f n = f k
  | 0, h => absurd h (Nat.lt_irrefl 0)
  | n + 1, h => by
    rw [z_mxn] at h ⊢
    by_cases c : z_mxn f n < f n
    · rw [if_pos c]; exact ⟨n, by omega, rfl⟩
    · rw [if_neg c] at h ⊢
      obtain ⟨k, hk, e⟩ := z_mxn_at n h
      exact ⟨k, by omega, e⟩
theorem z_mxn_cg {f g : Nat → Nat} : ∀ n, (∀ k, k < n → f k = g k) → z_mxn f n = z_mxn g n
  | 0, _ => rfl
  | n + 1, h => by rw [z_mxn, z_mxn, z_mxn_cg n (fun k hk => h k (by omega)), h n (by omega)]
def z_hg (P : z_P) (W : Nat) (F : Nat → Nat) (x : Nat) : Nat := z_mxn (fun y => if (z_un P x &&& W).testBit y then F y + 1 else 0) 9
theorem z_hg_cg {W : Nat} {F G : Nat → Nat} {x : Nat} (h : ∀ y, y < 9 → (z_un P x).testBit y = true → F y = G y) : z_hg P W F x = z_hg P W G x := by
  refine z_mxn_cg 9 (fun y hy => ?_)
  rw [Nat.testBit_and]
  cases h1 : (z_un P x).testBit y
  · simp
  · rw [h y hy h1]
/-- points below the next one of the row stand ahead of it -/
theorem z_rw_bef (hw : z_wf P) {j y : Nat} (hj : j < z_pc (z_th P)) (hy : y < 9) (h : (z_un P (z_rw P j)).testBit y = true) : ∃ i, i < j ∧ z_rw P i = y := by
  have hx := (z_rw_ok hw hj).1
  have ty : (z_th P).testBit y = true := by
    rw [z_un_bit P hy] at h
    exact (hw.in y _ hy hx h).1
  obtain ⟨i, hi, rfl⟩ := z_rw_on hw ty
  refine ⟨i, ?_, rfl⟩
  refine Nat.lt_of_not_le (fun hij => ?_)
  rw [z_rw_nu hw hij hi] at h
  cases h
theorem s8_meas_in {v : z_M} {W x : Nat} (hx : x < 9) (h2' : v.1 2 x = nI (z_un P x)) {F : Nat → Nat} (hg : ∀ y, y < 9 → (z_un P x &&& W).testBit y = true → v.1 127 y = nI (F y) ∧ F y + 1 ≤ 9 ∧ y ≠ x) {c3 c4 : Int32} {kx : z_M → Option z_M} {Q : z_M → Prop} (h : ∀ v' : z_M, (∀ k, k ≠ 127 → v'.1 k = v.1 k) → (∀ z, z ≠ x → v'.1 127 z = v.1 127 z) → v'.1 127 x = nI (z_hg P W F x) → z_ok (kx v') Q) : z_ok (z_lp (b_X8_measure_50 0 (nI W) c3 c4 (nI x)) z_F (0, z_sI v 127 x 0) kx) Q := by
  refine z_ok_l9 (fun y q => q.1 = nI y ∧ (∀ k, k ≠ 127 → q.2.1 k = v.1 k) ∧ (∀ z, z ≠ x → q.2.1 127 z = v.1 127 z) ∧ q.2.1 127 x = nI (z_mxn (fun y => if (z_un P x &&& W).testBit y then F y + 1 else 0) y)) ⟨rfl, fun k hk => z_sI_ne hk, fun z hz => by simp [z_sI_1, Ne.symm hz], by simp [z_sI_1, z_mxn, nI_0]⟩ ?_ ?_
  · rintro y ⟨yy, v1⟩ hi ⟨f1, f2, f3, f4⟩ kb' hk'
    dsimp only at f1 f2 f3 f4
    subst f1
    have h2 : v1.1 (0 + 2) x = nI (z_un P x) := by
      rw [f2 _ (by decide)]
      exact h2'
    have h2' : v1.1 2 x = nI (z_un P x) := h2
    have hmx : z_mxn (fun y => if (z_un P x &&& W).testBit y then F y + 1 else 0) y ≤ 9 := z_mxn_le y (fun k hk => by
      try dsimp only
      split
      · rename_i hb
        have := (hg k (by omega) hb).2.1
        omega
      · omega)
    unfold b_X8_measure_50
    simp only [z_le9 hi, if_false, z_ok_gd, z_in9 hx, z_in9 hi, true_and, z_gI, z_c9 hx, z_c9 hi, h2, h2', z_and, s_isIn (z_and_lt W (z_un_lt P x)), z_is_nI hi, Option.bind_some, z_ok_bit, z_ok_lt, z_1, f4]
    refine ⟨fun hb => hk' _ ⟨rfl, f2, f3, ?_⟩, fun hb => hk' _ ⟨rfl, fun k hk => ?_, fun z hz => ?_, ?_⟩⟩
    · try dsimp only
      rw [f4, z_mxn]
      simp [hb]
    · try dsimp only
      rw [z_sI_ne hk]
      exact f2 k hk
    · simp only [z_sI_1, Ne.symm hz, and_false, if_false]
      exact f3 z hz
    · obtain ⟨g1, g2, g3⟩ := hg y hi hb
      simp only [z_sI_1, true_and, if_true]
      simp only [f3 y g3, g1, z_1, z_ltI (show z_mxn (fun y => if (z_un P x &&& W).testBit y then F y + 1 else 0) y < 2 ^ 31 by omega) (show F y + 1 < 2 ^ 31 by omega)]
      rw [z_mxn]
      simp only [hb, if_true]
      split <;> rfl
  · rintro ⟨yy, v1⟩ ⟨f1, f2, f3, f4⟩ kb'
    dsimp only at f1 f2 f3 f4
    subst f1
    unfold b_X8_measure_50
    simp only [z_99, if_true]
    exact h v1 f2 f3 f4
theorem s8_measure (hr : z_rc u 0 P) (hw : z_wf P) {W : Nat} (hW : W < 512) : z_ok (f_X8_measure 0 (nI W) u) (fun u' => (∀ k, k ≠ 126 → k ≠ 127 → u'.1 k = u.1 k) ∧ ∃ F : Nat → Nat, ∀ x, x < 9 → (z_th P).testBit x = true → W.testBit x = true → u'.1 127 x = nI (F x) ∧ F x ≤ 8 ∧ F x = z_hg P W F x) := by
  have hm9 := z_pc_le (z_th P)
  obtain ⟨⟨n, v0⟩, q1, q2, q3, q4⟩ := s6_leastRow hr hw
  try dsimp only at q2 q3 q4
  subst q2
  unfold f_X8_measure
  rw [q1, z_ok_b2, z_ok_some]
  refine z_ok_lp (fun j q => q.1 = nI j ∧ (∀ k, k ≠ 126 → k ≠ 127 → q.2.1 k = u.1 k) ∧ (∀ i, i < z_pc (z_th P) → q.2.1 126 i = nI (z_rw P i)) ∧ ∃ F : Nat → Nat, ∀ i, i < j → W.testBit (z_rw P i) = true → q.2.1 127 (z_rw P i) = nI (F (z_rw P i)) ∧ F (z_rw P i) ≤ i ∧ F (z_rw P i) = z_hg P W F (z_rw P i)) (z_pc (z_th P)) (z_F_lt (by omega)) ⟨rfl, fun k k1 _ => q3 k k1, q4, fun _ => 0, fun i hi => absurd hi (by omega)⟩ ?_ ?_
  · rintro j ⟨jj, v⟩ hj ⟨e1, e2, e3, F, e4⟩ kb hk
    try dsimp only at e1 e2 e3 e4
    subst e1
    obtain ⟨r1, -, -, -, -⟩ := z_rw_ok hw hj
    have hlj : ¬ nI (z_pc (z_th P)) ≤ nI j := nI_ge hj (by omega)
    unfold b_X8_measure_12
    rw [if_neg hlj, z_ok_gd, z_ok_lt, z_gI, z_c9 (show j < 9 by omega), e3 j hj, s_isIn hW, z_is_nI r1, Option.bind_some, z_ok_bit, z_ok_gd, z_ok_lt, z_c9 r1, z_1]
    refine ⟨z_in9 (by omega), fun h => hk _ ⟨rfl, e2, e3, F, fun i hi hWi => ?_⟩, fun h => ⟨z_in9 r1, ?_⟩⟩
    · by_cases hij : i = j
      · rw [hij, h] at hWi; cases hWi
      · exact e4 i (by omega) hWi
    · have hg : ∀ y, y < 9 → (z_un P (z_rw P j) &&& W).testBit y = true → v.1 127 y = nI (F y) ∧ F y + 1 ≤ j ∧ y ≠ z_rw P j := by
        intro y hy hb
        rw [Nat.testBit_and, Bool.and_eq_true] at hb
        obtain ⟨i, hi, rfl⟩ := z_rw_bef hw hj hy hb.1
        obtain ⟨a1, a2, -⟩ := e4 i hi hb.2
        exact ⟨a1, by omega, z_rw_ne hw hi hj⟩
      refine s8_meas_in r1 (by rw [e2 _ (by decide) (by decide)]; exact hr.2.2.2.2.1 _ r1) (F := F) (fun y hy hb => by
        obtain ⟨a1, a2, a3⟩ := hg y hy hb
        exact ⟨a1, by omega, a3⟩) (fun v1 f2 f3 f4 => ?_)
      refine hk _ ⟨rfl, fun k k1 k2 => ?_, fun i hi => ?_, fun z => if z = z_rw P j then z_hg P W F (z_rw P j) else F z, fun i hi hWi => ?_⟩
      · try dsimp only
        rw [f2 k k2]
        exact e2 k k1 k2
      · try dsimp only
        rw [f2 126 (by decide)]
        exact e3 i hi
      · try dsimp only
        have hcg : ∀ i', i' ≤ j → z_hg P W (fun z => if z = z_rw P j then z_hg P W F (z_rw P j) else F z) (z_rw P i') = z_hg P W F (z_rw P i') := fun i' hi' => z_hg_cg (fun y hy hb => by
          rw [if_neg]
          intro e
          rw [e, z_rw_nu hw hi' hj] at hb
          cases hb)
        by_cases hij : i = j
        · subst hij
          rw [if_pos rfl, f4, hcg i (Nat.le_refl _)]
          refine ⟨rfl, z_mxn_le 9 (fun k hk => ?_), rfl⟩
          try dsimp only
          split
          · rename_i hb
            have := (hg k hk hb).2.1
            omega
          · omega
        · have hne := z_rw_ne hw (show i < j by omega) hj
          rw [if_neg hne, f3 _ hne, hcg i (by omega)]
          exact e4 i (by omega) hWi
  · rintro ⟨jj, v⟩ ⟨e1, e2, e3, F, e4⟩ kb
    try dsimp only at e1 e2 e3 e4
    subst e1
    unfold b_X8_measure_12
    try dsimp only
    rw [if_pos (nI_le (Nat.le_refl _) (by omega)), z_ok_some]
    refine ⟨e2, F, fun x hx tx hWx => ?_⟩
    obtain ⟨i, hi, rfl⟩ := z_rw_on hw tx
    obtain ⟨a1, a2, a3⟩ := e4 i hi hWx
    exact ⟨a1, by omega, a3⟩
/-! Heights over one point, as the reference finds them: one more, 0 for none. -/
def z_hh (P : z_P) (a : Nat) : Nat → Nat → Nat
  | 0, x => if x = a then 1 else 0
  | n + 1, x => if x = a then 1 else z_mxn (fun y => if (z_un P x).testBit y = true ∧ 0 < z_hh P a n y then z_hh P a n y + 1 else 0) 9
def z_hst (P : z_P) (a x : Nat) : Nat := z_hh P a 9 x
theorem z_hh_st (hw : z_wf P) (a : Nat) : ∀ n x, x < 9 → z_pc (z_un P x) ≤ n → z_hh P a (n + 1) x = z_hh P a n x
  | 0, x, hx, h => by
    have h0 : z_un P x = 0 := z_pc_eq0 (z_un_lt P x) (by omega)
    rw [z_hh, z_hh, h0]
    by_cases e : x = a
    · rw [if_pos e, if_pos e]
    · rw [if_neg e, if_neg e]
      have := z_mxn_le (f := fun y => if (0 : Nat).testBit y = true ∧ 0 < z_hh P a 0 y then z_hh P a 0 y + 1 else 0) (c := 0) 9 (fun k hk => by simp)
      omega
  | n + 1, x, hx, h => by
    rw [z_hh, z_hh]
    by_cases e : x = a
    · rw [if_pos e, if_pos e]
    · rw [if_neg e, if_neg e]
      refine z_mxn_cg 9 (fun y hy => ?_)
      cases hb : (z_un P x).testBit y
      · simp
      · have h1 : (z_ab P y).testBit x = true := by rw [← z_un_bit P hy]; exact hb
        have h2 := z_un_st hw hy hx h1
        rw [z_hh_st hw a n y hy (by omega)]
theorem z_hst_eq (hw : z_wf P) (a : Nat) {x : Nat} (hx : x < 9) : z_hst P a x = if x = a then 1 else z_mxn (fun y => if (z_un P x).testBit y = true ∧ 0 < z_hst P a y then z_hst P a y + 1 else 0) 9 := by
  show z_hh P a (8 + 1) x = _
  rw [z_hh]
  by_cases e : x = a
  · rw [if_pos e, if_pos e]
  · rw [if_neg e, if_neg e]
    refine z_mxn_cg 9 (fun y hy => ?_)
    cases hb : (z_un P x).testBit y
    · simp
    · have h1 : (z_ab P y).testBit x = true := by rw [← z_un_bit P hy]; exact hb
      have h2 := z_un_st hw hy hx h1
      have h3 := z_un_8 hw hx
      have h4 : z_hh P a 8 y = z_hst P a y := (z_hh_st hw a 8 y hy (by omega)).symm
      rw [h4]
theorem z_hst_9 (hw : z_wf P) (a : Nat) {x : Nat} (hx : x < 9) : z_hst P a x ≤ 9 := by
  have key : ∀ x, x < 9 → z_hst P a x ≤ z_pc (z_un P x) + 1 := z_wfi hw (fun x hx ih => by
    rw [z_hst_eq hw a hx]
    split
    · omega
    · refine z_mxn_le 9 (fun y hy => ?_)
      try dsimp only
      split
      · rename_i h
        have h1 : (z_ab P y).testBit x = true := by rw [← z_un_bit P hy]; exact h.1
        have := ih y hy h1
        have := z_un_st hw hy hx h1
        omega
      · omega)
  have := key x hx
  have := z_un_8 hw hx
  omega
theorem z_hst_a (hw : z_wf P) {a : Nat} (ha : a < 9) : z_hst P a a = 1 := by rw [z_hst_eq hw a ha, if_pos rfl]
theorem z_hst_up (hw : z_wf P) {a : Nat} (ha : a < 9) : ∀ x, x < 9 → (0 < z_hst P a x ↔ x = a ∨ (z_ab P a).testBit x = true) := z_wfi hw (fun x hx ih => by
  rw [z_hst_eq hw a hx]
  by_cases e : x = a
  · simp [e]
  · rw [if_neg e]
    constructor
    · intro h
      obtain ⟨y, hy, ey⟩ := z_mxn_at 9 h
      rw [ey] at h
      try dsimp only at h
      split at h
      · rename_i hc
        have h1 : (z_ab P y).testBit x = true := by rw [← z_un_bit P hy]; exact hc.1
        rcases (ih y hy h1).mp hc.2 with rfl | h2
        · exact Or.inr h1
        · exact Or.inr (hw.tr a y x ha hy hx h2 h1)
      · omega
    · rintro (h | h)
      · exact absurd h e
      · have h1 := z_mxn_ge (f := fun y => if (z_un P x).testBit y = true ∧ 0 < z_hst P a y then z_hst P a y + 1 else 0) 9 ha
        try dsimp only at h1
        rw [if_pos ⟨by rw [z_un_bit P ha]; exact h, by rw [z_hst_a hw ha]; decide⟩] at h1
        omega)
theorem z_hst_lt (hw : z_wf P) {a x y : Nat} (ha : a < 9) (hx : x < 9) (hy : y < 9) (h0 : 0 < z_hst P a x) (h : (z_ab P x).testBit y = true) : z_hst P a x + 1 ≤ z_hst P a y := by
  rw [z_hst_eq hw a hy]
  have e : ¬ y = a := by
    rintro rfl
    rcases (z_hst_up hw hy x hx).mp h0 with rfl | h2
    · rw [hw.irr x hx] at h; cases h
    · rw [hw.asym hx hy h] at h2; cases h2
  rw [if_neg e]
  have h1 := z_mxn_ge (f := fun y' => if (z_un P y).testBit y' = true ∧ 0 < z_hst P a y' then z_hst P a y' + 1 else 0) 9 hx
  try dsimp only at h1
  rw [if_pos ⟨by rw [z_un_bit P hx]; exact h, h0⟩] at h1
  exact h1
/-- heights of both -/
theorem z_hst_F (hw : z_wf P) {a W : Nat} (ha : a < 9) (haW : W.testBit a = true) (h1 : ∀ x, x < 9 → W.testBit x = true → x = a ∨ (z_ab P a).testBit x = true) (h2 : ∀ x y, x < 9 → y < 9 → W.testBit x = true → (z_ab P y).testBit x = true → (y = a ∨ (z_ab P a).testBit y = true) → W.testBit y = true) {F : Nat → Nat} (hF : ∀ x, x < 9 → W.testBit x = true → F x = z_hg P W F x) : ∀ x, x < 9 → W.testBit x = true → z_hst P a x = F x + 1 := z_wfi hw (fun x hx ih hWx => by
  rw [z_hst_eq hw a hx, hF x hx hWx]
  have hcond : ∀ y, y < 9 → (((z_un P x).testBit y = true ∧ 0 < z_hst P a y) ↔ (z_un P x &&& W).testBit y = true) := by
    intro y hy
    rw [Nat.testBit_and, Bool.and_eq_true, z_hst_up hw ha y hy]
    constructor
    · rintro ⟨b1, b2⟩
      exact ⟨b1, h2 x y hx hy hWx (by rw [← z_un_bit P hy]; exact b1) b2⟩
    · rintro ⟨b1, b2⟩
      exact ⟨b1, h1 y hy b2⟩
  have hv : ∀ y, y < 9 → (z_un P x &&& W).testBit y = true → z_hst P a y = F y + 1 := by
    intro y hy hb
    rw [Nat.testBit_and, Bool.and_eq_true, z_un_bit P hy] at hb
    exact ih y hy hb.1 hb.2
  by_cases e : x = a
  · rw [if_pos e]
    have : z_hg P W F x ≤ 0 := z_mxn_le 9 (fun y hy => by
      try dsimp only
      split
      · rename_i hb
        have hb' := hb
        rw [Nat.testBit_and, Bool.and_eq_true, z_un_bit P hy] at hb'
        rcases h1 y hy hb'.2 with rfl | h3
        · rw [e, hw.irr y hy] at hb'; cases hb'.1
        · rw [e] at hb'; rw [hw.asym ha hy h3] at hb'; cases hb'.1
      · omega)
    omega
  · rw [if_neg e]
    apply Nat.le_antisymm
    · refine z_mxn_le 9 (fun y hy => ?_)
      try dsimp only
      split
      · rename_i hc
        have hb := (hcond y hy).mp hc
        have := z_mxn_ge (f := fun y => if (z_un P x &&& W).testBit y then F y + 1 else 0) 9 hy
        try dsimp only at this
        rw [if_pos hb] at this
        rw [hv y hy hb]
        have e2 : z_hg P W F x = z_mxn (fun y => if (z_un P x &&& W).testBit y then F y + 1 else 0) 9 := rfl
        omega
      · omega
    · have hax : (z_ab P a).testBit x = true := by
        rcases h1 x hx hWx with h | h
        · exact absurd h e
        · exact h
      have hba : (z_un P x &&& W).testBit a = true := by rw [Nat.testBit_and, z_un_bit P ha, hax, haW]; rfl
      have hpos := z_mxn_ge (f := fun y => if (z_un P x &&& W).testBit y then F y + 1 else 0) 9 ha
      try dsimp only at hpos
      rw [if_pos hba] at hpos
      obtain ⟨y, hy, ey⟩ := z_mxn_at (f := fun y => if (z_un P x &&& W).testBit y then F y + 1 else 0) 9 (by omega)
      have e2 : z_hg P W F x = z_mxn (fun y => if (z_un P x &&& W).testBit y then F y + 1 else 0) 9 := rfl
      rw [e2, ey]
      rw [ey] at hpos
      try dsimp only at hpos ⊢
      by_cases hb : (z_un P x &&& W).testBit y = true
      · rw [if_pos hb, ← hv y hy hb]
        have := z_mxn_ge (f := fun y => if (z_un P x).testBit y = true ∧ 0 < z_hst P a y then z_hst P a y + 1 else 0) 9 hy
        try dsimp only at this
        rw [if_pos ((hcond y hy).mpr hb)] at this
        exact this
      · rw [if_neg hb] at hpos
        omega)
def z_ho (n : Nat) : Int32 := nI n - 1
theorem z_ho_neg : ∀ n, n < 12 → decide (z_ho n < 0) = decide (n = 0) := by decide +kernel
theorem z_ho_1 (n : Nat) : z_ho n + 1 = z_ho (n + 1) := by
  unfold z_ho
  rw [← nI_1]
  grind
theorem z_ho_le : ∀ m, m < 12 → ∀ n, n < 12 → decide (z_ho m ≤ z_ho n) = decide (m ≤ n) := by decide +kernel
theorem z_ho_s (n : Nat) : z_ho (n + 1) = nI n := nI_pred n
theorem z_hoN {n : Nat} (h : n < 12) : (z_ho n < 0) = (n = 0) := by
  have := z_ho_neg n h
  apply propext
  rw [← decide_eq_true_iff (p := z_ho n < 0), this, decide_eq_true_iff]
theorem z_hoL {m n : Nat} (h : m < 12) (h' : n < 12) : (z_ho m ≤ z_ho n) = (m ≤ n) := by
  have := z_ho_le m h n h'
  apply propext
  rw [← decide_eq_true_iff (p := z_ho m ≤ z_ho n), this, decide_eq_true_iff]
/-- the heights that lie there -/
def z_hR (w : z_M) (H : Nat → Nat) (v : z_M) : Prop := (∀ k, k ≠ 7 → v.1 k = w.1 k) ∧ ∀ x, x < 9 → v.1 7 x = z_ho (H x)
theorem s10_hstep (hr : z_rr (w.1 1) P) (hw : z_wf P) {a : Nat} (ha : a < 9) (ta : (z_th P).testBit a = true) {x y : Nat} (hx : x < 9) (hy : y < 9) {H : Nat → Nat} {v : z_M} (hR : z_hR w H v) (hs : ∀ z, z < 9 → H z ≤ z_hst P a z) {kb : (Int32 × z_M) → Option z_M} {kx : z_M → Option z_M} {Q : z_M → Prop} (c : Int32) (hk : ∀ v' H', z_hR w H' v' → (∀ z, z < 9 → H' z ≤ z_hst P a z) → (∀ z, z < 9 → H z ≤ H' z) → ((z_un P y).testBit x = true → 0 < H x → H x + 1 ≤ H' y) → z_ok (kb (nI (y + 1), v')) Q) : z_ok (b_X10_layHeights_49 c (nI x) (nI y, v) kb kx) Q := by
  have b9 := z_hst_9 hw a hx
  have b9y := z_hst_9 hw a hy
  have s1 := hs x hx
  have s2 := hs y hy
  have hno : ((z_un P y).testBit x = true → 0 < H x → H x + 1 ≤ H y) → z_ok (j_X10_layHeights_j112 c (nI x) (nI y) 0 v kb kx) Q := by
    intro h
    unfold j_X10_layHeights_j112
    rw [if_pos rfl, z_ok_gd, z_ok_gd, z_ok_lt]
    refine ⟨z_in9 hy, z_in9 hy, ?_⟩
    rw [z_1]
    refine hk _ H ⟨fun k hk => by rw [z_sI_ne hk]; exact hR.1 k hk, fun z hz => ?_⟩ hs (fun z _ => Nat.le_refl _) h
    simp only [z_sI_1, true_and, z_gI, z_c9 hy]
    by_cases e : y = z
    · subst e; rw [if_pos rfl]; exact hR.2 y hy
    · rw [if_neg e]; exact hR.2 z hz
  have hr1 : z_rr (v.1 1) P := by rw [hR.1 1 (by decide)]; exact hr
  unfold b_X10_layHeights_49 j_X10_layHeights_j111
  simp only [z_le9 hy, if_false, z_ok_gd, z_in9 hx, z_in9 hy, true_and, z_gI, z_c9 hx, z_c9 hy, hR.2 x hx, hR.2 y hy, z_ho_1, z_hoN (show H x < 12 by omega), z_hoL (show H x + 1 < 12 by omega) (show H y < 12 by omega), z_ok_ite, show z_inb 1 93 = true from rfl, z_c1, hr1.2.1, s_has (z_31 hw.th) hy, Option.bind_some, z_bi_0]
  refine ⟨fun h => hno (fun _ h1 => by omega), fun h => ⟨fun ty => hno (fun hb _ => ?_), fun ty => ?_⟩⟩
  · rw [z_un_bit P hx] at hb
    rw [(hw.in x y hx hy hb).2] at ty
    cases ty
  · have ty : (z_th P).testBit y = true := by simpa using ty
    have tx : (z_th P).testBit x = true := by
      rcases (z_hst_up hw ha x hx).mp (by omega) with rfl | h2
      · exact ta
      · exact (hw.in a x ha hx h2).2
    rw [s10_isBelowT hr1 hx hy tx ty, Option.bind_some, z_ok_bit]
    refine ⟨fun hb => hno (fun hb' _ => ?_), fun hb => ?_⟩
    · rw [z_un_bit P hx, hb] at hb'; cases hb'
    · simp only [z_gd, if_true]
      rw [z_ok_ite]
      refine ⟨fun hle => hno (fun _ _ => hle), fun hle => ?_⟩
      unfold j_X10_layHeights_j112
      rw [if_neg (by decide), z_ok_gd, z_ok_gd, z_ok_lt]
      refine ⟨z_in9 hx, z_in9 hy, ?_⟩
      rw [z_1]
      have hup := z_hst_lt hw ha hx hy (by omega) hb
      refine hk _ (fun z => if z = y then H x + 1 else H z) ⟨fun k hk => by rw [z_sI_ne hk]; exact hR.1 k hk, fun z hz => ?_⟩ (fun z hz => ?_) (fun z hz => ?_) (fun _ _ => by simp)
      · simp only [z_sI_1, true_and, z_gI, z_c9 hy, z_c9 hx, hR.2 x hx, z_ho_1]
        by_cases e : y = z
        · subst e; simp
        · rw [if_neg e, if_neg (Ne.symm e)]; exact hR.2 z hz
      · try dsimp only
        split
        · rename_i e; rw [e]; omega
        · exact hs z hz
      · try dsimp only
        split
        · rename_i e; rw [e]; omega
        · exact Nat.le_refl _
theorem s10_layHeights (hr : z_rr (w.1 1) P) (hw : z_wf P) {a : Nat} (ha : a < 9) (ta : (z_th P).testBit a = true) : z_ok (f_X10_layHeights (nI a) w) (fun w' => z_hR w (z_hst P a) w') := by
  unfold f_X10_layHeights
  refine z_ok_l9 (fun j q => q.1 = nI j ∧ (∀ k, k ≠ 7 → q.2.1 k = w.1 k) ∧ ∀ x, x < j → q.2.1 7 x = z_ho (z_hh P a 0 x)) ⟨rfl, fun _ _ => rfl, fun x hx => absurd hx (by omega)⟩ ?_ ?_
  · rintro j ⟨jj, v⟩ hi ⟨e1, e2, e3⟩ kb hk
    try dsimp only at e1 e2 e3
    subst e1
    unfold b_X10_layHeights_2
    have ea : (nI j = nI a) = (j = a) := z_eqI (by omega) (by omega)
    simp only [z_le9 hi, if_false, ea, z_ok_ite, z_ok_gd, z_in9 hi, true_and, z_ok_lt, z_c9 hi, z_1]
    refine ⟨fun h => hk _ ⟨rfl, fun k hk => ?_, fun x hx => ?_⟩, fun h => hk _ ⟨rfl, fun k hk => ?_, fun x hx => ?_⟩⟩
    · try dsimp only
      rw [z_sI_ne hk]; exact e2 k hk
    · simp only [z_sI_1, true_and]
      by_cases e : j = x
      · subst e; rw [if_pos rfl, z_hh, if_pos h]; rfl
      · rw [if_neg e]; exact e3 x (by omega)
    · try dsimp only
      rw [z_sI_ne hk]; exact e2 k hk
    · simp only [z_sI_1, true_and]
      by_cases e : j = x
      · subst e; rw [if_pos rfl, z_hh, if_neg h]; rfl
      · rw [if_neg e]; exact e3 x (by omega)
  · rintro ⟨jj, v0⟩ ⟨e1, e2, e3⟩ kb
    try dsimp only at e1 e2 e3
    subst e1
    unfold b_X10_layHeights_2
    simp only [z_99, if_true]
    have hmono : ∀ n x, x < 9 → z_hh P a n x ≤ z_hst P a x := by
      intro n
      induction n with
      | zero =>
        intro x hx
        rw [z_hh]
        split
        · rename_i e; rw [e, z_hst_a hw ha]; exact Nat.le_refl _
        · omega
      | succ n ih =>
        intro x hx
        rw [z_hh]
        split
        · rename_i e; rw [e, z_hst_a hw ha]; exact Nat.le_refl _
        · refine z_mxn_le 9 (fun y hy => ?_)
          try dsimp only
          split
          · rename_i hc
            have := ih y hy
            have := z_hst_lt hw ha hy hx (by omega) (by rw [← z_un_bit P hy]; exact hc.1)
            omega
          · omega
    refine z_ok_l9 (fun n q => q.1 = nI n ∧ ∃ H, z_hR w H q.2 ∧ (∀ z, z < 9 → H z ≤ z_hst P a z) ∧ ∀ z, z < 9 → z_hh P a n z ≤ H z) ⟨rfl, z_hh P a 0, ⟨e2, e3⟩, hmono 0, fun z _ => Nat.le_refl _⟩ ?_ ?_
    · rintro n ⟨nn, v⟩ hn ⟨f1, H, f2, f3, f4⟩ kb' hk
      try dsimp only at f1 f2
      subst f1
      unfold b_X10_layHeights_32
      simp only [z_le9 hn, if_false]
      refine z_ok_l9 (fun j q => q.1 = nI j ∧ ∃ H, z_hR w H q.2 ∧ (∀ z, z < 9 → H z ≤ z_hst P a z) ∧ (∀ z, z < 9 → z_hh P a n z ≤ H z) ∧ ∀ x, x < j → ∀ y, y < 9 → (z_un P y).testBit x = true → 0 < z_hh P a n x → z_hh P a n x + 1 ≤ H y) ⟨rfl, H, f2, f3, f4, fun x hx => absurd hx (by omega)⟩ ?_ ?_
      · rintro j ⟨jj, v1⟩ hj ⟨g1, H1, g2, g3, g4, g5⟩ kb1 hk1
        try dsimp only at g1 g2
        subst g1
        unfold b_X10_layHeights_40
        simp only [z_le9 hj, if_false]
        refine z_ok_l9 (fun i q => q.1 = nI i ∧ ∃ H, z_hR w H q.2 ∧ (∀ z, z < 9 → H z ≤ z_hst P a z) ∧ (∀ z, z < 9 → z_hh P a n z ≤ H z) ∧ (∀ x, x < j → ∀ y, y < 9 → (z_un P y).testBit x = true → 0 < z_hh P a n x → z_hh P a n x + 1 ≤ H y) ∧ ∀ y, y < i → (z_un P y).testBit j = true → 0 < z_hh P a n j → z_hh P a n j + 1 ≤ H y) ⟨rfl, H1, g2, g3, g4, g5, fun y hy => absurd hy (by omega)⟩ ?_ ?_
        · rintro i ⟨ii, v2⟩ hi ⟨m1, H2, m2, m3, m4, m5, m6⟩ kb2 hk2
          try dsimp only at m1 m2
          subst m1
          refine s10_hstep hr hw ha ta hj hi m2 m3 _ (fun v' H' q1 q2 q3 q4 => hk2 _ ⟨rfl, H', q1, q2, fun z hz => ?_, fun x hx y hy c1 c2 => ?_, fun y hy c1 c2 => ?_⟩)
          · have := m4 z hz
            have := q3 z hz
            omega
          · have := m5 x hx y hy c1 c2
            have := q3 y hy
            omega
          · by_cases e : y = i
            · subst e
              have := m4 j hj
              have := q4 c1 (by omega)
              omega
            · have := m6 y (by omega) c1 c2
              have := q3 y (by omega)
              omega
        · rintro ⟨ii, v2⟩ ⟨m1, H2, m2, m3, m4, m5, m6⟩ kb2
          try dsimp only at m1 m2
          subst m1
          unfold b_X10_layHeights_49
          simp only [z_99, if_true]
          rw [z_1]
          refine hk1 _ ⟨rfl, H2, m2, m3, m4, fun x hx y hy c1 c2 => ?_⟩
          by_cases e : x = j
          · subst e; exact m6 y hy c1 c2
          · exact m5 x (by omega) y hy c1 c2
      · rintro ⟨jj, v1⟩ ⟨g1, H1, g2, g3, g4, g5⟩ kb1
        try dsimp only at g1 g2
        subst g1
        unfold b_X10_layHeights_40
        simp only [z_99, if_true]
        rw [z_1]
        refine hk _ ⟨rfl, H1, g2, g3, fun z hz => ?_⟩
        rw [z_hh]
        split
        · rename_i e
          subst e
          have := g4 z hz
          have h1 : z_hh P z n z = 1 := by cases n <;> simp [z_hh]
          omega
        · refine z_mxn_le 9 (fun y hy => ?_)
          try dsimp only
          split
          · rename_i hc
            exact g5 y hy z hz hc.1 hc.2
          · omega
    · rintro ⟨nn, v⟩ ⟨f1, H, f2, f3, f4⟩ kb'
      try dsimp only at f1 f2
      subst f1
      unfold b_X10_layHeights_32
      simp only [z_99, if_true, z_ok_some]
      refine ⟨f2.1, fun x hx => ?_⟩
      rw [f2.2 x hx, Nat.le_antisymm (f3 x hx) (f4 x hx)]
/-! height -/
theorem z_htop (hw : z_wf P) {F : Nat → Nat} (hF : ∀ x, x < 9 → (z_th P).testBit x = true → F x = z_hg P (z_th P) F x) : ∀ x, x < 9 → (z_th P).testBit x = true → z_mxn (fun a => if (z_th P).testBit a then z_hst P a x - 1 else 0) 9 = F x := by
  have hst : ∀ x, x < 9 → ∀ y, y < 9 → (z_ab P y).testBit x = true → (z_un P x &&& z_th P).testBit y = true := fun x hx y hy h => by
    rw [Nat.testBit_and, z_un_bit P hy, h, (hw.in y x hy hx h).1]; rfl
  have hup : ∀ x, x < 9 → (z_th P).testBit x = true → ∀ a, a < 9 → z_hst P a x ≤ F x + 1 := z_wfi hw (fun x hx ih tx a ha => by
    rw [z_hst_eq hw a hx]
    split
    · omega
    · refine z_mxn_le 9 (fun y hy => ?_)
      try dsimp only
      split
      · rename_i hc
        have hl : (z_ab P y).testBit x = true := by rw [← z_un_bit P hy]; exact hc.1
        have h1 := ih y hy hl (hw.in y x hy hx hl).1 a ha
        have h2 := z_mxn_ge (f := fun y => if (z_un P x &&& z_th P).testBit y then F y + 1 else 0) 9 hy
        try dsimp only at h2
        rw [if_pos (hst x hx y hy hl)] at h2
        have h3 : F x = z_mxn (fun y => if (z_un P x &&& z_th P).testBit y then F y + 1 else 0) 9 := hF x hx tx
        omega
      · omega)
  have hlo : ∀ x, x < 9 → (z_th P).testBit x = true → ∃ a, a < 9 ∧ (z_th P).testBit a = true ∧ F x + 1 ≤ z_hst P a x := z_wfi hw (fun x hx ih tx => by
    by_cases h0 : F x = 0
    · exact ⟨x, hx, tx, by rw [h0, z_hst_a hw hx]; exact Nat.le_refl _⟩
    · have h3 : F x = z_mxn (fun y => if (z_un P x &&& z_th P).testBit y then F y + 1 else 0) 9 := hF x hx tx
      obtain ⟨y, hy, ey⟩ := z_mxn_at (f := fun y => if (z_un P x &&& z_th P).testBit y then F y + 1 else 0) 9 (by omega)
      rw [← h3] at ey
      try dsimp only at ey
      by_cases hb : (z_un P x &&& z_th P).testBit y = true
      · rw [if_pos hb] at ey
        rw [Nat.testBit_and, Bool.and_eq_true, z_un_bit P hy] at hb
        obtain ⟨a, a1, a2, a3⟩ := ih y hy hb.1 hb.2
        have := z_hst_lt hw a1 hy hx (by omega) hb.1
        exact ⟨a, a1, a2, by omega⟩
      · rw [if_neg hb] at ey
        omega)
  intro x hx tx
  apply Nat.le_antisymm
  · refine z_mxn_le 9 (fun a ha => ?_)
    try dsimp only
    split
    · have := hup x hx tx a ha
      omega
    · omega
  · obtain ⟨a, a1, a2, a3⟩ := hlo x hx tx
    have := z_mxn_ge (f := fun a => if (z_th P).testBit a then z_hst P a x - 1 else 0) 9 a1
    try dsimp only at this
    rw [if_pos a2] at this
    omega
theorem p_height : z_S_height z_Inv := by
  intro a1 u w hI
  refine z_rd2 hI (fun P hw hc hr pm => ?_)
  have hr' := z_rr0 hr 0
  unfold f_X9_height f_X10_height
  simp only [s6_has hc hw, s10_isThere hr' hw, Option.bind_some, z_bi_0, z_lt, z_gI, hc.2.1]
  cases h1 : z_is (z_th P) a1
  · exact ⟨-1, by simpa [z_ok_some] using z_eC.rf pm, by simpa [z_ok_some] using z_eR0 w⟩
  obtain ⟨x, hx, rfl, tx⟩ := z_is_ok h1
  obtain ⟨v, q1, q2, F, q3⟩ := s8_measure hc hw hw.th
  have hF := z_htop hw (fun x hx tx => (q3 x hx tx tx).2.2) x hx tx
  obtain ⟨f1, f2, f3⟩ := q3 x hx tx tx
  refine ⟨nI (F x), ?_, ?_⟩
  · simp only [Bool.true_eq_false, if_false, q1, Option.bind_some, z_ok_gd, z_in9 hx, z_ok_some, z_c9 hx, f1, true_and]
    exact ⟨fun i hi => q2 i (by omega) (by omega), by unfold z_pm; rw [q2 87 (by decide) (by decide)]; exact pm⟩
  · simp only [Bool.true_eq_false, if_false]
    refine z_ok_l9 (fun y q => q.1 = nI (z_mxn (fun a => if (z_th P).testBit a then z_hst P a x - 1 else 0) y) ∧ q.2.1 = nI y ∧ ∀ k, k ≠ 7 → q.2.2.1 k = (z_sI w 0 0 0).1 k) ⟨rfl, rfl, fun _ _ => rfl⟩ ?_ ?_
    · rintro y ⟨m, yy, v1⟩ hi ⟨e1, e2, e3⟩ kb hk
      try dsimp only at e1 e2 e3
      subst e1 e2
      have hr1 : z_rr (v1.1 1) P := by rw [e3 1 (by decide)]; exact hr'
      have hb : z_mxn (fun a => if (z_th P).testBit a then z_hst P a x - 1 else 0) y ≤ 9 := z_mxn_le y (fun k hk => by
        have := z_hst_9 hw k hx
        try dsimp only
        split <;> omega)
      unfold b_X10_height_19
      simp only [z_le9 hi, if_false, z_ok_gd, show z_inb 1 93 = true from rfl, true_and, z_gI, z_c1, hr1.2.1, s_has (z_31 hw.th) hi, Option.bind_some, z_ok_bit, z_1]
      refine ⟨fun h => hk _ ⟨?_, rfl, e3⟩, fun ty => ?_⟩
      · rw [z_mxn]
        simp [h]
      · obtain ⟨v2, g1, g2, g3⟩ := s10_layHeights hr1 hw hi ty
        have b9 := z_hst_9 hw y hx
        have e3' : ∀ k, k ≠ 7 → v2.1 k = (z_sI w 0 0 0).1 k := fun k hk => by rw [g2 k hk]; exact e3 k hk
        rw [g1, Option.bind_some, z_ok_gd]
        refine ⟨z_in9 hx, ?_⟩
        simp only [z_c9 hx, g3 x hx]
        rw [z_ok_ite, z_ok_gd]
        cases hh : z_hst P y x with
        | zero =>
          refine ⟨fun _ => hk _ ⟨?_, rfl, e3'⟩, fun hn => absurd ?_ hn⟩
          · rw [z_mxn]
            simp [hh]
          · rw [Int32.le_iff_toInt_le, nI_toInt (by omega)]
            have : (z_ho 0).toInt = -1 := by decide +kernel
            omega
        | succ h =>
          rw [z_ho_s, z_leI (by omega) (by omega), z_ok_lt]
          refine ⟨fun hle => hk _ ⟨?_, rfl, e3'⟩, fun hn => ⟨z_in9 hx, hk _ ⟨?_, rfl, e3'⟩⟩⟩
          · try dsimp only
            rw [z_mxn, if_neg]
            simp [ty, hh]
            omega
          · try dsimp only
            rw [z_mxn, if_pos]
            · simp [ty, hh]
            · simp [ty, hh]
              omega
    · rintro ⟨m, yy, v1⟩ ⟨e1, e2, e3⟩ kb
      try dsimp only at e1 e2 e3
      subst e1 e2
      unfold b_X10_height_19
      simp only [z_99, if_true, z_ok_some]
      refine ⟨by rw [hF], z_eR.tr (z_eR0 w) ⟨fun i i1 i2 i3 => e3 i (by omega), ?_, ?_, ?_, ?_⟩⟩ <;> rw [e3 0 (by decide)]
end
