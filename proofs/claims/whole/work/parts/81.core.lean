section
variable {u w : z_M} {P : z_P}
/-! The core: what is left, step by step. -/
def z_cr (P : z_P) : Nat → Nat
  | 0 => z_th P
  | n + 1 => if z_irr P (z_cr P n) = -1 then z_cr P n else z_rest (z_irr P (z_cr P n)).toNatClampNeg (z_cr P n)
theorem z_cr_s (P : z_P) (n : Nat) : z_cr P (n + 1) = if z_irr P (z_cr P n) = -1 then z_cr P n else z_rest (z_irr P (z_cr P n)).toNatClampNeg (z_cr P n) := rfl
theorem z_irr_ok {L : Nat} (h : z_irr P L ≠ -1) : ∃ x, x < 9 ∧ z_irr P L = nI x ∧ L.testBit x = true ∧ (z_pc (z_cvd P x L) = 1 ∨ z_pc (z_cov P x L) = 1) := by
  rcases z_fi_is (fun x => L.testBit x && (z_pc (z_cvd P x L) == 1 || z_pc (z_cov P x L) == 1)) (-1) with ⟨j, h1, h2, h3, h4⟩ | ⟨h1, h2⟩
  · refine ⟨j, h1, h4, ?_⟩
    simpa using h2
  · exact absurd h2 h
theorem z_en_in {s : Nat} {f : Nat → Nat} {k : Nat} (hk : k < 9) (h : (z_en s f).testBit k = true) : s.testBit k = true := by
  rw [z_en, z_mk_bit] at h
  simp at h
  exact h.2.1
theorem z_pc1_ex {a : Nat} (h : z_pc a = 1) : ∃ k, k < 9 ∧ a.testBit k = true := by
  refine Classical.byContradiction (fun hn => ?_)
  have h0 : ∀ k, k < 9 → a.testBit k = false := fun k hk => by
    cases hb : a.testBit k
    · rfl
    · exact (hn ⟨k, hk, hb⟩).elim
  unfold z_pc at h
  simp [h0] at h
theorem z_cr_ok (hw : z_wf P) (ht : z_th P ≠ 0) : ∀ n, z_cr P n < 512 ∧ z_cr P n ≠ 0 ∧ (∀ x, x < 9 → (z_cr P n).testBit x = true → (z_th P).testBit x = true)
  | 0 => ⟨hw.th, ht, fun _ _ h => h⟩
  | n + 1 => by
    obtain ⟨h1, h2, h3⟩ := z_cr_ok hw ht n
    rw [z_cr_s]
    by_cases h : z_irr P (z_cr P n) = -1
    · rw [if_pos h]; exact ⟨h1, h2, h3⟩
    · rw [if_neg h]
      obtain ⟨x, hx, e, hb, hc⟩ := z_irr_ok h
      rw [e, z_c9 hx]
      refine ⟨z_rest_lt h1, fun h0 => ?_, fun y hy hb2 => ?_⟩
      · have hex : ∃ y, y < 9 ∧ (z_cr P n).testBit y = true ∧ y ≠ x := by
          rcases hc with hc | hc
          · obtain ⟨y, hy, hb3⟩ := z_pc1_ex hc
            have hb4 := z_en_in hy hb3
            rw [Nat.testBit_and, Bool.and_eq_true, z_un_bit P hy] at hb4
            exact ⟨y, hy, hb4.2, fun e => by rw [e, hw.irr x hx] at hb4; cases hb4.1⟩
          · obtain ⟨y, hy, hb3⟩ := z_pc1_ex hc
            have hb4 := z_en_in hy hb3
            rw [Nat.testBit_and, Bool.and_eq_true] at hb4
            exact ⟨y, hy, hb4.2, fun e => by rw [e, hw.irr x hx] at hb4; cases hb4.1⟩
        obtain ⟨y, hy, hby, hne⟩ := hex
        have : (z_rest x (z_cr P n)).testBit y = true := by rw [z_rest_bit, hby]; simp [hne]
        rw [h0, Nat.zero_testBit] at this
        cases this
      · rw [z_rest_bit, Bool.and_eq_true] at hb2
        exact h3 y hy hb2.1
theorem z_cr_end (hw : z_wf P) (ht : z_th P ≠ 0) : ∃ N, N < 9 ∧ z_irr P (z_cr P N) = -1 ∧ ∀ k, k < N → z_irr P (z_cr P k) ≠ -1 := by
  have hex : ∃ n, n < 9 ∧ z_irr P (z_cr P n) = -1 := by
    refine Classical.byContradiction (fun hn => ?_)
    have key : ∀ n, n ≤ 9 → z_pc (z_cr P n) + n = z_pc (z_th P) := by
      intro n
      induction n with
      | zero => intro _; rfl
      | succ n ih =>
        intro hn9
        have hne : z_irr P (z_cr P n) ≠ -1 := fun e => hn ⟨n, by omega, e⟩
        obtain ⟨x, hx, e, hb, -⟩ := z_irr_ok hne
        rw [z_cr_s, if_neg hne, e, z_c9 hx]
        have := z_pc_rest hx hb
        have := ih (by omega)
        omega
    have h9 := key 9 (Nat.le_refl _)
    have := z_pc_le (z_th P)
    obtain ⟨h1, h2, -⟩ := z_cr_ok hw ht 9
    exact h2 (z_pc_eq0 h1 (by omega))
  obtain ⟨N, h1, h2, h3⟩ := fb_first (p := fun n => z_irr P (z_cr P n) = -1) hex
  exact ⟨N, h1, h2, h3⟩
/-- what the answer is -/
def z_coA (P : z_P) (N : Nat) (i : Int32) : Int32 := if i = -1 then nI (z_pc (z_cr P N)) else if i.toNatClampNeg < N then z_irr P (z_cr P i.toNatClampNeg) else -2
theorem s9_core (hr : z_rc u 0 P) (hw : z_wf P) (ht : 0 < z_td P) {N : Nat} (h1 : N < 9) (h2 : z_irr P (z_cr P N) = -1) (h3 : ∀ k, k < N → z_irr P (z_cr P k) ≠ -1) (i : Int32) (hi : -1 ≤ i) : f_X9_core i u = some (z_coA P N i) := by
  have hth := hw.2.2.2.1 ht
  rw [← z_ok_eq]
  unfold f_X9_core
  rw [s9_isOrder hr hw, Option.bind_some, if_neg (by simp [ht, z_bi]), if_pos hi, z_ok_lt, z_gI, hr.2.1]
  have hcase : i = -1 ∨ ∃ m, m < 2 ^ 31 ∧ i = nI m := by
    by_cases h : i < 0
    · left
      rw [Int32.lt_iff_toInt_lt] at h
      rw [Int32.le_iff_toInt_le] at hi
      have e0 : (0 : Int32).toInt = 0 := rfl
      have e1 : (-1 : Int32).toInt = -1 := rfl
      apply Int32.toInt_inj.mp
      omega
    · right
      exact nI_of h
  refine z_ok_lp (fun k q => q = (nI (z_cr P k), nI k) ∧ (∀ m, i = nI m → m < 2 ^ 31 → k ≤ m ∨ N ≤ m)) N (z_F_lt (by omega)) ⟨rfl, fun m _ _ => by omega⟩ ?_ ?_
  · rintro k q hk ⟨rfl, hm⟩ kb hkb
    obtain ⟨c1, c2, c3⟩ := z_cr_ok hw hth k
    obtain ⟨x, hx, ex, hb, -⟩ := z_irr_ok (h3 k hk)
    unfold b_X9_core_25
    try dsimp only
    rw [if_neg (show ¬ (9 : Int32) ≤ nI k by rw [z_le9 (show k < 9 by omega)]; exact id), s6_leastIrreducible hr hw c1 c3, Option.bind_some, if_neg (h3 k hk), ex, z_ok_ite, z_ok_some, z_ok_lt]
    refine ⟨fun e => ?_, fun e => hkb _ ⟨?_, fun m hm2 hm3 => ?_⟩⟩
    · rw [← e]
      unfold z_coA
      rw [if_neg (z_nI9m k (by omega)), z_cl (by omega), if_pos hk, ex]
    · rw [z_cr_s, if_neg (h3 k hk), ex, z_c9 hx, z_sh hx, z_andc, z_1]
      rfl
    · rcases hm m hm2 hm3 with h | h
      · have : k ≠ m := by rintro rfl; exact e hm2.symm
        omega
      · exact Or.inr h
  · rintro q ⟨rfl, hm⟩ kb
    obtain ⟨c1, c2, c3⟩ := z_cr_ok hw hth N
    unfold b_X9_core_25
    try dsimp only
    rw [if_neg (show ¬ (9 : Int32) ≤ nI N by rw [z_le9 h1]; exact id), s6_leastIrreducible hr hw c1 c3, Option.bind_some, if_pos h2, s_bitc c1, z_ok_ite, z_ok_some, z_ok_some]
    refine ⟨fun e => by unfold z_coA; rw [if_pos e], fun e => ?_⟩
    rcases hcase with h | ⟨m, hm1, rfl⟩
    · exact absurd h e
    · unfold z_coA
      have := hm m rfl hm1
      rw [if_neg e, z_cl hm1, if_neg (by omega)]
/-! the reference's -/
def z_Pr (P : z_P) (L : Nat) : z_P := (z_td P, L, z_ru P, fun x => if L.testBit x then z_ab P x &&& L else 0, z_tg P)
theorem z_Pr_ab (P : z_P) (L x : Nat) : z_ab (z_Pr P L) x = if L.testBit x then z_ab P x &&& L else 0 := rfl
theorem z_Pr_bit (P : z_P) (L x k : Nat) : (z_ab (z_Pr P L) x).testBit k = (L.testBit x && (z_ab P x).testBit k && L.testBit k) := by
  rw [z_Pr_ab]
  cases L.testBit x <;> simp
theorem z_Pr_wf (hw : z_wf P) {L : Nat} (hL : L < 512) (h0 : L ≠ 0) (hLt : ∀ x, x < 9 → L.testBit x = true → (z_th P).testBit x = true) : z_wf (z_Pr P L) := by
  refine ⟨hw.1, hL, fun x hx h => hw.2.2.1 x hx (hLt x hx h), fun _ => h0, hw.2.2.2.2.1, fun x hx => ?_, fun x y hx hy h => ?_, fun x hx => ?_, fun x y t hx hy hte h h' => ?_⟩
  · rw [z_Pr_ab]
    split
    · exact z_and_lt _ (hw.ab x hx)
    · decide
  · rw [z_Pr_bit, Bool.and_eq_true, Bool.and_eq_true] at h
    exact ⟨h.1.1, h.2⟩
  · rw [z_Pr_bit, hw.irr x hx]
    simp
  · rw [z_Pr_bit, Bool.and_eq_true, Bool.and_eq_true] at h h' ⊢
    exact ⟨⟨h.1.1, hw.tr x y t hx hy hte h.1.2 h'.1.2⟩, h'.2⟩
theorem z_Pr_rr {f g : Nat → Int32} (hr : z_rr f P) {L : Nat} (hLt : ∀ x, x < 9 → L.testBit x = true → (z_th P).testBit x = true) (hL : L < 512) (h1 : g 1 = nI L) (h2 : ∀ k, k ≠ 1 → g k = f k) : z_rr g (z_Pr P L) := by
  have hrv : ∀ x, z_rv g x = z_rv f x := fun x => by unfold z_rv; rw [h2 _ (by omega)]
  refine ⟨by rw [h2 0 (by decide)]; exact hr.1, h1, by rw [h2 2 (by decide)]; exact hr.2.2.1, fun x hx => ?_, fun k hk => by rw [h2 _ (by omega)]; exact hr.2.2.2.2 k hk⟩
  rw [hrv, h2 _ (by omega)]
  obtain ⟨c1, c2, c3⟩ := hr.2.2.2.1 x hx
  refine ⟨c1, c2, fun hx' => ?_⟩
  have hx' : L.testBit x = true := hx'
  rw [z_Pr_ab, if_pos hx', ← c3 (hLt x hx hx')]
  refine z_ext (z_and_lt _ c2) (z_and_lt _ (z_and_lt _ c2)) (fun k hk => ?_)
  show (z_rv f x &&& L).testBit k = _
  rw [Nat.testBit_and, Nat.testBit_and, Nat.testBit_and]
  cases hk2 : L.testBit k
  · simp
  · rw [hLt k hk hk2]; simp
theorem z_en_cg {s : Nat} {f g : Nat → Nat} (h : ∀ y, y < 9 → s.testBit y = true → s &&& f y = s &&& g y) : z_en s f = z_en s g := z_mk_cg (fun y hy => by
  cases hb : s.testBit y
  · rfl
  · rw [h y hy hb])
theorem z_Pr_cov {L x : Nat} (hL : L < 512) (hx : L.testBit x = true) : z_cov (z_Pr P L) x L = z_cov P x L := by
  have e : z_ab (z_Pr P L) x &&& L = z_ab P x &&& L := by
    rw [z_Pr_ab, if_pos hx, Nat.and_assoc, Nat.and_self]
  unfold z_cov
  rw [e]
  refine z_en_cg (fun y hy hb => ?_)
  rw [Nat.testBit_and, Bool.and_eq_true] at hb
  apply Nat.eq_of_testBit_eq
  intro k
  simp only [Nat.testBit_and]
  by_cases hk : k < 9
  · rw [z_un_bit _ hk, z_un_bit _ hk, z_Pr_bit, hb.2]
    cases L.testBit k <;> simp
  · rw [z_hi (z_un_lt (z_Pr P L) y) (show 9 ≤ k by omega), z_hi (z_un_lt P y) (show 9 ≤ k by omega)]
theorem z_Pr_cvd (hw : z_wf P) {L x : Nat} (hL : L < 512) (hx9 : x < 9) (hx : L.testBit x = true) : z_cvd (z_Pr P L) x L = z_cvd P x L := by
  have e : z_un (z_Pr P L) x &&& L = z_un P x &&& L := z_ext (z_and_lt _ (z_un_lt _ _)) (z_and_lt _ (z_un_lt _ _)) (fun k hk => by
    rw [Nat.testBit_and, Nat.testBit_and, z_un_bit _ hk, z_un_bit _ hk, z_Pr_bit, hx]
    cases L.testBit k <;> simp)
  unfold z_cvd
  rw [e]
  refine z_en_cg (fun y hy hb => ?_)
  rw [Nat.testBit_and, Bool.and_eq_true] at hb
  apply Nat.eq_of_testBit_eq
  intro k
  simp only [Nat.testBit_and, z_Pr_bit]
  rw [hb.2]
  cases L.testBit k <;> simp
theorem z_srch2 {β : Type} {b : Int32 → (Int32 → Option β) → (Int32 → Option β) → Option β} {kx : Int32 → Option β} (p : Nat → Bool) (hs : ∀ i, i < 9 → ∀ kb, b (nI i) kb kx = if p i then kx (nI i) else kb (nI (i + 1))) (he : ∀ kb, b (nI 9) kb kx = kx (nI 9)) : z_lp b z_F 0 kx = kx (z_fi p (nI 9)) := by
  have key : ∀ k n, n + k = 9 → ∀ F, k < F → z_lp b F (nI n) kx = kx (z_ff p (nI 9) n k) := by
    intro k
    induction k with
    | zero =>
      intro n hn F hF
      match F, hF with
      | F + 1, _ =>
        show b (nI n) _ kx = _
        rw [show n = 9 by omega, he]
        rfl
    | succ k ih =>
      intro n hn F hF
      match F, hF with
      | F + 1, hF =>
        show b (nI n) (fun q' => z_lp b F q' kx) kx = _
        rw [hs n (by omega)]
        cases hp : p n with
        | true => simp [z_ff, hp]
        | false =>
          simp only [Bool.false_eq_true, if_false, z_ff, hp]
          exact ih (n + 1) (by omega) F (by omega)
  exact key 9 0 rfl z_F z_9F
theorem s10_core_in {v : z_M} {L : Nat} (hr : z_rr (v.1 1) (z_Pr P L)) (hw : z_wf P) (hw' : z_wf (z_Pr P L)) (hL : L < 512) (a b c d : Int32) (kx : Int32 → Option (Int32 × z_M)) : z_lp (b_X10_core_44 a b c d v) z_F 0 kx = kx (if z_irr P L = -1 then nI 9 else z_irr P L) := by
  have h := z_srch2 (b := b_X10_core_44 a b c d v) (kx := kx) (fun x => L.testBit x && (z_pc (z_cvd P x L) == 1 || z_pc (z_cov P x L) == 1)) (fun i hi kb => ?_) (fun kb => ?_)
  · rw [h]
    congr 1
    rcases z_fi_is (fun x => L.testBit x && (z_pc (z_cvd P x L) == 1 || z_pc (z_cov P x L) == 1)) (nI 9) with ⟨j, h1, h2, h3, h4⟩ | ⟨h1, h2⟩
    · rcases z_fi_is (fun x => L.testBit x && (z_pc (z_cvd P x L) == 1 || z_pc (z_cov P x L) == 1)) (-1) with ⟨j', g1, g2, g3, g4⟩ | ⟨g1, g2⟩
      · have ej : j = j' := by
          rcases Nat.lt_trichotomy j j' with hh | hh | hh
          · rw [g3 j hh] at h2; cases h2
          · exact hh
          · rw [h3 j' hh] at g2; cases g2
        have e1 : z_irr P L = nI j' := g4
        rw [h4, e1, if_neg (z_nI9m j' g1), ej]
      · rw [g1 j h1] at h2; cases h2
    · have e1 : z_irr P L = -1 := by
        rcases z_fi_is (fun x => L.testBit x && (z_pc (z_cvd P x L) == 1 || z_pc (z_cov P x L) == 1)) (-1) with ⟨j', g1, g2, g3, g4⟩ | ⟨g1, g2⟩
        · rw [h1 j' g1] at g2; cases g2
        · exact g2
      rw [h2, e1, if_pos rfl]
  · have h1 : v.1 1 1 = nI L := hr.2.1
    unfold b_X10_core_44
    simp only [z_le9 hi, if_false, show z_inb 1 93 = true from rfl, z_gd, if_true, z_gI, z_c1, h1, s_has (z_31 hL) hi, Option.bind_some, z_bi_0, z_1]
    cases hb : L.testBit i
    · simp
    · have eC : f_X10_coverers (nI i) v = some (nI (z_cov P i L)) := by rw [s10_coverers hr hw' hi hb]; exact congrArg (fun t => some (nI t)) (z_Pr_cov hL hb)
      have eD : f_X10_covered (nI i) v = some (nI (z_cvd P i L)) := by rw [s10_covered hr hw' hi hb]; exact congrArg (fun t => some (nI t)) (z_Pr_cvd hw hL hi hb)
      simp only [Bool.true_eq_false, if_false, eC, eD, Option.bind_some, s_bits (show z_cov P i L < 512 from z_en_lt _ _), s_bits (show z_cvd P i L < 512 from z_en_lt _ _), z_pc1, Bool.true_and]
      by_cases g1 : z_pc (z_cov P i L) = 1
      · simp [g1]
      · by_cases g2 : z_pc (z_cvd P i L) = 1
        · simp [g1, g2]
        · simp [g1, g2]
  · unfold b_X10_core_44
    simp only [z_99, if_true]
theorem s10_core (hr : z_rr (w.1 1) P) (hw : z_wf P) (ht : 0 < z_td P) {N : Nat} (h1 : N < 9) (h2 : z_irr P (z_cr P N) = -1) (h3 : ∀ k, k < N → z_irr P (z_cr P k) ≠ -1) (i : Int32) (hi : -1 ≤ i) : z_ok (f_X10_core i w) (fun q => q.1 = z_coA P N i ∧ ∀ k, q.2.1 k = (z_sI w 0 0 0).1 k) := by
  have hth := hw.2.2.2.1 ht
  have hr' := z_rr0 hr 0
  have e1 : (z_sI w 0 0 0).1 1 1 = nI (z_th P) := hr'.2.1
  have hcase : i = -1 ∨ ∃ m, m < 2 ^ 31 ∧ i = nI m := by
    by_cases h : i < 0
    · left
      rw [Int32.lt_iff_toInt_lt] at h
      rw [Int32.le_iff_toInt_le] at hi
      have e0 : (0 : Int32).toInt = 0 := rfl
      have e1 : (-1 : Int32).toInt = -1 := rfl
      apply Int32.toInt_inj.mp
      omega
    · right
      exact nI_of h
  unfold f_X10_core
  rw [z_ok_lt, s10_isTold hr' hw, Option.bind_some, if_neg (by simp [ht, z_bi]), if_pos hi, z_ok_gd, z_ok_lt, z_gI, z_c1, e1]
  refine ⟨rfl, ?_⟩
  refine z_ok_lp (fun k q => (∀ j, j ≠ 1 → q.2.2.2.1 j = (z_sI w 0 0 0).1 j) ∧ (∀ j, j ≠ 1 → q.2.2.2.1 1 j = (z_sI w 0 0 0).1 1 j) ∧ (k ≤ N → q.2.1 = nI k ∧ q.2.2.1 = 1 ∧ q.2.2.2.1 1 1 = nI (z_cr P k)) ∧ (k = N + 1 → q.2.2.1 = 0 ∧ q.2.2.2.1 1 1 = nI (z_cr P N)) ∧ q.1 = (if ∃ m, m < min k N ∧ i = nI m then z_irr P (z_cr P i.toNatClampNeg) else -2)) (N + 1) (z_F_lt (by omega)) ⟨fun _ _ => rfl, fun _ _ => rfl, fun _ => ⟨rfl, rfl, e1⟩, fun h => absurd h (by omega), ?_⟩ ?_ ?_
  · rw [if_neg]
    rintro ⟨m, hm, -⟩
    omega
  · rintro k ⟨it, n, mo, v⟩ hk ⟨g1, g2, g3, -, g5⟩ kb hkb
    dsimp only at g1 g2 g3 g5
    obtain ⟨f1, f2, f3⟩ := g3 (by omega)
    subst f1 f2
    obtain ⟨c1, c2, c3⟩ := z_cr_ok hw hth k
    have hrv : z_rr (v.1 1) (z_Pr P (z_cr P k)) := z_Pr_rr hr' c3 c1 f3 g2
    have hwv := z_Pr_wf hw c1 c2 c3
    unfold b_X10_core_36
    try dsimp only
    rw [if_neg (show ¬ (1 : Int32) = 0 by decide), s10_core_in hrv hw hwv c1]
    by_cases hkN : k = N
    · subst hkN
      rw [if_pos h2, if_pos (by decide)]
      unfold j_X10_core_j109
      rw [if_pos rfl]
      refine hkb _ ⟨g1, g2, fun h => absurd h (by omega), fun _ => ⟨rfl, f3⟩, ?_⟩
      rw [g5]
      have : min k k = min (k + 1) k := by omega
      rw [this]
    · obtain ⟨x, hx, ex, hb, -⟩ := z_irr_ok (h3 k (by omega))
      have hcr : z_cr P (k + 1) = z_rest x (z_cr P k) := by rw [z_cr_s, if_neg (h3 k (by omega)), ex, z_c9 hx]
      rw [if_neg (h3 k (by omega)), ex, if_neg (show ¬ (9 : Int32) ≤ nI x by rw [z_le9 hx]; exact id)]
      have exr : nI (z_cr P k) ^^^ nI (2 ^ x) = nI (z_cr P (k + 1)) := by
        rw [z_xor, hcr]
        congr 1
        apply Nat.eq_of_testBit_eq
        intro j
        rw [Nat.testBit_xor, z_rest_bit, Nat.testBit_two_pow]
        by_cases hj : x = j
        · subst hj; simp [hb]
        · have : ¬ j = x := fun e => hj e.symm
          simp [hj, this]
      have hgo : ∀ it' : Int32, it' = (if ∃ m, m < min (k + 1) N ∧ i = nI m then z_irr P (z_cr P i.toNatClampNeg) else -2) → z_ok (j_X10_core_j128 i (nI (z_th P)) (nI k) 1 (nI x) it' v kb (fun t25 => z_gd (z_inb 1 93) (Option.bind (f_X10_bits (z_gI t25.2 1 (1 : Int32).toNatClampNeg)) (fun r27 => z_gd (z_inb 1 93) (z_lt (z_sI t25.2 1 (1 : Int32).toNatClampNeg (nI (z_th P))) (fun u29 => if i = (-1) then (some (r27, u29)) else (some (t25.1, u29)))))))) (fun q => q.1 = z_coA P N i ∧ ∀ k, q.2.1 k = (z_sI w 0 0 0).1 k) := by
        intro it' hit
        unfold j_X10_core_j128
        rw [z_ok_gd, z_ok_gd, z_ok_lt, z_gI, z_c1, f3, z_sh hx, exr, z_1]
        refine ⟨rfl, rfl, hkb _ ⟨fun j hj => ?_, fun j hj => ?_, fun _ => ⟨rfl, rfl, ?_⟩, fun h => absurd h (by omega), hit⟩⟩
        · try dsimp only
          rw [z_sI_ne hj]; exact g1 j hj
        · try dsimp only
          rw [z_sI_1, if_neg (fun h => hj h.2.symm)]; exact g2 j hj
        · try dsimp only
          rw [z_sI_1, if_pos ⟨rfl, rfl⟩]
      unfold j_X10_core_j109
      rw [if_neg (show ¬ (1 : Int32) = 0 by decide), z_ok_ite]
      refine ⟨fun e => hgo _ ?_, fun e => hgo _ ?_⟩
      · rw [if_pos ⟨k, by omega, e.symm⟩, ← e, z_cl (by omega), ex]
      · rw [g5]
        have : (∃ m, m < min k N ∧ i = nI m) = (∃ m, m < min (k + 1) N ∧ i = nI m) := by
          apply propext
          constructor
          · rintro ⟨m, hm, e2⟩
            exact ⟨m, by omega, e2⟩
          · rintro ⟨m, hm, e2⟩
            have : m ≠ k := by rintro rfl; exact e e2.symm
            exact ⟨m, by omega, e2⟩
        simp only [this]
  · rintro ⟨it, n, mo, v⟩ ⟨g1, g2, -, g4, g5⟩ kb
    dsimp only at g1 g2 g4 g5
    obtain ⟨f1, f2⟩ := g4 rfl
    subst f1
    obtain ⟨c1, c2, c3⟩ := z_cr_ok hw hth N
    unfold b_X10_core_36
    try dsimp only
    rw [if_pos rfl, z_ok_gd, z_gI, f2, s_bits c1, Option.bind_some, z_ok_gd, z_ok_lt, z_ok_ite, z_ok_some, z_ok_some]
    have hend : ∀ k, (z_sI v 1 1 (nI (z_th P))).1 k = (z_sI w 0 0 0).1 k := by
      intro k
      by_cases hk : k = 1
      · subst hk
        funext j
        rw [z_sI_1]
        by_cases hj : j = 1
        · subst hj; rw [if_pos ⟨rfl, rfl⟩, e1]
        · rw [if_neg (fun h => hj h.2.symm)]; exact g2 j hj
      · rw [z_sI_ne hk]; exact g1 k hk
    refine ⟨rfl, rfl, fun e => ⟨?_, hend⟩, fun e => ⟨?_, hend⟩⟩
    · unfold z_coA; rw [if_pos e]
    · rcases hcase with h | ⟨m, hm1, rfl⟩
      · exact absurd h e
      · unfold z_coA
        rw [g5, if_neg e, z_cl hm1]
        by_cases hmN : m < N
        · rw [if_pos ⟨m, by omega, rfl⟩, if_pos hmN]
        · rw [if_neg, if_neg hmN]
          rintro ⟨m', hm', e2⟩
          have := (nI_eq hm1 (by omega)).mp e2
          omega
theorem p_core : z_S_core z_Inv := by
  intro a1 u w hI
  refine z_rd hI (fun P hw hc hr => ?_)
  have hr' := z_rr0 hr 0
  by_cases ht : 0 < z_td P
  · by_cases hi : -1 ≤ a1
    · obtain ⟨N, h1, h2, h3⟩ := z_cr_end hw (hw.2.2.2.1 ht)
      refine ⟨z_coA P N a1, s9_core hc hw ht h1 h2 h3 a1 hi, ?_⟩
      refine z_ok_mono (s10_core hr hw ht h1 h2 h3 a1 hi) (fun q hq => ⟨hq.1, z_eR.tr (z_eR0 w) (z_eR.of (fun k _ => hq.2 k))⟩)
    · refine ⟨-3, ?_, ?_⟩
      · unfold f_X9_core
        rw [s9_isOrder hc hw, Option.bind_some, if_neg (by simp [ht, z_bi]), if_neg hi]
      · unfold f_X10_core
        rw [z_ok_lt, s10_isTold hr' hw, Option.bind_some, if_neg (by simp [ht, z_bi]), if_neg hi, z_ok_some]
        exact ⟨rfl, z_eR0 w⟩
  · refine ⟨-3, ?_, ?_⟩
    · unfold f_X9_core
      rw [s9_isOrder hc hw, Option.bind_some, if_pos (by simp [ht, z_bi])]
    · unfold f_X10_core
      rw [z_ok_lt, s10_isTold hr' hw, Option.bind_some, if_pos (by simp [ht, z_bi]), z_ok_some]
      exact ⟨rfl, z_eR0 w⟩
end
