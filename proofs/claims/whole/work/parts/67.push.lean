section
theorem z_mulI (a b : Nat) : nI a * nI b = nI (a * b) := (Int32.ofNat_mul a b).symm
theorem z_addI (a b : Nat) : nI a + nI b = nI (a + b) := nI_add a b
theorem z_93 (n : Nat) : (93 : Int32) * nI n = nI (93 * n) := z_mulI 93 n
theorem z_inb' {k n : Nat} (h : k < n) (hn : n < 2 ^ 31) : z_inb (nI k) n = true := z_inb_nI h hn
theorem s6_copy (u : z_M) (i j : Nat) (hij : i + 4 ≤ j ∨ j + 4 ≤ i) : ∃ u', f_X6_copy i j u = some u' ∧ (∀ k, (k < i ∨ i + 4 ≤ k) → u'.1 k = u.1 k) ∧ ∀ P, z_rc u j P → z_rc u' i P := by
  refine ⟨_, rfl, fun k hk => ?_, fun P hr => ?_⟩
  · rw [z_sA_ne (by omega), z_sA_ne (by omega), z_sA_ne (by omega), z_sI_ne (by omega), z_sI_ne (by omega), z_sI_ne (by omega)]
  · obtain ⟨h1, h2, h3, h4, h5, h6⟩ := hr
    have e0 : ¬ i = j := by omega
    refine ⟨?_, ?_, ?_, fun x hx => ?_, fun x hx => ?_, fun x hx => ?_⟩
    · rw [z_sA_ne (by omega), z_sA_ne (by omega), z_sA_ne (by omega)]
      simp [z_sI_1, z_gI, h1]
    · rw [z_sA_ne (by omega), z_sA_ne (by omega), z_sA_ne (by omega)]
      simp [z_sI_1, z_gI, h2, e0]
    · rw [z_sA_ne (by omega), z_sA_ne (by omega), z_sA_ne (by omega)]
      simp [z_sI_1, z_gI, h3, e0]
    · rw [z_sA_ne (by omega), z_sA_ne (by omega), z_sA_eq]
      simp only [va_cpy, Nat.zero_le, true_and, Nat.zero_add, hx, if_true, Nat.sub_zero]
      rw [z_sI_ne (by omega), z_sI_ne (by omega), z_sI_ne (by omega)]
      exact h4 x hx
    · rw [z_sA_ne (by omega), z_sA_eq]
      simp only [va_cpy, Nat.zero_le, true_and, Nat.zero_add, hx, if_true, Nat.sub_zero]
      rw [z_sA_ne (by omega), z_sI_ne (by omega), z_sI_ne (by omega), z_sI_ne (by omega)]
      exact h5 x hx
    · rw [z_sA_eq]
      simp only [va_cpy, Nat.zero_le, true_and, Nat.zero_add, hx, if_true, Nat.sub_zero]
      rw [z_sA_ne (by omega), z_sA_ne (by omega), z_sI_ne (by omega), z_sI_ne (by omega), z_sI_ne (by omega)]
      exact h6 x hx
/-- where the ring goes on -/
def z_nx (x : Nat) : Nat := if x = 15 then 0 else x + 1
def z_nn (n : Nat) : Nat := if n = 16 then 16 else n + 1
theorem s5_push {u : z_M} {n x : Nat} (hn : n ≤ 16) (hx : x < 16) (h1 : u.1 83 1 = nI x) (h2 : u.1 83 2 = nI n) : ∃ u', f_X5_push 0 u = some u' ∧ (∀ k, k ≠ 83 → (k < 16 + 4 * x ∨ 16 + 4 * x + 4 ≤ k) → u'.1 k = u.1 k) ∧ (∀ P, z_rc u 0 P → z_rc u' (16 + 4 * x) P) ∧ u'.1 83 1 = nI (z_nx x) ∧ u'.1 83 2 = nI (z_nn n) := by
  obtain ⟨v, v1, v2, v3⟩ := s6_copy u (16 + 4 * x) 0 (by omega)
  have e83 : v.1 83 = u.1 83 := v2 83 (by omega)
  have hc : (nI x).toNatClampNeg = x := z_cl (by omega)
  have hmin : (if (16 : Int32) < nI n + 1 then (16 : Int32) else nI n + 1) = nI (z_nn n) := (by decide +kernel : ∀ n, n < 17 → (if (16 : Int32) < nI n + 1 then (16 : Int32) else nI n + 1) = nI (z_nn n)) n (by omega)
  have hnx : (((16 : Int32) ≤ nI x + 1) = (x = 15)) := by
    have := (by decide +kernel : ∀ x, x < 16 → decide ((16 : Int32) ≤ nI x + 1) = decide (x = 15)) x hx
    apply propext
    rw [← decide_eq_true_iff (p := (16 : Int32) ≤ nI x + 1), this, decide_eq_true_iff]
  unfold f_X5_push
  simp only [z_gI, h1, z_inb_nI hx (by decide), z_gd, if_true, hc, v1, Option.bind_some, z_lt, e83, hnx]
  by_cases h15 : x = 15
  · subst h15
    refine ⟨_, by rw [if_pos rfl], fun k k1 k2 => ?_, fun P hP => ?_, ?_, ?_⟩
    · rw [z_sI_ne k1, z_sI_ne k1]
      exact v2 k k2
    · exact z_rc_cg (fun j hj => by rw [z_sI_ne (by omega), z_sI_ne (by omega)]) (v3 P hP)
    · simp [z_sI_1, z_nx, nI_0]
    · simp only [z_sI_1, true_and, show (1 : Nat) = 2 ↔ False by decide, if_false, if_true, e83, h2, hmin]
  · refine ⟨_, by rw [if_neg h15], fun k k1 k2 => ?_, fun P hP => ?_, ?_, ?_⟩
    · rw [z_sI_ne k1, z_sI_ne k1]
      exact v2 k k2
    · exact z_rc_cg (fun j hj => by rw [z_sI_ne (by omega), z_sI_ne (by omega)]) (v3 P hP)
    · simp [z_sI_1, z_nx, h15, z_1]
    · simp only [z_sI_1, true_and, show (1 : Nat) = 2 ↔ False by decide, if_false, if_true, e83, h2, hmin]
theorem s10_rem55 {w : z_M} {m : Nat} (hm : m ≤ 15) (h4 : w.1 0 4 = nI m) {kx : z_M → Option z_M} {Q : z_M → Prop} (h : ∀ t : z_M, (∀ i, i ≠ 3 → t.1 i = w.1 i) → (∀ k, k < 93 → t.1 3 (93 * m + k) = w.1 1 k) → (∀ k, k < 93 * m → t.1 3 k = w.1 3 k) → z_ok (kx t) Q) : z_ok (z_lp b_X10_remember_55 z_F (0, w) kx) Q := by
  refine z_ok_lp (fun i q => q.1 = nI i ∧ (∀ p, p ≠ 3 → q.2.1 p = w.1 p) ∧ (∀ k, k < i → q.2.1 3 (93 * m + k) = w.1 1 k) ∧ ∀ k, k < 93 * m → q.2.1 3 k = w.1 3 k) 93 (by decide) ⟨rfl, fun _ _ => rfl, fun k hk => absurd hk (by omega), fun _ _ => rfl⟩ ?_ ?_
  · rintro i ⟨a, v⟩ hi ⟨e1, e2, e3, e4⟩ kb hk
    dsimp only at e1 e2 e3 e4
    subst e1
    unfold b_X10_remember_55
    have c1 : ((93 : Int32) ≤ nI i) = False := eq_false (nI_ge (a := i) (b := 93) hi (by decide))
    simp only [c1, if_false, if_true, Option.bind_some, z_ok_gd, z_ok_lt, z_ok_some, z_ok_ite, z_ok_bind, z_ok_b2, z_bi_0, Bool.not_eq_false, z_gI, z_and, z_or, z_andc, z_1, true_and, and_true, e2 0 (by decide), h4, z_93, z_addI, z_inb' (show i < 93 by omega) (by decide), z_inb' (show 93 * m + i < 1488 by omega) (by decide), z_cl (show i < 2 ^ 31 by omega), z_cl (show 93 * m + i < 2 ^ 31 by omega), e2 1 (by decide)]
    refine hk _ ⟨rfl, fun p hp => ?_, fun k hk => ?_, fun k hk => ?_⟩
    · dsimp only
      rw [z_sI_ne hp]
      exact e2 p hp
    · simp only [z_sI_1, true_and]
      by_cases hki : k = i
      · rw [if_pos (by omega), hki]
      · rw [if_neg (by omega)]
        exact e3 k (by omega)
    · simp only [z_sI_1, true_and]
      rw [if_neg (by omega)]
      exact e4 k hk
  · rintro ⟨a, v⟩ ⟨e1, e2, e3, e4⟩ kb
    dsimp only at e1 e2 e3 e4
    subst e1
    unfold b_X10_remember_55
    rw [if_pos (show (93 : Int32) ≤ nI 93 by decide)]
    exact h v e2 e3 e4
theorem s10_rem21 {w : z_M} (h4 : w.1 0 4 = nI 15) {kx : z_M → Option z_M} {Q : z_M → Prop} (h : ∀ t : z_M, (∀ i, i ≠ 3 → t.1 i = w.1 i) → (∀ k, k < 1395 → t.1 3 k = w.1 3 (k + 93)) → z_ok (kx t) Q) : z_ok (z_lp b_X10_remember_21 z_F (0, w) kx) Q := by
  refine z_ok_lp (fun i q => q.1 = nI i ∧ (∀ p, p ≠ 3 → q.2.1 p = w.1 p) ∧ (∀ k, k < i → q.2.1 3 k = w.1 3 (k + 93)) ∧ ∀ k, i ≤ k → q.2.1 3 k = w.1 3 k) 1395 (by decide) ⟨rfl, fun _ _ => rfl, fun k hk => absurd hk (by omega), fun _ _ => rfl⟩ ?_ ?_
  · rintro i ⟨a, v⟩ hi ⟨e1, e2, e3, e4⟩ kb hk
    dsimp only at e1 e2 e3 e4
    subst e1
    unfold b_X10_remember_21
    have c1 : (nI 1395 ≤ nI i) = False := eq_false (nI_ge (a := i) (b := 1395) hi (by decide))
    have ea : nI i + 93 = nI (i + 93) := z_addI i 93
    simp only [z_gI, e2 0 (by decide), h4, z_93, show 93 * 15 = 1395 from rfl, c1, if_false, if_true, Option.bind_some, z_ok_gd, z_ok_lt, z_ok_some, z_ok_ite, z_ok_bind, z_ok_b2, z_bi_0, Bool.not_eq_false, z_gI, z_and, z_or, z_andc, z_1, true_and, and_true, ea, z_inb' (show i < 1488 by omega) (by decide), z_inb' (show i + 93 < 1488 by omega) (by decide), z_cl (show i < 2 ^ 31 by omega), z_cl (show i + 93 < 2 ^ 31 by omega)]
    refine hk _ ⟨rfl, fun p hp => ?_, fun k hk => ?_, fun k hk => ?_⟩
    · dsimp only
      rw [z_sI_ne hp]
      exact e2 p hp
    · simp only [z_sI_1, true_and]
      by_cases hki : i = k
      · rw [if_pos hki, ← hki]
        exact e4 _ (by omega)
      · rw [if_neg hki]
        exact e3 k (by omega)
    · simp only [z_sI_1, true_and]
      rw [if_neg (by omega)]
      exact e4 k (by omega)
  · rintro ⟨a, v⟩ ⟨e1, e2, e3, e4⟩ kb
    dsimp only at e1 e2 e3 e4
    subst e1
    unfold b_X10_remember_21
    simp only [z_gI, e2 0 (by decide), h4, z_93, show 93 * 15 = 1395 from rfl]
    rw [if_pos (show nI 1395 ≤ nI 1395 by decide)]
    exact h v e2 e3
theorem s10_remember {w : z_M} {n : Nat} (hn : n ≤ 16) (h4 : w.1 0 4 = nI n) : z_ok (f_X10_remember w) (fun w' => (∀ i, i ≠ 0 → i ≠ 3 → w'.1 i = w.1 i) ∧ (∀ k, k ≠ 4 → w'.1 0 k = w.1 0 k) ∧ w'.1 0 4 = nI (z_nn n) ∧
    (n < 16 → (∀ k, k < 93 * n → w'.1 3 k = w.1 3 k) ∧ ∀ k, k < 93 → w'.1 3 (93 * n + k) = w.1 1 k) ∧ (n = 16 → (∀ k, k < 1395 → w'.1 3 k = w.1 3 (k + 93)) ∧ ∀ k, k < 93 → w'.1 3 (1395 + k) = w.1 1 k)) := by
  unfold f_X10_remember
  simp only [z_gI, h4]
  have e16 : (nI n = 16) = (n = 16) := z_eqI (b := 16) (by omega) (by decide)
  simp only [e16]
  by_cases h16 : n = 16
  · subst h16
    rw [if_pos rfl]
    simp only [z_ok_lt]
    refine s10_rem21 (by simp [z_sI_1]; rfl) (fun t t1 t2 => ?_)
    refine s10_rem55 (m := 15) (by decide) (by rw [t1 0 (by decide)]; simp [z_sI_1]; rfl) (fun v v1 v2 v3 => ?_)
    simp only [z_ok_lt, z_ok_some]
    refine ⟨fun i i0 i3 => ?_, fun k hk => ?_, ?_, fun h => absurd h (by omega), fun _ => ⟨fun k hk => ?_, fun k hk => ?_⟩⟩
    · rw [z_sI_ne i0, v1 i i3, t1 i i3, z_sI_ne i0]
    · simp only [z_sI_1, true_and]
      rw [if_neg (Ne.symm hk), v1 0 (by decide), t1 0 (by decide)]
      simp only [z_sI_1, true_and]
      rw [if_neg (Ne.symm hk)]
    · simp only [z_sI_1, true_and, if_true, v1 0 (by decide), t1 0 (by decide)]
      rfl
    · rw [z_sI_ne (by decide), v3 k (by omega), t2 k hk, z_sI_ne (by decide)]
    · rw [z_sI_ne (by decide)]
      have := v2 k hk
      rw [show 93 * 15 + k = 1395 + k by omega] at this
      rw [this, t1 1 (by decide), z_sI_ne (by decide)]
  · rw [if_neg h16]
    refine s10_rem55 (m := n) (by omega) h4 (fun v v1 v2 v3 => ?_)
    simp only [z_ok_lt, z_ok_some]
    refine ⟨fun i i0 i3 => ?_, fun k hk => ?_, ?_, fun _ => ⟨fun k hk => ?_, fun k hk => ?_⟩, fun h => absurd h h16⟩
    · rw [z_sI_ne i0, v1 i i3]
    · simp only [z_sI_1, true_and]
      rw [if_neg (Ne.symm hk), v1 0 (by decide)]
    · simp only [z_sI_1, true_and, if_true, v1 0 (by decide), h4, z_nn, h16, if_false, z_1]
    · rw [z_sI_ne (by decide), v3 k hk]
    · rw [z_sI_ne (by decide), v2 k hk]
/-- an act is remembered: nothing else changes -/
theorem z_push {u w : z_M} {P : z_P} (hI : z_Inv u w) (hw : z_wf P) (hc : z_rc u 0 P) (hr : z_rr (w.1 1) P) : ∃ u' w', f_X5_push 0 u = some u' ∧ f_X10_remember w = some w' ∧ z_Inv u' w' ∧ (∀ i, i < 16 → u'.1 i = u.1 i) ∧ w'.1 1 = w.1 1 := by
  obtain ⟨-, ⟨n, x, h, h1, h2, h3, h4, h5, h6⟩, ⟨K, hK⟩, ⟨t, T, t1, t2, t3, t4⟩, f1, f2, pm⟩ := hI
  obtain ⟨u', a1, a2, a3, a4, a5⟩ := s5_push h1 h2 h3 h4
  obtain ⟨w', b1, b2, b3, b4, b5, b6⟩ := s10_remember h1 h5
  have hlow : ∀ i, i < 16 → u'.1 i = u.1 i := fun i hi => a2 i (by omega) (by omega)
  have hhi : ∀ i, 80 ≤ i → i ≠ 83 → u'.1 i = u.1 i := fun i hi h8 => a2 i h8 (by omega)
  have e1 : w'.1 1 = w.1 1 := b2 1 (by decide) (by decide)
  refine ⟨u', w', a1, b1, ⟨⟨P, hw, z_rc_cg (fun j hj => hlow _ (by omega)) hc, by rw [e1]; exact hr⟩, ⟨z_nn n, z_nx x, fun j => if n < 16 then (if j < n then h j else P) else (if j < 15 then h (j + 1) else P), ?_, ?_, a4, a5, b4, fun j hj => ?_⟩, ⟨K, fun k hk => ?_⟩, ⟨t, T, t1, by rw [hhi 81 (by decide) (by decide)]; exact t2, by rw [b3 8 (by decide)]; exact t3, fun i hi => ?_⟩, ?_, ?_, ?_⟩, hlow, e1⟩
  · unfold z_nn; split <;> omega
  · unfold z_nx; split <;> omega
  · have hring : ∀ j, j < 16 → j ≠ x → ∀ Q, z_rc u (16 + 4 * j) Q → z_rc u' (16 + 4 * j) Q := fun j hj hjx Q hQ => z_rc_cg (fun i hi => a2 _ (by omega) (by omega)) hQ
    have hPx : z_rc u' (16 + 4 * x) P := a3 P hc
    by_cases hn : n < 16
    · have en : z_nn n = n + 1 := by unfold z_nn; rw [if_neg (by omega)]
      rw [en] at hj ⊢
      simp only [hn, if_true]
      obtain ⟨c1, c2⟩ := b5 hn
      by_cases hjn : j < n
      · simp only [hjn, if_true]
        obtain ⟨d1, d2, d3, d4⟩ := h6 j hjn
        refine ⟨d1, d2, ?_, ?_⟩
        · have ei : (z_nx x + 16 - (n + 1) + j) % 16 = (x + 16 - n + j) % 16 := by
            unfold z_nx; split <;> omega
          rw [ei]
          exact hring _ (Nat.mod_lt _ (by decide)) (by omega) _ d3
        · exact z_rr_cg (fun k hk => c1 _ (by omega)) d4
      · have hjn' : j = n := by omega
        subst hjn'
        simp only [Nat.lt_irrefl, if_false]
        refine ⟨hw, trivial, ?_, z_rr_cg (fun k hk => c2 k hk) hr⟩
        have ei : (z_nx x + 16 - (j + 1) + j) % 16 = x := by
          unfold z_nx; split <;> omega
        rw [ei]
        exact hPx
    · have hn16 : n = 16 := by omega
      subst hn16
      have en : z_nn 16 = 16 := rfl
      rw [en] at hj ⊢
      simp only [Nat.lt_irrefl, if_false]
      obtain ⟨c1, c2⟩ := b6 rfl
      by_cases hjn : j < 15
      · simp only [hjn, if_true]
        obtain ⟨d1, d2, d3, d4⟩ := h6 (j + 1) (by omega)
        refine ⟨d1, d2, ?_, ?_⟩
        · have ei : (z_nx x + 16 - 16 + j) % 16 = (x + 16 - 16 + (j + 1)) % 16 := by
            unfold z_nx; split <;> omega
          rw [ei]
          exact hring _ (Nat.mod_lt _ (by decide)) (by omega) _ d3
        · exact z_rr_cg (fun k hk => by rw [c1 _ (by omega), show 93 * j + k + 93 = 93 * (j + 1) + k by omega]) d4
      · have hjn' : j = 15 := by omega
        subst hjn'
        simp only [Nat.lt_irrefl, if_false]
        refine ⟨hw, trivial, ?_, z_rr_cg (fun k hk => c2 k hk) hr⟩
        have ei : (z_nx x + 16 - 16 + 15) % 16 = x := by
          unfold z_nx; split <;> omega
        rw [ei]
        exact hPx
  · obtain ⟨d1, d2, d3, d4⟩ := hK k hk
    refine ⟨d1, z_rc_cg (fun j hj => hlow _ (by omega)) d2, by rw [b2 5 (by decide) (by decide)]; exact d3, by rw [b2 4 (by decide) (by decide)]; exact d4⟩
  · rw [hhi 82 (by decide) (by decide), b2 6 (by decide) (by decide)]
    exact t4 i hi
  · rw [hhi 81 (by decide) (by decide), b3 10 (by decide)]
    exact f1
  · rw [hhi 81 (by decide) (by decide), b3 11 (by decide)]
    exact f2
  · unfold z_pm
    rw [hhi 87 (by decide) (by decide)]
    exact pm
/-- another order is told now -/
theorem z_Inv.cur {u w u' w' : z_M} {P : z_P} (hI : z_Inv u w) (hu : ∀ i, 4 ≤ i → u'.1 i = u.1 i) (hw' : ∀ i, i ≠ 1 → w'.1 i = w.1 i) (hw : z_wf P) (hc : z_rc u' 0 P) (hr : z_rr (w'.1 1) P) : z_Inv u' w' := by
  obtain ⟨-, ⟨n, x, h, h1, h2, h3, h4, h5, h6⟩, ⟨K, hK⟩, ⟨t, T, t1, t2, t3, t4⟩, f1, f2, pm⟩ := hI
  have g0 := hw' 0 (by decide)
  refine ⟨⟨P, hw, hc, hr⟩, ⟨n, x, h, h1, h2, by rw [hu 83 (by decide)]; exact h3, by rw [hu 83 (by decide)]; exact h4, by rw [g0]; exact h5, fun j hj => ?_⟩, ⟨K, fun k hk => ?_⟩, ⟨t, T, t1, by rw [hu 81 (by decide)]; exact t2, by rw [g0]; exact t3, fun i hi => ?_⟩, by rw [hu 81 (by decide), g0]; exact f1, by rw [hu 81 (by decide), g0]; exact f2, ?_⟩
  · obtain ⟨d1, d2, d3, d4⟩ := h6 j hj
    exact ⟨d1, d2, z_rc_cg (fun i hi => hu _ (by omega)) d3, by rw [hw' 3 (by decide)]; exact d4⟩
  · obtain ⟨d1, d2, d3, d4⟩ := hK k hk
    exact ⟨d1, z_rc_cg (fun i hi => hu _ (by omega)) d2, by rw [hw' 5 (by decide)]; exact d3, by rw [hw' 4 (by decide)]; exact d4⟩
  · rw [hu 82 (by decide), hw' 6 (by decide)]
    exact t4 i hi
  · unfold z_pm
    rw [hu 87 (by decide)]
    exact pm
end
