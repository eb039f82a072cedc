/-! Loops as sequences of states. -/
theorem z_lp_seq {σ τ β : Type} {b : σ → (σ → Option β) → (τ → Option β) → Option β} {kx : τ → Option β} (st : Nat → σ) (N : Nat) (r : Option β) (hs : ∀ i, i < N → ∀ kb, b (st i) kb kx = kb (st (i + 1))) (he : ∀ kb, b (st N) kb kx = r) : ∀ n, N < n → z_lp b n (st 0) kx = r := by
  have key : ∀ k, k ≤ N → ∀ n, k < n → z_lp b n (st (N - k)) kx = r := by
    intro k
    induction k with
    | zero =>
      intro _ n hn
      match n, hn with
      | n + 1, _ => exact he _
    | succ k ih =>
      intro hk n hn
      match n, hn with
      | n + 1, hn =>
        show b (st (N - (k + 1))) (fun q' => z_lp b n q' kx) kx = r
        rw [hs _ (by omega)]
        have e : N - (k + 1) + 1 = N - k := by omega
        rw [e]
        exact ih (by omega) n (by omega)
  intro n hn
  have := key N (Nat.le_refl _) n hn
  rwa [Nat.sub_self] at this
theorem z_lp_inv {σ τ β : Type} {b : σ → (σ → Option β) → (τ → Option β) → Option β} {kx : τ → Option β} (I : Nat → σ → Prop) (N : Nat) (r : Option β) (hs : ∀ i q, i < N → I i q → ∃ q', I (i + 1) q' ∧ ∀ kb, b q kb kx = kb q') (he : ∀ q, I N q → ∀ kb, b q kb kx = r) {q0 : σ} (h0 : I 0 q0) : ∀ n, N < n → z_lp b n q0 kx = r := by
  have key : ∀ k, k ≤ N → ∀ q, I (N - k) q → ∀ n, k < n → z_lp b n q kx = r := by
    intro k
    induction k with
    | zero =>
      intro _ q hq n hn
      match n, hn with
      | n + 1, _ => exact he q hq _
    | succ k ih =>
      intro hk q hq n hn
      match n, hn with
      | n + 1, hn =>
        show b q (fun q' => z_lp b n q' kx) kx = r
        obtain ⟨q', h1, h2⟩ := hs _ q (by omega) hq
        rw [h2]
        have e : N - (k + 1) + 1 = N - k := by omega
        rw [e] at h1
        exact ih (by omega) q' h1 n (by omega)
  intro n hn
  exact key N (Nat.le_refl _) q0 (by rwa [Nat.sub_self]) n hn
theorem z_F_lt {n : Nat} (h : n ≤ 1000000000) : n < z_F := by unfold z_F; omega
theorem w_bitc (l : Launch) (g : z_G) (sh : List z_S) (x : Int32) (u : z_M) (hs : sh = z_shC := by rfl) : z_C l g sh yJ6_bitCount_0f7a4 wsJ6_bitCount_0f7a4 1 [.int x] u (fun v u' => v = some (.int (z_bitc x)) ∧ u' = u) := by
  subst hs
  exact w_J6_bitCount_0f7a4 l g x u rfl
theorem z_fillS (u : z_M) (i n k : Nat) (v : Int32) : z_sI (z_fill u i k v) i k v = z_fill u i (k + 1) v := by
  unfold z_sI z_fill z_sA
  refine Prod.ext ?_ rfl
  funext a b
  by_cases ha : a = i
  · subst ha
    by_cases hb : b = k
    · subst hb
      simp [va_up, upd]
    · by_cases hk : b < k
      · simp [va_up, upd, hb, hk, Nat.lt_succ_of_lt hk]
      · have h2 : ¬ b < k + 1 := by omega
        simp [va_up, upd, hb, hk, h2]
  · simp [va_up, ha]
theorem z_fill0 (u : z_M) (i : Nat) (v : Int32) : z_fill u i 0 v = u := by
  unfold z_fill z_sA
  refine Prod.ext ?_ rfl
  funext a b
  by_cases ha : a = i
  · subst ha; simp [va_up]
  · simp [va_up, ha]
theorem f_fill (i n : Nat) (hn : n ≤ 100000) (v : Int32) (u : z_M) : f_J7_fill_53178 i n v u = some (z_fill u i n v) := by
  unfold f_J7_fill_53178 z_lt
  have h := z_lp_seq (b := b_J7_fill_53178_5 i n v (nI n)) (kx := fun t5 => some t5) (fun k => (nI k, z_fill u i k v)) n (some (z_fill u i n v)) ?_ ?_ z_F (z_F_lt (by omega))
  · rw [z_fill0] at h
    exact h
  · intro k hk kb
    unfold b_J7_fill_53178_5
    have h1 : ¬ nI n ≤ nI k := nI_ge hk (by omega)
    have h2 : z_inb (nI k) n = true := decide_eq_true (nI_in hk (by omega))
    simp only [h1, if_false, z_gd, h2, if_true, z_lt]
    rw [nI_clamp (by omega), z_fillS (n := n), nI_1]
  · intro kb
    unfold b_J7_fill_53178_5
    have h1 : nI n ≤ nI n := nI_le (Nat.le_refl _) (by omega)
    simp only [h1, if_true]
theorem w_fill (l : Launch) (g : z_G) (sh : List z_S) (i n : Nat) (hi : sh[i]? = some (.inl (0, n, none))) (v : Int32) (u : z_M) (hs : sh = z_shC := by rfl) (hn : n ≤ 100000 := by decide) : z_C l g sh yJ7_fill_53178 wsJ7_fill_53178 1 [.ref (z_ad g i), .int v] u (fun r u' => r = none ∧ u' = z_fill u i n v) := by
  subst hs
  exact w_J7_fill_53178 l g i n v hi u (f_fill i n hn v u)
