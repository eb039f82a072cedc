/-! Answers with what holds of them. -/
def z_ok {β : Type} (x : Option β) (Q : β → Prop) : Prop := ∃ r, x = some r ∧ Q r
theorem z_ok_some {β : Type} {r : β} {Q : β → Prop} : z_ok (some r) Q ↔ Q r := ⟨fun ⟨_, h, q⟩ => by cases h; exact q, fun q => ⟨r, rfl, q⟩⟩
theorem z_ok_gd {β : Type} {b : Bool} {x : Option β} {Q : β → Prop} : z_ok (z_gd b x) Q ↔ b = true ∧ z_ok x Q := by
  cases b
  · simp [z_ok, z_gd]
  · simp [z_gd]
theorem z_ok_lt {α β : Type} {v : α} {f : α → Option β} {Q : β → Prop} : z_ok (z_lt v f) Q ↔ z_ok (f v) Q := ⟨fun h => h, fun h => h⟩
theorem z_ok_bind {α β : Type} {x : Option α} {f : α → Option β} {Q : β → Prop} : z_ok (Option.bind x f) Q ↔ z_ok x (fun y => z_ok (f y) Q) := by
  cases x <;> simp [z_ok]
theorem z_ok_b2 {α β γ : Type} {x : Option (α × β)} {f : α → β → Option γ} {Q : γ → Prop} : z_ok (z_b2 x f) Q ↔ z_ok x (fun y => z_ok (f y.1 y.2) Q) := z_ok_bind
theorem z_ok_ite {β : Type} {c : Prop} [Decidable c] {x y : Option β} {Q : β → Prop} : z_ok (if c then x else y) Q ↔ (c → z_ok x Q) ∧ (¬ c → z_ok y Q) := by
  by_cases h : c <;> simp [h]
theorem z_ok_mono {β : Type} {x : Option β} {Q Q' : β → Prop} (h : z_ok x Q) (hq : ∀ r, Q r → Q' r) : z_ok x Q' := by
  obtain ⟨r, h1, h2⟩ := h
  exact ⟨r, h1, hq r h2⟩
theorem z_ok_eq {β : Type} {x : Option β} {r : β} : z_ok x (fun y => y = r) ↔ x = some r := ⟨fun ⟨_, h, e⟩ => by rw [h, e], fun h => ⟨r, h, rfl⟩⟩
theorem z_ok_of {β : Type} {x : Option β} {r : β} {Q : β → Prop} (h : x = some r) (q : Q r) : z_ok x Q := ⟨r, h, q⟩
theorem z_ok_lp {σ τ β : Type} {b : σ → (σ → Option β) → (τ → Option β) → Option β} {kx : τ → Option β} {Q : β → Prop} (I : Nat → σ → Prop) (N : Nat) {q0 : σ} (hN : N < z_F) (h0 : I 0 q0)
    (hs : ∀ i q, i < N → I i q → ∀ kb, (∀ q', I (i + 1) q' → z_ok (kb q') Q) → z_ok (b q kb kx) Q) (he : ∀ q, I N q → ∀ kb, z_ok (b q kb kx) Q) : z_ok (z_lp b z_F q0 kx) Q := by
  have key : ∀ k, k ≤ N → ∀ q, I (N - k) q → ∀ n, k < n → z_ok (z_lp b n q kx) Q := by
    intro k
    induction k with
    | zero =>
      intro _ q hq n hn
      match n, hn with
      | n + 1, _ => exact he q hq _
    | succ k ih =>
      intro hk q hq n hn
      match n, hn with
      | n + 1, hn =>
        show z_ok (b q (fun q' => z_lp b n q' kx) kx) Q
        refine hs _ q (by omega) hq _ (fun q' h' => ?_)
        have e : N - (k + 1) + 1 = N - k := by omega
        rw [e] at h'
        exact ih (by omega) q' h' n (by omega)
  have := key N (Nat.le_refl _) q0 (by rw [Nat.sub_self]; exact h0)
  exact this z_F hN
/-- a loop with a falling measure -/
theorem z_ok_lpm {σ τ β : Type} {b : σ → (σ → Option β) → (τ → Option β) → Option β} {kx : τ → Option β} {Q : β → Prop} (I : σ → Prop) (mu : σ → Nat) {q0 : σ} (hN : mu q0 < z_F) (h0 : I q0)
    (hs : ∀ q, I q → ∀ kb, (∀ q', I q' → mu q' < mu q → z_ok (kb q') Q) → z_ok (b q kb kx) Q) : z_ok (z_lp b z_F q0 kx) Q := by
  have key : ∀ n q, I q → mu q < n → z_ok (z_lp b n q kx) Q := by
    intro n
    induction n with
    | zero => intro q _ h; omega
    | succ n ih =>
      intro q hq hm
      show z_ok (b q (fun q' => z_lp b n q' kx) kx) Q
      exact hs q hq _ (fun q' h1 h2 => ih q' h1 (by omega))
  exact key z_F q0 h0 hN
theorem z_9F : 9 < z_F := by decide
theorem z_512F : 512 < z_F := by decide
theorem z_le9 {i : Nat} (h : i < 9) : ((9 : Int32) ≤ nI i) = False := eq_false (nI_ge (a := i) (b := 9) h (by decide))
theorem z_in9 {i : Nat} (h : i < 9) : z_inb (nI i) 9 = true := z_inb_nI h (by decide)
theorem z_c9 {i : Nat} (h : i < 9) : (nI i).toNatClampNeg = i := z_cl (by omega)
theorem z_1 (k : Nat) : nI k + 1 = nI (k + 1) := nI_1 k
theorem z_bi_ne {b : Bool} : (z_bi b = 0) = (b = false) := propext (z_bi_0 b)
/-- loops over the nine points -/
theorem z_ok_l9 {σ τ β : Type} {b : σ → (σ → Option β) → (τ → Option β) → Option β} {kx : τ → Option β} {Q : β → Prop} (I : Nat → σ → Prop) {q0 : σ} (h0 : I 0 q0)
    (hs : ∀ i q, i < 9 → I i q → ∀ kb, (∀ q', I (i + 1) q' → z_ok (kb q') Q) → z_ok (b q kb kx) Q) (he : ∀ q, I 9 q → ∀ kb, z_ok (b q kb kx) Q) : z_ok (z_lp b z_F q0 kx) Q := z_ok_lp I 9 z_9F h0 hs he
/-! Memory. -/
theorem z_gI_sI (u : z_M) (i k : Nat) (v : Int32) (j l : Nat) : z_gI (z_sI u i k v) j l = if i = j ∧ k = l then v else z_gI u j l := by
  unfold z_gI z_sI z_sA va_up upd
  by_cases h : j = i
  · subst h
    by_cases h2 : l = k
    · subst h2; simp
    · have : ¬ k = l := fun e => h2 e.symm
      simp [h2, this]
  · have : ¬ i = j := fun e => h e.symm
    simp [h, this]
theorem z_sI_1 (u : z_M) (i k : Nat) (v : Int32) (j l : Nat) : (z_sI u i k v).1 j l = if i = j ∧ k = l then v else u.1 j l := z_gI_sI u i k v j l
theorem z_sI_2 (u : z_M) (i k : Nat) (v : Int32) : (z_sI u i k v).2 = u.2 := rfl
theorem z_sA_1 (u : z_M) (i : Nat) (f : Nat → Int32) (j : Nat) : (z_sA u i f).1 j = if j = i then f else u.1 j := by
  by_cases h : j = i
  · subst h; simp [z_sA, va_up]
  · simp [z_sA, va_up, h]
theorem z_ok_bit {β : Type} {b : Bool} {x y : Option β} {Q : β → Prop} : z_ok (if z_bi b = 0 then x else y) Q ↔ (b = false → z_ok x Q) ∧ (b = true → z_ok y Q) := by
  cases b <;> simp [z_bi]
theorem z_ok_bit1 {β : Type} {b : Bool} {x y : Option β} {Q : β → Prop} : z_ok (if z_bi b = 1 then x else y) Q ↔ (b = true → z_ok x Q) ∧ (b = false → z_ok y Q) := by
  cases b <;> simp [z_bi]
theorem z_le9n {i : Nat} (h : i < 9) : (nI 9 ≤ nI i) = False := z_le9 h
theorem z_sh {k : Nat} (h : k < 9) : ((1 : Int32) <<< (nI k &&& 31)) = nI (2 ^ k) := z_sh_amt k h
theorem z_and0 {a b : Nat} (ha : a < 512) : (nI (a &&& b) = 0) = (a &&& b = 0) := propext (z_nI0 (Nat.lt_of_le_of_lt Nat.and_le_left (by omega)))
theorem z_df0 {a b : Nat} (ha : a < 512) : (nI (z_df a b) = 0) = (z_df a b = 0) := propext (z_nI0 (Nat.lt_trans (z_df_lt ha) (by decide)))
theorem z_99 : ((9 : Int32) ≤ nI 9) = True := by decide
theorem z_99n : (nI 9 ≤ nI 9) = True := by decide
theorem z_mk_1 (p : Nat → Bool) (n : Nat) (h : p n = true) : z_mk p n ||| 2 ^ n = z_mk p (n + 1) := by simp [z_mk, h]
theorem z_mk_0 (p : Nat → Bool) (n : Nat) (h : p n = false) : z_mk p n = z_mk p (n + 1) := by simp [z_mk, h]
theorem z_mk_cg {p q : Nat → Bool} {n : Nat} (h : ∀ k, k < n → p k = q k) : z_mk p n = z_mk q n := by
  induction n with
  | zero => rfl
  | succ n ih => simp only [z_mk, ih (fun k hk => h k (Nat.lt_succ_of_lt hk)), h n (Nat.lt_succ_self n)]
/-! The first point with a property. -/
def z_ff (p : Nat → Bool) (d : Int32) : Nat → Nat → Int32
  | _, 0 => d
  | k, n + 1 => if p k then nI k else z_ff p d (k + 1) n
def z_fi (p : Nat → Bool) (d : Int32) : Int32 := z_ff p d 0 9
theorem z_ff_cg {p q : Nat → Bool} {d : Int32} : ∀ (n k : Nat), (∀ j, k ≤ j → j < k + n → p j = q j) → z_ff p d k n = z_ff q d k n
  | 0, _, _ => rfl
  | n + 1, k, h => by
    simp only [z_ff, h k (Nat.le_refl _) (by omega)]
    rw [z_ff_cg n (k + 1) (fun j h1 h2 => h j (by omega) (by omega))]
theorem z_fi_cg {p q : Nat → Bool} {d : Int32} (h : ∀ j, j < 9 → p j = q j) : z_fi p d = z_fi q d := z_ff_cg 9 0 (fun j _ h2 => h j (by omega))
theorem z_ff_is {p : Nat → Bool} {d : Int32} : ∀ (n k : Nat), (∃ j, k ≤ j ∧ j < k + n ∧ p j = true ∧ (∀ i, k ≤ i → i < j → p i = false) ∧ z_ff p d k n = nI j) ∨ ((∀ j, k ≤ j → j < k + n → p j = false) ∧ z_ff p d k n = d)
  | 0, k => Or.inr ⟨fun j h1 h2 => absurd h2 (by omega), rfl⟩
  | n + 1, k => by
    cases hp : p k with
    | true => exact Or.inl ⟨k, Nat.le_refl _, by omega, hp, fun i h1 h2 => absurd h2 (by omega), by simp [z_ff, hp]⟩
    | false =>
      rcases z_ff_is (p := p) (d := d) n (k + 1) with ⟨j, h1, h2, h3, h4, h5⟩ | ⟨h1, h2⟩
      · refine Or.inl ⟨j, by omega, by omega, h3, fun i i1 i2 => ?_, by simp [z_ff, hp, h5]⟩
        by_cases e : i = k
        · rw [e]; exact hp
        · exact h4 i (by omega) i2
      · refine Or.inr ⟨fun j j1 j2 => ?_, by simp [z_ff, hp, h2]⟩
        by_cases e : j = k
        · rw [e]; exact hp
        · exact h1 j (by omega) (by omega)
theorem z_fi_is (p : Nat → Bool) (d : Int32) : (∃ j, j < 9 ∧ p j = true ∧ (∀ i, i < j → p i = false) ∧ z_fi p d = nI j) ∨ ((∀ j, j < 9 → p j = false) ∧ z_fi p d = d) := by
  rcases z_ff_is (p := p) (d := d) 9 0 with ⟨j, h1, h2, h3, h4, h5⟩ | ⟨h1, h2⟩
  · exact Or.inl ⟨j, by omega, h3, fun i hi => h4 i (Nat.zero_le _) hi, h5⟩
  · exact Or.inr ⟨fun j hj => h1 j (Nat.zero_le _) (by omega), h2⟩
theorem z_find {β : Type} {b : Int32 → (Int32 → Option β) → (Unit → Option β) → Option β} {kx : Unit → Option β} {f : Int32 → β} (p : Nat → Bool) (d : Int32) (hs : ∀ i, i < 9 → ∀ kb, b (nI i) kb kx = if p i then some (f (nI i)) else kb (nI (i + 1))) (he : ∀ kb, b (nI 9) kb kx = some (f d)) : z_lp b z_F 0 kx = some (f (z_fi p d)) := by
  have key : ∀ k n, n + k = 9 → ∀ F, k < F → z_lp b F (nI n) kx = some (f (z_ff p d n k)) := by
    intro k
    induction k with
    | zero =>
      intro n hn F hF
      match F, hF with
      | F + 1, _ =>
        show b (nI n) _ kx = _
        rw [show n = 9 by omega, he]
        rfl
    | succ k ih =>
      intro n hn F hF
      match F, hF with
      | F + 1, hF =>
        show b (nI n) (fun q' => z_lp b F q' kx) kx = _
        rw [hs n (by omega)]
        cases hp : p n with
        | true => simp [z_ff, hp]
        | false =>
          simp only [Bool.false_eq_true, if_false, z_ff, hp]
          exact ih (n + 1) (by omega) F (by omega)
  exact key 9 0 rfl z_F z_9F
/-! Sums over the nine points. -/
def z_su (f : Nat → Int32) : Nat → Int32
  | 0 => 0
  | n + 1 => z_su f n + f n
theorem z_su_cg {f g : Nat → Int32} : ∀ {n : Nat}, (∀ k, k < n → f k = g k) → z_su f n = z_su g n
  | 0, _ => rfl
  | n + 1, h => by rw [z_su, z_su, z_su_cg (fun k hk => h k (Nat.lt_succ_of_lt hk)), h n (Nat.lt_succ_self n)]
theorem z_is_ok {a : Nat} {x : Int32} (h : z_is a x = true) : ∃ k, k < 9 ∧ x = nI k ∧ a.testBit k = true := by
  rcases z_ix x with h1 | h1 | ⟨k, hk, rfl⟩
  · simp [z_is, h1] at h
  · simp [z_is, h1] at h
  · rw [z_is_nI hk] at h
    exact ⟨k, hk, rfl, h⟩
theorem z_ltI {a b : Nat} (ha : a < 2 ^ 31) (hb : b < 2 ^ 31) : (nI a < nI b) = (a < b) := by
  apply propext
  rw [Int32.lt_iff_toInt_lt, nI_toInt ha, nI_toInt hb]
  omega
theorem z_leI {a b : Nat} (ha : a < 2 ^ 31) (hb : b < 2 ^ 31) : (nI a ≤ nI b) = (a ≤ b) := by
  apply propext
  rw [Int32.le_iff_toInt_le, nI_toInt ha, nI_toInt hb]
  omega
theorem z_eqI {a b : Nat} (ha : a < 2 ^ 31) (hb : b < 2 ^ 31) : (nI a = nI b) = (a = b) := propext (nI_eq ha hb)
