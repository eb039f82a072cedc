section
variable {u w v : z_M} {P : z_P} {T : Nat → Nat} {N p : Nat}
/-! Reading: where a run of characters ends. -/
def z_rn (c : Nat → Bool) : Nat → Nat → Nat
  | 0, p => p
  | n + 1, p => if c p then z_rn c n (p + 1) else p
def z_to (c : Nat → Bool) (N p : Nat) : Nat := z_rn c (N - p) p
theorem z_rn_ok (c : Nat → Bool) : ∀ n p, p ≤ z_rn c n p ∧ z_rn c n p ≤ p + n ∧ (∀ i, p ≤ i → i < z_rn c n p → c i = true) ∧ (z_rn c n p < p + n → c (z_rn c n p) = false)
  | 0, p => ⟨Nat.le_refl _, Nat.le_refl _, fun i h1 h2 => absurd h2 (by rw [z_rn]; omega), fun h => absurd h (by rw [z_rn]; omega)⟩
  | n + 1, p => by
    rw [z_rn]
    by_cases h : c p = true
    · rw [if_pos h]
      obtain ⟨a, b, d, e⟩ := z_rn_ok c n (p + 1)
      refine ⟨by omega, by omega, fun i h1 h2 => ?_, fun h1 => e (by omega)⟩
      by_cases g : i = p
      · rw [g]; exact h
      · exact d i (by omega) h2
    · rw [if_neg h]
      exact ⟨Nat.le_refl _, by omega, fun i h1 h2 => absurd h2 (by omega), fun _ => by simpa using h⟩
theorem z_to_ok (c : Nat → Bool) {N p : Nat} (hp : p ≤ N) : p ≤ z_to c N p ∧ z_to c N p ≤ N ∧ (∀ i, p ≤ i → i < z_to c N p → c i = true) ∧ (z_to c N p < N → c (z_to c N p) = false) := by
  obtain ⟨a, b, d, e⟩ := z_rn_ok c (N - p) p
  exact ⟨a, by unfold z_to; omega, d, fun h => e (by unfold z_to at h; omega)⟩
theorem z_to_0 (c : Nat → Bool) {N p : Nat} (h : N ≤ p ∨ c p = false) : z_to c N p = p := by
  unfold z_to
  cases hn : N - p with
  | zero => rfl
  | succ n =>
    rw [z_rn]
    rcases h with h | h
    · omega
    · rw [if_neg (by rw [h]; decide)]
theorem z_to_s (c : Nat → Bool) {N p : Nat} (hp : p < N) (h : c p = true) : z_to c N p = z_to c N (p + 1) := by
  unfold z_to
  obtain ⟨n, hn⟩ : ∃ n, N - p = n + 1 := ⟨N - p - 1, by omega⟩
  rw [hn, z_rn, if_pos h, show N - (p + 1) = n by omega]
theorem z_to_g {c : Nat → Bool} {N p e : Nat} (h1 : p ≤ e) (h2 : e ≤ N) (h3 : ∀ i, p ≤ i → i < e → c i = true) (h4 : e < N → c e = false) : z_to c N p = e := by
  have key : ∀ n p, p + n = e → p ≤ e → (∀ i, p ≤ i → i < e → c i = true) → z_to c N p = e := by
    intro n
    induction n with
    | zero =>
      intro p hp _ _
      have : p = e := by omega
      subst this
      refine z_to_0 c ?_
      by_cases g : p < N
      · exact Or.inr (h4 g)
      · exact Or.inl (by omega)
    | succ n ih =>
      intro p hp hpe hc
      rw [z_to_s c (by omega) (hc p (Nat.le_refl _) (by omega))]
      exact ih (p + 1) (by omega) (by omega) (fun i a b => hc i (by omega) b)
  exact key (e - p) p (by omega) h1 h3
theorem z_lpt {σ τ β : Type} {b : σ → (σ → Option β) → (τ → Option β) → Option β} {kx : τ → Option β} (q : Nat → σ) (g : Nat → τ) (c : Nat → Bool) {N p : Nat} (hp : p ≤ N) (hN : N ≤ 400) (hs : ∀ i, p ≤ i → i < N → ∀ kb, b (q i) kb kx = if c i then kb (q (i + 1)) else kx (g i)) (he : ∀ kb, b (q N) kb kx = kx (g N)) : z_lp b z_F (q p) kx = kx (g (z_to c N p)) := by
  have key : ∀ n p', p' + n = N → p ≤ p' → ∀ F, n < F → z_lp b F (q p') kx = kx (g (z_to c N p')) := by
    intro n
    induction n with
    | zero =>
      intro p' hp' _ F hF
      have : p' = N := by omega
      subst this
      match F, hF with
      | F + 1, _ =>
        rw [z_to_0 c (Or.inl (Nat.le_refl _))]
        exact he _
    | succ n ih =>
      intro p' hp' hle F hF
      match F, hF with
      | F + 1, hF =>
        show b (q p') (fun q' => z_lp b F q' kx) kx = _
        rw [hs p' hle (by omega)]
        by_cases h : c p' = true
        · rw [if_pos h, z_to_s c (by omega) h]
          exact ih (p' + 1) (by omega) (by omega) F (by omega)
        · rw [if_neg h, z_to_0 c (Or.inr (by simpa using h))]
  exact key (N - p) p (by omega) (Nat.le_refl _) z_F (z_F_lt (by omega))
theorem z_sIs (u : z_M) (a b : Nat) (x y : Int32) : z_sI (z_sI u a b x) a b y = z_sI u a b y := by
  refine Prod.ext (funext fun j => funext fun l => ?_) rfl
  rw [z_sI_1, z_sI_1, z_sI_1]
  by_cases h : a = j ∧ b = l
  · rw [if_pos h, if_pos h]
  · rw [if_neg h, if_neg h, if_neg h]
theorem z_sIe (u : z_M) (a b : Nat) {x : Int32} (h : u.1 a b = x) : z_sI u a b x = u := by
  refine Prod.ext (funext fun j => funext fun l => ?_) rfl
  rw [z_sI_1]
  by_cases g : a = j ∧ b = l
  · rw [if_pos g, ← g.1, ← g.2, h]
  · rw [if_neg g]
theorem z_byn : ∀ c, c < 256 → (c < 128 → z_by c = nI c) ∧ (128 ≤ c → z_by c < 0) := by decide +kernel
theorem z_byq {c d : Nat} (hc : c < 256) (hd : d < 128) : (z_by c = nI d) = (c = d) := by
  obtain ⟨h1, h2⟩ := z_byn c hc
  by_cases h : c < 128
  · rw [h1 h]; exact z_eqI (by omega) (by omega)
  · refine propext ⟨fun e => ?_, fun e => absurd (e ▸ hd) h⟩
    have := h2 (by omega)
    rw [e] at this
    exact absurd this (nI_pos (by omega))
theorem z_byd : ∀ c, c < 256 → f_X10_isIn (z_by c).toInt64 48 57 = some (z_bi (decide (48 ≤ c) && decide (c ≤ 57))) := by decide +kernel
theorem z_byl : ∀ c, c < 256 → f_X10_isIn (z_by c).toInt64 97 122 = some (z_bi (decide (97 ≤ c) && decide (c ≤ 122))) := by decide +kernel
theorem z_cld : ∀ c, c < 256 → f_X7_isDigit (nI c) = some (z_bi (decide (48 ≤ c) && decide (c ≤ 57))) := by decide +kernel
theorem z_cll : ∀ c, c < 256 → f_X7_isLetter (nI c) = some (z_bi (decide (97 ≤ c) && decide (c ≤ 122))) := by decide +kernel
def z_qb (T : Nat → Nat) (i : Nat) : Bool := decide (T i = 32) || decide (T i = 10)
def z_qd (T : Nat → Nat) (i : Nat) : Bool := decide (48 ≤ T i) && decide (T i ≤ 57)
def z_ql (T : Nat → Nat) (i : Nat) : Bool := decide (97 ≤ T i) && decide (T i ≤ 122)
def z_cw (u : z_M) (T : Nat → Nat) (N p : Nat) : Prop := u.1 81 1 = nI N ∧ u.1 81 6 = nI p ∧ p ≤ N ∧ N ≤ 400 ∧ ∀ i, i < N → T i < 256 ∧ u.1 82 i = nI (T i)
def z_ww (w : z_M) (T : Nat → Nat) (N p : Nat) : Prop := w.1 0 8 = nI N ∧ w.1 0 9 = nI p ∧ p ≤ N ∧ N ≤ 400 ∧ ∀ i, i < N → T i < 256 ∧ w.1 6 i = z_by (T i)
theorem z_in400 {i : Nat} (h : i < 400) : z_inb (nI i) 400 = true := z_inb_nI h (by decide)
theorem z_cw.mv (h : z_cw u T N p) {q : Nat} (hq : q ≤ N) : z_cw (z_sI u 81 6 (nI q)) T N q := by
  obtain ⟨h1, h2, h3, h4, h5⟩ := h
  exact ⟨by rw [z_sI_1, if_neg (by decide)]; exact h1, by rw [z_sI_1, if_pos ⟨rfl, rfl⟩], hq, h4, fun i hi => by rw [z_sI_ne (by decide)]; exact h5 i hi⟩
theorem z_ww.mv (h : z_ww w T N p) {q : Nat} (hq : q ≤ N) : z_ww (z_sI w 0 9 (nI q)) T N q := by
  obtain ⟨h1, h2, h3, h4, h5⟩ := h
  exact ⟨by rw [z_sI_1, if_neg (by decide)]; exact h1, by rw [z_sI_1, if_pos ⟨rfl, rfl⟩], hq, h4, fun i hi => by rw [z_sI_ne (by decide)]; exact h5 i hi⟩
/-! the law: the next character that is no blank -/
def z_nxl (t : z_M) : Option (Int32 × z_M) := if (z_gI t 0 8) ≤ (z_gI t 0 9) then (some (0, t)) else (z_gd (z_inb (z_gI t 0 9) 400) (some (z_gI t 6 (z_gI t 0 9).toNatClampNeg, t)))
theorem z_nxl_ok (h : z_ww w T N p) : z_nxl w = some (if p < N then z_by (T p) else 0, w) := by
  obtain ⟨h1, h2, h3, h4, h5⟩ := h
  unfold z_nxl
  rw [z_gI, z_gI, h1, h2]
  by_cases c : p < N
  · rw [if_neg (nI_ge c (by omega)), z_gdt (z_in400 (by omega)), if_pos c, z_gI, z_cl (by omega), (h5 p c).2]
  · rw [if_pos (nI_le (by omega) (by omega)), if_neg c]
theorem s10_next0 (h : z_ww w T N p) {i : Nat} (hi : i < N) {kb kx : z_M → Option (Int32 × z_M)} : b_X10_next_0 (z_sI w 0 9 (nI i)) kb kx = if z_qb T i then kb (z_sI w 0 9 (nI (i + 1))) else kx (z_sI w 0 9 (nI i)) := by
  obtain ⟨h1, h2, h3, h4, h5⟩ := h.mv (q := i) (by omega)
  unfold b_X10_next_0 z_qb
  rw [z_gI, z_gI, h1, h2, if_neg (nI_ge hi (by omega)), z_gdt (z_in400 (by omega)), z_gdt (z_in400 (by omega)), z_gI, z_cl (by omega), (h5 i hi).2, z_1, z_lt, z_sIs]
  simp only [show (z_by (T i) = 32) = (T i = 32) from z_byq (h5 i hi).1 (by decide), show (z_by (T i) = 10) = (T i = 10) from z_byq (h5 i hi).1 (by decide)]
  by_cases c1 : T i = 32
  · rw [if_pos c1, decide_eq_true c1]; rfl
  · rw [if_neg c1, decide_eq_false c1]
    by_cases c2 : T i = 10
    · rw [if_pos c2, decide_eq_true c2]; rfl
    · rw [if_neg c2, decide_eq_false c2]; rfl
theorem s10_next (h : z_ww w T N p) : f_X10_next w = some (if z_to (z_qb T) N p < N then z_by (T (z_to (z_qb T) N p)) else 0, z_sI w 0 9 (nI (z_to (z_qb T) N p))) := by
  have h' := h
  obtain ⟨h1, h2, h3, h4, h5⟩ := h'
  have hok := z_to_ok (z_qb T) h3
  have hend : z_nxl (z_sI w 0 9 (nI (z_to (z_qb T) N p))) = some (if z_to (z_qb T) N p < N then z_by (T (z_to (z_qb T) N p)) else 0, z_sI w 0 9 (nI (z_to (z_qb T) N p))) := z_nxl_ok (h.mv hok.2.1)
  have hlp : ∀ i, i ≤ N → z_lp b_X10_next_0 z_F (z_sI w 0 9 (nI i)) z_nxl = z_nxl (z_sI w 0 9 (nI (z_to (z_qb T) N i))) := fun i hi => by
    refine z_lpt (fun t => z_sI w 0 9 (nI t)) (fun t => z_sI w 0 9 (nI t)) (z_qb T) hi h4 (fun j _ hj kb => s10_next0 h hj) (fun kb => ?_)
    obtain ⟨g1, g2, -⟩ := h.mv (Nat.le_refl N)
    unfold b_X10_next_0
    rw [z_gI, z_gI, g1, g2, if_pos (nI_le (Nat.le_refl _) (by omega))]
  have hself : z_sI w 0 9 (nI p) = w := z_sIe w 0 9 h2
  rw [← hend]
  show (if (z_gI w 0 8) ≤ (z_gI w 0 9) then z_nxl w else (z_gd (z_inb (z_gI w 0 9) 400) (if (z_gI w 6 (z_gI w 0 9).toNatClampNeg) = 32 then (z_lt (z_sI w 0 9 ((z_gI w 0 9) + 1)) (fun u6 => z_lp b_X10_next_0 z_F u6 z_nxl)) else (z_gd (z_inb (z_gI w 0 9) 400) (if (z_gI w 6 (z_gI w 0 9).toNatClampNeg) = 10 then (z_lt (z_sI w 0 9 ((z_gI w 0 9) + 1)) (fun u19 => z_lp b_X10_next_0 z_F u19 z_nxl)) else z_nxl w))))) = _
  rw [z_gI, z_gI, h1, h2]
  by_cases c : p < N
  · rw [if_neg (nI_ge c (by omega)), z_gdt (z_in400 (by omega)), z_gdt (z_in400 (by omega)), z_gI, z_cl (by omega), (h5 p c).2, z_1, z_lt, hlp (p + 1) (by omega)]
    simp only [show (z_by (T p) = 32) = (T p = 32) from z_byq (h5 p c).1 (by decide), show (z_by (T p) = 10) = (T p = 10) from z_byq (h5 p c).1 (by decide)]
    by_cases c1 : T p = 32
    · rw [if_pos c1, z_to_s _ c (by simp [z_qb, c1])]
    · rw [if_neg c1]
      by_cases c2 : T p = 10
      · rw [if_pos c2, z_to_s _ c (by simp [z_qb, c2])]
      · rw [if_neg c2, z_to_0 _ (Or.inr (by simp [z_qb, c1, c2])), hself]
  · rw [if_pos (nI_le (by omega) (by omega)), z_to_0 _ (Or.inl (by omega)), hself]
/-! the class: the next token -/
def z_ntl (u : z_M) : Option z_M := z_lt (z_sI u 81 8 (z_gI u 81 6)) (fun u80 => if (z_gI u80 81 6) < (z_gI u80 81 1) then (z_gd (z_inb (z_gI u80 81 6) 400) (Option.bind (f_X7_isLetter (z_gI u80 82 (z_gI u80 81 6).toNatClampNeg)) (fun r83 => if r83 = 0 then (z_gd (z_inb (z_gI u80 81 6) 400) (Option.bind (f_X7_isDigit (z_gI u80 82 (z_gI u80 81 6).toNatClampNeg)) (fun r86 => if r86 = 0 then (z_gd (z_inb (z_gI u80 81 6) 400) (if (z_gI u80 82 (z_gI u80 81 6).toNatClampNeg) = 59 then (z_lt (z_sI u80 81 7 5) (fun u90 => z_lt (z_sI u90 81 6 ((z_gI u90 81 6) + 1)) (fun u91 => some u91))) else (z_gd (z_inb (z_gI u80 81 6) 400) (if (z_gI u80 82 (z_gI u80 81 6).toNatClampNeg) = 60 then (z_lt (z_sI u80 81 7 6) (fun u94 => z_lt (z_sI u94 81 6 ((z_gI u94 81 6) + 1)) (fun u95 => some u95))) else (z_lt (z_sI u80 81 7 7) (fun u96 => z_lt (z_sI u96 81 6 ((z_gI u96 81 6) + 1)) (fun u97 => some u97))))))) else (Option.bind (f_X7_takeNumber u80) (fun r98 => some r98))))) else (Option.bind (f_X7_takeWord u80) (fun r99 => some r99))))) else (z_lt (z_sI u80 81 7 0) (fun u100 => some u100)))
theorem s7_next0 (h : z_cw u T N p) {i : Nat} (hi : i < N) {kb kx : z_M → Option z_M} : b_X7_nextToken_0 (z_sI u 81 6 (nI i)) kb kx = if z_qb T i then kb (z_sI u 81 6 (nI (i + 1))) else kx (z_sI u 81 6 (nI i)) := by
  obtain ⟨h1, h2, h3, h4, h5⟩ := h.mv (q := i) (by omega)
  unfold b_X7_nextToken_0 z_qb
  have h256 := (h5 i hi).1
  rw [z_gI, z_gI, h1, h2, if_neg (nI_ge hi (by omega)), z_gdt (z_in400 (by omega)), z_gdt (z_in400 (by omega)), z_gI, z_cl (by omega), (h5 i hi).2, z_1, z_lt, z_sIs]
  simp only [show (nI (T i) = 32) = (T i = 32) from z_eqI (b := 32) (by omega) (by decide), show (nI (T i) = 10) = (T i = 10) from z_eqI (b := 10) (by omega) (by decide)]
  by_cases c1 : T i = 32
  · rw [if_pos c1, decide_eq_true c1]; rfl
  · rw [if_neg c1, decide_eq_false c1]
    by_cases c2 : T i = 10
    · rw [if_pos c2, decide_eq_true c2]; rfl
    · rw [if_neg c2, decide_eq_false c2]; rfl
theorem s7_skip (h : z_cw u T N p) : f_X7_nextToken u = z_ntl (z_sI u 81 6 (nI (z_to (z_qb T) N p))) := by
  have h' := h
  obtain ⟨h1, h2, h3, h4, h5⟩ := h'
  have hlp : ∀ i, i ≤ N → z_lp b_X7_nextToken_0 z_F (z_sI u 81 6 (nI i)) z_ntl = z_ntl (z_sI u 81 6 (nI (z_to (z_qb T) N i))) := fun i hi => by
    refine z_lpt (fun t => z_sI u 81 6 (nI t)) (fun t => z_sI u 81 6 (nI t)) (z_qb T) hi h4 (fun j _ hj kb => s7_next0 h hj) (fun kb => ?_)
    obtain ⟨g1, g2, -⟩ := h.mv (Nat.le_refl N)
    unfold b_X7_nextToken_0
    rw [z_gI, z_gI, g1, g2, if_pos (nI_le (Nat.le_refl _) (by omega))]
  have hself : z_sI u 81 6 (nI p) = u := z_sIe u 81 6 h2
  show (if (z_gI u 81 1) ≤ (z_gI u 81 6) then z_ntl u else (z_gd (z_inb (z_gI u 81 6) 400) (if (z_gI u 82 (z_gI u 81 6).toNatClampNeg) = 32 then (z_lt (z_sI u 81 6 ((z_gI u 81 6) + 1)) (fun u6 => z_lp b_X7_nextToken_0 z_F u6 z_ntl)) else (z_gd (z_inb (z_gI u 81 6) 400) (if (z_gI u 82 (z_gI u 81 6).toNatClampNeg) = 10 then (z_lt (z_sI u 81 6 ((z_gI u 81 6) + 1)) (fun u19 => z_lp b_X7_nextToken_0 z_F u19 z_ntl)) else z_ntl u))))) = _
  rw [z_gI, z_gI, h1, h2]
  by_cases c : p < N
  · have h256 := (h5 p c).1
    rw [if_neg (nI_ge c (by omega)), z_gdt (z_in400 (by omega)), z_gdt (z_in400 (by omega)), z_gI, z_cl (by omega), (h5 p c).2, z_1, z_lt, hlp (p + 1) (by omega)]
    simp only [show (nI (T p) = 32) = (T p = 32) from z_eqI (b := 32) (by omega) (by decide), show (nI (T p) = 10) = (T p = 10) from z_eqI (b := 10) (by omega) (by decide)]
    by_cases c1 : T p = 32
    · rw [if_pos c1, z_to_s _ c (by simp [z_qb, c1])]
    · rw [if_neg c1]
      by_cases c2 : T p = 10
      · rw [if_pos c2, z_to_s _ c (by simp [z_qb, c2])]
      · rw [if_neg c2, z_to_0 _ (Or.inr (by simp [z_qb, c1, c2])), hself]
  · rw [if_pos (nI_le (by omega) (by omega)), z_to_0 _ (Or.inl (by omega)), hself]
end
