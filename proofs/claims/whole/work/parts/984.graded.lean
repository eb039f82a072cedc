section
variable {u w v : z_M} {P : z_P}
/-! how long the chains are -/
def z_ln (P : z_P) (b : Nat) : Nat → Nat → Nat → Prop
  | 0, _, _ => False
  | n + 1, x, m => (x = b ∧ m = 0) ∨ (x ≠ b ∧ ∃ y, y < 9 ∧ (z_nxt P b x).testBit y = true ∧ ∃ m', m = m' + 1 ∧ z_ln P b n y m')
def z_hasL (S : z_St) (L : Nat) : Prop := ∃ i, i < S.1 ∧ (S.2 i).1 = L
theorem z_sin_len {c : z_Cn} {S : z_St} {L : Nat} : z_hasL (z_sin P c S) L ↔ z_hasL S L ∨ c.1 = L := by
  have hle := z_ips_le (P := P) c S.2 S.1
  constructor
  · rintro ⟨i, hi, e⟩
    have e' : (z_ins P c S.2 S.1 i).1 = L := e
    rcases z_ins_at (P := P) (c := c) (L := S.2) (n := S.1) hi with ⟨a1, a2⟩ | ⟨i', a1, a2, a3, a4⟩
    · rw [a2] at e'; exact Or.inr e'
    · rw [a3] at e'; exact Or.inl ⟨i', a1, e'⟩
  · rintro (⟨i, hi, e⟩ | e)
    · by_cases c1 : i < z_ips P c S.2 S.1
      · refine ⟨i, Nat.lt_succ_of_lt hi, ?_⟩
        show (z_ins P c S.2 S.1 i).1 = L
        unfold z_ins
        rw [if_pos c1]; exact e
      · refine ⟨i + 1, Nat.succ_lt_succ hi, ?_⟩
        show (z_ins P c S.2 S.1 (i + 1)).1 = L
        unfold z_ins
        rw [if_neg (by omega), if_neg (by omega)]; exact e
    · refine ⟨z_ips P c S.2 S.1, Nat.lt_succ_of_le hle, ?_⟩
      show (z_ins P c S.2 S.1 (z_ips P c S.2 S.1)).1 = L
      unfold z_ins
      rw [if_neg (Nat.lt_irrefl _), if_pos rfl]; exact e
theorem z_fy_len {nx : Nat} {g : Nat → z_St → z_St} {Q : Nat → Prop} {L : Nat} (h : ∀ y S, y < 9 → nx.testBit y = true → (z_hasL (g y S) L ↔ z_hasL S L ∨ Q y)) (S : z_St) : ∀ m, m ≤ 9 → (z_hasL (z_fy nx g m S) L ↔ z_hasL S L ∨ ∃ y, y < m ∧ nx.testBit y = true ∧ Q y)
  | 0, _ => ⟨fun q => Or.inl q, fun q => q.elim id (fun ⟨y, hy, _⟩ => absurd hy (Nat.not_lt_zero y))⟩
  | m + 1, hm => by
    have ih := z_fy_len h S m (by omega)
    rw [z_fy]
    by_cases c : nx.testBit m = true
    · rw [if_pos c, h m _ (by omega) c, ih]
      constructor
      · rintro ((q | ⟨y, y1, y2⟩) | q)
        · exact Or.inl q
        · exact Or.inr ⟨y, by omega, y2⟩
        · exact Or.inr ⟨m, by omega, c, q⟩
      · rintro (q | ⟨y, y1, y2, y3⟩)
        · exact Or.inl (Or.inl q)
        · by_cases e : y = m
          · rw [e] at y3; exact Or.inr y3
          · exact Or.inl (Or.inr ⟨y, by omega, y2, y3⟩)
    · rw [if_neg c, ih]
      constructor
      · rintro (q | ⟨y, y1, y2⟩)
        · exact Or.inl q
        · exact Or.inr ⟨y, by omega, y2⟩
      · rintro (q | ⟨y, y1, y2, y3⟩)
        · exact Or.inl q
        · by_cases e : y = m
          · rw [e] at y2; exact absurd y2 c
          · exact Or.inr ⟨y, by omega, y2, y3⟩
theorem z_grow_len (b : Nat) {L : Nat} : ∀ n p k S, z_hasL (z_grow P b n p k S) L ↔ z_hasL S L ∨ ∃ m, L = k + m ∧ z_ln P b n (p k) m
  | 0, p, k, S => ⟨fun q => Or.inl q, fun q => q.elim id (fun ⟨m, _, hm⟩ => hm.elim)⟩
  | n + 1, p, k, S => by
    rw [z_grow]
    by_cases c : p k = b
    · rw [if_pos c, z_sin_len]
      constructor
      · rintro (q | q)
        · exact Or.inl q
        · exact Or.inr ⟨0, q.symm, Or.inl ⟨c, rfl⟩⟩
      · rintro (q | ⟨m, q1, q2⟩)
        · exact Or.inl q
        · rcases q2 with ⟨_, rfl⟩ | ⟨q2, _⟩
          · exact Or.inr q1.symm
          · exact absurd c q2
    · rw [if_neg c, z_fy_len (Q := fun y => ∃ m, L = k + 1 + m ∧ z_ln P b n y m) (fun y S _ _ => by
        rw [z_grow_len b n (z_ud p (k + 1) y) (k + 1) S, z_ud_eq]) S 9 (Nat.le_refl _)]
      constructor
      · rintro (q | ⟨y, y1, y2, m, m1, m2⟩)
        · exact Or.inl q
        · exact Or.inr ⟨m + 1, by omega, Or.inr ⟨c, y, y1, y2, m, rfl, m2⟩⟩
      · rintro (q | ⟨m, q1, q2⟩)
        · exact Or.inl q
        · rcases q2 with ⟨q2, _⟩ | ⟨_, y, y1, y2, m', m1, m2⟩
          · exact absurd q2 c
          · exact Or.inr ⟨y, y1, y2, m', by omega, m2⟩
theorem z_all_len (a b L : Nat) : z_hasL (z_all P a b) L ↔ z_ln P b 9 a L := by
  unfold z_all
  rw [z_grow_len]
  constructor
  · rintro (⟨i, hi, _⟩ | ⟨m, m1, m2⟩)
    · exact absurd hi (Nat.not_lt_zero i)
    · rw [Nat.zero_add] at m1; rw [m1]; exact m2
  · intro h
    exact Or.inr ⟨L, (Nat.zero_add L).symm, h⟩
theorem z_ln_up (b : Nat) : ∀ n x m, z_ln P b n x m → z_ln P b (n + 1) x m
  | 0, _, _, h => h.elim
  | n + 1, x, m, h => by
    rcases h with h | ⟨h1, y, y1, y2, m', m1, m2⟩
    · exact Or.inl h
    · exact Or.inr ⟨h1, y, y1, y2, m', m1, z_ln_up b n y m' m2⟩
theorem z_ln_le {b n x m : Nat} (h : z_ln P b n x m) : ∀ k, z_ln P b (n + k) x m
  | 0 => h
  | k + 1 => z_ln_up b (n + k) x m (z_ln_le h k)
theorem z_ln_app (hw : z_wf P) {x y : Nat} (hx : x < 9) (hy : y < 9) (hxy : (z_ab P x).testBit y = true) (hi : z_inr P x y = 0) : ∀ n a m, a < 9 → (a = x ∨ (z_ab P a).testBit x = true) → z_ln P x n a m → z_ln P y (n + 1) a (m + 1)
  | 0, _, _, _, _, h => h.elim
  | n + 1, a, m, ha, hax, h => by
    have hne : a ≠ y := by
      rintro rfl
      rcases hax with rfl | hax
      · rw [hw.irr a ha] at hxy; cases hxy
      · have := hw.tr a x a ha hx ha hax hxy
        rw [hw.irr a ha] at this; cases this
    rcases h with ⟨rfl, rfl⟩ | ⟨h1, z, z1, z2, m', rfl, m2⟩
    · exact Or.inr ⟨hne, y, hy, (z_nxt_bit hw hy hx hy).mpr ⟨hxy, by rw [z_dn_bit P hy]; simp, hi⟩, 0, rfl, Or.inl ⟨rfl, rfl⟩⟩
    · obtain ⟨b1, b2, b3⟩ := (z_nxt_bit hw hx ha z1).mp z2
      obtain ⟨-, c2⟩ := z_nxt_b hw hx ha z1 z2
      refine Or.inr ⟨hne, z, z1, (z_nxt_bit hw hy ha z1).mpr ⟨b1, ?_, b3⟩, m' + 1, rfl, z_ln_app hw hx hy hxy hi n z m' z1 c2 m2⟩
      rw [z_dn_bit P z1, Bool.or_eq_true]
      rcases c2 with rfl | c2
      · exact Or.inl hxy
      · exact Or.inl (hw.tr z x y z1 hx hy c2 hxy)
theorem z_ln_hst (hw : z_wf P) {a : Nat} (ha : a < 9) : ∀ x, x < 9 → 0 < z_hst P a x → z_ln P x (z_hst P a x) a (z_hst P a x - 1) := z_wfi hw (fun x hx ih h0 => by
  by_cases e : x = a
  · subst e
    rw [z_hst_a hw ha]
    exact Or.inl ⟨rfl, rfl⟩
  · have he := z_hst_eq hw a hx
    rw [if_neg e] at he
    rw [he] at h0
    obtain ⟨y, y1, y2⟩ := z_mxn_at 9 h0
    rw [← he] at y2 h0
    by_cases c : (z_un P x).testBit y = true ∧ 0 < z_hst P a y
    · rw [if_pos c] at y2
      have hyx : (z_ab P y).testBit x = true := by rw [← z_un_bit P y1]; exact c.1
      have hi : z_inr P y x = 0 := z_ext (z_inr_lt hw y1) (by decide) (fun k hk => by
        rw [Nat.zero_testBit]
        cases d : (z_inr P y x).testBit k
        · rfl
        · rw [z_inr_bit hk, Bool.and_eq_true] at d
          have h1 := z_hst_lt hw ha y1 hk c.2 d.1
          have h2 := z_hst_lt hw ha hk hx (by omega) d.2
          omega)
      have hay := (z_hst_up hw ha y y1).mp c.2
      have := z_ln_app hw y1 hx hyx hi _ a _ ha (hay.imp Eq.symm id) (ih y y1 hyx c.2)
      rw [y2, show z_hst P a y + 1 - 1 = z_hst P a y - 1 + 1 by omega]
      exact this
    · rw [if_neg c] at y2; omega)
/-! even, and graded -/
theorem z_mxs_sp (S : z_St) : ∀ n, (∀ i, i < n → (S.2 i).1 ≤ z_mxs S n) ∧ (z_mxs S n = 0 ∨ ∃ i, i < n ∧ (S.2 i).1 = z_mxs S n)
  | 0 => ⟨fun i hi => absurd hi (Nat.not_lt_zero i), Or.inl rfl⟩
  | n + 1 => by
    obtain ⟨h1, h2⟩ := z_mxs_sp S n
    rw [z_mxs]
    by_cases c : z_mxs S n < (S.2 n).1
    · rw [if_pos c]
      refine ⟨fun i hi => ?_, Or.inr ⟨n, by omega, rfl⟩⟩
      by_cases e : i = n
      · rw [e]; exact Nat.le_refl _
      · have := h1 i (by omega); omega
    · rw [if_neg c]
      refine ⟨fun i hi => ?_, h2.imp id (fun ⟨i, i1, i2⟩ => ⟨i, by omega, i2⟩)⟩
      by_cases e : i = n
      · rw [e]; omega
      · exact h1 i (by omega)
theorem z_mns_sp (S : z_St) : ∀ n, (∀ i, i < n → z_mns 9 S n ≤ (S.2 i).1) ∧ (z_mns 9 S n = 9 ∨ ∃ i, i < n ∧ (S.2 i).1 = z_mns 9 S n)
  | 0 => ⟨fun i hi => absurd hi (Nat.not_lt_zero i), Or.inl rfl⟩
  | n + 1 => by
    obtain ⟨h1, h2⟩ := z_mns_sp S n
    rw [z_mns]
    by_cases c : (S.2 n).1 < z_mns 9 S n
    · rw [if_pos c]
      refine ⟨fun i hi => ?_, Or.inr ⟨n, by omega, rfl⟩⟩
      by_cases e : i = n
      · rw [e]; exact Nat.le_refl _
      · have := h1 i (by omega); omega
    · rw [if_neg c]
      refine ⟨fun i hi => ?_, h2.imp id (fun ⟨i, i1, i2⟩ => ⟨i, by omega, i2⟩)⟩
      by_cases e : i = n
      · rw [e]; omega
      · exact h1 i (by omega)
theorem z_evn {S : z_St} (h0 : 0 < S.1) (h8 : ∀ i, i < S.1 → (S.2 i).1 ≤ 8) : z_mxs S S.1 = z_mns 9 S S.1 ↔ ∀ L L', z_hasL S L → z_hasL S L' → L = L' := by
  obtain ⟨a1, a2⟩ := z_mxs_sp S S.1
  obtain ⟨b1, b2⟩ := z_mns_sp S S.1
  constructor
  · rintro e L L' ⟨i, i1, i2⟩ ⟨j, j1, j2⟩
    have := a1 i i1
    have := a1 j j1
    have := b1 i i1
    have := b1 j j1
    omega
  · intro h
    have c1 := h8 0 h0
    have c2 := a1 0 h0
    have c3 := b1 0 h0
    have d1 : z_hasL S (z_mxs S S.1) := by
      rcases a2 with e | ⟨i, i1, i2⟩
      · exact ⟨0, h0, by omega⟩
      · exact ⟨i, i1, i2⟩
    have d2 : z_hasL S (z_mns 9 S S.1) := by
      rcases b2 with e | ⟨i, i1, i2⟩
      · omega
      · exact ⟨i, i1, i2⟩
    exact h _ _ d1 d2
def z_ev2 (P : z_P) (a b : Nat) : Bool := !((z_th P).testBit a && (z_th P).testBit b && (z_ab P a).testBit b) || decide (z_mxs (z_all P a b) (z_all P a b).1 = z_mns 9 (z_all P a b) (z_all P a b).1)
theorem z_covu (hw : z_wf P) {a x y : Nat} (ha : a < 9) (hx : x < 9) (hy : y < 9) (hax : (z_up P a).testBit x = true) : (z_cov P x (z_up P a)).testBit y = true ↔ (z_ab P x).testBit y = true ∧ z_inr P x y = 0 := by
  have hup : ∀ k, k < 9 → (z_ab P x).testBit k = true → (z_up P a).testBit k = true := fun k hk hb => by
    rw [z_up_bit, Bool.or_eq_true, decide_eq_true_eq] at hax ⊢
    rcases hax with h | rfl
    · exact Or.inl (hw.tr a x k ha hx hk h hb)
    · exact Or.inl hb
  have e : z_ab P x &&& z_up P a = z_ab P x := z_ext (z_and_lt _ (hw.ab x hx)) (hw.ab x hx) (fun k hk => by
    rw [Nat.testBit_and]
    cases c : (z_ab P x).testBit k
    · rfl
    · rw [hup k hk c]; rfl)
  unfold z_cov z_en
  rw [z_mk_bit, e]
  simp only [hy, decide_true, Bool.true_and, Bool.and_eq_true, beq_iff_eq]
  have e2 : z_ab P x &&& z_un P y = z_inr P x y := z_ext (z_and_lt _ (hw.ab x hx)) (z_inr_lt hw hx) (fun k hk => by
    rw [Nat.testBit_and, z_un_bit P hk, z_inr_bit hk])
  rw [e2]
def z_grd (P : z_P) (a : Nat) : Bool := z_alb (fun x => z_alb (fun y => !((z_up P a).testBit x && (z_cov P x (z_up P a)).testBit y) || decide (z_hst P a y = z_hst P a x + 1)) 9) 9
theorem z_up_iff {a x : Nat} : (z_up P a).testBit x = true ↔ x = a ∨ (z_ab P a).testBit x = true := by
  rw [z_up_bit, Bool.or_eq_true, decide_eq_true_eq]
  exact Or.comm
theorem z_grd_iff (hw : z_wf P) {a : Nat} (ha : a < 9) : z_grd P a = true ↔ ∀ x y, x < 9 → y < 9 → (x = a ∨ (z_ab P a).testBit x = true) → (z_ab P x).testBit y = true → z_inr P x y = 0 → z_hst P a y = z_hst P a x + 1 := by
  unfold z_grd
  simp only [z_alb_iff, Bool.or_eq_true, Bool.not_eq_true', decide_eq_true_eq]
  constructor
  · intro h x y hx hy h1 h2 h3
    have h1' := z_up_iff.mpr h1
    rcases h x hx y hy with c | c
    · rw [h1', (z_covu hw ha hx hy h1').mpr ⟨h2, h3⟩] at c; cases c
    · exact c
  · intro h x hx y hy
    cases c1 : (z_up P a).testBit x
    · exact Or.inl rfl
    · cases c2 : (z_cov P x (z_up P a)).testBit y
      · exact Or.inl rfl
      · obtain ⟨d1, d2⟩ := (z_covu hw ha hx hy c1).mp c2
        exact Or.inr (h x y hx hy (z_up_iff.mp c1) d1 d2)
theorem z_ln_grd (hw : z_wf P) {a b : Nat} (ha : a < 9) (hb : b < 9) (hg : z_grd P a = true) : ∀ n x m, x < 9 → (x = a ∨ (z_ab P a).testBit x = true) → z_ln P b n x m → z_hst P a b = z_hst P a x + m
  | 0, _, _, _, _, h => h.elim
  | n + 1, x, m, hx, hax, h => by
    rcases h with ⟨rfl, rfl⟩ | ⟨h1, y, y1, y2, m', rfl, m2⟩
    · rfl
    · obtain ⟨b1, b2, b3⟩ := (z_nxt_bit hw hb hx y1).mp y2
      have hay : y = a ∨ (z_ab P a).testBit y = true := by
        rcases hax with rfl | hax
        · exact Or.inr b1
        · exact Or.inr (hw.tr a x y ha hx y1 hax b1)
      have h3 := (z_grd_iff hw ha).mp hg x y hx y1 hax b1 b3
      have h4 := z_ln_grd hw ha hb hg n y m' y1 hay m2
      omega
theorem z_grd_ev (hw : z_wf P) : z_alb (fun a => !(z_th P).testBit a || z_grd P a) 9 = z_alb (fun a => z_alb (fun b => z_ev2 P a b) 9) 9 := by
  have h8 : ∀ a b, a < 9 → b < 9 → (z_th P).testBit a = true → (z_ab P a).testBit b = true → ∀ i, i < (z_all P a b).1 → ((z_all P a b).2 i).1 ≤ 8 := fun a b ha hb ta hab i hi => by
    have hs := z_all_sat (P := P) (b := b) ha i hi
    have := z_cset_pc hw hb hs
    have := z_pc_le (z_cset ((z_all P a b).2 i))
    omega
  have hev : ∀ a b, a < 9 → b < 9 → (z_th P).testBit a = true → (z_th P).testBit b = true → (z_ab P a).testBit b = true → (z_ev2 P a b = true ↔ ∀ L L', z_ln P b 9 a L → z_ln P b 9 a L' → L = L') := fun a b ha hb ta tb hab => by
    unfold z_ev2
    rw [ta, tb, hab, Bool.and_self, Bool.and_self, Bool.not_true, Bool.false_or, decide_eq_true_eq, z_evn (z_all_pos hw ha hb (Or.inr hab)) (h8 a b ha hb ta hab)]
    simp only [z_all_len]
  rw [Bool.eq_iff_iff, z_alb_iff, z_alb_iff]
  constructor
  · intro h a ha
    refine z_alb_iff.mpr (fun b hb => ?_)
    by_cases c : (z_th P).testBit a = true ∧ (z_th P).testBit b = true ∧ (z_ab P a).testBit b = true
    · rw [hev a b ha hb c.1 c.2.1 c.2.2]
      intro L L' h1 h2
      have hg := h a ha
      rw [c.1, Bool.not_true, Bool.false_or] at hg
      have e1 := z_ln_grd hw ha hb hg 9 a L ha (Or.inl rfl) h1
      have e2 := z_ln_grd hw ha hb hg 9 a L' ha (Or.inl rfl) h2
      omega
    · unfold z_ev2
      cases c1 : (z_th P).testBit a
      · rfl
      · cases c2 : (z_th P).testBit b
        · rfl
        · cases c3 : (z_ab P a).testBit b
          · rfl
          · exact absurd ⟨c1, c2, c3⟩ c
  · intro h a ha
    cases ta : (z_th P).testBit a
    · rfl
    · rw [Bool.not_true, Bool.false_or, z_grd_iff hw ha]
      intro x y hx hy h1 h2 h3
      have hay : (z_ab P a).testBit y = true := by
        rcases h1 with rfl | h1
        · exact h2
        · exact hw.tr a x y ha hx hy h1 h2
      have ty := (hw.in a y ha hy hay).2
      have hE := (hev a y ha hy ta ty hay).mp (z_alb_iff.mp (h a ha) y hy)
      have hx0 := (z_hst_up hw ha x hx).mpr h1
      have hy0 := (z_hst_up hw ha y hy).mpr (Or.inr hay)
      have h9 := z_hst_9 hw a hy
      have hlt := z_hst_lt hw ha hx hy hx0 h2
      have l1 := z_ln_le (z_ln_hst hw ha y hy hy0) (9 - z_hst P a y)
      rw [show z_hst P a y + (9 - z_hst P a y) = 9 by omega] at l1
      have l2 := z_ln_le (z_ln_app hw hx hy h2 h3 _ a _ ha (h1.imp Eq.symm id) (z_ln_hst hw ha x hx hx0)) (9 - (z_hst P a x + 1))
      rw [show z_hst P a x + 1 + (9 - (z_hst P a x + 1)) = 9 by omega] at l2
      have := hE _ _ l1 l2
      omega
end
