section
variable {u w : z_M} {P : z_P} {I : Nat} {h : Nat → Nat}
/-! Rows by heights. -/
def z_pv (s : Nat) : Nat → Nat
  | 0 => 0
  | n + 1 => if n ≠ 0 ∧ s.testBit n = true then n else z_pv s n
theorem z_pv_s (s n : Nat) : z_pv s (n + 1) = if n ≠ 0 ∧ s.testBit n = true then n else z_pv s n := rfl
theorem z_pv_ok {s : Nat} : ∀ n, z_pv s n ≠ 0 → z_pv s n < n ∧ s.testBit (z_pv s n) = true
  | 0, hn => absurd rfl hn
  | n + 1, hn => by
    rw [z_pv_s] at hn ⊢
    by_cases c : n ≠ 0 ∧ s.testBit n = true
    · rw [if_pos c]; exact ⟨by omega, c.2⟩
    · rw [if_neg c] at hn ⊢
      obtain ⟨a, b⟩ := z_pv_ok n hn
      exact ⟨by omega, b⟩
theorem z_pv_cg {s s' : Nat} : ∀ n, (∀ k, k < n → s.testBit k = s'.testBit k) → z_pv s n = z_pv s' n
  | 0, _ => rfl
  | n + 1, hh => by rw [z_pv_s, z_pv_s, hh n (by omega), z_pv_cg n (fun k hk => hh k (by omega))]
theorem z_pv_ext {s m : Nat} (hm : ∀ k, m ≤ k → s.testBit k = false) : ∀ n, m ≤ n → z_pv s n = z_pv s m
  | 0, hn => by rw [show m = 0 by omega]
  | n + 1, hn => by
    by_cases e : m = n + 1
    · rw [e]
    · rw [z_pv_s, if_neg (fun c => by rw [hm n (by omega)] at c; cases c.2), z_pv_ext hm n (by omega)]
def z_fg (P : z_P) (I : Nat) (h : Nat → Nat) (s : Nat) (V : Nat → Int32) (x : Nat) : Int32 := if z_pv s (h x) = 0 then 1 else z_su (fun y => if I.testBit y && (z_un P x).testBit y && (h y == z_pv s (h x)) then V y else 0) 9
theorem z_fg_cg {s : Nat} {V V' : Nat → Int32} {x : Nat} (hh : ∀ y, y < 9 → I.testBit y = true → (z_un P x).testBit y = true → h y = z_pv s (h x) → z_pv s (h x) ≠ 0 → V y = V' y) : z_fg P I h s V x = z_fg P I h s V' x := by
  unfold z_fg
  by_cases c : z_pv s (h x) = 0
  · rw [if_pos c, if_pos c]
  · rw [if_neg c, if_neg c]
    refine z_su_cg (fun y hy => ?_)
    by_cases d : (I.testBit y && (z_un P x).testBit y && (h y == z_pv s (h x))) = true
    · rw [if_pos d, if_pos d]
      rw [Bool.and_eq_true, Bool.and_eq_true, beq_iff_eq] at d
      exact hh y hy d.1.1 d.1.2 d.2 c
    · rw [if_neg d, if_neg d]
def z_fln (P : z_P) (I : Nat) (h : Nat → Nat) (s : Nat) : Nat → Nat → Int32
  | 0, _ => 0
  | n + 1, x => z_fg P I h s (z_fln P I h s n) x
def z_flv (P : z_P) (I : Nat) (h : Nat → Nat) (s x : Nat) : Int32 := z_fln P I h s 9 x
theorem z_fl_uq (hw : z_wf P) {s : Nat} {V : Nat → Int32} (hV : ∀ x, x < 9 → I.testBit x = true → s.testBit (h x) = true → V x = z_fg P I h s V x) {x : Nat} (hx : x < 9) (hIx : I.testBit x = true) (hsx : s.testBit (h x) = true) : V x = z_flv P I h s x := by
  have key : ∀ n x, x < 9 → I.testBit x = true → s.testBit (h x) = true → z_pc (z_un P x) < n → V x = z_fln P I h s n x := by
    intro n
    induction n with
    | zero => intro x _ _ _ hh; omega
    | succ n ih =>
      intro x hx hIx hsx hp
      rw [hV x hx hIx hsx, z_fln]
      refine z_fg_cg (fun y hy hI hu he hne => ?_)
      rw [z_un_bit P hy] at hu
      have := z_un_st hw hy hx hu
      exact ih y hy hI (by rw [he]; exact (z_pv_ok _ hne).2) (by omega)
  have := z_un_8 hw hx
  exact key 9 x hx hIx hsx (by omega)
theorem z_fl_st (hw : z_wf P) (s : Nat) : ∀ n x, x < 9 → z_pc (z_un P x) < n → z_fln P I h s (n + 1) x = z_fln P I h s n x
  | 0, x, _, hh => absurd hh (Nat.not_lt_zero _)
  | n + 1, x, hx, hp => by
    rw [z_fln, z_fln]
    refine z_fg_cg (fun y hy hI hu he hne => ?_)
    rw [z_un_bit P hy] at hu
    have := z_un_st hw hy hx hu
    exact z_fl_st hw s n y hy (by omega)
theorem z_fl_fix (hw : z_wf P) (s : Nat) {x : Nat} (hx : x < 9) : z_flv P I h s x = z_fg P I h s (z_flv P I h s) x := by
  show z_fln P I h s (8 + 1) x = _
  rw [z_fln]
  refine z_fg_cg (fun y hy hI hu he hne => ?_)
  rw [z_un_bit P hy] at hu
  have := z_un_st hw hy hx hu
  have := z_un_8 hw hx
  exact (z_fl_st hw s 8 y hy (by omega)).symm
theorem z_fl_cg (hw : z_wf P) {s s' : Nat} : ∀ x, x < 9 → (∀ k, k < h x → s.testBit k = s'.testBit k) → z_flv P I h s x = z_flv P I h s' x := z_wfi hw (fun x hx ih hk => by
  rw [z_fl_fix hw s hx, z_fl_fix hw s' hx]
  have e : z_pv s (h x) = z_pv s' (h x) := z_pv_cg _ hk
  unfold z_fg
  rw [e]
  by_cases c : z_pv s' (h x) = 0
  · rw [if_pos c, if_pos c]
  · rw [if_neg c, if_neg c]
    refine z_su_cg (fun y hy => ?_)
    by_cases d : (I.testBit y && (z_un P x).testBit y && (h y == z_pv s' (h x))) = true
    · rw [if_pos d, if_pos d]
      rw [Bool.and_eq_true, Bool.and_eq_true, beq_iff_eq, z_un_bit P hy] at d
      have := (z_pv_ok _ c).1
      exact ih y hy d.1.2 (fun k hk' => hk k (by omega))
    · rw [if_neg d, if_neg d])
def z_fgv (P : z_P) (I : Nat) (h : Nat → Nat) (s : Nat) : Int32 := if z_pv s 9 = 0 then 1 else z_su (fun x => if I.testBit x && (h x == z_pv s 9) then z_flv P I h s x else 0) 9
/-! the class's -/
theorem s8_atHeights {s : Nat} (hI : I < 512) (hs : s < 512) (hh : ∀ x, x < 9 → I.testBit x = true → u.1 127 x = nI (h x) ∧ h x < 9) : f_X8_atHeights (nI I) (nI s) u = some (nI (z_mk (fun x => I.testBit x && s.testBit (h x)) 9)) := by
  rw [← z_ok_eq]
  unfold f_X8_atHeights
  refine z_ok_l9 (fun j q => q = (nI (z_mk (fun x => I.testBit x && s.testBit (h x)) j), nI j)) rfl ?_ ?_
  · rintro j q hi rfl kb hk
    unfold b_X8_atHeights_5
    simp only [z_le9 hi, z_le9n hi, z_in9 hi, z_c9 hi, z_sh hi, z_is_nI hi, if_false, if_true, Option.bind_some, z_ok_gd, z_ok_lt, z_ok_some, z_ok_ite, z_ok_bind, z_ok_b2, z_bi_0, Bool.not_eq_false, z_gI, z_and, z_or, z_andc, z_1, true_and, and_true, s_isIn hI]
    refine ⟨fun c => hk _ ?_, fun c => ?_⟩
    · rw [z_mk_0 _ j (by simp [c])]
    · obtain ⟨g1, g2⟩ := hh j hi c
      rw [g1, s_isIn hs, z_ok_some, z_is_nI g2, z_bi_0, Bool.not_eq_false]
      refine ⟨fun d => hk _ ?_, fun d => hk _ ?_⟩
      · rw [z_mk_0 _ j (by simp [d])]
      · rw [z_mk_1 _ j (by simp [c, d])]
  · rintro q rfl kb
    unfold b_X8_atHeights_5
    simp only [z_99, if_true, z_ok_some]
def z_lv (I : Nat) (h : Nat → Nat) (k : Nat) : Nat := z_mk (fun x => I.testBit x && (2 ^ k).testBit (h x)) 9
theorem z_lv_bit {k x : Nat} (hx : x < 9) : (z_lv I h k).testBit x = (I.testBit x && decide (h x = k)) := by
  rw [z_lv, z_mk_bit, Nat.testBit_two_pow]
  by_cases e : k = h x
  · simp [hx, e]
  · have : ¬ h x = k := fun c => e c.symm
    simp [e, this]
theorem z_lv_lt (k : Nat) : z_lv I h k < 512 := z_mk_lt _ 9
/-- the set of the last heights that were -/
def z_lst2 (I : Nat) (h : Nat → Nat) (s k : Nat) : Nat := if z_pv s k = 0 then 0 else z_lv I h (z_pv s k)
theorem z_lst2_lt (s k : Nat) : z_lst2 I h s k < 512 := by
  unfold z_lst2
  split
  · decide
  · exact z_lv_lt _
def z_fI (u : z_M) (P : z_P) (I : Nat) (h : Nat → Nat) (s k : Nat) (v : z_M) : Prop := (∀ j, j ≠ 128 → v.1 j = u.1 j) ∧ ∀ x, x < 9 → I.testBit x = true → s.testBit (h x) = true → h x < k → v.1 128 x = z_fg P I h s (v.1 128) x
theorem s8_flag_in (hr : z_rc u 0 P) {s k : Nat} (hk : k < 9) (hsk : s.testBit k = true) {v : z_M} (hv : z_fI u P I h s k v) {c1 c2 c3 : Int32} {kx : (Int32 × z_M) → Option (Int32 × z_M)} {Q : (Int32 × z_M) → Prop} (hq : ∀ v', z_fI u P I h s (k + 1) v' → z_ok (kx (z_su (fun x => if I.testBit x && (h x == k) then v'.1 128 x else 0) 9, v')) Q) : z_ok (z_lp (b_X8_flagOf_48 0 c1 c2 (nI (z_lst2 I h s k)) (if z_pv s k = 0 then 1 else 0) c3 (nI (z_lv I h k))) z_F (0, 0, v) kx) Q := by
  have hgx : ∀ V, ∀ x, x < 9 → (∀ y, y < 9 → h y ≠ k → V y = v.1 128 y) → I.testBit x = true → h x ≤ k → z_fg P I h s V x = z_fg P I h s (v.1 128) x := fun V x hx hV hIx hxk => z_fg_cg (fun y hy hI hu he hne => by
    have := (z_pv_ok _ hne).1
    exact hV y hy (by omega))
  refine z_ok_l9 (fun j q => q.2.1 = nI j ∧ (∀ i, i ≠ 128 → q.2.2.1 i = u.1 i) ∧ (∀ x, x < 9 → q.2.2.1 128 x = if x < j ∧ I.testBit x = true ∧ h x = k then z_fg P I h s (v.1 128) x else v.1 128 x) ∧ q.1 = z_su (fun x => if I.testBit x && (h x == k) then z_fg P I h s (v.1 128) x else 0) j) ⟨rfl, hv.1, fun x _ => by simp, rfl⟩ ?_ ?_
  · rintro j ⟨t, jj, v1⟩ hi ⟨e1, e2, e3, e4⟩ kb hkb
    dsimp only at e1 e2 e3 e4
    subst e1 e4
    have h2 : v1.1 (0 + 2) j = nI (z_un P j) := by
      rw [e2 _ (by decide)]
      exact hr.2.2.2.2.1 j hi
    have h2' : v1.1 2 j = nI (z_un P j) := h2
    have hset : ∀ c : Int32, I.testBit j = true → h j = k → c = z_fg P I h s (v.1 128) j → z_ok (kb (z_su (fun x => if I.testBit x && (h x == k) then z_fg P I h s (v.1 128) x else 0) j + c, nI (j + 1), z_sI v1 128 j c)) Q := by
      intro c hIj hjk hc
      refine hkb _ ⟨rfl, fun i hi => ?_, fun x hx => ?_, ?_⟩
      · try dsimp only
        rw [z_sI_ne hi]; exact e2 i hi
      · simp only [z_sI_1, true_and]
        by_cases e : j = x
        · subst e; rw [if_pos rfl, if_pos ⟨by omega, hIj, hjk⟩, hc]
        · rw [if_neg e, e3 x hx]
          have : (x < j + 1 ∧ I.testBit x = true ∧ h x = k) = (x < j ∧ I.testBit x = true ∧ h x = k) := propext ⟨fun c => ⟨by omega, c.2⟩, fun c => ⟨by omega, c.2⟩⟩
          simp only [this]
      · try dsimp only
        rw [z_su, hc]
        simp [hIj, hjk]
    have hval : f_X8_valuesIn (nI (z_un P j &&& z_lst2 I h s k)) v1 = some (z_su (fun y => if (z_un P j &&& z_lst2 I h s k).testBit y then v1.1 128 y else 0) 9) := s8_valuesIn (z_and_lt _ (z_un_lt P j))
    unfold b_X8_flagOf_48
    simp only [z_le9 hi, if_false, s_isIn (z_lv_lt k), z_is_nI hi, Option.bind_some, z_ok_ite, z_bi_0, Bool.not_eq_false, z_in9 hi, z_ok_gd, true_and, z_ok_lt, z_gI, z_c9 hi, h2, h2', z_and, hval, z_sI_1, and_self, if_true, z_1]
    refine ⟨fun c => hkb _ ⟨rfl, e2, fun x hx => ?_, ?_⟩, fun c => ?_⟩
    · try dsimp only
      rw [e3 x hx]
      by_cases e : x = j
      · subst e
        rw [z_lv_bit hx] at c
        have : ¬ (I.testBit x = true ∧ h x = k) := fun d => by simp [d.1, d.2] at c
        rw [if_neg (fun d => this d.2), if_neg (fun d => this d.2)]
      · have : (x < j + 1 ∧ I.testBit x = true ∧ h x = k) = (x < j ∧ I.testBit x = true ∧ h x = k) := propext ⟨fun c => ⟨by omega, c.2⟩, fun c => ⟨by omega, c.2⟩⟩
        simp only [this]
    · try dsimp only
      rw [z_lv_bit hi] at c
      rw [z_su]
      by_cases d : h j = k
      · have : I.testBit j = false := by simpa [d] using c
        simp [this, z_add0]
      · simp [d, z_add0]
    · rw [z_lv_bit hi, Bool.and_eq_true, decide_eq_true_eq] at c
      by_cases hp : z_pv s k = 0
      · simp only [hp, if_true, show ((1 : Int32) = 0) = False by decide, false_implies, not_false_iff, true_implies, true_and]
        refine hset 1 c.1 c.2 ?_
        unfold z_fg
        rw [c.2, if_pos hp]
      · simp only [hp, if_false, true_implies, not_true, false_implies, and_true]
        refine hset _ c.1 c.2 ?_
        unfold z_fg
        rw [c.2, if_neg hp]
        refine z_su_cg (fun y hy => ?_)
        have e5 : (z_un P j &&& z_lst2 I h s k).testBit y = (I.testBit y && (z_un P j).testBit y && (h y == z_pv s k)) := by
          rw [Nat.testBit_and, z_lst2, if_neg hp, z_lv_bit hy]
          have eb : (h y == z_pv s k) = decide (h y = z_pv s k) := rfl
          rw [eb]
          cases (z_un P j).testBit y <;> cases I.testBit y <;> simp
        rw [e5]
        by_cases d : (I.testBit y && (z_un P j).testBit y && (h y == z_pv s k)) = true
        · rw [if_pos d, if_pos d, e3 y hy, if_neg]
          rw [Bool.and_eq_true, Bool.and_eq_true, beq_iff_eq] at d
          have := (z_pv_ok _ hp).1
          rintro ⟨-, -, d3⟩
          omega
        · rw [if_neg d, if_neg d]
  · rintro ⟨t, jj, v1⟩ ⟨e1, e2, e3, e4⟩ kb
    dsimp only at e1 e2 e3 e4
    subst e1 e4
    have hV : ∀ y, y < 9 → h y ≠ k → v1.1 128 y = v.1 128 y := fun y hy hne => by rw [e3 y hy, if_neg (fun c => hne c.2.2)]
    have hfin : z_su (fun x => if I.testBit x && (h x == k) then z_fg P I h s (v.1 128) x else 0) 9 = z_su (fun x => if I.testBit x && (h x == k) then v1.1 128 x else 0) 9 := z_su_cg (fun x hx => by
      by_cases d : (I.testBit x && (h x == k)) = true
      · rw [if_pos d, if_pos d]
        rw [Bool.and_eq_true, beq_iff_eq] at d
        rw [e3 x hx, if_pos ⟨hx, d.1, d.2⟩]
      · rw [if_neg d, if_neg d])
    unfold b_X8_flagOf_48
    simp only [z_99, if_true]
    rw [hfin]
    refine hq v1 ⟨e2, fun x hx hIx hsx hxk => ?_⟩
    rw [hgx _ x hx hV hIx (by omega), e3 x hx]
    by_cases e : h x = k
    · rw [if_pos ⟨hx, hIx, e⟩]
    · rw [if_neg (fun c => e c.2.2)]
      exact hv.2 x hx hIx hsx (by omega)
theorem s8_flagOf (hr : z_rc u 0 P) (hw : z_wf P) {s : Nat} (hI : I < 512) (hs : s < 512) (hh : ∀ x, x < 9 → I.testBit x = true → u.1 127 x = nI (h x) ∧ h x < 9 ∧ 0 < h x) : z_ok (f_X8_flagOf 0 (nI I) (nI s) u) (fun q => q.1 = z_fgv P I h s ∧ ∀ j, j ≠ 128 → q.2.1 j = u.1 j) := by
  unfold f_X8_flagOf
  refine z_ok_lp (fun j q => q.2.2.2.1 = nI (j + 1) ∧ z_fI u P I h s (j + 1) q.2.2.2.2 ∧ q.2.1 = nI (z_lst2 I h s (j + 1)) ∧ q.2.2.1 = (if z_pv s (j + 1) = 0 then 1 else 0) ∧ q.1 = (if z_pv s (j + 1) = 0 then 1 else z_su (fun x => if I.testBit x && (h x == z_pv s (j + 1)) then q.2.2.2.2.1 128 x else 0) 9)) 8 (by decide) ⟨rfl, ⟨fun _ _ => rfl, fun x hx hIx _ c => absurd c (by have := (hh x hx hIx).2.2; omega)⟩, ?_, ?_, ?_⟩ ?_ ?_
  · simp [z_lst2, z_pv, nI_0]
  · simp [z_pv]
  · simp [z_pv]
  · rintro j ⟨t, l, f, kk, v⟩ hj ⟨e1, e2, e3, e4, e5⟩ kb hkb
    dsimp only at e1 e2 e3 e4 e5
    subst e1 e3 e4
    have hj1 : j + 1 < 9 := by omega
    unfold b_X8_flagOf_12
    dsimp only
    rw [if_neg (show ¬ (9 : Int32) ≤ nI (j + 1) by rw [z_le9 hj1]; exact id), s_isIn hs, Option.bind_some, z_is_nI hj1, z_ok_bit, z_1, z_sh hj1]
    refine ⟨fun c => ?_, fun c => ?_⟩
    · have hpv : z_pv s (j + 1 + 1) = z_pv s (j + 1) := by
        rw [z_pv_s]
        exact if_neg (fun d => by rw [c] at d; cases d.2)
      refine hkb _ ⟨rfl, ⟨e2.1, fun x hx hIx hsx hxk => e2.2 x hx hIx hsx ?_⟩, ?_, ?_, ?_⟩
      · have : h x ≠ j + 1 := by intro e; rw [e, c] at hsx; cases hsx
        omega
      · try dsimp only
        unfold z_lst2
        rw [hpv]
      · try dsimp only
        rw [hpv]
      · try dsimp only
        rw [hpv]
        exact e5
    · have hpv : z_pv s (j + 1 + 1) = j + 1 := by rw [z_pv_s, if_pos ⟨by omega, c⟩]
      have hat := s8_atHeights (u := v) (s := 2 ^ (j + 1)) hI (z_pw_lt hj1) (h := h) (fun x hx hIx => by
        rw [e2.1 127 (by decide)]
        exact ⟨(hh x hx hIx).1, (hh x hx hIx).2.1⟩)
      rw [hat, Option.bind_some]
      refine s8_flag_in hr hj1 c e2 (fun v' hv' => ?_)
      refine hkb _ ⟨rfl, hv', ?_, ?_, ?_⟩
      · try dsimp only
        unfold z_lst2
        rw [hpv, if_neg (by omega)]
        rfl
      · try dsimp only
        rw [hpv, if_neg (by omega)]
      · try dsimp only
        rw [hpv, if_neg (by omega)]
  · rintro ⟨t, l, f, kk, v⟩ ⟨e1, e2, e3, e4, e5⟩ kb
    dsimp only at e1 e2 e3 e4 e5
    subst e1
    unfold b_X8_flagOf_12
    dsimp only
    rw [if_pos (by decide), z_ok_some]
    refine ⟨?_, e2.1⟩
    rw [e5]
    unfold z_fgv
    by_cases c : z_pv s 9 = 0
    · rw [if_pos c, if_pos c]
    · rw [if_neg c, if_neg c]
      refine z_su_cg (fun x hx => ?_)
      by_cases d : (I.testBit x && (h x == z_pv s 9)) = true
      · rw [if_pos d, if_pos d]
        rw [Bool.and_eq_true, beq_iff_eq] at d
        exact z_fl_uq hw (V := v.1 128) (fun x hx hIx hsx => e2.2 x hx hIx hsx (hh x hx hIx).2.1) hx d.1 (by rw [d.2]; exact (z_pv_ok _ c).2)
      · rw [if_neg d, if_neg d]
end
