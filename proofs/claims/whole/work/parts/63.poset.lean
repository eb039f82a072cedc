section
variable {u : z_M} {P : z_P} {i : Nat}
/-- what ends a set on a side -/
def z_en (s : Nat) (f : Nat → Nat) : Nat := z_mk (fun y => s.testBit y && (s &&& f y) == 0) 9
def z_up (P : z_P) (x : Nat) : Nat := z_ab P x ||| 2 ^ x
def z_dn (P : z_P) (x : Nat) : Nat := z_un P x ||| 2 ^ x
def z_bt (P : z_P) (a b : Nat) : Nat := z_up P a &&& z_dn P b
def z_inr (P : z_P) (a b : Nat) : Nat := z_ab P a &&& z_un P b
def z_cov (P : z_P) (x S : Nat) : Nat := z_en (z_ab P x &&& S) (z_un P)
def z_cvd (P : z_P) (x S : Nat) : Nat := z_en (z_un P x &&& S) (z_ab P)
theorem z_en_lt (s : Nat) (f : Nat → Nat) : z_en s f < 512 := z_mk_lt _ 9
theorem z_up_lt (hw : z_wf P) {x : Nat} (hx : x < 9) : z_up P x < 512 := z_or_lt (hw.ab x hx) (z_pw_lt hx)
theorem z_dn_lt {x : Nat} (hx : x < 9) : z_dn P x < 512 := z_or_lt (z_un_lt P x) (z_pw_lt hx)
theorem s6_endsOf {s : Nat} (hs : s < 512) {f : Nat → Nat} {pl : Nat} (h : ∀ x, x < 9 → u.1 pl x = nI (f x)) : f_X6_endsOf (nI s) pl 9 u = some (nI (z_en s f)) := by
  rw [← z_ok_eq]
  unfold f_X6_endsOf
  refine z_ok_l9 (fun i q => q = (nI (z_mk (fun y => s.testBit y && (s &&& f y) == 0) i), nI i)) rfl ?_ ?_
  · rintro i q hi rfl kb hk
    unfold b_X6_endsOf_4
    simp only [z_le9 hi, z_le9n hi, z_in9 hi, z_c9 hi, z_sh hi, z_is_nI hi, if_false, if_true, Option.bind_some, z_ok_gd, z_ok_lt, z_ok_some, z_ok_ite, z_ok_bind, z_ok_b2, z_bi_0, Bool.not_eq_false, z_gI, z_and, z_or, z_andc, z_1, true_and, and_true, s_isIn hs, h i hi, z_and0 hs]
    refine ⟨fun h1 => hk _ ?_, fun h1 => ⟨fun h2 => hk _ ?_, fun h2 => hk _ ?_⟩⟩
    · rw [z_mk_0 _ i (by simp [h1])]
    · rw [z_mk_1 _ i (by simp [h1, h2])]
    · rw [z_mk_0 _ i (by simp [h1, h2])]
  · rintro q rfl kb
    unfold b_X6_endsOf_4
    simp only [z_99, if_true, z_ok_some, z_en]
theorem s6_atLeast (hr : z_rc u i P) (hw : z_wf P) {x : Nat} (hx : x < 9) : f_X6_atLeast i (nI x) u = some (nI (if (z_th P).testBit x then z_up P x else 0)) := by
  unfold f_X6_atLeast
  simp only [s6_has hr hw, z_is_nI hx, Option.bind_some, z_bi_0, z_in9 hx, z_c9 hx, z_sh hx, z_gd, if_true, z_gI, hr.2.2.2.1 x hx, z_or]
  cases (z_th P).testBit x <;> simp [z_up, nI_0]
theorem s6_atMost (hr : z_rc u i P) (hw : z_wf P) {x : Nat} (hx : x < 9) : f_X6_atMost i (nI x) u = some (nI (if (z_th P).testBit x then z_dn P x else 0)) := by
  unfold f_X6_atMost
  simp only [s6_has hr hw, z_is_nI hx, Option.bind_some, z_bi_0, z_in9 hx, z_c9 hx, z_sh hx, z_gd, if_true, z_gI, hr.2.2.2.2.1 x hx, z_or]
  cases (z_th P).testBit x <;> simp [z_dn, nI_0]
theorem s6_between (hr : z_rc u i P) (hw : z_wf P) {a b : Nat} (ha : a < 9) (hb : b < 9) (ta : (z_th P).testBit a = true) (tb : (z_th P).testBit b = true) : f_X6_between i (nI a) (nI b) u = some (nI (z_bt P a b)) := by
  unfold f_X6_between
  simp only [s6_atLeast hr hw ha, s6_atMost hr hw hb, ta, tb, if_true, Option.bind_some, z_and, z_bt]
theorem s6_innerOf (hr : z_rc u i P) (hw : z_wf P) {a b : Nat} (ha : a < 9) (hb : b < 9) (ta : (z_th P).testBit a = true) (tb : (z_th P).testBit b = true) : f_X6_innerOf i (nI a) (nI b) u = some (nI (z_inr P a b)) := by
  unfold f_X6_innerOf
  simp only [s6_has hr hw, z_is_nI ha, z_is_nI hb, ta, tb, Option.bind_some, z_bi_0, Bool.true_eq_false, if_false, z_in9 ha, z_in9 hb, z_c9 ha, z_c9 hb, z_gd, if_true, z_gI, hr.2.2.2.1 a ha, hr.2.2.2.2.1 b hb, z_and, z_inr]
theorem s6_coverers (hr : z_rc u i P) (hw : z_wf P) {x S : Nat} (hx : x < 9) : f_X6_coverers i (nI x) (nI S) u = some (nI (if (z_th P).testBit x then z_cov P x S else 0)) := by
  unfold f_X6_coverers
  simp only [s6_has hr hw, z_is_nI hx, Option.bind_some, z_bi_0, z_in9 hx, z_c9 hx, z_gd, if_true, z_gI, hr.2.2.2.1 x hx, z_and, s6_endsOf (u := u) (pl := i + 2) (f := z_un P) (z_and_lt S (hw.ab x hx)) hr.2.2.2.2.1]
  cases (z_th P).testBit x <;> simp [z_cov, nI_0]
theorem s6_covered (hr : z_rc u i P) (hw : z_wf P) {x S : Nat} (hx : x < 9) : f_X6_covered i (nI x) (nI S) u = some (nI (if (z_th P).testBit x then z_cvd P x S else 0)) := by
  unfold f_X6_covered
  simp only [s6_has hr hw, z_is_nI hx, Option.bind_some, z_bi_0, z_in9 hx, z_c9 hx, z_gd, if_true, z_gI, hr.2.2.2.2.1 x hx, z_and, s6_endsOf (u := u) (pl := i + 1) (f := z_ab P) (z_and_lt S (z_un_lt P x)) hr.2.2.2.1]
  cases (z_th P).testBit x <;> simp [z_cvd, nI_0]
theorem s6_isEdge (hr : z_rc u i P) (hw : z_wf P) {a b : Nat} (ha : a < 9) (hb : b < 9) (ta : (z_th P).testBit a = true) (tb : (z_th P).testBit b = true) : f_X6_isEdge i (nI a) (nI b) u = some (z_bi ((z_ab P a).testBit b && z_inr P a b == 0)) := by
  unfold f_X6_isEdge
  simp only [s6_isUnder hr hw, s6_innerOf hr hw ha hb ta tb, z_is_nI ha, z_c9 ha, z_is_nI hb, ta, Bool.true_and, Option.bind_some, z_bi_0, z_inr, z_and0 (hw.ab a ha)]
  cases h1 : (z_ab P a).testBit b
  · simp [z_bi]
  · by_cases h2 : z_ab P a &&& z_un P b = 0
    · simp [h2, z_bi]
    · simp [h2, z_bi]
def z_mx (a b : Nat) : Nat := if a < b then b else a
def z_di (a b : Nat) : Nat := if a < b then b - a else a - b
def z_lb (P : z_P) (a b : Nat) : Int32 := if z_ru P = 1 then nI b else if z_ru P = 2 then nI (z_mx a b) else if z_ru P = 3 then nI (z_di a b) else z_tg P (9 * a + b)
theorem s6_tagOf (hr : z_rc u i P) {a b : Nat} (ha : a < 9) (hb : b < 9) : f_X6_tagOf i (nI a) (nI b) u = some (z_tg P (9 * a + b)) := by
  unfold f_X6_tagOf
  have e : nI a * 9 + nI b = nI (9 * a + b) := (by decide +kernel : ∀ a, a < 9 → ∀ b, b < 9 → nI a * 9 + nI b = nI (9 * a + b)) a ha b hb
  have h1 : ¬ nI (9 * a + b) < 0 := nI_pos (by omega)
  have h2 : ¬ nI 81 ≤ nI (9 * a + b) := nI_ge (a := 9 * a + b) (b := 81) (by omega) (by decide)
  simp only [z_lt, e, h1, h2, if_false, z_inb_nI (show 9 * a + b < 81 by omega) (by decide), z_gd, if_true, z_gI, z_cl (show 9 * a + b < 2 ^ 31 by omega), hr.2.2.2.2.2 (9 * a + b) (by omega)]
theorem s6_edgeLabel (hr : z_rc u i P) (hw : z_wf P) {a b : Nat} (ha : a < 9) (hb : b < 9) : f_X6_edgeLabel i (nI a) (nI b) u = some (z_lb P a b) := by
  unfold f_X6_edgeLabel z_lb
  have hru : z_ru P ≤ 3 := hw.2.2.2.2.1
  simp only [z_gI, hr.2.2.1, s6_tagOf hr ha hb, Option.bind_some]
  have e1 : (nI (z_ru P) = 1) = (z_ru P = 1) := propext (nI_eq (a := z_ru P) (b := 1) (by omega) (by decide))
  have e2 : (nI (z_ru P) = 2) = (z_ru P = 2) := propext (nI_eq (a := z_ru P) (b := 2) (by omega) (by decide))
  have e3 : (nI (z_ru P) = 3) = (z_ru P = 3) := propext (nI_eq (a := z_ru P) (b := 3) (by omega) (by decide))
  have e4 : (nI a < nI b) = (a < b) := z_ltI (by omega) (by omega)
  have e5 : (if (0 : Int32) ≤ nI a - nI b then nI a - nI b else 0 - (nI a - nI b)) = nI (z_di a b) := (by decide +kernel : ∀ a, a < 9 → ∀ b, b < 9 → (if (0 : Int32) ≤ nI a - nI b then nI a - nI b else 0 - (nI a - nI b)) = nI (z_di a b)) a ha b hb
  simp only [e1, e2, e3, e4, e5, z_mx]
  by_cases h1 : z_ru P = 1
  · simp [h1]
  · by_cases h2 : z_ru P = 2
    · simp only [h2, if_true]
      by_cases h : a < b <;> simp [h]
    · by_cases h3 : z_ru P = 3 <;> simp [h1, h2, h3]
def z_prs (P : z_P) : Int32 := z_su (fun x => nI (z_pc (z_ab P x))) 9
theorem s6_pairs (hr : z_rc u i P) (hw : z_wf P) : f_X6_pairs i u = some (z_prs P) := by
  rw [← z_ok_eq]
  unfold f_X6_pairs
  refine z_ok_l9 (fun i q => q = (z_su (fun x => nI (z_pc (z_ab P x))) i, nI i)) rfl ?_ ?_
  · rintro i q hi rfl kb hk
    unfold b_X6_pairs_4
    simp only [z_le9 hi, z_le9n hi, z_in9 hi, z_c9 hi, z_sh hi, z_is_nI hi, if_false, if_true, Option.bind_some, z_ok_gd, z_ok_lt, z_ok_some, z_ok_ite, z_ok_bind, z_ok_b2, z_bi_0, Bool.not_eq_false, z_gI, z_and, z_or, z_andc, z_1, true_and, and_true, hr.2.2.2.1 i hi, s_bitc (hw.ab i hi)]
    exact hk _ rfl
  · rintro q rfl kb
    unfold b_X6_pairs_4
    simp only [z_99, if_true, z_ok_some, z_prs]
def z_egs (P : z_P) : Int32 := z_su (fun x => nI (z_pc (if (z_th P).testBit x then z_cov P x (z_th P) else 0))) 9
theorem s6_edges (hr : z_rc u i P) (hw : z_wf P) : f_X6_edges i u = some (z_egs P) := by
  rw [← z_ok_eq]
  unfold f_X6_edges
  refine z_ok_l9 (fun i q => q = (z_su (fun x => nI (z_pc (if (z_th P).testBit x then z_cov P x (z_th P) else 0))) i, nI i)) rfl ?_ ?_
  · rintro j q hi rfl kb hk
    unfold b_X6_edges_4
    have h5 : (if (z_th P).testBit j = true then z_cov P j (z_th P) else 0) < 512 := by
      split
      · exact z_en_lt _ _
      · omega
    simp only [z_le9 hi, z_le9n hi, z_in9 hi, z_c9 hi, z_sh hi, z_is_nI hi, if_false, if_true, Option.bind_some, z_ok_gd, z_ok_lt, z_ok_some, z_ok_ite, z_ok_bind, z_ok_b2, z_bi_0, Bool.not_eq_false, z_gI, z_and, z_or, z_andc, z_1, true_and, and_true, hr.2.1, s6_coverers hr hw hi, s_bitc h5]
    exact hk _ rfl
  · rintro q rfl kb
    unfold b_X6_edges_4
    simp only [z_99, if_true, z_ok_some, z_egs]
def z_lst (P : z_P) (s : Nat) : Int32 := z_fi (fun x => s.testBit x && z_df s (z_up P x) == 0) (-2)
def z_grt (P : z_P) (s : Nat) : Int32 := z_fi (fun x => s.testBit x && z_df s (z_dn P x) == 0) (-2)
theorem s6_leastOf (hr : z_rc u i P) (hw : z_wf P) {s : Nat} (hs : s < 512) (hst : ∀ x, x < 9 → s.testBit x = true → (z_th P).testBit x = true) : f_X6_leastOf i (nI s) u = some (z_lst P s) := by
  unfold f_X6_leastOf z_lst
  refine z_find (f := fun x => x) _ _ (fun j hj kb => ?_) (fun kb => ?_)
  · unfold b_X6_leastOf_2
    simp only [z_le9 hj, if_false, s_isIn hs, z_is_nI hj, Option.bind_some, z_bi_0, z_1, s6_atLeast hr hw hj]
    cases h : s.testBit j
    · simp
    · simp only [Bool.true_eq_false, if_false, hst j hj h, if_true, z_andc, z_df0 hs, Bool.true_and, beq_iff_eq]
  · unfold b_X6_leastOf_2
    simp only [z_99, if_true]
theorem s6_greatestOf (hr : z_rc u i P) (hw : z_wf P) {s : Nat} (hs : s < 512) (hst : ∀ x, x < 9 → s.testBit x = true → (z_th P).testBit x = true) : f_X6_greatestOf i (nI s) u = some (z_grt P s) := by
  unfold f_X6_greatestOf z_grt
  refine z_find (f := fun x => x) _ _ (fun j hj kb => ?_) (fun kb => ?_)
  · unfold b_X6_greatestOf_2
    simp only [z_le9 hj, if_false, s_isIn hs, z_is_nI hj, Option.bind_some, z_bi_0, z_1, s6_atMost hr hw hj]
    cases h : s.testBit j
    · simp
    · simp only [Bool.true_eq_false, if_false, hst j hj h, if_true, z_andc, z_df0 hs, Bool.true_and, beq_iff_eq]
  · unfold b_X6_greatestOf_2
    simp only [z_99, if_true]
/-- a set whose points are all one above another -/
def z_row (P : z_P) (s : Nat) : Bool := (z_fi (fun x => s.testBit x && !(z_df s ((z_ab P x ||| z_un P x) ||| 2 ^ x) == 0)) (-1)) == -1
theorem s6_isRow (hr : z_rc u i P) (hw : z_wf P) {s : Nat} (hs : s < 512) : f_X6_isRow i (nI s) u = some (z_bi (z_row P s)) := by
  unfold f_X6_isRow z_row
  have := z_find (b := b_X6_isRow_2 i (nI s) u) (kx := fun _ => some 1) (f := fun x => z_bi (x == -1)) (fun x => s.testBit x && !(z_df s ((z_ab P x ||| z_un P x) ||| 2 ^ x) == 0)) (-1) (fun j hj kb => ?_) (fun kb => ?_)
  · exact this
  · unfold b_X6_isRow_2
    simp only [z_le9 hj, if_false, s_isIn hs, z_is_nI hj, Option.bind_some, z_bi_0, z_1, z_gd, z_in9 hj, z_c9 hj, if_true, z_gI, hr.2.2.2.1 j hj, hr.2.2.2.2.1 j hj, z_or, z_sh hj, z_andc, z_df0 hs]
    have hne : (nI j == (-1 : Int32)) = false := (by decide +kernel : ∀ j, j < 9 → (nI j == (-1 : Int32)) = false) j hj
    cases h : s.testBit j
    · simp
    · by_cases h2 : z_df s ((z_ab P j ||| z_un P j) ||| 2 ^ j) = 0
      · simp [h2]
      · simp [h2, hne, z_bi]
  · unfold b_X6_isRow_2
    simp only [z_99, if_true]
    rfl
def z_irr (P : z_P) (s : Nat) : Int32 := z_fi (fun x => s.testBit x && (z_pc (z_cvd P x s) == 1 || z_pc (z_cov P x s) == 1)) (-1)
theorem z_pc1 {a : Nat} : (nI (z_pc a) = 1) = (z_pc a = 1) := propext (nI_eq (a := z_pc a) (b := 1) (by have := z_pc_le a; omega) (by decide))
theorem s6_leastIrreducible (hr : z_rc u i P) (hw : z_wf P) {s : Nat} (hs : s < 512) (hst : ∀ x, x < 9 → s.testBit x = true → (z_th P).testBit x = true) : f_X6_leastIrreducible i (nI s) u = some (z_irr P s) := by
  unfold f_X6_leastIrreducible z_irr
  refine z_find (f := fun x => x) _ _ (fun j hj kb => ?_) (fun kb => ?_)
  · unfold b_X6_leastIrreducible_2
    simp only [z_le9 hj, if_false, s_isIn hs, z_is_nI hj, Option.bind_some, z_bi_0, z_1, s6_covered hr hw hj, s6_coverers hr hw hj]
    cases h : s.testBit j
    · simp
    · simp only [Bool.true_eq_false, if_false, hst j hj h, if_true, s_bitc (show z_cvd P j s < 512 from z_en_lt _ _), s_bitc (show z_cov P j s < 512 from z_en_lt _ _), z_pc1, Bool.true_and]
      by_cases h1 : z_pc (z_cvd P j s) = 1
      · simp [h1]
      · by_cases h2 : z_pc (z_cov P j s) = 1
        · simp [h1, h2]
        · simp [h1, h2]
  · unfold b_X6_leastIrreducible_2
    simp only [z_99, if_true]
end
