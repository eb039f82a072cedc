section
variable {u w : z_M} {P : z_P} {I k p s x g : Nat}
noncomputable def zf_kt (q : Nat → Bool) (j : Nat) : Nat := if h : j < fb_ct q 512 then (fb_ct_kth h).choose else 0
theorem zf_kt_ok {q : Nat → Bool} {j : Nat} (h : j < fb_ct q 512) : zf_kt q j < 512 ∧ q (zf_kt q j) = true ∧ fb_ct q (zf_kt q j) = j := by
  unfold zf_kt
  rw [dif_pos h]
  exact (fb_ct_kth h).choose_spec
theorem zf_ct_lt {q : Nat → Bool} (hs : s < 512) (hq : q s = true) : fb_ct q s < fb_ct q 512 := by
  have := fb_ct_mono q (show s + 1 ≤ 512 by omega)
  rw [fb_ct_succ, hq] at this
  simp only [if_true] at this
  omega
theorem zf_kt_of {q : Nat → Bool} (hs : s < 512) (hq : q s = true) : zf_kt q (fb_ct q s) = s := by
  obtain ⟨h1, h2, h3⟩ := zf_kt_ok (zf_ct_lt hs hq)
  exact fb_ct_kth_one h2 hq h3
/-! a face and its sides -/
def zf_us (P : z_P) (s g : Nat) : Nat := fb_sm (fun x => if (z_df s g).testBit x then z_pc (z_un P x &&& s) else 0) 9
def zf_en (P : z_P) (p s g : Nat) : Nat := if z_sb g s then (if zf_us P s g % 2 = 0 then 1 else p - 1) else 0
theorem zf_en_lt (hp : zv_pr p) : zf_en P p s g < p := by
  have := zh_p8 hp
  unfold zf_en
  split
  · split <;> omega
  · omega
theorem zf_sb_rest (hs : s < 512) : z_sb (z_rest x s) s = true := by
  rw [z_sb_iff (z_rest_lt hs)]
  intro k _ h
  rw [z_rest_bit, Bool.and_eq_true] at h
  exact h.1
theorem zf_us_rest (hx : x < 9) (h : s.testBit x = true) : zf_us P s (z_rest x s) = z_pc (s &&& z_un P x) := by
  unfold zf_us
  have e : fb_sm (fun y => if (z_df s (z_rest x s)).testBit y then z_pc (z_un P y &&& s) else 0) 9 = fb_sm (fun y => if y = x then z_pc (z_un P y &&& s) else 0) 9 := fb_sm_cong (fun y _ => by
    rw [z_df_bit, z_rest_bit]
    by_cases g : y = x
    · subst g
      simp [h]
    · cases s.testBit y <;> simp [g])
  rw [e, z_sm_one (fun y => z_pc (z_un P y &&& s)) 9 hx, Nat.and_comm]
theorem zf_side (hs : s < 512) (hg : g < 512) (hb : z_sb g s = true) (hc : z_pc s = z_pc g + 1) : ∃ x, x < 9 ∧ s.testBit x = true ∧ g = z_rest x s := by
  rw [z_sb_iff hg] at hb
  have h1 := z_pc_df hb
  have h0 : z_df s g ≠ 0 := fun q => by
    rw [q, z_pc_0] at h1
    omega
  obtain ⟨x, hx, hbx⟩ : ∃ x, x < 9 ∧ (z_df s g).testBit x = true := Classical.byContradiction fun hn => h0 (z_ext (z_df_lt hs) (by decide) (fun k hk => by
    rw [Nat.zero_testBit]
    cases hc : (z_df s g).testBit k
    · rfl
    · exact absurd ⟨k, hk, hc⟩ hn))
  rw [z_df_bit, Bool.and_eq_true] at hbx
  obtain ⟨b1, b2⟩ := hbx
  have b2' : g.testBit x = false := by simpa using b2
  have h2 := z_pc_rest hx b1
  have hsub : ∀ k, k < 9 → g.testBit k = true → (z_rest x s).testBit k = true := fun k hk h => by
    rw [z_rest_bit, hb k hk h]
    by_cases e : k = x
    · rw [e, b2'] at h; cases h
    · simp [e]
  refine ⟨x, hx, b1, z_ext hg (z_rest_lt hs) (fun k hk => ?_)⟩
  cases c1 : g.testBit k
  · cases c2 : (z_rest x s).testBit k
    · rfl
    · have := z_pc_st hk c2 c1 hsub
      omega
  · rw [hsub k hk c1]
theorem zf_fcp : z_fcp P I k s = true ↔ z_sb s I = true ∧ z_pc s = k ∧ z_row P s = true := by
  unfold z_fcp
  rw [Bool.and_eq_true, Bool.and_eq_true, beq_iff_eq, and_assoc]
theorem zf_sub (hw : z_wf P) (hs : s < 512) (hx : x < 9) (hb : s.testBit x = true) (hf : z_fcp P I (k + 1) s = true) : z_fcp P I k (z_rest x s) = true := by
  rw [zf_fcp] at hf ⊢
  obtain ⟨h1, h2, h3⟩ := hf
  have h4 := z_pc_rest hx hb
  have hr : ∀ y, (z_rest x s).testBit y = true → s.testBit y = true := fun y h => by
    rw [z_rest_bit, Bool.and_eq_true] at h
    exact h.1
  refine ⟨?_, by omega, ?_⟩
  · rw [z_sb_iff (z_rest_lt hs)]
    rw [z_sb_iff hs] at h1
    exact fun y hy h => h1 y hy (hr y h)
  · rw [z_row_iff hw (z_rest_lt hs)]
    rw [z_row_iff hw hs] at h3
    exact fun a b ha hb' h5 h6 => h3 a b ha hb' (hr a h5) (hr b h6)
/-! the class's faces -/
theorem s3_isFace (hr : z_rc u 0 P) (hw : z_wf P) (hs : s < 512) (hk : k < 1000) : f_X3_isFace 0 (nI I) (nI k) (nI s) u = some (z_bi (z_fcp P I k s)) := by
  have ek : (nI (z_pc s) = nI k) = (z_pc s = k) := z_eqI (by have := z_pc_le s; omega) (by omega)
  unfold f_X3_isFace z_fcp
  rw [z_andc, s_bitc hs, s6_isRow hr hw hs, Option.bind_some]
  simp only [z_df0 hs, z_df_sb, ek]
  by_cases h1 : z_sb s I = true
  · rw [if_pos h1, h1]
    by_cases h2 : z_pc s = k
    · rw [if_pos h2, show (z_pc s == k) = true by simpa using h2]
      cases z_row P s <;> rfl
    · rw [if_neg h2, show (z_pc s == k) = false by simpa using h2]
      rfl
  · rw [if_neg h1, show z_sb s I = false by simpa using h1]
    rfl
theorem s3_list (hr : z_rc u 0 P) (hw : z_wf P) (hk : k < 1000) : z_ok (f_X3_list 0 (nI I) (nI k) u) (fun q => q.1 = nI (fb_ct (z_fcp P I k) 512) ∧ (∀ i, i ≠ 135 → q.2.1 i = u.1 i) ∧ ∀ s, s < 512 → z_fcp P I k s = true → q.2.1 135 s = nI (fb_ct (z_fcp P I k) s)) := by
  unfold f_X3_list
  refine z_ok_lp (fun j q => q.1 = nI (fb_ct (z_fcp P I k) j) ∧ q.2.1 = nI j ∧ (∀ i, i ≠ 135 → q.2.2.1 i = u.1 i) ∧ ∀ s, s < j → z_fcp P I k s = true → q.2.2.1 135 s = nI (fb_ct (z_fcp P I k) s)) 512 z_512F ⟨rfl, rfl, fun _ _ => rfl, fun s hs => absurd hs (by omega)⟩ ?_ ?_
  · rintro j ⟨n, jj, v⟩ hj ⟨e1, e2, e3, e4⟩ kb hkb
    try dsimp only at e1 e2 e3 e4
    subst e1 e2
    have hrv : z_rc v 0 P := z_rc_cg (fun i hi => e3 _ (by omega)) hr
    unfold b_X3_list_6
    try dsimp only
    rw [if_neg (show ¬ (512 : Int32) ≤ nI j by rw [z_512 hj]; exact id), s3_isFace hrv hw hj hk, Option.bind_some, z_1, z_1]
    cases hf : z_fcp P I k j
    · rw [if_pos (show z_bi false = 0 from rfl)]
      refine hkb _ ⟨?_, rfl, e3, fun s hs hs2 => ?_⟩
      · try dsimp only
        rw [fb_ct_succ, hf]; rfl
      · by_cases e : s = j
        · rw [e, hf] at hs2; cases hs2
        · exact e4 s (by omega) hs2
    · rw [if_neg (show ¬ z_bi true = 0 by decide), z_gdt (z_inb_nI hj (by decide)), z_lt, z_cl (by omega)]
      refine hkb _ ⟨?_, rfl, fun i hi => ?_, fun s hs hs2 => ?_⟩
      · try dsimp only
        rw [fb_ct_succ, hf]; rfl
      · try dsimp only
        rw [z_sI_ne hi]; exact e3 i hi
      · try dsimp only
        rw [z_sI_1]
        by_cases e : j = s
        · rw [if_pos ⟨rfl, e⟩, e]
        · rw [if_neg (fun q => e q.2)]
          exact e4 s (by omega) hs2
  · rintro ⟨n, jj, v⟩ ⟨e1, e2, e3, e4⟩ kb
    try dsimp only at e1 e2 e3 e4
    subst e1 e2
    unfold b_X3_list_6
    try dsimp only
    rw [if_pos (show (512 : Int32) ≤ nI 512 by decide), z_ok_some]
    exact ⟨rfl, e3, e4⟩
theorem zf_par : ∀ a, a < 10 → ((nI a &&& 1 = 0) ↔ a % 2 = 0) := by decide +kernel
theorem zf_dec (k : Nat) : nI (k + 1) - 1 = nI k := z_nsub (e := k + 1) (s := 1) (by omega)
theorem s3_write (hr : z_rc u 0 P) (hw : z_wf P) (hp : zv_pr p) (hI7 : z_pc I ≤ 7) (hs : s < 512) (hf : z_fcp P I (k + 1) s = true) (hpl : ∀ g, g < 512 → z_fcp P I k g = true → u.1 135 g = nI (fb_ct (z_fcp P I k) g)) : z_ok (f_X3_write 0 (nI s) (nI p) u) (fun u' => (∀ j, j ≠ 137 → u'.1 j = u.1 j) ∧ zh_ln u' (fb_ct (z_fcp P I k) 512) p (fun c => zf_en P p s (zf_kt (z_fcp P I k) c))) := by
  obtain ⟨hp2, hp8⟩ := zh_p8 hp
  have h35 := z_fcp_35 (P := P) (k := k) hI7
  unfold f_X3_write
  rw [z_ok_lt]
  refine z_ok_l9 (fun x q => q.1 = nI x ∧ (∀ j, j ≠ 137 → q.2.1 j = u.1 j) ∧ ∀ c, c < fb_ct (z_fcp P I k) 512 → (∀ y, y < x → s.testBit y = true → zf_kt (z_fcp P I k) c = z_rest y s → q.2.1 137 c = nI (zf_en P p s (zf_kt (z_fcp P I k) c))) ∧ ((∀ y, y < x → s.testBit y = true → zf_kt (z_fcp P I k) c ≠ z_rest y s) → q.2.1 137 c = 0)) ⟨rfl, fun j hj => z_fill_ne hj, fun c hc => ⟨fun y hy => absurd hy (by omega), fun _ => by rw [z_fill_1, if_pos ⟨rfl, by omega⟩]⟩⟩ ?_ ?_
  · rintro x ⟨a, v⟩ hx ⟨e1, e2, e3⟩ kb hkb
    try dsimp only at e1 e2 e3
    subst e1
    unfold b_X3_write_11
    try dsimp only
    rw [if_neg (show ¬ (9 : Int32) ≤ nI x by rw [z_le9 hx]; exact id), s_isIn hs, z_is_nI hx, Option.bind_some, z_1]
    cases hb : s.testBit x
    · rw [if_pos (show z_bi false = 0 from rfl)]
      refine hkb _ ⟨rfl, e2, fun c hc => ⟨fun y hy h1 h2 => ?_, fun h => (e3 c hc).2 (fun y hy => h y (by omega))⟩⟩
      by_cases e : y = x
      · rw [e, hb] at h1; cases h1
      · exact (e3 c hc).1 y (by omega) h1 h2
    · have hg := zf_sub hw hs hx hb hf
      have hg5 : z_rest x s < 512 := z_rest_lt hs
      have hlt := zf_ct_lt hg5 hg
      have hkt := zf_kt_of hg5 hg
      have hv : v.1 135 (z_rest x s) = nI (fb_ct (z_fcp P I k) (z_rest x s)) := by rw [e2 135 (by decide)]; exact hpl _ hg5 hg
      have hun : z_gI v (0 + 2) (nI x).toNatClampNeg = nI (z_un P x) := by
        rw [z_c9 hx, z_gI, e2 (0 + 2) (by decide)]
        exact hr.2.2.2.2.1 x hx
      have hun' : z_gI v 2 (nI x).toNatClampNeg = nI (z_un P x) := hun
      have hpar := zf_par (z_pc (s &&& z_un P x)) (by have := z_pc_le (s &&& z_un P x); omega)
      have hen : zf_en P p s (z_rest x s) = if z_pc (s &&& z_un P x) % 2 = 0 then 1 else p - 1 := by
        unfold zf_en
        rw [if_pos (zf_sb_rest hs), zf_us_rest hx hb]
      obtain ⟨c0, hc0⟩ : ∃ c0, c0 = fb_ct (z_fcp P I k) (z_rest x s) := ⟨_, rfl⟩
      rw [← hc0] at hlt hkt hv
      have step : ∀ z : Int32, z = nI (zf_en P p s (z_rest x s)) → z_ok (kb (nI (x + 1), z_sI v 137 c0 z)) _ := fun z hz => by
        refine hkb _ ⟨rfl, fun j hj => ?_, fun c hc => ?_⟩
        · try dsimp only
          rw [z_sI_ne hj]; exact e2 j hj
        · try dsimp only
          rw [z_sI_1]
          by_cases g : c0 = c
          · subst g
            rw [if_pos ⟨rfl, rfl⟩, hkt]
            exact ⟨fun _ _ _ _ => hz, fun h => absurd rfl (h x (by omega) hb)⟩
          · rw [if_neg (fun q => g q.2)]
            refine ⟨fun y hy h1 h2 => ?_, fun h => (e3 c hc).2 (fun y hy => h y (by omega))⟩
            by_cases e : y = x
            · rw [e] at h2
              have := (zf_kt_ok hc).2.2
              rw [h2, ← hc0] at this
              exact absurd this g
            · exact (e3 c hc).1 y (by omega) h1 h2
      have hrest : nI s &&& ((1 <<< (nI x &&& 31)) ^^^ (-1)) = nI (z_rest x s) := by
        rw [z_sh hx, z_andc]
        rfl
      rw [if_neg (show ¬ z_bi true = 0 by decide), hrest, z_gdt (z_inb_nI hg5 (by decide)), z_cl (by omega), z_lt, z_gI, hv, if_neg (show ¬ (35 : Int32) ≤ nI c0 from nI_ge (b := 35) (by omega) (by decide)), z_gdt (z_in9 hx)]
      first | rw [hun] | rw [hun']
      rw [z_and, s_bitc (z_and_lt _ hs)]
      unfold j_X3_write_j74
      by_cases g : z_pc (s &&& z_un P x) % 2 = 0
      · rw [if_pos (hpar.mpr g), if_neg (show ¬ (1 : Int32) = 0 by decide), z_gdt (z_inb_nI (by omega) (by decide)), z_lt, z_cl (by omega), z_1]
        exact step 1 (by rw [hen, if_pos g]; rfl)
      · rw [if_neg (fun q => g (hpar.mp q)), if_pos rfl, z_gdt (z_inb_nI (by omega) (by decide)), z_lt, z_cl (by omega), z_1]
        refine step _ ?_
        rw [hen, if_neg g]
        exact z_nsub (s := 1) (by omega)
  · rintro ⟨a, v⟩ ⟨e1, e2, e3⟩ kb
    try dsimp only at e1 e2 e3
    subst e1
    unfold b_X3_write_11
    try dsimp only
    rw [if_pos (show (9 : Int32) ≤ nI 9 by decide), z_ok_some]
    refine ⟨e2, fun c hc => ⟨?_, zf_en_lt hp⟩⟩
    obtain ⟨k1, k2, k3⟩ := zf_kt_ok hc
    rw [zf_fcp] at k2 hf
    by_cases g : z_sb (zf_kt (z_fcp P I k) c) s = true
    · obtain ⟨y, y1, y2, y3⟩ := zf_side hs k1 g (by omega)
      exact (e3 c hc).1 y y1 y2 y3
    · rw [(e3 c hc).2 (fun y _ _ q => g (by rw [q]; exact zf_sb_rest hs))]
      unfold zf_en
      dsimp only
      rw [if_neg g]
      rfl
end
