section
variable {u w v : z_M} {P R : z_P}
/-! how the reference lays an order on another one: step by step -/
def z_rch {σ τ β : Type} (b : σ → (σ → Option β) → (τ → Option β) → Option β) (kx : τ → Option β) (m : Nat) (q q' : σ) : Prop := ∃ k, k ≤ m ∧ ∀ n, z_lp b (n + k) q kx = z_lp b n q' kx
theorem z_rch.tr {σ τ β : Type} {b : σ → (σ → Option β) → (τ → Option β) → Option β} {kx : τ → Option β} {m1 m2 : Nat} {q q1 q2 : σ} (h1 : z_rch b kx m1 q q1) (h2 : z_rch b kx m2 q1 q2) : z_rch b kx (m1 + m2) q q2 := by
  obtain ⟨k1, a1, b1⟩ := h1
  obtain ⟨k2, a2, b2⟩ := h2
  refine ⟨k1 + k2, by omega, fun n => ?_⟩
  rw [show n + (k1 + k2) = (n + k2) + k1 by omega, b1, b2]
theorem z_rch.le {σ τ β : Type} {b : σ → (σ → Option β) → (τ → Option β) → Option β} {kx : τ → Option β} {m1 m2 : Nat} {q q1 : σ} (h1 : z_rch b kx m1 q q1) (h : m1 ≤ m2) : z_rch b kx m2 q q1 := by
  obtain ⟨k1, a1, b1⟩ := h1
  exact ⟨k1, by omega, b1⟩
theorem z_rch.one {σ τ β : Type} {b : σ → (σ → Option β) → (τ → Option β) → Option β} {kx : τ → Option β} {q q1 : σ} (h : ∀ kb, b q kb kx = kb q1) : z_rch b kx 1 q q1 := ⟨1, Nat.le_refl _, fun n => h _⟩
theorem z_rch.end {σ τ β : Type} {b : σ → (σ → Option β) → (τ → Option β) → Option β} {kx : τ → Option β} {m : Nat} {q q1 : σ} {r : Option β} (h : z_rch b kx m q q1) (hm : m < z_F) (he : ∀ kb, b q1 kb kx = r) : z_lp b z_F q kx = r := by
  obtain ⟨k, a1, b1⟩ := h
  have e : z_F = (z_F - k - 1 + 1) + k := by omega
  rw [e, b1]
  exact he _
theorem z_srch3 {β : Type} {b : Int32 → (Int32 → Option β) → (Int32 → Option β) → Option β} {kx : Int32 → Option β} (p : Nat → Bool) (hs : ∀ i, i < 9 → ∀ kb, b (nI i) kb kx = if p i then kx (nI i) else kb (nI (i + 1))) (he : ∀ kb, b (nI 9) kb kx = kx (nI 9)) {n k : Nat} (hnk : n + k = 9) : z_lp b z_F (nI n) kx = kx (z_ff p (nI 9) n k) := by
  have key : ∀ k n, n + k = 9 → ∀ F, k < F → z_lp b F (nI n) kx = kx (z_ff p (nI 9) n k) := by
    intro k
    induction k with
    | zero =>
      intro n hn F hF
      match F, hF with
      | F + 1, _ =>
        show b (nI n) _ kx = _
        rw [show n = 9 by omega, he]
        rfl
    | succ k ih =>
      intro n hn F hF
      match F, hF with
      | F + 1, hF =>
        show b (nI n) (fun q' => z_lp b F q' kx) kx = _
        rw [hs n (by omega)]
        cases hp : p n with
        | true => simp [z_ff, hp]
        | false =>
          simp only [Bool.false_eq_true, if_false, z_ff, hp]
          exact ih (n + 1) (by omega) F (by omega)
  exact key k n hnk z_F (Nat.lt_of_le_of_lt (by omega) z_9F)
/-- what lies there of the other order -/
def z_oth (R : z_P) (v : z_M) : Prop := v.1 20 9 = nI (z_th R) ∧ ∀ k, k < 9 → (z_th R).testBit k = true → v.1 20 k = nI (z_ab R k)
theorem s10_fits (hr : z_rr (v.1 1) P) (ho : z_oth R v) (hw : z_wf P) (hw2 : z_wf R) {x y U : Nat} {f : Nat → Nat} (hx : x < 9) (hy : y < 9) (tx : (z_th P).testBit x = true) (hp : z_Pg P R x f) (hU : z_Ur P x f U) (hv : ∀ z, z < x → (z_th P).testBit z = true → v.1 21 z = nI (f z)) : f_X10_fits (nI x) (nI y) (nI U) v = some (z_bi (z_fit P R x f y)) := by
  unfold f_X10_fits
  have e9 : (9 : Int32).toNatClampNeg = 9 := rfl
  have hd : z_df (z_th R) U < 512 := z_df_lt hw2.th
  rw [z_gI, e9, ho.1, z_andc, s_has (z_31 hd) hy, Option.bind_some, show z_inb 9 10 = true from rfl, z_gd, if_pos rfl, z_df_bit]
  cases ty : (z_th R).testBit y
  · rw [Bool.false_and, if_pos z_bf0]
    simp [z_fit, ty, z_bi]
  cases hUy : U.testBit y
  · rw [show (true && !false) = true from rfl, if_neg z_bt0]
    have hU0 : ∀ z, z < x → (z_th P).testBit z = true → f z ≠ y := fun z hz tz e => by
      rw [(hU.2 y hy).mpr ⟨z, hz, tz, e⟩] at hUy
      cases hUy
    rw [z_allL (fun z => !(z_th P).testBit z || (((z_ab P z).testBit x == (z_ab R (f z)).testBit y) && ((z_ab P x).testBit z == (z_ab R y).testBit (f z)))) (n := x) (by omega) (fun z hz kb => ?_) (fun kb => ?_)]
    · congr 2
      rw [Bool.eq_iff_iff, decide_eq_true_eq, z_fit_iff]
      constructor
      · intro hh
        refine ⟨ty, fun z hz tz => ?_⟩
        have := hh z hz
        simp only [tz, Bool.not_true, Bool.false_or, Bool.and_eq_true, beq_iff_eq] at this
        exact ⟨hU0 z hz tz, this.1, this.2⟩
      · rintro ⟨-, hh⟩ z hz
        cases tz : (z_th P).testBit z
        · rfl
        · obtain ⟨-, c2, c3⟩ := hh z hz tz
          simp only [Bool.not_true, Bool.false_or, Bool.and_eq_true, beq_iff_eq]
          exact ⟨c2, c3⟩
    · have hz9 : z < 9 := by omega
      unfold b_X10_fits_23
      rw [if_neg (nI_ge hz (by omega)), show z_inb 1 93 = true from rfl, z_gd, if_pos rfl, z_gI, z_c1, hr.2.1, s_has (z_31 hw.th) hz9, Option.bind_some, z_1]
      cases tz : (z_th P).testBit z
      · rw [if_pos z_bf0]; rfl
      · obtain ⟨f1, f2, -⟩ := hp z hz tz
        have hf10 : z_inb (nI (f z)) 10 = true := z_inb_nI (by omega) (by decide)
        have hy10 : z_inb (nI y) 10 = true := z_inb_nI (by omega) (by decide)
        rw [if_neg z_bt0, s10_isBelowT hr hz9 hx tz tx, Option.bind_some, z_gI, z_c9 hz9, hv z hz tz, z_in9 hz9, hf10, z_gI, z_c9 f1, ho.2 (f z) f1 f2, s_has (z_31 (hw2.ab _ f1)) hy, s10_isBelowT hr hx hz9 tx tz, hy10, z_gI, z_c9 hy, ho.2 y hy ty, s_has (z_31 (hw2.ab _ hy)) f1]
        simp only [z_gd, if_true, Option.bind_some]
        cases (z_ab P z).testBit x <;> cases (z_ab R (f z)).testBit y <;> cases (z_ab P x).testBit z <;> cases (z_ab R y).testBit (f z) <;> simp [z_bi]
    · unfold b_X10_fits_23
      rw [if_pos (nI_le (Nat.le_refl x) (by omega))]
  · rw [show (true && !true) = false from rfl, if_pos z_bf0]
    have : z_fit P R x f y = false := by
      cases hf : z_fit P R x f y
      · rfl
      · rw [z_Ur_fit hU hy hf] at hUy; cases hUy
    rw [this]
    rfl
/-- the images as they lie there on the way to x -/
def z_img (P : z_P) (x : Nat) (f : Nat → Nat) (v : z_M) : Prop := ∀ z, z < 9 → v.1 21 z = if z < x then (if (z_th P).testBit z then nI (f z) else 9) else -1
def z_LK : Nat → Nat
  | 0 => 1
  | d + 1 => 9 * (z_LK d + 1) + 2
def z_ts (g : Nat → Nat) : Nat → Nat → Nat
  | 0, _ => 0
  | k + 1, y => g y + z_ts g k (y + 1)
theorem z_ts_sm (g : Nat → Nat) : ∀ k n, z_ts g k n + fb_sm g n = fb_sm g (n + k)
  | 0, n => by
    show 0 + fb_sm g n = fb_sm g n
    omega
  | k + 1, n => by
    have := z_ts_sm g k (n + 1)
    rw [fb_sm_succ] at this
    rw [show n + (k + 1) = n + 1 + k by omega, ← this, z_ts]
    omega
theorem z_ts_ff (g : Nat → Nat) (p : Nat → Bool) (hp : ∀ y, p y = false → g y = 0) : ∀ k n, n + k = 9 → (z_ff p (nI 9) n k = nI 9 ∧ z_ts g k n = 0) ∨ ∃ y k', y < 9 ∧ n ≤ y ∧ p y = true ∧ z_ff p (nI 9) n k = nI y ∧ (y + 1) + k' = 9 ∧ z_ts g k n = g y + z_ts g k' (y + 1)
  | 0, n, _ => Or.inl ⟨rfl, rfl⟩
  | k + 1, n, hn => by
    cases hpn : p n
    · rcases z_ts_ff g p hp k (n + 1) (by omega) with ⟨h1, h2⟩ | ⟨y, k', h1, h2, h3, h4, h5, h6⟩
      · left
        rw [z_ff, hpn, z_ts, hp n hpn, h2]
        exact ⟨h1, rfl⟩
      · right
        refine ⟨y, k', h1, by omega, h3, ?_, h5, ?_⟩
        · rw [z_ff, hpn]; exact h4
        · rw [z_ts, hp n hpn, Nat.zero_add]; exact h6
    · right
      refine ⟨n, k, by omega, Nat.le_refl _, hpn, ?_, by omega, rfl⟩
      rw [z_ff, hpn]; rfl
theorem z_back (x : Nat) : nI (x + 1) + (-1) = nI x := by
  rw [← nI_1]
  grind
theorem s10_laid (hr : z_rr (w.1 1) P) (ho : z_oth R w) (hw : z_wf P) (hw2 : z_wf R) (kx : (Int32 × z_M) → Option (Int32 × z_M)) : ∀ d x U n (f : Nat → Nat) v, x + d = 9 → (∀ k, k ≠ 21 → v.1 k = w.1 k) → z_Pg P R x f → z_Ur P x f U → z_img P x f v → ∃ v', z_rch b_X10_laidOn_30 kx (z_LK d) (nI n, nI x, nI U, v) (nI (n + z_ca P R d x f), nI x + (-1), nI U, v') ∧ (∀ k, k ≠ 21 → v'.1 k = w.1 k) ∧ z_img P x f v'
  | 0, x, U, n, f, v, hd, hv, hp, hU, hi => by
    have : x = 9 := by omega
    subst this
    refine ⟨v, z_rch.one (fun kb => ?_), hv, hi⟩
    unfold b_X10_laidOn_30
    dsimp only
    rw [if_neg (show ¬ nI 9 < 0 by decide), if_pos (show (9 : Int32) ≤ nI 9 by decide)]
    unfold j_X10_laidOn_j45 j_X10_laidOn_j197
    rw [if_pos rfl, if_pos rfl, z_1]
    rfl
  | d + 1, x, U, n, f, v, hd, hv, hp, hU, hi => by
    have hx : x < 9 := by omega
    have n9 : ¬ (9 : Int32) ≤ nI x := by rw [z_le9 hx]; exact id
    have hneg : ¬ nI x < 0 := nI_pos (by omega)
    cases tx : (z_th P).testBit x
    · -- not there: on, and back
      have hca : z_ca P R (d + 1) x f = z_ca P R d (x + 1) f := by rw [z_ca, tx]; rfl
      have hr1 : ∀ v1 : z_M, (∀ k, k ≠ 21 → v1.1 k = w.1 k) → z_rr (v1.1 1) P := fun v1 h => by rw [h 1 (by decide)]; exact hr
      have s1 : z_rch b_X10_laidOn_30 kx 1 (nI n, nI x, nI U, v) (nI n, nI (x + 1), nI U, z_sI v 21 x 9) := z_rch.one (fun kb => by
        unfold b_X10_laidOn_30
        dsimp only
        rw [if_neg hneg, if_neg n9]
        unfold j_X10_laidOn_j45
        rw [if_neg (show ¬ (1 : Int32) = 0 by decide), show z_inb 1 93 = true from rfl, z_gd, if_pos rfl, z_gI, z_c1, (hr1 v hv).2.1, s_has (z_31 hw.th) hx, Option.bind_some, tx, if_pos z_bf0, z_in9 hx, z_gd, if_pos rfl, z_gI, z_c9 hx, hi x hx, if_neg (Nat.lt_irrefl x), if_pos rfl, z_gd, if_pos rfl, z_lt, z_1])
      have hv1 : ∀ k, k ≠ 21 → (z_sI v 21 x 9).1 k = w.1 k := fun k hk => by rw [z_sI_ne hk]; exact hv k hk
      have hi1 : z_img P (x + 1) f (z_sI v 21 x 9) := fun z hz => by
        rw [z_sI_1]
        by_cases e : x = z
        · subst e; rw [if_pos ⟨rfl, rfl⟩, if_pos (by omega), tx]; rfl
        · rw [if_neg (fun h => e h.2), hi z hz]
          by_cases c : z < x
          · rw [if_pos c, if_pos (show z < x + 1 by omega)]
          · rw [if_neg c, if_neg (show ¬ z < x + 1 by omega)]
      obtain ⟨v2, s2, hv2, hi2⟩ := s10_laid hr ho hw hw2 kx d (x + 1) U n f (z_sI v 21 x 9) (by omega) hv1 (z_Pg_skip hp tx) (z_Ur_skip hU tx) hi1
      rw [z_back] at s2
      have s3 : z_rch b_X10_laidOn_30 kx 1 (nI (n + z_ca P R d (x + 1) f), nI x, nI U, v2) (nI (n + z_ca P R d (x + 1) f), nI x + (-1), nI U, z_sI v2 21 x (-1)) := z_rch.one (fun kb => by
        have e21 : v2.1 21 x = 9 := by rw [hi2 x hx, if_pos (by omega), tx]; rfl
        unfold b_X10_laidOn_30
        dsimp only
        rw [if_neg hneg, if_neg n9]
        unfold j_X10_laidOn_j45 j_X10_laidOn_j95 j_X10_laidOn_j197
        rw [if_neg (show ¬ (1 : Int32) = 0 by decide), show z_inb 1 93 = true from rfl, z_gd, if_pos rfl, z_gI, z_c1, (hr1 v2 hv2).2.1, s_has (z_31 hw.th) hx, Option.bind_some, tx, if_pos z_bf0, z_in9 hx, z_gd, if_pos rfl, z_gI, z_c9 hx, e21, if_neg (show ¬ (9 : Int32) = -1 by decide), z_gd, if_pos rfl, Option.bind_some, if_pos z_bf0, if_neg (show ¬ (1 : Int32) = 0 by decide), z_gd, if_pos rfl, z_lt])
      refine ⟨z_sI v2 21 x (-1), ?_, fun k hk => by rw [z_sI_ne hk]; exact hv2 k hk, fun z hz => ?_⟩
      · rw [hca]
        exact ((s1.tr s2).tr s3).le (by show 1 + z_LK d + 1 ≤ 9 * (z_LK d + 1) + 2; omega)
      · rw [z_sI_1]
        by_cases e : x = z
        · subst e; rw [if_pos ⟨rfl, rfl⟩, if_neg (Nat.lt_irrefl x)]
        · rw [if_neg (fun h => e h.2), hi2 z hz]
          by_cases c : z < x
          · rw [if_pos c, if_pos (show z < x + 1 by omega)]
          · rw [if_neg c, if_neg (show ¬ z < x + 1 by omega)]
    · -- there: one place behind the other
      have hg0 : ∀ y, z_fit P R x f y = false → (if z_fit P R x f y then z_ca P R d (x + 1) (z_ud f x y) else 0) = 0 := fun y h => by rw [h]; rfl
      have key : ∀ k y0, y0 + k = 9 → ∀ n v used, (∀ k, k ≠ 21 → v.1 k = w.1 k) → ((y0 = 0 ∧ used = U ∧ z_img P x f v) ∨ (∃ y, y0 = y + 1 ∧ y < 9 ∧ U.testBit y = false ∧ used = U ||| 2 ^ y ∧ z_img P (x + 1) (z_ud f x y) v)) → ∃ v', z_rch b_X10_laidOn_30 kx (k * (z_LK d + 1) + 1) (nI n, nI x, nI used, v) (nI (n + z_ts (fun y => if z_fit P R x f y then z_ca P R d (x + 1) (z_ud f x y) else 0) k y0), nI x + (-1), nI U, v') ∧ (∀ k, k ≠ 21 → v'.1 k = w.1 k) ∧ z_img P x f v' := by
        intro k
        induction k using Nat.strongRecOn with
        | ind k ihk =>
          intro y0 hy0 n v used hv hst
          have hr1 : z_rr (v.1 1) P := by rw [hv 1 (by decide)]; exact hr
          have ho1 : z_oth R v := ⟨by rw [hv 20 (by decide)]; exact ho.1, fun k hk tk => by rw [hv 20 (by decide)]; exact ho.2 k hk tk⟩
          have him : ∀ z, z < 9 → z ≠ x → v.1 21 z = if z < x then (if (z_th P).testBit z then nI (f z) else 9) else -1 := by
            intro z hz hzx
            rcases hst with ⟨-, -, h⟩ | ⟨y, -, -, -, -, h⟩
            · exact h z hz
            · rw [h z hz, z_ud_ne _ hzx]
              by_cases c : z < x
              · rw [if_pos c, if_pos (show z < x + 1 by omega)]
              · rw [if_neg c, if_neg (show ¬ z < x + 1 by omega)]
          have hlow : ∀ z, z < x → (z_th P).testBit z = true → v.1 21 z = nI (f z) := fun z hz tz => by rw [him z (by omega) (by omega), if_pos hz, if_pos tz]
          have hpx : v.1 21 x + 1 = nI y0 := by
            rcases hst with ⟨h1, -, h⟩ | ⟨y, h1, h2, -, -, h⟩
            · rw [h x hx, if_neg (Nat.lt_irrefl x), h1]; rfl
            · rw [h x hx, if_pos (by omega), if_pos tx, z_ud_eq, h1, z_1]
          have hsearch : ∀ kk : Int32 → Option (Int32 × z_M), z_lp (b_X10_laidOn_145 (nI n) (nI x) (nI U) 1 v) z_F (nI y0) kk = kk (z_ff (fun y => z_fit P R x f y) (nI 9) y0 k) := fun kk => z_srch3 (fun y => z_fit P R x f y) (fun y hy kb => by
            unfold b_X10_laidOn_145
            rw [if_neg (show ¬ (9 : Int32) ≤ nI y by rw [z_le9 hy]; exact id), s10_fits hr1 ho1 hw hw2 hx hy tx hp hU hlow, Option.bind_some, z_1]
            cases z_fit P R x f y <;> simp [z_bi]) (fun kb => by
            unfold b_X10_laidOn_145
            rw [if_pos (show (9 : Int32) ≤ nI 9 by decide)]) hy0
          have hstep : ∀ kb, b_X10_laidOn_30 (nI n, nI x, nI used, v) kb kx = (if 9 ≤ z_ff (fun y => z_fit P R x f y) (nI 9) y0 k then kb (nI n, nI x + (-1), nI U, z_sI v 21 x (-1)) else kb (nI n, nI (x + 1), nI U ||| (1 <<< (z_ff (fun y => z_fit P R x f y) (nI 9) y0 k &&& 31)), z_sI v 21 x (z_ff (fun y => z_fit P R x f y) (nI 9) y0 k))) := by
            intro kb
            unfold b_X10_laidOn_30
            dsimp only
            rw [if_neg hneg, if_neg n9]
            unfold j_X10_laidOn_j45 j_X10_laidOn_j95 j_X10_laidOn_j197
            rw [if_neg (show ¬ (1 : Int32) = 0 by decide), show z_inb 1 93 = true from rfl, z_gd, if_pos rfl, z_gI, z_c1, hr1.2.1, s_has (z_31 hw.th) hx, Option.bind_some, tx, if_neg z_bt0, z_in9 hx, z_gd, if_pos rfl, Option.bind_some, if_neg z_bt0, z_gd, if_pos rfl, z_gI, z_c9 hx, hpx]
            rcases hst with ⟨h1, h2, h⟩ | ⟨y, h1, h2, h3, h4, h⟩
            · have e21 : v.1 21 x = -1 := by rw [h x hx, if_neg (Nat.lt_irrefl x)]
              have eu : nI used &&& nI used = nI U := by rw [z_and, Nat.and_self, h2]
              rw [e21, if_pos rfl, eu, z_lt, z_gd, if_pos rfl, z_lt, hsearch]
              simp only [z_gd, if_true, z_lt, z_1, show ((1 : Int32) = 0) = False by decide, if_false]
            · have e21 : v.1 21 x = nI y := by rw [h x hx, if_pos (by omega), if_pos tx, z_ud_eq]
              have eu : nI used &&& ((1 <<< (nI y &&& 31)) ^^^ (-1)) = nI U := by
                rw [z_sh h2, z_andc, h4]
                show nI (z_rest y (U ||| 2 ^ y)) = _
                rw [z_rest_put h3]
              rw [e21, if_neg (z_nI9m y h2), z_gd, if_pos rfl, eu, z_lt, z_gd, if_pos rfl, z_lt, hsearch]
              simp only [z_gd, if_true, z_lt, z_1, show ((1 : Int32) = 0) = False by decide, if_false]
          rcases z_ts_ff (fun y => if z_fit P R x f y then z_ca P R d (x + 1) (z_ud f x y) else 0) (fun y => z_fit P R x f y) hg0 k y0 hy0 with ⟨h1, h2⟩ | ⟨y, k', h1, h2, h3, h4, h5, h6⟩
          · refine ⟨z_sI v 21 x (-1), ?_, fun j hj => by rw [z_sI_ne hj]; exact hv j hj, fun z hz => ?_⟩
            · rw [h2]
              refine z_rch.le (z_rch.one (fun kb => ?_)) (show 1 ≤ _ by omega)
              rw [hstep, h1, if_pos (by decide)]
              rfl
            · rw [z_sI_1]
              by_cases e : x = z
              · subst e; rw [if_pos ⟨rfl, rfl⟩, if_neg (Nat.lt_irrefl x)]
              · rw [if_neg (fun h => e h.2)]
                exact him z hz (Ne.symm e)
          · have s1 : z_rch b_X10_laidOn_30 kx 1 (nI n, nI x, nI used, v) (nI n, nI (x + 1), nI (U ||| 2 ^ y), z_sI v 21 x (nI y)) := z_rch.one (fun kb => by
              rw [hstep, h4, if_neg (show ¬ (9 : Int32) ≤ nI y by rw [z_le9 h1]; exact id), z_sh h1, z_or])
            have hv1 : ∀ k, k ≠ 21 → (z_sI v 21 x (nI y)).1 k = w.1 k := fun j hj => by rw [z_sI_ne hj]; exact hv j hj
            have hi1 : z_img P (x + 1) (z_ud f x y) (z_sI v 21 x (nI y)) := fun z hz => by
              rw [z_sI_1]
              by_cases e : x = z
              · subst e; rw [if_pos ⟨rfl, rfl⟩, if_pos (by omega), if_pos tx, z_ud_eq]
              · rw [if_neg (fun h => e h.2), him z hz (Ne.symm e), z_ud_ne _ (Ne.symm e)]
                by_cases c : z < x
                · rw [if_pos c, if_pos (show z < x + 1 by omega)]
                · rw [if_neg c, if_neg (show ¬ z < x + 1 by omega)]
            obtain ⟨v2, s2, hv2, hi2⟩ := s10_laid hr ho hw hw2 kx d (x + 1) (U ||| 2 ^ y) n (z_ud f x y) (z_sI v 21 x (nI y)) (by omega) hv1 (z_Pg_fit hw hw2 hx h1 hp h3) (z_Ur_put hU tx h1) hi1
            rw [z_back] at s2
            obtain ⟨v3, s3, hv3, hi3⟩ := ihk k' (by omega) (y + 1) h5 (n + z_ca P R d (x + 1) (z_ud f x y)) v2 (U ||| 2 ^ y) hv2 (Or.inr ⟨y, rfl, h1, z_Ur_fit hU h1 h3, rfl, hi2⟩)
            refine ⟨v3, ?_, hv3, hi3⟩
            have e6 : n + z_ts (fun y => if z_fit P R x f y then z_ca P R d (x + 1) (z_ud f x y) else 0) k y0 = n + z_ca P R d (x + 1) (z_ud f x y) + z_ts (fun y => if z_fit P R x f y then z_ca P R d (x + 1) (z_ud f x y) else 0) k' (y + 1) := by
              rw [h6]
              simp only [h3, if_true]
              omega
            rw [e6]
            refine ((s1.tr s2).tr s3).le ?_
            have hk' : k' + 1 ≤ k := by omega
            have : (k' + 1) * (z_LK d + 1) ≤ k * (z_LK d + 1) := Nat.mul_le_mul_right _ hk'
            rw [Nat.add_mul] at this
            omega
      obtain ⟨v', s, hv', hi'⟩ := key 9 0 rfl n v U hv (Or.inl ⟨rfl, rfl, hi⟩)
      refine ⟨v', ?_, hv', hi'⟩
      have e : z_ts (fun y => if z_fit P R x f y then z_ca P R d (x + 1) (z_ud f x y) else 0) 9 0 = z_ca P R (d + 1) x f := by
        have := z_ts_sm (fun y => if z_fit P R x f y then z_ca P R d (x + 1) (z_ud f x y) else 0) 9 0
        rw [Nat.zero_add] at this
        rw [z_ca, if_pos tx]
        have h0 : fb_sm (fun y => if z_fit P R x f y then z_ca P R d (x + 1) (z_ud f x y) else 0) 0 = 0 := rfl
        omega
      rw [e] at s
      exact s.le (by show 9 * (z_LK d + 1) + 1 ≤ 9 * (z_LK d + 1) + 2; omega)
theorem s10_laidOn (hr : z_rr (w.1 1) P) (ho : z_oth R w) (hw : z_wf P) (hw2 : z_wf R) : z_ok (f_X10_laidOn w) (fun q => q.1 = nI (z_ca P R 9 0 (fun z => z)) ∧ ∀ k, k ≠ 21 → q.2.1 k = w.1 k) := by
  unfold f_X10_laidOn
  refine z_ok_l9 (fun j q => q.1 = nI j ∧ (∀ k, k ≠ 21 → q.2.1 k = w.1 k) ∧ ∀ z, z < j → q.2.1 21 z = -1) ⟨rfl, fun _ _ => rfl, fun z hz => absurd hz (by omega)⟩ ?_ ?_
  · rintro j ⟨jj, v⟩ hi ⟨e1, e2, e3⟩ kb hk
    dsimp only at e1 e2 e3
    subst e1
    unfold b_X10_laidOn_9
    simp only [z_le9 hi, if_false, z_ok_gd, z_in9 hi, true_and, z_ok_lt, z_c9 hi, z_1]
    refine hk _ ⟨rfl, fun k hk => ?_, fun z hz => ?_⟩
    · dsimp only
      rw [z_sI_ne hk]; exact e2 k hk
    · simp only [z_sI_1, true_and]
      by_cases e : j = z
      · rw [if_pos e]
      · rw [if_neg e]; exact e3 z (by omega)
  · rintro ⟨jj, v⟩ ⟨e1, e2, e3⟩ kb
    dsimp only at e1 e2 e3
    subst e1
    unfold b_X10_laidOn_9
    dsimp only
    rw [if_pos (show (9 : Int32) ≤ nI 9 by decide)]
    obtain ⟨v', s, hv', hi'⟩ := s10_laid hr ho hw hw2 (fun t43 => some (t43.1, t43.2)) 9 0 0 0 (fun z => z) v rfl e2 (fun z hz => absurd hz (by omega)) z_Ur_0 (fun z hz => by rw [if_neg (by omega)]; exact e3 z hz)
    rw [Nat.zero_add] at s
    have hend := s.end (r := some (nI (z_ca P R 9 0 (fun z => z)), v')) (by decide) (fun kb => by
      unfold b_X10_laidOn_30
      dsimp only
      rw [if_pos (show nI 0 + (-1) < 0 by decide)])
    exact z_ok_of hend ⟨rfl, hv'⟩
theorem p_selves : z_S_selves z_Inv := by
  intro u w hI
  refine z_rd2 hI (fun P hw hc hr pm => ?_)
  have hr' := z_rr0 hr 0
  unfold f_X9_selves f_X10_selves
  by_cases ht : 0 < z_td P
  · obtain ⟨⟨r1, u1⟩, a1, a2, a3⟩ := s4_selvesOf hc hw
    dsimp only at a2 a3
    subst a2
    refine ⟨nI (z_ca P P 9 0 (fun z => z)), ?_, ?_⟩
    · rw [s9_isOrder hc hw, Option.bind_some, if_neg (by simp [ht, z_bi]), a1, z_ok_b2, z_ok_some, z_ok_some]
      exact ⟨rfl, z_eC.of pm (fun k hk => a3 k (by omega))⟩
    · rw [z_ok_lt, s10_isTold hr' hw, Option.bind_some, if_neg (by simp [ht, z_bi])]
      refine z_ok_l9 (fun j q => q.1 = nI j ∧ (∀ k, k ≠ 20 → q.2.1 k = (z_sI w 0 0 0).1 k) ∧ ∀ z, z < j → (z_th P).testBit z = true → q.2.1 20 z = nI (z_ab P z)) ⟨rfl, fun _ _ => rfl, fun z hz => absurd hz (by omega)⟩ ?_ ?_
      · rintro j ⟨jj, v⟩ hi ⟨e1, e2, e3⟩ kb hk
        dsimp only at e1 e2 e3
        subst e1
        have hrv : z_rr (v.1 1) P := by rw [e2 1 (by decide)]; exact hr'
        have hj10 : z_inb (nI j) 10 = true := z_inb_nI (by omega) (by decide)
        unfold b_X10_selves_16
        dsimp only
        rw [if_neg (show ¬ (9 : Int32) ≤ nI j by rw [z_le9 hi]; exact id), s10_above hrv hi, Option.bind_some, z_ok_gd, z_ok_lt, z_c9 hi, z_1]
        refine ⟨hj10, hk _ ⟨rfl, fun k hk => ?_, fun z hz tz => ?_⟩⟩
        · dsimp only
          rw [z_sI_ne hk]; exact e2 k hk
        · simp only [z_sI_1, true_and]
          by_cases e : j = z
          · subst e
            rw [if_pos rfl, (hrv.2.2.2.1 j hi).2.2 tz]
          · rw [if_neg e]; exact e3 z (by omega) tz
      · rintro ⟨jj, v⟩ ⟨e1, e2, e3⟩ kb
        dsimp only at e1 e2 e3
        subst e1
        have hrv : z_rr (v.1 1) P := by rw [e2 1 (by decide)]; exact hr'
        have h1 : v.1 1 1 = nI (z_th P) := hrv.2.1
        have e9 : (9 : Int32).toNatClampNeg = 9 := rfl
        unfold b_X10_selves_16
        dsimp only
        rw [if_pos (show (9 : Int32) ≤ nI 9 by decide), z_ok_gd, z_ok_gd, z_ok_lt, z_gI, z_c1, e9, h1]
        refine ⟨rfl, rfl, ?_⟩
        have hrv2 : z_rr ((z_sI v 20 9 (nI (z_th P))).1 1) P := by rw [z_sI_ne (by decide)]; exact hrv
        obtain ⟨⟨r2, w2⟩, b1, b2, b3⟩ := s10_laidOn (w := z_sI v 20 9 (nI (z_th P))) hrv2 (R := P) ⟨by simp [z_sI_1], fun k hk tk => by rw [z_sI_1, if_neg (by omega)]; exact e3 k hk tk⟩ hw hw
        dsimp only at b2 b3
        subst b2
        rw [b1, z_ok_b2, z_ok_some, z_ok_some]
        refine ⟨rfl, z_eR.tr (z_eR0 w) (z_eR.of (fun k hk => ?_))⟩
        dsimp only
        rw [b3 k (by omega), z_sI_ne (by omega)]
        exact e2 k (by omega)
  · refine ⟨-1, ?_, ?_⟩
    · rw [s9_isOrder hc hw, Option.bind_some, if_pos (by simp [ht, z_bi]), z_ok_some]
      exact ⟨rfl, z_eC.rf pm⟩
    · rw [z_ok_lt, s10_isTold hr' hw, Option.bind_some, if_pos (by simp [ht, z_bi]), z_ok_some]
      exact ⟨rfl, z_eR0 w⟩
end
