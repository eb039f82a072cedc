section
variable {P R : z_P}
/-! Points in turns: ways to lay them, in whatever turn they come. -/
def zt_fl (P R : z_P) (s : List Nat) (x : Nat) (f : Nat → Nat) (y : Nat) : Bool := (z_th R).testBit y && decide (∀ z, z ∈ s → (f z ≠ y ∧ (z_ab P z).testBit x = (z_ab R (f z)).testBit y ∧ (z_ab P x).testBit z = (z_ab R y).testBit (f z)))
theorem zt_fl_iff {s : List Nat} {x : Nat} {f : Nat → Nat} {y : Nat} : zt_fl P R s x f y = true ↔ (z_th R).testBit y = true ∧ ∀ z, z ∈ s → (f z ≠ y ∧ (z_ab P z).testBit x = (z_ab R (f z)).testBit y ∧ (z_ab P x).testBit z = (z_ab R y).testBit (f z)) := by
  unfold zt_fl
  rw [Bool.and_eq_true, decide_eq_true_eq]
/-- how many ways there are to lay those of l, those of s being laid -/
def z_wl (P R : z_P) : List Nat → List Nat → (Nat → Nat) → Nat
  | [], _, _ => 1
  | x :: l, s, f => fb_sm (fun y => if zt_fl P R s x f y then z_wl P R l (x :: s) (z_ud f x y) else 0) 9
theorem zt_fl_cg {s s' : List Nat} {f g : Nat → Nat} {x y : Nat} (hs : ∀ z, z ∈ s ↔ z ∈ s') (hf : ∀ z, z ∈ s → f z = g z) : zt_fl P R s x f y = zt_fl P R s' x g y := by
  rw [Bool.eq_iff_iff, zt_fl_iff, zt_fl_iff]
  constructor
  · rintro ⟨h1, h2⟩
    refine ⟨h1, fun z hz => ?_⟩
    have hz' := (hs z).mpr hz
    rw [← hf z hz']
    exact h2 z hz'
  · rintro ⟨h1, h2⟩
    refine ⟨h1, fun z hz => ?_⟩
    rw [hf z hz]
    exact h2 z ((hs z).mp hz)
theorem z_ud_cg {f g : Nat → Nat} {x y z : Nat} (h : z ≠ x → f z = g z) : z_ud f x y z = z_ud g x y z := by
  by_cases c : z = x
  · subst c; rw [z_ud_eq, z_ud_eq]
  · rw [z_ud_ne _ c, z_ud_ne _ c]; exact h c
theorem z_wl_cg : ∀ l s s' (f g : Nat → Nat), (∀ z, z ∈ s ↔ z ∈ s') → (∀ z, z ∈ s → f z = g z) → z_wl P R l s f = z_wl P R l s' g
  | [], _, _, _, _, _, _ => rfl
  | x :: l, s, s', f, g, hs, hf => by
    rw [z_wl, z_wl]
    refine fb_sm_cong (fun y _ => ?_)
    rw [zt_fl_cg hs hf, z_wl_cg l (x :: s) (x :: s') (z_ud f x y) (z_ud g x y) (fun z => by rw [List.mem_cons, List.mem_cons, hs z]) (fun z hz => z_ud_cg (fun c => hf z ((List.mem_cons.mp hz).resolve_left c)))]
def z_pts (T : Nat) : Nat → Nat → List Nat
  | 0, _ => []
  | d + 1, x => if T.testBit x then x :: z_pts T d (x + 1) else z_pts T d (x + 1)
theorem z_pts_mem (T : Nat) : ∀ d x z, z ∈ z_pts T d x ↔ x ≤ z ∧ z < x + d ∧ T.testBit z = true
  | 0, x, z => by
    constructor
    · intro h; cases h
    · rintro ⟨a, b, -⟩; omega
  | d + 1, x, z => by
    rw [z_pts]
    cases h : T.testBit x
    · simp only [Bool.false_eq_true, if_false]
      rw [z_pts_mem T d (x + 1) z]
      constructor
      · rintro ⟨a, b, c⟩; exact ⟨by omega, by omega, c⟩
      · rintro ⟨a, b, c⟩
        have : z ≠ x := by rintro rfl; rw [h] at c; cases c
        exact ⟨by omega, by omega, c⟩
    · simp only [if_true]
      rw [List.mem_cons, z_pts_mem T d (x + 1) z]
      constructor
      · rintro (rfl | ⟨a, b, c⟩)
        · exact ⟨Nat.le_refl _, by omega, h⟩
        · exact ⟨by omega, by omega, c⟩
      · rintro ⟨a, b, c⟩
        by_cases e : z = x
        · exact Or.inl e
        · exact Or.inr ⟨by omega, by omega, c⟩
theorem z_pts_nd (T : Nat) : ∀ d x, (z_pts T d x).Nodup
  | 0, _ => List.nodup_nil
  | d + 1, x => by
    rw [z_pts]
    split
    · refine List.nodup_cons.mpr ⟨fun c => ?_, z_pts_nd T d (x + 1)⟩
      have := ((z_pts_mem T d (x + 1) x).mp c).1
      omega
    · exact z_pts_nd T d (x + 1)
theorem z_ca_cl : ∀ d x s (f : Nat → Nat), (∀ z, z ∈ s ↔ z < x ∧ (z_th P).testBit z = true) → z_ca P R d x f = z_wl P R (z_pts (z_th P) d x) s f
  | 0, _, _, _, _ => rfl
  | d + 1, x, s, f, hs => by
    rw [z_ca, z_pts]
    cases tx : (z_th P).testBit x
    · simp only [Bool.false_eq_true, if_false]
      refine z_ca_cl d (x + 1) s f (fun z => ?_)
      rw [hs z]
      constructor
      · rintro ⟨a, b⟩; exact ⟨by omega, b⟩
      · rintro ⟨a, b⟩
        have : z ≠ x := by rintro rfl; rw [tx] at b; cases b
        exact ⟨by omega, b⟩
    · simp only [if_true]
      rw [z_wl]
      refine fb_sm_cong (fun y _ => ?_)
      have e : z_fit P R x f y = zt_fl P R s x f y := by
        rw [Bool.eq_iff_iff, z_fit_iff, zt_fl_iff]
        constructor
        · rintro ⟨h1, h2⟩
          exact ⟨h1, fun z hz => h2 z ((hs z).mp hz).1 ((hs z).mp hz).2⟩
        · rintro ⟨h1, h2⟩
          exact ⟨h1, fun z hz tz => h2 z ((hs z).mpr ⟨hz, tz⟩)⟩
      have hs' : ∀ z, z ∈ x :: s ↔ z < x + 1 ∧ (z_th P).testBit z = true := by
        intro z
        rw [List.mem_cons, hs z]
        constructor
        · rintro (rfl | ⟨a, b⟩)
          · exact ⟨by omega, tx⟩
          · exact ⟨by omega, b⟩
        · rintro ⟨a, b⟩
          by_cases c : z = x
          · exact Or.inl c
          · exact Or.inr ⟨by omega, b⟩
      rw [e, z_ca_cl d (x + 1) (x :: s) (z_ud f x y) hs']
theorem z_if_sm (c : Bool) (F : Nat → Nat) (n : Nat) : (if c then fb_sm F n else 0) = fb_sm (fun k => if c then F k else 0) n := by
  cases c
  · simp only [Bool.false_eq_true, if_false]
    rw [z_sm_0 _ (fun _ => rfl)]
  · simp only [if_true]
theorem zt_fl_cons {s : List Nat} {x y i j : Nat} {f : Nat → Nat} (hy : y ∉ s) : zt_fl P R (y :: s) x (z_ud f y j) i = true ↔ zt_fl P R s x f i = true ∧ (j ≠ i ∧ (z_ab P y).testBit x = (z_ab R j).testBit i ∧ (z_ab P x).testBit y = (z_ab R i).testBit j) := by
  rw [zt_fl_iff, zt_fl_iff]
  constructor
  · rintro ⟨h1, h2⟩
    refine ⟨⟨h1, fun z hz => ?_⟩, ?_⟩
    · have := h2 z (List.mem_cons_of_mem _ hz)
      rwa [z_ud_ne _ (by rintro rfl; exact hy hz)] at this
    · have := h2 y (List.mem_cons.mpr (Or.inl rfl))
      rwa [z_ud_eq] at this
  · rintro ⟨⟨h1, h2⟩, h3⟩
    refine ⟨h1, fun z hz => ?_⟩
    rcases List.mem_cons.mp hz with rfl | hz2
    · rw [z_ud_eq]; exact h3
    · rw [z_ud_ne _ (by rintro rfl; exact hy hz2)]; exact h2 z hz2
theorem z_if2 {a b : Bool} {n : Nat} (h : ¬ (a = true ∧ b = true)) : (if a then (if b then n else 0) else 0) = 0 := by
  cases a <;> cases b <;> simp_all
theorem z_wl_swap {x y : Nat} (hxy : x ≠ y) {s : List Nat} (hx : x ∉ s) (hy : y ∉ s) (l : List Nat) (f : Nat → Nat) : z_wl P R (y :: x :: l) s f = z_wl P R (x :: y :: l) s f := by
  have e : ∀ a b : Nat, z_wl P R (a :: b :: l) s f = fb_sm (fun i => fb_sm (fun j => if zt_fl P R s a f i then (if zt_fl P R (a :: s) b (z_ud f a i) j then z_wl P R l (b :: a :: s) (z_ud (z_ud f a i) b j) else 0) else 0) 9) 9 := fun a b => by
    rw [z_wl]
    refine fb_sm_cong (fun i _ => ?_)
    rw [z_wl, z_if_sm]
  rw [e y x, e x y]
  refine (z_sm_ex _ 9 9).trans (fb_sm_cong (fun i _ => fb_sm_cong (fun j _ => ?_)))
  have hcg : z_wl P R l (x :: y :: s) (z_ud (z_ud f y j) x i) = z_wl P R l (y :: x :: s) (z_ud (z_ud f x i) y j) := z_wl_cg l _ _ _ _ (fun z => by
    simp only [List.mem_cons]
    constructor
    · rintro (h | h | h)
      · exact Or.inr (Or.inl h)
      · exact Or.inl h
      · exact Or.inr (Or.inr h)
    · rintro (h | h | h)
      · exact Or.inr (Or.inl h)
      · exact Or.inl h
      · exact Or.inr (Or.inr h)) (fun z _ => by
    by_cases c1 : z = x
    · subst c1
      rw [z_ud_eq, z_ud_ne _ hxy, z_ud_eq]
    · rw [z_ud_ne _ c1]
      by_cases c2 : z = y
      · subst c2
        rw [z_ud_eq, z_ud_eq]
      · rw [z_ud_ne _ c2, z_ud_ne _ c2, z_ud_ne _ c1])
  have hc : (zt_fl P R s y f j = true ∧ zt_fl P R (y :: s) x (z_ud f y j) i = true) ↔ (zt_fl P R s x f i = true ∧ zt_fl P R (x :: s) y (z_ud f x i) j = true) := by
    rw [zt_fl_cons hy, zt_fl_cons hx]
    constructor
    · rintro ⟨a, b, c, d, e⟩
      exact ⟨b, a, Ne.symm c, e, d⟩
    · rintro ⟨a, b, c, d, e⟩
      exact ⟨b, a, Ne.symm c, e, d⟩
  by_cases h1 : zt_fl P R s y f j = true ∧ zt_fl P R (y :: s) x (z_ud f y j) i = true
  · have h2 := hc.mp h1
    rw [if_pos h1.1, if_pos h1.2, if_pos h2.1, if_pos h2.2, hcg]
  · rw [z_if2 h1, z_if2 (fun h => h1 (hc.mpr h))]
theorem z_wl_perm {l l' : List Nat} (h : l.Perm l') : ∀ s (f : Nat → Nat), l.Nodup → (∀ z, z ∈ l → z ∉ s) → z_wl P R l s f = z_wl P R l' s f := by
  induction h with
  | nil => intros; rfl
  | cons x h ih =>
    intro s f hn hs
    rw [z_wl, z_wl]
    refine fb_sm_cong (fun y _ => ?_)
    rw [ih (x :: s) (z_ud f x y) (List.nodup_cons.mp hn).2 (fun z hz c => by
      rcases List.mem_cons.mp c with rfl | c
      · exact (List.nodup_cons.mp hn).1 hz
      · exact hs z (List.mem_cons_of_mem _ hz) c)]
  | swap x y l =>
    intro s f hn hs
    have hne : x ≠ y := by rintro rfl; exact (List.nodup_cons.mp hn).1 (List.mem_cons.mpr (Or.inl rfl))
    exact z_wl_swap hne (hs x (List.mem_cons_of_mem _ (List.mem_cons.mpr (Or.inl rfl)))) (hs y (List.mem_cons.mpr (Or.inl rfl))) l f
  | trans h1 h2 ih1 ih2 =>
    intro s f hn hs
    rw [ih1 s f hn hs, ih2 s f (h1.nodup_iff.mp hn) (fun z hz => hs z (h1.mem_iff.mpr hz))]
theorem z_pmof : ∀ (l l' : List Nat), l.Nodup → l'.Nodup → (∀ z, z ∈ l ↔ z ∈ l') → l.Perm l'
  | [], l', _, _, h => by
    cases l' with
    | nil => exact List.Perm.nil
    | cons a t => exact absurd ((h a).mpr (List.mem_cons.mpr (Or.inl rfl))) (fun c => by cases c)
  | x :: l, l', hn, hn', h => by
    have hx : x ∈ l' := (h x).mp (List.mem_cons.mpr (Or.inl rfl))
    refine List.Perm.trans (List.Perm.cons x (z_pmof l (l'.erase x) (List.nodup_cons.mp hn).2 (hn'.erase x) (fun z => ?_))) (List.perm_cons_erase hx).symm
    rw [hn'.mem_erase_iff, ← h z, List.mem_cons]
    constructor
    · intro hz
      exact ⟨by rintro rfl; exact (List.nodup_cons.mp hn).1 hz, Or.inr hz⟩
    · rintro ⟨h1, h2⟩
      exact h2.resolve_left h1
def zt_tl (τ : Nat → Nat) : Nat → Nat → List Nat
  | 0, _ => []
  | d + 1, i => τ i :: zt_tl τ d (i + 1)
def z_pl (τ : Nat → Nat) : Nat → List Nat
  | 0 => []
  | i + 1 => τ i :: z_pl τ i
theorem zt_tl_mem (τ : Nat → Nat) : ∀ d i z, z ∈ zt_tl τ d i ↔ ∃ k, i ≤ k ∧ k < i + d ∧ τ k = z
  | 0, i, z => by
    constructor
    · intro h; cases h
    · rintro ⟨k, a, b, -⟩; omega
  | d + 1, i, z => by
    rw [zt_tl, List.mem_cons, zt_tl_mem τ d (i + 1) z]
    constructor
    · rintro (rfl | ⟨k, a, b, c⟩)
      · exact ⟨i, Nat.le_refl _, by omega, rfl⟩
      · exact ⟨k, by omega, by omega, c⟩
    · rintro ⟨k, a, b, c⟩
      by_cases e : k = i
      · subst e; exact Or.inl c.symm
      · exact Or.inr ⟨k, by omega, by omega, c⟩
theorem z_pl_mem (τ : Nat → Nat) : ∀ i z, z ∈ z_pl τ i ↔ ∃ k, k < i ∧ τ k = z
  | 0, z => by
    constructor
    · intro h; cases h
    · rintro ⟨k, a, -⟩; omega
  | i + 1, z => by
    rw [z_pl, List.mem_cons, z_pl_mem τ i z]
    constructor
    · rintro (rfl | ⟨k, a, b⟩)
      · exact ⟨i, by omega, rfl⟩
      · exact ⟨k, by omega, b⟩
    · rintro ⟨k, a, b⟩
      by_cases e : k = i
      · subst e; exact Or.inl b.symm
      · exact Or.inr ⟨k, by omega, b⟩
/-- turns in which every point comes once -/
def z_Tn (P : z_P) (τ : Nat → Nat) (n : Nat) : Prop := n ≤ 9 ∧ (∀ k, k < n → τ k < 9 ∧ (z_th P).testBit (τ k) = true) ∧ (∀ k m, k < n → m < n → τ k = τ m → k = m) ∧ ∀ z, z < 9 → (z_th P).testBit z = true → ∃ k, k < n ∧ τ k = z
theorem zt_tl_nd {τ : Nat → Nat} {n : Nat} (hT : z_Tn P τ n) : ∀ d i, i + d ≤ n → (zt_tl τ d i).Nodup
  | 0, _, _ => List.nodup_nil
  | d + 1, i, h => by
    rw [zt_tl]
    refine List.nodup_cons.mpr ⟨fun c => ?_, zt_tl_nd hT d (i + 1) (by omega)⟩
    obtain ⟨k, a, b, e⟩ := (zt_tl_mem τ d (i + 1) (τ i)).mp c
    have := hT.2.2.1 k i (by omega) (by omega) e
    omega
theorem z_ca_tl {τ : Nat → Nat} {n : Nat} (hT : z_Tn P τ n) (f : Nat → Nat) : z_ca P R 9 0 f = z_wl P R (zt_tl τ n 0) (z_pl τ 0) f := by
  have hnil : ∀ z : Nat, z ∈ ([] : List Nat) ↔ z < 0 ∧ (z_th P).testBit z = true := fun z => ⟨fun c => (by cases c), fun c => (by omega)⟩
  rw [z_ca_cl 9 0 [] f hnil]
  refine z_wl_perm (z_pmof _ _ (z_pts_nd _ 9 0) (zt_tl_nd hT n 0 (by omega)) (fun z => ?_)) [] f (z_pts_nd _ 9 0) (fun z _ c => by cases c)
  rw [z_pts_mem, zt_tl_mem]
  constructor
  · rintro ⟨-, b, c⟩
    obtain ⟨k, h1, h2⟩ := hT.2.2.2 z (by omega) c
    exact ⟨k, by omega, by omega, h2⟩
  · rintro ⟨k, a, b, rfl⟩
    obtain ⟨h1, h2⟩ := hT.2.1 k (by omega)
    exact ⟨by omega, by omega, h2⟩
/-- those of l come yet, those of s are laid -/
def z_Ls (P : z_P) (l s : List Nat) : Prop := l.Nodup ∧ (∀ z, z ∈ l → z ∉ s) ∧ (∀ z, z ∈ l → z < 9 ∧ (z_th P).testBit z = true) ∧ (∀ z, z ∈ s → z < 9 ∧ (z_th P).testBit z = true) ∧ ∀ z, z < 9 → (z_th P).testBit z = true → z ∈ l ∨ z ∈ s
theorem z_Ls.tl {x : Nat} {l s : List Nat} (h : z_Ls P (x :: l) s) : z_Ls P l (x :: s) := by
  obtain ⟨h1, h2, h3, h4, h5⟩ := h
  refine ⟨(List.nodup_cons.mp h1).2, fun z hz c => ?_, fun z hz => h3 z (List.mem_cons_of_mem _ hz), fun z hz => ?_, fun z hz tz => ?_⟩
  · rcases List.mem_cons.mp c with rfl | c
    · exact (List.nodup_cons.mp h1).1 hz
    · exact h2 z (List.mem_cons_of_mem _ hz) c
  · rcases List.mem_cons.mp hz with rfl | hz
    · exact h3 z (List.mem_cons.mpr (Or.inl rfl))
    · exact h4 z hz
  · rcases h5 z hz tz with h | h
    · rcases List.mem_cons.mp h with rfl | h
      · exact Or.inr (List.mem_cons.mpr (Or.inl rfl))
      · exact Or.inl h
    · exact Or.inr (List.mem_cons_of_mem _ h)
theorem z_Tn_Ls {τ : Nat → Nat} {n : Nat} (hT : z_Tn P τ n) : ∀ i, i ≤ n → z_Ls P (zt_tl τ (n - i) i) (z_pl τ i)
  | 0, _ => by
    refine ⟨zt_tl_nd hT _ 0 (by omega), fun z _ c => (by cases c), fun z hz => ?_, fun z c => (by cases c), fun z hz tz => ?_⟩
    · obtain ⟨k, a, b, rfl⟩ := (zt_tl_mem τ (n - 0) 0 z).mp hz
      exact hT.2.1 k (by omega)
    · obtain ⟨k, h1, h2⟩ := hT.2.2.2 z hz tz
      exact Or.inl ((zt_tl_mem τ (n - 0) 0 z).mpr ⟨k, by omega, by omega, h2⟩)
  | i + 1, h => by
    have := z_Tn_Ls hT i (by omega)
    rw [show n - i = (n - (i + 1)) + 1 by omega] at this
    exact this.tl
/-- those of s are well laid -/
def z_Pl (P R : z_P) (s : List Nat) (f : Nat → Nat) : Prop := ∀ z, z ∈ s → f z < 9 ∧ (z_th R).testBit (f z) = true ∧ ∀ t, t ∈ s → (z ≠ t → f z ≠ f t) ∧ (z_ab P z).testBit t = (z_ab R (f z)).testBit (f t)
theorem z_Pl_fit (hw : z_wf P) (hw2 : z_wf R) {s : List Nat} {x y : Nat} (hx : x < 9) (hy : y < 9) (hxs : x ∉ s) {f : Nat → Nat} (h : z_Pl P R s f) (hf : zt_fl P R s x f y = true) : z_Pl P R (x :: s) (z_ud f x y) := by
  obtain ⟨h1, h2⟩ := zt_fl_iff.mp hf
  intro z hz
  rcases List.mem_cons.mp hz with rfl | hz2
  · rw [z_ud_eq]
    refine ⟨hy, h1, fun t ht => ?_⟩
    rcases List.mem_cons.mp ht with rfl | ht2
    · rw [z_ud_eq, hw.irr t hx, hw2.irr y hy]
      exact ⟨fun c => absurd rfl c, rfl⟩
    · rw [z_ud_ne _ (by rintro rfl; exact hxs ht2)]
      obtain ⟨g1, g2, g3⟩ := h2 t ht2
      exact ⟨fun _ => Ne.symm g1, g3⟩
  · rw [z_ud_ne _ (by rintro rfl; exact hxs hz2)]
    obtain ⟨a1, a2, a3⟩ := h z hz2
    refine ⟨a1, a2, fun t ht => ?_⟩
    rcases List.mem_cons.mp ht with rfl | ht2
    · rw [z_ud_eq]
      obtain ⟨g1, g2, g3⟩ := h2 z hz2
      exact ⟨fun _ => g1, g2⟩
    · rw [z_ud_ne _ (by rintro rfl; exact hxs ht2)]
      exact a3 t ht2
def z_El (P R : z_P) (s : List Nat) (f g : Nat → Nat) : Prop := (∀ z, z ∈ s → g z = f z) ∧ z_Pg P R 9 g
theorem zt_fl_El {s : List Nat} {x : Nat} (hx : x < 9) (tx : (z_th P).testBit x = true) (hs : ∀ z, z ∈ s → z < 9 ∧ (z_th P).testBit z = true) (hxs : x ∉ s) {f g : Nat → Nat} (h : z_El P R s f g) : g x < 9 ∧ zt_fl P R s x f (g x) = true ∧ z_El P R (x :: s) (z_ud f x (g x)) g := by
  obtain ⟨h1, h2⟩ := h
  obtain ⟨a1, a2, a3⟩ := h2 x hx tx
  refine ⟨a1, zt_fl_iff.mpr ⟨a2, fun z hz => ?_⟩, fun z hz => ?_, h2⟩
  · obtain ⟨s1, s2⟩ := hs z hz
    obtain ⟨b1, b2, b3⟩ := h2 z s1 s2
    rw [← h1 z hz]
    exact ⟨(b3 x hx tx).1 (by rintro rfl; exact hxs hz), (b3 x hx tx).2, (a3 z s1 s2).2⟩
  · rcases List.mem_cons.mp hz with rfl | hz2
    · rw [z_ud_eq]
    · rw [z_ud_ne _ (by rintro rfl; exact hxs hz2)]; exact h1 z hz2
theorem z_El_ud {s : List Nat} {x y : Nat} (hxs : x ∉ s) {f g : Nat → Nat} (h : z_El P R (x :: s) (z_ud f x y) g) : z_El P R s f g := ⟨fun z hz => by rw [h.1 z (List.mem_cons_of_mem _ hz), z_ud_ne _ (by rintro rfl; exact hxs hz)], h.2⟩
theorem z_wl_pos (hw : z_wf P) (hw2 : z_wf R) : ∀ l s f, z_Ls P l s → z_Pl P R s f → (0 < z_wl P R l s f ↔ ∃ g, z_El P R s f g)
  | [], s, f, hL, hp => by
    refine ⟨fun _ => ⟨f, fun _ _ => rfl, fun z hz tz => ?_⟩, fun _ => Nat.one_pos⟩
    have hin : ∀ t, t < 9 → (z_th P).testBit t = true → t ∈ s := fun t ht tt => (hL.2.2.2.2 t ht tt).resolve_left (fun c => by cases c)
    obtain ⟨a1, a2, a3⟩ := hp z (hin z hz tz)
    exact ⟨a1, a2, fun t ht tt => a3 t (hin t ht tt)⟩
  | x :: l, s, f, hL, hp => by
    obtain ⟨hx, tx⟩ := hL.2.2.1 x (List.mem_cons.mpr (Or.inl rfl))
    have hxs : x ∉ s := hL.2.1 x (List.mem_cons.mpr (Or.inl rfl))
    rw [z_wl]
    constructor
    · intro h
      have hex : ∃ y, y < 9 ∧ 0 < (if zt_fl P R s x f y then z_wl P R l (x :: s) (z_ud f x y) else 0) := Classical.byContradiction (fun hn => by
        have : fb_sm (fun y => if zt_fl P R s x f y then z_wl P R l (x :: s) (z_ud f x y) else 0) 9 ≤ 9 * 0 := fb_sm_bound (fun y hy => Nat.le_of_not_lt (fun c => hn ⟨y, hy, c⟩))
        omega)
      obtain ⟨y, hy, hc⟩ := hex
      by_cases hf : zt_fl P R s x f y = true
      · rw [if_pos hf] at hc
        obtain ⟨g, hg⟩ := (z_wl_pos hw hw2 l (x :: s) _ hL.tl (z_Pl_fit hw hw2 hx hy hxs hp hf)).mp hc
        exact ⟨g, z_El_ud hxs hg⟩
      · rw [if_neg hf] at hc
        omega
    · rintro ⟨g, hg⟩
      obtain ⟨a1, a2, a3⟩ := zt_fl_El hx tx hL.2.2.2.1 hxs hg
      have h1 := (z_wl_pos hw hw2 l (x :: s) _ hL.tl (z_Pl_fit hw hw2 hx a1 hxs hp a2)).mpr ⟨g, a3⟩
      have h2 := fb_sm_part (fun y => if zt_fl P R s x f y then z_wl P R l (x :: s) (z_ud f x y) else 0) a1
      try dsimp only at h2
      rw [if_pos a2] at h2
      omega
theorem z_wl_inv (hw : z_wf P) {g : Nat → Nat} (hg : z_Pg P P 9 g) : ∀ l s (f : Nat → Nat), z_Ls P l s → z_Pl P P s f → z_wl P P l s (fun z => g (f z)) = z_wl P P l s f
  | [], _, _, _, _ => rfl
  | x :: l, s, f, hL, hp => by
    obtain ⟨hx, tx⟩ := hL.2.2.1 x (List.mem_cons.mpr (Or.inl rfl))
    have hxs : x ∉ s := hL.2.1 x (List.mem_cons.mpr (Or.inl rfl))
    rw [z_wl, z_wl]
    have e1 : fb_sm (fun y => if zt_fl P P s x (fun z => g (f z)) y then z_wl P P l (x :: s) (z_ud (fun z => g (f z)) x y) else 0) 9 = fb_sm (fun y => if (z_th P).testBit y then (if zt_fl P P s x (fun z => g (f z)) y then z_wl P P l (x :: s) (z_ud (fun z => g (f z)) x y) else 0) else 0) 9 := fb_sm_cong (fun y _ => by
      cases hb : (z_th P).testBit y
      · simp [zt_fl, hb]
      · simp)
    rw [e1, ← z_re hw hg (fun y => if zt_fl P P s x (fun z => g (f z)) y then z_wl P P l (x :: s) (z_ud (fun z => g (f z)) x y) else 0)]
    refine fb_sm_cong (fun y hy => ?_)
    cases hb : (z_th P).testBit y
    · simp [zt_fl, hb]
    · obtain ⟨g1, g2, g3⟩ := hg y hy hb
      simp only [if_true]
      have e2 : zt_fl P P s x (fun z => g (f z)) (g y) = zt_fl P P s x f y := by
        rw [Bool.eq_iff_iff, zt_fl_iff, zt_fl_iff]
        constructor
        · rintro ⟨-, h2⟩
          refine ⟨hb, fun z hz => ?_⟩
          obtain ⟨f1, f2, -⟩ := hp z hz
          obtain ⟨c1, c2, c3⟩ := h2 z hz
          obtain ⟨-, -, k3⟩ := hg (f z) f1 f2
          refine ⟨fun e => c1 (by rw [e]), ?_, ?_⟩
          · rw [c2, ← (k3 y hy hb).2]
          · rw [c3, ← (g3 (f z) f1 f2).2]
        · rintro ⟨-, h2⟩
          refine ⟨g2, fun z hz => ?_⟩
          obtain ⟨f1, f2, -⟩ := hp z hz
          obtain ⟨c1, c2, c3⟩ := h2 z hz
          obtain ⟨-, -, k3⟩ := hg (f z) f1 f2
          refine ⟨(k3 y hy hb).1 c1, ?_, ?_⟩
          · rw [c2, (k3 y hy hb).2]
          · rw [c3, (g3 (f z) f1 f2).2]
      rw [e2]
      by_cases hf : zt_fl P P s x f y = true
      · rw [if_pos hf, if_pos hf, ← z_wl_inv hw hg l (x :: s) (z_ud f x y) hL.tl (z_Pl_fit hw hw hx hy hxs hp hf)]
        refine z_wl_cg l _ _ _ _ (fun _ => Iff.rfl) (fun z hz => ?_)
        by_cases c : z = x
        · subst c; rw [z_ud_eq, z_ud_eq]
        · rw [z_ud_ne _ c, z_ud_ne _ c]
      · rw [if_neg hf, if_neg hf]
theorem z_id_Pl {s : List Nat} (h : ∀ z, z ∈ s → z < 9 ∧ (z_th P).testBit z = true) : z_Pl P P s (fun z => z) := fun z hz => ⟨(h z hz).1, (h z hz).2, fun _ _ => ⟨fun c => c, rfl⟩⟩
/-- how many places there are for x, those of s standing -/
def z_nl (P : z_P) (l s : List Nat) (x : Nat) : Nat := fb_ct (fun y => zt_fl P P s x (fun z => z) y && decide (0 < z_wl P P l (x :: s) (z_ud (fun z => z) x y))) 9
theorem z_wl_np (hw : z_wf P) {x : Nat} {l s : List Nat} (hL : z_Ls P (x :: l) s) : z_wl P P (x :: l) s (fun z => z) = z_nl P l s x * z_wl P P l (x :: s) (fun z => z) := by
  obtain ⟨hx, tx⟩ := hL.2.2.1 x (List.mem_cons.mpr (Or.inl rfl))
  have hxs : x ∉ s := hL.2.1 x (List.mem_cons.mpr (Or.inl rfl))
  have hid := z_id_Pl hL.2.2.2.1
  rw [z_wl]
  have e : fb_sm (fun y => if zt_fl P P s x (fun z => z) y then z_wl P P l (x :: s) (z_ud (fun z => z) x y) else 0) 9 = fb_sm (fun y => z_wl P P l (x :: s) (fun z => z) * (if (zt_fl P P s x (fun z => z) y && decide (0 < z_wl P P l (x :: s) (z_ud (fun z => z) x y))) = true then 1 else 0)) 9 := fb_sm_cong (fun y hy => by
    by_cases hf : zt_fl P P s x (fun z => z) y = true
    · rw [if_pos hf, hf, Bool.true_and]
      simp only [decide_eq_true_eq]
      by_cases hc : 0 < z_wl P P l (x :: s) (z_ud (fun z => z) x y)
      · rw [if_pos hc, Nat.mul_one]
        have hPl := z_Pl_fit hw hw hx hy hxs hid hf
        obtain ⟨g, h1, h2⟩ := (z_wl_pos hw hw l (x :: s) _ hL.tl hPl).mp hc
        rw [← z_wl_inv hw h2 l (x :: s) (fun z => z) hL.tl (z_id_Pl hL.tl.2.2.2.1)]
        exact z_wl_cg l _ _ _ _ (fun _ => Iff.rfl) (fun z hz => (h1 z hz).symm)
      · rw [if_neg hc]; omega
    · rw [if_neg hf, if_neg (by rw [Bool.and_eq_true]; exact fun c => hf c.1), Nat.mul_zero])
  rw [e, z_sm_mul, Nat.mul_comm]
  rfl
end
