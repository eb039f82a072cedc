/-! Rows of numbers modulo p: which columns lead. No sums: what is made of rows is what lies in every set of rows that holds them and is closed. -/
def zv_dv (p x : Int) : Prop := ∃ k, x = p * k
theorem zv_dv.z {p : Int} : zv_dv p 0 := ⟨0, by omega⟩
theorem zv_dv.add {p x y : Int} (hx : zv_dv p x) (hy : zv_dv p y) (a b : Int) {t : Int} (e : t = a * x + b * y) : zv_dv p t := by
  obtain ⟨k, rfl⟩ := hx
  obtain ⟨l, rfl⟩ := hy
  exact ⟨a * k + b * l, by rw [e]; grind⟩
theorem zv_dv.mul {p x : Int} (hx : zv_dv p x) (a : Int) {t : Int} (e : t = a * x) : zv_dv p t := by
  obtain ⟨k, rfl⟩ := hx
  exact ⟨a * k, by rw [e]; grind⟩
def zv_cls (p : Int) (m : Nat) (W : (Nat → Int) → Prop) : Prop := W (fun _ => 0) ∧ (∀ a b v v', W v → W v' → W (fun i => a * v i + b * v' i)) ∧ ∀ v v', (∀ i, i < m → zv_dv p (v i - v' i)) → W v → W v'
def zv_ld (p : Int) (v : Nat → Int) (j : Nat) : Prop := (∀ i, i < j → zv_dv p (v i)) ∧ ¬ zv_dv p (v j)
/-- column j leads something that is made of the rows G -/
def zv_Ld (p : Int) (m : Nat) (G : (Nat → Int) → Prop) (j : Nat) : Prop := ∃ v, (∀ W, zv_cls p m W → (∀ g, G g → W g) → W v) ∧ zv_ld p v j
def zv_R (p : Int) (m : Nat) (f : Nat → Bool) (E : Nat → Nat → Int) : Nat → Nat → (Nat → Int) → Prop
  | 0, _, v => ∀ i, i < m → zv_dv p (v i)
  | k + 1, j, v => ∃ c : Int, (f j = false → c = 0) ∧ zv_R p m f E k (j + 1) (fun i => v i - c * E j i)
section
variable {p : Int} {m : Nat} {f f' : Nat → Bool} {E E' : Nat → Nat → Int}
theorem zv_R_cg : ∀ k j v v', (∀ i, i < m → zv_dv p (v i - v' i)) → zv_R p m f E k j v → zv_R p m f E k j v'
  | 0, _, v, v', h, hr => fun i hi => (hr i hi).add (h i hi) 1 (-1) (by omega)
  | k + 1, j, v, v', h, ⟨c, h1, h2⟩ => ⟨c, h1, zv_R_cg k (j + 1) _ _ (fun i hi => (h i hi).mul 1 (by omega)) h2⟩
theorem zv_R_0 : ∀ k j, zv_R p m f E k j (fun _ => 0)
  | 0, _ => fun _ _ => zv_dv.z
  | k + 1, j => ⟨0, fun _ => rfl, zv_R_cg k (j + 1) _ _ (fun i _ => ⟨0, by simp⟩) (zv_R_0 k (j + 1))⟩
theorem zv_R_lin (a b : Int) : ∀ k j v v', zv_R p m f E k j v → zv_R p m f E k j v' → zv_R p m f E k j (fun i => a * v i + b * v' i)
  | 0, _, _, _, h, h' => fun i hi => (h i hi).add (h' i hi) a b rfl
  | k + 1, j, v, v', ⟨c, h1, h2⟩, ⟨c', h1', h2'⟩ => ⟨a * c + b * c', fun q => by rw [h1 q, h1' q]; omega, zv_R_cg k (j + 1) _ _ (fun i _ => ⟨0, by grind⟩) (zv_R_lin a b k (j + 1) _ _ h2 h2')⟩
theorem zv_R_cls (k j : Nat) : zv_cls p m (zv_R p m f E k j) := ⟨zv_R_0 k j, fun a b v v' h h' => zv_R_lin a b k j v v' h h', fun v v' h hr => zv_R_cg k j v v' h hr⟩
def zv_ext (m : Nat) (f f' : Nat → Bool) (E E' : Nat → Nat → Int) : Prop := ∀ j, j < m → f j = true → f' j = true ∧ E' j = E j
theorem zv_ext.rf : zv_ext m f f E E := fun _ _ h => ⟨h, rfl⟩
theorem zv_R_ext (h : zv_ext m f f' E E') : ∀ k j v, j + k ≤ m → zv_R p m f E k j v → zv_R p m f' E' k j v
  | 0, _, _, _, hr => hr
  | k + 1, j, v, hj, ⟨c, h1, h2⟩ => by
    have ih := zv_R_ext h k (j + 1) _ (by omega) h2
    cases hf : f j
    · have hc := h1 hf
      subst hc
      exact ⟨0, fun _ => rfl, zv_R_cg k (j + 1) _ _ (fun i _ => ⟨0, by simp⟩) ih⟩
    · obtain ⟨g1, g2⟩ := h j (by omega) hf
      refine ⟨c, fun q => ?_, ?_⟩
      · rw [g1] at q; cases q
      · rw [g2]; exact ih
/-- steps: a row of which a multiple of a standing row is taken off -/
theorem zv_R_st {k j : Nat} {v v' : Nat → Int} (c : Int) (hc : f j = false → c = 0) (h : ∀ i, i < m → zv_dv p (v i - c * E j i - v' i)) (hr : zv_R p m f E k (j + 1) v') : zv_R p m f E (k + 1) j v :=
  ⟨c, hc, zv_R_cg k (j + 1) _ _ (fun i hi => (h i hi).mul (-1) (by grind)) hr⟩
def zv_ech (p : Int) (m : Nat) (f : Nat → Bool) (E : Nat → Nat → Int) : Prop := ∀ j, j < m → f j = true → zv_ld p (E j) j
theorem zv_R_pre (he : zv_ech p m f E) : ∀ k j v, j + k ≤ m → zv_R p m f E k j v → ∀ i, i < j → i < m → zv_dv p (v i)
  | 0, _, _, _, hr, i, _, hi => hr i hi
  | k + 1, j, v, hj, ⟨c, h1, h2⟩, i, h3, h4 => by
    have ih := zv_R_pre he k (j + 1) _ (by omega) h2 i (by omega) h4
    cases hf : f j
    · rw [h1 hf] at ih
      exact ih.mul 1 (by simp)
    · exact ih.add ((he j (by omega) hf).1 i h3) 1 c (by grind)
theorem zv_R_ld (hv : ∀ a : Int, ¬ zv_dv p a → ∃ b, zv_dv p (a * b - 1)) (he : zv_ech p m f E) : ∀ k j v t, j + k ≤ m → zv_R p m f E k j v → j ≤ t → t < j + k → zv_ld p v t → f t = true
  | 0, j, _, t, _, _, h1, h2, _ => absurd h2 (by omega)
  | k + 1, j, v, t, hj, ⟨c, h1, h2⟩, h3, h4, ⟨h5, h6⟩ => by
    have hp := zv_R_pre he k (j + 1) _ (by omega) h2 j (by omega) (by omega)
    by_cases g : j = t
    · subst g
      cases hf : f j
      · rw [h1 hf] at hp
        exact absurd (hp.mul 1 (by simp)) h6
      · rfl
    · have hvj := h5 j (by omega)
      have hcE : zv_dv p (c * E j j) := hvj.add hp 1 (-1) (by grind)
      have hc : zv_dv p c := by
        cases hf : f j
        · rw [h1 hf]; exact zv_dv.z
        · obtain ⟨b, hb⟩ := hv _ (he j (by omega) hf).2
          exact hcE.add hb b (-c) (by grind)
      refine zv_R_ld hv he k (j + 1) _ t (by omega) h2 (by omega) (by omega) ⟨fun i hi => (h5 i hi).add hc 1 (-(E j i)) (by grind), fun q => h6 (q.add hc 1 (E j t) (by grind))⟩
/-- the columns of rows in steps are those that lead -/
theorem zv_main (hv : ∀ a : Int, ¬ zv_dv p a → ∃ b, zv_dv p (a * b - 1)) (he : zv_ech p m f E) {G : (Nat → Int) → Prop} (h1 : ∀ g, G g → zv_R p m f E m 0 g) (h2 : ∀ j, j < m → f j = true → ∀ W, zv_cls p m W → (∀ g, G g → W g) → W (E j)) {j : Nat} (hj : j < m) : f j = true ↔ zv_Ld p m G j := by
  constructor
  · intro h
    exact ⟨E j, h2 j hj h, he j hj h⟩
  · rintro ⟨v, hv1, hv2⟩
    exact zv_R_ld hv he m 0 v j (by omega) (hv1 _ (zv_R_cls m 0) h1) (Nat.zero_le _) (by omega) hv2
end
/-! the four primes -/
def zv_pr (p : Nat) : Prop := p = 2 ∨ p = 3 ∨ p = 5 ∨ p = 7
theorem zv_dv_iff {p : Nat} (hp : 0 < p) (a : Int) : zv_dv (p : Int) a ↔ a % (p : Int) = 0 := by
  constructor
  · rintro ⟨k, rfl⟩
    exact Int.mul_emod_right _ _
  · intro h
    exact ⟨a / p, by have := Int.mul_ediv_add_emod a p; omega⟩
theorem zv_dv_nat {p : Nat} (a : Nat) (ha : a < p) : zv_dv (p : Int) (a : Int) ↔ a = 0 := by
  rw [zv_dv_iff (by omega), Int.emod_eq_of_lt (by omega) (by omega)]
  omega
theorem zv_inv7 (p : Nat) (h8 : p < 8) (hp : p = 2 ∨ p = 3 ∨ p = 5 ∨ p = 7) (a : Nat) (ha : a < p) (h0 : 0 < a) : ∃ b, b < 7 ∧ 0 < b ∧ b < p ∧ (a * b) % p = 1 := by
  refine ⟨a ^ (p - 2) % p, ?_⟩
  rcases hp with rfl | rfl | rfl | rfl
  · exact (by decide : ∀ a, a < 2 → 0 < a → a ^ 0 % 2 < 7 ∧ 0 < a ^ 0 % 2 ∧ a ^ 0 % 2 < 2 ∧ (a * (a ^ 0 % 2)) % 2 = 1) a ha h0
  · exact (by decide : ∀ a, a < 3 → 0 < a → a ^ 1 % 3 < 7 ∧ 0 < a ^ 1 % 3 ∧ a ^ 1 % 3 < 3 ∧ (a * (a ^ 1 % 3)) % 3 = 1) a ha h0
  · exact (by decide : ∀ a, a < 5 → 0 < a → a ^ 3 % 5 < 7 ∧ 0 < a ^ 3 % 5 ∧ a ^ 3 % 5 < 5 ∧ (a * (a ^ 3 % 5)) % 5 = 1) a ha h0
  · exact (by decide : ∀ a, a < 7 → 0 < a → a ^ 5 % 7 < 7 ∧ 0 < a ^ 5 % 7 ∧ a ^ 5 % 7 < 7 ∧ (a * (a ^ 5 % 7)) % 7 = 1) a ha h0
theorem zv_pr_inv {p : Nat} (hp : zv_pr p) (a : Int) (h : ¬ zv_dv (p : Int) a) : ∃ b, zv_dv (p : Int) (a * b - 1) := by
  have hp0 : 0 < p := by rcases hp with rfl | rfl | rfl | rfl <;> decide
  have hp8 : p < 8 := by rcases hp with rfl | rfl | rfl | rfl <;> decide
  rw [zv_dv_iff hp0] at h
  obtain ⟨r, hr⟩ : ∃ r : Nat, a % (p : Int) = r := ⟨(a % (p : Int)).toNat, by have := Int.emod_nonneg a (show (p : Int) ≠ 0 by omega); omega⟩
  have hlt := Int.emod_lt_of_pos a (show (0 : Int) < p by omega)
  obtain ⟨b, -, -, -, hb⟩ := zv_inv7 p hp8 hp r (by omega) (by omega)
  have e1 := Int.mul_ediv_add_emod a p
  have e2 := Nat.div_add_mod (r * b) p
  rw [hb] at e2
  obtain ⟨q, hq⟩ : ∃ q, q = r * b / p := ⟨_, rfl⟩
  rw [← hq] at e2
  have e2' : (p : Int) * (q : Int) + 1 = (r : Int) * (b : Int) := by first | exact_mod_cast e2 | omega
  obtain ⟨d, hd⟩ : ∃ d, d = a / (p : Int) := ⟨_, rfl⟩
  rw [hr, ← hd] at e1
  refine ⟨(b : Int), d * (b : Int) + (q : Int), ?_⟩
  have e3 : a * (b : Int) = ((p : Int) * d + (r : Int)) * (b : Int) := by rw [e1]
  have e4 : ((p : Int) * d + (r : Int)) * (b : Int) = (p : Int) * (d * (b : Int)) + (r : Int) * (b : Int) := by grind
  rw [e3, e4, ← e2']
  grind
