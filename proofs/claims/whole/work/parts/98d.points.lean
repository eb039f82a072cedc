section
variable {u w v u0 w0 : z_M} {D : z_P} {T : Nat → Nat} {N p s : Nat}
def z_Pn (n : Nat) : z_P := (n, 2 ^ n - 1, 0, fun _ => 0, fun _ => 0)
theorem z_sh1 : ∀ n, n < 10 → ((1 : Int32) <<< (nI n &&& 31)) - 1 = nI (2 ^ n - 1) := by decide +kernel
theorem z_p29 : ∀ n, n < 10 → 2 ^ n - 1 < 512 := by decide
theorem z_un_n (n x : Nat) : z_un (z_Pn n) x = 0 := by
  apply Nat.eq_of_testBit_eq
  intro k
  unfold z_un
  rw [z_mk_bit, Nat.zero_testBit]
  show (decide (k < 9) && (0 : Nat).testBit x) = false
  rw [Nat.zero_testBit, Bool.and_false]
theorem z_wf_Pn {n : Nat} (hn : n ≤ 9) : z_wf (z_Pn n) := by
  refine ⟨hn, z_p29 n (by omega), fun x _ h => ?_, fun h => ?_, Nat.zero_le _, fun x _ => ?_, fun x y _ _ h => ?_, fun x _ => ?_, fun x y t _ _ _ h => ?_⟩
  · have h' : (2 ^ n - 1).testBit x = true := h
    rw [Nat.testBit_two_pow_sub_one, decide_eq_true_eq] at h'
    exact h'
  · show 2 ^ n - 1 ≠ 0
    have h' : 0 < n := h
    have := Nat.pow_le_pow_right (n := 2) (by decide) h'
    omega
  · show (0 : Nat) < 512
    decide
  · have h' : (0 : Nat).testBit y = true := h
    rw [Nat.zero_testBit] at h'; cases h'
  · exact Nat.zero_testBit x
  · have h' : (0 : Nat).testBit y = true := h
    rw [Nat.zero_testBit] at h'; cases h'
theorem z_ful_Pn (n : Nat) : z_ful (z_Pn n) := fun x hx => by
  show (2 ^ n - 1).testBit x = true
  rw [Nat.testBit_two_pow_sub_one, decide_eq_true_eq]
  exact hx
theorem s6_begin {i n : Nat} (hn : n ≤ 9) (u : z_M) : z_ok (f_X6_begin i (nI n) u) (fun u' => (∀ k, (k < i ∨ i + 3 < k) → u'.1 k = u.1 k) ∧ z_rc u' i (z_Pn n)) := by
  unfold f_X6_begin
  rw [z_ok_lt, z_ok_lt, z_ok_lt, z_ok_lt, z_ok_lt, z_ok_lt, z_ok_some, z_sh1 n (by omega)]
  refine ⟨fun k hk => ?_, ?_, ?_, ?_, fun x hx => ?_, fun x hx => ?_, fun k hk => ?_⟩
  · rw [z_fill_ne (by omega), z_fill_ne (by omega), z_fill_ne (by omega), z_sI_ne (by omega), z_sI_ne (by omega), z_sI_ne (by omega)]
  · rw [z_fill_ne (by omega), z_fill_ne (by omega), z_fill_ne (by omega), z_sI_1, if_neg (by omega), z_sI_1, if_neg (by omega), z_sI_1, if_pos ⟨rfl, rfl⟩]; rfl
  · rw [z_fill_ne (by omega), z_fill_ne (by omega), z_fill_ne (by omega), z_sI_1, if_neg (by omega), z_sI_1, if_pos ⟨rfl, rfl⟩]; rfl
  · rw [z_fill_ne (by omega), z_fill_ne (by omega), z_fill_ne (by omega), z_sI_1, if_pos ⟨rfl, rfl⟩]; rfl
  · rw [z_fill_ne (by omega), z_fill_ne (by omega), z_fill_1, if_pos ⟨rfl, hx⟩]; rfl
  · rw [z_fill_ne (by omega), z_fill_1, if_pos ⟨rfl, hx⟩, z_un_n]; rfl
  · rw [z_fill_1, if_pos ⟨rfl, hk⟩]; rfl
theorem z_points (h : z_pst u0 w0 T N u w D p) (h5 : u.1 81 5 = w.1 0 13) (hz : ∀ k, k < 93 → w.1 2 k = 0) (hu : z_cw u T N p) : z_res u0 w0 T N p (f_X7_readPoints u) (z_b2 (f_X10_number 1 9 w) (fun r31 u32 => z_gd (z_inb 0 93) (z_lt (z_sI u32 2 (0 : Int32).toNatClampNeg r31) (fun u34 => z_gd (z_inb 0 93) (z_gd (z_inb 1 93) (z_lt (z_sI u34 2 (1 : Int32).toNatClampNeg ((1 <<< ((z_gI u34 2 (0 : Int32).toNatClampNeg) &&& 31)) - 1)) (fun u37 => some u37))))))) := by
  obtain ⟨u1, a1, a2, a3, a4⟩ := z_tokS h hu
  unfold f_X7_readPoints
  rw [a1, Option.bind_some]
  rcases z_numS a4 a3 1 9 with ⟨n, e, n99, he, n0, n3, b1, b2, b3, b4, b5⟩ | ⟨u', w', b1, b2, b3⟩
  · have hn9 : n ≤ 9 := by
      rw [show (nI n ≤ 9) = (nI n ≤ nI 9) from rfl, z_leI (by omega) (by decide)] at n3
      exact n3
    obtain ⟨w2, hw2⟩ : ∃ w2, w2 = z_sI w 0 9 (nI e) := ⟨_, rfl⟩
    rw [← hw2] at b2 b5
    obtain ⟨v1, c0, c1, c2⟩ := s6_begin (i := 4) hn9 u1
    obtain ⟨w3, hw3⟩ : ∃ w3, w3 = z_sI (z_sI w2 2 0 (nI n)) 2 1 (nI (2 ^ n - 1)) := ⟨_, rfl⟩
    rw [b1, z_b2e, if_neg (show ¬ (1 : Int32) = 0 by decide), b2, z_b2e, z_gdt (show z_inb 0 93 = true from rfl), z_lt, z_gdt (show z_inb 0 93 = true from rfl), z_gdt (show z_inb 1 93 = true from rfl), z_lt, show (0 : Int32).toNatClampNeg = 0 from rfl, show (1 : Int32).toNatClampNeg = 1 from rfl, show z_gI (z_sI w2 2 0 (nI n)) 2 0 = nI n by rw [z_gI, z_sI_1, if_pos ⟨rfl, rfl⟩], z_sh1 n (by omega), show z_gI u1 81 10 = nI n from b3, c0, Option.bind_some, ← hw3]
    have hk : ∀ k, k < 93 → k ≠ 0 → k ≠ 1 → w3.1 2 k = 0 := fun k k1 k2 k3 => by
      rw [hw3, z_sI_1, if_neg (by omega), z_sI_1, if_neg (by omega), hw2, z_sI_ne (by decide)]
      exact hz k k1
    have hp : z_pst u0 w0 T N v1 w3 (z_Pn n) e := b5.dr (fun i hi => c1 i (by omega)) (fun i hi => by rw [hw3, z_sI_ne hi, z_sI_ne hi]) (z_wf_Pn hn9) c2 (by
      have hrv : ∀ x, x < 9 → z_rv (w3.1 2) x = 0 := fun x hx => by unfold z_rv; rw [hk _ (by omega) (by omega) (by omega)]; rfl
      refine ⟨?_, ?_, ?_, fun x hx => ?_, fun k hk2 => ?_⟩
      · rw [hw3, z_sI_1, if_neg (by decide), z_sI_1, if_pos ⟨rfl, rfl⟩]; rfl
      · rw [hw3, z_sI_1, if_pos ⟨rfl, rfl⟩]; rfl
      · rw [hk 2 (by decide) (by decide) (by decide)]; rfl
      · rw [hk _ (by omega) (by omega) (by omega), hrv x hx]
        exact ⟨rfl, by decide, fun _ => Nat.zero_and _⟩
      · rw [hk _ (by omega) (by omega) (by omega)]; rfl)
    have hcw : z_cw v1 T N e := b4.dr (c1 81 (by omega)) (c1 82 (by omega))
    obtain ⟨u2, d1, d2, d3, d4⟩ := z_tokS hp hcw
    rw [d1, Option.bind_some]
    refine Or.inl ⟨u2, w3, z_Pn n, e, he.1, rfl, rfl, d4, ?_, d3, z_ful_Pn n⟩
    rw [d2.2 5 (by omega), c1 81 (by omega), a2.2 5 (by omega), h5, hw3, z_sI_ne (by decide), z_sI_ne (by decide), hw2, z_sI_1, if_neg (by decide)]
  · rw [b1, z_b2e, if_pos rfl, b2, z_b2e, z_gdt (show z_inb 0 93 = true from rfl), z_lt, z_gdt (show z_inb 0 93 = true from rfl), z_gdt (show z_inb 1 93 = true from rfl), z_lt]
    exact Or.inr ⟨u', _, rfl, rfl, b3.pl (fun i hi => by rw [z_sI_ne hi, z_sI_ne hi])⟩
end
