section
variable {u w v u0 w0 : z_M} {D : z_P} {T : Nat → Nat} {N p s : Nat}
theorem z_rowE (h12 : w.1 0 12 = 0) (x : Int32) {c : Nat} (hc : 0 < c) (hc2 : c < 2 ^ 31) (F : Nat) : z_lp b_X10_readRow_9 (F + 1 + 1) (x, 1, nI c, w) (fun t22 => some t22) = some w := by
  show b_X10_readRow_9 (x, 1, nI c, w) (fun q' => b_X10_readRow_9 q' (fun q'' => z_lp b_X10_readRow_9 F q'' (fun t22 => some t22)) (fun t22 => some t22)) (fun t22 => some t22) = some w
  unfold b_X10_readRow_9
  dsimp only
  rw [if_neg (show ¬ (1 : Int32) = 0 by decide), s10_takesE h12, z_b2e, if_pos rfl, if_neg (show ¬ nI c = 0 from fun q => by
    have := (z_nI0 hc2).mp q
    omega), if_pos rfl]
theorem z_hasR (h : z_pst u0 w0 T N u w D p) {a m : Nat} (ha : a < 9) (hm : m < 9) (ta : (z_th D).testBit a = true) (tm : (z_th D).testBit m = true) : f_X10_has (z_gI w 2 (nI (3 + m)).toNatClampNeg) (nI a) = some (z_bi ((z_ab D m).testBit a)) ∧ ((z_rv (w.1 2) m).testBit a = (z_ab D m).testBit a) := by
  obtain ⟨g1, g2, g3⟩ := h.2.2.2.2.2.2.1.2.2.2.1 m hm
  have e : (z_rv (w.1 2) m).testBit a = (z_ab D m).testBit a := by
    rw [← g3 tm, Nat.testBit_and, ta, Bool.and_true]
  refine ⟨?_, e⟩
  rw [z_cl (show 3 + m < 2 ^ 31 by omega), z_gI, g1, s_has (by omega) ha, e]
end
