section
variable {u w : z_M} {m p c : Nat}
def zv_c (L : Nat → Nat) : Nat → Int := fun i => (L i : Int)
def zv_cE (E : Nat → Nat → Nat) : Nat → Nat → Int := fun j => zv_c (E j)
theorem zv_c_0 {p : Nat} {L : Nat → Nat} {i : Nat} (h : L i = 0) : zv_dv (p : Int) (zv_c L i) := by
  unfold zv_c
  rw [h]
  exact zv_dv.z
theorem zh_ech (hp : zv_pr p) {f : Nat → Bool} {E : Nat → Nat → Nat} (h : ∀ c, c < m → f c = true → E c c = 1 ∧ ∀ i, i < c → E c i = 0) : zv_ech (p : Int) m f (zv_cE E) := fun j hj hf => by
  obtain ⟨h1, h2⟩ := h j hj hf
  refine ⟨fun i hi => zv_c_0 (h2 i hi), fun q => ?_⟩
  have q' : zv_dv (p : Int) ((E j j : Nat) : Int) := q
  rw [h1, zv_dv_nat 1 (by have := (zh_p8 hp).1; omega)] at q'
  cases q'
/-- a row goes over the rows that stand -/
theorem zh_reduce (hp : zv_pr p) (hm : m ≤ 35) {f : Nat → Bool} {E : Nat → Nat → Nat} {V : Nat → Nat} (hv : zh_pv u m p f E) (hl : zh_ln u m p V) : z_ok (f_X3_reduce (nI m) (nI p) u) (fun q => ∃ f' E', zh_pv q.2 m p f' E' ∧ zv_ext m f f' (zv_cE E) (zv_cE E') ∧ zv_R p m f' (zv_cE E') m 0 (zv_c V) ∧ (∀ W, zv_cls p m W → W (zv_c V) → (∀ j, j < m → f j = true → W (zv_cE E j)) → ∀ j, j < m → f' j = true → W (zv_cE E' j)) ∧ (∀ j, j ≠ 136 → j ≠ 137 → q.2.1 j = u.1 j) ∧ ((q.1 = 0 ∧ fb_ct f' m = fb_ct f m) ∨ (q.1 = 1 ∧ fb_ct f' m = fb_ct f m + 1))) := by
  obtain ⟨hp2, hp8⟩ := zh_p8 hp
  unfold f_X3_reduce
  refine z_ok_lp (fun c q => q.1 = nI c ∧ (∀ j, j ≠ 137 → q.2.1 j = u.1 j) ∧ ∃ L, zh_ln q.2 m p L ∧ (∀ i, i < c → i < m → L i = 0) ∧ (∀ f' E', zv_ext m f f' (zv_cE E) E' → zv_R p m f' E' (m - c) c (zv_c L) → zv_R p m f' E' m 0 (zv_c V)) ∧ (∀ W, zv_cls p m W → W (zv_c V) → (∀ j, j < m → f j = true → W (zv_cE E j)) → W (zv_c L))) m (z_F_lt (by omega)) ⟨rfl, fun _ _ => rfl, V, hl, fun i hi => absurd hi (by omega), fun f' E' _ h => h, fun W _ h _ => h⟩ ?_ ?_
  · rintro c ⟨a, v⟩ hc ⟨e1, e2, L, e3, e4, e5, e6⟩ kb hkb
    dsimp only at e1 e2 e3 e4 e5 e6
    subst e1
    obtain ⟨l1, l2⟩ := e3 c hc
    obtain ⟨v1, v2⟩ := hv c hc
    have hmc : m - c = m - (c + 1) + 1 := by omega
    unfold b_X3_reduce_2
    dsimp only
    rw [if_neg (nI_ge (by omega) (by omega)), z_gdt (z_inb_nI (by omega) (by decide)), z_cl (by omega), z_gI, l1, z_1, zh_ix c (by omega) c (by omega), z_gdt (z_inb_nI (by omega) (by decide)), z_gI, z_cl (by omega), e2 136 (by decide)]
    by_cases g0 : L c = 0
    · rw [if_pos (show nI (L c) = 0 by rw [g0]; exact nI_0)]
      refine hkb _ ⟨rfl, e2, L, e3, fun i hi him => ?_, fun f' E' he hr => e5 f' E' he ?_, e6⟩
      · by_cases g : i = c
        · rw [g]; exact g0
        · exact e4 i (by omega) him
      · rw [hmc]
        exact zv_R_st 0 (fun _ => rfl) (fun i _ => ⟨0, by simp⟩) hr
    · rw [if_neg (show ¬ nI (L c) = 0 from fun q => g0 ((z_nI0 (by omega)).mp q))]
      cases hf : f c
      · rw [if_pos (v1 hf)]
        obtain ⟨v', s0, e, s1, s2, s3, s4⟩ := zh_stand hp hm hc e3 g0
        rw [s0, Option.bind_some, z_ok_some]
        obtain ⟨R, hR⟩ : ∃ R : Nat → Nat, R = fun i => if i < c then 0 else L i * e % p := ⟨_, rfl⟩
        have hRc : R c = 1 := by rw [hR]; dsimp only; rw [if_neg (by omega)]; exact s1
        have hR0 : ∀ i, i < c → R i = 0 := fun i hi => by rw [hR]; dsimp only; rw [if_pos hi]
        have hRi : ∀ i, c ≤ i → R i = L i * e % p := fun i hi => by rw [hR]; dsimp only; rw [if_neg (by omega)]
        have hRd : ∀ i, i < m → zv_dv (p : Int) ((R i : Int) - (e : Int) * (L i : Int)) := fun i hi => by
          by_cases g : i < c
          · rw [hR0 i g, e4 i g hi]
            exact ⟨0, by simp⟩
          · rw [hRi i (by omega)]
            exact (zh_md1 (L i) e p).mul 1 (by grind)
        have hfj : ∀ j, f j = true → j ≠ c := fun j h q => by rw [q, hf] at h; cases h
        have hx : zv_ext m f (fun k => if k = c then true else f k) (zv_cE E) (zv_cE (fun k => if k = c then R else E k)) := fun j hj hfj' => by
          have hne := hfj j hfj'
          refine ⟨by dsimp only; rw [if_neg hne]; exact hfj', ?_⟩
          unfold zv_cE
          dsimp only
          rw [if_neg hne]
        have hEc : zv_cE (fun k => if k = c then R else E k) c = zv_c R := by
          unfold zv_cE
          dsimp only
          rw [if_pos rfl]
        refine ⟨fun k => if k = c then true else f k, fun k => if k = c then R else E k, fun c' hc' => ?_, hx, e5 _ _ hx ?_, fun W hW hV hE j hj hj2 => ?_, fun j j1 j2 => (s2 j j1).trans (e2 j j2), Or.inr ⟨rfl, ?_⟩⟩
        · by_cases g : c' = c
          · subst g
            dsimp only
            rw [if_pos rfl, if_pos rfl]
            refine ⟨fun q => (by cases q), fun _ => ⟨hRc, hR0, fun i i1 i2 => ?_⟩⟩
            rw [s4 i i1 i2, hRi i i1]
            exact ⟨rfl, Nat.mod_lt _ (by omega)⟩
          · dsimp only
            rw [if_neg g, if_neg g]
            obtain ⟨w1, w2⟩ := hv c' hc'
            refine ⟨fun q => ?_, fun q => ?_⟩
            · rw [s3 _ (by omega), e2 136 (by decide)]
              exact w1 q
            · obtain ⟨x1, x2, x3⟩ := w2 q
              refine ⟨x1, x2, fun i i1 i2 => ?_⟩
              rw [s3 _ (by omega), e2 136 (by decide)]
              exact x3 i i1 i2
        · rw [hmc]
          refine zv_R_st (v' := fun _ => 0) (L c : Int) (fun q => ?_) (fun i hi => ?_) (zv_R_0 _ _)
          · try dsimp only at q
            rw [if_pos rfl] at q
            cases q
          · rw [hEc]
            show zv_dv (p : Int) ((L i : Int) - (L c : Int) * (R i : Int) - 0)
            have h1 := hRd i hi
            have h2 : zv_dv (p : Int) (1 - (L c : Int) * (e : Int)) := by
              have h2 := zh_md1 (L c) e p
              rw [s1] at h2
              exact h2
            exact h1.add h2 (-(L c : Int)) (L i : Int) (by grind)
        · by_cases g : j = c
          · subst g
            rw [hEc]
            refine hW.2.2 (fun i => (e : Int) * zv_c L i + 0 * zv_c L i) _ (fun i hi => ?_) (hW.2.1 _ _ _ _ (e6 W hW hV hE) (e6 W hW hV hE))
            exact (hRd i hi).mul (-1) (by dsimp only [zv_c]; grind)
          · dsimp only at hj2
            rw [if_neg g] at hj2
            rw [(hx j hj hj2).2]
            exact hE j hj hj2
        · have := fb_ct_upd f true hc
          rw [hf] at this
          simpa using this
      · obtain ⟨x1, x2, x3⟩ := v2 hf
        rw [if_neg (show ¬ u.1 136 (c * 35 + c) = 0 by rw [(x3 c (Nat.le_refl _) hc).1, x1]; decide), z_gdt (z_inb_nI (by omega) (by decide)), z_lt, z_nsub (show L c ≤ p by omega)]
        refine zh_55 hp hm hc e3 (Ec := E c) (fun i i1 i2 => by rw [e2 136 (by decide)]; exact x3 i i1 i2) (show p - L c ≤ p by omega) (fun u' w1 w2 => ?_)
        have hd : ∀ i, i < m → zv_dv (p : Int) ((L i : Int) - (L c : Int) * (E c i : Int) - (((if c ≤ i then (L i + (p - L c) * E c i) % p else L i : Nat)) : Int)) := fun i hi => by
          by_cases g : c ≤ i
          · rw [if_pos g]
            exact zh_md3 rfl (by omega)
          · rw [if_neg g, x2 i (by omega)]
            exact ⟨0, by simp⟩
        refine hkb _ ⟨rfl, fun j hj => (w1 j hj).trans (e2 j hj), _, w2, fun i hi him => ?_, fun f' E' he hr => e5 f' E' he ?_, fun W hW hV hE => ?_⟩
        · try dsimp only
          by_cases g : i = c
          · subst g
            rw [if_pos (Nat.le_refl _), x1, Nat.mul_one, show L i + (p - L i) = p by omega, Nat.mod_self]
          · rw [if_neg (by omega)]
            exact e4 i (by omega) him
        · rw [hmc]
          obtain ⟨y1, y2⟩ := he c hc hf
          refine zv_R_st (L c : Int) (fun q => ?_) (fun i hi => ?_) hr
          · rw [y1] at q; cases q
          · rw [y2]
            exact hd i hi
        · refine hW.2.2 (fun i => 1 * zv_c L i + (-(L c : Int)) * zv_cE E c i) _ (fun i hi => ?_) (hW.2.1 _ _ _ _ (e6 W hW hV hE) (hE c hc hf))
          exact (hd i hi).mul 1 (by dsimp only [zv_cE, zv_c]; grind)
  · rintro ⟨a, v⟩ ⟨e1, e2, L, e3, e4, e5, e6⟩ kb
    dsimp only at e1 e2 e3 e4 e5 e6
    subst e1
    unfold b_X3_reduce_2
    dsimp only
    rw [if_pos (nI_le (Nat.le_refl _) (by omega)), z_ok_some]
    refine ⟨f, E, fun c hc => ?_, zv_ext.rf, e5 f _ zv_ext.rf ?_, fun W _ _ h => h, fun j j1 j2 => e2 j j2, Or.inl ⟨rfl, rfl⟩⟩
    · rw [e2 136 (by decide)]
      exact hv c hc
    · rw [Nat.sub_self]
      exact fun i hi => zv_c_0 (e4 i hi hi)
end
