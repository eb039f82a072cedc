section
/-! What holds between the two, ahead of every call. -/
def z_pm (u : z_M) : Prop := (∀ k, k < 12 → ∃ c, c < 12 ∧ u.1 87 k = nI (89 + 3 * c)) ∧ ∀ j k, j < 12 → k < 12 → u.1 87 j = u.1 87 k → j = k
def z_eC (u u' : z_M) : Prop := (∀ i, i < 86 → u'.1 i = u.1 i) ∧ z_pm u'
def z_eR (w w' : z_M) : Prop := (∀ i, 1 ≤ i → i < 7 → i ≠ 2 → w'.1 i = w.1 i) ∧ w'.1 0 4 = w.1 0 4 ∧ w'.1 0 8 = w.1 0 8 ∧ w'.1 0 10 = w.1 0 10 ∧ w'.1 0 11 = w.1 0 11
/-- the orders that were: n of them, the newest just ahead of place x of the ring -/
def z_hs (u w : z_M) (n x : Nat) (h : Nat → z_P) : Prop := n ≤ 16 ∧ x < 16 ∧ u.1 83 1 = nI x ∧ u.1 83 2 = nI n ∧ w.1 0 4 = nI n ∧ ∀ j, j < n → z_wf (h j) ∧ True ∧ z_rc u (16 + 4 * ((x + 16 - n + j) % 16)) (h j) ∧ z_rr (fun k => w.1 3 (93 * j + k)) (h j)
def z_ke (u w : z_M) (K : Nat → z_P) : Prop := ∀ k, k < 2 → z_wf (K k) ∧ z_rc u (8 + 4 * k) (K k) ∧ w.1 5 k = z_bi (decide (0 < z_td (K k))) ∧ (0 < z_td (K k) → z_rr (fun i => w.1 4 (93 * k + i)) (K k))
def z_by (c : Nat) : Int32 := (nI c).toInt8.toInt32
def z_tp (u w : z_M) (t : Nat) (T : Nat → Nat) : Prop := t ≤ 400 ∧ u.1 81 1 = nI t ∧ w.1 0 8 = nI t ∧ ∀ i, i < t → T i < 256 ∧ u.1 82 i = nI (T i) ∧ w.1 6 i = z_by (T i)
def z_Inv (u w : z_M) : Prop := (∃ P, z_wf P ∧ z_rc u 0 P ∧ z_rr (w.1 1) P) ∧ (∃ n x h, z_hs u w n x h) ∧ (∃ K, z_ke u w K) ∧ (∃ t T, z_tp u w t T) ∧ u.1 81 3 = w.1 0 10 ∧ u.1 81 4 = w.1 0 11 ∧ z_pm u
theorem z_rc_cg {u u' : z_M} {i : Nat} {P : z_P} (h : ∀ j, j < 4 → u'.1 (i + j) = u.1 (i + j)) (hr : z_rc u i P) : z_rc u' i P := by
  unfold z_rc at *
  have h0 : u'.1 i = u.1 i := h 0 (by decide)
  rw [h0, h 1 (by decide), h 2 (by decide), h 3 (by decide)]
  exact hr
theorem z_rr_cg {f g : Nat → Int32} {P : z_P} (h : ∀ k, k < 93 → g k = f k) (hr : z_rr f P) : z_rr g P := by
  refine ⟨by rw [h 0 (by decide)]; exact hr.1, by rw [h 1 (by decide)]; exact hr.2.1, by rw [h 2 (by decide)]; exact hr.2.2.1, fun x hx => ?_, fun k hk => by rw [h _ (by omega)]; exact hr.2.2.2.2 k hk⟩
  have e : z_rv g x = z_rv f x := by unfold z_rv; rw [h _ (by omega)]
  rw [e, h _ (by omega)]
  exact hr.2.2.2.1 x hx
theorem z_Inv.keep {u w u' w' : z_M} (hI : z_Inv u w) (hC : z_eC u u') (hR : z_eR w w') : z_Inv u' w' := by
  obtain ⟨⟨P, p1, p2, p3⟩, ⟨n, x, h, h1, h2, h3, h4, h5, h6⟩, ⟨K, hK⟩, ⟨t, T, t1, t2, t3, t4⟩, f1, f2, pm⟩ := hI
  obtain ⟨c1, c2⟩ := hC
  obtain ⟨r1, r2, r3, r4, r5⟩ := hR
  have e1 : w'.1 1 = w.1 1 := r1 1 (by decide) (by decide) (by decide)
  have e3 : w'.1 3 = w.1 3 := r1 3 (by decide) (by decide) (by decide)
  have e4 : w'.1 4 = w.1 4 := r1 4 (by decide) (by decide) (by decide)
  have e5 : w'.1 5 = w.1 5 := r1 5 (by decide) (by decide) (by decide)
  have e6 : w'.1 6 = w.1 6 := r1 6 (by decide) (by decide) (by decide)
  refine ⟨⟨P, p1, z_rc_cg (fun j hj => c1 _ (by omega)) p2, by rw [e1]; exact p3⟩, ⟨n, x, h, h1, h2, by rw [c1 83 (by decide)]; exact h3, by rw [c1 83 (by decide)]; exact h4, by rw [r2]; exact h5, fun j hj => ?_⟩, ⟨K, fun k hk => ?_⟩, ⟨t, T, t1, by rw [c1 81 (by decide)]; exact t2, by rw [r3]; exact t3, fun i hi => ?_⟩, by rw [c1 81 (by decide), r4]; exact f1, by rw [c1 81 (by decide), r5]; exact f2, c2⟩
  · obtain ⟨a1, a2, a3, a4⟩ := h6 j hj
    refine ⟨a1, a2, z_rc_cg (fun i hi => c1 _ ?_) a3, by rw [e3]; exact a4⟩
    have := Nat.mod_lt (x + 16 - n + j) (show 0 < 16 by decide)
    omega
  · obtain ⟨a1, a2, a3, a4⟩ := hK k hk
    exact ⟨a1, z_rc_cg (fun i hi => c1 _ (by omega)) a2, by rw [e5]; exact a3, by rw [e4]; exact a4⟩
  · rw [c1 82 (by decide), e6]
    exact t4 i hi
theorem z_eC.rf {u : z_M} (h : z_pm u) : z_eC u u := ⟨fun _ _ => rfl, h⟩
theorem z_eR.rf {w : z_M} : z_eR w w := ⟨fun _ _ _ _ => rfl, rfl, rfl, rfl, rfl⟩
theorem z_eR.tr {w w1 w2 : z_M} (h1 : z_eR w w1) (h2 : z_eR w1 w2) : z_eR w w2 := ⟨fun i a b c => (h2.1 i a b c).trans (h1.1 i a b c), h2.2.1.trans h1.2.1, h2.2.2.1.trans h1.2.2.1, h2.2.2.2.1.trans h1.2.2.2.1, h2.2.2.2.2.trans h1.2.2.2.2⟩
theorem z_sI_ne {u : z_M} {i j : Nat} {k : Nat} {v : Int32} (h : j ≠ i) : (z_sI u i k v).1 j = u.1 j := z_sA_ne h
theorem z_eR0 (w : z_M) : z_eR w (z_sI w 0 0 0) := ⟨fun i a _ _ => z_sI_ne (by omega), by simp [z_sI_1], by simp [z_sI_1], by simp [z_sI_1], by simp [z_sI_1]⟩
theorem z_rr0 {w : z_M} {P : z_P} (h : z_rr (w.1 1) P) (v : Int32) : z_rr ((z_sI w 0 0 v).1 1) P := by rw [z_sI_ne (by decide)]; exact h
/-- a call that leaves the class's memory as it is -/
theorem z_rd {α : Type} {u w : z_M} {x9 : Option α} {x10 : Option (α × z_M)} (hI : z_Inv u w) (h : ∀ P, z_wf P → z_rc u 0 P → z_rr (w.1 1) P → ∃ r, x9 = some r ∧ z_ok x10 (fun q => q.1 = r ∧ z_eR w q.2)) : ∃ r w1, x9 = some r ∧ x10 = some (r, w1) ∧ z_Inv u w1 := by
  obtain ⟨P, p1, p2, p3⟩ := hI.1
  obtain ⟨r, h1, ⟨r2, w1⟩, h2, h3, h4⟩ := h P p1 p2 p3
  exact ⟨r, w1, h1, by rw [h2, ← h3], hI.keep (z_eC.rf hI.2.2.2.2.2.2) h4⟩
theorem z_rd2 {α : Type} {u w : z_M} {x9 : Option (α × z_M)} {x10 : Option (α × z_M)} (hI : z_Inv u w) (h : ∀ P, z_wf P → z_rc u 0 P → z_rr (w.1 1) P → z_pm u → ∃ r, z_ok x9 (fun q => q.1 = r ∧ z_eC u q.2) ∧ z_ok x10 (fun q => q.1 = r ∧ z_eR w q.2)) : ∃ r u1 w1, x9 = some (r, u1) ∧ x10 = some (r, w1) ∧ z_Inv u1 w1 := by
  obtain ⟨P, p1, p2, p3⟩ := hI.1
  obtain ⟨r, ⟨⟨r1, u1⟩, g2, g3, g4⟩, ⟨r2, w1⟩, h2, h3, h4⟩ := h P p1 p2 p3 hI.2.2.2.2.2.2
  exact ⟨r, u1, w1, by rw [g2, ← g3], by rw [h2, ← h3], hI.keep g4 h4⟩
/-- nothing told yet -/
def z_P0 : z_P := (0, 0, 0, fun _ => 0, fun _ => 0)
theorem z_P0_ab (x : Nat) : z_ab z_P0 x = 0 := rfl
theorem z_P0_th : z_th z_P0 = 0 := rfl
theorem z_P0_un (x : Nat) : z_un z_P0 x = 0 := by
  unfold z_un
  simp [z_mk, z_P0_ab]
theorem z_P0_wf : z_wf z_P0 := by
  refine ⟨by decide, by decide, fun x _ h => ?_, fun h => absurd h (by decide), by decide, fun x _ => by rw [z_P0_ab]; decide, fun x y _ _ h => ?_, fun x _ => by rw [z_P0_ab]; simp, fun x y t _ _ _ h => ?_⟩
  · rw [z_P0_th] at h; simp at h
  · rw [z_P0_ab] at h; simp at h
  · rw [z_P0_ab] at h; simp at h
theorem z_P0_rc {u : z_M} {i : Nat} (h : ∀ j k, j < 4 → u.1 (i + j) k = 0) : z_rc u i z_P0 := by
  refine ⟨h 0 0 (by decide), h 0 1 (by decide), h 0 2 (by decide), fun x _ => h 1 x (by decide), fun x _ => ?_, fun k _ => h 3 k (by decide)⟩
  rw [z_P0_un]
  exact h 2 x (by decide)
theorem z_P0_rr {f : Nat → Int32} (h : ∀ k, k < 93 → f k = 0) : z_rr f z_P0 := by
  refine ⟨h 0 (by decide), h 1 (by decide), h 2 (by decide), fun x hx => ?_, fun k hk => h _ (by omega)⟩
  have e : z_rv f x = 0 := by unfold z_rv; rw [h _ (by omega)]; rfl
  rw [e, h _ (by omega)]
  exact ⟨rfl, by decide, fun h => by rw [z_P0_th] at h; simp at h⟩
theorem z_u0_0 {i k : Nat} (h1 : i ≠ 81) (h2 : i ≠ 87) : z_u0.1 i k = 0 := by simp [z_u0, h1, h2]
theorem z_Inv_0 : z_Inv z_u0 z_w0 := by
  refine ⟨⟨z_P0, z_P0_wf, z_P0_rc (fun j k hj => z_u0_0 (by omega) (by omega)), z_P0_rr (fun k _ => by simp [z_w0])⟩, ⟨0, 0, fun _ => z_P0, by decide, by decide, rfl, rfl, rfl, fun j hj => absurd hj (by omega)⟩, ⟨fun _ => z_P0, fun k hk => ⟨z_P0_wf, z_P0_rc (fun j l hj => z_u0_0 (by omega) (by omega)), rfl, fun h => absurd h (Nat.lt_irrefl 0)⟩⟩, ⟨0, fun _ => 0, by decide, rfl, rfl, fun i hi => absurd hi (by omega)⟩, rfl, rfl, ?_, ?_⟩
  · intro k hk
    exact ⟨k, hk, rfl⟩
  · intro j k hj hk e
    have e : nI (89 + 3 * j) = nI (89 + 3 * k) := e
    have := (nI_eq (by omega) (by omega)).mp e
    omega
end
