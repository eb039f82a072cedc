section
/-- the reference's memory at the start -/
def z_w0 : z_M := (fun i => if i = 0 then (fun k => if k = 11 then -1 else 0) else (fun _ => 0), fun _ _ => 0)
theorem z_oR_w0 (g : z_G) (ad : Nat → Nat) : z_oR g ad = z_wd (z_gw g ad) z_shR z_w0 := rfl
theorem z_wd_ad {g : z_G} {sh : List z_S} {u : z_M} {i : Nat} {q : Nat × va_E} (h : (z_wd g sh u)[i]? = some q) : i < sh.length ∧ q.1 = z_ad g i := by
  have hl : i < sh.length := by
    have := (List.getElem?_eq_some_iff.mp h).1
    rwa [z_wd_len] at this
  have e : sh[i]? = some sh[i] := List.getElem?_eq_getElem hl
  rw [z_wd_get e] at h
  cases h
  exact ⟨hl, rfl⟩
theorem z_wd_at {g : z_G} {sh : List z_S} (u : z_M) {i : Nat} (hl : i < sh.length) : ∃ y, (z_wd g sh u)[i]? = some (z_ad g i, y) :=
  ⟨_, z_wd_get (List.getElem?_eq_getElem hl)⟩
theorem z_D_inj {g : z_G} {sh : List z_S} (hi : ∀ i j, i < sh.length → j < sh.length → z_ad g i = z_ad g j → i = j) (u : z_M) : va_D (z_A g sh) (z_wd g sh u) := by
  refine ⟨fun i j p q h1 h2 h3 => ?_, fun k q h => ?_⟩
  · obtain ⟨l1, e1⟩ := z_wd_ad h1
    obtain ⟨l2, e2⟩ := z_wd_ad h2
    exact hi i j l1 l2 (by rw [← e1, ← e2]; exact h3)
  · obtain ⟨l1, e1⟩ := z_wd_ad h
    exact ⟨k, l1, e1⟩
theorem z_LD_of {gC gR : z_G} {qo : Nat} {s : State} {u w : z_M} {y : va_E} (h : va_D (z_AL s) (z_wd gC z_shC u ++ (z_wd gR z_shR w ++ [(qo, y)]))) : z_LD gC gR qo s := by
  have lC : (z_wd gC z_shC u).length = 141 := z_wd_len
  have lR : (z_wd gR z_shR w).length = 22 := z_wd_len
  have aC : ∀ i, i < 141 → ∃ y1, (z_wd gC z_shC u ++ (z_wd gR z_shR w ++ [(qo, y)]))[i]? = some (z_ad gC i, y1) := by
    intro i hi
    obtain ⟨y1, e1⟩ := z_wd_at (g := gC) (sh := z_shC) u (i := i) hi
    exact ⟨y1, by rw [List.getElem?_append_left (by rw [lC]; exact hi)]; exact e1⟩
  have aR : ∀ i, i < 22 → ∃ y1, (z_wd gC z_shC u ++ (z_wd gR z_shR w ++ [(qo, y)]))[141 + i]? = some (z_ad gR i, y1) := by
    intro i hi
    obtain ⟨y1, e1⟩ := z_wd_at (g := gR) (sh := z_shR) w (i := i) hi
    refine ⟨y1, ?_⟩
    rw [List.getElem?_append_right (by rw [lC]; omega), lC, show 141 + i - 141 = i by omega, List.getElem?_append_left (by rw [lR]; exact hi)]
    exact e1
  have aO : (z_wd gC z_shC u ++ (z_wd gR z_shR w ++ [(qo, y)]))[163]? = some (qo, y) := by
    rw [List.getElem?_append_right (by rw [lC]; omega), lC, List.getElem?_append_right (by rw [lR]; omega), lR]
    rfl
  refine ⟨z_D_inj (fun i j hi hj e => ?_), z_D_inj (fun i j hi hj e => ?_), ?_, ?_, h.2 163 _ aO, ?_, ?_, ?_⟩
  · obtain ⟨y1, e1⟩ := aC i hi
    obtain ⟨y2, e2⟩ := aC j hj
    exact h.1 i j _ _ e1 e2 e
  · obtain ⟨y1, e1⟩ := aR i hi
    obtain ⟨y2, e2⟩ := aR j hj
    have := h.1 _ _ _ _ e1 e2 e
    omega
  · rintro q ⟨i, hi, rfl⟩
    obtain ⟨y1, e1⟩ := aC i hi
    exact h.2 _ _ e1
  · rintro q ⟨i, hi, rfl⟩
    obtain ⟨y1, e1⟩ := aR i hi
    exact h.2 _ _ e1
  · rintro q ⟨i, hi, rfl⟩ ⟨j, hj, e⟩
    obtain ⟨y1, e1⟩ := aC i hi
    obtain ⟨y2, e2⟩ := aR j hj
    have := h.1 _ _ _ _ e1 e2 e
    have : i < 141 := hi
    omega
  · rintro ⟨i, hi, e⟩
    obtain ⟨y1, e1⟩ := aC i hi
    have := h.1 _ _ _ _ aO e1 e
    have : i < 141 := hi
    omega
  · rintro ⟨i, hi, e⟩
    obtain ⟨y1, e1⟩ := aR i hi
    have := h.1 _ _ _ _ aO e1 e
    have : i < 22 := hi
    omega
theorem z_Papp {D : va_G} {cl : List vw_C} {W1 W2 : va_W} {H : Heap} (h : va_P D cl (W1 ++ W2) H) : va_P D cl W1 H ∧ va_P D cl W2 H := by
  refine ⟨fun k q hk => h k q ?_, fun k q hk => h (W1.length + k) q ?_⟩
  · rw [List.getElem?_append_left (List.getElem?_eq_some_iff.mp hk).1]; exact hk
  · rw [List.getElem?_append_right (by omega), show W1.length + k - W1.length = k by omega]; exact hk
set_option maxRecDepth 20000 in
set_option maxHeartbeats 4000000 in
theorem whole_start0 {Inv : z_M → z_M → Prop} (hSA : z_SA Inv) (hI0 : Inv z_u0 z_w0) {p : Program} {e : Env} {s : State} {m : MethodId} {below : List Frame} {meth : Method} {c : Code} (l : Launch) (hflags : l.flags = flags0) {b L : Nat} {xs : Nat → Int32} (hL : L ≤ 2560) (C0 : lw_At p s m meth c b L xs) : W p l e room_1 s m #[Value.ref b] below meth c s.heap [] 0 0 (lw_Z below #[Value.ref b] s) (entryFrame m ([Value.ref b] : List Value).toArray 7) := by
  obtain ⟨g, hK, hE, hKE, hLE⟩ := z_startG C0
  obtain ⟨hx, hb, hr, hml, hown, hts, hXs, hbl, hlocks, hgv⟩ := C0
  have X : z_KX p room_1 s m #[Value.ref b] meth c cL_law 7 RL lw_tbl ret g (z_AL s) := ⟨⟨hx, hb, hml, hown, hts⟩, hK, hKE, hr, hlocks, fun q h => h⟩
  have hst : l.stackTraces = false := by
    unfold Launch.stackTraces
    rw [hflags]
    decide +kernel
  have hl2 := lv_entry ([.ref b] : List Value) (n := 7) (Nat.le_of_ble_eq_true rfl)
  rw [lg_entry_eq]
  refine (?_ : z_K p l e room_1 s m #[Value.ref b] below meth c 7 g (z_AL s) (lw_Z below #[Value.ref b] s) 0 0 0 [(0, .ref b)] [] []) s.heap [] _ hl2 (fun k q h => by simp at h) ⟨fun i j p q h => by simp at h, fun k q h => by simp at h⟩ va_S.rf
  refine z_knewI X (k_X9_init l g) rfl li_X9 tyX9_ok df_X9 lq_cl9 lq_i9 lq_in9 lq_ml9 gl_X9_init rfl lq_in9 lq_im9 rfl hk_X9_init (Nat.le_of_ble_eq_true rfl) (Nat.le_of_ble_eq_true rfl) (Nat.le_of_ble_eq_true rfl) (Nat.le_of_ble_eq_true rfl) (Nat.le_of_ble_eq_true rfl) dL_law_0 dL_law_3 dL_law_4 (fun ad1 => ?_)
  refine z_kastore_n X [(1, .ref (ad1 0)), (0, .ref b)] dL_law_7 rfl (by decide) rfl ?_
  refine z_knewI X (k_X10_init l g) rfl li_X10 tyX10_ok df_X10 lq_cl10 lq_i10 lq_in10 lq_ml10 gl_X10_init rfl lq_in10 lq_im10 rfl hk_X10_init (Nat.le_of_ble_eq_true rfl) (Nat.le_of_ble_eq_true rfl) (Nat.le_of_ble_eq_true rfl) (Nat.le_of_ble_eq_true rfl) (Nat.le_of_ble_eq_true rfl) dL_law_8 dL_law_11 dL_law_12 (fun ad2 => ?_)
  refine z_kastore_n X [(2, .ref (ad2 0)), (1, .ref (ad1 0)), (0, .ref b)] dL_law_15 rfl (by decide) rfl ?_
  refine z_kiconst X (v := 1) dL_law_16 (by decide) (z_knew_long X (N := 1) lq_ac4 (by decide) (by decide) (by decide) (Nat.le_of_ble_eq_true rfl) (Nat.le_of_ble_eq_true rfl) dL_law_17 (fun qo => ?_))
  refine z_kastore_n X [(3, .ref qo), (2, .ref (ad2 0)), (1, .ref (ad1 0)), (0, .ref b)] dL_law_19 rfl (by decide) rfl ?_
  refine z_kiconst X (v := 0) dL_law_20 (by decide) (z_kistore X [(4, .int 0), (3, .ref qo), (2, .ref (ad2 0)), (1, .ref (ad1 0)), (0, .ref b)] dL_law_21 (by decide) rfl ?_)
  refine z_kcs (c' := 200) (s' := 20000) (Nat.le_of_ble_eq_true rfl) (Nat.le_of_ble_eq_true rfl) ?_
  intro H locs ls h1 h2 h3 h4
  have hw : (([] ++ z_oLO g ad1) ++ z_oR g ad2) ++ [(qo, (Sum.inl (z_ct g 4, 1, .inr (.inl (fun _ => 0))) : va_E))] = z_wd (z_gw g (fun i => ad1 ((i + 61) % 141))) z_shC z_u0 ++ (z_wd (z_gw g ad2) z_shR z_w0 ++ [(qo, (Sum.inl (z_ct g 4, 1, .inr (.inl (fun _ => 0))) : va_E))]) := by
    rw [List.nil_append, List.append_assoc, z_oR_w0]
    rfl
  rw [show ((([] ++ z_oLO g ad1) ++ z_oR g ad2) ++ [(qo, (Sum.inl (z_ct g 4, 1, .inr (.inl (fun _ => 0))) : va_E))]) = _ from hw] at h2 h3
  obtain ⟨hP1, hP2⟩ := z_Papp h2
  obtain ⟨hP2, hP3⟩ := z_Papp hP2
  have XL : z_LX p l room_1 s m #[Value.ref b] meth c cL_law RL lw_tbl (z_gw g (fun i => ad1 ((i + 61) % 141))) (z_gw g ad2) qo b L xs := ⟨X.1, hK, hE, ⟨hXs, hbl⟩, z_LD_of h3, rfl, rfl, hLE, hst⟩
  have hloop := law_loop (e := e) (below := below) (Q := lw_Z below #[Value.ref b] s) XL hL hSA (fun cells slots lv u w o hc hs => ?_) 513 0 z_u0 z_w0 (fun _ => 0) rfl (by omega) hI0
  · exact hloop H locs ls (lv_sub h1 [4, 3, 2, 1, 0] rfl) ⟨hP1, hP2, hP3⟩ h4
  · refine z_lcs (c' := 601024) (s' := 7293034) (Nat.le_trans hc (Nat.le_of_ble_eq_true rfl)) (Nat.le_trans hs (Nat.le_of_ble_eq_true rfl)) (z_liconst XL (v := 1) dL_law_1814 (by decide) ?_)
    intro H1 locs1 ls1 g1 g2 g3
    exact va_forget g3.2.2 (lw_ret hx hb hr hlocks dL_law_1815)
end
