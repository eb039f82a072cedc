section
set_option maxRecDepth 20000 in
theorem gl_L_of2 : GoodIn lw_tbl (Cond.codeWith yL_of cL_of 5 (some .int) [(0, 10, 13, 13)] :: ((wsL_of_r1 ++ wsL_of_r2) ++ wsX90 ++ wsX60)) := goodIn_r _ [1096, 1097, 1098, 1099, 1100, 100, 1101, 1102, 122, 352, 155, 161, 148, 551, 520, 521, 102, 522, 147, 524, 525, 702, 703, 704, 705, 153, 157, 519, 706, 707, 708, 1163, 1043, 1044, 1045, 360, 362, 364, 366, 368, 370, 372, 374, 376, 163, 165, 167, 169, 171, 173] rfl (by decide +kernel)
set_option maxRecDepth 20000 in
theorem gl_L_of1 : GoodIn lw_tbl (va_wsS RL 67 yL_of []) := goodIn_r _ [1094, 1095, 99] rfl (by decide +kernel)
theorem gl_L_of3 : GoodIn lw_tbl wsL_of := goodIn_ca gl_L_of2 (goodIn_sub wsL_law_x0 (by decide +kernel))
theorem gl_L_of : GoodIn lw_tbl (va_wsS RL 67 yL_of wsL_of) := goodIn_app gl_L_of1 gl_L_of3
set_option maxRecDepth 20000 in
theorem z_BW_in : ∀ w ∈ z_BW, w ∈ lw_tbl := z_inp [1105, 1107, 1109, 1104] rfl
theorem hl_L_of : yL_of.cls ≠ "java/lang/invoke/MethodHandle" ∧ yL_of.cls ≠ "java/lang/invoke/VarHandle" ∧ (parseMethodDescriptor yL_of.desc).map (fun d => d.parameters.length) = some 4 := by decide +kernel
theorem hl_X10_of : yX10_of.cls = RX10 ∧ yX10_of.cls ≠ "java/lang/invoke/MethodHandle" ∧ yX10_of.cls ≠ "java/lang/invoke/VarHandle" ∧ (parseMethodDescriptor yX10_of.desc).map (fun d => d.parameters.length) = some 2 := by decide +kernel
theorem hl_X10_thrown : yX10_thrown.cls = RX10 ∧ yX10_thrown.cls ≠ "java/lang/invoke/MethodHandle" ∧ yX10_thrown.cls ≠ "java/lang/invoke/VarHandle" ∧ (parseMethodDescriptor yX10_thrown.desc).map (fun d => d.parameters.length) = some 0 := by decide +kernel
/-- what class and reference share at this call -/
def z_S_of (Inv : z_M → z_M → Prop) : Prop := ∀ (a1 a2 : Int32) (u w : z_M), Inv u w → ∃ (res : Option Int32) (r : Int32) (w1 : z_M), f_X9_of a1 a2 u = some res ∧ f_X10_of a1 a2 w = some (r, w1) ∧ f_X10_thrown w1 = some (z_ofk res) ∧ (∀ r0, res = some r0 → r0 = r) ∧ Inv u w1
theorem z_xPblind {g : z_G} {qo : Nat} {a1 a2 : Int32} {u : z_M} {o : Nat → Int64} : FrameBlind (z_xP g qo a1 a2 u o) :=
  fun a U g1 mk q => ⟨q.1, ⟨va_K.moved (u := U) (U := U.calling g1 mk a) (Vm.Alike.refl U.vm) q.2.1.1, z_E_same (s := U) rfl rfl q.2.1.2.1, q.2.1.2.2⟩, z_T_same (s := U) rfl rfl q.2.2.1, q.2.2.2⟩
section ZLO
variable {p : Program} {l : Launch} {e : Env} {R : Room} {s : State} {m : MethodId} {args : Array Value} {below : List Frame} {meth : Method} {c : Code} {Q : State → Prop} {gC gR : z_G} {qo b L : Nat} {xs : Nat → Int32}
variable {pc cells slots : Nat} {lv : List (Nat × Value)} {u w : z_M} {o : Nat → Int64}
theorem z_lcallO (X : z_LX p l R s m args meth c cL_law RL lw_tbl gC gR qo b L xs) (a1 a2 : Int32) {res : Option Int32} (h : f_X9_of a1 a2 u = some res) (hcc : cells + 1 ≤ 601024) (hss : slots + 6 ≤ 7293034) (k : z_L p l e R s m args below meth c gC gR qo Q (cells + 1) (slots + 6) (529 + 3) lv [.int (z_ofk res)] u w (z_ofo res o)) : z_L p l e R s m args below meth c gC gR qo Q cells slots 529 lv [.ref qo, .int a2, .int a1, .ref (z_ad gC 80)] u w o := by
  intro H locs ls h1 h2 h3
  have hR := X.2.2.2.2.2.2.1
  have hT : z_T (z_AL s) s s.heap := ⟨fun w hw => va_Nw.of (z_BW_tab w hw) (X.1.2.2.2.2 w (z_BW_in w hw)), X.2.2.2.2.2.2.2.1.1, X.2.2.2.2.2.2.2.1.2⟩
  have hA := X.2.2.2.2.1.2.2.1
  have hD := X.2.2.2.2.1
  have hr := vx_runSW (R := R) (H := H) (locs := locs) (cells := cells) (slots := slots) (e := e) (below := below) (meth := meth) (As := [.ref (z_ad gC 80), .int a1, .int a2, .ref qo]) (rest := []) (g := F0 m 529 ls [.ref qo, .int a2, .int a1, .ref (z_ad gC 80)]) X.1 (w_L_of l X.2.2.2.2.2.2.2.2 gC qo a1 a2 u o h X.2.2.2.2.1.2.2.2.2.2.2.1) (vx_cwSW 4 X.1.2.2.2.2 gl_L_of rfl rfl rfl hl_L_of ⟨by rw [hR]; show 12 + 1 ≤ 2048; omega, by rw [hR]; show 8 + (5 + 11) + 40 * 12 ≤ 84000; omega⟩) ⟨z_xPblind, fun U hU hW => ⟨rfl, z_lH X.2.1 X.2.2.1 h3 rfl hA h2.1 (hD.1 u) hU hW, by rw [hU]; exact (hT.go h3 hW).narrow hA, by rw [hU]; exact h2.2.2⟩⟩ rfl rfl h1.1 rfl (lv_room (Nat.le_of_ble_eq_true rfl)) dL_law_529 (by rw [hR]; exact ⟨hcc, hss⟩)
  refine va_calli (A0 := z_AL s) (H0 := s.heap) hr h3 (fun q _ z => z.elim (fun z => hA q z) (fun z => by rw [z]; exact hD.2.2.2.2.1)) (fun q z => z.elim (fun z => hA q z) (fun z => by rw [z]; exact hD.2.2.2.2.1)) ?_
  intro r v t H1 locs1 ht _ hp hB hz hk hS
  obtain ⟨rfl, rfl⟩ := hp
  obtain ⟨hB1, hB2⟩ := hB
  rw [ht] at hB1 hB2
  have k1 : va_P gC.1 vwCl (z_wd gR z_shR w) H1 := h2.2.1.kept (fun k0 x hx => hk x.1 ((h2.2.1 k0 x hx).lt) (fun z => z.elim (fun z => hD.2.2.2.2.2.1 _ z ((hD.2.1 w).2 k0 x hx)) (fun z => hD.2.2.2.2.2.2.2 (by rw [← z]; exact (hD.2.1 w).2 k0 x hx))))
  exact k H1 locs1 ls h1 ⟨hB1, k1, hB2⟩ hS
end ZLO
set_option maxRecDepth 20000 in
set_option maxHeartbeats 4000000 in
theorem law_of {p : Program} {l : Launch} {e : Env} {R : Room} {s : State} {m : MethodId} {args : Array Value} {below : List Frame} {meth : Method} {c : Code} {Q : State → Prop} {gC gR : z_G} {qo b L : Nat} {xs : Nat → Int32} {n k : Nat} {u w : z_M} {o : Nat → Int64} (X : z_LX p l R s m args meth c cL_law RL lw_tbl gC gR qo b L xs) (hL : L ≤ 2560) (hn : n + 5 ≤ L) (hk : k ≤ 512) {Inv : z_M → z_M → Prop} (hI : Inv u w) (hS : z_S_of Inv) (hc : ∀ u w o, Inv u w → z_L p l e R s m args below meth c gC gR qo Q (200 + (k + 1)) (20000 + 6 * (k + 1)) 1808 [(0, .ref b), (1, .ref (z_ad gC 80)), (2, .ref (z_ad gR 0)), (3, .ref qo), (4, .int (nI n))] [] u w o) : z_L p l e R s m args below meth c gC gR qo Q (200 + k) (20000 + 6 * k) 515 [(0, .ref b), (1, .ref (z_ad gC 80)), (2, .ref (z_ad gR 0)), (3, .ref qo), (4, .int (nI n))] [] u w o := by
  obtain ⟨res, r, w1, e1, e2, e3, e4, hI1⟩ := hS (xs (n + 1)) (xs (n + 2)) u w hI
  refine z_laload_n X 1 dL_law_515 rfl rfl (z_lget X 0 4 n 1 (v := 1) (by omega) hL rfl rfl (by decide) (by decide) dL_law_516 dL_law_517 dL_law_519 dL_law_520 dL_law_521 (z_lget X 0 4 n 2 (v := 2) (by omega) hL rfl rfl (by decide) (by decide) dL_law_522 dL_law_523 dL_law_525 dL_law_526 dL_law_527 (z_laload_n X 3 dL_law_528 rfl rfl (z_lcallO X (xs (n + 1)) (xs (n + 2)) e1 (by omega) (by omega) ?_))))
  refine z_lcs (c' := 200 + (k + 1)) (s' := 20000 + 6 * (k + 1)) (by omega) (by omega) ?_
  refine z_listore X [(5, .int (z_ofk res)), (0, .ref b), (1, .ref (z_ad gC 80)), (2, .ref (z_ad gR 0)), (3, .ref qo), (4, .int (nI n))] dL_law_532 (by decide) rfl ?_
  refine z_laload_n X 3 dL_law_534 rfl rfl (z_lget X 1 5 n 1 (v := 1) (by omega) hL rfl rfl (by decide) (by decide) dL_law_535 dL_law_536 dL_law_538 dL_law_539 dL_law_540 (z_lget X 1 5 n 2 (v := 2) (by omega) hL rfl rfl (by decide) (by decide) dL_law_541 dL_law_542 dL_law_544 dL_law_545 dL_law_546 (z_lcallRi X (r := r) (u1 := w1) [.int (xs (n + 1)), .int (xs (n + 2))] [] (w_X10_of l gR (xs (n + 1)) (xs (n + 2)) w e2) gl_X10_of hl_X10_of rfl (by omega) (by omega) (by decide) (by decide) (Nat.le_of_ble_eq_true rfl) dL_law_547 ?_)))
  refine z_listore X [(6, .int r), (5, .int (z_ofk res)), (0, .ref b), (1, .ref (z_ad gC 80)), (2, .ref (z_ad gR 0)), (3, .ref qo), (4, .int (nI n))] dL_law_550 (by decide) rfl ?_
  refine z_laload_n X 4 dL_law_552 rfl rfl (z_lcallRi X (r := z_ofk res) (u1 := w1) [] [] (w_X10_thrown l gR w1 e3) gl_X10_thrown hl_X10_thrown rfl (by omega) (by omega) (by decide) (by decide) (Nat.le_of_ble_eq_true rfl) dL_law_553 ?_)
  refine z_liload X 1 dL_law_556 rfl (z_lsame X 563 dL_law_558 (by decide) ?_)
  have hend : ∀ o, z_L p l e R s m args below meth c gC gR qo Q (200 + (k + 1)) (20000 + 6 * (k + 1)) 580 [(6, .int r), (5, .int (z_ofk res)), (0, .ref b), (1, .ref (z_ad gC 80)), (2, .ref (z_ad gR 0)), (3, .ref qo), (4, .int (nI n))] [] u w1 o := fun o => z_lgoto X 1808 dL_law_580 (by decide) (z_lpick [2, 3, 4, 5, 6] [(0, .ref b), (1, .ref (z_ad gC 80)), (2, .ref (z_ad gR 0)), (3, .ref qo), (4, .int (nI n))] rfl (hc u w1 o hI1))
  refine z_liload X 1 dL_law_563 rfl (z_lif_ne X 580 dL_law_565 (by decide) (fun _ => hend _) (fun h0 => ?_))
  cases res with
  | none => cases h0
  | some r0 =>
    cases e4 r0 rfl
    refine z_laload_n X 5 dL_law_568 rfl rfl (z_liconst X (v := 0) dL_law_569 (by decide) (z_llald X dL_law_570 (z_liload X 0 dL_law_571 rfl (z_li2l X dL_law_573 ?_))))
    rw [show z_ofo (some r) o 0 = r.toInt64 by simp [z_ofo, vp_updL]]
    exact z_lsameL X 580 dL_law_574 dL_law_575 (by decide) (hend _)
end
