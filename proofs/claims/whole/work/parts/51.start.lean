section
theorem z_arr {args : Array Value} {s : State} {ty : FieldType} (h : (Cond.arrayClass ty).before args s = true) (hp : va_RA s = va_RA s) (hq : ∀ cA, s.vm.findClass ("[" ++ ty.toString) = some cA → va_RA s cA ty) : ∃ cA, ArrOfT s cA ty ∧ va_RA s cA ty := by
  obtain ⟨c, k, comp, h1, h2, h3⟩ := Cond.arrayClass_spec h
  exact ⟨c, fun n z => ⟨fun k h => (by cases h), k, h2, comp, h3⟩, hq c h1⟩
theorem z_arrO {args : Array Value} {s : State} {C : String} (h : (Cond.arrayOver (.object C)).before args s = true) : ∃ cA, ArrOfT s cA (.object C) ∧ va_RA s cA (.object C) := by
  obtain ⟨comp, c, k, h1, h2, h3, h4, h5⟩ := Cond.arrayOver_spec h
  exact ⟨c, fun n z => ⟨fun k h => (by cases h), k, h3, comp, h4⟩, k, comp, h3, h4, h1, h5⟩
set_option maxRecDepth 20000 in
theorem lq_i0 : Cond.instantiable RX0 2 ∈ lw_tbl := List.mem_of_getElem? (i := 307) rfl
set_option maxRecDepth 20000 in
theorem lq_i1 : Cond.instantiable RX1 4 ∈ lw_tbl := List.mem_of_getElem? (i := 246) rfl
set_option maxRecDepth 20000 in
theorem lq_i2 : Cond.instantiable RX2 3 ∈ lw_tbl := List.mem_of_getElem? (i := 239) rfl
set_option maxRecDepth 20000 in
theorem lq_i3 : Cond.instantiable RX3 3 ∈ lw_tbl := List.mem_of_getElem? (i := 320) rfl
set_option maxRecDepth 20000 in
theorem lq_i4 : Cond.instantiable RX4 3 ∈ lw_tbl := List.mem_of_getElem? (i := 336) rfl
set_option maxRecDepth 20000 in
theorem lq_i5 : Cond.instantiable RX5 3 ∈ lw_tbl := List.mem_of_getElem? (i := 219) rfl
set_option maxRecDepth 20000 in
theorem lq_i6 : Cond.instantiable RX6 6 ∈ lw_tbl := List.mem_of_getElem? (i := 138) rfl
set_option maxRecDepth 20000 in
theorem lq_i7 : Cond.instantiable RX7 11 ∈ lw_tbl := List.mem_of_getElem? (i := 132) rfl
set_option maxRecDepth 20000 in
theorem lq_i8 : Cond.instantiable RX8 5 ∈ lw_tbl := List.mem_of_getElem? (i := 282) rfl
set_option maxRecDepth 20000 in
theorem lq_i9 : Cond.instantiable RX9 9 ∈ lw_tbl := List.mem_of_getElem? (i := 124) rfl
set_option maxRecDepth 20000 in
theorem lq_i10 : Cond.instantiable RX10 30 ∈ lw_tbl := List.mem_of_getElem? (i := 1165) rfl
set_option maxRecDepth 20000 in
theorem lq_ac0 : Cond.arrayClass .int ∈ lw_tbl := List.mem_of_getElem? (i := 177) rfl
set_option maxRecDepth 20000 in
theorem lq_ac1 : Cond.arrayClass .char ∈ lw_tbl := List.mem_of_getElem? (i := 176) rfl
set_option maxRecDepth 20000 in
theorem lq_ac2 : Cond.arrayClass .byte ∈ lw_tbl := List.mem_of_getElem? (i := 542) rfl
set_option maxRecDepth 20000 in
theorem lq_ac3 : Cond.arrayClass .boolean ∈ lw_tbl := List.mem_of_getElem? (i := 1261) rfl
set_option maxRecDepth 20000 in
theorem lq_ac4 : Cond.arrayClass .long ∈ lw_tbl := List.mem_of_getElem? (i := 1262) rfl
set_option maxRecDepth 20000 in
theorem lq_ao5 : Cond.arrayOver (.object RX6) ∈ lw_tbl := List.mem_of_getElem? (i := 225) rfl
set_option maxRecDepth 20000 in
theorem lq_ao6 : Cond.arrayOver (.object RX1) ∈ lw_tbl := List.mem_of_getElem? (i := 245) rfl
set_option maxRecDepth 20000 in
theorem lq_sr0 : Cond.stringRef RX7 113 "points" ∈ lw_tbl := List.mem_of_getElem? (i := 421) rfl
set_option maxRecDepth 20000 in
theorem lq_sr1 : Cond.stringRef RX7 119 "rule" ∈ lw_tbl := List.mem_of_getElem? (i := 474) rfl
set_option maxRecDepth 20000 in
theorem lq_sr2 : Cond.stringRef RX7 121 "label" ∈ lw_tbl := List.mem_of_getElem? (i := 475) rfl
set_option maxRecDepth 20000 in
theorem lq_sr3 : Cond.stringRef RX10 171 "points" ∈ lw_tbl := List.mem_of_getElem? (i := 1294) rfl
set_option maxRecDepth 20000 in
theorem lq_sr4 : Cond.stringRef RX10 173 "rule" ∈ lw_tbl := List.mem_of_getElem? (i := 1303) rfl
set_option maxRecDepth 20000 in
theorem lq_sr5 : Cond.stringRef RX10 175 "label" ∈ lw_tbl := List.mem_of_getElem? (i := 1304) rfl
set_option maxRecDepth 20000 in
theorem lq_cs : Cond.laysStatic "java/lang/String" "COMPACT_STRINGS" "Z" ∈ lw_tbl := List.mem_of_getElem? (i := 435) rfl
set_option maxRecDepth 20000 in
theorem lq_csi : Cond.initialized "java/lang/String" ∈ lw_tbl := List.mem_of_getElem? (i := 112) rfl
set_option maxRecDepth 20000 in
theorem lq_sf : Cond.laysStatic "jdk/internal/util/Preconditions" "SIOOBE_FORMATTER" "Ljava/util/function/BiFunction;" ∈ lw_tbl := List.mem_of_getElem? (i := 451) rfl
set_option maxRecDepth 20000 in
theorem lq_sfi : Cond.initialized "jdk/internal/util/Preconditions" ∈ lw_tbl := List.mem_of_getElem? (i := 114) rfl
set_option maxRecDepth 20000 in
theorem lq_us : Cond.laysStatic Bundle.tN "UNASSIGNED_STACK" Bundle.steD ∈ lw_tbl := List.mem_of_getElem? (i := 1129) rfl
set_option maxRecDepth 20000 in
theorem lq_ss : Cond.laysStatic Bundle.tN "SUPPRESSED_SENTINEL" Bundle.listD ∈ lw_tbl := List.mem_of_getElem? (i := 1131) rfl
set_option maxRecDepth 20000 in
theorem lq_ti : Cond.initialized Bundle.tN ∈ lw_tbl := List.mem_of_getElem? (i := 119) rfl
set_option maxRecDepth 20000 in
theorem lq_cl9 : Cond.classLink RL 8 RX9 ∈ lw_tbl := List.mem_of_getElem? (i := 123) rfl
set_option maxRecDepth 20000 in
theorem lq_cl10 : Cond.classLink RL 16 RX10 ∈ lw_tbl := List.mem_of_getElem? (i := 1164) rfl
set_option maxRecDepth 20000 in
theorem lq_in9 : Cond.initialized RX9 ∈ lw_tbl := List.mem_of_getElem? (i := 100) rfl
set_option maxRecDepth 20000 in
theorem lq_in10 : Cond.initialized RX10 ∈ lw_tbl := List.mem_of_getElem? (i := 110) rfl
set_option maxRecDepth 20000 in
theorem lq_ml9 : Cond.methodLink RL 15 yX9_init ∈ lw_tbl := List.mem_of_getElem? (i := 125) rfl
set_option maxRecDepth 20000 in
theorem lq_ml10 : Cond.methodLink RL 18 yX10_init ∈ lw_tbl := List.mem_of_getElem? (i := 1166) rfl
set_option maxRecDepth 20000 in
theorem lq_im9 : Cond.instanceMethod yX9_init ∈ lw_tbl := List.mem_of_getElem? (i := 126) rfl
set_option maxRecDepth 20000 in
theorem lq_im10 : Cond.instanceMethod yX10_init ∈ lw_tbl := List.mem_of_getElem? (i := 1167) rfl
set_option maxRecDepth 20000 in
theorem z_N_in : ∀ w ∈ z_N, w ∈ lw_tbl := z_inp [722, 811, 982, 1062, 523, 658] rfl
set_option maxRecDepth 20000 in
theorem z_NK_in : ∀ w ∈ z_NK, w ∈ lw_tbl := z_inp [133, 217, 283, 308, 321, 337, 247, 226, 139] rfl
theorem z_N_tab : ∀ w ∈ z_N, w.onTables = true := by
  intro w hw
  simp only [z_N, List.mem_cons, List.not_mem_nil, or_false] at hw
  rcases hw with rfl | rfl | rfl | rfl | rfl | rfl <;> rfl
theorem z_NK_tab : ∀ w ∈ z_NK, w.onTables = true := by
  intro w hw
  simp only [z_NK, List.mem_cons, List.not_mem_nil, or_false] at hw
  rcases hw with rfl | rfl | rfl | rfl | rfl | rfl | rfl | rfl | rfl <;> rfl
def z_tm (i : Nat) : Term := if i = 0 then .string RX7 113 else if i = 1 then .string RX7 119 else .string RX7 121
abbrev z_fl : List Cond := flatC (Jvm.Cond.and given_1 narrow_1)
theorem z_fl_ex : ∀ i, i < 3 → Cond.exactly (z_tm i) "java/lang/String" ∈ z_fl := by decide +kernel
theorem z_fl_co : ∀ i, i < 3 → Cond.eq (.field (z_tm i) "java/lang/String" "coder" "B") (.int 0) ∈ z_fl := by decide +kernel
theorem z_fl_ar : ∀ i, i < 3 → Cond.arrayOf (.field (z_tm i) "java/lang/String" "value" "[B") .byte ∈ z_fl := by decide +kernel
theorem z_fl_le : ∀ i, i < 3 → Cond.eq (.length (.field (z_tm i) "java/lang/String" "value" "[B")) (.int (Int32.ofNat (z_len.getD i 0))) ∈ z_fl := by decide +kernel
theorem z_fl_el : ∀ i, i < 3 → ∀ j, j < z_len.getD i 0 → Cond.eq (.elem (.field (z_tm i) "java/lang/String" "value" "[B") (.int (Int32.ofNat j))) (.int ((z_byt.getD i []).getD j 0)) ∈ z_fl := by decide +kernel
theorem z_fl_ne : ∀ i, i < 3 → ∀ j, j < 3 → i ≠ j → Cond.not (Cond.eq (z_tm i) (z_tm j)) ∈ z_fl ∨ Cond.not (Cond.eq (z_tm j) (z_tm i)) ∈ z_fl := by decide +kernel
theorem z_fl_cs : Cond.eq (.static "java/lang/String" "COMPACT_STRINGS" "Z") (.int 1) ∈ z_fl := by decide +kernel
theorem z_fl_sf : Cond.isRef (.static "jdk/internal/util/Preconditions" "SIOOBE_FORMATTER" "Ljava/util/function/BiFunction;") ∈ z_fl := by decide +kernel
theorem z_fl_us : Cond.isRef (.static Bundle.tN "UNASSIGNED_STACK" Bundle.steD) ∈ z_fl := by decide +kernel
theorem z_fl_ss : Cond.isRef (.static Bundle.tN "SUPPRESSED_SENTINEL" Bundle.listD) ∈ z_fl := by decide +kernel
theorem z_fl_e0 : Cond.eq (.string RX7 113) (.string RX10 171) ∈ z_fl := by decide +kernel
theorem z_fl_e1 : Cond.eq (.string RX7 119) (.string RX10 173) ∈ z_fl := by decide +kernel
theorem z_fl_e2 : Cond.eq (.string RX7 121) (.string RX10 175) ∈ z_fl := by decide +kernel
set_option maxRecDepth 20000 in
theorem z_startG {p : Program} {s : State} {m : MethodId} {meth : Method} {c : Code} {b L : Nat} {xs : Nat → Int32} (C0 : lw_At p s m meth c b L xs) : ∃ g : z_G, va_K g.1 vwCl (z_tys g) s ∧ z_E g (z_AL s) s s.heap ∧ z_KE s ∧ z_LE s := by
  obtain ⟨hx, hb, hr, hml, hown, hts, hX, hbl, hlocks, hgv⟩ := C0
  have hs := flat_of_before _ hgv
  have hA : ∀ a : Nat, a < s.heap.size → ¬ z_AL s a := fun a h => Nat.not_le.mpr h
  obtain ⟨c0, i0, hn0⟩ := u_known (C := RX0) (T := TX0) (N := 2) (n := 2) hts li_X0 (hts _ lq_i0)
  obtain ⟨c1, i1, hn1⟩ := u_known (C := RX1) (T := TX1) (N := 4) (n := 4) hts li_X1 (hts _ lq_i1)
  obtain ⟨c2, i2, hn2⟩ := u_known (C := RX2) (T := TX2) (N := 3) (n := 3) hts li_X2 (hts _ lq_i2)
  obtain ⟨c3, i3, hn3⟩ := u_known (C := RX3) (T := TX3) (N := 3) (n := 3) hts li_X3 (hts _ lq_i3)
  obtain ⟨c4, i4, hn4⟩ := u_known (C := RX4) (T := TX4) (N := 3) (n := 3) hts li_X4 (hts _ lq_i4)
  obtain ⟨c5, i5, hn5⟩ := u_known (C := RX5) (T := TX5) (N := 3) (n := 3) hts li_X5 (hts _ lq_i5)
  obtain ⟨c6, i6, hn6⟩ := u_known (C := RX6) (T := TX6) (N := 6) (n := 6) hts li_X6 (hts _ lq_i6)
  obtain ⟨c7, i7, hn7⟩ := u_known (C := RX7) (T := TX7) (N := 11) (n := 11) hts li_X7 (hts _ lq_i7)
  obtain ⟨c8, i8, hn8⟩ := u_known (C := RX8) (T := TX8) (N := 5) (n := 5) hts li_X8 (hts _ lq_i8)
  obtain ⟨c9, i9, hn9⟩ := u_known (C := RX9) (T := TX9) (N := 9) (n := 9) hts li_X9 (hts _ lq_i9)
  obtain ⟨c10, i10, hn10⟩ := u_known (C := RX10) (T := TX10) (N := 30) (n := 30) hts li_X10 (hts _ lq_i10)
  obtain ⟨dC, dI, hKc⟩ : ∃ (dC : Nat → ClassId) (dI : Nat → Nat → Nat), ∀ (k : Nat) (q : vw_C), vwCl[k]? = some q → u_Kn s q.1 q.2.1 q.2.2 (dC k) (dI k) := by
    refine ⟨fun k => if k = 0 then c0 else if k = 1 then c1 else if k = 2 then c2 else if k = 3 then c3 else if k = 4 then c4 else if k = 5 then c5 else if k = 6 then c6 else if k = 7 then c7 else if k = 8 then c8 else if k = 9 then c9 else c10, fun k => if k = 0 then i0 else if k = 1 then i1 else if k = 2 then i2 else if k = 3 then i3 else if k = 4 then i4 else if k = 5 then i5 else if k = 6 then i6 else if k = 7 then i7 else if k = 8 then i8 else if k = 9 then i9 else i10, ?_⟩
    intro k q hq
    match k, hq with
    | 0, hq => cases hq; exact hn0
    | 1, hq => cases hq; exact hn1
    | 2, hq => cases hq; exact hn2
    | 3, hq => cases hq; exact hn3
    | 4, hq => cases hq; exact hn4
    | 5, hq => cases hq; exact hn5
    | 6, hq => cases hq; exact hn6
    | 7, hq => cases hq; exact hn7
    | 8, hq => cases hq; exact hn8
    | 9, hq => cases hq; exact hn9
    | 10, hq => cases hq; exact hn10
    | k + 11, hq => simp [vwCl] at hq
  obtain ⟨t0, a0, b0⟩ := z_arr (hts _ lq_ac0) rfl (fun _ h => h)
  obtain ⟨t1, a1, b1⟩ := z_arr (hts _ lq_ac1) rfl (fun _ h => h)
  obtain ⟨t2, a2, b2⟩ := z_arr (hts _ lq_ac2) rfl (fun _ h => h)
  obtain ⟨t3, a3, b3⟩ := z_arr (hts _ lq_ac3) rfl (fun _ h => h)
  obtain ⟨t4, a4, b4⟩ := z_arr (hts _ lq_ac4) rfl (fun _ h => h)
  obtain ⟨t5, a5, b5⟩ := z_arrO (hts _ lq_ao5)
  obtain ⟨t6, a6, b6⟩ := z_arrO (hts _ lq_ao6)
  obtain ⟨adK, adV, hS, hev⟩ := vk_Sof (s := s) (args := #[Value.ref b]) (N := 3) (tm := z_tm) (len := z_len) (byt := z_byt) (A := z_AL s) (by decide) (fun i hi => hs _ (z_fl_ex i hi)) (fun i hi => hs _ (z_fl_co i hi)) (fun i hi => hs _ (z_fl_ar i hi)) (fun i hi => hs _ (z_fl_le i hi)) (fun i hi j hj => hs _ (z_fl_el i hi j hj)) (fun i j hi hj hij => (z_fl_ne i hi j hj hij).elim (fun h => Or.inl (hs _ h)) (fun h => Or.inr (hs _ h))) hA
  have e0 : (Term.string RX7 113).eval #[Value.ref b] s none [] s = some (.ref (adK 0)) := hev 0 (by decide)
  have e1 : (Term.string RX7 119).eval #[Value.ref b] s none [] s = some (.ref (adK 1)) := hev 1 (by decide)
  have e2 : (Term.string RX7 121).eval #[Value.ref b] s none [] s = some (.ref (adK 2)) := hev 2 (by decide)
  refine ⟨((dC, dI), fun _ => 0, fun k => if k = 0 then t0 else if k = 1 then t1 else if k = 2 then t2 else if k = 3 then t3 else if k = 4 then t4 else if k = 5 then t5 else t6, adK, adV), ⟨hKc, ?_⟩, ⟨?_, hS, va_Zof (hts _ lq_cs) (hts _ lq_csi) (va_eqi (hs _ z_fl_cs)) hA, va_Zqof (hts _ lq_sf) (hts _ lq_sfi) (hs _ z_fl_sf) hA, vk_R.of (hts _ lq_sr0) e0, vk_R.of (hts _ lq_sr1) e1, vk_R.of (hts _ lq_sr2) e2, vk_R.of (hts _ lq_sr3) (va_eqR (hs _ z_fl_e0) e0), vk_R.of (hts _ lq_sr4) (va_eqR (hs _ z_fl_e1) e1), vk_R.of (hts _ lq_sr5) (va_eqR (hs _ z_fl_e2) e2)⟩, ⟨?_, va_AO.of (hts _ lq_ao5), va_AO.of (hts _ lq_ao6)⟩, vx_Zqof (hts _ lq_us) (hts _ lq_ti) (hs _ z_fl_us) hA, vx_Zqof (hts _ lq_ss) (hts _ lq_ti) (hs _ z_fl_ss) hA⟩
  · intro k q hq
    match k, hq with
    | 0, hq => cases hq; exact ⟨a0, b0⟩
    | 1, hq => cases hq; exact ⟨a1, b1⟩
    | 2, hq => cases hq; exact ⟨a2, b2⟩
    | 3, hq => cases hq; exact ⟨a3, b3⟩
    | 4, hq => cases hq; exact ⟨a4, b4⟩
    | 5, hq => cases hq; exact ⟨a5, b5⟩
    | 6, hq => cases hq; exact ⟨a6, b6⟩
    | k + 7, hq => simp [z_tys] at hq
  · exact fun w hw => va_Nw.of (z_N_tab w hw) (hts w (z_N_in w hw))
  · exact fun w hw => va_Nw.of (z_NK_tab w hw) (hts w (z_NK_in w hw))
end
