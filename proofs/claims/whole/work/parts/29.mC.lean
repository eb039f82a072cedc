theorem lk_X9_counted_21 : (Cond.fieldLink RX9 21 RX9 (TX9 1).2.1 (TX9 1).2.2.1) ∈ wsX9_counted := by decide +kernel
theorem in_X9_counted_X9 : ∀ w ∈ u_ws RX9 TX9 9, w ∈ wsX9_counted := fun _ h => List.mem_cons_of_mem _ (List.mem_append_left _ (List.mem_append_left _ (List.mem_append_right _ h)))
theorem lk_X9_counted_46 : (Cond.fieldLink RX9 46 RX9 (TX9 5).2.1 (TX9 5).2.2.1) ∈ wsX9_counted := by decide +kernel
def b_X9_counted_58 (x1 : Int32) (x2 : Int32) (x4 : Int32) (x5 : Int32) (x6 : Int32) : (Int32 × Int32 × z_M) → ((Int32 × Int32 × z_M) → Option (Int32 × z_M)) → ((Int32 × z_M) → Option (Int32 × z_M)) → Option (Int32 × z_M) := fun q kb kx =>
  if 9 ≤ q.2.1 then (kx (q.1, q.2.2)) else (Option.bind (f_X9_isIn x5 q.2.1) (fun r8 => if r8 = 0 then (kb (q.1, q.2.1 + 1, q.2.2)) else (z_b2 (f_X8_mobius 0 x1 x2 (x4 &&& ((1 <<< (q.2.1 &&& 31)) ^^^ (-1))) q.2.2) (fun r10 u11 => if r10 = x6 then (kb (q.1, q.2.1 + 1, u11)) else (z_lt (q.1 ||| (1 <<< (q.2.1 &&& 31))) (fun v13 => kb (v13, q.2.1 + 1, u11)))))))
def f_X9_counted (a1 : Int32) (a2 : Int32) (u : z_M) : Option (Int32 × z_M) :=
  Option.bind (f_X9_troubleOf a1 a2 u) (fun r1 => if r1 = 0 then (Option.bind (f_X6_between 0 a1 a2 u) (fun r3 => Option.bind (f_X6_innerOf 0 a1 a2 u) (fun r4 => z_b2 (f_X8_mobius 0 a1 a2 r3 u) (fun r5 u6 => z_lp (b_X9_counted_58 a1 a2 r3 r4 r5) z_F (0, 0, u6) (fun t14 => some (t14.1, t14.2)))))) else (some (r1, u)))
set_option maxRecDepth 20000 in
set_option maxHeartbeats 4000000 in
theorem wb_X9_counted_58 {p : Program} {l : Launch} {e : Env} {R : Room} {s : State} {m : MethodId} {args : Array Value} {below : List Frame} {meth : Method} {c : Code} {g : z_G} {u : z_M} {res : Int32 × z_M} (hR : R = z_rm 5) (X : z_X p R s m args meth c cX9_counted 9 RX9 wsX9_counted (some .int) g z_shC) (x1 : Int32) (x2 : Int32) (x4 : Int32) (x5 : Int32) (x6 : Int32) (q : Int32 × Int32 × z_M) (kb : (Int32 × Int32 × z_M) → Option (Int32 × z_M)) (kx : (Int32 × z_M) → Option (Int32 × z_M)) (hkb : ∀ q, kb q = some res → z_V p l e R s m args below meth c 9 g z_shC (MQ below (z_Qc g z_shC (fun v u' => v = some (.int res.1) ∧ u' = res.2)) args s 0 0 (z_A g z_shC)) 58 [(0, .ref (z_ad g 80)), (1, .int x1), (2, .int x2), (4, .int x4), (5, .int x5), (6, .int x6), (7, .int q.1), (8, .int q.2.1)] [] q.2.2) (hkx : ∀ t, kx t = some res → z_V p l e R s m args below meth c 9 g z_shC (MQ below (z_Qc g z_shC (fun v u' => v = some (.int res.1) ∧ u' = res.2)) args s 0 0 (z_A g z_shC)) 117 [(7, .int t.1)] [] t.2) (h : b_X9_counted_58 x1 x2 x4 x5 x6 q kb kx = some res) : z_V p l e R s m args below meth c 9 g z_shC (MQ below (z_Qc g z_shC (fun v u' => v = some (.int res.1) ∧ u' = res.2)) args s 0 0 (z_A g z_shC)) 58 [(0, .ref (z_ad g 80)), (1, .int x1), (2, .int x2), (4, .int x4), (5, .int x5), (6, .int x6), (7, .int q.1), (8, .int q.2.1)] [] q.2.2 := by
  unfold b_X9_counted_58 at h
  refine z_iload X 7 dX9_counted_58 rfl (z_bipush X (v := 9) dX9_counted_60 (by decide) (z_icmp_ge X 117 dX9_counted_62 (by decide) (fun c7 => ?_) (fun c7 => ?_)))
  · replace h := z_ip c7 h
    refine z_sub [6] [(7, .int q.1)] rfl ?_
    exact hkx (q.1, q.2.2) h
  · replace h := z_in c7 h
    obtain ⟨r8, er8, h⟩ := z_bs h
    refine z_iload X 4 dX9_counted_65 rfl (z_iload X 7 dX9_counted_67 rfl (z_callSi X (r := r8) (u1 := q.2.2) [.int x5, .int q.2.1] [] (w_X9_isIn l g x5 q.2.1 q.2.2 er8) gX9_counted_X9_isIn hy_X9_isIn.2 rfl (z_le1 hR (by decide)) (z_le2 hR (by decide) (by decide)) (Nat.le_of_ble_eq_true rfl) dX9_counted_69 (z_if_eq X 111 dX9_counted_72 (by decide) (fun c9 => ?_) (fun c9 => ?_))))
    · replace h := z_ip c9 h
      refine z_iinc X (v := q.2.1 + 1) 7 [(8, .int (q.2.1 + 1)), (0, .ref (z_ad g 80)), (1, .int x1), (2, .int x2), (4, .int x4), (5, .int x5), (6, .int x6), (7, .int q.1)] dX9_counted_111 rfl rfl (by decide) rfl (z_goto X 58 dX9_counted_114 (by decide) (z_sub [1, 2, 3, 4, 5, 6, 7, 0] [(0, .ref (z_ad g 80)), (1, .int x1), (2, .int x2), (4, .int x4), (5, .int x5), (6, .int x6), (7, .int q.1), (8, .int (q.2.1 + 1))] rfl ?_))
      exact hkb (q.1, q.2.1 + 1, q.2.2) h
    · replace h := z_in c9 h
      obtain ⟨r10, u11, er10, h⟩ := z_b2s h
      refine z_aload_n X 0 dX9_counted_75 rfl rfl (z_getR X (k0 := 5) z_c80 rfl in_X9_counted_X9 (by decide) rfl rfl lk_X9_counted_46 dX9_counted_76 (z_aload_n X 0 dX9_counted_79 rfl rfl (z_getR X (k0 := 1) z_c80 rfl in_X9_counted_X9 (by decide) rfl rfl lk_X9_counted_21 dX9_counted_80 (z_iload_n X 1 dX9_counted_83 rfl rfl (z_iload_n X 2 dX9_counted_84 rfl rfl (z_iload X 3 dX9_counted_85 rfl (z_iconst X (v := 1) dX9_counted_87 (by decide) (z_iload X 7 dX9_counted_88 rfl (z_ishl X dX9_counted_90 (z_iconst X (v := (-1)) dX9_counted_91 (by decide) (z_ixor X dX9_counted_92 (z_iand X dX9_counted_93 (z_callVi X (r := r10) (u1 := u11) [.ref (z_ad g 0), .int x1, .int x2, .int (x4 &&& ((1 <<< (q.2.1 &&& 31)) ^^^ (-1)))] [] (w_X8_mobius l g 0 x1 x2 (x4 &&& ((1 <<< (q.2.1 &&& 31)) ^^^ (-1))) z_po_0 q.2.2 er10) z_c125 rfl gX9_counted_X8_mobius hy_X8_mobius rfl (z_le1 hR (by decide)) (z_le2 hR (by decide) (by decide)) (Nat.le_of_ble_eq_true rfl) dX9_counted_94 (z_iload X 5 dX9_counted_97 rfl (z_icmp_eq X 111 dX9_counted_99 (by decide) (fun c12 => ?_) (fun c12 => ?_))))))))))))))))
      · replace h := z_ip c12 h
        refine z_iinc X (v := q.2.1 + 1) 7 [(8, .int (q.2.1 + 1)), (0, .ref (z_ad g 80)), (1, .int x1), (2, .int x2), (4, .int x4), (5, .int x5), (6, .int x6), (7, .int q.1)] dX9_counted_111 rfl rfl (by decide) rfl (z_goto X 58 dX9_counted_114 (by decide) (z_sub [1, 2, 3, 4, 5, 6, 7, 0] [(0, .ref (z_ad g 80)), (1, .int x1), (2, .int x2), (4, .int x4), (5, .int x5), (6, .int x6), (7, .int q.1), (8, .int (q.2.1 + 1))] rfl ?_))
        exact hkb (q.1, q.2.1 + 1, u11) h
      · replace h := z_in c12 h
        obtain ⟨v13, ev13, h⟩ := z_ls h
        refine z_iload X 6 dX9_counted_102 rfl (z_iconst X (v := 1) dX9_counted_104 (by decide) (z_iload X 7 dX9_counted_105 rfl (z_ishl X dX9_counted_107 (z_ior X dX9_counted_108 (z_ti ev13 (z_istore X [(7, .int v13), (0, .ref (z_ad g 80)), (1, .int x1), (2, .int x2), (4, .int x4), (5, .int x5), (6, .int x6), (8, .int q.2.1)] dX9_counted_109 (by decide) rfl (z_iinc X (v := q.2.1 + 1) 7 [(8, .int (q.2.1 + 1)), (7, .int v13), (0, .ref (z_ad g 80)), (1, .int x1), (2, .int x2), (4, .int x4), (5, .int x5), (6, .int x6)] dX9_counted_111 rfl rfl (by decide) rfl (z_goto X 58 dX9_counted_114 (by decide) (z_sub [2, 3, 4, 5, 6, 7, 1, 0] [(0, .ref (z_ad g 80)), (1, .int x1), (2, .int x2), (4, .int x4), (5, .int x5), (6, .int x6), (7, .int v13), (8, .int (q.2.1 + 1))] rfl ?_)))))))))
        exact hkb (v13, q.2.1 + 1, u11) h
set_option maxRecDepth 20000 in
set_option maxHeartbeats 4000000 in
theorem w_X9_counted (l : Launch) (g : z_G) (a1 : Int32) (a2 : Int32) (u : z_M) {res : Int32 × z_M} (h : f_X9_counted a1 a2 u = some res) : z_C l g z_shC yX9_counted wsX9_counted 5 [.ref (z_ad g 80), .int a1, .int a2] u (fun v u' => v = some (.int res.1) ∧ u' = res.2) := by
  refine z_C.mk (lv := [(0, .ref (z_ad g 80)), (1, .int a1), (2, .int a2)]) (cc := cX9_counted) (nL := 9) (rt := (some .int)) rfl (by decide) (Nat.le_of_ble_eq_true rfl) rfl (fun p e R s m args below meth c hR X => ?_)
  unfold f_X9_counted at h
  obtain ⟨r1, er1, h⟩ := z_bs h
  refine z_aload_n X 0 dX9_counted_0 rfl rfl (z_iload_n X 1 dX9_counted_1 rfl rfl (z_iload_n X 2 dX9_counted_2 rfl rfl (z_callVi X (r := r1) (u1 := u) [.int a1, .int a2] [] (w_X9_troubleOf l g a1 a2 u er1) z_c80 rfl gX9_counted_X9_troubleOf hy_X9_troubleOf rfl (z_le1 hR (by decide)) (z_le2 hR (by decide) (by decide)) (Nat.le_of_ble_eq_true rfl) dX9_counted_3 (z_istore_n X [(3, .int r1), (0, .ref (z_ad g 80)), (1, .int a1), (2, .int a2)] dX9_counted_6 rfl (by decide) rfl (z_iload_n X 0 dX9_counted_7 rfl rfl (z_if_eq X 13 dX9_counted_8 (by decide) (fun c2 => ?_) (fun c2 => ?_)))))))
  · replace h := z_ip c2 h
    obtain ⟨r3, er3, h⟩ := z_bs h
    obtain ⟨r4, er4, h⟩ := z_bs h
    obtain ⟨r5, u6, er5, h⟩ := z_b2s h
    refine z_aload_n X 1 dX9_counted_13 rfl rfl (z_getR X (k0 := 1) z_c80 rfl in_X9_counted_X9 (by decide) rfl rfl lk_X9_counted_21 dX9_counted_14 (z_iload_n X 2 dX9_counted_17 rfl rfl (z_iload_n X 3 dX9_counted_18 rfl rfl (z_callVi X (r := r3) (u1 := u) [.int a1, .int a2] [] (w_X6_between l g 0 a1 a2 z_po_0 u er3) (z_po z_po_0) rfl gX9_counted_X6_between hy_X6_between rfl (z_le1 hR (by decide)) (z_le2 hR (by decide) (by decide)) (Nat.le_of_ble_eq_true rfl) dX9_counted_19 (z_istore X [(4, .int r3), (3, .int r1), (0, .ref (z_ad g 80)), (1, .int a1), (2, .int a2)] dX9_counted_22 (by decide) rfl (z_aload_n X 2 dX9_counted_24 rfl rfl (z_getR X (k0 := 1) z_c80 rfl in_X9_counted_X9 (by decide) rfl rfl lk_X9_counted_21 dX9_counted_25 (z_iload_n X 3 dX9_counted_28 rfl rfl (z_iload_n X 4 dX9_counted_29 rfl rfl (z_callVi X (r := r4) (u1 := u) [.int a1, .int a2] [] (w_X6_innerOf l g 0 a1 a2 z_po_0 u er4) (z_po z_po_0) rfl gX9_counted_X6_innerOf hy_X6_innerOf rfl (z_le1 hR (by decide)) (z_le2 hR (by decide) (by decide)) (Nat.le_of_ble_eq_true rfl) dX9_counted_30 (z_istore X [(5, .int r4), (4, .int r3), (3, .int r1), (0, .ref (z_ad g 80)), (1, .int a1), (2, .int a2)] dX9_counted_33 (by decide) rfl (z_aload_n X 3 dX9_counted_35 rfl rfl (z_getR X (k0 := 5) z_c80 rfl in_X9_counted_X9 (by decide) rfl rfl lk_X9_counted_46 dX9_counted_36 (z_aload_n X 3 dX9_counted_39 rfl rfl (z_getR X (k0 := 1) z_c80 rfl in_X9_counted_X9 (by decide) rfl rfl lk_X9_counted_21 dX9_counted_40 (z_iload_n X 4 dX9_counted_43 rfl rfl (z_iload_n X 5 dX9_counted_44 rfl rfl (z_iload X 1 dX9_counted_45 rfl (z_callVi X (r := r5) (u1 := u6) [.ref (z_ad g 0), .int a1, .int a2, .int r3] [] (w_X8_mobius l g 0 a1 a2 r3 z_po_0 u er5) z_c125 rfl gX9_counted_X8_mobius hy_X8_mobius rfl (z_le1 hR (by decide)) (z_le2 hR (by decide) (by decide)) (Nat.le_of_ble_eq_true rfl) dX9_counted_47 (z_istore X [(6, .int r5), (5, .int r4), (4, .int r3), (3, .int r1), (0, .ref (z_ad g 80)), (1, .int a1), (2, .int a2)] dX9_counted_50 (by decide) rfl (z_iconst X (v := 0) dX9_counted_52 (by decide) (z_istore X [(7, .int 0), (6, .int r5), (5, .int r4), (4, .int r3), (3, .int r1), (0, .ref (z_ad g 80)), (1, .int a1), (2, .int a2)] dX9_counted_53 (by decide) rfl (z_iconst X (v := 0) dX9_counted_55 (by decide) (z_istore X [(8, .int 0), (7, .int 0), (6, .int r5), (5, .int r4), (4, .int r3), (3, .int r1), (0, .ref (z_ad g 80)), (1, .int a1), (2, .int a2)] dX9_counted_56 (by decide) rfl (z_sub [6, 7, 8, 4, 3, 2, 1, 0] [(0, .ref (z_ad g 80)), (1, .int a1), (2, .int a2), (4, .int r3), (5, .int r4), (6, .int r5), (7, .int 0), (8, .int 0)] rfl ?_)))))))))))))))))))))))))
    have hw := z_lp_w (fun q9 kb9 kx9 h1 h2 h3 => wb_X9_counted_58 (l := l) (e := e) (below := below) (u := u6) hR X a1 a2 r3 r4 r5 q9 kb9 kx9 h1 h2 h3) z_F _ _ h
    refine hw (fun t14 h => ?_)
    refine z_iload X 0 dX9_counted_117 rfl ?_
    cases h; exact z_iret X rfl dX9_counted_119 ⟨rfl, rfl⟩
  · replace h := z_in c2 h
    refine z_iload_n X 0 dX9_counted_11 rfl rfl ?_
    cases h; exact z_iret X rfl dX9_counted_12 ⟨rfl, rfl⟩

theorem lk_X9_core_21 : (Cond.fieldLink RX9 21 RX9 (TX9 1).2.1 (TX9 1).2.2.1) ∈ wsX9_core := by decide +kernel
theorem in_X9_core_X9 : ∀ w ∈ u_ws RX9 TX9 9, w ∈ wsX9_core := fun _ h => List.mem_cons_of_mem _ (List.mem_append_left _ (List.mem_append_right _ h))
theorem lk_X9_core_136 : (Cond.fieldLink RX9 136 RX6 (TX6 1).2.1 (TX6 1).2.2.1) ∈ wsX9_core := by decide +kernel
theorem in_X9_core_X6 : ∀ w ∈ u_ws RX6 TX6 6, w ∈ wsX9_core := fun _ h => List.mem_cons_of_mem _ (List.mem_append_right _ h)
theorem hy_X6_leastIrreducible : yX6_leastIrreducible.cls = RX6 ∧ yX6_leastIrreducible.cls ≠ "java/lang/invoke/MethodHandle" ∧ yX6_leastIrreducible.cls ≠ "java/lang/invoke/VarHandle" ∧ (parseMethodDescriptor yX6_leastIrreducible.desc).map (fun d => d.parameters.length) = some 1 := by decide +kernel
def b_X9_core_25 (x1 : Int32) (u : z_M) : (Int32 × Int32) → ((Int32 × Int32) → Option (Int32)) → (Int32 → Option (Int32)) → Option (Int32) := fun q kb kx =>
  if 9 ≤ q.2 then (kx q.1) else (Option.bind (f_X6_leastIrreducible 0 q.1 u) (fun r6 => if r6 = (-1) then (kx q.1) else (if q.2 = x1 then (some r6) else (z_lt (q.1 &&& ((1 <<< (r6 &&& 31)) ^^^ (-1))) (fun v9 => kb (v9, q.2 + 1))))))
def f_X9_core (a1 : Int32) (u : z_M) : Option (Int32) :=
  Option.bind (f_X9_isOrder u) (fun r1 => if r1 = 0 then (some (-3)) else (if (-1) ≤ a1 then (z_lt (z_gI u 0 1) (fun v4 => z_lp (b_X9_core_25 a1 u) z_F (v4, 0) (fun t10 => if a1 = (-1) then (some (z_bitc t10)) else (some (-2))))) else (some (-3))))
set_option maxRecDepth 20000 in
set_option maxHeartbeats 4000000 in
theorem wb_X9_core_25 {p : Program} {l : Launch} {e : Env} {R : Room} {s : State} {m : MethodId} {args : Array Value} {below : List Frame} {meth : Method} {c : Code} {g : z_G} {u : z_M} {res : Int32} (hR : R = z_rm 5) (X : z_X p R s m args meth c cX9_core 5 RX9 wsX9_core (some .int) g z_shC) (x1 : Int32) (q : Int32 × Int32) (kb : (Int32 × Int32) → Option (Int32)) (kx : Int32 → Option (Int32)) (hkb : ∀ q, kb q = some res → z_V p l e R s m args below meth c 5 g z_shC (MQ below (z_Qc g z_shC (fun v u' => v = some (.int res) ∧ u' = u)) args s 0 0 (z_A g z_shC)) 25 [(0, .ref (z_ad g 80)), (1, .int x1), (2, .int q.1), (3, .int q.2)] [] u) (hkx : ∀ t, kx t = some res → z_V p l e R s m args below meth c 5 g z_shC (MQ below (z_Qc g z_shC (fun v u' => v = some (.int res) ∧ u' = u)) args s 0 0 (z_A g z_shC)) 73 [(1, .int x1), (2, .int t)] [] u) (h : b_X9_core_25 x1 u q kb kx = some res) : z_V p l e R s m args below meth c 5 g z_shC (MQ below (z_Qc g z_shC (fun v u' => v = some (.int res) ∧ u' = u)) args s 0 0 (z_A g z_shC)) 25 [(0, .ref (z_ad g 80)), (1, .int x1), (2, .int q.1), (3, .int q.2)] [] u := by
  unfold b_X9_core_25 at h
  refine z_iload_n X 3 dX9_core_25 rfl rfl (z_bipush X (v := 9) dX9_core_26 (by decide) (z_icmp_ge X 73 dX9_core_28 (by decide) (fun c5 => ?_) (fun c5 => ?_)))
  · replace h := z_ip c5 h
    refine z_sub [1, 2] [(1, .int x1), (2, .int q.1)] rfl ?_
    exact hkx q.1 h
  · replace h := z_in c5 h
    obtain ⟨r6, er6, h⟩ := z_bs h
    refine z_aload_n X 0 dX9_core_31 rfl rfl (z_getR X (k0 := 1) z_c80 rfl in_X9_core_X9 (by decide) rfl rfl lk_X9_core_21 dX9_core_32 (z_iload_n X 2 dX9_core_35 rfl rfl (z_callVi X (r := r6) (u1 := u) [.int q.1] [] (w_X6_leastIrreducible l g 0 q.1 z_po_0 u er6) (z_po z_po_0) rfl gX9_core_X6_leastIrreducible hy_X6_leastIrreducible rfl (z_le1 hR (by decide)) (z_le2 hR (by decide) (by decide)) (Nat.le_of_ble_eq_true rfl) dX9_core_36 (z_istore X [(4, .int r6), (0, .ref (z_ad g 80)), (1, .int x1), (2, .int q.1), (3, .int q.2)] dX9_core_39 (by decide) rfl (z_iload X 0 dX9_core_41 rfl (z_iconst X (v := (-1)) dX9_core_43 (by decide) (z_icmp_ne X 50 dX9_core_44 (by decide) (fun c7 => ?_) (fun c7 => ?_))))))))
    · replace h := z_in c7 h
      refine z_iload_n X 4 dX9_core_50 rfl rfl (z_iload_n X 2 dX9_core_51 rfl rfl (z_icmp_ne X 58 dX9_core_52 (by decide) (fun c8 => ?_) (fun c8 => ?_)))
      · replace h := z_in c8 h
        obtain ⟨v9, ev9, h⟩ := z_ls h
        refine z_iload_n X 3 dX9_core_58 rfl rfl (z_iconst X (v := 1) dX9_core_59 (by decide) (z_iload X 0 dX9_core_60 rfl (z_ishl X dX9_core_62 (z_iconst X (v := (-1)) dX9_core_63 (by decide) (z_ixor X dX9_core_64 (z_iand X dX9_core_65 (z_ti ev9 (z_istore_n X [(2, .int v9), (4, .int r6), (0, .ref (z_ad g 80)), (1, .int x1), (3, .int q.2)] dX9_core_66 rfl (by decide) rfl (z_iinc X (v := q.2 + 1) 4 [(3, .int (q.2 + 1)), (2, .int v9), (4, .int r6), (0, .ref (z_ad g 80)), (1, .int x1)] dX9_core_67 rfl rfl (by decide) rfl (z_goto X 25 dX9_core_70 (by decide) (z_sub [3, 4, 1, 0] [(0, .ref (z_ad g 80)), (1, .int x1), (2, .int v9), (3, .int (q.2 + 1))] rfl ?_)))))))))))
        exact hkb (v9, q.2 + 1) h
      · replace h := z_ip c8 h
        refine z_iload X 0 dX9_core_55 rfl ?_
        cases h; exact z_iret X rfl dX9_core_57 ⟨rfl, rfl⟩
    · replace h := z_ip c7 h
      refine z_goto X 73 dX9_core_47 (by decide) (z_sub [2, 3] [(1, .int x1), (2, .int q.1)] rfl ?_)
      exact hkx q.1 h
set_option maxRecDepth 20000 in
set_option maxHeartbeats 4000000 in
theorem w_X9_core (l : Launch) (g : z_G) (a1 : Int32) (u : z_M) {res : Int32} (h : f_X9_core a1 u = some res) : z_C l g z_shC yX9_core wsX9_core 5 [.ref (z_ad g 80), .int a1] u (fun v u' => v = some (.int res) ∧ u' = u) := by
  refine z_C.mk (lv := [(0, .ref (z_ad g 80)), (1, .int a1)]) (cc := cX9_core) (nL := 5) (rt := (some .int)) rfl (by decide) (Nat.le_of_ble_eq_true rfl) rfl (fun p e R s m args below meth c hR X => ?_)
  unfold f_X9_core at h
  obtain ⟨r1, er1, h⟩ := z_bs h
  refine z_aload_n X 0 dX9_core_0 rfl rfl (z_callVi X (r := r1) (u1 := u) [] [] (w_X9_isOrder l g u er1) z_c80 rfl gX9_core_X9_isOrder hy_X9_isOrder rfl (z_le1 hR (by decide)) (z_le2 hR (by decide) (by decide)) (Nat.le_of_ble_eq_true rfl) dX9_core_1 (z_if_eq X 12 dX9_core_4 (by decide) (fun c2 => ?_) (fun c2 => ?_)))
  · replace h := z_ip c2 h
    refine z_bipush X (v := (-3)) dX9_core_12 (by decide) ?_
    cases h; exact z_iret X rfl dX9_core_14 ⟨rfl, rfl⟩
  · replace h := z_in c2 h
    refine z_iload_n X 1 dX9_core_7 rfl rfl (z_iconst X (v := (-1)) dX9_core_8 (by decide) (z_icmp_ge X 15 dX9_core_9 (by decide) (fun c3 => ?_) (fun c3 => ?_)))
    · replace h := z_ip c3 h
      obtain ⟨v4, ev4, h⟩ := z_ls h
      refine z_aload_n X 0 dX9_core_15 rfl rfl (z_getR X (k0 := 1) z_c80 rfl in_X9_core_X9 (by decide) rfl rfl lk_X9_core_21 dX9_core_16 (z_getI X (k0 := 1) (z_po z_po_0) rfl in_X9_core_X6 (by decide) rfl rfl lk_X9_core_136 dX9_core_19 (z_ti ev4 (z_istore_n X [(2, .int v4), (0, .ref (z_ad g 80)), (1, .int a1)] dX9_core_22 rfl (by decide) rfl (z_iconst X (v := 0) dX9_core_23 (by decide) (z_istore_n X [(3, .int 0), (2, .int v4), (0, .ref (z_ad g 80)), (1, .int a1)] dX9_core_24 rfl (by decide) rfl (z_sub [2, 3, 1, 0] [(0, .ref (z_ad g 80)), (1, .int a1), (2, .int v4), (3, .int 0)] rfl ?_)))))))
      have hw := z_lp_w (fun q9 kb9 kx9 h1 h2 h3 => wb_X9_core_25 (l := l) (e := e) (below := below) (u := u) hR X a1 q9 kb9 kx9 h1 h2 h3) z_F _ _ h
      refine hw (fun t10 h => ?_)
      refine z_iload_n X 0 dX9_core_73 rfl rfl (z_iconst X (v := (-1)) dX9_core_74 (by decide) (z_icmp_ne X 85 dX9_core_75 (by decide) (fun c11 => ?_) (fun c11 => ?_)))
      · replace h := z_in c11 h
        refine z_bipush X (v := (-2)) dX9_core_85 (by decide) ?_
        cases h; exact z_iret X rfl dX9_core_87 ⟨rfl, rfl⟩
      · replace h := z_ip c11 h
        refine z_iload_n X 1 dX9_core_78 rfl rfl (z_callSi X (r := z_bitc t10) (u1 := u) [.int t10] [] (w_bitc l g z_shC t10 u) gX9_core_J6_bitCount_0f7a4 hy_J6_bitCount_0f7a4.2 rfl (z_le1 hR (by decide)) (z_le2 hR (by decide) (by decide)) (Nat.le_of_ble_eq_true rfl) dX9_core_79 (z_goto X 87 dX9_core_82 (by decide) ?_))
        cases h; exact z_iret X rfl dX9_core_87 ⟨rfl, rfl⟩
    · replace h := z_in c3 h
      refine z_bipush X (v := (-3)) dX9_core_12 (by decide) ?_
      cases h; exact z_iret X rfl dX9_core_14 ⟨rfl, rfl⟩

theorem lk_X9_selves_67 : (Cond.fieldLink RX9 67 RX9 (TX9 8).2.1 (TX9 8).2.2.1) ∈ wsX9_selves := by decide +kernel
theorem in_X9_selves_X9 : ∀ w ∈ u_ws RX9 TX9 9, w ∈ wsX9_selves := fun _ h => List.mem_cons_of_mem _ (List.mem_append_left _ (List.mem_append_left _ (List.mem_append_right _ h)))
theorem lk_X9_selves_21 : (Cond.fieldLink RX9 21 RX9 (TX9 1).2.1 (TX9 1).2.2.1) ∈ wsX9_selves := by decide +kernel
theorem hy_X4_selvesOf : yX4_selvesOf.cls = RX4 ∧ yX4_selvesOf.cls ≠ "java/lang/invoke/MethodHandle" ∧ yX4_selvesOf.cls ≠ "java/lang/invoke/VarHandle" ∧ (parseMethodDescriptor yX4_selvesOf.desc).map (fun d => d.parameters.length) = some 1 := by decide +kernel
def f_X9_selves (u : z_M) : Option (Int32 × z_M) :=
  Option.bind (f_X9_isOrder u) (fun r1 => if r1 = 0 then (some ((-1), u)) else (z_b2 (f_X4_selvesOf 0 u) (fun r3 u4 => some (r3, u4))))
set_option maxRecDepth 20000 in
set_option maxHeartbeats 4000000 in
theorem w_X9_selves (l : Launch) (g : z_G)  (u : z_M) {res : Int32 × z_M} (h : f_X9_selves u = some res) : z_C l g z_shC yX9_selves wsX9_selves 22 [.ref (z_ad g 80)] u (fun v u' => v = some (.int res.1) ∧ u' = res.2) := by
  refine z_C.mk (lv := [(0, .ref (z_ad g 80))]) (cc := cX9_selves) (nL := 1) (rt := (some .int)) rfl (by decide) (Nat.le_of_ble_eq_true rfl) rfl (fun p e R s m args below meth c hR X => ?_)
  unfold f_X9_selves at h
  obtain ⟨r1, er1, h⟩ := z_bs h
  refine z_aload_n X 0 dX9_selves_0 rfl rfl (z_callVi X (r := r1) (u1 := u) [] [] (w_X9_isOrder l g u er1) z_c80 rfl gX9_selves_X9_isOrder hy_X9_isOrder rfl (z_le1 hR (by decide)) (z_le2 hR (by decide) (by decide)) (Nat.le_of_ble_eq_true rfl) dX9_selves_1 (z_if_eq X 21 dX9_selves_4 (by decide) (fun c2 => ?_) (fun c2 => ?_)))
  · replace h := z_ip c2 h
    refine z_iconst X (v := (-1)) dX9_selves_21 (by decide) ?_
    cases h; exact z_iret X rfl dX9_selves_22 ⟨rfl, rfl⟩
  · replace h := z_in c2 h
    obtain ⟨r3, u4, er3, h⟩ := z_b2s h
    refine z_aload_n X 0 dX9_selves_7 rfl rfl (z_getR X (k0 := 8) z_c80 rfl in_X9_selves_X9 (by decide) rfl rfl lk_X9_selves_67 dX9_selves_8 (z_aload_n X 0 dX9_selves_11 rfl rfl (z_getR X (k0 := 1) z_c80 rfl in_X9_selves_X9 (by decide) rfl rfl lk_X9_selves_21 dX9_selves_12 (z_callVi X (r := r3) (u1 := u4) [.ref (z_ad g 0)] [] (w_X4_selvesOf l g 0 z_po_0 u er3) z_c138 rfl gX9_selves_X4_selvesOf hy_X4_selvesOf rfl (z_le1 hR (by decide)) (z_le2 hR (by decide) (by decide)) (Nat.le_of_ble_eq_true rfl) dX9_selves_15 (z_goto X 22 dX9_selves_18 (by decide) ?_)))))
    cases h; exact z_iret X rfl dX9_selves_22 ⟨rfl, rfl⟩

theorem lk_X9_like_67 : (Cond.fieldLink RX9 67 RX9 (TX9 8).2.1 (TX9 8).2.2.1) ∈ wsX9_like := by decide +kernel
theorem in_X9_like_X9 : ∀ w ∈ u_ws RX9 TX9 9, w ∈ wsX9_like := fun _ h => List.mem_cons_of_mem _ (List.mem_append_left _ (List.mem_append_left _ (List.mem_append_right _ h)))
theorem lk_X9_like_21 : (Cond.fieldLink RX9 21 RX9 (TX9 1).2.1 (TX9 1).2.2.1) ∈ wsX9_like := by decide +kernel
theorem lk_X9_like_32 : (Cond.fieldLink RX9 32 RX9 (TX9 3).2.1 (TX9 3).2.2.1) ∈ wsX9_like := by decide +kernel
theorem hy_X4_isLike : yX4_isLike.cls = RX4 ∧ yX4_isLike.cls ≠ "java/lang/invoke/MethodHandle" ∧ yX4_isLike.cls ≠ "java/lang/invoke/VarHandle" ∧ (parseMethodDescriptor yX4_isLike.desc).map (fun d => d.parameters.length) = some 2 := by decide +kernel
def f_X9_like (a1 : Int32) (u : z_M) : Option (Int32 × z_M) :=
  Option.bind (f_X9_isKept a1 u) (fun r1 => if r1 = 0 then (some ((-1), u)) else (z_gd (z_inb a1 2) (z_b2 (f_X4_isLike 0 (8 + 4 * a1.toNatClampNeg) u) (fun r4 u5 => Option.bind (f_X9_asNumber r4) (fun r6 => some (r6, u5))))))
set_option maxRecDepth 20000 in
set_option maxHeartbeats 4000000 in
theorem w_X9_like (l : Launch) (g : z_G) (a1 : Int32) (u : z_M) {res : Int32 × z_M} (h : f_X9_like a1 u = some res) : z_C l g z_shC yX9_like wsX9_like 21 [.ref (z_ad g 80), .int a1] u (fun v u' => v = some (.int res.1) ∧ u' = res.2) := by
  refine z_C.mk (lv := [(0, .ref (z_ad g 80)), (1, .int a1)]) (cc := cX9_like) (nL := 2) (rt := (some .int)) rfl (by decide) (Nat.le_of_ble_eq_true rfl) rfl (fun p e R s m args below meth c hR X => ?_)
  unfold f_X9_like at h
  obtain ⟨r1, er1, h⟩ := z_bs h
  refine z_aload_n X 0 dX9_like_0 rfl rfl (z_iload_n X 1 dX9_like_1 rfl rfl (z_callVi X (r := r1) (u1 := u) [.int a1] [] (w_X9_isKept l g a1 u er1) z_c80 rfl gX9_like_X9_isKept hy_X9_isKept rfl (z_le1 hR (by decide)) (z_le2 hR (by decide) (by decide)) (Nat.le_of_ble_eq_true rfl) dX9_like_2 (z_if_ne X 10 dX9_like_5 (by decide) (fun c2 => ?_) (fun c2 => ?_))))
  · replace h := z_in c2 h
    obtain ⟨b3, h⟩ := z_gs h
    obtain ⟨r4, u5, er4, h⟩ := z_b2s h
    obtain ⟨r6, er6, h⟩ := z_bs h
    refine z_aload_n X 0 dX9_like_10 rfl rfl (z_getR X (k0 := 8) z_c80 rfl in_X9_like_X9 (by decide) rfl rfl lk_X9_like_67 dX9_like_11 (z_aload_n X 0 dX9_like_14 rfl rfl (z_getR X (k0 := 1) z_c80 rfl in_X9_like_X9 (by decide) rfl rfl lk_X9_like_21 dX9_like_15 (z_aload_n X 0 dX9_like_18 rfl rfl (z_getR X (k0 := 3) z_c80 rfl in_X9_like_X9 (by decide) rfl rfl lk_X9_like_32 dX9_like_19 (z_iload_n X 1 dX9_like_22 rfl rfl (z_aalP X z_c85 (z_inS b3) dX9_like_23 (z_callVi X (r := r4) (u1 := u5) [.ref (z_ad g 0), .ref (z_ad g (8 + 4 * a1.toNatClampNeg))] [] (w_X4_isLike l g 0 (8 + 4 * a1.toNatClampNeg) z_po_0 (z_po_kept (z_inS b3)) u er4) z_c138 rfl gX9_like_X4_isLike hy_X4_isLike rfl (z_le1 hR (by decide)) (z_le2 hR (by decide) (by decide)) (Nat.le_of_ble_eq_true rfl) dX9_like_24 (z_callSi X (r := r6) (u1 := u5) [.int r4] [] (w_X9_asNumber l g r4 u5 er6) gX9_like_X9_asNumber hy_X9_asNumber.2 rfl (z_le1 hR (by decide)) (z_le2 hR (by decide) (by decide)) (Nat.le_of_ble_eq_true rfl) dX9_like_27 ?_)))))))))
    cases h; exact z_iret X rfl dX9_like_30 ⟨rfl, rfl⟩
  · replace h := z_ip c2 h
    refine z_iconst X (v := (-1)) dX9_like_8 (by decide) ?_
    cases h; exact z_iret X rfl dX9_like_9 ⟨rfl, rfl⟩

theorem lk_X9_count_21 : (Cond.fieldLink RX9 21 RX9 (TX9 1).2.1 (TX9 1).2.2.1) ∈ wsX9_count := by decide +kernel
theorem in_X9_count_X9 : ∀ w ∈ u_ws RX9 TX9 9, w ∈ wsX9_count := fun _ h => List.mem_cons_of_mem _ (List.mem_append_left _ (List.mem_append_left _ (List.mem_append_left _ (List.mem_append_right _ h))))
theorem lk_X9_count_341 : (Cond.fieldLink RX9 341 RX6 (TX6 0).2.1 (TX6 0).2.2.1) ∈ wsX9_count := by decide +kernel
theorem in_X9_count_X6 : ∀ w ∈ u_ws RX6 TX6 6, w ∈ wsX9_count := fun _ h => List.mem_cons_of_mem _ (List.mem_append_left _ (List.mem_append_left _ (List.mem_append_right _ h)))
theorem lk_X9_count_136 : (Cond.fieldLink RX9 136 RX6 (TX6 1).2.1 (TX6 1).2.2.1) ∈ wsX9_count := by decide +kernel
theorem lk_X9_count_133 : (Cond.fieldLink RX9 133 RX6 (TX6 2).2.1 (TX6 2).2.2.1) ∈ wsX9_count := by decide +kernel
theorem lk_X9_count_28 : (Cond.fieldLink RX9 28 RX9 (TX9 2).2.1 (TX9 2).2.2.1) ∈ wsX9_count := by decide +kernel
theorem lk_X9_count_149 : (Cond.fieldLink RX9 149 RX5 (TX5 2).2.1 (TX5 2).2.2.1) ∈ wsX9_count := by decide +kernel
theorem in_X9_count_X5 : ∀ w ∈ u_ws RX5 TX5 3, w ∈ wsX9_count := fun _ h => List.mem_cons_of_mem _ (List.mem_append_left _ (List.mem_append_right _ h))
theorem lk_X9_count_14 : (Cond.fieldLink RX9 14 RX9 (TX9 0).2.1 (TX9 0).2.2.1) ∈ wsX9_count := by decide +kernel
theorem lk_X9_count_347 : (Cond.fieldLink RX9 347 RX7 (TX7 1).2.1 (TX7 1).2.2.1) ∈ wsX9_count := by decide +kernel
theorem in_X9_count_X7 : ∀ w ∈ u_ws RX7 TX7 11, w ∈ wsX9_count := fun _ h => List.mem_cons_of_mem _ (List.mem_append_right _ h)
theorem hy_X6_edges : yX6_edges.cls = RX6 ∧ yX6_edges.cls ≠ "java/lang/invoke/MethodHandle" ∧ yX6_edges.cls ≠ "java/lang/invoke/VarHandle" ∧ (parseMethodDescriptor yX6_edges.desc).map (fun d => d.parameters.length) = some 0 := by decide +kernel
def f_X9_count (a1 : Int32) (u : z_M) : Option (Int32) :=
  if a1 = 0 then (some (z_gI u 0 0)) else (if a1 = 1 then (some (z_gI u 0 1)) else (if a1 = 2 then (Option.bind (f_X6_pairs 0 u) (fun r1 => some r1)) else (if a1 = 3 then (Option.bind (f_X6_edges 0 u) (fun r2 => some r2)) else (if a1 = 4 then (some (z_gI u 0 2)) else (if a1 = 5 then (some (z_gI u 83 2)) else (if a1 = 6 then (some (z_gI u 81 1)) else (some (-1))))))))
set_option maxRecDepth 20000 in
set_option maxHeartbeats 4000000 in
theorem w_X9_count (l : Launch) (g : z_G) (a1 : Int32) (u : z_M) {res : Int32} (h : f_X9_count a1 u = some res) : z_C l g z_shC yX9_count wsX9_count 5 [.ref (z_ad g 80), .int a1] u (fun v u' => v = some (.int res) ∧ u' = u) := by
  refine z_C.mk (lv := [(0, .ref (z_ad g 80)), (1, .int a1)]) (cc := cX9_count) (nL := 2) (rt := (some .int)) rfl (by decide) (Nat.le_of_ble_eq_true rfl) rfl (fun p e R s m args below meth c hR X => ?_)
  unfold f_X9_count at h
  refine z_iload_n X 1 dX9_count_0 rfl rfl ?_
  by_cases c3 : a1 = 0
  · replace h := z_ip c3 h
    refine z_tabIn X 44 dX9_count_1 (by rw [c3]; decide) (by rw [c3]; decide) (by rw [c3]; rfl) (by decide) ?_
    refine z_aload_n X 0 dX9_count_44 rfl rfl (z_getR X (k0 := 1) z_c80 rfl in_X9_count_X9 (by decide) rfl rfl lk_X9_count_21 dX9_count_45 (z_getI X (k0 := 0) (z_po z_po_0) rfl in_X9_count_X6 (by decide) rfl rfl lk_X9_count_341 dX9_count_48 ?_))
    cases h; exact z_iret X rfl dX9_count_51 ⟨rfl, rfl⟩
  replace h := z_in c3 h
  by_cases c4 : a1 = 1
  · replace h := z_ip c4 h
    refine z_tabIn X 52 dX9_count_1 (by rw [c4]; decide) (by rw [c4]; decide) (by rw [c4]; rfl) (by decide) ?_
    refine z_aload_n X 0 dX9_count_52 rfl rfl (z_getR X (k0 := 1) z_c80 rfl in_X9_count_X9 (by decide) rfl rfl lk_X9_count_21 dX9_count_53 (z_getI X (k0 := 1) (z_po z_po_0) rfl in_X9_count_X6 (by decide) rfl rfl lk_X9_count_136 dX9_count_56 ?_))
    cases h; exact z_iret X rfl dX9_count_59 ⟨rfl, rfl⟩
  replace h := z_in c4 h
  by_cases c5 : a1 = 2
  · replace h := z_ip c5 h
    refine z_tabIn X 60 dX9_count_1 (by rw [c5]; decide) (by rw [c5]; decide) (by rw [c5]; rfl) (by decide) ?_
    obtain ⟨r1, er1, h⟩ := z_bs h
    refine z_aload_n X 0 dX9_count_60 rfl rfl (z_getR X (k0 := 1) z_c80 rfl in_X9_count_X9 (by decide) rfl rfl lk_X9_count_21 dX9_count_61 (z_callVi X (r := r1) (u1 := u) [] [] (w_X6_pairs l g 0 z_po_0 u er1) (z_po z_po_0) rfl gX9_count_X6_pairs hy_X6_pairs rfl (z_le1 hR (by decide)) (z_le2 hR (by decide) (by decide)) (Nat.le_of_ble_eq_true rfl) dX9_count_64 ?_))
    cases h; exact z_iret X rfl dX9_count_67 ⟨rfl, rfl⟩
  replace h := z_in c5 h
  by_cases c6 : a1 = 3
  · replace h := z_ip c6 h
    refine z_tabIn X 68 dX9_count_1 (by rw [c6]; decide) (by rw [c6]; decide) (by rw [c6]; rfl) (by decide) ?_
    obtain ⟨r2, er2, h⟩ := z_bs h
    refine z_aload_n X 0 dX9_count_68 rfl rfl (z_getR X (k0 := 1) z_c80 rfl in_X9_count_X9 (by decide) rfl rfl lk_X9_count_21 dX9_count_69 (z_callVi X (r := r2) (u1 := u) [] [] (w_X6_edges l g 0 z_po_0 u er2) (z_po z_po_0) rfl gX9_count_X6_edges hy_X6_edges rfl (z_le1 hR (by decide)) (z_le2 hR (by decide) (by decide)) (Nat.le_of_ble_eq_true rfl) dX9_count_72 ?_))
    cases h; exact z_iret X rfl dX9_count_75 ⟨rfl, rfl⟩
  replace h := z_in c6 h
  by_cases c7 : a1 = 4
  · replace h := z_ip c7 h
    refine z_tabIn X 76 dX9_count_1 (by rw [c7]; decide) (by rw [c7]; decide) (by rw [c7]; rfl) (by decide) ?_
    refine z_aload_n X 0 dX9_count_76 rfl rfl (z_getR X (k0 := 1) z_c80 rfl in_X9_count_X9 (by decide) rfl rfl lk_X9_count_21 dX9_count_77 (z_getI X (k0 := 2) (z_po z_po_0) rfl in_X9_count_X6 (by decide) rfl rfl lk_X9_count_133 dX9_count_80 ?_))
    cases h; exact z_iret X rfl dX9_count_83 ⟨rfl, rfl⟩
  replace h := z_in c7 h
  by_cases c8 : a1 = 5
  · replace h := z_ip c8 h
    refine z_tabIn X 84 dX9_count_1 (by rw [c8]; decide) (by rw [c8]; decide) (by rw [c8]; rfl) (by decide) ?_
    refine z_aload_n X 0 dX9_count_84 rfl rfl (z_getR X (k0 := 2) z_c80 rfl in_X9_count_X9 (by decide) rfl rfl lk_X9_count_28 dX9_count_85 (z_getI X (k0 := 2) z_c83 rfl in_X9_count_X5 (by decide) rfl rfl lk_X9_count_149 dX9_count_88 ?_))
    cases h; exact z_iret X rfl dX9_count_91 ⟨rfl, rfl⟩
  replace h := z_in c8 h
  by_cases c9 : a1 = 6
  · replace h := z_ip c9 h
    refine z_tabIn X 92 dX9_count_1 (by rw [c9]; decide) (by rw [c9]; decide) (by rw [c9]; rfl) (by decide) ?_
    refine z_aload_n X 0 dX9_count_92 rfl rfl (z_getR X (k0 := 0) z_c80 rfl in_X9_count_X9 (by decide) rfl rfl lk_X9_count_14 dX9_count_93 (z_getI X (k0 := 1) z_c81 rfl in_X9_count_X7 (by decide) rfl rfl lk_X9_count_347 dX9_count_96 ?_))
    cases h; exact z_iret X rfl dX9_count_99 ⟨rfl, rfl⟩
  replace h := z_in c9 h
  refine z_tabOut X 100 dX9_count_1 (by have kc3 := lv_neT (a := 0) c3 (by decide); have kc4 := lv_neT (a := 1) c4 (by decide); have kc5 := lv_neT (a := 2) c5 (by decide); have kc6 := lv_neT (a := 3) c6 (by decide); have kc7 := lv_neT (a := 4) c7 (by decide); have kc8 := lv_neT (a := 5) c8 (by decide); have kc9 := lv_neT (a := 6) c9 (by decide); omega) (by decide) ?_
  refine z_iconst X (v := (-1)) dX9_count_100 (by decide) ?_
  cases h; exact z_iret X rfl dX9_count_101 ⟨rfl, rfl⟩
