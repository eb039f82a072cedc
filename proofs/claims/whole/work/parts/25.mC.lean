theorem lk_X7_readLines_29 : (Cond.fieldLink RX7 29 RX7 (TX7 6).2.1 (TX7 6).2.2.1) ∈ wsX7_readLines := by decide +kernel
theorem in_X7_readLines_X7 : ∀ w ∈ u_ws RX7 TX7 11, w ∈ wsX7_readLines := fun _ h => List.mem_cons_of_mem _ (List.mem_append_left _ (List.mem_append_right _ h))
theorem lk_X7_readLines_32 : (Cond.fieldLink RX7 32 RX7 (TX7 3).2.1 (TX7 3).2.2.1) ∈ wsX7_readLines := by decide +kernel
theorem lk_X7_readLines_22 : (Cond.fieldLink RX7 22 RX7 (TX7 4).2.1 (TX7 4).2.2.1) ∈ wsX7_readLines := by decide +kernel
theorem lk_X7_readLines_35 : (Cond.fieldLink RX7 35 RX7 (TX7 5).2.1 (TX7 5).2.2.1) ∈ wsX7_readLines := by decide +kernel
theorem lk_X7_readLines_18 : (Cond.fieldLink RX7 18 RX7 (TX7 2).2.1 (TX7 2).2.2.1) ∈ wsX7_readLines := by decide +kernel
theorem lk_X7_readLines_50 : (Cond.fieldLink RX7 50 RX7 (TX7 7).2.1 (TX7 7).2.2.1) ∈ wsX7_readLines := by decide +kernel
theorem hy_X7_readLine : yX7_readLine.cls = RX7 ∧ yX7_readLine.cls ≠ "java/lang/invoke/MethodHandle" ∧ yX7_readLine.cls ≠ "java/lang/invoke/VarHandle" ∧ (parseMethodDescriptor yX7_readLine.desc).map (fun d => d.parameters.length) = some 1 := by decide +kernel
def j_X7_readLines_j52 (x1 : Int32) (x90 : Int32) (w : z_M) (kb : (Int32 × z_M) → Option (Int32 × z_M)) (kx : z_M → Option (Int32 × z_M)) : Option (Int32 × z_M) :=
  z_b2 (f_X7_readLine x90 w) (fun r9 u10 => if r9 = 0 then (some ((-1), u10)) else (if (z_gI u10 81 7) = 0 then (some (x1, u10)) else (if (z_gI u10 81 7) = 5 then (kb (x1 + 1, u10)) else (z_b2 (f_X7_refuse 1 u10) (fun r14 u15 => some ((-1), u15))))))
def b_X7_readLines_30  : (Int32 × z_M) → ((Int32 × z_M) → Option (Int32 × z_M)) → (z_M → Option (Int32 × z_M)) → Option (Int32 × z_M) := fun q kb kx =>
  if 400 < q.1 then (kx q.2) else (Option.bind (f_X7_nextToken q.2) (fun r7 => if q.1 = 1 then (j_X7_readLines_j52 q.1 1 r7 kb kx) else (j_X7_readLines_j52 q.1 0 r7 kb kx)))
def f_X7_readLines (u : z_M) : Option (Int32 × z_M) :=
  z_lt (z_sI u 81 6 0) (fun u1 => z_lt (z_sI u1 81 3 0) (fun u2 => z_lt (z_sI u2 81 4 (-1)) (fun u3 => z_lt (z_sI u3 81 5 0) (fun u4 => Option.bind (f_X6_begin 4 0 u4) (fun r5 => z_lp b_X7_readLines_30 z_F (1, r5) (fun t16 => some ((-1), t16)))))))
set_option maxRecDepth 20000 in
set_option maxHeartbeats 4000000 in
theorem wj_X7_readLines_j52 {p : Program} {l : Launch} {e : Env} {R : Room} {s : State} {m : MethodId} {args : Array Value} {below : List Frame} {meth : Method} {c : Code} {g : z_G} {u : z_M} {res : Int32 × z_M} (hR : R = z_rm 12) (X : z_X p R s m args meth c cX7_readLines 2 RX7 wsX7_readLines (some .int) g z_shC) (x1 : Int32) (x90 : Int32) (w : z_M) (kb : (Int32 × z_M) → Option (Int32 × z_M)) (kx : z_M → Option (Int32 × z_M)) (hkb : ∀ q, kb q = some res → z_V p l e R s m args below meth c 2 g z_shC (MQ below (z_Qc g z_shC (fun v u' => v = some (.int res.1) ∧ u' = res.2)) args s 0 0 (z_A g z_shC)) 30 [(0, .ref (z_ad g 81)), (1, .int q.1)] [] q.2) (hkx : ∀ t, kx t = some res → z_V p l e R s m args below meth c 2 g z_shC (MQ below (z_Qc g z_shC (fun v u' => v = some (.int res.1) ∧ u' = res.2)) args s 0 0 (z_A g z_shC)) 91 [] [] t) (h : j_X7_readLines_j52 x1 x90 w kb kx = some res) : z_V p l e R s m args below meth c 2 g z_shC (MQ below (z_Qc g z_shC (fun v u' => v = some (.int res.1) ∧ u' = res.2)) args s 0 0 (z_A g z_shC)) 52 [(0, .ref (z_ad g 81)), (1, .int x1)] [.int x90, .ref (z_ad g 81)] w := by
  unfold j_X7_readLines_j52 at h
  obtain ⟨r9, u10, er9, h⟩ := z_b2s h
  refine z_callVi X (r := r9) (u1 := u10) [.int x90] [] (w_X7_readLine l g x90 w er9) z_c81 rfl gX7_readLines_X7_readLine hy_X7_readLine rfl (z_le1 hR (by decide)) (z_le2 hR (by decide) (by decide)) (Nat.le_of_ble_eq_true rfl) dX7_readLines_52 (z_if_ne X 60 dX7_readLines_55 (by decide) (fun c11 => ?_) (fun c11 => ?_))
  · replace h := z_in c11 h
    refine z_aload_n X 0 dX7_readLines_60 rfl rfl (z_getI X (k0 := 7) z_c81 rfl in_X7_readLines_X7 (by decide) rfl rfl lk_X7_readLines_50 dX7_readLines_61 (z_if_ne X 69 dX7_readLines_64 (by decide) (fun c12 => ?_) (fun c12 => ?_)))
    · replace h := z_in c12 h
      refine z_aload_n X 0 dX7_readLines_69 rfl rfl (z_getI X (k0 := 7) z_c81 rfl in_X7_readLines_X7 (by decide) rfl rfl lk_X7_readLines_50 dX7_readLines_70 (z_iconst X (v := 5) dX7_readLines_73 (by decide) (z_icmp_eq X 85 dX7_readLines_74 (by decide) (fun c13 => ?_) (fun c13 => ?_))))
      · replace h := z_ip c13 h
        refine z_iinc X (v := x1 + 1) 1 [(1, .int (x1 + 1)), (0, .ref (z_ad g 81))] dX7_readLines_85 rfl rfl (by decide) rfl (z_goto X 30 dX7_readLines_88 (by decide) (z_sub [1, 0] [(0, .ref (z_ad g 81)), (1, .int (x1 + 1))] rfl ?_))
        exact hkb (x1 + 1, u10) h
      · replace h := z_in c13 h
        obtain ⟨r14, u15, er14, h⟩ := z_b2s h
        refine z_aload_n X 0 dX7_readLines_77 rfl rfl (z_iconst X (v := 1) dX7_readLines_78 (by decide) (z_callVi X (r := r14) (u1 := u15) [.int 1] [] (w_X7_refuse l g 1 u10 er14) z_c81 rfl gX7_readLines_X7_refuse hy_X7_refuse rfl (z_le1 hR (by decide)) (z_le2 hR (by decide) (by decide)) (Nat.le_of_ble_eq_true rfl) dX7_readLines_79 (z_pop X dX7_readLines_82 rfl (z_iconst X (v := (-1)) dX7_readLines_83 (by decide) ?_))))
        cases h; exact z_iret X rfl dX7_readLines_84 ⟨rfl, rfl⟩
    · replace h := z_ip c12 h
      refine z_iload_n X 1 dX7_readLines_67 rfl rfl ?_
      cases h; exact z_iret X rfl dX7_readLines_68 ⟨rfl, rfl⟩
  · replace h := z_ip c11 h
    refine z_iconst X (v := (-1)) dX7_readLines_58 (by decide) ?_
    cases h; exact z_iret X rfl dX7_readLines_59 ⟨rfl, rfl⟩
set_option maxRecDepth 20000 in
set_option maxHeartbeats 4000000 in
theorem wb_X7_readLines_30 {p : Program} {l : Launch} {e : Env} {R : Room} {s : State} {m : MethodId} {args : Array Value} {below : List Frame} {meth : Method} {c : Code} {g : z_G} {u : z_M} {res : Int32 × z_M} (hR : R = z_rm 12) (X : z_X p R s m args meth c cX7_readLines 2 RX7 wsX7_readLines (some .int) g z_shC)  (q : Int32 × z_M) (kb : (Int32 × z_M) → Option (Int32 × z_M)) (kx : z_M → Option (Int32 × z_M)) (hkb : ∀ q, kb q = some res → z_V p l e R s m args below meth c 2 g z_shC (MQ below (z_Qc g z_shC (fun v u' => v = some (.int res.1) ∧ u' = res.2)) args s 0 0 (z_A g z_shC)) 30 [(0, .ref (z_ad g 81)), (1, .int q.1)] [] q.2) (hkx : ∀ t, kx t = some res → z_V p l e R s m args below meth c 2 g z_shC (MQ below (z_Qc g z_shC (fun v u' => v = some (.int res.1) ∧ u' = res.2)) args s 0 0 (z_A g z_shC)) 91 [] [] t) (h : b_X7_readLines_30 q kb kx = some res) : z_V p l e R s m args below meth c 2 g z_shC (MQ below (z_Qc g z_shC (fun v u' => v = some (.int res.1) ∧ u' = res.2)) args s 0 0 (z_A g z_shC)) 30 [(0, .ref (z_ad g 81)), (1, .int q.1)] [] q.2 := by
  unfold b_X7_readLines_30 at h
  refine z_iload_n X 1 dX7_readLines_30 rfl rfl (z_sipush X (v := 400) dX7_readLines_31 (by decide) (z_icmp_gt X 91 dX7_readLines_34 (by decide) (fun c6 => ?_) (fun c6 => ?_)))
  · replace h := z_ip c6 h
    refine z_sub [] [] rfl ?_
    exact hkx q.2 h
  · replace h := z_in c6 h
    obtain ⟨r7, er7, h⟩ := z_bs h
    refine z_aload_n X 0 dX7_readLines_37 rfl rfl (z_callVv X (u1 := r7) [] [] (w_X7_nextToken l g q.2 er7) z_c81 rfl gX7_readLines_X7_nextToken hy_X7_nextToken rfl (z_le1 hR (by decide)) (z_le2 hR (by decide) (by decide)) (Nat.le_of_ble_eq_true rfl) dX7_readLines_38 (z_aload_n X 0 dX7_readLines_41 rfl rfl (z_iload_n X 1 dX7_readLines_42 rfl rfl (z_iconst X (v := 1) dX7_readLines_43 (by decide) (z_icmp_ne X 51 dX7_readLines_44 (by decide) (fun c8 => ?_) (fun c8 => ?_))))))
    · replace h := z_in c8 h
      refine z_iconst X (v := 0) dX7_readLines_51 (by decide) ?_
      exact wj_X7_readLines_j52 (u := r7) hR X q.1 0 r7 kb kx hkb hkx h
    · replace h := z_ip c8 h
      refine z_iconst X (v := 1) dX7_readLines_47 (by decide) (z_goto X 52 dX7_readLines_48 (by decide) ?_)
      exact wj_X7_readLines_j52 (u := r7) hR X q.1 1 r7 kb kx hkb hkx h
set_option maxRecDepth 20000 in
set_option maxHeartbeats 4000000 in
theorem w_X7_readLines (l : Launch) (g : z_G)  (u : z_M) {res : Int32 × z_M} (h : f_X7_readLines u = some res) : z_C l g z_shC yX7_readLines wsX7_readLines 12 [.ref (z_ad g 81)] u (fun v u' => v = some (.int res.1) ∧ u' = res.2) := by
  refine z_C.mk (lv := [(0, .ref (z_ad g 81))]) (cc := cX7_readLines) (nL := 2) (rt := (some .int)) rfl (by decide) (Nat.le_of_ble_eq_true rfl) rfl (fun p e R s m args below meth c hR X => ?_)
  unfold f_X7_readLines at h
  obtain ⟨u1, eu1, h⟩ := z_ls h
  obtain ⟨u2, eu2, h⟩ := z_ls h
  obtain ⟨u3, eu3, h⟩ := z_ls h
  obtain ⟨u4, eu4, h⟩ := z_ls h
  obtain ⟨r5, er5, h⟩ := z_bs h
  refine z_aload_n X 0 dX7_readLines_0 rfl rfl (z_iconst X (v := 0) dX7_readLines_1 (by decide) (z_putI X (k0 := 6) (ty0 := tyX7) z_c81 rfl in_X7_readLines_X7 tyX7_ok nmX7 (by decide) rfl rfl rfl rfl rfl lk_X7_readLines_29 dX7_readLines_2 (z_nm eu1 (z_aload_n X 0 dX7_readLines_5 rfl rfl (z_iconst X (v := 0) dX7_readLines_6 (by decide) (z_putI X (k0 := 3) (ty0 := tyX7) z_c81 rfl in_X7_readLines_X7 tyX7_ok nmX7 (by decide) rfl rfl rfl rfl rfl lk_X7_readLines_32 dX7_readLines_7 (z_nm eu2 (z_aload_n X 0 dX7_readLines_10 rfl rfl (z_iconst X (v := (-1)) dX7_readLines_11 (by decide) (z_putI X (k0 := 4) (ty0 := tyX7) z_c81 rfl in_X7_readLines_X7 tyX7_ok nmX7 (by decide) rfl rfl rfl rfl rfl lk_X7_readLines_22 dX7_readLines_12 (z_nm eu3 (z_aload_n X 0 dX7_readLines_15 rfl rfl (z_iconst X (v := 0) dX7_readLines_16 (by decide) (z_putI X (k0 := 5) (ty0 := tyX7) z_c81 rfl in_X7_readLines_X7 tyX7_ok nmX7 (by decide) rfl rfl rfl rfl rfl lk_X7_readLines_35 dX7_readLines_17 (z_nm eu4 (z_aload_n X 0 dX7_readLines_20 rfl rfl (z_getR X (k0 := 2) z_c81 rfl in_X7_readLines_X7 (by decide) rfl rfl lk_X7_readLines_18 dX7_readLines_21 (z_iconst X (v := 0) dX7_readLines_24 (by decide) (z_callVv X (u1 := r5) [.int 0] [] (w_X6_begin l g 4 0 z_po_4 u4 er5) (z_po z_po_4) rfl gX7_readLines_X6_begin hy_X6_begin rfl (z_le1 hR (by decide)) (z_le2 hR (by decide) (by decide)) (Nat.le_of_ble_eq_true rfl) dX7_readLines_25 (z_iconst X (v := 1) dX7_readLines_28 (by decide) (z_istore_n X [(1, .int 1), (0, .ref (z_ad g 81))] dX7_readLines_29 rfl (by decide) rfl (z_sub [1, 0] [(0, .ref (z_ad g 81)), (1, .int 1)] rfl ?_))))))))))))))))))))))
  have hw := z_lp_w (fun q9 kb9 kx9 h1 h2 h3 => wb_X7_readLines_30 (l := l) (e := e) (below := below) (u := r5) hR X q9 kb9 kx9 h1 h2 h3) z_F _ _ h
  refine hw (fun t16 h => ?_)
  refine z_iconst X (v := (-1)) dX7_readLines_91 (by decide) ?_
  cases h; exact z_iret X rfl dX7_readLines_92 ⟨rfl, rfl⟩

theorem lk_X8_measure_9 : (Cond.fieldLink RX8 9 RX8 (TX8 0).2.1 (TX8 0).2.2.1) ∈ wsX8_measure := by decide +kernel
theorem in_X8_measure_X8 : ∀ w ∈ u_ws RX8 TX8 5, w ∈ wsX8_measure := by decide +kernel
theorem ini_X9_isIn_X8_measure : Cond.initialized yX9_isIn.cls ∈ wsX8_measure := by decide +kernel
theorem sta_X9_isIn_X8_measure : Cond.static yX9_isIn ∈ wsX8_measure := by decide +kernel
theorem lk_X8_measure_15 : (Cond.fieldLink RX8 15 RX8 (TX8 1).2.1 (TX8 1).2.2.1) ∈ wsX8_measure := by decide +kernel
theorem lk_X8_measure_37 : (Cond.fieldLink RX8 37 RX6 (TX6 4).2.1 (TX6 4).2.2.1) ∈ wsX8_measure := by decide +kernel
theorem in_X8_measure_X6 : ∀ w ∈ u_ws RX6 TX6 6, w ∈ wsX8_measure := by decide +kernel
theorem ml40_X8_measure : Cond.methodLink RX8 40 Lib.Math.max.name ∈ wsX8_measure := by decide +kernel
theorem ms_max_X8_measure : Cond.static Lib.Math.max.name ∈ wsX8_measure := by decide +kernel
theorem mi_X8_measure : Cond.initialized "java/lang/Math" ∈ wsX8_measure := by decide +kernel
theorem mc_max_X8_measure : Cond.code Lib.Math.max.name Lib.Math.max.code 2 (some .int) ∈ wsX8_measure := by decide +kernel
theorem hy_X6_leastRow : yX6_leastRow.cls = RX6 ∧ yX6_leastRow.cls ≠ "java/lang/invoke/MethodHandle" ∧ yX6_leastRow.cls ≠ "java/lang/invoke/VarHandle" ∧ (parseMethodDescriptor yX6_leastRow.desc).map (fun d => d.parameters.length) = some 1 := by decide +kernel
def b_X8_measure_50 (x1 : Nat) (x2 : Int32) (x3 : Int32) (x4 : Int32) (x5 : Int32) : (Int32 × z_M) → ((Int32 × z_M) → Option (z_M)) → (z_M → Option (z_M)) → Option (z_M) := fun q kb kx =>
  if 9 ≤ q.1 then (kx q.2) else (z_gd (z_inb x5 9) (Option.bind (f_X9_isIn ((z_gI q.2 (x1 + 2) x5.toNatClampNeg) &&& x2) q.1) (fun r12 => if r12 = 0 then (kb (q.1 + 1, q.2)) else (z_gd (z_inb x5 9) (z_gd (z_inb q.1 9) (z_gd (z_inb x5 9) (z_lt (z_sI q.2 127 x5.toNatClampNeg (if (z_gI q.2 127 x5.toNatClampNeg) < ((z_gI q.2 127 q.1.toNatClampNeg) + 1) then (z_gI q.2 127 q.1.toNatClampNeg) + 1 else z_gI q.2 127 x5.toNatClampNeg)) (fun u17 => kb (q.1 + 1, u17)))))))))
def b_X8_measure_12 (x1 : Nat) (x2 : Int32) (x3 : Int32) : (Int32 × z_M) → ((Int32 × z_M) → Option (z_M)) → (z_M → Option (z_M)) → Option (z_M) := fun q kb kx =>
  if x3 ≤ q.1 then (kx q.2) else (z_gd (z_inb q.1 9) (z_lt (z_gI q.2 126 q.1.toNatClampNeg) (fun v5 => Option.bind (f_X9_isIn x2 v5) (fun r6 => if r6 = 0 then (kb (q.1 + 1, q.2)) else (z_gd (z_inb v5 9) (z_lt (z_sI q.2 127 v5.toNatClampNeg 0) (fun u9 => z_lp (b_X8_measure_50 x1 x2 x3 q.1 v5) z_F (0, u9) (fun t18 => kb (q.1 + 1, t18)))))))))
def f_X8_measure (a1 : Nat) (a2 : Int32) (u : z_M) : Option (z_M) :=
  z_b2 (f_X6_leastRow a1 126 9 u) (fun r1 u2 => z_lp (b_X8_measure_12 a1 a2 r1) z_F (0, u2) (fun t19 => some t19))
set_option maxRecDepth 20000 in
set_option maxHeartbeats 4000000 in
theorem wb_X8_measure_50 {p : Program} {l : Launch} {e : Env} {R : Room} {s : State} {m : MethodId} {args : Array Value} {below : List Frame} {meth : Method} {c : Code} {g : z_G} {u : z_M} {res : z_M} (hR : R = z_rm 4) (X : z_X p R s m args meth c cX8_measure 7 RX8 wsX8_measure none g z_shC) (x1 : Nat) (x2 : Int32) (x3 : Int32) (x4 : Int32) (x5 : Int32) (ex1 : z_PO x1) (q : Int32 × z_M) (kb : (Int32 × z_M) → Option (z_M)) (kx : z_M → Option (z_M)) (hkb : ∀ q, kb q = some res → z_V p l e R s m args below meth c 7 g z_shC (MQ below (z_Qc g z_shC (fun v u' => v = none ∧ u' = res)) args s 0 0 (z_A g z_shC)) 50 [(0, .ref (z_ad g 125)), (1, .ref (z_ad g x1)), (2, .int x2), (3, .int x3), (4, .int x4), (5, .int x5), (6, .int q.1)] [] q.2) (hkx : ∀ t, kx t = some res → z_V p l e R s m args below meth c 7 g z_shC (MQ below (z_Qc g z_shC (fun v u' => v = none ∧ u' = res)) args s 0 0 (z_A g z_shC)) 106 [(0, .ref (z_ad g 125)), (1, .ref (z_ad g x1)), (2, .int x2), (3, .int x3), (4, .int x4)] [] t) (h : b_X8_measure_50 x1 x2 x3 x4 x5 q kb kx = some res) : z_V p l e R s m args below meth c 7 g z_shC (MQ below (z_Qc g z_shC (fun v u' => v = none ∧ u' = res)) args s 0 0 (z_A g z_shC)) 50 [(0, .ref (z_ad g 125)), (1, .ref (z_ad g x1)), (2, .int x2), (3, .int x3), (4, .int x4), (5, .int x5), (6, .int q.1)] [] q.2 := by
  unfold b_X8_measure_50 at h
  refine z_iload X 6 dX8_measure_50 rfl (z_bipush X (v := 9) dX8_measure_52 (by decide) (z_icmp_ge X 106 dX8_measure_54 (by decide) (fun c10 => ?_) (fun c10 => ?_)))
  · replace h := z_ip c10 h
    refine z_sub [0, 1, 2, 3, 4] [(0, .ref (z_ad g 125)), (1, .ref (z_ad g x1)), (2, .int x2), (3, .int x3), (4, .int x4)] rfl ?_
    exact hkx q.2 h
  · replace h := z_in c10 h
    obtain ⟨b11, h⟩ := z_gs h
    obtain ⟨r12, er12, h⟩ := z_bs h
    refine z_aload_n X 1 dX8_measure_57 rfl rfl (z_getR X (k0 := 4) (z_po ex1) rfl in_X8_measure_X6 (by decide) rfl rfl lk_X8_measure_37 dX8_measure_58 (z_iload X 5 dX8_measure_61 rfl (z_iald X (z_poU ex1) (z_inS b11) dX8_measure_63 (z_iload_n X 2 dX8_measure_64 rfl rfl (z_iand X dX8_measure_65 (z_iload X 6 dX8_measure_66 rfl (z_callNi X (r := r12) (u1 := q.2) [.int ((z_gI q.2 (x1 + 2) x5.toNatClampNeg) &&& x2), .int q.1] [] (w_X9_isIn l g ((z_gI q.2 (x1 + 2) x5.toNatClampNeg) &&& x2) q.1 q.2 er12) gX8_measure_X9_isIn_n33 nn_X8 ini_X9_isIn_X8_measure sta_X9_isIn_X8_measure hy_X9_isIn.2 rfl (z_le1 hR (by decide)) (z_le2 hR (by decide) (by decide)) (Nat.le_of_ble_eq_true rfl) dX8_measure_68 (z_if_eq X 100 dX8_measure_71 (by decide) (fun c13 => ?_) (fun c13 => ?_)))))))))
    · replace h := z_ip c13 h
      refine z_iinc X (v := q.1 + 1) 6 [(6, .int (q.1 + 1)), (0, .ref (z_ad g 125)), (1, .ref (z_ad g x1)), (2, .int x2), (3, .int x3), (4, .int x4), (5, .int x5)] dX8_measure_100 rfl rfl (by decide) rfl (z_goto X 50 dX8_measure_103 (by decide) (z_sub [1, 2, 3, 4, 5, 6, 0] [(0, .ref (z_ad g 125)), (1, .ref (z_ad g x1)), (2, .int x2), (3, .int x3), (4, .int x4), (5, .int x5), (6, .int (q.1 + 1))] rfl ?_))
      exact hkb (q.1 + 1, q.2) h
    · replace h := z_in c13 h
      obtain ⟨b14, h⟩ := z_gs h
      obtain ⟨b15, h⟩ := z_gs h
      obtain ⟨b16, h⟩ := z_gs h
      obtain ⟨u17, eu17, h⟩ := z_ls h
      refine z_aload_n X 0 dX8_measure_74 rfl rfl (z_getR X (k0 := 1) z_c125 rfl in_X8_measure_X8 (by decide) rfl rfl lk_X8_measure_15 dX8_measure_75 (z_iload X 5 dX8_measure_78 rfl (z_aload_n X 0 dX8_measure_80 rfl rfl (z_getR X (k0 := 1) z_c125 rfl in_X8_measure_X8 (by decide) rfl rfl lk_X8_measure_15 dX8_measure_81 (z_iload X 5 dX8_measure_84 rfl (z_iald X z_c127 (z_inS b14) dX8_measure_86 (z_aload_n X 0 dX8_measure_87 rfl rfl (z_getR X (k0 := 1) z_c125 rfl in_X8_measure_X8 (by decide) rfl rfl lk_X8_measure_15 dX8_measure_88 (z_iload X 6 dX8_measure_91 rfl (z_iald X z_c127 (z_inS b15) dX8_measure_93 (z_iconst X (v := 1) dX8_measure_94 (by decide) (z_iadd X dX8_measure_95 (z_mmax X ml40_X8_measure ms_max_X8_measure mi_X8_measure mc_max_X8_measure (z_le3 hR (by decide)) (z_le4 hR (by decide) (Nat.le_of_ble_eq_true rfl) (by decide)) dX8_measure_96 (z_iast X z_c127 (z_inS b16) dX8_measure_99 (z_nm eu17 (z_iinc X (v := q.1 + 1) 6 [(6, .int (q.1 + 1)), (0, .ref (z_ad g 125)), (1, .ref (z_ad g x1)), (2, .int x2), (3, .int x3), (4, .int x4), (5, .int x5)] dX8_measure_100 rfl rfl (by decide) rfl (z_goto X 50 dX8_measure_103 (by decide) (z_sub [1, 2, 3, 4, 5, 6, 0] [(0, .ref (z_ad g 125)), (1, .ref (z_ad g x1)), (2, .int x2), (3, .int x3), (4, .int x4), (5, .int x5), (6, .int (q.1 + 1))] rfl ?_))))))))))))))))))
      exact hkb (q.1 + 1, u17) h
set_option maxRecDepth 20000 in
set_option maxHeartbeats 4000000 in
theorem wb_X8_measure_12 {p : Program} {l : Launch} {e : Env} {R : Room} {s : State} {m : MethodId} {args : Array Value} {below : List Frame} {meth : Method} {c : Code} {g : z_G} {u : z_M} {res : z_M} (hR : R = z_rm 4) (X : z_X p R s m args meth c cX8_measure 7 RX8 wsX8_measure none g z_shC) (x1 : Nat) (x2 : Int32) (x3 : Int32) (ex1 : z_PO x1) (q : Int32 × z_M) (kb : (Int32 × z_M) → Option (z_M)) (kx : z_M → Option (z_M)) (hkb : ∀ q, kb q = some res → z_V p l e R s m args below meth c 7 g z_shC (MQ below (z_Qc g z_shC (fun v u' => v = none ∧ u' = res)) args s 0 0 (z_A g z_shC)) 12 [(0, .ref (z_ad g 125)), (1, .ref (z_ad g x1)), (2, .int x2), (3, .int x3), (4, .int q.1)] [] q.2) (hkx : ∀ t, kx t = some res → z_V p l e R s m args below meth c 7 g z_shC (MQ below (z_Qc g z_shC (fun v u' => v = none ∧ u' = res)) args s 0 0 (z_A g z_shC)) 112 [] [] t) (h : b_X8_measure_12 x1 x2 x3 q kb kx = some res) : z_V p l e R s m args below meth c 7 g z_shC (MQ below (z_Qc g z_shC (fun v u' => v = none ∧ u' = res)) args s 0 0 (z_A g z_shC)) 12 [(0, .ref (z_ad g 125)), (1, .ref (z_ad g x1)), (2, .int x2), (3, .int x3), (4, .int q.1)] [] q.2 := by
  unfold b_X8_measure_12 at h
  refine z_iload X 4 dX8_measure_12 rfl (z_iload_n X 3 dX8_measure_14 rfl rfl (z_icmp_ge X 112 dX8_measure_15 (by decide) (fun c3 => ?_) (fun c3 => ?_)))
  · replace h := z_ip c3 h
    refine z_sub [] [] rfl ?_
    exact hkx q.2 h
  · replace h := z_in c3 h
    obtain ⟨b4, h⟩ := z_gs h
    obtain ⟨v5, ev5, h⟩ := z_ls h
    obtain ⟨r6, er6, h⟩ := z_bs h
    refine z_aload_n X 0 dX8_measure_18 rfl rfl (z_getR X (k0 := 0) z_c125 rfl in_X8_measure_X8 (by decide) rfl rfl lk_X8_measure_9 dX8_measure_19 (z_iload X 4 dX8_measure_22 rfl (z_iald X z_c126 (z_inS b4) dX8_measure_24 (z_ti ev5 (z_istore X [(5, .int v5), (0, .ref (z_ad g 125)), (1, .ref (z_ad g x1)), (2, .int x2), (3, .int x3), (4, .int q.1)] dX8_measure_25 (by decide) rfl (z_iload_n X 3 dX8_measure_27 rfl rfl (z_iload X 0 dX8_measure_28 rfl (z_callNi X (r := r6) (u1 := q.2) [.int x2, .int v5] [] (w_X9_isIn l g x2 v5 q.2 er6) gX8_measure_X9_isIn_n33 nn_X8 ini_X9_isIn_X8_measure sta_X9_isIn_X8_measure hy_X9_isIn.2 rfl (z_le1 hR (by decide)) (z_le2 hR (by decide) (by decide)) (Nat.le_of_ble_eq_true rfl) dX8_measure_30 (z_if_ne X 39 dX8_measure_33 (by decide) (fun c7 => ?_) (fun c7 => ?_))))))))))
    · replace h := z_in c7 h
      obtain ⟨b8, h⟩ := z_gs h
      obtain ⟨u9, eu9, h⟩ := z_ls h
      refine z_aload_n X 1 dX8_measure_39 rfl rfl (z_getR X (k0 := 1) z_c125 rfl in_X8_measure_X8 (by decide) rfl rfl lk_X8_measure_15 dX8_measure_40 (z_iload X 0 dX8_measure_43 rfl (z_iconst X (v := 0) dX8_measure_45 (by decide) (z_iast X z_c127 (z_inS b8) dX8_measure_46 (z_nm eu9 (z_iconst X (v := 0) dX8_measure_47 (by decide) (z_istore X [(6, .int 0), (5, .int v5), (0, .ref (z_ad g 125)), (1, .ref (z_ad g x1)), (2, .int x2), (3, .int x3), (4, .int q.1)] dX8_measure_48 (by decide) rfl (z_sub [2, 3, 4, 5, 6, 1, 0] [(0, .ref (z_ad g 125)), (1, .ref (z_ad g x1)), (2, .int x2), (3, .int x3), (4, .int q.1), (5, .int v5), (6, .int 0)] rfl ?_))))))))
      have hw := z_lp_w (fun q9 kb9 kx9 h1 h2 h3 => wb_X8_measure_50 (l := l) (e := e) (below := below) (u := u9) hR X x1 x2 x3 q.1 v5 ex1 q9 kb9 kx9 h1 h2 h3) z_F _ _ h
      refine hw (fun t18 h => ?_)
      refine z_iinc X (v := q.1 + 1) 4 [(4, .int (q.1 + 1)), (0, .ref (z_ad g 125)), (1, .ref (z_ad g x1)), (2, .int x2), (3, .int x3)] dX8_measure_106 rfl rfl (by decide) rfl (z_goto X 12 dX8_measure_109 (by decide) (z_sub [1, 2, 3, 4, 0] [(0, .ref (z_ad g 125)), (1, .ref (z_ad g x1)), (2, .int x2), (3, .int x3), (4, .int (q.1 + 1))] rfl ?_))
      exact hkb (q.1 + 1, t18) h
    · replace h := z_ip c7 h
      refine z_goto X 106 dX8_measure_36 (by decide) (z_iinc X (v := q.1 + 1) 5 [(4, .int (q.1 + 1)), (5, .int v5), (0, .ref (z_ad g 125)), (1, .ref (z_ad g x1)), (2, .int x2), (3, .int x3)] dX8_measure_106 rfl rfl (by decide) rfl (z_goto X 12 dX8_measure_109 (by decide) (z_sub [2, 3, 4, 5, 0] [(0, .ref (z_ad g 125)), (1, .ref (z_ad g x1)), (2, .int x2), (3, .int x3), (4, .int (q.1 + 1))] rfl ?_)))
      exact hkb (q.1 + 1, q.2) h
set_option maxRecDepth 20000 in
set_option maxHeartbeats 4000000 in
theorem w_X8_measure (l : Launch) (g : z_G) (a1 : Nat) (a2 : Int32) (ea1 : z_PO a1) (u : z_M) {res : z_M} (h : f_X8_measure a1 a2 u = some res) : z_C l g z_shC yX8_measure wsX8_measure 4 [.ref (z_ad g 125), .ref (z_ad g a1), .int a2] u (fun v u' => v = none ∧ u' = res) := by
  refine z_C.mk (lv := [(0, .ref (z_ad g 125)), (1, .ref (z_ad g a1)), (2, .int a2)]) (cc := cX8_measure) (nL := 7) (rt := none) rfl (by decide) (Nat.le_of_ble_eq_true rfl) rfl (fun p e R s m args below meth c hR X => ?_)
  unfold f_X8_measure at h
  obtain ⟨r1, u2, er1, h⟩ := z_b2s h
  refine z_aload_n X 1 dX8_measure_0 rfl rfl (z_aload_n X 0 dX8_measure_1 rfl rfl (z_getR X (k0 := 0) z_c125 rfl in_X8_measure_X8 (by decide) rfl rfl lk_X8_measure_9 dX8_measure_2 (z_callVi X (r := r1) (u1 := u2) [.ref (z_ad g 126)] [] (w_X6_leastRow l g a1 126 9 ea1 z_c126 u er1) (z_po ea1) rfl gX8_measure_X6_leastRow hy_X6_leastRow rfl (z_le1 hR (by decide)) (z_le2 hR (by decide) (by decide)) (Nat.le_of_ble_eq_true rfl) dX8_measure_5 (z_istore_n X [(3, .int r1), (0, .ref (z_ad g 125)), (1, .ref (z_ad g a1)), (2, .int a2)] dX8_measure_8 rfl (by decide) rfl (z_iconst X (v := 0) dX8_measure_9 (by decide) (z_istore X [(4, .int 0), (3, .int r1), (0, .ref (z_ad g 125)), (1, .ref (z_ad g a1)), (2, .int a2)] dX8_measure_10 (by decide) rfl (z_sub [2, 3, 4, 1, 0] [(0, .ref (z_ad g 125)), (1, .ref (z_ad g a1)), (2, .int a2), (3, .int r1), (4, .int 0)] rfl ?_)))))))
  have hw := z_lp_w (fun q9 kb9 kx9 h1 h2 h3 => wb_X8_measure_12 (l := l) (e := e) (below := below) (u := u2) hR X a1 a2 r1 ea1 q9 kb9 kx9 h1 h2 h3) z_F _ _ h
  refine hw (fun t19 h => ?_)
  cases h; exact z_vret X rfl dX8_measure_112 ⟨rfl, rfl⟩

theorem ini_X9_isIn_X8_valuesIn : Cond.initialized yX9_isIn.cls ∈ wsX8_valuesIn := by decide +kernel
theorem sta_X9_isIn_X8_valuesIn : Cond.static yX9_isIn ∈ wsX8_valuesIn := by decide +kernel
theorem lk_X8_valuesIn_18 : (Cond.fieldLink RX8 18 RX8 (TX8 2).2.1 (TX8 2).2.2.1) ∈ wsX8_valuesIn := by decide +kernel
theorem in_X8_valuesIn_X8 : ∀ w ∈ u_ws RX8 TX8 5, w ∈ wsX8_valuesIn := by decide +kernel
def b_X8_valuesIn_4 (x1 : Int32) (u : z_M) : (Int32 × Int32) → ((Int32 × Int32) → Option (Int32)) → (Int32 → Option (Int32)) → Option (Int32) := fun q kb kx =>
  if 9 ≤ q.2 then (kx q.1) else (Option.bind (f_X9_isIn x1 q.2) (fun r2 => if r2 = 0 then (kb (q.1, q.2 + 1)) else (z_gd (z_inb q.2 9) (z_lt (q.1 + (z_gI u 128 q.2.toNatClampNeg)) (fun v5 => kb (v5, q.2 + 1))))))
def f_X8_valuesIn (a1 : Int32) (u : z_M) : Option (Int32) :=
  z_lp (b_X8_valuesIn_4 a1 u) z_F (0, 0) (fun t6 => some t6)
set_option maxRecDepth 20000 in
set_option maxHeartbeats 4000000 in
theorem wb_X8_valuesIn_4 {p : Program} {l : Launch} {e : Env} {R : Room} {s : State} {m : MethodId} {args : Array Value} {below : List Frame} {meth : Method} {c : Code} {g : z_G} {u : z_M} {res : Int32} (hR : R = z_rm 2) (X : z_X p R s m args meth c cX8_valuesIn 4 RX8 wsX8_valuesIn (some .int) g z_shC) (x1 : Int32) (q : Int32 × Int32) (kb : (Int32 × Int32) → Option (Int32)) (kx : Int32 → Option (Int32)) (hkb : ∀ q, kb q = some res → z_V p l e R s m args below meth c 4 g z_shC (MQ below (z_Qc g z_shC (fun v u' => v = some (.int res) ∧ u' = u)) args s 0 0 (z_A g z_shC)) 4 [(0, .ref (z_ad g 125)), (1, .int x1), (2, .int q.1), (3, .int q.2)] [] u) (hkx : ∀ t, kx t = some res → z_V p l e R s m args below meth c 4 g z_shC (MQ below (z_Qc g z_shC (fun v u' => v = some (.int res) ∧ u' = u)) args s 0 0 (z_A g z_shC)) 33 [(2, .int t)] [] u) (h : b_X8_valuesIn_4 x1 u q kb kx = some res) : z_V p l e R s m args below meth c 4 g z_shC (MQ below (z_Qc g z_shC (fun v u' => v = some (.int res) ∧ u' = u)) args s 0 0 (z_A g z_shC)) 4 [(0, .ref (z_ad g 125)), (1, .int x1), (2, .int q.1), (3, .int q.2)] [] u := by
  unfold b_X8_valuesIn_4 at h
  refine z_iload_n X 3 dX8_valuesIn_4 rfl rfl (z_bipush X (v := 9) dX8_valuesIn_5 (by decide) (z_icmp_ge X 33 dX8_valuesIn_7 (by decide) (fun c1 => ?_) (fun c1 => ?_)))
  · replace h := z_ip c1 h
    refine z_sub [2] [(2, .int q.1)] rfl ?_
    exact hkx q.1 h
  · replace h := z_in c1 h
    obtain ⟨r2, er2, h⟩ := z_bs h
    refine z_iload_n X 1 dX8_valuesIn_10 rfl rfl (z_iload_n X 3 dX8_valuesIn_11 rfl rfl (z_callNi X (r := r2) (u1 := u) [.int x1, .int q.2] [] (w_X9_isIn l g x1 q.2 u er2) gX8_valuesIn_X9_isIn_n33 nn_X8 ini_X9_isIn_X8_valuesIn sta_X9_isIn_X8_valuesIn hy_X9_isIn.2 rfl (z_le1 hR (by decide)) (z_le2 hR (by decide) (by decide)) (Nat.le_of_ble_eq_true rfl) dX8_valuesIn_12 (z_if_eq X 27 dX8_valuesIn_15 (by decide) (fun c3 => ?_) (fun c3 => ?_))))
    · replace h := z_ip c3 h
      refine z_iinc X (v := q.2 + 1) 3 [(3, .int (q.2 + 1)), (0, .ref (z_ad g 125)), (1, .int x1), (2, .int q.1)] dX8_valuesIn_27 rfl rfl (by decide) rfl (z_goto X 4 dX8_valuesIn_30 (by decide) (z_sub [1, 2, 3, 0] [(0, .ref (z_ad g 125)), (1, .int x1), (2, .int q.1), (3, .int (q.2 + 1))] rfl ?_))
      exact hkb (q.1, q.2 + 1) h
    · replace h := z_in c3 h
      obtain ⟨b4, h⟩ := z_gs h
      obtain ⟨v5, ev5, h⟩ := z_ls h
      refine z_iload_n X 2 dX8_valuesIn_18 rfl rfl (z_aload_n X 0 dX8_valuesIn_19 rfl rfl (z_getR X (k0 := 2) z_c125 rfl in_X8_valuesIn_X8 (by decide) rfl rfl lk_X8_valuesIn_18 dX8_valuesIn_20 (z_iload_n X 3 dX8_valuesIn_23 rfl rfl (z_iald X z_c128 (z_inS b4) dX8_valuesIn_24 (z_iadd X dX8_valuesIn_25 (z_ti ev5 (z_istore_n X [(2, .int v5), (0, .ref (z_ad g 125)), (1, .int x1), (3, .int q.2)] dX8_valuesIn_26 rfl (by decide) rfl (z_iinc X (v := q.2 + 1) 3 [(3, .int (q.2 + 1)), (2, .int v5), (0, .ref (z_ad g 125)), (1, .int x1)] dX8_valuesIn_27 rfl rfl (by decide) rfl (z_goto X 4 dX8_valuesIn_30 (by decide) (z_sub [2, 3, 1, 0] [(0, .ref (z_ad g 125)), (1, .int x1), (2, .int v5), (3, .int (q.2 + 1))] rfl ?_))))))))))
      exact hkb (v5, q.2 + 1) h
set_option maxRecDepth 20000 in
set_option maxHeartbeats 4000000 in
theorem w_X8_valuesIn (l : Launch) (g : z_G) (a1 : Int32) (u : z_M) {res : Int32} (h : f_X8_valuesIn a1 u = some res) : z_C l g z_shC yX8_valuesIn wsX8_valuesIn 2 [.ref (z_ad g 125), .int a1] u (fun v u' => v = some (.int res) ∧ u' = u) := by
  refine z_C.mk (lv := [(0, .ref (z_ad g 125)), (1, .int a1)]) (cc := cX8_valuesIn) (nL := 4) (rt := (some .int)) rfl (by decide) (Nat.le_of_ble_eq_true rfl) rfl (fun p e R s m args below meth c hR X => ?_)
  unfold f_X8_valuesIn at h
  refine z_iconst X (v := 0) dX8_valuesIn_0 (by decide) (z_istore_n X [(2, .int 0), (0, .ref (z_ad g 125)), (1, .int a1)] dX8_valuesIn_1 rfl (by decide) rfl (z_iconst X (v := 0) dX8_valuesIn_2 (by decide) (z_istore_n X [(3, .int 0), (2, .int 0), (0, .ref (z_ad g 125)), (1, .int a1)] dX8_valuesIn_3 rfl (by decide) rfl (z_sub [2, 3, 1, 0] [(0, .ref (z_ad g 125)), (1, .int a1), (2, .int 0), (3, .int 0)] rfl ?_))))
  have hw := z_lp_w (fun q9 kb9 kx9 h1 h2 h3 => wb_X8_valuesIn_4 (l := l) (e := e) (below := below) (u := u) hR X a1 q9 kb9 kx9 h1 h2 h3) z_F _ _ h
  refine hw (fun t6 h => ?_)
  refine z_iload_n X 0 dX8_valuesIn_33 rfl rfl ?_
  cases h; exact z_iret X rfl dX8_valuesIn_34 ⟨rfl, rfl⟩

theorem lk_X8_mobius_9 : (Cond.fieldLink RX8 9 RX8 (TX8 0).2.1 (TX8 0).2.2.1) ∈ wsX8_mobius := by decide +kernel
theorem in_X8_mobius_X8 : ∀ w ∈ u_ws RX8 TX8 5, w ∈ wsX8_mobius := by decide +kernel
theorem ini_X9_isIn_X8_mobius : Cond.initialized yX9_isIn.cls ∈ wsX8_mobius := by decide +kernel
theorem sta_X9_isIn_X8_mobius : Cond.static yX9_isIn ∈ wsX8_mobius := by decide +kernel
theorem lk_X8_mobius_18 : (Cond.fieldLink RX8 18 RX8 (TX8 2).2.1 (TX8 2).2.2.1) ∈ wsX8_mobius := by decide +kernel
theorem lk_X8_mobius_37 : (Cond.fieldLink RX8 37 RX6 (TX6 4).2.1 (TX6 4).2.2.1) ∈ wsX8_mobius := by decide +kernel
theorem in_X8_mobius_X6 : ∀ w ∈ u_ws RX6 TX6 6, w ∈ wsX8_mobius := by decide +kernel
theorem hy_X8_valuesIn : yX8_valuesIn.cls = RX8 ∧ yX8_valuesIn.cls ≠ "java/lang/invoke/MethodHandle" ∧ yX8_valuesIn.cls ≠ "java/lang/invoke/VarHandle" ∧ (parseMethodDescriptor yX8_valuesIn.desc).map (fun d => d.parameters.length) = some 1 := by decide +kernel
def b_X8_mobius_13 (x1 : Nat) (x2 : Int32) (x3 : Int32) (x4 : Int32) (x5 : Int32) : (Int32 × z_M) → ((Int32 × z_M) → Option (Int32 × z_M)) → (z_M → Option (Int32 × z_M)) → Option (Int32 × z_M) := fun q kb kx =>
  if x5 ≤ q.1 then (kx q.2) else (z_gd (z_inb q.1 9) (z_lt (z_gI q.2 126 q.1.toNatClampNeg) (fun v5 => Option.bind (f_X9_isIn x4 v5) (fun r6 => if r6 = 0 then (kb (q.1 + 1, q.2)) else (if v5 = x2 then (z_gd (z_inb v5 9) (z_lt (z_sI q.2 128 v5.toNatClampNeg 1) (fun u10 => kb (q.1 + 1, u10)))) else (z_gd (z_inb v5 9) (Option.bind (f_X8_valuesIn ((z_gI q.2 (x1 + 2) v5.toNatClampNeg) &&& x4) q.2) (fun r12 => z_gd (z_inb v5 9) (z_lt (z_sI q.2 128 v5.toNatClampNeg (-r12)) (fun u14 => kb (q.1 + 1, u14)))))))))))
def f_X8_mobius (a1 : Nat) (a2 : Int32) (a3 : Int32) (a4 : Int32) (u : z_M) : Option (Int32 × z_M) :=
  z_b2 (f_X6_leastRow a1 126 9 u) (fun r1 u2 => z_lp (b_X8_mobius_13 a1 a2 a3 a4 r1) z_F (0, u2) (fun t15 => Option.bind (f_X9_isIn a4 a3) (fun r16 => if r16 = 0 then (some (0, t15)) else (z_gd (z_inb a3 9) (some (z_gI t15 128 a3.toNatClampNeg, t15))))))
set_option maxRecDepth 20000 in
set_option maxHeartbeats 4000000 in
theorem wb_X8_mobius_13 {p : Program} {l : Launch} {e : Env} {R : Room} {s : State} {m : MethodId} {args : Array Value} {below : List Frame} {meth : Method} {c : Code} {g : z_G} {u : z_M} {res : Int32 × z_M} (hR : R = z_rm 4) (X : z_X p R s m args meth c cX8_mobius 8 RX8 wsX8_mobius (some .int) g z_shC) (x1 : Nat) (x2 : Int32) (x3 : Int32) (x4 : Int32) (x5 : Int32) (ex1 : z_PO x1) (q : Int32 × z_M) (kb : (Int32 × z_M) → Option (Int32 × z_M)) (kx : z_M → Option (Int32 × z_M)) (hkb : ∀ q, kb q = some res → z_V p l e R s m args below meth c 8 g z_shC (MQ below (z_Qc g z_shC (fun v u' => v = some (.int res.1) ∧ u' = res.2)) args s 0 0 (z_A g z_shC)) 13 [(0, .ref (z_ad g 125)), (1, .ref (z_ad g x1)), (2, .int x2), (3, .int x3), (4, .int x4), (5, .int x5), (6, .int q.1)] [] q.2) (hkx : ∀ t, kx t = some res → z_V p l e R s m args below meth c 8 g z_shC (MQ below (z_Qc g z_shC (fun v u' => v = some (.int res.1) ∧ u' = res.2)) args s 0 0 (z_A g z_shC)) 77 [(0, .ref (z_ad g 125)), (3, .int x3), (4, .int x4)] [] t) (h : b_X8_mobius_13 x1 x2 x3 x4 x5 q kb kx = some res) : z_V p l e R s m args below meth c 8 g z_shC (MQ below (z_Qc g z_shC (fun v u' => v = some (.int res.1) ∧ u' = res.2)) args s 0 0 (z_A g z_shC)) 13 [(0, .ref (z_ad g 125)), (1, .ref (z_ad g x1)), (2, .int x2), (3, .int x3), (4, .int x4), (5, .int x5), (6, .int q.1)] [] q.2 := by
  unfold b_X8_mobius_13 at h
  refine z_iload X 6 dX8_mobius_13 rfl (z_iload X 5 dX8_mobius_15 rfl (z_icmp_ge X 77 dX8_mobius_17 (by decide) (fun c3 => ?_) (fun c3 => ?_)))
  · replace h := z_ip c3 h
    refine z_sub [0, 3, 4] [(0, .ref (z_ad g 125)), (3, .int x3), (4, .int x4)] rfl ?_
    exact hkx q.2 h
  · replace h := z_in c3 h
    obtain ⟨b4, h⟩ := z_gs h
    obtain ⟨v5, ev5, h⟩ := z_ls h
    obtain ⟨r6, er6, h⟩ := z_bs h
    refine z_aload_n X 0 dX8_mobius_20 rfl rfl (z_getR X (k0 := 0) z_c125 rfl in_X8_mobius_X8 (by decide) rfl rfl lk_X8_mobius_9 dX8_mobius_21 (z_iload X 6 dX8_mobius_24 rfl (z_iald X z_c126 (z_inS b4) dX8_mobius_26 (z_ti ev5 (z_istore X [(7, .int v5), (0, .ref (z_ad g 125)), (1, .ref (z_ad g x1)), (2, .int x2), (3, .int x3), (4, .int x4), (5, .int x5), (6, .int q.1)] dX8_mobius_27 (by decide) rfl (z_iload X 5 dX8_mobius_29 rfl (z_iload X 0 dX8_mobius_31 rfl (z_callNi X (r := r6) (u1 := q.2) [.int x4, .int v5] [] (w_X9_isIn l g x4 v5 q.2 er6) gX8_mobius_X9_isIn_n33 nn_X8 ini_X9_isIn_X8_mobius sta_X9_isIn_X8_mobius hy_X9_isIn.2 rfl (z_le1 hR (by decide)) (z_le2 hR (by decide) (by decide)) (Nat.le_of_ble_eq_true rfl) dX8_mobius_33 (z_if_eq X 71 dX8_mobius_36 (by decide) (fun c7 => ?_) (fun c7 => ?_))))))))))
    · replace h := z_ip c7 h
      refine z_iinc X (v := q.1 + 1) 7 [(6, .int (q.1 + 1)), (7, .int v5), (0, .ref (z_ad g 125)), (1, .ref (z_ad g x1)), (2, .int x2), (3, .int x3), (4, .int x4), (5, .int x5)] dX8_mobius_71 rfl rfl (by decide) rfl (z_goto X 13 dX8_mobius_74 (by decide) (z_sub [2, 3, 4, 5, 6, 7, 0] [(0, .ref (z_ad g 125)), (1, .ref (z_ad g x1)), (2, .int x2), (3, .int x3), (4, .int x4), (5, .int x5), (6, .int (q.1 + 1))] rfl ?_))
      exact hkb (q.1 + 1, q.2) h
    · replace h := z_in c7 h
      refine z_aload_n X 1 dX8_mobius_39 rfl rfl (z_getR X (k0 := 2) z_c125 rfl in_X8_mobius_X8 (by decide) rfl rfl lk_X8_mobius_18 dX8_mobius_40 (z_iload X 0 dX8_mobius_43 rfl (z_iload X 0 dX8_mobius_45 rfl (z_iload_n X 3 dX8_mobius_47 rfl rfl (z_icmp_ne X 55 dX8_mobius_48 (by decide) (fun c8 => ?_) (fun c8 => ?_))))))
      · replace h := z_in c8 h
        obtain ⟨b11, h⟩ := z_gs h
        obtain ⟨r12, er12, h⟩ := z_bs h
        obtain ⟨b13, h⟩ := z_gs h
        obtain ⟨u14, eu14, h⟩ := z_ls h
        refine z_aload_n X 1 dX8_mobius_55 rfl rfl (z_aload_n X 2 dX8_mobius_56 rfl rfl (z_getR X (k0 := 4) (z_po ex1) rfl in_X8_mobius_X6 (by decide) rfl rfl lk_X8_mobius_37 dX8_mobius_57 (z_iload X 0 dX8_mobius_60 rfl (z_iald X (z_poU ex1) (z_inS b11) dX8_mobius_62 (z_iload X 5 dX8_mobius_63 rfl (z_iand X dX8_mobius_65 (z_callVi X (r := r12) (u1 := q.2) [.int ((z_gI q.2 (x1 + 2) v5.toNatClampNeg) &&& x4)] [.int v5, .ref (z_ad g 128)] (w_X8_valuesIn l g ((z_gI q.2 (x1 + 2) v5.toNatClampNeg) &&& x4) q.2 er12) z_c125 rfl gX8_mobius_X8_valuesIn hy_X8_valuesIn rfl (z_le1 hR (by decide)) (z_le2 hR (by decide) (by decide)) (Nat.le_of_ble_eq_true rfl) dX8_mobius_66 (z_ineg X dX8_mobius_69 (z_iast X z_c128 (z_inS b13) dX8_mobius_70 (z_nm eu14 (z_iinc X (v := q.1 + 1) 7 [(6, .int (q.1 + 1)), (7, .int v5), (0, .ref (z_ad g 125)), (1, .ref (z_ad g x1)), (2, .int x2), (3, .int x3), (4, .int x4), (5, .int x5)] dX8_mobius_71 rfl rfl (by decide) rfl (z_goto X 13 dX8_mobius_74 (by decide) (z_sub [2, 3, 4, 5, 6, 7, 0] [(0, .ref (z_ad g 125)), (1, .ref (z_ad g x1)), (2, .int x2), (3, .int x3), (4, .int x4), (5, .int x5), (6, .int (q.1 + 1))] rfl ?_)))))))))))))
        exact hkb (q.1 + 1, u14) h
      · replace h := z_ip c8 h
        obtain ⟨b9, h⟩ := z_gs h
        obtain ⟨u10, eu10, h⟩ := z_ls h
        refine z_iconst X (v := 1) dX8_mobius_51 (by decide) (z_goto X 70 dX8_mobius_52 (by decide) (z_iast X z_c128 (z_inS b9) dX8_mobius_70 (z_nm eu10 (z_iinc X (v := q.1 + 1) 7 [(6, .int (q.1 + 1)), (7, .int v5), (0, .ref (z_ad g 125)), (1, .ref (z_ad g x1)), (2, .int x2), (3, .int x3), (4, .int x4), (5, .int x5)] dX8_mobius_71 rfl rfl (by decide) rfl (z_goto X 13 dX8_mobius_74 (by decide) (z_sub [2, 3, 4, 5, 6, 7, 0] [(0, .ref (z_ad g 125)), (1, .ref (z_ad g x1)), (2, .int x2), (3, .int x3), (4, .int x4), (5, .int x5), (6, .int (q.1 + 1))] rfl ?_))))))
        exact hkb (q.1 + 1, u10) h
set_option maxRecDepth 20000 in
set_option maxHeartbeats 4000000 in
theorem w_X8_mobius (l : Launch) (g : z_G) (a1 : Nat) (a2 : Int32) (a3 : Int32) (a4 : Int32) (ea1 : z_PO a1) (u : z_M) {res : Int32 × z_M} (h : f_X8_mobius a1 a2 a3 a4 u = some res) : z_C l g z_shC yX8_mobius wsX8_mobius 4 [.ref (z_ad g 125), .ref (z_ad g a1), .int a2, .int a3, .int a4] u (fun v u' => v = some (.int res.1) ∧ u' = res.2) := by
  refine z_C.mk (lv := [(0, .ref (z_ad g 125)), (1, .ref (z_ad g a1)), (2, .int a2), (3, .int a3), (4, .int a4)]) (cc := cX8_mobius) (nL := 8) (rt := (some .int)) rfl (by decide) (Nat.le_of_ble_eq_true rfl) rfl (fun p e R s m args below meth c hR X => ?_)
  unfold f_X8_mobius at h
  obtain ⟨r1, u2, er1, h⟩ := z_b2s h
  refine z_aload_n X 1 dX8_mobius_0 rfl rfl (z_aload_n X 0 dX8_mobius_1 rfl rfl (z_getR X (k0 := 0) z_c125 rfl in_X8_mobius_X8 (by decide) rfl rfl lk_X8_mobius_9 dX8_mobius_2 (z_callVi X (r := r1) (u1 := u2) [.ref (z_ad g 126)] [] (w_X6_leastRow l g a1 126 9 ea1 z_c126 u er1) (z_po ea1) rfl gX8_mobius_X6_leastRow hy_X6_leastRow rfl (z_le1 hR (by decide)) (z_le2 hR (by decide) (by decide)) (Nat.le_of_ble_eq_true rfl) dX8_mobius_5 (z_istore X [(5, .int r1), (0, .ref (z_ad g 125)), (1, .ref (z_ad g a1)), (2, .int a2), (3, .int a3), (4, .int a4)] dX8_mobius_8 (by decide) rfl (z_iconst X (v := 0) dX8_mobius_10 (by decide) (z_istore X [(6, .int 0), (5, .int r1), (0, .ref (z_ad g 125)), (1, .ref (z_ad g a1)), (2, .int a2), (3, .int a3), (4, .int a4)] dX8_mobius_11 (by decide) rfl (z_sub [2, 3, 4, 5, 6, 1, 0] [(0, .ref (z_ad g 125)), (1, .ref (z_ad g a1)), (2, .int a2), (3, .int a3), (4, .int a4), (5, .int r1), (6, .int 0)] rfl ?_)))))))
  have hw := z_lp_w (fun q9 kb9 kx9 h1 h2 h3 => wb_X8_mobius_13 (l := l) (e := e) (below := below) (u := u2) hR X a1 a2 a3 a4 r1 ea1 q9 kb9 kx9 h1 h2 h3) z_F _ _ h
  refine hw (fun t15 h => ?_)
  obtain ⟨r16, er16, h⟩ := z_bs h
  refine z_iload X 2 dX8_mobius_77 rfl (z_iload_n X 1 dX8_mobius_79 rfl rfl (z_callNi X (r := r16) (u1 := t15) [.int a4, .int a3] [] (w_X9_isIn l g a4 a3 t15 er16) gX8_mobius_X9_isIn_n33 nn_X8 ini_X9_isIn_X8_mobius sta_X9_isIn_X8_mobius hy_X9_isIn.2 rfl (z_le1 hR (by decide)) (z_le2 hR (by decide) (by decide)) (Nat.le_of_ble_eq_true rfl) dX8_mobius_80 (z_if_eq X 95 dX8_mobius_83 (by decide) (fun c17 => ?_) (fun c17 => ?_))))
  · replace h := z_ip c17 h
    refine z_iconst X (v := 0) dX8_mobius_95 (by decide) ?_
    cases h; exact z_iret X rfl dX8_mobius_96 ⟨rfl, rfl⟩
  · replace h := z_in c17 h
    obtain ⟨b18, h⟩ := z_gs h
    refine z_aload_n X 0 dX8_mobius_86 rfl rfl (z_getR X (k0 := 2) z_c125 rfl in_X8_mobius_X8 (by decide) rfl rfl lk_X8_mobius_18 dX8_mobius_87 (z_iload_n X 1 dX8_mobius_90 rfl rfl (z_iald X z_c128 (z_inS b18) dX8_mobius_91 (z_goto X 96 dX8_mobius_92 (by decide) ?_))))
    cases h; exact z_iret X rfl dX8_mobius_96 ⟨rfl, rfl⟩

theorem ini_X9_isIn_X8_atHeights : Cond.initialized yX9_isIn.cls ∈ wsX8_atHeights := by decide +kernel
theorem sta_X9_isIn_X8_atHeights : Cond.static yX9_isIn ∈ wsX8_atHeights := by decide +kernel
theorem lk_X8_atHeights_15 : (Cond.fieldLink RX8 15 RX8 (TX8 1).2.1 (TX8 1).2.2.1) ∈ wsX8_atHeights := by decide +kernel
theorem in_X8_atHeights_X8 : ∀ w ∈ u_ws RX8 TX8 5, w ∈ wsX8_atHeights := by decide +kernel
def b_X8_atHeights_5 (x1 : Int32) (x2 : Int32) (u : z_M) : (Int32 × Int32) → ((Int32 × Int32) → Option (Int32)) → (Int32 → Option (Int32)) → Option (Int32) := fun q kb kx =>
  if 9 ≤ q.2 then (kx q.1) else (Option.bind (f_X9_isIn x1 q.2) (fun r2 => if r2 = 0 then (kb (q.1, q.2 + 1)) else (z_gd (z_inb q.2 9) (Option.bind (f_X9_isIn x2 (z_gI u 127 q.2.toNatClampNeg)) (fun r5 => if r5 = 0 then (kb (q.1, q.2 + 1)) else (z_lt (q.1 ||| (1 <<< (q.2 &&& 31))) (fun v7 => kb (v7, q.2 + 1))))))))
def f_X8_atHeights (a1 : Int32) (a2 : Int32) (u : z_M) : Option (Int32) :=
  z_lp (b_X8_atHeights_5 a1 a2 u) z_F (0, 0) (fun t8 => some t8)
set_option maxRecDepth 20000 in
set_option maxHeartbeats 4000000 in
theorem wb_X8_atHeights_5 {p : Program} {l : Launch} {e : Env} {R : Room} {s : State} {m : MethodId} {args : Array Value} {below : List Frame} {meth : Method} {c : Code} {g : z_G} {u : z_M} {res : Int32} (hR : R = z_rm 2) (X : z_X p R s m args meth c cX8_atHeights 5 RX8 wsX8_atHeights (some .int) g z_shC) (x1 : Int32) (x2 : Int32) (q : Int32 × Int32) (kb : (Int32 × Int32) → Option (Int32)) (kx : Int32 → Option (Int32)) (hkb : ∀ q, kb q = some res → z_V p l e R s m args below meth c 5 g z_shC (MQ below (z_Qc g z_shC (fun v u' => v = some (.int res) ∧ u' = u)) args s 0 0 (z_A g z_shC)) 5 [(0, .ref (z_ad g 125)), (1, .int x1), (2, .int x2), (3, .int q.1), (4, .int q.2)] [] u) (hkx : ∀ t, kx t = some res → z_V p l e R s m args below meth c 5 g z_shC (MQ below (z_Qc g z_shC (fun v u' => v = some (.int res) ∧ u' = u)) args s 0 0 (z_A g z_shC)) 48 [(3, .int t)] [] u) (h : b_X8_atHeights_5 x1 x2 u q kb kx = some res) : z_V p l e R s m args below meth c 5 g z_shC (MQ below (z_Qc g z_shC (fun v u' => v = some (.int res) ∧ u' = u)) args s 0 0 (z_A g z_shC)) 5 [(0, .ref (z_ad g 125)), (1, .int x1), (2, .int x2), (3, .int q.1), (4, .int q.2)] [] u := by
  unfold b_X8_atHeights_5 at h
  refine z_iload X 4 dX8_atHeights_5 rfl (z_bipush X (v := 9) dX8_atHeights_7 (by decide) (z_icmp_ge X 48 dX8_atHeights_9 (by decide) (fun c1 => ?_) (fun c1 => ?_)))
  · replace h := z_ip c1 h
    refine z_sub [3] [(3, .int q.1)] rfl ?_
    exact hkx q.1 h
  · replace h := z_in c1 h
    obtain ⟨r2, er2, h⟩ := z_bs h
    refine z_iload_n X 1 dX8_atHeights_12 rfl rfl (z_iload X 4 dX8_atHeights_13 rfl (z_callNi X (r := r2) (u1 := u) [.int x1, .int q.2] [] (w_X9_isIn l g x1 q.2 u er2) gX8_atHeights_X9_isIn_n33 nn_X8 ini_X9_isIn_X8_atHeights sta_X9_isIn_X8_atHeights hy_X9_isIn.2 rfl (z_le1 hR (by decide)) (z_le2 hR (by decide) (by decide)) (Nat.le_of_ble_eq_true rfl) dX8_atHeights_15 (z_if_eq X 42 dX8_atHeights_18 (by decide) (fun c3 => ?_) (fun c3 => ?_))))
    · replace h := z_ip c3 h
      refine z_iinc X (v := q.2 + 1) 4 [(4, .int (q.2 + 1)), (0, .ref (z_ad g 125)), (1, .int x1), (2, .int x2), (3, .int q.1)] dX8_atHeights_42 rfl rfl (by decide) rfl (z_goto X 5 dX8_atHeights_45 (by decide) (z_sub [1, 2, 3, 4, 0] [(0, .ref (z_ad g 125)), (1, .int x1), (2, .int x2), (3, .int q.1), (4, .int (q.2 + 1))] rfl ?_))
      exact hkb (q.1, q.2 + 1) h
    · replace h := z_in c3 h
      obtain ⟨b4, h⟩ := z_gs h
      obtain ⟨r5, er5, h⟩ := z_bs h
      refine z_iload_n X 2 dX8_atHeights_21 rfl rfl (z_aload_n X 0 dX8_atHeights_22 rfl rfl (z_getR X (k0 := 1) z_c125 rfl in_X8_atHeights_X8 (by decide) rfl rfl lk_X8_atHeights_15 dX8_atHeights_23 (z_iload X 4 dX8_atHeights_26 rfl (z_iald X z_c127 (z_inS b4) dX8_atHeights_28 (z_callNi X (r := r5) (u1 := u) [.int x2, .int (z_gI u 127 q.2.toNatClampNeg)] [] (w_X9_isIn l g x2 (z_gI u 127 q.2.toNatClampNeg) u er5) gX8_atHeights_X9_isIn_n33 nn_X8 ini_X9_isIn_X8_atHeights sta_X9_isIn_X8_atHeights hy_X9_isIn.2 rfl (z_le1 hR (by decide)) (z_le2 hR (by decide) (by decide)) (Nat.le_of_ble_eq_true rfl) dX8_atHeights_29 (z_if_eq X 42 dX8_atHeights_32 (by decide) (fun c6 => ?_) (fun c6 => ?_)))))))
      · replace h := z_ip c6 h
        refine z_iinc X (v := q.2 + 1) 4 [(4, .int (q.2 + 1)), (0, .ref (z_ad g 125)), (1, .int x1), (2, .int x2), (3, .int q.1)] dX8_atHeights_42 rfl rfl (by decide) rfl (z_goto X 5 dX8_atHeights_45 (by decide) (z_sub [1, 2, 3, 4, 0] [(0, .ref (z_ad g 125)), (1, .int x1), (2, .int x2), (3, .int q.1), (4, .int (q.2 + 1))] rfl ?_))
        exact hkb (q.1, q.2 + 1) h
      · replace h := z_in c6 h
        obtain ⟨v7, ev7, h⟩ := z_ls h
        refine z_iload_n X 3 dX8_atHeights_35 rfl rfl (z_iconst X (v := 1) dX8_atHeights_36 (by decide) (z_iload X 4 dX8_atHeights_37 rfl (z_ishl X dX8_atHeights_39 (z_ior X dX8_atHeights_40 (z_ti ev7 (z_istore_n X [(3, .int v7), (0, .ref (z_ad g 125)), (1, .int x1), (2, .int x2), (4, .int q.2)] dX8_atHeights_41 rfl (by decide) rfl (z_iinc X (v := q.2 + 1) 4 [(4, .int (q.2 + 1)), (3, .int v7), (0, .ref (z_ad g 125)), (1, .int x1), (2, .int x2)] dX8_atHeights_42 rfl rfl (by decide) rfl (z_goto X 5 dX8_atHeights_45 (by decide) (z_sub [2, 3, 4, 1, 0] [(0, .ref (z_ad g 125)), (1, .int x1), (2, .int x2), (3, .int v7), (4, .int (q.2 + 1))] rfl ?_)))))))))
        exact hkb (v7, q.2 + 1) h
set_option maxRecDepth 20000 in
set_option maxHeartbeats 4000000 in
theorem w_X8_atHeights (l : Launch) (g : z_G) (a1 : Int32) (a2 : Int32) (u : z_M) {res : Int32} (h : f_X8_atHeights a1 a2 u = some res) : z_C l g z_shC yX8_atHeights wsX8_atHeights 2 [.ref (z_ad g 125), .int a1, .int a2] u (fun v u' => v = some (.int res) ∧ u' = u) := by
  refine z_C.mk (lv := [(0, .ref (z_ad g 125)), (1, .int a1), (2, .int a2)]) (cc := cX8_atHeights) (nL := 5) (rt := (some .int)) rfl (by decide) (Nat.le_of_ble_eq_true rfl) rfl (fun p e R s m args below meth c hR X => ?_)
  unfold f_X8_atHeights at h
  refine z_iconst X (v := 0) dX8_atHeights_0 (by decide) (z_istore_n X [(3, .int 0), (0, .ref (z_ad g 125)), (1, .int a1), (2, .int a2)] dX8_atHeights_1 rfl (by decide) rfl (z_iconst X (v := 0) dX8_atHeights_2 (by decide) (z_istore X [(4, .int 0), (3, .int 0), (0, .ref (z_ad g 125)), (1, .int a1), (2, .int a2)] dX8_atHeights_3 (by decide) rfl (z_sub [2, 3, 4, 1, 0] [(0, .ref (z_ad g 125)), (1, .int a1), (2, .int a2), (3, .int 0), (4, .int 0)] rfl ?_))))
  have hw := z_lp_w (fun q9 kb9 kx9 h1 h2 h3 => wb_X8_atHeights_5 (l := l) (e := e) (below := below) (u := u) hR X a1 a2 q9 kb9 kx9 h1 h2 h3) z_F _ _ h
  refine hw (fun t8 h => ?_)
  refine z_iload_n X 0 dX8_atHeights_48 rfl rfl ?_
  cases h; exact z_iret X rfl dX8_atHeights_49 ⟨rfl, rfl⟩

theorem ini_X9_isIn_X8_flagOf : Cond.initialized yX9_isIn.cls ∈ wsX8_flagOf := by decide +kernel
theorem sta_X9_isIn_X8_flagOf : Cond.static yX9_isIn ∈ wsX8_flagOf := by decide +kernel
theorem lk_X8_flagOf_18 : (Cond.fieldLink RX8 18 RX8 (TX8 2).2.1 (TX8 2).2.2.1) ∈ wsX8_flagOf := by decide +kernel
theorem in_X8_flagOf_X8 : ∀ w ∈ u_ws RX8 TX8 5, w ∈ wsX8_flagOf := by decide +kernel
theorem lk_X8_flagOf_37 : (Cond.fieldLink RX8 37 RX6 (TX6 4).2.1 (TX6 4).2.2.1) ∈ wsX8_flagOf := by decide +kernel
theorem in_X8_flagOf_X6 : ∀ w ∈ u_ws RX6 TX6 6, w ∈ wsX8_flagOf := by decide +kernel
theorem hy_X8_atHeights : yX8_atHeights.cls = RX8 ∧ yX8_atHeights.cls ≠ "java/lang/invoke/MethodHandle" ∧ yX8_atHeights.cls ≠ "java/lang/invoke/VarHandle" ∧ (parseMethodDescriptor yX8_atHeights.desc).map (fun d => d.parameters.length) = some 2 := by decide +kernel
def b_X8_flagOf_48 (x1 : Nat) (x2 : Int32) (x3 : Int32) (x5 : Int32) (x6 : Int32) (x7 : Int32) (x8 : Int32) : (Int32 × Int32 × z_M) → ((Int32 × Int32 × z_M) → Option (Int32 × z_M)) → ((Int32 × z_M) → Option (Int32 × z_M)) → Option (Int32 × z_M) := fun q kb kx =>
  if 9 ≤ q.2.1 then (kx (q.1, q.2.2)) else (Option.bind (f_X9_isIn x8 q.2.1) (fun r6 => if r6 = 0 then (kb (q.1, q.2.1 + 1, q.2.2)) else (if x6 = 0 then (z_gd (z_inb q.2.1 9) (Option.bind (f_X8_valuesIn ((z_gI q.2.2 (x1 + 2) q.2.1.toNatClampNeg) &&& x5) q.2.2) (fun r10 => z_gd (z_inb q.2.1 9) (z_lt (z_sI q.2.2 128 q.2.1.toNatClampNeg r10) (fun u12 => z_gd (z_inb q.2.1 9) (z_lt (q.1 + (z_gI u12 128 q.2.1.toNatClampNeg)) (fun v14 => kb (v14, q.2.1 + 1, u12)))))))) else (z_gd (z_inb q.2.1 9) (z_lt (z_sI q.2.2 128 q.2.1.toNatClampNeg 1) (fun u16 => z_gd (z_inb q.2.1 9) (z_lt (q.1 + (z_gI u16 128 q.2.1.toNatClampNeg)) (fun v18 => kb (v18, q.2.1 + 1, u16)))))))))
def b_X8_flagOf_12 (x1 : Nat) (x2 : Int32) (x3 : Int32) : (Int32 × Int32 × Int32 × Int32 × z_M) → ((Int32 × Int32 × Int32 × Int32 × z_M) → Option (Int32 × z_M)) → ((Int32 × z_M) → Option (Int32 × z_M)) → Option (Int32 × z_M) := fun q kb kx =>
  if 9 ≤ q.2.2.2.1 then (kx (q.1, q.2.2.2.2)) else (Option.bind (f_X9_isIn x3 q.2.2.2.1) (fun r2 => if r2 = 0 then (kb (q.1, q.2.1, q.2.2.1, q.2.2.2.1 + 1, q.2.2.2.2)) else (Option.bind (f_X8_atHeights x2 (1 <<< (q.2.2.2.1 &&& 31)) q.2.2.2.2) (fun r4 => z_lp (b_X8_flagOf_48 x1 x2 x3 q.2.1 q.2.2.1 q.2.2.2.1 r4) z_F (0, 0, q.2.2.2.2) (fun t19 => kb (t19.1, r4, 0, q.2.2.2.1 + 1, t19.2))))))
def f_X8_flagOf (a1 : Nat) (a2 : Int32) (a3 : Int32) (u : z_M) : Option (Int32 × z_M) :=
  z_lp (b_X8_flagOf_12 a1 a2 a3) z_F (1, 0, 1, 1, u) (fun t20 => some (t20.1, t20.2))
set_option maxRecDepth 20000 in
set_option maxHeartbeats 4000000 in
theorem wb_X8_flagOf_48 {p : Program} {l : Launch} {e : Env} {R : Room} {s : State} {m : MethodId} {args : Array Value} {below : List Frame} {meth : Method} {c : Code} {g : z_G} {u : z_M} {res : Int32 × z_M} (hR : R = z_rm 3) (X : z_X p R s m args meth c cX8_flagOf 10 RX8 wsX8_flagOf (some .int) g z_shC) (x1 : Nat) (x2 : Int32) (x3 : Int32) (x5 : Int32) (x6 : Int32) (x7 : Int32) (x8 : Int32) (ex1 : z_PO x1) (q : Int32 × Int32 × z_M) (kb : (Int32 × Int32 × z_M) → Option (Int32 × z_M)) (kx : (Int32 × z_M) → Option (Int32 × z_M)) (hkb : ∀ q, kb q = some res → z_V p l e R s m args below meth c 10 g z_shC (MQ below (z_Qc g z_shC (fun v u' => v = some (.int res.1) ∧ u' = res.2)) args s 0 0 (z_A g z_shC)) 48 [(0, .ref (z_ad g 125)), (1, .ref (z_ad g x1)), (2, .int x2), (3, .int x3), (4, .int q.1), (5, .int x5), (6, .int x6), (7, .int x7), (8, .int x8), (9, .int q.2.1)] [] q.2.2) (hkx : ∀ t, kx t = some res → z_V p l e R s m args below meth c 10 g z_shC (MQ below (z_Qc g z_shC (fun v u' => v = some (.int res.1) ∧ u' = res.2)) args s 0 0 (z_A g z_shC)) 113 [(0, .ref (z_ad g 125)), (1, .ref (z_ad g x1)), (2, .int x2), (3, .int x3), (4, .int t.1), (7, .int x7), (8, .int x8)] [] t.2) (h : b_X8_flagOf_48 x1 x2 x3 x5 x6 x7 x8 q kb kx = some res) : z_V p l e R s m args below meth c 10 g z_shC (MQ below (z_Qc g z_shC (fun v u' => v = some (.int res.1) ∧ u' = res.2)) args s 0 0 (z_A g z_shC)) 48 [(0, .ref (z_ad g 125)), (1, .ref (z_ad g x1)), (2, .int x2), (3, .int x3), (4, .int q.1), (5, .int x5), (6, .int x6), (7, .int x7), (8, .int x8), (9, .int q.2.1)] [] q.2.2 := by
  unfold b_X8_flagOf_48 at h
  refine z_iload X 9 dX8_flagOf_48 rfl (z_bipush X (v := 9) dX8_flagOf_50 (by decide) (z_icmp_ge X 113 dX8_flagOf_52 (by decide) (fun c5 => ?_) (fun c5 => ?_)))
  · replace h := z_ip c5 h
    refine z_sub [0, 1, 2, 3, 4, 7, 8] [(0, .ref (z_ad g 125)), (1, .ref (z_ad g x1)), (2, .int x2), (3, .int x3), (4, .int q.1), (7, .int x7), (8, .int x8)] rfl ?_
    exact hkx (q.1, q.2.2) h
  · replace h := z_in c5 h
    obtain ⟨r6, er6, h⟩ := z_bs h
    refine z_iload X 8 dX8_flagOf_55 rfl (z_iload X 9 dX8_flagOf_57 rfl (z_callNi X (r := r6) (u1 := q.2.2) [.int x8, .int q.2.1] [] (w_X9_isIn l g x8 q.2.1 q.2.2 er6) gX8_flagOf_X9_isIn_n33 nn_X8 ini_X9_isIn_X8_flagOf sta_X9_isIn_X8_flagOf hy_X9_isIn.2 rfl (z_le1 hR (by decide)) (z_le2 hR (by decide) (by decide)) (Nat.le_of_ble_eq_true rfl) dX8_flagOf_59 (z_if_eq X 107 dX8_flagOf_62 (by decide) (fun c7 => ?_) (fun c7 => ?_))))
    · replace h := z_ip c7 h
      refine z_iinc X (v := q.2.1 + 1) 9 [(9, .int (q.2.1 + 1)), (0, .ref (z_ad g 125)), (1, .ref (z_ad g x1)), (2, .int x2), (3, .int x3), (4, .int q.1), (5, .int x5), (6, .int x6), (7, .int x7), (8, .int x8)] dX8_flagOf_107 rfl rfl (by decide) rfl (z_goto X 48 dX8_flagOf_110 (by decide) (z_sub [1, 2, 3, 4, 5, 6, 7, 8, 9, 0] [(0, .ref (z_ad g 125)), (1, .ref (z_ad g x1)), (2, .int x2), (3, .int x3), (4, .int q.1), (5, .int x5), (6, .int x6), (7, .int x7), (8, .int x8), (9, .int (q.2.1 + 1))] rfl ?_))
      exact hkb (q.1, q.2.1 + 1, q.2.2) h
    · replace h := z_in c7 h
      refine z_aload_n X 0 dX8_flagOf_65 rfl rfl (z_getR X (k0 := 2) z_c125 rfl in_X8_flagOf_X8 (by decide) rfl rfl lk_X8_flagOf_18 dX8_flagOf_66 (z_iload X 9 dX8_flagOf_69 rfl (z_iload X 6 dX8_flagOf_71 rfl (z_if_eq X 80 dX8_flagOf_73 (by decide) (fun c8 => ?_) (fun c8 => ?_)))))
      · replace h := z_ip c8 h
        obtain ⟨b9, h⟩ := z_gs h
        obtain ⟨r10, er10, h⟩ := z_bs h
        obtain ⟨b11, h⟩ := z_gs h
        obtain ⟨u12, eu12, h⟩ := z_ls h
        obtain ⟨b13, h⟩ := z_gs h
        obtain ⟨v14, ev14, h⟩ := z_ls h
        refine z_aload_n X 0 dX8_flagOf_80 rfl rfl (z_aload_n X 1 dX8_flagOf_81 rfl rfl (z_getR X (k0 := 4) (z_po ex1) rfl in_X8_flagOf_X6 (by decide) rfl rfl lk_X8_flagOf_37 dX8_flagOf_82 (z_iload X 9 dX8_flagOf_85 rfl (z_iald X (z_poU ex1) (z_inS b9) dX8_flagOf_87 (z_iload X 5 dX8_flagOf_88 rfl (z_iand X dX8_flagOf_90 (z_callVi X (r := r10) (u1 := q.2.2) [.int ((z_gI q.2.2 (x1 + 2) q.2.1.toNatClampNeg) &&& x5)] [.int q.2.1, .ref (z_ad g 128)] (w_X8_valuesIn l g ((z_gI q.2.2 (x1 + 2) q.2.1.toNatClampNeg) &&& x5) q.2.2 er10) z_c125 rfl gX8_flagOf_X8_valuesIn hy_X8_valuesIn rfl (z_le1 hR (by decide)) (z_le2 hR (by decide) (by decide)) (Nat.le_of_ble_eq_true rfl) dX8_flagOf_91 (z_iast X z_c128 (z_inS b11) dX8_flagOf_94 (z_nm eu12 (z_iload X 4 dX8_flagOf_95 rfl (z_aload_n X 0 dX8_flagOf_97 rfl rfl (z_getR X (k0 := 2) z_c125 rfl in_X8_flagOf_X8 (by decide) rfl rfl lk_X8_flagOf_18 dX8_flagOf_98 (z_iload X 9 dX8_flagOf_101 rfl (z_iald X z_c128 (z_inS b13) dX8_flagOf_103 (z_iadd X dX8_flagOf_104 (z_ti ev14 (z_istore X [(4, .int v14), (0, .ref (z_ad g 125)), (1, .ref (z_ad g x1)), (2, .int x2), (3, .int x3), (5, .int x5), (6, .int x6), (7, .int x7), (8, .int x8), (9, .int q.2.1)] dX8_flagOf_105 (by decide) rfl (z_iinc X (v := q.2.1 + 1) 9 [(9, .int (q.2.1 + 1)), (4, .int v14), (0, .ref (z_ad g 125)), (1, .ref (z_ad g x1)), (2, .int x2), (3, .int x3), (5, .int x5), (6, .int x6), (7, .int x7), (8, .int x8)] dX8_flagOf_107 rfl rfl (by decide) rfl (z_goto X 48 dX8_flagOf_110 (by decide) (z_sub [2, 3, 4, 5, 1, 6, 7, 8, 9, 0] [(0, .ref (z_ad g 125)), (1, .ref (z_ad g x1)), (2, .int x2), (3, .int x3), (4, .int v14), (5, .int x5), (6, .int x6), (7, .int x7), (8, .int x8), (9, .int (q.2.1 + 1))] rfl ?_))))))))))))))))))))
        exact hkb (v14, q.2.1 + 1, u12) h
      · replace h := z_in c8 h
        obtain ⟨b15, h⟩ := z_gs h
        obtain ⟨u16, eu16, h⟩ := z_ls h
        obtain ⟨b17, h⟩ := z_gs h
        obtain ⟨v18, ev18, h⟩ := z_ls h
        refine z_iconst X (v := 1) dX8_flagOf_76 (by decide) (z_goto X 94 dX8_flagOf_77 (by decide) (z_iast X z_c128 (z_inS b15) dX8_flagOf_94 (z_nm eu16 (z_iload X 4 dX8_flagOf_95 rfl (z_aload_n X 0 dX8_flagOf_97 rfl rfl (z_getR X (k0 := 2) z_c125 rfl in_X8_flagOf_X8 (by decide) rfl rfl lk_X8_flagOf_18 dX8_flagOf_98 (z_iload X 9 dX8_flagOf_101 rfl (z_iald X z_c128 (z_inS b17) dX8_flagOf_103 (z_iadd X dX8_flagOf_104 (z_ti ev18 (z_istore X [(4, .int v18), (0, .ref (z_ad g 125)), (1, .ref (z_ad g x1)), (2, .int x2), (3, .int x3), (5, .int x5), (6, .int x6), (7, .int x7), (8, .int x8), (9, .int q.2.1)] dX8_flagOf_105 (by decide) rfl (z_iinc X (v := q.2.1 + 1) 9 [(9, .int (q.2.1 + 1)), (4, .int v18), (0, .ref (z_ad g 125)), (1, .ref (z_ad g x1)), (2, .int x2), (3, .int x3), (5, .int x5), (6, .int x6), (7, .int x7), (8, .int x8)] dX8_flagOf_107 rfl rfl (by decide) rfl (z_goto X 48 dX8_flagOf_110 (by decide) (z_sub [2, 3, 4, 5, 1, 6, 7, 8, 9, 0] [(0, .ref (z_ad g 125)), (1, .ref (z_ad g x1)), (2, .int x2), (3, .int x3), (4, .int v18), (5, .int x5), (6, .int x6), (7, .int x7), (8, .int x8), (9, .int (q.2.1 + 1))] rfl ?_))))))))))))))
        exact hkb (v18, q.2.1 + 1, u16) h
set_option maxRecDepth 20000 in
set_option maxHeartbeats 4000000 in
theorem wb_X8_flagOf_12 {p : Program} {l : Launch} {e : Env} {R : Room} {s : State} {m : MethodId} {args : Array Value} {below : List Frame} {meth : Method} {c : Code} {g : z_G} {u : z_M} {res : Int32 × z_M} (hR : R = z_rm 3) (X : z_X p R s m args meth c cX8_flagOf 10 RX8 wsX8_flagOf (some .int) g z_shC) (x1 : Nat) (x2 : Int32) (x3 : Int32) (ex1 : z_PO x1) (q : Int32 × Int32 × Int32 × Int32 × z_M) (kb : (Int32 × Int32 × Int32 × Int32 × z_M) → Option (Int32 × z_M)) (kx : (Int32 × z_M) → Option (Int32 × z_M)) (hkb : ∀ q, kb q = some res → z_V p l e R s m args below meth c 10 g z_shC (MQ below (z_Qc g z_shC (fun v u' => v = some (.int res.1) ∧ u' = res.2)) args s 0 0 (z_A g z_shC)) 12 [(0, .ref (z_ad g 125)), (1, .ref (z_ad g x1)), (2, .int x2), (3, .int x3), (4, .int q.1), (5, .int q.2.1), (6, .int q.2.2.1), (7, .int q.2.2.2.1)] [] q.2.2.2.2) (hkx : ∀ t, kx t = some res → z_V p l e R s m args below meth c 10 g z_shC (MQ below (z_Qc g z_shC (fun v u' => v = some (.int res.1) ∧ u' = res.2)) args s 0 0 (z_A g z_shC)) 126 [(4, .int t.1)] [] t.2) (h : b_X8_flagOf_12 x1 x2 x3 q kb kx = some res) : z_V p l e R s m args below meth c 10 g z_shC (MQ below (z_Qc g z_shC (fun v u' => v = some (.int res.1) ∧ u' = res.2)) args s 0 0 (z_A g z_shC)) 12 [(0, .ref (z_ad g 125)), (1, .ref (z_ad g x1)), (2, .int x2), (3, .int x3), (4, .int q.1), (5, .int q.2.1), (6, .int q.2.2.1), (7, .int q.2.2.2.1)] [] q.2.2.2.2 := by
  unfold b_X8_flagOf_12 at h
  refine z_iload X 7 dX8_flagOf_12 rfl (z_bipush X (v := 9) dX8_flagOf_14 (by decide) (z_icmp_ge X 126 dX8_flagOf_16 (by decide) (fun c1 => ?_) (fun c1 => ?_)))
  · replace h := z_ip c1 h
    refine z_sub [4] [(4, .int q.1)] rfl ?_
    exact hkx (q.1, q.2.2.2.2) h
  · replace h := z_in c1 h
    obtain ⟨r2, er2, h⟩ := z_bs h
    refine z_iload_n X 3 dX8_flagOf_19 rfl rfl (z_iload X 7 dX8_flagOf_20 rfl (z_callNi X (r := r2) (u1 := q.2.2.2.2) [.int x3, .int q.2.2.2.1] [] (w_X9_isIn l g x3 q.2.2.2.1 q.2.2.2.2 er2) gX8_flagOf_X9_isIn_n33 nn_X8 ini_X9_isIn_X8_flagOf sta_X9_isIn_X8_flagOf hy_X9_isIn.2 rfl (z_le1 hR (by decide)) (z_le2 hR (by decide) (by decide)) (Nat.le_of_ble_eq_true rfl) dX8_flagOf_22 (z_if_ne X 31 dX8_flagOf_25 (by decide) (fun c3 => ?_) (fun c3 => ?_))))
    · replace h := z_in c3 h
      obtain ⟨r4, er4, h⟩ := z_bs h
      refine z_aload_n X 0 dX8_flagOf_31 rfl rfl (z_iload_n X 2 dX8_flagOf_32 rfl rfl (z_iconst X (v := 1) dX8_flagOf_33 (by decide) (z_iload X 7 dX8_flagOf_34 rfl (z_ishl X dX8_flagOf_36 (z_callVi X (r := r4) (u1 := q.2.2.2.2) [.int x2, .int (1 <<< (q.2.2.2.1 &&& 31))] [] (w_X8_atHeights l g x2 (1 <<< (q.2.2.2.1 &&& 31)) q.2.2.2.2 er4) z_c125 rfl gX8_flagOf_X8_atHeights hy_X8_atHeights rfl (z_le1 hR (by decide)) (z_le2 hR (by decide) (by decide)) (Nat.le_of_ble_eq_true rfl) dX8_flagOf_37 (z_istore X [(8, .int r4), (0, .ref (z_ad g 125)), (1, .ref (z_ad g x1)), (2, .int x2), (3, .int x3), (4, .int q.1), (5, .int q.2.1), (6, .int q.2.2.1), (7, .int q.2.2.2.1)] dX8_flagOf_40 (by decide) rfl (z_iconst X (v := 0) dX8_flagOf_42 (by decide) (z_istore X [(4, .int 0), (8, .int r4), (0, .ref (z_ad g 125)), (1, .ref (z_ad g x1)), (2, .int x2), (3, .int x3), (5, .int q.2.1), (6, .int q.2.2.1), (7, .int q.2.2.2.1)] dX8_flagOf_43 (by decide) rfl (z_iconst X (v := 0) dX8_flagOf_45 (by decide) (z_istore X [(9, .int 0), (4, .int 0), (8, .int r4), (0, .ref (z_ad g 125)), (1, .ref (z_ad g x1)), (2, .int x2), (3, .int x3), (5, .int q.2.1), (6, .int q.2.2.1), (7, .int q.2.2.2.1)] dX8_flagOf_46 (by decide) rfl (z_sub [3, 4, 5, 6, 1, 7, 8, 9, 2, 0] [(0, .ref (z_ad g 125)), (1, .ref (z_ad g x1)), (2, .int x2), (3, .int x3), (4, .int 0), (5, .int q.2.1), (6, .int q.2.2.1), (7, .int q.2.2.2.1), (8, .int r4), (9, .int 0)] rfl ?_)))))))))))
      have hw := z_lp_w (fun q9 kb9 kx9 h1 h2 h3 => wb_X8_flagOf_48 (l := l) (e := e) (below := below) (u := q.2.2.2.2) hR X x1 x2 x3 q.2.1 q.2.2.1 q.2.2.2.1 r4 ex1 q9 kb9 kx9 h1 h2 h3) z_F _ _ h
      refine hw (fun t19 h => ?_)
      refine z_iload X 6 dX8_flagOf_113 rfl (z_istore X [(5, .int r4), (0, .ref (z_ad g 125)), (1, .ref (z_ad g x1)), (2, .int x2), (3, .int x3), (4, .int t19.1), (7, .int q.2.2.2.1), (8, .int r4)] dX8_flagOf_115 (by decide) rfl (z_iconst X (v := 0) dX8_flagOf_117 (by decide) (z_istore X [(6, .int 0), (5, .int r4), (0, .ref (z_ad g 125)), (1, .ref (z_ad g x1)), (2, .int x2), (3, .int x3), (4, .int t19.1), (7, .int q.2.2.2.1), (8, .int r4)] dX8_flagOf_118 (by decide) rfl (z_iinc X (v := q.2.2.2.1 + 1) 7 [(7, .int (q.2.2.2.1 + 1)), (6, .int 0), (5, .int r4), (0, .ref (z_ad g 125)), (1, .ref (z_ad g x1)), (2, .int x2), (3, .int x3), (4, .int t19.1), (8, .int r4)] dX8_flagOf_120 rfl rfl (by decide) rfl (z_goto X 12 dX8_flagOf_123 (by decide) (z_sub [3, 4, 5, 6, 7, 2, 1, 0] [(0, .ref (z_ad g 125)), (1, .ref (z_ad g x1)), (2, .int x2), (3, .int x3), (4, .int t19.1), (5, .int r4), (6, .int 0), (7, .int (q.2.2.2.1 + 1))] rfl ?_))))))
      exact hkb (t19.1, r4, 0, q.2.2.2.1 + 1, t19.2) h
    · replace h := z_ip c3 h
      refine z_goto X 120 dX8_flagOf_28 (by decide) (z_iinc X (v := q.2.2.2.1 + 1) 7 [(7, .int (q.2.2.2.1 + 1)), (0, .ref (z_ad g 125)), (1, .ref (z_ad g x1)), (2, .int x2), (3, .int x3), (4, .int q.1), (5, .int q.2.1), (6, .int q.2.2.1)] dX8_flagOf_120 rfl rfl (by decide) rfl (z_goto X 12 dX8_flagOf_123 (by decide) (z_sub [1, 2, 3, 4, 5, 6, 7, 0] [(0, .ref (z_ad g 125)), (1, .ref (z_ad g x1)), (2, .int x2), (3, .int x3), (4, .int q.1), (5, .int q.2.1), (6, .int q.2.2.1), (7, .int (q.2.2.2.1 + 1))] rfl ?_)))
      exact hkb (q.1, q.2.1, q.2.2.1, q.2.2.2.1 + 1, q.2.2.2.2) h
set_option maxRecDepth 20000 in
set_option maxHeartbeats 4000000 in
theorem w_X8_flagOf (l : Launch) (g : z_G) (a1 : Nat) (a2 : Int32) (a3 : Int32) (ea1 : z_PO a1) (u : z_M) {res : Int32 × z_M} (h : f_X8_flagOf a1 a2 a3 u = some res) : z_C l g z_shC yX8_flagOf wsX8_flagOf 3 [.ref (z_ad g 125), .ref (z_ad g a1), .int a2, .int a3] u (fun v u' => v = some (.int res.1) ∧ u' = res.2) := by
  refine z_C.mk (lv := [(0, .ref (z_ad g 125)), (1, .ref (z_ad g a1)), (2, .int a2), (3, .int a3)]) (cc := cX8_flagOf) (nL := 10) (rt := (some .int)) rfl (by decide) (Nat.le_of_ble_eq_true rfl) rfl (fun p e R s m args below meth c hR X => ?_)
  unfold f_X8_flagOf at h
  refine z_iconst X (v := 1) dX8_flagOf_0 (by decide) (z_istore X [(4, .int 1), (0, .ref (z_ad g 125)), (1, .ref (z_ad g a1)), (2, .int a2), (3, .int a3)] dX8_flagOf_1 (by decide) rfl (z_iconst X (v := 0) dX8_flagOf_3 (by decide) (z_istore X [(5, .int 0), (4, .int 1), (0, .ref (z_ad g 125)), (1, .ref (z_ad g a1)), (2, .int a2), (3, .int a3)] dX8_flagOf_4 (by decide) rfl (z_iconst X (v := 1) dX8_flagOf_6 (by decide) (z_istore X [(6, .int 1), (5, .int 0), (4, .int 1), (0, .ref (z_ad g 125)), (1, .ref (z_ad g a1)), (2, .int a2), (3, .int a3)] dX8_flagOf_7 (by decide) rfl (z_iconst X (v := 1) dX8_flagOf_9 (by decide) (z_istore X [(7, .int 1), (6, .int 1), (5, .int 0), (4, .int 1), (0, .ref (z_ad g 125)), (1, .ref (z_ad g a1)), (2, .int a2), (3, .int a3)] dX8_flagOf_10 (by decide) rfl (z_sub [4, 5, 6, 7, 3, 2, 1, 0] [(0, .ref (z_ad g 125)), (1, .ref (z_ad g a1)), (2, .int a2), (3, .int a3), (4, .int 1), (5, .int 0), (6, .int 1), (7, .int 1)] rfl ?_))))))))
  have hw := z_lp_w (fun q9 kb9 kx9 h1 h2 h3 => wb_X8_flagOf_12 (l := l) (e := e) (below := below) (u := u) hR X a1 a2 a3 ea1 q9 kb9 kx9 h1 h2 h3) z_F _ _ h
  refine hw (fun t20 h => ?_)
  refine z_iload X 0 dX8_flagOf_126 rfl ?_
  cases h; exact z_iret X rfl dX8_flagOf_128 ⟨rfl, rfl⟩

theorem lk_X8_betaOf_9 : (Cond.fieldLink RX8 9 RX8 (TX8 0).2.1 (TX8 0).2.2.1) ∈ wsX8_betaOf := by decide +kernel
theorem in_X8_betaOf_X8 : ∀ w ∈ u_ws RX8 TX8 5, w ∈ wsX8_betaOf := fun _ h => List.mem_cons_of_mem _ (List.mem_append_left _ (List.mem_append_right _ h))
theorem ini_X9_isIn_X8_betaOf : Cond.initialized yX9_isIn.cls ∈ wsX8_betaOf := by decide +kernel
theorem sta_X9_isIn_X8_betaOf : Cond.static yX9_isIn ∈ wsX8_betaOf := by decide +kernel
theorem lk_X8_betaOf_18 : (Cond.fieldLink RX8 18 RX8 (TX8 2).2.1 (TX8 2).2.2.1) ∈ wsX8_betaOf := by decide +kernel
theorem lk_X8_betaOf_37 : (Cond.fieldLink RX8 37 RX6 (TX6 4).2.1 (TX6 4).2.2.1) ∈ wsX8_betaOf := by decide +kernel
theorem in_X8_betaOf_X6 : ∀ w ∈ u_ws RX6 TX6 6, w ∈ wsX8_betaOf := fun _ h => List.mem_cons_of_mem _ (List.mem_append_right _ h)
def b_X8_betaOf_21 (x1 : Nat) (x3 : Int32) (x4 : Int32) (x5 : Int32) : (Int32 × z_M) → ((Int32 × z_M) → Option (Int32 × z_M)) → (z_M → Option (Int32 × z_M)) → Option (Int32 × z_M) := fun q kb kx =>
  if x5 ≤ q.1 then (kx q.2) else (z_gd (z_inb q.1 9) (z_lt (z_gI q.2 126 q.1.toNatClampNeg) (fun v6 => Option.bind (f_X9_isIn x4 v6) (fun r7 => if r7 = 0 then (kb (q.1 + 1, q.2)) else (z_gd (z_inb v6 9) (Option.bind (f_X8_valuesIn ((z_gI q.2 (x1 + 2) v6.toNatClampNeg) &&& x4) q.2) (fun r10 => z_gd (z_inb v6 9) (z_lt (z_sI q.2 128 v6.toNatClampNeg ((-1) - r10)) (fun u12 => kb (q.1 + 1, u12))))))))))
def f_X8_betaOf (a1 : Nat) (a2 : Int32) (a3 : Int32) (u : z_M) : Option (Int32 × z_M) :=
  Option.bind (f_X8_atHeights a2 a3 u) (fun r1 => z_b2 (f_X6_leastRow a1 126 9 u) (fun r2 u3 => z_lp (b_X8_betaOf_21 a1 a3 r1 r2) z_F (0, u3) (fun t13 => Option.bind (f_X8_valuesIn r1 t13) (fun r14 => z_lt (1 + r14) (fun v15 => if ((z_bitc a3) &&& 1) = 0 then (some (v15, t13)) else (some (-v15, t13)))))))
set_option maxRecDepth 20000 in
set_option maxHeartbeats 4000000 in
theorem wb_X8_betaOf_21 {p : Program} {l : Launch} {e : Env} {R : Room} {s : State} {m : MethodId} {args : Array Value} {below : List Frame} {meth : Method} {c : Code} {g : z_G} {u : z_M} {res : Int32 × z_M} (hR : R = z_rm 4) (X : z_X p R s m args meth c cX8_betaOf 8 RX8 wsX8_betaOf (some .int) g z_shC) (x1 : Nat) (x3 : Int32) (x4 : Int32) (x5 : Int32) (ex1 : z_PO x1) (q : Int32 × z_M) (kb : (Int32 × z_M) → Option (Int32 × z_M)) (kx : z_M → Option (Int32 × z_M)) (hkb : ∀ q, kb q = some res → z_V p l e R s m args below meth c 8 g z_shC (MQ below (z_Qc g z_shC (fun v u' => v = some (.int res.1) ∧ u' = res.2)) args s 0 0 (z_A g z_shC)) 21 [(0, .ref (z_ad g 125)), (1, .ref (z_ad g x1)), (3, .int x3), (4, .int x4), (5, .int x5), (6, .int q.1)] [] q.2) (hkx : ∀ t, kx t = some res → z_V p l e R s m args below meth c 8 g z_shC (MQ below (z_Qc g z_shC (fun v u' => v = some (.int res.1) ∧ u' = res.2)) args s 0 0 (z_A g z_shC)) 76 [(0, .ref (z_ad g 125)), (3, .int x3), (4, .int x4)] [] t) (h : b_X8_betaOf_21 x1 x3 x4 x5 q kb kx = some res) : z_V p l e R s m args below meth c 8 g z_shC (MQ below (z_Qc g z_shC (fun v u' => v = some (.int res.1) ∧ u' = res.2)) args s 0 0 (z_A g z_shC)) 21 [(0, .ref (z_ad g 125)), (1, .ref (z_ad g x1)), (3, .int x3), (4, .int x4), (5, .int x5), (6, .int q.1)] [] q.2 := by
  unfold b_X8_betaOf_21 at h
  refine z_iload X 5 dX8_betaOf_21 rfl (z_iload X 4 dX8_betaOf_23 rfl (z_icmp_ge X 76 dX8_betaOf_25 (by decide) (fun c4 => ?_) (fun c4 => ?_)))
  · replace h := z_ip c4 h
    refine z_sub [0, 2, 3] [(0, .ref (z_ad g 125)), (3, .int x3), (4, .int x4)] rfl ?_
    exact hkx q.2 h
  · replace h := z_in c4 h
    obtain ⟨b5, h⟩ := z_gs h
    obtain ⟨v6, ev6, h⟩ := z_ls h
    obtain ⟨r7, er7, h⟩ := z_bs h
    refine z_aload_n X 0 dX8_betaOf_28 rfl rfl (z_getR X (k0 := 0) z_c125 rfl in_X8_betaOf_X8 (by decide) rfl rfl lk_X8_betaOf_9 dX8_betaOf_29 (z_iload X 5 dX8_betaOf_32 rfl (z_iald X z_c126 (z_inS b5) dX8_betaOf_34 (z_ti ev6 (z_istore X [(7, .int v6), (0, .ref (z_ad g 125)), (1, .ref (z_ad g x1)), (3, .int x3), (4, .int x4), (5, .int x5), (6, .int q.1)] dX8_betaOf_35 (by decide) rfl (z_iload X 4 dX8_betaOf_37 rfl (z_iload X 0 dX8_betaOf_39 rfl (z_callNi X (r := r7) (u1 := q.2) [.int x4, .int v6] [] (w_X9_isIn l g x4 v6 q.2 er7) gX8_betaOf_X9_isIn_n33 nn_X8 ini_X9_isIn_X8_betaOf sta_X9_isIn_X8_betaOf hy_X9_isIn.2 rfl (z_le1 hR (by decide)) (z_le2 hR (by decide) (by decide)) (Nat.le_of_ble_eq_true rfl) dX8_betaOf_41 (z_if_eq X 70 dX8_betaOf_44 (by decide) (fun c8 => ?_) (fun c8 => ?_))))))))))
    · replace h := z_ip c8 h
      refine z_iinc X (v := q.1 + 1) 6 [(6, .int (q.1 + 1)), (7, .int v6), (0, .ref (z_ad g 125)), (1, .ref (z_ad g x1)), (3, .int x3), (4, .int x4), (5, .int x5)] dX8_betaOf_70 rfl rfl (by decide) rfl (z_goto X 21 dX8_betaOf_73 (by decide) (z_sub [2, 3, 4, 5, 6, 0] [(0, .ref (z_ad g 125)), (1, .ref (z_ad g x1)), (3, .int x3), (4, .int x4), (5, .int x5), (6, .int (q.1 + 1))] rfl ?_))
      exact hkb (q.1 + 1, q.2) h
    · replace h := z_in c8 h
      obtain ⟨b9, h⟩ := z_gs h
      obtain ⟨r10, er10, h⟩ := z_bs h
      obtain ⟨b11, h⟩ := z_gs h
      obtain ⟨u12, eu12, h⟩ := z_ls h
      refine z_aload_n X 1 dX8_betaOf_47 rfl rfl (z_getR X (k0 := 2) z_c125 rfl in_X8_betaOf_X8 (by decide) rfl rfl lk_X8_betaOf_18 dX8_betaOf_48 (z_iload X 0 dX8_betaOf_51 rfl (z_iconst X (v := (-1)) dX8_betaOf_53 (by decide) (z_aload_n X 1 dX8_betaOf_54 rfl rfl (z_aload_n X 2 dX8_betaOf_55 rfl rfl (z_getR X (k0 := 4) (z_po ex1) rfl in_X8_betaOf_X6 (by decide) rfl rfl lk_X8_betaOf_37 dX8_betaOf_56 (z_iload X 0 dX8_betaOf_59 rfl (z_iald X (z_poU ex1) (z_inS b9) dX8_betaOf_61 (z_iload X 4 dX8_betaOf_62 rfl (z_iand X dX8_betaOf_64 (z_callVi X (r := r10) (u1 := q.2) [.int ((z_gI q.2 (x1 + 2) v6.toNatClampNeg) &&& x4)] [.int (-1), .int v6, .ref (z_ad g 128)] (w_X8_valuesIn l g ((z_gI q.2 (x1 + 2) v6.toNatClampNeg) &&& x4) q.2 er10) z_c125 rfl gX8_betaOf_X8_valuesIn hy_X8_valuesIn rfl (z_le1 hR (by decide)) (z_le2 hR (by decide) (by decide)) (Nat.le_of_ble_eq_true rfl) dX8_betaOf_65 (z_isub X dX8_betaOf_68 (z_iast X z_c128 (z_inS b11) dX8_betaOf_69 (z_nm eu12 (z_iinc X (v := q.1 + 1) 6 [(6, .int (q.1 + 1)), (7, .int v6), (0, .ref (z_ad g 125)), (1, .ref (z_ad g x1)), (3, .int x3), (4, .int x4), (5, .int x5)] dX8_betaOf_70 rfl rfl (by decide) rfl (z_goto X 21 dX8_betaOf_73 (by decide) (z_sub [2, 3, 4, 5, 6, 0] [(0, .ref (z_ad g 125)), (1, .ref (z_ad g x1)), (3, .int x3), (4, .int x4), (5, .int x5), (6, .int (q.1 + 1))] rfl ?_)))))))))))))))))
      exact hkb (q.1 + 1, u12) h
set_option maxRecDepth 20000 in
set_option maxHeartbeats 4000000 in
theorem w_X8_betaOf (l : Launch) (g : z_G) (a1 : Nat) (a2 : Int32) (a3 : Int32) (ea1 : z_PO a1) (u : z_M) {res : Int32 × z_M} (h : f_X8_betaOf a1 a2 a3 u = some res) : z_C l g z_shC yX8_betaOf wsX8_betaOf 4 [.ref (z_ad g 125), .ref (z_ad g a1), .int a2, .int a3] u (fun v u' => v = some (.int res.1) ∧ u' = res.2) := by
  refine z_C.mk (lv := [(0, .ref (z_ad g 125)), (1, .ref (z_ad g a1)), (2, .int a2), (3, .int a3)]) (cc := cX8_betaOf) (nL := 8) (rt := (some .int)) rfl (by decide) (Nat.le_of_ble_eq_true rfl) rfl (fun p e R s m args below meth c hR X => ?_)
  unfold f_X8_betaOf at h
  obtain ⟨r1, er1, h⟩ := z_bs h
  obtain ⟨r2, u3, er2, h⟩ := z_b2s h
  refine z_aload_n X 0 dX8_betaOf_0 rfl rfl (z_iload_n X 2 dX8_betaOf_1 rfl rfl (z_iload_n X 3 dX8_betaOf_2 rfl rfl (z_callVi X (r := r1) (u1 := u) [.int a2, .int a3] [] (w_X8_atHeights l g a2 a3 u er1) z_c125 rfl gX8_betaOf_X8_atHeights hy_X8_atHeights rfl (z_le1 hR (by decide)) (z_le2 hR (by decide) (by decide)) (Nat.le_of_ble_eq_true rfl) dX8_betaOf_3 (z_istore X [(4, .int r1), (0, .ref (z_ad g 125)), (1, .ref (z_ad g a1)), (2, .int a2), (3, .int a3)] dX8_betaOf_6 (by decide) rfl (z_aload_n X 2 dX8_betaOf_8 rfl rfl (z_aload_n X 1 dX8_betaOf_9 rfl rfl (z_getR X (k0 := 0) z_c125 rfl in_X8_betaOf_X8 (by decide) rfl rfl lk_X8_betaOf_9 dX8_betaOf_10 (z_callVi X (r := r2) (u1 := u3) [.ref (z_ad g 126)] [] (w_X6_leastRow l g a1 126 9 ea1 z_c126 u er2) (z_po ea1) rfl gX8_betaOf_X6_leastRow hy_X6_leastRow rfl (z_le1 hR (by decide)) (z_le2 hR (by decide) (by decide)) (Nat.le_of_ble_eq_true rfl) dX8_betaOf_13 (z_istore X [(5, .int r2), (4, .int r1), (0, .ref (z_ad g 125)), (1, .ref (z_ad g a1)), (2, .int a2), (3, .int a3)] dX8_betaOf_16 (by decide) rfl (z_iconst X (v := 0) dX8_betaOf_18 (by decide) (z_istore X [(6, .int 0), (5, .int r2), (4, .int r1), (0, .ref (z_ad g 125)), (1, .ref (z_ad g a1)), (2, .int a2), (3, .int a3)] dX8_betaOf_19 (by decide) rfl (z_sub [3, 4, 6, 2, 1, 0] [(0, .ref (z_ad g 125)), (1, .ref (z_ad g a1)), (3, .int a3), (4, .int r1), (5, .int r2), (6, .int 0)] rfl ?_))))))))))))
  have hw := z_lp_w (fun q9 kb9 kx9 h1 h2 h3 => wb_X8_betaOf_21 (l := l) (e := e) (below := below) (u := u3) hR X a1 a3 r1 r2 ea1 q9 kb9 kx9 h1 h2 h3) z_F _ _ h
  refine hw (fun t13 h => ?_)
  obtain ⟨r14, er14, h⟩ := z_bs h
  obtain ⟨v15, ev15, h⟩ := z_ls h
  refine z_iconst X (v := 1) dX8_betaOf_76 (by decide) (z_aload_n X 0 dX8_betaOf_77 rfl rfl (z_iload X 2 dX8_betaOf_78 rfl (z_callVi X (r := r14) (u1 := t13) [.int r1] [.int 1] (w_X8_valuesIn l g r1 t13 er14) z_c125 rfl gX8_betaOf_X8_valuesIn hy_X8_valuesIn rfl (z_le1 hR (by decide)) (z_le2 hR (by decide) (by decide)) (Nat.le_of_ble_eq_true rfl) dX8_betaOf_80 (z_iadd X dX8_betaOf_83 (z_ti ev15 (z_istore X [(6, .int v15), (0, .ref (z_ad g 125)), (3, .int a3), (4, .int r1)] dX8_betaOf_84 (by decide) rfl (z_iload_n X 2 dX8_betaOf_86 rfl rfl (z_callSi X (r := z_bitc a3) (u1 := t13) [.int a3] [] (w_bitc l g z_shC a3 t13) gX8_betaOf_J6_bitCount_0f7a4 hy_J6_bitCount_0f7a4.2 rfl (z_le1 hR (by decide)) (z_le2 hR (by decide) (by decide)) (Nat.le_of_ble_eq_true rfl) dX8_betaOf_87 (z_iconst X (v := 1) dX8_betaOf_90 (by decide) (z_iand X dX8_betaOf_91 (z_if_ne X 100 dX8_betaOf_92 (by decide) (fun c16 => ?_) (fun c16 => ?_))))))))))))
  · replace h := z_in c16 h
    refine z_iload X 0 dX8_betaOf_100 rfl (z_ineg X dX8_betaOf_102 ?_)
    cases h; exact z_iret X rfl dX8_betaOf_103 ⟨rfl, rfl⟩
  · replace h := z_ip c16 h
    refine z_iload X 0 dX8_betaOf_95 rfl (z_goto X 103 dX8_betaOf_97 (by decide) ?_)
    cases h; exact z_iret X rfl dX8_betaOf_103 ⟨rfl, rfl⟩

theorem lk_X8_addStep_21 : (Cond.fieldLink RX8 21 RX8 (TX8 3).2.1 (TX8 3).2.2.1) ∈ wsX8_addStep := by decide +kernel
theorem in_X8_addStep_X8 : ∀ w ∈ u_ws RX8 TX8 5, w ∈ wsX8_addStep := by decide +kernel
def b_X8_addStep_2 (x1 : Int32) (x2 : Int32) : (Int32 × z_M) → ((Int32 × z_M) → Option (z_M)) → (z_M → Option (z_M)) → Option (z_M) := fun q kb kx =>
  if 9 ≤ q.1 then (kx q.2) else (z_gd (z_inb ((x2 * 9) + q.1) 81) (z_gd (z_inb (((x1 * 9) + q.1) - 1) 81) (z_gd (z_inb ((x2 * 9) + q.1) 81) (z_lt (z_sI q.2 129 ((x2 * 9) + q.1).toNatClampNeg ((z_gI q.2 129 ((x2 * 9) + q.1).toNatClampNeg) + (z_gI q.2 129 (((x1 * 9) + q.1) - 1).toNatClampNeg))) (fun u5 => kb (q.1 + 1, u5))))))
def f_X8_addStep (a1 : Int32) (a2 : Int32) (u : z_M) : Option (z_M) :=
  z_lp (b_X8_addStep_2 a1 a2) z_F (1, u) (fun t6 => some t6)
set_option maxRecDepth 20000 in
set_option maxHeartbeats 4000000 in
theorem wb_X8_addStep_2 {p : Program} {l : Launch} {e : Env} {R : Room} {s : State} {m : MethodId} {args : Array Value} {below : List Frame} {meth : Method} {c : Code} {g : z_G} {u : z_M} {res : z_M} (hR : R = z_rm 1) (X : z_X p R s m args meth c cX8_addStep 4 RX8 wsX8_addStep none g z_shC) (x1 : Int32) (x2 : Int32) (q : Int32 × z_M) (kb : (Int32 × z_M) → Option (z_M)) (kx : z_M → Option (z_M)) (hkb : ∀ q, kb q = some res → z_V p l e R s m args below meth c 4 g z_shC (MQ below (z_Qc g z_shC (fun v u' => v = none ∧ u' = res)) args s 0 0 (z_A g z_shC)) 2 [(0, .ref (z_ad g 125)), (1, .int x1), (2, .int x2), (3, .int q.1)] [] q.2) (hkx : ∀ t, kx t = some res → z_V p l e R s m args below meth c 4 g z_shC (MQ below (z_Qc g z_shC (fun v u' => v = none ∧ u' = res)) args s 0 0 (z_A g z_shC)) 41 [] [] t) (h : b_X8_addStep_2 x1 x2 q kb kx = some res) : z_V p l e R s m args below meth c 4 g z_shC (MQ below (z_Qc g z_shC (fun v u' => v = none ∧ u' = res)) args s 0 0 (z_A g z_shC)) 2 [(0, .ref (z_ad g 125)), (1, .int x1), (2, .int x2), (3, .int q.1)] [] q.2 := by
  unfold b_X8_addStep_2 at h
  refine z_iload_n X 3 dX8_addStep_2 rfl rfl (z_bipush X (v := 9) dX8_addStep_3 (by decide) (z_icmp_ge X 41 dX8_addStep_5 (by decide) (fun c1 => ?_) (fun c1 => ?_)))
  · replace h := z_ip c1 h
    refine z_sub [] [] rfl ?_
    exact hkx q.2 h
  · replace h := z_in c1 h
    obtain ⟨b2, h⟩ := z_gs h
    obtain ⟨b3, h⟩ := z_gs h
    obtain ⟨b4, h⟩ := z_gs h
    obtain ⟨u5, eu5, h⟩ := z_ls h
    refine z_aload_n X 0 dX8_addStep_8 rfl rfl (z_getR X (k0 := 3) z_c125 rfl in_X8_addStep_X8 (by decide) rfl rfl lk_X8_addStep_21 dX8_addStep_9 (z_iload_n X 2 dX8_addStep_12 rfl rfl (z_bipush X (v := 9) dX8_addStep_13 (by decide) (z_imul X dX8_addStep_15 (z_iload_n X 3 dX8_addStep_16 rfl rfl (z_iadd X dX8_addStep_17 (z_dup2 X dX8_addStep_18 rfl rfl (z_iald X z_c129 (z_inS b2) dX8_addStep_19 (z_aload_n X 0 dX8_addStep_20 rfl rfl (z_getR X (k0 := 3) z_c125 rfl in_X8_addStep_X8 (by decide) rfl rfl lk_X8_addStep_21 dX8_addStep_21 (z_iload_n X 1 dX8_addStep_24 rfl rfl (z_bipush X (v := 9) dX8_addStep_25 (by decide) (z_imul X dX8_addStep_27 (z_iload_n X 3 dX8_addStep_28 rfl rfl (z_iadd X dX8_addStep_29 (z_iconst X (v := 1) dX8_addStep_30 (by decide) (z_isub X dX8_addStep_31 (z_iald X z_c129 (z_inS b3) dX8_addStep_32 (z_iadd X dX8_addStep_33 (z_iast X z_c129 (z_inS b4) dX8_addStep_34 (z_nm eu5 (z_iinc X (v := q.1 + 1) 3 [(3, .int (q.1 + 1)), (0, .ref (z_ad g 125)), (1, .int x1), (2, .int x2)] dX8_addStep_35 rfl rfl (by decide) rfl (z_goto X 2 dX8_addStep_38 (by decide) (z_sub [1, 2, 3, 0] [(0, .ref (z_ad g 125)), (1, .int x1), (2, .int x2), (3, .int (q.1 + 1))] rfl ?_))))))))))))))))))))))))
    exact hkb (q.1 + 1, u5) h
set_option maxRecDepth 20000 in
set_option maxHeartbeats 4000000 in
theorem w_X8_addStep (l : Launch) (g : z_G) (a1 : Int32) (a2 : Int32) (u : z_M) {res : z_M} (h : f_X8_addStep a1 a2 u = some res) : z_C l g z_shC yX8_addStep wsX8_addStep 1 [.ref (z_ad g 125), .int a1, .int a2] u (fun v u' => v = none ∧ u' = res) := by
  refine z_C.mk (lv := [(0, .ref (z_ad g 125)), (1, .int a1), (2, .int a2)]) (cc := cX8_addStep) (nL := 4) (rt := none) rfl (by decide) (Nat.le_of_ble_eq_true rfl) rfl (fun p e R s m args below meth c hR X => ?_)
  unfold f_X8_addStep at h
  refine z_iconst X (v := 1) dX8_addStep_0 (by decide) (z_istore_n X [(3, .int 1), (0, .ref (z_ad g 125)), (1, .int a1), (2, .int a2)] dX8_addStep_1 rfl (by decide) rfl (z_sub [1, 2, 3, 0] [(0, .ref (z_ad g 125)), (1, .int a1), (2, .int a2), (3, .int 1)] rfl ?_))
  have hw := z_lp_w (fun q9 kb9 kx9 h1 h2 h3 => wb_X8_addStep_2 (l := l) (e := e) (below := below) (u := u) hR X a1 a2 q9 kb9 kx9 h1 h2 h3) z_F _ _ h
  refine hw (fun t6 h => ?_)
  cases h; exact z_vret X rfl dX8_addStep_41 ⟨rfl, rfl⟩

theorem lk_X8_walk_21 : (Cond.fieldLink RX8 21 RX8 (TX8 3).2.1 (TX8 3).2.2.1) ∈ wsX8_walk := by decide +kernel
theorem in_X8_walk_X8 : ∀ w ∈ u_ws RX8 TX8 5, w ∈ wsX8_walk := fun _ h => List.mem_cons_of_mem _ (List.mem_append_left _ (List.mem_append_right _ h))
theorem lk_X8_walk_9 : (Cond.fieldLink RX8 9 RX8 (TX8 0).2.1 (TX8 0).2.2.1) ∈ wsX8_walk := by decide +kernel
theorem ini_X9_isIn_X8_walk : Cond.initialized yX9_isIn.cls ∈ wsX8_walk := by decide +kernel
theorem sta_X9_isIn_X8_walk : Cond.static yX9_isIn ∈ wsX8_walk := by decide +kernel
theorem lk_X8_walk_37 : (Cond.fieldLink RX8 37 RX6 (TX6 4).2.1 (TX6 4).2.2.1) ∈ wsX8_walk := by decide +kernel
theorem in_X8_walk_X6 : ∀ w ∈ u_ws RX6 TX6 6, w ∈ wsX8_walk := fun _ h => List.mem_cons_of_mem _ (List.mem_append_right _ h)
theorem hy_X8_addStep : yX8_addStep.cls = RX8 ∧ yX8_addStep.cls ≠ "java/lang/invoke/MethodHandle" ∧ yX8_addStep.cls ≠ "java/lang/invoke/VarHandle" ∧ (parseMethodDescriptor yX8_addStep.desc).map (fun d => d.parameters.length) = some 2 := by decide +kernel
def b_X8_walk_69 (x1 : Nat) (x2 : Int32) (x3 : Int32) (x4 : Int32) (x5 : Int32) (x6 : Int32) : (Int32 × z_M) → ((Int32 × z_M) → Option (z_M)) → (z_M → Option (z_M)) → Option (z_M) := fun q kb kx =>
  if 9 ≤ q.1 then (kx q.2) else (z_gd (z_inb x6 9) (Option.bind (f_X9_isIn ((z_gI q.2 (x1 + 2) x6.toNatClampNeg) &&& x3) q.1) (fun r14 => if r14 = 0 then (kb (q.1 + 1, q.2)) else (Option.bind (f_X8_addStep q.1 x6 q.2) (fun r16 => kb (q.1 + 1, r16))))))
def b_X8_walk_21 (x1 : Nat) (x2 : Int32) (x3 : Int32) (x4 : Int32) : (Int32 × z_M) → ((Int32 × z_M) → Option (z_M)) → (z_M → Option (z_M)) → Option (z_M) := fun q kb kx =>
  if x4 ≤ q.1 then (kx q.2) else (z_gd (z_inb q.1 9) (z_lt (z_gI q.2 126 q.1.toNatClampNeg) (fun v6 => Option.bind (f_X9_isIn x3 v6) (fun r7 => if r7 = 0 then (kb (q.1 + 1, q.2)) else (if v6 = x2 then (z_gd (z_inb (v6 * 9) 81) (z_lt (z_sI q.2 129 (v6 * 9).toNatClampNeg 1) (fun u11 => z_lp (b_X8_walk_69 x1 x2 x3 x4 q.1 v6) z_F (0, u11) (fun t17 => kb (q.1 + 1, t17))))) else (z_lp (b_X8_walk_69 x1 x2 x3 x4 q.1 v6) z_F (0, q.2) (fun t18 => kb (q.1 + 1, t18))))))))
def f_X8_walk (a1 : Nat) (a2 : Int32) (a3 : Int32) (u : z_M) : Option (z_M) :=
  z_lt (z_fill u 129 81 0) (fun u1 => z_b2 (f_X6_leastRow a1 126 9 u1) (fun r2 u3 => z_lp (b_X8_walk_21 a1 a2 a3 r2) z_F (0, u3) (fun t19 => some t19)))
set_option maxRecDepth 20000 in
set_option maxHeartbeats 4000000 in
theorem wb_X8_walk_69 {p : Program} {l : Launch} {e : Env} {R : Room} {s : State} {m : MethodId} {args : Array Value} {below : List Frame} {meth : Method} {c : Code} {g : z_G} {u : z_M} {res : z_M} (hR : R = z_rm 4) (X : z_X p R s m args meth c cX8_walk 8 RX8 wsX8_walk none g z_shC) (x1 : Nat) (x2 : Int32) (x3 : Int32) (x4 : Int32) (x5 : Int32) (x6 : Int32) (ex1 : z_PO x1) (q : Int32 × z_M) (kb : (Int32 × z_M) → Option (z_M)) (kx : z_M → Option (z_M)) (hkb : ∀ q, kb q = some res → z_V p l e R s m args below meth c 8 g z_shC (MQ below (z_Qc g z_shC (fun v u' => v = none ∧ u' = res)) args s 0 0 (z_A g z_shC)) 69 [(0, .ref (z_ad g 125)), (1, .ref (z_ad g x1)), (2, .int x2), (3, .int x3), (4, .int x4), (5, .int x5), (6, .int x6), (7, .int q.1)] [] q.2) (hkx : ∀ t, kx t = some res → z_V p l e R s m args below meth c 8 g z_shC (MQ below (z_Qc g z_shC (fun v u' => v = none ∧ u' = res)) args s 0 0 (z_A g z_shC)) 107 [(0, .ref (z_ad g 125)), (1, .ref (z_ad g x1)), (2, .int x2), (3, .int x3), (4, .int x4), (5, .int x5)] [] t) (h : b_X8_walk_69 x1 x2 x3 x4 x5 x6 q kb kx = some res) : z_V p l e R s m args below meth c 8 g z_shC (MQ below (z_Qc g z_shC (fun v u' => v = none ∧ u' = res)) args s 0 0 (z_A g z_shC)) 69 [(0, .ref (z_ad g 125)), (1, .ref (z_ad g x1)), (2, .int x2), (3, .int x3), (4, .int x4), (5, .int x5), (6, .int x6), (7, .int q.1)] [] q.2 := by
  unfold b_X8_walk_69 at h
  refine z_iload X 7 dX8_walk_69 rfl (z_bipush X (v := 9) dX8_walk_71 (by decide) (z_icmp_ge X 107 dX8_walk_73 (by decide) (fun c12 => ?_) (fun c12 => ?_)))
  · replace h := z_ip c12 h
    refine z_sub [0, 1, 2, 3, 4, 5] [(0, .ref (z_ad g 125)), (1, .ref (z_ad g x1)), (2, .int x2), (3, .int x3), (4, .int x4), (5, .int x5)] rfl ?_
    exact hkx q.2 h
  · replace h := z_in c12 h
    obtain ⟨b13, h⟩ := z_gs h
    obtain ⟨r14, er14, h⟩ := z_bs h
    refine z_aload_n X 1 dX8_walk_76 rfl rfl (z_getR X (k0 := 4) (z_po ex1) rfl in_X8_walk_X6 (by decide) rfl rfl lk_X8_walk_37 dX8_walk_77 (z_iload X 6 dX8_walk_80 rfl (z_iald X (z_poU ex1) (z_inS b13) dX8_walk_82 (z_iload_n X 3 dX8_walk_83 rfl rfl (z_iand X dX8_walk_84 (z_iload X 7 dX8_walk_85 rfl (z_callNi X (r := r14) (u1 := q.2) [.int ((z_gI q.2 (x1 + 2) x6.toNatClampNeg) &&& x3), .int q.1] [] (w_X9_isIn l g ((z_gI q.2 (x1 + 2) x6.toNatClampNeg) &&& x3) q.1 q.2 er14) gX8_walk_X9_isIn_n33 nn_X8 ini_X9_isIn_X8_walk sta_X9_isIn_X8_walk hy_X9_isIn.2 rfl (z_le1 hR (by decide)) (z_le2 hR (by decide) (by decide)) (Nat.le_of_ble_eq_true rfl) dX8_walk_87 (z_if_eq X 101 dX8_walk_90 (by decide) (fun c15 => ?_) (fun c15 => ?_)))))))))
    · replace h := z_ip c15 h
      refine z_iinc X (v := q.1 + 1) 7 [(7, .int (q.1 + 1)), (0, .ref (z_ad g 125)), (1, .ref (z_ad g x1)), (2, .int x2), (3, .int x3), (4, .int x4), (5, .int x5), (6, .int x6)] dX8_walk_101 rfl rfl (by decide) rfl (z_goto X 69 dX8_walk_104 (by decide) (z_sub [1, 2, 3, 4, 5, 6, 7, 0] [(0, .ref (z_ad g 125)), (1, .ref (z_ad g x1)), (2, .int x2), (3, .int x3), (4, .int x4), (5, .int x5), (6, .int x6), (7, .int (q.1 + 1))] rfl ?_))
      exact hkb (q.1 + 1, q.2) h
    · replace h := z_in c15 h
      obtain ⟨r16, er16, h⟩ := z_bs h
      refine z_aload_n X 0 dX8_walk_93 rfl rfl (z_iload X 7 dX8_walk_94 rfl (z_iload X 6 dX8_walk_96 rfl (z_callVv X (u1 := r16) [.int q.1, .int x6] [] (w_X8_addStep l g q.1 x6 q.2 er16) z_c125 rfl gX8_walk_X8_addStep hy_X8_addStep rfl (z_le1 hR (by decide)) (z_le2 hR (by decide) (by decide)) (Nat.le_of_ble_eq_true rfl) dX8_walk_98 (z_iinc X (v := q.1 + 1) 7 [(7, .int (q.1 + 1)), (0, .ref (z_ad g 125)), (1, .ref (z_ad g x1)), (2, .int x2), (3, .int x3), (4, .int x4), (5, .int x5), (6, .int x6)] dX8_walk_101 rfl rfl (by decide) rfl (z_goto X 69 dX8_walk_104 (by decide) (z_sub [1, 2, 3, 4, 5, 6, 7, 0] [(0, .ref (z_ad g 125)), (1, .ref (z_ad g x1)), (2, .int x2), (3, .int x3), (4, .int x4), (5, .int x5), (6, .int x6), (7, .int (q.1 + 1))] rfl ?_))))))
      exact hkb (q.1 + 1, r16) h
set_option maxRecDepth 20000 in
set_option maxHeartbeats 4000000 in
theorem wb_X8_walk_21 {p : Program} {l : Launch} {e : Env} {R : Room} {s : State} {m : MethodId} {args : Array Value} {below : List Frame} {meth : Method} {c : Code} {g : z_G} {u : z_M} {res : z_M} (hR : R = z_rm 4) (X : z_X p R s m args meth c cX8_walk 8 RX8 wsX8_walk none g z_shC) (x1 : Nat) (x2 : Int32) (x3 : Int32) (x4 : Int32) (ex1 : z_PO x1) (q : Int32 × z_M) (kb : (Int32 × z_M) → Option (z_M)) (kx : z_M → Option (z_M)) (hkb : ∀ q, kb q = some res → z_V p l e R s m args below meth c 8 g z_shC (MQ below (z_Qc g z_shC (fun v u' => v = none ∧ u' = res)) args s 0 0 (z_A g z_shC)) 21 [(0, .ref (z_ad g 125)), (1, .ref (z_ad g x1)), (2, .int x2), (3, .int x3), (4, .int x4), (5, .int q.1)] [] q.2) (hkx : ∀ t, kx t = some res → z_V p l e R s m args below meth c 8 g z_shC (MQ below (z_Qc g z_shC (fun v u' => v = none ∧ u' = res)) args s 0 0 (z_A g z_shC)) 113 [] [] t) (h : b_X8_walk_21 x1 x2 x3 x4 q kb kx = some res) : z_V p l e R s m args below meth c 8 g z_shC (MQ below (z_Qc g z_shC (fun v u' => v = none ∧ u' = res)) args s 0 0 (z_A g z_shC)) 21 [(0, .ref (z_ad g 125)), (1, .ref (z_ad g x1)), (2, .int x2), (3, .int x3), (4, .int x4), (5, .int q.1)] [] q.2 := by
  unfold b_X8_walk_21 at h
  refine z_iload X 5 dX8_walk_21 rfl (z_iload X 4 dX8_walk_23 rfl (z_icmp_ge X 113 dX8_walk_25 (by decide) (fun c4 => ?_) (fun c4 => ?_)))
  · replace h := z_ip c4 h
    refine z_sub [] [] rfl ?_
    exact hkx q.2 h
  · replace h := z_in c4 h
    obtain ⟨b5, h⟩ := z_gs h
    obtain ⟨v6, ev6, h⟩ := z_ls h
    obtain ⟨r7, er7, h⟩ := z_bs h
    refine z_aload_n X 0 dX8_walk_28 rfl rfl (z_getR X (k0 := 0) z_c125 rfl in_X8_walk_X8 (by decide) rfl rfl lk_X8_walk_9 dX8_walk_29 (z_iload X 5 dX8_walk_32 rfl (z_iald X z_c126 (z_inS b5) dX8_walk_34 (z_ti ev6 (z_istore X [(6, .int v6), (0, .ref (z_ad g 125)), (1, .ref (z_ad g x1)), (2, .int x2), (3, .int x3), (4, .int x4), (5, .int q.1)] dX8_walk_35 (by decide) rfl (z_iload_n X 4 dX8_walk_37 rfl rfl (z_iload X 0 dX8_walk_38 rfl (z_callNi X (r := r7) (u1 := q.2) [.int x3, .int v6] [] (w_X9_isIn l g x3 v6 q.2 er7) gX8_walk_X9_isIn_n33 nn_X8 ini_X9_isIn_X8_walk sta_X9_isIn_X8_walk hy_X9_isIn.2 rfl (z_le1 hR (by decide)) (z_le2 hR (by decide) (by decide)) (Nat.le_of_ble_eq_true rfl) dX8_walk_40 (z_if_ne X 49 dX8_walk_43 (by decide) (fun c8 => ?_) (fun c8 => ?_))))))))))
    · replace h := z_in c8 h
      refine z_iload X 0 dX8_walk_49 rfl (z_iload_n X 3 dX8_walk_51 rfl rfl (z_icmp_ne X 66 dX8_walk_52 (by decide) (fun c9 => ?_) (fun c9 => ?_)))
      · replace h := z_in c9 h
        refine z_iconst X (v := 0) dX8_walk_66 (by decide) (z_istore X [(7, .int 0), (6, .int v6), (0, .ref (z_ad g 125)), (1, .ref (z_ad g x1)), (2, .int x2), (3, .int x3), (4, .int x4), (5, .int q.1)] dX8_walk_67 (by decide) rfl (z_sub [2, 3, 4, 5, 6, 7, 1, 0] [(0, .ref (z_ad g 125)), (1, .ref (z_ad g x1)), (2, .int x2), (3, .int x3), (4, .int x4), (5, .int q.1), (6, .int v6), (7, .int 0)] rfl ?_))
        have hw := z_lp_w (fun q9 kb9 kx9 h1 h2 h3 => wb_X8_walk_69 (l := l) (e := e) (below := below) (u := q.2) hR X x1 x2 x3 x4 q.1 v6 ex1 q9 kb9 kx9 h1 h2 h3) z_F _ _ h
        refine hw (fun t18 h => ?_)
        refine z_iinc X (v := q.1 + 1) 5 [(5, .int (q.1 + 1)), (0, .ref (z_ad g 125)), (1, .ref (z_ad g x1)), (2, .int x2), (3, .int x3), (4, .int x4)] dX8_walk_107 rfl rfl (by decide) rfl (z_goto X 21 dX8_walk_110 (by decide) (z_sub [1, 2, 3, 4, 5, 0] [(0, .ref (z_ad g 125)), (1, .ref (z_ad g x1)), (2, .int x2), (3, .int x3), (4, .int x4), (5, .int (q.1 + 1))] rfl ?_))
        exact hkb (q.1 + 1, t18) h
      · replace h := z_ip c9 h
        obtain ⟨b10, h⟩ := z_gs h
        obtain ⟨u11, eu11, h⟩ := z_ls h
        refine z_aload_n X 1 dX8_walk_55 rfl rfl (z_getR X (k0 := 3) z_c125 rfl in_X8_walk_X8 (by decide) rfl rfl lk_X8_walk_21 dX8_walk_56 (z_iload X 0 dX8_walk_59 rfl (z_bipush X (v := 9) dX8_walk_61 (by decide) (z_imul X dX8_walk_63 (z_iconst X (v := 1) dX8_walk_64 (by decide) (z_iast X z_c129 (z_inS b10) dX8_walk_65 (z_nm eu11 (z_iconst X (v := 0) dX8_walk_66 (by decide) (z_istore X [(7, .int 0), (6, .int v6), (0, .ref (z_ad g 125)), (1, .ref (z_ad g x1)), (2, .int x2), (3, .int x3), (4, .int x4), (5, .int q.1)] dX8_walk_67 (by decide) rfl (z_sub [2, 3, 4, 5, 6, 7, 1, 0] [(0, .ref (z_ad g 125)), (1, .ref (z_ad g x1)), (2, .int x2), (3, .int x3), (4, .int x4), (5, .int q.1), (6, .int v6), (7, .int 0)] rfl ?_))))))))))
        have hw := z_lp_w (fun q9 kb9 kx9 h1 h2 h3 => wb_X8_walk_69 (l := l) (e := e) (below := below) (u := u11) hR X x1 x2 x3 x4 q.1 v6 ex1 q9 kb9 kx9 h1 h2 h3) z_F _ _ h
        refine hw (fun t17 h => ?_)
        refine z_iinc X (v := q.1 + 1) 5 [(5, .int (q.1 + 1)), (0, .ref (z_ad g 125)), (1, .ref (z_ad g x1)), (2, .int x2), (3, .int x3), (4, .int x4)] dX8_walk_107 rfl rfl (by decide) rfl (z_goto X 21 dX8_walk_110 (by decide) (z_sub [1, 2, 3, 4, 5, 0] [(0, .ref (z_ad g 125)), (1, .ref (z_ad g x1)), (2, .int x2), (3, .int x3), (4, .int x4), (5, .int (q.1 + 1))] rfl ?_))
        exact hkb (q.1 + 1, t17) h
    · replace h := z_ip c8 h
      refine z_goto X 107 dX8_walk_46 (by decide) (z_iinc X (v := q.1 + 1) 6 [(5, .int (q.1 + 1)), (6, .int v6), (0, .ref (z_ad g 125)), (1, .ref (z_ad g x1)), (2, .int x2), (3, .int x3), (4, .int x4)] dX8_walk_107 rfl rfl (by decide) rfl (z_goto X 21 dX8_walk_110 (by decide) (z_sub [2, 3, 4, 5, 6, 0] [(0, .ref (z_ad g 125)), (1, .ref (z_ad g x1)), (2, .int x2), (3, .int x3), (4, .int x4), (5, .int (q.1 + 1))] rfl ?_)))
      exact hkb (q.1 + 1, q.2) h
set_option maxRecDepth 20000 in
set_option maxHeartbeats 4000000 in
theorem w_X8_walk (l : Launch) (g : z_G) (a1 : Nat) (a2 : Int32) (a3 : Int32) (ea1 : z_PO a1) (u : z_M) {res : z_M} (h : f_X8_walk a1 a2 a3 u = some res) : z_C l g z_shC yX8_walk wsX8_walk 4 [.ref (z_ad g 125), .ref (z_ad g a1), .int a2, .int a3] u (fun v u' => v = none ∧ u' = res) := by
  refine z_C.mk (lv := [(0, .ref (z_ad g 125)), (1, .ref (z_ad g a1)), (2, .int a2), (3, .int a3)]) (cc := cX8_walk) (nL := 8) (rt := none) rfl (by decide) (Nat.le_of_ble_eq_true rfl) rfl (fun p e R s m args below meth c hR X => ?_)
  unfold f_X8_walk at h
  obtain ⟨u1, eu1, h⟩ := z_ls h
  obtain ⟨r2, u3, er2, h⟩ := z_b2s h
  refine z_aload_n X 0 dX8_walk_0 rfl rfl (z_getR X (k0 := 3) z_c125 rfl in_X8_walk_X8 (by decide) rfl rfl lk_X8_walk_21 dX8_walk_1 (z_iconst X (v := 0) dX8_walk_4 (by decide) (z_callSv X (u1 := (z_fill u 129 81 0)) [.ref (z_ad g 129), .int 0] [] (w_fill l g z_shC 129 81 z_c129 0 u) gX8_walk_J7_fill_53178 hy_J7_fill_53178.2 rfl (z_le1 hR (by decide)) (z_le2 hR (by decide) (by decide)) (Nat.le_of_ble_eq_true rfl) dX8_walk_5 (z_nm eu1 (z_aload_n X 1 dX8_walk_8 rfl rfl (z_aload_n X 0 dX8_walk_9 rfl rfl (z_getR X (k0 := 0) z_c125 rfl in_X8_walk_X8 (by decide) rfl rfl lk_X8_walk_9 dX8_walk_10 (z_callVi X (r := r2) (u1 := u3) [.ref (z_ad g 126)] [] (w_X6_leastRow l g a1 126 9 ea1 z_c126 u1 er2) (z_po ea1) rfl gX8_walk_X6_leastRow hy_X6_leastRow rfl (z_le1 hR (by decide)) (z_le2 hR (by decide) (by decide)) (Nat.le_of_ble_eq_true rfl) dX8_walk_13 (z_istore X [(4, .int r2), (0, .ref (z_ad g 125)), (1, .ref (z_ad g a1)), (2, .int a2), (3, .int a3)] dX8_walk_16 (by decide) rfl (z_iconst X (v := 0) dX8_walk_18 (by decide) (z_istore X [(5, .int 0), (4, .int r2), (0, .ref (z_ad g 125)), (1, .ref (z_ad g a1)), (2, .int a2), (3, .int a3)] dX8_walk_19 (by decide) rfl (z_sub [2, 3, 4, 5, 1, 0] [(0, .ref (z_ad g 125)), (1, .ref (z_ad g a1)), (2, .int a2), (3, .int a3), (4, .int r2), (5, .int 0)] rfl ?_))))))))))))
  have hw := z_lp_w (fun q9 kb9 kx9 h1 h2 h3 => wb_X8_walk_21 (l := l) (e := e) (below := below) (u := u3) hR X a1 a2 a3 r2 ea1 q9 kb9 kx9 h1 h2 h3) z_F _ _ h
  refine hw (fun t19 h => ?_)
  cases h; exact z_vret X rfl dX8_walk_113 ⟨rfl, rfl⟩

theorem lk_X8_walksTo_21 : (Cond.fieldLink RX8 21 RX8 (TX8 3).2.1 (TX8 3).2.2.1) ∈ wsX8_walksTo := by decide +kernel
theorem in_X8_walksTo_X8 : ∀ w ∈ u_ws RX8 TX8 5, w ∈ wsX8_walksTo := by decide +kernel
def f_X8_walksTo (a1 : Int32) (a2 : Int32) (u : z_M) : Option (Int32) :=
  if a1 < 0 then (some 0) else (if 9 ≤ a1 then (some 0) else (if a2 < 0 then (some 0) else (if 9 ≤ a2 then (some 0) else (z_gd (z_inb ((a1 * 9) + a2) 81) (some (z_gI u 129 ((a1 * 9) + a2).toNatClampNeg))))))
set_option maxRecDepth 20000 in
set_option maxHeartbeats 4000000 in
theorem w_X8_walksTo (l : Launch) (g : z_G) (a1 : Int32) (a2 : Int32) (u : z_M) {res : Int32} (h : f_X8_walksTo a1 a2 u = some res) : z_C l g z_shC yX8_walksTo wsX8_walksTo 1 [.ref (z_ad g 125), .int a1, .int a2] u (fun v u' => v = some (.int res) ∧ u' = u) := by
  refine z_C.mk (lv := [(0, .ref (z_ad g 125)), (1, .int a1), (2, .int a2)]) (cc := cX8_walksTo) (nL := 3) (rt := (some .int)) rfl (by decide) (Nat.le_of_ble_eq_true rfl) rfl (fun p e R s m args below meth c hR X => ?_)
  unfold f_X8_walksTo at h
  refine z_iload_n X 1 dX8_walksTo_0 rfl rfl (z_if_lt X 34 dX8_walksTo_1 (by decide) (fun c1 => ?_) (fun c1 => ?_))
  · replace h := z_ip c1 h
    refine z_iconst X (v := 0) dX8_walksTo_34 (by decide) ?_
    cases h; exact z_iret X rfl dX8_walksTo_35 ⟨rfl, rfl⟩
  · replace h := z_in c1 h
    refine z_iload_n X 1 dX8_walksTo_4 rfl rfl (z_bipush X (v := 9) dX8_walksTo_5 (by decide) (z_icmp_ge X 34 dX8_walksTo_7 (by decide) (fun c2 => ?_) (fun c2 => ?_)))
    · replace h := z_ip c2 h
      refine z_iconst X (v := 0) dX8_walksTo_34 (by decide) ?_
      cases h; exact z_iret X rfl dX8_walksTo_35 ⟨rfl, rfl⟩
    · replace h := z_in c2 h
      refine z_iload_n X 2 dX8_walksTo_10 rfl rfl (z_if_lt X 34 dX8_walksTo_11 (by decide) (fun c3 => ?_) (fun c3 => ?_))
      · replace h := z_ip c3 h
        refine z_iconst X (v := 0) dX8_walksTo_34 (by decide) ?_
        cases h; exact z_iret X rfl dX8_walksTo_35 ⟨rfl, rfl⟩
      · replace h := z_in c3 h
        refine z_iload_n X 2 dX8_walksTo_14 rfl rfl (z_bipush X (v := 9) dX8_walksTo_15 (by decide) (z_icmp_ge X 34 dX8_walksTo_17 (by decide) (fun c4 => ?_) (fun c4 => ?_)))
        · replace h := z_ip c4 h
          refine z_iconst X (v := 0) dX8_walksTo_34 (by decide) ?_
          cases h; exact z_iret X rfl dX8_walksTo_35 ⟨rfl, rfl⟩
        · replace h := z_in c4 h
          obtain ⟨b5, h⟩ := z_gs h
          refine z_aload_n X 0 dX8_walksTo_20 rfl rfl (z_getR X (k0 := 3) z_c125 rfl in_X8_walksTo_X8 (by decide) rfl rfl lk_X8_walksTo_21 dX8_walksTo_21 (z_iload_n X 1 dX8_walksTo_24 rfl rfl (z_bipush X (v := 9) dX8_walksTo_25 (by decide) (z_imul X dX8_walksTo_27 (z_iload_n X 2 dX8_walksTo_28 rfl rfl (z_iadd X dX8_walksTo_29 (z_iald X z_c129 (z_inS b5) dX8_walksTo_30 (z_goto X 35 dX8_walksTo_31 (by decide) ?_))))))))
          cases h; exact z_iret X rfl dX8_walksTo_35 ⟨rfl, rfl⟩
