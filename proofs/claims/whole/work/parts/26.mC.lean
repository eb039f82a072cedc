theorem lk_X8_betaOf_9 : (Cond.fieldLink RX8 9 RX8 (TX8 0).2.1 (TX8 0).2.2.1) ∈ wsX8_betaOf := by decide +kernel
theorem in_X8_betaOf_X8 : ∀ w ∈ u_ws RX8 TX8 5, w ∈ wsX8_betaOf := fun _ h => List.mem_cons_of_mem _ (List.mem_append_left _ (List.mem_append_right _ h))
theorem ini_X9_isIn_X8_betaOf : Cond.initialized yX9_isIn.cls ∈ wsX8_betaOf := by decide +kernel
theorem sta_X9_isIn_X8_betaOf : Cond.static yX9_isIn ∈ wsX8_betaOf := by decide +kernel
theorem lk_X8_betaOf_18 : (Cond.fieldLink RX8 18 RX8 (TX8 2).2.1 (TX8 2).2.2.1) ∈ wsX8_betaOf := by decide +kernel
theorem lk_X8_betaOf_37 : (Cond.fieldLink RX8 37 RX6 (TX6 4).2.1 (TX6 4).2.2.1) ∈ wsX8_betaOf := by decide +kernel
theorem in_X8_betaOf_X6 : ∀ w ∈ u_ws RX6 TX6 6, w ∈ wsX8_betaOf := fun _ h => List.mem_cons_of_mem _ (List.mem_append_right _ h)
def b_X8_betaOf_21 (x1 : Nat) (x3 : Int32) (x4 : Int32) (x5 : Int32) : (Int32 × z_M) → ((Int32 × z_M) → Option (Int32 × z_M)) → (z_M → Option (Int32 × z_M)) → Option (Int32 × z_M) := fun q kb kx =>
  if x5 ≤ q.1 then (kx q.2) else (z_gd (z_inb q.1 9) (z_lt (z_gI q.2 126 q.1.toNatClampNeg) (fun v6 => Option.bind (f_X9_isIn x4 v6) (fun r7 => if r7 = 0 then (kb (q.1 + 1, q.2)) else (z_gd (z_inb v6 9) (Option.bind (f_X8_valuesIn ((z_gI q.2 (x1 + 2) v6.toNatClampNeg) &&& x4) q.2) (fun r10 => z_gd (z_inb v6 9) (z_lt (z_sI q.2 128 v6.toNatClampNeg ((-1) - r10)) (fun u12 => kb (q.1 + 1, u12))))))))))
def f_X8_betaOf (a1 : Nat) (a2 : Int32) (a3 : Int32) (u : z_M) : Option (Int32 × z_M) :=
  Option.bind (f_X8_atHeights a2 a3 u) (fun r1 => z_b2 (f_X6_leastRow a1 126 9 u) (fun r2 u3 => z_lp (b_X8_betaOf_21 a1 a3 r1 r2) z_F (0, u3) (fun t13 => Option.bind (f_X8_valuesIn r1 t13) (fun r14 => z_lt (1 + r14) (fun v15 => if ((z_bitc a3) &&& 1) = 0 then (some (v15, t13)) else (some (-v15, t13)))))))
set_option maxRecDepth 20000 in
set_option maxHeartbeats 4000000 in
theorem wb_X8_betaOf_21 {p : Program} {l : Launch} {e : Env} {R : Room} {s : State} {m : MethodId} {args : Array Value} {below : List Frame} {meth : Method} {c : Code} {g : z_G} {u : z_M} {res : Int32 × z_M} (hR : R = z_rm 4) (X : z_X p R s m args meth c cX8_betaOf 8 RX8 wsX8_betaOf (some .int) g z_shC) (x1 : Nat) (x3 : Int32) (x4 : Int32) (x5 : Int32) (ex1 : z_PO x1) (q : Int32 × z_M) (kb : (Int32 × z_M) → Option (Int32 × z_M)) (kx : z_M → Option (Int32 × z_M)) (hkb : ∀ q, kb q = some res → z_V p l e R s m args below meth c 8 g z_shC (MQ below (z_Qc g z_shC (fun v u' => v = some (.int res.1) ∧ u' = res.2)) args s 0 0 (z_A g z_shC)) 21 [(0, .ref (z_ad g 125)), (1, .ref (z_ad g x1)), (3, .int x3), (4, .int x4), (5, .int x5), (6, .int q.1)] [] q.2) (hkx : ∀ t, kx t = some res → z_V p l e R s m args below meth c 8 g z_shC (MQ below (z_Qc g z_shC (fun v u' => v = some (.int res.1) ∧ u' = res.2)) args s 0 0 (z_A g z_shC)) 76 [(0, .ref (z_ad g 125)), (3, .int x3), (4, .int x4)] [] t) (h : b_X8_betaOf_21 x1 x3 x4 x5 q kb kx = some res) : z_V p l e R s m args below meth c 8 g z_shC (MQ below (z_Qc g z_shC (fun v u' => v = some (.int res.1) ∧ u' = res.2)) args s 0 0 (z_A g z_shC)) 21 [(0, .ref (z_ad g 125)), (1, .ref (z_ad g x1)), (3, .int x3), (4, .int x4), (5, .int x5), (6, .int q.1)] [] q.2 := by
  unfold b_X8_betaOf_21 at h
  refine z_iload X 5 dX8_betaOf_21 rfl (z_iload X 4 dX8_betaOf_23 rfl (z_icmp_ge X 76 dX8_betaOf_25 (by decide) (fun c4 => ?_) (fun c4 => ?_)))
  · replace h := z_ip c4 h
    refine z_sub [0, 2, 3] [(0, .ref (z_ad g 125)), (3, .int x3), (4, .int x4)] rfl ?_
    exact hkx q.2 h
  · replace h := z_in c4 h
    obtain ⟨b5, h⟩ := z_gs h
    obtain ⟨v6, ev6, h⟩ := z_ls h
    obtain ⟨r7, er7, h⟩ := z_bs h
    refine z_aload_n X 0 dX8_betaOf_28 rfl rfl (z_getR X (k0 := 0) z_c125 rfl in_X8_betaOf_X8 (by decide) rfl rfl lk_X8_betaOf_9 dX8_betaOf_29 (z_iload X 5 dX8_betaOf_32 rfl (z_iald X z_c126 (z_inS b5) dX8_betaOf_34 (z_ti ev6 (z_istore X [(7, .int v6), (0, .ref (z_ad g 125)), (1, .ref (z_ad g x1)), (3, .int x3), (4, .int x4), (5, .int x5), (6, .int q.1)] dX8_betaOf_35 (by decide) rfl (z_iload X 4 dX8_betaOf_37 rfl (z_iload X 0 dX8_betaOf_39 rfl (z_callNi X (r := r7) (u1 := q.2) [.int x4, .int v6] [] (w_X9_isIn l g x4 v6 q.2 er7) gX8_betaOf_X9_isIn_n33 nn_X8 ini_X9_isIn_X8_betaOf sta_X9_isIn_X8_betaOf hy_X9_isIn.2 rfl (z_le1 hR (by decide)) (z_le2 hR (by decide) (by decide)) (Nat.le_of_ble_eq_true rfl) dX8_betaOf_41 (z_if_eq X 70 dX8_betaOf_44 (by decide) (fun c8 => ?_) (fun c8 => ?_))))))))))
    · replace h := z_ip c8 h
      refine z_iinc X (v := q.1 + 1) 6 [(6, .int (q.1 + 1)), (7, .int v6), (0, .ref (z_ad g 125)), (1, .ref (z_ad g x1)), (3, .int x3), (4, .int x4), (5, .int x5)] dX8_betaOf_70 rfl rfl (by decide) rfl (z_goto X 21 dX8_betaOf_73 (by decide) (z_sub [2, 3, 4, 5, 6, 0] [(0, .ref (z_ad g 125)), (1, .ref (z_ad g x1)), (3, .int x3), (4, .int x4), (5, .int x5), (6, .int (q.1 + 1))] rfl ?_))
      exact hkb (q.1 + 1, q.2) h
    · replace h := z_in c8 h
      obtain ⟨b9, h⟩ := z_gs h
      obtain ⟨r10, er10, h⟩ := z_bs h
      obtain ⟨b11, h⟩ := z_gs h
      obtain ⟨u12, eu12, h⟩ := z_ls h
      refine z_aload_n X 1 dX8_betaOf_47 rfl rfl (z_getR X (k0 := 2) z_c125 rfl in_X8_betaOf_X8 (by decide) rfl rfl lk_X8_betaOf_18 dX8_betaOf_48 (z_iload X 0 dX8_betaOf_51 rfl (z_iconst X (v := (-1)) dX8_betaOf_53 (by decide) (z_aload_n X 1 dX8_betaOf_54 rfl rfl (z_aload_n X 2 dX8_betaOf_55 rfl rfl (z_getR X (k0 := 4) (z_po ex1) rfl in_X8_betaOf_X6 (by decide) rfl rfl lk_X8_betaOf_37 dX8_betaOf_56 (z_iload X 0 dX8_betaOf_59 rfl (z_iald X (z_poU ex1) (z_inS b9) dX8_betaOf_61 (z_iload X 4 dX8_betaOf_62 rfl (z_iand X dX8_betaOf_64 (z_callVi X (r := r10) (u1 := q.2) [.int ((z_gI q.2 (x1 + 2) v6.toNatClampNeg) &&& x4)] [.int (-1), .int v6, .ref (z_ad g 128)] (w_X8_valuesIn l g ((z_gI q.2 (x1 + 2) v6.toNatClampNeg) &&& x4) q.2 er10) z_c125 rfl gX8_betaOf_X8_valuesIn hy_X8_valuesIn rfl (z_le1 hR (by decide)) (z_le2 hR (by decide) (by decide)) (Nat.le_of_ble_eq_true rfl) dX8_betaOf_65 (z_isub X dX8_betaOf_68 (z_iast X z_c128 (z_inS b11) dX8_betaOf_69 (z_nm eu12 (z_iinc X (v := q.1 + 1) 6 [(6, .int (q.1 + 1)), (7, .int v6), (0, .ref (z_ad g 125)), (1, .ref (z_ad g x1)), (3, .int x3), (4, .int x4), (5, .int x5)] dX8_betaOf_70 rfl rfl (by decide) rfl (z_goto X 21 dX8_betaOf_73 (by decide) (z_sub [2, 3, 4, 5, 6, 0] [(0, .ref (z_ad g 125)), (1, .ref (z_ad g x1)), (3, .int x3), (4, .int x4), (5, .int x5), (6, .int (q.1 + 1))] rfl ?_)))))))))))))))))
      exact hkb (q.1 + 1, u12) h
set_option maxRecDepth 20000 in
set_option maxHeartbeats 4000000 in
theorem w_X8_betaOf (l : Launch) (g : z_G) (a1 : Nat) (a2 : Int32) (a3 : Int32) (ea1 : z_PO a1) (u : z_M) {res : Int32 × z_M} (h : f_X8_betaOf a1 a2 a3 u = some res) : z_C l g z_shC yX8_betaOf wsX8_betaOf 4 [.ref (z_ad g 125), .ref (z_ad g a1), .int a2, .int a3] u (fun v u' => v = some (.int res.1) ∧ u' = res.2) := by
  refine z_C.mk (lv := [(0, .ref (z_ad g 125)), (1, .ref (z_ad g a1)), (2, .int a2), (3, .int a3)]) (cc := cX8_betaOf) (nL := 8) (rt := (some .int)) rfl (by decide) (Nat.le_of_ble_eq_true rfl) rfl (fun p e R s m args below meth c hR X => ?_)
  unfold f_X8_betaOf at h
  obtain ⟨r1, er1, h⟩ := z_bs h
  obtain ⟨r2, u3, er2, h⟩ := z_b2s h
  refine z_aload_n X 0 dX8_betaOf_0 rfl rfl (z_iload_n X 2 dX8_betaOf_1 rfl rfl (z_iload_n X 3 dX8_betaOf_2 rfl rfl (z_callVi X (r := r1) (u1 := u) [.int a2, .int a3] [] (w_X8_atHeights l g a2 a3 u er1) z_c125 rfl gX8_betaOf_X8_atHeights hy_X8_atHeights rfl (z_le1 hR (by decide)) (z_le2 hR (by decide) (by decide)) (Nat.le_of_ble_eq_true rfl) dX8_betaOf_3 (z_istore X [(4, .int r1), (0, .ref (z_ad g 125)), (1, .ref (z_ad g a1)), (2, .int a2), (3, .int a3)] dX8_betaOf_6 (by decide) rfl (z_aload_n X 2 dX8_betaOf_8 rfl rfl (z_aload_n X 1 dX8_betaOf_9 rfl rfl (z_getR X (k0 := 0) z_c125 rfl in_X8_betaOf_X8 (by decide) rfl rfl lk_X8_betaOf_9 dX8_betaOf_10 (z_callVi X (r := r2) (u1 := u3) [.ref (z_ad g 126)] [] (w_X6_leastRow l g a1 126 9 ea1 z_c126 u er2) (z_po ea1) rfl gX8_betaOf_X6_leastRow hy_X6_leastRow rfl (z_le1 hR (by decide)) (z_le2 hR (by decide) (by decide)) (Nat.le_of_ble_eq_true rfl) dX8_betaOf_13 (z_istore X [(5, .int r2), (4, .int r1), (0, .ref (z_ad g 125)), (1, .ref (z_ad g a1)), (2, .int a2), (3, .int a3)] dX8_betaOf_16 (by decide) rfl (z_iconst X (v := 0) dX8_betaOf_18 (by decide) (z_istore X [(6, .int 0), (5, .int r2), (4, .int r1), (0, .ref (z_ad g 125)), (1, .ref (z_ad g a1)), (2, .int a2), (3, .int a3)] dX8_betaOf_19 (by decide) rfl (z_sub [3, 4, 6, 2, 1, 0] [(0, .ref (z_ad g 125)), (1, .ref (z_ad g a1)), (3, .int a3), (4, .int r1), (5, .int r2), (6, .int 0)] rfl ?_))))))))))))
  have hw := z_lp_w (fun q9 kb9 kx9 h1 h2 h3 => wb_X8_betaOf_21 (l := l) (e := e) (below := below) (u := u3) hR X a1 a3 r1 r2 ea1 q9 kb9 kx9 h1 h2 h3) z_F _ _ h
  refine hw (fun t13 h => ?_)
  obtain ⟨r14, er14, h⟩ := z_bs h
  obtain ⟨v15, ev15, h⟩ := z_ls h
  refine z_iconst X (v := 1) dX8_betaOf_76 (by decide) (z_aload_n X 0 dX8_betaOf_77 rfl rfl (z_iload X 2 dX8_betaOf_78 rfl (z_callVi X (r := r14) (u1 := t13) [.int r1] [.int 1] (w_X8_valuesIn l g r1 t13 er14) z_c125 rfl gX8_betaOf_X8_valuesIn hy_X8_valuesIn rfl (z_le1 hR (by decide)) (z_le2 hR (by decide) (by decide)) (Nat.le_of_ble_eq_true rfl) dX8_betaOf_80 (z_iadd X dX8_betaOf_83 (z_ti ev15 (z_istore X [(6, .int v15), (0, .ref (z_ad g 125)), (3, .int a3), (4, .int r1)] dX8_betaOf_84 (by decide) rfl (z_iload_n X 2 dX8_betaOf_86 rfl rfl (z_callSi X (r := z_bitc a3) (u1 := t13) [.int a3] [] (w_bitc l g z_shC a3 t13) gX8_betaOf_J6_bitCount_0f7a4 hy_J6_bitCount_0f7a4.2 rfl (z_le1 hR (by decide)) (z_le2 hR (by decide) (by decide)) (Nat.le_of_ble_eq_true rfl) dX8_betaOf_87 (z_iconst X (v := 1) dX8_betaOf_90 (by decide) (z_iand X dX8_betaOf_91 (z_if_ne X 100 dX8_betaOf_92 (by decide) (fun c16 => ?_) (fun c16 => ?_))))))))))))
  · replace h := z_in c16 h
    refine z_iload X 0 dX8_betaOf_100 rfl (z_ineg X dX8_betaOf_102 ?_)
    cases h; exact z_iret X rfl dX8_betaOf_103 ⟨rfl, rfl⟩
  · replace h := z_ip c16 h
    refine z_iload X 0 dX8_betaOf_95 rfl (z_goto X 103 dX8_betaOf_97 (by decide) ?_)
    cases h; exact z_iret X rfl dX8_betaOf_103 ⟨rfl, rfl⟩

theorem lk_X8_addStep_21 : (Cond.fieldLink RX8 21 RX8 (TX8 3).2.1 (TX8 3).2.2.1) ∈ wsX8_addStep := by decide +kernel
theorem in_X8_addStep_X8 : ∀ w ∈ u_ws RX8 TX8 5, w ∈ wsX8_addStep := by decide +kernel
def b_X8_addStep_2 (x1 : Int32) (x2 : Int32) : (Int32 × z_M) → ((Int32 × z_M) → Option (z_M)) → (z_M → Option (z_M)) → Option (z_M) := fun q kb kx =>
  if 9 ≤ q.1 then (kx q.2) else (z_gd (z_inb ((x2 * 9) + q.1) 81) (z_gd (z_inb (((x1 * 9) + q.1) - 1) 81) (z_gd (z_inb ((x2 * 9) + q.1) 81) (z_lt (z_sI q.2 129 ((x2 * 9) + q.1).toNatClampNeg ((z_gI q.2 129 ((x2 * 9) + q.1).toNatClampNeg) + (z_gI q.2 129 (((x1 * 9) + q.1) - 1).toNatClampNeg))) (fun u5 => kb (q.1 + 1, u5))))))
def f_X8_addStep (a1 : Int32) (a2 : Int32) (u : z_M) : Option (z_M) :=
  z_lp (b_X8_addStep_2 a1 a2) z_F (1, u) (fun t6 => some t6)
set_option maxRecDepth 20000 in
set_option maxHeartbeats 4000000 in
theorem wb_X8_addStep_2 {p : Program} {l : Launch} {e : Env} {R : Room} {s : State} {m : MethodId} {args : Array Value} {below : List Frame} {meth : Method} {c : Code} {g : z_G} {u : z_M} {res : z_M} (hR : R = z_rm 1) (X : z_X p R s m args meth c cX8_addStep 4 RX8 wsX8_addStep none g z_shC) (x1 : Int32) (x2 : Int32) (q : Int32 × z_M) (kb : (Int32 × z_M) → Option (z_M)) (kx : z_M → Option (z_M)) (hkb : ∀ q, kb q = some res → z_V p l e R s m args below meth c 4 g z_shC (MQ below (z_Qc g z_shC (fun v u' => v = none ∧ u' = res)) args s 0 0 (z_A g z_shC)) 2 [(0, .ref (z_ad g 125)), (1, .int x1), (2, .int x2), (3, .int q.1)] [] q.2) (hkx : ∀ t, kx t = some res → z_V p l e R s m args below meth c 4 g z_shC (MQ below (z_Qc g z_shC (fun v u' => v = none ∧ u' = res)) args s 0 0 (z_A g z_shC)) 41 [] [] t) (h : b_X8_addStep_2 x1 x2 q kb kx = some res) : z_V p l e R s m args below meth c 4 g z_shC (MQ below (z_Qc g z_shC (fun v u' => v = none ∧ u' = res)) args s 0 0 (z_A g z_shC)) 2 [(0, .ref (z_ad g 125)), (1, .int x1), (2, .int x2), (3, .int q.1)] [] q.2 := by
  unfold b_X8_addStep_2 at h
  refine z_iload_n X 3 dX8_addStep_2 rfl rfl (z_bipush X (v := 9) dX8_addStep_3 (by decide) (z_icmp_ge X 41 dX8_addStep_5 (by decide) (fun c1 => ?_) (fun c1 => ?_)))
  · replace h := z_ip c1 h
    refine z_sub [] [] rfl ?_
    exact hkx q.2 h
  · replace h := z_in c1 h
    obtain ⟨b2, h⟩ := z_gs h
    obtain ⟨b3, h⟩ := z_gs h
    obtain ⟨b4, h⟩ := z_gs h
    obtain ⟨u5, eu5, h⟩ := z_ls h
    refine z_aload_n X 0 dX8_addStep_8 rfl rfl (z_getR X (k0 := 3) z_c125 rfl in_X8_addStep_X8 (by decide) rfl rfl lk_X8_addStep_21 dX8_addStep_9 (z_iload_n X 2 dX8_addStep_12 rfl rfl (z_bipush X (v := 9) dX8_addStep_13 (by decide) (z_imul X dX8_addStep_15 (z_iload_n X 3 dX8_addStep_16 rfl rfl (z_iadd X dX8_addStep_17 (z_dup2 X dX8_addStep_18 rfl rfl (z_iald X z_c129 (z_inS b2) dX8_addStep_19 (z_aload_n X 0 dX8_addStep_20 rfl rfl (z_getR X (k0 := 3) z_c125 rfl in_X8_addStep_X8 (by decide) rfl rfl lk_X8_addStep_21 dX8_addStep_21 (z_iload_n X 1 dX8_addStep_24 rfl rfl (z_bipush X (v := 9) dX8_addStep_25 (by decide) (z_imul X dX8_addStep_27 (z_iload_n X 3 dX8_addStep_28 rfl rfl (z_iadd X dX8_addStep_29 (z_iconst X (v := 1) dX8_addStep_30 (by decide) (z_isub X dX8_addStep_31 (z_iald X z_c129 (z_inS b3) dX8_addStep_32 (z_iadd X dX8_addStep_33 (z_iast X z_c129 (z_inS b4) dX8_addStep_34 (z_nm eu5 (z_iinc X (v := q.1 + 1) 3 [(3, .int (q.1 + 1)), (0, .ref (z_ad g 125)), (1, .int x1), (2, .int x2)] dX8_addStep_35 rfl rfl (by decide) rfl (z_goto X 2 dX8_addStep_38 (by decide) (z_sub [1, 2, 3, 0] [(0, .ref (z_ad g 125)), (1, .int x1), (2, .int x2), (3, .int (q.1 + 1))] rfl ?_))))))))))))))))))))))))
    exact hkb (q.1 + 1, u5) h
set_option maxRecDepth 20000 in
set_option maxHeartbeats 4000000 in
theorem w_X8_addStep (l : Launch) (g : z_G) (a1 : Int32) (a2 : Int32) (u : z_M) {res : z_M} (h : f_X8_addStep a1 a2 u = some res) : z_C l g z_shC yX8_addStep wsX8_addStep 1 [.ref (z_ad g 125), .int a1, .int a2] u (fun v u' => v = none ∧ u' = res) := by
  refine z_C.mk (lv := [(0, .ref (z_ad g 125)), (1, .int a1), (2, .int a2)]) (cc := cX8_addStep) (nL := 4) (rt := none) rfl (by decide) (Nat.le_of_ble_eq_true rfl) rfl (fun p e R s m args below meth c hR X => ?_)
  unfold f_X8_addStep at h
  refine z_iconst X (v := 1) dX8_addStep_0 (by decide) (z_istore_n X [(3, .int 1), (0, .ref (z_ad g 125)), (1, .int a1), (2, .int a2)] dX8_addStep_1 rfl (by decide) rfl (z_sub [1, 2, 3, 0] [(0, .ref (z_ad g 125)), (1, .int a1), (2, .int a2), (3, .int 1)] rfl ?_))
  have hw := z_lp_w (fun q9 kb9 kx9 h1 h2 h3 => wb_X8_addStep_2 (l := l) (e := e) (below := below) (u := u) hR X a1 a2 q9 kb9 kx9 h1 h2 h3) z_F _ _ h
  refine hw (fun t6 h => ?_)
  cases h; exact z_vret X rfl dX8_addStep_41 ⟨rfl, rfl⟩

theorem lk_X8_walk_21 : (Cond.fieldLink RX8 21 RX8 (TX8 3).2.1 (TX8 3).2.2.1) ∈ wsX8_walk := by decide +kernel
theorem in_X8_walk_X8 : ∀ w ∈ u_ws RX8 TX8 5, w ∈ wsX8_walk := fun _ h => List.mem_cons_of_mem _ (List.mem_append_left _ (List.mem_append_right _ h))
theorem lk_X8_walk_9 : (Cond.fieldLink RX8 9 RX8 (TX8 0).2.1 (TX8 0).2.2.1) ∈ wsX8_walk := by decide +kernel
theorem ini_X9_isIn_X8_walk : Cond.initialized yX9_isIn.cls ∈ wsX8_walk := by decide +kernel
theorem sta_X9_isIn_X8_walk : Cond.static yX9_isIn ∈ wsX8_walk := by decide +kernel
theorem lk_X8_walk_37 : (Cond.fieldLink RX8 37 RX6 (TX6 4).2.1 (TX6 4).2.2.1) ∈ wsX8_walk := by decide +kernel
theorem in_X8_walk_X6 : ∀ w ∈ u_ws RX6 TX6 6, w ∈ wsX8_walk := fun _ h => List.mem_cons_of_mem _ (List.mem_append_right _ h)
theorem hy_X8_addStep : yX8_addStep.cls = RX8 ∧ yX8_addStep.cls ≠ "java/lang/invoke/MethodHandle" ∧ yX8_addStep.cls ≠ "java/lang/invoke/VarHandle" ∧ (parseMethodDescriptor yX8_addStep.desc).map (fun d => d.parameters.length) = some 2 := by decide +kernel
def b_X8_walk_69 (x1 : Nat) (x2 : Int32) (x3 : Int32) (x4 : Int32) (x5 : Int32) (x6 : Int32) : (Int32 × z_M) → ((Int32 × z_M) → Option (z_M)) → (z_M → Option (z_M)) → Option (z_M) := fun q kb kx =>
  if 9 ≤ q.1 then (kx q.2) else (z_gd (z_inb x6 9) (Option.bind (f_X9_isIn ((z_gI q.2 (x1 + 2) x6.toNatClampNeg) &&& x3) q.1) (fun r14 => if r14 = 0 then (kb (q.1 + 1, q.2)) else (Option.bind (f_X8_addStep q.1 x6 q.2) (fun r16 => kb (q.1 + 1, r16))))))
def b_X8_walk_21 (x1 : Nat) (x2 : Int32) (x3 : Int32) (x4 : Int32) : (Int32 × z_M) → ((Int32 × z_M) → Option (z_M)) → (z_M → Option (z_M)) → Option (z_M) := fun q kb kx =>
  if x4 ≤ q.1 then (kx q.2) else (z_gd (z_inb q.1 9) (z_lt (z_gI q.2 126 q.1.toNatClampNeg) (fun v6 => Option.bind (f_X9_isIn x3 v6) (fun r7 => if r7 = 0 then (kb (q.1 + 1, q.2)) else (if v6 = x2 then (z_gd (z_inb (v6 * 9) 81) (z_lt (z_sI q.2 129 (v6 * 9).toNatClampNeg 1) (fun u11 => z_lp (b_X8_walk_69 x1 x2 x3 x4 q.1 v6) z_F (0, u11) (fun t17 => kb (q.1 + 1, t17))))) else (z_lp (b_X8_walk_69 x1 x2 x3 x4 q.1 v6) z_F (0, q.2) (fun t18 => kb (q.1 + 1, t18))))))))
def f_X8_walk (a1 : Nat) (a2 : Int32) (a3 : Int32) (u : z_M) : Option (z_M) :=
  z_lt (z_fill u 129 81 0) (fun u1 => z_b2 (f_X6_leastRow a1 126 9 u1) (fun r2 u3 => z_lp (b_X8_walk_21 a1 a2 a3 r2) z_F (0, u3) (fun t19 => some t19)))
set_option maxRecDepth 20000 in
set_option maxHeartbeats 4000000 in
theorem wb_X8_walk_69 {p : Program} {l : Launch} {e : Env} {R : Room} {s : State} {m : MethodId} {args : Array Value} {below : List Frame} {meth : Method} {c : Code} {g : z_G} {u : z_M} {res : z_M} (hR : R = z_rm 4) (X : z_X p R s m args meth c cX8_walk 8 RX8 wsX8_walk none g z_shC) (x1 : Nat) (x2 : Int32) (x3 : Int32) (x4 : Int32) (x5 : Int32) (x6 : Int32) (ex1 : z_PO x1) (q : Int32 × z_M) (kb : (Int32 × z_M) → Option (z_M)) (kx : z_M → Option (z_M)) (hkb : ∀ q, kb q = some res → z_V p l e R s m args below meth c 8 g z_shC (MQ below (z_Qc g z_shC (fun v u' => v = none ∧ u' = res)) args s 0 0 (z_A g z_shC)) 69 [(0, .ref (z_ad g 125)), (1, .ref (z_ad g x1)), (2, .int x2), (3, .int x3), (4, .int x4), (5, .int x5), (6, .int x6), (7, .int q.1)] [] q.2) (hkx : ∀ t, kx t = some res → z_V p l e R s m args below meth c 8 g z_shC (MQ below (z_Qc g z_shC (fun v u' => v = none ∧ u' = res)) args s 0 0 (z_A g z_shC)) 107 [(0, .ref (z_ad g 125)), (1, .ref (z_ad g x1)), (2, .int x2), (3, .int x3), (4, .int x4), (5, .int x5)] [] t) (h : b_X8_walk_69 x1 x2 x3 x4 x5 x6 q kb kx = some res) : z_V p l e R s m args below meth c 8 g z_shC (MQ below (z_Qc g z_shC (fun v u' => v = none ∧ u' = res)) args s 0 0 (z_A g z_shC)) 69 [(0, .ref (z_ad g 125)), (1, .ref (z_ad g x1)), (2, .int x2), (3, .int x3), (4, .int x4), (5, .int x5), (6, .int x6), (7, .int q.1)] [] q.2 := by
  unfold b_X8_walk_69 at h
  refine z_iload X 7 dX8_walk_69 rfl (z_bipush X (v := 9) dX8_walk_71 (by decide) (z_icmp_ge X 107 dX8_walk_73 (by decide) (fun c12 => ?_) (fun c12 => ?_)))
  · replace h := z_ip c12 h
    refine z_sub [0, 1, 2, 3, 4, 5] [(0, .ref (z_ad g 125)), (1, .ref (z_ad g x1)), (2, .int x2), (3, .int x3), (4, .int x4), (5, .int x5)] rfl ?_
    exact hkx q.2 h
  · replace h := z_in c12 h
    obtain ⟨b13, h⟩ := z_gs h
    obtain ⟨r14, er14, h⟩ := z_bs h
    refine z_aload_n X 1 dX8_walk_76 rfl rfl (z_getR X (k0 := 4) (z_po ex1) rfl in_X8_walk_X6 (by decide) rfl rfl lk_X8_walk_37 dX8_walk_77 (z_iload X 6 dX8_walk_80 rfl (z_iald X (z_poU ex1) (z_inS b13) dX8_walk_82 (z_iload_n X 3 dX8_walk_83 rfl rfl (z_iand X dX8_walk_84 (z_iload X 7 dX8_walk_85 rfl (z_callNi X (r := r14) (u1 := q.2) [.int ((z_gI q.2 (x1 + 2) x6.toNatClampNeg) &&& x3), .int q.1] [] (w_X9_isIn l g ((z_gI q.2 (x1 + 2) x6.toNatClampNeg) &&& x3) q.1 q.2 er14) gX8_walk_X9_isIn_n33 nn_X8 ini_X9_isIn_X8_walk sta_X9_isIn_X8_walk hy_X9_isIn.2 rfl (z_le1 hR (by decide)) (z_le2 hR (by decide) (by decide)) (Nat.le_of_ble_eq_true rfl) dX8_walk_87 (z_if_eq X 101 dX8_walk_90 (by decide) (fun c15 => ?_) (fun c15 => ?_)))))))))
    · replace h := z_ip c15 h
      refine z_iinc X (v := q.1 + 1) 7 [(7, .int (q.1 + 1)), (0, .ref (z_ad g 125)), (1, .ref (z_ad g x1)), (2, .int x2), (3, .int x3), (4, .int x4), (5, .int x5), (6, .int x6)] dX8_walk_101 rfl rfl (by decide) rfl (z_goto X 69 dX8_walk_104 (by decide) (z_sub [1, 2, 3, 4, 5, 6, 7, 0] [(0, .ref (z_ad g 125)), (1, .ref (z_ad g x1)), (2, .int x2), (3, .int x3), (4, .int x4), (5, .int x5), (6, .int x6), (7, .int (q.1 + 1))] rfl ?_))
      exact hkb (q.1 + 1, q.2) h
    · replace h := z_in c15 h
      obtain ⟨r16, er16, h⟩ := z_bs h
      refine z_aload_n X 0 dX8_walk_93 rfl rfl (z_iload X 7 dX8_walk_94 rfl (z_iload X 6 dX8_walk_96 rfl (z_callVv X (u1 := r16) [.int q.1, .int x6] [] (w_X8_addStep l g q.1 x6 q.2 er16) z_c125 rfl gX8_walk_X8_addStep hy_X8_addStep rfl (z_le1 hR (by decide)) (z_le2 hR (by decide) (by decide)) (Nat.le_of_ble_eq_true rfl) dX8_walk_98 (z_iinc X (v := q.1 + 1) 7 [(7, .int (q.1 + 1)), (0, .ref (z_ad g 125)), (1, .ref (z_ad g x1)), (2, .int x2), (3, .int x3), (4, .int x4), (5, .int x5), (6, .int x6)] dX8_walk_101 rfl rfl (by decide) rfl (z_goto X 69 dX8_walk_104 (by decide) (z_sub [1, 2, 3, 4, 5, 6, 7, 0] [(0, .ref (z_ad g 125)), (1, .ref (z_ad g x1)), (2, .int x2), (3, .int x3), (4, .int x4), (5, .int x5), (6, .int x6), (7, .int (q.1 + 1))] rfl ?_))))))
      exact hkb (q.1 + 1, r16) h
set_option maxRecDepth 20000 in
set_option maxHeartbeats 4000000 in
theorem wb_X8_walk_21 {p : Program} {l : Launch} {e : Env} {R : Room} {s : State} {m : MethodId} {args : Array Value} {below : List Frame} {meth : Method} {c : Code} {g : z_G} {u : z_M} {res : z_M} (hR : R = z_rm 4) (X : z_X p R s m args meth c cX8_walk 8 RX8 wsX8_walk none g z_shC) (x1 : Nat) (x2 : Int32) (x3 : Int32) (x4 : Int32) (ex1 : z_PO x1) (q : Int32 × z_M) (kb : (Int32 × z_M) → Option (z_M)) (kx : z_M → Option (z_M)) (hkb : ∀ q, kb q = some res → z_V p l e R s m args below meth c 8 g z_shC (MQ below (z_Qc g z_shC (fun v u' => v = none ∧ u' = res)) args s 0 0 (z_A g z_shC)) 21 [(0, .ref (z_ad g 125)), (1, .ref (z_ad g x1)), (2, .int x2), (3, .int x3), (4, .int x4), (5, .int q.1)] [] q.2) (hkx : ∀ t, kx t = some res → z_V p l e R s m args below meth c 8 g z_shC (MQ below (z_Qc g z_shC (fun v u' => v = none ∧ u' = res)) args s 0 0 (z_A g z_shC)) 113 [] [] t) (h : b_X8_walk_21 x1 x2 x3 x4 q kb kx = some res) : z_V p l e R s m args below meth c 8 g z_shC (MQ below (z_Qc g z_shC (fun v u' => v = none ∧ u' = res)) args s 0 0 (z_A g z_shC)) 21 [(0, .ref (z_ad g 125)), (1, .ref (z_ad g x1)), (2, .int x2), (3, .int x3), (4, .int x4), (5, .int q.1)] [] q.2 := by
  unfold b_X8_walk_21 at h
  refine z_iload X 5 dX8_walk_21 rfl (z_iload X 4 dX8_walk_23 rfl (z_icmp_ge X 113 dX8_walk_25 (by decide) (fun c4 => ?_) (fun c4 => ?_)))
  · replace h := z_ip c4 h
    refine z_sub [] [] rfl ?_
    exact hkx q.2 h
  · replace h := z_in c4 h
    obtain ⟨b5, h⟩ := z_gs h
    obtain ⟨v6, ev6, h⟩ := z_ls h
    obtain ⟨r7, er7, h⟩ := z_bs h
    refine z_aload_n X 0 dX8_walk_28 rfl rfl (z_getR X (k0 := 0) z_c125 rfl in_X8_walk_X8 (by decide) rfl rfl lk_X8_walk_9 dX8_walk_29 (z_iload X 5 dX8_walk_32 rfl (z_iald X z_c126 (z_inS b5) dX8_walk_34 (z_ti ev6 (z_istore X [(6, .int v6), (0, .ref (z_ad g 125)), (1, .ref (z_ad g x1)), (2, .int x2), (3, .int x3), (4, .int x4), (5, .int q.1)] dX8_walk_35 (by decide) rfl (z_iload_n X 4 dX8_walk_37 rfl rfl (z_iload X 0 dX8_walk_38 rfl (z_callNi X (r := r7) (u1 := q.2) [.int x3, .int v6] [] (w_X9_isIn l g x3 v6 q.2 er7) gX8_walk_X9_isIn_n33 nn_X8 ini_X9_isIn_X8_walk sta_X9_isIn_X8_walk hy_X9_isIn.2 rfl (z_le1 hR (by decide)) (z_le2 hR (by decide) (by decide)) (Nat.le_of_ble_eq_true rfl) dX8_walk_40 (z_if_ne X 49 dX8_walk_43 (by decide) (fun c8 => ?_) (fun c8 => ?_))))))))))
    · replace h := z_in c8 h
      refine z_iload X 0 dX8_walk_49 rfl (z_iload_n X 3 dX8_walk_51 rfl rfl (z_icmp_ne X 66 dX8_walk_52 (by decide) (fun c9 => ?_) (fun c9 => ?_)))
      · replace h := z_in c9 h
        refine z_iconst X (v := 0) dX8_walk_66 (by decide) (z_istore X [(7, .int 0), (6, .int v6), (0, .ref (z_ad g 125)), (1, .ref (z_ad g x1)), (2, .int x2), (3, .int x3), (4, .int x4), (5, .int q.1)] dX8_walk_67 (by decide) rfl (z_sub [2, 3, 4, 5, 6, 7, 1, 0] [(0, .ref (z_ad g 125)), (1, .ref (z_ad g x1)), (2, .int x2), (3, .int x3), (4, .int x4), (5, .int q.1), (6, .int v6), (7, .int 0)] rfl ?_))
        have hw := z_lp_w (fun q9 kb9 kx9 h1 h2 h3 => wb_X8_walk_69 (l := l) (e := e) (below := below) (u := q.2) hR X x1 x2 x3 x4 q.1 v6 ex1 q9 kb9 kx9 h1 h2 h3) z_F _ _ h
        refine hw (fun t18 h => ?_)
        refine z_iinc X (v := q.1 + 1) 5 [(5, .int (q.1 + 1)), (0, .ref (z_ad g 125)), (1, .ref (z_ad g x1)), (2, .int x2), (3, .int x3), (4, .int x4)] dX8_walk_107 rfl rfl (by decide) rfl (z_goto X 21 dX8_walk_110 (by decide) (z_sub [1, 2, 3, 4, 5, 0] [(0, .ref (z_ad g 125)), (1, .ref (z_ad g x1)), (2, .int x2), (3, .int x3), (4, .int x4), (5, .int (q.1 + 1))] rfl ?_))
        exact hkb (q.1 + 1, t18) h
      · replace h := z_ip c9 h
        obtain ⟨b10, h⟩ := z_gs h
        obtain ⟨u11, eu11, h⟩ := z_ls h
        refine z_aload_n X 1 dX8_walk_55 rfl rfl (z_getR X (k0 := 3) z_c125 rfl in_X8_walk_X8 (by decide) rfl rfl lk_X8_walk_21 dX8_walk_56 (z_iload X 0 dX8_walk_59 rfl (z_bipush X (v := 9) dX8_walk_61 (by decide) (z_imul X dX8_walk_63 (z_iconst X (v := 1) dX8_walk_64 (by decide) (z_iast X z_c129 (z_inS b10) dX8_walk_65 (z_nm eu11 (z_iconst X (v := 0) dX8_walk_66 (by decide) (z_istore X [(7, .int 0), (6, .int v6), (0, .ref (z_ad g 125)), (1, .ref (z_ad g x1)), (2, .int x2), (3, .int x3), (4, .int x4), (5, .int q.1)] dX8_walk_67 (by decide) rfl (z_sub [2, 3, 4, 5, 6, 7, 1, 0] [(0, .ref (z_ad g 125)), (1, .ref (z_ad g x1)), (2, .int x2), (3, .int x3), (4, .int x4), (5, .int q.1), (6, .int v6), (7, .int 0)] rfl ?_))))))))))
        have hw := z_lp_w (fun q9 kb9 kx9 h1 h2 h3 => wb_X8_walk_69 (l := l) (e := e) (below := below) (u := u11) hR X x1 x2 x3 x4 q.1 v6 ex1 q9 kb9 kx9 h1 h2 h3) z_F _ _ h
        refine hw (fun t17 h => ?_)
        refine z_iinc X (v := q.1 + 1) 5 [(5, .int (q.1 + 1)), (0, .ref (z_ad g 125)), (1, .ref (z_ad g x1)), (2, .int x2), (3, .int x3), (4, .int x4)] dX8_walk_107 rfl rfl (by decide) rfl (z_goto X 21 dX8_walk_110 (by decide) (z_sub [1, 2, 3, 4, 5, 0] [(0, .ref (z_ad g 125)), (1, .ref (z_ad g x1)), (2, .int x2), (3, .int x3), (4, .int x4), (5, .int (q.1 + 1))] rfl ?_))
        exact hkb (q.1 + 1, t17) h
    · replace h := z_ip c8 h
      refine z_goto X 107 dX8_walk_46 (by decide) (z_iinc X (v := q.1 + 1) 6 [(5, .int (q.1 + 1)), (6, .int v6), (0, .ref (z_ad g 125)), (1, .ref (z_ad g x1)), (2, .int x2), (3, .int x3), (4, .int x4)] dX8_walk_107 rfl rfl (by decide) rfl (z_goto X 21 dX8_walk_110 (by decide) (z_sub [2, 3, 4, 5, 6, 0] [(0, .ref (z_ad g 125)), (1, .ref (z_ad g x1)), (2, .int x2), (3, .int x3), (4, .int x4), (5, .int (q.1 + 1))] rfl ?_)))
      exact hkb (q.1 + 1, q.2) h
set_option maxRecDepth 20000 in
set_option maxHeartbeats 4000000 in
theorem w_X8_walk (l : Launch) (g : z_G) (a1 : Nat) (a2 : Int32) (a3 : Int32) (ea1 : z_PO a1) (u : z_M) {res : z_M} (h : f_X8_walk a1 a2 a3 u = some res) : z_C l g z_shC yX8_walk wsX8_walk 4 [.ref (z_ad g 125), .ref (z_ad g a1), .int a2, .int a3] u (fun v u' => v = none ∧ u' = res) := by
  refine z_C.mk (lv := [(0, .ref (z_ad g 125)), (1, .ref (z_ad g a1)), (2, .int a2), (3, .int a3)]) (cc := cX8_walk) (nL := 8) (rt := none) rfl (by decide) (Nat.le_of_ble_eq_true rfl) rfl (fun p e R s m args below meth c hR X => ?_)
  unfold f_X8_walk at h
  obtain ⟨u1, eu1, h⟩ := z_ls h
  obtain ⟨r2, u3, er2, h⟩ := z_b2s h
  refine z_aload_n X 0 dX8_walk_0 rfl rfl (z_getR X (k0 := 3) z_c125 rfl in_X8_walk_X8 (by decide) rfl rfl lk_X8_walk_21 dX8_walk_1 (z_iconst X (v := 0) dX8_walk_4 (by decide) (z_callSv X (u1 := (z_fill u 129 81 0)) [.ref (z_ad g 129), .int 0] [] (w_fill l g z_shC 129 81 z_c129 0 u) gX8_walk_J7_fill_53178 hy_J7_fill_53178.2 rfl (z_le1 hR (by decide)) (z_le2 hR (by decide) (by decide)) (Nat.le_of_ble_eq_true rfl) dX8_walk_5 (z_nm eu1 (z_aload_n X 1 dX8_walk_8 rfl rfl (z_aload_n X 0 dX8_walk_9 rfl rfl (z_getR X (k0 := 0) z_c125 rfl in_X8_walk_X8 (by decide) rfl rfl lk_X8_walk_9 dX8_walk_10 (z_callVi X (r := r2) (u1 := u3) [.ref (z_ad g 126)] [] (w_X6_leastRow l g a1 126 9 ea1 z_c126 u1 er2) (z_po ea1) rfl gX8_walk_X6_leastRow hy_X6_leastRow rfl (z_le1 hR (by decide)) (z_le2 hR (by decide) (by decide)) (Nat.le_of_ble_eq_true rfl) dX8_walk_13 (z_istore X [(4, .int r2), (0, .ref (z_ad g 125)), (1, .ref (z_ad g a1)), (2, .int a2), (3, .int a3)] dX8_walk_16 (by decide) rfl (z_iconst X (v := 0) dX8_walk_18 (by decide) (z_istore X [(5, .int 0), (4, .int r2), (0, .ref (z_ad g 125)), (1, .ref (z_ad g a1)), (2, .int a2), (3, .int a3)] dX8_walk_19 (by decide) rfl (z_sub [2, 3, 4, 5, 1, 0] [(0, .ref (z_ad g 125)), (1, .ref (z_ad g a1)), (2, .int a2), (3, .int a3), (4, .int r2), (5, .int 0)] rfl ?_))))))))))))
  have hw := z_lp_w (fun q9 kb9 kx9 h1 h2 h3 => wb_X8_walk_21 (l := l) (e := e) (below := below) (u := u3) hR X a1 a2 a3 r2 ea1 q9 kb9 kx9 h1 h2 h3) z_F _ _ h
  refine hw (fun t19 h => ?_)
  cases h; exact z_vret X rfl dX8_walk_113 ⟨rfl, rfl⟩

theorem lk_X8_walksTo_21 : (Cond.fieldLink RX8 21 RX8 (TX8 3).2.1 (TX8 3).2.2.1) ∈ wsX8_walksTo := by decide +kernel
theorem in_X8_walksTo_X8 : ∀ w ∈ u_ws RX8 TX8 5, w ∈ wsX8_walksTo := by decide +kernel
def f_X8_walksTo (a1 : Int32) (a2 : Int32) (u : z_M) : Option (Int32) :=
  if a1 < 0 then (some 0) else (if 9 ≤ a1 then (some 0) else (if a2 < 0 then (some 0) else (if 9 ≤ a2 then (some 0) else (z_gd (z_inb ((a1 * 9) + a2) 81) (some (z_gI u 129 ((a1 * 9) + a2).toNatClampNeg))))))
set_option maxRecDepth 20000 in
set_option maxHeartbeats 4000000 in
theorem w_X8_walksTo (l : Launch) (g : z_G) (a1 : Int32) (a2 : Int32) (u : z_M) {res : Int32} (h : f_X8_walksTo a1 a2 u = some res) : z_C l g z_shC yX8_walksTo wsX8_walksTo 1 [.ref (z_ad g 125), .int a1, .int a2] u (fun v u' => v = some (.int res) ∧ u' = u) := by
  refine z_C.mk (lv := [(0, .ref (z_ad g 125)), (1, .int a1), (2, .int a2)]) (cc := cX8_walksTo) (nL := 3) (rt := (some .int)) rfl (by decide) (Nat.le_of_ble_eq_true rfl) rfl (fun p e R s m args below meth c hR X => ?_)
  unfold f_X8_walksTo at h
  refine z_iload_n X 1 dX8_walksTo_0 rfl rfl (z_if_lt X 34 dX8_walksTo_1 (by decide) (fun c1 => ?_) (fun c1 => ?_))
  · replace h := z_ip c1 h
    refine z_iconst X (v := 0) dX8_walksTo_34 (by decide) ?_
    cases h; exact z_iret X rfl dX8_walksTo_35 ⟨rfl, rfl⟩
  · replace h := z_in c1 h
    refine z_iload_n X 1 dX8_walksTo_4 rfl rfl (z_bipush X (v := 9) dX8_walksTo_5 (by decide) (z_icmp_ge X 34 dX8_walksTo_7 (by decide) (fun c2 => ?_) (fun c2 => ?_)))
    · replace h := z_ip c2 h
      refine z_iconst X (v := 0) dX8_walksTo_34 (by decide) ?_
      cases h; exact z_iret X rfl dX8_walksTo_35 ⟨rfl, rfl⟩
    · replace h := z_in c2 h
      refine z_iload_n X 2 dX8_walksTo_10 rfl rfl (z_if_lt X 34 dX8_walksTo_11 (by decide) (fun c3 => ?_) (fun c3 => ?_))
      · replace h := z_ip c3 h
        refine z_iconst X (v := 0) dX8_walksTo_34 (by decide) ?_
        cases h; exact z_iret X rfl dX8_walksTo_35 ⟨rfl, rfl⟩
      · replace h := z_in c3 h
        refine z_iload_n X 2 dX8_walksTo_14 rfl rfl (z_bipush X (v := 9) dX8_walksTo_15 (by decide) (z_icmp_ge X 34 dX8_walksTo_17 (by decide) (fun c4 => ?_) (fun c4 => ?_)))
        · replace h := z_ip c4 h
          refine z_iconst X (v := 0) dX8_walksTo_34 (by decide) ?_
          cases h; exact z_iret X rfl dX8_walksTo_35 ⟨rfl, rfl⟩
        · replace h := z_in c4 h
          obtain ⟨b5, h⟩ := z_gs h
          refine z_aload_n X 0 dX8_walksTo_20 rfl rfl (z_getR X (k0 := 3) z_c125 rfl in_X8_walksTo_X8 (by decide) rfl rfl lk_X8_walksTo_21 dX8_walksTo_21 (z_iload_n X 1 dX8_walksTo_24 rfl rfl (z_bipush X (v := 9) dX8_walksTo_25 (by decide) (z_imul X dX8_walksTo_27 (z_iload_n X 2 dX8_walksTo_28 rfl rfl (z_iadd X dX8_walksTo_29 (z_iald X z_c129 (z_inS b5) dX8_walksTo_30 (z_goto X 35 dX8_walksTo_31 (by decide) ?_))))))))
          cases h; exact z_iret X rfl dX8_walksTo_35 ⟨rfl, rfl⟩

theorem ct77_X8_nextChoice : Cond.constantLong RX8 77 9223372036854775807 ∈ wsX8_nextChoice := by decide +kernel
theorem ct79_X8_nextChoice : Cond.constantLong RX8 79 (-1) ∈ wsX8_nextChoice := by decide +kernel
def f_X8_nextChoice (a1 : Int64) (a2 : Int32) (a3 : Int32) : Option (Int64) :=
  z_lt (((a2 - a3) + 1).toInt64) (fun v1 => if a3 < 1 then (some 0) else (if 0 ≤ (lg_cmp v1 1) then (if 0 ≤ (lg_cmp a1 0) then (z_gd (decide (¬ a3.toInt64 = 0)) (z_gd (decide (¬ a3.toInt64 = 0)) (z_lt (((a1 - a1 / a3.toInt64 * a3.toInt64) * v1) / a3.toInt64) (fun v7 => z_gd (decide (¬ a3.toInt64 = 0)) (z_lt (a1 / a3.toInt64) (fun v9 => z_gd (decide (¬ v1 = 0)) (if (lg_cmp v9 ((9223372036854775807 - v7) / v1)) ≤ 0 then (some ((v9 * v1) + v7)) else (some (-1))))))))) else (some (-1))) else (some 0)))
set_option maxRecDepth 20000 in
set_option maxHeartbeats 4000000 in
theorem w_X8_nextChoice (l : Launch) (g : z_G) (a1 : Int64) (a2 : Int32) (a3 : Int32) (u : z_M) {res : Int64} (h : f_X8_nextChoice a1 a2 a3 = some res) : z_C l g z_shC yX8_nextChoice wsX8_nextChoice 1 [.long a1, .int a2, .int a3] u (fun v u' => v = some (.long res) ∧ u' = u) := by
  refine z_C.mk (lv := [(0, .long a1), (2, .int a2), (3, .int a3)]) (cc := cX8_nextChoice) (nL := 10) (rt := (some .long)) rfl (by decide) (Nat.le_of_ble_eq_true rfl) rfl (fun p e R s m args below meth c hR X => ?_)
  unfold f_X8_nextChoice at h
  obtain ⟨v1, ev1, h⟩ := z_ls h
  refine z_iload_n X 1 dX8_nextChoice_0 rfl rfl (z_iload_n X 2 dX8_nextChoice_1 rfl rfl (z_isub X dX8_nextChoice_2 (z_iconst X (v := 1) dX8_nextChoice_3 (by decide) (z_iadd X dX8_nextChoice_4 (z_i2l X dX8_nextChoice_5 (z_tl ev1 (z_lstore X [(4, .long v1), (0, .long a1), (2, .int a2), (3, .int a3)] dX8_nextChoice_6 (by decide) rfl (z_iload_n X 3 dX8_nextChoice_8 rfl rfl (z_iconst X (v := 1) dX8_nextChoice_9 (by decide) (z_icmp_lt X 20 dX8_nextChoice_10 (by decide) (fun c2 => ?_) (fun c2 => ?_)))))))))))
  · replace h := z_ip c2 h
    refine z_lconst X (v := 0) dX8_nextChoice_20 (by decide) ?_
    cases h; exact z_lret X rfl dX8_nextChoice_21 ⟨rfl, rfl⟩
  · replace h := z_in c2 h
    refine z_lload X 0 dX8_nextChoice_13 rfl (z_lconst X (v := 1) dX8_nextChoice_15 (by decide) (z_lcmp X dX8_nextChoice_16 (z_if_ge X 22 dX8_nextChoice_17 (by decide) (fun c3 => ?_) (fun c3 => ?_))))
    · replace h := z_ip c3 h
      refine z_lload_n X 1 dX8_nextChoice_22 rfl rfl (z_lconst X (v := 0) dX8_nextChoice_23 (by decide) (z_lcmp X dX8_nextChoice_24 (z_if_ge X 32 dX8_nextChoice_25 (by decide) (fun c4 => ?_) (fun c4 => ?_))))
      · replace h := z_ip c4 h
        obtain ⟨b5, h⟩ := z_gs h
        obtain ⟨b6, h⟩ := z_gs h
        obtain ⟨v7, ev7, h⟩ := z_ls h
        obtain ⟨b8, h⟩ := z_gs h
        obtain ⟨v9, ev9, h⟩ := z_ls h
        obtain ⟨b10, h⟩ := z_gs h
        refine z_lload_n X 1 dX8_nextChoice_32 rfl rfl (z_iload_n X 3 dX8_nextChoice_33 rfl rfl (z_i2l X dX8_nextChoice_34 (z_lrem X dX8_nextChoice_35 (of_decide_eq_true b5) (z_lload X 0 dX8_nextChoice_36 rfl (z_lmul X dX8_nextChoice_38 (z_iload_n X 3 dX8_nextChoice_39 rfl rfl (z_i2l X dX8_nextChoice_40 (z_ldiv X dX8_nextChoice_41 (of_decide_eq_true b6) (z_tl ev7 (z_lstore X [(6, .long v7), (4, .long v1), (0, .long a1), (2, .int a2), (3, .int a3)] dX8_nextChoice_42 (by decide) rfl (z_lload_n X 2 dX8_nextChoice_44 rfl rfl (z_iload_n X 4 dX8_nextChoice_45 rfl rfl (z_i2l X dX8_nextChoice_46 (z_ldiv X dX8_nextChoice_47 (of_decide_eq_true b8) (z_tl ev9 (z_lstore X [(8, .long v9), (6, .long v7), (4, .long v1), (0, .long a1), (2, .int a2), (3, .int a3)] dX8_nextChoice_48 (by decide) rfl (z_lload X 0 dX8_nextChoice_50 rfl (z_ldc2 X dX8_nextChoice_52 ct77_X8_nextChoice (z_lload X 1 dX8_nextChoice_55 rfl (z_lsub X dX8_nextChoice_57 (z_lload X 2 dX8_nextChoice_58 rfl (z_ldiv X dX8_nextChoice_60 (of_decide_eq_true b10) (z_lcmp X dX8_nextChoice_61 (z_if_le X 71 dX8_nextChoice_62 (by decide) (fun c11 => ?_) (fun c11 => ?_)))))))))))))))))))))))))
        · replace h := z_ip c11 h
          refine z_lload X 0 dX8_nextChoice_71 rfl (z_lload X 2 dX8_nextChoice_73 rfl (z_lmul X dX8_nextChoice_75 (z_lload X 1 dX8_nextChoice_76 rfl (z_ladd X dX8_nextChoice_78 ?_))))
          cases h; exact z_lret X rfl dX8_nextChoice_79 ⟨rfl, rfl⟩
        · replace h := z_in c11 h
          refine z_ldc2 X dX8_nextChoice_65 ct79_X8_nextChoice (z_goto X 79 dX8_nextChoice_68 (by decide) ?_)
          cases h; exact z_lret X rfl dX8_nextChoice_79 ⟨rfl, rfl⟩
      · replace h := z_in c4 h
        refine z_ldc2 X dX8_nextChoice_28 ct79_X8_nextChoice ?_
        cases h; exact z_lret X rfl dX8_nextChoice_31 ⟨rfl, rfl⟩
    · replace h := z_in c3 h
      refine z_lconst X (v := 0) dX8_nextChoice_20 (by decide) ?_
      cases h; exact z_lret X rfl dX8_nextChoice_21 ⟨rfl, rfl⟩

theorem ct79_X8_zetaOf : Cond.constantLong RX8 79 (-1) ∈ wsX8_zetaOf := by decide +kernel
theorem ct77_X8_zetaOf : Cond.constantLong RX8 77 9223372036854775807 ∈ wsX8_zetaOf := by decide +kernel
theorem hy_X8_nextChoice : yX8_nextChoice.cls = RX8 ∧ yX8_nextChoice.cls ≠ "java/lang/invoke/MethodHandle" ∧ yX8_nextChoice.cls ≠ "java/lang/invoke/VarHandle" ∧ (parseMethodDescriptor yX8_nextChoice.desc).map (fun d => d.parameters.length) = some 3 := by decide +kernel
theorem hy_X8_walksTo : yX8_walksTo.cls = RX8 ∧ yX8_walksTo.cls ≠ "java/lang/invoke/MethodHandle" ∧ yX8_walksTo.cls ≠ "java/lang/invoke/VarHandle" ∧ (parseMethodDescriptor yX8_walksTo.desc).map (fun d => d.parameters.length) = some 2 := by decide +kernel
def j_X8_zetaOf_j30 (x1 : Int32) (x2 : Int32) (x3 : Int64) (x5 : Int64) (x7 : Int32) (w : z_M) (kb : (Int64 × Int64 × Int32) → Option (Int64)) (kx : Int64 → Option (Int64)) : Option (Int64) :=
  Option.bind (f_X8_walksTo x1 x7 w) (fun r3 => if r3 = 0 then (kb (x3, x5, x7 + 1)) else (if (lg_cmp x5 0) < 0 then (some (-1)) else (z_gd (decide (¬ r3.toInt64 = 0)) (if (lg_cmp x5 ((9223372036854775807 - x3) / r3.toInt64)) ≤ 0 then (z_lt (x3 + (x5 * r3.toInt64)) (fun v8 => kb (v8, x5, x7 + 1))) else (some (-1))))))
def b_X8_zetaOf_8 (x1 : Int32) (x2 : Int32) (u : z_M) : (Int64 × Int64 × Int32) → ((Int64 × Int64 × Int32) → Option (Int64)) → (Int64 → Option (Int64)) → Option (Int64) := fun q kb kx =>
  if 8 < q.2.2 then (kx q.1) else (if q.2.2 ≤ 0 then (j_X8_zetaOf_j30 x1 x2 q.1 q.2.1 q.2.2 u kb kx) else (Option.bind (f_X8_nextChoice q.2.1 x2 q.2.2) (fun r9 => j_X8_zetaOf_j30 x1 x2 q.1 r9 q.2.2 u kb kx)))
def f_X8_zetaOf (a1 : Int32) (a2 : Int32) (u : z_M) : Option (Int64) :=
  z_lp (b_X8_zetaOf_8 a1 a2 u) z_F (0, 1, 0) (fun t10 => some t10)
set_option maxRecDepth 20000 in
set_option maxHeartbeats 4000000 in
theorem wj_X8_zetaOf_j30 {p : Program} {l : Launch} {e : Env} {R : Room} {s : State} {m : MethodId} {args : Array Value} {below : List Frame} {meth : Method} {c : Code} {g : z_G} {u : z_M} {res : Int64} (hR : R = z_rm 2) (X : z_X p R s m args meth c cX8_zetaOf 9 RX8 wsX8_zetaOf (some .long) g z_shC) (x1 : Int32) (x2 : Int32) (x3 : Int64) (x5 : Int64) (x7 : Int32) (w : z_M) (ew : w = u) (kb : (Int64 × Int64 × Int32) → Option (Int64)) (kx : Int64 → Option (Int64)) (hkb : ∀ q, kb q = some res → z_V p l e R s m args below meth c 9 g z_shC (MQ below (z_Qc g z_shC (fun v u' => v = some (.long res) ∧ u' = u)) args s 0 0 (z_A g z_shC)) 8 [(0, .ref (z_ad g 125)), (1, .int x1), (2, .int x2), (3, .long q.1), (5, .long q.2.1), (7, .int q.2.2)] [] u) (hkx : ∀ t, kx t = some res → z_V p l e R s m args below meth c 9 g z_shC (MQ below (z_Qc g z_shC (fun v u' => v = some (.long res) ∧ u' = u)) args s 0 0 (z_A g z_shC)) 88 [(3, .long t)] [] u) (h : j_X8_zetaOf_j30 x1 x2 x3 x5 x7 w kb kx = some res) : z_V p l e R s m args below meth c 9 g z_shC (MQ below (z_Qc g z_shC (fun v u' => v = some (.long res) ∧ u' = u)) args s 0 0 (z_A g z_shC)) 30 [(0, .ref (z_ad g 125)), (1, .int x1), (2, .int x2), (3, .long x3), (5, .long x5), (7, .int x7)] [] w := by
  unfold j_X8_zetaOf_j30 at h
  subst ew
  obtain ⟨r3, er3, h⟩ := z_bs h
  refine z_aload_n X 0 dX8_zetaOf_30 rfl rfl (z_iload_n X 1 dX8_zetaOf_31 rfl rfl (z_iload X 5 dX8_zetaOf_32 rfl (z_callVi X (r := r3) (u1 := w) [.int x1, .int x7] [] (w_X8_walksTo l g x1 x7 w er3) z_c125 rfl gX8_zetaOf_X8_walksTo hy_X8_walksTo rfl (z_le1 hR (by decide)) (z_le2 hR (by decide) (by decide)) (Nat.le_of_ble_eq_true rfl) dX8_zetaOf_34 (z_istore X [(8, .int r3), (0, .ref (z_ad g 125)), (1, .int x1), (2, .int x2), (3, .long x3), (5, .long x5), (7, .int x7)] dX8_zetaOf_37 (by decide) rfl (z_iload X 0 dX8_zetaOf_39 rfl (z_if_ne X 47 dX8_zetaOf_41 (by decide) (fun c4 => ?_) (fun c4 => ?_)))))))
  · replace h := z_in c4 h
    refine z_lload X 5 dX8_zetaOf_47 rfl (z_lconst X (v := 0) dX8_zetaOf_49 (by decide) (z_lcmp X dX8_zetaOf_50 (z_if_lt X 69 dX8_zetaOf_51 (by decide) (fun c5 => ?_) (fun c5 => ?_))))
    · replace h := z_ip c5 h
      refine z_ldc2 X dX8_zetaOf_69 ct79_X8_zetaOf ?_
      cases h; exact z_lret X rfl dX8_zetaOf_72 ⟨rfl, rfl⟩
    · replace h := z_in c5 h
      obtain ⟨b6, h⟩ := z_gs h
      refine z_lload X 5 dX8_zetaOf_54 rfl (z_ldc2 X dX8_zetaOf_56 ct77_X8_zetaOf (z_lload_n X 4 dX8_zetaOf_59 rfl rfl (z_lsub X dX8_zetaOf_60 (z_iload X 0 dX8_zetaOf_61 rfl (z_i2l X dX8_zetaOf_63 (z_ldiv X dX8_zetaOf_64 (of_decide_eq_true b6) (z_lcmp X dX8_zetaOf_65 (z_if_le X 73 dX8_zetaOf_66 (by decide) (fun c7 => ?_) (fun c7 => ?_)))))))))
      · replace h := z_ip c7 h
        obtain ⟨v8, ev8, h⟩ := z_ls h
        refine z_lload_n X 4 dX8_zetaOf_73 rfl rfl (z_lload X 5 dX8_zetaOf_74 rfl (z_iload X 0 dX8_zetaOf_76 rfl (z_i2l X dX8_zetaOf_78 (z_lmul X dX8_zetaOf_79 (z_ladd X dX8_zetaOf_80 (z_tl ev8 (z_lstore_n X [(3, .long v8), (8, .int r3), (0, .ref (z_ad g 125)), (1, .int x1), (2, .int x2), (5, .long x5), (7, .int x7)] dX8_zetaOf_81 rfl (by decide) rfl (z_iinc X (v := x7 + 1) 6 [(7, .int (x7 + 1)), (3, .long v8), (8, .int r3), (0, .ref (z_ad g 125)), (1, .int x1), (2, .int x2), (5, .long x5)] dX8_zetaOf_82 rfl rfl (by decide) rfl (z_goto X 8 dX8_zetaOf_85 (by decide) (z_sub [3, 4, 5, 1, 6, 0] [(0, .ref (z_ad g 125)), (1, .int x1), (2, .int x2), (3, .long v8), (5, .long x5), (7, .int (x7 + 1))] rfl ?_))))))))))
        exact hkb (v8, x5, x7 + 1) h
      · replace h := z_in c7 h
        refine z_ldc2 X dX8_zetaOf_69 ct79_X8_zetaOf ?_
        cases h; exact z_lret X rfl dX8_zetaOf_72 ⟨rfl, rfl⟩
  · replace h := z_ip c4 h
    refine z_goto X 82 dX8_zetaOf_44 (by decide) (z_iinc X (v := x7 + 1) 6 [(7, .int (x7 + 1)), (8, .int r3), (0, .ref (z_ad g 125)), (1, .int x1), (2, .int x2), (3, .long x3), (5, .long x5)] dX8_zetaOf_82 rfl rfl (by decide) rfl (z_goto X 8 dX8_zetaOf_85 (by decide) (z_sub [2, 3, 4, 5, 6, 0] [(0, .ref (z_ad g 125)), (1, .int x1), (2, .int x2), (3, .long x3), (5, .long x5), (7, .int (x7 + 1))] rfl ?_)))
    exact hkb (x3, x5, x7 + 1) h
set_option maxRecDepth 20000 in
set_option maxHeartbeats 4000000 in
theorem wb_X8_zetaOf_8 {p : Program} {l : Launch} {e : Env} {R : Room} {s : State} {m : MethodId} {args : Array Value} {below : List Frame} {meth : Method} {c : Code} {g : z_G} {u : z_M} {res : Int64} (hR : R = z_rm 2) (X : z_X p R s m args meth c cX8_zetaOf 9 RX8 wsX8_zetaOf (some .long) g z_shC) (x1 : Int32) (x2 : Int32) (q : Int64 × Int64 × Int32) (kb : (Int64 × Int64 × Int32) → Option (Int64)) (kx : Int64 → Option (Int64)) (hkb : ∀ q, kb q = some res → z_V p l e R s m args below meth c 9 g z_shC (MQ below (z_Qc g z_shC (fun v u' => v = some (.long res) ∧ u' = u)) args s 0 0 (z_A g z_shC)) 8 [(0, .ref (z_ad g 125)), (1, .int x1), (2, .int x2), (3, .long q.1), (5, .long q.2.1), (7, .int q.2.2)] [] u) (hkx : ∀ t, kx t = some res → z_V p l e R s m args below meth c 9 g z_shC (MQ below (z_Qc g z_shC (fun v u' => v = some (.long res) ∧ u' = u)) args s 0 0 (z_A g z_shC)) 88 [(3, .long t)] [] u) (h : b_X8_zetaOf_8 x1 x2 u q kb kx = some res) : z_V p l e R s m args below meth c 9 g z_shC (MQ below (z_Qc g z_shC (fun v u' => v = some (.long res) ∧ u' = u)) args s 0 0 (z_A g z_shC)) 8 [(0, .ref (z_ad g 125)), (1, .int x1), (2, .int x2), (3, .long q.1), (5, .long q.2.1), (7, .int q.2.2)] [] u := by
  unfold b_X8_zetaOf_8 at h
  refine z_iload X 5 dX8_zetaOf_8 rfl (z_bipush X (v := 8) dX8_zetaOf_10 (by decide) (z_icmp_gt X 88 dX8_zetaOf_12 (by decide) (fun c1 => ?_) (fun c1 => ?_)))
  · replace h := z_ip c1 h
    refine z_sub [3] [(3, .long q.1)] rfl ?_
    exact hkx q.1 h
  · replace h := z_in c1 h
    refine z_iload X 5 dX8_zetaOf_15 rfl (z_if_le X 30 dX8_zetaOf_17 (by decide) (fun c2 => ?_) (fun c2 => ?_))
    · replace h := z_ip c2 h
      exact wj_X8_zetaOf_j30 (u := u) hR X x1 x2 q.1 q.2.1 q.2.2 u rfl kb kx hkb hkx h
    · replace h := z_in c2 h
      obtain ⟨r9, er9, h⟩ := z_bs h
      refine z_lload X 4 dX8_zetaOf_20 rfl (z_iload_n X 2 dX8_zetaOf_22 rfl rfl (z_iload X 5 dX8_zetaOf_23 rfl (z_callSl X (r := r9) (u1 := u) [.long q.2.1, .int x2, .int q.2.2] [] (w_X8_nextChoice l g q.2.1 x2 q.2.2 u er9) gX8_zetaOf_X8_nextChoice hy_X8_nextChoice.2 rfl (z_le1 hR (by decide)) (z_le2 hR (by decide) (by decide)) (Nat.le_of_ble_eq_true rfl) dX8_zetaOf_25 (z_lstore X [(5, .long r9), (0, .ref (z_ad g 125)), (1, .int x1), (2, .int x2), (3, .long q.1), (7, .int q.2.2)] dX8_zetaOf_28 (by decide) rfl (z_sub [1, 2, 3, 4, 0, 5] [(0, .ref (z_ad g 125)), (1, .int x1), (2, .int x2), (3, .long q.1), (5, .long r9), (7, .int q.2.2)] rfl ?_)))))
      exact wj_X8_zetaOf_j30 (u := u) hR X x1 x2 q.1 r9 q.2.2 u rfl kb kx hkb hkx h
set_option maxRecDepth 20000 in
set_option maxHeartbeats 4000000 in
theorem w_X8_zetaOf (l : Launch) (g : z_G) (a1 : Int32) (a2 : Int32) (u : z_M) {res : Int64} (h : f_X8_zetaOf a1 a2 u = some res) : z_C l g z_shC yX8_zetaOf wsX8_zetaOf 2 [.ref (z_ad g 125), .int a1, .int a2] u (fun v u' => v = some (.long res) ∧ u' = u) := by
  refine z_C.mk (lv := [(0, .ref (z_ad g 125)), (1, .int a1), (2, .int a2)]) (cc := cX8_zetaOf) (nL := 9) (rt := (some .long)) rfl (by decide) (Nat.le_of_ble_eq_true rfl) rfl (fun p e R s m args below meth c hR X => ?_)
  unfold f_X8_zetaOf at h
  refine z_lconst X (v := 0) dX8_zetaOf_0 (by decide) (z_lstore_n X [(3, .long 0), (0, .ref (z_ad g 125)), (1, .int a1), (2, .int a2)] dX8_zetaOf_1 rfl (by decide) rfl (z_lconst X (v := 1) dX8_zetaOf_2 (by decide) (z_lstore X [(5, .long 1), (3, .long 0), (0, .ref (z_ad g 125)), (1, .int a1), (2, .int a2)] dX8_zetaOf_3 (by decide) rfl (z_iconst X (v := 0) dX8_zetaOf_5 (by decide) (z_istore X [(7, .int 0), (5, .long 1), (3, .long 0), (0, .ref (z_ad g 125)), (1, .int a1), (2, .int a2)] dX8_zetaOf_6 (by decide) rfl (z_sub [3, 4, 5, 2, 1, 0] [(0, .ref (z_ad g 125)), (1, .int a1), (2, .int a2), (3, .long 0), (5, .long 1), (7, .int 0)] rfl ?_))))))
  have hw := z_lp_w (fun q9 kb9 kx9 h1 h2 h3 => wb_X8_zetaOf_8 (l := l) (e := e) (below := below) (u := u) hR X a1 a2 q9 kb9 kx9 h1 h2 h3) z_F _ _ h
  refine hw (fun t10 h => ?_)
  refine z_lload_n X 0 dX8_zetaOf_88 rfl rfl ?_
  cases h; exact z_lret X rfl dX8_zetaOf_89 ⟨rfl, rfl⟩

theorem ini_X9_isIn_X8_endingsOf : Cond.initialized yX9_isIn.cls ∈ wsX8_endingsOf := by decide +kernel
theorem sta_X9_isIn_X8_endingsOf : Cond.static yX9_isIn ∈ wsX8_endingsOf := by decide +kernel
theorem lk_X8_endingsOf_89 : (Cond.fieldLink RX8 89 RX6 (TX6 3).2.1 (TX6 3).2.2.1) ∈ wsX8_endingsOf := by decide +kernel
theorem in_X8_endingsOf_X6 : ∀ w ∈ u_ws RX6 TX6 6, w ∈ wsX8_endingsOf := by decide +kernel
theorem lk_X8_endingsOf_24 : (Cond.fieldLink RX8 24 RX8 (TX8 4).2.1 (TX8 4).2.2.1) ∈ wsX8_endingsOf := by decide +kernel
theorem in_X8_endingsOf_X8 : ∀ w ∈ u_ws RX8 TX8 5, w ∈ wsX8_endingsOf := by decide +kernel
def b_X8_endingsOf_5 (x1 : Nat) (x2 : Int32) (u : z_M) : (Int32 × Int32) → ((Int32 × Int32) → Option (Int32)) → (Int32 → Option (Int32)) → Option (Int32) := fun q kb kx =>
  if 9 ≤ q.2 then (kx q.1) else (Option.bind (f_X9_isIn x2 q.2) (fun r2 => if r2 = 0 then (kb (q.1, q.2 + 1)) else (z_gd (z_inb q.2 9) (if ((z_gI u (x1 + 1) q.2.toNatClampNeg) &&& x2) = 0 then (z_gd (z_inb (x2 &&& ((1 <<< (q.2 &&& 31)) ^^^ (-1))) 512) (z_lt (q.1 + (z_gI u 130 (x2 &&& ((1 <<< (q.2 &&& 31)) ^^^ (-1))).toNatClampNeg)) (fun v7 => kb (v7, q.2 + 1)))) else (kb (q.1, q.2 + 1))))))
def f_X8_endingsOf (a1 : Nat) (a2 : Int32) (u : z_M) : Option (Int32) :=
  z_lp (b_X8_endingsOf_5 a1 a2 u) z_F (0, 0) (fun t8 => some t8)
set_option maxRecDepth 20000 in
set_option maxHeartbeats 4000000 in
theorem wb_X8_endingsOf_5 {p : Program} {l : Launch} {e : Env} {R : Room} {s : State} {m : MethodId} {args : Array Value} {below : List Frame} {meth : Method} {c : Code} {g : z_G} {u : z_M} {res : Int32} (hR : R = z_rm 2) (X : z_X p R s m args meth c cX8_endingsOf 5 RX8 wsX8_endingsOf (some .int) g z_shC) (x1 : Nat) (x2 : Int32) (ex1 : z_PO x1) (q : Int32 × Int32) (kb : (Int32 × Int32) → Option (Int32)) (kx : Int32 → Option (Int32)) (hkb : ∀ q, kb q = some res → z_V p l e R s m args below meth c 5 g z_shC (MQ below (z_Qc g z_shC (fun v u' => v = some (.int res) ∧ u' = u)) args s 0 0 (z_A g z_shC)) 5 [(0, .ref (z_ad g 125)), (1, .ref (z_ad g x1)), (2, .int x2), (3, .int q.1), (4, .int q.2)] [] u) (hkx : ∀ t, kx t = some res → z_V p l e R s m args below meth c 5 g z_shC (MQ below (z_Qc g z_shC (fun v u' => v = some (.int res) ∧ u' = u)) args s 0 0 (z_A g z_shC)) 55 [(3, .int t)] [] u) (h : b_X8_endingsOf_5 x1 x2 u q kb kx = some res) : z_V p l e R s m args below meth c 5 g z_shC (MQ below (z_Qc g z_shC (fun v u' => v = some (.int res) ∧ u' = u)) args s 0 0 (z_A g z_shC)) 5 [(0, .ref (z_ad g 125)), (1, .ref (z_ad g x1)), (2, .int x2), (3, .int q.1), (4, .int q.2)] [] u := by
  unfold b_X8_endingsOf_5 at h
  refine z_iload X 4 dX8_endingsOf_5 rfl (z_bipush X (v := 9) dX8_endingsOf_7 (by decide) (z_icmp_ge X 55 dX8_endingsOf_9 (by decide) (fun c1 => ?_) (fun c1 => ?_)))
  · replace h := z_ip c1 h
    refine z_sub [3] [(3, .int q.1)] rfl ?_
    exact hkx q.1 h
  · replace h := z_in c1 h
    obtain ⟨r2, er2, h⟩ := z_bs h
    refine z_iload_n X 2 dX8_endingsOf_12 rfl rfl (z_iload X 4 dX8_endingsOf_13 rfl (z_callNi X (r := r2) (u1 := u) [.int x2, .int q.2] [] (w_X9_isIn l g x2 q.2 u er2) gX8_endingsOf_X9_isIn_n33 nn_X8 ini_X9_isIn_X8_endingsOf sta_X9_isIn_X8_endingsOf hy_X9_isIn.2 rfl (z_le1 hR (by decide)) (z_le2 hR (by decide) (by decide)) (Nat.le_of_ble_eq_true rfl) dX8_endingsOf_15 (z_if_eq X 49 dX8_endingsOf_18 (by decide) (fun c3 => ?_) (fun c3 => ?_))))
    · replace h := z_ip c3 h
      refine z_iinc X (v := q.2 + 1) 4 [(4, .int (q.2 + 1)), (0, .ref (z_ad g 125)), (1, .ref (z_ad g x1)), (2, .int x2), (3, .int q.1)] dX8_endingsOf_49 rfl rfl (by decide) rfl (z_goto X 5 dX8_endingsOf_52 (by decide) (z_sub [1, 2, 3, 4, 0] [(0, .ref (z_ad g 125)), (1, .ref (z_ad g x1)), (2, .int x2), (3, .int q.1), (4, .int (q.2 + 1))] rfl ?_))
      exact hkb (q.1, q.2 + 1) h
    · replace h := z_in c3 h
      obtain ⟨b4, h⟩ := z_gs h
      refine z_aload_n X 1 dX8_endingsOf_21 rfl rfl (z_getR X (k0 := 3) (z_po ex1) rfl in_X8_endingsOf_X6 (by decide) rfl rfl lk_X8_endingsOf_89 dX8_endingsOf_22 (z_iload X 4 dX8_endingsOf_25 rfl (z_iald X (z_poA ex1) (z_inS b4) dX8_endingsOf_27 (z_iload_n X 2 dX8_endingsOf_28 rfl rfl (z_iand X dX8_endingsOf_29 (z_if_ne X 49 dX8_endingsOf_30 (by decide) (fun c5 => ?_) (fun c5 => ?_)))))))
      · replace h := z_in c5 h
        refine z_iinc X (v := q.2 + 1) 4 [(4, .int (q.2 + 1)), (0, .ref (z_ad g 125)), (1, .ref (z_ad g x1)), (2, .int x2), (3, .int q.1)] dX8_endingsOf_49 rfl rfl (by decide) rfl (z_goto X 5 dX8_endingsOf_52 (by decide) (z_sub [1, 2, 3, 4, 0] [(0, .ref (z_ad g 125)), (1, .ref (z_ad g x1)), (2, .int x2), (3, .int q.1), (4, .int (q.2 + 1))] rfl ?_))
        exact hkb (q.1, q.2 + 1) h
      · replace h := z_ip c5 h
        obtain ⟨b6, h⟩ := z_gs h
        obtain ⟨v7, ev7, h⟩ := z_ls h
        refine z_iload_n X 3 dX8_endingsOf_33 rfl rfl (z_aload_n X 0 dX8_endingsOf_34 rfl rfl (z_getR X (k0 := 4) z_c125 rfl in_X8_endingsOf_X8 (by decide) rfl rfl lk_X8_endingsOf_24 dX8_endingsOf_35 (z_iload_n X 2 dX8_endingsOf_38 rfl rfl (z_iconst X (v := 1) dX8_endingsOf_39 (by decide) (z_iload X 4 dX8_endingsOf_40 rfl (z_ishl X dX8_endingsOf_42 (z_iconst X (v := (-1)) dX8_endingsOf_43 (by decide) (z_ixor X dX8_endingsOf_44 (z_iand X dX8_endingsOf_45 (z_iald X z_c130 (z_inS b6) dX8_endingsOf_46 (z_iadd X dX8_endingsOf_47 (z_ti ev7 (z_istore_n X [(3, .int v7), (0, .ref (z_ad g 125)), (1, .ref (z_ad g x1)), (2, .int x2), (4, .int q.2)] dX8_endingsOf_48 rfl (by decide) rfl (z_iinc X (v := q.2 + 1) 4 [(4, .int (q.2 + 1)), (3, .int v7), (0, .ref (z_ad g 125)), (1, .ref (z_ad g x1)), (2, .int x2)] dX8_endingsOf_49 rfl rfl (by decide) rfl (z_goto X 5 dX8_endingsOf_52 (by decide) (z_sub [2, 3, 4, 1, 0] [(0, .ref (z_ad g 125)), (1, .ref (z_ad g x1)), (2, .int x2), (3, .int v7), (4, .int (q.2 + 1))] rfl ?_))))))))))))))))
        exact hkb (v7, q.2 + 1) h
set_option maxRecDepth 20000 in
set_option maxHeartbeats 4000000 in
theorem w_X8_endingsOf (l : Launch) (g : z_G) (a1 : Nat) (a2 : Int32) (ea1 : z_PO a1) (u : z_M) {res : Int32} (h : f_X8_endingsOf a1 a2 u = some res) : z_C l g z_shC yX8_endingsOf wsX8_endingsOf 2 [.ref (z_ad g 125), .ref (z_ad g a1), .int a2] u (fun v u' => v = some (.int res) ∧ u' = u) := by
  refine z_C.mk (lv := [(0, .ref (z_ad g 125)), (1, .ref (z_ad g a1)), (2, .int a2)]) (cc := cX8_endingsOf) (nL := 5) (rt := (some .int)) rfl (by decide) (Nat.le_of_ble_eq_true rfl) rfl (fun p e R s m args below meth c hR X => ?_)
  unfold f_X8_endingsOf at h
  refine z_iconst X (v := 0) dX8_endingsOf_0 (by decide) (z_istore_n X [(3, .int 0), (0, .ref (z_ad g 125)), (1, .ref (z_ad g a1)), (2, .int a2)] dX8_endingsOf_1 rfl (by decide) rfl (z_iconst X (v := 0) dX8_endingsOf_2 (by decide) (z_istore X [(4, .int 0), (3, .int 0), (0, .ref (z_ad g 125)), (1, .ref (z_ad g a1)), (2, .int a2)] dX8_endingsOf_3 (by decide) rfl (z_sub [2, 3, 4, 1, 0] [(0, .ref (z_ad g 125)), (1, .ref (z_ad g a1)), (2, .int a2), (3, .int 0), (4, .int 0)] rfl ?_))))
  have hw := z_lp_w (fun q9 kb9 kx9 h1 h2 h3 => wb_X8_endingsOf_5 (l := l) (e := e) (below := below) (u := u) hR X a1 a2 ea1 q9 kb9 kx9 h1 h2 h3) z_F _ _ h
  refine hw (fun t8 h => ?_)
  refine z_iload_n X 0 dX8_endingsOf_55 rfl rfl ?_
  cases h; exact z_iret X rfl dX8_endingsOf_56 ⟨rfl, rfl⟩

theorem lk_X8_extensionsOf_24 : (Cond.fieldLink RX8 24 RX8 (TX8 4).2.1 (TX8 4).2.2.1) ∈ wsX8_extensionsOf := by decide +kernel
theorem in_X8_extensionsOf_X8 : ∀ w ∈ u_ws RX8 TX8 5, w ∈ wsX8_extensionsOf := by decide +kernel
theorem lk_X8_extensionsOf_81 : (Cond.fieldLink RX8 81 RX6 (TX6 1).2.1 (TX6 1).2.2.1) ∈ wsX8_extensionsOf := by decide +kernel
theorem in_X8_extensionsOf_X6 : ∀ w ∈ u_ws RX6 TX6 6, w ∈ wsX8_extensionsOf := by decide +kernel
theorem hy_X8_endingsOf : yX8_endingsOf.cls = RX8 ∧ yX8_endingsOf.cls ≠ "java/lang/invoke/MethodHandle" ∧ yX8_endingsOf.cls ≠ "java/lang/invoke/VarHandle" ∧ (parseMethodDescriptor yX8_endingsOf.desc).map (fun d => d.parameters.length) = some 2 := by decide +kernel
def b_X8_extensionsOf_9 (x1 : Nat) : (Int32 × z_M) → ((Int32 × z_M) → Option (Int32 × z_M)) → (z_M → Option (Int32 × z_M)) → Option (Int32 × z_M) := fun q kb kx =>
  if 512 ≤ q.1 then (kx q.2) else (if (q.1 &&& ((z_gI q.2 x1 1) ^^^ (-1))) = 0 then (Option.bind (f_X8_endingsOf x1 q.1 q.2) (fun r5 => z_gd (z_inb q.1 512) (z_lt (z_sI q.2 130 q.1.toNatClampNeg r5) (fun u7 => kb (q.1 + 1, u7))))) else (kb (q.1 + 1, q.2)))
def f_X8_extensionsOf (a1 : Nat) (u : z_M) : Option (Int32 × z_M) :=
  z_gd (z_inb 0 512) (z_lt (z_sI u 130 (0 : Int32).toNatClampNeg 1) (fun u2 => z_lp (b_X8_extensionsOf_9 a1) z_F (1, u2) (fun t8 => z_gd (z_inb ((z_gI t8 a1 1) &&& 511) 512) (some (z_gI t8 130 ((z_gI t8 a1 1) &&& 511).toNatClampNeg, t8)))))
set_option maxRecDepth 20000 in
set_option maxHeartbeats 4000000 in
theorem wb_X8_extensionsOf_9 {p : Program} {l : Launch} {e : Env} {R : Room} {s : State} {m : MethodId} {args : Array Value} {below : List Frame} {meth : Method} {c : Code} {g : z_G} {u : z_M} {res : Int32 × z_M} (hR : R = z_rm 3) (X : z_X p R s m args meth c cX8_extensionsOf 3 RX8 wsX8_extensionsOf (some .int) g z_shC) (x1 : Nat) (ex1 : z_PO x1) (q : Int32 × z_M) (kb : (Int32 × z_M) → Option (Int32 × z_M)) (kx : z_M → Option (Int32 × z_M)) (hkb : ∀ q, kb q = some res → z_V p l e R s m args below meth c 3 g z_shC (MQ below (z_Qc g z_shC (fun v u' => v = some (.int res.1) ∧ u' = res.2)) args s 0 0 (z_A g z_shC)) 9 [(0, .ref (z_ad g 125)), (1, .ref (z_ad g x1)), (2, .int q.1)] [] q.2) (hkx : ∀ t, kx t = some res → z_V p l e R s m args below meth c 3 g z_shC (MQ below (z_Qc g z_shC (fun v u' => v = some (.int res.1) ∧ u' = res.2)) args s 0 0 (z_A g z_shC)) 45 [(0, .ref (z_ad g 125)), (1, .ref (z_ad g x1))] [] t) (h : b_X8_extensionsOf_9 x1 q kb kx = some res) : z_V p l e R s m args below meth c 3 g z_shC (MQ below (z_Qc g z_shC (fun v u' => v = some (.int res.1) ∧ u' = res.2)) args s 0 0 (z_A g z_shC)) 9 [(0, .ref (z_ad g 125)), (1, .ref (z_ad g x1)), (2, .int q.1)] [] q.2 := by
  unfold b_X8_extensionsOf_9 at h
  refine z_iload_n X 2 dX8_extensionsOf_9 rfl rfl (z_sipush X (v := 512) dX8_extensionsOf_10 (by decide) (z_icmp_ge X 45 dX8_extensionsOf_13 (by decide) (fun c3 => ?_) (fun c3 => ?_)))
  · replace h := z_ip c3 h
    refine z_sub [0, 1] [(0, .ref (z_ad g 125)), (1, .ref (z_ad g x1))] rfl ?_
    exact hkx q.2 h
  · replace h := z_in c3 h
    refine z_iload_n X 2 dX8_extensionsOf_16 rfl rfl (z_aload_n X 1 dX8_extensionsOf_17 rfl rfl (z_getI X (k0 := 1) (z_po ex1) rfl in_X8_extensionsOf_X6 (by decide) rfl rfl lk_X8_extensionsOf_81 dX8_extensionsOf_18 (z_iconst X (v := (-1)) dX8_extensionsOf_21 (by decide) (z_ixor X dX8_extensionsOf_22 (z_iand X dX8_extensionsOf_23 (z_if_ne X 39 dX8_extensionsOf_24 (by decide) (fun c4 => ?_) (fun c4 => ?_)))))))
    · replace h := z_in c4 h
      refine z_iinc X (v := q.1 + 1) 2 [(2, .int (q.1 + 1)), (0, .ref (z_ad g 125)), (1, .ref (z_ad g x1))] dX8_extensionsOf_39 rfl rfl (by decide) rfl (z_goto X 9 dX8_extensionsOf_42 (by decide) (z_sub [1, 2, 0] [(0, .ref (z_ad g 125)), (1, .ref (z_ad g x1)), (2, .int (q.1 + 1))] rfl ?_))
      exact hkb (q.1 + 1, q.2) h
    · replace h := z_ip c4 h
      obtain ⟨r5, er5, h⟩ := z_bs h
      obtain ⟨b6, h⟩ := z_gs h
      obtain ⟨u7, eu7, h⟩ := z_ls h
      refine z_aload_n X 0 dX8_extensionsOf_27 rfl rfl (z_getR X (k0 := 4) z_c125 rfl in_X8_extensionsOf_X8 (by decide) rfl rfl lk_X8_extensionsOf_24 dX8_extensionsOf_28 (z_iload_n X 2 dX8_extensionsOf_31 rfl rfl (z_aload_n X 0 dX8_extensionsOf_32 rfl rfl (z_aload_n X 1 dX8_extensionsOf_33 rfl rfl (z_iload_n X 2 dX8_extensionsOf_34 rfl rfl (z_callVi X (r := r5) (u1 := q.2) [.ref (z_ad g x1), .int q.1] [.int q.1, .ref (z_ad g 130)] (w_X8_endingsOf l g x1 q.1 ex1 q.2 er5) z_c125 rfl gX8_extensionsOf_X8_endingsOf hy_X8_endingsOf rfl (z_le1 hR (by decide)) (z_le2 hR (by decide) (by decide)) (Nat.le_of_ble_eq_true rfl) dX8_extensionsOf_35 (z_iast X z_c130 (z_inS b6) dX8_extensionsOf_38 (z_nm eu7 (z_iinc X (v := q.1 + 1) 2 [(2, .int (q.1 + 1)), (0, .ref (z_ad g 125)), (1, .ref (z_ad g x1))] dX8_extensionsOf_39 rfl rfl (by decide) rfl (z_goto X 9 dX8_extensionsOf_42 (by decide) (z_sub [1, 2, 0] [(0, .ref (z_ad g 125)), (1, .ref (z_ad g x1)), (2, .int (q.1 + 1))] rfl ?_)))))))))))
      exact hkb (q.1 + 1, u7) h
set_option maxRecDepth 20000 in
set_option maxHeartbeats 4000000 in
theorem w_X8_extensionsOf (l : Launch) (g : z_G) (a1 : Nat) (ea1 : z_PO a1) (u : z_M) {res : Int32 × z_M} (h : f_X8_extensionsOf a1 u = some res) : z_C l g z_shC yX8_extensionsOf wsX8_extensionsOf 3 [.ref (z_ad g 125), .ref (z_ad g a1)] u (fun v u' => v = some (.int res.1) ∧ u' = res.2) := by
  refine z_C.mk (lv := [(0, .ref (z_ad g 125)), (1, .ref (z_ad g a1))]) (cc := cX8_extensionsOf) (nL := 3) (rt := (some .int)) rfl (by decide) (Nat.le_of_ble_eq_true rfl) rfl (fun p e R s m args below meth c hR X => ?_)
  unfold f_X8_extensionsOf at h
  obtain ⟨b1, h⟩ := z_gs h
  obtain ⟨u2, eu2, h⟩ := z_ls h
  refine z_aload_n X 0 dX8_extensionsOf_0 rfl rfl (z_getR X (k0 := 4) z_c125 rfl in_X8_extensionsOf_X8 (by decide) rfl rfl lk_X8_extensionsOf_24 dX8_extensionsOf_1 (z_iconst X (v := 0) dX8_extensionsOf_4 (by decide) (z_iconst X (v := 1) dX8_extensionsOf_5 (by decide) (z_iast X z_c130 (z_inS b1) dX8_extensionsOf_6 (z_nm eu2 (z_iconst X (v := 1) dX8_extensionsOf_7 (by decide) (z_istore_n X [(2, .int 1), (0, .ref (z_ad g 125)), (1, .ref (z_ad g a1))] dX8_extensionsOf_8 rfl (by decide) rfl (z_sub [1, 2, 0] [(0, .ref (z_ad g 125)), (1, .ref (z_ad g a1)), (2, .int 1)] rfl ?_))))))))
  have hw := z_lp_w (fun q9 kb9 kx9 h1 h2 h3 => wb_X8_extensionsOf_9 (l := l) (e := e) (below := below) (u := u2) hR X a1 ea1 q9 kb9 kx9 h1 h2 h3) z_F _ _ h
  refine hw (fun t8 h => ?_)
  obtain ⟨b9, h⟩ := z_gs h
  refine z_aload_n X 0 dX8_extensionsOf_45 rfl rfl (z_getR X (k0 := 4) z_c125 rfl in_X8_extensionsOf_X8 (by decide) rfl rfl lk_X8_extensionsOf_24 dX8_extensionsOf_46 (z_aload_n X 1 dX8_extensionsOf_49 rfl rfl (z_getI X (k0 := 1) (z_po ea1) rfl in_X8_extensionsOf_X6 (by decide) rfl rfl lk_X8_extensionsOf_81 dX8_extensionsOf_50 (z_sipush X (v := 511) dX8_extensionsOf_53 (by decide) (z_iand X dX8_extensionsOf_56 (z_iald X z_c130 (z_inS b9) dX8_extensionsOf_57 ?_))))))
  cases h; exact z_iret X rfl dX8_extensionsOf_58 ⟨rfl, rfl⟩

theorem lk_X9_sign_14 : (Cond.fieldLink RX9 14 RX9 (TX9 0).2.1 (TX9 0).2.2.1) ∈ wsX9_sign := by decide +kernel
theorem in_X9_sign_X9 : ∀ w ∈ u_ws RX9 TX9 9, w ∈ wsX9_sign := by decide +kernel
theorem hy_X7_append : yX7_append.cls = RX7 ∧ yX7_append.cls ≠ "java/lang/invoke/MethodHandle" ∧ yX7_append.cls ≠ "java/lang/invoke/VarHandle" ∧ (parseMethodDescriptor yX7_append.desc).map (fun d => d.parameters.length) = some 1 := by decide +kernel
def f_X9_sign (a1 : Int32) (u : z_M) : Option (Int32 × z_M) :=
  z_b2 (f_X7_append a1 u) (fun r1 u2 => some (r1, u2))
set_option maxRecDepth 20000 in
set_option maxHeartbeats 4000000 in
theorem w_X9_sign (l : Launch) (g : z_G) (a1 : Int32) (u : z_M) {res : Int32 × z_M} (h : f_X9_sign a1 u = some res) : z_C l g z_shC yX9_sign wsX9_sign 2 [.ref (z_ad g 80), .int a1] u (fun v u' => v = some (.int res.1) ∧ u' = res.2) := by
  refine z_C.mk (lv := [(0, .ref (z_ad g 80)), (1, .int a1)]) (cc := cX9_sign) (nL := 2) (rt := (some .int)) rfl (by decide) (Nat.le_of_ble_eq_true rfl) rfl (fun p e R s m args below meth c hR X => ?_)
  unfold f_X9_sign at h
  obtain ⟨r1, u2, er1, h⟩ := z_b2s h
  refine z_aload_n X 0 dX9_sign_0 rfl rfl (z_getR X (k0 := 0) z_c80 rfl in_X9_sign_X9 (by decide) rfl rfl lk_X9_sign_14 dX9_sign_1 (z_iload_n X 1 dX9_sign_4 rfl rfl (z_callVi X (r := r1) (u1 := u2) [.int a1] [] (w_X7_append l g a1 u er1) z_c81 rfl gX9_sign_X7_append hy_X7_append rfl (z_le1 hR (by decide)) (z_le2 hR (by decide) (by decide)) (Nat.le_of_ble_eq_true rfl) dX9_sign_5 ?_)))
  cases h; exact z_iret X rfl dX9_sign_8 ⟨rfl, rfl⟩

theorem lk_X9_end_14 : (Cond.fieldLink RX9 14 RX9 (TX9 0).2.1 (TX9 0).2.2.1) ∈ wsX9_end := by decide +kernel
theorem in_X9_end_X9 : ∀ w ∈ u_ws RX9 TX9 9, w ∈ wsX9_end := fun _ h => List.mem_cons_of_mem _ (List.mem_append_left _ (List.mem_append_right _ h))
theorem hy_X7_cut : yX7_cut.cls = RX7 ∧ yX7_cut.cls ≠ "java/lang/invoke/MethodHandle" ∧ yX7_cut.cls ≠ "java/lang/invoke/VarHandle" ∧ (parseMethodDescriptor yX7_cut.desc).map (fun d => d.parameters.length) = some 1 := by decide +kernel
def f_X9_end (a1 : Int32) (u : z_M) : Option (Int32 × z_M) :=
  z_b2 (f_X7_cut a1 u) (fun r1 u2 => z_gd (decide (r1 = 0 ∨ r1 = 1)) (some (r1, u2)))
set_option maxRecDepth 20000 in
set_option maxHeartbeats 4000000 in
theorem w_X9_end (l : Launch) (g : z_G) (a1 : Int32) (u : z_M) {res : Int32 × z_M} (h : f_X9_end a1 u = some res) : z_C l g z_shC yX9_end wsX9_end 2 [.ref (z_ad g 80), .int a1] u (fun v u' => v = some (.int res.1) ∧ u' = res.2) := by
  refine z_C.mk (lv := [(0, .ref (z_ad g 80)), (1, .int a1)]) (cc := cX9_end) (nL := 2) (rt := (some .boolean)) rfl (by decide) (Nat.le_of_ble_eq_true rfl) rfl (fun p e R s m args below meth c hR X => ?_)
  unfold f_X9_end at h
  obtain ⟨r1, u2, er1, h⟩ := z_b2s h
  obtain ⟨b3, h⟩ := z_gs h
  refine z_aload_n X 0 dX9_end_0 rfl rfl (z_getR X (k0 := 0) z_c80 rfl in_X9_end_X9 (by decide) rfl rfl lk_X9_end_14 dX9_end_1 (z_iload_n X 1 dX9_end_4 rfl rfl (z_callVi X (r := r1) (u1 := u2) [.int a1] [] (w_X7_cut l g a1 u er1) z_c81 rfl gX9_end_X7_cut hy_X7_cut rfl (z_le1 hR (by decide)) (z_le2 hR (by decide) (by decide)) (Nat.le_of_ble_eq_true rfl) dX9_end_5 ?_)))
  cases h; exact z_zret X rfl (z_nz b3) dX9_end_8 ⟨rfl, rfl⟩

theorem lk_X9_order_14 : (Cond.fieldLink RX9 14 RX9 (TX9 0).2.1 (TX9 0).2.2.1) ∈ wsX9_order := by decide +kernel
theorem in_X9_order_X9 : ∀ w ∈ u_ws RX9 TX9 9, w ∈ wsX9_order := fun _ h => List.mem_cons_of_mem _ (List.mem_append_left _ (List.mem_append_left _ (List.mem_append_left _ (List.mem_append_right _ h))))
theorem lk_X9_order_21 : (Cond.fieldLink RX9 21 RX9 (TX9 1).2.1 (TX9 1).2.2.1) ∈ wsX9_order := by decide +kernel
theorem lk_X9_order_83 : (Cond.fieldLink RX9 83 RX7 (TX7 2).2.1 (TX7 2).2.2.1) ∈ wsX9_order := by decide +kernel
theorem in_X9_order_X7 : ∀ w ∈ u_ws RX7 TX7 11, w ∈ wsX9_order := fun _ h => List.mem_cons_of_mem _ (List.mem_append_left _ (List.mem_append_left _ (List.mem_append_right _ h)))
theorem lk_X9_order_28 : (Cond.fieldLink RX9 28 RX9 (TX9 2).2.1 (TX9 2).2.2.1) ∈ wsX9_order := by decide +kernel
theorem lk_X9_order_32 : (Cond.fieldLink RX9 32 RX9 (TX9 3).2.1 (TX9 3).2.2.1) ∈ wsX9_order := by decide +kernel
theorem hy_X5_forget : yX5_forget.cls = RX5 ∧ yX5_forget.cls ≠ "java/lang/invoke/MethodHandle" ∧ yX5_forget.cls ≠ "java/lang/invoke/VarHandle" ∧ (parseMethodDescriptor yX5_forget.desc).map (fun d => d.parameters.length) = some 0 := by decide +kernel
theorem hy_X7_readLines : yX7_readLines.cls = RX7 ∧ yX7_readLines.cls ≠ "java/lang/invoke/MethodHandle" ∧ yX7_readLines.cls ≠ "java/lang/invoke/VarHandle" ∧ (parseMethodDescriptor yX7_readLines.desc).map (fun d => d.parameters.length) = some 0 := by decide +kernel
def b_X9_order_45 (x1 : Int32) : (Int32 × z_M) → ((Int32 × z_M) → Option (Int32 × z_M)) → (z_M → Option (Int32 × z_M)) → Option (Int32 × z_M) := fun q kb kx =>
  if 2 ≤ q.1 then (kx q.2) else (z_gd (z_inb q.1 2) (Option.bind (f_X6_begin (8 + 4 * q.1.toNatClampNeg) 0 q.2) (fun r10 => kb (q.1 + 1, r10))))
def f_X9_order (u : z_M) : Option (Int32 × z_M) :=
  z_b2 (f_X7_readLines u) (fun r1 u2 => z_b2 (f_X7_cut 0 u2) (fun r3 u4 => if r1 = (-1) then (some (r1, u4)) else (Option.bind (f_X6_copy 0 4 u4) (fun r6 => Option.bind (f_X5_forget r6) (fun r7 => z_lp (b_X9_order_45 r1) z_F (0, r7) (fun t11 => some (r1, t11)))))))
set_option maxRecDepth 20000 in
set_option maxHeartbeats 4000000 in
theorem wb_X9_order_45 {p : Program} {l : Launch} {e : Env} {R : Room} {s : State} {m : MethodId} {args : Array Value} {below : List Frame} {meth : Method} {c : Code} {g : z_G} {u : z_M} {res : Int32 × z_M} (hR : R = z_rm 13) (X : z_X p R s m args meth c cX9_order 3 RX9 wsX9_order (some .int) g z_shC) (x1 : Int32) (q : Int32 × z_M) (kb : (Int32 × z_M) → Option (Int32 × z_M)) (kx : z_M → Option (Int32 × z_M)) (hkb : ∀ q, kb q = some res → z_V p l e R s m args below meth c 3 g z_shC (MQ below (z_Qc g z_shC (fun v u' => v = some (.int res.1) ∧ u' = res.2)) args s 0 0 (z_A g z_shC)) 45 [(0, .ref (z_ad g 80)), (1, .int x1), (2, .int q.1)] [] q.2) (hkx : ∀ t, kx t = some res → z_V p l e R s m args below meth c 3 g z_shC (MQ below (z_Qc g z_shC (fun v u' => v = some (.int res.1) ∧ u' = res.2)) args s 0 0 (z_A g z_shC)) 66 [(1, .int x1)] [] t) (h : b_X9_order_45 x1 q kb kx = some res) : z_V p l e R s m args below meth c 3 g z_shC (MQ below (z_Qc g z_shC (fun v u' => v = some (.int res.1) ∧ u' = res.2)) args s 0 0 (z_A g z_shC)) 45 [(0, .ref (z_ad g 80)), (1, .int x1), (2, .int q.1)] [] q.2 := by
  unfold b_X9_order_45 at h
  refine z_iload_n X 2 dX9_order_45 rfl rfl (z_iconst X (v := 2) dX9_order_46 (by decide) (z_icmp_ge X 66 dX9_order_47 (by decide) (fun c8 => ?_) (fun c8 => ?_)))
  · replace h := z_ip c8 h
    refine z_sub [1] [(1, .int x1)] rfl ?_
    exact hkx q.2 h
  · replace h := z_in c8 h
    obtain ⟨b9, h⟩ := z_gs h
    obtain ⟨r10, er10, h⟩ := z_bs h
    refine z_aload_n X 0 dX9_order_50 rfl rfl (z_getR X (k0 := 3) z_c80 rfl in_X9_order_X9 (by decide) rfl rfl lk_X9_order_32 dX9_order_51 (z_iload_n X 2 dX9_order_54 rfl rfl (z_aalP X z_c85 (z_inS b9) dX9_order_55 (z_iconst X (v := 0) dX9_order_56 (by decide) (z_callVv X (u1 := r10) [.int 0] [] (w_X6_begin l g (8 + 4 * q.1.toNatClampNeg) 0 (z_po_kept (z_inS b9)) q.2 er10) (z_po (z_po_kept (z_inS b9))) rfl gX9_order_X6_begin hy_X6_begin rfl (z_le1 hR (by decide)) (z_le2 hR (by decide) (by decide)) (Nat.le_of_ble_eq_true rfl) dX9_order_57 (z_iinc X (v := q.1 + 1) 2 [(2, .int (q.1 + 1)), (0, .ref (z_ad g 80)), (1, .int x1)] dX9_order_60 rfl rfl (by decide) rfl (z_goto X 45 dX9_order_63 (by decide) (z_sub [1, 2, 0] [(0, .ref (z_ad g 80)), (1, .int x1), (2, .int (q.1 + 1))] rfl ?_))))))))
    exact hkb (q.1 + 1, r10) h
set_option maxRecDepth 20000 in
set_option maxHeartbeats 4000000 in
theorem w_X9_order (l : Launch) (g : z_G)  (u : z_M) {res : Int32 × z_M} (h : f_X9_order u = some res) : z_C l g z_shC yX9_order wsX9_order 13 [.ref (z_ad g 80)] u (fun v u' => v = some (.int res.1) ∧ u' = res.2) := by
  refine z_C.mk (lv := [(0, .ref (z_ad g 80))]) (cc := cX9_order) (nL := 3) (rt := (some .int)) rfl (by decide) (Nat.le_of_ble_eq_true rfl) rfl (fun p e R s m args below meth c hR X => ?_)
  unfold f_X9_order at h
  obtain ⟨r1, u2, er1, h⟩ := z_b2s h
  obtain ⟨r3, u4, er3, h⟩ := z_b2s h
  refine z_aload_n X 0 dX9_order_0 rfl rfl (z_getR X (k0 := 0) z_c80 rfl in_X9_order_X9 (by decide) rfl rfl lk_X9_order_14 dX9_order_1 (z_callVi X (r := r1) (u1 := u2) [] [] (w_X7_readLines l g u er1) z_c81 rfl gX9_order_X7_readLines hy_X7_readLines rfl (z_le1 hR (by decide)) (z_le2 hR (by decide) (by decide)) (Nat.le_of_ble_eq_true rfl) dX9_order_4 (z_istore_n X [(1, .int r1), (0, .ref (z_ad g 80))] dX9_order_7 rfl (by decide) rfl (z_aload_n X 1 dX9_order_8 rfl rfl (z_getR X (k0 := 0) z_c80 rfl in_X9_order_X9 (by decide) rfl rfl lk_X9_order_14 dX9_order_9 (z_iconst X (v := 0) dX9_order_12 (by decide) (z_callVi X (r := r3) (u1 := u4) [.int 0] [] (w_X7_cut l g 0 u2 er3) z_c81 rfl gX9_order_X7_cut hy_X7_cut rfl (z_le1 hR (by decide)) (z_le2 hR (by decide) (by decide)) (Nat.le_of_ble_eq_true rfl) dX9_order_13 (z_pop X dX9_order_16 rfl (z_iload_n X 0 dX9_order_17 rfl rfl (z_iconst X (v := (-1)) dX9_order_18 (by decide) (z_icmp_eq X 66 dX9_order_19 (by decide) (fun c5 => ?_) (fun c5 => ?_))))))))))))
  · replace h := z_ip c5 h
    refine z_iload_n X 0 dX9_order_66 rfl rfl ?_
    cases h; exact z_iret X rfl dX9_order_67 ⟨rfl, rfl⟩
  · replace h := z_in c5 h
    obtain ⟨r6, er6, h⟩ := z_bs h
    obtain ⟨r7, er7, h⟩ := z_bs h
    refine z_aload_n X 1 dX9_order_22 rfl rfl (z_getR X (k0 := 1) z_c80 rfl in_X9_order_X9 (by decide) rfl rfl lk_X9_order_21 dX9_order_23 (z_aload_n X 1 dX9_order_26 rfl rfl (z_getR X (k0 := 0) z_c80 rfl in_X9_order_X9 (by decide) rfl rfl lk_X9_order_14 dX9_order_27 (z_getR X (k0 := 2) z_c81 rfl in_X9_order_X7 (by decide) rfl rfl lk_X9_order_83 dX9_order_30 (z_callVv X (u1 := r6) [.ref (z_ad g 4)] [] (w_X6_copy l g 0 4 z_po_0 z_po_4 u4 er6) (z_po z_po_0) rfl gX9_order_X6_copy hy_X6_copy rfl (z_le1 hR (by decide)) (z_le2 hR (by decide) (by decide)) (Nat.le_of_ble_eq_true rfl) dX9_order_33 (z_aload_n X 1 dX9_order_36 rfl rfl (z_getR X (k0 := 2) z_c80 rfl in_X9_order_X9 (by decide) rfl rfl lk_X9_order_28 dX9_order_37 (z_callVv X (u1 := r7) [] [] (w_X5_forget l g r6 er7) z_c83 rfl gX9_order_X5_forget hy_X5_forget rfl (z_le1 hR (by decide)) (z_le2 hR (by decide) (by decide)) (Nat.le_of_ble_eq_true rfl) dX9_order_40 (z_iconst X (v := 0) dX9_order_43 (by decide) (z_istore_n X [(2, .int 0), (1, .int r1), (0, .ref (z_ad g 80))] dX9_order_44 rfl (by decide) rfl (z_sub [2, 1, 0] [(0, .ref (z_ad g 80)), (1, .int r1), (2, .int 0)] rfl ?_)))))))))))
    have hw := z_lp_w (fun q9 kb9 kx9 h1 h2 h3 => wb_X9_order_45 (l := l) (e := e) (below := below) (u := r7) hR X r1 q9 kb9 kx9 h1 h2 h3) z_F _ _ h
    refine hw (fun t11 h => ?_)
    refine z_iload_n X 0 dX9_order_66 rfl rfl ?_
    cases h; exact z_iret X rfl dX9_order_67 ⟨rfl, rfl⟩

theorem lk_X9_fault_14 : (Cond.fieldLink RX9 14 RX9 (TX9 0).2.1 (TX9 0).2.2.1) ∈ wsX9_fault := by decide +kernel
theorem in_X9_fault_X9 : ∀ w ∈ u_ws RX9 TX9 9, w ∈ wsX9_fault := fun _ h => List.mem_cons_of_mem _ (List.mem_append_left _ (List.mem_append_right _ h))
theorem lk_X9_fault_97 : (Cond.fieldLink RX9 97 RX7 (TX7 3).2.1 (TX7 3).2.2.1) ∈ wsX9_fault := by decide +kernel
theorem in_X9_fault_X7 : ∀ w ∈ u_ws RX7 TX7 11, w ∈ wsX9_fault := fun _ h => List.mem_cons_of_mem _ (List.mem_append_right _ h)
theorem lk_X9_fault_101 : (Cond.fieldLink RX9 101 RX7 (TX7 4).2.1 (TX7 4).2.2.1) ∈ wsX9_fault := by decide +kernel
def f_X9_fault (a1 : Int32) (u : z_M) : Option (Int32) :=
  if a1 = 0 then (some (z_gI u 81 3)) else (if a1 = 1 then (some (z_gI u 81 4)) else (some (-1)))
set_option maxRecDepth 20000 in
set_option maxHeartbeats 4000000 in
theorem w_X9_fault (l : Launch) (g : z_G) (a1 : Int32) (u : z_M) {res : Int32} (h : f_X9_fault a1 u = some res) : z_C l g z_shC yX9_fault wsX9_fault 1 [.ref (z_ad g 80), .int a1] u (fun v u' => v = some (.int res) ∧ u' = u) := by
  refine z_C.mk (lv := [(0, .ref (z_ad g 80)), (1, .int a1)]) (cc := cX9_fault) (nL := 2) (rt := (some .int)) rfl (by decide) (Nat.le_of_ble_eq_true rfl) rfl (fun p e R s m args below meth c hR X => ?_)
  unfold f_X9_fault at h
  refine z_iload_n X 1 dX9_fault_0 rfl rfl ?_
  by_cases c1 : a1 = 0
  · replace h := z_ip c1 h
    refine z_lookup X (off := 27) 28 dX9_fault_1 (by decide) (by rw [c1] <;> rfl) (by decide) ?_
    refine z_aload_n X 0 dX9_fault_28 rfl rfl (z_getR X (k0 := 0) z_c80 rfl in_X9_fault_X9 (by decide) rfl rfl lk_X9_fault_14 dX9_fault_29 (z_getI X (k0 := 3) z_c81 rfl in_X9_fault_X7 (by decide) rfl rfl lk_X9_fault_97 dX9_fault_32 ?_))
    cases h; exact z_iret X rfl dX9_fault_35 ⟨rfl, rfl⟩
  replace h := z_in c1 h
  by_cases c2 : a1 = 1
  · replace h := z_ip c2 h
    refine z_lookup X (off := 35) 36 dX9_fault_1 (by decide) (by rw [c2] <;> rfl) (by decide) ?_
    refine z_aload_n X 0 dX9_fault_36 rfl rfl (z_getR X (k0 := 0) z_c80 rfl in_X9_fault_X9 (by decide) rfl rfl lk_X9_fault_14 dX9_fault_37 (z_getI X (k0 := 4) z_c81 rfl in_X9_fault_X7 (by decide) rfl rfl lk_X9_fault_101 dX9_fault_40 ?_))
    cases h; exact z_iret X rfl dX9_fault_43 ⟨rfl, rfl⟩
  replace h := z_in c2 h
  refine z_lookup X (off := 43) 44 dX9_fault_1 (by decide) (by simp only [lv_osw c1 (show (0 : Int32).toInt = 0 by decide), lv_osw c2 (show (1 : Int32).toInt = 1 by decide)] <;> rfl) (by decide) ?_
  refine z_iconst X (v := (-1)) dX9_fault_44 (by decide) ?_
  cases h; exact z_iret X rfl dX9_fault_45 ⟨rfl, rfl⟩

theorem lk_X9_relate_21 : (Cond.fieldLink RX9 21 RX9 (TX9 1).2.1 (TX9 1).2.2.1) ∈ wsX9_relate := by decide +kernel
theorem in_X9_relate_X9 : ∀ w ∈ u_ws RX9 TX9 9, w ∈ wsX9_relate := fun _ h => List.mem_cons_of_mem _ (List.mem_append_left _ (List.mem_append_left _ (List.mem_append_right _ h)))
theorem lk_X9_relate_28 : (Cond.fieldLink RX9 28 RX9 (TX9 2).2.1 (TX9 2).2.2.1) ∈ wsX9_relate := by decide +kernel
theorem hy_X5_push : yX5_push.cls = RX5 ∧ yX5_push.cls ≠ "java/lang/invoke/MethodHandle" ∧ yX5_push.cls ≠ "java/lang/invoke/VarHandle" ∧ (parseMethodDescriptor yX5_push.desc).map (fun d => d.parameters.length) = some 1 := by decide +kernel
theorem hy_X6_pairs : yX6_pairs.cls = RX6 ∧ yX6_pairs.cls ≠ "java/lang/invoke/MethodHandle" ∧ yX6_pairs.cls ≠ "java/lang/invoke/VarHandle" ∧ (parseMethodDescriptor yX6_pairs.desc).map (fun d => d.parameters.length) = some 0 := by decide +kernel
def f_X9_relate (a1 : Int32) (a2 : Int32) (u : z_M) : Option (Int32 × z_M) :=
  Option.bind (f_X6_has 0 a1 u) (fun r1 => if r1 = 0 then (some ((-1), u)) else (Option.bind (f_X6_has 0 a2 u) (fun r3 => if r3 = 0 then (some ((-1), u)) else (if a1 = a2 then (some ((-2), u)) else (Option.bind (f_X6_isUnder 0 a2 a1 u) (fun r6 => if r6 = 0 then (Option.bind (f_X5_push 0 u) (fun r8 => Option.bind (f_X6_put 0 a1 a2 r8) (fun r9 => Option.bind (f_X6_pairs 0 r9) (fun r10 => some (r10, r9))))) else (some ((-2), u))))))))
set_option maxRecDepth 20000 in
set_option maxHeartbeats 4000000 in
theorem w_X9_relate (l : Launch) (g : z_G) (a1 : Int32) (a2 : Int32) (u : z_M) {res : Int32 × z_M} (h : f_X9_relate a1 a2 u = some res) : z_C l g z_shC yX9_relate wsX9_relate 4 [.ref (z_ad g 80), .int a1, .int a2] u (fun v u' => v = some (.int res.1) ∧ u' = res.2) := by
  refine z_C.mk (lv := [(0, .ref (z_ad g 80)), (1, .int a1), (2, .int a2)]) (cc := cX9_relate) (nL := 3) (rt := (some .int)) rfl (by decide) (Nat.le_of_ble_eq_true rfl) rfl (fun p e R s m args below meth c hR X => ?_)
  unfold f_X9_relate at h
  obtain ⟨r1, er1, h⟩ := z_bs h
  refine z_aload_n X 0 dX9_relate_0 rfl rfl (z_getR X (k0 := 1) z_c80 rfl in_X9_relate_X9 (by decide) rfl rfl lk_X9_relate_21 dX9_relate_1 (z_iload_n X 1 dX9_relate_4 rfl rfl (z_callVi X (r := r1) (u1 := u) [.int a1] [] (w_X6_has l g 0 a1 z_po_0 u er1) (z_po z_po_0) rfl gX9_relate_X6_has hy_X6_has rfl (z_le1 hR (by decide)) (z_le2 hR (by decide) (by decide)) (Nat.le_of_ble_eq_true rfl) dX9_relate_5 (z_if_eq X 22 dX9_relate_8 (by decide) (fun c2 => ?_) (fun c2 => ?_)))))
  · replace h := z_ip c2 h
    refine z_iconst X (v := (-1)) dX9_relate_22 (by decide) ?_
    cases h; exact z_iret X rfl dX9_relate_23 ⟨rfl, rfl⟩
  · replace h := z_in c2 h
    obtain ⟨r3, er3, h⟩ := z_bs h
    refine z_aload_n X 0 dX9_relate_11 rfl rfl (z_getR X (k0 := 1) z_c80 rfl in_X9_relate_X9 (by decide) rfl rfl lk_X9_relate_21 dX9_relate_12 (z_iload_n X 2 dX9_relate_15 rfl rfl (z_callVi X (r := r3) (u1 := u) [.int a2] [] (w_X6_has l g 0 a2 z_po_0 u er3) (z_po z_po_0) rfl gX9_relate_X6_has hy_X6_has rfl (z_le1 hR (by decide)) (z_le2 hR (by decide) (by decide)) (Nat.le_of_ble_eq_true rfl) dX9_relate_16 (z_if_ne X 24 dX9_relate_19 (by decide) (fun c4 => ?_) (fun c4 => ?_)))))
    · replace h := z_in c4 h
      refine z_iload_n X 1 dX9_relate_24 rfl rfl (z_iload_n X 2 dX9_relate_25 rfl rfl (z_icmp_eq X 41 dX9_relate_26 (by decide) (fun c5 => ?_) (fun c5 => ?_)))
      · replace h := z_ip c5 h
        refine z_bipush X (v := (-2)) dX9_relate_41 (by decide) ?_
        cases h; exact z_iret X rfl dX9_relate_43 ⟨rfl, rfl⟩
      · replace h := z_in c5 h
        obtain ⟨r6, er6, h⟩ := z_bs h
        refine z_aload_n X 0 dX9_relate_29 rfl rfl (z_getR X (k0 := 1) z_c80 rfl in_X9_relate_X9 (by decide) rfl rfl lk_X9_relate_21 dX9_relate_30 (z_iload_n X 2 dX9_relate_33 rfl rfl (z_iload_n X 1 dX9_relate_34 rfl rfl (z_callVi X (r := r6) (u1 := u) [.int a2, .int a1] [] (w_X6_isUnder l g 0 a2 a1 z_po_0 u er6) (z_po z_po_0) rfl gX9_relate_X6_isUnder hy_X6_isUnder rfl (z_le1 hR (by decide)) (z_le2 hR (by decide) (by decide)) (Nat.le_of_ble_eq_true rfl) dX9_relate_35 (z_if_eq X 44 dX9_relate_38 (by decide) (fun c7 => ?_) (fun c7 => ?_))))))
        · replace h := z_ip c7 h
          obtain ⟨r8, er8, h⟩ := z_bs h
          obtain ⟨r9, er9, h⟩ := z_bs h
          obtain ⟨r10, er10, h⟩ := z_bs h
          refine z_aload_n X 0 dX9_relate_44 rfl rfl (z_getR X (k0 := 2) z_c80 rfl in_X9_relate_X9 (by decide) rfl rfl lk_X9_relate_28 dX9_relate_45 (z_aload_n X 0 dX9_relate_48 rfl rfl (z_getR X (k0 := 1) z_c80 rfl in_X9_relate_X9 (by decide) rfl rfl lk_X9_relate_21 dX9_relate_49 (z_callVv X (u1 := r8) [.ref (z_ad g 0)] [] (w_X5_push l g 0 z_po_0 u er8) z_c83 rfl gX9_relate_X5_push hy_X5_push rfl (z_le1 hR (by decide)) (z_le2 hR (by decide) (by decide)) (Nat.le_of_ble_eq_true rfl) dX9_relate_52 (z_aload_n X 0 dX9_relate_55 rfl rfl (z_getR X (k0 := 1) z_c80 rfl in_X9_relate_X9 (by decide) rfl rfl lk_X9_relate_21 dX9_relate_56 (z_iload_n X 1 dX9_relate_59 rfl rfl (z_iload_n X 2 dX9_relate_60 rfl rfl (z_callVv X (u1 := r9) [.int a1, .int a2] [] (w_X6_put l g 0 a1 a2 z_po_0 r8 er9) (z_po z_po_0) rfl gX9_relate_X6_put hy_X6_put rfl (z_le1 hR (by decide)) (z_le2 hR (by decide) (by decide)) (Nat.le_of_ble_eq_true rfl) dX9_relate_61 (z_aload_n X 0 dX9_relate_64 rfl rfl (z_getR X (k0 := 1) z_c80 rfl in_X9_relate_X9 (by decide) rfl rfl lk_X9_relate_21 dX9_relate_65 (z_callVi X (r := r10) (u1 := r9) [] [] (w_X6_pairs l g 0 z_po_0 r9 er10) (z_po z_po_0) rfl gX9_relate_X6_pairs hy_X6_pairs rfl (z_le1 hR (by decide)) (z_le2 hR (by decide) (by decide)) (Nat.le_of_ble_eq_true rfl) dX9_relate_68 ?_))))))))))))
          cases h; exact z_iret X rfl dX9_relate_71 ⟨rfl, rfl⟩
        · replace h := z_in c7 h
          refine z_bipush X (v := (-2)) dX9_relate_41 (by decide) ?_
          cases h; exact z_iret X rfl dX9_relate_43 ⟨rfl, rfl⟩
    · replace h := z_ip c4 h
      refine z_iconst X (v := (-1)) dX9_relate_22 (by decide) ?_
      cases h; exact z_iret X rfl dX9_relate_23 ⟨rfl, rfl⟩

theorem lk_X9_lift_21 : (Cond.fieldLink RX9 21 RX9 (TX9 1).2.1 (TX9 1).2.2.1) ∈ wsX9_lift := by decide +kernel
theorem in_X9_lift_X9 : ∀ w ∈ u_ws RX9 TX9 9, w ∈ wsX9_lift := fun _ h => List.mem_cons_of_mem _ (List.mem_append_left _ (List.mem_append_left _ (List.mem_append_right _ h)))
theorem lk_X9_lift_28 : (Cond.fieldLink RX9 28 RX9 (TX9 2).2.1 (TX9 2).2.2.1) ∈ wsX9_lift := by decide +kernel
def f_X9_lift (a1 : Int32) (a2 : Int32) (a3 : Int32) (u : z_M) : Option (Int32 × z_M) :=
  Option.bind (f_X6_has 0 a1 u) (fun r1 => if r1 = 0 then (some ((-1), u)) else (Option.bind (f_X6_has 0 a2 u) (fun r3 => if r3 = 0 then (some ((-1), u)) else (if a1 = a2 then (some ((-1), u)) else (if a3 < 0 then (some ((-1), u)) else (if a3 ≤ 99 then (Option.bind (f_X5_push 0 u) (fun r8 => Option.bind (f_X6_tagOf 0 a1 a2 r8) (fun r9 => Option.bind (f_X6_setTag 0 a1 a2 a3 r8) (fun r10 => some (r9, r10))))) else (some ((-1), u))))))))
set_option maxRecDepth 20000 in
set_option maxHeartbeats 4000000 in
theorem w_X9_lift (l : Launch) (g : z_G) (a1 : Int32) (a2 : Int32) (a3 : Int32) (u : z_M) {res : Int32 × z_M} (h : f_X9_lift a1 a2 a3 u = some res) : z_C l g z_shC yX9_lift wsX9_lift 4 [.ref (z_ad g 80), .int a1, .int a2, .int a3] u (fun v u' => v = some (.int res.1) ∧ u' = res.2) := by
  refine z_C.mk (lv := [(0, .ref (z_ad g 80)), (1, .int a1), (2, .int a2), (3, .int a3)]) (cc := cX9_lift) (nL := 5) (rt := (some .int)) rfl (by decide) (Nat.le_of_ble_eq_true rfl) rfl (fun p e R s m args below meth c hR X => ?_)
  unfold f_X9_lift at h
  obtain ⟨r1, er1, h⟩ := z_bs h
  refine z_aload_n X 0 dX9_lift_0 rfl rfl (z_getR X (k0 := 1) z_c80 rfl in_X9_lift_X9 (by decide) rfl rfl lk_X9_lift_21 dX9_lift_1 (z_iload_n X 1 dX9_lift_4 rfl rfl (z_callVi X (r := r1) (u1 := u) [.int a1] [] (w_X6_has l g 0 a1 z_po_0 u er1) (z_po z_po_0) rfl gX9_lift_X6_has hy_X6_has rfl (z_le1 hR (by decide)) (z_le2 hR (by decide) (by decide)) (Nat.le_of_ble_eq_true rfl) dX9_lift_5 (z_if_eq X 37 dX9_lift_8 (by decide) (fun c2 => ?_) (fun c2 => ?_)))))
  · replace h := z_ip c2 h
    refine z_iconst X (v := (-1)) dX9_lift_37 (by decide) ?_
    cases h; exact z_iret X rfl dX9_lift_38 ⟨rfl, rfl⟩
  · replace h := z_in c2 h
    obtain ⟨r3, er3, h⟩ := z_bs h
    refine z_aload_n X 0 dX9_lift_11 rfl rfl (z_getR X (k0 := 1) z_c80 rfl in_X9_lift_X9 (by decide) rfl rfl lk_X9_lift_21 dX9_lift_12 (z_iload_n X 2 dX9_lift_15 rfl rfl (z_callVi X (r := r3) (u1 := u) [.int a2] [] (w_X6_has l g 0 a2 z_po_0 u er3) (z_po z_po_0) rfl gX9_lift_X6_has hy_X6_has rfl (z_le1 hR (by decide)) (z_le2 hR (by decide) (by decide)) (Nat.le_of_ble_eq_true rfl) dX9_lift_16 (z_if_eq X 37 dX9_lift_19 (by decide) (fun c4 => ?_) (fun c4 => ?_)))))
    · replace h := z_ip c4 h
      refine z_iconst X (v := (-1)) dX9_lift_37 (by decide) ?_
      cases h; exact z_iret X rfl dX9_lift_38 ⟨rfl, rfl⟩
    · replace h := z_in c4 h
      refine z_iload_n X 1 dX9_lift_22 rfl rfl (z_iload_n X 2 dX9_lift_23 rfl rfl (z_icmp_eq X 37 dX9_lift_24 (by decide) (fun c5 => ?_) (fun c5 => ?_)))
      · replace h := z_ip c5 h
        refine z_iconst X (v := (-1)) dX9_lift_37 (by decide) ?_
        cases h; exact z_iret X rfl dX9_lift_38 ⟨rfl, rfl⟩
      · replace h := z_in c5 h
        refine z_iload_n X 3 dX9_lift_27 rfl rfl (z_if_lt X 37 dX9_lift_28 (by decide) (fun c6 => ?_) (fun c6 => ?_))
        · replace h := z_ip c6 h
          refine z_iconst X (v := (-1)) dX9_lift_37 (by decide) ?_
          cases h; exact z_iret X rfl dX9_lift_38 ⟨rfl, rfl⟩
        · replace h := z_in c6 h
          refine z_iload_n X 3 dX9_lift_31 rfl rfl (z_bipush X (v := 99) dX9_lift_32 (by decide) (z_icmp_le X 39 dX9_lift_34 (by decide) (fun c7 => ?_) (fun c7 => ?_)))
          · replace h := z_ip c7 h
            obtain ⟨r8, er8, h⟩ := z_bs h
            obtain ⟨r9, er9, h⟩ := z_bs h
            obtain ⟨r10, er10, h⟩ := z_bs h
            refine z_aload_n X 0 dX9_lift_39 rfl rfl (z_getR X (k0 := 2) z_c80 rfl in_X9_lift_X9 (by decide) rfl rfl lk_X9_lift_28 dX9_lift_40 (z_aload_n X 0 dX9_lift_43 rfl rfl (z_getR X (k0 := 1) z_c80 rfl in_X9_lift_X9 (by decide) rfl rfl lk_X9_lift_21 dX9_lift_44 (z_callVv X (u1 := r8) [.ref (z_ad g 0)] [] (w_X5_push l g 0 z_po_0 u er8) z_c83 rfl gX9_lift_X5_push hy_X5_push rfl (z_le1 hR (by decide)) (z_le2 hR (by decide) (by decide)) (Nat.le_of_ble_eq_true rfl) dX9_lift_47 (z_aload_n X 0 dX9_lift_50 rfl rfl (z_getR X (k0 := 1) z_c80 rfl in_X9_lift_X9 (by decide) rfl rfl lk_X9_lift_21 dX9_lift_51 (z_iload_n X 1 dX9_lift_54 rfl rfl (z_iload_n X 2 dX9_lift_55 rfl rfl (z_callVi X (r := r9) (u1 := r8) [.int a1, .int a2] [] (w_X6_tagOf l g 0 a1 a2 z_po_0 r8 er9) (z_po z_po_0) rfl gX9_lift_X6_tagOf hy_X6_tagOf rfl (z_le1 hR (by decide)) (z_le2 hR (by decide) (by decide)) (Nat.le_of_ble_eq_true rfl) dX9_lift_56 (z_istore X [(4, .int r9), (0, .ref (z_ad g 80)), (1, .int a1), (2, .int a2), (3, .int a3)] dX9_lift_59 (by decide) rfl (z_aload_n X 1 dX9_lift_61 rfl rfl (z_getR X (k0 := 1) z_c80 rfl in_X9_lift_X9 (by decide) rfl rfl lk_X9_lift_21 dX9_lift_62 (z_iload_n X 2 dX9_lift_65 rfl rfl (z_iload_n X 3 dX9_lift_66 rfl rfl (z_iload_n X 4 dX9_lift_67 rfl rfl (z_callVv X (u1 := r10) [.int a1, .int a2, .int a3] [] (w_X6_setTag l g 0 a1 a2 a3 z_po_0 r8 er10) (z_po z_po_0) rfl gX9_lift_X6_setTag hy_X6_setTag rfl (z_le1 hR (by decide)) (z_le2 hR (by decide) (by decide)) (Nat.le_of_ble_eq_true rfl) dX9_lift_68 (z_iload X 0 dX9_lift_71 rfl ?_)))))))))))))))))
            cases h; exact z_iret X rfl dX9_lift_73 ⟨rfl, rfl⟩
          · replace h := z_in c7 h
            refine z_iconst X (v := (-1)) dX9_lift_37 (by decide) ?_
            cases h; exact z_iret X rfl dX9_lift_38 ⟨rfl, rfl⟩

theorem lk_X9_isOrder_21 : (Cond.fieldLink RX9 21 RX9 (TX9 1).2.1 (TX9 1).2.2.1) ∈ wsX9_isOrder := by decide +kernel
theorem in_X9_isOrder_X9 : ∀ w ∈ u_ws RX9 TX9 9, w ∈ wsX9_isOrder := fun _ h => List.mem_cons_of_mem _ (List.mem_append_left _ (List.mem_append_right _ h))
theorem lk_X9_isOrder_341 : (Cond.fieldLink RX9 341 RX6 (TX6 0).2.1 (TX6 0).2.2.1) ∈ wsX9_isOrder := by decide +kernel
theorem in_X9_isOrder_X6 : ∀ w ∈ u_ws RX6 TX6 6, w ∈ wsX9_isOrder := fun _ h => List.mem_cons_of_mem _ (List.mem_append_right _ h)
def f_X9_isOrder (u : z_M) : Option (Int32) :=
  if (z_gI u 0 0) ≤ 0 then (some 0) else (some 1)
set_option maxRecDepth 20000 in
set_option maxHeartbeats 4000000 in
theorem w_X9_isOrder (l : Launch) (g : z_G)  (u : z_M) {res : Int32} (h : f_X9_isOrder u = some res) : z_C l g z_shC yX9_isOrder wsX9_isOrder 1 [.ref (z_ad g 80)] u (fun v u' => v = some (.int res) ∧ u' = u) := by
  refine z_C.mk (lv := [(0, .ref (z_ad g 80))]) (cc := cX9_isOrder) (nL := 1) (rt := (some .boolean)) rfl (by decide) (Nat.le_of_ble_eq_true rfl) rfl (fun p e R s m args below meth c hR X => ?_)
  unfold f_X9_isOrder at h
  refine z_aload_n X 0 dX9_isOrder_0 rfl rfl (z_getR X (k0 := 1) z_c80 rfl in_X9_isOrder_X9 (by decide) rfl rfl lk_X9_isOrder_21 dX9_isOrder_1 (z_getI X (k0 := 0) (z_po z_po_0) rfl in_X9_isOrder_X6 (by decide) rfl rfl lk_X9_isOrder_341 dX9_isOrder_4 (z_if_le X 14 dX9_isOrder_7 (by decide) (fun c1 => ?_) (fun c1 => ?_))))
  · replace h := z_ip c1 h
    refine z_iconst X (v := 0) dX9_isOrder_14 (by decide) ?_
    cases h; exact z_zret X rfl rfl dX9_isOrder_15 ⟨rfl, rfl⟩
  · replace h := z_in c1 h
    refine z_iconst X (v := 1) dX9_isOrder_10 (by decide) (z_goto X 15 dX9_isOrder_11 (by decide) ?_)
    cases h; exact z_zret X rfl rfl dX9_isOrder_15 ⟨rfl, rfl⟩

theorem lk_X9_rule_28 : (Cond.fieldLink RX9 28 RX9 (TX9 2).2.1 (TX9 2).2.2.1) ∈ wsX9_rule := by decide +kernel
theorem in_X9_rule_X9 : ∀ w ∈ u_ws RX9 TX9 9, w ∈ wsX9_rule := fun _ h => List.mem_cons_of_mem _ (List.mem_append_left _ (List.mem_append_left _ (List.mem_append_right _ h)))
theorem lk_X9_rule_21 : (Cond.fieldLink RX9 21 RX9 (TX9 1).2.1 (TX9 1).2.2.1) ∈ wsX9_rule := by decide +kernel
theorem lk_X9_rule_133 : (Cond.fieldLink RX9 133 RX6 (TX6 2).2.1 (TX6 2).2.2.1) ∈ wsX9_rule := by decide +kernel
theorem in_X9_rule_X6 : ∀ w ∈ u_ws RX6 TX6 6, w ∈ wsX9_rule := fun _ h => List.mem_cons_of_mem _ (List.mem_append_left _ (List.mem_append_right _ h))
theorem hy_X9_isOrder : yX9_isOrder.cls = RX9 ∧ yX9_isOrder.cls ≠ "java/lang/invoke/MethodHandle" ∧ yX9_isOrder.cls ≠ "java/lang/invoke/VarHandle" ∧ (parseMethodDescriptor yX9_isOrder.desc).map (fun d => d.parameters.length) = some 0 := by decide +kernel
def f_X9_rule (a1 : Int32) (u : z_M) : Option (Int32 × z_M) :=
  Option.bind (f_X9_isOrder u) (fun r1 => if r1 = 0 then (some ((-1), u)) else (if a1 < 0 then (some ((-1), u)) else (if a1 ≤ 3 then (Option.bind (f_X5_push 0 u) (fun r5 => z_lt (z_gI r5 0 2) (fun v6 => z_lt (z_sI r5 0 2 a1) (fun u7 => some (v6, u7))))) else (some ((-1), u)))))
set_option maxRecDepth 20000 in
set_option maxHeartbeats 4000000 in
theorem w_X9_rule (l : Launch) (g : z_G) (a1 : Int32) (u : z_M) {res : Int32 × z_M} (h : f_X9_rule a1 u = some res) : z_C l g z_shC yX9_rule wsX9_rule 4 [.ref (z_ad g 80), .int a1] u (fun v u' => v = some (.int res.1) ∧ u' = res.2) := by
  refine z_C.mk (lv := [(0, .ref (z_ad g 80)), (1, .int a1)]) (cc := cX9_rule) (nL := 3) (rt := (some .int)) rfl (by decide) (Nat.le_of_ble_eq_true rfl) rfl (fun p e R s m args below meth c hR X => ?_)
  unfold f_X9_rule at h
  obtain ⟨r1, er1, h⟩ := z_bs h
  refine z_aload_n X 0 dX9_rule_0 rfl rfl (z_callVi X (r := r1) (u1 := u) [] [] (w_X9_isOrder l g u er1) z_c80 rfl gX9_rule_X9_isOrder hy_X9_isOrder rfl (z_le1 hR (by decide)) (z_le2 hR (by decide) (by decide)) (Nat.le_of_ble_eq_true rfl) dX9_rule_1 (z_if_eq X 16 dX9_rule_4 (by decide) (fun c2 => ?_) (fun c2 => ?_)))
  · replace h := z_ip c2 h
    refine z_iconst X (v := (-1)) dX9_rule_16 (by decide) ?_
    cases h; exact z_iret X rfl dX9_rule_17 ⟨rfl, rfl⟩
  · replace h := z_in c2 h
    refine z_iload_n X 1 dX9_rule_7 rfl rfl (z_if_lt X 16 dX9_rule_8 (by decide) (fun c3 => ?_) (fun c3 => ?_))
    · replace h := z_ip c3 h
      refine z_iconst X (v := (-1)) dX9_rule_16 (by decide) ?_
      cases h; exact z_iret X rfl dX9_rule_17 ⟨rfl, rfl⟩
    · replace h := z_in c3 h
      refine z_iload_n X 1 dX9_rule_11 rfl rfl (z_iconst X (v := 3) dX9_rule_12 (by decide) (z_icmp_le X 18 dX9_rule_13 (by decide) (fun c4 => ?_) (fun c4 => ?_)))
      · replace h := z_ip c4 h
        obtain ⟨r5, er5, h⟩ := z_bs h
        obtain ⟨v6, ev6, h⟩ := z_ls h
        obtain ⟨u7, eu7, h⟩ := z_ls h
        refine z_aload_n X 0 dX9_rule_18 rfl rfl (z_getR X (k0 := 2) z_c80 rfl in_X9_rule_X9 (by decide) rfl rfl lk_X9_rule_28 dX9_rule_19 (z_aload_n X 0 dX9_rule_22 rfl rfl (z_getR X (k0 := 1) z_c80 rfl in_X9_rule_X9 (by decide) rfl rfl lk_X9_rule_21 dX9_rule_23 (z_callVv X (u1 := r5) [.ref (z_ad g 0)] [] (w_X5_push l g 0 z_po_0 u er5) z_c83 rfl gX9_rule_X5_push hy_X5_push rfl (z_le1 hR (by decide)) (z_le2 hR (by decide) (by decide)) (Nat.le_of_ble_eq_true rfl) dX9_rule_26 (z_aload_n X 0 dX9_rule_29 rfl rfl (z_getR X (k0 := 1) z_c80 rfl in_X9_rule_X9 (by decide) rfl rfl lk_X9_rule_21 dX9_rule_30 (z_getI X (k0 := 2) (z_po z_po_0) rfl in_X9_rule_X6 (by decide) rfl rfl lk_X9_rule_133 dX9_rule_33 (z_ti ev6 (z_istore_n X [(2, .int v6), (0, .ref (z_ad g 80)), (1, .int a1)] dX9_rule_36 rfl (by decide) rfl (z_aload_n X 1 dX9_rule_37 rfl rfl (z_getR X (k0 := 1) z_c80 rfl in_X9_rule_X9 (by decide) rfl rfl lk_X9_rule_21 dX9_rule_38 (z_iload_n X 2 dX9_rule_41 rfl rfl (z_putI X (k0 := 2) (ty0 := tyX6) (z_po z_po_0) rfl in_X9_rule_X6 tyX6_ok nmX6 (by decide) rfl rfl rfl rfl rfl lk_X9_rule_133 dX9_rule_42 (z_nm eu7 (z_iload_n X 0 dX9_rule_45 rfl rfl ?_)))))))))))))))
        cases h; exact z_iret X rfl dX9_rule_46 ⟨rfl, rfl⟩
      · replace h := z_in c4 h
        refine z_iconst X (v := (-1)) dX9_rule_16 (by decide) ?_
        cases h; exact z_iret X rfl dX9_rule_17 ⟨rfl, rfl⟩

theorem lk_X9_drop_21 : (Cond.fieldLink RX9 21 RX9 (TX9 1).2.1 (TX9 1).2.2.1) ∈ wsX9_drop := by decide +kernel
theorem in_X9_drop_X9 : ∀ w ∈ u_ws RX9 TX9 9, w ∈ wsX9_drop := fun _ h => List.mem_cons_of_mem _ (List.mem_append_left _ (List.mem_append_left _ (List.mem_append_right _ h)))
theorem lk_X9_drop_136 : (Cond.fieldLink RX9 136 RX6 (TX6 1).2.1 (TX6 1).2.2.1) ∈ wsX9_drop := by decide +kernel
theorem in_X9_drop_X6 : ∀ w ∈ u_ws RX6 TX6 6, w ∈ wsX9_drop := fun _ h => List.mem_cons_of_mem _ (List.mem_append_left _ (List.mem_append_right _ h))
theorem lk_X9_drop_28 : (Cond.fieldLink RX9 28 RX9 (TX9 2).2.1 (TX9 2).2.2.1) ∈ wsX9_drop := by decide +kernel
theorem hy_X6_takeAway : yX6_takeAway.cls = RX6 ∧ yX6_takeAway.cls ≠ "java/lang/invoke/MethodHandle" ∧ yX6_takeAway.cls ≠ "java/lang/invoke/VarHandle" ∧ (parseMethodDescriptor yX6_takeAway.desc).map (fun d => d.parameters.length) = some 1 := by decide +kernel
def f_X9_drop (a1 : Int32) (u : z_M) : Option (Int32 × z_M) :=
  Option.bind (f_X6_has 0 a1 u) (fun r1 => if r1 = 0 then (some ((-1), u)) else (z_lt ((z_bitc (z_gI u 0 1)) - 1) (fun v3 => if v3 = 0 then (some ((-2), u)) else (Option.bind (f_X5_push 0 u) (fun r5 => Option.bind (f_X6_takeAway 0 a1 r5) (fun r6 => some (v3, r6)))))))
set_option maxRecDepth 20000 in
set_option maxHeartbeats 4000000 in
theorem w_X9_drop (l : Launch) (g : z_G) (a1 : Int32) (u : z_M) {res : Int32 × z_M} (h : f_X9_drop a1 u = some res) : z_C l g z_shC yX9_drop wsX9_drop 4 [.ref (z_ad g 80), .int a1] u (fun v u' => v = some (.int res.1) ∧ u' = res.2) := by
  refine z_C.mk (lv := [(0, .ref (z_ad g 80)), (1, .int a1)]) (cc := cX9_drop) (nL := 3) (rt := (some .int)) rfl (by decide) (Nat.le_of_ble_eq_true rfl) rfl (fun p e R s m args below meth c hR X => ?_)
  unfold f_X9_drop at h
  obtain ⟨r1, er1, h⟩ := z_bs h
  refine z_aload_n X 0 dX9_drop_0 rfl rfl (z_getR X (k0 := 1) z_c80 rfl in_X9_drop_X9 (by decide) rfl rfl lk_X9_drop_21 dX9_drop_1 (z_iload_n X 1 dX9_drop_4 rfl rfl (z_callVi X (r := r1) (u1 := u) [.int a1] [] (w_X6_has l g 0 a1 z_po_0 u er1) (z_po z_po_0) rfl gX9_drop_X6_has hy_X6_has rfl (z_le1 hR (by decide)) (z_le2 hR (by decide) (by decide)) (Nat.le_of_ble_eq_true rfl) dX9_drop_5 (z_if_ne X 13 dX9_drop_8 (by decide) (fun c2 => ?_) (fun c2 => ?_)))))
  · replace h := z_in c2 h
    obtain ⟨v3, ev3, h⟩ := z_ls h
    refine z_aload_n X 0 dX9_drop_13 rfl rfl (z_getR X (k0 := 1) z_c80 rfl in_X9_drop_X9 (by decide) rfl rfl lk_X9_drop_21 dX9_drop_14 (z_getI X (k0 := 1) (z_po z_po_0) rfl in_X9_drop_X6 (by decide) rfl rfl lk_X9_drop_136 dX9_drop_17 (z_callSi X (r := z_bitc (z_gI u 0 1)) (u1 := u) [.int (z_gI u 0 1)] [] (w_bitc l g z_shC (z_gI u 0 1) u) gX9_drop_J6_bitCount_0f7a4 hy_J6_bitCount_0f7a4.2 rfl (z_le1 hR (by decide)) (z_le2 hR (by decide) (by decide)) (Nat.le_of_ble_eq_true rfl) dX9_drop_20 (z_iconst X (v := 1) dX9_drop_23 (by decide) (z_isub X dX9_drop_24 (z_ti ev3 (z_istore_n X [(2, .int v3), (0, .ref (z_ad g 80)), (1, .int a1)] dX9_drop_25 rfl (by decide) rfl (z_iload_n X 0 dX9_drop_26 rfl rfl (z_if_ne X 33 dX9_drop_27 (by decide) (fun c4 => ?_) (fun c4 => ?_))))))))))
    · replace h := z_in c4 h
      obtain ⟨r5, er5, h⟩ := z_bs h
      obtain ⟨r6, er6, h⟩ := z_bs h
      refine z_aload_n X 1 dX9_drop_33 rfl rfl (z_getR X (k0 := 2) z_c80 rfl in_X9_drop_X9 (by decide) rfl rfl lk_X9_drop_28 dX9_drop_34 (z_aload_n X 1 dX9_drop_37 rfl rfl (z_getR X (k0 := 1) z_c80 rfl in_X9_drop_X9 (by decide) rfl rfl lk_X9_drop_21 dX9_drop_38 (z_callVv X (u1 := r5) [.ref (z_ad g 0)] [] (w_X5_push l g 0 z_po_0 u er5) z_c83 rfl gX9_drop_X5_push hy_X5_push rfl (z_le1 hR (by decide)) (z_le2 hR (by decide) (by decide)) (Nat.le_of_ble_eq_true rfl) dX9_drop_41 (z_aload_n X 1 dX9_drop_44 rfl rfl (z_getR X (k0 := 1) z_c80 rfl in_X9_drop_X9 (by decide) rfl rfl lk_X9_drop_21 dX9_drop_45 (z_iload_n X 2 dX9_drop_48 rfl rfl (z_callVv X (u1 := r6) [.int a1] [] (w_X6_takeAway l g 0 a1 z_po_0 r5 er6) (z_po z_po_0) rfl gX9_drop_X6_takeAway hy_X6_takeAway rfl (z_le1 hR (by decide)) (z_le2 hR (by decide) (by decide)) (Nat.le_of_ble_eq_true rfl) dX9_drop_49 (z_iload_n X 0 dX9_drop_52 rfl rfl ?_)))))))))
      cases h; exact z_iret X rfl dX9_drop_53 ⟨rfl, rfl⟩
    · replace h := z_ip c4 h
      refine z_bipush X (v := (-2)) dX9_drop_30 (by decide) ?_
      cases h; exact z_iret X rfl dX9_drop_32 ⟨rfl, rfl⟩
  · replace h := z_ip c2 h
    refine z_iconst X (v := (-1)) dX9_drop_11 (by decide) ?_
    cases h; exact z_iret X rfl dX9_drop_12 ⟨rfl, rfl⟩
