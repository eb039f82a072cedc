theorem lk_X10_selves_82 : (Cond.fieldLink RX10 82 RX10 (TX10 0).2.1 (TX10 0).2.2.1) ∈ wsX10_selves := by decide +kernel
theorem in_X10_selves_X10 : ∀ w ∈ u_ws RX10 TX10 30, w ∈ wsX10_selves := fun _ h => List.mem_cons_of_mem _ (List.mem_append_right _ h)
theorem lk_X10_selves_76 : (Cond.fieldLink RX10 76 RX10 (TX10 28).2.1 (TX10 28).2.2.1) ∈ wsX10_selves := by decide +kernel
theorem lk_X10_selves_9 : (Cond.fieldLink RX10 9 RX10 (TX10 1).2.1 (TX10 1).2.2.1) ∈ wsX10_selves := by decide +kernel
theorem hy_X10_laidOn : yX10_laidOn.cls = RX10 ∧ yX10_laidOn.cls ≠ "java/lang/invoke/MethodHandle" ∧ yX10_laidOn.cls ≠ "java/lang/invoke/VarHandle" ∧ (parseMethodDescriptor yX10_laidOn.desc).map (fun d => d.parameters.length) = some 0 := by decide +kernel
def b_X10_selves_16  : (Int32 × z_M) → ((Int32 × z_M) → Option (Int32 × z_M)) → (z_M → Option (Int32 × z_M)) → Option (Int32 × z_M) := fun q kb kx =>
  if 9 ≤ q.1 then (kx q.2) else (Option.bind (f_X10_above q.1 q.2) (fun r5 => z_gd (z_inb q.1 10) (z_lt (z_sI q.2 20 q.1.toNatClampNeg r5) (fun u7 => kb (q.1 + 1, u7)))))
def f_X10_selves (u : z_M) : Option (Int32 × z_M) :=
  z_lt (z_sI u 0 0 0) (fun u1 => Option.bind (f_X10_isTold u1) (fun r2 => if r2 = 0 then (some ((-1), u1)) else (z_lp b_X10_selves_16 z_F (0, u1) (fun t8 => z_gd (z_inb 1 93) (z_gd (z_inb 9 10) (z_lt (z_sI t8 20 (9 : Int32).toNatClampNeg (z_gI t8 1 (1 : Int32).toNatClampNeg)) (fun u11 => z_b2 (f_X10_laidOn u11) (fun r12 u13 => some (r12, u13)))))))))
set_option maxRecDepth 20000 in
set_option maxHeartbeats 4000000 in
theorem wb_X10_selves_16 {p : Program} {l : Launch} {e : Env} {R : Room} {s : State} {m : MethodId} {args : Array Value} {below : List Frame} {meth : Method} {c : Code} {g : z_G} {u : z_M} {res : Int32 × z_M} (hR : R = z_rm 5) (X : z_X p R s m args meth c cX10_selves 2 RX10 wsX10_selves (some .int) g z_shR)  (q : Int32 × z_M) (kb : (Int32 × z_M) → Option (Int32 × z_M)) (kx : z_M → Option (Int32 × z_M)) (hkb : ∀ q, kb q = some res → z_V p l e R s m args below meth c 2 g z_shR (MQ below (z_Qc g z_shR (fun v u' => v = some (.int res.1) ∧ u' = res.2)) args s 0 0 (z_A g z_shR)) 16 [(0, .ref (z_ad g 0)), (1, .int q.1)] [] q.2) (hkx : ∀ t, kx t = some res → z_V p l e R s m args below meth c 2 g z_shR (MQ below (z_Qc g z_shR (fun v u' => v = some (.int res.1) ∧ u' = res.2)) args s 0 0 (z_A g z_shR)) 39 [(0, .ref (z_ad g 0))] [] t) (h : b_X10_selves_16 q kb kx = some res) : z_V p l e R s m args below meth c 2 g z_shR (MQ below (z_Qc g z_shR (fun v u' => v = some (.int res.1) ∧ u' = res.2)) args s 0 0 (z_A g z_shR)) 16 [(0, .ref (z_ad g 0)), (1, .int q.1)] [] q.2 := by
  unfold b_X10_selves_16 at h
  refine z_iload_n X 1 dX10_selves_16 rfl rfl (z_bipush X (v := 9) dX10_selves_17 (by decide) (z_icmp_ge X 39 dX10_selves_19 (by decide) (fun c4 => ?_) (fun c4 => ?_)))
  · replace h := z_ip c4 h
    refine z_sub [0] [(0, .ref (z_ad g 0))] rfl ?_
    exact hkx q.2 h
  · replace h := z_in c4 h
    obtain ⟨r5, er5, h⟩ := z_bs h
    obtain ⟨b6, h⟩ := z_gs h
    obtain ⟨u7, eu7, h⟩ := z_ls h
    refine z_aload_n X 0 dX10_selves_22 rfl rfl (z_getR X (k0 := 28) z_r0 rfl in_X10_selves_X10 (by decide) rfl rfl lk_X10_selves_76 dX10_selves_23 (z_iload_n X 1 dX10_selves_26 rfl rfl (z_aload_n X 0 dX10_selves_27 rfl rfl (z_iload_n X 1 dX10_selves_28 rfl rfl (z_callVi X (r := r5) (u1 := q.2) [.int q.1] [.int q.1, .ref (z_ad g 20)] (w_X10_above l g q.1 q.2 er5) z_r0 rfl gX10_selves_X10_above hy_X10_above rfl (z_le1 hR (by decide)) (z_le2 hR (by decide) (by decide)) (Nat.le_of_ble_eq_true rfl) dX10_selves_29 (z_iast X z_r20 (z_inS b6) dX10_selves_32 (z_nm eu7 (z_iinc X (v := q.1 + 1) 1 [(1, .int (q.1 + 1)), (0, .ref (z_ad g 0))] dX10_selves_33 rfl rfl (by decide) rfl (z_goto X 16 dX10_selves_36 (by decide) (z_sub [1, 0] [(0, .ref (z_ad g 0)), (1, .int (q.1 + 1))] rfl ?_))))))))))
    exact hkb (q.1 + 1, u7) h
set_option maxRecDepth 20000 in
set_option maxHeartbeats 4000000 in
theorem w_X10_selves (l : Launch) (g : z_G)  (u : z_M) {res : Int32 × z_M} (h : f_X10_selves u = some res) : z_C l g z_shR yX10_selves wsX10_selves 5 [.ref (z_ad g 0)] u (fun v u' => v = some (.int res.1) ∧ u' = res.2) := by
  refine z_C.mk (lv := [(0, .ref (z_ad g 0))]) (cc := cX10_selves) (nL := 2) (rt := (some .int)) rfl (by decide) (Nat.le_of_ble_eq_true rfl) rfl (fun p e R s m args below meth c hR X => ?_)
  unfold f_X10_selves at h
  obtain ⟨u1, eu1, h⟩ := z_ls h
  obtain ⟨r2, er2, h⟩ := z_bs h
  refine z_aload_n X 0 dX10_selves_0 rfl rfl (z_iconst X (v := 0) dX10_selves_1 (by decide) (z_putI X (k0 := 0) (ty0 := tyX10) z_r0 rfl in_X10_selves_X10 tyX10_ok nmX10 (by decide) rfl rfl rfl rfl rfl lk_X10_selves_82 dX10_selves_2 (z_nm eu1 (z_aload_n X 0 dX10_selves_5 rfl rfl (z_callVi X (r := r2) (u1 := u1) [] [] (w_X10_isTold l g u1 er2) z_r0 rfl gX10_selves_X10_isTold hy_X10_isTold rfl (z_le1 hR (by decide)) (z_le2 hR (by decide) (by decide)) (Nat.le_of_ble_eq_true rfl) dX10_selves_6 (z_if_ne X 14 dX10_selves_9 (by decide) (fun c3 => ?_) (fun c3 => ?_)))))))
  · replace h := z_in c3 h
    refine z_iconst X (v := 0) dX10_selves_14 (by decide) (z_istore_n X [(1, .int 0), (0, .ref (z_ad g 0))] dX10_selves_15 rfl (by decide) rfl (z_sub [1, 0] [(0, .ref (z_ad g 0)), (1, .int 0)] rfl ?_))
    have hw := z_lp_w (fun q9 kb9 kx9 h1 h2 h3 => wb_X10_selves_16 (l := l) (e := e) (below := below) (u := u1) hR X q9 kb9 kx9 h1 h2 h3) z_F _ _ h
    refine hw (fun t8 h => ?_)
    obtain ⟨b9, h⟩ := z_gs h
    obtain ⟨b10, h⟩ := z_gs h
    obtain ⟨u11, eu11, h⟩ := z_ls h
    obtain ⟨r12, u13, er12, h⟩ := z_b2s h
    refine z_aload_n X 0 dX10_selves_39 rfl rfl (z_getR X (k0 := 28) z_r0 rfl in_X10_selves_X10 (by decide) rfl rfl lk_X10_selves_76 dX10_selves_40 (z_bipush X (v := 9) dX10_selves_43 (by decide) (z_aload_n X 0 dX10_selves_45 rfl rfl (z_getR X (k0 := 1) z_r0 rfl in_X10_selves_X10 (by decide) rfl rfl lk_X10_selves_9 dX10_selves_46 (z_iconst X (v := 1) dX10_selves_49 (by decide) (z_iald X z_r1 (z_inS b9) dX10_selves_50 (z_iast X z_r20 (z_inS b10) dX10_selves_51 (z_nm eu11 (z_aload_n X 0 dX10_selves_52 rfl rfl (z_callVi X (r := r12) (u1 := u13) [] [] (w_X10_laidOn l g u11 er12) z_r0 rfl gX10_selves_X10_laidOn hy_X10_laidOn rfl (z_le1 hR (by decide)) (z_le2 hR (by decide) (by decide)) (Nat.le_of_ble_eq_true rfl) dX10_selves_53 ?_))))))))))
    cases h; exact z_iret X rfl dX10_selves_56 ⟨rfl, rfl⟩
  · replace h := z_ip c3 h
    refine z_iconst X (v := (-1)) dX10_selves_12 (by decide) ?_
    cases h; exact z_iret X rfl dX10_selves_13 ⟨rfl, rfl⟩

theorem lk_X10_like_82 : (Cond.fieldLink RX10 82 RX10 (TX10 0).2.1 (TX10 0).2.2.1) ∈ wsX10_like := by decide +kernel
theorem in_X10_like_X10 : ∀ w ∈ u_ws RX10 TX10 30, w ∈ wsX10_like := fun _ h => List.mem_cons_of_mem _ (List.mem_append_right _ h)
theorem lk_X10_like_24 : (Cond.fieldLink RX10 24 RX10 (TX10 6).2.1 (TX10 6).2.2.1) ∈ wsX10_like := by decide +kernel
theorem lk_X10_like_76 : (Cond.fieldLink RX10 76 RX10 (TX10 28).2.1 (TX10 28).2.2.1) ∈ wsX10_like := by decide +kernel
theorem lk_X10_like_21 : (Cond.fieldLink RX10 21 RX10 (TX10 5).2.1 (TX10 5).2.2.1) ∈ wsX10_like := by decide +kernel
theorem lk_X10_like_9 : (Cond.fieldLink RX10 9 RX10 (TX10 1).2.1 (TX10 1).2.2.1) ∈ wsX10_like := by decide +kernel
def b_X10_like_46 (x1 : Int32) : (Int32 × z_M) → ((Int32 × z_M) → Option (Int32 × z_M)) → (z_M → Option (Int32 × z_M)) → Option (Int32 × z_M) := fun q kb kx =>
  if 9 ≤ q.1 then (kx q.2) else (z_gd (z_inb (((93 * x1) + 3) + q.1) 186) (z_gd (z_inb 9 10) (z_gd (z_inb q.1 10) (z_lt (z_sI q.2 20 q.1.toNatClampNeg ((z_gI q.2 4 (((93 * x1) + 3) + q.1).toNatClampNeg) &&& (z_gI q.2 20 (9 : Int32).toNatClampNeg))) (fun u13 => kb (q.1 + 1, u13))))))
def f_X10_like (a1 : Int32) (u : z_M) : Option (Int32 × z_M) :=
  z_lt (z_sI u 0 0 0) (fun u1 => Option.bind (f_X10_isIn a1.toInt64 0 1) (fun r2 => if r2 = 0 then (some ((-1), u1)) else (z_gd (z_inb a1 2) (if (z_gI u1 5 a1.toNatClampNeg) = 0 then (some ((-1), u1)) else (z_gd (z_inb ((93 * a1) + 1) 186) (z_gd (z_inb 9 10) (z_lt (z_sI u1 20 (9 : Int32).toNatClampNeg (z_gI u1 4 ((93 * a1) + 1).toNatClampNeg)) (fun u8 => z_lp (b_X10_like_46 a1) z_F (0, u8) (fun t14 => z_gd (z_inb 9 10) (Option.bind (f_X10_bits (z_gI t14 20 (9 : Int32).toNatClampNeg)) (fun r16 => z_gd (z_inb 1 93) (Option.bind (f_X10_bits (z_gI t14 1 (1 : Int32).toNatClampNeg)) (fun r18 => if r16 = r18 then (z_b2 (f_X10_laidOn t14) (fun r20 u21 => if r20 ≤ 0 then (some (0, u21)) else (some (1, u21)))) else (some (0, t14)))))))))))))))
set_option maxRecDepth 20000 in
set_option maxHeartbeats 4000000 in
theorem wb_X10_like_46 {p : Program} {l : Launch} {e : Env} {R : Room} {s : State} {m : MethodId} {args : Array Value} {below : List Frame} {meth : Method} {c : Code} {g : z_G} {u : z_M} {res : Int32 × z_M} (hR : R = z_rm 5) (X : z_X p R s m args meth c cX10_like 3 RX10 wsX10_like (some .int) g z_shR) (x1 : Int32) (q : Int32 × z_M) (kb : (Int32 × z_M) → Option (Int32 × z_M)) (kx : z_M → Option (Int32 × z_M)) (hkb : ∀ q, kb q = some res → z_V p l e R s m args below meth c 3 g z_shR (MQ below (z_Qc g z_shR (fun v u' => v = some (.int res.1) ∧ u' = res.2)) args s 0 0 (z_A g z_shR)) 46 [(0, .ref (z_ad g 0)), (1, .int x1), (2, .int q.1)] [] q.2) (hkx : ∀ t, kx t = some res → z_V p l e R s m args below meth c 3 g z_shR (MQ below (z_Qc g z_shR (fun v u' => v = some (.int res.1) ∧ u' = res.2)) args s 0 0 (z_A g z_shR)) 85 [(0, .ref (z_ad g 0))] [] t) (h : b_X10_like_46 x1 q kb kx = some res) : z_V p l e R s m args below meth c 3 g z_shR (MQ below (z_Qc g z_shR (fun v u' => v = some (.int res.1) ∧ u' = res.2)) args s 0 0 (z_A g z_shR)) 46 [(0, .ref (z_ad g 0)), (1, .int x1), (2, .int q.1)] [] q.2 := by
  unfold b_X10_like_46 at h
  refine z_iload_n X 2 dX10_like_46 rfl rfl (z_bipush X (v := 9) dX10_like_47 (by decide) (z_icmp_ge X 85 dX10_like_49 (by decide) (fun c9 => ?_) (fun c9 => ?_)))
  · replace h := z_ip c9 h
    refine z_sub [0] [(0, .ref (z_ad g 0))] rfl ?_
    exact hkx q.2 h
  · replace h := z_in c9 h
    obtain ⟨b10, h⟩ := z_gs h
    obtain ⟨b11, h⟩ := z_gs h
    obtain ⟨b12, h⟩ := z_gs h
    obtain ⟨u13, eu13, h⟩ := z_ls h
    refine z_aload_n X 0 dX10_like_52 rfl rfl (z_getR X (k0 := 28) z_r0 rfl in_X10_like_X10 (by decide) rfl rfl lk_X10_like_76 dX10_like_53 (z_iload_n X 2 dX10_like_56 rfl rfl (z_aload_n X 0 dX10_like_57 rfl rfl (z_getR X (k0 := 5) z_r0 rfl in_X10_like_X10 (by decide) rfl rfl lk_X10_like_21 dX10_like_58 (z_bipush X (v := 93) dX10_like_61 (by decide) (z_iload_n X 1 dX10_like_63 rfl rfl (z_imul X dX10_like_64 (z_iconst X (v := 3) dX10_like_65 (by decide) (z_iadd X dX10_like_66 (z_iload_n X 2 dX10_like_67 rfl rfl (z_iadd X dX10_like_68 (z_iald X z_r4 (z_inS b10) dX10_like_69 (z_aload_n X 0 dX10_like_70 rfl rfl (z_getR X (k0 := 28) z_r0 rfl in_X10_like_X10 (by decide) rfl rfl lk_X10_like_76 dX10_like_71 (z_bipush X (v := 9) dX10_like_74 (by decide) (z_iald X z_r20 (z_inS b11) dX10_like_76 (z_iand X dX10_like_77 (z_iast X z_r20 (z_inS b12) dX10_like_78 (z_nm eu13 (z_iinc X (v := q.1 + 1) 2 [(2, .int (q.1 + 1)), (0, .ref (z_ad g 0)), (1, .int x1)] dX10_like_79 rfl rfl (by decide) rfl (z_goto X 46 dX10_like_82 (by decide) (z_sub [1, 2, 0] [(0, .ref (z_ad g 0)), (1, .int x1), (2, .int (q.1 + 1))] rfl ?_))))))))))))))))))))))
    exact hkb (q.1 + 1, u13) h
set_option maxRecDepth 20000 in
set_option maxHeartbeats 4000000 in
theorem w_X10_like (l : Launch) (g : z_G) (a1 : Int32) (u : z_M) {res : Int32 × z_M} (h : f_X10_like a1 u = some res) : z_C l g z_shR yX10_like wsX10_like 5 [.ref (z_ad g 0), .int a1] u (fun v u' => v = some (.int res.1) ∧ u' = res.2) := by
  refine z_C.mk (lv := [(0, .ref (z_ad g 0)), (1, .int a1)]) (cc := cX10_like) (nL := 3) (rt := (some .int)) rfl (by decide) (Nat.le_of_ble_eq_true rfl) rfl (fun p e R s m args below meth c hR X => ?_)
  unfold f_X10_like at h
  obtain ⟨u1, eu1, h⟩ := z_ls h
  obtain ⟨r2, er2, h⟩ := z_bs h
  refine z_aload_n X 0 dX10_like_0 rfl rfl (z_iconst X (v := 0) dX10_like_1 (by decide) (z_putI X (k0 := 0) (ty0 := tyX10) z_r0 rfl in_X10_like_X10 tyX10_ok nmX10 (by decide) rfl rfl rfl rfl rfl lk_X10_like_82 dX10_like_2 (z_nm eu1 (z_iload_n X 1 dX10_like_5 rfl rfl (z_i2l X dX10_like_6 (z_lconst X (v := 0) dX10_like_7 (by decide) (z_lconst X (v := 1) dX10_like_8 (by decide) (z_callSi X (r := r2) (u1 := u1) [.long a1.toInt64, .long 0, .long 1] [] (w_X10_isIn l g a1.toInt64 0 1 u1 er2) gX10_like_X10_isIn hy_X10_isIn.2 rfl (z_le1 hR (by decide)) (z_le2 hR (by decide) (by decide)) (Nat.le_of_ble_eq_true rfl) dX10_like_9 (z_if_eq X 24 dX10_like_12 (by decide) (fun c3 => ?_) (fun c3 => ?_))))))))))
  · replace h := z_ip c3 h
    refine z_iconst X (v := (-1)) dX10_like_24 (by decide) ?_
    cases h; exact z_iret X rfl dX10_like_25 ⟨rfl, rfl⟩
  · replace h := z_in c3 h
    obtain ⟨b4, h⟩ := z_gs h
    refine z_aload_n X 0 dX10_like_15 rfl rfl (z_getR X (k0 := 6) z_r0 rfl in_X10_like_X10 (by decide) rfl rfl lk_X10_like_24 dX10_like_16 (z_iload_n X 1 dX10_like_19 rfl rfl (z_zald X z_r5 (z_inS b4) dX10_like_20 (z_if_ne X 26 dX10_like_21 (by decide) (fun c5 => ?_) (fun c5 => ?_)))))
    · replace h := z_in c5 h
      obtain ⟨b6, h⟩ := z_gs h
      obtain ⟨b7, h⟩ := z_gs h
      obtain ⟨u8, eu8, h⟩ := z_ls h
      refine z_aload_n X 0 dX10_like_26 rfl rfl (z_getR X (k0 := 28) z_r0 rfl in_X10_like_X10 (by decide) rfl rfl lk_X10_like_76 dX10_like_27 (z_bipush X (v := 9) dX10_like_30 (by decide) (z_aload_n X 0 dX10_like_32 rfl rfl (z_getR X (k0 := 5) z_r0 rfl in_X10_like_X10 (by decide) rfl rfl lk_X10_like_21 dX10_like_33 (z_bipush X (v := 93) dX10_like_36 (by decide) (z_iload_n X 1 dX10_like_38 rfl rfl (z_imul X dX10_like_39 (z_iconst X (v := 1) dX10_like_40 (by decide) (z_iadd X dX10_like_41 (z_iald X z_r4 (z_inS b6) dX10_like_42 (z_iast X z_r20 (z_inS b7) dX10_like_43 (z_nm eu8 (z_iconst X (v := 0) dX10_like_44 (by decide) (z_istore_n X [(2, .int 0), (0, .ref (z_ad g 0)), (1, .int a1)] dX10_like_45 rfl (by decide) rfl (z_sub [1, 2, 0] [(0, .ref (z_ad g 0)), (1, .int a1), (2, .int 0)] rfl ?_)))))))))))))))
      have hw := z_lp_w (fun q9 kb9 kx9 h1 h2 h3 => wb_X10_like_46 (l := l) (e := e) (below := below) (u := u8) hR X a1 q9 kb9 kx9 h1 h2 h3) z_F _ _ h
      refine hw (fun t14 h => ?_)
      obtain ⟨b15, h⟩ := z_gs h
      obtain ⟨r16, er16, h⟩ := z_bs h
      obtain ⟨b17, h⟩ := z_gs h
      obtain ⟨r18, er18, h⟩ := z_bs h
      refine z_aload_n X 0 dX10_like_85 rfl rfl (z_getR X (k0 := 28) z_r0 rfl in_X10_like_X10 (by decide) rfl rfl lk_X10_like_76 dX10_like_86 (z_bipush X (v := 9) dX10_like_89 (by decide) (z_iald X z_r20 (z_inS b15) dX10_like_91 (z_callSi X (r := r16) (u1 := t14) [.int (z_gI t14 20 (9 : Int32).toNatClampNeg)] [] (w_X10_bits l g (z_gI t14 20 (9 : Int32).toNatClampNeg) t14 er16) gX10_like_X10_bits hy_X10_bits.2 rfl (z_le1 hR (by decide)) (z_le2 hR (by decide) (by decide)) (Nat.le_of_ble_eq_true rfl) dX10_like_92 (z_aload_n X 0 dX10_like_95 rfl rfl (z_getR X (k0 := 1) z_r0 rfl in_X10_like_X10 (by decide) rfl rfl lk_X10_like_9 dX10_like_96 (z_iconst X (v := 1) dX10_like_99 (by decide) (z_iald X z_r1 (z_inS b17) dX10_like_100 (z_callSi X (r := r18) (u1 := t14) [.int (z_gI t14 1 (1 : Int32).toNatClampNeg)] [.int r16] (w_X10_bits l g (z_gI t14 1 (1 : Int32).toNatClampNeg) t14 er18) gX10_like_X10_bits hy_X10_bits.2 rfl (z_le1 hR (by decide)) (z_le2 hR (by decide) (by decide)) (Nat.le_of_ble_eq_true rfl) dX10_like_101 (z_icmp_ne X 118 dX10_like_104 (by decide) (fun c19 => ?_) (fun c19 => ?_)))))))))))
      · replace h := z_in c19 h
        refine z_iconst X (v := 0) dX10_like_118 (by decide) ?_
        cases h; exact z_iret X rfl dX10_like_119 ⟨rfl, rfl⟩
      · replace h := z_ip c19 h
        obtain ⟨r20, u21, er20, h⟩ := z_b2s h
        refine z_aload_n X 0 dX10_like_107 rfl rfl (z_callVi X (r := r20) (u1 := u21) [] [] (w_X10_laidOn l g t14 er20) z_r0 rfl gX10_like_X10_laidOn hy_X10_laidOn rfl (z_le1 hR (by decide)) (z_le2 hR (by decide) (by decide)) (Nat.le_of_ble_eq_true rfl) dX10_like_108 (z_if_le X 118 dX10_like_111 (by decide) (fun c22 => ?_) (fun c22 => ?_)))
        · replace h := z_ip c22 h
          refine z_iconst X (v := 0) dX10_like_118 (by decide) ?_
          cases h; exact z_iret X rfl dX10_like_119 ⟨rfl, rfl⟩
        · replace h := z_in c22 h
          refine z_iconst X (v := 1) dX10_like_114 (by decide) (z_goto X 119 dX10_like_115 (by decide) ?_)
          cases h; exact z_iret X rfl dX10_like_119 ⟨rfl, rfl⟩
    · replace h := z_ip c5 h
      refine z_iconst X (v := (-1)) dX10_like_24 (by decide) ?_
      cases h; exact z_iret X rfl dX10_like_25 ⟨rfl, rfl⟩

theorem lk_X10_edges_9 : (Cond.fieldLink RX10 9 RX10 (TX10 1).2.1 (TX10 1).2.2.1) ∈ wsX10_edges := by decide +kernel
theorem in_X10_edges_X10 : ∀ w ∈ u_ws RX10 TX10 30, w ∈ wsX10_edges := fun _ h => List.mem_cons_of_mem _ (List.mem_append_right _ h)
def b_X10_edges_4 (u : z_M) : (Int32 × Int32) → ((Int32 × Int32) → Option (Int32)) → (Int32 → Option (Int32)) → Option (Int32) := fun q kb kx =>
  if 9 ≤ q.2 then (kx q.1) else (z_gd (z_inb 1 93) (Option.bind (f_X10_has (z_gI u 1 (1 : Int32).toNatClampNeg) q.2) (fun r3 => if r3 = 0 then (z_lt (q.1 + 0) (fun v5 => kb (v5, q.2 + 1))) else (Option.bind (f_X10_coverers q.2 u) (fun r6 => Option.bind (f_X10_bits r6) (fun r7 => z_lt (q.1 + r7) (fun v8 => kb (v8, q.2 + 1))))))))
def f_X10_edges (u : z_M) : Option (Int32) :=
  z_lp (b_X10_edges_4 u) z_F (0, 0) (fun t9 => some t9)
set_option maxRecDepth 20000 in
set_option maxHeartbeats 4000000 in
theorem wb_X10_edges_4 {p : Program} {l : Launch} {e : Env} {R : Room} {s : State} {m : MethodId} {args : Array Value} {below : List Frame} {meth : Method} {c : Code} {g : z_G} {u : z_M} {res : Int32} (hR : R = z_rm 6) (X : z_X p R s m args meth c cX10_edges 3 RX10 wsX10_edges (some .int) g z_shR)  (q : Int32 × Int32) (kb : (Int32 × Int32) → Option (Int32)) (kx : Int32 → Option (Int32)) (hkb : ∀ q, kb q = some res → z_V p l e R s m args below meth c 3 g z_shR (MQ below (z_Qc g z_shR (fun v u' => v = some (.int res) ∧ u' = u)) args s 0 0 (z_A g z_shR)) 4 [(0, .ref (z_ad g 0)), (1, .int q.1), (2, .int q.2)] [] u) (hkx : ∀ t, kx t = some res → z_V p l e R s m args below meth c 3 g z_shR (MQ below (z_Qc g z_shR (fun v u' => v = some (.int res) ∧ u' = u)) args s 0 0 (z_A g z_shR)) 44 [(1, .int t)] [] u) (h : b_X10_edges_4 u q kb kx = some res) : z_V p l e R s m args below meth c 3 g z_shR (MQ below (z_Qc g z_shR (fun v u' => v = some (.int res) ∧ u' = u)) args s 0 0 (z_A g z_shR)) 4 [(0, .ref (z_ad g 0)), (1, .int q.1), (2, .int q.2)] [] u := by
  unfold b_X10_edges_4 at h
  refine z_iload_n X 2 dX10_edges_4 rfl rfl (z_bipush X (v := 9) dX10_edges_5 (by decide) (z_icmp_ge X 44 dX10_edges_7 (by decide) (fun c1 => ?_) (fun c1 => ?_)))
  · replace h := z_ip c1 h
    refine z_sub [1] [(1, .int q.1)] rfl ?_
    exact hkx q.1 h
  · replace h := z_in c1 h
    obtain ⟨b2, h⟩ := z_gs h
    obtain ⟨r3, er3, h⟩ := z_bs h
    refine z_iload_n X 1 dX10_edges_10 rfl rfl (z_aload_n X 0 dX10_edges_11 rfl rfl (z_getR X (k0 := 1) z_r0 rfl in_X10_edges_X10 (by decide) rfl rfl lk_X10_edges_9 dX10_edges_12 (z_iconst X (v := 1) dX10_edges_15 (by decide) (z_iald X z_r1 (z_inS b2) dX10_edges_16 (z_iload_n X 2 dX10_edges_17 rfl rfl (z_callSi X (r := r3) (u1 := u) [.int (z_gI u 1 (1 : Int32).toNatClampNeg), .int q.2] [.int q.1] (w_X10_has l g (z_gI u 1 (1 : Int32).toNatClampNeg) q.2 u er3) gX10_edges_X10_has hy_X10_has.2 rfl (z_le1 hR (by decide)) (z_le2 hR (by decide) (by decide)) (Nat.le_of_ble_eq_true rfl) dX10_edges_18 (z_if_eq X 35 dX10_edges_21 (by decide) (fun c4 => ?_) (fun c4 => ?_))))))))
    · replace h := z_ip c4 h
      obtain ⟨v5, ev5, h⟩ := z_ls h
      refine z_iconst X (v := 0) dX10_edges_35 (by decide) (z_iadd X dX10_edges_36 (z_ti ev5 (z_istore_n X [(1, .int v5), (0, .ref (z_ad g 0)), (2, .int q.2)] dX10_edges_37 rfl (by decide) rfl (z_iinc X (v := q.2 + 1) 2 [(2, .int (q.2 + 1)), (1, .int v5), (0, .ref (z_ad g 0))] dX10_edges_38 rfl rfl (by decide) rfl (z_goto X 4 dX10_edges_41 (by decide) (z_sub [2, 1, 0] [(0, .ref (z_ad g 0)), (1, .int v5), (2, .int (q.2 + 1))] rfl ?_))))))
      exact hkb (v5, q.2 + 1) h
    · replace h := z_in c4 h
      obtain ⟨r6, er6, h⟩ := z_bs h
      obtain ⟨r7, er7, h⟩ := z_bs h
      obtain ⟨v8, ev8, h⟩ := z_ls h
      refine z_aload_n X 0 dX10_edges_24 rfl rfl (z_iload_n X 2 dX10_edges_25 rfl rfl (z_callVi X (r := r6) (u1 := u) [.int q.2] [.int q.1] (w_X10_coverers l g q.2 u er6) z_r0 rfl gX10_edges_X10_coverers hy_X10_coverers rfl (z_le1 hR (by decide)) (z_le2 hR (by decide) (by decide)) (Nat.le_of_ble_eq_true rfl) dX10_edges_26 (z_callSi X (r := r7) (u1 := u) [.int r6] [.int q.1] (w_X10_bits l g r6 u er7) gX10_edges_X10_bits hy_X10_bits.2 rfl (z_le1 hR (by decide)) (z_le2 hR (by decide) (by decide)) (Nat.le_of_ble_eq_true rfl) dX10_edges_29 (z_goto X 36 dX10_edges_32 (by decide) (z_iadd X dX10_edges_36 (z_ti ev8 (z_istore_n X [(1, .int v8), (0, .ref (z_ad g 0)), (2, .int q.2)] dX10_edges_37 rfl (by decide) rfl (z_iinc X (v := q.2 + 1) 2 [(2, .int (q.2 + 1)), (1, .int v8), (0, .ref (z_ad g 0))] dX10_edges_38 rfl rfl (by decide) rfl (z_goto X 4 dX10_edges_41 (by decide) (z_sub [2, 1, 0] [(0, .ref (z_ad g 0)), (1, .int v8), (2, .int (q.2 + 1))] rfl ?_))))))))))
      exact hkb (v8, q.2 + 1) h
set_option maxRecDepth 20000 in
set_option maxHeartbeats 4000000 in
theorem w_X10_edges (l : Launch) (g : z_G)  (u : z_M) {res : Int32} (h : f_X10_edges u = some res) : z_C l g z_shR yX10_edges wsX10_edges 6 [.ref (z_ad g 0)] u (fun v u' => v = some (.int res) ∧ u' = u) := by
  refine z_C.mk (lv := [(0, .ref (z_ad g 0))]) (cc := cX10_edges) (nL := 3) (rt := (some .int)) rfl (by decide) (Nat.le_of_ble_eq_true rfl) rfl (fun p e R s m args below meth c hR X => ?_)
  unfold f_X10_edges at h
  refine z_iconst X (v := 0) dX10_edges_0 (by decide) (z_istore_n X [(1, .int 0), (0, .ref (z_ad g 0))] dX10_edges_1 rfl (by decide) rfl (z_iconst X (v := 0) dX10_edges_2 (by decide) (z_istore_n X [(2, .int 0), (1, .int 0), (0, .ref (z_ad g 0))] dX10_edges_3 rfl (by decide) rfl (z_sub [2, 1, 0] [(0, .ref (z_ad g 0)), (1, .int 0), (2, .int 0)] rfl ?_))))
  have hw := z_lp_w (fun q9 kb9 kx9 h1 h2 h3 => wb_X10_edges_4 (l := l) (e := e) (below := below) (u := u) hR X q9 kb9 kx9 h1 h2 h3) z_F _ _ h
  refine hw (fun t9 h => ?_)
  refine z_iload_n X 0 dX10_edges_44 rfl rfl ?_
  cases h; exact z_iret X rfl dX10_edges_45 ⟨rfl, rfl⟩

theorem lk_X10_count_82 : (Cond.fieldLink RX10 82 RX10 (TX10 0).2.1 (TX10 0).2.2.1) ∈ wsX10_count := by decide +kernel
theorem in_X10_count_X10 : ∀ w ∈ u_ws RX10 TX10 30, w ∈ wsX10_count := fun _ h => List.mem_cons_of_mem _ (List.mem_append_right _ h)
theorem lk_X10_count_9 : (Cond.fieldLink RX10 9 RX10 (TX10 1).2.1 (TX10 1).2.2.1) ∈ wsX10_count := by decide +kernel
theorem lk_X10_count_113 : (Cond.fieldLink RX10 113 RX10 (TX10 4).2.1 (TX10 4).2.2.1) ∈ wsX10_count := by decide +kernel
theorem lk_X10_count_116 : (Cond.fieldLink RX10 116 RX10 (TX10 8).2.1 (TX10 8).2.2.1) ∈ wsX10_count := by decide +kernel
theorem hy_X10_edges : yX10_edges.cls = RX10 ∧ yX10_edges.cls ≠ "java/lang/invoke/MethodHandle" ∧ yX10_edges.cls ≠ "java/lang/invoke/VarHandle" ∧ (parseMethodDescriptor yX10_edges.desc).map (fun d => d.parameters.length) = some 0 := by decide +kernel
def f_X10_count (a1 : Int32) (u : z_M) : Option (Int32 × z_M) :=
  z_lt (z_sI u 0 0 0) (fun u1 => if a1 = 0 then (z_gd (z_inb 0 93) (some (z_gI u1 1 (0 : Int32).toNatClampNeg, u1))) else (if a1 = 1 then (z_gd (z_inb 1 93) (some (z_gI u1 1 (1 : Int32).toNatClampNeg, u1))) else (if a1 = 2 then (Option.bind (f_X10_pairs u1) (fun r4 => some (r4, u1))) else (if a1 = 3 then (Option.bind (f_X10_edges u1) (fun r5 => some (r5, u1))) else (if a1 = 4 then (z_gd (z_inb 2 93) (some (z_gI u1 1 (2 : Int32).toNatClampNeg, u1))) else (if a1 = 5 then (some (z_gI u1 0 4, u1)) else (if a1 = 6 then (some (z_gI u1 0 8, u1)) else (some ((-1), u1)))))))))
set_option maxRecDepth 20000 in
set_option maxHeartbeats 4000000 in
theorem w_X10_count (l : Launch) (g : z_G) (a1 : Int32) (u : z_M) {res : Int32 × z_M} (h : f_X10_count a1 u = some res) : z_C l g z_shR yX10_count wsX10_count 7 [.ref (z_ad g 0), .int a1] u (fun v u' => v = some (.int res.1) ∧ u' = res.2) := by
  refine z_C.mk (lv := [(0, .ref (z_ad g 0)), (1, .int a1)]) (cc := cX10_count) (nL := 2) (rt := (some .int)) rfl (by decide) (Nat.le_of_ble_eq_true rfl) rfl (fun p e R s m args below meth c hR X => ?_)
  unfold f_X10_count at h
  obtain ⟨u1, eu1, h⟩ := z_ls h
  refine z_aload_n X 0 dX10_count_0 rfl rfl (z_iconst X (v := 0) dX10_count_1 (by decide) (z_putI X (k0 := 0) (ty0 := tyX10) z_r0 rfl in_X10_count_X10 tyX10_ok nmX10 (by decide) rfl rfl rfl rfl rfl lk_X10_count_82 dX10_count_2 (z_nm eu1 (z_iload_n X 1 dX10_count_5 rfl rfl ?_))))
  by_cases c7 : a1 = 0
  · replace h := z_ip c7 h
    refine z_tabIn X 48 dX10_count_6 (by rw [c7]; decide) (by rw [c7]; decide) (by rw [c7]; rfl) (by decide) ?_
    obtain ⟨b2, h⟩ := z_gs h
    refine z_aload_n X 0 dX10_count_48 rfl rfl (z_getR X (k0 := 1) z_r0 rfl in_X10_count_X10 (by decide) rfl rfl lk_X10_count_9 dX10_count_49 (z_iconst X (v := 0) dX10_count_52 (by decide) (z_iald X z_r1 (z_inS b2) dX10_count_53 ?_)))
    cases h; exact z_iret X rfl dX10_count_54 ⟨rfl, rfl⟩
  replace h := z_in c7 h
  by_cases c8 : a1 = 1
  · replace h := z_ip c8 h
    refine z_tabIn X 55 dX10_count_6 (by rw [c8]; decide) (by rw [c8]; decide) (by rw [c8]; rfl) (by decide) ?_
    obtain ⟨b3, h⟩ := z_gs h
    refine z_aload_n X 0 dX10_count_55 rfl rfl (z_getR X (k0 := 1) z_r0 rfl in_X10_count_X10 (by decide) rfl rfl lk_X10_count_9 dX10_count_56 (z_iconst X (v := 1) dX10_count_59 (by decide) (z_iald X z_r1 (z_inS b3) dX10_count_60 ?_)))
    cases h; exact z_iret X rfl dX10_count_61 ⟨rfl, rfl⟩
  replace h := z_in c8 h
  by_cases c9 : a1 = 2
  · replace h := z_ip c9 h
    refine z_tabIn X 62 dX10_count_6 (by rw [c9]; decide) (by rw [c9]; decide) (by rw [c9]; rfl) (by decide) ?_
    obtain ⟨r4, er4, h⟩ := z_bs h
    refine z_aload_n X 0 dX10_count_62 rfl rfl (z_callVi X (r := r4) (u1 := u1) [] [] (w_X10_pairs l g u1 er4) z_r0 rfl gX10_count_X10_pairs hy_X10_pairs rfl (z_le1 hR (by decide)) (z_le2 hR (by decide) (by decide)) (Nat.le_of_ble_eq_true rfl) dX10_count_63 ?_)
    cases h; exact z_iret X rfl dX10_count_66 ⟨rfl, rfl⟩
  replace h := z_in c9 h
  by_cases c10 : a1 = 3
  · replace h := z_ip c10 h
    refine z_tabIn X 67 dX10_count_6 (by rw [c10]; decide) (by rw [c10]; decide) (by rw [c10]; rfl) (by decide) ?_
    obtain ⟨r5, er5, h⟩ := z_bs h
    refine z_aload_n X 0 dX10_count_67 rfl rfl (z_callVi X (r := r5) (u1 := u1) [] [] (w_X10_edges l g u1 er5) z_r0 rfl gX10_count_X10_edges hy_X10_edges rfl (z_le1 hR (by decide)) (z_le2 hR (by decide) (by decide)) (Nat.le_of_ble_eq_true rfl) dX10_count_68 ?_)
    cases h; exact z_iret X rfl dX10_count_71 ⟨rfl, rfl⟩
  replace h := z_in c10 h
  by_cases c11 : a1 = 4
  · replace h := z_ip c11 h
    refine z_tabIn X 72 dX10_count_6 (by rw [c11]; decide) (by rw [c11]; decide) (by rw [c11]; rfl) (by decide) ?_
    obtain ⟨b6, h⟩ := z_gs h
    refine z_aload_n X 0 dX10_count_72 rfl rfl (z_getR X (k0 := 1) z_r0 rfl in_X10_count_X10 (by decide) rfl rfl lk_X10_count_9 dX10_count_73 (z_iconst X (v := 2) dX10_count_76 (by decide) (z_iald X z_r1 (z_inS b6) dX10_count_77 ?_)))
    cases h; exact z_iret X rfl dX10_count_78 ⟨rfl, rfl⟩
  replace h := z_in c11 h
  by_cases c12 : a1 = 5
  · replace h := z_ip c12 h
    refine z_tabIn X 79 dX10_count_6 (by rw [c12]; decide) (by rw [c12]; decide) (by rw [c12]; rfl) (by decide) ?_
    refine z_aload_n X 0 dX10_count_79 rfl rfl (z_getI X (k0 := 4) z_r0 rfl in_X10_count_X10 (by decide) rfl rfl lk_X10_count_113 dX10_count_80 ?_)
    cases h; exact z_iret X rfl dX10_count_83 ⟨rfl, rfl⟩
  replace h := z_in c12 h
  by_cases c13 : a1 = 6
  · replace h := z_ip c13 h
    refine z_tabIn X 84 dX10_count_6 (by rw [c13]; decide) (by rw [c13]; decide) (by rw [c13]; rfl) (by decide) ?_
    refine z_aload_n X 0 dX10_count_84 rfl rfl (z_getI X (k0 := 8) z_r0 rfl in_X10_count_X10 (by decide) rfl rfl lk_X10_count_116 dX10_count_85 ?_)
    cases h; exact z_iret X rfl dX10_count_88 ⟨rfl, rfl⟩
  replace h := z_in c13 h
  refine z_tabOut X 89 dX10_count_6 (by have kc7 := lv_neT (a := 0) c7 (by decide); have kc8 := lv_neT (a := 1) c8 (by decide); have kc9 := lv_neT (a := 2) c9 (by decide); have kc10 := lv_neT (a := 3) c10 (by decide); have kc11 := lv_neT (a := 4) c11 (by decide); have kc12 := lv_neT (a := 5) c12 (by decide); have kc13 := lv_neT (a := 6) c13 (by decide); omega) (by decide) ?_
  refine z_iconst X (v := (-1)) dX10_count_89 (by decide) ?_
  cases h; exact z_iret X rfl dX10_count_90 ⟨rfl, rfl⟩
