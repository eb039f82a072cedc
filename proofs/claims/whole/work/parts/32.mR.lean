theorem lk_X10_drop_82 : (Cond.fieldLink RX10 82 RX10 (TX10 0).2.1 (TX10 0).2.2.1) ∈ wsX10_drop := by decide +kernel
theorem in_X10_drop_X10 : ∀ w ∈ u_ws RX10 TX10 30, w ∈ wsX10_drop := by decide +kernel
theorem lk_X10_drop_9 : (Cond.fieldLink RX10 9 RX10 (TX10 1).2.1 (TX10 1).2.2.1) ∈ wsX10_drop := by decide +kernel
def f_X10_drop (a1 : Int32) (u : z_M) : Option (Int32 × z_M) :=
  z_lt (z_sI u 0 0 0) (fun u1 => Option.bind (f_X10_isThere a1 u1) (fun r2 => if r2 = 0 then (some ((-1), u1)) else (z_gd (z_inb 1 93) (Option.bind (f_X10_bits (z_gI u1 1 (1 : Int32).toNatClampNeg)) (fun r5 => if r5 = 1 then (some ((-2), u1)) else (Option.bind (f_X10_remember u1) (fun r7 => z_gd (z_inb 1 93) (z_gd (z_inb 1 93) (z_lt (z_sI r7 1 (1 : Int32).toNatClampNeg ((z_gI r7 1 (1 : Int32).toNatClampNeg) ^^^ (1 <<< (a1 &&& 31)))) (fun u10 => z_gd (z_inb 1 93) (Option.bind (f_X10_bits (z_gI u10 1 (1 : Int32).toNatClampNeg)) (fun r12 => some (r12, u10)))))))))))))
set_option maxRecDepth 20000 in
set_option maxHeartbeats 4000000 in
theorem w_X10_drop (l : Launch) (g : z_G) (a1 : Int32) (u : z_M) {res : Int32 × z_M} (h : f_X10_drop a1 u = some res) : z_C l g z_shR yX10_drop wsX10_drop 3 [.ref (z_ad g 0), .int a1] u (fun v u' => v = some (.int res.1) ∧ u' = res.2) := by
  refine z_C.mk (lv := [(0, .ref (z_ad g 0)), (1, .int a1)]) (cc := cX10_drop) (nL := 2) (rt := (some .int)) rfl (by decide) (Nat.le_of_ble_eq_true rfl) rfl (fun p e R s m args below meth c hR X => ?_)
  unfold f_X10_drop at h
  obtain ⟨u1, eu1, h⟩ := z_ls h
  obtain ⟨r2, er2, h⟩ := z_bs h
  refine z_aload_n X 0 dX10_drop_0 rfl rfl (z_iconst X (v := 0) dX10_drop_1 (by decide) (z_putI X (k0 := 0) (ty0 := tyX10) z_r0 rfl in_X10_drop_X10 tyX10_ok nmX10 (by decide) rfl rfl rfl rfl rfl lk_X10_drop_82 dX10_drop_2 (z_nm eu1 (z_aload_n X 0 dX10_drop_5 rfl rfl (z_iload_n X 1 dX10_drop_6 rfl rfl (z_callVi X (r := r2) (u1 := u1) [.int a1] [] (w_X10_isThere l g a1 u1 er2) z_r0 rfl gX10_drop_X10_isThere hy_X10_isThere rfl (z_le1 hR (by decide)) (z_le2 hR (by decide) (by decide)) (Nat.le_of_ble_eq_true rfl) dX10_drop_7 (z_if_ne X 15 dX10_drop_10 (by decide) (fun c3 => ?_) (fun c3 => ?_))))))))
  · replace h := z_in c3 h
    obtain ⟨b4, h⟩ := z_gs h
    obtain ⟨r5, er5, h⟩ := z_bs h
    refine z_aload_n X 0 dX10_drop_15 rfl rfl (z_getR X (k0 := 1) z_r0 rfl in_X10_drop_X10 (by decide) rfl rfl lk_X10_drop_9 dX10_drop_16 (z_iconst X (v := 1) dX10_drop_19 (by decide) (z_iald X z_r1 (z_inS b4) dX10_drop_20 (z_callSi X (r := r5) (u1 := u1) [.int (z_gI u1 1 (1 : Int32).toNatClampNeg)] [] (w_X10_bits l g (z_gI u1 1 (1 : Int32).toNatClampNeg) u1 er5) gX10_drop_X10_bits hy_X10_bits.2 rfl (z_le1 hR (by decide)) (z_le2 hR (by decide) (by decide)) (Nat.le_of_ble_eq_true rfl) dX10_drop_21 (z_iconst X (v := 1) dX10_drop_24 (by decide) (z_icmp_ne X 31 dX10_drop_25 (by decide) (fun c6 => ?_) (fun c6 => ?_)))))))
    · replace h := z_in c6 h
      obtain ⟨r7, er7, h⟩ := z_bs h
      obtain ⟨b8, h⟩ := z_gs h
      obtain ⟨b9, h⟩ := z_gs h
      obtain ⟨u10, eu10, h⟩ := z_ls h
      obtain ⟨b11, h⟩ := z_gs h
      obtain ⟨r12, er12, h⟩ := z_bs h
      refine z_aload_n X 0 dX10_drop_31 rfl rfl (z_callVv X (u1 := r7) [] [] (w_X10_remember l g u1 er7) z_r0 rfl gX10_drop_X10_remember hy_X10_remember rfl (z_le1 hR (by decide)) (z_le2 hR (by decide) (by decide)) (Nat.le_of_ble_eq_true rfl) dX10_drop_32 (z_aload_n X 0 dX10_drop_35 rfl rfl (z_getR X (k0 := 1) z_r0 rfl in_X10_drop_X10 (by decide) rfl rfl lk_X10_drop_9 dX10_drop_36 (z_iconst X (v := 1) dX10_drop_39 (by decide) (z_dup2 X dX10_drop_40 rfl rfl (z_iald X z_r1 (z_inS b8) dX10_drop_41 (z_iconst X (v := 1) dX10_drop_42 (by decide) (z_iload_n X 1 dX10_drop_43 rfl rfl (z_ishl X dX10_drop_44 (z_ixor X dX10_drop_45 (z_iast X z_r1 (z_inS b9) dX10_drop_46 (z_nm eu10 (z_aload_n X 0 dX10_drop_47 rfl rfl (z_getR X (k0 := 1) z_r0 rfl in_X10_drop_X10 (by decide) rfl rfl lk_X10_drop_9 dX10_drop_48 (z_iconst X (v := 1) dX10_drop_51 (by decide) (z_iald X z_r1 (z_inS b11) dX10_drop_52 (z_callSi X (r := r12) (u1 := u10) [.int (z_gI u10 1 (1 : Int32).toNatClampNeg)] [] (w_X10_bits l g (z_gI u10 1 (1 : Int32).toNatClampNeg) u10 er12) gX10_drop_X10_bits hy_X10_bits.2 rfl (z_le1 hR (by decide)) (z_le2 hR (by decide) (by decide)) (Nat.le_of_ble_eq_true rfl) dX10_drop_53 ?_)))))))))))))))))
      cases h; exact z_iret X rfl dX10_drop_56 ⟨rfl, rfl⟩
    · replace h := z_ip c6 h
      refine z_bipush X (v := (-2)) dX10_drop_28 (by decide) ?_
      cases h; exact z_iret X rfl dX10_drop_30 ⟨rfl, rfl⟩
  · replace h := z_ip c3 h
    refine z_iconst X (v := (-1)) dX10_drop_13 (by decide) ?_
    cases h; exact z_iret X rfl dX10_drop_14 ⟨rfl, rfl⟩

theorem lk_X10_undo_82 : (Cond.fieldLink RX10 82 RX10 (TX10 0).2.1 (TX10 0).2.2.1) ∈ wsX10_undo := by decide +kernel
theorem in_X10_undo_X10 : ∀ w ∈ u_ws RX10 TX10 30, w ∈ wsX10_undo := by decide +kernel
theorem lk_X10_undo_113 : (Cond.fieldLink RX10 113 RX10 (TX10 4).2.1 (TX10 4).2.2.1) ∈ wsX10_undo := by decide +kernel
theorem lk_X10_undo_9 : (Cond.fieldLink RX10 9 RX10 (TX10 1).2.1 (TX10 1).2.2.1) ∈ wsX10_undo := by decide +kernel
theorem lk_X10_undo_18 : (Cond.fieldLink RX10 18 RX10 (TX10 3).2.1 (TX10 3).2.2.1) ∈ wsX10_undo := by decide +kernel
def b_X10_undo_36  : (Int32 × z_M) → ((Int32 × z_M) → Option (Int32 × z_M)) → (z_M → Option (Int32 × z_M)) → Option (Int32 × z_M) := fun q kb kx =>
  if 93 ≤ q.1 then (kx q.2) else (z_gd (z_inb ((93 * (z_gI q.2 0 4)) + q.1) 1488) (z_gd (z_inb q.1 93) (z_lt (z_sI q.2 1 q.1.toNatClampNeg (z_gI q.2 3 ((93 * (z_gI q.2 0 4)) + q.1).toNatClampNeg)) (fun u9 => kb (q.1 + 1, u9)))))
def f_X10_undo (u : z_M) : Option (Int32 × z_M) :=
  z_lt (z_sI u 0 0 0) (fun u1 => Option.bind (f_X10_isTold u1) (fun r2 => if r2 = 0 then (some ((-1), u1)) else (if (z_gI u1 0 4) = 0 then (some ((-2), u1)) else (z_lt (z_sI u1 0 4 ((z_gI u1 0 4) - 1)) (fun u5 => z_lp b_X10_undo_36 z_F (0, u5) (fun t10 => some (z_gI t10 0 4, t10)))))))
set_option maxRecDepth 20000 in
set_option maxHeartbeats 4000000 in
theorem wb_X10_undo_36 {p : Program} {l : Launch} {e : Env} {R : Room} {s : State} {m : MethodId} {args : Array Value} {below : List Frame} {meth : Method} {c : Code} {g : z_G} {u : z_M} {res : Int32 × z_M} (hR : R = z_rm 2) (X : z_X p R s m args meth c cX10_undo 2 RX10 wsX10_undo (some .int) g z_shR)  (q : Int32 × z_M) (kb : (Int32 × z_M) → Option (Int32 × z_M)) (kx : z_M → Option (Int32 × z_M)) (hkb : ∀ q, kb q = some res → z_V p l e R s m args below meth c 2 g z_shR (MQ below (z_Qc g z_shR (fun v u' => v = some (.int res.1) ∧ u' = res.2)) args s 0 0 (z_A g z_shR)) 36 [(0, .ref (z_ad g 0)), (1, .int q.1)] [] q.2) (hkx : ∀ t, kx t = some res → z_V p l e R s m args below meth c 2 g z_shR (MQ below (z_Qc g z_shR (fun v u' => v = some (.int res.1) ∧ u' = res.2)) args s 0 0 (z_A g z_shR)) 68 [(0, .ref (z_ad g 0))] [] t) (h : b_X10_undo_36 q kb kx = some res) : z_V p l e R s m args below meth c 2 g z_shR (MQ below (z_Qc g z_shR (fun v u' => v = some (.int res.1) ∧ u' = res.2)) args s 0 0 (z_A g z_shR)) 36 [(0, .ref (z_ad g 0)), (1, .int q.1)] [] q.2 := by
  unfold b_X10_undo_36 at h
  refine z_iload_n X 1 dX10_undo_36 rfl rfl (z_bipush X (v := 93) dX10_undo_37 (by decide) (z_icmp_ge X 68 dX10_undo_39 (by decide) (fun c6 => ?_) (fun c6 => ?_)))
  · replace h := z_ip c6 h
    refine z_sub [0] [(0, .ref (z_ad g 0))] rfl ?_
    exact hkx q.2 h
  · replace h := z_in c6 h
    obtain ⟨b7, h⟩ := z_gs h
    obtain ⟨b8, h⟩ := z_gs h
    obtain ⟨u9, eu9, h⟩ := z_ls h
    refine z_aload_n X 0 dX10_undo_42 rfl rfl (z_getR X (k0 := 1) z_r0 rfl in_X10_undo_X10 (by decide) rfl rfl lk_X10_undo_9 dX10_undo_43 (z_iload_n X 1 dX10_undo_46 rfl rfl (z_aload_n X 0 dX10_undo_47 rfl rfl (z_getR X (k0 := 3) z_r0 rfl in_X10_undo_X10 (by decide) rfl rfl lk_X10_undo_18 dX10_undo_48 (z_bipush X (v := 93) dX10_undo_51 (by decide) (z_aload_n X 0 dX10_undo_53 rfl rfl (z_getI X (k0 := 4) z_r0 rfl in_X10_undo_X10 (by decide) rfl rfl lk_X10_undo_113 dX10_undo_54 (z_imul X dX10_undo_57 (z_iload_n X 1 dX10_undo_58 rfl rfl (z_iadd X dX10_undo_59 (z_iald X z_r3 (z_inS b7) dX10_undo_60 (z_iast X z_r1 (z_inS b8) dX10_undo_61 (z_nm eu9 (z_iinc X (v := q.1 + 1) 1 [(1, .int (q.1 + 1)), (0, .ref (z_ad g 0))] dX10_undo_62 rfl rfl (by decide) rfl (z_goto X 36 dX10_undo_65 (by decide) (z_sub [1, 0] [(0, .ref (z_ad g 0)), (1, .int (q.1 + 1))] rfl ?_))))))))))))))))
    exact hkb (q.1 + 1, u9) h
set_option maxRecDepth 20000 in
set_option maxHeartbeats 4000000 in
theorem w_X10_undo (l : Launch) (g : z_G)  (u : z_M) {res : Int32 × z_M} (h : f_X10_undo u = some res) : z_C l g z_shR yX10_undo wsX10_undo 2 [.ref (z_ad g 0)] u (fun v u' => v = some (.int res.1) ∧ u' = res.2) := by
  refine z_C.mk (lv := [(0, .ref (z_ad g 0))]) (cc := cX10_undo) (nL := 2) (rt := (some .int)) rfl (by decide) (Nat.le_of_ble_eq_true rfl) rfl (fun p e R s m args below meth c hR X => ?_)
  unfold f_X10_undo at h
  obtain ⟨u1, eu1, h⟩ := z_ls h
  obtain ⟨r2, er2, h⟩ := z_bs h
  refine z_aload_n X 0 dX10_undo_0 rfl rfl (z_iconst X (v := 0) dX10_undo_1 (by decide) (z_putI X (k0 := 0) (ty0 := tyX10) z_r0 rfl in_X10_undo_X10 tyX10_ok nmX10 (by decide) rfl rfl rfl rfl rfl lk_X10_undo_82 dX10_undo_2 (z_nm eu1 (z_aload_n X 0 dX10_undo_5 rfl rfl (z_callVi X (r := r2) (u1 := u1) [] [] (w_X10_isTold l g u1 er2) z_r0 rfl gX10_undo_X10_isTold hy_X10_isTold rfl (z_le1 hR (by decide)) (z_le2 hR (by decide) (by decide)) (Nat.le_of_ble_eq_true rfl) dX10_undo_6 (z_if_ne X 14 dX10_undo_9 (by decide) (fun c3 => ?_) (fun c3 => ?_)))))))
  · replace h := z_in c3 h
    refine z_aload_n X 0 dX10_undo_14 rfl rfl (z_getI X (k0 := 4) z_r0 rfl in_X10_undo_X10 (by decide) rfl rfl lk_X10_undo_113 dX10_undo_15 (z_if_ne X 24 dX10_undo_18 (by decide) (fun c4 => ?_) (fun c4 => ?_)))
    · replace h := z_in c4 h
      obtain ⟨u5, eu5, h⟩ := z_ls h
      refine z_aload_n X 0 dX10_undo_24 rfl rfl (z_dup X dX10_undo_25 rfl (z_getI X (k0 := 4) z_r0 rfl in_X10_undo_X10 (by decide) rfl rfl lk_X10_undo_113 dX10_undo_26 (z_iconst X (v := 1) dX10_undo_29 (by decide) (z_isub X dX10_undo_30 (z_putI X (k0 := 4) (ty0 := tyX10) z_r0 rfl in_X10_undo_X10 tyX10_ok nmX10 (by decide) rfl rfl rfl rfl rfl lk_X10_undo_113 dX10_undo_31 (z_nm eu5 (z_iconst X (v := 0) dX10_undo_34 (by decide) (z_istore_n X [(1, .int 0), (0, .ref (z_ad g 0))] dX10_undo_35 rfl (by decide) rfl (z_sub [1, 0] [(0, .ref (z_ad g 0)), (1, .int 0)] rfl ?_)))))))))
      have hw := z_lp_w (fun q9 kb9 kx9 h1 h2 h3 => wb_X10_undo_36 (l := l) (e := e) (below := below) (u := u5) hR X q9 kb9 kx9 h1 h2 h3) z_F _ _ h
      refine hw (fun t10 h => ?_)
      refine z_aload_n X 0 dX10_undo_68 rfl rfl (z_getI X (k0 := 4) z_r0 rfl in_X10_undo_X10 (by decide) rfl rfl lk_X10_undo_113 dX10_undo_69 ?_)
      cases h; exact z_iret X rfl dX10_undo_72 ⟨rfl, rfl⟩
    · replace h := z_ip c4 h
      refine z_bipush X (v := (-2)) dX10_undo_21 (by decide) ?_
      cases h; exact z_iret X rfl dX10_undo_23 ⟨rfl, rfl⟩
  · replace h := z_ip c3 h
    refine z_iconst X (v := (-1)) dX10_undo_12 (by decide) ?_
    cases h; exact z_iret X rfl dX10_undo_13 ⟨rfl, rfl⟩

theorem lk_X10_keep_82 : (Cond.fieldLink RX10 82 RX10 (TX10 0).2.1 (TX10 0).2.2.1) ∈ wsX10_keep := by decide +kernel
theorem in_X10_keep_X10 : ∀ w ∈ u_ws RX10 TX10 30, w ∈ wsX10_keep := by decide +kernel
theorem lk_X10_keep_21 : (Cond.fieldLink RX10 21 RX10 (TX10 5).2.1 (TX10 5).2.2.1) ∈ wsX10_keep := by decide +kernel
theorem lk_X10_keep_9 : (Cond.fieldLink RX10 9 RX10 (TX10 1).2.1 (TX10 1).2.2.1) ∈ wsX10_keep := by decide +kernel
theorem lk_X10_keep_24 : (Cond.fieldLink RX10 24 RX10 (TX10 6).2.1 (TX10 6).2.2.1) ∈ wsX10_keep := by decide +kernel
def b_X10_keep_26 (x1 : Int32) : (Int32 × z_M) → ((Int32 × z_M) → Option (Int32 × z_M)) → (z_M → Option (Int32 × z_M)) → Option (Int32 × z_M) := fun q kb kx =>
  if 93 ≤ q.1 then (kx q.2) else (z_gd (z_inb q.1 93) (z_gd (z_inb ((93 * x1) + q.1) 186) (z_lt (z_sI q.2 4 ((93 * x1) + q.1).toNatClampNeg (z_gI q.2 1 q.1.toNatClampNeg)) (fun u9 => kb (q.1 + 1, u9)))))
def f_X10_keep (a1 : Int32) (u : z_M) : Option (Int32 × z_M) :=
  z_lt (z_sI u 0 0 0) (fun u1 => Option.bind (f_X10_isIn a1.toInt64 0 1) (fun r2 => if r2 = 0 then (some (0, u1)) else (Option.bind (f_X10_isTold u1) (fun r4 => if r4 = 0 then (some (0, u1)) else (z_lp (b_X10_keep_26 a1) z_F (0, u1) (fun t10 => z_gd (z_inb a1 2) (z_lt (z_sI t10 5 a1.toNatClampNeg (vp_nar .boolean 1)) (fun u12 => some (1, u12)))))))))
set_option maxRecDepth 20000 in
set_option maxHeartbeats 4000000 in
theorem wb_X10_keep_26 {p : Program} {l : Launch} {e : Env} {R : Room} {s : State} {m : MethodId} {args : Array Value} {below : List Frame} {meth : Method} {c : Code} {g : z_G} {u : z_M} {res : Int32 × z_M} (hR : R = z_rm 2) (X : z_X p R s m args meth c cX10_keep 3 RX10 wsX10_keep (some .boolean) g z_shR) (x1 : Int32) (q : Int32 × z_M) (kb : (Int32 × z_M) → Option (Int32 × z_M)) (kx : z_M → Option (Int32 × z_M)) (hkb : ∀ q, kb q = some res → z_V p l e R s m args below meth c 3 g z_shR (MQ below (z_Qc g z_shR (fun v u' => v = some (.int res.1) ∧ u' = res.2)) args s 0 0 (z_A g z_shR)) 26 [(0, .ref (z_ad g 0)), (1, .int x1), (2, .int q.1)] [] q.2) (hkx : ∀ t, kx t = some res → z_V p l e R s m args below meth c 3 g z_shR (MQ below (z_Qc g z_shR (fun v u' => v = some (.int res.1) ∧ u' = res.2)) args s 0 0 (z_A g z_shR)) 55 [(0, .ref (z_ad g 0)), (1, .int x1)] [] t) (h : b_X10_keep_26 x1 q kb kx = some res) : z_V p l e R s m args below meth c 3 g z_shR (MQ below (z_Qc g z_shR (fun v u' => v = some (.int res.1) ∧ u' = res.2)) args s 0 0 (z_A g z_shR)) 26 [(0, .ref (z_ad g 0)), (1, .int x1), (2, .int q.1)] [] q.2 := by
  unfold b_X10_keep_26 at h
  refine z_iload_n X 2 dX10_keep_26 rfl rfl (z_bipush X (v := 93) dX10_keep_27 (by decide) (z_icmp_ge X 55 dX10_keep_29 (by decide) (fun c6 => ?_) (fun c6 => ?_)))
  · replace h := z_ip c6 h
    refine z_sub [0, 1] [(0, .ref (z_ad g 0)), (1, .int x1)] rfl ?_
    exact hkx q.2 h
  · replace h := z_in c6 h
    obtain ⟨b7, h⟩ := z_gs h
    obtain ⟨b8, h⟩ := z_gs h
    obtain ⟨u9, eu9, h⟩ := z_ls h
    refine z_aload_n X 0 dX10_keep_32 rfl rfl (z_getR X (k0 := 5) z_r0 rfl in_X10_keep_X10 (by decide) rfl rfl lk_X10_keep_21 dX10_keep_33 (z_bipush X (v := 93) dX10_keep_36 (by decide) (z_iload_n X 1 dX10_keep_38 rfl rfl (z_imul X dX10_keep_39 (z_iload_n X 2 dX10_keep_40 rfl rfl (z_iadd X dX10_keep_41 (z_aload_n X 0 dX10_keep_42 rfl rfl (z_getR X (k0 := 1) z_r0 rfl in_X10_keep_X10 (by decide) rfl rfl lk_X10_keep_9 dX10_keep_43 (z_iload_n X 2 dX10_keep_46 rfl rfl (z_iald X z_r1 (z_inS b7) dX10_keep_47 (z_iast X z_r4 (z_inS b8) dX10_keep_48 (z_nm eu9 (z_iinc X (v := q.1 + 1) 2 [(2, .int (q.1 + 1)), (0, .ref (z_ad g 0)), (1, .int x1)] dX10_keep_49 rfl rfl (by decide) rfl (z_goto X 26 dX10_keep_52 (by decide) (z_sub [1, 2, 0] [(0, .ref (z_ad g 0)), (1, .int x1), (2, .int (q.1 + 1))] rfl ?_)))))))))))))))
    exact hkb (q.1 + 1, u9) h
set_option maxRecDepth 20000 in
set_option maxHeartbeats 4000000 in
theorem w_X10_keep (l : Launch) (g : z_G) (a1 : Int32) (u : z_M) {res : Int32 × z_M} (h : f_X10_keep a1 u = some res) : z_C l g z_shR yX10_keep wsX10_keep 2 [.ref (z_ad g 0), .int a1] u (fun v u' => v = some (.int res.1) ∧ u' = res.2) := by
  refine z_C.mk (lv := [(0, .ref (z_ad g 0)), (1, .int a1)]) (cc := cX10_keep) (nL := 3) (rt := (some .boolean)) rfl (by decide) (Nat.le_of_ble_eq_true rfl) rfl (fun p e R s m args below meth c hR X => ?_)
  unfold f_X10_keep at h
  obtain ⟨u1, eu1, h⟩ := z_ls h
  obtain ⟨r2, er2, h⟩ := z_bs h
  refine z_aload_n X 0 dX10_keep_0 rfl rfl (z_iconst X (v := 0) dX10_keep_1 (by decide) (z_putI X (k0 := 0) (ty0 := tyX10) z_r0 rfl in_X10_keep_X10 tyX10_ok nmX10 (by decide) rfl rfl rfl rfl rfl lk_X10_keep_82 dX10_keep_2 (z_nm eu1 (z_iload_n X 1 dX10_keep_5 rfl rfl (z_i2l X dX10_keep_6 (z_lconst X (v := 0) dX10_keep_7 (by decide) (z_lconst X (v := 1) dX10_keep_8 (by decide) (z_callSi X (r := r2) (u1 := u1) [.long a1.toInt64, .long 0, .long 1] [] (w_X10_isIn l g a1.toInt64 0 1 u1 er2) gX10_keep_X10_isIn hy_X10_isIn.2 rfl (z_le1 hR (by decide)) (z_le2 hR (by decide) (by decide)) (Nat.le_of_ble_eq_true rfl) dX10_keep_9 (z_if_eq X 22 dX10_keep_12 (by decide) (fun c3 => ?_) (fun c3 => ?_))))))))))
  · replace h := z_ip c3 h
    refine z_iconst X (v := 0) dX10_keep_22 (by decide) ?_
    cases h; exact z_zret X rfl rfl dX10_keep_23 ⟨rfl, rfl⟩
  · replace h := z_in c3 h
    obtain ⟨r4, er4, h⟩ := z_bs h
    refine z_aload_n X 0 dX10_keep_15 rfl rfl (z_callVi X (r := r4) (u1 := u1) [] [] (w_X10_isTold l g u1 er4) z_r0 rfl gX10_keep_X10_isTold hy_X10_isTold rfl (z_le1 hR (by decide)) (z_le2 hR (by decide) (by decide)) (Nat.le_of_ble_eq_true rfl) dX10_keep_16 (z_if_ne X 24 dX10_keep_19 (by decide) (fun c5 => ?_) (fun c5 => ?_)))
    · replace h := z_in c5 h
      refine z_iconst X (v := 0) dX10_keep_24 (by decide) (z_istore_n X [(2, .int 0), (0, .ref (z_ad g 0)), (1, .int a1)] dX10_keep_25 rfl (by decide) rfl (z_sub [1, 2, 0] [(0, .ref (z_ad g 0)), (1, .int a1), (2, .int 0)] rfl ?_))
      have hw := z_lp_w (fun q9 kb9 kx9 h1 h2 h3 => wb_X10_keep_26 (l := l) (e := e) (below := below) (u := u1) hR X a1 q9 kb9 kx9 h1 h2 h3) z_F _ _ h
      refine hw (fun t10 h => ?_)
      obtain ⟨b11, h⟩ := z_gs h
      obtain ⟨u12, eu12, h⟩ := z_ls h
      refine z_aload_n X 0 dX10_keep_55 rfl rfl (z_getR X (k0 := 6) z_r0 rfl in_X10_keep_X10 (by decide) rfl rfl lk_X10_keep_24 dX10_keep_56 (z_iload_n X 1 dX10_keep_59 rfl rfl (z_iconst X (v := 1) dX10_keep_60 (by decide) (z_zast X z_r5 (z_inS b11) dX10_keep_61 (z_nm eu12 (z_iconst X (v := 1) dX10_keep_62 (by decide) ?_))))))
      cases h; exact z_zret X rfl rfl dX10_keep_63 ⟨rfl, rfl⟩
    · replace h := z_ip c5 h
      refine z_iconst X (v := 0) dX10_keep_22 (by decide) ?_
      cases h; exact z_zret X rfl rfl dX10_keep_23 ⟨rfl, rfl⟩

theorem lk_X10_again_82 : (Cond.fieldLink RX10 82 RX10 (TX10 0).2.1 (TX10 0).2.2.1) ∈ wsX10_again := by decide +kernel
theorem in_X10_again_X10 : ∀ w ∈ u_ws RX10 TX10 30, w ∈ wsX10_again := by decide +kernel
theorem lk_X10_again_24 : (Cond.fieldLink RX10 24 RX10 (TX10 6).2.1 (TX10 6).2.2.1) ∈ wsX10_again := by decide +kernel
theorem lk_X10_again_9 : (Cond.fieldLink RX10 9 RX10 (TX10 1).2.1 (TX10 1).2.2.1) ∈ wsX10_again := by decide +kernel
theorem lk_X10_again_21 : (Cond.fieldLink RX10 21 RX10 (TX10 5).2.1 (TX10 5).2.2.1) ∈ wsX10_again := by decide +kernel
def b_X10_again_32 (x1 : Int32) : (Int32 × z_M) → ((Int32 × z_M) → Option (Int32 × z_M)) → (z_M → Option (Int32 × z_M)) → Option (Int32 × z_M) := fun q kb kx =>
  if 93 ≤ q.1 then (kx q.2) else (z_gd (z_inb ((93 * x1) + q.1) 186) (z_gd (z_inb q.1 93) (z_lt (z_sI q.2 1 q.1.toNatClampNeg (z_gI q.2 4 ((93 * x1) + q.1).toNatClampNeg)) (fun u10 => kb (q.1 + 1, u10)))))
def f_X10_again (a1 : Int32) (u : z_M) : Option (Int32 × z_M) :=
  z_lt (z_sI u 0 0 0) (fun u1 => Option.bind (f_X10_isIn a1.toInt64 0 1) (fun r2 => if r2 = 0 then (some (0, u1)) else (z_gd (z_inb a1 2) (if (z_gI u1 5 a1.toNatClampNeg) = 0 then (some (0, u1)) else (Option.bind (f_X10_remember u1) (fun r6 => z_lp (b_X10_again_32 a1) z_F (0, r6) (fun t11 => some (1, t11))))))))
set_option maxRecDepth 20000 in
set_option maxHeartbeats 4000000 in
theorem wb_X10_again_32 {p : Program} {l : Launch} {e : Env} {R : Room} {s : State} {m : MethodId} {args : Array Value} {below : List Frame} {meth : Method} {c : Code} {g : z_G} {u : z_M} {res : Int32 × z_M} (hR : R = z_rm 2) (X : z_X p R s m args meth c cX10_again 3 RX10 wsX10_again (some .boolean) g z_shR) (x1 : Int32) (q : Int32 × z_M) (kb : (Int32 × z_M) → Option (Int32 × z_M)) (kx : z_M → Option (Int32 × z_M)) (hkb : ∀ q, kb q = some res → z_V p l e R s m args below meth c 3 g z_shR (MQ below (z_Qc g z_shR (fun v u' => v = some (.int res.1) ∧ u' = res.2)) args s 0 0 (z_A g z_shR)) 32 [(0, .ref (z_ad g 0)), (1, .int x1), (2, .int q.1)] [] q.2) (hkx : ∀ t, kx t = some res → z_V p l e R s m args below meth c 3 g z_shR (MQ below (z_Qc g z_shR (fun v u' => v = some (.int res.1) ∧ u' = res.2)) args s 0 0 (z_A g z_shR)) 61 [] [] t) (h : b_X10_again_32 x1 q kb kx = some res) : z_V p l e R s m args below meth c 3 g z_shR (MQ below (z_Qc g z_shR (fun v u' => v = some (.int res.1) ∧ u' = res.2)) args s 0 0 (z_A g z_shR)) 32 [(0, .ref (z_ad g 0)), (1, .int x1), (2, .int q.1)] [] q.2 := by
  unfold b_X10_again_32 at h
  refine z_iload_n X 2 dX10_again_32 rfl rfl (z_bipush X (v := 93) dX10_again_33 (by decide) (z_icmp_ge X 61 dX10_again_35 (by decide) (fun c7 => ?_) (fun c7 => ?_)))
  · replace h := z_ip c7 h
    refine z_sub [] [] rfl ?_
    exact hkx q.2 h
  · replace h := z_in c7 h
    obtain ⟨b8, h⟩ := z_gs h
    obtain ⟨b9, h⟩ := z_gs h
    obtain ⟨u10, eu10, h⟩ := z_ls h
    refine z_aload_n X 0 dX10_again_38 rfl rfl (z_getR X (k0 := 1) z_r0 rfl in_X10_again_X10 (by decide) rfl rfl lk_X10_again_9 dX10_again_39 (z_iload_n X 2 dX10_again_42 rfl rfl (z_aload_n X 0 dX10_again_43 rfl rfl (z_getR X (k0 := 5) z_r0 rfl in_X10_again_X10 (by decide) rfl rfl lk_X10_again_21 dX10_again_44 (z_bipush X (v := 93) dX10_again_47 (by decide) (z_iload_n X 1 dX10_again_49 rfl rfl (z_imul X dX10_again_50 (z_iload_n X 2 dX10_again_51 rfl rfl (z_iadd X dX10_again_52 (z_iald X z_r4 (z_inS b8) dX10_again_53 (z_iast X z_r1 (z_inS b9) dX10_again_54 (z_nm eu10 (z_iinc X (v := q.1 + 1) 2 [(2, .int (q.1 + 1)), (0, .ref (z_ad g 0)), (1, .int x1)] dX10_again_55 rfl rfl (by decide) rfl (z_goto X 32 dX10_again_58 (by decide) (z_sub [1, 2, 0] [(0, .ref (z_ad g 0)), (1, .int x1), (2, .int (q.1 + 1))] rfl ?_)))))))))))))))
    exact hkb (q.1 + 1, u10) h
set_option maxRecDepth 20000 in
set_option maxHeartbeats 4000000 in
theorem w_X10_again (l : Launch) (g : z_G) (a1 : Int32) (u : z_M) {res : Int32 × z_M} (h : f_X10_again a1 u = some res) : z_C l g z_shR yX10_again wsX10_again 2 [.ref (z_ad g 0), .int a1] u (fun v u' => v = some (.int res.1) ∧ u' = res.2) := by
  refine z_C.mk (lv := [(0, .ref (z_ad g 0)), (1, .int a1)]) (cc := cX10_again) (nL := 3) (rt := (some .boolean)) rfl (by decide) (Nat.le_of_ble_eq_true rfl) rfl (fun p e R s m args below meth c hR X => ?_)
  unfold f_X10_again at h
  obtain ⟨u1, eu1, h⟩ := z_ls h
  obtain ⟨r2, er2, h⟩ := z_bs h
  refine z_aload_n X 0 dX10_again_0 rfl rfl (z_iconst X (v := 0) dX10_again_1 (by decide) (z_putI X (k0 := 0) (ty0 := tyX10) z_r0 rfl in_X10_again_X10 tyX10_ok nmX10 (by decide) rfl rfl rfl rfl rfl lk_X10_again_82 dX10_again_2 (z_nm eu1 (z_iload_n X 1 dX10_again_5 rfl rfl (z_i2l X dX10_again_6 (z_lconst X (v := 0) dX10_again_7 (by decide) (z_lconst X (v := 1) dX10_again_8 (by decide) (z_callSi X (r := r2) (u1 := u1) [.long a1.toInt64, .long 0, .long 1] [] (w_X10_isIn l g a1.toInt64 0 1 u1 er2) gX10_again_X10_isIn hy_X10_isIn.2 rfl (z_le1 hR (by decide)) (z_le2 hR (by decide) (by decide)) (Nat.le_of_ble_eq_true rfl) dX10_again_9 (z_if_eq X 24 dX10_again_12 (by decide) (fun c3 => ?_) (fun c3 => ?_))))))))))
  · replace h := z_ip c3 h
    refine z_iconst X (v := 0) dX10_again_24 (by decide) ?_
    cases h; exact z_zret X rfl rfl dX10_again_25 ⟨rfl, rfl⟩
  · replace h := z_in c3 h
    obtain ⟨b4, h⟩ := z_gs h
    refine z_aload_n X 0 dX10_again_15 rfl rfl (z_getR X (k0 := 6) z_r0 rfl in_X10_again_X10 (by decide) rfl rfl lk_X10_again_24 dX10_again_16 (z_iload_n X 1 dX10_again_19 rfl rfl (z_zald X z_r5 (z_inS b4) dX10_again_20 (z_if_ne X 26 dX10_again_21 (by decide) (fun c5 => ?_) (fun c5 => ?_)))))
    · replace h := z_in c5 h
      obtain ⟨r6, er6, h⟩ := z_bs h
      refine z_aload_n X 0 dX10_again_26 rfl rfl (z_callVv X (u1 := r6) [] [] (w_X10_remember l g u1 er6) z_r0 rfl gX10_again_X10_remember hy_X10_remember rfl (z_le1 hR (by decide)) (z_le2 hR (by decide) (by decide)) (Nat.le_of_ble_eq_true rfl) dX10_again_27 (z_iconst X (v := 0) dX10_again_30 (by decide) (z_istore_n X [(2, .int 0), (0, .ref (z_ad g 0)), (1, .int a1)] dX10_again_31 rfl (by decide) rfl (z_sub [1, 2, 0] [(0, .ref (z_ad g 0)), (1, .int a1), (2, .int 0)] rfl ?_))))
      have hw := z_lp_w (fun q9 kb9 kx9 h1 h2 h3 => wb_X10_again_32 (l := l) (e := e) (below := below) (u := r6) hR X a1 q9 kb9 kx9 h1 h2 h3) z_F _ _ h
      refine hw (fun t11 h => ?_)
      refine z_iconst X (v := 1) dX10_again_61 (by decide) ?_
      cases h; exact z_zret X rfl rfl dX10_again_62 ⟨rfl, rfl⟩
    · replace h := z_ip c5 h
      refine z_iconst X (v := 0) dX10_again_24 (by decide) ?_
      cases h; exact z_zret X rfl rfl dX10_again_25 ⟨rfl, rfl⟩

theorem lk_X10_coverers_9 : (Cond.fieldLink RX10 9 RX10 (TX10 1).2.1 (TX10 1).2.2.1) ∈ wsX10_coverers := by decide +kernel
theorem in_X10_coverers_X10 : ∀ w ∈ u_ws RX10 TX10 30, w ∈ wsX10_coverers := by decide +kernel
theorem hy_X10_covers : yX10_covers.cls = RX10 ∧ yX10_covers.cls ≠ "java/lang/invoke/MethodHandle" ∧ yX10_covers.cls ≠ "java/lang/invoke/VarHandle" ∧ (parseMethodDescriptor yX10_covers.desc).map (fun d => d.parameters.length) = some 2 := by decide +kernel
def b_X10_coverers_4 (x1 : Int32) (u : z_M) : (Int32 × Int32) → ((Int32 × Int32) → Option (Int32)) → (Int32 → Option (Int32)) → Option (Int32) := fun q kb kx =>
  if 9 ≤ q.2 then (kx q.1) else (z_gd (z_inb 1 93) (Option.bind (f_X10_has (z_gI u 1 (1 : Int32).toNatClampNeg) q.2) (fun r3 => if r3 = 0 then (z_lt (q.1 ||| 0) (fun v5 => kb (v5, q.2 + 1))) else (Option.bind (f_X10_covers q.2 x1 u) (fun r6 => if r6 = 0 then (z_lt (q.1 ||| 0) (fun v8 => kb (v8, q.2 + 1))) else (z_lt (q.1 ||| (1 <<< (q.2 &&& 31))) (fun v9 => kb (v9, q.2 + 1))))))))
def f_X10_coverers (a1 : Int32) (u : z_M) : Option (Int32) :=
  z_lp (b_X10_coverers_4 a1 u) z_F (0, 0) (fun t10 => some t10)
set_option maxRecDepth 20000 in
set_option maxHeartbeats 4000000 in
theorem wb_X10_coverers_4 {p : Program} {l : Launch} {e : Env} {R : Room} {s : State} {m : MethodId} {args : Array Value} {below : List Frame} {meth : Method} {c : Code} {g : z_G} {u : z_M} {res : Int32} (hR : R = z_rm 5) (X : z_X p R s m args meth c cX10_coverers 4 RX10 wsX10_coverers (some .int) g z_shR) (x1 : Int32) (q : Int32 × Int32) (kb : (Int32 × Int32) → Option (Int32)) (kx : Int32 → Option (Int32)) (hkb : ∀ q, kb q = some res → z_V p l e R s m args below meth c 4 g z_shR (MQ below (z_Qc g z_shR (fun v u' => v = some (.int res) ∧ u' = u)) args s 0 0 (z_A g z_shR)) 4 [(0, .ref (z_ad g 0)), (1, .int x1), (2, .int q.1), (3, .int q.2)] [] u) (hkx : ∀ t, kx t = some res → z_V p l e R s m args below meth c 4 g z_shR (MQ below (z_Qc g z_shR (fun v u' => v = some (.int res) ∧ u' = u)) args s 0 0 (z_A g z_shR)) 48 [(2, .int t)] [] u) (h : b_X10_coverers_4 x1 u q kb kx = some res) : z_V p l e R s m args below meth c 4 g z_shR (MQ below (z_Qc g z_shR (fun v u' => v = some (.int res) ∧ u' = u)) args s 0 0 (z_A g z_shR)) 4 [(0, .ref (z_ad g 0)), (1, .int x1), (2, .int q.1), (3, .int q.2)] [] u := by
  unfold b_X10_coverers_4 at h
  refine z_iload_n X 3 dX10_coverers_4 rfl rfl (z_bipush X (v := 9) dX10_coverers_5 (by decide) (z_icmp_ge X 48 dX10_coverers_7 (by decide) (fun c1 => ?_) (fun c1 => ?_)))
  · replace h := z_ip c1 h
    refine z_sub [2] [(2, .int q.1)] rfl ?_
    exact hkx q.1 h
  · replace h := z_in c1 h
    obtain ⟨b2, h⟩ := z_gs h
    obtain ⟨r3, er3, h⟩ := z_bs h
    refine z_iload_n X 2 dX10_coverers_10 rfl rfl (z_aload_n X 0 dX10_coverers_11 rfl rfl (z_getR X (k0 := 1) z_r0 rfl in_X10_coverers_X10 (by decide) rfl rfl lk_X10_coverers_9 dX10_coverers_12 (z_iconst X (v := 1) dX10_coverers_15 (by decide) (z_iald X z_r1 (z_inS b2) dX10_coverers_16 (z_iload_n X 3 dX10_coverers_17 rfl rfl (z_callSi X (r := r3) (u1 := u) [.int (z_gI u 1 (1 : Int32).toNatClampNeg), .int q.2] [.int q.1] (w_X10_has l g (z_gI u 1 (1 : Int32).toNatClampNeg) q.2 u er3) gX10_coverers_X10_has hy_X10_has.2 rfl (z_le1 hR (by decide)) (z_le2 hR (by decide) (by decide)) (Nat.le_of_ble_eq_true rfl) dX10_coverers_18 (z_if_eq X 39 dX10_coverers_21 (by decide) (fun c4 => ?_) (fun c4 => ?_))))))))
    · replace h := z_ip c4 h
      obtain ⟨v5, ev5, h⟩ := z_ls h
      refine z_iconst X (v := 0) dX10_coverers_39 (by decide) (z_ior X dX10_coverers_40 (z_ti ev5 (z_istore_n X [(2, .int v5), (0, .ref (z_ad g 0)), (1, .int x1), (3, .int q.2)] dX10_coverers_41 rfl (by decide) rfl (z_iinc X (v := q.2 + 1) 3 [(3, .int (q.2 + 1)), (2, .int v5), (0, .ref (z_ad g 0)), (1, .int x1)] dX10_coverers_42 rfl rfl (by decide) rfl (z_goto X 4 dX10_coverers_45 (by decide) (z_sub [2, 3, 1, 0] [(0, .ref (z_ad g 0)), (1, .int x1), (2, .int v5), (3, .int (q.2 + 1))] rfl ?_))))))
      exact hkb (v5, q.2 + 1) h
    · replace h := z_in c4 h
      obtain ⟨r6, er6, h⟩ := z_bs h
      refine z_aload_n X 0 dX10_coverers_24 rfl rfl (z_iload_n X 3 dX10_coverers_25 rfl rfl (z_iload_n X 1 dX10_coverers_26 rfl rfl (z_callVi X (r := r6) (u1 := u) [.int q.2, .int x1] [.int q.1] (w_X10_covers l g q.2 x1 u er6) z_r0 rfl gX10_coverers_X10_covers hy_X10_covers rfl (z_le1 hR (by decide)) (z_le2 hR (by decide) (by decide)) (Nat.le_of_ble_eq_true rfl) dX10_coverers_27 (z_if_eq X 39 dX10_coverers_30 (by decide) (fun c7 => ?_) (fun c7 => ?_)))))
      · replace h := z_ip c7 h
        obtain ⟨v8, ev8, h⟩ := z_ls h
        refine z_iconst X (v := 0) dX10_coverers_39 (by decide) (z_ior X dX10_coverers_40 (z_ti ev8 (z_istore_n X [(2, .int v8), (0, .ref (z_ad g 0)), (1, .int x1), (3, .int q.2)] dX10_coverers_41 rfl (by decide) rfl (z_iinc X (v := q.2 + 1) 3 [(3, .int (q.2 + 1)), (2, .int v8), (0, .ref (z_ad g 0)), (1, .int x1)] dX10_coverers_42 rfl rfl (by decide) rfl (z_goto X 4 dX10_coverers_45 (by decide) (z_sub [2, 3, 1, 0] [(0, .ref (z_ad g 0)), (1, .int x1), (2, .int v8), (3, .int (q.2 + 1))] rfl ?_))))))
        exact hkb (v8, q.2 + 1) h
      · replace h := z_in c7 h
        obtain ⟨v9, ev9, h⟩ := z_ls h
        refine z_iconst X (v := 1) dX10_coverers_33 (by decide) (z_iload_n X 3 dX10_coverers_34 rfl rfl (z_ishl X dX10_coverers_35 (z_goto X 40 dX10_coverers_36 (by decide) (z_ior X dX10_coverers_40 (z_ti ev9 (z_istore_n X [(2, .int v9), (0, .ref (z_ad g 0)), (1, .int x1), (3, .int q.2)] dX10_coverers_41 rfl (by decide) rfl (z_iinc X (v := q.2 + 1) 3 [(3, .int (q.2 + 1)), (2, .int v9), (0, .ref (z_ad g 0)), (1, .int x1)] dX10_coverers_42 rfl rfl (by decide) rfl (z_goto X 4 dX10_coverers_45 (by decide) (z_sub [2, 3, 1, 0] [(0, .ref (z_ad g 0)), (1, .int x1), (2, .int v9), (3, .int (q.2 + 1))] rfl ?_)))))))))
        exact hkb (v9, q.2 + 1) h
set_option maxRecDepth 20000 in
set_option maxHeartbeats 4000000 in
theorem w_X10_coverers (l : Launch) (g : z_G) (a1 : Int32) (u : z_M) {res : Int32} (h : f_X10_coverers a1 u = some res) : z_C l g z_shR yX10_coverers wsX10_coverers 5 [.ref (z_ad g 0), .int a1] u (fun v u' => v = some (.int res) ∧ u' = u) := by
  refine z_C.mk (lv := [(0, .ref (z_ad g 0)), (1, .int a1)]) (cc := cX10_coverers) (nL := 4) (rt := (some .int)) rfl (by decide) (Nat.le_of_ble_eq_true rfl) rfl (fun p e R s m args below meth c hR X => ?_)
  unfold f_X10_coverers at h
  refine z_iconst X (v := 0) dX10_coverers_0 (by decide) (z_istore_n X [(2, .int 0), (0, .ref (z_ad g 0)), (1, .int a1)] dX10_coverers_1 rfl (by decide) rfl (z_iconst X (v := 0) dX10_coverers_2 (by decide) (z_istore_n X [(3, .int 0), (2, .int 0), (0, .ref (z_ad g 0)), (1, .int a1)] dX10_coverers_3 rfl (by decide) rfl (z_sub [2, 3, 1, 0] [(0, .ref (z_ad g 0)), (1, .int a1), (2, .int 0), (3, .int 0)] rfl ?_))))
  have hw := z_lp_w (fun q9 kb9 kx9 h1 h2 h3 => wb_X10_coverers_4 (l := l) (e := e) (below := below) (u := u) hR X a1 q9 kb9 kx9 h1 h2 h3) z_F _ _ h
  refine hw (fun t10 h => ?_)
  refine z_iload_n X 0 dX10_coverers_48 rfl rfl ?_
  cases h; exact z_iret X rfl dX10_coverers_49 ⟨rfl, rfl⟩

theorem lk_X10_covered_9 : (Cond.fieldLink RX10 9 RX10 (TX10 1).2.1 (TX10 1).2.2.1) ∈ wsX10_covered := by decide +kernel
theorem in_X10_covered_X10 : ∀ w ∈ u_ws RX10 TX10 30, w ∈ wsX10_covered := by decide +kernel
def b_X10_covered_4 (x1 : Int32) (u : z_M) : (Int32 × Int32) → ((Int32 × Int32) → Option (Int32)) → (Int32 → Option (Int32)) → Option (Int32) := fun q kb kx =>
  if 9 ≤ q.2 then (kx q.1) else (z_gd (z_inb 1 93) (Option.bind (f_X10_has (z_gI u 1 (1 : Int32).toNatClampNeg) q.2) (fun r3 => if r3 = 0 then (z_lt (q.1 ||| 0) (fun v5 => kb (v5, q.2 + 1))) else (Option.bind (f_X10_covers x1 q.2 u) (fun r6 => if r6 = 0 then (z_lt (q.1 ||| 0) (fun v8 => kb (v8, q.2 + 1))) else (z_lt (q.1 ||| (1 <<< (q.2 &&& 31))) (fun v9 => kb (v9, q.2 + 1))))))))
def f_X10_covered (a1 : Int32) (u : z_M) : Option (Int32) :=
  z_lp (b_X10_covered_4 a1 u) z_F (0, 0) (fun t10 => some t10)
set_option maxRecDepth 20000 in
set_option maxHeartbeats 4000000 in
theorem wb_X10_covered_4 {p : Program} {l : Launch} {e : Env} {R : Room} {s : State} {m : MethodId} {args : Array Value} {below : List Frame} {meth : Method} {c : Code} {g : z_G} {u : z_M} {res : Int32} (hR : R = z_rm 5) (X : z_X p R s m args meth c cX10_covered 4 RX10 wsX10_covered (some .int) g z_shR) (x1 : Int32) (q : Int32 × Int32) (kb : (Int32 × Int32) → Option (Int32)) (kx : Int32 → Option (Int32)) (hkb : ∀ q, kb q = some res → z_V p l e R s m args below meth c 4 g z_shR (MQ below (z_Qc g z_shR (fun v u' => v = some (.int res) ∧ u' = u)) args s 0 0 (z_A g z_shR)) 4 [(0, .ref (z_ad g 0)), (1, .int x1), (2, .int q.1), (3, .int q.2)] [] u) (hkx : ∀ t, kx t = some res → z_V p l e R s m args below meth c 4 g z_shR (MQ below (z_Qc g z_shR (fun v u' => v = some (.int res) ∧ u' = u)) args s 0 0 (z_A g z_shR)) 48 [(2, .int t)] [] u) (h : b_X10_covered_4 x1 u q kb kx = some res) : z_V p l e R s m args below meth c 4 g z_shR (MQ below (z_Qc g z_shR (fun v u' => v = some (.int res) ∧ u' = u)) args s 0 0 (z_A g z_shR)) 4 [(0, .ref (z_ad g 0)), (1, .int x1), (2, .int q.1), (3, .int q.2)] [] u := by
  unfold b_X10_covered_4 at h
  refine z_iload_n X 3 dX10_covered_4 rfl rfl (z_bipush X (v := 9) dX10_covered_5 (by decide) (z_icmp_ge X 48 dX10_covered_7 (by decide) (fun c1 => ?_) (fun c1 => ?_)))
  · replace h := z_ip c1 h
    refine z_sub [2] [(2, .int q.1)] rfl ?_
    exact hkx q.1 h
  · replace h := z_in c1 h
    obtain ⟨b2, h⟩ := z_gs h
    obtain ⟨r3, er3, h⟩ := z_bs h
    refine z_iload_n X 2 dX10_covered_10 rfl rfl (z_aload_n X 0 dX10_covered_11 rfl rfl (z_getR X (k0 := 1) z_r0 rfl in_X10_covered_X10 (by decide) rfl rfl lk_X10_covered_9 dX10_covered_12 (z_iconst X (v := 1) dX10_covered_15 (by decide) (z_iald X z_r1 (z_inS b2) dX10_covered_16 (z_iload_n X 3 dX10_covered_17 rfl rfl (z_callSi X (r := r3) (u1 := u) [.int (z_gI u 1 (1 : Int32).toNatClampNeg), .int q.2] [.int q.1] (w_X10_has l g (z_gI u 1 (1 : Int32).toNatClampNeg) q.2 u er3) gX10_covered_X10_has hy_X10_has.2 rfl (z_le1 hR (by decide)) (z_le2 hR (by decide) (by decide)) (Nat.le_of_ble_eq_true rfl) dX10_covered_18 (z_if_eq X 39 dX10_covered_21 (by decide) (fun c4 => ?_) (fun c4 => ?_))))))))
    · replace h := z_ip c4 h
      obtain ⟨v5, ev5, h⟩ := z_ls h
      refine z_iconst X (v := 0) dX10_covered_39 (by decide) (z_ior X dX10_covered_40 (z_ti ev5 (z_istore_n X [(2, .int v5), (0, .ref (z_ad g 0)), (1, .int x1), (3, .int q.2)] dX10_covered_41 rfl (by decide) rfl (z_iinc X (v := q.2 + 1) 3 [(3, .int (q.2 + 1)), (2, .int v5), (0, .ref (z_ad g 0)), (1, .int x1)] dX10_covered_42 rfl rfl (by decide) rfl (z_goto X 4 dX10_covered_45 (by decide) (z_sub [2, 3, 1, 0] [(0, .ref (z_ad g 0)), (1, .int x1), (2, .int v5), (3, .int (q.2 + 1))] rfl ?_))))))
      exact hkb (v5, q.2 + 1) h
    · replace h := z_in c4 h
      obtain ⟨r6, er6, h⟩ := z_bs h
      refine z_aload_n X 0 dX10_covered_24 rfl rfl (z_iload_n X 1 dX10_covered_25 rfl rfl (z_iload_n X 3 dX10_covered_26 rfl rfl (z_callVi X (r := r6) (u1 := u) [.int x1, .int q.2] [.int q.1] (w_X10_covers l g x1 q.2 u er6) z_r0 rfl gX10_covered_X10_covers hy_X10_covers rfl (z_le1 hR (by decide)) (z_le2 hR (by decide) (by decide)) (Nat.le_of_ble_eq_true rfl) dX10_covered_27 (z_if_eq X 39 dX10_covered_30 (by decide) (fun c7 => ?_) (fun c7 => ?_)))))
      · replace h := z_ip c7 h
        obtain ⟨v8, ev8, h⟩ := z_ls h
        refine z_iconst X (v := 0) dX10_covered_39 (by decide) (z_ior X dX10_covered_40 (z_ti ev8 (z_istore_n X [(2, .int v8), (0, .ref (z_ad g 0)), (1, .int x1), (3, .int q.2)] dX10_covered_41 rfl (by decide) rfl (z_iinc X (v := q.2 + 1) 3 [(3, .int (q.2 + 1)), (2, .int v8), (0, .ref (z_ad g 0)), (1, .int x1)] dX10_covered_42 rfl rfl (by decide) rfl (z_goto X 4 dX10_covered_45 (by decide) (z_sub [2, 3, 1, 0] [(0, .ref (z_ad g 0)), (1, .int x1), (2, .int v8), (3, .int (q.2 + 1))] rfl ?_))))))
        exact hkb (v8, q.2 + 1) h
      · replace h := z_in c7 h
        obtain ⟨v9, ev9, h⟩ := z_ls h
        refine z_iconst X (v := 1) dX10_covered_33 (by decide) (z_iload_n X 3 dX10_covered_34 rfl rfl (z_ishl X dX10_covered_35 (z_goto X 40 dX10_covered_36 (by decide) (z_ior X dX10_covered_40 (z_ti ev9 (z_istore_n X [(2, .int v9), (0, .ref (z_ad g 0)), (1, .int x1), (3, .int q.2)] dX10_covered_41 rfl (by decide) rfl (z_iinc X (v := q.2 + 1) 3 [(3, .int (q.2 + 1)), (2, .int v9), (0, .ref (z_ad g 0)), (1, .int x1)] dX10_covered_42 rfl rfl (by decide) rfl (z_goto X 4 dX10_covered_45 (by decide) (z_sub [2, 3, 1, 0] [(0, .ref (z_ad g 0)), (1, .int x1), (2, .int v9), (3, .int (q.2 + 1))] rfl ?_)))))))))
        exact hkb (v9, q.2 + 1) h
set_option maxRecDepth 20000 in
set_option maxHeartbeats 4000000 in
theorem w_X10_covered (l : Launch) (g : z_G) (a1 : Int32) (u : z_M) {res : Int32} (h : f_X10_covered a1 u = some res) : z_C l g z_shR yX10_covered wsX10_covered 5 [.ref (z_ad g 0), .int a1] u (fun v u' => v = some (.int res) ∧ u' = u) := by
  refine z_C.mk (lv := [(0, .ref (z_ad g 0)), (1, .int a1)]) (cc := cX10_covered) (nL := 4) (rt := (some .int)) rfl (by decide) (Nat.le_of_ble_eq_true rfl) rfl (fun p e R s m args below meth c hR X => ?_)
  unfold f_X10_covered at h
  refine z_iconst X (v := 0) dX10_covered_0 (by decide) (z_istore_n X [(2, .int 0), (0, .ref (z_ad g 0)), (1, .int a1)] dX10_covered_1 rfl (by decide) rfl (z_iconst X (v := 0) dX10_covered_2 (by decide) (z_istore_n X [(3, .int 0), (2, .int 0), (0, .ref (z_ad g 0)), (1, .int a1)] dX10_covered_3 rfl (by decide) rfl (z_sub [2, 3, 1, 0] [(0, .ref (z_ad g 0)), (1, .int a1), (2, .int 0), (3, .int 0)] rfl ?_))))
  have hw := z_lp_w (fun q9 kb9 kx9 h1 h2 h3 => wb_X10_covered_4 (l := l) (e := e) (below := below) (u := u) hR X a1 q9 kb9 kx9 h1 h2 h3) z_F _ _ h
  refine hw (fun t10 h => ?_)
  refine z_iload_n X 0 dX10_covered_48 rfl rfl ?_
  cases h; exact z_iret X rfl dX10_covered_49 ⟨rfl, rfl⟩

theorem lk_X10_of_82 : (Cond.fieldLink RX10 82 RX10 (TX10 0).2.1 (TX10 0).2.2.1) ∈ wsX10_of := by decide +kernel
theorem in_X10_of_X10 : ∀ w ∈ u_ws RX10 TX10 30, w ∈ wsX10_of := fun _ h => List.mem_cons_of_mem _ (List.mem_append_right _ h)
theorem ct211_X10_of : Cond.constantLong RX10 211 3 ∈ wsX10_of := by decide +kernel
theorem hy_X10_covered : yX10_covered.cls = RX10 ∧ yX10_covered.cls ≠ "java/lang/invoke/MethodHandle" ∧ yX10_covered.cls ≠ "java/lang/invoke/VarHandle" ∧ (parseMethodDescriptor yX10_covered.desc).map (fun d => d.parameters.length) = some 1 := by decide +kernel
theorem hy_X10_coverers : yX10_coverers.cls = RX10 ∧ yX10_coverers.cls ≠ "java/lang/invoke/MethodHandle" ∧ yX10_coverers.cls ≠ "java/lang/invoke/VarHandle" ∧ (parseMethodDescriptor yX10_coverers.desc).map (fun d => d.parameters.length) = some 1 := by decide +kernel
def j_X10_of_j26 (x1 : Int32) (x2 : Int32) (x90 : Int32) (w : z_M) : Option (Int32 × z_M) :=
  z_lt (z_sI w 0 0 x90) (fun u3 => if (z_gI u3 0 0) = 1 then (some (0, u3)) else (if x2 = 0 then (Option.bind (f_X10_above x1 u3) (fun r6 => some (r6, u3))) else (if x2 = 1 then (Option.bind (f_X10_below x1 u3) (fun r8 => some (r8, u3))) else (if x2 = 2 then (Option.bind (f_X10_coverers x1 u3) (fun r10 => some (r10, u3))) else (Option.bind (f_X10_covered x1 u3) (fun r11 => some (r11, u3)))))))
def j_X10_of_j25 (x1 : Int32) (x2 : Int32) (w : z_M) : Option (Int32 × z_M) :=
  j_X10_of_j26 x1 x2 1 w
def f_X10_of (a1 : Int32) (a2 : Int32) (u : z_M) : Option (Int32 × z_M) :=
  Option.bind (f_X10_isThere a1 u) (fun r1 => if r1 = 0 then (j_X10_of_j25 a1 a2 u) else (Option.bind (f_X10_isIn a2.toInt64 0 3) (fun r12 => if r12 = 0 then (j_X10_of_j25 a1 a2 u) else (j_X10_of_j26 a1 a2 0 u))))
set_option maxRecDepth 20000 in
set_option maxHeartbeats 4000000 in
theorem wj_X10_of_j26 {p : Program} {l : Launch} {e : Env} {R : Room} {s : State} {m : MethodId} {args : Array Value} {below : List Frame} {meth : Method} {c : Code} {g : z_G} {u : z_M} {res : Int32 × z_M} (hR : R = z_rm 6) (X : z_X p R s m args meth c cX10_of 3 RX10 wsX10_of (some .int) g z_shR) (x1 : Int32) (x2 : Int32) (x90 : Int32) (w : z_M) (h : j_X10_of_j26 x1 x2 x90 w = some res) : z_V p l e R s m args below meth c 3 g z_shR (MQ below (z_Qc g z_shR (fun v u' => v = some (.int res.1) ∧ u' = res.2)) args s 0 0 (z_A g z_shR)) 26 [(0, .ref (z_ad g 0)), (1, .int x1), (2, .int x2)] [.int x90, .ref (z_ad g 0)] w := by
  unfold j_X10_of_j26 at h
  obtain ⟨u3, eu3, h⟩ := z_ls h
  refine z_putI X (k0 := 0) (ty0 := tyX10) z_r0 rfl in_X10_of_X10 tyX10_ok nmX10 (by decide) rfl rfl rfl rfl rfl lk_X10_of_82 dX10_of_26 (z_nm eu3 (z_aload_n X 0 dX10_of_29 rfl rfl (z_getI X (k0 := 0) z_r0 rfl in_X10_of_X10 (by decide) rfl rfl lk_X10_of_82 dX10_of_30 (z_iconst X (v := 1) dX10_of_33 (by decide) (z_icmp_ne X 39 dX10_of_34 (by decide) (fun c4 => ?_) (fun c4 => ?_))))))
  · replace h := z_in c4 h
    refine z_iload_n X 2 dX10_of_39 rfl rfl (z_if_ne X 51 dX10_of_40 (by decide) (fun c5 => ?_) (fun c5 => ?_))
    · replace h := z_in c5 h
      refine z_iload_n X 2 dX10_of_51 rfl rfl (z_iconst X (v := 1) dX10_of_52 (by decide) (z_icmp_ne X 64 dX10_of_53 (by decide) (fun c7 => ?_) (fun c7 => ?_)))
      · replace h := z_in c7 h
        refine z_iload_n X 2 dX10_of_64 rfl rfl (z_iconst X (v := 2) dX10_of_65 (by decide) (z_icmp_ne X 77 dX10_of_66 (by decide) (fun c9 => ?_) (fun c9 => ?_)))
        · replace h := z_in c9 h
          obtain ⟨r11, er11, h⟩ := z_bs h
          refine z_aload_n X 0 dX10_of_77 rfl rfl (z_iload_n X 1 dX10_of_78 rfl rfl (z_callVi X (r := r11) (u1 := u3) [.int x1] [] (w_X10_covered l g x1 u3 er11) z_r0 rfl gX10_of_X10_covered hy_X10_covered rfl (z_le1 hR (by decide)) (z_le2 hR (by decide) (by decide)) (Nat.le_of_ble_eq_true rfl) dX10_of_79 ?_))
          cases h; exact z_iret X rfl dX10_of_82 ⟨rfl, rfl⟩
        · replace h := z_ip c9 h
          obtain ⟨r10, er10, h⟩ := z_bs h
          refine z_aload_n X 0 dX10_of_69 rfl rfl (z_iload_n X 1 dX10_of_70 rfl rfl (z_callVi X (r := r10) (u1 := u3) [.int x1] [] (w_X10_coverers l g x1 u3 er10) z_r0 rfl gX10_of_X10_coverers hy_X10_coverers rfl (z_le1 hR (by decide)) (z_le2 hR (by decide) (by decide)) (Nat.le_of_ble_eq_true rfl) dX10_of_71 (z_goto X 82 dX10_of_74 (by decide) ?_)))
          cases h; exact z_iret X rfl dX10_of_82 ⟨rfl, rfl⟩
      · replace h := z_ip c7 h
        obtain ⟨r8, er8, h⟩ := z_bs h
        refine z_aload_n X 0 dX10_of_56 rfl rfl (z_iload_n X 1 dX10_of_57 rfl rfl (z_callVi X (r := r8) (u1 := u3) [.int x1] [] (w_X10_below l g x1 u3 er8) z_r0 rfl gX10_of_X10_below hy_X10_below rfl (z_le1 hR (by decide)) (z_le2 hR (by decide) (by decide)) (Nat.le_of_ble_eq_true rfl) dX10_of_58 (z_goto X 82 dX10_of_61 (by decide) ?_)))
        cases h; exact z_iret X rfl dX10_of_82 ⟨rfl, rfl⟩
    · replace h := z_ip c5 h
      obtain ⟨r6, er6, h⟩ := z_bs h
      refine z_aload_n X 0 dX10_of_43 rfl rfl (z_iload_n X 1 dX10_of_44 rfl rfl (z_callVi X (r := r6) (u1 := u3) [.int x1] [] (w_X10_above l g x1 u3 er6) z_r0 rfl gX10_of_X10_above hy_X10_above rfl (z_le1 hR (by decide)) (z_le2 hR (by decide) (by decide)) (Nat.le_of_ble_eq_true rfl) dX10_of_45 (z_goto X 82 dX10_of_48 (by decide) ?_)))
      cases h; exact z_iret X rfl dX10_of_82 ⟨rfl, rfl⟩
  · replace h := z_ip c4 h
    refine z_iconst X (v := 0) dX10_of_37 (by decide) ?_
    cases h; exact z_iret X rfl dX10_of_38 ⟨rfl, rfl⟩
set_option maxRecDepth 20000 in
set_option maxHeartbeats 4000000 in
theorem wj_X10_of_j25 {p : Program} {l : Launch} {e : Env} {R : Room} {s : State} {m : MethodId} {args : Array Value} {below : List Frame} {meth : Method} {c : Code} {g : z_G} {u : z_M} {res : Int32 × z_M} (hR : R = z_rm 6) (X : z_X p R s m args meth c cX10_of 3 RX10 wsX10_of (some .int) g z_shR) (x1 : Int32) (x2 : Int32) (w : z_M) (h : j_X10_of_j25 x1 x2 w = some res) : z_V p l e R s m args below meth c 3 g z_shR (MQ below (z_Qc g z_shR (fun v u' => v = some (.int res.1) ∧ u' = res.2)) args s 0 0 (z_A g z_shR)) 25 [(0, .ref (z_ad g 0)), (1, .int x1), (2, .int x2)] [.ref (z_ad g 0)] w := by
  unfold j_X10_of_j25 at h
  refine z_iconst X (v := 1) dX10_of_25 (by decide) ?_
  exact wj_X10_of_j26 (u := w) hR X x1 x2 1 w h
set_option maxRecDepth 20000 in
set_option maxHeartbeats 4000000 in
theorem w_X10_of (l : Launch) (g : z_G) (a1 : Int32) (a2 : Int32) (u : z_M) {res : Int32 × z_M} (h : f_X10_of a1 a2 u = some res) : z_C l g z_shR yX10_of wsX10_of 6 [.ref (z_ad g 0), .int a1, .int a2] u (fun v u' => v = some (.int res.1) ∧ u' = res.2) := by
  refine z_C.mk (lv := [(0, .ref (z_ad g 0)), (1, .int a1), (2, .int a2)]) (cc := cX10_of) (nL := 3) (rt := (some .int)) rfl (by decide) (Nat.le_of_ble_eq_true rfl) rfl (fun p e R s m args below meth c hR X => ?_)
  unfold f_X10_of at h
  obtain ⟨r1, er1, h⟩ := z_bs h
  refine z_aload_n X 0 dX10_of_0 rfl rfl (z_aload_n X 0 dX10_of_1 rfl rfl (z_iload_n X 1 dX10_of_2 rfl rfl (z_callVi X (r := r1) (u1 := u) [.int a1] [.ref (z_ad g 0)] (w_X10_isThere l g a1 u er1) z_r0 rfl gX10_of_X10_isThere hy_X10_isThere rfl (z_le1 hR (by decide)) (z_le2 hR (by decide) (by decide)) (Nat.le_of_ble_eq_true rfl) dX10_of_3 (z_if_eq X 25 dX10_of_6 (by decide) (fun c2 => ?_) (fun c2 => ?_)))))
  · replace h := z_ip c2 h
    exact wj_X10_of_j25 (u := u) hR X a1 a2 u h
  · replace h := z_in c2 h
    obtain ⟨r12, er12, h⟩ := z_bs h
    refine z_iload_n X 2 dX10_of_9 rfl rfl (z_i2l X dX10_of_10 (z_lconst X (v := 0) dX10_of_11 (by decide) (z_ldc2 X dX10_of_12 ct211_X10_of (z_callSi X (r := r12) (u1 := u) [.long a2.toInt64, .long 0, .long 3] [.ref (z_ad g 0)] (w_X10_isIn l g a2.toInt64 0 3 u er12) gX10_of_X10_isIn hy_X10_isIn.2 rfl (z_le1 hR (by decide)) (z_le2 hR (by decide) (by decide)) (Nat.le_of_ble_eq_true rfl) dX10_of_15 (z_if_eq X 25 dX10_of_18 (by decide) (fun c13 => ?_) (fun c13 => ?_))))))
    · replace h := z_ip c13 h
      exact wj_X10_of_j25 (u := u) hR X a1 a2 u h
    · replace h := z_in c13 h
      refine z_iconst X (v := 0) dX10_of_21 (by decide) (z_goto X 26 dX10_of_22 (by decide) ?_)
      exact wj_X10_of_j26 (u := u) hR X a1 a2 0 u h

theorem lk_X10_label_82 : (Cond.fieldLink RX10 82 RX10 (TX10 0).2.1 (TX10 0).2.2.1) ∈ wsX10_label := by decide +kernel
theorem in_X10_label_X10 : ∀ w ∈ u_ws RX10 TX10 30, w ∈ wsX10_label := fun _ h => List.mem_cons_of_mem _ (List.mem_append_right _ h)
theorem hy_X10_labelBy : yX10_labelBy.cls = RX10 ∧ yX10_labelBy.cls ≠ "java/lang/invoke/MethodHandle" ∧ yX10_labelBy.cls ≠ "java/lang/invoke/VarHandle" ∧ (parseMethodDescriptor yX10_labelBy.desc).map (fun d => d.parameters.length) = some 2 := by decide +kernel
def f_X10_label (a1 : Int32) (a2 : Int32) (u : z_M) : Option (Int32 × z_M) :=
  z_lt (z_sI u 0 0 0) (fun u1 => Option.bind (f_X10_areThere a1 a2 u1) (fun r2 => if r2 = 0 then (some ((-1), u1)) else (Option.bind (f_X10_covers a2 a1 u1) (fun r4 => if r4 = 0 then (some ((-2), u1)) else (Option.bind (f_X10_labelBy a1 a2 u1) (fun r6 => some (r6, u1)))))))
set_option maxRecDepth 20000 in
set_option maxHeartbeats 4000000 in
theorem w_X10_label (l : Launch) (g : z_G) (a1 : Int32) (a2 : Int32) (u : z_M) {res : Int32 × z_M} (h : f_X10_label a1 a2 u = some res) : z_C l g z_shR yX10_label wsX10_label 5 [.ref (z_ad g 0), .int a1, .int a2] u (fun v u' => v = some (.int res.1) ∧ u' = res.2) := by
  refine z_C.mk (lv := [(0, .ref (z_ad g 0)), (1, .int a1), (2, .int a2)]) (cc := cX10_label) (nL := 3) (rt := (some .int)) rfl (by decide) (Nat.le_of_ble_eq_true rfl) rfl (fun p e R s m args below meth c hR X => ?_)
  unfold f_X10_label at h
  obtain ⟨u1, eu1, h⟩ := z_ls h
  obtain ⟨r2, er2, h⟩ := z_bs h
  refine z_aload_n X 0 dX10_label_0 rfl rfl (z_iconst X (v := 0) dX10_label_1 (by decide) (z_putI X (k0 := 0) (ty0 := tyX10) z_r0 rfl in_X10_label_X10 tyX10_ok nmX10 (by decide) rfl rfl rfl rfl rfl lk_X10_label_82 dX10_label_2 (z_nm eu1 (z_aload_n X 0 dX10_label_5 rfl rfl (z_iload_n X 1 dX10_label_6 rfl rfl (z_iload_n X 2 dX10_label_7 rfl rfl (z_callVi X (r := r2) (u1 := u1) [.int a1, .int a2] [] (w_X10_areThere l g a1 a2 u1 er2) z_r0 rfl gX10_label_X10_areThere hy_X10_areThere rfl (z_le1 hR (by decide)) (z_le2 hR (by decide) (by decide)) (Nat.le_of_ble_eq_true rfl) dX10_label_8 (z_if_ne X 18 dX10_label_11 (by decide) (fun c3 => ?_) (fun c3 => ?_)))))))))
  · replace h := z_in c3 h
    obtain ⟨r4, er4, h⟩ := z_bs h
    refine z_aload_n X 0 dX10_label_18 rfl rfl (z_iload_n X 2 dX10_label_19 rfl rfl (z_iload_n X 1 dX10_label_20 rfl rfl (z_callVi X (r := r4) (u1 := u1) [.int a2, .int a1] [] (w_X10_covers l g a2 a1 u1 er4) z_r0 rfl gX10_label_X10_covers hy_X10_covers rfl (z_le1 hR (by decide)) (z_le2 hR (by decide) (by decide)) (Nat.le_of_ble_eq_true rfl) dX10_label_21 (z_if_eq X 36 dX10_label_24 (by decide) (fun c5 => ?_) (fun c5 => ?_)))))
    · replace h := z_ip c5 h
      refine z_bipush X (v := (-2)) dX10_label_36 (by decide) ?_
      cases h; exact z_iret X rfl dX10_label_38 ⟨rfl, rfl⟩
    · replace h := z_in c5 h
      obtain ⟨r6, er6, h⟩ := z_bs h
      refine z_aload_n X 0 dX10_label_27 rfl rfl (z_iload_n X 1 dX10_label_28 rfl rfl (z_iload_n X 2 dX10_label_29 rfl rfl (z_callVi X (r := r6) (u1 := u1) [.int a1, .int a2] [] (w_X10_labelBy l g a1 a2 u1 er6) z_r0 rfl gX10_label_X10_labelBy hy_X10_labelBy rfl (z_le1 hR (by decide)) (z_le2 hR (by decide) (by decide)) (Nat.le_of_ble_eq_true rfl) dX10_label_30 (z_goto X 38 dX10_label_33 (by decide) ?_))))
      cases h; exact z_iret X rfl dX10_label_38 ⟨rfl, rfl⟩
  · replace h := z_ip c3 h
    refine z_iconst X (v := (-1)) dX10_label_14 (by decide) (z_goto X 38 dX10_label_15 (by decide) ?_)
    cases h; exact z_iret X rfl dX10_label_38 ⟨rfl, rfl⟩

theorem lk_X10_layHeights_36 : (Cond.fieldLink RX10 36 RX10 (TX10 14).2.1 (TX10 14).2.2.1) ∈ wsX10_layHeights := by decide +kernel
theorem in_X10_layHeights_X10 : ∀ w ∈ u_ws RX10 TX10 30, w ∈ wsX10_layHeights := by decide +kernel
theorem lk_X10_layHeights_9 : (Cond.fieldLink RX10 9 RX10 (TX10 1).2.1 (TX10 1).2.2.1) ∈ wsX10_layHeights := by decide +kernel
def b_X10_layHeights_2 (x1 : Int32) : (Int32 × z_M) → ((Int32 × z_M) → Option (z_M)) → (z_M → Option (z_M)) → Option (z_M) := fun q kb kx =>
  if 9 ≤ q.1 then (kx q.2) else (if q.1 = x1 then (z_gd (z_inb q.1 9) (z_lt (z_sI q.2 7 q.1.toNatClampNeg 0) (fun u4 => kb (q.1 + 1, u4)))) else (z_gd (z_inb q.1 9) (z_lt (z_sI q.2 7 q.1.toNatClampNeg (-1)) (fun u6 => kb (q.1 + 1, u6)))))
def j_X10_layHeights_j112 (x2 : Int32) (x3 : Int32) (x4 : Int32) (x90 : Int32) (w : z_M) (kb : (Int32 × z_M) → Option (z_M)) (kx : z_M → Option (z_M)) : Option (z_M) :=
  if x90 = 0 then (z_gd (z_inb x4 9) (z_gd (z_inb x4 9) (z_lt (z_sI w 7 x4.toNatClampNeg (z_gI w 7 x4.toNatClampNeg)) (fun u16 => kb (x4 + 1, u16))))) else (z_gd (z_inb x3 9) (z_gd (z_inb x4 9) (z_lt (z_sI w 7 x4.toNatClampNeg ((z_gI w 7 x3.toNatClampNeg) + 1)) (fun u19 => kb (x4 + 1, u19)))))
def j_X10_layHeights_j111 (x2 : Int32) (x3 : Int32) (x4 : Int32) (w : z_M) (kb : (Int32 × z_M) → Option (z_M)) (kx : z_M → Option (z_M)) : Option (z_M) :=
  j_X10_layHeights_j112 x2 x3 x4 0 w kb kx
def b_X10_layHeights_49 (x2 : Int32) (x3 : Int32) : (Int32 × z_M) → ((Int32 × z_M) → Option (z_M)) → (z_M → Option (z_M)) → Option (z_M) := fun q kb kx =>
  if 9 ≤ q.1 then (kx q.2) else (z_gd (z_inb x3 9) (if (z_gI q.2 7 x3.toNatClampNeg) < 0 then (j_X10_layHeights_j111 x2 x3 q.1 q.2 kb kx) else (z_gd (z_inb 1 93) (Option.bind (f_X10_has (z_gI q.2 1 (1 : Int32).toNatClampNeg) q.1) (fun r21 => if r21 = 0 then (j_X10_layHeights_j111 x2 x3 q.1 q.2 kb kx) else (Option.bind (f_X10_isBelow x3 q.1 q.2) (fun r23 => if r23 = 0 then (j_X10_layHeights_j111 x2 x3 q.1 q.2 kb kx) else (z_gd (z_inb x3 9) (z_gd (z_inb q.1 9) (if ((z_gI q.2 7 x3.toNatClampNeg) + 1) ≤ (z_gI q.2 7 q.1.toNatClampNeg) then (j_X10_layHeights_j111 x2 x3 q.1 q.2 kb kx) else (j_X10_layHeights_j112 x2 x3 q.1 1 q.2 kb kx)))))))))))
def b_X10_layHeights_40 (x2 : Int32) : (Int32 × z_M) → ((Int32 × z_M) → Option (z_M)) → (z_M → Option (z_M)) → Option (z_M) := fun q kb kx =>
  if 9 ≤ q.1 then (kx q.2) else (z_lp (b_X10_layHeights_49 x2 q.1) z_F (0, q.2) (fun t28 => kb (q.1 + 1, t28)))
def b_X10_layHeights_32  : (Int32 × z_M) → ((Int32 × z_M) → Option (z_M)) → (z_M → Option (z_M)) → Option (z_M) := fun q kb kx =>
  if 9 ≤ q.1 then (kx q.2) else (z_lp (b_X10_layHeights_40 q.1) z_F (0, q.2) (fun t29 => kb (q.1 + 1, t29)))
def f_X10_layHeights (a1 : Int32) (u : z_M) : Option (z_M) :=
  z_lp (b_X10_layHeights_2 a1) z_F (0, u) (fun t7 => z_lp b_X10_layHeights_32 z_F (0, t7) (fun t30 => some t30))
set_option maxRecDepth 20000 in
set_option maxHeartbeats 4000000 in
theorem wb_X10_layHeights_2 {p : Program} {l : Launch} {e : Env} {R : Room} {s : State} {m : MethodId} {args : Array Value} {below : List Frame} {meth : Method} {c : Code} {g : z_G} {u : z_M} {res : z_M} (hR : R = z_rm 3) (X : z_X p R s m args meth c cX10_layHeights 6 RX10 wsX10_layHeights none g z_shR) (x1 : Int32) (q : Int32 × z_M) (kb : (Int32 × z_M) → Option (z_M)) (kx : z_M → Option (z_M)) (hkb : ∀ q, kb q = some res → z_V p l e R s m args below meth c 6 g z_shR (MQ below (z_Qc g z_shR (fun v u' => v = none ∧ u' = res)) args s 0 0 (z_A g z_shR)) 2 [(0, .ref (z_ad g 0)), (1, .int x1), (2, .int q.1)] [] q.2) (hkx : ∀ t, kx t = some res → z_V p l e R s m args below meth c 6 g z_shR (MQ below (z_Qc g z_shR (fun v u' => v = none ∧ u' = res)) args s 0 0 (z_A g z_shR)) 30 [(0, .ref (z_ad g 0))] [] t) (h : b_X10_layHeights_2 x1 q kb kx = some res) : z_V p l e R s m args below meth c 6 g z_shR (MQ below (z_Qc g z_shR (fun v u' => v = none ∧ u' = res)) args s 0 0 (z_A g z_shR)) 2 [(0, .ref (z_ad g 0)), (1, .int x1), (2, .int q.1)] [] q.2 := by
  unfold b_X10_layHeights_2 at h
  refine z_iload_n X 2 dX10_layHeights_2 rfl rfl (z_bipush X (v := 9) dX10_layHeights_3 (by decide) (z_icmp_ge X 30 dX10_layHeights_5 (by decide) (fun c1 => ?_) (fun c1 => ?_)))
  · replace h := z_ip c1 h
    refine z_sub [0] [(0, .ref (z_ad g 0))] rfl ?_
    exact hkx q.2 h
  · replace h := z_in c1 h
    refine z_aload_n X 0 dX10_layHeights_8 rfl rfl (z_getR X (k0 := 14) z_r0 rfl in_X10_layHeights_X10 (by decide) rfl rfl lk_X10_layHeights_36 dX10_layHeights_9 (z_iload_n X 2 dX10_layHeights_12 rfl rfl (z_iload_n X 2 dX10_layHeights_13 rfl rfl (z_iload_n X 1 dX10_layHeights_14 rfl rfl (z_icmp_ne X 22 dX10_layHeights_15 (by decide) (fun c2 => ?_) (fun c2 => ?_))))))
    · replace h := z_in c2 h
      obtain ⟨b5, h⟩ := z_gs h
      obtain ⟨u6, eu6, h⟩ := z_ls h
      refine z_iconst X (v := (-1)) dX10_layHeights_22 (by decide) (z_iast X z_r7 (z_inS b5) dX10_layHeights_23 (z_nm eu6 (z_iinc X (v := q.1 + 1) 2 [(2, .int (q.1 + 1)), (0, .ref (z_ad g 0)), (1, .int x1)] dX10_layHeights_24 rfl rfl (by decide) rfl (z_goto X 2 dX10_layHeights_27 (by decide) (z_sub [1, 2, 0] [(0, .ref (z_ad g 0)), (1, .int x1), (2, .int (q.1 + 1))] rfl ?_)))))
      exact hkb (q.1 + 1, u6) h
    · replace h := z_ip c2 h
      obtain ⟨b3, h⟩ := z_gs h
      obtain ⟨u4, eu4, h⟩ := z_ls h
      refine z_iconst X (v := 0) dX10_layHeights_18 (by decide) (z_goto X 23 dX10_layHeights_19 (by decide) (z_iast X z_r7 (z_inS b3) dX10_layHeights_23 (z_nm eu4 (z_iinc X (v := q.1 + 1) 2 [(2, .int (q.1 + 1)), (0, .ref (z_ad g 0)), (1, .int x1)] dX10_layHeights_24 rfl rfl (by decide) rfl (z_goto X 2 dX10_layHeights_27 (by decide) (z_sub [1, 2, 0] [(0, .ref (z_ad g 0)), (1, .int x1), (2, .int (q.1 + 1))] rfl ?_))))))
      exact hkb (q.1 + 1, u4) h
set_option maxRecDepth 20000 in
set_option maxHeartbeats 4000000 in
theorem wj_X10_layHeights_j112 {p : Program} {l : Launch} {e : Env} {R : Room} {s : State} {m : MethodId} {args : Array Value} {below : List Frame} {meth : Method} {c : Code} {g : z_G} {u : z_M} {res : z_M} (hR : R = z_rm 3) (X : z_X p R s m args meth c cX10_layHeights 6 RX10 wsX10_layHeights none g z_shR) (x2 : Int32) (x3 : Int32) (x4 : Int32) (x90 : Int32) (w : z_M) (kb : (Int32 × z_M) → Option (z_M)) (kx : z_M → Option (z_M)) (hkb : ∀ q, kb q = some res → z_V p l e R s m args below meth c 6 g z_shR (MQ below (z_Qc g z_shR (fun v u' => v = none ∧ u' = res)) args s 0 0 (z_A g z_shR)) 49 [(0, .ref (z_ad g 0)), (2, .int x2), (3, .int x3), (4, .int q.1)] [] q.2) (hkx : ∀ t, kx t = some res → z_V p l e R s m args below meth c 6 g z_shR (MQ below (z_Qc g z_shR (fun v u' => v = none ∧ u' = res)) args s 0 0 (z_A g z_shR)) 150 [(0, .ref (z_ad g 0)), (2, .int x2), (3, .int x3)] [] t) (h : j_X10_layHeights_j112 x2 x3 x4 x90 w kb kx = some res) : z_V p l e R s m args below meth c 6 g z_shR (MQ below (z_Qc g z_shR (fun v u' => v = none ∧ u' = res)) args s 0 0 (z_A g z_shR)) 112 [(0, .ref (z_ad g 0)), (2, .int x2), (3, .int x3), (4, .int x4)] [.int x90] w := by
  unfold j_X10_layHeights_j112 at h
  refine z_istore X [(5, .int x90), (0, .ref (z_ad g 0)), (2, .int x2), (3, .int x3), (4, .int x4)] dX10_layHeights_112 (by decide) rfl (z_aload_n X 1 dX10_layHeights_114 rfl rfl (z_getR X (k0 := 14) z_r0 rfl in_X10_layHeights_X10 (by decide) rfl rfl lk_X10_layHeights_36 dX10_layHeights_115 (z_iload X 4 dX10_layHeights_118 rfl (z_iload X 0 dX10_layHeights_120 rfl (z_if_eq X 136 dX10_layHeights_122 (by decide) (fun c13 => ?_) (fun c13 => ?_))))))
  · replace h := z_ip c13 h
    obtain ⟨b14, h⟩ := z_gs h
    obtain ⟨b15, h⟩ := z_gs h
    obtain ⟨u16, eu16, h⟩ := z_ls h
    refine z_aload_n X 1 dX10_layHeights_136 rfl rfl (z_getR X (k0 := 14) z_r0 rfl in_X10_layHeights_X10 (by decide) rfl rfl lk_X10_layHeights_36 dX10_layHeights_137 (z_iload X 4 dX10_layHeights_140 rfl (z_iald X z_r7 (z_inS b14) dX10_layHeights_142 (z_iast X z_r7 (z_inS b15) dX10_layHeights_143 (z_nm eu16 (z_iinc X (v := x4 + 1) 4 [(4, .int (x4 + 1)), (5, .int x90), (0, .ref (z_ad g 0)), (2, .int x2), (3, .int x3)] dX10_layHeights_144 rfl rfl (by decide) rfl (z_goto X 49 dX10_layHeights_147 (by decide) (z_sub [2, 3, 4, 0] [(0, .ref (z_ad g 0)), (2, .int x2), (3, .int x3), (4, .int (x4 + 1))] rfl ?_))))))))
    exact hkb (x4 + 1, u16) h
  · replace h := z_in c13 h
    obtain ⟨b17, h⟩ := z_gs h
    obtain ⟨b18, h⟩ := z_gs h
    obtain ⟨u19, eu19, h⟩ := z_ls h
    refine z_aload_n X 1 dX10_layHeights_125 rfl rfl (z_getR X (k0 := 14) z_r0 rfl in_X10_layHeights_X10 (by decide) rfl rfl lk_X10_layHeights_36 dX10_layHeights_126 (z_iload_n X 3 dX10_layHeights_129 rfl rfl (z_iald X z_r7 (z_inS b17) dX10_layHeights_130 (z_iconst X (v := 1) dX10_layHeights_131 (by decide) (z_iadd X dX10_layHeights_132 (z_goto X 143 dX10_layHeights_133 (by decide) (z_iast X z_r7 (z_inS b18) dX10_layHeights_143 (z_nm eu19 (z_iinc X (v := x4 + 1) 4 [(4, .int (x4 + 1)), (5, .int x90), (0, .ref (z_ad g 0)), (2, .int x2), (3, .int x3)] dX10_layHeights_144 rfl rfl (by decide) rfl (z_goto X 49 dX10_layHeights_147 (by decide) (z_sub [2, 3, 4, 0] [(0, .ref (z_ad g 0)), (2, .int x2), (3, .int x3), (4, .int (x4 + 1))] rfl ?_)))))))))))
    exact hkb (x4 + 1, u19) h
set_option maxRecDepth 20000 in
set_option maxHeartbeats 4000000 in
theorem wj_X10_layHeights_j111 {p : Program} {l : Launch} {e : Env} {R : Room} {s : State} {m : MethodId} {args : Array Value} {below : List Frame} {meth : Method} {c : Code} {g : z_G} {u : z_M} {res : z_M} (hR : R = z_rm 3) (X : z_X p R s m args meth c cX10_layHeights 6 RX10 wsX10_layHeights none g z_shR) (x2 : Int32) (x3 : Int32) (x4 : Int32) (w : z_M) (kb : (Int32 × z_M) → Option (z_M)) (kx : z_M → Option (z_M)) (hkb : ∀ q, kb q = some res → z_V p l e R s m args below meth c 6 g z_shR (MQ below (z_Qc g z_shR (fun v u' => v = none ∧ u' = res)) args s 0 0 (z_A g z_shR)) 49 [(0, .ref (z_ad g 0)), (2, .int x2), (3, .int x3), (4, .int q.1)] [] q.2) (hkx : ∀ t, kx t = some res → z_V p l e R s m args below meth c 6 g z_shR (MQ below (z_Qc g z_shR (fun v u' => v = none ∧ u' = res)) args s 0 0 (z_A g z_shR)) 150 [(0, .ref (z_ad g 0)), (2, .int x2), (3, .int x3)] [] t) (h : j_X10_layHeights_j111 x2 x3 x4 w kb kx = some res) : z_V p l e R s m args below meth c 6 g z_shR (MQ below (z_Qc g z_shR (fun v u' => v = none ∧ u' = res)) args s 0 0 (z_A g z_shR)) 111 [(0, .ref (z_ad g 0)), (2, .int x2), (3, .int x3), (4, .int x4)] [] w := by
  unfold j_X10_layHeights_j111 at h
  refine z_iconst X (v := 0) dX10_layHeights_111 (by decide) ?_
  exact wj_X10_layHeights_j112 (u := w) hR X x2 x3 x4 0 w kb kx hkb hkx h
set_option maxRecDepth 20000 in
set_option maxHeartbeats 4000000 in
theorem wb_X10_layHeights_49 {p : Program} {l : Launch} {e : Env} {R : Room} {s : State} {m : MethodId} {args : Array Value} {below : List Frame} {meth : Method} {c : Code} {g : z_G} {u : z_M} {res : z_M} (hR : R = z_rm 3) (X : z_X p R s m args meth c cX10_layHeights 6 RX10 wsX10_layHeights none g z_shR) (x2 : Int32) (x3 : Int32) (q : Int32 × z_M) (kb : (Int32 × z_M) → Option (z_M)) (kx : z_M → Option (z_M)) (hkb : ∀ q, kb q = some res → z_V p l e R s m args below meth c 6 g z_shR (MQ below (z_Qc g z_shR (fun v u' => v = none ∧ u' = res)) args s 0 0 (z_A g z_shR)) 49 [(0, .ref (z_ad g 0)), (2, .int x2), (3, .int x3), (4, .int q.1)] [] q.2) (hkx : ∀ t, kx t = some res → z_V p l e R s m args below meth c 6 g z_shR (MQ below (z_Qc g z_shR (fun v u' => v = none ∧ u' = res)) args s 0 0 (z_A g z_shR)) 150 [(0, .ref (z_ad g 0)), (2, .int x2), (3, .int x3)] [] t) (h : b_X10_layHeights_49 x2 x3 q kb kx = some res) : z_V p l e R s m args below meth c 6 g z_shR (MQ below (z_Qc g z_shR (fun v u' => v = none ∧ u' = res)) args s 0 0 (z_A g z_shR)) 49 [(0, .ref (z_ad g 0)), (2, .int x2), (3, .int x3), (4, .int q.1)] [] q.2 := by
  unfold b_X10_layHeights_49 at h
  refine z_iload X 3 dX10_layHeights_49 rfl (z_bipush X (v := 9) dX10_layHeights_51 (by decide) (z_icmp_ge X 150 dX10_layHeights_53 (by decide) (fun c10 => ?_) (fun c10 => ?_)))
  · replace h := z_ip c10 h
    refine z_sub [0, 1, 2] [(0, .ref (z_ad g 0)), (2, .int x2), (3, .int x3)] rfl ?_
    exact hkx q.2 h
  · replace h := z_in c10 h
    obtain ⟨b11, h⟩ := z_gs h
    refine z_aload_n X 0 dX10_layHeights_56 rfl rfl (z_getR X (k0 := 14) z_r0 rfl in_X10_layHeights_X10 (by decide) rfl rfl lk_X10_layHeights_36 dX10_layHeights_57 (z_iload_n X 2 dX10_layHeights_60 rfl rfl (z_iald X z_r7 (z_inS b11) dX10_layHeights_61 (z_if_lt X 111 dX10_layHeights_62 (by decide) (fun c12 => ?_) (fun c12 => ?_)))))
    · replace h := z_ip c12 h
      exact wj_X10_layHeights_j111 (u := q.2) hR X x2 x3 q.1 q.2 kb kx hkb hkx h
    · replace h := z_in c12 h
      obtain ⟨b20, h⟩ := z_gs h
      obtain ⟨r21, er21, h⟩ := z_bs h
      refine z_aload_n X 0 dX10_layHeights_65 rfl rfl (z_getR X (k0 := 1) z_r0 rfl in_X10_layHeights_X10 (by decide) rfl rfl lk_X10_layHeights_9 dX10_layHeights_66 (z_iconst X (v := 1) dX10_layHeights_69 (by decide) (z_iald X z_r1 (z_inS b20) dX10_layHeights_70 (z_iload X 3 dX10_layHeights_71 rfl (z_callSi X (r := r21) (u1 := q.2) [.int (z_gI q.2 1 (1 : Int32).toNatClampNeg), .int q.1] [] (w_X10_has l g (z_gI q.2 1 (1 : Int32).toNatClampNeg) q.1 q.2 er21) gX10_layHeights_X10_has hy_X10_has.2 rfl (z_le1 hR (by decide)) (z_le2 hR (by decide) (by decide)) (Nat.le_of_ble_eq_true rfl) dX10_layHeights_73 (z_if_eq X 111 dX10_layHeights_76 (by decide) (fun c22 => ?_) (fun c22 => ?_)))))))
      · replace h := z_ip c22 h
        exact wj_X10_layHeights_j111 (u := q.2) hR X x2 x3 q.1 q.2 kb kx hkb hkx h
      · replace h := z_in c22 h
        obtain ⟨r23, er23, h⟩ := z_bs h
        refine z_aload_n X 0 dX10_layHeights_79 rfl rfl (z_iload_n X 2 dX10_layHeights_80 rfl rfl (z_iload X 3 dX10_layHeights_81 rfl (z_callVi X (r := r23) (u1 := q.2) [.int x3, .int q.1] [] (w_X10_isBelow l g x3 q.1 q.2 er23) z_r0 rfl gX10_layHeights_X10_isBelow hy_X10_isBelow rfl (z_le1 hR (by decide)) (z_le2 hR (by decide) (by decide)) (Nat.le_of_ble_eq_true rfl) dX10_layHeights_83 (z_if_eq X 111 dX10_layHeights_86 (by decide) (fun c24 => ?_) (fun c24 => ?_)))))
        · replace h := z_ip c24 h
          exact wj_X10_layHeights_j111 (u := q.2) hR X x2 x3 q.1 q.2 kb kx hkb hkx h
        · replace h := z_in c24 h
          obtain ⟨b25, h⟩ := z_gs h
          obtain ⟨b26, h⟩ := z_gs h
          refine z_aload_n X 0 dX10_layHeights_89 rfl rfl (z_getR X (k0 := 14) z_r0 rfl in_X10_layHeights_X10 (by decide) rfl rfl lk_X10_layHeights_36 dX10_layHeights_90 (z_iload_n X 2 dX10_layHeights_93 rfl rfl (z_iald X z_r7 (z_inS b25) dX10_layHeights_94 (z_iconst X (v := 1) dX10_layHeights_95 (by decide) (z_iadd X dX10_layHeights_96 (z_aload_n X 0 dX10_layHeights_97 rfl rfl (z_getR X (k0 := 14) z_r0 rfl in_X10_layHeights_X10 (by decide) rfl rfl lk_X10_layHeights_36 dX10_layHeights_98 (z_iload X 3 dX10_layHeights_101 rfl (z_iald X z_r7 (z_inS b26) dX10_layHeights_103 (z_icmp_le X 111 dX10_layHeights_104 (by decide) (fun c27 => ?_) (fun c27 => ?_)))))))))))
          · replace h := z_ip c27 h
            exact wj_X10_layHeights_j111 (u := q.2) hR X x2 x3 q.1 q.2 kb kx hkb hkx h
          · replace h := z_in c27 h
            refine z_iconst X (v := 1) dX10_layHeights_107 (by decide) (z_goto X 112 dX10_layHeights_108 (by decide) ?_)
            exact wj_X10_layHeights_j112 (u := q.2) hR X x2 x3 q.1 1 q.2 kb kx hkb hkx h
set_option maxRecDepth 20000 in
set_option maxHeartbeats 4000000 in
theorem wb_X10_layHeights_40 {p : Program} {l : Launch} {e : Env} {R : Room} {s : State} {m : MethodId} {args : Array Value} {below : List Frame} {meth : Method} {c : Code} {g : z_G} {u : z_M} {res : z_M} (hR : R = z_rm 3) (X : z_X p R s m args meth c cX10_layHeights 6 RX10 wsX10_layHeights none g z_shR) (x2 : Int32) (q : Int32 × z_M) (kb : (Int32 × z_M) → Option (z_M)) (kx : z_M → Option (z_M)) (hkb : ∀ q, kb q = some res → z_V p l e R s m args below meth c 6 g z_shR (MQ below (z_Qc g z_shR (fun v u' => v = none ∧ u' = res)) args s 0 0 (z_A g z_shR)) 40 [(0, .ref (z_ad g 0)), (2, .int x2), (3, .int q.1)] [] q.2) (hkx : ∀ t, kx t = some res → z_V p l e R s m args below meth c 6 g z_shR (MQ below (z_Qc g z_shR (fun v u' => v = none ∧ u' = res)) args s 0 0 (z_A g z_shR)) 156 [(0, .ref (z_ad g 0)), (2, .int x2)] [] t) (h : b_X10_layHeights_40 x2 q kb kx = some res) : z_V p l e R s m args below meth c 6 g z_shR (MQ below (z_Qc g z_shR (fun v u' => v = none ∧ u' = res)) args s 0 0 (z_A g z_shR)) 40 [(0, .ref (z_ad g 0)), (2, .int x2), (3, .int q.1)] [] q.2 := by
  unfold b_X10_layHeights_40 at h
  refine z_iload_n X 2 dX10_layHeights_40 rfl rfl (z_bipush X (v := 9) dX10_layHeights_41 (by decide) (z_icmp_ge X 156 dX10_layHeights_43 (by decide) (fun c9 => ?_) (fun c9 => ?_)))
  · replace h := z_ip c9 h
    refine z_sub [0, 1] [(0, .ref (z_ad g 0)), (2, .int x2)] rfl ?_
    exact hkx q.2 h
  · replace h := z_in c9 h
    refine z_iconst X (v := 0) dX10_layHeights_46 (by decide) (z_istore X [(4, .int 0), (0, .ref (z_ad g 0)), (2, .int x2), (3, .int q.1)] dX10_layHeights_47 (by decide) rfl (z_sub [1, 2, 3, 0] [(0, .ref (z_ad g 0)), (2, .int x2), (3, .int q.1), (4, .int 0)] rfl ?_))
    have hw := z_lp_w (fun q9 kb9 kx9 h1 h2 h3 => wb_X10_layHeights_49 (l := l) (e := e) (below := below) (u := q.2) hR X x2 q.1 q9 kb9 kx9 h1 h2 h3) z_F _ _ h
    refine hw (fun t28 h => ?_)
    refine z_iinc X (v := q.1 + 1) 2 [(3, .int (q.1 + 1)), (0, .ref (z_ad g 0)), (2, .int x2)] dX10_layHeights_150 rfl rfl (by decide) rfl (z_goto X 40 dX10_layHeights_153 (by decide) (z_sub [1, 2, 0] [(0, .ref (z_ad g 0)), (2, .int x2), (3, .int (q.1 + 1))] rfl ?_))
    exact hkb (q.1 + 1, t28) h
set_option maxRecDepth 20000 in
set_option maxHeartbeats 4000000 in
theorem wb_X10_layHeights_32 {p : Program} {l : Launch} {e : Env} {R : Room} {s : State} {m : MethodId} {args : Array Value} {below : List Frame} {meth : Method} {c : Code} {g : z_G} {u : z_M} {res : z_M} (hR : R = z_rm 3) (X : z_X p R s m args meth c cX10_layHeights 6 RX10 wsX10_layHeights none g z_shR)  (q : Int32 × z_M) (kb : (Int32 × z_M) → Option (z_M)) (kx : z_M → Option (z_M)) (hkb : ∀ q, kb q = some res → z_V p l e R s m args below meth c 6 g z_shR (MQ below (z_Qc g z_shR (fun v u' => v = none ∧ u' = res)) args s 0 0 (z_A g z_shR)) 32 [(0, .ref (z_ad g 0)), (2, .int q.1)] [] q.2) (hkx : ∀ t, kx t = some res → z_V p l e R s m args below meth c 6 g z_shR (MQ below (z_Qc g z_shR (fun v u' => v = none ∧ u' = res)) args s 0 0 (z_A g z_shR)) 162 [] [] t) (h : b_X10_layHeights_32 q kb kx = some res) : z_V p l e R s m args below meth c 6 g z_shR (MQ below (z_Qc g z_shR (fun v u' => v = none ∧ u' = res)) args s 0 0 (z_A g z_shR)) 32 [(0, .ref (z_ad g 0)), (2, .int q.1)] [] q.2 := by
  unfold b_X10_layHeights_32 at h
  refine z_iload_n X 1 dX10_layHeights_32 rfl rfl (z_bipush X (v := 9) dX10_layHeights_33 (by decide) (z_icmp_ge X 162 dX10_layHeights_35 (by decide) (fun c8 => ?_) (fun c8 => ?_)))
  · replace h := z_ip c8 h
    refine z_sub [] [] rfl ?_
    exact hkx q.2 h
  · replace h := z_in c8 h
    refine z_iconst X (v := 0) dX10_layHeights_38 (by decide) (z_istore_n X [(3, .int 0), (0, .ref (z_ad g 0)), (2, .int q.1)] dX10_layHeights_39 rfl (by decide) rfl (z_sub [1, 2, 0] [(0, .ref (z_ad g 0)), (2, .int q.1), (3, .int 0)] rfl ?_))
    have hw := z_lp_w (fun q9 kb9 kx9 h1 h2 h3 => wb_X10_layHeights_40 (l := l) (e := e) (below := below) (u := q.2) hR X q.1 q9 kb9 kx9 h1 h2 h3) z_F _ _ h
    refine hw (fun t29 h => ?_)
    refine z_iinc X (v := q.1 + 1) 1 [(2, .int (q.1 + 1)), (0, .ref (z_ad g 0))] dX10_layHeights_156 rfl rfl (by decide) rfl (z_goto X 32 dX10_layHeights_159 (by decide) (z_sub [1, 0] [(0, .ref (z_ad g 0)), (2, .int (q.1 + 1))] rfl ?_))
    exact hkb (q.1 + 1, t29) h
set_option maxRecDepth 20000 in
set_option maxHeartbeats 4000000 in
theorem w_X10_layHeights (l : Launch) (g : z_G) (a1 : Int32) (u : z_M) {res : z_M} (h : f_X10_layHeights a1 u = some res) : z_C l g z_shR yX10_layHeights wsX10_layHeights 3 [.ref (z_ad g 0), .int a1] u (fun v u' => v = none ∧ u' = res) := by
  refine z_C.mk (lv := [(0, .ref (z_ad g 0)), (1, .int a1)]) (cc := cX10_layHeights) (nL := 6) (rt := none) rfl (by decide) (Nat.le_of_ble_eq_true rfl) rfl (fun p e R s m args below meth c hR X => ?_)
  unfold f_X10_layHeights at h
  refine z_iconst X (v := 0) dX10_layHeights_0 (by decide) (z_istore_n X [(2, .int 0), (0, .ref (z_ad g 0)), (1, .int a1)] dX10_layHeights_1 rfl (by decide) rfl (z_sub [1, 2, 0] [(0, .ref (z_ad g 0)), (1, .int a1), (2, .int 0)] rfl ?_))
  have hw := z_lp_w (fun q9 kb9 kx9 h1 h2 h3 => wb_X10_layHeights_2 (l := l) (e := e) (below := below) (u := u) hR X a1 q9 kb9 kx9 h1 h2 h3) z_F _ _ h
  refine hw (fun t7 h => ?_)
  refine z_iconst X (v := 0) dX10_layHeights_30 (by decide) (z_istore_n X [(2, .int 0), (0, .ref (z_ad g 0))] dX10_layHeights_31 rfl (by decide) rfl (z_sub [1, 0] [(0, .ref (z_ad g 0)), (2, .int 0)] rfl ?_))
  have hw := z_lp_w (fun q9 kb9 kx9 h1 h2 h3 => wb_X10_layHeights_32 (l := l) (e := e) (below := below) (u := t7) hR X q9 kb9 kx9 h1 h2 h3) z_F _ _ h
  refine hw (fun t30 h => ?_)
  cases h; exact z_vret X rfl dX10_layHeights_162 ⟨rfl, rfl⟩

theorem lk_X10_height_82 : (Cond.fieldLink RX10 82 RX10 (TX10 0).2.1 (TX10 0).2.2.1) ∈ wsX10_height := by decide +kernel
theorem in_X10_height_X10 : ∀ w ∈ u_ws RX10 TX10 30, w ∈ wsX10_height := by decide +kernel
theorem lk_X10_height_9 : (Cond.fieldLink RX10 9 RX10 (TX10 1).2.1 (TX10 1).2.2.1) ∈ wsX10_height := by decide +kernel
theorem lk_X10_height_36 : (Cond.fieldLink RX10 36 RX10 (TX10 14).2.1 (TX10 14).2.2.1) ∈ wsX10_height := by decide +kernel
theorem hy_X10_layHeights : yX10_layHeights.cls = RX10 ∧ yX10_layHeights.cls ≠ "java/lang/invoke/MethodHandle" ∧ yX10_layHeights.cls ≠ "java/lang/invoke/VarHandle" ∧ (parseMethodDescriptor yX10_layHeights.desc).map (fun d => d.parameters.length) = some 1 := by decide +kernel
def b_X10_height_19 (x1 : Int32) : (Int32 × Int32 × z_M) → ((Int32 × Int32 × z_M) → Option (Int32 × z_M)) → ((Int32 × z_M) → Option (Int32 × z_M)) → Option (Int32 × z_M) := fun q kb kx =>
  if 9 ≤ q.2.1 then (kx (q.1, q.2.2)) else (z_gd (z_inb 1 93) (Option.bind (f_X10_has (z_gI q.2.2 1 (1 : Int32).toNatClampNeg) q.2.1) (fun r6 => if r6 = 0 then (kb (q.1, q.2.1 + 1, q.2.2)) else (Option.bind (f_X10_layHeights q.2.1 q.2.2) (fun r8 => z_gd (z_inb x1 9) (if (z_gI r8 7 x1.toNatClampNeg) ≤ q.1 then (kb (q.1, q.2.1 + 1, r8)) else (z_gd (z_inb x1 9) (z_lt (z_gI r8 7 x1.toNatClampNeg) (fun v12 => kb (v12, q.2.1 + 1, r8))))))))))
def f_X10_height (a1 : Int32) (u : z_M) : Option (Int32 × z_M) :=
  z_lt (z_sI u 0 0 0) (fun u1 => Option.bind (f_X10_isThere a1 u1) (fun r2 => if r2 = 0 then (some ((-1), u1)) else (z_lp (b_X10_height_19 a1) z_F (0, 0, u1) (fun t13 => some (t13.1, t13.2)))))
set_option maxRecDepth 20000 in
set_option maxHeartbeats 4000000 in
theorem wb_X10_height_19 {p : Program} {l : Launch} {e : Env} {R : Room} {s : State} {m : MethodId} {args : Array Value} {below : List Frame} {meth : Method} {c : Code} {g : z_G} {u : z_M} {res : Int32 × z_M} (hR : R = z_rm 4) (X : z_X p R s m args meth c cX10_height 4 RX10 wsX10_height (some .int) g z_shR) (x1 : Int32) (q : Int32 × Int32 × z_M) (kb : (Int32 × Int32 × z_M) → Option (Int32 × z_M)) (kx : (Int32 × z_M) → Option (Int32 × z_M)) (hkb : ∀ q, kb q = some res → z_V p l e R s m args below meth c 4 g z_shR (MQ below (z_Qc g z_shR (fun v u' => v = some (.int res.1) ∧ u' = res.2)) args s 0 0 (z_A g z_shR)) 19 [(0, .ref (z_ad g 0)), (1, .int x1), (2, .int q.1), (3, .int q.2.1)] [] q.2.2) (hkx : ∀ t, kx t = some res → z_V p l e R s m args below meth c 4 g z_shR (MQ below (z_Qc g z_shR (fun v u' => v = some (.int res.1) ∧ u' = res.2)) args s 0 0 (z_A g z_shR)) 70 [(2, .int t.1)] [] t.2) (h : b_X10_height_19 x1 q kb kx = some res) : z_V p l e R s m args below meth c 4 g z_shR (MQ below (z_Qc g z_shR (fun v u' => v = some (.int res.1) ∧ u' = res.2)) args s 0 0 (z_A g z_shR)) 19 [(0, .ref (z_ad g 0)), (1, .int x1), (2, .int q.1), (3, .int q.2.1)] [] q.2.2 := by
  unfold b_X10_height_19 at h
  refine z_iload_n X 3 dX10_height_19 rfl rfl (z_bipush X (v := 9) dX10_height_20 (by decide) (z_icmp_ge X 70 dX10_height_22 (by decide) (fun c4 => ?_) (fun c4 => ?_)))
  · replace h := z_ip c4 h
    refine z_sub [2] [(2, .int q.1)] rfl ?_
    exact hkx (q.1, q.2.2) h
  · replace h := z_in c4 h
    obtain ⟨b5, h⟩ := z_gs h
    obtain ⟨r6, er6, h⟩ := z_bs h
    refine z_aload_n X 0 dX10_height_25 rfl rfl (z_getR X (k0 := 1) z_r0 rfl in_X10_height_X10 (by decide) rfl rfl lk_X10_height_9 dX10_height_26 (z_iconst X (v := 1) dX10_height_29 (by decide) (z_iald X z_r1 (z_inS b5) dX10_height_30 (z_iload_n X 3 dX10_height_31 rfl rfl (z_callSi X (r := r6) (u1 := q.2.2) [.int (z_gI q.2.2 1 (1 : Int32).toNatClampNeg), .int q.2.1] [] (w_X10_has l g (z_gI q.2.2 1 (1 : Int32).toNatClampNeg) q.2.1 q.2.2 er6) gX10_height_X10_has hy_X10_has.2 rfl (z_le1 hR (by decide)) (z_le2 hR (by decide) (by decide)) (Nat.le_of_ble_eq_true rfl) dX10_height_32 (z_if_eq X 64 dX10_height_35 (by decide) (fun c7 => ?_) (fun c7 => ?_)))))))
    · replace h := z_ip c7 h
      refine z_iinc X (v := q.2.1 + 1) 3 [(3, .int (q.2.1 + 1)), (0, .ref (z_ad g 0)), (1, .int x1), (2, .int q.1)] dX10_height_64 rfl rfl (by decide) rfl (z_goto X 19 dX10_height_67 (by decide) (z_sub [1, 2, 3, 0] [(0, .ref (z_ad g 0)), (1, .int x1), (2, .int q.1), (3, .int (q.2.1 + 1))] rfl ?_))
      exact hkb (q.1, q.2.1 + 1, q.2.2) h
    · replace h := z_in c7 h
      obtain ⟨r8, er8, h⟩ := z_bs h
      obtain ⟨b9, h⟩ := z_gs h
      refine z_aload_n X 0 dX10_height_38 rfl rfl (z_iload_n X 3 dX10_height_39 rfl rfl (z_callVv X (u1 := r8) [.int q.2.1] [] (w_X10_layHeights l g q.2.1 q.2.2 er8) z_r0 rfl gX10_height_X10_layHeights hy_X10_layHeights rfl (z_le1 hR (by decide)) (z_le2 hR (by decide) (by decide)) (Nat.le_of_ble_eq_true rfl) dX10_height_40 (z_aload_n X 0 dX10_height_43 rfl rfl (z_getR X (k0 := 14) z_r0 rfl in_X10_height_X10 (by decide) rfl rfl lk_X10_height_36 dX10_height_44 (z_iload_n X 1 dX10_height_47 rfl rfl (z_iald X z_r7 (z_inS b9) dX10_height_48 (z_iload_n X 2 dX10_height_49 rfl rfl (z_icmp_le X 62 dX10_height_50 (by decide) (fun c10 => ?_) (fun c10 => ?_)))))))))
      · replace h := z_ip c10 h
        refine z_iload_n X 2 dX10_height_62 rfl rfl (z_istore_n X [(2, .int q.1), (0, .ref (z_ad g 0)), (1, .int x1), (3, .int q.2.1)] dX10_height_63 rfl (by decide) rfl (z_iinc X (v := q.2.1 + 1) 3 [(3, .int (q.2.1 + 1)), (2, .int q.1), (0, .ref (z_ad g 0)), (1, .int x1)] dX10_height_64 rfl rfl (by decide) rfl (z_goto X 19 dX10_height_67 (by decide) (z_sub [2, 3, 1, 0] [(0, .ref (z_ad g 0)), (1, .int x1), (2, .int q.1), (3, .int (q.2.1 + 1))] rfl ?_))))
        exact hkb (q.1, q.2.1 + 1, r8) h
      · replace h := z_in c10 h
        obtain ⟨b11, h⟩ := z_gs h
        obtain ⟨v12, ev12, h⟩ := z_ls h
        refine z_aload_n X 0 dX10_height_53 rfl rfl (z_getR X (k0 := 14) z_r0 rfl in_X10_height_X10 (by decide) rfl rfl lk_X10_height_36 dX10_height_54 (z_iload_n X 1 dX10_height_57 rfl rfl (z_iald X z_r7 (z_inS b11) dX10_height_58 (z_goto X 63 dX10_height_59 (by decide) (z_ti ev12 (z_istore_n X [(2, .int v12), (0, .ref (z_ad g 0)), (1, .int x1), (3, .int q.2.1)] dX10_height_63 rfl (by decide) rfl (z_iinc X (v := q.2.1 + 1) 3 [(3, .int (q.2.1 + 1)), (2, .int v12), (0, .ref (z_ad g 0)), (1, .int x1)] dX10_height_64 rfl rfl (by decide) rfl (z_goto X 19 dX10_height_67 (by decide) (z_sub [2, 3, 1, 0] [(0, .ref (z_ad g 0)), (1, .int x1), (2, .int v12), (3, .int (q.2.1 + 1))] rfl ?_)))))))))
        exact hkb (v12, q.2.1 + 1, r8) h
set_option maxRecDepth 20000 in
set_option maxHeartbeats 4000000 in
theorem w_X10_height (l : Launch) (g : z_G) (a1 : Int32) (u : z_M) {res : Int32 × z_M} (h : f_X10_height a1 u = some res) : z_C l g z_shR yX10_height wsX10_height 4 [.ref (z_ad g 0), .int a1] u (fun v u' => v = some (.int res.1) ∧ u' = res.2) := by
  refine z_C.mk (lv := [(0, .ref (z_ad g 0)), (1, .int a1)]) (cc := cX10_height) (nL := 4) (rt := (some .int)) rfl (by decide) (Nat.le_of_ble_eq_true rfl) rfl (fun p e R s m args below meth c hR X => ?_)
  unfold f_X10_height at h
  obtain ⟨u1, eu1, h⟩ := z_ls h
  obtain ⟨r2, er2, h⟩ := z_bs h
  refine z_aload_n X 0 dX10_height_0 rfl rfl (z_iconst X (v := 0) dX10_height_1 (by decide) (z_putI X (k0 := 0) (ty0 := tyX10) z_r0 rfl in_X10_height_X10 tyX10_ok nmX10 (by decide) rfl rfl rfl rfl rfl lk_X10_height_82 dX10_height_2 (z_nm eu1 (z_aload_n X 0 dX10_height_5 rfl rfl (z_iload_n X 1 dX10_height_6 rfl rfl (z_callVi X (r := r2) (u1 := u1) [.int a1] [] (w_X10_isThere l g a1 u1 er2) z_r0 rfl gX10_height_X10_isThere hy_X10_isThere rfl (z_le1 hR (by decide)) (z_le2 hR (by decide) (by decide)) (Nat.le_of_ble_eq_true rfl) dX10_height_7 (z_if_ne X 15 dX10_height_10 (by decide) (fun c3 => ?_) (fun c3 => ?_))))))))
  · replace h := z_in c3 h
    refine z_iconst X (v := 0) dX10_height_15 (by decide) (z_istore_n X [(2, .int 0), (0, .ref (z_ad g 0)), (1, .int a1)] dX10_height_16 rfl (by decide) rfl (z_iconst X (v := 0) dX10_height_17 (by decide) (z_istore_n X [(3, .int 0), (2, .int 0), (0, .ref (z_ad g 0)), (1, .int a1)] dX10_height_18 rfl (by decide) rfl (z_sub [2, 3, 1, 0] [(0, .ref (z_ad g 0)), (1, .int a1), (2, .int 0), (3, .int 0)] rfl ?_))))
    have hw := z_lp_w (fun q9 kb9 kx9 h1 h2 h3 => wb_X10_height_19 (l := l) (e := e) (below := below) (u := u1) hR X a1 q9 kb9 kx9 h1 h2 h3) z_F _ _ h
    refine hw (fun t13 h => ?_)
    refine z_iload_n X 0 dX10_height_70 rfl rfl ?_
    cases h; exact z_iret X rfl dX10_height_71 ⟨rfl, rfl⟩
  · replace h := z_ip c3 h
    refine z_iconst X (v := (-1)) dX10_height_13 (by decide) ?_
    cases h; exact z_iret X rfl dX10_height_14 ⟨rfl, rfl⟩

def f_X10_upTo (a1 : Int32) (u : z_M) : Option (Int32) :=
  Option.bind (f_X10_above a1 u) (fun r1 => some (r1 ||| (1 <<< (a1 &&& 31))))
set_option maxRecDepth 20000 in
set_option maxHeartbeats 4000000 in
theorem w_X10_upTo (l : Launch) (g : z_G) (a1 : Int32) (u : z_M) {res : Int32} (h : f_X10_upTo a1 u = some res) : z_C l g z_shR yX10_upTo wsX10_upTo 2 [.ref (z_ad g 0), .int a1] u (fun v u' => v = some (.int res) ∧ u' = u) := by
  refine z_C.mk (lv := [(0, .ref (z_ad g 0)), (1, .int a1)]) (cc := cX10_upTo) (nL := 2) (rt := (some .int)) rfl (by decide) (Nat.le_of_ble_eq_true rfl) rfl (fun p e R s m args below meth c hR X => ?_)
  unfold f_X10_upTo at h
  obtain ⟨r1, er1, h⟩ := z_bs h
  refine z_aload_n X 0 dX10_upTo_0 rfl rfl (z_iload_n X 1 dX10_upTo_1 rfl rfl (z_callVi X (r := r1) (u1 := u) [.int a1] [] (w_X10_above l g a1 u er1) z_r0 rfl gX10_upTo_X10_above hy_X10_above rfl (z_le1 hR (by decide)) (z_le2 hR (by decide) (by decide)) (Nat.le_of_ble_eq_true rfl) dX10_upTo_2 (z_iconst X (v := 1) dX10_upTo_5 (by decide) (z_iload_n X 1 dX10_upTo_6 rfl rfl (z_ishl X dX10_upTo_7 (z_ior X dX10_upTo_8 ?_))))))
  cases h; exact z_iret X rfl dX10_upTo_9 ⟨rfl, rfl⟩

def f_X10_downTo (a1 : Int32) (u : z_M) : Option (Int32) :=
  Option.bind (f_X10_below a1 u) (fun r1 => some (r1 ||| (1 <<< (a1 &&& 31))))
set_option maxRecDepth 20000 in
set_option maxHeartbeats 4000000 in
theorem w_X10_downTo (l : Launch) (g : z_G) (a1 : Int32) (u : z_M) {res : Int32} (h : f_X10_downTo a1 u = some res) : z_C l g z_shR yX10_downTo wsX10_downTo 4 [.ref (z_ad g 0), .int a1] u (fun v u' => v = some (.int res) ∧ u' = u) := by
  refine z_C.mk (lv := [(0, .ref (z_ad g 0)), (1, .int a1)]) (cc := cX10_downTo) (nL := 2) (rt := (some .int)) rfl (by decide) (Nat.le_of_ble_eq_true rfl) rfl (fun p e R s m args below meth c hR X => ?_)
  unfold f_X10_downTo at h
  obtain ⟨r1, er1, h⟩ := z_bs h
  refine z_aload_n X 0 dX10_downTo_0 rfl rfl (z_iload_n X 1 dX10_downTo_1 rfl rfl (z_callVi X (r := r1) (u1 := u) [.int a1] [] (w_X10_below l g a1 u er1) z_r0 rfl gX10_downTo_X10_below hy_X10_below rfl (z_le1 hR (by decide)) (z_le2 hR (by decide) (by decide)) (Nat.le_of_ble_eq_true rfl) dX10_downTo_2 (z_iconst X (v := 1) dX10_downTo_5 (by decide) (z_iload_n X 1 dX10_downTo_6 rfl rfl (z_ishl X dX10_downTo_7 (z_ior X dX10_downTo_8 ?_))))))
  cases h; exact z_iret X rfl dX10_downTo_9 ⟨rfl, rfl⟩

theorem hy_X10_upTo : yX10_upTo.cls = RX10 ∧ yX10_upTo.cls ≠ "java/lang/invoke/MethodHandle" ∧ yX10_upTo.cls ≠ "java/lang/invoke/VarHandle" ∧ (parseMethodDescriptor yX10_upTo.desc).map (fun d => d.parameters.length) = some 1 := by decide +kernel
def b_X10_leastOf_2 (x1 : Int32) (u : z_M) : Int32 → (Int32 → Option (Int32)) → (Unit → Option (Int32)) → Option (Int32) := fun q kb kx =>
  if 9 ≤ q then (kx ()) else (Option.bind (f_X10_has x1 q) (fun r2 => if r2 = 0 then (kb (q + 1)) else (Option.bind (f_X10_upTo q u) (fun r4 => if (x1 &&& (r4 ^^^ (-1))) = 0 then (some q) else (kb (q + 1))))))
def f_X10_leastOf (a1 : Int32) (u : z_M) : Option (Int32) :=
  z_lp (b_X10_leastOf_2 a1 u) z_F 0 (fun t6 => some (-2))
set_option maxRecDepth 20000 in
set_option maxHeartbeats 4000000 in
theorem wb_X10_leastOf_2 {p : Program} {l : Launch} {e : Env} {R : Room} {s : State} {m : MethodId} {args : Array Value} {below : List Frame} {meth : Method} {c : Code} {g : z_G} {u : z_M} {res : Int32} (hR : R = z_rm 3) (X : z_X p R s m args meth c cX10_leastOf 3 RX10 wsX10_leastOf (some .int) g z_shR) (x1 : Int32) (q : Int32) (kb : Int32 → Option (Int32)) (kx : Unit → Option (Int32)) (hkb : ∀ q, kb q = some res → z_V p l e R s m args below meth c 3 g z_shR (MQ below (z_Qc g z_shR (fun v u' => v = some (.int res) ∧ u' = u)) args s 0 0 (z_A g z_shR)) 2 [(0, .ref (z_ad g 0)), (1, .int x1), (2, .int q)] [] u) (hkx : ∀ t, kx t = some res → z_V p l e R s m args below meth c 3 g z_shR (MQ below (z_Qc g z_shR (fun v u' => v = some (.int res) ∧ u' = u)) args s 0 0 (z_A g z_shR)) 36 [] [] u) (h : b_X10_leastOf_2 x1 u q kb kx = some res) : z_V p l e R s m args below meth c 3 g z_shR (MQ below (z_Qc g z_shR (fun v u' => v = some (.int res) ∧ u' = u)) args s 0 0 (z_A g z_shR)) 2 [(0, .ref (z_ad g 0)), (1, .int x1), (2, .int q)] [] u := by
  unfold b_X10_leastOf_2 at h
  refine z_iload_n X 2 dX10_leastOf_2 rfl rfl (z_bipush X (v := 9) dX10_leastOf_3 (by decide) (z_icmp_ge X 36 dX10_leastOf_5 (by decide) (fun c1 => ?_) (fun c1 => ?_)))
  · replace h := z_ip c1 h
    refine z_sub [] [] rfl ?_
    exact hkx () h
  · replace h := z_in c1 h
    obtain ⟨r2, er2, h⟩ := z_bs h
    refine z_iload_n X 1 dX10_leastOf_8 rfl rfl (z_iload_n X 2 dX10_leastOf_9 rfl rfl (z_callSi X (r := r2) (u1 := u) [.int x1, .int q] [] (w_X10_has l g x1 q u er2) gX10_leastOf_X10_has hy_X10_has.2 rfl (z_le1 hR (by decide)) (z_le2 hR (by decide) (by decide)) (Nat.le_of_ble_eq_true rfl) dX10_leastOf_10 (z_if_eq X 30 dX10_leastOf_13 (by decide) (fun c3 => ?_) (fun c3 => ?_))))
    · replace h := z_ip c3 h
      refine z_iinc X (v := q + 1) 2 [(2, .int (q + 1)), (0, .ref (z_ad g 0)), (1, .int x1)] dX10_leastOf_30 rfl rfl (by decide) rfl (z_goto X 2 dX10_leastOf_33 (by decide) (z_sub [1, 2, 0] [(0, .ref (z_ad g 0)), (1, .int x1), (2, .int (q + 1))] rfl ?_))
      exact hkb (q + 1) h
    · replace h := z_in c3 h
      obtain ⟨r4, er4, h⟩ := z_bs h
      refine z_iload_n X 1 dX10_leastOf_16 rfl rfl (z_aload_n X 0 dX10_leastOf_17 rfl rfl (z_iload_n X 2 dX10_leastOf_18 rfl rfl (z_callVi X (r := r4) (u1 := u) [.int q] [.int x1] (w_X10_upTo l g q u er4) z_r0 rfl gX10_leastOf_X10_upTo hy_X10_upTo rfl (z_le1 hR (by decide)) (z_le2 hR (by decide) (by decide)) (Nat.le_of_ble_eq_true rfl) dX10_leastOf_19 (z_iconst X (v := (-1)) dX10_leastOf_22 (by decide) (z_ixor X dX10_leastOf_23 (z_iand X dX10_leastOf_24 (z_if_ne X 30 dX10_leastOf_25 (by decide) (fun c5 => ?_) (fun c5 => ?_))))))))
      · replace h := z_in c5 h
        refine z_iinc X (v := q + 1) 2 [(2, .int (q + 1)), (0, .ref (z_ad g 0)), (1, .int x1)] dX10_leastOf_30 rfl rfl (by decide) rfl (z_goto X 2 dX10_leastOf_33 (by decide) (z_sub [1, 2, 0] [(0, .ref (z_ad g 0)), (1, .int x1), (2, .int (q + 1))] rfl ?_))
        exact hkb (q + 1) h
      · replace h := z_ip c5 h
        refine z_iload_n X 2 dX10_leastOf_28 rfl rfl ?_
        cases h; exact z_iret X rfl dX10_leastOf_29 ⟨rfl, rfl⟩
set_option maxRecDepth 20000 in
set_option maxHeartbeats 4000000 in
theorem w_X10_leastOf (l : Launch) (g : z_G) (a1 : Int32) (u : z_M) {res : Int32} (h : f_X10_leastOf a1 u = some res) : z_C l g z_shR yX10_leastOf wsX10_leastOf 3 [.ref (z_ad g 0), .int a1] u (fun v u' => v = some (.int res) ∧ u' = u) := by
  refine z_C.mk (lv := [(0, .ref (z_ad g 0)), (1, .int a1)]) (cc := cX10_leastOf) (nL := 3) (rt := (some .int)) rfl (by decide) (Nat.le_of_ble_eq_true rfl) rfl (fun p e R s m args below meth c hR X => ?_)
  unfold f_X10_leastOf at h
  refine z_iconst X (v := 0) dX10_leastOf_0 (by decide) (z_istore_n X [(2, .int 0), (0, .ref (z_ad g 0)), (1, .int a1)] dX10_leastOf_1 rfl (by decide) rfl (z_sub [1, 2, 0] [(0, .ref (z_ad g 0)), (1, .int a1), (2, .int 0)] rfl ?_))
  have hw := z_lp_w (fun q9 kb9 kx9 h1 h2 h3 => wb_X10_leastOf_2 (l := l) (e := e) (below := below) (u := u) hR X a1 q9 kb9 kx9 h1 h2 h3) z_F _ _ h
  refine hw (fun t6 h => ?_)
  refine z_bipush X (v := (-2)) dX10_leastOf_36 (by decide) ?_
  cases h; exact z_iret X rfl dX10_leastOf_38 ⟨rfl, rfl⟩

theorem hy_X10_downTo : yX10_downTo.cls = RX10 ∧ yX10_downTo.cls ≠ "java/lang/invoke/MethodHandle" ∧ yX10_downTo.cls ≠ "java/lang/invoke/VarHandle" ∧ (parseMethodDescriptor yX10_downTo.desc).map (fun d => d.parameters.length) = some 1 := by decide +kernel
def b_X10_greatestOf_2 (x1 : Int32) (u : z_M) : Int32 → (Int32 → Option (Int32)) → (Unit → Option (Int32)) → Option (Int32) := fun q kb kx =>
  if 9 ≤ q then (kx ()) else (Option.bind (f_X10_has x1 q) (fun r2 => if r2 = 0 then (kb (q + 1)) else (Option.bind (f_X10_downTo q u) (fun r4 => if (x1 &&& (r4 ^^^ (-1))) = 0 then (some q) else (kb (q + 1))))))
def f_X10_greatestOf (a1 : Int32) (u : z_M) : Option (Int32) :=
  z_lp (b_X10_greatestOf_2 a1 u) z_F 0 (fun t6 => some (-2))
set_option maxRecDepth 20000 in
set_option maxHeartbeats 4000000 in
theorem wb_X10_greatestOf_2 {p : Program} {l : Launch} {e : Env} {R : Room} {s : State} {m : MethodId} {args : Array Value} {below : List Frame} {meth : Method} {c : Code} {g : z_G} {u : z_M} {res : Int32} (hR : R = z_rm 5) (X : z_X p R s m args meth c cX10_greatestOf 3 RX10 wsX10_greatestOf (some .int) g z_shR) (x1 : Int32) (q : Int32) (kb : Int32 → Option (Int32)) (kx : Unit → Option (Int32)) (hkb : ∀ q, kb q = some res → z_V p l e R s m args below meth c 3 g z_shR (MQ below (z_Qc g z_shR (fun v u' => v = some (.int res) ∧ u' = u)) args s 0 0 (z_A g z_shR)) 2 [(0, .ref (z_ad g 0)), (1, .int x1), (2, .int q)] [] u) (hkx : ∀ t, kx t = some res → z_V p l e R s m args below meth c 3 g z_shR (MQ below (z_Qc g z_shR (fun v u' => v = some (.int res) ∧ u' = u)) args s 0 0 (z_A g z_shR)) 36 [] [] u) (h : b_X10_greatestOf_2 x1 u q kb kx = some res) : z_V p l e R s m args below meth c 3 g z_shR (MQ below (z_Qc g z_shR (fun v u' => v = some (.int res) ∧ u' = u)) args s 0 0 (z_A g z_shR)) 2 [(0, .ref (z_ad g 0)), (1, .int x1), (2, .int q)] [] u := by
  unfold b_X10_greatestOf_2 at h
  refine z_iload_n X 2 dX10_greatestOf_2 rfl rfl (z_bipush X (v := 9) dX10_greatestOf_3 (by decide) (z_icmp_ge X 36 dX10_greatestOf_5 (by decide) (fun c1 => ?_) (fun c1 => ?_)))
  · replace h := z_ip c1 h
    refine z_sub [] [] rfl ?_
    exact hkx () h
  · replace h := z_in c1 h
    obtain ⟨r2, er2, h⟩ := z_bs h
    refine z_iload_n X 1 dX10_greatestOf_8 rfl rfl (z_iload_n X 2 dX10_greatestOf_9 rfl rfl (z_callSi X (r := r2) (u1 := u) [.int x1, .int q] [] (w_X10_has l g x1 q u er2) gX10_greatestOf_X10_has hy_X10_has.2 rfl (z_le1 hR (by decide)) (z_le2 hR (by decide) (by decide)) (Nat.le_of_ble_eq_true rfl) dX10_greatestOf_10 (z_if_eq X 30 dX10_greatestOf_13 (by decide) (fun c3 => ?_) (fun c3 => ?_))))
    · replace h := z_ip c3 h
      refine z_iinc X (v := q + 1) 2 [(2, .int (q + 1)), (0, .ref (z_ad g 0)), (1, .int x1)] dX10_greatestOf_30 rfl rfl (by decide) rfl (z_goto X 2 dX10_greatestOf_33 (by decide) (z_sub [1, 2, 0] [(0, .ref (z_ad g 0)), (1, .int x1), (2, .int (q + 1))] rfl ?_))
      exact hkb (q + 1) h
    · replace h := z_in c3 h
      obtain ⟨r4, er4, h⟩ := z_bs h
      refine z_iload_n X 1 dX10_greatestOf_16 rfl rfl (z_aload_n X 0 dX10_greatestOf_17 rfl rfl (z_iload_n X 2 dX10_greatestOf_18 rfl rfl (z_callVi X (r := r4) (u1 := u) [.int q] [.int x1] (w_X10_downTo l g q u er4) z_r0 rfl gX10_greatestOf_X10_downTo hy_X10_downTo rfl (z_le1 hR (by decide)) (z_le2 hR (by decide) (by decide)) (Nat.le_of_ble_eq_true rfl) dX10_greatestOf_19 (z_iconst X (v := (-1)) dX10_greatestOf_22 (by decide) (z_ixor X dX10_greatestOf_23 (z_iand X dX10_greatestOf_24 (z_if_ne X 30 dX10_greatestOf_25 (by decide) (fun c5 => ?_) (fun c5 => ?_))))))))
      · replace h := z_in c5 h
        refine z_iinc X (v := q + 1) 2 [(2, .int (q + 1)), (0, .ref (z_ad g 0)), (1, .int x1)] dX10_greatestOf_30 rfl rfl (by decide) rfl (z_goto X 2 dX10_greatestOf_33 (by decide) (z_sub [1, 2, 0] [(0, .ref (z_ad g 0)), (1, .int x1), (2, .int (q + 1))] rfl ?_))
        exact hkb (q + 1) h
      · replace h := z_ip c5 h
        refine z_iload_n X 2 dX10_greatestOf_28 rfl rfl ?_
        cases h; exact z_iret X rfl dX10_greatestOf_29 ⟨rfl, rfl⟩
set_option maxRecDepth 20000 in
set_option maxHeartbeats 4000000 in
theorem w_X10_greatestOf (l : Launch) (g : z_G) (a1 : Int32) (u : z_M) {res : Int32} (h : f_X10_greatestOf a1 u = some res) : z_C l g z_shR yX10_greatestOf wsX10_greatestOf 5 [.ref (z_ad g 0), .int a1] u (fun v u' => v = some (.int res) ∧ u' = u) := by
  refine z_C.mk (lv := [(0, .ref (z_ad g 0)), (1, .int a1)]) (cc := cX10_greatestOf) (nL := 3) (rt := (some .int)) rfl (by decide) (Nat.le_of_ble_eq_true rfl) rfl (fun p e R s m args below meth c hR X => ?_)
  unfold f_X10_greatestOf at h
  refine z_iconst X (v := 0) dX10_greatestOf_0 (by decide) (z_istore_n X [(2, .int 0), (0, .ref (z_ad g 0)), (1, .int a1)] dX10_greatestOf_1 rfl (by decide) rfl (z_sub [1, 2, 0] [(0, .ref (z_ad g 0)), (1, .int a1), (2, .int 0)] rfl ?_))
  have hw := z_lp_w (fun q9 kb9 kx9 h1 h2 h3 => wb_X10_greatestOf_2 (l := l) (e := e) (below := below) (u := u) hR X a1 q9 kb9 kx9 h1 h2 h3) z_F _ _ h
  refine hw (fun t6 h => ?_)
  refine z_bipush X (v := (-2)) dX10_greatestOf_36 (by decide) ?_
  cases h; exact z_iret X rfl dX10_greatestOf_38 ⟨rfl, rfl⟩

theorem hy_X10_leastOf : yX10_leastOf.cls = RX10 ∧ yX10_leastOf.cls ≠ "java/lang/invoke/MethodHandle" ∧ yX10_leastOf.cls ≠ "java/lang/invoke/VarHandle" ∧ (parseMethodDescriptor yX10_leastOf.desc).map (fun d => d.parameters.length) = some 1 := by decide +kernel
def f_X10_joinOf (a1 : Int32) (a2 : Int32) (u : z_M) : Option (Int32) :=
  Option.bind (f_X10_upTo a1 u) (fun r1 => Option.bind (f_X10_upTo a2 u) (fun r2 => Option.bind (f_X10_leastOf (r1 &&& r2) u) (fun r3 => some r3)))
set_option maxRecDepth 20000 in
set_option maxHeartbeats 4000000 in
theorem w_X10_joinOf (l : Launch) (g : z_G) (a1 : Int32) (a2 : Int32) (u : z_M) {res : Int32} (h : f_X10_joinOf a1 a2 u = some res) : z_C l g z_shR yX10_joinOf wsX10_joinOf 4 [.ref (z_ad g 0), .int a1, .int a2] u (fun v u' => v = some (.int res) ∧ u' = u) := by
  refine z_C.mk (lv := [(0, .ref (z_ad g 0)), (1, .int a1), (2, .int a2)]) (cc := cX10_joinOf) (nL := 3) (rt := (some .int)) rfl (by decide) (Nat.le_of_ble_eq_true rfl) rfl (fun p e R s m args below meth c hR X => ?_)
  unfold f_X10_joinOf at h
  obtain ⟨r1, er1, h⟩ := z_bs h
  obtain ⟨r2, er2, h⟩ := z_bs h
  obtain ⟨r3, er3, h⟩ := z_bs h
  refine z_aload_n X 0 dX10_joinOf_0 rfl rfl (z_aload_n X 0 dX10_joinOf_1 rfl rfl (z_iload_n X 1 dX10_joinOf_2 rfl rfl (z_callVi X (r := r1) (u1 := u) [.int a1] [.ref (z_ad g 0)] (w_X10_upTo l g a1 u er1) z_r0 rfl gX10_joinOf_X10_upTo hy_X10_upTo rfl (z_le1 hR (by decide)) (z_le2 hR (by decide) (by decide)) (Nat.le_of_ble_eq_true rfl) dX10_joinOf_3 (z_aload_n X 0 dX10_joinOf_6 rfl rfl (z_iload_n X 2 dX10_joinOf_7 rfl rfl (z_callVi X (r := r2) (u1 := u) [.int a2] [.int r1, .ref (z_ad g 0)] (w_X10_upTo l g a2 u er2) z_r0 rfl gX10_joinOf_X10_upTo hy_X10_upTo rfl (z_le1 hR (by decide)) (z_le2 hR (by decide) (by decide)) (Nat.le_of_ble_eq_true rfl) dX10_joinOf_8 (z_iand X dX10_joinOf_11 (z_callVi X (r := r3) (u1 := u) [.int (r1 &&& r2)] [] (w_X10_leastOf l g (r1 &&& r2) u er3) z_r0 rfl gX10_joinOf_X10_leastOf hy_X10_leastOf rfl (z_le1 hR (by decide)) (z_le2 hR (by decide) (by decide)) (Nat.le_of_ble_eq_true rfl) dX10_joinOf_12 ?_))))))))
  cases h; exact z_iret X rfl dX10_joinOf_15 ⟨rfl, rfl⟩

theorem hy_X10_greatestOf : yX10_greatestOf.cls = RX10 ∧ yX10_greatestOf.cls ≠ "java/lang/invoke/MethodHandle" ∧ yX10_greatestOf.cls ≠ "java/lang/invoke/VarHandle" ∧ (parseMethodDescriptor yX10_greatestOf.desc).map (fun d => d.parameters.length) = some 1 := by decide +kernel
def f_X10_meetOf (a1 : Int32) (a2 : Int32) (u : z_M) : Option (Int32) :=
  Option.bind (f_X10_downTo a1 u) (fun r1 => Option.bind (f_X10_downTo a2 u) (fun r2 => Option.bind (f_X10_greatestOf (r1 &&& r2) u) (fun r3 => some r3)))
set_option maxRecDepth 20000 in
set_option maxHeartbeats 4000000 in
theorem w_X10_meetOf (l : Launch) (g : z_G) (a1 : Int32) (a2 : Int32) (u : z_M) {res : Int32} (h : f_X10_meetOf a1 a2 u = some res) : z_C l g z_shR yX10_meetOf wsX10_meetOf 6 [.ref (z_ad g 0), .int a1, .int a2] u (fun v u' => v = some (.int res) ∧ u' = u) := by
  refine z_C.mk (lv := [(0, .ref (z_ad g 0)), (1, .int a1), (2, .int a2)]) (cc := cX10_meetOf) (nL := 3) (rt := (some .int)) rfl (by decide) (Nat.le_of_ble_eq_true rfl) rfl (fun p e R s m args below meth c hR X => ?_)
  unfold f_X10_meetOf at h
  obtain ⟨r1, er1, h⟩ := z_bs h
  obtain ⟨r2, er2, h⟩ := z_bs h
  obtain ⟨r3, er3, h⟩ := z_bs h
  refine z_aload_n X 0 dX10_meetOf_0 rfl rfl (z_aload_n X 0 dX10_meetOf_1 rfl rfl (z_iload_n X 1 dX10_meetOf_2 rfl rfl (z_callVi X (r := r1) (u1 := u) [.int a1] [.ref (z_ad g 0)] (w_X10_downTo l g a1 u er1) z_r0 rfl gX10_meetOf_X10_downTo hy_X10_downTo rfl (z_le1 hR (by decide)) (z_le2 hR (by decide) (by decide)) (Nat.le_of_ble_eq_true rfl) dX10_meetOf_3 (z_aload_n X 0 dX10_meetOf_6 rfl rfl (z_iload_n X 2 dX10_meetOf_7 rfl rfl (z_callVi X (r := r2) (u1 := u) [.int a2] [.int r1, .ref (z_ad g 0)] (w_X10_downTo l g a2 u er2) z_r0 rfl gX10_meetOf_X10_downTo hy_X10_downTo rfl (z_le1 hR (by decide)) (z_le2 hR (by decide) (by decide)) (Nat.le_of_ble_eq_true rfl) dX10_meetOf_8 (z_iand X dX10_meetOf_11 (z_callVi X (r := r3) (u1 := u) [.int (r1 &&& r2)] [] (w_X10_greatestOf l g (r1 &&& r2) u er3) z_r0 rfl gX10_meetOf_X10_greatestOf hy_X10_greatestOf rfl (z_le1 hR (by decide)) (z_le2 hR (by decide) (by decide)) (Nat.le_of_ble_eq_true rfl) dX10_meetOf_12 ?_))))))))
  cases h; exact z_iret X rfl dX10_meetOf_15 ⟨rfl, rfl⟩
