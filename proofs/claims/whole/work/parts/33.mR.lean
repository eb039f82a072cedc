theorem lk_X10_join_82 : (Cond.fieldLink RX10 82 RX10 (TX10 0).2.1 (TX10 0).2.2.1) ∈ wsX10_join := by decide +kernel
theorem in_X10_join_X10 : ∀ w ∈ u_ws RX10 TX10 30, w ∈ wsX10_join := fun _ h => List.mem_cons_of_mem _ (List.mem_append_right _ h)
theorem hy_X10_joinOf : yX10_joinOf.cls = RX10 ∧ yX10_joinOf.cls ≠ "java/lang/invoke/MethodHandle" ∧ yX10_joinOf.cls ≠ "java/lang/invoke/VarHandle" ∧ (parseMethodDescriptor yX10_joinOf.desc).map (fun d => d.parameters.length) = some 2 := by decide +kernel
def f_X10_join (a1 : Int32) (a2 : Int32) (u : z_M) : Option (Int32 × z_M) :=
  z_lt (z_sI u 0 0 0) (fun u1 => Option.bind (f_X10_areThere a1 a2 u1) (fun r2 => if r2 = 0 then (some ((-1), u1)) else (Option.bind (f_X10_joinOf a1 a2 u1) (fun r4 => some (r4, u1)))))
set_option maxRecDepth 20000 in
set_option maxHeartbeats 4000000 in
theorem w_X10_join (l : Launch) (g : z_G) (a1 : Int32) (a2 : Int32) (u : z_M) {res : Int32 × z_M} (h : f_X10_join a1 a2 u = some res) : z_C l g z_shR yX10_join wsX10_join 5 [.ref (z_ad g 0), .int a1, .int a2] u (fun v u' => v = some (.int res.1) ∧ u' = res.2) := by
  refine z_C.mk (lv := [(0, .ref (z_ad g 0)), (1, .int a1), (2, .int a2)]) (cc := cX10_join) (nL := 3) (rt := (some .int)) rfl (by decide) (Nat.le_of_ble_eq_true rfl) rfl (fun p e R s m args below meth c hR X => ?_)
  unfold f_X10_join at h
  obtain ⟨u1, eu1, h⟩ := z_ls h
  obtain ⟨r2, er2, h⟩ := z_bs h
  refine z_aload_n X 0 dX10_join_0 rfl rfl (z_iconst X (v := 0) dX10_join_1 (by decide) (z_putI X (k0 := 0) (ty0 := tyX10) z_r0 rfl in_X10_join_X10 tyX10_ok nmX10 (by decide) rfl rfl rfl rfl rfl lk_X10_join_82 dX10_join_2 (z_nm eu1 (z_aload_n X 0 dX10_join_5 rfl rfl (z_iload_n X 1 dX10_join_6 rfl rfl (z_iload_n X 2 dX10_join_7 rfl rfl (z_callVi X (r := r2) (u1 := u1) [.int a1, .int a2] [] (w_X10_areThere l g a1 a2 u1 er2) z_r0 rfl gX10_join_X10_areThere hy_X10_areThere rfl (z_le1 hR (by decide)) (z_le2 hR (by decide) (by decide)) (Nat.le_of_ble_eq_true rfl) dX10_join_8 (z_if_eq X 23 dX10_join_11 (by decide) (fun c3 => ?_) (fun c3 => ?_)))))))))
  · replace h := z_ip c3 h
    refine z_iconst X (v := (-1)) dX10_join_23 (by decide) ?_
    cases h; exact z_iret X rfl dX10_join_24 ⟨rfl, rfl⟩
  · replace h := z_in c3 h
    obtain ⟨r4, er4, h⟩ := z_bs h
    refine z_aload_n X 0 dX10_join_14 rfl rfl (z_iload_n X 1 dX10_join_15 rfl rfl (z_iload_n X 2 dX10_join_16 rfl rfl (z_callVi X (r := r4) (u1 := u1) [.int a1, .int a2] [] (w_X10_joinOf l g a1 a2 u1 er4) z_r0 rfl gX10_join_X10_joinOf hy_X10_joinOf rfl (z_le1 hR (by decide)) (z_le2 hR (by decide) (by decide)) (Nat.le_of_ble_eq_true rfl) dX10_join_17 (z_goto X 24 dX10_join_20 (by decide) ?_))))
    cases h; exact z_iret X rfl dX10_join_24 ⟨rfl, rfl⟩

theorem lk_X10_meet_82 : (Cond.fieldLink RX10 82 RX10 (TX10 0).2.1 (TX10 0).2.2.1) ∈ wsX10_meet := by decide +kernel
theorem in_X10_meet_X10 : ∀ w ∈ u_ws RX10 TX10 30, w ∈ wsX10_meet := fun _ h => List.mem_cons_of_mem _ (List.mem_append_right _ h)
theorem hy_X10_meetOf : yX10_meetOf.cls = RX10 ∧ yX10_meetOf.cls ≠ "java/lang/invoke/MethodHandle" ∧ yX10_meetOf.cls ≠ "java/lang/invoke/VarHandle" ∧ (parseMethodDescriptor yX10_meetOf.desc).map (fun d => d.parameters.length) = some 2 := by decide +kernel
def f_X10_meet (a1 : Int32) (a2 : Int32) (u : z_M) : Option (Int32 × z_M) :=
  z_lt (z_sI u 0 0 0) (fun u1 => Option.bind (f_X10_areThere a1 a2 u1) (fun r2 => if r2 = 0 then (some ((-1), u1)) else (Option.bind (f_X10_meetOf a1 a2 u1) (fun r4 => some (r4, u1)))))
set_option maxRecDepth 20000 in
set_option maxHeartbeats 4000000 in
theorem w_X10_meet (l : Launch) (g : z_G) (a1 : Int32) (a2 : Int32) (u : z_M) {res : Int32 × z_M} (h : f_X10_meet a1 a2 u = some res) : z_C l g z_shR yX10_meet wsX10_meet 7 [.ref (z_ad g 0), .int a1, .int a2] u (fun v u' => v = some (.int res.1) ∧ u' = res.2) := by
  refine z_C.mk (lv := [(0, .ref (z_ad g 0)), (1, .int a1), (2, .int a2)]) (cc := cX10_meet) (nL := 3) (rt := (some .int)) rfl (by decide) (Nat.le_of_ble_eq_true rfl) rfl (fun p e R s m args below meth c hR X => ?_)
  unfold f_X10_meet at h
  obtain ⟨u1, eu1, h⟩ := z_ls h
  obtain ⟨r2, er2, h⟩ := z_bs h
  refine z_aload_n X 0 dX10_meet_0 rfl rfl (z_iconst X (v := 0) dX10_meet_1 (by decide) (z_putI X (k0 := 0) (ty0 := tyX10) z_r0 rfl in_X10_meet_X10 tyX10_ok nmX10 (by decide) rfl rfl rfl rfl rfl lk_X10_meet_82 dX10_meet_2 (z_nm eu1 (z_aload_n X 0 dX10_meet_5 rfl rfl (z_iload_n X 1 dX10_meet_6 rfl rfl (z_iload_n X 2 dX10_meet_7 rfl rfl (z_callVi X (r := r2) (u1 := u1) [.int a1, .int a2] [] (w_X10_areThere l g a1 a2 u1 er2) z_r0 rfl gX10_meet_X10_areThere hy_X10_areThere rfl (z_le1 hR (by decide)) (z_le2 hR (by decide) (by decide)) (Nat.le_of_ble_eq_true rfl) dX10_meet_8 (z_if_eq X 23 dX10_meet_11 (by decide) (fun c3 => ?_) (fun c3 => ?_)))))))))
  · replace h := z_ip c3 h
    refine z_iconst X (v := (-1)) dX10_meet_23 (by decide) ?_
    cases h; exact z_iret X rfl dX10_meet_24 ⟨rfl, rfl⟩
  · replace h := z_in c3 h
    obtain ⟨r4, er4, h⟩ := z_bs h
    refine z_aload_n X 0 dX10_meet_14 rfl rfl (z_iload_n X 1 dX10_meet_15 rfl rfl (z_iload_n X 2 dX10_meet_16 rfl rfl (z_callVi X (r := r4) (u1 := u1) [.int a1, .int a2] [] (w_X10_meetOf l g a1 a2 u1 er4) z_r0 rfl gX10_meet_X10_meetOf hy_X10_meetOf rfl (z_le1 hR (by decide)) (z_le2 hR (by decide) (by decide)) (Nat.le_of_ble_eq_true rfl) dX10_meet_17 (z_goto X 24 dX10_meet_20 (by decide) ?_))))
    cases h; exact z_iret X rfl dX10_meet_24 ⟨rfl, rfl⟩

theorem lk_X10_chainAt_42 : (Cond.fieldLink RX10 42 RX10 (TX10 16).2.1 (TX10 16).2.2.1) ∈ wsX10_chainAt := by decide +kernel
theorem in_X10_chainAt_X10 : ∀ w ∈ u_ws RX10 TX10 30, w ∈ wsX10_chainAt := by decide +kernel
def f_X10_chainAt (a1 : Int32) (a2 : Int32) (u : z_M) : Option (Int32) :=
  z_gd (z_inb ((9 * a1) + a2) 576) (some (z_gI u 9 ((9 * a1) + a2).toNatClampNeg))
set_option maxRecDepth 20000 in
set_option maxHeartbeats 4000000 in
theorem w_X10_chainAt (l : Launch) (g : z_G) (a1 : Int32) (a2 : Int32) (u : z_M) {res : Int32} (h : f_X10_chainAt a1 a2 u = some res) : z_C l g z_shR yX10_chainAt wsX10_chainAt 1 [.ref (z_ad g 0), .int a1, .int a2] u (fun v u' => v = some (.int res) ∧ u' = u) := by
  refine z_C.mk (lv := [(0, .ref (z_ad g 0)), (1, .int a1), (2, .int a2)]) (cc := cX10_chainAt) (nL := 3) (rt := (some .int)) rfl (by decide) (Nat.le_of_ble_eq_true rfl) rfl (fun p e R s m args below meth c hR X => ?_)
  unfold f_X10_chainAt at h
  obtain ⟨b1, h⟩ := z_gs h
  refine z_aload_n X 0 dX10_chainAt_0 rfl rfl (z_getR X (k0 := 16) z_r0 rfl in_X10_chainAt_X10 (by decide) rfl rfl lk_X10_chainAt_42 dX10_chainAt_1 (z_bipush X (v := 9) dX10_chainAt_4 (by decide) (z_iload_n X 1 dX10_chainAt_6 rfl rfl (z_imul X dX10_chainAt_7 (z_iload_n X 2 dX10_chainAt_8 rfl rfl (z_iadd X dX10_chainAt_9 (z_iald X z_r9 (z_inS b1) dX10_chainAt_10 ?_)))))))
  cases h; exact z_iret X rfl dX10_chainAt_11 ⟨rfl, rfl⟩

theorem hy_X10_chainAt : yX10_chainAt.cls = RX10 ∧ yX10_chainAt.cls ≠ "java/lang/invoke/MethodHandle" ∧ yX10_chainAt.cls ≠ "java/lang/invoke/VarHandle" ∧ (parseMethodDescriptor yX10_chainAt.desc).map (fun d => d.parameters.length) = some 2 := by decide +kernel
def f_X10_labelAt (a1 : Int32) (a2 : Int32) (u : z_M) : Option (Int32) :=
  Option.bind (f_X10_chainAt a1 a2 u) (fun r1 => Option.bind (f_X10_chainAt a1 (a2 + 1) u) (fun r2 => Option.bind (f_X10_labelBy r1 r2 u) (fun r3 => some r3)))
set_option maxRecDepth 20000 in
set_option maxHeartbeats 4000000 in
theorem w_X10_labelAt (l : Launch) (g : z_G) (a1 : Int32) (a2 : Int32) (u : z_M) {res : Int32} (h : f_X10_labelAt a1 a2 u = some res) : z_C l g z_shR yX10_labelAt wsX10_labelAt 3 [.ref (z_ad g 0), .int a1, .int a2] u (fun v u' => v = some (.int res) ∧ u' = u) := by
  refine z_C.mk (lv := [(0, .ref (z_ad g 0)), (1, .int a1), (2, .int a2)]) (cc := cX10_labelAt) (nL := 3) (rt := (some .int)) rfl (by decide) (Nat.le_of_ble_eq_true rfl) rfl (fun p e R s m args below meth c hR X => ?_)
  unfold f_X10_labelAt at h
  obtain ⟨r1, er1, h⟩ := z_bs h
  obtain ⟨r2, er2, h⟩ := z_bs h
  obtain ⟨r3, er3, h⟩ := z_bs h
  refine z_aload_n X 0 dX10_labelAt_0 rfl rfl (z_aload_n X 0 dX10_labelAt_1 rfl rfl (z_iload_n X 1 dX10_labelAt_2 rfl rfl (z_iload_n X 2 dX10_labelAt_3 rfl rfl (z_callVi X (r := r1) (u1 := u) [.int a1, .int a2] [.ref (z_ad g 0)] (w_X10_chainAt l g a1 a2 u er1) z_r0 rfl gX10_labelAt_X10_chainAt hy_X10_chainAt rfl (z_le1 hR (by decide)) (z_le2 hR (by decide) (by decide)) (Nat.le_of_ble_eq_true rfl) dX10_labelAt_4 (z_aload_n X 0 dX10_labelAt_7 rfl rfl (z_iload_n X 1 dX10_labelAt_8 rfl rfl (z_iload_n X 2 dX10_labelAt_9 rfl rfl (z_iconst X (v := 1) dX10_labelAt_10 (by decide) (z_iadd X dX10_labelAt_11 (z_callVi X (r := r2) (u1 := u) [.int a1, .int (a2 + 1)] [.int r1, .ref (z_ad g 0)] (w_X10_chainAt l g a1 (a2 + 1) u er2) z_r0 rfl gX10_labelAt_X10_chainAt hy_X10_chainAt rfl (z_le1 hR (by decide)) (z_le2 hR (by decide) (by decide)) (Nat.le_of_ble_eq_true rfl) dX10_labelAt_12 (z_callVi X (r := r3) (u1 := u) [.int r1, .int r2] [] (w_X10_labelBy l g r1 r2 u er3) z_r0 rfl gX10_labelAt_X10_labelBy hy_X10_labelBy rfl (z_le1 hR (by decide)) (z_le2 hR (by decide) (by decide)) (Nat.le_of_ble_eq_true rfl) dX10_labelAt_15 ?_)))))))))))
  cases h; exact z_iret X rfl dX10_labelAt_18 ⟨rfl, rfl⟩

theorem lk_X10_isAhead_45 : (Cond.fieldLink RX10 45 RX10 (TX10 17).2.1 (TX10 17).2.2.1) ∈ wsX10_isAhead := by decide +kernel
theorem in_X10_isAhead_X10 : ∀ w ∈ u_ws RX10 TX10 30, w ∈ wsX10_isAhead := by decide +kernel
theorem lk_X10_isAhead_48 : (Cond.fieldLink RX10 48 RX10 (TX10 19).2.1 (TX10 19).2.2.1) ∈ wsX10_isAhead := by decide +kernel
theorem hy_X10_labelAt : yX10_labelAt.cls = RX10 ∧ yX10_labelAt.cls ≠ "java/lang/invoke/MethodHandle" ∧ yX10_labelAt.cls ≠ "java/lang/invoke/VarHandle" ∧ (parseMethodDescriptor yX10_labelAt.desc).map (fun d => d.parameters.length) = some 2 := by decide +kernel
def b_X10_isAhead_2 (x1 : Int32) (x2 : Int32) (u : z_M) : Int32 → (Int32 → Option (Int32)) → (Unit → Option (Int32)) → Option (Int32) := fun q kb kx =>
  if x1 ≤ (q + 1) then (kx ()) else (z_gd (z_inb x2 64) (if (z_gI u 10 x2.toNatClampNeg) ≤ (q + 1) then (kx ()) else (z_gd (z_inb q 10) (z_gd (z_inb (q + 1) 10) (Option.bind (f_X10_labelBy (z_gI u 11 q.toNatClampNeg) (z_gI u 11 (q + 1).toNatClampNeg) u) (fun r6 => Option.bind (f_X10_labelAt x2 q u) (fun r7 => if r6 = r7 then (kb (q + 1)) else (Option.bind (f_X10_labelAt x2 q u) (fun r9 => if r9 ≤ r6 then (some 0) else (some 1))))))))))
def b_X10_isAhead_103 (x1 : Int32) (x2 : Int32) (u : z_M) : Int32 → (Int32 → Option (Int32)) → (Unit → Option (Int32)) → Option (Int32) := fun q kb kx =>
  if x1 ≤ q then (kx ()) else (z_gd (z_inb q 10) (Option.bind (f_X10_chainAt x2 q u) (fun r16 => if (z_gI u 11 q.toNatClampNeg) = r16 then (kb (q + 1)) else (z_gd (z_inb q 10) (Option.bind (f_X10_chainAt x2 q u) (fun r19 => if r19 ≤ (z_gI u 11 q.toNatClampNeg) then (some 0) else (some 1)))))))
def f_X10_isAhead (a1 : Int32) (a2 : Int32) (u : z_M) : Option (Int32) :=
  z_lp (b_X10_isAhead_2 a1 a2 u) z_F 0 (fun t11 => z_gd (z_inb a2 64) (if a1 = (z_gI u 10 a2.toNatClampNeg) then (z_lp (b_X10_isAhead_103 a1 a2 u) z_F 0 (fun t21 => some 0)) else (z_gd (z_inb a2 64) (if (z_gI u 10 a2.toNatClampNeg) ≤ a1 then (some 0) else (some 1)))))
set_option maxRecDepth 20000 in
set_option maxHeartbeats 4000000 in
theorem wb_X10_isAhead_2 {p : Program} {l : Launch} {e : Env} {R : Room} {s : State} {m : MethodId} {args : Array Value} {below : List Frame} {meth : Method} {c : Code} {g : z_G} {u : z_M} {res : Int32} (hR : R = z_rm 4) (X : z_X p R s m args meth c cX10_isAhead 5 RX10 wsX10_isAhead (some .boolean) g z_shR) (x1 : Int32) (x2 : Int32) (q : Int32) (kb : Int32 → Option (Int32)) (kx : Unit → Option (Int32)) (hkb : ∀ q, kb q = some res → z_V p l e R s m args below meth c 5 g z_shR (MQ below (z_Qc g z_shR (fun v u' => v = some (.int res) ∧ u' = u)) args s 0 0 (z_A g z_shR)) 2 [(0, .ref (z_ad g 0)), (1, .int x1), (2, .int x2), (3, .int q)] [] u) (hkx : ∀ t, kx t = some res → z_V p l e R s m args below meth c 5 g z_shR (MQ below (z_Qc g z_shR (fun v u' => v = some (.int res) ∧ u' = u)) args s 0 0 (z_A g z_shR)) 75 [(0, .ref (z_ad g 0)), (1, .int x1), (2, .int x2)] [] u) (h : b_X10_isAhead_2 x1 x2 u q kb kx = some res) : z_V p l e R s m args below meth c 5 g z_shR (MQ below (z_Qc g z_shR (fun v u' => v = some (.int res) ∧ u' = u)) args s 0 0 (z_A g z_shR)) 2 [(0, .ref (z_ad g 0)), (1, .int x1), (2, .int x2), (3, .int q)] [] u := by
  unfold b_X10_isAhead_2 at h
  refine z_iload_n X 3 dX10_isAhead_2 rfl rfl (z_iconst X (v := 1) dX10_isAhead_3 (by decide) (z_iadd X dX10_isAhead_4 (z_iload_n X 1 dX10_isAhead_5 rfl rfl (z_icmp_ge X 75 dX10_isAhead_6 (by decide) (fun c1 => ?_) (fun c1 => ?_)))))
  · replace h := z_ip c1 h
    refine z_sub [0, 1, 2] [(0, .ref (z_ad g 0)), (1, .int x1), (2, .int x2)] rfl ?_
    exact hkx () h
  · replace h := z_in c1 h
    obtain ⟨b2, h⟩ := z_gs h
    refine z_iload_n X 3 dX10_isAhead_9 rfl rfl (z_iconst X (v := 1) dX10_isAhead_10 (by decide) (z_iadd X dX10_isAhead_11 (z_aload_n X 0 dX10_isAhead_12 rfl rfl (z_getR X (k0 := 17) z_r0 rfl in_X10_isAhead_X10 (by decide) rfl rfl lk_X10_isAhead_45 dX10_isAhead_13 (z_iload_n X 2 dX10_isAhead_16 rfl rfl (z_iald X z_r10 (z_inS b2) dX10_isAhead_17 (z_icmp_ge X 75 dX10_isAhead_18 (by decide) (fun c3 => ?_) (fun c3 => ?_))))))))
    · replace h := z_ip c3 h
      refine z_sub [0, 1, 2] [(0, .ref (z_ad g 0)), (1, .int x1), (2, .int x2)] rfl ?_
      exact hkx () h
    · replace h := z_in c3 h
      obtain ⟨b4, h⟩ := z_gs h
      obtain ⟨b5, h⟩ := z_gs h
      obtain ⟨r6, er6, h⟩ := z_bs h
      obtain ⟨r7, er7, h⟩ := z_bs h
      refine z_aload_n X 0 dX10_isAhead_21 rfl rfl (z_aload_n X 0 dX10_isAhead_22 rfl rfl (z_getR X (k0 := 19) z_r0 rfl in_X10_isAhead_X10 (by decide) rfl rfl lk_X10_isAhead_48 dX10_isAhead_23 (z_iload_n X 3 dX10_isAhead_26 rfl rfl (z_iald X z_r11 (z_inS b4) dX10_isAhead_27 (z_aload_n X 0 dX10_isAhead_28 rfl rfl (z_getR X (k0 := 19) z_r0 rfl in_X10_isAhead_X10 (by decide) rfl rfl lk_X10_isAhead_48 dX10_isAhead_29 (z_iload_n X 3 dX10_isAhead_32 rfl rfl (z_iconst X (v := 1) dX10_isAhead_33 (by decide) (z_iadd X dX10_isAhead_34 (z_iald X z_r11 (z_inS b5) dX10_isAhead_35 (z_callVi X (r := r6) (u1 := u) [.int (z_gI u 11 q.toNatClampNeg), .int (z_gI u 11 (q + 1).toNatClampNeg)] [] (w_X10_labelBy l g (z_gI u 11 q.toNatClampNeg) (z_gI u 11 (q + 1).toNatClampNeg) u er6) z_r0 rfl gX10_isAhead_X10_labelBy hy_X10_labelBy rfl (z_le1 hR (by decide)) (z_le2 hR (by decide) (by decide)) (Nat.le_of_ble_eq_true rfl) dX10_isAhead_36 (z_istore X [(4, .int r6), (0, .ref (z_ad g 0)), (1, .int x1), (2, .int x2), (3, .int q)] dX10_isAhead_39 (by decide) rfl (z_iload X 0 dX10_isAhead_41 rfl (z_aload_n X 1 dX10_isAhead_43 rfl rfl (z_iload_n X 3 dX10_isAhead_44 rfl rfl (z_iload_n X 4 dX10_isAhead_45 rfl rfl (z_callVi X (r := r7) (u1 := u) [.int x2, .int q] [.int r6] (w_X10_labelAt l g x2 q u er7) z_r0 rfl gX10_isAhead_X10_labelAt hy_X10_labelAt rfl (z_le1 hR (by decide)) (z_le2 hR (by decide) (by decide)) (Nat.le_of_ble_eq_true rfl) dX10_isAhead_46 (z_icmp_eq X 69 dX10_isAhead_49 (by decide) (fun c8 => ?_) (fun c8 => ?_)))))))))))))))))))
      · replace h := z_ip c8 h
        refine z_iinc X (v := q + 1) 4 [(3, .int (q + 1)), (4, .int r6), (0, .ref (z_ad g 0)), (1, .int x1), (2, .int x2)] dX10_isAhead_69 rfl rfl (by decide) rfl (z_goto X 2 dX10_isAhead_72 (by decide) (z_sub [2, 3, 4, 0] [(0, .ref (z_ad g 0)), (1, .int x1), (2, .int x2), (3, .int (q + 1))] rfl ?_))
        exact hkb (q + 1) h
      · replace h := z_in c8 h
        obtain ⟨r9, er9, h⟩ := z_bs h
        refine z_iload X 0 dX10_isAhead_52 rfl (z_aload_n X 1 dX10_isAhead_54 rfl rfl (z_iload_n X 3 dX10_isAhead_55 rfl rfl (z_iload_n X 4 dX10_isAhead_56 rfl rfl (z_callVi X (r := r9) (u1 := u) [.int x2, .int q] [.int r6] (w_X10_labelAt l g x2 q u er9) z_r0 rfl gX10_isAhead_X10_labelAt hy_X10_labelAt rfl (z_le1 hR (by decide)) (z_le2 hR (by decide) (by decide)) (Nat.le_of_ble_eq_true rfl) dX10_isAhead_57 (z_icmp_ge X 67 dX10_isAhead_60 (by decide) (fun c10 => ?_) (fun c10 => ?_))))))
        · replace h := z_ip c10 h
          refine z_iconst X (v := 0) dX10_isAhead_67 (by decide) ?_
          cases h; exact z_zret X rfl rfl dX10_isAhead_68 ⟨rfl, rfl⟩
        · replace h := z_in c10 h
          refine z_iconst X (v := 1) dX10_isAhead_63 (by decide) (z_goto X 68 dX10_isAhead_64 (by decide) ?_)
          cases h; exact z_zret X rfl rfl dX10_isAhead_68 ⟨rfl, rfl⟩
set_option maxRecDepth 20000 in
set_option maxHeartbeats 4000000 in
theorem wb_X10_isAhead_103 {p : Program} {l : Launch} {e : Env} {R : Room} {s : State} {m : MethodId} {args : Array Value} {below : List Frame} {meth : Method} {c : Code} {g : z_G} {u : z_M} {res : Int32} (hR : R = z_rm 4) (X : z_X p R s m args meth c cX10_isAhead 5 RX10 wsX10_isAhead (some .boolean) g z_shR) (x1 : Int32) (x2 : Int32) (q : Int32) (kb : Int32 → Option (Int32)) (kx : Unit → Option (Int32)) (hkb : ∀ q, kb q = some res → z_V p l e R s m args below meth c 5 g z_shR (MQ below (z_Qc g z_shR (fun v u' => v = some (.int res) ∧ u' = u)) args s 0 0 (z_A g z_shR)) 103 [(0, .ref (z_ad g 0)), (1, .int x1), (2, .int x2), (3, .int q)] [] u) (hkx : ∀ t, kx t = some res → z_V p l e R s m args below meth c 5 g z_shR (MQ below (z_Qc g z_shR (fun v u' => v = some (.int res) ∧ u' = u)) args s 0 0 (z_A g z_shR)) 150 [] [] u) (h : b_X10_isAhead_103 x1 x2 u q kb kx = some res) : z_V p l e R s m args below meth c 5 g z_shR (MQ below (z_Qc g z_shR (fun v u' => v = some (.int res) ∧ u' = u)) args s 0 0 (z_A g z_shR)) 103 [(0, .ref (z_ad g 0)), (1, .int x1), (2, .int x2), (3, .int q)] [] u := by
  unfold b_X10_isAhead_103 at h
  refine z_iload_n X 3 dX10_isAhead_103 rfl rfl (z_iload_n X 1 dX10_isAhead_104 rfl rfl (z_icmp_ge X 150 dX10_isAhead_105 (by decide) (fun c14 => ?_) (fun c14 => ?_)))
  · replace h := z_ip c14 h
    refine z_sub [] [] rfl ?_
    exact hkx () h
  · replace h := z_in c14 h
    obtain ⟨b15, h⟩ := z_gs h
    obtain ⟨r16, er16, h⟩ := z_bs h
    refine z_aload_n X 0 dX10_isAhead_108 rfl rfl (z_getR X (k0 := 19) z_r0 rfl in_X10_isAhead_X10 (by decide) rfl rfl lk_X10_isAhead_48 dX10_isAhead_109 (z_iload_n X 3 dX10_isAhead_112 rfl rfl (z_iald X z_r11 (z_inS b15) dX10_isAhead_113 (z_aload_n X 0 dX10_isAhead_114 rfl rfl (z_iload_n X 2 dX10_isAhead_115 rfl rfl (z_iload_n X 3 dX10_isAhead_116 rfl rfl (z_callVi X (r := r16) (u1 := u) [.int x2, .int q] [.int (z_gI u 11 q.toNatClampNeg)] (w_X10_chainAt l g x2 q u er16) z_r0 rfl gX10_isAhead_X10_chainAt hy_X10_chainAt rfl (z_le1 hR (by decide)) (z_le2 hR (by decide) (by decide)) (Nat.le_of_ble_eq_true rfl) dX10_isAhead_117 (z_icmp_eq X 144 dX10_isAhead_120 (by decide) (fun c17 => ?_) (fun c17 => ?_)))))))))
    · replace h := z_ip c17 h
      refine z_iinc X (v := q + 1) 3 [(3, .int (q + 1)), (0, .ref (z_ad g 0)), (1, .int x1), (2, .int x2)] dX10_isAhead_144 rfl rfl (by decide) rfl (z_goto X 103 dX10_isAhead_147 (by decide) (z_sub [1, 2, 3, 0] [(0, .ref (z_ad g 0)), (1, .int x1), (2, .int x2), (3, .int (q + 1))] rfl ?_))
      exact hkb (q + 1) h
    · replace h := z_in c17 h
      obtain ⟨b18, h⟩ := z_gs h
      obtain ⟨r19, er19, h⟩ := z_bs h
      refine z_aload_n X 0 dX10_isAhead_123 rfl rfl (z_getR X (k0 := 19) z_r0 rfl in_X10_isAhead_X10 (by decide) rfl rfl lk_X10_isAhead_48 dX10_isAhead_124 (z_iload_n X 3 dX10_isAhead_127 rfl rfl (z_iald X z_r11 (z_inS b18) dX10_isAhead_128 (z_aload_n X 0 dX10_isAhead_129 rfl rfl (z_iload_n X 2 dX10_isAhead_130 rfl rfl (z_iload_n X 3 dX10_isAhead_131 rfl rfl (z_callVi X (r := r19) (u1 := u) [.int x2, .int q] [.int (z_gI u 11 q.toNatClampNeg)] (w_X10_chainAt l g x2 q u er19) z_r0 rfl gX10_isAhead_X10_chainAt hy_X10_chainAt rfl (z_le1 hR (by decide)) (z_le2 hR (by decide) (by decide)) (Nat.le_of_ble_eq_true rfl) dX10_isAhead_132 (z_icmp_ge X 142 dX10_isAhead_135 (by decide) (fun c20 => ?_) (fun c20 => ?_)))))))))
      · replace h := z_ip c20 h
        refine z_iconst X (v := 0) dX10_isAhead_142 (by decide) ?_
        cases h; exact z_zret X rfl rfl dX10_isAhead_143 ⟨rfl, rfl⟩
      · replace h := z_in c20 h
        refine z_iconst X (v := 1) dX10_isAhead_138 (by decide) (z_goto X 143 dX10_isAhead_139 (by decide) ?_)
        cases h; exact z_zret X rfl rfl dX10_isAhead_143 ⟨rfl, rfl⟩
set_option maxRecDepth 20000 in
set_option maxHeartbeats 4000000 in
theorem w_X10_isAhead (l : Launch) (g : z_G) (a1 : Int32) (a2 : Int32) (u : z_M) {res : Int32} (h : f_X10_isAhead a1 a2 u = some res) : z_C l g z_shR yX10_isAhead wsX10_isAhead 4 [.ref (z_ad g 0), .int a1, .int a2] u (fun v u' => v = some (.int res) ∧ u' = u) := by
  refine z_C.mk (lv := [(0, .ref (z_ad g 0)), (1, .int a1), (2, .int a2)]) (cc := cX10_isAhead) (nL := 5) (rt := (some .boolean)) rfl (by decide) (Nat.le_of_ble_eq_true rfl) rfl (fun p e R s m args below meth c hR X => ?_)
  unfold f_X10_isAhead at h
  refine z_iconst X (v := 0) dX10_isAhead_0 (by decide) (z_istore_n X [(3, .int 0), (0, .ref (z_ad g 0)), (1, .int a1), (2, .int a2)] dX10_isAhead_1 rfl (by decide) rfl (z_sub [1, 2, 3, 0] [(0, .ref (z_ad g 0)), (1, .int a1), (2, .int a2), (3, .int 0)] rfl ?_))
  have hw := z_lp_w (fun q9 kb9 kx9 h1 h2 h3 => wb_X10_isAhead_2 (l := l) (e := e) (below := below) (u := u) hR X a1 a2 q9 kb9 kx9 h1 h2 h3) z_F _ _ h
  refine hw (fun t11 h => ?_)
  obtain ⟨b12, h⟩ := z_gs h
  refine z_iload_n X 1 dX10_isAhead_75 rfl rfl (z_aload_n X 0 dX10_isAhead_76 rfl rfl (z_getR X (k0 := 17) z_r0 rfl in_X10_isAhead_X10 (by decide) rfl rfl lk_X10_isAhead_45 dX10_isAhead_77 (z_iload_n X 2 dX10_isAhead_80 rfl rfl (z_iald X z_r10 (z_inS b12) dX10_isAhead_81 (z_icmp_eq X 101 dX10_isAhead_82 (by decide) (fun c13 => ?_) (fun c13 => ?_))))))
  · replace h := z_ip c13 h
    refine z_iconst X (v := 0) dX10_isAhead_101 (by decide) (z_istore_n X [(3, .int 0), (0, .ref (z_ad g 0)), (1, .int a1), (2, .int a2)] dX10_isAhead_102 rfl (by decide) rfl (z_sub [1, 2, 3, 0] [(0, .ref (z_ad g 0)), (1, .int a1), (2, .int a2), (3, .int 0)] rfl ?_))
    have hw := z_lp_w (fun q9 kb9 kx9 h1 h2 h3 => wb_X10_isAhead_103 (l := l) (e := e) (below := below) (u := u) hR X a1 a2 q9 kb9 kx9 h1 h2 h3) z_F _ _ h
    refine hw (fun t21 h => ?_)
    refine z_iconst X (v := 0) dX10_isAhead_150 (by decide) ?_
    cases h; exact z_zret X rfl rfl dX10_isAhead_151 ⟨rfl, rfl⟩
  · replace h := z_in c13 h
    obtain ⟨b22, h⟩ := z_gs h
    refine z_iload_n X 1 dX10_isAhead_85 rfl rfl (z_aload_n X 0 dX10_isAhead_86 rfl rfl (z_getR X (k0 := 17) z_r0 rfl in_X10_isAhead_X10 (by decide) rfl rfl lk_X10_isAhead_45 dX10_isAhead_87 (z_iload_n X 2 dX10_isAhead_90 rfl rfl (z_iald X z_r10 (z_inS b22) dX10_isAhead_91 (z_icmp_ge X 99 dX10_isAhead_92 (by decide) (fun c23 => ?_) (fun c23 => ?_))))))
    · replace h := z_ip c23 h
      refine z_iconst X (v := 0) dX10_isAhead_99 (by decide) ?_
      cases h; exact z_zret X rfl rfl dX10_isAhead_100 ⟨rfl, rfl⟩
    · replace h := z_in c23 h
      refine z_iconst X (v := 1) dX10_isAhead_95 (by decide) (z_goto X 100 dX10_isAhead_96 (by decide) ?_)
      cases h; exact z_zret X rfl rfl dX10_isAhead_100 ⟨rfl, rfl⟩

theorem lk_X10_addChain_279 : (Cond.fieldLink RX10 279 RX10 (TX10 18).2.1 (TX10 18).2.2.1) ∈ wsX10_addChain := by decide +kernel
theorem in_X10_addChain_X10 : ∀ w ∈ u_ws RX10 TX10 30, w ∈ wsX10_addChain := fun _ h => List.mem_cons_of_mem _ (List.mem_append_right _ h)
theorem lk_X10_addChain_45 : (Cond.fieldLink RX10 45 RX10 (TX10 17).2.1 (TX10 17).2.2.1) ∈ wsX10_addChain := by decide +kernel
theorem lk_X10_addChain_42 : (Cond.fieldLink RX10 42 RX10 (TX10 16).2.1 (TX10 16).2.2.1) ∈ wsX10_addChain := by decide +kernel
theorem lk_X10_addChain_48 : (Cond.fieldLink RX10 48 RX10 (TX10 19).2.1 (TX10 19).2.2.1) ∈ wsX10_addChain := by decide +kernel
theorem hy_X10_isAhead : yX10_isAhead.cls = RX10 ∧ yX10_isAhead.cls ≠ "java/lang/invoke/MethodHandle" ∧ yX10_isAhead.cls ≠ "java/lang/invoke/VarHandle" ∧ (parseMethodDescriptor yX10_isAhead.desc).map (fun d => d.parameters.length) = some 2 := by decide +kernel
def b_X10_addChain_36 (x1 : Int32) (x2 : Int32) : (Int32 × z_M) → ((Int32 × z_M) → Option (z_M)) → (z_M → Option (z_M)) → Option (z_M) := fun q kb kx =>
  if 9 ≤ q.1 then (kx q.2) else (z_gd (z_inb (((9 * x2) - 9) + q.1) 576) (z_gd (z_inb ((9 * x2) + q.1) 576) (z_lt (z_sI q.2 9 ((9 * x2) + q.1).toNatClampNeg (z_gI q.2 9 (((9 * x2) - 9) + q.1).toNatClampNeg)) (fun u11 => kb (q.1 + 1, u11)))))
def b_X10_addChain_5 (x1 : Int32) : (Int32 × z_M) → ((Int32 × z_M) → Option (z_M)) → ((Int32 × z_M) → Option (z_M)) → Option (z_M) := fun q kb kx =>
  if q.1 ≤ 0 then (kx (q.1, q.2)) else (Option.bind (f_X10_isAhead x1 (q.1 - 1) q.2) (fun r3 => if r3 = 0 then (kx (q.1, q.2)) else (z_gd (z_inb (q.1 - 1) 64) (z_gd (z_inb q.1 64) (z_lt (z_sI q.2 10 q.1.toNatClampNeg (z_gI q.2 10 (q.1 - 1).toNatClampNeg)) (fun u7 => z_lp (b_X10_addChain_36 x1 q.1) z_F (0, u7) (fun t12 => kb (q.1 + (-1), t12))))))))
def b_X10_addChain_88 (x1 : Int32) (x2 : Int32) : (Int32 × z_M) → ((Int32 × z_M) → Option (z_M)) → (z_M → Option (z_M)) → Option (z_M) := fun q kb kx =>
  if x1 ≤ q.1 then (kx q.2) else (z_gd (z_inb q.1 10) (z_gd (z_inb ((9 * x2) + q.1) 576) (z_lt (z_sI q.2 9 ((9 * x2) + q.1).toNatClampNeg (z_gI q.2 11 q.1.toNatClampNeg)) (fun u19 => kb (q.1 + 1, u19)))))
def f_X10_addChain (a1 : Int32) (u : z_M) : Option (z_M) :=
  z_lt (z_gI u 0 18) (fun v1 => z_lp (b_X10_addChain_5 a1) z_F (v1, u) (fun t13 => z_gd (z_inb t13.1 64) (z_lt (z_sI t13.2 10 t13.1.toNatClampNeg a1) (fun u15 => z_lp (b_X10_addChain_88 a1 t13.1) z_F (0, u15) (fun t20 => z_lt (z_sI t20 0 18 ((z_gI t20 0 18) + 1)) (fun u21 => some u21))))))
set_option maxRecDepth 20000 in
set_option maxHeartbeats 4000000 in
theorem wb_X10_addChain_36 {p : Program} {l : Launch} {e : Env} {R : Room} {s : State} {m : MethodId} {args : Array Value} {below : List Frame} {meth : Method} {c : Code} {g : z_G} {u : z_M} {res : z_M} (hR : R = z_rm 5) (X : z_X p R s m args meth c cX10_addChain 4 RX10 wsX10_addChain none g z_shR) (x1 : Int32) (x2 : Int32) (q : Int32 × z_M) (kb : (Int32 × z_M) → Option (z_M)) (kx : z_M → Option (z_M)) (hkb : ∀ q, kb q = some res → z_V p l e R s m args below meth c 4 g z_shR (MQ below (z_Qc g z_shR (fun v u' => v = none ∧ u' = res)) args s 0 0 (z_A g z_shR)) 36 [(0, .ref (z_ad g 0)), (1, .int x1), (2, .int x2), (3, .int q.1)] [] q.2) (hkx : ∀ t, kx t = some res → z_V p l e R s m args below meth c 4 g z_shR (MQ below (z_Qc g z_shR (fun v u' => v = none ∧ u' = res)) args s 0 0 (z_A g z_shR)) 73 [(0, .ref (z_ad g 0)), (1, .int x1), (2, .int x2)] [] t) (h : b_X10_addChain_36 x1 x2 q kb kx = some res) : z_V p l e R s m args below meth c 4 g z_shR (MQ below (z_Qc g z_shR (fun v u' => v = none ∧ u' = res)) args s 0 0 (z_A g z_shR)) 36 [(0, .ref (z_ad g 0)), (1, .int x1), (2, .int x2), (3, .int q.1)] [] q.2 := by
  unfold b_X10_addChain_36 at h
  refine z_iload_n X 3 dX10_addChain_36 rfl rfl (z_bipush X (v := 9) dX10_addChain_37 (by decide) (z_icmp_ge X 73 dX10_addChain_39 (by decide) (fun c8 => ?_) (fun c8 => ?_)))
  · replace h := z_ip c8 h
    refine z_sub [0, 1, 2] [(0, .ref (z_ad g 0)), (1, .int x1), (2, .int x2)] rfl ?_
    exact hkx q.2 h
  · replace h := z_in c8 h
    obtain ⟨b9, h⟩ := z_gs h
    obtain ⟨b10, h⟩ := z_gs h
    obtain ⟨u11, eu11, h⟩ := z_ls h
    refine z_aload_n X 0 dX10_addChain_42 rfl rfl (z_getR X (k0 := 16) z_r0 rfl in_X10_addChain_X10 (by decide) rfl rfl lk_X10_addChain_42 dX10_addChain_43 (z_bipush X (v := 9) dX10_addChain_46 (by decide) (z_iload_n X 2 dX10_addChain_48 rfl rfl (z_imul X dX10_addChain_49 (z_iload_n X 3 dX10_addChain_50 rfl rfl (z_iadd X dX10_addChain_51 (z_aload_n X 0 dX10_addChain_52 rfl rfl (z_getR X (k0 := 16) z_r0 rfl in_X10_addChain_X10 (by decide) rfl rfl lk_X10_addChain_42 dX10_addChain_53 (z_bipush X (v := 9) dX10_addChain_56 (by decide) (z_iload_n X 2 dX10_addChain_58 rfl rfl (z_imul X dX10_addChain_59 (z_bipush X (v := 9) dX10_addChain_60 (by decide) (z_isub X dX10_addChain_62 (z_iload_n X 3 dX10_addChain_63 rfl rfl (z_iadd X dX10_addChain_64 (z_iald X z_r9 (z_inS b9) dX10_addChain_65 (z_iast X z_r9 (z_inS b10) dX10_addChain_66 (z_nm eu11 (z_iinc X (v := q.1 + 1) 3 [(3, .int (q.1 + 1)), (0, .ref (z_ad g 0)), (1, .int x1), (2, .int x2)] dX10_addChain_67 rfl rfl (by decide) rfl (z_goto X 36 dX10_addChain_70 (by decide) (z_sub [1, 2, 3, 0] [(0, .ref (z_ad g 0)), (1, .int x1), (2, .int x2), (3, .int (q.1 + 1))] rfl ?_)))))))))))))))))))))
    exact hkb (q.1 + 1, u11) h
set_option maxRecDepth 20000 in
set_option maxHeartbeats 4000000 in
theorem wb_X10_addChain_5 {p : Program} {l : Launch} {e : Env} {R : Room} {s : State} {m : MethodId} {args : Array Value} {below : List Frame} {meth : Method} {c : Code} {g : z_G} {u : z_M} {res : z_M} (hR : R = z_rm 5) (X : z_X p R s m args meth c cX10_addChain 4 RX10 wsX10_addChain none g z_shR) (x1 : Int32) (q : Int32 × z_M) (kb : (Int32 × z_M) → Option (z_M)) (kx : (Int32 × z_M) → Option (z_M)) (hkb : ∀ q, kb q = some res → z_V p l e R s m args below meth c 4 g z_shR (MQ below (z_Qc g z_shR (fun v u' => v = none ∧ u' = res)) args s 0 0 (z_A g z_shR)) 5 [(0, .ref (z_ad g 0)), (1, .int x1), (2, .int q.1)] [] q.2) (hkx : ∀ t, kx t = some res → z_V p l e R s m args below meth c 4 g z_shR (MQ below (z_Qc g z_shR (fun v u' => v = none ∧ u' = res)) args s 0 0 (z_A g z_shR)) 79 [(0, .ref (z_ad g 0)), (1, .int x1), (2, .int t.1)] [] t.2) (h : b_X10_addChain_5 x1 q kb kx = some res) : z_V p l e R s m args below meth c 4 g z_shR (MQ below (z_Qc g z_shR (fun v u' => v = none ∧ u' = res)) args s 0 0 (z_A g z_shR)) 5 [(0, .ref (z_ad g 0)), (1, .int x1), (2, .int q.1)] [] q.2 := by
  unfold b_X10_addChain_5 at h
  refine z_iload_n X 2 dX10_addChain_5 rfl rfl (z_if_le X 79 dX10_addChain_6 (by decide) (fun c2 => ?_) (fun c2 => ?_))
  · replace h := z_ip c2 h
    exact hkx (q.1, q.2) h
  · replace h := z_in c2 h
    obtain ⟨r3, er3, h⟩ := z_bs h
    refine z_aload_n X 0 dX10_addChain_9 rfl rfl (z_iload_n X 1 dX10_addChain_10 rfl rfl (z_iload_n X 2 dX10_addChain_11 rfl rfl (z_iconst X (v := 1) dX10_addChain_12 (by decide) (z_isub X dX10_addChain_13 (z_callVi X (r := r3) (u1 := q.2) [.int x1, .int (q.1 - 1)] [] (w_X10_isAhead l g x1 (q.1 - 1) q.2 er3) z_r0 rfl gX10_addChain_X10_isAhead hy_X10_isAhead rfl (z_le1 hR (by decide)) (z_le2 hR (by decide) (by decide)) (Nat.le_of_ble_eq_true rfl) dX10_addChain_14 (z_if_eq X 79 dX10_addChain_17 (by decide) (fun c4 => ?_) (fun c4 => ?_)))))))
    · replace h := z_ip c4 h
      exact hkx (q.1, q.2) h
    · replace h := z_in c4 h
      obtain ⟨b5, h⟩ := z_gs h
      obtain ⟨b6, h⟩ := z_gs h
      obtain ⟨u7, eu7, h⟩ := z_ls h
      refine z_aload_n X 0 dX10_addChain_20 rfl rfl (z_getR X (k0 := 17) z_r0 rfl in_X10_addChain_X10 (by decide) rfl rfl lk_X10_addChain_45 dX10_addChain_21 (z_iload_n X 2 dX10_addChain_24 rfl rfl (z_aload_n X 0 dX10_addChain_25 rfl rfl (z_getR X (k0 := 17) z_r0 rfl in_X10_addChain_X10 (by decide) rfl rfl lk_X10_addChain_45 dX10_addChain_26 (z_iload_n X 2 dX10_addChain_29 rfl rfl (z_iconst X (v := 1) dX10_addChain_30 (by decide) (z_isub X dX10_addChain_31 (z_iald X z_r10 (z_inS b5) dX10_addChain_32 (z_iast X z_r10 (z_inS b6) dX10_addChain_33 (z_nm eu7 (z_iconst X (v := 0) dX10_addChain_34 (by decide) (z_istore_n X [(3, .int 0), (0, .ref (z_ad g 0)), (1, .int x1), (2, .int q.1)] dX10_addChain_35 rfl (by decide) rfl (z_sub [1, 2, 3, 0] [(0, .ref (z_ad g 0)), (1, .int x1), (2, .int q.1), (3, .int 0)] rfl ?_)))))))))))))
      have hw := z_lp_w (fun q9 kb9 kx9 h1 h2 h3 => wb_X10_addChain_36 (l := l) (e := e) (below := below) (u := u7) hR X x1 q.1 q9 kb9 kx9 h1 h2 h3) z_F _ _ h
      refine hw (fun t12 h => ?_)
      refine z_iinc X (v := q.1 + (-1)) 2 [(2, .int (q.1 + (-1))), (0, .ref (z_ad g 0)), (1, .int x1)] dX10_addChain_73 rfl rfl (by decide) rfl (z_goto X 5 dX10_addChain_76 (by decide) (z_sub [1, 2, 0] [(0, .ref (z_ad g 0)), (1, .int x1), (2, .int (q.1 + (-1)))] rfl ?_))
      exact hkb (q.1 + (-1), t12) h
set_option maxRecDepth 20000 in
set_option maxHeartbeats 4000000 in
theorem wb_X10_addChain_88 {p : Program} {l : Launch} {e : Env} {R : Room} {s : State} {m : MethodId} {args : Array Value} {below : List Frame} {meth : Method} {c : Code} {g : z_G} {u : z_M} {res : z_M} (hR : R = z_rm 5) (X : z_X p R s m args meth c cX10_addChain 4 RX10 wsX10_addChain none g z_shR) (x1 : Int32) (x2 : Int32) (q : Int32 × z_M) (kb : (Int32 × z_M) → Option (z_M)) (kx : z_M → Option (z_M)) (hkb : ∀ q, kb q = some res → z_V p l e R s m args below meth c 4 g z_shR (MQ below (z_Qc g z_shR (fun v u' => v = none ∧ u' = res)) args s 0 0 (z_A g z_shR)) 88 [(0, .ref (z_ad g 0)), (1, .int x1), (2, .int x2), (3, .int q.1)] [] q.2) (hkx : ∀ t, kx t = some res → z_V p l e R s m args below meth c 4 g z_shR (MQ below (z_Qc g z_shR (fun v u' => v = none ∧ u' = res)) args s 0 0 (z_A g z_shR)) 116 [(0, .ref (z_ad g 0))] [] t) (h : b_X10_addChain_88 x1 x2 q kb kx = some res) : z_V p l e R s m args below meth c 4 g z_shR (MQ below (z_Qc g z_shR (fun v u' => v = none ∧ u' = res)) args s 0 0 (z_A g z_shR)) 88 [(0, .ref (z_ad g 0)), (1, .int x1), (2, .int x2), (3, .int q.1)] [] q.2 := by
  unfold b_X10_addChain_88 at h
  refine z_iload_n X 3 dX10_addChain_88 rfl rfl (z_iload_n X 1 dX10_addChain_89 rfl rfl (z_icmp_ge X 116 dX10_addChain_90 (by decide) (fun c16 => ?_) (fun c16 => ?_)))
  · replace h := z_ip c16 h
    refine z_sub [0] [(0, .ref (z_ad g 0))] rfl ?_
    exact hkx q.2 h
  · replace h := z_in c16 h
    obtain ⟨b17, h⟩ := z_gs h
    obtain ⟨b18, h⟩ := z_gs h
    obtain ⟨u19, eu19, h⟩ := z_ls h
    refine z_aload_n X 0 dX10_addChain_93 rfl rfl (z_getR X (k0 := 16) z_r0 rfl in_X10_addChain_X10 (by decide) rfl rfl lk_X10_addChain_42 dX10_addChain_94 (z_bipush X (v := 9) dX10_addChain_97 (by decide) (z_iload_n X 2 dX10_addChain_99 rfl rfl (z_imul X dX10_addChain_100 (z_iload_n X 3 dX10_addChain_101 rfl rfl (z_iadd X dX10_addChain_102 (z_aload_n X 0 dX10_addChain_103 rfl rfl (z_getR X (k0 := 19) z_r0 rfl in_X10_addChain_X10 (by decide) rfl rfl lk_X10_addChain_48 dX10_addChain_104 (z_iload_n X 3 dX10_addChain_107 rfl rfl (z_iald X z_r11 (z_inS b17) dX10_addChain_108 (z_iast X z_r9 (z_inS b18) dX10_addChain_109 (z_nm eu19 (z_iinc X (v := q.1 + 1) 3 [(3, .int (q.1 + 1)), (0, .ref (z_ad g 0)), (1, .int x1), (2, .int x2)] dX10_addChain_110 rfl rfl (by decide) rfl (z_goto X 88 dX10_addChain_113 (by decide) (z_sub [1, 2, 3, 0] [(0, .ref (z_ad g 0)), (1, .int x1), (2, .int x2), (3, .int (q.1 + 1))] rfl ?_)))))))))))))))
    exact hkb (q.1 + 1, u19) h
set_option maxRecDepth 20000 in
set_option maxHeartbeats 4000000 in
theorem w_X10_addChain (l : Launch) (g : z_G) (a1 : Int32) (u : z_M) {res : z_M} (h : f_X10_addChain a1 u = some res) : z_C l g z_shR yX10_addChain wsX10_addChain 5 [.ref (z_ad g 0), .int a1] u (fun v u' => v = none ∧ u' = res) := by
  refine z_C.mk (lv := [(0, .ref (z_ad g 0)), (1, .int a1)]) (cc := cX10_addChain) (nL := 4) (rt := none) rfl (by decide) (Nat.le_of_ble_eq_true rfl) rfl (fun p e R s m args below meth c hR X => ?_)
  unfold f_X10_addChain at h
  obtain ⟨v1, ev1, h⟩ := z_ls h
  refine z_aload_n X 0 dX10_addChain_0 rfl rfl (z_getI X (k0 := 18) z_r0 rfl in_X10_addChain_X10 (by decide) rfl rfl lk_X10_addChain_279 dX10_addChain_1 (z_ti ev1 (z_istore_n X [(2, .int v1), (0, .ref (z_ad g 0)), (1, .int a1)] dX10_addChain_4 rfl (by decide) rfl (z_sub [1, 2, 0] [(0, .ref (z_ad g 0)), (1, .int a1), (2, .int v1)] rfl ?_))))
  have hw := z_lp_w (fun q9 kb9 kx9 h1 h2 h3 => wb_X10_addChain_5 (l := l) (e := e) (below := below) (u := u) hR X a1 q9 kb9 kx9 h1 h2 h3) z_F _ _ h
  refine hw (fun t13 h => ?_)
  obtain ⟨b14, h⟩ := z_gs h
  obtain ⟨u15, eu15, h⟩ := z_ls h
  refine z_aload_n X 0 dX10_addChain_79 rfl rfl (z_getR X (k0 := 17) z_r0 rfl in_X10_addChain_X10 (by decide) rfl rfl lk_X10_addChain_45 dX10_addChain_80 (z_iload_n X 2 dX10_addChain_83 rfl rfl (z_iload_n X 1 dX10_addChain_84 rfl rfl (z_iast X z_r10 (z_inS b14) dX10_addChain_85 (z_nm eu15 (z_iconst X (v := 0) dX10_addChain_86 (by decide) (z_istore_n X [(3, .int 0), (0, .ref (z_ad g 0)), (1, .int a1), (2, .int t13.1)] dX10_addChain_87 rfl (by decide) rfl (z_sub [1, 2, 3, 0] [(0, .ref (z_ad g 0)), (1, .int a1), (2, .int t13.1), (3, .int 0)] rfl ?_))))))))
  have hw := z_lp_w (fun q9 kb9 kx9 h1 h2 h3 => wb_X10_addChain_88 (l := l) (e := e) (below := below) (u := u15) hR X a1 t13.1 q9 kb9 kx9 h1 h2 h3) z_F _ _ h
  refine hw (fun t20 h => ?_)
  obtain ⟨u21, eu21, h⟩ := z_ls h
  refine z_aload_n X 0 dX10_addChain_116 rfl rfl (z_dup X dX10_addChain_117 rfl (z_getI X (k0 := 18) z_r0 rfl in_X10_addChain_X10 (by decide) rfl rfl lk_X10_addChain_279 dX10_addChain_118 (z_iconst X (v := 1) dX10_addChain_121 (by decide) (z_iadd X dX10_addChain_122 (z_putI X (k0 := 18) (ty0 := tyX10) z_r0 rfl in_X10_addChain_X10 tyX10_ok nmX10 (by decide) rfl rfl rfl rfl rfl lk_X10_addChain_279 dX10_addChain_123 (z_nm eu21 ?_))))))
  cases h; exact z_vret X rfl dX10_addChain_126 ⟨rfl, rfl⟩

def f_X10_between (a1 : Int32) (a2 : Int32) (u : z_M) : Option (Int32) :=
  Option.bind (f_X10_upTo a1 u) (fun r1 => Option.bind (f_X10_downTo a2 u) (fun r2 => some (r1 &&& r2)))
set_option maxRecDepth 20000 in
set_option maxHeartbeats 4000000 in
theorem w_X10_between (l : Launch) (g : z_G) (a1 : Int32) (a2 : Int32) (u : z_M) {res : Int32} (h : f_X10_between a1 a2 u = some res) : z_C l g z_shR yX10_between wsX10_between 5 [.ref (z_ad g 0), .int a1, .int a2] u (fun v u' => v = some (.int res) ∧ u' = u) := by
  refine z_C.mk (lv := [(0, .ref (z_ad g 0)), (1, .int a1), (2, .int a2)]) (cc := cX10_between) (nL := 3) (rt := (some .int)) rfl (by decide) (Nat.le_of_ble_eq_true rfl) rfl (fun p e R s m args below meth c hR X => ?_)
  unfold f_X10_between at h
  obtain ⟨r1, er1, h⟩ := z_bs h
  obtain ⟨r2, er2, h⟩ := z_bs h
  refine z_aload_n X 0 dX10_between_0 rfl rfl (z_iload_n X 1 dX10_between_1 rfl rfl (z_callVi X (r := r1) (u1 := u) [.int a1] [] (w_X10_upTo l g a1 u er1) z_r0 rfl gX10_between_X10_upTo hy_X10_upTo rfl (z_le1 hR (by decide)) (z_le2 hR (by decide) (by decide)) (Nat.le_of_ble_eq_true rfl) dX10_between_2 (z_aload_n X 0 dX10_between_5 rfl rfl (z_iload_n X 2 dX10_between_6 rfl rfl (z_callVi X (r := r2) (u1 := u) [.int a2] [.int r1] (w_X10_downTo l g a2 u er2) z_r0 rfl gX10_between_X10_downTo hy_X10_downTo rfl (z_le1 hR (by decide)) (z_le2 hR (by decide) (by decide)) (Nat.le_of_ble_eq_true rfl) dX10_between_7 (z_iand X dX10_between_10 ?_))))))
  cases h; exact z_iret X rfl dX10_between_11 ⟨rfl, rfl⟩

theorem lk_X10_layChains_279 : (Cond.fieldLink RX10 279 RX10 (TX10 18).2.1 (TX10 18).2.2.1) ∈ wsX10_layChains := by decide +kernel
theorem in_X10_layChains_X10 : ∀ w ∈ u_ws RX10 TX10 30, w ∈ wsX10_layChains := fun _ h => List.mem_cons_of_mem _ (List.mem_append_right _ h)
theorem lk_X10_layChains_48 : (Cond.fieldLink RX10 48 RX10 (TX10 19).2.1 (TX10 19).2.2.1) ∈ wsX10_layChains := by decide +kernel
theorem lk_X10_layChains_51 : (Cond.fieldLink RX10 51 RX10 (TX10 20).2.1 (TX10 20).2.2.1) ∈ wsX10_layChains := by decide +kernel
theorem hy_X10_addChain : yX10_addChain.cls = RX10 ∧ yX10_addChain.cls ≠ "java/lang/invoke/MethodHandle" ∧ yX10_addChain.cls ≠ "java/lang/invoke/VarHandle" ∧ (parseMethodDescriptor yX10_addChain.desc).map (fun d => d.parameters.length) = some 1 := by decide +kernel
theorem hy_X10_between : yX10_between.cls = RX10 ∧ yX10_between.cls ≠ "java/lang/invoke/MethodHandle" ∧ yX10_between.cls ≠ "java/lang/invoke/VarHandle" ∧ (parseMethodDescriptor yX10_between.desc).map (fun d => d.parameters.length) = some 2 := by decide +kernel
def b_X10_layChains_21 (x1 : Int32) (x2 : Int32) : (Int32 × z_M) → ((Int32 × z_M) → Option (z_M)) → (z_M → Option (z_M)) → Option (z_M) := fun q kb kx =>
  if q.1 ≤ 0 then (kx q.2) else (z_gd (z_inb (q.1 - 1) 10) (z_lt (z_gI q.2 11 (q.1 - 1).toNatClampNeg) (fun v8 => z_gd (z_inb (q.1 - 1) 10) (z_lt (z_gI q.2 12 (q.1 - 1).toNatClampNeg) (fun v10 => if v8 = x2 then (Option.bind (f_X10_addChain q.1 q.2) (fun r12 => kb (q.1 + (-1), r12))) else (if v10 = 9 then (kb (q.1 + (-1), q.2)) else (z_gd (z_inb (q.1 - 1) 10) (z_gd (z_inb (q.1 - 1) 10) (z_lt (z_sI q.2 12 (q.1 - 1).toNatClampNeg ((z_gI q.2 12 (q.1 - 1).toNatClampNeg) + 1)) (fun u16 => Option.bind (f_X10_between x1 x2 u16) (fun r17 => Option.bind (f_X10_has r17 v10) (fun r18 => if r18 = 0 then (kb (q.1, u16)) else (Option.bind (f_X10_covers v10 v8 u16) (fun r20 => if r20 = 0 then (kb (q.1, u16)) else (z_gd (z_inb q.1 10) (z_lt (z_sI u16 11 q.1.toNatClampNeg v10) (fun u23 => z_gd (z_inb q.1 10) (z_lt (z_sI u23 12 q.1.toNatClampNeg 0) (fun u25 => kb (q.1 + 1, u25))))))))))))))))))))
def f_X10_layChains (a1 : Int32) (a2 : Int32) (u : z_M) : Option (z_M) :=
  z_lt (z_sI u 0 18 0) (fun u1 => z_gd (z_inb 0 10) (z_lt (z_sI u1 11 (0 : Int32).toNatClampNeg a1) (fun u3 => z_gd (z_inb 0 10) (z_lt (z_sI u3 12 (0 : Int32).toNatClampNeg 0) (fun u5 => z_lp (b_X10_layChains_21 a1 a2) z_F (1, u5) (fun t26 => some t26))))))
set_option maxRecDepth 20000 in
set_option maxHeartbeats 4000000 in
theorem wb_X10_layChains_21 {p : Program} {l : Launch} {e : Env} {R : Room} {s : State} {m : MethodId} {args : Array Value} {below : List Frame} {meth : Method} {c : Code} {g : z_G} {u : z_M} {res : z_M} (hR : R = z_rm 6) (X : z_X p R s m args meth c cX10_layChains 6 RX10 wsX10_layChains none g z_shR) (x1 : Int32) (x2 : Int32) (q : Int32 × z_M) (kb : (Int32 × z_M) → Option (z_M)) (kx : z_M → Option (z_M)) (hkb : ∀ q, kb q = some res → z_V p l e R s m args below meth c 6 g z_shR (MQ below (z_Qc g z_shR (fun v u' => v = none ∧ u' = res)) args s 0 0 (z_A g z_shR)) 21 [(0, .ref (z_ad g 0)), (1, .int x1), (2, .int x2), (3, .int q.1)] [] q.2) (hkx : ∀ t, kx t = some res → z_V p l e R s m args below meth c 6 g z_shR (MQ below (z_Qc g z_shR (fun v u' => v = none ∧ u' = res)) args s 0 0 (z_A g z_shR)) 133 [] [] t) (h : b_X10_layChains_21 x1 x2 q kb kx = some res) : z_V p l e R s m args below meth c 6 g z_shR (MQ below (z_Qc g z_shR (fun v u' => v = none ∧ u' = res)) args s 0 0 (z_A g z_shR)) 21 [(0, .ref (z_ad g 0)), (1, .int x1), (2, .int x2), (3, .int q.1)] [] q.2 := by
  unfold b_X10_layChains_21 at h
  refine z_iload_n X 3 dX10_layChains_21 rfl rfl (z_if_le X 133 dX10_layChains_22 (by decide) (fun c6 => ?_) (fun c6 => ?_))
  · replace h := z_ip c6 h
    refine z_sub [] [] rfl ?_
    exact hkx q.2 h
  · replace h := z_in c6 h
    obtain ⟨b7, h⟩ := z_gs h
    obtain ⟨v8, ev8, h⟩ := z_ls h
    obtain ⟨b9, h⟩ := z_gs h
    obtain ⟨v10, ev10, h⟩ := z_ls h
    refine z_aload_n X 0 dX10_layChains_25 rfl rfl (z_getR X (k0 := 19) z_r0 rfl in_X10_layChains_X10 (by decide) rfl rfl lk_X10_layChains_48 dX10_layChains_26 (z_iload_n X 3 dX10_layChains_29 rfl rfl (z_iconst X (v := 1) dX10_layChains_30 (by decide) (z_isub X dX10_layChains_31 (z_iald X z_r11 (z_inS b7) dX10_layChains_32 (z_ti ev8 (z_istore X [(4, .int v8), (0, .ref (z_ad g 0)), (1, .int x1), (2, .int x2), (3, .int q.1)] dX10_layChains_33 (by decide) rfl (z_aload_n X 1 dX10_layChains_35 rfl rfl (z_getR X (k0 := 20) z_r0 rfl in_X10_layChains_X10 (by decide) rfl rfl lk_X10_layChains_51 dX10_layChains_36 (z_iload_n X 4 dX10_layChains_39 rfl rfl (z_iconst X (v := 1) dX10_layChains_40 (by decide) (z_isub X dX10_layChains_41 (z_iald X z_r12 (z_inS b9) dX10_layChains_42 (z_ti ev10 (z_istore X [(5, .int v10), (4, .int v8), (0, .ref (z_ad g 0)), (1, .int x1), (2, .int x2), (3, .int q.1)] dX10_layChains_43 (by decide) rfl (z_iload X 1 dX10_layChains_45 rfl (z_iload_n X 4 dX10_layChains_47 rfl rfl (z_icmp_ne X 62 dX10_layChains_48 (by decide) (fun c11 => ?_) (fun c11 => ?_)))))))))))))))))))
    · replace h := z_in c11 h
      refine z_iload X 0 dX10_layChains_62 rfl (z_bipush X (v := 9) dX10_layChains_64 (by decide) (z_icmp_ne X 75 dX10_layChains_66 (by decide) (fun c13 => ?_) (fun c13 => ?_)))
      · replace h := z_in c13 h
        obtain ⟨b14, h⟩ := z_gs h
        obtain ⟨b15, h⟩ := z_gs h
        obtain ⟨u16, eu16, h⟩ := z_ls h
        obtain ⟨r17, er17, h⟩ := z_bs h
        obtain ⟨r18, er18, h⟩ := z_bs h
        refine z_aload_n X 2 dX10_layChains_75 rfl rfl (z_getR X (k0 := 20) z_r0 rfl in_X10_layChains_X10 (by decide) rfl rfl lk_X10_layChains_51 dX10_layChains_76 (z_iload_n X 5 dX10_layChains_79 rfl rfl (z_iconst X (v := 1) dX10_layChains_80 (by decide) (z_isub X dX10_layChains_81 (z_dup2 X dX10_layChains_82 rfl rfl (z_iald X z_r12 (z_inS b14) dX10_layChains_83 (z_iconst X (v := 1) dX10_layChains_84 (by decide) (z_iadd X dX10_layChains_85 (z_iast X z_r12 (z_inS b15) dX10_layChains_86 (z_nm eu16 (z_aload_n X 2 dX10_layChains_87 rfl rfl (z_iload_n X 3 dX10_layChains_88 rfl rfl (z_iload_n X 4 dX10_layChains_89 rfl rfl (z_callVi X (r := r17) (u1 := u16) [.int x1, .int x2] [] (w_X10_between l g x1 x2 u16 er17) z_r0 rfl gX10_layChains_X10_between hy_X10_between rfl (z_le1 hR (by decide)) (z_le2 hR (by decide) (by decide)) (Nat.le_of_ble_eq_true rfl) dX10_layChains_90 (z_iload X 0 dX10_layChains_93 rfl (z_callSi X (r := r18) (u1 := u16) [.int r17, .int v10] [] (w_X10_has l g r17 v10 u16 er18) gX10_layChains_X10_has hy_X10_has.2 rfl (z_le1 hR (by decide)) (z_le2 hR (by decide) (by decide)) (Nat.le_of_ble_eq_true rfl) dX10_layChains_95 (z_if_eq X 130 dX10_layChains_98 (by decide) (fun c19 => ?_) (fun c19 => ?_))))))))))))))))))
        · replace h := z_ip c19 h
          refine z_goto X 21 dX10_layChains_130 (by decide) (z_sub [2, 3, 4, 5] [(0, .ref (z_ad g 0)), (1, .int x1), (2, .int x2), (3, .int q.1)] rfl ?_)
          exact hkb (q.1, u16) h
        · replace h := z_in c19 h
          obtain ⟨r20, er20, h⟩ := z_bs h
          refine z_aload_n X 2 dX10_layChains_101 rfl rfl (z_iload X 0 dX10_layChains_102 rfl (z_iload X 1 dX10_layChains_104 rfl (z_callVi X (r := r20) (u1 := u16) [.int v10, .int v8] [] (w_X10_covers l g v10 v8 u16 er20) z_r0 rfl gX10_layChains_X10_covers hy_X10_covers rfl (z_le1 hR (by decide)) (z_le2 hR (by decide) (by decide)) (Nat.le_of_ble_eq_true rfl) dX10_layChains_106 (z_if_eq X 130 dX10_layChains_109 (by decide) (fun c21 => ?_) (fun c21 => ?_)))))
          · replace h := z_ip c21 h
            refine z_goto X 21 dX10_layChains_130 (by decide) (z_sub [2, 3, 4, 5] [(0, .ref (z_ad g 0)), (1, .int x1), (2, .int x2), (3, .int q.1)] rfl ?_)
            exact hkb (q.1, u16) h
          · replace h := z_in c21 h
            obtain ⟨b22, h⟩ := z_gs h
            obtain ⟨u23, eu23, h⟩ := z_ls h
            obtain ⟨b24, h⟩ := z_gs h
            obtain ⟨u25, eu25, h⟩ := z_ls h
            refine z_aload_n X 2 dX10_layChains_112 rfl rfl (z_getR X (k0 := 19) z_r0 rfl in_X10_layChains_X10 (by decide) rfl rfl lk_X10_layChains_48 dX10_layChains_113 (z_iload_n X 5 dX10_layChains_116 rfl rfl (z_iload X 0 dX10_layChains_117 rfl (z_iast X z_r11 (z_inS b22) dX10_layChains_119 (z_nm eu23 (z_aload_n X 2 dX10_layChains_120 rfl rfl (z_getR X (k0 := 20) z_r0 rfl in_X10_layChains_X10 (by decide) rfl rfl lk_X10_layChains_51 dX10_layChains_121 (z_iload_n X 5 dX10_layChains_124 rfl rfl (z_iconst X (v := 0) dX10_layChains_125 (by decide) (z_iast X z_r12 (z_inS b24) dX10_layChains_126 (z_nm eu25 (z_iinc X (v := q.1 + 1) 5 [(3, .int (q.1 + 1)), (5, .int v10), (4, .int v8), (0, .ref (z_ad g 0)), (1, .int x1), (2, .int x2)] dX10_layChains_127 rfl rfl (by decide) rfl (z_goto X 21 dX10_layChains_130 (by decide) (z_sub [3, 4, 5, 0] [(0, .ref (z_ad g 0)), (1, .int x1), (2, .int x2), (3, .int (q.1 + 1))] rfl ?_))))))))))))))
            exact hkb (q.1 + 1, u25) h
      · replace h := z_ip c13 h
        refine z_iinc X (v := q.1 + (-1)) 5 [(3, .int (q.1 + (-1))), (5, .int v10), (4, .int v8), (0, .ref (z_ad g 0)), (1, .int x1), (2, .int x2)] dX10_layChains_69 rfl rfl (by decide) rfl (z_goto X 130 dX10_layChains_72 (by decide) (z_goto X 21 dX10_layChains_130 (by decide) (z_sub [3, 4, 5, 0] [(0, .ref (z_ad g 0)), (1, .int x1), (2, .int x2), (3, .int (q.1 + (-1)))] rfl ?_)))
        exact hkb (q.1 + (-1), q.2) h
    · replace h := z_ip c11 h
      obtain ⟨r12, er12, h⟩ := z_bs h
      refine z_aload_n X 2 dX10_layChains_51 rfl rfl (z_iload_n X 5 dX10_layChains_52 rfl rfl (z_callVv X (u1 := r12) [.int q.1] [] (w_X10_addChain l g q.1 q.2 er12) z_r0 rfl gX10_layChains_X10_addChain hy_X10_addChain rfl (z_le1 hR (by decide)) (z_le2 hR (by decide) (by decide)) (Nat.le_of_ble_eq_true rfl) dX10_layChains_53 (z_iinc X (v := q.1 + (-1)) 5 [(3, .int (q.1 + (-1))), (5, .int v10), (4, .int v8), (0, .ref (z_ad g 0)), (1, .int x1), (2, .int x2)] dX10_layChains_56 rfl rfl (by decide) rfl (z_goto X 130 dX10_layChains_59 (by decide) (z_goto X 21 dX10_layChains_130 (by decide) (z_sub [3, 4, 5, 0] [(0, .ref (z_ad g 0)), (1, .int x1), (2, .int x2), (3, .int (q.1 + (-1)))] rfl ?_))))))
      exact hkb (q.1 + (-1), r12) h
set_option maxRecDepth 20000 in
set_option maxHeartbeats 4000000 in
theorem w_X10_layChains (l : Launch) (g : z_G) (a1 : Int32) (a2 : Int32) (u : z_M) {res : z_M} (h : f_X10_layChains a1 a2 u = some res) : z_C l g z_shR yX10_layChains wsX10_layChains 6 [.ref (z_ad g 0), .int a1, .int a2] u (fun v u' => v = none ∧ u' = res) := by
  refine z_C.mk (lv := [(0, .ref (z_ad g 0)), (1, .int a1), (2, .int a2)]) (cc := cX10_layChains) (nL := 6) (rt := none) rfl (by decide) (Nat.le_of_ble_eq_true rfl) rfl (fun p e R s m args below meth c hR X => ?_)
  unfold f_X10_layChains at h
  obtain ⟨u1, eu1, h⟩ := z_ls h
  obtain ⟨b2, h⟩ := z_gs h
  obtain ⟨u3, eu3, h⟩ := z_ls h
  obtain ⟨b4, h⟩ := z_gs h
  obtain ⟨u5, eu5, h⟩ := z_ls h
  refine z_aload_n X 0 dX10_layChains_0 rfl rfl (z_iconst X (v := 0) dX10_layChains_1 (by decide) (z_putI X (k0 := 18) (ty0 := tyX10) z_r0 rfl in_X10_layChains_X10 tyX10_ok nmX10 (by decide) rfl rfl rfl rfl rfl lk_X10_layChains_279 dX10_layChains_2 (z_nm eu1 (z_iconst X (v := 1) dX10_layChains_5 (by decide) (z_istore_n X [(3, .int 1), (0, .ref (z_ad g 0)), (1, .int a1), (2, .int a2)] dX10_layChains_6 rfl (by decide) rfl (z_aload_n X 1 dX10_layChains_7 rfl rfl (z_getR X (k0 := 19) z_r0 rfl in_X10_layChains_X10 (by decide) rfl rfl lk_X10_layChains_48 dX10_layChains_8 (z_iconst X (v := 0) dX10_layChains_11 (by decide) (z_iload_n X 2 dX10_layChains_12 rfl rfl (z_iast X z_r11 (z_inS b2) dX10_layChains_13 (z_nm eu3 (z_aload_n X 1 dX10_layChains_14 rfl rfl (z_getR X (k0 := 20) z_r0 rfl in_X10_layChains_X10 (by decide) rfl rfl lk_X10_layChains_51 dX10_layChains_15 (z_iconst X (v := 0) dX10_layChains_18 (by decide) (z_iconst X (v := 0) dX10_layChains_19 (by decide) (z_iast X z_r12 (z_inS b4) dX10_layChains_20 (z_nm eu5 (z_sub [1, 2, 3, 0] [(0, .ref (z_ad g 0)), (1, .int a1), (2, .int a2), (3, .int 1)] rfl ?_))))))))))))))))))
  have hw := z_lp_w (fun q9 kb9 kx9 h1 h2 h3 => wb_X10_layChains_21 (l := l) (e := e) (below := below) (u := u5) hR X a1 a2 q9 kb9 kx9 h1 h2 h3) z_F _ _ h
  refine hw (fun t26 h => ?_)
  cases h; exact z_vret X rfl dX10_layChains_133 ⟨rfl, rfl⟩

theorem lk_X10_fallsOf_45 : (Cond.fieldLink RX10 45 RX10 (TX10 17).2.1 (TX10 17).2.2.1) ∈ wsX10_fallsOf := by decide +kernel
theorem in_X10_fallsOf_X10 : ∀ w ∈ u_ws RX10 TX10 30, w ∈ wsX10_fallsOf := by decide +kernel
def b_X10_fallsOf_4 (x1 : Int32) (u : z_M) : (Int32 × Int32) → ((Int32 × Int32) → Option (Int32)) → (Int32 → Option (Int32)) → Option (Int32) := fun q kb kx =>
  z_gd (z_inb x1 64) (if (z_gI u 10 x1.toNatClampNeg) ≤ (q.2 + 1) then (kx q.1) else (Option.bind (f_X10_labelAt x1 q.2 u) (fun r3 => Option.bind (f_X10_labelAt x1 (q.2 - 1) u) (fun r4 => if r4 ≤ r3 then (z_lt (q.1 ||| 0) (fun v6 => kb (v6, q.2 + 1))) else (z_lt (q.1 ||| (1 <<< (q.2 &&& 31))) (fun v7 => kb (v7, q.2 + 1)))))))
def f_X10_fallsOf (a1 : Int32) (u : z_M) : Option (Int32) :=
  z_lp (b_X10_fallsOf_4 a1 u) z_F (0, 1) (fun t8 => some t8)
set_option maxRecDepth 20000 in
set_option maxHeartbeats 4000000 in
theorem wb_X10_fallsOf_4 {p : Program} {l : Launch} {e : Env} {R : Room} {s : State} {m : MethodId} {args : Array Value} {below : List Frame} {meth : Method} {c : Code} {g : z_G} {u : z_M} {res : Int32} (hR : R = z_rm 4) (X : z_X p R s m args meth c cX10_fallsOf 4 RX10 wsX10_fallsOf (some .int) g z_shR) (x1 : Int32) (q : Int32 × Int32) (kb : (Int32 × Int32) → Option (Int32)) (kx : Int32 → Option (Int32)) (hkb : ∀ q, kb q = some res → z_V p l e R s m args below meth c 4 g z_shR (MQ below (z_Qc g z_shR (fun v u' => v = some (.int res) ∧ u' = u)) args s 0 0 (z_A g z_shR)) 4 [(0, .ref (z_ad g 0)), (1, .int x1), (2, .int q.1), (3, .int q.2)] [] u) (hkx : ∀ t, kx t = some res → z_V p l e R s m args below meth c 4 g z_shR (MQ below (z_Qc g z_shR (fun v u' => v = some (.int res) ∧ u' = u)) args s 0 0 (z_A g z_shR)) 49 [(2, .int t)] [] u) (h : b_X10_fallsOf_4 x1 u q kb kx = some res) : z_V p l e R s m args below meth c 4 g z_shR (MQ below (z_Qc g z_shR (fun v u' => v = some (.int res) ∧ u' = u)) args s 0 0 (z_A g z_shR)) 4 [(0, .ref (z_ad g 0)), (1, .int x1), (2, .int q.1), (3, .int q.2)] [] u := by
  unfold b_X10_fallsOf_4 at h
  obtain ⟨b1, h⟩ := z_gs h
  refine z_iload_n X 3 dX10_fallsOf_4 rfl rfl (z_iconst X (v := 1) dX10_fallsOf_5 (by decide) (z_iadd X dX10_fallsOf_6 (z_aload_n X 0 dX10_fallsOf_7 rfl rfl (z_getR X (k0 := 17) z_r0 rfl in_X10_fallsOf_X10 (by decide) rfl rfl lk_X10_fallsOf_45 dX10_fallsOf_8 (z_iload_n X 1 dX10_fallsOf_11 rfl rfl (z_iald X z_r10 (z_inS b1) dX10_fallsOf_12 (z_icmp_ge X 49 dX10_fallsOf_13 (by decide) (fun c2 => ?_) (fun c2 => ?_))))))))
  · replace h := z_ip c2 h
    refine z_sub [2] [(2, .int q.1)] rfl ?_
    exact hkx q.1 h
  · replace h := z_in c2 h
    obtain ⟨r3, er3, h⟩ := z_bs h
    obtain ⟨r4, er4, h⟩ := z_bs h
    refine z_iload_n X 2 dX10_fallsOf_16 rfl rfl (z_aload_n X 0 dX10_fallsOf_17 rfl rfl (z_iload_n X 1 dX10_fallsOf_18 rfl rfl (z_iload_n X 3 dX10_fallsOf_19 rfl rfl (z_callVi X (r := r3) (u1 := u) [.int x1, .int q.2] [.int q.1] (w_X10_labelAt l g x1 q.2 u er3) z_r0 rfl gX10_fallsOf_X10_labelAt hy_X10_labelAt rfl (z_le1 hR (by decide)) (z_le2 hR (by decide) (by decide)) (Nat.le_of_ble_eq_true rfl) dX10_fallsOf_20 (z_aload_n X 0 dX10_fallsOf_23 rfl rfl (z_iload_n X 1 dX10_fallsOf_24 rfl rfl (z_iload_n X 3 dX10_fallsOf_25 rfl rfl (z_iconst X (v := 1) dX10_fallsOf_26 (by decide) (z_isub X dX10_fallsOf_27 (z_callVi X (r := r4) (u1 := u) [.int x1, .int (q.2 - 1)] [.int r3, .int q.1] (w_X10_labelAt l g x1 (q.2 - 1) u er4) z_r0 rfl gX10_fallsOf_X10_labelAt hy_X10_labelAt rfl (z_le1 hR (by decide)) (z_le2 hR (by decide) (by decide)) (Nat.le_of_ble_eq_true rfl) dX10_fallsOf_28 (z_icmp_ge X 40 dX10_fallsOf_31 (by decide) (fun c5 => ?_) (fun c5 => ?_))))))))))))
    · replace h := z_ip c5 h
      obtain ⟨v6, ev6, h⟩ := z_ls h
      refine z_iconst X (v := 0) dX10_fallsOf_40 (by decide) (z_ior X dX10_fallsOf_41 (z_ti ev6 (z_istore_n X [(2, .int v6), (0, .ref (z_ad g 0)), (1, .int x1), (3, .int q.2)] dX10_fallsOf_42 rfl (by decide) rfl (z_iinc X (v := q.2 + 1) 3 [(3, .int (q.2 + 1)), (2, .int v6), (0, .ref (z_ad g 0)), (1, .int x1)] dX10_fallsOf_43 rfl rfl (by decide) rfl (z_goto X 4 dX10_fallsOf_46 (by decide) (z_sub [2, 3, 1, 0] [(0, .ref (z_ad g 0)), (1, .int x1), (2, .int v6), (3, .int (q.2 + 1))] rfl ?_))))))
      exact hkb (v6, q.2 + 1) h
    · replace h := z_in c5 h
      obtain ⟨v7, ev7, h⟩ := z_ls h
      refine z_iconst X (v := 1) dX10_fallsOf_34 (by decide) (z_iload_n X 3 dX10_fallsOf_35 rfl rfl (z_ishl X dX10_fallsOf_36 (z_goto X 41 dX10_fallsOf_37 (by decide) (z_ior X dX10_fallsOf_41 (z_ti ev7 (z_istore_n X [(2, .int v7), (0, .ref (z_ad g 0)), (1, .int x1), (3, .int q.2)] dX10_fallsOf_42 rfl (by decide) rfl (z_iinc X (v := q.2 + 1) 3 [(3, .int (q.2 + 1)), (2, .int v7), (0, .ref (z_ad g 0)), (1, .int x1)] dX10_fallsOf_43 rfl rfl (by decide) rfl (z_goto X 4 dX10_fallsOf_46 (by decide) (z_sub [2, 3, 1, 0] [(0, .ref (z_ad g 0)), (1, .int x1), (2, .int v7), (3, .int (q.2 + 1))] rfl ?_)))))))))
      exact hkb (v7, q.2 + 1) h
set_option maxRecDepth 20000 in
set_option maxHeartbeats 4000000 in
theorem w_X10_fallsOf (l : Launch) (g : z_G) (a1 : Int32) (u : z_M) {res : Int32} (h : f_X10_fallsOf a1 u = some res) : z_C l g z_shR yX10_fallsOf wsX10_fallsOf 4 [.ref (z_ad g 0), .int a1] u (fun v u' => v = some (.int res) ∧ u' = u) := by
  refine z_C.mk (lv := [(0, .ref (z_ad g 0)), (1, .int a1)]) (cc := cX10_fallsOf) (nL := 4) (rt := (some .int)) rfl (by decide) (Nat.le_of_ble_eq_true rfl) rfl (fun p e R s m args below meth c hR X => ?_)
  unfold f_X10_fallsOf at h
  refine z_iconst X (v := 0) dX10_fallsOf_0 (by decide) (z_istore_n X [(2, .int 0), (0, .ref (z_ad g 0)), (1, .int a1)] dX10_fallsOf_1 rfl (by decide) rfl (z_iconst X (v := 1) dX10_fallsOf_2 (by decide) (z_istore_n X [(3, .int 1), (2, .int 0), (0, .ref (z_ad g 0)), (1, .int a1)] dX10_fallsOf_3 rfl (by decide) rfl (z_sub [2, 3, 1, 0] [(0, .ref (z_ad g 0)), (1, .int a1), (2, .int 0), (3, .int 1)] rfl ?_))))
  have hw := z_lp_w (fun q9 kb9 kx9 h1 h2 h3 => wb_X10_fallsOf_4 (l := l) (e := e) (below := below) (u := u) hR X a1 q9 kb9 kx9 h1 h2 h3) z_F _ _ h
  refine hw (fun t8 h => ?_)
  refine z_iload_n X 0 dX10_fallsOf_49 rfl rfl ?_
  cases h; exact z_iret X rfl dX10_fallsOf_50 ⟨rfl, rfl⟩

theorem lk_X10_isRising_45 : (Cond.fieldLink RX10 45 RX10 (TX10 17).2.1 (TX10 17).2.2.1) ∈ wsX10_isRising := by decide +kernel
theorem in_X10_isRising_X10 : ∀ w ∈ u_ws RX10 TX10 30, w ∈ wsX10_isRising := by decide +kernel
def b_X10_isRising_2 (x1 : Int32) (u : z_M) : Int32 → (Int32 → Option (Int32)) → (Unit → Option (Int32)) → Option (Int32) := fun q kb kx =>
  z_gd (z_inb x1 64) (if (z_gI u 10 x1.toNatClampNeg) ≤ (q + 1) then (kx ()) else (Option.bind (f_X10_labelAt x1 q u) (fun r3 => Option.bind (f_X10_labelAt x1 (q - 1) u) (fun r4 => if r4 ≤ r3 then (kb (q + 1)) else (some 0)))))
def f_X10_isRising (a1 : Int32) (u : z_M) : Option (Int32) :=
  z_lp (b_X10_isRising_2 a1 u) z_F 1 (fun t6 => some 1)
set_option maxRecDepth 20000 in
set_option maxHeartbeats 4000000 in
theorem wb_X10_isRising_2 {p : Program} {l : Launch} {e : Env} {R : Room} {s : State} {m : MethodId} {args : Array Value} {below : List Frame} {meth : Method} {c : Code} {g : z_G} {u : z_M} {res : Int32} (hR : R = z_rm 4) (X : z_X p R s m args meth c cX10_isRising 3 RX10 wsX10_isRising (some .boolean) g z_shR) (x1 : Int32) (q : Int32) (kb : Int32 → Option (Int32)) (kx : Unit → Option (Int32)) (hkb : ∀ q, kb q = some res → z_V p l e R s m args below meth c 3 g z_shR (MQ below (z_Qc g z_shR (fun v u' => v = some (.int res) ∧ u' = u)) args s 0 0 (z_A g z_shR)) 2 [(0, .ref (z_ad g 0)), (1, .int x1), (2, .int q)] [] u) (hkx : ∀ t, kx t = some res → z_V p l e R s m args below meth c 3 g z_shR (MQ below (z_Qc g z_shR (fun v u' => v = some (.int res) ∧ u' = u)) args s 0 0 (z_A g z_shR)) 39 [] [] u) (h : b_X10_isRising_2 x1 u q kb kx = some res) : z_V p l e R s m args below meth c 3 g z_shR (MQ below (z_Qc g z_shR (fun v u' => v = some (.int res) ∧ u' = u)) args s 0 0 (z_A g z_shR)) 2 [(0, .ref (z_ad g 0)), (1, .int x1), (2, .int q)] [] u := by
  unfold b_X10_isRising_2 at h
  obtain ⟨b1, h⟩ := z_gs h
  refine z_iload_n X 2 dX10_isRising_2 rfl rfl (z_iconst X (v := 1) dX10_isRising_3 (by decide) (z_iadd X dX10_isRising_4 (z_aload_n X 0 dX10_isRising_5 rfl rfl (z_getR X (k0 := 17) z_r0 rfl in_X10_isRising_X10 (by decide) rfl rfl lk_X10_isRising_45 dX10_isRising_6 (z_iload_n X 1 dX10_isRising_9 rfl rfl (z_iald X z_r10 (z_inS b1) dX10_isRising_10 (z_icmp_ge X 39 dX10_isRising_11 (by decide) (fun c2 => ?_) (fun c2 => ?_))))))))
  · replace h := z_ip c2 h
    refine z_sub [] [] rfl ?_
    exact hkx () h
  · replace h := z_in c2 h
    obtain ⟨r3, er3, h⟩ := z_bs h
    obtain ⟨r4, er4, h⟩ := z_bs h
    refine z_aload_n X 0 dX10_isRising_14 rfl rfl (z_iload_n X 1 dX10_isRising_15 rfl rfl (z_iload_n X 2 dX10_isRising_16 rfl rfl (z_callVi X (r := r3) (u1 := u) [.int x1, .int q] [] (w_X10_labelAt l g x1 q u er3) z_r0 rfl gX10_isRising_X10_labelAt hy_X10_labelAt rfl (z_le1 hR (by decide)) (z_le2 hR (by decide) (by decide)) (Nat.le_of_ble_eq_true rfl) dX10_isRising_17 (z_aload_n X 0 dX10_isRising_20 rfl rfl (z_iload_n X 1 dX10_isRising_21 rfl rfl (z_iload_n X 2 dX10_isRising_22 rfl rfl (z_iconst X (v := 1) dX10_isRising_23 (by decide) (z_isub X dX10_isRising_24 (z_callVi X (r := r4) (u1 := u) [.int x1, .int (q - 1)] [.int r3] (w_X10_labelAt l g x1 (q - 1) u er4) z_r0 rfl gX10_isRising_X10_labelAt hy_X10_labelAt rfl (z_le1 hR (by decide)) (z_le2 hR (by decide) (by decide)) (Nat.le_of_ble_eq_true rfl) dX10_isRising_25 (z_icmp_ge X 33 dX10_isRising_28 (by decide) (fun c5 => ?_) (fun c5 => ?_)))))))))))
    · replace h := z_ip c5 h
      refine z_iinc X (v := q + 1) 2 [(2, .int (q + 1)), (0, .ref (z_ad g 0)), (1, .int x1)] dX10_isRising_33 rfl rfl (by decide) rfl (z_goto X 2 dX10_isRising_36 (by decide) (z_sub [1, 2, 0] [(0, .ref (z_ad g 0)), (1, .int x1), (2, .int (q + 1))] rfl ?_))
      exact hkb (q + 1) h
    · replace h := z_in c5 h
      refine z_iconst X (v := 0) dX10_isRising_31 (by decide) ?_
      cases h; exact z_zret X rfl rfl dX10_isRising_32 ⟨rfl, rfl⟩
set_option maxRecDepth 20000 in
set_option maxHeartbeats 4000000 in
theorem w_X10_isRising (l : Launch) (g : z_G) (a1 : Int32) (u : z_M) {res : Int32} (h : f_X10_isRising a1 u = some res) : z_C l g z_shR yX10_isRising wsX10_isRising 4 [.ref (z_ad g 0), .int a1] u (fun v u' => v = some (.int res) ∧ u' = u) := by
  refine z_C.mk (lv := [(0, .ref (z_ad g 0)), (1, .int a1)]) (cc := cX10_isRising) (nL := 3) (rt := (some .boolean)) rfl (by decide) (Nat.le_of_ble_eq_true rfl) rfl (fun p e R s m args below meth c hR X => ?_)
  unfold f_X10_isRising at h
  refine z_iconst X (v := 1) dX10_isRising_0 (by decide) (z_istore_n X [(2, .int 1), (0, .ref (z_ad g 0)), (1, .int a1)] dX10_isRising_1 rfl (by decide) rfl (z_sub [1, 2, 0] [(0, .ref (z_ad g 0)), (1, .int a1), (2, .int 1)] rfl ?_))
  have hw := z_lp_w (fun q9 kb9 kx9 h1 h2 h3 => wb_X10_isRising_2 (l := l) (e := e) (below := below) (u := u) hR X a1 q9 kb9 kx9 h1 h2 h3) z_F _ _ h
  refine hw (fun t6 h => ?_)
  refine z_iconst X (v := 1) dX10_isRising_39 (by decide) ?_
  cases h; exact z_zret X rfl rfl dX10_isRising_40 ⟨rfl, rfl⟩

theorem lk_X10_chainsBy_279 : (Cond.fieldLink RX10 279 RX10 (TX10 18).2.1 (TX10 18).2.2.1) ∈ wsX10_chainsBy := by decide +kernel
theorem in_X10_chainsBy_X10 : ∀ w ∈ u_ws RX10 TX10 30, w ∈ wsX10_chainsBy := fun _ h => List.mem_cons_of_mem _ (List.mem_append_right _ h)
theorem lk_X10_chainsBy_45 : (Cond.fieldLink RX10 45 RX10 (TX10 17).2.1 (TX10 17).2.2.1) ∈ wsX10_chainsBy := by decide +kernel
theorem hy_X10_fallsOf : yX10_fallsOf.cls = RX10 ∧ yX10_fallsOf.cls ≠ "java/lang/invoke/MethodHandle" ∧ yX10_fallsOf.cls ≠ "java/lang/invoke/VarHandle" ∧ (parseMethodDescriptor yX10_fallsOf.desc).map (fun d => d.parameters.length) = some 1 := by decide +kernel
theorem hy_X10_isRising : yX10_isRising.cls = RX10 ∧ yX10_isRising.cls ≠ "java/lang/invoke/MethodHandle" ∧ yX10_isRising.cls ≠ "java/lang/invoke/VarHandle" ∧ (parseMethodDescriptor yX10_isRising.desc).map (fun d => d.parameters.length) = some 1 := by decide +kernel
def j_X10_chainsBy_j128 (x1 : Int32) (x2 : Int32) (x4 : Int32) (x5 : Int32) (x90 : Int32) (w : z_M) (kb : (Int32 × Int32 × Int32 × Int32) → Option (Int32)) (kx : (Int32 × Int32 × Int32) → Option (Int32)) : Option (Int32) :=
  z_gd (z_inb x5 64) (if x4 ≤ ((z_gI w 10 x5.toNatClampNeg) - 1) then (kb (x2, x90, x4, x5 + 1)) else (z_gd (z_inb x5 64) (z_lt ((z_gI w 10 x5.toNatClampNeg) - 1) (fun v14 => kb (x2, x90, v14, x5 + 1)))))
def j_X10_chainsBy_j100 (x1 : Int32) (x3 : Int32) (x4 : Int32) (x5 : Int32) (x90 : Int32) (x91 : Int32) (w : z_M) (kb : (Int32 × Int32 × Int32 × Int32) → Option (Int32)) (kx : (Int32 × Int32 × Int32) → Option (Int32)) : Option (Int32) :=
  z_lt (x91 + x90) (fun v8 => z_gd (z_inb x5 64) (if ((z_gI w 10 x5.toNatClampNeg) - 1) ≤ x3 then (j_X10_chainsBy_j128 x1 v8 x4 x5 x3 w kb kx) else (z_gd (z_inb x5 64) (j_X10_chainsBy_j128 x1 v8 x4 x5 ((z_gI w 10 x5.toNatClampNeg) - 1) w kb kx))))
def j_X10_chainsBy_j95 (x1 : Int32) (x3 : Int32) (x4 : Int32) (x5 : Int32) (x90 : Int32) (w : z_M) (kb : (Int32 × Int32 × Int32 × Int32) → Option (Int32)) (kx : (Int32 × Int32 × Int32) → Option (Int32)) : Option (Int32) :=
  j_X10_chainsBy_j100 x1 x3 x4 x5 1 x90 w kb kx
def j_X10_chainsBy_j99 (x1 : Int32) (x3 : Int32) (x4 : Int32) (x5 : Int32) (x90 : Int32) (w : z_M) (kb : (Int32 × Int32 × Int32 × Int32) → Option (Int32)) (kx : (Int32 × Int32 × Int32) → Option (Int32)) : Option (Int32) :=
  j_X10_chainsBy_j100 x1 x3 x4 x5 0 x90 w kb kx
def j_X10_chainsBy_j85 (x1 : Int32) (x3 : Int32) (x4 : Int32) (x5 : Int32) (x6 : Int32) (x90 : Int32) (w : z_M) (kb : (Int32 × Int32 × Int32 × Int32) → Option (Int32)) (kx : (Int32 × Int32 × Int32) → Option (Int32)) : Option (Int32) :=
  if x1 = 2 then (if x6 = 0 then (j_X10_chainsBy_j99 x1 x3 x4 x5 x90 w kb kx) else (j_X10_chainsBy_j95 x1 x3 x4 x5 x90 w kb kx)) else (j_X10_chainsBy_j99 x1 x3 x4 x5 x90 w kb kx)
def j_X10_chainsBy_j64 (x1 : Int32) (x2 : Int32) (x3 : Int32) (x4 : Int32) (x5 : Int32) (x90 : Int32) (w : z_M) (kb : (Int32 × Int32 × Int32 × Int32) → Option (Int32)) (kx : (Int32 × Int32 × Int32) → Option (Int32)) : Option (Int32) :=
  if x1 = 0 then (j_X10_chainsBy_j95 x1 x3 x4 x5 x2 w kb kx) else (if x1 = 1 then (Option.bind (f_X10_isRising x5 w) (fun r17 => if r17 = 0 then (j_X10_chainsBy_j85 x1 x3 x4 x5 x90 x2 w kb kx) else (j_X10_chainsBy_j95 x1 x3 x4 x5 x2 w kb kx))) else (j_X10_chainsBy_j85 x1 x3 x4 x5 x90 x2 w kb kx))
def j_X10_chainsBy_j55 (x1 : Int32) (x2 : Int32) (x3 : Int32) (x4 : Int32) (x5 : Int32) (x90 : Int32) (x91 : Int32) (x92 : Int32) (w : z_M) (kb : (Int32 × Int32 × Int32 × Int32) → Option (Int32)) (kx : (Int32 × Int32 × Int32) → Option (Int32)) : Option (Int32) :=
  if x92 = (x91 - x90) then (j_X10_chainsBy_j64 x1 x2 x3 x4 x5 1 w kb kx) else (j_X10_chainsBy_j64 x1 x2 x3 x4 x5 0 w kb kx)
def b_X10_chainsBy_11 (x1 : Int32) (u : z_M) : (Int32 × Int32 × Int32 × Int32) → ((Int32 × Int32 × Int32 × Int32) → Option (Int32)) → ((Int32 × Int32 × Int32) → Option (Int32)) → Option (Int32) := fun q kb kx =>
  if (z_gI u 0 18) ≤ q.2.2.2 then (kx (q.1, q.2.1, q.2.2.1)) else (Option.bind (f_X10_fallsOf q.2.2.2 u) (fun r2 => z_gd (z_inb q.2.2.2 64) (z_gd (z_inb q.2.2.2 64) (if (z_gI u 10 q.2.2.2.toNatClampNeg) ≤ 1 then (j_X10_chainsBy_j55 x1 q.1 q.2.1 q.2.2.1 q.2.2.2 0 ((1 <<< (((z_gI u 10 q.2.2.2.toNatClampNeg) - 1) &&& 31)) - 1) r2 u kb kx) else (j_X10_chainsBy_j55 x1 q.1 q.2.1 q.2.2.1 q.2.2.2 1 ((1 <<< (((z_gI u 10 q.2.2.2.toNatClampNeg) - 1) &&& 31)) - 1) r2 u kb kx)))))
def f_X10_chainsBy (a1 : Int32) (u : z_M) : Option (Int32) :=
  z_lp (b_X10_chainsBy_11 a1 u) z_F (0, 0, 9, 0) (fun t21 => if 3 ≤ a1 then (if a1 = 3 then (some t21.2.1) else (some t21.2.2)) else (some t21.1))
set_option maxRecDepth 20000 in
set_option maxHeartbeats 4000000 in
theorem wj_X10_chainsBy_j128 {p : Program} {l : Launch} {e : Env} {R : Room} {s : State} {m : MethodId} {args : Array Value} {below : List Frame} {meth : Method} {c : Code} {g : z_G} {u : z_M} {res : Int32} (hR : R = z_rm 5) (X : z_X p R s m args meth c cX10_chainsBy 7 RX10 wsX10_chainsBy (some .int) g z_shR) (x1 : Int32) (x2 : Int32) (x4 : Int32) (x5 : Int32) (x90 : Int32) (w : z_M) (ew : w = u) (kb : (Int32 × Int32 × Int32 × Int32) → Option (Int32)) (kx : (Int32 × Int32 × Int32) → Option (Int32)) (hkb : ∀ q, kb q = some res → z_V p l e R s m args below meth c 7 g z_shR (MQ below (z_Qc g z_shR (fun v u' => v = some (.int res) ∧ u' = u)) args s 0 0 (z_A g z_shR)) 11 [(0, .ref (z_ad g 0)), (1, .int x1), (2, .int q.1), (3, .int q.2.1), (4, .int q.2.2.1), (5, .int q.2.2.2)] [] u) (hkx : ∀ t, kx t = some res → z_V p l e R s m args below meth c 7 g z_shR (MQ below (z_Qc g z_shR (fun v u' => v = some (.int res) ∧ u' = u)) args s 0 0 (z_A g z_shR)) 165 [(1, .int x1), (2, .int t.1), (3, .int t.2.1), (4, .int t.2.2)] [] u) (h : j_X10_chainsBy_j128 x1 x2 x4 x5 x90 w kb kx = some res) : z_V p l e R s m args below meth c 7 g z_shR (MQ below (z_Qc g z_shR (fun v u' => v = some (.int res) ∧ u' = u)) args s 0 0 (z_A g z_shR)) 128 [(0, .ref (z_ad g 0)), (1, .int x1), (2, .int x2), (4, .int x4), (5, .int x5)] [.int x90] w := by
  unfold j_X10_chainsBy_j128 at h
  subst ew
  obtain ⟨b11, h⟩ := z_gs h
  refine z_istore_n X [(3, .int x90), (0, .ref (z_ad g 0)), (1, .int x1), (2, .int x2), (4, .int x4), (5, .int x5)] dX10_chainsBy_128 rfl (by decide) rfl (z_aload_n X 1 dX10_chainsBy_129 rfl rfl (z_getR X (k0 := 17) z_r0 rfl in_X10_chainsBy_X10 (by decide) rfl rfl lk_X10_chainsBy_45 dX10_chainsBy_130 (z_iload X 5 dX10_chainsBy_133 rfl (z_iald X z_r10 (z_inS b11) dX10_chainsBy_135 (z_iconst X (v := 1) dX10_chainsBy_136 (by decide) (z_isub X dX10_chainsBy_137 (z_iload X 4 dX10_chainsBy_138 rfl (z_icmp_ge X 155 dX10_chainsBy_140 (by decide) (fun c12 => ?_) (fun c12 => ?_)))))))))
  · replace h := z_ip c12 h
    refine z_iload X 4 dX10_chainsBy_155 rfl (z_istore X [(4, .int x4), (3, .int x90), (0, .ref (z_ad g 0)), (1, .int x1), (2, .int x2), (5, .int x5)] dX10_chainsBy_157 (by decide) rfl (z_iinc X (v := x5 + 1) 5 [(5, .int (x5 + 1)), (4, .int x4), (3, .int x90), (0, .ref (z_ad g 0)), (1, .int x1), (2, .int x2)] dX10_chainsBy_159 rfl rfl (by decide) rfl (z_goto X 11 dX10_chainsBy_162 (by decide) (z_sub [3, 4, 5, 2, 1, 0] [(0, .ref (z_ad g 0)), (1, .int x1), (2, .int x2), (3, .int x90), (4, .int x4), (5, .int (x5 + 1))] rfl ?_))))
    exact hkb (x2, x90, x4, x5 + 1) h
  · replace h := z_in c12 h
    obtain ⟨b13, h⟩ := z_gs h
    obtain ⟨v14, ev14, h⟩ := z_ls h
    refine z_aload_n X 1 dX10_chainsBy_143 rfl rfl (z_getR X (k0 := 17) z_r0 rfl in_X10_chainsBy_X10 (by decide) rfl rfl lk_X10_chainsBy_45 dX10_chainsBy_144 (z_iload X 5 dX10_chainsBy_147 rfl (z_iald X z_r10 (z_inS b13) dX10_chainsBy_149 (z_iconst X (v := 1) dX10_chainsBy_150 (by decide) (z_isub X dX10_chainsBy_151 (z_goto X 157 dX10_chainsBy_152 (by decide) (z_ti ev14 (z_istore X [(4, .int v14), (3, .int x90), (0, .ref (z_ad g 0)), (1, .int x1), (2, .int x2), (5, .int x5)] dX10_chainsBy_157 (by decide) rfl (z_iinc X (v := x5 + 1) 5 [(5, .int (x5 + 1)), (4, .int v14), (3, .int x90), (0, .ref (z_ad g 0)), (1, .int x1), (2, .int x2)] dX10_chainsBy_159 rfl rfl (by decide) rfl (z_goto X 11 dX10_chainsBy_162 (by decide) (z_sub [3, 4, 5, 2, 1, 0] [(0, .ref (z_ad g 0)), (1, .int x1), (2, .int x2), (3, .int x90), (4, .int v14), (5, .int (x5 + 1))] rfl ?_)))))))))))
    exact hkb (x2, x90, v14, x5 + 1) h
set_option maxRecDepth 20000 in
set_option maxHeartbeats 4000000 in
theorem wj_X10_chainsBy_j100 {p : Program} {l : Launch} {e : Env} {R : Room} {s : State} {m : MethodId} {args : Array Value} {below : List Frame} {meth : Method} {c : Code} {g : z_G} {u : z_M} {res : Int32} (hR : R = z_rm 5) (X : z_X p R s m args meth c cX10_chainsBy 7 RX10 wsX10_chainsBy (some .int) g z_shR) (x1 : Int32) (x3 : Int32) (x4 : Int32) (x5 : Int32) (x90 : Int32) (x91 : Int32) (w : z_M) (ew : w = u) (kb : (Int32 × Int32 × Int32 × Int32) → Option (Int32)) (kx : (Int32 × Int32 × Int32) → Option (Int32)) (hkb : ∀ q, kb q = some res → z_V p l e R s m args below meth c 7 g z_shR (MQ below (z_Qc g z_shR (fun v u' => v = some (.int res) ∧ u' = u)) args s 0 0 (z_A g z_shR)) 11 [(0, .ref (z_ad g 0)), (1, .int x1), (2, .int q.1), (3, .int q.2.1), (4, .int q.2.2.1), (5, .int q.2.2.2)] [] u) (hkx : ∀ t, kx t = some res → z_V p l e R s m args below meth c 7 g z_shR (MQ below (z_Qc g z_shR (fun v u' => v = some (.int res) ∧ u' = u)) args s 0 0 (z_A g z_shR)) 165 [(1, .int x1), (2, .int t.1), (3, .int t.2.1), (4, .int t.2.2)] [] u) (h : j_X10_chainsBy_j100 x1 x3 x4 x5 x90 x91 w kb kx = some res) : z_V p l e R s m args below meth c 7 g z_shR (MQ below (z_Qc g z_shR (fun v u' => v = some (.int res) ∧ u' = u)) args s 0 0 (z_A g z_shR)) 100 [(0, .ref (z_ad g 0)), (1, .int x1), (3, .int x3), (4, .int x4), (5, .int x5)] [.int x90, .int x91] w := by
  unfold j_X10_chainsBy_j100 at h
  subst ew
  obtain ⟨v8, ev8, h⟩ := z_ls h
  obtain ⟨b9, h⟩ := z_gs h
  refine z_iadd X dX10_chainsBy_100 (z_ti ev8 (z_istore_n X [(2, .int v8), (0, .ref (z_ad g 0)), (1, .int x1), (3, .int x3), (4, .int x4), (5, .int x5)] dX10_chainsBy_101 rfl (by decide) rfl (z_aload_n X 1 dX10_chainsBy_102 rfl rfl (z_getR X (k0 := 17) z_r0 rfl in_X10_chainsBy_X10 (by decide) rfl rfl lk_X10_chainsBy_45 dX10_chainsBy_103 (z_iload X 5 dX10_chainsBy_106 rfl (z_iald X z_r10 (z_inS b9) dX10_chainsBy_108 (z_iconst X (v := 1) dX10_chainsBy_109 (by decide) (z_isub X dX10_chainsBy_110 (z_iload_n X 3 dX10_chainsBy_111 rfl rfl (z_icmp_le X 127 dX10_chainsBy_112 (by decide) (fun c10 => ?_) (fun c10 => ?_)))))))))))
  · replace h := z_ip c10 h
    refine z_iload_n X 3 dX10_chainsBy_127 rfl rfl (z_sub [1, 2, 0, 4, 5] [(0, .ref (z_ad g 0)), (1, .int x1), (2, .int v8), (4, .int x4), (5, .int x5)] rfl ?_)
    exact wj_X10_chainsBy_j128 (u := w) hR X x1 v8 x4 x5 x3 w rfl kb kx hkb hkx h
  · replace h := z_in c10 h
    obtain ⟨b15, h⟩ := z_gs h
    refine z_aload_n X 1 dX10_chainsBy_115 rfl rfl (z_getR X (k0 := 17) z_r0 rfl in_X10_chainsBy_X10 (by decide) rfl rfl lk_X10_chainsBy_45 dX10_chainsBy_116 (z_iload X 5 dX10_chainsBy_119 rfl (z_iald X z_r10 (z_inS b15) dX10_chainsBy_121 (z_iconst X (v := 1) dX10_chainsBy_122 (by decide) (z_isub X dX10_chainsBy_123 (z_goto X 128 dX10_chainsBy_124 (by decide) (z_sub [1, 2, 0, 4, 5] [(0, .ref (z_ad g 0)), (1, .int x1), (2, .int v8), (4, .int x4), (5, .int x5)] rfl ?_)))))))
    exact wj_X10_chainsBy_j128 (u := w) hR X x1 v8 x4 x5 ((z_gI w 10 x5.toNatClampNeg) - 1) w rfl kb kx hkb hkx h
set_option maxRecDepth 20000 in
set_option maxHeartbeats 4000000 in
theorem wj_X10_chainsBy_j95 {p : Program} {l : Launch} {e : Env} {R : Room} {s : State} {m : MethodId} {args : Array Value} {below : List Frame} {meth : Method} {c : Code} {g : z_G} {u : z_M} {res : Int32} (hR : R = z_rm 5) (X : z_X p R s m args meth c cX10_chainsBy 7 RX10 wsX10_chainsBy (some .int) g z_shR) (x1 : Int32) (x3 : Int32) (x4 : Int32) (x5 : Int32) (x90 : Int32) (w : z_M) (ew : w = u) (kb : (Int32 × Int32 × Int32 × Int32) → Option (Int32)) (kx : (Int32 × Int32 × Int32) → Option (Int32)) (hkb : ∀ q, kb q = some res → z_V p l e R s m args below meth c 7 g z_shR (MQ below (z_Qc g z_shR (fun v u' => v = some (.int res) ∧ u' = u)) args s 0 0 (z_A g z_shR)) 11 [(0, .ref (z_ad g 0)), (1, .int x1), (2, .int q.1), (3, .int q.2.1), (4, .int q.2.2.1), (5, .int q.2.2.2)] [] u) (hkx : ∀ t, kx t = some res → z_V p l e R s m args below meth c 7 g z_shR (MQ below (z_Qc g z_shR (fun v u' => v = some (.int res) ∧ u' = u)) args s 0 0 (z_A g z_shR)) 165 [(1, .int x1), (2, .int t.1), (3, .int t.2.1), (4, .int t.2.2)] [] u) (h : j_X10_chainsBy_j95 x1 x3 x4 x5 x90 w kb kx = some res) : z_V p l e R s m args below meth c 7 g z_shR (MQ below (z_Qc g z_shR (fun v u' => v = some (.int res) ∧ u' = u)) args s 0 0 (z_A g z_shR)) 95 [(0, .ref (z_ad g 0)), (1, .int x1), (3, .int x3), (4, .int x4), (5, .int x5)] [.int x90] w := by
  unfold j_X10_chainsBy_j95 at h
  subst ew
  refine z_iconst X (v := 1) dX10_chainsBy_95 (by decide) (z_goto X 100 dX10_chainsBy_96 (by decide) ?_)
  exact wj_X10_chainsBy_j100 (u := w) hR X x1 x3 x4 x5 1 x90 w rfl kb kx hkb hkx h
set_option maxRecDepth 20000 in
set_option maxHeartbeats 4000000 in
theorem wj_X10_chainsBy_j99 {p : Program} {l : Launch} {e : Env} {R : Room} {s : State} {m : MethodId} {args : Array Value} {below : List Frame} {meth : Method} {c : Code} {g : z_G} {u : z_M} {res : Int32} (hR : R = z_rm 5) (X : z_X p R s m args meth c cX10_chainsBy 7 RX10 wsX10_chainsBy (some .int) g z_shR) (x1 : Int32) (x3 : Int32) (x4 : Int32) (x5 : Int32) (x90 : Int32) (w : z_M) (ew : w = u) (kb : (Int32 × Int32 × Int32 × Int32) → Option (Int32)) (kx : (Int32 × Int32 × Int32) → Option (Int32)) (hkb : ∀ q, kb q = some res → z_V p l e R s m args below meth c 7 g z_shR (MQ below (z_Qc g z_shR (fun v u' => v = some (.int res) ∧ u' = u)) args s 0 0 (z_A g z_shR)) 11 [(0, .ref (z_ad g 0)), (1, .int x1), (2, .int q.1), (3, .int q.2.1), (4, .int q.2.2.1), (5, .int q.2.2.2)] [] u) (hkx : ∀ t, kx t = some res → z_V p l e R s m args below meth c 7 g z_shR (MQ below (z_Qc g z_shR (fun v u' => v = some (.int res) ∧ u' = u)) args s 0 0 (z_A g z_shR)) 165 [(1, .int x1), (2, .int t.1), (3, .int t.2.1), (4, .int t.2.2)] [] u) (h : j_X10_chainsBy_j99 x1 x3 x4 x5 x90 w kb kx = some res) : z_V p l e R s m args below meth c 7 g z_shR (MQ below (z_Qc g z_shR (fun v u' => v = some (.int res) ∧ u' = u)) args s 0 0 (z_A g z_shR)) 99 [(0, .ref (z_ad g 0)), (1, .int x1), (3, .int x3), (4, .int x4), (5, .int x5)] [.int x90] w := by
  unfold j_X10_chainsBy_j99 at h
  subst ew
  refine z_iconst X (v := 0) dX10_chainsBy_99 (by decide) ?_
  exact wj_X10_chainsBy_j100 (u := w) hR X x1 x3 x4 x5 0 x90 w rfl kb kx hkb hkx h
set_option maxRecDepth 20000 in
set_option maxHeartbeats 4000000 in
theorem wj_X10_chainsBy_j85 {p : Program} {l : Launch} {e : Env} {R : Room} {s : State} {m : MethodId} {args : Array Value} {below : List Frame} {meth : Method} {c : Code} {g : z_G} {u : z_M} {res : Int32} (hR : R = z_rm 5) (X : z_X p R s m args meth c cX10_chainsBy 7 RX10 wsX10_chainsBy (some .int) g z_shR) (x1 : Int32) (x3 : Int32) (x4 : Int32) (x5 : Int32) (x6 : Int32) (x90 : Int32) (w : z_M) (ew : w = u) (kb : (Int32 × Int32 × Int32 × Int32) → Option (Int32)) (kx : (Int32 × Int32 × Int32) → Option (Int32)) (hkb : ∀ q, kb q = some res → z_V p l e R s m args below meth c 7 g z_shR (MQ below (z_Qc g z_shR (fun v u' => v = some (.int res) ∧ u' = u)) args s 0 0 (z_A g z_shR)) 11 [(0, .ref (z_ad g 0)), (1, .int x1), (2, .int q.1), (3, .int q.2.1), (4, .int q.2.2.1), (5, .int q.2.2.2)] [] u) (hkx : ∀ t, kx t = some res → z_V p l e R s m args below meth c 7 g z_shR (MQ below (z_Qc g z_shR (fun v u' => v = some (.int res) ∧ u' = u)) args s 0 0 (z_A g z_shR)) 165 [(1, .int x1), (2, .int t.1), (3, .int t.2.1), (4, .int t.2.2)] [] u) (h : j_X10_chainsBy_j85 x1 x3 x4 x5 x6 x90 w kb kx = some res) : z_V p l e R s m args below meth c 7 g z_shR (MQ below (z_Qc g z_shR (fun v u' => v = some (.int res) ∧ u' = u)) args s 0 0 (z_A g z_shR)) 85 [(0, .ref (z_ad g 0)), (1, .int x1), (3, .int x3), (4, .int x4), (5, .int x5), (6, .int x6)] [.int x90] w := by
  unfold j_X10_chainsBy_j85 at h
  subst ew
  refine z_iload_n X 1 dX10_chainsBy_85 rfl rfl (z_iconst X (v := 2) dX10_chainsBy_86 (by decide) (z_icmp_ne X 99 dX10_chainsBy_87 (by decide) (fun c19 => ?_) (fun c19 => ?_)))
  · replace h := z_in c19 h
    refine z_sub [0, 1, 2, 3, 4] [(0, .ref (z_ad g 0)), (1, .int x1), (3, .int x3), (4, .int x4), (5, .int x5)] rfl ?_
    exact wj_X10_chainsBy_j99 (u := w) hR X x1 x3 x4 x5 x90 w rfl kb kx hkb hkx h
  · replace h := z_ip c19 h
    refine z_iload X 5 dX10_chainsBy_90 rfl (z_if_eq X 99 dX10_chainsBy_92 (by decide) (fun c20 => ?_) (fun c20 => ?_))
    · replace h := z_ip c20 h
      refine z_sub [0, 1, 2, 3, 4] [(0, .ref (z_ad g 0)), (1, .int x1), (3, .int x3), (4, .int x4), (5, .int x5)] rfl ?_
      exact wj_X10_chainsBy_j99 (u := w) hR X x1 x3 x4 x5 x90 w rfl kb kx hkb hkx h
    · replace h := z_in c20 h
      refine z_sub [0, 1, 2, 3, 4] [(0, .ref (z_ad g 0)), (1, .int x1), (3, .int x3), (4, .int x4), (5, .int x5)] rfl ?_
      exact wj_X10_chainsBy_j95 (u := w) hR X x1 x3 x4 x5 x90 w rfl kb kx hkb hkx h
set_option maxRecDepth 20000 in
set_option maxHeartbeats 4000000 in
theorem wj_X10_chainsBy_j64 {p : Program} {l : Launch} {e : Env} {R : Room} {s : State} {m : MethodId} {args : Array Value} {below : List Frame} {meth : Method} {c : Code} {g : z_G} {u : z_M} {res : Int32} (hR : R = z_rm 5) (X : z_X p R s m args meth c cX10_chainsBy 7 RX10 wsX10_chainsBy (some .int) g z_shR) (x1 : Int32) (x2 : Int32) (x3 : Int32) (x4 : Int32) (x5 : Int32) (x90 : Int32) (w : z_M) (ew : w = u) (kb : (Int32 × Int32 × Int32 × Int32) → Option (Int32)) (kx : (Int32 × Int32 × Int32) → Option (Int32)) (hkb : ∀ q, kb q = some res → z_V p l e R s m args below meth c 7 g z_shR (MQ below (z_Qc g z_shR (fun v u' => v = some (.int res) ∧ u' = u)) args s 0 0 (z_A g z_shR)) 11 [(0, .ref (z_ad g 0)), (1, .int x1), (2, .int q.1), (3, .int q.2.1), (4, .int q.2.2.1), (5, .int q.2.2.2)] [] u) (hkx : ∀ t, kx t = some res → z_V p l e R s m args below meth c 7 g z_shR (MQ below (z_Qc g z_shR (fun v u' => v = some (.int res) ∧ u' = u)) args s 0 0 (z_A g z_shR)) 165 [(1, .int x1), (2, .int t.1), (3, .int t.2.1), (4, .int t.2.2)] [] u) (h : j_X10_chainsBy_j64 x1 x2 x3 x4 x5 x90 w kb kx = some res) : z_V p l e R s m args below meth c 7 g z_shR (MQ below (z_Qc g z_shR (fun v u' => v = some (.int res) ∧ u' = u)) args s 0 0 (z_A g z_shR)) 64 [(0, .ref (z_ad g 0)), (1, .int x1), (2, .int x2), (3, .int x3), (4, .int x4), (5, .int x5)] [.int x90] w := by
  unfold j_X10_chainsBy_j64 at h
  subst ew
  refine z_istore X [(6, .int x90), (0, .ref (z_ad g 0)), (1, .int x1), (2, .int x2), (3, .int x3), (4, .int x4), (5, .int x5)] dX10_chainsBy_64 (by decide) rfl (z_iload_n X 3 dX10_chainsBy_66 rfl rfl (z_iload_n X 2 dX10_chainsBy_67 rfl rfl (z_if_eq X 95 dX10_chainsBy_68 (by decide) (fun c7 => ?_) (fun c7 => ?_))))
  · replace h := z_ip c7 h
    refine z_sub [1, 2, 4, 5, 6] [(0, .ref (z_ad g 0)), (1, .int x1), (3, .int x3), (4, .int x4), (5, .int x5)] rfl ?_
    exact wj_X10_chainsBy_j95 (u := w) hR X x1 x3 x4 x5 x2 w rfl kb kx hkb hkx h
  · replace h := z_in c7 h
    refine z_iload_n X 2 dX10_chainsBy_71 rfl rfl (z_iconst X (v := 1) dX10_chainsBy_72 (by decide) (z_icmp_ne X 85 dX10_chainsBy_73 (by decide) (fun c16 => ?_) (fun c16 => ?_)))
    · replace h := z_in c16 h
      refine z_sub [1, 2, 4, 5, 6, 0] [(0, .ref (z_ad g 0)), (1, .int x1), (3, .int x3), (4, .int x4), (5, .int x5), (6, .int x90)] rfl ?_
      exact wj_X10_chainsBy_j85 (u := w) hR X x1 x3 x4 x5 x90 x2 w rfl kb kx hkb hkx h
    · replace h := z_ip c16 h
      obtain ⟨r17, er17, h⟩ := z_bs h
      refine z_aload_n X 1 dX10_chainsBy_76 rfl rfl (z_iload X 6 dX10_chainsBy_77 rfl (z_callVi X (r := r17) (u1 := w) [.int x5] [.int x2] (w_X10_isRising l g x5 w er17) z_r0 rfl gX10_chainsBy_X10_isRising hy_X10_isRising rfl (z_le1 hR (by decide)) (z_le2 hR (by decide) (by decide)) (Nat.le_of_ble_eq_true rfl) dX10_chainsBy_79 (z_if_ne X 95 dX10_chainsBy_82 (by decide) (fun c18 => ?_) (fun c18 => ?_))))
      · replace h := z_in c18 h
        refine z_sub [1, 2, 4, 5, 6] [(0, .ref (z_ad g 0)), (1, .int x1), (3, .int x3), (4, .int x4), (5, .int x5)] rfl ?_
        exact wj_X10_chainsBy_j95 (u := w) hR X x1 x3 x4 x5 x2 w rfl kb kx hkb hkx h
      · replace h := z_ip c18 h
        refine z_sub [1, 2, 4, 5, 6, 0] [(0, .ref (z_ad g 0)), (1, .int x1), (3, .int x3), (4, .int x4), (5, .int x5), (6, .int x90)] rfl ?_
        exact wj_X10_chainsBy_j85 (u := w) hR X x1 x3 x4 x5 x90 x2 w rfl kb kx hkb hkx h
set_option maxRecDepth 20000 in
set_option maxHeartbeats 4000000 in
theorem wj_X10_chainsBy_j55 {p : Program} {l : Launch} {e : Env} {R : Room} {s : State} {m : MethodId} {args : Array Value} {below : List Frame} {meth : Method} {c : Code} {g : z_G} {u : z_M} {res : Int32} (hR : R = z_rm 5) (X : z_X p R s m args meth c cX10_chainsBy 7 RX10 wsX10_chainsBy (some .int) g z_shR) (x1 : Int32) (x2 : Int32) (x3 : Int32) (x4 : Int32) (x5 : Int32) (x90 : Int32) (x91 : Int32) (x92 : Int32) (w : z_M) (ew : w = u) (kb : (Int32 × Int32 × Int32 × Int32) → Option (Int32)) (kx : (Int32 × Int32 × Int32) → Option (Int32)) (hkb : ∀ q, kb q = some res → z_V p l e R s m args below meth c 7 g z_shR (MQ below (z_Qc g z_shR (fun v u' => v = some (.int res) ∧ u' = u)) args s 0 0 (z_A g z_shR)) 11 [(0, .ref (z_ad g 0)), (1, .int x1), (2, .int q.1), (3, .int q.2.1), (4, .int q.2.2.1), (5, .int q.2.2.2)] [] u) (hkx : ∀ t, kx t = some res → z_V p l e R s m args below meth c 7 g z_shR (MQ below (z_Qc g z_shR (fun v u' => v = some (.int res) ∧ u' = u)) args s 0 0 (z_A g z_shR)) 165 [(1, .int x1), (2, .int t.1), (3, .int t.2.1), (4, .int t.2.2)] [] u) (h : j_X10_chainsBy_j55 x1 x2 x3 x4 x5 x90 x91 x92 w kb kx = some res) : z_V p l e R s m args below meth c 7 g z_shR (MQ below (z_Qc g z_shR (fun v u' => v = some (.int res) ∧ u' = u)) args s 0 0 (z_A g z_shR)) 55 [(0, .ref (z_ad g 0)), (1, .int x1), (2, .int x2), (3, .int x3), (4, .int x4), (5, .int x5)] [.int x90, .int x91, .int x92] w := by
  unfold j_X10_chainsBy_j55 at h
  subst ew
  refine z_isub X dX10_chainsBy_55 (z_icmp_ne X 63 dX10_chainsBy_56 (by decide) (fun c6 => ?_) (fun c6 => ?_))
  · replace h := z_in c6 h
    refine z_iconst X (v := 0) dX10_chainsBy_63 (by decide) ?_
    exact wj_X10_chainsBy_j64 (u := w) hR X x1 x2 x3 x4 x5 0 w rfl kb kx hkb hkx h
  · replace h := z_ip c6 h
    refine z_iconst X (v := 1) dX10_chainsBy_59 (by decide) (z_goto X 64 dX10_chainsBy_60 (by decide) ?_)
    exact wj_X10_chainsBy_j64 (u := w) hR X x1 x2 x3 x4 x5 1 w rfl kb kx hkb hkx h
set_option maxRecDepth 20000 in
set_option maxHeartbeats 4000000 in
theorem wb_X10_chainsBy_11 {p : Program} {l : Launch} {e : Env} {R : Room} {s : State} {m : MethodId} {args : Array Value} {below : List Frame} {meth : Method} {c : Code} {g : z_G} {u : z_M} {res : Int32} (hR : R = z_rm 5) (X : z_X p R s m args meth c cX10_chainsBy 7 RX10 wsX10_chainsBy (some .int) g z_shR) (x1 : Int32) (q : Int32 × Int32 × Int32 × Int32) (kb : (Int32 × Int32 × Int32 × Int32) → Option (Int32)) (kx : (Int32 × Int32 × Int32) → Option (Int32)) (hkb : ∀ q, kb q = some res → z_V p l e R s m args below meth c 7 g z_shR (MQ below (z_Qc g z_shR (fun v u' => v = some (.int res) ∧ u' = u)) args s 0 0 (z_A g z_shR)) 11 [(0, .ref (z_ad g 0)), (1, .int x1), (2, .int q.1), (3, .int q.2.1), (4, .int q.2.2.1), (5, .int q.2.2.2)] [] u) (hkx : ∀ t, kx t = some res → z_V p l e R s m args below meth c 7 g z_shR (MQ below (z_Qc g z_shR (fun v u' => v = some (.int res) ∧ u' = u)) args s 0 0 (z_A g z_shR)) 165 [(1, .int x1), (2, .int t.1), (3, .int t.2.1), (4, .int t.2.2)] [] u) (h : b_X10_chainsBy_11 x1 u q kb kx = some res) : z_V p l e R s m args below meth c 7 g z_shR (MQ below (z_Qc g z_shR (fun v u' => v = some (.int res) ∧ u' = u)) args s 0 0 (z_A g z_shR)) 11 [(0, .ref (z_ad g 0)), (1, .int x1), (2, .int q.1), (3, .int q.2.1), (4, .int q.2.2.1), (5, .int q.2.2.2)] [] u := by
  unfold b_X10_chainsBy_11 at h
  refine z_iload X 5 dX10_chainsBy_11 rfl (z_aload_n X 0 dX10_chainsBy_13 rfl rfl (z_getI X (k0 := 18) z_r0 rfl in_X10_chainsBy_X10 (by decide) rfl rfl lk_X10_chainsBy_279 dX10_chainsBy_14 (z_icmp_ge X 165 dX10_chainsBy_17 (by decide) (fun c1 => ?_) (fun c1 => ?_))))
  · replace h := z_ip c1 h
    refine z_sub [1, 2, 3, 4] [(1, .int x1), (2, .int q.1), (3, .int q.2.1), (4, .int q.2.2.1)] rfl ?_
    exact hkx (q.1, q.2.1, q.2.2.1) h
  · replace h := z_in c1 h
    obtain ⟨r2, er2, h⟩ := z_bs h
    obtain ⟨b3, h⟩ := z_gs h
    obtain ⟨b4, h⟩ := z_gs h
    refine z_aload_n X 0 dX10_chainsBy_20 rfl rfl (z_iload X 5 dX10_chainsBy_21 rfl (z_callVi X (r := r2) (u1 := u) [.int q.2.2.2] [] (w_X10_fallsOf l g q.2.2.2 u er2) z_r0 rfl gX10_chainsBy_X10_fallsOf hy_X10_fallsOf rfl (z_le1 hR (by decide)) (z_le2 hR (by decide) (by decide)) (Nat.le_of_ble_eq_true rfl) dX10_chainsBy_23 (z_iconst X (v := 1) dX10_chainsBy_26 (by decide) (z_aload_n X 0 dX10_chainsBy_27 rfl rfl (z_getR X (k0 := 17) z_r0 rfl in_X10_chainsBy_X10 (by decide) rfl rfl lk_X10_chainsBy_45 dX10_chainsBy_28 (z_iload X 5 dX10_chainsBy_31 rfl (z_iald X z_r10 (z_inS b3) dX10_chainsBy_33 (z_iconst X (v := 1) dX10_chainsBy_34 (by decide) (z_isub X dX10_chainsBy_35 (z_ishl X dX10_chainsBy_36 (z_iconst X (v := 1) dX10_chainsBy_37 (by decide) (z_isub X dX10_chainsBy_38 (z_aload_n X 0 dX10_chainsBy_39 rfl rfl (z_getR X (k0 := 17) z_r0 rfl in_X10_chainsBy_X10 (by decide) rfl rfl lk_X10_chainsBy_45 dX10_chainsBy_40 (z_iload X 5 dX10_chainsBy_43 rfl (z_iald X z_r10 (z_inS b4) dX10_chainsBy_45 (z_iconst X (v := 1) dX10_chainsBy_46 (by decide) (z_icmp_le X 54 dX10_chainsBy_47 (by decide) (fun c5 => ?_) (fun c5 => ?_)))))))))))))))))))
    · replace h := z_ip c5 h
      refine z_iconst X (v := 0) dX10_chainsBy_54 (by decide) ?_
      exact wj_X10_chainsBy_j55 (u := u) hR X x1 q.1 q.2.1 q.2.2.1 q.2.2.2 0 ((1 <<< (((z_gI u 10 q.2.2.2.toNatClampNeg) - 1) &&& 31)) - 1) r2 u rfl kb kx hkb hkx h
    · replace h := z_in c5 h
      refine z_iconst X (v := 1) dX10_chainsBy_50 (by decide) (z_goto X 55 dX10_chainsBy_51 (by decide) ?_)
      exact wj_X10_chainsBy_j55 (u := u) hR X x1 q.1 q.2.1 q.2.2.1 q.2.2.2 1 ((1 <<< (((z_gI u 10 q.2.2.2.toNatClampNeg) - 1) &&& 31)) - 1) r2 u rfl kb kx hkb hkx h
set_option maxRecDepth 20000 in
set_option maxHeartbeats 4000000 in
theorem w_X10_chainsBy (l : Launch) (g : z_G) (a1 : Int32) (u : z_M) {res : Int32} (h : f_X10_chainsBy a1 u = some res) : z_C l g z_shR yX10_chainsBy wsX10_chainsBy 5 [.ref (z_ad g 0), .int a1] u (fun v u' => v = some (.int res) ∧ u' = u) := by
  refine z_C.mk (lv := [(0, .ref (z_ad g 0)), (1, .int a1)]) (cc := cX10_chainsBy) (nL := 7) (rt := (some .int)) rfl (by decide) (Nat.le_of_ble_eq_true rfl) rfl (fun p e R s m args below meth c hR X => ?_)
  unfold f_X10_chainsBy at h
  refine z_iconst X (v := 0) dX10_chainsBy_0 (by decide) (z_istore_n X [(2, .int 0), (0, .ref (z_ad g 0)), (1, .int a1)] dX10_chainsBy_1 rfl (by decide) rfl (z_iconst X (v := 0) dX10_chainsBy_2 (by decide) (z_istore_n X [(3, .int 0), (2, .int 0), (0, .ref (z_ad g 0)), (1, .int a1)] dX10_chainsBy_3 rfl (by decide) rfl (z_bipush X (v := 9) dX10_chainsBy_4 (by decide) (z_istore X [(4, .int 9), (3, .int 0), (2, .int 0), (0, .ref (z_ad g 0)), (1, .int a1)] dX10_chainsBy_6 (by decide) rfl (z_iconst X (v := 0) dX10_chainsBy_8 (by decide) (z_istore X [(5, .int 0), (4, .int 9), (3, .int 0), (2, .int 0), (0, .ref (z_ad g 0)), (1, .int a1)] dX10_chainsBy_9 (by decide) rfl (z_sub [4, 5, 3, 2, 1, 0] [(0, .ref (z_ad g 0)), (1, .int a1), (2, .int 0), (3, .int 0), (4, .int 9), (5, .int 0)] rfl ?_))))))))
  have hw := z_lp_w (fun q9 kb9 kx9 h1 h2 h3 => wb_X10_chainsBy_11 (l := l) (e := e) (below := below) (u := u) hR X a1 q9 kb9 kx9 h1 h2 h3) z_F _ _ h
  refine hw (fun t21 h => ?_)
  refine z_iload_n X 0 dX10_chainsBy_165 rfl rfl (z_iconst X (v := 3) dX10_chainsBy_166 (by decide) (z_icmp_ge X 174 dX10_chainsBy_167 (by decide) (fun c22 => ?_) (fun c22 => ?_)))
  · replace h := z_ip c22 h
    refine z_iload_n X 0 dX10_chainsBy_174 rfl rfl (z_iconst X (v := 3) dX10_chainsBy_175 (by decide) (z_icmp_ne X 183 dX10_chainsBy_176 (by decide) (fun c23 => ?_) (fun c23 => ?_)))
    · replace h := z_in c23 h
      refine z_iload X 3 dX10_chainsBy_183 rfl ?_
      cases h; exact z_iret X rfl dX10_chainsBy_185 ⟨rfl, rfl⟩
    · replace h := z_ip c23 h
      refine z_iload_n X 2 dX10_chainsBy_179 rfl rfl (z_goto X 185 dX10_chainsBy_180 (by decide) ?_)
      cases h; exact z_iret X rfl dX10_chainsBy_185 ⟨rfl, rfl⟩
  · replace h := z_in c22 h
    refine z_iload_n X 1 dX10_chainsBy_170 rfl rfl (z_goto X 185 dX10_chainsBy_171 (by decide) ?_)
    cases h; exact z_iret X rfl dX10_chainsBy_185 ⟨rfl, rfl⟩

theorem hy_X10_chainsBy : yX10_chainsBy.cls = RX10 ∧ yX10_chainsBy.cls ≠ "java/lang/invoke/MethodHandle" ∧ yX10_chainsBy.cls ≠ "java/lang/invoke/VarHandle" ∧ (parseMethodDescriptor yX10_chainsBy.desc).map (fun d => d.parameters.length) = some 1 := by decide +kernel
theorem hy_X10_layChains : yX10_layChains.cls = RX10 ∧ yX10_layChains.cls ≠ "java/lang/invoke/MethodHandle" ∧ yX10_layChains.cls ≠ "java/lang/invoke/VarHandle" ∧ (parseMethodDescriptor yX10_layChains.desc).map (fun d => d.parameters.length) = some 2 := by decide +kernel
def b_X10_isEven_10 (x1 : Int32) : (Int32 × z_M) → ((Int32 × z_M) → Option (Int32 × z_M)) → (z_M → Option (Int32 × z_M)) → Option (Int32 × z_M) := fun q kb kx =>
  if 9 ≤ q.1 then (kx q.2) else (Option.bind (f_X10_areThere x1 q.1 q.2) (fun r3 => if r3 = 0 then (kb (q.1 + 1, q.2)) else (Option.bind (f_X10_isBelow x1 q.1 q.2) (fun r5 => if r5 = 0 then (kb (q.1 + 1, q.2)) else (Option.bind (f_X10_layChains x1 q.1 q.2) (fun r7 => Option.bind (f_X10_chainsBy 3 r7) (fun r8 => Option.bind (f_X10_chainsBy 4 r7) (fun r9 => if r8 = r9 then (kb (q.1 + 1, r7)) else (some (0, r7))))))))))
def b_X10_isEven_2  : (Int32 × z_M) → ((Int32 × z_M) → Option (Int32 × z_M)) → (z_M → Option (Int32 × z_M)) → Option (Int32 × z_M) := fun q kb kx =>
  if 9 ≤ q.1 then (kx q.2) else (z_lp (b_X10_isEven_10 q.1) z_F (0, q.2) (fun t11 => kb (q.1 + 1, t11)))
def f_X10_isEven (u : z_M) : Option (Int32 × z_M) :=
  z_lp b_X10_isEven_2 z_F (0, u) (fun t12 => some (1, t12))
set_option maxRecDepth 20000 in
set_option maxHeartbeats 4000000 in
theorem wb_X10_isEven_10 {p : Program} {l : Launch} {e : Env} {R : Room} {s : State} {m : MethodId} {args : Array Value} {below : List Frame} {meth : Method} {c : Code} {g : z_G} {u : z_M} {res : Int32 × z_M} (hR : R = z_rm 7) (X : z_X p R s m args meth c cX10_isEven 3 RX10 wsX10_isEven (some .boolean) g z_shR) (x1 : Int32) (q : Int32 × z_M) (kb : (Int32 × z_M) → Option (Int32 × z_M)) (kx : z_M → Option (Int32 × z_M)) (hkb : ∀ q, kb q = some res → z_V p l e R s m args below meth c 3 g z_shR (MQ below (z_Qc g z_shR (fun v u' => v = some (.int res.1) ∧ u' = res.2)) args s 0 0 (z_A g z_shR)) 10 [(0, .ref (z_ad g 0)), (1, .int x1), (2, .int q.1)] [] q.2) (hkx : ∀ t, kx t = some res → z_V p l e R s m args below meth c 3 g z_shR (MQ below (z_Qc g z_shR (fun v u' => v = some (.int res.1) ∧ u' = res.2)) args s 0 0 (z_A g z_shR)) 61 [(0, .ref (z_ad g 0)), (1, .int x1)] [] t) (h : b_X10_isEven_10 x1 q kb kx = some res) : z_V p l e R s m args below meth c 3 g z_shR (MQ below (z_Qc g z_shR (fun v u' => v = some (.int res.1) ∧ u' = res.2)) args s 0 0 (z_A g z_shR)) 10 [(0, .ref (z_ad g 0)), (1, .int x1), (2, .int q.1)] [] q.2 := by
  unfold b_X10_isEven_10 at h
  refine z_iload_n X 2 dX10_isEven_10 rfl rfl (z_bipush X (v := 9) dX10_isEven_11 (by decide) (z_icmp_ge X 61 dX10_isEven_13 (by decide) (fun c2 => ?_) (fun c2 => ?_)))
  · replace h := z_ip c2 h
    refine z_sub [0, 1] [(0, .ref (z_ad g 0)), (1, .int x1)] rfl ?_
    exact hkx q.2 h
  · replace h := z_in c2 h
    obtain ⟨r3, er3, h⟩ := z_bs h
    refine z_aload_n X 0 dX10_isEven_16 rfl rfl (z_iload_n X 1 dX10_isEven_17 rfl rfl (z_iload_n X 2 dX10_isEven_18 rfl rfl (z_callVi X (r := r3) (u1 := q.2) [.int x1, .int q.1] [] (w_X10_areThere l g x1 q.1 q.2 er3) z_r0 rfl gX10_isEven_X10_areThere hy_X10_areThere rfl (z_le1 hR (by decide)) (z_le2 hR (by decide) (by decide)) (Nat.le_of_ble_eq_true rfl) dX10_isEven_19 (z_if_eq X 55 dX10_isEven_22 (by decide) (fun c4 => ?_) (fun c4 => ?_)))))
    · replace h := z_ip c4 h
      refine z_iinc X (v := q.1 + 1) 2 [(2, .int (q.1 + 1)), (0, .ref (z_ad g 0)), (1, .int x1)] dX10_isEven_55 rfl rfl (by decide) rfl (z_goto X 10 dX10_isEven_58 (by decide) (z_sub [1, 2, 0] [(0, .ref (z_ad g 0)), (1, .int x1), (2, .int (q.1 + 1))] rfl ?_))
      exact hkb (q.1 + 1, q.2) h
    · replace h := z_in c4 h
      obtain ⟨r5, er5, h⟩ := z_bs h
      refine z_aload_n X 0 dX10_isEven_25 rfl rfl (z_iload_n X 1 dX10_isEven_26 rfl rfl (z_iload_n X 2 dX10_isEven_27 rfl rfl (z_callVi X (r := r5) (u1 := q.2) [.int x1, .int q.1] [] (w_X10_isBelow l g x1 q.1 q.2 er5) z_r0 rfl gX10_isEven_X10_isBelow hy_X10_isBelow rfl (z_le1 hR (by decide)) (z_le2 hR (by decide) (by decide)) (Nat.le_of_ble_eq_true rfl) dX10_isEven_28 (z_if_eq X 55 dX10_isEven_31 (by decide) (fun c6 => ?_) (fun c6 => ?_)))))
      · replace h := z_ip c6 h
        refine z_iinc X (v := q.1 + 1) 2 [(2, .int (q.1 + 1)), (0, .ref (z_ad g 0)), (1, .int x1)] dX10_isEven_55 rfl rfl (by decide) rfl (z_goto X 10 dX10_isEven_58 (by decide) (z_sub [1, 2, 0] [(0, .ref (z_ad g 0)), (1, .int x1), (2, .int (q.1 + 1))] rfl ?_))
        exact hkb (q.1 + 1, q.2) h
      · replace h := z_in c6 h
        obtain ⟨r7, er7, h⟩ := z_bs h
        obtain ⟨r8, er8, h⟩ := z_bs h
        obtain ⟨r9, er9, h⟩ := z_bs h
        refine z_aload_n X 0 dX10_isEven_34 rfl rfl (z_iload_n X 1 dX10_isEven_35 rfl rfl (z_iload_n X 2 dX10_isEven_36 rfl rfl (z_callVv X (u1 := r7) [.int x1, .int q.1] [] (w_X10_layChains l g x1 q.1 q.2 er7) z_r0 rfl gX10_isEven_X10_layChains hy_X10_layChains rfl (z_le1 hR (by decide)) (z_le2 hR (by decide) (by decide)) (Nat.le_of_ble_eq_true rfl) dX10_isEven_37 (z_aload_n X 0 dX10_isEven_40 rfl rfl (z_iconst X (v := 3) dX10_isEven_41 (by decide) (z_callVi X (r := r8) (u1 := r7) [.int 3] [] (w_X10_chainsBy l g 3 r7 er8) z_r0 rfl gX10_isEven_X10_chainsBy hy_X10_chainsBy rfl (z_le1 hR (by decide)) (z_le2 hR (by decide) (by decide)) (Nat.le_of_ble_eq_true rfl) dX10_isEven_42 (z_aload_n X 0 dX10_isEven_45 rfl rfl (z_iconst X (v := 4) dX10_isEven_46 (by decide) (z_callVi X (r := r9) (u1 := r7) [.int 4] [.int r8] (w_X10_chainsBy l g 4 r7 er9) z_r0 rfl gX10_isEven_X10_chainsBy hy_X10_chainsBy rfl (z_le1 hR (by decide)) (z_le2 hR (by decide) (by decide)) (Nat.le_of_ble_eq_true rfl) dX10_isEven_47 (z_icmp_eq X 55 dX10_isEven_50 (by decide) (fun c10 => ?_) (fun c10 => ?_)))))))))))
        · replace h := z_ip c10 h
          refine z_iinc X (v := q.1 + 1) 2 [(2, .int (q.1 + 1)), (0, .ref (z_ad g 0)), (1, .int x1)] dX10_isEven_55 rfl rfl (by decide) rfl (z_goto X 10 dX10_isEven_58 (by decide) (z_sub [1, 2, 0] [(0, .ref (z_ad g 0)), (1, .int x1), (2, .int (q.1 + 1))] rfl ?_))
          exact hkb (q.1 + 1, r7) h
        · replace h := z_in c10 h
          refine z_iconst X (v := 0) dX10_isEven_53 (by decide) ?_
          cases h; exact z_zret X rfl rfl dX10_isEven_54 ⟨rfl, rfl⟩
set_option maxRecDepth 20000 in
set_option maxHeartbeats 4000000 in
theorem wb_X10_isEven_2 {p : Program} {l : Launch} {e : Env} {R : Room} {s : State} {m : MethodId} {args : Array Value} {below : List Frame} {meth : Method} {c : Code} {g : z_G} {u : z_M} {res : Int32 × z_M} (hR : R = z_rm 7) (X : z_X p R s m args meth c cX10_isEven 3 RX10 wsX10_isEven (some .boolean) g z_shR)  (q : Int32 × z_M) (kb : (Int32 × z_M) → Option (Int32 × z_M)) (kx : z_M → Option (Int32 × z_M)) (hkb : ∀ q, kb q = some res → z_V p l e R s m args below meth c 3 g z_shR (MQ below (z_Qc g z_shR (fun v u' => v = some (.int res.1) ∧ u' = res.2)) args s 0 0 (z_A g z_shR)) 2 [(0, .ref (z_ad g 0)), (1, .int q.1)] [] q.2) (hkx : ∀ t, kx t = some res → z_V p l e R s m args below meth c 3 g z_shR (MQ below (z_Qc g z_shR (fun v u' => v = some (.int res.1) ∧ u' = res.2)) args s 0 0 (z_A g z_shR)) 67 [] [] t) (h : b_X10_isEven_2 q kb kx = some res) : z_V p l e R s m args below meth c 3 g z_shR (MQ below (z_Qc g z_shR (fun v u' => v = some (.int res.1) ∧ u' = res.2)) args s 0 0 (z_A g z_shR)) 2 [(0, .ref (z_ad g 0)), (1, .int q.1)] [] q.2 := by
  unfold b_X10_isEven_2 at h
  refine z_iload_n X 1 dX10_isEven_2 rfl rfl (z_bipush X (v := 9) dX10_isEven_3 (by decide) (z_icmp_ge X 67 dX10_isEven_5 (by decide) (fun c1 => ?_) (fun c1 => ?_)))
  · replace h := z_ip c1 h
    refine z_sub [] [] rfl ?_
    exact hkx q.2 h
  · replace h := z_in c1 h
    refine z_iconst X (v := 0) dX10_isEven_8 (by decide) (z_istore_n X [(2, .int 0), (0, .ref (z_ad g 0)), (1, .int q.1)] dX10_isEven_9 rfl (by decide) rfl (z_sub [1, 2, 0] [(0, .ref (z_ad g 0)), (1, .int q.1), (2, .int 0)] rfl ?_))
    have hw := z_lp_w (fun q9 kb9 kx9 h1 h2 h3 => wb_X10_isEven_10 (l := l) (e := e) (below := below) (u := q.2) hR X q.1 q9 kb9 kx9 h1 h2 h3) z_F _ _ h
    refine hw (fun t11 h => ?_)
    refine z_iinc X (v := q.1 + 1) 1 [(1, .int (q.1 + 1)), (0, .ref (z_ad g 0))] dX10_isEven_61 rfl rfl (by decide) rfl (z_goto X 2 dX10_isEven_64 (by decide) (z_sub [1, 0] [(0, .ref (z_ad g 0)), (1, .int (q.1 + 1))] rfl ?_))
    exact hkb (q.1 + 1, t11) h
set_option maxRecDepth 20000 in
set_option maxHeartbeats 4000000 in
theorem w_X10_isEven (l : Launch) (g : z_G)  (u : z_M) {res : Int32 × z_M} (h : f_X10_isEven u = some res) : z_C l g z_shR yX10_isEven wsX10_isEven 7 [.ref (z_ad g 0)] u (fun v u' => v = some (.int res.1) ∧ u' = res.2) := by
  refine z_C.mk (lv := [(0, .ref (z_ad g 0))]) (cc := cX10_isEven) (nL := 3) (rt := (some .boolean)) rfl (by decide) (Nat.le_of_ble_eq_true rfl) rfl (fun p e R s m args below meth c hR X => ?_)
  unfold f_X10_isEven at h
  refine z_iconst X (v := 0) dX10_isEven_0 (by decide) (z_istore_n X [(1, .int 0), (0, .ref (z_ad g 0))] dX10_isEven_1 rfl (by decide) rfl (z_sub [1, 0] [(0, .ref (z_ad g 0)), (1, .int 0)] rfl ?_))
  have hw := z_lp_w (fun q9 kb9 kx9 h1 h2 h3 => wb_X10_isEven_2 (l := l) (e := e) (below := below) (u := u) hR X q9 kb9 kx9 h1 h2 h3) z_F _ _ h
  refine hw (fun t12 h => ?_)
  refine z_iconst X (v := 1) dX10_isEven_67 (by decide) ?_
  cases h; exact z_zret X rfl rfl dX10_isEven_68 ⟨rfl, rfl⟩
