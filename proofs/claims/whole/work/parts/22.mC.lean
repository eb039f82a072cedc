def f_X3_remainder (a1 : Int32) (a2 : Int32) : Option (Int32) :=
  if a2 ≤ 0 then (some 0) else (z_gd (decide (¬ a2 = 0)) (some (a1 - a1 / a2 * a2)))
set_option maxRecDepth 20000 in
set_option maxHeartbeats 4000000 in
theorem w_X3_remainder (l : Launch) (g : z_G) (a1 : Int32) (a2 : Int32) (u : z_M) {res : Int32} (h : f_X3_remainder a1 a2 = some res) : z_C l g z_shC yX3_remainder wsX3_remainder 1 [.int a1, .int a2] u (fun v u' => v = some (.int res) ∧ u' = u) := by
  refine z_C.mk (lv := [(0, .int a1), (1, .int a2)]) (cc := cX3_remainder) (nL := 2) (rt := (some .int)) rfl (by decide) (Nat.le_of_ble_eq_true rfl) rfl (fun p e R s m args below meth c hR X => ?_)
  unfold f_X3_remainder at h
  refine z_iload_n X 1 dX3_remainder_0 rfl rfl (z_if_le X 10 dX3_remainder_1 (by decide) (fun c1 => ?_) (fun c1 => ?_))
  · replace h := z_ip c1 h
    refine z_iconst X (v := 0) dX3_remainder_10 (by decide) ?_
    cases h; exact z_iret X rfl dX3_remainder_11 ⟨rfl, rfl⟩
  · replace h := z_in c1 h
    obtain ⟨b2, h⟩ := z_gs h
    refine z_iload_n X 0 dX3_remainder_4 rfl rfl (z_iload_n X 1 dX3_remainder_5 rfl rfl (z_irem X dX3_remainder_6 (of_decide_eq_true b2) (z_goto X 11 dX3_remainder_7 (by decide) ?_)))
    cases h; exact z_iret X rfl dX3_remainder_11 ⟨rfl, rfl⟩

theorem hy_X3_remainder : yX3_remainder.cls = RX3 ∧ yX3_remainder.cls ≠ "java/lang/invoke/MethodHandle" ∧ yX3_remainder.cls ≠ "java/lang/invoke/VarHandle" ∧ (parseMethodDescriptor yX3_remainder.desc).map (fun d => d.parameters.length) = some 2 := by decide +kernel
def b_X3_inverse_2 (x0 : Int32) (x1 : Int32) : Int32 → (Int32 → Option (Int32)) → (Unit → Option (Int32)) → Option (Int32) := fun q kb kx =>
  if x1 ≤ q then (kx ()) else (Option.bind (f_X3_remainder (x0 * q) x1) (fun r2 => if r2 = 1 then (some q) else (kb (q + 1))))
def f_X3_inverse (a1 : Int32) (a2 : Int32) : Option (Int32) :=
  z_lp (b_X3_inverse_2 a1 a2) z_F 1 (fun t4 => some 0)
set_option maxRecDepth 20000 in
set_option maxHeartbeats 4000000 in
theorem wb_X3_inverse_2 {p : Program} {l : Launch} {e : Env} {R : Room} {s : State} {m : MethodId} {args : Array Value} {below : List Frame} {meth : Method} {c : Code} {g : z_G} {u : z_M} {res : Int32} (hR : R = z_rm 2) (X : z_X p R s m args meth c cX3_inverse 3 RX3 wsX3_inverse (some .int) g z_shC) (x0 : Int32) (x1 : Int32) (q : Int32) (kb : Int32 → Option (Int32)) (kx : Unit → Option (Int32)) (hkb : ∀ q, kb q = some res → z_V p l e R s m args below meth c 3 g z_shC (MQ below (z_Qc g z_shC (fun v u' => v = some (.int res) ∧ u' = u)) args s 0 0 (z_A g z_shC)) 2 [(0, .int x0), (1, .int x1), (2, .int q)] [] u) (hkx : ∀ t, kx t = some res → z_V p l e R s m args below meth c 3 g z_shC (MQ below (z_Qc g z_shC (fun v u' => v = some (.int res) ∧ u' = u)) args s 0 0 (z_A g z_shC)) 26 [] [] u) (h : b_X3_inverse_2 x0 x1 q kb kx = some res) : z_V p l e R s m args below meth c 3 g z_shC (MQ below (z_Qc g z_shC (fun v u' => v = some (.int res) ∧ u' = u)) args s 0 0 (z_A g z_shC)) 2 [(0, .int x0), (1, .int x1), (2, .int q)] [] u := by
  unfold b_X3_inverse_2 at h
  refine z_iload_n X 2 dX3_inverse_2 rfl rfl (z_iload_n X 1 dX3_inverse_3 rfl rfl (z_icmp_ge X 26 dX3_inverse_4 (by decide) (fun c1 => ?_) (fun c1 => ?_)))
  · replace h := z_ip c1 h
    refine z_sub [] [] rfl ?_
    exact hkx () h
  · replace h := z_in c1 h
    obtain ⟨r2, er2, h⟩ := z_bs h
    refine z_iload_n X 0 dX3_inverse_7 rfl rfl (z_iload_n X 2 dX3_inverse_8 rfl rfl (z_imul X dX3_inverse_9 (z_iload_n X 1 dX3_inverse_10 rfl rfl (z_callSi X (r := r2) (u1 := u) [.int (x0 * q), .int x1] [] (w_X3_remainder l g (x0 * q) x1 u er2) gX3_inverse_X3_remainder hy_X3_remainder.2 rfl (z_le1 hR (by decide)) (z_le2 hR (by decide) (by decide)) (Nat.le_of_ble_eq_true rfl) dX3_inverse_11 (z_iconst X (v := 1) dX3_inverse_14 (by decide) (z_icmp_ne X 20 dX3_inverse_15 (by decide) (fun c3 => ?_) (fun c3 => ?_)))))))
    · replace h := z_in c3 h
      refine z_iinc X (v := q + 1) 2 [(2, .int (q + 1)), (0, .int x0), (1, .int x1)] dX3_inverse_20 rfl rfl (by decide) rfl (z_goto X 2 dX3_inverse_23 (by decide) (z_sub [1, 2, 0] [(0, .int x0), (1, .int x1), (2, .int (q + 1))] rfl ?_))
      exact hkb (q + 1) h
    · replace h := z_ip c3 h
      refine z_iload_n X 2 dX3_inverse_18 rfl rfl ?_
      cases h; exact z_iret X rfl dX3_inverse_19 ⟨rfl, rfl⟩
set_option maxRecDepth 20000 in
set_option maxHeartbeats 4000000 in
theorem w_X3_inverse (l : Launch) (g : z_G) (a1 : Int32) (a2 : Int32) (u : z_M) {res : Int32} (h : f_X3_inverse a1 a2 = some res) : z_C l g z_shC yX3_inverse wsX3_inverse 2 [.int a1, .int a2] u (fun v u' => v = some (.int res) ∧ u' = u) := by
  refine z_C.mk (lv := [(0, .int a1), (1, .int a2)]) (cc := cX3_inverse) (nL := 3) (rt := (some .int)) rfl (by decide) (Nat.le_of_ble_eq_true rfl) rfl (fun p e R s m args below meth c hR X => ?_)
  unfold f_X3_inverse at h
  refine z_iconst X (v := 1) dX3_inverse_0 (by decide) (z_istore_n X [(2, .int 1), (0, .int a1), (1, .int a2)] dX3_inverse_1 rfl (by decide) rfl (z_sub [1, 2, 0] [(0, .int a1), (1, .int a2), (2, .int 1)] rfl ?_))
  have hw := z_lp_w (fun q9 kb9 kx9 h1 h2 h3 => wb_X3_inverse_2 (l := l) (e := e) (below := below) (u := u) hR X a1 a2 q9 kb9 kx9 h1 h2 h3) z_F _ _ h
  refine hw (fun t4 h => ?_)
  refine z_iconst X (v := 0) dX3_inverse_26 (by decide) ?_
  cases h; exact z_iret X rfl dX3_inverse_27 ⟨rfl, rfl⟩

theorem lk_X3_stand_18 : (Cond.fieldLink RX3 18 RX3 (TX3 2).2.1 (TX3 2).2.2.1) ∈ wsX3_stand := by decide +kernel
theorem in_X3_stand_X3 : ∀ w ∈ u_ws RX3 TX3 3, w ∈ wsX3_stand := by decide +kernel
theorem lk_X3_stand_15 : (Cond.fieldLink RX3 15 RX3 (TX3 1).2.1 (TX3 1).2.2.1) ∈ wsX3_stand := by decide +kernel
theorem hy_X3_inverse : yX3_inverse.cls = RX3 ∧ yX3_inverse.cls ≠ "java/lang/invoke/MethodHandle" ∧ yX3_inverse.cls ≠ "java/lang/invoke/VarHandle" ∧ (parseMethodDescriptor yX3_inverse.desc).map (fun d => d.parameters.length) = some 2 := by decide +kernel
def b_X3_stand_15 (x1 : Int32) (x2 : Int32) (x3 : Int32) (x4 : Int32) : (Int32 × z_M) → ((Int32 × z_M) → Option (z_M)) → (z_M → Option (z_M)) → Option (z_M) := fun q kb kx =>
  if x2 ≤ q.1 then (kx q.2) else (z_gd (z_inb q.1 35) (Option.bind (f_X3_remainder ((z_gI q.2 137 q.1.toNatClampNeg) * x4) x3) (fun r5 => z_gd (z_inb ((x1 * 35) + q.1) 1225) (z_lt (z_sI q.2 136 ((x1 * 35) + q.1).toNatClampNeg r5) (fun u7 => kb (q.1 + 1, u7))))))
def f_X3_stand (a1 : Int32) (a2 : Int32) (a3 : Int32) (u : z_M) : Option (z_M) :=
  z_gd (z_inb a1 35) (Option.bind (f_X3_inverse (z_gI u 137 a1.toNatClampNeg) a3) (fun r2 => z_lp (b_X3_stand_15 a1 a2 a3 r2) z_F (a1, u) (fun t8 => some t8)))
set_option maxRecDepth 20000 in
set_option maxHeartbeats 4000000 in
theorem wb_X3_stand_15 {p : Program} {l : Launch} {e : Env} {R : Room} {s : State} {m : MethodId} {args : Array Value} {below : List Frame} {meth : Method} {c : Code} {g : z_G} {u : z_M} {res : z_M} (hR : R = z_rm 3) (X : z_X p R s m args meth c cX3_stand 6 RX3 wsX3_stand none g z_shC) (x1 : Int32) (x2 : Int32) (x3 : Int32) (x4 : Int32) (q : Int32 × z_M) (kb : (Int32 × z_M) → Option (z_M)) (kx : z_M → Option (z_M)) (hkb : ∀ q, kb q = some res → z_V p l e R s m args below meth c 6 g z_shC (MQ below (z_Qc g z_shC (fun v u' => v = none ∧ u' = res)) args s 0 0 (z_A g z_shC)) 15 [(0, .ref (z_ad g 134)), (1, .int x1), (2, .int x2), (3, .int x3), (4, .int x4), (5, .int q.1)] [] q.2) (hkx : ∀ t, kx t = some res → z_V p l e R s m args below meth c 6 g z_shC (MQ below (z_Qc g z_shC (fun v u' => v = none ∧ u' = res)) args s 0 0 (z_A g z_shC)) 53 [] [] t) (h : b_X3_stand_15 x1 x2 x3 x4 q kb kx = some res) : z_V p l e R s m args below meth c 6 g z_shC (MQ below (z_Qc g z_shC (fun v u' => v = none ∧ u' = res)) args s 0 0 (z_A g z_shC)) 15 [(0, .ref (z_ad g 134)), (1, .int x1), (2, .int x2), (3, .int x3), (4, .int x4), (5, .int q.1)] [] q.2 := by
  unfold b_X3_stand_15 at h
  refine z_iload X 5 dX3_stand_15 rfl (z_iload_n X 2 dX3_stand_17 rfl rfl (z_icmp_ge X 53 dX3_stand_18 (by decide) (fun c3 => ?_) (fun c3 => ?_)))
  · replace h := z_ip c3 h
    refine z_sub [] [] rfl ?_
    exact hkx q.2 h
  · replace h := z_in c3 h
    obtain ⟨b4, h⟩ := z_gs h
    obtain ⟨r5, er5, h⟩ := z_bs h
    obtain ⟨b6, h⟩ := z_gs h
    obtain ⟨u7, eu7, h⟩ := z_ls h
    refine z_aload_n X 0 dX3_stand_21 rfl rfl (z_getR X (k0 := 1) z_c134 rfl in_X3_stand_X3 (by decide) rfl rfl lk_X3_stand_15 dX3_stand_22 (z_iload_n X 1 dX3_stand_25 rfl rfl (z_bipush X (v := 35) dX3_stand_26 (by decide) (z_imul X dX3_stand_28 (z_iload X 5 dX3_stand_29 rfl (z_iadd X dX3_stand_31 (z_aload_n X 0 dX3_stand_32 rfl rfl (z_getR X (k0 := 2) z_c134 rfl in_X3_stand_X3 (by decide) rfl rfl lk_X3_stand_18 dX3_stand_33 (z_iload X 5 dX3_stand_36 rfl (z_iald X z_c137 (z_inS b4) dX3_stand_38 (z_iload X 4 dX3_stand_39 rfl (z_imul X dX3_stand_41 (z_iload_n X 3 dX3_stand_42 rfl rfl (z_callSi X (r := r5) (u1 := q.2) [.int ((z_gI q.2 137 q.1.toNatClampNeg) * x4), .int x3] [.int ((x1 * 35) + q.1), .ref (z_ad g 136)] (w_X3_remainder l g ((z_gI q.2 137 q.1.toNatClampNeg) * x4) x3 q.2 er5) gX3_stand_X3_remainder hy_X3_remainder.2 rfl (z_le1 hR (by decide)) (z_le2 hR (by decide) (by decide)) (Nat.le_of_ble_eq_true rfl) dX3_stand_43 (z_iast X z_c136 (z_inS b6) dX3_stand_46 (z_nm eu7 (z_iinc X (v := q.1 + 1) 5 [(5, .int (q.1 + 1)), (0, .ref (z_ad g 134)), (1, .int x1), (2, .int x2), (3, .int x3), (4, .int x4)] dX3_stand_47 rfl rfl (by decide) rfl (z_goto X 15 dX3_stand_50 (by decide) (z_sub [1, 2, 3, 4, 5, 0] [(0, .ref (z_ad g 134)), (1, .int x1), (2, .int x2), (3, .int x3), (4, .int x4), (5, .int (q.1 + 1))] rfl ?_)))))))))))))))))))
    exact hkb (q.1 + 1, u7) h
set_option maxRecDepth 20000 in
set_option maxHeartbeats 4000000 in
theorem w_X3_stand (l : Launch) (g : z_G) (a1 : Int32) (a2 : Int32) (a3 : Int32) (u : z_M) {res : z_M} (h : f_X3_stand a1 a2 a3 u = some res) : z_C l g z_shC yX3_stand wsX3_stand 3 [.ref (z_ad g 134), .int a1, .int a2, .int a3] u (fun v u' => v = none ∧ u' = res) := by
  refine z_C.mk (lv := [(0, .ref (z_ad g 134)), (1, .int a1), (2, .int a2), (3, .int a3)]) (cc := cX3_stand) (nL := 6) (rt := none) rfl (by decide) (Nat.le_of_ble_eq_true rfl) rfl (fun p e R s m args below meth c hR X => ?_)
  unfold f_X3_stand at h
  obtain ⟨b1, h⟩ := z_gs h
  obtain ⟨r2, er2, h⟩ := z_bs h
  refine z_aload_n X 0 dX3_stand_0 rfl rfl (z_getR X (k0 := 2) z_c134 rfl in_X3_stand_X3 (by decide) rfl rfl lk_X3_stand_18 dX3_stand_1 (z_iload_n X 1 dX3_stand_4 rfl rfl (z_iald X z_c137 (z_inS b1) dX3_stand_5 (z_iload_n X 3 dX3_stand_6 rfl rfl (z_callSi X (r := r2) (u1 := u) [.int (z_gI u 137 a1.toNatClampNeg), .int a3] [] (w_X3_inverse l g (z_gI u 137 a1.toNatClampNeg) a3 u er2) gX3_stand_X3_inverse hy_X3_inverse.2 rfl (z_le1 hR (by decide)) (z_le2 hR (by decide) (by decide)) (Nat.le_of_ble_eq_true rfl) dX3_stand_7 (z_istore X [(4, .int r2), (0, .ref (z_ad g 134)), (1, .int a1), (2, .int a2), (3, .int a3)] dX3_stand_10 (by decide) rfl (z_iload_n X 2 dX3_stand_12 rfl rfl (z_istore X [(5, .int a1), (4, .int r2), (0, .ref (z_ad g 134)), (1, .int a1), (2, .int a2), (3, .int a3)] dX3_stand_13 (by decide) rfl (z_sub [2, 3, 4, 5, 1, 0] [(0, .ref (z_ad g 134)), (1, .int a1), (2, .int a2), (3, .int a3), (4, .int r2), (5, .int a1)] rfl ?_)))))))))
  have hw := z_lp_w (fun q9 kb9 kx9 h1 h2 h3 => wb_X3_stand_15 (l := l) (e := e) (below := below) (u := u) hR X a1 a2 a3 r2 q9 kb9 kx9 h1 h2 h3) z_F _ _ h
  refine hw (fun t8 h => ?_)
  cases h; exact z_vret X rfl dX3_stand_53 ⟨rfl, rfl⟩

theorem lk_X3_reduce_18 : (Cond.fieldLink RX3 18 RX3 (TX3 2).2.1 (TX3 2).2.2.1) ∈ wsX3_reduce := by decide +kernel
theorem in_X3_reduce_X3 : ∀ w ∈ u_ws RX3 TX3 3, w ∈ wsX3_reduce := by decide +kernel
theorem lk_X3_reduce_15 : (Cond.fieldLink RX3 15 RX3 (TX3 1).2.1 (TX3 1).2.2.1) ∈ wsX3_reduce := by decide +kernel
theorem hy_X3_stand : yX3_stand.cls = RX3 ∧ yX3_stand.cls ≠ "java/lang/invoke/MethodHandle" ∧ yX3_stand.cls ≠ "java/lang/invoke/VarHandle" ∧ (parseMethodDescriptor yX3_stand.desc).map (fun d => d.parameters.length) = some 3 := by decide +kernel
def b_X3_reduce_55 (x1 : Int32) (x2 : Int32) (x3 : Int32) (x4 : Int32) : (Int32 × z_M) → ((Int32 × z_M) → Option (Int32 × z_M)) → (z_M → Option (Int32 × z_M)) → Option (Int32 × z_M) := fun q kb kx =>
  if x1 ≤ q.1 then (kx q.2) else (z_gd (z_inb q.1 35) (z_gd (z_inb ((x3 * 35) + q.1) 1225) (Option.bind (f_X3_remainder ((z_gI q.2 137 q.1.toNatClampNeg) + (x4 * (z_gI q.2 136 ((x3 * 35) + q.1).toNatClampNeg))) x2) (fun r12 => z_gd (z_inb q.1 35) (z_lt (z_sI q.2 137 q.1.toNatClampNeg r12) (fun u14 => kb (q.1 + 1, u14)))))))
def b_X3_reduce_2 (x1 : Int32) (x2 : Int32) : (Int32 × z_M) → ((Int32 × z_M) → Option (Int32 × z_M)) → (z_M → Option (Int32 × z_M)) → Option (Int32 × z_M) := fun q kb kx =>
  if x1 ≤ q.1 then (kx q.2) else (z_gd (z_inb q.1 35) (if (z_gI q.2 137 q.1.toNatClampNeg) = 0 then (kb (q.1 + 1, q.2)) else (z_gd (z_inb ((q.1 * 35) + q.1) 1225) (if (z_gI q.2 136 ((q.1 * 35) + q.1).toNatClampNeg) = 0 then (Option.bind (f_X3_stand q.1 x1 x2 q.2) (fun r6 => some (1, r6))) else (z_gd (z_inb q.1 35) (z_lt (x2 - (z_gI q.2 137 q.1.toNatClampNeg)) (fun v8 => z_lp (b_X3_reduce_55 x1 x2 q.1 v8) z_F (q.1, q.2) (fun t15 => kb (q.1 + 1, t15)))))))))
def f_X3_reduce (a1 : Int32) (a2 : Int32) (u : z_M) : Option (Int32 × z_M) :=
  z_lp (b_X3_reduce_2 a1 a2) z_F (0, u) (fun t16 => some (0, t16))
set_option maxRecDepth 20000 in
set_option maxHeartbeats 4000000 in
theorem wb_X3_reduce_55 {p : Program} {l : Launch} {e : Env} {R : Room} {s : State} {m : MethodId} {args : Array Value} {below : List Frame} {meth : Method} {c : Code} {g : z_G} {u : z_M} {res : Int32 × z_M} (hR : R = z_rm 4) (X : z_X p R s m args meth c cX3_reduce 6 RX3 wsX3_reduce (some .boolean) g z_shC) (x1 : Int32) (x2 : Int32) (x3 : Int32) (x4 : Int32) (q : Int32 × z_M) (kb : (Int32 × z_M) → Option (Int32 × z_M)) (kx : z_M → Option (Int32 × z_M)) (hkb : ∀ q, kb q = some res → z_V p l e R s m args below meth c 6 g z_shC (MQ below (z_Qc g z_shC (fun v u' => v = some (.int res.1) ∧ u' = res.2)) args s 0 0 (z_A g z_shC)) 55 [(0, .ref (z_ad g 134)), (1, .int x1), (2, .int x2), (3, .int x3), (4, .int x4), (5, .int q.1)] [] q.2) (hkx : ∀ t, kx t = some res → z_V p l e R s m args below meth c 6 g z_shC (MQ below (z_Qc g z_shC (fun v u' => v = some (.int res.1) ∧ u' = res.2)) args s 0 0 (z_A g z_shC)) 101 [(0, .ref (z_ad g 134)), (1, .int x1), (2, .int x2), (3, .int x3)] [] t) (h : b_X3_reduce_55 x1 x2 x3 x4 q kb kx = some res) : z_V p l e R s m args below meth c 6 g z_shC (MQ below (z_Qc g z_shC (fun v u' => v = some (.int res.1) ∧ u' = res.2)) args s 0 0 (z_A g z_shC)) 55 [(0, .ref (z_ad g 134)), (1, .int x1), (2, .int x2), (3, .int x3), (4, .int x4), (5, .int q.1)] [] q.2 := by
  unfold b_X3_reduce_55 at h
  refine z_iload X 5 dX3_reduce_55 rfl (z_iload_n X 1 dX3_reduce_57 rfl rfl (z_icmp_ge X 101 dX3_reduce_58 (by decide) (fun c9 => ?_) (fun c9 => ?_)))
  · replace h := z_ip c9 h
    refine z_sub [0, 1, 2, 3] [(0, .ref (z_ad g 134)), (1, .int x1), (2, .int x2), (3, .int x3)] rfl ?_
    exact hkx q.2 h
  · replace h := z_in c9 h
    obtain ⟨b10, h⟩ := z_gs h
    obtain ⟨b11, h⟩ := z_gs h
    obtain ⟨r12, er12, h⟩ := z_bs h
    obtain ⟨b13, h⟩ := z_gs h
    obtain ⟨u14, eu14, h⟩ := z_ls h
    refine z_aload_n X 0 dX3_reduce_61 rfl rfl (z_getR X (k0 := 2) z_c134 rfl in_X3_reduce_X3 (by decide) rfl rfl lk_X3_reduce_18 dX3_reduce_62 (z_iload X 5 dX3_reduce_65 rfl (z_aload_n X 0 dX3_reduce_67 rfl rfl (z_getR X (k0 := 2) z_c134 rfl in_X3_reduce_X3 (by decide) rfl rfl lk_X3_reduce_18 dX3_reduce_68 (z_iload X 5 dX3_reduce_71 rfl (z_iald X z_c137 (z_inS b10) dX3_reduce_73 (z_iload X 4 dX3_reduce_74 rfl (z_aload_n X 0 dX3_reduce_76 rfl rfl (z_getR X (k0 := 1) z_c134 rfl in_X3_reduce_X3 (by decide) rfl rfl lk_X3_reduce_15 dX3_reduce_77 (z_iload_n X 3 dX3_reduce_80 rfl rfl (z_bipush X (v := 35) dX3_reduce_81 (by decide) (z_imul X dX3_reduce_83 (z_iload X 5 dX3_reduce_84 rfl (z_iadd X dX3_reduce_86 (z_iald X z_c136 (z_inS b11) dX3_reduce_87 (z_imul X dX3_reduce_88 (z_iadd X dX3_reduce_89 (z_iload_n X 2 dX3_reduce_90 rfl rfl (z_callSi X (r := r12) (u1 := q.2) [.int ((z_gI q.2 137 q.1.toNatClampNeg) + (x4 * (z_gI q.2 136 ((x3 * 35) + q.1).toNatClampNeg))), .int x2] [.int q.1, .ref (z_ad g 137)] (w_X3_remainder l g ((z_gI q.2 137 q.1.toNatClampNeg) + (x4 * (z_gI q.2 136 ((x3 * 35) + q.1).toNatClampNeg))) x2 q.2 er12) gX3_reduce_X3_remainder hy_X3_remainder.2 rfl (z_le1 hR (by decide)) (z_le2 hR (by decide) (by decide)) (Nat.le_of_ble_eq_true rfl) dX3_reduce_91 (z_iast X z_c137 (z_inS b13) dX3_reduce_94 (z_nm eu14 (z_iinc X (v := q.1 + 1) 5 [(5, .int (q.1 + 1)), (0, .ref (z_ad g 134)), (1, .int x1), (2, .int x2), (3, .int x3), (4, .int x4)] dX3_reduce_95 rfl rfl (by decide) rfl (z_goto X 55 dX3_reduce_98 (by decide) (z_sub [1, 2, 3, 4, 5, 0] [(0, .ref (z_ad g 134)), (1, .int x1), (2, .int x2), (3, .int x3), (4, .int x4), (5, .int (q.1 + 1))] rfl ?_))))))))))))))))))))))))
    exact hkb (q.1 + 1, u14) h
set_option maxRecDepth 20000 in
set_option maxHeartbeats 4000000 in
theorem wb_X3_reduce_2 {p : Program} {l : Launch} {e : Env} {R : Room} {s : State} {m : MethodId} {args : Array Value} {below : List Frame} {meth : Method} {c : Code} {g : z_G} {u : z_M} {res : Int32 × z_M} (hR : R = z_rm 4) (X : z_X p R s m args meth c cX3_reduce 6 RX3 wsX3_reduce (some .boolean) g z_shC) (x1 : Int32) (x2 : Int32) (q : Int32 × z_M) (kb : (Int32 × z_M) → Option (Int32 × z_M)) (kx : z_M → Option (Int32 × z_M)) (hkb : ∀ q, kb q = some res → z_V p l e R s m args below meth c 6 g z_shC (MQ below (z_Qc g z_shC (fun v u' => v = some (.int res.1) ∧ u' = res.2)) args s 0 0 (z_A g z_shC)) 2 [(0, .ref (z_ad g 134)), (1, .int x1), (2, .int x2), (3, .int q.1)] [] q.2) (hkx : ∀ t, kx t = some res → z_V p l e R s m args below meth c 6 g z_shC (MQ below (z_Qc g z_shC (fun v u' => v = some (.int res.1) ∧ u' = res.2)) args s 0 0 (z_A g z_shC)) 107 [] [] t) (h : b_X3_reduce_2 x1 x2 q kb kx = some res) : z_V p l e R s m args below meth c 6 g z_shC (MQ below (z_Qc g z_shC (fun v u' => v = some (.int res.1) ∧ u' = res.2)) args s 0 0 (z_A g z_shC)) 2 [(0, .ref (z_ad g 134)), (1, .int x1), (2, .int x2), (3, .int q.1)] [] q.2 := by
  unfold b_X3_reduce_2 at h
  refine z_iload_n X 3 dX3_reduce_2 rfl rfl (z_iload_n X 1 dX3_reduce_3 rfl rfl (z_icmp_ge X 107 dX3_reduce_4 (by decide) (fun c1 => ?_) (fun c1 => ?_)))
  · replace h := z_ip c1 h
    refine z_sub [] [] rfl ?_
    exact hkx q.2 h
  · replace h := z_in c1 h
    obtain ⟨b2, h⟩ := z_gs h
    refine z_aload_n X 0 dX3_reduce_7 rfl rfl (z_getR X (k0 := 2) z_c134 rfl in_X3_reduce_X3 (by decide) rfl rfl lk_X3_reduce_18 dX3_reduce_8 (z_iload_n X 3 dX3_reduce_11 rfl rfl (z_iald X z_c137 (z_inS b2) dX3_reduce_12 (z_if_ne X 19 dX3_reduce_13 (by decide) (fun c3 => ?_) (fun c3 => ?_)))))
    · replace h := z_in c3 h
      obtain ⟨b4, h⟩ := z_gs h
      refine z_aload_n X 0 dX3_reduce_19 rfl rfl (z_getR X (k0 := 1) z_c134 rfl in_X3_reduce_X3 (by decide) rfl rfl lk_X3_reduce_15 dX3_reduce_20 (z_iload_n X 3 dX3_reduce_23 rfl rfl (z_bipush X (v := 35) dX3_reduce_24 (by decide) (z_imul X dX3_reduce_26 (z_iload_n X 3 dX3_reduce_27 rfl rfl (z_iadd X dX3_reduce_28 (z_iald X z_c136 (z_inS b4) dX3_reduce_29 (z_if_ne X 42 dX3_reduce_30 (by decide) (fun c5 => ?_) (fun c5 => ?_)))))))))
      · replace h := z_in c5 h
        obtain ⟨b7, h⟩ := z_gs h
        obtain ⟨v8, ev8, h⟩ := z_ls h
        refine z_iload_n X 2 dX3_reduce_42 rfl rfl (z_aload_n X 0 dX3_reduce_43 rfl rfl (z_getR X (k0 := 2) z_c134 rfl in_X3_reduce_X3 (by decide) rfl rfl lk_X3_reduce_18 dX3_reduce_44 (z_iload_n X 3 dX3_reduce_47 rfl rfl (z_iald X z_c137 (z_inS b7) dX3_reduce_48 (z_isub X dX3_reduce_49 (z_ti ev8 (z_istore X [(4, .int v8), (0, .ref (z_ad g 134)), (1, .int x1), (2, .int x2), (3, .int q.1)] dX3_reduce_50 (by decide) rfl (z_iload_n X 4 dX3_reduce_52 rfl rfl (z_istore X [(5, .int q.1), (4, .int v8), (0, .ref (z_ad g 134)), (1, .int x1), (2, .int x2), (3, .int q.1)] dX3_reduce_53 (by decide) rfl (z_sub [2, 3, 4, 5, 1, 0] [(0, .ref (z_ad g 134)), (1, .int x1), (2, .int x2), (3, .int q.1), (4, .int v8), (5, .int q.1)] rfl ?_))))))))))
        have hw := z_lp_w (fun q9 kb9 kx9 h1 h2 h3 => wb_X3_reduce_55 (l := l) (e := e) (below := below) (u := q.2) hR X x1 x2 q.1 v8 q9 kb9 kx9 h1 h2 h3) z_F _ _ h
        refine hw (fun t15 h => ?_)
        refine z_iinc X (v := q.1 + 1) 3 [(3, .int (q.1 + 1)), (0, .ref (z_ad g 134)), (1, .int x1), (2, .int x2)] dX3_reduce_101 rfl rfl (by decide) rfl (z_goto X 2 dX3_reduce_104 (by decide) (z_sub [1, 2, 3, 0] [(0, .ref (z_ad g 134)), (1, .int x1), (2, .int x2), (3, .int (q.1 + 1))] rfl ?_))
        exact hkb (q.1 + 1, t15) h
      · replace h := z_ip c5 h
        obtain ⟨r6, er6, h⟩ := z_bs h
        refine z_aload_n X 0 dX3_reduce_33 rfl rfl (z_iload_n X 3 dX3_reduce_34 rfl rfl (z_iload_n X 1 dX3_reduce_35 rfl rfl (z_iload_n X 2 dX3_reduce_36 rfl rfl (z_callVv X (u1 := r6) [.int q.1, .int x1, .int x2] [] (w_X3_stand l g q.1 x1 x2 q.2 er6) z_c134 rfl gX3_reduce_X3_stand hy_X3_stand rfl (z_le1 hR (by decide)) (z_le2 hR (by decide) (by decide)) (Nat.le_of_ble_eq_true rfl) dX3_reduce_37 (z_iconst X (v := 1) dX3_reduce_40 (by decide) ?_)))))
        cases h; exact z_zret X rfl rfl dX3_reduce_41 ⟨rfl, rfl⟩
    · replace h := z_ip c3 h
      refine z_goto X 101 dX3_reduce_16 (by decide) (z_iinc X (v := q.1 + 1) 3 [(3, .int (q.1 + 1)), (0, .ref (z_ad g 134)), (1, .int x1), (2, .int x2)] dX3_reduce_101 rfl rfl (by decide) rfl (z_goto X 2 dX3_reduce_104 (by decide) (z_sub [1, 2, 3, 0] [(0, .ref (z_ad g 134)), (1, .int x1), (2, .int x2), (3, .int (q.1 + 1))] rfl ?_)))
      exact hkb (q.1 + 1, q.2) h
set_option maxRecDepth 20000 in
set_option maxHeartbeats 4000000 in
theorem w_X3_reduce (l : Launch) (g : z_G) (a1 : Int32) (a2 : Int32) (u : z_M) {res : Int32 × z_M} (h : f_X3_reduce a1 a2 u = some res) : z_C l g z_shC yX3_reduce wsX3_reduce 4 [.ref (z_ad g 134), .int a1, .int a2] u (fun v u' => v = some (.int res.1) ∧ u' = res.2) := by
  refine z_C.mk (lv := [(0, .ref (z_ad g 134)), (1, .int a1), (2, .int a2)]) (cc := cX3_reduce) (nL := 6) (rt := (some .boolean)) rfl (by decide) (Nat.le_of_ble_eq_true rfl) rfl (fun p e R s m args below meth c hR X => ?_)
  unfold f_X3_reduce at h
  refine z_iconst X (v := 0) dX3_reduce_0 (by decide) (z_istore_n X [(3, .int 0), (0, .ref (z_ad g 134)), (1, .int a1), (2, .int a2)] dX3_reduce_1 rfl (by decide) rfl (z_sub [1, 2, 3, 0] [(0, .ref (z_ad g 134)), (1, .int a1), (2, .int a2), (3, .int 0)] rfl ?_))
  have hw := z_lp_w (fun q9 kb9 kx9 h1 h2 h3 => wb_X3_reduce_2 (l := l) (e := e) (below := below) (u := u) hR X a1 a2 q9 kb9 kx9 h1 h2 h3) z_F _ _ h
  refine hw (fun t16 h => ?_)
  refine z_iconst X (v := 0) dX3_reduce_107 (by decide) ?_
  cases h; exact z_zret X rfl rfl dX3_reduce_108 ⟨rfl, rfl⟩

theorem ml41_X3_rank : Cond.methodLink RX3 41 Lib.Math.min.name ∈ wsX3_rank := by decide +kernel
theorem ms_min_X3_rank : Cond.static Lib.Math.min.name ∈ wsX3_rank := by decide +kernel
theorem mi_X3_rank : Cond.initialized "java/lang/Math" ∈ wsX3_rank := by decide +kernel
theorem mc_min_X3_rank : Cond.code Lib.Math.min.name Lib.Math.min.code 2 (some .int) ∈ wsX3_rank := by decide +kernel
theorem lk_X3_rank_15 : (Cond.fieldLink RX3 15 RX3 (TX3 1).2.1 (TX3 1).2.2.1) ∈ wsX3_rank := by decide +kernel
theorem in_X3_rank_X3 : ∀ w ∈ u_ws RX3 TX3 3, w ∈ wsX3_rank := fun _ h => List.mem_cons_of_mem _ (List.mem_append_left _ (List.mem_append_right _ h))
theorem hy_X3_list : yX3_list.cls = RX3 ∧ yX3_list.cls ≠ "java/lang/invoke/MethodHandle" ∧ yX3_list.cls ≠ "java/lang/invoke/VarHandle" ∧ (parseMethodDescriptor yX3_list.desc).map (fun d => d.parameters.length) = some 3 := by decide +kernel
theorem hy_X3_reduce : yX3_reduce.cls = RX3 ∧ yX3_reduce.cls ≠ "java/lang/invoke/MethodHandle" ∧ yX3_reduce.cls ≠ "java/lang/invoke/VarHandle" ∧ (parseMethodDescriptor yX3_reduce.desc).map (fun d => d.parameters.length) = some 2 := by decide +kernel
theorem hy_X3_write : yX3_write.cls = RX3 ∧ yX3_write.cls ≠ "java/lang/invoke/MethodHandle" ∧ yX3_write.cls ≠ "java/lang/invoke/VarHandle" ∧ (parseMethodDescriptor yX3_write.desc).map (fun d => d.parameters.length) = some 3 := by decide +kernel
def b_X3_rank_26 (x1 : Nat) (x2 : Int32) (x3 : Int32) (x4 : Int32) (x5 : Int32) : (Int32 × z_M) → ((Int32 × z_M) → Option (Int32 × z_M)) → (z_M → Option (Int32 × z_M)) → Option (Int32 × z_M) := fun q kb kx =>
  if x5 ≤ q.1 then (kx q.2) else (z_gd (z_inb ((q.1 * 35) + q.1) 1225) (z_lt (z_sI q.2 136 ((q.1 * 35) + q.1).toNatClampNeg 0) (fun u7 => kb (q.1 + 1, u7))))
def b_X3_rank_59 (x1 : Nat) (x2 : Int32) (x3 : Int32) (x4 : Int32) (x5 : Int32) : (Int32 × Int32 × z_M) → ((Int32 × Int32 × z_M) → Option (Int32 × z_M)) → ((Int32 × z_M) → Option (Int32 × z_M)) → Option (Int32 × z_M) := fun q kb kx =>
  if 512 ≤ q.2.1 then (kx (q.1, q.2.2)) else (if x5 ≤ q.1 then (kx (q.1, q.2.2)) else (Option.bind (f_X3_isFace x1 x2 x3 q.2.1 q.2.2) (fun r11 => if r11 = 0 then (kb (q.1, q.2.1 + 1, q.2.2)) else (Option.bind (f_X3_write x1 q.2.1 x4 q.2.2) (fun r13 => z_b2 (f_X3_reduce x5 x4 r13) (fun r14 u15 => if r14 = 0 then (kb (q.1, q.2.1 + 1, u15)) else (kb (q.1 + 1, q.2.1 + 1, u15))))))))
def f_X3_rank (a1 : Nat) (a2 : Int32) (a3 : Int32) (a4 : Int32) (u : z_M) : Option (Int32 × z_M) :=
  if 1 ≤ a3 then (z_b2 (f_X3_list a1 a2 (a3 - 1) u) (fun r2 u3 => z_lt ((if 35 < r2 then 35 else r2)) (fun v4 => z_lp (b_X3_rank_26 a1 a2 a3 a4 v4) z_F (0, u3) (fun t8 => z_lp (b_X3_rank_59 a1 a2 a3 a4 v4) z_F (0, 0, t8) (fun t17 => some (t17.1, t17.2)))))) else (some (0, u))
set_option maxRecDepth 20000 in
set_option maxHeartbeats 4000000 in
theorem wb_X3_rank_26 {p : Program} {l : Launch} {e : Env} {R : Room} {s : State} {m : MethodId} {args : Array Value} {below : List Frame} {meth : Method} {c : Code} {g : z_G} {u : z_M} {res : Int32 × z_M} (hR : R = z_rm 5) (X : z_X p R s m args meth c cX3_rank 8 RX3 wsX3_rank (some .int) g z_shC) (x1 : Nat) (x2 : Int32) (x3 : Int32) (x4 : Int32) (x5 : Int32) (ex1 : z_PO x1) (q : Int32 × z_M) (kb : (Int32 × z_M) → Option (Int32 × z_M)) (kx : z_M → Option (Int32 × z_M)) (hkb : ∀ q, kb q = some res → z_V p l e R s m args below meth c 8 g z_shC (MQ below (z_Qc g z_shC (fun v u' => v = some (.int res.1) ∧ u' = res.2)) args s 0 0 (z_A g z_shC)) 26 [(0, .ref (z_ad g 134)), (1, .ref (z_ad g x1)), (2, .int x2), (3, .int x3), (4, .int x4), (5, .int x5), (6, .int q.1)] [] q.2) (hkx : ∀ t, kx t = some res → z_V p l e R s m args below meth c 8 g z_shC (MQ below (z_Qc g z_shC (fun v u' => v = some (.int res.1) ∧ u' = res.2)) args s 0 0 (z_A g z_shC)) 53 [(0, .ref (z_ad g 134)), (1, .ref (z_ad g x1)), (2, .int x2), (3, .int x3), (4, .int x4), (5, .int x5)] [] t) (h : b_X3_rank_26 x1 x2 x3 x4 x5 q kb kx = some res) : z_V p l e R s m args below meth c 8 g z_shC (MQ below (z_Qc g z_shC (fun v u' => v = some (.int res.1) ∧ u' = res.2)) args s 0 0 (z_A g z_shC)) 26 [(0, .ref (z_ad g 134)), (1, .ref (z_ad g x1)), (2, .int x2), (3, .int x3), (4, .int x4), (5, .int x5), (6, .int q.1)] [] q.2 := by
  unfold b_X3_rank_26 at h
  refine z_iload X 6 dX3_rank_26 rfl (z_iload X 5 dX3_rank_28 rfl (z_icmp_ge X 53 dX3_rank_30 (by decide) (fun c5 => ?_) (fun c5 => ?_)))
  · replace h := z_ip c5 h
    refine z_sub [0, 1, 2, 3, 4, 5] [(0, .ref (z_ad g 134)), (1, .ref (z_ad g x1)), (2, .int x2), (3, .int x3), (4, .int x4), (5, .int x5)] rfl ?_
    exact hkx q.2 h
  · replace h := z_in c5 h
    obtain ⟨b6, h⟩ := z_gs h
    obtain ⟨u7, eu7, h⟩ := z_ls h
    refine z_aload_n X 0 dX3_rank_33 rfl rfl (z_getR X (k0 := 1) z_c134 rfl in_X3_rank_X3 (by decide) rfl rfl lk_X3_rank_15 dX3_rank_34 (z_iload X 6 dX3_rank_37 rfl (z_bipush X (v := 35) dX3_rank_39 (by decide) (z_imul X dX3_rank_41 (z_iload X 6 dX3_rank_42 rfl (z_iadd X dX3_rank_44 (z_iconst X (v := 0) dX3_rank_45 (by decide) (z_iast X z_c136 (z_inS b6) dX3_rank_46 (z_nm eu7 (z_iinc X (v := q.1 + 1) 6 [(6, .int (q.1 + 1)), (0, .ref (z_ad g 134)), (1, .ref (z_ad g x1)), (2, .int x2), (3, .int x3), (4, .int x4), (5, .int x5)] dX3_rank_47 rfl rfl (by decide) rfl (z_goto X 26 dX3_rank_50 (by decide) (z_sub [1, 2, 3, 4, 5, 6, 0] [(0, .ref (z_ad g 134)), (1, .ref (z_ad g x1)), (2, .int x2), (3, .int x3), (4, .int x4), (5, .int x5), (6, .int (q.1 + 1))] rfl ?_))))))))))))
    exact hkb (q.1 + 1, u7) h
set_option maxRecDepth 20000 in
set_option maxHeartbeats 4000000 in
theorem wb_X3_rank_59 {p : Program} {l : Launch} {e : Env} {R : Room} {s : State} {m : MethodId} {args : Array Value} {below : List Frame} {meth : Method} {c : Code} {g : z_G} {u : z_M} {res : Int32 × z_M} (hR : R = z_rm 5) (X : z_X p R s m args meth c cX3_rank 8 RX3 wsX3_rank (some .int) g z_shC) (x1 : Nat) (x2 : Int32) (x3 : Int32) (x4 : Int32) (x5 : Int32) (ex1 : z_PO x1) (q : Int32 × Int32 × z_M) (kb : (Int32 × Int32 × z_M) → Option (Int32 × z_M)) (kx : (Int32 × z_M) → Option (Int32 × z_M)) (hkb : ∀ q, kb q = some res → z_V p l e R s m args below meth c 8 g z_shC (MQ below (z_Qc g z_shC (fun v u' => v = some (.int res.1) ∧ u' = res.2)) args s 0 0 (z_A g z_shC)) 59 [(0, .ref (z_ad g 134)), (1, .ref (z_ad g x1)), (2, .int x2), (3, .int x3), (4, .int x4), (5, .int x5), (6, .int q.1), (7, .int q.2.1)] [] q.2.2) (hkx : ∀ t, kx t = some res → z_V p l e R s m args below meth c 8 g z_shC (MQ below (z_Qc g z_shC (fun v u' => v = some (.int res.1) ∧ u' = res.2)) args s 0 0 (z_A g z_shC)) 114 [(6, .int t.1)] [] t.2) (h : b_X3_rank_59 x1 x2 x3 x4 x5 q kb kx = some res) : z_V p l e R s m args below meth c 8 g z_shC (MQ below (z_Qc g z_shC (fun v u' => v = some (.int res.1) ∧ u' = res.2)) args s 0 0 (z_A g z_shC)) 59 [(0, .ref (z_ad g 134)), (1, .ref (z_ad g x1)), (2, .int x2), (3, .int x3), (4, .int x4), (5, .int x5), (6, .int q.1), (7, .int q.2.1)] [] q.2.2 := by
  unfold b_X3_rank_59 at h
  refine z_iload X 7 dX3_rank_59 rfl (z_sipush X (v := 512) dX3_rank_61 (by decide) (z_icmp_ge X 114 dX3_rank_64 (by decide) (fun c9 => ?_) (fun c9 => ?_)))
  · replace h := z_ip c9 h
    refine z_sub [6] [(6, .int q.1)] rfl ?_
    exact hkx (q.1, q.2.2) h
  · replace h := z_in c9 h
    refine z_iload X 6 dX3_rank_67 rfl (z_iload X 5 dX3_rank_69 rfl (z_icmp_ge X 114 dX3_rank_71 (by decide) (fun c10 => ?_) (fun c10 => ?_)))
    · replace h := z_ip c10 h
      refine z_sub [6] [(6, .int q.1)] rfl ?_
      exact hkx (q.1, q.2.2) h
    · replace h := z_in c10 h
      obtain ⟨r11, er11, h⟩ := z_bs h
      refine z_aload_n X 1 dX3_rank_74 rfl rfl (z_iload_n X 2 dX3_rank_75 rfl rfl (z_iload_n X 3 dX3_rank_76 rfl rfl (z_iload X 7 dX3_rank_77 rfl (z_callSi X (r := r11) (u1 := q.2.2) [.ref (z_ad g x1), .int x2, .int x3, .int q.2.1] [] (w_X3_isFace l g x1 x2 x3 q.2.1 ex1 q.2.2 er11) gX3_rank_X3_isFace hy_X3_isFace.2 rfl (z_le1 hR (by decide)) (z_le2 hR (by decide) (by decide)) (Nat.le_of_ble_eq_true rfl) dX3_rank_79 (z_if_eq X 108 dX3_rank_82 (by decide) (fun c12 => ?_) (fun c12 => ?_))))))
      · replace h := z_ip c12 h
        refine z_iinc X (v := q.2.1 + 1) 7 [(7, .int (q.2.1 + 1)), (0, .ref (z_ad g 134)), (1, .ref (z_ad g x1)), (2, .int x2), (3, .int x3), (4, .int x4), (5, .int x5), (6, .int q.1)] dX3_rank_108 rfl rfl (by decide) rfl (z_goto X 59 dX3_rank_111 (by decide) (z_sub [1, 2, 3, 4, 5, 6, 7, 0] [(0, .ref (z_ad g 134)), (1, .ref (z_ad g x1)), (2, .int x2), (3, .int x3), (4, .int x4), (5, .int x5), (6, .int q.1), (7, .int (q.2.1 + 1))] rfl ?_))
        exact hkb (q.1, q.2.1 + 1, q.2.2) h
      · replace h := z_in c12 h
        obtain ⟨r13, er13, h⟩ := z_bs h
        obtain ⟨r14, u15, er14, h⟩ := z_b2s h
        refine z_aload_n X 0 dX3_rank_85 rfl rfl (z_aload_n X 1 dX3_rank_86 rfl rfl (z_iload X 7 dX3_rank_87 rfl (z_iload X 4 dX3_rank_89 rfl (z_callVv X (u1 := r13) [.ref (z_ad g x1), .int q.2.1, .int x4] [] (w_X3_write l g x1 q.2.1 x4 ex1 q.2.2 er13) z_c134 rfl gX3_rank_X3_write hy_X3_write rfl (z_le1 hR (by decide)) (z_le2 hR (by decide) (by decide)) (Nat.le_of_ble_eq_true rfl) dX3_rank_91 (z_aload_n X 0 dX3_rank_94 rfl rfl (z_iload X 5 dX3_rank_95 rfl (z_iload X 4 dX3_rank_97 rfl (z_callVi X (r := r14) (u1 := u15) [.int x5, .int x4] [] (w_X3_reduce l g x5 x4 r13 er14) z_c134 rfl gX3_rank_X3_reduce hy_X3_reduce rfl (z_le1 hR (by decide)) (z_le2 hR (by decide) (by decide)) (Nat.le_of_ble_eq_true rfl) dX3_rank_99 (z_if_eq X 108 dX3_rank_102 (by decide) (fun c16 => ?_) (fun c16 => ?_))))))))))
        · replace h := z_ip c16 h
          refine z_iinc X (v := q.2.1 + 1) 7 [(7, .int (q.2.1 + 1)), (0, .ref (z_ad g 134)), (1, .ref (z_ad g x1)), (2, .int x2), (3, .int x3), (4, .int x4), (5, .int x5), (6, .int q.1)] dX3_rank_108 rfl rfl (by decide) rfl (z_goto X 59 dX3_rank_111 (by decide) (z_sub [1, 2, 3, 4, 5, 6, 7, 0] [(0, .ref (z_ad g 134)), (1, .ref (z_ad g x1)), (2, .int x2), (3, .int x3), (4, .int x4), (5, .int x5), (6, .int q.1), (7, .int (q.2.1 + 1))] rfl ?_))
          exact hkb (q.1, q.2.1 + 1, u15) h
        · replace h := z_in c16 h
          refine z_iinc X (v := q.1 + 1) 6 [(6, .int (q.1 + 1)), (0, .ref (z_ad g 134)), (1, .ref (z_ad g x1)), (2, .int x2), (3, .int x3), (4, .int x4), (5, .int x5), (7, .int q.2.1)] dX3_rank_105 rfl rfl (by decide) rfl (z_iinc X (v := q.2.1 + 1) 7 [(7, .int (q.2.1 + 1)), (6, .int (q.1 + 1)), (0, .ref (z_ad g 134)), (1, .ref (z_ad g x1)), (2, .int x2), (3, .int x3), (4, .int x4), (5, .int x5)] dX3_rank_108 rfl rfl (by decide) rfl (z_goto X 59 dX3_rank_111 (by decide) (z_sub [2, 3, 4, 5, 6, 7, 1, 0] [(0, .ref (z_ad g 134)), (1, .ref (z_ad g x1)), (2, .int x2), (3, .int x3), (4, .int x4), (5, .int x5), (6, .int (q.1 + 1)), (7, .int (q.2.1 + 1))] rfl ?_)))
          exact hkb (q.1 + 1, q.2.1 + 1, u15) h
set_option maxRecDepth 20000 in
set_option maxHeartbeats 4000000 in
theorem w_X3_rank (l : Launch) (g : z_G) (a1 : Nat) (a2 : Int32) (a3 : Int32) (a4 : Int32) (ea1 : z_PO a1) (u : z_M) {res : Int32 × z_M} (h : f_X3_rank a1 a2 a3 a4 u = some res) : z_C l g z_shC yX3_rank wsX3_rank 5 [.ref (z_ad g 134), .ref (z_ad g a1), .int a2, .int a3, .int a4] u (fun v u' => v = some (.int res.1) ∧ u' = res.2) := by
  refine z_C.mk (lv := [(0, .ref (z_ad g 134)), (1, .ref (z_ad g a1)), (2, .int a2), (3, .int a3), (4, .int a4)]) (cc := cX3_rank) (nL := 8) (rt := (some .int)) rfl (by decide) (Nat.le_of_ble_eq_true rfl) rfl (fun p e R s m args below meth c hR X => ?_)
  unfold f_X3_rank at h
  refine z_iload_n X 3 dX3_rank_0 rfl rfl (z_iconst X (v := 1) dX3_rank_1 (by decide) (z_icmp_ge X 7 dX3_rank_2 (by decide) (fun c1 => ?_) (fun c1 => ?_)))
  · replace h := z_ip c1 h
    obtain ⟨r2, u3, er2, h⟩ := z_b2s h
    obtain ⟨v4, ev4, h⟩ := z_ls h
    refine z_aload_n X 0 dX3_rank_7 rfl rfl (z_aload_n X 1 dX3_rank_8 rfl rfl (z_iload_n X 2 dX3_rank_9 rfl rfl (z_iload_n X 3 dX3_rank_10 rfl rfl (z_iconst X (v := 1) dX3_rank_11 (by decide) (z_isub X dX3_rank_12 (z_callVi X (r := r2) (u1 := u3) [.ref (z_ad g a1), .int a2, .int (a3 - 1)] [] (w_X3_list l g a1 a2 (a3 - 1) ea1 u er2) z_c134 rfl gX3_rank_X3_list hy_X3_list rfl (z_le1 hR (by decide)) (z_le2 hR (by decide) (by decide)) (Nat.le_of_ble_eq_true rfl) dX3_rank_13 (z_bipush X (v := 35) dX3_rank_16 (by decide) (z_mmin X ml41_X3_rank ms_min_X3_rank mi_X3_rank mc_min_X3_rank (z_le3 hR (by decide)) (z_le4 hR (by decide) (Nat.le_of_ble_eq_true rfl) (by decide)) dX3_rank_18 (z_ti ev4 (z_istore X [(5, .int v4), (0, .ref (z_ad g 134)), (1, .ref (z_ad g a1)), (2, .int a2), (3, .int a3), (4, .int a4)] dX3_rank_21 (by decide) rfl (z_iconst X (v := 0) dX3_rank_23 (by decide) (z_istore X [(6, .int 0), (5, .int v4), (0, .ref (z_ad g 134)), (1, .ref (z_ad g a1)), (2, .int a2), (3, .int a3), (4, .int a4)] dX3_rank_24 (by decide) rfl (z_sub [2, 3, 4, 5, 6, 1, 0] [(0, .ref (z_ad g 134)), (1, .ref (z_ad g a1)), (2, .int a2), (3, .int a3), (4, .int a4), (5, .int v4), (6, .int 0)] rfl ?_)))))))))))))
    have hw := z_lp_w (fun q9 kb9 kx9 h1 h2 h3 => wb_X3_rank_26 (l := l) (e := e) (below := below) (u := u3) hR X a1 a2 a3 a4 v4 ea1 q9 kb9 kx9 h1 h2 h3) z_F _ _ h
    refine hw (fun t8 h => ?_)
    refine z_iconst X (v := 0) dX3_rank_53 (by decide) (z_istore X [(6, .int 0), (0, .ref (z_ad g 134)), (1, .ref (z_ad g a1)), (2, .int a2), (3, .int a3), (4, .int a4), (5, .int v4)] dX3_rank_54 (by decide) rfl (z_iconst X (v := 0) dX3_rank_56 (by decide) (z_istore X [(7, .int 0), (6, .int 0), (0, .ref (z_ad g 134)), (1, .ref (z_ad g a1)), (2, .int a2), (3, .int a3), (4, .int a4), (5, .int v4)] dX3_rank_57 (by decide) rfl (z_sub [2, 3, 4, 5, 6, 7, 1, 0] [(0, .ref (z_ad g 134)), (1, .ref (z_ad g a1)), (2, .int a2), (3, .int a3), (4, .int a4), (5, .int v4), (6, .int 0), (7, .int 0)] rfl ?_))))
    have hw := z_lp_w (fun q9 kb9 kx9 h1 h2 h3 => wb_X3_rank_59 (l := l) (e := e) (below := below) (u := t8) hR X a1 a2 a3 a4 v4 ea1 q9 kb9 kx9 h1 h2 h3) z_F _ _ h
    refine hw (fun t17 h => ?_)
    refine z_iload X 0 dX3_rank_114 rfl ?_
    cases h; exact z_iret X rfl dX3_rank_116 ⟨rfl, rfl⟩
  · replace h := z_in c1 h
    refine z_iconst X (v := 0) dX3_rank_5 (by decide) ?_
    cases h; exact z_iret X rfl dX3_rank_6 ⟨rfl, rfl⟩

theorem ini_X9_isIn_X4_nearest : Cond.initialized yX9_isIn.cls ∈ wsX4_nearest := by decide +kernel
theorem sta_X9_isIn_X4_nearest : Cond.static yX9_isIn ∈ wsX4_nearest := by decide +kernel
theorem lk_X4_nearest_53 : (Cond.fieldLink RX4 53 RX6 (TX6 3).2.1 (TX6 3).2.2.1) ∈ wsX4_nearest := by decide +kernel
theorem in_X4_nearest_X6 : ∀ w ∈ u_ws RX6 TX6 6, w ∈ wsX4_nearest := by decide +kernel
theorem lk_X4_nearest_56 : (Cond.fieldLink RX4 56 RX6 (TX6 4).2.1 (TX6 4).2.2.1) ∈ wsX4_nearest := by decide +kernel
def b_X4_nearest_7 (x0 : Nat) (x1 : Int32) (u : z_M) : (Int32 × Int32 × Int32) → ((Int32 × Int32 × Int32) → Option (Int32)) → (Int32 → Option (Int32)) → Option (Int32) := fun q kb kx =>
  if 9 ≤ q.2.2 then (kx q.1) else (Option.bind (f_X9_isIn x1 q.2.2) (fun r2 => if r2 = 0 then (kb (q.1, q.2.1, q.2.2 + 1)) else (z_gd (z_inb q.2.2 9) (z_gd (z_inb q.2.2 9) (z_lt (z_bitc (((z_gI u (x0 + 1) q.2.2.toNatClampNeg) ||| (z_gI u (x0 + 2) q.2.2.toNatClampNeg)) &&& (x1 ^^^ (-1)))) (fun v6 => if v6 ≤ q.2.1 then (kb (q.1, q.2.1, q.2.2 + 1)) else (kb (q.2.2, v6, q.2.2 + 1))))))))
def f_X4_nearest (a1 : Nat) (a2 : Int32) (u : z_M) : Option (Int32) :=
  z_lp (b_X4_nearest_7 a1 a2 u) z_F ((-1), (-1), 0) (fun t8 => some t8)
set_option maxRecDepth 20000 in
set_option maxHeartbeats 4000000 in
theorem wb_X4_nearest_7 {p : Program} {l : Launch} {e : Env} {R : Room} {s : State} {m : MethodId} {args : Array Value} {below : List Frame} {meth : Method} {c : Code} {g : z_G} {u : z_M} {res : Int32} (hR : R = z_rm 2) (X : z_X p R s m args meth c cX4_nearest 6 RX4 wsX4_nearest (some .int) g z_shC) (x0 : Nat) (x1 : Int32) (ex0 : z_PO x0) (q : Int32 × Int32 × Int32) (kb : (Int32 × Int32 × Int32) → Option (Int32)) (kx : Int32 → Option (Int32)) (hkb : ∀ q, kb q = some res → z_V p l e R s m args below meth c 6 g z_shC (MQ below (z_Qc g z_shC (fun v u' => v = some (.int res) ∧ u' = u)) args s 0 0 (z_A g z_shC)) 7 [(0, .ref (z_ad g x0)), (1, .int x1), (2, .int q.1), (3, .int q.2.1), (4, .int q.2.2)] [] u) (hkx : ∀ t, kx t = some res → z_V p l e R s m args below meth c 6 g z_shC (MQ below (z_Qc g z_shC (fun v u' => v = some (.int res) ∧ u' = u)) args s 0 0 (z_A g z_shC)) 65 [(2, .int t)] [] u) (h : b_X4_nearest_7 x0 x1 u q kb kx = some res) : z_V p l e R s m args below meth c 6 g z_shC (MQ below (z_Qc g z_shC (fun v u' => v = some (.int res) ∧ u' = u)) args s 0 0 (z_A g z_shC)) 7 [(0, .ref (z_ad g x0)), (1, .int x1), (2, .int q.1), (3, .int q.2.1), (4, .int q.2.2)] [] u := by
  unfold b_X4_nearest_7 at h
  refine z_iload X 4 dX4_nearest_7 rfl (z_bipush X (v := 9) dX4_nearest_9 (by decide) (z_icmp_ge X 65 dX4_nearest_11 (by decide) (fun c1 => ?_) (fun c1 => ?_)))
  · replace h := z_ip c1 h
    refine z_sub [2] [(2, .int q.1)] rfl ?_
    exact hkx q.1 h
  · replace h := z_in c1 h
    obtain ⟨r2, er2, h⟩ := z_bs h
    refine z_iload_n X 1 dX4_nearest_14 rfl rfl (z_iload X 4 dX4_nearest_15 rfl (z_callNi X (r := r2) (u1 := u) [.int x1, .int q.2.2] [] (w_X9_isIn l g x1 q.2.2 u er2) gX4_nearest_X9_isIn_n49 nn_X4 ini_X9_isIn_X4_nearest sta_X9_isIn_X4_nearest hy_X9_isIn.2 rfl (z_le1 hR (by decide)) (z_le2 hR (by decide) (by decide)) (Nat.le_of_ble_eq_true rfl) dX4_nearest_17 (z_if_eq X 59 dX4_nearest_20 (by decide) (fun c3 => ?_) (fun c3 => ?_))))
    · replace h := z_ip c3 h
      refine z_iinc X (v := q.2.2 + 1) 4 [(4, .int (q.2.2 + 1)), (0, .ref (z_ad g x0)), (1, .int x1), (2, .int q.1), (3, .int q.2.1)] dX4_nearest_59 rfl rfl (by decide) rfl (z_goto X 7 dX4_nearest_62 (by decide) (z_sub [1, 2, 3, 4, 0] [(0, .ref (z_ad g x0)), (1, .int x1), (2, .int q.1), (3, .int q.2.1), (4, .int (q.2.2 + 1))] rfl ?_))
      exact hkb (q.1, q.2.1, q.2.2 + 1) h
    · replace h := z_in c3 h
      obtain ⟨b4, h⟩ := z_gs h
      obtain ⟨b5, h⟩ := z_gs h
      obtain ⟨v6, ev6, h⟩ := z_ls h
      refine z_aload_n X 0 dX4_nearest_23 rfl rfl (z_getR X (k0 := 3) (z_po ex0) rfl in_X4_nearest_X6 (by decide) rfl rfl lk_X4_nearest_53 dX4_nearest_24 (z_iload X 4 dX4_nearest_27 rfl (z_iald X (z_poA ex0) (z_inS b4) dX4_nearest_29 (z_aload_n X 0 dX4_nearest_30 rfl rfl (z_getR X (k0 := 4) (z_po ex0) rfl in_X4_nearest_X6 (by decide) rfl rfl lk_X4_nearest_56 dX4_nearest_31 (z_iload X 4 dX4_nearest_34 rfl (z_iald X (z_poU ex0) (z_inS b5) dX4_nearest_36 (z_ior X dX4_nearest_37 (z_iload_n X 1 dX4_nearest_38 rfl rfl (z_iconst X (v := (-1)) dX4_nearest_39 (by decide) (z_ixor X dX4_nearest_40 (z_iand X dX4_nearest_41 (z_callSi X (r := z_bitc (((z_gI u (x0 + 1) q.2.2.toNatClampNeg) ||| (z_gI u (x0 + 2) q.2.2.toNatClampNeg)) &&& (x1 ^^^ (-1)))) (u1 := u) [.int (((z_gI u (x0 + 1) q.2.2.toNatClampNeg) ||| (z_gI u (x0 + 2) q.2.2.toNatClampNeg)) &&& (x1 ^^^ (-1)))] [] (w_bitc l g z_shC (((z_gI u (x0 + 1) q.2.2.toNatClampNeg) ||| (z_gI u (x0 + 2) q.2.2.toNatClampNeg)) &&& (x1 ^^^ (-1))) u) gX4_nearest_J6_bitCount_0f7a4 hy_J6_bitCount_0f7a4.2 rfl (z_le1 hR (by decide)) (z_le2 hR (by decide) (by decide)) (Nat.le_of_ble_eq_true rfl) dX4_nearest_42 (z_ti ev6 (z_istore X [(5, .int v6), (0, .ref (z_ad g x0)), (1, .int x1), (2, .int q.1), (3, .int q.2.1), (4, .int q.2.2)] dX4_nearest_45 (by decide) rfl (z_iload X 0 dX4_nearest_47 rfl (z_iload_n X 4 dX4_nearest_49 rfl rfl (z_icmp_le X 59 dX4_nearest_50 (by decide) (fun c7 => ?_) (fun c7 => ?_)))))))))))))))))))
      · replace h := z_ip c7 h
        refine z_iinc X (v := q.2.2 + 1) 5 [(4, .int (q.2.2 + 1)), (5, .int v6), (0, .ref (z_ad g x0)), (1, .int x1), (2, .int q.1), (3, .int q.2.1)] dX4_nearest_59 rfl rfl (by decide) rfl (z_goto X 7 dX4_nearest_62 (by decide) (z_sub [2, 3, 4, 5, 0] [(0, .ref (z_ad g x0)), (1, .int x1), (2, .int q.1), (3, .int q.2.1), (4, .int (q.2.2 + 1))] rfl ?_))
        exact hkb (q.1, q.2.1, q.2.2 + 1) h
      · replace h := z_in c7 h
        refine z_iload X 0 dX4_nearest_53 rfl (z_istore_n X [(3, .int v6), (5, .int v6), (0, .ref (z_ad g x0)), (1, .int x1), (2, .int q.1), (4, .int q.2.2)] dX4_nearest_55 rfl (by decide) rfl (z_iload X 5 dX4_nearest_56 rfl (z_istore_n X [(2, .int q.2.2), (3, .int v6), (5, .int v6), (0, .ref (z_ad g x0)), (1, .int x1), (4, .int q.2.2)] dX4_nearest_58 rfl (by decide) rfl (z_iinc X (v := q.2.2 + 1) 5 [(4, .int (q.2.2 + 1)), (2, .int q.2.2), (3, .int v6), (5, .int v6), (0, .ref (z_ad g x0)), (1, .int x1)] dX4_nearest_59 rfl rfl (by decide) rfl (z_goto X 7 dX4_nearest_62 (by decide) (z_sub [4, 5, 1, 2, 0] [(0, .ref (z_ad g x0)), (1, .int x1), (2, .int q.2.2), (3, .int v6), (4, .int (q.2.2 + 1))] rfl ?_))))))
        exact hkb (q.2.2, v6, q.2.2 + 1) h
set_option maxRecDepth 20000 in
set_option maxHeartbeats 4000000 in
theorem w_X4_nearest (l : Launch) (g : z_G) (a1 : Nat) (a2 : Int32) (ea1 : z_PO a1) (u : z_M) {res : Int32} (h : f_X4_nearest a1 a2 u = some res) : z_C l g z_shC yX4_nearest wsX4_nearest 2 [.ref (z_ad g a1), .int a2] u (fun v u' => v = some (.int res) ∧ u' = u) := by
  refine z_C.mk (lv := [(0, .ref (z_ad g a1)), (1, .int a2)]) (cc := cX4_nearest) (nL := 6) (rt := (some .int)) rfl (by decide) (Nat.le_of_ble_eq_true rfl) rfl (fun p e R s m args below meth c hR X => ?_)
  unfold f_X4_nearest at h
  refine z_iconst X (v := (-1)) dX4_nearest_0 (by decide) (z_istore_n X [(2, .int (-1)), (0, .ref (z_ad g a1)), (1, .int a2)] dX4_nearest_1 rfl (by decide) rfl (z_iconst X (v := (-1)) dX4_nearest_2 (by decide) (z_istore_n X [(3, .int (-1)), (2, .int (-1)), (0, .ref (z_ad g a1)), (1, .int a2)] dX4_nearest_3 rfl (by decide) rfl (z_iconst X (v := 0) dX4_nearest_4 (by decide) (z_istore X [(4, .int 0), (3, .int (-1)), (2, .int (-1)), (0, .ref (z_ad g a1)), (1, .int a2)] dX4_nearest_5 (by decide) rfl (z_sub [3, 4, 2, 1, 0] [(0, .ref (z_ad g a1)), (1, .int a2), (2, .int (-1)), (3, .int (-1)), (4, .int 0)] rfl ?_))))))
  have hw := z_lp_w (fun q9 kb9 kx9 h1 h2 h3 => wb_X4_nearest_7 (l := l) (e := e) (below := below) (u := u) hR X a1 a2 ea1 q9 kb9 kx9 h1 h2 h3) z_F _ _ h
  refine hw (fun t8 h => ?_)
  refine z_iload_n X 0 dX4_nearest_65 rfl rfl ?_
  cases h; exact z_iret X rfl dX4_nearest_66 ⟨rfl, rfl⟩

theorem lk_X4_lineUp_26 : (Cond.fieldLink RX4 26 RX6 (TX6 1).2.1 (TX6 1).2.2.1) ∈ wsX4_lineUp := by decide +kernel
theorem in_X4_lineUp_X6 : ∀ w ∈ u_ws RX6 TX6 6, w ∈ wsX4_lineUp := by decide +kernel
theorem lk_X4_lineUp_22 : (Cond.fieldLink RX4 22 RX4 (TX4 2).2.1 (TX4 2).2.2.1) ∈ wsX4_lineUp := by decide +kernel
theorem in_X4_lineUp_X4 : ∀ w ∈ u_ws RX4 TX4 3, w ∈ wsX4_lineUp := by decide +kernel
theorem lk_X4_lineUp_15 : (Cond.fieldLink RX4 15 RX4 (TX4 1).2.1 (TX4 1).2.2.1) ∈ wsX4_lineUp := by decide +kernel
theorem hy_X4_nearest : yX4_nearest.cls = RX4 ∧ yX4_nearest.cls ≠ "java/lang/invoke/MethodHandle" ∧ yX4_nearest.cls ≠ "java/lang/invoke/VarHandle" ∧ (parseMethodDescriptor yX4_nearest.desc).map (fun d => d.parameters.length) = some 2 := by decide +kernel
def b_X4_lineUp_12 (x1 : Nat) : (Int32 × Int32 × z_M) → ((Int32 × Int32 × z_M) → Option (z_M)) → (z_M → Option (z_M)) → Option (z_M) := fun q kb kx =>
  if 9 ≤ q.2.1 then (kx q.2.2) else (Option.bind (f_X4_nearest x1 q.1 q.2.2) (fun r4 => if r4 = (-1) then (kb (q.1, q.2.1 + 1, q.2.2)) else (z_gd (z_inb (z_gI q.2.2 138 2) 9) (z_lt (z_sI q.2.2 140 (z_gI q.2.2 138 2).toNatClampNeg r4) (fun u7 => z_lt (z_sI u7 138 2 ((z_gI u7 138 2) + 1)) (fun u8 => z_lt (q.1 &&& ((1 <<< (r4 &&& 31)) ^^^ (-1))) (fun v9 => kb (v9, q.2.1 + 1, u8))))))))
def f_X4_lineUp (a1 : Nat) (u : z_M) : Option (z_M) :=
  z_lt (z_gI u a1 1) (fun v1 => z_lt (z_sI u 138 2 0) (fun u2 => z_lp (b_X4_lineUp_12 a1) z_F (v1, 0, u2) (fun t10 => some t10)))
set_option maxRecDepth 20000 in
set_option maxHeartbeats 4000000 in
theorem wb_X4_lineUp_12 {p : Program} {l : Launch} {e : Env} {R : Room} {s : State} {m : MethodId} {args : Array Value} {below : List Frame} {meth : Method} {c : Code} {g : z_G} {u : z_M} {res : z_M} (hR : R = z_rm 3) (X : z_X p R s m args meth c cX4_lineUp 5 RX4 wsX4_lineUp none g z_shC) (x1 : Nat) (ex1 : z_PO x1) (q : Int32 × Int32 × z_M) (kb : (Int32 × Int32 × z_M) → Option (z_M)) (kx : z_M → Option (z_M)) (hkb : ∀ q, kb q = some res → z_V p l e R s m args below meth c 5 g z_shC (MQ below (z_Qc g z_shC (fun v u' => v = none ∧ u' = res)) args s 0 0 (z_A g z_shC)) 12 [(0, .ref (z_ad g 138)), (1, .ref (z_ad g x1)), (2, .int q.1), (3, .int q.2.1)] [] q.2.2) (hkx : ∀ t, kx t = some res → z_V p l e R s m args below meth c 5 g z_shC (MQ below (z_Qc g z_shC (fun v u' => v = none ∧ u' = res)) args s 0 0 (z_A g z_shC)) 67 [] [] t) (h : b_X4_lineUp_12 x1 q kb kx = some res) : z_V p l e R s m args below meth c 5 g z_shC (MQ below (z_Qc g z_shC (fun v u' => v = none ∧ u' = res)) args s 0 0 (z_A g z_shC)) 12 [(0, .ref (z_ad g 138)), (1, .ref (z_ad g x1)), (2, .int q.1), (3, .int q.2.1)] [] q.2.2 := by
  unfold b_X4_lineUp_12 at h
  refine z_iload_n X 3 dX4_lineUp_12 rfl rfl (z_bipush X (v := 9) dX4_lineUp_13 (by decide) (z_icmp_ge X 67 dX4_lineUp_15 (by decide) (fun c3 => ?_) (fun c3 => ?_)))
  · replace h := z_ip c3 h
    refine z_sub [] [] rfl ?_
    exact hkx q.2.2 h
  · replace h := z_in c3 h
    obtain ⟨r4, er4, h⟩ := z_bs h
    refine z_aload_n X 1 dX4_lineUp_18 rfl rfl (z_iload_n X 2 dX4_lineUp_19 rfl rfl (z_callSi X (r := r4) (u1 := q.2.2) [.ref (z_ad g x1), .int q.1] [] (w_X4_nearest l g x1 q.1 ex1 q.2.2 er4) gX4_lineUp_X4_nearest hy_X4_nearest.2 rfl (z_le1 hR (by decide)) (z_le2 hR (by decide) (by decide)) (Nat.le_of_ble_eq_true rfl) dX4_lineUp_20 (z_istore X [(4, .int r4), (0, .ref (z_ad g 138)), (1, .ref (z_ad g x1)), (2, .int q.1), (3, .int q.2.1)] dX4_lineUp_23 (by decide) rfl (z_iload X 0 dX4_lineUp_25 rfl (z_iconst X (v := (-1)) dX4_lineUp_27 (by decide) (z_icmp_eq X 61 dX4_lineUp_28 (by decide) (fun c5 => ?_) (fun c5 => ?_)))))))
    · replace h := z_ip c5 h
      refine z_iinc X (v := q.2.1 + 1) 4 [(3, .int (q.2.1 + 1)), (4, .int r4), (0, .ref (z_ad g 138)), (1, .ref (z_ad g x1)), (2, .int q.1)] dX4_lineUp_61 rfl rfl (by decide) rfl (z_goto X 12 dX4_lineUp_64 (by decide) (z_sub [2, 3, 4, 0] [(0, .ref (z_ad g 138)), (1, .ref (z_ad g x1)), (2, .int q.1), (3, .int (q.2.1 + 1))] rfl ?_))
      exact hkb (q.1, q.2.1 + 1, q.2.2) h
    · replace h := z_in c5 h
      obtain ⟨b6, h⟩ := z_gs h
      obtain ⟨u7, eu7, h⟩ := z_ls h
      obtain ⟨u8, eu8, h⟩ := z_ls h
      obtain ⟨v9, ev9, h⟩ := z_ls h
      refine z_aload_n X 1 dX4_lineUp_31 rfl rfl (z_getR X (k0 := 1) z_c138 rfl in_X4_lineUp_X4 (by decide) rfl rfl lk_X4_lineUp_15 dX4_lineUp_32 (z_aload_n X 1 dX4_lineUp_35 rfl rfl (z_getI X (k0 := 2) z_c138 rfl in_X4_lineUp_X4 (by decide) rfl rfl lk_X4_lineUp_22 dX4_lineUp_36 (z_iload X 0 dX4_lineUp_39 rfl (z_iast X z_c140 (z_inS b6) dX4_lineUp_41 (z_nm eu7 (z_aload_n X 1 dX4_lineUp_42 rfl rfl (z_dup X dX4_lineUp_43 rfl (z_getI X (k0 := 2) z_c138 rfl in_X4_lineUp_X4 (by decide) rfl rfl lk_X4_lineUp_22 dX4_lineUp_44 (z_iconst X (v := 1) dX4_lineUp_47 (by decide) (z_iadd X dX4_lineUp_48 (z_putI X (k0 := 2) (ty0 := tyX4) z_c138 rfl in_X4_lineUp_X4 tyX4_ok nmX4 (by decide) rfl rfl rfl rfl rfl lk_X4_lineUp_22 dX4_lineUp_49 (z_nm eu8 (z_iload_n X 3 dX4_lineUp_52 rfl rfl (z_iconst X (v := 1) dX4_lineUp_53 (by decide) (z_iload X 0 dX4_lineUp_54 rfl (z_ishl X dX4_lineUp_56 (z_iconst X (v := (-1)) dX4_lineUp_57 (by decide) (z_ixor X dX4_lineUp_58 (z_iand X dX4_lineUp_59 (z_ti ev9 (z_istore_n X [(2, .int v9), (4, .int r4), (0, .ref (z_ad g 138)), (1, .ref (z_ad g x1)), (3, .int q.2.1)] dX4_lineUp_60 rfl (by decide) rfl (z_iinc X (v := q.2.1 + 1) 4 [(3, .int (q.2.1 + 1)), (2, .int v9), (4, .int r4), (0, .ref (z_ad g 138)), (1, .ref (z_ad g x1))] dX4_lineUp_61 rfl rfl (by decide) rfl (z_goto X 12 dX4_lineUp_64 (by decide) (z_sub [3, 4, 1, 0] [(0, .ref (z_ad g 138)), (1, .ref (z_ad g x1)), (2, .int v9), (3, .int (q.2.1 + 1))] rfl ?_)))))))))))))))))))))))))
      exact hkb (v9, q.2.1 + 1, u8) h
set_option maxRecDepth 20000 in
set_option maxHeartbeats 4000000 in
theorem w_X4_lineUp (l : Launch) (g : z_G) (a1 : Nat) (ea1 : z_PO a1) (u : z_M) {res : z_M} (h : f_X4_lineUp a1 u = some res) : z_C l g z_shC yX4_lineUp wsX4_lineUp 3 [.ref (z_ad g 138), .ref (z_ad g a1)] u (fun v u' => v = none ∧ u' = res) := by
  refine z_C.mk (lv := [(0, .ref (z_ad g 138)), (1, .ref (z_ad g a1))]) (cc := cX4_lineUp) (nL := 5) (rt := none) rfl (by decide) (Nat.le_of_ble_eq_true rfl) rfl (fun p e R s m args below meth c hR X => ?_)
  unfold f_X4_lineUp at h
  obtain ⟨v1, ev1, h⟩ := z_ls h
  obtain ⟨u2, eu2, h⟩ := z_ls h
  refine z_aload_n X 1 dX4_lineUp_0 rfl rfl (z_getI X (k0 := 1) (z_po ea1) rfl in_X4_lineUp_X6 (by decide) rfl rfl lk_X4_lineUp_26 dX4_lineUp_1 (z_ti ev1 (z_istore_n X [(2, .int v1), (0, .ref (z_ad g 138)), (1, .ref (z_ad g a1))] dX4_lineUp_4 rfl (by decide) rfl (z_aload_n X 1 dX4_lineUp_5 rfl rfl (z_iconst X (v := 0) dX4_lineUp_6 (by decide) (z_putI X (k0 := 2) (ty0 := tyX4) z_c138 rfl in_X4_lineUp_X4 tyX4_ok nmX4 (by decide) rfl rfl rfl rfl rfl lk_X4_lineUp_22 dX4_lineUp_7 (z_nm eu2 (z_iconst X (v := 0) dX4_lineUp_10 (by decide) (z_istore_n X [(3, .int 0), (2, .int v1), (0, .ref (z_ad g 138)), (1, .ref (z_ad g a1))] dX4_lineUp_11 rfl (by decide) rfl (z_sub [2, 3, 1, 0] [(0, .ref (z_ad g 138)), (1, .ref (z_ad g a1)), (2, .int v1), (3, .int 0)] rfl ?_))))))))))
  have hw := z_lp_w (fun q9 kb9 kx9 h1 h2 h3 => wb_X4_lineUp_12 (l := l) (e := e) (below := below) (u := u2) hR X a1 ea1 q9 kb9 kx9 h1 h2 h3) z_F _ _ h
  refine hw (fun t10 h => ?_)
  cases h; exact z_vret X rfl dX4_lineUp_67 ⟨rfl, rfl⟩

theorem lk_X6_isUnder_9 : (Cond.fieldLink RX6 9 RX6 (TX6 3).2.1 (TX6 3).2.2.1) ∈ wsX6_isUnder := by decide +kernel
theorem in_X6_isUnder_X6 : ∀ w ∈ u_ws RX6 TX6 6, w ∈ wsX6_isUnder := by decide +kernel
theorem ini_X9_isIn_X6_isUnder : Cond.initialized yX9_isIn.cls ∈ wsX6_isUnder := by decide +kernel
theorem sta_X9_isIn_X6_isUnder : Cond.static yX9_isIn ∈ wsX6_isUnder := by decide +kernel
def f_X6_isUnder (ao : Nat) (a1 : Int32) (a2 : Int32) (u : z_M) : Option (Int32) :=
  Option.bind (f_X6_has ao a1 u) (fun r1 => if r1 = 0 then (some 0) else (z_gd (z_inb a1 9) (Option.bind (f_X9_isIn (z_gI u (ao + 1) a1.toNatClampNeg) a2) (fun r4 => if r4 = 0 then (some 0) else (some 1)))))
set_option maxRecDepth 20000 in
set_option maxHeartbeats 4000000 in
theorem w_X6_isUnder (l : Launch) (g : z_G) (ao : Nat) (a1 : Int32) (a2 : Int32) (eao : z_PO ao) (u : z_M) {res : Int32} (h : f_X6_isUnder ao a1 a2 u = some res) : z_C l g z_shC yX6_isUnder wsX6_isUnder 3 [.ref (z_ad g ao), .int a1, .int a2] u (fun v u' => v = some (.int res) ∧ u' = u) := by
  refine z_C.mk (lv := [(0, .ref (z_ad g ao)), (1, .int a1), (2, .int a2)]) (cc := cX6_isUnder) (nL := 3) (rt := (some .boolean)) rfl (by decide) (Nat.le_of_ble_eq_true rfl) rfl (fun p e R s m args below meth c hR X => ?_)
  unfold f_X6_isUnder at h
  obtain ⟨r1, er1, h⟩ := z_bs h
  refine z_aload_n X 0 dX6_isUnder_0 rfl rfl (z_iload_n X 1 dX6_isUnder_1 rfl rfl (z_callVi X (r := r1) (u1 := u) [.int a1] [] (w_X6_has l g ao a1 eao u er1) (z_po eao) rfl gX6_isUnder_X6_has hy_X6_has rfl (z_le1 hR (by decide)) (z_le2 hR (by decide) (by decide)) (Nat.le_of_ble_eq_true rfl) dX6_isUnder_2 (z_if_eq X 25 dX6_isUnder_5 (by decide) (fun c2 => ?_) (fun c2 => ?_))))
  · replace h := z_ip c2 h
    refine z_iconst X (v := 0) dX6_isUnder_25 (by decide) ?_
    cases h; exact z_zret X rfl rfl dX6_isUnder_26 ⟨rfl, rfl⟩
  · replace h := z_in c2 h
    obtain ⟨b3, h⟩ := z_gs h
    obtain ⟨r4, er4, h⟩ := z_bs h
    refine z_aload_n X 0 dX6_isUnder_8 rfl rfl (z_getR X (k0 := 3) (z_po eao) rfl in_X6_isUnder_X6 (by decide) rfl rfl lk_X6_isUnder_9 dX6_isUnder_9 (z_iload_n X 1 dX6_isUnder_12 rfl rfl (z_iald X (z_poA eao) (z_inS b3) dX6_isUnder_13 (z_iload_n X 2 dX6_isUnder_14 rfl rfl (z_callNi X (r := r4) (u1 := u) [.int (z_gI u (ao + 1) a1.toNatClampNeg), .int a2] [] (w_X9_isIn l g (z_gI u (ao + 1) a1.toNatClampNeg) a2 u er4) gX6_isUnder_X9_isIn_n43 nn_X6 ini_X9_isIn_X6_isUnder sta_X9_isIn_X6_isUnder hy_X9_isIn.2 rfl (z_le1 hR (by decide)) (z_le2 hR (by decide) (by decide)) (Nat.le_of_ble_eq_true rfl) dX6_isUnder_15 (z_if_eq X 25 dX6_isUnder_18 (by decide) (fun c5 => ?_) (fun c5 => ?_)))))))
    · replace h := z_ip c5 h
      refine z_iconst X (v := 0) dX6_isUnder_25 (by decide) ?_
      cases h; exact z_zret X rfl rfl dX6_isUnder_26 ⟨rfl, rfl⟩
    · replace h := z_in c5 h
      refine z_iconst X (v := 1) dX6_isUnder_21 (by decide) (z_goto X 26 dX6_isUnder_22 (by decide) ?_)
      cases h; exact z_zret X rfl rfl dX6_isUnder_26 ⟨rfl, rfl⟩

theorem lk_X4_fits_15 : (Cond.fieldLink RX4 15 RX4 (TX4 1).2.1 (TX4 1).2.2.1) ∈ wsX4_fits := by decide +kernel
theorem in_X4_fits_X4 : ∀ w ∈ u_ws RX4 TX4 3, w ∈ wsX4_fits := fun _ h => List.mem_cons_of_mem _ (List.mem_append_left _ (List.mem_append_right _ h))
theorem ini_X9_isIn_X4_fits : Cond.initialized yX9_isIn.cls ∈ wsX4_fits := by decide +kernel
theorem sta_X9_isIn_X4_fits : Cond.static yX9_isIn ∈ wsX4_fits := by decide +kernel
theorem lk_X4_fits_53 : (Cond.fieldLink RX4 53 RX6 (TX6 3).2.1 (TX6 3).2.2.1) ∈ wsX4_fits := by decide +kernel
theorem in_X4_fits_X6 : ∀ w ∈ u_ws RX6 TX6 6, w ∈ wsX4_fits := fun _ h => List.mem_cons_of_mem _ (List.mem_append_right _ h)
theorem lk_X4_fits_56 : (Cond.fieldLink RX4 56 RX6 (TX6 4).2.1 (TX6 4).2.2.1) ∈ wsX4_fits := by decide +kernel
theorem lk_X4_fits_9 : (Cond.fieldLink RX4 9 RX4 (TX4 0).2.1 (TX4 0).2.2.1) ∈ wsX4_fits := by decide +kernel
theorem hy_X6_isUnder : yX6_isUnder.cls = RX6 ∧ yX6_isUnder.cls ≠ "java/lang/invoke/MethodHandle" ∧ yX6_isUnder.cls ≠ "java/lang/invoke/VarHandle" ∧ (parseMethodDescriptor yX6_isUnder.desc).map (fun d => d.parameters.length) = some 2 := by decide +kernel
def b_X4_fits_78 (x1 : Nat) (x2 : Int32) (x3 : Nat) (x4 : Int32) (x6 : Int32) (u : z_M) : Int32 → (Int32 → Option (Int32)) → (Unit → Option (Int32)) → Option (Int32) := fun q kb kx =>
  if x2 ≤ q then (kx ()) else (z_gd (z_inb q 9) (z_lt (z_gI u 140 q.toNatClampNeg) (fun v15 => Option.bind (f_X6_isUnder x1 v15 x6 u) (fun r16 => z_gd (z_inb q 9) (Option.bind (f_X6_isUnder x3 (z_gI u 139 q.toNatClampNeg) x4 u) (fun r18 => if r16 = r18 then (Option.bind (f_X6_isUnder x1 x6 v15 u) (fun r20 => z_gd (z_inb q 9) (Option.bind (f_X6_isUnder x3 x4 (z_gI u 139 q.toNatClampNeg) u) (fun r22 => if r20 = r22 then (kb (q + 1)) else (some 0))))) else (some 0)))))))
def f_X4_fits (a1 : Nat) (a2 : Int32) (a3 : Nat) (a4 : Int32) (a5 : Int32) (u : z_M) : Option (Int32) :=
  z_gd (z_inb a2 9) (z_lt (z_gI u 140 a2.toNatClampNeg) (fun v2 => Option.bind (f_X6_has a3 a4 u) (fun r3 => if r3 = 0 then (some 0) else (Option.bind (f_X9_isIn a5 a4) (fun r5 => if r5 = 0 then (z_gd (z_inb v2 9) (z_gd (z_inb a4 9) (if (z_bitc (z_gI u (a1 + 1) v2.toNatClampNeg)) = (z_bitc (z_gI u (a3 + 1) a4.toNatClampNeg)) then (z_gd (z_inb v2 9) (z_gd (z_inb a4 9) (if (z_bitc (z_gI u (a1 + 2) v2.toNatClampNeg)) = (z_bitc (z_gI u (a3 + 2) a4.toNatClampNeg)) then (z_lp (b_X4_fits_78 a1 a2 a3 a4 v2 u) z_F 0 (fun t24 => some 1)) else (some 0)))) else (some 0)))) else (some 0))))))
set_option maxRecDepth 20000 in
set_option maxHeartbeats 4000000 in
theorem wb_X4_fits_78 {p : Program} {l : Launch} {e : Env} {R : Room} {s : State} {m : MethodId} {args : Array Value} {below : List Frame} {meth : Method} {c : Code} {g : z_G} {u : z_M} {res : Int32} (hR : R = z_rm 4) (X : z_X p R s m args meth c cX4_fits 9 RX4 wsX4_fits (some .boolean) g z_shC) (x1 : Nat) (x2 : Int32) (x3 : Nat) (x4 : Int32) (x6 : Int32) (ex1 : z_PO x1) (ex3 : z_PO x3) (q : Int32) (kb : Int32 → Option (Int32)) (kx : Unit → Option (Int32)) (hkb : ∀ q, kb q = some res → z_V p l e R s m args below meth c 9 g z_shC (MQ below (z_Qc g z_shC (fun v u' => v = some (.int res) ∧ u' = u)) args s 0 0 (z_A g z_shC)) 78 [(0, .ref (z_ad g 138)), (1, .ref (z_ad g x1)), (2, .int x2), (3, .ref (z_ad g x3)), (4, .int x4), (6, .int x6), (7, .int q)] [] u) (hkx : ∀ t, kx t = some res → z_V p l e R s m args below meth c 9 g z_shC (MQ below (z_Qc g z_shC (fun v u' => v = some (.int res) ∧ u' = u)) args s 0 0 (z_A g z_shC)) 149 [] [] u) (h : b_X4_fits_78 x1 x2 x3 x4 x6 u q kb kx = some res) : z_V p l e R s m args below meth c 9 g z_shC (MQ below (z_Qc g z_shC (fun v u' => v = some (.int res) ∧ u' = u)) args s 0 0 (z_A g z_shC)) 78 [(0, .ref (z_ad g 138)), (1, .ref (z_ad g x1)), (2, .int x2), (3, .ref (z_ad g x3)), (4, .int x4), (6, .int x6), (7, .int q)] [] u := by
  unfold b_X4_fits_78 at h
  refine z_iload X 6 dX4_fits_78 rfl (z_iload_n X 2 dX4_fits_80 rfl rfl (z_icmp_ge X 149 dX4_fits_81 (by decide) (fun c13 => ?_) (fun c13 => ?_)))
  · replace h := z_ip c13 h
    refine z_sub [] [] rfl ?_
    exact hkx () h
  · replace h := z_in c13 h
    obtain ⟨b14, h⟩ := z_gs h
    obtain ⟨v15, ev15, h⟩ := z_ls h
    obtain ⟨r16, er16, h⟩ := z_bs h
    obtain ⟨b17, h⟩ := z_gs h
    obtain ⟨r18, er18, h⟩ := z_bs h
    refine z_aload_n X 0 dX4_fits_84 rfl rfl (z_getR X (k0 := 1) z_c138 rfl in_X4_fits_X4 (by decide) rfl rfl lk_X4_fits_15 dX4_fits_85 (z_iload X 6 dX4_fits_88 rfl (z_iald X z_c140 (z_inS b14) dX4_fits_90 (z_ti ev15 (z_istore X [(8, .int v15), (0, .ref (z_ad g 138)), (1, .ref (z_ad g x1)), (2, .int x2), (3, .ref (z_ad g x3)), (4, .int x4), (6, .int x6), (7, .int q)] dX4_fits_91 (by decide) rfl (z_aload_n X 2 dX4_fits_93 rfl rfl (z_iload X 0 dX4_fits_94 rfl (z_iload X 6 dX4_fits_96 rfl (z_callVi X (r := r16) (u1 := u) [.int v15, .int x6] [] (w_X6_isUnder l g x1 v15 x6 ex1 u er16) (z_po ex1) rfl gX4_fits_X6_isUnder hy_X6_isUnder rfl (z_le1 hR (by decide)) (z_le2 hR (by decide) (by decide)) (Nat.le_of_ble_eq_true rfl) dX4_fits_98 (z_aload_n X 4 dX4_fits_101 rfl rfl (z_aload_n X 1 dX4_fits_102 rfl rfl (z_getR X (k0 := 0) z_c138 rfl in_X4_fits_X4 (by decide) rfl rfl lk_X4_fits_9 dX4_fits_103 (z_iload X 7 dX4_fits_106 rfl (z_iald X z_c139 (z_inS b17) dX4_fits_108 (z_iload X 5 dX4_fits_109 rfl (z_callVi X (r := r18) (u1 := u) [.int (z_gI u 139 q.toNatClampNeg), .int x4] [.int r16] (w_X6_isUnder l g x3 (z_gI u 139 q.toNatClampNeg) x4 ex3 u er18) (z_po ex3) rfl gX4_fits_X6_isUnder hy_X6_isUnder rfl (z_le1 hR (by decide)) (z_le2 hR (by decide) (by decide)) (Nat.le_of_ble_eq_true rfl) dX4_fits_111 (z_icmp_ne X 141 dX4_fits_114 (by decide) (fun c19 => ?_) (fun c19 => ?_))))))))))))))))))
    · replace h := z_in c19 h
      refine z_iconst X (v := 0) dX4_fits_141 (by decide) ?_
      cases h; exact z_zret X rfl rfl dX4_fits_142 ⟨rfl, rfl⟩
    · replace h := z_ip c19 h
      obtain ⟨r20, er20, h⟩ := z_bs h
      obtain ⟨b21, h⟩ := z_gs h
      obtain ⟨r22, er22, h⟩ := z_bs h
      refine z_aload_n X 2 dX4_fits_117 rfl rfl (z_iload X 6 dX4_fits_118 rfl (z_iload X 0 dX4_fits_120 rfl (z_callVi X (r := r20) (u1 := u) [.int x6, .int v15] [] (w_X6_isUnder l g x1 x6 v15 ex1 u er20) (z_po ex1) rfl gX4_fits_X6_isUnder hy_X6_isUnder rfl (z_le1 hR (by decide)) (z_le2 hR (by decide) (by decide)) (Nat.le_of_ble_eq_true rfl) dX4_fits_122 (z_aload_n X 4 dX4_fits_125 rfl rfl (z_iload X 5 dX4_fits_126 rfl (z_aload_n X 1 dX4_fits_128 rfl rfl (z_getR X (k0 := 0) z_c138 rfl in_X4_fits_X4 (by decide) rfl rfl lk_X4_fits_9 dX4_fits_129 (z_iload X 7 dX4_fits_132 rfl (z_iald X z_c139 (z_inS b21) dX4_fits_134 (z_callVi X (r := r22) (u1 := u) [.int x4, .int (z_gI u 139 q.toNatClampNeg)] [.int r20] (w_X6_isUnder l g x3 x4 (z_gI u 139 q.toNatClampNeg) ex3 u er22) (z_po ex3) rfl gX4_fits_X6_isUnder hy_X6_isUnder rfl (z_le1 hR (by decide)) (z_le2 hR (by decide) (by decide)) (Nat.le_of_ble_eq_true rfl) dX4_fits_135 (z_icmp_eq X 143 dX4_fits_138 (by decide) (fun c23 => ?_) (fun c23 => ?_))))))))))))
      · replace h := z_ip c23 h
        refine z_iinc X (v := q + 1) 7 [(7, .int (q + 1)), (8, .int v15), (0, .ref (z_ad g 138)), (1, .ref (z_ad g x1)), (2, .int x2), (3, .ref (z_ad g x3)), (4, .int x4), (6, .int x6)] dX4_fits_143 rfl rfl (by decide) rfl (z_goto X 78 dX4_fits_146 (by decide) (z_sub [2, 3, 4, 5, 6, 7, 0] [(0, .ref (z_ad g 138)), (1, .ref (z_ad g x1)), (2, .int x2), (3, .ref (z_ad g x3)), (4, .int x4), (6, .int x6), (7, .int (q + 1))] rfl ?_))
        exact hkb (q + 1) h
      · replace h := z_in c23 h
        refine z_iconst X (v := 0) dX4_fits_141 (by decide) ?_
        cases h; exact z_zret X rfl rfl dX4_fits_142 ⟨rfl, rfl⟩
set_option maxRecDepth 20000 in
set_option maxHeartbeats 4000000 in
theorem w_X4_fits (l : Launch) (g : z_G) (a1 : Nat) (a2 : Int32) (a3 : Nat) (a4 : Int32) (a5 : Int32) (ea1 : z_PO a1) (ea3 : z_PO a3) (u : z_M) {res : Int32} (h : f_X4_fits a1 a2 a3 a4 a5 u = some res) : z_C l g z_shC yX4_fits wsX4_fits 4 [.ref (z_ad g 138), .ref (z_ad g a1), .int a2, .ref (z_ad g a3), .int a4, .int a5] u (fun v u' => v = some (.int res) ∧ u' = u) := by
  refine z_C.mk (lv := [(0, .ref (z_ad g 138)), (1, .ref (z_ad g a1)), (2, .int a2), (3, .ref (z_ad g a3)), (4, .int a4), (5, .int a5)]) (cc := cX4_fits) (nL := 9) (rt := (some .boolean)) rfl (by decide) (Nat.le_of_ble_eq_true rfl) rfl (fun p e R s m args below meth c hR X => ?_)
  unfold f_X4_fits at h
  obtain ⟨b1, h⟩ := z_gs h
  obtain ⟨v2, ev2, h⟩ := z_ls h
  obtain ⟨r3, er3, h⟩ := z_bs h
  refine z_aload_n X 0 dX4_fits_0 rfl rfl (z_getR X (k0 := 1) z_c138 rfl in_X4_fits_X4 (by decide) rfl rfl lk_X4_fits_15 dX4_fits_1 (z_iload_n X 2 dX4_fits_4 rfl rfl (z_iald X z_c140 (z_inS b1) dX4_fits_5 (z_ti ev2 (z_istore X [(6, .int v2), (0, .ref (z_ad g 138)), (1, .ref (z_ad g a1)), (2, .int a2), (3, .ref (z_ad g a3)), (4, .int a4), (5, .int a5)] dX4_fits_6 (by decide) rfl (z_aload_n X 4 dX4_fits_8 rfl rfl (z_iload X 5 dX4_fits_9 rfl (z_callVi X (r := r3) (u1 := u) [.int a4] [] (w_X6_has l g a3 a4 ea3 u er3) (z_po ea3) rfl gX4_fits_X6_has hy_X6_has rfl (z_le1 hR (by decide)) (z_le2 hR (by decide) (by decide)) (Nat.le_of_ble_eq_true rfl) dX4_fits_11 (z_if_eq X 73 dX4_fits_14 (by decide) (fun c4 => ?_) (fun c4 => ?_))))))))))
  · replace h := z_ip c4 h
    refine z_iconst X (v := 0) dX4_fits_73 (by decide) ?_
    cases h; exact z_zret X rfl rfl dX4_fits_74 ⟨rfl, rfl⟩
  · replace h := z_in c4 h
    obtain ⟨r5, er5, h⟩ := z_bs h
    refine z_iload X 6 dX4_fits_17 rfl (z_iload X 5 dX4_fits_19 rfl (z_callNi X (r := r5) (u1 := u) [.int a5, .int a4] [] (w_X9_isIn l g a5 a4 u er5) gX4_fits_X9_isIn_n49 nn_X4 ini_X9_isIn_X4_fits sta_X9_isIn_X4_fits hy_X9_isIn.2 rfl (z_le1 hR (by decide)) (z_le2 hR (by decide) (by decide)) (Nat.le_of_ble_eq_true rfl) dX4_fits_21 (z_if_ne X 73 dX4_fits_24 (by decide) (fun c6 => ?_) (fun c6 => ?_))))
    · replace h := z_in c6 h
      refine z_iconst X (v := 0) dX4_fits_73 (by decide) ?_
      cases h; exact z_zret X rfl rfl dX4_fits_74 ⟨rfl, rfl⟩
    · replace h := z_ip c6 h
      obtain ⟨b7, h⟩ := z_gs h
      obtain ⟨b8, h⟩ := z_gs h
      refine z_aload_n X 2 dX4_fits_27 rfl rfl (z_getR X (k0 := 3) (z_po ea1) rfl in_X4_fits_X6 (by decide) rfl rfl lk_X4_fits_53 dX4_fits_28 (z_iload X 0 dX4_fits_31 rfl (z_iald X (z_poA ea1) (z_inS b7) dX4_fits_33 (z_callSi X (r := z_bitc (z_gI u (a1 + 1) v2.toNatClampNeg)) (u1 := u) [.int (z_gI u (a1 + 1) v2.toNatClampNeg)] [] (w_bitc l g z_shC (z_gI u (a1 + 1) v2.toNatClampNeg) u) gX4_fits_J6_bitCount_0f7a4 hy_J6_bitCount_0f7a4.2 rfl (z_le1 hR (by decide)) (z_le2 hR (by decide) (by decide)) (Nat.le_of_ble_eq_true rfl) dX4_fits_34 (z_aload_n X 4 dX4_fits_37 rfl rfl (z_getR X (k0 := 3) (z_po ea3) rfl in_X4_fits_X6 (by decide) rfl rfl lk_X4_fits_53 dX4_fits_38 (z_iload X 5 dX4_fits_41 rfl (z_iald X (z_poA ea3) (z_inS b8) dX4_fits_43 (z_callSi X (r := z_bitc (z_gI u (a3 + 1) a4.toNatClampNeg)) (u1 := u) [.int (z_gI u (a3 + 1) a4.toNatClampNeg)] [.int (z_bitc (z_gI u (a1 + 1) v2.toNatClampNeg))] (w_bitc l g z_shC (z_gI u (a3 + 1) a4.toNatClampNeg) u) gX4_fits_J6_bitCount_0f7a4 hy_J6_bitCount_0f7a4.2 rfl (z_le1 hR (by decide)) (z_le2 hR (by decide) (by decide)) (Nat.le_of_ble_eq_true rfl) dX4_fits_44 (z_icmp_ne X 73 dX4_fits_47 (by decide) (fun c9 => ?_) (fun c9 => ?_)))))))))))
      · replace h := z_in c9 h
        refine z_iconst X (v := 0) dX4_fits_73 (by decide) ?_
        cases h; exact z_zret X rfl rfl dX4_fits_74 ⟨rfl, rfl⟩
      · replace h := z_ip c9 h
        obtain ⟨b10, h⟩ := z_gs h
        obtain ⟨b11, h⟩ := z_gs h
        refine z_aload_n X 2 dX4_fits_50 rfl rfl (z_getR X (k0 := 4) (z_po ea1) rfl in_X4_fits_X6 (by decide) rfl rfl lk_X4_fits_56 dX4_fits_51 (z_iload X 0 dX4_fits_54 rfl (z_iald X (z_poU ea1) (z_inS b10) dX4_fits_56 (z_callSi X (r := z_bitc (z_gI u (a1 + 2) v2.toNatClampNeg)) (u1 := u) [.int (z_gI u (a1 + 2) v2.toNatClampNeg)] [] (w_bitc l g z_shC (z_gI u (a1 + 2) v2.toNatClampNeg) u) gX4_fits_J6_bitCount_0f7a4 hy_J6_bitCount_0f7a4.2 rfl (z_le1 hR (by decide)) (z_le2 hR (by decide) (by decide)) (Nat.le_of_ble_eq_true rfl) dX4_fits_57 (z_aload_n X 4 dX4_fits_60 rfl rfl (z_getR X (k0 := 4) (z_po ea3) rfl in_X4_fits_X6 (by decide) rfl rfl lk_X4_fits_56 dX4_fits_61 (z_iload X 5 dX4_fits_64 rfl (z_iald X (z_poU ea3) (z_inS b11) dX4_fits_66 (z_callSi X (r := z_bitc (z_gI u (a3 + 2) a4.toNatClampNeg)) (u1 := u) [.int (z_gI u (a3 + 2) a4.toNatClampNeg)] [.int (z_bitc (z_gI u (a1 + 2) v2.toNatClampNeg))] (w_bitc l g z_shC (z_gI u (a3 + 2) a4.toNatClampNeg) u) gX4_fits_J6_bitCount_0f7a4 hy_J6_bitCount_0f7a4.2 rfl (z_le1 hR (by decide)) (z_le2 hR (by decide) (by decide)) (Nat.le_of_ble_eq_true rfl) dX4_fits_67 (z_icmp_eq X 75 dX4_fits_70 (by decide) (fun c12 => ?_) (fun c12 => ?_)))))))))))
        · replace h := z_ip c12 h
          refine z_iconst X (v := 0) dX4_fits_75 (by decide) (z_istore X [(7, .int 0), (6, .int v2), (0, .ref (z_ad g 138)), (1, .ref (z_ad g a1)), (2, .int a2), (3, .ref (z_ad g a3)), (4, .int a4), (5, .int a5)] dX4_fits_76 (by decide) rfl (z_sub [2, 3, 4, 5, 6, 1, 0] [(0, .ref (z_ad g 138)), (1, .ref (z_ad g a1)), (2, .int a2), (3, .ref (z_ad g a3)), (4, .int a4), (6, .int v2), (7, .int 0)] rfl ?_))
          have hw := z_lp_w (fun q9 kb9 kx9 h1 h2 h3 => wb_X4_fits_78 (l := l) (e := e) (below := below) (u := u) hR X a1 a2 a3 a4 v2 ea1 ea3 q9 kb9 kx9 h1 h2 h3) z_F _ _ h
          refine hw (fun t24 h => ?_)
          refine z_iconst X (v := 1) dX4_fits_149 (by decide) ?_
          cases h; exact z_zret X rfl rfl dX4_fits_150 ⟨rfl, rfl⟩
        · replace h := z_in c12 h
          refine z_iconst X (v := 0) dX4_fits_73 (by decide) ?_
          cases h; exact z_zret X rfl rfl dX4_fits_74 ⟨rfl, rfl⟩

theorem lk_X4_canFinish_22 : (Cond.fieldLink RX4 22 RX4 (TX4 2).2.1 (TX4 2).2.2.1) ∈ wsX4_canFinish := by decide +kernel
theorem in_X4_canFinish_X4 : ∀ w ∈ u_ws RX4 TX4 3, w ∈ wsX4_canFinish := fun _ h => List.mem_cons_of_mem _ (List.mem_append_left _ (List.mem_append_right _ h))
theorem lk_X4_canFinish_9 : (Cond.fieldLink RX4 9 RX4 (TX4 0).2.1 (TX4 0).2.2.1) ∈ wsX4_canFinish := by decide +kernel
theorem hy_X4_canFinish : yX4_canFinish.cls = RX4 ∧ yX4_canFinish.cls ≠ "java/lang/invoke/MethodHandle" ∧ yX4_canFinish.cls ≠ "java/lang/invoke/VarHandle" ∧ (parseMethodDescriptor yX4_canFinish.desc).map (fun d => d.parameters.length) = some 4 := by decide +kernel
theorem hy_X4_fits : yX4_fits.cls = RX4 ∧ yX4_fits.cls ≠ "java/lang/invoke/MethodHandle" ∧ yX4_fits.cls ≠ "java/lang/invoke/VarHandle" ∧ (parseMethodDescriptor yX4_fits.desc).map (fun d => d.parameters.length) = some 5 := by decide +kernel
def b_X4_canFinish_19 (rec : Nat → Nat → Int32 → Int32 → z_M → Option (Int32 × z_M)) (x1 : Nat) (x2 : Nat) (x3 : Int32) (x4 : Int32) : (Int32 × z_M) → ((Int32 × z_M) → Option (Int32 × z_M)) → (z_M → Option (Int32 × z_M)) → Option (Int32 × z_M) := fun q kb kx =>
  if 9 ≤ q.1 then (kx q.2) else (Option.bind (f_X4_fits x1 x3 x2 q.1 x4 q.2) (fun r4 => if r4 = 0 then (kb (q.1 + 1, q.2)) else (z_gd (z_inb x3 9) (z_lt (z_sI q.2 139 x3.toNatClampNeg q.1) (fun u7 => z_b2 (rec x1 x2 (x3 + 1) (x4 ||| (1 <<< (q.1 &&& 31))) u7) (fun r8 u9 => if r8 = 0 then (kb (q.1 + 1, u9)) else (some (1, u9))))))))
def fb_X4_canFinish (rec : Nat → Nat → Int32 → Int32 → z_M → Option (Int32 × z_M)) (a1 : Nat) (a2 : Nat) (a3 : Int32) (a4 : Int32) (u : z_M) : Option (Int32 × z_M) :=
  if (z_gI u 138 2) ≤ a3 then (some (1, u)) else (if a3 < 9 then (z_lp (b_X4_canFinish_19 rec a1 a2 a3 a4) z_F (0, u) (fun t11 => some (0, t11))) else (some (1, u)))
def f_X4_canFinish : Nat → Nat → Nat → Int32 → Int32 → z_M → Option (Int32 × z_M)
  | 0, _, _, _, _, _ => none
  | dd + 1, a1, a2, a3, a4, u => fb_X4_canFinish (f_X4_canFinish dd) a1 a2 a3 a4 u
set_option maxRecDepth 20000 in
set_option maxHeartbeats 4000000 in
theorem wb_X4_canFinish_19 {dd : Nat} {p : Program} {l : Launch} {e : Env} {R : Room} {s : State} {m : MethodId} {args : Array Value} {below : List Frame} {meth : Method} {c : Code} {g : z_G} {u : z_M} {res : Int32 × z_M} (hR : R = z_rm (5 + (dd + 1))) (X : z_X p R s m args meth c cX4_canFinish 6 RX4 wsX4_canFinish (some .boolean) g z_shC) (rec : Nat → Nat → Int32 → Int32 → z_M → Option (Int32 × z_M)) (ih : ∀ (a1 : Nat) (a2 : Nat) (a3 : Int32) (a4 : Int32) (ea1 : z_PO a1) (ea2 : z_PO a2) (u : z_M) (res : Int32 × z_M), rec a1 a2 a3 a4 u = some res → z_C l g z_shC yX4_canFinish wsX4_canFinish (5 + dd) [.ref (z_ad g 138), .ref (z_ad g a1), .ref (z_ad g a2), .int a3, .int a4] u (fun v u' => v = some (.int res.1) ∧ u' = res.2)) (x1 : Nat) (x2 : Nat) (x3 : Int32) (x4 : Int32) (ex1 : z_PO x1) (ex2 : z_PO x2) (q : Int32 × z_M) (kb : (Int32 × z_M) → Option (Int32 × z_M)) (kx : z_M → Option (Int32 × z_M)) (hkb : ∀ q, kb q = some res → z_V p l e R s m args below meth c 6 g z_shC (MQ below (z_Qc g z_shC (fun v u' => v = some (.int res.1) ∧ u' = res.2)) args s 0 0 (z_A g z_shC)) 19 [(0, .ref (z_ad g 138)), (1, .ref (z_ad g x1)), (2, .ref (z_ad g x2)), (3, .int x3), (4, .int x4), (5, .int q.1)] [] q.2) (hkx : ∀ t, kx t = some res → z_V p l e R s m args below meth c 6 g z_shC (MQ below (z_Qc g z_shC (fun v u' => v = some (.int res.1) ∧ u' = res.2)) args s 0 0 (z_A g z_shC)) 75 [] [] t) (h : b_X4_canFinish_19 rec x1 x2 x3 x4 q kb kx = some res) : z_V p l e R s m args below meth c 6 g z_shC (MQ below (z_Qc g z_shC (fun v u' => v = some (.int res.1) ∧ u' = res.2)) args s 0 0 (z_A g z_shC)) 19 [(0, .ref (z_ad g 138)), (1, .ref (z_ad g x1)), (2, .ref (z_ad g x2)), (3, .int x3), (4, .int x4), (5, .int q.1)] [] q.2 := by
  unfold b_X4_canFinish_19 at h
  refine z_iload X 5 dX4_canFinish_19 rfl (z_bipush X (v := 9) dX4_canFinish_21 (by decide) (z_icmp_ge X 75 dX4_canFinish_23 (by decide) (fun c3 => ?_) (fun c3 => ?_)))
  · replace h := z_ip c3 h
    refine z_sub [] [] rfl ?_
    exact hkx q.2 h
  · replace h := z_in c3 h
    obtain ⟨r4, er4, h⟩ := z_bs h
    refine z_aload_n X 0 dX4_canFinish_26 rfl rfl (z_aload_n X 1 dX4_canFinish_27 rfl rfl (z_iload_n X 3 dX4_canFinish_28 rfl rfl (z_aload_n X 2 dX4_canFinish_29 rfl rfl (z_iload X 5 dX4_canFinish_30 rfl (z_iload X 4 dX4_canFinish_32 rfl (z_callVi X (r := r4) (u1 := q.2) [.ref (z_ad g x1), .int x3, .ref (z_ad g x2), .int q.1, .int x4] [] (w_X4_fits l g x1 x3 x2 q.1 x4 ex1 ex2 q.2 er4) z_c138 rfl gX4_canFinish_X4_fits hy_X4_fits rfl (z_le1 hR (by omega)) (z_le2 hR (by omega) (by decide)) (Nat.le_of_ble_eq_true rfl) dX4_canFinish_34 (z_if_eq X 69 dX4_canFinish_37 (by decide) (fun c5 => ?_) (fun c5 => ?_))))))))
    · replace h := z_ip c5 h
      refine z_iinc X (v := q.1 + 1) 5 [(5, .int (q.1 + 1)), (0, .ref (z_ad g 138)), (1, .ref (z_ad g x1)), (2, .ref (z_ad g x2)), (3, .int x3), (4, .int x4)] dX4_canFinish_69 rfl rfl (by decide) rfl (z_goto X 19 dX4_canFinish_72 (by decide) (z_sub [1, 2, 3, 4, 5, 0] [(0, .ref (z_ad g 138)), (1, .ref (z_ad g x1)), (2, .ref (z_ad g x2)), (3, .int x3), (4, .int x4), (5, .int (q.1 + 1))] rfl ?_))
      exact hkb (q.1 + 1, q.2) h
    · replace h := z_in c5 h
      obtain ⟨b6, h⟩ := z_gs h
      obtain ⟨u7, eu7, h⟩ := z_ls h
      obtain ⟨r8, u9, er8, h⟩ := z_b2s h
      refine z_aload_n X 0 dX4_canFinish_40 rfl rfl (z_getR X (k0 := 0) z_c138 rfl in_X4_canFinish_X4 (by decide) rfl rfl lk_X4_canFinish_9 dX4_canFinish_41 (z_iload_n X 3 dX4_canFinish_44 rfl rfl (z_iload X 5 dX4_canFinish_45 rfl (z_iast X z_c139 (z_inS b6) dX4_canFinish_47 (z_nm eu7 (z_aload_n X 0 dX4_canFinish_48 rfl rfl (z_aload_n X 1 dX4_canFinish_49 rfl rfl (z_aload_n X 2 dX4_canFinish_50 rfl rfl (z_iload_n X 3 dX4_canFinish_51 rfl rfl (z_iconst X (v := 1) dX4_canFinish_52 (by decide) (z_iadd X dX4_canFinish_53 (z_iload X 4 dX4_canFinish_54 rfl (z_iconst X (v := 1) dX4_canFinish_56 (by decide) (z_iload X 5 dX4_canFinish_57 rfl (z_ishl X dX4_canFinish_59 (z_ior X dX4_canFinish_60 (z_callVi X (r := r8) (u1 := u9) [.ref (z_ad g x1), .ref (z_ad g x2), .int (x3 + 1), .int (x4 ||| (1 <<< (q.1 &&& 31)))] [] (ih x1 x2 (x3 + 1) (x4 ||| (1 <<< (q.1 &&& 31))) ex1 ex2 u7 _ er8) z_c138 rfl gX4_canFinish_X4_canFinish hy_X4_canFinish rfl (z_le1 hR (by omega)) (z_le2 hR (by omega) (by decide)) (Nat.le_of_ble_eq_true rfl) dX4_canFinish_61 (z_if_eq X 69 dX4_canFinish_64 (by decide) (fun c10 => ?_) (fun c10 => ?_)))))))))))))))))))
      · replace h := z_ip c10 h
        refine z_iinc X (v := q.1 + 1) 5 [(5, .int (q.1 + 1)), (0, .ref (z_ad g 138)), (1, .ref (z_ad g x1)), (2, .ref (z_ad g x2)), (3, .int x3), (4, .int x4)] dX4_canFinish_69 rfl rfl (by decide) rfl (z_goto X 19 dX4_canFinish_72 (by decide) (z_sub [1, 2, 3, 4, 5, 0] [(0, .ref (z_ad g 138)), (1, .ref (z_ad g x1)), (2, .ref (z_ad g x2)), (3, .int x3), (4, .int x4), (5, .int (q.1 + 1))] rfl ?_))
        exact hkb (q.1 + 1, u9) h
      · replace h := z_in c10 h
        refine z_iconst X (v := 1) dX4_canFinish_67 (by decide) ?_
        cases h; exact z_zret X rfl rfl dX4_canFinish_68 ⟨rfl, rfl⟩
set_option maxRecDepth 20000 in
set_option maxHeartbeats 4000000 in
theorem wr_X4_canFinish {dd : Nat} {p : Program} {l : Launch} {e : Env} {R : Room} {s : State} {m : MethodId} {args : Array Value} {below : List Frame} {meth : Method} {c : Code} {g : z_G} {u : z_M} {res : Int32 × z_M} (hR : R = z_rm (5 + (dd + 1))) (X : z_X p R s m args meth c cX4_canFinish 6 RX4 wsX4_canFinish (some .boolean) g z_shC) (rec : Nat → Nat → Int32 → Int32 → z_M → Option (Int32 × z_M)) (ih : ∀ (a1 : Nat) (a2 : Nat) (a3 : Int32) (a4 : Int32) (ea1 : z_PO a1) (ea2 : z_PO a2) (u : z_M) (res : Int32 × z_M), rec a1 a2 a3 a4 u = some res → z_C l g z_shC yX4_canFinish wsX4_canFinish (5 + dd) [.ref (z_ad g 138), .ref (z_ad g a1), .ref (z_ad g a2), .int a3, .int a4] u (fun v u' => v = some (.int res.1) ∧ u' = res.2)) (a1 : Nat) (a2 : Nat) (a3 : Int32) (a4 : Int32) (ea1 : z_PO a1) (ea2 : z_PO a2) (h : fb_X4_canFinish rec a1 a2 a3 a4 u = some res) : z_V p l e R s m args below meth c 6 g z_shC (MQ below (z_Qc g z_shC (fun v u' => v = some (.int res.1) ∧ u' = res.2)) args s 0 0 (z_A g z_shC)) 0 [(0, .ref (z_ad g 138)), (1, .ref (z_ad g a1)), (2, .ref (z_ad g a2)), (3, .int a3), (4, .int a4)] [] u := by
  unfold fb_X4_canFinish at h
  refine z_iload_n X 3 dX4_canFinish_0 rfl rfl (z_aload_n X 0 dX4_canFinish_1 rfl rfl (z_getI X (k0 := 2) z_c138 rfl in_X4_canFinish_X4 (by decide) rfl rfl lk_X4_canFinish_22 dX4_canFinish_2 (z_icmp_ge X 14 dX4_canFinish_5 (by decide) (fun c1 => ?_) (fun c1 => ?_))))
  · replace h := z_ip c1 h
    refine z_iconst X (v := 1) dX4_canFinish_14 (by decide) ?_
    cases h; exact z_zret X rfl rfl dX4_canFinish_15 ⟨rfl, rfl⟩
  · replace h := z_in c1 h
    refine z_iload_n X 3 dX4_canFinish_8 rfl rfl (z_bipush X (v := 9) dX4_canFinish_9 (by decide) (z_icmp_lt X 16 dX4_canFinish_11 (by decide) (fun c2 => ?_) (fun c2 => ?_)))
    · replace h := z_ip c2 h
      refine z_iconst X (v := 0) dX4_canFinish_16 (by decide) (z_istore X [(5, .int 0), (0, .ref (z_ad g 138)), (1, .ref (z_ad g a1)), (2, .ref (z_ad g a2)), (3, .int a3), (4, .int a4)] dX4_canFinish_17 (by decide) rfl (z_sub [1, 2, 3, 4, 5, 0] [(0, .ref (z_ad g 138)), (1, .ref (z_ad g a1)), (2, .ref (z_ad g a2)), (3, .int a3), (4, .int a4), (5, .int 0)] rfl ?_))
      have hw := z_lp_w (fun q9 kb9 kx9 h1 h2 h3 => wb_X4_canFinish_19 (l := l) (e := e) (below := below) (u := u) hR X rec ih a1 a2 a3 a4 ea1 ea2 q9 kb9 kx9 h1 h2 h3) z_F _ _ h
      refine hw (fun t11 h => ?_)
      refine z_iconst X (v := 0) dX4_canFinish_75 (by decide) ?_
      cases h; exact z_zret X rfl rfl dX4_canFinish_76 ⟨rfl, rfl⟩
    · replace h := z_in c2 h
      refine z_iconst X (v := 1) dX4_canFinish_14 (by decide) ?_
      cases h; exact z_zret X rfl rfl dX4_canFinish_15 ⟨rfl, rfl⟩
theorem w_X4_canFinish (l : Launch) (g : z_G) : ∀ (dd : Nat) (a1 : Nat) (a2 : Nat) (a3 : Int32) (a4 : Int32) (ea1 : z_PO a1) (ea2 : z_PO a2) (u : z_M) {res : Int32 × z_M}, f_X4_canFinish dd a1 a2 a3 a4 u = some res → z_C l g z_shC yX4_canFinish wsX4_canFinish (5 + dd) [.ref (z_ad g 138), .ref (z_ad g a1), .ref (z_ad g a2), .int a3, .int a4] u (fun v u' => v = some (.int res.1) ∧ u' = res.2)
  | 0, _, _, _, _, _, _, _, _, h => by cases h
  | dd + 1, a1, a2, a3, a4, ea1, ea2, u, res, h => z_C.mk (lv := [(0, .ref (z_ad g 138)), (1, .ref (z_ad g a1)), (2, .ref (z_ad g a2)), (3, .int a3), (4, .int a4)]) (cc := cX4_canFinish) (nL := 6) (rt := (some .boolean)) rfl (by decide) (Nat.le_of_ble_eq_true rfl) rfl (fun p e R s m args below meth c hR X => wr_X4_canFinish hR X (f_X4_canFinish dd) (fun a1 a2 a3 a4 ea1 ea2 u res h => w_X4_canFinish l g dd a1 a2 a3 a4 ea1 ea2 u h) a1 a2 a3 a4 ea1 ea2 h)

theorem lk_X4_isLike_22 : (Cond.fieldLink RX4 22 RX4 (TX4 2).2.1 (TX4 2).2.2.1) ∈ wsX4_isLike := by decide +kernel
theorem in_X4_isLike_X4 : ∀ w ∈ u_ws RX4 TX4 3, w ∈ wsX4_isLike := fun _ h => List.mem_cons_of_mem _ (List.mem_append_left _ (List.mem_append_right _ h))
theorem lk_X4_isLike_26 : (Cond.fieldLink RX4 26 RX6 (TX6 1).2.1 (TX6 1).2.2.1) ∈ wsX4_isLike := by decide +kernel
theorem in_X4_isLike_X6 : ∀ w ∈ u_ws RX6 TX6 6, w ∈ wsX4_isLike := fun _ h => List.mem_cons_of_mem _ (List.mem_append_right _ h)
theorem hy_X4_lineUp : yX4_lineUp.cls = RX4 ∧ yX4_lineUp.cls ≠ "java/lang/invoke/MethodHandle" ∧ yX4_lineUp.cls ≠ "java/lang/invoke/VarHandle" ∧ (parseMethodDescriptor yX4_lineUp.desc).map (fun d => d.parameters.length) = some 1 := by decide +kernel
def f_X4_isLike (a1 : Nat) (a2 : Nat) (u : z_M) : Option (Int32 × z_M) :=
  Option.bind (f_X4_lineUp a1 u) (fun r1 => if (z_gI r1 138 2) = (z_bitc (z_gI r1 a2 1)) then (z_b2 (f_X4_canFinish 14 a1 a2 0 0 r1) (fun r3 u4 => if r3 = 0 then (some (0, u4)) else (some (1, u4)))) else (some (0, r1)))
set_option maxRecDepth 20000 in
set_option maxHeartbeats 4000000 in
theorem w_X4_isLike (l : Launch) (g : z_G) (a1 : Nat) (a2 : Nat) (ea1 : z_PO a1) (ea2 : z_PO a2) (u : z_M) {res : Int32 × z_M} (h : f_X4_isLike a1 a2 u = some res) : z_C l g z_shC yX4_isLike wsX4_isLike 20 [.ref (z_ad g 138), .ref (z_ad g a1), .ref (z_ad g a2)] u (fun v u' => v = some (.int res.1) ∧ u' = res.2) := by
  refine z_C.mk (lv := [(0, .ref (z_ad g 138)), (1, .ref (z_ad g a1)), (2, .ref (z_ad g a2))]) (cc := cX4_isLike) (nL := 3) (rt := (some .boolean)) rfl (by decide) (Nat.le_of_ble_eq_true rfl) rfl (fun p e R s m args below meth c hR X => ?_)
  unfold f_X4_isLike at h
  obtain ⟨r1, er1, h⟩ := z_bs h
  refine z_aload_n X 0 dX4_isLike_0 rfl rfl (z_aload_n X 1 dX4_isLike_1 rfl rfl (z_callVv X (u1 := r1) [.ref (z_ad g a1)] [] (w_X4_lineUp l g a1 ea1 u er1) z_c138 rfl gX4_isLike_X4_lineUp hy_X4_lineUp rfl (z_le1 hR (by decide)) (z_le2 hR (by decide) (by decide)) (Nat.le_of_ble_eq_true rfl) dX4_isLike_2 (z_aload_n X 0 dX4_isLike_5 rfl rfl (z_getI X (k0 := 2) z_c138 rfl in_X4_isLike_X4 (by decide) rfl rfl lk_X4_isLike_22 dX4_isLike_6 (z_aload_n X 2 dX4_isLike_9 rfl rfl (z_getI X (k0 := 1) (z_po ea2) rfl in_X4_isLike_X6 (by decide) rfl rfl lk_X4_isLike_26 dX4_isLike_10 (z_callSi X (r := z_bitc (z_gI r1 a2 1)) (u1 := r1) [.int (z_gI r1 a2 1)] [.int (z_gI r1 138 2)] (w_bitc l g z_shC (z_gI r1 a2 1) r1) gX4_isLike_J6_bitCount_0f7a4 hy_J6_bitCount_0f7a4.2 rfl (z_le1 hR (by decide)) (z_le2 hR (by decide) (by decide)) (Nat.le_of_ble_eq_true rfl) dX4_isLike_13 (z_icmp_ne X 34 dX4_isLike_16 (by decide) (fun c2 => ?_) (fun c2 => ?_)))))))))
  · replace h := z_in c2 h
    refine z_iconst X (v := 0) dX4_isLike_34 (by decide) ?_
    cases h; exact z_zret X rfl rfl dX4_isLike_35 ⟨rfl, rfl⟩
  · replace h := z_ip c2 h
    obtain ⟨r3, u4, er3, h⟩ := z_b2s h
    refine z_aload_n X 0 dX4_isLike_19 rfl rfl (z_aload_n X 1 dX4_isLike_20 rfl rfl (z_aload_n X 2 dX4_isLike_21 rfl rfl (z_iconst X (v := 0) dX4_isLike_22 (by decide) (z_iconst X (v := 0) dX4_isLike_23 (by decide) (z_callVi X (r := r3) (u1 := u4) [.ref (z_ad g a1), .ref (z_ad g a2), .int 0, .int 0] [] (w_X4_canFinish l g 14 a1 a2 0 0 ea1 ea2 r1 er3) z_c138 rfl gX4_isLike_X4_canFinish hy_X4_canFinish rfl (z_le1 hR (by decide)) (z_le2 hR (by decide) (by decide)) (Nat.le_of_ble_eq_true rfl) dX4_isLike_24 (z_if_eq X 34 dX4_isLike_27 (by decide) (fun c5 => ?_) (fun c5 => ?_)))))))
    · replace h := z_ip c5 h
      refine z_iconst X (v := 0) dX4_isLike_34 (by decide) ?_
      cases h; exact z_zret X rfl rfl dX4_isLike_35 ⟨rfl, rfl⟩
    · replace h := z_in c5 h
      refine z_iconst X (v := 1) dX4_isLike_30 (by decide) (z_goto X 35 dX4_isLike_31 (by decide) ?_)
      cases h; exact z_zret X rfl rfl dX4_isLike_35 ⟨rfl, rfl⟩

theorem lk_X4_placesFor_9 : (Cond.fieldLink RX4 9 RX4 (TX4 0).2.1 (TX4 0).2.2.1) ∈ wsX4_placesFor := by decide +kernel
theorem in_X4_placesFor_X4 : ∀ w ∈ u_ws RX4 TX4 3, w ∈ wsX4_placesFor := fun _ h => List.mem_cons_of_mem _ (List.mem_append_left _ (List.mem_append_right _ h))
def b_X4_placesFor_6 (x1 : Nat) (x2 : Int32) (x3 : Int32) : (Int32 × Int32 × z_M) → ((Int32 × Int32 × z_M) → Option (Int32 × z_M)) → ((Int32 × z_M) → Option (Int32 × z_M)) → Option (Int32 × z_M) := fun q kb kx =>
  if 9 ≤ q.2.1 then (kx (q.1, q.2.2)) else (Option.bind (f_X4_fits x1 x2 x1 q.2.1 x3 q.2.2) (fun r2 => if r2 = 0 then (kb (q.1, q.2.1 + 1, q.2.2)) else (z_gd (z_inb x2 9) (z_lt (z_sI q.2.2 139 x2.toNatClampNeg q.2.1) (fun u5 => z_b2 (f_X4_canFinish 14 x1 x1 (x2 + 1) (x3 ||| (1 <<< (q.2.1 &&& 31))) u5) (fun r6 u7 => if r6 = 0 then (kb (q.1, q.2.1 + 1, u7)) else (kb (q.1 + 1, q.2.1 + 1, u7))))))))
def f_X4_placesFor (a1 : Nat) (a2 : Int32) (a3 : Int32) (u : z_M) : Option (Int32 × z_M) :=
  z_lp (b_X4_placesFor_6 a1 a2 a3) z_F (0, 0, u) (fun t9 => some (t9.1, t9.2))
set_option maxRecDepth 20000 in
set_option maxHeartbeats 4000000 in
theorem wb_X4_placesFor_6 {p : Program} {l : Launch} {e : Env} {R : Room} {s : State} {m : MethodId} {args : Array Value} {below : List Frame} {meth : Method} {c : Code} {g : z_G} {u : z_M} {res : Int32 × z_M} (hR : R = z_rm 20) (X : z_X p R s m args meth c cX4_placesFor 6 RX4 wsX4_placesFor (some .int) g z_shC) (x1 : Nat) (x2 : Int32) (x3 : Int32) (ex1 : z_PO x1) (q : Int32 × Int32 × z_M) (kb : (Int32 × Int32 × z_M) → Option (Int32 × z_M)) (kx : (Int32 × z_M) → Option (Int32 × z_M)) (hkb : ∀ q, kb q = some res → z_V p l e R s m args below meth c 6 g z_shC (MQ below (z_Qc g z_shC (fun v u' => v = some (.int res.1) ∧ u' = res.2)) args s 0 0 (z_A g z_shC)) 6 [(0, .ref (z_ad g 138)), (1, .ref (z_ad g x1)), (2, .int x2), (3, .int x3), (4, .int q.1), (5, .int q.2.1)] [] q.2.2) (hkx : ∀ t, kx t = some res → z_V p l e R s m args below meth c 6 g z_shC (MQ below (z_Qc g z_shC (fun v u' => v = some (.int res.1) ∧ u' = res.2)) args s 0 0 (z_A g z_shC)) 61 [(4, .int t.1)] [] t.2) (h : b_X4_placesFor_6 x1 x2 x3 q kb kx = some res) : z_V p l e R s m args below meth c 6 g z_shC (MQ below (z_Qc g z_shC (fun v u' => v = some (.int res.1) ∧ u' = res.2)) args s 0 0 (z_A g z_shC)) 6 [(0, .ref (z_ad g 138)), (1, .ref (z_ad g x1)), (2, .int x2), (3, .int x3), (4, .int q.1), (5, .int q.2.1)] [] q.2.2 := by
  unfold b_X4_placesFor_6 at h
  refine z_iload X 5 dX4_placesFor_6 rfl (z_bipush X (v := 9) dX4_placesFor_8 (by decide) (z_icmp_ge X 61 dX4_placesFor_10 (by decide) (fun c1 => ?_) (fun c1 => ?_)))
  · replace h := z_ip c1 h
    refine z_sub [4] [(4, .int q.1)] rfl ?_
    exact hkx (q.1, q.2.2) h
  · replace h := z_in c1 h
    obtain ⟨r2, er2, h⟩ := z_bs h
    refine z_aload_n X 0 dX4_placesFor_13 rfl rfl (z_aload_n X 1 dX4_placesFor_14 rfl rfl (z_iload_n X 2 dX4_placesFor_15 rfl rfl (z_aload_n X 1 dX4_placesFor_16 rfl rfl (z_iload X 5 dX4_placesFor_17 rfl (z_iload_n X 3 dX4_placesFor_19 rfl rfl (z_callVi X (r := r2) (u1 := q.2.2) [.ref (z_ad g x1), .int x2, .ref (z_ad g x1), .int q.2.1, .int x3] [] (w_X4_fits l g x1 x2 x1 q.2.1 x3 ex1 ex1 q.2.2 er2) z_c138 rfl gX4_placesFor_X4_fits hy_X4_fits rfl (z_le1 hR (by decide)) (z_le2 hR (by decide) (by decide)) (Nat.le_of_ble_eq_true rfl) dX4_placesFor_20 (z_if_eq X 55 dX4_placesFor_23 (by decide) (fun c3 => ?_) (fun c3 => ?_))))))))
    · replace h := z_ip c3 h
      refine z_iinc X (v := q.2.1 + 1) 5 [(5, .int (q.2.1 + 1)), (0, .ref (z_ad g 138)), (1, .ref (z_ad g x1)), (2, .int x2), (3, .int x3), (4, .int q.1)] dX4_placesFor_55 rfl rfl (by decide) rfl (z_goto X 6 dX4_placesFor_58 (by decide) (z_sub [1, 2, 3, 4, 5, 0] [(0, .ref (z_ad g 138)), (1, .ref (z_ad g x1)), (2, .int x2), (3, .int x3), (4, .int q.1), (5, .int (q.2.1 + 1))] rfl ?_))
      exact hkb (q.1, q.2.1 + 1, q.2.2) h
    · replace h := z_in c3 h
      obtain ⟨b4, h⟩ := z_gs h
      obtain ⟨u5, eu5, h⟩ := z_ls h
      obtain ⟨r6, u7, er6, h⟩ := z_b2s h
      refine z_aload_n X 0 dX4_placesFor_26 rfl rfl (z_getR X (k0 := 0) z_c138 rfl in_X4_placesFor_X4 (by decide) rfl rfl lk_X4_placesFor_9 dX4_placesFor_27 (z_iload_n X 2 dX4_placesFor_30 rfl rfl (z_iload X 5 dX4_placesFor_31 rfl (z_iast X z_c139 (z_inS b4) dX4_placesFor_33 (z_nm eu5 (z_aload_n X 0 dX4_placesFor_34 rfl rfl (z_aload_n X 1 dX4_placesFor_35 rfl rfl (z_aload_n X 1 dX4_placesFor_36 rfl rfl (z_iload_n X 2 dX4_placesFor_37 rfl rfl (z_iconst X (v := 1) dX4_placesFor_38 (by decide) (z_iadd X dX4_placesFor_39 (z_iload_n X 3 dX4_placesFor_40 rfl rfl (z_iconst X (v := 1) dX4_placesFor_41 (by decide) (z_iload X 5 dX4_placesFor_42 rfl (z_ishl X dX4_placesFor_44 (z_ior X dX4_placesFor_45 (z_callVi X (r := r6) (u1 := u7) [.ref (z_ad g x1), .ref (z_ad g x1), .int (x2 + 1), .int (x3 ||| (1 <<< (q.2.1 &&& 31)))] [] (w_X4_canFinish l g 14 x1 x1 (x2 + 1) (x3 ||| (1 <<< (q.2.1 &&& 31))) ex1 ex1 u5 er6) z_c138 rfl gX4_placesFor_X4_canFinish hy_X4_canFinish rfl (z_le1 hR (by decide)) (z_le2 hR (by decide) (by decide)) (Nat.le_of_ble_eq_true rfl) dX4_placesFor_46 (z_if_eq X 55 dX4_placesFor_49 (by decide) (fun c8 => ?_) (fun c8 => ?_)))))))))))))))))))
      · replace h := z_ip c8 h
        refine z_iinc X (v := q.2.1 + 1) 5 [(5, .int (q.2.1 + 1)), (0, .ref (z_ad g 138)), (1, .ref (z_ad g x1)), (2, .int x2), (3, .int x3), (4, .int q.1)] dX4_placesFor_55 rfl rfl (by decide) rfl (z_goto X 6 dX4_placesFor_58 (by decide) (z_sub [1, 2, 3, 4, 5, 0] [(0, .ref (z_ad g 138)), (1, .ref (z_ad g x1)), (2, .int x2), (3, .int x3), (4, .int q.1), (5, .int (q.2.1 + 1))] rfl ?_))
        exact hkb (q.1, q.2.1 + 1, u7) h
      · replace h := z_in c8 h
        refine z_iinc X (v := q.1 + 1) 4 [(4, .int (q.1 + 1)), (0, .ref (z_ad g 138)), (1, .ref (z_ad g x1)), (2, .int x2), (3, .int x3), (5, .int q.2.1)] dX4_placesFor_52 rfl rfl (by decide) rfl (z_iinc X (v := q.2.1 + 1) 5 [(5, .int (q.2.1 + 1)), (4, .int (q.1 + 1)), (0, .ref (z_ad g 138)), (1, .ref (z_ad g x1)), (2, .int x2), (3, .int x3)] dX4_placesFor_55 rfl rfl (by decide) rfl (z_goto X 6 dX4_placesFor_58 (by decide) (z_sub [2, 3, 4, 5, 1, 0] [(0, .ref (z_ad g 138)), (1, .ref (z_ad g x1)), (2, .int x2), (3, .int x3), (4, .int (q.1 + 1)), (5, .int (q.2.1 + 1))] rfl ?_)))
        exact hkb (q.1 + 1, q.2.1 + 1, u7) h
set_option maxRecDepth 20000 in
set_option maxHeartbeats 4000000 in
theorem w_X4_placesFor (l : Launch) (g : z_G) (a1 : Nat) (a2 : Int32) (a3 : Int32) (ea1 : z_PO a1) (u : z_M) {res : Int32 × z_M} (h : f_X4_placesFor a1 a2 a3 u = some res) : z_C l g z_shC yX4_placesFor wsX4_placesFor 20 [.ref (z_ad g 138), .ref (z_ad g a1), .int a2, .int a3] u (fun v u' => v = some (.int res.1) ∧ u' = res.2) := by
  refine z_C.mk (lv := [(0, .ref (z_ad g 138)), (1, .ref (z_ad g a1)), (2, .int a2), (3, .int a3)]) (cc := cX4_placesFor) (nL := 6) (rt := (some .int)) rfl (by decide) (Nat.le_of_ble_eq_true rfl) rfl (fun p e R s m args below meth c hR X => ?_)
  unfold f_X4_placesFor at h
  refine z_iconst X (v := 0) dX4_placesFor_0 (by decide) (z_istore X [(4, .int 0), (0, .ref (z_ad g 138)), (1, .ref (z_ad g a1)), (2, .int a2), (3, .int a3)] dX4_placesFor_1 (by decide) rfl (z_iconst X (v := 0) dX4_placesFor_3 (by decide) (z_istore X [(5, .int 0), (4, .int 0), (0, .ref (z_ad g 138)), (1, .ref (z_ad g a1)), (2, .int a2), (3, .int a3)] dX4_placesFor_4 (by decide) rfl (z_sub [2, 3, 4, 5, 1, 0] [(0, .ref (z_ad g 138)), (1, .ref (z_ad g a1)), (2, .int a2), (3, .int a3), (4, .int 0), (5, .int 0)] rfl ?_))))
  have hw := z_lp_w (fun q9 kb9 kx9 h1 h2 h3 => wb_X4_placesFor_6 (l := l) (e := e) (below := below) (u := u) hR X a1 a2 a3 ea1 q9 kb9 kx9 h1 h2 h3) z_F _ _ h
  refine hw (fun t9 h => ?_)
  refine z_iload X 0 dX4_placesFor_61 rfl ?_
  cases h; exact z_iret X rfl dX4_placesFor_63 ⟨rfl, rfl⟩

theorem lk_X4_selvesOf_22 : (Cond.fieldLink RX4 22 RX4 (TX4 2).2.1 (TX4 2).2.2.1) ∈ wsX4_selvesOf := by decide +kernel
theorem in_X4_selvesOf_X4 : ∀ w ∈ u_ws RX4 TX4 3, w ∈ wsX4_selvesOf := fun _ h => List.mem_cons_of_mem _ (List.mem_append_left _ (List.mem_append_right _ h))
theorem lk_X4_selvesOf_15 : (Cond.fieldLink RX4 15 RX4 (TX4 1).2.1 (TX4 1).2.2.1) ∈ wsX4_selvesOf := by decide +kernel
theorem lk_X4_selvesOf_9 : (Cond.fieldLink RX4 9 RX4 (TX4 0).2.1 (TX4 0).2.2.1) ∈ wsX4_selvesOf := by decide +kernel
theorem hy_X4_placesFor : yX4_placesFor.cls = RX4 ∧ yX4_placesFor.cls ≠ "java/lang/invoke/MethodHandle" ∧ yX4_placesFor.cls ≠ "java/lang/invoke/VarHandle" ∧ (parseMethodDescriptor yX4_placesFor.desc).map (fun d => d.parameters.length) = some 3 := by decide +kernel
def b_X4_selvesOf_12 (x1 : Nat) : (Int32 × Int32 × Int32 × z_M) → ((Int32 × Int32 × Int32 × z_M) → Option (Int32 × z_M)) → ((Int32 × z_M) → Option (Int32 × z_M)) → Option (Int32 × z_M) := fun q kb kx =>
  if (z_gI q.2.2.2 138 2) ≤ q.2.2.1 then (kx (q.1, q.2.2.2)) else (if 9 ≤ q.2.2.1 then (kx (q.1, q.2.2.2)) else (z_gd (z_inb q.2.2.1 9) (z_lt (z_gI q.2.2.2 140 q.2.2.1.toNatClampNeg) (fun v5 => z_b2 (f_X4_placesFor x1 q.2.2.1 q.2.1 q.2.2.2) (fun r6 u7 => z_lt (q.1 * r6) (fun v8 => z_gd (z_inb q.2.2.1 9) (z_lt (z_sI u7 139 q.2.2.1.toNatClampNeg v5) (fun u10 => z_lt (q.2.1 ||| (1 <<< (v5 &&& 31))) (fun v11 => kb (v8, v11, q.2.2.1 + 1, u10))))))))))
def f_X4_selvesOf (a1 : Nat) (u : z_M) : Option (Int32 × z_M) :=
  Option.bind (f_X4_lineUp a1 u) (fun r1 => z_lp (b_X4_selvesOf_12 a1) z_F (1, 0, 0, r1) (fun t12 => some (t12.1, t12.2)))
set_option maxRecDepth 20000 in
set_option maxHeartbeats 4000000 in
theorem wb_X4_selvesOf_12 {p : Program} {l : Launch} {e : Env} {R : Room} {s : State} {m : MethodId} {args : Array Value} {below : List Frame} {meth : Method} {c : Code} {g : z_G} {u : z_M} {res : Int32 × z_M} (hR : R = z_rm 21) (X : z_X p R s m args meth c cX4_selvesOf 6 RX4 wsX4_selvesOf (some .int) g z_shC) (x1 : Nat) (ex1 : z_PO x1) (q : Int32 × Int32 × Int32 × z_M) (kb : (Int32 × Int32 × Int32 × z_M) → Option (Int32 × z_M)) (kx : (Int32 × z_M) → Option (Int32 × z_M)) (hkb : ∀ q, kb q = some res → z_V p l e R s m args below meth c 6 g z_shC (MQ below (z_Qc g z_shC (fun v u' => v = some (.int res.1) ∧ u' = res.2)) args s 0 0 (z_A g z_shC)) 12 [(0, .ref (z_ad g 138)), (1, .ref (z_ad g x1)), (2, .int q.1), (3, .int q.2.1), (4, .int q.2.2.1)] [] q.2.2.2) (hkx : ∀ t, kx t = some res → z_V p l e R s m args below meth c 6 g z_shC (MQ below (z_Qc g z_shC (fun v u' => v = some (.int res.1) ∧ u' = res.2)) args s 0 0 (z_A g z_shC)) 70 [(2, .int t.1)] [] t.2) (h : b_X4_selvesOf_12 x1 q kb kx = some res) : z_V p l e R s m args below meth c 6 g z_shC (MQ below (z_Qc g z_shC (fun v u' => v = some (.int res.1) ∧ u' = res.2)) args s 0 0 (z_A g z_shC)) 12 [(0, .ref (z_ad g 138)), (1, .ref (z_ad g x1)), (2, .int q.1), (3, .int q.2.1), (4, .int q.2.2.1)] [] q.2.2.2 := by
  unfold b_X4_selvesOf_12 at h
  refine z_iload X 4 dX4_selvesOf_12 rfl (z_aload_n X 0 dX4_selvesOf_14 rfl rfl (z_getI X (k0 := 2) z_c138 rfl in_X4_selvesOf_X4 (by decide) rfl rfl lk_X4_selvesOf_22 dX4_selvesOf_15 (z_icmp_ge X 70 dX4_selvesOf_18 (by decide) (fun c2 => ?_) (fun c2 => ?_))))
  · replace h := z_ip c2 h
    refine z_sub [2] [(2, .int q.1)] rfl ?_
    exact hkx (q.1, q.2.2.2) h
  · replace h := z_in c2 h
    refine z_iload X 4 dX4_selvesOf_21 rfl (z_bipush X (v := 9) dX4_selvesOf_23 (by decide) (z_icmp_ge X 70 dX4_selvesOf_25 (by decide) (fun c3 => ?_) (fun c3 => ?_)))
    · replace h := z_ip c3 h
      refine z_sub [2] [(2, .int q.1)] rfl ?_
      exact hkx (q.1, q.2.2.2) h
    · replace h := z_in c3 h
      obtain ⟨b4, h⟩ := z_gs h
      obtain ⟨v5, ev5, h⟩ := z_ls h
      obtain ⟨r6, u7, er6, h⟩ := z_b2s h
      obtain ⟨v8, ev8, h⟩ := z_ls h
      obtain ⟨b9, h⟩ := z_gs h
      obtain ⟨u10, eu10, h⟩ := z_ls h
      obtain ⟨v11, ev11, h⟩ := z_ls h
      refine z_aload_n X 0 dX4_selvesOf_28 rfl rfl (z_getR X (k0 := 1) z_c138 rfl in_X4_selvesOf_X4 (by decide) rfl rfl lk_X4_selvesOf_15 dX4_selvesOf_29 (z_iload X 4 dX4_selvesOf_32 rfl (z_iald X z_c140 (z_inS b4) dX4_selvesOf_34 (z_ti ev5 (z_istore X [(5, .int v5), (0, .ref (z_ad g 138)), (1, .ref (z_ad g x1)), (2, .int q.1), (3, .int q.2.1), (4, .int q.2.2.1)] dX4_selvesOf_35 (by decide) rfl (z_iload_n X 3 dX4_selvesOf_37 rfl rfl (z_aload_n X 1 dX4_selvesOf_38 rfl rfl (z_aload_n X 2 dX4_selvesOf_39 rfl rfl (z_iload X 5 dX4_selvesOf_40 rfl (z_iload_n X 4 dX4_selvesOf_42 rfl rfl (z_callVi X (r := r6) (u1 := u7) [.ref (z_ad g x1), .int q.2.2.1, .int q.2.1] [.int q.1] (w_X4_placesFor l g x1 q.2.2.1 q.2.1 ex1 q.2.2.2 er6) z_c138 rfl gX4_selvesOf_X4_placesFor hy_X4_placesFor rfl (z_le1 hR (by decide)) (z_le2 hR (by decide) (by decide)) (Nat.le_of_ble_eq_true rfl) dX4_selvesOf_43 (z_imul X dX4_selvesOf_46 (z_ti ev8 (z_istore_n X [(2, .int v8), (5, .int v5), (0, .ref (z_ad g 138)), (1, .ref (z_ad g x1)), (3, .int q.2.1), (4, .int q.2.2.1)] dX4_selvesOf_47 rfl (by decide) rfl (z_aload_n X 2 dX4_selvesOf_48 rfl rfl (z_getR X (k0 := 0) z_c138 rfl in_X4_selvesOf_X4 (by decide) rfl rfl lk_X4_selvesOf_9 dX4_selvesOf_49 (z_iload X 5 dX4_selvesOf_52 rfl (z_iload X 1 dX4_selvesOf_54 rfl (z_iast X z_c139 (z_inS b9) dX4_selvesOf_56 (z_nm eu10 (z_iload_n X 4 dX4_selvesOf_57 rfl rfl (z_iconst X (v := 1) dX4_selvesOf_58 (by decide) (z_iload X 1 dX4_selvesOf_59 rfl (z_ishl X dX4_selvesOf_61 (z_ior X dX4_selvesOf_62 (z_ti ev11 (z_istore_n X [(3, .int v11), (2, .int v8), (5, .int v5), (0, .ref (z_ad g 138)), (1, .ref (z_ad g x1)), (4, .int q.2.2.1)] dX4_selvesOf_63 rfl (by decide) rfl (z_iinc X (v := q.2.2.1 + 1) 5 [(4, .int (q.2.2.1 + 1)), (3, .int v11), (2, .int v8), (5, .int v5), (0, .ref (z_ad g 138)), (1, .ref (z_ad g x1))] dX4_selvesOf_64 rfl rfl (by decide) rfl (z_goto X 12 dX4_selvesOf_67 (by decide) (z_sub [4, 5, 2, 1, 0] [(0, .ref (z_ad g 138)), (1, .ref (z_ad g x1)), (2, .int v8), (3, .int v11), (4, .int (q.2.2.1 + 1))] rfl ?_))))))))))))))))))))))))))))))
      exact hkb (v8, v11, q.2.2.1 + 1, u10) h
set_option maxRecDepth 20000 in
set_option maxHeartbeats 4000000 in
theorem w_X4_selvesOf (l : Launch) (g : z_G) (a1 : Nat) (ea1 : z_PO a1) (u : z_M) {res : Int32 × z_M} (h : f_X4_selvesOf a1 u = some res) : z_C l g z_shC yX4_selvesOf wsX4_selvesOf 21 [.ref (z_ad g 138), .ref (z_ad g a1)] u (fun v u' => v = some (.int res.1) ∧ u' = res.2) := by
  refine z_C.mk (lv := [(0, .ref (z_ad g 138)), (1, .ref (z_ad g a1))]) (cc := cX4_selvesOf) (nL := 6) (rt := (some .int)) rfl (by decide) (Nat.le_of_ble_eq_true rfl) rfl (fun p e R s m args below meth c hR X => ?_)
  unfold f_X4_selvesOf at h
  obtain ⟨r1, er1, h⟩ := z_bs h
  refine z_aload_n X 0 dX4_selvesOf_0 rfl rfl (z_aload_n X 1 dX4_selvesOf_1 rfl rfl (z_callVv X (u1 := r1) [.ref (z_ad g a1)] [] (w_X4_lineUp l g a1 ea1 u er1) z_c138 rfl gX4_selvesOf_X4_lineUp hy_X4_lineUp rfl (z_le1 hR (by decide)) (z_le2 hR (by decide) (by decide)) (Nat.le_of_ble_eq_true rfl) dX4_selvesOf_2 (z_iconst X (v := 1) dX4_selvesOf_5 (by decide) (z_istore_n X [(2, .int 1), (0, .ref (z_ad g 138)), (1, .ref (z_ad g a1))] dX4_selvesOf_6 rfl (by decide) rfl (z_iconst X (v := 0) dX4_selvesOf_7 (by decide) (z_istore_n X [(3, .int 0), (2, .int 1), (0, .ref (z_ad g 138)), (1, .ref (z_ad g a1))] dX4_selvesOf_8 rfl (by decide) rfl (z_iconst X (v := 0) dX4_selvesOf_9 (by decide) (z_istore X [(4, .int 0), (3, .int 0), (2, .int 1), (0, .ref (z_ad g 138)), (1, .ref (z_ad g a1))] dX4_selvesOf_10 (by decide) rfl (z_sub [3, 4, 2, 1, 0] [(0, .ref (z_ad g 138)), (1, .ref (z_ad g a1)), (2, .int 1), (3, .int 0), (4, .int 0)] rfl ?_)))))))))
  have hw := z_lp_w (fun q9 kb9 kx9 h1 h2 h3 => wb_X4_selvesOf_12 (l := l) (e := e) (below := below) (u := r1) hR X a1 ea1 q9 kb9 kx9 h1 h2 h3) z_F _ _ h
  refine hw (fun t12 h => ?_)
  refine z_iload_n X 0 dX4_selvesOf_70 rfl rfl ?_
  cases h; exact z_iret X rfl dX4_selvesOf_71 ⟨rfl, rfl⟩
