theorem lk_X10_pointHere_15 : (Cond.fieldLink RX10 15 RX10 (TX10 2).2.1 (TX10 2).2.2.1) ∈ wsX10_pointHere := by decide +kernel
theorem in_X10_pointHere_X10 : ∀ w ∈ u_ws RX10 TX10 30, w ∈ wsX10_pointHere := fun _ h => List.mem_cons_of_mem _ (List.mem_append_right _ h)
theorem hy_X10_number : yX10_number.cls = RX10 ∧ yX10_number.cls ≠ "java/lang/invoke/MethodHandle" ∧ yX10_number.cls ≠ "java/lang/invoke/VarHandle" ∧ (parseMethodDescriptor yX10_number.desc).map (fun d => d.parameters.length) = some 2 := by decide +kernel
def f_X10_pointHere (u : z_M) : Option (Int32 × z_M) :=
  z_gd (z_inb 0 93) (z_b2 (f_X10_number 0 ((z_gI u 2 (0 : Int32).toNatClampNeg) - 1) u) (fun r2 u3 => some (r2, u3)))
set_option maxRecDepth 20000 in
set_option maxHeartbeats 4000000 in
theorem w_X10_pointHere (l : Launch) (g : z_G)  (u : z_M) {res : Int32 × z_M} (h : f_X10_pointHere u = some res) : z_C l g z_shR yX10_pointHere wsX10_pointHere 3 [.ref (z_ad g 0)] u (fun v u' => v = some (.int res.1) ∧ u' = res.2) := by
  refine z_C.mk (lv := [(0, .ref (z_ad g 0))]) (cc := cX10_pointHere) (nL := 1) (rt := (some .int)) rfl (by decide) (Nat.le_of_ble_eq_true rfl) rfl (fun p e R s m args below meth c hR X => ?_)
  unfold f_X10_pointHere at h
  obtain ⟨b1, h⟩ := z_gs h
  obtain ⟨r2, u3, er2, h⟩ := z_b2s h
  refine z_aload_n X 0 dX10_pointHere_0 rfl rfl (z_iconst X (v := 0) dX10_pointHere_1 (by decide) (z_aload_n X 0 dX10_pointHere_2 rfl rfl (z_getR X (k0 := 2) z_r0 rfl in_X10_pointHere_X10 (by decide) rfl rfl lk_X10_pointHere_15 dX10_pointHere_3 (z_iconst X (v := 0) dX10_pointHere_6 (by decide) (z_iald X z_r2 (z_inS b1) dX10_pointHere_7 (z_iconst X (v := 1) dX10_pointHere_8 (by decide) (z_isub X dX10_pointHere_9 (z_callVi X (r := r2) (u1 := u3) [.int 0, .int ((z_gI u 2 (0 : Int32).toNatClampNeg) - 1)] [] (w_X10_number l g 0 ((z_gI u 2 (0 : Int32).toNatClampNeg) - 1) u er2) z_r0 rfl gX10_pointHere_X10_number hy_X10_number rfl (z_le1 hR (by decide)) (z_le2 hR (by decide) (by decide)) (Nat.le_of_ble_eq_true rfl) dX10_pointHere_10 ?_))))))))
  cases h; exact z_iret X rfl dX10_pointHere_13 ⟨rfl, rfl⟩

def j_X10_relates_j25 (x0 nx0 : Nat) (x1 : Int32) (x2 : Int32) (x3 : Int32) (w : z_M) (kb : (Int32 × z_M) → Option (z_M)) (kx : z_M → Option (z_M)) : Option (z_M) :=
  z_gd (z_inb (3 + x3) nx0) (z_gd (z_inb (3 + x2) nx0) (z_gd (z_inb (3 + x3) nx0) (z_lt (z_sI w x0 (3 + x3).toNatClampNeg ((z_gI w x0 (3 + x3).toNatClampNeg) ||| ((1 <<< (x2 &&& 31)) ||| (z_gI w x0 (3 + x2).toNatClampNeg)))) (fun u6 => kb (x3 + 1, u6)))))
def b_X10_relates_2 (x0 nx0 : Nat) (x1 : Int32) (x2 : Int32) : (Int32 × z_M) → ((Int32 × z_M) → Option (z_M)) → (z_M → Option (z_M)) → Option (z_M) := fun q kb kx =>
  if 9 ≤ q.1 then (kx q.2) else (if q.1 = x1 then (j_X10_relates_j25 x0 nx0 x1 x2 q.1 q.2 kb kx) else (z_gd (z_inb (3 + q.1) nx0) (Option.bind (f_X10_has (z_gI q.2 x0 (3 + q.1).toNatClampNeg) x1) (fun r8 => if r8 = 0 then (kb (q.1 + 1, q.2)) else (j_X10_relates_j25 x0 nx0 x1 x2 q.1 q.2 kb kx)))))
def f_X10_relates (a1 na1 : Nat) (a2 : Int32) (a3 : Int32) (u : z_M) : Option (z_M) :=
  z_lp (b_X10_relates_2 a1 na1 a2 a3) z_F (0, u) (fun t10 => some t10)
set_option maxRecDepth 20000 in
set_option maxHeartbeats 4000000 in
theorem wj_X10_relates_j25 {p : Program} {l : Launch} {e : Env} {R : Room} {s : State} {m : MethodId} {args : Array Value} {below : List Frame} {meth : Method} {c : Code} {g : z_G} {u : z_M} {res : z_M} (hR : R = z_rm 2) (X : z_X p R s m args meth c cX10_relates 4 RX10 wsX10_relates none g z_shR) (x0 nx0 : Nat) (x1 : Int32) (x2 : Int32) (ex0 : z_shR[x0]? = some (.inl (0, nx0, none))) (x3 : Int32) (w : z_M) (kb : (Int32 × z_M) → Option (z_M)) (kx : z_M → Option (z_M)) (hkb : ∀ q, kb q = some res → z_V p l e R s m args below meth c 4 g z_shR (MQ below (z_Qc g z_shR (fun v u' => v = none ∧ u' = res)) args s 0 0 (z_A g z_shR)) 2 [(0, .ref (z_ad g x0)), (1, .int x1), (2, .int x2), (3, .int q.1)] [] q.2) (hkx : ∀ t, kx t = some res → z_V p l e R s m args below meth c 4 g z_shR (MQ below (z_Qc g z_shR (fun v u' => v = none ∧ u' = res)) args s 0 0 (z_A g z_shR)) 48 [] [] t) (h : j_X10_relates_j25 x0 nx0 x1 x2 x3 w kb kx = some res) : z_V p l e R s m args below meth c 4 g z_shR (MQ below (z_Qc g z_shR (fun v u' => v = none ∧ u' = res)) args s 0 0 (z_A g z_shR)) 25 [(0, .ref (z_ad g x0)), (1, .int x1), (2, .int x2), (3, .int x3)] [] w := by
  unfold j_X10_relates_j25 at h
  obtain ⟨b3, h⟩ := z_gs h
  obtain ⟨b4, h⟩ := z_gs h
  obtain ⟨b5, h⟩ := z_gs h
  obtain ⟨u6, eu6, h⟩ := z_ls h
  refine z_aload_n X 0 dX10_relates_25 rfl rfl (z_iconst X (v := 3) dX10_relates_26 (by decide) (z_iload_n X 3 dX10_relates_27 rfl rfl (z_iadd X dX10_relates_28 (z_dup2 X dX10_relates_29 rfl rfl (z_iald X ex0 (z_inS b3) dX10_relates_30 (z_iconst X (v := 1) dX10_relates_31 (by decide) (z_iload_n X 2 dX10_relates_32 rfl rfl (z_ishl X dX10_relates_33 (z_aload_n X 0 dX10_relates_34 rfl rfl (z_iconst X (v := 3) dX10_relates_35 (by decide) (z_iload_n X 2 dX10_relates_36 rfl rfl (z_iadd X dX10_relates_37 (z_iald X ex0 (z_inS b4) dX10_relates_38 (z_ior X dX10_relates_39 (z_ior X dX10_relates_40 (z_iast X ex0 (z_inS b5) dX10_relates_41 (z_nm eu6 (z_iinc X (v := x3 + 1) 3 [(3, .int (x3 + 1)), (0, .ref (z_ad g x0)), (1, .int x1), (2, .int x2)] dX10_relates_42 rfl rfl (by decide) rfl (z_goto X 2 dX10_relates_45 (by decide) (z_sub [1, 2, 3, 0] [(0, .ref (z_ad g x0)), (1, .int x1), (2, .int x2), (3, .int (x3 + 1))] rfl ?_))))))))))))))))))))
  exact hkb (x3 + 1, u6) h
set_option maxRecDepth 20000 in
set_option maxHeartbeats 4000000 in
theorem wb_X10_relates_2 {p : Program} {l : Launch} {e : Env} {R : Room} {s : State} {m : MethodId} {args : Array Value} {below : List Frame} {meth : Method} {c : Code} {g : z_G} {u : z_M} {res : z_M} (hR : R = z_rm 2) (X : z_X p R s m args meth c cX10_relates 4 RX10 wsX10_relates none g z_shR) (x0 nx0 : Nat) (x1 : Int32) (x2 : Int32) (ex0 : z_shR[x0]? = some (.inl (0, nx0, none))) (q : Int32 × z_M) (kb : (Int32 × z_M) → Option (z_M)) (kx : z_M → Option (z_M)) (hkb : ∀ q, kb q = some res → z_V p l e R s m args below meth c 4 g z_shR (MQ below (z_Qc g z_shR (fun v u' => v = none ∧ u' = res)) args s 0 0 (z_A g z_shR)) 2 [(0, .ref (z_ad g x0)), (1, .int x1), (2, .int x2), (3, .int q.1)] [] q.2) (hkx : ∀ t, kx t = some res → z_V p l e R s m args below meth c 4 g z_shR (MQ below (z_Qc g z_shR (fun v u' => v = none ∧ u' = res)) args s 0 0 (z_A g z_shR)) 48 [] [] t) (h : b_X10_relates_2 x0 nx0 x1 x2 q kb kx = some res) : z_V p l e R s m args below meth c 4 g z_shR (MQ below (z_Qc g z_shR (fun v u' => v = none ∧ u' = res)) args s 0 0 (z_A g z_shR)) 2 [(0, .ref (z_ad g x0)), (1, .int x1), (2, .int x2), (3, .int q.1)] [] q.2 := by
  unfold b_X10_relates_2 at h
  refine z_iload_n X 3 dX10_relates_2 rfl rfl (z_bipush X (v := 9) dX10_relates_3 (by decide) (z_icmp_ge X 48 dX10_relates_5 (by decide) (fun c1 => ?_) (fun c1 => ?_)))
  · replace h := z_ip c1 h
    refine z_sub [] [] rfl ?_
    exact hkx q.2 h
  · replace h := z_in c1 h
    refine z_iload_n X 3 dX10_relates_8 rfl rfl (z_iload_n X 1 dX10_relates_9 rfl rfl (z_icmp_eq X 25 dX10_relates_10 (by decide) (fun c2 => ?_) (fun c2 => ?_)))
    · replace h := z_ip c2 h
      exact wj_X10_relates_j25 (u := q.2) hR X x0 nx0 x1 x2 ex0 q.1 q.2 kb kx hkb hkx h
    · replace h := z_in c2 h
      obtain ⟨b7, h⟩ := z_gs h
      obtain ⟨r8, er8, h⟩ := z_bs h
      refine z_aload_n X 0 dX10_relates_13 rfl rfl (z_iconst X (v := 3) dX10_relates_14 (by decide) (z_iload_n X 3 dX10_relates_15 rfl rfl (z_iadd X dX10_relates_16 (z_iald X ex0 (z_inS b7) dX10_relates_17 (z_iload_n X 1 dX10_relates_18 rfl rfl (z_callSi X (r := r8) (u1 := q.2) [.int (z_gI q.2 x0 (3 + q.1).toNatClampNeg), .int x1] [] (w_X10_has l g (z_gI q.2 x0 (3 + q.1).toNatClampNeg) x1 q.2 er8) gX10_relates_X10_has hy_X10_has.2 rfl (z_le1 hR (by decide)) (z_le2 hR (by decide) (by decide)) (Nat.le_of_ble_eq_true rfl) dX10_relates_19 (z_if_eq X 42 dX10_relates_22 (by decide) (fun c9 => ?_) (fun c9 => ?_))))))))
      · replace h := z_ip c9 h
        refine z_iinc X (v := q.1 + 1) 3 [(3, .int (q.1 + 1)), (0, .ref (z_ad g x0)), (1, .int x1), (2, .int x2)] dX10_relates_42 rfl rfl (by decide) rfl (z_goto X 2 dX10_relates_45 (by decide) (z_sub [1, 2, 3, 0] [(0, .ref (z_ad g x0)), (1, .int x1), (2, .int x2), (3, .int (q.1 + 1))] rfl ?_))
        exact hkb (q.1 + 1, q.2) h
      · replace h := z_in c9 h
        exact wj_X10_relates_j25 (u := q.2) hR X x0 nx0 x1 x2 ex0 q.1 q.2 kb kx hkb hkx h
set_option maxRecDepth 20000 in
set_option maxHeartbeats 4000000 in
theorem w_X10_relates (l : Launch) (g : z_G) (a1 na1 : Nat) (a2 : Int32) (a3 : Int32) (ea1 : z_shR[a1]? = some (.inl (0, na1, none))) (u : z_M) {res : z_M} (h : f_X10_relates a1 na1 a2 a3 u = some res) : z_C l g z_shR yX10_relates wsX10_relates 2 [.ref (z_ad g a1), .int a2, .int a3] u (fun v u' => v = none ∧ u' = res) := by
  refine z_C.mk (lv := [(0, .ref (z_ad g a1)), (1, .int a2), (2, .int a3)]) (cc := cX10_relates) (nL := 4) (rt := none) rfl (by decide) (Nat.le_of_ble_eq_true rfl) rfl (fun p e R s m args below meth c hR X => ?_)
  unfold f_X10_relates at h
  refine z_iconst X (v := 0) dX10_relates_0 (by decide) (z_istore_n X [(3, .int 0), (0, .ref (z_ad g a1)), (1, .int a2), (2, .int a3)] dX10_relates_1 rfl (by decide) rfl (z_sub [1, 2, 3, 0] [(0, .ref (z_ad g a1)), (1, .int a2), (2, .int a3), (3, .int 0)] rfl ?_))
  have hw := z_lp_w (fun q9 kb9 kx9 h1 h2 h3 => wb_X10_relates_2 (l := l) (e := e) (below := below) (u := u) hR X a1 na1 a2 a3 ea1 q9 kb9 kx9 h1 h2 h3) z_F _ _ h
  refine hw (fun t10 h => ?_)
  cases h; exact z_vret X rfl dX10_relates_48 ⟨rfl, rfl⟩

theorem lk_X10_readRow_126 : (Cond.fieldLink RX10 126 RX10 (TX10 9).2.1 (TX10 9).2.2.1) ∈ wsX10_readRow := by decide +kernel
theorem in_X10_readRow_X10 : ∀ w ∈ u_ws RX10 TX10 30, w ∈ wsX10_readRow := fun _ h => List.mem_cons_of_mem _ (List.mem_append_right _ h)
theorem lk_X10_readRow_122 : (Cond.fieldLink RX10 122 RX10 (TX10 12).2.1 (TX10 12).2.2.1) ∈ wsX10_readRow := by decide +kernel
theorem lk_X10_readRow_15 : (Cond.fieldLink RX10 15 RX10 (TX10 2).2.1 (TX10 2).2.2.1) ∈ wsX10_readRow := by decide +kernel
theorem hy_X10_pointHere : yX10_pointHere.cls = RX10 ∧ yX10_pointHere.cls ≠ "java/lang/invoke/MethodHandle" ∧ yX10_pointHere.cls ≠ "java/lang/invoke/VarHandle" ∧ (parseMethodDescriptor yX10_pointHere.desc).map (fun d => d.parameters.length) = some 0 := by decide +kernel
theorem hy_X10_relates : yX10_relates.cls = RX10 ∧ yX10_relates.cls ≠ "java/lang/invoke/MethodHandle" ∧ yX10_relates.cls ≠ "java/lang/invoke/VarHandle" ∧ (parseMethodDescriptor yX10_relates.desc).map (fun d => d.parameters.length) = some 3 := by decide +kernel
theorem hy_X10_takes : yX10_takes.cls = RX10 ∧ yX10_takes.cls ≠ "java/lang/invoke/MethodHandle" ∧ yX10_takes.cls ≠ "java/lang/invoke/VarHandle" ∧ (parseMethodDescriptor yX10_takes.desc).map (fun d => d.parameters.length) = some 1 := by decide +kernel
def j_X10_readRow_j93 (x1 : Int32) (x2 : Int32) (x3 : Int32) (x5 : Int32) (w : z_M) (kb : (Int32 × Int32 × Int32 × z_M) → Option (z_M)) (kx : z_M → Option (z_M)) : Option (z_M) :=
  if (z_gI w 0 12) = 0 then (kb (x5, x2, x3 + 1, w)) else (Option.bind (f_X10_relates 2 93 x1 x5 w) (fun r16 => kb (x5, x2, x3 + 1, r16)))
def j_X10_readRow_j86 (x1 : Int32) (x2 : Int32) (x3 : Int32) (x4 : Int32) (x5 : Int32) (w : z_M) (kb : (Int32 × Int32 × Int32 × z_M) → Option (z_M)) (kx : z_M → Option (z_M)) : Option (z_M) :=
  Option.bind (f_X10_wrong 4 x4 w) (fun r18 => j_X10_readRow_j93 x1 x2 x3 x5 r18 kb kx)
def b_X10_readRow_9  : (Int32 × Int32 × Int32 × z_M) → ((Int32 × Int32 × Int32 × z_M) → Option (z_M)) → (z_M → Option (z_M)) → Option (z_M) := fun q kb kx =>
  if q.2.1 = 0 then (kx q.2.2.2) else (z_b2 (f_X10_takes 60 q.2.2.2) (fun r4 u5 => if r4 = 0 then (if q.2.2.1 = 0 then (Option.bind (f_X10_wrong 1 (z_gI u5 0 9) u5) (fun r8 => kb (q.1, 0, q.2.2.1, r8))) else (kb (q.1, 0, q.2.2.1, u5))) else (z_b2 (f_X10_next u5) (fun r9 u10 => z_lt (z_gI u10 0 9) (fun v11 => z_b2 (f_X10_pointHere u10) (fun r12 u13 => if (z_gI u13 0 12) = 0 then (j_X10_readRow_j93 q.1 q.2.1 q.2.2.1 r12 u13 kb kx) else (if q.1 = r12 then (j_X10_readRow_j86 q.1 q.2.1 q.2.2.1 v11 r12 u13 kb kx) else (z_gd (z_inb (3 + r12) 93) (Option.bind (f_X10_has (z_gI u13 2 (3 + r12).toNatClampNeg) q.1) (fun r20 => if r20 = 0 then (j_X10_readRow_j93 q.1 q.2.1 q.2.2.1 r12 u13 kb kx) else (j_X10_readRow_j86 q.1 q.2.1 q.2.2.1 v11 r12 u13 kb kx)))))))))))
def f_X10_readRow (u : z_M) : Option (z_M) :=
  z_b2 (f_X10_pointHere u) (fun r1 u2 => z_lp b_X10_readRow_9 z_F (r1, 1, 0, u2) (fun t22 => some t22))
set_option maxRecDepth 20000 in
set_option maxHeartbeats 4000000 in
theorem wj_X10_readRow_j93 {p : Program} {l : Launch} {e : Env} {R : Room} {s : State} {m : MethodId} {args : Array Value} {below : List Frame} {meth : Method} {c : Code} {g : z_G} {u : z_M} {res : z_M} (hR : R = z_rm 4) (X : z_X p R s m args meth c cX10_readRow 6 RX10 wsX10_readRow none g z_shR) (x1 : Int32) (x2 : Int32) (x3 : Int32) (x5 : Int32) (w : z_M) (kb : (Int32 × Int32 × Int32 × z_M) → Option (z_M)) (kx : z_M → Option (z_M)) (hkb : ∀ q, kb q = some res → z_V p l e R s m args below meth c 6 g z_shR (MQ below (z_Qc g z_shR (fun v u' => v = none ∧ u' = res)) args s 0 0 (z_A g z_shR)) 9 [(0, .ref (z_ad g 0)), (1, .int q.1), (2, .int q.2.1), (3, .int q.2.2.1)] [] q.2.2.2) (hkx : ∀ t, kx t = some res → z_V p l e R s m args below meth c 6 g z_shR (MQ below (z_Qc g z_shR (fun v u' => v = none ∧ u' = res)) args s 0 0 (z_A g z_shR)) 119 [] [] t) (h : j_X10_readRow_j93 x1 x2 x3 x5 w kb kx = some res) : z_V p l e R s m args below meth c 6 g z_shR (MQ below (z_Qc g z_shR (fun v u' => v = none ∧ u' = res)) args s 0 0 (z_A g z_shR)) 93 [(0, .ref (z_ad g 0)), (1, .int x1), (2, .int x2), (3, .int x3), (5, .int x5)] [] w := by
  unfold j_X10_readRow_j93 at h
  refine z_aload_n X 0 dX10_readRow_93 rfl rfl (z_getI X (k0 := 12) z_r0 rfl in_X10_readRow_X10 (by decide) rfl rfl lk_X10_readRow_122 dX10_readRow_94 (z_if_eq X 110 dX10_readRow_97 (by decide) (fun c15 => ?_) (fun c15 => ?_)))
  · replace h := z_ip c15 h
    refine z_iload X 4 dX10_readRow_110 rfl (z_istore_n X [(1, .int x5), (0, .ref (z_ad g 0)), (2, .int x2), (3, .int x3), (5, .int x5)] dX10_readRow_112 rfl (by decide) rfl (z_iinc X (v := x3 + 1) 3 [(3, .int (x3 + 1)), (1, .int x5), (0, .ref (z_ad g 0)), (2, .int x2), (5, .int x5)] dX10_readRow_113 rfl rfl (by decide) rfl (z_goto X 9 dX10_readRow_116 (by decide) (z_sub [2, 1, 3, 0] [(0, .ref (z_ad g 0)), (1, .int x5), (2, .int x2), (3, .int (x3 + 1))] rfl ?_))))
    exact hkb (x5, x2, x3 + 1, w) h
  · replace h := z_in c15 h
    obtain ⟨r16, er16, h⟩ := z_bs h
    refine z_aload_n X 0 dX10_readRow_100 rfl rfl (z_getR X (k0 := 2) z_r0 rfl in_X10_readRow_X10 (by decide) rfl rfl lk_X10_readRow_15 dX10_readRow_101 (z_iload_n X 1 dX10_readRow_104 rfl rfl (z_iload X 4 dX10_readRow_105 rfl (z_callSv X (u1 := r16) [.ref (z_ad g 2), .int x1, .int x5] [] (w_X10_relates l g 2 93 x1 x5 z_r2 w er16) gX10_readRow_X10_relates hy_X10_relates.2 rfl (z_le1 hR (by decide)) (z_le2 hR (by decide) (by decide)) (Nat.le_of_ble_eq_true rfl) dX10_readRow_107 (z_iload X 4 dX10_readRow_110 rfl (z_istore_n X [(1, .int x5), (0, .ref (z_ad g 0)), (2, .int x2), (3, .int x3), (5, .int x5)] dX10_readRow_112 rfl (by decide) rfl (z_iinc X (v := x3 + 1) 3 [(3, .int (x3 + 1)), (1, .int x5), (0, .ref (z_ad g 0)), (2, .int x2), (5, .int x5)] dX10_readRow_113 rfl rfl (by decide) rfl (z_goto X 9 dX10_readRow_116 (by decide) (z_sub [2, 1, 3, 0] [(0, .ref (z_ad g 0)), (1, .int x5), (2, .int x2), (3, .int (x3 + 1))] rfl ?_)))))))))
    exact hkb (x5, x2, x3 + 1, r16) h
set_option maxRecDepth 20000 in
set_option maxHeartbeats 4000000 in
theorem wj_X10_readRow_j86 {p : Program} {l : Launch} {e : Env} {R : Room} {s : State} {m : MethodId} {args : Array Value} {below : List Frame} {meth : Method} {c : Code} {g : z_G} {u : z_M} {res : z_M} (hR : R = z_rm 4) (X : z_X p R s m args meth c cX10_readRow 6 RX10 wsX10_readRow none g z_shR) (x1 : Int32) (x2 : Int32) (x3 : Int32) (x4 : Int32) (x5 : Int32) (w : z_M) (kb : (Int32 × Int32 × Int32 × z_M) → Option (z_M)) (kx : z_M → Option (z_M)) (hkb : ∀ q, kb q = some res → z_V p l e R s m args below meth c 6 g z_shR (MQ below (z_Qc g z_shR (fun v u' => v = none ∧ u' = res)) args s 0 0 (z_A g z_shR)) 9 [(0, .ref (z_ad g 0)), (1, .int q.1), (2, .int q.2.1), (3, .int q.2.2.1)] [] q.2.2.2) (hkx : ∀ t, kx t = some res → z_V p l e R s m args below meth c 6 g z_shR (MQ below (z_Qc g z_shR (fun v u' => v = none ∧ u' = res)) args s 0 0 (z_A g z_shR)) 119 [] [] t) (h : j_X10_readRow_j86 x1 x2 x3 x4 x5 w kb kx = some res) : z_V p l e R s m args below meth c 6 g z_shR (MQ below (z_Qc g z_shR (fun v u' => v = none ∧ u' = res)) args s 0 0 (z_A g z_shR)) 86 [(0, .ref (z_ad g 0)), (1, .int x1), (2, .int x2), (3, .int x3), (4, .int x4), (5, .int x5)] [] w := by
  unfold j_X10_readRow_j86 at h
  obtain ⟨r18, er18, h⟩ := z_bs h
  refine z_aload_n X 0 dX10_readRow_86 rfl rfl (z_iconst X (v := 4) dX10_readRow_87 (by decide) (z_iload X 4 dX10_readRow_88 rfl (z_callVv X (u1 := r18) [.int 4, .int x4] [] (w_X10_wrong l g 4 x4 w er18) z_r0 rfl gX10_readRow_X10_wrong hy_X10_wrong rfl (z_le1 hR (by decide)) (z_le2 hR (by decide) (by decide)) (Nat.le_of_ble_eq_true rfl) dX10_readRow_90 (z_sub [0, 1, 2, 3, 5] [(0, .ref (z_ad g 0)), (1, .int x1), (2, .int x2), (3, .int x3), (5, .int x5)] rfl ?_))))
  exact wj_X10_readRow_j93 (u := r18) hR X x1 x2 x3 x5 r18 kb kx hkb hkx h
set_option maxRecDepth 20000 in
set_option maxHeartbeats 4000000 in
theorem wb_X10_readRow_9 {p : Program} {l : Launch} {e : Env} {R : Room} {s : State} {m : MethodId} {args : Array Value} {below : List Frame} {meth : Method} {c : Code} {g : z_G} {u : z_M} {res : z_M} (hR : R = z_rm 4) (X : z_X p R s m args meth c cX10_readRow 6 RX10 wsX10_readRow none g z_shR)  (q : Int32 × Int32 × Int32 × z_M) (kb : (Int32 × Int32 × Int32 × z_M) → Option (z_M)) (kx : z_M → Option (z_M)) (hkb : ∀ q, kb q = some res → z_V p l e R s m args below meth c 6 g z_shR (MQ below (z_Qc g z_shR (fun v u' => v = none ∧ u' = res)) args s 0 0 (z_A g z_shR)) 9 [(0, .ref (z_ad g 0)), (1, .int q.1), (2, .int q.2.1), (3, .int q.2.2.1)] [] q.2.2.2) (hkx : ∀ t, kx t = some res → z_V p l e R s m args below meth c 6 g z_shR (MQ below (z_Qc g z_shR (fun v u' => v = none ∧ u' = res)) args s 0 0 (z_A g z_shR)) 119 [] [] t) (h : b_X10_readRow_9 q kb kx = some res) : z_V p l e R s m args below meth c 6 g z_shR (MQ below (z_Qc g z_shR (fun v u' => v = none ∧ u' = res)) args s 0 0 (z_A g z_shR)) 9 [(0, .ref (z_ad g 0)), (1, .int q.1), (2, .int q.2.1), (3, .int q.2.2.1)] [] q.2.2.2 := by
  unfold b_X10_readRow_9 at h
  refine z_iload_n X 2 dX10_readRow_9 rfl rfl (z_if_eq X 119 dX10_readRow_10 (by decide) (fun c3 => ?_) (fun c3 => ?_))
  · replace h := z_ip c3 h
    refine z_sub [] [] rfl ?_
    exact hkx q.2.2.2 h
  · replace h := z_in c3 h
    obtain ⟨r4, u5, er4, h⟩ := z_b2s h
    refine z_aload_n X 0 dX10_readRow_13 rfl rfl (z_bipush X (v := 60) dX10_readRow_14 (by decide) (z_callVi X (r := r4) (u1 := u5) [.int 60] [] (w_X10_takes l g 60 q.2.2.2 er4) z_r0 rfl gX10_readRow_X10_takes hy_X10_takes rfl (z_le1 hR (by decide)) (z_le2 hR (by decide) (by decide)) (Nat.le_of_ble_eq_true rfl) dX10_readRow_16 (z_if_ne X 40 dX10_readRow_19 (by decide) (fun c6 => ?_) (fun c6 => ?_))))
    · replace h := z_in c6 h
      obtain ⟨r9, u10, er9, h⟩ := z_b2s h
      obtain ⟨v11, ev11, h⟩ := z_ls h
      obtain ⟨r12, u13, er12, h⟩ := z_b2s h
      refine z_aload_n X 0 dX10_readRow_40 rfl rfl (z_callVi X (r := r9) (u1 := u10) [] [] (w_X10_next l g u5 er9) z_r0 rfl gX10_readRow_X10_next hy_X10_next rfl (z_le1 hR (by decide)) (z_le2 hR (by decide) (by decide)) (Nat.le_of_ble_eq_true rfl) dX10_readRow_41 (z_pop X dX10_readRow_44 rfl (z_aload_n X 0 dX10_readRow_45 rfl rfl (z_getI X (k0 := 9) z_r0 rfl in_X10_readRow_X10 (by decide) rfl rfl lk_X10_readRow_126 dX10_readRow_46 (z_ti ev11 (z_istore X [(4, .int v11), (0, .ref (z_ad g 0)), (1, .int q.1), (2, .int q.2.1), (3, .int q.2.2.1)] dX10_readRow_49 (by decide) rfl (z_aload_n X 1 dX10_readRow_51 rfl rfl (z_callVi X (r := r12) (u1 := u13) [] [] (w_X10_pointHere l g u10 er12) z_r0 rfl gX10_readRow_X10_pointHere hy_X10_pointHere rfl (z_le1 hR (by decide)) (z_le2 hR (by decide) (by decide)) (Nat.le_of_ble_eq_true rfl) dX10_readRow_52 (z_istore X [(5, .int r12), (4, .int v11), (0, .ref (z_ad g 0)), (1, .int q.1), (2, .int q.2.1), (3, .int q.2.2.1)] dX10_readRow_55 (by decide) rfl (z_aload_n X 2 dX10_readRow_57 rfl rfl (z_getI X (k0 := 12) z_r0 rfl in_X10_readRow_X10 (by decide) rfl rfl lk_X10_readRow_122 dX10_readRow_58 (z_if_eq X 93 dX10_readRow_61 (by decide) (fun c14 => ?_) (fun c14 => ?_)))))))))))))
      · replace h := z_ip c14 h
        refine z_sub [2, 3, 4, 5, 0] [(0, .ref (z_ad g 0)), (1, .int q.1), (2, .int q.2.1), (3, .int q.2.2.1), (5, .int r12)] rfl ?_
        exact wj_X10_readRow_j93 (u := u13) hR X q.1 q.2.1 q.2.2.1 r12 u13 kb kx hkb hkx h
      · replace h := z_in c14 h
        refine z_iload_n X 3 dX10_readRow_64 rfl rfl (z_iload X 0 dX10_readRow_65 rfl (z_icmp_eq X 86 dX10_readRow_67 (by decide) (fun c17 => ?_) (fun c17 => ?_)))
        · replace h := z_ip c17 h
          refine z_sub [2, 3, 4, 5, 1, 0] [(0, .ref (z_ad g 0)), (1, .int q.1), (2, .int q.2.1), (3, .int q.2.2.1), (4, .int v11), (5, .int r12)] rfl ?_
          exact wj_X10_readRow_j86 (u := u13) hR X q.1 q.2.1 q.2.2.1 v11 r12 u13 kb kx hkb hkx h
        · replace h := z_in c17 h
          obtain ⟨b19, h⟩ := z_gs h
          obtain ⟨r20, er20, h⟩ := z_bs h
          refine z_aload_n X 2 dX10_readRow_70 rfl rfl (z_getR X (k0 := 2) z_r0 rfl in_X10_readRow_X10 (by decide) rfl rfl lk_X10_readRow_15 dX10_readRow_71 (z_iconst X (v := 3) dX10_readRow_74 (by decide) (z_iload X 0 dX10_readRow_75 rfl (z_iadd X dX10_readRow_77 (z_iald X z_r2 (z_inS b19) dX10_readRow_78 (z_iload_n X 3 dX10_readRow_79 rfl rfl (z_callSi X (r := r20) (u1 := u13) [.int (z_gI u13 2 (3 + r12).toNatClampNeg), .int q.1] [] (w_X10_has l g (z_gI u13 2 (3 + r12).toNatClampNeg) q.1 u13 er20) gX10_readRow_X10_has hy_X10_has.2 rfl (z_le1 hR (by decide)) (z_le2 hR (by decide) (by decide)) (Nat.le_of_ble_eq_true rfl) dX10_readRow_80 (z_if_eq X 93 dX10_readRow_83 (by decide) (fun c21 => ?_) (fun c21 => ?_)))))))))
          · replace h := z_ip c21 h
            refine z_sub [2, 3, 4, 5, 0] [(0, .ref (z_ad g 0)), (1, .int q.1), (2, .int q.2.1), (3, .int q.2.2.1), (5, .int r12)] rfl ?_
            exact wj_X10_readRow_j93 (u := u13) hR X q.1 q.2.1 q.2.2.1 r12 u13 kb kx hkb hkx h
          · replace h := z_in c21 h
            refine z_sub [2, 3, 4, 5, 1, 0] [(0, .ref (z_ad g 0)), (1, .int q.1), (2, .int q.2.1), (3, .int q.2.2.1), (4, .int v11), (5, .int r12)] rfl ?_
            exact wj_X10_readRow_j86 (u := u13) hR X q.1 q.2.1 q.2.2.1 v11 r12 u13 kb kx hkb hkx h
    · replace h := z_ip c6 h
      refine z_iload_n X 3 dX10_readRow_22 rfl rfl (z_if_ne X 35 dX10_readRow_23 (by decide) (fun c7 => ?_) (fun c7 => ?_))
      · replace h := z_in c7 h
        refine z_iconst X (v := 0) dX10_readRow_35 (by decide) (z_istore_n X [(2, .int 0), (0, .ref (z_ad g 0)), (1, .int q.1), (3, .int q.2.2.1)] dX10_readRow_36 rfl (by decide) rfl (z_goto X 9 dX10_readRow_37 (by decide) (z_sub [1, 2, 0, 3] [(0, .ref (z_ad g 0)), (1, .int q.1), (2, .int 0), (3, .int q.2.2.1)] rfl ?_)))
        exact hkb (q.1, 0, q.2.2.1, u5) h
      · replace h := z_ip c7 h
        obtain ⟨r8, er8, h⟩ := z_bs h
        refine z_aload_n X 0 dX10_readRow_26 rfl rfl (z_iconst X (v := 1) dX10_readRow_27 (by decide) (z_aload_n X 0 dX10_readRow_28 rfl rfl (z_getI X (k0 := 9) z_r0 rfl in_X10_readRow_X10 (by decide) rfl rfl lk_X10_readRow_126 dX10_readRow_29 (z_callVv X (u1 := r8) [.int 1, .int (z_gI u5 0 9)] [] (w_X10_wrong l g 1 (z_gI u5 0 9) u5 er8) z_r0 rfl gX10_readRow_X10_wrong hy_X10_wrong rfl (z_le1 hR (by decide)) (z_le2 hR (by decide) (by decide)) (Nat.le_of_ble_eq_true rfl) dX10_readRow_32 (z_iconst X (v := 0) dX10_readRow_35 (by decide) (z_istore_n X [(2, .int 0), (0, .ref (z_ad g 0)), (1, .int q.1), (3, .int q.2.2.1)] dX10_readRow_36 rfl (by decide) rfl (z_goto X 9 dX10_readRow_37 (by decide) (z_sub [1, 2, 0, 3] [(0, .ref (z_ad g 0)), (1, .int q.1), (2, .int 0), (3, .int q.2.2.1)] rfl ?_))))))))
        exact hkb (q.1, 0, q.2.2.1, r8) h
set_option maxRecDepth 20000 in
set_option maxHeartbeats 4000000 in
theorem w_X10_readRow (l : Launch) (g : z_G)  (u : z_M) {res : z_M} (h : f_X10_readRow u = some res) : z_C l g z_shR yX10_readRow wsX10_readRow 4 [.ref (z_ad g 0)] u (fun v u' => v = none ∧ u' = res) := by
  refine z_C.mk (lv := [(0, .ref (z_ad g 0))]) (cc := cX10_readRow) (nL := 6) (rt := none) rfl (by decide) (Nat.le_of_ble_eq_true rfl) rfl (fun p e R s m args below meth c hR X => ?_)
  unfold f_X10_readRow at h
  obtain ⟨r1, u2, er1, h⟩ := z_b2s h
  refine z_aload_n X 0 dX10_readRow_0 rfl rfl (z_callVi X (r := r1) (u1 := u2) [] [] (w_X10_pointHere l g u er1) z_r0 rfl gX10_readRow_X10_pointHere hy_X10_pointHere rfl (z_le1 hR (by decide)) (z_le2 hR (by decide) (by decide)) (Nat.le_of_ble_eq_true rfl) dX10_readRow_1 (z_istore_n X [(1, .int r1), (0, .ref (z_ad g 0))] dX10_readRow_4 rfl (by decide) rfl (z_iconst X (v := 1) dX10_readRow_5 (by decide) (z_istore_n X [(2, .int 1), (1, .int r1), (0, .ref (z_ad g 0))] dX10_readRow_6 rfl (by decide) rfl (z_iconst X (v := 0) dX10_readRow_7 (by decide) (z_istore_n X [(3, .int 0), (2, .int 1), (1, .int r1), (0, .ref (z_ad g 0))] dX10_readRow_8 rfl (by decide) rfl (z_sub [3, 2, 1, 0] [(0, .ref (z_ad g 0)), (1, .int r1), (2, .int 1), (3, .int 0)] rfl ?_)))))))
  have hw := z_lp_w (fun q9 kb9 kx9 h1 h2 h3 => wb_X10_readRow_9 (l := l) (e := e) (below := below) (u := u2) hR X q9 kb9 kx9 h1 h2 h3) z_F _ _ h
  refine hw (fun t22 h => ?_)
  cases h; exact z_vret X rfl dX10_readRow_119 ⟨rfl, rfl⟩

theorem lk_X10_readLabel_126 : (Cond.fieldLink RX10 126 RX10 (TX10 9).2.1 (TX10 9).2.2.1) ∈ wsX10_readLabel := by decide +kernel
theorem in_X10_readLabel_X10 : ∀ w ∈ u_ws RX10 TX10 30, w ∈ wsX10_readLabel := fun _ h => List.mem_cons_of_mem _ (List.mem_append_right _ h)
theorem lk_X10_readLabel_122 : (Cond.fieldLink RX10 122 RX10 (TX10 12).2.1 (TX10 12).2.2.1) ∈ wsX10_readLabel := by decide +kernel
theorem lk_X10_readLabel_15 : (Cond.fieldLink RX10 15 RX10 (TX10 2).2.1 (TX10 2).2.2.1) ∈ wsX10_readLabel := by decide +kernel
def j_X10_readLabel_j38 (x1 : Int32) (x3 : Int32) (w : z_M) : Option (z_M) :=
  z_b2 (f_X10_number 0 99 w) (fun r9 u10 => if (z_gI u10 0 12) = 0 then (some u10) else (z_gd (z_inb ((12 + (9 * x1)) + x3) 93) (z_lt (z_sI u10 2 ((12 + (9 * x1)) + x3).toNatClampNeg r9) (fun u13 => some u13))))
def f_X10_readLabel (u : z_M) : Option (z_M) :=
  z_b2 (f_X10_pointHere u) (fun r1 u2 => z_b2 (f_X10_next u2) (fun r3 u4 => z_lt (z_gI u4 0 9) (fun v5 => z_b2 (f_X10_pointHere u4) (fun r6 u7 => if (z_gI u7 0 12) = 0 then (j_X10_readLabel_j38 r1 r6 u7) else (if r1 = r6 then (Option.bind (f_X10_wrong 2 v5 u7) (fun r15 => j_X10_readLabel_j38 r1 r6 r15)) else (j_X10_readLabel_j38 r1 r6 u7))))))
set_option maxRecDepth 20000 in
set_option maxHeartbeats 4000000 in
theorem wj_X10_readLabel_j38 {p : Program} {l : Launch} {e : Env} {R : Room} {s : State} {m : MethodId} {args : Array Value} {below : List Frame} {meth : Method} {c : Code} {g : z_G} {u : z_M} {res : z_M} (hR : R = z_rm 4) (X : z_X p R s m args meth c cX10_readLabel 5 RX10 wsX10_readLabel none g z_shR) (x1 : Int32) (x3 : Int32) (w : z_M) (h : j_X10_readLabel_j38 x1 x3 w = some res) : z_V p l e R s m args below meth c 5 g z_shR (MQ below (z_Qc g z_shR (fun v u' => v = none ∧ u' = res)) args s 0 0 (z_A g z_shR)) 38 [(0, .ref (z_ad g 0)), (1, .int x1), (3, .int x3)] [] w := by
  unfold j_X10_readLabel_j38 at h
  obtain ⟨r9, u10, er9, h⟩ := z_b2s h
  refine z_aload_n X 0 dX10_readLabel_38 rfl rfl (z_iconst X (v := 0) dX10_readLabel_39 (by decide) (z_bipush X (v := 99) dX10_readLabel_40 (by decide) (z_callVi X (r := r9) (u1 := u10) [.int 0, .int 99] [] (w_X10_number l g 0 99 w er9) z_r0 rfl gX10_readLabel_X10_number hy_X10_number rfl (z_le1 hR (by decide)) (z_le2 hR (by decide) (by decide)) (Nat.le_of_ble_eq_true rfl) dX10_readLabel_42 (z_istore X [(4, .int r9), (0, .ref (z_ad g 0)), (1, .int x1), (3, .int x3)] dX10_readLabel_45 (by decide) rfl (z_aload_n X 1 dX10_readLabel_47 rfl rfl (z_getI X (k0 := 12) z_r0 rfl in_X10_readLabel_X10 (by decide) rfl rfl lk_X10_readLabel_122 dX10_readLabel_48 (z_if_eq X 70 dX10_readLabel_51 (by decide) (fun c11 => ?_) (fun c11 => ?_))))))))
  · replace h := z_ip c11 h
    cases h; exact z_vret X rfl dX10_readLabel_70 ⟨rfl, rfl⟩
  · replace h := z_in c11 h
    obtain ⟨b12, h⟩ := z_gs h
    obtain ⟨u13, eu13, h⟩ := z_ls h
    refine z_aload_n X 1 dX10_readLabel_54 rfl rfl (z_getR X (k0 := 2) z_r0 rfl in_X10_readLabel_X10 (by decide) rfl rfl lk_X10_readLabel_15 dX10_readLabel_55 (z_bipush X (v := 12) dX10_readLabel_58 (by decide) (z_bipush X (v := 9) dX10_readLabel_60 (by decide) (z_iload_n X 2 dX10_readLabel_62 rfl rfl (z_imul X dX10_readLabel_63 (z_iadd X dX10_readLabel_64 (z_iload_n X 3 dX10_readLabel_65 rfl rfl (z_iadd X dX10_readLabel_66 (z_iload X 0 dX10_readLabel_67 rfl (z_iast X z_r2 (z_inS b12) dX10_readLabel_69 (z_nm eu13 ?_)))))))))))
    cases h; exact z_vret X rfl dX10_readLabel_70 ⟨rfl, rfl⟩
set_option maxRecDepth 20000 in
set_option maxHeartbeats 4000000 in
theorem w_X10_readLabel (l : Launch) (g : z_G)  (u : z_M) {res : z_M} (h : f_X10_readLabel u = some res) : z_C l g z_shR yX10_readLabel wsX10_readLabel 4 [.ref (z_ad g 0)] u (fun v u' => v = none ∧ u' = res) := by
  refine z_C.mk (lv := [(0, .ref (z_ad g 0))]) (cc := cX10_readLabel) (nL := 5) (rt := none) rfl (by decide) (Nat.le_of_ble_eq_true rfl) rfl (fun p e R s m args below meth c hR X => ?_)
  unfold f_X10_readLabel at h
  obtain ⟨r1, u2, er1, h⟩ := z_b2s h
  obtain ⟨r3, u4, er3, h⟩ := z_b2s h
  obtain ⟨v5, ev5, h⟩ := z_ls h
  obtain ⟨r6, u7, er6, h⟩ := z_b2s h
  refine z_aload_n X 0 dX10_readLabel_0 rfl rfl (z_callVi X (r := r1) (u1 := u2) [] [] (w_X10_pointHere l g u er1) z_r0 rfl gX10_readLabel_X10_pointHere hy_X10_pointHere rfl (z_le1 hR (by decide)) (z_le2 hR (by decide) (by decide)) (Nat.le_of_ble_eq_true rfl) dX10_readLabel_1 (z_istore_n X [(1, .int r1), (0, .ref (z_ad g 0))] dX10_readLabel_4 rfl (by decide) rfl (z_aload_n X 1 dX10_readLabel_5 rfl rfl (z_callVi X (r := r3) (u1 := u4) [] [] (w_X10_next l g u2 er3) z_r0 rfl gX10_readLabel_X10_next hy_X10_next rfl (z_le1 hR (by decide)) (z_le2 hR (by decide) (by decide)) (Nat.le_of_ble_eq_true rfl) dX10_readLabel_6 (z_pop X dX10_readLabel_9 rfl (z_aload_n X 1 dX10_readLabel_10 rfl rfl (z_getI X (k0 := 9) z_r0 rfl in_X10_readLabel_X10 (by decide) rfl rfl lk_X10_readLabel_126 dX10_readLabel_11 (z_ti ev5 (z_istore_n X [(2, .int v5), (1, .int r1), (0, .ref (z_ad g 0))] dX10_readLabel_14 rfl (by decide) rfl (z_aload_n X 2 dX10_readLabel_15 rfl rfl (z_callVi X (r := r6) (u1 := u7) [] [] (w_X10_pointHere l g u4 er6) z_r0 rfl gX10_readLabel_X10_pointHere hy_X10_pointHere rfl (z_le1 hR (by decide)) (z_le2 hR (by decide) (by decide)) (Nat.le_of_ble_eq_true rfl) dX10_readLabel_16 (z_istore_n X [(3, .int r6), (2, .int v5), (1, .int r1), (0, .ref (z_ad g 0))] dX10_readLabel_19 rfl (by decide) rfl (z_aload_n X 3 dX10_readLabel_20 rfl rfl (z_getI X (k0 := 12) z_r0 rfl in_X10_readLabel_X10 (by decide) rfl rfl lk_X10_readLabel_122 dX10_readLabel_21 (z_if_eq X 38 dX10_readLabel_24 (by decide) (fun c8 => ?_) (fun c8 => ?_))))))))))))))))
  · replace h := z_ip c8 h
    refine z_sub [3, 2, 0] [(0, .ref (z_ad g 0)), (1, .int r1), (3, .int r6)] rfl ?_
    exact wj_X10_readLabel_j38 (u := u7) hR X r1 r6 u7 h
  · replace h := z_in c8 h
    refine z_iload_n X 2 dX10_readLabel_27 rfl rfl (z_iload_n X 0 dX10_readLabel_28 rfl rfl (z_icmp_ne X 38 dX10_readLabel_29 (by decide) (fun c14 => ?_) (fun c14 => ?_)))
    · replace h := z_in c14 h
      refine z_sub [3, 2, 0] [(0, .ref (z_ad g 0)), (1, .int r1), (3, .int r6)] rfl ?_
      exact wj_X10_readLabel_j38 (u := u7) hR X r1 r6 u7 h
    · replace h := z_ip c14 h
      obtain ⟨r15, er15, h⟩ := z_bs h
      refine z_aload_n X 3 dX10_readLabel_32 rfl rfl (z_iconst X (v := 2) dX10_readLabel_33 (by decide) (z_iload_n X 1 dX10_readLabel_34 rfl rfl (z_callVv X (u1 := r15) [.int 2, .int v5] [] (w_X10_wrong l g 2 v5 u7 er15) z_r0 rfl gX10_readLabel_X10_wrong hy_X10_wrong rfl (z_le1 hR (by decide)) (z_le2 hR (by decide) (by decide)) (Nat.le_of_ble_eq_true rfl) dX10_readLabel_35 (z_sub [3, 2, 0] [(0, .ref (z_ad g 0)), (1, .int r1), (3, .int r6)] rfl ?_))))
      exact wj_X10_readLabel_j38 (u := r15) hR X r1 r6 r15 h

theorem lk_X10_readLine_126 : (Cond.fieldLink RX10 126 RX10 (TX10 9).2.1 (TX10 9).2.2.1) ∈ wsX10_readLine := by decide +kernel
theorem in_X10_readLine_X10 : ∀ w ∈ u_ws RX10 TX10 30, w ∈ wsX10_readLine := fun _ h => List.mem_cons_of_mem _ (List.mem_append_right _ h)
theorem lk_X10_readLine_122 : (Cond.fieldLink RX10 122 RX10 (TX10 12).2.1 (TX10 12).2.2.1) ∈ wsX10_readLine := by decide +kernel
theorem lk_X10_readLine_181 : (Cond.fieldLink RX10 181 RX10 (TX10 13).2.1 (TX10 13).2.2.1) ∈ wsX10_readLine := by decide +kernel
theorem lk_X10_readLine_15 : (Cond.fieldLink RX10 15 RX10 (TX10 2).2.1 (TX10 2).2.2.1) ∈ wsX10_readLine := by decide +kernel
theorem hy_X10_isNumber : yX10_isNumber.cls = RX10 ∧ yX10_isNumber.cls ≠ "java/lang/invoke/MethodHandle" ∧ yX10_isNumber.cls ≠ "java/lang/invoke/VarHandle" ∧ (parseMethodDescriptor yX10_isNumber.desc).map (fun d => d.parameters.length) = some 0 := by decide +kernel
theorem hy_X10_isWord : yX10_isWord.cls = RX10 ∧ yX10_isWord.cls ≠ "java/lang/invoke/MethodHandle" ∧ yX10_isWord.cls ≠ "java/lang/invoke/VarHandle" ∧ (parseMethodDescriptor yX10_isWord.desc).map (fun d => d.parameters.length) = some 1 := by decide +kernel
theorem hy_X10_readLabel : yX10_readLabel.cls = RX10 ∧ yX10_readLabel.cls ≠ "java/lang/invoke/MethodHandle" ∧ yX10_readLabel.cls ≠ "java/lang/invoke/VarHandle" ∧ (parseMethodDescriptor yX10_readLabel.desc).map (fun d => d.parameters.length) = some 0 := by decide +kernel
theorem hy_X10_readRow : yX10_readRow.cls = RX10 ∧ yX10_readRow.cls ≠ "java/lang/invoke/MethodHandle" ∧ yX10_readRow.cls ≠ "java/lang/invoke/VarHandle" ∧ (parseMethodDescriptor yX10_readRow.desc).map (fun d => d.parameters.length) = some 0 := by decide +kernel
def j_X10_readLine_j94 (x3 : Int32) (x4 : Int32) (x5 : Int32) (w : z_M) : Option (z_M) :=
  if (z_gI w 0 12) = 0 then (some w) else (if x3 = 0 then (if x4 = 0 then (if x5 = 0 then (Option.bind (f_X10_readRow w) (fun r21 => some r21)) else (z_lt (z_sI w 0 9 ((z_gI w 0 9) + 5)) (fun u22 => Option.bind (f_X10_readLabel u22) (fun r23 => some r23)))) else (z_lt (z_sI w 0 9 ((z_gI w 0 9) + 4)) (fun u24 => z_lt (z_sI u24 0 13 1) (fun u25 => z_b2 (f_X10_number 0 3 u25) (fun r26 u27 => z_gd (z_inb 2 93) (z_lt (z_sI u27 2 (2 : Int32).toNatClampNeg r26) (fun u29 => some u29))))))) else (z_lt (z_sI w 0 9 ((z_gI w 0 9) + 6)) (fun u30 => z_b2 (f_X10_number 1 9 u30) (fun r31 u32 => z_gd (z_inb 0 93) (z_lt (z_sI u32 2 (0 : Int32).toNatClampNeg r31) (fun u34 => z_gd (z_inb 0 93) (z_gd (z_inb 1 93) (z_lt (z_sI u34 2 (1 : Int32).toNatClampNeg ((1 <<< ((z_gI u34 2 (0 : Int32).toNatClampNeg) &&& 31)) - 1)) (fun u37 => some u37)))))))))
def j_X10_readLine_j88 (x2 : Int32) (x3 : Int32) (x4 : Int32) (x5 : Int32) (w : z_M) : Option (z_M) :=
  Option.bind (f_X10_wrong 3 x2 w) (fun r42 => j_X10_readLine_j94 x3 x4 x5 r42)
def j_X10_readLine_j73 (x2 : Int32) (x3 : Int32) (x4 : Int32) (x5 : Int32) (x90 : Int32) (x91 : Int32) (w : z_M) : Option (z_M) :=
  if x91 = x90 then (if x4 = 0 then (j_X10_readLine_j94 x3 x4 x5 w) else (if (z_gI w 0 13) = 0 then (j_X10_readLine_j94 x3 x4 x5 w) else (j_X10_readLine_j88 x2 x3 x4 x5 w))) else (j_X10_readLine_j88 x2 x3 x4 x5 w)
def j_X10_readLine_j63 (x1 : Int32) (x2 : Int32) (x3 : Int32) (x4 : Int32) (x5 : Int32) (w : z_M) : Option (z_M) :=
  if x1 = 0 then (j_X10_readLine_j73 x2 x3 x4 x5 1 x3 w) else (j_X10_readLine_j73 x2 x3 x4 x5 0 x3 w)
def f_X10_readLine (a1 : Int32) (u : z_M) : Option (z_M) :=
  z_b2 (f_X10_next u) (fun r1 u2 => z_lt (z_gI u2 0 9) (fun v3 => z_b2 (f_X10_isWord 0 u2) (fun r4 u5 => z_b2 (f_X10_isWord 1 u5) (fun r6 u7 => z_b2 (f_X10_isWord 2 u7) (fun r8 u9 => if r4 = 0 then (if r6 = 0 then (if r8 = 0 then (z_b2 (f_X10_isNumber u9) (fun r13 u14 => if r13 = 0 then (Option.bind (f_X10_wrong 1 v3 u14) (fun r16 => j_X10_readLine_j94 r4 r6 r8 r16)) else (j_X10_readLine_j63 a1 v3 r4 r6 r8 u14))) else (j_X10_readLine_j63 a1 v3 r4 r6 r8 u9)) else (j_X10_readLine_j63 a1 v3 r4 r6 r8 u9)) else (j_X10_readLine_j63 a1 v3 r4 r6 r8 u9))))))
set_option maxRecDepth 20000 in
set_option maxHeartbeats 4000000 in
theorem wj_X10_readLine_j94 {p : Program} {l : Launch} {e : Env} {R : Room} {s : State} {m : MethodId} {args : Array Value} {below : List Frame} {meth : Method} {c : Code} {g : z_G} {u : z_M} {res : z_M} (hR : R = z_rm 8) (X : z_X p R s m args meth c cX10_readLine 6 RX10 wsX10_readLine none g z_shR) (x3 : Int32) (x4 : Int32) (x5 : Int32) (w : z_M) (h : j_X10_readLine_j94 x3 x4 x5 w = some res) : z_V p l e R s m args below meth c 6 g z_shR (MQ below (z_Qc g z_shR (fun v u' => v = none ∧ u' = res)) args s 0 0 (z_A g z_shR)) 94 [(0, .ref (z_ad g 0)), (3, .int x3), (4, .int x4), (5, .int x5)] [] w := by
  unfold j_X10_readLine_j94 at h
  refine z_aload_n X 0 dX10_readLine_94 rfl rfl (z_getI X (k0 := 12) z_r0 rfl in_X10_readLine_X10 (by decide) rfl rfl lk_X10_readLine_122 dX10_readLine_95 (z_if_ne X 102 dX10_readLine_98 (by decide) (fun c17 => ?_) (fun c17 => ?_)))
  · replace h := z_in c17 h
    refine z_iload_n X 1 dX10_readLine_102 rfl rfl (z_if_eq X 149 dX10_readLine_103 (by decide) (fun c18 => ?_) (fun c18 => ?_))
    · replace h := z_ip c18 h
      refine z_iload X 2 dX10_readLine_149 rfl (z_if_eq X 184 dX10_readLine_151 (by decide) (fun c19 => ?_) (fun c19 => ?_))
      · replace h := z_ip c19 h
        refine z_iload X 3 dX10_readLine_184 rfl (z_if_eq X 206 dX10_readLine_186 (by decide) (fun c20 => ?_) (fun c20 => ?_))
        · replace h := z_ip c20 h
          obtain ⟨r21, er21, h⟩ := z_bs h
          refine z_aload_n X 0 dX10_readLine_206 rfl rfl (z_callVv X (u1 := r21) [] [] (w_X10_readRow l g w er21) z_r0 rfl gX10_readLine_X10_readRow hy_X10_readRow rfl (z_le1 hR (by decide)) (z_le2 hR (by decide) (by decide)) (Nat.le_of_ble_eq_true rfl) dX10_readLine_207 ?_)
          cases h; exact z_vret X rfl dX10_readLine_210 ⟨rfl, rfl⟩
        · replace h := z_in c20 h
          obtain ⟨u22, eu22, h⟩ := z_ls h
          obtain ⟨r23, er23, h⟩ := z_bs h
          refine z_aload_n X 0 dX10_readLine_189 rfl rfl (z_dup X dX10_readLine_190 rfl (z_getI X (k0 := 9) z_r0 rfl in_X10_readLine_X10 (by decide) rfl rfl lk_X10_readLine_126 dX10_readLine_191 (z_iconst X (v := 5) dX10_readLine_194 (by decide) (z_iadd X dX10_readLine_195 (z_putI X (k0 := 9) (ty0 := tyX10) z_r0 rfl in_X10_readLine_X10 tyX10_ok nmX10 (by decide) rfl rfl rfl rfl rfl lk_X10_readLine_126 dX10_readLine_196 (z_nm eu22 (z_aload_n X 0 dX10_readLine_199 rfl rfl (z_callVv X (u1 := r23) [] [] (w_X10_readLabel l g u22 er23) z_r0 rfl gX10_readLine_X10_readLabel hy_X10_readLabel rfl (z_le1 hR (by decide)) (z_le2 hR (by decide) (by decide)) (Nat.le_of_ble_eq_true rfl) dX10_readLine_200 (z_goto X 210 dX10_readLine_203 (by decide) ?_)))))))))
          cases h; exact z_vret X rfl dX10_readLine_210 ⟨rfl, rfl⟩
      · replace h := z_in c19 h
        obtain ⟨u24, eu24, h⟩ := z_ls h
        obtain ⟨u25, eu25, h⟩ := z_ls h
        obtain ⟨r26, u27, er26, h⟩ := z_b2s h
        obtain ⟨b28, h⟩ := z_gs h
        obtain ⟨u29, eu29, h⟩ := z_ls h
        refine z_aload_n X 0 dX10_readLine_154 rfl rfl (z_dup X dX10_readLine_155 rfl (z_getI X (k0 := 9) z_r0 rfl in_X10_readLine_X10 (by decide) rfl rfl lk_X10_readLine_126 dX10_readLine_156 (z_iconst X (v := 4) dX10_readLine_159 (by decide) (z_iadd X dX10_readLine_160 (z_putI X (k0 := 9) (ty0 := tyX10) z_r0 rfl in_X10_readLine_X10 tyX10_ok nmX10 (by decide) rfl rfl rfl rfl rfl lk_X10_readLine_126 dX10_readLine_161 (z_nm eu24 (z_aload_n X 0 dX10_readLine_164 rfl rfl (z_iconst X (v := 1) dX10_readLine_165 (by decide) (z_putI X (k0 := 13) (ty0 := tyX10) z_r0 rfl in_X10_readLine_X10 tyX10_ok nmX10 (by decide) rfl rfl rfl rfl rfl lk_X10_readLine_181 dX10_readLine_166 (z_nm eu25 (z_aload_n X 0 dX10_readLine_169 rfl rfl (z_getR X (k0 := 2) z_r0 rfl in_X10_readLine_X10 (by decide) rfl rfl lk_X10_readLine_15 dX10_readLine_170 (z_iconst X (v := 2) dX10_readLine_173 (by decide) (z_aload_n X 0 dX10_readLine_174 rfl rfl (z_iconst X (v := 0) dX10_readLine_175 (by decide) (z_iconst X (v := 3) dX10_readLine_176 (by decide) (z_callVi X (r := r26) (u1 := u27) [.int 0, .int 3] [.int 2, .ref (z_ad g 2)] (w_X10_number l g 0 3 u25 er26) z_r0 rfl gX10_readLine_X10_number hy_X10_number rfl (z_le1 hR (by decide)) (z_le2 hR (by decide) (by decide)) (Nat.le_of_ble_eq_true rfl) dX10_readLine_177 (z_iast X z_r2 (z_inS b28) dX10_readLine_180 (z_nm eu29 (z_goto X 210 dX10_readLine_181 (by decide) ?_))))))))))))))))))))
        cases h; exact z_vret X rfl dX10_readLine_210 ⟨rfl, rfl⟩
    · replace h := z_in c18 h
      obtain ⟨u30, eu30, h⟩ := z_ls h
      obtain ⟨r31, u32, er31, h⟩ := z_b2s h
      obtain ⟨b33, h⟩ := z_gs h
      obtain ⟨u34, eu34, h⟩ := z_ls h
      obtain ⟨b35, h⟩ := z_gs h
      obtain ⟨b36, h⟩ := z_gs h
      obtain ⟨u37, eu37, h⟩ := z_ls h
      refine z_aload_n X 0 dX10_readLine_106 rfl rfl (z_dup X dX10_readLine_107 rfl (z_getI X (k0 := 9) z_r0 rfl in_X10_readLine_X10 (by decide) rfl rfl lk_X10_readLine_126 dX10_readLine_108 (z_bipush X (v := 6) dX10_readLine_111 (by decide) (z_iadd X dX10_readLine_113 (z_putI X (k0 := 9) (ty0 := tyX10) z_r0 rfl in_X10_readLine_X10 tyX10_ok nmX10 (by decide) rfl rfl rfl rfl rfl lk_X10_readLine_126 dX10_readLine_114 (z_nm eu30 (z_aload_n X 0 dX10_readLine_117 rfl rfl (z_getR X (k0 := 2) z_r0 rfl in_X10_readLine_X10 (by decide) rfl rfl lk_X10_readLine_15 dX10_readLine_118 (z_iconst X (v := 0) dX10_readLine_121 (by decide) (z_aload_n X 0 dX10_readLine_122 rfl rfl (z_iconst X (v := 1) dX10_readLine_123 (by decide) (z_bipush X (v := 9) dX10_readLine_124 (by decide) (z_callVi X (r := r31) (u1 := u32) [.int 1, .int 9] [.int 0, .ref (z_ad g 2)] (w_X10_number l g 1 9 u30 er31) z_r0 rfl gX10_readLine_X10_number hy_X10_number rfl (z_le1 hR (by decide)) (z_le2 hR (by decide) (by decide)) (Nat.le_of_ble_eq_true rfl) dX10_readLine_126 (z_iast X z_r2 (z_inS b33) dX10_readLine_129 (z_nm eu34 (z_aload_n X 0 dX10_readLine_130 rfl rfl (z_getR X (k0 := 2) z_r0 rfl in_X10_readLine_X10 (by decide) rfl rfl lk_X10_readLine_15 dX10_readLine_131 (z_iconst X (v := 1) dX10_readLine_134 (by decide) (z_iconst X (v := 1) dX10_readLine_135 (by decide) (z_aload_n X 0 dX10_readLine_136 rfl rfl (z_getR X (k0 := 2) z_r0 rfl in_X10_readLine_X10 (by decide) rfl rfl lk_X10_readLine_15 dX10_readLine_137 (z_iconst X (v := 0) dX10_readLine_140 (by decide) (z_iald X z_r2 (z_inS b35) dX10_readLine_141 (z_ishl X dX10_readLine_142 (z_iconst X (v := 1) dX10_readLine_143 (by decide) (z_isub X dX10_readLine_144 (z_iast X z_r2 (z_inS b36) dX10_readLine_145 (z_nm eu37 (z_goto X 210 dX10_readLine_146 (by decide) ?_)))))))))))))))))))))))))))))
      cases h; exact z_vret X rfl dX10_readLine_210 ⟨rfl, rfl⟩
  · replace h := z_ip c17 h
    cases h; exact z_vret X rfl dX10_readLine_101 ⟨rfl, rfl⟩
set_option maxRecDepth 20000 in
set_option maxHeartbeats 4000000 in
theorem wj_X10_readLine_j88 {p : Program} {l : Launch} {e : Env} {R : Room} {s : State} {m : MethodId} {args : Array Value} {below : List Frame} {meth : Method} {c : Code} {g : z_G} {u : z_M} {res : z_M} (hR : R = z_rm 8) (X : z_X p R s m args meth c cX10_readLine 6 RX10 wsX10_readLine none g z_shR) (x2 : Int32) (x3 : Int32) (x4 : Int32) (x5 : Int32) (w : z_M) (h : j_X10_readLine_j88 x2 x3 x4 x5 w = some res) : z_V p l e R s m args below meth c 6 g z_shR (MQ below (z_Qc g z_shR (fun v u' => v = none ∧ u' = res)) args s 0 0 (z_A g z_shR)) 88 [(0, .ref (z_ad g 0)), (2, .int x2), (3, .int x3), (4, .int x4), (5, .int x5)] [] w := by
  unfold j_X10_readLine_j88 at h
  obtain ⟨r42, er42, h⟩ := z_bs h
  refine z_aload_n X 0 dX10_readLine_88 rfl rfl (z_iconst X (v := 3) dX10_readLine_89 (by decide) (z_iload_n X 1 dX10_readLine_90 rfl rfl (z_callVv X (u1 := r42) [.int 3, .int x2] [] (w_X10_wrong l g 3 x2 w er42) z_r0 rfl gX10_readLine_X10_wrong hy_X10_wrong rfl (z_le1 hR (by decide)) (z_le2 hR (by decide) (by decide)) (Nat.le_of_ble_eq_true rfl) dX10_readLine_91 (z_sub [0, 2, 3, 4] [(0, .ref (z_ad g 0)), (3, .int x3), (4, .int x4), (5, .int x5)] rfl ?_))))
  exact wj_X10_readLine_j94 (u := r42) hR X x3 x4 x5 r42 h
set_option maxRecDepth 20000 in
set_option maxHeartbeats 4000000 in
theorem wj_X10_readLine_j73 {p : Program} {l : Launch} {e : Env} {R : Room} {s : State} {m : MethodId} {args : Array Value} {below : List Frame} {meth : Method} {c : Code} {g : z_G} {u : z_M} {res : z_M} (hR : R = z_rm 8) (X : z_X p R s m args meth c cX10_readLine 6 RX10 wsX10_readLine none g z_shR) (x2 : Int32) (x3 : Int32) (x4 : Int32) (x5 : Int32) (x90 : Int32) (x91 : Int32) (w : z_M) (h : j_X10_readLine_j73 x2 x3 x4 x5 x90 x91 w = some res) : z_V p l e R s m args below meth c 6 g z_shR (MQ below (z_Qc g z_shR (fun v u' => v = none ∧ u' = res)) args s 0 0 (z_A g z_shR)) 73 [(0, .ref (z_ad g 0)), (2, .int x2), (3, .int x3), (4, .int x4), (5, .int x5)] [.int x90, .int x91] w := by
  unfold j_X10_readLine_j73 at h
  refine z_icmp_ne X 88 dX10_readLine_73 (by decide) (fun c39 => ?_) (fun c39 => ?_)
  · replace h := z_in c39 h
    exact wj_X10_readLine_j88 (u := w) hR X x2 x3 x4 x5 w h
  · replace h := z_ip c39 h
    refine z_iload X 3 dX10_readLine_76 rfl (z_if_eq X 94 dX10_readLine_78 (by decide) (fun c40 => ?_) (fun c40 => ?_))
    · replace h := z_ip c40 h
      refine z_sub [0, 2, 3, 4] [(0, .ref (z_ad g 0)), (3, .int x3), (4, .int x4), (5, .int x5)] rfl ?_
      exact wj_X10_readLine_j94 (u := w) hR X x3 x4 x5 w h
    · replace h := z_in c40 h
      refine z_aload_n X 0 dX10_readLine_81 rfl rfl (z_getI X (k0 := 13) z_r0 rfl in_X10_readLine_X10 (by decide) rfl rfl lk_X10_readLine_181 dX10_readLine_82 (z_if_eq X 94 dX10_readLine_85 (by decide) (fun c41 => ?_) (fun c41 => ?_)))
      · replace h := z_ip c41 h
        refine z_sub [0, 2, 3, 4] [(0, .ref (z_ad g 0)), (3, .int x3), (4, .int x4), (5, .int x5)] rfl ?_
        exact wj_X10_readLine_j94 (u := w) hR X x3 x4 x5 w h
      · replace h := z_in c41 h
        exact wj_X10_readLine_j88 (u := w) hR X x2 x3 x4 x5 w h
set_option maxRecDepth 20000 in
set_option maxHeartbeats 4000000 in
theorem wj_X10_readLine_j63 {p : Program} {l : Launch} {e : Env} {R : Room} {s : State} {m : MethodId} {args : Array Value} {below : List Frame} {meth : Method} {c : Code} {g : z_G} {u : z_M} {res : z_M} (hR : R = z_rm 8) (X : z_X p R s m args meth c cX10_readLine 6 RX10 wsX10_readLine none g z_shR) (x1 : Int32) (x2 : Int32) (x3 : Int32) (x4 : Int32) (x5 : Int32) (w : z_M) (h : j_X10_readLine_j63 x1 x2 x3 x4 x5 w = some res) : z_V p l e R s m args below meth c 6 g z_shR (MQ below (z_Qc g z_shR (fun v u' => v = none ∧ u' = res)) args s 0 0 (z_A g z_shR)) 63 [(0, .ref (z_ad g 0)), (1, .int x1), (2, .int x2), (3, .int x3), (4, .int x4), (5, .int x5)] [] w := by
  unfold j_X10_readLine_j63 at h
  refine z_iload_n X 3 dX10_readLine_63 rfl rfl (z_iload_n X 1 dX10_readLine_64 rfl rfl (z_if_ne X 72 dX10_readLine_65 (by decide) (fun c38 => ?_) (fun c38 => ?_)))
  · replace h := z_in c38 h
    refine z_iconst X (v := 0) dX10_readLine_72 (by decide) (z_sub [0, 2, 3, 4, 5] [(0, .ref (z_ad g 0)), (2, .int x2), (3, .int x3), (4, .int x4), (5, .int x5)] rfl ?_)
    exact wj_X10_readLine_j73 (u := w) hR X x2 x3 x4 x5 0 x3 w h
  · replace h := z_ip c38 h
    refine z_iconst X (v := 1) dX10_readLine_68 (by decide) (z_goto X 73 dX10_readLine_69 (by decide) (z_sub [0, 2, 3, 4, 5] [(0, .ref (z_ad g 0)), (2, .int x2), (3, .int x3), (4, .int x4), (5, .int x5)] rfl ?_))
    exact wj_X10_readLine_j73 (u := w) hR X x2 x3 x4 x5 1 x3 w h
set_option maxRecDepth 20000 in
set_option maxHeartbeats 4000000 in
theorem w_X10_readLine (l : Launch) (g : z_G) (a1 : Int32) (u : z_M) {res : z_M} (h : f_X10_readLine a1 u = some res) : z_C l g z_shR yX10_readLine wsX10_readLine 8 [.ref (z_ad g 0), .int a1] u (fun v u' => v = none ∧ u' = res) := by
  refine z_C.mk (lv := [(0, .ref (z_ad g 0)), (1, .int a1)]) (cc := cX10_readLine) (nL := 6) (rt := none) rfl (by decide) (Nat.le_of_ble_eq_true rfl) rfl (fun p e R s m args below meth c hR X => ?_)
  unfold f_X10_readLine at h
  obtain ⟨r1, u2, er1, h⟩ := z_b2s h
  obtain ⟨v3, ev3, h⟩ := z_ls h
  obtain ⟨r4, u5, er4, h⟩ := z_b2s h
  obtain ⟨r6, u7, er6, h⟩ := z_b2s h
  obtain ⟨r8, u9, er8, h⟩ := z_b2s h
  refine z_aload_n X 0 dX10_readLine_0 rfl rfl (z_callVi X (r := r1) (u1 := u2) [] [] (w_X10_next l g u er1) z_r0 rfl gX10_readLine_X10_next hy_X10_next rfl (z_le1 hR (by decide)) (z_le2 hR (by decide) (by decide)) (Nat.le_of_ble_eq_true rfl) dX10_readLine_1 (z_pop X dX10_readLine_4 rfl (z_aload_n X 0 dX10_readLine_5 rfl rfl (z_getI X (k0 := 9) z_r0 rfl in_X10_readLine_X10 (by decide) rfl rfl lk_X10_readLine_126 dX10_readLine_6 (z_ti ev3 (z_istore_n X [(2, .int v3), (0, .ref (z_ad g 0)), (1, .int a1)] dX10_readLine_9 rfl (by decide) rfl (z_aload_n X 1 dX10_readLine_10 rfl rfl (z_ldcS0_RX10 X dX10_readLine_11 (z_callVi X (r := r4) (u1 := u5) [.ref (g.2.2.2.1 0)] [] (w_X10_isWord l g 0 (by decide) u2 er4) z_r0 rfl gX10_readLine_X10_isWord hy_X10_isWord rfl (z_le1 hR (by decide)) (z_le2 hR (by decide) (by decide)) (Nat.le_of_ble_eq_true rfl) dX10_readLine_13 (z_istore_n X [(3, .int r4), (2, .int v3), (0, .ref (z_ad g 0)), (1, .int a1)] dX10_readLine_16 rfl (by decide) rfl (z_aload_n X 2 dX10_readLine_17 rfl rfl (z_ldcS1_RX10 X dX10_readLine_18 (z_callVi X (r := r6) (u1 := u7) [.ref (g.2.2.2.1 1)] [] (w_X10_isWord l g 1 (by decide) u5 er6) z_r0 rfl gX10_readLine_X10_isWord hy_X10_isWord rfl (z_le1 hR (by decide)) (z_le2 hR (by decide) (by decide)) (Nat.le_of_ble_eq_true rfl) dX10_readLine_20 (z_istore X [(4, .int r6), (3, .int r4), (2, .int v3), (0, .ref (z_ad g 0)), (1, .int a1)] dX10_readLine_23 (by decide) rfl (z_aload_n X 3 dX10_readLine_25 rfl rfl (z_ldcS2_RX10 X dX10_readLine_26 (z_callVi X (r := r8) (u1 := u9) [.ref (g.2.2.2.1 2)] [] (w_X10_isWord l g 2 (by decide) u7 er8) z_r0 rfl gX10_readLine_X10_isWord hy_X10_isWord rfl (z_le1 hR (by decide)) (z_le2 hR (by decide) (by decide)) (Nat.le_of_ble_eq_true rfl) dX10_readLine_28 (z_istore X [(5, .int r8), (4, .int r6), (3, .int r4), (2, .int v3), (0, .ref (z_ad g 0)), (1, .int a1)] dX10_readLine_31 (by decide) rfl (z_iload_n X 2 dX10_readLine_33 rfl rfl (z_if_ne X 63 dX10_readLine_34 (by decide) (fun c10 => ?_) (fun c10 => ?_)))))))))))))))))))))
  · replace h := z_in c10 h
    refine z_sub [4, 5, 3, 2, 1, 0] [(0, .ref (z_ad g 0)), (1, .int a1), (2, .int v3), (3, .int r4), (4, .int r6), (5, .int r8)] rfl ?_
    exact wj_X10_readLine_j63 (u := u9) hR X a1 v3 r4 r6 r8 u9 h
  · replace h := z_ip c10 h
    refine z_iload X 1 dX10_readLine_37 rfl (z_if_ne X 63 dX10_readLine_39 (by decide) (fun c11 => ?_) (fun c11 => ?_))
    · replace h := z_in c11 h
      refine z_sub [4, 5, 3, 2, 1, 0] [(0, .ref (z_ad g 0)), (1, .int a1), (2, .int v3), (3, .int r4), (4, .int r6), (5, .int r8)] rfl ?_
      exact wj_X10_readLine_j63 (u := u9) hR X a1 v3 r4 r6 r8 u9 h
    · replace h := z_ip c11 h
      refine z_iload X 0 dX10_readLine_42 rfl (z_if_ne X 63 dX10_readLine_44 (by decide) (fun c12 => ?_) (fun c12 => ?_))
      · replace h := z_in c12 h
        refine z_sub [4, 5, 3, 2, 1, 0] [(0, .ref (z_ad g 0)), (1, .int a1), (2, .int v3), (3, .int r4), (4, .int r6), (5, .int r8)] rfl ?_
        exact wj_X10_readLine_j63 (u := u9) hR X a1 v3 r4 r6 r8 u9 h
      · replace h := z_ip c12 h
        obtain ⟨r13, u14, er13, h⟩ := z_b2s h
        refine z_aload_n X 4 dX10_readLine_47 rfl rfl (z_callVi X (r := r13) (u1 := u14) [] [] (w_X10_isNumber l g u9 er13) z_r0 rfl gX10_readLine_X10_isNumber hy_X10_isNumber rfl (z_le1 hR (by decide)) (z_le2 hR (by decide) (by decide)) (Nat.le_of_ble_eq_true rfl) dX10_readLine_48 (z_if_ne X 63 dX10_readLine_51 (by decide) (fun c15 => ?_) (fun c15 => ?_)))
        · replace h := z_in c15 h
          refine z_sub [4, 5, 3, 2, 1, 0] [(0, .ref (z_ad g 0)), (1, .int a1), (2, .int v3), (3, .int r4), (4, .int r6), (5, .int r8)] rfl ?_
          exact wj_X10_readLine_j63 (u := u14) hR X a1 v3 r4 r6 r8 u14 h
        · replace h := z_ip c15 h
          obtain ⟨r16, er16, h⟩ := z_bs h
          refine z_aload_n X 4 dX10_readLine_54 rfl rfl (z_iconst X (v := 1) dX10_readLine_55 (by decide) (z_iload_n X 3 dX10_readLine_56 rfl rfl (z_callVv X (u1 := r16) [.int 1, .int v3] [] (w_X10_wrong l g 1 v3 u14 er16) z_r0 rfl gX10_readLine_X10_wrong hy_X10_wrong rfl (z_le1 hR (by decide)) (z_le2 hR (by decide) (by decide)) (Nat.le_of_ble_eq_true rfl) dX10_readLine_57 (z_goto X 94 dX10_readLine_60 (by decide) (z_sub [4, 2, 1, 0] [(0, .ref (z_ad g 0)), (3, .int r4), (4, .int r6), (5, .int r8)] rfl ?_)))))
          exact wj_X10_readLine_j94 (u := r16) hR X r4 r6 r8 r16 h

theorem lk_X10_order_82 : (Cond.fieldLink RX10 82 RX10 (TX10 0).2.1 (TX10 0).2.2.1) ∈ wsX10_order := by decide +kernel
theorem in_X10_order_X10 : ∀ w ∈ u_ws RX10 TX10 30, w ∈ wsX10_order := fun _ h => List.mem_cons_of_mem _ (List.mem_append_right _ h)
theorem lk_X10_order_126 : (Cond.fieldLink RX10 126 RX10 (TX10 9).2.1 (TX10 9).2.2.1) ∈ wsX10_order := by decide +kernel
theorem lk_X10_order_122 : (Cond.fieldLink RX10 122 RX10 (TX10 12).2.1 (TX10 12).2.2.1) ∈ wsX10_order := by decide +kernel
theorem lk_X10_order_119 : (Cond.fieldLink RX10 119 RX10 (TX10 10).2.1 (TX10 10).2.2.1) ∈ wsX10_order := by decide +kernel
theorem lk_X10_order_32 : (Cond.fieldLink RX10 32 RX10 (TX10 11).2.1 (TX10 11).2.2.1) ∈ wsX10_order := by decide +kernel
theorem lk_X10_order_181 : (Cond.fieldLink RX10 181 RX10 (TX10 13).2.1 (TX10 13).2.2.1) ∈ wsX10_order := by decide +kernel
theorem lk_X10_order_15 : (Cond.fieldLink RX10 15 RX10 (TX10 2).2.1 (TX10 2).2.2.1) ∈ wsX10_order := by decide +kernel
theorem lk_X10_order_116 : (Cond.fieldLink RX10 116 RX10 (TX10 8).2.1 (TX10 8).2.2.1) ∈ wsX10_order := by decide +kernel
theorem lk_X10_order_9 : (Cond.fieldLink RX10 9 RX10 (TX10 1).2.1 (TX10 1).2.2.1) ∈ wsX10_order := by decide +kernel
theorem lk_X10_order_113 : (Cond.fieldLink RX10 113 RX10 (TX10 4).2.1 (TX10 4).2.2.1) ∈ wsX10_order := by decide +kernel
theorem lk_X10_order_24 : (Cond.fieldLink RX10 24 RX10 (TX10 6).2.1 (TX10 6).2.2.1) ∈ wsX10_order := by decide +kernel
theorem hy_X10_readLine : yX10_readLine.cls = RX10 ∧ yX10_readLine.cls ≠ "java/lang/invoke/MethodHandle" ∧ yX10_readLine.cls ≠ "java/lang/invoke/VarHandle" ∧ (parseMethodDescriptor yX10_readLine.desc).map (fun d => d.parameters.length) = some 1 := by decide +kernel
def b_X10_order_32  : (Int32 × z_M) → ((Int32 × z_M) → Option (Int32 × z_M)) → (z_M → Option (Int32 × z_M)) → Option (Int32 × z_M) := fun q kb kx =>
  if 93 ≤ q.1 then (kx q.2) else (z_gd (z_inb q.1 93) (z_lt (z_sI q.2 2 q.1.toNatClampNeg 0) (fun u9 => kb (q.1 + 1, u9))))
def b_X10_order_58  : (Int32 × z_M) → ((Int32 × z_M) → Option (Int32 × z_M)) → ((Int32 × z_M) → Option (Int32 × z_M)) → Option (Int32 × z_M) := fun q kb kx =>
  z_b2 (f_X10_takes 59 q.2) (fun r12 u13 => if r12 = 0 then (kx (q.1, u13)) else (Option.bind (f_X10_readLine q.1 u13) (fun r15 => kb (q.1 + 1, r15))))
def b_X10_order_126 (x1 : Int32) : (Int32 × z_M) → ((Int32 × z_M) → Option (Int32 × z_M)) → (z_M → Option (Int32 × z_M)) → Option (Int32 × z_M) := fun q kb kx =>
  if 93 ≤ q.1 then (kx q.2) else (z_gd (z_inb q.1 93) (z_gd (z_inb q.1 93) (z_lt (z_sI q.2 1 q.1.toNatClampNeg (z_gI q.2 2 q.1.toNatClampNeg)) (fun u25 => kb (q.1 + 1, u25)))))
def f_X10_order (u : z_M) : Option (Int32 × z_M) :=
  z_lt (z_sI u 0 0 0) (fun u1 => z_lt (z_sI u1 0 9 0) (fun u2 => z_lt (z_sI u2 0 12 1) (fun u3 => z_lt (z_sI u3 0 10 0) (fun u4 => z_lt (z_sI u4 0 11 (-1)) (fun u5 => z_lt (z_sI u5 0 13 0) (fun u6 => z_lp b_X10_order_32 z_F (0, u6) (fun t10 => Option.bind (f_X10_readLine 0 t10) (fun r11 => z_lp b_X10_order_58 z_F (1, r11) (fun t16 => z_b2 (f_X10_next t16.2) (fun r17 u18 => if (z_gI u18 0 12) = 0 then (z_lt (z_sI u18 0 8 0) (fun u20 => if (z_gI u20 0 12) = 0 then (some ((-1), u20)) else (z_lp (b_X10_order_126 t16.1) z_F (0, u20) (fun t26 => z_lt (z_sI t26 0 4 0) (fun u27 => z_gd (z_inb 0 2) (z_lt (z_sI u27 5 (0 : Int32).toNatClampNeg (vp_nar .boolean 0)) (fun u29 => z_gd (z_inb 1 2) (z_lt (z_sI u29 5 (1 : Int32).toNatClampNeg (vp_nar .boolean 0)) (fun u31 => some (t16.1, u31)))))))))) else (if (z_gI u18 0 8) ≤ (z_gI u18 0 9) then (z_lt (z_sI u18 0 8 0) (fun u33 => if (z_gI u33 0 12) = 0 then (some ((-1), u33)) else (z_lp (b_X10_order_126 t16.1) z_F (0, u33) (fun t35 => z_lt (z_sI t35 0 4 0) (fun u36 => z_gd (z_inb 0 2) (z_lt (z_sI u36 5 (0 : Int32).toNatClampNeg (vp_nar .boolean 0)) (fun u38 => z_gd (z_inb 1 2) (z_lt (z_sI u38 5 (1 : Int32).toNatClampNeg (vp_nar .boolean 0)) (fun u40 => some (t16.1, u40)))))))))) else (Option.bind (f_X10_wrong 1 (z_gI u18 0 9) u18) (fun r41 => z_lt (z_sI r41 0 8 0) (fun u42 => if (z_gI u42 0 12) = 0 then (some ((-1), u42)) else (z_lp (b_X10_order_126 t16.1) z_F (0, u42) (fun t44 => z_lt (z_sI t44 0 4 0) (fun u45 => z_gd (z_inb 0 2) (z_lt (z_sI u45 5 (0 : Int32).toNatClampNeg (vp_nar .boolean 0)) (fun u47 => z_gd (z_inb 1 2) (z_lt (z_sI u47 5 (1 : Int32).toNatClampNeg (vp_nar .boolean 0)) (fun u49 => some (t16.1, u49))))))))))))))))))))))
set_option maxRecDepth 20000 in
set_option maxHeartbeats 4000000 in
theorem wb_X10_order_32 {p : Program} {l : Launch} {e : Env} {R : Room} {s : State} {m : MethodId} {args : Array Value} {below : List Frame} {meth : Method} {c : Code} {g : z_G} {u : z_M} {res : Int32 × z_M} (hR : R = z_rm 9) (X : z_X p R s m args meth c cX10_order 3 RX10 wsX10_order (some .int) g z_shR)  (q : Int32 × z_M) (kb : (Int32 × z_M) → Option (Int32 × z_M)) (kx : z_M → Option (Int32 × z_M)) (hkb : ∀ q, kb q = some res → z_V p l e R s m args below meth c 3 g z_shR (MQ below (z_Qc g z_shR (fun v u' => v = some (.int res.1) ∧ u' = res.2)) args s 0 0 (z_A g z_shR)) 32 [(0, .ref (z_ad g 0)), (1, .int q.1)] [] q.2) (hkx : ∀ t, kx t = some res → z_V p l e R s m args below meth c 3 g z_shR (MQ below (z_Qc g z_shR (fun v u' => v = some (.int res.1) ∧ u' = res.2)) args s 0 0 (z_A g z_shR)) 51 [(0, .ref (z_ad g 0))] [] t) (h : b_X10_order_32 q kb kx = some res) : z_V p l e R s m args below meth c 3 g z_shR (MQ below (z_Qc g z_shR (fun v u' => v = some (.int res.1) ∧ u' = res.2)) args s 0 0 (z_A g z_shR)) 32 [(0, .ref (z_ad g 0)), (1, .int q.1)] [] q.2 := by
  unfold b_X10_order_32 at h
  refine z_iload_n X 1 dX10_order_32 rfl rfl (z_bipush X (v := 93) dX10_order_33 (by decide) (z_icmp_ge X 51 dX10_order_35 (by decide) (fun c7 => ?_) (fun c7 => ?_)))
  · replace h := z_ip c7 h
    refine z_sub [0] [(0, .ref (z_ad g 0))] rfl ?_
    exact hkx q.2 h
  · replace h := z_in c7 h
    obtain ⟨b8, h⟩ := z_gs h
    obtain ⟨u9, eu9, h⟩ := z_ls h
    refine z_aload_n X 0 dX10_order_38 rfl rfl (z_getR X (k0 := 2) z_r0 rfl in_X10_order_X10 (by decide) rfl rfl lk_X10_order_15 dX10_order_39 (z_iload_n X 1 dX10_order_42 rfl rfl (z_iconst X (v := 0) dX10_order_43 (by decide) (z_iast X z_r2 (z_inS b8) dX10_order_44 (z_nm eu9 (z_iinc X (v := q.1 + 1) 1 [(1, .int (q.1 + 1)), (0, .ref (z_ad g 0))] dX10_order_45 rfl rfl (by decide) rfl (z_goto X 32 dX10_order_48 (by decide) (z_sub [1, 0] [(0, .ref (z_ad g 0)), (1, .int (q.1 + 1))] rfl ?_))))))))
    exact hkb (q.1 + 1, u9) h
set_option maxRecDepth 20000 in
set_option maxHeartbeats 4000000 in
theorem wb_X10_order_58 {p : Program} {l : Launch} {e : Env} {R : Room} {s : State} {m : MethodId} {args : Array Value} {below : List Frame} {meth : Method} {c : Code} {g : z_G} {u : z_M} {res : Int32 × z_M} (hR : R = z_rm 9) (X : z_X p R s m args meth c cX10_order 3 RX10 wsX10_order (some .int) g z_shR)  (q : Int32 × z_M) (kb : (Int32 × z_M) → Option (Int32 × z_M)) (kx : (Int32 × z_M) → Option (Int32 × z_M)) (hkb : ∀ q, kb q = some res → z_V p l e R s m args below meth c 3 g z_shR (MQ below (z_Qc g z_shR (fun v u' => v = some (.int res.1) ∧ u' = res.2)) args s 0 0 (z_A g z_shR)) 58 [(0, .ref (z_ad g 0)), (1, .int q.1)] [] q.2) (hkx : ∀ t, kx t = some res → z_V p l e R s m args below meth c 3 g z_shR (MQ below (z_Qc g z_shR (fun v u' => v = some (.int res.1) ∧ u' = res.2)) args s 0 0 (z_A g z_shR)) 78 [(0, .ref (z_ad g 0)), (1, .int t.1)] [] t.2) (h : b_X10_order_58 q kb kx = some res) : z_V p l e R s m args below meth c 3 g z_shR (MQ below (z_Qc g z_shR (fun v u' => v = some (.int res.1) ∧ u' = res.2)) args s 0 0 (z_A g z_shR)) 58 [(0, .ref (z_ad g 0)), (1, .int q.1)] [] q.2 := by
  unfold b_X10_order_58 at h
  obtain ⟨r12, u13, er12, h⟩ := z_b2s h
  refine z_aload_n X 0 dX10_order_58 rfl rfl (z_bipush X (v := 59) dX10_order_59 (by decide) (z_callVi X (r := r12) (u1 := u13) [.int 59] [] (w_X10_takes l g 59 q.2 er12) z_r0 rfl gX10_order_X10_takes hy_X10_takes rfl (z_le1 hR (by decide)) (z_le2 hR (by decide) (by decide)) (Nat.le_of_ble_eq_true rfl) dX10_order_61 (z_if_eq X 78 dX10_order_64 (by decide) (fun c14 => ?_) (fun c14 => ?_))))
  · replace h := z_ip c14 h
    exact hkx (q.1, u13) h
  · replace h := z_in c14 h
    obtain ⟨r15, er15, h⟩ := z_bs h
    refine z_aload_n X 0 dX10_order_67 rfl rfl (z_iload_n X 1 dX10_order_68 rfl rfl (z_callVv X (u1 := r15) [.int q.1] [] (w_X10_readLine l g q.1 u13 er15) z_r0 rfl gX10_order_X10_readLine hy_X10_readLine rfl (z_le1 hR (by decide)) (z_le2 hR (by decide) (by decide)) (Nat.le_of_ble_eq_true rfl) dX10_order_69 (z_iinc X (v := q.1 + 1) 1 [(1, .int (q.1 + 1)), (0, .ref (z_ad g 0))] dX10_order_72 rfl rfl (by decide) rfl (z_goto X 58 dX10_order_75 (by decide) (z_sub [1, 0] [(0, .ref (z_ad g 0)), (1, .int (q.1 + 1))] rfl ?_)))))
    exact hkb (q.1 + 1, r15) h
set_option maxRecDepth 20000 in
set_option maxHeartbeats 4000000 in
theorem wb_X10_order_126 {p : Program} {l : Launch} {e : Env} {R : Room} {s : State} {m : MethodId} {args : Array Value} {below : List Frame} {meth : Method} {c : Code} {g : z_G} {u : z_M} {res : Int32 × z_M} (hR : R = z_rm 9) (X : z_X p R s m args meth c cX10_order 3 RX10 wsX10_order (some .int) g z_shR) (x1 : Int32) (q : Int32 × z_M) (kb : (Int32 × z_M) → Option (Int32 × z_M)) (kx : z_M → Option (Int32 × z_M)) (hkb : ∀ q, kb q = some res → z_V p l e R s m args below meth c 3 g z_shR (MQ below (z_Qc g z_shR (fun v u' => v = some (.int res.1) ∧ u' = res.2)) args s 0 0 (z_A g z_shR)) 126 [(0, .ref (z_ad g 0)), (1, .int x1), (2, .int q.1)] [] q.2) (hkx : ∀ t, kx t = some res → z_V p l e R s m args below meth c 3 g z_shR (MQ below (z_Qc g z_shR (fun v u' => v = some (.int res.1) ∧ u' = res.2)) args s 0 0 (z_A g z_shR)) 150 [(0, .ref (z_ad g 0)), (1, .int x1)] [] t) (h : b_X10_order_126 x1 q kb kx = some res) : z_V p l e R s m args below meth c 3 g z_shR (MQ below (z_Qc g z_shR (fun v u' => v = some (.int res.1) ∧ u' = res.2)) args s 0 0 (z_A g z_shR)) 126 [(0, .ref (z_ad g 0)), (1, .int x1), (2, .int q.1)] [] q.2 := by
  unfold b_X10_order_126 at h
  refine z_iload_n X 2 dX10_order_126 rfl rfl (z_bipush X (v := 93) dX10_order_127 (by decide) (z_icmp_ge X 150 dX10_order_129 (by decide) (fun c22 => ?_) (fun c22 => ?_)))
  · replace h := z_ip c22 h
    refine z_sub [0, 1] [(0, .ref (z_ad g 0)), (1, .int x1)] rfl ?_
    exact hkx q.2 h
  · replace h := z_in c22 h
    obtain ⟨b23, h⟩ := z_gs h
    obtain ⟨b24, h⟩ := z_gs h
    obtain ⟨u25, eu25, h⟩ := z_ls h
    refine z_aload_n X 0 dX10_order_132 rfl rfl (z_getR X (k0 := 1) z_r0 rfl in_X10_order_X10 (by decide) rfl rfl lk_X10_order_9 dX10_order_133 (z_iload_n X 2 dX10_order_136 rfl rfl (z_aload_n X 0 dX10_order_137 rfl rfl (z_getR X (k0 := 2) z_r0 rfl in_X10_order_X10 (by decide) rfl rfl lk_X10_order_15 dX10_order_138 (z_iload_n X 2 dX10_order_141 rfl rfl (z_iald X z_r2 (z_inS b23) dX10_order_142 (z_iast X z_r1 (z_inS b24) dX10_order_143 (z_nm eu25 (z_iinc X (v := q.1 + 1) 2 [(2, .int (q.1 + 1)), (0, .ref (z_ad g 0)), (1, .int x1)] dX10_order_144 rfl rfl (by decide) rfl (z_goto X 126 dX10_order_147 (by decide) (z_sub [1, 2, 0] [(0, .ref (z_ad g 0)), (1, .int x1), (2, .int (q.1 + 1))] rfl ?_)))))))))))
    exact hkb (q.1 + 1, u25) h
set_option maxRecDepth 20000 in
set_option maxHeartbeats 4000000 in
theorem w_X10_order (l : Launch) (g : z_G)  (u : z_M) {res : Int32 × z_M} (h : f_X10_order u = some res) : z_C l g z_shR yX10_order wsX10_order 9 [.ref (z_ad g 0)] u (fun v u' => v = some (.int res.1) ∧ u' = res.2) := by
  refine z_C.mk (lv := [(0, .ref (z_ad g 0))]) (cc := cX10_order) (nL := 3) (rt := (some .int)) rfl (by decide) (Nat.le_of_ble_eq_true rfl) rfl (fun p e R s m args below meth c hR X => ?_)
  unfold f_X10_order at h
  obtain ⟨u1, eu1, h⟩ := z_ls h
  obtain ⟨u2, eu2, h⟩ := z_ls h
  obtain ⟨u3, eu3, h⟩ := z_ls h
  obtain ⟨u4, eu4, h⟩ := z_ls h
  obtain ⟨u5, eu5, h⟩ := z_ls h
  obtain ⟨u6, eu6, h⟩ := z_ls h
  refine z_aload_n X 0 dX10_order_0 rfl rfl (z_iconst X (v := 0) dX10_order_1 (by decide) (z_putI X (k0 := 0) (ty0 := tyX10) z_r0 rfl in_X10_order_X10 tyX10_ok nmX10 (by decide) rfl rfl rfl rfl rfl lk_X10_order_82 dX10_order_2 (z_nm eu1 (z_aload_n X 0 dX10_order_5 rfl rfl (z_iconst X (v := 0) dX10_order_6 (by decide) (z_putI X (k0 := 9) (ty0 := tyX10) z_r0 rfl in_X10_order_X10 tyX10_ok nmX10 (by decide) rfl rfl rfl rfl rfl lk_X10_order_126 dX10_order_7 (z_nm eu2 (z_aload_n X 0 dX10_order_10 rfl rfl (z_iconst X (v := 1) dX10_order_11 (by decide) (z_putI X (k0 := 12) (ty0 := tyX10) z_r0 rfl in_X10_order_X10 tyX10_ok nmX10 (by decide) rfl rfl rfl rfl rfl lk_X10_order_122 dX10_order_12 (z_nm eu3 (z_aload_n X 0 dX10_order_15 rfl rfl (z_iconst X (v := 0) dX10_order_16 (by decide) (z_putI X (k0 := 10) (ty0 := tyX10) z_r0 rfl in_X10_order_X10 tyX10_ok nmX10 (by decide) rfl rfl rfl rfl rfl lk_X10_order_119 dX10_order_17 (z_nm eu4 (z_aload_n X 0 dX10_order_20 rfl rfl (z_iconst X (v := (-1)) dX10_order_21 (by decide) (z_putI X (k0 := 11) (ty0 := tyX10) z_r0 rfl in_X10_order_X10 tyX10_ok nmX10 (by decide) rfl rfl rfl rfl rfl lk_X10_order_32 dX10_order_22 (z_nm eu5 (z_aload_n X 0 dX10_order_25 rfl rfl (z_iconst X (v := 0) dX10_order_26 (by decide) (z_putI X (k0 := 13) (ty0 := tyX10) z_r0 rfl in_X10_order_X10 tyX10_ok nmX10 (by decide) rfl rfl rfl rfl rfl lk_X10_order_181 dX10_order_27 (z_nm eu6 (z_iconst X (v := 0) dX10_order_30 (by decide) (z_istore_n X [(1, .int 0), (0, .ref (z_ad g 0))] dX10_order_31 rfl (by decide) rfl (z_sub [1, 0] [(0, .ref (z_ad g 0)), (1, .int 0)] rfl ?_))))))))))))))))))))))))))
  have hw := z_lp_w (fun q9 kb9 kx9 h1 h2 h3 => wb_X10_order_32 (l := l) (e := e) (below := below) (u := u6) hR X q9 kb9 kx9 h1 h2 h3) z_F _ _ h
  refine hw (fun t10 h => ?_)
  obtain ⟨r11, er11, h⟩ := z_bs h
  refine z_iconst X (v := 1) dX10_order_51 (by decide) (z_istore_n X [(1, .int 1), (0, .ref (z_ad g 0))] dX10_order_52 rfl (by decide) rfl (z_aload_n X 1 dX10_order_53 rfl rfl (z_iconst X (v := 0) dX10_order_54 (by decide) (z_callVv X (u1 := r11) [.int 0] [] (w_X10_readLine l g 0 t10 er11) z_r0 rfl gX10_order_X10_readLine hy_X10_readLine rfl (z_le1 hR (by decide)) (z_le2 hR (by decide) (by decide)) (Nat.le_of_ble_eq_true rfl) dX10_order_55 (z_sub [1, 0] [(0, .ref (z_ad g 0)), (1, .int 1)] rfl ?_)))))
  have hw := z_lp_w (fun q9 kb9 kx9 h1 h2 h3 => wb_X10_order_58 (l := l) (e := e) (below := below) (u := r11) hR X q9 kb9 kx9 h1 h2 h3) z_F _ _ h
  refine hw (fun t16 h => ?_)
  obtain ⟨r17, u18, er17, h⟩ := z_b2s h
  refine z_aload_n X 0 dX10_order_78 rfl rfl (z_callVi X (r := r17) (u1 := u18) [] [] (w_X10_next l g t16.2 er17) z_r0 rfl gX10_order_X10_next hy_X10_next rfl (z_le1 hR (by decide)) (z_le2 hR (by decide) (by decide)) (Nat.le_of_ble_eq_true rfl) dX10_order_79 (z_pop X dX10_order_82 rfl (z_aload_n X 0 dX10_order_83 rfl rfl (z_getI X (k0 := 12) z_r0 rfl in_X10_order_X10 (by decide) rfl rfl lk_X10_order_122 dX10_order_84 (z_if_eq X 110 dX10_order_87 (by decide) (fun c19 => ?_) (fun c19 => ?_))))))
  · replace h := z_ip c19 h
    obtain ⟨u20, eu20, h⟩ := z_ls h
    refine z_aload_n X 0 dX10_order_110 rfl rfl (z_iconst X (v := 0) dX10_order_111 (by decide) (z_putI X (k0 := 8) (ty0 := tyX10) z_r0 rfl in_X10_order_X10 tyX10_ok nmX10 (by decide) rfl rfl rfl rfl rfl lk_X10_order_116 dX10_order_112 (z_nm eu20 (z_aload_n X 0 dX10_order_115 rfl rfl (z_getI X (k0 := 12) z_r0 rfl in_X10_order_X10 (by decide) rfl rfl lk_X10_order_122 dX10_order_116 (z_if_ne X 124 dX10_order_119 (by decide) (fun c21 => ?_) (fun c21 => ?_)))))))
    · replace h := z_in c21 h
      refine z_iconst X (v := 0) dX10_order_124 (by decide) (z_istore_n X [(2, .int 0), (0, .ref (z_ad g 0)), (1, .int t16.1)] dX10_order_125 rfl (by decide) rfl (z_sub [1, 2, 0] [(0, .ref (z_ad g 0)), (1, .int t16.1), (2, .int 0)] rfl ?_))
      have hw := z_lp_w (fun q9 kb9 kx9 h1 h2 h3 => wb_X10_order_126 (l := l) (e := e) (below := below) (u := u20) hR X t16.1 q9 kb9 kx9 h1 h2 h3) z_F _ _ h
      refine hw (fun t26 h => ?_)
      obtain ⟨u27, eu27, h⟩ := z_ls h
      obtain ⟨b28, h⟩ := z_gs h
      obtain ⟨u29, eu29, h⟩ := z_ls h
      obtain ⟨b30, h⟩ := z_gs h
      obtain ⟨u31, eu31, h⟩ := z_ls h
      refine z_aload_n X 0 dX10_order_150 rfl rfl (z_iconst X (v := 0) dX10_order_151 (by decide) (z_putI X (k0 := 4) (ty0 := tyX10) z_r0 rfl in_X10_order_X10 tyX10_ok nmX10 (by decide) rfl rfl rfl rfl rfl lk_X10_order_113 dX10_order_152 (z_nm eu27 (z_aload_n X 0 dX10_order_155 rfl rfl (z_getR X (k0 := 6) z_r0 rfl in_X10_order_X10 (by decide) rfl rfl lk_X10_order_24 dX10_order_156 (z_iconst X (v := 0) dX10_order_159 (by decide) (z_iconst X (v := 0) dX10_order_160 (by decide) (z_zast X z_r5 (z_inS b28) dX10_order_161 (z_nm eu29 (z_aload_n X 0 dX10_order_162 rfl rfl (z_getR X (k0 := 6) z_r0 rfl in_X10_order_X10 (by decide) rfl rfl lk_X10_order_24 dX10_order_163 (z_iconst X (v := 1) dX10_order_166 (by decide) (z_iconst X (v := 0) dX10_order_167 (by decide) (z_zast X z_r5 (z_inS b30) dX10_order_168 (z_nm eu31 (z_iload_n X 1 dX10_order_169 rfl rfl ?_))))))))))))))))
      cases h; exact z_iret X rfl dX10_order_170 ⟨rfl, rfl⟩
    · replace h := z_ip c21 h
      refine z_iconst X (v := (-1)) dX10_order_122 (by decide) ?_
      cases h; exact z_iret X rfl dX10_order_123 ⟨rfl, rfl⟩
  · replace h := z_in c19 h
    refine z_aload_n X 0 dX10_order_90 rfl rfl (z_getI X (k0 := 9) z_r0 rfl in_X10_order_X10 (by decide) rfl rfl lk_X10_order_126 dX10_order_91 (z_aload_n X 0 dX10_order_94 rfl rfl (z_getI X (k0 := 8) z_r0 rfl in_X10_order_X10 (by decide) rfl rfl lk_X10_order_116 dX10_order_95 (z_icmp_ge X 110 dX10_order_98 (by decide) (fun c32 => ?_) (fun c32 => ?_)))))
    · replace h := z_ip c32 h
      obtain ⟨u33, eu33, h⟩ := z_ls h
      refine z_aload_n X 0 dX10_order_110 rfl rfl (z_iconst X (v := 0) dX10_order_111 (by decide) (z_putI X (k0 := 8) (ty0 := tyX10) z_r0 rfl in_X10_order_X10 tyX10_ok nmX10 (by decide) rfl rfl rfl rfl rfl lk_X10_order_116 dX10_order_112 (z_nm eu33 (z_aload_n X 0 dX10_order_115 rfl rfl (z_getI X (k0 := 12) z_r0 rfl in_X10_order_X10 (by decide) rfl rfl lk_X10_order_122 dX10_order_116 (z_if_ne X 124 dX10_order_119 (by decide) (fun c34 => ?_) (fun c34 => ?_)))))))
      · replace h := z_in c34 h
        refine z_iconst X (v := 0) dX10_order_124 (by decide) (z_istore_n X [(2, .int 0), (0, .ref (z_ad g 0)), (1, .int t16.1)] dX10_order_125 rfl (by decide) rfl (z_sub [1, 2, 0] [(0, .ref (z_ad g 0)), (1, .int t16.1), (2, .int 0)] rfl ?_))
        have hw := z_lp_w (fun q9 kb9 kx9 h1 h2 h3 => wb_X10_order_126 (l := l) (e := e) (below := below) (u := u33) hR X t16.1 q9 kb9 kx9 h1 h2 h3) z_F _ _ h
        refine hw (fun t35 h => ?_)
        obtain ⟨u36, eu36, h⟩ := z_ls h
        obtain ⟨b37, h⟩ := z_gs h
        obtain ⟨u38, eu38, h⟩ := z_ls h
        obtain ⟨b39, h⟩ := z_gs h
        obtain ⟨u40, eu40, h⟩ := z_ls h
        refine z_aload_n X 0 dX10_order_150 rfl rfl (z_iconst X (v := 0) dX10_order_151 (by decide) (z_putI X (k0 := 4) (ty0 := tyX10) z_r0 rfl in_X10_order_X10 tyX10_ok nmX10 (by decide) rfl rfl rfl rfl rfl lk_X10_order_113 dX10_order_152 (z_nm eu36 (z_aload_n X 0 dX10_order_155 rfl rfl (z_getR X (k0 := 6) z_r0 rfl in_X10_order_X10 (by decide) rfl rfl lk_X10_order_24 dX10_order_156 (z_iconst X (v := 0) dX10_order_159 (by decide) (z_iconst X (v := 0) dX10_order_160 (by decide) (z_zast X z_r5 (z_inS b37) dX10_order_161 (z_nm eu38 (z_aload_n X 0 dX10_order_162 rfl rfl (z_getR X (k0 := 6) z_r0 rfl in_X10_order_X10 (by decide) rfl rfl lk_X10_order_24 dX10_order_163 (z_iconst X (v := 1) dX10_order_166 (by decide) (z_iconst X (v := 0) dX10_order_167 (by decide) (z_zast X z_r5 (z_inS b39) dX10_order_168 (z_nm eu40 (z_iload_n X 1 dX10_order_169 rfl rfl ?_))))))))))))))))
        cases h; exact z_iret X rfl dX10_order_170 ⟨rfl, rfl⟩
      · replace h := z_ip c34 h
        refine z_iconst X (v := (-1)) dX10_order_122 (by decide) ?_
        cases h; exact z_iret X rfl dX10_order_123 ⟨rfl, rfl⟩
    · replace h := z_in c32 h
      obtain ⟨r41, er41, h⟩ := z_bs h
      obtain ⟨u42, eu42, h⟩ := z_ls h
      refine z_aload_n X 0 dX10_order_101 rfl rfl (z_iconst X (v := 1) dX10_order_102 (by decide) (z_aload_n X 0 dX10_order_103 rfl rfl (z_getI X (k0 := 9) z_r0 rfl in_X10_order_X10 (by decide) rfl rfl lk_X10_order_126 dX10_order_104 (z_callVv X (u1 := r41) [.int 1, .int (z_gI u18 0 9)] [] (w_X10_wrong l g 1 (z_gI u18 0 9) u18 er41) z_r0 rfl gX10_order_X10_wrong hy_X10_wrong rfl (z_le1 hR (by decide)) (z_le2 hR (by decide) (by decide)) (Nat.le_of_ble_eq_true rfl) dX10_order_107 (z_aload_n X 0 dX10_order_110 rfl rfl (z_iconst X (v := 0) dX10_order_111 (by decide) (z_putI X (k0 := 8) (ty0 := tyX10) z_r0 rfl in_X10_order_X10 tyX10_ok nmX10 (by decide) rfl rfl rfl rfl rfl lk_X10_order_116 dX10_order_112 (z_nm eu42 (z_aload_n X 0 dX10_order_115 rfl rfl (z_getI X (k0 := 12) z_r0 rfl in_X10_order_X10 (by decide) rfl rfl lk_X10_order_122 dX10_order_116 (z_if_ne X 124 dX10_order_119 (by decide) (fun c43 => ?_) (fun c43 => ?_))))))))))))
      · replace h := z_in c43 h
        refine z_iconst X (v := 0) dX10_order_124 (by decide) (z_istore_n X [(2, .int 0), (0, .ref (z_ad g 0)), (1, .int t16.1)] dX10_order_125 rfl (by decide) rfl (z_sub [1, 2, 0] [(0, .ref (z_ad g 0)), (1, .int t16.1), (2, .int 0)] rfl ?_))
        have hw := z_lp_w (fun q9 kb9 kx9 h1 h2 h3 => wb_X10_order_126 (l := l) (e := e) (below := below) (u := u42) hR X t16.1 q9 kb9 kx9 h1 h2 h3) z_F _ _ h
        refine hw (fun t44 h => ?_)
        obtain ⟨u45, eu45, h⟩ := z_ls h
        obtain ⟨b46, h⟩ := z_gs h
        obtain ⟨u47, eu47, h⟩ := z_ls h
        obtain ⟨b48, h⟩ := z_gs h
        obtain ⟨u49, eu49, h⟩ := z_ls h
        refine z_aload_n X 0 dX10_order_150 rfl rfl (z_iconst X (v := 0) dX10_order_151 (by decide) (z_putI X (k0 := 4) (ty0 := tyX10) z_r0 rfl in_X10_order_X10 tyX10_ok nmX10 (by decide) rfl rfl rfl rfl rfl lk_X10_order_113 dX10_order_152 (z_nm eu45 (z_aload_n X 0 dX10_order_155 rfl rfl (z_getR X (k0 := 6) z_r0 rfl in_X10_order_X10 (by decide) rfl rfl lk_X10_order_24 dX10_order_156 (z_iconst X (v := 0) dX10_order_159 (by decide) (z_iconst X (v := 0) dX10_order_160 (by decide) (z_zast X z_r5 (z_inS b46) dX10_order_161 (z_nm eu47 (z_aload_n X 0 dX10_order_162 rfl rfl (z_getR X (k0 := 6) z_r0 rfl in_X10_order_X10 (by decide) rfl rfl lk_X10_order_24 dX10_order_163 (z_iconst X (v := 1) dX10_order_166 (by decide) (z_iconst X (v := 0) dX10_order_167 (by decide) (z_zast X z_r5 (z_inS b48) dX10_order_168 (z_nm eu49 (z_iload_n X 1 dX10_order_169 rfl rfl ?_))))))))))))))))
        cases h; exact z_iret X rfl dX10_order_170 ⟨rfl, rfl⟩
      · replace h := z_ip c43 h
        refine z_iconst X (v := (-1)) dX10_order_122 (by decide) ?_
        cases h; exact z_iret X rfl dX10_order_123 ⟨rfl, rfl⟩

theorem lk_X10_pairs_9 : (Cond.fieldLink RX10 9 RX10 (TX10 1).2.1 (TX10 1).2.2.1) ∈ wsX10_pairs := by decide +kernel
theorem in_X10_pairs_X10 : ∀ w ∈ u_ws RX10 TX10 30, w ∈ wsX10_pairs := by decide +kernel
theorem hy_X10_bits : yX10_bits.cls = RX10 ∧ yX10_bits.cls ≠ "java/lang/invoke/MethodHandle" ∧ yX10_bits.cls ≠ "java/lang/invoke/VarHandle" ∧ (parseMethodDescriptor yX10_bits.desc).map (fun d => d.parameters.length) = some 1 := by decide +kernel
def b_X10_pairs_4 (u : z_M) : (Int32 × Int32) → ((Int32 × Int32) → Option (Int32)) → (Int32 → Option (Int32)) → Option (Int32) := fun q kb kx =>
  if 9 ≤ q.2 then (kx q.1) else (z_gd (z_inb 1 93) (Option.bind (f_X10_has (z_gI u 1 (1 : Int32).toNatClampNeg) q.2) (fun r3 => if r3 = 0 then (z_lt (q.1 + 0) (fun v5 => kb (v5, q.2 + 1))) else (Option.bind (f_X10_above q.2 u) (fun r6 => Option.bind (f_X10_bits r6) (fun r7 => z_lt (q.1 + r7) (fun v8 => kb (v8, q.2 + 1))))))))
def f_X10_pairs (u : z_M) : Option (Int32) :=
  z_lp (b_X10_pairs_4 u) z_F (0, 0) (fun t9 => some t9)
set_option maxRecDepth 20000 in
set_option maxHeartbeats 4000000 in
theorem wb_X10_pairs_4 {p : Program} {l : Launch} {e : Env} {R : Room} {s : State} {m : MethodId} {args : Array Value} {below : List Frame} {meth : Method} {c : Code} {g : z_G} {u : z_M} {res : Int32} (hR : R = z_rm 2) (X : z_X p R s m args meth c cX10_pairs 3 RX10 wsX10_pairs (some .int) g z_shR)  (q : Int32 × Int32) (kb : (Int32 × Int32) → Option (Int32)) (kx : Int32 → Option (Int32)) (hkb : ∀ q, kb q = some res → z_V p l e R s m args below meth c 3 g z_shR (MQ below (z_Qc g z_shR (fun v u' => v = some (.int res) ∧ u' = u)) args s 0 0 (z_A g z_shR)) 4 [(0, .ref (z_ad g 0)), (1, .int q.1), (2, .int q.2)] [] u) (hkx : ∀ t, kx t = some res → z_V p l e R s m args below meth c 3 g z_shR (MQ below (z_Qc g z_shR (fun v u' => v = some (.int res) ∧ u' = u)) args s 0 0 (z_A g z_shR)) 44 [(1, .int t)] [] u) (h : b_X10_pairs_4 u q kb kx = some res) : z_V p l e R s m args below meth c 3 g z_shR (MQ below (z_Qc g z_shR (fun v u' => v = some (.int res) ∧ u' = u)) args s 0 0 (z_A g z_shR)) 4 [(0, .ref (z_ad g 0)), (1, .int q.1), (2, .int q.2)] [] u := by
  unfold b_X10_pairs_4 at h
  refine z_iload_n X 2 dX10_pairs_4 rfl rfl (z_bipush X (v := 9) dX10_pairs_5 (by decide) (z_icmp_ge X 44 dX10_pairs_7 (by decide) (fun c1 => ?_) (fun c1 => ?_)))
  · replace h := z_ip c1 h
    refine z_sub [1] [(1, .int q.1)] rfl ?_
    exact hkx q.1 h
  · replace h := z_in c1 h
    obtain ⟨b2, h⟩ := z_gs h
    obtain ⟨r3, er3, h⟩ := z_bs h
    refine z_iload_n X 1 dX10_pairs_10 rfl rfl (z_aload_n X 0 dX10_pairs_11 rfl rfl (z_getR X (k0 := 1) z_r0 rfl in_X10_pairs_X10 (by decide) rfl rfl lk_X10_pairs_9 dX10_pairs_12 (z_iconst X (v := 1) dX10_pairs_15 (by decide) (z_iald X z_r1 (z_inS b2) dX10_pairs_16 (z_iload_n X 2 dX10_pairs_17 rfl rfl (z_callSi X (r := r3) (u1 := u) [.int (z_gI u 1 (1 : Int32).toNatClampNeg), .int q.2] [.int q.1] (w_X10_has l g (z_gI u 1 (1 : Int32).toNatClampNeg) q.2 u er3) gX10_pairs_X10_has hy_X10_has.2 rfl (z_le1 hR (by decide)) (z_le2 hR (by decide) (by decide)) (Nat.le_of_ble_eq_true rfl) dX10_pairs_18 (z_if_eq X 35 dX10_pairs_21 (by decide) (fun c4 => ?_) (fun c4 => ?_))))))))
    · replace h := z_ip c4 h
      obtain ⟨v5, ev5, h⟩ := z_ls h
      refine z_iconst X (v := 0) dX10_pairs_35 (by decide) (z_iadd X dX10_pairs_36 (z_ti ev5 (z_istore_n X [(1, .int v5), (0, .ref (z_ad g 0)), (2, .int q.2)] dX10_pairs_37 rfl (by decide) rfl (z_iinc X (v := q.2 + 1) 2 [(2, .int (q.2 + 1)), (1, .int v5), (0, .ref (z_ad g 0))] dX10_pairs_38 rfl rfl (by decide) rfl (z_goto X 4 dX10_pairs_41 (by decide) (z_sub [2, 1, 0] [(0, .ref (z_ad g 0)), (1, .int v5), (2, .int (q.2 + 1))] rfl ?_))))))
      exact hkb (v5, q.2 + 1) h
    · replace h := z_in c4 h
      obtain ⟨r6, er6, h⟩ := z_bs h
      obtain ⟨r7, er7, h⟩ := z_bs h
      obtain ⟨v8, ev8, h⟩ := z_ls h
      refine z_aload_n X 0 dX10_pairs_24 rfl rfl (z_iload_n X 2 dX10_pairs_25 rfl rfl (z_callVi X (r := r6) (u1 := u) [.int q.2] [.int q.1] (w_X10_above l g q.2 u er6) z_r0 rfl gX10_pairs_X10_above hy_X10_above rfl (z_le1 hR (by decide)) (z_le2 hR (by decide) (by decide)) (Nat.le_of_ble_eq_true rfl) dX10_pairs_26 (z_callSi X (r := r7) (u1 := u) [.int r6] [.int q.1] (w_X10_bits l g r6 u er7) gX10_pairs_X10_bits hy_X10_bits.2 rfl (z_le1 hR (by decide)) (z_le2 hR (by decide) (by decide)) (Nat.le_of_ble_eq_true rfl) dX10_pairs_29 (z_goto X 36 dX10_pairs_32 (by decide) (z_iadd X dX10_pairs_36 (z_ti ev8 (z_istore_n X [(1, .int v8), (0, .ref (z_ad g 0)), (2, .int q.2)] dX10_pairs_37 rfl (by decide) rfl (z_iinc X (v := q.2 + 1) 2 [(2, .int (q.2 + 1)), (1, .int v8), (0, .ref (z_ad g 0))] dX10_pairs_38 rfl rfl (by decide) rfl (z_goto X 4 dX10_pairs_41 (by decide) (z_sub [2, 1, 0] [(0, .ref (z_ad g 0)), (1, .int v8), (2, .int (q.2 + 1))] rfl ?_))))))))))
      exact hkb (v8, q.2 + 1) h
set_option maxRecDepth 20000 in
set_option maxHeartbeats 4000000 in
theorem w_X10_pairs (l : Launch) (g : z_G)  (u : z_M) {res : Int32} (h : f_X10_pairs u = some res) : z_C l g z_shR yX10_pairs wsX10_pairs 2 [.ref (z_ad g 0)] u (fun v u' => v = some (.int res) ∧ u' = u) := by
  refine z_C.mk (lv := [(0, .ref (z_ad g 0))]) (cc := cX10_pairs) (nL := 3) (rt := (some .int)) rfl (by decide) (Nat.le_of_ble_eq_true rfl) rfl (fun p e R s m args below meth c hR X => ?_)
  unfold f_X10_pairs at h
  refine z_iconst X (v := 0) dX10_pairs_0 (by decide) (z_istore_n X [(1, .int 0), (0, .ref (z_ad g 0))] dX10_pairs_1 rfl (by decide) rfl (z_iconst X (v := 0) dX10_pairs_2 (by decide) (z_istore_n X [(2, .int 0), (1, .int 0), (0, .ref (z_ad g 0))] dX10_pairs_3 rfl (by decide) rfl (z_sub [2, 1, 0] [(0, .ref (z_ad g 0)), (1, .int 0), (2, .int 0)] rfl ?_))))
  have hw := z_lp_w (fun q9 kb9 kx9 h1 h2 h3 => wb_X10_pairs_4 (l := l) (e := e) (below := below) (u := u) hR X q9 kb9 kx9 h1 h2 h3) z_F _ _ h
  refine hw (fun t9 h => ?_)
  refine z_iload_n X 0 dX10_pairs_44 rfl rfl ?_
  cases h; exact z_iret X rfl dX10_pairs_45 ⟨rfl, rfl⟩

theorem lk_X10_relate_82 : (Cond.fieldLink RX10 82 RX10 (TX10 0).2.1 (TX10 0).2.2.1) ∈ wsX10_relate := by decide +kernel
theorem in_X10_relate_X10 : ∀ w ∈ u_ws RX10 TX10 30, w ∈ wsX10_relate := fun _ h => List.mem_cons_of_mem _ (List.mem_append_right _ h)
theorem lk_X10_relate_9 : (Cond.fieldLink RX10 9 RX10 (TX10 1).2.1 (TX10 1).2.2.1) ∈ wsX10_relate := by decide +kernel
theorem hy_X10_areThere : yX10_areThere.cls = RX10 ∧ yX10_areThere.cls ≠ "java/lang/invoke/MethodHandle" ∧ yX10_areThere.cls ≠ "java/lang/invoke/VarHandle" ∧ (parseMethodDescriptor yX10_areThere.desc).map (fun d => d.parameters.length) = some 2 := by decide +kernel
theorem hy_X10_pairs : yX10_pairs.cls = RX10 ∧ yX10_pairs.cls ≠ "java/lang/invoke/MethodHandle" ∧ yX10_pairs.cls ≠ "java/lang/invoke/VarHandle" ∧ (parseMethodDescriptor yX10_pairs.desc).map (fun d => d.parameters.length) = some 0 := by decide +kernel
theorem hy_X10_remember : yX10_remember.cls = RX10 ∧ yX10_remember.cls ≠ "java/lang/invoke/MethodHandle" ∧ yX10_remember.cls ≠ "java/lang/invoke/VarHandle" ∧ (parseMethodDescriptor yX10_remember.desc).map (fun d => d.parameters.length) = some 0 := by decide +kernel
def f_X10_relate (a1 : Int32) (a2 : Int32) (u : z_M) : Option (Int32 × z_M) :=
  z_lt (z_sI u 0 0 0) (fun u1 => Option.bind (f_X10_areThere a1 a2 u1) (fun r2 => if r2 = 0 then (some ((-1), u1)) else (if a1 = a2 then (some ((-2), u1)) else (Option.bind (f_X10_isBelow a2 a1 u1) (fun r5 => if r5 = 0 then (Option.bind (f_X10_remember u1) (fun r7 => Option.bind (f_X10_relates 1 93 a1 a2 r7) (fun r8 => Option.bind (f_X10_pairs r8) (fun r9 => some (r9, r8))))) else (some ((-2), u1)))))))
set_option maxRecDepth 20000 in
set_option maxHeartbeats 4000000 in
theorem w_X10_relate (l : Launch) (g : z_G) (a1 : Int32) (a2 : Int32) (u : z_M) {res : Int32 × z_M} (h : f_X10_relate a1 a2 u = some res) : z_C l g z_shR yX10_relate wsX10_relate 4 [.ref (z_ad g 0), .int a1, .int a2] u (fun v u' => v = some (.int res.1) ∧ u' = res.2) := by
  refine z_C.mk (lv := [(0, .ref (z_ad g 0)), (1, .int a1), (2, .int a2)]) (cc := cX10_relate) (nL := 3) (rt := (some .int)) rfl (by decide) (Nat.le_of_ble_eq_true rfl) rfl (fun p e R s m args below meth c hR X => ?_)
  unfold f_X10_relate at h
  obtain ⟨u1, eu1, h⟩ := z_ls h
  obtain ⟨r2, er2, h⟩ := z_bs h
  refine z_aload_n X 0 dX10_relate_0 rfl rfl (z_iconst X (v := 0) dX10_relate_1 (by decide) (z_putI X (k0 := 0) (ty0 := tyX10) z_r0 rfl in_X10_relate_X10 tyX10_ok nmX10 (by decide) rfl rfl rfl rfl rfl lk_X10_relate_82 dX10_relate_2 (z_nm eu1 (z_aload_n X 0 dX10_relate_5 rfl rfl (z_iload_n X 1 dX10_relate_6 rfl rfl (z_iload_n X 2 dX10_relate_7 rfl rfl (z_callVi X (r := r2) (u1 := u1) [.int a1, .int a2] [] (w_X10_areThere l g a1 a2 u1 er2) z_r0 rfl gX10_relate_X10_areThere hy_X10_areThere rfl (z_le1 hR (by decide)) (z_le2 hR (by decide) (by decide)) (Nat.le_of_ble_eq_true rfl) dX10_relate_8 (z_if_ne X 16 dX10_relate_11 (by decide) (fun c3 => ?_) (fun c3 => ?_)))))))))
  · replace h := z_in c3 h
    refine z_iload_n X 1 dX10_relate_16 rfl rfl (z_iload_n X 2 dX10_relate_17 rfl rfl (z_icmp_eq X 30 dX10_relate_18 (by decide) (fun c4 => ?_) (fun c4 => ?_)))
    · replace h := z_ip c4 h
      refine z_bipush X (v := (-2)) dX10_relate_30 (by decide) ?_
      cases h; exact z_iret X rfl dX10_relate_32 ⟨rfl, rfl⟩
    · replace h := z_in c4 h
      obtain ⟨r5, er5, h⟩ := z_bs h
      refine z_aload_n X 0 dX10_relate_21 rfl rfl (z_iload_n X 2 dX10_relate_22 rfl rfl (z_iload_n X 1 dX10_relate_23 rfl rfl (z_callVi X (r := r5) (u1 := u1) [.int a2, .int a1] [] (w_X10_isBelow l g a2 a1 u1 er5) z_r0 rfl gX10_relate_X10_isBelow hy_X10_isBelow rfl (z_le1 hR (by decide)) (z_le2 hR (by decide) (by decide)) (Nat.le_of_ble_eq_true rfl) dX10_relate_24 (z_if_eq X 33 dX10_relate_27 (by decide) (fun c6 => ?_) (fun c6 => ?_)))))
      · replace h := z_ip c6 h
        obtain ⟨r7, er7, h⟩ := z_bs h
        obtain ⟨r8, er8, h⟩ := z_bs h
        obtain ⟨r9, er9, h⟩ := z_bs h
        refine z_aload_n X 0 dX10_relate_33 rfl rfl (z_callVv X (u1 := r7) [] [] (w_X10_remember l g u1 er7) z_r0 rfl gX10_relate_X10_remember hy_X10_remember rfl (z_le1 hR (by decide)) (z_le2 hR (by decide) (by decide)) (Nat.le_of_ble_eq_true rfl) dX10_relate_34 (z_aload_n X 0 dX10_relate_37 rfl rfl (z_getR X (k0 := 1) z_r0 rfl in_X10_relate_X10 (by decide) rfl rfl lk_X10_relate_9 dX10_relate_38 (z_iload_n X 1 dX10_relate_41 rfl rfl (z_iload_n X 2 dX10_relate_42 rfl rfl (z_callSv X (u1 := r8) [.ref (z_ad g 1), .int a1, .int a2] [] (w_X10_relates l g 1 93 a1 a2 z_r1 r7 er8) gX10_relate_X10_relates hy_X10_relates.2 rfl (z_le1 hR (by decide)) (z_le2 hR (by decide) (by decide)) (Nat.le_of_ble_eq_true rfl) dX10_relate_43 (z_aload_n X 0 dX10_relate_46 rfl rfl (z_callVi X (r := r9) (u1 := r8) [] [] (w_X10_pairs l g r8 er9) z_r0 rfl gX10_relate_X10_pairs hy_X10_pairs rfl (z_le1 hR (by decide)) (z_le2 hR (by decide) (by decide)) (Nat.le_of_ble_eq_true rfl) dX10_relate_47 ?_))))))))
        cases h; exact z_iret X rfl dX10_relate_50 ⟨rfl, rfl⟩
      · replace h := z_in c6 h
        refine z_bipush X (v := (-2)) dX10_relate_30 (by decide) ?_
        cases h; exact z_iret X rfl dX10_relate_32 ⟨rfl, rfl⟩
  · replace h := z_ip c3 h
    refine z_iconst X (v := (-1)) dX10_relate_14 (by decide) ?_
    cases h; exact z_iret X rfl dX10_relate_15 ⟨rfl, rfl⟩

theorem lk_X10_lift_82 : (Cond.fieldLink RX10 82 RX10 (TX10 0).2.1 (TX10 0).2.2.1) ∈ wsX10_lift := by decide +kernel
theorem in_X10_lift_X10 : ∀ w ∈ u_ws RX10 TX10 30, w ∈ wsX10_lift := fun _ h => List.mem_cons_of_mem _ (List.mem_append_right _ h)
theorem ct206_X10_lift : Cond.constantLong RX10 206 99 ∈ wsX10_lift := by decide +kernel
theorem lk_X10_lift_9 : (Cond.fieldLink RX10 9 RX10 (TX10 1).2.1 (TX10 1).2.2.1) ∈ wsX10_lift := by decide +kernel
def f_X10_lift (a1 : Int32) (a2 : Int32) (a3 : Int32) (u : z_M) : Option (Int32 × z_M) :=
  z_lt (z_sI u 0 0 0) (fun u1 => Option.bind (f_X10_areThere a1 a2 u1) (fun r2 => if r2 = 0 then (some ((-1), u1)) else (if a1 = a2 then (some ((-1), u1)) else (Option.bind (f_X10_isIn a3.toInt64 0 99) (fun r5 => if r5 = 0 then (some ((-1), u1)) else (Option.bind (f_X10_remember u1) (fun r7 => Option.bind (f_X10_told a1 a2 r7) (fun r8 => z_gd (z_inb ((12 + (9 * a1)) + a2) 93) (z_lt (z_sI r7 1 ((12 + (9 * a1)) + a2).toNatClampNeg a3) (fun u10 => some (r8, u10)))))))))))
set_option maxRecDepth 20000 in
set_option maxHeartbeats 4000000 in
theorem w_X10_lift (l : Launch) (g : z_G) (a1 : Int32) (a2 : Int32) (a3 : Int32) (u : z_M) {res : Int32 × z_M} (h : f_X10_lift a1 a2 a3 u = some res) : z_C l g z_shR yX10_lift wsX10_lift 4 [.ref (z_ad g 0), .int a1, .int a2, .int a3] u (fun v u' => v = some (.int res.1) ∧ u' = res.2) := by
  refine z_C.mk (lv := [(0, .ref (z_ad g 0)), (1, .int a1), (2, .int a2), (3, .int a3)]) (cc := cX10_lift) (nL := 5) (rt := (some .int)) rfl (by decide) (Nat.le_of_ble_eq_true rfl) rfl (fun p e R s m args below meth c hR X => ?_)
  unfold f_X10_lift at h
  obtain ⟨u1, eu1, h⟩ := z_ls h
  obtain ⟨r2, er2, h⟩ := z_bs h
  refine z_aload_n X 0 dX10_lift_0 rfl rfl (z_iconst X (v := 0) dX10_lift_1 (by decide) (z_putI X (k0 := 0) (ty0 := tyX10) z_r0 rfl in_X10_lift_X10 tyX10_ok nmX10 (by decide) rfl rfl rfl rfl rfl lk_X10_lift_82 dX10_lift_2 (z_nm eu1 (z_aload_n X 0 dX10_lift_5 rfl rfl (z_iload_n X 1 dX10_lift_6 rfl rfl (z_iload_n X 2 dX10_lift_7 rfl rfl (z_callVi X (r := r2) (u1 := u1) [.int a1, .int a2] [] (w_X10_areThere l g a1 a2 u1 er2) z_r0 rfl gX10_lift_X10_areThere hy_X10_areThere rfl (z_le1 hR (by decide)) (z_le2 hR (by decide) (by decide)) (Nat.le_of_ble_eq_true rfl) dX10_lift_8 (z_if_eq X 31 dX10_lift_11 (by decide) (fun c3 => ?_) (fun c3 => ?_)))))))))
  · replace h := z_ip c3 h
    refine z_iconst X (v := (-1)) dX10_lift_31 (by decide) ?_
    cases h; exact z_iret X rfl dX10_lift_32 ⟨rfl, rfl⟩
  · replace h := z_in c3 h
    refine z_iload_n X 1 dX10_lift_14 rfl rfl (z_iload_n X 2 dX10_lift_15 rfl rfl (z_icmp_eq X 31 dX10_lift_16 (by decide) (fun c4 => ?_) (fun c4 => ?_)))
    · replace h := z_ip c4 h
      refine z_iconst X (v := (-1)) dX10_lift_31 (by decide) ?_
      cases h; exact z_iret X rfl dX10_lift_32 ⟨rfl, rfl⟩
    · replace h := z_in c4 h
      obtain ⟨r5, er5, h⟩ := z_bs h
      refine z_iload_n X 3 dX10_lift_19 rfl rfl (z_i2l X dX10_lift_20 (z_lconst X (v := 0) dX10_lift_21 (by decide) (z_ldc2 X dX10_lift_22 ct206_X10_lift (z_callSi X (r := r5) (u1 := u1) [.long a3.toInt64, .long 0, .long 99] [] (w_X10_isIn l g a3.toInt64 0 99 u1 er5) gX10_lift_X10_isIn hy_X10_isIn.2 rfl (z_le1 hR (by decide)) (z_le2 hR (by decide) (by decide)) (Nat.le_of_ble_eq_true rfl) dX10_lift_25 (z_if_ne X 33 dX10_lift_28 (by decide) (fun c6 => ?_) (fun c6 => ?_))))))
      · replace h := z_in c6 h
        obtain ⟨r7, er7, h⟩ := z_bs h
        obtain ⟨r8, er8, h⟩ := z_bs h
        obtain ⟨b9, h⟩ := z_gs h
        obtain ⟨u10, eu10, h⟩ := z_ls h
        refine z_aload_n X 0 dX10_lift_33 rfl rfl (z_callVv X (u1 := r7) [] [] (w_X10_remember l g u1 er7) z_r0 rfl gX10_lift_X10_remember hy_X10_remember rfl (z_le1 hR (by decide)) (z_le2 hR (by decide) (by decide)) (Nat.le_of_ble_eq_true rfl) dX10_lift_34 (z_aload_n X 0 dX10_lift_37 rfl rfl (z_iload_n X 1 dX10_lift_38 rfl rfl (z_iload_n X 2 dX10_lift_39 rfl rfl (z_callVi X (r := r8) (u1 := r7) [.int a1, .int a2] [] (w_X10_told l g a1 a2 r7 er8) z_r0 rfl gX10_lift_X10_told hy_X10_told rfl (z_le1 hR (by decide)) (z_le2 hR (by decide) (by decide)) (Nat.le_of_ble_eq_true rfl) dX10_lift_40 (z_istore X [(4, .int r8), (0, .ref (z_ad g 0)), (1, .int a1), (2, .int a2), (3, .int a3)] dX10_lift_43 (by decide) rfl (z_aload_n X 1 dX10_lift_45 rfl rfl (z_getR X (k0 := 1) z_r0 rfl in_X10_lift_X10 (by decide) rfl rfl lk_X10_lift_9 dX10_lift_46 (z_bipush X (v := 12) dX10_lift_49 (by decide) (z_bipush X (v := 9) dX10_lift_51 (by decide) (z_iload_n X 2 dX10_lift_53 rfl rfl (z_imul X dX10_lift_54 (z_iadd X dX10_lift_55 (z_iload_n X 3 dX10_lift_56 rfl rfl (z_iadd X dX10_lift_57 (z_iload_n X 4 dX10_lift_58 rfl rfl (z_iast X z_r1 (z_inS b9) dX10_lift_59 (z_nm eu10 (z_iload X 0 dX10_lift_60 rfl ?_)))))))))))))))))))
        cases h; exact z_iret X rfl dX10_lift_62 ⟨rfl, rfl⟩
      · replace h := z_ip c6 h
        refine z_iconst X (v := (-1)) dX10_lift_31 (by decide) ?_
        cases h; exact z_iret X rfl dX10_lift_32 ⟨rfl, rfl⟩

theorem lk_X10_rule_82 : (Cond.fieldLink RX10 82 RX10 (TX10 0).2.1 (TX10 0).2.2.1) ∈ wsX10_rule := by decide +kernel
theorem in_X10_rule_X10 : ∀ w ∈ u_ws RX10 TX10 30, w ∈ wsX10_rule := by decide +kernel
theorem ct211_X10_rule : Cond.constantLong RX10 211 3 ∈ wsX10_rule := by decide +kernel
theorem lk_X10_rule_9 : (Cond.fieldLink RX10 9 RX10 (TX10 1).2.1 (TX10 1).2.2.1) ∈ wsX10_rule := by decide +kernel
theorem hy_X10_isTold : yX10_isTold.cls = RX10 ∧ yX10_isTold.cls ≠ "java/lang/invoke/MethodHandle" ∧ yX10_isTold.cls ≠ "java/lang/invoke/VarHandle" ∧ (parseMethodDescriptor yX10_isTold.desc).map (fun d => d.parameters.length) = some 0 := by decide +kernel
def f_X10_rule (a1 : Int32) (u : z_M) : Option (Int32 × z_M) :=
  z_lt (z_sI u 0 0 0) (fun u1 => Option.bind (f_X10_isTold u1) (fun r2 => if r2 = 0 then (some ((-1), u1)) else (Option.bind (f_X10_isIn a1.toInt64 0 3) (fun r4 => if r4 = 0 then (some ((-1), u1)) else (Option.bind (f_X10_remember u1) (fun r6 => z_gd (z_inb 2 93) (z_lt (z_gI r6 1 (2 : Int32).toNatClampNeg) (fun v8 => z_gd (z_inb 2 93) (z_lt (z_sI r6 1 (2 : Int32).toNatClampNeg a1) (fun u10 => some (v8, u10)))))))))))
set_option maxRecDepth 20000 in
set_option maxHeartbeats 4000000 in
theorem w_X10_rule (l : Launch) (g : z_G) (a1 : Int32) (u : z_M) {res : Int32 × z_M} (h : f_X10_rule a1 u = some res) : z_C l g z_shR yX10_rule wsX10_rule 2 [.ref (z_ad g 0), .int a1] u (fun v u' => v = some (.int res.1) ∧ u' = res.2) := by
  refine z_C.mk (lv := [(0, .ref (z_ad g 0)), (1, .int a1)]) (cc := cX10_rule) (nL := 3) (rt := (some .int)) rfl (by decide) (Nat.le_of_ble_eq_true rfl) rfl (fun p e R s m args below meth c hR X => ?_)
  unfold f_X10_rule at h
  obtain ⟨u1, eu1, h⟩ := z_ls h
  obtain ⟨r2, er2, h⟩ := z_bs h
  refine z_aload_n X 0 dX10_rule_0 rfl rfl (z_iconst X (v := 0) dX10_rule_1 (by decide) (z_putI X (k0 := 0) (ty0 := tyX10) z_r0 rfl in_X10_rule_X10 tyX10_ok nmX10 (by decide) rfl rfl rfl rfl rfl lk_X10_rule_82 dX10_rule_2 (z_nm eu1 (z_aload_n X 0 dX10_rule_5 rfl rfl (z_callVi X (r := r2) (u1 := u1) [] [] (w_X10_isTold l g u1 er2) z_r0 rfl gX10_rule_X10_isTold hy_X10_isTold rfl (z_le1 hR (by decide)) (z_le2 hR (by decide) (by decide)) (Nat.le_of_ble_eq_true rfl) dX10_rule_6 (z_if_eq X 24 dX10_rule_9 (by decide) (fun c3 => ?_) (fun c3 => ?_)))))))
  · replace h := z_ip c3 h
    refine z_iconst X (v := (-1)) dX10_rule_24 (by decide) ?_
    cases h; exact z_iret X rfl dX10_rule_25 ⟨rfl, rfl⟩
  · replace h := z_in c3 h
    obtain ⟨r4, er4, h⟩ := z_bs h
    refine z_iload_n X 1 dX10_rule_12 rfl rfl (z_i2l X dX10_rule_13 (z_lconst X (v := 0) dX10_rule_14 (by decide) (z_ldc2 X dX10_rule_15 ct211_X10_rule (z_callSi X (r := r4) (u1 := u1) [.long a1.toInt64, .long 0, .long 3] [] (w_X10_isIn l g a1.toInt64 0 3 u1 er4) gX10_rule_X10_isIn hy_X10_isIn.2 rfl (z_le1 hR (by decide)) (z_le2 hR (by decide) (by decide)) (Nat.le_of_ble_eq_true rfl) dX10_rule_18 (z_if_ne X 26 dX10_rule_21 (by decide) (fun c5 => ?_) (fun c5 => ?_))))))
    · replace h := z_in c5 h
      obtain ⟨r6, er6, h⟩ := z_bs h
      obtain ⟨b7, h⟩ := z_gs h
      obtain ⟨v8, ev8, h⟩ := z_ls h
      obtain ⟨b9, h⟩ := z_gs h
      obtain ⟨u10, eu10, h⟩ := z_ls h
      refine z_aload_n X 0 dX10_rule_26 rfl rfl (z_callVv X (u1 := r6) [] [] (w_X10_remember l g u1 er6) z_r0 rfl gX10_rule_X10_remember hy_X10_remember rfl (z_le1 hR (by decide)) (z_le2 hR (by decide) (by decide)) (Nat.le_of_ble_eq_true rfl) dX10_rule_27 (z_aload_n X 0 dX10_rule_30 rfl rfl (z_getR X (k0 := 1) z_r0 rfl in_X10_rule_X10 (by decide) rfl rfl lk_X10_rule_9 dX10_rule_31 (z_iconst X (v := 2) dX10_rule_34 (by decide) (z_iald X z_r1 (z_inS b7) dX10_rule_35 (z_ti ev8 (z_istore_n X [(2, .int v8), (0, .ref (z_ad g 0)), (1, .int a1)] dX10_rule_36 rfl (by decide) rfl (z_aload_n X 1 dX10_rule_37 rfl rfl (z_getR X (k0 := 1) z_r0 rfl in_X10_rule_X10 (by decide) rfl rfl lk_X10_rule_9 dX10_rule_38 (z_iconst X (v := 2) dX10_rule_41 (by decide) (z_iload_n X 2 dX10_rule_42 rfl rfl (z_iast X z_r1 (z_inS b9) dX10_rule_43 (z_nm eu10 (z_iload_n X 0 dX10_rule_44 rfl rfl ?_))))))))))))))
      cases h; exact z_iret X rfl dX10_rule_45 ⟨rfl, rfl⟩
    · replace h := z_ip c5 h
      refine z_iconst X (v := (-1)) dX10_rule_24 (by decide) ?_
      cases h; exact z_iret X rfl dX10_rule_25 ⟨rfl, rfl⟩
