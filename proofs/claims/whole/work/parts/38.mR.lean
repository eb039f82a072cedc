theorem lk_X10_shelled_82 : (Cond.fieldLink RX10 82 RX10 (TX10 0).2.1 (TX10 0).2.2.1) ∈ wsX10_shelled := by decide +kernel
theorem in_X10_shelled_X10 : ∀ w ∈ u_ws RX10 TX10 30, w ∈ wsX10_shelled := fun _ h => List.mem_cons_of_mem _ (List.mem_append_right _ h)
theorem lk_X10_shelled_279 : (Cond.fieldLink RX10 279 RX10 (TX10 18).2.1 (TX10 18).2.2.1) ∈ wsX10_shelled := by decide +kernel
theorem hy_X10_isLaid : yX10_isLaid.cls = RX10 ∧ yX10_isLaid.cls ≠ "java/lang/invoke/MethodHandle" ∧ yX10_isLaid.cls ≠ "java/lang/invoke/VarHandle" ∧ (parseMethodDescriptor yX10_isLaid.desc).map (fun d => d.parameters.length) = some 1 := by decide +kernel
def b_X10_shelled_38 (u : z_M) : Int32 → (Int32 → Option (Int32 × z_M)) → (Unit → Option (Int32 × z_M)) → Option (Int32 × z_M) := fun q kb kx =>
  if (z_gI u 0 18) ≤ q then (kx ()) else (Option.bind (f_X10_isLaid q u) (fun r6 => if r6 = 0 then (some (q, u)) else (kb (q + 1))))
def f_X10_shelled (a1 : Int32) (a2 : Int32) (u : z_M) : Option (Int32 × z_M) :=
  z_lt (z_sI u 0 0 0) (fun u1 => Option.bind (f_X10_noInner a1 a2 1 u1) (fun r2 => if 0 ≤ r2 then (Option.bind (f_X10_layChains a1 a2 u1) (fun r4 => z_lp (b_X10_shelled_38 r4) z_F 1 (fun t8 => some ((-1), r4)))) else (if r2 = (-1) then (some ((-3), u1)) else (some (r2, u1)))))
set_option maxRecDepth 20000 in
set_option maxHeartbeats 4000000 in
theorem wb_X10_shelled_38 {p : Program} {l : Launch} {e : Env} {R : Room} {s : State} {m : MethodId} {args : Array Value} {below : List Frame} {meth : Method} {c : Code} {g : z_G} {u : z_M} {res : Int32 × z_M} (hR : R = z_rm 7) (X : z_X p R s m args meth c cX10_shelled 5 RX10 wsX10_shelled (some .int) g z_shR)  (q : Int32) (kb : Int32 → Option (Int32 × z_M)) (kx : Unit → Option (Int32 × z_M)) (hkb : ∀ q, kb q = some res → z_V p l e R s m args below meth c 5 g z_shR (MQ below (z_Qc g z_shR (fun v u' => v = some (.int res.1) ∧ u' = res.2)) args s 0 0 (z_A g z_shR)) 38 [(0, .ref (z_ad g 0)), (4, .int q)] [] u) (hkx : ∀ t, kx t = some res → z_V p l e R s m args below meth c 5 g z_shR (MQ below (z_Qc g z_shR (fun v u' => v = some (.int res.1) ∧ u' = res.2)) args s 0 0 (z_A g z_shR)) 65 [] [] u) (h : b_X10_shelled_38 u q kb kx = some res) : z_V p l e R s m args below meth c 5 g z_shR (MQ below (z_Qc g z_shR (fun v u' => v = some (.int res.1) ∧ u' = res.2)) args s 0 0 (z_A g z_shR)) 38 [(0, .ref (z_ad g 0)), (4, .int q)] [] u := by
  unfold b_X10_shelled_38 at h
  refine z_iload X 1 dX10_shelled_38 rfl (z_aload_n X 0 dX10_shelled_40 rfl rfl (z_getI X (k0 := 18) z_r0 rfl in_X10_shelled_X10 (by decide) rfl rfl lk_X10_shelled_279 dX10_shelled_41 (z_icmp_ge X 65 dX10_shelled_44 (by decide) (fun c5 => ?_) (fun c5 => ?_))))
  · replace h := z_ip c5 h
    refine z_sub [] [] rfl ?_
    exact hkx () h
  · replace h := z_in c5 h
    obtain ⟨r6, er6, h⟩ := z_bs h
    refine z_aload_n X 0 dX10_shelled_47 rfl rfl (z_iload X 1 dX10_shelled_48 rfl (z_callVi X (r := r6) (u1 := u) [.int q] [] (w_X10_isLaid l g q u er6) z_r0 rfl gX10_shelled_X10_isLaid hy_X10_isLaid rfl (z_le1 hR (by decide)) (z_le2 hR (by decide) (by decide)) (Nat.le_of_ble_eq_true rfl) dX10_shelled_50 (z_if_ne X 59 dX10_shelled_53 (by decide) (fun c7 => ?_) (fun c7 => ?_))))
    · replace h := z_in c7 h
      refine z_iinc X (v := q + 1) 1 [(4, .int (q + 1)), (0, .ref (z_ad g 0))] dX10_shelled_59 rfl rfl (by decide) rfl (z_goto X 38 dX10_shelled_62 (by decide) (z_sub [1, 0] [(0, .ref (z_ad g 0)), (4, .int (q + 1))] rfl ?_))
      exact hkb (q + 1) h
    · replace h := z_ip c7 h
      refine z_iload X 1 dX10_shelled_56 rfl ?_
      cases h; exact z_iret X rfl dX10_shelled_58 ⟨rfl, rfl⟩
set_option maxRecDepth 20000 in
set_option maxHeartbeats 4000000 in
theorem w_X10_shelled (l : Launch) (g : z_G) (a1 : Int32) (a2 : Int32) (u : z_M) {res : Int32 × z_M} (h : f_X10_shelled a1 a2 u = some res) : z_C l g z_shR yX10_shelled wsX10_shelled 7 [.ref (z_ad g 0), .int a1, .int a2] u (fun v u' => v = some (.int res.1) ∧ u' = res.2) := by
  refine z_C.mk (lv := [(0, .ref (z_ad g 0)), (1, .int a1), (2, .int a2)]) (cc := cX10_shelled) (nL := 5) (rt := (some .int)) rfl (by decide) (Nat.le_of_ble_eq_true rfl) rfl (fun p e R s m args below meth c hR X => ?_)
  unfold f_X10_shelled at h
  obtain ⟨u1, eu1, h⟩ := z_ls h
  obtain ⟨r2, er2, h⟩ := z_bs h
  refine z_aload_n X 0 dX10_shelled_0 rfl rfl (z_iconst X (v := 0) dX10_shelled_1 (by decide) (z_putI X (k0 := 0) (ty0 := tyX10) z_r0 rfl in_X10_shelled_X10 tyX10_ok nmX10 (by decide) rfl rfl rfl rfl rfl lk_X10_shelled_82 dX10_shelled_2 (z_nm eu1 (z_aload_n X 0 dX10_shelled_5 rfl rfl (z_iload_n X 1 dX10_shelled_6 rfl rfl (z_iload_n X 2 dX10_shelled_7 rfl rfl (z_iconst X (v := 1) dX10_shelled_8 (by decide) (z_callVi X (r := r2) (u1 := u1) [.int a1, .int a2, .int 1] [] (w_X10_noInner l g a1 a2 1 u1 er2) z_r0 rfl gX10_shelled_X10_noInner hy_X10_noInner rfl (z_le1 hR (by decide)) (z_le2 hR (by decide) (by decide)) (Nat.le_of_ble_eq_true rfl) dX10_shelled_9 (z_istore_n X [(3, .int r2), (0, .ref (z_ad g 0)), (1, .int a1), (2, .int a2)] dX10_shelled_12 rfl (by decide) rfl (z_iload_n X 0 dX10_shelled_13 rfl rfl (z_if_ge X 29 dX10_shelled_14 (by decide) (fun c3 => ?_) (fun c3 => ?_))))))))))))
  · replace h := z_ip c3 h
    obtain ⟨r4, er4, h⟩ := z_bs h
    refine z_aload_n X 1 dX10_shelled_29 rfl rfl (z_iload_n X 2 dX10_shelled_30 rfl rfl (z_iload_n X 3 dX10_shelled_31 rfl rfl (z_callVv X (u1 := r4) [.int a1, .int a2] [] (w_X10_layChains l g a1 a2 u1 er4) z_r0 rfl gX10_shelled_X10_layChains hy_X10_layChains rfl (z_le1 hR (by decide)) (z_le2 hR (by decide) (by decide)) (Nat.le_of_ble_eq_true rfl) dX10_shelled_32 (z_iconst X (v := 1) dX10_shelled_35 (by decide) (z_istore X [(4, .int 1), (3, .int r2), (0, .ref (z_ad g 0)), (1, .int a1), (2, .int a2)] dX10_shelled_36 (by decide) rfl (z_sub [2, 0] [(0, .ref (z_ad g 0)), (4, .int 1)] rfl ?_))))))
    have hw := z_lp_w (fun q9 kb9 kx9 h1 h2 h3 => wb_X10_shelled_38 (l := l) (e := e) (below := below) (u := r4) hR X q9 kb9 kx9 h1 h2 h3) z_F _ _ h
    refine hw (fun t8 h => ?_)
    refine z_iconst X (v := (-1)) dX10_shelled_65 (by decide) ?_
    cases h; exact z_iret X rfl dX10_shelled_66 ⟨rfl, rfl⟩
  · replace h := z_in c3 h
    refine z_iload_n X 0 dX10_shelled_17 rfl rfl (z_iconst X (v := (-1)) dX10_shelled_18 (by decide) (z_icmp_ne X 27 dX10_shelled_19 (by decide) (fun c9 => ?_) (fun c9 => ?_)))
    · replace h := z_in c9 h
      refine z_iload_n X 0 dX10_shelled_27 rfl rfl ?_
      cases h; exact z_iret X rfl dX10_shelled_28 ⟨rfl, rfl⟩
    · replace h := z_ip c9 h
      refine z_bipush X (v := (-3)) dX10_shelled_22 (by decide) (z_goto X 28 dX10_shelled_24 (by decide) ?_)
      cases h; exact z_iret X rfl dX10_shelled_28 ⟨rfl, rfl⟩

def b_X10_creaseOf_16 (x1 : Int32) (x2 : Int32) (x3 : Int32) (u : z_M) : (Int32 × Int32) → ((Int32 × Int32) → Option (Int32)) → (Int32 → Option (Int32)) → Option (Int32) := fun q kb kx =>
  if x1 ≤ q.2 then (kx q.1) else (Option.bind (f_X10_chainSet x1 u) (fun r3 => Option.bind (f_X10_has r3 x3) (fun r4 => if r4 = 0 then (kx q.1) else (if q.1 = 0 then (Option.bind (f_X10_chainSet x1 u) (fun r7 => Option.bind (f_X10_chainSet q.2 u) (fun r8 => if ((r7 &&& ((1 <<< (x3 &&& 31)) ^^^ (-1))) &&& (r8 ^^^ (-1))) = 0 then (kb (1, q.2 + 1)) else (kb (0, q.2 + 1))))) else (kb (1, q.2 + 1))))))
def b_X10_creaseOf_4 (x1 : Int32) (u : z_M) : (Int32 × Int32) → ((Int32 × Int32) → Option (Int32)) → (Int32 → Option (Int32)) → Option (Int32) := fun q kb kx =>
  if 9 ≤ q.2 then (kx q.1) else (z_lp (b_X10_creaseOf_16 x1 q.1 q.2 u) z_F (0, 0) (fun t10 => if t10 = 0 then (z_lt (q.1 ||| 0) (fun v12 => kb (v12, q.2 + 1))) else (z_lt (q.1 ||| (1 <<< (q.2 &&& 31))) (fun v13 => kb (v13, q.2 + 1)))))
def f_X10_creaseOf (a1 : Int32) (u : z_M) : Option (Int32) :=
  z_lp (b_X10_creaseOf_4 a1 u) z_F (0, 0) (fun t14 => some t14)
set_option maxRecDepth 20000 in
set_option maxHeartbeats 4000000 in
theorem wb_X10_creaseOf_16 {p : Program} {l : Launch} {e : Env} {R : Room} {s : State} {m : MethodId} {args : Array Value} {below : List Frame} {meth : Method} {c : Code} {g : z_G} {u : z_M} {res : Int32} (hR : R = z_rm 3) (X : z_X p R s m args meth c cX10_creaseOf 6 RX10 wsX10_creaseOf (some .int) g z_shR) (x1 : Int32) (x2 : Int32) (x3 : Int32) (q : Int32 × Int32) (kb : (Int32 × Int32) → Option (Int32)) (kx : Int32 → Option (Int32)) (hkb : ∀ q, kb q = some res → z_V p l e R s m args below meth c 6 g z_shR (MQ below (z_Qc g z_shR (fun v u' => v = some (.int res) ∧ u' = u)) args s 0 0 (z_A g z_shR)) 16 [(0, .ref (z_ad g 0)), (1, .int x1), (2, .int x2), (3, .int x3), (4, .int q.1), (5, .int q.2)] [] u) (hkx : ∀ t, kx t = some res → z_V p l e R s m args below meth c 6 g z_shR (MQ below (z_Qc g z_shR (fun v u' => v = some (.int res) ∧ u' = u)) args s 0 0 (z_A g z_shR)) 75 [(0, .ref (z_ad g 0)), (1, .int x1), (2, .int x2), (3, .int x3), (4, .int t)] [] u) (h : b_X10_creaseOf_16 x1 x2 x3 u q kb kx = some res) : z_V p l e R s m args below meth c 6 g z_shR (MQ below (z_Qc g z_shR (fun v u' => v = some (.int res) ∧ u' = u)) args s 0 0 (z_A g z_shR)) 16 [(0, .ref (z_ad g 0)), (1, .int x1), (2, .int x2), (3, .int x3), (4, .int q.1), (5, .int q.2)] [] u := by
  unfold b_X10_creaseOf_16 at h
  refine z_iload X 5 dX10_creaseOf_16 rfl (z_iload_n X 1 dX10_creaseOf_18 rfl rfl (z_icmp_ge X 75 dX10_creaseOf_19 (by decide) (fun c2 => ?_) (fun c2 => ?_)))
  · replace h := z_ip c2 h
    refine z_sub [0, 1, 2, 3, 4] [(0, .ref (z_ad g 0)), (1, .int x1), (2, .int x2), (3, .int x3), (4, .int q.1)] rfl ?_
    exact hkx q.1 h
  · replace h := z_in c2 h
    obtain ⟨r3, er3, h⟩ := z_bs h
    obtain ⟨r4, er4, h⟩ := z_bs h
    refine z_aload_n X 0 dX10_creaseOf_22 rfl rfl (z_iload_n X 1 dX10_creaseOf_23 rfl rfl (z_callVi X (r := r3) (u1 := u) [.int x1] [] (w_X10_chainSet l g x1 u er3) z_r0 rfl gX10_creaseOf_X10_chainSet hy_X10_chainSet rfl (z_le1 hR (by decide)) (z_le2 hR (by decide) (by decide)) (Nat.le_of_ble_eq_true rfl) dX10_creaseOf_24 (z_iload_n X 3 dX10_creaseOf_27 rfl rfl (z_callSi X (r := r4) (u1 := u) [.int r3, .int x3] [] (w_X10_has l g r3 x3 u er4) gX10_creaseOf_X10_has hy_X10_has.2 rfl (z_le1 hR (by decide)) (z_le2 hR (by decide) (by decide)) (Nat.le_of_ble_eq_true rfl) dX10_creaseOf_28 (z_if_eq X 75 dX10_creaseOf_31 (by decide) (fun c5 => ?_) (fun c5 => ?_))))))
    · replace h := z_ip c5 h
      refine z_sub [0, 1, 2, 3, 4] [(0, .ref (z_ad g 0)), (1, .int x1), (2, .int x2), (3, .int x3), (4, .int q.1)] rfl ?_
      exact hkx q.1 h
    · replace h := z_in c5 h
      refine z_iload X 4 dX10_creaseOf_34 rfl (z_if_ne X 62 dX10_creaseOf_36 (by decide) (fun c6 => ?_) (fun c6 => ?_))
      · replace h := z_in c6 h
        refine z_iconst X (v := 1) dX10_creaseOf_62 (by decide) (z_goto X 67 dX10_creaseOf_63 (by decide) (z_istore X [(4, .int 1), (0, .ref (z_ad g 0)), (1, .int x1), (2, .int x2), (3, .int x3), (5, .int q.2)] dX10_creaseOf_67 (by decide) rfl (z_iinc X (v := q.2 + 1) 5 [(5, .int (q.2 + 1)), (4, .int 1), (0, .ref (z_ad g 0)), (1, .int x1), (2, .int x2), (3, .int x3)] dX10_creaseOf_69 rfl rfl (by decide) rfl (z_goto X 16 dX10_creaseOf_72 (by decide) (z_sub [2, 3, 4, 5, 1, 0] [(0, .ref (z_ad g 0)), (1, .int x1), (2, .int x2), (3, .int x3), (4, .int 1), (5, .int (q.2 + 1))] rfl ?_)))))
        exact hkb (1, q.2 + 1) h
      · replace h := z_ip c6 h
        obtain ⟨r7, er7, h⟩ := z_bs h
        obtain ⟨r8, er8, h⟩ := z_bs h
        refine z_aload_n X 0 dX10_creaseOf_39 rfl rfl (z_iload_n X 1 dX10_creaseOf_40 rfl rfl (z_callVi X (r := r7) (u1 := u) [.int x1] [] (w_X10_chainSet l g x1 u er7) z_r0 rfl gX10_creaseOf_X10_chainSet hy_X10_chainSet rfl (z_le1 hR (by decide)) (z_le2 hR (by decide) (by decide)) (Nat.le_of_ble_eq_true rfl) dX10_creaseOf_41 (z_iconst X (v := 1) dX10_creaseOf_44 (by decide) (z_iload_n X 3 dX10_creaseOf_45 rfl rfl (z_ishl X dX10_creaseOf_46 (z_iconst X (v := (-1)) dX10_creaseOf_47 (by decide) (z_ixor X dX10_creaseOf_48 (z_iand X dX10_creaseOf_49 (z_aload_n X 0 dX10_creaseOf_50 rfl rfl (z_iload X 5 dX10_creaseOf_51 rfl (z_callVi X (r := r8) (u1 := u) [.int q.2] [.int (r7 &&& ((1 <<< (x3 &&& 31)) ^^^ (-1)))] (w_X10_chainSet l g q.2 u er8) z_r0 rfl gX10_creaseOf_X10_chainSet hy_X10_chainSet rfl (z_le1 hR (by decide)) (z_le2 hR (by decide) (by decide)) (Nat.le_of_ble_eq_true rfl) dX10_creaseOf_53 (z_iconst X (v := (-1)) dX10_creaseOf_56 (by decide) (z_ixor X dX10_creaseOf_57 (z_iand X dX10_creaseOf_58 (z_if_ne X 66 dX10_creaseOf_59 (by decide) (fun c9 => ?_) (fun c9 => ?_))))))))))))))))
        · replace h := z_in c9 h
          refine z_iconst X (v := 0) dX10_creaseOf_66 (by decide) (z_istore X [(4, .int 0), (0, .ref (z_ad g 0)), (1, .int x1), (2, .int x2), (3, .int x3), (5, .int q.2)] dX10_creaseOf_67 (by decide) rfl (z_iinc X (v := q.2 + 1) 5 [(5, .int (q.2 + 1)), (4, .int 0), (0, .ref (z_ad g 0)), (1, .int x1), (2, .int x2), (3, .int x3)] dX10_creaseOf_69 rfl rfl (by decide) rfl (z_goto X 16 dX10_creaseOf_72 (by decide) (z_sub [2, 3, 4, 5, 1, 0] [(0, .ref (z_ad g 0)), (1, .int x1), (2, .int x2), (3, .int x3), (4, .int 0), (5, .int (q.2 + 1))] rfl ?_))))
          exact hkb (0, q.2 + 1) h
        · replace h := z_ip c9 h
          refine z_iconst X (v := 1) dX10_creaseOf_62 (by decide) (z_goto X 67 dX10_creaseOf_63 (by decide) (z_istore X [(4, .int 1), (0, .ref (z_ad g 0)), (1, .int x1), (2, .int x2), (3, .int x3), (5, .int q.2)] dX10_creaseOf_67 (by decide) rfl (z_iinc X (v := q.2 + 1) 5 [(5, .int (q.2 + 1)), (4, .int 1), (0, .ref (z_ad g 0)), (1, .int x1), (2, .int x2), (3, .int x3)] dX10_creaseOf_69 rfl rfl (by decide) rfl (z_goto X 16 dX10_creaseOf_72 (by decide) (z_sub [2, 3, 4, 5, 1, 0] [(0, .ref (z_ad g 0)), (1, .int x1), (2, .int x2), (3, .int x3), (4, .int 1), (5, .int (q.2 + 1))] rfl ?_)))))
          exact hkb (1, q.2 + 1) h
set_option maxRecDepth 20000 in
set_option maxHeartbeats 4000000 in
theorem wb_X10_creaseOf_4 {p : Program} {l : Launch} {e : Env} {R : Room} {s : State} {m : MethodId} {args : Array Value} {below : List Frame} {meth : Method} {c : Code} {g : z_G} {u : z_M} {res : Int32} (hR : R = z_rm 3) (X : z_X p R s m args meth c cX10_creaseOf 6 RX10 wsX10_creaseOf (some .int) g z_shR) (x1 : Int32) (q : Int32 × Int32) (kb : (Int32 × Int32) → Option (Int32)) (kx : Int32 → Option (Int32)) (hkb : ∀ q, kb q = some res → z_V p l e R s m args below meth c 6 g z_shR (MQ below (z_Qc g z_shR (fun v u' => v = some (.int res) ∧ u' = u)) args s 0 0 (z_A g z_shR)) 4 [(0, .ref (z_ad g 0)), (1, .int x1), (2, .int q.1), (3, .int q.2)] [] u) (hkx : ∀ t, kx t = some res → z_V p l e R s m args below meth c 6 g z_shR (MQ below (z_Qc g z_shR (fun v u' => v = some (.int res) ∧ u' = u)) args s 0 0 (z_A g z_shR)) 96 [(2, .int t)] [] u) (h : b_X10_creaseOf_4 x1 u q kb kx = some res) : z_V p l e R s m args below meth c 6 g z_shR (MQ below (z_Qc g z_shR (fun v u' => v = some (.int res) ∧ u' = u)) args s 0 0 (z_A g z_shR)) 4 [(0, .ref (z_ad g 0)), (1, .int x1), (2, .int q.1), (3, .int q.2)] [] u := by
  unfold b_X10_creaseOf_4 at h
  refine z_iload_n X 3 dX10_creaseOf_4 rfl rfl (z_bipush X (v := 9) dX10_creaseOf_5 (by decide) (z_icmp_ge X 96 dX10_creaseOf_7 (by decide) (fun c1 => ?_) (fun c1 => ?_)))
  · replace h := z_ip c1 h
    refine z_sub [2] [(2, .int q.1)] rfl ?_
    exact hkx q.1 h
  · replace h := z_in c1 h
    refine z_iconst X (v := 0) dX10_creaseOf_10 (by decide) (z_istore X [(4, .int 0), (0, .ref (z_ad g 0)), (1, .int x1), (2, .int q.1), (3, .int q.2)] dX10_creaseOf_11 (by decide) rfl (z_iconst X (v := 0) dX10_creaseOf_13 (by decide) (z_istore X [(5, .int 0), (4, .int 0), (0, .ref (z_ad g 0)), (1, .int x1), (2, .int q.1), (3, .int q.2)] dX10_creaseOf_14 (by decide) rfl (z_sub [2, 3, 4, 5, 1, 0] [(0, .ref (z_ad g 0)), (1, .int x1), (2, .int q.1), (3, .int q.2), (4, .int 0), (5, .int 0)] rfl ?_))))
    have hw := z_lp_w (fun q9 kb9 kx9 h1 h2 h3 => wb_X10_creaseOf_16 (l := l) (e := e) (below := below) (u := u) hR X x1 q.1 q.2 q9 kb9 kx9 h1 h2 h3) z_F _ _ h
    refine hw (fun t10 h => ?_)
    refine z_iload_n X 2 dX10_creaseOf_75 rfl rfl (z_iload X 4 dX10_creaseOf_76 rfl (z_if_eq X 87 dX10_creaseOf_78 (by decide) (fun c11 => ?_) (fun c11 => ?_)))
    · replace h := z_ip c11 h
      obtain ⟨v12, ev12, h⟩ := z_ls h
      refine z_iconst X (v := 0) dX10_creaseOf_87 (by decide) (z_ior X dX10_creaseOf_88 (z_ti ev12 (z_istore_n X [(2, .int v12), (0, .ref (z_ad g 0)), (1, .int x1), (3, .int q.2), (4, .int t10)] dX10_creaseOf_89 rfl (by decide) rfl (z_iinc X (v := q.2 + 1) 3 [(3, .int (q.2 + 1)), (2, .int v12), (0, .ref (z_ad g 0)), (1, .int x1), (4, .int t10)] dX10_creaseOf_90 rfl rfl (by decide) rfl (z_goto X 4 dX10_creaseOf_93 (by decide) (z_sub [2, 3, 1, 0] [(0, .ref (z_ad g 0)), (1, .int x1), (2, .int v12), (3, .int (q.2 + 1))] rfl ?_))))))
      exact hkb (v12, q.2 + 1) h
    · replace h := z_in c11 h
      obtain ⟨v13, ev13, h⟩ := z_ls h
      refine z_iconst X (v := 1) dX10_creaseOf_81 (by decide) (z_iload_n X 3 dX10_creaseOf_82 rfl rfl (z_ishl X dX10_creaseOf_83 (z_goto X 88 dX10_creaseOf_84 (by decide) (z_ior X dX10_creaseOf_88 (z_ti ev13 (z_istore_n X [(2, .int v13), (0, .ref (z_ad g 0)), (1, .int x1), (3, .int q.2), (4, .int t10)] dX10_creaseOf_89 rfl (by decide) rfl (z_iinc X (v := q.2 + 1) 3 [(3, .int (q.2 + 1)), (2, .int v13), (0, .ref (z_ad g 0)), (1, .int x1), (4, .int t10)] dX10_creaseOf_90 rfl rfl (by decide) rfl (z_goto X 4 dX10_creaseOf_93 (by decide) (z_sub [2, 3, 1, 0] [(0, .ref (z_ad g 0)), (1, .int x1), (2, .int v13), (3, .int (q.2 + 1))] rfl ?_)))))))))
      exact hkb (v13, q.2 + 1) h
set_option maxRecDepth 20000 in
set_option maxHeartbeats 4000000 in
theorem w_X10_creaseOf (l : Launch) (g : z_G) (a1 : Int32) (u : z_M) {res : Int32} (h : f_X10_creaseOf a1 u = some res) : z_C l g z_shR yX10_creaseOf wsX10_creaseOf 3 [.ref (z_ad g 0), .int a1] u (fun v u' => v = some (.int res) ∧ u' = u) := by
  refine z_C.mk (lv := [(0, .ref (z_ad g 0)), (1, .int a1)]) (cc := cX10_creaseOf) (nL := 6) (rt := (some .int)) rfl (by decide) (Nat.le_of_ble_eq_true rfl) rfl (fun p e R s m args below meth c hR X => ?_)
  unfold f_X10_creaseOf at h
  refine z_iconst X (v := 0) dX10_creaseOf_0 (by decide) (z_istore_n X [(2, .int 0), (0, .ref (z_ad g 0)), (1, .int a1)] dX10_creaseOf_1 rfl (by decide) rfl (z_iconst X (v := 0) dX10_creaseOf_2 (by decide) (z_istore_n X [(3, .int 0), (2, .int 0), (0, .ref (z_ad g 0)), (1, .int a1)] dX10_creaseOf_3 rfl (by decide) rfl (z_sub [2, 3, 1, 0] [(0, .ref (z_ad g 0)), (1, .int a1), (2, .int 0), (3, .int 0)] rfl ?_))))
  have hw := z_lp_w (fun q9 kb9 kx9 h1 h2 h3 => wb_X10_creaseOf_4 (l := l) (e := e) (below := below) (u := u) hR X a1 q9 kb9 kx9 h1 h2 h3) z_F _ _ h
  refine hw (fun t14 h => ?_)
  refine z_iload_n X 0 dX10_creaseOf_96 rfl rfl ?_
  cases h; exact z_iret X rfl dX10_creaseOf_97 ⟨rfl, rfl⟩

theorem lk_X10_crease_82 : (Cond.fieldLink RX10 82 RX10 (TX10 0).2.1 (TX10 0).2.2.1) ∈ wsX10_crease := by decide +kernel
theorem in_X10_crease_X10 : ∀ w ∈ u_ws RX10 TX10 30, w ∈ wsX10_crease := fun _ h => List.mem_cons_of_mem _ (List.mem_append_right _ h)
theorem hy_X10_creaseOf : yX10_creaseOf.cls = RX10 ∧ yX10_creaseOf.cls ≠ "java/lang/invoke/MethodHandle" ∧ yX10_creaseOf.cls ≠ "java/lang/invoke/VarHandle" ∧ (parseMethodDescriptor yX10_creaseOf.desc).map (fun d => d.parameters.length) = some 1 := by decide +kernel
def f_X10_crease (a1 : Int32) (a2 : Int32) (a3 : Int32) (u : z_M) : Option (Int32 × z_M) :=
  z_lt (z_sI u 0 0 0) (fun u1 => z_b2 (f_X10_laidTo a1 a2 a3 u1) (fun r2 u3 => if 0 ≤ r2 then (if a1 = a2 then (some ((-2), u3)) else (Option.bind (f_X10_creaseOf a3 u3) (fun r6 => some (r6, u3)))) else (some (r2, u3))))
set_option maxRecDepth 20000 in
set_option maxHeartbeats 4000000 in
theorem w_X10_crease (l : Launch) (g : z_G) (a1 : Int32) (a2 : Int32) (a3 : Int32) (u : z_M) {res : Int32 × z_M} (h : f_X10_crease a1 a2 a3 u = some res) : z_C l g z_shR yX10_crease wsX10_crease 8 [.ref (z_ad g 0), .int a1, .int a2, .int a3] u (fun v u' => v = some (.int res.1) ∧ u' = res.2) := by
  refine z_C.mk (lv := [(0, .ref (z_ad g 0)), (1, .int a1), (2, .int a2), (3, .int a3)]) (cc := cX10_crease) (nL := 5) (rt := (some .int)) rfl (by decide) (Nat.le_of_ble_eq_true rfl) rfl (fun p e R s m args below meth c hR X => ?_)
  unfold f_X10_crease at h
  obtain ⟨u1, eu1, h⟩ := z_ls h
  obtain ⟨r2, u3, er2, h⟩ := z_b2s h
  refine z_aload_n X 0 dX10_crease_0 rfl rfl (z_iconst X (v := 0) dX10_crease_1 (by decide) (z_putI X (k0 := 0) (ty0 := tyX10) z_r0 rfl in_X10_crease_X10 tyX10_ok nmX10 (by decide) rfl rfl rfl rfl rfl lk_X10_crease_82 dX10_crease_2 (z_nm eu1 (z_aload_n X 0 dX10_crease_5 rfl rfl (z_iload_n X 1 dX10_crease_6 rfl rfl (z_iload_n X 2 dX10_crease_7 rfl rfl (z_iload_n X 3 dX10_crease_8 rfl rfl (z_callVi X (r := r2) (u1 := u3) [.int a1, .int a2, .int a3] [] (w_X10_laidTo l g a1 a2 a3 u1 er2) z_r0 rfl gX10_crease_X10_laidTo hy_X10_laidTo rfl (z_le1 hR (by decide)) (z_le2 hR (by decide) (by decide)) (Nat.le_of_ble_eq_true rfl) dX10_crease_9 (z_istore X [(4, .int r2), (0, .ref (z_ad g 0)), (1, .int a1), (2, .int a2), (3, .int a3)] dX10_crease_12 (by decide) rfl (z_iload X 0 dX10_crease_14 rfl (z_if_ge X 24 dX10_crease_16 (by decide) (fun c4 => ?_) (fun c4 => ?_))))))))))))
  · replace h := z_ip c4 h
    refine z_iload_n X 2 dX10_crease_24 rfl rfl (z_iload_n X 3 dX10_crease_25 rfl rfl (z_icmp_ne X 34 dX10_crease_26 (by decide) (fun c5 => ?_) (fun c5 => ?_)))
    · replace h := z_in c5 h
      obtain ⟨r6, er6, h⟩ := z_bs h
      refine z_aload_n X 1 dX10_crease_34 rfl rfl (z_iload_n X 4 dX10_crease_35 rfl rfl (z_callVi X (r := r6) (u1 := u3) [.int a3] [] (w_X10_creaseOf l g a3 u3 er6) z_r0 rfl gX10_crease_X10_creaseOf hy_X10_creaseOf rfl (z_le1 hR (by decide)) (z_le2 hR (by decide) (by decide)) (Nat.le_of_ble_eq_true rfl) dX10_crease_36 ?_))
      cases h; exact z_iret X rfl dX10_crease_39 ⟨rfl, rfl⟩
    · replace h := z_ip c5 h
      refine z_bipush X (v := (-2)) dX10_crease_29 (by decide) (z_goto X 39 dX10_crease_31 (by decide) ?_)
      cases h; exact z_iret X rfl dX10_crease_39 ⟨rfl, rfl⟩
  · replace h := z_in c4 h
    refine z_iload X 0 dX10_crease_19 rfl (z_goto X 39 dX10_crease_21 (by decide) ?_)
    cases h; exact z_iret X rfl dX10_crease_39 ⟨rfl, rfl⟩

theorem lk_X10_creased_82 : (Cond.fieldLink RX10 82 RX10 (TX10 0).2.1 (TX10 0).2.2.1) ∈ wsX10_creased := by decide +kernel
theorem in_X10_creased_X10 : ∀ w ∈ u_ws RX10 TX10 30, w ∈ wsX10_creased := fun _ h => List.mem_cons_of_mem _ (List.mem_append_right _ h)
theorem lk_X10_creased_279 : (Cond.fieldLink RX10 279 RX10 (TX10 18).2.1 (TX10 18).2.2.1) ∈ wsX10_creased := by decide +kernel
def b_X10_creased_42 (x3 : Int32) (u : z_M) : (Int32 × Int32) → ((Int32 × Int32) → Option (Int32 × z_M)) → (Int32 → Option (Int32 × z_M)) → Option (Int32 × z_M) := fun q kb kx =>
  if (z_gI u 0 18) ≤ q.2 then (kx q.1) else (Option.bind (f_X10_creaseOf q.2 u) (fun r7 => Option.bind (f_X10_bits r7) (fun r8 => if r8 = x3 then (z_lt (q.1 + 1) (fun v10 => kb (v10, q.2 + 1))) else (z_lt (q.1 + 0) (fun v11 => kb (v11, q.2 + 1))))))
def j_X10_creased_j17 (x1 : Int32) (x2 : Int32) (x3 : Int32) (x90 : Int32) (x91 : Int32) (x92 : Int32) (w : z_M) : Option (Int32 × z_M) :=
  Option.bind (f_X10_noInner x92 x91 x90 w) (fun r3 => if 0 ≤ r3 then (Option.bind (f_X10_layChains x1 x2 w) (fun r5 => z_lp (b_X10_creased_42 x3 r5) z_F (0, 0) (fun t12 => some (t12, r5)))) else (some (r3, w)))
def f_X10_creased (a1 : Int32) (a2 : Int32) (a3 : Int32) (u : z_M) : Option (Int32 × z_M) :=
  z_lt (z_sI u 0 0 0) (fun u1 => if a3 < 0 then (j_X10_creased_j17 a1 a2 a3 0 a2 a1 u1) else (j_X10_creased_j17 a1 a2 a3 1 a2 a1 u1))
set_option maxRecDepth 20000 in
set_option maxHeartbeats 4000000 in
theorem wb_X10_creased_42 {p : Program} {l : Launch} {e : Env} {R : Room} {s : State} {m : MethodId} {args : Array Value} {below : List Frame} {meth : Method} {c : Code} {g : z_G} {u : z_M} {res : Int32 × z_M} (hR : R = z_rm 7) (X : z_X p R s m args meth c cX10_creased 7 RX10 wsX10_creased (some .int) g z_shR) (x3 : Int32) (q : Int32 × Int32) (kb : (Int32 × Int32) → Option (Int32 × z_M)) (kx : Int32 → Option (Int32 × z_M)) (hkb : ∀ q, kb q = some res → z_V p l e R s m args below meth c 7 g z_shR (MQ below (z_Qc g z_shR (fun v u' => v = some (.int res.1) ∧ u' = res.2)) args s 0 0 (z_A g z_shR)) 42 [(0, .ref (z_ad g 0)), (3, .int x3), (5, .int q.1), (6, .int q.2)] [] u) (hkx : ∀ t, kx t = some res → z_V p l e R s m args below meth c 7 g z_shR (MQ below (z_Qc g z_shR (fun v u' => v = some (.int res.1) ∧ u' = res.2)) args s 0 0 (z_A g z_shR)) 80 [(5, .int t)] [] u) (h : b_X10_creased_42 x3 u q kb kx = some res) : z_V p l e R s m args below meth c 7 g z_shR (MQ below (z_Qc g z_shR (fun v u' => v = some (.int res.1) ∧ u' = res.2)) args s 0 0 (z_A g z_shR)) 42 [(0, .ref (z_ad g 0)), (3, .int x3), (5, .int q.1), (6, .int q.2)] [] u := by
  unfold b_X10_creased_42 at h
  refine z_iload X 3 dX10_creased_42 rfl (z_aload_n X 0 dX10_creased_44 rfl rfl (z_getI X (k0 := 18) z_r0 rfl in_X10_creased_X10 (by decide) rfl rfl lk_X10_creased_279 dX10_creased_45 (z_icmp_ge X 80 dX10_creased_48 (by decide) (fun c6 => ?_) (fun c6 => ?_))))
  · replace h := z_ip c6 h
    refine z_sub [2] [(5, .int q.1)] rfl ?_
    exact hkx q.1 h
  · replace h := z_in c6 h
    obtain ⟨r7, er7, h⟩ := z_bs h
    obtain ⟨r8, er8, h⟩ := z_bs h
    refine z_iload X 2 dX10_creased_51 rfl (z_aload_n X 0 dX10_creased_53 rfl rfl (z_iload X 3 dX10_creased_54 rfl (z_callVi X (r := r7) (u1 := u) [.int q.2] [.int q.1] (w_X10_creaseOf l g q.2 u er7) z_r0 rfl gX10_creased_X10_creaseOf hy_X10_creaseOf rfl (z_le1 hR (by decide)) (z_le2 hR (by decide) (by decide)) (Nat.le_of_ble_eq_true rfl) dX10_creased_56 (z_callSi X (r := r8) (u1 := u) [.int r7] [.int q.1] (w_X10_bits l g r7 u er8) gX10_creased_X10_bits hy_X10_bits.2 rfl (z_le1 hR (by decide)) (z_le2 hR (by decide) (by decide)) (Nat.le_of_ble_eq_true rfl) dX10_creased_59 (z_iload_n X 1 dX10_creased_62 rfl rfl (z_icmp_ne X 70 dX10_creased_63 (by decide) (fun c9 => ?_) (fun c9 => ?_)))))))
    · replace h := z_in c9 h
      obtain ⟨v11, ev11, h⟩ := z_ls h
      refine z_iconst X (v := 0) dX10_creased_70 (by decide) (z_iadd X dX10_creased_71 (z_ti ev11 (z_istore X [(5, .int v11), (0, .ref (z_ad g 0)), (3, .int x3), (6, .int q.2)] dX10_creased_72 (by decide) rfl (z_iinc X (v := q.2 + 1) 3 [(6, .int (q.2 + 1)), (5, .int v11), (0, .ref (z_ad g 0)), (3, .int x3)] dX10_creased_74 rfl rfl (by decide) rfl (z_goto X 42 dX10_creased_77 (by decide) (z_sub [2, 3, 1, 0] [(0, .ref (z_ad g 0)), (3, .int x3), (5, .int v11), (6, .int (q.2 + 1))] rfl ?_))))))
      exact hkb (v11, q.2 + 1) h
    · replace h := z_ip c9 h
      obtain ⟨v10, ev10, h⟩ := z_ls h
      refine z_iconst X (v := 1) dX10_creased_66 (by decide) (z_goto X 71 dX10_creased_67 (by decide) (z_iadd X dX10_creased_71 (z_ti ev10 (z_istore X [(5, .int v10), (0, .ref (z_ad g 0)), (3, .int x3), (6, .int q.2)] dX10_creased_72 (by decide) rfl (z_iinc X (v := q.2 + 1) 3 [(6, .int (q.2 + 1)), (5, .int v10), (0, .ref (z_ad g 0)), (3, .int x3)] dX10_creased_74 rfl rfl (by decide) rfl (z_goto X 42 dX10_creased_77 (by decide) (z_sub [2, 3, 1, 0] [(0, .ref (z_ad g 0)), (3, .int x3), (5, .int v10), (6, .int (q.2 + 1))] rfl ?_)))))))
      exact hkb (v10, q.2 + 1) h
set_option maxRecDepth 20000 in
set_option maxHeartbeats 4000000 in
theorem wj_X10_creased_j17 {p : Program} {l : Launch} {e : Env} {R : Room} {s : State} {m : MethodId} {args : Array Value} {below : List Frame} {meth : Method} {c : Code} {g : z_G} {u : z_M} {res : Int32 × z_M} (hR : R = z_rm 7) (X : z_X p R s m args meth c cX10_creased 7 RX10 wsX10_creased (some .int) g z_shR) (x1 : Int32) (x2 : Int32) (x3 : Int32) (x90 : Int32) (x91 : Int32) (x92 : Int32) (w : z_M) (h : j_X10_creased_j17 x1 x2 x3 x90 x91 x92 w = some res) : z_V p l e R s m args below meth c 7 g z_shR (MQ below (z_Qc g z_shR (fun v u' => v = some (.int res.1) ∧ u' = res.2)) args s 0 0 (z_A g z_shR)) 17 [(0, .ref (z_ad g 0)), (1, .int x1), (2, .int x2), (3, .int x3)] [.int x90, .int x91, .int x92, .ref (z_ad g 0)] w := by
  unfold j_X10_creased_j17 at h
  obtain ⟨r3, er3, h⟩ := z_bs h
  refine z_callVi X (r := r3) (u1 := w) [.int x92, .int x91, .int x90] [] (w_X10_noInner l g x92 x91 x90 w er3) z_r0 rfl gX10_creased_X10_noInner hy_X10_noInner rfl (z_le1 hR (by decide)) (z_le2 hR (by decide) (by decide)) (Nat.le_of_ble_eq_true rfl) dX10_creased_17 (z_istore X [(4, .int r3), (0, .ref (z_ad g 0)), (1, .int x1), (2, .int x2), (3, .int x3)] dX10_creased_20 (by decide) rfl (z_iload X 0 dX10_creased_22 rfl (z_if_ge X 30 dX10_creased_24 (by decide) (fun c4 => ?_) (fun c4 => ?_))))
  · replace h := z_ip c4 h
    obtain ⟨r5, er5, h⟩ := z_bs h
    refine z_aload_n X 1 dX10_creased_30 rfl rfl (z_iload_n X 2 dX10_creased_31 rfl rfl (z_iload_n X 3 dX10_creased_32 rfl rfl (z_callVv X (u1 := r5) [.int x1, .int x2] [] (w_X10_layChains l g x1 x2 w er5) z_r0 rfl gX10_creased_X10_layChains hy_X10_layChains rfl (z_le1 hR (by decide)) (z_le2 hR (by decide) (by decide)) (Nat.le_of_ble_eq_true rfl) dX10_creased_33 (z_iconst X (v := 0) dX10_creased_36 (by decide) (z_istore X [(5, .int 0), (4, .int r3), (0, .ref (z_ad g 0)), (1, .int x1), (2, .int x2), (3, .int x3)] dX10_creased_37 (by decide) rfl (z_iconst X (v := 0) dX10_creased_39 (by decide) (z_istore X [(6, .int 0), (5, .int 0), (4, .int r3), (0, .ref (z_ad g 0)), (1, .int x1), (2, .int x2), (3, .int x3)] dX10_creased_40 (by decide) rfl (z_sub [3, 6, 1, 0] [(0, .ref (z_ad g 0)), (3, .int x3), (5, .int 0), (6, .int 0)] rfl ?_))))))))
    have hw := z_lp_w (fun q9 kb9 kx9 h1 h2 h3 => wb_X10_creased_42 (l := l) (e := e) (below := below) (u := r5) hR X x3 q9 kb9 kx9 h1 h2 h3) z_F _ _ h
    refine hw (fun t12 h => ?_)
    refine z_iload X 0 dX10_creased_80 rfl ?_
    cases h; exact z_iret X rfl dX10_creased_82 ⟨rfl, rfl⟩
  · replace h := z_in c4 h
    refine z_iload X 0 dX10_creased_27 rfl ?_
    cases h; exact z_iret X rfl dX10_creased_29 ⟨rfl, rfl⟩
set_option maxRecDepth 20000 in
set_option maxHeartbeats 4000000 in
theorem w_X10_creased (l : Launch) (g : z_G) (a1 : Int32) (a2 : Int32) (a3 : Int32) (u : z_M) {res : Int32 × z_M} (h : f_X10_creased a1 a2 a3 u = some res) : z_C l g z_shR yX10_creased wsX10_creased 7 [.ref (z_ad g 0), .int a1, .int a2, .int a3] u (fun v u' => v = some (.int res.1) ∧ u' = res.2) := by
  refine z_C.mk (lv := [(0, .ref (z_ad g 0)), (1, .int a1), (2, .int a2), (3, .int a3)]) (cc := cX10_creased) (nL := 7) (rt := (some .int)) rfl (by decide) (Nat.le_of_ble_eq_true rfl) rfl (fun p e R s m args below meth c hR X => ?_)
  unfold f_X10_creased at h
  obtain ⟨u1, eu1, h⟩ := z_ls h
  refine z_aload_n X 0 dX10_creased_0 rfl rfl (z_iconst X (v := 0) dX10_creased_1 (by decide) (z_putI X (k0 := 0) (ty0 := tyX10) z_r0 rfl in_X10_creased_X10 tyX10_ok nmX10 (by decide) rfl rfl rfl rfl rfl lk_X10_creased_82 dX10_creased_2 (z_nm eu1 (z_aload_n X 0 dX10_creased_5 rfl rfl (z_iload_n X 1 dX10_creased_6 rfl rfl (z_iload_n X 2 dX10_creased_7 rfl rfl (z_iload_n X 3 dX10_creased_8 rfl rfl (z_if_lt X 16 dX10_creased_9 (by decide) (fun c2 => ?_) (fun c2 => ?_)))))))))
  · replace h := z_ip c2 h
    refine z_iconst X (v := 0) dX10_creased_16 (by decide) ?_
    exact wj_X10_creased_j17 (u := u1) hR X a1 a2 a3 0 a2 a1 u1 h
  · replace h := z_in c2 h
    refine z_iconst X (v := 1) dX10_creased_12 (by decide) (z_goto X 17 dX10_creased_13 (by decide) ?_)
    exact wj_X10_creased_j17 (u := u1) hR X a1 a2 a3 1 a2 a1 u1 h

theorem lk_X10_moebiusWithout_9 : (Cond.fieldLink RX10 9 RX10 (TX10 1).2.1 (TX10 1).2.2.1) ∈ wsX10_moebiusWithout := by decide +kernel
theorem in_X10_moebiusWithout_X10 : ∀ w ∈ u_ws RX10 TX10 30, w ∈ wsX10_moebiusWithout := fun _ h => List.mem_cons_of_mem _ (List.mem_append_right _ h)
theorem lk_X10_moebiusWithout_57 : (Cond.fieldLink RX10 57 RX10 (TX10 22).2.1 (TX10 22).2.2.1) ∈ wsX10_moebiusWithout := by decide +kernel
def f_X10_moebiusWithout (a1 : Int32) (a2 : Int32) (a3 : Int32) (u : z_M) : Option (Int32 × z_M) :=
  z_gd (z_inb 1 93) (Option.bind (f_X10_layMoebius a1 a2 ((z_gI u 1 (1 : Int32).toNatClampNeg) &&& ((1 <<< (a3 &&& 31)) ^^^ (-1))) u) (fun r2 => z_gd (z_inb a2 9) (some (z_gI r2 14 a2.toNatClampNeg, r2))))
set_option maxRecDepth 20000 in
set_option maxHeartbeats 4000000 in
theorem w_X10_moebiusWithout (l : Launch) (g : z_G) (a1 : Int32) (a2 : Int32) (a3 : Int32) (u : z_M) {res : Int32 × z_M} (h : f_X10_moebiusWithout a1 a2 a3 u = some res) : z_C l g z_shR yX10_moebiusWithout wsX10_moebiusWithout 7 [.ref (z_ad g 0), .int a1, .int a2, .int a3] u (fun v u' => v = some (.int res.1) ∧ u' = res.2) := by
  refine z_C.mk (lv := [(0, .ref (z_ad g 0)), (1, .int a1), (2, .int a2), (3, .int a3)]) (cc := cX10_moebiusWithout) (nL := 4) (rt := (some .int)) rfl (by decide) (Nat.le_of_ble_eq_true rfl) rfl (fun p e R s m args below meth c hR X => ?_)
  unfold f_X10_moebiusWithout at h
  obtain ⟨b1, h⟩ := z_gs h
  obtain ⟨r2, er2, h⟩ := z_bs h
  obtain ⟨b3, h⟩ := z_gs h
  refine z_aload_n X 0 dX10_moebiusWithout_0 rfl rfl (z_iload_n X 1 dX10_moebiusWithout_1 rfl rfl (z_iload_n X 2 dX10_moebiusWithout_2 rfl rfl (z_aload_n X 0 dX10_moebiusWithout_3 rfl rfl (z_getR X (k0 := 1) z_r0 rfl in_X10_moebiusWithout_X10 (by decide) rfl rfl lk_X10_moebiusWithout_9 dX10_moebiusWithout_4 (z_iconst X (v := 1) dX10_moebiusWithout_7 (by decide) (z_iald X z_r1 (z_inS b1) dX10_moebiusWithout_8 (z_iconst X (v := 1) dX10_moebiusWithout_9 (by decide) (z_iload_n X 3 dX10_moebiusWithout_10 rfl rfl (z_ishl X dX10_moebiusWithout_11 (z_iconst X (v := (-1)) dX10_moebiusWithout_12 (by decide) (z_ixor X dX10_moebiusWithout_13 (z_iand X dX10_moebiusWithout_14 (z_callVv X (u1 := r2) [.int a1, .int a2, .int ((z_gI u 1 (1 : Int32).toNatClampNeg) &&& ((1 <<< (a3 &&& 31)) ^^^ (-1)))] [] (w_X10_layMoebius l g a1 a2 ((z_gI u 1 (1 : Int32).toNatClampNeg) &&& ((1 <<< (a3 &&& 31)) ^^^ (-1))) u er2) z_r0 rfl gX10_moebiusWithout_X10_layMoebius hy_X10_layMoebius rfl (z_le1 hR (by decide)) (z_le2 hR (by decide) (by decide)) (Nat.le_of_ble_eq_true rfl) dX10_moebiusWithout_15 (z_aload_n X 0 dX10_moebiusWithout_18 rfl rfl (z_getR X (k0 := 22) z_r0 rfl in_X10_moebiusWithout_X10 (by decide) rfl rfl lk_X10_moebiusWithout_57 dX10_moebiusWithout_19 (z_iload_n X 2 dX10_moebiusWithout_22 rfl rfl (z_iald X z_r14 (z_inS b3) dX10_moebiusWithout_23 ?_)))))))))))))))))
  cases h; exact z_iret X rfl dX10_moebiusWithout_24 ⟨rfl, rfl⟩

theorem lk_X10_without_82 : (Cond.fieldLink RX10 82 RX10 (TX10 0).2.1 (TX10 0).2.2.1) ∈ wsX10_without := by decide +kernel
theorem in_X10_without_X10 : ∀ w ∈ u_ws RX10 TX10 30, w ∈ wsX10_without := fun _ h => List.mem_cons_of_mem _ (List.mem_append_right _ h)
theorem ct316_X10_without : Cond.constant RX10 316 (-2147483648) ∈ wsX10_without := by decide +kernel
theorem ct85_X10_without : Cond.constantLong RX10 85 8 ∈ wsX10_without := by decide +kernel
theorem hy_X10_moebiusWithout : yX10_moebiusWithout.cls = RX10 ∧ yX10_moebiusWithout.cls ≠ "java/lang/invoke/MethodHandle" ∧ yX10_moebiusWithout.cls ≠ "java/lang/invoke/VarHandle" ∧ (parseMethodDescriptor yX10_moebiusWithout.desc).map (fun d => d.parameters.length) = some 3 := by decide +kernel
def f_X10_without (a1 : Int32) (a2 : Int32) (a3 : Int32) (u : z_M) : Option (Int32 × z_M) :=
  z_lt (z_sI u 0 0 0) (fun u1 => Option.bind (f_X10_refusal a1 a2 u1) (fun r2 => if r2 < 0 then (some ((-2147483648), u1)) else (Option.bind (f_X10_isIn a3.toInt64 0 8) (fun r4 => if r4 = 0 then (some ((-2147483648), u1)) else (Option.bind (f_X10_inner a1 a2 u1) (fun r6 => Option.bind (f_X10_has r6 a3) (fun r7 => if r7 = 0 then (some ((-2147483648), u1)) else (z_b2 (f_X10_moebiusWithout a1 a2 a3 u1) (fun r9 u10 => some (r9, u10))))))))))
set_option maxRecDepth 20000 in
set_option maxHeartbeats 4000000 in
theorem w_X10_without (l : Launch) (g : z_G) (a1 : Int32) (a2 : Int32) (a3 : Int32) (u : z_M) {res : Int32 × z_M} (h : f_X10_without a1 a2 a3 u = some res) : z_C l g z_shR yX10_without wsX10_without 8 [.ref (z_ad g 0), .int a1, .int a2, .int a3] u (fun v u' => v = some (.int res.1) ∧ u' = res.2) := by
  refine z_C.mk (lv := [(0, .ref (z_ad g 0)), (1, .int a1), (2, .int a2), (3, .int a3)]) (cc := cX10_without) (nL := 4) (rt := (some .int)) rfl (by decide) (Nat.le_of_ble_eq_true rfl) rfl (fun p e R s m args below meth c hR X => ?_)
  unfold f_X10_without at h
  obtain ⟨u1, eu1, h⟩ := z_ls h
  obtain ⟨r2, er2, h⟩ := z_bs h
  refine z_aload_n X 0 dX10_without_0 rfl rfl (z_iconst X (v := 0) dX10_without_1 (by decide) (z_putI X (k0 := 0) (ty0 := tyX10) z_r0 rfl in_X10_without_X10 tyX10_ok nmX10 (by decide) rfl rfl rfl rfl rfl lk_X10_without_82 dX10_without_2 (z_nm eu1 (z_aload_n X 0 dX10_without_5 rfl rfl (z_iload_n X 1 dX10_without_6 rfl rfl (z_iload_n X 2 dX10_without_7 rfl rfl (z_callVi X (r := r2) (u1 := u1) [.int a1, .int a2] [] (w_X10_refusal l g a1 a2 u1 er2) z_r0 rfl gX10_without_X10_refusal hy_X10_refusal rfl (z_le1 hR (by decide)) (z_le2 hR (by decide) (by decide)) (Nat.le_of_ble_eq_true rfl) dX10_without_8 (z_if_lt X 39 dX10_without_11 (by decide) (fun c3 => ?_) (fun c3 => ?_)))))))))
  · replace h := z_ip c3 h
    refine z_ldcw X dX10_without_39 ct316_X10_without ?_
    cases h; exact z_iret X rfl dX10_without_42 ⟨rfl, rfl⟩
  · replace h := z_in c3 h
    obtain ⟨r4, er4, h⟩ := z_bs h
    refine z_iload_n X 3 dX10_without_14 rfl rfl (z_i2l X dX10_without_15 (z_lconst X (v := 0) dX10_without_16 (by decide) (z_ldc2 X dX10_without_17 ct85_X10_without (z_callSi X (r := r4) (u1 := u1) [.long a3.toInt64, .long 0, .long 8] [] (w_X10_isIn l g a3.toInt64 0 8 u1 er4) gX10_without_X10_isIn hy_X10_isIn.2 rfl (z_le1 hR (by decide)) (z_le2 hR (by decide) (by decide)) (Nat.le_of_ble_eq_true rfl) dX10_without_20 (z_if_eq X 39 dX10_without_23 (by decide) (fun c5 => ?_) (fun c5 => ?_))))))
    · replace h := z_ip c5 h
      refine z_ldcw X dX10_without_39 ct316_X10_without ?_
      cases h; exact z_iret X rfl dX10_without_42 ⟨rfl, rfl⟩
    · replace h := z_in c5 h
      obtain ⟨r6, er6, h⟩ := z_bs h
      obtain ⟨r7, er7, h⟩ := z_bs h
      refine z_aload_n X 0 dX10_without_26 rfl rfl (z_iload_n X 1 dX10_without_27 rfl rfl (z_iload_n X 2 dX10_without_28 rfl rfl (z_callVi X (r := r6) (u1 := u1) [.int a1, .int a2] [] (w_X10_inner l g a1 a2 u1 er6) z_r0 rfl gX10_without_X10_inner hy_X10_inner rfl (z_le1 hR (by decide)) (z_le2 hR (by decide) (by decide)) (Nat.le_of_ble_eq_true rfl) dX10_without_29 (z_iload_n X 3 dX10_without_32 rfl rfl (z_callSi X (r := r7) (u1 := u1) [.int r6, .int a3] [] (w_X10_has l g r6 a3 u1 er7) gX10_without_X10_has hy_X10_has.2 rfl (z_le1 hR (by decide)) (z_le2 hR (by decide) (by decide)) (Nat.le_of_ble_eq_true rfl) dX10_without_33 (z_if_ne X 43 dX10_without_36 (by decide) (fun c8 => ?_) (fun c8 => ?_)))))))
      · replace h := z_in c8 h
        obtain ⟨r9, u10, er9, h⟩ := z_b2s h
        refine z_aload_n X 0 dX10_without_43 rfl rfl (z_iload_n X 1 dX10_without_44 rfl rfl (z_iload_n X 2 dX10_without_45 rfl rfl (z_iload_n X 3 dX10_without_46 rfl rfl (z_callVi X (r := r9) (u1 := u10) [.int a1, .int a2, .int a3] [] (w_X10_moebiusWithout l g a1 a2 a3 u1 er9) z_r0 rfl gX10_without_X10_moebiusWithout hy_X10_moebiusWithout rfl (z_le1 hR (by decide)) (z_le2 hR (by decide) (by decide)) (Nat.le_of_ble_eq_true rfl) dX10_without_47 ?_))))
        cases h; exact z_iret X rfl dX10_without_50 ⟨rfl, rfl⟩
      · replace h := z_ip c8 h
        refine z_ldcw X dX10_without_39 ct316_X10_without ?_
        cases h; exact z_iret X rfl dX10_without_42 ⟨rfl, rfl⟩

theorem lk_X10_counted_82 : (Cond.fieldLink RX10 82 RX10 (TX10 0).2.1 (TX10 0).2.2.1) ∈ wsX10_counted := by decide +kernel
theorem in_X10_counted_X10 : ∀ w ∈ u_ws RX10 TX10 30, w ∈ wsX10_counted := fun _ h => List.mem_cons_of_mem _ (List.mem_append_right _ h)
theorem lk_X10_counted_9 : (Cond.fieldLink RX10 9 RX10 (TX10 1).2.1 (TX10 1).2.2.1) ∈ wsX10_counted := by decide +kernel
theorem lk_X10_counted_57 : (Cond.fieldLink RX10 57 RX10 (TX10 22).2.1 (TX10 22).2.2.1) ∈ wsX10_counted := by decide +kernel
def b_X10_counted_44 (x1 : Int32) (x2 : Int32) (x4 : Int32) : (Int32 × Int32 × z_M) → ((Int32 × Int32 × z_M) → Option (Int32 × z_M)) → ((Int32 × z_M) → Option (Int32 × z_M)) → Option (Int32 × z_M) := fun q kb kx =>
  if 9 ≤ q.2.1 then (kx (q.1, q.2.2)) else (Option.bind (f_X10_inner x1 x2 q.2.2) (fun r9 => Option.bind (f_X10_has r9 q.2.1) (fun r10 => if r10 = 0 then (z_lt (q.1 ||| 0) (fun v12 => kb (v12, q.2.1 + 1, q.2.2))) else (z_b2 (f_X10_moebiusWithout x1 x2 q.2.1 q.2.2) (fun r13 u14 => if r13 = x4 then (z_lt (q.1 ||| 0) (fun v16 => kb (v16, q.2.1 + 1, u14))) else (z_lt (q.1 ||| (1 <<< (q.2.1 &&& 31))) (fun v17 => kb (v17, q.2.1 + 1, u14))))))))
def f_X10_counted (a1 : Int32) (a2 : Int32) (u : z_M) : Option (Int32 × z_M) :=
  z_lt (z_sI u 0 0 0) (fun u1 => Option.bind (f_X10_refusal a1 a2 u1) (fun r2 => if 0 ≤ r2 then (z_gd (z_inb 1 93) (Option.bind (f_X10_layMoebius a1 a2 (z_gI u1 1 (1 : Int32).toNatClampNeg) u1) (fun r5 => z_gd (z_inb a2 9) (z_lt (z_gI r5 14 a2.toNatClampNeg) (fun v7 => z_lp (b_X10_counted_44 a1 a2 v7) z_F (0, 0, r5) (fun t18 => some (t18.1, t18.2))))))) else (some (r2, u1))))
set_option maxRecDepth 20000 in
set_option maxHeartbeats 4000000 in
theorem wb_X10_counted_44 {p : Program} {l : Launch} {e : Env} {R : Room} {s : State} {m : MethodId} {args : Array Value} {below : List Frame} {meth : Method} {c : Code} {g : z_G} {u : z_M} {res : Int32 × z_M} (hR : R = z_rm 8) (X : z_X p R s m args meth c cX10_counted 7 RX10 wsX10_counted (some .int) g z_shR) (x1 : Int32) (x2 : Int32) (x4 : Int32) (q : Int32 × Int32 × z_M) (kb : (Int32 × Int32 × z_M) → Option (Int32 × z_M)) (kx : (Int32 × z_M) → Option (Int32 × z_M)) (hkb : ∀ q, kb q = some res → z_V p l e R s m args below meth c 7 g z_shR (MQ below (z_Qc g z_shR (fun v u' => v = some (.int res.1) ∧ u' = res.2)) args s 0 0 (z_A g z_shR)) 44 [(0, .ref (z_ad g 0)), (1, .int x1), (2, .int x2), (4, .int x4), (5, .int q.1), (6, .int q.2.1)] [] q.2.2) (hkx : ∀ t, kx t = some res → z_V p l e R s m args below meth c 7 g z_shR (MQ below (z_Qc g z_shR (fun v u' => v = some (.int res.1) ∧ u' = res.2)) args s 0 0 (z_A g z_shR)) 97 [(5, .int t.1)] [] t.2) (h : b_X10_counted_44 x1 x2 x4 q kb kx = some res) : z_V p l e R s m args below meth c 7 g z_shR (MQ below (z_Qc g z_shR (fun v u' => v = some (.int res.1) ∧ u' = res.2)) args s 0 0 (z_A g z_shR)) 44 [(0, .ref (z_ad g 0)), (1, .int x1), (2, .int x2), (4, .int x4), (5, .int q.1), (6, .int q.2.1)] [] q.2.2 := by
  unfold b_X10_counted_44 at h
  refine z_iload X 5 dX10_counted_44 rfl (z_bipush X (v := 9) dX10_counted_46 (by decide) (z_icmp_ge X 97 dX10_counted_48 (by decide) (fun c8 => ?_) (fun c8 => ?_)))
  · replace h := z_ip c8 h
    refine z_sub [4] [(5, .int q.1)] rfl ?_
    exact hkx (q.1, q.2.2) h
  · replace h := z_in c8 h
    obtain ⟨r9, er9, h⟩ := z_bs h
    obtain ⟨r10, er10, h⟩ := z_bs h
    refine z_iload X 4 dX10_counted_51 rfl (z_aload_n X 0 dX10_counted_53 rfl rfl (z_iload_n X 1 dX10_counted_54 rfl rfl (z_iload_n X 2 dX10_counted_55 rfl rfl (z_callVi X (r := r9) (u1 := q.2.2) [.int x1, .int x2] [.int q.1] (w_X10_inner l g x1 x2 q.2.2 er9) z_r0 rfl gX10_counted_X10_inner hy_X10_inner rfl (z_le1 hR (by decide)) (z_le2 hR (by decide) (by decide)) (Nat.le_of_ble_eq_true rfl) dX10_counted_56 (z_iload X 5 dX10_counted_59 rfl (z_callSi X (r := r10) (u1 := q.2.2) [.int r9, .int q.2.1] [.int q.1] (w_X10_has l g r9 q.2.1 q.2.2 er10) gX10_counted_X10_has hy_X10_has.2 rfl (z_le1 hR (by decide)) (z_le2 hR (by decide) (by decide)) (Nat.le_of_ble_eq_true rfl) dX10_counted_61 (z_if_eq X 87 dX10_counted_64 (by decide) (fun c11 => ?_) (fun c11 => ?_))))))))
    · replace h := z_ip c11 h
      obtain ⟨v12, ev12, h⟩ := z_ls h
      refine z_iconst X (v := 0) dX10_counted_87 (by decide) (z_ior X dX10_counted_88 (z_ti ev12 (z_istore X [(5, .int v12), (0, .ref (z_ad g 0)), (1, .int x1), (2, .int x2), (4, .int x4), (6, .int q.2.1)] dX10_counted_89 (by decide) rfl (z_iinc X (v := q.2.1 + 1) 5 [(6, .int (q.2.1 + 1)), (5, .int v12), (0, .ref (z_ad g 0)), (1, .int x1), (2, .int x2), (4, .int x4)] dX10_counted_91 rfl rfl (by decide) rfl (z_goto X 44 dX10_counted_94 (by decide) (z_sub [2, 3, 4, 5, 1, 0] [(0, .ref (z_ad g 0)), (1, .int x1), (2, .int x2), (4, .int x4), (5, .int v12), (6, .int (q.2.1 + 1))] rfl ?_))))))
      exact hkb (v12, q.2.1 + 1, q.2.2) h
    · replace h := z_in c11 h
      obtain ⟨r13, u14, er13, h⟩ := z_b2s h
      refine z_aload_n X 0 dX10_counted_67 rfl rfl (z_iload_n X 1 dX10_counted_68 rfl rfl (z_iload_n X 2 dX10_counted_69 rfl rfl (z_iload X 5 dX10_counted_70 rfl (z_callVi X (r := r13) (u1 := u14) [.int x1, .int x2, .int q.2.1] [.int q.1] (w_X10_moebiusWithout l g x1 x2 q.2.1 q.2.2 er13) z_r0 rfl gX10_counted_X10_moebiusWithout hy_X10_moebiusWithout rfl (z_le1 hR (by decide)) (z_le2 hR (by decide) (by decide)) (Nat.le_of_ble_eq_true rfl) dX10_counted_72 (z_iload X 3 dX10_counted_75 rfl (z_icmp_eq X 87 dX10_counted_77 (by decide) (fun c15 => ?_) (fun c15 => ?_)))))))
      · replace h := z_ip c15 h
        obtain ⟨v16, ev16, h⟩ := z_ls h
        refine z_iconst X (v := 0) dX10_counted_87 (by decide) (z_ior X dX10_counted_88 (z_ti ev16 (z_istore X [(5, .int v16), (0, .ref (z_ad g 0)), (1, .int x1), (2, .int x2), (4, .int x4), (6, .int q.2.1)] dX10_counted_89 (by decide) rfl (z_iinc X (v := q.2.1 + 1) 5 [(6, .int (q.2.1 + 1)), (5, .int v16), (0, .ref (z_ad g 0)), (1, .int x1), (2, .int x2), (4, .int x4)] dX10_counted_91 rfl rfl (by decide) rfl (z_goto X 44 dX10_counted_94 (by decide) (z_sub [2, 3, 4, 5, 1, 0] [(0, .ref (z_ad g 0)), (1, .int x1), (2, .int x2), (4, .int x4), (5, .int v16), (6, .int (q.2.1 + 1))] rfl ?_))))))
        exact hkb (v16, q.2.1 + 1, u14) h
      · replace h := z_in c15 h
        obtain ⟨v17, ev17, h⟩ := z_ls h
        refine z_iconst X (v := 1) dX10_counted_80 (by decide) (z_iload X 5 dX10_counted_81 rfl (z_ishl X dX10_counted_83 (z_goto X 88 dX10_counted_84 (by decide) (z_ior X dX10_counted_88 (z_ti ev17 (z_istore X [(5, .int v17), (0, .ref (z_ad g 0)), (1, .int x1), (2, .int x2), (4, .int x4), (6, .int q.2.1)] dX10_counted_89 (by decide) rfl (z_iinc X (v := q.2.1 + 1) 5 [(6, .int (q.2.1 + 1)), (5, .int v17), (0, .ref (z_ad g 0)), (1, .int x1), (2, .int x2), (4, .int x4)] dX10_counted_91 rfl rfl (by decide) rfl (z_goto X 44 dX10_counted_94 (by decide) (z_sub [2, 3, 4, 5, 1, 0] [(0, .ref (z_ad g 0)), (1, .int x1), (2, .int x2), (4, .int x4), (5, .int v17), (6, .int (q.2.1 + 1))] rfl ?_)))))))))
        exact hkb (v17, q.2.1 + 1, u14) h
set_option maxRecDepth 20000 in
set_option maxHeartbeats 4000000 in
theorem w_X10_counted (l : Launch) (g : z_G) (a1 : Int32) (a2 : Int32) (u : z_M) {res : Int32 × z_M} (h : f_X10_counted a1 a2 u = some res) : z_C l g z_shR yX10_counted wsX10_counted 8 [.ref (z_ad g 0), .int a1, .int a2] u (fun v u' => v = some (.int res.1) ∧ u' = res.2) := by
  refine z_C.mk (lv := [(0, .ref (z_ad g 0)), (1, .int a1), (2, .int a2)]) (cc := cX10_counted) (nL := 7) (rt := (some .int)) rfl (by decide) (Nat.le_of_ble_eq_true rfl) rfl (fun p e R s m args below meth c hR X => ?_)
  unfold f_X10_counted at h
  obtain ⟨u1, eu1, h⟩ := z_ls h
  obtain ⟨r2, er2, h⟩ := z_bs h
  refine z_aload_n X 0 dX10_counted_0 rfl rfl (z_iconst X (v := 0) dX10_counted_1 (by decide) (z_putI X (k0 := 0) (ty0 := tyX10) z_r0 rfl in_X10_counted_X10 tyX10_ok nmX10 (by decide) rfl rfl rfl rfl rfl lk_X10_counted_82 dX10_counted_2 (z_nm eu1 (z_aload_n X 0 dX10_counted_5 rfl rfl (z_iload_n X 1 dX10_counted_6 rfl rfl (z_iload_n X 2 dX10_counted_7 rfl rfl (z_callVi X (r := r2) (u1 := u1) [.int a1, .int a2] [] (w_X10_refusal l g a1 a2 u1 er2) z_r0 rfl gX10_counted_X10_refusal hy_X10_refusal rfl (z_le1 hR (by decide)) (z_le2 hR (by decide) (by decide)) (Nat.le_of_ble_eq_true rfl) dX10_counted_8 (z_istore_n X [(3, .int r2), (0, .ref (z_ad g 0)), (1, .int a1), (2, .int a2)] dX10_counted_11 rfl (by decide) rfl (z_iload_n X 0 dX10_counted_12 rfl rfl (z_if_ge X 18 dX10_counted_13 (by decide) (fun c3 => ?_) (fun c3 => ?_)))))))))))
  · replace h := z_ip c3 h
    obtain ⟨b4, h⟩ := z_gs h
    obtain ⟨r5, er5, h⟩ := z_bs h
    obtain ⟨b6, h⟩ := z_gs h
    obtain ⟨v7, ev7, h⟩ := z_ls h
    refine z_aload_n X 1 dX10_counted_18 rfl rfl (z_iload_n X 2 dX10_counted_19 rfl rfl (z_iload_n X 3 dX10_counted_20 rfl rfl (z_aload_n X 1 dX10_counted_21 rfl rfl (z_getR X (k0 := 1) z_r0 rfl in_X10_counted_X10 (by decide) rfl rfl lk_X10_counted_9 dX10_counted_22 (z_iconst X (v := 1) dX10_counted_25 (by decide) (z_iald X z_r1 (z_inS b4) dX10_counted_26 (z_callVv X (u1 := r5) [.int a1, .int a2, .int (z_gI u1 1 (1 : Int32).toNatClampNeg)] [] (w_X10_layMoebius l g a1 a2 (z_gI u1 1 (1 : Int32).toNatClampNeg) u1 er5) z_r0 rfl gX10_counted_X10_layMoebius hy_X10_layMoebius rfl (z_le1 hR (by decide)) (z_le2 hR (by decide) (by decide)) (Nat.le_of_ble_eq_true rfl) dX10_counted_27 (z_aload_n X 1 dX10_counted_30 rfl rfl (z_getR X (k0 := 22) z_r0 rfl in_X10_counted_X10 (by decide) rfl rfl lk_X10_counted_57 dX10_counted_31 (z_iload_n X 3 dX10_counted_34 rfl rfl (z_iald X z_r14 (z_inS b6) dX10_counted_35 (z_ti ev7 (z_istore X [(4, .int v7), (3, .int r2), (0, .ref (z_ad g 0)), (1, .int a1), (2, .int a2)] dX10_counted_36 (by decide) rfl (z_iconst X (v := 0) dX10_counted_38 (by decide) (z_istore X [(5, .int 0), (4, .int v7), (3, .int r2), (0, .ref (z_ad g 0)), (1, .int a1), (2, .int a2)] dX10_counted_39 (by decide) rfl (z_iconst X (v := 0) dX10_counted_41 (by decide) (z_istore X [(6, .int 0), (5, .int 0), (4, .int v7), (3, .int r2), (0, .ref (z_ad g 0)), (1, .int a1), (2, .int a2)] dX10_counted_42 (by decide) rfl (z_sub [4, 5, 6, 2, 1, 0] [(0, .ref (z_ad g 0)), (1, .int a1), (2, .int a2), (4, .int v7), (5, .int 0), (6, .int 0)] rfl ?_))))))))))))))))))
    have hw := z_lp_w (fun q9 kb9 kx9 h1 h2 h3 => wb_X10_counted_44 (l := l) (e := e) (below := below) (u := r5) hR X a1 a2 v7 q9 kb9 kx9 h1 h2 h3) z_F _ _ h
    refine hw (fun t18 h => ?_)
    refine z_iload X 0 dX10_counted_97 rfl ?_
    cases h; exact z_iret X rfl dX10_counted_99 ⟨rfl, rfl⟩
  · replace h := z_in c3 h
    refine z_iload_n X 0 dX10_counted_16 rfl rfl ?_
    cases h; exact z_iret X rfl dX10_counted_17 ⟨rfl, rfl⟩

theorem lk_X10_core_82 : (Cond.fieldLink RX10 82 RX10 (TX10 0).2.1 (TX10 0).2.2.1) ∈ wsX10_core := by decide +kernel
theorem in_X10_core_X10 : ∀ w ∈ u_ws RX10 TX10 30, w ∈ wsX10_core := fun _ h => List.mem_cons_of_mem _ (List.mem_append_right _ h)
theorem lk_X10_core_9 : (Cond.fieldLink RX10 9 RX10 (TX10 1).2.1 (TX10 1).2.2.1) ∈ wsX10_core := by decide +kernel
def b_X10_core_44 (x1 : Int32) (x2 : Int32) (x3 : Int32) (x4 : Int32) (u : z_M) : Int32 → (Int32 → Option (Int32 × z_M)) → (Int32 → Option (Int32 × z_M)) → Option (Int32 × z_M) := fun q kb kx =>
  if 9 ≤ q then (kx q) else (z_gd (z_inb 1 93) (Option.bind (f_X10_has (z_gI u 1 (1 : Int32).toNatClampNeg) q) (fun r10 => if r10 = 0 then (kb (q + 1)) else (Option.bind (f_X10_coverers q u) (fun r12 => Option.bind (f_X10_bits r12) (fun r13 => if r13 = 1 then (kx q) else (Option.bind (f_X10_covered q u) (fun r15 => Option.bind (f_X10_bits r15) (fun r16 => if r16 = 1 then (kx q) else (kb (q + 1)))))))))))
def j_X10_core_j128 (x1 : Int32) (x2 : Int32) (x4 : Int32) (x5 : Int32) (x6 : Int32) (x90 : Int32) (w : z_M) (kb : (Int32 × Int32 × Int32 × z_M) → Option (Int32 × z_M)) (kx : (Int32 × z_M) → Option (Int32 × z_M)) : Option (Int32 × z_M) :=
  z_gd (z_inb 1 93) (z_gd (z_inb 1 93) (z_lt (z_sI w 1 (1 : Int32).toNatClampNeg ((z_gI w 1 (1 : Int32).toNatClampNeg) ^^^ (1 <<< (x6 &&& 31)))) (fun u24 => kb (x90, x4 + 1, x5, u24))))
def j_X10_core_j109 (x1 : Int32) (x2 : Int32) (x3 : Int32) (x4 : Int32) (x6 : Int32) (x90 : Int32) (w : z_M) (kb : (Int32 × Int32 × Int32 × z_M) → Option (Int32 × z_M)) (kx : (Int32 × z_M) → Option (Int32 × z_M)) : Option (Int32 × z_M) :=
  if x90 = 0 then (kb (x3, x4, x90, w)) else (if x4 = x1 then (j_X10_core_j128 x1 x2 x4 x90 x6 x6 w kb kx) else (j_X10_core_j128 x1 x2 x4 x90 x6 x3 w kb kx))
def b_X10_core_36 (x1 : Int32) (x2 : Int32) : (Int32 × Int32 × Int32 × z_M) → ((Int32 × Int32 × Int32 × z_M) → Option (Int32 × z_M)) → ((Int32 × z_M) → Option (Int32 × z_M)) → Option (Int32 × z_M) := fun q kb kx =>
  if q.2.2.1 = 0 then (kx (q.1, q.2.2.2)) else (z_lp (b_X10_core_44 x1 x2 q.1 q.2.1 q.2.2.2) z_F 0 (fun t18 => if 9 ≤ t18 then (j_X10_core_j109 x1 x2 q.1 q.2.1 t18 0 q.2.2.2 kb kx) else (j_X10_core_j109 x1 x2 q.1 q.2.1 t18 1 q.2.2.2 kb kx)))
def f_X10_core (a1 : Int32) (u : z_M) : Option (Int32 × z_M) :=
  z_lt (z_sI u 0 0 0) (fun u1 => Option.bind (f_X10_isTold u1) (fun r2 => if r2 = 0 then (some ((-3), u1)) else (if (-1) ≤ a1 then (z_gd (z_inb 1 93) (z_lt (z_gI u1 1 (1 : Int32).toNatClampNeg) (fun v6 => z_lp (b_X10_core_36 a1 v6) z_F ((-2), 0, 1, u1) (fun t25 => z_gd (z_inb 1 93) (Option.bind (f_X10_bits (z_gI t25.2 1 (1 : Int32).toNatClampNeg)) (fun r27 => z_gd (z_inb 1 93) (z_lt (z_sI t25.2 1 (1 : Int32).toNatClampNeg v6) (fun u29 => if a1 = (-1) then (some (r27, u29)) else (some (t25.1, u29)))))))))) else (some ((-3), u1)))))
set_option maxRecDepth 20000 in
set_option maxHeartbeats 4000000 in
theorem wb_X10_core_44 {p : Program} {l : Launch} {e : Env} {R : Room} {s : State} {m : MethodId} {args : Array Value} {below : List Frame} {meth : Method} {c : Code} {g : z_G} {u : z_M} {res : Int32 × z_M} (hR : R = z_rm 6) (X : z_X p R s m args meth c cX10_core 7 RX10 wsX10_core (some .int) g z_shR) (x1 : Int32) (x2 : Int32) (x3 : Int32) (x4 : Int32) (q : Int32) (kb : Int32 → Option (Int32 × z_M)) (kx : Int32 → Option (Int32 × z_M)) (hkb : ∀ q, kb q = some res → z_V p l e R s m args below meth c 7 g z_shR (MQ below (z_Qc g z_shR (fun v u' => v = some (.int res.1) ∧ u' = res.2)) args s 0 0 (z_A g z_shR)) 44 [(0, .ref (z_ad g 0)), (1, .int x1), (2, .int x2), (3, .int x3), (4, .int x4), (6, .int q)] [] u) (hkx : ∀ t, kx t = some res → z_V p l e R s m args below meth c 7 g z_shR (MQ below (z_Qc g z_shR (fun v u' => v = some (.int res.1) ∧ u' = res.2)) args s 0 0 (z_A g z_shR)) 97 [(0, .ref (z_ad g 0)), (1, .int x1), (2, .int x2), (3, .int x3), (4, .int x4), (6, .int t)] [] u) (h : b_X10_core_44 x1 x2 x3 x4 u q kb kx = some res) : z_V p l e R s m args below meth c 7 g z_shR (MQ below (z_Qc g z_shR (fun v u' => v = some (.int res.1) ∧ u' = res.2)) args s 0 0 (z_A g z_shR)) 44 [(0, .ref (z_ad g 0)), (1, .int x1), (2, .int x2), (3, .int x3), (4, .int x4), (6, .int q)] [] u := by
  unfold b_X10_core_44 at h
  refine z_iload X 5 dX10_core_44 rfl (z_bipush X (v := 9) dX10_core_46 (by decide) (z_icmp_ge X 97 dX10_core_48 (by decide) (fun c8 => ?_) (fun c8 => ?_)))
  · replace h := z_ip c8 h
    exact hkx q h
  · replace h := z_in c8 h
    obtain ⟨b9, h⟩ := z_gs h
    obtain ⟨r10, er10, h⟩ := z_bs h
    refine z_aload_n X 0 dX10_core_51 rfl rfl (z_getR X (k0 := 1) z_r0 rfl in_X10_core_X10 (by decide) rfl rfl lk_X10_core_9 dX10_core_52 (z_iconst X (v := 1) dX10_core_55 (by decide) (z_iald X z_r1 (z_inS b9) dX10_core_56 (z_iload X 5 dX10_core_57 rfl (z_callSi X (r := r10) (u1 := u) [.int (z_gI u 1 (1 : Int32).toNatClampNeg), .int q] [] (w_X10_has l g (z_gI u 1 (1 : Int32).toNatClampNeg) q u er10) gX10_core_X10_has hy_X10_has.2 rfl (z_le1 hR (by decide)) (z_le2 hR (by decide) (by decide)) (Nat.le_of_ble_eq_true rfl) dX10_core_59 (z_if_eq X 91 dX10_core_62 (by decide) (fun c11 => ?_) (fun c11 => ?_)))))))
    · replace h := z_ip c11 h
      refine z_iinc X (v := q + 1) 5 [(6, .int (q + 1)), (0, .ref (z_ad g 0)), (1, .int x1), (2, .int x2), (3, .int x3), (4, .int x4)] dX10_core_91 rfl rfl (by decide) rfl (z_goto X 44 dX10_core_94 (by decide) (z_sub [1, 2, 3, 4, 5, 0] [(0, .ref (z_ad g 0)), (1, .int x1), (2, .int x2), (3, .int x3), (4, .int x4), (6, .int (q + 1))] rfl ?_))
      exact hkb (q + 1) h
    · replace h := z_in c11 h
      obtain ⟨r12, er12, h⟩ := z_bs h
      obtain ⟨r13, er13, h⟩ := z_bs h
      refine z_aload_n X 0 dX10_core_65 rfl rfl (z_iload X 5 dX10_core_66 rfl (z_callVi X (r := r12) (u1 := u) [.int q] [] (w_X10_coverers l g q u er12) z_r0 rfl gX10_core_X10_coverers hy_X10_coverers rfl (z_le1 hR (by decide)) (z_le2 hR (by decide) (by decide)) (Nat.le_of_ble_eq_true rfl) dX10_core_68 (z_callSi X (r := r13) (u1 := u) [.int r12] [] (w_X10_bits l g r12 u er13) gX10_core_X10_bits hy_X10_bits.2 rfl (z_le1 hR (by decide)) (z_le2 hR (by decide) (by decide)) (Nat.le_of_ble_eq_true rfl) dX10_core_71 (z_iconst X (v := 1) dX10_core_74 (by decide) (z_icmp_eq X 97 dX10_core_75 (by decide) (fun c14 => ?_) (fun c14 => ?_))))))
      · replace h := z_ip c14 h
        exact hkx q h
      · replace h := z_in c14 h
        obtain ⟨r15, er15, h⟩ := z_bs h
        obtain ⟨r16, er16, h⟩ := z_bs h
        refine z_aload_n X 0 dX10_core_78 rfl rfl (z_iload X 5 dX10_core_79 rfl (z_callVi X (r := r15) (u1 := u) [.int q] [] (w_X10_covered l g q u er15) z_r0 rfl gX10_core_X10_covered hy_X10_covered rfl (z_le1 hR (by decide)) (z_le2 hR (by decide) (by decide)) (Nat.le_of_ble_eq_true rfl) dX10_core_81 (z_callSi X (r := r16) (u1 := u) [.int r15] [] (w_X10_bits l g r15 u er16) gX10_core_X10_bits hy_X10_bits.2 rfl (z_le1 hR (by decide)) (z_le2 hR (by decide) (by decide)) (Nat.le_of_ble_eq_true rfl) dX10_core_84 (z_iconst X (v := 1) dX10_core_87 (by decide) (z_icmp_eq X 97 dX10_core_88 (by decide) (fun c17 => ?_) (fun c17 => ?_))))))
        · replace h := z_ip c17 h
          exact hkx q h
        · replace h := z_in c17 h
          refine z_iinc X (v := q + 1) 5 [(6, .int (q + 1)), (0, .ref (z_ad g 0)), (1, .int x1), (2, .int x2), (3, .int x3), (4, .int x4)] dX10_core_91 rfl rfl (by decide) rfl (z_goto X 44 dX10_core_94 (by decide) (z_sub [1, 2, 3, 4, 5, 0] [(0, .ref (z_ad g 0)), (1, .int x1), (2, .int x2), (3, .int x3), (4, .int x4), (6, .int (q + 1))] rfl ?_))
          exact hkb (q + 1) h
set_option maxRecDepth 20000 in
set_option maxHeartbeats 4000000 in
theorem wj_X10_core_j128 {p : Program} {l : Launch} {e : Env} {R : Room} {s : State} {m : MethodId} {args : Array Value} {below : List Frame} {meth : Method} {c : Code} {g : z_G} {u : z_M} {res : Int32 × z_M} (hR : R = z_rm 6) (X : z_X p R s m args meth c cX10_core 7 RX10 wsX10_core (some .int) g z_shR) (x1 : Int32) (x2 : Int32) (x4 : Int32) (x5 : Int32) (x6 : Int32) (x90 : Int32) (w : z_M) (kb : (Int32 × Int32 × Int32 × z_M) → Option (Int32 × z_M)) (kx : (Int32 × z_M) → Option (Int32 × z_M)) (hkb : ∀ q, kb q = some res → z_V p l e R s m args below meth c 7 g z_shR (MQ below (z_Qc g z_shR (fun v u' => v = some (.int res.1) ∧ u' = res.2)) args s 0 0 (z_A g z_shR)) 36 [(0, .ref (z_ad g 0)), (1, .int x1), (2, .int x2), (3, .int q.1), (4, .int q.2.1), (5, .int q.2.2.1)] [] q.2.2.2) (hkx : ∀ t, kx t = some res → z_V p l e R s m args below meth c 7 g z_shR (MQ below (z_Qc g z_shR (fun v u' => v = some (.int res.1) ∧ u' = res.2)) args s 0 0 (z_A g z_shR)) 148 [(0, .ref (z_ad g 0)), (1, .int x1), (2, .int x2), (3, .int t.1)] [] t.2) (h : j_X10_core_j128 x1 x2 x4 x5 x6 x90 w kb kx = some res) : z_V p l e R s m args below meth c 7 g z_shR (MQ below (z_Qc g z_shR (fun v u' => v = some (.int res.1) ∧ u' = res.2)) args s 0 0 (z_A g z_shR)) 128 [(0, .ref (z_ad g 0)), (1, .int x1), (2, .int x2), (4, .int x4), (5, .int x5), (6, .int x6)] [.int x90] w := by
  unfold j_X10_core_j128 at h
  obtain ⟨b22, h⟩ := z_gs h
  obtain ⟨b23, h⟩ := z_gs h
  obtain ⟨u24, eu24, h⟩ := z_ls h
  refine z_istore_n X [(3, .int x90), (0, .ref (z_ad g 0)), (1, .int x1), (2, .int x2), (4, .int x4), (5, .int x5), (6, .int x6)] dX10_core_128 rfl (by decide) rfl (z_aload_n X 1 dX10_core_129 rfl rfl (z_getR X (k0 := 1) z_r0 rfl in_X10_core_X10 (by decide) rfl rfl lk_X10_core_9 dX10_core_130 (z_iconst X (v := 1) dX10_core_133 (by decide) (z_dup2 X dX10_core_134 rfl rfl (z_iald X z_r1 (z_inS b22) dX10_core_135 (z_iconst X (v := 1) dX10_core_136 (by decide) (z_iload X 6 dX10_core_137 rfl (z_ishl X dX10_core_139 (z_ixor X dX10_core_140 (z_iast X z_r1 (z_inS b23) dX10_core_141 (z_nm eu24 (z_iinc X (v := x4 + 1) 4 [(4, .int (x4 + 1)), (3, .int x90), (0, .ref (z_ad g 0)), (1, .int x1), (2, .int x2), (5, .int x5), (6, .int x6)] dX10_core_142 rfl rfl (by decide) rfl (z_goto X 36 dX10_core_145 (by decide) (z_sub [2, 3, 4, 1, 0, 5] [(0, .ref (z_ad g 0)), (1, .int x1), (2, .int x2), (3, .int x90), (4, .int (x4 + 1)), (5, .int x5)] rfl ?_))))))))))))))
  exact hkb (x90, x4 + 1, x5, u24) h
set_option maxRecDepth 20000 in
set_option maxHeartbeats 4000000 in
theorem wj_X10_core_j109 {p : Program} {l : Launch} {e : Env} {R : Room} {s : State} {m : MethodId} {args : Array Value} {below : List Frame} {meth : Method} {c : Code} {g : z_G} {u : z_M} {res : Int32 × z_M} (hR : R = z_rm 6) (X : z_X p R s m args meth c cX10_core 7 RX10 wsX10_core (some .int) g z_shR) (x1 : Int32) (x2 : Int32) (x3 : Int32) (x4 : Int32) (x6 : Int32) (x90 : Int32) (w : z_M) (kb : (Int32 × Int32 × Int32 × z_M) → Option (Int32 × z_M)) (kx : (Int32 × z_M) → Option (Int32 × z_M)) (hkb : ∀ q, kb q = some res → z_V p l e R s m args below meth c 7 g z_shR (MQ below (z_Qc g z_shR (fun v u' => v = some (.int res.1) ∧ u' = res.2)) args s 0 0 (z_A g z_shR)) 36 [(0, .ref (z_ad g 0)), (1, .int x1), (2, .int x2), (3, .int q.1), (4, .int q.2.1), (5, .int q.2.2.1)] [] q.2.2.2) (hkx : ∀ t, kx t = some res → z_V p l e R s m args below meth c 7 g z_shR (MQ below (z_Qc g z_shR (fun v u' => v = some (.int res.1) ∧ u' = res.2)) args s 0 0 (z_A g z_shR)) 148 [(0, .ref (z_ad g 0)), (1, .int x1), (2, .int x2), (3, .int t.1)] [] t.2) (h : j_X10_core_j109 x1 x2 x3 x4 x6 x90 w kb kx = some res) : z_V p l e R s m args below meth c 7 g z_shR (MQ below (z_Qc g z_shR (fun v u' => v = some (.int res.1) ∧ u' = res.2)) args s 0 0 (z_A g z_shR)) 109 [(0, .ref (z_ad g 0)), (1, .int x1), (2, .int x2), (3, .int x3), (4, .int x4), (6, .int x6)] [.int x90] w := by
  unfold j_X10_core_j109 at h
  refine z_istore X [(5, .int x90), (0, .ref (z_ad g 0)), (1, .int x1), (2, .int x2), (3, .int x3), (4, .int x4), (6, .int x6)] dX10_core_109 (by decide) rfl (z_iload X 0 dX10_core_111 rfl (z_if_eq X 145 dX10_core_113 (by decide) (fun c20 => ?_) (fun c20 => ?_)))
  · replace h := z_ip c20 h
    refine z_goto X 36 dX10_core_145 (by decide) (z_sub [1, 2, 3, 4, 5, 0] [(0, .ref (z_ad g 0)), (1, .int x1), (2, .int x2), (3, .int x3), (4, .int x4), (5, .int x90)] rfl ?_)
    exact hkb (x3, x4, x90, w) h
  · replace h := z_in c20 h
    refine z_iload X 5 dX10_core_116 rfl (z_iload_n X 2 dX10_core_118 rfl rfl (z_icmp_ne X 127 dX10_core_119 (by decide) (fun c21 => ?_) (fun c21 => ?_)))
    · replace h := z_in c21 h
      refine z_iload_n X 4 dX10_core_127 rfl rfl (z_sub [1, 2, 3, 5, 0, 6] [(0, .ref (z_ad g 0)), (1, .int x1), (2, .int x2), (4, .int x4), (5, .int x90), (6, .int x6)] rfl ?_)
      exact wj_X10_core_j128 (u := w) hR X x1 x2 x4 x90 x6 x3 w kb kx hkb hkx h
    · replace h := z_ip c21 h
      refine z_iload X 6 dX10_core_122 rfl (z_goto X 128 dX10_core_124 (by decide) (z_sub [1, 2, 3, 5, 0, 6] [(0, .ref (z_ad g 0)), (1, .int x1), (2, .int x2), (4, .int x4), (5, .int x90), (6, .int x6)] rfl ?_))
      exact wj_X10_core_j128 (u := w) hR X x1 x2 x4 x90 x6 x6 w kb kx hkb hkx h
set_option maxRecDepth 20000 in
set_option maxHeartbeats 4000000 in
theorem wb_X10_core_36 {p : Program} {l : Launch} {e : Env} {R : Room} {s : State} {m : MethodId} {args : Array Value} {below : List Frame} {meth : Method} {c : Code} {g : z_G} {u : z_M} {res : Int32 × z_M} (hR : R = z_rm 6) (X : z_X p R s m args meth c cX10_core 7 RX10 wsX10_core (some .int) g z_shR) (x1 : Int32) (x2 : Int32) (q : Int32 × Int32 × Int32 × z_M) (kb : (Int32 × Int32 × Int32 × z_M) → Option (Int32 × z_M)) (kx : (Int32 × z_M) → Option (Int32 × z_M)) (hkb : ∀ q, kb q = some res → z_V p l e R s m args below meth c 7 g z_shR (MQ below (z_Qc g z_shR (fun v u' => v = some (.int res.1) ∧ u' = res.2)) args s 0 0 (z_A g z_shR)) 36 [(0, .ref (z_ad g 0)), (1, .int x1), (2, .int x2), (3, .int q.1), (4, .int q.2.1), (5, .int q.2.2.1)] [] q.2.2.2) (hkx : ∀ t, kx t = some res → z_V p l e R s m args below meth c 7 g z_shR (MQ below (z_Qc g z_shR (fun v u' => v = some (.int res.1) ∧ u' = res.2)) args s 0 0 (z_A g z_shR)) 148 [(0, .ref (z_ad g 0)), (1, .int x1), (2, .int x2), (3, .int t.1)] [] t.2) (h : b_X10_core_36 x1 x2 q kb kx = some res) : z_V p l e R s m args below meth c 7 g z_shR (MQ below (z_Qc g z_shR (fun v u' => v = some (.int res.1) ∧ u' = res.2)) args s 0 0 (z_A g z_shR)) 36 [(0, .ref (z_ad g 0)), (1, .int x1), (2, .int x2), (3, .int q.1), (4, .int q.2.1), (5, .int q.2.2.1)] [] q.2.2.2 := by
  unfold b_X10_core_36 at h
  refine z_iload X 5 dX10_core_36 rfl (z_if_eq X 148 dX10_core_38 (by decide) (fun c7 => ?_) (fun c7 => ?_))
  · replace h := z_ip c7 h
    refine z_sub [0, 1, 2, 3] [(0, .ref (z_ad g 0)), (1, .int x1), (2, .int x2), (3, .int q.1)] rfl ?_
    exact hkx (q.1, q.2.2.2) h
  · replace h := z_in c7 h
    refine z_iconst X (v := 0) dX10_core_41 (by decide) (z_istore X [(6, .int 0), (0, .ref (z_ad g 0)), (1, .int x1), (2, .int x2), (3, .int q.1), (4, .int q.2.1), (5, .int q.2.2.1)] dX10_core_42 (by decide) rfl (z_sub [1, 2, 3, 4, 5, 0] [(0, .ref (z_ad g 0)), (1, .int x1), (2, .int x2), (3, .int q.1), (4, .int q.2.1), (6, .int 0)] rfl ?_))
    have hw := z_lp_w (fun q9 kb9 kx9 h1 h2 h3 => wb_X10_core_44 (l := l) (e := e) (below := below) (u := q.2.2.2) hR X x1 x2 q.1 q.2.1 q9 kb9 kx9 h1 h2 h3) z_F _ _ h
    refine hw (fun t18 h => ?_)
    refine z_iload X 5 dX10_core_97 rfl (z_bipush X (v := 9) dX10_core_99 (by decide) (z_icmp_ge X 108 dX10_core_101 (by decide) (fun c19 => ?_) (fun c19 => ?_)))
    · replace h := z_ip c19 h
      refine z_iconst X (v := 0) dX10_core_108 (by decide) ?_
      exact wj_X10_core_j109 (u := q.2.2.2) hR X x1 x2 q.1 q.2.1 t18 0 q.2.2.2 kb kx hkb hkx h
    · replace h := z_in c19 h
      refine z_iconst X (v := 1) dX10_core_104 (by decide) (z_goto X 109 dX10_core_105 (by decide) ?_)
      exact wj_X10_core_j109 (u := q.2.2.2) hR X x1 x2 q.1 q.2.1 t18 1 q.2.2.2 kb kx hkb hkx h
set_option maxRecDepth 20000 in
set_option maxHeartbeats 4000000 in
theorem w_X10_core (l : Launch) (g : z_G) (a1 : Int32) (u : z_M) {res : Int32 × z_M} (h : f_X10_core a1 u = some res) : z_C l g z_shR yX10_core wsX10_core 6 [.ref (z_ad g 0), .int a1] u (fun v u' => v = some (.int res.1) ∧ u' = res.2) := by
  refine z_C.mk (lv := [(0, .ref (z_ad g 0)), (1, .int a1)]) (cc := cX10_core) (nL := 7) (rt := (some .int)) rfl (by decide) (Nat.le_of_ble_eq_true rfl) rfl (fun p e R s m args below meth c hR X => ?_)
  unfold f_X10_core at h
  obtain ⟨u1, eu1, h⟩ := z_ls h
  obtain ⟨r2, er2, h⟩ := z_bs h
  refine z_aload_n X 0 dX10_core_0 rfl rfl (z_iconst X (v := 0) dX10_core_1 (by decide) (z_putI X (k0 := 0) (ty0 := tyX10) z_r0 rfl in_X10_core_X10 tyX10_ok nmX10 (by decide) rfl rfl rfl rfl rfl lk_X10_core_82 dX10_core_2 (z_nm eu1 (z_aload_n X 0 dX10_core_5 rfl rfl (z_callVi X (r := r2) (u1 := u1) [] [] (w_X10_isTold l g u1 er2) z_r0 rfl gX10_core_X10_isTold hy_X10_isTold rfl (z_le1 hR (by decide)) (z_le2 hR (by decide) (by decide)) (Nat.le_of_ble_eq_true rfl) dX10_core_6 (z_if_eq X 17 dX10_core_9 (by decide) (fun c3 => ?_) (fun c3 => ?_)))))))
  · replace h := z_ip c3 h
    refine z_bipush X (v := (-3)) dX10_core_17 (by decide) ?_
    cases h; exact z_iret X rfl dX10_core_19 ⟨rfl, rfl⟩
  · replace h := z_in c3 h
    refine z_iload_n X 1 dX10_core_12 rfl rfl (z_iconst X (v := (-1)) dX10_core_13 (by decide) (z_icmp_ge X 20 dX10_core_14 (by decide) (fun c4 => ?_) (fun c4 => ?_)))
    · replace h := z_ip c4 h
      obtain ⟨b5, h⟩ := z_gs h
      obtain ⟨v6, ev6, h⟩ := z_ls h
      refine z_aload_n X 0 dX10_core_20 rfl rfl (z_getR X (k0 := 1) z_r0 rfl in_X10_core_X10 (by decide) rfl rfl lk_X10_core_9 dX10_core_21 (z_iconst X (v := 1) dX10_core_24 (by decide) (z_iald X z_r1 (z_inS b5) dX10_core_25 (z_ti ev6 (z_istore_n X [(2, .int v6), (0, .ref (z_ad g 0)), (1, .int a1)] dX10_core_26 rfl (by decide) rfl (z_bipush X (v := (-2)) dX10_core_27 (by decide) (z_istore_n X [(3, .int (-2)), (2, .int v6), (0, .ref (z_ad g 0)), (1, .int a1)] dX10_core_29 rfl (by decide) rfl (z_iconst X (v := 0) dX10_core_30 (by decide) (z_istore X [(4, .int 0), (3, .int (-2)), (2, .int v6), (0, .ref (z_ad g 0)), (1, .int a1)] dX10_core_31 (by decide) rfl (z_iconst X (v := 1) dX10_core_33 (by decide) (z_istore X [(5, .int 1), (4, .int 0), (3, .int (-2)), (2, .int v6), (0, .ref (z_ad g 0)), (1, .int a1)] dX10_core_34 (by decide) rfl (z_sub [4, 5, 3, 2, 1, 0] [(0, .ref (z_ad g 0)), (1, .int a1), (2, .int v6), (3, .int (-2)), (4, .int 0), (5, .int 1)] rfl ?_))))))))))))
      have hw := z_lp_w (fun q9 kb9 kx9 h1 h2 h3 => wb_X10_core_36 (l := l) (e := e) (below := below) (u := u1) hR X a1 v6 q9 kb9 kx9 h1 h2 h3) z_F _ _ h
      refine hw (fun t25 h => ?_)
      obtain ⟨b26, h⟩ := z_gs h
      obtain ⟨r27, er27, h⟩ := z_bs h
      obtain ⟨b28, h⟩ := z_gs h
      obtain ⟨u29, eu29, h⟩ := z_ls h
      refine z_aload_n X 0 dX10_core_148 rfl rfl (z_getR X (k0 := 1) z_r0 rfl in_X10_core_X10 (by decide) rfl rfl lk_X10_core_9 dX10_core_149 (z_iconst X (v := 1) dX10_core_152 (by decide) (z_iald X z_r1 (z_inS b26) dX10_core_153 (z_callSi X (r := r27) (u1 := t25.2) [.int (z_gI t25.2 1 (1 : Int32).toNatClampNeg)] [] (w_X10_bits l g (z_gI t25.2 1 (1 : Int32).toNatClampNeg) t25.2 er27) gX10_core_X10_bits hy_X10_bits.2 rfl (z_le1 hR (by decide)) (z_le2 hR (by decide) (by decide)) (Nat.le_of_ble_eq_true rfl) dX10_core_154 (z_istore X [(6, .int r27), (0, .ref (z_ad g 0)), (1, .int a1), (2, .int v6), (3, .int t25.1)] dX10_core_157 (by decide) rfl (z_aload_n X 1 dX10_core_159 rfl rfl (z_getR X (k0 := 1) z_r0 rfl in_X10_core_X10 (by decide) rfl rfl lk_X10_core_9 dX10_core_160 (z_iconst X (v := 1) dX10_core_163 (by decide) (z_iload_n X 3 dX10_core_164 rfl rfl (z_iast X z_r1 (z_inS b28) dX10_core_165 (z_nm eu29 (z_iload_n X 2 dX10_core_166 rfl rfl (z_iconst X (v := (-1)) dX10_core_167 (by decide) (z_icmp_ne X 176 dX10_core_168 (by decide) (fun c30 => ?_) (fun c30 => ?_)))))))))))))))
      · replace h := z_in c30 h
        refine z_iload_n X 4 dX10_core_176 rfl rfl ?_
        cases h; exact z_iret X rfl dX10_core_177 ⟨rfl, rfl⟩
      · replace h := z_ip c30 h
        refine z_iload X 0 dX10_core_171 rfl (z_goto X 177 dX10_core_173 (by decide) ?_)
        cases h; exact z_iret X rfl dX10_core_177 ⟨rfl, rfl⟩
    · replace h := z_in c4 h
      refine z_bipush X (v := (-3)) dX10_core_17 (by decide) ?_
      cases h; exact z_iret X rfl dX10_core_19 ⟨rfl, rfl⟩

theorem lk_X10_fits_76 : (Cond.fieldLink RX10 76 RX10 (TX10 28).2.1 (TX10 28).2.2.1) ∈ wsX10_fits := by decide +kernel
theorem in_X10_fits_X10 : ∀ w ∈ u_ws RX10 TX10 30, w ∈ wsX10_fits := by decide +kernel
theorem lk_X10_fits_9 : (Cond.fieldLink RX10 9 RX10 (TX10 1).2.1 (TX10 1).2.2.1) ∈ wsX10_fits := by decide +kernel
theorem lk_X10_fits_79 : (Cond.fieldLink RX10 79 RX10 (TX10 29).2.1 (TX10 29).2.2.1) ∈ wsX10_fits := by decide +kernel
def b_X10_fits_23 (x1 : Int32) (x2 : Int32) (u : z_M) : Int32 → (Int32 → Option (Int32)) → (Unit → Option (Int32)) → Option (Int32) := fun q kb kx =>
  if x1 ≤ q then (kx ()) else (z_gd (z_inb 1 93) (Option.bind (f_X10_has (z_gI u 1 (1 : Int32).toNatClampNeg) q) (fun r6 => if r6 = 0 then (kb (q + 1)) else (Option.bind (f_X10_isBelow q x1 u) (fun r8 => z_gd (z_inb q 9) (z_gd (z_inb (z_gI u 21 q.toNatClampNeg) 10) (Option.bind (f_X10_has (z_gI u 20 (z_gI u 21 q.toNatClampNeg).toNatClampNeg) x2) (fun r11 => if r8 = r11 then (Option.bind (f_X10_isBelow x1 q u) (fun r13 => z_gd (z_inb x2 10) (z_gd (z_inb q 9) (Option.bind (f_X10_has (z_gI u 20 x2.toNatClampNeg) (z_gI u 21 q.toNatClampNeg)) (fun r16 => if r13 = r16 then (kb (q + 1)) else (some 0)))))) else (some 0)))))))))
def f_X10_fits (a1 : Int32) (a2 : Int32) (a3 : Int32) (u : z_M) : Option (Int32) :=
  z_gd (z_inb 9 10) (Option.bind (f_X10_has ((z_gI u 20 (9 : Int32).toNatClampNeg) &&& (a3 ^^^ (-1))) a2) (fun r2 => if r2 = 0 then (some 0) else (z_lp (b_X10_fits_23 a1 a2 u) z_F 0 (fun t18 => some 1))))
set_option maxRecDepth 20000 in
set_option maxHeartbeats 4000000 in
theorem wb_X10_fits_23 {p : Program} {l : Launch} {e : Env} {R : Room} {s : State} {m : MethodId} {args : Array Value} {below : List Frame} {meth : Method} {c : Code} {g : z_G} {u : z_M} {res : Int32} (hR : R = z_rm 3) (X : z_X p R s m args meth c cX10_fits 5 RX10 wsX10_fits (some .boolean) g z_shR) (x1 : Int32) (x2 : Int32) (q : Int32) (kb : Int32 → Option (Int32)) (kx : Unit → Option (Int32)) (hkb : ∀ q, kb q = some res → z_V p l e R s m args below meth c 5 g z_shR (MQ below (z_Qc g z_shR (fun v u' => v = some (.int res) ∧ u' = u)) args s 0 0 (z_A g z_shR)) 23 [(0, .ref (z_ad g 0)), (1, .int x1), (2, .int x2), (4, .int q)] [] u) (hkx : ∀ t, kx t = some res → z_V p l e R s m args below meth c 5 g z_shR (MQ below (z_Qc g z_shR (fun v u' => v = some (.int res) ∧ u' = u)) args s 0 0 (z_A g z_shR)) 103 [] [] u) (h : b_X10_fits_23 x1 x2 u q kb kx = some res) : z_V p l e R s m args below meth c 5 g z_shR (MQ below (z_Qc g z_shR (fun v u' => v = some (.int res) ∧ u' = u)) args s 0 0 (z_A g z_shR)) 23 [(0, .ref (z_ad g 0)), (1, .int x1), (2, .int x2), (4, .int q)] [] u := by
  unfold b_X10_fits_23 at h
  refine z_iload X 3 dX10_fits_23 rfl (z_iload_n X 1 dX10_fits_25 rfl rfl (z_icmp_ge X 103 dX10_fits_26 (by decide) (fun c4 => ?_) (fun c4 => ?_)))
  · replace h := z_ip c4 h
    refine z_sub [] [] rfl ?_
    exact hkx () h
  · replace h := z_in c4 h
    obtain ⟨b5, h⟩ := z_gs h
    obtain ⟨r6, er6, h⟩ := z_bs h
    refine z_aload_n X 0 dX10_fits_29 rfl rfl (z_getR X (k0 := 1) z_r0 rfl in_X10_fits_X10 (by decide) rfl rfl lk_X10_fits_9 dX10_fits_30 (z_iconst X (v := 1) dX10_fits_33 (by decide) (z_iald X z_r1 (z_inS b5) dX10_fits_34 (z_iload X 3 dX10_fits_35 rfl (z_callSi X (r := r6) (u1 := u) [.int (z_gI u 1 (1 : Int32).toNatClampNeg), .int q] [] (w_X10_has l g (z_gI u 1 (1 : Int32).toNatClampNeg) q u er6) gX10_fits_X10_has hy_X10_has.2 rfl (z_le1 hR (by decide)) (z_le2 hR (by decide) (by decide)) (Nat.le_of_ble_eq_true rfl) dX10_fits_37 (z_if_eq X 97 dX10_fits_40 (by decide) (fun c7 => ?_) (fun c7 => ?_)))))))
    · replace h := z_ip c7 h
      refine z_iinc X (v := q + 1) 3 [(4, .int (q + 1)), (0, .ref (z_ad g 0)), (1, .int x1), (2, .int x2)] dX10_fits_97 rfl rfl (by decide) rfl (z_goto X 23 dX10_fits_100 (by decide) (z_sub [1, 2, 3, 0] [(0, .ref (z_ad g 0)), (1, .int x1), (2, .int x2), (4, .int (q + 1))] rfl ?_))
      exact hkb (q + 1) h
    · replace h := z_in c7 h
      obtain ⟨r8, er8, h⟩ := z_bs h
      obtain ⟨b9, h⟩ := z_gs h
      obtain ⟨b10, h⟩ := z_gs h
      obtain ⟨r11, er11, h⟩ := z_bs h
      refine z_aload_n X 0 dX10_fits_43 rfl rfl (z_iload X 3 dX10_fits_44 rfl (z_iload_n X 1 dX10_fits_46 rfl rfl (z_callVi X (r := r8) (u1 := u) [.int q, .int x1] [] (w_X10_isBelow l g q x1 u er8) z_r0 rfl gX10_fits_X10_isBelow hy_X10_isBelow rfl (z_le1 hR (by decide)) (z_le2 hR (by decide) (by decide)) (Nat.le_of_ble_eq_true rfl) dX10_fits_47 (z_aload_n X 0 dX10_fits_50 rfl rfl (z_getR X (k0 := 28) z_r0 rfl in_X10_fits_X10 (by decide) rfl rfl lk_X10_fits_76 dX10_fits_51 (z_aload_n X 0 dX10_fits_54 rfl rfl (z_getR X (k0 := 29) z_r0 rfl in_X10_fits_X10 (by decide) rfl rfl lk_X10_fits_79 dX10_fits_55 (z_iload X 3 dX10_fits_58 rfl (z_iald X z_r21 (z_inS b9) dX10_fits_60 (z_iald X z_r20 (z_inS b10) dX10_fits_61 (z_iload_n X 2 dX10_fits_62 rfl rfl (z_callSi X (r := r11) (u1 := u) [.int (z_gI u 20 (z_gI u 21 q.toNatClampNeg).toNatClampNeg), .int x2] [.int r8] (w_X10_has l g (z_gI u 20 (z_gI u 21 q.toNatClampNeg).toNatClampNeg) x2 u er11) gX10_fits_X10_has hy_X10_has.2 rfl (z_le1 hR (by decide)) (z_le2 hR (by decide) (by decide)) (Nat.le_of_ble_eq_true rfl) dX10_fits_63 (z_icmp_ne X 95 dX10_fits_66 (by decide) (fun c12 => ?_) (fun c12 => ?_))))))))))))))
      · replace h := z_in c12 h
        refine z_iconst X (v := 0) dX10_fits_95 (by decide) ?_
        cases h; exact z_zret X rfl rfl dX10_fits_96 ⟨rfl, rfl⟩
      · replace h := z_ip c12 h
        obtain ⟨r13, er13, h⟩ := z_bs h
        obtain ⟨b14, h⟩ := z_gs h
        obtain ⟨b15, h⟩ := z_gs h
        obtain ⟨r16, er16, h⟩ := z_bs h
        refine z_aload_n X 0 dX10_fits_69 rfl rfl (z_iload_n X 1 dX10_fits_70 rfl rfl (z_iload X 3 dX10_fits_71 rfl (z_callVi X (r := r13) (u1 := u) [.int x1, .int q] [] (w_X10_isBelow l g x1 q u er13) z_r0 rfl gX10_fits_X10_isBelow hy_X10_isBelow rfl (z_le1 hR (by decide)) (z_le2 hR (by decide) (by decide)) (Nat.le_of_ble_eq_true rfl) dX10_fits_73 (z_aload_n X 0 dX10_fits_76 rfl rfl (z_getR X (k0 := 28) z_r0 rfl in_X10_fits_X10 (by decide) rfl rfl lk_X10_fits_76 dX10_fits_77 (z_iload_n X 2 dX10_fits_80 rfl rfl (z_iald X z_r20 (z_inS b14) dX10_fits_81 (z_aload_n X 0 dX10_fits_82 rfl rfl (z_getR X (k0 := 29) z_r0 rfl in_X10_fits_X10 (by decide) rfl rfl lk_X10_fits_79 dX10_fits_83 (z_iload X 3 dX10_fits_86 rfl (z_iald X z_r21 (z_inS b15) dX10_fits_88 (z_callSi X (r := r16) (u1 := u) [.int (z_gI u 20 x2.toNatClampNeg), .int (z_gI u 21 q.toNatClampNeg)] [.int r13] (w_X10_has l g (z_gI u 20 x2.toNatClampNeg) (z_gI u 21 q.toNatClampNeg) u er16) gX10_fits_X10_has hy_X10_has.2 rfl (z_le1 hR (by decide)) (z_le2 hR (by decide) (by decide)) (Nat.le_of_ble_eq_true rfl) dX10_fits_89 (z_icmp_eq X 97 dX10_fits_92 (by decide) (fun c17 => ?_) (fun c17 => ?_))))))))))))))
        · replace h := z_ip c17 h
          refine z_iinc X (v := q + 1) 3 [(4, .int (q + 1)), (0, .ref (z_ad g 0)), (1, .int x1), (2, .int x2)] dX10_fits_97 rfl rfl (by decide) rfl (z_goto X 23 dX10_fits_100 (by decide) (z_sub [1, 2, 3, 0] [(0, .ref (z_ad g 0)), (1, .int x1), (2, .int x2), (4, .int (q + 1))] rfl ?_))
          exact hkb (q + 1) h
        · replace h := z_in c17 h
          refine z_iconst X (v := 0) dX10_fits_95 (by decide) ?_
          cases h; exact z_zret X rfl rfl dX10_fits_96 ⟨rfl, rfl⟩
set_option maxRecDepth 20000 in
set_option maxHeartbeats 4000000 in
theorem w_X10_fits (l : Launch) (g : z_G) (a1 : Int32) (a2 : Int32) (a3 : Int32) (u : z_M) {res : Int32} (h : f_X10_fits a1 a2 a3 u = some res) : z_C l g z_shR yX10_fits wsX10_fits 3 [.ref (z_ad g 0), .int a1, .int a2, .int a3] u (fun v u' => v = some (.int res) ∧ u' = u) := by
  refine z_C.mk (lv := [(0, .ref (z_ad g 0)), (1, .int a1), (2, .int a2), (3, .int a3)]) (cc := cX10_fits) (nL := 5) (rt := (some .boolean)) rfl (by decide) (Nat.le_of_ble_eq_true rfl) rfl (fun p e R s m args below meth c hR X => ?_)
  unfold f_X10_fits at h
  obtain ⟨b1, h⟩ := z_gs h
  obtain ⟨r2, er2, h⟩ := z_bs h
  refine z_aload_n X 0 dX10_fits_0 rfl rfl (z_getR X (k0 := 28) z_r0 rfl in_X10_fits_X10 (by decide) rfl rfl lk_X10_fits_76 dX10_fits_1 (z_bipush X (v := 9) dX10_fits_4 (by decide) (z_iald X z_r20 (z_inS b1) dX10_fits_6 (z_iload_n X 3 dX10_fits_7 rfl rfl (z_iconst X (v := (-1)) dX10_fits_8 (by decide) (z_ixor X dX10_fits_9 (z_iand X dX10_fits_10 (z_iload_n X 2 dX10_fits_11 rfl rfl (z_callSi X (r := r2) (u1 := u) [.int ((z_gI u 20 (9 : Int32).toNatClampNeg) &&& (a3 ^^^ (-1))), .int a2] [] (w_X10_has l g ((z_gI u 20 (9 : Int32).toNatClampNeg) &&& (a3 ^^^ (-1))) a2 u er2) gX10_fits_X10_has hy_X10_has.2 rfl (z_le1 hR (by decide)) (z_le2 hR (by decide) (by decide)) (Nat.le_of_ble_eq_true rfl) dX10_fits_12 (z_if_ne X 20 dX10_fits_15 (by decide) (fun c3 => ?_) (fun c3 => ?_)))))))))))
  · replace h := z_in c3 h
    refine z_iconst X (v := 0) dX10_fits_20 (by decide) (z_istore X [(4, .int 0), (0, .ref (z_ad g 0)), (1, .int a1), (2, .int a2), (3, .int a3)] dX10_fits_21 (by decide) rfl (z_sub [1, 2, 3, 0] [(0, .ref (z_ad g 0)), (1, .int a1), (2, .int a2), (4, .int 0)] rfl ?_))
    have hw := z_lp_w (fun q9 kb9 kx9 h1 h2 h3 => wb_X10_fits_23 (l := l) (e := e) (below := below) (u := u) hR X a1 a2 q9 kb9 kx9 h1 h2 h3) z_F _ _ h
    refine hw (fun t18 h => ?_)
    refine z_iconst X (v := 1) dX10_fits_103 (by decide) ?_
    cases h; exact z_zret X rfl rfl dX10_fits_104 ⟨rfl, rfl⟩
  · replace h := z_ip c3 h
    refine z_iconst X (v := 0) dX10_fits_18 (by decide) ?_
    cases h; exact z_zret X rfl rfl dX10_fits_19 ⟨rfl, rfl⟩

theorem lk_X10_laidOn_79 : (Cond.fieldLink RX10 79 RX10 (TX10 29).2.1 (TX10 29).2.2.1) ∈ wsX10_laidOn := by decide +kernel
theorem in_X10_laidOn_X10 : ∀ w ∈ u_ws RX10 TX10 30, w ∈ wsX10_laidOn := by decide +kernel
theorem lk_X10_laidOn_9 : (Cond.fieldLink RX10 9 RX10 (TX10 1).2.1 (TX10 1).2.2.1) ∈ wsX10_laidOn := by decide +kernel
theorem hy_X10_fits : yX10_fits.cls = RX10 ∧ yX10_fits.cls ≠ "java/lang/invoke/MethodHandle" ∧ yX10_fits.cls ≠ "java/lang/invoke/VarHandle" ∧ (parseMethodDescriptor yX10_fits.desc).map (fun d => d.parameters.length) = some 3 := by decide +kernel
def b_X10_laidOn_9 (x1 : Int32) (x2 : Int32) (x3 : Int32) : (Int32 × z_M) → ((Int32 × z_M) → Option (Int32 × z_M)) → (z_M → Option (Int32 × z_M)) → Option (Int32 × z_M) := fun q kb kx =>
  if 9 ≤ q.1 then (kx q.2) else (z_gd (z_inb q.1 9) (z_lt (z_sI q.2 21 q.1.toNatClampNeg (-1)) (fun u3 => kb (q.1 + 1, u3))))
def j_X10_laidOn_j197 (x1 : Int32) (x2 : Int32) (x3 : Int32) (x4 : Int32) (w : z_M) (kb : (Int32 × Int32 × Int32 × z_M) → Option (Int32 × z_M)) (kx : (Int32 × z_M) → Option (Int32 × z_M)) : Option (Int32 × z_M) :=
  if x4 = 0 then (kb (x1, x2 + (-1), x3, w)) else (z_gd (z_inb x2 9) (z_lt (z_sI w 21 x2.toNatClampNeg (-1)) (fun u10 => kb (x1, x2 + (-1), x3, u10))))
def b_X10_laidOn_145 (x1 : Int32) (x2 : Int32) (x3 : Int32) (x4 : Int32) (u : z_M) : Int32 → (Int32 → Option (Int32 × z_M)) → (Int32 → Option (Int32 × z_M)) → Option (Int32 × z_M) := fun q kb kx =>
  if 9 ≤ q then (kx q) else (Option.bind (f_X10_fits x2 q x3 u) (fun r27 => if r27 = 0 then (kb (q + 1)) else (kx q)))
def j_X10_laidOn_j95 (x1 : Int32) (x2 : Int32) (x3 : Int32) (x4 : Int32) (w : z_M) (kb : (Int32 × Int32 × Int32 × z_M) → Option (Int32 × z_M)) (kx : (Int32 × z_M) → Option (Int32 × z_M)) : Option (Int32 × z_M) :=
  z_gd (z_inb 1 93) (Option.bind (f_X10_has (z_gI w 1 (1 : Int32).toNatClampNeg) x2) (fun r19 => if r19 = 0 then (j_X10_laidOn_j197 x1 x2 x3 x4 w kb kx) else (z_gd (z_inb x2 9) (if (z_gI w 21 x2.toNatClampNeg) = (-1) then (z_lt (x3 &&& x3) (fun v23 => z_gd (z_inb x2 9) (z_lt ((z_gI w 21 x2.toNatClampNeg) + 1) (fun v25 => z_lp (b_X10_laidOn_145 x1 x2 v23 x4 w) z_F v25 (fun t29 => if 9 ≤ t29 then (j_X10_laidOn_j197 x1 x2 v23 x4 w kb kx) else (z_gd (z_inb x2 9) (z_lt (z_sI w 21 x2.toNatClampNeg t29) (fun u32 => z_lt (v23 ||| (1 <<< (t29 &&& 31))) (fun v33 => kb (x1, x2 + 1, v33, u32)))))))))) else (z_gd (z_inb x2 9) (z_lt (x3 &&& ((1 <<< ((z_gI w 21 x2.toNatClampNeg) &&& 31)) ^^^ (-1))) (fun v35 => z_gd (z_inb x2 9) (z_lt ((z_gI w 21 x2.toNatClampNeg) + 1) (fun v37 => z_lp (b_X10_laidOn_145 x1 x2 v35 x4 w) z_F v37 (fun t38 => if 9 ≤ t38 then (j_X10_laidOn_j197 x1 x2 v35 x4 w kb kx) else (z_gd (z_inb x2 9) (z_lt (z_sI w 21 x2.toNatClampNeg t38) (fun u41 => z_lt (v35 ||| (1 <<< (t38 &&& 31))) (fun v42 => kb (x1, x2 + 1, v42, u41)))))))))))))))
def j_X10_laidOn_j45 (x1 : Int32) (x2 : Int32) (x3 : Int32) (x90 : Int32) (w : z_M) (kb : (Int32 × Int32 × Int32 × z_M) → Option (Int32 × z_M)) (kx : (Int32 × z_M) → Option (Int32 × z_M)) : Option (Int32 × z_M) :=
  if x90 = 0 then (j_X10_laidOn_j197 (x1 + 1) x2 x3 x90 w kb kx) else (z_gd (z_inb 1 93) (Option.bind (f_X10_has (z_gI w 1 (1 : Int32).toNatClampNeg) x2) (fun r12 => if r12 = 0 then (z_gd (z_inb x2 9) (if (z_gI w 21 x2.toNatClampNeg) = (-1) then (z_gd (z_inb x2 9) (z_lt (z_sI w 21 x2.toNatClampNeg 9) (fun u17 => kb (x1, x2 + 1, x3, u17)))) else (j_X10_laidOn_j95 x1 x2 x3 x90 w kb kx))) else (j_X10_laidOn_j95 x1 x2 x3 x90 w kb kx))))
def b_X10_laidOn_30  : (Int32 × Int32 × Int32 × z_M) → ((Int32 × Int32 × Int32 × z_M) → Option (Int32 × z_M)) → ((Int32 × z_M) → Option (Int32 × z_M)) → Option (Int32 × z_M) := fun q kb kx =>
  if q.2.1 < 0 then (kx (q.1, q.2.2.2)) else (if 9 ≤ q.2.1 then (j_X10_laidOn_j45 q.1 q.2.1 q.2.2.1 0 q.2.2.2 kb kx) else (j_X10_laidOn_j45 q.1 q.2.1 q.2.2.1 1 q.2.2.2 kb kx))
def f_X10_laidOn (u : z_M) : Option (Int32 × z_M) :=
  z_lp (b_X10_laidOn_9 0 0 0) z_F (0, u) (fun t4 => z_lp b_X10_laidOn_30 z_F (0, 0, 0, t4) (fun t43 => some (t43.1, t43.2)))
set_option maxRecDepth 20000 in
set_option maxHeartbeats 4000000 in
theorem wb_X10_laidOn_9 {p : Program} {l : Launch} {e : Env} {R : Room} {s : State} {m : MethodId} {args : Array Value} {below : List Frame} {meth : Method} {c : Code} {g : z_G} {u : z_M} {res : Int32 × z_M} (hR : R = z_rm 4) (X : z_X p R s m args meth c cX10_laidOn 6 RX10 wsX10_laidOn (some .int) g z_shR) (x1 : Int32) (x2 : Int32) (x3 : Int32) (q : Int32 × z_M) (kb : (Int32 × z_M) → Option (Int32 × z_M)) (kx : z_M → Option (Int32 × z_M)) (hkb : ∀ q, kb q = some res → z_V p l e R s m args below meth c 6 g z_shR (MQ below (z_Qc g z_shR (fun v u' => v = some (.int res.1) ∧ u' = res.2)) args s 0 0 (z_A g z_shR)) 9 [(0, .ref (z_ad g 0)), (1, .int x1), (2, .int x2), (3, .int x3), (4, .int q.1)] [] q.2) (hkx : ∀ t, kx t = some res → z_V p l e R s m args below meth c 6 g z_shR (MQ below (z_Qc g z_shR (fun v u' => v = some (.int res.1) ∧ u' = res.2)) args s 0 0 (z_A g z_shR)) 30 [(0, .ref (z_ad g 0)), (1, .int x1), (2, .int x2), (3, .int x3)] [] t) (h : b_X10_laidOn_9 x1 x2 x3 q kb kx = some res) : z_V p l e R s m args below meth c 6 g z_shR (MQ below (z_Qc g z_shR (fun v u' => v = some (.int res.1) ∧ u' = res.2)) args s 0 0 (z_A g z_shR)) 9 [(0, .ref (z_ad g 0)), (1, .int x1), (2, .int x2), (3, .int x3), (4, .int q.1)] [] q.2 := by
  unfold b_X10_laidOn_9 at h
  refine z_iload X 4 dX10_laidOn_9 rfl (z_bipush X (v := 9) dX10_laidOn_11 (by decide) (z_icmp_ge X 30 dX10_laidOn_13 (by decide) (fun c1 => ?_) (fun c1 => ?_)))
  · replace h := z_ip c1 h
    refine z_sub [0, 1, 2, 3] [(0, .ref (z_ad g 0)), (1, .int x1), (2, .int x2), (3, .int x3)] rfl ?_
    exact hkx q.2 h
  · replace h := z_in c1 h
    obtain ⟨b2, h⟩ := z_gs h
    obtain ⟨u3, eu3, h⟩ := z_ls h
    refine z_aload_n X 0 dX10_laidOn_16 rfl rfl (z_getR X (k0 := 29) z_r0 rfl in_X10_laidOn_X10 (by decide) rfl rfl lk_X10_laidOn_79 dX10_laidOn_17 (z_iload X 4 dX10_laidOn_20 rfl (z_iconst X (v := (-1)) dX10_laidOn_22 (by decide) (z_iast X z_r21 (z_inS b2) dX10_laidOn_23 (z_nm eu3 (z_iinc X (v := q.1 + 1) 4 [(4, .int (q.1 + 1)), (0, .ref (z_ad g 0)), (1, .int x1), (2, .int x2), (3, .int x3)] dX10_laidOn_24 rfl rfl (by decide) rfl (z_goto X 9 dX10_laidOn_27 (by decide) (z_sub [1, 2, 3, 4, 0] [(0, .ref (z_ad g 0)), (1, .int x1), (2, .int x2), (3, .int x3), (4, .int (q.1 + 1))] rfl ?_))))))))
    exact hkb (q.1 + 1, u3) h
set_option maxRecDepth 20000 in
set_option maxHeartbeats 4000000 in
theorem wj_X10_laidOn_j197 {p : Program} {l : Launch} {e : Env} {R : Room} {s : State} {m : MethodId} {args : Array Value} {below : List Frame} {meth : Method} {c : Code} {g : z_G} {u : z_M} {res : Int32 × z_M} (hR : R = z_rm 4) (X : z_X p R s m args meth c cX10_laidOn 6 RX10 wsX10_laidOn (some .int) g z_shR) (x1 : Int32) (x2 : Int32) (x3 : Int32) (x4 : Int32) (w : z_M) (kb : (Int32 × Int32 × Int32 × z_M) → Option (Int32 × z_M)) (kx : (Int32 × z_M) → Option (Int32 × z_M)) (hkb : ∀ q, kb q = some res → z_V p l e R s m args below meth c 6 g z_shR (MQ below (z_Qc g z_shR (fun v u' => v = some (.int res.1) ∧ u' = res.2)) args s 0 0 (z_A g z_shR)) 30 [(0, .ref (z_ad g 0)), (1, .int q.1), (2, .int q.2.1), (3, .int q.2.2.1)] [] q.2.2.2) (hkx : ∀ t, kx t = some res → z_V p l e R s m args below meth c 6 g z_shR (MQ below (z_Qc g z_shR (fun v u' => v = some (.int res.1) ∧ u' = res.2)) args s 0 0 (z_A g z_shR)) 215 [(1, .int t.1)] [] t.2) (h : j_X10_laidOn_j197 x1 x2 x3 x4 w kb kx = some res) : z_V p l e R s m args below meth c 6 g z_shR (MQ below (z_Qc g z_shR (fun v u' => v = some (.int res.1) ∧ u' = res.2)) args s 0 0 (z_A g z_shR)) 197 [(0, .ref (z_ad g 0)), (1, .int x1), (2, .int x2), (3, .int x3), (4, .int x4)] [] w := by
  unfold j_X10_laidOn_j197 at h
  refine z_iload X 4 dX10_laidOn_197 rfl (z_if_eq X 209 dX10_laidOn_199 (by decide) (fun c8 => ?_) (fun c8 => ?_))
  · replace h := z_ip c8 h
    refine z_iinc X (v := x2 + (-1)) 2 [(2, .int (x2 + (-1))), (0, .ref (z_ad g 0)), (1, .int x1), (3, .int x3), (4, .int x4)] dX10_laidOn_209 rfl rfl (by decide) rfl (z_goto X 30 dX10_laidOn_212 (by decide) (z_sub [1, 2, 0, 3] [(0, .ref (z_ad g 0)), (1, .int x1), (2, .int (x2 + (-1))), (3, .int x3)] rfl ?_))
    exact hkb (x1, x2 + (-1), x3, w) h
  · replace h := z_in c8 h
    obtain ⟨b9, h⟩ := z_gs h
    obtain ⟨u10, eu10, h⟩ := z_ls h
    refine z_aload_n X 0 dX10_laidOn_202 rfl rfl (z_getR X (k0 := 29) z_r0 rfl in_X10_laidOn_X10 (by decide) rfl rfl lk_X10_laidOn_79 dX10_laidOn_203 (z_iload_n X 2 dX10_laidOn_206 rfl rfl (z_iconst X (v := (-1)) dX10_laidOn_207 (by decide) (z_iast X z_r21 (z_inS b9) dX10_laidOn_208 (z_nm eu10 (z_iinc X (v := x2 + (-1)) 2 [(2, .int (x2 + (-1))), (0, .ref (z_ad g 0)), (1, .int x1), (3, .int x3), (4, .int x4)] dX10_laidOn_209 rfl rfl (by decide) rfl (z_goto X 30 dX10_laidOn_212 (by decide) (z_sub [1, 2, 0, 3] [(0, .ref (z_ad g 0)), (1, .int x1), (2, .int (x2 + (-1))), (3, .int x3)] rfl ?_))))))))
    exact hkb (x1, x2 + (-1), x3, u10) h
set_option maxRecDepth 20000 in
set_option maxHeartbeats 4000000 in
theorem wb_X10_laidOn_145 {p : Program} {l : Launch} {e : Env} {R : Room} {s : State} {m : MethodId} {args : Array Value} {below : List Frame} {meth : Method} {c : Code} {g : z_G} {u : z_M} {res : Int32 × z_M} (hR : R = z_rm 4) (X : z_X p R s m args meth c cX10_laidOn 6 RX10 wsX10_laidOn (some .int) g z_shR) (x1 : Int32) (x2 : Int32) (x3 : Int32) (x4 : Int32) (q : Int32) (kb : Int32 → Option (Int32 × z_M)) (kx : Int32 → Option (Int32 × z_M)) (hkb : ∀ q, kb q = some res → z_V p l e R s m args below meth c 6 g z_shR (MQ below (z_Qc g z_shR (fun v u' => v = some (.int res.1) ∧ u' = res.2)) args s 0 0 (z_A g z_shR)) 145 [(0, .ref (z_ad g 0)), (1, .int x1), (2, .int x2), (3, .int x3), (4, .int x4), (5, .int q)] [] u) (hkx : ∀ t, kx t = some res → z_V p l e R s m args below meth c 6 g z_shR (MQ below (z_Qc g z_shR (fun v u' => v = some (.int res.1) ∧ u' = res.2)) args s 0 0 (z_A g z_shR)) 169 [(0, .ref (z_ad g 0)), (1, .int x1), (2, .int x2), (3, .int x3), (4, .int x4), (5, .int t)] [] u) (h : b_X10_laidOn_145 x1 x2 x3 x4 u q kb kx = some res) : z_V p l e R s m args below meth c 6 g z_shR (MQ below (z_Qc g z_shR (fun v u' => v = some (.int res.1) ∧ u' = res.2)) args s 0 0 (z_A g z_shR)) 145 [(0, .ref (z_ad g 0)), (1, .int x1), (2, .int x2), (3, .int x3), (4, .int x4), (5, .int q)] [] u := by
  unfold b_X10_laidOn_145 at h
  refine z_iload X 5 dX10_laidOn_145 rfl (z_bipush X (v := 9) dX10_laidOn_147 (by decide) (z_icmp_ge X 169 dX10_laidOn_149 (by decide) (fun c26 => ?_) (fun c26 => ?_)))
  · replace h := z_ip c26 h
    exact hkx q h
  · replace h := z_in c26 h
    obtain ⟨r27, er27, h⟩ := z_bs h
    refine z_aload_n X 0 dX10_laidOn_152 rfl rfl (z_iload_n X 2 dX10_laidOn_153 rfl rfl (z_iload X 5 dX10_laidOn_154 rfl (z_iload_n X 3 dX10_laidOn_156 rfl rfl (z_callVi X (r := r27) (u1 := u) [.int x2, .int q, .int x3] [] (w_X10_fits l g x2 q x3 u er27) z_r0 rfl gX10_laidOn_X10_fits hy_X10_fits rfl (z_le1 hR (by decide)) (z_le2 hR (by decide) (by decide)) (Nat.le_of_ble_eq_true rfl) dX10_laidOn_157 (z_if_ne X 169 dX10_laidOn_160 (by decide) (fun c28 => ?_) (fun c28 => ?_))))))
    · replace h := z_in c28 h
      exact hkx q h
    · replace h := z_ip c28 h
      refine z_iinc X (v := q + 1) 5 [(5, .int (q + 1)), (0, .ref (z_ad g 0)), (1, .int x1), (2, .int x2), (3, .int x3), (4, .int x4)] dX10_laidOn_163 rfl rfl (by decide) rfl (z_goto X 145 dX10_laidOn_166 (by decide) (z_sub [1, 2, 3, 4, 5, 0] [(0, .ref (z_ad g 0)), (1, .int x1), (2, .int x2), (3, .int x3), (4, .int x4), (5, .int (q + 1))] rfl ?_))
      exact hkb (q + 1) h
set_option maxRecDepth 20000 in
set_option maxHeartbeats 4000000 in
theorem wj_X10_laidOn_j95 {p : Program} {l : Launch} {e : Env} {R : Room} {s : State} {m : MethodId} {args : Array Value} {below : List Frame} {meth : Method} {c : Code} {g : z_G} {u : z_M} {res : Int32 × z_M} (hR : R = z_rm 4) (X : z_X p R s m args meth c cX10_laidOn 6 RX10 wsX10_laidOn (some .int) g z_shR) (x1 : Int32) (x2 : Int32) (x3 : Int32) (x4 : Int32) (w : z_M) (kb : (Int32 × Int32 × Int32 × z_M) → Option (Int32 × z_M)) (kx : (Int32 × z_M) → Option (Int32 × z_M)) (hkb : ∀ q, kb q = some res → z_V p l e R s m args below meth c 6 g z_shR (MQ below (z_Qc g z_shR (fun v u' => v = some (.int res.1) ∧ u' = res.2)) args s 0 0 (z_A g z_shR)) 30 [(0, .ref (z_ad g 0)), (1, .int q.1), (2, .int q.2.1), (3, .int q.2.2.1)] [] q.2.2.2) (hkx : ∀ t, kx t = some res → z_V p l e R s m args below meth c 6 g z_shR (MQ below (z_Qc g z_shR (fun v u' => v = some (.int res.1) ∧ u' = res.2)) args s 0 0 (z_A g z_shR)) 215 [(1, .int t.1)] [] t.2) (h : j_X10_laidOn_j95 x1 x2 x3 x4 w kb kx = some res) : z_V p l e R s m args below meth c 6 g z_shR (MQ below (z_Qc g z_shR (fun v u' => v = some (.int res.1) ∧ u' = res.2)) args s 0 0 (z_A g z_shR)) 95 [(0, .ref (z_ad g 0)), (1, .int x1), (2, .int x2), (3, .int x3), (4, .int x4)] [] w := by
  unfold j_X10_laidOn_j95 at h
  obtain ⟨b18, h⟩ := z_gs h
  obtain ⟨r19, er19, h⟩ := z_bs h
  refine z_aload_n X 0 dX10_laidOn_95 rfl rfl (z_getR X (k0 := 1) z_r0 rfl in_X10_laidOn_X10 (by decide) rfl rfl lk_X10_laidOn_9 dX10_laidOn_96 (z_iconst X (v := 1) dX10_laidOn_99 (by decide) (z_iald X z_r1 (z_inS b18) dX10_laidOn_100 (z_iload_n X 2 dX10_laidOn_101 rfl rfl (z_callSi X (r := r19) (u1 := w) [.int (z_gI w 1 (1 : Int32).toNatClampNeg), .int x2] [] (w_X10_has l g (z_gI w 1 (1 : Int32).toNatClampNeg) x2 w er19) gX10_laidOn_X10_has hy_X10_has.2 rfl (z_le1 hR (by decide)) (z_le2 hR (by decide) (by decide)) (Nat.le_of_ble_eq_true rfl) dX10_laidOn_102 (z_if_eq X 197 dX10_laidOn_105 (by decide) (fun c20 => ?_) (fun c20 => ?_)))))))
  · replace h := z_ip c20 h
    exact wj_X10_laidOn_j197 (u := w) hR X x1 x2 x3 x4 w kb kx hkb hkx h
  · replace h := z_in c20 h
    obtain ⟨b21, h⟩ := z_gs h
    refine z_iload_n X 3 dX10_laidOn_108 rfl rfl (z_aload_n X 0 dX10_laidOn_109 rfl rfl (z_getR X (k0 := 29) z_r0 rfl in_X10_laidOn_X10 (by decide) rfl rfl lk_X10_laidOn_79 dX10_laidOn_110 (z_iload_n X 2 dX10_laidOn_113 rfl rfl (z_iald X z_r21 (z_inS b21) dX10_laidOn_114 (z_iconst X (v := (-1)) dX10_laidOn_115 (by decide) (z_icmp_ne X 123 dX10_laidOn_116 (by decide) (fun c22 => ?_) (fun c22 => ?_)))))))
    · replace h := z_in c22 h
      obtain ⟨b34, h⟩ := z_gs h
      obtain ⟨v35, ev35, h⟩ := z_ls h
      obtain ⟨b36, h⟩ := z_gs h
      obtain ⟨v37, ev37, h⟩ := z_ls h
      refine z_iconst X (v := 1) dX10_laidOn_123 (by decide) (z_aload_n X 0 dX10_laidOn_124 rfl rfl (z_getR X (k0 := 29) z_r0 rfl in_X10_laidOn_X10 (by decide) rfl rfl lk_X10_laidOn_79 dX10_laidOn_125 (z_iload_n X 2 dX10_laidOn_128 rfl rfl (z_iald X z_r21 (z_inS b34) dX10_laidOn_129 (z_ishl X dX10_laidOn_130 (z_iconst X (v := (-1)) dX10_laidOn_131 (by decide) (z_ixor X dX10_laidOn_132 (z_iand X dX10_laidOn_133 (z_ti ev35 (z_istore_n X [(3, .int v35), (0, .ref (z_ad g 0)), (1, .int x1), (2, .int x2), (4, .int x4)] dX10_laidOn_134 rfl (by decide) rfl (z_aload_n X 1 dX10_laidOn_135 rfl rfl (z_getR X (k0 := 29) z_r0 rfl in_X10_laidOn_X10 (by decide) rfl rfl lk_X10_laidOn_79 dX10_laidOn_136 (z_iload_n X 3 dX10_laidOn_139 rfl rfl (z_iald X z_r21 (z_inS b36) dX10_laidOn_140 (z_iconst X (v := 1) dX10_laidOn_141 (by decide) (z_iadd X dX10_laidOn_142 (z_ti ev37 (z_istore X [(5, .int v37), (3, .int v35), (0, .ref (z_ad g 0)), (1, .int x1), (2, .int x2), (4, .int x4)] dX10_laidOn_143 (by decide) rfl (z_sub [2, 3, 4, 1, 5, 0] [(0, .ref (z_ad g 0)), (1, .int x1), (2, .int x2), (3, .int v35), (4, .int x4), (5, .int v37)] rfl ?_)))))))))))))))))))
      have hw := z_lp_w (fun q9 kb9 kx9 h1 h2 h3 => wb_X10_laidOn_145 (l := l) (e := e) (below := below) (u := w) hR X x1 x2 v35 x4 q9 kb9 kx9 h1 h2 h3) z_F _ _ h
      refine hw (fun t38 h => ?_)
      refine z_iload X 5 dX10_laidOn_169 rfl (z_bipush X (v := 9) dX10_laidOn_171 (by decide) (z_icmp_ge X 197 dX10_laidOn_173 (by decide) (fun c39 => ?_) (fun c39 => ?_)))
      · replace h := z_ip c39 h
        refine z_sub [0, 1, 2, 3, 4] [(0, .ref (z_ad g 0)), (1, .int x1), (2, .int x2), (3, .int v35), (4, .int x4)] rfl ?_
        exact wj_X10_laidOn_j197 (u := w) hR X x1 x2 v35 x4 w kb kx hkb hkx h
      · replace h := z_in c39 h
        obtain ⟨b40, h⟩ := z_gs h
        obtain ⟨u41, eu41, h⟩ := z_ls h
        obtain ⟨v42, ev42, h⟩ := z_ls h
        refine z_aload_n X 0 dX10_laidOn_176 rfl rfl (z_getR X (k0 := 29) z_r0 rfl in_X10_laidOn_X10 (by decide) rfl rfl lk_X10_laidOn_79 dX10_laidOn_177 (z_iload_n X 2 dX10_laidOn_180 rfl rfl (z_iload X 5 dX10_laidOn_181 rfl (z_iast X z_r21 (z_inS b40) dX10_laidOn_183 (z_nm eu41 (z_iload_n X 3 dX10_laidOn_184 rfl rfl (z_iconst X (v := 1) dX10_laidOn_185 (by decide) (z_iload X 5 dX10_laidOn_186 rfl (z_ishl X dX10_laidOn_188 (z_ior X dX10_laidOn_189 (z_ti ev42 (z_istore_n X [(3, .int v42), (0, .ref (z_ad g 0)), (1, .int x1), (2, .int x2), (4, .int x4), (5, .int t38)] dX10_laidOn_190 rfl (by decide) rfl (z_iinc X (v := x2 + 1) 3 [(2, .int (x2 + 1)), (3, .int v42), (0, .ref (z_ad g 0)), (1, .int x1), (4, .int x4), (5, .int t38)] dX10_laidOn_191 rfl rfl (by decide) rfl (z_goto X 30 dX10_laidOn_194 (by decide) (z_sub [2, 3, 0, 1] [(0, .ref (z_ad g 0)), (1, .int x1), (2, .int (x2 + 1)), (3, .int v42)] rfl ?_)))))))))))))))
        exact hkb (x1, x2 + 1, v42, u41) h
    · replace h := z_ip c22 h
      obtain ⟨v23, ev23, h⟩ := z_ls h
      obtain ⟨b24, h⟩ := z_gs h
      obtain ⟨v25, ev25, h⟩ := z_ls h
      refine z_iload_n X 3 dX10_laidOn_119 rfl rfl (z_goto X 133 dX10_laidOn_120 (by decide) (z_iand X dX10_laidOn_133 (z_ti ev23 (z_istore_n X [(3, .int v23), (0, .ref (z_ad g 0)), (1, .int x1), (2, .int x2), (4, .int x4)] dX10_laidOn_134 rfl (by decide) rfl (z_aload_n X 1 dX10_laidOn_135 rfl rfl (z_getR X (k0 := 29) z_r0 rfl in_X10_laidOn_X10 (by decide) rfl rfl lk_X10_laidOn_79 dX10_laidOn_136 (z_iload_n X 3 dX10_laidOn_139 rfl rfl (z_iald X z_r21 (z_inS b24) dX10_laidOn_140 (z_iconst X (v := 1) dX10_laidOn_141 (by decide) (z_iadd X dX10_laidOn_142 (z_ti ev25 (z_istore X [(5, .int v25), (3, .int v23), (0, .ref (z_ad g 0)), (1, .int x1), (2, .int x2), (4, .int x4)] dX10_laidOn_143 (by decide) rfl (z_sub [2, 3, 4, 1, 5, 0] [(0, .ref (z_ad g 0)), (1, .int x1), (2, .int x2), (3, .int v23), (4, .int x4), (5, .int v25)] rfl ?_)))))))))))))
      have hw := z_lp_w (fun q9 kb9 kx9 h1 h2 h3 => wb_X10_laidOn_145 (l := l) (e := e) (below := below) (u := w) hR X x1 x2 v23 x4 q9 kb9 kx9 h1 h2 h3) z_F _ _ h
      refine hw (fun t29 h => ?_)
      refine z_iload X 5 dX10_laidOn_169 rfl (z_bipush X (v := 9) dX10_laidOn_171 (by decide) (z_icmp_ge X 197 dX10_laidOn_173 (by decide) (fun c30 => ?_) (fun c30 => ?_)))
      · replace h := z_ip c30 h
        refine z_sub [0, 1, 2, 3, 4] [(0, .ref (z_ad g 0)), (1, .int x1), (2, .int x2), (3, .int v23), (4, .int x4)] rfl ?_
        exact wj_X10_laidOn_j197 (u := w) hR X x1 x2 v23 x4 w kb kx hkb hkx h
      · replace h := z_in c30 h
        obtain ⟨b31, h⟩ := z_gs h
        obtain ⟨u32, eu32, h⟩ := z_ls h
        obtain ⟨v33, ev33, h⟩ := z_ls h
        refine z_aload_n X 0 dX10_laidOn_176 rfl rfl (z_getR X (k0 := 29) z_r0 rfl in_X10_laidOn_X10 (by decide) rfl rfl lk_X10_laidOn_79 dX10_laidOn_177 (z_iload_n X 2 dX10_laidOn_180 rfl rfl (z_iload X 5 dX10_laidOn_181 rfl (z_iast X z_r21 (z_inS b31) dX10_laidOn_183 (z_nm eu32 (z_iload_n X 3 dX10_laidOn_184 rfl rfl (z_iconst X (v := 1) dX10_laidOn_185 (by decide) (z_iload X 5 dX10_laidOn_186 rfl (z_ishl X dX10_laidOn_188 (z_ior X dX10_laidOn_189 (z_ti ev33 (z_istore_n X [(3, .int v33), (0, .ref (z_ad g 0)), (1, .int x1), (2, .int x2), (4, .int x4), (5, .int t29)] dX10_laidOn_190 rfl (by decide) rfl (z_iinc X (v := x2 + 1) 3 [(2, .int (x2 + 1)), (3, .int v33), (0, .ref (z_ad g 0)), (1, .int x1), (4, .int x4), (5, .int t29)] dX10_laidOn_191 rfl rfl (by decide) rfl (z_goto X 30 dX10_laidOn_194 (by decide) (z_sub [2, 3, 0, 1] [(0, .ref (z_ad g 0)), (1, .int x1), (2, .int (x2 + 1)), (3, .int v33)] rfl ?_)))))))))))))))
        exact hkb (x1, x2 + 1, v33, u32) h
set_option maxRecDepth 20000 in
set_option maxHeartbeats 4000000 in
theorem wj_X10_laidOn_j45 {p : Program} {l : Launch} {e : Env} {R : Room} {s : State} {m : MethodId} {args : Array Value} {below : List Frame} {meth : Method} {c : Code} {g : z_G} {u : z_M} {res : Int32 × z_M} (hR : R = z_rm 4) (X : z_X p R s m args meth c cX10_laidOn 6 RX10 wsX10_laidOn (some .int) g z_shR) (x1 : Int32) (x2 : Int32) (x3 : Int32) (x90 : Int32) (w : z_M) (kb : (Int32 × Int32 × Int32 × z_M) → Option (Int32 × z_M)) (kx : (Int32 × z_M) → Option (Int32 × z_M)) (hkb : ∀ q, kb q = some res → z_V p l e R s m args below meth c 6 g z_shR (MQ below (z_Qc g z_shR (fun v u' => v = some (.int res.1) ∧ u' = res.2)) args s 0 0 (z_A g z_shR)) 30 [(0, .ref (z_ad g 0)), (1, .int q.1), (2, .int q.2.1), (3, .int q.2.2.1)] [] q.2.2.2) (hkx : ∀ t, kx t = some res → z_V p l e R s m args below meth c 6 g z_shR (MQ below (z_Qc g z_shR (fun v u' => v = some (.int res.1) ∧ u' = res.2)) args s 0 0 (z_A g z_shR)) 215 [(1, .int t.1)] [] t.2) (h : j_X10_laidOn_j45 x1 x2 x3 x90 w kb kx = some res) : z_V p l e R s m args below meth c 6 g z_shR (MQ below (z_Qc g z_shR (fun v u' => v = some (.int res.1) ∧ u' = res.2)) args s 0 0 (z_A g z_shR)) 45 [(0, .ref (z_ad g 0)), (1, .int x1), (2, .int x2), (3, .int x3)] [.int x90] w := by
  unfold j_X10_laidOn_j45 at h
  refine z_istore X [(4, .int x90), (0, .ref (z_ad g 0)), (1, .int x1), (2, .int x2), (3, .int x3)] dX10_laidOn_45 (by decide) rfl (z_iload X 0 dX10_laidOn_47 rfl (z_if_ne X 58 dX10_laidOn_49 (by decide) (fun c7 => ?_) (fun c7 => ?_)))
  · replace h := z_in c7 h
    obtain ⟨b11, h⟩ := z_gs h
    obtain ⟨r12, er12, h⟩ := z_bs h
    refine z_aload_n X 1 dX10_laidOn_58 rfl rfl (z_getR X (k0 := 1) z_r0 rfl in_X10_laidOn_X10 (by decide) rfl rfl lk_X10_laidOn_9 dX10_laidOn_59 (z_iconst X (v := 1) dX10_laidOn_62 (by decide) (z_iald X z_r1 (z_inS b11) dX10_laidOn_63 (z_iload_n X 3 dX10_laidOn_64 rfl rfl (z_callSi X (r := r12) (u1 := w) [.int (z_gI w 1 (1 : Int32).toNatClampNeg), .int x2] [] (w_X10_has l g (z_gI w 1 (1 : Int32).toNatClampNeg) x2 w er12) gX10_laidOn_X10_has hy_X10_has.2 rfl (z_le1 hR (by decide)) (z_le2 hR (by decide) (by decide)) (Nat.le_of_ble_eq_true rfl) dX10_laidOn_65 (z_if_ne X 95 dX10_laidOn_68 (by decide) (fun c13 => ?_) (fun c13 => ?_)))))))
    · replace h := z_in c13 h
      refine z_sub [1, 2, 3, 4, 0] [(0, .ref (z_ad g 0)), (1, .int x1), (2, .int x2), (3, .int x3), (4, .int x90)] rfl ?_
      exact wj_X10_laidOn_j95 (u := w) hR X x1 x2 x3 x90 w kb kx hkb hkx h
    · replace h := z_ip c13 h
      obtain ⟨b14, h⟩ := z_gs h
      refine z_aload_n X 1 dX10_laidOn_71 rfl rfl (z_getR X (k0 := 29) z_r0 rfl in_X10_laidOn_X10 (by decide) rfl rfl lk_X10_laidOn_79 dX10_laidOn_72 (z_iload_n X 3 dX10_laidOn_75 rfl rfl (z_iald X z_r21 (z_inS b14) dX10_laidOn_76 (z_iconst X (v := (-1)) dX10_laidOn_77 (by decide) (z_icmp_ne X 95 dX10_laidOn_78 (by decide) (fun c15 => ?_) (fun c15 => ?_))))))
      · replace h := z_in c15 h
        refine z_sub [1, 2, 3, 4, 0] [(0, .ref (z_ad g 0)), (1, .int x1), (2, .int x2), (3, .int x3), (4, .int x90)] rfl ?_
        exact wj_X10_laidOn_j95 (u := w) hR X x1 x2 x3 x90 w kb kx hkb hkx h
      · replace h := z_ip c15 h
        obtain ⟨b16, h⟩ := z_gs h
        obtain ⟨u17, eu17, h⟩ := z_ls h
        refine z_aload_n X 1 dX10_laidOn_81 rfl rfl (z_getR X (k0 := 29) z_r0 rfl in_X10_laidOn_X10 (by decide) rfl rfl lk_X10_laidOn_79 dX10_laidOn_82 (z_iload_n X 3 dX10_laidOn_85 rfl rfl (z_bipush X (v := 9) dX10_laidOn_86 (by decide) (z_iast X z_r21 (z_inS b16) dX10_laidOn_88 (z_nm eu17 (z_iinc X (v := x2 + 1) 3 [(2, .int (x2 + 1)), (4, .int x90), (0, .ref (z_ad g 0)), (1, .int x1), (3, .int x3)] dX10_laidOn_89 rfl rfl (by decide) rfl (z_goto X 30 dX10_laidOn_92 (by decide) (z_sub [2, 3, 0, 4] [(0, .ref (z_ad g 0)), (1, .int x1), (2, .int (x2 + 1)), (3, .int x3)] rfl ?_))))))))
        exact hkb (x1, x2 + 1, x3, u17) h
  · replace h := z_ip c7 h
    refine z_iinc X (v := x1 + 1) 2 [(1, .int (x1 + 1)), (4, .int x90), (0, .ref (z_ad g 0)), (2, .int x2), (3, .int x3)] dX10_laidOn_52 rfl rfl (by decide) rfl (z_goto X 197 dX10_laidOn_55 (by decide) (z_sub [2, 0, 3, 4, 1] [(0, .ref (z_ad g 0)), (1, .int (x1 + 1)), (2, .int x2), (3, .int x3), (4, .int x90)] rfl ?_))
    exact wj_X10_laidOn_j197 (u := w) hR X (x1 + 1) x2 x3 x90 w kb kx hkb hkx h
set_option maxRecDepth 20000 in
set_option maxHeartbeats 4000000 in
theorem wb_X10_laidOn_30 {p : Program} {l : Launch} {e : Env} {R : Room} {s : State} {m : MethodId} {args : Array Value} {below : List Frame} {meth : Method} {c : Code} {g : z_G} {u : z_M} {res : Int32 × z_M} (hR : R = z_rm 4) (X : z_X p R s m args meth c cX10_laidOn 6 RX10 wsX10_laidOn (some .int) g z_shR)  (q : Int32 × Int32 × Int32 × z_M) (kb : (Int32 × Int32 × Int32 × z_M) → Option (Int32 × z_M)) (kx : (Int32 × z_M) → Option (Int32 × z_M)) (hkb : ∀ q, kb q = some res → z_V p l e R s m args below meth c 6 g z_shR (MQ below (z_Qc g z_shR (fun v u' => v = some (.int res.1) ∧ u' = res.2)) args s 0 0 (z_A g z_shR)) 30 [(0, .ref (z_ad g 0)), (1, .int q.1), (2, .int q.2.1), (3, .int q.2.2.1)] [] q.2.2.2) (hkx : ∀ t, kx t = some res → z_V p l e R s m args below meth c 6 g z_shR (MQ below (z_Qc g z_shR (fun v u' => v = some (.int res.1) ∧ u' = res.2)) args s 0 0 (z_A g z_shR)) 215 [(1, .int t.1)] [] t.2) (h : b_X10_laidOn_30 q kb kx = some res) : z_V p l e R s m args below meth c 6 g z_shR (MQ below (z_Qc g z_shR (fun v u' => v = some (.int res.1) ∧ u' = res.2)) args s 0 0 (z_A g z_shR)) 30 [(0, .ref (z_ad g 0)), (1, .int q.1), (2, .int q.2.1), (3, .int q.2.2.1)] [] q.2.2.2 := by
  unfold b_X10_laidOn_30 at h
  refine z_iload_n X 2 dX10_laidOn_30 rfl rfl (z_if_lt X 215 dX10_laidOn_31 (by decide) (fun c5 => ?_) (fun c5 => ?_))
  · replace h := z_ip c5 h
    refine z_sub [1] [(1, .int q.1)] rfl ?_
    exact hkx (q.1, q.2.2.2) h
  · replace h := z_in c5 h
    refine z_iload_n X 2 dX10_laidOn_34 rfl rfl (z_bipush X (v := 9) dX10_laidOn_35 (by decide) (z_icmp_ge X 44 dX10_laidOn_37 (by decide) (fun c6 => ?_) (fun c6 => ?_)))
    · replace h := z_ip c6 h
      refine z_iconst X (v := 0) dX10_laidOn_44 (by decide) ?_
      exact wj_X10_laidOn_j45 (u := q.2.2.2) hR X q.1 q.2.1 q.2.2.1 0 q.2.2.2 kb kx hkb hkx h
    · replace h := z_in c6 h
      refine z_iconst X (v := 1) dX10_laidOn_40 (by decide) (z_goto X 45 dX10_laidOn_41 (by decide) ?_)
      exact wj_X10_laidOn_j45 (u := q.2.2.2) hR X q.1 q.2.1 q.2.2.1 1 q.2.2.2 kb kx hkb hkx h
set_option maxRecDepth 20000 in
set_option maxHeartbeats 4000000 in
theorem w_X10_laidOn (l : Launch) (g : z_G)  (u : z_M) {res : Int32 × z_M} (h : f_X10_laidOn u = some res) : z_C l g z_shR yX10_laidOn wsX10_laidOn 4 [.ref (z_ad g 0)] u (fun v u' => v = some (.int res.1) ∧ u' = res.2) := by
  refine z_C.mk (lv := [(0, .ref (z_ad g 0))]) (cc := cX10_laidOn) (nL := 6) (rt := (some .int)) rfl (by decide) (Nat.le_of_ble_eq_true rfl) rfl (fun p e R s m args below meth c hR X => ?_)
  unfold f_X10_laidOn at h
  refine z_iconst X (v := 0) dX10_laidOn_0 (by decide) (z_istore_n X [(1, .int 0), (0, .ref (z_ad g 0))] dX10_laidOn_1 rfl (by decide) rfl (z_iconst X (v := 0) dX10_laidOn_2 (by decide) (z_istore_n X [(2, .int 0), (1, .int 0), (0, .ref (z_ad g 0))] dX10_laidOn_3 rfl (by decide) rfl (z_iconst X (v := 0) dX10_laidOn_4 (by decide) (z_istore_n X [(3, .int 0), (2, .int 0), (1, .int 0), (0, .ref (z_ad g 0))] dX10_laidOn_5 rfl (by decide) rfl (z_iconst X (v := 0) dX10_laidOn_6 (by decide) (z_istore X [(4, .int 0), (3, .int 0), (2, .int 0), (1, .int 0), (0, .ref (z_ad g 0))] dX10_laidOn_7 (by decide) rfl (z_sub [4, 3, 2, 1, 0] [(0, .ref (z_ad g 0)), (1, .int 0), (2, .int 0), (3, .int 0), (4, .int 0)] rfl ?_))))))))
  have hw := z_lp_w (fun q9 kb9 kx9 h1 h2 h3 => wb_X10_laidOn_9 (l := l) (e := e) (below := below) (u := u) hR X 0 0 0 q9 kb9 kx9 h1 h2 h3) z_F _ _ h
  refine hw (fun t4 h => ?_)
  have hw := z_lp_w (fun q9 kb9 kx9 h1 h2 h3 => wb_X10_laidOn_30 (l := l) (e := e) (below := below) (u := t4) hR X q9 kb9 kx9 h1 h2 h3) z_F _ _ h
  refine hw (fun t43 h => ?_)
  refine z_iload_n X 0 dX10_laidOn_215 rfl rfl ?_
  cases h; exact z_iret X rfl dX10_laidOn_216 ⟨rfl, rfl⟩
