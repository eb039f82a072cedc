theorem lk_X2_insert_22 : (Cond.fieldLink RX2 22 RX2 (TX2 0).2.1 (TX2 0).2.2.1) ∈ wsX2_insert := by decide +kernel
theorem in_X2_insert_X2 : ∀ w ∈ u_ws RX2 TX2 3, w ∈ wsX2_insert := fun _ h => List.mem_cons_of_mem _ (List.mem_append_left _ (List.mem_append_left _ (List.mem_append_right _ h)))
theorem lk_X2_insert_11 : (Cond.fieldLink RX2 11 RX2 (TX2 1).2.1 (TX2 1).2.2.1) ∈ wsX2_insert := by decide +kernel
theorem lk_X2_insert_17 : (Cond.fieldLink RX2 17 RX2 (TX2 2).2.1 (TX2 2).2.2.1) ∈ wsX2_insert := by decide +kernel
theorem hy_X1_isAheadOf : yX1_isAheadOf.cls = RX1 ∧ yX1_isAheadOf.cls ≠ "java/lang/invoke/MethodHandle" ∧ yX1_isAheadOf.cls ≠ "java/lang/invoke/VarHandle" ∧ (parseMethodDescriptor yX1_isAheadOf.desc).map (fun d => d.parameters.length) = some 1 := by decide +kernel
theorem hy_X1_take : yX1_take.cls = RX1 ∧ yX1_take.cls ≠ "java/lang/invoke/MethodHandle" ∧ yX1_take.cls ≠ "java/lang/invoke/VarHandle" ∧ (parseMethodDescriptor yX1_take.desc).map (fun d => d.parameters.length) = some 3 := by decide +kernel
def b_X2_insert_36 (x3 : Nat) : (Int32 × z_M) → ((Int32 × z_M) → Option (z_M)) → ((Int32 × z_M) → Option (z_M)) → Option (z_M) := fun q kb kx =>
  if q.1 ≤ 0 then (kx (q.1, q.2)) else (z_gd (z_inb (q.1 - 1) 12) (z_gd (z_isCh (z_gI q.2 87 (q.1 - 1).toNatClampNeg).toNatClampNeg) (Option.bind (f_X1_isAheadOf x3 ((z_gI q.2 87 (q.1 - 1).toNatClampNeg).toNatClampNeg) q.2) (fun r9 => if r9 = 0 then (kx (q.1, q.2)) else (z_gd (z_inb (q.1 - 1) 12) (z_gd (z_isCh (z_gI q.2 87 (q.1 - 1).toNatClampNeg).toNatClampNeg) (z_gd (z_inb q.1 12) (z_lt (z_sI q.2 87 q.1.toNatClampNeg (nI ((z_gI q.2 87 (q.1 - 1).toNatClampNeg).toNatClampNeg))) (fun u14 => kb (q.1 + (-1), u14))))))))))
def f_X2_insert (a1 : Nat) (a2 : Int32) (u : z_M) : Option (z_M) :=
  if (z_gI u 86 0) < 12 then (z_gd (z_inb (z_gI u 86 0) 12) (z_gd (z_isCh (z_gI u 87 (z_gI u 86 0).toNatClampNeg).toNatClampNeg) (Option.bind (f_X1_take ((z_gI u 87 (z_gI u 86 0).toNatClampNeg).toNatClampNeg) a1 88 9 a2 u) (fun r4 => z_lt (z_gI r4 86 0) (fun v5 => z_lp (b_X2_insert_36 ((z_gI u 87 (z_gI u 86 0).toNatClampNeg).toNatClampNeg)) z_F (v5, r4) (fun t15 => z_gd (z_inb t15.1 12) (z_lt (z_sI t15.2 87 t15.1.toNatClampNeg (nI ((z_gI u 87 (z_gI u 86 0).toNatClampNeg).toNatClampNeg))) (fun u17 => z_lt (z_sI u17 86 0 ((z_gI u17 86 0) + 1)) (fun u18 => some u18))))))))) else (some u)
set_option maxRecDepth 20000 in
set_option maxHeartbeats 4000000 in
theorem wb_X2_insert_36 {p : Program} {l : Launch} {e : Env} {R : Room} {s : State} {m : MethodId} {args : Array Value} {below : List Frame} {meth : Method} {c : Code} {g : z_G} {u : z_M} {res : z_M} (hR : R = z_rm 4) (X : z_X p R s m args meth c cX2_insert 5 RX2 wsX2_insert none g z_shC) (x3 : Nat) (ex3 : z_CH x3) (q : Int32 × z_M) (kb : (Int32 × z_M) → Option (z_M)) (kx : (Int32 × z_M) → Option (z_M)) (hkb : ∀ q, kb q = some res → z_V p l e R s m args below meth c 5 g z_shC (MQ below (z_Qc g z_shC (fun v u' => v = none ∧ u' = res)) args s 0 0 (z_A g z_shC)) 36 [(0, .ref (z_ad g 86)), (3, .ref (z_ad g x3)), (4, .int q.1)] [] q.2) (hkx : ∀ t, kx t = some res → z_V p l e R s m args below meth c 5 g z_shC (MQ below (z_Qc g z_shC (fun v u' => v = none ∧ u' = res)) args s 0 0 (z_A g z_shC)) 79 [(0, .ref (z_ad g 86)), (3, .ref (z_ad g x3)), (4, .int t.1)] [] t.2) (h : b_X2_insert_36 x3 q kb kx = some res) : z_V p l e R s m args below meth c 5 g z_shC (MQ below (z_Qc g z_shC (fun v u' => v = none ∧ u' = res)) args s 0 0 (z_A g z_shC)) 36 [(0, .ref (z_ad g 86)), (3, .ref (z_ad g x3)), (4, .int q.1)] [] q.2 := by
  unfold b_X2_insert_36 at h
  refine z_iload X 2 dX2_insert_36 rfl (z_if_le X 79 dX2_insert_38 (by decide) (fun c6 => ?_) (fun c6 => ?_))
  · replace h := z_ip c6 h
    exact hkx (q.1, q.2) h
  · replace h := z_in c6 h
    obtain ⟨b7, h⟩ := z_gs h
    obtain ⟨b8, h⟩ := z_gs h
    obtain ⟨r9, er9, h⟩ := z_bs h
    refine z_aload_n X 1 dX2_insert_41 rfl rfl (z_aload_n X 0 dX2_insert_42 rfl rfl (z_getR X (k0 := 1) z_c86 rfl in_X2_insert_X2 (by decide) rfl rfl lk_X2_insert_11 dX2_insert_43 (z_iload X 2 dX2_insert_46 rfl (z_iconst X (v := 1) dX2_insert_48 (by decide) (z_isub X dX2_insert_49 (z_aalC X z_c87 (z_inS b7) dX2_insert_50 (z_callVi X (r := r9) (u1 := q.2) [.ref (z_ad g ((z_gI q.2 87 (q.1 - 1).toNatClampNeg).toNatClampNeg))] [] (w_X1_isAheadOf l g x3 ((z_gI q.2 87 (q.1 - 1).toNatClampNeg).toNatClampNeg) ex3 (z_ch_of b8) q.2 er9) (z_ch ex3) rfl gX2_insert_X1_isAheadOf hy_X1_isAheadOf rfl (z_le1 hR (by decide)) (z_le2 hR (by decide) (by decide)) (Nat.le_of_ble_eq_true rfl) dX2_insert_51 (z_if_eq X 79 dX2_insert_54 (by decide) (fun c10 => ?_) (fun c10 => ?_)))))))))
    · replace h := z_ip c10 h
      exact hkx (q.1, q.2) h
    · replace h := z_in c10 h
      obtain ⟨b11, h⟩ := z_gs h
      obtain ⟨b12, h⟩ := z_gs h
      obtain ⟨b13, h⟩ := z_gs h
      obtain ⟨u14, eu14, h⟩ := z_ls h
      refine z_aload_n X 0 dX2_insert_57 rfl rfl (z_getR X (k0 := 1) z_c86 rfl in_X2_insert_X2 (by decide) rfl rfl lk_X2_insert_11 dX2_insert_58 (z_iload X 2 dX2_insert_61 rfl (z_aload_n X 0 dX2_insert_63 rfl rfl (z_getR X (k0 := 1) z_c86 rfl in_X2_insert_X2 (by decide) rfl rfl lk_X2_insert_11 dX2_insert_64 (z_iload X 2 dX2_insert_67 rfl (z_iconst X (v := 1) dX2_insert_69 (by decide) (z_isub X dX2_insert_70 (z_aalC X z_c87 (z_inS b11) dX2_insert_71 (z_aasC X z_c87 (z_ch (z_ch_of b12)) (z_chLt (z_ch_of b12)) (z_inS b13) dX2_insert_72 (z_nm eu14 (z_iinc X (v := q.1 + (-1)) 2 [(4, .int (q.1 + (-1))), (0, .ref (z_ad g 86)), (3, .ref (z_ad g x3))] dX2_insert_73 rfl rfl (by decide) rfl (z_goto X 36 dX2_insert_76 (by decide) (z_sub [1, 2, 0] [(0, .ref (z_ad g 86)), (3, .ref (z_ad g x3)), (4, .int (q.1 + (-1)))] rfl ?_)))))))))))))
      exact hkb (q.1 + (-1), u14) h
set_option maxRecDepth 20000 in
set_option maxHeartbeats 4000000 in
theorem w_X2_insert (l : Launch) (g : z_G) (a1 : Nat) (a2 : Int32) (ea1 : z_PO a1) (u : z_M) {res : z_M} (h : f_X2_insert a1 a2 u = some res) : z_C l g z_shC yX2_insert wsX2_insert 4 [.ref (z_ad g 86), .ref (z_ad g a1), .int a2] u (fun v u' => v = none ∧ u' = res) := by
  refine z_C.mk (lv := [(0, .ref (z_ad g 86)), (1, .ref (z_ad g a1)), (2, .int a2)]) (cc := cX2_insert) (nL := 5) (rt := none) rfl (by decide) (Nat.le_of_ble_eq_true rfl) rfl (fun p e R s m args below meth c hR X => ?_)
  unfold f_X2_insert at h
  refine z_aload_n X 0 dX2_insert_0 rfl rfl (z_getI X (k0 := 0) z_c86 rfl in_X2_insert_X2 (by decide) rfl rfl lk_X2_insert_22 dX2_insert_1 (z_bipush X (v := 12) dX2_insert_4 (by decide) (z_icmp_lt X 10 dX2_insert_6 (by decide) (fun c1 => ?_) (fun c1 => ?_))))
  · replace h := z_ip c1 h
    obtain ⟨b2, h⟩ := z_gs h
    obtain ⟨b3, h⟩ := z_gs h
    obtain ⟨r4, er4, h⟩ := z_bs h
    obtain ⟨v5, ev5, h⟩ := z_ls h
    refine z_aload_n X 0 dX2_insert_10 rfl rfl (z_getR X (k0 := 1) z_c86 rfl in_X2_insert_X2 (by decide) rfl rfl lk_X2_insert_11 dX2_insert_11 (z_aload_n X 0 dX2_insert_14 rfl rfl (z_getI X (k0 := 0) z_c86 rfl in_X2_insert_X2 (by decide) rfl rfl lk_X2_insert_22 dX2_insert_15 (z_aalC X z_c87 (z_inS b2) dX2_insert_18 (z_astore_n X [(3, .ref (z_ad g ((z_gI u 87 (z_gI u 86 0).toNatClampNeg).toNatClampNeg))), (0, .ref (z_ad g 86)), (1, .ref (z_ad g a1)), (2, .int a2)] dX2_insert_19 rfl (by decide) rfl (z_aload_n X 0 dX2_insert_20 rfl rfl (z_aload_n X 2 dX2_insert_21 rfl rfl (z_aload_n X 1 dX2_insert_22 rfl rfl (z_getR X (k0 := 2) z_c86 rfl in_X2_insert_X2 (by decide) rfl rfl lk_X2_insert_17 dX2_insert_23 (z_iload_n X 3 dX2_insert_26 rfl rfl (z_callVv X (u1 := r4) [.ref (z_ad g a1), .ref (z_ad g 88), .int a2] [] (w_X1_take l g ((z_gI u 87 (z_gI u 86 0).toNatClampNeg).toNatClampNeg) a1 88 9 a2 (z_ch_of b3) ea1 z_c88 u er4) (z_ch (z_ch_of b3)) rfl gX2_insert_X1_take hy_X1_take rfl (z_le1 hR (by decide)) (z_le2 hR (by decide) (by decide)) (Nat.le_of_ble_eq_true rfl) dX2_insert_27 (z_aload_n X 1 dX2_insert_30 rfl rfl (z_getI X (k0 := 0) z_c86 rfl in_X2_insert_X2 (by decide) rfl rfl lk_X2_insert_22 dX2_insert_31 (z_ti ev5 (z_istore X [(4, .int v5), (3, .ref (z_ad g ((z_gI u 87 (z_gI u 86 0).toNatClampNeg).toNatClampNeg))), (0, .ref (z_ad g 86)), (1, .ref (z_ad g a1)), (2, .int a2)] dX2_insert_34 (by decide) rfl (z_sub [2, 1, 0] [(0, .ref (z_ad g 86)), (3, .ref (z_ad g ((z_gI u 87 (z_gI u 86 0).toNatClampNeg).toNatClampNeg))), (4, .int v5)] rfl ?_))))))))))))))))
    have hw := z_lp_w (fun q9 kb9 kx9 h1 h2 h3 => wb_X2_insert_36 (l := l) (e := e) (below := below) (u := r4) hR X ((z_gI u 87 (z_gI u 86 0).toNatClampNeg).toNatClampNeg) (z_ch_of b3) q9 kb9 kx9 h1 h2 h3) z_F _ _ h
    refine hw (fun t15 h => ?_)
    obtain ⟨b16, h⟩ := z_gs h
    obtain ⟨u17, eu17, h⟩ := z_ls h
    obtain ⟨u18, eu18, h⟩ := z_ls h
    refine z_aload_n X 0 dX2_insert_79 rfl rfl (z_getR X (k0 := 1) z_c86 rfl in_X2_insert_X2 (by decide) rfl rfl lk_X2_insert_11 dX2_insert_80 (z_iload X 2 dX2_insert_83 rfl (z_aload_n X 1 dX2_insert_85 rfl rfl (z_aasC X z_c87 (z_ch (z_ch_of b3)) (z_chLt (z_ch_of b3)) (z_inS b16) dX2_insert_86 (z_nm eu17 (z_aload_n X 0 dX2_insert_87 rfl rfl (z_dup X dX2_insert_88 rfl (z_getI X (k0 := 0) z_c86 rfl in_X2_insert_X2 (by decide) rfl rfl lk_X2_insert_22 dX2_insert_89 (z_iconst X (v := 1) dX2_insert_92 (by decide) (z_iadd X dX2_insert_93 (z_putI X (k0 := 0) (ty0 := tyX2) z_c86 rfl in_X2_insert_X2 tyX2_ok nmX2 (by decide) rfl rfl rfl rfl rfl lk_X2_insert_22 dX2_insert_94 (z_nm eu18 ?_))))))))))))
    cases h; exact z_vret X rfl dX2_insert_97 ⟨rfl, rfl⟩
  · replace h := z_in c1 h
    cases h; exact z_vret X rfl dX2_insert_9 ⟨rfl, rfl⟩

theorem ini_X9_isIn_X6_endsOf : Cond.initialized yX9_isIn.cls ∈ wsX6_endsOf := by decide +kernel
theorem sta_X9_isIn_X6_endsOf : Cond.static yX9_isIn ∈ wsX6_endsOf := by decide +kernel
def b_X6_endsOf_4 (x0 : Int32) (x1 nx1 : Nat) (u : z_M) : (Int32 × Int32) → ((Int32 × Int32) → Option (Int32)) → (Int32 → Option (Int32)) → Option (Int32) := fun q kb kx =>
  if 9 ≤ q.2 then (kx q.1) else (if (nI nx1) ≤ q.2 then (kx q.1) else (Option.bind (f_X9_isIn x0 q.2) (fun r3 => if r3 = 0 then (kb (q.1, q.2 + 1)) else (z_gd (z_inb q.2 nx1) (if (x0 &&& (z_gI u x1 q.2.toNatClampNeg)) = 0 then (z_lt (q.1 ||| (1 <<< (q.2 &&& 31))) (fun v7 => kb (v7, q.2 + 1))) else (kb (q.1, q.2 + 1)))))))
def f_X6_endsOf (a1 : Int32) (a2 na2 : Nat) (u : z_M) : Option (Int32) :=
  z_lp (b_X6_endsOf_4 a1 a2 na2 u) z_F (0, 0) (fun t8 => some t8)
set_option maxRecDepth 20000 in
set_option maxHeartbeats 4000000 in
theorem wb_X6_endsOf_4 {p : Program} {l : Launch} {e : Env} {R : Room} {s : State} {m : MethodId} {args : Array Value} {below : List Frame} {meth : Method} {c : Code} {g : z_G} {u : z_M} {res : Int32} (hR : R = z_rm 2) (X : z_X p R s m args meth c cX6_endsOf 4 RX6 wsX6_endsOf (some .int) g z_shC) (x0 : Int32) (x1 nx1 : Nat) (ex1 : z_shC[x1]? = some (.inl (0, nx1, none))) (q : Int32 × Int32) (kb : (Int32 × Int32) → Option (Int32)) (kx : Int32 → Option (Int32)) (hkb : ∀ q, kb q = some res → z_V p l e R s m args below meth c 4 g z_shC (MQ below (z_Qc g z_shC (fun v u' => v = some (.int res) ∧ u' = u)) args s 0 0 (z_A g z_shC)) 4 [(0, .int x0), (1, .ref (z_ad g x1)), (2, .int q.1), (3, .int q.2)] [] u) (hkx : ∀ t, kx t = some res → z_V p l e R s m args below meth c 4 g z_shC (MQ below (z_Qc g z_shC (fun v u' => v = some (.int res) ∧ u' = u)) args s 0 0 (z_A g z_shC)) 44 [(2, .int t)] [] u) (h : b_X6_endsOf_4 x0 x1 nx1 u q kb kx = some res) : z_V p l e R s m args below meth c 4 g z_shC (MQ below (z_Qc g z_shC (fun v u' => v = some (.int res) ∧ u' = u)) args s 0 0 (z_A g z_shC)) 4 [(0, .int x0), (1, .ref (z_ad g x1)), (2, .int q.1), (3, .int q.2)] [] u := by
  unfold b_X6_endsOf_4 at h
  refine z_iload_n X 3 dX6_endsOf_4 rfl rfl (z_bipush X (v := 9) dX6_endsOf_5 (by decide) (z_icmp_ge X 44 dX6_endsOf_7 (by decide) (fun c1 => ?_) (fun c1 => ?_)))
  · replace h := z_ip c1 h
    refine z_sub [2] [(2, .int q.1)] rfl ?_
    exact hkx q.1 h
  · replace h := z_in c1 h
    refine z_iload_n X 3 dX6_endsOf_10 rfl rfl (z_aload_n X 1 dX6_endsOf_11 rfl rfl (z_alen X ex1 (by decide) dX6_endsOf_12 (z_icmp_ge X 44 dX6_endsOf_13 (by decide) (fun c2 => ?_) (fun c2 => ?_))))
    · replace h := z_ip c2 h
      refine z_sub [2] [(2, .int q.1)] rfl ?_
      exact hkx q.1 h
    · replace h := z_in c2 h
      obtain ⟨r3, er3, h⟩ := z_bs h
      refine z_iload_n X 0 dX6_endsOf_16 rfl rfl (z_iload_n X 3 dX6_endsOf_17 rfl rfl (z_callNi X (r := r3) (u1 := u) [.int x0, .int q.2] [] (w_X9_isIn l g x0 q.2 u er3) gX6_endsOf_X9_isIn_n43 nn_X6 ini_X9_isIn_X6_endsOf sta_X9_isIn_X6_endsOf hy_X9_isIn.2 rfl (z_le1 hR (by decide)) (z_le2 hR (by decide) (by decide)) (Nat.le_of_ble_eq_true rfl) dX6_endsOf_18 (z_if_eq X 38 dX6_endsOf_21 (by decide) (fun c4 => ?_) (fun c4 => ?_))))
      · replace h := z_ip c4 h
        refine z_iinc X (v := q.2 + 1) 3 [(3, .int (q.2 + 1)), (0, .int x0), (1, .ref (z_ad g x1)), (2, .int q.1)] dX6_endsOf_38 rfl rfl (by decide) rfl (z_goto X 4 dX6_endsOf_41 (by decide) (z_sub [1, 2, 3, 0] [(0, .int x0), (1, .ref (z_ad g x1)), (2, .int q.1), (3, .int (q.2 + 1))] rfl ?_))
        exact hkb (q.1, q.2 + 1) h
      · replace h := z_in c4 h
        obtain ⟨b5, h⟩ := z_gs h
        refine z_iload_n X 0 dX6_endsOf_24 rfl rfl (z_aload_n X 1 dX6_endsOf_25 rfl rfl (z_iload_n X 3 dX6_endsOf_26 rfl rfl (z_iald X ex1 (z_inS b5) dX6_endsOf_27 (z_iand X dX6_endsOf_28 (z_if_ne X 38 dX6_endsOf_29 (by decide) (fun c6 => ?_) (fun c6 => ?_))))))
        · replace h := z_in c6 h
          refine z_iinc X (v := q.2 + 1) 3 [(3, .int (q.2 + 1)), (0, .int x0), (1, .ref (z_ad g x1)), (2, .int q.1)] dX6_endsOf_38 rfl rfl (by decide) rfl (z_goto X 4 dX6_endsOf_41 (by decide) (z_sub [1, 2, 3, 0] [(0, .int x0), (1, .ref (z_ad g x1)), (2, .int q.1), (3, .int (q.2 + 1))] rfl ?_))
          exact hkb (q.1, q.2 + 1) h
        · replace h := z_ip c6 h
          obtain ⟨v7, ev7, h⟩ := z_ls h
          refine z_iload_n X 2 dX6_endsOf_32 rfl rfl (z_iconst X (v := 1) dX6_endsOf_33 (by decide) (z_iload_n X 3 dX6_endsOf_34 rfl rfl (z_ishl X dX6_endsOf_35 (z_ior X dX6_endsOf_36 (z_ti ev7 (z_istore_n X [(2, .int v7), (0, .int x0), (1, .ref (z_ad g x1)), (3, .int q.2)] dX6_endsOf_37 rfl (by decide) rfl (z_iinc X (v := q.2 + 1) 3 [(3, .int (q.2 + 1)), (2, .int v7), (0, .int x0), (1, .ref (z_ad g x1))] dX6_endsOf_38 rfl rfl (by decide) rfl (z_goto X 4 dX6_endsOf_41 (by decide) (z_sub [2, 3, 1, 0] [(0, .int x0), (1, .ref (z_ad g x1)), (2, .int v7), (3, .int (q.2 + 1))] rfl ?_)))))))))
          exact hkb (v7, q.2 + 1) h
set_option maxRecDepth 20000 in
set_option maxHeartbeats 4000000 in
theorem w_X6_endsOf (l : Launch) (g : z_G) (a1 : Int32) (a2 na2 : Nat) (ea2 : z_shC[a2]? = some (.inl (0, na2, none))) (u : z_M) {res : Int32} (h : f_X6_endsOf a1 a2 na2 u = some res) : z_C l g z_shC yX6_endsOf wsX6_endsOf 2 [.int a1, .ref (z_ad g a2)] u (fun v u' => v = some (.int res) ∧ u' = u) := by
  refine z_C.mk (lv := [(0, .int a1), (1, .ref (z_ad g a2))]) (cc := cX6_endsOf) (nL := 4) (rt := (some .int)) rfl (by decide) (Nat.le_of_ble_eq_true rfl) rfl (fun p e R s m args below meth c hR X => ?_)
  unfold f_X6_endsOf at h
  refine z_iconst X (v := 0) dX6_endsOf_0 (by decide) (z_istore_n X [(2, .int 0), (0, .int a1), (1, .ref (z_ad g a2))] dX6_endsOf_1 rfl (by decide) rfl (z_iconst X (v := 0) dX6_endsOf_2 (by decide) (z_istore_n X [(3, .int 0), (2, .int 0), (0, .int a1), (1, .ref (z_ad g a2))] dX6_endsOf_3 rfl (by decide) rfl (z_sub [2, 3, 1, 0] [(0, .int a1), (1, .ref (z_ad g a2)), (2, .int 0), (3, .int 0)] rfl ?_))))
  have hw := z_lp_w (fun q9 kb9 kx9 h1 h2 h3 => wb_X6_endsOf_4 (l := l) (e := e) (below := below) (u := u) hR X a1 a2 na2 ea2 q9 kb9 kx9 h1 h2 h3) z_F _ _ h
  refine hw (fun t8 h => ?_)
  refine z_iload_n X 0 dX6_endsOf_44 rfl rfl ?_
  cases h; exact z_iret X rfl dX6_endsOf_45 ⟨rfl, rfl⟩

theorem lk_X6_coverers_9 : (Cond.fieldLink RX6 9 RX6 (TX6 3).2.1 (TX6 3).2.2.1) ∈ wsX6_coverers := by decide +kernel
theorem in_X6_coverers_X6 : ∀ w ∈ u_ws RX6 TX6 6, w ∈ wsX6_coverers := by decide +kernel
theorem lk_X6_coverers_15 : (Cond.fieldLink RX6 15 RX6 (TX6 4).2.1 (TX6 4).2.2.1) ∈ wsX6_coverers := by decide +kernel
theorem hy_X6_endsOf : yX6_endsOf.cls = RX6 ∧ yX6_endsOf.cls ≠ "java/lang/invoke/MethodHandle" ∧ yX6_endsOf.cls ≠ "java/lang/invoke/VarHandle" ∧ (parseMethodDescriptor yX6_endsOf.desc).map (fun d => d.parameters.length) = some 2 := by decide +kernel
def f_X6_coverers (ao : Nat) (a1 : Int32) (a2 : Int32) (u : z_M) : Option (Int32) :=
  Option.bind (f_X6_has ao a1 u) (fun r1 => if r1 = 0 then (some 0) else (z_gd (z_inb a1 9) (Option.bind (f_X6_endsOf ((z_gI u (ao + 1) a1.toNatClampNeg) &&& a2) (ao + 2) 9 u) (fun r4 => some r4))))
set_option maxRecDepth 20000 in
set_option maxHeartbeats 4000000 in
theorem w_X6_coverers (l : Launch) (g : z_G) (ao : Nat) (a1 : Int32) (a2 : Int32) (eao : z_PO ao) (u : z_M) {res : Int32} (h : f_X6_coverers ao a1 a2 u = some res) : z_C l g z_shC yX6_coverers wsX6_coverers 3 [.ref (z_ad g ao), .int a1, .int a2] u (fun v u' => v = some (.int res) ∧ u' = u) := by
  refine z_C.mk (lv := [(0, .ref (z_ad g ao)), (1, .int a1), (2, .int a2)]) (cc := cX6_coverers) (nL := 3) (rt := (some .int)) rfl (by decide) (Nat.le_of_ble_eq_true rfl) rfl (fun p e R s m args below meth c hR X => ?_)
  unfold f_X6_coverers at h
  obtain ⟨r1, er1, h⟩ := z_bs h
  refine z_aload_n X 0 dX6_coverers_0 rfl rfl (z_iload_n X 1 dX6_coverers_1 rfl rfl (z_callVi X (r := r1) (u1 := u) [.int a1] [] (w_X6_has l g ao a1 eao u er1) (z_po eao) rfl gX6_coverers_X6_has hy_X6_has rfl (z_le1 hR (by decide)) (z_le2 hR (by decide) (by decide)) (Nat.le_of_ble_eq_true rfl) dX6_coverers_2 (z_if_eq X 26 dX6_coverers_5 (by decide) (fun c2 => ?_) (fun c2 => ?_))))
  · replace h := z_ip c2 h
    refine z_iconst X (v := 0) dX6_coverers_26 (by decide) ?_
    cases h; exact z_iret X rfl dX6_coverers_27 ⟨rfl, rfl⟩
  · replace h := z_in c2 h
    obtain ⟨b3, h⟩ := z_gs h
    obtain ⟨r4, er4, h⟩ := z_bs h
    refine z_aload_n X 0 dX6_coverers_8 rfl rfl (z_getR X (k0 := 3) (z_po eao) rfl in_X6_coverers_X6 (by decide) rfl rfl lk_X6_coverers_9 dX6_coverers_9 (z_iload_n X 1 dX6_coverers_12 rfl rfl (z_iald X (z_poA eao) (z_inS b3) dX6_coverers_13 (z_iload_n X 2 dX6_coverers_14 rfl rfl (z_iand X dX6_coverers_15 (z_aload_n X 0 dX6_coverers_16 rfl rfl (z_getR X (k0 := 4) (z_po eao) rfl in_X6_coverers_X6 (by decide) rfl rfl lk_X6_coverers_15 dX6_coverers_17 (z_callSi X (r := r4) (u1 := u) [.int ((z_gI u (ao + 1) a1.toNatClampNeg) &&& a2), .ref (z_ad g (ao + 2))] [] (w_X6_endsOf l g ((z_gI u (ao + 1) a1.toNatClampNeg) &&& a2) (ao + 2) 9 (z_poU eao) u er4) gX6_coverers_X6_endsOf hy_X6_endsOf.2 rfl (z_le1 hR (by decide)) (z_le2 hR (by decide) (by decide)) (Nat.le_of_ble_eq_true rfl) dX6_coverers_20 (z_goto X 27 dX6_coverers_23 (by decide) ?_)))))))))
    cases h; exact z_iret X rfl dX6_coverers_27 ⟨rfl, rfl⟩

theorem lk_X2_grow_17 : (Cond.fieldLink RX2 17 RX2 (TX2 2).2.1 (TX2 2).2.2.1) ∈ wsX2_grow := by decide +kernel
theorem in_X2_grow_X2 : ∀ w ∈ u_ws RX2 TX2 3, w ∈ wsX2_grow := fun _ h => List.mem_cons_of_mem _ (List.mem_append_left _ (List.mem_append_left _ (List.mem_append_right _ h)))
theorem ini_X9_isIn_X2_grow : Cond.initialized yX9_isIn.cls ∈ wsX2_grow := by decide +kernel
theorem sta_X9_isIn_X2_grow : Cond.static yX9_isIn ∈ wsX2_grow := by decide +kernel
theorem hy_X2_grow : yX2_grow.cls = RX2 ∧ yX2_grow.cls ≠ "java/lang/invoke/MethodHandle" ∧ yX2_grow.cls ≠ "java/lang/invoke/VarHandle" ∧ (parseMethodDescriptor yX2_grow.desc).map (fun d => d.parameters.length) = some 3 := by decide +kernel
theorem hy_X2_insert : yX2_insert.cls = RX2 ∧ yX2_insert.cls ≠ "java/lang/invoke/MethodHandle" ∧ yX2_insert.cls ≠ "java/lang/invoke/VarHandle" ∧ (parseMethodDescriptor yX2_insert.desc).map (fun d => d.parameters.length) = some 2 := by decide +kernel
theorem hy_X6_coverers : yX6_coverers.cls = RX6 ∧ yX6_coverers.cls ≠ "java/lang/invoke/MethodHandle" ∧ yX6_coverers.cls ≠ "java/lang/invoke/VarHandle" ∧ (parseMethodDescriptor yX6_coverers.desc).map (fun d => d.parameters.length) = some 2 := by decide +kernel
def b_X2_grow_46 (rec : Nat → Int32 → Int32 → z_M → Option (z_M)) (x1 : Nat) (x2 : Int32) (x3 : Int32) (x4 : Int32) : (Int32 × z_M) → ((Int32 × z_M) → Option (z_M)) → (z_M → Option (z_M)) → Option (z_M) := fun q kb kx =>
  if 9 ≤ q.1 then (kx q.2) else (Option.bind (f_X9_isIn x4 q.1) (fun r9 => if r9 = 0 then (kb (q.1 + 1, q.2)) else (z_gd (z_inb (x3 + 1) 9) (z_lt (z_sI q.2 88 (x3 + 1).toNatClampNeg q.1) (fun u12 => Option.bind (rec x1 x2 (x3 + 1) u12) (fun r13 => kb (q.1 + 1, r13)))))))
def fb_X2_grow (rec : Nat → Int32 → Int32 → z_M → Option (z_M)) (a1 : Nat) (a2 : Int32) (a3 : Int32) (u : z_M) : Option (z_M) :=
  z_gd (z_inb a3 9) (if (z_gI u 88 a3.toNatClampNeg) = a2 then (Option.bind (f_X2_insert a1 a3 u) (fun r3 => some r3)) else (if (a3 + 1) < 9 then (z_gd (z_inb a3 9) (Option.bind (f_X6_atMost a1 a2 u) (fun r6 => Option.bind (f_X6_coverers a1 (z_gI u 88 a3.toNatClampNeg) r6 u) (fun r7 => z_lp (b_X2_grow_46 rec a1 a2 a3 r7) z_F (0, u) (fun t14 => some t14))))) else (some u)))
def f_X2_grow : Nat → Nat → Int32 → Int32 → z_M → Option (z_M)
  | 0, _, _, _, _ => none
  | dd + 1, a1, a2, a3, u => fb_X2_grow (f_X2_grow dd) a1 a2 a3 u
set_option maxRecDepth 20000 in
set_option maxHeartbeats 4000000 in
theorem wb_X2_grow_46 {dd : Nat} {p : Program} {l : Launch} {e : Env} {R : Room} {s : State} {m : MethodId} {args : Array Value} {below : List Frame} {meth : Method} {c : Code} {g : z_G} {u : z_M} {res : z_M} (hR : R = z_rm (5 + (dd + 1))) (X : z_X p R s m args meth c cX2_grow 6 RX2 wsX2_grow none g z_shC) (rec : Nat → Int32 → Int32 → z_M → Option (z_M)) (ih : ∀ (a1 : Nat) (a2 : Int32) (a3 : Int32) (ea1 : z_PO a1) (u : z_M) (res : z_M), rec a1 a2 a3 u = some res → z_C l g z_shC yX2_grow wsX2_grow (5 + dd) [.ref (z_ad g 86), .ref (z_ad g a1), .int a2, .int a3] u (fun v u' => v = none ∧ u' = res)) (x1 : Nat) (x2 : Int32) (x3 : Int32) (x4 : Int32) (ex1 : z_PO x1) (q : Int32 × z_M) (kb : (Int32 × z_M) → Option (z_M)) (kx : z_M → Option (z_M)) (hkb : ∀ q, kb q = some res → z_V p l e R s m args below meth c 6 g z_shC (MQ below (z_Qc g z_shC (fun v u' => v = none ∧ u' = res)) args s 0 0 (z_A g z_shC)) 46 [(0, .ref (z_ad g 86)), (1, .ref (z_ad g x1)), (2, .int x2), (3, .int x3), (4, .int x4), (5, .int q.1)] [] q.2) (hkx : ∀ t, kx t = some res → z_V p l e R s m args below meth c 6 g z_shC (MQ below (z_Qc g z_shC (fun v u' => v = none ∧ u' = res)) args s 0 0 (z_A g z_shC)) 88 [] [] t) (h : b_X2_grow_46 rec x1 x2 x3 x4 q kb kx = some res) : z_V p l e R s m args below meth c 6 g z_shC (MQ below (z_Qc g z_shC (fun v u' => v = none ∧ u' = res)) args s 0 0 (z_A g z_shC)) 46 [(0, .ref (z_ad g 86)), (1, .ref (z_ad g x1)), (2, .int x2), (3, .int x3), (4, .int x4), (5, .int q.1)] [] q.2 := by
  unfold b_X2_grow_46 at h
  refine z_iload X 5 dX2_grow_46 rfl (z_bipush X (v := 9) dX2_grow_48 (by decide) (z_icmp_ge X 88 dX2_grow_50 (by decide) (fun c8 => ?_) (fun c8 => ?_)))
  · replace h := z_ip c8 h
    refine z_sub [] [] rfl ?_
    exact hkx q.2 h
  · replace h := z_in c8 h
    obtain ⟨r9, er9, h⟩ := z_bs h
    refine z_iload X 4 dX2_grow_53 rfl (z_iload X 5 dX2_grow_55 rfl (z_callNi X (r := r9) (u1 := q.2) [.int x4, .int q.1] [] (w_X9_isIn l g x4 q.1 q.2 er9) gX2_grow_X9_isIn_n44 nn_X2 ini_X9_isIn_X2_grow sta_X9_isIn_X2_grow hy_X9_isIn.2 rfl (z_le1 hR (by omega)) (z_le2 hR (by omega) (by decide)) (Nat.le_of_ble_eq_true rfl) dX2_grow_57 (z_if_eq X 82 dX2_grow_60 (by decide) (fun c10 => ?_) (fun c10 => ?_))))
    · replace h := z_ip c10 h
      refine z_iinc X (v := q.1 + 1) 5 [(5, .int (q.1 + 1)), (0, .ref (z_ad g 86)), (1, .ref (z_ad g x1)), (2, .int x2), (3, .int x3), (4, .int x4)] dX2_grow_82 rfl rfl (by decide) rfl (z_goto X 46 dX2_grow_85 (by decide) (z_sub [1, 2, 3, 4, 5, 0] [(0, .ref (z_ad g 86)), (1, .ref (z_ad g x1)), (2, .int x2), (3, .int x3), (4, .int x4), (5, .int (q.1 + 1))] rfl ?_))
      exact hkb (q.1 + 1, q.2) h
    · replace h := z_in c10 h
      obtain ⟨b11, h⟩ := z_gs h
      obtain ⟨u12, eu12, h⟩ := z_ls h
      obtain ⟨r13, er13, h⟩ := z_bs h
      refine z_aload_n X 0 dX2_grow_63 rfl rfl (z_getR X (k0 := 2) z_c86 rfl in_X2_grow_X2 (by decide) rfl rfl lk_X2_grow_17 dX2_grow_64 (z_iload_n X 3 dX2_grow_67 rfl rfl (z_iconst X (v := 1) dX2_grow_68 (by decide) (z_iadd X dX2_grow_69 (z_iload X 5 dX2_grow_70 rfl (z_iast X z_c88 (z_inS b11) dX2_grow_72 (z_nm eu12 (z_aload_n X 0 dX2_grow_73 rfl rfl (z_aload_n X 1 dX2_grow_74 rfl rfl (z_iload_n X 2 dX2_grow_75 rfl rfl (z_iload_n X 3 dX2_grow_76 rfl rfl (z_iconst X (v := 1) dX2_grow_77 (by decide) (z_iadd X dX2_grow_78 (z_callVv X (u1 := r13) [.ref (z_ad g x1), .int x2, .int (x3 + 1)] [] (ih x1 x2 (x3 + 1) ex1 u12 _ er13) z_c86 rfl gX2_grow_X2_grow hy_X2_grow rfl (z_le1 hR (by omega)) (z_le2 hR (by omega) (by decide)) (Nat.le_of_ble_eq_true rfl) dX2_grow_79 (z_iinc X (v := q.1 + 1) 5 [(5, .int (q.1 + 1)), (0, .ref (z_ad g 86)), (1, .ref (z_ad g x1)), (2, .int x2), (3, .int x3), (4, .int x4)] dX2_grow_82 rfl rfl (by decide) rfl (z_goto X 46 dX2_grow_85 (by decide) (z_sub [1, 2, 3, 4, 5, 0] [(0, .ref (z_ad g 86)), (1, .ref (z_ad g x1)), (2, .int x2), (3, .int x3), (4, .int x4), (5, .int (q.1 + 1))] rfl ?_)))))))))))))))))
      exact hkb (q.1 + 1, r13) h
set_option maxRecDepth 20000 in
set_option maxHeartbeats 4000000 in
theorem wr_X2_grow {dd : Nat} {p : Program} {l : Launch} {e : Env} {R : Room} {s : State} {m : MethodId} {args : Array Value} {below : List Frame} {meth : Method} {c : Code} {g : z_G} {u : z_M} {res : z_M} (hR : R = z_rm (5 + (dd + 1))) (X : z_X p R s m args meth c cX2_grow 6 RX2 wsX2_grow none g z_shC) (rec : Nat → Int32 → Int32 → z_M → Option (z_M)) (ih : ∀ (a1 : Nat) (a2 : Int32) (a3 : Int32) (ea1 : z_PO a1) (u : z_M) (res : z_M), rec a1 a2 a3 u = some res → z_C l g z_shC yX2_grow wsX2_grow (5 + dd) [.ref (z_ad g 86), .ref (z_ad g a1), .int a2, .int a3] u (fun v u' => v = none ∧ u' = res)) (a1 : Nat) (a2 : Int32) (a3 : Int32) (ea1 : z_PO a1) (h : fb_X2_grow rec a1 a2 a3 u = some res) : z_V p l e R s m args below meth c 6 g z_shC (MQ below (z_Qc g z_shC (fun v u' => v = none ∧ u' = res)) args s 0 0 (z_A g z_shC)) 0 [(0, .ref (z_ad g 86)), (1, .ref (z_ad g a1)), (2, .int a2), (3, .int a3)] [] u := by
  unfold fb_X2_grow at h
  obtain ⟨b1, h⟩ := z_gs h
  refine z_aload_n X 0 dX2_grow_0 rfl rfl (z_getR X (k0 := 2) z_c86 rfl in_X2_grow_X2 (by decide) rfl rfl lk_X2_grow_17 dX2_grow_1 (z_iload_n X 3 dX2_grow_4 rfl rfl (z_iald X z_c88 (z_inS b1) dX2_grow_5 (z_iload_n X 2 dX2_grow_6 rfl rfl (z_icmp_ne X 17 dX2_grow_7 (by decide) (fun c2 => ?_) (fun c2 => ?_))))))
  · replace h := z_in c2 h
    refine z_iload_n X 3 dX2_grow_17 rfl rfl (z_iconst X (v := 1) dX2_grow_18 (by decide) (z_iadd X dX2_grow_19 (z_bipush X (v := 9) dX2_grow_20 (by decide) (z_icmp_lt X 26 dX2_grow_22 (by decide) (fun c4 => ?_) (fun c4 => ?_)))))
    · replace h := z_ip c4 h
      obtain ⟨b5, h⟩ := z_gs h
      obtain ⟨r6, er6, h⟩ := z_bs h
      obtain ⟨r7, er7, h⟩ := z_bs h
      refine z_aload_n X 1 dX2_grow_26 rfl rfl (z_aload_n X 0 dX2_grow_27 rfl rfl (z_getR X (k0 := 2) z_c86 rfl in_X2_grow_X2 (by decide) rfl rfl lk_X2_grow_17 dX2_grow_28 (z_iload_n X 3 dX2_grow_31 rfl rfl (z_iald X z_c88 (z_inS b5) dX2_grow_32 (z_aload_n X 1 dX2_grow_33 rfl rfl (z_iload_n X 2 dX2_grow_34 rfl rfl (z_callVi X (r := r6) (u1 := u) [.int a2] [.int (z_gI u 88 a3.toNatClampNeg), .ref (z_ad g a1)] (w_X6_atMost l g a1 a2 ea1 u er6) (z_po ea1) rfl gX2_grow_X6_atMost hy_X6_atMost rfl (z_le1 hR (by omega)) (z_le2 hR (by omega) (by decide)) (Nat.le_of_ble_eq_true rfl) dX2_grow_35 (z_callVi X (r := r7) (u1 := u) [.int (z_gI u 88 a3.toNatClampNeg), .int r6] [] (w_X6_coverers l g a1 (z_gI u 88 a3.toNatClampNeg) r6 ea1 u er7) (z_po ea1) rfl gX2_grow_X6_coverers hy_X6_coverers rfl (z_le1 hR (by omega)) (z_le2 hR (by omega) (by decide)) (Nat.le_of_ble_eq_true rfl) dX2_grow_38 (z_istore X [(4, .int r7), (0, .ref (z_ad g 86)), (1, .ref (z_ad g a1)), (2, .int a2), (3, .int a3)] dX2_grow_41 (by decide) rfl (z_iconst X (v := 0) dX2_grow_43 (by decide) (z_istore X [(5, .int 0), (4, .int r7), (0, .ref (z_ad g 86)), (1, .ref (z_ad g a1)), (2, .int a2), (3, .int a3)] dX2_grow_44 (by decide) rfl (z_sub [2, 3, 4, 5, 1, 0] [(0, .ref (z_ad g 86)), (1, .ref (z_ad g a1)), (2, .int a2), (3, .int a3), (4, .int r7), (5, .int 0)] rfl ?_))))))))))))
      have hw := z_lp_w (fun q9 kb9 kx9 h1 h2 h3 => wb_X2_grow_46 (l := l) (e := e) (below := below) (u := u) hR X rec ih a1 a2 a3 r7 ea1 q9 kb9 kx9 h1 h2 h3) z_F _ _ h
      refine hw (fun t14 h => ?_)
      cases h; exact z_vret X rfl dX2_grow_88 ⟨rfl, rfl⟩
    · replace h := z_in c4 h
      cases h; exact z_vret X rfl dX2_grow_25 ⟨rfl, rfl⟩
  · replace h := z_ip c2 h
    obtain ⟨r3, er3, h⟩ := z_bs h
    refine z_aload_n X 0 dX2_grow_10 rfl rfl (z_aload_n X 1 dX2_grow_11 rfl rfl (z_iload_n X 3 dX2_grow_12 rfl rfl (z_callVv X (u1 := r3) [.ref (z_ad g a1), .int a3] [] (w_X2_insert l g a1 a3 ea1 u er3) z_c86 rfl gX2_grow_X2_insert hy_X2_insert rfl (z_le1 hR (by omega)) (z_le2 hR (by omega) (by decide)) (Nat.le_of_ble_eq_true rfl) dX2_grow_13 ?_)))
    cases h; exact z_vret X rfl dX2_grow_16 ⟨rfl, rfl⟩
theorem w_X2_grow (l : Launch) (g : z_G) : ∀ (dd : Nat) (a1 : Nat) (a2 : Int32) (a3 : Int32) (ea1 : z_PO a1) (u : z_M) {res : z_M}, f_X2_grow dd a1 a2 a3 u = some res → z_C l g z_shC yX2_grow wsX2_grow (5 + dd) [.ref (z_ad g 86), .ref (z_ad g a1), .int a2, .int a3] u (fun v u' => v = none ∧ u' = res)
  | 0, _, _, _, _, _, _, h => by cases h
  | dd + 1, a1, a2, a3, ea1, u, res, h => z_C.mk (lv := [(0, .ref (z_ad g 86)), (1, .ref (z_ad g a1)), (2, .int a2), (3, .int a3)]) (cc := cX2_grow) (nL := 6) (rt := none) rfl (by decide) (Nat.le_of_ble_eq_true rfl) rfl (fun p e R s m args below meth c hR X => wr_X2_grow hR X (f_X2_grow dd) (fun a1 a2 a3 ea1 u res h => w_X2_grow l g dd a1 a2 a3 ea1 u h) a1 a2 a3 ea1 h)

theorem lk_X2_fill_22 : (Cond.fieldLink RX2 22 RX2 (TX2 0).2.1 (TX2 0).2.2.1) ∈ wsX2_fill := by decide +kernel
theorem in_X2_fill_X2 : ∀ w ∈ u_ws RX2 TX2 3, w ∈ wsX2_fill := fun _ h => List.mem_cons_of_mem _ (List.mem_append_left _ (List.mem_append_left _ (List.mem_append_right _ h)))
theorem lk_X2_fill_17 : (Cond.fieldLink RX2 17 RX2 (TX2 2).2.1 (TX2 2).2.2.1) ∈ wsX2_fill := by decide +kernel
def f_X2_fill (a1 : Nat) (a2 : Int32) (a3 : Int32) (u : z_M) : Option (z_M) :=
  z_lt (z_sI u 86 0 0) (fun u1 => z_gd (z_inb 0 9) (z_lt (z_sI u1 88 (0 : Int32).toNatClampNeg a2) (fun u3 => Option.bind (f_X2_grow 14 a1 a3 0 u3) (fun r4 => some r4))))
set_option maxRecDepth 20000 in
set_option maxHeartbeats 4000000 in
theorem w_X2_fill (l : Launch) (g : z_G) (a1 : Nat) (a2 : Int32) (a3 : Int32) (ea1 : z_PO a1) (u : z_M) {res : z_M} (h : f_X2_fill a1 a2 a3 u = some res) : z_C l g z_shC yX2_fill wsX2_fill 20 [.ref (z_ad g 86), .ref (z_ad g a1), .int a2, .int a3] u (fun v u' => v = none ∧ u' = res) := by
  refine z_C.mk (lv := [(0, .ref (z_ad g 86)), (1, .ref (z_ad g a1)), (2, .int a2), (3, .int a3)]) (cc := cX2_fill) (nL := 4) (rt := none) rfl (by decide) (Nat.le_of_ble_eq_true rfl) rfl (fun p e R s m args below meth c hR X => ?_)
  unfold f_X2_fill at h
  obtain ⟨u1, eu1, h⟩ := z_ls h
  obtain ⟨b2, h⟩ := z_gs h
  obtain ⟨u3, eu3, h⟩ := z_ls h
  obtain ⟨r4, er4, h⟩ := z_bs h
  refine z_aload_n X 0 dX2_fill_0 rfl rfl (z_iconst X (v := 0) dX2_fill_1 (by decide) (z_putI X (k0 := 0) (ty0 := tyX2) z_c86 rfl in_X2_fill_X2 tyX2_ok nmX2 (by decide) rfl rfl rfl rfl rfl lk_X2_fill_22 dX2_fill_2 (z_nm eu1 (z_aload_n X 0 dX2_fill_5 rfl rfl (z_getR X (k0 := 2) z_c86 rfl in_X2_fill_X2 (by decide) rfl rfl lk_X2_fill_17 dX2_fill_6 (z_iconst X (v := 0) dX2_fill_9 (by decide) (z_iload_n X 2 dX2_fill_10 rfl rfl (z_iast X z_c88 (z_inS b2) dX2_fill_11 (z_nm eu3 (z_aload_n X 0 dX2_fill_12 rfl rfl (z_aload_n X 1 dX2_fill_13 rfl rfl (z_iload_n X 3 dX2_fill_14 rfl rfl (z_iconst X (v := 0) dX2_fill_15 (by decide) (z_callVv X (u1 := r4) [.ref (z_ad g a1), .int a3, .int 0] [] (w_X2_grow l g 14 a1 a3 0 ea1 u3 er4) z_c86 rfl gX2_fill_X2_grow hy_X2_grow rfl (z_le1 hR (by decide)) (z_le2 hR (by decide) (by decide)) (Nat.le_of_ble_eq_true rfl) dX2_fill_16 ?_))))))))))))))
  cases h; exact z_vret X rfl dX2_fill_19 ⟨rfl, rfl⟩

theorem lk_X2_withFalls_22 : (Cond.fieldLink RX2 22 RX2 (TX2 0).2.1 (TX2 0).2.2.1) ∈ wsX2_withFalls := by decide +kernel
theorem in_X2_withFalls_X2 : ∀ w ∈ u_ws RX2 TX2 3, w ∈ wsX2_withFalls := by decide +kernel
theorem lk_X2_withFalls_11 : (Cond.fieldLink RX2 11 RX2 (TX2 1).2.1 (TX2 1).2.2.1) ∈ wsX2_withFalls := by decide +kernel
def b_X2_withFalls_4 (x1 : Int32) (u : z_M) : (Int32 × Int32) → ((Int32 × Int32) → Option (Int32)) → (Int32 → Option (Int32)) → Option (Int32) := fun q kb kx =>
  if (z_gI u 86 0) ≤ q.2 then (kx q.1) else (z_gd (z_inb q.2 12) (z_gd (z_isCh (z_gI u 87 q.2.toNatClampNeg).toNatClampNeg) (Option.bind (f_X1_fallSet ((z_gI u 87 q.2.toNatClampNeg).toNatClampNeg) u) (fun r4 => if r4 = x1 then (kb (q.1 + 1, q.2 + 1)) else (kb (q.1, q.2 + 1))))))
def f_X2_withFalls (a1 : Int32) (u : z_M) : Option (Int32) :=
  z_lp (b_X2_withFalls_4 a1 u) z_F (0, 0) (fun t6 => some t6)
set_option maxRecDepth 20000 in
set_option maxHeartbeats 4000000 in
theorem wb_X2_withFalls_4 {p : Program} {l : Launch} {e : Env} {R : Room} {s : State} {m : MethodId} {args : Array Value} {below : List Frame} {meth : Method} {c : Code} {g : z_G} {u : z_M} {res : Int32} (hR : R = z_rm 2) (X : z_X p R s m args meth c cX2_withFalls 4 RX2 wsX2_withFalls (some .int) g z_shC) (x1 : Int32) (q : Int32 × Int32) (kb : (Int32 × Int32) → Option (Int32)) (kx : Int32 → Option (Int32)) (hkb : ∀ q, kb q = some res → z_V p l e R s m args below meth c 4 g z_shC (MQ below (z_Qc g z_shC (fun v u' => v = some (.int res) ∧ u' = u)) args s 0 0 (z_A g z_shC)) 4 [(0, .ref (z_ad g 86)), (1, .int x1), (2, .int q.1), (3, .int q.2)] [] u) (hkx : ∀ t, kx t = some res → z_V p l e R s m args below meth c 4 g z_shC (MQ below (z_Qc g z_shC (fun v u' => v = some (.int res) ∧ u' = u)) args s 0 0 (z_A g z_shC)) 34 [(2, .int t)] [] u) (h : b_X2_withFalls_4 x1 u q kb kx = some res) : z_V p l e R s m args below meth c 4 g z_shC (MQ below (z_Qc g z_shC (fun v u' => v = some (.int res) ∧ u' = u)) args s 0 0 (z_A g z_shC)) 4 [(0, .ref (z_ad g 86)), (1, .int x1), (2, .int q.1), (3, .int q.2)] [] u := by
  unfold b_X2_withFalls_4 at h
  refine z_iload_n X 3 dX2_withFalls_4 rfl rfl (z_aload_n X 0 dX2_withFalls_5 rfl rfl (z_getI X (k0 := 0) z_c86 rfl in_X2_withFalls_X2 (by decide) rfl rfl lk_X2_withFalls_22 dX2_withFalls_6 (z_icmp_ge X 34 dX2_withFalls_9 (by decide) (fun c1 => ?_) (fun c1 => ?_))))
  · replace h := z_ip c1 h
    refine z_sub [2] [(2, .int q.1)] rfl ?_
    exact hkx q.1 h
  · replace h := z_in c1 h
    obtain ⟨b2, h⟩ := z_gs h
    obtain ⟨b3, h⟩ := z_gs h
    obtain ⟨r4, er4, h⟩ := z_bs h
    refine z_aload_n X 0 dX2_withFalls_12 rfl rfl (z_getR X (k0 := 1) z_c86 rfl in_X2_withFalls_X2 (by decide) rfl rfl lk_X2_withFalls_11 dX2_withFalls_13 (z_iload_n X 3 dX2_withFalls_16 rfl rfl (z_aalC X z_c87 (z_inS b2) dX2_withFalls_17 (z_callVi X (r := r4) (u1 := u) [] [] (w_X1_fallSet l g ((z_gI u 87 q.2.toNatClampNeg).toNatClampNeg) (z_ch_of b3) u er4) (z_ch (z_ch_of b3)) rfl gX2_withFalls_X1_fallSet hy_X1_fallSet rfl (z_le1 hR (by decide)) (z_le2 hR (by decide) (by decide)) (Nat.le_of_ble_eq_true rfl) dX2_withFalls_18 (z_iload_n X 1 dX2_withFalls_21 rfl rfl (z_icmp_ne X 28 dX2_withFalls_22 (by decide) (fun c5 => ?_) (fun c5 => ?_)))))))
    · replace h := z_in c5 h
      refine z_iinc X (v := q.2 + 1) 3 [(3, .int (q.2 + 1)), (0, .ref (z_ad g 86)), (1, .int x1), (2, .int q.1)] dX2_withFalls_28 rfl rfl (by decide) rfl (z_goto X 4 dX2_withFalls_31 (by decide) (z_sub [1, 2, 3, 0] [(0, .ref (z_ad g 86)), (1, .int x1), (2, .int q.1), (3, .int (q.2 + 1))] rfl ?_))
      exact hkb (q.1, q.2 + 1) h
    · replace h := z_ip c5 h
      refine z_iinc X (v := q.1 + 1) 2 [(2, .int (q.1 + 1)), (0, .ref (z_ad g 86)), (1, .int x1), (3, .int q.2)] dX2_withFalls_25 rfl rfl (by decide) rfl (z_iinc X (v := q.2 + 1) 3 [(3, .int (q.2 + 1)), (2, .int (q.1 + 1)), (0, .ref (z_ad g 86)), (1, .int x1)] dX2_withFalls_28 rfl rfl (by decide) rfl (z_goto X 4 dX2_withFalls_31 (by decide) (z_sub [2, 3, 1, 0] [(0, .ref (z_ad g 86)), (1, .int x1), (2, .int (q.1 + 1)), (3, .int (q.2 + 1))] rfl ?_)))
      exact hkb (q.1 + 1, q.2 + 1) h
set_option maxRecDepth 20000 in
set_option maxHeartbeats 4000000 in
theorem w_X2_withFalls (l : Launch) (g : z_G) (a1 : Int32) (u : z_M) {res : Int32} (h : f_X2_withFalls a1 u = some res) : z_C l g z_shC yX2_withFalls wsX2_withFalls 2 [.ref (z_ad g 86), .int a1] u (fun v u' => v = some (.int res) ∧ u' = u) := by
  refine z_C.mk (lv := [(0, .ref (z_ad g 86)), (1, .int a1)]) (cc := cX2_withFalls) (nL := 4) (rt := (some .int)) rfl (by decide) (Nat.le_of_ble_eq_true rfl) rfl (fun p e R s m args below meth c hR X => ?_)
  unfold f_X2_withFalls at h
  refine z_iconst X (v := 0) dX2_withFalls_0 (by decide) (z_istore_n X [(2, .int 0), (0, .ref (z_ad g 86)), (1, .int a1)] dX2_withFalls_1 rfl (by decide) rfl (z_iconst X (v := 0) dX2_withFalls_2 (by decide) (z_istore_n X [(3, .int 0), (2, .int 0), (0, .ref (z_ad g 86)), (1, .int a1)] dX2_withFalls_3 rfl (by decide) rfl (z_sub [2, 3, 1, 0] [(0, .ref (z_ad g 86)), (1, .int a1), (2, .int 0), (3, .int 0)] rfl ?_))))
  have hw := z_lp_w (fun q9 kb9 kx9 h1 h2 h3 => wb_X2_withFalls_4 (l := l) (e := e) (below := below) (u := u) hR X a1 q9 kb9 kx9 h1 h2 h3) z_F _ _ h
  refine hw (fun t6 h => ?_)
  refine z_iload_n X 0 dX2_withFalls_34 rfl rfl ?_
  cases h; exact z_iret X rfl dX2_withFalls_35 ⟨rfl, rfl⟩

theorem hy_X2_withFalls : yX2_withFalls.cls = RX2 ∧ yX2_withFalls.cls ≠ "java/lang/invoke/MethodHandle" ∧ yX2_withFalls.cls ≠ "java/lang/invoke/VarHandle" ∧ (parseMethodDescriptor yX2_withFalls.desc).map (fun d => d.parameters.length) = some 1 := by decide +kernel
def f_X2_rising (u : z_M) : Option (Int32) :=
  Option.bind (f_X2_withFalls 0 u) (fun r1 => some r1)
set_option maxRecDepth 20000 in
set_option maxHeartbeats 4000000 in
theorem w_X2_rising (l : Launch) (g : z_G)  (u : z_M) {res : Int32} (h : f_X2_rising u = some res) : z_C l g z_shC yX2_rising wsX2_rising 3 [.ref (z_ad g 86)] u (fun v u' => v = some (.int res) ∧ u' = u) := by
  refine z_C.mk (lv := [(0, .ref (z_ad g 86))]) (cc := cX2_rising) (nL := 1) (rt := (some .int)) rfl (by decide) (Nat.le_of_ble_eq_true rfl) rfl (fun p e R s m args below meth c hR X => ?_)
  unfold f_X2_rising at h
  obtain ⟨r1, er1, h⟩ := z_bs h
  refine z_aload_n X 0 dX2_rising_0 rfl rfl (z_iconst X (v := 0) dX2_rising_1 (by decide) (z_callVi X (r := r1) (u1 := u) [.int 0] [] (w_X2_withFalls l g 0 u er1) z_c86 rfl gX2_rising_X2_withFalls hy_X2_withFalls rfl (z_le1 hR (by decide)) (z_le2 hR (by decide) (by decide)) (Nat.le_of_ble_eq_true rfl) dX2_rising_2 ?_))
  cases h; exact z_iret X rfl dX2_rising_5 ⟨rfl, rfl⟩

theorem lk_X2_isLexed_11 : (Cond.fieldLink RX2 11 RX2 (TX2 1).2.1 (TX2 1).2.2.1) ∈ wsX2_isLexed := by decide +kernel
theorem in_X2_isLexed_X2 : ∀ w ∈ u_ws RX2 TX2 3, w ∈ wsX2_isLexed := by decide +kernel
theorem hy_X1_isRising : yX1_isRising.cls = RX1 ∧ yX1_isRising.cls ≠ "java/lang/invoke/MethodHandle" ∧ yX1_isRising.cls ≠ "java/lang/invoke/VarHandle" ∧ (parseMethodDescriptor yX1_isRising.desc).map (fun d => d.parameters.length) = some 0 := by decide +kernel
theorem hy_X2_rising : yX2_rising.cls = RX2 ∧ yX2_rising.cls ≠ "java/lang/invoke/MethodHandle" ∧ yX2_rising.cls ≠ "java/lang/invoke/VarHandle" ∧ (parseMethodDescriptor yX2_rising.desc).map (fun d => d.parameters.length) = some 0 := by decide +kernel
def f_X2_isLexed (u : z_M) : Option (Int32) :=
  Option.bind (f_X2_rising u) (fun r1 => if r1 = 1 then (z_gd (z_inb 0 12) (z_gd (z_isCh (z_gI u 87 (0 : Int32).toNatClampNeg).toNatClampNeg) (Option.bind (f_X1_isRising ((z_gI u 87 (0 : Int32).toNatClampNeg).toNatClampNeg) u) (fun r5 => if r5 = 0 then (some 0) else (some 1))))) else (some 0))
set_option maxRecDepth 20000 in
set_option maxHeartbeats 4000000 in
theorem w_X2_isLexed (l : Launch) (g : z_G)  (u : z_M) {res : Int32} (h : f_X2_isLexed u = some res) : z_C l g z_shC yX2_isLexed wsX2_isLexed 4 [.ref (z_ad g 86)] u (fun v u' => v = some (.int res) ∧ u' = u) := by
  refine z_C.mk (lv := [(0, .ref (z_ad g 86))]) (cc := cX2_isLexed) (nL := 1) (rt := (some .boolean)) rfl (by decide) (Nat.le_of_ble_eq_true rfl) rfl (fun p e R s m args below meth c hR X => ?_)
  unfold f_X2_isLexed at h
  obtain ⟨r1, er1, h⟩ := z_bs h
  refine z_aload_n X 0 dX2_isLexed_0 rfl rfl (z_callVi X (r := r1) (u1 := u) [] [] (w_X2_rising l g u er1) z_c86 rfl gX2_isLexed_X2_rising hy_X2_rising rfl (z_le1 hR (by decide)) (z_le2 hR (by decide) (by decide)) (Nat.le_of_ble_eq_true rfl) dX2_isLexed_1 (z_iconst X (v := 1) dX2_isLexed_4 (by decide) (z_icmp_ne X 24 dX2_isLexed_5 (by decide) (fun c2 => ?_) (fun c2 => ?_))))
  · replace h := z_in c2 h
    refine z_iconst X (v := 0) dX2_isLexed_24 (by decide) ?_
    cases h; exact z_zret X rfl rfl dX2_isLexed_25 ⟨rfl, rfl⟩
  · replace h := z_ip c2 h
    obtain ⟨b3, h⟩ := z_gs h
    obtain ⟨b4, h⟩ := z_gs h
    obtain ⟨r5, er5, h⟩ := z_bs h
    refine z_aload_n X 0 dX2_isLexed_8 rfl rfl (z_getR X (k0 := 1) z_c86 rfl in_X2_isLexed_X2 (by decide) rfl rfl lk_X2_isLexed_11 dX2_isLexed_9 (z_iconst X (v := 0) dX2_isLexed_12 (by decide) (z_aalC X z_c87 (z_inS b3) dX2_isLexed_13 (z_callVi X (r := r5) (u1 := u) [] [] (w_X1_isRising l g ((z_gI u 87 (0 : Int32).toNatClampNeg).toNatClampNeg) (z_ch_of b4) u er5) (z_ch (z_ch_of b4)) rfl gX2_isLexed_X1_isRising hy_X1_isRising rfl (z_le1 hR (by decide)) (z_le2 hR (by decide) (by decide)) (Nat.le_of_ble_eq_true rfl) dX2_isLexed_14 (z_if_eq X 24 dX2_isLexed_17 (by decide) (fun c6 => ?_) (fun c6 => ?_))))))
    · replace h := z_ip c6 h
      refine z_iconst X (v := 0) dX2_isLexed_24 (by decide) ?_
      cases h; exact z_zret X rfl rfl dX2_isLexed_25 ⟨rfl, rfl⟩
    · replace h := z_in c6 h
      refine z_iconst X (v := 1) dX2_isLexed_20 (by decide) (z_goto X 25 dX2_isLexed_21 (by decide) ?_)
      cases h; exact z_zret X rfl rfl dX2_isLexed_25 ⟨rfl, rfl⟩

theorem lk_X2_descending_22 : (Cond.fieldLink RX2 22 RX2 (TX2 0).2.1 (TX2 0).2.2.1) ∈ wsX2_descending := by decide +kernel
theorem in_X2_descending_X2 : ∀ w ∈ u_ws RX2 TX2 3, w ∈ wsX2_descending := by decide +kernel
theorem lk_X2_descending_11 : (Cond.fieldLink RX2 11 RX2 (TX2 1).2.1 (TX2 1).2.2.1) ∈ wsX2_descending := by decide +kernel
theorem hy_X1_isDescending : yX1_isDescending.cls = RX1 ∧ yX1_isDescending.cls ≠ "java/lang/invoke/MethodHandle" ∧ yX1_isDescending.cls ≠ "java/lang/invoke/VarHandle" ∧ (parseMethodDescriptor yX1_isDescending.desc).map (fun d => d.parameters.length) = some 0 := by decide +kernel
def b_X2_descending_4 (u : z_M) : (Int32 × Int32) → ((Int32 × Int32) → Option (Int32)) → (Int32 → Option (Int32)) → Option (Int32) := fun q kb kx =>
  if (z_gI u 86 0) ≤ q.2 then (kx q.1) else (z_gd (z_inb q.2 12) (z_gd (z_isCh (z_gI u 87 q.2.toNatClampNeg).toNatClampNeg) (Option.bind (f_X1_isDescending ((z_gI u 87 q.2.toNatClampNeg).toNatClampNeg) u) (fun r4 => if r4 = 0 then (kb (q.1, q.2 + 1)) else (kb (q.1 + 1, q.2 + 1))))))
def f_X2_descending (u : z_M) : Option (Int32) :=
  z_lp (b_X2_descending_4 u) z_F (0, 0) (fun t6 => some t6)
set_option maxRecDepth 20000 in
set_option maxHeartbeats 4000000 in
theorem wb_X2_descending_4 {p : Program} {l : Launch} {e : Env} {R : Room} {s : State} {m : MethodId} {args : Array Value} {below : List Frame} {meth : Method} {c : Code} {g : z_G} {u : z_M} {res : Int32} (hR : R = z_rm 3) (X : z_X p R s m args meth c cX2_descending 3 RX2 wsX2_descending (some .int) g z_shC)  (q : Int32 × Int32) (kb : (Int32 × Int32) → Option (Int32)) (kx : Int32 → Option (Int32)) (hkb : ∀ q, kb q = some res → z_V p l e R s m args below meth c 3 g z_shC (MQ below (z_Qc g z_shC (fun v u' => v = some (.int res) ∧ u' = u)) args s 0 0 (z_A g z_shC)) 4 [(0, .ref (z_ad g 86)), (1, .int q.1), (2, .int q.2)] [] u) (hkx : ∀ t, kx t = some res → z_V p l e R s m args below meth c 3 g z_shC (MQ below (z_Qc g z_shC (fun v u' => v = some (.int res) ∧ u' = u)) args s 0 0 (z_A g z_shC)) 33 [(1, .int t)] [] u) (h : b_X2_descending_4 u q kb kx = some res) : z_V p l e R s m args below meth c 3 g z_shC (MQ below (z_Qc g z_shC (fun v u' => v = some (.int res) ∧ u' = u)) args s 0 0 (z_A g z_shC)) 4 [(0, .ref (z_ad g 86)), (1, .int q.1), (2, .int q.2)] [] u := by
  unfold b_X2_descending_4 at h
  refine z_iload_n X 2 dX2_descending_4 rfl rfl (z_aload_n X 0 dX2_descending_5 rfl rfl (z_getI X (k0 := 0) z_c86 rfl in_X2_descending_X2 (by decide) rfl rfl lk_X2_descending_22 dX2_descending_6 (z_icmp_ge X 33 dX2_descending_9 (by decide) (fun c1 => ?_) (fun c1 => ?_))))
  · replace h := z_ip c1 h
    refine z_sub [1] [(1, .int q.1)] rfl ?_
    exact hkx q.1 h
  · replace h := z_in c1 h
    obtain ⟨b2, h⟩ := z_gs h
    obtain ⟨b3, h⟩ := z_gs h
    obtain ⟨r4, er4, h⟩ := z_bs h
    refine z_aload_n X 0 dX2_descending_12 rfl rfl (z_getR X (k0 := 1) z_c86 rfl in_X2_descending_X2 (by decide) rfl rfl lk_X2_descending_11 dX2_descending_13 (z_iload_n X 2 dX2_descending_16 rfl rfl (z_aalC X z_c87 (z_inS b2) dX2_descending_17 (z_callVi X (r := r4) (u1 := u) [] [] (w_X1_isDescending l g ((z_gI u 87 q.2.toNatClampNeg).toNatClampNeg) (z_ch_of b3) u er4) (z_ch (z_ch_of b3)) rfl gX2_descending_X1_isDescending hy_X1_isDescending rfl (z_le1 hR (by decide)) (z_le2 hR (by decide) (by decide)) (Nat.le_of_ble_eq_true rfl) dX2_descending_18 (z_if_eq X 27 dX2_descending_21 (by decide) (fun c5 => ?_) (fun c5 => ?_))))))
    · replace h := z_ip c5 h
      refine z_iinc X (v := q.2 + 1) 2 [(2, .int (q.2 + 1)), (0, .ref (z_ad g 86)), (1, .int q.1)] dX2_descending_27 rfl rfl (by decide) rfl (z_goto X 4 dX2_descending_30 (by decide) (z_sub [1, 2, 0] [(0, .ref (z_ad g 86)), (1, .int q.1), (2, .int (q.2 + 1))] rfl ?_))
      exact hkb (q.1, q.2 + 1) h
    · replace h := z_in c5 h
      refine z_iinc X (v := q.1 + 1) 1 [(1, .int (q.1 + 1)), (0, .ref (z_ad g 86)), (2, .int q.2)] dX2_descending_24 rfl rfl (by decide) rfl (z_iinc X (v := q.2 + 1) 2 [(2, .int (q.2 + 1)), (1, .int (q.1 + 1)), (0, .ref (z_ad g 86))] dX2_descending_27 rfl rfl (by decide) rfl (z_goto X 4 dX2_descending_30 (by decide) (z_sub [2, 1, 0] [(0, .ref (z_ad g 86)), (1, .int (q.1 + 1)), (2, .int (q.2 + 1))] rfl ?_)))
      exact hkb (q.1 + 1, q.2 + 1) h
set_option maxRecDepth 20000 in
set_option maxHeartbeats 4000000 in
theorem w_X2_descending (l : Launch) (g : z_G)  (u : z_M) {res : Int32} (h : f_X2_descending u = some res) : z_C l g z_shC yX2_descending wsX2_descending 3 [.ref (z_ad g 86)] u (fun v u' => v = some (.int res) ∧ u' = u) := by
  refine z_C.mk (lv := [(0, .ref (z_ad g 86))]) (cc := cX2_descending) (nL := 3) (rt := (some .int)) rfl (by decide) (Nat.le_of_ble_eq_true rfl) rfl (fun p e R s m args below meth c hR X => ?_)
  unfold f_X2_descending at h
  refine z_iconst X (v := 0) dX2_descending_0 (by decide) (z_istore_n X [(1, .int 0), (0, .ref (z_ad g 86))] dX2_descending_1 rfl (by decide) rfl (z_iconst X (v := 0) dX2_descending_2 (by decide) (z_istore_n X [(2, .int 0), (1, .int 0), (0, .ref (z_ad g 86))] dX2_descending_3 rfl (by decide) rfl (z_sub [2, 1, 0] [(0, .ref (z_ad g 86)), (1, .int 0), (2, .int 0)] rfl ?_))))
  have hw := z_lp_w (fun q9 kb9 kx9 h1 h2 h3 => wb_X2_descending_4 (l := l) (e := e) (below := below) (u := u) hR X q9 kb9 kx9 h1 h2 h3) z_F _ _ h
  refine hw (fun t6 h => ?_)
  refine z_iload_n X 0 dX2_descending_33 rfl rfl ?_
  cases h; exact z_iret X rfl dX2_descending_34 ⟨rfl, rfl⟩

theorem lk_X2_longest_22 : (Cond.fieldLink RX2 22 RX2 (TX2 0).2.1 (TX2 0).2.2.1) ∈ wsX2_longest := by decide +kernel
theorem in_X2_longest_X2 : ∀ w ∈ u_ws RX2 TX2 3, w ∈ wsX2_longest := by decide +kernel
theorem lk_X2_longest_11 : (Cond.fieldLink RX2 11 RX2 (TX2 1).2.1 (TX2 1).2.2.1) ∈ wsX2_longest := by decide +kernel
theorem lk_X2_longest_70 : (Cond.fieldLink RX2 70 RX1 (TX1 0).2.1 (TX1 0).2.2.1) ∈ wsX2_longest := by decide +kernel
theorem in_X2_longest_X1 : ∀ w ∈ u_ws RX1 TX1 4, w ∈ wsX2_longest := by decide +kernel
theorem ml73_X2_longest : Cond.methodLink RX2 73 Lib.Math.max.name ∈ wsX2_longest := by decide +kernel
theorem ms_max_X2_longest : Cond.static Lib.Math.max.name ∈ wsX2_longest := by decide +kernel
theorem mi_X2_longest : Cond.initialized "java/lang/Math" ∈ wsX2_longest := by decide +kernel
theorem mc_max_X2_longest : Cond.code Lib.Math.max.name Lib.Math.max.code 2 (some .int) ∈ wsX2_longest := by decide +kernel
def b_X2_longest_4 (u : z_M) : (Int32 × Int32) → ((Int32 × Int32) → Option (Int32)) → (Int32 → Option (Int32)) → Option (Int32) := fun q kb kx =>
  if (z_gI u 86 0) ≤ q.2 then (kx q.1) else (z_gd (z_inb q.2 12) (z_gd (z_isCh (z_gI u 87 q.2.toNatClampNeg).toNatClampNeg) (z_lt ((if q.1 < (z_gI u ((z_gI u 87 q.2.toNatClampNeg).toNatClampNeg) 0) then z_gI u ((z_gI u 87 q.2.toNatClampNeg).toNatClampNeg) 0 else q.1)) (fun v4 => kb (v4, q.2 + 1)))))
def f_X2_longest (u : z_M) : Option (Int32) :=
  z_lp (b_X2_longest_4 u) z_F (0, 0) (fun t5 => some t5)
set_option maxRecDepth 20000 in
set_option maxHeartbeats 4000000 in
theorem wb_X2_longest_4 {p : Program} {l : Launch} {e : Env} {R : Room} {s : State} {m : MethodId} {args : Array Value} {below : List Frame} {meth : Method} {c : Code} {g : z_G} {u : z_M} {res : Int32} (hR : R = z_rm 2) (X : z_X p R s m args meth c cX2_longest 3 RX2 wsX2_longest (some .int) g z_shC)  (q : Int32 × Int32) (kb : (Int32 × Int32) → Option (Int32)) (kx : Int32 → Option (Int32)) (hkb : ∀ q, kb q = some res → z_V p l e R s m args below meth c 3 g z_shC (MQ below (z_Qc g z_shC (fun v u' => v = some (.int res) ∧ u' = u)) args s 0 0 (z_A g z_shC)) 4 [(0, .ref (z_ad g 86)), (1, .int q.1), (2, .int q.2)] [] u) (hkx : ∀ t, kx t = some res → z_V p l e R s m args below meth c 3 g z_shC (MQ below (z_Qc g z_shC (fun v u' => v = some (.int res) ∧ u' = u)) args s 0 0 (z_A g z_shC)) 32 [(1, .int t)] [] u) (h : b_X2_longest_4 u q kb kx = some res) : z_V p l e R s m args below meth c 3 g z_shC (MQ below (z_Qc g z_shC (fun v u' => v = some (.int res) ∧ u' = u)) args s 0 0 (z_A g z_shC)) 4 [(0, .ref (z_ad g 86)), (1, .int q.1), (2, .int q.2)] [] u := by
  unfold b_X2_longest_4 at h
  refine z_iload_n X 2 dX2_longest_4 rfl rfl (z_aload_n X 0 dX2_longest_5 rfl rfl (z_getI X (k0 := 0) z_c86 rfl in_X2_longest_X2 (by decide) rfl rfl lk_X2_longest_22 dX2_longest_6 (z_icmp_ge X 32 dX2_longest_9 (by decide) (fun c1 => ?_) (fun c1 => ?_))))
  · replace h := z_ip c1 h
    refine z_sub [1] [(1, .int q.1)] rfl ?_
    exact hkx q.1 h
  · replace h := z_in c1 h
    obtain ⟨b2, h⟩ := z_gs h
    obtain ⟨b3, h⟩ := z_gs h
    obtain ⟨v4, ev4, h⟩ := z_ls h
    refine z_iload_n X 1 dX2_longest_12 rfl rfl (z_aload_n X 0 dX2_longest_13 rfl rfl (z_getR X (k0 := 1) z_c86 rfl in_X2_longest_X2 (by decide) rfl rfl lk_X2_longest_11 dX2_longest_14 (z_iload_n X 2 dX2_longest_17 rfl rfl (z_aalC X z_c87 (z_inS b2) dX2_longest_18 (z_getI X (k0 := 0) (z_ch (z_ch_of b3)) rfl in_X2_longest_X1 (by decide) rfl rfl lk_X2_longest_70 dX2_longest_19 (z_mmax X ml73_X2_longest ms_max_X2_longest mi_X2_longest mc_max_X2_longest (z_le3 hR (by decide)) (z_le4 hR (by decide) (Nat.le_of_ble_eq_true rfl) (by decide)) dX2_longest_22 (z_ti ev4 (z_istore_n X [(1, .int v4), (0, .ref (z_ad g 86)), (2, .int q.2)] dX2_longest_25 rfl (by decide) rfl (z_iinc X (v := q.2 + 1) 2 [(2, .int (q.2 + 1)), (1, .int v4), (0, .ref (z_ad g 86))] dX2_longest_26 rfl rfl (by decide) rfl (z_goto X 4 dX2_longest_29 (by decide) (z_sub [2, 1, 0] [(0, .ref (z_ad g 86)), (1, .int v4), (2, .int (q.2 + 1))] rfl ?_)))))))))))
    exact hkb (v4, q.2 + 1) h
set_option maxRecDepth 20000 in
set_option maxHeartbeats 4000000 in
theorem w_X2_longest (l : Launch) (g : z_G)  (u : z_M) {res : Int32} (h : f_X2_longest u = some res) : z_C l g z_shC yX2_longest wsX2_longest 2 [.ref (z_ad g 86)] u (fun v u' => v = some (.int res) ∧ u' = u) := by
  refine z_C.mk (lv := [(0, .ref (z_ad g 86))]) (cc := cX2_longest) (nL := 3) (rt := (some .int)) rfl (by decide) (Nat.le_of_ble_eq_true rfl) rfl (fun p e R s m args below meth c hR X => ?_)
  unfold f_X2_longest at h
  refine z_iconst X (v := 0) dX2_longest_0 (by decide) (z_istore_n X [(1, .int 0), (0, .ref (z_ad g 86))] dX2_longest_1 rfl (by decide) rfl (z_iconst X (v := 0) dX2_longest_2 (by decide) (z_istore_n X [(2, .int 0), (1, .int 0), (0, .ref (z_ad g 86))] dX2_longest_3 rfl (by decide) rfl (z_sub [2, 1, 0] [(0, .ref (z_ad g 86)), (1, .int 0), (2, .int 0)] rfl ?_))))
  have hw := z_lp_w (fun q9 kb9 kx9 h1 h2 h3 => wb_X2_longest_4 (l := l) (e := e) (below := below) (u := u) hR X q9 kb9 kx9 h1 h2 h3) z_F _ _ h
  refine hw (fun t5 h => ?_)
  refine z_iload_n X 0 dX2_longest_32 rfl rfl ?_
  cases h; exact z_iret X rfl dX2_longest_33 ⟨rfl, rfl⟩

theorem lk_X2_shortest_22 : (Cond.fieldLink RX2 22 RX2 (TX2 0).2.1 (TX2 0).2.2.1) ∈ wsX2_shortest := by decide +kernel
theorem in_X2_shortest_X2 : ∀ w ∈ u_ws RX2 TX2 3, w ∈ wsX2_shortest := by decide +kernel
theorem lk_X2_shortest_11 : (Cond.fieldLink RX2 11 RX2 (TX2 1).2.1 (TX2 1).2.2.1) ∈ wsX2_shortest := by decide +kernel
theorem lk_X2_shortest_70 : (Cond.fieldLink RX2 70 RX1 (TX1 0).2.1 (TX1 0).2.2.1) ∈ wsX2_shortest := by decide +kernel
theorem in_X2_shortest_X1 : ∀ w ∈ u_ws RX1 TX1 4, w ∈ wsX2_shortest := by decide +kernel
theorem ml78_X2_shortest : Cond.methodLink RX2 78 Lib.Math.min.name ∈ wsX2_shortest := by decide +kernel
theorem ms_min_X2_shortest : Cond.static Lib.Math.min.name ∈ wsX2_shortest := by decide +kernel
theorem mi_X2_shortest : Cond.initialized "java/lang/Math" ∈ wsX2_shortest := by decide +kernel
theorem mc_min_X2_shortest : Cond.code Lib.Math.min.name Lib.Math.min.code 2 (some .int) ∈ wsX2_shortest := by decide +kernel
def b_X2_shortest_5 (u : z_M) : (Int32 × Int32) → ((Int32 × Int32) → Option (Int32)) → (Int32 → Option (Int32)) → Option (Int32) := fun q kb kx =>
  if (z_gI u 86 0) ≤ q.2 then (kx q.1) else (z_gd (z_inb q.2 12) (z_gd (z_isCh (z_gI u 87 q.2.toNatClampNeg).toNatClampNeg) (z_lt ((if (z_gI u ((z_gI u 87 q.2.toNatClampNeg).toNatClampNeg) 0) < q.1 then z_gI u ((z_gI u 87 q.2.toNatClampNeg).toNatClampNeg) 0 else q.1)) (fun v4 => kb (v4, q.2 + 1)))))
def f_X2_shortest (u : z_M) : Option (Int32) :=
  z_lp (b_X2_shortest_5 u) z_F (8, 0) (fun t5 => some t5)
set_option maxRecDepth 20000 in
set_option maxHeartbeats 4000000 in
theorem wb_X2_shortest_5 {p : Program} {l : Launch} {e : Env} {R : Room} {s : State} {m : MethodId} {args : Array Value} {below : List Frame} {meth : Method} {c : Code} {g : z_G} {u : z_M} {res : Int32} (hR : R = z_rm 2) (X : z_X p R s m args meth c cX2_shortest 3 RX2 wsX2_shortest (some .int) g z_shC)  (q : Int32 × Int32) (kb : (Int32 × Int32) → Option (Int32)) (kx : Int32 → Option (Int32)) (hkb : ∀ q, kb q = some res → z_V p l e R s m args below meth c 3 g z_shC (MQ below (z_Qc g z_shC (fun v u' => v = some (.int res) ∧ u' = u)) args s 0 0 (z_A g z_shC)) 5 [(0, .ref (z_ad g 86)), (1, .int q.1), (2, .int q.2)] [] u) (hkx : ∀ t, kx t = some res → z_V p l e R s m args below meth c 3 g z_shC (MQ below (z_Qc g z_shC (fun v u' => v = some (.int res) ∧ u' = u)) args s 0 0 (z_A g z_shC)) 33 [(1, .int t)] [] u) (h : b_X2_shortest_5 u q kb kx = some res) : z_V p l e R s m args below meth c 3 g z_shC (MQ below (z_Qc g z_shC (fun v u' => v = some (.int res) ∧ u' = u)) args s 0 0 (z_A g z_shC)) 5 [(0, .ref (z_ad g 86)), (1, .int q.1), (2, .int q.2)] [] u := by
  unfold b_X2_shortest_5 at h
  refine z_iload_n X 2 dX2_shortest_5 rfl rfl (z_aload_n X 0 dX2_shortest_6 rfl rfl (z_getI X (k0 := 0) z_c86 rfl in_X2_shortest_X2 (by decide) rfl rfl lk_X2_shortest_22 dX2_shortest_7 (z_icmp_ge X 33 dX2_shortest_10 (by decide) (fun c1 => ?_) (fun c1 => ?_))))
  · replace h := z_ip c1 h
    refine z_sub [1] [(1, .int q.1)] rfl ?_
    exact hkx q.1 h
  · replace h := z_in c1 h
    obtain ⟨b2, h⟩ := z_gs h
    obtain ⟨b3, h⟩ := z_gs h
    obtain ⟨v4, ev4, h⟩ := z_ls h
    refine z_iload_n X 1 dX2_shortest_13 rfl rfl (z_aload_n X 0 dX2_shortest_14 rfl rfl (z_getR X (k0 := 1) z_c86 rfl in_X2_shortest_X2 (by decide) rfl rfl lk_X2_shortest_11 dX2_shortest_15 (z_iload_n X 2 dX2_shortest_18 rfl rfl (z_aalC X z_c87 (z_inS b2) dX2_shortest_19 (z_getI X (k0 := 0) (z_ch (z_ch_of b3)) rfl in_X2_shortest_X1 (by decide) rfl rfl lk_X2_shortest_70 dX2_shortest_20 (z_mmin X ml78_X2_shortest ms_min_X2_shortest mi_X2_shortest mc_min_X2_shortest (z_le3 hR (by decide)) (z_le4 hR (by decide) (Nat.le_of_ble_eq_true rfl) (by decide)) dX2_shortest_23 (z_ti ev4 (z_istore_n X [(1, .int v4), (0, .ref (z_ad g 86)), (2, .int q.2)] dX2_shortest_26 rfl (by decide) rfl (z_iinc X (v := q.2 + 1) 2 [(2, .int (q.2 + 1)), (1, .int v4), (0, .ref (z_ad g 86))] dX2_shortest_27 rfl rfl (by decide) rfl (z_goto X 5 dX2_shortest_30 (by decide) (z_sub [2, 1, 0] [(0, .ref (z_ad g 86)), (1, .int v4), (2, .int (q.2 + 1))] rfl ?_)))))))))))
    exact hkb (v4, q.2 + 1) h
set_option maxRecDepth 20000 in
set_option maxHeartbeats 4000000 in
theorem w_X2_shortest (l : Launch) (g : z_G)  (u : z_M) {res : Int32} (h : f_X2_shortest u = some res) : z_C l g z_shC yX2_shortest wsX2_shortest 2 [.ref (z_ad g 86)] u (fun v u' => v = some (.int res) ∧ u' = u) := by
  refine z_C.mk (lv := [(0, .ref (z_ad g 86))]) (cc := cX2_shortest) (nL := 3) (rt := (some .int)) rfl (by decide) (Nat.le_of_ble_eq_true rfl) rfl (fun p e R s m args below meth c hR X => ?_)
  unfold f_X2_shortest at h
  refine z_bipush X (v := 8) dX2_shortest_0 (by decide) (z_istore_n X [(1, .int 8), (0, .ref (z_ad g 86))] dX2_shortest_2 rfl (by decide) rfl (z_iconst X (v := 0) dX2_shortest_3 (by decide) (z_istore_n X [(2, .int 0), (1, .int 8), (0, .ref (z_ad g 86))] dX2_shortest_4 rfl (by decide) rfl (z_sub [2, 1, 0] [(0, .ref (z_ad g 86)), (1, .int 8), (2, .int 0)] rfl ?_))))
  have hw := z_lp_w (fun q9 kb9 kx9 h1 h2 h3 => wb_X2_shortest_5 (l := l) (e := e) (below := below) (u := u) hR X q9 kb9 kx9 h1 h2 h3) z_F _ _ h
  refine hw (fun t5 h => ?_)
  refine z_iload_n X 0 dX2_shortest_33 rfl rfl ?_
  cases h; exact z_iret X rfl dX2_shortest_34 ⟨rfl, rfl⟩

theorem lk_X2_isSide_11 : (Cond.fieldLink RX2 11 RX2 (TX2 1).2.1 (TX2 1).2.2.1) ∈ wsX2_isSide := by decide +kernel
theorem in_X2_isSide_X2 : ∀ w ∈ u_ws RX2 TX2 3, w ∈ wsX2_isSide := by decide +kernel
theorem lk_X2_isSide_84 : (Cond.fieldLink RX2 84 RX1 (TX1 1).2.1 (TX1 1).2.2.1) ∈ wsX2_isSide := by decide +kernel
theorem in_X2_isSide_X1 : ∀ w ∈ u_ws RX1 TX1 4, w ∈ wsX2_isSide := by decide +kernel
def f_X2_isSide (a1 : Int32) (a2 : Int32) (u : z_M) : Option (Int32) :=
  z_gd (z_inb a1 12) (z_gd (z_isCh (z_gI u 87 a1.toNatClampNeg).toNatClampNeg) (z_gd (z_inb a2 12) (z_gd (z_isCh (z_gI u 87 a2.toNatClampNeg).toNatClampNeg) (if (z_bitc ((z_gI u ((z_gI u 87 a1.toNatClampNeg).toNatClampNeg) 1) &&& ((z_gI u ((z_gI u 87 a2.toNatClampNeg).toNatClampNeg) 1) ^^^ (-1)))) = 1 then (some 1) else (some 0)))))
set_option maxRecDepth 20000 in
set_option maxHeartbeats 4000000 in
theorem w_X2_isSide (l : Launch) (g : z_G) (a1 : Int32) (a2 : Int32) (u : z_M) {res : Int32} (h : f_X2_isSide a1 a2 u = some res) : z_C l g z_shC yX2_isSide wsX2_isSide 2 [.ref (z_ad g 86), .int a1, .int a2] u (fun v u' => v = some (.int res) ∧ u' = u) := by
  refine z_C.mk (lv := [(0, .ref (z_ad g 86)), (1, .int a1), (2, .int a2)]) (cc := cX2_isSide) (nL := 3) (rt := (some .boolean)) rfl (by decide) (Nat.le_of_ble_eq_true rfl) rfl (fun p e R s m args below meth c hR X => ?_)
  unfold f_X2_isSide at h
  obtain ⟨b1, h⟩ := z_gs h
  obtain ⟨b2, h⟩ := z_gs h
  obtain ⟨b3, h⟩ := z_gs h
  obtain ⟨b4, h⟩ := z_gs h
  refine z_aload_n X 0 dX2_isSide_0 rfl rfl (z_getR X (k0 := 1) z_c86 rfl in_X2_isSide_X2 (by decide) rfl rfl lk_X2_isSide_11 dX2_isSide_1 (z_iload_n X 1 dX2_isSide_4 rfl rfl (z_aalC X z_c87 (z_inS b1) dX2_isSide_5 (z_getI X (k0 := 1) (z_ch (z_ch_of b2)) rfl in_X2_isSide_X1 (by decide) rfl rfl lk_X2_isSide_84 dX2_isSide_6 (z_aload_n X 0 dX2_isSide_9 rfl rfl (z_getR X (k0 := 1) z_c86 rfl in_X2_isSide_X2 (by decide) rfl rfl lk_X2_isSide_11 dX2_isSide_10 (z_iload_n X 2 dX2_isSide_13 rfl rfl (z_aalC X z_c87 (z_inS b3) dX2_isSide_14 (z_getI X (k0 := 1) (z_ch (z_ch_of b4)) rfl in_X2_isSide_X1 (by decide) rfl rfl lk_X2_isSide_84 dX2_isSide_15 (z_iconst X (v := (-1)) dX2_isSide_18 (by decide) (z_ixor X dX2_isSide_19 (z_iand X dX2_isSide_20 (z_callSi X (r := z_bitc ((z_gI u ((z_gI u 87 a1.toNatClampNeg).toNatClampNeg) 1) &&& ((z_gI u ((z_gI u 87 a2.toNatClampNeg).toNatClampNeg) 1) ^^^ (-1)))) (u1 := u) [.int ((z_gI u ((z_gI u 87 a1.toNatClampNeg).toNatClampNeg) 1) &&& ((z_gI u ((z_gI u 87 a2.toNatClampNeg).toNatClampNeg) 1) ^^^ (-1)))] [] (w_bitc l g z_shC ((z_gI u ((z_gI u 87 a1.toNatClampNeg).toNatClampNeg) 1) &&& ((z_gI u ((z_gI u 87 a2.toNatClampNeg).toNatClampNeg) 1) ^^^ (-1))) u) gX2_isSide_J6_bitCount_0f7a4 hy_J6_bitCount_0f7a4.2 rfl (z_le1 hR (by decide)) (z_le2 hR (by decide) (by decide)) (Nat.le_of_ble_eq_true rfl) dX2_isSide_21 (z_iconst X (v := 1) dX2_isSide_24 (by decide) (z_icmp_ne X 32 dX2_isSide_25 (by decide) (fun c5 => ?_) (fun c5 => ?_))))))))))))))))
  · replace h := z_in c5 h
    refine z_iconst X (v := 0) dX2_isSide_32 (by decide) ?_
    cases h; exact z_zret X rfl rfl dX2_isSide_33 ⟨rfl, rfl⟩
  · replace h := z_ip c5 h
    refine z_iconst X (v := 1) dX2_isSide_28 (by decide) (z_goto X 33 dX2_isSide_29 (by decide) ?_)
    cases h; exact z_zret X rfl rfl dX2_isSide_33 ⟨rfl, rfl⟩

theorem lk_X2_hasSide_11 : (Cond.fieldLink RX2 11 RX2 (TX2 1).2.1 (TX2 1).2.2.1) ∈ wsX2_hasSide := by decide +kernel
theorem in_X2_hasSide_X2 : ∀ w ∈ u_ws RX2 TX2 3, w ∈ wsX2_hasSide := by decide +kernel
theorem lk_X2_hasSide_84 : (Cond.fieldLink RX2 84 RX1 (TX1 1).2.1 (TX1 1).2.2.1) ∈ wsX2_hasSide := by decide +kernel
theorem in_X2_hasSide_X1 : ∀ w ∈ u_ws RX1 TX1 4, w ∈ wsX2_hasSide := by decide +kernel
theorem hy_X2_isSide : yX2_isSide.cls = RX2 ∧ yX2_isSide.cls ≠ "java/lang/invoke/MethodHandle" ∧ yX2_isSide.cls ≠ "java/lang/invoke/VarHandle" ∧ (parseMethodDescriptor yX2_isSide.desc).map (fun d => d.parameters.length) = some 2 := by decide +kernel
def b_X2_hasSide_2 (x1 : Int32) (x2 : Int32) (u : z_M) : Int32 → (Int32 → Option (Int32)) → (Unit → Option (Int32)) → Option (Int32) := fun q kb kx =>
  if x1 ≤ q then (kx ()) else (Option.bind (f_X2_isSide x1 q u) (fun r2 => if r2 = 0 then (kb (q + 1)) else (z_gd (z_inb q 12) (z_gd (z_isCh (z_gI u 87 q.toNatClampNeg).toNatClampNeg) (if (x2 &&& ((z_gI u ((z_gI u 87 q.toNatClampNeg).toNatClampNeg) 1) ^^^ (-1))) = 0 then (some 1) else (kb (q + 1)))))))
def f_X2_hasSide (a1 : Int32) (a2 : Int32) (u : z_M) : Option (Int32) :=
  z_lp (b_X2_hasSide_2 a1 a2 u) z_F 0 (fun t7 => some 0)
set_option maxRecDepth 20000 in
set_option maxHeartbeats 4000000 in
theorem wb_X2_hasSide_2 {p : Program} {l : Launch} {e : Env} {R : Room} {s : State} {m : MethodId} {args : Array Value} {below : List Frame} {meth : Method} {c : Code} {g : z_G} {u : z_M} {res : Int32} (hR : R = z_rm 3) (X : z_X p R s m args meth c cX2_hasSide 4 RX2 wsX2_hasSide (some .boolean) g z_shC) (x1 : Int32) (x2 : Int32) (q : Int32) (kb : Int32 → Option (Int32)) (kx : Unit → Option (Int32)) (hkb : ∀ q, kb q = some res → z_V p l e R s m args below meth c 4 g z_shC (MQ below (z_Qc g z_shC (fun v u' => v = some (.int res) ∧ u' = u)) args s 0 0 (z_A g z_shC)) 2 [(0, .ref (z_ad g 86)), (1, .int x1), (2, .int x2), (3, .int q)] [] u) (hkx : ∀ t, kx t = some res → z_V p l e R s m args below meth c 4 g z_shC (MQ below (z_Qc g z_shC (fun v u' => v = some (.int res) ∧ u' = u)) args s 0 0 (z_A g z_shC)) 40 [] [] u) (h : b_X2_hasSide_2 x1 x2 u q kb kx = some res) : z_V p l e R s m args below meth c 4 g z_shC (MQ below (z_Qc g z_shC (fun v u' => v = some (.int res) ∧ u' = u)) args s 0 0 (z_A g z_shC)) 2 [(0, .ref (z_ad g 86)), (1, .int x1), (2, .int x2), (3, .int q)] [] u := by
  unfold b_X2_hasSide_2 at h
  refine z_iload_n X 3 dX2_hasSide_2 rfl rfl (z_iload_n X 1 dX2_hasSide_3 rfl rfl (z_icmp_ge X 40 dX2_hasSide_4 (by decide) (fun c1 => ?_) (fun c1 => ?_)))
  · replace h := z_ip c1 h
    refine z_sub [] [] rfl ?_
    exact hkx () h
  · replace h := z_in c1 h
    obtain ⟨r2, er2, h⟩ := z_bs h
    refine z_aload_n X 0 dX2_hasSide_7 rfl rfl (z_iload_n X 1 dX2_hasSide_8 rfl rfl (z_iload_n X 3 dX2_hasSide_9 rfl rfl (z_callVi X (r := r2) (u1 := u) [.int x1, .int q] [] (w_X2_isSide l g x1 q u er2) z_c86 rfl gX2_hasSide_X2_isSide hy_X2_isSide rfl (z_le1 hR (by decide)) (z_le2 hR (by decide) (by decide)) (Nat.le_of_ble_eq_true rfl) dX2_hasSide_10 (z_if_eq X 34 dX2_hasSide_13 (by decide) (fun c3 => ?_) (fun c3 => ?_)))))
    · replace h := z_ip c3 h
      refine z_iinc X (v := q + 1) 3 [(3, .int (q + 1)), (0, .ref (z_ad g 86)), (1, .int x1), (2, .int x2)] dX2_hasSide_34 rfl rfl (by decide) rfl (z_goto X 2 dX2_hasSide_37 (by decide) (z_sub [1, 2, 3, 0] [(0, .ref (z_ad g 86)), (1, .int x1), (2, .int x2), (3, .int (q + 1))] rfl ?_))
      exact hkb (q + 1) h
    · replace h := z_in c3 h
      obtain ⟨b4, h⟩ := z_gs h
      obtain ⟨b5, h⟩ := z_gs h
      refine z_iload_n X 2 dX2_hasSide_16 rfl rfl (z_aload_n X 0 dX2_hasSide_17 rfl rfl (z_getR X (k0 := 1) z_c86 rfl in_X2_hasSide_X2 (by decide) rfl rfl lk_X2_hasSide_11 dX2_hasSide_18 (z_iload_n X 3 dX2_hasSide_21 rfl rfl (z_aalC X z_c87 (z_inS b4) dX2_hasSide_22 (z_getI X (k0 := 1) (z_ch (z_ch_of b5)) rfl in_X2_hasSide_X1 (by decide) rfl rfl lk_X2_hasSide_84 dX2_hasSide_23 (z_iconst X (v := (-1)) dX2_hasSide_26 (by decide) (z_ixor X dX2_hasSide_27 (z_iand X dX2_hasSide_28 (z_if_ne X 34 dX2_hasSide_29 (by decide) (fun c6 => ?_) (fun c6 => ?_))))))))))
      · replace h := z_in c6 h
        refine z_iinc X (v := q + 1) 3 [(3, .int (q + 1)), (0, .ref (z_ad g 86)), (1, .int x1), (2, .int x2)] dX2_hasSide_34 rfl rfl (by decide) rfl (z_goto X 2 dX2_hasSide_37 (by decide) (z_sub [1, 2, 3, 0] [(0, .ref (z_ad g 86)), (1, .int x1), (2, .int x2), (3, .int (q + 1))] rfl ?_))
        exact hkb (q + 1) h
      · replace h := z_ip c6 h
        refine z_iconst X (v := 1) dX2_hasSide_32 (by decide) ?_
        cases h; exact z_zret X rfl rfl dX2_hasSide_33 ⟨rfl, rfl⟩
set_option maxRecDepth 20000 in
set_option maxHeartbeats 4000000 in
theorem w_X2_hasSide (l : Launch) (g : z_G) (a1 : Int32) (a2 : Int32) (u : z_M) {res : Int32} (h : f_X2_hasSide a1 a2 u = some res) : z_C l g z_shC yX2_hasSide wsX2_hasSide 3 [.ref (z_ad g 86), .int a1, .int a2] u (fun v u' => v = some (.int res) ∧ u' = u) := by
  refine z_C.mk (lv := [(0, .ref (z_ad g 86)), (1, .int a1), (2, .int a2)]) (cc := cX2_hasSide) (nL := 4) (rt := (some .boolean)) rfl (by decide) (Nat.le_of_ble_eq_true rfl) rfl (fun p e R s m args below meth c hR X => ?_)
  unfold f_X2_hasSide at h
  refine z_iconst X (v := 0) dX2_hasSide_0 (by decide) (z_istore_n X [(3, .int 0), (0, .ref (z_ad g 86)), (1, .int a1), (2, .int a2)] dX2_hasSide_1 rfl (by decide) rfl (z_sub [1, 2, 3, 0] [(0, .ref (z_ad g 86)), (1, .int a1), (2, .int a2), (3, .int 0)] rfl ?_))
  have hw := z_lp_w (fun q9 kb9 kx9 h1 h2 h3 => wb_X2_hasSide_2 (l := l) (e := e) (below := below) (u := u) hR X a1 a2 q9 kb9 kx9 h1 h2 h3) z_F _ _ h
  refine hw (fun t7 h => ?_)
  refine z_iconst X (v := 0) dX2_hasSide_40 (by decide) ?_
  cases h; exact z_zret X rfl rfl dX2_hasSide_41 ⟨rfl, rfl⟩

theorem lk_X2_isShell_11 : (Cond.fieldLink RX2 11 RX2 (TX2 1).2.1 (TX2 1).2.2.1) ∈ wsX2_isShell := by decide +kernel
theorem in_X2_isShell_X2 : ∀ w ∈ u_ws RX2 TX2 3, w ∈ wsX2_isShell := by decide +kernel
theorem lk_X2_isShell_84 : (Cond.fieldLink RX2 84 RX1 (TX1 1).2.1 (TX1 1).2.2.1) ∈ wsX2_isShell := by decide +kernel
theorem in_X2_isShell_X1 : ∀ w ∈ u_ws RX1 TX1 4, w ∈ wsX2_isShell := by decide +kernel
theorem hy_X2_hasSide : yX2_hasSide.cls = RX2 ∧ yX2_hasSide.cls ≠ "java/lang/invoke/MethodHandle" ∧ yX2_hasSide.cls ≠ "java/lang/invoke/VarHandle" ∧ (parseMethodDescriptor yX2_hasSide.desc).map (fun d => d.parameters.length) = some 2 := by decide +kernel
def b_X2_isShell_2 (x1 : Int32) (u : z_M) : Int32 → (Int32 → Option (Int32)) → (Unit → Option (Int32)) → Option (Int32) := fun q kb kx =>
  if x1 ≤ q then (kx ()) else (z_gd (z_inb q 12) (z_gd (z_isCh (z_gI u 87 q.toNatClampNeg).toNatClampNeg) (z_gd (z_inb x1 12) (z_gd (z_isCh (z_gI u 87 x1.toNatClampNeg).toNatClampNeg) (Option.bind (f_X2_hasSide x1 ((z_gI u ((z_gI u 87 q.toNatClampNeg).toNatClampNeg) 1) &&& (z_gI u ((z_gI u 87 x1.toNatClampNeg).toNatClampNeg) 1)) u) (fun r6 => if r6 = 0 then (some 0) else (kb (q + 1))))))))
def f_X2_isShell (a1 : Int32) (u : z_M) : Option (Int32) :=
  z_lp (b_X2_isShell_2 a1 u) z_F 0 (fun t8 => some 1)
set_option maxRecDepth 20000 in
set_option maxHeartbeats 4000000 in
theorem wb_X2_isShell_2 {p : Program} {l : Launch} {e : Env} {R : Room} {s : State} {m : MethodId} {args : Array Value} {below : List Frame} {meth : Method} {c : Code} {g : z_G} {u : z_M} {res : Int32} (hR : R = z_rm 4) (X : z_X p R s m args meth c cX2_isShell 3 RX2 wsX2_isShell (some .boolean) g z_shC) (x1 : Int32) (q : Int32) (kb : Int32 → Option (Int32)) (kx : Unit → Option (Int32)) (hkb : ∀ q, kb q = some res → z_V p l e R s m args below meth c 3 g z_shC (MQ below (z_Qc g z_shC (fun v u' => v = some (.int res) ∧ u' = u)) args s 0 0 (z_A g z_shC)) 2 [(0, .ref (z_ad g 86)), (1, .int x1), (2, .int q)] [] u) (hkx : ∀ t, kx t = some res → z_V p l e R s m args below meth c 3 g z_shC (MQ below (z_Qc g z_shC (fun v u' => v = some (.int res) ∧ u' = u)) args s 0 0 (z_A g z_shC)) 42 [] [] u) (h : b_X2_isShell_2 x1 u q kb kx = some res) : z_V p l e R s m args below meth c 3 g z_shC (MQ below (z_Qc g z_shC (fun v u' => v = some (.int res) ∧ u' = u)) args s 0 0 (z_A g z_shC)) 2 [(0, .ref (z_ad g 86)), (1, .int x1), (2, .int q)] [] u := by
  unfold b_X2_isShell_2 at h
  refine z_iload_n X 2 dX2_isShell_2 rfl rfl (z_iload_n X 1 dX2_isShell_3 rfl rfl (z_icmp_ge X 42 dX2_isShell_4 (by decide) (fun c1 => ?_) (fun c1 => ?_)))
  · replace h := z_ip c1 h
    refine z_sub [] [] rfl ?_
    exact hkx () h
  · replace h := z_in c1 h
    obtain ⟨b2, h⟩ := z_gs h
    obtain ⟨b3, h⟩ := z_gs h
    obtain ⟨b4, h⟩ := z_gs h
    obtain ⟨b5, h⟩ := z_gs h
    obtain ⟨r6, er6, h⟩ := z_bs h
    refine z_aload_n X 0 dX2_isShell_7 rfl rfl (z_iload_n X 1 dX2_isShell_8 rfl rfl (z_aload_n X 0 dX2_isShell_9 rfl rfl (z_getR X (k0 := 1) z_c86 rfl in_X2_isShell_X2 (by decide) rfl rfl lk_X2_isShell_11 dX2_isShell_10 (z_iload_n X 2 dX2_isShell_13 rfl rfl (z_aalC X z_c87 (z_inS b2) dX2_isShell_14 (z_getI X (k0 := 1) (z_ch (z_ch_of b3)) rfl in_X2_isShell_X1 (by decide) rfl rfl lk_X2_isShell_84 dX2_isShell_15 (z_aload_n X 0 dX2_isShell_18 rfl rfl (z_getR X (k0 := 1) z_c86 rfl in_X2_isShell_X2 (by decide) rfl rfl lk_X2_isShell_11 dX2_isShell_19 (z_iload_n X 1 dX2_isShell_22 rfl rfl (z_aalC X z_c87 (z_inS b4) dX2_isShell_23 (z_getI X (k0 := 1) (z_ch (z_ch_of b5)) rfl in_X2_isShell_X1 (by decide) rfl rfl lk_X2_isShell_84 dX2_isShell_24 (z_iand X dX2_isShell_27 (z_callVi X (r := r6) (u1 := u) [.int x1, .int ((z_gI u ((z_gI u 87 q.toNatClampNeg).toNatClampNeg) 1) &&& (z_gI u ((z_gI u 87 x1.toNatClampNeg).toNatClampNeg) 1))] [] (w_X2_hasSide l g x1 ((z_gI u ((z_gI u 87 q.toNatClampNeg).toNatClampNeg) 1) &&& (z_gI u ((z_gI u 87 x1.toNatClampNeg).toNatClampNeg) 1)) u er6) z_c86 rfl gX2_isShell_X2_hasSide hy_X2_hasSide rfl (z_le1 hR (by decide)) (z_le2 hR (by decide) (by decide)) (Nat.le_of_ble_eq_true rfl) dX2_isShell_28 (z_if_ne X 36 dX2_isShell_31 (by decide) (fun c7 => ?_) (fun c7 => ?_)))))))))))))))
    · replace h := z_in c7 h
      refine z_iinc X (v := q + 1) 2 [(2, .int (q + 1)), (0, .ref (z_ad g 86)), (1, .int x1)] dX2_isShell_36 rfl rfl (by decide) rfl (z_goto X 2 dX2_isShell_39 (by decide) (z_sub [1, 2, 0] [(0, .ref (z_ad g 86)), (1, .int x1), (2, .int (q + 1))] rfl ?_))
      exact hkb (q + 1) h
    · replace h := z_ip c7 h
      refine z_iconst X (v := 0) dX2_isShell_34 (by decide) ?_
      cases h; exact z_zret X rfl rfl dX2_isShell_35 ⟨rfl, rfl⟩
set_option maxRecDepth 20000 in
set_option maxHeartbeats 4000000 in
theorem w_X2_isShell (l : Launch) (g : z_G) (a1 : Int32) (u : z_M) {res : Int32} (h : f_X2_isShell a1 u = some res) : z_C l g z_shC yX2_isShell wsX2_isShell 4 [.ref (z_ad g 86), .int a1] u (fun v u' => v = some (.int res) ∧ u' = u) := by
  refine z_C.mk (lv := [(0, .ref (z_ad g 86)), (1, .int a1)]) (cc := cX2_isShell) (nL := 3) (rt := (some .boolean)) rfl (by decide) (Nat.le_of_ble_eq_true rfl) rfl (fun p e R s m args below meth c hR X => ?_)
  unfold f_X2_isShell at h
  refine z_iconst X (v := 0) dX2_isShell_0 (by decide) (z_istore_n X [(2, .int 0), (0, .ref (z_ad g 86)), (1, .int a1)] dX2_isShell_1 rfl (by decide) rfl (z_sub [1, 2, 0] [(0, .ref (z_ad g 86)), (1, .int a1), (2, .int 0)] rfl ?_))
  have hw := z_lp_w (fun q9 kb9 kx9 h1 h2 h3 => wb_X2_isShell_2 (l := l) (e := e) (below := below) (u := u) hR X a1 q9 kb9 kx9 h1 h2 h3) z_F _ _ h
  refine hw (fun t8 h => ?_)
  refine z_iconst X (v := 1) dX2_isShell_42 (by decide) ?_
  cases h; exact z_zret X rfl rfl dX2_isShell_43 ⟨rfl, rfl⟩

theorem lk_X2_creaseSet_11 : (Cond.fieldLink RX2 11 RX2 (TX2 1).2.1 (TX2 1).2.2.1) ∈ wsX2_creaseSet := by decide +kernel
theorem in_X2_creaseSet_X2 : ∀ w ∈ u_ws RX2 TX2 3, w ∈ wsX2_creaseSet := by decide +kernel
theorem lk_X2_creaseSet_84 : (Cond.fieldLink RX2 84 RX1 (TX1 1).2.1 (TX1 1).2.2.1) ∈ wsX2_creaseSet := by decide +kernel
theorem in_X2_creaseSet_X1 : ∀ w ∈ u_ws RX1 TX1 4, w ∈ wsX2_creaseSet := by decide +kernel
def b_X2_creaseSet_4 (x1 : Int32) (u : z_M) : (Int32 × Int32) → ((Int32 × Int32) → Option (Int32)) → (Int32 → Option (Int32)) → Option (Int32) := fun q kb kx =>
  if x1 ≤ q.2 then (kx q.1) else (Option.bind (f_X2_isSide x1 q.2 u) (fun r2 => if r2 = 0 then (kb (q.1, q.2 + 1)) else (z_gd (z_inb x1 12) (z_gd (z_isCh (z_gI u 87 x1.toNatClampNeg).toNatClampNeg) (z_gd (z_inb q.2 12) (z_gd (z_isCh (z_gI u 87 q.2.toNatClampNeg).toNatClampNeg) (z_lt (q.1 ||| ((z_gI u ((z_gI u 87 x1.toNatClampNeg).toNatClampNeg) 1) &&& ((z_gI u ((z_gI u 87 q.2.toNatClampNeg).toNatClampNeg) 1) ^^^ (-1)))) (fun v8 => kb (v8, q.2 + 1)))))))))
def f_X2_creaseSet (a1 : Int32) (u : z_M) : Option (Int32) :=
  z_lp (b_X2_creaseSet_4 a1 u) z_F (0, 0) (fun t9 => some t9)
set_option maxRecDepth 20000 in
set_option maxHeartbeats 4000000 in
theorem wb_X2_creaseSet_4 {p : Program} {l : Launch} {e : Env} {R : Room} {s : State} {m : MethodId} {args : Array Value} {below : List Frame} {meth : Method} {c : Code} {g : z_G} {u : z_M} {res : Int32} (hR : R = z_rm 3) (X : z_X p R s m args meth c cX2_creaseSet 4 RX2 wsX2_creaseSet (some .int) g z_shC) (x1 : Int32) (q : Int32 × Int32) (kb : (Int32 × Int32) → Option (Int32)) (kx : Int32 → Option (Int32)) (hkb : ∀ q, kb q = some res → z_V p l e R s m args below meth c 4 g z_shC (MQ below (z_Qc g z_shC (fun v u' => v = some (.int res) ∧ u' = u)) args s 0 0 (z_A g z_shC)) 4 [(0, .ref (z_ad g 86)), (1, .int x1), (2, .int q.1), (3, .int q.2)] [] u) (hkx : ∀ t, kx t = some res → z_V p l e R s m args below meth c 4 g z_shC (MQ below (z_Qc g z_shC (fun v u' => v = some (.int res) ∧ u' = u)) args s 0 0 (z_A g z_shC)) 48 [(2, .int t)] [] u) (h : b_X2_creaseSet_4 x1 u q kb kx = some res) : z_V p l e R s m args below meth c 4 g z_shC (MQ below (z_Qc g z_shC (fun v u' => v = some (.int res) ∧ u' = u)) args s 0 0 (z_A g z_shC)) 4 [(0, .ref (z_ad g 86)), (1, .int x1), (2, .int q.1), (3, .int q.2)] [] u := by
  unfold b_X2_creaseSet_4 at h
  refine z_iload_n X 3 dX2_creaseSet_4 rfl rfl (z_iload_n X 1 dX2_creaseSet_5 rfl rfl (z_icmp_ge X 48 dX2_creaseSet_6 (by decide) (fun c1 => ?_) (fun c1 => ?_)))
  · replace h := z_ip c1 h
    refine z_sub [2] [(2, .int q.1)] rfl ?_
    exact hkx q.1 h
  · replace h := z_in c1 h
    obtain ⟨r2, er2, h⟩ := z_bs h
    refine z_aload_n X 0 dX2_creaseSet_9 rfl rfl (z_iload_n X 1 dX2_creaseSet_10 rfl rfl (z_iload_n X 3 dX2_creaseSet_11 rfl rfl (z_callVi X (r := r2) (u1 := u) [.int x1, .int q.2] [] (w_X2_isSide l g x1 q.2 u er2) z_c86 rfl gX2_creaseSet_X2_isSide hy_X2_isSide rfl (z_le1 hR (by decide)) (z_le2 hR (by decide) (by decide)) (Nat.le_of_ble_eq_true rfl) dX2_creaseSet_12 (z_if_eq X 42 dX2_creaseSet_15 (by decide) (fun c3 => ?_) (fun c3 => ?_)))))
    · replace h := z_ip c3 h
      refine z_iinc X (v := q.2 + 1) 3 [(3, .int (q.2 + 1)), (0, .ref (z_ad g 86)), (1, .int x1), (2, .int q.1)] dX2_creaseSet_42 rfl rfl (by decide) rfl (z_goto X 4 dX2_creaseSet_45 (by decide) (z_sub [1, 2, 3, 0] [(0, .ref (z_ad g 86)), (1, .int x1), (2, .int q.1), (3, .int (q.2 + 1))] rfl ?_))
      exact hkb (q.1, q.2 + 1) h
    · replace h := z_in c3 h
      obtain ⟨b4, h⟩ := z_gs h
      obtain ⟨b5, h⟩ := z_gs h
      obtain ⟨b6, h⟩ := z_gs h
      obtain ⟨b7, h⟩ := z_gs h
      obtain ⟨v8, ev8, h⟩ := z_ls h
      refine z_iload_n X 2 dX2_creaseSet_18 rfl rfl (z_aload_n X 0 dX2_creaseSet_19 rfl rfl (z_getR X (k0 := 1) z_c86 rfl in_X2_creaseSet_X2 (by decide) rfl rfl lk_X2_creaseSet_11 dX2_creaseSet_20 (z_iload_n X 1 dX2_creaseSet_23 rfl rfl (z_aalC X z_c87 (z_inS b4) dX2_creaseSet_24 (z_getI X (k0 := 1) (z_ch (z_ch_of b5)) rfl in_X2_creaseSet_X1 (by decide) rfl rfl lk_X2_creaseSet_84 dX2_creaseSet_25 (z_aload_n X 0 dX2_creaseSet_28 rfl rfl (z_getR X (k0 := 1) z_c86 rfl in_X2_creaseSet_X2 (by decide) rfl rfl lk_X2_creaseSet_11 dX2_creaseSet_29 (z_iload_n X 3 dX2_creaseSet_32 rfl rfl (z_aalC X z_c87 (z_inS b6) dX2_creaseSet_33 (z_getI X (k0 := 1) (z_ch (z_ch_of b7)) rfl in_X2_creaseSet_X1 (by decide) rfl rfl lk_X2_creaseSet_84 dX2_creaseSet_34 (z_iconst X (v := (-1)) dX2_creaseSet_37 (by decide) (z_ixor X dX2_creaseSet_38 (z_iand X dX2_creaseSet_39 (z_ior X dX2_creaseSet_40 (z_ti ev8 (z_istore_n X [(2, .int v8), (0, .ref (z_ad g 86)), (1, .int x1), (3, .int q.2)] dX2_creaseSet_41 rfl (by decide) rfl (z_iinc X (v := q.2 + 1) 3 [(3, .int (q.2 + 1)), (2, .int v8), (0, .ref (z_ad g 86)), (1, .int x1)] dX2_creaseSet_42 rfl rfl (by decide) rfl (z_goto X 4 dX2_creaseSet_45 (by decide) (z_sub [2, 3, 1, 0] [(0, .ref (z_ad g 86)), (1, .int x1), (2, .int v8), (3, .int (q.2 + 1))] rfl ?_)))))))))))))))))))
      exact hkb (v8, q.2 + 1) h
set_option maxRecDepth 20000 in
set_option maxHeartbeats 4000000 in
theorem w_X2_creaseSet (l : Launch) (g : z_G) (a1 : Int32) (u : z_M) {res : Int32} (h : f_X2_creaseSet a1 u = some res) : z_C l g z_shC yX2_creaseSet wsX2_creaseSet 3 [.ref (z_ad g 86), .int a1] u (fun v u' => v = some (.int res) ∧ u' = u) := by
  refine z_C.mk (lv := [(0, .ref (z_ad g 86)), (1, .int a1)]) (cc := cX2_creaseSet) (nL := 4) (rt := (some .int)) rfl (by decide) (Nat.le_of_ble_eq_true rfl) rfl (fun p e R s m args below meth c hR X => ?_)
  unfold f_X2_creaseSet at h
  refine z_iconst X (v := 0) dX2_creaseSet_0 (by decide) (z_istore_n X [(2, .int 0), (0, .ref (z_ad g 86)), (1, .int a1)] dX2_creaseSet_1 rfl (by decide) rfl (z_iconst X (v := 0) dX2_creaseSet_2 (by decide) (z_istore_n X [(3, .int 0), (2, .int 0), (0, .ref (z_ad g 86)), (1, .int a1)] dX2_creaseSet_3 rfl (by decide) rfl (z_sub [2, 3, 1, 0] [(0, .ref (z_ad g 86)), (1, .int a1), (2, .int 0), (3, .int 0)] rfl ?_))))
  have hw := z_lp_w (fun q9 kb9 kx9 h1 h2 h3 => wb_X2_creaseSet_4 (l := l) (e := e) (below := below) (u := u) hR X a1 q9 kb9 kx9 h1 h2 h3) z_F _ _ h
  refine hw (fun t9 h => ?_)
  refine z_iload_n X 0 dX2_creaseSet_48 rfl rfl ?_
  cases h; exact z_iret X rfl dX2_creaseSet_49 ⟨rfl, rfl⟩

theorem ini_X9_isIn_X6_isRow : Cond.initialized yX9_isIn.cls ∈ wsX6_isRow := by decide +kernel
theorem sta_X9_isIn_X6_isRow : Cond.static yX9_isIn ∈ wsX6_isRow := by decide +kernel
theorem lk_X6_isRow_9 : (Cond.fieldLink RX6 9 RX6 (TX6 3).2.1 (TX6 3).2.2.1) ∈ wsX6_isRow := by decide +kernel
theorem in_X6_isRow_X6 : ∀ w ∈ u_ws RX6 TX6 6, w ∈ wsX6_isRow := by decide +kernel
theorem lk_X6_isRow_15 : (Cond.fieldLink RX6 15 RX6 (TX6 4).2.1 (TX6 4).2.2.1) ∈ wsX6_isRow := by decide +kernel
def b_X6_isRow_2 (x0 : Nat) (x1 : Int32) (u : z_M) : Int32 → (Int32 → Option (Int32)) → (Unit → Option (Int32)) → Option (Int32) := fun q kb kx =>
  if 9 ≤ q then (kx ()) else (Option.bind (f_X9_isIn x1 q) (fun r2 => if r2 = 0 then (kb (q + 1)) else (z_gd (z_inb q 9) (z_gd (z_inb q 9) (if (x1 &&& ((((z_gI u (x0 + 1) q.toNatClampNeg) ||| (z_gI u (x0 + 2) q.toNatClampNeg)) ||| (1 <<< (q &&& 31))) ^^^ (-1))) = 0 then (kb (q + 1)) else (some 0))))))
def f_X6_isRow (ao : Nat) (a1 : Int32) (u : z_M) : Option (Int32) :=
  z_lp (b_X6_isRow_2 ao a1 u) z_F 0 (fun t7 => some 1)
set_option maxRecDepth 20000 in
set_option maxHeartbeats 4000000 in
theorem wb_X6_isRow_2 {p : Program} {l : Launch} {e : Env} {R : Room} {s : State} {m : MethodId} {args : Array Value} {below : List Frame} {meth : Method} {c : Code} {g : z_G} {u : z_M} {res : Int32} (hR : R = z_rm 2) (X : z_X p R s m args meth c cX6_isRow 3 RX6 wsX6_isRow (some .boolean) g z_shC) (x0 : Nat) (x1 : Int32) (ex0 : z_PO x0) (q : Int32) (kb : Int32 → Option (Int32)) (kx : Unit → Option (Int32)) (hkb : ∀ q, kb q = some res → z_V p l e R s m args below meth c 3 g z_shC (MQ below (z_Qc g z_shC (fun v u' => v = some (.int res) ∧ u' = u)) args s 0 0 (z_A g z_shC)) 2 [(0, .ref (z_ad g x0)), (1, .int x1), (2, .int q)] [] u) (hkx : ∀ t, kx t = some res → z_V p l e R s m args below meth c 3 g z_shC (MQ below (z_Qc g z_shC (fun v u' => v = some (.int res) ∧ u' = u)) args s 0 0 (z_A g z_shC)) 48 [] [] u) (h : b_X6_isRow_2 x0 x1 u q kb kx = some res) : z_V p l e R s m args below meth c 3 g z_shC (MQ below (z_Qc g z_shC (fun v u' => v = some (.int res) ∧ u' = u)) args s 0 0 (z_A g z_shC)) 2 [(0, .ref (z_ad g x0)), (1, .int x1), (2, .int q)] [] u := by
  unfold b_X6_isRow_2 at h
  refine z_iload_n X 2 dX6_isRow_2 rfl rfl (z_bipush X (v := 9) dX6_isRow_3 (by decide) (z_icmp_ge X 48 dX6_isRow_5 (by decide) (fun c1 => ?_) (fun c1 => ?_)))
  · replace h := z_ip c1 h
    refine z_sub [] [] rfl ?_
    exact hkx () h
  · replace h := z_in c1 h
    obtain ⟨r2, er2, h⟩ := z_bs h
    refine z_iload_n X 1 dX6_isRow_8 rfl rfl (z_iload_n X 2 dX6_isRow_9 rfl rfl (z_callNi X (r := r2) (u1 := u) [.int x1, .int q] [] (w_X9_isIn l g x1 q u er2) gX6_isRow_X9_isIn_n43 nn_X6 ini_X9_isIn_X6_isRow sta_X9_isIn_X6_isRow hy_X9_isIn.2 rfl (z_le1 hR (by decide)) (z_le2 hR (by decide) (by decide)) (Nat.le_of_ble_eq_true rfl) dX6_isRow_10 (z_if_eq X 42 dX6_isRow_13 (by decide) (fun c3 => ?_) (fun c3 => ?_))))
    · replace h := z_ip c3 h
      refine z_iinc X (v := q + 1) 2 [(2, .int (q + 1)), (0, .ref (z_ad g x0)), (1, .int x1)] dX6_isRow_42 rfl rfl (by decide) rfl (z_goto X 2 dX6_isRow_45 (by decide) (z_sub [1, 2, 0] [(0, .ref (z_ad g x0)), (1, .int x1), (2, .int (q + 1))] rfl ?_))
      exact hkb (q + 1) h
    · replace h := z_in c3 h
      obtain ⟨b4, h⟩ := z_gs h
      obtain ⟨b5, h⟩ := z_gs h
      refine z_iload_n X 1 dX6_isRow_16 rfl rfl (z_aload_n X 0 dX6_isRow_17 rfl rfl (z_getR X (k0 := 3) (z_po ex0) rfl in_X6_isRow_X6 (by decide) rfl rfl lk_X6_isRow_9 dX6_isRow_18 (z_iload_n X 2 dX6_isRow_21 rfl rfl (z_iald X (z_poA ex0) (z_inS b4) dX6_isRow_22 (z_aload_n X 0 dX6_isRow_23 rfl rfl (z_getR X (k0 := 4) (z_po ex0) rfl in_X6_isRow_X6 (by decide) rfl rfl lk_X6_isRow_15 dX6_isRow_24 (z_iload_n X 2 dX6_isRow_27 rfl rfl (z_iald X (z_poU ex0) (z_inS b5) dX6_isRow_28 (z_ior X dX6_isRow_29 (z_iconst X (v := 1) dX6_isRow_30 (by decide) (z_iload_n X 2 dX6_isRow_31 rfl rfl (z_ishl X dX6_isRow_32 (z_ior X dX6_isRow_33 (z_iconst X (v := (-1)) dX6_isRow_34 (by decide) (z_ixor X dX6_isRow_35 (z_iand X dX6_isRow_36 (z_if_eq X 42 dX6_isRow_37 (by decide) (fun c6 => ?_) (fun c6 => ?_))))))))))))))))))
      · replace h := z_ip c6 h
        refine z_iinc X (v := q + 1) 2 [(2, .int (q + 1)), (0, .ref (z_ad g x0)), (1, .int x1)] dX6_isRow_42 rfl rfl (by decide) rfl (z_goto X 2 dX6_isRow_45 (by decide) (z_sub [1, 2, 0] [(0, .ref (z_ad g x0)), (1, .int x1), (2, .int (q + 1))] rfl ?_))
        exact hkb (q + 1) h
      · replace h := z_in c6 h
        refine z_iconst X (v := 0) dX6_isRow_40 (by decide) ?_
        cases h; exact z_zret X rfl rfl dX6_isRow_41 ⟨rfl, rfl⟩
set_option maxRecDepth 20000 in
set_option maxHeartbeats 4000000 in
theorem w_X6_isRow (l : Launch) (g : z_G) (ao : Nat) (a1 : Int32) (eao : z_PO ao) (u : z_M) {res : Int32} (h : f_X6_isRow ao a1 u = some res) : z_C l g z_shC yX6_isRow wsX6_isRow 2 [.ref (z_ad g ao), .int a1] u (fun v u' => v = some (.int res) ∧ u' = u) := by
  refine z_C.mk (lv := [(0, .ref (z_ad g ao)), (1, .int a1)]) (cc := cX6_isRow) (nL := 3) (rt := (some .boolean)) rfl (by decide) (Nat.le_of_ble_eq_true rfl) rfl (fun p e R s m args below meth c hR X => ?_)
  unfold f_X6_isRow at h
  refine z_iconst X (v := 0) dX6_isRow_0 (by decide) (z_istore_n X [(2, .int 0), (0, .ref (z_ad g ao)), (1, .int a1)] dX6_isRow_1 rfl (by decide) rfl (z_sub [1, 2, 0] [(0, .ref (z_ad g ao)), (1, .int a1), (2, .int 0)] rfl ?_))
  have hw := z_lp_w (fun q9 kb9 kx9 h1 h2 h3 => wb_X6_isRow_2 (l := l) (e := e) (below := below) (u := u) hR X ao a1 eao q9 kb9 kx9 h1 h2 h3) z_F _ _ h
  refine hw (fun t7 h => ?_)
  refine z_iconst X (v := 1) dX6_isRow_48 (by decide) ?_
  cases h; exact z_zret X rfl rfl dX6_isRow_49 ⟨rfl, rfl⟩

theorem hy_X6_isRow : yX6_isRow.cls = RX6 ∧ yX6_isRow.cls ≠ "java/lang/invoke/MethodHandle" ∧ yX6_isRow.cls ≠ "java/lang/invoke/VarHandle" ∧ (parseMethodDescriptor yX6_isRow.desc).map (fun d => d.parameters.length) = some 1 := by decide +kernel
def f_X3_isFace (a1 : Nat) (a2 : Int32) (a3 : Int32) (a4 : Int32) (u : z_M) : Option (Int32) :=
  if (a4 &&& (a2 ^^^ (-1))) = 0 then (if (z_bitc a4) = a3 then (Option.bind (f_X6_isRow a1 a4 u) (fun r3 => if r3 = 0 then (some 0) else (some 1))) else (some 0)) else (some 0)
set_option maxRecDepth 20000 in
set_option maxHeartbeats 4000000 in
theorem w_X3_isFace (l : Launch) (g : z_G) (a1 : Nat) (a2 : Int32) (a3 : Int32) (a4 : Int32) (ea1 : z_PO a1) (u : z_M) {res : Int32} (h : f_X3_isFace a1 a2 a3 a4 u = some res) : z_C l g z_shC yX3_isFace wsX3_isFace 3 [.ref (z_ad g a1), .int a2, .int a3, .int a4] u (fun v u' => v = some (.int res) ∧ u' = u) := by
  refine z_C.mk (lv := [(0, .ref (z_ad g a1)), (1, .int a2), (2, .int a3), (3, .int a4)]) (cc := cX3_isFace) (nL := 4) (rt := (some .boolean)) rfl (by decide) (Nat.le_of_ble_eq_true rfl) rfl (fun p e R s m args below meth c hR X => ?_)
  unfold f_X3_isFace at h
  refine z_iload_n X 3 dX3_isFace_0 rfl rfl (z_iload_n X 1 dX3_isFace_1 rfl rfl (z_iconst X (v := (-1)) dX3_isFace_2 (by decide) (z_ixor X dX3_isFace_3 (z_iand X dX3_isFace_4 (z_if_ne X 28 dX3_isFace_5 (by decide) (fun c1 => ?_) (fun c1 => ?_))))))
  · replace h := z_in c1 h
    refine z_iconst X (v := 0) dX3_isFace_28 (by decide) ?_
    cases h; exact z_zret X rfl rfl dX3_isFace_29 ⟨rfl, rfl⟩
  · replace h := z_ip c1 h
    refine z_iload_n X 3 dX3_isFace_8 rfl rfl (z_callSi X (r := z_bitc a4) (u1 := u) [.int a4] [] (w_bitc l g z_shC a4 u) gX3_isFace_J6_bitCount_0f7a4 hy_J6_bitCount_0f7a4.2 rfl (z_le1 hR (by decide)) (z_le2 hR (by decide) (by decide)) (Nat.le_of_ble_eq_true rfl) dX3_isFace_9 (z_iload_n X 2 dX3_isFace_12 rfl rfl (z_icmp_ne X 28 dX3_isFace_13 (by decide) (fun c2 => ?_) (fun c2 => ?_))))
    · replace h := z_in c2 h
      refine z_iconst X (v := 0) dX3_isFace_28 (by decide) ?_
      cases h; exact z_zret X rfl rfl dX3_isFace_29 ⟨rfl, rfl⟩
    · replace h := z_ip c2 h
      obtain ⟨r3, er3, h⟩ := z_bs h
      refine z_aload_n X 0 dX3_isFace_16 rfl rfl (z_iload_n X 3 dX3_isFace_17 rfl rfl (z_callVi X (r := r3) (u1 := u) [.int a4] [] (w_X6_isRow l g a1 a4 ea1 u er3) (z_po ea1) rfl gX3_isFace_X6_isRow hy_X6_isRow rfl (z_le1 hR (by decide)) (z_le2 hR (by decide) (by decide)) (Nat.le_of_ble_eq_true rfl) dX3_isFace_18 (z_if_eq X 28 dX3_isFace_21 (by decide) (fun c4 => ?_) (fun c4 => ?_))))
      · replace h := z_ip c4 h
        refine z_iconst X (v := 0) dX3_isFace_28 (by decide) ?_
        cases h; exact z_zret X rfl rfl dX3_isFace_29 ⟨rfl, rfl⟩
      · replace h := z_in c4 h
        refine z_iconst X (v := 1) dX3_isFace_24 (by decide) (z_goto X 29 dX3_isFace_25 (by decide) ?_)
        cases h; exact z_zret X rfl rfl dX3_isFace_29 ⟨rfl, rfl⟩

theorem lk_X3_list_9 : (Cond.fieldLink RX3 9 RX3 (TX3 0).2.1 (TX3 0).2.2.1) ∈ wsX3_list := by decide +kernel
theorem in_X3_list_X3 : ∀ w ∈ u_ws RX3 TX3 3, w ∈ wsX3_list := by decide +kernel
theorem hy_X3_isFace : yX3_isFace.cls = RX3 ∧ yX3_isFace.cls ≠ "java/lang/invoke/MethodHandle" ∧ yX3_isFace.cls ≠ "java/lang/invoke/VarHandle" ∧ (parseMethodDescriptor yX3_isFace.desc).map (fun d => d.parameters.length) = some 4 := by decide +kernel
def b_X3_list_6 (x1 : Nat) (x2 : Int32) (x3 : Int32) : (Int32 × Int32 × z_M) → ((Int32 × Int32 × z_M) → Option (Int32 × z_M)) → ((Int32 × z_M) → Option (Int32 × z_M)) → Option (Int32 × z_M) := fun q kb kx =>
  if 512 ≤ q.2.1 then (kx (q.1, q.2.2)) else (Option.bind (f_X3_isFace x1 x2 x3 q.2.1 q.2.2) (fun r2 => if r2 = 0 then (kb (q.1, q.2.1 + 1, q.2.2)) else (z_gd (z_inb q.2.1 512) (z_lt (z_sI q.2.2 135 q.2.1.toNatClampNeg q.1) (fun u5 => kb (q.1 + 1, q.2.1 + 1, u5))))))
def f_X3_list (a1 : Nat) (a2 : Int32) (a3 : Int32) (u : z_M) : Option (Int32 × z_M) :=
  z_lp (b_X3_list_6 a1 a2 a3) z_F (0, 0, u) (fun t6 => some (t6.1, t6.2))
set_option maxRecDepth 20000 in
set_option maxHeartbeats 4000000 in
theorem wb_X3_list_6 {p : Program} {l : Launch} {e : Env} {R : Room} {s : State} {m : MethodId} {args : Array Value} {below : List Frame} {meth : Method} {c : Code} {g : z_G} {u : z_M} {res : Int32 × z_M} (hR : R = z_rm 4) (X : z_X p R s m args meth c cX3_list 6 RX3 wsX3_list (some .int) g z_shC) (x1 : Nat) (x2 : Int32) (x3 : Int32) (ex1 : z_PO x1) (q : Int32 × Int32 × z_M) (kb : (Int32 × Int32 × z_M) → Option (Int32 × z_M)) (kx : (Int32 × z_M) → Option (Int32 × z_M)) (hkb : ∀ q, kb q = some res → z_V p l e R s m args below meth c 6 g z_shC (MQ below (z_Qc g z_shC (fun v u' => v = some (.int res.1) ∧ u' = res.2)) args s 0 0 (z_A g z_shC)) 6 [(0, .ref (z_ad g 134)), (1, .ref (z_ad g x1)), (2, .int x2), (3, .int x3), (4, .int q.1), (5, .int q.2.1)] [] q.2.2) (hkx : ∀ t, kx t = some res → z_V p l e R s m args below meth c 6 g z_shC (MQ below (z_Qc g z_shC (fun v u' => v = some (.int res.1) ∧ u' = res.2)) args s 0 0 (z_A g z_shC)) 43 [(4, .int t.1)] [] t.2) (h : b_X3_list_6 x1 x2 x3 q kb kx = some res) : z_V p l e R s m args below meth c 6 g z_shC (MQ below (z_Qc g z_shC (fun v u' => v = some (.int res.1) ∧ u' = res.2)) args s 0 0 (z_A g z_shC)) 6 [(0, .ref (z_ad g 134)), (1, .ref (z_ad g x1)), (2, .int x2), (3, .int x3), (4, .int q.1), (5, .int q.2.1)] [] q.2.2 := by
  unfold b_X3_list_6 at h
  refine z_iload X 5 dX3_list_6 rfl (z_sipush X (v := 512) dX3_list_8 (by decide) (z_icmp_ge X 43 dX3_list_11 (by decide) (fun c1 => ?_) (fun c1 => ?_)))
  · replace h := z_ip c1 h
    refine z_sub [4] [(4, .int q.1)] rfl ?_
    exact hkx (q.1, q.2.2) h
  · replace h := z_in c1 h
    obtain ⟨r2, er2, h⟩ := z_bs h
    refine z_aload_n X 1 dX3_list_14 rfl rfl (z_iload_n X 2 dX3_list_15 rfl rfl (z_iload_n X 3 dX3_list_16 rfl rfl (z_iload X 5 dX3_list_17 rfl (z_callSi X (r := r2) (u1 := q.2.2) [.ref (z_ad g x1), .int x2, .int x3, .int q.2.1] [] (w_X3_isFace l g x1 x2 x3 q.2.1 ex1 q.2.2 er2) gX3_list_X3_isFace hy_X3_isFace.2 rfl (z_le1 hR (by decide)) (z_le2 hR (by decide) (by decide)) (Nat.le_of_ble_eq_true rfl) dX3_list_19 (z_if_eq X 37 dX3_list_22 (by decide) (fun c3 => ?_) (fun c3 => ?_))))))
    · replace h := z_ip c3 h
      refine z_iinc X (v := q.2.1 + 1) 5 [(5, .int (q.2.1 + 1)), (0, .ref (z_ad g 134)), (1, .ref (z_ad g x1)), (2, .int x2), (3, .int x3), (4, .int q.1)] dX3_list_37 rfl rfl (by decide) rfl (z_goto X 6 dX3_list_40 (by decide) (z_sub [1, 2, 3, 4, 5, 0] [(0, .ref (z_ad g 134)), (1, .ref (z_ad g x1)), (2, .int x2), (3, .int x3), (4, .int q.1), (5, .int (q.2.1 + 1))] rfl ?_))
      exact hkb (q.1, q.2.1 + 1, q.2.2) h
    · replace h := z_in c3 h
      obtain ⟨b4, h⟩ := z_gs h
      obtain ⟨u5, eu5, h⟩ := z_ls h
      refine z_aload_n X 0 dX3_list_25 rfl rfl (z_getR X (k0 := 0) z_c134 rfl in_X3_list_X3 (by decide) rfl rfl lk_X3_list_9 dX3_list_26 (z_iload X 5 dX3_list_29 rfl (z_iload X 4 dX3_list_31 rfl (z_iast X z_c135 (z_inS b4) dX3_list_33 (z_nm eu5 (z_iinc X (v := q.1 + 1) 4 [(4, .int (q.1 + 1)), (0, .ref (z_ad g 134)), (1, .ref (z_ad g x1)), (2, .int x2), (3, .int x3), (5, .int q.2.1)] dX3_list_34 rfl rfl (by decide) rfl (z_iinc X (v := q.2.1 + 1) 5 [(5, .int (q.2.1 + 1)), (4, .int (q.1 + 1)), (0, .ref (z_ad g 134)), (1, .ref (z_ad g x1)), (2, .int x2), (3, .int x3)] dX3_list_37 rfl rfl (by decide) rfl (z_goto X 6 dX3_list_40 (by decide) (z_sub [2, 3, 4, 5, 1, 0] [(0, .ref (z_ad g 134)), (1, .ref (z_ad g x1)), (2, .int x2), (3, .int x3), (4, .int (q.1 + 1)), (5, .int (q.2.1 + 1))] rfl ?_)))))))))
      exact hkb (q.1 + 1, q.2.1 + 1, u5) h
set_option maxRecDepth 20000 in
set_option maxHeartbeats 4000000 in
theorem w_X3_list (l : Launch) (g : z_G) (a1 : Nat) (a2 : Int32) (a3 : Int32) (ea1 : z_PO a1) (u : z_M) {res : Int32 × z_M} (h : f_X3_list a1 a2 a3 u = some res) : z_C l g z_shC yX3_list wsX3_list 4 [.ref (z_ad g 134), .ref (z_ad g a1), .int a2, .int a3] u (fun v u' => v = some (.int res.1) ∧ u' = res.2) := by
  refine z_C.mk (lv := [(0, .ref (z_ad g 134)), (1, .ref (z_ad g a1)), (2, .int a2), (3, .int a3)]) (cc := cX3_list) (nL := 6) (rt := (some .int)) rfl (by decide) (Nat.le_of_ble_eq_true rfl) rfl (fun p e R s m args below meth c hR X => ?_)
  unfold f_X3_list at h
  refine z_iconst X (v := 0) dX3_list_0 (by decide) (z_istore X [(4, .int 0), (0, .ref (z_ad g 134)), (1, .ref (z_ad g a1)), (2, .int a2), (3, .int a3)] dX3_list_1 (by decide) rfl (z_iconst X (v := 0) dX3_list_3 (by decide) (z_istore X [(5, .int 0), (4, .int 0), (0, .ref (z_ad g 134)), (1, .ref (z_ad g a1)), (2, .int a2), (3, .int a3)] dX3_list_4 (by decide) rfl (z_sub [2, 3, 4, 5, 1, 0] [(0, .ref (z_ad g 134)), (1, .ref (z_ad g a1)), (2, .int a2), (3, .int a3), (4, .int 0), (5, .int 0)] rfl ?_))))
  have hw := z_lp_w (fun q9 kb9 kx9 h1 h2 h3 => wb_X3_list_6 (l := l) (e := e) (below := below) (u := u) hR X a1 a2 a3 ea1 q9 kb9 kx9 h1 h2 h3) z_F _ _ h
  refine hw (fun t6 h => ?_)
  refine z_iload X 0 dX3_list_43 rfl ?_
  cases h; exact z_iret X rfl dX3_list_45 ⟨rfl, rfl⟩

theorem lk_X3_write_18 : (Cond.fieldLink RX3 18 RX3 (TX3 2).2.1 (TX3 2).2.2.1) ∈ wsX3_write := by decide +kernel
theorem in_X3_write_X3 : ∀ w ∈ u_ws RX3 TX3 3, w ∈ wsX3_write := by decide +kernel
theorem ini_X9_isIn_X3_write : Cond.initialized yX9_isIn.cls ∈ wsX3_write := by decide +kernel
theorem sta_X9_isIn_X3_write : Cond.static yX9_isIn ∈ wsX3_write := by decide +kernel
theorem lk_X3_write_9 : (Cond.fieldLink RX3 9 RX3 (TX3 0).2.1 (TX3 0).2.2.1) ∈ wsX3_write := by decide +kernel
theorem lk_X3_write_64 : (Cond.fieldLink RX3 64 RX6 (TX6 4).2.1 (TX6 4).2.2.1) ∈ wsX3_write := by decide +kernel
theorem in_X3_write_X6 : ∀ w ∈ u_ws RX6 TX6 6, w ∈ wsX3_write := by decide +kernel
theorem hy_J7_fill_53178 : yJ7_fill_53178.cls = RJ7 ∧ yJ7_fill_53178.cls ≠ "java/lang/invoke/MethodHandle" ∧ yJ7_fill_53178.cls ≠ "java/lang/invoke/VarHandle" ∧ (parseMethodDescriptor yJ7_fill_53178.desc).map (fun d => d.parameters.length) = some 2 := by decide +kernel
def j_X3_write_j74 (x1 : Nat) (x2 : Int32) (x3 : Int32) (x4 : Int32) (x5 : Int32) (x90 : Int32) (w : z_M) (kb : (Int32 × z_M) → Option (z_M)) (kx : z_M → Option (z_M)) : Option (z_M) :=
  if x90 = 0 then (z_gd (z_inb x5 35) (z_lt (z_sI w 137 x5.toNatClampNeg (x3 - 1)) (fun u12 => kb (x4 + 1, u12)))) else (z_gd (z_inb x5 35) (z_lt (z_sI w 137 x5.toNatClampNeg 1) (fun u14 => kb (x4 + 1, u14))))
def b_X3_write_11 (x1 : Nat) (x2 : Int32) (x3 : Int32) : (Int32 × z_M) → ((Int32 × z_M) → Option (z_M)) → (z_M → Option (z_M)) → Option (z_M) := fun q kb kx =>
  if 9 ≤ q.1 then (kx q.2) else (Option.bind (f_X9_isIn x2 q.1) (fun r3 => if r3 = 0 then (kb (q.1 + 1, q.2)) else (z_gd (z_inb (x2 &&& ((1 <<< (q.1 &&& 31)) ^^^ (-1))) 512) (z_lt (z_gI q.2 135 (x2 &&& ((1 <<< (q.1 &&& 31)) ^^^ (-1))).toNatClampNeg) (fun v6 => if 35 ≤ v6 then (kb (q.1 + 1, q.2)) else (z_gd (z_inb q.1 9) (if ((z_bitc (x2 &&& (z_gI q.2 (x1 + 2) q.1.toNatClampNeg))) &&& 1) = 0 then (j_X3_write_j74 x1 x2 x3 q.1 v6 1 q.2 kb kx) else (j_X3_write_j74 x1 x2 x3 q.1 v6 0 q.2 kb kx))))))))
def f_X3_write (a1 : Nat) (a2 : Int32) (a3 : Int32) (u : z_M) : Option (z_M) :=
  z_lt (z_fill u 137 35 0) (fun u1 => z_lp (b_X3_write_11 a1 a2 a3) z_F (0, u1) (fun t15 => some t15))
set_option maxRecDepth 20000 in
set_option maxHeartbeats 4000000 in
theorem wj_X3_write_j74 {p : Program} {l : Launch} {e : Env} {R : Room} {s : State} {m : MethodId} {args : Array Value} {below : List Frame} {meth : Method} {c : Code} {g : z_G} {u : z_M} {res : z_M} (hR : R = z_rm 2) (X : z_X p R s m args meth c cX3_write 7 RX3 wsX3_write none g z_shC) (x1 : Nat) (x2 : Int32) (x3 : Int32) (ex1 : z_PO x1) (x4 : Int32) (x5 : Int32) (x90 : Int32) (w : z_M) (kb : (Int32 × z_M) → Option (z_M)) (kx : z_M → Option (z_M)) (hkb : ∀ q, kb q = some res → z_V p l e R s m args below meth c 7 g z_shC (MQ below (z_Qc g z_shC (fun v u' => v = none ∧ u' = res)) args s 0 0 (z_A g z_shC)) 11 [(0, .ref (z_ad g 134)), (1, .ref (z_ad g x1)), (2, .int x2), (3, .int x3), (4, .int q.1)] [] q.2) (hkx : ∀ t, kx t = some res → z_V p l e R s m args below meth c 7 g z_shC (MQ below (z_Qc g z_shC (fun v u' => v = none ∧ u' = res)) args s 0 0 (z_A g z_shC)) 101 [] [] t) (h : j_X3_write_j74 x1 x2 x3 x4 x5 x90 w kb kx = some res) : z_V p l e R s m args below meth c 7 g z_shC (MQ below (z_Qc g z_shC (fun v u' => v = none ∧ u' = res)) args s 0 0 (z_A g z_shC)) 74 [(0, .ref (z_ad g 134)), (1, .ref (z_ad g x1)), (2, .int x2), (3, .int x3), (4, .int x4), (5, .int x5)] [.int x90] w := by
  unfold j_X3_write_j74 at h
  refine z_istore X [(6, .int x90), (0, .ref (z_ad g 134)), (1, .ref (z_ad g x1)), (2, .int x2), (3, .int x3), (4, .int x4), (5, .int x5)] dX3_write_74 (by decide) rfl (z_aload_n X 1 dX3_write_76 rfl rfl (z_getR X (k0 := 2) z_c134 rfl in_X3_write_X3 (by decide) rfl rfl lk_X3_write_18 dX3_write_77 (z_iload X 6 dX3_write_80 rfl (z_iload X 0 dX3_write_82 rfl (z_if_eq X 91 dX3_write_84 (by decide) (fun c10 => ?_) (fun c10 => ?_))))))
  · replace h := z_ip c10 h
    obtain ⟨b11, h⟩ := z_gs h
    obtain ⟨u12, eu12, h⟩ := z_ls h
    refine z_iload_n X 4 dX3_write_91 rfl rfl (z_iconst X (v := 1) dX3_write_92 (by decide) (z_isub X dX3_write_93 (z_iast X z_c137 (z_inS b11) dX3_write_94 (z_nm eu12 (z_iinc X (v := x4 + 1) 5 [(4, .int (x4 + 1)), (6, .int x90), (0, .ref (z_ad g 134)), (1, .ref (z_ad g x1)), (2, .int x2), (3, .int x3), (5, .int x5)] dX3_write_95 rfl rfl (by decide) rfl (z_goto X 11 dX3_write_98 (by decide) (z_sub [2, 3, 4, 5, 0] [(0, .ref (z_ad g 134)), (1, .ref (z_ad g x1)), (2, .int x2), (3, .int x3), (4, .int (x4 + 1))] rfl ?_)))))))
    exact hkb (x4 + 1, u12) h
  · replace h := z_in c10 h
    obtain ⟨b13, h⟩ := z_gs h
    obtain ⟨u14, eu14, h⟩ := z_ls h
    refine z_iconst X (v := 1) dX3_write_87 (by decide) (z_goto X 94 dX3_write_88 (by decide) (z_iast X z_c137 (z_inS b13) dX3_write_94 (z_nm eu14 (z_iinc X (v := x4 + 1) 5 [(4, .int (x4 + 1)), (6, .int x90), (0, .ref (z_ad g 134)), (1, .ref (z_ad g x1)), (2, .int x2), (3, .int x3), (5, .int x5)] dX3_write_95 rfl rfl (by decide) rfl (z_goto X 11 dX3_write_98 (by decide) (z_sub [2, 3, 4, 5, 0] [(0, .ref (z_ad g 134)), (1, .ref (z_ad g x1)), (2, .int x2), (3, .int x3), (4, .int (x4 + 1))] rfl ?_))))))
    exact hkb (x4 + 1, u14) h
set_option maxRecDepth 20000 in
set_option maxHeartbeats 4000000 in
theorem wb_X3_write_11 {p : Program} {l : Launch} {e : Env} {R : Room} {s : State} {m : MethodId} {args : Array Value} {below : List Frame} {meth : Method} {c : Code} {g : z_G} {u : z_M} {res : z_M} (hR : R = z_rm 2) (X : z_X p R s m args meth c cX3_write 7 RX3 wsX3_write none g z_shC) (x1 : Nat) (x2 : Int32) (x3 : Int32) (ex1 : z_PO x1) (q : Int32 × z_M) (kb : (Int32 × z_M) → Option (z_M)) (kx : z_M → Option (z_M)) (hkb : ∀ q, kb q = some res → z_V p l e R s m args below meth c 7 g z_shC (MQ below (z_Qc g z_shC (fun v u' => v = none ∧ u' = res)) args s 0 0 (z_A g z_shC)) 11 [(0, .ref (z_ad g 134)), (1, .ref (z_ad g x1)), (2, .int x2), (3, .int x3), (4, .int q.1)] [] q.2) (hkx : ∀ t, kx t = some res → z_V p l e R s m args below meth c 7 g z_shC (MQ below (z_Qc g z_shC (fun v u' => v = none ∧ u' = res)) args s 0 0 (z_A g z_shC)) 101 [] [] t) (h : b_X3_write_11 x1 x2 x3 q kb kx = some res) : z_V p l e R s m args below meth c 7 g z_shC (MQ below (z_Qc g z_shC (fun v u' => v = none ∧ u' = res)) args s 0 0 (z_A g z_shC)) 11 [(0, .ref (z_ad g 134)), (1, .ref (z_ad g x1)), (2, .int x2), (3, .int x3), (4, .int q.1)] [] q.2 := by
  unfold b_X3_write_11 at h
  refine z_iload X 4 dX3_write_11 rfl (z_bipush X (v := 9) dX3_write_13 (by decide) (z_icmp_ge X 101 dX3_write_15 (by decide) (fun c2 => ?_) (fun c2 => ?_)))
  · replace h := z_ip c2 h
    refine z_sub [] [] rfl ?_
    exact hkx q.2 h
  · replace h := z_in c2 h
    obtain ⟨r3, er3, h⟩ := z_bs h
    refine z_iload_n X 2 dX3_write_18 rfl rfl (z_iload X 4 dX3_write_19 rfl (z_callNi X (r := r3) (u1 := q.2) [.int x2, .int q.1] [] (w_X9_isIn l g x2 q.1 q.2 er3) gX3_write_X9_isIn_n61 nn_X3 ini_X9_isIn_X3_write sta_X9_isIn_X3_write hy_X9_isIn.2 rfl (z_le1 hR (by decide)) (z_le2 hR (by decide) (by decide)) (Nat.le_of_ble_eq_true rfl) dX3_write_21 (z_if_ne X 30 dX3_write_24 (by decide) (fun c4 => ?_) (fun c4 => ?_))))
    · replace h := z_in c4 h
      obtain ⟨b5, h⟩ := z_gs h
      obtain ⟨v6, ev6, h⟩ := z_ls h
      refine z_aload_n X 0 dX3_write_30 rfl rfl (z_getR X (k0 := 0) z_c134 rfl in_X3_write_X3 (by decide) rfl rfl lk_X3_write_9 dX3_write_31 (z_iload_n X 2 dX3_write_34 rfl rfl (z_iconst X (v := 1) dX3_write_35 (by decide) (z_iload X 4 dX3_write_36 rfl (z_ishl X dX3_write_38 (z_iconst X (v := (-1)) dX3_write_39 (by decide) (z_ixor X dX3_write_40 (z_iand X dX3_write_41 (z_iald X z_c135 (z_inS b5) dX3_write_42 (z_ti ev6 (z_istore X [(5, .int v6), (0, .ref (z_ad g 134)), (1, .ref (z_ad g x1)), (2, .int x2), (3, .int x3), (4, .int q.1)] dX3_write_43 (by decide) rfl (z_iload X 0 dX3_write_45 rfl (z_bipush X (v := 35) dX3_write_47 (by decide) (z_icmp_ge X 95 dX3_write_49 (by decide) (fun c7 => ?_) (fun c7 => ?_)))))))))))))))
      · replace h := z_ip c7 h
        refine z_iinc X (v := q.1 + 1) 5 [(4, .int (q.1 + 1)), (5, .int v6), (0, .ref (z_ad g 134)), (1, .ref (z_ad g x1)), (2, .int x2), (3, .int x3)] dX3_write_95 rfl rfl (by decide) rfl (z_goto X 11 dX3_write_98 (by decide) (z_sub [2, 3, 4, 5, 0] [(0, .ref (z_ad g 134)), (1, .ref (z_ad g x1)), (2, .int x2), (3, .int x3), (4, .int (q.1 + 1))] rfl ?_))
        exact hkb (q.1 + 1, q.2) h
      · replace h := z_in c7 h
        obtain ⟨b8, h⟩ := z_gs h
        refine z_iload_n X 3 dX3_write_52 rfl rfl (z_aload_n X 2 dX3_write_53 rfl rfl (z_getR X (k0 := 4) (z_po ex1) rfl in_X3_write_X6 (by decide) rfl rfl lk_X3_write_64 dX3_write_54 (z_iload X 5 dX3_write_57 rfl (z_iald X (z_poU ex1) (z_inS b8) dX3_write_59 (z_iand X dX3_write_60 (z_callSi X (r := z_bitc (x2 &&& (z_gI q.2 (x1 + 2) q.1.toNatClampNeg))) (u1 := q.2) [.int (x2 &&& (z_gI q.2 (x1 + 2) q.1.toNatClampNeg))] [] (w_bitc l g z_shC (x2 &&& (z_gI q.2 (x1 + 2) q.1.toNatClampNeg)) q.2) gX3_write_J6_bitCount_0f7a4 hy_J6_bitCount_0f7a4.2 rfl (z_le1 hR (by decide)) (z_le2 hR (by decide) (by decide)) (Nat.le_of_ble_eq_true rfl) dX3_write_61 (z_iconst X (v := 1) dX3_write_64 (by decide) (z_iand X dX3_write_65 (z_if_ne X 73 dX3_write_66 (by decide) (fun c9 => ?_) (fun c9 => ?_))))))))))
        · replace h := z_in c9 h
          refine z_iconst X (v := 0) dX3_write_73 (by decide) (z_sub [1, 2, 3, 4, 5, 0] [(0, .ref (z_ad g 134)), (1, .ref (z_ad g x1)), (2, .int x2), (3, .int x3), (4, .int q.1), (5, .int v6)] rfl ?_)
          exact wj_X3_write_j74 (u := q.2) hR X x1 x2 x3 ex1 q.1 v6 0 q.2 kb kx hkb hkx h
        · replace h := z_ip c9 h
          refine z_iconst X (v := 1) dX3_write_69 (by decide) (z_goto X 74 dX3_write_70 (by decide) (z_sub [1, 2, 3, 4, 5, 0] [(0, .ref (z_ad g 134)), (1, .ref (z_ad g x1)), (2, .int x2), (3, .int x3), (4, .int q.1), (5, .int v6)] rfl ?_))
          exact wj_X3_write_j74 (u := q.2) hR X x1 x2 x3 ex1 q.1 v6 1 q.2 kb kx hkb hkx h
    · replace h := z_ip c4 h
      refine z_goto X 95 dX3_write_27 (by decide) (z_iinc X (v := q.1 + 1) 4 [(4, .int (q.1 + 1)), (0, .ref (z_ad g 134)), (1, .ref (z_ad g x1)), (2, .int x2), (3, .int x3)] dX3_write_95 rfl rfl (by decide) rfl (z_goto X 11 dX3_write_98 (by decide) (z_sub [1, 2, 3, 4, 0] [(0, .ref (z_ad g 134)), (1, .ref (z_ad g x1)), (2, .int x2), (3, .int x3), (4, .int (q.1 + 1))] rfl ?_)))
      exact hkb (q.1 + 1, q.2) h
set_option maxRecDepth 20000 in
set_option maxHeartbeats 4000000 in
theorem w_X3_write (l : Launch) (g : z_G) (a1 : Nat) (a2 : Int32) (a3 : Int32) (ea1 : z_PO a1) (u : z_M) {res : z_M} (h : f_X3_write a1 a2 a3 u = some res) : z_C l g z_shC yX3_write wsX3_write 2 [.ref (z_ad g 134), .ref (z_ad g a1), .int a2, .int a3] u (fun v u' => v = none ∧ u' = res) := by
  refine z_C.mk (lv := [(0, .ref (z_ad g 134)), (1, .ref (z_ad g a1)), (2, .int a2), (3, .int a3)]) (cc := cX3_write) (nL := 7) (rt := none) rfl (by decide) (Nat.le_of_ble_eq_true rfl) rfl (fun p e R s m args below meth c hR X => ?_)
  unfold f_X3_write at h
  obtain ⟨u1, eu1, h⟩ := z_ls h
  refine z_aload_n X 0 dX3_write_0 rfl rfl (z_getR X (k0 := 2) z_c134 rfl in_X3_write_X3 (by decide) rfl rfl lk_X3_write_18 dX3_write_1 (z_iconst X (v := 0) dX3_write_4 (by decide) (z_callSv X (u1 := (z_fill u 137 35 0)) [.ref (z_ad g 137), .int 0] [] (w_fill l g z_shC 137 35 z_c137 0 u) gX3_write_J7_fill_53178 hy_J7_fill_53178.2 rfl (z_le1 hR (by decide)) (z_le2 hR (by decide) (by decide)) (Nat.le_of_ble_eq_true rfl) dX3_write_5 (z_nm eu1 (z_iconst X (v := 0) dX3_write_8 (by decide) (z_istore X [(4, .int 0), (0, .ref (z_ad g 134)), (1, .ref (z_ad g a1)), (2, .int a2), (3, .int a3)] dX3_write_9 (by decide) rfl (z_sub [1, 2, 3, 4, 0] [(0, .ref (z_ad g 134)), (1, .ref (z_ad g a1)), (2, .int a2), (3, .int a3), (4, .int 0)] rfl ?_)))))))
  have hw := z_lp_w (fun q9 kb9 kx9 h1 h2 h3 => wb_X3_write_11 (l := l) (e := e) (below := below) (u := u1) hR X a1 a2 a3 ea1 q9 kb9 kx9 h1 h2 h3) z_F _ _ h
  refine hw (fun t15 h => ?_)
  cases h; exact z_vret X rfl dX3_write_101 ⟨rfl, rfl⟩
