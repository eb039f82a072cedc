theorem lk_X10_lexed_82 : (Cond.fieldLink RX10 82 RX10 (TX10 0).2.1 (TX10 0).2.2.1) ∈ wsX10_lexed := by decide +kernel
theorem in_X10_lexed_X10 : ∀ w ∈ u_ws RX10 TX10 30, w ∈ wsX10_lexed := fun _ h => List.mem_cons_of_mem _ (List.mem_append_right _ h)
def b_X10_lexed_25 (x1 : Int32) : (Int32 × z_M) → ((Int32 × z_M) → Option (Int32 × z_M)) → (z_M → Option (Int32 × z_M)) → Option (Int32 × z_M) := fun q kb kx =>
  if 9 ≤ q.1 then (kx q.2) else (Option.bind (f_X10_areThere x1 q.1 q.2) (fun r6 => if r6 = 0 then (kb (q.1 + 1, q.2)) else (Option.bind (f_X10_isBelow x1 q.1 q.2) (fun r8 => if r8 = 0 then (kb (q.1 + 1, q.2)) else (Option.bind (f_X10_layChains x1 q.1 q.2) (fun r10 => Option.bind (f_X10_chainsBy 1 r10) (fun r11 => if r11 = 1 then (Option.bind (f_X10_isRising 0 r10) (fun r13 => if r13 = 0 then (some ((10 * x1) + q.1, r10)) else (kb (q.1 + 1, r10)))) else (some ((10 * x1) + q.1, r10)))))))))
def b_X10_lexed_17  : (Int32 × z_M) → ((Int32 × z_M) → Option (Int32 × z_M)) → (z_M → Option (Int32 × z_M)) → Option (Int32 × z_M) := fun q kb kx =>
  if 9 ≤ q.1 then (kx q.2) else (z_lp (b_X10_lexed_25 q.1) z_F (0, q.2) (fun t15 => kb (q.1 + 1, t15)))
def f_X10_lexed (u : z_M) : Option (Int32 × z_M) :=
  z_lt (z_sI u 0 0 0) (fun u1 => Option.bind (f_X10_isTold u1) (fun r2 => if r2 = 0 then (some ((-2), u1)) else (z_lp b_X10_lexed_17 z_F (0, u1) (fun t16 => some ((-1), t16)))))
set_option maxRecDepth 20000 in
set_option maxHeartbeats 4000000 in
theorem wb_X10_lexed_25 {p : Program} {l : Launch} {e : Env} {R : Room} {s : State} {m : MethodId} {args : Array Value} {below : List Frame} {meth : Method} {c : Code} {g : z_G} {u : z_M} {res : Int32 × z_M} (hR : R = z_rm 7) (X : z_X p R s m args meth c cX10_lexed 3 RX10 wsX10_lexed (some .int) g z_shR) (x1 : Int32) (q : Int32 × z_M) (kb : (Int32 × z_M) → Option (Int32 × z_M)) (kx : z_M → Option (Int32 × z_M)) (hkb : ∀ q, kb q = some res → z_V p l e R s m args below meth c 3 g z_shR (MQ below (z_Qc g z_shR (fun v u' => v = some (.int res.1) ∧ u' = res.2)) args s 0 0 (z_A g z_shR)) 25 [(0, .ref (z_ad g 0)), (1, .int x1), (2, .int q.1)] [] q.2) (hkx : ∀ t, kx t = some res → z_V p l e R s m args below meth c 3 g z_shR (MQ below (z_Qc g z_shR (fun v u' => v = some (.int res.1) ∧ u' = res.2)) args s 0 0 (z_A g z_shR)) 85 [(0, .ref (z_ad g 0)), (1, .int x1)] [] t) (h : b_X10_lexed_25 x1 q kb kx = some res) : z_V p l e R s m args below meth c 3 g z_shR (MQ below (z_Qc g z_shR (fun v u' => v = some (.int res.1) ∧ u' = res.2)) args s 0 0 (z_A g z_shR)) 25 [(0, .ref (z_ad g 0)), (1, .int x1), (2, .int q.1)] [] q.2 := by
  unfold b_X10_lexed_25 at h
  refine z_iload_n X 2 dX10_lexed_25 rfl rfl (z_bipush X (v := 9) dX10_lexed_26 (by decide) (z_icmp_ge X 85 dX10_lexed_28 (by decide) (fun c5 => ?_) (fun c5 => ?_)))
  · replace h := z_ip c5 h
    refine z_sub [0, 1] [(0, .ref (z_ad g 0)), (1, .int x1)] rfl ?_
    exact hkx q.2 h
  · replace h := z_in c5 h
    obtain ⟨r6, er6, h⟩ := z_bs h
    refine z_aload_n X 0 dX10_lexed_31 rfl rfl (z_iload_n X 1 dX10_lexed_32 rfl rfl (z_iload_n X 2 dX10_lexed_33 rfl rfl (z_callVi X (r := r6) (u1 := q.2) [.int x1, .int q.1] [] (w_X10_areThere l g x1 q.1 q.2 er6) z_r0 rfl gX10_lexed_X10_areThere hy_X10_areThere rfl (z_le1 hR (by decide)) (z_le2 hR (by decide) (by decide)) (Nat.le_of_ble_eq_true rfl) dX10_lexed_34 (z_if_eq X 79 dX10_lexed_37 (by decide) (fun c7 => ?_) (fun c7 => ?_)))))
    · replace h := z_ip c7 h
      refine z_iinc X (v := q.1 + 1) 2 [(2, .int (q.1 + 1)), (0, .ref (z_ad g 0)), (1, .int x1)] dX10_lexed_79 rfl rfl (by decide) rfl (z_goto X 25 dX10_lexed_82 (by decide) (z_sub [1, 2, 0] [(0, .ref (z_ad g 0)), (1, .int x1), (2, .int (q.1 + 1))] rfl ?_))
      exact hkb (q.1 + 1, q.2) h
    · replace h := z_in c7 h
      obtain ⟨r8, er8, h⟩ := z_bs h
      refine z_aload_n X 0 dX10_lexed_40 rfl rfl (z_iload_n X 1 dX10_lexed_41 rfl rfl (z_iload_n X 2 dX10_lexed_42 rfl rfl (z_callVi X (r := r8) (u1 := q.2) [.int x1, .int q.1] [] (w_X10_isBelow l g x1 q.1 q.2 er8) z_r0 rfl gX10_lexed_X10_isBelow hy_X10_isBelow rfl (z_le1 hR (by decide)) (z_le2 hR (by decide) (by decide)) (Nat.le_of_ble_eq_true rfl) dX10_lexed_43 (z_if_eq X 79 dX10_lexed_46 (by decide) (fun c9 => ?_) (fun c9 => ?_)))))
      · replace h := z_ip c9 h
        refine z_iinc X (v := q.1 + 1) 2 [(2, .int (q.1 + 1)), (0, .ref (z_ad g 0)), (1, .int x1)] dX10_lexed_79 rfl rfl (by decide) rfl (z_goto X 25 dX10_lexed_82 (by decide) (z_sub [1, 2, 0] [(0, .ref (z_ad g 0)), (1, .int x1), (2, .int (q.1 + 1))] rfl ?_))
        exact hkb (q.1 + 1, q.2) h
      · replace h := z_in c9 h
        obtain ⟨r10, er10, h⟩ := z_bs h
        obtain ⟨r11, er11, h⟩ := z_bs h
        refine z_aload_n X 0 dX10_lexed_49 rfl rfl (z_iload_n X 1 dX10_lexed_50 rfl rfl (z_iload_n X 2 dX10_lexed_51 rfl rfl (z_callVv X (u1 := r10) [.int x1, .int q.1] [] (w_X10_layChains l g x1 q.1 q.2 er10) z_r0 rfl gX10_lexed_X10_layChains hy_X10_layChains rfl (z_le1 hR (by decide)) (z_le2 hR (by decide) (by decide)) (Nat.le_of_ble_eq_true rfl) dX10_lexed_52 (z_aload_n X 0 dX10_lexed_55 rfl rfl (z_iconst X (v := 1) dX10_lexed_56 (by decide) (z_callVi X (r := r11) (u1 := r10) [.int 1] [] (w_X10_chainsBy l g 1 r10 er11) z_r0 rfl gX10_lexed_X10_chainsBy hy_X10_chainsBy rfl (z_le1 hR (by decide)) (z_le2 hR (by decide) (by decide)) (Nat.le_of_ble_eq_true rfl) dX10_lexed_57 (z_iconst X (v := 1) dX10_lexed_60 (by decide) (z_icmp_ne X 72 dX10_lexed_61 (by decide) (fun c12 => ?_) (fun c12 => ?_)))))))))
        · replace h := z_in c12 h
          refine z_bipush X (v := 10) dX10_lexed_72 (by decide) (z_iload_n X 1 dX10_lexed_74 rfl rfl (z_imul X dX10_lexed_75 (z_iload_n X 2 dX10_lexed_76 rfl rfl (z_iadd X dX10_lexed_77 ?_))))
          cases h; exact z_iret X rfl dX10_lexed_78 ⟨rfl, rfl⟩
        · replace h := z_ip c12 h
          obtain ⟨r13, er13, h⟩ := z_bs h
          refine z_aload_n X 0 dX10_lexed_64 rfl rfl (z_iconst X (v := 0) dX10_lexed_65 (by decide) (z_callVi X (r := r13) (u1 := r10) [.int 0] [] (w_X10_isRising l g 0 r10 er13) z_r0 rfl gX10_lexed_X10_isRising hy_X10_isRising rfl (z_le1 hR (by decide)) (z_le2 hR (by decide) (by decide)) (Nat.le_of_ble_eq_true rfl) dX10_lexed_66 (z_if_ne X 79 dX10_lexed_69 (by decide) (fun c14 => ?_) (fun c14 => ?_))))
          · replace h := z_in c14 h
            refine z_iinc X (v := q.1 + 1) 2 [(2, .int (q.1 + 1)), (0, .ref (z_ad g 0)), (1, .int x1)] dX10_lexed_79 rfl rfl (by decide) rfl (z_goto X 25 dX10_lexed_82 (by decide) (z_sub [1, 2, 0] [(0, .ref (z_ad g 0)), (1, .int x1), (2, .int (q.1 + 1))] rfl ?_))
            exact hkb (q.1 + 1, r10) h
          · replace h := z_ip c14 h
            refine z_bipush X (v := 10) dX10_lexed_72 (by decide) (z_iload_n X 1 dX10_lexed_74 rfl rfl (z_imul X dX10_lexed_75 (z_iload_n X 2 dX10_lexed_76 rfl rfl (z_iadd X dX10_lexed_77 ?_))))
            cases h; exact z_iret X rfl dX10_lexed_78 ⟨rfl, rfl⟩
set_option maxRecDepth 20000 in
set_option maxHeartbeats 4000000 in
theorem wb_X10_lexed_17 {p : Program} {l : Launch} {e : Env} {R : Room} {s : State} {m : MethodId} {args : Array Value} {below : List Frame} {meth : Method} {c : Code} {g : z_G} {u : z_M} {res : Int32 × z_M} (hR : R = z_rm 7) (X : z_X p R s m args meth c cX10_lexed 3 RX10 wsX10_lexed (some .int) g z_shR)  (q : Int32 × z_M) (kb : (Int32 × z_M) → Option (Int32 × z_M)) (kx : z_M → Option (Int32 × z_M)) (hkb : ∀ q, kb q = some res → z_V p l e R s m args below meth c 3 g z_shR (MQ below (z_Qc g z_shR (fun v u' => v = some (.int res.1) ∧ u' = res.2)) args s 0 0 (z_A g z_shR)) 17 [(0, .ref (z_ad g 0)), (1, .int q.1)] [] q.2) (hkx : ∀ t, kx t = some res → z_V p l e R s m args below meth c 3 g z_shR (MQ below (z_Qc g z_shR (fun v u' => v = some (.int res.1) ∧ u' = res.2)) args s 0 0 (z_A g z_shR)) 91 [] [] t) (h : b_X10_lexed_17 q kb kx = some res) : z_V p l e R s m args below meth c 3 g z_shR (MQ below (z_Qc g z_shR (fun v u' => v = some (.int res.1) ∧ u' = res.2)) args s 0 0 (z_A g z_shR)) 17 [(0, .ref (z_ad g 0)), (1, .int q.1)] [] q.2 := by
  unfold b_X10_lexed_17 at h
  refine z_iload_n X 1 dX10_lexed_17 rfl rfl (z_bipush X (v := 9) dX10_lexed_18 (by decide) (z_icmp_ge X 91 dX10_lexed_20 (by decide) (fun c4 => ?_) (fun c4 => ?_)))
  · replace h := z_ip c4 h
    refine z_sub [] [] rfl ?_
    exact hkx q.2 h
  · replace h := z_in c4 h
    refine z_iconst X (v := 0) dX10_lexed_23 (by decide) (z_istore_n X [(2, .int 0), (0, .ref (z_ad g 0)), (1, .int q.1)] dX10_lexed_24 rfl (by decide) rfl (z_sub [1, 2, 0] [(0, .ref (z_ad g 0)), (1, .int q.1), (2, .int 0)] rfl ?_))
    have hw := z_lp_w (fun q9 kb9 kx9 h1 h2 h3 => wb_X10_lexed_25 (l := l) (e := e) (below := below) (u := q.2) hR X q.1 q9 kb9 kx9 h1 h2 h3) z_F _ _ h
    refine hw (fun t15 h => ?_)
    refine z_iinc X (v := q.1 + 1) 1 [(1, .int (q.1 + 1)), (0, .ref (z_ad g 0))] dX10_lexed_85 rfl rfl (by decide) rfl (z_goto X 17 dX10_lexed_88 (by decide) (z_sub [1, 0] [(0, .ref (z_ad g 0)), (1, .int (q.1 + 1))] rfl ?_))
    exact hkb (q.1 + 1, t15) h
set_option maxRecDepth 20000 in
set_option maxHeartbeats 4000000 in
theorem w_X10_lexed (l : Launch) (g : z_G)  (u : z_M) {res : Int32 × z_M} (h : f_X10_lexed u = some res) : z_C l g z_shR yX10_lexed wsX10_lexed 7 [.ref (z_ad g 0)] u (fun v u' => v = some (.int res.1) ∧ u' = res.2) := by
  refine z_C.mk (lv := [(0, .ref (z_ad g 0))]) (cc := cX10_lexed) (nL := 3) (rt := (some .int)) rfl (by decide) (Nat.le_of_ble_eq_true rfl) rfl (fun p e R s m args below meth c hR X => ?_)
  unfold f_X10_lexed at h
  obtain ⟨u1, eu1, h⟩ := z_ls h
  obtain ⟨r2, er2, h⟩ := z_bs h
  refine z_aload_n X 0 dX10_lexed_0 rfl rfl (z_iconst X (v := 0) dX10_lexed_1 (by decide) (z_putI X (k0 := 0) (ty0 := tyX10) z_r0 rfl in_X10_lexed_X10 tyX10_ok nmX10 (by decide) rfl rfl rfl rfl rfl lk_X10_lexed_82 dX10_lexed_2 (z_nm eu1 (z_aload_n X 0 dX10_lexed_5 rfl rfl (z_callVi X (r := r2) (u1 := u1) [] [] (w_X10_isTold l g u1 er2) z_r0 rfl gX10_lexed_X10_isTold hy_X10_isTold rfl (z_le1 hR (by decide)) (z_le2 hR (by decide) (by decide)) (Nat.le_of_ble_eq_true rfl) dX10_lexed_6 (z_if_ne X 15 dX10_lexed_9 (by decide) (fun c3 => ?_) (fun c3 => ?_)))))))
  · replace h := z_in c3 h
    refine z_iconst X (v := 0) dX10_lexed_15 (by decide) (z_istore_n X [(1, .int 0), (0, .ref (z_ad g 0))] dX10_lexed_16 rfl (by decide) rfl (z_sub [1, 0] [(0, .ref (z_ad g 0)), (1, .int 0)] rfl ?_))
    have hw := z_lp_w (fun q9 kb9 kx9 h1 h2 h3 => wb_X10_lexed_17 (l := l) (e := e) (below := below) (u := u1) hR X q9 kb9 kx9 h1 h2 h3) z_F _ _ h
    refine hw (fun t16 h => ?_)
    refine z_iconst X (v := (-1)) dX10_lexed_91 (by decide) ?_
    cases h; exact z_iret X rfl dX10_lexed_92 ⟨rfl, rfl⟩
  · replace h := z_ip c3 h
    refine z_bipush X (v := (-2)) dX10_lexed_12 (by decide) ?_
    cases h; exact z_iret X rfl dX10_lexed_14 ⟨rfl, rfl⟩

theorem lk_X10_layMoebius_57 : (Cond.fieldLink RX10 57 RX10 (TX10 22).2.1 (TX10 22).2.2.1) ∈ wsX10_layMoebius := by decide +kernel
theorem in_X10_layMoebius_X10 : ∀ w ∈ u_ws RX10 TX10 30, w ∈ wsX10_layMoebius := fun _ h => List.mem_cons_of_mem _ (List.mem_append_right _ h)
def b_X10_layMoebius_88 (x1 : Int32) (x4 : Int32) (x5 : Int32) (x6 : Int32) (x7 : Int32) (x8 : Int32) (u : z_M) : (Int32 × Int32) → ((Int32 × Int32) → Option (z_M)) → (Int32 → Option (z_M)) → Option (z_M) := fun q kb kx =>
  if 9 ≤ q.2 then (kx q.1) else (Option.bind (f_X10_has x8 q.2) (fun r12 => if r12 = 0 then (z_lt (q.1 - 0) (fun v14 => kb (v14, q.2 + 1))) else (z_gd (z_inb q.2 9) (z_lt (q.1 - (z_gI u 14 q.2.toNatClampNeg)) (fun v16 => kb (v16, q.2 + 1))))))
def b_X10_layMoebius_26 (x1 : Int32) (x4 : Int32) (x6 : Int32) : (Int32 × Int32 × z_M) → ((Int32 × Int32 × z_M) → Option (z_M)) → ((Int32 × z_M) → Option (z_M)) → Option (z_M) := fun q kb kx =>
  if 9 ≤ q.2.1 then (kx (q.1, q.2.2)) else (Option.bind (f_X10_below q.2.1 q.2.2) (fun r5 => z_lt (x4 &&& r5) (fun v6 => Option.bind (f_X10_has (x4 &&& (q.1 ^^^ (-1))) q.2.1) (fun r7 => if r7 = 0 then (kb (q.1, q.2.1 + 1, q.2.2)) else (if (v6 &&& (q.1 ^^^ (-1))) = 0 then (if q.2.1 = x1 then (z_lp (b_X10_layMoebius_88 x1 x4 q.1 x6 q.2.1 v6 q.2.2) z_F (1, 0) (fun t17 => z_gd (z_inb q.2.1 9) (z_lt (z_sI q.2.2 14 q.2.1.toNatClampNeg t17) (fun u19 => z_lt (q.1 ||| (1 <<< (q.2.1 &&& 31))) (fun v20 => kb (v20, q.2.1 + 1, u19)))))) else (z_lp (b_X10_layMoebius_88 x1 x4 q.1 x6 q.2.1 v6 q.2.2) z_F (0, 0) (fun t21 => z_gd (z_inb q.2.1 9) (z_lt (z_sI q.2.2 14 q.2.1.toNatClampNeg t21) (fun u23 => z_lt (q.1 ||| (1 <<< (q.2.1 &&& 31))) (fun v24 => kb (v24, q.2.1 + 1, u23))))))) else (kb (q.1, q.2.1 + 1, q.2.2)))))))
def b_X10_layMoebius_16 (x1 : Int32) (x4 : Int32) : (Int32 × Int32 × z_M) → ((Int32 × Int32 × z_M) → Option (z_M)) → (z_M → Option (z_M)) → Option (z_M) := fun q kb kx =>
  if 9 ≤ q.2.1 then (kx q.2.2) else (z_lp (b_X10_layMoebius_26 x1 x4 q.2.1) z_F (q.1, 0, q.2.2) (fun t25 => kb (t25.1, q.2.1 + 1, t25.2)))
def f_X10_layMoebius (a1 : Int32) (a2 : Int32) (a3 : Int32) (u : z_M) : Option (z_M) :=
  Option.bind (f_X10_between a1 a2 u) (fun r1 => z_lt (r1 &&& a3) (fun v2 => z_lp (b_X10_layMoebius_16 a1 v2) z_F (0, 0, u) (fun t26 => some t26)))
set_option maxRecDepth 20000 in
set_option maxHeartbeats 4000000 in
theorem wb_X10_layMoebius_88 {p : Program} {l : Launch} {e : Env} {R : Room} {s : State} {m : MethodId} {args : Array Value} {below : List Frame} {meth : Method} {c : Code} {g : z_G} {u : z_M} {res : z_M} (hR : R = z_rm 6) (X : z_X p R s m args meth c cX10_layMoebius 11 RX10 wsX10_layMoebius none g z_shR) (x1 : Int32) (x4 : Int32) (x5 : Int32) (x6 : Int32) (x7 : Int32) (x8 : Int32) (q : Int32 × Int32) (kb : (Int32 × Int32) → Option (z_M)) (kx : Int32 → Option (z_M)) (hkb : ∀ q, kb q = some res → z_V p l e R s m args below meth c 11 g z_shR (MQ below (z_Qc g z_shR (fun v u' => v = none ∧ u' = res)) args s 0 0 (z_A g z_shR)) 88 [(0, .ref (z_ad g 0)), (1, .int x1), (4, .int x4), (5, .int x5), (6, .int x6), (7, .int x7), (8, .int x8), (9, .int q.1), (10, .int q.2)] [] u) (hkx : ∀ t, kx t = some res → z_V p l e R s m args below meth c 11 g z_shR (MQ below (z_Qc g z_shR (fun v u' => v = none ∧ u' = res)) args s 0 0 (z_A g z_shR)) 127 [(0, .ref (z_ad g 0)), (1, .int x1), (4, .int x4), (5, .int x5), (6, .int x6), (7, .int x7), (9, .int t)] [] u) (h : b_X10_layMoebius_88 x1 x4 x5 x6 x7 x8 u q kb kx = some res) : z_V p l e R s m args below meth c 11 g z_shR (MQ below (z_Qc g z_shR (fun v u' => v = none ∧ u' = res)) args s 0 0 (z_A g z_shR)) 88 [(0, .ref (z_ad g 0)), (1, .int x1), (4, .int x4), (5, .int x5), (6, .int x6), (7, .int x7), (8, .int x8), (9, .int q.1), (10, .int q.2)] [] u := by
  unfold b_X10_layMoebius_88 at h
  refine z_iload X 8 dX10_layMoebius_88 rfl (z_bipush X (v := 9) dX10_layMoebius_90 (by decide) (z_icmp_ge X 127 dX10_layMoebius_92 (by decide) (fun c11 => ?_) (fun c11 => ?_)))
  · replace h := z_ip c11 h
    refine z_sub [0, 1, 2, 3, 4, 5, 7] [(0, .ref (z_ad g 0)), (1, .int x1), (4, .int x4), (5, .int x5), (6, .int x6), (7, .int x7), (9, .int q.1)] rfl ?_
    exact hkx q.1 h
  · replace h := z_in c11 h
    obtain ⟨r12, er12, h⟩ := z_bs h
    refine z_iload X 7 dX10_layMoebius_95 rfl (z_iload X 6 dX10_layMoebius_97 rfl (z_iload X 8 dX10_layMoebius_99 rfl (z_callSi X (r := r12) (u1 := u) [.int x8, .int q.2] [.int q.1] (w_X10_has l g x8 q.2 u er12) gX10_layMoebius_X10_has hy_X10_has.2 rfl (z_le1 hR (by decide)) (z_le2 hR (by decide) (by decide)) (Nat.le_of_ble_eq_true rfl) dX10_layMoebius_101 (z_if_eq X 117 dX10_layMoebius_104 (by decide) (fun c13 => ?_) (fun c13 => ?_)))))
    · replace h := z_ip c13 h
      obtain ⟨v14, ev14, h⟩ := z_ls h
      refine z_iconst X (v := 0) dX10_layMoebius_117 (by decide) (z_isub X dX10_layMoebius_118 (z_ti ev14 (z_istore X [(9, .int v14), (0, .ref (z_ad g 0)), (1, .int x1), (4, .int x4), (5, .int x5), (6, .int x6), (7, .int x7), (8, .int x8), (10, .int q.2)] dX10_layMoebius_119 (by decide) rfl (z_iinc X (v := q.2 + 1) 8 [(10, .int (q.2 + 1)), (9, .int v14), (0, .ref (z_ad g 0)), (1, .int x1), (4, .int x4), (5, .int x5), (6, .int x6), (7, .int x7), (8, .int x8)] dX10_layMoebius_121 rfl rfl (by decide) rfl (z_goto X 88 dX10_layMoebius_124 (by decide) (z_sub [2, 3, 4, 5, 6, 7, 8, 1, 0] [(0, .ref (z_ad g 0)), (1, .int x1), (4, .int x4), (5, .int x5), (6, .int x6), (7, .int x7), (8, .int x8), (9, .int v14), (10, .int (q.2 + 1))] rfl ?_))))))
      exact hkb (v14, q.2 + 1) h
    · replace h := z_in c13 h
      obtain ⟨b15, h⟩ := z_gs h
      obtain ⟨v16, ev16, h⟩ := z_ls h
      refine z_aload_n X 0 dX10_layMoebius_107 rfl rfl (z_getR X (k0 := 22) z_r0 rfl in_X10_layMoebius_X10 (by decide) rfl rfl lk_X10_layMoebius_57 dX10_layMoebius_108 (z_iload X 8 dX10_layMoebius_111 rfl (z_iald X z_r14 (z_inS b15) dX10_layMoebius_113 (z_goto X 118 dX10_layMoebius_114 (by decide) (z_isub X dX10_layMoebius_118 (z_ti ev16 (z_istore X [(9, .int v16), (0, .ref (z_ad g 0)), (1, .int x1), (4, .int x4), (5, .int x5), (6, .int x6), (7, .int x7), (8, .int x8), (10, .int q.2)] dX10_layMoebius_119 (by decide) rfl (z_iinc X (v := q.2 + 1) 8 [(10, .int (q.2 + 1)), (9, .int v16), (0, .ref (z_ad g 0)), (1, .int x1), (4, .int x4), (5, .int x5), (6, .int x6), (7, .int x7), (8, .int x8)] dX10_layMoebius_121 rfl rfl (by decide) rfl (z_goto X 88 dX10_layMoebius_124 (by decide) (z_sub [2, 3, 4, 5, 6, 7, 8, 1, 0] [(0, .ref (z_ad g 0)), (1, .int x1), (4, .int x4), (5, .int x5), (6, .int x6), (7, .int x7), (8, .int x8), (9, .int v16), (10, .int (q.2 + 1))] rfl ?_))))))))))
      exact hkb (v16, q.2 + 1) h
set_option maxRecDepth 20000 in
set_option maxHeartbeats 4000000 in
theorem wb_X10_layMoebius_26 {p : Program} {l : Launch} {e : Env} {R : Room} {s : State} {m : MethodId} {args : Array Value} {below : List Frame} {meth : Method} {c : Code} {g : z_G} {u : z_M} {res : z_M} (hR : R = z_rm 6) (X : z_X p R s m args meth c cX10_layMoebius 11 RX10 wsX10_layMoebius none g z_shR) (x1 : Int32) (x4 : Int32) (x6 : Int32) (q : Int32 × Int32 × z_M) (kb : (Int32 × Int32 × z_M) → Option (z_M)) (kx : (Int32 × z_M) → Option (z_M)) (hkb : ∀ q, kb q = some res → z_V p l e R s m args below meth c 11 g z_shR (MQ below (z_Qc g z_shR (fun v u' => v = none ∧ u' = res)) args s 0 0 (z_A g z_shR)) 26 [(0, .ref (z_ad g 0)), (1, .int x1), (4, .int x4), (5, .int q.1), (6, .int x6), (7, .int q.2.1)] [] q.2.2) (hkx : ∀ t, kx t = some res → z_V p l e R s m args below meth c 11 g z_shR (MQ below (z_Qc g z_shR (fun v u' => v = none ∧ u' = res)) args s 0 0 (z_A g z_shR)) 151 [(0, .ref (z_ad g 0)), (1, .int x1), (4, .int x4), (5, .int t.1), (6, .int x6)] [] t.2) (h : b_X10_layMoebius_26 x1 x4 x6 q kb kx = some res) : z_V p l e R s m args below meth c 11 g z_shR (MQ below (z_Qc g z_shR (fun v u' => v = none ∧ u' = res)) args s 0 0 (z_A g z_shR)) 26 [(0, .ref (z_ad g 0)), (1, .int x1), (4, .int x4), (5, .int q.1), (6, .int x6), (7, .int q.2.1)] [] q.2.2 := by
  unfold b_X10_layMoebius_26 at h
  refine z_iload X 5 dX10_layMoebius_26 rfl (z_bipush X (v := 9) dX10_layMoebius_28 (by decide) (z_icmp_ge X 151 dX10_layMoebius_30 (by decide) (fun c4 => ?_) (fun c4 => ?_)))
  · replace h := z_ip c4 h
    refine z_sub [0, 1, 2, 3, 4] [(0, .ref (z_ad g 0)), (1, .int x1), (4, .int x4), (5, .int q.1), (6, .int x6)] rfl ?_
    exact hkx (q.1, q.2.2) h
  · replace h := z_in c4 h
    obtain ⟨r5, er5, h⟩ := z_bs h
    obtain ⟨v6, ev6, h⟩ := z_ls h
    obtain ⟨r7, er7, h⟩ := z_bs h
    refine z_iload X 2 dX10_layMoebius_33 rfl (z_aload_n X 0 dX10_layMoebius_35 rfl rfl (z_iload X 5 dX10_layMoebius_36 rfl (z_callVi X (r := r5) (u1 := q.2.2) [.int q.2.1] [.int x4] (w_X10_below l g q.2.1 q.2.2 er5) z_r0 rfl gX10_layMoebius_X10_below hy_X10_below rfl (z_le1 hR (by decide)) (z_le2 hR (by decide) (by decide)) (Nat.le_of_ble_eq_true rfl) dX10_layMoebius_38 (z_iand X dX10_layMoebius_41 (z_ti ev6 (z_istore X [(8, .int v6), (0, .ref (z_ad g 0)), (1, .int x1), (4, .int x4), (5, .int q.1), (6, .int x6), (7, .int q.2.1)] dX10_layMoebius_42 (by decide) rfl (z_iload X 3 dX10_layMoebius_44 rfl (z_iload X 4 dX10_layMoebius_46 rfl (z_iconst X (v := (-1)) dX10_layMoebius_48 (by decide) (z_ixor X dX10_layMoebius_49 (z_iand X dX10_layMoebius_50 (z_iload X 6 dX10_layMoebius_51 rfl (z_callSi X (r := r7) (u1 := q.2.2) [.int (x4 &&& (q.1 ^^^ (-1))), .int q.2.1] [] (w_X10_has l g (x4 &&& (q.1 ^^^ (-1))) q.2.1 q.2.2 er7) gX10_layMoebius_X10_has hy_X10_has.2 rfl (z_le1 hR (by decide)) (z_le2 hR (by decide) (by decide)) (Nat.le_of_ble_eq_true rfl) dX10_layMoebius_53 (z_if_eq X 145 dX10_layMoebius_56 (by decide) (fun c8 => ?_) (fun c8 => ?_)))))))))))))))
    · replace h := z_ip c8 h
      refine z_iinc X (v := q.2.1 + 1) 6 [(7, .int (q.2.1 + 1)), (8, .int v6), (0, .ref (z_ad g 0)), (1, .int x1), (4, .int x4), (5, .int q.1), (6, .int x6)] dX10_layMoebius_145 rfl rfl (by decide) rfl (z_goto X 26 dX10_layMoebius_148 (by decide) (z_sub [2, 3, 4, 5, 6, 0] [(0, .ref (z_ad g 0)), (1, .int x1), (4, .int x4), (5, .int q.1), (6, .int x6), (7, .int (q.2.1 + 1))] rfl ?_))
      exact hkb (q.1, q.2.1 + 1, q.2.2) h
    · replace h := z_in c8 h
      refine z_iload X 0 dX10_layMoebius_59 rfl (z_iload X 4 dX10_layMoebius_61 rfl (z_iconst X (v := (-1)) dX10_layMoebius_63 (by decide) (z_ixor X dX10_layMoebius_64 (z_iand X dX10_layMoebius_65 (z_if_eq X 72 dX10_layMoebius_66 (by decide) (fun c9 => ?_) (fun c9 => ?_))))))
      · replace h := z_ip c9 h
        refine z_iload X 6 dX10_layMoebius_72 rfl (z_iload_n X 2 dX10_layMoebius_74 rfl rfl (z_icmp_ne X 82 dX10_layMoebius_75 (by decide) (fun c10 => ?_) (fun c10 => ?_)))
        · replace h := z_in c10 h
          refine z_iconst X (v := 0) dX10_layMoebius_82 (by decide) (z_istore X [(9, .int 0), (8, .int v6), (0, .ref (z_ad g 0)), (1, .int x1), (4, .int x4), (5, .int q.1), (6, .int x6), (7, .int q.2.1)] dX10_layMoebius_83 (by decide) rfl (z_iconst X (v := 0) dX10_layMoebius_85 (by decide) (z_istore X [(10, .int 0), (9, .int 0), (8, .int v6), (0, .ref (z_ad g 0)), (1, .int x1), (4, .int x4), (5, .int q.1), (6, .int x6), (7, .int q.2.1)] dX10_layMoebius_86 (by decide) rfl (z_sub [3, 4, 5, 6, 7, 8, 2, 1, 0] [(0, .ref (z_ad g 0)), (1, .int x1), (4, .int x4), (5, .int q.1), (6, .int x6), (7, .int q.2.1), (8, .int v6), (9, .int 0), (10, .int 0)] rfl ?_))))
          have hw := z_lp_w (fun q9 kb9 kx9 h1 h2 h3 => wb_X10_layMoebius_88 (l := l) (e := e) (below := below) (u := q.2.2) hR X x1 x4 q.1 x6 q.2.1 v6 q9 kb9 kx9 h1 h2 h3) z_F _ _ h
          refine hw (fun t21 h => ?_)
          obtain ⟨b22, h⟩ := z_gs h
          obtain ⟨u23, eu23, h⟩ := z_ls h
          obtain ⟨v24, ev24, h⟩ := z_ls h
          refine z_aload_n X 0 dX10_layMoebius_127 rfl rfl (z_getR X (k0 := 22) z_r0 rfl in_X10_layMoebius_X10 (by decide) rfl rfl lk_X10_layMoebius_57 dX10_layMoebius_128 (z_iload X 5 dX10_layMoebius_131 rfl (z_iload X 6 dX10_layMoebius_133 rfl (z_iast X z_r14 (z_inS b22) dX10_layMoebius_135 (z_nm eu23 (z_iload X 3 dX10_layMoebius_136 rfl (z_iconst X (v := 1) dX10_layMoebius_138 (by decide) (z_iload X 5 dX10_layMoebius_139 rfl (z_ishl X dX10_layMoebius_141 (z_ior X dX10_layMoebius_142 (z_ti ev24 (z_istore X [(5, .int v24), (0, .ref (z_ad g 0)), (1, .int x1), (4, .int x4), (6, .int x6), (7, .int q.2.1), (9, .int t21)] dX10_layMoebius_143 (by decide) rfl (z_iinc X (v := q.2.1 + 1) 5 [(7, .int (q.2.1 + 1)), (5, .int v24), (0, .ref (z_ad g 0)), (1, .int x1), (4, .int x4), (6, .int x6), (9, .int t21)] dX10_layMoebius_145 rfl rfl (by decide) rfl (z_goto X 26 dX10_layMoebius_148 (by decide) (z_sub [2, 3, 4, 1, 5, 0] [(0, .ref (z_ad g 0)), (1, .int x1), (4, .int x4), (5, .int v24), (6, .int x6), (7, .int (q.2.1 + 1))] rfl ?_)))))))))))))))
          exact hkb (v24, q.2.1 + 1, u23) h
        · replace h := z_ip c10 h
          refine z_iconst X (v := 1) dX10_layMoebius_78 (by decide) (z_goto X 83 dX10_layMoebius_79 (by decide) (z_istore X [(9, .int 1), (8, .int v6), (0, .ref (z_ad g 0)), (1, .int x1), (4, .int x4), (5, .int q.1), (6, .int x6), (7, .int q.2.1)] dX10_layMoebius_83 (by decide) rfl (z_iconst X (v := 0) dX10_layMoebius_85 (by decide) (z_istore X [(10, .int 0), (9, .int 1), (8, .int v6), (0, .ref (z_ad g 0)), (1, .int x1), (4, .int x4), (5, .int q.1), (6, .int x6), (7, .int q.2.1)] dX10_layMoebius_86 (by decide) rfl (z_sub [3, 4, 5, 6, 7, 8, 2, 1, 0] [(0, .ref (z_ad g 0)), (1, .int x1), (4, .int x4), (5, .int q.1), (6, .int x6), (7, .int q.2.1), (8, .int v6), (9, .int 1), (10, .int 0)] rfl ?_)))))
          have hw := z_lp_w (fun q9 kb9 kx9 h1 h2 h3 => wb_X10_layMoebius_88 (l := l) (e := e) (below := below) (u := q.2.2) hR X x1 x4 q.1 x6 q.2.1 v6 q9 kb9 kx9 h1 h2 h3) z_F _ _ h
          refine hw (fun t17 h => ?_)
          obtain ⟨b18, h⟩ := z_gs h
          obtain ⟨u19, eu19, h⟩ := z_ls h
          obtain ⟨v20, ev20, h⟩ := z_ls h
          refine z_aload_n X 0 dX10_layMoebius_127 rfl rfl (z_getR X (k0 := 22) z_r0 rfl in_X10_layMoebius_X10 (by decide) rfl rfl lk_X10_layMoebius_57 dX10_layMoebius_128 (z_iload X 5 dX10_layMoebius_131 rfl (z_iload X 6 dX10_layMoebius_133 rfl (z_iast X z_r14 (z_inS b18) dX10_layMoebius_135 (z_nm eu19 (z_iload X 3 dX10_layMoebius_136 rfl (z_iconst X (v := 1) dX10_layMoebius_138 (by decide) (z_iload X 5 dX10_layMoebius_139 rfl (z_ishl X dX10_layMoebius_141 (z_ior X dX10_layMoebius_142 (z_ti ev20 (z_istore X [(5, .int v20), (0, .ref (z_ad g 0)), (1, .int x1), (4, .int x4), (6, .int x6), (7, .int q.2.1), (9, .int t17)] dX10_layMoebius_143 (by decide) rfl (z_iinc X (v := q.2.1 + 1) 5 [(7, .int (q.2.1 + 1)), (5, .int v20), (0, .ref (z_ad g 0)), (1, .int x1), (4, .int x4), (6, .int x6), (9, .int t17)] dX10_layMoebius_145 rfl rfl (by decide) rfl (z_goto X 26 dX10_layMoebius_148 (by decide) (z_sub [2, 3, 4, 1, 5, 0] [(0, .ref (z_ad g 0)), (1, .int x1), (4, .int x4), (5, .int v20), (6, .int x6), (7, .int (q.2.1 + 1))] rfl ?_)))))))))))))))
          exact hkb (v20, q.2.1 + 1, u19) h
      · replace h := z_in c9 h
        refine z_goto X 145 dX10_layMoebius_69 (by decide) (z_iinc X (v := q.2.1 + 1) 6 [(7, .int (q.2.1 + 1)), (8, .int v6), (0, .ref (z_ad g 0)), (1, .int x1), (4, .int x4), (5, .int q.1), (6, .int x6)] dX10_layMoebius_145 rfl rfl (by decide) rfl (z_goto X 26 dX10_layMoebius_148 (by decide) (z_sub [2, 3, 4, 5, 6, 0] [(0, .ref (z_ad g 0)), (1, .int x1), (4, .int x4), (5, .int q.1), (6, .int x6), (7, .int (q.2.1 + 1))] rfl ?_)))
        exact hkb (q.1, q.2.1 + 1, q.2.2) h
set_option maxRecDepth 20000 in
set_option maxHeartbeats 4000000 in
theorem wb_X10_layMoebius_16 {p : Program} {l : Launch} {e : Env} {R : Room} {s : State} {m : MethodId} {args : Array Value} {below : List Frame} {meth : Method} {c : Code} {g : z_G} {u : z_M} {res : z_M} (hR : R = z_rm 6) (X : z_X p R s m args meth c cX10_layMoebius 11 RX10 wsX10_layMoebius none g z_shR) (x1 : Int32) (x4 : Int32) (q : Int32 × Int32 × z_M) (kb : (Int32 × Int32 × z_M) → Option (z_M)) (kx : z_M → Option (z_M)) (hkb : ∀ q, kb q = some res → z_V p l e R s m args below meth c 11 g z_shR (MQ below (z_Qc g z_shR (fun v u' => v = none ∧ u' = res)) args s 0 0 (z_A g z_shR)) 16 [(0, .ref (z_ad g 0)), (1, .int x1), (4, .int x4), (5, .int q.1), (6, .int q.2.1)] [] q.2.2) (hkx : ∀ t, kx t = some res → z_V p l e R s m args below meth c 11 g z_shR (MQ below (z_Qc g z_shR (fun v u' => v = none ∧ u' = res)) args s 0 0 (z_A g z_shR)) 157 [] [] t) (h : b_X10_layMoebius_16 x1 x4 q kb kx = some res) : z_V p l e R s m args below meth c 11 g z_shR (MQ below (z_Qc g z_shR (fun v u' => v = none ∧ u' = res)) args s 0 0 (z_A g z_shR)) 16 [(0, .ref (z_ad g 0)), (1, .int x1), (4, .int x4), (5, .int q.1), (6, .int q.2.1)] [] q.2.2 := by
  unfold b_X10_layMoebius_16 at h
  refine z_iload X 4 dX10_layMoebius_16 rfl (z_bipush X (v := 9) dX10_layMoebius_18 (by decide) (z_icmp_ge X 157 dX10_layMoebius_20 (by decide) (fun c3 => ?_) (fun c3 => ?_)))
  · replace h := z_ip c3 h
    refine z_sub [] [] rfl ?_
    exact hkx q.2.2 h
  · replace h := z_in c3 h
    refine z_iconst X (v := 0) dX10_layMoebius_23 (by decide) (z_istore X [(7, .int 0), (0, .ref (z_ad g 0)), (1, .int x1), (4, .int x4), (5, .int q.1), (6, .int q.2.1)] dX10_layMoebius_24 (by decide) rfl (z_sub [1, 2, 3, 4, 5, 0] [(0, .ref (z_ad g 0)), (1, .int x1), (4, .int x4), (5, .int q.1), (6, .int q.2.1), (7, .int 0)] rfl ?_))
    have hw := z_lp_w (fun q9 kb9 kx9 h1 h2 h3 => wb_X10_layMoebius_26 (l := l) (e := e) (below := below) (u := q.2.2) hR X x1 x4 q.2.1 q9 kb9 kx9 h1 h2 h3) z_F _ _ h
    refine hw (fun t25 h => ?_)
    refine z_iinc X (v := q.2.1 + 1) 4 [(6, .int (q.2.1 + 1)), (0, .ref (z_ad g 0)), (1, .int x1), (4, .int x4), (5, .int t25.1)] dX10_layMoebius_151 rfl rfl (by decide) rfl (z_goto X 16 dX10_layMoebius_154 (by decide) (z_sub [1, 2, 3, 4, 0] [(0, .ref (z_ad g 0)), (1, .int x1), (4, .int x4), (5, .int t25.1), (6, .int (q.2.1 + 1))] rfl ?_))
    exact hkb (t25.1, q.2.1 + 1, t25.2) h
set_option maxRecDepth 20000 in
set_option maxHeartbeats 4000000 in
theorem w_X10_layMoebius (l : Launch) (g : z_G) (a1 : Int32) (a2 : Int32) (a3 : Int32) (u : z_M) {res : z_M} (h : f_X10_layMoebius a1 a2 a3 u = some res) : z_C l g z_shR yX10_layMoebius wsX10_layMoebius 6 [.ref (z_ad g 0), .int a1, .int a2, .int a3] u (fun v u' => v = none ∧ u' = res) := by
  refine z_C.mk (lv := [(0, .ref (z_ad g 0)), (1, .int a1), (2, .int a2), (3, .int a3)]) (cc := cX10_layMoebius) (nL := 11) (rt := none) rfl (by decide) (Nat.le_of_ble_eq_true rfl) rfl (fun p e R s m args below meth c hR X => ?_)
  unfold f_X10_layMoebius at h
  obtain ⟨r1, er1, h⟩ := z_bs h
  obtain ⟨v2, ev2, h⟩ := z_ls h
  refine z_aload_n X 0 dX10_layMoebius_0 rfl rfl (z_iload_n X 1 dX10_layMoebius_1 rfl rfl (z_iload_n X 2 dX10_layMoebius_2 rfl rfl (z_callVi X (r := r1) (u1 := u) [.int a1, .int a2] [] (w_X10_between l g a1 a2 u er1) z_r0 rfl gX10_layMoebius_X10_between hy_X10_between rfl (z_le1 hR (by decide)) (z_le2 hR (by decide) (by decide)) (Nat.le_of_ble_eq_true rfl) dX10_layMoebius_3 (z_iload_n X 3 dX10_layMoebius_6 rfl rfl (z_iand X dX10_layMoebius_7 (z_ti ev2 (z_istore X [(4, .int v2), (0, .ref (z_ad g 0)), (1, .int a1), (2, .int a2), (3, .int a3)] dX10_layMoebius_8 (by decide) rfl (z_iconst X (v := 0) dX10_layMoebius_10 (by decide) (z_istore X [(5, .int 0), (4, .int v2), (0, .ref (z_ad g 0)), (1, .int a1), (2, .int a2), (3, .int a3)] dX10_layMoebius_11 (by decide) rfl (z_iconst X (v := 0) dX10_layMoebius_13 (by decide) (z_istore X [(6, .int 0), (5, .int 0), (4, .int v2), (0, .ref (z_ad g 0)), (1, .int a1), (2, .int a2), (3, .int a3)] dX10_layMoebius_14 (by decide) rfl (z_sub [3, 4, 2, 1, 0] [(0, .ref (z_ad g 0)), (1, .int a1), (4, .int v2), (5, .int 0), (6, .int 0)] rfl ?_))))))))))))
  have hw := z_lp_w (fun q9 kb9 kx9 h1 h2 h3 => wb_X10_layMoebius_16 (l := l) (e := e) (below := below) (u := u) hR X a1 v2 q9 kb9 kx9 h1 h2 h3) z_F _ _ h
  refine hw (fun t26 h => ?_)
  cases h; exact z_vret X rfl dX10_layMoebius_157 ⟨rfl, rfl⟩

theorem lk_X10_moebius_82 : (Cond.fieldLink RX10 82 RX10 (TX10 0).2.1 (TX10 0).2.2.1) ∈ wsX10_moebius := by decide +kernel
theorem in_X10_moebius_X10 : ∀ w ∈ u_ws RX10 TX10 30, w ∈ wsX10_moebius := fun _ h => List.mem_cons_of_mem _ (List.mem_append_right _ h)
theorem lk_X10_moebius_9 : (Cond.fieldLink RX10 9 RX10 (TX10 1).2.1 (TX10 1).2.2.1) ∈ wsX10_moebius := by decide +kernel
theorem lk_X10_moebius_57 : (Cond.fieldLink RX10 57 RX10 (TX10 22).2.1 (TX10 22).2.2.1) ∈ wsX10_moebius := by decide +kernel
theorem ct316_X10_moebius : Cond.constant RX10 316 (-2147483648) ∈ wsX10_moebius := by decide +kernel
theorem hy_X10_layMoebius : yX10_layMoebius.cls = RX10 ∧ yX10_layMoebius.cls ≠ "java/lang/invoke/MethodHandle" ∧ yX10_layMoebius.cls ≠ "java/lang/invoke/VarHandle" ∧ (parseMethodDescriptor yX10_layMoebius.desc).map (fun d => d.parameters.length) = some 3 := by decide +kernel
def f_X10_moebius (a1 : Int32) (a2 : Int32) (u : z_M) : Option (Int32 × z_M) :=
  z_lt (z_sI u 0 0 0) (fun u1 => Option.bind (f_X10_refusal a1 a2 u1) (fun r2 => if 0 ≤ r2 then (z_gd (z_inb 1 93) (Option.bind (f_X10_layMoebius a1 a2 (z_gI u1 1 (1 : Int32).toNatClampNeg) u1) (fun r5 => z_gd (z_inb a2 9) (some (z_gI r5 14 a2.toNatClampNeg, r5))))) else (some ((-2147483648), u1))))
set_option maxRecDepth 20000 in
set_option maxHeartbeats 4000000 in
theorem w_X10_moebius (l : Launch) (g : z_G) (a1 : Int32) (a2 : Int32) (u : z_M) {res : Int32 × z_M} (h : f_X10_moebius a1 a2 u = some res) : z_C l g z_shR yX10_moebius wsX10_moebius 7 [.ref (z_ad g 0), .int a1, .int a2] u (fun v u' => v = some (.int res.1) ∧ u' = res.2) := by
  refine z_C.mk (lv := [(0, .ref (z_ad g 0)), (1, .int a1), (2, .int a2)]) (cc := cX10_moebius) (nL := 3) (rt := (some .int)) rfl (by decide) (Nat.le_of_ble_eq_true rfl) rfl (fun p e R s m args below meth c hR X => ?_)
  unfold f_X10_moebius at h
  obtain ⟨u1, eu1, h⟩ := z_ls h
  obtain ⟨r2, er2, h⟩ := z_bs h
  refine z_aload_n X 0 dX10_moebius_0 rfl rfl (z_iconst X (v := 0) dX10_moebius_1 (by decide) (z_putI X (k0 := 0) (ty0 := tyX10) z_r0 rfl in_X10_moebius_X10 tyX10_ok nmX10 (by decide) rfl rfl rfl rfl rfl lk_X10_moebius_82 dX10_moebius_2 (z_nm eu1 (z_aload_n X 0 dX10_moebius_5 rfl rfl (z_iload_n X 1 dX10_moebius_6 rfl rfl (z_iload_n X 2 dX10_moebius_7 rfl rfl (z_callVi X (r := r2) (u1 := u1) [.int a1, .int a2] [] (w_X10_refusal l g a1 a2 u1 er2) z_r0 rfl gX10_moebius_X10_refusal hy_X10_refusal rfl (z_le1 hR (by decide)) (z_le2 hR (by decide) (by decide)) (Nat.le_of_ble_eq_true rfl) dX10_moebius_8 (z_if_ge X 18 dX10_moebius_11 (by decide) (fun c3 => ?_) (fun c3 => ?_)))))))))
  · replace h := z_ip c3 h
    obtain ⟨b4, h⟩ := z_gs h
    obtain ⟨r5, er5, h⟩ := z_bs h
    obtain ⟨b6, h⟩ := z_gs h
    refine z_aload_n X 0 dX10_moebius_18 rfl rfl (z_iload_n X 1 dX10_moebius_19 rfl rfl (z_iload_n X 2 dX10_moebius_20 rfl rfl (z_aload_n X 0 dX10_moebius_21 rfl rfl (z_getR X (k0 := 1) z_r0 rfl in_X10_moebius_X10 (by decide) rfl rfl lk_X10_moebius_9 dX10_moebius_22 (z_iconst X (v := 1) dX10_moebius_25 (by decide) (z_iald X z_r1 (z_inS b4) dX10_moebius_26 (z_callVv X (u1 := r5) [.int a1, .int a2, .int (z_gI u1 1 (1 : Int32).toNatClampNeg)] [] (w_X10_layMoebius l g a1 a2 (z_gI u1 1 (1 : Int32).toNatClampNeg) u1 er5) z_r0 rfl gX10_moebius_X10_layMoebius hy_X10_layMoebius rfl (z_le1 hR (by decide)) (z_le2 hR (by decide) (by decide)) (Nat.le_of_ble_eq_true rfl) dX10_moebius_27 (z_aload_n X 0 dX10_moebius_30 rfl rfl (z_getR X (k0 := 22) z_r0 rfl in_X10_moebius_X10 (by decide) rfl rfl lk_X10_moebius_57 dX10_moebius_31 (z_iload_n X 2 dX10_moebius_34 rfl rfl (z_iald X z_r14 (z_inS b6) dX10_moebius_35 ?_)))))))))))
    cases h; exact z_iret X rfl dX10_moebius_36 ⟨rfl, rfl⟩
  · replace h := z_in c3 h
    refine z_ldcw X dX10_moebius_14 ct316_X10_moebius ?_
    cases h; exact z_iret X rfl dX10_moebius_17 ⟨rfl, rfl⟩

theorem lk_X10_whitney_82 : (Cond.fieldLink RX10 82 RX10 (TX10 0).2.1 (TX10 0).2.2.1) ∈ wsX10_whitney := by decide +kernel
theorem in_X10_whitney_X10 : ∀ w ∈ u_ws RX10 TX10 30, w ∈ wsX10_whitney := fun _ h => List.mem_cons_of_mem _ (List.mem_append_right _ h)
theorem ct316_X10_whitney : Cond.constant RX10 316 (-2147483648) ∈ wsX10_whitney := by decide +kernel
theorem lk_X10_whitney_36 : (Cond.fieldLink RX10 36 RX10 (TX10 14).2.1 (TX10 14).2.2.1) ∈ wsX10_whitney := by decide +kernel
theorem lk_X10_whitney_9 : (Cond.fieldLink RX10 9 RX10 (TX10 1).2.1 (TX10 1).2.2.1) ∈ wsX10_whitney := by decide +kernel
theorem lk_X10_whitney_57 : (Cond.fieldLink RX10 57 RX10 (TX10 22).2.1 (TX10 22).2.2.1) ∈ wsX10_whitney := by decide +kernel
def b_X10_whitney_42 (x1 : Int32) (x2 : Int32) (x3 : Int32) : (Int32 × Int32 × z_M) → ((Int32 × Int32 × z_M) → Option (Int32 × z_M)) → ((Int32 × z_M) → Option (Int32 × z_M)) → Option (Int32 × z_M) := fun q kb kx =>
  if 9 ≤ q.2.1 then (kx (q.1, q.2.2)) else (z_gd (z_inb q.2.1 9) (if (z_gI q.2.2 7 q.2.1.toNatClampNeg) = x2 then (z_gd (z_inb 1 93) (Option.bind (f_X10_layMoebius x1 q.2.1 (z_gI q.2.2 1 (1 : Int32).toNatClampNeg) q.2.2) (fun r12 => if x3 = 0 then (z_lt (q.1 + 1) (fun v14 => kb (v14, q.2.1 + 1, r12))) else (z_gd (z_inb q.2.1 9) (z_lt (q.1 + (z_gI r12 14 q.2.1.toNatClampNeg)) (fun v16 => kb (v16, q.2.1 + 1, r12))))))) else (kb (q.1, q.2.1 + 1, q.2.2))))
def f_X10_whitney (a1 : Int32) (a2 : Int32) (a3 : Int32) (u : z_M) : Option (Int32 × z_M) :=
  z_lt (z_sI u 0 0 0) (fun u1 => Option.bind (f_X10_isThere a1 u1) (fun r2 => if r2 = 0 then (some ((-2147483648), u1)) else (if a2 < 0 then (some ((-2147483648), u1)) else (Option.bind (f_X10_isIn a3.toInt64 0 1) (fun r5 => if r5 = 0 then (some ((-2147483648), u1)) else (Option.bind (f_X10_layHeights a1 u1) (fun r7 => z_lp (b_X10_whitney_42 a1 a2 a3) z_F (0, 0, r7) (fun t17 => some (t17.1, t17.2)))))))))
set_option maxRecDepth 20000 in
set_option maxHeartbeats 4000000 in
theorem wb_X10_whitney_42 {p : Program} {l : Launch} {e : Env} {R : Room} {s : State} {m : MethodId} {args : Array Value} {below : List Frame} {meth : Method} {c : Code} {g : z_G} {u : z_M} {res : Int32 × z_M} (hR : R = z_rm 7) (X : z_X p R s m args meth c cX10_whitney 6 RX10 wsX10_whitney (some .int) g z_shR) (x1 : Int32) (x2 : Int32) (x3 : Int32) (q : Int32 × Int32 × z_M) (kb : (Int32 × Int32 × z_M) → Option (Int32 × z_M)) (kx : (Int32 × z_M) → Option (Int32 × z_M)) (hkb : ∀ q, kb q = some res → z_V p l e R s m args below meth c 6 g z_shR (MQ below (z_Qc g z_shR (fun v u' => v = some (.int res.1) ∧ u' = res.2)) args s 0 0 (z_A g z_shR)) 42 [(0, .ref (z_ad g 0)), (1, .int x1), (2, .int x2), (3, .int x3), (4, .int q.1), (5, .int q.2.1)] [] q.2.2) (hkx : ∀ t, kx t = some res → z_V p l e R s m args below meth c 6 g z_shR (MQ below (z_Qc g z_shR (fun v u' => v = some (.int res.1) ∧ u' = res.2)) args s 0 0 (z_A g z_shR)) 99 [(4, .int t.1)] [] t.2) (h : b_X10_whitney_42 x1 x2 x3 q kb kx = some res) : z_V p l e R s m args below meth c 6 g z_shR (MQ below (z_Qc g z_shR (fun v u' => v = some (.int res.1) ∧ u' = res.2)) args s 0 0 (z_A g z_shR)) 42 [(0, .ref (z_ad g 0)), (1, .int x1), (2, .int x2), (3, .int x3), (4, .int q.1), (5, .int q.2.1)] [] q.2.2 := by
  unfold b_X10_whitney_42 at h
  refine z_iload X 5 dX10_whitney_42 rfl (z_bipush X (v := 9) dX10_whitney_44 (by decide) (z_icmp_ge X 99 dX10_whitney_46 (by decide) (fun c8 => ?_) (fun c8 => ?_)))
  · replace h := z_ip c8 h
    refine z_sub [4] [(4, .int q.1)] rfl ?_
    exact hkx (q.1, q.2.2) h
  · replace h := z_in c8 h
    obtain ⟨b9, h⟩ := z_gs h
    refine z_aload_n X 0 dX10_whitney_49 rfl rfl (z_getR X (k0 := 14) z_r0 rfl in_X10_whitney_X10 (by decide) rfl rfl lk_X10_whitney_36 dX10_whitney_50 (z_iload X 5 dX10_whitney_53 rfl (z_iald X z_r7 (z_inS b9) dX10_whitney_55 (z_iload_n X 2 dX10_whitney_56 rfl rfl (z_icmp_ne X 93 dX10_whitney_57 (by decide) (fun c10 => ?_) (fun c10 => ?_))))))
    · replace h := z_in c10 h
      refine z_iinc X (v := q.2.1 + 1) 5 [(5, .int (q.2.1 + 1)), (0, .ref (z_ad g 0)), (1, .int x1), (2, .int x2), (3, .int x3), (4, .int q.1)] dX10_whitney_93 rfl rfl (by decide) rfl (z_goto X 42 dX10_whitney_96 (by decide) (z_sub [1, 2, 3, 4, 5, 0] [(0, .ref (z_ad g 0)), (1, .int x1), (2, .int x2), (3, .int x3), (4, .int q.1), (5, .int (q.2.1 + 1))] rfl ?_))
      exact hkb (q.1, q.2.1 + 1, q.2.2) h
    · replace h := z_ip c10 h
      obtain ⟨b11, h⟩ := z_gs h
      obtain ⟨r12, er12, h⟩ := z_bs h
      refine z_aload_n X 0 dX10_whitney_60 rfl rfl (z_iload_n X 1 dX10_whitney_61 rfl rfl (z_iload X 5 dX10_whitney_62 rfl (z_aload_n X 0 dX10_whitney_64 rfl rfl (z_getR X (k0 := 1) z_r0 rfl in_X10_whitney_X10 (by decide) rfl rfl lk_X10_whitney_9 dX10_whitney_65 (z_iconst X (v := 1) dX10_whitney_68 (by decide) (z_iald X z_r1 (z_inS b11) dX10_whitney_69 (z_callVv X (u1 := r12) [.int x1, .int q.2.1, .int (z_gI q.2.2 1 (1 : Int32).toNatClampNeg)] [] (w_X10_layMoebius l g x1 q.2.1 (z_gI q.2.2 1 (1 : Int32).toNatClampNeg) q.2.2 er12) z_r0 rfl gX10_whitney_X10_layMoebius hy_X10_layMoebius rfl (z_le1 hR (by decide)) (z_le2 hR (by decide) (by decide)) (Nat.le_of_ble_eq_true rfl) dX10_whitney_70 (z_iload X 4 dX10_whitney_73 rfl (z_iload_n X 3 dX10_whitney_75 rfl rfl (z_if_ne X 83 dX10_whitney_76 (by decide) (fun c13 => ?_) (fun c13 => ?_)))))))))))
      · replace h := z_in c13 h
        obtain ⟨b15, h⟩ := z_gs h
        obtain ⟨v16, ev16, h⟩ := z_ls h
        refine z_aload_n X 0 dX10_whitney_83 rfl rfl (z_getR X (k0 := 22) z_r0 rfl in_X10_whitney_X10 (by decide) rfl rfl lk_X10_whitney_57 dX10_whitney_84 (z_iload X 5 dX10_whitney_87 rfl (z_iald X z_r14 (z_inS b15) dX10_whitney_89 (z_iadd X dX10_whitney_90 (z_ti ev16 (z_istore X [(4, .int v16), (0, .ref (z_ad g 0)), (1, .int x1), (2, .int x2), (3, .int x3), (5, .int q.2.1)] dX10_whitney_91 (by decide) rfl (z_iinc X (v := q.2.1 + 1) 5 [(5, .int (q.2.1 + 1)), (4, .int v16), (0, .ref (z_ad g 0)), (1, .int x1), (2, .int x2), (3, .int x3)] dX10_whitney_93 rfl rfl (by decide) rfl (z_goto X 42 dX10_whitney_96 (by decide) (z_sub [2, 3, 4, 5, 1, 0] [(0, .ref (z_ad g 0)), (1, .int x1), (2, .int x2), (3, .int x3), (4, .int v16), (5, .int (q.2.1 + 1))] rfl ?_)))))))))
        exact hkb (v16, q.2.1 + 1, r12) h
      · replace h := z_ip c13 h
        obtain ⟨v14, ev14, h⟩ := z_ls h
        refine z_iconst X (v := 1) dX10_whitney_79 (by decide) (z_goto X 90 dX10_whitney_80 (by decide) (z_iadd X dX10_whitney_90 (z_ti ev14 (z_istore X [(4, .int v14), (0, .ref (z_ad g 0)), (1, .int x1), (2, .int x2), (3, .int x3), (5, .int q.2.1)] dX10_whitney_91 (by decide) rfl (z_iinc X (v := q.2.1 + 1) 5 [(5, .int (q.2.1 + 1)), (4, .int v14), (0, .ref (z_ad g 0)), (1, .int x1), (2, .int x2), (3, .int x3)] dX10_whitney_93 rfl rfl (by decide) rfl (z_goto X 42 dX10_whitney_96 (by decide) (z_sub [2, 3, 4, 5, 1, 0] [(0, .ref (z_ad g 0)), (1, .int x1), (2, .int x2), (3, .int x3), (4, .int v14), (5, .int (q.2.1 + 1))] rfl ?_)))))))
        exact hkb (v14, q.2.1 + 1, r12) h
set_option maxRecDepth 20000 in
set_option maxHeartbeats 4000000 in
theorem w_X10_whitney (l : Launch) (g : z_G) (a1 : Int32) (a2 : Int32) (a3 : Int32) (u : z_M) {res : Int32 × z_M} (h : f_X10_whitney a1 a2 a3 u = some res) : z_C l g z_shR yX10_whitney wsX10_whitney 7 [.ref (z_ad g 0), .int a1, .int a2, .int a3] u (fun v u' => v = some (.int res.1) ∧ u' = res.2) := by
  refine z_C.mk (lv := [(0, .ref (z_ad g 0)), (1, .int a1), (2, .int a2), (3, .int a3)]) (cc := cX10_whitney) (nL := 6) (rt := (some .int)) rfl (by decide) (Nat.le_of_ble_eq_true rfl) rfl (fun p e R s m args below meth c hR X => ?_)
  unfold f_X10_whitney at h
  obtain ⟨u1, eu1, h⟩ := z_ls h
  obtain ⟨r2, er2, h⟩ := z_bs h
  refine z_aload_n X 0 dX10_whitney_0 rfl rfl (z_iconst X (v := 0) dX10_whitney_1 (by decide) (z_putI X (k0 := 0) (ty0 := tyX10) z_r0 rfl in_X10_whitney_X10 tyX10_ok nmX10 (by decide) rfl rfl rfl rfl rfl lk_X10_whitney_82 dX10_whitney_2 (z_nm eu1 (z_aload_n X 0 dX10_whitney_5 rfl rfl (z_iload_n X 1 dX10_whitney_6 rfl rfl (z_callVi X (r := r2) (u1 := u1) [.int a1] [] (w_X10_isThere l g a1 u1 er2) z_r0 rfl gX10_whitney_X10_isThere hy_X10_isThere rfl (z_le1 hR (by decide)) (z_le2 hR (by decide) (by decide)) (Nat.le_of_ble_eq_true rfl) dX10_whitney_7 (z_if_eq X 27 dX10_whitney_10 (by decide) (fun c3 => ?_) (fun c3 => ?_))))))))
  · replace h := z_ip c3 h
    refine z_ldcw X dX10_whitney_27 ct316_X10_whitney ?_
    cases h; exact z_iret X rfl dX10_whitney_30 ⟨rfl, rfl⟩
  · replace h := z_in c3 h
    refine z_iload_n X 2 dX10_whitney_13 rfl rfl (z_if_lt X 27 dX10_whitney_14 (by decide) (fun c4 => ?_) (fun c4 => ?_))
    · replace h := z_ip c4 h
      refine z_ldcw X dX10_whitney_27 ct316_X10_whitney ?_
      cases h; exact z_iret X rfl dX10_whitney_30 ⟨rfl, rfl⟩
    · replace h := z_in c4 h
      obtain ⟨r5, er5, h⟩ := z_bs h
      refine z_iload_n X 3 dX10_whitney_17 rfl rfl (z_i2l X dX10_whitney_18 (z_lconst X (v := 0) dX10_whitney_19 (by decide) (z_lconst X (v := 1) dX10_whitney_20 (by decide) (z_callSi X (r := r5) (u1 := u1) [.long a3.toInt64, .long 0, .long 1] [] (w_X10_isIn l g a3.toInt64 0 1 u1 er5) gX10_whitney_X10_isIn hy_X10_isIn.2 rfl (z_le1 hR (by decide)) (z_le2 hR (by decide) (by decide)) (Nat.le_of_ble_eq_true rfl) dX10_whitney_21 (z_if_ne X 31 dX10_whitney_24 (by decide) (fun c6 => ?_) (fun c6 => ?_))))))
      · replace h := z_in c6 h
        obtain ⟨r7, er7, h⟩ := z_bs h
        refine z_aload_n X 0 dX10_whitney_31 rfl rfl (z_iload_n X 1 dX10_whitney_32 rfl rfl (z_callVv X (u1 := r7) [.int a1] [] (w_X10_layHeights l g a1 u1 er7) z_r0 rfl gX10_whitney_X10_layHeights hy_X10_layHeights rfl (z_le1 hR (by decide)) (z_le2 hR (by decide) (by decide)) (Nat.le_of_ble_eq_true rfl) dX10_whitney_33 (z_iconst X (v := 0) dX10_whitney_36 (by decide) (z_istore X [(4, .int 0), (0, .ref (z_ad g 0)), (1, .int a1), (2, .int a2), (3, .int a3)] dX10_whitney_37 (by decide) rfl (z_iconst X (v := 0) dX10_whitney_39 (by decide) (z_istore X [(5, .int 0), (4, .int 0), (0, .ref (z_ad g 0)), (1, .int a1), (2, .int a2), (3, .int a3)] dX10_whitney_40 (by decide) rfl (z_sub [2, 3, 4, 5, 1, 0] [(0, .ref (z_ad g 0)), (1, .int a1), (2, .int a2), (3, .int a3), (4, .int 0), (5, .int 0)] rfl ?_)))))))
        have hw := z_lp_w (fun q9 kb9 kx9 h1 h2 h3 => wb_X10_whitney_42 (l := l) (e := e) (below := below) (u := r7) hR X a1 a2 a3 q9 kb9 kx9 h1 h2 h3) z_F _ _ h
        refine hw (fun t17 h => ?_)
        refine z_iload X 0 dX10_whitney_99 rfl ?_
        cases h; exact z_iret X rfl dX10_whitney_101 ⟨rfl, rfl⟩
      · replace h := z_ip c6 h
        refine z_ldcw X dX10_whitney_27 ct316_X10_whitney ?_
        cases h; exact z_iret X rfl dX10_whitney_30 ⟨rfl, rfl⟩

theorem ct331_X10_plus : Cond.constantLong RX10 331 (-1) ∈ wsX10_plus := by decide +kernel
theorem ct329_X10_plus : Cond.constantLong RX10 329 9223372036854775807 ∈ wsX10_plus := by decide +kernel
def f_X10_plus (a1 : Int64) (a2 : Int64) : Option (Int64) :=
  if (lg_cmp a1 0) < 0 then (some (-1)) else (if (lg_cmp a2 0) < 0 then (some (-1)) else (if (lg_cmp a1 (9223372036854775807 - a2)) ≤ 0 then (some (a1 + a2)) else (some (-1))))
set_option maxRecDepth 20000 in
set_option maxHeartbeats 4000000 in
theorem w_X10_plus (l : Launch) (g : z_G) (a1 : Int64) (a2 : Int64) (u : z_M) {res : Int64} (h : f_X10_plus a1 a2 = some res) : z_C l g z_shR yX10_plus wsX10_plus 1 [.long a1, .long a2] u (fun v u' => v = some (.long res) ∧ u' = u) := by
  refine z_C.mk (lv := [(0, .long a1), (2, .long a2)]) (cc := cX10_plus) (nL := 4) (rt := (some .long)) rfl (by decide) (Nat.le_of_ble_eq_true rfl) rfl (fun p e R s m args below meth c hR X => ?_)
  unfold f_X10_plus at h
  refine z_lload_n X 0 dX10_plus_0 rfl rfl (z_lconst X (v := 0) dX10_plus_1 (by decide) (z_lcmp X dX10_plus_2 (z_if_lt X 22 dX10_plus_3 (by decide) (fun c1 => ?_) (fun c1 => ?_))))
  · replace h := z_ip c1 h
    refine z_ldc2 X dX10_plus_22 ct331_X10_plus (z_goto X 31 dX10_plus_25 (by decide) ?_)
    cases h; exact z_lret X rfl dX10_plus_31 ⟨rfl, rfl⟩
  · replace h := z_in c1 h
    refine z_lload_n X 1 dX10_plus_6 rfl rfl (z_lconst X (v := 0) dX10_plus_7 (by decide) (z_lcmp X dX10_plus_8 (z_if_lt X 22 dX10_plus_9 (by decide) (fun c2 => ?_) (fun c2 => ?_))))
    · replace h := z_ip c2 h
      refine z_ldc2 X dX10_plus_22 ct331_X10_plus (z_goto X 31 dX10_plus_25 (by decide) ?_)
      cases h; exact z_lret X rfl dX10_plus_31 ⟨rfl, rfl⟩
    · replace h := z_in c2 h
      refine z_lload_n X 0 dX10_plus_12 rfl rfl (z_ldc2 X dX10_plus_13 ct329_X10_plus (z_lload_n X 1 dX10_plus_16 rfl rfl (z_lsub X dX10_plus_17 (z_lcmp X dX10_plus_18 (z_if_le X 28 dX10_plus_19 (by decide) (fun c3 => ?_) (fun c3 => ?_))))))
      · replace h := z_ip c3 h
        refine z_lload_n X 0 dX10_plus_28 rfl rfl (z_lload_n X 1 dX10_plus_29 rfl rfl (z_ladd X dX10_plus_30 ?_))
        cases h; exact z_lret X rfl dX10_plus_31 ⟨rfl, rfl⟩
      · replace h := z_in c3 h
        refine z_ldc2 X dX10_plus_22 ct331_X10_plus (z_goto X 31 dX10_plus_25 (by decide) ?_)
        cases h; exact z_lret X rfl dX10_plus_31 ⟨rfl, rfl⟩

theorem lk_X10_zeta_82 : (Cond.fieldLink RX10 82 RX10 (TX10 0).2.1 (TX10 0).2.2.1) ∈ wsX10_zeta := by decide +kernel
theorem in_X10_zeta_X10 : ∀ w ∈ u_ws RX10 TX10 30, w ∈ wsX10_zeta := fun _ h => List.mem_cons_of_mem _ (List.mem_append_right _ h)
theorem ct333_X10_zeta : Cond.constantLong RX10 333 1000 ∈ wsX10_zeta := by decide +kernel
theorem lk_X10_zeta_60 : (Cond.fieldLink RX10 60 RX10 (TX10 23).2.1 (TX10 23).2.2.1) ∈ wsX10_zeta := by decide +kernel
theorem lk_X10_zeta_64 : (Cond.fieldLink RX10 64 RX10 (TX10 24).2.1 (TX10 24).2.2.1) ∈ wsX10_zeta := by decide +kernel
theorem ct339_X10_zeta : Cond.constantLong RX10 339 (-3) ∈ wsX10_zeta := by decide +kernel
theorem hy_X10_plus : yX10_plus.cls = RX10 ∧ yX10_plus.cls ≠ "java/lang/invoke/MethodHandle" ∧ yX10_plus.cls ≠ "java/lang/invoke/VarHandle" ∧ (parseMethodDescriptor yX10_plus.desc).map (fun d => d.parameters.length) = some 2 := by decide +kernel
def b_X10_zeta_49 (x1 : Int32) (x2 : Int32) (x3 : Int32) (x5 : Int32) : (Int32 × z_M) → ((Int32 × z_M) → Option (Int64 × z_M)) → (z_M → Option (Int64 × z_M)) → Option (Int64 × z_M) := fun q kb kx =>
  if 9 ≤ q.1 then (kx q.2) else (if q.1 = x1 then (z_gd (z_inb q.1 9) (z_lt (z_sL q.2 15 q.1.toNatClampNeg 1) (fun u9 => kb (q.1 + 1, u9)))) else (z_gd (z_inb q.1 9) (z_lt (z_sL q.2 15 q.1.toNatClampNeg 0) (fun u11 => kb (q.1 + 1, u11)))))
def b_X10_zeta_110 (x2 : Int32) (x3 : Int32) (x5 : Int32) (x6 : Int32) (x7 : Int32) : (Int32 × z_M) → ((Int32 × z_M) → Option (Int64 × z_M)) → (z_M → Option (Int64 × z_M)) → Option (Int64 × z_M) := fun q kb kx =>
  if 9 ≤ q.1 then (kx q.2) else (Option.bind (f_X10_has x5 x7) (fun r18 => if r18 = 0 then (kx q.2) else (Option.bind (f_X10_downTo x7 q.2) (fun r20 => Option.bind (f_X10_has (x5 &&& r20) q.1) (fun r21 => if r21 = 0 then (z_gd (z_inb x7 9) (z_gd (z_inb x7 9) (z_lt (z_sL q.2 16 x7.toNatClampNeg (z_gL q.2 16 x7.toNatClampNeg)) (fun u25 => kb (q.1 + 1, u25))))) else (z_gd (z_inb x7 9) (z_gd (z_inb q.1 9) (Option.bind (f_X10_plus (z_gL q.2 16 x7.toNatClampNeg) (z_gL q.2 15 q.1.toNatClampNeg)) (fun r28 => z_gd (z_inb x7 9) (z_lt (z_sL q.2 16 x7.toNatClampNeg r28) (fun u30 => kb (q.1 + 1, u30))))))))))))
def b_X10_zeta_92 (x2 : Int32) (x3 : Int32) (x5 : Int32) (x6 : Int32) : (Int32 × z_M) → ((Int32 × z_M) → Option (Int64 × z_M)) → (z_M → Option (Int64 × z_M)) → Option (Int64 × z_M) := fun q kb kx =>
  if 9 ≤ q.1 then (kx q.2) else (z_gd (z_inb q.1 9) (z_lt (z_sL q.2 16 q.1.toNatClampNeg 0) (fun u16 => z_lp (b_X10_zeta_110 x2 x3 x5 x6 q.1) z_F (0, u16) (fun t31 => kb (q.1 + 1, t31)))))
def b_X10_zeta_193 (x2 : Int32) (x3 : Int32) (x5 : Int32) (x6 : Int32) : (Int32 × z_M) → ((Int32 × z_M) → Option (Int64 × z_M)) → (z_M → Option (Int64 × z_M)) → Option (Int64 × z_M) := fun q kb kx =>
  if 9 ≤ q.1 then (kx q.2) else (z_gd (z_inb q.1 9) (z_gd (z_inb q.1 9) (z_lt (z_sL q.2 15 q.1.toNatClampNeg (z_gL q.2 16 q.1.toNatClampNeg)) (fun u36 => kb (q.1 + 1, u36)))))
def b_X10_zeta_83 (x2 : Int32) (x3 : Int32) (x5 : Int32) : (Int32 × z_M) → ((Int32 × z_M) → Option (Int64 × z_M)) → (z_M → Option (Int64 × z_M)) → Option (Int64 × z_M) := fun q kb kx =>
  if x3 ≤ q.1 then (kx q.2) else (z_lp (b_X10_zeta_92 x2 x3 x5 q.1) z_F (0, q.2) (fun t32 => z_lp (b_X10_zeta_193 x2 x3 x5 q.1) z_F (0, t32) (fun t37 => kb (q.1 + 1, t37))))
def j_X10_zeta_j27 (x1 : Int32) (x2 : Int32) (x3 : Int32) (x90 : Int32) (w : z_M) : Option (Int64 × z_M) :=
  if 0 ≤ x90 then (Option.bind (f_X10_between x1 x2 w) (fun r5 => z_lp (b_X10_zeta_49 x1 x2 x3 r5) z_F (0, w) (fun t12 => z_lp (b_X10_zeta_83 x2 x3 r5) z_F (0, t12) (fun t38 => z_gd (z_inb x2 9) (if 0 ≤ (lg_cmp (z_gL t38 15 x2.toNatClampNeg) 0) then (z_gd (z_inb x2 9) (some (z_gL t38 15 x2.toNatClampNeg, t38))) else (some ((-3), t38))))))) else (some (x90.toInt64, w))
def f_X10_zeta (a1 : Int32) (a2 : Int32) (a3 : Int32) (u : z_M) : Option (Int64 × z_M) :=
  z_lt (z_sI u 0 0 0) (fun u1 => Option.bind (f_X10_isIn a3.toInt64 1 1000) (fun r2 => if r2 = 0 then (j_X10_zeta_j27 a1 a2 a3 (-1) u1) else (Option.bind (f_X10_refusal a1 a2 u1) (fun r42 => j_X10_zeta_j27 a1 a2 a3 r42 u1))))
set_option maxRecDepth 20000 in
set_option maxHeartbeats 4000000 in
theorem wb_X10_zeta_49 {p : Program} {l : Launch} {e : Env} {R : Room} {s : State} {m : MethodId} {args : Array Value} {below : List Frame} {meth : Method} {c : Code} {g : z_G} {u : z_M} {res : Int64 × z_M} (hR : R = z_rm 6) (X : z_X p R s m args meth c cX10_zeta 9 RX10 wsX10_zeta (some .long) g z_shR) (x1 : Int32) (x2 : Int32) (x3 : Int32) (x5 : Int32) (q : Int32 × z_M) (kb : (Int32 × z_M) → Option (Int64 × z_M)) (kx : z_M → Option (Int64 × z_M)) (hkb : ∀ q, kb q = some res → z_V p l e R s m args below meth c 9 g z_shR (MQ below (z_Qc g z_shR (fun v u' => v = some (.long res.1) ∧ u' = res.2)) args s 0 0 (z_A g z_shR)) 49 [(0, .ref (z_ad g 0)), (1, .int x1), (2, .int x2), (3, .int x3), (5, .int x5), (6, .int q.1)] [] q.2) (hkx : ∀ t, kx t = some res → z_V p l e R s m args below meth c 9 g z_shR (MQ below (z_Qc g z_shR (fun v u' => v = some (.long res.1) ∧ u' = res.2)) args s 0 0 (z_A g z_shR)) 80 [(0, .ref (z_ad g 0)), (2, .int x2), (3, .int x3), (5, .int x5)] [] t) (h : b_X10_zeta_49 x1 x2 x3 x5 q kb kx = some res) : z_V p l e R s m args below meth c 9 g z_shR (MQ below (z_Qc g z_shR (fun v u' => v = some (.long res.1) ∧ u' = res.2)) args s 0 0 (z_A g z_shR)) 49 [(0, .ref (z_ad g 0)), (1, .int x1), (2, .int x2), (3, .int x3), (5, .int x5), (6, .int q.1)] [] q.2 := by
  unfold b_X10_zeta_49 at h
  refine z_iload X 5 dX10_zeta_49 rfl (z_bipush X (v := 9) dX10_zeta_51 (by decide) (z_icmp_ge X 80 dX10_zeta_53 (by decide) (fun c6 => ?_) (fun c6 => ?_)))
  · replace h := z_ip c6 h
    refine z_sub [0, 2, 3, 4] [(0, .ref (z_ad g 0)), (2, .int x2), (3, .int x3), (5, .int x5)] rfl ?_
    exact hkx q.2 h
  · replace h := z_in c6 h
    refine z_aload_n X 0 dX10_zeta_56 rfl rfl (z_getR X (k0 := 23) z_r0 rfl in_X10_zeta_X10 (by decide) rfl rfl lk_X10_zeta_60 dX10_zeta_57 (z_iload X 5 dX10_zeta_60 rfl (z_iload X 5 dX10_zeta_62 rfl (z_iload_n X 1 dX10_zeta_64 rfl rfl (z_icmp_ne X 72 dX10_zeta_65 (by decide) (fun c7 => ?_) (fun c7 => ?_))))))
    · replace h := z_in c7 h
      obtain ⟨b10, h⟩ := z_gs h
      obtain ⟨u11, eu11, h⟩ := z_ls h
      refine z_lconst X (v := 0) dX10_zeta_72 (by decide) (z_last X z_r15 (z_inS b10) dX10_zeta_73 (z_nm eu11 (z_iinc X (v := q.1 + 1) 5 [(6, .int (q.1 + 1)), (0, .ref (z_ad g 0)), (1, .int x1), (2, .int x2), (3, .int x3), (5, .int x5)] dX10_zeta_74 rfl rfl (by decide) rfl (z_goto X 49 dX10_zeta_77 (by decide) (z_sub [1, 2, 3, 4, 5, 0] [(0, .ref (z_ad g 0)), (1, .int x1), (2, .int x2), (3, .int x3), (5, .int x5), (6, .int (q.1 + 1))] rfl ?_)))))
      exact hkb (q.1 + 1, u11) h
    · replace h := z_ip c7 h
      obtain ⟨b8, h⟩ := z_gs h
      obtain ⟨u9, eu9, h⟩ := z_ls h
      refine z_lconst X (v := 1) dX10_zeta_68 (by decide) (z_goto X 73 dX10_zeta_69 (by decide) (z_last X z_r15 (z_inS b8) dX10_zeta_73 (z_nm eu9 (z_iinc X (v := q.1 + 1) 5 [(6, .int (q.1 + 1)), (0, .ref (z_ad g 0)), (1, .int x1), (2, .int x2), (3, .int x3), (5, .int x5)] dX10_zeta_74 rfl rfl (by decide) rfl (z_goto X 49 dX10_zeta_77 (by decide) (z_sub [1, 2, 3, 4, 5, 0] [(0, .ref (z_ad g 0)), (1, .int x1), (2, .int x2), (3, .int x3), (5, .int x5), (6, .int (q.1 + 1))] rfl ?_))))))
      exact hkb (q.1 + 1, u9) h
set_option maxRecDepth 20000 in
set_option maxHeartbeats 4000000 in
theorem wb_X10_zeta_110 {p : Program} {l : Launch} {e : Env} {R : Room} {s : State} {m : MethodId} {args : Array Value} {below : List Frame} {meth : Method} {c : Code} {g : z_G} {u : z_M} {res : Int64 × z_M} (hR : R = z_rm 6) (X : z_X p R s m args meth c cX10_zeta 9 RX10 wsX10_zeta (some .long) g z_shR) (x2 : Int32) (x3 : Int32) (x5 : Int32) (x6 : Int32) (x7 : Int32) (q : Int32 × z_M) (kb : (Int32 × z_M) → Option (Int64 × z_M)) (kx : z_M → Option (Int64 × z_M)) (hkb : ∀ q, kb q = some res → z_V p l e R s m args below meth c 9 g z_shR (MQ below (z_Qc g z_shR (fun v u' => v = some (.long res.1) ∧ u' = res.2)) args s 0 0 (z_A g z_shR)) 110 [(0, .ref (z_ad g 0)), (2, .int x2), (3, .int x3), (5, .int x5), (6, .int x6), (7, .int x7), (8, .int q.1)] [] q.2) (hkx : ∀ t, kx t = some res → z_V p l e R s m args below meth c 9 g z_shR (MQ below (z_Qc g z_shR (fun v u' => v = some (.long res.1) ∧ u' = res.2)) args s 0 0 (z_A g z_shR)) 184 [(0, .ref (z_ad g 0)), (2, .int x2), (3, .int x3), (5, .int x5), (6, .int x6), (7, .int x7)] [] t) (h : b_X10_zeta_110 x2 x3 x5 x6 x7 q kb kx = some res) : z_V p l e R s m args below meth c 9 g z_shR (MQ below (z_Qc g z_shR (fun v u' => v = some (.long res.1) ∧ u' = res.2)) args s 0 0 (z_A g z_shR)) 110 [(0, .ref (z_ad g 0)), (2, .int x2), (3, .int x3), (5, .int x5), (6, .int x6), (7, .int x7), (8, .int q.1)] [] q.2 := by
  unfold b_X10_zeta_110 at h
  refine z_iload X 6 dX10_zeta_110 rfl (z_bipush X (v := 9) dX10_zeta_112 (by decide) (z_icmp_ge X 184 dX10_zeta_114 (by decide) (fun c17 => ?_) (fun c17 => ?_)))
  · replace h := z_ip c17 h
    refine z_sub [0, 1, 2, 3, 4, 5] [(0, .ref (z_ad g 0)), (2, .int x2), (3, .int x3), (5, .int x5), (6, .int x6), (7, .int x7)] rfl ?_
    exact hkx q.2 h
  · replace h := z_in c17 h
    obtain ⟨r18, er18, h⟩ := z_bs h
    refine z_iload X 3 dX10_zeta_117 rfl (z_iload X 5 dX10_zeta_119 rfl (z_callSi X (r := r18) (u1 := q.2) [.int x5, .int x7] [] (w_X10_has l g x5 x7 q.2 er18) gX10_zeta_X10_has hy_X10_has.2 rfl (z_le1 hR (by decide)) (z_le2 hR (by decide) (by decide)) (Nat.le_of_ble_eq_true rfl) dX10_zeta_121 (z_if_eq X 184 dX10_zeta_124 (by decide) (fun c19 => ?_) (fun c19 => ?_))))
    · replace h := z_ip c19 h
      refine z_sub [0, 1, 2, 3, 4, 5] [(0, .ref (z_ad g 0)), (2, .int x2), (3, .int x3), (5, .int x5), (6, .int x6), (7, .int x7)] rfl ?_
      exact hkx q.2 h
    · replace h := z_in c19 h
      obtain ⟨r20, er20, h⟩ := z_bs h
      obtain ⟨r21, er21, h⟩ := z_bs h
      refine z_aload_n X 0 dX10_zeta_127 rfl rfl (z_getR X (k0 := 24) z_r0 rfl in_X10_zeta_X10 (by decide) rfl rfl lk_X10_zeta_64 dX10_zeta_128 (z_iload X 5 dX10_zeta_131 rfl (z_iload X 3 dX10_zeta_133 rfl (z_aload_n X 0 dX10_zeta_135 rfl rfl (z_iload X 5 dX10_zeta_136 rfl (z_callVi X (r := r20) (u1 := q.2) [.int x7] [.int x5, .int x7, .ref (z_ad g 16)] (w_X10_downTo l g x7 q.2 er20) z_r0 rfl gX10_zeta_X10_downTo hy_X10_downTo rfl (z_le1 hR (by decide)) (z_le2 hR (by decide) (by decide)) (Nat.le_of_ble_eq_true rfl) dX10_zeta_138 (z_iand X dX10_zeta_141 (z_iload X 6 dX10_zeta_142 rfl (z_callSi X (r := r21) (u1 := q.2) [.int (x5 &&& r20), .int q.1] [.int x7, .ref (z_ad g 16)] (w_X10_has l g (x5 &&& r20) q.1 q.2 er21) gX10_zeta_X10_has hy_X10_has.2 rfl (z_le1 hR (by decide)) (z_le2 hR (by decide) (by decide)) (Nat.le_of_ble_eq_true rfl) dX10_zeta_144 (z_if_eq X 170 dX10_zeta_147 (by decide) (fun c22 => ?_) (fun c22 => ?_)))))))))))
      · replace h := z_ip c22 h
        obtain ⟨b23, h⟩ := z_gs h
        obtain ⟨b24, h⟩ := z_gs h
        obtain ⟨u25, eu25, h⟩ := z_ls h
        refine z_aload_n X 0 dX10_zeta_170 rfl rfl (z_getR X (k0 := 24) z_r0 rfl in_X10_zeta_X10 (by decide) rfl rfl lk_X10_zeta_64 dX10_zeta_171 (z_iload X 5 dX10_zeta_174 rfl (z_lald X z_r16 (z_inS b23) dX10_zeta_176 (z_last X z_r16 (z_inS b24) dX10_zeta_177 (z_nm eu25 (z_iinc X (v := q.1 + 1) 6 [(8, .int (q.1 + 1)), (0, .ref (z_ad g 0)), (2, .int x2), (3, .int x3), (5, .int x5), (6, .int x6), (7, .int x7)] dX10_zeta_178 rfl rfl (by decide) rfl (z_goto X 110 dX10_zeta_181 (by decide) (z_sub [1, 2, 3, 4, 5, 6, 0] [(0, .ref (z_ad g 0)), (2, .int x2), (3, .int x3), (5, .int x5), (6, .int x6), (7, .int x7), (8, .int (q.1 + 1))] rfl ?_))))))))
        exact hkb (q.1 + 1, u25) h
      · replace h := z_in c22 h
        obtain ⟨b26, h⟩ := z_gs h
        obtain ⟨b27, h⟩ := z_gs h
        obtain ⟨r28, er28, h⟩ := z_bs h
        obtain ⟨b29, h⟩ := z_gs h
        obtain ⟨u30, eu30, h⟩ := z_ls h
        refine z_aload_n X 0 dX10_zeta_150 rfl rfl (z_getR X (k0 := 24) z_r0 rfl in_X10_zeta_X10 (by decide) rfl rfl lk_X10_zeta_64 dX10_zeta_151 (z_iload X 5 dX10_zeta_154 rfl (z_lald X z_r16 (z_inS b26) dX10_zeta_156 (z_aload_n X 0 dX10_zeta_157 rfl rfl (z_getR X (k0 := 23) z_r0 rfl in_X10_zeta_X10 (by decide) rfl rfl lk_X10_zeta_60 dX10_zeta_158 (z_iload X 6 dX10_zeta_161 rfl (z_lald X z_r15 (z_inS b27) dX10_zeta_163 (z_callSl X (r := r28) (u1 := q.2) [.long (z_gL q.2 16 x7.toNatClampNeg), .long (z_gL q.2 15 q.1.toNatClampNeg)] [.int x7, .ref (z_ad g 16)] (w_X10_plus l g (z_gL q.2 16 x7.toNatClampNeg) (z_gL q.2 15 q.1.toNatClampNeg) q.2 er28) gX10_zeta_X10_plus hy_X10_plus.2 rfl (z_le1 hR (by decide)) (z_le2 hR (by decide) (by decide)) (Nat.le_of_ble_eq_true rfl) dX10_zeta_164 (z_goto X 177 dX10_zeta_167 (by decide) (z_last X z_r16 (z_inS b29) dX10_zeta_177 (z_nm eu30 (z_iinc X (v := q.1 + 1) 6 [(8, .int (q.1 + 1)), (0, .ref (z_ad g 0)), (2, .int x2), (3, .int x3), (5, .int x5), (6, .int x6), (7, .int x7)] dX10_zeta_178 rfl rfl (by decide) rfl (z_goto X 110 dX10_zeta_181 (by decide) (z_sub [1, 2, 3, 4, 5, 6, 0] [(0, .ref (z_ad g 0)), (2, .int x2), (3, .int x3), (5, .int x5), (6, .int x6), (7, .int x7), (8, .int (q.1 + 1))] rfl ?_))))))))))))))
        exact hkb (q.1 + 1, u30) h
set_option maxRecDepth 20000 in
set_option maxHeartbeats 4000000 in
theorem wb_X10_zeta_92 {p : Program} {l : Launch} {e : Env} {R : Room} {s : State} {m : MethodId} {args : Array Value} {below : List Frame} {meth : Method} {c : Code} {g : z_G} {u : z_M} {res : Int64 × z_M} (hR : R = z_rm 6) (X : z_X p R s m args meth c cX10_zeta 9 RX10 wsX10_zeta (some .long) g z_shR) (x2 : Int32) (x3 : Int32) (x5 : Int32) (x6 : Int32) (q : Int32 × z_M) (kb : (Int32 × z_M) → Option (Int64 × z_M)) (kx : z_M → Option (Int64 × z_M)) (hkb : ∀ q, kb q = some res → z_V p l e R s m args below meth c 9 g z_shR (MQ below (z_Qc g z_shR (fun v u' => v = some (.long res.1) ∧ u' = res.2)) args s 0 0 (z_A g z_shR)) 92 [(0, .ref (z_ad g 0)), (2, .int x2), (3, .int x3), (5, .int x5), (6, .int x6), (7, .int q.1)] [] q.2) (hkx : ∀ t, kx t = some res → z_V p l e R s m args below meth c 9 g z_shR (MQ below (z_Qc g z_shR (fun v u' => v = some (.long res.1) ∧ u' = res.2)) args s 0 0 (z_A g z_shR)) 190 [(0, .ref (z_ad g 0)), (2, .int x2), (3, .int x3), (5, .int x5), (6, .int x6)] [] t) (h : b_X10_zeta_92 x2 x3 x5 x6 q kb kx = some res) : z_V p l e R s m args below meth c 9 g z_shR (MQ below (z_Qc g z_shR (fun v u' => v = some (.long res.1) ∧ u' = res.2)) args s 0 0 (z_A g z_shR)) 92 [(0, .ref (z_ad g 0)), (2, .int x2), (3, .int x3), (5, .int x5), (6, .int x6), (7, .int q.1)] [] q.2 := by
  unfold b_X10_zeta_92 at h
  refine z_iload X 5 dX10_zeta_92 rfl (z_bipush X (v := 9) dX10_zeta_94 (by decide) (z_icmp_ge X 190 dX10_zeta_96 (by decide) (fun c14 => ?_) (fun c14 => ?_)))
  · replace h := z_ip c14 h
    refine z_sub [0, 1, 2, 3, 4] [(0, .ref (z_ad g 0)), (2, .int x2), (3, .int x3), (5, .int x5), (6, .int x6)] rfl ?_
    exact hkx q.2 h
  · replace h := z_in c14 h
    obtain ⟨b15, h⟩ := z_gs h
    obtain ⟨u16, eu16, h⟩ := z_ls h
    refine z_aload_n X 0 dX10_zeta_99 rfl rfl (z_getR X (k0 := 24) z_r0 rfl in_X10_zeta_X10 (by decide) rfl rfl lk_X10_zeta_64 dX10_zeta_100 (z_iload X 5 dX10_zeta_103 rfl (z_lconst X (v := 0) dX10_zeta_105 (by decide) (z_last X z_r16 (z_inS b15) dX10_zeta_106 (z_nm eu16 (z_iconst X (v := 0) dX10_zeta_107 (by decide) (z_istore X [(8, .int 0), (0, .ref (z_ad g 0)), (2, .int x2), (3, .int x3), (5, .int x5), (6, .int x6), (7, .int q.1)] dX10_zeta_108 (by decide) rfl (z_sub [1, 2, 3, 4, 5, 6, 0] [(0, .ref (z_ad g 0)), (2, .int x2), (3, .int x3), (5, .int x5), (6, .int x6), (7, .int q.1), (8, .int 0)] rfl ?_))))))))
    have hw := z_lp_w (fun q9 kb9 kx9 h1 h2 h3 => wb_X10_zeta_110 (l := l) (e := e) (below := below) (u := u16) hR X x2 x3 x5 x6 q.1 q9 kb9 kx9 h1 h2 h3) z_F _ _ h
    refine hw (fun t31 h => ?_)
    refine z_iinc X (v := q.1 + 1) 5 [(7, .int (q.1 + 1)), (0, .ref (z_ad g 0)), (2, .int x2), (3, .int x3), (5, .int x5), (6, .int x6)] dX10_zeta_184 rfl rfl (by decide) rfl (z_goto X 92 dX10_zeta_187 (by decide) (z_sub [1, 2, 3, 4, 5, 0] [(0, .ref (z_ad g 0)), (2, .int x2), (3, .int x3), (5, .int x5), (6, .int x6), (7, .int (q.1 + 1))] rfl ?_))
    exact hkb (q.1 + 1, t31) h
set_option maxRecDepth 20000 in
set_option maxHeartbeats 4000000 in
theorem wb_X10_zeta_193 {p : Program} {l : Launch} {e : Env} {R : Room} {s : State} {m : MethodId} {args : Array Value} {below : List Frame} {meth : Method} {c : Code} {g : z_G} {u : z_M} {res : Int64 × z_M} (hR : R = z_rm 6) (X : z_X p R s m args meth c cX10_zeta 9 RX10 wsX10_zeta (some .long) g z_shR) (x2 : Int32) (x3 : Int32) (x5 : Int32) (x6 : Int32) (q : Int32 × z_M) (kb : (Int32 × z_M) → Option (Int64 × z_M)) (kx : z_M → Option (Int64 × z_M)) (hkb : ∀ q, kb q = some res → z_V p l e R s m args below meth c 9 g z_shR (MQ below (z_Qc g z_shR (fun v u' => v = some (.long res.1) ∧ u' = res.2)) args s 0 0 (z_A g z_shR)) 193 [(0, .ref (z_ad g 0)), (2, .int x2), (3, .int x3), (5, .int x5), (6, .int x6), (7, .int q.1)] [] q.2) (hkx : ∀ t, kx t = some res → z_V p l e R s m args below meth c 9 g z_shR (MQ below (z_Qc g z_shR (fun v u' => v = some (.long res.1) ∧ u' = res.2)) args s 0 0 (z_A g z_shR)) 220 [(0, .ref (z_ad g 0)), (2, .int x2), (3, .int x3), (5, .int x5), (6, .int x6)] [] t) (h : b_X10_zeta_193 x2 x3 x5 x6 q kb kx = some res) : z_V p l e R s m args below meth c 9 g z_shR (MQ below (z_Qc g z_shR (fun v u' => v = some (.long res.1) ∧ u' = res.2)) args s 0 0 (z_A g z_shR)) 193 [(0, .ref (z_ad g 0)), (2, .int x2), (3, .int x3), (5, .int x5), (6, .int x6), (7, .int q.1)] [] q.2 := by
  unfold b_X10_zeta_193 at h
  refine z_iload X 5 dX10_zeta_193 rfl (z_bipush X (v := 9) dX10_zeta_195 (by decide) (z_icmp_ge X 220 dX10_zeta_197 (by decide) (fun c33 => ?_) (fun c33 => ?_)))
  · replace h := z_ip c33 h
    refine z_sub [0, 1, 2, 3, 4] [(0, .ref (z_ad g 0)), (2, .int x2), (3, .int x3), (5, .int x5), (6, .int x6)] rfl ?_
    exact hkx q.2 h
  · replace h := z_in c33 h
    obtain ⟨b34, h⟩ := z_gs h
    obtain ⟨b35, h⟩ := z_gs h
    obtain ⟨u36, eu36, h⟩ := z_ls h
    refine z_aload_n X 0 dX10_zeta_200 rfl rfl (z_getR X (k0 := 23) z_r0 rfl in_X10_zeta_X10 (by decide) rfl rfl lk_X10_zeta_60 dX10_zeta_201 (z_iload X 5 dX10_zeta_204 rfl (z_aload_n X 0 dX10_zeta_206 rfl rfl (z_getR X (k0 := 24) z_r0 rfl in_X10_zeta_X10 (by decide) rfl rfl lk_X10_zeta_64 dX10_zeta_207 (z_iload X 5 dX10_zeta_210 rfl (z_lald X z_r16 (z_inS b34) dX10_zeta_212 (z_last X z_r15 (z_inS b35) dX10_zeta_213 (z_nm eu36 (z_iinc X (v := q.1 + 1) 5 [(7, .int (q.1 + 1)), (0, .ref (z_ad g 0)), (2, .int x2), (3, .int x3), (5, .int x5), (6, .int x6)] dX10_zeta_214 rfl rfl (by decide) rfl (z_goto X 193 dX10_zeta_217 (by decide) (z_sub [1, 2, 3, 4, 5, 0] [(0, .ref (z_ad g 0)), (2, .int x2), (3, .int x3), (5, .int x5), (6, .int x6), (7, .int (q.1 + 1))] rfl ?_)))))))))))
    exact hkb (q.1 + 1, u36) h
set_option maxRecDepth 20000 in
set_option maxHeartbeats 4000000 in
theorem wb_X10_zeta_83 {p : Program} {l : Launch} {e : Env} {R : Room} {s : State} {m : MethodId} {args : Array Value} {below : List Frame} {meth : Method} {c : Code} {g : z_G} {u : z_M} {res : Int64 × z_M} (hR : R = z_rm 6) (X : z_X p R s m args meth c cX10_zeta 9 RX10 wsX10_zeta (some .long) g z_shR) (x2 : Int32) (x3 : Int32) (x5 : Int32) (q : Int32 × z_M) (kb : (Int32 × z_M) → Option (Int64 × z_M)) (kx : z_M → Option (Int64 × z_M)) (hkb : ∀ q, kb q = some res → z_V p l e R s m args below meth c 9 g z_shR (MQ below (z_Qc g z_shR (fun v u' => v = some (.long res.1) ∧ u' = res.2)) args s 0 0 (z_A g z_shR)) 83 [(0, .ref (z_ad g 0)), (2, .int x2), (3, .int x3), (5, .int x5), (6, .int q.1)] [] q.2) (hkx : ∀ t, kx t = some res → z_V p l e R s m args below meth c 9 g z_shR (MQ below (z_Qc g z_shR (fun v u' => v = some (.long res.1) ∧ u' = res.2)) args s 0 0 (z_A g z_shR)) 226 [(0, .ref (z_ad g 0)), (2, .int x2)] [] t) (h : b_X10_zeta_83 x2 x3 x5 q kb kx = some res) : z_V p l e R s m args below meth c 9 g z_shR (MQ below (z_Qc g z_shR (fun v u' => v = some (.long res.1) ∧ u' = res.2)) args s 0 0 (z_A g z_shR)) 83 [(0, .ref (z_ad g 0)), (2, .int x2), (3, .int x3), (5, .int x5), (6, .int q.1)] [] q.2 := by
  unfold b_X10_zeta_83 at h
  refine z_iload X 4 dX10_zeta_83 rfl (z_iload_n X 2 dX10_zeta_85 rfl rfl (z_icmp_ge X 226 dX10_zeta_86 (by decide) (fun c13 => ?_) (fun c13 => ?_)))
  · replace h := z_ip c13 h
    refine z_sub [0, 1] [(0, .ref (z_ad g 0)), (2, .int x2)] rfl ?_
    exact hkx q.2 h
  · replace h := z_in c13 h
    refine z_iconst X (v := 0) dX10_zeta_89 (by decide) (z_istore X [(7, .int 0), (0, .ref (z_ad g 0)), (2, .int x2), (3, .int x3), (5, .int x5), (6, .int q.1)] dX10_zeta_90 (by decide) rfl (z_sub [1, 2, 3, 4, 5, 0] [(0, .ref (z_ad g 0)), (2, .int x2), (3, .int x3), (5, .int x5), (6, .int q.1), (7, .int 0)] rfl ?_))
    have hw := z_lp_w (fun q9 kb9 kx9 h1 h2 h3 => wb_X10_zeta_92 (l := l) (e := e) (below := below) (u := q.2) hR X x2 x3 x5 q.1 q9 kb9 kx9 h1 h2 h3) z_F _ _ h
    refine hw (fun t32 h => ?_)
    refine z_iconst X (v := 0) dX10_zeta_190 (by decide) (z_istore X [(7, .int 0), (0, .ref (z_ad g 0)), (2, .int x2), (3, .int x3), (5, .int x5), (6, .int q.1)] dX10_zeta_191 (by decide) rfl (z_sub [1, 2, 3, 4, 5, 0] [(0, .ref (z_ad g 0)), (2, .int x2), (3, .int x3), (5, .int x5), (6, .int q.1), (7, .int 0)] rfl ?_))
    have hw := z_lp_w (fun q9 kb9 kx9 h1 h2 h3 => wb_X10_zeta_193 (l := l) (e := e) (below := below) (u := t32) hR X x2 x3 x5 q.1 q9 kb9 kx9 h1 h2 h3) z_F _ _ h
    refine hw (fun t37 h => ?_)
    refine z_iinc X (v := q.1 + 1) 4 [(6, .int (q.1 + 1)), (0, .ref (z_ad g 0)), (2, .int x2), (3, .int x3), (5, .int x5)] dX10_zeta_220 rfl rfl (by decide) rfl (z_goto X 83 dX10_zeta_223 (by decide) (z_sub [1, 2, 3, 4, 0] [(0, .ref (z_ad g 0)), (2, .int x2), (3, .int x3), (5, .int x5), (6, .int (q.1 + 1))] rfl ?_))
    exact hkb (q.1 + 1, t37) h
set_option maxRecDepth 20000 in
set_option maxHeartbeats 4000000 in
theorem wj_X10_zeta_j27 {p : Program} {l : Launch} {e : Env} {R : Room} {s : State} {m : MethodId} {args : Array Value} {below : List Frame} {meth : Method} {c : Code} {g : z_G} {u : z_M} {res : Int64 × z_M} (hR : R = z_rm 6) (X : z_X p R s m args meth c cX10_zeta 9 RX10 wsX10_zeta (some .long) g z_shR) (x1 : Int32) (x2 : Int32) (x3 : Int32) (x90 : Int32) (w : z_M) (h : j_X10_zeta_j27 x1 x2 x3 x90 w = some res) : z_V p l e R s m args below meth c 9 g z_shR (MQ below (z_Qc g z_shR (fun v u' => v = some (.long res.1) ∧ u' = res.2)) args s 0 0 (z_A g z_shR)) 27 [(0, .ref (z_ad g 0)), (1, .int x1), (2, .int x2), (3, .int x3)] [.int x90] w := by
  unfold j_X10_zeta_j27 at h
  refine z_istore X [(4, .int x90), (0, .ref (z_ad g 0)), (1, .int x1), (2, .int x2), (3, .int x3)] dX10_zeta_27 (by decide) rfl (z_iload X 0 dX10_zeta_29 rfl (z_if_ge X 38 dX10_zeta_31 (by decide) (fun c4 => ?_) (fun c4 => ?_)))
  · replace h := z_ip c4 h
    obtain ⟨r5, er5, h⟩ := z_bs h
    refine z_aload_n X 1 dX10_zeta_38 rfl rfl (z_iload_n X 2 dX10_zeta_39 rfl rfl (z_iload_n X 3 dX10_zeta_40 rfl rfl (z_callVi X (r := r5) (u1 := w) [.int x1, .int x2] [] (w_X10_between l g x1 x2 w er5) z_r0 rfl gX10_zeta_X10_between hy_X10_between rfl (z_le1 hR (by decide)) (z_le2 hR (by decide) (by decide)) (Nat.le_of_ble_eq_true rfl) dX10_zeta_41 (z_istore X [(5, .int r5), (4, .int x90), (0, .ref (z_ad g 0)), (1, .int x1), (2, .int x2), (3, .int x3)] dX10_zeta_44 (by decide) rfl (z_iconst X (v := 0) dX10_zeta_46 (by decide) (z_istore X [(6, .int 0), (5, .int r5), (4, .int x90), (0, .ref (z_ad g 0)), (1, .int x1), (2, .int x2), (3, .int x3)] dX10_zeta_47 (by decide) rfl (z_sub [3, 4, 5, 6, 1, 0] [(0, .ref (z_ad g 0)), (1, .int x1), (2, .int x2), (3, .int x3), (5, .int r5), (6, .int 0)] rfl ?_)))))))
    have hw := z_lp_w (fun q9 kb9 kx9 h1 h2 h3 => wb_X10_zeta_49 (l := l) (e := e) (below := below) (u := w) hR X x1 x2 x3 r5 q9 kb9 kx9 h1 h2 h3) z_F _ _ h
    refine hw (fun t12 h => ?_)
    refine z_iconst X (v := 0) dX10_zeta_80 (by decide) (z_istore X [(6, .int 0), (0, .ref (z_ad g 0)), (2, .int x2), (3, .int x3), (5, .int r5)] dX10_zeta_81 (by decide) rfl (z_sub [1, 2, 3, 4, 0] [(0, .ref (z_ad g 0)), (2, .int x2), (3, .int x3), (5, .int r5), (6, .int 0)] rfl ?_))
    have hw := z_lp_w (fun q9 kb9 kx9 h1 h2 h3 => wb_X10_zeta_83 (l := l) (e := e) (below := below) (u := t12) hR X x2 x3 r5 q9 kb9 kx9 h1 h2 h3) z_F _ _ h
    refine hw (fun t38 h => ?_)
    obtain ⟨b39, h⟩ := z_gs h
    refine z_aload_n X 0 dX10_zeta_226 rfl rfl (z_getR X (k0 := 23) z_r0 rfl in_X10_zeta_X10 (by decide) rfl rfl lk_X10_zeta_60 dX10_zeta_227 (z_iload_n X 1 dX10_zeta_230 rfl rfl (z_lald X z_r15 (z_inS b39) dX10_zeta_231 (z_lconst X (v := 0) dX10_zeta_232 (by decide) (z_lcmp X dX10_zeta_233 (z_if_ge X 243 dX10_zeta_234 (by decide) (fun c40 => ?_) (fun c40 => ?_)))))))
    · replace h := z_ip c40 h
      obtain ⟨b41, h⟩ := z_gs h
      refine z_aload_n X 0 dX10_zeta_243 rfl rfl (z_getR X (k0 := 23) z_r0 rfl in_X10_zeta_X10 (by decide) rfl rfl lk_X10_zeta_60 dX10_zeta_244 (z_iload_n X 1 dX10_zeta_247 rfl rfl (z_lald X z_r15 (z_inS b41) dX10_zeta_248 ?_)))
      cases h; exact z_lret X rfl dX10_zeta_249 ⟨rfl, rfl⟩
    · replace h := z_in c40 h
      refine z_ldc2 X dX10_zeta_237 ct339_X10_zeta (z_goto X 249 dX10_zeta_240 (by decide) ?_)
      cases h; exact z_lret X rfl dX10_zeta_249 ⟨rfl, rfl⟩
  · replace h := z_in c4 h
    refine z_iload X 0 dX10_zeta_34 rfl (z_i2l X dX10_zeta_36 ?_)
    cases h; exact z_lret X rfl dX10_zeta_37 ⟨rfl, rfl⟩
set_option maxRecDepth 20000 in
set_option maxHeartbeats 4000000 in
theorem w_X10_zeta (l : Launch) (g : z_G) (a1 : Int32) (a2 : Int32) (a3 : Int32) (u : z_M) {res : Int64 × z_M} (h : f_X10_zeta a1 a2 a3 u = some res) : z_C l g z_shR yX10_zeta wsX10_zeta 6 [.ref (z_ad g 0), .int a1, .int a2, .int a3] u (fun v u' => v = some (.long res.1) ∧ u' = res.2) := by
  refine z_C.mk (lv := [(0, .ref (z_ad g 0)), (1, .int a1), (2, .int a2), (3, .int a3)]) (cc := cX10_zeta) (nL := 9) (rt := (some .long)) rfl (by decide) (Nat.le_of_ble_eq_true rfl) rfl (fun p e R s m args below meth c hR X => ?_)
  unfold f_X10_zeta at h
  obtain ⟨u1, eu1, h⟩ := z_ls h
  obtain ⟨r2, er2, h⟩ := z_bs h
  refine z_aload_n X 0 dX10_zeta_0 rfl rfl (z_iconst X (v := 0) dX10_zeta_1 (by decide) (z_putI X (k0 := 0) (ty0 := tyX10) z_r0 rfl in_X10_zeta_X10 tyX10_ok nmX10 (by decide) rfl rfl rfl rfl rfl lk_X10_zeta_82 dX10_zeta_2 (z_nm eu1 (z_iload_n X 3 dX10_zeta_5 rfl rfl (z_i2l X dX10_zeta_6 (z_lconst X (v := 1) dX10_zeta_7 (by decide) (z_ldc2 X dX10_zeta_8 ct333_X10_zeta (z_callSi X (r := r2) (u1 := u1) [.long a3.toInt64, .long 1, .long 1000] [] (w_X10_isIn l g a3.toInt64 1 1000 u1 er2) gX10_zeta_X10_isIn hy_X10_isIn.2 rfl (z_le1 hR (by decide)) (z_le2 hR (by decide) (by decide)) (Nat.le_of_ble_eq_true rfl) dX10_zeta_11 (z_if_eq X 26 dX10_zeta_14 (by decide) (fun c3 => ?_) (fun c3 => ?_))))))))))
  · replace h := z_ip c3 h
    refine z_iconst X (v := (-1)) dX10_zeta_26 (by decide) ?_
    exact wj_X10_zeta_j27 (u := u1) hR X a1 a2 a3 (-1) u1 h
  · replace h := z_in c3 h
    obtain ⟨r42, er42, h⟩ := z_bs h
    refine z_aload_n X 0 dX10_zeta_17 rfl rfl (z_iload_n X 1 dX10_zeta_18 rfl rfl (z_iload_n X 2 dX10_zeta_19 rfl rfl (z_callVi X (r := r42) (u1 := u1) [.int a1, .int a2] [] (w_X10_refusal l g a1 a2 u1 er42) z_r0 rfl gX10_zeta_X10_refusal hy_X10_refusal rfl (z_le1 hR (by decide)) (z_le2 hR (by decide) (by decide)) (Nat.le_of_ble_eq_true rfl) dX10_zeta_20 (z_goto X 27 dX10_zeta_23 (by decide) ?_))))
    exact wj_X10_zeta_j27 (u := u1) hR X a1 a2 a3 r42 u1 h

theorem lk_X10_steps_82 : (Cond.fieldLink RX10 82 RX10 (TX10 0).2.1 (TX10 0).2.2.1) ∈ wsX10_steps := by decide +kernel
theorem in_X10_steps_X10 : ∀ w ∈ u_ws RX10 TX10 30, w ∈ wsX10_steps := fun _ h => List.mem_cons_of_mem _ (List.mem_append_right _ h)
theorem lk_X10_steps_54 : (Cond.fieldLink RX10 54 RX10 (TX10 21).2.1 (TX10 21).2.2.1) ∈ wsX10_steps := by decide +kernel
theorem lk_X10_steps_39 : (Cond.fieldLink RX10 39 RX10 (TX10 15).2.1 (TX10 15).2.2.1) ∈ wsX10_steps := by decide +kernel
def b_X10_steps_40 (x1 : Int32) (x2 : Int32) (x3 : Int32) (x5 : Int32) : (Int32 × z_M) → ((Int32 × z_M) → Option (Int32 × z_M)) → (z_M → Option (Int32 × z_M)) → Option (Int32 × z_M) := fun q kb kx =>
  if 9 ≤ q.1 then (kx q.2) else (if q.1 = x1 then (z_gd (z_inb q.1 9) (z_lt (z_sI q.2 13 q.1.toNatClampNeg 1) (fun u8 => kb (q.1 + 1, u8)))) else (z_gd (z_inb q.1 9) (z_lt (z_sI q.2 13 q.1.toNatClampNeg 0) (fun u10 => kb (q.1 + 1, u10)))))
def b_X10_steps_108 (x2 : Int32) (x3 : Int32) (x5 : Int32) (x6 : Int32) (x7 : Int32) : (Int32 × z_M) → ((Int32 × z_M) → Option (Int32 × z_M)) → (z_M → Option (Int32 × z_M)) → Option (Int32 × z_M) := fun q kb kx =>
  if 9 ≤ q.1 then (kx q.2) else (Option.bind (f_X10_has x5 x7) (fun r18 => if r18 = 0 then (kx q.2) else (z_gd (z_inb x7 512) (Option.bind (f_X10_below x7 q.2) (fun r21 => Option.bind (f_X10_has (x5 &&& r21) q.1) (fun r22 => if r22 = 0 then (z_gd (z_inb x7 512) (z_lt (z_sI q.2 8 x7.toNatClampNeg ((z_gI q.2 8 x7.toNatClampNeg) + 0)) (fun u25 => kb (q.1 + 1, u25)))) else (z_gd (z_inb q.1 9) (z_gd (z_inb x7 512) (z_lt (z_sI q.2 8 x7.toNatClampNeg ((z_gI q.2 8 x7.toNatClampNeg) + (z_gI q.2 13 q.1.toNatClampNeg))) (fun u28 => kb (q.1 + 1, u28)))))))))))
def b_X10_steps_90 (x2 : Int32) (x3 : Int32) (x5 : Int32) (x6 : Int32) : (Int32 × z_M) → ((Int32 × z_M) → Option (Int32 × z_M)) → (z_M → Option (Int32 × z_M)) → Option (Int32 × z_M) := fun q kb kx =>
  if 9 ≤ q.1 then (kx q.2) else (z_gd (z_inb q.1 512) (z_lt (z_sI q.2 8 q.1.toNatClampNeg 0) (fun u16 => z_lp (b_X10_steps_108 x2 x3 x5 x6 q.1) z_F (0, u16) (fun t29 => kb (q.1 + 1, t29)))))
def b_X10_steps_178 (x2 : Int32) (x3 : Int32) (x5 : Int32) (x6 : Int32) : (Int32 × z_M) → ((Int32 × z_M) → Option (Int32 × z_M)) → (z_M → Option (Int32 × z_M)) → Option (Int32 × z_M) := fun q kb kx =>
  if 9 ≤ q.1 then (kx q.2) else (z_gd (z_inb q.1 512) (z_gd (z_inb q.1 9) (z_lt (z_sI q.2 13 q.1.toNatClampNeg (z_gI q.2 8 q.1.toNatClampNeg)) (fun u34 => kb (q.1 + 1, u34)))))
def b_X10_steps_74 (x2 : Int32) (x3 : Int32) (x5 : Int32) : (Int32 × z_M) → ((Int32 × z_M) → Option (Int32 × z_M)) → (z_M → Option (Int32 × z_M)) → Option (Int32 × z_M) := fun q kb kx =>
  if x3 ≤ q.1 then (kx q.2) else (if 9 ≤ q.1 then (kx q.2) else (z_lp (b_X10_steps_90 x2 x3 x5 q.1) z_F (0, q.2) (fun t30 => z_lp (b_X10_steps_178 x2 x3 x5 q.1) z_F (0, t30) (fun t35 => kb (q.1 + 1, t35)))))
def j_X10_steps_j19 (x1 : Int32) (x2 : Int32) (x3 : Int32) (x90 : Int32) (w : z_M) : Option (Int32 × z_M) :=
  if 0 ≤ x90 then (Option.bind (f_X10_between x1 x2 w) (fun r4 => z_lp (b_X10_steps_40 x1 x2 x3 r4) z_F (0, w) (fun t11 => z_lp (b_X10_steps_74 x2 x3 r4) z_F (0, t11) (fun t36 => z_gd (z_inb x2 9) (some (z_gI t36 13 x2.toNatClampNeg, t36)))))) else (some (x90, w))
def f_X10_steps (a1 : Int32) (a2 : Int32) (a3 : Int32) (u : z_M) : Option (Int32 × z_M) :=
  z_lt (z_sI u 0 0 0) (fun u1 => if a3 < 0 then (j_X10_steps_j19 a1 a2 a3 (-1) u1) else (Option.bind (f_X10_refusal a1 a2 u1) (fun r38 => j_X10_steps_j19 a1 a2 a3 r38 u1)))
set_option maxRecDepth 20000 in
set_option maxHeartbeats 4000000 in
theorem wb_X10_steps_40 {p : Program} {l : Launch} {e : Env} {R : Room} {s : State} {m : MethodId} {args : Array Value} {below : List Frame} {meth : Method} {c : Code} {g : z_G} {u : z_M} {res : Int32 × z_M} (hR : R = z_rm 6) (X : z_X p R s m args meth c cX10_steps 9 RX10 wsX10_steps (some .int) g z_shR) (x1 : Int32) (x2 : Int32) (x3 : Int32) (x5 : Int32) (q : Int32 × z_M) (kb : (Int32 × z_M) → Option (Int32 × z_M)) (kx : z_M → Option (Int32 × z_M)) (hkb : ∀ q, kb q = some res → z_V p l e R s m args below meth c 9 g z_shR (MQ below (z_Qc g z_shR (fun v u' => v = some (.int res.1) ∧ u' = res.2)) args s 0 0 (z_A g z_shR)) 40 [(0, .ref (z_ad g 0)), (1, .int x1), (2, .int x2), (3, .int x3), (5, .int x5), (6, .int q.1)] [] q.2) (hkx : ∀ t, kx t = some res → z_V p l e R s m args below meth c 9 g z_shR (MQ below (z_Qc g z_shR (fun v u' => v = some (.int res.1) ∧ u' = res.2)) args s 0 0 (z_A g z_shR)) 71 [(0, .ref (z_ad g 0)), (2, .int x2), (3, .int x3), (5, .int x5)] [] t) (h : b_X10_steps_40 x1 x2 x3 x5 q kb kx = some res) : z_V p l e R s m args below meth c 9 g z_shR (MQ below (z_Qc g z_shR (fun v u' => v = some (.int res.1) ∧ u' = res.2)) args s 0 0 (z_A g z_shR)) 40 [(0, .ref (z_ad g 0)), (1, .int x1), (2, .int x2), (3, .int x3), (5, .int x5), (6, .int q.1)] [] q.2 := by
  unfold b_X10_steps_40 at h
  refine z_iload X 5 dX10_steps_40 rfl (z_bipush X (v := 9) dX10_steps_42 (by decide) (z_icmp_ge X 71 dX10_steps_44 (by decide) (fun c5 => ?_) (fun c5 => ?_)))
  · replace h := z_ip c5 h
    refine z_sub [0, 2, 3, 4] [(0, .ref (z_ad g 0)), (2, .int x2), (3, .int x3), (5, .int x5)] rfl ?_
    exact hkx q.2 h
  · replace h := z_in c5 h
    refine z_aload_n X 0 dX10_steps_47 rfl rfl (z_getR X (k0 := 21) z_r0 rfl in_X10_steps_X10 (by decide) rfl rfl lk_X10_steps_54 dX10_steps_48 (z_iload X 5 dX10_steps_51 rfl (z_iload X 5 dX10_steps_53 rfl (z_iload_n X 1 dX10_steps_55 rfl rfl (z_icmp_ne X 63 dX10_steps_56 (by decide) (fun c6 => ?_) (fun c6 => ?_))))))
    · replace h := z_in c6 h
      obtain ⟨b9, h⟩ := z_gs h
      obtain ⟨u10, eu10, h⟩ := z_ls h
      refine z_iconst X (v := 0) dX10_steps_63 (by decide) (z_iast X z_r13 (z_inS b9) dX10_steps_64 (z_nm eu10 (z_iinc X (v := q.1 + 1) 5 [(6, .int (q.1 + 1)), (0, .ref (z_ad g 0)), (1, .int x1), (2, .int x2), (3, .int x3), (5, .int x5)] dX10_steps_65 rfl rfl (by decide) rfl (z_goto X 40 dX10_steps_68 (by decide) (z_sub [1, 2, 3, 4, 5, 0] [(0, .ref (z_ad g 0)), (1, .int x1), (2, .int x2), (3, .int x3), (5, .int x5), (6, .int (q.1 + 1))] rfl ?_)))))
      exact hkb (q.1 + 1, u10) h
    · replace h := z_ip c6 h
      obtain ⟨b7, h⟩ := z_gs h
      obtain ⟨u8, eu8, h⟩ := z_ls h
      refine z_iconst X (v := 1) dX10_steps_59 (by decide) (z_goto X 64 dX10_steps_60 (by decide) (z_iast X z_r13 (z_inS b7) dX10_steps_64 (z_nm eu8 (z_iinc X (v := q.1 + 1) 5 [(6, .int (q.1 + 1)), (0, .ref (z_ad g 0)), (1, .int x1), (2, .int x2), (3, .int x3), (5, .int x5)] dX10_steps_65 rfl rfl (by decide) rfl (z_goto X 40 dX10_steps_68 (by decide) (z_sub [1, 2, 3, 4, 5, 0] [(0, .ref (z_ad g 0)), (1, .int x1), (2, .int x2), (3, .int x3), (5, .int x5), (6, .int (q.1 + 1))] rfl ?_))))))
      exact hkb (q.1 + 1, u8) h
set_option maxRecDepth 20000 in
set_option maxHeartbeats 4000000 in
theorem wb_X10_steps_108 {p : Program} {l : Launch} {e : Env} {R : Room} {s : State} {m : MethodId} {args : Array Value} {below : List Frame} {meth : Method} {c : Code} {g : z_G} {u : z_M} {res : Int32 × z_M} (hR : R = z_rm 6) (X : z_X p R s m args meth c cX10_steps 9 RX10 wsX10_steps (some .int) g z_shR) (x2 : Int32) (x3 : Int32) (x5 : Int32) (x6 : Int32) (x7 : Int32) (q : Int32 × z_M) (kb : (Int32 × z_M) → Option (Int32 × z_M)) (kx : z_M → Option (Int32 × z_M)) (hkb : ∀ q, kb q = some res → z_V p l e R s m args below meth c 9 g z_shR (MQ below (z_Qc g z_shR (fun v u' => v = some (.int res.1) ∧ u' = res.2)) args s 0 0 (z_A g z_shR)) 108 [(0, .ref (z_ad g 0)), (2, .int x2), (3, .int x3), (5, .int x5), (6, .int x6), (7, .int x7), (8, .int q.1)] [] q.2) (hkx : ∀ t, kx t = some res → z_V p l e R s m args below meth c 9 g z_shR (MQ below (z_Qc g z_shR (fun v u' => v = some (.int res.1) ∧ u' = res.2)) args s 0 0 (z_A g z_shR)) 169 [(0, .ref (z_ad g 0)), (2, .int x2), (3, .int x3), (5, .int x5), (6, .int x6), (7, .int x7)] [] t) (h : b_X10_steps_108 x2 x3 x5 x6 x7 q kb kx = some res) : z_V p l e R s m args below meth c 9 g z_shR (MQ below (z_Qc g z_shR (fun v u' => v = some (.int res.1) ∧ u' = res.2)) args s 0 0 (z_A g z_shR)) 108 [(0, .ref (z_ad g 0)), (2, .int x2), (3, .int x3), (5, .int x5), (6, .int x6), (7, .int x7), (8, .int q.1)] [] q.2 := by
  unfold b_X10_steps_108 at h
  refine z_iload X 6 dX10_steps_108 rfl (z_bipush X (v := 9) dX10_steps_110 (by decide) (z_icmp_ge X 169 dX10_steps_112 (by decide) (fun c17 => ?_) (fun c17 => ?_)))
  · replace h := z_ip c17 h
    refine z_sub [0, 1, 2, 3, 4, 5] [(0, .ref (z_ad g 0)), (2, .int x2), (3, .int x3), (5, .int x5), (6, .int x6), (7, .int x7)] rfl ?_
    exact hkx q.2 h
  · replace h := z_in c17 h
    obtain ⟨r18, er18, h⟩ := z_bs h
    refine z_iload X 3 dX10_steps_115 rfl (z_iload X 5 dX10_steps_117 rfl (z_callSi X (r := r18) (u1 := q.2) [.int x5, .int x7] [] (w_X10_has l g x5 x7 q.2 er18) gX10_steps_X10_has hy_X10_has.2 rfl (z_le1 hR (by decide)) (z_le2 hR (by decide) (by decide)) (Nat.le_of_ble_eq_true rfl) dX10_steps_119 (z_if_eq X 169 dX10_steps_122 (by decide) (fun c19 => ?_) (fun c19 => ?_))))
    · replace h := z_ip c19 h
      refine z_sub [0, 1, 2, 3, 4, 5] [(0, .ref (z_ad g 0)), (2, .int x2), (3, .int x3), (5, .int x5), (6, .int x6), (7, .int x7)] rfl ?_
      exact hkx q.2 h
    · replace h := z_in c19 h
      obtain ⟨b20, h⟩ := z_gs h
      obtain ⟨r21, er21, h⟩ := z_bs h
      obtain ⟨r22, er22, h⟩ := z_bs h
      refine z_aload_n X 0 dX10_steps_125 rfl rfl (z_getR X (k0 := 15) z_r0 rfl in_X10_steps_X10 (by decide) rfl rfl lk_X10_steps_39 dX10_steps_126 (z_iload X 5 dX10_steps_129 rfl (z_dup2 X dX10_steps_131 rfl rfl (z_iald X z_r8 (z_inS b20) dX10_steps_132 (z_iload X 3 dX10_steps_133 rfl (z_aload_n X 0 dX10_steps_135 rfl rfl (z_iload X 5 dX10_steps_136 rfl (z_callVi X (r := r21) (u1 := q.2) [.int x7] [.int x5, .int (z_gI q.2 8 x7.toNatClampNeg), .int x7, .ref (z_ad g 8)] (w_X10_below l g x7 q.2 er21) z_r0 rfl gX10_steps_X10_below hy_X10_below rfl (z_le1 hR (by decide)) (z_le2 hR (by decide) (by decide)) (Nat.le_of_ble_eq_true rfl) dX10_steps_138 (z_iand X dX10_steps_141 (z_iload X 6 dX10_steps_142 rfl (z_callSi X (r := r22) (u1 := q.2) [.int (x5 &&& r21), .int q.1] [.int (z_gI q.2 8 x7.toNatClampNeg), .int x7, .ref (z_ad g 8)] (w_X10_has l g (x5 &&& r21) q.1 q.2 er22) gX10_steps_X10_has hy_X10_has.2 rfl (z_le1 hR (by decide)) (z_le2 hR (by decide) (by decide)) (Nat.le_of_ble_eq_true rfl) dX10_steps_144 (z_if_eq X 160 dX10_steps_147 (by decide) (fun c23 => ?_) (fun c23 => ?_)))))))))))))
      · replace h := z_ip c23 h
        obtain ⟨b24, h⟩ := z_gs h
        obtain ⟨u25, eu25, h⟩ := z_ls h
        refine z_iconst X (v := 0) dX10_steps_160 (by decide) (z_iadd X dX10_steps_161 (z_iast X z_r8 (z_inS b24) dX10_steps_162 (z_nm eu25 (z_iinc X (v := q.1 + 1) 6 [(8, .int (q.1 + 1)), (0, .ref (z_ad g 0)), (2, .int x2), (3, .int x3), (5, .int x5), (6, .int x6), (7, .int x7)] dX10_steps_163 rfl rfl (by decide) rfl (z_goto X 108 dX10_steps_166 (by decide) (z_sub [1, 2, 3, 4, 5, 6, 0] [(0, .ref (z_ad g 0)), (2, .int x2), (3, .int x3), (5, .int x5), (6, .int x6), (7, .int x7), (8, .int (q.1 + 1))] rfl ?_))))))
        exact hkb (q.1 + 1, u25) h
      · replace h := z_in c23 h
        obtain ⟨b26, h⟩ := z_gs h
        obtain ⟨b27, h⟩ := z_gs h
        obtain ⟨u28, eu28, h⟩ := z_ls h
        refine z_aload_n X 0 dX10_steps_150 rfl rfl (z_getR X (k0 := 21) z_r0 rfl in_X10_steps_X10 (by decide) rfl rfl lk_X10_steps_54 dX10_steps_151 (z_iload X 6 dX10_steps_154 rfl (z_iald X z_r13 (z_inS b26) dX10_steps_156 (z_goto X 161 dX10_steps_157 (by decide) (z_iadd X dX10_steps_161 (z_iast X z_r8 (z_inS b27) dX10_steps_162 (z_nm eu28 (z_iinc X (v := q.1 + 1) 6 [(8, .int (q.1 + 1)), (0, .ref (z_ad g 0)), (2, .int x2), (3, .int x3), (5, .int x5), (6, .int x6), (7, .int x7)] dX10_steps_163 rfl rfl (by decide) rfl (z_goto X 108 dX10_steps_166 (by decide) (z_sub [1, 2, 3, 4, 5, 6, 0] [(0, .ref (z_ad g 0)), (2, .int x2), (3, .int x3), (5, .int x5), (6, .int x6), (7, .int x7), (8, .int (q.1 + 1))] rfl ?_))))))))))
        exact hkb (q.1 + 1, u28) h
set_option maxRecDepth 20000 in
set_option maxHeartbeats 4000000 in
theorem wb_X10_steps_90 {p : Program} {l : Launch} {e : Env} {R : Room} {s : State} {m : MethodId} {args : Array Value} {below : List Frame} {meth : Method} {c : Code} {g : z_G} {u : z_M} {res : Int32 × z_M} (hR : R = z_rm 6) (X : z_X p R s m args meth c cX10_steps 9 RX10 wsX10_steps (some .int) g z_shR) (x2 : Int32) (x3 : Int32) (x5 : Int32) (x6 : Int32) (q : Int32 × z_M) (kb : (Int32 × z_M) → Option (Int32 × z_M)) (kx : z_M → Option (Int32 × z_M)) (hkb : ∀ q, kb q = some res → z_V p l e R s m args below meth c 9 g z_shR (MQ below (z_Qc g z_shR (fun v u' => v = some (.int res.1) ∧ u' = res.2)) args s 0 0 (z_A g z_shR)) 90 [(0, .ref (z_ad g 0)), (2, .int x2), (3, .int x3), (5, .int x5), (6, .int x6), (7, .int q.1)] [] q.2) (hkx : ∀ t, kx t = some res → z_V p l e R s m args below meth c 9 g z_shR (MQ below (z_Qc g z_shR (fun v u' => v = some (.int res.1) ∧ u' = res.2)) args s 0 0 (z_A g z_shR)) 175 [(0, .ref (z_ad g 0)), (2, .int x2), (3, .int x3), (5, .int x5), (6, .int x6)] [] t) (h : b_X10_steps_90 x2 x3 x5 x6 q kb kx = some res) : z_V p l e R s m args below meth c 9 g z_shR (MQ below (z_Qc g z_shR (fun v u' => v = some (.int res.1) ∧ u' = res.2)) args s 0 0 (z_A g z_shR)) 90 [(0, .ref (z_ad g 0)), (2, .int x2), (3, .int x3), (5, .int x5), (6, .int x6), (7, .int q.1)] [] q.2 := by
  unfold b_X10_steps_90 at h
  refine z_iload X 5 dX10_steps_90 rfl (z_bipush X (v := 9) dX10_steps_92 (by decide) (z_icmp_ge X 175 dX10_steps_94 (by decide) (fun c14 => ?_) (fun c14 => ?_)))
  · replace h := z_ip c14 h
    refine z_sub [0, 1, 2, 3, 4] [(0, .ref (z_ad g 0)), (2, .int x2), (3, .int x3), (5, .int x5), (6, .int x6)] rfl ?_
    exact hkx q.2 h
  · replace h := z_in c14 h
    obtain ⟨b15, h⟩ := z_gs h
    obtain ⟨u16, eu16, h⟩ := z_ls h
    refine z_aload_n X 0 dX10_steps_97 rfl rfl (z_getR X (k0 := 15) z_r0 rfl in_X10_steps_X10 (by decide) rfl rfl lk_X10_steps_39 dX10_steps_98 (z_iload X 5 dX10_steps_101 rfl (z_iconst X (v := 0) dX10_steps_103 (by decide) (z_iast X z_r8 (z_inS b15) dX10_steps_104 (z_nm eu16 (z_iconst X (v := 0) dX10_steps_105 (by decide) (z_istore X [(8, .int 0), (0, .ref (z_ad g 0)), (2, .int x2), (3, .int x3), (5, .int x5), (6, .int x6), (7, .int q.1)] dX10_steps_106 (by decide) rfl (z_sub [1, 2, 3, 4, 5, 6, 0] [(0, .ref (z_ad g 0)), (2, .int x2), (3, .int x3), (5, .int x5), (6, .int x6), (7, .int q.1), (8, .int 0)] rfl ?_))))))))
    have hw := z_lp_w (fun q9 kb9 kx9 h1 h2 h3 => wb_X10_steps_108 (l := l) (e := e) (below := below) (u := u16) hR X x2 x3 x5 x6 q.1 q9 kb9 kx9 h1 h2 h3) z_F _ _ h
    refine hw (fun t29 h => ?_)
    refine z_iinc X (v := q.1 + 1) 5 [(7, .int (q.1 + 1)), (0, .ref (z_ad g 0)), (2, .int x2), (3, .int x3), (5, .int x5), (6, .int x6)] dX10_steps_169 rfl rfl (by decide) rfl (z_goto X 90 dX10_steps_172 (by decide) (z_sub [1, 2, 3, 4, 5, 0] [(0, .ref (z_ad g 0)), (2, .int x2), (3, .int x3), (5, .int x5), (6, .int x6), (7, .int (q.1 + 1))] rfl ?_))
    exact hkb (q.1 + 1, t29) h
set_option maxRecDepth 20000 in
set_option maxHeartbeats 4000000 in
theorem wb_X10_steps_178 {p : Program} {l : Launch} {e : Env} {R : Room} {s : State} {m : MethodId} {args : Array Value} {below : List Frame} {meth : Method} {c : Code} {g : z_G} {u : z_M} {res : Int32 × z_M} (hR : R = z_rm 6) (X : z_X p R s m args meth c cX10_steps 9 RX10 wsX10_steps (some .int) g z_shR) (x2 : Int32) (x3 : Int32) (x5 : Int32) (x6 : Int32) (q : Int32 × z_M) (kb : (Int32 × z_M) → Option (Int32 × z_M)) (kx : z_M → Option (Int32 × z_M)) (hkb : ∀ q, kb q = some res → z_V p l e R s m args below meth c 9 g z_shR (MQ below (z_Qc g z_shR (fun v u' => v = some (.int res.1) ∧ u' = res.2)) args s 0 0 (z_A g z_shR)) 178 [(0, .ref (z_ad g 0)), (2, .int x2), (3, .int x3), (5, .int x5), (6, .int x6), (7, .int q.1)] [] q.2) (hkx : ∀ t, kx t = some res → z_V p l e R s m args below meth c 9 g z_shR (MQ below (z_Qc g z_shR (fun v u' => v = some (.int res.1) ∧ u' = res.2)) args s 0 0 (z_A g z_shR)) 205 [(0, .ref (z_ad g 0)), (2, .int x2), (3, .int x3), (5, .int x5), (6, .int x6)] [] t) (h : b_X10_steps_178 x2 x3 x5 x6 q kb kx = some res) : z_V p l e R s m args below meth c 9 g z_shR (MQ below (z_Qc g z_shR (fun v u' => v = some (.int res.1) ∧ u' = res.2)) args s 0 0 (z_A g z_shR)) 178 [(0, .ref (z_ad g 0)), (2, .int x2), (3, .int x3), (5, .int x5), (6, .int x6), (7, .int q.1)] [] q.2 := by
  unfold b_X10_steps_178 at h
  refine z_iload X 5 dX10_steps_178 rfl (z_bipush X (v := 9) dX10_steps_180 (by decide) (z_icmp_ge X 205 dX10_steps_182 (by decide) (fun c31 => ?_) (fun c31 => ?_)))
  · replace h := z_ip c31 h
    refine z_sub [0, 1, 2, 3, 4] [(0, .ref (z_ad g 0)), (2, .int x2), (3, .int x3), (5, .int x5), (6, .int x6)] rfl ?_
    exact hkx q.2 h
  · replace h := z_in c31 h
    obtain ⟨b32, h⟩ := z_gs h
    obtain ⟨b33, h⟩ := z_gs h
    obtain ⟨u34, eu34, h⟩ := z_ls h
    refine z_aload_n X 0 dX10_steps_185 rfl rfl (z_getR X (k0 := 21) z_r0 rfl in_X10_steps_X10 (by decide) rfl rfl lk_X10_steps_54 dX10_steps_186 (z_iload X 5 dX10_steps_189 rfl (z_aload_n X 0 dX10_steps_191 rfl rfl (z_getR X (k0 := 15) z_r0 rfl in_X10_steps_X10 (by decide) rfl rfl lk_X10_steps_39 dX10_steps_192 (z_iload X 5 dX10_steps_195 rfl (z_iald X z_r8 (z_inS b32) dX10_steps_197 (z_iast X z_r13 (z_inS b33) dX10_steps_198 (z_nm eu34 (z_iinc X (v := q.1 + 1) 5 [(7, .int (q.1 + 1)), (0, .ref (z_ad g 0)), (2, .int x2), (3, .int x3), (5, .int x5), (6, .int x6)] dX10_steps_199 rfl rfl (by decide) rfl (z_goto X 178 dX10_steps_202 (by decide) (z_sub [1, 2, 3, 4, 5, 0] [(0, .ref (z_ad g 0)), (2, .int x2), (3, .int x3), (5, .int x5), (6, .int x6), (7, .int (q.1 + 1))] rfl ?_)))))))))))
    exact hkb (q.1 + 1, u34) h
set_option maxRecDepth 20000 in
set_option maxHeartbeats 4000000 in
theorem wb_X10_steps_74 {p : Program} {l : Launch} {e : Env} {R : Room} {s : State} {m : MethodId} {args : Array Value} {below : List Frame} {meth : Method} {c : Code} {g : z_G} {u : z_M} {res : Int32 × z_M} (hR : R = z_rm 6) (X : z_X p R s m args meth c cX10_steps 9 RX10 wsX10_steps (some .int) g z_shR) (x2 : Int32) (x3 : Int32) (x5 : Int32) (q : Int32 × z_M) (kb : (Int32 × z_M) → Option (Int32 × z_M)) (kx : z_M → Option (Int32 × z_M)) (hkb : ∀ q, kb q = some res → z_V p l e R s m args below meth c 9 g z_shR (MQ below (z_Qc g z_shR (fun v u' => v = some (.int res.1) ∧ u' = res.2)) args s 0 0 (z_A g z_shR)) 74 [(0, .ref (z_ad g 0)), (2, .int x2), (3, .int x3), (5, .int x5), (6, .int q.1)] [] q.2) (hkx : ∀ t, kx t = some res → z_V p l e R s m args below meth c 9 g z_shR (MQ below (z_Qc g z_shR (fun v u' => v = some (.int res.1) ∧ u' = res.2)) args s 0 0 (z_A g z_shR)) 211 [(0, .ref (z_ad g 0)), (2, .int x2)] [] t) (h : b_X10_steps_74 x2 x3 x5 q kb kx = some res) : z_V p l e R s m args below meth c 9 g z_shR (MQ below (z_Qc g z_shR (fun v u' => v = some (.int res.1) ∧ u' = res.2)) args s 0 0 (z_A g z_shR)) 74 [(0, .ref (z_ad g 0)), (2, .int x2), (3, .int x3), (5, .int x5), (6, .int q.1)] [] q.2 := by
  unfold b_X10_steps_74 at h
  refine z_iload X 4 dX10_steps_74 rfl (z_iload_n X 2 dX10_steps_76 rfl rfl (z_icmp_ge X 211 dX10_steps_77 (by decide) (fun c12 => ?_) (fun c12 => ?_)))
  · replace h := z_ip c12 h
    refine z_sub [0, 1] [(0, .ref (z_ad g 0)), (2, .int x2)] rfl ?_
    exact hkx q.2 h
  · replace h := z_in c12 h
    refine z_iload X 4 dX10_steps_80 rfl (z_bipush X (v := 9) dX10_steps_82 (by decide) (z_icmp_ge X 211 dX10_steps_84 (by decide) (fun c13 => ?_) (fun c13 => ?_)))
    · replace h := z_ip c13 h
      refine z_sub [0, 1] [(0, .ref (z_ad g 0)), (2, .int x2)] rfl ?_
      exact hkx q.2 h
    · replace h := z_in c13 h
      refine z_iconst X (v := 0) dX10_steps_87 (by decide) (z_istore X [(7, .int 0), (0, .ref (z_ad g 0)), (2, .int x2), (3, .int x3), (5, .int x5), (6, .int q.1)] dX10_steps_88 (by decide) rfl (z_sub [1, 2, 3, 4, 5, 0] [(0, .ref (z_ad g 0)), (2, .int x2), (3, .int x3), (5, .int x5), (6, .int q.1), (7, .int 0)] rfl ?_))
      have hw := z_lp_w (fun q9 kb9 kx9 h1 h2 h3 => wb_X10_steps_90 (l := l) (e := e) (below := below) (u := q.2) hR X x2 x3 x5 q.1 q9 kb9 kx9 h1 h2 h3) z_F _ _ h
      refine hw (fun t30 h => ?_)
      refine z_iconst X (v := 0) dX10_steps_175 (by decide) (z_istore X [(7, .int 0), (0, .ref (z_ad g 0)), (2, .int x2), (3, .int x3), (5, .int x5), (6, .int q.1)] dX10_steps_176 (by decide) rfl (z_sub [1, 2, 3, 4, 5, 0] [(0, .ref (z_ad g 0)), (2, .int x2), (3, .int x3), (5, .int x5), (6, .int q.1), (7, .int 0)] rfl ?_))
      have hw := z_lp_w (fun q9 kb9 kx9 h1 h2 h3 => wb_X10_steps_178 (l := l) (e := e) (below := below) (u := t30) hR X x2 x3 x5 q.1 q9 kb9 kx9 h1 h2 h3) z_F _ _ h
      refine hw (fun t35 h => ?_)
      refine z_iinc X (v := q.1 + 1) 4 [(6, .int (q.1 + 1)), (0, .ref (z_ad g 0)), (2, .int x2), (3, .int x3), (5, .int x5)] dX10_steps_205 rfl rfl (by decide) rfl (z_goto X 74 dX10_steps_208 (by decide) (z_sub [1, 2, 3, 4, 0] [(0, .ref (z_ad g 0)), (2, .int x2), (3, .int x3), (5, .int x5), (6, .int (q.1 + 1))] rfl ?_))
      exact hkb (q.1 + 1, t35) h
set_option maxRecDepth 20000 in
set_option maxHeartbeats 4000000 in
theorem wj_X10_steps_j19 {p : Program} {l : Launch} {e : Env} {R : Room} {s : State} {m : MethodId} {args : Array Value} {below : List Frame} {meth : Method} {c : Code} {g : z_G} {u : z_M} {res : Int32 × z_M} (hR : R = z_rm 6) (X : z_X p R s m args meth c cX10_steps 9 RX10 wsX10_steps (some .int) g z_shR) (x1 : Int32) (x2 : Int32) (x3 : Int32) (x90 : Int32) (w : z_M) (h : j_X10_steps_j19 x1 x2 x3 x90 w = some res) : z_V p l e R s m args below meth c 9 g z_shR (MQ below (z_Qc g z_shR (fun v u' => v = some (.int res.1) ∧ u' = res.2)) args s 0 0 (z_A g z_shR)) 19 [(0, .ref (z_ad g 0)), (1, .int x1), (2, .int x2), (3, .int x3)] [.int x90] w := by
  unfold j_X10_steps_j19 at h
  refine z_istore X [(4, .int x90), (0, .ref (z_ad g 0)), (1, .int x1), (2, .int x2), (3, .int x3)] dX10_steps_19 (by decide) rfl (z_iload X 0 dX10_steps_21 rfl (z_if_ge X 29 dX10_steps_23 (by decide) (fun c3 => ?_) (fun c3 => ?_)))
  · replace h := z_ip c3 h
    obtain ⟨r4, er4, h⟩ := z_bs h
    refine z_aload_n X 1 dX10_steps_29 rfl rfl (z_iload_n X 2 dX10_steps_30 rfl rfl (z_iload_n X 3 dX10_steps_31 rfl rfl (z_callVi X (r := r4) (u1 := w) [.int x1, .int x2] [] (w_X10_between l g x1 x2 w er4) z_r0 rfl gX10_steps_X10_between hy_X10_between rfl (z_le1 hR (by decide)) (z_le2 hR (by decide) (by decide)) (Nat.le_of_ble_eq_true rfl) dX10_steps_32 (z_istore X [(5, .int r4), (4, .int x90), (0, .ref (z_ad g 0)), (1, .int x1), (2, .int x2), (3, .int x3)] dX10_steps_35 (by decide) rfl (z_iconst X (v := 0) dX10_steps_37 (by decide) (z_istore X [(6, .int 0), (5, .int r4), (4, .int x90), (0, .ref (z_ad g 0)), (1, .int x1), (2, .int x2), (3, .int x3)] dX10_steps_38 (by decide) rfl (z_sub [3, 4, 5, 6, 1, 0] [(0, .ref (z_ad g 0)), (1, .int x1), (2, .int x2), (3, .int x3), (5, .int r4), (6, .int 0)] rfl ?_)))))))
    have hw := z_lp_w (fun q9 kb9 kx9 h1 h2 h3 => wb_X10_steps_40 (l := l) (e := e) (below := below) (u := w) hR X x1 x2 x3 r4 q9 kb9 kx9 h1 h2 h3) z_F _ _ h
    refine hw (fun t11 h => ?_)
    refine z_iconst X (v := 0) dX10_steps_71 (by decide) (z_istore X [(6, .int 0), (0, .ref (z_ad g 0)), (2, .int x2), (3, .int x3), (5, .int r4)] dX10_steps_72 (by decide) rfl (z_sub [1, 2, 3, 4, 0] [(0, .ref (z_ad g 0)), (2, .int x2), (3, .int x3), (5, .int r4), (6, .int 0)] rfl ?_))
    have hw := z_lp_w (fun q9 kb9 kx9 h1 h2 h3 => wb_X10_steps_74 (l := l) (e := e) (below := below) (u := t11) hR X x2 x3 r4 q9 kb9 kx9 h1 h2 h3) z_F _ _ h
    refine hw (fun t36 h => ?_)
    obtain ⟨b37, h⟩ := z_gs h
    refine z_aload_n X 0 dX10_steps_211 rfl rfl (z_getR X (k0 := 21) z_r0 rfl in_X10_steps_X10 (by decide) rfl rfl lk_X10_steps_54 dX10_steps_212 (z_iload_n X 1 dX10_steps_215 rfl rfl (z_iald X z_r13 (z_inS b37) dX10_steps_216 ?_)))
    cases h; exact z_iret X rfl dX10_steps_217 ⟨rfl, rfl⟩
  · replace h := z_in c3 h
    refine z_iload X 0 dX10_steps_26 rfl ?_
    cases h; exact z_iret X rfl dX10_steps_28 ⟨rfl, rfl⟩
set_option maxRecDepth 20000 in
set_option maxHeartbeats 4000000 in
theorem w_X10_steps (l : Launch) (g : z_G) (a1 : Int32) (a2 : Int32) (a3 : Int32) (u : z_M) {res : Int32 × z_M} (h : f_X10_steps a1 a2 a3 u = some res) : z_C l g z_shR yX10_steps wsX10_steps 6 [.ref (z_ad g 0), .int a1, .int a2, .int a3] u (fun v u' => v = some (.int res.1) ∧ u' = res.2) := by
  refine z_C.mk (lv := [(0, .ref (z_ad g 0)), (1, .int a1), (2, .int a2), (3, .int a3)]) (cc := cX10_steps) (nL := 9) (rt := (some .int)) rfl (by decide) (Nat.le_of_ble_eq_true rfl) rfl (fun p e R s m args below meth c hR X => ?_)
  unfold f_X10_steps at h
  obtain ⟨u1, eu1, h⟩ := z_ls h
  refine z_aload_n X 0 dX10_steps_0 rfl rfl (z_iconst X (v := 0) dX10_steps_1 (by decide) (z_putI X (k0 := 0) (ty0 := tyX10) z_r0 rfl in_X10_steps_X10 tyX10_ok nmX10 (by decide) rfl rfl rfl rfl rfl lk_X10_steps_82 dX10_steps_2 (z_nm eu1 (z_iload_n X 3 dX10_steps_5 rfl rfl (z_if_lt X 18 dX10_steps_6 (by decide) (fun c2 => ?_) (fun c2 => ?_))))))
  · replace h := z_ip c2 h
    refine z_iconst X (v := (-1)) dX10_steps_18 (by decide) ?_
    exact wj_X10_steps_j19 (u := u1) hR X a1 a2 a3 (-1) u1 h
  · replace h := z_in c2 h
    obtain ⟨r38, er38, h⟩ := z_bs h
    refine z_aload_n X 0 dX10_steps_9 rfl rfl (z_iload_n X 1 dX10_steps_10 rfl rfl (z_iload_n X 2 dX10_steps_11 rfl rfl (z_callVi X (r := r38) (u1 := u1) [.int a1, .int a2] [] (w_X10_refusal l g a1 a2 u1 er38) z_r0 rfl gX10_steps_X10_refusal hy_X10_refusal rfl (z_le1 hR (by decide)) (z_le2 hR (by decide) (by decide)) (Nat.le_of_ble_eq_true rfl) dX10_steps_12 (z_goto X 19 dX10_steps_15 (by decide) ?_))))
    exact wj_X10_steps_j19 (u := u1) hR X a1 a2 a3 r38 u1 h
