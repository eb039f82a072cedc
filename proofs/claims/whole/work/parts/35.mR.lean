def f_X10_isInterval (a1 : Int32) (a2 : Int32) (u : z_M) : Option (Int32) :=
  if a1 = a2 then (some 1) else (Option.bind (f_X10_isBelow a1 a2 u) (fun r2 => if r2 = 0 then (some 0) else (some 1)))
set_option maxRecDepth 20000 in
set_option maxHeartbeats 4000000 in
theorem w_X10_isInterval (l : Launch) (g : z_G) (a1 : Int32) (a2 : Int32) (u : z_M) {res : Int32} (h : f_X10_isInterval a1 a2 u = some res) : z_C l g z_shR yX10_isInterval wsX10_isInterval 3 [.ref (z_ad g 0), .int a1, .int a2] u (fun v u' => v = some (.int res) ∧ u' = u) := by
  refine z_C.mk (lv := [(0, .ref (z_ad g 0)), (1, .int a1), (2, .int a2)]) (cc := cX10_isInterval) (nL := 3) (rt := (some .boolean)) rfl (by decide) (Nat.le_of_ble_eq_true rfl) rfl (fun p e R s m args below meth c hR X => ?_)
  unfold f_X10_isInterval at h
  refine z_iload_n X 1 dX10_isInterval_0 rfl rfl (z_iload_n X 2 dX10_isInterval_1 rfl rfl (z_icmp_eq X 14 dX10_isInterval_2 (by decide) (fun c1 => ?_) (fun c1 => ?_)))
  · replace h := z_ip c1 h
    refine z_iconst X (v := 1) dX10_isInterval_14 (by decide) (z_goto X 19 dX10_isInterval_15 (by decide) ?_)
    cases h; exact z_zret X rfl rfl dX10_isInterval_19 ⟨rfl, rfl⟩
  · replace h := z_in c1 h
    obtain ⟨r2, er2, h⟩ := z_bs h
    refine z_aload_n X 0 dX10_isInterval_5 rfl rfl (z_iload_n X 1 dX10_isInterval_6 rfl rfl (z_iload_n X 2 dX10_isInterval_7 rfl rfl (z_callVi X (r := r2) (u1 := u) [.int a1, .int a2] [] (w_X10_isBelow l g a1 a2 u er2) z_r0 rfl gX10_isInterval_X10_isBelow hy_X10_isBelow rfl (z_le1 hR (by decide)) (z_le2 hR (by decide) (by decide)) (Nat.le_of_ble_eq_true rfl) dX10_isInterval_8 (z_if_eq X 18 dX10_isInterval_11 (by decide) (fun c3 => ?_) (fun c3 => ?_)))))
    · replace h := z_ip c3 h
      refine z_iconst X (v := 0) dX10_isInterval_18 (by decide) ?_
      cases h; exact z_zret X rfl rfl dX10_isInterval_19 ⟨rfl, rfl⟩
    · replace h := z_in c3 h
      refine z_iconst X (v := 1) dX10_isInterval_14 (by decide) (z_goto X 19 dX10_isInterval_15 (by decide) ?_)
      cases h; exact z_zret X rfl rfl dX10_isInterval_19 ⟨rfl, rfl⟩

theorem lk_X10_chainSet_45 : (Cond.fieldLink RX10 45 RX10 (TX10 17).2.1 (TX10 17).2.2.1) ∈ wsX10_chainSet := by decide +kernel
theorem in_X10_chainSet_X10 : ∀ w ∈ u_ws RX10 TX10 30, w ∈ wsX10_chainSet := by decide +kernel
def b_X10_chainSet_4 (x1 : Int32) (u : z_M) : (Int32 × Int32) → ((Int32 × Int32) → Option (Int32)) → (Int32 → Option (Int32)) → Option (Int32) := fun q kb kx =>
  z_gd (z_inb x1 64) (if (z_gI u 10 x1.toNatClampNeg) ≤ q.2 then (kx q.1) else (Option.bind (f_X10_chainAt x1 q.2 u) (fun r3 => z_lt (q.1 ||| (1 <<< (r3 &&& 31))) (fun v4 => kb (v4, q.2 + 1)))))
def f_X10_chainSet (a1 : Int32) (u : z_M) : Option (Int32) :=
  z_lp (b_X10_chainSet_4 a1 u) z_F (0, 0) (fun t5 => some t5)
set_option maxRecDepth 20000 in
set_option maxHeartbeats 4000000 in
theorem wb_X10_chainSet_4 {p : Program} {l : Launch} {e : Env} {R : Room} {s : State} {m : MethodId} {args : Array Value} {below : List Frame} {meth : Method} {c : Code} {g : z_G} {u : z_M} {res : Int32} (hR : R = z_rm 2) (X : z_X p R s m args meth c cX10_chainSet 4 RX10 wsX10_chainSet (some .int) g z_shR) (x1 : Int32) (q : Int32 × Int32) (kb : (Int32 × Int32) → Option (Int32)) (kx : Int32 → Option (Int32)) (hkb : ∀ q, kb q = some res → z_V p l e R s m args below meth c 4 g z_shR (MQ below (z_Qc g z_shR (fun v u' => v = some (.int res) ∧ u' = u)) args s 0 0 (z_A g z_shR)) 4 [(0, .ref (z_ad g 0)), (1, .int x1), (2, .int q.1), (3, .int q.2)] [] u) (hkx : ∀ t, kx t = some res → z_V p l e R s m args below meth c 4 g z_shR (MQ below (z_Qc g z_shR (fun v u' => v = some (.int res) ∧ u' = u)) args s 0 0 (z_A g z_shR)) 31 [(2, .int t)] [] u) (h : b_X10_chainSet_4 x1 u q kb kx = some res) : z_V p l e R s m args below meth c 4 g z_shR (MQ below (z_Qc g z_shR (fun v u' => v = some (.int res) ∧ u' = u)) args s 0 0 (z_A g z_shR)) 4 [(0, .ref (z_ad g 0)), (1, .int x1), (2, .int q.1), (3, .int q.2)] [] u := by
  unfold b_X10_chainSet_4 at h
  obtain ⟨b1, h⟩ := z_gs h
  refine z_iload_n X 3 dX10_chainSet_4 rfl rfl (z_aload_n X 0 dX10_chainSet_5 rfl rfl (z_getR X (k0 := 17) z_r0 rfl in_X10_chainSet_X10 (by decide) rfl rfl lk_X10_chainSet_45 dX10_chainSet_6 (z_iload_n X 1 dX10_chainSet_9 rfl rfl (z_iald X z_r10 (z_inS b1) dX10_chainSet_10 (z_icmp_ge X 31 dX10_chainSet_11 (by decide) (fun c2 => ?_) (fun c2 => ?_))))))
  · replace h := z_ip c2 h
    refine z_sub [2] [(2, .int q.1)] rfl ?_
    exact hkx q.1 h
  · replace h := z_in c2 h
    obtain ⟨r3, er3, h⟩ := z_bs h
    obtain ⟨v4, ev4, h⟩ := z_ls h
    refine z_iload_n X 2 dX10_chainSet_14 rfl rfl (z_iconst X (v := 1) dX10_chainSet_15 (by decide) (z_aload_n X 0 dX10_chainSet_16 rfl rfl (z_iload_n X 1 dX10_chainSet_17 rfl rfl (z_iload_n X 3 dX10_chainSet_18 rfl rfl (z_callVi X (r := r3) (u1 := u) [.int x1, .int q.2] [.int 1, .int q.1] (w_X10_chainAt l g x1 q.2 u er3) z_r0 rfl gX10_chainSet_X10_chainAt hy_X10_chainAt rfl (z_le1 hR (by decide)) (z_le2 hR (by decide) (by decide)) (Nat.le_of_ble_eq_true rfl) dX10_chainSet_19 (z_ishl X dX10_chainSet_22 (z_ior X dX10_chainSet_23 (z_ti ev4 (z_istore_n X [(2, .int v4), (0, .ref (z_ad g 0)), (1, .int x1), (3, .int q.2)] dX10_chainSet_24 rfl (by decide) rfl (z_iinc X (v := q.2 + 1) 3 [(3, .int (q.2 + 1)), (2, .int v4), (0, .ref (z_ad g 0)), (1, .int x1)] dX10_chainSet_25 rfl rfl (by decide) rfl (z_goto X 4 dX10_chainSet_28 (by decide) (z_sub [2, 3, 1, 0] [(0, .ref (z_ad g 0)), (1, .int x1), (2, .int v4), (3, .int (q.2 + 1))] rfl ?_))))))))))))
    exact hkb (v4, q.2 + 1) h
set_option maxRecDepth 20000 in
set_option maxHeartbeats 4000000 in
theorem w_X10_chainSet (l : Launch) (g : z_G) (a1 : Int32) (u : z_M) {res : Int32} (h : f_X10_chainSet a1 u = some res) : z_C l g z_shR yX10_chainSet wsX10_chainSet 2 [.ref (z_ad g 0), .int a1] u (fun v u' => v = some (.int res) ∧ u' = u) := by
  refine z_C.mk (lv := [(0, .ref (z_ad g 0)), (1, .int a1)]) (cc := cX10_chainSet) (nL := 4) (rt := (some .int)) rfl (by decide) (Nat.le_of_ble_eq_true rfl) rfl (fun p e R s m args below meth c hR X => ?_)
  unfold f_X10_chainSet at h
  refine z_iconst X (v := 0) dX10_chainSet_0 (by decide) (z_istore_n X [(2, .int 0), (0, .ref (z_ad g 0)), (1, .int a1)] dX10_chainSet_1 rfl (by decide) rfl (z_iconst X (v := 0) dX10_chainSet_2 (by decide) (z_istore_n X [(3, .int 0), (2, .int 0), (0, .ref (z_ad g 0)), (1, .int a1)] dX10_chainSet_3 rfl (by decide) rfl (z_sub [2, 3, 1, 0] [(0, .ref (z_ad g 0)), (1, .int a1), (2, .int 0), (3, .int 0)] rfl ?_))))
  have hw := z_lp_w (fun q9 kb9 kx9 h1 h2 h3 => wb_X10_chainSet_4 (l := l) (e := e) (below := below) (u := u) hR X a1 q9 kb9 kx9 h1 h2 h3) z_F _ _ h
  refine hw (fun t5 h => ?_)
  refine z_iload_n X 0 dX10_chainSet_31 rfl rfl ?_
  cases h; exact z_iret X rfl dX10_chainSet_32 ⟨rfl, rfl⟩

theorem hy_X10_isInterval : yX10_isInterval.cls = RX10 ∧ yX10_isInterval.cls ≠ "java/lang/invoke/MethodHandle" ∧ yX10_isInterval.cls ≠ "java/lang/invoke/VarHandle" ∧ (parseMethodDescriptor yX10_isInterval.desc).map (fun d => d.parameters.length) = some 2 := by decide +kernel
def f_X10_refusal (a1 : Int32) (a2 : Int32) (u : z_M) : Option (Int32) :=
  Option.bind (f_X10_areThere a1 a2 u) (fun r1 => if r1 = 0 then (some (-1)) else (Option.bind (f_X10_isInterval a1 a2 u) (fun r3 => if r3 = 0 then (some (-2)) else (some 0))))
set_option maxRecDepth 20000 in
set_option maxHeartbeats 4000000 in
theorem w_X10_refusal (l : Launch) (g : z_G) (a1 : Int32) (a2 : Int32) (u : z_M) {res : Int32} (h : f_X10_refusal a1 a2 u = some res) : z_C l g z_shR yX10_refusal wsX10_refusal 4 [.ref (z_ad g 0), .int a1, .int a2] u (fun v u' => v = some (.int res) ∧ u' = u) := by
  refine z_C.mk (lv := [(0, .ref (z_ad g 0)), (1, .int a1), (2, .int a2)]) (cc := cX10_refusal) (nL := 3) (rt := (some .int)) rfl (by decide) (Nat.le_of_ble_eq_true rfl) rfl (fun p e R s m args below meth c hR X => ?_)
  unfold f_X10_refusal at h
  obtain ⟨r1, er1, h⟩ := z_bs h
  refine z_aload_n X 0 dX10_refusal_0 rfl rfl (z_iload_n X 1 dX10_refusal_1 rfl rfl (z_iload_n X 2 dX10_refusal_2 rfl rfl (z_callVi X (r := r1) (u1 := u) [.int a1, .int a2] [] (w_X10_areThere l g a1 a2 u er1) z_r0 rfl gX10_refusal_X10_areThere hy_X10_areThere rfl (z_le1 hR (by decide)) (z_le2 hR (by decide) (by decide)) (Nat.le_of_ble_eq_true rfl) dX10_refusal_3 (z_if_ne X 13 dX10_refusal_6 (by decide) (fun c2 => ?_) (fun c2 => ?_)))))
  · replace h := z_in c2 h
    obtain ⟨r3, er3, h⟩ := z_bs h
    refine z_aload_n X 0 dX10_refusal_13 rfl rfl (z_iload_n X 1 dX10_refusal_14 rfl rfl (z_iload_n X 2 dX10_refusal_15 rfl rfl (z_callVi X (r := r3) (u1 := u) [.int a1, .int a2] [] (w_X10_isInterval l g a1 a2 u er3) z_r0 rfl gX10_refusal_X10_isInterval hy_X10_isInterval rfl (z_le1 hR (by decide)) (z_le2 hR (by decide) (by decide)) (Nat.le_of_ble_eq_true rfl) dX10_refusal_16 (z_if_eq X 26 dX10_refusal_19 (by decide) (fun c4 => ?_) (fun c4 => ?_)))))
    · replace h := z_ip c4 h
      refine z_bipush X (v := (-2)) dX10_refusal_26 (by decide) ?_
      cases h; exact z_iret X rfl dX10_refusal_28 ⟨rfl, rfl⟩
    · replace h := z_in c4 h
      refine z_iconst X (v := 0) dX10_refusal_22 (by decide) (z_goto X 28 dX10_refusal_23 (by decide) ?_)
      cases h; exact z_iret X rfl dX10_refusal_28 ⟨rfl, rfl⟩
  · replace h := z_ip c2 h
    refine z_iconst X (v := (-1)) dX10_refusal_9 (by decide) (z_goto X 28 dX10_refusal_10 (by decide) ?_)
    cases h; exact z_iret X rfl dX10_refusal_28 ⟨rfl, rfl⟩

theorem lk_X10_interval_82 : (Cond.fieldLink RX10 82 RX10 (TX10 0).2.1 (TX10 0).2.2.1) ∈ wsX10_interval := by decide +kernel
theorem in_X10_interval_X10 : ∀ w ∈ u_ws RX10 TX10 30, w ∈ wsX10_interval := fun _ h => List.mem_cons_of_mem _ (List.mem_append_right _ h)
theorem hy_X10_refusal : yX10_refusal.cls = RX10 ∧ yX10_refusal.cls ≠ "java/lang/invoke/MethodHandle" ∧ yX10_refusal.cls ≠ "java/lang/invoke/VarHandle" ∧ (parseMethodDescriptor yX10_refusal.desc).map (fun d => d.parameters.length) = some 2 := by decide +kernel
def f_X10_interval (a1 : Int32) (a2 : Int32) (u : z_M) : Option (Int32 × z_M) :=
  z_lt (z_sI u 0 0 0) (fun u1 => Option.bind (f_X10_refusal a1 a2 u1) (fun r2 => if 0 ≤ r2 then (Option.bind (f_X10_between a1 a2 u1) (fun r4 => some (r4, u1))) else (some (r2, u1))))
set_option maxRecDepth 20000 in
set_option maxHeartbeats 4000000 in
theorem w_X10_interval (l : Launch) (g : z_G) (a1 : Int32) (a2 : Int32) (u : z_M) {res : Int32 × z_M} (h : f_X10_interval a1 a2 u = some res) : z_C l g z_shR yX10_interval wsX10_interval 6 [.ref (z_ad g 0), .int a1, .int a2] u (fun v u' => v = some (.int res.1) ∧ u' = res.2) := by
  refine z_C.mk (lv := [(0, .ref (z_ad g 0)), (1, .int a1), (2, .int a2)]) (cc := cX10_interval) (nL := 4) (rt := (some .int)) rfl (by decide) (Nat.le_of_ble_eq_true rfl) rfl (fun p e R s m args below meth c hR X => ?_)
  unfold f_X10_interval at h
  obtain ⟨u1, eu1, h⟩ := z_ls h
  obtain ⟨r2, er2, h⟩ := z_bs h
  refine z_aload_n X 0 dX10_interval_0 rfl rfl (z_iconst X (v := 0) dX10_interval_1 (by decide) (z_putI X (k0 := 0) (ty0 := tyX10) z_r0 rfl in_X10_interval_X10 tyX10_ok nmX10 (by decide) rfl rfl rfl rfl rfl lk_X10_interval_82 dX10_interval_2 (z_nm eu1 (z_aload_n X 0 dX10_interval_5 rfl rfl (z_iload_n X 1 dX10_interval_6 rfl rfl (z_iload_n X 2 dX10_interval_7 rfl rfl (z_callVi X (r := r2) (u1 := u1) [.int a1, .int a2] [] (w_X10_refusal l g a1 a2 u1 er2) z_r0 rfl gX10_interval_X10_refusal hy_X10_refusal rfl (z_le1 hR (by decide)) (z_le2 hR (by decide) (by decide)) (Nat.le_of_ble_eq_true rfl) dX10_interval_8 (z_istore_n X [(3, .int r2), (0, .ref (z_ad g 0)), (1, .int a1), (2, .int a2)] dX10_interval_11 rfl (by decide) rfl (z_iload_n X 0 dX10_interval_12 rfl rfl (z_if_ge X 20 dX10_interval_13 (by decide) (fun c3 => ?_) (fun c3 => ?_)))))))))))
  · replace h := z_ip c3 h
    obtain ⟨r4, er4, h⟩ := z_bs h
    refine z_aload_n X 1 dX10_interval_20 rfl rfl (z_iload_n X 2 dX10_interval_21 rfl rfl (z_iload_n X 3 dX10_interval_22 rfl rfl (z_callVi X (r := r4) (u1 := u1) [.int a1, .int a2] [] (w_X10_between l g a1 a2 u1 er4) z_r0 rfl gX10_interval_X10_between hy_X10_between rfl (z_le1 hR (by decide)) (z_le2 hR (by decide) (by decide)) (Nat.le_of_ble_eq_true rfl) dX10_interval_23 ?_)))
    cases h; exact z_iret X rfl dX10_interval_26 ⟨rfl, rfl⟩
  · replace h := z_in c3 h
    refine z_iload_n X 0 dX10_interval_16 rfl rfl (z_goto X 26 dX10_interval_17 (by decide) ?_)
    cases h; exact z_iret X rfl dX10_interval_26 ⟨rfl, rfl⟩

theorem lk_X10_chains_82 : (Cond.fieldLink RX10 82 RX10 (TX10 0).2.1 (TX10 0).2.2.1) ∈ wsX10_chains := by decide +kernel
theorem in_X10_chains_X10 : ∀ w ∈ u_ws RX10 TX10 30, w ∈ wsX10_chains := fun _ h => List.mem_cons_of_mem _ (List.mem_append_right _ h)
theorem ct303_X10_chains : Cond.constantLong RX10 303 4 ∈ wsX10_chains := by decide +kernel
def j_X10_chains_j27 (x1 : Int32) (x2 : Int32) (x3 : Int32) (x90 : Int32) (w : z_M) : Option (Int32 × z_M) :=
  if 0 ≤ x90 then (Option.bind (f_X10_layChains x1 x2 w) (fun r5 => Option.bind (f_X10_chainsBy x3 r5) (fun r6 => some (r6, r5)))) else (some (x90, w))
def f_X10_chains (a1 : Int32) (a2 : Int32) (a3 : Int32) (u : z_M) : Option (Int32 × z_M) :=
  z_lt (z_sI u 0 0 0) (fun u1 => Option.bind (f_X10_isIn a3.toInt64 0 4) (fun r2 => if r2 = 0 then (j_X10_chains_j27 a1 a2 a3 (-1) u1) else (Option.bind (f_X10_refusal a1 a2 u1) (fun r7 => j_X10_chains_j27 a1 a2 a3 r7 u1))))
set_option maxRecDepth 20000 in
set_option maxHeartbeats 4000000 in
theorem wj_X10_chains_j27 {p : Program} {l : Launch} {e : Env} {R : Room} {s : State} {m : MethodId} {args : Array Value} {below : List Frame} {meth : Method} {c : Code} {g : z_G} {u : z_M} {res : Int32 × z_M} (hR : R = z_rm 7) (X : z_X p R s m args meth c cX10_chains 5 RX10 wsX10_chains (some .int) g z_shR) (x1 : Int32) (x2 : Int32) (x3 : Int32) (x90 : Int32) (w : z_M) (h : j_X10_chains_j27 x1 x2 x3 x90 w = some res) : z_V p l e R s m args below meth c 5 g z_shR (MQ below (z_Qc g z_shR (fun v u' => v = some (.int res.1) ∧ u' = res.2)) args s 0 0 (z_A g z_shR)) 27 [(0, .ref (z_ad g 0)), (1, .int x1), (2, .int x2), (3, .int x3)] [.int x90] w := by
  unfold j_X10_chains_j27 at h
  refine z_istore X [(4, .int x90), (0, .ref (z_ad g 0)), (1, .int x1), (2, .int x2), (3, .int x3)] dX10_chains_27 (by decide) rfl (z_iload X 0 dX10_chains_29 rfl (z_if_ge X 37 dX10_chains_31 (by decide) (fun c4 => ?_) (fun c4 => ?_)))
  · replace h := z_ip c4 h
    obtain ⟨r5, er5, h⟩ := z_bs h
    obtain ⟨r6, er6, h⟩ := z_bs h
    refine z_aload_n X 1 dX10_chains_37 rfl rfl (z_iload_n X 2 dX10_chains_38 rfl rfl (z_iload_n X 3 dX10_chains_39 rfl rfl (z_callVv X (u1 := r5) [.int x1, .int x2] [] (w_X10_layChains l g x1 x2 w er5) z_r0 rfl gX10_chains_X10_layChains hy_X10_layChains rfl (z_le1 hR (by decide)) (z_le2 hR (by decide) (by decide)) (Nat.le_of_ble_eq_true rfl) dX10_chains_40 (z_aload_n X 1 dX10_chains_43 rfl rfl (z_iload_n X 4 dX10_chains_44 rfl rfl (z_callVi X (r := r6) (u1 := r5) [.int x3] [] (w_X10_chainsBy l g x3 r5 er6) z_r0 rfl gX10_chains_X10_chainsBy hy_X10_chainsBy rfl (z_le1 hR (by decide)) (z_le2 hR (by decide) (by decide)) (Nat.le_of_ble_eq_true rfl) dX10_chains_45 ?_))))))
    cases h; exact z_iret X rfl dX10_chains_48 ⟨rfl, rfl⟩
  · replace h := z_in c4 h
    refine z_iload X 0 dX10_chains_34 rfl ?_
    cases h; exact z_iret X rfl dX10_chains_36 ⟨rfl, rfl⟩
set_option maxRecDepth 20000 in
set_option maxHeartbeats 4000000 in
theorem w_X10_chains (l : Launch) (g : z_G) (a1 : Int32) (a2 : Int32) (a3 : Int32) (u : z_M) {res : Int32 × z_M} (h : f_X10_chains a1 a2 a3 u = some res) : z_C l g z_shR yX10_chains wsX10_chains 7 [.ref (z_ad g 0), .int a1, .int a2, .int a3] u (fun v u' => v = some (.int res.1) ∧ u' = res.2) := by
  refine z_C.mk (lv := [(0, .ref (z_ad g 0)), (1, .int a1), (2, .int a2), (3, .int a3)]) (cc := cX10_chains) (nL := 5) (rt := (some .int)) rfl (by decide) (Nat.le_of_ble_eq_true rfl) rfl (fun p e R s m args below meth c hR X => ?_)
  unfold f_X10_chains at h
  obtain ⟨u1, eu1, h⟩ := z_ls h
  obtain ⟨r2, er2, h⟩ := z_bs h
  refine z_aload_n X 0 dX10_chains_0 rfl rfl (z_iconst X (v := 0) dX10_chains_1 (by decide) (z_putI X (k0 := 0) (ty0 := tyX10) z_r0 rfl in_X10_chains_X10 tyX10_ok nmX10 (by decide) rfl rfl rfl rfl rfl lk_X10_chains_82 dX10_chains_2 (z_nm eu1 (z_iload_n X 3 dX10_chains_5 rfl rfl (z_i2l X dX10_chains_6 (z_lconst X (v := 0) dX10_chains_7 (by decide) (z_ldc2 X dX10_chains_8 ct303_X10_chains (z_callSi X (r := r2) (u1 := u1) [.long a3.toInt64, .long 0, .long 4] [] (w_X10_isIn l g a3.toInt64 0 4 u1 er2) gX10_chains_X10_isIn hy_X10_isIn.2 rfl (z_le1 hR (by decide)) (z_le2 hR (by decide) (by decide)) (Nat.le_of_ble_eq_true rfl) dX10_chains_11 (z_if_eq X 26 dX10_chains_14 (by decide) (fun c3 => ?_) (fun c3 => ?_))))))))))
  · replace h := z_ip c3 h
    refine z_iconst X (v := (-1)) dX10_chains_26 (by decide) ?_
    exact wj_X10_chains_j27 (u := u1) hR X a1 a2 a3 (-1) u1 h
  · replace h := z_in c3 h
    obtain ⟨r7, er7, h⟩ := z_bs h
    refine z_aload_n X 0 dX10_chains_17 rfl rfl (z_iload_n X 1 dX10_chains_18 rfl rfl (z_iload_n X 2 dX10_chains_19 rfl rfl (z_callVi X (r := r7) (u1 := u1) [.int a1, .int a2] [] (w_X10_refusal l g a1 a2 u1 er7) z_r0 rfl gX10_chains_X10_refusal hy_X10_refusal rfl (z_le1 hR (by decide)) (z_le2 hR (by decide) (by decide)) (Nat.le_of_ble_eq_true rfl) dX10_chains_20 (z_goto X 27 dX10_chains_23 (by decide) ?_))))
    exact wj_X10_chains_j27 (u := u1) hR X a1 a2 a3 r7 u1 h

theorem lk_X10_laidTo_279 : (Cond.fieldLink RX10 279 RX10 (TX10 18).2.1 (TX10 18).2.2.1) ∈ wsX10_laidTo := by decide +kernel
theorem in_X10_laidTo_X10 : ∀ w ∈ u_ws RX10 TX10 30, w ∈ wsX10_laidTo := fun _ h => List.mem_cons_of_mem _ (List.mem_append_right _ h)
def f_X10_laidTo (a1 : Int32) (a2 : Int32) (a3 : Int32) (u : z_M) : Option (Int32 × z_M) :=
  Option.bind (f_X10_refusal a1 a2 u) (fun r1 => if 0 ≤ r1 then (Option.bind (f_X10_layChains a1 a2 u) (fun r3 => Option.bind (f_X10_isIn a3.toInt64 0 (((z_gI r3 0 18).toInt64) - 1)) (fun r4 => if r4 = 0 then (some ((-2), r3)) else (some (0, r3))))) else (some (r1, u)))
set_option maxRecDepth 20000 in
set_option maxHeartbeats 4000000 in
theorem w_X10_laidTo (l : Launch) (g : z_G) (a1 : Int32) (a2 : Int32) (a3 : Int32) (u : z_M) {res : Int32 × z_M} (h : f_X10_laidTo a1 a2 a3 u = some res) : z_C l g z_shR yX10_laidTo wsX10_laidTo 7 [.ref (z_ad g 0), .int a1, .int a2, .int a3] u (fun v u' => v = some (.int res.1) ∧ u' = res.2) := by
  refine z_C.mk (lv := [(0, .ref (z_ad g 0)), (1, .int a1), (2, .int a2), (3, .int a3)]) (cc := cX10_laidTo) (nL := 5) (rt := (some .int)) rfl (by decide) (Nat.le_of_ble_eq_true rfl) rfl (fun p e R s m args below meth c hR X => ?_)
  unfold f_X10_laidTo at h
  obtain ⟨r1, er1, h⟩ := z_bs h
  refine z_aload_n X 0 dX10_laidTo_0 rfl rfl (z_iload_n X 1 dX10_laidTo_1 rfl rfl (z_iload_n X 2 dX10_laidTo_2 rfl rfl (z_callVi X (r := r1) (u1 := u) [.int a1, .int a2] [] (w_X10_refusal l g a1 a2 u er1) z_r0 rfl gX10_laidTo_X10_refusal hy_X10_refusal rfl (z_le1 hR (by decide)) (z_le2 hR (by decide) (by decide)) (Nat.le_of_ble_eq_true rfl) dX10_laidTo_3 (z_istore X [(4, .int r1), (0, .ref (z_ad g 0)), (1, .int a1), (2, .int a2), (3, .int a3)] dX10_laidTo_6 (by decide) rfl (z_iload X 0 dX10_laidTo_8 rfl (z_if_ge X 16 dX10_laidTo_10 (by decide) (fun c2 => ?_) (fun c2 => ?_)))))))
  · replace h := z_ip c2 h
    obtain ⟨r3, er3, h⟩ := z_bs h
    obtain ⟨r4, er4, h⟩ := z_bs h
    refine z_aload_n X 1 dX10_laidTo_16 rfl rfl (z_iload_n X 2 dX10_laidTo_17 rfl rfl (z_iload_n X 3 dX10_laidTo_18 rfl rfl (z_callVv X (u1 := r3) [.int a1, .int a2] [] (w_X10_layChains l g a1 a2 u er3) z_r0 rfl gX10_laidTo_X10_layChains hy_X10_layChains rfl (z_le1 hR (by decide)) (z_le2 hR (by decide) (by decide)) (Nat.le_of_ble_eq_true rfl) dX10_laidTo_19 (z_iload_n X 4 dX10_laidTo_22 rfl rfl (z_i2l X dX10_laidTo_23 (z_lconst X (v := 0) dX10_laidTo_24 (by decide) (z_aload_n X 1 dX10_laidTo_25 rfl rfl (z_getI X (k0 := 18) z_r0 rfl in_X10_laidTo_X10 (by decide) rfl rfl lk_X10_laidTo_279 dX10_laidTo_26 (z_i2l X dX10_laidTo_29 (z_lconst X (v := 1) dX10_laidTo_30 (by decide) (z_lsub X dX10_laidTo_31 (z_callSi X (r := r4) (u1 := r3) [.long a3.toInt64, .long 0, .long (((z_gI r3 0 18).toInt64) - 1)] [] (w_X10_isIn l g a3.toInt64 0 (((z_gI r3 0 18).toInt64) - 1) r3 er4) gX10_laidTo_X10_isIn hy_X10_isIn.2 rfl (z_le1 hR (by decide)) (z_le2 hR (by decide) (by decide)) (Nat.le_of_ble_eq_true rfl) dX10_laidTo_32 (z_if_eq X 42 dX10_laidTo_35 (by decide) (fun c5 => ?_) (fun c5 => ?_))))))))))))))
    · replace h := z_ip c5 h
      refine z_bipush X (v := (-2)) dX10_laidTo_42 (by decide) ?_
      cases h; exact z_iret X rfl dX10_laidTo_44 ⟨rfl, rfl⟩
    · replace h := z_in c5 h
      refine z_iconst X (v := 0) dX10_laidTo_38 (by decide) (z_goto X 44 dX10_laidTo_39 (by decide) ?_)
      cases h; exact z_iret X rfl dX10_laidTo_44 ⟨rfl, rfl⟩
  · replace h := z_in c2 h
    refine z_iload X 0 dX10_laidTo_13 rfl ?_
    cases h; exact z_iret X rfl dX10_laidTo_15 ⟨rfl, rfl⟩

theorem lk_X10_point_82 : (Cond.fieldLink RX10 82 RX10 (TX10 0).2.1 (TX10 0).2.2.1) ∈ wsX10_point := by decide +kernel
theorem in_X10_point_X10 : ∀ w ∈ u_ws RX10 TX10 30, w ∈ wsX10_point := fun _ h => List.mem_cons_of_mem _ (List.mem_append_right _ h)
theorem lk_X10_point_45 : (Cond.fieldLink RX10 45 RX10 (TX10 17).2.1 (TX10 17).2.2.1) ∈ wsX10_point := by decide +kernel
theorem hy_X10_laidTo : yX10_laidTo.cls = RX10 ∧ yX10_laidTo.cls ≠ "java/lang/invoke/MethodHandle" ∧ yX10_laidTo.cls ≠ "java/lang/invoke/VarHandle" ∧ (parseMethodDescriptor yX10_laidTo.desc).map (fun d => d.parameters.length) = some 3 := by decide +kernel
def f_X10_point (a1 : Int32) (a2 : Int32) (a3 : Int32) (a4 : Int32) (u : z_M) : Option (Int32 × z_M) :=
  z_lt (z_sI u 0 0 0) (fun u1 => z_b2 (f_X10_laidTo a1 a2 a3 u1) (fun r2 u3 => if 0 ≤ r2 then (z_gd (z_inb a3 64) (Option.bind (f_X10_isIn a4.toInt64 0 (((z_gI u3 10 a3.toNatClampNeg).toInt64) - 1)) (fun r6 => if r6 = 0 then (some ((-2), u3)) else (Option.bind (f_X10_chainAt a3 a4 u3) (fun r8 => some (r8, u3)))))) else (some (r2, u3))))
set_option maxRecDepth 20000 in
set_option maxHeartbeats 4000000 in
theorem w_X10_point (l : Launch) (g : z_G) (a1 : Int32) (a2 : Int32) (a3 : Int32) (a4 : Int32) (u : z_M) {res : Int32 × z_M} (h : f_X10_point a1 a2 a3 a4 u = some res) : z_C l g z_shR yX10_point wsX10_point 8 [.ref (z_ad g 0), .int a1, .int a2, .int a3, .int a4] u (fun v u' => v = some (.int res.1) ∧ u' = res.2) := by
  refine z_C.mk (lv := [(0, .ref (z_ad g 0)), (1, .int a1), (2, .int a2), (3, .int a3), (4, .int a4)]) (cc := cX10_point) (nL := 6) (rt := (some .int)) rfl (by decide) (Nat.le_of_ble_eq_true rfl) rfl (fun p e R s m args below meth c hR X => ?_)
  unfold f_X10_point at h
  obtain ⟨u1, eu1, h⟩ := z_ls h
  obtain ⟨r2, u3, er2, h⟩ := z_b2s h
  refine z_aload_n X 0 dX10_point_0 rfl rfl (z_iconst X (v := 0) dX10_point_1 (by decide) (z_putI X (k0 := 0) (ty0 := tyX10) z_r0 rfl in_X10_point_X10 tyX10_ok nmX10 (by decide) rfl rfl rfl rfl rfl lk_X10_point_82 dX10_point_2 (z_nm eu1 (z_aload_n X 0 dX10_point_5 rfl rfl (z_iload_n X 1 dX10_point_6 rfl rfl (z_iload_n X 2 dX10_point_7 rfl rfl (z_iload_n X 3 dX10_point_8 rfl rfl (z_callVi X (r := r2) (u1 := u3) [.int a1, .int a2, .int a3] [] (w_X10_laidTo l g a1 a2 a3 u1 er2) z_r0 rfl gX10_point_X10_laidTo hy_X10_laidTo rfl (z_le1 hR (by decide)) (z_le2 hR (by decide) (by decide)) (Nat.le_of_ble_eq_true rfl) dX10_point_9 (z_istore X [(5, .int r2), (0, .ref (z_ad g 0)), (1, .int a1), (2, .int a2), (3, .int a3), (4, .int a4)] dX10_point_12 (by decide) rfl (z_iload X 0 dX10_point_14 rfl (z_if_ge X 24 dX10_point_16 (by decide) (fun c4 => ?_) (fun c4 => ?_))))))))))))
  · replace h := z_ip c4 h
    obtain ⟨b5, h⟩ := z_gs h
    obtain ⟨r6, er6, h⟩ := z_bs h
    refine z_iload X 5 dX10_point_24 rfl (z_i2l X dX10_point_26 (z_lconst X (v := 0) dX10_point_27 (by decide) (z_aload_n X 1 dX10_point_28 rfl rfl (z_getR X (k0 := 17) z_r0 rfl in_X10_point_X10 (by decide) rfl rfl lk_X10_point_45 dX10_point_29 (z_iload_n X 4 dX10_point_32 rfl rfl (z_iald X z_r10 (z_inS b5) dX10_point_33 (z_i2l X dX10_point_34 (z_lconst X (v := 1) dX10_point_35 (by decide) (z_lsub X dX10_point_36 (z_callSi X (r := r6) (u1 := u3) [.long a4.toInt64, .long 0, .long (((z_gI u3 10 a3.toNatClampNeg).toInt64) - 1)] [] (w_X10_isIn l g a4.toInt64 0 (((z_gI u3 10 a3.toNatClampNeg).toInt64) - 1) u3 er6) gX10_point_X10_isIn hy_X10_isIn.2 rfl (z_le1 hR (by decide)) (z_le2 hR (by decide) (by decide)) (Nat.le_of_ble_eq_true rfl) dX10_point_37 (z_if_eq X 53 dX10_point_40 (by decide) (fun c7 => ?_) (fun c7 => ?_))))))))))))
    · replace h := z_ip c7 h
      refine z_bipush X (v := (-2)) dX10_point_53 (by decide) ?_
      cases h; exact z_iret X rfl dX10_point_55 ⟨rfl, rfl⟩
    · replace h := z_in c7 h
      obtain ⟨r8, er8, h⟩ := z_bs h
      refine z_aload_n X 1 dX10_point_43 rfl rfl (z_iload_n X 4 dX10_point_44 rfl rfl (z_iload X 5 dX10_point_45 rfl (z_callVi X (r := r8) (u1 := u3) [.int a3, .int a4] [] (w_X10_chainAt l g a3 a4 u3 er8) z_r0 rfl gX10_point_X10_chainAt hy_X10_chainAt rfl (z_le1 hR (by decide)) (z_le2 hR (by decide) (by decide)) (Nat.le_of_ble_eq_true rfl) dX10_point_47 (z_goto X 55 dX10_point_50 (by decide) ?_))))
      cases h; exact z_iret X rfl dX10_point_55 ⟨rfl, rfl⟩
  · replace h := z_in c4 h
    refine z_iload X 0 dX10_point_19 rfl (z_goto X 55 dX10_point_21 (by decide) ?_)
    cases h; exact z_iret X rfl dX10_point_55 ⟨rfl, rfl⟩

theorem lk_X10_labelOf_82 : (Cond.fieldLink RX10 82 RX10 (TX10 0).2.1 (TX10 0).2.2.1) ∈ wsX10_labelOf := by decide +kernel
theorem in_X10_labelOf_X10 : ∀ w ∈ u_ws RX10 TX10 30, w ∈ wsX10_labelOf := fun _ h => List.mem_cons_of_mem _ (List.mem_append_right _ h)
theorem lk_X10_labelOf_45 : (Cond.fieldLink RX10 45 RX10 (TX10 17).2.1 (TX10 17).2.2.1) ∈ wsX10_labelOf := by decide +kernel
theorem ct309_X10_labelOf : Cond.constantLong RX10 309 2 ∈ wsX10_labelOf := by decide +kernel
def f_X10_labelOf (a1 : Int32) (a2 : Int32) (a3 : Int32) (a4 : Int32) (u : z_M) : Option (Int32 × z_M) :=
  z_lt (z_sI u 0 0 0) (fun u1 => z_b2 (f_X10_laidTo a1 a2 a3 u1) (fun r2 u3 => if 0 ≤ r2 then (z_gd (z_inb a3 64) (Option.bind (f_X10_isIn a4.toInt64 0 (((z_gI u3 10 a3.toNatClampNeg).toInt64) - 2)) (fun r6 => if r6 = 0 then (some ((-2), u3)) else (Option.bind (f_X10_labelAt a3 a4 u3) (fun r8 => some (r8, u3)))))) else (some (r2, u3))))
set_option maxRecDepth 20000 in
set_option maxHeartbeats 4000000 in
theorem w_X10_labelOf (l : Launch) (g : z_G) (a1 : Int32) (a2 : Int32) (a3 : Int32) (a4 : Int32) (u : z_M) {res : Int32 × z_M} (h : f_X10_labelOf a1 a2 a3 a4 u = some res) : z_C l g z_shR yX10_labelOf wsX10_labelOf 8 [.ref (z_ad g 0), .int a1, .int a2, .int a3, .int a4] u (fun v u' => v = some (.int res.1) ∧ u' = res.2) := by
  refine z_C.mk (lv := [(0, .ref (z_ad g 0)), (1, .int a1), (2, .int a2), (3, .int a3), (4, .int a4)]) (cc := cX10_labelOf) (nL := 6) (rt := (some .int)) rfl (by decide) (Nat.le_of_ble_eq_true rfl) rfl (fun p e R s m args below meth c hR X => ?_)
  unfold f_X10_labelOf at h
  obtain ⟨u1, eu1, h⟩ := z_ls h
  obtain ⟨r2, u3, er2, h⟩ := z_b2s h
  refine z_aload_n X 0 dX10_labelOf_0 rfl rfl (z_iconst X (v := 0) dX10_labelOf_1 (by decide) (z_putI X (k0 := 0) (ty0 := tyX10) z_r0 rfl in_X10_labelOf_X10 tyX10_ok nmX10 (by decide) rfl rfl rfl rfl rfl lk_X10_labelOf_82 dX10_labelOf_2 (z_nm eu1 (z_aload_n X 0 dX10_labelOf_5 rfl rfl (z_iload_n X 1 dX10_labelOf_6 rfl rfl (z_iload_n X 2 dX10_labelOf_7 rfl rfl (z_iload_n X 3 dX10_labelOf_8 rfl rfl (z_callVi X (r := r2) (u1 := u3) [.int a1, .int a2, .int a3] [] (w_X10_laidTo l g a1 a2 a3 u1 er2) z_r0 rfl gX10_labelOf_X10_laidTo hy_X10_laidTo rfl (z_le1 hR (by decide)) (z_le2 hR (by decide) (by decide)) (Nat.le_of_ble_eq_true rfl) dX10_labelOf_9 (z_istore X [(5, .int r2), (0, .ref (z_ad g 0)), (1, .int a1), (2, .int a2), (3, .int a3), (4, .int a4)] dX10_labelOf_12 (by decide) rfl (z_iload X 0 dX10_labelOf_14 rfl (z_if_ge X 24 dX10_labelOf_16 (by decide) (fun c4 => ?_) (fun c4 => ?_))))))))))))
  · replace h := z_ip c4 h
    obtain ⟨b5, h⟩ := z_gs h
    obtain ⟨r6, er6, h⟩ := z_bs h
    refine z_iload X 5 dX10_labelOf_24 rfl (z_i2l X dX10_labelOf_26 (z_lconst X (v := 0) dX10_labelOf_27 (by decide) (z_aload_n X 1 dX10_labelOf_28 rfl rfl (z_getR X (k0 := 17) z_r0 rfl in_X10_labelOf_X10 (by decide) rfl rfl lk_X10_labelOf_45 dX10_labelOf_29 (z_iload_n X 4 dX10_labelOf_32 rfl rfl (z_iald X z_r10 (z_inS b5) dX10_labelOf_33 (z_i2l X dX10_labelOf_34 (z_ldc2 X dX10_labelOf_35 ct309_X10_labelOf (z_lsub X dX10_labelOf_38 (z_callSi X (r := r6) (u1 := u3) [.long a4.toInt64, .long 0, .long (((z_gI u3 10 a3.toNatClampNeg).toInt64) - 2)] [] (w_X10_isIn l g a4.toInt64 0 (((z_gI u3 10 a3.toNatClampNeg).toInt64) - 2) u3 er6) gX10_labelOf_X10_isIn hy_X10_isIn.2 rfl (z_le1 hR (by decide)) (z_le2 hR (by decide) (by decide)) (Nat.le_of_ble_eq_true rfl) dX10_labelOf_39 (z_if_eq X 55 dX10_labelOf_42 (by decide) (fun c7 => ?_) (fun c7 => ?_))))))))))))
    · replace h := z_ip c7 h
      refine z_bipush X (v := (-2)) dX10_labelOf_55 (by decide) ?_
      cases h; exact z_iret X rfl dX10_labelOf_57 ⟨rfl, rfl⟩
    · replace h := z_in c7 h
      obtain ⟨r8, er8, h⟩ := z_bs h
      refine z_aload_n X 1 dX10_labelOf_45 rfl rfl (z_iload_n X 4 dX10_labelOf_46 rfl rfl (z_iload X 5 dX10_labelOf_47 rfl (z_callVi X (r := r8) (u1 := u3) [.int a3, .int a4] [] (w_X10_labelAt l g a3 a4 u3 er8) z_r0 rfl gX10_labelOf_X10_labelAt hy_X10_labelAt rfl (z_le1 hR (by decide)) (z_le2 hR (by decide) (by decide)) (Nat.le_of_ble_eq_true rfl) dX10_labelOf_49 (z_goto X 57 dX10_labelOf_52 (by decide) ?_))))
      cases h; exact z_iret X rfl dX10_labelOf_57 ⟨rfl, rfl⟩
  · replace h := z_in c4 h
    refine z_iload X 0 dX10_labelOf_19 rfl (z_goto X 57 dX10_labelOf_21 (by decide) ?_)
    cases h; exact z_iret X rfl dX10_labelOf_57 ⟨rfl, rfl⟩

theorem lk_X10_falls_82 : (Cond.fieldLink RX10 82 RX10 (TX10 0).2.1 (TX10 0).2.2.1) ∈ wsX10_falls := by decide +kernel
theorem in_X10_falls_X10 : ∀ w ∈ u_ws RX10 TX10 30, w ∈ wsX10_falls := fun _ h => List.mem_cons_of_mem _ (List.mem_append_right _ h)
def f_X10_falls (a1 : Int32) (a2 : Int32) (a3 : Int32) (u : z_M) : Option (Int32 × z_M) :=
  z_lt (z_sI u 0 0 0) (fun u1 => z_b2 (f_X10_laidTo a1 a2 a3 u1) (fun r2 u3 => if 0 ≤ r2 then (Option.bind (f_X10_fallsOf a3 u3) (fun r5 => some (r5, u3))) else (some (r2, u3))))
set_option maxRecDepth 20000 in
set_option maxHeartbeats 4000000 in
theorem w_X10_falls (l : Launch) (g : z_G) (a1 : Int32) (a2 : Int32) (a3 : Int32) (u : z_M) {res : Int32 × z_M} (h : f_X10_falls a1 a2 a3 u = some res) : z_C l g z_shR yX10_falls wsX10_falls 8 [.ref (z_ad g 0), .int a1, .int a2, .int a3] u (fun v u' => v = some (.int res.1) ∧ u' = res.2) := by
  refine z_C.mk (lv := [(0, .ref (z_ad g 0)), (1, .int a1), (2, .int a2), (3, .int a3)]) (cc := cX10_falls) (nL := 5) (rt := (some .int)) rfl (by decide) (Nat.le_of_ble_eq_true rfl) rfl (fun p e R s m args below meth c hR X => ?_)
  unfold f_X10_falls at h
  obtain ⟨u1, eu1, h⟩ := z_ls h
  obtain ⟨r2, u3, er2, h⟩ := z_b2s h
  refine z_aload_n X 0 dX10_falls_0 rfl rfl (z_iconst X (v := 0) dX10_falls_1 (by decide) (z_putI X (k0 := 0) (ty0 := tyX10) z_r0 rfl in_X10_falls_X10 tyX10_ok nmX10 (by decide) rfl rfl rfl rfl rfl lk_X10_falls_82 dX10_falls_2 (z_nm eu1 (z_aload_n X 0 dX10_falls_5 rfl rfl (z_iload_n X 1 dX10_falls_6 rfl rfl (z_iload_n X 2 dX10_falls_7 rfl rfl (z_iload_n X 3 dX10_falls_8 rfl rfl (z_callVi X (r := r2) (u1 := u3) [.int a1, .int a2, .int a3] [] (w_X10_laidTo l g a1 a2 a3 u1 er2) z_r0 rfl gX10_falls_X10_laidTo hy_X10_laidTo rfl (z_le1 hR (by decide)) (z_le2 hR (by decide) (by decide)) (Nat.le_of_ble_eq_true rfl) dX10_falls_9 (z_istore X [(4, .int r2), (0, .ref (z_ad g 0)), (1, .int a1), (2, .int a2), (3, .int a3)] dX10_falls_12 (by decide) rfl (z_iload X 0 dX10_falls_14 rfl (z_if_ge X 24 dX10_falls_16 (by decide) (fun c4 => ?_) (fun c4 => ?_))))))))))))
  · replace h := z_ip c4 h
    obtain ⟨r5, er5, h⟩ := z_bs h
    refine z_aload_n X 1 dX10_falls_24 rfl rfl (z_iload_n X 4 dX10_falls_25 rfl rfl (z_callVi X (r := r5) (u1 := u3) [.int a3] [] (w_X10_fallsOf l g a3 u3 er5) z_r0 rfl gX10_falls_X10_fallsOf hy_X10_fallsOf rfl (z_le1 hR (by decide)) (z_le2 hR (by decide) (by decide)) (Nat.le_of_ble_eq_true rfl) dX10_falls_26 ?_))
    cases h; exact z_iret X rfl dX10_falls_29 ⟨rfl, rfl⟩
  · replace h := z_in c4 h
    refine z_iload X 0 dX10_falls_19 rfl (z_goto X 29 dX10_falls_21 (by decide) ?_)
    cases h; exact z_iret X rfl dX10_falls_29 ⟨rfl, rfl⟩

theorem ct311_X10_isHeights : Cond.constantLong RX10 311 510 ∈ wsX10_isHeights := by decide +kernel
def f_X10_isHeights (a1 : Int32) : Option (Int32) :=
  Option.bind (f_X10_isIn a1.toInt64 0 510) (fun r1 => if r1 = 0 then (some 0) else (if (a1 - a1 / 2 * 2) = 0 then (some 1) else (some 0)))
set_option maxRecDepth 20000 in
set_option maxHeartbeats 4000000 in
theorem w_X10_isHeights (l : Launch) (g : z_G) (a1 : Int32) (u : z_M) {res : Int32} (h : f_X10_isHeights a1 = some res) : z_C l g z_shR yX10_isHeights wsX10_isHeights 2 [.int a1] u (fun v u' => v = some (.int res) ∧ u' = u) := by
  refine z_C.mk (lv := [(0, .int a1)]) (cc := cX10_isHeights) (nL := 1) (rt := (some .boolean)) rfl (by decide) (Nat.le_of_ble_eq_true rfl) rfl (fun p e R s m args below meth c hR X => ?_)
  unfold f_X10_isHeights at h
  obtain ⟨r1, er1, h⟩ := z_bs h
  refine z_iload_n X 0 dX10_isHeights_0 rfl rfl (z_i2l X dX10_isHeights_1 (z_lconst X (v := 0) dX10_isHeights_2 (by decide) (z_ldc2 X dX10_isHeights_3 ct311_X10_isHeights (z_callSi X (r := r1) (u1 := u) [.long a1.toInt64, .long 0, .long 510] [] (w_X10_isIn l g a1.toInt64 0 510 u er1) gX10_isHeights_X10_isIn hy_X10_isIn.2 rfl (z_le1 hR (by decide)) (z_le2 hR (by decide) (by decide)) (Nat.le_of_ble_eq_true rfl) dX10_isHeights_6 (z_if_eq X 22 dX10_isHeights_9 (by decide) (fun c2 => ?_) (fun c2 => ?_))))))
  · replace h := z_ip c2 h
    refine z_iconst X (v := 0) dX10_isHeights_22 (by decide) ?_
    cases h; exact z_zret X rfl rfl dX10_isHeights_23 ⟨rfl, rfl⟩
  · replace h := z_in c2 h
    refine z_iload_n X 0 dX10_isHeights_12 rfl rfl (z_iconst X (v := 2) dX10_isHeights_13 (by decide) (z_irem X dX10_isHeights_14 (by decide) (z_if_ne X 22 dX10_isHeights_15 (by decide) (fun c3 => ?_) (fun c3 => ?_))))
    · replace h := z_in c3 h
      refine z_iconst X (v := 0) dX10_isHeights_22 (by decide) ?_
      cases h; exact z_zret X rfl rfl dX10_isHeights_23 ⟨rfl, rfl⟩
    · replace h := z_ip c3 h
      refine z_iconst X (v := 1) dX10_isHeights_18 (by decide) (z_goto X 23 dX10_isHeights_19 (by decide) ?_)
      cases h; exact z_zret X rfl rfl dX10_isHeights_23 ⟨rfl, rfl⟩

theorem lk_X10_falling_82 : (Cond.fieldLink RX10 82 RX10 (TX10 0).2.1 (TX10 0).2.2.1) ∈ wsX10_falling := by decide +kernel
theorem in_X10_falling_X10 : ∀ w ∈ u_ws RX10 TX10 30, w ∈ wsX10_falling := fun _ h => List.mem_cons_of_mem _ (List.mem_append_right _ h)
theorem lk_X10_falling_279 : (Cond.fieldLink RX10 279 RX10 (TX10 18).2.1 (TX10 18).2.2.1) ∈ wsX10_falling := by decide +kernel
theorem hy_X10_isHeights : yX10_isHeights.cls = RX10 ∧ yX10_isHeights.cls ≠ "java/lang/invoke/MethodHandle" ∧ yX10_isHeights.cls ≠ "java/lang/invoke/VarHandle" ∧ (parseMethodDescriptor yX10_isHeights.desc).map (fun d => d.parameters.length) = some 1 := by decide +kernel
def b_X10_falling_44 (x3 : Int32) (u : z_M) : (Int32 × Int32) → ((Int32 × Int32) → Option (Int32 × z_M)) → (Int32 → Option (Int32 × z_M)) → Option (Int32 × z_M) := fun q kb kx =>
  if (z_gI u 0 18) ≤ q.2 then (kx q.1) else (Option.bind (f_X10_fallsOf q.2 u) (fun r7 => if r7 = x3 then (z_lt (q.1 + 1) (fun v9 => kb (v9, q.2 + 1))) else (z_lt (q.1 + 0) (fun v10 => kb (v10, q.2 + 1)))))
def j_X10_falling_j22 (x1 : Int32) (x2 : Int32) (x3 : Int32) (x90 : Int32) (w : z_M) : Option (Int32 × z_M) :=
  if 0 ≤ x90 then (Option.bind (f_X10_layChains x1 x2 w) (fun r5 => z_lp (b_X10_falling_44 x3 r5) z_F (0, 0) (fun t11 => some (t11, r5)))) else (some (x90, w))
def f_X10_falling (a1 : Int32) (a2 : Int32) (a3 : Int32) (u : z_M) : Option (Int32 × z_M) :=
  z_lt (z_sI u 0 0 0) (fun u1 => Option.bind (f_X10_isHeights a3) (fun r2 => if r2 = 0 then (j_X10_falling_j22 a1 a2 a3 (-1) u1) else (Option.bind (f_X10_refusal a1 a2 u1) (fun r12 => j_X10_falling_j22 a1 a2 a3 r12 u1))))
set_option maxRecDepth 20000 in
set_option maxHeartbeats 4000000 in
theorem wb_X10_falling_44 {p : Program} {l : Launch} {e : Env} {R : Room} {s : State} {m : MethodId} {args : Array Value} {below : List Frame} {meth : Method} {c : Code} {g : z_G} {u : z_M} {res : Int32 × z_M} (hR : R = z_rm 7) (X : z_X p R s m args meth c cX10_falling 7 RX10 wsX10_falling (some .int) g z_shR) (x3 : Int32) (q : Int32 × Int32) (kb : (Int32 × Int32) → Option (Int32 × z_M)) (kx : Int32 → Option (Int32 × z_M)) (hkb : ∀ q, kb q = some res → z_V p l e R s m args below meth c 7 g z_shR (MQ below (z_Qc g z_shR (fun v u' => v = some (.int res.1) ∧ u' = res.2)) args s 0 0 (z_A g z_shR)) 44 [(0, .ref (z_ad g 0)), (3, .int x3), (5, .int q.1), (6, .int q.2)] [] u) (hkx : ∀ t, kx t = some res → z_V p l e R s m args below meth c 7 g z_shR (MQ below (z_Qc g z_shR (fun v u' => v = some (.int res.1) ∧ u' = res.2)) args s 0 0 (z_A g z_shR)) 79 [(5, .int t)] [] u) (h : b_X10_falling_44 x3 u q kb kx = some res) : z_V p l e R s m args below meth c 7 g z_shR (MQ below (z_Qc g z_shR (fun v u' => v = some (.int res.1) ∧ u' = res.2)) args s 0 0 (z_A g z_shR)) 44 [(0, .ref (z_ad g 0)), (3, .int x3), (5, .int q.1), (6, .int q.2)] [] u := by
  unfold b_X10_falling_44 at h
  refine z_iload X 3 dX10_falling_44 rfl (z_aload_n X 0 dX10_falling_46 rfl rfl (z_getI X (k0 := 18) z_r0 rfl in_X10_falling_X10 (by decide) rfl rfl lk_X10_falling_279 dX10_falling_47 (z_icmp_ge X 79 dX10_falling_50 (by decide) (fun c6 => ?_) (fun c6 => ?_))))
  · replace h := z_ip c6 h
    refine z_sub [2] [(5, .int q.1)] rfl ?_
    exact hkx q.1 h
  · replace h := z_in c6 h
    obtain ⟨r7, er7, h⟩ := z_bs h
    refine z_iload X 2 dX10_falling_53 rfl (z_aload_n X 0 dX10_falling_55 rfl rfl (z_iload X 3 dX10_falling_56 rfl (z_callVi X (r := r7) (u1 := u) [.int q.2] [.int q.1] (w_X10_fallsOf l g q.2 u er7) z_r0 rfl gX10_falling_X10_fallsOf hy_X10_fallsOf rfl (z_le1 hR (by decide)) (z_le2 hR (by decide) (by decide)) (Nat.le_of_ble_eq_true rfl) dX10_falling_58 (z_iload_n X 1 dX10_falling_61 rfl rfl (z_icmp_ne X 69 dX10_falling_62 (by decide) (fun c8 => ?_) (fun c8 => ?_))))))
    · replace h := z_in c8 h
      obtain ⟨v10, ev10, h⟩ := z_ls h
      refine z_iconst X (v := 0) dX10_falling_69 (by decide) (z_iadd X dX10_falling_70 (z_ti ev10 (z_istore X [(5, .int v10), (0, .ref (z_ad g 0)), (3, .int x3), (6, .int q.2)] dX10_falling_71 (by decide) rfl (z_iinc X (v := q.2 + 1) 3 [(6, .int (q.2 + 1)), (5, .int v10), (0, .ref (z_ad g 0)), (3, .int x3)] dX10_falling_73 rfl rfl (by decide) rfl (z_goto X 44 dX10_falling_76 (by decide) (z_sub [2, 3, 1, 0] [(0, .ref (z_ad g 0)), (3, .int x3), (5, .int v10), (6, .int (q.2 + 1))] rfl ?_))))))
      exact hkb (v10, q.2 + 1) h
    · replace h := z_ip c8 h
      obtain ⟨v9, ev9, h⟩ := z_ls h
      refine z_iconst X (v := 1) dX10_falling_65 (by decide) (z_goto X 70 dX10_falling_66 (by decide) (z_iadd X dX10_falling_70 (z_ti ev9 (z_istore X [(5, .int v9), (0, .ref (z_ad g 0)), (3, .int x3), (6, .int q.2)] dX10_falling_71 (by decide) rfl (z_iinc X (v := q.2 + 1) 3 [(6, .int (q.2 + 1)), (5, .int v9), (0, .ref (z_ad g 0)), (3, .int x3)] dX10_falling_73 rfl rfl (by decide) rfl (z_goto X 44 dX10_falling_76 (by decide) (z_sub [2, 3, 1, 0] [(0, .ref (z_ad g 0)), (3, .int x3), (5, .int v9), (6, .int (q.2 + 1))] rfl ?_)))))))
      exact hkb (v9, q.2 + 1) h
set_option maxRecDepth 20000 in
set_option maxHeartbeats 4000000 in
theorem wj_X10_falling_j22 {p : Program} {l : Launch} {e : Env} {R : Room} {s : State} {m : MethodId} {args : Array Value} {below : List Frame} {meth : Method} {c : Code} {g : z_G} {u : z_M} {res : Int32 × z_M} (hR : R = z_rm 7) (X : z_X p R s m args meth c cX10_falling 7 RX10 wsX10_falling (some .int) g z_shR) (x1 : Int32) (x2 : Int32) (x3 : Int32) (x90 : Int32) (w : z_M) (h : j_X10_falling_j22 x1 x2 x3 x90 w = some res) : z_V p l e R s m args below meth c 7 g z_shR (MQ below (z_Qc g z_shR (fun v u' => v = some (.int res.1) ∧ u' = res.2)) args s 0 0 (z_A g z_shR)) 22 [(0, .ref (z_ad g 0)), (1, .int x1), (2, .int x2), (3, .int x3)] [.int x90] w := by
  unfold j_X10_falling_j22 at h
  refine z_istore X [(4, .int x90), (0, .ref (z_ad g 0)), (1, .int x1), (2, .int x2), (3, .int x3)] dX10_falling_22 (by decide) rfl (z_iload X 0 dX10_falling_24 rfl (z_if_ge X 32 dX10_falling_26 (by decide) (fun c4 => ?_) (fun c4 => ?_)))
  · replace h := z_ip c4 h
    obtain ⟨r5, er5, h⟩ := z_bs h
    refine z_aload_n X 1 dX10_falling_32 rfl rfl (z_iload_n X 2 dX10_falling_33 rfl rfl (z_iload_n X 3 dX10_falling_34 rfl rfl (z_callVv X (u1 := r5) [.int x1, .int x2] [] (w_X10_layChains l g x1 x2 w er5) z_r0 rfl gX10_falling_X10_layChains hy_X10_layChains rfl (z_le1 hR (by decide)) (z_le2 hR (by decide) (by decide)) (Nat.le_of_ble_eq_true rfl) dX10_falling_35 (z_iconst X (v := 0) dX10_falling_38 (by decide) (z_istore X [(5, .int 0), (4, .int x90), (0, .ref (z_ad g 0)), (1, .int x1), (2, .int x2), (3, .int x3)] dX10_falling_39 (by decide) rfl (z_iconst X (v := 0) dX10_falling_41 (by decide) (z_istore X [(6, .int 0), (5, .int 0), (4, .int x90), (0, .ref (z_ad g 0)), (1, .int x1), (2, .int x2), (3, .int x3)] dX10_falling_42 (by decide) rfl (z_sub [3, 6, 1, 0] [(0, .ref (z_ad g 0)), (3, .int x3), (5, .int 0), (6, .int 0)] rfl ?_))))))))
    have hw := z_lp_w (fun q9 kb9 kx9 h1 h2 h3 => wb_X10_falling_44 (l := l) (e := e) (below := below) (u := r5) hR X x3 q9 kb9 kx9 h1 h2 h3) z_F _ _ h
    refine hw (fun t11 h => ?_)
    refine z_iload X 0 dX10_falling_79 rfl ?_
    cases h; exact z_iret X rfl dX10_falling_81 ⟨rfl, rfl⟩
  · replace h := z_in c4 h
    refine z_iload X 0 dX10_falling_29 rfl ?_
    cases h; exact z_iret X rfl dX10_falling_31 ⟨rfl, rfl⟩
set_option maxRecDepth 20000 in
set_option maxHeartbeats 4000000 in
theorem w_X10_falling (l : Launch) (g : z_G) (a1 : Int32) (a2 : Int32) (a3 : Int32) (u : z_M) {res : Int32 × z_M} (h : f_X10_falling a1 a2 a3 u = some res) : z_C l g z_shR yX10_falling wsX10_falling 7 [.ref (z_ad g 0), .int a1, .int a2, .int a3] u (fun v u' => v = some (.int res.1) ∧ u' = res.2) := by
  refine z_C.mk (lv := [(0, .ref (z_ad g 0)), (1, .int a1), (2, .int a2), (3, .int a3)]) (cc := cX10_falling) (nL := 7) (rt := (some .int)) rfl (by decide) (Nat.le_of_ble_eq_true rfl) rfl (fun p e R s m args below meth c hR X => ?_)
  unfold f_X10_falling at h
  obtain ⟨u1, eu1, h⟩ := z_ls h
  obtain ⟨r2, er2, h⟩ := z_bs h
  refine z_aload_n X 0 dX10_falling_0 rfl rfl (z_iconst X (v := 0) dX10_falling_1 (by decide) (z_putI X (k0 := 0) (ty0 := tyX10) z_r0 rfl in_X10_falling_X10 tyX10_ok nmX10 (by decide) rfl rfl rfl rfl rfl lk_X10_falling_82 dX10_falling_2 (z_nm eu1 (z_iload_n X 3 dX10_falling_5 rfl rfl (z_callSi X (r := r2) (u1 := u1) [.int a3] [] (w_X10_isHeights l g a3 u1 er2) gX10_falling_X10_isHeights hy_X10_isHeights.2 rfl (z_le1 hR (by decide)) (z_le2 hR (by decide) (by decide)) (Nat.le_of_ble_eq_true rfl) dX10_falling_6 (z_if_eq X 21 dX10_falling_9 (by decide) (fun c3 => ?_) (fun c3 => ?_)))))))
  · replace h := z_ip c3 h
    refine z_iconst X (v := (-1)) dX10_falling_21 (by decide) ?_
    exact wj_X10_falling_j22 (u := u1) hR X a1 a2 a3 (-1) u1 h
  · replace h := z_in c3 h
    obtain ⟨r12, er12, h⟩ := z_bs h
    refine z_aload_n X 0 dX10_falling_12 rfl rfl (z_iload_n X 1 dX10_falling_13 rfl rfl (z_iload_n X 2 dX10_falling_14 rfl rfl (z_callVi X (r := r12) (u1 := u1) [.int a1, .int a2] [] (w_X10_refusal l g a1 a2 u1 er12) z_r0 rfl gX10_falling_X10_refusal hy_X10_refusal rfl (z_le1 hR (by decide)) (z_le2 hR (by decide) (by decide)) (Nat.le_of_ble_eq_true rfl) dX10_falling_15 (z_goto X 22 dX10_falling_18 (by decide) ?_))))
    exact wj_X10_falling_j22 (u := u1) hR X a1 a2 a3 r12 u1 h

theorem lk_X10_flagOf_54 : (Cond.fieldLink RX10 54 RX10 (TX10 21).2.1 (TX10 21).2.2.1) ∈ wsX10_flagOf := by decide +kernel
theorem in_X10_flagOf_X10 : ∀ w ∈ u_ws RX10 TX10 30, w ∈ wsX10_flagOf := fun _ h => List.mem_cons_of_mem _ (List.mem_append_right _ h)
theorem lk_X10_flagOf_36 : (Cond.fieldLink RX10 36 RX10 (TX10 14).2.1 (TX10 14).2.2.1) ∈ wsX10_flagOf := by decide +kernel
def b_X10_flagOf_24 (x3 : Int32) (x4 : Int32) (x5 : Int32) : (Int32 × z_M) → ((Int32 × z_M) → Option (Int32 × z_M)) → (z_M → Option (Int32 × z_M)) → Option (Int32 × z_M) := fun q kb kx =>
  if 9 ≤ q.1 then (kx q.2) else (z_gd (z_inb q.1 9) (z_lt (z_sI q.2 13 q.1.toNatClampNeg 0) (fun u5 => kb (q.1 + 1, u5))))
def b_X10_flagOf_86 (x3 : Int32) (x4 : Int32) (x5 : Int32) (x6 : Int32) (x7 : Int32) (x8 : Int32) (u : z_M) : (Int32 × Int32) → ((Int32 × Int32) → Option (Int32 × z_M)) → (Int32 → Option (Int32 × z_M)) → Option (Int32 × z_M) := fun q kb kx =>
  if 9 ≤ q.2 then (kx q.1) else (if x6 ≤ 0 then (z_lt (q.1 + 0) (fun v13 => kb (v13, q.2 + 1))) else (Option.bind (f_X10_has x4 q.2) (fun r14 => if r14 = 0 then (z_lt (q.1 + 0) (fun v16 => kb (v16, q.2 + 1))) else (z_gd (z_inb q.2 9) (if (z_gI u 7 q.2.toNatClampNeg) = x6 then (Option.bind (f_X10_isBelow q.2 x8 u) (fun r19 => if r19 = 0 then (z_lt (q.1 + 0) (fun v21 => kb (v21, q.2 + 1))) else (z_gd (z_inb q.2 9) (z_lt (q.1 + (z_gI u 13 q.2.toNatClampNeg)) (fun v23 => kb (v23, q.2 + 1)))))) else (z_lt (q.1 + 0) (fun v24 => kb (v24, q.2 + 1))))))))
def j_X10_flagOf_j180 (x3 : Int32) (x4 : Int32) (x5 : Int32) (x6 : Int32) (x7 : Int32) (x8 : Int32) (x9 : Int32) (x90 : Int32) (w : z_M) (kb : (Int32 × z_M) → Option (Int32 × z_M)) (kx : z_M → Option (Int32 × z_M)) : Option (Int32 × z_M) :=
  if x90 = 0 then (z_gd (z_inb x8 9) (z_gd (z_inb x8 9) (z_lt (z_sI w 13 x8.toNatClampNeg (z_gI w 13 x8.toNatClampNeg)) (fun u31 => kb (x8 + 1, u31))))) else (if x6 = 0 then (z_gd (z_inb x8 9) (z_lt (z_sI w 13 x8.toNatClampNeg 1) (fun u34 => kb (x8 + 1, u34)))) else (z_gd (z_inb x8 9) (z_lt (z_sI w 13 x8.toNatClampNeg x9) (fun u36 => kb (x8 + 1, u36)))))
def j_X10_flagOf_j179 (x3 : Int32) (x4 : Int32) (x5 : Int32) (x6 : Int32) (x7 : Int32) (x8 : Int32) (x9 : Int32) (w : z_M) (kb : (Int32 × z_M) → Option (Int32 × z_M)) (kx : z_M → Option (Int32 × z_M)) : Option (Int32 × z_M) :=
  j_X10_flagOf_j180 x3 x4 x5 x6 x7 x8 x9 0 w kb kx
def b_X10_flagOf_73 (x3 : Int32) (x4 : Int32) (x5 : Int32) (x6 : Int32) (x7 : Int32) : (Int32 × z_M) → ((Int32 × z_M) → Option (Int32 × z_M)) → (z_M → Option (Int32 × z_M)) → Option (Int32 × z_M) := fun q kb kx =>
  if 9 ≤ q.1 then (kx q.2) else (z_lp (b_X10_flagOf_86 x3 x4 x5 x6 x7 q.1 q.2) z_F (0, 0) (fun t25 => Option.bind (f_X10_has x4 q.1) (fun r26 => if r26 = 0 then (j_X10_flagOf_j179 x3 x4 x5 x6 x7 q.1 t25 q.2 kb kx) else (z_gd (z_inb q.1 9) (if (z_gI q.2 7 q.1.toNatClampNeg) = x7 then (j_X10_flagOf_j180 x3 x4 x5 x6 x7 q.1 t25 1 q.2 kb kx) else (j_X10_flagOf_j179 x3 x4 x5 x6 x7 q.1 t25 q.2 kb kx))))))
def b_X10_flagOf_51 (x3 : Int32) (x4 : Int32) (x5 : Int32) : (Int32 × Int32 × z_M) → ((Int32 × Int32 × z_M) → Option (Int32 × z_M)) → ((Int32 × z_M) → Option (Int32 × z_M)) → Option (Int32 × z_M) := fun q kb kx =>
  if 9 ≤ q.2.1 then (kx (q.1, q.2.2)) else (Option.bind (f_X10_has x3 q.2.1) (fun r8 => if r8 = 0 then (kb (q.1, q.2.1 + 1, q.2.2)) else (z_lp (b_X10_flagOf_73 x3 x4 x5 q.1 q.2.1) z_F (0, q.2.2) (fun t39 => kb (q.2.1, q.2.1 + 1, t39)))))
def b_X10_flagOf_234 (x4 : Int32) (x6 : Int32) (u : z_M) : (Int32 × Int32) → ((Int32 × Int32) → Option (Int32 × z_M)) → (Int32 → Option (Int32 × z_M)) → Option (Int32 × z_M) := fun q kb kx =>
  if 9 ≤ q.2 then (kx q.1) else (if x6 ≤ 0 then (z_lt (q.1 + 0) (fun v43 => kb (v43, q.2 + 1))) else (Option.bind (f_X10_has x4 q.2) (fun r44 => if r44 = 0 then (z_lt (q.1 + 0) (fun v46 => kb (v46, q.2 + 1))) else (z_gd (z_inb q.2 9) (if (z_gI u 7 q.2.toNatClampNeg) = x6 then (z_gd (z_inb q.2 9) (z_lt (q.1 + (z_gI u 13 q.2.toNatClampNeg)) (fun v50 => kb (v50, q.2 + 1)))) else (z_lt (q.1 + 0) (fun v51 => kb (v51, q.2 + 1))))))))
def f_X10_flagOf (a1 : Int32) (a2 : Int32) (a3 : Int32) (u : z_M) : Option (Int32 × z_M) :=
  Option.bind (f_X10_between a1 a2 u) (fun r1 => z_lt (r1 &&& (((1 <<< (a1 &&& 31)) ||| (1 <<< (a2 &&& 31))) ^^^ (-1))) (fun v2 => z_lp (b_X10_flagOf_24 a3 v2 0) z_F (0, u) (fun t6 => z_lp (b_X10_flagOf_51 a3 v2 0) z_F (0, 1, t6) (fun t40 => z_lp (b_X10_flagOf_234 v2 t40.1 t40.2) z_F (0, 0) (fun t52 => if t40.1 = 0 then (some (1, t40.2)) else (some (t52, t40.2)))))))
set_option maxRecDepth 20000 in
set_option maxHeartbeats 4000000 in
theorem wb_X10_flagOf_24 {p : Program} {l : Launch} {e : Env} {R : Room} {s : State} {m : MethodId} {args : Array Value} {below : List Frame} {meth : Method} {c : Code} {g : z_G} {u : z_M} {res : Int32 × z_M} (hR : R = z_rm 6) (X : z_X p R s m args meth c cX10_flagOf 11 RX10 wsX10_flagOf (some .int) g z_shR) (x3 : Int32) (x4 : Int32) (x5 : Int32) (q : Int32 × z_M) (kb : (Int32 × z_M) → Option (Int32 × z_M)) (kx : z_M → Option (Int32 × z_M)) (hkb : ∀ q, kb q = some res → z_V p l e R s m args below meth c 11 g z_shR (MQ below (z_Qc g z_shR (fun v u' => v = some (.int res.1) ∧ u' = res.2)) args s 0 0 (z_A g z_shR)) 24 [(0, .ref (z_ad g 0)), (3, .int x3), (4, .int x4), (5, .int x5), (6, .int q.1)] [] q.2) (hkx : ∀ t, kx t = some res → z_V p l e R s m args below meth c 11 g z_shR (MQ below (z_Qc g z_shR (fun v u' => v = some (.int res.1) ∧ u' = res.2)) args s 0 0 (z_A g z_shR)) 45 [(0, .ref (z_ad g 0)), (3, .int x3), (4, .int x4), (5, .int x5)] [] t) (h : b_X10_flagOf_24 x3 x4 x5 q kb kx = some res) : z_V p l e R s m args below meth c 11 g z_shR (MQ below (z_Qc g z_shR (fun v u' => v = some (.int res.1) ∧ u' = res.2)) args s 0 0 (z_A g z_shR)) 24 [(0, .ref (z_ad g 0)), (3, .int x3), (4, .int x4), (5, .int x5), (6, .int q.1)] [] q.2 := by
  unfold b_X10_flagOf_24 at h
  refine z_iload X 4 dX10_flagOf_24 rfl (z_bipush X (v := 9) dX10_flagOf_26 (by decide) (z_icmp_ge X 45 dX10_flagOf_28 (by decide) (fun c3 => ?_) (fun c3 => ?_)))
  · replace h := z_ip c3 h
    refine z_sub [0, 1, 2, 3] [(0, .ref (z_ad g 0)), (3, .int x3), (4, .int x4), (5, .int x5)] rfl ?_
    exact hkx q.2 h
  · replace h := z_in c3 h
    obtain ⟨b4, h⟩ := z_gs h
    obtain ⟨u5, eu5, h⟩ := z_ls h
    refine z_aload_n X 0 dX10_flagOf_31 rfl rfl (z_getR X (k0 := 21) z_r0 rfl in_X10_flagOf_X10 (by decide) rfl rfl lk_X10_flagOf_54 dX10_flagOf_32 (z_iload X 4 dX10_flagOf_35 rfl (z_iconst X (v := 0) dX10_flagOf_37 (by decide) (z_iast X z_r13 (z_inS b4) dX10_flagOf_38 (z_nm eu5 (z_iinc X (v := q.1 + 1) 4 [(6, .int (q.1 + 1)), (0, .ref (z_ad g 0)), (3, .int x3), (4, .int x4), (5, .int x5)] dX10_flagOf_39 rfl rfl (by decide) rfl (z_goto X 24 dX10_flagOf_42 (by decide) (z_sub [1, 2, 3, 4, 0] [(0, .ref (z_ad g 0)), (3, .int x3), (4, .int x4), (5, .int x5), (6, .int (q.1 + 1))] rfl ?_))))))))
    exact hkb (q.1 + 1, u5) h
set_option maxRecDepth 20000 in
set_option maxHeartbeats 4000000 in
theorem wb_X10_flagOf_86 {p : Program} {l : Launch} {e : Env} {R : Room} {s : State} {m : MethodId} {args : Array Value} {below : List Frame} {meth : Method} {c : Code} {g : z_G} {u : z_M} {res : Int32 × z_M} (hR : R = z_rm 6) (X : z_X p R s m args meth c cX10_flagOf 11 RX10 wsX10_flagOf (some .int) g z_shR) (x3 : Int32) (x4 : Int32) (x5 : Int32) (x6 : Int32) (x7 : Int32) (x8 : Int32) (q : Int32 × Int32) (kb : (Int32 × Int32) → Option (Int32 × z_M)) (kx : Int32 → Option (Int32 × z_M)) (hkb : ∀ q, kb q = some res → z_V p l e R s m args below meth c 11 g z_shR (MQ below (z_Qc g z_shR (fun v u' => v = some (.int res.1) ∧ u' = res.2)) args s 0 0 (z_A g z_shR)) 86 [(0, .ref (z_ad g 0)), (3, .int x3), (4, .int x4), (5, .int x5), (6, .int x6), (7, .int x7), (8, .int x8), (9, .int q.1), (10, .int q.2)] [] u) (hkx : ∀ t, kx t = some res → z_V p l e R s m args below meth c 11 g z_shR (MQ below (z_Qc g z_shR (fun v u' => v = some (.int res.1) ∧ u' = res.2)) args s 0 0 (z_A g z_shR)) 153 [(0, .ref (z_ad g 0)), (3, .int x3), (4, .int x4), (5, .int x5), (6, .int x6), (7, .int x7), (8, .int x8), (9, .int t)] [] u) (h : b_X10_flagOf_86 x3 x4 x5 x6 x7 x8 u q kb kx = some res) : z_V p l e R s m args below meth c 11 g z_shR (MQ below (z_Qc g z_shR (fun v u' => v = some (.int res.1) ∧ u' = res.2)) args s 0 0 (z_A g z_shR)) 86 [(0, .ref (z_ad g 0)), (3, .int x3), (4, .int x4), (5, .int x5), (6, .int x6), (7, .int x7), (8, .int x8), (9, .int q.1), (10, .int q.2)] [] u := by
  unfold b_X10_flagOf_86 at h
  refine z_iload X 8 dX10_flagOf_86 rfl (z_bipush X (v := 9) dX10_flagOf_88 (by decide) (z_icmp_ge X 153 dX10_flagOf_90 (by decide) (fun c11 => ?_) (fun c11 => ?_)))
  · replace h := z_ip c11 h
    refine z_sub [0, 1, 2, 3, 4, 5, 6, 7] [(0, .ref (z_ad g 0)), (3, .int x3), (4, .int x4), (5, .int x5), (6, .int x6), (7, .int x7), (8, .int x8), (9, .int q.1)] rfl ?_
    exact hkx q.1 h
  · replace h := z_in c11 h
    refine z_iload X 7 dX10_flagOf_93 rfl (z_iload X 4 dX10_flagOf_95 rfl (z_if_le X 143 dX10_flagOf_97 (by decide) (fun c12 => ?_) (fun c12 => ?_)))
    · replace h := z_ip c12 h
      obtain ⟨v13, ev13, h⟩ := z_ls h
      refine z_iconst X (v := 0) dX10_flagOf_143 (by decide) (z_iadd X dX10_flagOf_144 (z_ti ev13 (z_istore X [(9, .int v13), (0, .ref (z_ad g 0)), (3, .int x3), (4, .int x4), (5, .int x5), (6, .int x6), (7, .int x7), (8, .int x8), (10, .int q.2)] dX10_flagOf_145 (by decide) rfl (z_iinc X (v := q.2 + 1) 8 [(10, .int (q.2 + 1)), (9, .int v13), (0, .ref (z_ad g 0)), (3, .int x3), (4, .int x4), (5, .int x5), (6, .int x6), (7, .int x7), (8, .int x8)] dX10_flagOf_147 rfl rfl (by decide) rfl (z_goto X 86 dX10_flagOf_150 (by decide) (z_sub [2, 3, 4, 5, 6, 7, 8, 1, 0] [(0, .ref (z_ad g 0)), (3, .int x3), (4, .int x4), (5, .int x5), (6, .int x6), (7, .int x7), (8, .int x8), (9, .int v13), (10, .int (q.2 + 1))] rfl ?_))))))
      exact hkb (v13, q.2 + 1) h
    · replace h := z_in c12 h
      obtain ⟨r14, er14, h⟩ := z_bs h
      refine z_iload X 2 dX10_flagOf_100 rfl (z_iload X 8 dX10_flagOf_102 rfl (z_callSi X (r := r14) (u1 := u) [.int x4, .int q.2] [.int q.1] (w_X10_has l g x4 q.2 u er14) gX10_flagOf_X10_has hy_X10_has.2 rfl (z_le1 hR (by decide)) (z_le2 hR (by decide) (by decide)) (Nat.le_of_ble_eq_true rfl) dX10_flagOf_104 (z_if_eq X 143 dX10_flagOf_107 (by decide) (fun c15 => ?_) (fun c15 => ?_))))
      · replace h := z_ip c15 h
        obtain ⟨v16, ev16, h⟩ := z_ls h
        refine z_iconst X (v := 0) dX10_flagOf_143 (by decide) (z_iadd X dX10_flagOf_144 (z_ti ev16 (z_istore X [(9, .int v16), (0, .ref (z_ad g 0)), (3, .int x3), (4, .int x4), (5, .int x5), (6, .int x6), (7, .int x7), (8, .int x8), (10, .int q.2)] dX10_flagOf_145 (by decide) rfl (z_iinc X (v := q.2 + 1) 8 [(10, .int (q.2 + 1)), (9, .int v16), (0, .ref (z_ad g 0)), (3, .int x3), (4, .int x4), (5, .int x5), (6, .int x6), (7, .int x7), (8, .int x8)] dX10_flagOf_147 rfl rfl (by decide) rfl (z_goto X 86 dX10_flagOf_150 (by decide) (z_sub [2, 3, 4, 5, 6, 7, 8, 1, 0] [(0, .ref (z_ad g 0)), (3, .int x3), (4, .int x4), (5, .int x5), (6, .int x6), (7, .int x7), (8, .int x8), (9, .int v16), (10, .int (q.2 + 1))] rfl ?_))))))
        exact hkb (v16, q.2 + 1) h
      · replace h := z_in c15 h
        obtain ⟨b17, h⟩ := z_gs h
        refine z_aload_n X 0 dX10_flagOf_110 rfl rfl (z_getR X (k0 := 14) z_r0 rfl in_X10_flagOf_X10 (by decide) rfl rfl lk_X10_flagOf_36 dX10_flagOf_111 (z_iload X 8 dX10_flagOf_114 rfl (z_iald X z_r7 (z_inS b17) dX10_flagOf_116 (z_iload X 4 dX10_flagOf_117 rfl (z_icmp_ne X 143 dX10_flagOf_119 (by decide) (fun c18 => ?_) (fun c18 => ?_))))))
        · replace h := z_in c18 h
          obtain ⟨v24, ev24, h⟩ := z_ls h
          refine z_iconst X (v := 0) dX10_flagOf_143 (by decide) (z_iadd X dX10_flagOf_144 (z_ti ev24 (z_istore X [(9, .int v24), (0, .ref (z_ad g 0)), (3, .int x3), (4, .int x4), (5, .int x5), (6, .int x6), (7, .int x7), (8, .int x8), (10, .int q.2)] dX10_flagOf_145 (by decide) rfl (z_iinc X (v := q.2 + 1) 8 [(10, .int (q.2 + 1)), (9, .int v24), (0, .ref (z_ad g 0)), (3, .int x3), (4, .int x4), (5, .int x5), (6, .int x6), (7, .int x7), (8, .int x8)] dX10_flagOf_147 rfl rfl (by decide) rfl (z_goto X 86 dX10_flagOf_150 (by decide) (z_sub [2, 3, 4, 5, 6, 7, 8, 1, 0] [(0, .ref (z_ad g 0)), (3, .int x3), (4, .int x4), (5, .int x5), (6, .int x6), (7, .int x7), (8, .int x8), (9, .int v24), (10, .int (q.2 + 1))] rfl ?_))))))
          exact hkb (v24, q.2 + 1) h
        · replace h := z_ip c18 h
          obtain ⟨r19, er19, h⟩ := z_bs h
          refine z_aload_n X 0 dX10_flagOf_122 rfl rfl (z_iload X 8 dX10_flagOf_123 rfl (z_iload X 6 dX10_flagOf_125 rfl (z_callVi X (r := r19) (u1 := u) [.int q.2, .int x8] [.int q.1] (w_X10_isBelow l g q.2 x8 u er19) z_r0 rfl gX10_flagOf_X10_isBelow hy_X10_isBelow rfl (z_le1 hR (by decide)) (z_le2 hR (by decide) (by decide)) (Nat.le_of_ble_eq_true rfl) dX10_flagOf_127 (z_if_eq X 143 dX10_flagOf_130 (by decide) (fun c20 => ?_) (fun c20 => ?_)))))
          · replace h := z_ip c20 h
            obtain ⟨v21, ev21, h⟩ := z_ls h
            refine z_iconst X (v := 0) dX10_flagOf_143 (by decide) (z_iadd X dX10_flagOf_144 (z_ti ev21 (z_istore X [(9, .int v21), (0, .ref (z_ad g 0)), (3, .int x3), (4, .int x4), (5, .int x5), (6, .int x6), (7, .int x7), (8, .int x8), (10, .int q.2)] dX10_flagOf_145 (by decide) rfl (z_iinc X (v := q.2 + 1) 8 [(10, .int (q.2 + 1)), (9, .int v21), (0, .ref (z_ad g 0)), (3, .int x3), (4, .int x4), (5, .int x5), (6, .int x6), (7, .int x7), (8, .int x8)] dX10_flagOf_147 rfl rfl (by decide) rfl (z_goto X 86 dX10_flagOf_150 (by decide) (z_sub [2, 3, 4, 5, 6, 7, 8, 1, 0] [(0, .ref (z_ad g 0)), (3, .int x3), (4, .int x4), (5, .int x5), (6, .int x6), (7, .int x7), (8, .int x8), (9, .int v21), (10, .int (q.2 + 1))] rfl ?_))))))
            exact hkb (v21, q.2 + 1) h
          · replace h := z_in c20 h
            obtain ⟨b22, h⟩ := z_gs h
            obtain ⟨v23, ev23, h⟩ := z_ls h
            refine z_aload_n X 0 dX10_flagOf_133 rfl rfl (z_getR X (k0 := 21) z_r0 rfl in_X10_flagOf_X10 (by decide) rfl rfl lk_X10_flagOf_54 dX10_flagOf_134 (z_iload X 8 dX10_flagOf_137 rfl (z_iald X z_r13 (z_inS b22) dX10_flagOf_139 (z_goto X 144 dX10_flagOf_140 (by decide) (z_iadd X dX10_flagOf_144 (z_ti ev23 (z_istore X [(9, .int v23), (0, .ref (z_ad g 0)), (3, .int x3), (4, .int x4), (5, .int x5), (6, .int x6), (7, .int x7), (8, .int x8), (10, .int q.2)] dX10_flagOf_145 (by decide) rfl (z_iinc X (v := q.2 + 1) 8 [(10, .int (q.2 + 1)), (9, .int v23), (0, .ref (z_ad g 0)), (3, .int x3), (4, .int x4), (5, .int x5), (6, .int x6), (7, .int x7), (8, .int x8)] dX10_flagOf_147 rfl rfl (by decide) rfl (z_goto X 86 dX10_flagOf_150 (by decide) (z_sub [2, 3, 4, 5, 6, 7, 8, 1, 0] [(0, .ref (z_ad g 0)), (3, .int x3), (4, .int x4), (5, .int x5), (6, .int x6), (7, .int x7), (8, .int x8), (9, .int v23), (10, .int (q.2 + 1))] rfl ?_))))))))))
            exact hkb (v23, q.2 + 1) h
set_option maxRecDepth 20000 in
set_option maxHeartbeats 4000000 in
theorem wj_X10_flagOf_j180 {p : Program} {l : Launch} {e : Env} {R : Room} {s : State} {m : MethodId} {args : Array Value} {below : List Frame} {meth : Method} {c : Code} {g : z_G} {u : z_M} {res : Int32 × z_M} (hR : R = z_rm 6) (X : z_X p R s m args meth c cX10_flagOf 11 RX10 wsX10_flagOf (some .int) g z_shR) (x3 : Int32) (x4 : Int32) (x5 : Int32) (x6 : Int32) (x7 : Int32) (x8 : Int32) (x9 : Int32) (x90 : Int32) (w : z_M) (kb : (Int32 × z_M) → Option (Int32 × z_M)) (kx : z_M → Option (Int32 × z_M)) (hkb : ∀ q, kb q = some res → z_V p l e R s m args below meth c 11 g z_shR (MQ below (z_Qc g z_shR (fun v u' => v = some (.int res.1) ∧ u' = res.2)) args s 0 0 (z_A g z_shR)) 73 [(0, .ref (z_ad g 0)), (3, .int x3), (4, .int x4), (5, .int x5), (6, .int x6), (7, .int x7), (8, .int q.1)] [] q.2) (hkx : ∀ t, kx t = some res → z_V p l e R s m args below meth c 11 g z_shR (MQ below (z_Qc g z_shR (fun v u' => v = some (.int res.1) ∧ u' = res.2)) args s 0 0 (z_A g z_shR)) 221 [(0, .ref (z_ad g 0)), (3, .int x3), (4, .int x4), (5, .int x5), (7, .int x7)] [] t) (h : j_X10_flagOf_j180 x3 x4 x5 x6 x7 x8 x9 x90 w kb kx = some res) : z_V p l e R s m args below meth c 11 g z_shR (MQ below (z_Qc g z_shR (fun v u' => v = some (.int res.1) ∧ u' = res.2)) args s 0 0 (z_A g z_shR)) 180 [(0, .ref (z_ad g 0)), (3, .int x3), (4, .int x4), (5, .int x5), (6, .int x6), (7, .int x7), (8, .int x8), (9, .int x9)] [.int x90] w := by
  unfold j_X10_flagOf_j180 at h
  refine z_istore X [(10, .int x90), (0, .ref (z_ad g 0)), (3, .int x3), (4, .int x4), (5, .int x5), (6, .int x6), (7, .int x7), (8, .int x8), (9, .int x9)] dX10_flagOf_180 (by decide) rfl (z_aload_n X 1 dX10_flagOf_182 rfl rfl (z_getR X (k0 := 21) z_r0 rfl in_X10_flagOf_X10 (by decide) rfl rfl lk_X10_flagOf_54 dX10_flagOf_183 (z_iload X 7 dX10_flagOf_186 rfl (z_iload X 0 dX10_flagOf_188 rfl (z_if_eq X 207 dX10_flagOf_190 (by decide) (fun c28 => ?_) (fun c28 => ?_))))))
  · replace h := z_ip c28 h
    obtain ⟨b29, h⟩ := z_gs h
    obtain ⟨b30, h⟩ := z_gs h
    obtain ⟨u31, eu31, h⟩ := z_ls h
    refine z_aload_n X 1 dX10_flagOf_207 rfl rfl (z_getR X (k0 := 21) z_r0 rfl in_X10_flagOf_X10 (by decide) rfl rfl lk_X10_flagOf_54 dX10_flagOf_208 (z_iload X 7 dX10_flagOf_211 rfl (z_iald X z_r13 (z_inS b29) dX10_flagOf_213 (z_iast X z_r13 (z_inS b30) dX10_flagOf_214 (z_nm eu31 (z_iinc X (v := x8 + 1) 7 [(8, .int (x8 + 1)), (10, .int x90), (0, .ref (z_ad g 0)), (3, .int x3), (4, .int x4), (5, .int x5), (6, .int x6), (7, .int x7), (9, .int x9)] dX10_flagOf_215 rfl rfl (by decide) rfl (z_goto X 73 dX10_flagOf_218 (by decide) (z_sub [2, 3, 4, 5, 6, 7, 0] [(0, .ref (z_ad g 0)), (3, .int x3), (4, .int x4), (5, .int x5), (6, .int x6), (7, .int x7), (8, .int (x8 + 1))] rfl ?_))))))))
    exact hkb (x8 + 1, u31) h
  · replace h := z_in c28 h
    refine z_iload X 5 dX10_flagOf_193 rfl (z_if_ne X 202 dX10_flagOf_195 (by decide) (fun c32 => ?_) (fun c32 => ?_))
    · replace h := z_in c32 h
      obtain ⟨b35, h⟩ := z_gs h
      obtain ⟨u36, eu36, h⟩ := z_ls h
      refine z_iload X 8 dX10_flagOf_202 rfl (z_goto X 214 dX10_flagOf_204 (by decide) (z_iast X z_r13 (z_inS b35) dX10_flagOf_214 (z_nm eu36 (z_iinc X (v := x8 + 1) 7 [(8, .int (x8 + 1)), (10, .int x90), (0, .ref (z_ad g 0)), (3, .int x3), (4, .int x4), (5, .int x5), (6, .int x6), (7, .int x7), (9, .int x9)] dX10_flagOf_215 rfl rfl (by decide) rfl (z_goto X 73 dX10_flagOf_218 (by decide) (z_sub [2, 3, 4, 5, 6, 7, 0] [(0, .ref (z_ad g 0)), (3, .int x3), (4, .int x4), (5, .int x5), (6, .int x6), (7, .int x7), (8, .int (x8 + 1))] rfl ?_))))))
      exact hkb (x8 + 1, u36) h
    · replace h := z_ip c32 h
      obtain ⟨b33, h⟩ := z_gs h
      obtain ⟨u34, eu34, h⟩ := z_ls h
      refine z_iconst X (v := 1) dX10_flagOf_198 (by decide) (z_goto X 214 dX10_flagOf_199 (by decide) (z_iast X z_r13 (z_inS b33) dX10_flagOf_214 (z_nm eu34 (z_iinc X (v := x8 + 1) 7 [(8, .int (x8 + 1)), (10, .int x90), (0, .ref (z_ad g 0)), (3, .int x3), (4, .int x4), (5, .int x5), (6, .int x6), (7, .int x7), (9, .int x9)] dX10_flagOf_215 rfl rfl (by decide) rfl (z_goto X 73 dX10_flagOf_218 (by decide) (z_sub [2, 3, 4, 5, 6, 7, 0] [(0, .ref (z_ad g 0)), (3, .int x3), (4, .int x4), (5, .int x5), (6, .int x6), (7, .int x7), (8, .int (x8 + 1))] rfl ?_))))))
      exact hkb (x8 + 1, u34) h
set_option maxRecDepth 20000 in
set_option maxHeartbeats 4000000 in
theorem wj_X10_flagOf_j179 {p : Program} {l : Launch} {e : Env} {R : Room} {s : State} {m : MethodId} {args : Array Value} {below : List Frame} {meth : Method} {c : Code} {g : z_G} {u : z_M} {res : Int32 × z_M} (hR : R = z_rm 6) (X : z_X p R s m args meth c cX10_flagOf 11 RX10 wsX10_flagOf (some .int) g z_shR) (x3 : Int32) (x4 : Int32) (x5 : Int32) (x6 : Int32) (x7 : Int32) (x8 : Int32) (x9 : Int32) (w : z_M) (kb : (Int32 × z_M) → Option (Int32 × z_M)) (kx : z_M → Option (Int32 × z_M)) (hkb : ∀ q, kb q = some res → z_V p l e R s m args below meth c 11 g z_shR (MQ below (z_Qc g z_shR (fun v u' => v = some (.int res.1) ∧ u' = res.2)) args s 0 0 (z_A g z_shR)) 73 [(0, .ref (z_ad g 0)), (3, .int x3), (4, .int x4), (5, .int x5), (6, .int x6), (7, .int x7), (8, .int q.1)] [] q.2) (hkx : ∀ t, kx t = some res → z_V p l e R s m args below meth c 11 g z_shR (MQ below (z_Qc g z_shR (fun v u' => v = some (.int res.1) ∧ u' = res.2)) args s 0 0 (z_A g z_shR)) 221 [(0, .ref (z_ad g 0)), (3, .int x3), (4, .int x4), (5, .int x5), (7, .int x7)] [] t) (h : j_X10_flagOf_j179 x3 x4 x5 x6 x7 x8 x9 w kb kx = some res) : z_V p l e R s m args below meth c 11 g z_shR (MQ below (z_Qc g z_shR (fun v u' => v = some (.int res.1) ∧ u' = res.2)) args s 0 0 (z_A g z_shR)) 179 [(0, .ref (z_ad g 0)), (3, .int x3), (4, .int x4), (5, .int x5), (6, .int x6), (7, .int x7), (8, .int x8), (9, .int x9)] [] w := by
  unfold j_X10_flagOf_j179 at h
  refine z_iconst X (v := 0) dX10_flagOf_179 (by decide) ?_
  exact wj_X10_flagOf_j180 (u := w) hR X x3 x4 x5 x6 x7 x8 x9 0 w kb kx hkb hkx h
set_option maxRecDepth 20000 in
set_option maxHeartbeats 4000000 in
theorem wb_X10_flagOf_73 {p : Program} {l : Launch} {e : Env} {R : Room} {s : State} {m : MethodId} {args : Array Value} {below : List Frame} {meth : Method} {c : Code} {g : z_G} {u : z_M} {res : Int32 × z_M} (hR : R = z_rm 6) (X : z_X p R s m args meth c cX10_flagOf 11 RX10 wsX10_flagOf (some .int) g z_shR) (x3 : Int32) (x4 : Int32) (x5 : Int32) (x6 : Int32) (x7 : Int32) (q : Int32 × z_M) (kb : (Int32 × z_M) → Option (Int32 × z_M)) (kx : z_M → Option (Int32 × z_M)) (hkb : ∀ q, kb q = some res → z_V p l e R s m args below meth c 11 g z_shR (MQ below (z_Qc g z_shR (fun v u' => v = some (.int res.1) ∧ u' = res.2)) args s 0 0 (z_A g z_shR)) 73 [(0, .ref (z_ad g 0)), (3, .int x3), (4, .int x4), (5, .int x5), (6, .int x6), (7, .int x7), (8, .int q.1)] [] q.2) (hkx : ∀ t, kx t = some res → z_V p l e R s m args below meth c 11 g z_shR (MQ below (z_Qc g z_shR (fun v u' => v = some (.int res.1) ∧ u' = res.2)) args s 0 0 (z_A g z_shR)) 221 [(0, .ref (z_ad g 0)), (3, .int x3), (4, .int x4), (5, .int x5), (7, .int x7)] [] t) (h : b_X10_flagOf_73 x3 x4 x5 x6 x7 q kb kx = some res) : z_V p l e R s m args below meth c 11 g z_shR (MQ below (z_Qc g z_shR (fun v u' => v = some (.int res.1) ∧ u' = res.2)) args s 0 0 (z_A g z_shR)) 73 [(0, .ref (z_ad g 0)), (3, .int x3), (4, .int x4), (5, .int x5), (6, .int x6), (7, .int x7), (8, .int q.1)] [] q.2 := by
  unfold b_X10_flagOf_73 at h
  refine z_iload X 6 dX10_flagOf_73 rfl (z_bipush X (v := 9) dX10_flagOf_75 (by decide) (z_icmp_ge X 221 dX10_flagOf_77 (by decide) (fun c10 => ?_) (fun c10 => ?_)))
  · replace h := z_ip c10 h
    refine z_sub [0, 1, 2, 3, 5] [(0, .ref (z_ad g 0)), (3, .int x3), (4, .int x4), (5, .int x5), (7, .int x7)] rfl ?_
    exact hkx q.2 h
  · replace h := z_in c10 h
    refine z_iconst X (v := 0) dX10_flagOf_80 (by decide) (z_istore X [(9, .int 0), (0, .ref (z_ad g 0)), (3, .int x3), (4, .int x4), (5, .int x5), (6, .int x6), (7, .int x7), (8, .int q.1)] dX10_flagOf_81 (by decide) rfl (z_iconst X (v := 0) dX10_flagOf_83 (by decide) (z_istore X [(10, .int 0), (9, .int 0), (0, .ref (z_ad g 0)), (3, .int x3), (4, .int x4), (5, .int x5), (6, .int x6), (7, .int x7), (8, .int q.1)] dX10_flagOf_84 (by decide) rfl (z_sub [2, 3, 4, 5, 6, 7, 8, 1, 0] [(0, .ref (z_ad g 0)), (3, .int x3), (4, .int x4), (5, .int x5), (6, .int x6), (7, .int x7), (8, .int q.1), (9, .int 0), (10, .int 0)] rfl ?_))))
    have hw := z_lp_w (fun q9 kb9 kx9 h1 h2 h3 => wb_X10_flagOf_86 (l := l) (e := e) (below := below) (u := q.2) hR X x3 x4 x5 x6 x7 q.1 q9 kb9 kx9 h1 h2 h3) z_F _ _ h
    refine hw (fun t25 h => ?_)
    obtain ⟨r26, er26, h⟩ := z_bs h
    refine z_iload X 2 dX10_flagOf_153 rfl (z_iload X 6 dX10_flagOf_155 rfl (z_callSi X (r := r26) (u1 := q.2) [.int x4, .int q.1] [] (w_X10_has l g x4 q.1 q.2 er26) gX10_flagOf_X10_has hy_X10_has.2 rfl (z_le1 hR (by decide)) (z_le2 hR (by decide) (by decide)) (Nat.le_of_ble_eq_true rfl) dX10_flagOf_157 (z_if_eq X 179 dX10_flagOf_160 (by decide) (fun c27 => ?_) (fun c27 => ?_))))
    · replace h := z_ip c27 h
      exact wj_X10_flagOf_j179 (u := q.2) hR X x3 x4 x5 x6 x7 q.1 t25 q.2 kb kx hkb hkx h
    · replace h := z_in c27 h
      obtain ⟨b37, h⟩ := z_gs h
      refine z_aload_n X 0 dX10_flagOf_163 rfl rfl (z_getR X (k0 := 14) z_r0 rfl in_X10_flagOf_X10 (by decide) rfl rfl lk_X10_flagOf_36 dX10_flagOf_164 (z_iload X 6 dX10_flagOf_167 rfl (z_iald X z_r7 (z_inS b37) dX10_flagOf_169 (z_iload X 5 dX10_flagOf_170 rfl (z_icmp_ne X 179 dX10_flagOf_172 (by decide) (fun c38 => ?_) (fun c38 => ?_))))))
      · replace h := z_in c38 h
        exact wj_X10_flagOf_j179 (u := q.2) hR X x3 x4 x5 x6 x7 q.1 t25 q.2 kb kx hkb hkx h
      · replace h := z_ip c38 h
        refine z_iconst X (v := 1) dX10_flagOf_175 (by decide) (z_goto X 180 dX10_flagOf_176 (by decide) ?_)
        exact wj_X10_flagOf_j180 (u := q.2) hR X x3 x4 x5 x6 x7 q.1 t25 1 q.2 kb kx hkb hkx h
set_option maxRecDepth 20000 in
set_option maxHeartbeats 4000000 in
theorem wb_X10_flagOf_51 {p : Program} {l : Launch} {e : Env} {R : Room} {s : State} {m : MethodId} {args : Array Value} {below : List Frame} {meth : Method} {c : Code} {g : z_G} {u : z_M} {res : Int32 × z_M} (hR : R = z_rm 6) (X : z_X p R s m args meth c cX10_flagOf 11 RX10 wsX10_flagOf (some .int) g z_shR) (x3 : Int32) (x4 : Int32) (x5 : Int32) (q : Int32 × Int32 × z_M) (kb : (Int32 × Int32 × z_M) → Option (Int32 × z_M)) (kx : (Int32 × z_M) → Option (Int32 × z_M)) (hkb : ∀ q, kb q = some res → z_V p l e R s m args below meth c 11 g z_shR (MQ below (z_Qc g z_shR (fun v u' => v = some (.int res.1) ∧ u' = res.2)) args s 0 0 (z_A g z_shR)) 51 [(0, .ref (z_ad g 0)), (3, .int x3), (4, .int x4), (5, .int x5), (6, .int q.1), (7, .int q.2.1)] [] q.2.2) (hkx : ∀ t, kx t = some res → z_V p l e R s m args below meth c 11 g z_shR (MQ below (z_Qc g z_shR (fun v u' => v = some (.int res.1) ∧ u' = res.2)) args s 0 0 (z_A g z_shR)) 231 [(0, .ref (z_ad g 0)), (4, .int x4), (5, .int x5), (6, .int t.1)] [] t.2) (h : b_X10_flagOf_51 x3 x4 x5 q kb kx = some res) : z_V p l e R s m args below meth c 11 g z_shR (MQ below (z_Qc g z_shR (fun v u' => v = some (.int res.1) ∧ u' = res.2)) args s 0 0 (z_A g z_shR)) 51 [(0, .ref (z_ad g 0)), (3, .int x3), (4, .int x4), (5, .int x5), (6, .int q.1), (7, .int q.2.1)] [] q.2.2 := by
  unfold b_X10_flagOf_51 at h
  refine z_iload X 5 dX10_flagOf_51 rfl (z_bipush X (v := 9) dX10_flagOf_53 (by decide) (z_icmp_ge X 231 dX10_flagOf_55 (by decide) (fun c7 => ?_) (fun c7 => ?_)))
  · replace h := z_ip c7 h
    refine z_sub [0, 2, 3, 4] [(0, .ref (z_ad g 0)), (4, .int x4), (5, .int x5), (6, .int q.1)] rfl ?_
    exact hkx (q.1, q.2.2) h
  · replace h := z_in c7 h
    obtain ⟨r8, er8, h⟩ := z_bs h
    refine z_iload_n X 1 dX10_flagOf_58 rfl rfl (z_iload X 5 dX10_flagOf_59 rfl (z_callSi X (r := r8) (u1 := q.2.2) [.int x3, .int q.2.1] [] (w_X10_has l g x3 q.2.1 q.2.2 er8) gX10_flagOf_X10_has hy_X10_has.2 rfl (z_le1 hR (by decide)) (z_le2 hR (by decide) (by decide)) (Nat.le_of_ble_eq_true rfl) dX10_flagOf_61 (z_if_ne X 70 dX10_flagOf_64 (by decide) (fun c9 => ?_) (fun c9 => ?_))))
    · replace h := z_in c9 h
      refine z_iconst X (v := 0) dX10_flagOf_70 (by decide) (z_istore X [(8, .int 0), (0, .ref (z_ad g 0)), (3, .int x3), (4, .int x4), (5, .int x5), (6, .int q.1), (7, .int q.2.1)] dX10_flagOf_71 (by decide) rfl (z_sub [1, 2, 3, 4, 5, 6, 0] [(0, .ref (z_ad g 0)), (3, .int x3), (4, .int x4), (5, .int x5), (6, .int q.1), (7, .int q.2.1), (8, .int 0)] rfl ?_))
      have hw := z_lp_w (fun q9 kb9 kx9 h1 h2 h3 => wb_X10_flagOf_73 (l := l) (e := e) (below := below) (u := q.2.2) hR X x3 x4 x5 q.1 q.2.1 q9 kb9 kx9 h1 h2 h3) z_F _ _ h
      refine hw (fun t39 h => ?_)
      refine z_iload X 4 dX10_flagOf_221 rfl (z_istore X [(6, .int q.2.1), (0, .ref (z_ad g 0)), (3, .int x3), (4, .int x4), (5, .int x5), (7, .int q.2.1)] dX10_flagOf_223 (by decide) rfl (z_iinc X (v := q.2.1 + 1) 5 [(7, .int (q.2.1 + 1)), (6, .int q.2.1), (0, .ref (z_ad g 0)), (3, .int x3), (4, .int x4), (5, .int x5)] dX10_flagOf_225 rfl rfl (by decide) rfl (z_goto X 51 dX10_flagOf_228 (by decide) (z_sub [2, 3, 4, 5, 1, 0] [(0, .ref (z_ad g 0)), (3, .int x3), (4, .int x4), (5, .int x5), (6, .int q.2.1), (7, .int (q.2.1 + 1))] rfl ?_))))
      exact hkb (q.2.1, q.2.1 + 1, t39) h
    · replace h := z_ip c9 h
      refine z_goto X 225 dX10_flagOf_67 (by decide) (z_iinc X (v := q.2.1 + 1) 5 [(7, .int (q.2.1 + 1)), (0, .ref (z_ad g 0)), (3, .int x3), (4, .int x4), (5, .int x5), (6, .int q.1)] dX10_flagOf_225 rfl rfl (by decide) rfl (z_goto X 51 dX10_flagOf_228 (by decide) (z_sub [1, 2, 3, 4, 5, 0] [(0, .ref (z_ad g 0)), (3, .int x3), (4, .int x4), (5, .int x5), (6, .int q.1), (7, .int (q.2.1 + 1))] rfl ?_)))
      exact hkb (q.1, q.2.1 + 1, q.2.2) h
set_option maxRecDepth 20000 in
set_option maxHeartbeats 4000000 in
theorem wb_X10_flagOf_234 {p : Program} {l : Launch} {e : Env} {R : Room} {s : State} {m : MethodId} {args : Array Value} {below : List Frame} {meth : Method} {c : Code} {g : z_G} {u : z_M} {res : Int32 × z_M} (hR : R = z_rm 6) (X : z_X p R s m args meth c cX10_flagOf 11 RX10 wsX10_flagOf (some .int) g z_shR) (x4 : Int32) (x6 : Int32) (q : Int32 × Int32) (kb : (Int32 × Int32) → Option (Int32 × z_M)) (kx : Int32 → Option (Int32 × z_M)) (hkb : ∀ q, kb q = some res → z_V p l e R s m args below meth c 11 g z_shR (MQ below (z_Qc g z_shR (fun v u' => v = some (.int res.1) ∧ u' = res.2)) args s 0 0 (z_A g z_shR)) 234 [(0, .ref (z_ad g 0)), (4, .int x4), (5, .int q.1), (6, .int x6), (7, .int q.2)] [] u) (hkx : ∀ t, kx t = some res → z_V p l e R s m args below meth c 11 g z_shR (MQ below (z_Qc g z_shR (fun v u' => v = some (.int res.1) ∧ u' = res.2)) args s 0 0 (z_A g z_shR)) 290 [(5, .int t), (6, .int x6)] [] u) (h : b_X10_flagOf_234 x4 x6 u q kb kx = some res) : z_V p l e R s m args below meth c 11 g z_shR (MQ below (z_Qc g z_shR (fun v u' => v = some (.int res.1) ∧ u' = res.2)) args s 0 0 (z_A g z_shR)) 234 [(0, .ref (z_ad g 0)), (4, .int x4), (5, .int q.1), (6, .int x6), (7, .int q.2)] [] u := by
  unfold b_X10_flagOf_234 at h
  refine z_iload X 4 dX10_flagOf_234 rfl (z_bipush X (v := 9) dX10_flagOf_236 (by decide) (z_icmp_ge X 290 dX10_flagOf_238 (by decide) (fun c41 => ?_) (fun c41 => ?_)))
  · replace h := z_ip c41 h
    refine z_sub [2, 3] [(5, .int q.1), (6, .int x6)] rfl ?_
    exact hkx q.1 h
  · replace h := z_in c41 h
    refine z_iload X 2 dX10_flagOf_241 rfl (z_iload X 3 dX10_flagOf_243 rfl (z_if_le X 280 dX10_flagOf_245 (by decide) (fun c42 => ?_) (fun c42 => ?_)))
    · replace h := z_ip c42 h
      obtain ⟨v43, ev43, h⟩ := z_ls h
      refine z_iconst X (v := 0) dX10_flagOf_280 (by decide) (z_iadd X dX10_flagOf_281 (z_ti ev43 (z_istore X [(5, .int v43), (0, .ref (z_ad g 0)), (4, .int x4), (6, .int x6), (7, .int q.2)] dX10_flagOf_282 (by decide) rfl (z_iinc X (v := q.2 + 1) 4 [(7, .int (q.2 + 1)), (5, .int v43), (0, .ref (z_ad g 0)), (4, .int x4), (6, .int x6)] dX10_flagOf_284 rfl rfl (by decide) rfl (z_goto X 234 dX10_flagOf_287 (by decide) (z_sub [2, 3, 1, 4, 0] [(0, .ref (z_ad g 0)), (4, .int x4), (5, .int v43), (6, .int x6), (7, .int (q.2 + 1))] rfl ?_))))))
      exact hkb (v43, q.2 + 1) h
    · replace h := z_in c42 h
      obtain ⟨r44, er44, h⟩ := z_bs h
      refine z_iload X 1 dX10_flagOf_248 rfl (z_iload X 4 dX10_flagOf_250 rfl (z_callSi X (r := r44) (u1 := u) [.int x4, .int q.2] [.int q.1] (w_X10_has l g x4 q.2 u er44) gX10_flagOf_X10_has hy_X10_has.2 rfl (z_le1 hR (by decide)) (z_le2 hR (by decide) (by decide)) (Nat.le_of_ble_eq_true rfl) dX10_flagOf_252 (z_if_eq X 280 dX10_flagOf_255 (by decide) (fun c45 => ?_) (fun c45 => ?_))))
      · replace h := z_ip c45 h
        obtain ⟨v46, ev46, h⟩ := z_ls h
        refine z_iconst X (v := 0) dX10_flagOf_280 (by decide) (z_iadd X dX10_flagOf_281 (z_ti ev46 (z_istore X [(5, .int v46), (0, .ref (z_ad g 0)), (4, .int x4), (6, .int x6), (7, .int q.2)] dX10_flagOf_282 (by decide) rfl (z_iinc X (v := q.2 + 1) 4 [(7, .int (q.2 + 1)), (5, .int v46), (0, .ref (z_ad g 0)), (4, .int x4), (6, .int x6)] dX10_flagOf_284 rfl rfl (by decide) rfl (z_goto X 234 dX10_flagOf_287 (by decide) (z_sub [2, 3, 1, 4, 0] [(0, .ref (z_ad g 0)), (4, .int x4), (5, .int v46), (6, .int x6), (7, .int (q.2 + 1))] rfl ?_))))))
        exact hkb (v46, q.2 + 1) h
      · replace h := z_in c45 h
        obtain ⟨b47, h⟩ := z_gs h
        refine z_aload_n X 0 dX10_flagOf_258 rfl rfl (z_getR X (k0 := 14) z_r0 rfl in_X10_flagOf_X10 (by decide) rfl rfl lk_X10_flagOf_36 dX10_flagOf_259 (z_iload X 4 dX10_flagOf_262 rfl (z_iald X z_r7 (z_inS b47) dX10_flagOf_264 (z_iload X 3 dX10_flagOf_265 rfl (z_icmp_ne X 280 dX10_flagOf_267 (by decide) (fun c48 => ?_) (fun c48 => ?_))))))
        · replace h := z_in c48 h
          obtain ⟨v51, ev51, h⟩ := z_ls h
          refine z_iconst X (v := 0) dX10_flagOf_280 (by decide) (z_iadd X dX10_flagOf_281 (z_ti ev51 (z_istore X [(5, .int v51), (0, .ref (z_ad g 0)), (4, .int x4), (6, .int x6), (7, .int q.2)] dX10_flagOf_282 (by decide) rfl (z_iinc X (v := q.2 + 1) 4 [(7, .int (q.2 + 1)), (5, .int v51), (0, .ref (z_ad g 0)), (4, .int x4), (6, .int x6)] dX10_flagOf_284 rfl rfl (by decide) rfl (z_goto X 234 dX10_flagOf_287 (by decide) (z_sub [2, 3, 1, 4, 0] [(0, .ref (z_ad g 0)), (4, .int x4), (5, .int v51), (6, .int x6), (7, .int (q.2 + 1))] rfl ?_))))))
          exact hkb (v51, q.2 + 1) h
        · replace h := z_ip c48 h
          obtain ⟨b49, h⟩ := z_gs h
          obtain ⟨v50, ev50, h⟩ := z_ls h
          refine z_aload_n X 0 dX10_flagOf_270 rfl rfl (z_getR X (k0 := 21) z_r0 rfl in_X10_flagOf_X10 (by decide) rfl rfl lk_X10_flagOf_54 dX10_flagOf_271 (z_iload X 4 dX10_flagOf_274 rfl (z_iald X z_r13 (z_inS b49) dX10_flagOf_276 (z_goto X 281 dX10_flagOf_277 (by decide) (z_iadd X dX10_flagOf_281 (z_ti ev50 (z_istore X [(5, .int v50), (0, .ref (z_ad g 0)), (4, .int x4), (6, .int x6), (7, .int q.2)] dX10_flagOf_282 (by decide) rfl (z_iinc X (v := q.2 + 1) 4 [(7, .int (q.2 + 1)), (5, .int v50), (0, .ref (z_ad g 0)), (4, .int x4), (6, .int x6)] dX10_flagOf_284 rfl rfl (by decide) rfl (z_goto X 234 dX10_flagOf_287 (by decide) (z_sub [2, 3, 1, 4, 0] [(0, .ref (z_ad g 0)), (4, .int x4), (5, .int v50), (6, .int x6), (7, .int (q.2 + 1))] rfl ?_))))))))))
          exact hkb (v50, q.2 + 1) h
set_option maxRecDepth 20000 in
set_option maxHeartbeats 4000000 in
theorem w_X10_flagOf (l : Launch) (g : z_G) (a1 : Int32) (a2 : Int32) (a3 : Int32) (u : z_M) {res : Int32 × z_M} (h : f_X10_flagOf a1 a2 a3 u = some res) : z_C l g z_shR yX10_flagOf wsX10_flagOf 6 [.ref (z_ad g 0), .int a1, .int a2, .int a3] u (fun v u' => v = some (.int res.1) ∧ u' = res.2) := by
  refine z_C.mk (lv := [(0, .ref (z_ad g 0)), (1, .int a1), (2, .int a2), (3, .int a3)]) (cc := cX10_flagOf) (nL := 11) (rt := (some .int)) rfl (by decide) (Nat.le_of_ble_eq_true rfl) rfl (fun p e R s m args below meth c hR X => ?_)
  unfold f_X10_flagOf at h
  obtain ⟨r1, er1, h⟩ := z_bs h
  obtain ⟨v2, ev2, h⟩ := z_ls h
  refine z_aload_n X 0 dX10_flagOf_0 rfl rfl (z_iload_n X 1 dX10_flagOf_1 rfl rfl (z_iload_n X 2 dX10_flagOf_2 rfl rfl (z_callVi X (r := r1) (u1 := u) [.int a1, .int a2] [] (w_X10_between l g a1 a2 u er1) z_r0 rfl gX10_flagOf_X10_between hy_X10_between rfl (z_le1 hR (by decide)) (z_le2 hR (by decide) (by decide)) (Nat.le_of_ble_eq_true rfl) dX10_flagOf_3 (z_iconst X (v := 1) dX10_flagOf_6 (by decide) (z_iload_n X 1 dX10_flagOf_7 rfl rfl (z_ishl X dX10_flagOf_8 (z_iconst X (v := 1) dX10_flagOf_9 (by decide) (z_iload_n X 2 dX10_flagOf_10 rfl rfl (z_ishl X dX10_flagOf_11 (z_ior X dX10_flagOf_12 (z_iconst X (v := (-1)) dX10_flagOf_13 (by decide) (z_ixor X dX10_flagOf_14 (z_iand X dX10_flagOf_15 (z_ti ev2 (z_istore X [(4, .int v2), (0, .ref (z_ad g 0)), (1, .int a1), (2, .int a2), (3, .int a3)] dX10_flagOf_16 (by decide) rfl (z_iconst X (v := 0) dX10_flagOf_18 (by decide) (z_istore X [(5, .int 0), (4, .int v2), (0, .ref (z_ad g 0)), (1, .int a1), (2, .int a2), (3, .int a3)] dX10_flagOf_19 (by decide) rfl (z_iconst X (v := 0) dX10_flagOf_21 (by decide) (z_istore X [(6, .int 0), (5, .int 0), (4, .int v2), (0, .ref (z_ad g 0)), (1, .int a1), (2, .int a2), (3, .int a3)] dX10_flagOf_22 (by decide) rfl (z_sub [3, 6, 2, 1, 0] [(0, .ref (z_ad g 0)), (3, .int a3), (4, .int v2), (5, .int 0), (6, .int 0)] rfl ?_))))))))))))))))))))
  have hw := z_lp_w (fun q9 kb9 kx9 h1 h2 h3 => wb_X10_flagOf_24 (l := l) (e := e) (below := below) (u := u) hR X a3 v2 0 q9 kb9 kx9 h1 h2 h3) z_F _ _ h
  refine hw (fun t6 h => ?_)
  refine z_iconst X (v := 0) dX10_flagOf_45 (by decide) (z_istore X [(6, .int 0), (0, .ref (z_ad g 0)), (3, .int a3), (4, .int v2), (5, .int 0)] dX10_flagOf_46 (by decide) rfl (z_iconst X (v := 1) dX10_flagOf_48 (by decide) (z_istore X [(7, .int 1), (6, .int 0), (0, .ref (z_ad g 0)), (3, .int a3), (4, .int v2), (5, .int 0)] dX10_flagOf_49 (by decide) rfl (z_sub [2, 3, 4, 5, 1, 0] [(0, .ref (z_ad g 0)), (3, .int a3), (4, .int v2), (5, .int 0), (6, .int 0), (7, .int 1)] rfl ?_))))
  have hw := z_lp_w (fun q9 kb9 kx9 h1 h2 h3 => wb_X10_flagOf_51 (l := l) (e := e) (below := below) (u := t6) hR X a3 v2 0 q9 kb9 kx9 h1 h2 h3) z_F _ _ h
  refine hw (fun t40 h => ?_)
  refine z_iconst X (v := 0) dX10_flagOf_231 (by decide) (z_istore X [(7, .int 0), (0, .ref (z_ad g 0)), (4, .int v2), (5, .int 0), (6, .int t40.1)] dX10_flagOf_232 (by decide) rfl (z_sub [1, 2, 3, 4, 0] [(0, .ref (z_ad g 0)), (4, .int v2), (5, .int 0), (6, .int t40.1), (7, .int 0)] rfl ?_))
  have hw := z_lp_w (fun q9 kb9 kx9 h1 h2 h3 => wb_X10_flagOf_234 (l := l) (e := e) (below := below) (u := t40.2) hR X v2 t40.1 q9 kb9 kx9 h1 h2 h3) z_F _ _ h
  refine hw (fun t52 h => ?_)
  refine z_iload X 1 dX10_flagOf_290 rfl (z_if_ne X 299 dX10_flagOf_292 (by decide) (fun c53 => ?_) (fun c53 => ?_))
  · replace h := z_in c53 h
    refine z_iload X 0 dX10_flagOf_299 rfl ?_
    cases h; exact z_iret X rfl dX10_flagOf_301 ⟨rfl, rfl⟩
  · replace h := z_ip c53 h
    refine z_iconst X (v := 1) dX10_flagOf_295 (by decide) (z_goto X 301 dX10_flagOf_296 (by decide) ?_)
    cases h; exact z_iret X rfl dX10_flagOf_301 ⟨rfl, rfl⟩

def b_X10_ones_4  : (Int32 × Int32) → ((Int32 × Int32) → Option (Int32)) → (Int32 → Option (Int32)) → Option (Int32) := fun q kb kx =>
  if q.2 ≤ 0 then (kx q.1) else (z_lt (q.1 + (q.2 - q.2 / 2 * 2)) (fun v2 => z_lt (q.2 / 2) (fun v3 => kb (v2, v3))))
def f_X10_ones (a1 : Int32) : Option (Int32) :=
  z_lp b_X10_ones_4 z_F (0, a1) (fun t4 => some t4)
set_option maxRecDepth 20000 in
set_option maxHeartbeats 4000000 in
theorem wb_X10_ones_4 {p : Program} {l : Launch} {e : Env} {R : Room} {s : State} {m : MethodId} {args : Array Value} {below : List Frame} {meth : Method} {c : Code} {g : z_G} {u : z_M} {res : Int32} (hR : R = z_rm 1) (X : z_X p R s m args meth c cX10_ones 3 RX10 wsX10_ones (some .int) g z_shR)  (q : Int32 × Int32) (kb : (Int32 × Int32) → Option (Int32)) (kx : Int32 → Option (Int32)) (hkb : ∀ q, kb q = some res → z_V p l e R s m args below meth c 3 g z_shR (MQ below (z_Qc g z_shR (fun v u' => v = some (.int res) ∧ u' = u)) args s 0 0 (z_A g z_shR)) 4 [(1, .int q.1), (2, .int q.2)] [] u) (hkx : ∀ t, kx t = some res → z_V p l e R s m args below meth c 3 g z_shR (MQ below (z_Qc g z_shR (fun v u' => v = some (.int res) ∧ u' = u)) args s 0 0 (z_A g z_shR)) 21 [(1, .int t)] [] u) (h : b_X10_ones_4 q kb kx = some res) : z_V p l e R s m args below meth c 3 g z_shR (MQ below (z_Qc g z_shR (fun v u' => v = some (.int res) ∧ u' = u)) args s 0 0 (z_A g z_shR)) 4 [(1, .int q.1), (2, .int q.2)] [] u := by
  unfold b_X10_ones_4 at h
  refine z_iload_n X 1 dX10_ones_4 rfl rfl (z_if_le X 21 dX10_ones_5 (by decide) (fun c1 => ?_) (fun c1 => ?_))
  · replace h := z_ip c1 h
    refine z_sub [0] [(1, .int q.1)] rfl ?_
    exact hkx q.1 h
  · replace h := z_in c1 h
    obtain ⟨v2, ev2, h⟩ := z_ls h
    obtain ⟨v3, ev3, h⟩ := z_ls h
    refine z_iload_n X 0 dX10_ones_8 rfl rfl (z_iload_n X 1 dX10_ones_9 rfl rfl (z_iconst X (v := 2) dX10_ones_10 (by decide) (z_irem X dX10_ones_11 (by decide) (z_iadd X dX10_ones_12 (z_ti ev2 (z_istore_n X [(1, .int v2), (2, .int q.2)] dX10_ones_13 rfl (by decide) rfl (z_iload_n X 1 dX10_ones_14 rfl rfl (z_iconst X (v := 2) dX10_ones_15 (by decide) (z_idiv X dX10_ones_16 (by decide) (z_ti ev3 (z_istore_n X [(2, .int v3), (1, .int v2)] dX10_ones_17 rfl (by decide) rfl (z_goto X 4 dX10_ones_18 (by decide) (z_sub [1, 0] [(1, .int v2), (2, .int v3)] rfl ?_)))))))))))))
    exact hkb (v2, v3) h
set_option maxRecDepth 20000 in
set_option maxHeartbeats 4000000 in
theorem w_X10_ones (l : Launch) (g : z_G) (a1 : Int32) (u : z_M) {res : Int32} (h : f_X10_ones a1 = some res) : z_C l g z_shR yX10_ones wsX10_ones 1 [.int a1] u (fun v u' => v = some (.int res) ∧ u' = u) := by
  refine z_C.mk (lv := [(0, .int a1)]) (cc := cX10_ones) (nL := 3) (rt := (some .int)) rfl (by decide) (Nat.le_of_ble_eq_true rfl) rfl (fun p e R s m args below meth c hR X => ?_)
  unfold f_X10_ones at h
  refine z_iconst X (v := 0) dX10_ones_0 (by decide) (z_istore_n X [(1, .int 0), (0, .int a1)] dX10_ones_1 rfl (by decide) rfl (z_iload_n X 1 dX10_ones_2 rfl rfl (z_istore_n X [(2, .int a1), (1, .int 0), (0, .int a1)] dX10_ones_3 rfl (by decide) rfl (z_sub [1, 0] [(1, .int 0), (2, .int a1)] rfl ?_))))
  have hw := z_lp_w (fun q9 kb9 kx9 h1 h2 h3 => wb_X10_ones_4 (l := l) (e := e) (below := below) (u := u) hR X q9 kb9 kx9 h1 h2 h3) z_F _ _ h
  refine hw (fun t4 h => ?_)
  refine z_iload_n X 0 dX10_ones_21 rfl rfl ?_
  cases h; exact z_iret X rfl dX10_ones_22 ⟨rfl, rfl⟩

theorem lk_X10_flag_82 : (Cond.fieldLink RX10 82 RX10 (TX10 0).2.1 (TX10 0).2.2.1) ∈ wsX10_flag := by decide +kernel
theorem in_X10_flag_X10 : ∀ w ∈ u_ws RX10 TX10 30, w ∈ wsX10_flag := fun _ h => List.mem_cons_of_mem _ (List.mem_append_right _ h)
theorem ct316_X10_flag : Cond.constant RX10 316 (-2147483648) ∈ wsX10_flag := by decide +kernel
theorem hy_X10_flagOf : yX10_flagOf.cls = RX10 ∧ yX10_flagOf.cls ≠ "java/lang/invoke/MethodHandle" ∧ yX10_flagOf.cls ≠ "java/lang/invoke/VarHandle" ∧ (parseMethodDescriptor yX10_flagOf.desc).map (fun d => d.parameters.length) = some 3 := by decide +kernel
theorem hy_X10_ones : yX10_ones.cls = RX10 ∧ yX10_ones.cls ≠ "java/lang/invoke/MethodHandle" ∧ yX10_ones.cls ≠ "java/lang/invoke/VarHandle" ∧ (parseMethodDescriptor yX10_ones.desc).map (fun d => d.parameters.length) = some 1 := by decide +kernel
def b_X10_flag_58 (x1 : Int32) (x2 : Int32) (x3 : Int32) : (Int32 × Int32 × z_M) → ((Int32 × Int32 × z_M) → Option (Int32 × z_M)) → ((Int32 × z_M) → Option (Int32 × z_M)) → Option (Int32 × z_M) := fun q kb kx =>
  if x3 < q.2.1 then (kx (q.1, q.2.2)) else (if (q.2.1 &&& (x3 ^^^ (-1))) = 0 then (Option.bind (f_X10_ones (x3 ^^^ q.2.1)) (fun r14 => if (r14 - r14 / 2 * 2) = 0 then (z_b2 (f_X10_flagOf x1 x2 q.2.1 q.2.2) (fun r16 u17 => z_lt (q.1 + r16) (fun v18 => kb (v18, q.2.1 + 1, u17)))) else (z_b2 (f_X10_flagOf x1 x2 q.2.1 q.2.2) (fun r19 u20 => z_lt (q.1 + (-r19)) (fun v21 => kb (v21, q.2.1 + 1, u20)))))) else (kb (q.1, q.2.1 + 1, q.2.2)))
def f_X10_flag (a1 : Int32) (a2 : Int32) (a3 : Int32) (a4 : Int32) (u : z_M) : Option (Int32 × z_M) :=
  z_lt (z_sI u 0 0 0) (fun u1 => Option.bind (f_X10_isHeights a3) (fun r2 => if r2 = 0 then (some ((-2147483648), u1)) else (Option.bind (f_X10_areThere a1 a2 u1) (fun r4 => if r4 = 0 then (some ((-2147483648), u1)) else (Option.bind (f_X10_isInterval a1 a2 u1) (fun r6 => if r6 = 0 then (some ((-2147483648), u1)) else (Option.bind (f_X10_layHeights a1 u1) (fun r8 => if a4 = 0 then (z_b2 (f_X10_flagOf a1 a2 a3 r8) (fun r10 u11 => some (r10, u11))) else (z_lp (b_X10_flag_58 a1 a2 a3) z_F (0, 0, r8) (fun t22 => some (t22.1, t22.2)))))))))))
set_option maxRecDepth 20000 in
set_option maxHeartbeats 4000000 in
theorem wb_X10_flag_58 {p : Program} {l : Launch} {e : Env} {R : Room} {s : State} {m : MethodId} {args : Array Value} {below : List Frame} {meth : Method} {c : Code} {g : z_G} {u : z_M} {res : Int32 × z_M} (hR : R = z_rm 7) (X : z_X p R s m args meth c cX10_flag 7 RX10 wsX10_flag (some .int) g z_shR) (x1 : Int32) (x2 : Int32) (x3 : Int32) (q : Int32 × Int32 × z_M) (kb : (Int32 × Int32 × z_M) → Option (Int32 × z_M)) (kx : (Int32 × z_M) → Option (Int32 × z_M)) (hkb : ∀ q, kb q = some res → z_V p l e R s m args below meth c 7 g z_shR (MQ below (z_Qc g z_shR (fun v u' => v = some (.int res.1) ∧ u' = res.2)) args s 0 0 (z_A g z_shR)) 58 [(0, .ref (z_ad g 0)), (1, .int x1), (2, .int x2), (3, .int x3), (5, .int q.1), (6, .int q.2.1)] [] q.2.2) (hkx : ∀ t, kx t = some res → z_V p l e R s m args below meth c 7 g z_shR (MQ below (z_Qc g z_shR (fun v u' => v = some (.int res.1) ∧ u' = res.2)) args s 0 0 (z_A g z_shR)) 116 [(5, .int t.1)] [] t.2) (h : b_X10_flag_58 x1 x2 x3 q kb kx = some res) : z_V p l e R s m args below meth c 7 g z_shR (MQ below (z_Qc g z_shR (fun v u' => v = some (.int res.1) ∧ u' = res.2)) args s 0 0 (z_A g z_shR)) 58 [(0, .ref (z_ad g 0)), (1, .int x1), (2, .int x2), (3, .int x3), (5, .int q.1), (6, .int q.2.1)] [] q.2.2 := by
  unfold b_X10_flag_58 at h
  refine z_iload X 5 dX10_flag_58 rfl (z_iload_n X 3 dX10_flag_60 rfl rfl (z_icmp_gt X 116 dX10_flag_61 (by decide) (fun c12 => ?_) (fun c12 => ?_)))
  · replace h := z_ip c12 h
    refine z_sub [4] [(5, .int q.1)] rfl ?_
    exact hkx (q.1, q.2.2) h
  · replace h := z_in c12 h
    refine z_iload X 5 dX10_flag_64 rfl (z_iload_n X 3 dX10_flag_66 rfl rfl (z_iconst X (v := (-1)) dX10_flag_67 (by decide) (z_ixor X dX10_flag_68 (z_iand X dX10_flag_69 (z_if_ne X 110 dX10_flag_70 (by decide) (fun c13 => ?_) (fun c13 => ?_))))))
    · replace h := z_in c13 h
      refine z_iinc X (v := q.2.1 + 1) 5 [(6, .int (q.2.1 + 1)), (0, .ref (z_ad g 0)), (1, .int x1), (2, .int x2), (3, .int x3), (5, .int q.1)] dX10_flag_110 rfl rfl (by decide) rfl (z_goto X 58 dX10_flag_113 (by decide) (z_sub [1, 2, 3, 4, 5, 0] [(0, .ref (z_ad g 0)), (1, .int x1), (2, .int x2), (3, .int x3), (5, .int q.1), (6, .int (q.2.1 + 1))] rfl ?_))
      exact hkb (q.1, q.2.1 + 1, q.2.2) h
    · replace h := z_ip c13 h
      obtain ⟨r14, er14, h⟩ := z_bs h
      refine z_iload X 4 dX10_flag_73 rfl (z_iload_n X 3 dX10_flag_75 rfl rfl (z_iload X 5 dX10_flag_76 rfl (z_ixor X dX10_flag_78 (z_callSi X (r := r14) (u1 := q.2.2) [.int (x3 ^^^ q.2.1)] [.int q.1] (w_X10_ones l g (x3 ^^^ q.2.1) q.2.2 er14) gX10_flag_X10_ones hy_X10_ones.2 rfl (z_le1 hR (by decide)) (z_le2 hR (by decide) (by decide)) (Nat.le_of_ble_eq_true rfl) dX10_flag_79 (z_iconst X (v := 2) dX10_flag_82 (by decide) (z_irem X dX10_flag_83 (by decide) (z_if_ne X 98 dX10_flag_84 (by decide) (fun c15 => ?_) (fun c15 => ?_))))))))
      · replace h := z_in c15 h
        obtain ⟨r19, u20, er19, h⟩ := z_b2s h
        obtain ⟨v21, ev21, h⟩ := z_ls h
        refine z_aload_n X 0 dX10_flag_98 rfl rfl (z_iload_n X 1 dX10_flag_99 rfl rfl (z_iload_n X 2 dX10_flag_100 rfl rfl (z_iload X 5 dX10_flag_101 rfl (z_callVi X (r := r19) (u1 := u20) [.int x1, .int x2, .int q.2.1] [.int q.1] (w_X10_flagOf l g x1 x2 q.2.1 q.2.2 er19) z_r0 rfl gX10_flag_X10_flagOf hy_X10_flagOf rfl (z_le1 hR (by decide)) (z_le2 hR (by decide) (by decide)) (Nat.le_of_ble_eq_true rfl) dX10_flag_103 (z_ineg X dX10_flag_106 (z_iadd X dX10_flag_107 (z_ti ev21 (z_istore X [(5, .int v21), (0, .ref (z_ad g 0)), (1, .int x1), (2, .int x2), (3, .int x3), (6, .int q.2.1)] dX10_flag_108 (by decide) rfl (z_iinc X (v := q.2.1 + 1) 5 [(6, .int (q.2.1 + 1)), (5, .int v21), (0, .ref (z_ad g 0)), (1, .int x1), (2, .int x2), (3, .int x3)] dX10_flag_110 rfl rfl (by decide) rfl (z_goto X 58 dX10_flag_113 (by decide) (z_sub [2, 3, 4, 5, 1, 0] [(0, .ref (z_ad g 0)), (1, .int x1), (2, .int x2), (3, .int x3), (5, .int v21), (6, .int (q.2.1 + 1))] rfl ?_)))))))))))
        exact hkb (v21, q.2.1 + 1, u20) h
      · replace h := z_ip c15 h
        obtain ⟨r16, u17, er16, h⟩ := z_b2s h
        obtain ⟨v18, ev18, h⟩ := z_ls h
        refine z_aload_n X 0 dX10_flag_87 rfl rfl (z_iload_n X 1 dX10_flag_88 rfl rfl (z_iload_n X 2 dX10_flag_89 rfl rfl (z_iload X 5 dX10_flag_90 rfl (z_callVi X (r := r16) (u1 := u17) [.int x1, .int x2, .int q.2.1] [.int q.1] (w_X10_flagOf l g x1 x2 q.2.1 q.2.2 er16) z_r0 rfl gX10_flag_X10_flagOf hy_X10_flagOf rfl (z_le1 hR (by decide)) (z_le2 hR (by decide) (by decide)) (Nat.le_of_ble_eq_true rfl) dX10_flag_92 (z_goto X 107 dX10_flag_95 (by decide) (z_iadd X dX10_flag_107 (z_ti ev18 (z_istore X [(5, .int v18), (0, .ref (z_ad g 0)), (1, .int x1), (2, .int x2), (3, .int x3), (6, .int q.2.1)] dX10_flag_108 (by decide) rfl (z_iinc X (v := q.2.1 + 1) 5 [(6, .int (q.2.1 + 1)), (5, .int v18), (0, .ref (z_ad g 0)), (1, .int x1), (2, .int x2), (3, .int x3)] dX10_flag_110 rfl rfl (by decide) rfl (z_goto X 58 dX10_flag_113 (by decide) (z_sub [2, 3, 4, 5, 1, 0] [(0, .ref (z_ad g 0)), (1, .int x1), (2, .int x2), (3, .int x3), (5, .int v18), (6, .int (q.2.1 + 1))] rfl ?_)))))))))))
        exact hkb (v18, q.2.1 + 1, u17) h
set_option maxRecDepth 20000 in
set_option maxHeartbeats 4000000 in
theorem w_X10_flag (l : Launch) (g : z_G) (a1 : Int32) (a2 : Int32) (a3 : Int32) (a4 : Int32) (u : z_M) {res : Int32 × z_M} (h : f_X10_flag a1 a2 a3 a4 u = some res) : z_C l g z_shR yX10_flag wsX10_flag 7 [.ref (z_ad g 0), .int a1, .int a2, .int a3, .int a4] u (fun v u' => v = some (.int res.1) ∧ u' = res.2) := by
  refine z_C.mk (lv := [(0, .ref (z_ad g 0)), (1, .int a1), (2, .int a2), (3, .int a3), (4, .int a4)]) (cc := cX10_flag) (nL := 7) (rt := (some .int)) rfl (by decide) (Nat.le_of_ble_eq_true rfl) rfl (fun p e R s m args below meth c hR X => ?_)
  unfold f_X10_flag at h
  obtain ⟨u1, eu1, h⟩ := z_ls h
  obtain ⟨r2, er2, h⟩ := z_bs h
  refine z_aload_n X 0 dX10_flag_0 rfl rfl (z_iconst X (v := 0) dX10_flag_1 (by decide) (z_putI X (k0 := 0) (ty0 := tyX10) z_r0 rfl in_X10_flag_X10 tyX10_ok nmX10 (by decide) rfl rfl rfl rfl rfl lk_X10_flag_82 dX10_flag_2 (z_nm eu1 (z_iload_n X 3 dX10_flag_5 rfl rfl (z_callSi X (r := r2) (u1 := u1) [.int a3] [] (w_X10_isHeights l g a3 u1 er2) gX10_flag_X10_isHeights hy_X10_isHeights.2 rfl (z_le1 hR (by decide)) (z_le2 hR (by decide) (by decide)) (Nat.le_of_ble_eq_true rfl) dX10_flag_6 (z_if_eq X 30 dX10_flag_9 (by decide) (fun c3 => ?_) (fun c3 => ?_)))))))
  · replace h := z_ip c3 h
    refine z_ldcw X dX10_flag_30 ct316_X10_flag ?_
    cases h; exact z_iret X rfl dX10_flag_33 ⟨rfl, rfl⟩
  · replace h := z_in c3 h
    obtain ⟨r4, er4, h⟩ := z_bs h
    refine z_aload_n X 0 dX10_flag_12 rfl rfl (z_iload_n X 1 dX10_flag_13 rfl rfl (z_iload_n X 2 dX10_flag_14 rfl rfl (z_callVi X (r := r4) (u1 := u1) [.int a1, .int a2] [] (w_X10_areThere l g a1 a2 u1 er4) z_r0 rfl gX10_flag_X10_areThere hy_X10_areThere rfl (z_le1 hR (by decide)) (z_le2 hR (by decide) (by decide)) (Nat.le_of_ble_eq_true rfl) dX10_flag_15 (z_if_eq X 30 dX10_flag_18 (by decide) (fun c5 => ?_) (fun c5 => ?_)))))
    · replace h := z_ip c5 h
      refine z_ldcw X dX10_flag_30 ct316_X10_flag ?_
      cases h; exact z_iret X rfl dX10_flag_33 ⟨rfl, rfl⟩
    · replace h := z_in c5 h
      obtain ⟨r6, er6, h⟩ := z_bs h
      refine z_aload_n X 0 dX10_flag_21 rfl rfl (z_iload_n X 1 dX10_flag_22 rfl rfl (z_iload_n X 2 dX10_flag_23 rfl rfl (z_callVi X (r := r6) (u1 := u1) [.int a1, .int a2] [] (w_X10_isInterval l g a1 a2 u1 er6) z_r0 rfl gX10_flag_X10_isInterval hy_X10_isInterval rfl (z_le1 hR (by decide)) (z_le2 hR (by decide) (by decide)) (Nat.le_of_ble_eq_true rfl) dX10_flag_24 (z_if_ne X 34 dX10_flag_27 (by decide) (fun c7 => ?_) (fun c7 => ?_)))))
      · replace h := z_in c7 h
        obtain ⟨r8, er8, h⟩ := z_bs h
        refine z_aload_n X 0 dX10_flag_34 rfl rfl (z_iload_n X 1 dX10_flag_35 rfl rfl (z_callVv X (u1 := r8) [.int a1] [] (w_X10_layHeights l g a1 u1 er8) z_r0 rfl gX10_flag_X10_layHeights hy_X10_layHeights rfl (z_le1 hR (by decide)) (z_le2 hR (by decide) (by decide)) (Nat.le_of_ble_eq_true rfl) dX10_flag_36 (z_iload X 4 dX10_flag_39 rfl (z_if_ne X 52 dX10_flag_41 (by decide) (fun c9 => ?_) (fun c9 => ?_)))))
        · replace h := z_in c9 h
          refine z_iconst X (v := 0) dX10_flag_52 (by decide) (z_istore X [(5, .int 0), (0, .ref (z_ad g 0)), (1, .int a1), (2, .int a2), (3, .int a3), (4, .int a4)] dX10_flag_53 (by decide) rfl (z_iconst X (v := 0) dX10_flag_55 (by decide) (z_istore X [(6, .int 0), (5, .int 0), (0, .ref (z_ad g 0)), (1, .int a1), (2, .int a2), (3, .int a3), (4, .int a4)] dX10_flag_56 (by decide) rfl (z_sub [2, 3, 4, 5, 1, 0] [(0, .ref (z_ad g 0)), (1, .int a1), (2, .int a2), (3, .int a3), (5, .int 0), (6, .int 0)] rfl ?_))))
          have hw := z_lp_w (fun q9 kb9 kx9 h1 h2 h3 => wb_X10_flag_58 (l := l) (e := e) (below := below) (u := r8) hR X a1 a2 a3 q9 kb9 kx9 h1 h2 h3) z_F _ _ h
          refine hw (fun t22 h => ?_)
          refine z_iload X 0 dX10_flag_116 rfl ?_
          cases h; exact z_iret X rfl dX10_flag_118 ⟨rfl, rfl⟩
        · replace h := z_ip c9 h
          obtain ⟨r10, u11, er10, h⟩ := z_b2s h
          refine z_aload_n X 0 dX10_flag_44 rfl rfl (z_iload_n X 1 dX10_flag_45 rfl rfl (z_iload_n X 2 dX10_flag_46 rfl rfl (z_iload_n X 3 dX10_flag_47 rfl rfl (z_callVi X (r := r10) (u1 := u11) [.int a1, .int a2, .int a3] [] (w_X10_flagOf l g a1 a2 a3 r8 er10) z_r0 rfl gX10_flag_X10_flagOf hy_X10_flagOf rfl (z_le1 hR (by decide)) (z_le2 hR (by decide) (by decide)) (Nat.le_of_ble_eq_true rfl) dX10_flag_48 ?_))))
          cases h; exact z_iret X rfl dX10_flag_51 ⟨rfl, rfl⟩
      · replace h := z_ip c7 h
        refine z_ldcw X dX10_flag_30 ct316_X10_flag ?_
        cases h; exact z_iret X rfl dX10_flag_33 ⟨rfl, rfl⟩
