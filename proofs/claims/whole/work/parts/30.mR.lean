theorem lk_X10_thrown_82 : (Cond.fieldLink RX10 82 RX10 (TX10 0).2.1 (TX10 0).2.2.1) ∈ wsX10_thrown := by decide +kernel
theorem in_X10_thrown_X10 : ∀ w ∈ u_ws RX10 TX10 30, w ∈ wsX10_thrown := fun _ h => List.mem_cons_of_mem _ (List.mem_append_right _ h)
def f_X10_thrown (u : z_M) : Option (Int32) :=
  some (z_gI u 0 0)
set_option maxRecDepth 20000 in
set_option maxHeartbeats 4000000 in
theorem w_X10_thrown (l : Launch) (g : z_G)  (u : z_M) {res : Int32} (h : f_X10_thrown u = some res) : z_C l g z_shR yX10_thrown wsX10_thrown 1 [.ref (z_ad g 0)] u (fun v u' => v = some (.int res) ∧ u' = u) := by
  refine z_C.mk (lv := [(0, .ref (z_ad g 0))]) (cc := cX10_thrown) (nL := 1) (rt := (some .int)) rfl (by decide) (Nat.le_of_ble_eq_true rfl) rfl (fun p e R s m args below meth c hR X => ?_)
  unfold f_X10_thrown at h
  refine z_aload_n X 0 dX10_thrown_0 rfl rfl (z_getI X (k0 := 0) z_r0 rfl in_X10_thrown_X10 (by decide) rfl rfl lk_X10_thrown_82 dX10_thrown_1 ?_)
  cases h; exact z_iret X rfl dX10_thrown_4 ⟨rfl, rfl⟩

def f_X10_isIn (a1 : Int64) (a2 : Int64) (a3 : Int64) : Option (Int32) :=
  if (lg_cmp a1 a2) < 0 then (some 0) else (if 0 < (lg_cmp a1 a3) then (some 0) else (some 1))
set_option maxRecDepth 20000 in
set_option maxHeartbeats 4000000 in
theorem w_X10_isIn (l : Launch) (g : z_G) (a1 : Int64) (a2 : Int64) (a3 : Int64) (u : z_M) {res : Int32} (h : f_X10_isIn a1 a2 a3 = some res) : z_C l g z_shR yX10_isIn wsX10_isIn 1 [.long a1, .long a2, .long a3] u (fun v u' => v = some (.int res) ∧ u' = u) := by
  refine z_C.mk (lv := [(0, .long a1), (2, .long a2), (4, .long a3)]) (cc := cX10_isIn) (nL := 6) (rt := (some .boolean)) rfl (by decide) (Nat.le_of_ble_eq_true rfl) rfl (fun p e R s m args below meth c hR X => ?_)
  unfold f_X10_isIn at h
  refine z_lload_n X 0 dX10_isIn_0 rfl rfl (z_lload_n X 1 dX10_isIn_1 rfl rfl (z_lcmp X dX10_isIn_2 (z_if_lt X 17 dX10_isIn_3 (by decide) (fun c1 => ?_) (fun c1 => ?_))))
  · replace h := z_ip c1 h
    refine z_iconst X (v := 0) dX10_isIn_17 (by decide) ?_
    cases h; exact z_zret X rfl rfl dX10_isIn_18 ⟨rfl, rfl⟩
  · replace h := z_in c1 h
    refine z_lload_n X 0 dX10_isIn_6 rfl rfl (z_lload X 2 dX10_isIn_7 rfl (z_lcmp X dX10_isIn_9 (z_if_gt X 17 dX10_isIn_10 (by decide) (fun c2 => ?_) (fun c2 => ?_))))
    · replace h := z_ip c2 h
      refine z_iconst X (v := 0) dX10_isIn_17 (by decide) ?_
      cases h; exact z_zret X rfl rfl dX10_isIn_18 ⟨rfl, rfl⟩
    · replace h := z_in c2 h
      refine z_iconst X (v := 1) dX10_isIn_13 (by decide) (z_goto X 18 dX10_isIn_14 (by decide) ?_)
      cases h; exact z_zret X rfl rfl dX10_isIn_18 ⟨rfl, rfl⟩

def f_X10_has (a1 : Int32) (a2 : Int32) : Option (Int32) :=
  if ((a1 >>> (a2 &&& 31)) &&& 1) = 1 then (some 1) else (some 0)
set_option maxRecDepth 20000 in
set_option maxHeartbeats 4000000 in
theorem w_X10_has (l : Launch) (g : z_G) (a1 : Int32) (a2 : Int32) (u : z_M) {res : Int32} (h : f_X10_has a1 a2 = some res) : z_C l g z_shR yX10_has wsX10_has 1 [.int a1, .int a2] u (fun v u' => v = some (.int res) ∧ u' = u) := by
  refine z_C.mk (lv := [(0, .int a1), (1, .int a2)]) (cc := cX10_has) (nL := 2) (rt := (some .boolean)) rfl (by decide) (Nat.le_of_ble_eq_true rfl) rfl (fun p e R s m args below meth c hR X => ?_)
  unfold f_X10_has at h
  refine z_iload_n X 0 dX10_has_0 rfl rfl (z_iload_n X 1 dX10_has_1 rfl rfl (z_ishr X dX10_has_2 (z_iconst X (v := 1) dX10_has_3 (by decide) (z_iand X dX10_has_4 (z_iconst X (v := 1) dX10_has_5 (by decide) (z_icmp_ne X 13 dX10_has_6 (by decide) (fun c1 => ?_) (fun c1 => ?_)))))))
  · replace h := z_in c1 h
    refine z_iconst X (v := 0) dX10_has_13 (by decide) ?_
    cases h; exact z_zret X rfl rfl dX10_has_14 ⟨rfl, rfl⟩
  · replace h := z_ip c1 h
    refine z_iconst X (v := 1) dX10_has_9 (by decide) (z_goto X 14 dX10_has_10 (by decide) ?_)
    cases h; exact z_zret X rfl rfl dX10_has_14 ⟨rfl, rfl⟩

def b_X10_bits_4 (x0 : Int32) : (Int32 × Int32) → ((Int32 × Int32) → Option (Int32)) → (Int32 → Option (Int32)) → Option (Int32) := fun q kb kx =>
  if 9 ≤ q.2 then (kx q.1) else (z_lt (q.1 + ((x0 >>> (q.2 &&& 31)) &&& 1)) (fun v2 => kb (v2, q.2 + 1)))
def f_X10_bits (a1 : Int32) : Option (Int32) :=
  z_lp (b_X10_bits_4 a1) z_F (0, 0) (fun t3 => some t3)
set_option maxRecDepth 20000 in
set_option maxHeartbeats 4000000 in
theorem wb_X10_bits_4 {p : Program} {l : Launch} {e : Env} {R : Room} {s : State} {m : MethodId} {args : Array Value} {below : List Frame} {meth : Method} {c : Code} {g : z_G} {u : z_M} {res : Int32} (hR : R = z_rm 1) (X : z_X p R s m args meth c cX10_bits 3 RX10 wsX10_bits (some .int) g z_shR) (x0 : Int32) (q : Int32 × Int32) (kb : (Int32 × Int32) → Option (Int32)) (kx : Int32 → Option (Int32)) (hkb : ∀ q, kb q = some res → z_V p l e R s m args below meth c 3 g z_shR (MQ below (z_Qc g z_shR (fun v u' => v = some (.int res) ∧ u' = u)) args s 0 0 (z_A g z_shR)) 4 [(0, .int x0), (1, .int q.1), (2, .int q.2)] [] u) (hkx : ∀ t, kx t = some res → z_V p l e R s m args below meth c 3 g z_shR (MQ below (z_Qc g z_shR (fun v u' => v = some (.int res) ∧ u' = u)) args s 0 0 (z_A g z_shR)) 24 [(1, .int t)] [] u) (h : b_X10_bits_4 x0 q kb kx = some res) : z_V p l e R s m args below meth c 3 g z_shR (MQ below (z_Qc g z_shR (fun v u' => v = some (.int res) ∧ u' = u)) args s 0 0 (z_A g z_shR)) 4 [(0, .int x0), (1, .int q.1), (2, .int q.2)] [] u := by
  unfold b_X10_bits_4 at h
  refine z_iload_n X 2 dX10_bits_4 rfl rfl (z_bipush X (v := 9) dX10_bits_5 (by decide) (z_icmp_ge X 24 dX10_bits_7 (by decide) (fun c1 => ?_) (fun c1 => ?_)))
  · replace h := z_ip c1 h
    refine z_sub [1] [(1, .int q.1)] rfl ?_
    exact hkx q.1 h
  · replace h := z_in c1 h
    obtain ⟨v2, ev2, h⟩ := z_ls h
    refine z_iload_n X 1 dX10_bits_10 rfl rfl (z_iload_n X 0 dX10_bits_11 rfl rfl (z_iload_n X 2 dX10_bits_12 rfl rfl (z_ishr X dX10_bits_13 (z_iconst X (v := 1) dX10_bits_14 (by decide) (z_iand X dX10_bits_15 (z_iadd X dX10_bits_16 (z_ti ev2 (z_istore_n X [(1, .int v2), (0, .int x0), (2, .int q.2)] dX10_bits_17 rfl (by decide) rfl (z_iinc X (v := q.2 + 1) 2 [(2, .int (q.2 + 1)), (1, .int v2), (0, .int x0)] dX10_bits_18 rfl rfl (by decide) rfl (z_goto X 4 dX10_bits_21 (by decide) (z_sub [2, 1, 0] [(0, .int x0), (1, .int v2), (2, .int (q.2 + 1))] rfl ?_)))))))))))
    exact hkb (v2, q.2 + 1) h
set_option maxRecDepth 20000 in
set_option maxHeartbeats 4000000 in
theorem w_X10_bits (l : Launch) (g : z_G) (a1 : Int32) (u : z_M) {res : Int32} (h : f_X10_bits a1 = some res) : z_C l g z_shR yX10_bits wsX10_bits 1 [.int a1] u (fun v u' => v = some (.int res) ∧ u' = u) := by
  refine z_C.mk (lv := [(0, .int a1)]) (cc := cX10_bits) (nL := 3) (rt := (some .int)) rfl (by decide) (Nat.le_of_ble_eq_true rfl) rfl (fun p e R s m args below meth c hR X => ?_)
  unfold f_X10_bits at h
  refine z_iconst X (v := 0) dX10_bits_0 (by decide) (z_istore_n X [(1, .int 0), (0, .int a1)] dX10_bits_1 rfl (by decide) rfl (z_iconst X (v := 0) dX10_bits_2 (by decide) (z_istore_n X [(2, .int 0), (1, .int 0), (0, .int a1)] dX10_bits_3 rfl (by decide) rfl (z_sub [2, 1, 0] [(0, .int a1), (1, .int 0), (2, .int 0)] rfl ?_))))
  have hw := z_lp_w (fun q9 kb9 kx9 h1 h2 h3 => wb_X10_bits_4 (l := l) (e := e) (below := below) (u := u) hR X a1 q9 kb9 kx9 h1 h2 h3) z_F _ _ h
  refine hw (fun t3 h => ?_)
  refine z_iload_n X 0 dX10_bits_24 rfl rfl ?_
  cases h; exact z_iret X rfl dX10_bits_25 ⟨rfl, rfl⟩

theorem lk_X10_isTold_9 : (Cond.fieldLink RX10 9 RX10 (TX10 1).2.1 (TX10 1).2.2.1) ∈ wsX10_isTold := by decide +kernel
theorem in_X10_isTold_X10 : ∀ w ∈ u_ws RX10 TX10 30, w ∈ wsX10_isTold := by decide +kernel
def f_X10_isTold (u : z_M) : Option (Int32) :=
  z_gd (z_inb 0 93) (if (z_gI u 1 (0 : Int32).toNatClampNeg) ≤ 0 then (some 0) else (some 1))
set_option maxRecDepth 20000 in
set_option maxHeartbeats 4000000 in
theorem w_X10_isTold (l : Launch) (g : z_G)  (u : z_M) {res : Int32} (h : f_X10_isTold u = some res) : z_C l g z_shR yX10_isTold wsX10_isTold 1 [.ref (z_ad g 0)] u (fun v u' => v = some (.int res) ∧ u' = u) := by
  refine z_C.mk (lv := [(0, .ref (z_ad g 0))]) (cc := cX10_isTold) (nL := 1) (rt := (some .boolean)) rfl (by decide) (Nat.le_of_ble_eq_true rfl) rfl (fun p e R s m args below meth c hR X => ?_)
  unfold f_X10_isTold at h
  obtain ⟨b1, h⟩ := z_gs h
  refine z_aload_n X 0 dX10_isTold_0 rfl rfl (z_getR X (k0 := 1) z_r0 rfl in_X10_isTold_X10 (by decide) rfl rfl lk_X10_isTold_9 dX10_isTold_1 (z_iconst X (v := 0) dX10_isTold_4 (by decide) (z_iald X z_r1 (z_inS b1) dX10_isTold_5 (z_if_le X 13 dX10_isTold_6 (by decide) (fun c2 => ?_) (fun c2 => ?_)))))
  · replace h := z_ip c2 h
    refine z_iconst X (v := 0) dX10_isTold_13 (by decide) ?_
    cases h; exact z_zret X rfl rfl dX10_isTold_14 ⟨rfl, rfl⟩
  · replace h := z_in c2 h
    refine z_iconst X (v := 1) dX10_isTold_9 (by decide) (z_goto X 14 dX10_isTold_10 (by decide) ?_)
    cases h; exact z_zret X rfl rfl dX10_isTold_14 ⟨rfl, rfl⟩

theorem ct85_X10_isThere : Cond.constantLong RX10 85 8 ∈ wsX10_isThere := by decide +kernel
theorem lk_X10_isThere_9 : (Cond.fieldLink RX10 9 RX10 (TX10 1).2.1 (TX10 1).2.2.1) ∈ wsX10_isThere := by decide +kernel
theorem in_X10_isThere_X10 : ∀ w ∈ u_ws RX10 TX10 30, w ∈ wsX10_isThere := by decide +kernel
theorem hy_X10_has : yX10_has.cls = RX10 ∧ yX10_has.cls ≠ "java/lang/invoke/MethodHandle" ∧ yX10_has.cls ≠ "java/lang/invoke/VarHandle" ∧ (parseMethodDescriptor yX10_has.desc).map (fun d => d.parameters.length) = some 2 := by decide +kernel
theorem hy_X10_isIn : yX10_isIn.cls = RX10 ∧ yX10_isIn.cls ≠ "java/lang/invoke/MethodHandle" ∧ yX10_isIn.cls ≠ "java/lang/invoke/VarHandle" ∧ (parseMethodDescriptor yX10_isIn.desc).map (fun d => d.parameters.length) = some 3 := by decide +kernel
def f_X10_isThere (a1 : Int32) (u : z_M) : Option (Int32) :=
  Option.bind (f_X10_isIn a1.toInt64 0 8) (fun r1 => if r1 = 0 then (some 0) else (z_gd (z_inb 1 93) (Option.bind (f_X10_has (z_gI u 1 (1 : Int32).toNatClampNeg) a1) (fun r4 => if r4 = 0 then (some 0) else (some 1)))))
set_option maxRecDepth 20000 in
set_option maxHeartbeats 4000000 in
theorem w_X10_isThere (l : Launch) (g : z_G) (a1 : Int32) (u : z_M) {res : Int32} (h : f_X10_isThere a1 u = some res) : z_C l g z_shR yX10_isThere wsX10_isThere 2 [.ref (z_ad g 0), .int a1] u (fun v u' => v = some (.int res) ∧ u' = u) := by
  refine z_C.mk (lv := [(0, .ref (z_ad g 0)), (1, .int a1)]) (cc := cX10_isThere) (nL := 2) (rt := (some .boolean)) rfl (by decide) (Nat.le_of_ble_eq_true rfl) rfl (fun p e R s m args below meth c hR X => ?_)
  unfold f_X10_isThere at h
  obtain ⟨r1, er1, h⟩ := z_bs h
  refine z_iload_n X 1 dX10_isThere_0 rfl rfl (z_i2l X dX10_isThere_1 (z_lconst X (v := 0) dX10_isThere_2 (by decide) (z_ldc2 X dX10_isThere_3 ct85_X10_isThere (z_callSi X (r := r1) (u1 := u) [.long a1.toInt64, .long 0, .long 8] [] (w_X10_isIn l g a1.toInt64 0 8 u er1) gX10_isThere_X10_isIn hy_X10_isIn.2 rfl (z_le1 hR (by decide)) (z_le2 hR (by decide) (by decide)) (Nat.le_of_ble_eq_true rfl) dX10_isThere_6 (z_if_eq X 29 dX10_isThere_9 (by decide) (fun c2 => ?_) (fun c2 => ?_))))))
  · replace h := z_ip c2 h
    refine z_iconst X (v := 0) dX10_isThere_29 (by decide) ?_
    cases h; exact z_zret X rfl rfl dX10_isThere_30 ⟨rfl, rfl⟩
  · replace h := z_in c2 h
    obtain ⟨b3, h⟩ := z_gs h
    obtain ⟨r4, er4, h⟩ := z_bs h
    refine z_aload_n X 0 dX10_isThere_12 rfl rfl (z_getR X (k0 := 1) z_r0 rfl in_X10_isThere_X10 (by decide) rfl rfl lk_X10_isThere_9 dX10_isThere_13 (z_iconst X (v := 1) dX10_isThere_16 (by decide) (z_iald X z_r1 (z_inS b3) dX10_isThere_17 (z_iload_n X 1 dX10_isThere_18 rfl rfl (z_callSi X (r := r4) (u1 := u) [.int (z_gI u 1 (1 : Int32).toNatClampNeg), .int a1] [] (w_X10_has l g (z_gI u 1 (1 : Int32).toNatClampNeg) a1 u er4) gX10_isThere_X10_has hy_X10_has.2 rfl (z_le1 hR (by decide)) (z_le2 hR (by decide) (by decide)) (Nat.le_of_ble_eq_true rfl) dX10_isThere_19 (z_if_eq X 29 dX10_isThere_22 (by decide) (fun c5 => ?_) (fun c5 => ?_)))))))
    · replace h := z_ip c5 h
      refine z_iconst X (v := 0) dX10_isThere_29 (by decide) ?_
      cases h; exact z_zret X rfl rfl dX10_isThere_30 ⟨rfl, rfl⟩
    · replace h := z_in c5 h
      refine z_iconst X (v := 1) dX10_isThere_25 (by decide) (z_goto X 30 dX10_isThere_26 (by decide) ?_)
      cases h; exact z_zret X rfl rfl dX10_isThere_30 ⟨rfl, rfl⟩

theorem hy_X10_isThere : yX10_isThere.cls = RX10 ∧ yX10_isThere.cls ≠ "java/lang/invoke/MethodHandle" ∧ yX10_isThere.cls ≠ "java/lang/invoke/VarHandle" ∧ (parseMethodDescriptor yX10_isThere.desc).map (fun d => d.parameters.length) = some 1 := by decide +kernel
def f_X10_areThere (a1 : Int32) (a2 : Int32) (u : z_M) : Option (Int32) :=
  Option.bind (f_X10_isThere a1 u) (fun r1 => if r1 = 0 then (some 0) else (Option.bind (f_X10_isThere a2 u) (fun r3 => if r3 = 0 then (some 0) else (some 1))))
set_option maxRecDepth 20000 in
set_option maxHeartbeats 4000000 in
theorem w_X10_areThere (l : Launch) (g : z_G) (a1 : Int32) (a2 : Int32) (u : z_M) {res : Int32} (h : f_X10_areThere a1 a2 u = some res) : z_C l g z_shR yX10_areThere wsX10_areThere 3 [.ref (z_ad g 0), .int a1, .int a2] u (fun v u' => v = some (.int res) ∧ u' = u) := by
  refine z_C.mk (lv := [(0, .ref (z_ad g 0)), (1, .int a1), (2, .int a2)]) (cc := cX10_areThere) (nL := 3) (rt := (some .boolean)) rfl (by decide) (Nat.le_of_ble_eq_true rfl) rfl (fun p e R s m args below meth c hR X => ?_)
  unfold f_X10_areThere at h
  obtain ⟨r1, er1, h⟩ := z_bs h
  refine z_aload_n X 0 dX10_areThere_0 rfl rfl (z_iload_n X 1 dX10_areThere_1 rfl rfl (z_callVi X (r := r1) (u1 := u) [.int a1] [] (w_X10_isThere l g a1 u er1) z_r0 rfl gX10_areThere_X10_isThere hy_X10_isThere rfl (z_le1 hR (by decide)) (z_le2 hR (by decide) (by decide)) (Nat.le_of_ble_eq_true rfl) dX10_areThere_2 (z_if_eq X 20 dX10_areThere_5 (by decide) (fun c2 => ?_) (fun c2 => ?_))))
  · replace h := z_ip c2 h
    refine z_iconst X (v := 0) dX10_areThere_20 (by decide) ?_
    cases h; exact z_zret X rfl rfl dX10_areThere_21 ⟨rfl, rfl⟩
  · replace h := z_in c2 h
    obtain ⟨r3, er3, h⟩ := z_bs h
    refine z_aload_n X 0 dX10_areThere_8 rfl rfl (z_iload_n X 2 dX10_areThere_9 rfl rfl (z_callVi X (r := r3) (u1 := u) [.int a2] [] (w_X10_isThere l g a2 u er3) z_r0 rfl gX10_areThere_X10_isThere hy_X10_isThere rfl (z_le1 hR (by decide)) (z_le2 hR (by decide) (by decide)) (Nat.le_of_ble_eq_true rfl) dX10_areThere_10 (z_if_eq X 20 dX10_areThere_13 (by decide) (fun c4 => ?_) (fun c4 => ?_))))
    · replace h := z_ip c4 h
      refine z_iconst X (v := 0) dX10_areThere_20 (by decide) ?_
      cases h; exact z_zret X rfl rfl dX10_areThere_21 ⟨rfl, rfl⟩
    · replace h := z_in c4 h
      refine z_iconst X (v := 1) dX10_areThere_16 (by decide) (z_goto X 21 dX10_areThere_17 (by decide) ?_)
      cases h; exact z_zret X rfl rfl dX10_areThere_21 ⟨rfl, rfl⟩

theorem lk_X10_isBelow_9 : (Cond.fieldLink RX10 9 RX10 (TX10 1).2.1 (TX10 1).2.2.1) ∈ wsX10_isBelow := by decide +kernel
theorem in_X10_isBelow_X10 : ∀ w ∈ u_ws RX10 TX10 30, w ∈ wsX10_isBelow := by decide +kernel
def f_X10_isBelow (a1 : Int32) (a2 : Int32) (u : z_M) : Option (Int32) :=
  z_gd (z_inb (3 + a1) 93) (Option.bind (f_X10_has (z_gI u 1 (3 + a1).toNatClampNeg) a2) (fun r2 => z_gd (decide (r2 = 0 ∨ r2 = 1)) (some r2)))
set_option maxRecDepth 20000 in
set_option maxHeartbeats 4000000 in
theorem w_X10_isBelow (l : Launch) (g : z_G) (a1 : Int32) (a2 : Int32) (u : z_M) {res : Int32} (h : f_X10_isBelow a1 a2 u = some res) : z_C l g z_shR yX10_isBelow wsX10_isBelow 2 [.ref (z_ad g 0), .int a1, .int a2] u (fun v u' => v = some (.int res) ∧ u' = u) := by
  refine z_C.mk (lv := [(0, .ref (z_ad g 0)), (1, .int a1), (2, .int a2)]) (cc := cX10_isBelow) (nL := 3) (rt := (some .boolean)) rfl (by decide) (Nat.le_of_ble_eq_true rfl) rfl (fun p e R s m args below meth c hR X => ?_)
  unfold f_X10_isBelow at h
  obtain ⟨b1, h⟩ := z_gs h
  obtain ⟨r2, er2, h⟩ := z_bs h
  obtain ⟨b3, h⟩ := z_gs h
  refine z_aload_n X 0 dX10_isBelow_0 rfl rfl (z_getR X (k0 := 1) z_r0 rfl in_X10_isBelow_X10 (by decide) rfl rfl lk_X10_isBelow_9 dX10_isBelow_1 (z_iconst X (v := 3) dX10_isBelow_4 (by decide) (z_iload_n X 1 dX10_isBelow_5 rfl rfl (z_iadd X dX10_isBelow_6 (z_iald X z_r1 (z_inS b1) dX10_isBelow_7 (z_iload_n X 2 dX10_isBelow_8 rfl rfl (z_callSi X (r := r2) (u1 := u) [.int (z_gI u 1 (3 + a1).toNatClampNeg), .int a2] [] (w_X10_has l g (z_gI u 1 (3 + a1).toNatClampNeg) a2 u er2) gX10_isBelow_X10_has hy_X10_has.2 rfl (z_le1 hR (by decide)) (z_le2 hR (by decide) (by decide)) (Nat.le_of_ble_eq_true rfl) dX10_isBelow_9 ?_)))))))
  cases h; exact z_zret X rfl (z_nz b3) dX10_isBelow_12 ⟨rfl, rfl⟩

theorem lk_X10_above_9 : (Cond.fieldLink RX10 9 RX10 (TX10 1).2.1 (TX10 1).2.2.1) ∈ wsX10_above := by decide +kernel
theorem in_X10_above_X10 : ∀ w ∈ u_ws RX10 TX10 30, w ∈ wsX10_above := by decide +kernel
def f_X10_above (a1 : Int32) (u : z_M) : Option (Int32) :=
  z_gd (z_inb (3 + a1) 93) (z_gd (z_inb 1 93) (some ((z_gI u 1 (3 + a1).toNatClampNeg) &&& (z_gI u 1 (1 : Int32).toNatClampNeg))))
set_option maxRecDepth 20000 in
set_option maxHeartbeats 4000000 in
theorem w_X10_above (l : Launch) (g : z_G) (a1 : Int32) (u : z_M) {res : Int32} (h : f_X10_above a1 u = some res) : z_C l g z_shR yX10_above wsX10_above 1 [.ref (z_ad g 0), .int a1] u (fun v u' => v = some (.int res) ∧ u' = u) := by
  refine z_C.mk (lv := [(0, .ref (z_ad g 0)), (1, .int a1)]) (cc := cX10_above) (nL := 2) (rt := (some .int)) rfl (by decide) (Nat.le_of_ble_eq_true rfl) rfl (fun p e R s m args below meth c hR X => ?_)
  unfold f_X10_above at h
  obtain ⟨b1, h⟩ := z_gs h
  obtain ⟨b2, h⟩ := z_gs h
  refine z_aload_n X 0 dX10_above_0 rfl rfl (z_getR X (k0 := 1) z_r0 rfl in_X10_above_X10 (by decide) rfl rfl lk_X10_above_9 dX10_above_1 (z_iconst X (v := 3) dX10_above_4 (by decide) (z_iload_n X 1 dX10_above_5 rfl rfl (z_iadd X dX10_above_6 (z_iald X z_r1 (z_inS b1) dX10_above_7 (z_aload_n X 0 dX10_above_8 rfl rfl (z_getR X (k0 := 1) z_r0 rfl in_X10_above_X10 (by decide) rfl rfl lk_X10_above_9 dX10_above_9 (z_iconst X (v := 1) dX10_above_12 (by decide) (z_iald X z_r1 (z_inS b2) dX10_above_13 (z_iand X dX10_above_14 ?_))))))))))
  cases h; exact z_iret X rfl dX10_above_15 ⟨rfl, rfl⟩

theorem lk_X10_below_9 : (Cond.fieldLink RX10 9 RX10 (TX10 1).2.1 (TX10 1).2.2.1) ∈ wsX10_below := by decide +kernel
theorem in_X10_below_X10 : ∀ w ∈ u_ws RX10 TX10 30, w ∈ wsX10_below := by decide +kernel
theorem hy_X10_isBelow : yX10_isBelow.cls = RX10 ∧ yX10_isBelow.cls ≠ "java/lang/invoke/MethodHandle" ∧ yX10_isBelow.cls ≠ "java/lang/invoke/VarHandle" ∧ (parseMethodDescriptor yX10_isBelow.desc).map (fun d => d.parameters.length) = some 2 := by decide +kernel
def b_X10_below_4 (x1 : Int32) (u : z_M) : (Int32 × Int32) → ((Int32 × Int32) → Option (Int32)) → (Int32 → Option (Int32)) → Option (Int32) := fun q kb kx =>
  if 9 ≤ q.2 then (kx q.1) else (z_gd (z_inb 1 93) (Option.bind (f_X10_has (z_gI u 1 (1 : Int32).toNatClampNeg) q.2) (fun r3 => if r3 = 0 then (z_lt (q.1 ||| 0) (fun v5 => kb (v5, q.2 + 1))) else (Option.bind (f_X10_isBelow q.2 x1 u) (fun r6 => if r6 = 0 then (z_lt (q.1 ||| 0) (fun v8 => kb (v8, q.2 + 1))) else (z_lt (q.1 ||| (1 <<< (q.2 &&& 31))) (fun v9 => kb (v9, q.2 + 1))))))))
def f_X10_below (a1 : Int32) (u : z_M) : Option (Int32) :=
  z_lp (b_X10_below_4 a1 u) z_F (0, 0) (fun t10 => some t10)
set_option maxRecDepth 20000 in
set_option maxHeartbeats 4000000 in
theorem wb_X10_below_4 {p : Program} {l : Launch} {e : Env} {R : Room} {s : State} {m : MethodId} {args : Array Value} {below : List Frame} {meth : Method} {c : Code} {g : z_G} {u : z_M} {res : Int32} (hR : R = z_rm 3) (X : z_X p R s m args meth c cX10_below 4 RX10 wsX10_below (some .int) g z_shR) (x1 : Int32) (q : Int32 × Int32) (kb : (Int32 × Int32) → Option (Int32)) (kx : Int32 → Option (Int32)) (hkb : ∀ q, kb q = some res → z_V p l e R s m args below meth c 4 g z_shR (MQ below (z_Qc g z_shR (fun v u' => v = some (.int res) ∧ u' = u)) args s 0 0 (z_A g z_shR)) 4 [(0, .ref (z_ad g 0)), (1, .int x1), (2, .int q.1), (3, .int q.2)] [] u) (hkx : ∀ t, kx t = some res → z_V p l e R s m args below meth c 4 g z_shR (MQ below (z_Qc g z_shR (fun v u' => v = some (.int res) ∧ u' = u)) args s 0 0 (z_A g z_shR)) 48 [(2, .int t)] [] u) (h : b_X10_below_4 x1 u q kb kx = some res) : z_V p l e R s m args below meth c 4 g z_shR (MQ below (z_Qc g z_shR (fun v u' => v = some (.int res) ∧ u' = u)) args s 0 0 (z_A g z_shR)) 4 [(0, .ref (z_ad g 0)), (1, .int x1), (2, .int q.1), (3, .int q.2)] [] u := by
  unfold b_X10_below_4 at h
  refine z_iload_n X 3 dX10_below_4 rfl rfl (z_bipush X (v := 9) dX10_below_5 (by decide) (z_icmp_ge X 48 dX10_below_7 (by decide) (fun c1 => ?_) (fun c1 => ?_)))
  · replace h := z_ip c1 h
    refine z_sub [2] [(2, .int q.1)] rfl ?_
    exact hkx q.1 h
  · replace h := z_in c1 h
    obtain ⟨b2, h⟩ := z_gs h
    obtain ⟨r3, er3, h⟩ := z_bs h
    refine z_iload_n X 2 dX10_below_10 rfl rfl (z_aload_n X 0 dX10_below_11 rfl rfl (z_getR X (k0 := 1) z_r0 rfl in_X10_below_X10 (by decide) rfl rfl lk_X10_below_9 dX10_below_12 (z_iconst X (v := 1) dX10_below_15 (by decide) (z_iald X z_r1 (z_inS b2) dX10_below_16 (z_iload_n X 3 dX10_below_17 rfl rfl (z_callSi X (r := r3) (u1 := u) [.int (z_gI u 1 (1 : Int32).toNatClampNeg), .int q.2] [.int q.1] (w_X10_has l g (z_gI u 1 (1 : Int32).toNatClampNeg) q.2 u er3) gX10_below_X10_has hy_X10_has.2 rfl (z_le1 hR (by decide)) (z_le2 hR (by decide) (by decide)) (Nat.le_of_ble_eq_true rfl) dX10_below_18 (z_if_eq X 39 dX10_below_21 (by decide) (fun c4 => ?_) (fun c4 => ?_))))))))
    · replace h := z_ip c4 h
      obtain ⟨v5, ev5, h⟩ := z_ls h
      refine z_iconst X (v := 0) dX10_below_39 (by decide) (z_ior X dX10_below_40 (z_ti ev5 (z_istore_n X [(2, .int v5), (0, .ref (z_ad g 0)), (1, .int x1), (3, .int q.2)] dX10_below_41 rfl (by decide) rfl (z_iinc X (v := q.2 + 1) 3 [(3, .int (q.2 + 1)), (2, .int v5), (0, .ref (z_ad g 0)), (1, .int x1)] dX10_below_42 rfl rfl (by decide) rfl (z_goto X 4 dX10_below_45 (by decide) (z_sub [2, 3, 1, 0] [(0, .ref (z_ad g 0)), (1, .int x1), (2, .int v5), (3, .int (q.2 + 1))] rfl ?_))))))
      exact hkb (v5, q.2 + 1) h
    · replace h := z_in c4 h
      obtain ⟨r6, er6, h⟩ := z_bs h
      refine z_aload_n X 0 dX10_below_24 rfl rfl (z_iload_n X 3 dX10_below_25 rfl rfl (z_iload_n X 1 dX10_below_26 rfl rfl (z_callVi X (r := r6) (u1 := u) [.int q.2, .int x1] [.int q.1] (w_X10_isBelow l g q.2 x1 u er6) z_r0 rfl gX10_below_X10_isBelow hy_X10_isBelow rfl (z_le1 hR (by decide)) (z_le2 hR (by decide) (by decide)) (Nat.le_of_ble_eq_true rfl) dX10_below_27 (z_if_eq X 39 dX10_below_30 (by decide) (fun c7 => ?_) (fun c7 => ?_)))))
      · replace h := z_ip c7 h
        obtain ⟨v8, ev8, h⟩ := z_ls h
        refine z_iconst X (v := 0) dX10_below_39 (by decide) (z_ior X dX10_below_40 (z_ti ev8 (z_istore_n X [(2, .int v8), (0, .ref (z_ad g 0)), (1, .int x1), (3, .int q.2)] dX10_below_41 rfl (by decide) rfl (z_iinc X (v := q.2 + 1) 3 [(3, .int (q.2 + 1)), (2, .int v8), (0, .ref (z_ad g 0)), (1, .int x1)] dX10_below_42 rfl rfl (by decide) rfl (z_goto X 4 dX10_below_45 (by decide) (z_sub [2, 3, 1, 0] [(0, .ref (z_ad g 0)), (1, .int x1), (2, .int v8), (3, .int (q.2 + 1))] rfl ?_))))))
        exact hkb (v8, q.2 + 1) h
      · replace h := z_in c7 h
        obtain ⟨v9, ev9, h⟩ := z_ls h
        refine z_iconst X (v := 1) dX10_below_33 (by decide) (z_iload_n X 3 dX10_below_34 rfl rfl (z_ishl X dX10_below_35 (z_goto X 40 dX10_below_36 (by decide) (z_ior X dX10_below_40 (z_ti ev9 (z_istore_n X [(2, .int v9), (0, .ref (z_ad g 0)), (1, .int x1), (3, .int q.2)] dX10_below_41 rfl (by decide) rfl (z_iinc X (v := q.2 + 1) 3 [(3, .int (q.2 + 1)), (2, .int v9), (0, .ref (z_ad g 0)), (1, .int x1)] dX10_below_42 rfl rfl (by decide) rfl (z_goto X 4 dX10_below_45 (by decide) (z_sub [2, 3, 1, 0] [(0, .ref (z_ad g 0)), (1, .int x1), (2, .int v9), (3, .int (q.2 + 1))] rfl ?_)))))))))
        exact hkb (v9, q.2 + 1) h
set_option maxRecDepth 20000 in
set_option maxHeartbeats 4000000 in
theorem w_X10_below (l : Launch) (g : z_G) (a1 : Int32) (u : z_M) {res : Int32} (h : f_X10_below a1 u = some res) : z_C l g z_shR yX10_below wsX10_below 3 [.ref (z_ad g 0), .int a1] u (fun v u' => v = some (.int res) ∧ u' = u) := by
  refine z_C.mk (lv := [(0, .ref (z_ad g 0)), (1, .int a1)]) (cc := cX10_below) (nL := 4) (rt := (some .int)) rfl (by decide) (Nat.le_of_ble_eq_true rfl) rfl (fun p e R s m args below meth c hR X => ?_)
  unfold f_X10_below at h
  refine z_iconst X (v := 0) dX10_below_0 (by decide) (z_istore_n X [(2, .int 0), (0, .ref (z_ad g 0)), (1, .int a1)] dX10_below_1 rfl (by decide) rfl (z_iconst X (v := 0) dX10_below_2 (by decide) (z_istore_n X [(3, .int 0), (2, .int 0), (0, .ref (z_ad g 0)), (1, .int a1)] dX10_below_3 rfl (by decide) rfl (z_sub [2, 3, 1, 0] [(0, .ref (z_ad g 0)), (1, .int a1), (2, .int 0), (3, .int 0)] rfl ?_))))
  have hw := z_lp_w (fun q9 kb9 kx9 h1 h2 h3 => wb_X10_below_4 (l := l) (e := e) (below := below) (u := u) hR X a1 q9 kb9 kx9 h1 h2 h3) z_F _ _ h
  refine hw (fun t10 h => ?_)
  refine z_iload_n X 0 dX10_below_48 rfl rfl ?_
  cases h; exact z_iret X rfl dX10_below_49 ⟨rfl, rfl⟩

theorem hy_X10_above : yX10_above.cls = RX10 ∧ yX10_above.cls ≠ "java/lang/invoke/MethodHandle" ∧ yX10_above.cls ≠ "java/lang/invoke/VarHandle" ∧ (parseMethodDescriptor yX10_above.desc).map (fun d => d.parameters.length) = some 1 := by decide +kernel
theorem hy_X10_below : yX10_below.cls = RX10 ∧ yX10_below.cls ≠ "java/lang/invoke/MethodHandle" ∧ yX10_below.cls ≠ "java/lang/invoke/VarHandle" ∧ (parseMethodDescriptor yX10_below.desc).map (fun d => d.parameters.length) = some 1 := by decide +kernel
def f_X10_covers (a1 : Int32) (a2 : Int32) (u : z_M) : Option (Int32) :=
  Option.bind (f_X10_isBelow a2 a1 u) (fun r1 => if r1 = 0 then (some 0) else (Option.bind (f_X10_above a2 u) (fun r3 => Option.bind (f_X10_below a1 u) (fun r4 => if (r3 &&& r4) = 0 then (some 1) else (some 0)))))
set_option maxRecDepth 20000 in
set_option maxHeartbeats 4000000 in
theorem w_X10_covers (l : Launch) (g : z_G) (a1 : Int32) (a2 : Int32) (u : z_M) {res : Int32} (h : f_X10_covers a1 a2 u = some res) : z_C l g z_shR yX10_covers wsX10_covers 4 [.ref (z_ad g 0), .int a1, .int a2] u (fun v u' => v = some (.int res) ∧ u' = u) := by
  refine z_C.mk (lv := [(0, .ref (z_ad g 0)), (1, .int a1), (2, .int a2)]) (cc := cX10_covers) (nL := 3) (rt := (some .boolean)) rfl (by decide) (Nat.le_of_ble_eq_true rfl) rfl (fun p e R s m args below meth c hR X => ?_)
  unfold f_X10_covers at h
  obtain ⟨r1, er1, h⟩ := z_bs h
  refine z_aload_n X 0 dX10_covers_0 rfl rfl (z_iload_n X 2 dX10_covers_1 rfl rfl (z_iload_n X 1 dX10_covers_2 rfl rfl (z_callVi X (r := r1) (u1 := u) [.int a2, .int a1] [] (w_X10_isBelow l g a2 a1 u er1) z_r0 rfl gX10_covers_X10_isBelow hy_X10_isBelow rfl (z_le1 hR (by decide)) (z_le2 hR (by decide) (by decide)) (Nat.le_of_ble_eq_true rfl) dX10_covers_3 (z_if_eq X 27 dX10_covers_6 (by decide) (fun c2 => ?_) (fun c2 => ?_)))))
  · replace h := z_ip c2 h
    refine z_iconst X (v := 0) dX10_covers_27 (by decide) ?_
    cases h; exact z_zret X rfl rfl dX10_covers_28 ⟨rfl, rfl⟩
  · replace h := z_in c2 h
    obtain ⟨r3, er3, h⟩ := z_bs h
    obtain ⟨r4, er4, h⟩ := z_bs h
    refine z_aload_n X 0 dX10_covers_9 rfl rfl (z_iload_n X 2 dX10_covers_10 rfl rfl (z_callVi X (r := r3) (u1 := u) [.int a2] [] (w_X10_above l g a2 u er3) z_r0 rfl gX10_covers_X10_above hy_X10_above rfl (z_le1 hR (by decide)) (z_le2 hR (by decide) (by decide)) (Nat.le_of_ble_eq_true rfl) dX10_covers_11 (z_aload_n X 0 dX10_covers_14 rfl rfl (z_iload_n X 1 dX10_covers_15 rfl rfl (z_callVi X (r := r4) (u1 := u) [.int a1] [.int r3] (w_X10_below l g a1 u er4) z_r0 rfl gX10_covers_X10_below hy_X10_below rfl (z_le1 hR (by decide)) (z_le2 hR (by decide) (by decide)) (Nat.le_of_ble_eq_true rfl) dX10_covers_16 (z_iand X dX10_covers_19 (z_if_ne X 27 dX10_covers_20 (by decide) (fun c5 => ?_) (fun c5 => ?_))))))))
    · replace h := z_in c5 h
      refine z_iconst X (v := 0) dX10_covers_27 (by decide) ?_
      cases h; exact z_zret X rfl rfl dX10_covers_28 ⟨rfl, rfl⟩
    · replace h := z_ip c5 h
      refine z_iconst X (v := 1) dX10_covers_23 (by decide) (z_goto X 28 dX10_covers_24 (by decide) ?_)
      cases h; exact z_zret X rfl rfl dX10_covers_28 ⟨rfl, rfl⟩

theorem lk_X10_told_9 : (Cond.fieldLink RX10 9 RX10 (TX10 1).2.1 (TX10 1).2.2.1) ∈ wsX10_told := by decide +kernel
theorem in_X10_told_X10 : ∀ w ∈ u_ws RX10 TX10 30, w ∈ wsX10_told := by decide +kernel
def f_X10_told (a1 : Int32) (a2 : Int32) (u : z_M) : Option (Int32) :=
  z_gd (z_inb ((12 + (9 * a1)) + a2) 93) (some (z_gI u 1 ((12 + (9 * a1)) + a2).toNatClampNeg))
set_option maxRecDepth 20000 in
set_option maxHeartbeats 4000000 in
theorem w_X10_told (l : Launch) (g : z_G) (a1 : Int32) (a2 : Int32) (u : z_M) {res : Int32} (h : f_X10_told a1 a2 u = some res) : z_C l g z_shR yX10_told wsX10_told 1 [.ref (z_ad g 0), .int a1, .int a2] u (fun v u' => v = some (.int res) ∧ u' = u) := by
  refine z_C.mk (lv := [(0, .ref (z_ad g 0)), (1, .int a1), (2, .int a2)]) (cc := cX10_told) (nL := 3) (rt := (some .int)) rfl (by decide) (Nat.le_of_ble_eq_true rfl) rfl (fun p e R s m args below meth c hR X => ?_)
  unfold f_X10_told at h
  obtain ⟨b1, h⟩ := z_gs h
  refine z_aload_n X 0 dX10_told_0 rfl rfl (z_getR X (k0 := 1) z_r0 rfl in_X10_told_X10 (by decide) rfl rfl lk_X10_told_9 dX10_told_1 (z_bipush X (v := 12) dX10_told_4 (by decide) (z_bipush X (v := 9) dX10_told_6 (by decide) (z_iload_n X 1 dX10_told_8 rfl rfl (z_imul X dX10_told_9 (z_iadd X dX10_told_10 (z_iload_n X 2 dX10_told_11 rfl rfl (z_iadd X dX10_told_12 (z_iald X z_r1 (z_inS b1) dX10_told_13 ?_)))))))))
  cases h; exact z_iret X rfl dX10_told_14 ⟨rfl, rfl⟩

theorem lk_X10_labelBy_9 : (Cond.fieldLink RX10 9 RX10 (TX10 1).2.1 (TX10 1).2.2.1) ∈ wsX10_labelBy := by decide +kernel
theorem in_X10_labelBy_X10 : ∀ w ∈ u_ws RX10 TX10 30, w ∈ wsX10_labelBy := by decide +kernel
theorem hy_X10_told : yX10_told.cls = RX10 ∧ yX10_told.cls ≠ "java/lang/invoke/MethodHandle" ∧ yX10_told.cls ≠ "java/lang/invoke/VarHandle" ∧ (parseMethodDescriptor yX10_told.desc).map (fun d => d.parameters.length) = some 2 := by decide +kernel
def f_X10_labelBy (a1 : Int32) (a2 : Int32) (u : z_M) : Option (Int32) :=
  z_gd (z_inb 2 93) (if (z_gI u 1 (2 : Int32).toNatClampNeg) = 0 then (Option.bind (f_X10_told a1 a2 u) (fun r2 => some r2)) else (if (z_gI u 1 (2 : Int32).toNatClampNeg) = 1 then (some a2) else (if (z_gI u 1 (2 : Int32).toNatClampNeg) = 2 then (if a1 ≤ a2 then (some a2) else (some a1)) else (if a1 ≤ a2 then (some (a2 - a1)) else (some (a1 - a2))))))
set_option maxRecDepth 20000 in
set_option maxHeartbeats 4000000 in
theorem w_X10_labelBy (l : Launch) (g : z_G) (a1 : Int32) (a2 : Int32) (u : z_M) {res : Int32} (h : f_X10_labelBy a1 a2 u = some res) : z_C l g z_shR yX10_labelBy wsX10_labelBy 2 [.ref (z_ad g 0), .int a1, .int a2] u (fun v u' => v = some (.int res) ∧ u' = u) := by
  refine z_C.mk (lv := [(0, .ref (z_ad g 0)), (1, .int a1), (2, .int a2)]) (cc := cX10_labelBy) (nL := 3) (rt := (some .int)) rfl (by decide) (Nat.le_of_ble_eq_true rfl) rfl (fun p e R s m args below meth c hR X => ?_)
  unfold f_X10_labelBy at h
  obtain ⟨b1, h⟩ := z_gs h
  refine z_aload_n X 0 dX10_labelBy_0 rfl rfl (z_getR X (k0 := 1) z_r0 rfl in_X10_labelBy_X10 (by decide) rfl rfl lk_X10_labelBy_9 dX10_labelBy_1 (z_iconst X (v := 2) dX10_labelBy_4 (by decide) (z_iald X z_r1 (z_inS b1) dX10_labelBy_5 ?_)))
  by_cases c5 : (z_gI u 1 (2 : Int32).toNatClampNeg) = 0
  · replace h := z_ip c5 h
    refine z_tabIn X 32 dX10_labelBy_6 (by rw [c5]; decide) (by rw [c5]; decide) (by rw [c5]; rfl) (by decide) ?_
    obtain ⟨r2, er2, h⟩ := z_bs h
    refine z_aload_n X 0 dX10_labelBy_32 rfl rfl (z_iload_n X 1 dX10_labelBy_33 rfl rfl (z_iload_n X 2 dX10_labelBy_34 rfl rfl (z_callVi X (r := r2) (u1 := u) [.int a1, .int a2] [] (w_X10_told l g a1 a2 u er2) z_r0 rfl gX10_labelBy_X10_told hy_X10_told rfl (z_le1 hR (by decide)) (z_le2 hR (by decide) (by decide)) (Nat.le_of_ble_eq_true rfl) dX10_labelBy_35 ?_)))
    cases h; exact z_iret X rfl dX10_labelBy_38 ⟨rfl, rfl⟩
  replace h := z_in c5 h
  by_cases c6 : (z_gI u 1 (2 : Int32).toNatClampNeg) = 1
  · replace h := z_ip c6 h
    refine z_tabIn X 39 dX10_labelBy_6 (by rw [c6]; decide) (by rw [c6]; decide) (by rw [c6]; rfl) (by decide) ?_
    refine z_iload_n X 2 dX10_labelBy_39 rfl rfl ?_
    cases h; exact z_iret X rfl dX10_labelBy_40 ⟨rfl, rfl⟩
  replace h := z_in c6 h
  by_cases c7 : (z_gI u 1 (2 : Int32).toNatClampNeg) = 2
  · replace h := z_ip c7 h
    refine z_tabIn X 41 dX10_labelBy_6 (by rw [c7]; decide) (by rw [c7]; decide) (by rw [c7]; rfl) (by decide) ?_
    refine z_iload_n X 1 dX10_labelBy_41 rfl rfl (z_iload_n X 2 dX10_labelBy_42 rfl rfl (z_icmp_le X 50 dX10_labelBy_43 (by decide) (fun c3 => ?_) (fun c3 => ?_)))
    · replace h := z_ip c3 h
      refine z_iload_n X 2 dX10_labelBy_50 rfl rfl ?_
      cases h; exact z_iret X rfl dX10_labelBy_51 ⟨rfl, rfl⟩
    · replace h := z_in c3 h
      refine z_iload_n X 1 dX10_labelBy_46 rfl rfl (z_goto X 51 dX10_labelBy_47 (by decide) ?_)
      cases h; exact z_iret X rfl dX10_labelBy_51 ⟨rfl, rfl⟩
  replace h := z_in c7 h
  refine z_tabOut X 52 dX10_labelBy_6 (by have kc5 := lv_neT (a := 0) c5 (by decide); have kc6 := lv_neT (a := 1) c6 (by decide); have kc7 := lv_neT (a := 2) c7 (by decide); omega) (by decide) ?_
  refine z_iload_n X 1 dX10_labelBy_52 rfl rfl (z_iload_n X 2 dX10_labelBy_53 rfl rfl (z_icmp_le X 63 dX10_labelBy_54 (by decide) (fun c4 => ?_) (fun c4 => ?_)))
  · replace h := z_ip c4 h
    refine z_iload_n X 2 dX10_labelBy_63 rfl rfl (z_iload_n X 1 dX10_labelBy_64 rfl rfl (z_isub X dX10_labelBy_65 ?_))
    cases h; exact z_iret X rfl dX10_labelBy_66 ⟨rfl, rfl⟩
  · replace h := z_in c4 h
    refine z_iload_n X 1 dX10_labelBy_57 rfl rfl (z_iload_n X 2 dX10_labelBy_58 rfl rfl (z_isub X dX10_labelBy_59 (z_goto X 66 dX10_labelBy_60 (by decide) ?_)))
    cases h; exact z_iret X rfl dX10_labelBy_66 ⟨rfl, rfl⟩

theorem lk_X10_remember_113 : (Cond.fieldLink RX10 113 RX10 (TX10 4).2.1 (TX10 4).2.2.1) ∈ wsX10_remember := by decide +kernel
theorem in_X10_remember_X10 : ∀ w ∈ u_ws RX10 TX10 30, w ∈ wsX10_remember := by decide +kernel
theorem lk_X10_remember_18 : (Cond.fieldLink RX10 18 RX10 (TX10 3).2.1 (TX10 3).2.2.1) ∈ wsX10_remember := by decide +kernel
theorem lk_X10_remember_9 : (Cond.fieldLink RX10 9 RX10 (TX10 1).2.1 (TX10 1).2.2.1) ∈ wsX10_remember := by decide +kernel
def b_X10_remember_21  : (Int32 × z_M) → ((Int32 × z_M) → Option (z_M)) → (z_M → Option (z_M)) → Option (z_M) := fun q kb kx =>
  if (93 * (z_gI q.2 0 4)) ≤ q.1 then (kx q.2) else (z_gd (z_inb (q.1 + 93) 1488) (z_gd (z_inb q.1 1488) (z_lt (z_sI q.2 3 q.1.toNatClampNeg (z_gI q.2 3 (q.1 + 93).toNatClampNeg)) (fun u6 => kb (q.1 + 1, u6)))))
def b_X10_remember_55  : (Int32 × z_M) → ((Int32 × z_M) → Option (z_M)) → (z_M → Option (z_M)) → Option (z_M) := fun q kb kx =>
  if 93 ≤ q.1 then (kx q.2) else (z_gd (z_inb q.1 93) (z_gd (z_inb ((93 * (z_gI q.2 0 4)) + q.1) 1488) (z_lt (z_sI q.2 3 ((93 * (z_gI q.2 0 4)) + q.1).toNatClampNeg (z_gI q.2 1 q.1.toNatClampNeg)) (fun u11 => kb (q.1 + 1, u11)))))
def f_X10_remember (u : z_M) : Option (z_M) :=
  if (z_gI u 0 4) = 16 then (z_lt (z_sI u 0 4 ((z_gI u 0 4) - 1)) (fun u2 => z_lp b_X10_remember_21 z_F (0, u2) (fun t7 => z_lp b_X10_remember_55 z_F (0, t7) (fun t12 => z_lt (z_sI t12 0 4 ((z_gI t12 0 4) + 1)) (fun u13 => some u13))))) else (z_lp b_X10_remember_55 z_F (0, u) (fun t14 => z_lt (z_sI t14 0 4 ((z_gI t14 0 4) + 1)) (fun u15 => some u15)))
set_option maxRecDepth 20000 in
set_option maxHeartbeats 4000000 in
theorem wb_X10_remember_21 {p : Program} {l : Launch} {e : Env} {R : Room} {s : State} {m : MethodId} {args : Array Value} {below : List Frame} {meth : Method} {c : Code} {g : z_G} {u : z_M} {res : z_M} (hR : R = z_rm 1) (X : z_X p R s m args meth c cX10_remember 2 RX10 wsX10_remember none g z_shR)  (q : Int32 × z_M) (kb : (Int32 × z_M) → Option (z_M)) (kx : z_M → Option (z_M)) (hkb : ∀ q, kb q = some res → z_V p l e R s m args below meth c 2 g z_shR (MQ below (z_Qc g z_shR (fun v u' => v = none ∧ u' = res)) args s 0 0 (z_A g z_shR)) 21 [(0, .ref (z_ad g 0)), (1, .int q.1)] [] q.2) (hkx : ∀ t, kx t = some res → z_V p l e R s m args below meth c 2 g z_shR (MQ below (z_Qc g z_shR (fun v u' => v = none ∧ u' = res)) args s 0 0 (z_A g z_shR)) 53 [(0, .ref (z_ad g 0))] [] t) (h : b_X10_remember_21 q kb kx = some res) : z_V p l e R s m args below meth c 2 g z_shR (MQ below (z_Qc g z_shR (fun v u' => v = none ∧ u' = res)) args s 0 0 (z_A g z_shR)) 21 [(0, .ref (z_ad g 0)), (1, .int q.1)] [] q.2 := by
  unfold b_X10_remember_21 at h
  refine z_iload_n X 1 dX10_remember_21 rfl rfl (z_bipush X (v := 93) dX10_remember_22 (by decide) (z_aload_n X 0 dX10_remember_24 rfl rfl (z_getI X (k0 := 4) z_r0 rfl in_X10_remember_X10 (by decide) rfl rfl lk_X10_remember_113 dX10_remember_25 (z_imul X dX10_remember_28 (z_icmp_ge X 53 dX10_remember_29 (by decide) (fun c3 => ?_) (fun c3 => ?_))))))
  · replace h := z_ip c3 h
    refine z_sub [0] [(0, .ref (z_ad g 0))] rfl ?_
    exact hkx q.2 h
  · replace h := z_in c3 h
    obtain ⟨b4, h⟩ := z_gs h
    obtain ⟨b5, h⟩ := z_gs h
    obtain ⟨u6, eu6, h⟩ := z_ls h
    refine z_aload_n X 0 dX10_remember_32 rfl rfl (z_getR X (k0 := 3) z_r0 rfl in_X10_remember_X10 (by decide) rfl rfl lk_X10_remember_18 dX10_remember_33 (z_iload_n X 1 dX10_remember_36 rfl rfl (z_aload_n X 0 dX10_remember_37 rfl rfl (z_getR X (k0 := 3) z_r0 rfl in_X10_remember_X10 (by decide) rfl rfl lk_X10_remember_18 dX10_remember_38 (z_iload_n X 1 dX10_remember_41 rfl rfl (z_bipush X (v := 93) dX10_remember_42 (by decide) (z_iadd X dX10_remember_44 (z_iald X z_r3 (z_inS b4) dX10_remember_45 (z_iast X z_r3 (z_inS b5) dX10_remember_46 (z_nm eu6 (z_iinc X (v := q.1 + 1) 1 [(1, .int (q.1 + 1)), (0, .ref (z_ad g 0))] dX10_remember_47 rfl rfl (by decide) rfl (z_goto X 21 dX10_remember_50 (by decide) (z_sub [1, 0] [(0, .ref (z_ad g 0)), (1, .int (q.1 + 1))] rfl ?_)))))))))))))
    exact hkb (q.1 + 1, u6) h
set_option maxRecDepth 20000 in
set_option maxHeartbeats 4000000 in
theorem wb_X10_remember_55 {p : Program} {l : Launch} {e : Env} {R : Room} {s : State} {m : MethodId} {args : Array Value} {below : List Frame} {meth : Method} {c : Code} {g : z_G} {u : z_M} {res : z_M} (hR : R = z_rm 1) (X : z_X p R s m args meth c cX10_remember 2 RX10 wsX10_remember none g z_shR)  (q : Int32 × z_M) (kb : (Int32 × z_M) → Option (z_M)) (kx : z_M → Option (z_M)) (hkb : ∀ q, kb q = some res → z_V p l e R s m args below meth c 2 g z_shR (MQ below (z_Qc g z_shR (fun v u' => v = none ∧ u' = res)) args s 0 0 (z_A g z_shR)) 55 [(0, .ref (z_ad g 0)), (1, .int q.1)] [] q.2) (hkx : ∀ t, kx t = some res → z_V p l e R s m args below meth c 2 g z_shR (MQ below (z_Qc g z_shR (fun v u' => v = none ∧ u' = res)) args s 0 0 (z_A g z_shR)) 87 [(0, .ref (z_ad g 0))] [] t) (h : b_X10_remember_55 q kb kx = some res) : z_V p l e R s m args below meth c 2 g z_shR (MQ below (z_Qc g z_shR (fun v u' => v = none ∧ u' = res)) args s 0 0 (z_A g z_shR)) 55 [(0, .ref (z_ad g 0)), (1, .int q.1)] [] q.2 := by
  unfold b_X10_remember_55 at h
  refine z_iload_n X 1 dX10_remember_55 rfl rfl (z_bipush X (v := 93) dX10_remember_56 (by decide) (z_icmp_ge X 87 dX10_remember_58 (by decide) (fun c8 => ?_) (fun c8 => ?_)))
  · replace h := z_ip c8 h
    refine z_sub [0] [(0, .ref (z_ad g 0))] rfl ?_
    exact hkx q.2 h
  · replace h := z_in c8 h
    obtain ⟨b9, h⟩ := z_gs h
    obtain ⟨b10, h⟩ := z_gs h
    obtain ⟨u11, eu11, h⟩ := z_ls h
    refine z_aload_n X 0 dX10_remember_61 rfl rfl (z_getR X (k0 := 3) z_r0 rfl in_X10_remember_X10 (by decide) rfl rfl lk_X10_remember_18 dX10_remember_62 (z_bipush X (v := 93) dX10_remember_65 (by decide) (z_aload_n X 0 dX10_remember_67 rfl rfl (z_getI X (k0 := 4) z_r0 rfl in_X10_remember_X10 (by decide) rfl rfl lk_X10_remember_113 dX10_remember_68 (z_imul X dX10_remember_71 (z_iload_n X 1 dX10_remember_72 rfl rfl (z_iadd X dX10_remember_73 (z_aload_n X 0 dX10_remember_74 rfl rfl (z_getR X (k0 := 1) z_r0 rfl in_X10_remember_X10 (by decide) rfl rfl lk_X10_remember_9 dX10_remember_75 (z_iload_n X 1 dX10_remember_78 rfl rfl (z_iald X z_r1 (z_inS b9) dX10_remember_79 (z_iast X z_r3 (z_inS b10) dX10_remember_80 (z_nm eu11 (z_iinc X (v := q.1 + 1) 1 [(1, .int (q.1 + 1)), (0, .ref (z_ad g 0))] dX10_remember_81 rfl rfl (by decide) rfl (z_goto X 55 dX10_remember_84 (by decide) (z_sub [1, 0] [(0, .ref (z_ad g 0)), (1, .int (q.1 + 1))] rfl ?_))))))))))))))))
    exact hkb (q.1 + 1, u11) h
set_option maxRecDepth 20000 in
set_option maxHeartbeats 4000000 in
theorem w_X10_remember (l : Launch) (g : z_G)  (u : z_M) {res : z_M} (h : f_X10_remember u = some res) : z_C l g z_shR yX10_remember wsX10_remember 1 [.ref (z_ad g 0)] u (fun v u' => v = none ∧ u' = res) := by
  refine z_C.mk (lv := [(0, .ref (z_ad g 0))]) (cc := cX10_remember) (nL := 2) (rt := none) rfl (by decide) (Nat.le_of_ble_eq_true rfl) rfl (fun p e R s m args below meth c hR X => ?_)
  unfold f_X10_remember at h
  refine z_aload_n X 0 dX10_remember_0 rfl rfl (z_getI X (k0 := 4) z_r0 rfl in_X10_remember_X10 (by decide) rfl rfl lk_X10_remember_113 dX10_remember_1 (z_bipush X (v := 16) dX10_remember_4 (by decide) (z_icmp_ne X 53 dX10_remember_6 (by decide) (fun c1 => ?_) (fun c1 => ?_))))
  · replace h := z_in c1 h
    refine z_iconst X (v := 0) dX10_remember_53 (by decide) (z_istore_n X [(1, .int 0), (0, .ref (z_ad g 0))] dX10_remember_54 rfl (by decide) rfl (z_sub [1, 0] [(0, .ref (z_ad g 0)), (1, .int 0)] rfl ?_))
    have hw := z_lp_w (fun q9 kb9 kx9 h1 h2 h3 => wb_X10_remember_55 (l := l) (e := e) (below := below) (u := u) hR X q9 kb9 kx9 h1 h2 h3) z_F _ _ h
    refine hw (fun t14 h => ?_)
    obtain ⟨u15, eu15, h⟩ := z_ls h
    refine z_aload_n X 0 dX10_remember_87 rfl rfl (z_dup X dX10_remember_88 rfl (z_getI X (k0 := 4) z_r0 rfl in_X10_remember_X10 (by decide) rfl rfl lk_X10_remember_113 dX10_remember_89 (z_iconst X (v := 1) dX10_remember_92 (by decide) (z_iadd X dX10_remember_93 (z_putI X (k0 := 4) (ty0 := tyX10) z_r0 rfl in_X10_remember_X10 tyX10_ok nmX10 (by decide) rfl rfl rfl rfl rfl lk_X10_remember_113 dX10_remember_94 (z_nm eu15 ?_))))))
    cases h; exact z_vret X rfl dX10_remember_97 ⟨rfl, rfl⟩
  · replace h := z_ip c1 h
    obtain ⟨u2, eu2, h⟩ := z_ls h
    refine z_aload_n X 0 dX10_remember_9 rfl rfl (z_dup X dX10_remember_10 rfl (z_getI X (k0 := 4) z_r0 rfl in_X10_remember_X10 (by decide) rfl rfl lk_X10_remember_113 dX10_remember_11 (z_iconst X (v := 1) dX10_remember_14 (by decide) (z_isub X dX10_remember_15 (z_putI X (k0 := 4) (ty0 := tyX10) z_r0 rfl in_X10_remember_X10 tyX10_ok nmX10 (by decide) rfl rfl rfl rfl rfl lk_X10_remember_113 dX10_remember_16 (z_nm eu2 (z_iconst X (v := 0) dX10_remember_19 (by decide) (z_istore_n X [(1, .int 0), (0, .ref (z_ad g 0))] dX10_remember_20 rfl (by decide) rfl (z_sub [1, 0] [(0, .ref (z_ad g 0)), (1, .int 0)] rfl ?_)))))))))
    have hw := z_lp_w (fun q9 kb9 kx9 h1 h2 h3 => wb_X10_remember_21 (l := l) (e := e) (below := below) (u := u2) hR X q9 kb9 kx9 h1 h2 h3) z_F _ _ h
    refine hw (fun t7 h => ?_)
    refine z_iconst X (v := 0) dX10_remember_53 (by decide) (z_istore_n X [(1, .int 0), (0, .ref (z_ad g 0))] dX10_remember_54 rfl (by decide) rfl (z_sub [1, 0] [(0, .ref (z_ad g 0)), (1, .int 0)] rfl ?_))
    have hw := z_lp_w (fun q9 kb9 kx9 h1 h2 h3 => wb_X10_remember_55 (l := l) (e := e) (below := below) (u := t7) hR X q9 kb9 kx9 h1 h2 h3) z_F _ _ h
    refine hw (fun t12 h => ?_)
    obtain ⟨u13, eu13, h⟩ := z_ls h
    refine z_aload_n X 0 dX10_remember_87 rfl rfl (z_dup X dX10_remember_88 rfl (z_getI X (k0 := 4) z_r0 rfl in_X10_remember_X10 (by decide) rfl rfl lk_X10_remember_113 dX10_remember_89 (z_iconst X (v := 1) dX10_remember_92 (by decide) (z_iadd X dX10_remember_93 (z_putI X (k0 := 4) (ty0 := tyX10) z_r0 rfl in_X10_remember_X10 tyX10_ok nmX10 (by decide) rfl rfl rfl rfl rfl lk_X10_remember_113 dX10_remember_94 (z_nm eu13 ?_))))))
    cases h; exact z_vret X rfl dX10_remember_97 ⟨rfl, rfl⟩

theorem lk_X10_sign_82 : (Cond.fieldLink RX10 82 RX10 (TX10 0).2.1 (TX10 0).2.2.1) ∈ wsX10_sign := by decide +kernel
theorem in_X10_sign_X10 : ∀ w ∈ u_ws RX10 TX10 30, w ∈ wsX10_sign := by decide +kernel
theorem lk_X10_sign_116 : (Cond.fieldLink RX10 116 RX10 (TX10 8).2.1 (TX10 8).2.2.1) ∈ wsX10_sign := by decide +kernel
theorem lk_X10_sign_28 : (Cond.fieldLink RX10 28 RX10 (TX10 7).2.1 (TX10 7).2.2.1) ∈ wsX10_sign := by decide +kernel
def b_X10_sign_22 (x1 : Int32) : (Int32 × z_M) → ((Int32 × z_M) → Option (Int32 × z_M)) → (z_M → Option (Int32 × z_M)) → Option (Int32 × z_M) := fun q kb kx =>
  if q.1 < 0 then (kx q.2) else (z_gd (z_inb (z_gI q.2 0 8) 400) (z_lt (z_sI q.2 6 (z_gI q.2 0 8).toNatClampNeg (vp_nar .byte (((x1.toUInt32 >>> (q.1.toUInt32 &&& Int32.toUInt32 31)).toInt32).toInt8.toInt32))) (fun u5 => z_lt (z_sI u5 0 8 ((z_gI u5 0 8) + 1)) (fun u6 => kb (q.1 + (-8), u6)))))
def f_X10_sign (a1 : Int32) (u : z_M) : Option (Int32 × z_M) :=
  z_lt (z_sI u 0 0 0) (fun u1 => if ((z_gI u1 0 8) + 4) ≤ 400 then (z_lp (b_X10_sign_22 a1) z_F (24, u1) (fun t7 => some (z_gI t7 0 8, t7))) else (some ((-1), u1)))
set_option maxRecDepth 20000 in
set_option maxHeartbeats 4000000 in
theorem wb_X10_sign_22 {p : Program} {l : Launch} {e : Env} {R : Room} {s : State} {m : MethodId} {args : Array Value} {below : List Frame} {meth : Method} {c : Code} {g : z_G} {u : z_M} {res : Int32 × z_M} (hR : R = z_rm 1) (X : z_X p R s m args meth c cX10_sign 3 RX10 wsX10_sign (some .int) g z_shR) (x1 : Int32) (q : Int32 × z_M) (kb : (Int32 × z_M) → Option (Int32 × z_M)) (kx : z_M → Option (Int32 × z_M)) (hkb : ∀ q, kb q = some res → z_V p l e R s m args below meth c 3 g z_shR (MQ below (z_Qc g z_shR (fun v u' => v = some (.int res.1) ∧ u' = res.2)) args s 0 0 (z_A g z_shR)) 22 [(0, .ref (z_ad g 0)), (1, .int x1), (2, .int q.1)] [] q.2) (hkx : ∀ t, kx t = some res → z_V p l e R s m args below meth c 3 g z_shR (MQ below (z_Qc g z_shR (fun v u' => v = some (.int res.1) ∧ u' = res.2)) args s 0 0 (z_A g z_shR)) 55 [(0, .ref (z_ad g 0))] [] t) (h : b_X10_sign_22 x1 q kb kx = some res) : z_V p l e R s m args below meth c 3 g z_shR (MQ below (z_Qc g z_shR (fun v u' => v = some (.int res.1) ∧ u' = res.2)) args s 0 0 (z_A g z_shR)) 22 [(0, .ref (z_ad g 0)), (1, .int x1), (2, .int q.1)] [] q.2 := by
  unfold b_X10_sign_22 at h
  refine z_iload_n X 2 dX10_sign_22 rfl rfl (z_if_lt X 55 dX10_sign_23 (by decide) (fun c3 => ?_) (fun c3 => ?_))
  · replace h := z_ip c3 h
    refine z_sub [0] [(0, .ref (z_ad g 0))] rfl ?_
    exact hkx q.2 h
  · replace h := z_in c3 h
    obtain ⟨b4, h⟩ := z_gs h
    obtain ⟨u5, eu5, h⟩ := z_ls h
    obtain ⟨u6, eu6, h⟩ := z_ls h
    refine z_aload_n X 0 dX10_sign_26 rfl rfl (z_getR X (k0 := 7) z_r0 rfl in_X10_sign_X10 (by decide) rfl rfl lk_X10_sign_28 dX10_sign_27 (z_aload_n X 0 dX10_sign_30 rfl rfl (z_getI X (k0 := 8) z_r0 rfl in_X10_sign_X10 (by decide) rfl rfl lk_X10_sign_116 dX10_sign_31 (z_iload_n X 1 dX10_sign_34 rfl rfl (z_iload_n X 2 dX10_sign_35 rfl rfl (z_iushr X dX10_sign_36 (z_i2b X dX10_sign_37 (z_bast X z_r6 (z_inS b4) dX10_sign_38 (z_nm eu5 (z_aload_n X 0 dX10_sign_39 rfl rfl (z_dup X dX10_sign_40 rfl (z_getI X (k0 := 8) z_r0 rfl in_X10_sign_X10 (by decide) rfl rfl lk_X10_sign_116 dX10_sign_41 (z_iconst X (v := 1) dX10_sign_44 (by decide) (z_iadd X dX10_sign_45 (z_putI X (k0 := 8) (ty0 := tyX10) z_r0 rfl in_X10_sign_X10 tyX10_ok nmX10 (by decide) rfl rfl rfl rfl rfl lk_X10_sign_116 dX10_sign_46 (z_nm eu6 (z_iinc X (v := q.1 + (-8)) 2 [(2, .int (q.1 + (-8))), (0, .ref (z_ad g 0)), (1, .int x1)] dX10_sign_49 rfl rfl (by decide) rfl (z_goto X 22 dX10_sign_52 (by decide) (z_sub [1, 2, 0] [(0, .ref (z_ad g 0)), (1, .int x1), (2, .int (q.1 + (-8)))] rfl ?_)))))))))))))))))))
    exact hkb (q.1 + (-8), u6) h
set_option maxRecDepth 20000 in
set_option maxHeartbeats 4000000 in
theorem w_X10_sign (l : Launch) (g : z_G) (a1 : Int32) (u : z_M) {res : Int32 × z_M} (h : f_X10_sign a1 u = some res) : z_C l g z_shR yX10_sign wsX10_sign 1 [.ref (z_ad g 0), .int a1] u (fun v u' => v = some (.int res.1) ∧ u' = res.2) := by
  refine z_C.mk (lv := [(0, .ref (z_ad g 0)), (1, .int a1)]) (cc := cX10_sign) (nL := 3) (rt := (some .int)) rfl (by decide) (Nat.le_of_ble_eq_true rfl) rfl (fun p e R s m args below meth c hR X => ?_)
  unfold f_X10_sign at h
  obtain ⟨u1, eu1, h⟩ := z_ls h
  refine z_aload_n X 0 dX10_sign_0 rfl rfl (z_iconst X (v := 0) dX10_sign_1 (by decide) (z_putI X (k0 := 0) (ty0 := tyX10) z_r0 rfl in_X10_sign_X10 tyX10_ok nmX10 (by decide) rfl rfl rfl rfl rfl lk_X10_sign_82 dX10_sign_2 (z_nm eu1 (z_aload_n X 0 dX10_sign_5 rfl rfl (z_getI X (k0 := 8) z_r0 rfl in_X10_sign_X10 (by decide) rfl rfl lk_X10_sign_116 dX10_sign_6 (z_iconst X (v := 4) dX10_sign_9 (by decide) (z_iadd X dX10_sign_10 (z_sipush X (v := 400) dX10_sign_11 (by decide) (z_icmp_le X 19 dX10_sign_14 (by decide) (fun c2 => ?_) (fun c2 => ?_))))))))))
  · replace h := z_ip c2 h
    refine z_bipush X (v := 24) dX10_sign_19 (by decide) (z_istore_n X [(2, .int 24), (0, .ref (z_ad g 0)), (1, .int a1)] dX10_sign_21 rfl (by decide) rfl (z_sub [1, 2, 0] [(0, .ref (z_ad g 0)), (1, .int a1), (2, .int 24)] rfl ?_))
    have hw := z_lp_w (fun q9 kb9 kx9 h1 h2 h3 => wb_X10_sign_22 (l := l) (e := e) (below := below) (u := u1) hR X a1 q9 kb9 kx9 h1 h2 h3) z_F _ _ h
    refine hw (fun t7 h => ?_)
    refine z_aload_n X 0 dX10_sign_55 rfl rfl (z_getI X (k0 := 8) z_r0 rfl in_X10_sign_X10 (by decide) rfl rfl lk_X10_sign_116 dX10_sign_56 ?_)
    cases h; exact z_iret X rfl dX10_sign_59 ⟨rfl, rfl⟩
  · replace h := z_in c2 h
    refine z_iconst X (v := (-1)) dX10_sign_17 (by decide) ?_
    cases h; exact z_iret X rfl dX10_sign_18 ⟨rfl, rfl⟩

theorem lk_X10_end_82 : (Cond.fieldLink RX10 82 RX10 (TX10 0).2.1 (TX10 0).2.2.1) ∈ wsX10_end := by decide +kernel
theorem in_X10_end_X10 : ∀ w ∈ u_ws RX10 TX10 30, w ∈ wsX10_end := fun _ h => List.mem_cons_of_mem _ (List.mem_append_right _ h)
theorem lk_X10_end_116 : (Cond.fieldLink RX10 116 RX10 (TX10 8).2.1 (TX10 8).2.2.1) ∈ wsX10_end := by decide +kernel
def f_X10_end (a1 : Int32) (u : z_M) : Option (Int32 × z_M) :=
  z_lt (z_sI u 0 0 0) (fun u1 => Option.bind (f_X10_isIn a1.toInt64 0 ((z_gI u1 0 8).toInt64)) (fun r2 => if r2 = 0 then (some (0, u1)) else (z_lt (z_sI u1 0 8 a1) (fun u4 => some (1, u4)))))
set_option maxRecDepth 20000 in
set_option maxHeartbeats 4000000 in
theorem w_X10_end (l : Launch) (g : z_G) (a1 : Int32) (u : z_M) {res : Int32 × z_M} (h : f_X10_end a1 u = some res) : z_C l g z_shR yX10_end wsX10_end 2 [.ref (z_ad g 0), .int a1] u (fun v u' => v = some (.int res.1) ∧ u' = res.2) := by
  refine z_C.mk (lv := [(0, .ref (z_ad g 0)), (1, .int a1)]) (cc := cX10_end) (nL := 2) (rt := (some .boolean)) rfl (by decide) (Nat.le_of_ble_eq_true rfl) rfl (fun p e R s m args below meth c hR X => ?_)
  unfold f_X10_end at h
  obtain ⟨u1, eu1, h⟩ := z_ls h
  obtain ⟨r2, er2, h⟩ := z_bs h
  refine z_aload_n X 0 dX10_end_0 rfl rfl (z_iconst X (v := 0) dX10_end_1 (by decide) (z_putI X (k0 := 0) (ty0 := tyX10) z_r0 rfl in_X10_end_X10 tyX10_ok nmX10 (by decide) rfl rfl rfl rfl rfl lk_X10_end_82 dX10_end_2 (z_nm eu1 (z_iload_n X 1 dX10_end_5 rfl rfl (z_i2l X dX10_end_6 (z_lconst X (v := 0) dX10_end_7 (by decide) (z_aload_n X 0 dX10_end_8 rfl rfl (z_getI X (k0 := 8) z_r0 rfl in_X10_end_X10 (by decide) rfl rfl lk_X10_end_116 dX10_end_9 (z_i2l X dX10_end_12 (z_callSi X (r := r2) (u1 := u1) [.long a1.toInt64, .long 0, .long ((z_gI u1 0 8).toInt64)] [] (w_X10_isIn l g a1.toInt64 0 ((z_gI u1 0 8).toInt64) u1 er2) gX10_end_X10_isIn hy_X10_isIn.2 rfl (z_le1 hR (by decide)) (z_le2 hR (by decide) (by decide)) (Nat.le_of_ble_eq_true rfl) dX10_end_13 (z_if_ne X 21 dX10_end_16 (by decide) (fun c3 => ?_) (fun c3 => ?_))))))))))))
  · replace h := z_in c3 h
    obtain ⟨u4, eu4, h⟩ := z_ls h
    refine z_aload_n X 0 dX10_end_21 rfl rfl (z_iload_n X 1 dX10_end_22 rfl rfl (z_putI X (k0 := 8) (ty0 := tyX10) z_r0 rfl in_X10_end_X10 tyX10_ok nmX10 (by decide) rfl rfl rfl rfl rfl lk_X10_end_116 dX10_end_23 (z_nm eu4 (z_iconst X (v := 1) dX10_end_26 (by decide) ?_))))
    cases h; exact z_zret X rfl rfl dX10_end_27 ⟨rfl, rfl⟩
  · replace h := z_ip c3 h
    refine z_iconst X (v := 0) dX10_end_19 (by decide) ?_
    cases h; exact z_zret X rfl rfl dX10_end_20 ⟨rfl, rfl⟩

theorem lk_X10_fault_82 : (Cond.fieldLink RX10 82 RX10 (TX10 0).2.1 (TX10 0).2.2.1) ∈ wsX10_fault := by decide +kernel
theorem in_X10_fault_X10 : ∀ w ∈ u_ws RX10 TX10 30, w ∈ wsX10_fault := fun _ h => List.mem_cons_of_mem _ (List.mem_append_right _ h)
theorem lk_X10_fault_119 : (Cond.fieldLink RX10 119 RX10 (TX10 10).2.1 (TX10 10).2.2.1) ∈ wsX10_fault := by decide +kernel
theorem lk_X10_fault_32 : (Cond.fieldLink RX10 32 RX10 (TX10 11).2.1 (TX10 11).2.2.1) ∈ wsX10_fault := by decide +kernel
def f_X10_fault (a1 : Int32) (u : z_M) : Option (Int32 × z_M) :=
  z_lt (z_sI u 0 0 0) (fun u1 => if a1 = 0 then (some (z_gI u1 0 10, u1)) else (if a1 = 1 then (some (z_gI u1 0 11, u1)) else (some ((-1), u1))))
set_option maxRecDepth 20000 in
set_option maxHeartbeats 4000000 in
theorem w_X10_fault (l : Launch) (g : z_G) (a1 : Int32) (u : z_M) {res : Int32 × z_M} (h : f_X10_fault a1 u = some res) : z_C l g z_shR yX10_fault wsX10_fault 1 [.ref (z_ad g 0), .int a1] u (fun v u' => v = some (.int res.1) ∧ u' = res.2) := by
  refine z_C.mk (lv := [(0, .ref (z_ad g 0)), (1, .int a1)]) (cc := cX10_fault) (nL := 2) (rt := (some .int)) rfl (by decide) (Nat.le_of_ble_eq_true rfl) rfl (fun p e R s m args below meth c hR X => ?_)
  unfold f_X10_fault at h
  obtain ⟨u1, eu1, h⟩ := z_ls h
  refine z_aload_n X 0 dX10_fault_0 rfl rfl (z_iconst X (v := 0) dX10_fault_1 (by decide) (z_putI X (k0 := 0) (ty0 := tyX10) z_r0 rfl in_X10_fault_X10 tyX10_ok nmX10 (by decide) rfl rfl rfl rfl rfl lk_X10_fault_82 dX10_fault_2 (z_nm eu1 (z_iload_n X 1 dX10_fault_5 rfl rfl (z_if_ne X 16 dX10_fault_6 (by decide) (fun c2 => ?_) (fun c2 => ?_))))))
  · replace h := z_in c2 h
    refine z_iload_n X 1 dX10_fault_16 rfl rfl (z_iconst X (v := 1) dX10_fault_17 (by decide) (z_icmp_ne X 28 dX10_fault_18 (by decide) (fun c3 => ?_) (fun c3 => ?_)))
    · replace h := z_in c3 h
      refine z_iconst X (v := (-1)) dX10_fault_28 (by decide) ?_
      cases h; exact z_iret X rfl dX10_fault_29 ⟨rfl, rfl⟩
    · replace h := z_ip c3 h
      refine z_aload_n X 0 dX10_fault_21 rfl rfl (z_getI X (k0 := 11) z_r0 rfl in_X10_fault_X10 (by decide) rfl rfl lk_X10_fault_32 dX10_fault_22 (z_goto X 29 dX10_fault_25 (by decide) ?_))
      cases h; exact z_iret X rfl dX10_fault_29 ⟨rfl, rfl⟩
  · replace h := z_ip c2 h
    refine z_aload_n X 0 dX10_fault_9 rfl rfl (z_getI X (k0 := 10) z_r0 rfl in_X10_fault_X10 (by decide) rfl rfl lk_X10_fault_119 dX10_fault_10 (z_goto X 29 dX10_fault_13 (by decide) ?_))
    cases h; exact z_iret X rfl dX10_fault_29 ⟨rfl, rfl⟩

theorem lk_X10_wrong_122 : (Cond.fieldLink RX10 122 RX10 (TX10 12).2.1 (TX10 12).2.2.1) ∈ wsX10_wrong := by decide +kernel
theorem in_X10_wrong_X10 : ∀ w ∈ u_ws RX10 TX10 30, w ∈ wsX10_wrong := fun _ h => List.mem_cons_of_mem _ (List.mem_append_right _ h)
theorem lk_X10_wrong_119 : (Cond.fieldLink RX10 119 RX10 (TX10 10).2.1 (TX10 10).2.2.1) ∈ wsX10_wrong := by decide +kernel
theorem lk_X10_wrong_32 : (Cond.fieldLink RX10 32 RX10 (TX10 11).2.1 (TX10 11).2.2.1) ∈ wsX10_wrong := by decide +kernel
def f_X10_wrong (a1 : Int32) (a2 : Int32) (u : z_M) : Option (z_M) :=
  if (z_gI u 0 12) = 0 then (some u) else (z_lt (z_sI u 0 10 a1) (fun u2 => z_lt (z_sI u2 0 11 a2) (fun u3 => z_lt (z_sI u3 0 12 0) (fun u4 => some u4))))
set_option maxRecDepth 20000 in
set_option maxHeartbeats 4000000 in
theorem w_X10_wrong (l : Launch) (g : z_G) (a1 : Int32) (a2 : Int32) (u : z_M) {res : z_M} (h : f_X10_wrong a1 a2 u = some res) : z_C l g z_shR yX10_wrong wsX10_wrong 1 [.ref (z_ad g 0), .int a1, .int a2] u (fun v u' => v = none ∧ u' = res) := by
  refine z_C.mk (lv := [(0, .ref (z_ad g 0)), (1, .int a1), (2, .int a2)]) (cc := cX10_wrong) (nL := 3) (rt := none) rfl (by decide) (Nat.le_of_ble_eq_true rfl) rfl (fun p e R s m args below meth c hR X => ?_)
  unfold f_X10_wrong at h
  refine z_aload_n X 0 dX10_wrong_0 rfl rfl (z_getI X (k0 := 12) z_r0 rfl in_X10_wrong_X10 (by decide) rfl rfl lk_X10_wrong_122 dX10_wrong_1 (z_if_eq X 22 dX10_wrong_4 (by decide) (fun c1 => ?_) (fun c1 => ?_)))
  · replace h := z_ip c1 h
    cases h; exact z_vret X rfl dX10_wrong_22 ⟨rfl, rfl⟩
  · replace h := z_in c1 h
    obtain ⟨u2, eu2, h⟩ := z_ls h
    obtain ⟨u3, eu3, h⟩ := z_ls h
    obtain ⟨u4, eu4, h⟩ := z_ls h
    refine z_aload_n X 0 dX10_wrong_7 rfl rfl (z_iload_n X 1 dX10_wrong_8 rfl rfl (z_putI X (k0 := 10) (ty0 := tyX10) z_r0 rfl in_X10_wrong_X10 tyX10_ok nmX10 (by decide) rfl rfl rfl rfl rfl lk_X10_wrong_119 dX10_wrong_9 (z_nm eu2 (z_aload_n X 0 dX10_wrong_12 rfl rfl (z_iload_n X 2 dX10_wrong_13 rfl rfl (z_putI X (k0 := 11) (ty0 := tyX10) z_r0 rfl in_X10_wrong_X10 tyX10_ok nmX10 (by decide) rfl rfl rfl rfl rfl lk_X10_wrong_32 dX10_wrong_14 (z_nm eu3 (z_aload_n X 0 dX10_wrong_17 rfl rfl (z_iconst X (v := 0) dX10_wrong_18 (by decide) (z_putI X (k0 := 12) (ty0 := tyX10) z_r0 rfl in_X10_wrong_X10 tyX10_ok nmX10 (by decide) rfl rfl rfl rfl rfl lk_X10_wrong_122 dX10_wrong_19 (z_nm eu4 ?_)))))))))))
    cases h; exact z_vret X rfl dX10_wrong_22 ⟨rfl, rfl⟩

theorem lk_X10_next_126 : (Cond.fieldLink RX10 126 RX10 (TX10 9).2.1 (TX10 9).2.2.1) ∈ wsX10_next := by decide +kernel
theorem in_X10_next_X10 : ∀ w ∈ u_ws RX10 TX10 30, w ∈ wsX10_next := by decide +kernel
theorem lk_X10_next_116 : (Cond.fieldLink RX10 116 RX10 (TX10 8).2.1 (TX10 8).2.2.1) ∈ wsX10_next := by decide +kernel
theorem lk_X10_next_28 : (Cond.fieldLink RX10 28 RX10 (TX10 7).2.1 (TX10 7).2.2.1) ∈ wsX10_next := by decide +kernel
def b_X10_next_0  : z_M → (z_M → Option (Int32 × z_M)) → (z_M → Option (Int32 × z_M)) → Option (Int32 × z_M) := fun q kb kx =>
  if (z_gI q 0 8) ≤ (z_gI q 0 9) then (kx q) else (z_gd (z_inb (z_gI q 0 9) 400) (if (z_gI q 6 (z_gI q 0 9).toNatClampNeg) = 32 then (z_lt (z_sI q 0 9 ((z_gI q 0 9) + 1)) (fun u10 => kb u10)) else (z_gd (z_inb (z_gI q 0 9) 400) (if (z_gI q 6 (z_gI q 0 9).toNatClampNeg) = 10 then (z_lt (z_sI q 0 9 ((z_gI q 0 9) + 1)) (fun u13 => kb u13)) else (kx q)))))
def f_X10_next (u : z_M) : Option (Int32 × z_M) :=
  if (z_gI u 0 8) ≤ (z_gI u 0 9) then (if (z_gI u 0 8) ≤ (z_gI u 0 9) then (some (0, u)) else (z_gd (z_inb (z_gI u 0 9) 400) (some (z_gI u 6 (z_gI u 0 9).toNatClampNeg, u)))) else (z_gd (z_inb (z_gI u 0 9) 400) (if (z_gI u 6 (z_gI u 0 9).toNatClampNeg) = 32 then (z_lt (z_sI u 0 9 ((z_gI u 0 9) + 1)) (fun u6 => z_lp b_X10_next_0 z_F u6 (fun t14 => if (z_gI t14 0 8) ≤ (z_gI t14 0 9) then (some (0, t14)) else (z_gd (z_inb (z_gI t14 0 9) 400) (some (z_gI t14 6 (z_gI t14 0 9).toNatClampNeg, t14)))))) else (z_gd (z_inb (z_gI u 0 9) 400) (if (z_gI u 6 (z_gI u 0 9).toNatClampNeg) = 10 then (z_lt (z_sI u 0 9 ((z_gI u 0 9) + 1)) (fun u19 => z_lp b_X10_next_0 z_F u19 (fun t20 => if (z_gI t20 0 8) ≤ (z_gI t20 0 9) then (some (0, t20)) else (z_gd (z_inb (z_gI t20 0 9) 400) (some (z_gI t20 6 (z_gI t20 0 9).toNatClampNeg, t20)))))) else (if (z_gI u 0 8) ≤ (z_gI u 0 9) then (some (0, u)) else (z_gd (z_inb (z_gI u 0 9) 400) (some (z_gI u 6 (z_gI u 0 9).toNatClampNeg, u))))))))
set_option maxRecDepth 20000 in
set_option maxHeartbeats 4000000 in
theorem wb_X10_next_0 {p : Program} {l : Launch} {e : Env} {R : Room} {s : State} {m : MethodId} {args : Array Value} {below : List Frame} {meth : Method} {c : Code} {g : z_G} {u : z_M} {res : Int32 × z_M} (hR : R = z_rm 1) (X : z_X p R s m args meth c cX10_next 1 RX10 wsX10_next (some .int) g z_shR)  (q : z_M) (kb : z_M → Option (Int32 × z_M)) (kx : z_M → Option (Int32 × z_M)) (hkb : ∀ q, kb q = some res → z_V p l e R s m args below meth c 1 g z_shR (MQ below (z_Qc g z_shR (fun v u' => v = some (.int res.1) ∧ u' = res.2)) args s 0 0 (z_A g z_shR)) 0 [(0, .ref (z_ad g 0))] [] q) (hkx : ∀ t, kx t = some res → z_V p l e R s m args below meth c 1 g z_shR (MQ below (z_Qc g z_shR (fun v u' => v = some (.int res.1) ∧ u' = res.2)) args s 0 0 (z_A g z_shR)) 52 [(0, .ref (z_ad g 0))] [] t) (h : b_X10_next_0 q kb kx = some res) : z_V p l e R s m args below meth c 1 g z_shR (MQ below (z_Qc g z_shR (fun v u' => v = some (.int res.1) ∧ u' = res.2)) args s 0 0 (z_A g z_shR)) 0 [(0, .ref (z_ad g 0))] [] q := by
  unfold b_X10_next_0 at h
  refine z_aload_n X 0 dX10_next_0 rfl rfl (z_getI X (k0 := 9) z_r0 rfl in_X10_next_X10 (by decide) rfl rfl lk_X10_next_126 dX10_next_1 (z_aload_n X 0 dX10_next_4 rfl rfl (z_getI X (k0 := 8) z_r0 rfl in_X10_next_X10 (by decide) rfl rfl lk_X10_next_116 dX10_next_5 (z_icmp_ge X 52 dX10_next_8 (by decide) (fun c7 => ?_) (fun c7 => ?_)))))
  · replace h := z_ip c7 h
    exact hkx q h
  · replace h := z_in c7 h
    obtain ⟨b8, h⟩ := z_gs h
    refine z_aload_n X 0 dX10_next_11 rfl rfl (z_getR X (k0 := 7) z_r0 rfl in_X10_next_X10 (by decide) rfl rfl lk_X10_next_28 dX10_next_12 (z_aload_n X 0 dX10_next_15 rfl rfl (z_getI X (k0 := 9) z_r0 rfl in_X10_next_X10 (by decide) rfl rfl lk_X10_next_126 dX10_next_16 (z_bald X z_r6 (z_inS b8) dX10_next_19 (z_bipush X (v := 32) dX10_next_20 (by decide) (z_icmp_eq X 39 dX10_next_22 (by decide) (fun c9 => ?_) (fun c9 => ?_)))))))
    · replace h := z_ip c9 h
      obtain ⟨u10, eu10, h⟩ := z_ls h
      refine z_aload_n X 0 dX10_next_39 rfl rfl (z_dup X dX10_next_40 rfl (z_getI X (k0 := 9) z_r0 rfl in_X10_next_X10 (by decide) rfl rfl lk_X10_next_126 dX10_next_41 (z_iconst X (v := 1) dX10_next_44 (by decide) (z_iadd X dX10_next_45 (z_putI X (k0 := 9) (ty0 := tyX10) z_r0 rfl in_X10_next_X10 tyX10_ok nmX10 (by decide) rfl rfl rfl rfl rfl lk_X10_next_126 dX10_next_46 (z_nm eu10 (z_goto X 0 dX10_next_49 (by decide) ?_)))))))
      exact hkb u10 h
    · replace h := z_in c9 h
      obtain ⟨b11, h⟩ := z_gs h
      refine z_aload_n X 0 dX10_next_25 rfl rfl (z_getR X (k0 := 7) z_r0 rfl in_X10_next_X10 (by decide) rfl rfl lk_X10_next_28 dX10_next_26 (z_aload_n X 0 dX10_next_29 rfl rfl (z_getI X (k0 := 9) z_r0 rfl in_X10_next_X10 (by decide) rfl rfl lk_X10_next_126 dX10_next_30 (z_bald X z_r6 (z_inS b11) dX10_next_33 (z_bipush X (v := 10) dX10_next_34 (by decide) (z_icmp_ne X 52 dX10_next_36 (by decide) (fun c12 => ?_) (fun c12 => ?_)))))))
      · replace h := z_in c12 h
        exact hkx q h
      · replace h := z_ip c12 h
        obtain ⟨u13, eu13, h⟩ := z_ls h
        refine z_aload_n X 0 dX10_next_39 rfl rfl (z_dup X dX10_next_40 rfl (z_getI X (k0 := 9) z_r0 rfl in_X10_next_X10 (by decide) rfl rfl lk_X10_next_126 dX10_next_41 (z_iconst X (v := 1) dX10_next_44 (by decide) (z_iadd X dX10_next_45 (z_putI X (k0 := 9) (ty0 := tyX10) z_r0 rfl in_X10_next_X10 tyX10_ok nmX10 (by decide) rfl rfl rfl rfl rfl lk_X10_next_126 dX10_next_46 (z_nm eu13 (z_goto X 0 dX10_next_49 (by decide) ?_)))))))
        exact hkb u13 h
set_option maxRecDepth 20000 in
set_option maxHeartbeats 4000000 in
theorem w_X10_next (l : Launch) (g : z_G)  (u : z_M) {res : Int32 × z_M} (h : f_X10_next u = some res) : z_C l g z_shR yX10_next wsX10_next 1 [.ref (z_ad g 0)] u (fun v u' => v = some (.int res.1) ∧ u' = res.2) := by
  refine z_C.mk (lv := [(0, .ref (z_ad g 0))]) (cc := cX10_next) (nL := 1) (rt := (some .int)) rfl (by decide) (Nat.le_of_ble_eq_true rfl) rfl (fun p e R s m args below meth c hR X => ?_)
  unfold f_X10_next at h
  refine z_aload_n X 0 dX10_next_0 rfl rfl (z_getI X (k0 := 9) z_r0 rfl in_X10_next_X10 (by decide) rfl rfl lk_X10_next_126 dX10_next_1 (z_aload_n X 0 dX10_next_4 rfl rfl (z_getI X (k0 := 8) z_r0 rfl in_X10_next_X10 (by decide) rfl rfl lk_X10_next_116 dX10_next_5 (z_icmp_ge X 52 dX10_next_8 (by decide) (fun c1 => ?_) (fun c1 => ?_)))))
  · replace h := z_ip c1 h
    refine z_aload_n X 0 dX10_next_52 rfl rfl (z_getI X (k0 := 9) z_r0 rfl in_X10_next_X10 (by decide) rfl rfl lk_X10_next_126 dX10_next_53 (z_aload_n X 0 dX10_next_56 rfl rfl (z_getI X (k0 := 8) z_r0 rfl in_X10_next_X10 (by decide) rfl rfl lk_X10_next_116 dX10_next_57 (z_icmp_ge X 75 dX10_next_60 (by decide) (fun c2 => ?_) (fun c2 => ?_)))))
    · replace h := z_ip c2 h
      refine z_iconst X (v := 0) dX10_next_75 (by decide) ?_
      cases h; exact z_iret X rfl dX10_next_76 ⟨rfl, rfl⟩
    · replace h := z_in c2 h
      obtain ⟨b3, h⟩ := z_gs h
      refine z_aload_n X 0 dX10_next_63 rfl rfl (z_getR X (k0 := 7) z_r0 rfl in_X10_next_X10 (by decide) rfl rfl lk_X10_next_28 dX10_next_64 (z_aload_n X 0 dX10_next_67 rfl rfl (z_getI X (k0 := 9) z_r0 rfl in_X10_next_X10 (by decide) rfl rfl lk_X10_next_126 dX10_next_68 (z_bald X z_r6 (z_inS b3) dX10_next_71 (z_goto X 76 dX10_next_72 (by decide) ?_)))))
      cases h; exact z_iret X rfl dX10_next_76 ⟨rfl, rfl⟩
  · replace h := z_in c1 h
    obtain ⟨b4, h⟩ := z_gs h
    refine z_aload_n X 0 dX10_next_11 rfl rfl (z_getR X (k0 := 7) z_r0 rfl in_X10_next_X10 (by decide) rfl rfl lk_X10_next_28 dX10_next_12 (z_aload_n X 0 dX10_next_15 rfl rfl (z_getI X (k0 := 9) z_r0 rfl in_X10_next_X10 (by decide) rfl rfl lk_X10_next_126 dX10_next_16 (z_bald X z_r6 (z_inS b4) dX10_next_19 (z_bipush X (v := 32) dX10_next_20 (by decide) (z_icmp_eq X 39 dX10_next_22 (by decide) (fun c5 => ?_) (fun c5 => ?_)))))))
    · replace h := z_ip c5 h
      obtain ⟨u6, eu6, h⟩ := z_ls h
      refine z_aload_n X 0 dX10_next_39 rfl rfl (z_dup X dX10_next_40 rfl (z_getI X (k0 := 9) z_r0 rfl in_X10_next_X10 (by decide) rfl rfl lk_X10_next_126 dX10_next_41 (z_iconst X (v := 1) dX10_next_44 (by decide) (z_iadd X dX10_next_45 (z_putI X (k0 := 9) (ty0 := tyX10) z_r0 rfl in_X10_next_X10 tyX10_ok nmX10 (by decide) rfl rfl rfl rfl rfl lk_X10_next_126 dX10_next_46 (z_nm eu6 (z_goto X 0 dX10_next_49 (by decide) ?_)))))))
      have hw := z_lp_w (fun q9 kb9 kx9 h1 h2 h3 => wb_X10_next_0 (l := l) (e := e) (below := below) (u := u6) hR X q9 kb9 kx9 h1 h2 h3) z_F _ _ h
      refine hw (fun t14 h => ?_)
      refine z_aload_n X 0 dX10_next_52 rfl rfl (z_getI X (k0 := 9) z_r0 rfl in_X10_next_X10 (by decide) rfl rfl lk_X10_next_126 dX10_next_53 (z_aload_n X 0 dX10_next_56 rfl rfl (z_getI X (k0 := 8) z_r0 rfl in_X10_next_X10 (by decide) rfl rfl lk_X10_next_116 dX10_next_57 (z_icmp_ge X 75 dX10_next_60 (by decide) (fun c15 => ?_) (fun c15 => ?_)))))
      · replace h := z_ip c15 h
        refine z_iconst X (v := 0) dX10_next_75 (by decide) ?_
        cases h; exact z_iret X rfl dX10_next_76 ⟨rfl, rfl⟩
      · replace h := z_in c15 h
        obtain ⟨b16, h⟩ := z_gs h
        refine z_aload_n X 0 dX10_next_63 rfl rfl (z_getR X (k0 := 7) z_r0 rfl in_X10_next_X10 (by decide) rfl rfl lk_X10_next_28 dX10_next_64 (z_aload_n X 0 dX10_next_67 rfl rfl (z_getI X (k0 := 9) z_r0 rfl in_X10_next_X10 (by decide) rfl rfl lk_X10_next_126 dX10_next_68 (z_bald X z_r6 (z_inS b16) dX10_next_71 (z_goto X 76 dX10_next_72 (by decide) ?_)))))
        cases h; exact z_iret X rfl dX10_next_76 ⟨rfl, rfl⟩
    · replace h := z_in c5 h
      obtain ⟨b17, h⟩ := z_gs h
      refine z_aload_n X 0 dX10_next_25 rfl rfl (z_getR X (k0 := 7) z_r0 rfl in_X10_next_X10 (by decide) rfl rfl lk_X10_next_28 dX10_next_26 (z_aload_n X 0 dX10_next_29 rfl rfl (z_getI X (k0 := 9) z_r0 rfl in_X10_next_X10 (by decide) rfl rfl lk_X10_next_126 dX10_next_30 (z_bald X z_r6 (z_inS b17) dX10_next_33 (z_bipush X (v := 10) dX10_next_34 (by decide) (z_icmp_ne X 52 dX10_next_36 (by decide) (fun c18 => ?_) (fun c18 => ?_)))))))
      · replace h := z_in c18 h
        refine z_aload_n X 0 dX10_next_52 rfl rfl (z_getI X (k0 := 9) z_r0 rfl in_X10_next_X10 (by decide) rfl rfl lk_X10_next_126 dX10_next_53 (z_aload_n X 0 dX10_next_56 rfl rfl (z_getI X (k0 := 8) z_r0 rfl in_X10_next_X10 (by decide) rfl rfl lk_X10_next_116 dX10_next_57 (z_icmp_ge X 75 dX10_next_60 (by decide) (fun c23 => ?_) (fun c23 => ?_)))))
        · replace h := z_ip c23 h
          refine z_iconst X (v := 0) dX10_next_75 (by decide) ?_
          cases h; exact z_iret X rfl dX10_next_76 ⟨rfl, rfl⟩
        · replace h := z_in c23 h
          obtain ⟨b24, h⟩ := z_gs h
          refine z_aload_n X 0 dX10_next_63 rfl rfl (z_getR X (k0 := 7) z_r0 rfl in_X10_next_X10 (by decide) rfl rfl lk_X10_next_28 dX10_next_64 (z_aload_n X 0 dX10_next_67 rfl rfl (z_getI X (k0 := 9) z_r0 rfl in_X10_next_X10 (by decide) rfl rfl lk_X10_next_126 dX10_next_68 (z_bald X z_r6 (z_inS b24) dX10_next_71 (z_goto X 76 dX10_next_72 (by decide) ?_)))))
          cases h; exact z_iret X rfl dX10_next_76 ⟨rfl, rfl⟩
      · replace h := z_ip c18 h
        obtain ⟨u19, eu19, h⟩ := z_ls h
        refine z_aload_n X 0 dX10_next_39 rfl rfl (z_dup X dX10_next_40 rfl (z_getI X (k0 := 9) z_r0 rfl in_X10_next_X10 (by decide) rfl rfl lk_X10_next_126 dX10_next_41 (z_iconst X (v := 1) dX10_next_44 (by decide) (z_iadd X dX10_next_45 (z_putI X (k0 := 9) (ty0 := tyX10) z_r0 rfl in_X10_next_X10 tyX10_ok nmX10 (by decide) rfl rfl rfl rfl rfl lk_X10_next_126 dX10_next_46 (z_nm eu19 (z_goto X 0 dX10_next_49 (by decide) ?_)))))))
        have hw := z_lp_w (fun q9 kb9 kx9 h1 h2 h3 => wb_X10_next_0 (l := l) (e := e) (below := below) (u := u19) hR X q9 kb9 kx9 h1 h2 h3) z_F _ _ h
        refine hw (fun t20 h => ?_)
        refine z_aload_n X 0 dX10_next_52 rfl rfl (z_getI X (k0 := 9) z_r0 rfl in_X10_next_X10 (by decide) rfl rfl lk_X10_next_126 dX10_next_53 (z_aload_n X 0 dX10_next_56 rfl rfl (z_getI X (k0 := 8) z_r0 rfl in_X10_next_X10 (by decide) rfl rfl lk_X10_next_116 dX10_next_57 (z_icmp_ge X 75 dX10_next_60 (by decide) (fun c21 => ?_) (fun c21 => ?_)))))
        · replace h := z_ip c21 h
          refine z_iconst X (v := 0) dX10_next_75 (by decide) ?_
          cases h; exact z_iret X rfl dX10_next_76 ⟨rfl, rfl⟩
        · replace h := z_in c21 h
          obtain ⟨b22, h⟩ := z_gs h
          refine z_aload_n X 0 dX10_next_63 rfl rfl (z_getR X (k0 := 7) z_r0 rfl in_X10_next_X10 (by decide) rfl rfl lk_X10_next_28 dX10_next_64 (z_aload_n X 0 dX10_next_67 rfl rfl (z_getI X (k0 := 9) z_r0 rfl in_X10_next_X10 (by decide) rfl rfl lk_X10_next_126 dX10_next_68 (z_bald X z_r6 (z_inS b22) dX10_next_71 (z_goto X 76 dX10_next_72 (by decide) ?_)))))
          cases h; exact z_iret X rfl dX10_next_76 ⟨rfl, rfl⟩

theorem lk_X10_isWord_126 : (Cond.fieldLink RX10 126 RX10 (TX10 9).2.1 (TX10 9).2.2.1) ∈ wsX10_isWord := by decide +kernel
theorem in_X10_isWord_X10 : ∀ w ∈ u_ws RX10 TX10 30, w ∈ wsX10_isWord := fun _ h => List.mem_cons_of_mem _ (List.mem_append_right _ h)
theorem lk_X10_isWord_116 : (Cond.fieldLink RX10 116 RX10 (TX10 8).2.1 (TX10 8).2.2.1) ∈ wsX10_isWord := by decide +kernel
theorem lk_X10_isWord_28 : (Cond.fieldLink RX10 28 RX10 (TX10 7).2.1 (TX10 7).2.2.1) ∈ wsX10_isWord := by decide +kernel
theorem ct133_X10_isWord : Cond.constantLong RX10 133 97 ∈ wsX10_isWord := by decide +kernel
theorem ct135_X10_isWord : Cond.constantLong RX10 135 122 ∈ wsX10_isWord := by decide +kernel
theorem lk_X10_isWord_122 : (Cond.fieldLink RX10 122 RX10 (TX10 12).2.1 (TX10 12).2.2.1) ∈ wsX10_isWord := by decide +kernel
theorem hy_X10_next : yX10_next.cls = RX10 ∧ yX10_next.cls ≠ "java/lang/invoke/MethodHandle" ∧ yX10_next.cls ≠ "java/lang/invoke/VarHandle" ∧ (parseMethodDescriptor yX10_next.desc).map (fun d => d.parameters.length) = some 0 := by decide +kernel
def b_X10_isWord_7 (x1 : Nat) (u : z_M) : Int32 → (Int32 → Option (Int32 × z_M)) → (Int32 → Option (Int32 × z_M)) → Option (Int32 × z_M) := fun q kb kx =>
  if (z_gI u 0 8) ≤ ((z_gI u 0 9) + q) then (kx q) else (z_gd (z_inb ((z_gI u 0 9) + q) 400) (Option.bind (f_X10_isIn ((z_gI u 6 ((z_gI u 0 9) + q).toNatClampNeg).toInt64) 97 122) (fun r5 => if r5 = 0 then (kx q) else (kb (q + 1)))))
def b_X10_isWord_74 (x1 : Nat) (u : z_M) : (Int32 × Int32) → ((Int32 × Int32) → Option (Int32 × z_M)) → (Int32 → Option (Int32 × z_M)) → Option (Int32 × z_M) := fun q kb kx =>
  if (z_slen x1) ≤ q.2 then (kx q.1) else (if q.1 = 0 then (kx q.1) else (z_gd (z_inb ((z_gI u 0 9) + q.2) 400) (z_gd (z_inb q.2 (z_slenN x1)) (if (z_gI u 6 ((z_gI u 0 9) + q.2).toNatClampNeg) = (z_chr x1 q.2) then (kb (1, q.2 + 1)) else (kb (0, q.2 + 1))))))
def f_X10_isWord (a1 : Nat) (u : z_M) : Option (Int32 × z_M) :=
  z_b2 (f_X10_next u) (fun r1 u2 => z_lp (b_X10_isWord_7 a1 u2) z_F 0 (fun t7 => if (z_gI u2 0 12) = 0 then (z_lp (b_X10_isWord_74 a1 u2) z_F (0, 0) (fun t14 => z_gd (decide (t14 = 0 ∨ t14 = 1)) (some (t14, u2)))) else (if t7 = (z_slen a1) then (z_lp (b_X10_isWord_74 a1 u2) z_F (1, 0) (fun t17 => z_gd (decide (t17 = 0 ∨ t17 = 1)) (some (t17, u2)))) else (z_lp (b_X10_isWord_74 a1 u2) z_F (0, 0) (fun t19 => z_gd (decide (t19 = 0 ∨ t19 = 1)) (some (t19, u2)))))))
set_option maxRecDepth 20000 in
set_option maxHeartbeats 4000000 in
theorem wb_X10_isWord_7 {p : Program} {l : Launch} {e : Env} {R : Room} {s : State} {m : MethodId} {args : Array Value} {below : List Frame} {meth : Method} {c : Code} {g : z_G} {u : z_M} {res : Int32 × z_M} (hR : R = z_rm 7) (X : z_X p R s m args meth c cX10_isWord 5 RX10 wsX10_isWord (some .boolean) g z_shR) (x1 : Nat) (ex1 : x1 < 3) (q : Int32) (kb : Int32 → Option (Int32 × z_M)) (kx : Int32 → Option (Int32 × z_M)) (hkb : ∀ q, kb q = some res → z_V p l e R s m args below meth c 5 g z_shR (MQ below (z_Qc g z_shR (fun v u' => v = some (.int res.1) ∧ u' = res.2)) args s 0 0 (z_A g z_shR)) 7 [(0, .ref (z_ad g 0)), (1, .ref (g.2.2.2.1 x1)), (2, .int q)] [] u) (hkx : ∀ t, kx t = some res → z_V p l e R s m args below meth c 5 g z_shR (MQ below (z_Qc g z_shR (fun v u' => v = some (.int res.1) ∧ u' = res.2)) args s 0 0 (z_A g z_shR)) 50 [(0, .ref (z_ad g 0)), (1, .ref (g.2.2.2.1 x1)), (2, .int t)] [] u) (h : b_X10_isWord_7 x1 u q kb kx = some res) : z_V p l e R s m args below meth c 5 g z_shR (MQ below (z_Qc g z_shR (fun v u' => v = some (.int res.1) ∧ u' = res.2)) args s 0 0 (z_A g z_shR)) 7 [(0, .ref (z_ad g 0)), (1, .ref (g.2.2.2.1 x1)), (2, .int q)] [] u := by
  unfold b_X10_isWord_7 at h
  refine z_aload_n X 0 dX10_isWord_7 rfl rfl (z_getI X (k0 := 9) z_r0 rfl in_X10_isWord_X10 (by decide) rfl rfl lk_X10_isWord_126 dX10_isWord_8 (z_iload_n X 2 dX10_isWord_11 rfl rfl (z_iadd X dX10_isWord_12 (z_aload_n X 0 dX10_isWord_13 rfl rfl (z_getI X (k0 := 8) z_r0 rfl in_X10_isWord_X10 (by decide) rfl rfl lk_X10_isWord_116 dX10_isWord_14 (z_icmp_ge X 50 dX10_isWord_17 (by decide) (fun c3 => ?_) (fun c3 => ?_)))))))
  · replace h := z_ip c3 h
    exact hkx q h
  · replace h := z_in c3 h
    obtain ⟨b4, h⟩ := z_gs h
    obtain ⟨r5, er5, h⟩ := z_bs h
    refine z_aload_n X 0 dX10_isWord_20 rfl rfl (z_getR X (k0 := 7) z_r0 rfl in_X10_isWord_X10 (by decide) rfl rfl lk_X10_isWord_28 dX10_isWord_21 (z_aload_n X 0 dX10_isWord_24 rfl rfl (z_getI X (k0 := 9) z_r0 rfl in_X10_isWord_X10 (by decide) rfl rfl lk_X10_isWord_126 dX10_isWord_25 (z_iload_n X 2 dX10_isWord_28 rfl rfl (z_iadd X dX10_isWord_29 (z_bald X z_r6 (z_inS b4) dX10_isWord_30 (z_i2l X dX10_isWord_31 (z_ldc2 X dX10_isWord_32 ct133_X10_isWord (z_ldc2 X dX10_isWord_35 ct135_X10_isWord (z_callSi X (r := r5) (u1 := u) [.long ((z_gI u 6 ((z_gI u 0 9) + q).toNatClampNeg).toInt64), .long 97, .long 122] [] (w_X10_isIn l g ((z_gI u 6 ((z_gI u 0 9) + q).toNatClampNeg).toInt64) 97 122 u er5) gX10_isWord_X10_isIn hy_X10_isIn.2 rfl (z_le1 hR (by decide)) (z_le2 hR (by decide) (by decide)) (Nat.le_of_ble_eq_true rfl) dX10_isWord_38 (z_if_eq X 50 dX10_isWord_41 (by decide) (fun c6 => ?_) (fun c6 => ?_))))))))))))
    · replace h := z_ip c6 h
      exact hkx q h
    · replace h := z_in c6 h
      refine z_iinc X (v := q + 1) 2 [(2, .int (q + 1)), (0, .ref (z_ad g 0)), (1, .ref (g.2.2.2.1 x1))] dX10_isWord_44 rfl rfl (by decide) rfl (z_goto X 7 dX10_isWord_47 (by decide) (z_sub [1, 2, 0] [(0, .ref (z_ad g 0)), (1, .ref (g.2.2.2.1 x1)), (2, .int (q + 1))] rfl ?_))
      exact hkb (q + 1) h
set_option maxRecDepth 20000 in
set_option maxHeartbeats 4000000 in
theorem wb_X10_isWord_74 {p : Program} {l : Launch} {e : Env} {R : Room} {s : State} {m : MethodId} {args : Array Value} {below : List Frame} {meth : Method} {c : Code} {g : z_G} {u : z_M} {res : Int32 × z_M} (hR : R = z_rm 7) (X : z_X p R s m args meth c cX10_isWord 5 RX10 wsX10_isWord (some .boolean) g z_shR) (x1 : Nat) (ex1 : x1 < 3) (q : Int32 × Int32) (kb : (Int32 × Int32) → Option (Int32 × z_M)) (kx : Int32 → Option (Int32 × z_M)) (hkb : ∀ q, kb q = some res → z_V p l e R s m args below meth c 5 g z_shR (MQ below (z_Qc g z_shR (fun v u' => v = some (.int res.1) ∧ u' = res.2)) args s 0 0 (z_A g z_shR)) 74 [(0, .ref (z_ad g 0)), (1, .ref (g.2.2.2.1 x1)), (3, .int q.1), (4, .int q.2)] [] u) (hkx : ∀ t, kx t = some res → z_V p l e R s m args below meth c 5 g z_shR (MQ below (z_Qc g z_shR (fun v u' => v = some (.int res.1) ∧ u' = res.2)) args s 0 0 (z_A g z_shR)) 120 [(3, .int t)] [] u) (h : b_X10_isWord_74 x1 u q kb kx = some res) : z_V p l e R s m args below meth c 5 g z_shR (MQ below (z_Qc g z_shR (fun v u' => v = some (.int res.1) ∧ u' = res.2)) args s 0 0 (z_A g z_shR)) 74 [(0, .ref (z_ad g 0)), (1, .ref (g.2.2.2.1 x1)), (3, .int q.1), (4, .int q.2)] [] u := by
  unfold b_X10_isWord_74 at h
  refine z_iload X 3 dX10_isWord_74 rfl (z_aload_n X 1 dX10_isWord_76 rfl rfl (z_callTi X (r := z_slen x1) (u1 := u) [] [.int q.2] (w_slen l g z_shR x1 ex1 u) ex1 gX10_isWord_J0_length_8abf5 hy_J0_length_8abf5 rfl (z_le1 hR (by decide)) (z_le2 hR (by decide) (by decide)) (Nat.le_of_ble_eq_true rfl) dX10_isWord_77 (z_icmp_ge X 120 dX10_isWord_80 (by decide) (fun c9 => ?_) (fun c9 => ?_))))
  · replace h := z_ip c9 h
    refine z_sub [2] [(3, .int q.1)] rfl ?_
    exact hkx q.1 h
  · replace h := z_in c9 h
    refine z_iload_n X 2 dX10_isWord_83 rfl rfl (z_if_eq X 120 dX10_isWord_84 (by decide) (fun c10 => ?_) (fun c10 => ?_))
    · replace h := z_ip c10 h
      refine z_sub [2] [(3, .int q.1)] rfl ?_
      exact hkx q.1 h
    · replace h := z_in c10 h
      obtain ⟨b11, h⟩ := z_gs h
      obtain ⟨b12, h⟩ := z_gs h
      refine z_aload_n X 0 dX10_isWord_87 rfl rfl (z_getR X (k0 := 7) z_r0 rfl in_X10_isWord_X10 (by decide) rfl rfl lk_X10_isWord_28 dX10_isWord_88 (z_aload_n X 0 dX10_isWord_91 rfl rfl (z_getI X (k0 := 9) z_r0 rfl in_X10_isWord_X10 (by decide) rfl rfl lk_X10_isWord_126 dX10_isWord_92 (z_iload X 3 dX10_isWord_95 rfl (z_iadd X dX10_isWord_97 (z_bald X z_r6 (z_inS b11) dX10_isWord_98 (z_aload_n X 1 dX10_isWord_99 rfl rfl (z_iload X 3 dX10_isWord_100 rfl (z_callTi X (r := z_chr x1 q.2) (u1 := u) [.int q.2] [.int (z_gI u 6 ((z_gI u 0 9) + q.2).toNatClampNeg)] (w_schr l g z_shR x1 ex1 q.2 (z_inS b12) u) ex1 gX10_isWord_J0_charAt_5068e hy_J0_charAt_5068e rfl (z_le1 hR (by decide)) (z_le2 hR (by decide) (by decide)) (Nat.le_of_ble_eq_true rfl) dX10_isWord_102 (z_icmp_ne X 112 dX10_isWord_105 (by decide) (fun c13 => ?_) (fun c13 => ?_)))))))))))
      · replace h := z_in c13 h
        refine z_iconst X (v := 0) dX10_isWord_112 (by decide) (z_istore_n X [(3, .int 0), (0, .ref (z_ad g 0)), (1, .ref (g.2.2.2.1 x1)), (4, .int q.2)] dX10_isWord_113 rfl (by decide) rfl (z_iinc X (v := q.2 + 1) 3 [(4, .int (q.2 + 1)), (3, .int 0), (0, .ref (z_ad g 0)), (1, .ref (g.2.2.2.1 x1))] dX10_isWord_114 rfl rfl (by decide) rfl (z_goto X 74 dX10_isWord_117 (by decide) (z_sub [2, 3, 1, 0] [(0, .ref (z_ad g 0)), (1, .ref (g.2.2.2.1 x1)), (3, .int 0), (4, .int (q.2 + 1))] rfl ?_))))
        exact hkb (0, q.2 + 1) h
      · replace h := z_ip c13 h
        refine z_iconst X (v := 1) dX10_isWord_108 (by decide) (z_goto X 113 dX10_isWord_109 (by decide) (z_istore_n X [(3, .int 1), (0, .ref (z_ad g 0)), (1, .ref (g.2.2.2.1 x1)), (4, .int q.2)] dX10_isWord_113 rfl (by decide) rfl (z_iinc X (v := q.2 + 1) 3 [(4, .int (q.2 + 1)), (3, .int 1), (0, .ref (z_ad g 0)), (1, .ref (g.2.2.2.1 x1))] dX10_isWord_114 rfl rfl (by decide) rfl (z_goto X 74 dX10_isWord_117 (by decide) (z_sub [2, 3, 1, 0] [(0, .ref (z_ad g 0)), (1, .ref (g.2.2.2.1 x1)), (3, .int 1), (4, .int (q.2 + 1))] rfl ?_)))))
        exact hkb (1, q.2 + 1) h
set_option maxRecDepth 20000 in
set_option maxHeartbeats 4000000 in
theorem w_X10_isWord (l : Launch) (g : z_G) (a1 : Nat) (ea1 : a1 < 3) (u : z_M) {res : Int32 × z_M} (h : f_X10_isWord a1 u = some res) : z_C l g z_shR yX10_isWord wsX10_isWord 7 [.ref (z_ad g 0), .ref (g.2.2.2.1 a1)] u (fun v u' => v = some (.int res.1) ∧ u' = res.2) := by
  refine z_C.mk (lv := [(0, .ref (z_ad g 0)), (1, .ref (g.2.2.2.1 a1))]) (cc := cX10_isWord) (nL := 5) (rt := (some .boolean)) rfl (by decide) (Nat.le_of_ble_eq_true rfl) rfl (fun p e R s m args below meth c hR X => ?_)
  unfold f_X10_isWord at h
  obtain ⟨r1, u2, er1, h⟩ := z_b2s h
  refine z_aload_n X 0 dX10_isWord_0 rfl rfl (z_callVi X (r := r1) (u1 := u2) [] [] (w_X10_next l g u er1) z_r0 rfl gX10_isWord_X10_next hy_X10_next rfl (z_le1 hR (by decide)) (z_le2 hR (by decide) (by decide)) (Nat.le_of_ble_eq_true rfl) dX10_isWord_1 (z_pop X dX10_isWord_4 rfl (z_iconst X (v := 0) dX10_isWord_5 (by decide) (z_istore_n X [(2, .int 0), (0, .ref (z_ad g 0)), (1, .ref (g.2.2.2.1 a1))] dX10_isWord_6 rfl (by decide) rfl (z_sub [1, 2, 0] [(0, .ref (z_ad g 0)), (1, .ref (g.2.2.2.1 a1)), (2, .int 0)] rfl ?_)))))
  have hw := z_lp_w (fun q9 kb9 kx9 h1 h2 h3 => wb_X10_isWord_7 (l := l) (e := e) (below := below) (u := u2) hR X a1 ea1 q9 kb9 kx9 h1 h2 h3) z_F _ _ h
  refine hw (fun t7 h => ?_)
  refine z_aload_n X 0 dX10_isWord_50 rfl rfl (z_getI X (k0 := 12) z_r0 rfl in_X10_isWord_X10 (by decide) rfl rfl lk_X10_isWord_122 dX10_isWord_51 (z_if_eq X 69 dX10_isWord_54 (by decide) (fun c8 => ?_) (fun c8 => ?_)))
  · replace h := z_ip c8 h
    refine z_iconst X (v := 0) dX10_isWord_69 (by decide) (z_istore_n X [(3, .int 0), (0, .ref (z_ad g 0)), (1, .ref (g.2.2.2.1 a1)), (2, .int t7)] dX10_isWord_70 rfl (by decide) rfl (z_iconst X (v := 0) dX10_isWord_71 (by decide) (z_istore X [(4, .int 0), (3, .int 0), (0, .ref (z_ad g 0)), (1, .ref (g.2.2.2.1 a1)), (2, .int t7)] dX10_isWord_72 (by decide) rfl (z_sub [2, 3, 1, 0] [(0, .ref (z_ad g 0)), (1, .ref (g.2.2.2.1 a1)), (3, .int 0), (4, .int 0)] rfl ?_))))
    have hw := z_lp_w (fun q9 kb9 kx9 h1 h2 h3 => wb_X10_isWord_74 (l := l) (e := e) (below := below) (u := u2) hR X a1 ea1 q9 kb9 kx9 h1 h2 h3) z_F _ _ h
    refine hw (fun t14 h => ?_)
    obtain ⟨b15, h⟩ := z_gs h
    refine z_iload_n X 0 dX10_isWord_120 rfl rfl ?_
    cases h; exact z_zret X rfl (z_nz b15) dX10_isWord_121 ⟨rfl, rfl⟩
  · replace h := z_in c8 h
    refine z_iload_n X 2 dX10_isWord_57 rfl rfl (z_aload_n X 1 dX10_isWord_58 rfl rfl (z_callTi X (r := z_slen a1) (u1 := u2) [] [.int t7] (w_slen l g z_shR a1 ea1 u2) ea1 gX10_isWord_J0_length_8abf5 hy_J0_length_8abf5 rfl (z_le1 hR (by decide)) (z_le2 hR (by decide) (by decide)) (Nat.le_of_ble_eq_true rfl) dX10_isWord_59 (z_icmp_ne X 69 dX10_isWord_62 (by decide) (fun c16 => ?_) (fun c16 => ?_))))
    · replace h := z_in c16 h
      refine z_iconst X (v := 0) dX10_isWord_69 (by decide) (z_istore_n X [(3, .int 0), (0, .ref (z_ad g 0)), (1, .ref (g.2.2.2.1 a1)), (2, .int t7)] dX10_isWord_70 rfl (by decide) rfl (z_iconst X (v := 0) dX10_isWord_71 (by decide) (z_istore X [(4, .int 0), (3, .int 0), (0, .ref (z_ad g 0)), (1, .ref (g.2.2.2.1 a1)), (2, .int t7)] dX10_isWord_72 (by decide) rfl (z_sub [2, 3, 1, 0] [(0, .ref (z_ad g 0)), (1, .ref (g.2.2.2.1 a1)), (3, .int 0), (4, .int 0)] rfl ?_))))
      have hw := z_lp_w (fun q9 kb9 kx9 h1 h2 h3 => wb_X10_isWord_74 (l := l) (e := e) (below := below) (u := u2) hR X a1 ea1 q9 kb9 kx9 h1 h2 h3) z_F _ _ h
      refine hw (fun t19 h => ?_)
      obtain ⟨b20, h⟩ := z_gs h
      refine z_iload_n X 0 dX10_isWord_120 rfl rfl ?_
      cases h; exact z_zret X rfl (z_nz b20) dX10_isWord_121 ⟨rfl, rfl⟩
    · replace h := z_ip c16 h
      refine z_iconst X (v := 1) dX10_isWord_65 (by decide) (z_goto X 70 dX10_isWord_66 (by decide) (z_istore_n X [(3, .int 1), (0, .ref (z_ad g 0)), (1, .ref (g.2.2.2.1 a1)), (2, .int t7)] dX10_isWord_70 rfl (by decide) rfl (z_iconst X (v := 0) dX10_isWord_71 (by decide) (z_istore X [(4, .int 0), (3, .int 1), (0, .ref (z_ad g 0)), (1, .ref (g.2.2.2.1 a1)), (2, .int t7)] dX10_isWord_72 (by decide) rfl (z_sub [2, 3, 1, 0] [(0, .ref (z_ad g 0)), (1, .ref (g.2.2.2.1 a1)), (3, .int 1), (4, .int 0)] rfl ?_)))))
      have hw := z_lp_w (fun q9 kb9 kx9 h1 h2 h3 => wb_X10_isWord_74 (l := l) (e := e) (below := below) (u := u2) hR X a1 ea1 q9 kb9 kx9 h1 h2 h3) z_F _ _ h
      refine hw (fun t17 h => ?_)
      obtain ⟨b18, h⟩ := z_gs h
      refine z_iload_n X 0 dX10_isWord_120 rfl rfl ?_
      cases h; exact z_zret X rfl (z_nz b18) dX10_isWord_121 ⟨rfl, rfl⟩

theorem lk_X10_takes_122 : (Cond.fieldLink RX10 122 RX10 (TX10 12).2.1 (TX10 12).2.2.1) ∈ wsX10_takes := by decide +kernel
theorem in_X10_takes_X10 : ∀ w ∈ u_ws RX10 TX10 30, w ∈ wsX10_takes := by decide +kernel
theorem lk_X10_takes_126 : (Cond.fieldLink RX10 126 RX10 (TX10 9).2.1 (TX10 9).2.2.1) ∈ wsX10_takes := by decide +kernel
theorem lk_X10_takes_116 : (Cond.fieldLink RX10 116 RX10 (TX10 8).2.1 (TX10 8).2.2.1) ∈ wsX10_takes := by decide +kernel
def j_X10_takes_j31 (x90 : Int32) (w : z_M) : Option (Int32 × z_M) :=
  if x90 = 0 then (z_lt (z_sI w 0 9 ((z_gI w 0 9) + 0)) (fun u3 => z_gd (decide (x90 = 0 ∨ x90 = 1)) (some (x90, u3)))) else (z_lt (z_sI w 0 9 ((z_gI w 0 9) + 1)) (fun u5 => z_gd (decide (x90 = 0 ∨ x90 = 1)) (some (x90, u5))))
def j_X10_takes_j30 (w : z_M) : Option (Int32 × z_M) :=
  j_X10_takes_j31 0 w
def f_X10_takes (a1 : Int32) (u : z_M) : Option (Int32 × z_M) :=
  if (z_gI u 0 12) = 0 then (j_X10_takes_j30 u) else (z_b2 (f_X10_next u) (fun r7 u8 => if r7 = a1 then (if (z_gI u8 0 8) ≤ (z_gI u8 0 9) then (j_X10_takes_j30 u8) else (j_X10_takes_j31 1 u8)) else (j_X10_takes_j30 u8)))
set_option maxRecDepth 20000 in
set_option maxHeartbeats 4000000 in
theorem wj_X10_takes_j31 {p : Program} {l : Launch} {e : Env} {R : Room} {s : State} {m : MethodId} {args : Array Value} {below : List Frame} {meth : Method} {c : Code} {g : z_G} {u : z_M} {res : Int32 × z_M} (hR : R = z_rm 2) (X : z_X p R s m args meth c cX10_takes 3 RX10 wsX10_takes (some .boolean) g z_shR) (x90 : Int32) (w : z_M) (h : j_X10_takes_j31 x90 w = some res) : z_V p l e R s m args below meth c 3 g z_shR (MQ below (z_Qc g z_shR (fun v u' => v = some (.int res.1) ∧ u' = res.2)) args s 0 0 (z_A g z_shR)) 31 [(0, .ref (z_ad g 0))] [.int x90] w := by
  unfold j_X10_takes_j31 at h
  refine z_istore_n X [(2, .int x90), (0, .ref (z_ad g 0))] dX10_takes_31 rfl (by decide) rfl (z_aload_n X 1 dX10_takes_32 rfl rfl (z_dup X dX10_takes_33 rfl (z_getI X (k0 := 9) z_r0 rfl in_X10_takes_X10 (by decide) rfl rfl lk_X10_takes_126 dX10_takes_34 (z_iload_n X 0 dX10_takes_37 rfl rfl (z_if_eq X 45 dX10_takes_38 (by decide) (fun c2 => ?_) (fun c2 => ?_))))))
  · replace h := z_ip c2 h
    obtain ⟨u3, eu3, h⟩ := z_ls h
    obtain ⟨b4, h⟩ := z_gs h
    refine z_iconst X (v := 0) dX10_takes_45 (by decide) (z_iadd X dX10_takes_46 (z_putI X (k0 := 9) (ty0 := tyX10) z_r0 rfl in_X10_takes_X10 tyX10_ok nmX10 (by decide) rfl rfl rfl rfl rfl lk_X10_takes_126 dX10_takes_47 (z_nm eu3 (z_iload_n X 0 dX10_takes_50 rfl rfl ?_))))
    cases h; exact z_zret X rfl (z_nz b4) dX10_takes_51 ⟨rfl, rfl⟩
  · replace h := z_in c2 h
    obtain ⟨u5, eu5, h⟩ := z_ls h
    obtain ⟨b6, h⟩ := z_gs h
    refine z_iconst X (v := 1) dX10_takes_41 (by decide) (z_goto X 46 dX10_takes_42 (by decide) (z_iadd X dX10_takes_46 (z_putI X (k0 := 9) (ty0 := tyX10) z_r0 rfl in_X10_takes_X10 tyX10_ok nmX10 (by decide) rfl rfl rfl rfl rfl lk_X10_takes_126 dX10_takes_47 (z_nm eu5 (z_iload_n X 0 dX10_takes_50 rfl rfl ?_)))))
    cases h; exact z_zret X rfl (z_nz b6) dX10_takes_51 ⟨rfl, rfl⟩
set_option maxRecDepth 20000 in
set_option maxHeartbeats 4000000 in
theorem wj_X10_takes_j30 {p : Program} {l : Launch} {e : Env} {R : Room} {s : State} {m : MethodId} {args : Array Value} {below : List Frame} {meth : Method} {c : Code} {g : z_G} {u : z_M} {res : Int32 × z_M} (hR : R = z_rm 2) (X : z_X p R s m args meth c cX10_takes 3 RX10 wsX10_takes (some .boolean) g z_shR)  (w : z_M) (h : j_X10_takes_j30 w = some res) : z_V p l e R s m args below meth c 3 g z_shR (MQ below (z_Qc g z_shR (fun v u' => v = some (.int res.1) ∧ u' = res.2)) args s 0 0 (z_A g z_shR)) 30 [(0, .ref (z_ad g 0))] [] w := by
  unfold j_X10_takes_j30 at h
  refine z_iconst X (v := 0) dX10_takes_30 (by decide) ?_
  exact wj_X10_takes_j31 (u := w) hR X 0 w h
set_option maxRecDepth 20000 in
set_option maxHeartbeats 4000000 in
theorem w_X10_takes (l : Launch) (g : z_G) (a1 : Int32) (u : z_M) {res : Int32 × z_M} (h : f_X10_takes a1 u = some res) : z_C l g z_shR yX10_takes wsX10_takes 2 [.ref (z_ad g 0), .int a1] u (fun v u' => v = some (.int res.1) ∧ u' = res.2) := by
  refine z_C.mk (lv := [(0, .ref (z_ad g 0)), (1, .int a1)]) (cc := cX10_takes) (nL := 3) (rt := (some .boolean)) rfl (by decide) (Nat.le_of_ble_eq_true rfl) rfl (fun p e R s m args below meth c hR X => ?_)
  unfold f_X10_takes at h
  refine z_aload_n X 0 dX10_takes_0 rfl rfl (z_getI X (k0 := 12) z_r0 rfl in_X10_takes_X10 (by decide) rfl rfl lk_X10_takes_122 dX10_takes_1 (z_if_eq X 30 dX10_takes_4 (by decide) (fun c1 => ?_) (fun c1 => ?_)))
  · replace h := z_ip c1 h
    refine z_sub [0] [(0, .ref (z_ad g 0))] rfl ?_
    exact wj_X10_takes_j30 (u := u) hR X u h
  · replace h := z_in c1 h
    obtain ⟨r7, u8, er7, h⟩ := z_b2s h
    refine z_aload_n X 0 dX10_takes_7 rfl rfl (z_callVi X (r := r7) (u1 := u8) [] [] (w_X10_next l g u er7) z_r0 rfl gX10_takes_X10_next hy_X10_next rfl (z_le1 hR (by decide)) (z_le2 hR (by decide) (by decide)) (Nat.le_of_ble_eq_true rfl) dX10_takes_8 (z_iload_n X 1 dX10_takes_11 rfl rfl (z_icmp_ne X 30 dX10_takes_12 (by decide) (fun c9 => ?_) (fun c9 => ?_))))
    · replace h := z_in c9 h
      refine z_sub [0] [(0, .ref (z_ad g 0))] rfl ?_
      exact wj_X10_takes_j30 (u := u8) hR X u8 h
    · replace h := z_ip c9 h
      refine z_aload_n X 0 dX10_takes_15 rfl rfl (z_getI X (k0 := 9) z_r0 rfl in_X10_takes_X10 (by decide) rfl rfl lk_X10_takes_126 dX10_takes_16 (z_aload_n X 0 dX10_takes_19 rfl rfl (z_getI X (k0 := 8) z_r0 rfl in_X10_takes_X10 (by decide) rfl rfl lk_X10_takes_116 dX10_takes_20 (z_icmp_ge X 30 dX10_takes_23 (by decide) (fun c10 => ?_) (fun c10 => ?_)))))
      · replace h := z_ip c10 h
        refine z_sub [0] [(0, .ref (z_ad g 0))] rfl ?_
        exact wj_X10_takes_j30 (u := u8) hR X u8 h
      · replace h := z_in c10 h
        refine z_iconst X (v := 1) dX10_takes_26 (by decide) (z_goto X 31 dX10_takes_27 (by decide) (z_sub [0] [(0, .ref (z_ad g 0))] rfl ?_))
        exact wj_X10_takes_j31 (u := u8) hR X 1 u8 h

theorem lk_X10_isNumber_122 : (Cond.fieldLink RX10 122 RX10 (TX10 12).2.1 (TX10 12).2.2.1) ∈ wsX10_isNumber := by decide +kernel
theorem in_X10_isNumber_X10 : ∀ w ∈ u_ws RX10 TX10 30, w ∈ wsX10_isNumber := by decide +kernel
theorem ct150_X10_isNumber : Cond.constantLong RX10 150 48 ∈ wsX10_isNumber := by decide +kernel
theorem ct152_X10_isNumber : Cond.constantLong RX10 152 57 ∈ wsX10_isNumber := by decide +kernel
def f_X10_isNumber (u : z_M) : Option (Int32 × z_M) :=
  if (z_gI u 0 12) = 0 then (some (0, u)) else (z_b2 (f_X10_next u) (fun r2 u3 => Option.bind (f_X10_isIn r2.toInt64 48 57) (fun r4 => if r4 = 0 then (some (0, u3)) else (some (1, u3)))))
set_option maxRecDepth 20000 in
set_option maxHeartbeats 4000000 in
theorem w_X10_isNumber (l : Launch) (g : z_G)  (u : z_M) {res : Int32 × z_M} (h : f_X10_isNumber u = some res) : z_C l g z_shR yX10_isNumber wsX10_isNumber 2 [.ref (z_ad g 0)] u (fun v u' => v = some (.int res.1) ∧ u' = res.2) := by
  refine z_C.mk (lv := [(0, .ref (z_ad g 0))]) (cc := cX10_isNumber) (nL := 1) (rt := (some .boolean)) rfl (by decide) (Nat.le_of_ble_eq_true rfl) rfl (fun p e R s m args below meth c hR X => ?_)
  unfold f_X10_isNumber at h
  refine z_aload_n X 0 dX10_isNumber_0 rfl rfl (z_getI X (k0 := 12) z_r0 rfl in_X10_isNumber_X10 (by decide) rfl rfl lk_X10_isNumber_122 dX10_isNumber_1 (z_if_eq X 28 dX10_isNumber_4 (by decide) (fun c1 => ?_) (fun c1 => ?_)))
  · replace h := z_ip c1 h
    refine z_iconst X (v := 0) dX10_isNumber_28 (by decide) ?_
    cases h; exact z_zret X rfl rfl dX10_isNumber_29 ⟨rfl, rfl⟩
  · replace h := z_in c1 h
    obtain ⟨r2, u3, er2, h⟩ := z_b2s h
    obtain ⟨r4, er4, h⟩ := z_bs h
    refine z_aload_n X 0 dX10_isNumber_7 rfl rfl (z_callVi X (r := r2) (u1 := u3) [] [] (w_X10_next l g u er2) z_r0 rfl gX10_isNumber_X10_next hy_X10_next rfl (z_le1 hR (by decide)) (z_le2 hR (by decide) (by decide)) (Nat.le_of_ble_eq_true rfl) dX10_isNumber_8 (z_i2l X dX10_isNumber_11 (z_ldc2 X dX10_isNumber_12 ct150_X10_isNumber (z_ldc2 X dX10_isNumber_15 ct152_X10_isNumber (z_callSi X (r := r4) (u1 := u3) [.long r2.toInt64, .long 48, .long 57] [] (w_X10_isIn l g r2.toInt64 48 57 u3 er4) gX10_isNumber_X10_isIn hy_X10_isIn.2 rfl (z_le1 hR (by decide)) (z_le2 hR (by decide) (by decide)) (Nat.le_of_ble_eq_true rfl) dX10_isNumber_18 (z_if_eq X 28 dX10_isNumber_21 (by decide) (fun c5 => ?_) (fun c5 => ?_)))))))
    · replace h := z_ip c5 h
      refine z_iconst X (v := 0) dX10_isNumber_28 (by decide) ?_
      cases h; exact z_zret X rfl rfl dX10_isNumber_29 ⟨rfl, rfl⟩
    · replace h := z_in c5 h
      refine z_iconst X (v := 1) dX10_isNumber_24 (by decide) (z_goto X 29 dX10_isNumber_25 (by decide) ?_)
      cases h; exact z_zret X rfl rfl dX10_isNumber_29 ⟨rfl, rfl⟩

theorem lk_X10_number_126 : (Cond.fieldLink RX10 126 RX10 (TX10 9).2.1 (TX10 9).2.2.1) ∈ wsX10_number := by decide +kernel
theorem in_X10_number_X10 : ∀ w ∈ u_ws RX10 TX10 30, w ∈ wsX10_number := by decide +kernel
theorem lk_X10_number_116 : (Cond.fieldLink RX10 116 RX10 (TX10 8).2.1 (TX10 8).2.2.1) ∈ wsX10_number := by decide +kernel
theorem lk_X10_number_28 : (Cond.fieldLink RX10 28 RX10 (TX10 7).2.1 (TX10 7).2.2.1) ∈ wsX10_number := by decide +kernel
theorem ct150_X10_number : Cond.constantLong RX10 150 48 ∈ wsX10_number := by decide +kernel
theorem ct152_X10_number : Cond.constantLong RX10 152 57 ∈ wsX10_number := by decide +kernel
theorem lk_X10_number_122 : (Cond.fieldLink RX10 122 RX10 (TX10 12).2.1 (TX10 12).2.2.1) ∈ wsX10_number := by decide +kernel
theorem hy_X10_wrong : yX10_wrong.cls = RX10 ∧ yX10_wrong.cls ≠ "java/lang/invoke/MethodHandle" ∧ yX10_wrong.cls ≠ "java/lang/invoke/VarHandle" ∧ (parseMethodDescriptor yX10_wrong.desc).map (fun d => d.parameters.length) = some 2 := by decide +kernel
def b_X10_number_13 (x1 : Int32) (x2 : Int32) (x3 : Int32) : (Int32 × z_M) → ((Int32 × z_M) → Option (Int32 × z_M)) → ((Int32 × z_M) → Option (Int32 × z_M)) → Option (Int32 × z_M) := fun q kb kx =>
  if (z_gI q.2 0 8) ≤ (z_gI q.2 0 9) then (kx (q.1, q.2)) else (z_gd (z_inb (z_gI q.2 0 9) 400) (Option.bind (f_X10_isIn ((z_gI q.2 6 (z_gI q.2 0 9).toNatClampNeg).toInt64) 48 57) (fun r6 => if r6 = 0 then (kx (q.1, q.2)) else (if 3 ≤ ((z_gI q.2 0 9) - x3) then (z_lt (z_sI q.2 0 9 ((z_gI q.2 0 9) + 1)) (fun u9 => kb (q.1, u9))) else (z_gd (z_inb (z_gI q.2 0 9) 400) (z_lt (((10 * q.1) + (z_gI q.2 6 (z_gI q.2 0 9).toNatClampNeg)) - 48) (fun v11 => z_lt (z_sI q.2 0 9 ((z_gI q.2 0 9) + 1)) (fun u12 => kb (v11, u12)))))))))
def f_X10_number (a1 : Int32) (a2 : Int32) (u : z_M) : Option (Int32 × z_M) :=
  z_b2 (f_X10_next u) (fun r1 u2 => z_lt (z_gI u2 0 9) (fun v3 => z_lp (b_X10_number_13 a1 a2 v3) z_F (0, u2) (fun t13 => if (z_gI t13.2 0 9) = v3 then (Option.bind (f_X10_wrong 1 v3 t13.2) (fun r15 => if (z_gI r15 0 12) = 0 then (some (0, r15)) else (some (t13.1, r15)))) else (if 2 < ((z_gI t13.2 0 9) - v3) then (Option.bind (f_X10_wrong 2 v3 t13.2) (fun r18 => if (z_gI r18 0 12) = 0 then (some (0, r18)) else (some (t13.1, r18)))) else (Option.bind (f_X10_isIn t13.1.toInt64 a1.toInt64 a2.toInt64) (fun r20 => if r20 = 0 then (Option.bind (f_X10_wrong 2 v3 t13.2) (fun r22 => if (z_gI r22 0 12) = 0 then (some (0, r22)) else (some (t13.1, r22)))) else (if (z_gI t13.2 0 12) = 0 then (some (0, t13.2)) else (some (t13.1, t13.2)))))))))
set_option maxRecDepth 20000 in
set_option maxHeartbeats 4000000 in
theorem wb_X10_number_13 {p : Program} {l : Launch} {e : Env} {R : Room} {s : State} {m : MethodId} {args : Array Value} {below : List Frame} {meth : Method} {c : Code} {g : z_G} {u : z_M} {res : Int32 × z_M} (hR : R = z_rm 2) (X : z_X p R s m args meth c cX10_number 5 RX10 wsX10_number (some .int) g z_shR) (x1 : Int32) (x2 : Int32) (x3 : Int32) (q : Int32 × z_M) (kb : (Int32 × z_M) → Option (Int32 × z_M)) (kx : (Int32 × z_M) → Option (Int32 × z_M)) (hkb : ∀ q, kb q = some res → z_V p l e R s m args below meth c 5 g z_shR (MQ below (z_Qc g z_shR (fun v u' => v = some (.int res.1) ∧ u' = res.2)) args s 0 0 (z_A g z_shR)) 13 [(0, .ref (z_ad g 0)), (1, .int x1), (2, .int x2), (3, .int x3), (4, .int q.1)] [] q.2) (hkx : ∀ t, kx t = some res → z_V p l e R s m args below meth c 5 g z_shR (MQ below (z_Qc g z_shR (fun v u' => v = some (.int res.1) ∧ u' = res.2)) args s 0 0 (z_A g z_shR)) 94 [(0, .ref (z_ad g 0)), (1, .int x1), (2, .int x2), (3, .int x3), (4, .int t.1)] [] t.2) (h : b_X10_number_13 x1 x2 x3 q kb kx = some res) : z_V p l e R s m args below meth c 5 g z_shR (MQ below (z_Qc g z_shR (fun v u' => v = some (.int res.1) ∧ u' = res.2)) args s 0 0 (z_A g z_shR)) 13 [(0, .ref (z_ad g 0)), (1, .int x1), (2, .int x2), (3, .int x3), (4, .int q.1)] [] q.2 := by
  unfold b_X10_number_13 at h
  refine z_aload_n X 0 dX10_number_13 rfl rfl (z_getI X (k0 := 9) z_r0 rfl in_X10_number_X10 (by decide) rfl rfl lk_X10_number_126 dX10_number_14 (z_aload_n X 0 dX10_number_17 rfl rfl (z_getI X (k0 := 8) z_r0 rfl in_X10_number_X10 (by decide) rfl rfl lk_X10_number_116 dX10_number_18 (z_icmp_ge X 94 dX10_number_21 (by decide) (fun c4 => ?_) (fun c4 => ?_)))))
  · replace h := z_ip c4 h
    exact hkx (q.1, q.2) h
  · replace h := z_in c4 h
    obtain ⟨b5, h⟩ := z_gs h
    obtain ⟨r6, er6, h⟩ := z_bs h
    refine z_aload_n X 0 dX10_number_24 rfl rfl (z_getR X (k0 := 7) z_r0 rfl in_X10_number_X10 (by decide) rfl rfl lk_X10_number_28 dX10_number_25 (z_aload_n X 0 dX10_number_28 rfl rfl (z_getI X (k0 := 9) z_r0 rfl in_X10_number_X10 (by decide) rfl rfl lk_X10_number_126 dX10_number_29 (z_bald X z_r6 (z_inS b5) dX10_number_32 (z_i2l X dX10_number_33 (z_ldc2 X dX10_number_34 ct150_X10_number (z_ldc2 X dX10_number_37 ct152_X10_number (z_callSi X (r := r6) (u1 := q.2) [.long ((z_gI q.2 6 (z_gI q.2 0 9).toNatClampNeg).toInt64), .long 48, .long 57] [] (w_X10_isIn l g ((z_gI q.2 6 (z_gI q.2 0 9).toNatClampNeg).toInt64) 48 57 q.2 er6) gX10_number_X10_isIn hy_X10_isIn.2 rfl (z_le1 hR (by decide)) (z_le2 hR (by decide) (by decide)) (Nat.le_of_ble_eq_true rfl) dX10_number_40 (z_if_eq X 94 dX10_number_43 (by decide) (fun c7 => ?_) (fun c7 => ?_))))))))))
    · replace h := z_ip c7 h
      exact hkx (q.1, q.2) h
    · replace h := z_in c7 h
      refine z_aload_n X 0 dX10_number_46 rfl rfl (z_getI X (k0 := 9) z_r0 rfl in_X10_number_X10 (by decide) rfl rfl lk_X10_number_126 dX10_number_47 (z_iload_n X 3 dX10_number_50 rfl rfl (z_isub X dX10_number_51 (z_iconst X (v := 3) dX10_number_52 (by decide) (z_icmp_ge X 77 dX10_number_53 (by decide) (fun c8 => ?_) (fun c8 => ?_))))))
      · replace h := z_ip c8 h
        obtain ⟨u9, eu9, h⟩ := z_ls h
        refine z_iload X 4 dX10_number_77 rfl (z_istore X [(4, .int q.1), (0, .ref (z_ad g 0)), (1, .int x1), (2, .int x2), (3, .int x3)] dX10_number_79 (by decide) rfl (z_aload_n X 1 dX10_number_81 rfl rfl (z_dup X dX10_number_82 rfl (z_getI X (k0 := 9) z_r0 rfl in_X10_number_X10 (by decide) rfl rfl lk_X10_number_126 dX10_number_83 (z_iconst X (v := 1) dX10_number_86 (by decide) (z_iadd X dX10_number_87 (z_putI X (k0 := 9) (ty0 := tyX10) z_r0 rfl in_X10_number_X10 tyX10_ok nmX10 (by decide) rfl rfl rfl rfl rfl lk_X10_number_126 dX10_number_88 (z_nm eu9 (z_goto X 13 dX10_number_91 (by decide) (z_sub [1, 2, 3, 4, 0] [(0, .ref (z_ad g 0)), (1, .int x1), (2, .int x2), (3, .int x3), (4, .int q.1)] rfl ?_))))))))))
        exact hkb (q.1, u9) h
      · replace h := z_in c8 h
        obtain ⟨b10, h⟩ := z_gs h
        obtain ⟨v11, ev11, h⟩ := z_ls h
        obtain ⟨u12, eu12, h⟩ := z_ls h
        refine z_bipush X (v := 10) dX10_number_56 (by decide) (z_iload X 4 dX10_number_58 rfl (z_imul X dX10_number_60 (z_aload_n X 0 dX10_number_61 rfl rfl (z_getR X (k0 := 7) z_r0 rfl in_X10_number_X10 (by decide) rfl rfl lk_X10_number_28 dX10_number_62 (z_aload_n X 0 dX10_number_65 rfl rfl (z_getI X (k0 := 9) z_r0 rfl in_X10_number_X10 (by decide) rfl rfl lk_X10_number_126 dX10_number_66 (z_bald X z_r6 (z_inS b10) dX10_number_69 (z_iadd X dX10_number_70 (z_bipush X (v := 48) dX10_number_71 (by decide) (z_isub X dX10_number_73 (z_goto X 79 dX10_number_74 (by decide) (z_ti ev11 (z_istore X [(4, .int v11), (0, .ref (z_ad g 0)), (1, .int x1), (2, .int x2), (3, .int x3)] dX10_number_79 (by decide) rfl (z_aload_n X 1 dX10_number_81 rfl rfl (z_dup X dX10_number_82 rfl (z_getI X (k0 := 9) z_r0 rfl in_X10_number_X10 (by decide) rfl rfl lk_X10_number_126 dX10_number_83 (z_iconst X (v := 1) dX10_number_86 (by decide) (z_iadd X dX10_number_87 (z_putI X (k0 := 9) (ty0 := tyX10) z_r0 rfl in_X10_number_X10 tyX10_ok nmX10 (by decide) rfl rfl rfl rfl rfl lk_X10_number_126 dX10_number_88 (z_nm eu12 (z_goto X 13 dX10_number_91 (by decide) (z_sub [1, 2, 3, 4, 0] [(0, .ref (z_ad g 0)), (1, .int x1), (2, .int x2), (3, .int x3), (4, .int v11)] rfl ?_))))))))))))))))))))))
        exact hkb (v11, u12) h
set_option maxRecDepth 20000 in
set_option maxHeartbeats 4000000 in
theorem w_X10_number (l : Launch) (g : z_G) (a1 : Int32) (a2 : Int32) (u : z_M) {res : Int32 × z_M} (h : f_X10_number a1 a2 u = some res) : z_C l g z_shR yX10_number wsX10_number 2 [.ref (z_ad g 0), .int a1, .int a2] u (fun v u' => v = some (.int res.1) ∧ u' = res.2) := by
  refine z_C.mk (lv := [(0, .ref (z_ad g 0)), (1, .int a1), (2, .int a2)]) (cc := cX10_number) (nL := 5) (rt := (some .int)) rfl (by decide) (Nat.le_of_ble_eq_true rfl) rfl (fun p e R s m args below meth c hR X => ?_)
  unfold f_X10_number at h
  obtain ⟨r1, u2, er1, h⟩ := z_b2s h
  obtain ⟨v3, ev3, h⟩ := z_ls h
  refine z_aload_n X 0 dX10_number_0 rfl rfl (z_callVi X (r := r1) (u1 := u2) [] [] (w_X10_next l g u er1) z_r0 rfl gX10_number_X10_next hy_X10_next rfl (z_le1 hR (by decide)) (z_le2 hR (by decide) (by decide)) (Nat.le_of_ble_eq_true rfl) dX10_number_1 (z_pop X dX10_number_4 rfl (z_aload_n X 0 dX10_number_5 rfl rfl (z_getI X (k0 := 9) z_r0 rfl in_X10_number_X10 (by decide) rfl rfl lk_X10_number_126 dX10_number_6 (z_ti ev3 (z_istore_n X [(3, .int v3), (0, .ref (z_ad g 0)), (1, .int a1), (2, .int a2)] dX10_number_9 rfl (by decide) rfl (z_iconst X (v := 0) dX10_number_10 (by decide) (z_istore X [(4, .int 0), (3, .int v3), (0, .ref (z_ad g 0)), (1, .int a1), (2, .int a2)] dX10_number_11 (by decide) rfl (z_sub [2, 3, 4, 1, 0] [(0, .ref (z_ad g 0)), (1, .int a1), (2, .int a2), (3, .int v3), (4, .int 0)] rfl ?_)))))))))
  have hw := z_lp_w (fun q9 kb9 kx9 h1 h2 h3 => wb_X10_number_13 (l := l) (e := e) (below := below) (u := u2) hR X a1 a2 v3 q9 kb9 kx9 h1 h2 h3) z_F _ _ h
  refine hw (fun t13 h => ?_)
  refine z_aload_n X 0 dX10_number_94 rfl rfl (z_getI X (k0 := 9) z_r0 rfl in_X10_number_X10 (by decide) rfl rfl lk_X10_number_126 dX10_number_95 (z_iload_n X 3 dX10_number_98 rfl rfl (z_icmp_ne X 111 dX10_number_99 (by decide) (fun c14 => ?_) (fun c14 => ?_))))
  · replace h := z_in c14 h
    refine z_aload_n X 0 dX10_number_111 rfl rfl (z_getI X (k0 := 9) z_r0 rfl in_X10_number_X10 (by decide) rfl rfl lk_X10_number_126 dX10_number_112 (z_iload_n X 3 dX10_number_115 rfl rfl (z_isub X dX10_number_116 (z_iconst X (v := 2) dX10_number_117 (by decide) (z_icmp_gt X 134 dX10_number_118 (by decide) (fun c17 => ?_) (fun c17 => ?_))))))
    · replace h := z_ip c17 h
      obtain ⟨r18, er18, h⟩ := z_bs h
      refine z_aload_n X 0 dX10_number_134 rfl rfl (z_iconst X (v := 2) dX10_number_135 (by decide) (z_iload_n X 3 dX10_number_136 rfl rfl (z_callVv X (u1 := r18) [.int 2, .int v3] [] (w_X10_wrong l g 2 v3 t13.2 er18) z_r0 rfl gX10_number_X10_wrong hy_X10_wrong rfl (z_le1 hR (by decide)) (z_le2 hR (by decide) (by decide)) (Nat.le_of_ble_eq_true rfl) dX10_number_137 (z_aload_n X 0 dX10_number_140 rfl rfl (z_getI X (k0 := 12) z_r0 rfl in_X10_number_X10 (by decide) rfl rfl lk_X10_number_122 dX10_number_141 (z_if_eq X 152 dX10_number_144 (by decide) (fun c19 => ?_) (fun c19 => ?_)))))))
      · replace h := z_ip c19 h
        refine z_iconst X (v := 0) dX10_number_152 (by decide) ?_
        cases h; exact z_iret X rfl dX10_number_153 ⟨rfl, rfl⟩
      · replace h := z_in c19 h
        refine z_iload X 4 dX10_number_147 rfl (z_goto X 153 dX10_number_149 (by decide) ?_)
        cases h; exact z_iret X rfl dX10_number_153 ⟨rfl, rfl⟩
    · replace h := z_in c17 h
      obtain ⟨r20, er20, h⟩ := z_bs h
      refine z_iload X 4 dX10_number_121 rfl (z_i2l X dX10_number_123 (z_iload_n X 1 dX10_number_124 rfl rfl (z_i2l X dX10_number_125 (z_iload_n X 2 dX10_number_126 rfl rfl (z_i2l X dX10_number_127 (z_callSi X (r := r20) (u1 := t13.2) [.long t13.1.toInt64, .long a1.toInt64, .long a2.toInt64] [] (w_X10_isIn l g t13.1.toInt64 a1.toInt64 a2.toInt64 t13.2 er20) gX10_number_X10_isIn hy_X10_isIn.2 rfl (z_le1 hR (by decide)) (z_le2 hR (by decide) (by decide)) (Nat.le_of_ble_eq_true rfl) dX10_number_128 (z_if_ne X 140 dX10_number_131 (by decide) (fun c21 => ?_) (fun c21 => ?_))))))))
      · replace h := z_in c21 h
        refine z_aload_n X 0 dX10_number_140 rfl rfl (z_getI X (k0 := 12) z_r0 rfl in_X10_number_X10 (by decide) rfl rfl lk_X10_number_122 dX10_number_141 (z_if_eq X 152 dX10_number_144 (by decide) (fun c24 => ?_) (fun c24 => ?_)))
        · replace h := z_ip c24 h
          refine z_iconst X (v := 0) dX10_number_152 (by decide) ?_
          cases h; exact z_iret X rfl dX10_number_153 ⟨rfl, rfl⟩
        · replace h := z_in c24 h
          refine z_iload X 4 dX10_number_147 rfl (z_goto X 153 dX10_number_149 (by decide) ?_)
          cases h; exact z_iret X rfl dX10_number_153 ⟨rfl, rfl⟩
      · replace h := z_ip c21 h
        obtain ⟨r22, er22, h⟩ := z_bs h
        refine z_aload_n X 0 dX10_number_134 rfl rfl (z_iconst X (v := 2) dX10_number_135 (by decide) (z_iload_n X 3 dX10_number_136 rfl rfl (z_callVv X (u1 := r22) [.int 2, .int v3] [] (w_X10_wrong l g 2 v3 t13.2 er22) z_r0 rfl gX10_number_X10_wrong hy_X10_wrong rfl (z_le1 hR (by decide)) (z_le2 hR (by decide) (by decide)) (Nat.le_of_ble_eq_true rfl) dX10_number_137 (z_aload_n X 0 dX10_number_140 rfl rfl (z_getI X (k0 := 12) z_r0 rfl in_X10_number_X10 (by decide) rfl rfl lk_X10_number_122 dX10_number_141 (z_if_eq X 152 dX10_number_144 (by decide) (fun c23 => ?_) (fun c23 => ?_)))))))
        · replace h := z_ip c23 h
          refine z_iconst X (v := 0) dX10_number_152 (by decide) ?_
          cases h; exact z_iret X rfl dX10_number_153 ⟨rfl, rfl⟩
        · replace h := z_in c23 h
          refine z_iload X 4 dX10_number_147 rfl (z_goto X 153 dX10_number_149 (by decide) ?_)
          cases h; exact z_iret X rfl dX10_number_153 ⟨rfl, rfl⟩
  · replace h := z_ip c14 h
    obtain ⟨r15, er15, h⟩ := z_bs h
    refine z_aload_n X 0 dX10_number_102 rfl rfl (z_iconst X (v := 1) dX10_number_103 (by decide) (z_iload_n X 3 dX10_number_104 rfl rfl (z_callVv X (u1 := r15) [.int 1, .int v3] [] (w_X10_wrong l g 1 v3 t13.2 er15) z_r0 rfl gX10_number_X10_wrong hy_X10_wrong rfl (z_le1 hR (by decide)) (z_le2 hR (by decide) (by decide)) (Nat.le_of_ble_eq_true rfl) dX10_number_105 (z_goto X 140 dX10_number_108 (by decide) (z_aload_n X 0 dX10_number_140 rfl rfl (z_getI X (k0 := 12) z_r0 rfl in_X10_number_X10 (by decide) rfl rfl lk_X10_number_122 dX10_number_141 (z_if_eq X 152 dX10_number_144 (by decide) (fun c16 => ?_) (fun c16 => ?_))))))))
    · replace h := z_ip c16 h
      refine z_iconst X (v := 0) dX10_number_152 (by decide) ?_
      cases h; exact z_iret X rfl dX10_number_153 ⟨rfl, rfl⟩
    · replace h := z_in c16 h
      refine z_iload X 4 dX10_number_147 rfl (z_goto X 153 dX10_number_149 (by decide) ?_)
      cases h; exact z_iret X rfl dX10_number_153 ⟨rfl, rfl⟩
