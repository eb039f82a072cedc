def f_X9_isIn (a1 : Int32) (a2 : Int32) : Option (Int32) :=
  if a2 < 0 then (some 0) else (if 9 ≤ a2 then (some 0) else (if ((a1 >>> (a2 &&& 31)) &&& 1) = 0 then (some 0) else (some 1)))
set_option maxRecDepth 20000 in
set_option maxHeartbeats 4000000 in
theorem w_X9_isIn (l : Launch) (g : z_G) (a1 : Int32) (a2 : Int32) (u : z_M) {res : Int32} (h : f_X9_isIn a1 a2 = some res) : z_C l g z_shC yX9_isIn wsX9_isIn 1 [.int a1, .int a2] u (fun v u' => v = some (.int res) ∧ u' = u) := by
  refine z_C.mk (lv := [(0, .int a1), (1, .int a2)]) (cc := cX9_isIn) (nL := 2) (rt := (some .boolean)) rfl (by decide) (Nat.le_of_ble_eq_true rfl) rfl (fun p e R s m args below meth c hR X => ?_)
  unfold f_X9_isIn at h
  refine z_iload_n X 1 dX9_isIn_0 rfl rfl (z_if_lt X 22 dX9_isIn_1 (by decide) (fun c1 => ?_) (fun c1 => ?_))
  · replace h := z_ip c1 h
    refine z_iconst X (v := 0) dX9_isIn_22 (by decide) ?_
    cases h; exact z_zret X rfl rfl dX9_isIn_23 ⟨rfl, rfl⟩
  · replace h := z_in c1 h
    refine z_iload_n X 1 dX9_isIn_4 rfl rfl (z_bipush X (v := 9) dX9_isIn_5 (by decide) (z_icmp_ge X 22 dX9_isIn_7 (by decide) (fun c2 => ?_) (fun c2 => ?_)))
    · replace h := z_ip c2 h
      refine z_iconst X (v := 0) dX9_isIn_22 (by decide) ?_
      cases h; exact z_zret X rfl rfl dX9_isIn_23 ⟨rfl, rfl⟩
    · replace h := z_in c2 h
      refine z_iload_n X 0 dX9_isIn_10 rfl rfl (z_iload_n X 1 dX9_isIn_11 rfl rfl (z_ishr X dX9_isIn_12 (z_iconst X (v := 1) dX9_isIn_13 (by decide) (z_iand X dX9_isIn_14 (z_if_eq X 22 dX9_isIn_15 (by decide) (fun c3 => ?_) (fun c3 => ?_))))))
      · replace h := z_ip c3 h
        refine z_iconst X (v := 0) dX9_isIn_22 (by decide) ?_
        cases h; exact z_zret X rfl rfl dX9_isIn_23 ⟨rfl, rfl⟩
      · replace h := z_in c3 h
        refine z_iconst X (v := 1) dX9_isIn_18 (by decide) (z_goto X 23 dX9_isIn_19 (by decide) ?_)
        cases h; exact z_zret X rfl rfl dX9_isIn_23 ⟨rfl, rfl⟩

theorem lk_X6_has_25 : (Cond.fieldLink RX6 25 RX6 (TX6 1).2.1 (TX6 1).2.2.1) ∈ wsX6_has := by decide +kernel
theorem in_X6_has_X6 : ∀ w ∈ u_ws RX6 TX6 6, w ∈ wsX6_has := fun _ h => List.mem_cons_of_mem _ (List.mem_append_right _ h)
theorem ini_X9_isIn_X6_has : Cond.initialized yX9_isIn.cls ∈ wsX6_has := by decide +kernel
theorem sta_X9_isIn_X6_has : Cond.static yX9_isIn ∈ wsX6_has := by decide +kernel
theorem hy_X9_isIn : yX9_isIn.cls = RX9 ∧ yX9_isIn.cls ≠ "java/lang/invoke/MethodHandle" ∧ yX9_isIn.cls ≠ "java/lang/invoke/VarHandle" ∧ (parseMethodDescriptor yX9_isIn.desc).map (fun d => d.parameters.length) = some 2 := by decide +kernel
def f_X6_has (ao : Nat) (a1 : Int32) (u : z_M) : Option (Int32) :=
  Option.bind (f_X9_isIn (z_gI u ao 1) a1) (fun r1 => z_gd (decide (r1 = 0 ∨ r1 = 1)) (some r1))
set_option maxRecDepth 20000 in
set_option maxHeartbeats 4000000 in
theorem w_X6_has (l : Launch) (g : z_G) (ao : Nat) (a1 : Int32) (eao : z_PO ao) (u : z_M) {res : Int32} (h : f_X6_has ao a1 u = some res) : z_C l g z_shC yX6_has wsX6_has 2 [.ref (z_ad g ao), .int a1] u (fun v u' => v = some (.int res) ∧ u' = u) := by
  refine z_C.mk (lv := [(0, .ref (z_ad g ao)), (1, .int a1)]) (cc := cX6_has) (nL := 2) (rt := (some .boolean)) rfl (by decide) (Nat.le_of_ble_eq_true rfl) rfl (fun p e R s m args below meth c hR X => ?_)
  unfold f_X6_has at h
  obtain ⟨r1, er1, h⟩ := z_bs h
  obtain ⟨b2, h⟩ := z_gs h
  refine z_aload_n X 0 dX6_has_0 rfl rfl (z_getI X (k0 := 1) (z_po eao) rfl in_X6_has_X6 (by decide) rfl rfl lk_X6_has_25 dX6_has_1 (z_iload_n X 1 dX6_has_4 rfl rfl (z_callNi X (r := r1) (u1 := u) [.int (z_gI u ao 1), .int a1] [] (w_X9_isIn l g (z_gI u ao 1) a1 u er1) gX6_has_X9_isIn_n43 nn_X6 ini_X9_isIn_X6_has sta_X9_isIn_X6_has hy_X9_isIn.2 rfl (z_le1 hR (by decide)) (z_le2 hR (by decide) (by decide)) (Nat.le_of_ble_eq_true rfl) dX6_has_5 ?_)))
  cases h; exact z_zret X rfl (z_nz b2) dX6_has_8 ⟨rfl, rfl⟩

theorem lk_X6_atLeast_9 : (Cond.fieldLink RX6 9 RX6 (TX6 3).2.1 (TX6 3).2.2.1) ∈ wsX6_atLeast := by decide +kernel
theorem in_X6_atLeast_X6 : ∀ w ∈ u_ws RX6 TX6 6, w ∈ wsX6_atLeast := by decide +kernel
theorem hy_X6_has : yX6_has.cls = RX6 ∧ yX6_has.cls ≠ "java/lang/invoke/MethodHandle" ∧ yX6_has.cls ≠ "java/lang/invoke/VarHandle" ∧ (parseMethodDescriptor yX6_has.desc).map (fun d => d.parameters.length) = some 1 := by decide +kernel
def f_X6_atLeast (ao : Nat) (a1 : Int32) (u : z_M) : Option (Int32) :=
  Option.bind (f_X6_has ao a1 u) (fun r1 => if r1 = 0 then (some 0) else (z_gd (z_inb a1 9) (some ((z_gI u (ao + 1) a1.toNatClampNeg) ||| (1 <<< (a1 &&& 31))))))
set_option maxRecDepth 20000 in
set_option maxHeartbeats 4000000 in
theorem w_X6_atLeast (l : Launch) (g : z_G) (ao : Nat) (a1 : Int32) (eao : z_PO ao) (u : z_M) {res : Int32} (h : f_X6_atLeast ao a1 u = some res) : z_C l g z_shC yX6_atLeast wsX6_atLeast 3 [.ref (z_ad g ao), .int a1] u (fun v u' => v = some (.int res) ∧ u' = u) := by
  refine z_C.mk (lv := [(0, .ref (z_ad g ao)), (1, .int a1)]) (cc := cX6_atLeast) (nL := 2) (rt := (some .int)) rfl (by decide) (Nat.le_of_ble_eq_true rfl) rfl (fun p e R s m args below meth c hR X => ?_)
  unfold f_X6_atLeast at h
  obtain ⟨r1, er1, h⟩ := z_bs h
  refine z_aload_n X 0 dX6_atLeast_0 rfl rfl (z_iload_n X 1 dX6_atLeast_1 rfl rfl (z_callVi X (r := r1) (u1 := u) [.int a1] [] (w_X6_has l g ao a1 eao u er1) (z_po eao) rfl gX6_atLeast_X6_has hy_X6_has rfl (z_le1 hR (by decide)) (z_le2 hR (by decide) (by decide)) (Nat.le_of_ble_eq_true rfl) dX6_atLeast_2 (z_if_eq X 21 dX6_atLeast_5 (by decide) (fun c2 => ?_) (fun c2 => ?_))))
  · replace h := z_ip c2 h
    refine z_iconst X (v := 0) dX6_atLeast_21 (by decide) ?_
    cases h; exact z_iret X rfl dX6_atLeast_22 ⟨rfl, rfl⟩
  · replace h := z_in c2 h
    obtain ⟨b3, h⟩ := z_gs h
    refine z_aload_n X 0 dX6_atLeast_8 rfl rfl (z_getR X (k0 := 3) (z_po eao) rfl in_X6_atLeast_X6 (by decide) rfl rfl lk_X6_atLeast_9 dX6_atLeast_9 (z_iload_n X 1 dX6_atLeast_12 rfl rfl (z_iald X (z_poA eao) (z_inS b3) dX6_atLeast_13 (z_iconst X (v := 1) dX6_atLeast_14 (by decide) (z_iload_n X 1 dX6_atLeast_15 rfl rfl (z_ishl X dX6_atLeast_16 (z_ior X dX6_atLeast_17 (z_goto X 22 dX6_atLeast_18 (by decide) ?_))))))))
    cases h; exact z_iret X rfl dX6_atLeast_22 ⟨rfl, rfl⟩

theorem ini_X9_isIn_X6_leastOf : Cond.initialized yX9_isIn.cls ∈ wsX6_leastOf := by decide +kernel
theorem sta_X9_isIn_X6_leastOf : Cond.static yX9_isIn ∈ wsX6_leastOf := by decide +kernel
theorem hy_X6_atLeast : yX6_atLeast.cls = RX6 ∧ yX6_atLeast.cls ≠ "java/lang/invoke/MethodHandle" ∧ yX6_atLeast.cls ≠ "java/lang/invoke/VarHandle" ∧ (parseMethodDescriptor yX6_atLeast.desc).map (fun d => d.parameters.length) = some 1 := by decide +kernel
def b_X6_leastOf_2 (x0 : Nat) (x1 : Int32) (u : z_M) : Int32 → (Int32 → Option (Int32)) → (Unit → Option (Int32)) → Option (Int32) := fun q kb kx =>
  if 9 ≤ q then (kx ()) else (Option.bind (f_X9_isIn x1 q) (fun r2 => if r2 = 0 then (kb (q + 1)) else (Option.bind (f_X6_atLeast x0 q u) (fun r4 => if (x1 &&& (r4 ^^^ (-1))) = 0 then (some q) else (kb (q + 1))))))
def f_X6_leastOf (ao : Nat) (a1 : Int32) (u : z_M) : Option (Int32) :=
  z_lp (b_X6_leastOf_2 ao a1 u) z_F 0 (fun t6 => some (-2))
set_option maxRecDepth 20000 in
set_option maxHeartbeats 4000000 in
theorem wb_X6_leastOf_2 {p : Program} {l : Launch} {e : Env} {R : Room} {s : State} {m : MethodId} {args : Array Value} {below : List Frame} {meth : Method} {c : Code} {g : z_G} {u : z_M} {res : Int32} (hR : R = z_rm 4) (X : z_X p R s m args meth c cX6_leastOf 3 RX6 wsX6_leastOf (some .int) g z_shC) (x0 : Nat) (x1 : Int32) (ex0 : z_PO x0) (q : Int32) (kb : Int32 → Option (Int32)) (kx : Unit → Option (Int32)) (hkb : ∀ q, kb q = some res → z_V p l e R s m args below meth c 3 g z_shC (MQ below (z_Qc g z_shC (fun v u' => v = some (.int res) ∧ u' = u)) args s 0 0 (z_A g z_shC)) 2 [(0, .ref (z_ad g x0)), (1, .int x1), (2, .int q)] [] u) (hkx : ∀ t, kx t = some res → z_V p l e R s m args below meth c 3 g z_shC (MQ below (z_Qc g z_shC (fun v u' => v = some (.int res) ∧ u' = u)) args s 0 0 (z_A g z_shC)) 36 [] [] u) (h : b_X6_leastOf_2 x0 x1 u q kb kx = some res) : z_V p l e R s m args below meth c 3 g z_shC (MQ below (z_Qc g z_shC (fun v u' => v = some (.int res) ∧ u' = u)) args s 0 0 (z_A g z_shC)) 2 [(0, .ref (z_ad g x0)), (1, .int x1), (2, .int q)] [] u := by
  unfold b_X6_leastOf_2 at h
  refine z_iload_n X 2 dX6_leastOf_2 rfl rfl (z_bipush X (v := 9) dX6_leastOf_3 (by decide) (z_icmp_ge X 36 dX6_leastOf_5 (by decide) (fun c1 => ?_) (fun c1 => ?_)))
  · replace h := z_ip c1 h
    refine z_sub [] [] rfl ?_
    exact hkx () h
  · replace h := z_in c1 h
    obtain ⟨r2, er2, h⟩ := z_bs h
    refine z_iload_n X 1 dX6_leastOf_8 rfl rfl (z_iload_n X 2 dX6_leastOf_9 rfl rfl (z_callNi X (r := r2) (u1 := u) [.int x1, .int q] [] (w_X9_isIn l g x1 q u er2) gX6_leastOf_X9_isIn_n43 nn_X6 ini_X9_isIn_X6_leastOf sta_X9_isIn_X6_leastOf hy_X9_isIn.2 rfl (z_le1 hR (by decide)) (z_le2 hR (by decide) (by decide)) (Nat.le_of_ble_eq_true rfl) dX6_leastOf_10 (z_if_eq X 30 dX6_leastOf_13 (by decide) (fun c3 => ?_) (fun c3 => ?_))))
    · replace h := z_ip c3 h
      refine z_iinc X (v := q + 1) 2 [(2, .int (q + 1)), (0, .ref (z_ad g x0)), (1, .int x1)] dX6_leastOf_30 rfl rfl (by decide) rfl (z_goto X 2 dX6_leastOf_33 (by decide) (z_sub [1, 2, 0] [(0, .ref (z_ad g x0)), (1, .int x1), (2, .int (q + 1))] rfl ?_))
      exact hkb (q + 1) h
    · replace h := z_in c3 h
      obtain ⟨r4, er4, h⟩ := z_bs h
      refine z_iload_n X 1 dX6_leastOf_16 rfl rfl (z_aload_n X 0 dX6_leastOf_17 rfl rfl (z_iload_n X 2 dX6_leastOf_18 rfl rfl (z_callVi X (r := r4) (u1 := u) [.int q] [.int x1] (w_X6_atLeast l g x0 q ex0 u er4) (z_po ex0) rfl gX6_leastOf_X6_atLeast hy_X6_atLeast rfl (z_le1 hR (by decide)) (z_le2 hR (by decide) (by decide)) (Nat.le_of_ble_eq_true rfl) dX6_leastOf_19 (z_iconst X (v := (-1)) dX6_leastOf_22 (by decide) (z_ixor X dX6_leastOf_23 (z_iand X dX6_leastOf_24 (z_if_ne X 30 dX6_leastOf_25 (by decide) (fun c5 => ?_) (fun c5 => ?_))))))))
      · replace h := z_in c5 h
        refine z_iinc X (v := q + 1) 2 [(2, .int (q + 1)), (0, .ref (z_ad g x0)), (1, .int x1)] dX6_leastOf_30 rfl rfl (by decide) rfl (z_goto X 2 dX6_leastOf_33 (by decide) (z_sub [1, 2, 0] [(0, .ref (z_ad g x0)), (1, .int x1), (2, .int (q + 1))] rfl ?_))
        exact hkb (q + 1) h
      · replace h := z_ip c5 h
        refine z_iload_n X 2 dX6_leastOf_28 rfl rfl ?_
        cases h; exact z_iret X rfl dX6_leastOf_29 ⟨rfl, rfl⟩
set_option maxRecDepth 20000 in
set_option maxHeartbeats 4000000 in
theorem w_X6_leastOf (l : Launch) (g : z_G) (ao : Nat) (a1 : Int32) (eao : z_PO ao) (u : z_M) {res : Int32} (h : f_X6_leastOf ao a1 u = some res) : z_C l g z_shC yX6_leastOf wsX6_leastOf 4 [.ref (z_ad g ao), .int a1] u (fun v u' => v = some (.int res) ∧ u' = u) := by
  refine z_C.mk (lv := [(0, .ref (z_ad g ao)), (1, .int a1)]) (cc := cX6_leastOf) (nL := 3) (rt := (some .int)) rfl (by decide) (Nat.le_of_ble_eq_true rfl) rfl (fun p e R s m args below meth c hR X => ?_)
  unfold f_X6_leastOf at h
  refine z_iconst X (v := 0) dX6_leastOf_0 (by decide) (z_istore_n X [(2, .int 0), (0, .ref (z_ad g ao)), (1, .int a1)] dX6_leastOf_1 rfl (by decide) rfl (z_sub [1, 2, 0] [(0, .ref (z_ad g ao)), (1, .int a1), (2, .int 0)] rfl ?_))
  have hw := z_lp_w (fun q9 kb9 kx9 h1 h2 h3 => wb_X6_leastOf_2 (l := l) (e := e) (below := below) (u := u) hR X ao a1 eao q9 kb9 kx9 h1 h2 h3) z_F _ _ h
  refine hw (fun t6 h => ?_)
  refine z_bipush X (v := (-2)) dX6_leastOf_36 (by decide) ?_
  cases h; exact z_iret X rfl dX6_leastOf_38 ⟨rfl, rfl⟩

theorem lk_X6_atMost_15 : (Cond.fieldLink RX6 15 RX6 (TX6 4).2.1 (TX6 4).2.2.1) ∈ wsX6_atMost := by decide +kernel
theorem in_X6_atMost_X6 : ∀ w ∈ u_ws RX6 TX6 6, w ∈ wsX6_atMost := by decide +kernel
def f_X6_atMost (ao : Nat) (a1 : Int32) (u : z_M) : Option (Int32) :=
  Option.bind (f_X6_has ao a1 u) (fun r1 => if r1 = 0 then (some 0) else (z_gd (z_inb a1 9) (some ((z_gI u (ao + 2) a1.toNatClampNeg) ||| (1 <<< (a1 &&& 31))))))
set_option maxRecDepth 20000 in
set_option maxHeartbeats 4000000 in
theorem w_X6_atMost (l : Launch) (g : z_G) (ao : Nat) (a1 : Int32) (eao : z_PO ao) (u : z_M) {res : Int32} (h : f_X6_atMost ao a1 u = some res) : z_C l g z_shC yX6_atMost wsX6_atMost 3 [.ref (z_ad g ao), .int a1] u (fun v u' => v = some (.int res) ∧ u' = u) := by
  refine z_C.mk (lv := [(0, .ref (z_ad g ao)), (1, .int a1)]) (cc := cX6_atMost) (nL := 2) (rt := (some .int)) rfl (by decide) (Nat.le_of_ble_eq_true rfl) rfl (fun p e R s m args below meth c hR X => ?_)
  unfold f_X6_atMost at h
  obtain ⟨r1, er1, h⟩ := z_bs h
  refine z_aload_n X 0 dX6_atMost_0 rfl rfl (z_iload_n X 1 dX6_atMost_1 rfl rfl (z_callVi X (r := r1) (u1 := u) [.int a1] [] (w_X6_has l g ao a1 eao u er1) (z_po eao) rfl gX6_atMost_X6_has hy_X6_has rfl (z_le1 hR (by decide)) (z_le2 hR (by decide) (by decide)) (Nat.le_of_ble_eq_true rfl) dX6_atMost_2 (z_if_eq X 21 dX6_atMost_5 (by decide) (fun c2 => ?_) (fun c2 => ?_))))
  · replace h := z_ip c2 h
    refine z_iconst X (v := 0) dX6_atMost_21 (by decide) ?_
    cases h; exact z_iret X rfl dX6_atMost_22 ⟨rfl, rfl⟩
  · replace h := z_in c2 h
    obtain ⟨b3, h⟩ := z_gs h
    refine z_aload_n X 0 dX6_atMost_8 rfl rfl (z_getR X (k0 := 4) (z_po eao) rfl in_X6_atMost_X6 (by decide) rfl rfl lk_X6_atMost_15 dX6_atMost_9 (z_iload_n X 1 dX6_atMost_12 rfl rfl (z_iald X (z_poU eao) (z_inS b3) dX6_atMost_13 (z_iconst X (v := 1) dX6_atMost_14 (by decide) (z_iload_n X 1 dX6_atMost_15 rfl rfl (z_ishl X dX6_atMost_16 (z_ior X dX6_atMost_17 (z_goto X 22 dX6_atMost_18 (by decide) ?_))))))))
    cases h; exact z_iret X rfl dX6_atMost_22 ⟨rfl, rfl⟩

theorem ini_X9_isIn_X6_greatestOf : Cond.initialized yX9_isIn.cls ∈ wsX6_greatestOf := by decide +kernel
theorem sta_X9_isIn_X6_greatestOf : Cond.static yX9_isIn ∈ wsX6_greatestOf := by decide +kernel
theorem hy_X6_atMost : yX6_atMost.cls = RX6 ∧ yX6_atMost.cls ≠ "java/lang/invoke/MethodHandle" ∧ yX6_atMost.cls ≠ "java/lang/invoke/VarHandle" ∧ (parseMethodDescriptor yX6_atMost.desc).map (fun d => d.parameters.length) = some 1 := by decide +kernel
def b_X6_greatestOf_2 (x0 : Nat) (x1 : Int32) (u : z_M) : Int32 → (Int32 → Option (Int32)) → (Unit → Option (Int32)) → Option (Int32) := fun q kb kx =>
  if 9 ≤ q then (kx ()) else (Option.bind (f_X9_isIn x1 q) (fun r2 => if r2 = 0 then (kb (q + 1)) else (Option.bind (f_X6_atMost x0 q u) (fun r4 => if (x1 &&& (r4 ^^^ (-1))) = 0 then (some q) else (kb (q + 1))))))
def f_X6_greatestOf (ao : Nat) (a1 : Int32) (u : z_M) : Option (Int32) :=
  z_lp (b_X6_greatestOf_2 ao a1 u) z_F 0 (fun t6 => some (-2))
set_option maxRecDepth 20000 in
set_option maxHeartbeats 4000000 in
theorem wb_X6_greatestOf_2 {p : Program} {l : Launch} {e : Env} {R : Room} {s : State} {m : MethodId} {args : Array Value} {below : List Frame} {meth : Method} {c : Code} {g : z_G} {u : z_M} {res : Int32} (hR : R = z_rm 4) (X : z_X p R s m args meth c cX6_greatestOf 3 RX6 wsX6_greatestOf (some .int) g z_shC) (x0 : Nat) (x1 : Int32) (ex0 : z_PO x0) (q : Int32) (kb : Int32 → Option (Int32)) (kx : Unit → Option (Int32)) (hkb : ∀ q, kb q = some res → z_V p l e R s m args below meth c 3 g z_shC (MQ below (z_Qc g z_shC (fun v u' => v = some (.int res) ∧ u' = u)) args s 0 0 (z_A g z_shC)) 2 [(0, .ref (z_ad g x0)), (1, .int x1), (2, .int q)] [] u) (hkx : ∀ t, kx t = some res → z_V p l e R s m args below meth c 3 g z_shC (MQ below (z_Qc g z_shC (fun v u' => v = some (.int res) ∧ u' = u)) args s 0 0 (z_A g z_shC)) 36 [] [] u) (h : b_X6_greatestOf_2 x0 x1 u q kb kx = some res) : z_V p l e R s m args below meth c 3 g z_shC (MQ below (z_Qc g z_shC (fun v u' => v = some (.int res) ∧ u' = u)) args s 0 0 (z_A g z_shC)) 2 [(0, .ref (z_ad g x0)), (1, .int x1), (2, .int q)] [] u := by
  unfold b_X6_greatestOf_2 at h
  refine z_iload_n X 2 dX6_greatestOf_2 rfl rfl (z_bipush X (v := 9) dX6_greatestOf_3 (by decide) (z_icmp_ge X 36 dX6_greatestOf_5 (by decide) (fun c1 => ?_) (fun c1 => ?_)))
  · replace h := z_ip c1 h
    refine z_sub [] [] rfl ?_
    exact hkx () h
  · replace h := z_in c1 h
    obtain ⟨r2, er2, h⟩ := z_bs h
    refine z_iload_n X 1 dX6_greatestOf_8 rfl rfl (z_iload_n X 2 dX6_greatestOf_9 rfl rfl (z_callNi X (r := r2) (u1 := u) [.int x1, .int q] [] (w_X9_isIn l g x1 q u er2) gX6_greatestOf_X9_isIn_n43 nn_X6 ini_X9_isIn_X6_greatestOf sta_X9_isIn_X6_greatestOf hy_X9_isIn.2 rfl (z_le1 hR (by decide)) (z_le2 hR (by decide) (by decide)) (Nat.le_of_ble_eq_true rfl) dX6_greatestOf_10 (z_if_eq X 30 dX6_greatestOf_13 (by decide) (fun c3 => ?_) (fun c3 => ?_))))
    · replace h := z_ip c3 h
      refine z_iinc X (v := q + 1) 2 [(2, .int (q + 1)), (0, .ref (z_ad g x0)), (1, .int x1)] dX6_greatestOf_30 rfl rfl (by decide) rfl (z_goto X 2 dX6_greatestOf_33 (by decide) (z_sub [1, 2, 0] [(0, .ref (z_ad g x0)), (1, .int x1), (2, .int (q + 1))] rfl ?_))
      exact hkb (q + 1) h
    · replace h := z_in c3 h
      obtain ⟨r4, er4, h⟩ := z_bs h
      refine z_iload_n X 1 dX6_greatestOf_16 rfl rfl (z_aload_n X 0 dX6_greatestOf_17 rfl rfl (z_iload_n X 2 dX6_greatestOf_18 rfl rfl (z_callVi X (r := r4) (u1 := u) [.int q] [.int x1] (w_X6_atMost l g x0 q ex0 u er4) (z_po ex0) rfl gX6_greatestOf_X6_atMost hy_X6_atMost rfl (z_le1 hR (by decide)) (z_le2 hR (by decide) (by decide)) (Nat.le_of_ble_eq_true rfl) dX6_greatestOf_19 (z_iconst X (v := (-1)) dX6_greatestOf_22 (by decide) (z_ixor X dX6_greatestOf_23 (z_iand X dX6_greatestOf_24 (z_if_ne X 30 dX6_greatestOf_25 (by decide) (fun c5 => ?_) (fun c5 => ?_))))))))
      · replace h := z_in c5 h
        refine z_iinc X (v := q + 1) 2 [(2, .int (q + 1)), (0, .ref (z_ad g x0)), (1, .int x1)] dX6_greatestOf_30 rfl rfl (by decide) rfl (z_goto X 2 dX6_greatestOf_33 (by decide) (z_sub [1, 2, 0] [(0, .ref (z_ad g x0)), (1, .int x1), (2, .int (q + 1))] rfl ?_))
        exact hkb (q + 1) h
      · replace h := z_ip c5 h
        refine z_iload_n X 2 dX6_greatestOf_28 rfl rfl ?_
        cases h; exact z_iret X rfl dX6_greatestOf_29 ⟨rfl, rfl⟩
set_option maxRecDepth 20000 in
set_option maxHeartbeats 4000000 in
theorem w_X6_greatestOf (l : Launch) (g : z_G) (ao : Nat) (a1 : Int32) (eao : z_PO ao) (u : z_M) {res : Int32} (h : f_X6_greatestOf ao a1 u = some res) : z_C l g z_shC yX6_greatestOf wsX6_greatestOf 4 [.ref (z_ad g ao), .int a1] u (fun v u' => v = some (.int res) ∧ u' = u) := by
  refine z_C.mk (lv := [(0, .ref (z_ad g ao)), (1, .int a1)]) (cc := cX6_greatestOf) (nL := 3) (rt := (some .int)) rfl (by decide) (Nat.le_of_ble_eq_true rfl) rfl (fun p e R s m args below meth c hR X => ?_)
  unfold f_X6_greatestOf at h
  refine z_iconst X (v := 0) dX6_greatestOf_0 (by decide) (z_istore_n X [(2, .int 0), (0, .ref (z_ad g ao)), (1, .int a1)] dX6_greatestOf_1 rfl (by decide) rfl (z_sub [1, 2, 0] [(0, .ref (z_ad g ao)), (1, .int a1), (2, .int 0)] rfl ?_))
  have hw := z_lp_w (fun q9 kb9 kx9 h1 h2 h3 => wb_X6_greatestOf_2 (l := l) (e := e) (below := below) (u := u) hR X ao a1 eao q9 kb9 kx9 h1 h2 h3) z_F _ _ h
  refine hw (fun t6 h => ?_)
  refine z_bipush X (v := (-2)) dX6_greatestOf_36 (by decide) ?_
  cases h; exact z_iret X rfl dX6_greatestOf_38 ⟨rfl, rfl⟩

theorem lk_X0_fill_9 : (Cond.fieldLink RX0 9 RX0 (TX0 0).2.1 (TX0 0).2.2.1) ∈ wsX0_fill := by decide +kernel
theorem in_X0_fill_X0 : ∀ w ∈ u_ws RX0 TX0 2, w ∈ wsX0_fill := fun _ h => List.mem_cons_of_mem _ (List.mem_append_left _ (List.mem_append_right _ h))
theorem lk_X0_fill_15 : (Cond.fieldLink RX0 15 RX0 (TX0 1).2.1 (TX0 1).2.2.1) ∈ wsX0_fill := by decide +kernel
theorem hy_X6_greatestOf : yX6_greatestOf.cls = RX6 ∧ yX6_greatestOf.cls ≠ "java/lang/invoke/MethodHandle" ∧ yX6_greatestOf.cls ≠ "java/lang/invoke/VarHandle" ∧ (parseMethodDescriptor yX6_greatestOf.desc).map (fun d => d.parameters.length) = some 1 := by decide +kernel
theorem hy_X6_leastOf : yX6_leastOf.cls = RX6 ∧ yX6_leastOf.cls ≠ "java/lang/invoke/MethodHandle" ∧ yX6_leastOf.cls ≠ "java/lang/invoke/VarHandle" ∧ (parseMethodDescriptor yX6_leastOf.desc).map (fun d => d.parameters.length) = some 1 := by decide +kernel
def b_X0_fill_10 (x1 : Nat) (x2 : Int32) : (Int32 × z_M) → ((Int32 × z_M) → Option (Int32 × z_M)) → (z_M → Option (Int32 × z_M)) → Option (Int32 × z_M) := fun q kb kx =>
  if 9 ≤ q.1 then (kx q.2) else (Option.bind (f_X6_has x1 x2 q.2) (fun r3 => if r3 = 0 then (kb (q.1 + 1, q.2)) else (Option.bind (f_X6_has x1 q.1 q.2) (fun r5 => if r5 = 0 then (kb (q.1 + 1, q.2)) else (z_lt ((x2 * 9) + q.1) (fun v7 => Option.bind (f_X6_atLeast x1 x2 q.2) (fun r8 => Option.bind (f_X6_atLeast x1 q.1 q.2) (fun r9 => Option.bind (f_X6_leastOf x1 (r8 &&& r9) q.2) (fun r10 => z_gd (z_inb v7 81) (z_lt (z_sI q.2 132 v7.toNatClampNeg r10) (fun u12 => Option.bind (f_X6_atMost x1 x2 u12) (fun r13 => Option.bind (f_X6_atMost x1 q.1 u12) (fun r14 => Option.bind (f_X6_greatestOf x1 (r13 &&& r14) u12) (fun r15 => z_gd (z_inb v7 81) (z_lt (z_sI u12 133 v7.toNatClampNeg r15) (fun u17 => z_gd (z_inb v7 81) (if (z_gI u17 132 v7.toNatClampNeg) < 0 then (some (0, u17)) else (z_gd (z_inb v7 81) (if 0 ≤ (z_gI u17 133 v7.toNatClampNeg) then (kb (q.1 + 1, u17)) else (some (0, u17)))))))))))))))))))))
def b_X0_fill_2 (x1 : Nat) : (Int32 × z_M) → ((Int32 × z_M) → Option (Int32 × z_M)) → (z_M → Option (Int32 × z_M)) → Option (Int32 × z_M) := fun q kb kx =>
  if 9 ≤ q.1 then (kx q.2) else (z_lp (b_X0_fill_10 x1 q.1) z_F (0, q.2) (fun t22 => kb (q.1 + 1, t22)))
def f_X0_fill (a1 : Nat) (u : z_M) : Option (Int32 × z_M) :=
  z_lp (b_X0_fill_2 a1) z_F (0, u) (fun t23 => some (1, t23))
set_option maxRecDepth 20000 in
set_option maxHeartbeats 4000000 in
theorem wb_X0_fill_10 {p : Program} {l : Launch} {e : Env} {R : Room} {s : State} {m : MethodId} {args : Array Value} {below : List Frame} {meth : Method} {c : Code} {g : z_G} {u : z_M} {res : Int32 × z_M} (hR : R = z_rm 5) (X : z_X p R s m args meth c cX0_fill 5 RX0 wsX0_fill (some .boolean) g z_shC) (x1 : Nat) (x2 : Int32) (ex1 : z_PO x1) (q : Int32 × z_M) (kb : (Int32 × z_M) → Option (Int32 × z_M)) (kx : z_M → Option (Int32 × z_M)) (hkb : ∀ q, kb q = some res → z_V p l e R s m args below meth c 5 g z_shC (MQ below (z_Qc g z_shC (fun v u' => v = some (.int res.1) ∧ u' = res.2)) args s 0 0 (z_A g z_shC)) 10 [(0, .ref (z_ad g 131)), (1, .ref (z_ad g x1)), (2, .int x2), (3, .int q.1)] [] q.2) (hkx : ∀ t, kx t = some res → z_V p l e R s m args below meth c 5 g z_shC (MQ below (z_Qc g z_shC (fun v u' => v = some (.int res.1) ∧ u' = res.2)) args s 0 0 (z_A g z_shC)) 115 [(0, .ref (z_ad g 131)), (1, .ref (z_ad g x1)), (2, .int x2)] [] t) (h : b_X0_fill_10 x1 x2 q kb kx = some res) : z_V p l e R s m args below meth c 5 g z_shC (MQ below (z_Qc g z_shC (fun v u' => v = some (.int res.1) ∧ u' = res.2)) args s 0 0 (z_A g z_shC)) 10 [(0, .ref (z_ad g 131)), (1, .ref (z_ad g x1)), (2, .int x2), (3, .int q.1)] [] q.2 := by
  unfold b_X0_fill_10 at h
  refine z_iload_n X 3 dX0_fill_10 rfl rfl (z_bipush X (v := 9) dX0_fill_11 (by decide) (z_icmp_ge X 115 dX0_fill_13 (by decide) (fun c2 => ?_) (fun c2 => ?_)))
  · replace h := z_ip c2 h
    refine z_sub [0, 1, 2] [(0, .ref (z_ad g 131)), (1, .ref (z_ad g x1)), (2, .int x2)] rfl ?_
    exact hkx q.2 h
  · replace h := z_in c2 h
    obtain ⟨r3, er3, h⟩ := z_bs h
    refine z_aload_n X 1 dX0_fill_16 rfl rfl (z_iload_n X 2 dX0_fill_17 rfl rfl (z_callVi X (r := r3) (u1 := q.2) [.int x2] [] (w_X6_has l g x1 x2 ex1 q.2 er3) (z_po ex1) rfl gX0_fill_X6_has hy_X6_has rfl (z_le1 hR (by decide)) (z_le2 hR (by decide) (by decide)) (Nat.le_of_ble_eq_true rfl) dX0_fill_18 (z_if_eq X 109 dX0_fill_21 (by decide) (fun c4 => ?_) (fun c4 => ?_))))
    · replace h := z_ip c4 h
      refine z_iinc X (v := q.1 + 1) 3 [(3, .int (q.1 + 1)), (0, .ref (z_ad g 131)), (1, .ref (z_ad g x1)), (2, .int x2)] dX0_fill_109 rfl rfl (by decide) rfl (z_goto X 10 dX0_fill_112 (by decide) (z_sub [1, 2, 3, 0] [(0, .ref (z_ad g 131)), (1, .ref (z_ad g x1)), (2, .int x2), (3, .int (q.1 + 1))] rfl ?_))
      exact hkb (q.1 + 1, q.2) h
    · replace h := z_in c4 h
      obtain ⟨r5, er5, h⟩ := z_bs h
      refine z_aload_n X 1 dX0_fill_24 rfl rfl (z_iload_n X 3 dX0_fill_25 rfl rfl (z_callVi X (r := r5) (u1 := q.2) [.int q.1] [] (w_X6_has l g x1 q.1 ex1 q.2 er5) (z_po ex1) rfl gX0_fill_X6_has hy_X6_has rfl (z_le1 hR (by decide)) (z_le2 hR (by decide) (by decide)) (Nat.le_of_ble_eq_true rfl) dX0_fill_26 (z_if_ne X 35 dX0_fill_29 (by decide) (fun c6 => ?_) (fun c6 => ?_))))
      · replace h := z_in c6 h
        obtain ⟨v7, ev7, h⟩ := z_ls h
        obtain ⟨r8, er8, h⟩ := z_bs h
        obtain ⟨r9, er9, h⟩ := z_bs h
        obtain ⟨r10, er10, h⟩ := z_bs h
        obtain ⟨b11, h⟩ := z_gs h
        obtain ⟨u12, eu12, h⟩ := z_ls h
        obtain ⟨r13, er13, h⟩ := z_bs h
        obtain ⟨r14, er14, h⟩ := z_bs h
        obtain ⟨r15, er15, h⟩ := z_bs h
        obtain ⟨b16, h⟩ := z_gs h
        obtain ⟨u17, eu17, h⟩ := z_ls h
        obtain ⟨b18, h⟩ := z_gs h
        refine z_iload_n X 2 dX0_fill_35 rfl rfl (z_bipush X (v := 9) dX0_fill_36 (by decide) (z_imul X dX0_fill_38 (z_iload_n X 3 dX0_fill_39 rfl rfl (z_iadd X dX0_fill_40 (z_ti ev7 (z_istore X [(4, .int v7), (0, .ref (z_ad g 131)), (1, .ref (z_ad g x1)), (2, .int x2), (3, .int q.1)] dX0_fill_41 (by decide) rfl (z_aload_n X 1 dX0_fill_43 rfl rfl (z_getR X (k0 := 0) z_c131 rfl in_X0_fill_X0 (by decide) rfl rfl lk_X0_fill_9 dX0_fill_44 (z_iload X 0 dX0_fill_47 rfl (z_aload_n X 2 dX0_fill_49 rfl rfl (z_aload_n X 2 dX0_fill_50 rfl rfl (z_iload_n X 3 dX0_fill_51 rfl rfl (z_callVi X (r := r8) (u1 := q.2) [.int x2] [.ref (z_ad g x1), .int v7, .ref (z_ad g 132)] (w_X6_atLeast l g x1 x2 ex1 q.2 er8) (z_po ex1) rfl gX0_fill_X6_atLeast hy_X6_atLeast rfl (z_le1 hR (by decide)) (z_le2 hR (by decide) (by decide)) (Nat.le_of_ble_eq_true rfl) dX0_fill_52 (z_aload_n X 2 dX0_fill_55 rfl rfl (z_iload_n X 4 dX0_fill_56 rfl rfl (z_callVi X (r := r9) (u1 := q.2) [.int q.1] [.int r8, .ref (z_ad g x1), .int v7, .ref (z_ad g 132)] (w_X6_atLeast l g x1 q.1 ex1 q.2 er9) (z_po ex1) rfl gX0_fill_X6_atLeast hy_X6_atLeast rfl (z_le1 hR (by decide)) (z_le2 hR (by decide) (by decide)) (Nat.le_of_ble_eq_true rfl) dX0_fill_57 (z_iand X dX0_fill_60 (z_callVi X (r := r10) (u1 := q.2) [.int (r8 &&& r9)] [.int v7, .ref (z_ad g 132)] (w_X6_leastOf l g x1 (r8 &&& r9) ex1 q.2 er10) (z_po ex1) rfl gX0_fill_X6_leastOf hy_X6_leastOf rfl (z_le1 hR (by decide)) (z_le2 hR (by decide) (by decide)) (Nat.le_of_ble_eq_true rfl) dX0_fill_61 (z_iast X z_c132 (z_inS b11) dX0_fill_64 (z_nm eu12 (z_aload_n X 1 dX0_fill_65 rfl rfl (z_getR X (k0 := 1) z_c131 rfl in_X0_fill_X0 (by decide) rfl rfl lk_X0_fill_15 dX0_fill_66 (z_iload X 0 dX0_fill_69 rfl (z_aload_n X 2 dX0_fill_71 rfl rfl (z_aload_n X 2 dX0_fill_72 rfl rfl (z_iload_n X 3 dX0_fill_73 rfl rfl (z_callVi X (r := r13) (u1 := u12) [.int x2] [.ref (z_ad g x1), .int v7, .ref (z_ad g 133)] (w_X6_atMost l g x1 x2 ex1 u12 er13) (z_po ex1) rfl gX0_fill_X6_atMost hy_X6_atMost rfl (z_le1 hR (by decide)) (z_le2 hR (by decide) (by decide)) (Nat.le_of_ble_eq_true rfl) dX0_fill_74 (z_aload_n X 2 dX0_fill_77 rfl rfl (z_iload_n X 4 dX0_fill_78 rfl rfl (z_callVi X (r := r14) (u1 := u12) [.int q.1] [.int r13, .ref (z_ad g x1), .int v7, .ref (z_ad g 133)] (w_X6_atMost l g x1 q.1 ex1 u12 er14) (z_po ex1) rfl gX0_fill_X6_atMost hy_X6_atMost rfl (z_le1 hR (by decide)) (z_le2 hR (by decide) (by decide)) (Nat.le_of_ble_eq_true rfl) dX0_fill_79 (z_iand X dX0_fill_82 (z_callVi X (r := r15) (u1 := u12) [.int (r13 &&& r14)] [.int v7, .ref (z_ad g 133)] (w_X6_greatestOf l g x1 (r13 &&& r14) ex1 u12 er15) (z_po ex1) rfl gX0_fill_X6_greatestOf hy_X6_greatestOf rfl (z_le1 hR (by decide)) (z_le2 hR (by decide) (by decide)) (Nat.le_of_ble_eq_true rfl) dX0_fill_83 (z_iast X z_c133 (z_inS b16) dX0_fill_86 (z_nm eu17 (z_aload_n X 1 dX0_fill_87 rfl rfl (z_getR X (k0 := 0) z_c131 rfl in_X0_fill_X0 (by decide) rfl rfl lk_X0_fill_9 dX0_fill_88 (z_iload X 0 dX0_fill_91 rfl (z_iald X z_c132 (z_inS b18) dX0_fill_93 (z_if_lt X 107 dX0_fill_94 (by decide) (fun c19 => ?_) (fun c19 => ?_))))))))))))))))))))))))))))))))))))))))
        · replace h := z_ip c19 h
          refine z_iconst X (v := 0) dX0_fill_107 (by decide) ?_
          cases h; exact z_zret X rfl rfl dX0_fill_108 ⟨rfl, rfl⟩
        · replace h := z_in c19 h
          obtain ⟨b20, h⟩ := z_gs h
          refine z_aload_n X 1 dX0_fill_97 rfl rfl (z_getR X (k0 := 1) z_c131 rfl in_X0_fill_X0 (by decide) rfl rfl lk_X0_fill_15 dX0_fill_98 (z_iload X 0 dX0_fill_101 rfl (z_iald X z_c133 (z_inS b20) dX0_fill_103 (z_if_ge X 109 dX0_fill_104 (by decide) (fun c21 => ?_) (fun c21 => ?_)))))
          · replace h := z_ip c21 h
            refine z_iinc X (v := q.1 + 1) 4 [(3, .int (q.1 + 1)), (4, .int v7), (0, .ref (z_ad g 131)), (1, .ref (z_ad g x1)), (2, .int x2)] dX0_fill_109 rfl rfl (by decide) rfl (z_goto X 10 dX0_fill_112 (by decide) (z_sub [2, 3, 4, 0] [(0, .ref (z_ad g 131)), (1, .ref (z_ad g x1)), (2, .int x2), (3, .int (q.1 + 1))] rfl ?_))
            exact hkb (q.1 + 1, u17) h
          · replace h := z_in c21 h
            refine z_iconst X (v := 0) dX0_fill_107 (by decide) ?_
            cases h; exact z_zret X rfl rfl dX0_fill_108 ⟨rfl, rfl⟩
      · replace h := z_ip c6 h
        refine z_goto X 109 dX0_fill_32 (by decide) (z_iinc X (v := q.1 + 1) 3 [(3, .int (q.1 + 1)), (0, .ref (z_ad g 131)), (1, .ref (z_ad g x1)), (2, .int x2)] dX0_fill_109 rfl rfl (by decide) rfl (z_goto X 10 dX0_fill_112 (by decide) (z_sub [1, 2, 3, 0] [(0, .ref (z_ad g 131)), (1, .ref (z_ad g x1)), (2, .int x2), (3, .int (q.1 + 1))] rfl ?_)))
        exact hkb (q.1 + 1, q.2) h
set_option maxRecDepth 20000 in
set_option maxHeartbeats 4000000 in
theorem wb_X0_fill_2 {p : Program} {l : Launch} {e : Env} {R : Room} {s : State} {m : MethodId} {args : Array Value} {below : List Frame} {meth : Method} {c : Code} {g : z_G} {u : z_M} {res : Int32 × z_M} (hR : R = z_rm 5) (X : z_X p R s m args meth c cX0_fill 5 RX0 wsX0_fill (some .boolean) g z_shC) (x1 : Nat) (ex1 : z_PO x1) (q : Int32 × z_M) (kb : (Int32 × z_M) → Option (Int32 × z_M)) (kx : z_M → Option (Int32 × z_M)) (hkb : ∀ q, kb q = some res → z_V p l e R s m args below meth c 5 g z_shC (MQ below (z_Qc g z_shC (fun v u' => v = some (.int res.1) ∧ u' = res.2)) args s 0 0 (z_A g z_shC)) 2 [(0, .ref (z_ad g 131)), (1, .ref (z_ad g x1)), (2, .int q.1)] [] q.2) (hkx : ∀ t, kx t = some res → z_V p l e R s m args below meth c 5 g z_shC (MQ below (z_Qc g z_shC (fun v u' => v = some (.int res.1) ∧ u' = res.2)) args s 0 0 (z_A g z_shC)) 121 [] [] t) (h : b_X0_fill_2 x1 q kb kx = some res) : z_V p l e R s m args below meth c 5 g z_shC (MQ below (z_Qc g z_shC (fun v u' => v = some (.int res.1) ∧ u' = res.2)) args s 0 0 (z_A g z_shC)) 2 [(0, .ref (z_ad g 131)), (1, .ref (z_ad g x1)), (2, .int q.1)] [] q.2 := by
  unfold b_X0_fill_2 at h
  refine z_iload_n X 2 dX0_fill_2 rfl rfl (z_bipush X (v := 9) dX0_fill_3 (by decide) (z_icmp_ge X 121 dX0_fill_5 (by decide) (fun c1 => ?_) (fun c1 => ?_)))
  · replace h := z_ip c1 h
    refine z_sub [] [] rfl ?_
    exact hkx q.2 h
  · replace h := z_in c1 h
    refine z_iconst X (v := 0) dX0_fill_8 (by decide) (z_istore_n X [(3, .int 0), (0, .ref (z_ad g 131)), (1, .ref (z_ad g x1)), (2, .int q.1)] dX0_fill_9 rfl (by decide) rfl (z_sub [1, 2, 3, 0] [(0, .ref (z_ad g 131)), (1, .ref (z_ad g x1)), (2, .int q.1), (3, .int 0)] rfl ?_))
    have hw := z_lp_w (fun q9 kb9 kx9 h1 h2 h3 => wb_X0_fill_10 (l := l) (e := e) (below := below) (u := q.2) hR X x1 q.1 ex1 q9 kb9 kx9 h1 h2 h3) z_F _ _ h
    refine hw (fun t22 h => ?_)
    refine z_iinc X (v := q.1 + 1) 2 [(2, .int (q.1 + 1)), (0, .ref (z_ad g 131)), (1, .ref (z_ad g x1))] dX0_fill_115 rfl rfl (by decide) rfl (z_goto X 2 dX0_fill_118 (by decide) (z_sub [1, 2, 0] [(0, .ref (z_ad g 131)), (1, .ref (z_ad g x1)), (2, .int (q.1 + 1))] rfl ?_))
    exact hkb (q.1 + 1, t22) h
set_option maxRecDepth 20000 in
set_option maxHeartbeats 4000000 in
theorem w_X0_fill (l : Launch) (g : z_G) (a1 : Nat) (ea1 : z_PO a1) (u : z_M) {res : Int32 × z_M} (h : f_X0_fill a1 u = some res) : z_C l g z_shC yX0_fill wsX0_fill 5 [.ref (z_ad g 131), .ref (z_ad g a1)] u (fun v u' => v = some (.int res.1) ∧ u' = res.2) := by
  refine z_C.mk (lv := [(0, .ref (z_ad g 131)), (1, .ref (z_ad g a1))]) (cc := cX0_fill) (nL := 5) (rt := (some .boolean)) rfl (by decide) (Nat.le_of_ble_eq_true rfl) rfl (fun p e R s m args below meth c hR X => ?_)
  unfold f_X0_fill at h
  refine z_iconst X (v := 0) dX0_fill_0 (by decide) (z_istore_n X [(2, .int 0), (0, .ref (z_ad g 131)), (1, .ref (z_ad g a1))] dX0_fill_1 rfl (by decide) rfl (z_sub [1, 2, 0] [(0, .ref (z_ad g 131)), (1, .ref (z_ad g a1)), (2, .int 0)] rfl ?_))
  have hw := z_lp_w (fun q9 kb9 kx9 h1 h2 h3 => wb_X0_fill_2 (l := l) (e := e) (below := below) (u := u) hR X a1 ea1 q9 kb9 kx9 h1 h2 h3) z_F _ _ h
  refine hw (fun t23 h => ?_)
  refine z_iconst X (v := 1) dX0_fill_121 (by decide) ?_
  cases h; exact z_zret X rfl rfl dX0_fill_122 ⟨rfl, rfl⟩

def f_X0_at (a1 na1 : Nat) (a2 : Int32) (a3 : Int32) (u : z_M) : Option (Int32) :=
  z_lt ((a2 * 9) + a3) (fun v1 => if a2 < 0 then (some (-1)) else (if a3 < 0 then (some (-1)) else (if (nI na1) ≤ v1 then (some (-1)) else (z_gd (z_inb v1 na1) (some (z_gI u a1 v1.toNatClampNeg))))))
set_option maxRecDepth 20000 in
set_option maxHeartbeats 4000000 in
theorem w_X0_at (l : Launch) (g : z_G) (a1 na1 : Nat) (a2 : Int32) (a3 : Int32) (ea1 : z_shC[a1]? = some (.inl (0, na1, none))) (u : z_M) {res : Int32} (h : f_X0_at a1 na1 a2 a3 u = some res) : z_C l g z_shC yX0_at wsX0_at 1 [.ref (z_ad g a1), .int a2, .int a3] u (fun v u' => v = some (.int res) ∧ u' = u) := by
  refine z_C.mk (lv := [(0, .ref (z_ad g a1)), (1, .int a2), (2, .int a3)]) (cc := cX0_at) (nL := 4) (rt := (some .int)) rfl (by decide) (Nat.le_of_ble_eq_true rfl) rfl (fun p e R s m args below meth c hR X => ?_)
  unfold f_X0_at at h
  obtain ⟨v1, ev1, h⟩ := z_ls h
  refine z_iload_n X 1 dX0_at_0 rfl rfl (z_bipush X (v := 9) dX0_at_1 (by decide) (z_imul X dX0_at_3 (z_iload_n X 2 dX0_at_4 rfl rfl (z_iadd X dX0_at_5 (z_ti ev1 (z_istore_n X [(3, .int v1), (0, .ref (z_ad g a1)), (1, .int a2), (2, .int a3)] dX0_at_6 rfl (by decide) rfl (z_iload_n X 2 dX0_at_7 rfl rfl (z_if_lt X 27 dX0_at_8 (by decide) (fun c2 => ?_) (fun c2 => ?_)))))))))
  · replace h := z_ip c2 h
    refine z_iconst X (v := (-1)) dX0_at_27 (by decide) ?_
    cases h; exact z_iret X rfl dX0_at_28 ⟨rfl, rfl⟩
  · replace h := z_in c2 h
    refine z_iload_n X 3 dX0_at_11 rfl rfl (z_if_lt X 27 dX0_at_12 (by decide) (fun c3 => ?_) (fun c3 => ?_))
    · replace h := z_ip c3 h
      refine z_iconst X (v := (-1)) dX0_at_27 (by decide) ?_
      cases h; exact z_iret X rfl dX0_at_28 ⟨rfl, rfl⟩
    · replace h := z_in c3 h
      refine z_iload_n X 0 dX0_at_15 rfl rfl (z_aload_n X 1 dX0_at_16 rfl rfl (z_alen X ea1 (by decide) dX0_at_17 (z_icmp_ge X 27 dX0_at_18 (by decide) (fun c4 => ?_) (fun c4 => ?_))))
      · replace h := z_ip c4 h
        refine z_iconst X (v := (-1)) dX0_at_27 (by decide) ?_
        cases h; exact z_iret X rfl dX0_at_28 ⟨rfl, rfl⟩
      · replace h := z_in c4 h
        obtain ⟨b5, h⟩ := z_gs h
        refine z_aload_n X 1 dX0_at_21 rfl rfl (z_iload_n X 0 dX0_at_22 rfl rfl (z_iald X ea1 (z_inS b5) dX0_at_23 (z_goto X 28 dX0_at_24 (by decide) ?_)))
        cases h; exact z_iret X rfl dX0_at_28 ⟨rfl, rfl⟩

theorem lk_X0_distributesAt_15 : (Cond.fieldLink RX0 15 RX0 (TX0 1).2.1 (TX0 1).2.2.1) ∈ wsX0_distributesAt := by decide +kernel
theorem in_X0_distributesAt_X0 : ∀ w ∈ u_ws RX0 TX0 2, w ∈ wsX0_distributesAt := by decide +kernel
theorem lk_X0_distributesAt_9 : (Cond.fieldLink RX0 9 RX0 (TX0 0).2.1 (TX0 0).2.2.1) ∈ wsX0_distributesAt := by decide +kernel
theorem hy_X0_at : yX0_at.cls = RX0 ∧ yX0_at.cls ≠ "java/lang/invoke/MethodHandle" ∧ yX0_at.cls ≠ "java/lang/invoke/VarHandle" ∧ (parseMethodDescriptor yX0_at.desc).map (fun d => d.parameters.length) = some 3 := by decide +kernel
def b_X0_distributesAt_3 (x1 : Nat) (x2 : Int32) (x3 : Int32) (u : z_M) : Int32 → (Int32 → Option (Int32)) → (Unit → Option (Int32)) → Option (Int32) := fun q kb kx =>
  if 9 ≤ q then (kx ()) else (Option.bind (f_X6_has x1 q u) (fun r2 => if r2 = 0 then (kb (q + 1)) else (Option.bind (f_X0_at 132 81 q x3 u) (fun r4 => Option.bind (f_X0_at 133 81 x2 r4 u) (fun r5 => Option.bind (f_X0_at 133 81 x2 q u) (fun r6 => Option.bind (f_X0_at 133 81 x2 x3 u) (fun r7 => Option.bind (f_X0_at 132 81 r6 r7 u) (fun r8 => if r5 = r8 then (kb (q + 1)) else (some 0)))))))))
def f_X0_distributesAt (a1 : Nat) (a2 : Int32) (a3 : Int32) (u : z_M) : Option (Int32) :=
  z_lp (b_X0_distributesAt_3 a1 a2 a3 u) z_F 0 (fun t10 => some 1)
set_option maxRecDepth 20000 in
set_option maxHeartbeats 4000000 in
theorem wb_X0_distributesAt_3 {p : Program} {l : Launch} {e : Env} {R : Room} {s : State} {m : MethodId} {args : Array Value} {below : List Frame} {meth : Method} {c : Code} {g : z_G} {u : z_M} {res : Int32} (hR : R = z_rm 3) (X : z_X p R s m args meth c cX0_distributesAt 7 RX0 wsX0_distributesAt (some .boolean) g z_shC) (x1 : Nat) (x2 : Int32) (x3 : Int32) (ex1 : z_PO x1) (q : Int32) (kb : Int32 → Option (Int32)) (kx : Unit → Option (Int32)) (hkb : ∀ q, kb q = some res → z_V p l e R s m args below meth c 7 g z_shC (MQ below (z_Qc g z_shC (fun v u' => v = some (.int res) ∧ u' = u)) args s 0 0 (z_A g z_shC)) 3 [(0, .ref (z_ad g 131)), (1, .ref (z_ad g x1)), (2, .int x2), (3, .int x3), (4, .int q)] [] u) (hkx : ∀ t, kx t = some res → z_V p l e R s m args below meth c 7 g z_shC (MQ below (z_Qc g z_shC (fun v u' => v = some (.int res) ∧ u' = u)) args s 0 0 (z_A g z_shC)) 82 [] [] u) (h : b_X0_distributesAt_3 x1 x2 x3 u q kb kx = some res) : z_V p l e R s m args below meth c 7 g z_shC (MQ below (z_Qc g z_shC (fun v u' => v = some (.int res) ∧ u' = u)) args s 0 0 (z_A g z_shC)) 3 [(0, .ref (z_ad g 131)), (1, .ref (z_ad g x1)), (2, .int x2), (3, .int x3), (4, .int q)] [] u := by
  unfold b_X0_distributesAt_3 at h
  refine z_iload X 4 dX0_distributesAt_3 rfl (z_bipush X (v := 9) dX0_distributesAt_5 (by decide) (z_icmp_ge X 82 dX0_distributesAt_7 (by decide) (fun c1 => ?_) (fun c1 => ?_)))
  · replace h := z_ip c1 h
    refine z_sub [] [] rfl ?_
    exact hkx () h
  · replace h := z_in c1 h
    obtain ⟨r2, er2, h⟩ := z_bs h
    refine z_aload_n X 1 dX0_distributesAt_10 rfl rfl (z_iload X 4 dX0_distributesAt_11 rfl (z_callVi X (r := r2) (u1 := u) [.int q] [] (w_X6_has l g x1 q ex1 u er2) (z_po ex1) rfl gX0_distributesAt_X6_has hy_X6_has rfl (z_le1 hR (by decide)) (z_le2 hR (by decide) (by decide)) (Nat.le_of_ble_eq_true rfl) dX0_distributesAt_13 (z_if_eq X 76 dX0_distributesAt_16 (by decide) (fun c3 => ?_) (fun c3 => ?_))))
    · replace h := z_ip c3 h
      refine z_iinc X (v := q + 1) 4 [(4, .int (q + 1)), (0, .ref (z_ad g 131)), (1, .ref (z_ad g x1)), (2, .int x2), (3, .int x3)] dX0_distributesAt_76 rfl rfl (by decide) rfl (z_goto X 3 dX0_distributesAt_79 (by decide) (z_sub [1, 2, 3, 4, 0] [(0, .ref (z_ad g 131)), (1, .ref (z_ad g x1)), (2, .int x2), (3, .int x3), (4, .int (q + 1))] rfl ?_))
      exact hkb (q + 1) h
    · replace h := z_in c3 h
      obtain ⟨r4, er4, h⟩ := z_bs h
      obtain ⟨r5, er5, h⟩ := z_bs h
      obtain ⟨r6, er6, h⟩ := z_bs h
      obtain ⟨r7, er7, h⟩ := z_bs h
      obtain ⟨r8, er8, h⟩ := z_bs h
      refine z_aload_n X 0 dX0_distributesAt_19 rfl rfl (z_getR X (k0 := 1) z_c131 rfl in_X0_distributesAt_X0 (by decide) rfl rfl lk_X0_distributesAt_15 dX0_distributesAt_20 (z_iload_n X 2 dX0_distributesAt_23 rfl rfl (z_aload_n X 0 dX0_distributesAt_24 rfl rfl (z_getR X (k0 := 0) z_c131 rfl in_X0_distributesAt_X0 (by decide) rfl rfl lk_X0_distributesAt_9 dX0_distributesAt_25 (z_iload X 4 dX0_distributesAt_28 rfl (z_iload_n X 3 dX0_distributesAt_30 rfl rfl (z_callSi X (r := r4) (u1 := u) [.ref (z_ad g 132), .int q, .int x3] [.int x2, .ref (z_ad g 133)] (w_X0_at l g 132 81 q x3 z_c132 u er4) gX0_distributesAt_X0_at hy_X0_at.2 rfl (z_le1 hR (by decide)) (z_le2 hR (by decide) (by decide)) (Nat.le_of_ble_eq_true rfl) dX0_distributesAt_31 (z_callSi X (r := r5) (u1 := u) [.ref (z_ad g 133), .int x2, .int r4] [] (w_X0_at l g 133 81 x2 r4 z_c133 u er5) gX0_distributesAt_X0_at hy_X0_at.2 rfl (z_le1 hR (by decide)) (z_le2 hR (by decide) (by decide)) (Nat.le_of_ble_eq_true rfl) dX0_distributesAt_34 (z_istore X [(5, .int r5), (0, .ref (z_ad g 131)), (1, .ref (z_ad g x1)), (2, .int x2), (3, .int x3), (4, .int q)] dX0_distributesAt_37 (by decide) rfl (z_aload_n X 1 dX0_distributesAt_39 rfl rfl (z_getR X (k0 := 0) z_c131 rfl in_X0_distributesAt_X0 (by decide) rfl rfl lk_X0_distributesAt_9 dX0_distributesAt_40 (z_aload_n X 1 dX0_distributesAt_43 rfl rfl (z_getR X (k0 := 1) z_c131 rfl in_X0_distributesAt_X0 (by decide) rfl rfl lk_X0_distributesAt_15 dX0_distributesAt_44 (z_iload_n X 3 dX0_distributesAt_47 rfl rfl (z_iload X 5 dX0_distributesAt_48 rfl (z_callSi X (r := r6) (u1 := u) [.ref (z_ad g 133), .int x2, .int q] [.ref (z_ad g 132)] (w_X0_at l g 133 81 x2 q z_c133 u er6) gX0_distributesAt_X0_at hy_X0_at.2 rfl (z_le1 hR (by decide)) (z_le2 hR (by decide) (by decide)) (Nat.le_of_ble_eq_true rfl) dX0_distributesAt_50 (z_aload_n X 1 dX0_distributesAt_53 rfl rfl (z_getR X (k0 := 1) z_c131 rfl in_X0_distributesAt_X0 (by decide) rfl rfl lk_X0_distributesAt_15 dX0_distributesAt_54 (z_iload_n X 3 dX0_distributesAt_57 rfl rfl (z_iload_n X 4 dX0_distributesAt_58 rfl rfl (z_callSi X (r := r7) (u1 := u) [.ref (z_ad g 133), .int x2, .int x3] [.int r6, .ref (z_ad g 132)] (w_X0_at l g 133 81 x2 x3 z_c133 u er7) gX0_distributesAt_X0_at hy_X0_at.2 rfl (z_le1 hR (by decide)) (z_le2 hR (by decide) (by decide)) (Nat.le_of_ble_eq_true rfl) dX0_distributesAt_59 (z_callSi X (r := r8) (u1 := u) [.ref (z_ad g 132), .int r6, .int r7] [] (w_X0_at l g 132 81 r6 r7 z_c132 u er8) gX0_distributesAt_X0_at hy_X0_at.2 rfl (z_le1 hR (by decide)) (z_le2 hR (by decide) (by decide)) (Nat.le_of_ble_eq_true rfl) dX0_distributesAt_62 (z_istore X [(6, .int r8), (5, .int r5), (0, .ref (z_ad g 131)), (1, .ref (z_ad g x1)), (2, .int x2), (3, .int x3), (4, .int q)] dX0_distributesAt_65 (by decide) rfl (z_iload X 1 dX0_distributesAt_67 rfl (z_iload X 0 dX0_distributesAt_69 rfl (z_icmp_eq X 76 dX0_distributesAt_71 (by decide) (fun c9 => ?_) (fun c9 => ?_)))))))))))))))))))))))))))
      · replace h := z_ip c9 h
        refine z_iinc X (v := q + 1) 6 [(4, .int (q + 1)), (6, .int r8), (5, .int r5), (0, .ref (z_ad g 131)), (1, .ref (z_ad g x1)), (2, .int x2), (3, .int x3)] dX0_distributesAt_76 rfl rfl (by decide) rfl (z_goto X 3 dX0_distributesAt_79 (by decide) (z_sub [3, 4, 5, 6, 0] [(0, .ref (z_ad g 131)), (1, .ref (z_ad g x1)), (2, .int x2), (3, .int x3), (4, .int (q + 1))] rfl ?_))
        exact hkb (q + 1) h
      · replace h := z_in c9 h
        refine z_iconst X (v := 0) dX0_distributesAt_74 (by decide) ?_
        cases h; exact z_zret X rfl rfl dX0_distributesAt_75 ⟨rfl, rfl⟩
set_option maxRecDepth 20000 in
set_option maxHeartbeats 4000000 in
theorem w_X0_distributesAt (l : Launch) (g : z_G) (a1 : Nat) (a2 : Int32) (a3 : Int32) (ea1 : z_PO a1) (u : z_M) {res : Int32} (h : f_X0_distributesAt a1 a2 a3 u = some res) : z_C l g z_shC yX0_distributesAt wsX0_distributesAt 3 [.ref (z_ad g 131), .ref (z_ad g a1), .int a2, .int a3] u (fun v u' => v = some (.int res) ∧ u' = u) := by
  refine z_C.mk (lv := [(0, .ref (z_ad g 131)), (1, .ref (z_ad g a1)), (2, .int a2), (3, .int a3)]) (cc := cX0_distributesAt) (nL := 7) (rt := (some .boolean)) rfl (by decide) (Nat.le_of_ble_eq_true rfl) rfl (fun p e R s m args below meth c hR X => ?_)
  unfold f_X0_distributesAt at h
  refine z_iconst X (v := 0) dX0_distributesAt_0 (by decide) (z_istore X [(4, .int 0), (0, .ref (z_ad g 131)), (1, .ref (z_ad g a1)), (2, .int a2), (3, .int a3)] dX0_distributesAt_1 (by decide) rfl (z_sub [1, 2, 3, 4, 0] [(0, .ref (z_ad g 131)), (1, .ref (z_ad g a1)), (2, .int a2), (3, .int a3), (4, .int 0)] rfl ?_))
  have hw := z_lp_w (fun q9 kb9 kx9 h1 h2 h3 => wb_X0_distributesAt_3 (l := l) (e := e) (below := below) (u := u) hR X a1 a2 a3 ea1 q9 kb9 kx9 h1 h2 h3) z_F _ _ h
  refine hw (fun t10 h => ?_)
  refine z_iconst X (v := 1) dX0_distributesAt_82 (by decide) ?_
  cases h; exact z_zret X rfl rfl dX0_distributesAt_83 ⟨rfl, rfl⟩

theorem ini_X9_isIn_X0_distributes : Cond.initialized yX9_isIn.cls ∈ wsX0_distributes := by decide +kernel
theorem sta_X9_isIn_X0_distributes : Cond.static yX9_isIn ∈ wsX0_distributes := by decide +kernel
theorem hy_X0_distributesAt : yX0_distributesAt.cls = RX0 ∧ yX0_distributesAt.cls ≠ "java/lang/invoke/MethodHandle" ∧ yX0_distributesAt.cls ≠ "java/lang/invoke/VarHandle" ∧ (parseMethodDescriptor yX0_distributesAt.desc).map (fun d => d.parameters.length) = some 3 := by decide +kernel
def j_X0_distributes_j57 (x1 : Nat) (x2 : Int32) (x3 : Int32) (x4 : Int32) (x90 : Int32) (w : z_M) (kb : Int32 → Option (Int32)) (kx : Unit → Option (Int32)) : Option (Int32) :=
  if x90 = 0 then (kb (x4 + 1)) else (Option.bind (f_X0_distributesAt x1 x3 x4 w) (fun r6 => if r6 = 0 then (some 0) else (kb (x4 + 1))))
def j_X0_distributes_j56 (x1 : Nat) (x2 : Int32) (x3 : Int32) (x4 : Int32) (w : z_M) (kb : Int32 → Option (Int32)) (kx : Unit → Option (Int32)) : Option (Int32) :=
  j_X0_distributes_j57 x1 x2 x3 x4 0 w kb kx
def j_X0_distributes_j52 (x1 : Nat) (x2 : Int32) (x3 : Int32) (x4 : Int32) (w : z_M) (kb : Int32 → Option (Int32)) (kx : Unit → Option (Int32)) : Option (Int32) :=
  j_X0_distributes_j57 x1 x2 x3 x4 1 w kb kx
def b_X0_distributes_11 (x1 : Nat) (x2 : Int32) (x3 : Int32) (u : z_M) : Int32 → (Int32 → Option (Int32)) → (Unit → Option (Int32)) → Option (Int32) := fun q kb kx =>
  if 9 ≤ q then (kx ()) else (Option.bind (f_X6_has x1 x3 u) (fun r3 => if r3 = 0 then (j_X0_distributes_j56 x1 x2 x3 q u kb kx) else (Option.bind (f_X6_has x1 q u) (fun r8 => if r8 = 0 then (j_X0_distributes_j56 x1 x2 x3 q u kb kx) else (if x2 = 0 then (j_X0_distributes_j52 x1 x2 x3 q u kb kx) else (Option.bind (f_X6_atMost x1 x3 u) (fun r11 => Option.bind (f_X9_isIn r11 q) (fun r12 => if r12 = 0 then (j_X0_distributes_j56 x1 x2 x3 q u kb kx) else (j_X0_distributes_j52 x1 x2 x3 q u kb kx)))))))))
def b_X0_distributes_2 (x1 : Nat) (x2 : Int32) (u : z_M) : Int32 → (Int32 → Option (Int32)) → (Unit → Option (Int32)) → Option (Int32) := fun q kb kx =>
  if 9 ≤ q then (kx ()) else (z_lp (b_X0_distributes_11 x1 x2 q u) z_F 0 (fun t14 => kb (q + 1)))
def f_X0_distributes (a1 : Nat) (a2 : Int32) (u : z_M) : Option (Int32) :=
  z_lp (b_X0_distributes_2 a1 a2 u) z_F 0 (fun t15 => some 1)
set_option maxRecDepth 20000 in
set_option maxHeartbeats 4000000 in
theorem wj_X0_distributes_j57 {p : Program} {l : Launch} {e : Env} {R : Room} {s : State} {m : MethodId} {args : Array Value} {below : List Frame} {meth : Method} {c : Code} {g : z_G} {u : z_M} {res : Int32} (hR : R = z_rm 4) (X : z_X p R s m args meth c cX0_distributes 6 RX0 wsX0_distributes (some .boolean) g z_shC) (x1 : Nat) (x2 : Int32) (x3 : Int32) (ex1 : z_PO x1) (x4 : Int32) (x90 : Int32) (w : z_M) (ew : w = u) (kb : Int32 → Option (Int32)) (kx : Unit → Option (Int32)) (hkb : ∀ q, kb q = some res → z_V p l e R s m args below meth c 6 g z_shC (MQ below (z_Qc g z_shC (fun v u' => v = some (.int res) ∧ u' = u)) args s 0 0 (z_A g z_shC)) 11 [(0, .ref (z_ad g 131)), (1, .ref (z_ad g x1)), (2, .int x2), (3, .int x3), (4, .int q)] [] u) (hkx : ∀ t, kx t = some res → z_V p l e R s m args below meth c 6 g z_shC (MQ below (z_Qc g z_shC (fun v u' => v = some (.int res) ∧ u' = u)) args s 0 0 (z_A g z_shC)) 83 [(0, .ref (z_ad g 131)), (1, .ref (z_ad g x1)), (2, .int x2), (3, .int x3)] [] u) (h : j_X0_distributes_j57 x1 x2 x3 x4 x90 w kb kx = some res) : z_V p l e R s m args below meth c 6 g z_shC (MQ below (z_Qc g z_shC (fun v u' => v = some (.int res) ∧ u' = u)) args s 0 0 (z_A g z_shC)) 57 [(0, .ref (z_ad g 131)), (1, .ref (z_ad g x1)), (2, .int x2), (3, .int x3), (4, .int x4)] [.int x90] w := by
  unfold j_X0_distributes_j57 at h
  subst ew
  refine z_istore X [(5, .int x90), (0, .ref (z_ad g 131)), (1, .ref (z_ad g x1)), (2, .int x2), (3, .int x3), (4, .int x4)] dX0_distributes_57 (by decide) rfl (z_iload X 0 dX0_distributes_59 rfl (z_if_eq X 77 dX0_distributes_61 (by decide) (fun c5 => ?_) (fun c5 => ?_)))
  · replace h := z_ip c5 h
    refine z_iinc X (v := x4 + 1) 5 [(4, .int (x4 + 1)), (5, .int x90), (0, .ref (z_ad g 131)), (1, .ref (z_ad g x1)), (2, .int x2), (3, .int x3)] dX0_distributes_77 rfl rfl (by decide) rfl (z_goto X 11 dX0_distributes_80 (by decide) (z_sub [2, 3, 4, 5, 0] [(0, .ref (z_ad g 131)), (1, .ref (z_ad g x1)), (2, .int x2), (3, .int x3), (4, .int (x4 + 1))] rfl ?_))
    exact hkb (x4 + 1) h
  · replace h := z_in c5 h
    obtain ⟨r6, er6, h⟩ := z_bs h
    refine z_aload_n X 1 dX0_distributes_64 rfl rfl (z_aload_n X 2 dX0_distributes_65 rfl rfl (z_iload_n X 4 dX0_distributes_66 rfl rfl (z_iload X 5 dX0_distributes_67 rfl (z_callVi X (r := r6) (u1 := w) [.ref (z_ad g x1), .int x3, .int x4] [] (w_X0_distributesAt l g x1 x3 x4 ex1 w er6) z_c131 rfl gX0_distributes_X0_distributesAt hy_X0_distributesAt rfl (z_le1 hR (by decide)) (z_le2 hR (by decide) (by decide)) (Nat.le_of_ble_eq_true rfl) dX0_distributes_69 (z_if_ne X 77 dX0_distributes_72 (by decide) (fun c7 => ?_) (fun c7 => ?_))))))
    · replace h := z_in c7 h
      refine z_iinc X (v := x4 + 1) 5 [(4, .int (x4 + 1)), (5, .int x90), (0, .ref (z_ad g 131)), (1, .ref (z_ad g x1)), (2, .int x2), (3, .int x3)] dX0_distributes_77 rfl rfl (by decide) rfl (z_goto X 11 dX0_distributes_80 (by decide) (z_sub [2, 3, 4, 5, 0] [(0, .ref (z_ad g 131)), (1, .ref (z_ad g x1)), (2, .int x2), (3, .int x3), (4, .int (x4 + 1))] rfl ?_))
      exact hkb (x4 + 1) h
    · replace h := z_ip c7 h
      refine z_iconst X (v := 0) dX0_distributes_75 (by decide) ?_
      cases h; exact z_zret X rfl rfl dX0_distributes_76 ⟨rfl, rfl⟩
set_option maxRecDepth 20000 in
set_option maxHeartbeats 4000000 in
theorem wj_X0_distributes_j56 {p : Program} {l : Launch} {e : Env} {R : Room} {s : State} {m : MethodId} {args : Array Value} {below : List Frame} {meth : Method} {c : Code} {g : z_G} {u : z_M} {res : Int32} (hR : R = z_rm 4) (X : z_X p R s m args meth c cX0_distributes 6 RX0 wsX0_distributes (some .boolean) g z_shC) (x1 : Nat) (x2 : Int32) (x3 : Int32) (ex1 : z_PO x1) (x4 : Int32) (w : z_M) (ew : w = u) (kb : Int32 → Option (Int32)) (kx : Unit → Option (Int32)) (hkb : ∀ q, kb q = some res → z_V p l e R s m args below meth c 6 g z_shC (MQ below (z_Qc g z_shC (fun v u' => v = some (.int res) ∧ u' = u)) args s 0 0 (z_A g z_shC)) 11 [(0, .ref (z_ad g 131)), (1, .ref (z_ad g x1)), (2, .int x2), (3, .int x3), (4, .int q)] [] u) (hkx : ∀ t, kx t = some res → z_V p l e R s m args below meth c 6 g z_shC (MQ below (z_Qc g z_shC (fun v u' => v = some (.int res) ∧ u' = u)) args s 0 0 (z_A g z_shC)) 83 [(0, .ref (z_ad g 131)), (1, .ref (z_ad g x1)), (2, .int x2), (3, .int x3)] [] u) (h : j_X0_distributes_j56 x1 x2 x3 x4 w kb kx = some res) : z_V p l e R s m args below meth c 6 g z_shC (MQ below (z_Qc g z_shC (fun v u' => v = some (.int res) ∧ u' = u)) args s 0 0 (z_A g z_shC)) 56 [(0, .ref (z_ad g 131)), (1, .ref (z_ad g x1)), (2, .int x2), (3, .int x3), (4, .int x4)] [] w := by
  unfold j_X0_distributes_j56 at h
  subst ew
  refine z_iconst X (v := 0) dX0_distributes_56 (by decide) ?_
  exact wj_X0_distributes_j57 (u := w) hR X x1 x2 x3 ex1 x4 0 w rfl kb kx hkb hkx h
set_option maxRecDepth 20000 in
set_option maxHeartbeats 4000000 in
theorem wj_X0_distributes_j52 {p : Program} {l : Launch} {e : Env} {R : Room} {s : State} {m : MethodId} {args : Array Value} {below : List Frame} {meth : Method} {c : Code} {g : z_G} {u : z_M} {res : Int32} (hR : R = z_rm 4) (X : z_X p R s m args meth c cX0_distributes 6 RX0 wsX0_distributes (some .boolean) g z_shC) (x1 : Nat) (x2 : Int32) (x3 : Int32) (ex1 : z_PO x1) (x4 : Int32) (w : z_M) (ew : w = u) (kb : Int32 → Option (Int32)) (kx : Unit → Option (Int32)) (hkb : ∀ q, kb q = some res → z_V p l e R s m args below meth c 6 g z_shC (MQ below (z_Qc g z_shC (fun v u' => v = some (.int res) ∧ u' = u)) args s 0 0 (z_A g z_shC)) 11 [(0, .ref (z_ad g 131)), (1, .ref (z_ad g x1)), (2, .int x2), (3, .int x3), (4, .int q)] [] u) (hkx : ∀ t, kx t = some res → z_V p l e R s m args below meth c 6 g z_shC (MQ below (z_Qc g z_shC (fun v u' => v = some (.int res) ∧ u' = u)) args s 0 0 (z_A g z_shC)) 83 [(0, .ref (z_ad g 131)), (1, .ref (z_ad g x1)), (2, .int x2), (3, .int x3)] [] u) (h : j_X0_distributes_j52 x1 x2 x3 x4 w kb kx = some res) : z_V p l e R s m args below meth c 6 g z_shC (MQ below (z_Qc g z_shC (fun v u' => v = some (.int res) ∧ u' = u)) args s 0 0 (z_A g z_shC)) 52 [(0, .ref (z_ad g 131)), (1, .ref (z_ad g x1)), (2, .int x2), (3, .int x3), (4, .int x4)] [] w := by
  unfold j_X0_distributes_j52 at h
  subst ew
  refine z_iconst X (v := 1) dX0_distributes_52 (by decide) (z_goto X 57 dX0_distributes_53 (by decide) ?_)
  exact wj_X0_distributes_j57 (u := w) hR X x1 x2 x3 ex1 x4 1 w rfl kb kx hkb hkx h
set_option maxRecDepth 20000 in
set_option maxHeartbeats 4000000 in
theorem wb_X0_distributes_11 {p : Program} {l : Launch} {e : Env} {R : Room} {s : State} {m : MethodId} {args : Array Value} {below : List Frame} {meth : Method} {c : Code} {g : z_G} {u : z_M} {res : Int32} (hR : R = z_rm 4) (X : z_X p R s m args meth c cX0_distributes 6 RX0 wsX0_distributes (some .boolean) g z_shC) (x1 : Nat) (x2 : Int32) (x3 : Int32) (ex1 : z_PO x1) (q : Int32) (kb : Int32 → Option (Int32)) (kx : Unit → Option (Int32)) (hkb : ∀ q, kb q = some res → z_V p l e R s m args below meth c 6 g z_shC (MQ below (z_Qc g z_shC (fun v u' => v = some (.int res) ∧ u' = u)) args s 0 0 (z_A g z_shC)) 11 [(0, .ref (z_ad g 131)), (1, .ref (z_ad g x1)), (2, .int x2), (3, .int x3), (4, .int q)] [] u) (hkx : ∀ t, kx t = some res → z_V p l e R s m args below meth c 6 g z_shC (MQ below (z_Qc g z_shC (fun v u' => v = some (.int res) ∧ u' = u)) args s 0 0 (z_A g z_shC)) 83 [(0, .ref (z_ad g 131)), (1, .ref (z_ad g x1)), (2, .int x2), (3, .int x3)] [] u) (h : b_X0_distributes_11 x1 x2 x3 u q kb kx = some res) : z_V p l e R s m args below meth c 6 g z_shC (MQ below (z_Qc g z_shC (fun v u' => v = some (.int res) ∧ u' = u)) args s 0 0 (z_A g z_shC)) 11 [(0, .ref (z_ad g 131)), (1, .ref (z_ad g x1)), (2, .int x2), (3, .int x3), (4, .int q)] [] u := by
  unfold b_X0_distributes_11 at h
  refine z_iload X 4 dX0_distributes_11 rfl (z_bipush X (v := 9) dX0_distributes_13 (by decide) (z_icmp_ge X 83 dX0_distributes_15 (by decide) (fun c2 => ?_) (fun c2 => ?_)))
  · replace h := z_ip c2 h
    refine z_sub [0, 1, 2, 3] [(0, .ref (z_ad g 131)), (1, .ref (z_ad g x1)), (2, .int x2), (3, .int x3)] rfl ?_
    exact hkx () h
  · replace h := z_in c2 h
    obtain ⟨r3, er3, h⟩ := z_bs h
    refine z_aload_n X 1 dX0_distributes_18 rfl rfl (z_iload_n X 3 dX0_distributes_19 rfl rfl (z_callVi X (r := r3) (u1 := u) [.int x3] [] (w_X6_has l g x1 x3 ex1 u er3) (z_po ex1) rfl gX0_distributes_X6_has hy_X6_has rfl (z_le1 hR (by decide)) (z_le2 hR (by decide) (by decide)) (Nat.le_of_ble_eq_true rfl) dX0_distributes_20 (z_if_eq X 56 dX0_distributes_23 (by decide) (fun c4 => ?_) (fun c4 => ?_))))
    · replace h := z_ip c4 h
      exact wj_X0_distributes_j56 (u := u) hR X x1 x2 x3 ex1 q u rfl kb kx hkb hkx h
    · replace h := z_in c4 h
      obtain ⟨r8, er8, h⟩ := z_bs h
      refine z_aload_n X 1 dX0_distributes_26 rfl rfl (z_iload X 4 dX0_distributes_27 rfl (z_callVi X (r := r8) (u1 := u) [.int q] [] (w_X6_has l g x1 q ex1 u er8) (z_po ex1) rfl gX0_distributes_X6_has hy_X6_has rfl (z_le1 hR (by decide)) (z_le2 hR (by decide) (by decide)) (Nat.le_of_ble_eq_true rfl) dX0_distributes_29 (z_if_eq X 56 dX0_distributes_32 (by decide) (fun c9 => ?_) (fun c9 => ?_))))
      · replace h := z_ip c9 h
        exact wj_X0_distributes_j56 (u := u) hR X x1 x2 x3 ex1 q u rfl kb kx hkb hkx h
      · replace h := z_in c9 h
        refine z_iload_n X 2 dX0_distributes_35 rfl rfl (z_if_eq X 52 dX0_distributes_36 (by decide) (fun c10 => ?_) (fun c10 => ?_))
        · replace h := z_ip c10 h
          exact wj_X0_distributes_j52 (u := u) hR X x1 x2 x3 ex1 q u rfl kb kx hkb hkx h
        · replace h := z_in c10 h
          obtain ⟨r11, er11, h⟩ := z_bs h
          obtain ⟨r12, er12, h⟩ := z_bs h
          refine z_aload_n X 1 dX0_distributes_39 rfl rfl (z_iload_n X 3 dX0_distributes_40 rfl rfl (z_callVi X (r := r11) (u1 := u) [.int x3] [] (w_X6_atMost l g x1 x3 ex1 u er11) (z_po ex1) rfl gX0_distributes_X6_atMost hy_X6_atMost rfl (z_le1 hR (by decide)) (z_le2 hR (by decide) (by decide)) (Nat.le_of_ble_eq_true rfl) dX0_distributes_41 (z_iload X 4 dX0_distributes_44 rfl (z_callNi X (r := r12) (u1 := u) [.int r11, .int q] [] (w_X9_isIn l g r11 q u er12) gX0_distributes_X9_isIn_n37 nn_X0 ini_X9_isIn_X0_distributes sta_X9_isIn_X0_distributes hy_X9_isIn.2 rfl (z_le1 hR (by decide)) (z_le2 hR (by decide) (by decide)) (Nat.le_of_ble_eq_true rfl) dX0_distributes_46 (z_if_eq X 56 dX0_distributes_49 (by decide) (fun c13 => ?_) (fun c13 => ?_))))))
          · replace h := z_ip c13 h
            exact wj_X0_distributes_j56 (u := u) hR X x1 x2 x3 ex1 q u rfl kb kx hkb hkx h
          · replace h := z_in c13 h
            exact wj_X0_distributes_j52 (u := u) hR X x1 x2 x3 ex1 q u rfl kb kx hkb hkx h
set_option maxRecDepth 20000 in
set_option maxHeartbeats 4000000 in
theorem wb_X0_distributes_2 {p : Program} {l : Launch} {e : Env} {R : Room} {s : State} {m : MethodId} {args : Array Value} {below : List Frame} {meth : Method} {c : Code} {g : z_G} {u : z_M} {res : Int32} (hR : R = z_rm 4) (X : z_X p R s m args meth c cX0_distributes 6 RX0 wsX0_distributes (some .boolean) g z_shC) (x1 : Nat) (x2 : Int32) (ex1 : z_PO x1) (q : Int32) (kb : Int32 → Option (Int32)) (kx : Unit → Option (Int32)) (hkb : ∀ q, kb q = some res → z_V p l e R s m args below meth c 6 g z_shC (MQ below (z_Qc g z_shC (fun v u' => v = some (.int res) ∧ u' = u)) args s 0 0 (z_A g z_shC)) 2 [(0, .ref (z_ad g 131)), (1, .ref (z_ad g x1)), (2, .int x2), (3, .int q)] [] u) (hkx : ∀ t, kx t = some res → z_V p l e R s m args below meth c 6 g z_shC (MQ below (z_Qc g z_shC (fun v u' => v = some (.int res) ∧ u' = u)) args s 0 0 (z_A g z_shC)) 89 [] [] u) (h : b_X0_distributes_2 x1 x2 u q kb kx = some res) : z_V p l e R s m args below meth c 6 g z_shC (MQ below (z_Qc g z_shC (fun v u' => v = some (.int res) ∧ u' = u)) args s 0 0 (z_A g z_shC)) 2 [(0, .ref (z_ad g 131)), (1, .ref (z_ad g x1)), (2, .int x2), (3, .int q)] [] u := by
  unfold b_X0_distributes_2 at h
  refine z_iload_n X 3 dX0_distributes_2 rfl rfl (z_bipush X (v := 9) dX0_distributes_3 (by decide) (z_icmp_ge X 89 dX0_distributes_5 (by decide) (fun c1 => ?_) (fun c1 => ?_)))
  · replace h := z_ip c1 h
    refine z_sub [] [] rfl ?_
    exact hkx () h
  · replace h := z_in c1 h
    refine z_iconst X (v := 0) dX0_distributes_8 (by decide) (z_istore X [(4, .int 0), (0, .ref (z_ad g 131)), (1, .ref (z_ad g x1)), (2, .int x2), (3, .int q)] dX0_distributes_9 (by decide) rfl (z_sub [1, 2, 3, 4, 0] [(0, .ref (z_ad g 131)), (1, .ref (z_ad g x1)), (2, .int x2), (3, .int q), (4, .int 0)] rfl ?_))
    have hw := z_lp_w (fun q9 kb9 kx9 h1 h2 h3 => wb_X0_distributes_11 (l := l) (e := e) (below := below) (u := u) hR X x1 x2 q ex1 q9 kb9 kx9 h1 h2 h3) z_F _ _ h
    refine hw (fun t14 h => ?_)
    refine z_iinc X (v := q + 1) 3 [(3, .int (q + 1)), (0, .ref (z_ad g 131)), (1, .ref (z_ad g x1)), (2, .int x2)] dX0_distributes_83 rfl rfl (by decide) rfl (z_goto X 2 dX0_distributes_86 (by decide) (z_sub [1, 2, 3, 0] [(0, .ref (z_ad g 131)), (1, .ref (z_ad g x1)), (2, .int x2), (3, .int (q + 1))] rfl ?_))
    exact hkb (q + 1) h
set_option maxRecDepth 20000 in
set_option maxHeartbeats 4000000 in
theorem w_X0_distributes (l : Launch) (g : z_G) (a1 : Nat) (a2 : Int32) (ea1 : z_PO a1) (u : z_M) {res : Int32} (h : f_X0_distributes a1 a2 u = some res) : z_C l g z_shC yX0_distributes wsX0_distributes 4 [.ref (z_ad g 131), .ref (z_ad g a1), .int a2] u (fun v u' => v = some (.int res) ∧ u' = u) := by
  refine z_C.mk (lv := [(0, .ref (z_ad g 131)), (1, .ref (z_ad g a1)), (2, .int a2)]) (cc := cX0_distributes) (nL := 6) (rt := (some .boolean)) rfl (by decide) (Nat.le_of_ble_eq_true rfl) rfl (fun p e R s m args below meth c hR X => ?_)
  unfold f_X0_distributes at h
  refine z_iconst X (v := 0) dX0_distributes_0 (by decide) (z_istore_n X [(3, .int 0), (0, .ref (z_ad g 131)), (1, .ref (z_ad g a1)), (2, .int a2)] dX0_distributes_1 rfl (by decide) rfl (z_sub [1, 2, 3, 0] [(0, .ref (z_ad g 131)), (1, .ref (z_ad g a1)), (2, .int a2), (3, .int 0)] rfl ?_))
  have hw := z_lp_w (fun q9 kb9 kx9 h1 h2 h3 => wb_X0_distributes_2 (l := l) (e := e) (below := below) (u := u) hR X a1 a2 ea1 q9 kb9 kx9 h1 h2 h3) z_F _ _ h
  refine hw (fun t15 h => ?_)
  refine z_iconst X (v := 1) dX0_distributes_89 (by decide) ?_
  cases h; exact z_zret X rfl rfl dX0_distributes_90 ⟨rfl, rfl⟩

theorem lk_X6_tagOf_18 : (Cond.fieldLink RX6 18 RX6 (TX6 5).2.1 (TX6 5).2.2.1) ∈ wsX6_tagOf := by decide +kernel
theorem in_X6_tagOf_X6 : ∀ w ∈ u_ws RX6 TX6 6, w ∈ wsX6_tagOf := by decide +kernel
def f_X6_tagOf (ao : Nat) (a1 : Int32) (a2 : Int32) (u : z_M) : Option (Int32) :=
  z_lt ((a1 * 9) + a2) (fun v1 => if v1 < 0 then (some 0) else (if (nI 81) ≤ v1 then (some 0) else (z_gd (z_inb v1 81) (some (z_gI u (ao + 3) v1.toNatClampNeg)))))
set_option maxRecDepth 20000 in
set_option maxHeartbeats 4000000 in
theorem w_X6_tagOf (l : Launch) (g : z_G) (ao : Nat) (a1 : Int32) (a2 : Int32) (eao : z_PO ao) (u : z_M) {res : Int32} (h : f_X6_tagOf ao a1 a2 u = some res) : z_C l g z_shC yX6_tagOf wsX6_tagOf 1 [.ref (z_ad g ao), .int a1, .int a2] u (fun v u' => v = some (.int res) ∧ u' = u) := by
  refine z_C.mk (lv := [(0, .ref (z_ad g ao)), (1, .int a1), (2, .int a2)]) (cc := cX6_tagOf) (nL := 4) (rt := (some .int)) rfl (by decide) (Nat.le_of_ble_eq_true rfl) rfl (fun p e R s m args below meth c hR X => ?_)
  unfold f_X6_tagOf at h
  obtain ⟨v1, ev1, h⟩ := z_ls h
  refine z_iload_n X 1 dX6_tagOf_0 rfl rfl (z_bipush X (v := 9) dX6_tagOf_1 (by decide) (z_imul X dX6_tagOf_3 (z_iload_n X 2 dX6_tagOf_4 rfl rfl (z_iadd X dX6_tagOf_5 (z_ti ev1 (z_istore_n X [(3, .int v1), (0, .ref (z_ad g ao)), (1, .int a1), (2, .int a2)] dX6_tagOf_6 rfl (by decide) rfl (z_iload_n X 0 dX6_tagOf_7 rfl rfl (z_if_lt X 29 dX6_tagOf_8 (by decide) (fun c2 => ?_) (fun c2 => ?_)))))))))
  · replace h := z_ip c2 h
    refine z_iconst X (v := 0) dX6_tagOf_29 (by decide) ?_
    cases h; exact z_iret X rfl dX6_tagOf_30 ⟨rfl, rfl⟩
  · replace h := z_in c2 h
    refine z_iload_n X 0 dX6_tagOf_11 rfl rfl (z_aload_n X 1 dX6_tagOf_12 rfl rfl (z_getR X (k0 := 5) (z_po eao) rfl in_X6_tagOf_X6 (by decide) rfl rfl lk_X6_tagOf_18 dX6_tagOf_13 (z_alen X (z_poT eao) (by decide) dX6_tagOf_16 (z_icmp_ge X 29 dX6_tagOf_17 (by decide) (fun c3 => ?_) (fun c3 => ?_)))))
    · replace h := z_ip c3 h
      refine z_iconst X (v := 0) dX6_tagOf_29 (by decide) ?_
      cases h; exact z_iret X rfl dX6_tagOf_30 ⟨rfl, rfl⟩
    · replace h := z_in c3 h
      obtain ⟨b4, h⟩ := z_gs h
      refine z_aload_n X 1 dX6_tagOf_20 rfl rfl (z_getR X (k0 := 5) (z_po eao) rfl in_X6_tagOf_X6 (by decide) rfl rfl lk_X6_tagOf_18 dX6_tagOf_21 (z_iload_n X 0 dX6_tagOf_24 rfl rfl (z_iald X (z_poT eao) (z_inS b4) dX6_tagOf_25 (z_goto X 30 dX6_tagOf_26 (by decide) ?_))))
      cases h; exact z_iret X rfl dX6_tagOf_30 ⟨rfl, rfl⟩

theorem lk_X6_edgeLabel_28 : (Cond.fieldLink RX6 28 RX6 (TX6 2).2.1 (TX6 2).2.2.1) ∈ wsX6_edgeLabel := by decide +kernel
theorem in_X6_edgeLabel_X6 : ∀ w ∈ u_ws RX6 TX6 6, w ∈ wsX6_edgeLabel := by decide +kernel
theorem ml69_X6_edgeLabel : Cond.methodLink RX6 69 Lib.Math.max.name ∈ wsX6_edgeLabel := by decide +kernel
theorem ms_max_X6_edgeLabel : Cond.static Lib.Math.max.name ∈ wsX6_edgeLabel := by decide +kernel
theorem mi_X6_edgeLabel : Cond.initialized "java/lang/Math" ∈ wsX6_edgeLabel := by decide +kernel
theorem mc_max_X6_edgeLabel : Cond.code Lib.Math.max.name Lib.Math.max.code 2 (some .int) ∈ wsX6_edgeLabel := by decide +kernel
theorem ml74_X6_edgeLabel : Cond.methodLink RX6 74 Lib.Math.abs.name ∈ wsX6_edgeLabel := by decide +kernel
theorem ms_abs_X6_edgeLabel : Cond.static Lib.Math.abs.name ∈ wsX6_edgeLabel := by decide +kernel
theorem mc_abs_X6_edgeLabel : Cond.code Lib.Math.abs.name Lib.Math.abs.code 1 (some .int) ∈ wsX6_edgeLabel := by decide +kernel
theorem hy_X6_tagOf : yX6_tagOf.cls = RX6 ∧ yX6_tagOf.cls ≠ "java/lang/invoke/MethodHandle" ∧ yX6_tagOf.cls ≠ "java/lang/invoke/VarHandle" ∧ (parseMethodDescriptor yX6_tagOf.desc).map (fun d => d.parameters.length) = some 2 := by decide +kernel
def f_X6_edgeLabel (ao : Nat) (a1 : Int32) (a2 : Int32) (u : z_M) : Option (Int32) :=
  if (z_gI u ao 2) = 1 then (some a2) else (if (z_gI u ao 2) = 2 then (some (if a1 < a2 then a2 else a1)) else (if (z_gI u ao 2) = 3 then (some (if 0 ≤ (a1 - a2) then a1 - a2 else 0 - (a1 - a2))) else (Option.bind (f_X6_tagOf ao a1 a2 u) (fun r1 => some r1))))
set_option maxRecDepth 20000 in
set_option maxHeartbeats 4000000 in
theorem w_X6_edgeLabel (l : Launch) (g : z_G) (ao : Nat) (a1 : Int32) (a2 : Int32) (eao : z_PO ao) (u : z_M) {res : Int32} (h : f_X6_edgeLabel ao a1 a2 u = some res) : z_C l g z_shC yX6_edgeLabel wsX6_edgeLabel 2 [.ref (z_ad g ao), .int a1, .int a2] u (fun v u' => v = some (.int res) ∧ u' = u) := by
  refine z_C.mk (lv := [(0, .ref (z_ad g ao)), (1, .int a1), (2, .int a2)]) (cc := cX6_edgeLabel) (nL := 3) (rt := (some .int)) rfl (by decide) (Nat.le_of_ble_eq_true rfl) rfl (fun p e R s m args below meth c hR X => ?_)
  unfold f_X6_edgeLabel at h
  refine z_aload_n X 0 dX6_edgeLabel_0 rfl rfl (z_getI X (k0 := 2) (z_po eao) rfl in_X6_edgeLabel_X6 (by decide) rfl rfl lk_X6_edgeLabel_28 dX6_edgeLabel_1 ?_)
  by_cases c2 : (z_gI u ao 2) = 1
  · replace h := z_ip c2 h
    refine z_tabIn X 32 dX6_edgeLabel_4 (by rw [c2]; decide) (by rw [c2]; decide) (by rw [c2]; rfl) (by decide) ?_
    refine z_iload_n X 2 dX6_edgeLabel_32 rfl rfl ?_
    cases h; exact z_iret X rfl dX6_edgeLabel_33 ⟨rfl, rfl⟩
  replace h := z_in c2 h
  by_cases c3 : (z_gI u ao 2) = 2
  · replace h := z_ip c3 h
    refine z_tabIn X 34 dX6_edgeLabel_4 (by rw [c3]; decide) (by rw [c3]; decide) (by rw [c3]; rfl) (by decide) ?_
    refine z_iload_n X 1 dX6_edgeLabel_34 rfl rfl (z_iload_n X 2 dX6_edgeLabel_35 rfl rfl (z_mmax X ml69_X6_edgeLabel ms_max_X6_edgeLabel mi_X6_edgeLabel mc_max_X6_edgeLabel (z_le3 hR (by decide)) (z_le4 hR (by decide) (Nat.le_of_ble_eq_true rfl) (by decide)) dX6_edgeLabel_36 ?_))
    cases h; exact z_iret X rfl dX6_edgeLabel_39 ⟨rfl, rfl⟩
  replace h := z_in c3 h
  by_cases c4 : (z_gI u ao 2) = 3
  · replace h := z_ip c4 h
    refine z_tabIn X 40 dX6_edgeLabel_4 (by rw [c4]; decide) (by rw [c4]; decide) (by rw [c4]; rfl) (by decide) ?_
    refine z_iload_n X 1 dX6_edgeLabel_40 rfl rfl (z_iload_n X 2 dX6_edgeLabel_41 rfl rfl (z_isub X dX6_edgeLabel_42 (z_mabs X ml74_X6_edgeLabel ms_abs_X6_edgeLabel mi_X6_edgeLabel mc_abs_X6_edgeLabel (z_le3 hR (by decide)) (z_le4 hR (by decide) (Nat.le_of_ble_eq_true rfl) (by decide)) dX6_edgeLabel_43 ?_)))
    cases h; exact z_iret X rfl dX6_edgeLabel_46 ⟨rfl, rfl⟩
  replace h := z_in c4 h
  refine z_tabOut X 47 dX6_edgeLabel_4 (by have kc2 := lv_neT (a := 1) c2 (by decide); have kc3 := lv_neT (a := 2) c3 (by decide); have kc4 := lv_neT (a := 3) c4 (by decide); omega) (by decide) ?_
  obtain ⟨r1, er1, h⟩ := z_bs h
  refine z_aload_n X 0 dX6_edgeLabel_47 rfl rfl (z_iload_n X 1 dX6_edgeLabel_48 rfl rfl (z_iload_n X 2 dX6_edgeLabel_49 rfl rfl (z_callVi X (r := r1) (u1 := u) [.int a1, .int a2] [] (w_X6_tagOf l g ao a1 a2 eao u er1) (z_po eao) rfl gX6_edgeLabel_X6_tagOf hy_X6_tagOf rfl (z_le1 hR (by decide)) (z_le2 hR (by decide) (by decide)) (Nat.le_of_ble_eq_true rfl) dX6_edgeLabel_50 ?_)))
  cases h; exact z_iret X rfl dX6_edgeLabel_53 ⟨rfl, rfl⟩

theorem ml18_X1_take : Cond.methodLink RX1 18 Lib.Math.min.name ∈ wsX1_take := by decide +kernel
theorem ms_min_X1_take : Cond.static Lib.Math.min.name ∈ wsX1_take := by decide +kernel
theorem mi_X1_take : Cond.initialized "java/lang/Math" ∈ wsX1_take := by decide +kernel
theorem mc_min_X1_take : Cond.code Lib.Math.min.name Lib.Math.min.code 2 (some .int) ∈ wsX1_take := by decide +kernel
theorem lk_X1_take_24 : (Cond.fieldLink RX1 24 RX1 (TX1 0).2.1 (TX1 0).2.2.1) ∈ wsX1_take := by decide +kernel
theorem in_X1_take_X1 : ∀ w ∈ u_ws RX1 TX1 4, w ∈ wsX1_take := fun _ h => List.mem_cons_of_mem _ (List.mem_append_left _ (List.mem_append_right _ h))
theorem lk_X1_take_28 : (Cond.fieldLink RX1 28 RX1 (TX1 1).2.1 (TX1 1).2.2.1) ∈ wsX1_take := by decide +kernel
theorem lk_X1_take_9 : (Cond.fieldLink RX1 9 RX1 (TX1 2).2.1 (TX1 2).2.2.1) ∈ wsX1_take := by decide +kernel
theorem lk_X1_take_15 : (Cond.fieldLink RX1 15 RX1 (TX1 3).2.1 (TX1 3).2.2.1) ∈ wsX1_take := by decide +kernel
theorem hy_X6_edgeLabel : yX6_edgeLabel.cls = RX6 ∧ yX6_edgeLabel.cls ≠ "java/lang/invoke/MethodHandle" ∧ yX6_edgeLabel.cls ≠ "java/lang/invoke/VarHandle" ∧ (parseMethodDescriptor yX6_edgeLabel.desc).map (fun d => d.parameters.length) = some 2 := by decide +kernel
def b_X1_take_18 (x0 : Nat) (x1 : Nat) (x2 nx2 : Nat) : (Int32 × z_M) → ((Int32 × z_M) → Option (z_M)) → (z_M → Option (z_M)) → Option (z_M) := fun q kb kx =>
  if (z_gI q.2 x0 0) < q.1 then (kx q.2) else (z_gd (z_inb q.1 nx2) (z_gd (z_inb q.1 9) (z_lt (z_sI q.2 (x0 + 1) q.1.toNatClampNeg (z_gI q.2 x2 q.1.toNatClampNeg)) (fun u6 => z_gd (z_inb q.1 nx2) (z_lt (z_sI u6 x0 1 ((z_gI u6 x0 1) ||| (1 <<< ((z_gI u6 x2 q.1.toNatClampNeg) &&& 31)))) (fun u8 => if q.1 ≤ 0 then (kb (q.1 + 1, u8)) else (z_gd (z_inb (q.1 - 1) nx2) (z_gd (z_inb q.1 nx2) (Option.bind (f_X6_edgeLabel x1 (z_gI u8 x2 (q.1 - 1).toNatClampNeg) (z_gI u8 x2 q.1.toNatClampNeg) u8) (fun r12 => z_gd (z_inb (q.1 - 1) 8) (z_lt (z_sI u8 (x0 + 2) (q.1 - 1).toNatClampNeg r12) (fun u14 => kb (q.1 + 1, u14)))))))))))))
def f_X1_take (ao : Nat) (a1 : Nat) (a2 na2 : Nat) (a3 : Int32) (u : z_M) : Option (z_M) :=
  z_lt (z_sI u ao 0 (if 8 < a3 then 8 else a3)) (fun u1 => z_lt (z_sI u1 ao 1 0) (fun u2 => z_lp (b_X1_take_18 ao a1 a2 na2) z_F (0, u2) (fun t15 => some t15)))
set_option maxRecDepth 20000 in
set_option maxHeartbeats 4000000 in
theorem wb_X1_take_18 {p : Program} {l : Launch} {e : Env} {R : Room} {s : State} {m : MethodId} {args : Array Value} {below : List Frame} {meth : Method} {c : Code} {g : z_G} {u : z_M} {res : z_M} (hR : R = z_rm 3) (X : z_X p R s m args meth c cX1_take 5 RX1 wsX1_take none g z_shC) (x0 : Nat) (x1 : Nat) (x2 nx2 : Nat) (ex0 : z_CH x0) (ex1 : z_PO x1) (ex2 : z_shC[x2]? = some (.inl (0, nx2, none))) (q : Int32 × z_M) (kb : (Int32 × z_M) → Option (z_M)) (kx : z_M → Option (z_M)) (hkb : ∀ q, kb q = some res → z_V p l e R s m args below meth c 5 g z_shC (MQ below (z_Qc g z_shC (fun v u' => v = none ∧ u' = res)) args s 0 0 (z_A g z_shC)) 18 [(0, .ref (z_ad g x0)), (1, .ref (z_ad g x1)), (2, .ref (z_ad g x2)), (4, .int q.1)] [] q.2) (hkx : ∀ t, kx t = some res → z_V p l e R s m args below meth c 5 g z_shC (MQ below (z_Qc g z_shC (fun v u' => v = none ∧ u' = res)) args s 0 0 (z_A g z_shC)) 87 [] [] t) (h : b_X1_take_18 x0 x1 x2 nx2 q kb kx = some res) : z_V p l e R s m args below meth c 5 g z_shC (MQ below (z_Qc g z_shC (fun v u' => v = none ∧ u' = res)) args s 0 0 (z_A g z_shC)) 18 [(0, .ref (z_ad g x0)), (1, .ref (z_ad g x1)), (2, .ref (z_ad g x2)), (4, .int q.1)] [] q.2 := by
  unfold b_X1_take_18 at h
  refine z_iload X 3 dX1_take_18 rfl (z_aload_n X 0 dX1_take_20 rfl rfl (z_getI X (k0 := 0) (z_ch ex0) rfl in_X1_take_X1 (by decide) rfl rfl lk_X1_take_24 dX1_take_21 (z_icmp_gt X 87 dX1_take_24 (by decide) (fun c3 => ?_) (fun c3 => ?_))))
  · replace h := z_ip c3 h
    refine z_sub [] [] rfl ?_
    exact hkx q.2 h
  · replace h := z_in c3 h
    obtain ⟨b4, h⟩ := z_gs h
    obtain ⟨b5, h⟩ := z_gs h
    obtain ⟨u6, eu6, h⟩ := z_ls h
    obtain ⟨b7, h⟩ := z_gs h
    obtain ⟨u8, eu8, h⟩ := z_ls h
    refine z_aload_n X 0 dX1_take_27 rfl rfl (z_getR X (k0 := 2) (z_ch ex0) rfl in_X1_take_X1 (by decide) rfl rfl lk_X1_take_9 dX1_take_28 (z_iload X 3 dX1_take_31 rfl (z_aload_n X 2 dX1_take_33 rfl rfl (z_iload X 3 dX1_take_34 rfl (z_iald X ex2 (z_inS b4) dX1_take_36 (z_iast X (z_chP ex0) (z_inS b5) dX1_take_37 (z_nm eu6 (z_aload_n X 0 dX1_take_38 rfl rfl (z_dup X dX1_take_39 rfl (z_getI X (k0 := 1) (z_ch ex0) rfl in_X1_take_X1 (by decide) rfl rfl lk_X1_take_28 dX1_take_40 (z_iconst X (v := 1) dX1_take_43 (by decide) (z_aload_n X 2 dX1_take_44 rfl rfl (z_iload X 3 dX1_take_45 rfl (z_iald X ex2 (z_inS b7) dX1_take_47 (z_ishl X dX1_take_48 (z_ior X dX1_take_49 (z_putI X (k0 := 1) (ty0 := tyX1) (z_ch ex0) rfl in_X1_take_X1 tyX1_ok nmX1 (by decide) rfl rfl rfl rfl rfl lk_X1_take_28 dX1_take_50 (z_nm eu8 (z_iload X 3 dX1_take_53 rfl (z_if_le X 81 dX1_take_55 (by decide) (fun c9 => ?_) (fun c9 => ?_)))))))))))))))))))))
    · replace h := z_ip c9 h
      refine z_iinc X (v := q.1 + 1) 3 [(4, .int (q.1 + 1)), (0, .ref (z_ad g x0)), (1, .ref (z_ad g x1)), (2, .ref (z_ad g x2))] dX1_take_81 rfl rfl (by decide) rfl (z_goto X 18 dX1_take_84 (by decide) (z_sub [1, 2, 3, 0] [(0, .ref (z_ad g x0)), (1, .ref (z_ad g x1)), (2, .ref (z_ad g x2)), (4, .int (q.1 + 1))] rfl ?_))
      exact hkb (q.1 + 1, u8) h
    · replace h := z_in c9 h
      obtain ⟨b10, h⟩ := z_gs h
      obtain ⟨b11, h⟩ := z_gs h
      obtain ⟨r12, er12, h⟩ := z_bs h
      obtain ⟨b13, h⟩ := z_gs h
      obtain ⟨u14, eu14, h⟩ := z_ls h
      refine z_aload_n X 0 dX1_take_58 rfl rfl (z_getR X (k0 := 3) (z_ch ex0) rfl in_X1_take_X1 (by decide) rfl rfl lk_X1_take_15 dX1_take_59 (z_iload X 3 dX1_take_62 rfl (z_iconst X (v := 1) dX1_take_64 (by decide) (z_isub X dX1_take_65 (z_aload_n X 1 dX1_take_66 rfl rfl (z_aload_n X 2 dX1_take_67 rfl rfl (z_iload X 3 dX1_take_68 rfl (z_iconst X (v := 1) dX1_take_70 (by decide) (z_isub X dX1_take_71 (z_iald X ex2 (z_inS b10) dX1_take_72 (z_aload_n X 2 dX1_take_73 rfl rfl (z_iload X 3 dX1_take_74 rfl (z_iald X ex2 (z_inS b11) dX1_take_76 (z_callVi X (r := r12) (u1 := u8) [.int (z_gI u8 x2 (q.1 - 1).toNatClampNeg), .int (z_gI u8 x2 q.1.toNatClampNeg)] [.int (q.1 - 1), .ref (z_ad g (x0 + 2))] (w_X6_edgeLabel l g x1 (z_gI u8 x2 (q.1 - 1).toNatClampNeg) (z_gI u8 x2 q.1.toNatClampNeg) ex1 u8 er12) (z_po ex1) rfl gX1_take_X6_edgeLabel hy_X6_edgeLabel rfl (z_le1 hR (by decide)) (z_le2 hR (by decide) (by decide)) (Nat.le_of_ble_eq_true rfl) dX1_take_77 (z_iast X (z_chL ex0) (z_inS b13) dX1_take_80 (z_nm eu14 (z_iinc X (v := q.1 + 1) 3 [(4, .int (q.1 + 1)), (0, .ref (z_ad g x0)), (1, .ref (z_ad g x1)), (2, .ref (z_ad g x2))] dX1_take_81 rfl rfl (by decide) rfl (z_goto X 18 dX1_take_84 (by decide) (z_sub [1, 2, 3, 0] [(0, .ref (z_ad g x0)), (1, .ref (z_ad g x1)), (2, .ref (z_ad g x2)), (4, .int (q.1 + 1))] rfl ?_)))))))))))))))))))
      exact hkb (q.1 + 1, u14) h
set_option maxRecDepth 20000 in
set_option maxHeartbeats 4000000 in
theorem w_X1_take (l : Launch) (g : z_G) (ao : Nat) (a1 : Nat) (a2 na2 : Nat) (a3 : Int32) (eao : z_CH ao) (ea1 : z_PO a1) (ea2 : z_shC[a2]? = some (.inl (0, na2, none))) (u : z_M) {res : z_M} (h : f_X1_take ao a1 a2 na2 a3 u = some res) : z_C l g z_shC yX1_take wsX1_take 3 [.ref (z_ad g ao), .ref (z_ad g a1), .ref (z_ad g a2), .int a3] u (fun v u' => v = none ∧ u' = res) := by
  refine z_C.mk (lv := [(0, .ref (z_ad g ao)), (1, .ref (z_ad g a1)), (2, .ref (z_ad g a2)), (3, .int a3)]) (cc := cX1_take) (nL := 5) (rt := none) rfl (by decide) (Nat.le_of_ble_eq_true rfl) rfl (fun p e R s m args below meth c hR X => ?_)
  unfold f_X1_take at h
  obtain ⟨u1, eu1, h⟩ := z_ls h
  obtain ⟨u2, eu2, h⟩ := z_ls h
  refine z_aload_n X 0 dX1_take_0 rfl rfl (z_iload_n X 3 dX1_take_1 rfl rfl (z_bipush X (v := 8) dX1_take_2 (by decide) (z_mmin X ml18_X1_take ms_min_X1_take mi_X1_take mc_min_X1_take (z_le3 hR (by decide)) (z_le4 hR (by decide) (Nat.le_of_ble_eq_true rfl) (by decide)) dX1_take_4 (z_putI X (k0 := 0) (ty0 := tyX1) (z_ch eao) rfl in_X1_take_X1 tyX1_ok nmX1 (by decide) rfl rfl rfl rfl rfl lk_X1_take_24 dX1_take_7 (z_nm eu1 (z_aload_n X 0 dX1_take_10 rfl rfl (z_iconst X (v := 0) dX1_take_11 (by decide) (z_putI X (k0 := 1) (ty0 := tyX1) (z_ch eao) rfl in_X1_take_X1 tyX1_ok nmX1 (by decide) rfl rfl rfl rfl rfl lk_X1_take_28 dX1_take_12 (z_nm eu2 (z_iconst X (v := 0) dX1_take_15 (by decide) (z_istore X [(4, .int 0), (0, .ref (z_ad g ao)), (1, .ref (z_ad g a1)), (2, .ref (z_ad g a2)), (3, .int a3)] dX1_take_16 (by decide) rfl (z_sub [1, 2, 3, 0] [(0, .ref (z_ad g ao)), (1, .ref (z_ad g a1)), (2, .ref (z_ad g a2)), (4, .int 0)] rfl ?_))))))))))))
  have hw := z_lp_w (fun q9 kb9 kx9 h1 h2 h3 => wb_X1_take_18 (l := l) (e := e) (below := below) (u := u2) hR X ao a1 a2 na2 eao ea1 ea2 q9 kb9 kx9 h1 h2 h3) z_F _ _ h
  refine hw (fun t15 h => ?_)
  cases h; exact z_vret X rfl dX1_take_87 ⟨rfl, rfl⟩

theorem lk_X1_isAheadOf_24 : (Cond.fieldLink RX1 24 RX1 (TX1 0).2.1 (TX1 0).2.2.1) ∈ wsX1_isAheadOf := by decide +kernel
theorem in_X1_isAheadOf_X1 : ∀ w ∈ u_ws RX1 TX1 4, w ∈ wsX1_isAheadOf := by decide +kernel
theorem lk_X1_isAheadOf_15 : (Cond.fieldLink RX1 15 RX1 (TX1 3).2.1 (TX1 3).2.2.1) ∈ wsX1_isAheadOf := by decide +kernel
def b_X1_isAheadOf_2 (x0 : Nat) (x1 : Nat) (u : z_M) : Int32 → (Int32 → Option (Int32)) → (Unit → Option (Int32)) → Option (Int32) := fun q kb kx =>
  if (z_gI u x0 0) ≤ q then (kx ()) else (if (z_gI u x1 0) ≤ q then (kx ()) else (z_gd (z_inb q 8) (z_gd (z_inb q 8) (if (z_gI u (x0 + 2) q.toNatClampNeg) = (z_gI u (x1 + 2) q.toNatClampNeg) then (kb (q + 1)) else (z_gd (z_inb q 8) (z_gd (z_inb q 8) (if (z_gI u (x1 + 2) q.toNatClampNeg) ≤ (z_gI u (x0 + 2) q.toNatClampNeg) then (some 0) else (some 1))))))))
def f_X1_isAheadOf (ao : Nat) (a1 : Nat) (u : z_M) : Option (Int32) :=
  z_lp (b_X1_isAheadOf_2 ao a1 u) z_F 0 (fun t9 => if (z_gI u a1 0) ≤ (z_gI u ao 0) then (some 0) else (some 1))
set_option maxRecDepth 20000 in
set_option maxHeartbeats 4000000 in
theorem wb_X1_isAheadOf_2 {p : Program} {l : Launch} {e : Env} {R : Room} {s : State} {m : MethodId} {args : Array Value} {below : List Frame} {meth : Method} {c : Code} {g : z_G} {u : z_M} {res : Int32} (hR : R = z_rm 1) (X : z_X p R s m args meth c cX1_isAheadOf 3 RX1 wsX1_isAheadOf (some .boolean) g z_shC) (x0 : Nat) (x1 : Nat) (ex0 : z_CH x0) (ex1 : z_CH x1) (q : Int32) (kb : Int32 → Option (Int32)) (kx : Unit → Option (Int32)) (hkb : ∀ q, kb q = some res → z_V p l e R s m args below meth c 3 g z_shC (MQ below (z_Qc g z_shC (fun v u' => v = some (.int res) ∧ u' = u)) args s 0 0 (z_A g z_shC)) 2 [(0, .ref (z_ad g x0)), (1, .ref (z_ad g x1)), (2, .int q)] [] u) (hkx : ∀ t, kx t = some res → z_V p l e R s m args below meth c 3 g z_shC (MQ below (z_Qc g z_shC (fun v u' => v = some (.int res) ∧ u' = u)) args s 0 0 (z_A g z_shC)) 60 [(0, .ref (z_ad g x0)), (1, .ref (z_ad g x1))] [] u) (h : b_X1_isAheadOf_2 x0 x1 u q kb kx = some res) : z_V p l e R s m args below meth c 3 g z_shC (MQ below (z_Qc g z_shC (fun v u' => v = some (.int res) ∧ u' = u)) args s 0 0 (z_A g z_shC)) 2 [(0, .ref (z_ad g x0)), (1, .ref (z_ad g x1)), (2, .int q)] [] u := by
  unfold b_X1_isAheadOf_2 at h
  refine z_iload_n X 2 dX1_isAheadOf_2 rfl rfl (z_aload_n X 0 dX1_isAheadOf_3 rfl rfl (z_getI X (k0 := 0) (z_ch ex0) rfl in_X1_isAheadOf_X1 (by decide) rfl rfl lk_X1_isAheadOf_24 dX1_isAheadOf_4 (z_icmp_ge X 60 dX1_isAheadOf_7 (by decide) (fun c1 => ?_) (fun c1 => ?_))))
  · replace h := z_ip c1 h
    refine z_sub [0, 1] [(0, .ref (z_ad g x0)), (1, .ref (z_ad g x1))] rfl ?_
    exact hkx () h
  · replace h := z_in c1 h
    refine z_iload_n X 2 dX1_isAheadOf_10 rfl rfl (z_aload_n X 1 dX1_isAheadOf_11 rfl rfl (z_getI X (k0 := 0) (z_ch ex1) rfl in_X1_isAheadOf_X1 (by decide) rfl rfl lk_X1_isAheadOf_24 dX1_isAheadOf_12 (z_icmp_ge X 60 dX1_isAheadOf_15 (by decide) (fun c2 => ?_) (fun c2 => ?_))))
    · replace h := z_ip c2 h
      refine z_sub [0, 1] [(0, .ref (z_ad g x0)), (1, .ref (z_ad g x1))] rfl ?_
      exact hkx () h
    · replace h := z_in c2 h
      obtain ⟨b3, h⟩ := z_gs h
      obtain ⟨b4, h⟩ := z_gs h
      refine z_aload_n X 0 dX1_isAheadOf_18 rfl rfl (z_getR X (k0 := 3) (z_ch ex0) rfl in_X1_isAheadOf_X1 (by decide) rfl rfl lk_X1_isAheadOf_15 dX1_isAheadOf_19 (z_iload_n X 2 dX1_isAheadOf_22 rfl rfl (z_iald X (z_chL ex0) (z_inS b3) dX1_isAheadOf_23 (z_aload_n X 1 dX1_isAheadOf_24 rfl rfl (z_getR X (k0 := 3) (z_ch ex1) rfl in_X1_isAheadOf_X1 (by decide) rfl rfl lk_X1_isAheadOf_15 dX1_isAheadOf_25 (z_iload_n X 2 dX1_isAheadOf_28 rfl rfl (z_iald X (z_chL ex1) (z_inS b4) dX1_isAheadOf_29 (z_icmp_eq X 54 dX1_isAheadOf_30 (by decide) (fun c5 => ?_) (fun c5 => ?_)))))))))
      · replace h := z_ip c5 h
        refine z_iinc X (v := q + 1) 2 [(2, .int (q + 1)), (0, .ref (z_ad g x0)), (1, .ref (z_ad g x1))] dX1_isAheadOf_54 rfl rfl (by decide) rfl (z_goto X 2 dX1_isAheadOf_57 (by decide) (z_sub [1, 2, 0] [(0, .ref (z_ad g x0)), (1, .ref (z_ad g x1)), (2, .int (q + 1))] rfl ?_))
        exact hkb (q + 1) h
      · replace h := z_in c5 h
        obtain ⟨b6, h⟩ := z_gs h
        obtain ⟨b7, h⟩ := z_gs h
        refine z_aload_n X 0 dX1_isAheadOf_33 rfl rfl (z_getR X (k0 := 3) (z_ch ex0) rfl in_X1_isAheadOf_X1 (by decide) rfl rfl lk_X1_isAheadOf_15 dX1_isAheadOf_34 (z_iload_n X 2 dX1_isAheadOf_37 rfl rfl (z_iald X (z_chL ex0) (z_inS b6) dX1_isAheadOf_38 (z_aload_n X 1 dX1_isAheadOf_39 rfl rfl (z_getR X (k0 := 3) (z_ch ex1) rfl in_X1_isAheadOf_X1 (by decide) rfl rfl lk_X1_isAheadOf_15 dX1_isAheadOf_40 (z_iload_n X 2 dX1_isAheadOf_43 rfl rfl (z_iald X (z_chL ex1) (z_inS b7) dX1_isAheadOf_44 (z_icmp_ge X 52 dX1_isAheadOf_45 (by decide) (fun c8 => ?_) (fun c8 => ?_)))))))))
        · replace h := z_ip c8 h
          refine z_iconst X (v := 0) dX1_isAheadOf_52 (by decide) ?_
          cases h; exact z_zret X rfl rfl dX1_isAheadOf_53 ⟨rfl, rfl⟩
        · replace h := z_in c8 h
          refine z_iconst X (v := 1) dX1_isAheadOf_48 (by decide) (z_goto X 53 dX1_isAheadOf_49 (by decide) ?_)
          cases h; exact z_zret X rfl rfl dX1_isAheadOf_53 ⟨rfl, rfl⟩
set_option maxRecDepth 20000 in
set_option maxHeartbeats 4000000 in
theorem w_X1_isAheadOf (l : Launch) (g : z_G) (ao : Nat) (a1 : Nat) (eao : z_CH ao) (ea1 : z_CH a1) (u : z_M) {res : Int32} (h : f_X1_isAheadOf ao a1 u = some res) : z_C l g z_shC yX1_isAheadOf wsX1_isAheadOf 1 [.ref (z_ad g ao), .ref (z_ad g a1)] u (fun v u' => v = some (.int res) ∧ u' = u) := by
  refine z_C.mk (lv := [(0, .ref (z_ad g ao)), (1, .ref (z_ad g a1))]) (cc := cX1_isAheadOf) (nL := 3) (rt := (some .boolean)) rfl (by decide) (Nat.le_of_ble_eq_true rfl) rfl (fun p e R s m args below meth c hR X => ?_)
  unfold f_X1_isAheadOf at h
  refine z_iconst X (v := 0) dX1_isAheadOf_0 (by decide) (z_istore_n X [(2, .int 0), (0, .ref (z_ad g ao)), (1, .ref (z_ad g a1))] dX1_isAheadOf_1 rfl (by decide) rfl (z_sub [1, 2, 0] [(0, .ref (z_ad g ao)), (1, .ref (z_ad g a1)), (2, .int 0)] rfl ?_))
  have hw := z_lp_w (fun q9 kb9 kx9 h1 h2 h3 => wb_X1_isAheadOf_2 (l := l) (e := e) (below := below) (u := u) hR X ao a1 eao ea1 q9 kb9 kx9 h1 h2 h3) z_F _ _ h
  refine hw (fun t9 h => ?_)
  refine z_aload_n X 0 dX1_isAheadOf_60 rfl rfl (z_getI X (k0 := 0) (z_ch eao) rfl in_X1_isAheadOf_X1 (by decide) rfl rfl lk_X1_isAheadOf_24 dX1_isAheadOf_61 (z_aload_n X 1 dX1_isAheadOf_64 rfl rfl (z_getI X (k0 := 0) (z_ch ea1) rfl in_X1_isAheadOf_X1 (by decide) rfl rfl lk_X1_isAheadOf_24 dX1_isAheadOf_65 (z_icmp_ge X 75 dX1_isAheadOf_68 (by decide) (fun c10 => ?_) (fun c10 => ?_)))))
  · replace h := z_ip c10 h
    refine z_iconst X (v := 0) dX1_isAheadOf_75 (by decide) ?_
    cases h; exact z_zret X rfl rfl dX1_isAheadOf_76 ⟨rfl, rfl⟩
  · replace h := z_in c10 h
    refine z_iconst X (v := 1) dX1_isAheadOf_71 (by decide) (z_goto X 76 dX1_isAheadOf_72 (by decide) ?_)
    cases h; exact z_zret X rfl rfl dX1_isAheadOf_76 ⟨rfl, rfl⟩

theorem lk_X1_fallSet_24 : (Cond.fieldLink RX1 24 RX1 (TX1 0).2.1 (TX1 0).2.2.1) ∈ wsX1_fallSet := by decide +kernel
theorem in_X1_fallSet_X1 : ∀ w ∈ u_ws RX1 TX1 4, w ∈ wsX1_fallSet := by decide +kernel
theorem lk_X1_fallSet_15 : (Cond.fieldLink RX1 15 RX1 (TX1 3).2.1 (TX1 3).2.2.1) ∈ wsX1_fallSet := by decide +kernel
def b_X1_fallSet_4 (x0 : Nat) (u : z_M) : (Int32 × Int32) → ((Int32 × Int32) → Option (Int32)) → (Int32 → Option (Int32)) → Option (Int32) := fun q kb kx =>
  if (z_gI u x0 0) ≤ q.2 then (kx q.1) else (z_gd (z_inb q.2 8) (z_gd (z_inb (q.2 - 1) 8) (if (z_gI u (x0 + 2) (q.2 - 1).toNatClampNeg) ≤ (z_gI u (x0 + 2) q.2.toNatClampNeg) then (kb (q.1, q.2 + 1)) else (z_lt (q.1 ||| (1 <<< (q.2 &&& 31))) (fun v5 => kb (v5, q.2 + 1))))))
def f_X1_fallSet (ao : Nat) (u : z_M) : Option (Int32) :=
  z_lp (b_X1_fallSet_4 ao u) z_F (0, 1) (fun t6 => some t6)
set_option maxRecDepth 20000 in
set_option maxHeartbeats 4000000 in
theorem wb_X1_fallSet_4 {p : Program} {l : Launch} {e : Env} {R : Room} {s : State} {m : MethodId} {args : Array Value} {below : List Frame} {meth : Method} {c : Code} {g : z_G} {u : z_M} {res : Int32} (hR : R = z_rm 1) (X : z_X p R s m args meth c cX1_fallSet 3 RX1 wsX1_fallSet (some .int) g z_shC) (x0 : Nat) (ex0 : z_CH x0) (q : Int32 × Int32) (kb : (Int32 × Int32) → Option (Int32)) (kx : Int32 → Option (Int32)) (hkb : ∀ q, kb q = some res → z_V p l e R s m args below meth c 3 g z_shC (MQ below (z_Qc g z_shC (fun v u' => v = some (.int res) ∧ u' = u)) args s 0 0 (z_A g z_shC)) 4 [(0, .ref (z_ad g x0)), (1, .int q.1), (2, .int q.2)] [] u) (hkx : ∀ t, kx t = some res → z_V p l e R s m args below meth c 3 g z_shC (MQ below (z_Qc g z_shC (fun v u' => v = some (.int res) ∧ u' = u)) args s 0 0 (z_A g z_shC)) 41 [(1, .int t)] [] u) (h : b_X1_fallSet_4 x0 u q kb kx = some res) : z_V p l e R s m args below meth c 3 g z_shC (MQ below (z_Qc g z_shC (fun v u' => v = some (.int res) ∧ u' = u)) args s 0 0 (z_A g z_shC)) 4 [(0, .ref (z_ad g x0)), (1, .int q.1), (2, .int q.2)] [] u := by
  unfold b_X1_fallSet_4 at h
  refine z_iload_n X 2 dX1_fallSet_4 rfl rfl (z_aload_n X 0 dX1_fallSet_5 rfl rfl (z_getI X (k0 := 0) (z_ch ex0) rfl in_X1_fallSet_X1 (by decide) rfl rfl lk_X1_fallSet_24 dX1_fallSet_6 (z_icmp_ge X 41 dX1_fallSet_9 (by decide) (fun c1 => ?_) (fun c1 => ?_))))
  · replace h := z_ip c1 h
    refine z_sub [1] [(1, .int q.1)] rfl ?_
    exact hkx q.1 h
  · replace h := z_in c1 h
    obtain ⟨b2, h⟩ := z_gs h
    obtain ⟨b3, h⟩ := z_gs h
    refine z_aload_n X 0 dX1_fallSet_12 rfl rfl (z_getR X (k0 := 3) (z_ch ex0) rfl in_X1_fallSet_X1 (by decide) rfl rfl lk_X1_fallSet_15 dX1_fallSet_13 (z_iload_n X 2 dX1_fallSet_16 rfl rfl (z_iald X (z_chL ex0) (z_inS b2) dX1_fallSet_17 (z_aload_n X 0 dX1_fallSet_18 rfl rfl (z_getR X (k0 := 3) (z_ch ex0) rfl in_X1_fallSet_X1 (by decide) rfl rfl lk_X1_fallSet_15 dX1_fallSet_19 (z_iload_n X 2 dX1_fallSet_22 rfl rfl (z_iconst X (v := 1) dX1_fallSet_23 (by decide) (z_isub X dX1_fallSet_24 (z_iald X (z_chL ex0) (z_inS b3) dX1_fallSet_25 (z_icmp_ge X 35 dX1_fallSet_26 (by decide) (fun c4 => ?_) (fun c4 => ?_)))))))))))
    · replace h := z_ip c4 h
      refine z_iinc X (v := q.2 + 1) 2 [(2, .int (q.2 + 1)), (0, .ref (z_ad g x0)), (1, .int q.1)] dX1_fallSet_35 rfl rfl (by decide) rfl (z_goto X 4 dX1_fallSet_38 (by decide) (z_sub [1, 2, 0] [(0, .ref (z_ad g x0)), (1, .int q.1), (2, .int (q.2 + 1))] rfl ?_))
      exact hkb (q.1, q.2 + 1) h
    · replace h := z_in c4 h
      obtain ⟨v5, ev5, h⟩ := z_ls h
      refine z_iload_n X 1 dX1_fallSet_29 rfl rfl (z_iconst X (v := 1) dX1_fallSet_30 (by decide) (z_iload_n X 2 dX1_fallSet_31 rfl rfl (z_ishl X dX1_fallSet_32 (z_ior X dX1_fallSet_33 (z_ti ev5 (z_istore_n X [(1, .int v5), (0, .ref (z_ad g x0)), (2, .int q.2)] dX1_fallSet_34 rfl (by decide) rfl (z_iinc X (v := q.2 + 1) 2 [(2, .int (q.2 + 1)), (1, .int v5), (0, .ref (z_ad g x0))] dX1_fallSet_35 rfl rfl (by decide) rfl (z_goto X 4 dX1_fallSet_38 (by decide) (z_sub [2, 1, 0] [(0, .ref (z_ad g x0)), (1, .int v5), (2, .int (q.2 + 1))] rfl ?_)))))))))
      exact hkb (v5, q.2 + 1) h
set_option maxRecDepth 20000 in
set_option maxHeartbeats 4000000 in
theorem w_X1_fallSet (l : Launch) (g : z_G) (ao : Nat) (eao : z_CH ao) (u : z_M) {res : Int32} (h : f_X1_fallSet ao u = some res) : z_C l g z_shC yX1_fallSet wsX1_fallSet 1 [.ref (z_ad g ao)] u (fun v u' => v = some (.int res) ∧ u' = u) := by
  refine z_C.mk (lv := [(0, .ref (z_ad g ao))]) (cc := cX1_fallSet) (nL := 3) (rt := (some .int)) rfl (by decide) (Nat.le_of_ble_eq_true rfl) rfl (fun p e R s m args below meth c hR X => ?_)
  unfold f_X1_fallSet at h
  refine z_iconst X (v := 0) dX1_fallSet_0 (by decide) (z_istore_n X [(1, .int 0), (0, .ref (z_ad g ao))] dX1_fallSet_1 rfl (by decide) rfl (z_iconst X (v := 1) dX1_fallSet_2 (by decide) (z_istore_n X [(2, .int 1), (1, .int 0), (0, .ref (z_ad g ao))] dX1_fallSet_3 rfl (by decide) rfl (z_sub [2, 1, 0] [(0, .ref (z_ad g ao)), (1, .int 0), (2, .int 1)] rfl ?_))))
  have hw := z_lp_w (fun q9 kb9 kx9 h1 h2 h3 => wb_X1_fallSet_4 (l := l) (e := e) (below := below) (u := u) hR X ao eao q9 kb9 kx9 h1 h2 h3) z_F _ _ h
  refine hw (fun t6 h => ?_)
  refine z_iload_n X 0 dX1_fallSet_41 rfl rfl ?_
  cases h; exact z_iret X rfl dX1_fallSet_42 ⟨rfl, rfl⟩

theorem hy_X1_fallSet : yX1_fallSet.cls = RX1 ∧ yX1_fallSet.cls ≠ "java/lang/invoke/MethodHandle" ∧ yX1_fallSet.cls ≠ "java/lang/invoke/VarHandle" ∧ (parseMethodDescriptor yX1_fallSet.desc).map (fun d => d.parameters.length) = some 0 := by decide +kernel
def f_X1_isRising (ao : Nat) (u : z_M) : Option (Int32) :=
  Option.bind (f_X1_fallSet ao u) (fun r1 => if r1 = 0 then (some 1) else (some 0))
set_option maxRecDepth 20000 in
set_option maxHeartbeats 4000000 in
theorem w_X1_isRising (l : Launch) (g : z_G) (ao : Nat) (eao : z_CH ao) (u : z_M) {res : Int32} (h : f_X1_isRising ao u = some res) : z_C l g z_shC yX1_isRising wsX1_isRising 2 [.ref (z_ad g ao)] u (fun v u' => v = some (.int res) ∧ u' = u) := by
  refine z_C.mk (lv := [(0, .ref (z_ad g ao))]) (cc := cX1_isRising) (nL := 1) (rt := (some .boolean)) rfl (by decide) (Nat.le_of_ble_eq_true rfl) rfl (fun p e R s m args below meth c hR X => ?_)
  unfold f_X1_isRising at h
  obtain ⟨r1, er1, h⟩ := z_bs h
  refine z_aload_n X 0 dX1_isRising_0 rfl rfl (z_callVi X (r := r1) (u1 := u) [] [] (w_X1_fallSet l g ao eao u er1) (z_ch eao) rfl gX1_isRising_X1_fallSet hy_X1_fallSet rfl (z_le1 hR (by decide)) (z_le2 hR (by decide) (by decide)) (Nat.le_of_ble_eq_true rfl) dX1_isRising_1 (z_if_ne X 11 dX1_isRising_4 (by decide) (fun c2 => ?_) (fun c2 => ?_)))
  · replace h := z_in c2 h
    refine z_iconst X (v := 0) dX1_isRising_11 (by decide) ?_
    cases h; exact z_zret X rfl rfl dX1_isRising_12 ⟨rfl, rfl⟩
  · replace h := z_ip c2 h
    refine z_iconst X (v := 1) dX1_isRising_7 (by decide) (z_goto X 12 dX1_isRising_8 (by decide) ?_)
    cases h; exact z_zret X rfl rfl dX1_isRising_12 ⟨rfl, rfl⟩

theorem lk_X1_isDescending_24 : (Cond.fieldLink RX1 24 RX1 (TX1 0).2.1 (TX1 0).2.2.1) ∈ wsX1_isDescending := by decide +kernel
theorem in_X1_isDescending_X1 : ∀ w ∈ u_ws RX1 TX1 4, w ∈ wsX1_isDescending := by decide +kernel
theorem hy_J6_bitCount_0f7a4 : yJ6_bitCount_0f7a4.cls = RJ6 ∧ yJ6_bitCount_0f7a4.cls ≠ "java/lang/invoke/MethodHandle" ∧ yJ6_bitCount_0f7a4.cls ≠ "java/lang/invoke/VarHandle" ∧ (parseMethodDescriptor yJ6_bitCount_0f7a4.desc).map (fun d => d.parameters.length) = some 1 := by decide +kernel
def f_X1_isDescending (ao : Nat) (u : z_M) : Option (Int32) :=
  if (z_gI u ao 0) < 2 then (some 1) else (Option.bind (f_X1_fallSet ao u) (fun r2 => if (z_bitc r2) = ((z_gI u ao 0) - 1) then (some 1) else (some 0)))
set_option maxRecDepth 20000 in
set_option maxHeartbeats 4000000 in
theorem w_X1_isDescending (l : Launch) (g : z_G) (ao : Nat) (eao : z_CH ao) (u : z_M) {res : Int32} (h : f_X1_isDescending ao u = some res) : z_C l g z_shC yX1_isDescending wsX1_isDescending 2 [.ref (z_ad g ao)] u (fun v u' => v = some (.int res) ∧ u' = u) := by
  refine z_C.mk (lv := [(0, .ref (z_ad g ao))]) (cc := cX1_isDescending) (nL := 1) (rt := (some .boolean)) rfl (by decide) (Nat.le_of_ble_eq_true rfl) rfl (fun p e R s m args below meth c hR X => ?_)
  unfold f_X1_isDescending at h
  refine z_aload_n X 0 dX1_isDescending_0 rfl rfl (z_getI X (k0 := 0) (z_ch eao) rfl in_X1_isDescending_X1 (by decide) rfl rfl lk_X1_isDescending_24 dX1_isDescending_1 (z_iconst X (v := 2) dX1_isDescending_4 (by decide) (z_icmp_lt X 24 dX1_isDescending_5 (by decide) (fun c1 => ?_) (fun c1 => ?_))))
  · replace h := z_ip c1 h
    refine z_iconst X (v := 1) dX1_isDescending_24 (by decide) (z_goto X 29 dX1_isDescending_25 (by decide) ?_)
    cases h; exact z_zret X rfl rfl dX1_isDescending_29 ⟨rfl, rfl⟩
  · replace h := z_in c1 h
    obtain ⟨r2, er2, h⟩ := z_bs h
    refine z_aload_n X 0 dX1_isDescending_8 rfl rfl (z_callVi X (r := r2) (u1 := u) [] [] (w_X1_fallSet l g ao eao u er2) (z_ch eao) rfl gX1_isDescending_X1_fallSet hy_X1_fallSet rfl (z_le1 hR (by decide)) (z_le2 hR (by decide) (by decide)) (Nat.le_of_ble_eq_true rfl) dX1_isDescending_9 (z_callSi X (r := z_bitc r2) (u1 := u) [.int r2] [] (w_bitc l g z_shC r2 u) gX1_isDescending_J6_bitCount_0f7a4 hy_J6_bitCount_0f7a4.2 rfl (z_le1 hR (by decide)) (z_le2 hR (by decide) (by decide)) (Nat.le_of_ble_eq_true rfl) dX1_isDescending_12 (z_aload_n X 0 dX1_isDescending_15 rfl rfl (z_getI X (k0 := 0) (z_ch eao) rfl in_X1_isDescending_X1 (by decide) rfl rfl lk_X1_isDescending_24 dX1_isDescending_16 (z_iconst X (v := 1) dX1_isDescending_19 (by decide) (z_isub X dX1_isDescending_20 (z_icmp_ne X 28 dX1_isDescending_21 (by decide) (fun c3 => ?_) (fun c3 => ?_))))))))
    · replace h := z_in c3 h
      refine z_iconst X (v := 0) dX1_isDescending_28 (by decide) ?_
      cases h; exact z_zret X rfl rfl dX1_isDescending_29 ⟨rfl, rfl⟩
    · replace h := z_ip c3 h
      refine z_iconst X (v := 1) dX1_isDescending_24 (by decide) (z_goto X 29 dX1_isDescending_25 (by decide) ?_)
      cases h; exact z_zret X rfl rfl dX1_isDescending_29 ⟨rfl, rfl⟩

theorem lk_X2_hasChain_22 : (Cond.fieldLink RX2 22 RX2 (TX2 0).2.1 (TX2 0).2.2.1) ∈ wsX2_hasChain := by decide +kernel
theorem in_X2_hasChain_X2 : ∀ w ∈ u_ws RX2 TX2 3, w ∈ wsX2_hasChain := fun _ h => List.mem_cons_of_mem _ (List.mem_append_right _ h)
def f_X2_hasChain (a1 : Int32) (u : z_M) : Option (Int32) :=
  if a1 < 0 then (some 0) else (if (z_gI u 86 0) ≤ a1 then (some 0) else (some 1))
set_option maxRecDepth 20000 in
set_option maxHeartbeats 4000000 in
theorem w_X2_hasChain (l : Launch) (g : z_G) (a1 : Int32) (u : z_M) {res : Int32} (h : f_X2_hasChain a1 u = some res) : z_C l g z_shC yX2_hasChain wsX2_hasChain 1 [.ref (z_ad g 86), .int a1] u (fun v u' => v = some (.int res) ∧ u' = u) := by
  refine z_C.mk (lv := [(0, .ref (z_ad g 86)), (1, .int a1)]) (cc := cX2_hasChain) (nL := 2) (rt := (some .boolean)) rfl (by decide) (Nat.le_of_ble_eq_true rfl) rfl (fun p e R s m args below meth c hR X => ?_)
  unfold f_X2_hasChain at h
  refine z_iload_n X 1 dX2_hasChain_0 rfl rfl (z_if_lt X 16 dX2_hasChain_1 (by decide) (fun c1 => ?_) (fun c1 => ?_))
  · replace h := z_ip c1 h
    refine z_iconst X (v := 0) dX2_hasChain_16 (by decide) ?_
    cases h; exact z_zret X rfl rfl dX2_hasChain_17 ⟨rfl, rfl⟩
  · replace h := z_in c1 h
    refine z_iload_n X 1 dX2_hasChain_4 rfl rfl (z_aload_n X 0 dX2_hasChain_5 rfl rfl (z_getI X (k0 := 0) z_c86 rfl in_X2_hasChain_X2 (by decide) rfl rfl lk_X2_hasChain_22 dX2_hasChain_6 (z_icmp_ge X 16 dX2_hasChain_9 (by decide) (fun c2 => ?_) (fun c2 => ?_))))
    · replace h := z_ip c2 h
      refine z_iconst X (v := 0) dX2_hasChain_16 (by decide) ?_
      cases h; exact z_zret X rfl rfl dX2_hasChain_17 ⟨rfl, rfl⟩
    · replace h := z_in c2 h
      refine z_iconst X (v := 1) dX2_hasChain_12 (by decide) (z_goto X 17 dX2_hasChain_13 (by decide) ?_)
      cases h; exact z_zret X rfl rfl dX2_hasChain_17 ⟨rfl, rfl⟩
