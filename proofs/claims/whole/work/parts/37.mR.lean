def b_X10_isFace_2 (x1 : Int32) (u : z_M) : Int32 → (Int32 → Option (Int32)) → (Unit → Option (Int32)) → Option (Int32) := fun q kb kx =>
  if 9 ≤ q then (kx ()) else (Option.bind (f_X10_has x1 q) (fun r2 => if r2 = 0 then (kb (q + 1)) else (Option.bind (f_X10_upTo q u) (fun r4 => Option.bind (f_X10_below q u) (fun r5 => if (x1 &&& ((r4 ||| r5) ^^^ (-1))) = 0 then (kb (q + 1)) else (some 0))))))
def f_X10_isFace (a1 : Int32) (u : z_M) : Option (Int32) :=
  z_lp (b_X10_isFace_2 a1 u) z_F 0 (fun t7 => some 1)
set_option maxRecDepth 20000 in
set_option maxHeartbeats 4000000 in
theorem wb_X10_isFace_2 {p : Program} {l : Launch} {e : Env} {R : Room} {s : State} {m : MethodId} {args : Array Value} {below : List Frame} {meth : Method} {c : Code} {g : z_G} {u : z_M} {res : Int32} (hR : R = z_rm 4) (X : z_X p R s m args meth c cX10_isFace 3 RX10 wsX10_isFace (some .boolean) g z_shR) (x1 : Int32) (q : Int32) (kb : Int32 → Option (Int32)) (kx : Unit → Option (Int32)) (hkb : ∀ q, kb q = some res → z_V p l e R s m args below meth c 3 g z_shR (MQ below (z_Qc g z_shR (fun v u' => v = some (.int res) ∧ u' = u)) args s 0 0 (z_A g z_shR)) 2 [(0, .ref (z_ad g 0)), (1, .int x1), (2, .int q)] [] u) (hkx : ∀ t, kx t = some res → z_V p l e R s m args below meth c 3 g z_shR (MQ below (z_Qc g z_shR (fun v u' => v = some (.int res) ∧ u' = u)) args s 0 0 (z_A g z_shR)) 42 [] [] u) (h : b_X10_isFace_2 x1 u q kb kx = some res) : z_V p l e R s m args below meth c 3 g z_shR (MQ below (z_Qc g z_shR (fun v u' => v = some (.int res) ∧ u' = u)) args s 0 0 (z_A g z_shR)) 2 [(0, .ref (z_ad g 0)), (1, .int x1), (2, .int q)] [] u := by
  unfold b_X10_isFace_2 at h
  refine z_iload_n X 2 dX10_isFace_2 rfl rfl (z_bipush X (v := 9) dX10_isFace_3 (by decide) (z_icmp_ge X 42 dX10_isFace_5 (by decide) (fun c1 => ?_) (fun c1 => ?_)))
  · replace h := z_ip c1 h
    refine z_sub [] [] rfl ?_
    exact hkx () h
  · replace h := z_in c1 h
    obtain ⟨r2, er2, h⟩ := z_bs h
    refine z_iload_n X 1 dX10_isFace_8 rfl rfl (z_iload_n X 2 dX10_isFace_9 rfl rfl (z_callSi X (r := r2) (u1 := u) [.int x1, .int q] [] (w_X10_has l g x1 q u er2) gX10_isFace_X10_has hy_X10_has.2 rfl (z_le1 hR (by decide)) (z_le2 hR (by decide) (by decide)) (Nat.le_of_ble_eq_true rfl) dX10_isFace_10 (z_if_eq X 36 dX10_isFace_13 (by decide) (fun c3 => ?_) (fun c3 => ?_))))
    · replace h := z_ip c3 h
      refine z_iinc X (v := q + 1) 2 [(2, .int (q + 1)), (0, .ref (z_ad g 0)), (1, .int x1)] dX10_isFace_36 rfl rfl (by decide) rfl (z_goto X 2 dX10_isFace_39 (by decide) (z_sub [1, 2, 0] [(0, .ref (z_ad g 0)), (1, .int x1), (2, .int (q + 1))] rfl ?_))
      exact hkb (q + 1) h
    · replace h := z_in c3 h
      obtain ⟨r4, er4, h⟩ := z_bs h
      obtain ⟨r5, er5, h⟩ := z_bs h
      refine z_iload_n X 1 dX10_isFace_16 rfl rfl (z_aload_n X 0 dX10_isFace_17 rfl rfl (z_iload_n X 2 dX10_isFace_18 rfl rfl (z_callVi X (r := r4) (u1 := u) [.int q] [.int x1] (w_X10_upTo l g q u er4) z_r0 rfl gX10_isFace_X10_upTo hy_X10_upTo rfl (z_le1 hR (by decide)) (z_le2 hR (by decide) (by decide)) (Nat.le_of_ble_eq_true rfl) dX10_isFace_19 (z_aload_n X 0 dX10_isFace_22 rfl rfl (z_iload_n X 2 dX10_isFace_23 rfl rfl (z_callVi X (r := r5) (u1 := u) [.int q] [.int r4, .int x1] (w_X10_below l g q u er5) z_r0 rfl gX10_isFace_X10_below hy_X10_below rfl (z_le1 hR (by decide)) (z_le2 hR (by decide) (by decide)) (Nat.le_of_ble_eq_true rfl) dX10_isFace_24 (z_ior X dX10_isFace_27 (z_iconst X (v := (-1)) dX10_isFace_28 (by decide) (z_ixor X dX10_isFace_29 (z_iand X dX10_isFace_30 (z_if_eq X 36 dX10_isFace_31 (by decide) (fun c6 => ?_) (fun c6 => ?_))))))))))))
      · replace h := z_ip c6 h
        refine z_iinc X (v := q + 1) 2 [(2, .int (q + 1)), (0, .ref (z_ad g 0)), (1, .int x1)] dX10_isFace_36 rfl rfl (by decide) rfl (z_goto X 2 dX10_isFace_39 (by decide) (z_sub [1, 2, 0] [(0, .ref (z_ad g 0)), (1, .int x1), (2, .int (q + 1))] rfl ?_))
        exact hkb (q + 1) h
      · replace h := z_in c6 h
        refine z_iconst X (v := 0) dX10_isFace_34 (by decide) ?_
        cases h; exact z_zret X rfl rfl dX10_isFace_35 ⟨rfl, rfl⟩
set_option maxRecDepth 20000 in
set_option maxHeartbeats 4000000 in
theorem w_X10_isFace (l : Launch) (g : z_G) (a1 : Int32) (u : z_M) {res : Int32} (h : f_X10_isFace a1 u = some res) : z_C l g z_shR yX10_isFace wsX10_isFace 4 [.ref (z_ad g 0), .int a1] u (fun v u' => v = some (.int res) ∧ u' = u) := by
  refine z_C.mk (lv := [(0, .ref (z_ad g 0)), (1, .int a1)]) (cc := cX10_isFace) (nL := 3) (rt := (some .boolean)) rfl (by decide) (Nat.le_of_ble_eq_true rfl) rfl (fun p e R s m args below meth c hR X => ?_)
  unfold f_X10_isFace at h
  refine z_iconst X (v := 0) dX10_isFace_0 (by decide) (z_istore_n X [(2, .int 0), (0, .ref (z_ad g 0)), (1, .int a1)] dX10_isFace_1 rfl (by decide) rfl (z_sub [1, 2, 0] [(0, .ref (z_ad g 0)), (1, .int a1), (2, .int 0)] rfl ?_))
  have hw := z_lp_w (fun q9 kb9 kx9 h1 h2 h3 => wb_X10_isFace_2 (l := l) (e := e) (below := below) (u := u) hR X a1 q9 kb9 kx9 h1 h2 h3) z_F _ _ h
  refine hw (fun t7 h => ?_)
  refine z_iconst X (v := 1) dX10_isFace_42 (by decide) ?_
  cases h; exact z_zret X rfl rfl dX10_isFace_43 ⟨rfl, rfl⟩

theorem hy_X10_isFace : yX10_isFace.cls = RX10 ∧ yX10_isFace.cls ≠ "java/lang/invoke/MethodHandle" ∧ yX10_isFace.cls ≠ "java/lang/invoke/VarHandle" ∧ (parseMethodDescriptor yX10_isFace.desc).map (fun d => d.parameters.length) = some 1 := by decide +kernel
def b_X10_layFaces_6 (x1 nx1 : Nat) (x2 : Int32) (x3 : Int32) : (Int32 × Int32 × z_M) → ((Int32 × Int32 × z_M) → Option (Int32 × z_M)) → ((Int32 × z_M) → Option (Int32 × z_M)) → Option (Int32 × z_M) := fun q kb kx =>
  if 512 ≤ q.2.1 then (kx (q.1, q.2.2)) else (if (q.2.1 &&& (x2 ^^^ (-1))) = 0 then (Option.bind (f_X10_bits q.2.1) (fun r3 => if r3 = x3 then (Option.bind (f_X10_isFace q.2.1 q.2.2) (fun r5 => if r5 = 0 then (kb (q.1, q.2.1 + 1, q.2.2)) else (z_gd (z_inb q.1 nx1) (z_lt (z_sI q.2.2 x1 q.1.toNatClampNeg q.2.1) (fun u8 => kb (q.1 + 1, q.2.1 + 1, u8)))))) else (kb (q.1, q.2.1 + 1, q.2.2)))) else (kb (q.1, q.2.1 + 1, q.2.2)))
def f_X10_layFaces (a1 na1 : Nat) (a2 : Int32) (a3 : Int32) (u : z_M) : Option (Int32 × z_M) :=
  z_lp (b_X10_layFaces_6 a1 na1 a2 a3) z_F (0, 0, u) (fun t9 => some (t9.1, t9.2))
set_option maxRecDepth 20000 in
set_option maxHeartbeats 4000000 in
theorem wb_X10_layFaces_6 {p : Program} {l : Launch} {e : Env} {R : Room} {s : State} {m : MethodId} {args : Array Value} {below : List Frame} {meth : Method} {c : Code} {g : z_G} {u : z_M} {res : Int32 × z_M} (hR : R = z_rm 5) (X : z_X p R s m args meth c cX10_layFaces 6 RX10 wsX10_layFaces (some .int) g z_shR) (x1 nx1 : Nat) (x2 : Int32) (x3 : Int32) (ex1 : z_shR[x1]? = some (.inl (0, nx1, none))) (q : Int32 × Int32 × z_M) (kb : (Int32 × Int32 × z_M) → Option (Int32 × z_M)) (kx : (Int32 × z_M) → Option (Int32 × z_M)) (hkb : ∀ q, kb q = some res → z_V p l e R s m args below meth c 6 g z_shR (MQ below (z_Qc g z_shR (fun v u' => v = some (.int res.1) ∧ u' = res.2)) args s 0 0 (z_A g z_shR)) 6 [(0, .ref (z_ad g 0)), (1, .ref (z_ad g x1)), (2, .int x2), (3, .int x3), (4, .int q.1), (5, .int q.2.1)] [] q.2.2) (hkx : ∀ t, kx t = some res → z_V p l e R s m args below meth c 6 g z_shR (MQ below (z_Qc g z_shR (fun v u' => v = some (.int res.1) ∧ u' = res.2)) args s 0 0 (z_A g z_shR)) 56 [(4, .int t.1)] [] t.2) (h : b_X10_layFaces_6 x1 nx1 x2 x3 q kb kx = some res) : z_V p l e R s m args below meth c 6 g z_shR (MQ below (z_Qc g z_shR (fun v u' => v = some (.int res.1) ∧ u' = res.2)) args s 0 0 (z_A g z_shR)) 6 [(0, .ref (z_ad g 0)), (1, .ref (z_ad g x1)), (2, .int x2), (3, .int x3), (4, .int q.1), (5, .int q.2.1)] [] q.2.2 := by
  unfold b_X10_layFaces_6 at h
  refine z_iload X 5 dX10_layFaces_6 rfl (z_sipush X (v := 512) dX10_layFaces_8 (by decide) (z_icmp_ge X 56 dX10_layFaces_11 (by decide) (fun c1 => ?_) (fun c1 => ?_)))
  · replace h := z_ip c1 h
    refine z_sub [4] [(4, .int q.1)] rfl ?_
    exact hkx (q.1, q.2.2) h
  · replace h := z_in c1 h
    refine z_iload X 5 dX10_layFaces_14 rfl (z_iload_n X 2 dX10_layFaces_16 rfl rfl (z_iconst X (v := (-1)) dX10_layFaces_17 (by decide) (z_ixor X dX10_layFaces_18 (z_iand X dX10_layFaces_19 (z_if_ne X 50 dX10_layFaces_20 (by decide) (fun c2 => ?_) (fun c2 => ?_))))))
    · replace h := z_in c2 h
      refine z_iinc X (v := q.2.1 + 1) 5 [(5, .int (q.2.1 + 1)), (0, .ref (z_ad g 0)), (1, .ref (z_ad g x1)), (2, .int x2), (3, .int x3), (4, .int q.1)] dX10_layFaces_50 rfl rfl (by decide) rfl (z_goto X 6 dX10_layFaces_53 (by decide) (z_sub [1, 2, 3, 4, 5, 0] [(0, .ref (z_ad g 0)), (1, .ref (z_ad g x1)), (2, .int x2), (3, .int x3), (4, .int q.1), (5, .int (q.2.1 + 1))] rfl ?_))
      exact hkb (q.1, q.2.1 + 1, q.2.2) h
    · replace h := z_ip c2 h
      obtain ⟨r3, er3, h⟩ := z_bs h
      refine z_iload X 5 dX10_layFaces_23 rfl (z_callSi X (r := r3) (u1 := q.2.2) [.int q.2.1] [] (w_X10_bits l g q.2.1 q.2.2 er3) gX10_layFaces_X10_bits hy_X10_bits.2 rfl (z_le1 hR (by decide)) (z_le2 hR (by decide) (by decide)) (Nat.le_of_ble_eq_true rfl) dX10_layFaces_25 (z_iload_n X 3 dX10_layFaces_28 rfl rfl (z_icmp_ne X 50 dX10_layFaces_29 (by decide) (fun c4 => ?_) (fun c4 => ?_))))
      · replace h := z_in c4 h
        refine z_iinc X (v := q.2.1 + 1) 5 [(5, .int (q.2.1 + 1)), (0, .ref (z_ad g 0)), (1, .ref (z_ad g x1)), (2, .int x2), (3, .int x3), (4, .int q.1)] dX10_layFaces_50 rfl rfl (by decide) rfl (z_goto X 6 dX10_layFaces_53 (by decide) (z_sub [1, 2, 3, 4, 5, 0] [(0, .ref (z_ad g 0)), (1, .ref (z_ad g x1)), (2, .int x2), (3, .int x3), (4, .int q.1), (5, .int (q.2.1 + 1))] rfl ?_))
        exact hkb (q.1, q.2.1 + 1, q.2.2) h
      · replace h := z_ip c4 h
        obtain ⟨r5, er5, h⟩ := z_bs h
        refine z_aload_n X 0 dX10_layFaces_32 rfl rfl (z_iload X 5 dX10_layFaces_33 rfl (z_callVi X (r := r5) (u1 := q.2.2) [.int q.2.1] [] (w_X10_isFace l g q.2.1 q.2.2 er5) z_r0 rfl gX10_layFaces_X10_isFace hy_X10_isFace rfl (z_le1 hR (by decide)) (z_le2 hR (by decide) (by decide)) (Nat.le_of_ble_eq_true rfl) dX10_layFaces_35 (z_if_eq X 50 dX10_layFaces_38 (by decide) (fun c6 => ?_) (fun c6 => ?_))))
        · replace h := z_ip c6 h
          refine z_iinc X (v := q.2.1 + 1) 5 [(5, .int (q.2.1 + 1)), (0, .ref (z_ad g 0)), (1, .ref (z_ad g x1)), (2, .int x2), (3, .int x3), (4, .int q.1)] dX10_layFaces_50 rfl rfl (by decide) rfl (z_goto X 6 dX10_layFaces_53 (by decide) (z_sub [1, 2, 3, 4, 5, 0] [(0, .ref (z_ad g 0)), (1, .ref (z_ad g x1)), (2, .int x2), (3, .int x3), (4, .int q.1), (5, .int (q.2.1 + 1))] rfl ?_))
          exact hkb (q.1, q.2.1 + 1, q.2.2) h
        · replace h := z_in c6 h
          obtain ⟨b7, h⟩ := z_gs h
          obtain ⟨u8, eu8, h⟩ := z_ls h
          refine z_aload_n X 1 dX10_layFaces_41 rfl rfl (z_iload X 4 dX10_layFaces_42 rfl (z_iload X 5 dX10_layFaces_44 rfl (z_iast X ex1 (z_inS b7) dX10_layFaces_46 (z_nm eu8 (z_iinc X (v := q.1 + 1) 4 [(4, .int (q.1 + 1)), (0, .ref (z_ad g 0)), (1, .ref (z_ad g x1)), (2, .int x2), (3, .int x3), (5, .int q.2.1)] dX10_layFaces_47 rfl rfl (by decide) rfl (z_iinc X (v := q.2.1 + 1) 5 [(5, .int (q.2.1 + 1)), (4, .int (q.1 + 1)), (0, .ref (z_ad g 0)), (1, .ref (z_ad g x1)), (2, .int x2), (3, .int x3)] dX10_layFaces_50 rfl rfl (by decide) rfl (z_goto X 6 dX10_layFaces_53 (by decide) (z_sub [2, 3, 4, 5, 1, 0] [(0, .ref (z_ad g 0)), (1, .ref (z_ad g x1)), (2, .int x2), (3, .int x3), (4, .int (q.1 + 1)), (5, .int (q.2.1 + 1))] rfl ?_))))))))
          exact hkb (q.1 + 1, q.2.1 + 1, u8) h
set_option maxRecDepth 20000 in
set_option maxHeartbeats 4000000 in
theorem w_X10_layFaces (l : Launch) (g : z_G) (a1 na1 : Nat) (a2 : Int32) (a3 : Int32) (ea1 : z_shR[a1]? = some (.inl (0, na1, none))) (u : z_M) {res : Int32 × z_M} (h : f_X10_layFaces a1 na1 a2 a3 u = some res) : z_C l g z_shR yX10_layFaces wsX10_layFaces 5 [.ref (z_ad g 0), .ref (z_ad g a1), .int a2, .int a3] u (fun v u' => v = some (.int res.1) ∧ u' = res.2) := by
  refine z_C.mk (lv := [(0, .ref (z_ad g 0)), (1, .ref (z_ad g a1)), (2, .int a2), (3, .int a3)]) (cc := cX10_layFaces) (nL := 6) (rt := (some .int)) rfl (by decide) (Nat.le_of_ble_eq_true rfl) rfl (fun p e R s m args below meth c hR X => ?_)
  unfold f_X10_layFaces at h
  refine z_iconst X (v := 0) dX10_layFaces_0 (by decide) (z_istore X [(4, .int 0), (0, .ref (z_ad g 0)), (1, .ref (z_ad g a1)), (2, .int a2), (3, .int a3)] dX10_layFaces_1 (by decide) rfl (z_iconst X (v := 0) dX10_layFaces_3 (by decide) (z_istore X [(5, .int 0), (4, .int 0), (0, .ref (z_ad g 0)), (1, .ref (z_ad g a1)), (2, .int a2), (3, .int a3)] dX10_layFaces_4 (by decide) rfl (z_sub [2, 3, 4, 5, 1, 0] [(0, .ref (z_ad g 0)), (1, .ref (z_ad g a1)), (2, .int a2), (3, .int a3), (4, .int 0), (5, .int 0)] rfl ?_))))
  have hw := z_lp_w (fun q9 kb9 kx9 h1 h2 h3 => wb_X10_layFaces_6 (l := l) (e := e) (below := below) (u := u) hR X a1 na1 a2 a3 ea1 q9 kb9 kx9 h1 h2 h3) z_F _ _ h
  refine hw (fun t9 h => ?_)
  refine z_iload X 0 dX10_layFaces_56 rfl ?_
  cases h; exact z_iret X rfl dX10_layFaces_58 ⟨rfl, rfl⟩

def f_X10_inner (a1 : Int32) (a2 : Int32) (u : z_M) : Option (Int32) :=
  Option.bind (f_X10_between a1 a2 u) (fun r1 => some (r1 &&& (((1 <<< (a1 &&& 31)) ||| (1 <<< (a2 &&& 31))) ^^^ (-1))))
set_option maxRecDepth 20000 in
set_option maxHeartbeats 4000000 in
theorem w_X10_inner (l : Launch) (g : z_G) (a1 : Int32) (a2 : Int32) (u : z_M) {res : Int32} (h : f_X10_inner a1 a2 u = some res) : z_C l g z_shR yX10_inner wsX10_inner 6 [.ref (z_ad g 0), .int a1, .int a2] u (fun v u' => v = some (.int res) ∧ u' = u) := by
  refine z_C.mk (lv := [(0, .ref (z_ad g 0)), (1, .int a1), (2, .int a2)]) (cc := cX10_inner) (nL := 3) (rt := (some .int)) rfl (by decide) (Nat.le_of_ble_eq_true rfl) rfl (fun p e R s m args below meth c hR X => ?_)
  unfold f_X10_inner at h
  obtain ⟨r1, er1, h⟩ := z_bs h
  refine z_aload_n X 0 dX10_inner_0 rfl rfl (z_iload_n X 1 dX10_inner_1 rfl rfl (z_iload_n X 2 dX10_inner_2 rfl rfl (z_callVi X (r := r1) (u1 := u) [.int a1, .int a2] [] (w_X10_between l g a1 a2 u er1) z_r0 rfl gX10_inner_X10_between hy_X10_between rfl (z_le1 hR (by decide)) (z_le2 hR (by decide) (by decide)) (Nat.le_of_ble_eq_true rfl) dX10_inner_3 (z_iconst X (v := 1) dX10_inner_6 (by decide) (z_iload_n X 1 dX10_inner_7 rfl rfl (z_ishl X dX10_inner_8 (z_iconst X (v := 1) dX10_inner_9 (by decide) (z_iload_n X 2 dX10_inner_10 rfl rfl (z_ishl X dX10_inner_11 (z_ior X dX10_inner_12 (z_iconst X (v := (-1)) dX10_inner_13 (by decide) (z_ixor X dX10_inner_14 (z_iand X dX10_inner_15 ?_)))))))))))))
  cases h; exact z_iret X rfl dX10_inner_16 ⟨rfl, rfl⟩

def f_X10_noInner (a1 : Int32) (a2 : Int32) (a3 : Int32) (u : z_M) : Option (Int32) :=
  if a3 = 0 then (some (-1)) else (Option.bind (f_X10_refusal a1 a2 u) (fun r2 => if r2 = 0 then (if a1 = a2 then (some (-2)) else (some r2)) else (some r2)))
set_option maxRecDepth 20000 in
set_option maxHeartbeats 4000000 in
theorem w_X10_noInner (l : Launch) (g : z_G) (a1 : Int32) (a2 : Int32) (a3 : Int32) (u : z_M) {res : Int32} (h : f_X10_noInner a1 a2 a3 u = some res) : z_C l g z_shR yX10_noInner wsX10_noInner 5 [.ref (z_ad g 0), .int a1, .int a2, .int a3] u (fun v u' => v = some (.int res) ∧ u' = u) := by
  refine z_C.mk (lv := [(0, .ref (z_ad g 0)), (1, .int a1), (2, .int a2), (3, .int a3)]) (cc := cX10_noInner) (nL := 5) (rt := (some .int)) rfl (by decide) (Nat.le_of_ble_eq_true rfl) rfl (fun p e R s m args below meth c hR X => ?_)
  unfold f_X10_noInner at h
  refine z_iload_n X 3 dX10_noInner_0 rfl rfl (z_if_eq X 13 dX10_noInner_1 (by decide) (fun c1 => ?_) (fun c1 => ?_))
  · replace h := z_ip c1 h
    refine z_iconst X (v := (-1)) dX10_noInner_13 (by decide) (z_istore X [(4, .int (-1)), (0, .ref (z_ad g 0)), (1, .int a1), (2, .int a2), (3, .int a3)] dX10_noInner_14 (by decide) rfl (z_iload X 0 dX10_noInner_16 rfl (z_if_neT X 31 dX10_noInner_18 (by decide) (by decide) (z_iload X 0 dX10_noInner_31 rfl ?_))))
    cases h; exact z_iret X rfl dX10_noInner_33 ⟨rfl, rfl⟩
  · replace h := z_in c1 h
    obtain ⟨r2, er2, h⟩ := z_bs h
    refine z_aload_n X 0 dX10_noInner_4 rfl rfl (z_iload_n X 1 dX10_noInner_5 rfl rfl (z_iload_n X 2 dX10_noInner_6 rfl rfl (z_callVi X (r := r2) (u1 := u) [.int a1, .int a2] [] (w_X10_refusal l g a1 a2 u er2) z_r0 rfl gX10_noInner_X10_refusal hy_X10_refusal rfl (z_le1 hR (by decide)) (z_le2 hR (by decide) (by decide)) (Nat.le_of_ble_eq_true rfl) dX10_noInner_7 (z_goto X 14 dX10_noInner_10 (by decide) (z_istore X [(4, .int r2), (0, .ref (z_ad g 0)), (1, .int a1), (2, .int a2), (3, .int a3)] dX10_noInner_14 (by decide) rfl (z_iload X 0 dX10_noInner_16 rfl (z_if_ne X 31 dX10_noInner_18 (by decide) (fun c3 => ?_) (fun c3 => ?_))))))))
    · replace h := z_in c3 h
      refine z_iload X 0 dX10_noInner_31 rfl ?_
      cases h; exact z_iret X rfl dX10_noInner_33 ⟨rfl, rfl⟩
    · replace h := z_ip c3 h
      refine z_iload_n X 2 dX10_noInner_21 rfl rfl (z_iload_n X 3 dX10_noInner_22 rfl rfl (z_icmp_ne X 31 dX10_noInner_23 (by decide) (fun c4 => ?_) (fun c4 => ?_)))
      · replace h := z_in c4 h
        refine z_iload X 0 dX10_noInner_31 rfl ?_
        cases h; exact z_iret X rfl dX10_noInner_33 ⟨rfl, rfl⟩
      · replace h := z_ip c4 h
        refine z_bipush X (v := (-2)) dX10_noInner_26 (by decide) (z_goto X 33 dX10_noInner_28 (by decide) ?_)
        cases h; exact z_iret X rfl dX10_noInner_33 ⟨rfl, rfl⟩

def f_X10_sizeOf (a1 : Int32) : Option (Int32) :=
  if 9 ≤ a1 then (some 9) else (some (a1 + 1))
set_option maxRecDepth 20000 in
set_option maxHeartbeats 4000000 in
theorem w_X10_sizeOf (l : Launch) (g : z_G) (a1 : Int32) (u : z_M) {res : Int32} (h : f_X10_sizeOf a1 = some res) : z_C l g z_shR yX10_sizeOf wsX10_sizeOf 1 [.int a1] u (fun v u' => v = some (.int res) ∧ u' = u) := by
  refine z_C.mk (lv := [(0, .int a1)]) (cc := cX10_sizeOf) (nL := 1) (rt := (some .int)) rfl (by decide) (Nat.le_of_ble_eq_true rfl) rfl (fun p e R s m args below meth c hR X => ?_)
  unfold f_X10_sizeOf at h
  refine z_iload_n X 0 dX10_sizeOf_0 rfl rfl (z_bipush X (v := 9) dX10_sizeOf_1 (by decide) (z_icmp_ge X 12 dX10_sizeOf_3 (by decide) (fun c1 => ?_) (fun c1 => ?_)))
  · replace h := z_ip c1 h
    refine z_bipush X (v := 9) dX10_sizeOf_12 (by decide) ?_
    cases h; exact z_iret X rfl dX10_sizeOf_14 ⟨rfl, rfl⟩
  · replace h := z_in c1 h
    refine z_iload_n X 0 dX10_sizeOf_6 rfl rfl (z_iconst X (v := 1) dX10_sizeOf_7 (by decide) (z_iadd X dX10_sizeOf_8 (z_goto X 14 dX10_sizeOf_9 (by decide) ?_)))
    cases h; exact z_iret X rfl dX10_sizeOf_14 ⟨rfl, rfl⟩

theorem lk_X10_faces_82 : (Cond.fieldLink RX10 82 RX10 (TX10 0).2.1 (TX10 0).2.2.1) ∈ wsX10_faces := by decide +kernel
theorem in_X10_faces_X10 : ∀ w ∈ u_ws RX10 TX10 30, w ∈ wsX10_faces := fun _ h => List.mem_cons_of_mem _ (List.mem_append_right _ h)
theorem lk_X10_faces_67 : (Cond.fieldLink RX10 67 RX10 (TX10 25).2.1 (TX10 25).2.2.1) ∈ wsX10_faces := by decide +kernel
theorem hy_X10_inner : yX10_inner.cls = RX10 ∧ yX10_inner.cls ≠ "java/lang/invoke/MethodHandle" ∧ yX10_inner.cls ≠ "java/lang/invoke/VarHandle" ∧ (parseMethodDescriptor yX10_inner.desc).map (fun d => d.parameters.length) = some 2 := by decide +kernel
theorem hy_X10_layFaces : yX10_layFaces.cls = RX10 ∧ yX10_layFaces.cls ≠ "java/lang/invoke/MethodHandle" ∧ yX10_layFaces.cls ≠ "java/lang/invoke/VarHandle" ∧ (parseMethodDescriptor yX10_layFaces.desc).map (fun d => d.parameters.length) = some 3 := by decide +kernel
theorem hy_X10_noInner : yX10_noInner.cls = RX10 ∧ yX10_noInner.cls ≠ "java/lang/invoke/MethodHandle" ∧ yX10_noInner.cls ≠ "java/lang/invoke/VarHandle" ∧ (parseMethodDescriptor yX10_noInner.desc).map (fun d => d.parameters.length) = some 3 := by decide +kernel
theorem hy_X10_sizeOf : yX10_sizeOf.cls = RX10 ∧ yX10_sizeOf.cls ≠ "java/lang/invoke/MethodHandle" ∧ yX10_sizeOf.cls ≠ "java/lang/invoke/VarHandle" ∧ (parseMethodDescriptor yX10_sizeOf.desc).map (fun d => d.parameters.length) = some 1 := by decide +kernel
def j_X10_faces_j18 (x1 : Int32) (x2 : Int32) (x3 : Int32) (x90 : Int32) (x91 : Int32) (x92 : Int32) (w : z_M) : Option (Int32 × z_M) :=
  Option.bind (f_X10_noInner x92 x91 x90 w) (fun r3 => if 0 ≤ r3 then (Option.bind (f_X10_inner x1 x2 w) (fun r5 => Option.bind (f_X10_sizeOf x3) (fun r6 => z_b2 (f_X10_layFaces 17 128 r5 r6 w) (fun r7 u8 => some (r7, u8))))) else (some (r3, w)))
def f_X10_faces (a1 : Int32) (a2 : Int32) (a3 : Int32) (u : z_M) : Option (Int32 × z_M) :=
  z_lt (z_sI u 0 0 0) (fun u1 => if a3 < (-1) then (j_X10_faces_j18 a1 a2 a3 0 a2 a1 u1) else (j_X10_faces_j18 a1 a2 a3 1 a2 a1 u1))
set_option maxRecDepth 20000 in
set_option maxHeartbeats 4000000 in
theorem wj_X10_faces_j18 {p : Program} {l : Launch} {e : Env} {R : Room} {s : State} {m : MethodId} {args : Array Value} {below : List Frame} {meth : Method} {c : Code} {g : z_G} {u : z_M} {res : Int32 × z_M} (hR : R = z_rm 7) (X : z_X p R s m args meth c cX10_faces 5 RX10 wsX10_faces (some .int) g z_shR) (x1 : Int32) (x2 : Int32) (x3 : Int32) (x90 : Int32) (x91 : Int32) (x92 : Int32) (w : z_M) (h : j_X10_faces_j18 x1 x2 x3 x90 x91 x92 w = some res) : z_V p l e R s m args below meth c 5 g z_shR (MQ below (z_Qc g z_shR (fun v u' => v = some (.int res.1) ∧ u' = res.2)) args s 0 0 (z_A g z_shR)) 18 [(0, .ref (z_ad g 0)), (1, .int x1), (2, .int x2), (3, .int x3)] [.int x90, .int x91, .int x92, .ref (z_ad g 0)] w := by
  unfold j_X10_faces_j18 at h
  obtain ⟨r3, er3, h⟩ := z_bs h
  refine z_callVi X (r := r3) (u1 := w) [.int x92, .int x91, .int x90] [] (w_X10_noInner l g x92 x91 x90 w er3) z_r0 rfl gX10_faces_X10_noInner hy_X10_noInner rfl (z_le1 hR (by decide)) (z_le2 hR (by decide) (by decide)) (Nat.le_of_ble_eq_true rfl) dX10_faces_18 (z_istore X [(4, .int r3), (0, .ref (z_ad g 0)), (1, .int x1), (2, .int x2), (3, .int x3)] dX10_faces_21 (by decide) rfl (z_iload X 0 dX10_faces_23 rfl (z_if_ge X 33 dX10_faces_25 (by decide) (fun c4 => ?_) (fun c4 => ?_))))
  · replace h := z_ip c4 h
    obtain ⟨r5, er5, h⟩ := z_bs h
    obtain ⟨r6, er6, h⟩ := z_bs h
    obtain ⟨r7, u8, er7, h⟩ := z_b2s h
    refine z_aload_n X 1 dX10_faces_33 rfl rfl (z_aload_n X 1 dX10_faces_34 rfl rfl (z_getR X (k0 := 25) z_r0 rfl in_X10_faces_X10 (by decide) rfl rfl lk_X10_faces_67 dX10_faces_35 (z_aload_n X 1 dX10_faces_38 rfl rfl (z_iload_n X 2 dX10_faces_39 rfl rfl (z_iload_n X 3 dX10_faces_40 rfl rfl (z_callVi X (r := r5) (u1 := w) [.int x1, .int x2] [.ref (z_ad g 17), .ref (z_ad g 0)] (w_X10_inner l g x1 x2 w er5) z_r0 rfl gX10_faces_X10_inner hy_X10_inner rfl (z_le1 hR (by decide)) (z_le2 hR (by decide) (by decide)) (Nat.le_of_ble_eq_true rfl) dX10_faces_41 (z_iload_n X 4 dX10_faces_44 rfl rfl (z_callSi X (r := r6) (u1 := w) [.int x3] [.int r5, .ref (z_ad g 17), .ref (z_ad g 0)] (w_X10_sizeOf l g x3 w er6) gX10_faces_X10_sizeOf hy_X10_sizeOf.2 rfl (z_le1 hR (by decide)) (z_le2 hR (by decide) (by decide)) (Nat.le_of_ble_eq_true rfl) dX10_faces_45 (z_callVi X (r := r7) (u1 := u8) [.ref (z_ad g 17), .int r5, .int r6] [] (w_X10_layFaces l g 17 128 r5 r6 z_r17 w er7) z_r0 rfl gX10_faces_X10_layFaces hy_X10_layFaces rfl (z_le1 hR (by decide)) (z_le2 hR (by decide) (by decide)) (Nat.le_of_ble_eq_true rfl) dX10_faces_48 ?_)))))))))
    cases h; exact z_iret X rfl dX10_faces_51 ⟨rfl, rfl⟩
  · replace h := z_in c4 h
    refine z_iload X 0 dX10_faces_28 rfl (z_goto X 51 dX10_faces_30 (by decide) ?_)
    cases h; exact z_iret X rfl dX10_faces_51 ⟨rfl, rfl⟩
set_option maxRecDepth 20000 in
set_option maxHeartbeats 4000000 in
theorem w_X10_faces (l : Launch) (g : z_G) (a1 : Int32) (a2 : Int32) (a3 : Int32) (u : z_M) {res : Int32 × z_M} (h : f_X10_faces a1 a2 a3 u = some res) : z_C l g z_shR yX10_faces wsX10_faces 7 [.ref (z_ad g 0), .int a1, .int a2, .int a3] u (fun v u' => v = some (.int res.1) ∧ u' = res.2) := by
  refine z_C.mk (lv := [(0, .ref (z_ad g 0)), (1, .int a1), (2, .int a2), (3, .int a3)]) (cc := cX10_faces) (nL := 5) (rt := (some .int)) rfl (by decide) (Nat.le_of_ble_eq_true rfl) rfl (fun p e R s m args below meth c hR X => ?_)
  unfold f_X10_faces at h
  obtain ⟨u1, eu1, h⟩ := z_ls h
  refine z_aload_n X 0 dX10_faces_0 rfl rfl (z_iconst X (v := 0) dX10_faces_1 (by decide) (z_putI X (k0 := 0) (ty0 := tyX10) z_r0 rfl in_X10_faces_X10 tyX10_ok nmX10 (by decide) rfl rfl rfl rfl rfl lk_X10_faces_82 dX10_faces_2 (z_nm eu1 (z_aload_n X 0 dX10_faces_5 rfl rfl (z_iload_n X 1 dX10_faces_6 rfl rfl (z_iload_n X 2 dX10_faces_7 rfl rfl (z_iload_n X 3 dX10_faces_8 rfl rfl (z_iconst X (v := (-1)) dX10_faces_9 (by decide) (z_icmp_lt X 17 dX10_faces_10 (by decide) (fun c2 => ?_) (fun c2 => ?_))))))))))
  · replace h := z_ip c2 h
    refine z_iconst X (v := 0) dX10_faces_17 (by decide) ?_
    exact wj_X10_faces_j18 (u := u1) hR X a1 a2 a3 0 a2 a1 u1 h
  · replace h := z_in c2 h
    refine z_iconst X (v := 1) dX10_faces_13 (by decide) (z_goto X 18 dX10_faces_14 (by decide) ?_)
    exact wj_X10_faces_j18 (u := u1) hR X a1 a2 a3 1 a2 a1 u1 h

def b_X10_inverse_2 (x0 : Int32) (x1 : Int32) : Int32 → (Int32 → Option (Int32)) → (Int32 → Option (Int32)) → Option (Int32) := fun q kb kx =>
  z_gd (decide (¬ x1 = 0)) (if ((x0 * q) - (x0 * q) / x1 * x1) = 1 then (kx q) else (kb (q + 1)))
def f_X10_inverse (a1 : Int32) (a2 : Int32) : Option (Int32) :=
  z_lp (b_X10_inverse_2 a1 a2) z_F 1 (fun t3 => some t3)
set_option maxRecDepth 20000 in
set_option maxHeartbeats 4000000 in
theorem wb_X10_inverse_2 {p : Program} {l : Launch} {e : Env} {R : Room} {s : State} {m : MethodId} {args : Array Value} {below : List Frame} {meth : Method} {c : Code} {g : z_G} {u : z_M} {res : Int32} (hR : R = z_rm 1) (X : z_X p R s m args meth c cX10_inverse 3 RX10 wsX10_inverse (some .int) g z_shR) (x0 : Int32) (x1 : Int32) (q : Int32) (kb : Int32 → Option (Int32)) (kx : Int32 → Option (Int32)) (hkb : ∀ q, kb q = some res → z_V p l e R s m args below meth c 3 g z_shR (MQ below (z_Qc g z_shR (fun v u' => v = some (.int res) ∧ u' = u)) args s 0 0 (z_A g z_shR)) 2 [(0, .int x0), (1, .int x1), (2, .int q)] [] u) (hkx : ∀ t, kx t = some res → z_V p l e R s m args below meth c 3 g z_shR (MQ below (z_Qc g z_shR (fun v u' => v = some (.int res) ∧ u' = u)) args s 0 0 (z_A g z_shR)) 17 [(2, .int t)] [] u) (h : b_X10_inverse_2 x0 x1 q kb kx = some res) : z_V p l e R s m args below meth c 3 g z_shR (MQ below (z_Qc g z_shR (fun v u' => v = some (.int res) ∧ u' = u)) args s 0 0 (z_A g z_shR)) 2 [(0, .int x0), (1, .int x1), (2, .int q)] [] u := by
  unfold b_X10_inverse_2 at h
  obtain ⟨b1, h⟩ := z_gs h
  refine z_iload_n X 0 dX10_inverse_2 rfl rfl (z_iload_n X 2 dX10_inverse_3 rfl rfl (z_imul X dX10_inverse_4 (z_iload_n X 1 dX10_inverse_5 rfl rfl (z_irem X dX10_inverse_6 (of_decide_eq_true b1) (z_iconst X (v := 1) dX10_inverse_7 (by decide) (z_icmp_eq X 17 dX10_inverse_8 (by decide) (fun c2 => ?_) (fun c2 => ?_)))))))
  · replace h := z_ip c2 h
    refine z_sub [2] [(2, .int q)] rfl ?_
    exact hkx q h
  · replace h := z_in c2 h
    refine z_iinc X (v := q + 1) 2 [(2, .int (q + 1)), (0, .int x0), (1, .int x1)] dX10_inverse_11 rfl rfl (by decide) rfl (z_goto X 2 dX10_inverse_14 (by decide) (z_sub [1, 2, 0] [(0, .int x0), (1, .int x1), (2, .int (q + 1))] rfl ?_))
    exact hkb (q + 1) h
set_option maxRecDepth 20000 in
set_option maxHeartbeats 4000000 in
theorem w_X10_inverse (l : Launch) (g : z_G) (a1 : Int32) (a2 : Int32) (u : z_M) {res : Int32} (h : f_X10_inverse a1 a2 = some res) : z_C l g z_shR yX10_inverse wsX10_inverse 1 [.int a1, .int a2] u (fun v u' => v = some (.int res) ∧ u' = u) := by
  refine z_C.mk (lv := [(0, .int a1), (1, .int a2)]) (cc := cX10_inverse) (nL := 3) (rt := (some .int)) rfl (by decide) (Nat.le_of_ble_eq_true rfl) rfl (fun p e R s m args below meth c hR X => ?_)
  unfold f_X10_inverse at h
  refine z_iconst X (v := 1) dX10_inverse_0 (by decide) (z_istore_n X [(2, .int 1), (0, .int a1), (1, .int a2)] dX10_inverse_1 rfl (by decide) rfl (z_sub [1, 2, 0] [(0, .int a1), (1, .int a2), (2, .int 1)] rfl ?_))
  have hw := z_lp_w (fun q9 kb9 kx9 h1 h2 h3 => wb_X10_inverse_2 (l := l) (e := e) (below := below) (u := u) hR X a1 a2 q9 kb9 kx9 h1 h2 h3) z_F _ _ h
  refine hw (fun t3 h => ?_)
  refine z_iload_n X 0 dX10_inverse_17 rfl rfl ?_
  cases h; exact z_iret X rfl dX10_inverse_18 ⟨rfl, rfl⟩

theorem lk_X10_reduced_73 : (Cond.fieldLink RX10 73 RX10 (TX10 27).2.1 (TX10 27).2.2.1) ∈ wsX10_reduced := by decide +kernel
theorem in_X10_reduced_X10 : ∀ w ∈ u_ws RX10 TX10 30, w ∈ wsX10_reduced := by decide +kernel
theorem hy_X10_inverse : yX10_inverse.cls = RX10 ∧ yX10_inverse.cls ≠ "java/lang/invoke/MethodHandle" ∧ yX10_inverse.cls ≠ "java/lang/invoke/VarHandle" ∧ (parseMethodDescriptor yX10_inverse.desc).map (fun d => d.parameters.length) = some 2 := by decide +kernel
def b_X10_reduced_22 (x1 : Int32) (x2 : Int32) (x3 : Int32) (x4 : Int32) (x5 : Int32) (u : z_M) : Int32 → (Int32 → Option (Int32 × z_M)) → (Int32 → Option (Int32 × z_M)) → Option (Int32 × z_M) := fun q kb kx =>
  if x1 ≤ q then (kx q) else (z_gd (z_inb ((40 * q) + x5) 1600) (if (z_gI u 19 ((40 * q) + x5).toNatClampNeg) = 0 then (kb (q + 1)) else (kx q)))
def b_X10_reduced_62 (x1 : Int32) (x2 : Int32) (x3 : Int32) (x4 : Int32) (x5 : Int32) (x6 : Int32) : (Int32 × z_M) → ((Int32 × z_M) → Option (Int32 × z_M)) → (z_M → Option (Int32 × z_M)) → Option (Int32 × z_M) := fun q kb kx =>
  if x2 ≤ q.1 then (kx q.2) else (z_gd (z_inb ((40 * x6) + q.1) 1600) (z_lt (z_gI q.2 19 ((40 * x6) + q.1).toNatClampNeg) (fun v10 => z_gd (z_inb ((40 * x4) + q.1) 1600) (z_gd (z_inb ((40 * x6) + q.1) 1600) (z_lt (z_sI q.2 19 ((40 * x6) + q.1).toNatClampNeg (z_gI q.2 19 ((40 * x4) + q.1).toNatClampNeg)) (fun u13 => z_gd (z_inb ((40 * x4) + q.1) 1600) (z_lt (z_sI u13 19 ((40 * x4) + q.1).toNatClampNeg v10) (fun u15 => kb (q.1 + 1, u15)))))))))
def b_X10_reduced_184 (x1 : Int32) (x2 : Int32) (x3 : Int32) (x4 : Int32) (x5 : Int32) (x7 : Int32) (x8 : Int32) (x9 : Int32) : (Int32 × z_M) → ((Int32 × z_M) → Option (Int32 × z_M)) → (z_M → Option (Int32 × z_M)) → Option (Int32 × z_M) := fun q kb kx =>
  if x2 ≤ q.1 then (kx q.2) else (z_gd (z_inb ((40 * x8) + q.1) 1600) (z_gd (z_inb ((40 * x4) + q.1) 1600) (z_gd (decide (¬ x3 = 0)) (z_gd (z_inb ((40 * x8) + q.1) 1600) (z_lt (z_sI q.2 19 ((40 * x8) + q.1).toNatClampNeg (((z_gI q.2 19 ((40 * x8) + q.1).toNatClampNeg) + ((x3 - x9) * (z_gI q.2 19 ((40 * x4) + q.1).toNatClampNeg))) - ((z_gI q.2 19 ((40 * x8) + q.1).toNatClampNeg) + ((x3 - x9) * (z_gI q.2 19 ((40 * x4) + q.1).toNatClampNeg))) / x3 * x3)) (fun u29 => kb (q.1 + 1, u29)))))))
def b_X10_reduced_155 (x1 : Int32) (x2 : Int32) (x3 : Int32) (x4 : Int32) (x5 : Int32) (x7 : Int32) : (Int32 × z_M) → ((Int32 × z_M) → Option (Int32 × z_M)) → (z_M → Option (Int32 × z_M)) → Option (Int32 × z_M) := fun q kb kx =>
  if x1 ≤ q.1 then (kx q.2) else (z_gd (z_inb ((40 * q.1) + x5) 1600) (z_gd (decide (¬ x3 = 0)) (z_lt (((z_gI q.2 19 ((40 * q.1) + x5).toNatClampNeg) * x7) - ((z_gI q.2 19 ((40 * q.1) + x5).toNatClampNeg) * x7) / x3 * x3) (fun v23 => z_lp (b_X10_reduced_184 x1 x2 x3 x4 x5 x7 q.1 v23) z_F (0, q.2) (fun t30 => kb (q.1 + 1, t30))))))
def b_X10_reduced_6 (x1 : Int32) (x2 : Int32) (x3 : Int32) : (Int32 × Int32 × z_M) → ((Int32 × Int32 × z_M) → Option (Int32 × z_M)) → ((Int32 × z_M) → Option (Int32 × z_M)) → Option (Int32 × z_M) := fun q kb kx =>
  if x2 ≤ q.2.1 then (kx (q.1, q.2.2)) else (if x1 ≤ q.1 then (kx (q.1, q.2.2)) else (z_lp (b_X10_reduced_22 x1 x2 x3 q.1 q.2.1 q.2.2) z_F q.1 (fun t6 => if t6 = x1 then (kb (q.1, q.2.1 + 1, q.2.2)) else (z_lp (b_X10_reduced_62 x1 x2 x3 q.1 q.2.1 t6) z_F (0, q.2.2) (fun t16 => z_gd (z_inb ((40 * q.1) + q.2.1) 1600) (Option.bind (f_X10_inverse (z_gI t16 19 ((40 * q.1) + q.2.1).toNatClampNeg) x3) (fun r18 => z_lt (q.1 + 1) (fun v19 => z_lp (b_X10_reduced_155 x1 x2 x3 q.1 q.2.1 r18) z_F (v19, t16) (fun t31 => kb (q.1 + 1, q.2.1 + 1, t31))))))))))
def f_X10_reduced (a1 : Int32) (a2 : Int32) (a3 : Int32) (u : z_M) : Option (Int32 × z_M) :=
  z_lp (b_X10_reduced_6 a1 a2 a3) z_F (0, 0, u) (fun t32 => some (t32.1, t32.2))
set_option maxRecDepth 20000 in
set_option maxHeartbeats 4000000 in
theorem wb_X10_reduced_22 {p : Program} {l : Launch} {e : Env} {R : Room} {s : State} {m : MethodId} {args : Array Value} {below : List Frame} {meth : Method} {c : Code} {g : z_G} {u : z_M} {res : Int32 × z_M} (hR : R = z_rm 2) (X : z_X p R s m args meth c cX10_reduced 11 RX10 wsX10_reduced (some .int) g z_shR) (x1 : Int32) (x2 : Int32) (x3 : Int32) (x4 : Int32) (x5 : Int32) (q : Int32) (kb : Int32 → Option (Int32 × z_M)) (kx : Int32 → Option (Int32 × z_M)) (hkb : ∀ q, kb q = some res → z_V p l e R s m args below meth c 11 g z_shR (MQ below (z_Qc g z_shR (fun v u' => v = some (.int res.1) ∧ u' = res.2)) args s 0 0 (z_A g z_shR)) 22 [(0, .ref (z_ad g 0)), (1, .int x1), (2, .int x2), (3, .int x3), (4, .int x4), (5, .int x5), (6, .int q)] [] u) (hkx : ∀ t, kx t = some res → z_V p l e R s m args below meth c 11 g z_shR (MQ below (z_Qc g z_shR (fun v u' => v = some (.int res.1) ∧ u' = res.2)) args s 0 0 (z_A g z_shR)) 50 [(0, .ref (z_ad g 0)), (1, .int x1), (2, .int x2), (3, .int x3), (4, .int x4), (5, .int x5), (6, .int t)] [] u) (h : b_X10_reduced_22 x1 x2 x3 x4 x5 u q kb kx = some res) : z_V p l e R s m args below meth c 11 g z_shR (MQ below (z_Qc g z_shR (fun v u' => v = some (.int res.1) ∧ u' = res.2)) args s 0 0 (z_A g z_shR)) 22 [(0, .ref (z_ad g 0)), (1, .int x1), (2, .int x2), (3, .int x3), (4, .int x4), (5, .int x5), (6, .int q)] [] u := by
  unfold b_X10_reduced_22 at h
  refine z_iload X 6 dX10_reduced_22 rfl (z_iload_n X 1 dX10_reduced_24 rfl rfl (z_icmp_ge X 50 dX10_reduced_25 (by decide) (fun c3 => ?_) (fun c3 => ?_)))
  · replace h := z_ip c3 h
    exact hkx q h
  · replace h := z_in c3 h
    obtain ⟨b4, h⟩ := z_gs h
    refine z_aload_n X 0 dX10_reduced_28 rfl rfl (z_getR X (k0 := 27) z_r0 rfl in_X10_reduced_X10 (by decide) rfl rfl lk_X10_reduced_73 dX10_reduced_29 (z_bipush X (v := 40) dX10_reduced_32 (by decide) (z_iload X 6 dX10_reduced_34 rfl (z_imul X dX10_reduced_36 (z_iload X 5 dX10_reduced_37 rfl (z_iadd X dX10_reduced_39 (z_iald X z_r19 (z_inS b4) dX10_reduced_40 (z_if_ne X 50 dX10_reduced_41 (by decide) (fun c5 => ?_) (fun c5 => ?_)))))))))
    · replace h := z_in c5 h
      exact hkx q h
    · replace h := z_ip c5 h
      refine z_iinc X (v := q + 1) 6 [(6, .int (q + 1)), (0, .ref (z_ad g 0)), (1, .int x1), (2, .int x2), (3, .int x3), (4, .int x4), (5, .int x5)] dX10_reduced_44 rfl rfl (by decide) rfl (z_goto X 22 dX10_reduced_47 (by decide) (z_sub [1, 2, 3, 4, 5, 6, 0] [(0, .ref (z_ad g 0)), (1, .int x1), (2, .int x2), (3, .int x3), (4, .int x4), (5, .int x5), (6, .int (q + 1))] rfl ?_))
      exact hkb (q + 1) h
set_option maxRecDepth 20000 in
set_option maxHeartbeats 4000000 in
theorem wb_X10_reduced_62 {p : Program} {l : Launch} {e : Env} {R : Room} {s : State} {m : MethodId} {args : Array Value} {below : List Frame} {meth : Method} {c : Code} {g : z_G} {u : z_M} {res : Int32 × z_M} (hR : R = z_rm 2) (X : z_X p R s m args meth c cX10_reduced 11 RX10 wsX10_reduced (some .int) g z_shR) (x1 : Int32) (x2 : Int32) (x3 : Int32) (x4 : Int32) (x5 : Int32) (x6 : Int32) (q : Int32 × z_M) (kb : (Int32 × z_M) → Option (Int32 × z_M)) (kx : z_M → Option (Int32 × z_M)) (hkb : ∀ q, kb q = some res → z_V p l e R s m args below meth c 11 g z_shR (MQ below (z_Qc g z_shR (fun v u' => v = some (.int res.1) ∧ u' = res.2)) args s 0 0 (z_A g z_shR)) 62 [(0, .ref (z_ad g 0)), (1, .int x1), (2, .int x2), (3, .int x3), (4, .int x4), (5, .int x5), (6, .int x6), (7, .int q.1)] [] q.2) (hkx : ∀ t, kx t = some res → z_V p l e R s m args below meth c 11 g z_shR (MQ below (z_Qc g z_shR (fun v u' => v = some (.int res.1) ∧ u' = res.2)) args s 0 0 (z_A g z_shR)) 130 [(0, .ref (z_ad g 0)), (1, .int x1), (2, .int x2), (3, .int x3), (4, .int x4), (5, .int x5)] [] t) (h : b_X10_reduced_62 x1 x2 x3 x4 x5 x6 q kb kx = some res) : z_V p l e R s m args below meth c 11 g z_shR (MQ below (z_Qc g z_shR (fun v u' => v = some (.int res.1) ∧ u' = res.2)) args s 0 0 (z_A g z_shR)) 62 [(0, .ref (z_ad g 0)), (1, .int x1), (2, .int x2), (3, .int x3), (4, .int x4), (5, .int x5), (6, .int x6), (7, .int q.1)] [] q.2 := by
  unfold b_X10_reduced_62 at h
  refine z_iload X 7 dX10_reduced_62 rfl (z_iload_n X 2 dX10_reduced_64 rfl rfl (z_icmp_ge X 130 dX10_reduced_65 (by decide) (fun c8 => ?_) (fun c8 => ?_)))
  · replace h := z_ip c8 h
    refine z_sub [0, 1, 2, 3, 4, 5] [(0, .ref (z_ad g 0)), (1, .int x1), (2, .int x2), (3, .int x3), (4, .int x4), (5, .int x5)] rfl ?_
    exact hkx q.2 h
  · replace h := z_in c8 h
    obtain ⟨b9, h⟩ := z_gs h
    obtain ⟨v10, ev10, h⟩ := z_ls h
    obtain ⟨b11, h⟩ := z_gs h
    obtain ⟨b12, h⟩ := z_gs h
    obtain ⟨u13, eu13, h⟩ := z_ls h
    obtain ⟨b14, h⟩ := z_gs h
    obtain ⟨u15, eu15, h⟩ := z_ls h
    refine z_aload_n X 0 dX10_reduced_68 rfl rfl (z_getR X (k0 := 27) z_r0 rfl in_X10_reduced_X10 (by decide) rfl rfl lk_X10_reduced_73 dX10_reduced_69 (z_bipush X (v := 40) dX10_reduced_72 (by decide) (z_iload X 6 dX10_reduced_74 rfl (z_imul X dX10_reduced_76 (z_iload X 7 dX10_reduced_77 rfl (z_iadd X dX10_reduced_79 (z_iald X z_r19 (z_inS b9) dX10_reduced_80 (z_ti ev10 (z_istore X [(8, .int v10), (0, .ref (z_ad g 0)), (1, .int x1), (2, .int x2), (3, .int x3), (4, .int x4), (5, .int x5), (6, .int x6), (7, .int q.1)] dX10_reduced_81 (by decide) rfl (z_aload_n X 1 dX10_reduced_83 rfl rfl (z_getR X (k0 := 27) z_r0 rfl in_X10_reduced_X10 (by decide) rfl rfl lk_X10_reduced_73 dX10_reduced_84 (z_bipush X (v := 40) dX10_reduced_87 (by decide) (z_iload X 7 dX10_reduced_89 rfl (z_imul X dX10_reduced_91 (z_iload X 8 dX10_reduced_92 rfl (z_iadd X dX10_reduced_94 (z_aload_n X 1 dX10_reduced_95 rfl rfl (z_getR X (k0 := 27) z_r0 rfl in_X10_reduced_X10 (by decide) rfl rfl lk_X10_reduced_73 dX10_reduced_96 (z_bipush X (v := 40) dX10_reduced_99 (by decide) (z_iload X 5 dX10_reduced_101 rfl (z_imul X dX10_reduced_103 (z_iload X 8 dX10_reduced_104 rfl (z_iadd X dX10_reduced_106 (z_iald X z_r19 (z_inS b11) dX10_reduced_107 (z_iast X z_r19 (z_inS b12) dX10_reduced_108 (z_nm eu13 (z_aload_n X 1 dX10_reduced_109 rfl rfl (z_getR X (k0 := 27) z_r0 rfl in_X10_reduced_X10 (by decide) rfl rfl lk_X10_reduced_73 dX10_reduced_110 (z_bipush X (v := 40) dX10_reduced_113 (by decide) (z_iload X 5 dX10_reduced_115 rfl (z_imul X dX10_reduced_117 (z_iload X 8 dX10_reduced_118 rfl (z_iadd X dX10_reduced_120 (z_iload X 0 dX10_reduced_121 rfl (z_iast X z_r19 (z_inS b14) dX10_reduced_123 (z_nm eu15 (z_iinc X (v := q.1 + 1) 8 [(7, .int (q.1 + 1)), (8, .int v10), (0, .ref (z_ad g 0)), (1, .int x1), (2, .int x2), (3, .int x3), (4, .int x4), (5, .int x5), (6, .int x6)] dX10_reduced_124 rfl rfl (by decide) rfl (z_goto X 62 dX10_reduced_127 (by decide) (z_sub [2, 3, 4, 5, 6, 7, 8, 0] [(0, .ref (z_ad g 0)), (1, .int x1), (2, .int x2), (3, .int x3), (4, .int x4), (5, .int x5), (6, .int x6), (7, .int (q.1 + 1))] rfl ?_)))))))))))))))))))))))))))))))))))))))
    exact hkb (q.1 + 1, u15) h
set_option maxRecDepth 20000 in
set_option maxHeartbeats 4000000 in
theorem wb_X10_reduced_184 {p : Program} {l : Launch} {e : Env} {R : Room} {s : State} {m : MethodId} {args : Array Value} {below : List Frame} {meth : Method} {c : Code} {g : z_G} {u : z_M} {res : Int32 × z_M} (hR : R = z_rm 2) (X : z_X p R s m args meth c cX10_reduced 11 RX10 wsX10_reduced (some .int) g z_shR) (x1 : Int32) (x2 : Int32) (x3 : Int32) (x4 : Int32) (x5 : Int32) (x7 : Int32) (x8 : Int32) (x9 : Int32) (q : Int32 × z_M) (kb : (Int32 × z_M) → Option (Int32 × z_M)) (kx : z_M → Option (Int32 × z_M)) (hkb : ∀ q, kb q = some res → z_V p l e R s m args below meth c 11 g z_shR (MQ below (z_Qc g z_shR (fun v u' => v = some (.int res.1) ∧ u' = res.2)) args s 0 0 (z_A g z_shR)) 184 [(0, .ref (z_ad g 0)), (1, .int x1), (2, .int x2), (3, .int x3), (4, .int x4), (5, .int x5), (7, .int x7), (8, .int x8), (9, .int x9), (10, .int q.1)] [] q.2) (hkx : ∀ t, kx t = some res → z_V p l e R s m args below meth c 11 g z_shR (MQ below (z_Qc g z_shR (fun v u' => v = some (.int res.1) ∧ u' = res.2)) args s 0 0 (z_A g z_shR)) 243 [(0, .ref (z_ad g 0)), (1, .int x1), (2, .int x2), (3, .int x3), (4, .int x4), (5, .int x5), (7, .int x7), (8, .int x8)] [] t) (h : b_X10_reduced_184 x1 x2 x3 x4 x5 x7 x8 x9 q kb kx = some res) : z_V p l e R s m args below meth c 11 g z_shR (MQ below (z_Qc g z_shR (fun v u' => v = some (.int res.1) ∧ u' = res.2)) args s 0 0 (z_A g z_shR)) 184 [(0, .ref (z_ad g 0)), (1, .int x1), (2, .int x2), (3, .int x3), (4, .int x4), (5, .int x5), (7, .int x7), (8, .int x8), (9, .int x9), (10, .int q.1)] [] q.2 := by
  unfold b_X10_reduced_184 at h
  refine z_iload X 9 dX10_reduced_184 rfl (z_iload_n X 2 dX10_reduced_186 rfl rfl (z_icmp_ge X 243 dX10_reduced_187 (by decide) (fun c24 => ?_) (fun c24 => ?_)))
  · replace h := z_ip c24 h
    refine z_sub [0, 1, 2, 3, 4, 5, 6, 7] [(0, .ref (z_ad g 0)), (1, .int x1), (2, .int x2), (3, .int x3), (4, .int x4), (5, .int x5), (7, .int x7), (8, .int x8)] rfl ?_
    exact hkx q.2 h
  · replace h := z_in c24 h
    obtain ⟨b25, h⟩ := z_gs h
    obtain ⟨b26, h⟩ := z_gs h
    obtain ⟨b27, h⟩ := z_gs h
    obtain ⟨b28, h⟩ := z_gs h
    obtain ⟨u29, eu29, h⟩ := z_ls h
    refine z_aload_n X 0 dX10_reduced_190 rfl rfl (z_getR X (k0 := 27) z_r0 rfl in_X10_reduced_X10 (by decide) rfl rfl lk_X10_reduced_73 dX10_reduced_191 (z_bipush X (v := 40) dX10_reduced_194 (by decide) (z_iload X 7 dX10_reduced_196 rfl (z_imul X dX10_reduced_198 (z_iload X 9 dX10_reduced_199 rfl (z_iadd X dX10_reduced_201 (z_aload_n X 0 dX10_reduced_202 rfl rfl (z_getR X (k0 := 27) z_r0 rfl in_X10_reduced_X10 (by decide) rfl rfl lk_X10_reduced_73 dX10_reduced_203 (z_bipush X (v := 40) dX10_reduced_206 (by decide) (z_iload X 7 dX10_reduced_208 rfl (z_imul X dX10_reduced_210 (z_iload X 9 dX10_reduced_211 rfl (z_iadd X dX10_reduced_213 (z_iald X z_r19 (z_inS b25) dX10_reduced_214 (z_iload_n X 3 dX10_reduced_215 rfl rfl (z_iload X 8 dX10_reduced_216 rfl (z_isub X dX10_reduced_218 (z_aload_n X 0 dX10_reduced_219 rfl rfl (z_getR X (k0 := 27) z_r0 rfl in_X10_reduced_X10 (by decide) rfl rfl lk_X10_reduced_73 dX10_reduced_220 (z_bipush X (v := 40) dX10_reduced_223 (by decide) (z_iload X 4 dX10_reduced_225 rfl (z_imul X dX10_reduced_227 (z_iload X 9 dX10_reduced_228 rfl (z_iadd X dX10_reduced_230 (z_iald X z_r19 (z_inS b26) dX10_reduced_231 (z_imul X dX10_reduced_232 (z_iadd X dX10_reduced_233 (z_iload_n X 3 dX10_reduced_234 rfl rfl (z_irem X dX10_reduced_235 (of_decide_eq_true b27) (z_iast X z_r19 (z_inS b28) dX10_reduced_236 (z_nm eu29 (z_iinc X (v := q.1 + 1) 9 [(10, .int (q.1 + 1)), (0, .ref (z_ad g 0)), (1, .int x1), (2, .int x2), (3, .int x3), (4, .int x4), (5, .int x5), (7, .int x7), (8, .int x8), (9, .int x9)] dX10_reduced_237 rfl rfl (by decide) rfl (z_goto X 184 dX10_reduced_240 (by decide) (z_sub [1, 2, 3, 4, 5, 6, 7, 8, 9, 0] [(0, .ref (z_ad g 0)), (1, .int x1), (2, .int x2), (3, .int x3), (4, .int x4), (5, .int x5), (7, .int x7), (8, .int x8), (9, .int x9), (10, .int (q.1 + 1))] rfl ?_))))))))))))))))))))))))))))))))))
    exact hkb (q.1 + 1, u29) h
set_option maxRecDepth 20000 in
set_option maxHeartbeats 4000000 in
theorem wb_X10_reduced_155 {p : Program} {l : Launch} {e : Env} {R : Room} {s : State} {m : MethodId} {args : Array Value} {below : List Frame} {meth : Method} {c : Code} {g : z_G} {u : z_M} {res : Int32 × z_M} (hR : R = z_rm 2) (X : z_X p R s m args meth c cX10_reduced 11 RX10 wsX10_reduced (some .int) g z_shR) (x1 : Int32) (x2 : Int32) (x3 : Int32) (x4 : Int32) (x5 : Int32) (x7 : Int32) (q : Int32 × z_M) (kb : (Int32 × z_M) → Option (Int32 × z_M)) (kx : z_M → Option (Int32 × z_M)) (hkb : ∀ q, kb q = some res → z_V p l e R s m args below meth c 11 g z_shR (MQ below (z_Qc g z_shR (fun v u' => v = some (.int res.1) ∧ u' = res.2)) args s 0 0 (z_A g z_shR)) 155 [(0, .ref (z_ad g 0)), (1, .int x1), (2, .int x2), (3, .int x3), (4, .int x4), (5, .int x5), (7, .int x7), (8, .int q.1)] [] q.2) (hkx : ∀ t, kx t = some res → z_V p l e R s m args below meth c 11 g z_shR (MQ below (z_Qc g z_shR (fun v u' => v = some (.int res.1) ∧ u' = res.2)) args s 0 0 (z_A g z_shR)) 249 [(0, .ref (z_ad g 0)), (1, .int x1), (2, .int x2), (3, .int x3), (4, .int x4), (5, .int x5)] [] t) (h : b_X10_reduced_155 x1 x2 x3 x4 x5 x7 q kb kx = some res) : z_V p l e R s m args below meth c 11 g z_shR (MQ below (z_Qc g z_shR (fun v u' => v = some (.int res.1) ∧ u' = res.2)) args s 0 0 (z_A g z_shR)) 155 [(0, .ref (z_ad g 0)), (1, .int x1), (2, .int x2), (3, .int x3), (4, .int x4), (5, .int x5), (7, .int x7), (8, .int q.1)] [] q.2 := by
  unfold b_X10_reduced_155 at h
  refine z_iload X 7 dX10_reduced_155 rfl (z_iload_n X 1 dX10_reduced_157 rfl rfl (z_icmp_ge X 249 dX10_reduced_158 (by decide) (fun c20 => ?_) (fun c20 => ?_)))
  · replace h := z_ip c20 h
    refine z_sub [0, 1, 2, 3, 4, 5] [(0, .ref (z_ad g 0)), (1, .int x1), (2, .int x2), (3, .int x3), (4, .int x4), (5, .int x5)] rfl ?_
    exact hkx q.2 h
  · replace h := z_in c20 h
    obtain ⟨b21, h⟩ := z_gs h
    obtain ⟨b22, h⟩ := z_gs h
    obtain ⟨v23, ev23, h⟩ := z_ls h
    refine z_aload_n X 0 dX10_reduced_161 rfl rfl (z_getR X (k0 := 27) z_r0 rfl in_X10_reduced_X10 (by decide) rfl rfl lk_X10_reduced_73 dX10_reduced_162 (z_bipush X (v := 40) dX10_reduced_165 (by decide) (z_iload X 7 dX10_reduced_167 rfl (z_imul X dX10_reduced_169 (z_iload X 5 dX10_reduced_170 rfl (z_iadd X dX10_reduced_172 (z_iald X z_r19 (z_inS b21) dX10_reduced_173 (z_iload X 6 dX10_reduced_174 rfl (z_imul X dX10_reduced_176 (z_iload_n X 3 dX10_reduced_177 rfl rfl (z_irem X dX10_reduced_178 (of_decide_eq_true b22) (z_ti ev23 (z_istore X [(9, .int v23), (0, .ref (z_ad g 0)), (1, .int x1), (2, .int x2), (3, .int x3), (4, .int x4), (5, .int x5), (7, .int x7), (8, .int q.1)] dX10_reduced_179 (by decide) rfl (z_iconst X (v := 0) dX10_reduced_181 (by decide) (z_istore X [(10, .int 0), (9, .int v23), (0, .ref (z_ad g 0)), (1, .int x1), (2, .int x2), (3, .int x3), (4, .int x4), (5, .int x5), (7, .int x7), (8, .int q.1)] dX10_reduced_182 (by decide) rfl (z_sub [2, 3, 4, 5, 6, 7, 8, 9, 1, 0] [(0, .ref (z_ad g 0)), (1, .int x1), (2, .int x2), (3, .int x3), (4, .int x4), (5, .int x5), (7, .int x7), (8, .int q.1), (9, .int v23), (10, .int 0)] rfl ?_))))))))))))))))
    have hw := z_lp_w (fun q9 kb9 kx9 h1 h2 h3 => wb_X10_reduced_184 (l := l) (e := e) (below := below) (u := q.2) hR X x1 x2 x3 x4 x5 x7 q.1 v23 q9 kb9 kx9 h1 h2 h3) z_F _ _ h
    refine hw (fun t30 h => ?_)
    refine z_iinc X (v := q.1 + 1) 7 [(8, .int (q.1 + 1)), (0, .ref (z_ad g 0)), (1, .int x1), (2, .int x2), (3, .int x3), (4, .int x4), (5, .int x5), (7, .int x7)] dX10_reduced_243 rfl rfl (by decide) rfl (z_goto X 155 dX10_reduced_246 (by decide) (z_sub [1, 2, 3, 4, 5, 6, 7, 0] [(0, .ref (z_ad g 0)), (1, .int x1), (2, .int x2), (3, .int x3), (4, .int x4), (5, .int x5), (7, .int x7), (8, .int (q.1 + 1))] rfl ?_))
    exact hkb (q.1 + 1, t30) h
set_option maxRecDepth 20000 in
set_option maxHeartbeats 4000000 in
theorem wb_X10_reduced_6 {p : Program} {l : Launch} {e : Env} {R : Room} {s : State} {m : MethodId} {args : Array Value} {below : List Frame} {meth : Method} {c : Code} {g : z_G} {u : z_M} {res : Int32 × z_M} (hR : R = z_rm 2) (X : z_X p R s m args meth c cX10_reduced 11 RX10 wsX10_reduced (some .int) g z_shR) (x1 : Int32) (x2 : Int32) (x3 : Int32) (q : Int32 × Int32 × z_M) (kb : (Int32 × Int32 × z_M) → Option (Int32 × z_M)) (kx : (Int32 × z_M) → Option (Int32 × z_M)) (hkb : ∀ q, kb q = some res → z_V p l e R s m args below meth c 11 g z_shR (MQ below (z_Qc g z_shR (fun v u' => v = some (.int res.1) ∧ u' = res.2)) args s 0 0 (z_A g z_shR)) 6 [(0, .ref (z_ad g 0)), (1, .int x1), (2, .int x2), (3, .int x3), (4, .int q.1), (5, .int q.2.1)] [] q.2.2) (hkx : ∀ t, kx t = some res → z_V p l e R s m args below meth c 11 g z_shR (MQ below (z_Qc g z_shR (fun v u' => v = some (.int res.1) ∧ u' = res.2)) args s 0 0 (z_A g z_shR)) 258 [(4, .int t.1)] [] t.2) (h : b_X10_reduced_6 x1 x2 x3 q kb kx = some res) : z_V p l e R s m args below meth c 11 g z_shR (MQ below (z_Qc g z_shR (fun v u' => v = some (.int res.1) ∧ u' = res.2)) args s 0 0 (z_A g z_shR)) 6 [(0, .ref (z_ad g 0)), (1, .int x1), (2, .int x2), (3, .int x3), (4, .int q.1), (5, .int q.2.1)] [] q.2.2 := by
  unfold b_X10_reduced_6 at h
  refine z_iload X 5 dX10_reduced_6 rfl (z_iload_n X 2 dX10_reduced_8 rfl rfl (z_icmp_ge X 258 dX10_reduced_9 (by decide) (fun c1 => ?_) (fun c1 => ?_)))
  · replace h := z_ip c1 h
    refine z_sub [4] [(4, .int q.1)] rfl ?_
    exact hkx (q.1, q.2.2) h
  · replace h := z_in c1 h
    refine z_iload X 4 dX10_reduced_12 rfl (z_iload_n X 1 dX10_reduced_14 rfl rfl (z_icmp_ge X 258 dX10_reduced_15 (by decide) (fun c2 => ?_) (fun c2 => ?_)))
    · replace h := z_ip c2 h
      refine z_sub [4] [(4, .int q.1)] rfl ?_
      exact hkx (q.1, q.2.2) h
    · replace h := z_in c2 h
      refine z_iload X 4 dX10_reduced_18 rfl (z_istore X [(6, .int q.1), (0, .ref (z_ad g 0)), (1, .int x1), (2, .int x2), (3, .int x3), (4, .int q.1), (5, .int q.2.1)] dX10_reduced_20 (by decide) rfl (z_sub [1, 2, 3, 4, 5, 6, 0] [(0, .ref (z_ad g 0)), (1, .int x1), (2, .int x2), (3, .int x3), (4, .int q.1), (5, .int q.2.1), (6, .int q.1)] rfl ?_))
      have hw := z_lp_w (fun q9 kb9 kx9 h1 h2 h3 => wb_X10_reduced_22 (l := l) (e := e) (below := below) (u := q.2.2) hR X x1 x2 x3 q.1 q.2.1 q9 kb9 kx9 h1 h2 h3) z_F _ _ h
      refine hw (fun t6 h => ?_)
      refine z_iload X 6 dX10_reduced_50 rfl (z_iload_n X 1 dX10_reduced_52 rfl rfl (z_icmp_ne X 59 dX10_reduced_53 (by decide) (fun c7 => ?_) (fun c7 => ?_)))
      · replace h := z_in c7 h
        refine z_iconst X (v := 0) dX10_reduced_59 (by decide) (z_istore X [(7, .int 0), (0, .ref (z_ad g 0)), (1, .int x1), (2, .int x2), (3, .int x3), (4, .int q.1), (5, .int q.2.1), (6, .int t6)] dX10_reduced_60 (by decide) rfl (z_sub [1, 2, 3, 4, 5, 6, 7, 0] [(0, .ref (z_ad g 0)), (1, .int x1), (2, .int x2), (3, .int x3), (4, .int q.1), (5, .int q.2.1), (6, .int t6), (7, .int 0)] rfl ?_))
        have hw := z_lp_w (fun q9 kb9 kx9 h1 h2 h3 => wb_X10_reduced_62 (l := l) (e := e) (below := below) (u := q.2.2) hR X x1 x2 x3 q.1 q.2.1 t6 q9 kb9 kx9 h1 h2 h3) z_F _ _ h
        refine hw (fun t16 h => ?_)
        obtain ⟨b17, h⟩ := z_gs h
        obtain ⟨r18, er18, h⟩ := z_bs h
        obtain ⟨v19, ev19, h⟩ := z_ls h
        refine z_aload_n X 0 dX10_reduced_130 rfl rfl (z_getR X (k0 := 27) z_r0 rfl in_X10_reduced_X10 (by decide) rfl rfl lk_X10_reduced_73 dX10_reduced_131 (z_bipush X (v := 40) dX10_reduced_134 (by decide) (z_iload X 4 dX10_reduced_136 rfl (z_imul X dX10_reduced_138 (z_iload X 5 dX10_reduced_139 rfl (z_iadd X dX10_reduced_141 (z_iald X z_r19 (z_inS b17) dX10_reduced_142 (z_iload_n X 3 dX10_reduced_143 rfl rfl (z_callSi X (r := r18) (u1 := t16) [.int (z_gI t16 19 ((40 * q.1) + q.2.1).toNatClampNeg), .int x3] [] (w_X10_inverse l g (z_gI t16 19 ((40 * q.1) + q.2.1).toNatClampNeg) x3 t16 er18) gX10_reduced_X10_inverse hy_X10_inverse.2 rfl (z_le1 hR (by decide)) (z_le2 hR (by decide) (by decide)) (Nat.le_of_ble_eq_true rfl) dX10_reduced_144 (z_istore X [(7, .int r18), (0, .ref (z_ad g 0)), (1, .int x1), (2, .int x2), (3, .int x3), (4, .int q.1), (5, .int q.2.1)] dX10_reduced_147 (by decide) rfl (z_iload X 5 dX10_reduced_149 rfl (z_iconst X (v := 1) dX10_reduced_151 (by decide) (z_iadd X dX10_reduced_152 (z_ti ev19 (z_istore X [(8, .int v19), (7, .int r18), (0, .ref (z_ad g 0)), (1, .int x1), (2, .int x2), (3, .int x3), (4, .int q.1), (5, .int q.2.1)] dX10_reduced_153 (by decide) rfl (z_sub [2, 3, 4, 5, 6, 7, 1, 0] [(0, .ref (z_ad g 0)), (1, .int x1), (2, .int x2), (3, .int x3), (4, .int q.1), (5, .int q.2.1), (7, .int r18), (8, .int v19)] rfl ?_))))))))))))))))
        have hw := z_lp_w (fun q9 kb9 kx9 h1 h2 h3 => wb_X10_reduced_155 (l := l) (e := e) (below := below) (u := t16) hR X x1 x2 x3 q.1 q.2.1 r18 q9 kb9 kx9 h1 h2 h3) z_F _ _ h
        refine hw (fun t31 h => ?_)
        refine z_iinc X (v := q.1 + 1) 4 [(4, .int (q.1 + 1)), (0, .ref (z_ad g 0)), (1, .int x1), (2, .int x2), (3, .int x3), (5, .int q.2.1)] dX10_reduced_249 rfl rfl (by decide) rfl (z_iinc X (v := q.2.1 + 1) 5 [(5, .int (q.2.1 + 1)), (4, .int (q.1 + 1)), (0, .ref (z_ad g 0)), (1, .int x1), (2, .int x2), (3, .int x3)] dX10_reduced_252 rfl rfl (by decide) rfl (z_goto X 6 dX10_reduced_255 (by decide) (z_sub [2, 3, 4, 5, 1, 0] [(0, .ref (z_ad g 0)), (1, .int x1), (2, .int x2), (3, .int x3), (4, .int (q.1 + 1)), (5, .int (q.2.1 + 1))] rfl ?_)))
        exact hkb (q.1 + 1, q.2.1 + 1, t31) h
      · replace h := z_ip c7 h
        refine z_goto X 252 dX10_reduced_56 (by decide) (z_iinc X (v := q.2.1 + 1) 5 [(5, .int (q.2.1 + 1)), (0, .ref (z_ad g 0)), (1, .int x1), (2, .int x2), (3, .int x3), (4, .int q.1), (6, .int t6)] dX10_reduced_252 rfl rfl (by decide) rfl (z_goto X 6 dX10_reduced_255 (by decide) (z_sub [1, 2, 3, 4, 5, 0] [(0, .ref (z_ad g 0)), (1, .int x1), (2, .int x2), (3, .int x3), (4, .int q.1), (5, .int (q.2.1 + 1))] rfl ?_)))
        exact hkb (q.1, q.2.1 + 1, q.2.2) h
set_option maxRecDepth 20000 in
set_option maxHeartbeats 4000000 in
theorem w_X10_reduced (l : Launch) (g : z_G) (a1 : Int32) (a2 : Int32) (a3 : Int32) (u : z_M) {res : Int32 × z_M} (h : f_X10_reduced a1 a2 a3 u = some res) : z_C l g z_shR yX10_reduced wsX10_reduced 2 [.ref (z_ad g 0), .int a1, .int a2, .int a3] u (fun v u' => v = some (.int res.1) ∧ u' = res.2) := by
  refine z_C.mk (lv := [(0, .ref (z_ad g 0)), (1, .int a1), (2, .int a2), (3, .int a3)]) (cc := cX10_reduced) (nL := 11) (rt := (some .int)) rfl (by decide) (Nat.le_of_ble_eq_true rfl) rfl (fun p e R s m args below meth c hR X => ?_)
  unfold f_X10_reduced at h
  refine z_iconst X (v := 0) dX10_reduced_0 (by decide) (z_istore X [(4, .int 0), (0, .ref (z_ad g 0)), (1, .int a1), (2, .int a2), (3, .int a3)] dX10_reduced_1 (by decide) rfl (z_iconst X (v := 0) dX10_reduced_3 (by decide) (z_istore X [(5, .int 0), (4, .int 0), (0, .ref (z_ad g 0)), (1, .int a1), (2, .int a2), (3, .int a3)] dX10_reduced_4 (by decide) rfl (z_sub [2, 3, 4, 5, 1, 0] [(0, .ref (z_ad g 0)), (1, .int a1), (2, .int a2), (3, .int a3), (4, .int 0), (5, .int 0)] rfl ?_))))
  have hw := z_lp_w (fun q9 kb9 kx9 h1 h2 h3 => wb_X10_reduced_6 (l := l) (e := e) (below := below) (u := u) hR X a1 a2 a3 q9 kb9 kx9 h1 h2 h3) z_F _ _ h
  refine hw (fun t32 h => ?_)
  refine z_iload X 0 dX10_reduced_258 rfl ?_
  cases h; exact z_iret X rfl dX10_reduced_260 ⟨rfl, rfl⟩

theorem lk_X10_rank_67 : (Cond.fieldLink RX10 67 RX10 (TX10 25).2.1 (TX10 25).2.2.1) ∈ wsX10_rank := by decide +kernel
theorem in_X10_rank_X10 : ∀ w ∈ u_ws RX10 TX10 30, w ∈ wsX10_rank := fun _ h => List.mem_cons_of_mem _ (List.mem_append_right _ h)
theorem lk_X10_rank_70 : (Cond.fieldLink RX10 70 RX10 (TX10 26).2.1 (TX10 26).2.2.1) ∈ wsX10_rank := by decide +kernel
theorem lk_X10_rank_73 : (Cond.fieldLink RX10 73 RX10 (TX10 27).2.1 (TX10 27).2.2.1) ∈ wsX10_rank := by decide +kernel
theorem hy_X10_reduced : yX10_reduced.cls = RX10 ∧ yX10_reduced.cls ≠ "java/lang/invoke/MethodHandle" ∧ yX10_reduced.cls ≠ "java/lang/invoke/VarHandle" ∧ (parseMethodDescriptor yX10_reduced.desc).map (fun d => d.parameters.length) = some 3 := by decide +kernel
def b_X10_rank_104 (x3 : Int32) (x4 : Int32) (x5 : Int32) (x6 : Int32) (x7 : Int32) (x8 : Int32) (x9 : Int32) (u : z_M) : (Int32 × Int32) → ((Int32 × Int32) → Option (Int32 × z_M)) → (Int32 → Option (Int32 × z_M)) → Option (Int32 × z_M) := fun q kb kx =>
  if 9 ≤ q.2 then (kx q.1) else (if x9 = 0 then (kx q.1) else (Option.bind (f_X10_has x8 q.2) (fun r16 => if r16 = 0 then (z_lt (q.1 + 0) (fun v18 => kb (v18, q.2 + 1))) else (Option.bind (f_X10_below q.2 u) (fun r19 => z_gd (z_inb x6 128) (Option.bind (f_X10_bits (r19 &&& (z_gI u 17 x6.toNatClampNeg))) (fun r21 => z_lt (q.1 + r21) (fun v22 => kb (v22, q.2 + 1)))))))))
def b_X10_rank_45 (x3 : Int32) (x4 : Int32) (x5 : Int32) (x6 : Int32) : (Int32 × z_M) → ((Int32 × z_M) → Option (Int32 × z_M)) → (z_M → Option (Int32 × z_M)) → Option (Int32 × z_M) := fun q kb kx =>
  if x5 ≤ q.1 then (kx q.2) else (z_gd (z_inb x6 128) (z_gd (z_inb q.1 128) (z_lt ((z_gI q.2 17 x6.toNatClampNeg) &&& ((z_gI q.2 18 q.1.toNatClampNeg) ^^^ (-1))) (fun v10 => z_gd (z_inb q.1 128) (z_gd (z_inb x6 128) (if ((z_gI q.2 18 q.1.toNatClampNeg) &&& ((z_gI q.2 17 x6.toNatClampNeg) ^^^ (-1))) = 0 then (z_lp (b_X10_rank_104 x3 x4 x5 x6 q.1 v10 1 q.2) z_F (0, 0) (fun t23 => if (t23 - t23 / 2 * 2) = 0 then (z_gd (z_inb ((40 * x6) + q.1) 1600) (z_lt (z_sI q.2 19 ((40 * x6) + q.1).toNatClampNeg 1) (fun u26 => kb (q.1 + 1, u26)))) else (z_gd (z_inb ((40 * x6) + q.1) 1600) (z_lt (z_sI q.2 19 ((40 * x6) + q.1).toNatClampNeg (x3 - 1)) (fun u28 => kb (q.1 + 1, u28)))))) else (z_lp (b_X10_rank_104 x3 x4 x5 x6 q.1 v10 0 q.2) z_F (0, 0) (fun t29 => z_gd (z_inb ((40 * x6) + q.1) 1600) (z_lt (z_sI q.2 19 ((40 * x6) + q.1).toNatClampNeg 0) (fun u31 => kb (q.1 + 1, u31)))))))))))
def b_X10_rank_35 (x3 : Int32) (x4 : Int32) (x5 : Int32) : (Int32 × z_M) → ((Int32 × z_M) → Option (Int32 × z_M)) → (z_M → Option (Int32 × z_M)) → Option (Int32 × z_M) := fun q kb kx =>
  if x4 ≤ q.1 then (kx q.2) else (z_lp (b_X10_rank_45 x3 x4 x5 q.1) z_F (0, q.2) (fun t32 => kb (q.1 + 1, t32)))
def f_X10_rank (a1 : Int32) (a2 : Int32) (a3 : Int32) (u : z_M) : Option (Int32 × z_M) :=
  if a2 = 0 then (some (0, u)) else (z_b2 (f_X10_layFaces 17 128 a1 a2 u) (fun r2 u3 => z_b2 (f_X10_layFaces 18 128 a1 (a2 - 1) u3) (fun r4 u5 => z_lp (b_X10_rank_35 a3 r2 r4) z_F (0, u5) (fun t33 => z_b2 (f_X10_reduced r2 r4 a3 t33) (fun r34 u35 => some (r34, u35))))))
set_option maxRecDepth 20000 in
set_option maxHeartbeats 4000000 in
theorem wb_X10_rank_104 {p : Program} {l : Launch} {e : Env} {R : Room} {s : State} {m : MethodId} {args : Array Value} {below : List Frame} {meth : Method} {c : Code} {g : z_G} {u : z_M} {res : Int32 × z_M} (hR : R = z_rm 6) (X : z_X p R s m args meth c cX10_rank 12 RX10 wsX10_rank (some .int) g z_shR) (x3 : Int32) (x4 : Int32) (x5 : Int32) (x6 : Int32) (x7 : Int32) (x8 : Int32) (x9 : Int32) (q : Int32 × Int32) (kb : (Int32 × Int32) → Option (Int32 × z_M)) (kx : Int32 → Option (Int32 × z_M)) (hkb : ∀ q, kb q = some res → z_V p l e R s m args below meth c 12 g z_shR (MQ below (z_Qc g z_shR (fun v u' => v = some (.int res.1) ∧ u' = res.2)) args s 0 0 (z_A g z_shR)) 104 [(0, .ref (z_ad g 0)), (3, .int x3), (4, .int x4), (5, .int x5), (6, .int x6), (7, .int x7), (8, .int x8), (9, .int x9), (10, .int q.1), (11, .int q.2)] [] u) (hkx : ∀ t, kx t = some res → z_V p l e R s m args below meth c 12 g z_shR (MQ below (z_Qc g z_shR (fun v u' => v = some (.int res.1) ∧ u' = res.2)) args s 0 0 (z_A g z_shR)) 158 [(0, .ref (z_ad g 0)), (3, .int x3), (4, .int x4), (5, .int x5), (6, .int x6), (7, .int x7), (9, .int x9), (10, .int t)] [] u) (h : b_X10_rank_104 x3 x4 x5 x6 x7 x8 x9 u q kb kx = some res) : z_V p l e R s m args below meth c 12 g z_shR (MQ below (z_Qc g z_shR (fun v u' => v = some (.int res.1) ∧ u' = res.2)) args s 0 0 (z_A g z_shR)) 104 [(0, .ref (z_ad g 0)), (3, .int x3), (4, .int x4), (5, .int x5), (6, .int x6), (7, .int x7), (8, .int x8), (9, .int x9), (10, .int q.1), (11, .int q.2)] [] u := by
  unfold b_X10_rank_104 at h
  refine z_iload X 9 dX10_rank_104 rfl (z_bipush X (v := 9) dX10_rank_106 (by decide) (z_icmp_ge X 158 dX10_rank_108 (by decide) (fun c14 => ?_) (fun c14 => ?_)))
  · replace h := z_ip c14 h
    refine z_sub [0, 1, 2, 3, 4, 5, 7, 8] [(0, .ref (z_ad g 0)), (3, .int x3), (4, .int x4), (5, .int x5), (6, .int x6), (7, .int x7), (9, .int x9), (10, .int q.1)] rfl ?_
    exact hkx q.1 h
  · replace h := z_in c14 h
    refine z_iload X 7 dX10_rank_111 rfl (z_if_eq X 158 dX10_rank_113 (by decide) (fun c15 => ?_) (fun c15 => ?_))
    · replace h := z_ip c15 h
      refine z_sub [0, 1, 2, 3, 4, 5, 7, 8] [(0, .ref (z_ad g 0)), (3, .int x3), (4, .int x4), (5, .int x5), (6, .int x6), (7, .int x7), (9, .int x9), (10, .int q.1)] rfl ?_
      exact hkx q.1 h
    · replace h := z_in c15 h
      obtain ⟨r16, er16, h⟩ := z_bs h
      refine z_iload X 8 dX10_rank_116 rfl (z_iload X 6 dX10_rank_118 rfl (z_iload X 9 dX10_rank_120 rfl (z_callSi X (r := r16) (u1 := u) [.int x8, .int q.2] [.int q.1] (w_X10_has l g x8 q.2 u er16) gX10_rank_X10_has hy_X10_has.2 rfl (z_le1 hR (by decide)) (z_le2 hR (by decide) (by decide)) (Nat.le_of_ble_eq_true rfl) dX10_rank_122 (z_if_eq X 148 dX10_rank_125 (by decide) (fun c17 => ?_) (fun c17 => ?_)))))
      · replace h := z_ip c17 h
        obtain ⟨v18, ev18, h⟩ := z_ls h
        refine z_iconst X (v := 0) dX10_rank_148 (by decide) (z_iadd X dX10_rank_149 (z_ti ev18 (z_istore X [(10, .int v18), (0, .ref (z_ad g 0)), (3, .int x3), (4, .int x4), (5, .int x5), (6, .int x6), (7, .int x7), (8, .int x8), (9, .int x9), (11, .int q.2)] dX10_rank_150 (by decide) rfl (z_iinc X (v := q.2 + 1) 9 [(11, .int (q.2 + 1)), (10, .int v18), (0, .ref (z_ad g 0)), (3, .int x3), (4, .int x4), (5, .int x5), (6, .int x6), (7, .int x7), (8, .int x8), (9, .int x9)] dX10_rank_152 rfl rfl (by decide) rfl (z_goto X 104 dX10_rank_155 (by decide) (z_sub [2, 3, 4, 5, 6, 7, 8, 9, 1, 0] [(0, .ref (z_ad g 0)), (3, .int x3), (4, .int x4), (5, .int x5), (6, .int x6), (7, .int x7), (8, .int x8), (9, .int x9), (10, .int v18), (11, .int (q.2 + 1))] rfl ?_))))))
        exact hkb (v18, q.2 + 1) h
      · replace h := z_in c17 h
        obtain ⟨r19, er19, h⟩ := z_bs h
        obtain ⟨b20, h⟩ := z_gs h
        obtain ⟨r21, er21, h⟩ := z_bs h
        obtain ⟨v22, ev22, h⟩ := z_ls h
        refine z_aload_n X 0 dX10_rank_128 rfl rfl (z_iload X 9 dX10_rank_129 rfl (z_callVi X (r := r19) (u1 := u) [.int q.2] [.int q.1] (w_X10_below l g q.2 u er19) z_r0 rfl gX10_rank_X10_below hy_X10_below rfl (z_le1 hR (by decide)) (z_le2 hR (by decide) (by decide)) (Nat.le_of_ble_eq_true rfl) dX10_rank_131 (z_aload_n X 0 dX10_rank_134 rfl rfl (z_getR X (k0 := 25) z_r0 rfl in_X10_rank_X10 (by decide) rfl rfl lk_X10_rank_67 dX10_rank_135 (z_iload X 4 dX10_rank_138 rfl (z_iald X z_r17 (z_inS b20) dX10_rank_140 (z_iand X dX10_rank_141 (z_callSi X (r := r21) (u1 := u) [.int (r19 &&& (z_gI u 17 x6.toNatClampNeg))] [.int q.1] (w_X10_bits l g (r19 &&& (z_gI u 17 x6.toNatClampNeg)) u er21) gX10_rank_X10_bits hy_X10_bits.2 rfl (z_le1 hR (by decide)) (z_le2 hR (by decide) (by decide)) (Nat.le_of_ble_eq_true rfl) dX10_rank_142 (z_goto X 149 dX10_rank_145 (by decide) (z_iadd X dX10_rank_149 (z_ti ev22 (z_istore X [(10, .int v22), (0, .ref (z_ad g 0)), (3, .int x3), (4, .int x4), (5, .int x5), (6, .int x6), (7, .int x7), (8, .int x8), (9, .int x9), (11, .int q.2)] dX10_rank_150 (by decide) rfl (z_iinc X (v := q.2 + 1) 9 [(11, .int (q.2 + 1)), (10, .int v22), (0, .ref (z_ad g 0)), (3, .int x3), (4, .int x4), (5, .int x5), (6, .int x6), (7, .int x7), (8, .int x8), (9, .int x9)] dX10_rank_152 rfl rfl (by decide) rfl (z_goto X 104 dX10_rank_155 (by decide) (z_sub [2, 3, 4, 5, 6, 7, 8, 9, 1, 0] [(0, .ref (z_ad g 0)), (3, .int x3), (4, .int x4), (5, .int x5), (6, .int x6), (7, .int x7), (8, .int x8), (9, .int x9), (10, .int v22), (11, .int (q.2 + 1))] rfl ?_)))))))))))))))
        exact hkb (v22, q.2 + 1) h
set_option maxRecDepth 20000 in
set_option maxHeartbeats 4000000 in
theorem wb_X10_rank_45 {p : Program} {l : Launch} {e : Env} {R : Room} {s : State} {m : MethodId} {args : Array Value} {below : List Frame} {meth : Method} {c : Code} {g : z_G} {u : z_M} {res : Int32 × z_M} (hR : R = z_rm 6) (X : z_X p R s m args meth c cX10_rank 12 RX10 wsX10_rank (some .int) g z_shR) (x3 : Int32) (x4 : Int32) (x5 : Int32) (x6 : Int32) (q : Int32 × z_M) (kb : (Int32 × z_M) → Option (Int32 × z_M)) (kx : z_M → Option (Int32 × z_M)) (hkb : ∀ q, kb q = some res → z_V p l e R s m args below meth c 12 g z_shR (MQ below (z_Qc g z_shR (fun v u' => v = some (.int res.1) ∧ u' = res.2)) args s 0 0 (z_A g z_shR)) 45 [(0, .ref (z_ad g 0)), (3, .int x3), (4, .int x4), (5, .int x5), (6, .int x6), (7, .int q.1)] [] q.2) (hkx : ∀ t, kx t = some res → z_V p l e R s m args below meth c 12 g z_shR (MQ below (z_Qc g z_shR (fun v u' => v = some (.int res.1) ∧ u' = res.2)) args s 0 0 (z_A g z_shR)) 200 [(0, .ref (z_ad g 0)), (3, .int x3), (4, .int x4), (5, .int x5), (6, .int x6)] [] t) (h : b_X10_rank_45 x3 x4 x5 x6 q kb kx = some res) : z_V p l e R s m args below meth c 12 g z_shR (MQ below (z_Qc g z_shR (fun v u' => v = some (.int res.1) ∧ u' = res.2)) args s 0 0 (z_A g z_shR)) 45 [(0, .ref (z_ad g 0)), (3, .int x3), (4, .int x4), (5, .int x5), (6, .int x6), (7, .int q.1)] [] q.2 := by
  unfold b_X10_rank_45 at h
  refine z_iload X 5 dX10_rank_45 rfl (z_iload X 3 dX10_rank_47 rfl (z_icmp_ge X 200 dX10_rank_49 (by decide) (fun c7 => ?_) (fun c7 => ?_)))
  · replace h := z_ip c7 h
    refine z_sub [0, 1, 2, 3, 4] [(0, .ref (z_ad g 0)), (3, .int x3), (4, .int x4), (5, .int x5), (6, .int x6)] rfl ?_
    exact hkx q.2 h
  · replace h := z_in c7 h
    obtain ⟨b8, h⟩ := z_gs h
    obtain ⟨b9, h⟩ := z_gs h
    obtain ⟨v10, ev10, h⟩ := z_ls h
    obtain ⟨b11, h⟩ := z_gs h
    obtain ⟨b12, h⟩ := z_gs h
    refine z_aload_n X 0 dX10_rank_52 rfl rfl (z_getR X (k0 := 25) z_r0 rfl in_X10_rank_X10 (by decide) rfl rfl lk_X10_rank_67 dX10_rank_53 (z_iload X 4 dX10_rank_56 rfl (z_iald X z_r17 (z_inS b8) dX10_rank_58 (z_aload_n X 0 dX10_rank_59 rfl rfl (z_getR X (k0 := 26) z_r0 rfl in_X10_rank_X10 (by decide) rfl rfl lk_X10_rank_70 dX10_rank_60 (z_iload X 5 dX10_rank_63 rfl (z_iald X z_r18 (z_inS b9) dX10_rank_65 (z_iconst X (v := (-1)) dX10_rank_66 (by decide) (z_ixor X dX10_rank_67 (z_iand X dX10_rank_68 (z_ti ev10 (z_istore X [(8, .int v10), (0, .ref (z_ad g 0)), (3, .int x3), (4, .int x4), (5, .int x5), (6, .int x6), (7, .int q.1)] dX10_rank_69 (by decide) rfl (z_aload_n X 1 dX10_rank_71 rfl rfl (z_getR X (k0 := 26) z_r0 rfl in_X10_rank_X10 (by decide) rfl rfl lk_X10_rank_70 dX10_rank_72 (z_iload X 6 dX10_rank_75 rfl (z_iald X z_r18 (z_inS b11) dX10_rank_77 (z_aload_n X 1 dX10_rank_78 rfl rfl (z_getR X (k0 := 25) z_r0 rfl in_X10_rank_X10 (by decide) rfl rfl lk_X10_rank_67 dX10_rank_79 (z_iload X 5 dX10_rank_82 rfl (z_iald X z_r17 (z_inS b12) dX10_rank_84 (z_iconst X (v := (-1)) dX10_rank_85 (by decide) (z_ixor X dX10_rank_86 (z_iand X dX10_rank_87 (z_if_ne X 95 dX10_rank_88 (by decide) (fun c13 => ?_) (fun c13 => ?_)))))))))))))))))))))))))
    · replace h := z_in c13 h
      refine z_iconst X (v := 0) dX10_rank_95 (by decide) (z_istore X [(9, .int 0), (8, .int v10), (0, .ref (z_ad g 0)), (3, .int x3), (4, .int x4), (5, .int x5), (6, .int x6), (7, .int q.1)] dX10_rank_96 (by decide) rfl (z_iconst X (v := 0) dX10_rank_98 (by decide) (z_istore X [(10, .int 0), (9, .int 0), (8, .int v10), (0, .ref (z_ad g 0)), (3, .int x3), (4, .int x4), (5, .int x5), (6, .int x6), (7, .int q.1)] dX10_rank_99 (by decide) rfl (z_iconst X (v := 0) dX10_rank_101 (by decide) (z_istore X [(11, .int 0), (10, .int 0), (9, .int 0), (8, .int v10), (0, .ref (z_ad g 0)), (3, .int x3), (4, .int x4), (5, .int x5), (6, .int x6), (7, .int q.1)] dX10_rank_102 (by decide) rfl (z_sub [4, 5, 6, 7, 8, 9, 3, 2, 1, 0] [(0, .ref (z_ad g 0)), (3, .int x3), (4, .int x4), (5, .int x5), (6, .int x6), (7, .int q.1), (8, .int v10), (9, .int 0), (10, .int 0), (11, .int 0)] rfl ?_))))))
      have hw := z_lp_w (fun q9 kb9 kx9 h1 h2 h3 => wb_X10_rank_104 (l := l) (e := e) (below := below) (u := q.2) hR X x3 x4 x5 x6 q.1 v10 0 q9 kb9 kx9 h1 h2 h3) z_F _ _ h
      refine hw (fun t29 h => ?_)
      obtain ⟨b30, h⟩ := z_gs h
      obtain ⟨u31, eu31, h⟩ := z_ls h
      refine z_aload_n X 0 dX10_rank_158 rfl rfl (z_getR X (k0 := 27) z_r0 rfl in_X10_rank_X10 (by decide) rfl rfl lk_X10_rank_73 dX10_rank_159 (z_bipush X (v := 40) dX10_rank_162 (by decide) (z_iload X 4 dX10_rank_164 rfl (z_imul X dX10_rank_166 (z_iload X 5 dX10_rank_167 rfl (z_iadd X dX10_rank_169 (z_iload X 6 dX10_rank_170 rfl (z_if_neF X 179 dX10_rank_172 (by decide) (by decide) (z_iconst X (v := 0) dX10_rank_175 (by decide) (z_goto X 193 dX10_rank_176 (by decide) (z_iast X z_r19 (z_inS b30) dX10_rank_193 (z_nm eu31 (z_iinc X (v := q.1 + 1) 5 [(7, .int (q.1 + 1)), (0, .ref (z_ad g 0)), (3, .int x3), (4, .int x4), (5, .int x5), (6, .int x6), (9, .int 0), (10, .int t29)] dX10_rank_194 rfl rfl (by decide) rfl (z_goto X 45 dX10_rank_197 (by decide) (z_sub [1, 2, 3, 4, 5, 0] [(0, .ref (z_ad g 0)), (3, .int x3), (4, .int x4), (5, .int x5), (6, .int x6), (7, .int (q.1 + 1))] rfl ?_)))))))))))))))
      exact hkb (q.1 + 1, u31) h
    · replace h := z_ip c13 h
      refine z_iconst X (v := 1) dX10_rank_91 (by decide) (z_goto X 96 dX10_rank_92 (by decide) (z_istore X [(9, .int 1), (8, .int v10), (0, .ref (z_ad g 0)), (3, .int x3), (4, .int x4), (5, .int x5), (6, .int x6), (7, .int q.1)] dX10_rank_96 (by decide) rfl (z_iconst X (v := 0) dX10_rank_98 (by decide) (z_istore X [(10, .int 0), (9, .int 1), (8, .int v10), (0, .ref (z_ad g 0)), (3, .int x3), (4, .int x4), (5, .int x5), (6, .int x6), (7, .int q.1)] dX10_rank_99 (by decide) rfl (z_iconst X (v := 0) dX10_rank_101 (by decide) (z_istore X [(11, .int 0), (10, .int 0), (9, .int 1), (8, .int v10), (0, .ref (z_ad g 0)), (3, .int x3), (4, .int x4), (5, .int x5), (6, .int x6), (7, .int q.1)] dX10_rank_102 (by decide) rfl (z_sub [4, 5, 6, 7, 8, 9, 3, 2, 1, 0] [(0, .ref (z_ad g 0)), (3, .int x3), (4, .int x4), (5, .int x5), (6, .int x6), (7, .int q.1), (8, .int v10), (9, .int 1), (10, .int 0), (11, .int 0)] rfl ?_)))))))
      have hw := z_lp_w (fun q9 kb9 kx9 h1 h2 h3 => wb_X10_rank_104 (l := l) (e := e) (below := below) (u := q.2) hR X x3 x4 x5 x6 q.1 v10 1 q9 kb9 kx9 h1 h2 h3) z_F _ _ h
      refine hw (fun t23 h => ?_)
      refine z_aload_n X 0 dX10_rank_158 rfl rfl (z_getR X (k0 := 27) z_r0 rfl in_X10_rank_X10 (by decide) rfl rfl lk_X10_rank_73 dX10_rank_159 (z_bipush X (v := 40) dX10_rank_162 (by decide) (z_iload X 4 dX10_rank_164 rfl (z_imul X dX10_rank_166 (z_iload X 5 dX10_rank_167 rfl (z_iadd X dX10_rank_169 (z_iload X 6 dX10_rank_170 rfl (z_if_neT X 179 dX10_rank_172 (by decide) (by decide) (z_iload X 7 dX10_rank_179 rfl (z_iconst X (v := 2) dX10_rank_181 (by decide) (z_irem X dX10_rank_182 (by decide) (z_if_ne X 190 dX10_rank_183 (by decide) (fun c24 => ?_) (fun c24 => ?_)))))))))))))
      · replace h := z_in c24 h
        obtain ⟨b27, h⟩ := z_gs h
        obtain ⟨u28, eu28, h⟩ := z_ls h
        refine z_iload_n X 1 dX10_rank_190 rfl rfl (z_iconst X (v := 1) dX10_rank_191 (by decide) (z_isub X dX10_rank_192 (z_iast X z_r19 (z_inS b27) dX10_rank_193 (z_nm eu28 (z_iinc X (v := q.1 + 1) 5 [(7, .int (q.1 + 1)), (0, .ref (z_ad g 0)), (3, .int x3), (4, .int x4), (5, .int x5), (6, .int x6), (9, .int 1), (10, .int t23)] dX10_rank_194 rfl rfl (by decide) rfl (z_goto X 45 dX10_rank_197 (by decide) (z_sub [1, 2, 3, 4, 5, 0] [(0, .ref (z_ad g 0)), (3, .int x3), (4, .int x4), (5, .int x5), (6, .int x6), (7, .int (q.1 + 1))] rfl ?_)))))))
        exact hkb (q.1 + 1, u28) h
      · replace h := z_ip c24 h
        obtain ⟨b25, h⟩ := z_gs h
        obtain ⟨u26, eu26, h⟩ := z_ls h
        refine z_iconst X (v := 1) dX10_rank_186 (by decide) (z_goto X 193 dX10_rank_187 (by decide) (z_iast X z_r19 (z_inS b25) dX10_rank_193 (z_nm eu26 (z_iinc X (v := q.1 + 1) 5 [(7, .int (q.1 + 1)), (0, .ref (z_ad g 0)), (3, .int x3), (4, .int x4), (5, .int x5), (6, .int x6), (9, .int 1), (10, .int t23)] dX10_rank_194 rfl rfl (by decide) rfl (z_goto X 45 dX10_rank_197 (by decide) (z_sub [1, 2, 3, 4, 5, 0] [(0, .ref (z_ad g 0)), (3, .int x3), (4, .int x4), (5, .int x5), (6, .int x6), (7, .int (q.1 + 1))] rfl ?_))))))
        exact hkb (q.1 + 1, u26) h
set_option maxRecDepth 20000 in
set_option maxHeartbeats 4000000 in
theorem wb_X10_rank_35 {p : Program} {l : Launch} {e : Env} {R : Room} {s : State} {m : MethodId} {args : Array Value} {below : List Frame} {meth : Method} {c : Code} {g : z_G} {u : z_M} {res : Int32 × z_M} (hR : R = z_rm 6) (X : z_X p R s m args meth c cX10_rank 12 RX10 wsX10_rank (some .int) g z_shR) (x3 : Int32) (x4 : Int32) (x5 : Int32) (q : Int32 × z_M) (kb : (Int32 × z_M) → Option (Int32 × z_M)) (kx : z_M → Option (Int32 × z_M)) (hkb : ∀ q, kb q = some res → z_V p l e R s m args below meth c 12 g z_shR (MQ below (z_Qc g z_shR (fun v u' => v = some (.int res.1) ∧ u' = res.2)) args s 0 0 (z_A g z_shR)) 35 [(0, .ref (z_ad g 0)), (3, .int x3), (4, .int x4), (5, .int x5), (6, .int q.1)] [] q.2) (hkx : ∀ t, kx t = some res → z_V p l e R s m args below meth c 12 g z_shR (MQ below (z_Qc g z_shR (fun v u' => v = some (.int res.1) ∧ u' = res.2)) args s 0 0 (z_A g z_shR)) 206 [(0, .ref (z_ad g 0)), (3, .int x3), (4, .int x4), (5, .int x5)] [] t) (h : b_X10_rank_35 x3 x4 x5 q kb kx = some res) : z_V p l e R s m args below meth c 12 g z_shR (MQ below (z_Qc g z_shR (fun v u' => v = some (.int res.1) ∧ u' = res.2)) args s 0 0 (z_A g z_shR)) 35 [(0, .ref (z_ad g 0)), (3, .int x3), (4, .int x4), (5, .int x5), (6, .int q.1)] [] q.2 := by
  unfold b_X10_rank_35 at h
  refine z_iload X 4 dX10_rank_35 rfl (z_iload X 2 dX10_rank_37 rfl (z_icmp_ge X 206 dX10_rank_39 (by decide) (fun c6 => ?_) (fun c6 => ?_)))
  · replace h := z_ip c6 h
    refine z_sub [0, 1, 2, 3] [(0, .ref (z_ad g 0)), (3, .int x3), (4, .int x4), (5, .int x5)] rfl ?_
    exact hkx q.2 h
  · replace h := z_in c6 h
    refine z_iconst X (v := 0) dX10_rank_42 (by decide) (z_istore X [(7, .int 0), (0, .ref (z_ad g 0)), (3, .int x3), (4, .int x4), (5, .int x5), (6, .int q.1)] dX10_rank_43 (by decide) rfl (z_sub [1, 2, 3, 4, 5, 0] [(0, .ref (z_ad g 0)), (3, .int x3), (4, .int x4), (5, .int x5), (6, .int q.1), (7, .int 0)] rfl ?_))
    have hw := z_lp_w (fun q9 kb9 kx9 h1 h2 h3 => wb_X10_rank_45 (l := l) (e := e) (below := below) (u := q.2) hR X x3 x4 x5 q.1 q9 kb9 kx9 h1 h2 h3) z_F _ _ h
    refine hw (fun t32 h => ?_)
    refine z_iinc X (v := q.1 + 1) 4 [(6, .int (q.1 + 1)), (0, .ref (z_ad g 0)), (3, .int x3), (4, .int x4), (5, .int x5)] dX10_rank_200 rfl rfl (by decide) rfl (z_goto X 35 dX10_rank_203 (by decide) (z_sub [1, 2, 3, 4, 0] [(0, .ref (z_ad g 0)), (3, .int x3), (4, .int x4), (5, .int x5), (6, .int (q.1 + 1))] rfl ?_))
    exact hkb (q.1 + 1, t32) h
set_option maxRecDepth 20000 in
set_option maxHeartbeats 4000000 in
theorem w_X10_rank (l : Launch) (g : z_G) (a1 : Int32) (a2 : Int32) (a3 : Int32) (u : z_M) {res : Int32 × z_M} (h : f_X10_rank a1 a2 a3 u = some res) : z_C l g z_shR yX10_rank wsX10_rank 6 [.ref (z_ad g 0), .int a1, .int a2, .int a3] u (fun v u' => v = some (.int res.1) ∧ u' = res.2) := by
  refine z_C.mk (lv := [(0, .ref (z_ad g 0)), (1, .int a1), (2, .int a2), (3, .int a3)]) (cc := cX10_rank) (nL := 12) (rt := (some .int)) rfl (by decide) (Nat.le_of_ble_eq_true rfl) rfl (fun p e R s m args below meth c hR X => ?_)
  unfold f_X10_rank at h
  refine z_iload_n X 2 dX10_rank_0 rfl rfl (z_if_ne X 6 dX10_rank_1 (by decide) (fun c1 => ?_) (fun c1 => ?_))
  · replace h := z_in c1 h
    obtain ⟨r2, u3, er2, h⟩ := z_b2s h
    obtain ⟨r4, u5, er4, h⟩ := z_b2s h
    refine z_aload_n X 0 dX10_rank_6 rfl rfl (z_aload_n X 0 dX10_rank_7 rfl rfl (z_getR X (k0 := 25) z_r0 rfl in_X10_rank_X10 (by decide) rfl rfl lk_X10_rank_67 dX10_rank_8 (z_iload_n X 1 dX10_rank_11 rfl rfl (z_iload_n X 2 dX10_rank_12 rfl rfl (z_callVi X (r := r2) (u1 := u3) [.ref (z_ad g 17), .int a1, .int a2] [] (w_X10_layFaces l g 17 128 a1 a2 z_r17 u er2) z_r0 rfl gX10_rank_X10_layFaces hy_X10_layFaces rfl (z_le1 hR (by decide)) (z_le2 hR (by decide) (by decide)) (Nat.le_of_ble_eq_true rfl) dX10_rank_13 (z_istore X [(4, .int r2), (0, .ref (z_ad g 0)), (1, .int a1), (2, .int a2), (3, .int a3)] dX10_rank_16 (by decide) rfl (z_aload_n X 1 dX10_rank_18 rfl rfl (z_aload_n X 1 dX10_rank_19 rfl rfl (z_getR X (k0 := 26) z_r0 rfl in_X10_rank_X10 (by decide) rfl rfl lk_X10_rank_70 dX10_rank_20 (z_iload_n X 2 dX10_rank_23 rfl rfl (z_iload_n X 3 dX10_rank_24 rfl rfl (z_iconst X (v := 1) dX10_rank_25 (by decide) (z_isub X dX10_rank_26 (z_callVi X (r := r4) (u1 := u5) [.ref (z_ad g 18), .int a1, .int (a2 - 1)] [] (w_X10_layFaces l g 18 128 a1 (a2 - 1) z_r18 u3 er4) z_r0 rfl gX10_rank_X10_layFaces hy_X10_layFaces rfl (z_le1 hR (by decide)) (z_le2 hR (by decide) (by decide)) (Nat.le_of_ble_eq_true rfl) dX10_rank_27 (z_istore X [(5, .int r4), (4, .int r2), (0, .ref (z_ad g 0)), (1, .int a1), (2, .int a2), (3, .int a3)] dX10_rank_30 (by decide) rfl (z_iconst X (v := 0) dX10_rank_32 (by decide) (z_istore X [(6, .int 0), (5, .int r4), (4, .int r2), (0, .ref (z_ad g 0)), (1, .int a1), (2, .int a2), (3, .int a3)] dX10_rank_33 (by decide) rfl (z_sub [3, 6, 2, 1, 0] [(0, .ref (z_ad g 0)), (3, .int a3), (4, .int r2), (5, .int r4), (6, .int 0)] rfl ?_))))))))))))))))))
    have hw := z_lp_w (fun q9 kb9 kx9 h1 h2 h3 => wb_X10_rank_35 (l := l) (e := e) (below := below) (u := u5) hR X a3 r2 r4 q9 kb9 kx9 h1 h2 h3) z_F _ _ h
    refine hw (fun t33 h => ?_)
    obtain ⟨r34, u35, er34, h⟩ := z_b2s h
    refine z_aload_n X 0 dX10_rank_206 rfl rfl (z_iload X 2 dX10_rank_207 rfl (z_iload X 3 dX10_rank_209 rfl (z_iload_n X 1 dX10_rank_211 rfl rfl (z_callVi X (r := r34) (u1 := u35) [.int r2, .int r4, .int a3] [] (w_X10_reduced l g r2 r4 a3 t33 er34) z_r0 rfl gX10_rank_X10_reduced hy_X10_reduced rfl (z_le1 hR (by decide)) (z_le2 hR (by decide) (by decide)) (Nat.le_of_ble_eq_true rfl) dX10_rank_212 ?_))))
    cases h; exact z_iret X rfl dX10_rank_215 ⟨rfl, rfl⟩
  · replace h := z_ip c1 h
    refine z_iconst X (v := 0) dX10_rank_4 (by decide) ?_
    cases h; exact z_iret X rfl dX10_rank_5 ⟨rfl, rfl⟩

theorem lk_X10_holes_82 : (Cond.fieldLink RX10 82 RX10 (TX10 0).2.1 (TX10 0).2.2.1) ∈ wsX10_holes := by decide +kernel
theorem in_X10_holes_X10 : ∀ w ∈ u_ws RX10 TX10 30, w ∈ wsX10_holes := fun _ h => List.mem_cons_of_mem _ (List.mem_append_right _ h)
theorem lk_X10_holes_67 : (Cond.fieldLink RX10 67 RX10 (TX10 25).2.1 (TX10 25).2.2.1) ∈ wsX10_holes := by decide +kernel
theorem hy_X10_rank : yX10_rank.cls = RX10 ∧ yX10_rank.cls ≠ "java/lang/invoke/MethodHandle" ∧ yX10_rank.cls ≠ "java/lang/invoke/VarHandle" ∧ (parseMethodDescriptor yX10_rank.desc).map (fun d => d.parameters.length) = some 3 := by decide +kernel
def j_X10_holes_j43 (x1 : Int32) (x2 : Int32) (x3 : Int32) (x4 : Int32) (x90 : Int32) (x91 : Int32) (x92 : Int32) (w : z_M) : Option (Int32 × z_M) :=
  Option.bind (f_X10_noInner x92 x91 x90 w) (fun r3 => if 0 ≤ r3 then (Option.bind (f_X10_inner x1 x2 w) (fun r5 => Option.bind (f_X10_sizeOf x3) (fun r6 => z_b2 (f_X10_layFaces 17 128 r5 r6 w) (fun r7 u8 => z_b2 (f_X10_rank r5 r6 x4 u8) (fun r9 u10 => z_b2 (f_X10_rank r5 (r6 + 1) x4 u10) (fun r11 u12 => some ((r7 - r9) - r11, u12))))))) else (some (r3, w)))
def j_X10_holes_j42 (x1 : Int32) (x2 : Int32) (x3 : Int32) (x4 : Int32) (x90 : Int32) (x91 : Int32) (w : z_M) : Option (Int32 × z_M) :=
  j_X10_holes_j43 x1 x2 x3 x4 0 x90 x91 w
def j_X10_holes_j38 (x1 : Int32) (x2 : Int32) (x3 : Int32) (x4 : Int32) (x90 : Int32) (x91 : Int32) (w : z_M) : Option (Int32 × z_M) :=
  j_X10_holes_j43 x1 x2 x3 x4 1 x90 x91 w
def f_X10_holes (a1 : Int32) (a2 : Int32) (a3 : Int32) (a4 : Int32) (u : z_M) : Option (Int32 × z_M) :=
  z_lt (z_sI u 0 0 0) (fun u1 => if a3 < (-1) then (j_X10_holes_j42 a1 a2 a3 a4 a2 a1 u1) else (if a4 = 2 then (j_X10_holes_j38 a1 a2 a3 a4 a2 a1 u1) else (if a4 = 3 then (j_X10_holes_j38 a1 a2 a3 a4 a2 a1 u1) else (if a4 = 5 then (j_X10_holes_j38 a1 a2 a3 a4 a2 a1 u1) else (if a4 = 7 then (j_X10_holes_j38 a1 a2 a3 a4 a2 a1 u1) else (j_X10_holes_j42 a1 a2 a3 a4 a2 a1 u1))))))
set_option maxRecDepth 20000 in
set_option maxHeartbeats 4000000 in
theorem wj_X10_holes_j43 {p : Program} {l : Launch} {e : Env} {R : Room} {s : State} {m : MethodId} {args : Array Value} {below : List Frame} {meth : Method} {c : Code} {g : z_G} {u : z_M} {res : Int32 × z_M} (hR : R = z_rm 7) (X : z_X p R s m args meth c cX10_holes 9 RX10 wsX10_holes (some .int) g z_shR) (x1 : Int32) (x2 : Int32) (x3 : Int32) (x4 : Int32) (x90 : Int32) (x91 : Int32) (x92 : Int32) (w : z_M) (h : j_X10_holes_j43 x1 x2 x3 x4 x90 x91 x92 w = some res) : z_V p l e R s m args below meth c 9 g z_shR (MQ below (z_Qc g z_shR (fun v u' => v = some (.int res.1) ∧ u' = res.2)) args s 0 0 (z_A g z_shR)) 43 [(0, .ref (z_ad g 0)), (1, .int x1), (2, .int x2), (3, .int x3), (4, .int x4)] [.int x90, .int x91, .int x92, .ref (z_ad g 0)] w := by
  unfold j_X10_holes_j43 at h
  obtain ⟨r3, er3, h⟩ := z_bs h
  refine z_callVi X (r := r3) (u1 := w) [.int x92, .int x91, .int x90] [] (w_X10_noInner l g x92 x91 x90 w er3) z_r0 rfl gX10_holes_X10_noInner hy_X10_noInner rfl (z_le1 hR (by decide)) (z_le2 hR (by decide) (by decide)) (Nat.le_of_ble_eq_true rfl) dX10_holes_43 (z_istore X [(5, .int r3), (0, .ref (z_ad g 0)), (1, .int x1), (2, .int x2), (3, .int x3), (4, .int x4)] dX10_holes_46 (by decide) rfl (z_iload X 0 dX10_holes_48 rfl (z_if_ge X 56 dX10_holes_50 (by decide) (fun c4 => ?_) (fun c4 => ?_))))
  · replace h := z_ip c4 h
    obtain ⟨r5, er5, h⟩ := z_bs h
    obtain ⟨r6, er6, h⟩ := z_bs h
    obtain ⟨r7, u8, er7, h⟩ := z_b2s h
    obtain ⟨r9, u10, er9, h⟩ := z_b2s h
    obtain ⟨r11, u12, er11, h⟩ := z_b2s h
    refine z_aload_n X 1 dX10_holes_56 rfl rfl (z_iload_n X 2 dX10_holes_57 rfl rfl (z_iload_n X 3 dX10_holes_58 rfl rfl (z_callVi X (r := r5) (u1 := w) [.int x1, .int x2] [] (w_X10_inner l g x1 x2 w er5) z_r0 rfl gX10_holes_X10_inner hy_X10_inner rfl (z_le1 hR (by decide)) (z_le2 hR (by decide) (by decide)) (Nat.le_of_ble_eq_true rfl) dX10_holes_59 (z_istore X [(6, .int r5), (5, .int r3), (0, .ref (z_ad g 0)), (1, .int x1), (2, .int x2), (3, .int x3), (4, .int x4)] dX10_holes_62 (by decide) rfl (z_iload_n X 5 dX10_holes_64 rfl rfl (z_callSi X (r := r6) (u1 := w) [.int x3] [] (w_X10_sizeOf l g x3 w er6) gX10_holes_X10_sizeOf hy_X10_sizeOf.2 rfl (z_le1 hR (by decide)) (z_le2 hR (by decide) (by decide)) (Nat.le_of_ble_eq_true rfl) dX10_holes_65 (z_istore X [(7, .int r6), (6, .int r5), (5, .int r3), (0, .ref (z_ad g 0)), (1, .int x1), (2, .int x2), (3, .int x3), (4, .int x4)] dX10_holes_68 (by decide) rfl (z_aload_n X 3 dX10_holes_70 rfl rfl (z_aload_n X 3 dX10_holes_71 rfl rfl (z_getR X (k0 := 25) z_r0 rfl in_X10_holes_X10 (by decide) rfl rfl lk_X10_holes_67 dX10_holes_72 (z_iload X 1 dX10_holes_75 rfl (z_iload X 0 dX10_holes_77 rfl (z_callVi X (r := r7) (u1 := u8) [.ref (z_ad g 17), .int r5, .int r6] [] (w_X10_layFaces l g 17 128 r5 r6 z_r17 w er7) z_r0 rfl gX10_holes_X10_layFaces hy_X10_layFaces rfl (z_le1 hR (by decide)) (z_le2 hR (by decide) (by decide)) (Nat.le_of_ble_eq_true rfl) dX10_holes_79 (z_istore X [(8, .int r7), (7, .int r6), (6, .int r5), (5, .int r3), (0, .ref (z_ad g 0)), (1, .int x1), (2, .int x2), (3, .int x3), (4, .int x4)] dX10_holes_82 (by decide) rfl (z_iload X 0 dX10_holes_84 rfl (z_aload_n X 4 dX10_holes_86 rfl rfl (z_iload X 2 dX10_holes_87 rfl (z_iload X 1 dX10_holes_89 rfl (z_iload X 8 dX10_holes_91 rfl (z_callVi X (r := r9) (u1 := u10) [.int r5, .int r6, .int x4] [.int r7] (w_X10_rank l g r5 r6 x4 u8 er9) z_r0 rfl gX10_holes_X10_rank hy_X10_rank rfl (z_le1 hR (by decide)) (z_le2 hR (by decide) (by decide)) (Nat.le_of_ble_eq_true rfl) dX10_holes_93 (z_isub X dX10_holes_96 (z_aload_n X 4 dX10_holes_97 rfl rfl (z_iload X 2 dX10_holes_98 rfl (z_iload X 1 dX10_holes_100 rfl (z_iconst X (v := 1) dX10_holes_102 (by decide) (z_iadd X dX10_holes_103 (z_iload X 8 dX10_holes_104 rfl (z_callVi X (r := r11) (u1 := u12) [.int r5, .int (r6 + 1), .int x4] [.int (r7 - r9)] (w_X10_rank l g r5 (r6 + 1) x4 u10 er11) z_r0 rfl gX10_holes_X10_rank hy_X10_rank rfl (z_le1 hR (by decide)) (z_le2 hR (by decide) (by decide)) (Nat.le_of_ble_eq_true rfl) dX10_holes_106 (z_isub X dX10_holes_109 ?_)))))))))))))))))))))))))))))
    cases h; exact z_iret X rfl dX10_holes_110 ⟨rfl, rfl⟩
  · replace h := z_in c4 h
    refine z_iload X 0 dX10_holes_53 rfl ?_
    cases h; exact z_iret X rfl dX10_holes_55 ⟨rfl, rfl⟩
set_option maxRecDepth 20000 in
set_option maxHeartbeats 4000000 in
theorem wj_X10_holes_j42 {p : Program} {l : Launch} {e : Env} {R : Room} {s : State} {m : MethodId} {args : Array Value} {below : List Frame} {meth : Method} {c : Code} {g : z_G} {u : z_M} {res : Int32 × z_M} (hR : R = z_rm 7) (X : z_X p R s m args meth c cX10_holes 9 RX10 wsX10_holes (some .int) g z_shR) (x1 : Int32) (x2 : Int32) (x3 : Int32) (x4 : Int32) (x90 : Int32) (x91 : Int32) (w : z_M) (h : j_X10_holes_j42 x1 x2 x3 x4 x90 x91 w = some res) : z_V p l e R s m args below meth c 9 g z_shR (MQ below (z_Qc g z_shR (fun v u' => v = some (.int res.1) ∧ u' = res.2)) args s 0 0 (z_A g z_shR)) 42 [(0, .ref (z_ad g 0)), (1, .int x1), (2, .int x2), (3, .int x3), (4, .int x4)] [.int x90, .int x91, .ref (z_ad g 0)] w := by
  unfold j_X10_holes_j42 at h
  refine z_iconst X (v := 0) dX10_holes_42 (by decide) ?_
  exact wj_X10_holes_j43 (u := w) hR X x1 x2 x3 x4 0 x90 x91 w h
set_option maxRecDepth 20000 in
set_option maxHeartbeats 4000000 in
theorem wj_X10_holes_j38 {p : Program} {l : Launch} {e : Env} {R : Room} {s : State} {m : MethodId} {args : Array Value} {below : List Frame} {meth : Method} {c : Code} {g : z_G} {u : z_M} {res : Int32 × z_M} (hR : R = z_rm 7) (X : z_X p R s m args meth c cX10_holes 9 RX10 wsX10_holes (some .int) g z_shR) (x1 : Int32) (x2 : Int32) (x3 : Int32) (x4 : Int32) (x90 : Int32) (x91 : Int32) (w : z_M) (h : j_X10_holes_j38 x1 x2 x3 x4 x90 x91 w = some res) : z_V p l e R s m args below meth c 9 g z_shR (MQ below (z_Qc g z_shR (fun v u' => v = some (.int res.1) ∧ u' = res.2)) args s 0 0 (z_A g z_shR)) 38 [(0, .ref (z_ad g 0)), (1, .int x1), (2, .int x2), (3, .int x3), (4, .int x4)] [.int x90, .int x91, .ref (z_ad g 0)] w := by
  unfold j_X10_holes_j38 at h
  refine z_iconst X (v := 1) dX10_holes_38 (by decide) (z_goto X 43 dX10_holes_39 (by decide) ?_)
  exact wj_X10_holes_j43 (u := w) hR X x1 x2 x3 x4 1 x90 x91 w h
set_option maxRecDepth 20000 in
set_option maxHeartbeats 4000000 in
theorem w_X10_holes (l : Launch) (g : z_G) (a1 : Int32) (a2 : Int32) (a3 : Int32) (a4 : Int32) (u : z_M) {res : Int32 × z_M} (h : f_X10_holes a1 a2 a3 a4 u = some res) : z_C l g z_shR yX10_holes wsX10_holes 7 [.ref (z_ad g 0), .int a1, .int a2, .int a3, .int a4] u (fun v u' => v = some (.int res.1) ∧ u' = res.2) := by
  refine z_C.mk (lv := [(0, .ref (z_ad g 0)), (1, .int a1), (2, .int a2), (3, .int a3), (4, .int a4)]) (cc := cX10_holes) (nL := 9) (rt := (some .int)) rfl (by decide) (Nat.le_of_ble_eq_true rfl) rfl (fun p e R s m args below meth c hR X => ?_)
  unfold f_X10_holes at h
  obtain ⟨u1, eu1, h⟩ := z_ls h
  refine z_aload_n X 0 dX10_holes_0 rfl rfl (z_iconst X (v := 0) dX10_holes_1 (by decide) (z_putI X (k0 := 0) (ty0 := tyX10) z_r0 rfl in_X10_holes_X10 tyX10_ok nmX10 (by decide) rfl rfl rfl rfl rfl lk_X10_holes_82 dX10_holes_2 (z_nm eu1 (z_aload_n X 0 dX10_holes_5 rfl rfl (z_iload_n X 1 dX10_holes_6 rfl rfl (z_iload_n X 2 dX10_holes_7 rfl rfl (z_iload_n X 3 dX10_holes_8 rfl rfl (z_iconst X (v := (-1)) dX10_holes_9 (by decide) (z_icmp_lt X 42 dX10_holes_10 (by decide) (fun c2 => ?_) (fun c2 => ?_))))))))))
  · replace h := z_ip c2 h
    exact wj_X10_holes_j42 (u := u1) hR X a1 a2 a3 a4 a2 a1 u1 h
  · replace h := z_in c2 h
    refine z_iload X 4 dX10_holes_13 rfl (z_iconst X (v := 2) dX10_holes_15 (by decide) (z_icmp_eq X 38 dX10_holes_16 (by decide) (fun c13 => ?_) (fun c13 => ?_)))
    · replace h := z_ip c13 h
      exact wj_X10_holes_j38 (u := u1) hR X a1 a2 a3 a4 a2 a1 u1 h
    · replace h := z_in c13 h
      refine z_iload X 4 dX10_holes_19 rfl (z_iconst X (v := 3) dX10_holes_21 (by decide) (z_icmp_eq X 38 dX10_holes_22 (by decide) (fun c14 => ?_) (fun c14 => ?_)))
      · replace h := z_ip c14 h
        exact wj_X10_holes_j38 (u := u1) hR X a1 a2 a3 a4 a2 a1 u1 h
      · replace h := z_in c14 h
        refine z_iload X 4 dX10_holes_25 rfl (z_iconst X (v := 5) dX10_holes_27 (by decide) (z_icmp_eq X 38 dX10_holes_28 (by decide) (fun c15 => ?_) (fun c15 => ?_)))
        · replace h := z_ip c15 h
          exact wj_X10_holes_j38 (u := u1) hR X a1 a2 a3 a4 a2 a1 u1 h
        · replace h := z_in c15 h
          refine z_iload X 4 dX10_holes_31 rfl (z_bipush X (v := 7) dX10_holes_33 (by decide) (z_icmp_ne X 42 dX10_holes_35 (by decide) (fun c16 => ?_) (fun c16 => ?_)))
          · replace h := z_in c16 h
            exact wj_X10_holes_j42 (u := u1) hR X a1 a2 a3 a4 a2 a1 u1 h
          · replace h := z_ip c16 h
            exact wj_X10_holes_j38 (u := u1) hR X a1 a2 a3 a4 a2 a1 u1 h

theorem lk_X10_isLaid_45 : (Cond.fieldLink RX10 45 RX10 (TX10 17).2.1 (TX10 17).2.2.1) ∈ wsX10_isLaid := by decide +kernel
theorem in_X10_isLaid_X10 : ∀ w ∈ u_ws RX10 TX10 30, w ∈ wsX10_isLaid := by decide +kernel
theorem hy_X10_chainSet : yX10_chainSet.cls = RX10 ∧ yX10_chainSet.cls ≠ "java/lang/invoke/MethodHandle" ∧ yX10_chainSet.cls ≠ "java/lang/invoke/VarHandle" ∧ (parseMethodDescriptor yX10_chainSet.desc).map (fun d => d.parameters.length) = some 1 := by decide +kernel
def b_X10_isLaid_25 (x1 : Int32) (x2 : Int32) (x4 : Int32) (u : z_M) : (Int32 × Int32) → ((Int32 × Int32) → Option (Int32)) → (Int32 → Option (Int32)) → Option (Int32) := fun q kb kx =>
  if x1 ≤ q.2 then (kx q.1) else (Option.bind (f_X10_chainSet q.2 u) (fun r6 => Option.bind (f_X10_chainSet x1 u) (fun r7 => z_lt (r6 &&& r7) (fun v8 => if q.1 = 0 then (Option.bind (f_X10_bits v8) (fun r10 => z_gd (z_inb x1 64) (if r10 = ((z_gI u 10 x1.toNatClampNeg) - 1) then (if (x4 &&& (v8 ^^^ (-1))) = 0 then (kb (1, q.2 + 1)) else (kb (0, q.2 + 1))) else (kb (0, q.2 + 1))))) else (kb (1, q.2 + 1))))))
def b_X10_isLaid_2 (x1 : Int32) (u : z_M) : Int32 → (Int32 → Option (Int32)) → (Unit → Option (Int32)) → Option (Int32) := fun q kb kx =>
  if x1 ≤ q then (kx ()) else (Option.bind (f_X10_chainSet q u) (fun r2 => Option.bind (f_X10_chainSet x1 u) (fun r3 => z_lt (r2 &&& r3) (fun v4 => z_lp (b_X10_isLaid_25 x1 q v4 u) z_F (0, 0) (fun t14 => if t14 = 0 then (some 0) else (kb (q + 1)))))))
def f_X10_isLaid (a1 : Int32) (u : z_M) : Option (Int32) :=
  z_lp (b_X10_isLaid_2 a1 u) z_F 0 (fun t16 => some 1)
set_option maxRecDepth 20000 in
set_option maxHeartbeats 4000000 in
theorem wb_X10_isLaid_25 {p : Program} {l : Launch} {e : Env} {R : Room} {s : State} {m : MethodId} {args : Array Value} {below : List Frame} {meth : Method} {c : Code} {g : z_G} {u : z_M} {res : Int32} (hR : R = z_rm 3) (X : z_X p R s m args meth c cX10_isLaid 7 RX10 wsX10_isLaid (some .boolean) g z_shR) (x1 : Int32) (x2 : Int32) (x4 : Int32) (q : Int32 × Int32) (kb : (Int32 × Int32) → Option (Int32)) (kx : Int32 → Option (Int32)) (hkb : ∀ q, kb q = some res → z_V p l e R s m args below meth c 7 g z_shR (MQ below (z_Qc g z_shR (fun v u' => v = some (.int res) ∧ u' = u)) args s 0 0 (z_A g z_shR)) 25 [(0, .ref (z_ad g 0)), (1, .int x1), (2, .int x2), (3, .int q.1), (4, .int x4), (5, .int q.2)] [] u) (hkx : ∀ t, kx t = some res → z_V p l e R s m args below meth c 7 g z_shR (MQ below (z_Qc g z_shR (fun v u' => v = some (.int res) ∧ u' = u)) args s 0 0 (z_A g z_shR)) 87 [(0, .ref (z_ad g 0)), (1, .int x1), (2, .int x2), (3, .int t)] [] u) (h : b_X10_isLaid_25 x1 x2 x4 u q kb kx = some res) : z_V p l e R s m args below meth c 7 g z_shR (MQ below (z_Qc g z_shR (fun v u' => v = some (.int res) ∧ u' = u)) args s 0 0 (z_A g z_shR)) 25 [(0, .ref (z_ad g 0)), (1, .int x1), (2, .int x2), (3, .int q.1), (4, .int x4), (5, .int q.2)] [] u := by
  unfold b_X10_isLaid_25 at h
  refine z_iload X 5 dX10_isLaid_25 rfl (z_iload_n X 1 dX10_isLaid_27 rfl rfl (z_icmp_ge X 87 dX10_isLaid_28 (by decide) (fun c5 => ?_) (fun c5 => ?_)))
  · replace h := z_ip c5 h
    refine z_sub [0, 1, 2, 3] [(0, .ref (z_ad g 0)), (1, .int x1), (2, .int x2), (3, .int q.1)] rfl ?_
    exact hkx q.1 h
  · replace h := z_in c5 h
    obtain ⟨r6, er6, h⟩ := z_bs h
    obtain ⟨r7, er7, h⟩ := z_bs h
    obtain ⟨v8, ev8, h⟩ := z_ls h
    refine z_aload_n X 0 dX10_isLaid_31 rfl rfl (z_iload X 5 dX10_isLaid_32 rfl (z_callVi X (r := r6) (u1 := u) [.int q.2] [] (w_X10_chainSet l g q.2 u er6) z_r0 rfl gX10_isLaid_X10_chainSet hy_X10_chainSet rfl (z_le1 hR (by decide)) (z_le2 hR (by decide) (by decide)) (Nat.le_of_ble_eq_true rfl) dX10_isLaid_34 (z_aload_n X 0 dX10_isLaid_37 rfl rfl (z_iload_n X 1 dX10_isLaid_38 rfl rfl (z_callVi X (r := r7) (u1 := u) [.int x1] [.int r6] (w_X10_chainSet l g x1 u er7) z_r0 rfl gX10_isLaid_X10_chainSet hy_X10_chainSet rfl (z_le1 hR (by decide)) (z_le2 hR (by decide) (by decide)) (Nat.le_of_ble_eq_true rfl) dX10_isLaid_39 (z_iand X dX10_isLaid_42 (z_ti ev8 (z_istore X [(6, .int v8), (0, .ref (z_ad g 0)), (1, .int x1), (2, .int x2), (3, .int q.1), (4, .int x4), (5, .int q.2)] dX10_isLaid_43 (by decide) rfl (z_iload_n X 4 dX10_isLaid_45 rfl rfl (z_if_ne X 75 dX10_isLaid_46 (by decide) (fun c9 => ?_) (fun c9 => ?_)))))))))))
    · replace h := z_in c9 h
      refine z_iconst X (v := 1) dX10_isLaid_75 (by decide) (z_goto X 80 dX10_isLaid_76 (by decide) (z_istore_n X [(3, .int 1), (6, .int v8), (0, .ref (z_ad g 0)), (1, .int x1), (2, .int x2), (4, .int x4), (5, .int q.2)] dX10_isLaid_80 rfl (by decide) rfl (z_iinc X (v := q.2 + 1) 6 [(5, .int (q.2 + 1)), (3, .int 1), (6, .int v8), (0, .ref (z_ad g 0)), (1, .int x1), (2, .int x2), (4, .int x4)] dX10_isLaid_81 rfl rfl (by decide) rfl (z_goto X 25 dX10_isLaid_84 (by decide) (z_sub [3, 4, 5, 1, 6, 0] [(0, .ref (z_ad g 0)), (1, .int x1), (2, .int x2), (3, .int 1), (4, .int x4), (5, .int (q.2 + 1))] rfl ?_)))))
      exact hkb (1, q.2 + 1) h
    · replace h := z_ip c9 h
      obtain ⟨r10, er10, h⟩ := z_bs h
      obtain ⟨b11, h⟩ := z_gs h
      refine z_iload X 0 dX10_isLaid_49 rfl (z_callSi X (r := r10) (u1 := u) [.int v8] [] (w_X10_bits l g v8 u er10) gX10_isLaid_X10_bits hy_X10_bits.2 rfl (z_le1 hR (by decide)) (z_le2 hR (by decide) (by decide)) (Nat.le_of_ble_eq_true rfl) dX10_isLaid_51 (z_aload_n X 1 dX10_isLaid_54 rfl rfl (z_getR X (k0 := 17) z_r0 rfl in_X10_isLaid_X10 (by decide) rfl rfl lk_X10_isLaid_45 dX10_isLaid_55 (z_iload_n X 2 dX10_isLaid_58 rfl rfl (z_iald X z_r10 (z_inS b11) dX10_isLaid_59 (z_iconst X (v := 1) dX10_isLaid_60 (by decide) (z_isub X dX10_isLaid_61 (z_icmp_ne X 79 dX10_isLaid_62 (by decide) (fun c12 => ?_) (fun c12 => ?_)))))))))
      · replace h := z_in c12 h
        refine z_iconst X (v := 0) dX10_isLaid_79 (by decide) (z_istore_n X [(3, .int 0), (6, .int v8), (0, .ref (z_ad g 0)), (1, .int x1), (2, .int x2), (4, .int x4), (5, .int q.2)] dX10_isLaid_80 rfl (by decide) rfl (z_iinc X (v := q.2 + 1) 6 [(5, .int (q.2 + 1)), (3, .int 0), (6, .int v8), (0, .ref (z_ad g 0)), (1, .int x1), (2, .int x2), (4, .int x4)] dX10_isLaid_81 rfl rfl (by decide) rfl (z_goto X 25 dX10_isLaid_84 (by decide) (z_sub [3, 4, 5, 1, 6, 0] [(0, .ref (z_ad g 0)), (1, .int x1), (2, .int x2), (3, .int 0), (4, .int x4), (5, .int (q.2 + 1))] rfl ?_))))
        exact hkb (0, q.2 + 1) h
      · replace h := z_ip c12 h
        refine z_iload X 5 dX10_isLaid_65 rfl (z_iload X 0 dX10_isLaid_67 rfl (z_iconst X (v := (-1)) dX10_isLaid_69 (by decide) (z_ixor X dX10_isLaid_70 (z_iand X dX10_isLaid_71 (z_if_ne X 79 dX10_isLaid_72 (by decide) (fun c13 => ?_) (fun c13 => ?_))))))
        · replace h := z_in c13 h
          refine z_iconst X (v := 0) dX10_isLaid_79 (by decide) (z_istore_n X [(3, .int 0), (6, .int v8), (0, .ref (z_ad g 0)), (1, .int x1), (2, .int x2), (4, .int x4), (5, .int q.2)] dX10_isLaid_80 rfl (by decide) rfl (z_iinc X (v := q.2 + 1) 6 [(5, .int (q.2 + 1)), (3, .int 0), (6, .int v8), (0, .ref (z_ad g 0)), (1, .int x1), (2, .int x2), (4, .int x4)] dX10_isLaid_81 rfl rfl (by decide) rfl (z_goto X 25 dX10_isLaid_84 (by decide) (z_sub [3, 4, 5, 1, 6, 0] [(0, .ref (z_ad g 0)), (1, .int x1), (2, .int x2), (3, .int 0), (4, .int x4), (5, .int (q.2 + 1))] rfl ?_))))
          exact hkb (0, q.2 + 1) h
        · replace h := z_ip c13 h
          refine z_iconst X (v := 1) dX10_isLaid_75 (by decide) (z_goto X 80 dX10_isLaid_76 (by decide) (z_istore_n X [(3, .int 1), (6, .int v8), (0, .ref (z_ad g 0)), (1, .int x1), (2, .int x2), (4, .int x4), (5, .int q.2)] dX10_isLaid_80 rfl (by decide) rfl (z_iinc X (v := q.2 + 1) 6 [(5, .int (q.2 + 1)), (3, .int 1), (6, .int v8), (0, .ref (z_ad g 0)), (1, .int x1), (2, .int x2), (4, .int x4)] dX10_isLaid_81 rfl rfl (by decide) rfl (z_goto X 25 dX10_isLaid_84 (by decide) (z_sub [3, 4, 5, 1, 6, 0] [(0, .ref (z_ad g 0)), (1, .int x1), (2, .int x2), (3, .int 1), (4, .int x4), (5, .int (q.2 + 1))] rfl ?_)))))
          exact hkb (1, q.2 + 1) h
set_option maxRecDepth 20000 in
set_option maxHeartbeats 4000000 in
theorem wb_X10_isLaid_2 {p : Program} {l : Launch} {e : Env} {R : Room} {s : State} {m : MethodId} {args : Array Value} {below : List Frame} {meth : Method} {c : Code} {g : z_G} {u : z_M} {res : Int32} (hR : R = z_rm 3) (X : z_X p R s m args meth c cX10_isLaid 7 RX10 wsX10_isLaid (some .boolean) g z_shR) (x1 : Int32) (q : Int32) (kb : Int32 → Option (Int32)) (kx : Unit → Option (Int32)) (hkb : ∀ q, kb q = some res → z_V p l e R s m args below meth c 7 g z_shR (MQ below (z_Qc g z_shR (fun v u' => v = some (.int res) ∧ u' = u)) args s 0 0 (z_A g z_shR)) 2 [(0, .ref (z_ad g 0)), (1, .int x1), (2, .int q)] [] u) (hkx : ∀ t, kx t = some res → z_V p l e R s m args below meth c 7 g z_shR (MQ below (z_Qc g z_shR (fun v u' => v = some (.int res) ∧ u' = u)) args s 0 0 (z_A g z_shR)) 99 [] [] u) (h : b_X10_isLaid_2 x1 u q kb kx = some res) : z_V p l e R s m args below meth c 7 g z_shR (MQ below (z_Qc g z_shR (fun v u' => v = some (.int res) ∧ u' = u)) args s 0 0 (z_A g z_shR)) 2 [(0, .ref (z_ad g 0)), (1, .int x1), (2, .int q)] [] u := by
  unfold b_X10_isLaid_2 at h
  refine z_iload_n X 2 dX10_isLaid_2 rfl rfl (z_iload_n X 1 dX10_isLaid_3 rfl rfl (z_icmp_ge X 99 dX10_isLaid_4 (by decide) (fun c1 => ?_) (fun c1 => ?_)))
  · replace h := z_ip c1 h
    refine z_sub [] [] rfl ?_
    exact hkx () h
  · replace h := z_in c1 h
    obtain ⟨r2, er2, h⟩ := z_bs h
    obtain ⟨r3, er3, h⟩ := z_bs h
    obtain ⟨v4, ev4, h⟩ := z_ls h
    refine z_iconst X (v := 0) dX10_isLaid_7 (by decide) (z_istore_n X [(3, .int 0), (0, .ref (z_ad g 0)), (1, .int x1), (2, .int q)] dX10_isLaid_8 rfl (by decide) rfl (z_aload_n X 1 dX10_isLaid_9 rfl rfl (z_iload_n X 3 dX10_isLaid_10 rfl rfl (z_callVi X (r := r2) (u1 := u) [.int q] [] (w_X10_chainSet l g q u er2) z_r0 rfl gX10_isLaid_X10_chainSet hy_X10_chainSet rfl (z_le1 hR (by decide)) (z_le2 hR (by decide) (by decide)) (Nat.le_of_ble_eq_true rfl) dX10_isLaid_11 (z_aload_n X 1 dX10_isLaid_14 rfl rfl (z_iload_n X 2 dX10_isLaid_15 rfl rfl (z_callVi X (r := r3) (u1 := u) [.int x1] [.int r2] (w_X10_chainSet l g x1 u er3) z_r0 rfl gX10_isLaid_X10_chainSet hy_X10_chainSet rfl (z_le1 hR (by decide)) (z_le2 hR (by decide) (by decide)) (Nat.le_of_ble_eq_true rfl) dX10_isLaid_16 (z_iand X dX10_isLaid_19 (z_ti ev4 (z_istore X [(4, .int v4), (3, .int 0), (0, .ref (z_ad g 0)), (1, .int x1), (2, .int q)] dX10_isLaid_20 (by decide) rfl (z_iconst X (v := 0) dX10_isLaid_22 (by decide) (z_istore X [(5, .int 0), (4, .int v4), (3, .int 0), (0, .ref (z_ad g 0)), (1, .int x1), (2, .int q)] dX10_isLaid_23 (by decide) rfl (z_sub [3, 4, 5, 2, 1, 0] [(0, .ref (z_ad g 0)), (1, .int x1), (2, .int q), (3, .int 0), (4, .int v4), (5, .int 0)] rfl ?_)))))))))))))
    have hw := z_lp_w (fun q9 kb9 kx9 h1 h2 h3 => wb_X10_isLaid_25 (l := l) (e := e) (below := below) (u := u) hR X x1 q v4 q9 kb9 kx9 h1 h2 h3) z_F _ _ h
    refine hw (fun t14 h => ?_)
    refine z_iload_n X 3 dX10_isLaid_87 rfl rfl (z_if_ne X 93 dX10_isLaid_88 (by decide) (fun c15 => ?_) (fun c15 => ?_))
    · replace h := z_in c15 h
      refine z_iinc X (v := q + 1) 2 [(2, .int (q + 1)), (0, .ref (z_ad g 0)), (1, .int x1), (3, .int t14)] dX10_isLaid_93 rfl rfl (by decide) rfl (z_goto X 2 dX10_isLaid_96 (by decide) (z_sub [1, 2, 0] [(0, .ref (z_ad g 0)), (1, .int x1), (2, .int (q + 1))] rfl ?_))
      exact hkb (q + 1) h
    · replace h := z_ip c15 h
      refine z_iconst X (v := 0) dX10_isLaid_91 (by decide) ?_
      cases h; exact z_zret X rfl rfl dX10_isLaid_92 ⟨rfl, rfl⟩
set_option maxRecDepth 20000 in
set_option maxHeartbeats 4000000 in
theorem w_X10_isLaid (l : Launch) (g : z_G) (a1 : Int32) (u : z_M) {res : Int32} (h : f_X10_isLaid a1 u = some res) : z_C l g z_shR yX10_isLaid wsX10_isLaid 3 [.ref (z_ad g 0), .int a1] u (fun v u' => v = some (.int res) ∧ u' = u) := by
  refine z_C.mk (lv := [(0, .ref (z_ad g 0)), (1, .int a1)]) (cc := cX10_isLaid) (nL := 7) (rt := (some .boolean)) rfl (by decide) (Nat.le_of_ble_eq_true rfl) rfl (fun p e R s m args below meth c hR X => ?_)
  unfold f_X10_isLaid at h
  refine z_iconst X (v := 0) dX10_isLaid_0 (by decide) (z_istore_n X [(2, .int 0), (0, .ref (z_ad g 0)), (1, .int a1)] dX10_isLaid_1 rfl (by decide) rfl (z_sub [1, 2, 0] [(0, .ref (z_ad g 0)), (1, .int a1), (2, .int 0)] rfl ?_))
  have hw := z_lp_w (fun q9 kb9 kx9 h1 h2 h3 => wb_X10_isLaid_2 (l := l) (e := e) (below := below) (u := u) hR X a1 q9 kb9 kx9 h1 h2 h3) z_F _ _ h
  refine hw (fun t16 h => ?_)
  refine z_iconst X (v := 1) dX10_isLaid_99 (by decide) ?_
  cases h; exact z_zret X rfl rfl dX10_isLaid_100 ⟨rfl, rfl⟩
