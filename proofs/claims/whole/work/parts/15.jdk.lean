theorem ct265_J6_bitCount_0f7a4 : Cond.constant RJ6 265 1431655765 ∈ wsJ6_bitCount_0f7a4 := by decide +kernel
theorem ct266_J6_bitCount_0f7a4 : Cond.constant RJ6 266 858993459 ∈ wsJ6_bitCount_0f7a4 := by decide +kernel
theorem ct267_J6_bitCount_0f7a4 : Cond.constant RJ6 267 252645135 ∈ wsJ6_bitCount_0f7a4 := by decide +kernel
def f_J6_bitCount_0f7a4 (a1 : Int32) : Option (Int32) :=
  z_lt (a1 - (((a1.toUInt32 >>> ((1 : Int32).toUInt32 &&& Int32.toUInt32 31)).toInt32) &&& 1431655765)) (fun v1 => z_lt ((v1 &&& 858993459) + (((v1.toUInt32 >>> ((2 : Int32).toUInt32 &&& Int32.toUInt32 31)).toInt32) &&& 858993459)) (fun v2 => z_lt ((v2 + ((v2.toUInt32 >>> ((4 : Int32).toUInt32 &&& Int32.toUInt32 31)).toInt32)) &&& 252645135) (fun v3 => z_lt (v3 + ((v3.toUInt32 >>> ((8 : Int32).toUInt32 &&& Int32.toUInt32 31)).toInt32)) (fun v4 => z_lt (v4 + ((v4.toUInt32 >>> ((16 : Int32).toUInt32 &&& Int32.toUInt32 31)).toInt32)) (fun v5 => some (v5 &&& 63))))))
set_option maxRecDepth 20000 in
set_option maxHeartbeats 4000000 in
theorem w_J6_bitCount_0f7a4 (l : Launch) (g : z_G) (a1 : Int32) (u : z_M) {res : Int32} (h : f_J6_bitCount_0f7a4 a1 = some res) : z_C l g z_shC yJ6_bitCount_0f7a4 wsJ6_bitCount_0f7a4 1 [.int a1] u (fun v u' => v = some (.int res) ∧ u' = u) := by
  refine z_C.mk (lv := [(0, .int a1)]) (cc := cJ6_bitCount_0f7a4) (nL := 1) (rt := (some .int)) rfl (by decide) (Nat.le_of_ble_eq_true rfl) rfl (fun p e R s m args below meth c hR X => ?_)
  unfold f_J6_bitCount_0f7a4 at h
  obtain ⟨v1, ev1, h⟩ := z_ls h
  obtain ⟨v2, ev2, h⟩ := z_ls h
  obtain ⟨v3, ev3, h⟩ := z_ls h
  obtain ⟨v4, ev4, h⟩ := z_ls h
  obtain ⟨v5, ev5, h⟩ := z_ls h
  refine z_iload_n X 0 dJ6_bitCount_0f7a4_0 rfl rfl (z_iload_n X 0 dJ6_bitCount_0f7a4_1 rfl rfl (z_iconst X (v := 1) dJ6_bitCount_0f7a4_2 (by decide) (z_iushr X dJ6_bitCount_0f7a4_3 (z_ldcw X dJ6_bitCount_0f7a4_4 ct265_J6_bitCount_0f7a4 (z_iand X dJ6_bitCount_0f7a4_7 (z_isub X dJ6_bitCount_0f7a4_8 (z_ti ev1 (z_istore_n X [(0, .int v1)] dJ6_bitCount_0f7a4_9 rfl (by decide) rfl (z_iload_n X 0 dJ6_bitCount_0f7a4_10 rfl rfl (z_ldcw X dJ6_bitCount_0f7a4_11 ct266_J6_bitCount_0f7a4 (z_iand X dJ6_bitCount_0f7a4_14 (z_iload_n X 0 dJ6_bitCount_0f7a4_15 rfl rfl (z_iconst X (v := 2) dJ6_bitCount_0f7a4_16 (by decide) (z_iushr X dJ6_bitCount_0f7a4_17 (z_ldcw X dJ6_bitCount_0f7a4_18 ct266_J6_bitCount_0f7a4 (z_iand X dJ6_bitCount_0f7a4_21 (z_iadd X dJ6_bitCount_0f7a4_22 (z_ti ev2 (z_istore_n X [(0, .int v2)] dJ6_bitCount_0f7a4_23 rfl (by decide) rfl (z_iload_n X 0 dJ6_bitCount_0f7a4_24 rfl rfl (z_iload_n X 0 dJ6_bitCount_0f7a4_25 rfl rfl (z_iconst X (v := 4) dJ6_bitCount_0f7a4_26 (by decide) (z_iushr X dJ6_bitCount_0f7a4_27 (z_iadd X dJ6_bitCount_0f7a4_28 (z_ldcw X dJ6_bitCount_0f7a4_29 ct267_J6_bitCount_0f7a4 (z_iand X dJ6_bitCount_0f7a4_32 (z_ti ev3 (z_istore_n X [(0, .int v3)] dJ6_bitCount_0f7a4_33 rfl (by decide) rfl (z_iload_n X 0 dJ6_bitCount_0f7a4_34 rfl rfl (z_iload_n X 0 dJ6_bitCount_0f7a4_35 rfl rfl (z_bipush X (v := 8) dJ6_bitCount_0f7a4_36 (by decide) (z_iushr X dJ6_bitCount_0f7a4_38 (z_iadd X dJ6_bitCount_0f7a4_39 (z_ti ev4 (z_istore_n X [(0, .int v4)] dJ6_bitCount_0f7a4_40 rfl (by decide) rfl (z_iload_n X 0 dJ6_bitCount_0f7a4_41 rfl rfl (z_iload_n X 0 dJ6_bitCount_0f7a4_42 rfl rfl (z_bipush X (v := 16) dJ6_bitCount_0f7a4_43 (by decide) (z_iushr X dJ6_bitCount_0f7a4_45 (z_iadd X dJ6_bitCount_0f7a4_46 (z_ti ev5 (z_istore_n X [(0, .int v5)] dJ6_bitCount_0f7a4_47 rfl (by decide) rfl (z_iload_n X 0 dJ6_bitCount_0f7a4_48 rfl rfl (z_bipush X (v := 63) dJ6_bitCount_0f7a4_49 (by decide) (z_iand X dJ6_bitCount_0f7a4_51 ?_)))))))))))))))))))))))))))))))))))))))))))))
  cases h; exact z_iret X rfl dJ6_bitCount_0f7a4_52 ⟨rfl, rfl⟩
def b_J7_fill_53178_5 (x0 nx0 : Nat) (x1 : Int32) (x3 : Int32) : (Int32 × z_M) → ((Int32 × z_M) → Option (z_M)) → (z_M → Option (z_M)) → Option (z_M) := fun q kb kx =>
  if x3 ≤ q.1 then (kx q.2) else (z_gd (z_inb q.1 nx0) (z_lt (z_sI q.2 x0 q.1.toNatClampNeg x1) (fun u4 => kb (q.1 + 1, u4))))
def f_J7_fill_53178 (a1 na1 : Nat) (a2 : Int32) (u : z_M) : Option (z_M) :=
  z_lt (nI na1) (fun v1 => z_lp (b_J7_fill_53178_5 a1 na1 a2 v1) z_F (0, u) (fun t5 => some t5))
set_option maxRecDepth 20000 in
set_option maxHeartbeats 4000000 in
theorem wb_J7_fill_53178_5 {p : Program} {l : Launch} {e : Env} {R : Room} {s : State} {m : MethodId} {args : Array Value} {below : List Frame} {meth : Method} {c : Code} {g : z_G} {u : z_M} {res : z_M} (hR : R = z_rm 1) (X : z_X p R s m args meth c cJ7_fill_53178 4 RJ7 wsJ7_fill_53178 none g z_shC) (x0 nx0 : Nat) (x1 : Int32) (x3 : Int32) (ex0 : z_shC[x0]? = some (.inl (0, nx0, none))) (q : Int32 × z_M) (kb : (Int32 × z_M) → Option (z_M)) (kx : z_M → Option (z_M)) (hkb : ∀ q, kb q = some res → z_V p l e R s m args below meth c 4 g z_shC (MQ below (z_Qc g z_shC (fun v u' => v = none ∧ u' = res)) args s 0 0 (z_A g z_shC)) 5 [(0, .ref (z_ad g x0)), (1, .int x1), (2, .int q.1), (3, .int x3)] [] q.2) (hkx : ∀ t, kx t = some res → z_V p l e R s m args below meth c 4 g z_shC (MQ below (z_Qc g z_shC (fun v u' => v = none ∧ u' = res)) args s 0 0 (z_A g z_shC)) 20 [] [] t) (h : b_J7_fill_53178_5 x0 nx0 x1 x3 q kb kx = some res) : z_V p l e R s m args below meth c 4 g z_shC (MQ below (z_Qc g z_shC (fun v u' => v = none ∧ u' = res)) args s 0 0 (z_A g z_shC)) 5 [(0, .ref (z_ad g x0)), (1, .int x1), (2, .int q.1), (3, .int x3)] [] q.2 := by
  unfold b_J7_fill_53178_5 at h
  refine z_iload_n X 2 dJ7_fill_53178_5 rfl rfl (z_iload_n X 3 dJ7_fill_53178_6 rfl rfl (z_icmp_ge X 20 dJ7_fill_53178_7 (by decide) (fun c2 => ?_) (fun c2 => ?_)))
  · replace h := z_ip c2 h
    refine z_sub [] [] rfl ?_
    exact hkx q.2 h
  · replace h := z_in c2 h
    obtain ⟨b3, h⟩ := z_gs h
    obtain ⟨u4, eu4, h⟩ := z_ls h
    refine z_aload_n X 0 dJ7_fill_53178_10 rfl rfl (z_iload_n X 2 dJ7_fill_53178_11 rfl rfl (z_iload_n X 1 dJ7_fill_53178_12 rfl rfl (z_iast X ex0 (z_inS b3) dJ7_fill_53178_13 (z_nm eu4 (z_iinc X (v := q.1 + 1) 2 [(2, .int (q.1 + 1)), (0, .ref (z_ad g x0)), (1, .int x1), (3, .int x3)] dJ7_fill_53178_14 rfl rfl (by decide) rfl (z_goto X 5 dJ7_fill_53178_17 (by decide) (z_sub [1, 2, 0, 3] [(0, .ref (z_ad g x0)), (1, .int x1), (2, .int (q.1 + 1)), (3, .int x3)] rfl ?_)))))))
    exact hkb (q.1 + 1, u4) h
set_option maxRecDepth 20000 in
set_option maxHeartbeats 4000000 in
theorem w_J7_fill_53178 (l : Launch) (g : z_G) (a1 na1 : Nat) (a2 : Int32) (ea1 : z_shC[a1]? = some (.inl (0, na1, none))) (u : z_M) {res : z_M} (h : f_J7_fill_53178 a1 na1 a2 u = some res) : z_C l g z_shC yJ7_fill_53178 wsJ7_fill_53178 1 [.ref (z_ad g a1), .int a2] u (fun v u' => v = none ∧ u' = res) := by
  refine z_C.mk (lv := [(0, .ref (z_ad g a1)), (1, .int a2)]) (cc := cJ7_fill_53178) (nL := 4) (rt := none) rfl (by decide) (Nat.le_of_ble_eq_true rfl) rfl (fun p e R s m args below meth c hR X => ?_)
  unfold f_J7_fill_53178 at h
  obtain ⟨v1, ev1, h⟩ := z_ls h
  refine z_iconst X (v := 0) dJ7_fill_53178_0 (by decide) (z_istore_n X [(2, .int 0), (0, .ref (z_ad g a1)), (1, .int a2)] dJ7_fill_53178_1 rfl (by decide) rfl (z_aload_n X 1 dJ7_fill_53178_2 rfl rfl (z_alen X ea1 (by decide) dJ7_fill_53178_3 (z_ti ev1 (z_istore_n X [(3, .int v1), (2, .int 0), (0, .ref (z_ad g a1)), (1, .int a2)] dJ7_fill_53178_4 rfl (by decide) rfl (z_sub [2, 3, 1, 0] [(0, .ref (z_ad g a1)), (1, .int a2), (2, .int 0), (3, .int v1)] rfl ?_))))))
  have hw := z_lp_w (fun q9 kb9 kx9 h1 h2 h3 => wb_J7_fill_53178_5 (l := l) (e := e) (below := below) (u := u) hR X a1 na1 a2 v1 ea1 q9 kb9 kx9 h1 h2 h3) z_F _ _ h
  refine hw (fun t5 h => ?_)
  cases h; exact z_vret X rfl dJ7_fill_53178_20 ⟨rfl, rfl⟩
