def b_X10_hasAllJoins_10 (x1 : Int32) (u : z_M) : Int32 → (Int32 → Option (Int32)) → (Unit → Option (Int32)) → Option (Int32) := fun q kb kx =>
  if 9 ≤ q then (kx ()) else (Option.bind (f_X10_areThere x1 q u) (fun r3 => if r3 = 0 then (kb (q + 1)) else (Option.bind (f_X10_joinOf x1 q u) (fun r5 => if r5 < 0 then (some 0) else (Option.bind (f_X10_meetOf x1 q u) (fun r7 => if 0 ≤ r7 then (kb (q + 1)) else (some 0)))))))
def b_X10_hasAllJoins_2 (u : z_M) : Int32 → (Int32 → Option (Int32)) → (Unit → Option (Int32)) → Option (Int32) := fun q kb kx =>
  if 9 ≤ q then (kx ()) else (z_lp (b_X10_hasAllJoins_10 q u) z_F 0 (fun t9 => kb (q + 1)))
def f_X10_hasAllJoins (u : z_M) : Option (Int32) :=
  z_lp (b_X10_hasAllJoins_2 u) z_F 0 (fun t10 => some 1)
set_option maxRecDepth 20000 in
set_option maxHeartbeats 4000000 in
theorem wb_X10_hasAllJoins_10 {p : Program} {l : Launch} {e : Env} {R : Room} {s : State} {m : MethodId} {args : Array Value} {below : List Frame} {meth : Method} {c : Code} {g : z_G} {u : z_M} {res : Int32} (hR : R = z_rm 7) (X : z_X p R s m args meth c cX10_hasAllJoins 3 RX10 wsX10_hasAllJoins (some .boolean) g z_shR) (x1 : Int32) (q : Int32) (kb : Int32 → Option (Int32)) (kx : Unit → Option (Int32)) (hkb : ∀ q, kb q = some res → z_V p l e R s m args below meth c 3 g z_shR (MQ below (z_Qc g z_shR (fun v u' => v = some (.int res) ∧ u' = u)) args s 0 0 (z_A g z_shR)) 10 [(0, .ref (z_ad g 0)), (1, .int x1), (2, .int q)] [] u) (hkx : ∀ t, kx t = some res → z_V p l e R s m args below meth c 3 g z_shR (MQ below (z_Qc g z_shR (fun v u' => v = some (.int res) ∧ u' = u)) args s 0 0 (z_A g z_shR)) 51 [(0, .ref (z_ad g 0)), (1, .int x1)] [] u) (h : b_X10_hasAllJoins_10 x1 u q kb kx = some res) : z_V p l e R s m args below meth c 3 g z_shR (MQ below (z_Qc g z_shR (fun v u' => v = some (.int res) ∧ u' = u)) args s 0 0 (z_A g z_shR)) 10 [(0, .ref (z_ad g 0)), (1, .int x1), (2, .int q)] [] u := by
  unfold b_X10_hasAllJoins_10 at h
  refine z_iload_n X 2 dX10_hasAllJoins_10 rfl rfl (z_bipush X (v := 9) dX10_hasAllJoins_11 (by decide) (z_icmp_ge X 51 dX10_hasAllJoins_13 (by decide) (fun c2 => ?_) (fun c2 => ?_)))
  · replace h := z_ip c2 h
    refine z_sub [0, 1] [(0, .ref (z_ad g 0)), (1, .int x1)] rfl ?_
    exact hkx () h
  · replace h := z_in c2 h
    obtain ⟨r3, er3, h⟩ := z_bs h
    refine z_aload_n X 0 dX10_hasAllJoins_16 rfl rfl (z_iload_n X 1 dX10_hasAllJoins_17 rfl rfl (z_iload_n X 2 dX10_hasAllJoins_18 rfl rfl (z_callVi X (r := r3) (u1 := u) [.int x1, .int q] [] (w_X10_areThere l g x1 q u er3) z_r0 rfl gX10_hasAllJoins_X10_areThere hy_X10_areThere rfl (z_le1 hR (by decide)) (z_le2 hR (by decide) (by decide)) (Nat.le_of_ble_eq_true rfl) dX10_hasAllJoins_19 (z_if_eq X 45 dX10_hasAllJoins_22 (by decide) (fun c4 => ?_) (fun c4 => ?_)))))
    · replace h := z_ip c4 h
      refine z_iinc X (v := q + 1) 2 [(2, .int (q + 1)), (0, .ref (z_ad g 0)), (1, .int x1)] dX10_hasAllJoins_45 rfl rfl (by decide) rfl (z_goto X 10 dX10_hasAllJoins_48 (by decide) (z_sub [1, 2, 0] [(0, .ref (z_ad g 0)), (1, .int x1), (2, .int (q + 1))] rfl ?_))
      exact hkb (q + 1) h
    · replace h := z_in c4 h
      obtain ⟨r5, er5, h⟩ := z_bs h
      refine z_aload_n X 0 dX10_hasAllJoins_25 rfl rfl (z_iload_n X 1 dX10_hasAllJoins_26 rfl rfl (z_iload_n X 2 dX10_hasAllJoins_27 rfl rfl (z_callVi X (r := r5) (u1 := u) [.int x1, .int q] [] (w_X10_joinOf l g x1 q u er5) z_r0 rfl gX10_hasAllJoins_X10_joinOf hy_X10_joinOf rfl (z_le1 hR (by decide)) (z_le2 hR (by decide) (by decide)) (Nat.le_of_ble_eq_true rfl) dX10_hasAllJoins_28 (z_if_lt X 43 dX10_hasAllJoins_31 (by decide) (fun c6 => ?_) (fun c6 => ?_)))))
      · replace h := z_ip c6 h
        refine z_iconst X (v := 0) dX10_hasAllJoins_43 (by decide) ?_
        cases h; exact z_zret X rfl rfl dX10_hasAllJoins_44 ⟨rfl, rfl⟩
      · replace h := z_in c6 h
        obtain ⟨r7, er7, h⟩ := z_bs h
        refine z_aload_n X 0 dX10_hasAllJoins_34 rfl rfl (z_iload_n X 1 dX10_hasAllJoins_35 rfl rfl (z_iload_n X 2 dX10_hasAllJoins_36 rfl rfl (z_callVi X (r := r7) (u1 := u) [.int x1, .int q] [] (w_X10_meetOf l g x1 q u er7) z_r0 rfl gX10_hasAllJoins_X10_meetOf hy_X10_meetOf rfl (z_le1 hR (by decide)) (z_le2 hR (by decide) (by decide)) (Nat.le_of_ble_eq_true rfl) dX10_hasAllJoins_37 (z_if_ge X 45 dX10_hasAllJoins_40 (by decide) (fun c8 => ?_) (fun c8 => ?_)))))
        · replace h := z_ip c8 h
          refine z_iinc X (v := q + 1) 2 [(2, .int (q + 1)), (0, .ref (z_ad g 0)), (1, .int x1)] dX10_hasAllJoins_45 rfl rfl (by decide) rfl (z_goto X 10 dX10_hasAllJoins_48 (by decide) (z_sub [1, 2, 0] [(0, .ref (z_ad g 0)), (1, .int x1), (2, .int (q + 1))] rfl ?_))
          exact hkb (q + 1) h
        · replace h := z_in c8 h
          refine z_iconst X (v := 0) dX10_hasAllJoins_43 (by decide) ?_
          cases h; exact z_zret X rfl rfl dX10_hasAllJoins_44 ⟨rfl, rfl⟩
set_option maxRecDepth 20000 in
set_option maxHeartbeats 4000000 in
theorem wb_X10_hasAllJoins_2 {p : Program} {l : Launch} {e : Env} {R : Room} {s : State} {m : MethodId} {args : Array Value} {below : List Frame} {meth : Method} {c : Code} {g : z_G} {u : z_M} {res : Int32} (hR : R = z_rm 7) (X : z_X p R s m args meth c cX10_hasAllJoins 3 RX10 wsX10_hasAllJoins (some .boolean) g z_shR)  (q : Int32) (kb : Int32 → Option (Int32)) (kx : Unit → Option (Int32)) (hkb : ∀ q, kb q = some res → z_V p l e R s m args below meth c 3 g z_shR (MQ below (z_Qc g z_shR (fun v u' => v = some (.int res) ∧ u' = u)) args s 0 0 (z_A g z_shR)) 2 [(0, .ref (z_ad g 0)), (1, .int q)] [] u) (hkx : ∀ t, kx t = some res → z_V p l e R s m args below meth c 3 g z_shR (MQ below (z_Qc g z_shR (fun v u' => v = some (.int res) ∧ u' = u)) args s 0 0 (z_A g z_shR)) 57 [] [] u) (h : b_X10_hasAllJoins_2 u q kb kx = some res) : z_V p l e R s m args below meth c 3 g z_shR (MQ below (z_Qc g z_shR (fun v u' => v = some (.int res) ∧ u' = u)) args s 0 0 (z_A g z_shR)) 2 [(0, .ref (z_ad g 0)), (1, .int q)] [] u := by
  unfold b_X10_hasAllJoins_2 at h
  refine z_iload_n X 1 dX10_hasAllJoins_2 rfl rfl (z_bipush X (v := 9) dX10_hasAllJoins_3 (by decide) (z_icmp_ge X 57 dX10_hasAllJoins_5 (by decide) (fun c1 => ?_) (fun c1 => ?_)))
  · replace h := z_ip c1 h
    refine z_sub [] [] rfl ?_
    exact hkx () h
  · replace h := z_in c1 h
    refine z_iconst X (v := 0) dX10_hasAllJoins_8 (by decide) (z_istore_n X [(2, .int 0), (0, .ref (z_ad g 0)), (1, .int q)] dX10_hasAllJoins_9 rfl (by decide) rfl (z_sub [1, 2, 0] [(0, .ref (z_ad g 0)), (1, .int q), (2, .int 0)] rfl ?_))
    have hw := z_lp_w (fun q9 kb9 kx9 h1 h2 h3 => wb_X10_hasAllJoins_10 (l := l) (e := e) (below := below) (u := u) hR X q q9 kb9 kx9 h1 h2 h3) z_F _ _ h
    refine hw (fun t9 h => ?_)
    refine z_iinc X (v := q + 1) 1 [(1, .int (q + 1)), (0, .ref (z_ad g 0))] dX10_hasAllJoins_51 rfl rfl (by decide) rfl (z_goto X 2 dX10_hasAllJoins_54 (by decide) (z_sub [1, 0] [(0, .ref (z_ad g 0)), (1, .int (q + 1))] rfl ?_))
    exact hkb (q + 1) h
set_option maxRecDepth 20000 in
set_option maxHeartbeats 4000000 in
theorem w_X10_hasAllJoins (l : Launch) (g : z_G)  (u : z_M) {res : Int32} (h : f_X10_hasAllJoins u = some res) : z_C l g z_shR yX10_hasAllJoins wsX10_hasAllJoins 7 [.ref (z_ad g 0)] u (fun v u' => v = some (.int res) ∧ u' = u) := by
  refine z_C.mk (lv := [(0, .ref (z_ad g 0))]) (cc := cX10_hasAllJoins) (nL := 3) (rt := (some .boolean)) rfl (by decide) (Nat.le_of_ble_eq_true rfl) rfl (fun p e R s m args below meth c hR X => ?_)
  unfold f_X10_hasAllJoins at h
  refine z_iconst X (v := 0) dX10_hasAllJoins_0 (by decide) (z_istore_n X [(1, .int 0), (0, .ref (z_ad g 0))] dX10_hasAllJoins_1 rfl (by decide) rfl (z_sub [1, 0] [(0, .ref (z_ad g 0)), (1, .int 0)] rfl ?_))
  have hw := z_lp_w (fun q9 kb9 kx9 h1 h2 h3 => wb_X10_hasAllJoins_2 (l := l) (e := e) (below := below) (u := u) hR X q9 kb9 kx9 h1 h2 h3) z_F _ _ h
  refine hw (fun t10 h => ?_)
  refine z_iconst X (v := 1) dX10_hasAllJoins_57 (by decide) ?_
  cases h; exact z_zret X rfl rfl dX10_hasAllJoins_58 ⟨rfl, rfl⟩

def j_X10_isDealt_j66 (x1 : Int32) (x2 : Int32) (x3 : Int32) (x4 : Int32) (x90 : Int32) (w : z_M) (kb : Int32 → Option (Int32)) (kx : Unit → Option (Int32)) : Option (Int32) :=
  if x90 = 0 then (kb (x4 + 1)) else (Option.bind (f_X10_joinOf x3 x4 w) (fun r7 => Option.bind (f_X10_meetOf x2 r7 w) (fun r8 => Option.bind (f_X10_meetOf x2 x3 w) (fun r9 => Option.bind (f_X10_meetOf x2 x4 w) (fun r10 => Option.bind (f_X10_joinOf r9 r10 w) (fun r11 => if r8 = r11 then (kb (x4 + 1)) else (some 0)))))))
def j_X10_isDealt_j65 (x1 : Int32) (x2 : Int32) (x3 : Int32) (x4 : Int32) (w : z_M) (kb : Int32 → Option (Int32)) (kx : Unit → Option (Int32)) : Option (Int32) :=
  j_X10_isDealt_j66 x1 x2 x3 x4 0 w kb kx
def j_X10_isDealt_j61 (x1 : Int32) (x2 : Int32) (x3 : Int32) (x4 : Int32) (w : z_M) (kb : Int32 → Option (Int32)) (kx : Unit → Option (Int32)) : Option (Int32) :=
  j_X10_isDealt_j66 x1 x2 x3 x4 1 w kb kx
def b_X10_isDealt_19 (x1 : Int32) (x2 : Int32) (x3 : Int32) (u : z_M) : Int32 → (Int32 → Option (Int32)) → (Unit → Option (Int32)) → Option (Int32) := fun q kb kx =>
  if 9 ≤ q then (kx ()) else (Option.bind (f_X10_areThere x2 x3 u) (fun r4 => if r4 = 0 then (j_X10_isDealt_j65 x1 x2 x3 q u kb kx) else (Option.bind (f_X10_isThere q u) (fun r13 => if r13 = 0 then (j_X10_isDealt_j65 x1 x2 x3 q u kb kx) else (if x1 = 0 then (j_X10_isDealt_j61 x1 x2 x3 q u kb kx) else (Option.bind (f_X10_downTo x2 u) (fun r16 => Option.bind (f_X10_has r16 q) (fun r17 => if r17 = 0 then (j_X10_isDealt_j65 x1 x2 x3 q u kb kx) else (j_X10_isDealt_j61 x1 x2 x3 q u kb kx)))))))))
def b_X10_isDealt_10 (x1 : Int32) (x2 : Int32) (u : z_M) : Int32 → (Int32 → Option (Int32)) → (Unit → Option (Int32)) → Option (Int32) := fun q kb kx =>
  if 9 ≤ q then (kx ()) else (z_lp (b_X10_isDealt_19 x1 x2 q u) z_F 0 (fun t19 => kb (q + 1)))
def b_X10_isDealt_2 (x1 : Int32) (u : z_M) : Int32 → (Int32 → Option (Int32)) → (Unit → Option (Int32)) → Option (Int32) := fun q kb kx =>
  if 9 ≤ q then (kx ()) else (z_lp (b_X10_isDealt_10 x1 q u) z_F 0 (fun t20 => kb (q + 1)))
def f_X10_isDealt (a1 : Int32) (u : z_M) : Option (Int32) :=
  z_lp (b_X10_isDealt_2 a1 u) z_F 0 (fun t21 => some 1)
set_option maxRecDepth 20000 in
set_option maxHeartbeats 4000000 in
theorem wj_X10_isDealt_j66 {p : Program} {l : Launch} {e : Env} {R : Room} {s : State} {m : MethodId} {args : Array Value} {below : List Frame} {meth : Method} {c : Code} {g : z_G} {u : z_M} {res : Int32} (hR : R = z_rm 7) (X : z_X p R s m args meth c cX10_isDealt 6 RX10 wsX10_isDealt (some .boolean) g z_shR) (x1 : Int32) (x2 : Int32) (x3 : Int32) (x4 : Int32) (x90 : Int32) (w : z_M) (ew : w = u) (kb : Int32 → Option (Int32)) (kx : Unit → Option (Int32)) (hkb : ∀ q, kb q = some res → z_V p l e R s m args below meth c 6 g z_shR (MQ below (z_Qc g z_shR (fun v u' => v = some (.int res) ∧ u' = u)) args s 0 0 (z_A g z_shR)) 19 [(0, .ref (z_ad g 0)), (1, .int x1), (2, .int x2), (3, .int x3), (4, .int q)] [] u) (hkx : ∀ t, kx t = some res → z_V p l e R s m args below meth c 6 g z_shR (MQ below (z_Qc g z_shR (fun v u' => v = some (.int res) ∧ u' = u)) args s 0 0 (z_A g z_shR)) 113 [(0, .ref (z_ad g 0)), (1, .int x1), (2, .int x2), (3, .int x3)] [] u) (h : j_X10_isDealt_j66 x1 x2 x3 x4 x90 w kb kx = some res) : z_V p l e R s m args below meth c 6 g z_shR (MQ below (z_Qc g z_shR (fun v u' => v = some (.int res) ∧ u' = u)) args s 0 0 (z_A g z_shR)) 66 [(0, .ref (z_ad g 0)), (1, .int x1), (2, .int x2), (3, .int x3), (4, .int x4)] [.int x90] w := by
  unfold j_X10_isDealt_j66 at h
  subst ew
  refine z_istore X [(5, .int x90), (0, .ref (z_ad g 0)), (1, .int x1), (2, .int x2), (3, .int x3), (4, .int x4)] dX10_isDealt_66 (by decide) rfl (z_iload X 0 dX10_isDealt_68 rfl (z_if_eq X 107 dX10_isDealt_70 (by decide) (fun c6 => ?_) (fun c6 => ?_)))
  · replace h := z_ip c6 h
    refine z_iinc X (v := x4 + 1) 5 [(4, .int (x4 + 1)), (5, .int x90), (0, .ref (z_ad g 0)), (1, .int x1), (2, .int x2), (3, .int x3)] dX10_isDealt_107 rfl rfl (by decide) rfl (z_goto X 19 dX10_isDealt_110 (by decide) (z_sub [2, 3, 4, 5, 0] [(0, .ref (z_ad g 0)), (1, .int x1), (2, .int x2), (3, .int x3), (4, .int (x4 + 1))] rfl ?_))
    exact hkb (x4 + 1) h
  · replace h := z_in c6 h
    obtain ⟨r7, er7, h⟩ := z_bs h
    obtain ⟨r8, er8, h⟩ := z_bs h
    obtain ⟨r9, er9, h⟩ := z_bs h
    obtain ⟨r10, er10, h⟩ := z_bs h
    obtain ⟨r11, er11, h⟩ := z_bs h
    refine z_aload_n X 1 dX10_isDealt_73 rfl rfl (z_iload_n X 3 dX10_isDealt_74 rfl rfl (z_aload_n X 1 dX10_isDealt_75 rfl rfl (z_iload_n X 4 dX10_isDealt_76 rfl rfl (z_iload X 5 dX10_isDealt_77 rfl (z_callVi X (r := r7) (u1 := w) [.int x3, .int x4] [.int x2, .ref (z_ad g 0)] (w_X10_joinOf l g x3 x4 w er7) z_r0 rfl gX10_isDealt_X10_joinOf hy_X10_joinOf rfl (z_le1 hR (by decide)) (z_le2 hR (by decide) (by decide)) (Nat.le_of_ble_eq_true rfl) dX10_isDealt_79 (z_callVi X (r := r8) (u1 := w) [.int x2, .int r7] [] (w_X10_meetOf l g x2 r7 w er8) z_r0 rfl gX10_isDealt_X10_meetOf hy_X10_meetOf rfl (z_le1 hR (by decide)) (z_le2 hR (by decide) (by decide)) (Nat.le_of_ble_eq_true rfl) dX10_isDealt_82 (z_aload_n X 1 dX10_isDealt_85 rfl rfl (z_aload_n X 1 dX10_isDealt_86 rfl rfl (z_iload_n X 3 dX10_isDealt_87 rfl rfl (z_iload_n X 4 dX10_isDealt_88 rfl rfl (z_callVi X (r := r9) (u1 := w) [.int x2, .int x3] [.ref (z_ad g 0), .int r8] (w_X10_meetOf l g x2 x3 w er9) z_r0 rfl gX10_isDealt_X10_meetOf hy_X10_meetOf rfl (z_le1 hR (by decide)) (z_le2 hR (by decide) (by decide)) (Nat.le_of_ble_eq_true rfl) dX10_isDealt_89 (z_aload_n X 1 dX10_isDealt_92 rfl rfl (z_iload_n X 3 dX10_isDealt_93 rfl rfl (z_iload X 5 dX10_isDealt_94 rfl (z_callVi X (r := r10) (u1 := w) [.int x2, .int x4] [.int r9, .ref (z_ad g 0), .int r8] (w_X10_meetOf l g x2 x4 w er10) z_r0 rfl gX10_isDealt_X10_meetOf hy_X10_meetOf rfl (z_le1 hR (by decide)) (z_le2 hR (by decide) (by decide)) (Nat.le_of_ble_eq_true rfl) dX10_isDealt_96 (z_callVi X (r := r11) (u1 := w) [.int r9, .int r10] [.int r8] (w_X10_joinOf l g r9 r10 w er11) z_r0 rfl gX10_isDealt_X10_joinOf hy_X10_joinOf rfl (z_le1 hR (by decide)) (z_le2 hR (by decide) (by decide)) (Nat.le_of_ble_eq_true rfl) dX10_isDealt_99 (z_icmp_eq X 107 dX10_isDealt_102 (by decide) (fun c12 => ?_) (fun c12 => ?_))))))))))))))))))
    · replace h := z_ip c12 h
      refine z_iinc X (v := x4 + 1) 5 [(4, .int (x4 + 1)), (5, .int x90), (0, .ref (z_ad g 0)), (1, .int x1), (2, .int x2), (3, .int x3)] dX10_isDealt_107 rfl rfl (by decide) rfl (z_goto X 19 dX10_isDealt_110 (by decide) (z_sub [2, 3, 4, 5, 0] [(0, .ref (z_ad g 0)), (1, .int x1), (2, .int x2), (3, .int x3), (4, .int (x4 + 1))] rfl ?_))
      exact hkb (x4 + 1) h
    · replace h := z_in c12 h
      refine z_iconst X (v := 0) dX10_isDealt_105 (by decide) ?_
      cases h; exact z_zret X rfl rfl dX10_isDealt_106 ⟨rfl, rfl⟩
set_option maxRecDepth 20000 in
set_option maxHeartbeats 4000000 in
theorem wj_X10_isDealt_j65 {p : Program} {l : Launch} {e : Env} {R : Room} {s : State} {m : MethodId} {args : Array Value} {below : List Frame} {meth : Method} {c : Code} {g : z_G} {u : z_M} {res : Int32} (hR : R = z_rm 7) (X : z_X p R s m args meth c cX10_isDealt 6 RX10 wsX10_isDealt (some .boolean) g z_shR) (x1 : Int32) (x2 : Int32) (x3 : Int32) (x4 : Int32) (w : z_M) (ew : w = u) (kb : Int32 → Option (Int32)) (kx : Unit → Option (Int32)) (hkb : ∀ q, kb q = some res → z_V p l e R s m args below meth c 6 g z_shR (MQ below (z_Qc g z_shR (fun v u' => v = some (.int res) ∧ u' = u)) args s 0 0 (z_A g z_shR)) 19 [(0, .ref (z_ad g 0)), (1, .int x1), (2, .int x2), (3, .int x3), (4, .int q)] [] u) (hkx : ∀ t, kx t = some res → z_V p l e R s m args below meth c 6 g z_shR (MQ below (z_Qc g z_shR (fun v u' => v = some (.int res) ∧ u' = u)) args s 0 0 (z_A g z_shR)) 113 [(0, .ref (z_ad g 0)), (1, .int x1), (2, .int x2), (3, .int x3)] [] u) (h : j_X10_isDealt_j65 x1 x2 x3 x4 w kb kx = some res) : z_V p l e R s m args below meth c 6 g z_shR (MQ below (z_Qc g z_shR (fun v u' => v = some (.int res) ∧ u' = u)) args s 0 0 (z_A g z_shR)) 65 [(0, .ref (z_ad g 0)), (1, .int x1), (2, .int x2), (3, .int x3), (4, .int x4)] [] w := by
  unfold j_X10_isDealt_j65 at h
  subst ew
  refine z_iconst X (v := 0) dX10_isDealt_65 (by decide) ?_
  exact wj_X10_isDealt_j66 (u := w) hR X x1 x2 x3 x4 0 w rfl kb kx hkb hkx h
set_option maxRecDepth 20000 in
set_option maxHeartbeats 4000000 in
theorem wj_X10_isDealt_j61 {p : Program} {l : Launch} {e : Env} {R : Room} {s : State} {m : MethodId} {args : Array Value} {below : List Frame} {meth : Method} {c : Code} {g : z_G} {u : z_M} {res : Int32} (hR : R = z_rm 7) (X : z_X p R s m args meth c cX10_isDealt 6 RX10 wsX10_isDealt (some .boolean) g z_shR) (x1 : Int32) (x2 : Int32) (x3 : Int32) (x4 : Int32) (w : z_M) (ew : w = u) (kb : Int32 → Option (Int32)) (kx : Unit → Option (Int32)) (hkb : ∀ q, kb q = some res → z_V p l e R s m args below meth c 6 g z_shR (MQ below (z_Qc g z_shR (fun v u' => v = some (.int res) ∧ u' = u)) args s 0 0 (z_A g z_shR)) 19 [(0, .ref (z_ad g 0)), (1, .int x1), (2, .int x2), (3, .int x3), (4, .int q)] [] u) (hkx : ∀ t, kx t = some res → z_V p l e R s m args below meth c 6 g z_shR (MQ below (z_Qc g z_shR (fun v u' => v = some (.int res) ∧ u' = u)) args s 0 0 (z_A g z_shR)) 113 [(0, .ref (z_ad g 0)), (1, .int x1), (2, .int x2), (3, .int x3)] [] u) (h : j_X10_isDealt_j61 x1 x2 x3 x4 w kb kx = some res) : z_V p l e R s m args below meth c 6 g z_shR (MQ below (z_Qc g z_shR (fun v u' => v = some (.int res) ∧ u' = u)) args s 0 0 (z_A g z_shR)) 61 [(0, .ref (z_ad g 0)), (1, .int x1), (2, .int x2), (3, .int x3), (4, .int x4)] [] w := by
  unfold j_X10_isDealt_j61 at h
  subst ew
  refine z_iconst X (v := 1) dX10_isDealt_61 (by decide) (z_goto X 66 dX10_isDealt_62 (by decide) ?_)
  exact wj_X10_isDealt_j66 (u := w) hR X x1 x2 x3 x4 1 w rfl kb kx hkb hkx h
set_option maxRecDepth 20000 in
set_option maxHeartbeats 4000000 in
theorem wb_X10_isDealt_19 {p : Program} {l : Launch} {e : Env} {R : Room} {s : State} {m : MethodId} {args : Array Value} {below : List Frame} {meth : Method} {c : Code} {g : z_G} {u : z_M} {res : Int32} (hR : R = z_rm 7) (X : z_X p R s m args meth c cX10_isDealt 6 RX10 wsX10_isDealt (some .boolean) g z_shR) (x1 : Int32) (x2 : Int32) (x3 : Int32) (q : Int32) (kb : Int32 → Option (Int32)) (kx : Unit → Option (Int32)) (hkb : ∀ q, kb q = some res → z_V p l e R s m args below meth c 6 g z_shR (MQ below (z_Qc g z_shR (fun v u' => v = some (.int res) ∧ u' = u)) args s 0 0 (z_A g z_shR)) 19 [(0, .ref (z_ad g 0)), (1, .int x1), (2, .int x2), (3, .int x3), (4, .int q)] [] u) (hkx : ∀ t, kx t = some res → z_V p l e R s m args below meth c 6 g z_shR (MQ below (z_Qc g z_shR (fun v u' => v = some (.int res) ∧ u' = u)) args s 0 0 (z_A g z_shR)) 113 [(0, .ref (z_ad g 0)), (1, .int x1), (2, .int x2), (3, .int x3)] [] u) (h : b_X10_isDealt_19 x1 x2 x3 u q kb kx = some res) : z_V p l e R s m args below meth c 6 g z_shR (MQ below (z_Qc g z_shR (fun v u' => v = some (.int res) ∧ u' = u)) args s 0 0 (z_A g z_shR)) 19 [(0, .ref (z_ad g 0)), (1, .int x1), (2, .int x2), (3, .int x3), (4, .int q)] [] u := by
  unfold b_X10_isDealt_19 at h
  refine z_iload X 4 dX10_isDealt_19 rfl (z_bipush X (v := 9) dX10_isDealt_21 (by decide) (z_icmp_ge X 113 dX10_isDealt_23 (by decide) (fun c3 => ?_) (fun c3 => ?_)))
  · replace h := z_ip c3 h
    refine z_sub [0, 1, 2, 3] [(0, .ref (z_ad g 0)), (1, .int x1), (2, .int x2), (3, .int x3)] rfl ?_
    exact hkx () h
  · replace h := z_in c3 h
    obtain ⟨r4, er4, h⟩ := z_bs h
    refine z_aload_n X 0 dX10_isDealt_26 rfl rfl (z_iload_n X 2 dX10_isDealt_27 rfl rfl (z_iload_n X 3 dX10_isDealt_28 rfl rfl (z_callVi X (r := r4) (u1 := u) [.int x2, .int x3] [] (w_X10_areThere l g x2 x3 u er4) z_r0 rfl gX10_isDealt_X10_areThere hy_X10_areThere rfl (z_le1 hR (by decide)) (z_le2 hR (by decide) (by decide)) (Nat.le_of_ble_eq_true rfl) dX10_isDealt_29 (z_if_eq X 65 dX10_isDealt_32 (by decide) (fun c5 => ?_) (fun c5 => ?_)))))
    · replace h := z_ip c5 h
      exact wj_X10_isDealt_j65 (u := u) hR X x1 x2 x3 q u rfl kb kx hkb hkx h
    · replace h := z_in c5 h
      obtain ⟨r13, er13, h⟩ := z_bs h
      refine z_aload_n X 0 dX10_isDealt_35 rfl rfl (z_iload X 4 dX10_isDealt_36 rfl (z_callVi X (r := r13) (u1 := u) [.int q] [] (w_X10_isThere l g q u er13) z_r0 rfl gX10_isDealt_X10_isThere hy_X10_isThere rfl (z_le1 hR (by decide)) (z_le2 hR (by decide) (by decide)) (Nat.le_of_ble_eq_true rfl) dX10_isDealt_38 (z_if_eq X 65 dX10_isDealt_41 (by decide) (fun c14 => ?_) (fun c14 => ?_))))
      · replace h := z_ip c14 h
        exact wj_X10_isDealt_j65 (u := u) hR X x1 x2 x3 q u rfl kb kx hkb hkx h
      · replace h := z_in c14 h
        refine z_iload_n X 1 dX10_isDealt_44 rfl rfl (z_if_eq X 61 dX10_isDealt_45 (by decide) (fun c15 => ?_) (fun c15 => ?_))
        · replace h := z_ip c15 h
          exact wj_X10_isDealt_j61 (u := u) hR X x1 x2 x3 q u rfl kb kx hkb hkx h
        · replace h := z_in c15 h
          obtain ⟨r16, er16, h⟩ := z_bs h
          obtain ⟨r17, er17, h⟩ := z_bs h
          refine z_aload_n X 0 dX10_isDealt_48 rfl rfl (z_iload_n X 2 dX10_isDealt_49 rfl rfl (z_callVi X (r := r16) (u1 := u) [.int x2] [] (w_X10_downTo l g x2 u er16) z_r0 rfl gX10_isDealt_X10_downTo hy_X10_downTo rfl (z_le1 hR (by decide)) (z_le2 hR (by decide) (by decide)) (Nat.le_of_ble_eq_true rfl) dX10_isDealt_50 (z_iload X 4 dX10_isDealt_53 rfl (z_callSi X (r := r17) (u1 := u) [.int r16, .int q] [] (w_X10_has l g r16 q u er17) gX10_isDealt_X10_has hy_X10_has.2 rfl (z_le1 hR (by decide)) (z_le2 hR (by decide) (by decide)) (Nat.le_of_ble_eq_true rfl) dX10_isDealt_55 (z_if_eq X 65 dX10_isDealt_58 (by decide) (fun c18 => ?_) (fun c18 => ?_))))))
          · replace h := z_ip c18 h
            exact wj_X10_isDealt_j65 (u := u) hR X x1 x2 x3 q u rfl kb kx hkb hkx h
          · replace h := z_in c18 h
            exact wj_X10_isDealt_j61 (u := u) hR X x1 x2 x3 q u rfl kb kx hkb hkx h
set_option maxRecDepth 20000 in
set_option maxHeartbeats 4000000 in
theorem wb_X10_isDealt_10 {p : Program} {l : Launch} {e : Env} {R : Room} {s : State} {m : MethodId} {args : Array Value} {below : List Frame} {meth : Method} {c : Code} {g : z_G} {u : z_M} {res : Int32} (hR : R = z_rm 7) (X : z_X p R s m args meth c cX10_isDealt 6 RX10 wsX10_isDealt (some .boolean) g z_shR) (x1 : Int32) (x2 : Int32) (q : Int32) (kb : Int32 → Option (Int32)) (kx : Unit → Option (Int32)) (hkb : ∀ q, kb q = some res → z_V p l e R s m args below meth c 6 g z_shR (MQ below (z_Qc g z_shR (fun v u' => v = some (.int res) ∧ u' = u)) args s 0 0 (z_A g z_shR)) 10 [(0, .ref (z_ad g 0)), (1, .int x1), (2, .int x2), (3, .int q)] [] u) (hkx : ∀ t, kx t = some res → z_V p l e R s m args below meth c 6 g z_shR (MQ below (z_Qc g z_shR (fun v u' => v = some (.int res) ∧ u' = u)) args s 0 0 (z_A g z_shR)) 119 [(0, .ref (z_ad g 0)), (1, .int x1), (2, .int x2)] [] u) (h : b_X10_isDealt_10 x1 x2 u q kb kx = some res) : z_V p l e R s m args below meth c 6 g z_shR (MQ below (z_Qc g z_shR (fun v u' => v = some (.int res) ∧ u' = u)) args s 0 0 (z_A g z_shR)) 10 [(0, .ref (z_ad g 0)), (1, .int x1), (2, .int x2), (3, .int q)] [] u := by
  unfold b_X10_isDealt_10 at h
  refine z_iload_n X 3 dX10_isDealt_10 rfl rfl (z_bipush X (v := 9) dX10_isDealt_11 (by decide) (z_icmp_ge X 119 dX10_isDealt_13 (by decide) (fun c2 => ?_) (fun c2 => ?_)))
  · replace h := z_ip c2 h
    refine z_sub [0, 1, 2] [(0, .ref (z_ad g 0)), (1, .int x1), (2, .int x2)] rfl ?_
    exact hkx () h
  · replace h := z_in c2 h
    refine z_iconst X (v := 0) dX10_isDealt_16 (by decide) (z_istore X [(4, .int 0), (0, .ref (z_ad g 0)), (1, .int x1), (2, .int x2), (3, .int q)] dX10_isDealt_17 (by decide) rfl (z_sub [1, 2, 3, 4, 0] [(0, .ref (z_ad g 0)), (1, .int x1), (2, .int x2), (3, .int q), (4, .int 0)] rfl ?_))
    have hw := z_lp_w (fun q9 kb9 kx9 h1 h2 h3 => wb_X10_isDealt_19 (l := l) (e := e) (below := below) (u := u) hR X x1 x2 q q9 kb9 kx9 h1 h2 h3) z_F _ _ h
    refine hw (fun t19 h => ?_)
    refine z_iinc X (v := q + 1) 3 [(3, .int (q + 1)), (0, .ref (z_ad g 0)), (1, .int x1), (2, .int x2)] dX10_isDealt_113 rfl rfl (by decide) rfl (z_goto X 10 dX10_isDealt_116 (by decide) (z_sub [1, 2, 3, 0] [(0, .ref (z_ad g 0)), (1, .int x1), (2, .int x2), (3, .int (q + 1))] rfl ?_))
    exact hkb (q + 1) h
set_option maxRecDepth 20000 in
set_option maxHeartbeats 4000000 in
theorem wb_X10_isDealt_2 {p : Program} {l : Launch} {e : Env} {R : Room} {s : State} {m : MethodId} {args : Array Value} {below : List Frame} {meth : Method} {c : Code} {g : z_G} {u : z_M} {res : Int32} (hR : R = z_rm 7) (X : z_X p R s m args meth c cX10_isDealt 6 RX10 wsX10_isDealt (some .boolean) g z_shR) (x1 : Int32) (q : Int32) (kb : Int32 → Option (Int32)) (kx : Unit → Option (Int32)) (hkb : ∀ q, kb q = some res → z_V p l e R s m args below meth c 6 g z_shR (MQ below (z_Qc g z_shR (fun v u' => v = some (.int res) ∧ u' = u)) args s 0 0 (z_A g z_shR)) 2 [(0, .ref (z_ad g 0)), (1, .int x1), (2, .int q)] [] u) (hkx : ∀ t, kx t = some res → z_V p l e R s m args below meth c 6 g z_shR (MQ below (z_Qc g z_shR (fun v u' => v = some (.int res) ∧ u' = u)) args s 0 0 (z_A g z_shR)) 125 [] [] u) (h : b_X10_isDealt_2 x1 u q kb kx = some res) : z_V p l e R s m args below meth c 6 g z_shR (MQ below (z_Qc g z_shR (fun v u' => v = some (.int res) ∧ u' = u)) args s 0 0 (z_A g z_shR)) 2 [(0, .ref (z_ad g 0)), (1, .int x1), (2, .int q)] [] u := by
  unfold b_X10_isDealt_2 at h
  refine z_iload_n X 2 dX10_isDealt_2 rfl rfl (z_bipush X (v := 9) dX10_isDealt_3 (by decide) (z_icmp_ge X 125 dX10_isDealt_5 (by decide) (fun c1 => ?_) (fun c1 => ?_)))
  · replace h := z_ip c1 h
    refine z_sub [] [] rfl ?_
    exact hkx () h
  · replace h := z_in c1 h
    refine z_iconst X (v := 0) dX10_isDealt_8 (by decide) (z_istore_n X [(3, .int 0), (0, .ref (z_ad g 0)), (1, .int x1), (2, .int q)] dX10_isDealt_9 rfl (by decide) rfl (z_sub [1, 2, 3, 0] [(0, .ref (z_ad g 0)), (1, .int x1), (2, .int q), (3, .int 0)] rfl ?_))
    have hw := z_lp_w (fun q9 kb9 kx9 h1 h2 h3 => wb_X10_isDealt_10 (l := l) (e := e) (below := below) (u := u) hR X x1 q q9 kb9 kx9 h1 h2 h3) z_F _ _ h
    refine hw (fun t20 h => ?_)
    refine z_iinc X (v := q + 1) 2 [(2, .int (q + 1)), (0, .ref (z_ad g 0)), (1, .int x1)] dX10_isDealt_119 rfl rfl (by decide) rfl (z_goto X 2 dX10_isDealt_122 (by decide) (z_sub [1, 2, 0] [(0, .ref (z_ad g 0)), (1, .int x1), (2, .int (q + 1))] rfl ?_))
    exact hkb (q + 1) h
set_option maxRecDepth 20000 in
set_option maxHeartbeats 4000000 in
theorem w_X10_isDealt (l : Launch) (g : z_G) (a1 : Int32) (u : z_M) {res : Int32} (h : f_X10_isDealt a1 u = some res) : z_C l g z_shR yX10_isDealt wsX10_isDealt 7 [.ref (z_ad g 0), .int a1] u (fun v u' => v = some (.int res) ∧ u' = u) := by
  refine z_C.mk (lv := [(0, .ref (z_ad g 0)), (1, .int a1)]) (cc := cX10_isDealt) (nL := 6) (rt := (some .boolean)) rfl (by decide) (Nat.le_of_ble_eq_true rfl) rfl (fun p e R s m args below meth c hR X => ?_)
  unfold f_X10_isDealt at h
  refine z_iconst X (v := 0) dX10_isDealt_0 (by decide) (z_istore_n X [(2, .int 0), (0, .ref (z_ad g 0)), (1, .int a1)] dX10_isDealt_1 rfl (by decide) rfl (z_sub [1, 2, 0] [(0, .ref (z_ad g 0)), (1, .int a1), (2, .int 0)] rfl ?_))
  have hw := z_lp_w (fun q9 kb9 kx9 h1 h2 h3 => wb_X10_isDealt_2 (l := l) (e := e) (below := below) (u := u) hR X a1 q9 kb9 kx9 h1 h2 h3) z_F _ _ h
  refine hw (fun t21 h => ?_)
  refine z_iconst X (v := 1) dX10_isDealt_125 (by decide) ?_
  cases h; exact z_zret X rfl rfl dX10_isDealt_126 ⟨rfl, rfl⟩

theorem lk_X10_isRow_9 : (Cond.fieldLink RX10 9 RX10 (TX10 1).2.1 (TX10 1).2.2.1) ∈ wsX10_isRow := by decide +kernel
theorem in_X10_isRow_X10 : ∀ w ∈ u_ws RX10 TX10 30, w ∈ wsX10_isRow := by decide +kernel
def f_X10_isRow (u : z_M) : Option (Int32) :=
  Option.bind (f_X10_pairs u) (fun r1 => z_gd (z_inb 1 93) (Option.bind (f_X10_bits (z_gI u 1 (1 : Int32).toNatClampNeg)) (fun r3 => z_gd (z_inb 1 93) (Option.bind (f_X10_bits (z_gI u 1 (1 : Int32).toNatClampNeg)) (fun r5 => if r1 = ((r3 * (r5 - 1)) / 2) then (some 1) else (some 0))))))
set_option maxRecDepth 20000 in
set_option maxHeartbeats 4000000 in
theorem w_X10_isRow (l : Launch) (g : z_G)  (u : z_M) {res : Int32} (h : f_X10_isRow u = some res) : z_C l g z_shR yX10_isRow wsX10_isRow 3 [.ref (z_ad g 0)] u (fun v u' => v = some (.int res) ∧ u' = u) := by
  refine z_C.mk (lv := [(0, .ref (z_ad g 0))]) (cc := cX10_isRow) (nL := 1) (rt := (some .boolean)) rfl (by decide) (Nat.le_of_ble_eq_true rfl) rfl (fun p e R s m args below meth c hR X => ?_)
  unfold f_X10_isRow at h
  obtain ⟨r1, er1, h⟩ := z_bs h
  obtain ⟨b2, h⟩ := z_gs h
  obtain ⟨r3, er3, h⟩ := z_bs h
  obtain ⟨b4, h⟩ := z_gs h
  obtain ⟨r5, er5, h⟩ := z_bs h
  refine z_aload_n X 0 dX10_isRow_0 rfl rfl (z_callVi X (r := r1) (u1 := u) [] [] (w_X10_pairs l g u er1) z_r0 rfl gX10_isRow_X10_pairs hy_X10_pairs rfl (z_le1 hR (by decide)) (z_le2 hR (by decide) (by decide)) (Nat.le_of_ble_eq_true rfl) dX10_isRow_1 (z_aload_n X 0 dX10_isRow_4 rfl rfl (z_getR X (k0 := 1) z_r0 rfl in_X10_isRow_X10 (by decide) rfl rfl lk_X10_isRow_9 dX10_isRow_5 (z_iconst X (v := 1) dX10_isRow_8 (by decide) (z_iald X z_r1 (z_inS b2) dX10_isRow_9 (z_callSi X (r := r3) (u1 := u) [.int (z_gI u 1 (1 : Int32).toNatClampNeg)] [.int r1] (w_X10_bits l g (z_gI u 1 (1 : Int32).toNatClampNeg) u er3) gX10_isRow_X10_bits hy_X10_bits.2 rfl (z_le1 hR (by decide)) (z_le2 hR (by decide) (by decide)) (Nat.le_of_ble_eq_true rfl) dX10_isRow_10 (z_aload_n X 0 dX10_isRow_13 rfl rfl (z_getR X (k0 := 1) z_r0 rfl in_X10_isRow_X10 (by decide) rfl rfl lk_X10_isRow_9 dX10_isRow_14 (z_iconst X (v := 1) dX10_isRow_17 (by decide) (z_iald X z_r1 (z_inS b4) dX10_isRow_18 (z_callSi X (r := r5) (u1 := u) [.int (z_gI u 1 (1 : Int32).toNatClampNeg)] [.int r3, .int r1] (w_X10_bits l g (z_gI u 1 (1 : Int32).toNatClampNeg) u er5) gX10_isRow_X10_bits hy_X10_bits.2 rfl (z_le1 hR (by decide)) (z_le2 hR (by decide) (by decide)) (Nat.le_of_ble_eq_true rfl) dX10_isRow_19 (z_iconst X (v := 1) dX10_isRow_22 (by decide) (z_isub X dX10_isRow_23 (z_imul X dX10_isRow_24 (z_iconst X (v := 2) dX10_isRow_25 (by decide) (z_idiv X dX10_isRow_26 (by decide) (z_icmp_ne X 34 dX10_isRow_27 (by decide) (fun c6 => ?_) (fun c6 => ?_))))))))))))))))))
  · replace h := z_in c6 h
    refine z_iconst X (v := 0) dX10_isRow_34 (by decide) ?_
    cases h; exact z_zret X rfl rfl dX10_isRow_35 ⟨rfl, rfl⟩
  · replace h := z_ip c6 h
    refine z_iconst X (v := 1) dX10_isRow_30 (by decide) (z_goto X 35 dX10_isRow_31 (by decide) ?_)
    cases h; exact z_zret X rfl rfl dX10_isRow_35 ⟨rfl, rfl⟩

theorem lk_X10_kind_82 : (Cond.fieldLink RX10 82 RX10 (TX10 0).2.1 (TX10 0).2.2.1) ∈ wsX10_kind := by decide +kernel
theorem in_X10_kind_X10 : ∀ w ∈ u_ws RX10 TX10 30, w ∈ wsX10_kind := fun _ h => List.mem_cons_of_mem _ (List.mem_append_right _ h)
theorem ct252_X10_kind : Cond.constantLong RX10 252 5 ∈ wsX10_kind := by decide +kernel
theorem lk_X10_kind_9 : (Cond.fieldLink RX10 9 RX10 (TX10 1).2.1 (TX10 1).2.2.1) ∈ wsX10_kind := by decide +kernel
theorem hy_X10_hasAllJoins : yX10_hasAllJoins.cls = RX10 ∧ yX10_hasAllJoins.cls ≠ "java/lang/invoke/MethodHandle" ∧ yX10_hasAllJoins.cls ≠ "java/lang/invoke/VarHandle" ∧ (parseMethodDescriptor yX10_hasAllJoins.desc).map (fun d => d.parameters.length) = some 0 := by decide +kernel
theorem hy_X10_isDealt : yX10_isDealt.cls = RX10 ∧ yX10_isDealt.cls ≠ "java/lang/invoke/MethodHandle" ∧ yX10_isDealt.cls ≠ "java/lang/invoke/VarHandle" ∧ (parseMethodDescriptor yX10_isDealt.desc).map (fun d => d.parameters.length) = some 1 := by decide +kernel
theorem hy_X10_isEven : yX10_isEven.cls = RX10 ∧ yX10_isEven.cls ≠ "java/lang/invoke/MethodHandle" ∧ yX10_isEven.cls ≠ "java/lang/invoke/VarHandle" ∧ (parseMethodDescriptor yX10_isEven.desc).map (fun d => d.parameters.length) = some 0 := by decide +kernel
theorem hy_X10_isRow : yX10_isRow.cls = RX10 ∧ yX10_isRow.cls ≠ "java/lang/invoke/MethodHandle" ∧ yX10_isRow.cls ≠ "java/lang/invoke/VarHandle" ∧ (parseMethodDescriptor yX10_isRow.desc).map (fun d => d.parameters.length) = some 0 := by decide +kernel
def f_X10_kind (a1 : Int32) (u : z_M) : Option (Int32 × z_M) :=
  z_lt (z_sI u 0 0 0) (fun u1 => Option.bind (f_X10_isTold u1) (fun r2 => if r2 = 0 then (some ((-1), u1)) else (Option.bind (f_X10_isIn a1.toInt64 0 5) (fun r4 => if r4 = 0 then (some ((-1), u1)) else (if a1 = 0 then (z_gd (z_inb 1 93) (Option.bind (f_X10_leastOf (z_gI u1 1 (1 : Int32).toNatClampNeg) u1) (fun r7 => if r7 < 0 then (some (0, u1)) else (z_gd (z_inb 1 93) (Option.bind (f_X10_greatestOf (z_gI u1 1 (1 : Int32).toNatClampNeg) u1) (fun r10 => if r10 < 0 then (some (0, u1)) else (some (1, u1)))))))) else (if a1 = 1 then (z_b2 (f_X10_isEven u1) (fun r12 u13 => if r12 = 0 then (some (0, u13)) else (some (1, u13)))) else (if a1 = 2 then (Option.bind (f_X10_hasAllJoins u1) (fun r15 => if r15 = 0 then (some (0, u1)) else (some (1, u1)))) else (if a1 = 3 then (Option.bind (f_X10_hasAllJoins u1) (fun r17 => if r17 = 0 then (some (0, u1)) else (Option.bind (f_X10_isDealt 0 u1) (fun r19 => if r19 = 0 then (some (0, u1)) else (some (1, u1)))))) else (if a1 = 4 then (Option.bind (f_X10_hasAllJoins u1) (fun r21 => if r21 = 0 then (some (0, u1)) else (Option.bind (f_X10_isDealt 1 u1) (fun r23 => if r23 = 0 then (some (0, u1)) else (some (1, u1)))))) else (Option.bind (f_X10_isRow u1) (fun r25 => if r25 = 0 then (some (0, u1)) else (some (1, u1)))))))))))))
set_option maxRecDepth 20000 in
set_option maxHeartbeats 4000000 in
theorem w_X10_kind (l : Launch) (g : z_G) (a1 : Int32) (u : z_M) {res : Int32 × z_M} (h : f_X10_kind a1 u = some res) : z_C l g z_shR yX10_kind wsX10_kind 8 [.ref (z_ad g 0), .int a1] u (fun v u' => v = some (.int res.1) ∧ u' = res.2) := by
  refine z_C.mk (lv := [(0, .ref (z_ad g 0)), (1, .int a1)]) (cc := cX10_kind) (nL := 3) (rt := (some .int)) rfl (by decide) (Nat.le_of_ble_eq_true rfl) rfl (fun p e R s m args below meth c hR X => ?_)
  unfold f_X10_kind at h
  obtain ⟨u1, eu1, h⟩ := z_ls h
  obtain ⟨r2, er2, h⟩ := z_bs h
  refine z_aload_n X 0 dX10_kind_0 rfl rfl (z_iconst X (v := 0) dX10_kind_1 (by decide) (z_putI X (k0 := 0) (ty0 := tyX10) z_r0 rfl in_X10_kind_X10 tyX10_ok nmX10 (by decide) rfl rfl rfl rfl rfl lk_X10_kind_82 dX10_kind_2 (z_nm eu1 (z_aload_n X 0 dX10_kind_5 rfl rfl (z_callVi X (r := r2) (u1 := u1) [] [] (w_X10_isTold l g u1 er2) z_r0 rfl gX10_kind_X10_isTold hy_X10_isTold rfl (z_le1 hR (by decide)) (z_le2 hR (by decide) (by decide)) (Nat.le_of_ble_eq_true rfl) dX10_kind_6 (z_if_eq X 24 dX10_kind_9 (by decide) (fun c3 => ?_) (fun c3 => ?_)))))))
  · replace h := z_ip c3 h
    refine z_iconst X (v := (-1)) dX10_kind_24 (by decide) ?_
    cases h; exact z_iret X rfl dX10_kind_25 ⟨rfl, rfl⟩
  · replace h := z_in c3 h
    obtain ⟨r4, er4, h⟩ := z_bs h
    refine z_iload_n X 1 dX10_kind_12 rfl rfl (z_i2l X dX10_kind_13 (z_lconst X (v := 0) dX10_kind_14 (by decide) (z_ldc2 X dX10_kind_15 ct252_X10_kind (z_callSi X (r := r4) (u1 := u1) [.long a1.toInt64, .long 0, .long 5] [] (w_X10_isIn l g a1.toInt64 0 5 u1 er4) gX10_kind_X10_isIn hy_X10_isIn.2 rfl (z_le1 hR (by decide)) (z_le2 hR (by decide) (by decide)) (Nat.le_of_ble_eq_true rfl) dX10_kind_18 (z_if_ne X 26 dX10_kind_21 (by decide) (fun c5 => ?_) (fun c5 => ?_))))))
    · replace h := z_in c5 h
      refine z_iload_n X 1 dX10_kind_26 rfl rfl ?_
      by_cases c27 : a1 = 0
      · replace h := z_ip c27 h
        refine z_tabIn X 60 dX10_kind_27 (by rw [c27]; decide) (by rw [c27]; decide) (by rw [c27]; rfl) (by decide) ?_
        obtain ⟨b6, h⟩ := z_gs h
        obtain ⟨r7, er7, h⟩ := z_bs h
        refine z_aload_n X 0 dX10_kind_60 rfl rfl (z_aload_n X 0 dX10_kind_61 rfl rfl (z_getR X (k0 := 1) z_r0 rfl in_X10_kind_X10 (by decide) rfl rfl lk_X10_kind_9 dX10_kind_62 (z_iconst X (v := 1) dX10_kind_65 (by decide) (z_iald X z_r1 (z_inS b6) dX10_kind_66 (z_callVi X (r := r7) (u1 := u1) [.int (z_gI u1 1 (1 : Int32).toNatClampNeg)] [] (w_X10_leastOf l g (z_gI u1 1 (1 : Int32).toNatClampNeg) u1 er7) z_r0 rfl gX10_kind_X10_leastOf hy_X10_leastOf rfl (z_le1 hR (by decide)) (z_le2 hR (by decide) (by decide)) (Nat.le_of_ble_eq_true rfl) dX10_kind_67 (z_if_lt X 90 dX10_kind_70 (by decide) (fun c8 => ?_) (fun c8 => ?_)))))))
        · replace h := z_ip c8 h
          refine z_iconst X (v := 0) dX10_kind_90 (by decide) (z_istore_n X [(2, .int 0), (0, .ref (z_ad g 0)), (1, .int a1)] dX10_kind_91 rfl (by decide) rfl (z_goto X 164 dX10_kind_92 (by decide) (z_iload_n X 0 dX10_kind_164 rfl rfl (z_if_eqT X 172 dX10_kind_165 (by decide) (by decide) (z_iconst X (v := 0) dX10_kind_172 (by decide) ?_)))))
          cases h; exact z_iret X rfl dX10_kind_173 ⟨rfl, rfl⟩
        · replace h := z_in c8 h
          obtain ⟨b9, h⟩ := z_gs h
          obtain ⟨r10, er10, h⟩ := z_bs h
          refine z_aload_n X 0 dX10_kind_73 rfl rfl (z_aload_n X 0 dX10_kind_74 rfl rfl (z_getR X (k0 := 1) z_r0 rfl in_X10_kind_X10 (by decide) rfl rfl lk_X10_kind_9 dX10_kind_75 (z_iconst X (v := 1) dX10_kind_78 (by decide) (z_iald X z_r1 (z_inS b9) dX10_kind_79 (z_callVi X (r := r10) (u1 := u1) [.int (z_gI u1 1 (1 : Int32).toNatClampNeg)] [] (w_X10_greatestOf l g (z_gI u1 1 (1 : Int32).toNatClampNeg) u1 er10) z_r0 rfl gX10_kind_X10_greatestOf hy_X10_greatestOf rfl (z_le1 hR (by decide)) (z_le2 hR (by decide) (by decide)) (Nat.le_of_ble_eq_true rfl) dX10_kind_80 (z_if_lt X 90 dX10_kind_83 (by decide) (fun c11 => ?_) (fun c11 => ?_)))))))
          · replace h := z_ip c11 h
            refine z_iconst X (v := 0) dX10_kind_90 (by decide) (z_istore_n X [(2, .int 0), (0, .ref (z_ad g 0)), (1, .int a1)] dX10_kind_91 rfl (by decide) rfl (z_goto X 164 dX10_kind_92 (by decide) (z_iload_n X 0 dX10_kind_164 rfl rfl (z_if_eqT X 172 dX10_kind_165 (by decide) (by decide) (z_iconst X (v := 0) dX10_kind_172 (by decide) ?_)))))
            cases h; exact z_iret X rfl dX10_kind_173 ⟨rfl, rfl⟩
          · replace h := z_in c11 h
            refine z_iconst X (v := 1) dX10_kind_86 (by decide) (z_goto X 91 dX10_kind_87 (by decide) (z_istore_n X [(2, .int 1), (0, .ref (z_ad g 0)), (1, .int a1)] dX10_kind_91 rfl (by decide) rfl (z_goto X 164 dX10_kind_92 (by decide) (z_iload_n X 0 dX10_kind_164 rfl rfl (z_if_eqF X 172 dX10_kind_165 (by decide) (by decide) (z_iconst X (v := 1) dX10_kind_168 (by decide) (z_goto X 173 dX10_kind_169 (by decide) ?_)))))))
            cases h; exact z_iret X rfl dX10_kind_173 ⟨rfl, rfl⟩
      replace h := z_in c27 h
      by_cases c28 : a1 = 1
      · replace h := z_ip c28 h
        refine z_tabIn X 95 dX10_kind_27 (by rw [c28]; decide) (by rw [c28]; decide) (by rw [c28]; rfl) (by decide) ?_
        obtain ⟨r12, u13, er12, h⟩ := z_b2s h
        refine z_aload_n X 0 dX10_kind_95 rfl rfl (z_callVi X (r := r12) (u1 := u13) [] [] (w_X10_isEven l g u1 er12) z_r0 rfl gX10_kind_X10_isEven hy_X10_isEven rfl (z_le1 hR (by decide)) (z_le2 hR (by decide) (by decide)) (Nat.le_of_ble_eq_true rfl) dX10_kind_96 (z_istore_n X [(2, .int r12), (0, .ref (z_ad g 0)), (1, .int a1)] dX10_kind_99 rfl (by decide) rfl (z_goto X 164 dX10_kind_100 (by decide) (z_iload_n X 0 dX10_kind_164 rfl rfl (z_if_eq X 172 dX10_kind_165 (by decide) (fun c14 => ?_) (fun c14 => ?_))))))
        · replace h := z_ip c14 h
          refine z_iconst X (v := 0) dX10_kind_172 (by decide) ?_
          cases h; exact z_iret X rfl dX10_kind_173 ⟨rfl, rfl⟩
        · replace h := z_in c14 h
          refine z_iconst X (v := 1) dX10_kind_168 (by decide) (z_goto X 173 dX10_kind_169 (by decide) ?_)
          cases h; exact z_iret X rfl dX10_kind_173 ⟨rfl, rfl⟩
      replace h := z_in c28 h
      by_cases c29 : a1 = 2
      · replace h := z_ip c29 h
        refine z_tabIn X 103 dX10_kind_27 (by rw [c29]; decide) (by rw [c29]; decide) (by rw [c29]; rfl) (by decide) ?_
        obtain ⟨r15, er15, h⟩ := z_bs h
        refine z_aload_n X 0 dX10_kind_103 rfl rfl (z_callVi X (r := r15) (u1 := u1) [] [] (w_X10_hasAllJoins l g u1 er15) z_r0 rfl gX10_kind_X10_hasAllJoins hy_X10_hasAllJoins rfl (z_le1 hR (by decide)) (z_le2 hR (by decide) (by decide)) (Nat.le_of_ble_eq_true rfl) dX10_kind_104 (z_istore_n X [(2, .int r15), (0, .ref (z_ad g 0)), (1, .int a1)] dX10_kind_107 rfl (by decide) rfl (z_goto X 164 dX10_kind_108 (by decide) (z_iload_n X 0 dX10_kind_164 rfl rfl (z_if_eq X 172 dX10_kind_165 (by decide) (fun c16 => ?_) (fun c16 => ?_))))))
        · replace h := z_ip c16 h
          refine z_iconst X (v := 0) dX10_kind_172 (by decide) ?_
          cases h; exact z_iret X rfl dX10_kind_173 ⟨rfl, rfl⟩
        · replace h := z_in c16 h
          refine z_iconst X (v := 1) dX10_kind_168 (by decide) (z_goto X 173 dX10_kind_169 (by decide) ?_)
          cases h; exact z_iret X rfl dX10_kind_173 ⟨rfl, rfl⟩
      replace h := z_in c29 h
      by_cases c30 : a1 = 3
      · replace h := z_ip c30 h
        refine z_tabIn X 111 dX10_kind_27 (by rw [c30]; decide) (by rw [c30]; decide) (by rw [c30]; rfl) (by decide) ?_
        obtain ⟨r17, er17, h⟩ := z_bs h
        refine z_aload_n X 0 dX10_kind_111 rfl rfl (z_callVi X (r := r17) (u1 := u1) [] [] (w_X10_hasAllJoins l g u1 er17) z_r0 rfl gX10_kind_X10_hasAllJoins hy_X10_hasAllJoins rfl (z_le1 hR (by decide)) (z_le2 hR (by decide) (by decide)) (Nat.le_of_ble_eq_true rfl) dX10_kind_112 (z_if_eq X 130 dX10_kind_115 (by decide) (fun c18 => ?_) (fun c18 => ?_)))
        · replace h := z_ip c18 h
          refine z_iconst X (v := 0) dX10_kind_130 (by decide) (z_istore_n X [(2, .int 0), (0, .ref (z_ad g 0)), (1, .int a1)] dX10_kind_131 rfl (by decide) rfl (z_goto X 164 dX10_kind_132 (by decide) (z_iload_n X 0 dX10_kind_164 rfl rfl (z_if_eqT X 172 dX10_kind_165 (by decide) (by decide) (z_iconst X (v := 0) dX10_kind_172 (by decide) ?_)))))
          cases h; exact z_iret X rfl dX10_kind_173 ⟨rfl, rfl⟩
        · replace h := z_in c18 h
          obtain ⟨r19, er19, h⟩ := z_bs h
          refine z_aload_n X 0 dX10_kind_118 rfl rfl (z_iconst X (v := 0) dX10_kind_119 (by decide) (z_callVi X (r := r19) (u1 := u1) [.int 0] [] (w_X10_isDealt l g 0 u1 er19) z_r0 rfl gX10_kind_X10_isDealt hy_X10_isDealt rfl (z_le1 hR (by decide)) (z_le2 hR (by decide) (by decide)) (Nat.le_of_ble_eq_true rfl) dX10_kind_120 (z_if_eq X 130 dX10_kind_123 (by decide) (fun c20 => ?_) (fun c20 => ?_))))
          · replace h := z_ip c20 h
            refine z_iconst X (v := 0) dX10_kind_130 (by decide) (z_istore_n X [(2, .int 0), (0, .ref (z_ad g 0)), (1, .int a1)] dX10_kind_131 rfl (by decide) rfl (z_goto X 164 dX10_kind_132 (by decide) (z_iload_n X 0 dX10_kind_164 rfl rfl (z_if_eqT X 172 dX10_kind_165 (by decide) (by decide) (z_iconst X (v := 0) dX10_kind_172 (by decide) ?_)))))
            cases h; exact z_iret X rfl dX10_kind_173 ⟨rfl, rfl⟩
          · replace h := z_in c20 h
            refine z_iconst X (v := 1) dX10_kind_126 (by decide) (z_goto X 131 dX10_kind_127 (by decide) (z_istore_n X [(2, .int 1), (0, .ref (z_ad g 0)), (1, .int a1)] dX10_kind_131 rfl (by decide) rfl (z_goto X 164 dX10_kind_132 (by decide) (z_iload_n X 0 dX10_kind_164 rfl rfl (z_if_eqF X 172 dX10_kind_165 (by decide) (by decide) (z_iconst X (v := 1) dX10_kind_168 (by decide) (z_goto X 173 dX10_kind_169 (by decide) ?_)))))))
            cases h; exact z_iret X rfl dX10_kind_173 ⟨rfl, rfl⟩
      replace h := z_in c30 h
      by_cases c31 : a1 = 4
      · replace h := z_ip c31 h
        refine z_tabIn X 135 dX10_kind_27 (by rw [c31]; decide) (by rw [c31]; decide) (by rw [c31]; rfl) (by decide) ?_
        obtain ⟨r21, er21, h⟩ := z_bs h
        refine z_aload_n X 0 dX10_kind_135 rfl rfl (z_callVi X (r := r21) (u1 := u1) [] [] (w_X10_hasAllJoins l g u1 er21) z_r0 rfl gX10_kind_X10_hasAllJoins hy_X10_hasAllJoins rfl (z_le1 hR (by decide)) (z_le2 hR (by decide) (by decide)) (Nat.le_of_ble_eq_true rfl) dX10_kind_136 (z_if_eq X 154 dX10_kind_139 (by decide) (fun c22 => ?_) (fun c22 => ?_)))
        · replace h := z_ip c22 h
          refine z_iconst X (v := 0) dX10_kind_154 (by decide) (z_istore_n X [(2, .int 0), (0, .ref (z_ad g 0)), (1, .int a1)] dX10_kind_155 rfl (by decide) rfl (z_goto X 164 dX10_kind_156 (by decide) (z_iload_n X 0 dX10_kind_164 rfl rfl (z_if_eqT X 172 dX10_kind_165 (by decide) (by decide) (z_iconst X (v := 0) dX10_kind_172 (by decide) ?_)))))
          cases h; exact z_iret X rfl dX10_kind_173 ⟨rfl, rfl⟩
        · replace h := z_in c22 h
          obtain ⟨r23, er23, h⟩ := z_bs h
          refine z_aload_n X 0 dX10_kind_142 rfl rfl (z_iconst X (v := 1) dX10_kind_143 (by decide) (z_callVi X (r := r23) (u1 := u1) [.int 1] [] (w_X10_isDealt l g 1 u1 er23) z_r0 rfl gX10_kind_X10_isDealt hy_X10_isDealt rfl (z_le1 hR (by decide)) (z_le2 hR (by decide) (by decide)) (Nat.le_of_ble_eq_true rfl) dX10_kind_144 (z_if_eq X 154 dX10_kind_147 (by decide) (fun c24 => ?_) (fun c24 => ?_))))
          · replace h := z_ip c24 h
            refine z_iconst X (v := 0) dX10_kind_154 (by decide) (z_istore_n X [(2, .int 0), (0, .ref (z_ad g 0)), (1, .int a1)] dX10_kind_155 rfl (by decide) rfl (z_goto X 164 dX10_kind_156 (by decide) (z_iload_n X 0 dX10_kind_164 rfl rfl (z_if_eqT X 172 dX10_kind_165 (by decide) (by decide) (z_iconst X (v := 0) dX10_kind_172 (by decide) ?_)))))
            cases h; exact z_iret X rfl dX10_kind_173 ⟨rfl, rfl⟩
          · replace h := z_in c24 h
            refine z_iconst X (v := 1) dX10_kind_150 (by decide) (z_goto X 155 dX10_kind_151 (by decide) (z_istore_n X [(2, .int 1), (0, .ref (z_ad g 0)), (1, .int a1)] dX10_kind_155 rfl (by decide) rfl (z_goto X 164 dX10_kind_156 (by decide) (z_iload_n X 0 dX10_kind_164 rfl rfl (z_if_eqF X 172 dX10_kind_165 (by decide) (by decide) (z_iconst X (v := 1) dX10_kind_168 (by decide) (z_goto X 173 dX10_kind_169 (by decide) ?_)))))))
            cases h; exact z_iret X rfl dX10_kind_173 ⟨rfl, rfl⟩
      replace h := z_in c31 h
      refine z_tabOut X 159 dX10_kind_27 (by have kc27 := lv_neT (a := 0) c27 (by decide); have kc28 := lv_neT (a := 1) c28 (by decide); have kc29 := lv_neT (a := 2) c29 (by decide); have kc30 := lv_neT (a := 3) c30 (by decide); have kc31 := lv_neT (a := 4) c31 (by decide); omega) (by decide) ?_
      obtain ⟨r25, er25, h⟩ := z_bs h
      refine z_aload_n X 0 dX10_kind_159 rfl rfl (z_callVi X (r := r25) (u1 := u1) [] [] (w_X10_isRow l g u1 er25) z_r0 rfl gX10_kind_X10_isRow hy_X10_isRow rfl (z_le1 hR (by decide)) (z_le2 hR (by decide) (by decide)) (Nat.le_of_ble_eq_true rfl) dX10_kind_160 (z_istore_n X [(2, .int r25), (0, .ref (z_ad g 0)), (1, .int a1)] dX10_kind_163 rfl (by decide) rfl (z_iload_n X 0 dX10_kind_164 rfl rfl (z_if_eq X 172 dX10_kind_165 (by decide) (fun c26 => ?_) (fun c26 => ?_)))))
      · replace h := z_ip c26 h
        refine z_iconst X (v := 0) dX10_kind_172 (by decide) ?_
        cases h; exact z_iret X rfl dX10_kind_173 ⟨rfl, rfl⟩
      · replace h := z_in c26 h
        refine z_iconst X (v := 1) dX10_kind_168 (by decide) (z_goto X 173 dX10_kind_169 (by decide) ?_)
        cases h; exact z_iret X rfl dX10_kind_173 ⟨rfl, rfl⟩
    · replace h := z_ip c5 h
      refine z_iconst X (v := (-1)) dX10_kind_24 (by decide) ?_
      cases h; exact z_iret X rfl dX10_kind_25 ⟨rfl, rfl⟩

def b_X10_someAbove_4 (x1 : Int32) (u : z_M) : (Int32 × Int32) → ((Int32 × Int32) → Option (Int32)) → (Int32 → Option (Int32)) → Option (Int32) := fun q kb kx =>
  if 9 ≤ q.2 then (kx q.1) else (Option.bind (f_X10_has x1 q.2) (fun r2 => if r2 = 0 then (z_lt (q.1 ||| 0) (fun v4 => kb (v4, q.2 + 1))) else (Option.bind (f_X10_above q.2 u) (fun r5 => z_lt (q.1 ||| r5) (fun v6 => kb (v6, q.2 + 1))))))
def f_X10_someAbove (a1 : Int32) (u : z_M) : Option (Int32) :=
  z_lp (b_X10_someAbove_4 a1 u) z_F (0, 0) (fun t7 => some t7)
set_option maxRecDepth 20000 in
set_option maxHeartbeats 4000000 in
theorem wb_X10_someAbove_4 {p : Program} {l : Launch} {e : Env} {R : Room} {s : State} {m : MethodId} {args : Array Value} {below : List Frame} {meth : Method} {c : Code} {g : z_G} {u : z_M} {res : Int32} (hR : R = z_rm 2) (X : z_X p R s m args meth c cX10_someAbove 4 RX10 wsX10_someAbove (some .int) g z_shR) (x1 : Int32) (q : Int32 × Int32) (kb : (Int32 × Int32) → Option (Int32)) (kx : Int32 → Option (Int32)) (hkb : ∀ q, kb q = some res → z_V p l e R s m args below meth c 4 g z_shR (MQ below (z_Qc g z_shR (fun v u' => v = some (.int res) ∧ u' = u)) args s 0 0 (z_A g z_shR)) 4 [(0, .ref (z_ad g 0)), (1, .int x1), (2, .int q.1), (3, .int q.2)] [] u) (hkx : ∀ t, kx t = some res → z_V p l e R s m args below meth c 4 g z_shR (MQ below (z_Qc g z_shR (fun v u' => v = some (.int res) ∧ u' = u)) args s 0 0 (z_A g z_shR)) 36 [(2, .int t)] [] u) (h : b_X10_someAbove_4 x1 u q kb kx = some res) : z_V p l e R s m args below meth c 4 g z_shR (MQ below (z_Qc g z_shR (fun v u' => v = some (.int res) ∧ u' = u)) args s 0 0 (z_A g z_shR)) 4 [(0, .ref (z_ad g 0)), (1, .int x1), (2, .int q.1), (3, .int q.2)] [] u := by
  unfold b_X10_someAbove_4 at h
  refine z_iload_n X 3 dX10_someAbove_4 rfl rfl (z_bipush X (v := 9) dX10_someAbove_5 (by decide) (z_icmp_ge X 36 dX10_someAbove_7 (by decide) (fun c1 => ?_) (fun c1 => ?_)))
  · replace h := z_ip c1 h
    refine z_sub [2] [(2, .int q.1)] rfl ?_
    exact hkx q.1 h
  · replace h := z_in c1 h
    obtain ⟨r2, er2, h⟩ := z_bs h
    refine z_iload_n X 2 dX10_someAbove_10 rfl rfl (z_iload_n X 1 dX10_someAbove_11 rfl rfl (z_iload_n X 3 dX10_someAbove_12 rfl rfl (z_callSi X (r := r2) (u1 := u) [.int x1, .int q.2] [.int q.1] (w_X10_has l g x1 q.2 u er2) gX10_someAbove_X10_has hy_X10_has.2 rfl (z_le1 hR (by decide)) (z_le2 hR (by decide) (by decide)) (Nat.le_of_ble_eq_true rfl) dX10_someAbove_13 (z_if_eq X 27 dX10_someAbove_16 (by decide) (fun c3 => ?_) (fun c3 => ?_)))))
    · replace h := z_ip c3 h
      obtain ⟨v4, ev4, h⟩ := z_ls h
      refine z_iconst X (v := 0) dX10_someAbove_27 (by decide) (z_ior X dX10_someAbove_28 (z_ti ev4 (z_istore_n X [(2, .int v4), (0, .ref (z_ad g 0)), (1, .int x1), (3, .int q.2)] dX10_someAbove_29 rfl (by decide) rfl (z_iinc X (v := q.2 + 1) 3 [(3, .int (q.2 + 1)), (2, .int v4), (0, .ref (z_ad g 0)), (1, .int x1)] dX10_someAbove_30 rfl rfl (by decide) rfl (z_goto X 4 dX10_someAbove_33 (by decide) (z_sub [2, 3, 1, 0] [(0, .ref (z_ad g 0)), (1, .int x1), (2, .int v4), (3, .int (q.2 + 1))] rfl ?_))))))
      exact hkb (v4, q.2 + 1) h
    · replace h := z_in c3 h
      obtain ⟨r5, er5, h⟩ := z_bs h
      obtain ⟨v6, ev6, h⟩ := z_ls h
      refine z_aload_n X 0 dX10_someAbove_19 rfl rfl (z_iload_n X 3 dX10_someAbove_20 rfl rfl (z_callVi X (r := r5) (u1 := u) [.int q.2] [.int q.1] (w_X10_above l g q.2 u er5) z_r0 rfl gX10_someAbove_X10_above hy_X10_above rfl (z_le1 hR (by decide)) (z_le2 hR (by decide) (by decide)) (Nat.le_of_ble_eq_true rfl) dX10_someAbove_21 (z_goto X 28 dX10_someAbove_24 (by decide) (z_ior X dX10_someAbove_28 (z_ti ev6 (z_istore_n X [(2, .int v6), (0, .ref (z_ad g 0)), (1, .int x1), (3, .int q.2)] dX10_someAbove_29 rfl (by decide) rfl (z_iinc X (v := q.2 + 1) 3 [(3, .int (q.2 + 1)), (2, .int v6), (0, .ref (z_ad g 0)), (1, .int x1)] dX10_someAbove_30 rfl rfl (by decide) rfl (z_goto X 4 dX10_someAbove_33 (by decide) (z_sub [2, 3, 1, 0] [(0, .ref (z_ad g 0)), (1, .int x1), (2, .int v6), (3, .int (q.2 + 1))] rfl ?_)))))))))
      exact hkb (v6, q.2 + 1) h
set_option maxRecDepth 20000 in
set_option maxHeartbeats 4000000 in
theorem w_X10_someAbove (l : Launch) (g : z_G) (a1 : Int32) (u : z_M) {res : Int32} (h : f_X10_someAbove a1 u = some res) : z_C l g z_shR yX10_someAbove wsX10_someAbove 2 [.ref (z_ad g 0), .int a1] u (fun v u' => v = some (.int res) ∧ u' = u) := by
  refine z_C.mk (lv := [(0, .ref (z_ad g 0)), (1, .int a1)]) (cc := cX10_someAbove) (nL := 4) (rt := (some .int)) rfl (by decide) (Nat.le_of_ble_eq_true rfl) rfl (fun p e R s m args below meth c hR X => ?_)
  unfold f_X10_someAbove at h
  refine z_iconst X (v := 0) dX10_someAbove_0 (by decide) (z_istore_n X [(2, .int 0), (0, .ref (z_ad g 0)), (1, .int a1)] dX10_someAbove_1 rfl (by decide) rfl (z_iconst X (v := 0) dX10_someAbove_2 (by decide) (z_istore_n X [(3, .int 0), (2, .int 0), (0, .ref (z_ad g 0)), (1, .int a1)] dX10_someAbove_3 rfl (by decide) rfl (z_sub [2, 3, 1, 0] [(0, .ref (z_ad g 0)), (1, .int a1), (2, .int 0), (3, .int 0)] rfl ?_))))
  have hw := z_lp_w (fun q9 kb9 kx9 h1 h2 h3 => wb_X10_someAbove_4 (l := l) (e := e) (below := below) (u := u) hR X a1 q9 kb9 kx9 h1 h2 h3) z_F _ _ h
  refine hw (fun t7 h => ?_)
  refine z_iload_n X 0 dX10_someAbove_36 rfl rfl ?_
  cases h; exact z_iret X rfl dX10_someAbove_37 ⟨rfl, rfl⟩

def b_X10_someBelow_4 (x1 : Int32) (u : z_M) : (Int32 × Int32) → ((Int32 × Int32) → Option (Int32)) → (Int32 → Option (Int32)) → Option (Int32) := fun q kb kx =>
  if 9 ≤ q.2 then (kx q.1) else (Option.bind (f_X10_has x1 q.2) (fun r2 => if r2 = 0 then (z_lt (q.1 ||| 0) (fun v4 => kb (v4, q.2 + 1))) else (Option.bind (f_X10_below q.2 u) (fun r5 => z_lt (q.1 ||| r5) (fun v6 => kb (v6, q.2 + 1))))))
def f_X10_someBelow (a1 : Int32) (u : z_M) : Option (Int32) :=
  z_lp (b_X10_someBelow_4 a1 u) z_F (0, 0) (fun t7 => some t7)
set_option maxRecDepth 20000 in
set_option maxHeartbeats 4000000 in
theorem wb_X10_someBelow_4 {p : Program} {l : Launch} {e : Env} {R : Room} {s : State} {m : MethodId} {args : Array Value} {below : List Frame} {meth : Method} {c : Code} {g : z_G} {u : z_M} {res : Int32} (hR : R = z_rm 4) (X : z_X p R s m args meth c cX10_someBelow 4 RX10 wsX10_someBelow (some .int) g z_shR) (x1 : Int32) (q : Int32 × Int32) (kb : (Int32 × Int32) → Option (Int32)) (kx : Int32 → Option (Int32)) (hkb : ∀ q, kb q = some res → z_V p l e R s m args below meth c 4 g z_shR (MQ below (z_Qc g z_shR (fun v u' => v = some (.int res) ∧ u' = u)) args s 0 0 (z_A g z_shR)) 4 [(0, .ref (z_ad g 0)), (1, .int x1), (2, .int q.1), (3, .int q.2)] [] u) (hkx : ∀ t, kx t = some res → z_V p l e R s m args below meth c 4 g z_shR (MQ below (z_Qc g z_shR (fun v u' => v = some (.int res) ∧ u' = u)) args s 0 0 (z_A g z_shR)) 36 [(2, .int t)] [] u) (h : b_X10_someBelow_4 x1 u q kb kx = some res) : z_V p l e R s m args below meth c 4 g z_shR (MQ below (z_Qc g z_shR (fun v u' => v = some (.int res) ∧ u' = u)) args s 0 0 (z_A g z_shR)) 4 [(0, .ref (z_ad g 0)), (1, .int x1), (2, .int q.1), (3, .int q.2)] [] u := by
  unfold b_X10_someBelow_4 at h
  refine z_iload_n X 3 dX10_someBelow_4 rfl rfl (z_bipush X (v := 9) dX10_someBelow_5 (by decide) (z_icmp_ge X 36 dX10_someBelow_7 (by decide) (fun c1 => ?_) (fun c1 => ?_)))
  · replace h := z_ip c1 h
    refine z_sub [2] [(2, .int q.1)] rfl ?_
    exact hkx q.1 h
  · replace h := z_in c1 h
    obtain ⟨r2, er2, h⟩ := z_bs h
    refine z_iload_n X 2 dX10_someBelow_10 rfl rfl (z_iload_n X 1 dX10_someBelow_11 rfl rfl (z_iload_n X 3 dX10_someBelow_12 rfl rfl (z_callSi X (r := r2) (u1 := u) [.int x1, .int q.2] [.int q.1] (w_X10_has l g x1 q.2 u er2) gX10_someBelow_X10_has hy_X10_has.2 rfl (z_le1 hR (by decide)) (z_le2 hR (by decide) (by decide)) (Nat.le_of_ble_eq_true rfl) dX10_someBelow_13 (z_if_eq X 27 dX10_someBelow_16 (by decide) (fun c3 => ?_) (fun c3 => ?_)))))
    · replace h := z_ip c3 h
      obtain ⟨v4, ev4, h⟩ := z_ls h
      refine z_iconst X (v := 0) dX10_someBelow_27 (by decide) (z_ior X dX10_someBelow_28 (z_ti ev4 (z_istore_n X [(2, .int v4), (0, .ref (z_ad g 0)), (1, .int x1), (3, .int q.2)] dX10_someBelow_29 rfl (by decide) rfl (z_iinc X (v := q.2 + 1) 3 [(3, .int (q.2 + 1)), (2, .int v4), (0, .ref (z_ad g 0)), (1, .int x1)] dX10_someBelow_30 rfl rfl (by decide) rfl (z_goto X 4 dX10_someBelow_33 (by decide) (z_sub [2, 3, 1, 0] [(0, .ref (z_ad g 0)), (1, .int x1), (2, .int v4), (3, .int (q.2 + 1))] rfl ?_))))))
      exact hkb (v4, q.2 + 1) h
    · replace h := z_in c3 h
      obtain ⟨r5, er5, h⟩ := z_bs h
      obtain ⟨v6, ev6, h⟩ := z_ls h
      refine z_aload_n X 0 dX10_someBelow_19 rfl rfl (z_iload_n X 3 dX10_someBelow_20 rfl rfl (z_callVi X (r := r5) (u1 := u) [.int q.2] [.int q.1] (w_X10_below l g q.2 u er5) z_r0 rfl gX10_someBelow_X10_below hy_X10_below rfl (z_le1 hR (by decide)) (z_le2 hR (by decide) (by decide)) (Nat.le_of_ble_eq_true rfl) dX10_someBelow_21 (z_goto X 28 dX10_someBelow_24 (by decide) (z_ior X dX10_someBelow_28 (z_ti ev6 (z_istore_n X [(2, .int v6), (0, .ref (z_ad g 0)), (1, .int x1), (3, .int q.2)] dX10_someBelow_29 rfl (by decide) rfl (z_iinc X (v := q.2 + 1) 3 [(3, .int (q.2 + 1)), (2, .int v6), (0, .ref (z_ad g 0)), (1, .int x1)] dX10_someBelow_30 rfl rfl (by decide) rfl (z_goto X 4 dX10_someBelow_33 (by decide) (z_sub [2, 3, 1, 0] [(0, .ref (z_ad g 0)), (1, .int x1), (2, .int v6), (3, .int (q.2 + 1))] rfl ?_)))))))))
      exact hkb (v6, q.2 + 1) h
set_option maxRecDepth 20000 in
set_option maxHeartbeats 4000000 in
theorem w_X10_someBelow (l : Launch) (g : z_G) (a1 : Int32) (u : z_M) {res : Int32} (h : f_X10_someBelow a1 u = some res) : z_C l g z_shR yX10_someBelow wsX10_someBelow 4 [.ref (z_ad g 0), .int a1] u (fun v u' => v = some (.int res) ∧ u' = u) := by
  refine z_C.mk (lv := [(0, .ref (z_ad g 0)), (1, .int a1)]) (cc := cX10_someBelow) (nL := 4) (rt := (some .int)) rfl (by decide) (Nat.le_of_ble_eq_true rfl) rfl (fun p e R s m args below meth c hR X => ?_)
  unfold f_X10_someBelow at h
  refine z_iconst X (v := 0) dX10_someBelow_0 (by decide) (z_istore_n X [(2, .int 0), (0, .ref (z_ad g 0)), (1, .int a1)] dX10_someBelow_1 rfl (by decide) rfl (z_iconst X (v := 0) dX10_someBelow_2 (by decide) (z_istore_n X [(3, .int 0), (2, .int 0), (0, .ref (z_ad g 0)), (1, .int a1)] dX10_someBelow_3 rfl (by decide) rfl (z_sub [2, 3, 1, 0] [(0, .ref (z_ad g 0)), (1, .int a1), (2, .int 0), (3, .int 0)] rfl ?_))))
  have hw := z_lp_w (fun q9 kb9 kx9 h1 h2 h3 => wb_X10_someBelow_4 (l := l) (e := e) (below := below) (u := u) hR X a1 q9 kb9 kx9 h1 h2 h3) z_F _ _ h
  refine hw (fun t7 h => ?_)
  refine z_iload_n X 0 dX10_someBelow_36 rfl rfl ?_
  cases h; exact z_iret X rfl dX10_someBelow_37 ⟨rfl, rfl⟩

theorem lk_X10_width_82 : (Cond.fieldLink RX10 82 RX10 (TX10 0).2.1 (TX10 0).2.2.1) ∈ wsX10_width := by decide +kernel
theorem in_X10_width_X10 : ∀ w ∈ u_ws RX10 TX10 30, w ∈ wsX10_width := by decide +kernel
theorem lk_X10_width_9 : (Cond.fieldLink RX10 9 RX10 (TX10 1).2.1 (TX10 1).2.2.1) ∈ wsX10_width := by decide +kernel
theorem hy_X10_someAbove : yX10_someAbove.cls = RX10 ∧ yX10_someAbove.cls ≠ "java/lang/invoke/MethodHandle" ∧ yX10_someAbove.cls ≠ "java/lang/invoke/VarHandle" ∧ (parseMethodDescriptor yX10_someAbove.desc).map (fun d => d.parameters.length) = some 1 := by decide +kernel
def j_X10_width_j53 (x1 : Int32) (x2 : Int32) (x90 : Int32) (w : z_M) (kb : (Int32 × Int32) → Option (Int32 × z_M)) (kx : Int32 → Option (Int32 × z_M)) : Option (Int32 × z_M) :=
  if x90 = 0 then (kb (x1, x2 + 1)) else (Option.bind (f_X10_bits x2) (fun r10 => if r10 ≤ x1 then (kb (x1, x2 + 1)) else (Option.bind (f_X10_bits x2) (fun r12 => kb (r12, x2 + 1)))))
def j_X10_width_j52 (x1 : Int32) (x2 : Int32) (w : z_M) (kb : (Int32 × Int32) → Option (Int32 × z_M)) (kx : Int32 → Option (Int32 × z_M)) : Option (Int32 × z_M) :=
  j_X10_width_j53 x1 x2 0 w kb kx
def b_X10_width_18 (u : z_M) : (Int32 × Int32) → ((Int32 × Int32) → Option (Int32 × z_M)) → (Int32 → Option (Int32 × z_M)) → Option (Int32 × z_M) := fun q kb kx =>
  if 512 ≤ q.2 then (kx q.1) else (z_gd (z_inb 1 93) (if (q.2 &&& ((z_gI u 1 (1 : Int32).toNatClampNeg) ^^^ (-1))) = 0 then (Option.bind (f_X10_someAbove q.2 u) (fun r7 => if (r7 &&& q.2) = 0 then (j_X10_width_j53 q.1 q.2 1 u kb kx) else (j_X10_width_j52 q.1 q.2 u kb kx))) else (j_X10_width_j52 q.1 q.2 u kb kx)))
def f_X10_width (u : z_M) : Option (Int32 × z_M) :=
  z_lt (z_sI u 0 0 0) (fun u1 => Option.bind (f_X10_isTold u1) (fun r2 => if r2 = 0 then (some ((-1), u1)) else (z_lp (b_X10_width_18 u1) z_F (0, 1) (fun t13 => some (t13, u1)))))
set_option maxRecDepth 20000 in
set_option maxHeartbeats 4000000 in
theorem wj_X10_width_j53 {p : Program} {l : Launch} {e : Env} {R : Room} {s : State} {m : MethodId} {args : Array Value} {below : List Frame} {meth : Method} {c : Code} {g : z_G} {u : z_M} {res : Int32 × z_M} (hR : R = z_rm 3) (X : z_X p R s m args meth c cX10_width 4 RX10 wsX10_width (some .int) g z_shR) (x1 : Int32) (x2 : Int32) (x90 : Int32) (w : z_M) (ew : w = u) (kb : (Int32 × Int32) → Option (Int32 × z_M)) (kx : Int32 → Option (Int32 × z_M)) (hkb : ∀ q, kb q = some res → z_V p l e R s m args below meth c 4 g z_shR (MQ below (z_Qc g z_shR (fun v u' => v = some (.int res.1) ∧ u' = res.2)) args s 0 0 (z_A g z_shR)) 18 [(0, .ref (z_ad g 0)), (1, .int q.1), (2, .int q.2)] [] u) (hkx : ∀ t, kx t = some res → z_V p l e R s m args below meth c 4 g z_shR (MQ below (z_Qc g z_shR (fun v u' => v = some (.int res.1) ∧ u' = res.2)) args s 0 0 (z_A g z_shR)) 81 [(1, .int t)] [] u) (h : j_X10_width_j53 x1 x2 x90 w kb kx = some res) : z_V p l e R s m args below meth c 4 g z_shR (MQ below (z_Qc g z_shR (fun v u' => v = some (.int res.1) ∧ u' = res.2)) args s 0 0 (z_A g z_shR)) 53 [(0, .ref (z_ad g 0)), (1, .int x1), (2, .int x2)] [.int x90] w := by
  unfold j_X10_width_j53 at h
  subst ew
  refine z_istore_n X [(3, .int x90), (0, .ref (z_ad g 0)), (1, .int x1), (2, .int x2)] dX10_width_53 rfl (by decide) rfl (z_iload_n X 0 dX10_width_54 rfl rfl (z_if_eq X 73 dX10_width_55 (by decide) (fun c9 => ?_) (fun c9 => ?_)))
  · replace h := z_ip c9 h
    refine z_iload_n X 2 dX10_width_73 rfl rfl (z_istore_n X [(1, .int x1), (3, .int x90), (0, .ref (z_ad g 0)), (2, .int x2)] dX10_width_74 rfl (by decide) rfl (z_iinc X (v := x2 + 1) 3 [(2, .int (x2 + 1)), (1, .int x1), (3, .int x90), (0, .ref (z_ad g 0))] dX10_width_75 rfl rfl (by decide) rfl (z_goto X 18 dX10_width_78 (by decide) (z_sub [3, 1, 0] [(0, .ref (z_ad g 0)), (1, .int x1), (2, .int (x2 + 1))] rfl ?_))))
    exact hkb (x1, x2 + 1) h
  · replace h := z_in c9 h
    obtain ⟨r10, er10, h⟩ := z_bs h
    refine z_iload_n X 3 dX10_width_58 rfl rfl (z_callSi X (r := r10) (u1 := w) [.int x2] [] (w_X10_bits l g x2 w er10) gX10_width_X10_bits hy_X10_bits.2 rfl (z_le1 hR (by decide)) (z_le2 hR (by decide) (by decide)) (Nat.le_of_ble_eq_true rfl) dX10_width_59 (z_iload_n X 2 dX10_width_62 rfl rfl (z_icmp_le X 73 dX10_width_63 (by decide) (fun c11 => ?_) (fun c11 => ?_))))
    · replace h := z_ip c11 h
      refine z_iload_n X 2 dX10_width_73 rfl rfl (z_istore_n X [(1, .int x1), (3, .int x90), (0, .ref (z_ad g 0)), (2, .int x2)] dX10_width_74 rfl (by decide) rfl (z_iinc X (v := x2 + 1) 3 [(2, .int (x2 + 1)), (1, .int x1), (3, .int x90), (0, .ref (z_ad g 0))] dX10_width_75 rfl rfl (by decide) rfl (z_goto X 18 dX10_width_78 (by decide) (z_sub [3, 1, 0] [(0, .ref (z_ad g 0)), (1, .int x1), (2, .int (x2 + 1))] rfl ?_))))
      exact hkb (x1, x2 + 1) h
    · replace h := z_in c11 h
      obtain ⟨r12, er12, h⟩ := z_bs h
      refine z_iload_n X 3 dX10_width_66 rfl rfl (z_callSi X (r := r12) (u1 := w) [.int x2] [] (w_X10_bits l g x2 w er12) gX10_width_X10_bits hy_X10_bits.2 rfl (z_le1 hR (by decide)) (z_le2 hR (by decide) (by decide)) (Nat.le_of_ble_eq_true rfl) dX10_width_67 (z_goto X 74 dX10_width_70 (by decide) (z_istore_n X [(1, .int r12), (3, .int x90), (0, .ref (z_ad g 0)), (2, .int x2)] dX10_width_74 rfl (by decide) rfl (z_iinc X (v := x2 + 1) 3 [(2, .int (x2 + 1)), (1, .int r12), (3, .int x90), (0, .ref (z_ad g 0))] dX10_width_75 rfl rfl (by decide) rfl (z_goto X 18 dX10_width_78 (by decide) (z_sub [3, 1, 0] [(0, .ref (z_ad g 0)), (1, .int r12), (2, .int (x2 + 1))] rfl ?_))))))
      exact hkb (r12, x2 + 1) h
set_option maxRecDepth 20000 in
set_option maxHeartbeats 4000000 in
theorem wj_X10_width_j52 {p : Program} {l : Launch} {e : Env} {R : Room} {s : State} {m : MethodId} {args : Array Value} {below : List Frame} {meth : Method} {c : Code} {g : z_G} {u : z_M} {res : Int32 × z_M} (hR : R = z_rm 3) (X : z_X p R s m args meth c cX10_width 4 RX10 wsX10_width (some .int) g z_shR) (x1 : Int32) (x2 : Int32) (w : z_M) (ew : w = u) (kb : (Int32 × Int32) → Option (Int32 × z_M)) (kx : Int32 → Option (Int32 × z_M)) (hkb : ∀ q, kb q = some res → z_V p l e R s m args below meth c 4 g z_shR (MQ below (z_Qc g z_shR (fun v u' => v = some (.int res.1) ∧ u' = res.2)) args s 0 0 (z_A g z_shR)) 18 [(0, .ref (z_ad g 0)), (1, .int q.1), (2, .int q.2)] [] u) (hkx : ∀ t, kx t = some res → z_V p l e R s m args below meth c 4 g z_shR (MQ below (z_Qc g z_shR (fun v u' => v = some (.int res.1) ∧ u' = res.2)) args s 0 0 (z_A g z_shR)) 81 [(1, .int t)] [] u) (h : j_X10_width_j52 x1 x2 w kb kx = some res) : z_V p l e R s m args below meth c 4 g z_shR (MQ below (z_Qc g z_shR (fun v u' => v = some (.int res.1) ∧ u' = res.2)) args s 0 0 (z_A g z_shR)) 52 [(0, .ref (z_ad g 0)), (1, .int x1), (2, .int x2)] [] w := by
  unfold j_X10_width_j52 at h
  subst ew
  refine z_iconst X (v := 0) dX10_width_52 (by decide) ?_
  exact wj_X10_width_j53 (u := w) hR X x1 x2 0 w rfl kb kx hkb hkx h
set_option maxRecDepth 20000 in
set_option maxHeartbeats 4000000 in
theorem wb_X10_width_18 {p : Program} {l : Launch} {e : Env} {R : Room} {s : State} {m : MethodId} {args : Array Value} {below : List Frame} {meth : Method} {c : Code} {g : z_G} {u : z_M} {res : Int32 × z_M} (hR : R = z_rm 3) (X : z_X p R s m args meth c cX10_width 4 RX10 wsX10_width (some .int) g z_shR)  (q : Int32 × Int32) (kb : (Int32 × Int32) → Option (Int32 × z_M)) (kx : Int32 → Option (Int32 × z_M)) (hkb : ∀ q, kb q = some res → z_V p l e R s m args below meth c 4 g z_shR (MQ below (z_Qc g z_shR (fun v u' => v = some (.int res.1) ∧ u' = res.2)) args s 0 0 (z_A g z_shR)) 18 [(0, .ref (z_ad g 0)), (1, .int q.1), (2, .int q.2)] [] u) (hkx : ∀ t, kx t = some res → z_V p l e R s m args below meth c 4 g z_shR (MQ below (z_Qc g z_shR (fun v u' => v = some (.int res.1) ∧ u' = res.2)) args s 0 0 (z_A g z_shR)) 81 [(1, .int t)] [] u) (h : b_X10_width_18 u q kb kx = some res) : z_V p l e R s m args below meth c 4 g z_shR (MQ below (z_Qc g z_shR (fun v u' => v = some (.int res.1) ∧ u' = res.2)) args s 0 0 (z_A g z_shR)) 18 [(0, .ref (z_ad g 0)), (1, .int q.1), (2, .int q.2)] [] u := by
  unfold b_X10_width_18 at h
  refine z_iload_n X 2 dX10_width_18 rfl rfl (z_sipush X (v := 512) dX10_width_19 (by decide) (z_icmp_ge X 81 dX10_width_22 (by decide) (fun c4 => ?_) (fun c4 => ?_)))
  · replace h := z_ip c4 h
    refine z_sub [1] [(1, .int q.1)] rfl ?_
    exact hkx q.1 h
  · replace h := z_in c4 h
    obtain ⟨b5, h⟩ := z_gs h
    refine z_iload_n X 2 dX10_width_25 rfl rfl (z_aload_n X 0 dX10_width_26 rfl rfl (z_getR X (k0 := 1) z_r0 rfl in_X10_width_X10 (by decide) rfl rfl lk_X10_width_9 dX10_width_27 (z_iconst X (v := 1) dX10_width_30 (by decide) (z_iald X z_r1 (z_inS b5) dX10_width_31 (z_iconst X (v := (-1)) dX10_width_32 (by decide) (z_ixor X dX10_width_33 (z_iand X dX10_width_34 (z_if_ne X 52 dX10_width_35 (by decide) (fun c6 => ?_) (fun c6 => ?_)))))))))
    · replace h := z_in c6 h
      exact wj_X10_width_j52 (u := u) hR X q.1 q.2 u rfl kb kx hkb hkx h
    · replace h := z_ip c6 h
      obtain ⟨r7, er7, h⟩ := z_bs h
      refine z_aload_n X 0 dX10_width_38 rfl rfl (z_iload_n X 2 dX10_width_39 rfl rfl (z_callVi X (r := r7) (u1 := u) [.int q.2] [] (w_X10_someAbove l g q.2 u er7) z_r0 rfl gX10_width_X10_someAbove hy_X10_someAbove rfl (z_le1 hR (by decide)) (z_le2 hR (by decide) (by decide)) (Nat.le_of_ble_eq_true rfl) dX10_width_40 (z_iload_n X 2 dX10_width_43 rfl rfl (z_iand X dX10_width_44 (z_if_ne X 52 dX10_width_45 (by decide) (fun c8 => ?_) (fun c8 => ?_))))))
      · replace h := z_in c8 h
        exact wj_X10_width_j52 (u := u) hR X q.1 q.2 u rfl kb kx hkb hkx h
      · replace h := z_ip c8 h
        refine z_iconst X (v := 1) dX10_width_48 (by decide) (z_goto X 53 dX10_width_49 (by decide) ?_)
        exact wj_X10_width_j53 (u := u) hR X q.1 q.2 1 u rfl kb kx hkb hkx h
set_option maxRecDepth 20000 in
set_option maxHeartbeats 4000000 in
theorem w_X10_width (l : Launch) (g : z_G)  (u : z_M) {res : Int32 × z_M} (h : f_X10_width u = some res) : z_C l g z_shR yX10_width wsX10_width 3 [.ref (z_ad g 0)] u (fun v u' => v = some (.int res.1) ∧ u' = res.2) := by
  refine z_C.mk (lv := [(0, .ref (z_ad g 0))]) (cc := cX10_width) (nL := 4) (rt := (some .int)) rfl (by decide) (Nat.le_of_ble_eq_true rfl) rfl (fun p e R s m args below meth c hR X => ?_)
  unfold f_X10_width at h
  obtain ⟨u1, eu1, h⟩ := z_ls h
  obtain ⟨r2, er2, h⟩ := z_bs h
  refine z_aload_n X 0 dX10_width_0 rfl rfl (z_iconst X (v := 0) dX10_width_1 (by decide) (z_putI X (k0 := 0) (ty0 := tyX10) z_r0 rfl in_X10_width_X10 tyX10_ok nmX10 (by decide) rfl rfl rfl rfl rfl lk_X10_width_82 dX10_width_2 (z_nm eu1 (z_aload_n X 0 dX10_width_5 rfl rfl (z_callVi X (r := r2) (u1 := u1) [] [] (w_X10_isTold l g u1 er2) z_r0 rfl gX10_width_X10_isTold hy_X10_isTold rfl (z_le1 hR (by decide)) (z_le2 hR (by decide) (by decide)) (Nat.le_of_ble_eq_true rfl) dX10_width_6 (z_if_ne X 14 dX10_width_9 (by decide) (fun c3 => ?_) (fun c3 => ?_)))))))
  · replace h := z_in c3 h
    refine z_iconst X (v := 0) dX10_width_14 (by decide) (z_istore_n X [(1, .int 0), (0, .ref (z_ad g 0))] dX10_width_15 rfl (by decide) rfl (z_iconst X (v := 1) dX10_width_16 (by decide) (z_istore_n X [(2, .int 1), (1, .int 0), (0, .ref (z_ad g 0))] dX10_width_17 rfl (by decide) rfl (z_sub [2, 1, 0] [(0, .ref (z_ad g 0)), (1, .int 0), (2, .int 1)] rfl ?_))))
    have hw := z_lp_w (fun q9 kb9 kx9 h1 h2 h3 => wb_X10_width_18 (l := l) (e := e) (below := below) (u := u1) hR X q9 kb9 kx9 h1 h2 h3) z_F _ _ h
    refine hw (fun t13 h => ?_)
    refine z_iload_n X 0 dX10_width_81 rfl rfl ?_
    cases h; exact z_iret X rfl dX10_width_82 ⟨rfl, rfl⟩
  · replace h := z_ip c3 h
    refine z_iconst X (v := (-1)) dX10_width_12 (by decide) ?_
    cases h; exact z_iret X rfl dX10_width_13 ⟨rfl, rfl⟩

theorem lk_X10_ideals_82 : (Cond.fieldLink RX10 82 RX10 (TX10 0).2.1 (TX10 0).2.2.1) ∈ wsX10_ideals := by decide +kernel
theorem in_X10_ideals_X10 : ∀ w ∈ u_ws RX10 TX10 30, w ∈ wsX10_ideals := by decide +kernel
theorem lk_X10_ideals_9 : (Cond.fieldLink RX10 9 RX10 (TX10 1).2.1 (TX10 1).2.2.1) ∈ wsX10_ideals := by decide +kernel
theorem hy_X10_someBelow : yX10_someBelow.cls = RX10 ∧ yX10_someBelow.cls ≠ "java/lang/invoke/MethodHandle" ∧ yX10_someBelow.cls ≠ "java/lang/invoke/VarHandle" ∧ (parseMethodDescriptor yX10_someBelow.desc).map (fun d => d.parameters.length) = some 1 := by decide +kernel
def b_X10_ideals_18 (u : z_M) : (Int32 × Int32) → ((Int32 × Int32) → Option (Int32 × z_M)) → (Int32 → Option (Int32 × z_M)) → Option (Int32 × z_M) := fun q kb kx =>
  if 512 ≤ q.2 then (kx q.1) else (z_gd (z_inb 1 93) (if (q.2 &&& ((z_gI u 1 (1 : Int32).toNatClampNeg) ^^^ (-1))) = 0 then (Option.bind (f_X10_someBelow q.2 u) (fun r7 => if (r7 &&& (q.2 ^^^ (-1))) = 0 then (z_lt (q.1 + 1) (fun v9 => kb (v9, q.2 + 1))) else (z_lt (q.1 + 0) (fun v10 => kb (v10, q.2 + 1))))) else (z_lt (q.1 + 0) (fun v11 => kb (v11, q.2 + 1)))))
def f_X10_ideals (u : z_M) : Option (Int32 × z_M) :=
  z_lt (z_sI u 0 0 0) (fun u1 => Option.bind (f_X10_isTold u1) (fun r2 => if r2 = 0 then (some ((-1), u1)) else (z_lp (b_X10_ideals_18 u1) z_F (0, 0) (fun t12 => some (t12, u1)))))
set_option maxRecDepth 20000 in
set_option maxHeartbeats 4000000 in
theorem wb_X10_ideals_18 {p : Program} {l : Launch} {e : Env} {R : Room} {s : State} {m : MethodId} {args : Array Value} {below : List Frame} {meth : Method} {c : Code} {g : z_G} {u : z_M} {res : Int32 × z_M} (hR : R = z_rm 5) (X : z_X p R s m args meth c cX10_ideals 3 RX10 wsX10_ideals (some .int) g z_shR)  (q : Int32 × Int32) (kb : (Int32 × Int32) → Option (Int32 × z_M)) (kx : Int32 → Option (Int32 × z_M)) (hkb : ∀ q, kb q = some res → z_V p l e R s m args below meth c 3 g z_shR (MQ below (z_Qc g z_shR (fun v u' => v = some (.int res.1) ∧ u' = res.2)) args s 0 0 (z_A g z_shR)) 18 [(0, .ref (z_ad g 0)), (1, .int q.1), (2, .int q.2)] [] u) (hkx : ∀ t, kx t = some res → z_V p l e R s m args below meth c 3 g z_shR (MQ below (z_Qc g z_shR (fun v u' => v = some (.int res.1) ∧ u' = res.2)) args s 0 0 (z_A g z_shR)) 64 [(1, .int t)] [] u) (h : b_X10_ideals_18 u q kb kx = some res) : z_V p l e R s m args below meth c 3 g z_shR (MQ below (z_Qc g z_shR (fun v u' => v = some (.int res.1) ∧ u' = res.2)) args s 0 0 (z_A g z_shR)) 18 [(0, .ref (z_ad g 0)), (1, .int q.1), (2, .int q.2)] [] u := by
  unfold b_X10_ideals_18 at h
  refine z_iload_n X 2 dX10_ideals_18 rfl rfl (z_sipush X (v := 512) dX10_ideals_19 (by decide) (z_icmp_ge X 64 dX10_ideals_22 (by decide) (fun c4 => ?_) (fun c4 => ?_)))
  · replace h := z_ip c4 h
    refine z_sub [1] [(1, .int q.1)] rfl ?_
    exact hkx q.1 h
  · replace h := z_in c4 h
    obtain ⟨b5, h⟩ := z_gs h
    refine z_iload_n X 1 dX10_ideals_25 rfl rfl (z_iload_n X 2 dX10_ideals_26 rfl rfl (z_aload_n X 0 dX10_ideals_27 rfl rfl (z_getR X (k0 := 1) z_r0 rfl in_X10_ideals_X10 (by decide) rfl rfl lk_X10_ideals_9 dX10_ideals_28 (z_iconst X (v := 1) dX10_ideals_31 (by decide) (z_iald X z_r1 (z_inS b5) dX10_ideals_32 (z_iconst X (v := (-1)) dX10_ideals_33 (by decide) (z_ixor X dX10_ideals_34 (z_iand X dX10_ideals_35 (z_if_ne X 55 dX10_ideals_36 (by decide) (fun c6 => ?_) (fun c6 => ?_))))))))))
    · replace h := z_in c6 h
      obtain ⟨v11, ev11, h⟩ := z_ls h
      refine z_iconst X (v := 0) dX10_ideals_55 (by decide) (z_iadd X dX10_ideals_56 (z_ti ev11 (z_istore_n X [(1, .int v11), (0, .ref (z_ad g 0)), (2, .int q.2)] dX10_ideals_57 rfl (by decide) rfl (z_iinc X (v := q.2 + 1) 2 [(2, .int (q.2 + 1)), (1, .int v11), (0, .ref (z_ad g 0))] dX10_ideals_58 rfl rfl (by decide) rfl (z_goto X 18 dX10_ideals_61 (by decide) (z_sub [2, 1, 0] [(0, .ref (z_ad g 0)), (1, .int v11), (2, .int (q.2 + 1))] rfl ?_))))))
      exact hkb (v11, q.2 + 1) h
    · replace h := z_ip c6 h
      obtain ⟨r7, er7, h⟩ := z_bs h
      refine z_aload_n X 0 dX10_ideals_39 rfl rfl (z_iload_n X 2 dX10_ideals_40 rfl rfl (z_callVi X (r := r7) (u1 := u) [.int q.2] [.int q.1] (w_X10_someBelow l g q.2 u er7) z_r0 rfl gX10_ideals_X10_someBelow hy_X10_someBelow rfl (z_le1 hR (by decide)) (z_le2 hR (by decide) (by decide)) (Nat.le_of_ble_eq_true rfl) dX10_ideals_41 (z_iload_n X 2 dX10_ideals_44 rfl rfl (z_iconst X (v := (-1)) dX10_ideals_45 (by decide) (z_ixor X dX10_ideals_46 (z_iand X dX10_ideals_47 (z_if_ne X 55 dX10_ideals_48 (by decide) (fun c8 => ?_) (fun c8 => ?_))))))))
      · replace h := z_in c8 h
        obtain ⟨v10, ev10, h⟩ := z_ls h
        refine z_iconst X (v := 0) dX10_ideals_55 (by decide) (z_iadd X dX10_ideals_56 (z_ti ev10 (z_istore_n X [(1, .int v10), (0, .ref (z_ad g 0)), (2, .int q.2)] dX10_ideals_57 rfl (by decide) rfl (z_iinc X (v := q.2 + 1) 2 [(2, .int (q.2 + 1)), (1, .int v10), (0, .ref (z_ad g 0))] dX10_ideals_58 rfl rfl (by decide) rfl (z_goto X 18 dX10_ideals_61 (by decide) (z_sub [2, 1, 0] [(0, .ref (z_ad g 0)), (1, .int v10), (2, .int (q.2 + 1))] rfl ?_))))))
        exact hkb (v10, q.2 + 1) h
      · replace h := z_ip c8 h
        obtain ⟨v9, ev9, h⟩ := z_ls h
        refine z_iconst X (v := 1) dX10_ideals_51 (by decide) (z_goto X 56 dX10_ideals_52 (by decide) (z_iadd X dX10_ideals_56 (z_ti ev9 (z_istore_n X [(1, .int v9), (0, .ref (z_ad g 0)), (2, .int q.2)] dX10_ideals_57 rfl (by decide) rfl (z_iinc X (v := q.2 + 1) 2 [(2, .int (q.2 + 1)), (1, .int v9), (0, .ref (z_ad g 0))] dX10_ideals_58 rfl rfl (by decide) rfl (z_goto X 18 dX10_ideals_61 (by decide) (z_sub [2, 1, 0] [(0, .ref (z_ad g 0)), (1, .int v9), (2, .int (q.2 + 1))] rfl ?_)))))))
        exact hkb (v9, q.2 + 1) h
set_option maxRecDepth 20000 in
set_option maxHeartbeats 4000000 in
theorem w_X10_ideals (l : Launch) (g : z_G)  (u : z_M) {res : Int32 × z_M} (h : f_X10_ideals u = some res) : z_C l g z_shR yX10_ideals wsX10_ideals 5 [.ref (z_ad g 0)] u (fun v u' => v = some (.int res.1) ∧ u' = res.2) := by
  refine z_C.mk (lv := [(0, .ref (z_ad g 0))]) (cc := cX10_ideals) (nL := 3) (rt := (some .int)) rfl (by decide) (Nat.le_of_ble_eq_true rfl) rfl (fun p e R s m args below meth c hR X => ?_)
  unfold f_X10_ideals at h
  obtain ⟨u1, eu1, h⟩ := z_ls h
  obtain ⟨r2, er2, h⟩ := z_bs h
  refine z_aload_n X 0 dX10_ideals_0 rfl rfl (z_iconst X (v := 0) dX10_ideals_1 (by decide) (z_putI X (k0 := 0) (ty0 := tyX10) z_r0 rfl in_X10_ideals_X10 tyX10_ok nmX10 (by decide) rfl rfl rfl rfl rfl lk_X10_ideals_82 dX10_ideals_2 (z_nm eu1 (z_aload_n X 0 dX10_ideals_5 rfl rfl (z_callVi X (r := r2) (u1 := u1) [] [] (w_X10_isTold l g u1 er2) z_r0 rfl gX10_ideals_X10_isTold hy_X10_isTold rfl (z_le1 hR (by decide)) (z_le2 hR (by decide) (by decide)) (Nat.le_of_ble_eq_true rfl) dX10_ideals_6 (z_if_ne X 14 dX10_ideals_9 (by decide) (fun c3 => ?_) (fun c3 => ?_)))))))
  · replace h := z_in c3 h
    refine z_iconst X (v := 0) dX10_ideals_14 (by decide) (z_istore_n X [(1, .int 0), (0, .ref (z_ad g 0))] dX10_ideals_15 rfl (by decide) rfl (z_iconst X (v := 0) dX10_ideals_16 (by decide) (z_istore_n X [(2, .int 0), (1, .int 0), (0, .ref (z_ad g 0))] dX10_ideals_17 rfl (by decide) rfl (z_sub [2, 1, 0] [(0, .ref (z_ad g 0)), (1, .int 0), (2, .int 0)] rfl ?_))))
    have hw := z_lp_w (fun q9 kb9 kx9 h1 h2 h3 => wb_X10_ideals_18 (l := l) (e := e) (below := below) (u := u1) hR X q9 kb9 kx9 h1 h2 h3) z_F _ _ h
    refine hw (fun t12 h => ?_)
    refine z_iload_n X 0 dX10_ideals_64 rfl rfl ?_
    cases h; exact z_iret X rfl dX10_ideals_65 ⟨rfl, rfl⟩
  · replace h := z_ip c3 h
    refine z_iconst X (v := (-1)) dX10_ideals_12 (by decide) ?_
    cases h; exact z_iret X rfl dX10_ideals_13 ⟨rfl, rfl⟩

theorem lk_X10_extensions_82 : (Cond.fieldLink RX10 82 RX10 (TX10 0).2.1 (TX10 0).2.2.1) ∈ wsX10_extensions := by decide +kernel
theorem in_X10_extensions_X10 : ∀ w ∈ u_ws RX10 TX10 30, w ∈ wsX10_extensions := by decide +kernel
theorem lk_X10_extensions_39 : (Cond.fieldLink RX10 39 RX10 (TX10 15).2.1 (TX10 15).2.2.1) ∈ wsX10_extensions := by decide +kernel
theorem lk_X10_extensions_9 : (Cond.fieldLink RX10 9 RX10 (TX10 1).2.1 (TX10 1).2.2.1) ∈ wsX10_extensions := by decide +kernel
def j_X10_extensions_j78 (x1 : Int32) (x2 : Int32) (x90 : Int32) (w : z_M) (kb : (Int32 × z_M) → Option (Int32 × z_M)) (kx : z_M → Option (Int32 × z_M)) : Option (Int32 × z_M) :=
  z_gd (z_inb x1 512) (if x90 = 0 then (z_gd (z_inb x1 512) (z_lt (z_sI w 8 x1.toNatClampNeg ((z_gI w 8 x1.toNatClampNeg) + 0)) (fun u15 => kb (x2 + 1, u15)))) else (z_gd (z_inb (x1 ^^^ (1 <<< (x2 &&& 31))) 512) (z_gd (z_inb x1 512) (z_lt (z_sI w 8 x1.toNatClampNeg ((z_gI w 8 x1.toNatClampNeg) + (z_gI w 8 (x1 ^^^ (1 <<< (x2 &&& 31))).toNatClampNeg))) (fun u18 => kb (x2 + 1, u18))))))
def j_X10_extensions_j77 (x1 : Int32) (x2 : Int32) (w : z_M) (kb : (Int32 × z_M) → Option (Int32 × z_M)) (kx : z_M → Option (Int32 × z_M)) : Option (Int32 × z_M) :=
  j_X10_extensions_j78 x1 x2 0 w kb kx
def b_X10_extensions_40 (x1 : Int32) : (Int32 × z_M) → ((Int32 × z_M) → Option (Int32 × z_M)) → (z_M → Option (Int32 × z_M)) → Option (Int32 × z_M) := fun q kb kx =>
  if 9 ≤ q.1 then (kx q.2) else (z_gd (z_inb 1 93) (Option.bind (f_X10_has (x1 &&& (z_gI q.2 1 (1 : Int32).toNatClampNeg)) q.1) (fun r10 => if r10 = 0 then (j_X10_extensions_j77 x1 q.1 q.2 kb kx) else (Option.bind (f_X10_below q.1 q.2) (fun r19 => if (r19 &&& (x1 ^^^ (-1))) = 0 then (j_X10_extensions_j78 x1 q.1 1 q.2 kb kx) else (j_X10_extensions_j77 x1 q.1 q.2 kb kx))))))
def b_X10_extensions_16  : (Int32 × z_M) → ((Int32 × z_M) → Option (Int32 × z_M)) → (z_M → Option (Int32 × z_M)) → Option (Int32 × z_M) := fun q kb kx =>
  if 512 ≤ q.1 then (kx q.2) else (if q.1 = 0 then (z_gd (z_inb q.1 512) (z_lt (z_sI q.2 8 q.1.toNatClampNeg 1) (fun u7 => z_lp (b_X10_extensions_40 q.1) z_F (0, u7) (fun t21 => kb (q.1 + 1, t21))))) else (z_gd (z_inb q.1 512) (z_lt (z_sI q.2 8 q.1.toNatClampNeg 0) (fun u23 => z_lp (b_X10_extensions_40 q.1) z_F (0, u23) (fun t24 => kb (q.1 + 1, t24))))))
def f_X10_extensions (u : z_M) : Option (Int32 × z_M) :=
  z_lt (z_sI u 0 0 0) (fun u1 => Option.bind (f_X10_isTold u1) (fun r2 => if r2 = 0 then (some ((-1), u1)) else (z_lp b_X10_extensions_16 z_F (0, u1) (fun t25 => z_gd (z_inb 1 93) (z_gd (z_inb (z_gI t25 1 (1 : Int32).toNatClampNeg) 512) (some (z_gI t25 8 (z_gI t25 1 (1 : Int32).toNatClampNeg).toNatClampNeg, t25)))))))
set_option maxRecDepth 20000 in
set_option maxHeartbeats 4000000 in
theorem wj_X10_extensions_j78 {p : Program} {l : Launch} {e : Env} {R : Room} {s : State} {m : MethodId} {args : Array Value} {below : List Frame} {meth : Method} {c : Code} {g : z_G} {u : z_M} {res : Int32 × z_M} (hR : R = z_rm 4) (X : z_X p R s m args meth c cX10_extensions 4 RX10 wsX10_extensions (some .int) g z_shR) (x1 : Int32) (x2 : Int32) (x90 : Int32) (w : z_M) (kb : (Int32 × z_M) → Option (Int32 × z_M)) (kx : z_M → Option (Int32 × z_M)) (hkb : ∀ q, kb q = some res → z_V p l e R s m args below meth c 4 g z_shR (MQ below (z_Qc g z_shR (fun v u' => v = some (.int res.1) ∧ u' = res.2)) args s 0 0 (z_A g z_shR)) 40 [(0, .ref (z_ad g 0)), (1, .int x1), (2, .int q.1)] [] q.2) (hkx : ∀ t, kx t = some res → z_V p l e R s m args below meth c 4 g z_shR (MQ below (z_Qc g z_shR (fun v u' => v = some (.int res.1) ∧ u' = res.2)) args s 0 0 (z_A g z_shR)) 112 [(0, .ref (z_ad g 0)), (1, .int x1)] [] t) (h : j_X10_extensions_j78 x1 x2 x90 w kb kx = some res) : z_V p l e R s m args below meth c 4 g z_shR (MQ below (z_Qc g z_shR (fun v u' => v = some (.int res.1) ∧ u' = res.2)) args s 0 0 (z_A g z_shR)) 78 [(0, .ref (z_ad g 0)), (1, .int x1), (2, .int x2)] [.int x90] w := by
  unfold j_X10_extensions_j78 at h
  obtain ⟨b12, h⟩ := z_gs h
  refine z_istore_n X [(3, .int x90), (0, .ref (z_ad g 0)), (1, .int x1), (2, .int x2)] dX10_extensions_78 rfl (by decide) rfl (z_aload_n X 1 dX10_extensions_79 rfl rfl (z_getR X (k0 := 15) z_r0 rfl in_X10_extensions_X10 (by decide) rfl rfl lk_X10_extensions_39 dX10_extensions_80 (z_iload_n X 2 dX10_extensions_83 rfl rfl (z_dup2 X dX10_extensions_84 rfl rfl (z_iald X z_r8 (z_inS b12) dX10_extensions_85 (z_iload_n X 0 dX10_extensions_86 rfl rfl (z_if_eq X 103 dX10_extensions_87 (by decide) (fun c13 => ?_) (fun c13 => ?_))))))))
  · replace h := z_ip c13 h
    obtain ⟨b14, h⟩ := z_gs h
    obtain ⟨u15, eu15, h⟩ := z_ls h
    refine z_iconst X (v := 0) dX10_extensions_103 (by decide) (z_iadd X dX10_extensions_104 (z_iast X z_r8 (z_inS b14) dX10_extensions_105 (z_nm eu15 (z_iinc X (v := x2 + 1) 3 [(2, .int (x2 + 1)), (3, .int x90), (0, .ref (z_ad g 0)), (1, .int x1)] dX10_extensions_106 rfl rfl (by decide) rfl (z_goto X 40 dX10_extensions_109 (by decide) (z_sub [2, 3, 0] [(0, .ref (z_ad g 0)), (1, .int x1), (2, .int (x2 + 1))] rfl ?_))))))
    exact hkb (x2 + 1, u15) h
  · replace h := z_in c13 h
    obtain ⟨b16, h⟩ := z_gs h
    obtain ⟨b17, h⟩ := z_gs h
    obtain ⟨u18, eu18, h⟩ := z_ls h
    refine z_aload_n X 1 dX10_extensions_90 rfl rfl (z_getR X (k0 := 15) z_r0 rfl in_X10_extensions_X10 (by decide) rfl rfl lk_X10_extensions_39 dX10_extensions_91 (z_iload_n X 2 dX10_extensions_94 rfl rfl (z_iconst X (v := 1) dX10_extensions_95 (by decide) (z_iload_n X 3 dX10_extensions_96 rfl rfl (z_ishl X dX10_extensions_97 (z_ixor X dX10_extensions_98 (z_iald X z_r8 (z_inS b16) dX10_extensions_99 (z_goto X 104 dX10_extensions_100 (by decide) (z_iadd X dX10_extensions_104 (z_iast X z_r8 (z_inS b17) dX10_extensions_105 (z_nm eu18 (z_iinc X (v := x2 + 1) 3 [(2, .int (x2 + 1)), (3, .int x90), (0, .ref (z_ad g 0)), (1, .int x1)] dX10_extensions_106 rfl rfl (by decide) rfl (z_goto X 40 dX10_extensions_109 (by decide) (z_sub [2, 3, 0] [(0, .ref (z_ad g 0)), (1, .int x1), (2, .int (x2 + 1))] rfl ?_))))))))))))))
    exact hkb (x2 + 1, u18) h
set_option maxRecDepth 20000 in
set_option maxHeartbeats 4000000 in
theorem wj_X10_extensions_j77 {p : Program} {l : Launch} {e : Env} {R : Room} {s : State} {m : MethodId} {args : Array Value} {below : List Frame} {meth : Method} {c : Code} {g : z_G} {u : z_M} {res : Int32 × z_M} (hR : R = z_rm 4) (X : z_X p R s m args meth c cX10_extensions 4 RX10 wsX10_extensions (some .int) g z_shR) (x1 : Int32) (x2 : Int32) (w : z_M) (kb : (Int32 × z_M) → Option (Int32 × z_M)) (kx : z_M → Option (Int32 × z_M)) (hkb : ∀ q, kb q = some res → z_V p l e R s m args below meth c 4 g z_shR (MQ below (z_Qc g z_shR (fun v u' => v = some (.int res.1) ∧ u' = res.2)) args s 0 0 (z_A g z_shR)) 40 [(0, .ref (z_ad g 0)), (1, .int x1), (2, .int q.1)] [] q.2) (hkx : ∀ t, kx t = some res → z_V p l e R s m args below meth c 4 g z_shR (MQ below (z_Qc g z_shR (fun v u' => v = some (.int res.1) ∧ u' = res.2)) args s 0 0 (z_A g z_shR)) 112 [(0, .ref (z_ad g 0)), (1, .int x1)] [] t) (h : j_X10_extensions_j77 x1 x2 w kb kx = some res) : z_V p l e R s m args below meth c 4 g z_shR (MQ below (z_Qc g z_shR (fun v u' => v = some (.int res.1) ∧ u' = res.2)) args s 0 0 (z_A g z_shR)) 77 [(0, .ref (z_ad g 0)), (1, .int x1), (2, .int x2)] [] w := by
  unfold j_X10_extensions_j77 at h
  refine z_iconst X (v := 0) dX10_extensions_77 (by decide) ?_
  exact wj_X10_extensions_j78 (u := w) hR X x1 x2 0 w kb kx hkb hkx h
set_option maxRecDepth 20000 in
set_option maxHeartbeats 4000000 in
theorem wb_X10_extensions_40 {p : Program} {l : Launch} {e : Env} {R : Room} {s : State} {m : MethodId} {args : Array Value} {below : List Frame} {meth : Method} {c : Code} {g : z_G} {u : z_M} {res : Int32 × z_M} (hR : R = z_rm 4) (X : z_X p R s m args meth c cX10_extensions 4 RX10 wsX10_extensions (some .int) g z_shR) (x1 : Int32) (q : Int32 × z_M) (kb : (Int32 × z_M) → Option (Int32 × z_M)) (kx : z_M → Option (Int32 × z_M)) (hkb : ∀ q, kb q = some res → z_V p l e R s m args below meth c 4 g z_shR (MQ below (z_Qc g z_shR (fun v u' => v = some (.int res.1) ∧ u' = res.2)) args s 0 0 (z_A g z_shR)) 40 [(0, .ref (z_ad g 0)), (1, .int x1), (2, .int q.1)] [] q.2) (hkx : ∀ t, kx t = some res → z_V p l e R s m args below meth c 4 g z_shR (MQ below (z_Qc g z_shR (fun v u' => v = some (.int res.1) ∧ u' = res.2)) args s 0 0 (z_A g z_shR)) 112 [(0, .ref (z_ad g 0)), (1, .int x1)] [] t) (h : b_X10_extensions_40 x1 q kb kx = some res) : z_V p l e R s m args below meth c 4 g z_shR (MQ below (z_Qc g z_shR (fun v u' => v = some (.int res.1) ∧ u' = res.2)) args s 0 0 (z_A g z_shR)) 40 [(0, .ref (z_ad g 0)), (1, .int x1), (2, .int q.1)] [] q.2 := by
  unfold b_X10_extensions_40 at h
  refine z_iload_n X 2 dX10_extensions_40 rfl rfl (z_bipush X (v := 9) dX10_extensions_41 (by decide) (z_icmp_ge X 112 dX10_extensions_43 (by decide) (fun c8 => ?_) (fun c8 => ?_)))
  · replace h := z_ip c8 h
    refine z_sub [0, 1] [(0, .ref (z_ad g 0)), (1, .int x1)] rfl ?_
    exact hkx q.2 h
  · replace h := z_in c8 h
    obtain ⟨b9, h⟩ := z_gs h
    obtain ⟨r10, er10, h⟩ := z_bs h
    refine z_iload_n X 1 dX10_extensions_46 rfl rfl (z_aload_n X 0 dX10_extensions_47 rfl rfl (z_getR X (k0 := 1) z_r0 rfl in_X10_extensions_X10 (by decide) rfl rfl lk_X10_extensions_9 dX10_extensions_48 (z_iconst X (v := 1) dX10_extensions_51 (by decide) (z_iald X z_r1 (z_inS b9) dX10_extensions_52 (z_iand X dX10_extensions_53 (z_iload_n X 2 dX10_extensions_54 rfl rfl (z_callSi X (r := r10) (u1 := q.2) [.int (x1 &&& (z_gI q.2 1 (1 : Int32).toNatClampNeg)), .int q.1] [] (w_X10_has l g (x1 &&& (z_gI q.2 1 (1 : Int32).toNatClampNeg)) q.1 q.2 er10) gX10_extensions_X10_has hy_X10_has.2 rfl (z_le1 hR (by decide)) (z_le2 hR (by decide) (by decide)) (Nat.le_of_ble_eq_true rfl) dX10_extensions_55 (z_if_eq X 77 dX10_extensions_58 (by decide) (fun c11 => ?_) (fun c11 => ?_)))))))))
    · replace h := z_ip c11 h
      exact wj_X10_extensions_j77 (u := q.2) hR X x1 q.1 q.2 kb kx hkb hkx h
    · replace h := z_in c11 h
      obtain ⟨r19, er19, h⟩ := z_bs h
      refine z_aload_n X 0 dX10_extensions_61 rfl rfl (z_iload_n X 2 dX10_extensions_62 rfl rfl (z_callVi X (r := r19) (u1 := q.2) [.int q.1] [] (w_X10_below l g q.1 q.2 er19) z_r0 rfl gX10_extensions_X10_below hy_X10_below rfl (z_le1 hR (by decide)) (z_le2 hR (by decide) (by decide)) (Nat.le_of_ble_eq_true rfl) dX10_extensions_63 (z_iload_n X 1 dX10_extensions_66 rfl rfl (z_iconst X (v := (-1)) dX10_extensions_67 (by decide) (z_ixor X dX10_extensions_68 (z_iand X dX10_extensions_69 (z_if_ne X 77 dX10_extensions_70 (by decide) (fun c20 => ?_) (fun c20 => ?_))))))))
      · replace h := z_in c20 h
        exact wj_X10_extensions_j77 (u := q.2) hR X x1 q.1 q.2 kb kx hkb hkx h
      · replace h := z_ip c20 h
        refine z_iconst X (v := 1) dX10_extensions_73 (by decide) (z_goto X 78 dX10_extensions_74 (by decide) ?_)
        exact wj_X10_extensions_j78 (u := q.2) hR X x1 q.1 1 q.2 kb kx hkb hkx h
set_option maxRecDepth 20000 in
set_option maxHeartbeats 4000000 in
theorem wb_X10_extensions_16 {p : Program} {l : Launch} {e : Env} {R : Room} {s : State} {m : MethodId} {args : Array Value} {below : List Frame} {meth : Method} {c : Code} {g : z_G} {u : z_M} {res : Int32 × z_M} (hR : R = z_rm 4) (X : z_X p R s m args meth c cX10_extensions 4 RX10 wsX10_extensions (some .int) g z_shR)  (q : Int32 × z_M) (kb : (Int32 × z_M) → Option (Int32 × z_M)) (kx : z_M → Option (Int32 × z_M)) (hkb : ∀ q, kb q = some res → z_V p l e R s m args below meth c 4 g z_shR (MQ below (z_Qc g z_shR (fun v u' => v = some (.int res.1) ∧ u' = res.2)) args s 0 0 (z_A g z_shR)) 16 [(0, .ref (z_ad g 0)), (1, .int q.1)] [] q.2) (hkx : ∀ t, kx t = some res → z_V p l e R s m args below meth c 4 g z_shR (MQ below (z_Qc g z_shR (fun v u' => v = some (.int res.1) ∧ u' = res.2)) args s 0 0 (z_A g z_shR)) 118 [(0, .ref (z_ad g 0))] [] t) (h : b_X10_extensions_16 q kb kx = some res) : z_V p l e R s m args below meth c 4 g z_shR (MQ below (z_Qc g z_shR (fun v u' => v = some (.int res.1) ∧ u' = res.2)) args s 0 0 (z_A g z_shR)) 16 [(0, .ref (z_ad g 0)), (1, .int q.1)] [] q.2 := by
  unfold b_X10_extensions_16 at h
  refine z_iload_n X 1 dX10_extensions_16 rfl rfl (z_sipush X (v := 512) dX10_extensions_17 (by decide) (z_icmp_ge X 118 dX10_extensions_20 (by decide) (fun c4 => ?_) (fun c4 => ?_)))
  · replace h := z_ip c4 h
    refine z_sub [0] [(0, .ref (z_ad g 0))] rfl ?_
    exact hkx q.2 h
  · replace h := z_in c4 h
    refine z_aload_n X 0 dX10_extensions_23 rfl rfl (z_getR X (k0 := 15) z_r0 rfl in_X10_extensions_X10 (by decide) rfl rfl lk_X10_extensions_39 dX10_extensions_24 (z_iload_n X 1 dX10_extensions_27 rfl rfl (z_iload_n X 1 dX10_extensions_28 rfl rfl (z_if_ne X 36 dX10_extensions_29 (by decide) (fun c5 => ?_) (fun c5 => ?_)))))
    · replace h := z_in c5 h
      obtain ⟨b22, h⟩ := z_gs h
      obtain ⟨u23, eu23, h⟩ := z_ls h
      refine z_iconst X (v := 0) dX10_extensions_36 (by decide) (z_iast X z_r8 (z_inS b22) dX10_extensions_37 (z_nm eu23 (z_iconst X (v := 0) dX10_extensions_38 (by decide) (z_istore_n X [(2, .int 0), (0, .ref (z_ad g 0)), (1, .int q.1)] dX10_extensions_39 rfl (by decide) rfl (z_sub [1, 2, 0] [(0, .ref (z_ad g 0)), (1, .int q.1), (2, .int 0)] rfl ?_)))))
      have hw := z_lp_w (fun q9 kb9 kx9 h1 h2 h3 => wb_X10_extensions_40 (l := l) (e := e) (below := below) (u := u23) hR X q.1 q9 kb9 kx9 h1 h2 h3) z_F _ _ h
      refine hw (fun t24 h => ?_)
      refine z_iinc X (v := q.1 + 1) 1 [(1, .int (q.1 + 1)), (0, .ref (z_ad g 0))] dX10_extensions_112 rfl rfl (by decide) rfl (z_goto X 16 dX10_extensions_115 (by decide) (z_sub [1, 0] [(0, .ref (z_ad g 0)), (1, .int (q.1 + 1))] rfl ?_))
      exact hkb (q.1 + 1, t24) h
    · replace h := z_ip c5 h
      obtain ⟨b6, h⟩ := z_gs h
      obtain ⟨u7, eu7, h⟩ := z_ls h
      refine z_iconst X (v := 1) dX10_extensions_32 (by decide) (z_goto X 37 dX10_extensions_33 (by decide) (z_iast X z_r8 (z_inS b6) dX10_extensions_37 (z_nm eu7 (z_iconst X (v := 0) dX10_extensions_38 (by decide) (z_istore_n X [(2, .int 0), (0, .ref (z_ad g 0)), (1, .int q.1)] dX10_extensions_39 rfl (by decide) rfl (z_sub [1, 2, 0] [(0, .ref (z_ad g 0)), (1, .int q.1), (2, .int 0)] rfl ?_))))))
      have hw := z_lp_w (fun q9 kb9 kx9 h1 h2 h3 => wb_X10_extensions_40 (l := l) (e := e) (below := below) (u := u7) hR X q.1 q9 kb9 kx9 h1 h2 h3) z_F _ _ h
      refine hw (fun t21 h => ?_)
      refine z_iinc X (v := q.1 + 1) 1 [(1, .int (q.1 + 1)), (0, .ref (z_ad g 0))] dX10_extensions_112 rfl rfl (by decide) rfl (z_goto X 16 dX10_extensions_115 (by decide) (z_sub [1, 0] [(0, .ref (z_ad g 0)), (1, .int (q.1 + 1))] rfl ?_))
      exact hkb (q.1 + 1, t21) h
set_option maxRecDepth 20000 in
set_option maxHeartbeats 4000000 in
theorem w_X10_extensions (l : Launch) (g : z_G)  (u : z_M) {res : Int32 × z_M} (h : f_X10_extensions u = some res) : z_C l g z_shR yX10_extensions wsX10_extensions 4 [.ref (z_ad g 0)] u (fun v u' => v = some (.int res.1) ∧ u' = res.2) := by
  refine z_C.mk (lv := [(0, .ref (z_ad g 0))]) (cc := cX10_extensions) (nL := 4) (rt := (some .int)) rfl (by decide) (Nat.le_of_ble_eq_true rfl) rfl (fun p e R s m args below meth c hR X => ?_)
  unfold f_X10_extensions at h
  obtain ⟨u1, eu1, h⟩ := z_ls h
  obtain ⟨r2, er2, h⟩ := z_bs h
  refine z_aload_n X 0 dX10_extensions_0 rfl rfl (z_iconst X (v := 0) dX10_extensions_1 (by decide) (z_putI X (k0 := 0) (ty0 := tyX10) z_r0 rfl in_X10_extensions_X10 tyX10_ok nmX10 (by decide) rfl rfl rfl rfl rfl lk_X10_extensions_82 dX10_extensions_2 (z_nm eu1 (z_aload_n X 0 dX10_extensions_5 rfl rfl (z_callVi X (r := r2) (u1 := u1) [] [] (w_X10_isTold l g u1 er2) z_r0 rfl gX10_extensions_X10_isTold hy_X10_isTold rfl (z_le1 hR (by decide)) (z_le2 hR (by decide) (by decide)) (Nat.le_of_ble_eq_true rfl) dX10_extensions_6 (z_if_ne X 14 dX10_extensions_9 (by decide) (fun c3 => ?_) (fun c3 => ?_)))))))
  · replace h := z_in c3 h
    refine z_iconst X (v := 0) dX10_extensions_14 (by decide) (z_istore_n X [(1, .int 0), (0, .ref (z_ad g 0))] dX10_extensions_15 rfl (by decide) rfl (z_sub [1, 0] [(0, .ref (z_ad g 0)), (1, .int 0)] rfl ?_))
    have hw := z_lp_w (fun q9 kb9 kx9 h1 h2 h3 => wb_X10_extensions_16 (l := l) (e := e) (below := below) (u := u1) hR X q9 kb9 kx9 h1 h2 h3) z_F _ _ h
    refine hw (fun t25 h => ?_)
    obtain ⟨b26, h⟩ := z_gs h
    obtain ⟨b27, h⟩ := z_gs h
    refine z_aload_n X 0 dX10_extensions_118 rfl rfl (z_getR X (k0 := 15) z_r0 rfl in_X10_extensions_X10 (by decide) rfl rfl lk_X10_extensions_39 dX10_extensions_119 (z_aload_n X 0 dX10_extensions_122 rfl rfl (z_getR X (k0 := 1) z_r0 rfl in_X10_extensions_X10 (by decide) rfl rfl lk_X10_extensions_9 dX10_extensions_123 (z_iconst X (v := 1) dX10_extensions_126 (by decide) (z_iald X z_r1 (z_inS b26) dX10_extensions_127 (z_iald X z_r8 (z_inS b27) dX10_extensions_128 ?_))))))
    cases h; exact z_iret X rfl dX10_extensions_129 ⟨rfl, rfl⟩
  · replace h := z_ip c3 h
    refine z_iconst X (v := (-1)) dX10_extensions_12 (by decide) ?_
    cases h; exact z_iret X rfl dX10_extensions_13 ⟨rfl, rfl⟩

theorem lk_X10_extension_82 : (Cond.fieldLink RX10 82 RX10 (TX10 0).2.1 (TX10 0).2.2.1) ∈ wsX10_extension := by decide +kernel
theorem in_X10_extension_X10 : ∀ w ∈ u_ws RX10 TX10 30, w ∈ wsX10_extension := by decide +kernel
theorem lk_X10_extension_9 : (Cond.fieldLink RX10 9 RX10 (TX10 1).2.1 (TX10 1).2.2.1) ∈ wsX10_extension := by decide +kernel
def b_X10_extension_51 (x1 : Int32) (x2 : Int32) (x4 : Int32) (u : z_M) : Int32 → (Int32 → Option (Int32 × z_M)) → (Int32 → Option (Int32 × z_M)) → Option (Int32 × z_M) := fun q kb kx =>
  z_gd (z_inb 1 93) (Option.bind (f_X10_has ((z_gI u 1 (1 : Int32).toNatClampNeg) &&& (x2 ^^^ (-1))) q) (fun r10 => if r10 = 0 then (kb (q + 1)) else (Option.bind (f_X10_below q u) (fun r12 => if (r12 &&& (x2 ^^^ (-1))) = 0 then (kx q) else (kb (q + 1))))))
def b_X10_extension_42 (x1 : Int32) (u : z_M) : (Int32 × Int32 × Int32) → ((Int32 × Int32 × Int32) → Option (Int32 × z_M)) → (Int32 → Option (Int32 × z_M)) → Option (Int32 × z_M) := fun q kb kx =>
  if x1 < q.2.2 then (kx q.2.1) else (z_lp (b_X10_extension_51 x1 q.1 q.2.2 u) z_F 0 (fun t14 => z_lt (q.1 ||| (1 <<< (t14 &&& 31))) (fun v15 => kb (v15, t14, q.2.2 + 1))))
def f_X10_extension (a1 : Int32) (u : z_M) : Option (Int32 × z_M) :=
  z_lt (z_sI u 0 0 0) (fun u1 => Option.bind (f_X10_isTold u1) (fun r2 => if r2 = 0 then (some ((-1), u1)) else (z_gd (z_inb 1 93) (Option.bind (f_X10_bits (z_gI u1 1 (1 : Int32).toNatClampNeg)) (fun r5 => Option.bind (f_X10_isIn a1.toInt64 0 (r5.toInt64 - 1)) (fun r6 => if r6 = 0 then (some ((-1), u1)) else (z_lp (b_X10_extension_42 a1 u1) z_F (0, (-1), 0) (fun t16 => some (t16, u1)))))))))
set_option maxRecDepth 20000 in
set_option maxHeartbeats 4000000 in
theorem wb_X10_extension_51 {p : Program} {l : Launch} {e : Env} {R : Room} {s : State} {m : MethodId} {args : Array Value} {below : List Frame} {meth : Method} {c : Code} {g : z_G} {u : z_M} {res : Int32 × z_M} (hR : R = z_rm 4) (X : z_X p R s m args meth c cX10_extension 6 RX10 wsX10_extension (some .int) g z_shR) (x1 : Int32) (x2 : Int32) (x4 : Int32) (q : Int32) (kb : Int32 → Option (Int32 × z_M)) (kx : Int32 → Option (Int32 × z_M)) (hkb : ∀ q, kb q = some res → z_V p l e R s m args below meth c 6 g z_shR (MQ below (z_Qc g z_shR (fun v u' => v = some (.int res.1) ∧ u' = res.2)) args s 0 0 (z_A g z_shR)) 51 [(0, .ref (z_ad g 0)), (1, .int x1), (2, .int x2), (4, .int x4), (5, .int q)] [] u) (hkx : ∀ t, kx t = some res → z_V p l e R s m args below meth c 6 g z_shR (MQ below (z_Qc g z_shR (fun v u' => v = some (.int res.1) ∧ u' = res.2)) args s 0 0 (z_A g z_shR)) 88 [(0, .ref (z_ad g 0)), (1, .int x1), (2, .int x2), (4, .int x4), (5, .int t)] [] u) (h : b_X10_extension_51 x1 x2 x4 u q kb kx = some res) : z_V p l e R s m args below meth c 6 g z_shR (MQ below (z_Qc g z_shR (fun v u' => v = some (.int res.1) ∧ u' = res.2)) args s 0 0 (z_A g z_shR)) 51 [(0, .ref (z_ad g 0)), (1, .int x1), (2, .int x2), (4, .int x4), (5, .int q)] [] u := by
  unfold b_X10_extension_51 at h
  obtain ⟨b9, h⟩ := z_gs h
  obtain ⟨r10, er10, h⟩ := z_bs h
  refine z_aload_n X 0 dX10_extension_51 rfl rfl (z_getR X (k0 := 1) z_r0 rfl in_X10_extension_X10 (by decide) rfl rfl lk_X10_extension_9 dX10_extension_52 (z_iconst X (v := 1) dX10_extension_55 (by decide) (z_iald X z_r1 (z_inS b9) dX10_extension_56 (z_iload_n X 2 dX10_extension_57 rfl rfl (z_iconst X (v := (-1)) dX10_extension_58 (by decide) (z_ixor X dX10_extension_59 (z_iand X dX10_extension_60 (z_iload X 4 dX10_extension_61 rfl (z_callSi X (r := r10) (u1 := u) [.int ((z_gI u 1 (1 : Int32).toNatClampNeg) &&& (x2 ^^^ (-1))), .int q] [] (w_X10_has l g ((z_gI u 1 (1 : Int32).toNatClampNeg) &&& (x2 ^^^ (-1))) q u er10) gX10_extension_X10_has hy_X10_has.2 rfl (z_le1 hR (by decide)) (z_le2 hR (by decide) (by decide)) (Nat.le_of_ble_eq_true rfl) dX10_extension_63 (z_if_eq X 82 dX10_extension_66 (by decide) (fun c11 => ?_) (fun c11 => ?_)))))))))))
  · replace h := z_ip c11 h
    refine z_iinc X (v := q + 1) 4 [(5, .int (q + 1)), (0, .ref (z_ad g 0)), (1, .int x1), (2, .int x2), (4, .int x4)] dX10_extension_82 rfl rfl (by decide) rfl (z_goto X 51 dX10_extension_85 (by decide) (z_sub [1, 2, 3, 4, 0] [(0, .ref (z_ad g 0)), (1, .int x1), (2, .int x2), (4, .int x4), (5, .int (q + 1))] rfl ?_))
    exact hkb (q + 1) h
  · replace h := z_in c11 h
    obtain ⟨r12, er12, h⟩ := z_bs h
    refine z_aload_n X 0 dX10_extension_69 rfl rfl (z_iload X 4 dX10_extension_70 rfl (z_callVi X (r := r12) (u1 := u) [.int q] [] (w_X10_below l g q u er12) z_r0 rfl gX10_extension_X10_below hy_X10_below rfl (z_le1 hR (by decide)) (z_le2 hR (by decide) (by decide)) (Nat.le_of_ble_eq_true rfl) dX10_extension_72 (z_iload_n X 2 dX10_extension_75 rfl rfl (z_iconst X (v := (-1)) dX10_extension_76 (by decide) (z_ixor X dX10_extension_77 (z_iand X dX10_extension_78 (z_if_eq X 88 dX10_extension_79 (by decide) (fun c13 => ?_) (fun c13 => ?_))))))))
    · replace h := z_ip c13 h
      exact hkx q h
    · replace h := z_in c13 h
      refine z_iinc X (v := q + 1) 4 [(5, .int (q + 1)), (0, .ref (z_ad g 0)), (1, .int x1), (2, .int x2), (4, .int x4)] dX10_extension_82 rfl rfl (by decide) rfl (z_goto X 51 dX10_extension_85 (by decide) (z_sub [1, 2, 3, 4, 0] [(0, .ref (z_ad g 0)), (1, .int x1), (2, .int x2), (4, .int x4), (5, .int (q + 1))] rfl ?_))
      exact hkb (q + 1) h
set_option maxRecDepth 20000 in
set_option maxHeartbeats 4000000 in
theorem wb_X10_extension_42 {p : Program} {l : Launch} {e : Env} {R : Room} {s : State} {m : MethodId} {args : Array Value} {below : List Frame} {meth : Method} {c : Code} {g : z_G} {u : z_M} {res : Int32 × z_M} (hR : R = z_rm 4) (X : z_X p R s m args meth c cX10_extension 6 RX10 wsX10_extension (some .int) g z_shR) (x1 : Int32) (q : Int32 × Int32 × Int32) (kb : (Int32 × Int32 × Int32) → Option (Int32 × z_M)) (kx : Int32 → Option (Int32 × z_M)) (hkb : ∀ q, kb q = some res → z_V p l e R s m args below meth c 6 g z_shR (MQ below (z_Qc g z_shR (fun v u' => v = some (.int res.1) ∧ u' = res.2)) args s 0 0 (z_A g z_shR)) 42 [(0, .ref (z_ad g 0)), (1, .int x1), (2, .int q.1), (3, .int q.2.1), (4, .int q.2.2)] [] u) (hkx : ∀ t, kx t = some res → z_V p l e R s m args below meth c 6 g z_shR (MQ below (z_Qc g z_shR (fun v u' => v = some (.int res.1) ∧ u' = res.2)) args s 0 0 (z_A g z_shR)) 104 [(3, .int t)] [] u) (h : b_X10_extension_42 x1 u q kb kx = some res) : z_V p l e R s m args below meth c 6 g z_shR (MQ below (z_Qc g z_shR (fun v u' => v = some (.int res.1) ∧ u' = res.2)) args s 0 0 (z_A g z_shR)) 42 [(0, .ref (z_ad g 0)), (1, .int x1), (2, .int q.1), (3, .int q.2.1), (4, .int q.2.2)] [] u := by
  unfold b_X10_extension_42 at h
  refine z_iload X 4 dX10_extension_42 rfl (z_iload_n X 1 dX10_extension_44 rfl rfl (z_icmp_gt X 104 dX10_extension_45 (by decide) (fun c8 => ?_) (fun c8 => ?_)))
  · replace h := z_ip c8 h
    refine z_sub [3] [(3, .int q.2.1)] rfl ?_
    exact hkx q.2.1 h
  · replace h := z_in c8 h
    refine z_iconst X (v := 0) dX10_extension_48 (by decide) (z_istore X [(5, .int 0), (0, .ref (z_ad g 0)), (1, .int x1), (2, .int q.1), (3, .int q.2.1), (4, .int q.2.2)] dX10_extension_49 (by decide) rfl (z_sub [1, 2, 3, 5, 0] [(0, .ref (z_ad g 0)), (1, .int x1), (2, .int q.1), (4, .int q.2.2), (5, .int 0)] rfl ?_))
    have hw := z_lp_w (fun q9 kb9 kx9 h1 h2 h3 => wb_X10_extension_51 (l := l) (e := e) (below := below) (u := u) hR X x1 q.1 q.2.2 q9 kb9 kx9 h1 h2 h3) z_F _ _ h
    refine hw (fun t14 h => ?_)
    obtain ⟨v15, ev15, h⟩ := z_ls h
    refine z_iload_n X 2 dX10_extension_88 rfl rfl (z_iconst X (v := 1) dX10_extension_89 (by decide) (z_iload X 4 dX10_extension_90 rfl (z_ishl X dX10_extension_92 (z_ior X dX10_extension_93 (z_ti ev15 (z_istore_n X [(2, .int v15), (0, .ref (z_ad g 0)), (1, .int x1), (4, .int q.2.2), (5, .int t14)] dX10_extension_94 rfl (by decide) rfl (z_iload X 4 dX10_extension_95 rfl (z_istore_n X [(3, .int t14), (2, .int v15), (0, .ref (z_ad g 0)), (1, .int x1), (4, .int q.2.2), (5, .int t14)] dX10_extension_97 rfl (by decide) rfl (z_iinc X (v := q.2.2 + 1) 4 [(4, .int (q.2.2 + 1)), (3, .int t14), (2, .int v15), (0, .ref (z_ad g 0)), (1, .int x1), (5, .int t14)] dX10_extension_98 rfl rfl (by decide) rfl (z_goto X 42 dX10_extension_101 (by decide) (z_sub [3, 4, 2, 1, 0] [(0, .ref (z_ad g 0)), (1, .int x1), (2, .int v15), (3, .int t14), (4, .int (q.2.2 + 1))] rfl ?_)))))))))))
    exact hkb (v15, t14, q.2.2 + 1) h
set_option maxRecDepth 20000 in
set_option maxHeartbeats 4000000 in
theorem w_X10_extension (l : Launch) (g : z_G) (a1 : Int32) (u : z_M) {res : Int32 × z_M} (h : f_X10_extension a1 u = some res) : z_C l g z_shR yX10_extension wsX10_extension 4 [.ref (z_ad g 0), .int a1] u (fun v u' => v = some (.int res.1) ∧ u' = res.2) := by
  refine z_C.mk (lv := [(0, .ref (z_ad g 0)), (1, .int a1)]) (cc := cX10_extension) (nL := 6) (rt := (some .int)) rfl (by decide) (Nat.le_of_ble_eq_true rfl) rfl (fun p e R s m args below meth c hR X => ?_)
  unfold f_X10_extension at h
  obtain ⟨u1, eu1, h⟩ := z_ls h
  obtain ⟨r2, er2, h⟩ := z_bs h
  refine z_aload_n X 0 dX10_extension_0 rfl rfl (z_iconst X (v := 0) dX10_extension_1 (by decide) (z_putI X (k0 := 0) (ty0 := tyX10) z_r0 rfl in_X10_extension_X10 tyX10_ok nmX10 (by decide) rfl rfl rfl rfl rfl lk_X10_extension_82 dX10_extension_2 (z_nm eu1 (z_aload_n X 0 dX10_extension_5 rfl rfl (z_callVi X (r := r2) (u1 := u1) [] [] (w_X10_isTold l g u1 er2) z_r0 rfl gX10_extension_X10_isTold hy_X10_isTold rfl (z_le1 hR (by decide)) (z_le2 hR (by decide) (by decide)) (Nat.le_of_ble_eq_true rfl) dX10_extension_6 (z_if_eq X 33 dX10_extension_9 (by decide) (fun c3 => ?_) (fun c3 => ?_)))))))
  · replace h := z_ip c3 h
    refine z_iconst X (v := (-1)) dX10_extension_33 (by decide) ?_
    cases h; exact z_iret X rfl dX10_extension_34 ⟨rfl, rfl⟩
  · replace h := z_in c3 h
    obtain ⟨b4, h⟩ := z_gs h
    obtain ⟨r5, er5, h⟩ := z_bs h
    obtain ⟨r6, er6, h⟩ := z_bs h
    refine z_iload_n X 1 dX10_extension_12 rfl rfl (z_i2l X dX10_extension_13 (z_lconst X (v := 0) dX10_extension_14 (by decide) (z_aload_n X 0 dX10_extension_15 rfl rfl (z_getR X (k0 := 1) z_r0 rfl in_X10_extension_X10 (by decide) rfl rfl lk_X10_extension_9 dX10_extension_16 (z_iconst X (v := 1) dX10_extension_19 (by decide) (z_iald X z_r1 (z_inS b4) dX10_extension_20 (z_callSi X (r := r5) (u1 := u1) [.int (z_gI u1 1 (1 : Int32).toNatClampNeg)] [.long 0, .long a1.toInt64] (w_X10_bits l g (z_gI u1 1 (1 : Int32).toNatClampNeg) u1 er5) gX10_extension_X10_bits hy_X10_bits.2 rfl (z_le1 hR (by decide)) (z_le2 hR (by decide) (by decide)) (Nat.le_of_ble_eq_true rfl) dX10_extension_21 (z_i2l X dX10_extension_24 (z_lconst X (v := 1) dX10_extension_25 (by decide) (z_lsub X dX10_extension_26 (z_callSi X (r := r6) (u1 := u1) [.long a1.toInt64, .long 0, .long (r5.toInt64 - 1)] [] (w_X10_isIn l g a1.toInt64 0 (r5.toInt64 - 1) u1 er6) gX10_extension_X10_isIn hy_X10_isIn.2 rfl (z_le1 hR (by decide)) (z_le2 hR (by decide) (by decide)) (Nat.le_of_ble_eq_true rfl) dX10_extension_27 (z_if_ne X 35 dX10_extension_30 (by decide) (fun c7 => ?_) (fun c7 => ?_)))))))))))))
    · replace h := z_in c7 h
      refine z_iconst X (v := 0) dX10_extension_35 (by decide) (z_istore_n X [(2, .int 0), (0, .ref (z_ad g 0)), (1, .int a1)] dX10_extension_36 rfl (by decide) rfl (z_iconst X (v := (-1)) dX10_extension_37 (by decide) (z_istore_n X [(3, .int (-1)), (2, .int 0), (0, .ref (z_ad g 0)), (1, .int a1)] dX10_extension_38 rfl (by decide) rfl (z_iconst X (v := 0) dX10_extension_39 (by decide) (z_istore X [(4, .int 0), (3, .int (-1)), (2, .int 0), (0, .ref (z_ad g 0)), (1, .int a1)] dX10_extension_40 (by decide) rfl (z_sub [3, 4, 2, 1, 0] [(0, .ref (z_ad g 0)), (1, .int a1), (2, .int 0), (3, .int (-1)), (4, .int 0)] rfl ?_))))))
      have hw := z_lp_w (fun q9 kb9 kx9 h1 h2 h3 => wb_X10_extension_42 (l := l) (e := e) (below := below) (u := u1) hR X a1 q9 kb9 kx9 h1 h2 h3) z_F _ _ h
      refine hw (fun t16 h => ?_)
      refine z_iload_n X 0 dX10_extension_104 rfl rfl ?_
      cases h; exact z_iret X rfl dX10_extension_105 ⟨rfl, rfl⟩
    · replace h := z_ip c7 h
      refine z_iconst X (v := (-1)) dX10_extension_33 (by decide) ?_
      cases h; exact z_iret X rfl dX10_extension_34 ⟨rfl, rfl⟩
