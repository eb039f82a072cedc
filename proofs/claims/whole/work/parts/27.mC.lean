theorem lk_X9_undo_28 : (Cond.fieldLink RX9 28 RX9 (TX9 2).2.1 (TX9 2).2.2.1) ∈ wsX9_undo := by decide +kernel
theorem in_X9_undo_X9 : ∀ w ∈ u_ws RX9 TX9 9, w ∈ wsX9_undo := fun _ h => List.mem_cons_of_mem _ (List.mem_append_left _ (List.mem_append_left _ (List.mem_append_right _ h)))
theorem lk_X9_undo_21 : (Cond.fieldLink RX9 21 RX9 (TX9 1).2.1 (TX9 1).2.2.1) ∈ wsX9_undo := by decide +kernel
theorem lk_X9_undo_149 : (Cond.fieldLink RX9 149 RX5 (TX5 2).2.1 (TX5 2).2.2.1) ∈ wsX9_undo := by decide +kernel
theorem in_X9_undo_X5 : ∀ w ∈ u_ws RX5 TX5 3, w ∈ wsX9_undo := fun _ h => List.mem_cons_of_mem _ (List.mem_append_left _ (List.mem_append_right _ h))
theorem hy_X5_pop : yX5_pop.cls = RX5 ∧ yX5_pop.cls ≠ "java/lang/invoke/MethodHandle" ∧ yX5_pop.cls ≠ "java/lang/invoke/VarHandle" ∧ (parseMethodDescriptor yX5_pop.desc).map (fun d => d.parameters.length) = some 1 := by decide +kernel
def f_X9_undo (u : z_M) : Option (Int32 × z_M) :=
  Option.bind (f_X9_isOrder u) (fun r1 => if r1 = 0 then (some ((-1), u)) else (z_b2 (f_X5_pop 0 u) (fun r3 u4 => if r3 = 0 then (some ((-2), u4)) else (some (z_gI u4 83 2, u4)))))
set_option maxRecDepth 20000 in
set_option maxHeartbeats 4000000 in
theorem w_X9_undo (l : Launch) (g : z_G)  (u : z_M) {res : Int32 × z_M} (h : f_X9_undo u = some res) : z_C l g z_shC yX9_undo wsX9_undo 4 [.ref (z_ad g 80)] u (fun v u' => v = some (.int res.1) ∧ u' = res.2) := by
  refine z_C.mk (lv := [(0, .ref (z_ad g 80))]) (cc := cX9_undo) (nL := 1) (rt := (some .int)) rfl (by decide) (Nat.le_of_ble_eq_true rfl) rfl (fun p e R s m args below meth c hR X => ?_)
  unfold f_X9_undo at h
  obtain ⟨r1, er1, h⟩ := z_bs h
  refine z_aload_n X 0 dX9_undo_0 rfl rfl (z_callVi X (r := r1) (u1 := u) [] [] (w_X9_isOrder l g u er1) z_c80 rfl gX9_undo_X9_isOrder hy_X9_isOrder rfl (z_le1 hR (by decide)) (z_le2 hR (by decide) (by decide)) (Nat.le_of_ble_eq_true rfl) dX9_undo_1 (z_if_ne X 9 dX9_undo_4 (by decide) (fun c2 => ?_) (fun c2 => ?_)))
  · replace h := z_in c2 h
    obtain ⟨r3, u4, er3, h⟩ := z_b2s h
    refine z_aload_n X 0 dX9_undo_9 rfl rfl (z_getR X (k0 := 2) z_c80 rfl in_X9_undo_X9 (by decide) rfl rfl lk_X9_undo_28 dX9_undo_10 (z_aload_n X 0 dX9_undo_13 rfl rfl (z_getR X (k0 := 1) z_c80 rfl in_X9_undo_X9 (by decide) rfl rfl lk_X9_undo_21 dX9_undo_14 (z_callVi X (r := r3) (u1 := u4) [.ref (z_ad g 0)] [] (w_X5_pop l g 0 z_po_0 u er3) z_c83 rfl gX9_undo_X5_pop hy_X5_pop rfl (z_le1 hR (by decide)) (z_le2 hR (by decide) (by decide)) (Nat.le_of_ble_eq_true rfl) dX9_undo_17 (z_if_eq X 33 dX9_undo_20 (by decide) (fun c5 => ?_) (fun c5 => ?_))))))
    · replace h := z_ip c5 h
      refine z_bipush X (v := (-2)) dX9_undo_33 (by decide) ?_
      cases h; exact z_iret X rfl dX9_undo_35 ⟨rfl, rfl⟩
    · replace h := z_in c5 h
      refine z_aload_n X 0 dX9_undo_23 rfl rfl (z_getR X (k0 := 2) z_c80 rfl in_X9_undo_X9 (by decide) rfl rfl lk_X9_undo_28 dX9_undo_24 (z_getI X (k0 := 2) z_c83 rfl in_X9_undo_X5 (by decide) rfl rfl lk_X9_undo_149 dX9_undo_27 (z_goto X 35 dX9_undo_30 (by decide) ?_)))
      cases h; exact z_iret X rfl dX9_undo_35 ⟨rfl, rfl⟩
  · replace h := z_ip c2 h
    refine z_iconst X (v := (-1)) dX9_undo_7 (by decide) ?_
    cases h; exact z_iret X rfl dX9_undo_8 ⟨rfl, rfl⟩

theorem lk_X9_keep_32 : (Cond.fieldLink RX9 32 RX9 (TX9 3).2.1 (TX9 3).2.2.1) ∈ wsX9_keep := by decide +kernel
theorem in_X9_keep_X9 : ∀ w ∈ u_ws RX9 TX9 9, w ∈ wsX9_keep := by decide +kernel
theorem lk_X9_keep_21 : (Cond.fieldLink RX9 21 RX9 (TX9 1).2.1 (TX9 1).2.2.1) ∈ wsX9_keep := by decide +kernel
def f_X9_keep (a1 : Int32) (u : z_M) : Option (Int32 × z_M) :=
  Option.bind (f_X9_isOrder u) (fun r1 => if r1 = 0 then (some (0, u)) else (if a1 < 0 then (some (0, u)) else (if a1 < 2 then (z_gd (z_inb a1 2) (Option.bind (f_X6_copy (8 + 4 * a1.toNatClampNeg) 0 u) (fun r6 => some (1, r6)))) else (some (0, u)))))
set_option maxRecDepth 20000 in
set_option maxHeartbeats 4000000 in
theorem w_X9_keep (l : Launch) (g : z_G) (a1 : Int32) (u : z_M) {res : Int32 × z_M} (h : f_X9_keep a1 u = some res) : z_C l g z_shC yX9_keep wsX9_keep 3 [.ref (z_ad g 80), .int a1] u (fun v u' => v = some (.int res.1) ∧ u' = res.2) := by
  refine z_C.mk (lv := [(0, .ref (z_ad g 80)), (1, .int a1)]) (cc := cX9_keep) (nL := 2) (rt := (some .boolean)) rfl (by decide) (Nat.le_of_ble_eq_true rfl) rfl (fun p e R s m args below meth c hR X => ?_)
  unfold f_X9_keep at h
  obtain ⟨r1, er1, h⟩ := z_bs h
  refine z_aload_n X 0 dX9_keep_0 rfl rfl (z_callVi X (r := r1) (u1 := u) [] [] (w_X9_isOrder l g u er1) z_c80 rfl gX9_keep_X9_isOrder hy_X9_isOrder rfl (z_le1 hR (by decide)) (z_le2 hR (by decide) (by decide)) (Nat.le_of_ble_eq_true rfl) dX9_keep_1 (z_if_eq X 16 dX9_keep_4 (by decide) (fun c2 => ?_) (fun c2 => ?_)))
  · replace h := z_ip c2 h
    refine z_iconst X (v := 0) dX9_keep_16 (by decide) ?_
    cases h; exact z_zret X rfl rfl dX9_keep_17 ⟨rfl, rfl⟩
  · replace h := z_in c2 h
    refine z_iload_n X 1 dX9_keep_7 rfl rfl (z_if_lt X 16 dX9_keep_8 (by decide) (fun c3 => ?_) (fun c3 => ?_))
    · replace h := z_ip c3 h
      refine z_iconst X (v := 0) dX9_keep_16 (by decide) ?_
      cases h; exact z_zret X rfl rfl dX9_keep_17 ⟨rfl, rfl⟩
    · replace h := z_in c3 h
      refine z_iload_n X 1 dX9_keep_11 rfl rfl (z_iconst X (v := 2) dX9_keep_12 (by decide) (z_icmp_lt X 18 dX9_keep_13 (by decide) (fun c4 => ?_) (fun c4 => ?_)))
      · replace h := z_ip c4 h
        obtain ⟨b5, h⟩ := z_gs h
        obtain ⟨r6, er6, h⟩ := z_bs h
        refine z_aload_n X 0 dX9_keep_18 rfl rfl (z_getR X (k0 := 3) z_c80 rfl in_X9_keep_X9 (by decide) rfl rfl lk_X9_keep_32 dX9_keep_19 (z_iload_n X 1 dX9_keep_22 rfl rfl (z_aalP X z_c85 (z_inS b5) dX9_keep_23 (z_aload_n X 0 dX9_keep_24 rfl rfl (z_getR X (k0 := 1) z_c80 rfl in_X9_keep_X9 (by decide) rfl rfl lk_X9_keep_21 dX9_keep_25 (z_callVv X (u1 := r6) [.ref (z_ad g 0)] [] (w_X6_copy l g (8 + 4 * a1.toNatClampNeg) 0 (z_po_kept (z_inS b5)) z_po_0 u er6) (z_po (z_po_kept (z_inS b5))) rfl gX9_keep_X6_copy hy_X6_copy rfl (z_le1 hR (by decide)) (z_le2 hR (by decide) (by decide)) (Nat.le_of_ble_eq_true rfl) dX9_keep_28 (z_iconst X (v := 1) dX9_keep_31 (by decide) ?_)))))))
        cases h; exact z_zret X rfl rfl dX9_keep_32 ⟨rfl, rfl⟩
      · replace h := z_in c4 h
        refine z_iconst X (v := 0) dX9_keep_16 (by decide) ?_
        cases h; exact z_zret X rfl rfl dX9_keep_17 ⟨rfl, rfl⟩

theorem lk_X9_isKept_32 : (Cond.fieldLink RX9 32 RX9 (TX9 3).2.1 (TX9 3).2.2.1) ∈ wsX9_isKept := by decide +kernel
theorem in_X9_isKept_X9 : ∀ w ∈ u_ws RX9 TX9 9, w ∈ wsX9_isKept := by decide +kernel
theorem lk_X9_isKept_341 : (Cond.fieldLink RX9 341 RX6 (TX6 0).2.1 (TX6 0).2.2.1) ∈ wsX9_isKept := by decide +kernel
theorem in_X9_isKept_X6 : ∀ w ∈ u_ws RX6 TX6 6, w ∈ wsX9_isKept := by decide +kernel
def f_X9_isKept (a1 : Int32) (u : z_M) : Option (Int32) :=
  if a1 < 0 then (some 0) else (if 2 ≤ a1 then (some 0) else (z_gd (z_inb a1 2) (if (z_gI u (8 + 4 * a1.toNatClampNeg) 0) ≤ 0 then (some 0) else (some 1))))
set_option maxRecDepth 20000 in
set_option maxHeartbeats 4000000 in
theorem w_X9_isKept (l : Launch) (g : z_G) (a1 : Int32) (u : z_M) {res : Int32} (h : f_X9_isKept a1 u = some res) : z_C l g z_shC yX9_isKept wsX9_isKept 1 [.ref (z_ad g 80), .int a1] u (fun v u' => v = some (.int res) ∧ u' = u) := by
  refine z_C.mk (lv := [(0, .ref (z_ad g 80)), (1, .int a1)]) (cc := cX9_isKept) (nL := 2) (rt := (some .boolean)) rfl (by decide) (Nat.le_of_ble_eq_true rfl) rfl (fun p e R s m args below meth c hR X => ?_)
  unfold f_X9_isKept at h
  refine z_iload_n X 1 dX9_isKept_0 rfl rfl (z_if_lt X 25 dX9_isKept_1 (by decide) (fun c1 => ?_) (fun c1 => ?_))
  · replace h := z_ip c1 h
    refine z_iconst X (v := 0) dX9_isKept_25 (by decide) ?_
    cases h; exact z_zret X rfl rfl dX9_isKept_26 ⟨rfl, rfl⟩
  · replace h := z_in c1 h
    refine z_iload_n X 1 dX9_isKept_4 rfl rfl (z_iconst X (v := 2) dX9_isKept_5 (by decide) (z_icmp_ge X 25 dX9_isKept_6 (by decide) (fun c2 => ?_) (fun c2 => ?_)))
    · replace h := z_ip c2 h
      refine z_iconst X (v := 0) dX9_isKept_25 (by decide) ?_
      cases h; exact z_zret X rfl rfl dX9_isKept_26 ⟨rfl, rfl⟩
    · replace h := z_in c2 h
      obtain ⟨b3, h⟩ := z_gs h
      refine z_aload_n X 0 dX9_isKept_9 rfl rfl (z_getR X (k0 := 3) z_c80 rfl in_X9_isKept_X9 (by decide) rfl rfl lk_X9_isKept_32 dX9_isKept_10 (z_iload_n X 1 dX9_isKept_13 rfl rfl (z_aalP X z_c85 (z_inS b3) dX9_isKept_14 (z_getI X (k0 := 0) (z_po (z_po_kept (z_inS b3))) rfl in_X9_isKept_X6 (by decide) rfl rfl lk_X9_isKept_341 dX9_isKept_15 (z_if_le X 25 dX9_isKept_18 (by decide) (fun c4 => ?_) (fun c4 => ?_))))))
      · replace h := z_ip c4 h
        refine z_iconst X (v := 0) dX9_isKept_25 (by decide) ?_
        cases h; exact z_zret X rfl rfl dX9_isKept_26 ⟨rfl, rfl⟩
      · replace h := z_in c4 h
        refine z_iconst X (v := 1) dX9_isKept_21 (by decide) (z_goto X 26 dX9_isKept_22 (by decide) ?_)
        cases h; exact z_zret X rfl rfl dX9_isKept_26 ⟨rfl, rfl⟩

theorem lk_X9_again_28 : (Cond.fieldLink RX9 28 RX9 (TX9 2).2.1 (TX9 2).2.2.1) ∈ wsX9_again := by decide +kernel
theorem in_X9_again_X9 : ∀ w ∈ u_ws RX9 TX9 9, w ∈ wsX9_again := fun _ h => List.mem_cons_of_mem _ (List.mem_append_left _ (List.mem_append_left _ (List.mem_append_right _ h)))
theorem lk_X9_again_21 : (Cond.fieldLink RX9 21 RX9 (TX9 1).2.1 (TX9 1).2.2.1) ∈ wsX9_again := by decide +kernel
theorem lk_X9_again_32 : (Cond.fieldLink RX9 32 RX9 (TX9 3).2.1 (TX9 3).2.2.1) ∈ wsX9_again := by decide +kernel
theorem hy_X9_isKept : yX9_isKept.cls = RX9 ∧ yX9_isKept.cls ≠ "java/lang/invoke/MethodHandle" ∧ yX9_isKept.cls ≠ "java/lang/invoke/VarHandle" ∧ (parseMethodDescriptor yX9_isKept.desc).map (fun d => d.parameters.length) = some 1 := by decide +kernel
def f_X9_again (a1 : Int32) (u : z_M) : Option (Int32 × z_M) :=
  Option.bind (f_X9_isKept a1 u) (fun r1 => if r1 = 0 then (some (0, u)) else (Option.bind (f_X5_push 0 u) (fun r3 => z_gd (z_inb a1 2) (Option.bind (f_X6_copy 0 (8 + 4 * a1.toNatClampNeg) r3) (fun r5 => some (1, r5))))))
set_option maxRecDepth 20000 in
set_option maxHeartbeats 4000000 in
theorem w_X9_again (l : Launch) (g : z_G) (a1 : Int32) (u : z_M) {res : Int32 × z_M} (h : f_X9_again a1 u = some res) : z_C l g z_shC yX9_again wsX9_again 4 [.ref (z_ad g 80), .int a1] u (fun v u' => v = some (.int res.1) ∧ u' = res.2) := by
  refine z_C.mk (lv := [(0, .ref (z_ad g 80)), (1, .int a1)]) (cc := cX9_again) (nL := 2) (rt := (some .boolean)) rfl (by decide) (Nat.le_of_ble_eq_true rfl) rfl (fun p e R s m args below meth c hR X => ?_)
  unfold f_X9_again at h
  obtain ⟨r1, er1, h⟩ := z_bs h
  refine z_aload_n X 0 dX9_again_0 rfl rfl (z_iload_n X 1 dX9_again_1 rfl rfl (z_callVi X (r := r1) (u1 := u) [.int a1] [] (w_X9_isKept l g a1 u er1) z_c80 rfl gX9_again_X9_isKept hy_X9_isKept rfl (z_le1 hR (by decide)) (z_le2 hR (by decide) (by decide)) (Nat.le_of_ble_eq_true rfl) dX9_again_2 (z_if_ne X 10 dX9_again_5 (by decide) (fun c2 => ?_) (fun c2 => ?_))))
  · replace h := z_in c2 h
    obtain ⟨r3, er3, h⟩ := z_bs h
    obtain ⟨b4, h⟩ := z_gs h
    obtain ⟨r5, er5, h⟩ := z_bs h
    refine z_aload_n X 0 dX9_again_10 rfl rfl (z_getR X (k0 := 2) z_c80 rfl in_X9_again_X9 (by decide) rfl rfl lk_X9_again_28 dX9_again_11 (z_aload_n X 0 dX9_again_14 rfl rfl (z_getR X (k0 := 1) z_c80 rfl in_X9_again_X9 (by decide) rfl rfl lk_X9_again_21 dX9_again_15 (z_callVv X (u1 := r3) [.ref (z_ad g 0)] [] (w_X5_push l g 0 z_po_0 u er3) z_c83 rfl gX9_again_X5_push hy_X5_push rfl (z_le1 hR (by decide)) (z_le2 hR (by decide) (by decide)) (Nat.le_of_ble_eq_true rfl) dX9_again_18 (z_aload_n X 0 dX9_again_21 rfl rfl (z_getR X (k0 := 1) z_c80 rfl in_X9_again_X9 (by decide) rfl rfl lk_X9_again_21 dX9_again_22 (z_aload_n X 0 dX9_again_25 rfl rfl (z_getR X (k0 := 3) z_c80 rfl in_X9_again_X9 (by decide) rfl rfl lk_X9_again_32 dX9_again_26 (z_iload_n X 1 dX9_again_29 rfl rfl (z_aalP X z_c85 (z_inS b4) dX9_again_30 (z_callVv X (u1 := r5) [.ref (z_ad g (8 + 4 * a1.toNatClampNeg))] [] (w_X6_copy l g 0 (8 + 4 * a1.toNatClampNeg) z_po_0 (z_po_kept (z_inS b4)) r3 er5) (z_po z_po_0) rfl gX9_again_X6_copy hy_X6_copy rfl (z_le1 hR (by decide)) (z_le2 hR (by decide) (by decide)) (Nat.le_of_ble_eq_true rfl) dX9_again_31 (z_iconst X (v := 1) dX9_again_34 (by decide) ?_))))))))))))
    cases h; exact z_zret X rfl rfl dX9_again_35 ⟨rfl, rfl⟩
  · replace h := z_ip c2 h
    refine z_iconst X (v := 0) dX9_again_8 (by decide) ?_
    cases h; exact z_zret X rfl rfl dX9_again_9 ⟨rfl, rfl⟩

theorem lk_X9_label_21 : (Cond.fieldLink RX9 21 RX9 (TX9 1).2.1 (TX9 1).2.2.1) ∈ wsX9_label := by decide +kernel
theorem in_X9_label_X9 : ∀ w ∈ u_ws RX9 TX9 9, w ∈ wsX9_label := fun _ h => List.mem_cons_of_mem _ (List.mem_append_left _ (List.mem_append_right _ h))
theorem hy_X6_isEdge : yX6_isEdge.cls = RX6 ∧ yX6_isEdge.cls ≠ "java/lang/invoke/MethodHandle" ∧ yX6_isEdge.cls ≠ "java/lang/invoke/VarHandle" ∧ (parseMethodDescriptor yX6_isEdge.desc).map (fun d => d.parameters.length) = some 2 := by decide +kernel
def f_X9_label (a1 : Int32) (a2 : Int32) (u : z_M) : Option (Int32) :=
  Option.bind (f_X6_has 0 a1 u) (fun r1 => if r1 = 0 then (some (-1)) else (Option.bind (f_X6_has 0 a2 u) (fun r3 => if r3 = 0 then (some (-1)) else (Option.bind (f_X6_isEdge 0 a1 a2 u) (fun r5 => if r5 = 0 then (some (-2)) else (Option.bind (f_X6_edgeLabel 0 a1 a2 u) (fun r7 => some r7)))))))
set_option maxRecDepth 20000 in
set_option maxHeartbeats 4000000 in
theorem w_X9_label (l : Launch) (g : z_G) (a1 : Int32) (a2 : Int32) (u : z_M) {res : Int32} (h : f_X9_label a1 a2 u = some res) : z_C l g z_shC yX9_label wsX9_label 5 [.ref (z_ad g 80), .int a1, .int a2] u (fun v u' => v = some (.int res) ∧ u' = u) := by
  refine z_C.mk (lv := [(0, .ref (z_ad g 80)), (1, .int a1), (2, .int a2)]) (cc := cX9_label) (nL := 3) (rt := (some .int)) rfl (by decide) (Nat.le_of_ble_eq_true rfl) rfl (fun p e R s m args below meth c hR X => ?_)
  unfold f_X9_label at h
  obtain ⟨r1, er1, h⟩ := z_bs h
  refine z_aload_n X 0 dX9_label_0 rfl rfl (z_getR X (k0 := 1) z_c80 rfl in_X9_label_X9 (by decide) rfl rfl lk_X9_label_21 dX9_label_1 (z_iload_n X 1 dX9_label_4 rfl rfl (z_callVi X (r := r1) (u1 := u) [.int a1] [] (w_X6_has l g 0 a1 z_po_0 u er1) (z_po z_po_0) rfl gX9_label_X6_has hy_X6_has rfl (z_le1 hR (by decide)) (z_le2 hR (by decide) (by decide)) (Nat.le_of_ble_eq_true rfl) dX9_label_5 (z_if_eq X 22 dX9_label_8 (by decide) (fun c2 => ?_) (fun c2 => ?_)))))
  · replace h := z_ip c2 h
    refine z_iconst X (v := (-1)) dX9_label_22 (by decide) ?_
    cases h; exact z_iret X rfl dX9_label_23 ⟨rfl, rfl⟩
  · replace h := z_in c2 h
    obtain ⟨r3, er3, h⟩ := z_bs h
    refine z_aload_n X 0 dX9_label_11 rfl rfl (z_getR X (k0 := 1) z_c80 rfl in_X9_label_X9 (by decide) rfl rfl lk_X9_label_21 dX9_label_12 (z_iload_n X 2 dX9_label_15 rfl rfl (z_callVi X (r := r3) (u1 := u) [.int a2] [] (w_X6_has l g 0 a2 z_po_0 u er3) (z_po z_po_0) rfl gX9_label_X6_has hy_X6_has rfl (z_le1 hR (by decide)) (z_le2 hR (by decide) (by decide)) (Nat.le_of_ble_eq_true rfl) dX9_label_16 (z_if_ne X 24 dX9_label_19 (by decide) (fun c4 => ?_) (fun c4 => ?_)))))
    · replace h := z_in c4 h
      obtain ⟨r5, er5, h⟩ := z_bs h
      refine z_aload_n X 0 dX9_label_24 rfl rfl (z_getR X (k0 := 1) z_c80 rfl in_X9_label_X9 (by decide) rfl rfl lk_X9_label_21 dX9_label_25 (z_iload_n X 1 dX9_label_28 rfl rfl (z_iload_n X 2 dX9_label_29 rfl rfl (z_callVi X (r := r5) (u1 := u) [.int a1, .int a2] [] (w_X6_isEdge l g 0 a1 a2 z_po_0 u er5) (z_po z_po_0) rfl gX9_label_X6_isEdge hy_X6_isEdge rfl (z_le1 hR (by decide)) (z_le2 hR (by decide) (by decide)) (Nat.le_of_ble_eq_true rfl) dX9_label_30 (z_if_eq X 48 dX9_label_33 (by decide) (fun c6 => ?_) (fun c6 => ?_))))))
      · replace h := z_ip c6 h
        refine z_bipush X (v := (-2)) dX9_label_48 (by decide) ?_
        cases h; exact z_iret X rfl dX9_label_50 ⟨rfl, rfl⟩
      · replace h := z_in c6 h
        obtain ⟨r7, er7, h⟩ := z_bs h
        refine z_aload_n X 0 dX9_label_36 rfl rfl (z_getR X (k0 := 1) z_c80 rfl in_X9_label_X9 (by decide) rfl rfl lk_X9_label_21 dX9_label_37 (z_iload_n X 1 dX9_label_40 rfl rfl (z_iload_n X 2 dX9_label_41 rfl rfl (z_callVi X (r := r7) (u1 := u) [.int a1, .int a2] [] (w_X6_edgeLabel l g 0 a1 a2 z_po_0 u er7) (z_po z_po_0) rfl gX9_label_X6_edgeLabel hy_X6_edgeLabel rfl (z_le1 hR (by decide)) (z_le2 hR (by decide) (by decide)) (Nat.le_of_ble_eq_true rfl) dX9_label_42 (z_goto X 50 dX9_label_45 (by decide) ?_)))))
        cases h; exact z_iret X rfl dX9_label_50 ⟨rfl, rfl⟩
    · replace h := z_ip c4 h
      refine z_iconst X (v := (-1)) dX9_label_22 (by decide) ?_
      cases h; exact z_iret X rfl dX9_label_23 ⟨rfl, rfl⟩

theorem lk_X9_height_21 : (Cond.fieldLink RX9 21 RX9 (TX9 1).2.1 (TX9 1).2.2.1) ∈ wsX9_height := by decide +kernel
theorem in_X9_height_X9 : ∀ w ∈ u_ws RX9 TX9 9, w ∈ wsX9_height := fun _ h => List.mem_cons_of_mem _ (List.mem_append_left _ (List.mem_append_left _ (List.mem_append_right _ h)))
theorem lk_X9_height_46 : (Cond.fieldLink RX9 46 RX9 (TX9 5).2.1 (TX9 5).2.2.1) ∈ wsX9_height := by decide +kernel
theorem lk_X9_height_136 : (Cond.fieldLink RX9 136 RX6 (TX6 1).2.1 (TX6 1).2.2.1) ∈ wsX9_height := by decide +kernel
theorem in_X9_height_X6 : ∀ w ∈ u_ws RX6 TX6 6, w ∈ wsX9_height := fun _ h => List.mem_cons_of_mem _ (List.mem_append_left _ (List.mem_append_right _ h))
theorem lk_X9_height_181 : (Cond.fieldLink RX9 181 RX8 (TX8 1).2.1 (TX8 1).2.2.1) ∈ wsX9_height := by decide +kernel
theorem in_X9_height_X8 : ∀ w ∈ u_ws RX8 TX8 5, w ∈ wsX9_height := fun _ h => List.mem_cons_of_mem _ (List.mem_append_right _ h)
theorem hy_X8_measure : yX8_measure.cls = RX8 ∧ yX8_measure.cls ≠ "java/lang/invoke/MethodHandle" ∧ yX8_measure.cls ≠ "java/lang/invoke/VarHandle" ∧ (parseMethodDescriptor yX8_measure.desc).map (fun d => d.parameters.length) = some 2 := by decide +kernel
def f_X9_height (a1 : Int32) (u : z_M) : Option (Int32 × z_M) :=
  Option.bind (f_X6_has 0 a1 u) (fun r1 => if r1 = 0 then (some ((-1), u)) else (Option.bind (f_X8_measure 0 (z_gI u 0 1) u) (fun r3 => z_gd (z_inb a1 9) (some (z_gI r3 127 a1.toNatClampNeg, r3)))))
set_option maxRecDepth 20000 in
set_option maxHeartbeats 4000000 in
theorem w_X9_height (l : Launch) (g : z_G) (a1 : Int32) (u : z_M) {res : Int32 × z_M} (h : f_X9_height a1 u = some res) : z_C l g z_shC yX9_height wsX9_height 5 [.ref (z_ad g 80), .int a1] u (fun v u' => v = some (.int res.1) ∧ u' = res.2) := by
  refine z_C.mk (lv := [(0, .ref (z_ad g 80)), (1, .int a1)]) (cc := cX9_height) (nL := 2) (rt := (some .int)) rfl (by decide) (Nat.le_of_ble_eq_true rfl) rfl (fun p e R s m args below meth c hR X => ?_)
  unfold f_X9_height at h
  obtain ⟨r1, er1, h⟩ := z_bs h
  refine z_aload_n X 0 dX9_height_0 rfl rfl (z_getR X (k0 := 1) z_c80 rfl in_X9_height_X9 (by decide) rfl rfl lk_X9_height_21 dX9_height_1 (z_iload_n X 1 dX9_height_4 rfl rfl (z_callVi X (r := r1) (u1 := u) [.int a1] [] (w_X6_has l g 0 a1 z_po_0 u er1) (z_po z_po_0) rfl gX9_height_X6_has hy_X6_has rfl (z_le1 hR (by decide)) (z_le2 hR (by decide) (by decide)) (Nat.le_of_ble_eq_true rfl) dX9_height_5 (z_if_ne X 13 dX9_height_8 (by decide) (fun c2 => ?_) (fun c2 => ?_)))))
  · replace h := z_in c2 h
    obtain ⟨r3, er3, h⟩ := z_bs h
    obtain ⟨b4, h⟩ := z_gs h
    refine z_aload_n X 0 dX9_height_13 rfl rfl (z_getR X (k0 := 5) z_c80 rfl in_X9_height_X9 (by decide) rfl rfl lk_X9_height_46 dX9_height_14 (z_aload_n X 0 dX9_height_17 rfl rfl (z_getR X (k0 := 1) z_c80 rfl in_X9_height_X9 (by decide) rfl rfl lk_X9_height_21 dX9_height_18 (z_aload_n X 0 dX9_height_21 rfl rfl (z_getR X (k0 := 1) z_c80 rfl in_X9_height_X9 (by decide) rfl rfl lk_X9_height_21 dX9_height_22 (z_getI X (k0 := 1) (z_po z_po_0) rfl in_X9_height_X6 (by decide) rfl rfl lk_X9_height_136 dX9_height_25 (z_callVv X (u1 := r3) [.ref (z_ad g 0), .int (z_gI u 0 1)] [] (w_X8_measure l g 0 (z_gI u 0 1) z_po_0 u er3) z_c125 rfl gX9_height_X8_measure hy_X8_measure rfl (z_le1 hR (by decide)) (z_le2 hR (by decide) (by decide)) (Nat.le_of_ble_eq_true rfl) dX9_height_28 (z_aload_n X 0 dX9_height_31 rfl rfl (z_getR X (k0 := 5) z_c80 rfl in_X9_height_X9 (by decide) rfl rfl lk_X9_height_46 dX9_height_32 (z_getR X (k0 := 1) z_c125 rfl in_X9_height_X8 (by decide) rfl rfl lk_X9_height_181 dX9_height_35 (z_iload_n X 1 dX9_height_38 rfl rfl (z_iald X z_c127 (z_inS b4) dX9_height_39 ?_))))))))))))
    cases h; exact z_iret X rfl dX9_height_40 ⟨rfl, rfl⟩
  · replace h := z_ip c2 h
    refine z_iconst X (v := (-1)) dX9_height_11 (by decide) ?_
    cases h; exact z_iret X rfl dX9_height_12 ⟨rfl, rfl⟩

theorem lk_X9_join_21 : (Cond.fieldLink RX9 21 RX9 (TX9 1).2.1 (TX9 1).2.2.1) ∈ wsX9_join := by decide +kernel
theorem in_X9_join_X9 : ∀ w ∈ u_ws RX9 TX9 9, w ∈ wsX9_join := by decide +kernel
def f_X9_join (a1 : Int32) (a2 : Int32) (u : z_M) : Option (Int32) :=
  Option.bind (f_X6_has 0 a1 u) (fun r1 => if r1 = 0 then (some (-1)) else (Option.bind (f_X6_has 0 a2 u) (fun r3 => if r3 = 0 then (some (-1)) else (Option.bind (f_X6_atLeast 0 a1 u) (fun r5 => Option.bind (f_X6_atLeast 0 a2 u) (fun r6 => Option.bind (f_X6_leastOf 0 (r5 &&& r6) u) (fun r7 => some r7)))))))
set_option maxRecDepth 20000 in
set_option maxHeartbeats 4000000 in
theorem w_X9_join (l : Launch) (g : z_G) (a1 : Int32) (a2 : Int32) (u : z_M) {res : Int32} (h : f_X9_join a1 a2 u = some res) : z_C l g z_shC yX9_join wsX9_join 5 [.ref (z_ad g 80), .int a1, .int a2] u (fun v u' => v = some (.int res) ∧ u' = u) := by
  refine z_C.mk (lv := [(0, .ref (z_ad g 80)), (1, .int a1), (2, .int a2)]) (cc := cX9_join) (nL := 3) (rt := (some .int)) rfl (by decide) (Nat.le_of_ble_eq_true rfl) rfl (fun p e R s m args below meth c hR X => ?_)
  unfold f_X9_join at h
  obtain ⟨r1, er1, h⟩ := z_bs h
  refine z_aload_n X 0 dX9_join_0 rfl rfl (z_getR X (k0 := 1) z_c80 rfl in_X9_join_X9 (by decide) rfl rfl lk_X9_join_21 dX9_join_1 (z_iload_n X 1 dX9_join_4 rfl rfl (z_callVi X (r := r1) (u1 := u) [.int a1] [] (w_X6_has l g 0 a1 z_po_0 u er1) (z_po z_po_0) rfl gX9_join_X6_has hy_X6_has rfl (z_le1 hR (by decide)) (z_le2 hR (by decide) (by decide)) (Nat.le_of_ble_eq_true rfl) dX9_join_5 (z_if_eq X 22 dX9_join_8 (by decide) (fun c2 => ?_) (fun c2 => ?_)))))
  · replace h := z_ip c2 h
    refine z_iconst X (v := (-1)) dX9_join_22 (by decide) ?_
    cases h; exact z_iret X rfl dX9_join_23 ⟨rfl, rfl⟩
  · replace h := z_in c2 h
    obtain ⟨r3, er3, h⟩ := z_bs h
    refine z_aload_n X 0 dX9_join_11 rfl rfl (z_getR X (k0 := 1) z_c80 rfl in_X9_join_X9 (by decide) rfl rfl lk_X9_join_21 dX9_join_12 (z_iload_n X 2 dX9_join_15 rfl rfl (z_callVi X (r := r3) (u1 := u) [.int a2] [] (w_X6_has l g 0 a2 z_po_0 u er3) (z_po z_po_0) rfl gX9_join_X6_has hy_X6_has rfl (z_le1 hR (by decide)) (z_le2 hR (by decide) (by decide)) (Nat.le_of_ble_eq_true rfl) dX9_join_16 (z_if_ne X 24 dX9_join_19 (by decide) (fun c4 => ?_) (fun c4 => ?_)))))
    · replace h := z_in c4 h
      obtain ⟨r5, er5, h⟩ := z_bs h
      obtain ⟨r6, er6, h⟩ := z_bs h
      obtain ⟨r7, er7, h⟩ := z_bs h
      refine z_aload_n X 0 dX9_join_24 rfl rfl (z_getR X (k0 := 1) z_c80 rfl in_X9_join_X9 (by decide) rfl rfl lk_X9_join_21 dX9_join_25 (z_aload_n X 0 dX9_join_28 rfl rfl (z_getR X (k0 := 1) z_c80 rfl in_X9_join_X9 (by decide) rfl rfl lk_X9_join_21 dX9_join_29 (z_iload_n X 1 dX9_join_32 rfl rfl (z_callVi X (r := r5) (u1 := u) [.int a1] [.ref (z_ad g 0)] (w_X6_atLeast l g 0 a1 z_po_0 u er5) (z_po z_po_0) rfl gX9_join_X6_atLeast hy_X6_atLeast rfl (z_le1 hR (by decide)) (z_le2 hR (by decide) (by decide)) (Nat.le_of_ble_eq_true rfl) dX9_join_33 (z_aload_n X 0 dX9_join_36 rfl rfl (z_getR X (k0 := 1) z_c80 rfl in_X9_join_X9 (by decide) rfl rfl lk_X9_join_21 dX9_join_37 (z_iload_n X 2 dX9_join_40 rfl rfl (z_callVi X (r := r6) (u1 := u) [.int a2] [.int r5, .ref (z_ad g 0)] (w_X6_atLeast l g 0 a2 z_po_0 u er6) (z_po z_po_0) rfl gX9_join_X6_atLeast hy_X6_atLeast rfl (z_le1 hR (by decide)) (z_le2 hR (by decide) (by decide)) (Nat.le_of_ble_eq_true rfl) dX9_join_41 (z_iand X dX9_join_44 (z_callVi X (r := r7) (u1 := u) [.int (r5 &&& r6)] [] (w_X6_leastOf l g 0 (r5 &&& r6) z_po_0 u er7) (z_po z_po_0) rfl gX9_join_X6_leastOf hy_X6_leastOf rfl (z_le1 hR (by decide)) (z_le2 hR (by decide) (by decide)) (Nat.le_of_ble_eq_true rfl) dX9_join_45 ?_)))))))))))
      cases h; exact z_iret X rfl dX9_join_48 ⟨rfl, rfl⟩
    · replace h := z_ip c4 h
      refine z_iconst X (v := (-1)) dX9_join_22 (by decide) ?_
      cases h; exact z_iret X rfl dX9_join_23 ⟨rfl, rfl⟩

theorem lk_X9_meet_21 : (Cond.fieldLink RX9 21 RX9 (TX9 1).2.1 (TX9 1).2.2.1) ∈ wsX9_meet := by decide +kernel
theorem in_X9_meet_X9 : ∀ w ∈ u_ws RX9 TX9 9, w ∈ wsX9_meet := by decide +kernel
def f_X9_meet (a1 : Int32) (a2 : Int32) (u : z_M) : Option (Int32) :=
  Option.bind (f_X6_has 0 a1 u) (fun r1 => if r1 = 0 then (some (-1)) else (Option.bind (f_X6_has 0 a2 u) (fun r3 => if r3 = 0 then (some (-1)) else (Option.bind (f_X6_atMost 0 a1 u) (fun r5 => Option.bind (f_X6_atMost 0 a2 u) (fun r6 => Option.bind (f_X6_greatestOf 0 (r5 &&& r6) u) (fun r7 => some r7)))))))
set_option maxRecDepth 20000 in
set_option maxHeartbeats 4000000 in
theorem w_X9_meet (l : Launch) (g : z_G) (a1 : Int32) (a2 : Int32) (u : z_M) {res : Int32} (h : f_X9_meet a1 a2 u = some res) : z_C l g z_shC yX9_meet wsX9_meet 5 [.ref (z_ad g 80), .int a1, .int a2] u (fun v u' => v = some (.int res) ∧ u' = u) := by
  refine z_C.mk (lv := [(0, .ref (z_ad g 80)), (1, .int a1), (2, .int a2)]) (cc := cX9_meet) (nL := 3) (rt := (some .int)) rfl (by decide) (Nat.le_of_ble_eq_true rfl) rfl (fun p e R s m args below meth c hR X => ?_)
  unfold f_X9_meet at h
  obtain ⟨r1, er1, h⟩ := z_bs h
  refine z_aload_n X 0 dX9_meet_0 rfl rfl (z_getR X (k0 := 1) z_c80 rfl in_X9_meet_X9 (by decide) rfl rfl lk_X9_meet_21 dX9_meet_1 (z_iload_n X 1 dX9_meet_4 rfl rfl (z_callVi X (r := r1) (u1 := u) [.int a1] [] (w_X6_has l g 0 a1 z_po_0 u er1) (z_po z_po_0) rfl gX9_meet_X6_has hy_X6_has rfl (z_le1 hR (by decide)) (z_le2 hR (by decide) (by decide)) (Nat.le_of_ble_eq_true rfl) dX9_meet_5 (z_if_eq X 22 dX9_meet_8 (by decide) (fun c2 => ?_) (fun c2 => ?_)))))
  · replace h := z_ip c2 h
    refine z_iconst X (v := (-1)) dX9_meet_22 (by decide) ?_
    cases h; exact z_iret X rfl dX9_meet_23 ⟨rfl, rfl⟩
  · replace h := z_in c2 h
    obtain ⟨r3, er3, h⟩ := z_bs h
    refine z_aload_n X 0 dX9_meet_11 rfl rfl (z_getR X (k0 := 1) z_c80 rfl in_X9_meet_X9 (by decide) rfl rfl lk_X9_meet_21 dX9_meet_12 (z_iload_n X 2 dX9_meet_15 rfl rfl (z_callVi X (r := r3) (u1 := u) [.int a2] [] (w_X6_has l g 0 a2 z_po_0 u er3) (z_po z_po_0) rfl gX9_meet_X6_has hy_X6_has rfl (z_le1 hR (by decide)) (z_le2 hR (by decide) (by decide)) (Nat.le_of_ble_eq_true rfl) dX9_meet_16 (z_if_ne X 24 dX9_meet_19 (by decide) (fun c4 => ?_) (fun c4 => ?_)))))
    · replace h := z_in c4 h
      obtain ⟨r5, er5, h⟩ := z_bs h
      obtain ⟨r6, er6, h⟩ := z_bs h
      obtain ⟨r7, er7, h⟩ := z_bs h
      refine z_aload_n X 0 dX9_meet_24 rfl rfl (z_getR X (k0 := 1) z_c80 rfl in_X9_meet_X9 (by decide) rfl rfl lk_X9_meet_21 dX9_meet_25 (z_aload_n X 0 dX9_meet_28 rfl rfl (z_getR X (k0 := 1) z_c80 rfl in_X9_meet_X9 (by decide) rfl rfl lk_X9_meet_21 dX9_meet_29 (z_iload_n X 1 dX9_meet_32 rfl rfl (z_callVi X (r := r5) (u1 := u) [.int a1] [.ref (z_ad g 0)] (w_X6_atMost l g 0 a1 z_po_0 u er5) (z_po z_po_0) rfl gX9_meet_X6_atMost hy_X6_atMost rfl (z_le1 hR (by decide)) (z_le2 hR (by decide) (by decide)) (Nat.le_of_ble_eq_true rfl) dX9_meet_33 (z_aload_n X 0 dX9_meet_36 rfl rfl (z_getR X (k0 := 1) z_c80 rfl in_X9_meet_X9 (by decide) rfl rfl lk_X9_meet_21 dX9_meet_37 (z_iload_n X 2 dX9_meet_40 rfl rfl (z_callVi X (r := r6) (u1 := u) [.int a2] [.int r5, .ref (z_ad g 0)] (w_X6_atMost l g 0 a2 z_po_0 u er6) (z_po z_po_0) rfl gX9_meet_X6_atMost hy_X6_atMost rfl (z_le1 hR (by decide)) (z_le2 hR (by decide) (by decide)) (Nat.le_of_ble_eq_true rfl) dX9_meet_41 (z_iand X dX9_meet_44 (z_callVi X (r := r7) (u1 := u) [.int (r5 &&& r6)] [] (w_X6_greatestOf l g 0 (r5 &&& r6) z_po_0 u er7) (z_po z_po_0) rfl gX9_meet_X6_greatestOf hy_X6_greatestOf rfl (z_le1 hR (by decide)) (z_le2 hR (by decide) (by decide)) (Nat.le_of_ble_eq_true rfl) dX9_meet_45 ?_)))))))))))
      cases h; exact z_iret X rfl dX9_meet_48 ⟨rfl, rfl⟩
    · replace h := z_ip c4 h
      refine z_iconst X (v := (-1)) dX9_meet_22 (by decide) ?_
      cases h; exact z_iret X rfl dX9_meet_23 ⟨rfl, rfl⟩

def f_X9_asNumber (a1 : Int32) : Option (Int32) :=
  if a1 = 0 then (some 0) else (some 1)
set_option maxRecDepth 20000 in
set_option maxHeartbeats 4000000 in
theorem w_X9_asNumber (l : Launch) (g : z_G) (a1 : Int32) (u : z_M) {res : Int32} (h : f_X9_asNumber a1 = some res) : z_C l g z_shC yX9_asNumber wsX9_asNumber 1 [.int a1] u (fun v u' => v = some (.int res) ∧ u' = u) := by
  refine z_C.mk (lv := [(0, .int a1)]) (cc := cX9_asNumber) (nL := 1) (rt := (some .int)) rfl (by decide) (Nat.le_of_ble_eq_true rfl) rfl (fun p e R s m args below meth c hR X => ?_)
  unfold f_X9_asNumber at h
  refine z_iload_n X 0 dX9_asNumber_0 rfl rfl (z_if_eq X 8 dX9_asNumber_1 (by decide) (fun c1 => ?_) (fun c1 => ?_))
  · replace h := z_ip c1 h
    refine z_iconst X (v := 0) dX9_asNumber_8 (by decide) ?_
    cases h; exact z_iret X rfl dX9_asNumber_9 ⟨rfl, rfl⟩
  · replace h := z_in c1 h
    refine z_iconst X (v := 1) dX9_asNumber_4 (by decide) (z_goto X 9 dX9_asNumber_5 (by decide) ?_)
    cases h; exact z_iret X rfl dX9_asNumber_9 ⟨rfl, rfl⟩

theorem lk_X9_isGradedOver_21 : (Cond.fieldLink RX9 21 RX9 (TX9 1).2.1 (TX9 1).2.2.1) ∈ wsX9_isGradedOver := by decide +kernel
theorem in_X9_isGradedOver_X9 : ∀ w ∈ u_ws RX9 TX9 9, w ∈ wsX9_isGradedOver := fun _ h => List.mem_cons_of_mem _ (List.mem_append_left _ (List.mem_append_left _ (List.mem_append_right _ h)))
theorem lk_X9_isGradedOver_46 : (Cond.fieldLink RX9 46 RX9 (TX9 5).2.1 (TX9 5).2.2.1) ∈ wsX9_isGradedOver := by decide +kernel
theorem lk_X9_isGradedOver_181 : (Cond.fieldLink RX9 181 RX8 (TX8 1).2.1 (TX8 1).2.2.1) ∈ wsX9_isGradedOver := by decide +kernel
theorem in_X9_isGradedOver_X8 : ∀ w ∈ u_ws RX8 TX8 5, w ∈ wsX9_isGradedOver := fun _ h => List.mem_cons_of_mem _ (List.mem_append_left _ (List.mem_append_right _ h))
def b_X9_isGradedOver_54 (x2 : Int32) (x3 : Int32) (x4 : Int32) (u : z_M) : Int32 → (Int32 → Option (Int32 × z_M)) → (Unit → Option (Int32 × z_M)) → Option (Int32 × z_M) := fun q kb kx =>
  if 9 ≤ q then (kx ()) else (Option.bind (f_X9_isIn x4 q) (fun r8 => if r8 = 0 then (kb (q + 1)) else (z_gd (z_inb q 9) (z_gd (z_inb x3 9) (if (z_gI u 127 q.toNatClampNeg) = ((z_gI u 127 x3.toNatClampNeg) + 1) then (kb (q + 1)) else (some (0, u)))))))
def b_X9_isGradedOver_23 (x2 : Int32) (u : z_M) : Int32 → (Int32 → Option (Int32 × z_M)) → (Unit → Option (Int32 × z_M)) → Option (Int32 × z_M) := fun q kb kx =>
  if 9 ≤ q then (kx ()) else (Option.bind (f_X9_isIn x2 q) (fun r4 => if r4 = 0 then (kb (q + 1)) else (Option.bind (f_X6_coverers 0 q x2 u) (fun r6 => z_lp (b_X9_isGradedOver_54 x2 q r6 u) z_F 0 (fun t13 => kb (q + 1))))))
def f_X9_isGradedOver (a1 : Int32) (u : z_M) : Option (Int32 × z_M) :=
  Option.bind (f_X6_atLeast 0 a1 u) (fun r1 => Option.bind (f_X8_measure 0 r1 u) (fun r2 => z_lp (b_X9_isGradedOver_23 r1 r2) z_F 0 (fun t14 => some (1, r2))))
set_option maxRecDepth 20000 in
set_option maxHeartbeats 4000000 in
theorem wb_X9_isGradedOver_54 {p : Program} {l : Launch} {e : Env} {R : Room} {s : State} {m : MethodId} {args : Array Value} {below : List Frame} {meth : Method} {c : Code} {g : z_G} {u : z_M} {res : Int32 × z_M} (hR : R = z_rm 5) (X : z_X p R s m args meth c cX9_isGradedOver 6 RX9 wsX9_isGradedOver (some .boolean) g z_shC) (x2 : Int32) (x3 : Int32) (x4 : Int32) (q : Int32) (kb : Int32 → Option (Int32 × z_M)) (kx : Unit → Option (Int32 × z_M)) (hkb : ∀ q, kb q = some res → z_V p l e R s m args below meth c 6 g z_shC (MQ below (z_Qc g z_shC (fun v u' => v = some (.int res.1) ∧ u' = res.2)) args s 0 0 (z_A g z_shC)) 54 [(0, .ref (z_ad g 80)), (2, .int x2), (3, .int x3), (4, .int x4), (5, .int q)] [] u) (hkx : ∀ t, kx t = some res → z_V p l e R s m args below meth c 6 g z_shC (MQ below (z_Qc g z_shC (fun v u' => v = some (.int res.1) ∧ u' = res.2)) args s 0 0 (z_A g z_shC)) 103 [(0, .ref (z_ad g 80)), (2, .int x2), (3, .int x3)] [] u) (h : b_X9_isGradedOver_54 x2 x3 x4 u q kb kx = some res) : z_V p l e R s m args below meth c 6 g z_shC (MQ below (z_Qc g z_shC (fun v u' => v = some (.int res.1) ∧ u' = res.2)) args s 0 0 (z_A g z_shC)) 54 [(0, .ref (z_ad g 80)), (2, .int x2), (3, .int x3), (4, .int x4), (5, .int q)] [] u := by
  unfold b_X9_isGradedOver_54 at h
  refine z_iload X 4 dX9_isGradedOver_54 rfl (z_bipush X (v := 9) dX9_isGradedOver_56 (by decide) (z_icmp_ge X 103 dX9_isGradedOver_58 (by decide) (fun c7 => ?_) (fun c7 => ?_)))
  · replace h := z_ip c7 h
    refine z_sub [0, 1, 2] [(0, .ref (z_ad g 80)), (2, .int x2), (3, .int x3)] rfl ?_
    exact hkx () h
  · replace h := z_in c7 h
    obtain ⟨r8, er8, h⟩ := z_bs h
    refine z_iload X 3 dX9_isGradedOver_61 rfl (z_iload X 4 dX9_isGradedOver_63 rfl (z_callSi X (r := r8) (u1 := u) [.int x4, .int q] [] (w_X9_isIn l g x4 q u er8) gX9_isGradedOver_X9_isIn hy_X9_isIn.2 rfl (z_le1 hR (by decide)) (z_le2 hR (by decide) (by decide)) (Nat.le_of_ble_eq_true rfl) dX9_isGradedOver_65 (z_if_eq X 97 dX9_isGradedOver_68 (by decide) (fun c9 => ?_) (fun c9 => ?_))))
    · replace h := z_ip c9 h
      refine z_iinc X (v := q + 1) 4 [(5, .int (q + 1)), (0, .ref (z_ad g 80)), (2, .int x2), (3, .int x3), (4, .int x4)] dX9_isGradedOver_97 rfl rfl (by decide) rfl (z_goto X 54 dX9_isGradedOver_100 (by decide) (z_sub [1, 2, 3, 4, 0] [(0, .ref (z_ad g 80)), (2, .int x2), (3, .int x3), (4, .int x4), (5, .int (q + 1))] rfl ?_))
      exact hkb (q + 1) h
    · replace h := z_in c9 h
      obtain ⟨b10, h⟩ := z_gs h
      obtain ⟨b11, h⟩ := z_gs h
      refine z_aload_n X 0 dX9_isGradedOver_71 rfl rfl (z_getR X (k0 := 5) z_c80 rfl in_X9_isGradedOver_X9 (by decide) rfl rfl lk_X9_isGradedOver_46 dX9_isGradedOver_72 (z_getR X (k0 := 1) z_c125 rfl in_X9_isGradedOver_X8 (by decide) rfl rfl lk_X9_isGradedOver_181 dX9_isGradedOver_75 (z_iload X 4 dX9_isGradedOver_78 rfl (z_iald X z_c127 (z_inS b10) dX9_isGradedOver_80 (z_aload_n X 0 dX9_isGradedOver_81 rfl rfl (z_getR X (k0 := 5) z_c80 rfl in_X9_isGradedOver_X9 (by decide) rfl rfl lk_X9_isGradedOver_46 dX9_isGradedOver_82 (z_getR X (k0 := 1) z_c125 rfl in_X9_isGradedOver_X8 (by decide) rfl rfl lk_X9_isGradedOver_181 dX9_isGradedOver_85 (z_iload_n X 2 dX9_isGradedOver_88 rfl rfl (z_iald X z_c127 (z_inS b11) dX9_isGradedOver_89 (z_iconst X (v := 1) dX9_isGradedOver_90 (by decide) (z_iadd X dX9_isGradedOver_91 (z_icmp_eq X 97 dX9_isGradedOver_92 (by decide) (fun c12 => ?_) (fun c12 => ?_)))))))))))))
      · replace h := z_ip c12 h
        refine z_iinc X (v := q + 1) 4 [(5, .int (q + 1)), (0, .ref (z_ad g 80)), (2, .int x2), (3, .int x3), (4, .int x4)] dX9_isGradedOver_97 rfl rfl (by decide) rfl (z_goto X 54 dX9_isGradedOver_100 (by decide) (z_sub [1, 2, 3, 4, 0] [(0, .ref (z_ad g 80)), (2, .int x2), (3, .int x3), (4, .int x4), (5, .int (q + 1))] rfl ?_))
        exact hkb (q + 1) h
      · replace h := z_in c12 h
        refine z_iconst X (v := 0) dX9_isGradedOver_95 (by decide) ?_
        cases h; exact z_zret X rfl rfl dX9_isGradedOver_96 ⟨rfl, rfl⟩
set_option maxRecDepth 20000 in
set_option maxHeartbeats 4000000 in
theorem wb_X9_isGradedOver_23 {p : Program} {l : Launch} {e : Env} {R : Room} {s : State} {m : MethodId} {args : Array Value} {below : List Frame} {meth : Method} {c : Code} {g : z_G} {u : z_M} {res : Int32 × z_M} (hR : R = z_rm 5) (X : z_X p R s m args meth c cX9_isGradedOver 6 RX9 wsX9_isGradedOver (some .boolean) g z_shC) (x2 : Int32) (q : Int32) (kb : Int32 → Option (Int32 × z_M)) (kx : Unit → Option (Int32 × z_M)) (hkb : ∀ q, kb q = some res → z_V p l e R s m args below meth c 6 g z_shC (MQ below (z_Qc g z_shC (fun v u' => v = some (.int res.1) ∧ u' = res.2)) args s 0 0 (z_A g z_shC)) 23 [(0, .ref (z_ad g 80)), (2, .int x2), (3, .int q)] [] u) (hkx : ∀ t, kx t = some res → z_V p l e R s m args below meth c 6 g z_shC (MQ below (z_Qc g z_shC (fun v u' => v = some (.int res.1) ∧ u' = res.2)) args s 0 0 (z_A g z_shC)) 109 [] [] u) (h : b_X9_isGradedOver_23 x2 u q kb kx = some res) : z_V p l e R s m args below meth c 6 g z_shC (MQ below (z_Qc g z_shC (fun v u' => v = some (.int res.1) ∧ u' = res.2)) args s 0 0 (z_A g z_shC)) 23 [(0, .ref (z_ad g 80)), (2, .int x2), (3, .int q)] [] u := by
  unfold b_X9_isGradedOver_23 at h
  refine z_iload_n X 2 dX9_isGradedOver_23 rfl rfl (z_bipush X (v := 9) dX9_isGradedOver_24 (by decide) (z_icmp_ge X 109 dX9_isGradedOver_26 (by decide) (fun c3 => ?_) (fun c3 => ?_)))
  · replace h := z_ip c3 h
    refine z_sub [] [] rfl ?_
    exact hkx () h
  · replace h := z_in c3 h
    obtain ⟨r4, er4, h⟩ := z_bs h
    refine z_iload_n X 1 dX9_isGradedOver_29 rfl rfl (z_iload_n X 2 dX9_isGradedOver_30 rfl rfl (z_callSi X (r := r4) (u1 := u) [.int x2, .int q] [] (w_X9_isIn l g x2 q u er4) gX9_isGradedOver_X9_isIn hy_X9_isIn.2 rfl (z_le1 hR (by decide)) (z_le2 hR (by decide) (by decide)) (Nat.le_of_ble_eq_true rfl) dX9_isGradedOver_31 (z_if_ne X 40 dX9_isGradedOver_34 (by decide) (fun c5 => ?_) (fun c5 => ?_))))
    · replace h := z_in c5 h
      obtain ⟨r6, er6, h⟩ := z_bs h
      refine z_aload_n X 0 dX9_isGradedOver_40 rfl rfl (z_getR X (k0 := 1) z_c80 rfl in_X9_isGradedOver_X9 (by decide) rfl rfl lk_X9_isGradedOver_21 dX9_isGradedOver_41 (z_iload_n X 2 dX9_isGradedOver_44 rfl rfl (z_iload_n X 1 dX9_isGradedOver_45 rfl rfl (z_callVi X (r := r6) (u1 := u) [.int q, .int x2] [] (w_X6_coverers l g 0 q x2 z_po_0 u er6) (z_po z_po_0) rfl gX9_isGradedOver_X6_coverers hy_X6_coverers rfl (z_le1 hR (by decide)) (z_le2 hR (by decide) (by decide)) (Nat.le_of_ble_eq_true rfl) dX9_isGradedOver_46 (z_istore X [(4, .int r6), (0, .ref (z_ad g 80)), (2, .int x2), (3, .int q)] dX9_isGradedOver_49 (by decide) rfl (z_iconst X (v := 0) dX9_isGradedOver_51 (by decide) (z_istore X [(5, .int 0), (4, .int r6), (0, .ref (z_ad g 80)), (2, .int x2), (3, .int q)] dX9_isGradedOver_52 (by decide) rfl (z_sub [2, 3, 4, 1, 0] [(0, .ref (z_ad g 80)), (2, .int x2), (3, .int q), (4, .int r6), (5, .int 0)] rfl ?_))))))))
      have hw := z_lp_w (fun q9 kb9 kx9 h1 h2 h3 => wb_X9_isGradedOver_54 (l := l) (e := e) (below := below) (u := u) hR X x2 q r6 q9 kb9 kx9 h1 h2 h3) z_F _ _ h
      refine hw (fun t13 h => ?_)
      refine z_iinc X (v := q + 1) 2 [(3, .int (q + 1)), (0, .ref (z_ad g 80)), (2, .int x2)] dX9_isGradedOver_103 rfl rfl (by decide) rfl (z_goto X 23 dX9_isGradedOver_106 (by decide) (z_sub [1, 2, 0] [(0, .ref (z_ad g 80)), (2, .int x2), (3, .int (q + 1))] rfl ?_))
      exact hkb (q + 1) h
    · replace h := z_ip c5 h
      refine z_goto X 103 dX9_isGradedOver_37 (by decide) (z_iinc X (v := q + 1) 2 [(3, .int (q + 1)), (0, .ref (z_ad g 80)), (2, .int x2)] dX9_isGradedOver_103 rfl rfl (by decide) rfl (z_goto X 23 dX9_isGradedOver_106 (by decide) (z_sub [1, 2, 0] [(0, .ref (z_ad g 80)), (2, .int x2), (3, .int (q + 1))] rfl ?_)))
      exact hkb (q + 1) h
set_option maxRecDepth 20000 in
set_option maxHeartbeats 4000000 in
theorem w_X9_isGradedOver (l : Launch) (g : z_G) (a1 : Int32) (u : z_M) {res : Int32 × z_M} (h : f_X9_isGradedOver a1 u = some res) : z_C l g z_shC yX9_isGradedOver wsX9_isGradedOver 5 [.ref (z_ad g 80), .int a1] u (fun v u' => v = some (.int res.1) ∧ u' = res.2) := by
  refine z_C.mk (lv := [(0, .ref (z_ad g 80)), (1, .int a1)]) (cc := cX9_isGradedOver) (nL := 6) (rt := (some .boolean)) rfl (by decide) (Nat.le_of_ble_eq_true rfl) rfl (fun p e R s m args below meth c hR X => ?_)
  unfold f_X9_isGradedOver at h
  obtain ⟨r1, er1, h⟩ := z_bs h
  obtain ⟨r2, er2, h⟩ := z_bs h
  refine z_aload_n X 0 dX9_isGradedOver_0 rfl rfl (z_getR X (k0 := 1) z_c80 rfl in_X9_isGradedOver_X9 (by decide) rfl rfl lk_X9_isGradedOver_21 dX9_isGradedOver_1 (z_iload_n X 1 dX9_isGradedOver_4 rfl rfl (z_callVi X (r := r1) (u1 := u) [.int a1] [] (w_X6_atLeast l g 0 a1 z_po_0 u er1) (z_po z_po_0) rfl gX9_isGradedOver_X6_atLeast hy_X6_atLeast rfl (z_le1 hR (by decide)) (z_le2 hR (by decide) (by decide)) (Nat.le_of_ble_eq_true rfl) dX9_isGradedOver_5 (z_istore_n X [(2, .int r1), (0, .ref (z_ad g 80)), (1, .int a1)] dX9_isGradedOver_8 rfl (by decide) rfl (z_aload_n X 1 dX9_isGradedOver_9 rfl rfl (z_getR X (k0 := 5) z_c80 rfl in_X9_isGradedOver_X9 (by decide) rfl rfl lk_X9_isGradedOver_46 dX9_isGradedOver_10 (z_aload_n X 1 dX9_isGradedOver_13 rfl rfl (z_getR X (k0 := 1) z_c80 rfl in_X9_isGradedOver_X9 (by decide) rfl rfl lk_X9_isGradedOver_21 dX9_isGradedOver_14 (z_iload_n X 0 dX9_isGradedOver_17 rfl rfl (z_callVv X (u1 := r2) [.ref (z_ad g 0), .int r1] [] (w_X8_measure l g 0 r1 z_po_0 u er2) z_c125 rfl gX9_isGradedOver_X8_measure hy_X8_measure rfl (z_le1 hR (by decide)) (z_le2 hR (by decide) (by decide)) (Nat.le_of_ble_eq_true rfl) dX9_isGradedOver_18 (z_iconst X (v := 0) dX9_isGradedOver_21 (by decide) (z_istore_n X [(3, .int 0), (2, .int r1), (0, .ref (z_ad g 80)), (1, .int a1)] dX9_isGradedOver_22 rfl (by decide) rfl (z_sub [2, 1, 0] [(0, .ref (z_ad g 80)), (2, .int r1), (3, .int 0)] rfl ?_)))))))))))))
  have hw := z_lp_w (fun q9 kb9 kx9 h1 h2 h3 => wb_X9_isGradedOver_23 (l := l) (e := e) (below := below) (u := r2) hR X r1 q9 kb9 kx9 h1 h2 h3) z_F _ _ h
  refine hw (fun t14 h => ?_)
  refine z_iconst X (v := 1) dX9_isGradedOver_109 (by decide) ?_
  cases h; exact z_zret X rfl rfl dX9_isGradedOver_110 ⟨rfl, rfl⟩

theorem lk_X9_isGraded_21 : (Cond.fieldLink RX9 21 RX9 (TX9 1).2.1 (TX9 1).2.2.1) ∈ wsX9_isGraded := by decide +kernel
theorem in_X9_isGraded_X9 : ∀ w ∈ u_ws RX9 TX9 9, w ∈ wsX9_isGraded := fun _ h => List.mem_cons_of_mem _ (List.mem_append_left _ (List.mem_append_left _ (List.mem_append_right _ h)))
theorem hy_X9_isGradedOver : yX9_isGradedOver.cls = RX9 ∧ yX9_isGradedOver.cls ≠ "java/lang/invoke/MethodHandle" ∧ yX9_isGradedOver.cls ≠ "java/lang/invoke/VarHandle" ∧ (parseMethodDescriptor yX9_isGradedOver.desc).map (fun d => d.parameters.length) = some 1 := by decide +kernel
def b_X9_isGraded_2  : (Int32 × z_M) → ((Int32 × z_M) → Option (Int32 × z_M)) → (z_M → Option (Int32 × z_M)) → Option (Int32 × z_M) := fun q kb kx =>
  if 9 ≤ q.1 then (kx q.2) else (Option.bind (f_X6_has 0 q.1 q.2) (fun r2 => if r2 = 0 then (kb (q.1 + 1, q.2)) else (z_b2 (f_X9_isGradedOver q.1 q.2) (fun r4 u5 => if r4 = 0 then (some (0, u5)) else (kb (q.1 + 1, u5))))))
def f_X9_isGraded (u : z_M) : Option (Int32 × z_M) :=
  z_lp b_X9_isGraded_2 z_F (0, u) (fun t7 => some (1, t7))
set_option maxRecDepth 20000 in
set_option maxHeartbeats 4000000 in
theorem wb_X9_isGraded_2 {p : Program} {l : Launch} {e : Env} {R : Room} {s : State} {m : MethodId} {args : Array Value} {below : List Frame} {meth : Method} {c : Code} {g : z_G} {u : z_M} {res : Int32 × z_M} (hR : R = z_rm 6) (X : z_X p R s m args meth c cX9_isGraded 2 RX9 wsX9_isGraded (some .boolean) g z_shC)  (q : Int32 × z_M) (kb : (Int32 × z_M) → Option (Int32 × z_M)) (kx : z_M → Option (Int32 × z_M)) (hkb : ∀ q, kb q = some res → z_V p l e R s m args below meth c 2 g z_shC (MQ below (z_Qc g z_shC (fun v u' => v = some (.int res.1) ∧ u' = res.2)) args s 0 0 (z_A g z_shC)) 2 [(0, .ref (z_ad g 80)), (1, .int q.1)] [] q.2) (hkx : ∀ t, kx t = some res → z_V p l e R s m args below meth c 2 g z_shC (MQ below (z_Qc g z_shC (fun v u' => v = some (.int res.1) ∧ u' = res.2)) args s 0 0 (z_A g z_shC)) 35 [] [] t) (h : b_X9_isGraded_2 q kb kx = some res) : z_V p l e R s m args below meth c 2 g z_shC (MQ below (z_Qc g z_shC (fun v u' => v = some (.int res.1) ∧ u' = res.2)) args s 0 0 (z_A g z_shC)) 2 [(0, .ref (z_ad g 80)), (1, .int q.1)] [] q.2 := by
  unfold b_X9_isGraded_2 at h
  refine z_iload_n X 1 dX9_isGraded_2 rfl rfl (z_bipush X (v := 9) dX9_isGraded_3 (by decide) (z_icmp_ge X 35 dX9_isGraded_5 (by decide) (fun c1 => ?_) (fun c1 => ?_)))
  · replace h := z_ip c1 h
    refine z_sub [] [] rfl ?_
    exact hkx q.2 h
  · replace h := z_in c1 h
    obtain ⟨r2, er2, h⟩ := z_bs h
    refine z_aload_n X 0 dX9_isGraded_8 rfl rfl (z_getR X (k0 := 1) z_c80 rfl in_X9_isGraded_X9 (by decide) rfl rfl lk_X9_isGraded_21 dX9_isGraded_9 (z_iload_n X 1 dX9_isGraded_12 rfl rfl (z_callVi X (r := r2) (u1 := q.2) [.int q.1] [] (w_X6_has l g 0 q.1 z_po_0 q.2 er2) (z_po z_po_0) rfl gX9_isGraded_X6_has hy_X6_has rfl (z_le1 hR (by decide)) (z_le2 hR (by decide) (by decide)) (Nat.le_of_ble_eq_true rfl) dX9_isGraded_13 (z_if_eq X 29 dX9_isGraded_16 (by decide) (fun c3 => ?_) (fun c3 => ?_)))))
    · replace h := z_ip c3 h
      refine z_iinc X (v := q.1 + 1) 1 [(1, .int (q.1 + 1)), (0, .ref (z_ad g 80))] dX9_isGraded_29 rfl rfl (by decide) rfl (z_goto X 2 dX9_isGraded_32 (by decide) (z_sub [1, 0] [(0, .ref (z_ad g 80)), (1, .int (q.1 + 1))] rfl ?_))
      exact hkb (q.1 + 1, q.2) h
    · replace h := z_in c3 h
      obtain ⟨r4, u5, er4, h⟩ := z_b2s h
      refine z_aload_n X 0 dX9_isGraded_19 rfl rfl (z_iload_n X 1 dX9_isGraded_20 rfl rfl (z_callVi X (r := r4) (u1 := u5) [.int q.1] [] (w_X9_isGradedOver l g q.1 q.2 er4) z_c80 rfl gX9_isGraded_X9_isGradedOver hy_X9_isGradedOver rfl (z_le1 hR (by decide)) (z_le2 hR (by decide) (by decide)) (Nat.le_of_ble_eq_true rfl) dX9_isGraded_21 (z_if_ne X 29 dX9_isGraded_24 (by decide) (fun c6 => ?_) (fun c6 => ?_))))
      · replace h := z_in c6 h
        refine z_iinc X (v := q.1 + 1) 1 [(1, .int (q.1 + 1)), (0, .ref (z_ad g 80))] dX9_isGraded_29 rfl rfl (by decide) rfl (z_goto X 2 dX9_isGraded_32 (by decide) (z_sub [1, 0] [(0, .ref (z_ad g 80)), (1, .int (q.1 + 1))] rfl ?_))
        exact hkb (q.1 + 1, u5) h
      · replace h := z_ip c6 h
        refine z_iconst X (v := 0) dX9_isGraded_27 (by decide) ?_
        cases h; exact z_zret X rfl rfl dX9_isGraded_28 ⟨rfl, rfl⟩
set_option maxRecDepth 20000 in
set_option maxHeartbeats 4000000 in
theorem w_X9_isGraded (l : Launch) (g : z_G)  (u : z_M) {res : Int32 × z_M} (h : f_X9_isGraded u = some res) : z_C l g z_shC yX9_isGraded wsX9_isGraded 6 [.ref (z_ad g 80)] u (fun v u' => v = some (.int res.1) ∧ u' = res.2) := by
  refine z_C.mk (lv := [(0, .ref (z_ad g 80))]) (cc := cX9_isGraded) (nL := 2) (rt := (some .boolean)) rfl (by decide) (Nat.le_of_ble_eq_true rfl) rfl (fun p e R s m args below meth c hR X => ?_)
  unfold f_X9_isGraded at h
  refine z_iconst X (v := 0) dX9_isGraded_0 (by decide) (z_istore_n X [(1, .int 0), (0, .ref (z_ad g 80))] dX9_isGraded_1 rfl (by decide) rfl (z_sub [1, 0] [(0, .ref (z_ad g 80)), (1, .int 0)] rfl ?_))
  have hw := z_lp_w (fun q9 kb9 kx9 h1 h2 h3 => wb_X9_isGraded_2 (l := l) (e := e) (below := below) (u := u) hR X q9 kb9 kx9 h1 h2 h3) z_F _ _ h
  refine hw (fun t7 h => ?_)
  refine z_iconst X (v := 1) dX9_isGraded_35 (by decide) ?_
  cases h; exact z_zret X rfl rfl dX9_isGraded_36 ⟨rfl, rfl⟩

theorem lk_X9_kind_21 : (Cond.fieldLink RX9 21 RX9 (TX9 1).2.1 (TX9 1).2.2.1) ∈ wsX9_kind := by decide +kernel
theorem in_X9_kind_X9 : ∀ w ∈ u_ws RX9 TX9 9, w ∈ wsX9_kind := fun _ h => List.mem_cons_of_mem _ (List.mem_append_left _ (List.mem_append_left _ (List.mem_append_left _ (List.mem_append_right _ h))))
theorem lk_X9_kind_136 : (Cond.fieldLink RX9 136 RX6 (TX6 1).2.1 (TX6 1).2.2.1) ∈ wsX9_kind := by decide +kernel
theorem in_X9_kind_X6 : ∀ w ∈ u_ws RX6 TX6 6, w ∈ wsX9_kind := fun _ h => List.mem_cons_of_mem _ (List.mem_append_left _ (List.mem_append_left _ (List.mem_append_right _ h)))
theorem lk_X9_kind_53 : (Cond.fieldLink RX9 53 RX9 (TX9 6).2.1 (TX9 6).2.2.1) ∈ wsX9_kind := by decide +kernel
theorem hy_X0_distributes : yX0_distributes.cls = RX0 ∧ yX0_distributes.cls ≠ "java/lang/invoke/MethodHandle" ∧ yX0_distributes.cls ≠ "java/lang/invoke/VarHandle" ∧ (parseMethodDescriptor yX0_distributes.desc).map (fun d => d.parameters.length) = some 2 := by decide +kernel
theorem hy_X0_fill : yX0_fill.cls = RX0 ∧ yX0_fill.cls ≠ "java/lang/invoke/MethodHandle" ∧ yX0_fill.cls ≠ "java/lang/invoke/VarHandle" ∧ (parseMethodDescriptor yX0_fill.desc).map (fun d => d.parameters.length) = some 1 := by decide +kernel
theorem hy_X9_asNumber : yX9_asNumber.cls = RX9 ∧ yX9_asNumber.cls ≠ "java/lang/invoke/MethodHandle" ∧ yX9_asNumber.cls ≠ "java/lang/invoke/VarHandle" ∧ (parseMethodDescriptor yX9_asNumber.desc).map (fun d => d.parameters.length) = some 1 := by decide +kernel
theorem hy_X9_isGraded : yX9_isGraded.cls = RX9 ∧ yX9_isGraded.cls ≠ "java/lang/invoke/MethodHandle" ∧ yX9_isGraded.cls ≠ "java/lang/invoke/VarHandle" ∧ (parseMethodDescriptor yX9_isGraded.desc).map (fun d => d.parameters.length) = some 0 := by decide +kernel
def f_X9_kind (a1 : Int32) (u : z_M) : Option (Int32 × z_M) :=
  Option.bind (f_X9_isOrder u) (fun r1 => if r1 = 0 then (some ((-1), u)) else (if a1 = 0 then (Option.bind (f_X6_leastOf 0 (z_gI u 0 1) u) (fun r3 => if r3 < 0 then (Option.bind (f_X9_asNumber 0) (fun r5 => some (r5, u))) else (Option.bind (f_X6_greatestOf 0 (z_gI u 0 1) u) (fun r6 => if r6 < 0 then (Option.bind (f_X9_asNumber 0) (fun r8 => some (r8, u))) else (Option.bind (f_X9_asNumber 1) (fun r9 => some (r9, u))))))) else (if a1 = 1 then (z_b2 (f_X9_isGraded u) (fun r10 u11 => Option.bind (f_X9_asNumber r10) (fun r12 => some (r12, u11)))) else (if a1 = 2 then (z_b2 (f_X0_fill 0 u) (fun r13 u14 => Option.bind (f_X9_asNumber r13) (fun r15 => some (r15, u14)))) else (if a1 = 3 then (z_b2 (f_X0_fill 0 u) (fun r16 u17 => if r16 = 0 then (Option.bind (f_X9_asNumber 0) (fun r19 => some (r19, u17))) else (Option.bind (f_X0_distributes 0 0 u17) (fun r20 => if r20 = 0 then (Option.bind (f_X9_asNumber 0) (fun r22 => some (r22, u17))) else (Option.bind (f_X9_asNumber 1) (fun r23 => some (r23, u17))))))) else (if a1 = 4 then (z_b2 (f_X0_fill 0 u) (fun r24 u25 => if r24 = 0 then (Option.bind (f_X9_asNumber 0) (fun r27 => some (r27, u25))) else (Option.bind (f_X0_distributes 0 1 u25) (fun r28 => if r28 = 0 then (Option.bind (f_X9_asNumber 0) (fun r30 => some (r30, u25))) else (Option.bind (f_X9_asNumber 1) (fun r31 => some (r31, u25))))))) else (if a1 = 5 then (Option.bind (f_X6_isRow 0 (z_gI u 0 1) u) (fun r32 => Option.bind (f_X9_asNumber r32) (fun r33 => some (r33, u)))) else (some ((-1), u)))))))))
set_option maxRecDepth 20000 in
set_option maxHeartbeats 4000000 in
theorem w_X9_kind (l : Launch) (g : z_G) (a1 : Int32) (u : z_M) {res : Int32 × z_M} (h : f_X9_kind a1 u = some res) : z_C l g z_shC yX9_kind wsX9_kind 7 [.ref (z_ad g 80), .int a1] u (fun v u' => v = some (.int res.1) ∧ u' = res.2) := by
  refine z_C.mk (lv := [(0, .ref (z_ad g 80)), (1, .int a1)]) (cc := cX9_kind) (nL := 2) (rt := (some .int)) rfl (by decide) (Nat.le_of_ble_eq_true rfl) rfl (fun p e R s m args below meth c hR X => ?_)
  unfold f_X9_kind at h
  obtain ⟨r1, er1, h⟩ := z_bs h
  refine z_aload_n X 0 dX9_kind_0 rfl rfl (z_callVi X (r := r1) (u1 := u) [] [] (w_X9_isOrder l g u er1) z_c80 rfl gX9_kind_X9_isOrder hy_X9_isOrder rfl (z_le1 hR (by decide)) (z_le2 hR (by decide) (by decide)) (Nat.le_of_ble_eq_true rfl) dX9_kind_1 (z_if_ne X 9 dX9_kind_4 (by decide) (fun c2 => ?_) (fun c2 => ?_)))
  · replace h := z_in c2 h
    refine z_iload_n X 1 dX9_kind_9 rfl rfl ?_
    by_cases c34 : a1 = 0
    · replace h := z_ip c34 h
      refine z_tabIn X 48 dX9_kind_10 (by rw [c34]; decide) (by rw [c34]; decide) (by rw [c34]; rfl) (by decide) ?_
      obtain ⟨r3, er3, h⟩ := z_bs h
      refine z_aload_n X 0 dX9_kind_48 rfl rfl (z_getR X (k0 := 1) z_c80 rfl in_X9_kind_X9 (by decide) rfl rfl lk_X9_kind_21 dX9_kind_49 (z_aload_n X 0 dX9_kind_52 rfl rfl (z_getR X (k0 := 1) z_c80 rfl in_X9_kind_X9 (by decide) rfl rfl lk_X9_kind_21 dX9_kind_53 (z_getI X (k0 := 1) (z_po z_po_0) rfl in_X9_kind_X6 (by decide) rfl rfl lk_X9_kind_136 dX9_kind_56 (z_callVi X (r := r3) (u1 := u) [.int (z_gI u 0 1)] [] (w_X6_leastOf l g 0 (z_gI u 0 1) z_po_0 u er3) (z_po z_po_0) rfl gX9_kind_X6_leastOf hy_X6_leastOf rfl (z_le1 hR (by decide)) (z_le2 hR (by decide) (by decide)) (Nat.le_of_ble_eq_true rfl) dX9_kind_59 (z_if_lt X 86 dX9_kind_62 (by decide) (fun c4 => ?_) (fun c4 => ?_)))))))
      · replace h := z_ip c4 h
        obtain ⟨r5, er5, h⟩ := z_bs h
        refine z_iconst X (v := 0) dX9_kind_86 (by decide) (z_callSi X (r := r5) (u1 := u) [.int 0] [] (w_X9_asNumber l g 0 u er5) gX9_kind_X9_asNumber hy_X9_asNumber.2 rfl (z_le1 hR (by decide)) (z_le2 hR (by decide) (by decide)) (Nat.le_of_ble_eq_true rfl) dX9_kind_87 ?_)
        cases h; exact z_iret X rfl dX9_kind_90 ⟨rfl, rfl⟩
      · replace h := z_in c4 h
        obtain ⟨r6, er6, h⟩ := z_bs h
        refine z_aload_n X 0 dX9_kind_65 rfl rfl (z_getR X (k0 := 1) z_c80 rfl in_X9_kind_X9 (by decide) rfl rfl lk_X9_kind_21 dX9_kind_66 (z_aload_n X 0 dX9_kind_69 rfl rfl (z_getR X (k0 := 1) z_c80 rfl in_X9_kind_X9 (by decide) rfl rfl lk_X9_kind_21 dX9_kind_70 (z_getI X (k0 := 1) (z_po z_po_0) rfl in_X9_kind_X6 (by decide) rfl rfl lk_X9_kind_136 dX9_kind_73 (z_callVi X (r := r6) (u1 := u) [.int (z_gI u 0 1)] [] (w_X6_greatestOf l g 0 (z_gI u 0 1) z_po_0 u er6) (z_po z_po_0) rfl gX9_kind_X6_greatestOf hy_X6_greatestOf rfl (z_le1 hR (by decide)) (z_le2 hR (by decide) (by decide)) (Nat.le_of_ble_eq_true rfl) dX9_kind_76 (z_if_lt X 86 dX9_kind_79 (by decide) (fun c7 => ?_) (fun c7 => ?_)))))))
        · replace h := z_ip c7 h
          obtain ⟨r8, er8, h⟩ := z_bs h
          refine z_iconst X (v := 0) dX9_kind_86 (by decide) (z_callSi X (r := r8) (u1 := u) [.int 0] [] (w_X9_asNumber l g 0 u er8) gX9_kind_X9_asNumber hy_X9_asNumber.2 rfl (z_le1 hR (by decide)) (z_le2 hR (by decide) (by decide)) (Nat.le_of_ble_eq_true rfl) dX9_kind_87 ?_)
          cases h; exact z_iret X rfl dX9_kind_90 ⟨rfl, rfl⟩
        · replace h := z_in c7 h
          obtain ⟨r9, er9, h⟩ := z_bs h
          refine z_iconst X (v := 1) dX9_kind_82 (by decide) (z_goto X 87 dX9_kind_83 (by decide) (z_callSi X (r := r9) (u1 := u) [.int 1] [] (w_X9_asNumber l g 1 u er9) gX9_kind_X9_asNumber hy_X9_asNumber.2 rfl (z_le1 hR (by decide)) (z_le2 hR (by decide) (by decide)) (Nat.le_of_ble_eq_true rfl) dX9_kind_87 ?_))
          cases h; exact z_iret X rfl dX9_kind_90 ⟨rfl, rfl⟩
    replace h := z_in c34 h
    by_cases c35 : a1 = 1
    · replace h := z_ip c35 h
      refine z_tabIn X 91 dX9_kind_10 (by rw [c35]; decide) (by rw [c35]; decide) (by rw [c35]; rfl) (by decide) ?_
      obtain ⟨r10, u11, er10, h⟩ := z_b2s h
      obtain ⟨r12, er12, h⟩ := z_bs h
      refine z_aload_n X 0 dX9_kind_91 rfl rfl (z_callVi X (r := r10) (u1 := u11) [] [] (w_X9_isGraded l g u er10) z_c80 rfl gX9_kind_X9_isGraded hy_X9_isGraded rfl (z_le1 hR (by decide)) (z_le2 hR (by decide) (by decide)) (Nat.le_of_ble_eq_true rfl) dX9_kind_92 (z_callSi X (r := r12) (u1 := u11) [.int r10] [] (w_X9_asNumber l g r10 u11 er12) gX9_kind_X9_asNumber hy_X9_asNumber.2 rfl (z_le1 hR (by decide)) (z_le2 hR (by decide) (by decide)) (Nat.le_of_ble_eq_true rfl) dX9_kind_95 ?_))
      cases h; exact z_iret X rfl dX9_kind_98 ⟨rfl, rfl⟩
    replace h := z_in c35 h
    by_cases c36 : a1 = 2
    · replace h := z_ip c36 h
      refine z_tabIn X 99 dX9_kind_10 (by rw [c36]; decide) (by rw [c36]; decide) (by rw [c36]; rfl) (by decide) ?_
      obtain ⟨r13, u14, er13, h⟩ := z_b2s h
      obtain ⟨r15, er15, h⟩ := z_bs h
      refine z_aload_n X 0 dX9_kind_99 rfl rfl (z_getR X (k0 := 6) z_c80 rfl in_X9_kind_X9 (by decide) rfl rfl lk_X9_kind_53 dX9_kind_100 (z_aload_n X 0 dX9_kind_103 rfl rfl (z_getR X (k0 := 1) z_c80 rfl in_X9_kind_X9 (by decide) rfl rfl lk_X9_kind_21 dX9_kind_104 (z_callVi X (r := r13) (u1 := u14) [.ref (z_ad g 0)] [] (w_X0_fill l g 0 z_po_0 u er13) z_c131 rfl gX9_kind_X0_fill hy_X0_fill rfl (z_le1 hR (by decide)) (z_le2 hR (by decide) (by decide)) (Nat.le_of_ble_eq_true rfl) dX9_kind_107 (z_callSi X (r := r15) (u1 := u14) [.int r13] [] (w_X9_asNumber l g r13 u14 er15) gX9_kind_X9_asNumber hy_X9_asNumber.2 rfl (z_le1 hR (by decide)) (z_le2 hR (by decide) (by decide)) (Nat.le_of_ble_eq_true rfl) dX9_kind_110 ?_)))))
      cases h; exact z_iret X rfl dX9_kind_113 ⟨rfl, rfl⟩
    replace h := z_in c36 h
    by_cases c37 : a1 = 3
    · replace h := z_ip c37 h
      refine z_tabIn X 114 dX9_kind_10 (by rw [c37]; decide) (by rw [c37]; decide) (by rw [c37]; rfl) (by decide) ?_
      obtain ⟨r16, u17, er16, h⟩ := z_b2s h
      refine z_aload_n X 0 dX9_kind_114 rfl rfl (z_getR X (k0 := 6) z_c80 rfl in_X9_kind_X9 (by decide) rfl rfl lk_X9_kind_53 dX9_kind_115 (z_aload_n X 0 dX9_kind_118 rfl rfl (z_getR X (k0 := 1) z_c80 rfl in_X9_kind_X9 (by decide) rfl rfl lk_X9_kind_21 dX9_kind_119 (z_callVi X (r := r16) (u1 := u17) [.ref (z_ad g 0)] [] (w_X0_fill l g 0 z_po_0 u er16) z_c131 rfl gX9_kind_X0_fill hy_X0_fill rfl (z_le1 hR (by decide)) (z_le2 hR (by decide) (by decide)) (Nat.le_of_ble_eq_true rfl) dX9_kind_122 (z_if_eq X 147 dX9_kind_125 (by decide) (fun c18 => ?_) (fun c18 => ?_))))))
      · replace h := z_ip c18 h
        obtain ⟨r19, er19, h⟩ := z_bs h
        refine z_iconst X (v := 0) dX9_kind_147 (by decide) (z_callSi X (r := r19) (u1 := u17) [.int 0] [] (w_X9_asNumber l g 0 u17 er19) gX9_kind_X9_asNumber hy_X9_asNumber.2 rfl (z_le1 hR (by decide)) (z_le2 hR (by decide) (by decide)) (Nat.le_of_ble_eq_true rfl) dX9_kind_148 ?_)
        cases h; exact z_iret X rfl dX9_kind_151 ⟨rfl, rfl⟩
      · replace h := z_in c18 h
        obtain ⟨r20, er20, h⟩ := z_bs h
        refine z_aload_n X 0 dX9_kind_128 rfl rfl (z_getR X (k0 := 6) z_c80 rfl in_X9_kind_X9 (by decide) rfl rfl lk_X9_kind_53 dX9_kind_129 (z_aload_n X 0 dX9_kind_132 rfl rfl (z_getR X (k0 := 1) z_c80 rfl in_X9_kind_X9 (by decide) rfl rfl lk_X9_kind_21 dX9_kind_133 (z_iconst X (v := 0) dX9_kind_136 (by decide) (z_callVi X (r := r20) (u1 := u17) [.ref (z_ad g 0), .int 0] [] (w_X0_distributes l g 0 0 z_po_0 u17 er20) z_c131 rfl gX9_kind_X0_distributes hy_X0_distributes rfl (z_le1 hR (by decide)) (z_le2 hR (by decide) (by decide)) (Nat.le_of_ble_eq_true rfl) dX9_kind_137 (z_if_eq X 147 dX9_kind_140 (by decide) (fun c21 => ?_) (fun c21 => ?_)))))))
        · replace h := z_ip c21 h
          obtain ⟨r22, er22, h⟩ := z_bs h
          refine z_iconst X (v := 0) dX9_kind_147 (by decide) (z_callSi X (r := r22) (u1 := u17) [.int 0] [] (w_X9_asNumber l g 0 u17 er22) gX9_kind_X9_asNumber hy_X9_asNumber.2 rfl (z_le1 hR (by decide)) (z_le2 hR (by decide) (by decide)) (Nat.le_of_ble_eq_true rfl) dX9_kind_148 ?_)
          cases h; exact z_iret X rfl dX9_kind_151 ⟨rfl, rfl⟩
        · replace h := z_in c21 h
          obtain ⟨r23, er23, h⟩ := z_bs h
          refine z_iconst X (v := 1) dX9_kind_143 (by decide) (z_goto X 148 dX9_kind_144 (by decide) (z_callSi X (r := r23) (u1 := u17) [.int 1] [] (w_X9_asNumber l g 1 u17 er23) gX9_kind_X9_asNumber hy_X9_asNumber.2 rfl (z_le1 hR (by decide)) (z_le2 hR (by decide) (by decide)) (Nat.le_of_ble_eq_true rfl) dX9_kind_148 ?_))
          cases h; exact z_iret X rfl dX9_kind_151 ⟨rfl, rfl⟩
    replace h := z_in c37 h
    by_cases c38 : a1 = 4
    · replace h := z_ip c38 h
      refine z_tabIn X 152 dX9_kind_10 (by rw [c38]; decide) (by rw [c38]; decide) (by rw [c38]; rfl) (by decide) ?_
      obtain ⟨r24, u25, er24, h⟩ := z_b2s h
      refine z_aload_n X 0 dX9_kind_152 rfl rfl (z_getR X (k0 := 6) z_c80 rfl in_X9_kind_X9 (by decide) rfl rfl lk_X9_kind_53 dX9_kind_153 (z_aload_n X 0 dX9_kind_156 rfl rfl (z_getR X (k0 := 1) z_c80 rfl in_X9_kind_X9 (by decide) rfl rfl lk_X9_kind_21 dX9_kind_157 (z_callVi X (r := r24) (u1 := u25) [.ref (z_ad g 0)] [] (w_X0_fill l g 0 z_po_0 u er24) z_c131 rfl gX9_kind_X0_fill hy_X0_fill rfl (z_le1 hR (by decide)) (z_le2 hR (by decide) (by decide)) (Nat.le_of_ble_eq_true rfl) dX9_kind_160 (z_if_eq X 185 dX9_kind_163 (by decide) (fun c26 => ?_) (fun c26 => ?_))))))
      · replace h := z_ip c26 h
        obtain ⟨r27, er27, h⟩ := z_bs h
        refine z_iconst X (v := 0) dX9_kind_185 (by decide) (z_callSi X (r := r27) (u1 := u25) [.int 0] [] (w_X9_asNumber l g 0 u25 er27) gX9_kind_X9_asNumber hy_X9_asNumber.2 rfl (z_le1 hR (by decide)) (z_le2 hR (by decide) (by decide)) (Nat.le_of_ble_eq_true rfl) dX9_kind_186 ?_)
        cases h; exact z_iret X rfl dX9_kind_189 ⟨rfl, rfl⟩
      · replace h := z_in c26 h
        obtain ⟨r28, er28, h⟩ := z_bs h
        refine z_aload_n X 0 dX9_kind_166 rfl rfl (z_getR X (k0 := 6) z_c80 rfl in_X9_kind_X9 (by decide) rfl rfl lk_X9_kind_53 dX9_kind_167 (z_aload_n X 0 dX9_kind_170 rfl rfl (z_getR X (k0 := 1) z_c80 rfl in_X9_kind_X9 (by decide) rfl rfl lk_X9_kind_21 dX9_kind_171 (z_iconst X (v := 1) dX9_kind_174 (by decide) (z_callVi X (r := r28) (u1 := u25) [.ref (z_ad g 0), .int 1] [] (w_X0_distributes l g 0 1 z_po_0 u25 er28) z_c131 rfl gX9_kind_X0_distributes hy_X0_distributes rfl (z_le1 hR (by decide)) (z_le2 hR (by decide) (by decide)) (Nat.le_of_ble_eq_true rfl) dX9_kind_175 (z_if_eq X 185 dX9_kind_178 (by decide) (fun c29 => ?_) (fun c29 => ?_)))))))
        · replace h := z_ip c29 h
          obtain ⟨r30, er30, h⟩ := z_bs h
          refine z_iconst X (v := 0) dX9_kind_185 (by decide) (z_callSi X (r := r30) (u1 := u25) [.int 0] [] (w_X9_asNumber l g 0 u25 er30) gX9_kind_X9_asNumber hy_X9_asNumber.2 rfl (z_le1 hR (by decide)) (z_le2 hR (by decide) (by decide)) (Nat.le_of_ble_eq_true rfl) dX9_kind_186 ?_)
          cases h; exact z_iret X rfl dX9_kind_189 ⟨rfl, rfl⟩
        · replace h := z_in c29 h
          obtain ⟨r31, er31, h⟩ := z_bs h
          refine z_iconst X (v := 1) dX9_kind_181 (by decide) (z_goto X 186 dX9_kind_182 (by decide) (z_callSi X (r := r31) (u1 := u25) [.int 1] [] (w_X9_asNumber l g 1 u25 er31) gX9_kind_X9_asNumber hy_X9_asNumber.2 rfl (z_le1 hR (by decide)) (z_le2 hR (by decide) (by decide)) (Nat.le_of_ble_eq_true rfl) dX9_kind_186 ?_))
          cases h; exact z_iret X rfl dX9_kind_189 ⟨rfl, rfl⟩
    replace h := z_in c38 h
    by_cases c39 : a1 = 5
    · replace h := z_ip c39 h
      refine z_tabIn X 190 dX9_kind_10 (by rw [c39]; decide) (by rw [c39]; decide) (by rw [c39]; rfl) (by decide) ?_
      obtain ⟨r32, er32, h⟩ := z_bs h
      obtain ⟨r33, er33, h⟩ := z_bs h
      refine z_aload_n X 0 dX9_kind_190 rfl rfl (z_getR X (k0 := 1) z_c80 rfl in_X9_kind_X9 (by decide) rfl rfl lk_X9_kind_21 dX9_kind_191 (z_aload_n X 0 dX9_kind_194 rfl rfl (z_getR X (k0 := 1) z_c80 rfl in_X9_kind_X9 (by decide) rfl rfl lk_X9_kind_21 dX9_kind_195 (z_getI X (k0 := 1) (z_po z_po_0) rfl in_X9_kind_X6 (by decide) rfl rfl lk_X9_kind_136 dX9_kind_198 (z_callVi X (r := r32) (u1 := u) [.int (z_gI u 0 1)] [] (w_X6_isRow l g 0 (z_gI u 0 1) z_po_0 u er32) (z_po z_po_0) rfl gX9_kind_X6_isRow hy_X6_isRow rfl (z_le1 hR (by decide)) (z_le2 hR (by decide) (by decide)) (Nat.le_of_ble_eq_true rfl) dX9_kind_201 (z_callSi X (r := r33) (u1 := u) [.int r32] [] (w_X9_asNumber l g r32 u er33) gX9_kind_X9_asNumber hy_X9_asNumber.2 rfl (z_le1 hR (by decide)) (z_le2 hR (by decide) (by decide)) (Nat.le_of_ble_eq_true rfl) dX9_kind_204 ?_))))))
      cases h; exact z_iret X rfl dX9_kind_207 ⟨rfl, rfl⟩
    replace h := z_in c39 h
    refine z_tabOut X 208 dX9_kind_10 (by have kc34 := lv_neT (a := 0) c34 (by decide); have kc35 := lv_neT (a := 1) c35 (by decide); have kc36 := lv_neT (a := 2) c36 (by decide); have kc37 := lv_neT (a := 3) c37 (by decide); have kc38 := lv_neT (a := 4) c38 (by decide); have kc39 := lv_neT (a := 5) c39 (by decide); omega) (by decide) ?_
    refine z_iconst X (v := (-1)) dX9_kind_208 (by decide) ?_
    cases h; exact z_iret X rfl dX9_kind_209 ⟨rfl, rfl⟩
  · replace h := z_ip c2 h
    refine z_iconst X (v := (-1)) dX9_kind_7 (by decide) ?_
    cases h; exact z_iret X rfl dX9_kind_8 ⟨rfl, rfl⟩

theorem lk_X9_width_21 : (Cond.fieldLink RX9 21 RX9 (TX9 1).2.1 (TX9 1).2.2.1) ∈ wsX9_width := by decide +kernel
theorem in_X9_width_X9 : ∀ w ∈ u_ws RX9 TX9 9, w ∈ wsX9_width := fun _ h => List.mem_cons_of_mem _ (List.mem_append_left _ (List.mem_append_right _ h))
theorem hy_X6_widest : yX6_widest.cls = RX6 ∧ yX6_widest.cls ≠ "java/lang/invoke/MethodHandle" ∧ yX6_widest.cls ≠ "java/lang/invoke/VarHandle" ∧ (parseMethodDescriptor yX6_widest.desc).map (fun d => d.parameters.length) = some 0 := by decide +kernel
def f_X9_width (u : z_M) : Option (Int32) :=
  Option.bind (f_X9_isOrder u) (fun r1 => if r1 = 0 then (some (-1)) else (Option.bind (f_X6_widest 0 u) (fun r3 => some r3)))
set_option maxRecDepth 20000 in
set_option maxHeartbeats 4000000 in
theorem w_X9_width (l : Launch) (g : z_G)  (u : z_M) {res : Int32} (h : f_X9_width u = some res) : z_C l g z_shC yX9_width wsX9_width 4 [.ref (z_ad g 80)] u (fun v u' => v = some (.int res) ∧ u' = u) := by
  refine z_C.mk (lv := [(0, .ref (z_ad g 80))]) (cc := cX9_width) (nL := 1) (rt := (some .int)) rfl (by decide) (Nat.le_of_ble_eq_true rfl) rfl (fun p e R s m args below meth c hR X => ?_)
  unfold f_X9_width at h
  obtain ⟨r1, er1, h⟩ := z_bs h
  refine z_aload_n X 0 dX9_width_0 rfl rfl (z_callVi X (r := r1) (u1 := u) [] [] (w_X9_isOrder l g u er1) z_c80 rfl gX9_width_X9_isOrder hy_X9_isOrder rfl (z_le1 hR (by decide)) (z_le2 hR (by decide) (by decide)) (Nat.le_of_ble_eq_true rfl) dX9_width_1 (z_if_eq X 17 dX9_width_4 (by decide) (fun c2 => ?_) (fun c2 => ?_)))
  · replace h := z_ip c2 h
    refine z_iconst X (v := (-1)) dX9_width_17 (by decide) ?_
    cases h; exact z_iret X rfl dX9_width_18 ⟨rfl, rfl⟩
  · replace h := z_in c2 h
    obtain ⟨r3, er3, h⟩ := z_bs h
    refine z_aload_n X 0 dX9_width_7 rfl rfl (z_getR X (k0 := 1) z_c80 rfl in_X9_width_X9 (by decide) rfl rfl lk_X9_width_21 dX9_width_8 (z_callVi X (r := r3) (u1 := u) [] [] (w_X6_widest l g 0 z_po_0 u er3) (z_po z_po_0) rfl gX9_width_X6_widest hy_X6_widest rfl (z_le1 hR (by decide)) (z_le2 hR (by decide) (by decide)) (Nat.le_of_ble_eq_true rfl) dX9_width_11 (z_goto X 18 dX9_width_14 (by decide) ?_)))
    cases h; exact z_iret X rfl dX9_width_18 ⟨rfl, rfl⟩

theorem lk_X9_ideals_21 : (Cond.fieldLink RX9 21 RX9 (TX9 1).2.1 (TX9 1).2.2.1) ∈ wsX9_ideals := by decide +kernel
theorem in_X9_ideals_X9 : ∀ w ∈ u_ws RX9 TX9 9, w ∈ wsX9_ideals := by decide +kernel
theorem hy_X6_spreadSets : yX6_spreadSets.cls = RX6 ∧ yX6_spreadSets.cls ≠ "java/lang/invoke/MethodHandle" ∧ yX6_spreadSets.cls ≠ "java/lang/invoke/VarHandle" ∧ (parseMethodDescriptor yX6_spreadSets.desc).map (fun d => d.parameters.length) = some 0 := by decide +kernel
def f_X9_ideals (u : z_M) : Option (Int32) :=
  Option.bind (f_X9_isOrder u) (fun r1 => if r1 = 0 then (some (-1)) else (Option.bind (f_X6_spreadSets 0 u) (fun r3 => some r3)))
set_option maxRecDepth 20000 in
set_option maxHeartbeats 4000000 in
theorem w_X9_ideals (l : Launch) (g : z_G)  (u : z_M) {res : Int32} (h : f_X9_ideals u = some res) : z_C l g z_shC yX9_ideals wsX9_ideals 4 [.ref (z_ad g 80)] u (fun v u' => v = some (.int res) ∧ u' = u) := by
  refine z_C.mk (lv := [(0, .ref (z_ad g 80))]) (cc := cX9_ideals) (nL := 1) (rt := (some .int)) rfl (by decide) (Nat.le_of_ble_eq_true rfl) rfl (fun p e R s m args below meth c hR X => ?_)
  unfold f_X9_ideals at h
  obtain ⟨r1, er1, h⟩ := z_bs h
  refine z_aload_n X 0 dX9_ideals_0 rfl rfl (z_callVi X (r := r1) (u1 := u) [] [] (w_X9_isOrder l g u er1) z_c80 rfl gX9_ideals_X9_isOrder hy_X9_isOrder rfl (z_le1 hR (by decide)) (z_le2 hR (by decide) (by decide)) (Nat.le_of_ble_eq_true rfl) dX9_ideals_1 (z_if_eq X 17 dX9_ideals_4 (by decide) (fun c2 => ?_) (fun c2 => ?_)))
  · replace h := z_ip c2 h
    refine z_iconst X (v := (-1)) dX9_ideals_17 (by decide) ?_
    cases h; exact z_iret X rfl dX9_ideals_18 ⟨rfl, rfl⟩
  · replace h := z_in c2 h
    obtain ⟨r3, er3, h⟩ := z_bs h
    refine z_aload_n X 0 dX9_ideals_7 rfl rfl (z_getR X (k0 := 1) z_c80 rfl in_X9_ideals_X9 (by decide) rfl rfl lk_X9_ideals_21 dX9_ideals_8 (z_callVi X (r := r3) (u1 := u) [] [] (w_X6_spreadSets l g 0 z_po_0 u er3) (z_po z_po_0) rfl gX9_ideals_X6_spreadSets hy_X6_spreadSets rfl (z_le1 hR (by decide)) (z_le2 hR (by decide) (by decide)) (Nat.le_of_ble_eq_true rfl) dX9_ideals_11 (z_goto X 18 dX9_ideals_14 (by decide) ?_)))
    cases h; exact z_iret X rfl dX9_ideals_18 ⟨rfl, rfl⟩

theorem lk_X9_extensions_46 : (Cond.fieldLink RX9 46 RX9 (TX9 5).2.1 (TX9 5).2.2.1) ∈ wsX9_extensions := by decide +kernel
theorem in_X9_extensions_X9 : ∀ w ∈ u_ws RX9 TX9 9, w ∈ wsX9_extensions := by decide +kernel
theorem lk_X9_extensions_21 : (Cond.fieldLink RX9 21 RX9 (TX9 1).2.1 (TX9 1).2.2.1) ∈ wsX9_extensions := by decide +kernel
theorem hy_X8_extensionsOf : yX8_extensionsOf.cls = RX8 ∧ yX8_extensionsOf.cls ≠ "java/lang/invoke/MethodHandle" ∧ yX8_extensionsOf.cls ≠ "java/lang/invoke/VarHandle" ∧ (parseMethodDescriptor yX8_extensionsOf.desc).map (fun d => d.parameters.length) = some 1 := by decide +kernel
def f_X9_extensions (u : z_M) : Option (Int32 × z_M) :=
  Option.bind (f_X9_isOrder u) (fun r1 => if r1 = 0 then (some ((-1), u)) else (z_b2 (f_X8_extensionsOf 0 u) (fun r3 u4 => some (r3, u4))))
set_option maxRecDepth 20000 in
set_option maxHeartbeats 4000000 in
theorem w_X9_extensions (l : Launch) (g : z_G)  (u : z_M) {res : Int32 × z_M} (h : f_X9_extensions u = some res) : z_C l g z_shC yX9_extensions wsX9_extensions 4 [.ref (z_ad g 80)] u (fun v u' => v = some (.int res.1) ∧ u' = res.2) := by
  refine z_C.mk (lv := [(0, .ref (z_ad g 80))]) (cc := cX9_extensions) (nL := 1) (rt := (some .int)) rfl (by decide) (Nat.le_of_ble_eq_true rfl) rfl (fun p e R s m args below meth c hR X => ?_)
  unfold f_X9_extensions at h
  obtain ⟨r1, er1, h⟩ := z_bs h
  refine z_aload_n X 0 dX9_extensions_0 rfl rfl (z_callVi X (r := r1) (u1 := u) [] [] (w_X9_isOrder l g u er1) z_c80 rfl gX9_extensions_X9_isOrder hy_X9_isOrder rfl (z_le1 hR (by decide)) (z_le2 hR (by decide) (by decide)) (Nat.le_of_ble_eq_true rfl) dX9_extensions_1 (z_if_eq X 21 dX9_extensions_4 (by decide) (fun c2 => ?_) (fun c2 => ?_)))
  · replace h := z_ip c2 h
    refine z_iconst X (v := (-1)) dX9_extensions_21 (by decide) ?_
    cases h; exact z_iret X rfl dX9_extensions_22 ⟨rfl, rfl⟩
  · replace h := z_in c2 h
    obtain ⟨r3, u4, er3, h⟩ := z_b2s h
    refine z_aload_n X 0 dX9_extensions_7 rfl rfl (z_getR X (k0 := 5) z_c80 rfl in_X9_extensions_X9 (by decide) rfl rfl lk_X9_extensions_46 dX9_extensions_8 (z_aload_n X 0 dX9_extensions_11 rfl rfl (z_getR X (k0 := 1) z_c80 rfl in_X9_extensions_X9 (by decide) rfl rfl lk_X9_extensions_21 dX9_extensions_12 (z_callVi X (r := r3) (u1 := u4) [.ref (z_ad g 0)] [] (w_X8_extensionsOf l g 0 z_po_0 u er3) z_c125 rfl gX9_extensions_X8_extensionsOf hy_X8_extensionsOf rfl (z_le1 hR (by decide)) (z_le2 hR (by decide) (by decide)) (Nat.le_of_ble_eq_true rfl) dX9_extensions_15 (z_goto X 22 dX9_extensions_18 (by decide) ?_)))))
    cases h; exact z_iret X rfl dX9_extensions_22 ⟨rfl, rfl⟩

theorem lk_X9_extension_21 : (Cond.fieldLink RX9 21 RX9 (TX9 1).2.1 (TX9 1).2.2.1) ∈ wsX9_extension := by decide +kernel
theorem in_X9_extension_X9 : ∀ w ∈ u_ws RX9 TX9 9, w ∈ wsX9_extension := by decide +kernel
theorem lk_X9_extension_46 : (Cond.fieldLink RX9 46 RX9 (TX9 5).2.1 (TX9 5).2.2.1) ∈ wsX9_extension := by decide +kernel
theorem lk_X9_extension_223 : (Cond.fieldLink RX9 223 RX8 (TX8 0).2.1 (TX8 0).2.2.1) ∈ wsX9_extension := by decide +kernel
theorem in_X9_extension_X8 : ∀ w ∈ u_ws RX8 TX8 5, w ∈ wsX9_extension := by decide +kernel
def f_X9_extension (a1 : Int32) (u : z_M) : Option (Int32 × z_M) :=
  z_b2 (f_X6_leastRow 0 126 9 u) (fun r1 u2 => if a1 < 0 then (some ((-1), u2)) else (if r1 ≤ a1 then (some ((-1), u2)) else (z_gd (z_inb a1 9) (some (z_gI u2 126 a1.toNatClampNeg, u2)))))
set_option maxRecDepth 20000 in
set_option maxHeartbeats 4000000 in
theorem w_X9_extension (l : Launch) (g : z_G) (a1 : Int32) (u : z_M) {res : Int32 × z_M} (h : f_X9_extension a1 u = some res) : z_C l g z_shC yX9_extension wsX9_extension 4 [.ref (z_ad g 80), .int a1] u (fun v u' => v = some (.int res.1) ∧ u' = res.2) := by
  refine z_C.mk (lv := [(0, .ref (z_ad g 80)), (1, .int a1)]) (cc := cX9_extension) (nL := 3) (rt := (some .int)) rfl (by decide) (Nat.le_of_ble_eq_true rfl) rfl (fun p e R s m args below meth c hR X => ?_)
  unfold f_X9_extension at h
  obtain ⟨r1, u2, er1, h⟩ := z_b2s h
  refine z_aload_n X 0 dX9_extension_0 rfl rfl (z_getR X (k0 := 1) z_c80 rfl in_X9_extension_X9 (by decide) rfl rfl lk_X9_extension_21 dX9_extension_1 (z_aload_n X 0 dX9_extension_4 rfl rfl (z_getR X (k0 := 5) z_c80 rfl in_X9_extension_X9 (by decide) rfl rfl lk_X9_extension_46 dX9_extension_5 (z_getR X (k0 := 0) z_c125 rfl in_X9_extension_X8 (by decide) rfl rfl lk_X9_extension_223 dX9_extension_8 (z_callVi X (r := r1) (u1 := u2) [.ref (z_ad g 126)] [] (w_X6_leastRow l g 0 126 9 z_po_0 z_c126 u er1) (z_po z_po_0) rfl gX9_extension_X6_leastRow hy_X6_leastRow rfl (z_le1 hR (by decide)) (z_le2 hR (by decide) (by decide)) (Nat.le_of_ble_eq_true rfl) dX9_extension_11 (z_istore_n X [(2, .int r1), (0, .ref (z_ad g 80)), (1, .int a1)] dX9_extension_14 rfl (by decide) rfl (z_iload_n X 2 dX9_extension_15 rfl rfl (z_if_lt X 36 dX9_extension_16 (by decide) (fun c3 => ?_) (fun c3 => ?_)))))))))
  · replace h := z_ip c3 h
    refine z_iconst X (v := (-1)) dX9_extension_36 (by decide) ?_
    cases h; exact z_iret X rfl dX9_extension_37 ⟨rfl, rfl⟩
  · replace h := z_in c3 h
    refine z_iload_n X 2 dX9_extension_19 rfl rfl (z_iload_n X 0 dX9_extension_20 rfl rfl (z_icmp_ge X 36 dX9_extension_21 (by decide) (fun c4 => ?_) (fun c4 => ?_)))
    · replace h := z_ip c4 h
      refine z_iconst X (v := (-1)) dX9_extension_36 (by decide) ?_
      cases h; exact z_iret X rfl dX9_extension_37 ⟨rfl, rfl⟩
    · replace h := z_in c4 h
      obtain ⟨b5, h⟩ := z_gs h
      refine z_aload_n X 1 dX9_extension_24 rfl rfl (z_getR X (k0 := 5) z_c80 rfl in_X9_extension_X9 (by decide) rfl rfl lk_X9_extension_46 dX9_extension_25 (z_getR X (k0 := 0) z_c125 rfl in_X9_extension_X8 (by decide) rfl rfl lk_X9_extension_223 dX9_extension_28 (z_iload_n X 2 dX9_extension_31 rfl rfl (z_iald X z_c126 (z_inS b5) dX9_extension_32 (z_goto X 37 dX9_extension_33 (by decide) ?_)))))
      cases h; exact z_iret X rfl dX9_extension_37 ⟨rfl, rfl⟩

theorem lk_X9_troubleOf_21 : (Cond.fieldLink RX9 21 RX9 (TX9 1).2.1 (TX9 1).2.2.1) ∈ wsX9_troubleOf := by decide +kernel
theorem in_X9_troubleOf_X9 : ∀ w ∈ u_ws RX9 TX9 9, w ∈ wsX9_troubleOf := by decide +kernel
def f_X9_troubleOf (a1 : Int32) (a2 : Int32) (u : z_M) : Option (Int32) :=
  Option.bind (f_X6_has 0 a1 u) (fun r1 => if r1 = 0 then (some (-1)) else (Option.bind (f_X6_has 0 a2 u) (fun r3 => if r3 = 0 then (some (-1)) else (if a1 = a2 then (some 0) else (Option.bind (f_X6_isUnder 0 a1 a2 u) (fun r6 => if r6 = 0 then (some (-2)) else (some 0)))))))
set_option maxRecDepth 20000 in
set_option maxHeartbeats 4000000 in
theorem w_X9_troubleOf (l : Launch) (g : z_G) (a1 : Int32) (a2 : Int32) (u : z_M) {res : Int32} (h : f_X9_troubleOf a1 a2 u = some res) : z_C l g z_shC yX9_troubleOf wsX9_troubleOf 4 [.ref (z_ad g 80), .int a1, .int a2] u (fun v u' => v = some (.int res) ∧ u' = u) := by
  refine z_C.mk (lv := [(0, .ref (z_ad g 80)), (1, .int a1), (2, .int a2)]) (cc := cX9_troubleOf) (nL := 3) (rt := (some .int)) rfl (by decide) (Nat.le_of_ble_eq_true rfl) rfl (fun p e R s m args below meth c hR X => ?_)
  unfold f_X9_troubleOf at h
  obtain ⟨r1, er1, h⟩ := z_bs h
  refine z_aload_n X 0 dX9_troubleOf_0 rfl rfl (z_getR X (k0 := 1) z_c80 rfl in_X9_troubleOf_X9 (by decide) rfl rfl lk_X9_troubleOf_21 dX9_troubleOf_1 (z_iload_n X 1 dX9_troubleOf_4 rfl rfl (z_callVi X (r := r1) (u1 := u) [.int a1] [] (w_X6_has l g 0 a1 z_po_0 u er1) (z_po z_po_0) rfl gX9_troubleOf_X6_has hy_X6_has rfl (z_le1 hR (by decide)) (z_le2 hR (by decide) (by decide)) (Nat.le_of_ble_eq_true rfl) dX9_troubleOf_5 (z_if_eq X 22 dX9_troubleOf_8 (by decide) (fun c2 => ?_) (fun c2 => ?_)))))
  · replace h := z_ip c2 h
    refine z_iconst X (v := (-1)) dX9_troubleOf_22 (by decide) ?_
    cases h; exact z_iret X rfl dX9_troubleOf_23 ⟨rfl, rfl⟩
  · replace h := z_in c2 h
    obtain ⟨r3, er3, h⟩ := z_bs h
    refine z_aload_n X 0 dX9_troubleOf_11 rfl rfl (z_getR X (k0 := 1) z_c80 rfl in_X9_troubleOf_X9 (by decide) rfl rfl lk_X9_troubleOf_21 dX9_troubleOf_12 (z_iload_n X 2 dX9_troubleOf_15 rfl rfl (z_callVi X (r := r3) (u1 := u) [.int a2] [] (w_X6_has l g 0 a2 z_po_0 u er3) (z_po z_po_0) rfl gX9_troubleOf_X6_has hy_X6_has rfl (z_le1 hR (by decide)) (z_le2 hR (by decide) (by decide)) (Nat.le_of_ble_eq_true rfl) dX9_troubleOf_16 (z_if_ne X 24 dX9_troubleOf_19 (by decide) (fun c4 => ?_) (fun c4 => ?_)))))
    · replace h := z_in c4 h
      refine z_iload_n X 1 dX9_troubleOf_24 rfl rfl (z_iload_n X 2 dX9_troubleOf_25 rfl rfl (z_icmp_eq X 41 dX9_troubleOf_26 (by decide) (fun c5 => ?_) (fun c5 => ?_)))
      · replace h := z_ip c5 h
        refine z_iconst X (v := 0) dX9_troubleOf_41 (by decide) (z_goto X 47 dX9_troubleOf_42 (by decide) ?_)
        cases h; exact z_iret X rfl dX9_troubleOf_47 ⟨rfl, rfl⟩
      · replace h := z_in c5 h
        obtain ⟨r6, er6, h⟩ := z_bs h
        refine z_aload_n X 0 dX9_troubleOf_29 rfl rfl (z_getR X (k0 := 1) z_c80 rfl in_X9_troubleOf_X9 (by decide) rfl rfl lk_X9_troubleOf_21 dX9_troubleOf_30 (z_iload_n X 1 dX9_troubleOf_33 rfl rfl (z_iload_n X 2 dX9_troubleOf_34 rfl rfl (z_callVi X (r := r6) (u1 := u) [.int a1, .int a2] [] (w_X6_isUnder l g 0 a1 a2 z_po_0 u er6) (z_po z_po_0) rfl gX9_troubleOf_X6_isUnder hy_X6_isUnder rfl (z_le1 hR (by decide)) (z_le2 hR (by decide) (by decide)) (Nat.le_of_ble_eq_true rfl) dX9_troubleOf_35 (z_if_eq X 45 dX9_troubleOf_38 (by decide) (fun c7 => ?_) (fun c7 => ?_))))))
        · replace h := z_ip c7 h
          refine z_bipush X (v := (-2)) dX9_troubleOf_45 (by decide) ?_
          cases h; exact z_iret X rfl dX9_troubleOf_47 ⟨rfl, rfl⟩
        · replace h := z_in c7 h
          refine z_iconst X (v := 0) dX9_troubleOf_41 (by decide) (z_goto X 47 dX9_troubleOf_42 (by decide) ?_)
          cases h; exact z_iret X rfl dX9_troubleOf_47 ⟨rfl, rfl⟩
    · replace h := z_ip c4 h
      refine z_iconst X (v := (-1)) dX9_troubleOf_22 (by decide) ?_
      cases h; exact z_iret X rfl dX9_troubleOf_23 ⟨rfl, rfl⟩

theorem lk_X9_interval_21 : (Cond.fieldLink RX9 21 RX9 (TX9 1).2.1 (TX9 1).2.2.1) ∈ wsX9_interval := by decide +kernel
theorem in_X9_interval_X9 : ∀ w ∈ u_ws RX9 TX9 9, w ∈ wsX9_interval := fun _ h => List.mem_cons_of_mem _ (List.mem_append_left _ (List.mem_append_right _ h))
theorem hy_X6_between : yX6_between.cls = RX6 ∧ yX6_between.cls ≠ "java/lang/invoke/MethodHandle" ∧ yX6_between.cls ≠ "java/lang/invoke/VarHandle" ∧ (parseMethodDescriptor yX6_between.desc).map (fun d => d.parameters.length) = some 2 := by decide +kernel
theorem hy_X9_troubleOf : yX9_troubleOf.cls = RX9 ∧ yX9_troubleOf.cls ≠ "java/lang/invoke/MethodHandle" ∧ yX9_troubleOf.cls ≠ "java/lang/invoke/VarHandle" ∧ (parseMethodDescriptor yX9_troubleOf.desc).map (fun d => d.parameters.length) = some 2 := by decide +kernel
def f_X9_interval (a1 : Int32) (a2 : Int32) (u : z_M) : Option (Int32) :=
  Option.bind (f_X9_troubleOf a1 a2 u) (fun r1 => if r1 = 0 then (Option.bind (f_X6_between 0 a1 a2 u) (fun r3 => some r3)) else (some r1))
set_option maxRecDepth 20000 in
set_option maxHeartbeats 4000000 in
theorem w_X9_interval (l : Launch) (g : z_G) (a1 : Int32) (a2 : Int32) (u : z_M) {res : Int32} (h : f_X9_interval a1 a2 u = some res) : z_C l g z_shC yX9_interval wsX9_interval 5 [.ref (z_ad g 80), .int a1, .int a2] u (fun v u' => v = some (.int res) ∧ u' = u) := by
  refine z_C.mk (lv := [(0, .ref (z_ad g 80)), (1, .int a1), (2, .int a2)]) (cc := cX9_interval) (nL := 4) (rt := (some .int)) rfl (by decide) (Nat.le_of_ble_eq_true rfl) rfl (fun p e R s m args below meth c hR X => ?_)
  unfold f_X9_interval at h
  obtain ⟨r1, er1, h⟩ := z_bs h
  refine z_aload_n X 0 dX9_interval_0 rfl rfl (z_iload_n X 1 dX9_interval_1 rfl rfl (z_iload_n X 2 dX9_interval_2 rfl rfl (z_callVi X (r := r1) (u1 := u) [.int a1, .int a2] [] (w_X9_troubleOf l g a1 a2 u er1) z_c80 rfl gX9_interval_X9_troubleOf hy_X9_troubleOf rfl (z_le1 hR (by decide)) (z_le2 hR (by decide) (by decide)) (Nat.le_of_ble_eq_true rfl) dX9_interval_3 (z_istore_n X [(3, .int r1), (0, .ref (z_ad g 80)), (1, .int a1), (2, .int a2)] dX9_interval_6 rfl (by decide) rfl (z_iload_n X 0 dX9_interval_7 rfl rfl (z_if_eq X 15 dX9_interval_8 (by decide) (fun c2 => ?_) (fun c2 => ?_)))))))
  · replace h := z_ip c2 h
    obtain ⟨r3, er3, h⟩ := z_bs h
    refine z_aload_n X 1 dX9_interval_15 rfl rfl (z_getR X (k0 := 1) z_c80 rfl in_X9_interval_X9 (by decide) rfl rfl lk_X9_interval_21 dX9_interval_16 (z_iload_n X 2 dX9_interval_19 rfl rfl (z_iload_n X 3 dX9_interval_20 rfl rfl (z_callVi X (r := r3) (u1 := u) [.int a1, .int a2] [] (w_X6_between l g 0 a1 a2 z_po_0 u er3) (z_po z_po_0) rfl gX9_interval_X6_between hy_X6_between rfl (z_le1 hR (by decide)) (z_le2 hR (by decide) (by decide)) (Nat.le_of_ble_eq_true rfl) dX9_interval_21 ?_))))
    cases h; exact z_iret X rfl dX9_interval_24 ⟨rfl, rfl⟩
  · replace h := z_in c2 h
    refine z_iload_n X 0 dX9_interval_11 rfl rfl (z_goto X 24 dX9_interval_12 (by decide) ?_)
    cases h; exact z_iret X rfl dX9_interval_24 ⟨rfl, rfl⟩

theorem lk_X9_chains_39 : (Cond.fieldLink RX9 39 RX9 (TX9 4).2.1 (TX9 4).2.2.1) ∈ wsX9_chains := by decide +kernel
theorem in_X9_chains_X9 : ∀ w ∈ u_ws RX9 TX9 9, w ∈ wsX9_chains := fun _ h => List.mem_cons_of_mem _ (List.mem_append_left _ (List.mem_append_left _ (List.mem_append_left _ (List.mem_append_right _ h))))
theorem lk_X9_chains_21 : (Cond.fieldLink RX9 21 RX9 (TX9 1).2.1 (TX9 1).2.2.1) ∈ wsX9_chains := by decide +kernel
theorem lk_X9_chains_239 : (Cond.fieldLink RX9 239 RX2 (TX2 0).2.1 (TX2 0).2.2.1) ∈ wsX9_chains := by decide +kernel
theorem in_X9_chains_X2 : ∀ w ∈ u_ws RX2 TX2 3, w ∈ wsX9_chains := fun _ h => List.mem_cons_of_mem _ (List.mem_append_left _ (List.mem_append_left _ (List.mem_append_right _ h)))
theorem hy_X2_descending : yX2_descending.cls = RX2 ∧ yX2_descending.cls ≠ "java/lang/invoke/MethodHandle" ∧ yX2_descending.cls ≠ "java/lang/invoke/VarHandle" ∧ (parseMethodDescriptor yX2_descending.desc).map (fun d => d.parameters.length) = some 0 := by decide +kernel
theorem hy_X2_fill : yX2_fill.cls = RX2 ∧ yX2_fill.cls ≠ "java/lang/invoke/MethodHandle" ∧ yX2_fill.cls ≠ "java/lang/invoke/VarHandle" ∧ (parseMethodDescriptor yX2_fill.desc).map (fun d => d.parameters.length) = some 3 := by decide +kernel
theorem hy_X2_longest : yX2_longest.cls = RX2 ∧ yX2_longest.cls ≠ "java/lang/invoke/MethodHandle" ∧ yX2_longest.cls ≠ "java/lang/invoke/VarHandle" ∧ (parseMethodDescriptor yX2_longest.desc).map (fun d => d.parameters.length) = some 0 := by decide +kernel
theorem hy_X2_shortest : yX2_shortest.cls = RX2 ∧ yX2_shortest.cls ≠ "java/lang/invoke/MethodHandle" ∧ yX2_shortest.cls ≠ "java/lang/invoke/VarHandle" ∧ (parseMethodDescriptor yX2_shortest.desc).map (fun d => d.parameters.length) = some 0 := by decide +kernel
def f_X9_chains (a1 : Int32) (a2 : Int32) (a3 : Int32) (u : z_M) : Option (Int32 × z_M) :=
  if a3 < 0 then (some ((-1), u)) else (if a3 ≤ 4 then (Option.bind (f_X9_troubleOf a1 a2 u) (fun r3 => if r3 = 0 then (Option.bind (f_X2_fill 0 a1 a2 u) (fun r5 => if a3 = 0 then (some (z_gI r5 86 0, r5)) else (if a3 = 1 then (Option.bind (f_X2_rising r5) (fun r6 => some (r6, r5))) else (if a3 = 2 then (Option.bind (f_X2_descending r5) (fun r7 => some (r7, r5))) else (if a3 = 3 then (Option.bind (f_X2_longest r5) (fun r8 => some (r8, r5))) else (Option.bind (f_X2_shortest r5) (fun r9 => some (r9, r5)))))))) else (some (r3, u)))) else (some ((-1), u)))
set_option maxRecDepth 20000 in
set_option maxHeartbeats 4000000 in
theorem w_X9_chains (l : Launch) (g : z_G) (a1 : Int32) (a2 : Int32) (a3 : Int32) (u : z_M) {res : Int32 × z_M} (h : f_X9_chains a1 a2 a3 u = some res) : z_C l g z_shC yX9_chains wsX9_chains 21 [.ref (z_ad g 80), .int a1, .int a2, .int a3] u (fun v u' => v = some (.int res.1) ∧ u' = res.2) := by
  refine z_C.mk (lv := [(0, .ref (z_ad g 80)), (1, .int a1), (2, .int a2), (3, .int a3)]) (cc := cX9_chains) (nL := 5) (rt := (some .int)) rfl (by decide) (Nat.le_of_ble_eq_true rfl) rfl (fun p e R s m args below meth c hR X => ?_)
  unfold f_X9_chains at h
  refine z_iload_n X 3 dX9_chains_0 rfl rfl (z_if_lt X 9 dX9_chains_1 (by decide) (fun c1 => ?_) (fun c1 => ?_))
  · replace h := z_ip c1 h
    refine z_iconst X (v := (-1)) dX9_chains_9 (by decide) ?_
    cases h; exact z_iret X rfl dX9_chains_10 ⟨rfl, rfl⟩
  · replace h := z_in c1 h
    refine z_iload_n X 3 dX9_chains_4 rfl rfl (z_iconst X (v := 4) dX9_chains_5 (by decide) (z_icmp_le X 11 dX9_chains_6 (by decide) (fun c2 => ?_) (fun c2 => ?_)))
    · replace h := z_ip c2 h
      obtain ⟨r3, er3, h⟩ := z_bs h
      refine z_aload_n X 0 dX9_chains_11 rfl rfl (z_iload_n X 1 dX9_chains_12 rfl rfl (z_iload_n X 2 dX9_chains_13 rfl rfl (z_callVi X (r := r3) (u1 := u) [.int a1, .int a2] [] (w_X9_troubleOf l g a1 a2 u er3) z_c80 rfl gX9_chains_X9_troubleOf hy_X9_troubleOf rfl (z_le1 hR (by decide)) (z_le2 hR (by decide) (by decide)) (Nat.le_of_ble_eq_true rfl) dX9_chains_14 (z_istore X [(4, .int r3), (0, .ref (z_ad g 80)), (1, .int a1), (2, .int a2), (3, .int a3)] dX9_chains_17 (by decide) rfl (z_iload X 0 dX9_chains_19 rfl (z_if_eq X 27 dX9_chains_21 (by decide) (fun c4 => ?_) (fun c4 => ?_)))))))
      · replace h := z_ip c4 h
        obtain ⟨r5, er5, h⟩ := z_bs h
        refine z_aload_n X 1 dX9_chains_27 rfl rfl (z_getR X (k0 := 4) z_c80 rfl in_X9_chains_X9 (by decide) rfl rfl lk_X9_chains_39 dX9_chains_28 (z_aload_n X 1 dX9_chains_31 rfl rfl (z_getR X (k0 := 1) z_c80 rfl in_X9_chains_X9 (by decide) rfl rfl lk_X9_chains_21 dX9_chains_32 (z_iload_n X 2 dX9_chains_35 rfl rfl (z_iload_n X 3 dX9_chains_36 rfl rfl (z_callVv X (u1 := r5) [.ref (z_ad g 0), .int a1, .int a2] [] (w_X2_fill l g 0 a1 a2 z_po_0 u er5) z_c86 rfl gX9_chains_X2_fill hy_X2_fill rfl (z_le1 hR (by decide)) (z_le2 hR (by decide) (by decide)) (Nat.le_of_ble_eq_true rfl) dX9_chains_37 (z_iload_n X 4 dX9_chains_40 rfl rfl ?_)))))))
        by_cases c10 : a3 = 0
        · replace h := z_ip c10 h
          refine z_tabIn X 72 dX9_chains_41 (by rw [c10]; decide) (by rw [c10]; decide) (by rw [c10]; rfl) (by decide) ?_
          refine z_aload_n X 1 dX9_chains_72 rfl rfl (z_getR X (k0 := 4) z_c80 rfl in_X9_chains_X9 (by decide) rfl rfl lk_X9_chains_39 dX9_chains_73 (z_getI X (k0 := 0) z_c86 rfl in_X9_chains_X2 (by decide) rfl rfl lk_X9_chains_239 dX9_chains_76 ?_))
          cases h; exact z_iret X rfl dX9_chains_79 ⟨rfl, rfl⟩
        replace h := z_in c10 h
        by_cases c11 : a3 = 1
        · replace h := z_ip c11 h
          refine z_tabIn X 80 dX9_chains_41 (by rw [c11]; decide) (by rw [c11]; decide) (by rw [c11]; rfl) (by decide) ?_
          obtain ⟨r6, er6, h⟩ := z_bs h
          refine z_aload_n X 1 dX9_chains_80 rfl rfl (z_getR X (k0 := 4) z_c80 rfl in_X9_chains_X9 (by decide) rfl rfl lk_X9_chains_39 dX9_chains_81 (z_callVi X (r := r6) (u1 := r5) [] [] (w_X2_rising l g r5 er6) z_c86 rfl gX9_chains_X2_rising hy_X2_rising rfl (z_le1 hR (by decide)) (z_le2 hR (by decide) (by decide)) (Nat.le_of_ble_eq_true rfl) dX9_chains_84 ?_))
          cases h; exact z_iret X rfl dX9_chains_87 ⟨rfl, rfl⟩
        replace h := z_in c11 h
        by_cases c12 : a3 = 2
        · replace h := z_ip c12 h
          refine z_tabIn X 88 dX9_chains_41 (by rw [c12]; decide) (by rw [c12]; decide) (by rw [c12]; rfl) (by decide) ?_
          obtain ⟨r7, er7, h⟩ := z_bs h
          refine z_aload_n X 1 dX9_chains_88 rfl rfl (z_getR X (k0 := 4) z_c80 rfl in_X9_chains_X9 (by decide) rfl rfl lk_X9_chains_39 dX9_chains_89 (z_callVi X (r := r7) (u1 := r5) [] [] (w_X2_descending l g r5 er7) z_c86 rfl gX9_chains_X2_descending hy_X2_descending rfl (z_le1 hR (by decide)) (z_le2 hR (by decide) (by decide)) (Nat.le_of_ble_eq_true rfl) dX9_chains_92 ?_))
          cases h; exact z_iret X rfl dX9_chains_95 ⟨rfl, rfl⟩
        replace h := z_in c12 h
        by_cases c13 : a3 = 3
        · replace h := z_ip c13 h
          refine z_tabIn X 96 dX9_chains_41 (by rw [c13]; decide) (by rw [c13]; decide) (by rw [c13]; rfl) (by decide) ?_
          obtain ⟨r8, er8, h⟩ := z_bs h
          refine z_aload_n X 1 dX9_chains_96 rfl rfl (z_getR X (k0 := 4) z_c80 rfl in_X9_chains_X9 (by decide) rfl rfl lk_X9_chains_39 dX9_chains_97 (z_callVi X (r := r8) (u1 := r5) [] [] (w_X2_longest l g r5 er8) z_c86 rfl gX9_chains_X2_longest hy_X2_longest rfl (z_le1 hR (by decide)) (z_le2 hR (by decide) (by decide)) (Nat.le_of_ble_eq_true rfl) dX9_chains_100 ?_))
          cases h; exact z_iret X rfl dX9_chains_103 ⟨rfl, rfl⟩
        replace h := z_in c13 h
        refine z_tabOut X 104 dX9_chains_41 (by have kc10 := lv_neT (a := 0) c10 (by decide); have kc11 := lv_neT (a := 1) c11 (by decide); have kc12 := lv_neT (a := 2) c12 (by decide); have kc13 := lv_neT (a := 3) c13 (by decide); omega) (by decide) ?_
        obtain ⟨r9, er9, h⟩ := z_bs h
        refine z_aload_n X 1 dX9_chains_104 rfl rfl (z_getR X (k0 := 4) z_c80 rfl in_X9_chains_X9 (by decide) rfl rfl lk_X9_chains_39 dX9_chains_105 (z_callVi X (r := r9) (u1 := r5) [] [] (w_X2_shortest l g r5 er9) z_c86 rfl gX9_chains_X2_shortest hy_X2_shortest rfl (z_le1 hR (by decide)) (z_le2 hR (by decide) (by decide)) (Nat.le_of_ble_eq_true rfl) dX9_chains_108 ?_))
        cases h; exact z_iret X rfl dX9_chains_111 ⟨rfl, rfl⟩
      · replace h := z_in c4 h
        refine z_iload X 0 dX9_chains_24 rfl ?_
        cases h; exact z_iret X rfl dX9_chains_26 ⟨rfl, rfl⟩
    · replace h := z_in c2 h
      refine z_iconst X (v := (-1)) dX9_chains_9 (by decide) ?_
      cases h; exact z_iret X rfl dX9_chains_10 ⟨rfl, rfl⟩

theorem lk_X9_point_39 : (Cond.fieldLink RX9 39 RX9 (TX9 4).2.1 (TX9 4).2.2.1) ∈ wsX9_point := by decide +kernel
theorem in_X9_point_X9 : ∀ w ∈ u_ws RX9 TX9 9, w ∈ wsX9_point := fun _ h => List.mem_cons_of_mem _ (List.mem_append_left _ (List.mem_append_left _ (List.mem_append_left _ (List.mem_append_right _ h))))
theorem lk_X9_point_21 : (Cond.fieldLink RX9 21 RX9 (TX9 1).2.1 (TX9 1).2.2.1) ∈ wsX9_point := by decide +kernel
theorem lk_X9_point_255 : (Cond.fieldLink RX9 255 RX2 (TX2 1).2.1 (TX2 1).2.2.1) ∈ wsX9_point := by decide +kernel
theorem in_X9_point_X2 : ∀ w ∈ u_ws RX2 TX2 3, w ∈ wsX9_point := fun _ h => List.mem_cons_of_mem _ (List.mem_append_left _ (List.mem_append_left _ (List.mem_append_right _ h)))
theorem lk_X9_point_259 : (Cond.fieldLink RX9 259 RX1 (TX1 0).2.1 (TX1 0).2.2.1) ∈ wsX9_point := by decide +kernel
theorem in_X9_point_X1 : ∀ w ∈ u_ws RX1 TX1 4, w ∈ wsX9_point := fun _ h => List.mem_cons_of_mem _ (List.mem_append_left _ (List.mem_append_right _ h))
theorem lk_X9_point_264 : (Cond.fieldLink RX9 264 RX1 (TX1 2).2.1 (TX1 2).2.2.1) ∈ wsX9_point := by decide +kernel
theorem hy_X2_hasChain : yX2_hasChain.cls = RX2 ∧ yX2_hasChain.cls ≠ "java/lang/invoke/MethodHandle" ∧ yX2_hasChain.cls ≠ "java/lang/invoke/VarHandle" ∧ (parseMethodDescriptor yX2_hasChain.desc).map (fun d => d.parameters.length) = some 1 := by decide +kernel
def f_X9_point (a1 : Int32) (a2 : Int32) (a3 : Int32) (a4 : Int32) (u : z_M) : Option (Int32 × z_M) :=
  Option.bind (f_X9_troubleOf a1 a2 u) (fun r1 => if r1 = 0 then (Option.bind (f_X2_fill 0 a1 a2 u) (fun r3 => Option.bind (f_X2_hasChain a3 r3) (fun r4 => if r4 = 0 then (some ((-2), r3)) else (if a4 < 0 then (some ((-2), r3)) else (z_gd (z_inb a3 12) (z_gd (z_isCh (z_gI r3 87 a3.toNatClampNeg).toNatClampNeg) (if a4 ≤ (z_gI r3 ((z_gI r3 87 a3.toNatClampNeg).toNatClampNeg) 0) then (z_gd (z_inb a3 12) (z_gd (z_isCh (z_gI r3 87 a3.toNatClampNeg).toNatClampNeg) (z_gd (z_inb a4 9) (some (z_gI r3 ((z_gI r3 87 a3.toNatClampNeg).toNatClampNeg + 1) a4.toNatClampNeg, r3))))) else (some ((-2), r3))))))))) else (some (r1, u)))
set_option maxRecDepth 20000 in
set_option maxHeartbeats 4000000 in
theorem w_X9_point (l : Launch) (g : z_G) (a1 : Int32) (a2 : Int32) (a3 : Int32) (a4 : Int32) (u : z_M) {res : Int32 × z_M} (h : f_X9_point a1 a2 a3 a4 u = some res) : z_C l g z_shC yX9_point wsX9_point 21 [.ref (z_ad g 80), .int a1, .int a2, .int a3, .int a4] u (fun v u' => v = some (.int res.1) ∧ u' = res.2) := by
  refine z_C.mk (lv := [(0, .ref (z_ad g 80)), (1, .int a1), (2, .int a2), (3, .int a3), (4, .int a4)]) (cc := cX9_point) (nL := 6) (rt := (some .int)) rfl (by decide) (Nat.le_of_ble_eq_true rfl) rfl (fun p e R s m args below meth c hR X => ?_)
  unfold f_X9_point at h
  obtain ⟨r1, er1, h⟩ := z_bs h
  refine z_aload_n X 0 dX9_point_0 rfl rfl (z_iload_n X 1 dX9_point_1 rfl rfl (z_iload_n X 2 dX9_point_2 rfl rfl (z_callVi X (r := r1) (u1 := u) [.int a1, .int a2] [] (w_X9_troubleOf l g a1 a2 u er1) z_c80 rfl gX9_point_X9_troubleOf hy_X9_troubleOf rfl (z_le1 hR (by decide)) (z_le2 hR (by decide) (by decide)) (Nat.le_of_ble_eq_true rfl) dX9_point_3 (z_istore X [(5, .int r1), (0, .ref (z_ad g 80)), (1, .int a1), (2, .int a2), (3, .int a3), (4, .int a4)] dX9_point_6 (by decide) rfl (z_iload X 0 dX9_point_8 rfl (z_if_eq X 16 dX9_point_10 (by decide) (fun c2 => ?_) (fun c2 => ?_)))))))
  · replace h := z_ip c2 h
    obtain ⟨r3, er3, h⟩ := z_bs h
    obtain ⟨r4, er4, h⟩ := z_bs h
    refine z_aload_n X 1 dX9_point_16 rfl rfl (z_getR X (k0 := 4) z_c80 rfl in_X9_point_X9 (by decide) rfl rfl lk_X9_point_39 dX9_point_17 (z_aload_n X 1 dX9_point_20 rfl rfl (z_getR X (k0 := 1) z_c80 rfl in_X9_point_X9 (by decide) rfl rfl lk_X9_point_21 dX9_point_21 (z_iload_n X 2 dX9_point_24 rfl rfl (z_iload_n X 3 dX9_point_25 rfl rfl (z_callVv X (u1 := r3) [.ref (z_ad g 0), .int a1, .int a2] [] (w_X2_fill l g 0 a1 a2 z_po_0 u er3) z_c86 rfl gX9_point_X2_fill hy_X2_fill rfl (z_le1 hR (by decide)) (z_le2 hR (by decide) (by decide)) (Nat.le_of_ble_eq_true rfl) dX9_point_26 (z_aload_n X 1 dX9_point_29 rfl rfl (z_getR X (k0 := 4) z_c80 rfl in_X9_point_X9 (by decide) rfl rfl lk_X9_point_39 dX9_point_30 (z_iload_n X 4 dX9_point_33 rfl rfl (z_callVi X (r := r4) (u1 := r3) [.int a3] [] (w_X2_hasChain l g a3 r3 er4) z_c86 rfl gX9_point_X2_hasChain hy_X2_hasChain rfl (z_le1 hR (by decide)) (z_le2 hR (by decide) (by decide)) (Nat.le_of_ble_eq_true rfl) dX9_point_34 (z_if_eq X 62 dX9_point_37 (by decide) (fun c5 => ?_) (fun c5 => ?_))))))))))))
    · replace h := z_ip c5 h
      refine z_bipush X (v := (-2)) dX9_point_62 (by decide) ?_
      cases h; exact z_iret X rfl dX9_point_64 ⟨rfl, rfl⟩
    · replace h := z_in c5 h
      refine z_iload X 5 dX9_point_40 rfl (z_if_lt X 62 dX9_point_42 (by decide) (fun c6 => ?_) (fun c6 => ?_))
      · replace h := z_ip c6 h
        refine z_bipush X (v := (-2)) dX9_point_62 (by decide) ?_
        cases h; exact z_iret X rfl dX9_point_64 ⟨rfl, rfl⟩
      · replace h := z_in c6 h
        obtain ⟨b7, h⟩ := z_gs h
        obtain ⟨b8, h⟩ := z_gs h
        refine z_iload X 5 dX9_point_45 rfl (z_aload_n X 1 dX9_point_47 rfl rfl (z_getR X (k0 := 4) z_c80 rfl in_X9_point_X9 (by decide) rfl rfl lk_X9_point_39 dX9_point_48 (z_getR X (k0 := 1) z_c86 rfl in_X9_point_X2 (by decide) rfl rfl lk_X9_point_255 dX9_point_51 (z_iload_n X 4 dX9_point_54 rfl rfl (z_aalC X z_c87 (z_inS b7) dX9_point_55 (z_getI X (k0 := 0) (z_ch (z_ch_of b8)) rfl in_X9_point_X1 (by decide) rfl rfl lk_X9_point_259 dX9_point_56 (z_icmp_le X 65 dX9_point_59 (by decide) (fun c9 => ?_) (fun c9 => ?_))))))))
        · replace h := z_ip c9 h
          obtain ⟨b10, h⟩ := z_gs h
          obtain ⟨b11, h⟩ := z_gs h
          obtain ⟨b12, h⟩ := z_gs h
          refine z_aload_n X 1 dX9_point_65 rfl rfl (z_getR X (k0 := 4) z_c80 rfl in_X9_point_X9 (by decide) rfl rfl lk_X9_point_39 dX9_point_66 (z_getR X (k0 := 1) z_c86 rfl in_X9_point_X2 (by decide) rfl rfl lk_X9_point_255 dX9_point_69 (z_iload_n X 4 dX9_point_72 rfl rfl (z_aalC X z_c87 (z_inS b10) dX9_point_73 (z_getR X (k0 := 2) (z_ch (z_ch_of b11)) rfl in_X9_point_X1 (by decide) rfl rfl lk_X9_point_264 dX9_point_74 (z_iload X 5 dX9_point_77 rfl (z_iald X (z_chP (z_ch_of b11)) (z_inS b12) dX9_point_79 ?_)))))))
          cases h; exact z_iret X rfl dX9_point_80 ⟨rfl, rfl⟩
        · replace h := z_in c9 h
          refine z_bipush X (v := (-2)) dX9_point_62 (by decide) ?_
          cases h; exact z_iret X rfl dX9_point_64 ⟨rfl, rfl⟩
  · replace h := z_in c2 h
    refine z_iload X 0 dX9_point_13 rfl ?_
    cases h; exact z_iret X rfl dX9_point_15 ⟨rfl, rfl⟩
