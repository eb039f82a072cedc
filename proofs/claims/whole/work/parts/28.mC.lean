theorem lk_X9_labelOf_39 : (Cond.fieldLink RX9 39 RX9 (TX9 4).2.1 (TX9 4).2.2.1) ∈ wsX9_labelOf := by decide +kernel
theorem in_X9_labelOf_X9 : ∀ w ∈ u_ws RX9 TX9 9, w ∈ wsX9_labelOf := fun _ h => List.mem_cons_of_mem _ (List.mem_append_left _ (List.mem_append_left _ (List.mem_append_left _ (List.mem_append_right _ h))))
theorem lk_X9_labelOf_21 : (Cond.fieldLink RX9 21 RX9 (TX9 1).2.1 (TX9 1).2.2.1) ∈ wsX9_labelOf := by decide +kernel
theorem lk_X9_labelOf_255 : (Cond.fieldLink RX9 255 RX2 (TX2 1).2.1 (TX2 1).2.2.1) ∈ wsX9_labelOf := by decide +kernel
theorem in_X9_labelOf_X2 : ∀ w ∈ u_ws RX2 TX2 3, w ∈ wsX9_labelOf := fun _ h => List.mem_cons_of_mem _ (List.mem_append_left _ (List.mem_append_left _ (List.mem_append_right _ h)))
theorem lk_X9_labelOf_259 : (Cond.fieldLink RX9 259 RX1 (TX1 0).2.1 (TX1 0).2.2.1) ∈ wsX9_labelOf := by decide +kernel
theorem in_X9_labelOf_X1 : ∀ w ∈ u_ws RX1 TX1 4, w ∈ wsX9_labelOf := fun _ h => List.mem_cons_of_mem _ (List.mem_append_left _ (List.mem_append_right _ h))
theorem lk_X9_labelOf_267 : (Cond.fieldLink RX9 267 RX1 (TX1 3).2.1 (TX1 3).2.2.1) ∈ wsX9_labelOf := by decide +kernel
def f_X9_labelOf (a1 : Int32) (a2 : Int32) (a3 : Int32) (a4 : Int32) (u : z_M) : Option (Int32 × z_M) :=
  Option.bind (f_X9_troubleOf a1 a2 u) (fun r1 => if r1 = 0 then (Option.bind (f_X2_fill 0 a1 a2 u) (fun r3 => Option.bind (f_X2_hasChain a3 r3) (fun r4 => if r4 = 0 then (some ((-2), r3)) else (if a4 < 0 then (some ((-2), r3)) else (z_gd (z_inb a3 12) (z_gd (z_isCh (z_gI r3 87 a3.toNatClampNeg).toNatClampNeg) (if a4 < (z_gI r3 ((z_gI r3 87 a3.toNatClampNeg).toNatClampNeg) 0) then (z_gd (z_inb a3 12) (z_gd (z_isCh (z_gI r3 87 a3.toNatClampNeg).toNatClampNeg) (z_gd (z_inb a4 8) (some (z_gI r3 ((z_gI r3 87 a3.toNatClampNeg).toNatClampNeg + 2) a4.toNatClampNeg, r3))))) else (some ((-2), r3))))))))) else (some (r1, u)))
set_option maxRecDepth 20000 in
set_option maxHeartbeats 4000000 in
theorem w_X9_labelOf (l : Launch) (g : z_G) (a1 : Int32) (a2 : Int32) (a3 : Int32) (a4 : Int32) (u : z_M) {res : Int32 × z_M} (h : f_X9_labelOf a1 a2 a3 a4 u = some res) : z_C l g z_shC yX9_labelOf wsX9_labelOf 21 [.ref (z_ad g 80), .int a1, .int a2, .int a3, .int a4] u (fun v u' => v = some (.int res.1) ∧ u' = res.2) := by
  refine z_C.mk (lv := [(0, .ref (z_ad g 80)), (1, .int a1), (2, .int a2), (3, .int a3), (4, .int a4)]) (cc := cX9_labelOf) (nL := 6) (rt := (some .int)) rfl (by decide) (Nat.le_of_ble_eq_true rfl) rfl (fun p e R s m args below meth c hR X => ?_)
  unfold f_X9_labelOf at h
  obtain ⟨r1, er1, h⟩ := z_bs h
  refine z_aload_n X 0 dX9_labelOf_0 rfl rfl (z_iload_n X 1 dX9_labelOf_1 rfl rfl (z_iload_n X 2 dX9_labelOf_2 rfl rfl (z_callVi X (r := r1) (u1 := u) [.int a1, .int a2] [] (w_X9_troubleOf l g a1 a2 u er1) z_c80 rfl gX9_labelOf_X9_troubleOf hy_X9_troubleOf rfl (z_le1 hR (by decide)) (z_le2 hR (by decide) (by decide)) (Nat.le_of_ble_eq_true rfl) dX9_labelOf_3 (z_istore X [(5, .int r1), (0, .ref (z_ad g 80)), (1, .int a1), (2, .int a2), (3, .int a3), (4, .int a4)] dX9_labelOf_6 (by decide) rfl (z_iload X 0 dX9_labelOf_8 rfl (z_if_eq X 16 dX9_labelOf_10 (by decide) (fun c2 => ?_) (fun c2 => ?_)))))))
  · replace h := z_ip c2 h
    obtain ⟨r3, er3, h⟩ := z_bs h
    obtain ⟨r4, er4, h⟩ := z_bs h
    refine z_aload_n X 1 dX9_labelOf_16 rfl rfl (z_getR X (k0 := 4) z_c80 rfl in_X9_labelOf_X9 (by decide) rfl rfl lk_X9_labelOf_39 dX9_labelOf_17 (z_aload_n X 1 dX9_labelOf_20 rfl rfl (z_getR X (k0 := 1) z_c80 rfl in_X9_labelOf_X9 (by decide) rfl rfl lk_X9_labelOf_21 dX9_labelOf_21 (z_iload_n X 2 dX9_labelOf_24 rfl rfl (z_iload_n X 3 dX9_labelOf_25 rfl rfl (z_callVv X (u1 := r3) [.ref (z_ad g 0), .int a1, .int a2] [] (w_X2_fill l g 0 a1 a2 z_po_0 u er3) z_c86 rfl gX9_labelOf_X2_fill hy_X2_fill rfl (z_le1 hR (by decide)) (z_le2 hR (by decide) (by decide)) (Nat.le_of_ble_eq_true rfl) dX9_labelOf_26 (z_aload_n X 1 dX9_labelOf_29 rfl rfl (z_getR X (k0 := 4) z_c80 rfl in_X9_labelOf_X9 (by decide) rfl rfl lk_X9_labelOf_39 dX9_labelOf_30 (z_iload_n X 4 dX9_labelOf_33 rfl rfl (z_callVi X (r := r4) (u1 := r3) [.int a3] [] (w_X2_hasChain l g a3 r3 er4) z_c86 rfl gX9_labelOf_X2_hasChain hy_X2_hasChain rfl (z_le1 hR (by decide)) (z_le2 hR (by decide) (by decide)) (Nat.le_of_ble_eq_true rfl) dX9_labelOf_34 (z_if_eq X 62 dX9_labelOf_37 (by decide) (fun c5 => ?_) (fun c5 => ?_))))))))))))
    · replace h := z_ip c5 h
      refine z_bipush X (v := (-2)) dX9_labelOf_62 (by decide) ?_
      cases h; exact z_iret X rfl dX9_labelOf_64 ⟨rfl, rfl⟩
    · replace h := z_in c5 h
      refine z_iload X 5 dX9_labelOf_40 rfl (z_if_lt X 62 dX9_labelOf_42 (by decide) (fun c6 => ?_) (fun c6 => ?_))
      · replace h := z_ip c6 h
        refine z_bipush X (v := (-2)) dX9_labelOf_62 (by decide) ?_
        cases h; exact z_iret X rfl dX9_labelOf_64 ⟨rfl, rfl⟩
      · replace h := z_in c6 h
        obtain ⟨b7, h⟩ := z_gs h
        obtain ⟨b8, h⟩ := z_gs h
        refine z_iload X 5 dX9_labelOf_45 rfl (z_aload_n X 1 dX9_labelOf_47 rfl rfl (z_getR X (k0 := 4) z_c80 rfl in_X9_labelOf_X9 (by decide) rfl rfl lk_X9_labelOf_39 dX9_labelOf_48 (z_getR X (k0 := 1) z_c86 rfl in_X9_labelOf_X2 (by decide) rfl rfl lk_X9_labelOf_255 dX9_labelOf_51 (z_iload_n X 4 dX9_labelOf_54 rfl rfl (z_aalC X z_c87 (z_inS b7) dX9_labelOf_55 (z_getI X (k0 := 0) (z_ch (z_ch_of b8)) rfl in_X9_labelOf_X1 (by decide) rfl rfl lk_X9_labelOf_259 dX9_labelOf_56 (z_icmp_lt X 65 dX9_labelOf_59 (by decide) (fun c9 => ?_) (fun c9 => ?_))))))))
        · replace h := z_ip c9 h
          obtain ⟨b10, h⟩ := z_gs h
          obtain ⟨b11, h⟩ := z_gs h
          obtain ⟨b12, h⟩ := z_gs h
          refine z_aload_n X 1 dX9_labelOf_65 rfl rfl (z_getR X (k0 := 4) z_c80 rfl in_X9_labelOf_X9 (by decide) rfl rfl lk_X9_labelOf_39 dX9_labelOf_66 (z_getR X (k0 := 1) z_c86 rfl in_X9_labelOf_X2 (by decide) rfl rfl lk_X9_labelOf_255 dX9_labelOf_69 (z_iload_n X 4 dX9_labelOf_72 rfl rfl (z_aalC X z_c87 (z_inS b10) dX9_labelOf_73 (z_getR X (k0 := 3) (z_ch (z_ch_of b11)) rfl in_X9_labelOf_X1 (by decide) rfl rfl lk_X9_labelOf_267 dX9_labelOf_74 (z_iload X 5 dX9_labelOf_77 rfl (z_iald X (z_chL (z_ch_of b11)) (z_inS b12) dX9_labelOf_79 ?_)))))))
          cases h; exact z_iret X rfl dX9_labelOf_80 ⟨rfl, rfl⟩
        · replace h := z_in c9 h
          refine z_bipush X (v := (-2)) dX9_labelOf_62 (by decide) ?_
          cases h; exact z_iret X rfl dX9_labelOf_64 ⟨rfl, rfl⟩
  · replace h := z_in c2 h
    refine z_iload X 0 dX9_labelOf_13 rfl ?_
    cases h; exact z_iret X rfl dX9_labelOf_15 ⟨rfl, rfl⟩

theorem lk_X9_falls_39 : (Cond.fieldLink RX9 39 RX9 (TX9 4).2.1 (TX9 4).2.2.1) ∈ wsX9_falls := by decide +kernel
theorem in_X9_falls_X9 : ∀ w ∈ u_ws RX9 TX9 9, w ∈ wsX9_falls := fun _ h => List.mem_cons_of_mem _ (List.mem_append_left _ (List.mem_append_left _ (List.mem_append_left _ (List.mem_append_right _ h))))
theorem lk_X9_falls_21 : (Cond.fieldLink RX9 21 RX9 (TX9 1).2.1 (TX9 1).2.2.1) ∈ wsX9_falls := by decide +kernel
theorem lk_X9_falls_255 : (Cond.fieldLink RX9 255 RX2 (TX2 1).2.1 (TX2 1).2.2.1) ∈ wsX9_falls := by decide +kernel
theorem in_X9_falls_X2 : ∀ w ∈ u_ws RX2 TX2 3, w ∈ wsX9_falls := fun _ h => List.mem_cons_of_mem _ (List.mem_append_left _ (List.mem_append_left _ (List.mem_append_right _ h)))
def f_X9_falls (a1 : Int32) (a2 : Int32) (a3 : Int32) (u : z_M) : Option (Int32 × z_M) :=
  Option.bind (f_X9_troubleOf a1 a2 u) (fun r1 => if r1 = 0 then (Option.bind (f_X2_fill 0 a1 a2 u) (fun r3 => Option.bind (f_X2_hasChain a3 r3) (fun r4 => if r4 = 0 then (some ((-2), r3)) else (z_gd (z_inb a3 12) (z_gd (z_isCh (z_gI r3 87 a3.toNatClampNeg).toNatClampNeg) (Option.bind (f_X1_fallSet ((z_gI r3 87 a3.toNatClampNeg).toNatClampNeg) r3) (fun r8 => some (r8, r3)))))))) else (some (r1, u)))
set_option maxRecDepth 20000 in
set_option maxHeartbeats 4000000 in
theorem w_X9_falls (l : Launch) (g : z_G) (a1 : Int32) (a2 : Int32) (a3 : Int32) (u : z_M) {res : Int32 × z_M} (h : f_X9_falls a1 a2 a3 u = some res) : z_C l g z_shC yX9_falls wsX9_falls 21 [.ref (z_ad g 80), .int a1, .int a2, .int a3] u (fun v u' => v = some (.int res.1) ∧ u' = res.2) := by
  refine z_C.mk (lv := [(0, .ref (z_ad g 80)), (1, .int a1), (2, .int a2), (3, .int a3)]) (cc := cX9_falls) (nL := 5) (rt := (some .int)) rfl (by decide) (Nat.le_of_ble_eq_true rfl) rfl (fun p e R s m args below meth c hR X => ?_)
  unfold f_X9_falls at h
  obtain ⟨r1, er1, h⟩ := z_bs h
  refine z_aload_n X 0 dX9_falls_0 rfl rfl (z_iload_n X 1 dX9_falls_1 rfl rfl (z_iload_n X 2 dX9_falls_2 rfl rfl (z_callVi X (r := r1) (u1 := u) [.int a1, .int a2] [] (w_X9_troubleOf l g a1 a2 u er1) z_c80 rfl gX9_falls_X9_troubleOf hy_X9_troubleOf rfl (z_le1 hR (by decide)) (z_le2 hR (by decide) (by decide)) (Nat.le_of_ble_eq_true rfl) dX9_falls_3 (z_istore X [(4, .int r1), (0, .ref (z_ad g 80)), (1, .int a1), (2, .int a2), (3, .int a3)] dX9_falls_6 (by decide) rfl (z_iload X 0 dX9_falls_8 rfl (z_if_eq X 16 dX9_falls_10 (by decide) (fun c2 => ?_) (fun c2 => ?_)))))))
  · replace h := z_ip c2 h
    obtain ⟨r3, er3, h⟩ := z_bs h
    obtain ⟨r4, er4, h⟩ := z_bs h
    refine z_aload_n X 1 dX9_falls_16 rfl rfl (z_getR X (k0 := 4) z_c80 rfl in_X9_falls_X9 (by decide) rfl rfl lk_X9_falls_39 dX9_falls_17 (z_aload_n X 1 dX9_falls_20 rfl rfl (z_getR X (k0 := 1) z_c80 rfl in_X9_falls_X9 (by decide) rfl rfl lk_X9_falls_21 dX9_falls_21 (z_iload_n X 2 dX9_falls_24 rfl rfl (z_iload_n X 3 dX9_falls_25 rfl rfl (z_callVv X (u1 := r3) [.ref (z_ad g 0), .int a1, .int a2] [] (w_X2_fill l g 0 a1 a2 z_po_0 u er3) z_c86 rfl gX9_falls_X2_fill hy_X2_fill rfl (z_le1 hR (by decide)) (z_le2 hR (by decide) (by decide)) (Nat.le_of_ble_eq_true rfl) dX9_falls_26 (z_aload_n X 1 dX9_falls_29 rfl rfl (z_getR X (k0 := 4) z_c80 rfl in_X9_falls_X9 (by decide) rfl rfl lk_X9_falls_39 dX9_falls_30 (z_iload_n X 4 dX9_falls_33 rfl rfl (z_callVi X (r := r4) (u1 := r3) [.int a3] [] (w_X2_hasChain l g a3 r3 er4) z_c86 rfl gX9_falls_X2_hasChain hy_X2_hasChain rfl (z_le1 hR (by decide)) (z_le2 hR (by decide) (by decide)) (Nat.le_of_ble_eq_true rfl) dX9_falls_34 (z_if_eq X 55 dX9_falls_37 (by decide) (fun c5 => ?_) (fun c5 => ?_))))))))))))
    · replace h := z_ip c5 h
      refine z_bipush X (v := (-2)) dX9_falls_55 (by decide) ?_
      cases h; exact z_iret X rfl dX9_falls_57 ⟨rfl, rfl⟩
    · replace h := z_in c5 h
      obtain ⟨b6, h⟩ := z_gs h
      obtain ⟨b7, h⟩ := z_gs h
      obtain ⟨r8, er8, h⟩ := z_bs h
      refine z_aload_n X 1 dX9_falls_40 rfl rfl (z_getR X (k0 := 4) z_c80 rfl in_X9_falls_X9 (by decide) rfl rfl lk_X9_falls_39 dX9_falls_41 (z_getR X (k0 := 1) z_c86 rfl in_X9_falls_X2 (by decide) rfl rfl lk_X9_falls_255 dX9_falls_44 (z_iload_n X 4 dX9_falls_47 rfl rfl (z_aalC X z_c87 (z_inS b6) dX9_falls_48 (z_callVi X (r := r8) (u1 := r3) [] [] (w_X1_fallSet l g ((z_gI r3 87 a3.toNatClampNeg).toNatClampNeg) (z_ch_of b7) r3 er8) (z_ch (z_ch_of b7)) rfl gX9_falls_X1_fallSet hy_X1_fallSet rfl (z_le1 hR (by decide)) (z_le2 hR (by decide) (by decide)) (Nat.le_of_ble_eq_true rfl) dX9_falls_49 (z_goto X 57 dX9_falls_52 (by decide) ?_))))))
      cases h; exact z_iret X rfl dX9_falls_57 ⟨rfl, rfl⟩
  · replace h := z_in c2 h
    refine z_iload X 0 dX9_falls_13 rfl ?_
    cases h; exact z_iret X rfl dX9_falls_15 ⟨rfl, rfl⟩

def f_X9_isPlaceSet (a1 : Int32) : Option (Int32) :=
  if a1 < 0 then (some 0) else (if 512 ≤ a1 then (some 0) else (if (a1 &&& 1) = 0 then (some 1) else (some 0)))
set_option maxRecDepth 20000 in
set_option maxHeartbeats 4000000 in
theorem w_X9_isPlaceSet (l : Launch) (g : z_G) (a1 : Int32) (u : z_M) {res : Int32} (h : f_X9_isPlaceSet a1 = some res) : z_C l g z_shC yX9_isPlaceSet wsX9_isPlaceSet 1 [.int a1] u (fun v u' => v = some (.int res) ∧ u' = u) := by
  refine z_C.mk (lv := [(0, .int a1)]) (cc := cX9_isPlaceSet) (nL := 1) (rt := (some .boolean)) rfl (by decide) (Nat.le_of_ble_eq_true rfl) rfl (fun p e R s m args below meth c hR X => ?_)
  unfold f_X9_isPlaceSet at h
  refine z_iload_n X 0 dX9_isPlaceSet_0 rfl rfl (z_if_lt X 21 dX9_isPlaceSet_1 (by decide) (fun c1 => ?_) (fun c1 => ?_))
  · replace h := z_ip c1 h
    refine z_iconst X (v := 0) dX9_isPlaceSet_21 (by decide) ?_
    cases h; exact z_zret X rfl rfl dX9_isPlaceSet_22 ⟨rfl, rfl⟩
  · replace h := z_in c1 h
    refine z_iload_n X 0 dX9_isPlaceSet_4 rfl rfl (z_sipush X (v := 512) dX9_isPlaceSet_5 (by decide) (z_icmp_ge X 21 dX9_isPlaceSet_8 (by decide) (fun c2 => ?_) (fun c2 => ?_)))
    · replace h := z_ip c2 h
      refine z_iconst X (v := 0) dX9_isPlaceSet_21 (by decide) ?_
      cases h; exact z_zret X rfl rfl dX9_isPlaceSet_22 ⟨rfl, rfl⟩
    · replace h := z_in c2 h
      refine z_iload_n X 0 dX9_isPlaceSet_11 rfl rfl (z_iconst X (v := 1) dX9_isPlaceSet_12 (by decide) (z_iand X dX9_isPlaceSet_13 (z_if_ne X 21 dX9_isPlaceSet_14 (by decide) (fun c3 => ?_) (fun c3 => ?_))))
      · replace h := z_in c3 h
        refine z_iconst X (v := 0) dX9_isPlaceSet_21 (by decide) ?_
        cases h; exact z_zret X rfl rfl dX9_isPlaceSet_22 ⟨rfl, rfl⟩
      · replace h := z_ip c3 h
        refine z_iconst X (v := 1) dX9_isPlaceSet_17 (by decide) (z_goto X 22 dX9_isPlaceSet_18 (by decide) ?_)
        cases h; exact z_zret X rfl rfl dX9_isPlaceSet_22 ⟨rfl, rfl⟩

theorem lk_X9_falling_39 : (Cond.fieldLink RX9 39 RX9 (TX9 4).2.1 (TX9 4).2.2.1) ∈ wsX9_falling := by decide +kernel
theorem in_X9_falling_X9 : ∀ w ∈ u_ws RX9 TX9 9, w ∈ wsX9_falling := fun _ h => List.mem_cons_of_mem _ (List.mem_append_left _ (List.mem_append_left _ (List.mem_append_left _ (List.mem_append_right _ h))))
theorem lk_X9_falling_21 : (Cond.fieldLink RX9 21 RX9 (TX9 1).2.1 (TX9 1).2.2.1) ∈ wsX9_falling := by decide +kernel
theorem hy_X9_isPlaceSet : yX9_isPlaceSet.cls = RX9 ∧ yX9_isPlaceSet.cls ≠ "java/lang/invoke/MethodHandle" ∧ yX9_isPlaceSet.cls ≠ "java/lang/invoke/VarHandle" ∧ (parseMethodDescriptor yX9_isPlaceSet.desc).map (fun d => d.parameters.length) = some 1 := by decide +kernel
def f_X9_falling (a1 : Int32) (a2 : Int32) (a3 : Int32) (u : z_M) : Option (Int32 × z_M) :=
  Option.bind (f_X9_isPlaceSet a3) (fun r1 => if r1 = 0 then (some ((-1), u)) else (Option.bind (f_X9_troubleOf a1 a2 u) (fun r3 => if r3 = 0 then (Option.bind (f_X2_fill 0 a1 a2 u) (fun r5 => Option.bind (f_X2_withFalls a3 r5) (fun r6 => some (r6, r5)))) else (some (r3, u)))))
set_option maxRecDepth 20000 in
set_option maxHeartbeats 4000000 in
theorem w_X9_falling (l : Launch) (g : z_G) (a1 : Int32) (a2 : Int32) (a3 : Int32) (u : z_M) {res : Int32 × z_M} (h : f_X9_falling a1 a2 a3 u = some res) : z_C l g z_shC yX9_falling wsX9_falling 21 [.ref (z_ad g 80), .int a1, .int a2, .int a3] u (fun v u' => v = some (.int res.1) ∧ u' = res.2) := by
  refine z_C.mk (lv := [(0, .ref (z_ad g 80)), (1, .int a1), (2, .int a2), (3, .int a3)]) (cc := cX9_falling) (nL := 5) (rt := (some .int)) rfl (by decide) (Nat.le_of_ble_eq_true rfl) rfl (fun p e R s m args below meth c hR X => ?_)
  unfold f_X9_falling at h
  obtain ⟨r1, er1, h⟩ := z_bs h
  refine z_iload_n X 3 dX9_falling_0 rfl rfl (z_callSi X (r := r1) (u1 := u) [.int a3] [] (w_X9_isPlaceSet l g a3 u er1) gX9_falling_X9_isPlaceSet hy_X9_isPlaceSet.2 rfl (z_le1 hR (by decide)) (z_le2 hR (by decide) (by decide)) (Nat.le_of_ble_eq_true rfl) dX9_falling_1 (z_if_ne X 9 dX9_falling_4 (by decide) (fun c2 => ?_) (fun c2 => ?_)))
  · replace h := z_in c2 h
    obtain ⟨r3, er3, h⟩ := z_bs h
    refine z_aload_n X 0 dX9_falling_9 rfl rfl (z_iload_n X 1 dX9_falling_10 rfl rfl (z_iload_n X 2 dX9_falling_11 rfl rfl (z_callVi X (r := r3) (u1 := u) [.int a1, .int a2] [] (w_X9_troubleOf l g a1 a2 u er3) z_c80 rfl gX9_falling_X9_troubleOf hy_X9_troubleOf rfl (z_le1 hR (by decide)) (z_le2 hR (by decide) (by decide)) (Nat.le_of_ble_eq_true rfl) dX9_falling_12 (z_istore X [(4, .int r3), (0, .ref (z_ad g 80)), (1, .int a1), (2, .int a2), (3, .int a3)] dX9_falling_15 (by decide) rfl (z_iload X 0 dX9_falling_17 rfl (z_if_eq X 25 dX9_falling_19 (by decide) (fun c4 => ?_) (fun c4 => ?_)))))))
    · replace h := z_ip c4 h
      obtain ⟨r5, er5, h⟩ := z_bs h
      obtain ⟨r6, er6, h⟩ := z_bs h
      refine z_aload_n X 1 dX9_falling_25 rfl rfl (z_getR X (k0 := 4) z_c80 rfl in_X9_falling_X9 (by decide) rfl rfl lk_X9_falling_39 dX9_falling_26 (z_aload_n X 1 dX9_falling_29 rfl rfl (z_getR X (k0 := 1) z_c80 rfl in_X9_falling_X9 (by decide) rfl rfl lk_X9_falling_21 dX9_falling_30 (z_iload_n X 2 dX9_falling_33 rfl rfl (z_iload_n X 3 dX9_falling_34 rfl rfl (z_callVv X (u1 := r5) [.ref (z_ad g 0), .int a1, .int a2] [] (w_X2_fill l g 0 a1 a2 z_po_0 u er5) z_c86 rfl gX9_falling_X2_fill hy_X2_fill rfl (z_le1 hR (by decide)) (z_le2 hR (by decide) (by decide)) (Nat.le_of_ble_eq_true rfl) dX9_falling_35 (z_aload_n X 1 dX9_falling_38 rfl rfl (z_getR X (k0 := 4) z_c80 rfl in_X9_falling_X9 (by decide) rfl rfl lk_X9_falling_39 dX9_falling_39 (z_iload_n X 4 dX9_falling_42 rfl rfl (z_callVi X (r := r6) (u1 := r5) [.int a3] [] (w_X2_withFalls l g a3 r5 er6) z_c86 rfl gX9_falling_X2_withFalls hy_X2_withFalls rfl (z_le1 hR (by decide)) (z_le2 hR (by decide) (by decide)) (Nat.le_of_ble_eq_true rfl) dX9_falling_43 ?_))))))))))
      cases h; exact z_iret X rfl dX9_falling_46 ⟨rfl, rfl⟩
    · replace h := z_in c4 h
      refine z_iload X 0 dX9_falling_22 rfl ?_
      cases h; exact z_iret X rfl dX9_falling_24 ⟨rfl, rfl⟩
  · replace h := z_ip c2 h
    refine z_iconst X (v := (-1)) dX9_falling_7 (by decide) ?_
    cases h; exact z_iret X rfl dX9_falling_8 ⟨rfl, rfl⟩

theorem ct279_X9_flag : Cond.constant RX9 279 (-2147483648) ∈ wsX9_flag := by decide +kernel
theorem lk_X9_flag_46 : (Cond.fieldLink RX9 46 RX9 (TX9 5).2.1 (TX9 5).2.2.1) ∈ wsX9_flag := by decide +kernel
theorem in_X9_flag_X9 : ∀ w ∈ u_ws RX9 TX9 9, w ∈ wsX9_flag := fun _ h => List.mem_cons_of_mem _ (List.mem_append_left _ (List.mem_append_left _ (List.mem_append_right _ h)))
theorem lk_X9_flag_21 : (Cond.fieldLink RX9 21 RX9 (TX9 1).2.1 (TX9 1).2.2.1) ∈ wsX9_flag := by decide +kernel
theorem hy_X8_betaOf : yX8_betaOf.cls = RX8 ∧ yX8_betaOf.cls ≠ "java/lang/invoke/MethodHandle" ∧ yX8_betaOf.cls ≠ "java/lang/invoke/VarHandle" ∧ (parseMethodDescriptor yX8_betaOf.desc).map (fun d => d.parameters.length) = some 3 := by decide +kernel
theorem hy_X8_flagOf : yX8_flagOf.cls = RX8 ∧ yX8_flagOf.cls ≠ "java/lang/invoke/MethodHandle" ∧ yX8_flagOf.cls ≠ "java/lang/invoke/VarHandle" ∧ (parseMethodDescriptor yX8_flagOf.desc).map (fun d => d.parameters.length) = some 3 := by decide +kernel
def f_X9_flag (a1 : Int32) (a2 : Int32) (a3 : Int32) (a4 : Int32) (u : z_M) : Option (Int32 × z_M) :=
  Option.bind (f_X9_isPlaceSet a3) (fun r1 => if r1 = 0 then (some ((-2147483648), u)) else (Option.bind (f_X9_troubleOf a1 a2 u) (fun r3 => if r3 = 0 then (Option.bind (f_X6_between 0 a1 a2 u) (fun r5 => Option.bind (f_X8_measure 0 r5 u) (fun r6 => Option.bind (f_X6_innerOf 0 a1 a2 r6) (fun r7 => if a4 = 0 then (z_b2 (f_X8_flagOf 0 r7 a3 r6) (fun r9 u10 => some (r9, u10))) else (z_b2 (f_X8_betaOf 0 r7 a3 r6) (fun r11 u12 => some (r11, u12))))))) else (some ((-2147483648), u)))))
set_option maxRecDepth 20000 in
set_option maxHeartbeats 4000000 in
theorem w_X9_flag (l : Launch) (g : z_G) (a1 : Int32) (a2 : Int32) (a3 : Int32) (a4 : Int32) (u : z_M) {res : Int32 × z_M} (h : f_X9_flag a1 a2 a3 a4 u = some res) : z_C l g z_shC yX9_flag wsX9_flag 5 [.ref (z_ad g 80), .int a1, .int a2, .int a3, .int a4] u (fun v u' => v = some (.int res.1) ∧ u' = res.2) := by
  refine z_C.mk (lv := [(0, .ref (z_ad g 80)), (1, .int a1), (2, .int a2), (3, .int a3), (4, .int a4)]) (cc := cX9_flag) (nL := 6) (rt := (some .int)) rfl (by decide) (Nat.le_of_ble_eq_true rfl) rfl (fun p e R s m args below meth c hR X => ?_)
  unfold f_X9_flag at h
  obtain ⟨r1, er1, h⟩ := z_bs h
  refine z_iload_n X 3 dX9_flag_0 rfl rfl (z_callSi X (r := r1) (u1 := u) [.int a3] [] (w_X9_isPlaceSet l g a3 u er1) gX9_flag_X9_isPlaceSet hy_X9_isPlaceSet.2 rfl (z_le1 hR (by decide)) (z_le2 hR (by decide) (by decide)) (Nat.le_of_ble_eq_true rfl) dX9_flag_1 (z_if_eq X 16 dX9_flag_4 (by decide) (fun c2 => ?_) (fun c2 => ?_)))
  · replace h := z_ip c2 h
    refine z_ldcw X dX9_flag_16 ct279_X9_flag ?_
    cases h; exact z_iret X rfl dX9_flag_19 ⟨rfl, rfl⟩
  · replace h := z_in c2 h
    obtain ⟨r3, er3, h⟩ := z_bs h
    refine z_aload_n X 0 dX9_flag_7 rfl rfl (z_iload_n X 1 dX9_flag_8 rfl rfl (z_iload_n X 2 dX9_flag_9 rfl rfl (z_callVi X (r := r3) (u1 := u) [.int a1, .int a2] [] (w_X9_troubleOf l g a1 a2 u er3) z_c80 rfl gX9_flag_X9_troubleOf hy_X9_troubleOf rfl (z_le1 hR (by decide)) (z_le2 hR (by decide) (by decide)) (Nat.le_of_ble_eq_true rfl) dX9_flag_10 (z_if_eq X 20 dX9_flag_13 (by decide) (fun c4 => ?_) (fun c4 => ?_)))))
    · replace h := z_ip c4 h
      obtain ⟨r5, er5, h⟩ := z_bs h
      obtain ⟨r6, er6, h⟩ := z_bs h
      obtain ⟨r7, er7, h⟩ := z_bs h
      refine z_aload_n X 0 dX9_flag_20 rfl rfl (z_getR X (k0 := 5) z_c80 rfl in_X9_flag_X9 (by decide) rfl rfl lk_X9_flag_46 dX9_flag_21 (z_aload_n X 0 dX9_flag_24 rfl rfl (z_getR X (k0 := 1) z_c80 rfl in_X9_flag_X9 (by decide) rfl rfl lk_X9_flag_21 dX9_flag_25 (z_aload_n X 0 dX9_flag_28 rfl rfl (z_getR X (k0 := 1) z_c80 rfl in_X9_flag_X9 (by decide) rfl rfl lk_X9_flag_21 dX9_flag_29 (z_iload_n X 1 dX9_flag_32 rfl rfl (z_iload_n X 2 dX9_flag_33 rfl rfl (z_callVi X (r := r5) (u1 := u) [.int a1, .int a2] [.ref (z_ad g 0), .ref (z_ad g 125)] (w_X6_between l g 0 a1 a2 z_po_0 u er5) (z_po z_po_0) rfl gX9_flag_X6_between hy_X6_between rfl (z_le1 hR (by decide)) (z_le2 hR (by decide) (by decide)) (Nat.le_of_ble_eq_true rfl) dX9_flag_34 (z_callVv X (u1 := r6) [.ref (z_ad g 0), .int r5] [] (w_X8_measure l g 0 r5 z_po_0 u er6) z_c125 rfl gX9_flag_X8_measure hy_X8_measure rfl (z_le1 hR (by decide)) (z_le2 hR (by decide) (by decide)) (Nat.le_of_ble_eq_true rfl) dX9_flag_37 (z_aload_n X 0 dX9_flag_40 rfl rfl (z_getR X (k0 := 1) z_c80 rfl in_X9_flag_X9 (by decide) rfl rfl lk_X9_flag_21 dX9_flag_41 (z_iload_n X 1 dX9_flag_44 rfl rfl (z_iload_n X 2 dX9_flag_45 rfl rfl (z_callVi X (r := r7) (u1 := r6) [.int a1, .int a2] [] (w_X6_innerOf l g 0 a1 a2 z_po_0 r6 er7) (z_po z_po_0) rfl gX9_flag_X6_innerOf hy_X6_innerOf rfl (z_le1 hR (by decide)) (z_le2 hR (by decide) (by decide)) (Nat.le_of_ble_eq_true rfl) dX9_flag_46 (z_istore X [(5, .int r7), (0, .ref (z_ad g 80)), (1, .int a1), (2, .int a2), (3, .int a3), (4, .int a4)] dX9_flag_49 (by decide) rfl (z_iload X 5 dX9_flag_51 rfl (z_if_eq X 73 dX9_flag_53 (by decide) (fun c8 => ?_) (fun c8 => ?_))))))))))))))))))
      · replace h := z_ip c8 h
        obtain ⟨r9, u10, er9, h⟩ := z_b2s h
        refine z_aload_n X 1 dX9_flag_73 rfl rfl (z_getR X (k0 := 5) z_c80 rfl in_X9_flag_X9 (by decide) rfl rfl lk_X9_flag_46 dX9_flag_74 (z_aload_n X 1 dX9_flag_77 rfl rfl (z_getR X (k0 := 1) z_c80 rfl in_X9_flag_X9 (by decide) rfl rfl lk_X9_flag_21 dX9_flag_78 (z_iload X 0 dX9_flag_81 rfl (z_iload_n X 4 dX9_flag_83 rfl rfl (z_callVi X (r := r9) (u1 := u10) [.ref (z_ad g 0), .int r7, .int a3] [] (w_X8_flagOf l g 0 r7 a3 z_po_0 r6 er9) z_c125 rfl gX9_flag_X8_flagOf hy_X8_flagOf rfl (z_le1 hR (by decide)) (z_le2 hR (by decide) (by decide)) (Nat.le_of_ble_eq_true rfl) dX9_flag_84 ?_))))))
        cases h; exact z_iret X rfl dX9_flag_87 ⟨rfl, rfl⟩
      · replace h := z_in c8 h
        obtain ⟨r11, u12, er11, h⟩ := z_b2s h
        refine z_aload_n X 1 dX9_flag_56 rfl rfl (z_getR X (k0 := 5) z_c80 rfl in_X9_flag_X9 (by decide) rfl rfl lk_X9_flag_46 dX9_flag_57 (z_aload_n X 1 dX9_flag_60 rfl rfl (z_getR X (k0 := 1) z_c80 rfl in_X9_flag_X9 (by decide) rfl rfl lk_X9_flag_21 dX9_flag_61 (z_iload X 0 dX9_flag_64 rfl (z_iload_n X 4 dX9_flag_66 rfl rfl (z_callVi X (r := r11) (u1 := u12) [.ref (z_ad g 0), .int r7, .int a3] [] (w_X8_betaOf l g 0 r7 a3 z_po_0 r6 er11) z_c125 rfl gX9_flag_X8_betaOf hy_X8_betaOf rfl (z_le1 hR (by decide)) (z_le2 hR (by decide) (by decide)) (Nat.le_of_ble_eq_true rfl) dX9_flag_67 (z_goto X 87 dX9_flag_70 (by decide) ?_)))))))
        cases h; exact z_iret X rfl dX9_flag_87 ⟨rfl, rfl⟩
    · replace h := z_in c4 h
      refine z_ldcw X dX9_flag_16 ct279_X9_flag ?_
      cases h; exact z_iret X rfl dX9_flag_19 ⟨rfl, rfl⟩

theorem lk_X9_lexed_39 : (Cond.fieldLink RX9 39 RX9 (TX9 4).2.1 (TX9 4).2.2.1) ∈ wsX9_lexed := by decide +kernel
theorem in_X9_lexed_X9 : ∀ w ∈ u_ws RX9 TX9 9, w ∈ wsX9_lexed := fun _ h => List.mem_cons_of_mem _ (List.mem_append_left _ (List.mem_append_left _ (List.mem_append_left _ (List.mem_append_right _ h))))
theorem lk_X9_lexed_21 : (Cond.fieldLink RX9 21 RX9 (TX9 1).2.1 (TX9 1).2.2.1) ∈ wsX9_lexed := by decide +kernel
theorem hy_X2_isLexed : yX2_isLexed.cls = RX2 ∧ yX2_isLexed.cls ≠ "java/lang/invoke/MethodHandle" ∧ yX2_isLexed.cls ≠ "java/lang/invoke/VarHandle" ∧ (parseMethodDescriptor yX2_isLexed.desc).map (fun d => d.parameters.length) = some 0 := by decide +kernel
def b_X9_lexed_20 (x1 : Int32) : (Int32 × z_M) → ((Int32 × z_M) → Option (Int32 × z_M)) → (z_M → Option (Int32 × z_M)) → Option (Int32 × z_M) := fun q kb kx =>
  if 9 ≤ q.1 then (kx q.2) else (Option.bind (f_X9_troubleOf x1 q.1 q.2) (fun r5 => if r5 = 0 then (Option.bind (f_X2_fill 0 x1 q.1 q.2) (fun r7 => Option.bind (f_X2_isLexed r7) (fun r8 => if r8 = 0 then (some ((10 * x1) + q.1, r7)) else (kb (q.1 + 1, r7))))) else (kb (q.1 + 1, q.2))))
def b_X9_lexed_12  : (Int32 × z_M) → ((Int32 × z_M) → Option (Int32 × z_M)) → (z_M → Option (Int32 × z_M)) → Option (Int32 × z_M) := fun q kb kx =>
  if 9 ≤ q.1 then (kx q.2) else (z_lp (b_X9_lexed_20 q.1) z_F (0, q.2) (fun t10 => kb (q.1 + 1, t10)))
def f_X9_lexed (u : z_M) : Option (Int32 × z_M) :=
  Option.bind (f_X9_isOrder u) (fun r1 => if r1 = 0 then (some ((-2), u)) else (z_lp b_X9_lexed_12 z_F (0, u) (fun t11 => some ((-1), t11))))
set_option maxRecDepth 20000 in
set_option maxHeartbeats 4000000 in
theorem wb_X9_lexed_20 {p : Program} {l : Launch} {e : Env} {R : Room} {s : State} {m : MethodId} {args : Array Value} {below : List Frame} {meth : Method} {c : Code} {g : z_G} {u : z_M} {res : Int32 × z_M} (hR : R = z_rm 21) (X : z_X p R s m args meth c cX9_lexed 3 RX9 wsX9_lexed (some .int) g z_shC) (x1 : Int32) (q : Int32 × z_M) (kb : (Int32 × z_M) → Option (Int32 × z_M)) (kx : z_M → Option (Int32 × z_M)) (hkb : ∀ q, kb q = some res → z_V p l e R s m args below meth c 3 g z_shC (MQ below (z_Qc g z_shC (fun v u' => v = some (.int res.1) ∧ u' = res.2)) args s 0 0 (z_A g z_shC)) 20 [(0, .ref (z_ad g 80)), (1, .int x1), (2, .int q.1)] [] q.2) (hkx : ∀ t, kx t = some res → z_V p l e R s m args below meth c 3 g z_shC (MQ below (z_Qc g z_shC (fun v u' => v = some (.int res.1) ∧ u' = res.2)) args s 0 0 (z_A g z_shC)) 74 [(0, .ref (z_ad g 80)), (1, .int x1)] [] t) (h : b_X9_lexed_20 x1 q kb kx = some res) : z_V p l e R s m args below meth c 3 g z_shC (MQ below (z_Qc g z_shC (fun v u' => v = some (.int res.1) ∧ u' = res.2)) args s 0 0 (z_A g z_shC)) 20 [(0, .ref (z_ad g 80)), (1, .int x1), (2, .int q.1)] [] q.2 := by
  unfold b_X9_lexed_20 at h
  refine z_iload_n X 2 dX9_lexed_20 rfl rfl (z_bipush X (v := 9) dX9_lexed_21 (by decide) (z_icmp_ge X 74 dX9_lexed_23 (by decide) (fun c4 => ?_) (fun c4 => ?_)))
  · replace h := z_ip c4 h
    refine z_sub [0, 1] [(0, .ref (z_ad g 80)), (1, .int x1)] rfl ?_
    exact hkx q.2 h
  · replace h := z_in c4 h
    obtain ⟨r5, er5, h⟩ := z_bs h
    refine z_aload_n X 0 dX9_lexed_26 rfl rfl (z_iload_n X 1 dX9_lexed_27 rfl rfl (z_iload_n X 2 dX9_lexed_28 rfl rfl (z_callVi X (r := r5) (u1 := q.2) [.int x1, .int q.1] [] (w_X9_troubleOf l g x1 q.1 q.2 er5) z_c80 rfl gX9_lexed_X9_troubleOf hy_X9_troubleOf rfl (z_le1 hR (by decide)) (z_le2 hR (by decide) (by decide)) (Nat.le_of_ble_eq_true rfl) dX9_lexed_29 (z_if_eq X 38 dX9_lexed_32 (by decide) (fun c6 => ?_) (fun c6 => ?_)))))
    · replace h := z_ip c6 h
      obtain ⟨r7, er7, h⟩ := z_bs h
      obtain ⟨r8, er8, h⟩ := z_bs h
      refine z_aload_n X 0 dX9_lexed_38 rfl rfl (z_getR X (k0 := 4) z_c80 rfl in_X9_lexed_X9 (by decide) rfl rfl lk_X9_lexed_39 dX9_lexed_39 (z_aload_n X 0 dX9_lexed_42 rfl rfl (z_getR X (k0 := 1) z_c80 rfl in_X9_lexed_X9 (by decide) rfl rfl lk_X9_lexed_21 dX9_lexed_43 (z_iload_n X 1 dX9_lexed_46 rfl rfl (z_iload_n X 2 dX9_lexed_47 rfl rfl (z_callVv X (u1 := r7) [.ref (z_ad g 0), .int x1, .int q.1] [] (w_X2_fill l g 0 x1 q.1 z_po_0 q.2 er7) z_c86 rfl gX9_lexed_X2_fill hy_X2_fill rfl (z_le1 hR (by decide)) (z_le2 hR (by decide) (by decide)) (Nat.le_of_ble_eq_true rfl) dX9_lexed_48 (z_aload_n X 0 dX9_lexed_51 rfl rfl (z_getR X (k0 := 4) z_c80 rfl in_X9_lexed_X9 (by decide) rfl rfl lk_X9_lexed_39 dX9_lexed_52 (z_callVi X (r := r8) (u1 := r7) [] [] (w_X2_isLexed l g r7 er8) z_c86 rfl gX9_lexed_X2_isLexed hy_X2_isLexed rfl (z_le1 hR (by decide)) (z_le2 hR (by decide) (by decide)) (Nat.le_of_ble_eq_true rfl) dX9_lexed_55 (z_if_ne X 68 dX9_lexed_58 (by decide) (fun c9 => ?_) (fun c9 => ?_)))))))))))
      · replace h := z_in c9 h
        refine z_iinc X (v := q.1 + 1) 2 [(2, .int (q.1 + 1)), (0, .ref (z_ad g 80)), (1, .int x1)] dX9_lexed_68 rfl rfl (by decide) rfl (z_goto X 20 dX9_lexed_71 (by decide) (z_sub [1, 2, 0] [(0, .ref (z_ad g 80)), (1, .int x1), (2, .int (q.1 + 1))] rfl ?_))
        exact hkb (q.1 + 1, r7) h
      · replace h := z_ip c9 h
        refine z_bipush X (v := 10) dX9_lexed_61 (by decide) (z_iload_n X 1 dX9_lexed_63 rfl rfl (z_imul X dX9_lexed_64 (z_iload_n X 2 dX9_lexed_65 rfl rfl (z_iadd X dX9_lexed_66 ?_))))
        cases h; exact z_iret X rfl dX9_lexed_67 ⟨rfl, rfl⟩
    · replace h := z_in c6 h
      refine z_goto X 68 dX9_lexed_35 (by decide) (z_iinc X (v := q.1 + 1) 2 [(2, .int (q.1 + 1)), (0, .ref (z_ad g 80)), (1, .int x1)] dX9_lexed_68 rfl rfl (by decide) rfl (z_goto X 20 dX9_lexed_71 (by decide) (z_sub [1, 2, 0] [(0, .ref (z_ad g 80)), (1, .int x1), (2, .int (q.1 + 1))] rfl ?_)))
      exact hkb (q.1 + 1, q.2) h
set_option maxRecDepth 20000 in
set_option maxHeartbeats 4000000 in
theorem wb_X9_lexed_12 {p : Program} {l : Launch} {e : Env} {R : Room} {s : State} {m : MethodId} {args : Array Value} {below : List Frame} {meth : Method} {c : Code} {g : z_G} {u : z_M} {res : Int32 × z_M} (hR : R = z_rm 21) (X : z_X p R s m args meth c cX9_lexed 3 RX9 wsX9_lexed (some .int) g z_shC)  (q : Int32 × z_M) (kb : (Int32 × z_M) → Option (Int32 × z_M)) (kx : z_M → Option (Int32 × z_M)) (hkb : ∀ q, kb q = some res → z_V p l e R s m args below meth c 3 g z_shC (MQ below (z_Qc g z_shC (fun v u' => v = some (.int res.1) ∧ u' = res.2)) args s 0 0 (z_A g z_shC)) 12 [(0, .ref (z_ad g 80)), (1, .int q.1)] [] q.2) (hkx : ∀ t, kx t = some res → z_V p l e R s m args below meth c 3 g z_shC (MQ below (z_Qc g z_shC (fun v u' => v = some (.int res.1) ∧ u' = res.2)) args s 0 0 (z_A g z_shC)) 80 [] [] t) (h : b_X9_lexed_12 q kb kx = some res) : z_V p l e R s m args below meth c 3 g z_shC (MQ below (z_Qc g z_shC (fun v u' => v = some (.int res.1) ∧ u' = res.2)) args s 0 0 (z_A g z_shC)) 12 [(0, .ref (z_ad g 80)), (1, .int q.1)] [] q.2 := by
  unfold b_X9_lexed_12 at h
  refine z_iload_n X 1 dX9_lexed_12 rfl rfl (z_bipush X (v := 9) dX9_lexed_13 (by decide) (z_icmp_ge X 80 dX9_lexed_15 (by decide) (fun c3 => ?_) (fun c3 => ?_)))
  · replace h := z_ip c3 h
    refine z_sub [] [] rfl ?_
    exact hkx q.2 h
  · replace h := z_in c3 h
    refine z_iconst X (v := 0) dX9_lexed_18 (by decide) (z_istore_n X [(2, .int 0), (0, .ref (z_ad g 80)), (1, .int q.1)] dX9_lexed_19 rfl (by decide) rfl (z_sub [1, 2, 0] [(0, .ref (z_ad g 80)), (1, .int q.1), (2, .int 0)] rfl ?_))
    have hw := z_lp_w (fun q9 kb9 kx9 h1 h2 h3 => wb_X9_lexed_20 (l := l) (e := e) (below := below) (u := q.2) hR X q.1 q9 kb9 kx9 h1 h2 h3) z_F _ _ h
    refine hw (fun t10 h => ?_)
    refine z_iinc X (v := q.1 + 1) 1 [(1, .int (q.1 + 1)), (0, .ref (z_ad g 80))] dX9_lexed_74 rfl rfl (by decide) rfl (z_goto X 12 dX9_lexed_77 (by decide) (z_sub [1, 0] [(0, .ref (z_ad g 80)), (1, .int (q.1 + 1))] rfl ?_))
    exact hkb (q.1 + 1, t10) h
set_option maxRecDepth 20000 in
set_option maxHeartbeats 4000000 in
theorem w_X9_lexed (l : Launch) (g : z_G)  (u : z_M) {res : Int32 × z_M} (h : f_X9_lexed u = some res) : z_C l g z_shC yX9_lexed wsX9_lexed 21 [.ref (z_ad g 80)] u (fun v u' => v = some (.int res.1) ∧ u' = res.2) := by
  refine z_C.mk (lv := [(0, .ref (z_ad g 80))]) (cc := cX9_lexed) (nL := 3) (rt := (some .int)) rfl (by decide) (Nat.le_of_ble_eq_true rfl) rfl (fun p e R s m args below meth c hR X => ?_)
  unfold f_X9_lexed at h
  obtain ⟨r1, er1, h⟩ := z_bs h
  refine z_aload_n X 0 dX9_lexed_0 rfl rfl (z_callVi X (r := r1) (u1 := u) [] [] (w_X9_isOrder l g u er1) z_c80 rfl gX9_lexed_X9_isOrder hy_X9_isOrder rfl (z_le1 hR (by decide)) (z_le2 hR (by decide) (by decide)) (Nat.le_of_ble_eq_true rfl) dX9_lexed_1 (z_if_ne X 10 dX9_lexed_4 (by decide) (fun c2 => ?_) (fun c2 => ?_)))
  · replace h := z_in c2 h
    refine z_iconst X (v := 0) dX9_lexed_10 (by decide) (z_istore_n X [(1, .int 0), (0, .ref (z_ad g 80))] dX9_lexed_11 rfl (by decide) rfl (z_sub [1, 0] [(0, .ref (z_ad g 80)), (1, .int 0)] rfl ?_))
    have hw := z_lp_w (fun q9 kb9 kx9 h1 h2 h3 => wb_X9_lexed_12 (l := l) (e := e) (below := below) (u := u) hR X q9 kb9 kx9 h1 h2 h3) z_F _ _ h
    refine hw (fun t11 h => ?_)
    refine z_iconst X (v := (-1)) dX9_lexed_80 (by decide) ?_
    cases h; exact z_iret X rfl dX9_lexed_81 ⟨rfl, rfl⟩
  · replace h := z_ip c2 h
    refine z_bipush X (v := (-2)) dX9_lexed_7 (by decide) ?_
    cases h; exact z_iret X rfl dX9_lexed_9 ⟨rfl, rfl⟩

theorem lk_X9_moebius_46 : (Cond.fieldLink RX9 46 RX9 (TX9 5).2.1 (TX9 5).2.2.1) ∈ wsX9_moebius := by decide +kernel
theorem in_X9_moebius_X9 : ∀ w ∈ u_ws RX9 TX9 9, w ∈ wsX9_moebius := fun _ h => List.mem_cons_of_mem _ (List.mem_append_left _ (List.mem_append_left _ (List.mem_append_right _ h)))
theorem lk_X9_moebius_21 : (Cond.fieldLink RX9 21 RX9 (TX9 1).2.1 (TX9 1).2.2.1) ∈ wsX9_moebius := by decide +kernel
theorem ct279_X9_moebius : Cond.constant RX9 279 (-2147483648) ∈ wsX9_moebius := by decide +kernel
theorem hy_X8_mobius : yX8_mobius.cls = RX8 ∧ yX8_mobius.cls ≠ "java/lang/invoke/MethodHandle" ∧ yX8_mobius.cls ≠ "java/lang/invoke/VarHandle" ∧ (parseMethodDescriptor yX8_mobius.desc).map (fun d => d.parameters.length) = some 4 := by decide +kernel
def f_X9_moebius (a1 : Int32) (a2 : Int32) (u : z_M) : Option (Int32 × z_M) :=
  Option.bind (f_X9_troubleOf a1 a2 u) (fun r1 => if r1 = 0 then (Option.bind (f_X6_between 0 a1 a2 u) (fun r3 => z_b2 (f_X8_mobius 0 a1 a2 r3 u) (fun r4 u5 => some (r4, u5)))) else (some ((-2147483648), u)))
set_option maxRecDepth 20000 in
set_option maxHeartbeats 4000000 in
theorem w_X9_moebius (l : Launch) (g : z_G) (a1 : Int32) (a2 : Int32) (u : z_M) {res : Int32 × z_M} (h : f_X9_moebius a1 a2 u = some res) : z_C l g z_shC yX9_moebius wsX9_moebius 5 [.ref (z_ad g 80), .int a1, .int a2] u (fun v u' => v = some (.int res.1) ∧ u' = res.2) := by
  refine z_C.mk (lv := [(0, .ref (z_ad g 80)), (1, .int a1), (2, .int a2)]) (cc := cX9_moebius) (nL := 3) (rt := (some .int)) rfl (by decide) (Nat.le_of_ble_eq_true rfl) rfl (fun p e R s m args below meth c hR X => ?_)
  unfold f_X9_moebius at h
  obtain ⟨r1, er1, h⟩ := z_bs h
  refine z_aload_n X 0 dX9_moebius_0 rfl rfl (z_iload_n X 1 dX9_moebius_1 rfl rfl (z_iload_n X 2 dX9_moebius_2 rfl rfl (z_callVi X (r := r1) (u1 := u) [.int a1, .int a2] [] (w_X9_troubleOf l g a1 a2 u er1) z_c80 rfl gX9_moebius_X9_troubleOf hy_X9_troubleOf rfl (z_le1 hR (by decide)) (z_le2 hR (by decide) (by decide)) (Nat.le_of_ble_eq_true rfl) dX9_moebius_3 (z_if_eq X 13 dX9_moebius_6 (by decide) (fun c2 => ?_) (fun c2 => ?_)))))
  · replace h := z_ip c2 h
    obtain ⟨r3, er3, h⟩ := z_bs h
    obtain ⟨r4, u5, er4, h⟩ := z_b2s h
    refine z_aload_n X 0 dX9_moebius_13 rfl rfl (z_getR X (k0 := 5) z_c80 rfl in_X9_moebius_X9 (by decide) rfl rfl lk_X9_moebius_46 dX9_moebius_14 (z_aload_n X 0 dX9_moebius_17 rfl rfl (z_getR X (k0 := 1) z_c80 rfl in_X9_moebius_X9 (by decide) rfl rfl lk_X9_moebius_21 dX9_moebius_18 (z_iload_n X 1 dX9_moebius_21 rfl rfl (z_iload_n X 2 dX9_moebius_22 rfl rfl (z_aload_n X 0 dX9_moebius_23 rfl rfl (z_getR X (k0 := 1) z_c80 rfl in_X9_moebius_X9 (by decide) rfl rfl lk_X9_moebius_21 dX9_moebius_24 (z_iload_n X 1 dX9_moebius_27 rfl rfl (z_iload_n X 2 dX9_moebius_28 rfl rfl (z_callVi X (r := r3) (u1 := u) [.int a1, .int a2] [.int a2, .int a1, .ref (z_ad g 0), .ref (z_ad g 125)] (w_X6_between l g 0 a1 a2 z_po_0 u er3) (z_po z_po_0) rfl gX9_moebius_X6_between hy_X6_between rfl (z_le1 hR (by decide)) (z_le2 hR (by decide) (by decide)) (Nat.le_of_ble_eq_true rfl) dX9_moebius_29 (z_callVi X (r := r4) (u1 := u5) [.ref (z_ad g 0), .int a1, .int a2, .int r3] [] (w_X8_mobius l g 0 a1 a2 r3 z_po_0 u er4) z_c125 rfl gX9_moebius_X8_mobius hy_X8_mobius rfl (z_le1 hR (by decide)) (z_le2 hR (by decide) (by decide)) (Nat.le_of_ble_eq_true rfl) dX9_moebius_32 ?_)))))))))))
    cases h; exact z_iret X rfl dX9_moebius_35 ⟨rfl, rfl⟩
  · replace h := z_in c2 h
    refine z_ldcw X dX9_moebius_9 ct279_X9_moebius ?_
    cases h; exact z_iret X rfl dX9_moebius_12 ⟨rfl, rfl⟩

theorem lk_X9_whitney_21 : (Cond.fieldLink RX9 21 RX9 (TX9 1).2.1 (TX9 1).2.2.1) ∈ wsX9_whitney := by decide +kernel
theorem in_X9_whitney_X9 : ∀ w ∈ u_ws RX9 TX9 9, w ∈ wsX9_whitney := fun _ h => List.mem_cons_of_mem _ (List.mem_append_left _ (List.mem_append_left _ (List.mem_append_right _ h)))
theorem ct279_X9_whitney : Cond.constant RX9 279 (-2147483648) ∈ wsX9_whitney := by decide +kernel
theorem lk_X9_whitney_46 : (Cond.fieldLink RX9 46 RX9 (TX9 5).2.1 (TX9 5).2.2.1) ∈ wsX9_whitney := by decide +kernel
theorem lk_X9_whitney_181 : (Cond.fieldLink RX9 181 RX8 (TX8 1).2.1 (TX8 1).2.2.1) ∈ wsX9_whitney := by decide +kernel
theorem in_X9_whitney_X8 : ∀ w ∈ u_ws RX8 TX8 5, w ∈ wsX9_whitney := fun _ h => List.mem_cons_of_mem _ (List.mem_append_left _ (List.mem_append_right _ h))
theorem lk_X9_whitney_300 : (Cond.fieldLink RX9 300 RX8 (TX8 2).2.1 (TX8 2).2.2.1) ∈ wsX9_whitney := by decide +kernel
def b_X9_whitney_73 (x2 : Int32) (x3 : Int32) (x4 : Int32) (u : z_M) : (Int32 × Int32) → ((Int32 × Int32) → Option (Int32 × z_M)) → (Int32 → Option (Int32 × z_M)) → Option (Int32 × z_M) := fun q kb kx =>
  if 9 ≤ q.2 then (kx q.1) else (Option.bind (f_X9_isIn x4 q.2) (fun r11 => if r11 = 0 then (kb (q.1, q.2 + 1)) else (z_gd (z_inb q.2 9) (if (z_gI u 127 q.2.toNatClampNeg) = x2 then (if x3 = 0 then (z_lt (q.1 + 1) (fun v16 => kb (v16, q.2 + 1))) else (z_gd (z_inb q.2 9) (z_lt (q.1 + (z_gI u 128 q.2.toNatClampNeg)) (fun v18 => kb (v18, q.2 + 1))))) else (kb (q.1, q.2 + 1))))))
def f_X9_whitney (a1 : Int32) (a2 : Int32) (a3 : Int32) (u : z_M) : Option (Int32 × z_M) :=
  Option.bind (f_X6_has 0 a1 u) (fun r1 => if r1 = 0 then (some ((-2147483648), u)) else (if a2 < 0 then (some ((-2147483648), u)) else (if a3 < 0 then (some ((-2147483648), u)) else (if a3 ≤ 1 then (Option.bind (f_X6_atLeast 0 a1 u) (fun r6 => Option.bind (f_X8_measure 0 r6 u) (fun r7 => z_b2 (f_X8_mobius 0 a1 a1 r6 r7) (fun r8 u9 => z_lp (b_X9_whitney_73 a2 a3 r6 u9) z_F (0, 0) (fun t19 => some (t19, u9)))))) else (some ((-2147483648), u))))))
set_option maxRecDepth 20000 in
set_option maxHeartbeats 4000000 in
theorem wb_X9_whitney_73 {p : Program} {l : Launch} {e : Env} {R : Room} {s : State} {m : MethodId} {args : Array Value} {below : List Frame} {meth : Method} {c : Code} {g : z_G} {u : z_M} {res : Int32 × z_M} (hR : R = z_rm 5) (X : z_X p R s m args meth c cX9_whitney 7 RX9 wsX9_whitney (some .int) g z_shC) (x2 : Int32) (x3 : Int32) (x4 : Int32) (q : Int32 × Int32) (kb : (Int32 × Int32) → Option (Int32 × z_M)) (kx : Int32 → Option (Int32 × z_M)) (hkb : ∀ q, kb q = some res → z_V p l e R s m args below meth c 7 g z_shC (MQ below (z_Qc g z_shC (fun v u' => v = some (.int res.1) ∧ u' = res.2)) args s 0 0 (z_A g z_shC)) 73 [(0, .ref (z_ad g 80)), (2, .int x2), (3, .int x3), (4, .int x4), (5, .int q.1), (6, .int q.2)] [] u) (hkx : ∀ t, kx t = some res → z_V p l e R s m args below meth c 7 g z_shC (MQ below (z_Qc g z_shC (fun v u' => v = some (.int res.1) ∧ u' = res.2)) args s 0 0 (z_A g z_shC)) 133 [(5, .int t)] [] u) (h : b_X9_whitney_73 x2 x3 x4 u q kb kx = some res) : z_V p l e R s m args below meth c 7 g z_shC (MQ below (z_Qc g z_shC (fun v u' => v = some (.int res.1) ∧ u' = res.2)) args s 0 0 (z_A g z_shC)) 73 [(0, .ref (z_ad g 80)), (2, .int x2), (3, .int x3), (4, .int x4), (5, .int q.1), (6, .int q.2)] [] u := by
  unfold b_X9_whitney_73 at h
  refine z_iload X 5 dX9_whitney_73 rfl (z_bipush X (v := 9) dX9_whitney_75 (by decide) (z_icmp_ge X 133 dX9_whitney_77 (by decide) (fun c10 => ?_) (fun c10 => ?_)))
  · replace h := z_ip c10 h
    refine z_sub [4] [(5, .int q.1)] rfl ?_
    exact hkx q.1 h
  · replace h := z_in c10 h
    obtain ⟨r11, er11, h⟩ := z_bs h
    refine z_iload X 3 dX9_whitney_80 rfl (z_iload X 5 dX9_whitney_82 rfl (z_callSi X (r := r11) (u1 := u) [.int x4, .int q.2] [] (w_X9_isIn l g x4 q.2 u er11) gX9_whitney_X9_isIn hy_X9_isIn.2 rfl (z_le1 hR (by decide)) (z_le2 hR (by decide) (by decide)) (Nat.le_of_ble_eq_true rfl) dX9_whitney_84 (z_if_eq X 127 dX9_whitney_87 (by decide) (fun c12 => ?_) (fun c12 => ?_))))
    · replace h := z_ip c12 h
      refine z_iinc X (v := q.2 + 1) 5 [(6, .int (q.2 + 1)), (0, .ref (z_ad g 80)), (2, .int x2), (3, .int x3), (4, .int x4), (5, .int q.1)] dX9_whitney_127 rfl rfl (by decide) rfl (z_goto X 73 dX9_whitney_130 (by decide) (z_sub [1, 2, 3, 4, 5, 0] [(0, .ref (z_ad g 80)), (2, .int x2), (3, .int x3), (4, .int x4), (5, .int q.1), (6, .int (q.2 + 1))] rfl ?_))
      exact hkb (q.1, q.2 + 1) h
    · replace h := z_in c12 h
      obtain ⟨b13, h⟩ := z_gs h
      refine z_aload_n X 0 dX9_whitney_90 rfl rfl (z_getR X (k0 := 5) z_c80 rfl in_X9_whitney_X9 (by decide) rfl rfl lk_X9_whitney_46 dX9_whitney_91 (z_getR X (k0 := 1) z_c125 rfl in_X9_whitney_X8 (by decide) rfl rfl lk_X9_whitney_181 dX9_whitney_94 (z_iload X 5 dX9_whitney_97 rfl (z_iald X z_c127 (z_inS b13) dX9_whitney_99 (z_iload_n X 1 dX9_whitney_100 rfl rfl (z_icmp_ne X 127 dX9_whitney_101 (by decide) (fun c14 => ?_) (fun c14 => ?_)))))))
      · replace h := z_in c14 h
        refine z_iinc X (v := q.2 + 1) 5 [(6, .int (q.2 + 1)), (0, .ref (z_ad g 80)), (2, .int x2), (3, .int x3), (4, .int x4), (5, .int q.1)] dX9_whitney_127 rfl rfl (by decide) rfl (z_goto X 73 dX9_whitney_130 (by decide) (z_sub [1, 2, 3, 4, 5, 0] [(0, .ref (z_ad g 80)), (2, .int x2), (3, .int x3), (4, .int x4), (5, .int q.1), (6, .int (q.2 + 1))] rfl ?_))
        exact hkb (q.1, q.2 + 1) h
      · replace h := z_ip c14 h
        refine z_iload X 4 dX9_whitney_104 rfl (z_iload_n X 2 dX9_whitney_106 rfl rfl (z_if_ne X 114 dX9_whitney_107 (by decide) (fun c15 => ?_) (fun c15 => ?_)))
        · replace h := z_in c15 h
          obtain ⟨b17, h⟩ := z_gs h
          obtain ⟨v18, ev18, h⟩ := z_ls h
          refine z_aload_n X 0 dX9_whitney_114 rfl rfl (z_getR X (k0 := 5) z_c80 rfl in_X9_whitney_X9 (by decide) rfl rfl lk_X9_whitney_46 dX9_whitney_115 (z_getR X (k0 := 2) z_c125 rfl in_X9_whitney_X8 (by decide) rfl rfl lk_X9_whitney_300 dX9_whitney_118 (z_iload X 5 dX9_whitney_121 rfl (z_iald X z_c128 (z_inS b17) dX9_whitney_123 (z_iadd X dX9_whitney_124 (z_ti ev18 (z_istore X [(5, .int v18), (0, .ref (z_ad g 80)), (2, .int x2), (3, .int x3), (4, .int x4), (6, .int q.2)] dX9_whitney_125 (by decide) rfl (z_iinc X (v := q.2 + 1) 5 [(6, .int (q.2 + 1)), (5, .int v18), (0, .ref (z_ad g 80)), (2, .int x2), (3, .int x3), (4, .int x4)] dX9_whitney_127 rfl rfl (by decide) rfl (z_goto X 73 dX9_whitney_130 (by decide) (z_sub [2, 3, 4, 5, 1, 0] [(0, .ref (z_ad g 80)), (2, .int x2), (3, .int x3), (4, .int x4), (5, .int v18), (6, .int (q.2 + 1))] rfl ?_))))))))))
          exact hkb (v18, q.2 + 1) h
        · replace h := z_ip c15 h
          obtain ⟨v16, ev16, h⟩ := z_ls h
          refine z_iconst X (v := 1) dX9_whitney_110 (by decide) (z_goto X 124 dX9_whitney_111 (by decide) (z_iadd X dX9_whitney_124 (z_ti ev16 (z_istore X [(5, .int v16), (0, .ref (z_ad g 80)), (2, .int x2), (3, .int x3), (4, .int x4), (6, .int q.2)] dX9_whitney_125 (by decide) rfl (z_iinc X (v := q.2 + 1) 5 [(6, .int (q.2 + 1)), (5, .int v16), (0, .ref (z_ad g 80)), (2, .int x2), (3, .int x3), (4, .int x4)] dX9_whitney_127 rfl rfl (by decide) rfl (z_goto X 73 dX9_whitney_130 (by decide) (z_sub [2, 3, 4, 5, 1, 0] [(0, .ref (z_ad g 80)), (2, .int x2), (3, .int x3), (4, .int x4), (5, .int v16), (6, .int (q.2 + 1))] rfl ?_)))))))
          exact hkb (v16, q.2 + 1) h
set_option maxRecDepth 20000 in
set_option maxHeartbeats 4000000 in
theorem w_X9_whitney (l : Launch) (g : z_G) (a1 : Int32) (a2 : Int32) (a3 : Int32) (u : z_M) {res : Int32 × z_M} (h : f_X9_whitney a1 a2 a3 u = some res) : z_C l g z_shC yX9_whitney wsX9_whitney 5 [.ref (z_ad g 80), .int a1, .int a2, .int a3] u (fun v u' => v = some (.int res.1) ∧ u' = res.2) := by
  refine z_C.mk (lv := [(0, .ref (z_ad g 80)), (1, .int a1), (2, .int a2), (3, .int a3)]) (cc := cX9_whitney) (nL := 7) (rt := (some .int)) rfl (by decide) (Nat.le_of_ble_eq_true rfl) rfl (fun p e R s m args below meth c hR X => ?_)
  unfold f_X9_whitney at h
  obtain ⟨r1, er1, h⟩ := z_bs h
  refine z_aload_n X 0 dX9_whitney_0 rfl rfl (z_getR X (k0 := 1) z_c80 rfl in_X9_whitney_X9 (by decide) rfl rfl lk_X9_whitney_21 dX9_whitney_1 (z_iload_n X 1 dX9_whitney_4 rfl rfl (z_callVi X (r := r1) (u1 := u) [.int a1] [] (w_X6_has l g 0 a1 z_po_0 u er1) (z_po z_po_0) rfl gX9_whitney_X6_has hy_X6_has rfl (z_le1 hR (by decide)) (z_le2 hR (by decide) (by decide)) (Nat.le_of_ble_eq_true rfl) dX9_whitney_5 (z_if_eq X 24 dX9_whitney_8 (by decide) (fun c2 => ?_) (fun c2 => ?_)))))
  · replace h := z_ip c2 h
    refine z_ldcw X dX9_whitney_24 ct279_X9_whitney ?_
    cases h; exact z_iret X rfl dX9_whitney_27 ⟨rfl, rfl⟩
  · replace h := z_in c2 h
    refine z_iload_n X 2 dX9_whitney_11 rfl rfl (z_if_lt X 24 dX9_whitney_12 (by decide) (fun c3 => ?_) (fun c3 => ?_))
    · replace h := z_ip c3 h
      refine z_ldcw X dX9_whitney_24 ct279_X9_whitney ?_
      cases h; exact z_iret X rfl dX9_whitney_27 ⟨rfl, rfl⟩
    · replace h := z_in c3 h
      refine z_iload_n X 3 dX9_whitney_15 rfl rfl (z_if_lt X 24 dX9_whitney_16 (by decide) (fun c4 => ?_) (fun c4 => ?_))
      · replace h := z_ip c4 h
        refine z_ldcw X dX9_whitney_24 ct279_X9_whitney ?_
        cases h; exact z_iret X rfl dX9_whitney_27 ⟨rfl, rfl⟩
      · replace h := z_in c4 h
        refine z_iload_n X 3 dX9_whitney_19 rfl rfl (z_iconst X (v := 1) dX9_whitney_20 (by decide) (z_icmp_le X 28 dX9_whitney_21 (by decide) (fun c5 => ?_) (fun c5 => ?_)))
        · replace h := z_ip c5 h
          obtain ⟨r6, er6, h⟩ := z_bs h
          obtain ⟨r7, er7, h⟩ := z_bs h
          obtain ⟨r8, u9, er8, h⟩ := z_b2s h
          refine z_aload_n X 0 dX9_whitney_28 rfl rfl (z_getR X (k0 := 1) z_c80 rfl in_X9_whitney_X9 (by decide) rfl rfl lk_X9_whitney_21 dX9_whitney_29 (z_iload_n X 1 dX9_whitney_32 rfl rfl (z_callVi X (r := r6) (u1 := u) [.int a1] [] (w_X6_atLeast l g 0 a1 z_po_0 u er6) (z_po z_po_0) rfl gX9_whitney_X6_atLeast hy_X6_atLeast rfl (z_le1 hR (by decide)) (z_le2 hR (by decide) (by decide)) (Nat.le_of_ble_eq_true rfl) dX9_whitney_33 (z_istore X [(4, .int r6), (0, .ref (z_ad g 80)), (1, .int a1), (2, .int a2), (3, .int a3)] dX9_whitney_36 (by decide) rfl (z_aload_n X 1 dX9_whitney_38 rfl rfl (z_getR X (k0 := 5) z_c80 rfl in_X9_whitney_X9 (by decide) rfl rfl lk_X9_whitney_46 dX9_whitney_39 (z_aload_n X 1 dX9_whitney_42 rfl rfl (z_getR X (k0 := 1) z_c80 rfl in_X9_whitney_X9 (by decide) rfl rfl lk_X9_whitney_21 dX9_whitney_43 (z_iload X 0 dX9_whitney_46 rfl (z_callVv X (u1 := r7) [.ref (z_ad g 0), .int r6] [] (w_X8_measure l g 0 r6 z_po_0 u er7) z_c125 rfl gX9_whitney_X8_measure hy_X8_measure rfl (z_le1 hR (by decide)) (z_le2 hR (by decide) (by decide)) (Nat.le_of_ble_eq_true rfl) dX9_whitney_48 (z_aload_n X 1 dX9_whitney_51 rfl rfl (z_getR X (k0 := 5) z_c80 rfl in_X9_whitney_X9 (by decide) rfl rfl lk_X9_whitney_46 dX9_whitney_52 (z_aload_n X 1 dX9_whitney_55 rfl rfl (z_getR X (k0 := 1) z_c80 rfl in_X9_whitney_X9 (by decide) rfl rfl lk_X9_whitney_21 dX9_whitney_56 (z_iload_n X 2 dX9_whitney_59 rfl rfl (z_iload_n X 2 dX9_whitney_60 rfl rfl (z_iload X 0 dX9_whitney_61 rfl (z_callVi X (r := r8) (u1 := u9) [.ref (z_ad g 0), .int a1, .int a1, .int r6] [] (w_X8_mobius l g 0 a1 a1 r6 z_po_0 r7 er8) z_c125 rfl gX9_whitney_X8_mobius hy_X8_mobius rfl (z_le1 hR (by decide)) (z_le2 hR (by decide) (by decide)) (Nat.le_of_ble_eq_true rfl) dX9_whitney_63 (z_pop X dX9_whitney_66 rfl (z_iconst X (v := 0) dX9_whitney_67 (by decide) (z_istore X [(5, .int 0), (4, .int r6), (0, .ref (z_ad g 80)), (1, .int a1), (2, .int a2), (3, .int a3)] dX9_whitney_68 (by decide) rfl (z_iconst X (v := 0) dX9_whitney_70 (by decide) (z_istore X [(6, .int 0), (5, .int 0), (4, .int r6), (0, .ref (z_ad g 80)), (1, .int a1), (2, .int a2), (3, .int a3)] dX9_whitney_71 (by decide) rfl (z_sub [3, 5, 6, 2, 1, 0] [(0, .ref (z_ad g 80)), (2, .int a2), (3, .int a3), (4, .int r6), (5, .int 0), (6, .int 0)] rfl ?_))))))))))))))))))))))))
          have hw := z_lp_w (fun q9 kb9 kx9 h1 h2 h3 => wb_X9_whitney_73 (l := l) (e := e) (below := below) (u := u9) hR X a2 a3 r6 q9 kb9 kx9 h1 h2 h3) z_F _ _ h
          refine hw (fun t19 h => ?_)
          refine z_iload X 0 dX9_whitney_133 rfl ?_
          cases h; exact z_iret X rfl dX9_whitney_135 ⟨rfl, rfl⟩
        · replace h := z_in c5 h
          refine z_ldcw X dX9_whitney_24 ct279_X9_whitney ?_
          cases h; exact z_iret X rfl dX9_whitney_27 ⟨rfl, rfl⟩

theorem ct303_X9_zeta : Cond.constantLong RX9 303 (-1) ∈ wsX9_zeta := by decide +kernel
theorem lk_X9_zeta_46 : (Cond.fieldLink RX9 46 RX9 (TX9 5).2.1 (TX9 5).2.2.1) ∈ wsX9_zeta := by decide +kernel
theorem in_X9_zeta_X9 : ∀ w ∈ u_ws RX9 TX9 9, w ∈ wsX9_zeta := fun _ h => List.mem_cons_of_mem _ (List.mem_append_left _ (List.mem_append_left _ (List.mem_append_right _ h)))
theorem lk_X9_zeta_21 : (Cond.fieldLink RX9 21 RX9 (TX9 1).2.1 (TX9 1).2.2.1) ∈ wsX9_zeta := by decide +kernel
theorem ct312_X9_zeta : Cond.constantLong RX9 312 (-3) ∈ wsX9_zeta := by decide +kernel
theorem hy_X8_walk : yX8_walk.cls = RX8 ∧ yX8_walk.cls ≠ "java/lang/invoke/MethodHandle" ∧ yX8_walk.cls ≠ "java/lang/invoke/VarHandle" ∧ (parseMethodDescriptor yX8_walk.desc).map (fun d => d.parameters.length) = some 3 := by decide +kernel
theorem hy_X8_zetaOf : yX8_zetaOf.cls = RX8 ∧ yX8_zetaOf.cls ≠ "java/lang/invoke/MethodHandle" ∧ yX8_zetaOf.cls ≠ "java/lang/invoke/VarHandle" ∧ (parseMethodDescriptor yX8_zetaOf.desc).map (fun d => d.parameters.length) = some 2 := by decide +kernel
def f_X9_zeta (a1 : Int32) (a2 : Int32) (a3 : Int32) (u : z_M) : Option (Int64 × z_M) :=
  if a3 < 1 then (some ((-1), u)) else (if a3 ≤ 1000 then (Option.bind (f_X9_troubleOf a1 a2 u) (fun r3 => if r3 = 0 then (Option.bind (f_X6_between 0 a1 a2 u) (fun r5 => Option.bind (f_X8_walk 0 a1 r5 u) (fun r6 => Option.bind (f_X8_zetaOf a2 a3 r6) (fun r7 => if 0 ≤ (lg_cmp r7 0) then (some (r7, r6)) else (some ((-3), r6)))))) else (some (r3.toInt64, u)))) else (some ((-1), u)))
set_option maxRecDepth 20000 in
set_option maxHeartbeats 4000000 in
theorem w_X9_zeta (l : Launch) (g : z_G) (a1 : Int32) (a2 : Int32) (a3 : Int32) (u : z_M) {res : Int64 × z_M} (h : f_X9_zeta a1 a2 a3 u = some res) : z_C l g z_shC yX9_zeta wsX9_zeta 5 [.ref (z_ad g 80), .int a1, .int a2, .int a3] u (fun v u' => v = some (.long res.1) ∧ u' = res.2) := by
  refine z_C.mk (lv := [(0, .ref (z_ad g 80)), (1, .int a1), (2, .int a2), (3, .int a3)]) (cc := cX9_zeta) (nL := 7) (rt := (some .long)) rfl (by decide) (Nat.le_of_ble_eq_true rfl) rfl (fun p e R s m args below meth c hR X => ?_)
  unfold f_X9_zeta at h
  refine z_iload_n X 3 dX9_zeta_0 rfl rfl (z_iconst X (v := 1) dX9_zeta_1 (by decide) (z_icmp_lt X 12 dX9_zeta_2 (by decide) (fun c1 => ?_) (fun c1 => ?_)))
  · replace h := z_ip c1 h
    refine z_ldc2 X dX9_zeta_12 ct303_X9_zeta ?_
    cases h; exact z_lret X rfl dX9_zeta_15 ⟨rfl, rfl⟩
  · replace h := z_in c1 h
    refine z_iload_n X 3 dX9_zeta_5 rfl rfl (z_sipush X (v := 1000) dX9_zeta_6 (by decide) (z_icmp_le X 16 dX9_zeta_9 (by decide) (fun c2 => ?_) (fun c2 => ?_)))
    · replace h := z_ip c2 h
      obtain ⟨r3, er3, h⟩ := z_bs h
      refine z_aload_n X 0 dX9_zeta_16 rfl rfl (z_iload_n X 1 dX9_zeta_17 rfl rfl (z_iload_n X 2 dX9_zeta_18 rfl rfl (z_callVi X (r := r3) (u1 := u) [.int a1, .int a2] [] (w_X9_troubleOf l g a1 a2 u er3) z_c80 rfl gX9_zeta_X9_troubleOf hy_X9_troubleOf rfl (z_le1 hR (by decide)) (z_le2 hR (by decide) (by decide)) (Nat.le_of_ble_eq_true rfl) dX9_zeta_19 (z_istore X [(4, .int r3), (0, .ref (z_ad g 80)), (1, .int a1), (2, .int a2), (3, .int a3)] dX9_zeta_22 (by decide) rfl (z_iload X 0 dX9_zeta_24 rfl (z_if_eq X 33 dX9_zeta_26 (by decide) (fun c4 => ?_) (fun c4 => ?_)))))))
      · replace h := z_ip c4 h
        obtain ⟨r5, er5, h⟩ := z_bs h
        obtain ⟨r6, er6, h⟩ := z_bs h
        obtain ⟨r7, er7, h⟩ := z_bs h
        refine z_aload_n X 1 dX9_zeta_33 rfl rfl (z_getR X (k0 := 5) z_c80 rfl in_X9_zeta_X9 (by decide) rfl rfl lk_X9_zeta_46 dX9_zeta_34 (z_aload_n X 1 dX9_zeta_37 rfl rfl (z_getR X (k0 := 1) z_c80 rfl in_X9_zeta_X9 (by decide) rfl rfl lk_X9_zeta_21 dX9_zeta_38 (z_iload_n X 2 dX9_zeta_41 rfl rfl (z_aload_n X 1 dX9_zeta_42 rfl rfl (z_getR X (k0 := 1) z_c80 rfl in_X9_zeta_X9 (by decide) rfl rfl lk_X9_zeta_21 dX9_zeta_43 (z_iload_n X 2 dX9_zeta_46 rfl rfl (z_iload_n X 3 dX9_zeta_47 rfl rfl (z_callVi X (r := r5) (u1 := u) [.int a1, .int a2] [.int a1, .ref (z_ad g 0), .ref (z_ad g 125)] (w_X6_between l g 0 a1 a2 z_po_0 u er5) (z_po z_po_0) rfl gX9_zeta_X6_between hy_X6_between rfl (z_le1 hR (by decide)) (z_le2 hR (by decide) (by decide)) (Nat.le_of_ble_eq_true rfl) dX9_zeta_48 (z_callVv X (u1 := r6) [.ref (z_ad g 0), .int a1, .int r5] [] (w_X8_walk l g 0 a1 r5 z_po_0 u er6) z_c125 rfl gX9_zeta_X8_walk hy_X8_walk rfl (z_le1 hR (by decide)) (z_le2 hR (by decide) (by decide)) (Nat.le_of_ble_eq_true rfl) dX9_zeta_51 (z_aload_n X 1 dX9_zeta_54 rfl rfl (z_getR X (k0 := 5) z_c80 rfl in_X9_zeta_X9 (by decide) rfl rfl lk_X9_zeta_46 dX9_zeta_55 (z_iload_n X 3 dX9_zeta_58 rfl rfl (z_iload_n X 4 dX9_zeta_59 rfl rfl (z_callVl X (r := r7) (u1 := r6) [.int a2, .int a3] [] (w_X8_zetaOf l g a2 a3 r6 er7) z_c125 rfl gX9_zeta_X8_zetaOf hy_X8_zetaOf rfl (z_le1 hR (by decide)) (z_le2 hR (by decide) (by decide)) (Nat.le_of_ble_eq_true rfl) dX9_zeta_60 (z_lstore X [(5, .long r7), (4, .int r3), (0, .ref (z_ad g 80)), (1, .int a1), (2, .int a2), (3, .int a3)] dX9_zeta_63 (by decide) rfl (z_lload X 0 dX9_zeta_65 rfl (z_lconst X (v := 0) dX9_zeta_67 (by decide) (z_lcmp X dX9_zeta_68 (z_if_ge X 78 dX9_zeta_69 (by decide) (fun c8 => ?_) (fun c8 => ?_)))))))))))))))))))))
        · replace h := z_ip c8 h
          refine z_lload X 0 dX9_zeta_78 rfl ?_
          cases h; exact z_lret X rfl dX9_zeta_80 ⟨rfl, rfl⟩
        · replace h := z_in c8 h
          refine z_ldc2 X dX9_zeta_72 ct312_X9_zeta (z_goto X 80 dX9_zeta_75 (by decide) ?_)
          cases h; exact z_lret X rfl dX9_zeta_80 ⟨rfl, rfl⟩
      · replace h := z_in c4 h
        refine z_iload X 0 dX9_zeta_29 rfl (z_i2l X dX9_zeta_31 ?_)
        cases h; exact z_lret X rfl dX9_zeta_32 ⟨rfl, rfl⟩
    · replace h := z_in c2 h
      refine z_ldc2 X dX9_zeta_12 ct303_X9_zeta ?_
      cases h; exact z_lret X rfl dX9_zeta_15 ⟨rfl, rfl⟩

theorem lk_X9_steps_46 : (Cond.fieldLink RX9 46 RX9 (TX9 5).2.1 (TX9 5).2.2.1) ∈ wsX9_steps := by decide +kernel
theorem in_X9_steps_X9 : ∀ w ∈ u_ws RX9 TX9 9, w ∈ wsX9_steps := fun _ h => List.mem_cons_of_mem _ (List.mem_append_left _ (List.mem_append_left _ (List.mem_append_right _ h)))
theorem lk_X9_steps_21 : (Cond.fieldLink RX9 21 RX9 (TX9 1).2.1 (TX9 1).2.2.1) ∈ wsX9_steps := by decide +kernel
def f_X9_steps (a1 : Int32) (a2 : Int32) (a3 : Int32) (u : z_M) : Option (Int32 × z_M) :=
  if 0 ≤ a3 then (Option.bind (f_X9_troubleOf a1 a2 u) (fun r2 => if r2 = 0 then (Option.bind (f_X6_between 0 a1 a2 u) (fun r4 => Option.bind (f_X8_walk 0 a1 r4 u) (fun r5 => Option.bind (f_X8_walksTo a2 a3 r5) (fun r6 => some (r6, r5))))) else (some (r2, u)))) else (some ((-1), u))
set_option maxRecDepth 20000 in
set_option maxHeartbeats 4000000 in
theorem w_X9_steps (l : Launch) (g : z_G) (a1 : Int32) (a2 : Int32) (a3 : Int32) (u : z_M) {res : Int32 × z_M} (h : f_X9_steps a1 a2 a3 u = some res) : z_C l g z_shC yX9_steps wsX9_steps 5 [.ref (z_ad g 80), .int a1, .int a2, .int a3] u (fun v u' => v = some (.int res.1) ∧ u' = res.2) := by
  refine z_C.mk (lv := [(0, .ref (z_ad g 80)), (1, .int a1), (2, .int a2), (3, .int a3)]) (cc := cX9_steps) (nL := 5) (rt := (some .int)) rfl (by decide) (Nat.le_of_ble_eq_true rfl) rfl (fun p e R s m args below meth c hR X => ?_)
  unfold f_X9_steps at h
  refine z_iload_n X 3 dX9_steps_0 rfl rfl (z_if_ge X 6 dX9_steps_1 (by decide) (fun c1 => ?_) (fun c1 => ?_))
  · replace h := z_ip c1 h
    obtain ⟨r2, er2, h⟩ := z_bs h
    refine z_aload_n X 0 dX9_steps_6 rfl rfl (z_iload_n X 1 dX9_steps_7 rfl rfl (z_iload_n X 2 dX9_steps_8 rfl rfl (z_callVi X (r := r2) (u1 := u) [.int a1, .int a2] [] (w_X9_troubleOf l g a1 a2 u er2) z_c80 rfl gX9_steps_X9_troubleOf hy_X9_troubleOf rfl (z_le1 hR (by decide)) (z_le2 hR (by decide) (by decide)) (Nat.le_of_ble_eq_true rfl) dX9_steps_9 (z_istore X [(4, .int r2), (0, .ref (z_ad g 80)), (1, .int a1), (2, .int a2), (3, .int a3)] dX9_steps_12 (by decide) rfl (z_iload X 0 dX9_steps_14 rfl (z_if_eq X 22 dX9_steps_16 (by decide) (fun c3 => ?_) (fun c3 => ?_)))))))
    · replace h := z_ip c3 h
      obtain ⟨r4, er4, h⟩ := z_bs h
      obtain ⟨r5, er5, h⟩ := z_bs h
      obtain ⟨r6, er6, h⟩ := z_bs h
      refine z_aload_n X 1 dX9_steps_22 rfl rfl (z_getR X (k0 := 5) z_c80 rfl in_X9_steps_X9 (by decide) rfl rfl lk_X9_steps_46 dX9_steps_23 (z_aload_n X 1 dX9_steps_26 rfl rfl (z_getR X (k0 := 1) z_c80 rfl in_X9_steps_X9 (by decide) rfl rfl lk_X9_steps_21 dX9_steps_27 (z_iload_n X 2 dX9_steps_30 rfl rfl (z_aload_n X 1 dX9_steps_31 rfl rfl (z_getR X (k0 := 1) z_c80 rfl in_X9_steps_X9 (by decide) rfl rfl lk_X9_steps_21 dX9_steps_32 (z_iload_n X 2 dX9_steps_35 rfl rfl (z_iload_n X 3 dX9_steps_36 rfl rfl (z_callVi X (r := r4) (u1 := u) [.int a1, .int a2] [.int a1, .ref (z_ad g 0), .ref (z_ad g 125)] (w_X6_between l g 0 a1 a2 z_po_0 u er4) (z_po z_po_0) rfl gX9_steps_X6_between hy_X6_between rfl (z_le1 hR (by decide)) (z_le2 hR (by decide) (by decide)) (Nat.le_of_ble_eq_true rfl) dX9_steps_37 (z_callVv X (u1 := r5) [.ref (z_ad g 0), .int a1, .int r4] [] (w_X8_walk l g 0 a1 r4 z_po_0 u er5) z_c125 rfl gX9_steps_X8_walk hy_X8_walk rfl (z_le1 hR (by decide)) (z_le2 hR (by decide) (by decide)) (Nat.le_of_ble_eq_true rfl) dX9_steps_40 (z_aload_n X 1 dX9_steps_43 rfl rfl (z_getR X (k0 := 5) z_c80 rfl in_X9_steps_X9 (by decide) rfl rfl lk_X9_steps_46 dX9_steps_44 (z_iload_n X 3 dX9_steps_47 rfl rfl (z_iload_n X 4 dX9_steps_48 rfl rfl (z_callVi X (r := r6) (u1 := r5) [.int a2, .int a3] [] (w_X8_walksTo l g a2 a3 r5 er6) z_c125 rfl gX9_steps_X8_walksTo hy_X8_walksTo rfl (z_le1 hR (by decide)) (z_le2 hR (by decide) (by decide)) (Nat.le_of_ble_eq_true rfl) dX9_steps_49 ?_)))))))))))))))
      cases h; exact z_iret X rfl dX9_steps_52 ⟨rfl, rfl⟩
    · replace h := z_in c3 h
      refine z_iload X 0 dX9_steps_19 rfl ?_
      cases h; exact z_iret X rfl dX9_steps_21 ⟨rfl, rfl⟩
  · replace h := z_in c1 h
    refine z_iconst X (v := (-1)) dX9_steps_4 (by decide) ?_
    cases h; exact z_iret X rfl dX9_steps_5 ⟨rfl, rfl⟩

def f_X9_troubleWithin (a1 : Int32) (a2 : Int32) (u : z_M) : Option (Int32) :=
  Option.bind (f_X9_troubleOf a1 a2 u) (fun r1 => if r1 = 0 then (if a1 = a2 then (some (-2)) else (some r1)) else (some r1))
set_option maxRecDepth 20000 in
set_option maxHeartbeats 4000000 in
theorem w_X9_troubleWithin (l : Launch) (g : z_G) (a1 : Int32) (a2 : Int32) (u : z_M) {res : Int32} (h : f_X9_troubleWithin a1 a2 u = some res) : z_C l g z_shC yX9_troubleWithin wsX9_troubleWithin 5 [.ref (z_ad g 80), .int a1, .int a2] u (fun v u' => v = some (.int res) ∧ u' = u) := by
  refine z_C.mk (lv := [(0, .ref (z_ad g 80)), (1, .int a1), (2, .int a2)]) (cc := cX9_troubleWithin) (nL := 4) (rt := (some .int)) rfl (by decide) (Nat.le_of_ble_eq_true rfl) rfl (fun p e R s m args below meth c hR X => ?_)
  unfold f_X9_troubleWithin at h
  obtain ⟨r1, er1, h⟩ := z_bs h
  refine z_aload_n X 0 dX9_troubleWithin_0 rfl rfl (z_iload_n X 1 dX9_troubleWithin_1 rfl rfl (z_iload_n X 2 dX9_troubleWithin_2 rfl rfl (z_callVi X (r := r1) (u1 := u) [.int a1, .int a2] [] (w_X9_troubleOf l g a1 a2 u er1) z_c80 rfl gX9_troubleWithin_X9_troubleOf hy_X9_troubleOf rfl (z_le1 hR (by decide)) (z_le2 hR (by decide) (by decide)) (Nat.le_of_ble_eq_true rfl) dX9_troubleWithin_3 (z_istore_n X [(3, .int r1), (0, .ref (z_ad g 80)), (1, .int a1), (2, .int a2)] dX9_troubleWithin_6 rfl (by decide) rfl (z_iload_n X 0 dX9_troubleWithin_7 rfl rfl (z_if_ne X 21 dX9_troubleWithin_8 (by decide) (fun c2 => ?_) (fun c2 => ?_)))))))
  · replace h := z_in c2 h
    refine z_iload_n X 0 dX9_troubleWithin_21 rfl rfl ?_
    cases h; exact z_iret X rfl dX9_troubleWithin_22 ⟨rfl, rfl⟩
  · replace h := z_ip c2 h
    refine z_iload_n X 2 dX9_troubleWithin_11 rfl rfl (z_iload_n X 3 dX9_troubleWithin_12 rfl rfl (z_icmp_ne X 21 dX9_troubleWithin_13 (by decide) (fun c3 => ?_) (fun c3 => ?_)))
    · replace h := z_in c3 h
      refine z_iload_n X 0 dX9_troubleWithin_21 rfl rfl ?_
      cases h; exact z_iret X rfl dX9_troubleWithin_22 ⟨rfl, rfl⟩
    · replace h := z_ip c3 h
      refine z_bipush X (v := (-2)) dX9_troubleWithin_16 (by decide) (z_goto X 22 dX9_troubleWithin_18 (by decide) ?_)
      cases h; exact z_iret X rfl dX9_troubleWithin_22 ⟨rfl, rfl⟩

theorem lk_X9_faces_46 : (Cond.fieldLink RX9 46 RX9 (TX9 5).2.1 (TX9 5).2.2.1) ∈ wsX9_faces := by decide +kernel
theorem in_X9_faces_X9 : ∀ w ∈ u_ws RX9 TX9 9, w ∈ wsX9_faces := fun _ h => List.mem_cons_of_mem _ (List.mem_append_left _ (List.mem_append_left _ (List.mem_append_right _ h)))
theorem lk_X9_faces_21 : (Cond.fieldLink RX9 21 RX9 (TX9 1).2.1 (TX9 1).2.2.1) ∈ wsX9_faces := by decide +kernel
theorem hy_X9_troubleWithin : yX9_troubleWithin.cls = RX9 ∧ yX9_troubleWithin.cls ≠ "java/lang/invoke/MethodHandle" ∧ yX9_troubleWithin.cls ≠ "java/lang/invoke/VarHandle" ∧ (parseMethodDescriptor yX9_troubleWithin.desc).map (fun d => d.parameters.length) = some 2 := by decide +kernel
def f_X9_faces (a1 : Int32) (a2 : Int32) (a3 : Int32) (u : z_M) : Option (Int32 × z_M) :=
  if (-1) ≤ a3 then (Option.bind (f_X9_troubleWithin a1 a2 u) (fun r2 => if r2 = 0 then (if a3 ≤ 8 then (Option.bind (f_X6_between 0 a1 a2 u) (fun r5 => Option.bind (f_X8_walk 0 a1 r5 u) (fun r6 => Option.bind (f_X8_walksTo a2 (a3 + 2) r6) (fun r7 => some (r7, r6))))) else (some (0, u))) else (some (r2, u)))) else (some ((-1), u))
set_option maxRecDepth 20000 in
set_option maxHeartbeats 4000000 in
theorem w_X9_faces (l : Launch) (g : z_G) (a1 : Int32) (a2 : Int32) (a3 : Int32) (u : z_M) {res : Int32 × z_M} (h : f_X9_faces a1 a2 a3 u = some res) : z_C l g z_shC yX9_faces wsX9_faces 6 [.ref (z_ad g 80), .int a1, .int a2, .int a3] u (fun v u' => v = some (.int res.1) ∧ u' = res.2) := by
  refine z_C.mk (lv := [(0, .ref (z_ad g 80)), (1, .int a1), (2, .int a2), (3, .int a3)]) (cc := cX9_faces) (nL := 5) (rt := (some .int)) rfl (by decide) (Nat.le_of_ble_eq_true rfl) rfl (fun p e R s m args below meth c hR X => ?_)
  unfold f_X9_faces at h
  refine z_iload_n X 3 dX9_faces_0 rfl rfl (z_iconst X (v := (-1)) dX9_faces_1 (by decide) (z_icmp_ge X 7 dX9_faces_2 (by decide) (fun c1 => ?_) (fun c1 => ?_)))
  · replace h := z_ip c1 h
    obtain ⟨r2, er2, h⟩ := z_bs h
    refine z_aload_n X 0 dX9_faces_7 rfl rfl (z_iload_n X 1 dX9_faces_8 rfl rfl (z_iload_n X 2 dX9_faces_9 rfl rfl (z_callVi X (r := r2) (u1 := u) [.int a1, .int a2] [] (w_X9_troubleWithin l g a1 a2 u er2) z_c80 rfl gX9_faces_X9_troubleWithin hy_X9_troubleWithin rfl (z_le1 hR (by decide)) (z_le2 hR (by decide) (by decide)) (Nat.le_of_ble_eq_true rfl) dX9_faces_10 (z_istore X [(4, .int r2), (0, .ref (z_ad g 80)), (1, .int a1), (2, .int a2), (3, .int a3)] dX9_faces_13 (by decide) rfl (z_iload X 0 dX9_faces_15 rfl (z_if_eq X 23 dX9_faces_17 (by decide) (fun c3 => ?_) (fun c3 => ?_)))))))
    · replace h := z_ip c3 h
      refine z_iload_n X 4 dX9_faces_23 rfl rfl (z_bipush X (v := 8) dX9_faces_24 (by decide) (z_icmp_le X 31 dX9_faces_26 (by decide) (fun c4 => ?_) (fun c4 => ?_)))
      · replace h := z_ip c4 h
        obtain ⟨r5, er5, h⟩ := z_bs h
        obtain ⟨r6, er6, h⟩ := z_bs h
        obtain ⟨r7, er7, h⟩ := z_bs h
        refine z_aload_n X 1 dX9_faces_31 rfl rfl (z_getR X (k0 := 5) z_c80 rfl in_X9_faces_X9 (by decide) rfl rfl lk_X9_faces_46 dX9_faces_32 (z_aload_n X 1 dX9_faces_35 rfl rfl (z_getR X (k0 := 1) z_c80 rfl in_X9_faces_X9 (by decide) rfl rfl lk_X9_faces_21 dX9_faces_36 (z_iload_n X 2 dX9_faces_39 rfl rfl (z_aload_n X 1 dX9_faces_40 rfl rfl (z_getR X (k0 := 1) z_c80 rfl in_X9_faces_X9 (by decide) rfl rfl lk_X9_faces_21 dX9_faces_41 (z_iload_n X 2 dX9_faces_44 rfl rfl (z_iload_n X 3 dX9_faces_45 rfl rfl (z_callVi X (r := r5) (u1 := u) [.int a1, .int a2] [.int a1, .ref (z_ad g 0), .ref (z_ad g 125)] (w_X6_between l g 0 a1 a2 z_po_0 u er5) (z_po z_po_0) rfl gX9_faces_X6_between hy_X6_between rfl (z_le1 hR (by decide)) (z_le2 hR (by decide) (by decide)) (Nat.le_of_ble_eq_true rfl) dX9_faces_46 (z_callVv X (u1 := r6) [.ref (z_ad g 0), .int a1, .int r5] [] (w_X8_walk l g 0 a1 r5 z_po_0 u er6) z_c125 rfl gX9_faces_X8_walk hy_X8_walk rfl (z_le1 hR (by decide)) (z_le2 hR (by decide) (by decide)) (Nat.le_of_ble_eq_true rfl) dX9_faces_49 (z_aload_n X 1 dX9_faces_52 rfl rfl (z_getR X (k0 := 5) z_c80 rfl in_X9_faces_X9 (by decide) rfl rfl lk_X9_faces_46 dX9_faces_53 (z_iload_n X 3 dX9_faces_56 rfl rfl (z_iload_n X 4 dX9_faces_57 rfl rfl (z_iconst X (v := 2) dX9_faces_58 (by decide) (z_iadd X dX9_faces_59 (z_callVi X (r := r7) (u1 := r6) [.int a2, .int (a3 + 2)] [] (w_X8_walksTo l g a2 (a3 + 2) r6 er7) z_c125 rfl gX9_faces_X8_walksTo hy_X8_walksTo rfl (z_le1 hR (by decide)) (z_le2 hR (by decide) (by decide)) (Nat.le_of_ble_eq_true rfl) dX9_faces_60 ?_)))))))))))))))))
        cases h; exact z_iret X rfl dX9_faces_63 ⟨rfl, rfl⟩
      · replace h := z_in c4 h
        refine z_iconst X (v := 0) dX9_faces_29 (by decide) ?_
        cases h; exact z_iret X rfl dX9_faces_30 ⟨rfl, rfl⟩
    · replace h := z_in c3 h
      refine z_iload X 0 dX9_faces_20 rfl ?_
      cases h; exact z_iret X rfl dX9_faces_22 ⟨rfl, rfl⟩
  · replace h := z_in c1 h
    refine z_iconst X (v := (-1)) dX9_faces_5 (by decide) ?_
    cases h; exact z_iret X rfl dX9_faces_6 ⟨rfl, rfl⟩

theorem lk_X9_holes_21 : (Cond.fieldLink RX9 21 RX9 (TX9 1).2.1 (TX9 1).2.2.1) ∈ wsX9_holes := by decide +kernel
theorem in_X9_holes_X9 : ∀ w ∈ u_ws RX9 TX9 9, w ∈ wsX9_holes := fun _ h => List.mem_cons_of_mem _ (List.mem_append_left _ (List.mem_append_left _ (List.mem_append_right _ h)))
theorem lk_X9_holes_60 : (Cond.fieldLink RX9 60 RX9 (TX9 7).2.1 (TX9 7).2.2.1) ∈ wsX9_holes := by decide +kernel
theorem hy_X3_rank : yX3_rank.cls = RX3 ∧ yX3_rank.cls ≠ "java/lang/invoke/MethodHandle" ∧ yX3_rank.cls ≠ "java/lang/invoke/VarHandle" ∧ (parseMethodDescriptor yX3_rank.desc).map (fun d => d.parameters.length) = some 4 := by decide +kernel
def j_X9_holes_j32 (x1 : Int32) (x2 : Int32) (x3 : Int32) (x4 : Int32) (w : z_M) : Option (Int32 × z_M) :=
  Option.bind (f_X9_troubleWithin x1 x2 w) (fun r3 => if r3 = 0 then (if x3 ≤ 8 then (Option.bind (f_X6_innerOf 0 x1 x2 w) (fun r6 => z_lt (x3 + 1) (fun v7 => z_b2 (f_X3_list 0 r6 v7 w) (fun r8 u9 => z_b2 (f_X3_rank 0 r6 v7 x4 u9) (fun r10 u11 => z_b2 (f_X3_rank 0 r6 (v7 + 1) x4 u11) (fun r12 u13 => some ((r8 - r10) - r12, u13))))))) else (some (0, w))) else (some (r3, w)))
def f_X9_holes (a1 : Int32) (a2 : Int32) (a3 : Int32) (a4 : Int32) (u : z_M) : Option (Int32 × z_M) :=
  if a3 < (-1) then (some ((-1), u)) else (if a4 = 2 then (j_X9_holes_j32 a1 a2 a3 a4 u) else (if a4 = 3 then (j_X9_holes_j32 a1 a2 a3 a4 u) else (if a4 = 5 then (j_X9_holes_j32 a1 a2 a3 a4 u) else (if a4 = 7 then (j_X9_holes_j32 a1 a2 a3 a4 u) else (some ((-1), u))))))
set_option maxRecDepth 20000 in
set_option maxHeartbeats 4000000 in
theorem wj_X9_holes_j32 {p : Program} {l : Launch} {e : Env} {R : Room} {s : State} {m : MethodId} {args : Array Value} {below : List Frame} {meth : Method} {c : Code} {g : z_G} {u : z_M} {res : Int32 × z_M} (hR : R = z_rm 6) (X : z_X p R s m args meth c cX9_holes 8 RX9 wsX9_holes (some .int) g z_shC) (x1 : Int32) (x2 : Int32) (x3 : Int32) (x4 : Int32) (w : z_M) (h : j_X9_holes_j32 x1 x2 x3 x4 w = some res) : z_V p l e R s m args below meth c 8 g z_shC (MQ below (z_Qc g z_shC (fun v u' => v = some (.int res.1) ∧ u' = res.2)) args s 0 0 (z_A g z_shC)) 32 [(0, .ref (z_ad g 80)), (1, .int x1), (2, .int x2), (3, .int x3), (4, .int x4)] [] w := by
  unfold j_X9_holes_j32 at h
  obtain ⟨r3, er3, h⟩ := z_bs h
  refine z_aload_n X 0 dX9_holes_32 rfl rfl (z_iload_n X 1 dX9_holes_33 rfl rfl (z_iload_n X 2 dX9_holes_34 rfl rfl (z_callVi X (r := r3) (u1 := w) [.int x1, .int x2] [] (w_X9_troubleWithin l g x1 x2 w er3) z_c80 rfl gX9_holes_X9_troubleWithin hy_X9_troubleWithin rfl (z_le1 hR (by decide)) (z_le2 hR (by decide) (by decide)) (Nat.le_of_ble_eq_true rfl) dX9_holes_35 (z_istore X [(5, .int r3), (0, .ref (z_ad g 80)), (1, .int x1), (2, .int x2), (3, .int x3), (4, .int x4)] dX9_holes_38 (by decide) rfl (z_iload X 0 dX9_holes_40 rfl (z_if_eq X 48 dX9_holes_42 (by decide) (fun c4 => ?_) (fun c4 => ?_)))))))
  · replace h := z_ip c4 h
    refine z_iload_n X 4 dX9_holes_48 rfl rfl (z_bipush X (v := 8) dX9_holes_49 (by decide) (z_icmp_le X 56 dX9_holes_51 (by decide) (fun c5 => ?_) (fun c5 => ?_)))
    · replace h := z_ip c5 h
      obtain ⟨r6, er6, h⟩ := z_bs h
      obtain ⟨v7, ev7, h⟩ := z_ls h
      obtain ⟨r8, u9, er8, h⟩ := z_b2s h
      obtain ⟨r10, u11, er10, h⟩ := z_b2s h
      obtain ⟨r12, u13, er12, h⟩ := z_b2s h
      refine z_aload_n X 1 dX9_holes_56 rfl rfl (z_getR X (k0 := 1) z_c80 rfl in_X9_holes_X9 (by decide) rfl rfl lk_X9_holes_21 dX9_holes_57 (z_iload_n X 2 dX9_holes_60 rfl rfl (z_iload_n X 3 dX9_holes_61 rfl rfl (z_callVi X (r := r6) (u1 := w) [.int x1, .int x2] [] (w_X6_innerOf l g 0 x1 x2 z_po_0 w er6) (z_po z_po_0) rfl gX9_holes_X6_innerOf hy_X6_innerOf rfl (z_le1 hR (by decide)) (z_le2 hR (by decide) (by decide)) (Nat.le_of_ble_eq_true rfl) dX9_holes_62 (z_istore X [(6, .int r6), (5, .int r3), (0, .ref (z_ad g 80)), (1, .int x1), (2, .int x2), (3, .int x3), (4, .int x4)] dX9_holes_65 (by decide) rfl (z_iload_n X 5 dX9_holes_67 rfl rfl (z_iconst X (v := 1) dX9_holes_68 (by decide) (z_iadd X dX9_holes_69 (z_ti ev7 (z_istore X [(7, .int v7), (6, .int r6), (5, .int r3), (0, .ref (z_ad g 80)), (1, .int x1), (2, .int x2), (3, .int x3), (4, .int x4)] dX9_holes_70 (by decide) rfl (z_aload_n X 3 dX9_holes_72 rfl rfl (z_getR X (k0 := 7) z_c80 rfl in_X9_holes_X9 (by decide) rfl rfl lk_X9_holes_60 dX9_holes_73 (z_aload_n X 3 dX9_holes_76 rfl rfl (z_getR X (k0 := 1) z_c80 rfl in_X9_holes_X9 (by decide) rfl rfl lk_X9_holes_21 dX9_holes_77 (z_iload X 1 dX9_holes_80 rfl (z_iload X 0 dX9_holes_82 rfl (z_callVi X (r := r8) (u1 := u9) [.ref (z_ad g 0), .int r6, .int v7] [] (w_X3_list l g 0 r6 v7 z_po_0 w er8) z_c134 rfl gX9_holes_X3_list hy_X3_list rfl (z_le1 hR (by decide)) (z_le2 hR (by decide) (by decide)) (Nat.le_of_ble_eq_true rfl) dX9_holes_84 (z_aload_n X 3 dX9_holes_87 rfl rfl (z_getR X (k0 := 7) z_c80 rfl in_X9_holes_X9 (by decide) rfl rfl lk_X9_holes_60 dX9_holes_88 (z_aload_n X 3 dX9_holes_91 rfl rfl (z_getR X (k0 := 1) z_c80 rfl in_X9_holes_X9 (by decide) rfl rfl lk_X9_holes_21 dX9_holes_92 (z_iload X 1 dX9_holes_95 rfl (z_iload X 0 dX9_holes_97 rfl (z_iload X 7 dX9_holes_99 rfl (z_callVi X (r := r10) (u1 := u11) [.ref (z_ad g 0), .int r6, .int v7, .int x4] [.int r8] (w_X3_rank l g 0 r6 v7 x4 z_po_0 u9 er10) z_c134 rfl gX9_holes_X3_rank hy_X3_rank rfl (z_le1 hR (by decide)) (z_le2 hR (by decide) (by decide)) (Nat.le_of_ble_eq_true rfl) dX9_holes_101 (z_isub X dX9_holes_104 (z_aload_n X 3 dX9_holes_105 rfl rfl (z_getR X (k0 := 7) z_c80 rfl in_X9_holes_X9 (by decide) rfl rfl lk_X9_holes_60 dX9_holes_106 (z_aload_n X 3 dX9_holes_109 rfl rfl (z_getR X (k0 := 1) z_c80 rfl in_X9_holes_X9 (by decide) rfl rfl lk_X9_holes_21 dX9_holes_110 (z_iload X 1 dX9_holes_113 rfl (z_iload X 0 dX9_holes_115 rfl (z_iconst X (v := 1) dX9_holes_117 (by decide) (z_iadd X dX9_holes_118 (z_iload X 7 dX9_holes_119 rfl (z_callVi X (r := r12) (u1 := u13) [.ref (z_ad g 0), .int r6, .int (v7 + 1), .int x4] [.int (r8 - r10)] (w_X3_rank l g 0 r6 (v7 + 1) x4 z_po_0 u11 er12) z_c134 rfl gX9_holes_X3_rank hy_X3_rank rfl (z_le1 hR (by decide)) (z_le2 hR (by decide) (by decide)) (Nat.le_of_ble_eq_true rfl) dX9_holes_121 (z_isub X dX9_holes_124 ?_)))))))))))))))))))))))))))))))))))))
      cases h; exact z_iret X rfl dX9_holes_125 ⟨rfl, rfl⟩
    · replace h := z_in c5 h
      refine z_iconst X (v := 0) dX9_holes_54 (by decide) ?_
      cases h; exact z_iret X rfl dX9_holes_55 ⟨rfl, rfl⟩
  · replace h := z_in c4 h
    refine z_iload X 0 dX9_holes_45 rfl ?_
    cases h; exact z_iret X rfl dX9_holes_47 ⟨rfl, rfl⟩
set_option maxRecDepth 20000 in
set_option maxHeartbeats 4000000 in
theorem w_X9_holes (l : Launch) (g : z_G) (a1 : Int32) (a2 : Int32) (a3 : Int32) (a4 : Int32) (u : z_M) {res : Int32 × z_M} (h : f_X9_holes a1 a2 a3 a4 u = some res) : z_C l g z_shC yX9_holes wsX9_holes 6 [.ref (z_ad g 80), .int a1, .int a2, .int a3, .int a4] u (fun v u' => v = some (.int res.1) ∧ u' = res.2) := by
  refine z_C.mk (lv := [(0, .ref (z_ad g 80)), (1, .int a1), (2, .int a2), (3, .int a3), (4, .int a4)]) (cc := cX9_holes) (nL := 8) (rt := (some .int)) rfl (by decide) (Nat.le_of_ble_eq_true rfl) rfl (fun p e R s m args below meth c hR X => ?_)
  unfold f_X9_holes at h
  refine z_iload_n X 3 dX9_holes_0 rfl rfl (z_iconst X (v := (-1)) dX9_holes_1 (by decide) (z_icmp_lt X 30 dX9_holes_2 (by decide) (fun c1 => ?_) (fun c1 => ?_)))
  · replace h := z_ip c1 h
    refine z_iconst X (v := (-1)) dX9_holes_30 (by decide) ?_
    cases h; exact z_iret X rfl dX9_holes_31 ⟨rfl, rfl⟩
  · replace h := z_in c1 h
    refine z_iload X 4 dX9_holes_5 rfl (z_iconst X (v := 2) dX9_holes_7 (by decide) (z_icmp_eq X 32 dX9_holes_8 (by decide) (fun c2 => ?_) (fun c2 => ?_)))
    · replace h := z_ip c2 h
      exact wj_X9_holes_j32 (u := u) hR X a1 a2 a3 a4 u h
    · replace h := z_in c2 h
      refine z_iload X 4 dX9_holes_11 rfl (z_iconst X (v := 3) dX9_holes_13 (by decide) (z_icmp_eq X 32 dX9_holes_14 (by decide) (fun c14 => ?_) (fun c14 => ?_)))
      · replace h := z_ip c14 h
        exact wj_X9_holes_j32 (u := u) hR X a1 a2 a3 a4 u h
      · replace h := z_in c14 h
        refine z_iload X 4 dX9_holes_17 rfl (z_iconst X (v := 5) dX9_holes_19 (by decide) (z_icmp_eq X 32 dX9_holes_20 (by decide) (fun c15 => ?_) (fun c15 => ?_)))
        · replace h := z_ip c15 h
          exact wj_X9_holes_j32 (u := u) hR X a1 a2 a3 a4 u h
        · replace h := z_in c15 h
          refine z_iload X 4 dX9_holes_23 rfl (z_bipush X (v := 7) dX9_holes_25 (by decide) (z_icmp_eq X 32 dX9_holes_27 (by decide) (fun c16 => ?_) (fun c16 => ?_)))
          · replace h := z_ip c16 h
            exact wj_X9_holes_j32 (u := u) hR X a1 a2 a3 a4 u h
          · replace h := z_in c16 h
            refine z_iconst X (v := (-1)) dX9_holes_30 (by decide) ?_
            cases h; exact z_iret X rfl dX9_holes_31 ⟨rfl, rfl⟩

theorem lk_X9_shelled_39 : (Cond.fieldLink RX9 39 RX9 (TX9 4).2.1 (TX9 4).2.2.1) ∈ wsX9_shelled := by decide +kernel
theorem in_X9_shelled_X9 : ∀ w ∈ u_ws RX9 TX9 9, w ∈ wsX9_shelled := fun _ h => List.mem_cons_of_mem _ (List.mem_append_left _ (List.mem_append_left _ (List.mem_append_left _ (List.mem_append_right _ h))))
theorem lk_X9_shelled_21 : (Cond.fieldLink RX9 21 RX9 (TX9 1).2.1 (TX9 1).2.2.1) ∈ wsX9_shelled := by decide +kernel
theorem lk_X9_shelled_239 : (Cond.fieldLink RX9 239 RX2 (TX2 0).2.1 (TX2 0).2.2.1) ∈ wsX9_shelled := by decide +kernel
theorem in_X9_shelled_X2 : ∀ w ∈ u_ws RX2 TX2 3, w ∈ wsX9_shelled := fun _ h => List.mem_cons_of_mem _ (List.mem_append_left _ (List.mem_append_left _ (List.mem_append_right _ h)))
theorem hy_X2_isShell : yX2_isShell.cls = RX2 ∧ yX2_isShell.cls ≠ "java/lang/invoke/MethodHandle" ∧ yX2_isShell.cls ≠ "java/lang/invoke/VarHandle" ∧ (parseMethodDescriptor yX2_isShell.desc).map (fun d => d.parameters.length) = some 1 := by decide +kernel
def b_X9_shelled_39 (u : z_M) : Int32 → (Int32 → Option (Int32 × z_M)) → (Unit → Option (Int32 × z_M)) → Option (Int32 × z_M) := fun q kb kx =>
  if (z_gI u 86 0) ≤ q then (kx ()) else (Option.bind (f_X2_isShell q u) (fun r5 => if r5 = 0 then (some (q, u)) else (kb (q + 1))))
def f_X9_shelled (a1 : Int32) (a2 : Int32) (u : z_M) : Option (Int32 × z_M) :=
  Option.bind (f_X9_troubleWithin a1 a2 u) (fun r1 => if r1 = 0 then (Option.bind (f_X2_fill 0 a1 a2 u) (fun r3 => z_lp (b_X9_shelled_39 r3) z_F 1 (fun t7 => some ((-1), r3)))) else (if r1 = (-1) then (some ((-3), u)) else (some (r1, u))))
set_option maxRecDepth 20000 in
set_option maxHeartbeats 4000000 in
theorem wb_X9_shelled_39 {p : Program} {l : Launch} {e : Env} {R : Room} {s : State} {m : MethodId} {args : Array Value} {below : List Frame} {meth : Method} {c : Code} {g : z_G} {u : z_M} {res : Int32 × z_M} (hR : R = z_rm 21) (X : z_X p R s m args meth c cX9_shelled 5 RX9 wsX9_shelled (some .int) g z_shC)  (q : Int32) (kb : Int32 → Option (Int32 × z_M)) (kx : Unit → Option (Int32 × z_M)) (hkb : ∀ q, kb q = some res → z_V p l e R s m args below meth c 5 g z_shC (MQ below (z_Qc g z_shC (fun v u' => v = some (.int res.1) ∧ u' = res.2)) args s 0 0 (z_A g z_shC)) 39 [(0, .ref (z_ad g 80)), (4, .int q)] [] u) (hkx : ∀ t, kx t = some res → z_V p l e R s m args below meth c 5 g z_shC (MQ below (z_Qc g z_shC (fun v u' => v = some (.int res.1) ∧ u' = res.2)) args s 0 0 (z_A g z_shC)) 72 [] [] u) (h : b_X9_shelled_39 u q kb kx = some res) : z_V p l e R s m args below meth c 5 g z_shC (MQ below (z_Qc g z_shC (fun v u' => v = some (.int res.1) ∧ u' = res.2)) args s 0 0 (z_A g z_shC)) 39 [(0, .ref (z_ad g 80)), (4, .int q)] [] u := by
  unfold b_X9_shelled_39 at h
  refine z_iload X 1 dX9_shelled_39 rfl (z_aload_n X 0 dX9_shelled_41 rfl rfl (z_getR X (k0 := 4) z_c80 rfl in_X9_shelled_X9 (by decide) rfl rfl lk_X9_shelled_39 dX9_shelled_42 (z_getI X (k0 := 0) z_c86 rfl in_X9_shelled_X2 (by decide) rfl rfl lk_X9_shelled_239 dX9_shelled_45 (z_icmp_ge X 72 dX9_shelled_48 (by decide) (fun c4 => ?_) (fun c4 => ?_)))))
  · replace h := z_ip c4 h
    refine z_sub [] [] rfl ?_
    exact hkx () h
  · replace h := z_in c4 h
    obtain ⟨r5, er5, h⟩ := z_bs h
    refine z_aload_n X 0 dX9_shelled_51 rfl rfl (z_getR X (k0 := 4) z_c80 rfl in_X9_shelled_X9 (by decide) rfl rfl lk_X9_shelled_39 dX9_shelled_52 (z_iload X 1 dX9_shelled_55 rfl (z_callVi X (r := r5) (u1 := u) [.int q] [] (w_X2_isShell l g q u er5) z_c86 rfl gX9_shelled_X2_isShell hy_X2_isShell rfl (z_le1 hR (by decide)) (z_le2 hR (by decide) (by decide)) (Nat.le_of_ble_eq_true rfl) dX9_shelled_57 (z_if_ne X 66 dX9_shelled_60 (by decide) (fun c6 => ?_) (fun c6 => ?_)))))
    · replace h := z_in c6 h
      refine z_iinc X (v := q + 1) 1 [(4, .int (q + 1)), (0, .ref (z_ad g 80))] dX9_shelled_66 rfl rfl (by decide) rfl (z_goto X 39 dX9_shelled_69 (by decide) (z_sub [1, 0] [(0, .ref (z_ad g 80)), (4, .int (q + 1))] rfl ?_))
      exact hkb (q + 1) h
    · replace h := z_ip c6 h
      refine z_iload X 1 dX9_shelled_63 rfl ?_
      cases h; exact z_iret X rfl dX9_shelled_65 ⟨rfl, rfl⟩
set_option maxRecDepth 20000 in
set_option maxHeartbeats 4000000 in
theorem w_X9_shelled (l : Launch) (g : z_G) (a1 : Int32) (a2 : Int32) (u : z_M) {res : Int32 × z_M} (h : f_X9_shelled a1 a2 u = some res) : z_C l g z_shC yX9_shelled wsX9_shelled 21 [.ref (z_ad g 80), .int a1, .int a2] u (fun v u' => v = some (.int res.1) ∧ u' = res.2) := by
  refine z_C.mk (lv := [(0, .ref (z_ad g 80)), (1, .int a1), (2, .int a2)]) (cc := cX9_shelled) (nL := 5) (rt := (some .int)) rfl (by decide) (Nat.le_of_ble_eq_true rfl) rfl (fun p e R s m args below meth c hR X => ?_)
  unfold f_X9_shelled at h
  obtain ⟨r1, er1, h⟩ := z_bs h
  refine z_aload_n X 0 dX9_shelled_0 rfl rfl (z_iload_n X 1 dX9_shelled_1 rfl rfl (z_iload_n X 2 dX9_shelled_2 rfl rfl (z_callVi X (r := r1) (u1 := u) [.int a1, .int a2] [] (w_X9_troubleWithin l g a1 a2 u er1) z_c80 rfl gX9_shelled_X9_troubleWithin hy_X9_troubleWithin rfl (z_le1 hR (by decide)) (z_le2 hR (by decide) (by decide)) (Nat.le_of_ble_eq_true rfl) dX9_shelled_3 (z_istore_n X [(3, .int r1), (0, .ref (z_ad g 80)), (1, .int a1), (2, .int a2)] dX9_shelled_6 rfl (by decide) rfl (z_iload_n X 0 dX9_shelled_7 rfl rfl (z_if_eq X 23 dX9_shelled_8 (by decide) (fun c2 => ?_) (fun c2 => ?_)))))))
  · replace h := z_ip c2 h
    obtain ⟨r3, er3, h⟩ := z_bs h
    refine z_aload_n X 1 dX9_shelled_23 rfl rfl (z_getR X (k0 := 4) z_c80 rfl in_X9_shelled_X9 (by decide) rfl rfl lk_X9_shelled_39 dX9_shelled_24 (z_aload_n X 1 dX9_shelled_27 rfl rfl (z_getR X (k0 := 1) z_c80 rfl in_X9_shelled_X9 (by decide) rfl rfl lk_X9_shelled_21 dX9_shelled_28 (z_iload_n X 2 dX9_shelled_31 rfl rfl (z_iload_n X 3 dX9_shelled_32 rfl rfl (z_callVv X (u1 := r3) [.ref (z_ad g 0), .int a1, .int a2] [] (w_X2_fill l g 0 a1 a2 z_po_0 u er3) z_c86 rfl gX9_shelled_X2_fill hy_X2_fill rfl (z_le1 hR (by decide)) (z_le2 hR (by decide) (by decide)) (Nat.le_of_ble_eq_true rfl) dX9_shelled_33 (z_iconst X (v := 1) dX9_shelled_36 (by decide) (z_istore X [(4, .int 1), (3, .int r1), (0, .ref (z_ad g 80)), (1, .int a1), (2, .int a2)] dX9_shelled_37 (by decide) rfl (z_sub [2, 0] [(0, .ref (z_ad g 80)), (4, .int 1)] rfl ?_)))))))))
    have hw := z_lp_w (fun q9 kb9 kx9 h1 h2 h3 => wb_X9_shelled_39 (l := l) (e := e) (below := below) (u := r3) hR X q9 kb9 kx9 h1 h2 h3) z_F _ _ h
    refine hw (fun t7 h => ?_)
    refine z_iconst X (v := (-1)) dX9_shelled_72 (by decide) ?_
    cases h; exact z_iret X rfl dX9_shelled_73 ⟨rfl, rfl⟩
  · replace h := z_in c2 h
    refine z_iload_n X 0 dX9_shelled_11 rfl rfl (z_iconst X (v := (-1)) dX9_shelled_12 (by decide) (z_icmp_ne X 21 dX9_shelled_13 (by decide) (fun c8 => ?_) (fun c8 => ?_)))
    · replace h := z_in c8 h
      refine z_iload_n X 0 dX9_shelled_21 rfl rfl ?_
      cases h; exact z_iret X rfl dX9_shelled_22 ⟨rfl, rfl⟩
    · replace h := z_ip c8 h
      refine z_bipush X (v := (-3)) dX9_shelled_16 (by decide) (z_goto X 22 dX9_shelled_18 (by decide) ?_)
      cases h; exact z_iret X rfl dX9_shelled_22 ⟨rfl, rfl⟩

theorem lk_X9_crease_39 : (Cond.fieldLink RX9 39 RX9 (TX9 4).2.1 (TX9 4).2.2.1) ∈ wsX9_crease := by decide +kernel
theorem in_X9_crease_X9 : ∀ w ∈ u_ws RX9 TX9 9, w ∈ wsX9_crease := fun _ h => List.mem_cons_of_mem _ (List.mem_append_left _ (List.mem_append_left _ (List.mem_append_left _ (List.mem_append_right _ h))))
theorem lk_X9_crease_21 : (Cond.fieldLink RX9 21 RX9 (TX9 1).2.1 (TX9 1).2.2.1) ∈ wsX9_crease := by decide +kernel
theorem hy_X2_creaseSet : yX2_creaseSet.cls = RX2 ∧ yX2_creaseSet.cls ≠ "java/lang/invoke/MethodHandle" ∧ yX2_creaseSet.cls ≠ "java/lang/invoke/VarHandle" ∧ (parseMethodDescriptor yX2_creaseSet.desc).map (fun d => d.parameters.length) = some 1 := by decide +kernel
def f_X9_crease (a1 : Int32) (a2 : Int32) (a3 : Int32) (u : z_M) : Option (Int32 × z_M) :=
  Option.bind (f_X9_troubleWithin a1 a2 u) (fun r1 => if r1 = 0 then (Option.bind (f_X2_fill 0 a1 a2 u) (fun r3 => Option.bind (f_X2_hasChain a3 r3) (fun r4 => if r4 = 0 then (some ((-2), r3)) else (Option.bind (f_X2_creaseSet a3 r3) (fun r6 => some (r6, r3)))))) else (some (r1, u)))
set_option maxRecDepth 20000 in
set_option maxHeartbeats 4000000 in
theorem w_X9_crease (l : Launch) (g : z_G) (a1 : Int32) (a2 : Int32) (a3 : Int32) (u : z_M) {res : Int32 × z_M} (h : f_X9_crease a1 a2 a3 u = some res) : z_C l g z_shC yX9_crease wsX9_crease 21 [.ref (z_ad g 80), .int a1, .int a2, .int a3] u (fun v u' => v = some (.int res.1) ∧ u' = res.2) := by
  refine z_C.mk (lv := [(0, .ref (z_ad g 80)), (1, .int a1), (2, .int a2), (3, .int a3)]) (cc := cX9_crease) (nL := 5) (rt := (some .int)) rfl (by decide) (Nat.le_of_ble_eq_true rfl) rfl (fun p e R s m args below meth c hR X => ?_)
  unfold f_X9_crease at h
  obtain ⟨r1, er1, h⟩ := z_bs h
  refine z_aload_n X 0 dX9_crease_0 rfl rfl (z_iload_n X 1 dX9_crease_1 rfl rfl (z_iload_n X 2 dX9_crease_2 rfl rfl (z_callVi X (r := r1) (u1 := u) [.int a1, .int a2] [] (w_X9_troubleWithin l g a1 a2 u er1) z_c80 rfl gX9_crease_X9_troubleWithin hy_X9_troubleWithin rfl (z_le1 hR (by decide)) (z_le2 hR (by decide) (by decide)) (Nat.le_of_ble_eq_true rfl) dX9_crease_3 (z_istore X [(4, .int r1), (0, .ref (z_ad g 80)), (1, .int a1), (2, .int a2), (3, .int a3)] dX9_crease_6 (by decide) rfl (z_iload X 0 dX9_crease_8 rfl (z_if_eq X 16 dX9_crease_10 (by decide) (fun c2 => ?_) (fun c2 => ?_)))))))
  · replace h := z_ip c2 h
    obtain ⟨r3, er3, h⟩ := z_bs h
    obtain ⟨r4, er4, h⟩ := z_bs h
    refine z_aload_n X 1 dX9_crease_16 rfl rfl (z_getR X (k0 := 4) z_c80 rfl in_X9_crease_X9 (by decide) rfl rfl lk_X9_crease_39 dX9_crease_17 (z_aload_n X 1 dX9_crease_20 rfl rfl (z_getR X (k0 := 1) z_c80 rfl in_X9_crease_X9 (by decide) rfl rfl lk_X9_crease_21 dX9_crease_21 (z_iload_n X 2 dX9_crease_24 rfl rfl (z_iload_n X 3 dX9_crease_25 rfl rfl (z_callVv X (u1 := r3) [.ref (z_ad g 0), .int a1, .int a2] [] (w_X2_fill l g 0 a1 a2 z_po_0 u er3) z_c86 rfl gX9_crease_X2_fill hy_X2_fill rfl (z_le1 hR (by decide)) (z_le2 hR (by decide) (by decide)) (Nat.le_of_ble_eq_true rfl) dX9_crease_26 (z_aload_n X 1 dX9_crease_29 rfl rfl (z_getR X (k0 := 4) z_c80 rfl in_X9_crease_X9 (by decide) rfl rfl lk_X9_crease_39 dX9_crease_30 (z_iload_n X 4 dX9_crease_33 rfl rfl (z_callVi X (r := r4) (u1 := r3) [.int a3] [] (w_X2_hasChain l g a3 r3 er4) z_c86 rfl gX9_crease_X2_hasChain hy_X2_hasChain rfl (z_le1 hR (by decide)) (z_le2 hR (by decide) (by decide)) (Nat.le_of_ble_eq_true rfl) dX9_crease_34 (z_if_eq X 51 dX9_crease_37 (by decide) (fun c5 => ?_) (fun c5 => ?_))))))))))))
    · replace h := z_ip c5 h
      refine z_bipush X (v := (-2)) dX9_crease_51 (by decide) ?_
      cases h; exact z_iret X rfl dX9_crease_53 ⟨rfl, rfl⟩
    · replace h := z_in c5 h
      obtain ⟨r6, er6, h⟩ := z_bs h
      refine z_aload_n X 1 dX9_crease_40 rfl rfl (z_getR X (k0 := 4) z_c80 rfl in_X9_crease_X9 (by decide) rfl rfl lk_X9_crease_39 dX9_crease_41 (z_iload_n X 4 dX9_crease_44 rfl rfl (z_callVi X (r := r6) (u1 := r3) [.int a3] [] (w_X2_creaseSet l g a3 r3 er6) z_c86 rfl gX9_crease_X2_creaseSet hy_X2_creaseSet rfl (z_le1 hR (by decide)) (z_le2 hR (by decide) (by decide)) (Nat.le_of_ble_eq_true rfl) dX9_crease_45 (z_goto X 53 dX9_crease_48 (by decide) ?_))))
      cases h; exact z_iret X rfl dX9_crease_53 ⟨rfl, rfl⟩
  · replace h := z_in c2 h
    refine z_iload X 0 dX9_crease_13 rfl ?_
    cases h; exact z_iret X rfl dX9_crease_15 ⟨rfl, rfl⟩

theorem lk_X9_creased_39 : (Cond.fieldLink RX9 39 RX9 (TX9 4).2.1 (TX9 4).2.2.1) ∈ wsX9_creased := by decide +kernel
theorem in_X9_creased_X9 : ∀ w ∈ u_ws RX9 TX9 9, w ∈ wsX9_creased := fun _ h => List.mem_cons_of_mem _ (List.mem_append_left _ (List.mem_append_left _ (List.mem_append_left _ (List.mem_append_right _ h))))
theorem lk_X9_creased_21 : (Cond.fieldLink RX9 21 RX9 (TX9 1).2.1 (TX9 1).2.2.1) ∈ wsX9_creased := by decide +kernel
theorem lk_X9_creased_239 : (Cond.fieldLink RX9 239 RX2 (TX2 0).2.1 (TX2 0).2.2.1) ∈ wsX9_creased := by decide +kernel
theorem in_X9_creased_X2 : ∀ w ∈ u_ws RX2 TX2 3, w ∈ wsX9_creased := fun _ h => List.mem_cons_of_mem _ (List.mem_append_left _ (List.mem_append_left _ (List.mem_append_right _ h)))
def b_X9_creased_41 (x3 : Int32) (u : z_M) : (Int32 × Int32) → ((Int32 × Int32) → Option (Int32 × z_M)) → (Int32 → Option (Int32 × z_M)) → Option (Int32 × z_M) := fun q kb kx =>
  if (z_gI u 86 0) ≤ q.2 then (kx q.1) else (Option.bind (f_X2_creaseSet q.2 u) (fun r6 => if (z_bitc r6) = x3 then (kb (q.1 + 1, q.2 + 1)) else (kb (q.1, q.2 + 1))))
def f_X9_creased (a1 : Int32) (a2 : Int32) (a3 : Int32) (u : z_M) : Option (Int32 × z_M) :=
  if 0 ≤ a3 then (Option.bind (f_X9_troubleWithin a1 a2 u) (fun r2 => if r2 = 0 then (Option.bind (f_X2_fill 0 a1 a2 u) (fun r4 => z_lp (b_X9_creased_41 a3 r4) z_F (0, 0) (fun t8 => some (t8, r4)))) else (some (r2, u)))) else (some ((-1), u))
set_option maxRecDepth 20000 in
set_option maxHeartbeats 4000000 in
theorem wb_X9_creased_41 {p : Program} {l : Launch} {e : Env} {R : Room} {s : State} {m : MethodId} {args : Array Value} {below : List Frame} {meth : Method} {c : Code} {g : z_G} {u : z_M} {res : Int32 × z_M} (hR : R = z_rm 21) (X : z_X p R s m args meth c cX9_creased 7 RX9 wsX9_creased (some .int) g z_shC) (x3 : Int32) (q : Int32 × Int32) (kb : (Int32 × Int32) → Option (Int32 × z_M)) (kx : Int32 → Option (Int32 × z_M)) (hkb : ∀ q, kb q = some res → z_V p l e R s m args below meth c 7 g z_shC (MQ below (z_Qc g z_shC (fun v u' => v = some (.int res.1) ∧ u' = res.2)) args s 0 0 (z_A g z_shC)) 41 [(0, .ref (z_ad g 80)), (3, .int x3), (5, .int q.1), (6, .int q.2)] [] u) (hkx : ∀ t, kx t = some res → z_V p l e R s m args below meth c 7 g z_shC (MQ below (z_Qc g z_shC (fun v u' => v = some (.int res.1) ∧ u' = res.2)) args s 0 0 (z_A g z_shC)) 78 [(5, .int t)] [] u) (h : b_X9_creased_41 x3 u q kb kx = some res) : z_V p l e R s m args below meth c 7 g z_shC (MQ below (z_Qc g z_shC (fun v u' => v = some (.int res.1) ∧ u' = res.2)) args s 0 0 (z_A g z_shC)) 41 [(0, .ref (z_ad g 80)), (3, .int x3), (5, .int q.1), (6, .int q.2)] [] u := by
  unfold b_X9_creased_41 at h
  refine z_iload X 3 dX9_creased_41 rfl (z_aload_n X 0 dX9_creased_43 rfl rfl (z_getR X (k0 := 4) z_c80 rfl in_X9_creased_X9 (by decide) rfl rfl lk_X9_creased_39 dX9_creased_44 (z_getI X (k0 := 0) z_c86 rfl in_X9_creased_X2 (by decide) rfl rfl lk_X9_creased_239 dX9_creased_47 (z_icmp_ge X 78 dX9_creased_50 (by decide) (fun c5 => ?_) (fun c5 => ?_)))))
  · replace h := z_ip c5 h
    refine z_sub [2] [(5, .int q.1)] rfl ?_
    exact hkx q.1 h
  · replace h := z_in c5 h
    obtain ⟨r6, er6, h⟩ := z_bs h
    refine z_aload_n X 0 dX9_creased_53 rfl rfl (z_getR X (k0 := 4) z_c80 rfl in_X9_creased_X9 (by decide) rfl rfl lk_X9_creased_39 dX9_creased_54 (z_iload X 3 dX9_creased_57 rfl (z_callVi X (r := r6) (u1 := u) [.int q.2] [] (w_X2_creaseSet l g q.2 u er6) z_c86 rfl gX9_creased_X2_creaseSet hy_X2_creaseSet rfl (z_le1 hR (by decide)) (z_le2 hR (by decide) (by decide)) (Nat.le_of_ble_eq_true rfl) dX9_creased_59 (z_callSi X (r := z_bitc r6) (u1 := u) [.int r6] [] (w_bitc l g z_shC r6 u) gX9_creased_J6_bitCount_0f7a4 hy_J6_bitCount_0f7a4.2 rfl (z_le1 hR (by decide)) (z_le2 hR (by decide) (by decide)) (Nat.le_of_ble_eq_true rfl) dX9_creased_62 (z_iload_n X 1 dX9_creased_65 rfl rfl (z_icmp_ne X 72 dX9_creased_66 (by decide) (fun c7 => ?_) (fun c7 => ?_)))))))
    · replace h := z_in c7 h
      refine z_iinc X (v := q.2 + 1) 3 [(6, .int (q.2 + 1)), (0, .ref (z_ad g 80)), (3, .int x3), (5, .int q.1)] dX9_creased_72 rfl rfl (by decide) rfl (z_goto X 41 dX9_creased_75 (by decide) (z_sub [1, 2, 3, 0] [(0, .ref (z_ad g 80)), (3, .int x3), (5, .int q.1), (6, .int (q.2 + 1))] rfl ?_))
      exact hkb (q.1, q.2 + 1) h
    · replace h := z_ip c7 h
      refine z_iinc X (v := q.1 + 1) 2 [(5, .int (q.1 + 1)), (0, .ref (z_ad g 80)), (3, .int x3), (6, .int q.2)] dX9_creased_69 rfl rfl (by decide) rfl (z_iinc X (v := q.2 + 1) 3 [(6, .int (q.2 + 1)), (5, .int (q.1 + 1)), (0, .ref (z_ad g 80)), (3, .int x3)] dX9_creased_72 rfl rfl (by decide) rfl (z_goto X 41 dX9_creased_75 (by decide) (z_sub [2, 3, 1, 0] [(0, .ref (z_ad g 80)), (3, .int x3), (5, .int (q.1 + 1)), (6, .int (q.2 + 1))] rfl ?_)))
      exact hkb (q.1 + 1, q.2 + 1) h
set_option maxRecDepth 20000 in
set_option maxHeartbeats 4000000 in
theorem w_X9_creased (l : Launch) (g : z_G) (a1 : Int32) (a2 : Int32) (a3 : Int32) (u : z_M) {res : Int32 × z_M} (h : f_X9_creased a1 a2 a3 u = some res) : z_C l g z_shC yX9_creased wsX9_creased 21 [.ref (z_ad g 80), .int a1, .int a2, .int a3] u (fun v u' => v = some (.int res.1) ∧ u' = res.2) := by
  refine z_C.mk (lv := [(0, .ref (z_ad g 80)), (1, .int a1), (2, .int a2), (3, .int a3)]) (cc := cX9_creased) (nL := 7) (rt := (some .int)) rfl (by decide) (Nat.le_of_ble_eq_true rfl) rfl (fun p e R s m args below meth c hR X => ?_)
  unfold f_X9_creased at h
  refine z_iload_n X 3 dX9_creased_0 rfl rfl (z_if_ge X 6 dX9_creased_1 (by decide) (fun c1 => ?_) (fun c1 => ?_))
  · replace h := z_ip c1 h
    obtain ⟨r2, er2, h⟩ := z_bs h
    refine z_aload_n X 0 dX9_creased_6 rfl rfl (z_iload_n X 1 dX9_creased_7 rfl rfl (z_iload_n X 2 dX9_creased_8 rfl rfl (z_callVi X (r := r2) (u1 := u) [.int a1, .int a2] [] (w_X9_troubleWithin l g a1 a2 u er2) z_c80 rfl gX9_creased_X9_troubleWithin hy_X9_troubleWithin rfl (z_le1 hR (by decide)) (z_le2 hR (by decide) (by decide)) (Nat.le_of_ble_eq_true rfl) dX9_creased_9 (z_istore X [(4, .int r2), (0, .ref (z_ad g 80)), (1, .int a1), (2, .int a2), (3, .int a3)] dX9_creased_12 (by decide) rfl (z_iload X 0 dX9_creased_14 rfl (z_if_eq X 22 dX9_creased_16 (by decide) (fun c3 => ?_) (fun c3 => ?_)))))))
    · replace h := z_ip c3 h
      obtain ⟨r4, er4, h⟩ := z_bs h
      refine z_aload_n X 1 dX9_creased_22 rfl rfl (z_getR X (k0 := 4) z_c80 rfl in_X9_creased_X9 (by decide) rfl rfl lk_X9_creased_39 dX9_creased_23 (z_aload_n X 1 dX9_creased_26 rfl rfl (z_getR X (k0 := 1) z_c80 rfl in_X9_creased_X9 (by decide) rfl rfl lk_X9_creased_21 dX9_creased_27 (z_iload_n X 2 dX9_creased_30 rfl rfl (z_iload_n X 3 dX9_creased_31 rfl rfl (z_callVv X (u1 := r4) [.ref (z_ad g 0), .int a1, .int a2] [] (w_X2_fill l g 0 a1 a2 z_po_0 u er4) z_c86 rfl gX9_creased_X2_fill hy_X2_fill rfl (z_le1 hR (by decide)) (z_le2 hR (by decide) (by decide)) (Nat.le_of_ble_eq_true rfl) dX9_creased_32 (z_iconst X (v := 0) dX9_creased_35 (by decide) (z_istore X [(5, .int 0), (4, .int r2), (0, .ref (z_ad g 80)), (1, .int a1), (2, .int a2), (3, .int a3)] dX9_creased_36 (by decide) rfl (z_iconst X (v := 0) dX9_creased_38 (by decide) (z_istore X [(6, .int 0), (5, .int 0), (4, .int r2), (0, .ref (z_ad g 80)), (1, .int a1), (2, .int a2), (3, .int a3)] dX9_creased_39 (by decide) rfl (z_sub [3, 6, 1, 0] [(0, .ref (z_ad g 80)), (3, .int a3), (5, .int 0), (6, .int 0)] rfl ?_)))))))))))
      have hw := z_lp_w (fun q9 kb9 kx9 h1 h2 h3 => wb_X9_creased_41 (l := l) (e := e) (below := below) (u := r4) hR X a3 q9 kb9 kx9 h1 h2 h3) z_F _ _ h
      refine hw (fun t8 h => ?_)
      refine z_iload X 0 dX9_creased_78 rfl ?_
      cases h; exact z_iret X rfl dX9_creased_80 ⟨rfl, rfl⟩
    · replace h := z_in c3 h
      refine z_iload X 0 dX9_creased_19 rfl ?_
      cases h; exact z_iret X rfl dX9_creased_21 ⟨rfl, rfl⟩
  · replace h := z_in c1 h
    refine z_iconst X (v := (-1)) dX9_creased_4 (by decide) ?_
    cases h; exact z_iret X rfl dX9_creased_5 ⟨rfl, rfl⟩

theorem lk_X9_without_21 : (Cond.fieldLink RX9 21 RX9 (TX9 1).2.1 (TX9 1).2.2.1) ∈ wsX9_without := by decide +kernel
theorem in_X9_without_X9 : ∀ w ∈ u_ws RX9 TX9 9, w ∈ wsX9_without := fun _ h => List.mem_cons_of_mem _ (List.mem_append_left _ (List.mem_append_left _ (List.mem_append_right _ h)))
theorem ct279_X9_without : Cond.constant RX9 279 (-2147483648) ∈ wsX9_without := by decide +kernel
theorem lk_X9_without_46 : (Cond.fieldLink RX9 46 RX9 (TX9 5).2.1 (TX9 5).2.2.1) ∈ wsX9_without := by decide +kernel
def f_X9_without (a1 : Int32) (a2 : Int32) (a3 : Int32) (u : z_M) : Option (Int32 × z_M) :=
  Option.bind (f_X9_troubleOf a1 a2 u) (fun r1 => if r1 = 0 then (Option.bind (f_X6_innerOf 0 a1 a2 u) (fun r3 => Option.bind (f_X9_isIn r3 a3) (fun r4 => if r4 = 0 then (some ((-2147483648), u)) else (Option.bind (f_X6_between 0 a1 a2 u) (fun r6 => z_b2 (f_X8_mobius 0 a1 a2 (r6 &&& ((1 <<< (a3 &&& 31)) ^^^ (-1))) u) (fun r7 u8 => some (r7, u8))))))) else (some ((-2147483648), u)))
set_option maxRecDepth 20000 in
set_option maxHeartbeats 4000000 in
theorem w_X9_without (l : Launch) (g : z_G) (a1 : Int32) (a2 : Int32) (a3 : Int32) (u : z_M) {res : Int32 × z_M} (h : f_X9_without a1 a2 a3 u = some res) : z_C l g z_shC yX9_without wsX9_without 5 [.ref (z_ad g 80), .int a1, .int a2, .int a3] u (fun v u' => v = some (.int res.1) ∧ u' = res.2) := by
  refine z_C.mk (lv := [(0, .ref (z_ad g 80)), (1, .int a1), (2, .int a2), (3, .int a3)]) (cc := cX9_without) (nL := 4) (rt := (some .int)) rfl (by decide) (Nat.le_of_ble_eq_true rfl) rfl (fun p e R s m args below meth c hR X => ?_)
  unfold f_X9_without at h
  obtain ⟨r1, er1, h⟩ := z_bs h
  refine z_aload_n X 0 dX9_without_0 rfl rfl (z_iload_n X 1 dX9_without_1 rfl rfl (z_iload_n X 2 dX9_without_2 rfl rfl (z_callVi X (r := r1) (u1 := u) [.int a1, .int a2] [] (w_X9_troubleOf l g a1 a2 u er1) z_c80 rfl gX9_without_X9_troubleOf hy_X9_troubleOf rfl (z_le1 hR (by decide)) (z_le2 hR (by decide) (by decide)) (Nat.le_of_ble_eq_true rfl) dX9_without_3 (z_if_ne X 25 dX9_without_6 (by decide) (fun c2 => ?_) (fun c2 => ?_)))))
  · replace h := z_in c2 h
    refine z_ldcw X dX9_without_25 ct279_X9_without ?_
    cases h; exact z_iret X rfl dX9_without_28 ⟨rfl, rfl⟩
  · replace h := z_ip c2 h
    obtain ⟨r3, er3, h⟩ := z_bs h
    obtain ⟨r4, er4, h⟩ := z_bs h
    refine z_aload_n X 0 dX9_without_9 rfl rfl (z_getR X (k0 := 1) z_c80 rfl in_X9_without_X9 (by decide) rfl rfl lk_X9_without_21 dX9_without_10 (z_iload_n X 1 dX9_without_13 rfl rfl (z_iload_n X 2 dX9_without_14 rfl rfl (z_callVi X (r := r3) (u1 := u) [.int a1, .int a2] [] (w_X6_innerOf l g 0 a1 a2 z_po_0 u er3) (z_po z_po_0) rfl gX9_without_X6_innerOf hy_X6_innerOf rfl (z_le1 hR (by decide)) (z_le2 hR (by decide) (by decide)) (Nat.le_of_ble_eq_true rfl) dX9_without_15 (z_iload_n X 3 dX9_without_18 rfl rfl (z_callSi X (r := r4) (u1 := u) [.int r3, .int a3] [] (w_X9_isIn l g r3 a3 u er4) gX9_without_X9_isIn hy_X9_isIn.2 rfl (z_le1 hR (by decide)) (z_le2 hR (by decide) (by decide)) (Nat.le_of_ble_eq_true rfl) dX9_without_19 (z_if_ne X 29 dX9_without_22 (by decide) (fun c5 => ?_) (fun c5 => ?_))))))))
    · replace h := z_in c5 h
      obtain ⟨r6, er6, h⟩ := z_bs h
      obtain ⟨r7, u8, er7, h⟩ := z_b2s h
      refine z_aload_n X 0 dX9_without_29 rfl rfl (z_getR X (k0 := 5) z_c80 rfl in_X9_without_X9 (by decide) rfl rfl lk_X9_without_46 dX9_without_30 (z_aload_n X 0 dX9_without_33 rfl rfl (z_getR X (k0 := 1) z_c80 rfl in_X9_without_X9 (by decide) rfl rfl lk_X9_without_21 dX9_without_34 (z_iload_n X 1 dX9_without_37 rfl rfl (z_iload_n X 2 dX9_without_38 rfl rfl (z_aload_n X 0 dX9_without_39 rfl rfl (z_getR X (k0 := 1) z_c80 rfl in_X9_without_X9 (by decide) rfl rfl lk_X9_without_21 dX9_without_40 (z_iload_n X 1 dX9_without_43 rfl rfl (z_iload_n X 2 dX9_without_44 rfl rfl (z_callVi X (r := r6) (u1 := u) [.int a1, .int a2] [.int a2, .int a1, .ref (z_ad g 0), .ref (z_ad g 125)] (w_X6_between l g 0 a1 a2 z_po_0 u er6) (z_po z_po_0) rfl gX9_without_X6_between hy_X6_between rfl (z_le1 hR (by decide)) (z_le2 hR (by decide) (by decide)) (Nat.le_of_ble_eq_true rfl) dX9_without_45 (z_iconst X (v := 1) dX9_without_48 (by decide) (z_iload_n X 3 dX9_without_49 rfl rfl (z_ishl X dX9_without_50 (z_iconst X (v := (-1)) dX9_without_51 (by decide) (z_ixor X dX9_without_52 (z_iand X dX9_without_53 (z_callVi X (r := r7) (u1 := u8) [.ref (z_ad g 0), .int a1, .int a2, .int (r6 &&& ((1 <<< (a3 &&& 31)) ^^^ (-1)))] [] (w_X8_mobius l g 0 a1 a2 (r6 &&& ((1 <<< (a3 &&& 31)) ^^^ (-1))) z_po_0 u er7) z_c125 rfl gX9_without_X8_mobius hy_X8_mobius rfl (z_le1 hR (by decide)) (z_le2 hR (by decide) (by decide)) (Nat.le_of_ble_eq_true rfl) dX9_without_54 ?_)))))))))))))))))
      cases h; exact z_iret X rfl dX9_without_57 ⟨rfl, rfl⟩
    · replace h := z_ip c5 h
      refine z_ldcw X dX9_without_25 ct279_X9_without ?_
      cases h; exact z_iret X rfl dX9_without_28 ⟨rfl, rfl⟩
