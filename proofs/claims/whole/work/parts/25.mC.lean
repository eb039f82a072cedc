theorem lk_X7_readLabel_18 : (Cond.fieldLink RX7 18 RX7 (TX7 2).2.1 (TX7 2).2.2.1) ∈ wsX7_readLabel := by decide +kernel
theorem in_X7_readLabel_X7 : ∀ w ∈ u_ws RX7 TX7 11, w ∈ wsX7_readLabel := fun _ h => List.mem_cons_of_mem _ (List.mem_append_left _ (List.mem_append_right _ h))
theorem lk_X7_readLabel_80 : (Cond.fieldLink RX7 80 RX6 (TX6 0).2.1 (TX6 0).2.2.1) ∈ wsX7_readLabel := by decide +kernel
theorem in_X7_readLabel_X6 : ∀ w ∈ u_ws RX6 TX6 6, w ∈ wsX7_readLabel := fun _ h => List.mem_cons_of_mem _ (List.mem_append_right _ h)
theorem lk_X7_readLabel_74 : (Cond.fieldLink RX7 74 RX7 (TX7 10).2.1 (TX7 10).2.2.1) ∈ wsX7_readLabel := by decide +kernel
theorem hy_X6_setTag : yX6_setTag.cls = RX6 ∧ yX6_setTag.cls ≠ "java/lang/invoke/MethodHandle" ∧ yX6_setTag.cls ≠ "java/lang/invoke/VarHandle" ∧ (parseMethodDescriptor yX6_setTag.desc).map (fun d => d.parameters.length) = some 3 := by decide +kernel
def f_X7_readLabel (u : z_M) : Option (Int32 × z_M) :=
  Option.bind (f_X7_nextToken u) (fun r1 => z_b2 (f_X7_isNumber 0 ((z_gI r1 4 0) - 1) r1) (fun r2 u3 => if r2 = 0 then (some (0, u3)) else (z_lt (z_gI u3 81 10) (fun v5 => Option.bind (f_X7_nextToken u3) (fun r6 => z_b2 (f_X7_isNumber 0 ((z_gI r6 4 0) - 1) r6) (fun r7 u8 => if r7 = 0 then (some (0, u8)) else (z_lt (z_gI u8 81 10) (fun v10 => if v5 = v10 then (z_b2 (f_X7_refuse 2 u8) (fun r12 u13 => z_gd (decide (r12 = 0 ∨ r12 = 1)) (some (r12, u13)))) else (Option.bind (f_X7_nextToken u8) (fun r15 => z_b2 (f_X7_isNumber 0 99 r15) (fun r16 u17 => if r16 = 0 then (some (0, u17)) else (Option.bind (f_X6_setTag 4 v5 v10 (z_gI u17 81 10) u17) (fun r19 => Option.bind (f_X7_nextToken r19) (fun r20 => some (1, r20)))))))))))))))
set_option maxRecDepth 20000 in
set_option maxHeartbeats 4000000 in
theorem w_X7_readLabel (l : Launch) (g : z_G)  (u : z_M) {res : Int32 × z_M} (h : f_X7_readLabel u = some res) : z_C l g z_shC yX7_readLabel wsX7_readLabel 10 [.ref (z_ad g 81)] u (fun v u' => v = some (.int res.1) ∧ u' = res.2) := by
  refine z_C.mk (lv := [(0, .ref (z_ad g 81))]) (cc := cX7_readLabel) (nL := 3) (rt := (some .boolean)) rfl (by decide) (Nat.le_of_ble_eq_true rfl) rfl (fun p e R s m args below meth c hR X => ?_)
  unfold f_X7_readLabel at h
  obtain ⟨r1, er1, h⟩ := z_bs h
  obtain ⟨r2, u3, er2, h⟩ := z_b2s h
  refine z_aload_n X 0 dX7_readLabel_0 rfl rfl (z_callVv X (u1 := r1) [] [] (w_X7_nextToken l g u er1) z_c81 rfl gX7_readLabel_X7_nextToken hy_X7_nextToken rfl (z_le1 hR (by decide)) (z_le2 hR (by decide) (by decide)) (Nat.le_of_ble_eq_true rfl) dX7_readLabel_1 (z_aload_n X 0 dX7_readLabel_4 rfl rfl (z_iconst X (v := 0) dX7_readLabel_5 (by decide) (z_aload_n X 0 dX7_readLabel_6 rfl rfl (z_getR X (k0 := 2) z_c81 rfl in_X7_readLabel_X7 (by decide) rfl rfl lk_X7_readLabel_18 dX7_readLabel_7 (z_getI X (k0 := 0) (z_po z_po_4) rfl in_X7_readLabel_X6 (by decide) rfl rfl lk_X7_readLabel_80 dX7_readLabel_10 (z_iconst X (v := 1) dX7_readLabel_13 (by decide) (z_isub X dX7_readLabel_14 (z_callVi X (r := r2) (u1 := u3) [.int 0, .int ((z_gI r1 4 0) - 1)] [] (w_X7_isNumber l g 0 ((z_gI r1 4 0) - 1) r1 er2) z_c81 rfl gX7_readLabel_X7_isNumber hy_X7_isNumber rfl (z_le1 hR (by decide)) (z_le2 hR (by decide) (by decide)) (Nat.le_of_ble_eq_true rfl) dX7_readLabel_15 (z_if_ne X 23 dX7_readLabel_18 (by decide) (fun c4 => ?_) (fun c4 => ?_)))))))))))
  · replace h := z_in c4 h
    obtain ⟨v5, ev5, h⟩ := z_ls h
    obtain ⟨r6, er6, h⟩ := z_bs h
    obtain ⟨r7, u8, er7, h⟩ := z_b2s h
    refine z_aload_n X 0 dX7_readLabel_23 rfl rfl (z_getI X (k0 := 10) z_c81 rfl in_X7_readLabel_X7 (by decide) rfl rfl lk_X7_readLabel_74 dX7_readLabel_24 (z_ti ev5 (z_istore_n X [(1, .int v5), (0, .ref (z_ad g 81))] dX7_readLabel_27 rfl (by decide) rfl (z_aload_n X 1 dX7_readLabel_28 rfl rfl (z_callVv X (u1 := r6) [] [] (w_X7_nextToken l g u3 er6) z_c81 rfl gX7_readLabel_X7_nextToken hy_X7_nextToken rfl (z_le1 hR (by decide)) (z_le2 hR (by decide) (by decide)) (Nat.le_of_ble_eq_true rfl) dX7_readLabel_29 (z_aload_n X 1 dX7_readLabel_32 rfl rfl (z_iconst X (v := 0) dX7_readLabel_33 (by decide) (z_aload_n X 1 dX7_readLabel_34 rfl rfl (z_getR X (k0 := 2) z_c81 rfl in_X7_readLabel_X7 (by decide) rfl rfl lk_X7_readLabel_18 dX7_readLabel_35 (z_getI X (k0 := 0) (z_po z_po_4) rfl in_X7_readLabel_X6 (by decide) rfl rfl lk_X7_readLabel_80 dX7_readLabel_38 (z_iconst X (v := 1) dX7_readLabel_41 (by decide) (z_isub X dX7_readLabel_42 (z_callVi X (r := r7) (u1 := u8) [.int 0, .int ((z_gI r6 4 0) - 1)] [] (w_X7_isNumber l g 0 ((z_gI r6 4 0) - 1) r6 er7) z_c81 rfl gX7_readLabel_X7_isNumber hy_X7_isNumber rfl (z_le1 hR (by decide)) (z_le2 hR (by decide) (by decide)) (Nat.le_of_ble_eq_true rfl) dX7_readLabel_43 (z_if_ne X 51 dX7_readLabel_46 (by decide) (fun c9 => ?_) (fun c9 => ?_)))))))))))))))
    · replace h := z_in c9 h
      obtain ⟨v10, ev10, h⟩ := z_ls h
      refine z_aload_n X 1 dX7_readLabel_51 rfl rfl (z_getI X (k0 := 10) z_c81 rfl in_X7_readLabel_X7 (by decide) rfl rfl lk_X7_readLabel_74 dX7_readLabel_52 (z_ti ev10 (z_istore_n X [(2, .int v10), (1, .int v5), (0, .ref (z_ad g 81))] dX7_readLabel_55 rfl (by decide) rfl (z_iload_n X 1 dX7_readLabel_56 rfl rfl (z_iload_n X 0 dX7_readLabel_57 rfl rfl (z_icmp_ne X 67 dX7_readLabel_58 (by decide) (fun c11 => ?_) (fun c11 => ?_)))))))
      · replace h := z_in c11 h
        obtain ⟨r15, er15, h⟩ := z_bs h
        obtain ⟨r16, u17, er16, h⟩ := z_b2s h
        refine z_aload_n X 2 dX7_readLabel_67 rfl rfl (z_callVv X (u1 := r15) [] [] (w_X7_nextToken l g u8 er15) z_c81 rfl gX7_readLabel_X7_nextToken hy_X7_nextToken rfl (z_le1 hR (by decide)) (z_le2 hR (by decide) (by decide)) (Nat.le_of_ble_eq_true rfl) dX7_readLabel_68 (z_aload_n X 2 dX7_readLabel_71 rfl rfl (z_iconst X (v := 0) dX7_readLabel_72 (by decide) (z_bipush X (v := 99) dX7_readLabel_73 (by decide) (z_callVi X (r := r16) (u1 := u17) [.int 0, .int 99] [] (w_X7_isNumber l g 0 99 r15 er16) z_c81 rfl gX7_readLabel_X7_isNumber hy_X7_isNumber rfl (z_le1 hR (by decide)) (z_le2 hR (by decide) (by decide)) (Nat.le_of_ble_eq_true rfl) dX7_readLabel_75 (z_if_ne X 83 dX7_readLabel_78 (by decide) (fun c18 => ?_) (fun c18 => ?_)))))))
        · replace h := z_in c18 h
          obtain ⟨r19, er19, h⟩ := z_bs h
          obtain ⟨r20, er20, h⟩ := z_bs h
          refine z_aload_n X 2 dX7_readLabel_83 rfl rfl (z_getR X (k0 := 2) z_c81 rfl in_X7_readLabel_X7 (by decide) rfl rfl lk_X7_readLabel_18 dX7_readLabel_84 (z_iload_n X 1 dX7_readLabel_87 rfl rfl (z_iload_n X 0 dX7_readLabel_88 rfl rfl (z_aload_n X 2 dX7_readLabel_89 rfl rfl (z_getI X (k0 := 10) z_c81 rfl in_X7_readLabel_X7 (by decide) rfl rfl lk_X7_readLabel_74 dX7_readLabel_90 (z_callVv X (u1 := r19) [.int v5, .int v10, .int (z_gI u17 81 10)] [] (w_X6_setTag l g 4 v5 v10 (z_gI u17 81 10) z_po_4 u17 er19) (z_po z_po_4) rfl gX7_readLabel_X6_setTag hy_X6_setTag rfl (z_le1 hR (by decide)) (z_le2 hR (by decide) (by decide)) (Nat.le_of_ble_eq_true rfl) dX7_readLabel_93 (z_aload_n X 2 dX7_readLabel_96 rfl rfl (z_callVv X (u1 := r20) [] [] (w_X7_nextToken l g r19 er20) z_c81 rfl gX7_readLabel_X7_nextToken hy_X7_nextToken rfl (z_le1 hR (by decide)) (z_le2 hR (by decide) (by decide)) (Nat.le_of_ble_eq_true rfl) dX7_readLabel_97 (z_iconst X (v := 1) dX7_readLabel_100 (by decide) ?_)))))))))
          cases h; exact z_zret X rfl rfl dX7_readLabel_101 ⟨rfl, rfl⟩
        · replace h := z_ip c18 h
          refine z_iconst X (v := 0) dX7_readLabel_81 (by decide) ?_
          cases h; exact z_zret X rfl rfl dX7_readLabel_82 ⟨rfl, rfl⟩
      · replace h := z_ip c11 h
        obtain ⟨r12, u13, er12, h⟩ := z_b2s h
        obtain ⟨b14, h⟩ := z_gs h
        refine z_aload_n X 2 dX7_readLabel_61 rfl rfl (z_iconst X (v := 2) dX7_readLabel_62 (by decide) (z_callVi X (r := r12) (u1 := u13) [.int 2] [] (w_X7_refuse l g 2 u8 er12) z_c81 rfl gX7_readLabel_X7_refuse hy_X7_refuse rfl (z_le1 hR (by decide)) (z_le2 hR (by decide) (by decide)) (Nat.le_of_ble_eq_true rfl) dX7_readLabel_63 ?_))
        cases h; exact z_zret X rfl (z_nz b14) dX7_readLabel_66 ⟨rfl, rfl⟩
    · replace h := z_ip c9 h
      refine z_iconst X (v := 0) dX7_readLabel_49 (by decide) ?_
      cases h; exact z_zret X rfl rfl dX7_readLabel_50 ⟨rfl, rfl⟩
  · replace h := z_ip c4 h
    refine z_iconst X (v := 0) dX7_readLabel_21 (by decide) ?_
    cases h; exact z_zret X rfl rfl dX7_readLabel_22 ⟨rfl, rfl⟩

theorem lk_X7_readRelations_18 : (Cond.fieldLink RX7 18 RX7 (TX7 2).2.1 (TX7 2).2.2.1) ∈ wsX7_readRelations := by decide +kernel
theorem in_X7_readRelations_X7 : ∀ w ∈ u_ws RX7 TX7 11, w ∈ wsX7_readRelations := fun _ h => List.mem_cons_of_mem _ (List.mem_append_left _ (List.mem_append_right _ h))
theorem lk_X7_readRelations_80 : (Cond.fieldLink RX7 80 RX6 (TX6 0).2.1 (TX6 0).2.2.1) ∈ wsX7_readRelations := by decide +kernel
theorem in_X7_readRelations_X6 : ∀ w ∈ u_ws RX6 TX6 6, w ∈ wsX7_readRelations := fun _ h => List.mem_cons_of_mem _ (List.mem_append_right _ h)
theorem lk_X7_readRelations_74 : (Cond.fieldLink RX7 74 RX7 (TX7 10).2.1 (TX7 10).2.2.1) ∈ wsX7_readRelations := by decide +kernel
theorem lk_X7_readRelations_50 : (Cond.fieldLink RX7 50 RX7 (TX7 7).2.1 (TX7 7).2.2.1) ∈ wsX7_readRelations := by decide +kernel
theorem hy_X6_put : yX6_put.cls = RX6 ∧ yX6_put.cls ≠ "java/lang/invoke/MethodHandle" ∧ yX6_put.cls ≠ "java/lang/invoke/VarHandle" ∧ (parseMethodDescriptor yX6_put.desc).map (fun d => d.parameters.length) = some 2 := by decide +kernel
def b_X7_readRelations_45  : (Int32 × Int32 × z_M) → ((Int32 × Int32 × z_M) → Option (Int32 × z_M)) → (z_M → Option (Int32 × z_M)) → Option (Int32 × z_M) := fun q kb kx =>
  if 400 ≤ q.2.1 then (kx q.2.2) else (if (z_gI q.2.2 81 7) = 6 then (Option.bind (f_X7_nextToken q.2.2) (fun r9 => z_b2 (f_X7_isNumber 0 ((z_gI r9 4 0) - 1) r9) (fun r10 u11 => if r10 = 0 then (some (0, u11)) else (z_lt (z_gI u11 81 10) (fun v13 => if q.1 = v13 then (z_b2 (f_X7_refuse 4 u11) (fun r15 u16 => z_gd (decide (r15 = 0 ∨ r15 = 1)) (some (r15, u16)))) else (Option.bind (f_X6_isUnder 4 v13 q.1 u11) (fun r18 => if r18 = 0 then (Option.bind (f_X6_put 4 q.1 v13 u11) (fun r20 => Option.bind (f_X7_nextToken r20) (fun r21 => kb (v13, q.2.1 + 1, r21)))) else (z_b2 (f_X7_refuse 4 u11) (fun r22 u23 => z_gd (decide (r22 = 0 ∨ r22 = 1)) (some (r22, u23))))))))))) else (kx q.2.2))
def f_X7_readRelations (u : z_M) : Option (Int32 × z_M) :=
  z_b2 (f_X7_isNumber 0 ((z_gI u 4 0) - 1) u) (fun r1 u2 => if r1 = 0 then (some (0, u2)) else (z_lt (z_gI u2 81 10) (fun v4 => Option.bind (f_X7_nextToken u2) (fun r5 => if (z_gI r5 81 7) = 6 then (z_lp b_X7_readRelations_45 z_F (v4, 0, r5) (fun t25 => some (1, t25))) else (z_b2 (f_X7_refuse 1 r5) (fun r26 u27 => z_gd (decide (r26 = 0 ∨ r26 = 1)) (some (r26, u27))))))))
set_option maxRecDepth 20000 in
set_option maxHeartbeats 4000000 in
theorem wb_X7_readRelations_45 {p : Program} {l : Launch} {e : Env} {R : Room} {s : State} {m : MethodId} {args : Array Value} {below : List Frame} {meth : Method} {c : Code} {g : z_G} {u : z_M} {res : Int32 × z_M} (hR : R = z_rm 10) (X : z_X p R s m args meth c cX7_readRelations 4 RX7 wsX7_readRelations (some .boolean) g z_shC)  (q : Int32 × Int32 × z_M) (kb : (Int32 × Int32 × z_M) → Option (Int32 × z_M)) (kx : z_M → Option (Int32 × z_M)) (hkb : ∀ q, kb q = some res → z_V p l e R s m args below meth c 4 g z_shC (MQ below (z_Qc g z_shC (fun v u' => v = some (.int res.1) ∧ u' = res.2)) args s 0 0 (z_A g z_shC)) 45 [(0, .ref (z_ad g 81)), (1, .int q.1), (2, .int q.2.1)] [] q.2.2) (hkx : ∀ t, kx t = some res → z_V p l e R s m args below meth c 4 g z_shC (MQ below (z_Qc g z_shC (fun v u' => v = some (.int res.1) ∧ u' = res.2)) args s 0 0 (z_A g z_shC)) 133 [] [] t) (h : b_X7_readRelations_45 q kb kx = some res) : z_V p l e R s m args below meth c 4 g z_shC (MQ below (z_Qc g z_shC (fun v u' => v = some (.int res.1) ∧ u' = res.2)) args s 0 0 (z_A g z_shC)) 45 [(0, .ref (z_ad g 81)), (1, .int q.1), (2, .int q.2.1)] [] q.2.2 := by
  unfold b_X7_readRelations_45 at h
  refine z_iload_n X 2 dX7_readRelations_45 rfl rfl (z_sipush X (v := 400) dX7_readRelations_46 (by decide) (z_icmp_ge X 133 dX7_readRelations_49 (by decide) (fun c7 => ?_) (fun c7 => ?_)))
  · replace h := z_ip c7 h
    refine z_sub [] [] rfl ?_
    exact hkx q.2.2 h
  · replace h := z_in c7 h
    refine z_aload_n X 0 dX7_readRelations_52 rfl rfl (z_getI X (k0 := 7) z_c81 rfl in_X7_readRelations_X7 (by decide) rfl rfl lk_X7_readRelations_50 dX7_readRelations_53 (z_bipush X (v := 6) dX7_readRelations_56 (by decide) (z_icmp_ne X 133 dX7_readRelations_58 (by decide) (fun c8 => ?_) (fun c8 => ?_))))
    · replace h := z_in c8 h
      refine z_sub [] [] rfl ?_
      exact hkx q.2.2 h
    · replace h := z_ip c8 h
      obtain ⟨r9, er9, h⟩ := z_bs h
      obtain ⟨r10, u11, er10, h⟩ := z_b2s h
      refine z_aload_n X 0 dX7_readRelations_61 rfl rfl (z_callVv X (u1 := r9) [] [] (w_X7_nextToken l g q.2.2 er9) z_c81 rfl gX7_readRelations_X7_nextToken hy_X7_nextToken rfl (z_le1 hR (by decide)) (z_le2 hR (by decide) (by decide)) (Nat.le_of_ble_eq_true rfl) dX7_readRelations_62 (z_aload_n X 0 dX7_readRelations_65 rfl rfl (z_iconst X (v := 0) dX7_readRelations_66 (by decide) (z_aload_n X 0 dX7_readRelations_67 rfl rfl (z_getR X (k0 := 2) z_c81 rfl in_X7_readRelations_X7 (by decide) rfl rfl lk_X7_readRelations_18 dX7_readRelations_68 (z_getI X (k0 := 0) (z_po z_po_4) rfl in_X7_readRelations_X6 (by decide) rfl rfl lk_X7_readRelations_80 dX7_readRelations_71 (z_iconst X (v := 1) dX7_readRelations_74 (by decide) (z_isub X dX7_readRelations_75 (z_callVi X (r := r10) (u1 := u11) [.int 0, .int ((z_gI r9 4 0) - 1)] [] (w_X7_isNumber l g 0 ((z_gI r9 4 0) - 1) r9 er10) z_c81 rfl gX7_readRelations_X7_isNumber hy_X7_isNumber rfl (z_le1 hR (by decide)) (z_le2 hR (by decide) (by decide)) (Nat.le_of_ble_eq_true rfl) dX7_readRelations_76 (z_if_ne X 84 dX7_readRelations_79 (by decide) (fun c12 => ?_) (fun c12 => ?_)))))))))))
      · replace h := z_in c12 h
        obtain ⟨v13, ev13, h⟩ := z_ls h
        refine z_aload_n X 0 dX7_readRelations_84 rfl rfl (z_getI X (k0 := 10) z_c81 rfl in_X7_readRelations_X7 (by decide) rfl rfl lk_X7_readRelations_74 dX7_readRelations_85 (z_ti ev13 (z_istore_n X [(3, .int v13), (0, .ref (z_ad g 81)), (1, .int q.1), (2, .int q.2.1)] dX7_readRelations_88 rfl (by decide) rfl (z_iload_n X 2 dX7_readRelations_89 rfl rfl (z_iload_n X 0 dX7_readRelations_90 rfl rfl (z_icmp_eq X 106 dX7_readRelations_91 (by decide) (fun c14 => ?_) (fun c14 => ?_)))))))
        · replace h := z_ip c14 h
          obtain ⟨r15, u16, er15, h⟩ := z_b2s h
          obtain ⟨b17, h⟩ := z_gs h
          refine z_aload_n X 1 dX7_readRelations_106 rfl rfl (z_iconst X (v := 4) dX7_readRelations_107 (by decide) (z_callVi X (r := r15) (u1 := u16) [.int 4] [] (w_X7_refuse l g 4 u11 er15) z_c81 rfl gX7_readRelations_X7_refuse hy_X7_refuse rfl (z_le1 hR (by decide)) (z_le2 hR (by decide) (by decide)) (Nat.le_of_ble_eq_true rfl) dX7_readRelations_108 ?_))
          cases h; exact z_zret X rfl (z_nz b17) dX7_readRelations_111 ⟨rfl, rfl⟩
        · replace h := z_in c14 h
          obtain ⟨r18, er18, h⟩ := z_bs h
          refine z_aload_n X 1 dX7_readRelations_94 rfl rfl (z_getR X (k0 := 2) z_c81 rfl in_X7_readRelations_X7 (by decide) rfl rfl lk_X7_readRelations_18 dX7_readRelations_95 (z_iload_n X 0 dX7_readRelations_98 rfl rfl (z_iload_n X 2 dX7_readRelations_99 rfl rfl (z_callVi X (r := r18) (u1 := u11) [.int v13, .int q.1] [] (w_X6_isUnder l g 4 v13 q.1 z_po_4 u11 er18) (z_po z_po_4) rfl gX7_readRelations_X6_isUnder hy_X6_isUnder rfl (z_le1 hR (by decide)) (z_le2 hR (by decide) (by decide)) (Nat.le_of_ble_eq_true rfl) dX7_readRelations_100 (z_if_eq X 112 dX7_readRelations_103 (by decide) (fun c19 => ?_) (fun c19 => ?_))))))
          · replace h := z_ip c19 h
            obtain ⟨r20, er20, h⟩ := z_bs h
            obtain ⟨r21, er21, h⟩ := z_bs h
            refine z_aload_n X 1 dX7_readRelations_112 rfl rfl (z_getR X (k0 := 2) z_c81 rfl in_X7_readRelations_X7 (by decide) rfl rfl lk_X7_readRelations_18 dX7_readRelations_113 (z_iload_n X 2 dX7_readRelations_116 rfl rfl (z_iload_n X 0 dX7_readRelations_117 rfl rfl (z_callVv X (u1 := r20) [.int q.1, .int v13] [] (w_X6_put l g 4 q.1 v13 z_po_4 u11 er20) (z_po z_po_4) rfl gX7_readRelations_X6_put hy_X6_put rfl (z_le1 hR (by decide)) (z_le2 hR (by decide) (by decide)) (Nat.le_of_ble_eq_true rfl) dX7_readRelations_118 (z_iload_n X 0 dX7_readRelations_121 rfl rfl (z_istore_n X [(1, .int v13), (3, .int v13), (0, .ref (z_ad g 81)), (2, .int q.2.1)] dX7_readRelations_122 rfl (by decide) rfl (z_aload_n X 2 dX7_readRelations_123 rfl rfl (z_callVv X (u1 := r21) [] [] (w_X7_nextToken l g r20 er21) z_c81 rfl gX7_readRelations_X7_nextToken hy_X7_nextToken rfl (z_le1 hR (by decide)) (z_le2 hR (by decide) (by decide)) (Nat.le_of_ble_eq_true rfl) dX7_readRelations_124 (z_iinc X (v := q.2.1 + 1) 3 [(2, .int (q.2.1 + 1)), (1, .int v13), (3, .int v13), (0, .ref (z_ad g 81))] dX7_readRelations_127 rfl rfl (by decide) rfl (z_goto X 45 dX7_readRelations_130 (by decide) (z_sub [3, 1, 0] [(0, .ref (z_ad g 81)), (1, .int v13), (2, .int (q.2.1 + 1))] rfl ?_)))))))))))
            exact hkb (v13, q.2.1 + 1, r21) h
          · replace h := z_in c19 h
            obtain ⟨r22, u23, er22, h⟩ := z_b2s h
            obtain ⟨b24, h⟩ := z_gs h
            refine z_aload_n X 1 dX7_readRelations_106 rfl rfl (z_iconst X (v := 4) dX7_readRelations_107 (by decide) (z_callVi X (r := r22) (u1 := u23) [.int 4] [] (w_X7_refuse l g 4 u11 er22) z_c81 rfl gX7_readRelations_X7_refuse hy_X7_refuse rfl (z_le1 hR (by decide)) (z_le2 hR (by decide) (by decide)) (Nat.le_of_ble_eq_true rfl) dX7_readRelations_108 ?_))
            cases h; exact z_zret X rfl (z_nz b24) dX7_readRelations_111 ⟨rfl, rfl⟩
      · replace h := z_ip c12 h
        refine z_iconst X (v := 0) dX7_readRelations_82 (by decide) ?_
        cases h; exact z_zret X rfl rfl dX7_readRelations_83 ⟨rfl, rfl⟩
set_option maxRecDepth 20000 in
set_option maxHeartbeats 4000000 in
theorem w_X7_readRelations (l : Launch) (g : z_G)  (u : z_M) {res : Int32 × z_M} (h : f_X7_readRelations u = some res) : z_C l g z_shC yX7_readRelations wsX7_readRelations 10 [.ref (z_ad g 81)] u (fun v u' => v = some (.int res.1) ∧ u' = res.2) := by
  refine z_C.mk (lv := [(0, .ref (z_ad g 81))]) (cc := cX7_readRelations) (nL := 4) (rt := (some .boolean)) rfl (by decide) (Nat.le_of_ble_eq_true rfl) rfl (fun p e R s m args below meth c hR X => ?_)
  unfold f_X7_readRelations at h
  obtain ⟨r1, u2, er1, h⟩ := z_b2s h
  refine z_aload_n X 0 dX7_readRelations_0 rfl rfl (z_iconst X (v := 0) dX7_readRelations_1 (by decide) (z_aload_n X 0 dX7_readRelations_2 rfl rfl (z_getR X (k0 := 2) z_c81 rfl in_X7_readRelations_X7 (by decide) rfl rfl lk_X7_readRelations_18 dX7_readRelations_3 (z_getI X (k0 := 0) (z_po z_po_4) rfl in_X7_readRelations_X6 (by decide) rfl rfl lk_X7_readRelations_80 dX7_readRelations_6 (z_iconst X (v := 1) dX7_readRelations_9 (by decide) (z_isub X dX7_readRelations_10 (z_callVi X (r := r1) (u1 := u2) [.int 0, .int ((z_gI u 4 0) - 1)] [] (w_X7_isNumber l g 0 ((z_gI u 4 0) - 1) u er1) z_c81 rfl gX7_readRelations_X7_isNumber hy_X7_isNumber rfl (z_le1 hR (by decide)) (z_le2 hR (by decide) (by decide)) (Nat.le_of_ble_eq_true rfl) dX7_readRelations_11 (z_if_ne X 19 dX7_readRelations_14 (by decide) (fun c3 => ?_) (fun c3 => ?_)))))))))
  · replace h := z_in c3 h
    obtain ⟨v4, ev4, h⟩ := z_ls h
    obtain ⟨r5, er5, h⟩ := z_bs h
    refine z_aload_n X 0 dX7_readRelations_19 rfl rfl (z_getI X (k0 := 10) z_c81 rfl in_X7_readRelations_X7 (by decide) rfl rfl lk_X7_readRelations_74 dX7_readRelations_20 (z_ti ev4 (z_istore_n X [(1, .int v4), (0, .ref (z_ad g 81))] dX7_readRelations_23 rfl (by decide) rfl (z_aload_n X 1 dX7_readRelations_24 rfl rfl (z_callVv X (u1 := r5) [] [] (w_X7_nextToken l g u2 er5) z_c81 rfl gX7_readRelations_X7_nextToken hy_X7_nextToken rfl (z_le1 hR (by decide)) (z_le2 hR (by decide) (by decide)) (Nat.le_of_ble_eq_true rfl) dX7_readRelations_25 (z_aload_n X 1 dX7_readRelations_28 rfl rfl (z_getI X (k0 := 7) z_c81 rfl in_X7_readRelations_X7 (by decide) rfl rfl lk_X7_readRelations_50 dX7_readRelations_29 (z_bipush X (v := 6) dX7_readRelations_32 (by decide) (z_icmp_eq X 43 dX7_readRelations_34 (by decide) (fun c6 => ?_) (fun c6 => ?_))))))))))
    · replace h := z_ip c6 h
      refine z_iconst X (v := 0) dX7_readRelations_43 (by decide) (z_istore_n X [(2, .int 0), (1, .int v4), (0, .ref (z_ad g 81))] dX7_readRelations_44 rfl (by decide) rfl (z_sub [2, 1, 0] [(0, .ref (z_ad g 81)), (1, .int v4), (2, .int 0)] rfl ?_))
      have hw := z_lp_w (fun q9 kb9 kx9 h1 h2 h3 => wb_X7_readRelations_45 (l := l) (e := e) (below := below) (u := r5) hR X q9 kb9 kx9 h1 h2 h3) z_F _ _ h
      refine hw (fun t25 h => ?_)
      refine z_iconst X (v := 1) dX7_readRelations_133 (by decide) ?_
      cases h; exact z_zret X rfl rfl dX7_readRelations_134 ⟨rfl, rfl⟩
    · replace h := z_in c6 h
      obtain ⟨r26, u27, er26, h⟩ := z_b2s h
      obtain ⟨b28, h⟩ := z_gs h
      refine z_aload_n X 1 dX7_readRelations_37 rfl rfl (z_iconst X (v := 1) dX7_readRelations_38 (by decide) (z_callVi X (r := r26) (u1 := u27) [.int 1] [] (w_X7_refuse l g 1 r5 er26) z_c81 rfl gX7_readRelations_X7_refuse hy_X7_refuse rfl (z_le1 hR (by decide)) (z_le2 hR (by decide) (by decide)) (Nat.le_of_ble_eq_true rfl) dX7_readRelations_39 ?_))
      cases h; exact z_zret X rfl (z_nz b28) dX7_readRelations_42 ⟨rfl, rfl⟩
  · replace h := z_ip c3 h
    refine z_iconst X (v := 0) dX7_readRelations_17 (by decide) ?_
    cases h; exact z_zret X rfl rfl dX7_readRelations_18 ⟨rfl, rfl⟩

theorem lk_X7_readLine_50 : (Cond.fieldLink RX7 50 RX7 (TX7 7).2.1 (TX7 7).2.2.1) ∈ wsX7_readLine := by decide +kernel
theorem in_X7_readLine_X7 : ∀ w ∈ u_ws RX7 TX7 11, w ∈ wsX7_readLine := fun _ h => List.mem_cons_of_mem _ (List.mem_append_left _ (List.mem_append_right _ h))
theorem lk_X7_readLine_35 : (Cond.fieldLink RX7 35 RX7 (TX7 5).2.1 (TX7 5).2.2.1) ∈ wsX7_readLine := by decide +kernel
theorem hy_X7_readLabel : yX7_readLabel.cls = RX7 ∧ yX7_readLabel.cls ≠ "java/lang/invoke/MethodHandle" ∧ yX7_readLabel.cls ≠ "java/lang/invoke/VarHandle" ∧ (parseMethodDescriptor yX7_readLabel.desc).map (fun d => d.parameters.length) = some 0 := by decide +kernel
theorem hy_X7_readPoints : yX7_readPoints.cls = RX7 ∧ yX7_readPoints.cls ≠ "java/lang/invoke/MethodHandle" ∧ yX7_readPoints.cls ≠ "java/lang/invoke/VarHandle" ∧ (parseMethodDescriptor yX7_readPoints.desc).map (fun d => d.parameters.length) = some 0 := by decide +kernel
theorem hy_X7_readRelations : yX7_readRelations.cls = RX7 ∧ yX7_readRelations.cls ≠ "java/lang/invoke/MethodHandle" ∧ yX7_readRelations.cls ≠ "java/lang/invoke/VarHandle" ∧ (parseMethodDescriptor yX7_readRelations.desc).map (fun d => d.parameters.length) = some 0 := by decide +kernel
theorem hy_X7_readRule : yX7_readRule.cls = RX7 ∧ yX7_readRule.cls ≠ "java/lang/invoke/MethodHandle" ∧ yX7_readRule.cls ≠ "java/lang/invoke/VarHandle" ∧ (parseMethodDescriptor yX7_readRule.desc).map (fun d => d.parameters.length) = some 0 := by decide +kernel
def j_X7_readLine_j63 (x2 : Int32) (w : z_M) : Option (Int32 × z_M) :=
  if x2 = 1 then (z_b2 (f_X7_readPoints w) (fun r7 u8 => z_gd (decide (r7 = 0 ∨ r7 = 1)) (some (r7, u8)))) else (if x2 = 2 then (z_b2 (f_X7_readRule w) (fun r10 u11 => z_gd (decide (r10 = 0 ∨ r10 = 1)) (some (r10, u11)))) else (if x2 = 3 then (z_b2 (f_X7_readLabel w) (fun r13 u14 => z_gd (decide (r13 = 0 ∨ r13 = 1)) (some (r13, u14)))) else (z_b2 (f_X7_readRelations w) (fun r16 u17 => z_gd (decide (r16 = 0 ∨ r16 = 1)) (some (r16, u17))))))
def j_X7_readLine_j42 (x2 : Int32) (x90 : Int32) (x91 : Int32) (w : z_M) : Option (Int32 × z_M) :=
  if x91 = x90 then (if x2 = 2 then (if (z_gI w 81 5) = 0 then (j_X7_readLine_j63 x2 w) else (z_b2 (f_X7_refuse 3 w) (fun r22 u23 => z_gd (decide (r22 = 0 ∨ r22 = 1)) (some (r22, u23))))) else (j_X7_readLine_j63 x2 w)) else (z_b2 (f_X7_refuse 3 w) (fun r25 u26 => z_gd (decide (r25 = 0 ∨ r25 = 1)) (some (r25, u26))))
def j_X7_readLine_j31 (x1 : Int32) (x2 : Int32) (w : z_M) : Option (Int32 × z_M) :=
  if x2 = 1 then (j_X7_readLine_j42 x2 1 x1 w) else (j_X7_readLine_j42 x2 0 x1 w)
def f_X7_readLine (a1 : Int32) (u : z_M) : Option (Int32 × z_M) :=
  z_lt (z_gI u 81 7) (fun v1 => if v1 = 1 then (j_X7_readLine_j31 a1 v1 u) else (if v1 = 2 then (j_X7_readLine_j31 a1 v1 u) else (if v1 = 3 then (j_X7_readLine_j31 a1 v1 u) else (if v1 = 4 then (j_X7_readLine_j31 a1 v1 u) else (z_b2 (f_X7_refuse 1 u) (fun r31 u32 => z_gd (decide (r31 = 0 ∨ r31 = 1)) (some (r31, u32))))))))
set_option maxRecDepth 20000 in
set_option maxHeartbeats 4000000 in
theorem wj_X7_readLine_j63 {p : Program} {l : Launch} {e : Env} {R : Room} {s : State} {m : MethodId} {args : Array Value} {below : List Frame} {meth : Method} {c : Code} {g : z_G} {u : z_M} {res : Int32 × z_M} (hR : R = z_rm 11) (X : z_X p R s m args meth c cX7_readLine 3 RX7 wsX7_readLine (some .boolean) g z_shC) (x2 : Int32) (w : z_M) (h : j_X7_readLine_j63 x2 w = some res) : z_V p l e R s m args below meth c 3 g z_shC (MQ below (z_Qc g z_shC (fun v u' => v = some (.int res.1) ∧ u' = res.2)) args s 0 0 (z_A g z_shC)) 63 [(0, .ref (z_ad g 81)), (2, .int x2)] [] w := by
  unfold j_X7_readLine_j63 at h
  refine z_iload_n X 1 dX7_readLine_63 rfl rfl ?_
  by_cases c19 : x2 = 1
  · replace h := z_ip c19 h
    refine z_tabIn X 92 dX7_readLine_64 (by rw [c19]; decide) (by rw [c19]; decide) (by rw [c19]; rfl) (by decide) ?_
    obtain ⟨r7, u8, er7, h⟩ := z_b2s h
    obtain ⟨b9, h⟩ := z_gs h
    refine z_aload_n X 0 dX7_readLine_92 rfl rfl (z_callVi X (r := r7) (u1 := u8) [] [] (w_X7_readPoints l g w er7) z_c81 rfl gX7_readLine_X7_readPoints hy_X7_readPoints rfl (z_le1 hR (by decide)) (z_le2 hR (by decide) (by decide)) (Nat.le_of_ble_eq_true rfl) dX7_readLine_93 ?_)
    cases h; exact z_zret X rfl (z_nz b9) dX7_readLine_96 ⟨rfl, rfl⟩
  replace h := z_in c19 h
  by_cases c20 : x2 = 2
  · replace h := z_ip c20 h
    refine z_tabIn X 97 dX7_readLine_64 (by rw [c20]; decide) (by rw [c20]; decide) (by rw [c20]; rfl) (by decide) ?_
    obtain ⟨r10, u11, er10, h⟩ := z_b2s h
    obtain ⟨b12, h⟩ := z_gs h
    refine z_aload_n X 0 dX7_readLine_97 rfl rfl (z_callVi X (r := r10) (u1 := u11) [] [] (w_X7_readRule l g w er10) z_c81 rfl gX7_readLine_X7_readRule hy_X7_readRule rfl (z_le1 hR (by decide)) (z_le2 hR (by decide) (by decide)) (Nat.le_of_ble_eq_true rfl) dX7_readLine_98 ?_)
    cases h; exact z_zret X rfl (z_nz b12) dX7_readLine_101 ⟨rfl, rfl⟩
  replace h := z_in c20 h
  by_cases c21 : x2 = 3
  · replace h := z_ip c21 h
    refine z_tabIn X 102 dX7_readLine_64 (by rw [c21]; decide) (by rw [c21]; decide) (by rw [c21]; rfl) (by decide) ?_
    obtain ⟨r13, u14, er13, h⟩ := z_b2s h
    obtain ⟨b15, h⟩ := z_gs h
    refine z_aload_n X 0 dX7_readLine_102 rfl rfl (z_callVi X (r := r13) (u1 := u14) [] [] (w_X7_readLabel l g w er13) z_c81 rfl gX7_readLine_X7_readLabel hy_X7_readLabel rfl (z_le1 hR (by decide)) (z_le2 hR (by decide) (by decide)) (Nat.le_of_ble_eq_true rfl) dX7_readLine_103 ?_)
    cases h; exact z_zret X rfl (z_nz b15) dX7_readLine_106 ⟨rfl, rfl⟩
  replace h := z_in c21 h
  refine z_tabOut X 107 dX7_readLine_64 (by have kc19 := lv_neT (a := 1) c19 (by decide); have kc20 := lv_neT (a := 2) c20 (by decide); have kc21 := lv_neT (a := 3) c21 (by decide); omega) (by decide) ?_
  obtain ⟨r16, u17, er16, h⟩ := z_b2s h
  obtain ⟨b18, h⟩ := z_gs h
  refine z_aload_n X 0 dX7_readLine_107 rfl rfl (z_callVi X (r := r16) (u1 := u17) [] [] (w_X7_readRelations l g w er16) z_c81 rfl gX7_readLine_X7_readRelations hy_X7_readRelations rfl (z_le1 hR (by decide)) (z_le2 hR (by decide) (by decide)) (Nat.le_of_ble_eq_true rfl) dX7_readLine_108 ?_)
  cases h; exact z_zret X rfl (z_nz b18) dX7_readLine_111 ⟨rfl, rfl⟩
set_option maxRecDepth 20000 in
set_option maxHeartbeats 4000000 in
theorem wj_X7_readLine_j42 {p : Program} {l : Launch} {e : Env} {R : Room} {s : State} {m : MethodId} {args : Array Value} {below : List Frame} {meth : Method} {c : Code} {g : z_G} {u : z_M} {res : Int32 × z_M} (hR : R = z_rm 11) (X : z_X p R s m args meth c cX7_readLine 3 RX7 wsX7_readLine (some .boolean) g z_shC) (x2 : Int32) (x90 : Int32) (x91 : Int32) (w : z_M) (h : j_X7_readLine_j42 x2 x90 x91 w = some res) : z_V p l e R s m args below meth c 3 g z_shC (MQ below (z_Qc g z_shC (fun v u' => v = some (.int res.1) ∧ u' = res.2)) args s 0 0 (z_A g z_shC)) 42 [(0, .ref (z_ad g 81)), (2, .int x2)] [.int x90, .int x91] w := by
  unfold j_X7_readLine_j42 at h
  refine z_icmp_ne X 57 dX7_readLine_42 (by decide) (fun c4 => ?_) (fun c4 => ?_)
  · replace h := z_in c4 h
    obtain ⟨r25, u26, er25, h⟩ := z_b2s h
    obtain ⟨b27, h⟩ := z_gs h
    refine z_aload_n X 0 dX7_readLine_57 rfl rfl (z_iconst X (v := 3) dX7_readLine_58 (by decide) (z_callVi X (r := r25) (u1 := u26) [.int 3] [] (w_X7_refuse l g 3 w er25) z_c81 rfl gX7_readLine_X7_refuse hy_X7_refuse rfl (z_le1 hR (by decide)) (z_le2 hR (by decide) (by decide)) (Nat.le_of_ble_eq_true rfl) dX7_readLine_59 ?_))
    cases h; exact z_zret X rfl (z_nz b27) dX7_readLine_62 ⟨rfl, rfl⟩
  · replace h := z_ip c4 h
    refine z_iload_n X 1 dX7_readLine_45 rfl rfl (z_iconst X (v := 2) dX7_readLine_46 (by decide) (z_icmp_ne X 63 dX7_readLine_47 (by decide) (fun c5 => ?_) (fun c5 => ?_)))
    · replace h := z_in c5 h
      exact wj_X7_readLine_j63 (u := w) hR X x2 w h
    · replace h := z_ip c5 h
      refine z_aload_n X 0 dX7_readLine_50 rfl rfl (z_getI X (k0 := 5) z_c81 rfl in_X7_readLine_X7 (by decide) rfl rfl lk_X7_readLine_35 dX7_readLine_51 (z_if_eq X 63 dX7_readLine_54 (by decide) (fun c6 => ?_) (fun c6 => ?_)))
      · replace h := z_ip c6 h
        exact wj_X7_readLine_j63 (u := w) hR X x2 w h
      · replace h := z_in c6 h
        obtain ⟨r22, u23, er22, h⟩ := z_b2s h
        obtain ⟨b24, h⟩ := z_gs h
        refine z_aload_n X 0 dX7_readLine_57 rfl rfl (z_iconst X (v := 3) dX7_readLine_58 (by decide) (z_callVi X (r := r22) (u1 := u23) [.int 3] [] (w_X7_refuse l g 3 w er22) z_c81 rfl gX7_readLine_X7_refuse hy_X7_refuse rfl (z_le1 hR (by decide)) (z_le2 hR (by decide) (by decide)) (Nat.le_of_ble_eq_true rfl) dX7_readLine_59 ?_))
        cases h; exact z_zret X rfl (z_nz b24) dX7_readLine_62 ⟨rfl, rfl⟩
set_option maxRecDepth 20000 in
set_option maxHeartbeats 4000000 in
theorem wj_X7_readLine_j31 {p : Program} {l : Launch} {e : Env} {R : Room} {s : State} {m : MethodId} {args : Array Value} {below : List Frame} {meth : Method} {c : Code} {g : z_G} {u : z_M} {res : Int32 × z_M} (hR : R = z_rm 11) (X : z_X p R s m args meth c cX7_readLine 3 RX7 wsX7_readLine (some .boolean) g z_shC) (x1 : Int32) (x2 : Int32) (w : z_M) (h : j_X7_readLine_j31 x1 x2 w = some res) : z_V p l e R s m args below meth c 3 g z_shC (MQ below (z_Qc g z_shC (fun v u' => v = some (.int res.1) ∧ u' = res.2)) args s 0 0 (z_A g z_shC)) 31 [(0, .ref (z_ad g 81)), (1, .int x1), (2, .int x2)] [] w := by
  unfold j_X7_readLine_j31 at h
  refine z_iload_n X 1 dX7_readLine_31 rfl rfl (z_iload_n X 2 dX7_readLine_32 rfl rfl (z_iconst X (v := 1) dX7_readLine_33 (by decide) (z_icmp_ne X 41 dX7_readLine_34 (by decide) (fun c3 => ?_) (fun c3 => ?_))))
  · replace h := z_in c3 h
    refine z_iconst X (v := 0) dX7_readLine_41 (by decide) (z_sub [0, 2] [(0, .ref (z_ad g 81)), (2, .int x2)] rfl ?_)
    exact wj_X7_readLine_j42 (u := w) hR X x2 0 x1 w h
  · replace h := z_ip c3 h
    refine z_iconst X (v := 1) dX7_readLine_37 (by decide) (z_goto X 42 dX7_readLine_38 (by decide) (z_sub [0, 2] [(0, .ref (z_ad g 81)), (2, .int x2)] rfl ?_))
    exact wj_X7_readLine_j42 (u := w) hR X x2 1 x1 w h
set_option maxRecDepth 20000 in
set_option maxHeartbeats 4000000 in
theorem w_X7_readLine (l : Launch) (g : z_G) (a1 : Int32) (u : z_M) {res : Int32 × z_M} (h : f_X7_readLine a1 u = some res) : z_C l g z_shC yX7_readLine wsX7_readLine 11 [.ref (z_ad g 81), .int a1] u (fun v u' => v = some (.int res.1) ∧ u' = res.2) := by
  refine z_C.mk (lv := [(0, .ref (z_ad g 81)), (1, .int a1)]) (cc := cX7_readLine) (nL := 3) (rt := (some .boolean)) rfl (by decide) (Nat.le_of_ble_eq_true rfl) rfl (fun p e R s m args below meth c hR X => ?_)
  unfold f_X7_readLine at h
  obtain ⟨v1, ev1, h⟩ := z_ls h
  refine z_aload_n X 0 dX7_readLine_0 rfl rfl (z_getI X (k0 := 7) z_c81 rfl in_X7_readLine_X7 (by decide) rfl rfl lk_X7_readLine_50 dX7_readLine_1 (z_ti ev1 (z_istore_n X [(2, .int v1), (0, .ref (z_ad g 81)), (1, .int a1)] dX7_readLine_4 rfl (by decide) rfl (z_iload_n X 0 dX7_readLine_5 rfl rfl (z_iconst X (v := 1) dX7_readLine_6 (by decide) (z_icmp_eq X 31 dX7_readLine_7 (by decide) (fun c2 => ?_) (fun c2 => ?_)))))))
  · replace h := z_ip c2 h
    refine z_sub [1, 2, 0] [(0, .ref (z_ad g 81)), (1, .int a1), (2, .int v1)] rfl ?_
    exact wj_X7_readLine_j31 (u := u) hR X a1 v1 u h
  · replace h := z_in c2 h
    refine z_iload_n X 0 dX7_readLine_10 rfl rfl (z_iconst X (v := 2) dX7_readLine_11 (by decide) (z_icmp_eq X 31 dX7_readLine_12 (by decide) (fun c28 => ?_) (fun c28 => ?_)))
    · replace h := z_ip c28 h
      refine z_sub [1, 2, 0] [(0, .ref (z_ad g 81)), (1, .int a1), (2, .int v1)] rfl ?_
      exact wj_X7_readLine_j31 (u := u) hR X a1 v1 u h
    · replace h := z_in c28 h
      refine z_iload_n X 0 dX7_readLine_15 rfl rfl (z_iconst X (v := 3) dX7_readLine_16 (by decide) (z_icmp_eq X 31 dX7_readLine_17 (by decide) (fun c29 => ?_) (fun c29 => ?_)))
      · replace h := z_ip c29 h
        refine z_sub [1, 2, 0] [(0, .ref (z_ad g 81)), (1, .int a1), (2, .int v1)] rfl ?_
        exact wj_X7_readLine_j31 (u := u) hR X a1 v1 u h
      · replace h := z_in c29 h
        refine z_iload_n X 0 dX7_readLine_20 rfl rfl (z_iconst X (v := 4) dX7_readLine_21 (by decide) (z_icmp_eq X 31 dX7_readLine_22 (by decide) (fun c30 => ?_) (fun c30 => ?_)))
        · replace h := z_ip c30 h
          refine z_sub [1, 2, 0] [(0, .ref (z_ad g 81)), (1, .int a1), (2, .int v1)] rfl ?_
          exact wj_X7_readLine_j31 (u := u) hR X a1 v1 u h
        · replace h := z_in c30 h
          obtain ⟨r31, u32, er31, h⟩ := z_b2s h
          obtain ⟨b33, h⟩ := z_gs h
          refine z_aload_n X 1 dX7_readLine_25 rfl rfl (z_iconst X (v := 1) dX7_readLine_26 (by decide) (z_callVi X (r := r31) (u1 := u32) [.int 1] [] (w_X7_refuse l g 1 u er31) z_c81 rfl gX7_readLine_X7_refuse hy_X7_refuse rfl (z_le1 hR (by decide)) (z_le2 hR (by decide) (by decide)) (Nat.le_of_ble_eq_true rfl) dX7_readLine_27 ?_))
          cases h; exact z_zret X rfl (z_nz b33) dX7_readLine_30 ⟨rfl, rfl⟩

theorem lk_X7_readLines_29 : (Cond.fieldLink RX7 29 RX7 (TX7 6).2.1 (TX7 6).2.2.1) ∈ wsX7_readLines := by decide +kernel
theorem in_X7_readLines_X7 : ∀ w ∈ u_ws RX7 TX7 11, w ∈ wsX7_readLines := fun _ h => List.mem_cons_of_mem _ (List.mem_append_left _ (List.mem_append_right _ h))
theorem lk_X7_readLines_32 : (Cond.fieldLink RX7 32 RX7 (TX7 3).2.1 (TX7 3).2.2.1) ∈ wsX7_readLines := by decide +kernel
theorem lk_X7_readLines_22 : (Cond.fieldLink RX7 22 RX7 (TX7 4).2.1 (TX7 4).2.2.1) ∈ wsX7_readLines := by decide +kernel
theorem lk_X7_readLines_35 : (Cond.fieldLink RX7 35 RX7 (TX7 5).2.1 (TX7 5).2.2.1) ∈ wsX7_readLines := by decide +kernel
theorem lk_X7_readLines_18 : (Cond.fieldLink RX7 18 RX7 (TX7 2).2.1 (TX7 2).2.2.1) ∈ wsX7_readLines := by decide +kernel
theorem lk_X7_readLines_50 : (Cond.fieldLink RX7 50 RX7 (TX7 7).2.1 (TX7 7).2.2.1) ∈ wsX7_readLines := by decide +kernel
theorem hy_X7_readLine : yX7_readLine.cls = RX7 ∧ yX7_readLine.cls ≠ "java/lang/invoke/MethodHandle" ∧ yX7_readLine.cls ≠ "java/lang/invoke/VarHandle" ∧ (parseMethodDescriptor yX7_readLine.desc).map (fun d => d.parameters.length) = some 1 := by decide +kernel
def j_X7_readLines_j52 (x1 : Int32) (x90 : Int32) (w : z_M) (kb : (Int32 × z_M) → Option (Int32 × z_M)) (kx : z_M → Option (Int32 × z_M)) : Option (Int32 × z_M) :=
  z_b2 (f_X7_readLine x90 w) (fun r9 u10 => if r9 = 0 then (some ((-1), u10)) else (if (z_gI u10 81 7) = 0 then (some (x1, u10)) else (if (z_gI u10 81 7) = 5 then (kb (x1 + 1, u10)) else (z_b2 (f_X7_refuse 1 u10) (fun r14 u15 => some ((-1), u15))))))
def b_X7_readLines_30  : (Int32 × z_M) → ((Int32 × z_M) → Option (Int32 × z_M)) → (z_M → Option (Int32 × z_M)) → Option (Int32 × z_M) := fun q kb kx =>
  if 400 < q.1 then (kx q.2) else (Option.bind (f_X7_nextToken q.2) (fun r7 => if q.1 = 1 then (j_X7_readLines_j52 q.1 1 r7 kb kx) else (j_X7_readLines_j52 q.1 0 r7 kb kx)))
def f_X7_readLines (u : z_M) : Option (Int32 × z_M) :=
  z_lt (z_sI u 81 6 0) (fun u1 => z_lt (z_sI u1 81 3 0) (fun u2 => z_lt (z_sI u2 81 4 (-1)) (fun u3 => z_lt (z_sI u3 81 5 0) (fun u4 => Option.bind (f_X6_begin 4 0 u4) (fun r5 => z_lp b_X7_readLines_30 z_F (1, r5) (fun t16 => some ((-1), t16)))))))
set_option maxRecDepth 20000 in
set_option maxHeartbeats 4000000 in
theorem wj_X7_readLines_j52 {p : Program} {l : Launch} {e : Env} {R : Room} {s : State} {m : MethodId} {args : Array Value} {below : List Frame} {meth : Method} {c : Code} {g : z_G} {u : z_M} {res : Int32 × z_M} (hR : R = z_rm 12) (X : z_X p R s m args meth c cX7_readLines 2 RX7 wsX7_readLines (some .int) g z_shC) (x1 : Int32) (x90 : Int32) (w : z_M) (kb : (Int32 × z_M) → Option (Int32 × z_M)) (kx : z_M → Option (Int32 × z_M)) (hkb : ∀ q, kb q = some res → z_V p l e R s m args below meth c 2 g z_shC (MQ below (z_Qc g z_shC (fun v u' => v = some (.int res.1) ∧ u' = res.2)) args s 0 0 (z_A g z_shC)) 30 [(0, .ref (z_ad g 81)), (1, .int q.1)] [] q.2) (hkx : ∀ t, kx t = some res → z_V p l e R s m args below meth c 2 g z_shC (MQ below (z_Qc g z_shC (fun v u' => v = some (.int res.1) ∧ u' = res.2)) args s 0 0 (z_A g z_shC)) 91 [] [] t) (h : j_X7_readLines_j52 x1 x90 w kb kx = some res) : z_V p l e R s m args below meth c 2 g z_shC (MQ below (z_Qc g z_shC (fun v u' => v = some (.int res.1) ∧ u' = res.2)) args s 0 0 (z_A g z_shC)) 52 [(0, .ref (z_ad g 81)), (1, .int x1)] [.int x90, .ref (z_ad g 81)] w := by
  unfold j_X7_readLines_j52 at h
  obtain ⟨r9, u10, er9, h⟩ := z_b2s h
  refine z_callVi X (r := r9) (u1 := u10) [.int x90] [] (w_X7_readLine l g x90 w er9) z_c81 rfl gX7_readLines_X7_readLine hy_X7_readLine rfl (z_le1 hR (by decide)) (z_le2 hR (by decide) (by decide)) (Nat.le_of_ble_eq_true rfl) dX7_readLines_52 (z_if_ne X 60 dX7_readLines_55 (by decide) (fun c11 => ?_) (fun c11 => ?_))
  · replace h := z_in c11 h
    refine z_aload_n X 0 dX7_readLines_60 rfl rfl (z_getI X (k0 := 7) z_c81 rfl in_X7_readLines_X7 (by decide) rfl rfl lk_X7_readLines_50 dX7_readLines_61 (z_if_ne X 69 dX7_readLines_64 (by decide) (fun c12 => ?_) (fun c12 => ?_)))
    · replace h := z_in c12 h
      refine z_aload_n X 0 dX7_readLines_69 rfl rfl (z_getI X (k0 := 7) z_c81 rfl in_X7_readLines_X7 (by decide) rfl rfl lk_X7_readLines_50 dX7_readLines_70 (z_iconst X (v := 5) dX7_readLines_73 (by decide) (z_icmp_eq X 85 dX7_readLines_74 (by decide) (fun c13 => ?_) (fun c13 => ?_))))
      · replace h := z_ip c13 h
        refine z_iinc X (v := x1 + 1) 1 [(1, .int (x1 + 1)), (0, .ref (z_ad g 81))] dX7_readLines_85 rfl rfl (by decide) rfl (z_goto X 30 dX7_readLines_88 (by decide) (z_sub [1, 0] [(0, .ref (z_ad g 81)), (1, .int (x1 + 1))] rfl ?_))
        exact hkb (x1 + 1, u10) h
      · replace h := z_in c13 h
        obtain ⟨r14, u15, er14, h⟩ := z_b2s h
        refine z_aload_n X 0 dX7_readLines_77 rfl rfl (z_iconst X (v := 1) dX7_readLines_78 (by decide) (z_callVi X (r := r14) (u1 := u15) [.int 1] [] (w_X7_refuse l g 1 u10 er14) z_c81 rfl gX7_readLines_X7_refuse hy_X7_refuse rfl (z_le1 hR (by decide)) (z_le2 hR (by decide) (by decide)) (Nat.le_of_ble_eq_true rfl) dX7_readLines_79 (z_pop X dX7_readLines_82 rfl (z_iconst X (v := (-1)) dX7_readLines_83 (by decide) ?_))))
        cases h; exact z_iret X rfl dX7_readLines_84 ⟨rfl, rfl⟩
    · replace h := z_ip c12 h
      refine z_iload_n X 1 dX7_readLines_67 rfl rfl ?_
      cases h; exact z_iret X rfl dX7_readLines_68 ⟨rfl, rfl⟩
  · replace h := z_ip c11 h
    refine z_iconst X (v := (-1)) dX7_readLines_58 (by decide) ?_
    cases h; exact z_iret X rfl dX7_readLines_59 ⟨rfl, rfl⟩
set_option maxRecDepth 20000 in
set_option maxHeartbeats 4000000 in
theorem wb_X7_readLines_30 {p : Program} {l : Launch} {e : Env} {R : Room} {s : State} {m : MethodId} {args : Array Value} {below : List Frame} {meth : Method} {c : Code} {g : z_G} {u : z_M} {res : Int32 × z_M} (hR : R = z_rm 12) (X : z_X p R s m args meth c cX7_readLines 2 RX7 wsX7_readLines (some .int) g z_shC)  (q : Int32 × z_M) (kb : (Int32 × z_M) → Option (Int32 × z_M)) (kx : z_M → Option (Int32 × z_M)) (hkb : ∀ q, kb q = some res → z_V p l e R s m args below meth c 2 g z_shC (MQ below (z_Qc g z_shC (fun v u' => v = some (.int res.1) ∧ u' = res.2)) args s 0 0 (z_A g z_shC)) 30 [(0, .ref (z_ad g 81)), (1, .int q.1)] [] q.2) (hkx : ∀ t, kx t = some res → z_V p l e R s m args below meth c 2 g z_shC (MQ below (z_Qc g z_shC (fun v u' => v = some (.int res.1) ∧ u' = res.2)) args s 0 0 (z_A g z_shC)) 91 [] [] t) (h : b_X7_readLines_30 q kb kx = some res) : z_V p l e R s m args below meth c 2 g z_shC (MQ below (z_Qc g z_shC (fun v u' => v = some (.int res.1) ∧ u' = res.2)) args s 0 0 (z_A g z_shC)) 30 [(0, .ref (z_ad g 81)), (1, .int q.1)] [] q.2 := by
  unfold b_X7_readLines_30 at h
  refine z_iload_n X 1 dX7_readLines_30 rfl rfl (z_sipush X (v := 400) dX7_readLines_31 (by decide) (z_icmp_gt X 91 dX7_readLines_34 (by decide) (fun c6 => ?_) (fun c6 => ?_)))
  · replace h := z_ip c6 h
    refine z_sub [] [] rfl ?_
    exact hkx q.2 h
  · replace h := z_in c6 h
    obtain ⟨r7, er7, h⟩ := z_bs h
    refine z_aload_n X 0 dX7_readLines_37 rfl rfl (z_callVv X (u1 := r7) [] [] (w_X7_nextToken l g q.2 er7) z_c81 rfl gX7_readLines_X7_nextToken hy_X7_nextToken rfl (z_le1 hR (by decide)) (z_le2 hR (by decide) (by decide)) (Nat.le_of_ble_eq_true rfl) dX7_readLines_38 (z_aload_n X 0 dX7_readLines_41 rfl rfl (z_iload_n X 1 dX7_readLines_42 rfl rfl (z_iconst X (v := 1) dX7_readLines_43 (by decide) (z_icmp_ne X 51 dX7_readLines_44 (by decide) (fun c8 => ?_) (fun c8 => ?_))))))
    · replace h := z_in c8 h
      refine z_iconst X (v := 0) dX7_readLines_51 (by decide) ?_
      exact wj_X7_readLines_j52 (u := r7) hR X q.1 0 r7 kb kx hkb hkx h
    · replace h := z_ip c8 h
      refine z_iconst X (v := 1) dX7_readLines_47 (by decide) (z_goto X 52 dX7_readLines_48 (by decide) ?_)
      exact wj_X7_readLines_j52 (u := r7) hR X q.1 1 r7 kb kx hkb hkx h
set_option maxRecDepth 20000 in
set_option maxHeartbeats 4000000 in
theorem w_X7_readLines (l : Launch) (g : z_G)  (u : z_M) {res : Int32 × z_M} (h : f_X7_readLines u = some res) : z_C l g z_shC yX7_readLines wsX7_readLines 12 [.ref (z_ad g 81)] u (fun v u' => v = some (.int res.1) ∧ u' = res.2) := by
  refine z_C.mk (lv := [(0, .ref (z_ad g 81))]) (cc := cX7_readLines) (nL := 2) (rt := (some .int)) rfl (by decide) (Nat.le_of_ble_eq_true rfl) rfl (fun p e R s m args below meth c hR X => ?_)
  unfold f_X7_readLines at h
  obtain ⟨u1, eu1, h⟩ := z_ls h
  obtain ⟨u2, eu2, h⟩ := z_ls h
  obtain ⟨u3, eu3, h⟩ := z_ls h
  obtain ⟨u4, eu4, h⟩ := z_ls h
  obtain ⟨r5, er5, h⟩ := z_bs h
  refine z_aload_n X 0 dX7_readLines_0 rfl rfl (z_iconst X (v := 0) dX7_readLines_1 (by decide) (z_putI X (k0 := 6) (ty0 := tyX7) z_c81 rfl in_X7_readLines_X7 tyX7_ok nmX7 (by decide) rfl rfl rfl rfl rfl lk_X7_readLines_29 dX7_readLines_2 (z_nm eu1 (z_aload_n X 0 dX7_readLines_5 rfl rfl (z_iconst X (v := 0) dX7_readLines_6 (by decide) (z_putI X (k0 := 3) (ty0 := tyX7) z_c81 rfl in_X7_readLines_X7 tyX7_ok nmX7 (by decide) rfl rfl rfl rfl rfl lk_X7_readLines_32 dX7_readLines_7 (z_nm eu2 (z_aload_n X 0 dX7_readLines_10 rfl rfl (z_iconst X (v := (-1)) dX7_readLines_11 (by decide) (z_putI X (k0 := 4) (ty0 := tyX7) z_c81 rfl in_X7_readLines_X7 tyX7_ok nmX7 (by decide) rfl rfl rfl rfl rfl lk_X7_readLines_22 dX7_readLines_12 (z_nm eu3 (z_aload_n X 0 dX7_readLines_15 rfl rfl (z_iconst X (v := 0) dX7_readLines_16 (by decide) (z_putI X (k0 := 5) (ty0 := tyX7) z_c81 rfl in_X7_readLines_X7 tyX7_ok nmX7 (by decide) rfl rfl rfl rfl rfl lk_X7_readLines_35 dX7_readLines_17 (z_nm eu4 (z_aload_n X 0 dX7_readLines_20 rfl rfl (z_getR X (k0 := 2) z_c81 rfl in_X7_readLines_X7 (by decide) rfl rfl lk_X7_readLines_18 dX7_readLines_21 (z_iconst X (v := 0) dX7_readLines_24 (by decide) (z_callVv X (u1 := r5) [.int 0] [] (w_X6_begin l g 4 0 z_po_4 u4 er5) (z_po z_po_4) rfl gX7_readLines_X6_begin hy_X6_begin rfl (z_le1 hR (by decide)) (z_le2 hR (by decide) (by decide)) (Nat.le_of_ble_eq_true rfl) dX7_readLines_25 (z_iconst X (v := 1) dX7_readLines_28 (by decide) (z_istore_n X [(1, .int 1), (0, .ref (z_ad g 81))] dX7_readLines_29 rfl (by decide) rfl (z_sub [1, 0] [(0, .ref (z_ad g 81)), (1, .int 1)] rfl ?_))))))))))))))))))))))
  have hw := z_lp_w (fun q9 kb9 kx9 h1 h2 h3 => wb_X7_readLines_30 (l := l) (e := e) (below := below) (u := r5) hR X q9 kb9 kx9 h1 h2 h3) z_F _ _ h
  refine hw (fun t16 h => ?_)
  refine z_iconst X (v := (-1)) dX7_readLines_91 (by decide) ?_
  cases h; exact z_iret X rfl dX7_readLines_92 ⟨rfl, rfl⟩

theorem lk_X8_measure_9 : (Cond.fieldLink RX8 9 RX8 (TX8 0).2.1 (TX8 0).2.2.1) ∈ wsX8_measure := by decide +kernel
theorem in_X8_measure_X8 : ∀ w ∈ u_ws RX8 TX8 5, w ∈ wsX8_measure := by decide +kernel
theorem ini_X9_isIn_X8_measure : Cond.initialized yX9_isIn.cls ∈ wsX8_measure := by decide +kernel
theorem sta_X9_isIn_X8_measure : Cond.static yX9_isIn ∈ wsX8_measure := by decide +kernel
theorem lk_X8_measure_15 : (Cond.fieldLink RX8 15 RX8 (TX8 1).2.1 (TX8 1).2.2.1) ∈ wsX8_measure := by decide +kernel
theorem lk_X8_measure_37 : (Cond.fieldLink RX8 37 RX6 (TX6 4).2.1 (TX6 4).2.2.1) ∈ wsX8_measure := by decide +kernel
theorem in_X8_measure_X6 : ∀ w ∈ u_ws RX6 TX6 6, w ∈ wsX8_measure := by decide +kernel
theorem ml40_X8_measure : Cond.methodLink RX8 40 Lib.Math.max.name ∈ wsX8_measure := by decide +kernel
theorem ms_max_X8_measure : Cond.static Lib.Math.max.name ∈ wsX8_measure := by decide +kernel
theorem mi_X8_measure : Cond.initialized "java/lang/Math" ∈ wsX8_measure := by decide +kernel
theorem mc_max_X8_measure : Cond.code Lib.Math.max.name Lib.Math.max.code 2 (some .int) ∈ wsX8_measure := by decide +kernel
theorem hy_X6_leastRow : yX6_leastRow.cls = RX6 ∧ yX6_leastRow.cls ≠ "java/lang/invoke/MethodHandle" ∧ yX6_leastRow.cls ≠ "java/lang/invoke/VarHandle" ∧ (parseMethodDescriptor yX6_leastRow.desc).map (fun d => d.parameters.length) = some 1 := by decide +kernel
def b_X8_measure_50 (x1 : Nat) (x2 : Int32) (x3 : Int32) (x4 : Int32) (x5 : Int32) : (Int32 × z_M) → ((Int32 × z_M) → Option (z_M)) → (z_M → Option (z_M)) → Option (z_M) := fun q kb kx =>
  if 9 ≤ q.1 then (kx q.2) else (z_gd (z_inb x5 9) (Option.bind (f_X9_isIn ((z_gI q.2 (x1 + 2) x5.toNatClampNeg) &&& x2) q.1) (fun r12 => if r12 = 0 then (kb (q.1 + 1, q.2)) else (z_gd (z_inb x5 9) (z_gd (z_inb q.1 9) (z_gd (z_inb x5 9) (z_lt (z_sI q.2 127 x5.toNatClampNeg (if (z_gI q.2 127 x5.toNatClampNeg) < ((z_gI q.2 127 q.1.toNatClampNeg) + 1) then (z_gI q.2 127 q.1.toNatClampNeg) + 1 else z_gI q.2 127 x5.toNatClampNeg)) (fun u17 => kb (q.1 + 1, u17)))))))))
def b_X8_measure_12 (x1 : Nat) (x2 : Int32) (x3 : Int32) : (Int32 × z_M) → ((Int32 × z_M) → Option (z_M)) → (z_M → Option (z_M)) → Option (z_M) := fun q kb kx =>
  if x3 ≤ q.1 then (kx q.2) else (z_gd (z_inb q.1 9) (z_lt (z_gI q.2 126 q.1.toNatClampNeg) (fun v5 => Option.bind (f_X9_isIn x2 v5) (fun r6 => if r6 = 0 then (kb (q.1 + 1, q.2)) else (z_gd (z_inb v5 9) (z_lt (z_sI q.2 127 v5.toNatClampNeg 0) (fun u9 => z_lp (b_X8_measure_50 x1 x2 x3 q.1 v5) z_F (0, u9) (fun t18 => kb (q.1 + 1, t18)))))))))
def f_X8_measure (a1 : Nat) (a2 : Int32) (u : z_M) : Option (z_M) :=
  z_b2 (f_X6_leastRow a1 126 9 u) (fun r1 u2 => z_lp (b_X8_measure_12 a1 a2 r1) z_F (0, u2) (fun t19 => some t19))
set_option maxRecDepth 20000 in
set_option maxHeartbeats 4000000 in
theorem wb_X8_measure_50 {p : Program} {l : Launch} {e : Env} {R : Room} {s : State} {m : MethodId} {args : Array Value} {below : List Frame} {meth : Method} {c : Code} {g : z_G} {u : z_M} {res : z_M} (hR : R = z_rm 4) (X : z_X p R s m args meth c cX8_measure 7 RX8 wsX8_measure none g z_shC) (x1 : Nat) (x2 : Int32) (x3 : Int32) (x4 : Int32) (x5 : Int32) (ex1 : z_PO x1) (q : Int32 × z_M) (kb : (Int32 × z_M) → Option (z_M)) (kx : z_M → Option (z_M)) (hkb : ∀ q, kb q = some res → z_V p l e R s m args below meth c 7 g z_shC (MQ below (z_Qc g z_shC (fun v u' => v = none ∧ u' = res)) args s 0 0 (z_A g z_shC)) 50 [(0, .ref (z_ad g 125)), (1, .ref (z_ad g x1)), (2, .int x2), (3, .int x3), (4, .int x4), (5, .int x5), (6, .int q.1)] [] q.2) (hkx : ∀ t, kx t = some res → z_V p l e R s m args below meth c 7 g z_shC (MQ below (z_Qc g z_shC (fun v u' => v = none ∧ u' = res)) args s 0 0 (z_A g z_shC)) 106 [(0, .ref (z_ad g 125)), (1, .ref (z_ad g x1)), (2, .int x2), (3, .int x3), (4, .int x4)] [] t) (h : b_X8_measure_50 x1 x2 x3 x4 x5 q kb kx = some res) : z_V p l e R s m args below meth c 7 g z_shC (MQ below (z_Qc g z_shC (fun v u' => v = none ∧ u' = res)) args s 0 0 (z_A g z_shC)) 50 [(0, .ref (z_ad g 125)), (1, .ref (z_ad g x1)), (2, .int x2), (3, .int x3), (4, .int x4), (5, .int x5), (6, .int q.1)] [] q.2 := by
  unfold b_X8_measure_50 at h
  refine z_iload X 6 dX8_measure_50 rfl (z_bipush X (v := 9) dX8_measure_52 (by decide) (z_icmp_ge X 106 dX8_measure_54 (by decide) (fun c10 => ?_) (fun c10 => ?_)))
  · replace h := z_ip c10 h
    refine z_sub [0, 1, 2, 3, 4] [(0, .ref (z_ad g 125)), (1, .ref (z_ad g x1)), (2, .int x2), (3, .int x3), (4, .int x4)] rfl ?_
    exact hkx q.2 h
  · replace h := z_in c10 h
    obtain ⟨b11, h⟩ := z_gs h
    obtain ⟨r12, er12, h⟩ := z_bs h
    refine z_aload_n X 1 dX8_measure_57 rfl rfl (z_getR X (k0 := 4) (z_po ex1) rfl in_X8_measure_X6 (by decide) rfl rfl lk_X8_measure_37 dX8_measure_58 (z_iload X 5 dX8_measure_61 rfl (z_iald X (z_poU ex1) (z_inS b11) dX8_measure_63 (z_iload_n X 2 dX8_measure_64 rfl rfl (z_iand X dX8_measure_65 (z_iload X 6 dX8_measure_66 rfl (z_callNi X (r := r12) (u1 := q.2) [.int ((z_gI q.2 (x1 + 2) x5.toNatClampNeg) &&& x2), .int q.1] [] (w_X9_isIn l g ((z_gI q.2 (x1 + 2) x5.toNatClampNeg) &&& x2) q.1 q.2 er12) gX8_measure_X9_isIn_n33 nn_X8 ini_X9_isIn_X8_measure sta_X9_isIn_X8_measure hy_X9_isIn.2 rfl (z_le1 hR (by decide)) (z_le2 hR (by decide) (by decide)) (Nat.le_of_ble_eq_true rfl) dX8_measure_68 (z_if_eq X 100 dX8_measure_71 (by decide) (fun c13 => ?_) (fun c13 => ?_)))))))))
    · replace h := z_ip c13 h
      refine z_iinc X (v := q.1 + 1) 6 [(6, .int (q.1 + 1)), (0, .ref (z_ad g 125)), (1, .ref (z_ad g x1)), (2, .int x2), (3, .int x3), (4, .int x4), (5, .int x5)] dX8_measure_100 rfl rfl (by decide) rfl (z_goto X 50 dX8_measure_103 (by decide) (z_sub [1, 2, 3, 4, 5, 6, 0] [(0, .ref (z_ad g 125)), (1, .ref (z_ad g x1)), (2, .int x2), (3, .int x3), (4, .int x4), (5, .int x5), (6, .int (q.1 + 1))] rfl ?_))
      exact hkb (q.1 + 1, q.2) h
    · replace h := z_in c13 h
      obtain ⟨b14, h⟩ := z_gs h
      obtain ⟨b15, h⟩ := z_gs h
      obtain ⟨b16, h⟩ := z_gs h
      obtain ⟨u17, eu17, h⟩ := z_ls h
      refine z_aload_n X 0 dX8_measure_74 rfl rfl (z_getR X (k0 := 1) z_c125 rfl in_X8_measure_X8 (by decide) rfl rfl lk_X8_measure_15 dX8_measure_75 (z_iload X 5 dX8_measure_78 rfl (z_aload_n X 0 dX8_measure_80 rfl rfl (z_getR X (k0 := 1) z_c125 rfl in_X8_measure_X8 (by decide) rfl rfl lk_X8_measure_15 dX8_measure_81 (z_iload X 5 dX8_measure_84 rfl (z_iald X z_c127 (z_inS b14) dX8_measure_86 (z_aload_n X 0 dX8_measure_87 rfl rfl (z_getR X (k0 := 1) z_c125 rfl in_X8_measure_X8 (by decide) rfl rfl lk_X8_measure_15 dX8_measure_88 (z_iload X 6 dX8_measure_91 rfl (z_iald X z_c127 (z_inS b15) dX8_measure_93 (z_iconst X (v := 1) dX8_measure_94 (by decide) (z_iadd X dX8_measure_95 (z_mmax X ml40_X8_measure ms_max_X8_measure mi_X8_measure mc_max_X8_measure (z_le3 hR (by decide)) (z_le4 hR (by decide) (Nat.le_of_ble_eq_true rfl) (by decide)) dX8_measure_96 (z_iast X z_c127 (z_inS b16) dX8_measure_99 (z_nm eu17 (z_iinc X (v := q.1 + 1) 6 [(6, .int (q.1 + 1)), (0, .ref (z_ad g 125)), (1, .ref (z_ad g x1)), (2, .int x2), (3, .int x3), (4, .int x4), (5, .int x5)] dX8_measure_100 rfl rfl (by decide) rfl (z_goto X 50 dX8_measure_103 (by decide) (z_sub [1, 2, 3, 4, 5, 6, 0] [(0, .ref (z_ad g 125)), (1, .ref (z_ad g x1)), (2, .int x2), (3, .int x3), (4, .int x4), (5, .int x5), (6, .int (q.1 + 1))] rfl ?_))))))))))))))))))
      exact hkb (q.1 + 1, u17) h
set_option maxRecDepth 20000 in
set_option maxHeartbeats 4000000 in
theorem wb_X8_measure_12 {p : Program} {l : Launch} {e : Env} {R : Room} {s : State} {m : MethodId} {args : Array Value} {below : List Frame} {meth : Method} {c : Code} {g : z_G} {u : z_M} {res : z_M} (hR : R = z_rm 4) (X : z_X p R s m args meth c cX8_measure 7 RX8 wsX8_measure none g z_shC) (x1 : Nat) (x2 : Int32) (x3 : Int32) (ex1 : z_PO x1) (q : Int32 × z_M) (kb : (Int32 × z_M) → Option (z_M)) (kx : z_M → Option (z_M)) (hkb : ∀ q, kb q = some res → z_V p l e R s m args below meth c 7 g z_shC (MQ below (z_Qc g z_shC (fun v u' => v = none ∧ u' = res)) args s 0 0 (z_A g z_shC)) 12 [(0, .ref (z_ad g 125)), (1, .ref (z_ad g x1)), (2, .int x2), (3, .int x3), (4, .int q.1)] [] q.2) (hkx : ∀ t, kx t = some res → z_V p l e R s m args below meth c 7 g z_shC (MQ below (z_Qc g z_shC (fun v u' => v = none ∧ u' = res)) args s 0 0 (z_A g z_shC)) 112 [] [] t) (h : b_X8_measure_12 x1 x2 x3 q kb kx = some res) : z_V p l e R s m args below meth c 7 g z_shC (MQ below (z_Qc g z_shC (fun v u' => v = none ∧ u' = res)) args s 0 0 (z_A g z_shC)) 12 [(0, .ref (z_ad g 125)), (1, .ref (z_ad g x1)), (2, .int x2), (3, .int x3), (4, .int q.1)] [] q.2 := by
  unfold b_X8_measure_12 at h
  refine z_iload X 4 dX8_measure_12 rfl (z_iload_n X 3 dX8_measure_14 rfl rfl (z_icmp_ge X 112 dX8_measure_15 (by decide) (fun c3 => ?_) (fun c3 => ?_)))
  · replace h := z_ip c3 h
    refine z_sub [] [] rfl ?_
    exact hkx q.2 h
  · replace h := z_in c3 h
    obtain ⟨b4, h⟩ := z_gs h
    obtain ⟨v5, ev5, h⟩ := z_ls h
    obtain ⟨r6, er6, h⟩ := z_bs h
    refine z_aload_n X 0 dX8_measure_18 rfl rfl (z_getR X (k0 := 0) z_c125 rfl in_X8_measure_X8 (by decide) rfl rfl lk_X8_measure_9 dX8_measure_19 (z_iload X 4 dX8_measure_22 rfl (z_iald X z_c126 (z_inS b4) dX8_measure_24 (z_ti ev5 (z_istore X [(5, .int v5), (0, .ref (z_ad g 125)), (1, .ref (z_ad g x1)), (2, .int x2), (3, .int x3), (4, .int q.1)] dX8_measure_25 (by decide) rfl (z_iload_n X 3 dX8_measure_27 rfl rfl (z_iload X 0 dX8_measure_28 rfl (z_callNi X (r := r6) (u1 := q.2) [.int x2, .int v5] [] (w_X9_isIn l g x2 v5 q.2 er6) gX8_measure_X9_isIn_n33 nn_X8 ini_X9_isIn_X8_measure sta_X9_isIn_X8_measure hy_X9_isIn.2 rfl (z_le1 hR (by decide)) (z_le2 hR (by decide) (by decide)) (Nat.le_of_ble_eq_true rfl) dX8_measure_30 (z_if_ne X 39 dX8_measure_33 (by decide) (fun c7 => ?_) (fun c7 => ?_))))))))))
    · replace h := z_in c7 h
      obtain ⟨b8, h⟩ := z_gs h
      obtain ⟨u9, eu9, h⟩ := z_ls h
      refine z_aload_n X 1 dX8_measure_39 rfl rfl (z_getR X (k0 := 1) z_c125 rfl in_X8_measure_X8 (by decide) rfl rfl lk_X8_measure_15 dX8_measure_40 (z_iload X 0 dX8_measure_43 rfl (z_iconst X (v := 0) dX8_measure_45 (by decide) (z_iast X z_c127 (z_inS b8) dX8_measure_46 (z_nm eu9 (z_iconst X (v := 0) dX8_measure_47 (by decide) (z_istore X [(6, .int 0), (5, .int v5), (0, .ref (z_ad g 125)), (1, .ref (z_ad g x1)), (2, .int x2), (3, .int x3), (4, .int q.1)] dX8_measure_48 (by decide) rfl (z_sub [2, 3, 4, 5, 6, 1, 0] [(0, .ref (z_ad g 125)), (1, .ref (z_ad g x1)), (2, .int x2), (3, .int x3), (4, .int q.1), (5, .int v5), (6, .int 0)] rfl ?_))))))))
      have hw := z_lp_w (fun q9 kb9 kx9 h1 h2 h3 => wb_X8_measure_50 (l := l) (e := e) (below := below) (u := u9) hR X x1 x2 x3 q.1 v5 ex1 q9 kb9 kx9 h1 h2 h3) z_F _ _ h
      refine hw (fun t18 h => ?_)
      refine z_iinc X (v := q.1 + 1) 4 [(4, .int (q.1 + 1)), (0, .ref (z_ad g 125)), (1, .ref (z_ad g x1)), (2, .int x2), (3, .int x3)] dX8_measure_106 rfl rfl (by decide) rfl (z_goto X 12 dX8_measure_109 (by decide) (z_sub [1, 2, 3, 4, 0] [(0, .ref (z_ad g 125)), (1, .ref (z_ad g x1)), (2, .int x2), (3, .int x3), (4, .int (q.1 + 1))] rfl ?_))
      exact hkb (q.1 + 1, t18) h
    · replace h := z_ip c7 h
      refine z_goto X 106 dX8_measure_36 (by decide) (z_iinc X (v := q.1 + 1) 5 [(4, .int (q.1 + 1)), (5, .int v5), (0, .ref (z_ad g 125)), (1, .ref (z_ad g x1)), (2, .int x2), (3, .int x3)] dX8_measure_106 rfl rfl (by decide) rfl (z_goto X 12 dX8_measure_109 (by decide) (z_sub [2, 3, 4, 5, 0] [(0, .ref (z_ad g 125)), (1, .ref (z_ad g x1)), (2, .int x2), (3, .int x3), (4, .int (q.1 + 1))] rfl ?_)))
      exact hkb (q.1 + 1, q.2) h
set_option maxRecDepth 20000 in
set_option maxHeartbeats 4000000 in
theorem w_X8_measure (l : Launch) (g : z_G) (a1 : Nat) (a2 : Int32) (ea1 : z_PO a1) (u : z_M) {res : z_M} (h : f_X8_measure a1 a2 u = some res) : z_C l g z_shC yX8_measure wsX8_measure 4 [.ref (z_ad g 125), .ref (z_ad g a1), .int a2] u (fun v u' => v = none ∧ u' = res) := by
  refine z_C.mk (lv := [(0, .ref (z_ad g 125)), (1, .ref (z_ad g a1)), (2, .int a2)]) (cc := cX8_measure) (nL := 7) (rt := none) rfl (by decide) (Nat.le_of_ble_eq_true rfl) rfl (fun p e R s m args below meth c hR X => ?_)
  unfold f_X8_measure at h
  obtain ⟨r1, u2, er1, h⟩ := z_b2s h
  refine z_aload_n X 1 dX8_measure_0 rfl rfl (z_aload_n X 0 dX8_measure_1 rfl rfl (z_getR X (k0 := 0) z_c125 rfl in_X8_measure_X8 (by decide) rfl rfl lk_X8_measure_9 dX8_measure_2 (z_callVi X (r := r1) (u1 := u2) [.ref (z_ad g 126)] [] (w_X6_leastRow l g a1 126 9 ea1 z_c126 u er1) (z_po ea1) rfl gX8_measure_X6_leastRow hy_X6_leastRow rfl (z_le1 hR (by decide)) (z_le2 hR (by decide) (by decide)) (Nat.le_of_ble_eq_true rfl) dX8_measure_5 (z_istore_n X [(3, .int r1), (0, .ref (z_ad g 125)), (1, .ref (z_ad g a1)), (2, .int a2)] dX8_measure_8 rfl (by decide) rfl (z_iconst X (v := 0) dX8_measure_9 (by decide) (z_istore X [(4, .int 0), (3, .int r1), (0, .ref (z_ad g 125)), (1, .ref (z_ad g a1)), (2, .int a2)] dX8_measure_10 (by decide) rfl (z_sub [2, 3, 4, 1, 0] [(0, .ref (z_ad g 125)), (1, .ref (z_ad g a1)), (2, .int a2), (3, .int r1), (4, .int 0)] rfl ?_)))))))
  have hw := z_lp_w (fun q9 kb9 kx9 h1 h2 h3 => wb_X8_measure_12 (l := l) (e := e) (below := below) (u := u2) hR X a1 a2 r1 ea1 q9 kb9 kx9 h1 h2 h3) z_F _ _ h
  refine hw (fun t19 h => ?_)
  cases h; exact z_vret X rfl dX8_measure_112 ⟨rfl, rfl⟩

theorem ini_X9_isIn_X8_valuesIn : Cond.initialized yX9_isIn.cls ∈ wsX8_valuesIn := by decide +kernel
theorem sta_X9_isIn_X8_valuesIn : Cond.static yX9_isIn ∈ wsX8_valuesIn := by decide +kernel
theorem lk_X8_valuesIn_18 : (Cond.fieldLink RX8 18 RX8 (TX8 2).2.1 (TX8 2).2.2.1) ∈ wsX8_valuesIn := by decide +kernel
theorem in_X8_valuesIn_X8 : ∀ w ∈ u_ws RX8 TX8 5, w ∈ wsX8_valuesIn := by decide +kernel
def b_X8_valuesIn_4 (x1 : Int32) (u : z_M) : (Int32 × Int32) → ((Int32 × Int32) → Option (Int32)) → (Int32 → Option (Int32)) → Option (Int32) := fun q kb kx =>
  if 9 ≤ q.2 then (kx q.1) else (Option.bind (f_X9_isIn x1 q.2) (fun r2 => if r2 = 0 then (kb (q.1, q.2 + 1)) else (z_gd (z_inb q.2 9) (z_lt (q.1 + (z_gI u 128 q.2.toNatClampNeg)) (fun v5 => kb (v5, q.2 + 1))))))
def f_X8_valuesIn (a1 : Int32) (u : z_M) : Option (Int32) :=
  z_lp (b_X8_valuesIn_4 a1 u) z_F (0, 0) (fun t6 => some t6)
set_option maxRecDepth 20000 in
set_option maxHeartbeats 4000000 in
theorem wb_X8_valuesIn_4 {p : Program} {l : Launch} {e : Env} {R : Room} {s : State} {m : MethodId} {args : Array Value} {below : List Frame} {meth : Method} {c : Code} {g : z_G} {u : z_M} {res : Int32} (hR : R = z_rm 2) (X : z_X p R s m args meth c cX8_valuesIn 4 RX8 wsX8_valuesIn (some .int) g z_shC) (x1 : Int32) (q : Int32 × Int32) (kb : (Int32 × Int32) → Option (Int32)) (kx : Int32 → Option (Int32)) (hkb : ∀ q, kb q = some res → z_V p l e R s m args below meth c 4 g z_shC (MQ below (z_Qc g z_shC (fun v u' => v = some (.int res) ∧ u' = u)) args s 0 0 (z_A g z_shC)) 4 [(0, .ref (z_ad g 125)), (1, .int x1), (2, .int q.1), (3, .int q.2)] [] u) (hkx : ∀ t, kx t = some res → z_V p l e R s m args below meth c 4 g z_shC (MQ below (z_Qc g z_shC (fun v u' => v = some (.int res) ∧ u' = u)) args s 0 0 (z_A g z_shC)) 33 [(2, .int t)] [] u) (h : b_X8_valuesIn_4 x1 u q kb kx = some res) : z_V p l e R s m args below meth c 4 g z_shC (MQ below (z_Qc g z_shC (fun v u' => v = some (.int res) ∧ u' = u)) args s 0 0 (z_A g z_shC)) 4 [(0, .ref (z_ad g 125)), (1, .int x1), (2, .int q.1), (3, .int q.2)] [] u := by
  unfold b_X8_valuesIn_4 at h
  refine z_iload_n X 3 dX8_valuesIn_4 rfl rfl (z_bipush X (v := 9) dX8_valuesIn_5 (by decide) (z_icmp_ge X 33 dX8_valuesIn_7 (by decide) (fun c1 => ?_) (fun c1 => ?_)))
  · replace h := z_ip c1 h
    refine z_sub [2] [(2, .int q.1)] rfl ?_
    exact hkx q.1 h
  · replace h := z_in c1 h
    obtain ⟨r2, er2, h⟩ := z_bs h
    refine z_iload_n X 1 dX8_valuesIn_10 rfl rfl (z_iload_n X 3 dX8_valuesIn_11 rfl rfl (z_callNi X (r := r2) (u1 := u) [.int x1, .int q.2] [] (w_X9_isIn l g x1 q.2 u er2) gX8_valuesIn_X9_isIn_n33 nn_X8 ini_X9_isIn_X8_valuesIn sta_X9_isIn_X8_valuesIn hy_X9_isIn.2 rfl (z_le1 hR (by decide)) (z_le2 hR (by decide) (by decide)) (Nat.le_of_ble_eq_true rfl) dX8_valuesIn_12 (z_if_eq X 27 dX8_valuesIn_15 (by decide) (fun c3 => ?_) (fun c3 => ?_))))
    · replace h := z_ip c3 h
      refine z_iinc X (v := q.2 + 1) 3 [(3, .int (q.2 + 1)), (0, .ref (z_ad g 125)), (1, .int x1), (2, .int q.1)] dX8_valuesIn_27 rfl rfl (by decide) rfl (z_goto X 4 dX8_valuesIn_30 (by decide) (z_sub [1, 2, 3, 0] [(0, .ref (z_ad g 125)), (1, .int x1), (2, .int q.1), (3, .int (q.2 + 1))] rfl ?_))
      exact hkb (q.1, q.2 + 1) h
    · replace h := z_in c3 h
      obtain ⟨b4, h⟩ := z_gs h
      obtain ⟨v5, ev5, h⟩ := z_ls h
      refine z_iload_n X 2 dX8_valuesIn_18 rfl rfl (z_aload_n X 0 dX8_valuesIn_19 rfl rfl (z_getR X (k0 := 2) z_c125 rfl in_X8_valuesIn_X8 (by decide) rfl rfl lk_X8_valuesIn_18 dX8_valuesIn_20 (z_iload_n X 3 dX8_valuesIn_23 rfl rfl (z_iald X z_c128 (z_inS b4) dX8_valuesIn_24 (z_iadd X dX8_valuesIn_25 (z_ti ev5 (z_istore_n X [(2, .int v5), (0, .ref (z_ad g 125)), (1, .int x1), (3, .int q.2)] dX8_valuesIn_26 rfl (by decide) rfl (z_iinc X (v := q.2 + 1) 3 [(3, .int (q.2 + 1)), (2, .int v5), (0, .ref (z_ad g 125)), (1, .int x1)] dX8_valuesIn_27 rfl rfl (by decide) rfl (z_goto X 4 dX8_valuesIn_30 (by decide) (z_sub [2, 3, 1, 0] [(0, .ref (z_ad g 125)), (1, .int x1), (2, .int v5), (3, .int (q.2 + 1))] rfl ?_))))))))))
      exact hkb (v5, q.2 + 1) h
set_option maxRecDepth 20000 in
set_option maxHeartbeats 4000000 in
theorem w_X8_valuesIn (l : Launch) (g : z_G) (a1 : Int32) (u : z_M) {res : Int32} (h : f_X8_valuesIn a1 u = some res) : z_C l g z_shC yX8_valuesIn wsX8_valuesIn 2 [.ref (z_ad g 125), .int a1] u (fun v u' => v = some (.int res) ∧ u' = u) := by
  refine z_C.mk (lv := [(0, .ref (z_ad g 125)), (1, .int a1)]) (cc := cX8_valuesIn) (nL := 4) (rt := (some .int)) rfl (by decide) (Nat.le_of_ble_eq_true rfl) rfl (fun p e R s m args below meth c hR X => ?_)
  unfold f_X8_valuesIn at h
  refine z_iconst X (v := 0) dX8_valuesIn_0 (by decide) (z_istore_n X [(2, .int 0), (0, .ref (z_ad g 125)), (1, .int a1)] dX8_valuesIn_1 rfl (by decide) rfl (z_iconst X (v := 0) dX8_valuesIn_2 (by decide) (z_istore_n X [(3, .int 0), (2, .int 0), (0, .ref (z_ad g 125)), (1, .int a1)] dX8_valuesIn_3 rfl (by decide) rfl (z_sub [2, 3, 1, 0] [(0, .ref (z_ad g 125)), (1, .int a1), (2, .int 0), (3, .int 0)] rfl ?_))))
  have hw := z_lp_w (fun q9 kb9 kx9 h1 h2 h3 => wb_X8_valuesIn_4 (l := l) (e := e) (below := below) (u := u) hR X a1 q9 kb9 kx9 h1 h2 h3) z_F _ _ h
  refine hw (fun t6 h => ?_)
  refine z_iload_n X 0 dX8_valuesIn_33 rfl rfl ?_
  cases h; exact z_iret X rfl dX8_valuesIn_34 ⟨rfl, rfl⟩

theorem lk_X8_mobius_9 : (Cond.fieldLink RX8 9 RX8 (TX8 0).2.1 (TX8 0).2.2.1) ∈ wsX8_mobius := by decide +kernel
theorem in_X8_mobius_X8 : ∀ w ∈ u_ws RX8 TX8 5, w ∈ wsX8_mobius := by decide +kernel
theorem ini_X9_isIn_X8_mobius : Cond.initialized yX9_isIn.cls ∈ wsX8_mobius := by decide +kernel
theorem sta_X9_isIn_X8_mobius : Cond.static yX9_isIn ∈ wsX8_mobius := by decide +kernel
theorem lk_X8_mobius_18 : (Cond.fieldLink RX8 18 RX8 (TX8 2).2.1 (TX8 2).2.2.1) ∈ wsX8_mobius := by decide +kernel
theorem lk_X8_mobius_37 : (Cond.fieldLink RX8 37 RX6 (TX6 4).2.1 (TX6 4).2.2.1) ∈ wsX8_mobius := by decide +kernel
theorem in_X8_mobius_X6 : ∀ w ∈ u_ws RX6 TX6 6, w ∈ wsX8_mobius := by decide +kernel
theorem hy_X8_valuesIn : yX8_valuesIn.cls = RX8 ∧ yX8_valuesIn.cls ≠ "java/lang/invoke/MethodHandle" ∧ yX8_valuesIn.cls ≠ "java/lang/invoke/VarHandle" ∧ (parseMethodDescriptor yX8_valuesIn.desc).map (fun d => d.parameters.length) = some 1 := by decide +kernel
def b_X8_mobius_13 (x1 : Nat) (x2 : Int32) (x3 : Int32) (x4 : Int32) (x5 : Int32) : (Int32 × z_M) → ((Int32 × z_M) → Option (Int32 × z_M)) → (z_M → Option (Int32 × z_M)) → Option (Int32 × z_M) := fun q kb kx =>
  if x5 ≤ q.1 then (kx q.2) else (z_gd (z_inb q.1 9) (z_lt (z_gI q.2 126 q.1.toNatClampNeg) (fun v5 => Option.bind (f_X9_isIn x4 v5) (fun r6 => if r6 = 0 then (kb (q.1 + 1, q.2)) else (if v5 = x2 then (z_gd (z_inb v5 9) (z_lt (z_sI q.2 128 v5.toNatClampNeg 1) (fun u10 => kb (q.1 + 1, u10)))) else (z_gd (z_inb v5 9) (Option.bind (f_X8_valuesIn ((z_gI q.2 (x1 + 2) v5.toNatClampNeg) &&& x4) q.2) (fun r12 => z_gd (z_inb v5 9) (z_lt (z_sI q.2 128 v5.toNatClampNeg (-r12)) (fun u14 => kb (q.1 + 1, u14)))))))))))
def f_X8_mobius (a1 : Nat) (a2 : Int32) (a3 : Int32) (a4 : Int32) (u : z_M) : Option (Int32 × z_M) :=
  z_b2 (f_X6_leastRow a1 126 9 u) (fun r1 u2 => z_lp (b_X8_mobius_13 a1 a2 a3 a4 r1) z_F (0, u2) (fun t15 => Option.bind (f_X9_isIn a4 a3) (fun r16 => if r16 = 0 then (some (0, t15)) else (z_gd (z_inb a3 9) (some (z_gI t15 128 a3.toNatClampNeg, t15))))))
set_option maxRecDepth 20000 in
set_option maxHeartbeats 4000000 in
theorem wb_X8_mobius_13 {p : Program} {l : Launch} {e : Env} {R : Room} {s : State} {m : MethodId} {args : Array Value} {below : List Frame} {meth : Method} {c : Code} {g : z_G} {u : z_M} {res : Int32 × z_M} (hR : R = z_rm 4) (X : z_X p R s m args meth c cX8_mobius 8 RX8 wsX8_mobius (some .int) g z_shC) (x1 : Nat) (x2 : Int32) (x3 : Int32) (x4 : Int32) (x5 : Int32) (ex1 : z_PO x1) (q : Int32 × z_M) (kb : (Int32 × z_M) → Option (Int32 × z_M)) (kx : z_M → Option (Int32 × z_M)) (hkb : ∀ q, kb q = some res → z_V p l e R s m args below meth c 8 g z_shC (MQ below (z_Qc g z_shC (fun v u' => v = some (.int res.1) ∧ u' = res.2)) args s 0 0 (z_A g z_shC)) 13 [(0, .ref (z_ad g 125)), (1, .ref (z_ad g x1)), (2, .int x2), (3, .int x3), (4, .int x4), (5, .int x5), (6, .int q.1)] [] q.2) (hkx : ∀ t, kx t = some res → z_V p l e R s m args below meth c 8 g z_shC (MQ below (z_Qc g z_shC (fun v u' => v = some (.int res.1) ∧ u' = res.2)) args s 0 0 (z_A g z_shC)) 77 [(0, .ref (z_ad g 125)), (3, .int x3), (4, .int x4)] [] t) (h : b_X8_mobius_13 x1 x2 x3 x4 x5 q kb kx = some res) : z_V p l e R s m args below meth c 8 g z_shC (MQ below (z_Qc g z_shC (fun v u' => v = some (.int res.1) ∧ u' = res.2)) args s 0 0 (z_A g z_shC)) 13 [(0, .ref (z_ad g 125)), (1, .ref (z_ad g x1)), (2, .int x2), (3, .int x3), (4, .int x4), (5, .int x5), (6, .int q.1)] [] q.2 := by
  unfold b_X8_mobius_13 at h
  refine z_iload X 6 dX8_mobius_13 rfl (z_iload X 5 dX8_mobius_15 rfl (z_icmp_ge X 77 dX8_mobius_17 (by decide) (fun c3 => ?_) (fun c3 => ?_)))
  · replace h := z_ip c3 h
    refine z_sub [0, 3, 4] [(0, .ref (z_ad g 125)), (3, .int x3), (4, .int x4)] rfl ?_
    exact hkx q.2 h
  · replace h := z_in c3 h
    obtain ⟨b4, h⟩ := z_gs h
    obtain ⟨v5, ev5, h⟩ := z_ls h
    obtain ⟨r6, er6, h⟩ := z_bs h
    refine z_aload_n X 0 dX8_mobius_20 rfl rfl (z_getR X (k0 := 0) z_c125 rfl in_X8_mobius_X8 (by decide) rfl rfl lk_X8_mobius_9 dX8_mobius_21 (z_iload X 6 dX8_mobius_24 rfl (z_iald X z_c126 (z_inS b4) dX8_mobius_26 (z_ti ev5 (z_istore X [(7, .int v5), (0, .ref (z_ad g 125)), (1, .ref (z_ad g x1)), (2, .int x2), (3, .int x3), (4, .int x4), (5, .int x5), (6, .int q.1)] dX8_mobius_27 (by decide) rfl (z_iload X 5 dX8_mobius_29 rfl (z_iload X 0 dX8_mobius_31 rfl (z_callNi X (r := r6) (u1 := q.2) [.int x4, .int v5] [] (w_X9_isIn l g x4 v5 q.2 er6) gX8_mobius_X9_isIn_n33 nn_X8 ini_X9_isIn_X8_mobius sta_X9_isIn_X8_mobius hy_X9_isIn.2 rfl (z_le1 hR (by decide)) (z_le2 hR (by decide) (by decide)) (Nat.le_of_ble_eq_true rfl) dX8_mobius_33 (z_if_eq X 71 dX8_mobius_36 (by decide) (fun c7 => ?_) (fun c7 => ?_))))))))))
    · replace h := z_ip c7 h
      refine z_iinc X (v := q.1 + 1) 7 [(6, .int (q.1 + 1)), (7, .int v5), (0, .ref (z_ad g 125)), (1, .ref (z_ad g x1)), (2, .int x2), (3, .int x3), (4, .int x4), (5, .int x5)] dX8_mobius_71 rfl rfl (by decide) rfl (z_goto X 13 dX8_mobius_74 (by decide) (z_sub [2, 3, 4, 5, 6, 7, 0] [(0, .ref (z_ad g 125)), (1, .ref (z_ad g x1)), (2, .int x2), (3, .int x3), (4, .int x4), (5, .int x5), (6, .int (q.1 + 1))] rfl ?_))
      exact hkb (q.1 + 1, q.2) h
    · replace h := z_in c7 h
      refine z_aload_n X 1 dX8_mobius_39 rfl rfl (z_getR X (k0 := 2) z_c125 rfl in_X8_mobius_X8 (by decide) rfl rfl lk_X8_mobius_18 dX8_mobius_40 (z_iload X 0 dX8_mobius_43 rfl (z_iload X 0 dX8_mobius_45 rfl (z_iload_n X 3 dX8_mobius_47 rfl rfl (z_icmp_ne X 55 dX8_mobius_48 (by decide) (fun c8 => ?_) (fun c8 => ?_))))))
      · replace h := z_in c8 h
        obtain ⟨b11, h⟩ := z_gs h
        obtain ⟨r12, er12, h⟩ := z_bs h
        obtain ⟨b13, h⟩ := z_gs h
        obtain ⟨u14, eu14, h⟩ := z_ls h
        refine z_aload_n X 1 dX8_mobius_55 rfl rfl (z_aload_n X 2 dX8_mobius_56 rfl rfl (z_getR X (k0 := 4) (z_po ex1) rfl in_X8_mobius_X6 (by decide) rfl rfl lk_X8_mobius_37 dX8_mobius_57 (z_iload X 0 dX8_mobius_60 rfl (z_iald X (z_poU ex1) (z_inS b11) dX8_mobius_62 (z_iload X 5 dX8_mobius_63 rfl (z_iand X dX8_mobius_65 (z_callVi X (r := r12) (u1 := q.2) [.int ((z_gI q.2 (x1 + 2) v5.toNatClampNeg) &&& x4)] [.int v5, .ref (z_ad g 128)] (w_X8_valuesIn l g ((z_gI q.2 (x1 + 2) v5.toNatClampNeg) &&& x4) q.2 er12) z_c125 rfl gX8_mobius_X8_valuesIn hy_X8_valuesIn rfl (z_le1 hR (by decide)) (z_le2 hR (by decide) (by decide)) (Nat.le_of_ble_eq_true rfl) dX8_mobius_66 (z_ineg X dX8_mobius_69 (z_iast X z_c128 (z_inS b13) dX8_mobius_70 (z_nm eu14 (z_iinc X (v := q.1 + 1) 7 [(6, .int (q.1 + 1)), (7, .int v5), (0, .ref (z_ad g 125)), (1, .ref (z_ad g x1)), (2, .int x2), (3, .int x3), (4, .int x4), (5, .int x5)] dX8_mobius_71 rfl rfl (by decide) rfl (z_goto X 13 dX8_mobius_74 (by decide) (z_sub [2, 3, 4, 5, 6, 7, 0] [(0, .ref (z_ad g 125)), (1, .ref (z_ad g x1)), (2, .int x2), (3, .int x3), (4, .int x4), (5, .int x5), (6, .int (q.1 + 1))] rfl ?_)))))))))))))
        exact hkb (q.1 + 1, u14) h
      · replace h := z_ip c8 h
        obtain ⟨b9, h⟩ := z_gs h
        obtain ⟨u10, eu10, h⟩ := z_ls h
        refine z_iconst X (v := 1) dX8_mobius_51 (by decide) (z_goto X 70 dX8_mobius_52 (by decide) (z_iast X z_c128 (z_inS b9) dX8_mobius_70 (z_nm eu10 (z_iinc X (v := q.1 + 1) 7 [(6, .int (q.1 + 1)), (7, .int v5), (0, .ref (z_ad g 125)), (1, .ref (z_ad g x1)), (2, .int x2), (3, .int x3), (4, .int x4), (5, .int x5)] dX8_mobius_71 rfl rfl (by decide) rfl (z_goto X 13 dX8_mobius_74 (by decide) (z_sub [2, 3, 4, 5, 6, 7, 0] [(0, .ref (z_ad g 125)), (1, .ref (z_ad g x1)), (2, .int x2), (3, .int x3), (4, .int x4), (5, .int x5), (6, .int (q.1 + 1))] rfl ?_))))))
        exact hkb (q.1 + 1, u10) h
set_option maxRecDepth 20000 in
set_option maxHeartbeats 4000000 in
theorem w_X8_mobius (l : Launch) (g : z_G) (a1 : Nat) (a2 : Int32) (a3 : Int32) (a4 : Int32) (ea1 : z_PO a1) (u : z_M) {res : Int32 × z_M} (h : f_X8_mobius a1 a2 a3 a4 u = some res) : z_C l g z_shC yX8_mobius wsX8_mobius 4 [.ref (z_ad g 125), .ref (z_ad g a1), .int a2, .int a3, .int a4] u (fun v u' => v = some (.int res.1) ∧ u' = res.2) := by
  refine z_C.mk (lv := [(0, .ref (z_ad g 125)), (1, .ref (z_ad g a1)), (2, .int a2), (3, .int a3), (4, .int a4)]) (cc := cX8_mobius) (nL := 8) (rt := (some .int)) rfl (by decide) (Nat.le_of_ble_eq_true rfl) rfl (fun p e R s m args below meth c hR X => ?_)
  unfold f_X8_mobius at h
  obtain ⟨r1, u2, er1, h⟩ := z_b2s h
  refine z_aload_n X 1 dX8_mobius_0 rfl rfl (z_aload_n X 0 dX8_mobius_1 rfl rfl (z_getR X (k0 := 0) z_c125 rfl in_X8_mobius_X8 (by decide) rfl rfl lk_X8_mobius_9 dX8_mobius_2 (z_callVi X (r := r1) (u1 := u2) [.ref (z_ad g 126)] [] (w_X6_leastRow l g a1 126 9 ea1 z_c126 u er1) (z_po ea1) rfl gX8_mobius_X6_leastRow hy_X6_leastRow rfl (z_le1 hR (by decide)) (z_le2 hR (by decide) (by decide)) (Nat.le_of_ble_eq_true rfl) dX8_mobius_5 (z_istore X [(5, .int r1), (0, .ref (z_ad g 125)), (1, .ref (z_ad g a1)), (2, .int a2), (3, .int a3), (4, .int a4)] dX8_mobius_8 (by decide) rfl (z_iconst X (v := 0) dX8_mobius_10 (by decide) (z_istore X [(6, .int 0), (5, .int r1), (0, .ref (z_ad g 125)), (1, .ref (z_ad g a1)), (2, .int a2), (3, .int a3), (4, .int a4)] dX8_mobius_11 (by decide) rfl (z_sub [2, 3, 4, 5, 6, 1, 0] [(0, .ref (z_ad g 125)), (1, .ref (z_ad g a1)), (2, .int a2), (3, .int a3), (4, .int a4), (5, .int r1), (6, .int 0)] rfl ?_)))))))
  have hw := z_lp_w (fun q9 kb9 kx9 h1 h2 h3 => wb_X8_mobius_13 (l := l) (e := e) (below := below) (u := u2) hR X a1 a2 a3 a4 r1 ea1 q9 kb9 kx9 h1 h2 h3) z_F _ _ h
  refine hw (fun t15 h => ?_)
  obtain ⟨r16, er16, h⟩ := z_bs h
  refine z_iload X 2 dX8_mobius_77 rfl (z_iload_n X 1 dX8_mobius_79 rfl rfl (z_callNi X (r := r16) (u1 := t15) [.int a4, .int a3] [] (w_X9_isIn l g a4 a3 t15 er16) gX8_mobius_X9_isIn_n33 nn_X8 ini_X9_isIn_X8_mobius sta_X9_isIn_X8_mobius hy_X9_isIn.2 rfl (z_le1 hR (by decide)) (z_le2 hR (by decide) (by decide)) (Nat.le_of_ble_eq_true rfl) dX8_mobius_80 (z_if_eq X 95 dX8_mobius_83 (by decide) (fun c17 => ?_) (fun c17 => ?_))))
  · replace h := z_ip c17 h
    refine z_iconst X (v := 0) dX8_mobius_95 (by decide) ?_
    cases h; exact z_iret X rfl dX8_mobius_96 ⟨rfl, rfl⟩
  · replace h := z_in c17 h
    obtain ⟨b18, h⟩ := z_gs h
    refine z_aload_n X 0 dX8_mobius_86 rfl rfl (z_getR X (k0 := 2) z_c125 rfl in_X8_mobius_X8 (by decide) rfl rfl lk_X8_mobius_18 dX8_mobius_87 (z_iload_n X 1 dX8_mobius_90 rfl rfl (z_iald X z_c128 (z_inS b18) dX8_mobius_91 (z_goto X 96 dX8_mobius_92 (by decide) ?_))))
    cases h; exact z_iret X rfl dX8_mobius_96 ⟨rfl, rfl⟩

theorem ini_X9_isIn_X8_atHeights : Cond.initialized yX9_isIn.cls ∈ wsX8_atHeights := by decide +kernel
theorem sta_X9_isIn_X8_atHeights : Cond.static yX9_isIn ∈ wsX8_atHeights := by decide +kernel
theorem lk_X8_atHeights_15 : (Cond.fieldLink RX8 15 RX8 (TX8 1).2.1 (TX8 1).2.2.1) ∈ wsX8_atHeights := by decide +kernel
theorem in_X8_atHeights_X8 : ∀ w ∈ u_ws RX8 TX8 5, w ∈ wsX8_atHeights := by decide +kernel
def b_X8_atHeights_5 (x1 : Int32) (x2 : Int32) (u : z_M) : (Int32 × Int32) → ((Int32 × Int32) → Option (Int32)) → (Int32 → Option (Int32)) → Option (Int32) := fun q kb kx =>
  if 9 ≤ q.2 then (kx q.1) else (Option.bind (f_X9_isIn x1 q.2) (fun r2 => if r2 = 0 then (kb (q.1, q.2 + 1)) else (z_gd (z_inb q.2 9) (Option.bind (f_X9_isIn x2 (z_gI u 127 q.2.toNatClampNeg)) (fun r5 => if r5 = 0 then (kb (q.1, q.2 + 1)) else (z_lt (q.1 ||| (1 <<< (q.2 &&& 31))) (fun v7 => kb (v7, q.2 + 1))))))))
def f_X8_atHeights (a1 : Int32) (a2 : Int32) (u : z_M) : Option (Int32) :=
  z_lp (b_X8_atHeights_5 a1 a2 u) z_F (0, 0) (fun t8 => some t8)
set_option maxRecDepth 20000 in
set_option maxHeartbeats 4000000 in
theorem wb_X8_atHeights_5 {p : Program} {l : Launch} {e : Env} {R : Room} {s : State} {m : MethodId} {args : Array Value} {below : List Frame} {meth : Method} {c : Code} {g : z_G} {u : z_M} {res : Int32} (hR : R = z_rm 2) (X : z_X p R s m args meth c cX8_atHeights 5 RX8 wsX8_atHeights (some .int) g z_shC) (x1 : Int32) (x2 : Int32) (q : Int32 × Int32) (kb : (Int32 × Int32) → Option (Int32)) (kx : Int32 → Option (Int32)) (hkb : ∀ q, kb q = some res → z_V p l e R s m args below meth c 5 g z_shC (MQ below (z_Qc g z_shC (fun v u' => v = some (.int res) ∧ u' = u)) args s 0 0 (z_A g z_shC)) 5 [(0, .ref (z_ad g 125)), (1, .int x1), (2, .int x2), (3, .int q.1), (4, .int q.2)] [] u) (hkx : ∀ t, kx t = some res → z_V p l e R s m args below meth c 5 g z_shC (MQ below (z_Qc g z_shC (fun v u' => v = some (.int res) ∧ u' = u)) args s 0 0 (z_A g z_shC)) 48 [(3, .int t)] [] u) (h : b_X8_atHeights_5 x1 x2 u q kb kx = some res) : z_V p l e R s m args below meth c 5 g z_shC (MQ below (z_Qc g z_shC (fun v u' => v = some (.int res) ∧ u' = u)) args s 0 0 (z_A g z_shC)) 5 [(0, .ref (z_ad g 125)), (1, .int x1), (2, .int x2), (3, .int q.1), (4, .int q.2)] [] u := by
  unfold b_X8_atHeights_5 at h
  refine z_iload X 4 dX8_atHeights_5 rfl (z_bipush X (v := 9) dX8_atHeights_7 (by decide) (z_icmp_ge X 48 dX8_atHeights_9 (by decide) (fun c1 => ?_) (fun c1 => ?_)))
  · replace h := z_ip c1 h
    refine z_sub [3] [(3, .int q.1)] rfl ?_
    exact hkx q.1 h
  · replace h := z_in c1 h
    obtain ⟨r2, er2, h⟩ := z_bs h
    refine z_iload_n X 1 dX8_atHeights_12 rfl rfl (z_iload X 4 dX8_atHeights_13 rfl (z_callNi X (r := r2) (u1 := u) [.int x1, .int q.2] [] (w_X9_isIn l g x1 q.2 u er2) gX8_atHeights_X9_isIn_n33 nn_X8 ini_X9_isIn_X8_atHeights sta_X9_isIn_X8_atHeights hy_X9_isIn.2 rfl (z_le1 hR (by decide)) (z_le2 hR (by decide) (by decide)) (Nat.le_of_ble_eq_true rfl) dX8_atHeights_15 (z_if_eq X 42 dX8_atHeights_18 (by decide) (fun c3 => ?_) (fun c3 => ?_))))
    · replace h := z_ip c3 h
      refine z_iinc X (v := q.2 + 1) 4 [(4, .int (q.2 + 1)), (0, .ref (z_ad g 125)), (1, .int x1), (2, .int x2), (3, .int q.1)] dX8_atHeights_42 rfl rfl (by decide) rfl (z_goto X 5 dX8_atHeights_45 (by decide) (z_sub [1, 2, 3, 4, 0] [(0, .ref (z_ad g 125)), (1, .int x1), (2, .int x2), (3, .int q.1), (4, .int (q.2 + 1))] rfl ?_))
      exact hkb (q.1, q.2 + 1) h
    · replace h := z_in c3 h
      obtain ⟨b4, h⟩ := z_gs h
      obtain ⟨r5, er5, h⟩ := z_bs h
      refine z_iload_n X 2 dX8_atHeights_21 rfl rfl (z_aload_n X 0 dX8_atHeights_22 rfl rfl (z_getR X (k0 := 1) z_c125 rfl in_X8_atHeights_X8 (by decide) rfl rfl lk_X8_atHeights_15 dX8_atHeights_23 (z_iload X 4 dX8_atHeights_26 rfl (z_iald X z_c127 (z_inS b4) dX8_atHeights_28 (z_callNi X (r := r5) (u1 := u) [.int x2, .int (z_gI u 127 q.2.toNatClampNeg)] [] (w_X9_isIn l g x2 (z_gI u 127 q.2.toNatClampNeg) u er5) gX8_atHeights_X9_isIn_n33 nn_X8 ini_X9_isIn_X8_atHeights sta_X9_isIn_X8_atHeights hy_X9_isIn.2 rfl (z_le1 hR (by decide)) (z_le2 hR (by decide) (by decide)) (Nat.le_of_ble_eq_true rfl) dX8_atHeights_29 (z_if_eq X 42 dX8_atHeights_32 (by decide) (fun c6 => ?_) (fun c6 => ?_)))))))
      · replace h := z_ip c6 h
        refine z_iinc X (v := q.2 + 1) 4 [(4, .int (q.2 + 1)), (0, .ref (z_ad g 125)), (1, .int x1), (2, .int x2), (3, .int q.1)] dX8_atHeights_42 rfl rfl (by decide) rfl (z_goto X 5 dX8_atHeights_45 (by decide) (z_sub [1, 2, 3, 4, 0] [(0, .ref (z_ad g 125)), (1, .int x1), (2, .int x2), (3, .int q.1), (4, .int (q.2 + 1))] rfl ?_))
        exact hkb (q.1, q.2 + 1) h
      · replace h := z_in c6 h
        obtain ⟨v7, ev7, h⟩ := z_ls h
        refine z_iload_n X 3 dX8_atHeights_35 rfl rfl (z_iconst X (v := 1) dX8_atHeights_36 (by decide) (z_iload X 4 dX8_atHeights_37 rfl (z_ishl X dX8_atHeights_39 (z_ior X dX8_atHeights_40 (z_ti ev7 (z_istore_n X [(3, .int v7), (0, .ref (z_ad g 125)), (1, .int x1), (2, .int x2), (4, .int q.2)] dX8_atHeights_41 rfl (by decide) rfl (z_iinc X (v := q.2 + 1) 4 [(4, .int (q.2 + 1)), (3, .int v7), (0, .ref (z_ad g 125)), (1, .int x1), (2, .int x2)] dX8_atHeights_42 rfl rfl (by decide) rfl (z_goto X 5 dX8_atHeights_45 (by decide) (z_sub [2, 3, 4, 1, 0] [(0, .ref (z_ad g 125)), (1, .int x1), (2, .int x2), (3, .int v7), (4, .int (q.2 + 1))] rfl ?_)))))))))
        exact hkb (v7, q.2 + 1) h
set_option maxRecDepth 20000 in
set_option maxHeartbeats 4000000 in
theorem w_X8_atHeights (l : Launch) (g : z_G) (a1 : Int32) (a2 : Int32) (u : z_M) {res : Int32} (h : f_X8_atHeights a1 a2 u = some res) : z_C l g z_shC yX8_atHeights wsX8_atHeights 2 [.ref (z_ad g 125), .int a1, .int a2] u (fun v u' => v = some (.int res) ∧ u' = u) := by
  refine z_C.mk (lv := [(0, .ref (z_ad g 125)), (1, .int a1), (2, .int a2)]) (cc := cX8_atHeights) (nL := 5) (rt := (some .int)) rfl (by decide) (Nat.le_of_ble_eq_true rfl) rfl (fun p e R s m args below meth c hR X => ?_)
  unfold f_X8_atHeights at h
  refine z_iconst X (v := 0) dX8_atHeights_0 (by decide) (z_istore_n X [(3, .int 0), (0, .ref (z_ad g 125)), (1, .int a1), (2, .int a2)] dX8_atHeights_1 rfl (by decide) rfl (z_iconst X (v := 0) dX8_atHeights_2 (by decide) (z_istore X [(4, .int 0), (3, .int 0), (0, .ref (z_ad g 125)), (1, .int a1), (2, .int a2)] dX8_atHeights_3 (by decide) rfl (z_sub [2, 3, 4, 1, 0] [(0, .ref (z_ad g 125)), (1, .int a1), (2, .int a2), (3, .int 0), (4, .int 0)] rfl ?_))))
  have hw := z_lp_w (fun q9 kb9 kx9 h1 h2 h3 => wb_X8_atHeights_5 (l := l) (e := e) (below := below) (u := u) hR X a1 a2 q9 kb9 kx9 h1 h2 h3) z_F _ _ h
  refine hw (fun t8 h => ?_)
  refine z_iload_n X 0 dX8_atHeights_48 rfl rfl ?_
  cases h; exact z_iret X rfl dX8_atHeights_49 ⟨rfl, rfl⟩

theorem ini_X9_isIn_X8_flagOf : Cond.initialized yX9_isIn.cls ∈ wsX8_flagOf := by decide +kernel
theorem sta_X9_isIn_X8_flagOf : Cond.static yX9_isIn ∈ wsX8_flagOf := by decide +kernel
theorem lk_X8_flagOf_18 : (Cond.fieldLink RX8 18 RX8 (TX8 2).2.1 (TX8 2).2.2.1) ∈ wsX8_flagOf := by decide +kernel
theorem in_X8_flagOf_X8 : ∀ w ∈ u_ws RX8 TX8 5, w ∈ wsX8_flagOf := by decide +kernel
theorem lk_X8_flagOf_37 : (Cond.fieldLink RX8 37 RX6 (TX6 4).2.1 (TX6 4).2.2.1) ∈ wsX8_flagOf := by decide +kernel
theorem in_X8_flagOf_X6 : ∀ w ∈ u_ws RX6 TX6 6, w ∈ wsX8_flagOf := by decide +kernel
theorem hy_X8_atHeights : yX8_atHeights.cls = RX8 ∧ yX8_atHeights.cls ≠ "java/lang/invoke/MethodHandle" ∧ yX8_atHeights.cls ≠ "java/lang/invoke/VarHandle" ∧ (parseMethodDescriptor yX8_atHeights.desc).map (fun d => d.parameters.length) = some 2 := by decide +kernel
def b_X8_flagOf_48 (x1 : Nat) (x2 : Int32) (x3 : Int32) (x5 : Int32) (x6 : Int32) (x7 : Int32) (x8 : Int32) : (Int32 × Int32 × z_M) → ((Int32 × Int32 × z_M) → Option (Int32 × z_M)) → ((Int32 × z_M) → Option (Int32 × z_M)) → Option (Int32 × z_M) := fun q kb kx =>
  if 9 ≤ q.2.1 then (kx (q.1, q.2.2)) else (Option.bind (f_X9_isIn x8 q.2.1) (fun r6 => if r6 = 0 then (kb (q.1, q.2.1 + 1, q.2.2)) else (if x6 = 0 then (z_gd (z_inb q.2.1 9) (Option.bind (f_X8_valuesIn ((z_gI q.2.2 (x1 + 2) q.2.1.toNatClampNeg) &&& x5) q.2.2) (fun r10 => z_gd (z_inb q.2.1 9) (z_lt (z_sI q.2.2 128 q.2.1.toNatClampNeg r10) (fun u12 => z_gd (z_inb q.2.1 9) (z_lt (q.1 + (z_gI u12 128 q.2.1.toNatClampNeg)) (fun v14 => kb (v14, q.2.1 + 1, u12)))))))) else (z_gd (z_inb q.2.1 9) (z_lt (z_sI q.2.2 128 q.2.1.toNatClampNeg 1) (fun u16 => z_gd (z_inb q.2.1 9) (z_lt (q.1 + (z_gI u16 128 q.2.1.toNatClampNeg)) (fun v18 => kb (v18, q.2.1 + 1, u16)))))))))
def b_X8_flagOf_12 (x1 : Nat) (x2 : Int32) (x3 : Int32) : (Int32 × Int32 × Int32 × Int32 × z_M) → ((Int32 × Int32 × Int32 × Int32 × z_M) → Option (Int32 × z_M)) → ((Int32 × z_M) → Option (Int32 × z_M)) → Option (Int32 × z_M) := fun q kb kx =>
  if 9 ≤ q.2.2.2.1 then (kx (q.1, q.2.2.2.2)) else (Option.bind (f_X9_isIn x3 q.2.2.2.1) (fun r2 => if r2 = 0 then (kb (q.1, q.2.1, q.2.2.1, q.2.2.2.1 + 1, q.2.2.2.2)) else (Option.bind (f_X8_atHeights x2 (1 <<< (q.2.2.2.1 &&& 31)) q.2.2.2.2) (fun r4 => z_lp (b_X8_flagOf_48 x1 x2 x3 q.2.1 q.2.2.1 q.2.2.2.1 r4) z_F (0, 0, q.2.2.2.2) (fun t19 => kb (t19.1, r4, 0, q.2.2.2.1 + 1, t19.2))))))
def f_X8_flagOf (a1 : Nat) (a2 : Int32) (a3 : Int32) (u : z_M) : Option (Int32 × z_M) :=
  z_lp (b_X8_flagOf_12 a1 a2 a3) z_F (1, 0, 1, 1, u) (fun t20 => some (t20.1, t20.2))
set_option maxRecDepth 20000 in
set_option maxHeartbeats 4000000 in
theorem wb_X8_flagOf_48 {p : Program} {l : Launch} {e : Env} {R : Room} {s : State} {m : MethodId} {args : Array Value} {below : List Frame} {meth : Method} {c : Code} {g : z_G} {u : z_M} {res : Int32 × z_M} (hR : R = z_rm 3) (X : z_X p R s m args meth c cX8_flagOf 10 RX8 wsX8_flagOf (some .int) g z_shC) (x1 : Nat) (x2 : Int32) (x3 : Int32) (x5 : Int32) (x6 : Int32) (x7 : Int32) (x8 : Int32) (ex1 : z_PO x1) (q : Int32 × Int32 × z_M) (kb : (Int32 × Int32 × z_M) → Option (Int32 × z_M)) (kx : (Int32 × z_M) → Option (Int32 × z_M)) (hkb : ∀ q, kb q = some res → z_V p l e R s m args below meth c 10 g z_shC (MQ below (z_Qc g z_shC (fun v u' => v = some (.int res.1) ∧ u' = res.2)) args s 0 0 (z_A g z_shC)) 48 [(0, .ref (z_ad g 125)), (1, .ref (z_ad g x1)), (2, .int x2), (3, .int x3), (4, .int q.1), (5, .int x5), (6, .int x6), (7, .int x7), (8, .int x8), (9, .int q.2.1)] [] q.2.2) (hkx : ∀ t, kx t = some res → z_V p l e R s m args below meth c 10 g z_shC (MQ below (z_Qc g z_shC (fun v u' => v = some (.int res.1) ∧ u' = res.2)) args s 0 0 (z_A g z_shC)) 113 [(0, .ref (z_ad g 125)), (1, .ref (z_ad g x1)), (2, .int x2), (3, .int x3), (4, .int t.1), (7, .int x7), (8, .int x8)] [] t.2) (h : b_X8_flagOf_48 x1 x2 x3 x5 x6 x7 x8 q kb kx = some res) : z_V p l e R s m args below meth c 10 g z_shC (MQ below (z_Qc g z_shC (fun v u' => v = some (.int res.1) ∧ u' = res.2)) args s 0 0 (z_A g z_shC)) 48 [(0, .ref (z_ad g 125)), (1, .ref (z_ad g x1)), (2, .int x2), (3, .int x3), (4, .int q.1), (5, .int x5), (6, .int x6), (7, .int x7), (8, .int x8), (9, .int q.2.1)] [] q.2.2 := by
  unfold b_X8_flagOf_48 at h
  refine z_iload X 9 dX8_flagOf_48 rfl (z_bipush X (v := 9) dX8_flagOf_50 (by decide) (z_icmp_ge X 113 dX8_flagOf_52 (by decide) (fun c5 => ?_) (fun c5 => ?_)))
  · replace h := z_ip c5 h
    refine z_sub [0, 1, 2, 3, 4, 7, 8] [(0, .ref (z_ad g 125)), (1, .ref (z_ad g x1)), (2, .int x2), (3, .int x3), (4, .int q.1), (7, .int x7), (8, .int x8)] rfl ?_
    exact hkx (q.1, q.2.2) h
  · replace h := z_in c5 h
    obtain ⟨r6, er6, h⟩ := z_bs h
    refine z_iload X 8 dX8_flagOf_55 rfl (z_iload X 9 dX8_flagOf_57 rfl (z_callNi X (r := r6) (u1 := q.2.2) [.int x8, .int q.2.1] [] (w_X9_isIn l g x8 q.2.1 q.2.2 er6) gX8_flagOf_X9_isIn_n33 nn_X8 ini_X9_isIn_X8_flagOf sta_X9_isIn_X8_flagOf hy_X9_isIn.2 rfl (z_le1 hR (by decide)) (z_le2 hR (by decide) (by decide)) (Nat.le_of_ble_eq_true rfl) dX8_flagOf_59 (z_if_eq X 107 dX8_flagOf_62 (by decide) (fun c7 => ?_) (fun c7 => ?_))))
    · replace h := z_ip c7 h
      refine z_iinc X (v := q.2.1 + 1) 9 [(9, .int (q.2.1 + 1)), (0, .ref (z_ad g 125)), (1, .ref (z_ad g x1)), (2, .int x2), (3, .int x3), (4, .int q.1), (5, .int x5), (6, .int x6), (7, .int x7), (8, .int x8)] dX8_flagOf_107 rfl rfl (by decide) rfl (z_goto X 48 dX8_flagOf_110 (by decide) (z_sub [1, 2, 3, 4, 5, 6, 7, 8, 9, 0] [(0, .ref (z_ad g 125)), (1, .ref (z_ad g x1)), (2, .int x2), (3, .int x3), (4, .int q.1), (5, .int x5), (6, .int x6), (7, .int x7), (8, .int x8), (9, .int (q.2.1 + 1))] rfl ?_))
      exact hkb (q.1, q.2.1 + 1, q.2.2) h
    · replace h := z_in c7 h
      refine z_aload_n X 0 dX8_flagOf_65 rfl rfl (z_getR X (k0 := 2) z_c125 rfl in_X8_flagOf_X8 (by decide) rfl rfl lk_X8_flagOf_18 dX8_flagOf_66 (z_iload X 9 dX8_flagOf_69 rfl (z_iload X 6 dX8_flagOf_71 rfl (z_if_eq X 80 dX8_flagOf_73 (by decide) (fun c8 => ?_) (fun c8 => ?_)))))
      · replace h := z_ip c8 h
        obtain ⟨b9, h⟩ := z_gs h
        obtain ⟨r10, er10, h⟩ := z_bs h
        obtain ⟨b11, h⟩ := z_gs h
        obtain ⟨u12, eu12, h⟩ := z_ls h
        obtain ⟨b13, h⟩ := z_gs h
        obtain ⟨v14, ev14, h⟩ := z_ls h
        refine z_aload_n X 0 dX8_flagOf_80 rfl rfl (z_aload_n X 1 dX8_flagOf_81 rfl rfl (z_getR X (k0 := 4) (z_po ex1) rfl in_X8_flagOf_X6 (by decide) rfl rfl lk_X8_flagOf_37 dX8_flagOf_82 (z_iload X 9 dX8_flagOf_85 rfl (z_iald X (z_poU ex1) (z_inS b9) dX8_flagOf_87 (z_iload X 5 dX8_flagOf_88 rfl (z_iand X dX8_flagOf_90 (z_callVi X (r := r10) (u1 := q.2.2) [.int ((z_gI q.2.2 (x1 + 2) q.2.1.toNatClampNeg) &&& x5)] [.int q.2.1, .ref (z_ad g 128)] (w_X8_valuesIn l g ((z_gI q.2.2 (x1 + 2) q.2.1.toNatClampNeg) &&& x5) q.2.2 er10) z_c125 rfl gX8_flagOf_X8_valuesIn hy_X8_valuesIn rfl (z_le1 hR (by decide)) (z_le2 hR (by decide) (by decide)) (Nat.le_of_ble_eq_true rfl) dX8_flagOf_91 (z_iast X z_c128 (z_inS b11) dX8_flagOf_94 (z_nm eu12 (z_iload X 4 dX8_flagOf_95 rfl (z_aload_n X 0 dX8_flagOf_97 rfl rfl (z_getR X (k0 := 2) z_c125 rfl in_X8_flagOf_X8 (by decide) rfl rfl lk_X8_flagOf_18 dX8_flagOf_98 (z_iload X 9 dX8_flagOf_101 rfl (z_iald X z_c128 (z_inS b13) dX8_flagOf_103 (z_iadd X dX8_flagOf_104 (z_ti ev14 (z_istore X [(4, .int v14), (0, .ref (z_ad g 125)), (1, .ref (z_ad g x1)), (2, .int x2), (3, .int x3), (5, .int x5), (6, .int x6), (7, .int x7), (8, .int x8), (9, .int q.2.1)] dX8_flagOf_105 (by decide) rfl (z_iinc X (v := q.2.1 + 1) 9 [(9, .int (q.2.1 + 1)), (4, .int v14), (0, .ref (z_ad g 125)), (1, .ref (z_ad g x1)), (2, .int x2), (3, .int x3), (5, .int x5), (6, .int x6), (7, .int x7), (8, .int x8)] dX8_flagOf_107 rfl rfl (by decide) rfl (z_goto X 48 dX8_flagOf_110 (by decide) (z_sub [2, 3, 4, 5, 1, 6, 7, 8, 9, 0] [(0, .ref (z_ad g 125)), (1, .ref (z_ad g x1)), (2, .int x2), (3, .int x3), (4, .int v14), (5, .int x5), (6, .int x6), (7, .int x7), (8, .int x8), (9, .int (q.2.1 + 1))] rfl ?_))))))))))))))))))))
        exact hkb (v14, q.2.1 + 1, u12) h
      · replace h := z_in c8 h
        obtain ⟨b15, h⟩ := z_gs h
        obtain ⟨u16, eu16, h⟩ := z_ls h
        obtain ⟨b17, h⟩ := z_gs h
        obtain ⟨v18, ev18, h⟩ := z_ls h
        refine z_iconst X (v := 1) dX8_flagOf_76 (by decide) (z_goto X 94 dX8_flagOf_77 (by decide) (z_iast X z_c128 (z_inS b15) dX8_flagOf_94 (z_nm eu16 (z_iload X 4 dX8_flagOf_95 rfl (z_aload_n X 0 dX8_flagOf_97 rfl rfl (z_getR X (k0 := 2) z_c125 rfl in_X8_flagOf_X8 (by decide) rfl rfl lk_X8_flagOf_18 dX8_flagOf_98 (z_iload X 9 dX8_flagOf_101 rfl (z_iald X z_c128 (z_inS b17) dX8_flagOf_103 (z_iadd X dX8_flagOf_104 (z_ti ev18 (z_istore X [(4, .int v18), (0, .ref (z_ad g 125)), (1, .ref (z_ad g x1)), (2, .int x2), (3, .int x3), (5, .int x5), (6, .int x6), (7, .int x7), (8, .int x8), (9, .int q.2.1)] dX8_flagOf_105 (by decide) rfl (z_iinc X (v := q.2.1 + 1) 9 [(9, .int (q.2.1 + 1)), (4, .int v18), (0, .ref (z_ad g 125)), (1, .ref (z_ad g x1)), (2, .int x2), (3, .int x3), (5, .int x5), (6, .int x6), (7, .int x7), (8, .int x8)] dX8_flagOf_107 rfl rfl (by decide) rfl (z_goto X 48 dX8_flagOf_110 (by decide) (z_sub [2, 3, 4, 5, 1, 6, 7, 8, 9, 0] [(0, .ref (z_ad g 125)), (1, .ref (z_ad g x1)), (2, .int x2), (3, .int x3), (4, .int v18), (5, .int x5), (6, .int x6), (7, .int x7), (8, .int x8), (9, .int (q.2.1 + 1))] rfl ?_))))))))))))))
        exact hkb (v18, q.2.1 + 1, u16) h
set_option maxRecDepth 20000 in
set_option maxHeartbeats 4000000 in
theorem wb_X8_flagOf_12 {p : Program} {l : Launch} {e : Env} {R : Room} {s : State} {m : MethodId} {args : Array Value} {below : List Frame} {meth : Method} {c : Code} {g : z_G} {u : z_M} {res : Int32 × z_M} (hR : R = z_rm 3) (X : z_X p R s m args meth c cX8_flagOf 10 RX8 wsX8_flagOf (some .int) g z_shC) (x1 : Nat) (x2 : Int32) (x3 : Int32) (ex1 : z_PO x1) (q : Int32 × Int32 × Int32 × Int32 × z_M) (kb : (Int32 × Int32 × Int32 × Int32 × z_M) → Option (Int32 × z_M)) (kx : (Int32 × z_M) → Option (Int32 × z_M)) (hkb : ∀ q, kb q = some res → z_V p l e R s m args below meth c 10 g z_shC (MQ below (z_Qc g z_shC (fun v u' => v = some (.int res.1) ∧ u' = res.2)) args s 0 0 (z_A g z_shC)) 12 [(0, .ref (z_ad g 125)), (1, .ref (z_ad g x1)), (2, .int x2), (3, .int x3), (4, .int q.1), (5, .int q.2.1), (6, .int q.2.2.1), (7, .int q.2.2.2.1)] [] q.2.2.2.2) (hkx : ∀ t, kx t = some res → z_V p l e R s m args below meth c 10 g z_shC (MQ below (z_Qc g z_shC (fun v u' => v = some (.int res.1) ∧ u' = res.2)) args s 0 0 (z_A g z_shC)) 126 [(4, .int t.1)] [] t.2) (h : b_X8_flagOf_12 x1 x2 x3 q kb kx = some res) : z_V p l e R s m args below meth c 10 g z_shC (MQ below (z_Qc g z_shC (fun v u' => v = some (.int res.1) ∧ u' = res.2)) args s 0 0 (z_A g z_shC)) 12 [(0, .ref (z_ad g 125)), (1, .ref (z_ad g x1)), (2, .int x2), (3, .int x3), (4, .int q.1), (5, .int q.2.1), (6, .int q.2.2.1), (7, .int q.2.2.2.1)] [] q.2.2.2.2 := by
  unfold b_X8_flagOf_12 at h
  refine z_iload X 7 dX8_flagOf_12 rfl (z_bipush X (v := 9) dX8_flagOf_14 (by decide) (z_icmp_ge X 126 dX8_flagOf_16 (by decide) (fun c1 => ?_) (fun c1 => ?_)))
  · replace h := z_ip c1 h
    refine z_sub [4] [(4, .int q.1)] rfl ?_
    exact hkx (q.1, q.2.2.2.2) h
  · replace h := z_in c1 h
    obtain ⟨r2, er2, h⟩ := z_bs h
    refine z_iload_n X 3 dX8_flagOf_19 rfl rfl (z_iload X 7 dX8_flagOf_20 rfl (z_callNi X (r := r2) (u1 := q.2.2.2.2) [.int x3, .int q.2.2.2.1] [] (w_X9_isIn l g x3 q.2.2.2.1 q.2.2.2.2 er2) gX8_flagOf_X9_isIn_n33 nn_X8 ini_X9_isIn_X8_flagOf sta_X9_isIn_X8_flagOf hy_X9_isIn.2 rfl (z_le1 hR (by decide)) (z_le2 hR (by decide) (by decide)) (Nat.le_of_ble_eq_true rfl) dX8_flagOf_22 (z_if_ne X 31 dX8_flagOf_25 (by decide) (fun c3 => ?_) (fun c3 => ?_))))
    · replace h := z_in c3 h
      obtain ⟨r4, er4, h⟩ := z_bs h
      refine z_aload_n X 0 dX8_flagOf_31 rfl rfl (z_iload_n X 2 dX8_flagOf_32 rfl rfl (z_iconst X (v := 1) dX8_flagOf_33 (by decide) (z_iload X 7 dX8_flagOf_34 rfl (z_ishl X dX8_flagOf_36 (z_callVi X (r := r4) (u1 := q.2.2.2.2) [.int x2, .int (1 <<< (q.2.2.2.1 &&& 31))] [] (w_X8_atHeights l g x2 (1 <<< (q.2.2.2.1 &&& 31)) q.2.2.2.2 er4) z_c125 rfl gX8_flagOf_X8_atHeights hy_X8_atHeights rfl (z_le1 hR (by decide)) (z_le2 hR (by decide) (by decide)) (Nat.le_of_ble_eq_true rfl) dX8_flagOf_37 (z_istore X [(8, .int r4), (0, .ref (z_ad g 125)), (1, .ref (z_ad g x1)), (2, .int x2), (3, .int x3), (4, .int q.1), (5, .int q.2.1), (6, .int q.2.2.1), (7, .int q.2.2.2.1)] dX8_flagOf_40 (by decide) rfl (z_iconst X (v := 0) dX8_flagOf_42 (by decide) (z_istore X [(4, .int 0), (8, .int r4), (0, .ref (z_ad g 125)), (1, .ref (z_ad g x1)), (2, .int x2), (3, .int x3), (5, .int q.2.1), (6, .int q.2.2.1), (7, .int q.2.2.2.1)] dX8_flagOf_43 (by decide) rfl (z_iconst X (v := 0) dX8_flagOf_45 (by decide) (z_istore X [(9, .int 0), (4, .int 0), (8, .int r4), (0, .ref (z_ad g 125)), (1, .ref (z_ad g x1)), (2, .int x2), (3, .int x3), (5, .int q.2.1), (6, .int q.2.2.1), (7, .int q.2.2.2.1)] dX8_flagOf_46 (by decide) rfl (z_sub [3, 4, 5, 6, 1, 7, 8, 9, 2, 0] [(0, .ref (z_ad g 125)), (1, .ref (z_ad g x1)), (2, .int x2), (3, .int x3), (4, .int 0), (5, .int q.2.1), (6, .int q.2.2.1), (7, .int q.2.2.2.1), (8, .int r4), (9, .int 0)] rfl ?_)))))))))))
      have hw := z_lp_w (fun q9 kb9 kx9 h1 h2 h3 => wb_X8_flagOf_48 (l := l) (e := e) (below := below) (u := q.2.2.2.2) hR X x1 x2 x3 q.2.1 q.2.2.1 q.2.2.2.1 r4 ex1 q9 kb9 kx9 h1 h2 h3) z_F _ _ h
      refine hw (fun t19 h => ?_)
      refine z_iload X 6 dX8_flagOf_113 rfl (z_istore X [(5, .int r4), (0, .ref (z_ad g 125)), (1, .ref (z_ad g x1)), (2, .int x2), (3, .int x3), (4, .int t19.1), (7, .int q.2.2.2.1), (8, .int r4)] dX8_flagOf_115 (by decide) rfl (z_iconst X (v := 0) dX8_flagOf_117 (by decide) (z_istore X [(6, .int 0), (5, .int r4), (0, .ref (z_ad g 125)), (1, .ref (z_ad g x1)), (2, .int x2), (3, .int x3), (4, .int t19.1), (7, .int q.2.2.2.1), (8, .int r4)] dX8_flagOf_118 (by decide) rfl (z_iinc X (v := q.2.2.2.1 + 1) 7 [(7, .int (q.2.2.2.1 + 1)), (6, .int 0), (5, .int r4), (0, .ref (z_ad g 125)), (1, .ref (z_ad g x1)), (2, .int x2), (3, .int x3), (4, .int t19.1), (8, .int r4)] dX8_flagOf_120 rfl rfl (by decide) rfl (z_goto X 12 dX8_flagOf_123 (by decide) (z_sub [3, 4, 5, 6, 7, 2, 1, 0] [(0, .ref (z_ad g 125)), (1, .ref (z_ad g x1)), (2, .int x2), (3, .int x3), (4, .int t19.1), (5, .int r4), (6, .int 0), (7, .int (q.2.2.2.1 + 1))] rfl ?_))))))
      exact hkb (t19.1, r4, 0, q.2.2.2.1 + 1, t19.2) h
    · replace h := z_ip c3 h
      refine z_goto X 120 dX8_flagOf_28 (by decide) (z_iinc X (v := q.2.2.2.1 + 1) 7 [(7, .int (q.2.2.2.1 + 1)), (0, .ref (z_ad g 125)), (1, .ref (z_ad g x1)), (2, .int x2), (3, .int x3), (4, .int q.1), (5, .int q.2.1), (6, .int q.2.2.1)] dX8_flagOf_120 rfl rfl (by decide) rfl (z_goto X 12 dX8_flagOf_123 (by decide) (z_sub [1, 2, 3, 4, 5, 6, 7, 0] [(0, .ref (z_ad g 125)), (1, .ref (z_ad g x1)), (2, .int x2), (3, .int x3), (4, .int q.1), (5, .int q.2.1), (6, .int q.2.2.1), (7, .int (q.2.2.2.1 + 1))] rfl ?_)))
      exact hkb (q.1, q.2.1, q.2.2.1, q.2.2.2.1 + 1, q.2.2.2.2) h
set_option maxRecDepth 20000 in
set_option maxHeartbeats 4000000 in
theorem w_X8_flagOf (l : Launch) (g : z_G) (a1 : Nat) (a2 : Int32) (a3 : Int32) (ea1 : z_PO a1) (u : z_M) {res : Int32 × z_M} (h : f_X8_flagOf a1 a2 a3 u = some res) : z_C l g z_shC yX8_flagOf wsX8_flagOf 3 [.ref (z_ad g 125), .ref (z_ad g a1), .int a2, .int a3] u (fun v u' => v = some (.int res.1) ∧ u' = res.2) := by
  refine z_C.mk (lv := [(0, .ref (z_ad g 125)), (1, .ref (z_ad g a1)), (2, .int a2), (3, .int a3)]) (cc := cX8_flagOf) (nL := 10) (rt := (some .int)) rfl (by decide) (Nat.le_of_ble_eq_true rfl) rfl (fun p e R s m args below meth c hR X => ?_)
  unfold f_X8_flagOf at h
  refine z_iconst X (v := 1) dX8_flagOf_0 (by decide) (z_istore X [(4, .int 1), (0, .ref (z_ad g 125)), (1, .ref (z_ad g a1)), (2, .int a2), (3, .int a3)] dX8_flagOf_1 (by decide) rfl (z_iconst X (v := 0) dX8_flagOf_3 (by decide) (z_istore X [(5, .int 0), (4, .int 1), (0, .ref (z_ad g 125)), (1, .ref (z_ad g a1)), (2, .int a2), (3, .int a3)] dX8_flagOf_4 (by decide) rfl (z_iconst X (v := 1) dX8_flagOf_6 (by decide) (z_istore X [(6, .int 1), (5, .int 0), (4, .int 1), (0, .ref (z_ad g 125)), (1, .ref (z_ad g a1)), (2, .int a2), (3, .int a3)] dX8_flagOf_7 (by decide) rfl (z_iconst X (v := 1) dX8_flagOf_9 (by decide) (z_istore X [(7, .int 1), (6, .int 1), (5, .int 0), (4, .int 1), (0, .ref (z_ad g 125)), (1, .ref (z_ad g a1)), (2, .int a2), (3, .int a3)] dX8_flagOf_10 (by decide) rfl (z_sub [4, 5, 6, 7, 3, 2, 1, 0] [(0, .ref (z_ad g 125)), (1, .ref (z_ad g a1)), (2, .int a2), (3, .int a3), (4, .int 1), (5, .int 0), (6, .int 1), (7, .int 1)] rfl ?_))))))))
  have hw := z_lp_w (fun q9 kb9 kx9 h1 h2 h3 => wb_X8_flagOf_12 (l := l) (e := e) (below := below) (u := u) hR X a1 a2 a3 ea1 q9 kb9 kx9 h1 h2 h3) z_F _ _ h
  refine hw (fun t20 h => ?_)
  refine z_iload X 0 dX8_flagOf_126 rfl ?_
  cases h; exact z_iret X rfl dX8_flagOf_128 ⟨rfl, rfl⟩
