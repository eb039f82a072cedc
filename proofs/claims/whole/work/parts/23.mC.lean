theorem lk_X5_forget_18 : (Cond.fieldLink RX5 18 RX5 (TX5 2).2.1 (TX5 2).2.2.1) ∈ wsX5_forget := by decide +kernel
theorem in_X5_forget_X5 : ∀ w ∈ u_ws RX5 TX5 3, w ∈ wsX5_forget := fun _ h => List.mem_cons_of_mem _ (List.mem_append_right _ h)
def f_X5_forget (u : z_M) : Option (z_M) :=
  z_lt (z_sI u 83 2 0) (fun u1 => some u1)
set_option maxRecDepth 20000 in
set_option maxHeartbeats 4000000 in
theorem w_X5_forget (l : Launch) (g : z_G)  (u : z_M) {res : z_M} (h : f_X5_forget u = some res) : z_C l g z_shC yX5_forget wsX5_forget 1 [.ref (z_ad g 83)] u (fun v u' => v = none ∧ u' = res) := by
  refine z_C.mk (lv := [(0, .ref (z_ad g 83))]) (cc := cX5_forget) (nL := 1) (rt := none) rfl (by decide) (Nat.le_of_ble_eq_true rfl) rfl (fun p e R s m args below meth c hR X => ?_)
  unfold f_X5_forget at h
  obtain ⟨u1, eu1, h⟩ := z_ls h
  refine z_aload_n X 0 dX5_forget_0 rfl rfl (z_iconst X (v := 0) dX5_forget_1 (by decide) (z_putI X (k0 := 2) (ty0 := tyX5) z_c83 rfl in_X5_forget_X5 tyX5_ok nmX5 (by decide) rfl rfl rfl rfl rfl lk_X5_forget_18 dX5_forget_2 (z_nm eu1 ?_)))
  cases h; exact z_vret X rfl dX5_forget_5 ⟨rfl, rfl⟩

theorem lk_X6_copy_21 : (Cond.fieldLink RX6 21 RX6 (TX6 0).2.1 (TX6 0).2.2.1) ∈ wsX6_copy := by decide +kernel
theorem in_X6_copy_X6 : ∀ w ∈ u_ws RX6 TX6 6, w ∈ wsX6_copy := by decide +kernel
theorem lk_X6_copy_25 : (Cond.fieldLink RX6 25 RX6 (TX6 1).2.1 (TX6 1).2.2.1) ∈ wsX6_copy := by decide +kernel
theorem lk_X6_copy_28 : (Cond.fieldLink RX6 28 RX6 (TX6 2).2.1 (TX6 2).2.2.1) ∈ wsX6_copy := by decide +kernel
theorem lk_X6_copy_9 : (Cond.fieldLink RX6 9 RX6 (TX6 3).2.1 (TX6 3).2.2.1) ∈ wsX6_copy := by decide +kernel
theorem ml37_X6_copy : Cond.methodLink RX6 37 arraycopyName ∈ wsX6_copy := by decide +kernel
theorem mn_X6_copy : Cond.native arraycopyName ∈ wsX6_copy := by decide +kernel
theorem ms_ac_X6_copy : Cond.static arraycopyName ∈ wsX6_copy := by decide +kernel
theorem mi_sys_X6_copy : Cond.initialized "java/lang/System" ∈ wsX6_copy := by decide +kernel
theorem lk_X6_copy_15 : (Cond.fieldLink RX6 15 RX6 (TX6 4).2.1 (TX6 4).2.2.1) ∈ wsX6_copy := by decide +kernel
theorem lk_X6_copy_18 : (Cond.fieldLink RX6 18 RX6 (TX6 5).2.1 (TX6 5).2.2.1) ∈ wsX6_copy := by decide +kernel
def f_X6_copy (ao : Nat) (a1 : Nat) (u : z_M) : Option (z_M) :=
  z_lt (z_sI u ao 0 (z_gI u a1 0)) (fun u1 => z_lt (z_sI u1 ao 1 (z_gI u1 a1 1)) (fun u2 => z_lt (z_sI u2 ao 2 (z_gI u2 a1 2)) (fun u3 => z_lt (z_sA u3 (ao + 1) (va_cpy (u3.1 (a1 + 1)) (u3.1 (ao + 1)) 0 0 9)) (fun u4 => z_lt (z_sA u4 (ao + 2) (va_cpy (u4.1 (a1 + 2)) (u4.1 (ao + 2)) 0 0 9)) (fun u5 => z_lt (z_sA u5 (ao + 3) (va_cpy (u5.1 (a1 + 3)) (u5.1 (ao + 3)) 0 0 81)) (fun u6 => some u6))))))
set_option maxRecDepth 20000 in
set_option maxHeartbeats 4000000 in
theorem w_X6_copy (l : Launch) (g : z_G) (ao : Nat) (a1 : Nat) (eao : z_PO ao) (ea1 : z_PO a1) (u : z_M) {res : z_M} (h : f_X6_copy ao a1 u = some res) : z_C l g z_shC yX6_copy wsX6_copy 2 [.ref (z_ad g ao), .ref (z_ad g a1)] u (fun v u' => v = none ∧ u' = res) := by
  refine z_C.mk (lv := [(0, .ref (z_ad g ao)), (1, .ref (z_ad g a1))]) (cc := cX6_copy) (nL := 2) (rt := none) rfl (by decide) (Nat.le_of_ble_eq_true rfl) rfl (fun p e R s m args below meth c hR X => ?_)
  unfold f_X6_copy at h
  obtain ⟨u1, eu1, h⟩ := z_ls h
  obtain ⟨u2, eu2, h⟩ := z_ls h
  obtain ⟨u3, eu3, h⟩ := z_ls h
  obtain ⟨u4, eu4, h⟩ := z_ls h
  obtain ⟨u5, eu5, h⟩ := z_ls h
  obtain ⟨u6, eu6, h⟩ := z_ls h
  refine z_aload_n X 0 dX6_copy_0 rfl rfl (z_aload_n X 1 dX6_copy_1 rfl rfl (z_getI X (k0 := 0) (z_po ea1) rfl in_X6_copy_X6 (by decide) rfl rfl lk_X6_copy_21 dX6_copy_2 (z_putI X (k0 := 0) (ty0 := tyX6) (z_po eao) rfl in_X6_copy_X6 tyX6_ok nmX6 (by decide) rfl rfl rfl rfl rfl lk_X6_copy_21 dX6_copy_5 (z_nm eu1 (z_aload_n X 0 dX6_copy_8 rfl rfl (z_aload_n X 1 dX6_copy_9 rfl rfl (z_getI X (k0 := 1) (z_po ea1) rfl in_X6_copy_X6 (by decide) rfl rfl lk_X6_copy_25 dX6_copy_10 (z_putI X (k0 := 1) (ty0 := tyX6) (z_po eao) rfl in_X6_copy_X6 tyX6_ok nmX6 (by decide) rfl rfl rfl rfl rfl lk_X6_copy_25 dX6_copy_13 (z_nm eu2 (z_aload_n X 0 dX6_copy_16 rfl rfl (z_aload_n X 1 dX6_copy_17 rfl rfl (z_getI X (k0 := 2) (z_po ea1) rfl in_X6_copy_X6 (by decide) rfl rfl lk_X6_copy_28 dX6_copy_18 (z_putI X (k0 := 2) (ty0 := tyX6) (z_po eao) rfl in_X6_copy_X6 tyX6_ok nmX6 (by decide) rfl rfl rfl rfl rfl lk_X6_copy_28 dX6_copy_21 (z_nm eu3 (z_aload_n X 1 dX6_copy_24 rfl rfl (z_getR X (k0 := 3) (z_po ea1) rfl in_X6_copy_X6 (by decide) rfl rfl lk_X6_copy_9 dX6_copy_25 (z_iconst X (v := 0) dX6_copy_28 (by decide) (z_aload_n X 0 dX6_copy_29 rfl rfl (z_getR X (k0 := 3) (z_po eao) rfl in_X6_copy_X6 (by decide) rfl rfl lk_X6_copy_9 dX6_copy_30 (z_iconst X (v := 0) dX6_copy_33 (by decide) (z_bipush X (v := 9) dX6_copy_34 (by decide) (z_copy X ml37_X6_copy mn_X6_copy ms_ac_X6_copy mi_sys_X6_copy (z_poA ea1) (z_poA eao) (by decide) (by decide) (z_le3 hR (by decide)) (z_le4 hR (by decide) (Nat.le_of_ble_eq_true rfl) (by decide)) dX6_copy_36 (z_nm eu4 (z_aload_n X 1 dX6_copy_39 rfl rfl (z_getR X (k0 := 4) (z_po ea1) rfl in_X6_copy_X6 (by decide) rfl rfl lk_X6_copy_15 dX6_copy_40 (z_iconst X (v := 0) dX6_copy_43 (by decide) (z_aload_n X 0 dX6_copy_44 rfl rfl (z_getR X (k0 := 4) (z_po eao) rfl in_X6_copy_X6 (by decide) rfl rfl lk_X6_copy_15 dX6_copy_45 (z_iconst X (v := 0) dX6_copy_48 (by decide) (z_bipush X (v := 9) dX6_copy_49 (by decide) (z_copy X ml37_X6_copy mn_X6_copy ms_ac_X6_copy mi_sys_X6_copy (z_poU ea1) (z_poU eao) (by decide) (by decide) (z_le3 hR (by decide)) (z_le4 hR (by decide) (Nat.le_of_ble_eq_true rfl) (by decide)) dX6_copy_51 (z_nm eu5 (z_aload_n X 1 dX6_copy_54 rfl rfl (z_getR X (k0 := 5) (z_po ea1) rfl in_X6_copy_X6 (by decide) rfl rfl lk_X6_copy_18 dX6_copy_55 (z_iconst X (v := 0) dX6_copy_58 (by decide) (z_aload_n X 0 dX6_copy_59 rfl rfl (z_getR X (k0 := 5) (z_po eao) rfl in_X6_copy_X6 (by decide) rfl rfl lk_X6_copy_18 dX6_copy_60 (z_iconst X (v := 0) dX6_copy_63 (by decide) (z_bipush X (v := 81) dX6_copy_64 (by decide) (z_copy X ml37_X6_copy mn_X6_copy ms_ac_X6_copy mi_sys_X6_copy (z_poT ea1) (z_poT eao) (by decide) (by decide) (z_le3 hR (by decide)) (z_le4 hR (by decide) (Nat.le_of_ble_eq_true rfl) (by decide)) dX6_copy_66 (z_nm eu6 ?_)))))))))))))))))))))))))))))))))))))))))
  cases h; exact z_vret X rfl dX6_copy_69 ⟨rfl, rfl⟩

theorem lk_X5_push_11 : (Cond.fieldLink RX5 11 RX5 (TX5 0).2.1 (TX5 0).2.2.1) ∈ wsX5_push := by decide +kernel
theorem in_X5_push_X5 : ∀ w ∈ u_ws RX5 TX5 3, w ∈ wsX5_push := by decide +kernel
theorem lk_X5_push_22 : (Cond.fieldLink RX5 22 RX5 (TX5 1).2.1 (TX5 1).2.2.1) ∈ wsX5_push := by decide +kernel
theorem lk_X5_push_18 : (Cond.fieldLink RX5 18 RX5 (TX5 2).2.1 (TX5 2).2.2.1) ∈ wsX5_push := by decide +kernel
theorem ml29_X5_push : Cond.methodLink RX5 29 Lib.Math.min.name ∈ wsX5_push := by decide +kernel
theorem ms_min_X5_push : Cond.static Lib.Math.min.name ∈ wsX5_push := by decide +kernel
theorem mi_X5_push : Cond.initialized "java/lang/Math" ∈ wsX5_push := by decide +kernel
theorem mc_min_X5_push : Cond.code Lib.Math.min.name Lib.Math.min.code 2 (some .int) ∈ wsX5_push := by decide +kernel
theorem hy_X6_copy : yX6_copy.cls = RX6 ∧ yX6_copy.cls ≠ "java/lang/invoke/MethodHandle" ∧ yX6_copy.cls ≠ "java/lang/invoke/VarHandle" ∧ (parseMethodDescriptor yX6_copy.desc).map (fun d => d.parameters.length) = some 1 := by decide +kernel
def f_X5_push (a1 : Nat) (u : z_M) : Option (z_M) :=
  z_gd (z_inb (z_gI u 83 1) 16) (Option.bind (f_X6_copy (16 + 4 * (z_gI u 83 1).toNatClampNeg) a1 u) (fun r2 => if 16 ≤ ((z_gI r2 83 1) + 1) then (z_lt (z_sI r2 83 1 0) (fun u4 => z_lt (z_sI u4 83 2 (if 16 < ((z_gI u4 83 2) + 1) then 16 else (z_gI u4 83 2) + 1)) (fun u5 => some u5))) else (z_lt (z_sI r2 83 1 ((z_gI r2 83 1) + 1)) (fun u6 => z_lt (z_sI u6 83 2 (if 16 < ((z_gI u6 83 2) + 1) then 16 else (z_gI u6 83 2) + 1)) (fun u7 => some u7)))))
set_option maxRecDepth 20000 in
set_option maxHeartbeats 4000000 in
theorem w_X5_push (l : Launch) (g : z_G) (a1 : Nat) (ea1 : z_PO a1) (u : z_M) {res : z_M} (h : f_X5_push a1 u = some res) : z_C l g z_shC yX5_push wsX5_push 3 [.ref (z_ad g 83), .ref (z_ad g a1)] u (fun v u' => v = none ∧ u' = res) := by
  refine z_C.mk (lv := [(0, .ref (z_ad g 83)), (1, .ref (z_ad g a1))]) (cc := cX5_push) (nL := 2) (rt := none) rfl (by decide) (Nat.le_of_ble_eq_true rfl) rfl (fun p e R s m args below meth c hR X => ?_)
  unfold f_X5_push at h
  obtain ⟨b1, h⟩ := z_gs h
  obtain ⟨r2, er2, h⟩ := z_bs h
  refine z_aload_n X 0 dX5_push_0 rfl rfl (z_getR X (k0 := 0) z_c83 rfl in_X5_push_X5 (by decide) rfl rfl lk_X5_push_11 dX5_push_1 (z_aload_n X 0 dX5_push_4 rfl rfl (z_getI X (k0 := 1) z_c83 rfl in_X5_push_X5 (by decide) rfl rfl lk_X5_push_22 dX5_push_5 (z_aalP X z_c84 (z_inS b1) dX5_push_8 (z_aload_n X 1 dX5_push_9 rfl rfl (z_callVv X (u1 := r2) [.ref (z_ad g a1)] [] (w_X6_copy l g (16 + 4 * (z_gI u 83 1).toNatClampNeg) a1 (z_po_ring (z_inS b1)) ea1 u er2) (z_po (z_po_ring (z_inS b1))) rfl gX5_push_X6_copy hy_X6_copy rfl (z_le1 hR (by decide)) (z_le2 hR (by decide) (by decide)) (Nat.le_of_ble_eq_true rfl) dX5_push_10 (z_aload_n X 0 dX5_push_13 rfl rfl (z_aload_n X 0 dX5_push_14 rfl rfl (z_getI X (k0 := 1) z_c83 rfl in_X5_push_X5 (by decide) rfl rfl lk_X5_push_22 dX5_push_15 (z_iconst X (v := 1) dX5_push_18 (by decide) (z_iadd X dX5_push_19 (z_bipush X (v := 16) dX5_push_20 (by decide) (z_icmp_ge X 34 dX5_push_22 (by decide) (fun c3 => ?_) (fun c3 => ?_))))))))))))))
  · replace h := z_ip c3 h
    obtain ⟨u4, eu4, h⟩ := z_ls h
    obtain ⟨u5, eu5, h⟩ := z_ls h
    refine z_iconst X (v := 0) dX5_push_34 (by decide) (z_putI X (k0 := 1) (ty0 := tyX5) z_c83 rfl in_X5_push_X5 tyX5_ok nmX5 (by decide) rfl rfl rfl rfl rfl lk_X5_push_22 dX5_push_35 (z_nm eu4 (z_aload_n X 0 dX5_push_38 rfl rfl (z_aload_n X 0 dX5_push_39 rfl rfl (z_getI X (k0 := 2) z_c83 rfl in_X5_push_X5 (by decide) rfl rfl lk_X5_push_18 dX5_push_40 (z_iconst X (v := 1) dX5_push_43 (by decide) (z_iadd X dX5_push_44 (z_bipush X (v := 16) dX5_push_45 (by decide) (z_mmin X ml29_X5_push ms_min_X5_push mi_X5_push mc_min_X5_push (z_le3 hR (by decide)) (z_le4 hR (by decide) (Nat.le_of_ble_eq_true rfl) (by decide)) dX5_push_47 (z_putI X (k0 := 2) (ty0 := tyX5) z_c83 rfl in_X5_push_X5 tyX5_ok nmX5 (by decide) rfl rfl rfl rfl rfl lk_X5_push_18 dX5_push_50 (z_nm eu5 ?_)))))))))))
    cases h; exact z_vret X rfl dX5_push_53 ⟨rfl, rfl⟩
  · replace h := z_in c3 h
    obtain ⟨u6, eu6, h⟩ := z_ls h
    obtain ⟨u7, eu7, h⟩ := z_ls h
    refine z_aload_n X 0 dX5_push_25 rfl rfl (z_getI X (k0 := 1) z_c83 rfl in_X5_push_X5 (by decide) rfl rfl lk_X5_push_22 dX5_push_26 (z_iconst X (v := 1) dX5_push_29 (by decide) (z_iadd X dX5_push_30 (z_goto X 35 dX5_push_31 (by decide) (z_putI X (k0 := 1) (ty0 := tyX5) z_c83 rfl in_X5_push_X5 tyX5_ok nmX5 (by decide) rfl rfl rfl rfl rfl lk_X5_push_22 dX5_push_35 (z_nm eu6 (z_aload_n X 0 dX5_push_38 rfl rfl (z_aload_n X 0 dX5_push_39 rfl rfl (z_getI X (k0 := 2) z_c83 rfl in_X5_push_X5 (by decide) rfl rfl lk_X5_push_18 dX5_push_40 (z_iconst X (v := 1) dX5_push_43 (by decide) (z_iadd X dX5_push_44 (z_bipush X (v := 16) dX5_push_45 (by decide) (z_mmin X ml29_X5_push ms_min_X5_push mi_X5_push mc_min_X5_push (z_le3 hR (by decide)) (z_le4 hR (by decide) (Nat.le_of_ble_eq_true rfl) (by decide)) dX5_push_47 (z_putI X (k0 := 2) (ty0 := tyX5) z_c83 rfl in_X5_push_X5 tyX5_ok nmX5 (by decide) rfl rfl rfl rfl rfl lk_X5_push_18 dX5_push_50 (z_nm eu7 ?_)))))))))))))))
    cases h; exact z_vret X rfl dX5_push_53 ⟨rfl, rfl⟩

theorem lk_X5_pop_18 : (Cond.fieldLink RX5 18 RX5 (TX5 2).2.1 (TX5 2).2.2.1) ∈ wsX5_pop := by decide +kernel
theorem in_X5_pop_X5 : ∀ w ∈ u_ws RX5 TX5 3, w ∈ wsX5_pop := by decide +kernel
theorem lk_X5_pop_22 : (Cond.fieldLink RX5 22 RX5 (TX5 1).2.1 (TX5 1).2.2.1) ∈ wsX5_pop := by decide +kernel
theorem lk_X5_pop_11 : (Cond.fieldLink RX5 11 RX5 (TX5 0).2.1 (TX5 0).2.2.1) ∈ wsX5_pop := by decide +kernel
def j_X5_pop_j28 (x1 : Nat) (x90 : Int32) (w : z_M) : Option (Int32 × z_M) :=
  z_lt (z_sI w 83 1 x90) (fun u3 => z_lt (z_sI u3 83 2 ((z_gI u3 83 2) - 1)) (fun u4 => z_gd (z_inb (z_gI u4 83 1) 16) (Option.bind (f_X6_copy x1 (16 + 4 * (z_gI u4 83 1).toNatClampNeg) u4) (fun r6 => some (1, r6)))))
def f_X5_pop (a1 : Nat) (u : z_M) : Option (Int32 × z_M) :=
  if (z_gI u 83 2) = 0 then (some (0, u)) else (if (z_gI u 83 1) ≤ 0 then (j_X5_pop_j28 a1 15 u) else (j_X5_pop_j28 a1 ((z_gI u 83 1) - 1) u))
set_option maxRecDepth 20000 in
set_option maxHeartbeats 4000000 in
theorem wj_X5_pop_j28 {p : Program} {l : Launch} {e : Env} {R : Room} {s : State} {m : MethodId} {args : Array Value} {below : List Frame} {meth : Method} {c : Code} {g : z_G} {u : z_M} {res : Int32 × z_M} (hR : R = z_rm 3) (X : z_X p R s m args meth c cX5_pop 2 RX5 wsX5_pop (some .boolean) g z_shC) (x1 : Nat) (x90 : Int32) (ex1 : z_PO x1) (w : z_M) (h : j_X5_pop_j28 x1 x90 w = some res) : z_V p l e R s m args below meth c 2 g z_shC (MQ below (z_Qc g z_shC (fun v u' => v = some (.int res.1) ∧ u' = res.2)) args s 0 0 (z_A g z_shC)) 28 [(0, .ref (z_ad g 83)), (1, .ref (z_ad g x1))] [.int x90, .ref (z_ad g 83)] w := by
  unfold j_X5_pop_j28 at h
  obtain ⟨u3, eu3, h⟩ := z_ls h
  obtain ⟨u4, eu4, h⟩ := z_ls h
  obtain ⟨b5, h⟩ := z_gs h
  obtain ⟨r6, er6, h⟩ := z_bs h
  refine z_putI X (k0 := 1) (ty0 := tyX5) z_c83 rfl in_X5_pop_X5 tyX5_ok nmX5 (by decide) rfl rfl rfl rfl rfl lk_X5_pop_22 dX5_pop_28 (z_nm eu3 (z_aload_n X 0 dX5_pop_31 rfl rfl (z_dup X dX5_pop_32 rfl (z_getI X (k0 := 2) z_c83 rfl in_X5_pop_X5 (by decide) rfl rfl lk_X5_pop_18 dX5_pop_33 (z_iconst X (v := 1) dX5_pop_36 (by decide) (z_isub X dX5_pop_37 (z_putI X (k0 := 2) (ty0 := tyX5) z_c83 rfl in_X5_pop_X5 tyX5_ok nmX5 (by decide) rfl rfl rfl rfl rfl lk_X5_pop_18 dX5_pop_38 (z_nm eu4 (z_aload_n X 1 dX5_pop_41 rfl rfl (z_aload_n X 0 dX5_pop_42 rfl rfl (z_getR X (k0 := 0) z_c83 rfl in_X5_pop_X5 (by decide) rfl rfl lk_X5_pop_11 dX5_pop_43 (z_aload_n X 0 dX5_pop_46 rfl rfl (z_getI X (k0 := 1) z_c83 rfl in_X5_pop_X5 (by decide) rfl rfl lk_X5_pop_22 dX5_pop_47 (z_aalP X z_c84 (z_inS b5) dX5_pop_50 (z_callVv X (u1 := r6) [.ref (z_ad g (16 + 4 * (z_gI u4 83 1).toNatClampNeg))] [] (w_X6_copy l g x1 (16 + 4 * (z_gI u4 83 1).toNatClampNeg) ex1 (z_po_ring (z_inS b5)) u4 er6) (z_po ex1) rfl gX5_pop_X6_copy hy_X6_copy rfl (z_le1 hR (by decide)) (z_le2 hR (by decide) (by decide)) (Nat.le_of_ble_eq_true rfl) dX5_pop_51 (z_iconst X (v := 1) dX5_pop_54 (by decide) ?_))))))))))))))))
  cases h; exact z_zret X rfl rfl dX5_pop_55 ⟨rfl, rfl⟩
set_option maxRecDepth 20000 in
set_option maxHeartbeats 4000000 in
theorem w_X5_pop (l : Launch) (g : z_G) (a1 : Nat) (ea1 : z_PO a1) (u : z_M) {res : Int32 × z_M} (h : f_X5_pop a1 u = some res) : z_C l g z_shC yX5_pop wsX5_pop 3 [.ref (z_ad g 83), .ref (z_ad g a1)] u (fun v u' => v = some (.int res.1) ∧ u' = res.2) := by
  refine z_C.mk (lv := [(0, .ref (z_ad g 83)), (1, .ref (z_ad g a1))]) (cc := cX5_pop) (nL := 2) (rt := (some .boolean)) rfl (by decide) (Nat.le_of_ble_eq_true rfl) rfl (fun p e R s m args below meth c hR X => ?_)
  unfold f_X5_pop at h
  refine z_aload_n X 0 dX5_pop_0 rfl rfl (z_getI X (k0 := 2) z_c83 rfl in_X5_pop_X5 (by decide) rfl rfl lk_X5_pop_18 dX5_pop_1 (z_if_ne X 9 dX5_pop_4 (by decide) (fun c1 => ?_) (fun c1 => ?_)))
  · replace h := z_in c1 h
    refine z_aload_n X 0 dX5_pop_9 rfl rfl (z_aload_n X 0 dX5_pop_10 rfl rfl (z_getI X (k0 := 1) z_c83 rfl in_X5_pop_X5 (by decide) rfl rfl lk_X5_pop_22 dX5_pop_11 (z_if_le X 26 dX5_pop_14 (by decide) (fun c2 => ?_) (fun c2 => ?_))))
    · replace h := z_ip c2 h
      refine z_bipush X (v := 15) dX5_pop_26 (by decide) ?_
      exact wj_X5_pop_j28 (u := u) hR X a1 15 ea1 u h
    · replace h := z_in c2 h
      refine z_aload_n X 0 dX5_pop_17 rfl rfl (z_getI X (k0 := 1) z_c83 rfl in_X5_pop_X5 (by decide) rfl rfl lk_X5_pop_22 dX5_pop_18 (z_iconst X (v := 1) dX5_pop_21 (by decide) (z_isub X dX5_pop_22 (z_goto X 28 dX5_pop_23 (by decide) ?_))))
      exact wj_X5_pop_j28 (u := u) hR X a1 ((z_gI u 83 1) - 1) ea1 u h
  · replace h := z_ip c1 h
    refine z_iconst X (v := 0) dX5_pop_7 (by decide) ?_
    cases h; exact z_zret X rfl rfl dX5_pop_8 ⟨rfl, rfl⟩

theorem lk_X6_begin_21 : (Cond.fieldLink RX6 21 RX6 (TX6 0).2.1 (TX6 0).2.2.1) ∈ wsX6_begin := by decide +kernel
theorem in_X6_begin_X6 : ∀ w ∈ u_ws RX6 TX6 6, w ∈ wsX6_begin := by decide +kernel
theorem lk_X6_begin_25 : (Cond.fieldLink RX6 25 RX6 (TX6 1).2.1 (TX6 1).2.2.1) ∈ wsX6_begin := by decide +kernel
theorem lk_X6_begin_28 : (Cond.fieldLink RX6 28 RX6 (TX6 2).2.1 (TX6 2).2.2.1) ∈ wsX6_begin := by decide +kernel
theorem lk_X6_begin_9 : (Cond.fieldLink RX6 9 RX6 (TX6 3).2.1 (TX6 3).2.2.1) ∈ wsX6_begin := by decide +kernel
theorem lk_X6_begin_15 : (Cond.fieldLink RX6 15 RX6 (TX6 4).2.1 (TX6 4).2.2.1) ∈ wsX6_begin := by decide +kernel
theorem lk_X6_begin_18 : (Cond.fieldLink RX6 18 RX6 (TX6 5).2.1 (TX6 5).2.2.1) ∈ wsX6_begin := by decide +kernel
def f_X6_begin (ao : Nat) (a1 : Int32) (u : z_M) : Option (z_M) :=
  z_lt (z_sI u ao 0 a1) (fun u1 => z_lt (z_sI u1 ao 1 ((1 <<< (a1 &&& 31)) - 1)) (fun u2 => z_lt (z_sI u2 ao 2 0) (fun u3 => z_lt (z_fill u3 (ao + 1) 9 0) (fun u4 => z_lt (z_fill u4 (ao + 2) 9 0) (fun u5 => z_lt (z_fill u5 (ao + 3) 81 0) (fun u6 => some u6))))))
set_option maxRecDepth 20000 in
set_option maxHeartbeats 4000000 in
theorem w_X6_begin (l : Launch) (g : z_G) (ao : Nat) (a1 : Int32) (eao : z_PO ao) (u : z_M) {res : z_M} (h : f_X6_begin ao a1 u = some res) : z_C l g z_shC yX6_begin wsX6_begin 2 [.ref (z_ad g ao), .int a1] u (fun v u' => v = none ∧ u' = res) := by
  refine z_C.mk (lv := [(0, .ref (z_ad g ao)), (1, .int a1)]) (cc := cX6_begin) (nL := 2) (rt := none) rfl (by decide) (Nat.le_of_ble_eq_true rfl) rfl (fun p e R s m args below meth c hR X => ?_)
  unfold f_X6_begin at h
  obtain ⟨u1, eu1, h⟩ := z_ls h
  obtain ⟨u2, eu2, h⟩ := z_ls h
  obtain ⟨u3, eu3, h⟩ := z_ls h
  obtain ⟨u4, eu4, h⟩ := z_ls h
  obtain ⟨u5, eu5, h⟩ := z_ls h
  obtain ⟨u6, eu6, h⟩ := z_ls h
  refine z_aload_n X 0 dX6_begin_0 rfl rfl (z_iload_n X 1 dX6_begin_1 rfl rfl (z_putI X (k0 := 0) (ty0 := tyX6) (z_po eao) rfl in_X6_begin_X6 tyX6_ok nmX6 (by decide) rfl rfl rfl rfl rfl lk_X6_begin_21 dX6_begin_2 (z_nm eu1 (z_aload_n X 0 dX6_begin_5 rfl rfl (z_iconst X (v := 1) dX6_begin_6 (by decide) (z_iload_n X 1 dX6_begin_7 rfl rfl (z_ishl X dX6_begin_8 (z_iconst X (v := 1) dX6_begin_9 (by decide) (z_isub X dX6_begin_10 (z_putI X (k0 := 1) (ty0 := tyX6) (z_po eao) rfl in_X6_begin_X6 tyX6_ok nmX6 (by decide) rfl rfl rfl rfl rfl lk_X6_begin_25 dX6_begin_11 (z_nm eu2 (z_aload_n X 0 dX6_begin_14 rfl rfl (z_iconst X (v := 0) dX6_begin_15 (by decide) (z_putI X (k0 := 2) (ty0 := tyX6) (z_po eao) rfl in_X6_begin_X6 tyX6_ok nmX6 (by decide) rfl rfl rfl rfl rfl lk_X6_begin_28 dX6_begin_16 (z_nm eu3 (z_aload_n X 0 dX6_begin_19 rfl rfl (z_getR X (k0 := 3) (z_po eao) rfl in_X6_begin_X6 (by decide) rfl rfl lk_X6_begin_9 dX6_begin_20 (z_iconst X (v := 0) dX6_begin_23 (by decide) (z_callSv X (u1 := (z_fill u3 (ao + 1) 9 0)) [.ref (z_ad g (ao + 1)), .int 0] [] (w_fill l g z_shC (ao + 1) 9 (z_poA eao) 0 u3) gX6_begin_J7_fill_53178 hy_J7_fill_53178.2 rfl (z_le1 hR (by decide)) (z_le2 hR (by decide) (by decide)) (Nat.le_of_ble_eq_true rfl) dX6_begin_24 (z_nm eu4 (z_aload_n X 0 dX6_begin_27 rfl rfl (z_getR X (k0 := 4) (z_po eao) rfl in_X6_begin_X6 (by decide) rfl rfl lk_X6_begin_15 dX6_begin_28 (z_iconst X (v := 0) dX6_begin_31 (by decide) (z_callSv X (u1 := (z_fill u4 (ao + 2) 9 0)) [.ref (z_ad g (ao + 2)), .int 0] [] (w_fill l g z_shC (ao + 2) 9 (z_poU eao) 0 u4) gX6_begin_J7_fill_53178 hy_J7_fill_53178.2 rfl (z_le1 hR (by decide)) (z_le2 hR (by decide) (by decide)) (Nat.le_of_ble_eq_true rfl) dX6_begin_32 (z_nm eu5 (z_aload_n X 0 dX6_begin_35 rfl rfl (z_getR X (k0 := 5) (z_po eao) rfl in_X6_begin_X6 (by decide) rfl rfl lk_X6_begin_18 dX6_begin_36 (z_iconst X (v := 0) dX6_begin_39 (by decide) (z_callSv X (u1 := (z_fill u5 (ao + 3) 81 0)) [.ref (z_ad g (ao + 3)), .int 0] [] (w_fill l g z_shC (ao + 3) 81 (z_poT eao) 0 u5) gX6_begin_J7_fill_53178 hy_J7_fill_53178.2 rfl (z_le1 hR (by decide)) (z_le2 hR (by decide) (by decide)) (Nat.le_of_ble_eq_true rfl) dX6_begin_40 (z_nm eu6 ?_))))))))))))))))))))))))))))))
  cases h; exact z_vret X rfl dX6_begin_43 ⟨rfl, rfl⟩

theorem lk_X6_put_15 : (Cond.fieldLink RX6 15 RX6 (TX6 4).2.1 (TX6 4).2.2.1) ∈ wsX6_put := by decide +kernel
theorem in_X6_put_X6 : ∀ w ∈ u_ws RX6 TX6 6, w ∈ wsX6_put := by decide +kernel
theorem lk_X6_put_9 : (Cond.fieldLink RX6 9 RX6 (TX6 3).2.1 (TX6 3).2.2.1) ∈ wsX6_put := by decide +kernel
theorem ini_X9_isIn_X6_put : Cond.initialized yX9_isIn.cls ∈ wsX6_put := by decide +kernel
theorem sta_X9_isIn_X6_put : Cond.static yX9_isIn ∈ wsX6_put := by decide +kernel
def j_X6_put_j71 (x0 : Nat) (x3 : Int32) (x4 : Int32) (x5 : Int32) (w : z_M) (kb : (Int32 × z_M) → Option (z_M)) (kx : z_M → Option (z_M)) : Option (z_M) :=
  Option.bind (f_X9_isIn x4 x5) (fun r12 => if r12 = 0 then (kb (x5 + 1, w)) else (z_gd (z_inb x5 9) (z_gd (z_inb x5 9) (z_lt (z_sI w (x0 + 2) x5.toNatClampNeg ((z_gI w (x0 + 2) x5.toNatClampNeg) ||| x3)) (fun u16 => kb (x5 + 1, u16))))))
def b_X6_put_43 (x0 : Nat) (x3 : Int32) (x4 : Int32) : (Int32 × z_M) → ((Int32 × z_M) → Option (z_M)) → (z_M → Option (z_M)) → Option (z_M) := fun q kb kx =>
  if 9 ≤ q.1 then (kx q.2) else (Option.bind (f_X9_isIn x3 q.1) (fun r10 => if r10 = 0 then (j_X6_put_j71 x0 x3 x4 q.1 q.2 kb kx) else (z_gd (z_inb q.1 9) (z_gd (z_inb q.1 9) (z_lt (z_sI q.2 (x0 + 1) q.1.toNatClampNeg ((z_gI q.2 (x0 + 1) q.1.toNatClampNeg) ||| x4)) (fun u19 => j_X6_put_j71 x0 x3 x4 q.1 u19 kb kx))))))
def f_X6_put (ao : Nat) (a1 : Int32) (a2 : Int32) (u : z_M) : Option (z_M) :=
  Option.bind (f_X6_has ao a1 u) (fun r1 => if r1 = 0 then (some u) else (Option.bind (f_X6_has ao a2 u) (fun r3 => if r3 = 0 then (some u) else (z_gd (z_inb a1 9) (z_lt ((z_gI u (ao + 2) a1.toNatClampNeg) ||| (1 <<< (a1 &&& 31))) (fun v6 => z_gd (z_inb a2 9) (z_lt ((z_gI u (ao + 1) a2.toNatClampNeg) ||| (1 <<< (a2 &&& 31))) (fun v8 => z_lp (b_X6_put_43 ao v6 v8) z_F (0, u) (fun t20 => some t20)))))))))
set_option maxRecDepth 20000 in
set_option maxHeartbeats 4000000 in
theorem wj_X6_put_j71 {p : Program} {l : Launch} {e : Env} {R : Room} {s : State} {m : MethodId} {args : Array Value} {below : List Frame} {meth : Method} {c : Code} {g : z_G} {u : z_M} {res : z_M} (hR : R = z_rm 3) (X : z_X p R s m args meth c cX6_put 6 RX6 wsX6_put none g z_shC) (x0 : Nat) (x3 : Int32) (x4 : Int32) (ex0 : z_PO x0) (x5 : Int32) (w : z_M) (kb : (Int32 × z_M) → Option (z_M)) (kx : z_M → Option (z_M)) (hkb : ∀ q, kb q = some res → z_V p l e R s m args below meth c 6 g z_shC (MQ below (z_Qc g z_shC (fun v u' => v = none ∧ u' = res)) args s 0 0 (z_A g z_shC)) 43 [(0, .ref (z_ad g x0)), (3, .int x3), (4, .int x4), (5, .int q.1)] [] q.2) (hkx : ∀ t, kx t = some res → z_V p l e R s m args below meth c 6 g z_shC (MQ below (z_Qc g z_shC (fun v u' => v = none ∧ u' = res)) args s 0 0 (z_A g z_shC)) 98 [] [] t) (h : j_X6_put_j71 x0 x3 x4 x5 w kb kx = some res) : z_V p l e R s m args below meth c 6 g z_shC (MQ below (z_Qc g z_shC (fun v u' => v = none ∧ u' = res)) args s 0 0 (z_A g z_shC)) 71 [(0, .ref (z_ad g x0)), (3, .int x3), (4, .int x4), (5, .int x5)] [] w := by
  unfold j_X6_put_j71 at h
  obtain ⟨r12, er12, h⟩ := z_bs h
  refine z_iload X 2 dX6_put_71 rfl (z_iload X 3 dX6_put_73 rfl (z_callNi X (r := r12) (u1 := w) [.int x4, .int x5] [] (w_X9_isIn l g x4 x5 w er12) gX6_put_X9_isIn_n43 nn_X6 ini_X9_isIn_X6_put sta_X9_isIn_X6_put hy_X9_isIn.2 rfl (z_le1 hR (by decide)) (z_le2 hR (by decide) (by decide)) (Nat.le_of_ble_eq_true rfl) dX6_put_75 (z_if_eq X 92 dX6_put_78 (by decide) (fun c13 => ?_) (fun c13 => ?_))))
  · replace h := z_ip c13 h
    refine z_iinc X (v := x5 + 1) 3 [(5, .int (x5 + 1)), (0, .ref (z_ad g x0)), (3, .int x3), (4, .int x4)] dX6_put_92 rfl rfl (by decide) rfl (z_goto X 43 dX6_put_95 (by decide) (z_sub [1, 2, 3, 0] [(0, .ref (z_ad g x0)), (3, .int x3), (4, .int x4), (5, .int (x5 + 1))] rfl ?_))
    exact hkb (x5 + 1, w) h
  · replace h := z_in c13 h
    obtain ⟨b14, h⟩ := z_gs h
    obtain ⟨b15, h⟩ := z_gs h
    obtain ⟨u16, eu16, h⟩ := z_ls h
    refine z_aload_n X 0 dX6_put_81 rfl rfl (z_getR X (k0 := 4) (z_po ex0) rfl in_X6_put_X6 (by decide) rfl rfl lk_X6_put_15 dX6_put_82 (z_iload X 3 dX6_put_85 rfl (z_dup2 X dX6_put_87 rfl rfl (z_iald X (z_poU ex0) (z_inS b14) dX6_put_88 (z_iload_n X 1 dX6_put_89 rfl rfl (z_ior X dX6_put_90 (z_iast X (z_poU ex0) (z_inS b15) dX6_put_91 (z_nm eu16 (z_iinc X (v := x5 + 1) 3 [(5, .int (x5 + 1)), (0, .ref (z_ad g x0)), (3, .int x3), (4, .int x4)] dX6_put_92 rfl rfl (by decide) rfl (z_goto X 43 dX6_put_95 (by decide) (z_sub [1, 2, 3, 0] [(0, .ref (z_ad g x0)), (3, .int x3), (4, .int x4), (5, .int (x5 + 1))] rfl ?_)))))))))))
    exact hkb (x5 + 1, u16) h
set_option maxRecDepth 20000 in
set_option maxHeartbeats 4000000 in
theorem wb_X6_put_43 {p : Program} {l : Launch} {e : Env} {R : Room} {s : State} {m : MethodId} {args : Array Value} {below : List Frame} {meth : Method} {c : Code} {g : z_G} {u : z_M} {res : z_M} (hR : R = z_rm 3) (X : z_X p R s m args meth c cX6_put 6 RX6 wsX6_put none g z_shC) (x0 : Nat) (x3 : Int32) (x4 : Int32) (ex0 : z_PO x0) (q : Int32 × z_M) (kb : (Int32 × z_M) → Option (z_M)) (kx : z_M → Option (z_M)) (hkb : ∀ q, kb q = some res → z_V p l e R s m args below meth c 6 g z_shC (MQ below (z_Qc g z_shC (fun v u' => v = none ∧ u' = res)) args s 0 0 (z_A g z_shC)) 43 [(0, .ref (z_ad g x0)), (3, .int x3), (4, .int x4), (5, .int q.1)] [] q.2) (hkx : ∀ t, kx t = some res → z_V p l e R s m args below meth c 6 g z_shC (MQ below (z_Qc g z_shC (fun v u' => v = none ∧ u' = res)) args s 0 0 (z_A g z_shC)) 98 [] [] t) (h : b_X6_put_43 x0 x3 x4 q kb kx = some res) : z_V p l e R s m args below meth c 6 g z_shC (MQ below (z_Qc g z_shC (fun v u' => v = none ∧ u' = res)) args s 0 0 (z_A g z_shC)) 43 [(0, .ref (z_ad g x0)), (3, .int x3), (4, .int x4), (5, .int q.1)] [] q.2 := by
  unfold b_X6_put_43 at h
  refine z_iload X 3 dX6_put_43 rfl (z_bipush X (v := 9) dX6_put_45 (by decide) (z_icmp_ge X 98 dX6_put_47 (by decide) (fun c9 => ?_) (fun c9 => ?_)))
  · replace h := z_ip c9 h
    refine z_sub [] [] rfl ?_
    exact hkx q.2 h
  · replace h := z_in c9 h
    obtain ⟨r10, er10, h⟩ := z_bs h
    refine z_iload_n X 1 dX6_put_50 rfl rfl (z_iload X 3 dX6_put_51 rfl (z_callNi X (r := r10) (u1 := q.2) [.int x3, .int q.1] [] (w_X9_isIn l g x3 q.1 q.2 er10) gX6_put_X9_isIn_n43 nn_X6 ini_X9_isIn_X6_put sta_X9_isIn_X6_put hy_X9_isIn.2 rfl (z_le1 hR (by decide)) (z_le2 hR (by decide) (by decide)) (Nat.le_of_ble_eq_true rfl) dX6_put_53 (z_if_eq X 71 dX6_put_56 (by decide) (fun c11 => ?_) (fun c11 => ?_))))
    · replace h := z_ip c11 h
      exact wj_X6_put_j71 (u := q.2) hR X x0 x3 x4 ex0 q.1 q.2 kb kx hkb hkx h
    · replace h := z_in c11 h
      obtain ⟨b17, h⟩ := z_gs h
      obtain ⟨b18, h⟩ := z_gs h
      obtain ⟨u19, eu19, h⟩ := z_ls h
      refine z_aload_n X 0 dX6_put_59 rfl rfl (z_getR X (k0 := 3) (z_po ex0) rfl in_X6_put_X6 (by decide) rfl rfl lk_X6_put_9 dX6_put_60 (z_iload X 3 dX6_put_63 rfl (z_dup2 X dX6_put_65 rfl rfl (z_iald X (z_poA ex0) (z_inS b17) dX6_put_66 (z_iload X 2 dX6_put_67 rfl (z_ior X dX6_put_69 (z_iast X (z_poA ex0) (z_inS b18) dX6_put_70 (z_nm eu19 ?_))))))))
      exact wj_X6_put_j71 (u := u19) hR X x0 x3 x4 ex0 q.1 u19 kb kx hkb hkx h
set_option maxRecDepth 20000 in
set_option maxHeartbeats 4000000 in
theorem w_X6_put (l : Launch) (g : z_G) (ao : Nat) (a1 : Int32) (a2 : Int32) (eao : z_PO ao) (u : z_M) {res : z_M} (h : f_X6_put ao a1 a2 u = some res) : z_C l g z_shC yX6_put wsX6_put 3 [.ref (z_ad g ao), .int a1, .int a2] u (fun v u' => v = none ∧ u' = res) := by
  refine z_C.mk (lv := [(0, .ref (z_ad g ao)), (1, .int a1), (2, .int a2)]) (cc := cX6_put) (nL := 6) (rt := none) rfl (by decide) (Nat.le_of_ble_eq_true rfl) rfl (fun p e R s m args below meth c hR X => ?_)
  unfold f_X6_put at h
  obtain ⟨r1, er1, h⟩ := z_bs h
  refine z_aload_n X 0 dX6_put_0 rfl rfl (z_iload_n X 1 dX6_put_1 rfl rfl (z_callVi X (r := r1) (u1 := u) [.int a1] [] (w_X6_has l g ao a1 eao u er1) (z_po eao) rfl gX6_put_X6_has hy_X6_has rfl (z_le1 hR (by decide)) (z_le2 hR (by decide) (by decide)) (Nat.le_of_ble_eq_true rfl) dX6_put_2 (z_if_eq X 16 dX6_put_5 (by decide) (fun c2 => ?_) (fun c2 => ?_))))
  · replace h := z_ip c2 h
    cases h; exact z_vret X rfl dX6_put_16 ⟨rfl, rfl⟩
  · replace h := z_in c2 h
    obtain ⟨r3, er3, h⟩ := z_bs h
    refine z_aload_n X 0 dX6_put_8 rfl rfl (z_iload_n X 2 dX6_put_9 rfl rfl (z_callVi X (r := r3) (u1 := u) [.int a2] [] (w_X6_has l g ao a2 eao u er3) (z_po eao) rfl gX6_put_X6_has hy_X6_has rfl (z_le1 hR (by decide)) (z_le2 hR (by decide) (by decide)) (Nat.le_of_ble_eq_true rfl) dX6_put_10 (z_if_ne X 17 dX6_put_13 (by decide) (fun c4 => ?_) (fun c4 => ?_))))
    · replace h := z_in c4 h
      obtain ⟨b5, h⟩ := z_gs h
      obtain ⟨v6, ev6, h⟩ := z_ls h
      obtain ⟨b7, h⟩ := z_gs h
      obtain ⟨v8, ev8, h⟩ := z_ls h
      refine z_aload_n X 0 dX6_put_17 rfl rfl (z_getR X (k0 := 4) (z_po eao) rfl in_X6_put_X6 (by decide) rfl rfl lk_X6_put_15 dX6_put_18 (z_iload_n X 1 dX6_put_21 rfl rfl (z_iald X (z_poU eao) (z_inS b5) dX6_put_22 (z_iconst X (v := 1) dX6_put_23 (by decide) (z_iload_n X 1 dX6_put_24 rfl rfl (z_ishl X dX6_put_25 (z_ior X dX6_put_26 (z_ti ev6 (z_istore_n X [(3, .int v6), (0, .ref (z_ad g ao)), (1, .int a1), (2, .int a2)] dX6_put_27 rfl (by decide) rfl (z_aload_n X 1 dX6_put_28 rfl rfl (z_getR X (k0 := 3) (z_po eao) rfl in_X6_put_X6 (by decide) rfl rfl lk_X6_put_9 dX6_put_29 (z_iload_n X 3 dX6_put_32 rfl rfl (z_iald X (z_poA eao) (z_inS b7) dX6_put_33 (z_iconst X (v := 1) dX6_put_34 (by decide) (z_iload_n X 3 dX6_put_35 rfl rfl (z_ishl X dX6_put_36 (z_ior X dX6_put_37 (z_ti ev8 (z_istore X [(4, .int v8), (3, .int v6), (0, .ref (z_ad g ao)), (1, .int a1), (2, .int a2)] dX6_put_38 (by decide) rfl (z_iconst X (v := 0) dX6_put_40 (by decide) (z_istore X [(5, .int 0), (4, .int v8), (3, .int v6), (0, .ref (z_ad g ao)), (1, .int a1), (2, .int a2)] dX6_put_41 (by decide) rfl (z_sub [3, 2, 1, 0] [(0, .ref (z_ad g ao)), (3, .int v6), (4, .int v8), (5, .int 0)] rfl ?_))))))))))))))))))))))
      have hw := z_lp_w (fun q9 kb9 kx9 h1 h2 h3 => wb_X6_put_43 (l := l) (e := e) (below := below) (u := u) hR X ao v6 v8 eao q9 kb9 kx9 h1 h2 h3) z_F _ _ h
      refine hw (fun t20 h => ?_)
      cases h; exact z_vret X rfl dX6_put_98 ⟨rfl, rfl⟩
    · replace h := z_ip c4 h
      cases h; exact z_vret X rfl dX6_put_16 ⟨rfl, rfl⟩

theorem lk_X6_takeAway_25 : (Cond.fieldLink RX6 25 RX6 (TX6 1).2.1 (TX6 1).2.2.1) ∈ wsX6_takeAway := by decide +kernel
theorem in_X6_takeAway_X6 : ∀ w ∈ u_ws RX6 TX6 6, w ∈ wsX6_takeAway := by decide +kernel
theorem lk_X6_takeAway_9 : (Cond.fieldLink RX6 9 RX6 (TX6 3).2.1 (TX6 3).2.2.1) ∈ wsX6_takeAway := by decide +kernel
theorem lk_X6_takeAway_15 : (Cond.fieldLink RX6 15 RX6 (TX6 4).2.1 (TX6 4).2.2.1) ∈ wsX6_takeAway := by decide +kernel
def b_X6_takeAway_41 (x0 : Nat) (x2 : Int32) : (Int32 × z_M) → ((Int32 × z_M) → Option (z_M)) → (z_M → Option (z_M)) → Option (z_M) := fun q kb kx =>
  if 9 ≤ q.1 then (kx q.2) else (z_gd (z_inb q.1 9) (z_gd (z_inb q.1 9) (z_lt (z_sI q.2 (x0 + 1) q.1.toNatClampNeg ((z_gI q.2 (x0 + 1) q.1.toNatClampNeg) &&& x2)) (fun u12 => z_gd (z_inb q.1 9) (z_gd (z_inb q.1 9) (z_lt (z_sI u12 (x0 + 2) q.1.toNatClampNeg ((z_gI u12 (x0 + 2) q.1.toNatClampNeg) &&& x2)) (fun u15 => kb (q.1 + 1, u15))))))))
def f_X6_takeAway (ao : Nat) (a1 : Int32) (u : z_M) : Option (z_M) :=
  Option.bind (f_X6_has ao a1 u) (fun r1 => if r1 = 0 then (some u) else (z_lt ((1 <<< (a1 &&& 31)) ^^^ (-1)) (fun v3 => z_lt (z_sI u ao 1 ((z_gI u ao 1) &&& v3)) (fun u4 => z_gd (z_inb a1 9) (z_lt (z_sI u4 (ao + 1) a1.toNatClampNeg 0) (fun u6 => z_gd (z_inb a1 9) (z_lt (z_sI u6 (ao + 2) a1.toNatClampNeg 0) (fun u8 => z_lp (b_X6_takeAway_41 ao v3) z_F (0, u8) (fun t16 => some t16)))))))))
set_option maxRecDepth 20000 in
set_option maxHeartbeats 4000000 in
theorem wb_X6_takeAway_41 {p : Program} {l : Launch} {e : Env} {R : Room} {s : State} {m : MethodId} {args : Array Value} {below : List Frame} {meth : Method} {c : Code} {g : z_G} {u : z_M} {res : z_M} (hR : R = z_rm 3) (X : z_X p R s m args meth c cX6_takeAway 4 RX6 wsX6_takeAway none g z_shC) (x0 : Nat) (x2 : Int32) (ex0 : z_PO x0) (q : Int32 × z_M) (kb : (Int32 × z_M) → Option (z_M)) (kx : z_M → Option (z_M)) (hkb : ∀ q, kb q = some res → z_V p l e R s m args below meth c 4 g z_shC (MQ below (z_Qc g z_shC (fun v u' => v = none ∧ u' = res)) args s 0 0 (z_A g z_shC)) 41 [(0, .ref (z_ad g x0)), (2, .int x2), (3, .int q.1)] [] q.2) (hkx : ∀ t, kx t = some res → z_V p l e R s m args below meth c 4 g z_shC (MQ below (z_Qc g z_shC (fun v u' => v = none ∧ u' = res)) args s 0 0 (z_A g z_shC)) 73 [] [] t) (h : b_X6_takeAway_41 x0 x2 q kb kx = some res) : z_V p l e R s m args below meth c 4 g z_shC (MQ below (z_Qc g z_shC (fun v u' => v = none ∧ u' = res)) args s 0 0 (z_A g z_shC)) 41 [(0, .ref (z_ad g x0)), (2, .int x2), (3, .int q.1)] [] q.2 := by
  unfold b_X6_takeAway_41 at h
  refine z_iload_n X 2 dX6_takeAway_41 rfl rfl (z_bipush X (v := 9) dX6_takeAway_42 (by decide) (z_icmp_ge X 73 dX6_takeAway_44 (by decide) (fun c9 => ?_) (fun c9 => ?_)))
  · replace h := z_ip c9 h
    refine z_sub [] [] rfl ?_
    exact hkx q.2 h
  · replace h := z_in c9 h
    obtain ⟨b10, h⟩ := z_gs h
    obtain ⟨b11, h⟩ := z_gs h
    obtain ⟨u12, eu12, h⟩ := z_ls h
    obtain ⟨b13, h⟩ := z_gs h
    obtain ⟨b14, h⟩ := z_gs h
    obtain ⟨u15, eu15, h⟩ := z_ls h
    refine z_aload_n X 0 dX6_takeAway_47 rfl rfl (z_getR X (k0 := 3) (z_po ex0) rfl in_X6_takeAway_X6 (by decide) rfl rfl lk_X6_takeAway_9 dX6_takeAway_48 (z_iload_n X 2 dX6_takeAway_51 rfl rfl (z_dup2 X dX6_takeAway_52 rfl rfl (z_iald X (z_poA ex0) (z_inS b10) dX6_takeAway_53 (z_iload_n X 1 dX6_takeAway_54 rfl rfl (z_iand X dX6_takeAway_55 (z_iast X (z_poA ex0) (z_inS b11) dX6_takeAway_56 (z_nm eu12 (z_aload_n X 0 dX6_takeAway_57 rfl rfl (z_getR X (k0 := 4) (z_po ex0) rfl in_X6_takeAway_X6 (by decide) rfl rfl lk_X6_takeAway_15 dX6_takeAway_58 (z_iload_n X 2 dX6_takeAway_61 rfl rfl (z_dup2 X dX6_takeAway_62 rfl rfl (z_iald X (z_poU ex0) (z_inS b13) dX6_takeAway_63 (z_iload_n X 1 dX6_takeAway_64 rfl rfl (z_iand X dX6_takeAway_65 (z_iast X (z_poU ex0) (z_inS b14) dX6_takeAway_66 (z_nm eu15 (z_iinc X (v := q.1 + 1) 2 [(3, .int (q.1 + 1)), (0, .ref (z_ad g x0)), (2, .int x2)] dX6_takeAway_67 rfl rfl (by decide) rfl (z_goto X 41 dX6_takeAway_70 (by decide) (z_sub [1, 2, 0] [(0, .ref (z_ad g x0)), (2, .int x2), (3, .int (q.1 + 1))] rfl ?_))))))))))))))))))))
    exact hkb (q.1 + 1, u15) h
set_option maxRecDepth 20000 in
set_option maxHeartbeats 4000000 in
theorem w_X6_takeAway (l : Launch) (g : z_G) (ao : Nat) (a1 : Int32) (eao : z_PO ao) (u : z_M) {res : z_M} (h : f_X6_takeAway ao a1 u = some res) : z_C l g z_shC yX6_takeAway wsX6_takeAway 3 [.ref (z_ad g ao), .int a1] u (fun v u' => v = none ∧ u' = res) := by
  refine z_C.mk (lv := [(0, .ref (z_ad g ao)), (1, .int a1)]) (cc := cX6_takeAway) (nL := 4) (rt := none) rfl (by decide) (Nat.le_of_ble_eq_true rfl) rfl (fun p e R s m args below meth c hR X => ?_)
  unfold f_X6_takeAway at h
  obtain ⟨r1, er1, h⟩ := z_bs h
  refine z_aload_n X 0 dX6_takeAway_0 rfl rfl (z_iload_n X 1 dX6_takeAway_1 rfl rfl (z_callVi X (r := r1) (u1 := u) [.int a1] [] (w_X6_has l g ao a1 eao u er1) (z_po eao) rfl gX6_takeAway_X6_has hy_X6_has rfl (z_le1 hR (by decide)) (z_le2 hR (by decide) (by decide)) (Nat.le_of_ble_eq_true rfl) dX6_takeAway_2 (z_if_ne X 9 dX6_takeAway_5 (by decide) (fun c2 => ?_) (fun c2 => ?_))))
  · replace h := z_in c2 h
    obtain ⟨v3, ev3, h⟩ := z_ls h
    obtain ⟨u4, eu4, h⟩ := z_ls h
    obtain ⟨b5, h⟩ := z_gs h
    obtain ⟨u6, eu6, h⟩ := z_ls h
    obtain ⟨b7, h⟩ := z_gs h
    obtain ⟨u8, eu8, h⟩ := z_ls h
    refine z_iconst X (v := 1) dX6_takeAway_9 (by decide) (z_iload_n X 1 dX6_takeAway_10 rfl rfl (z_ishl X dX6_takeAway_11 (z_iconst X (v := (-1)) dX6_takeAway_12 (by decide) (z_ixor X dX6_takeAway_13 (z_ti ev3 (z_istore_n X [(2, .int v3), (0, .ref (z_ad g ao)), (1, .int a1)] dX6_takeAway_14 rfl (by decide) rfl (z_aload_n X 1 dX6_takeAway_15 rfl rfl (z_dup X dX6_takeAway_16 rfl (z_getI X (k0 := 1) (z_po eao) rfl in_X6_takeAway_X6 (by decide) rfl rfl lk_X6_takeAway_25 dX6_takeAway_17 (z_iload_n X 0 dX6_takeAway_20 rfl rfl (z_iand X dX6_takeAway_21 (z_putI X (k0 := 1) (ty0 := tyX6) (z_po eao) rfl in_X6_takeAway_X6 tyX6_ok nmX6 (by decide) rfl rfl rfl rfl rfl lk_X6_takeAway_25 dX6_takeAway_22 (z_nm eu4 (z_aload_n X 1 dX6_takeAway_25 rfl rfl (z_getR X (k0 := 3) (z_po eao) rfl in_X6_takeAway_X6 (by decide) rfl rfl lk_X6_takeAway_9 dX6_takeAway_26 (z_iload_n X 2 dX6_takeAway_29 rfl rfl (z_iconst X (v := 0) dX6_takeAway_30 (by decide) (z_iast X (z_poA eao) (z_inS b5) dX6_takeAway_31 (z_nm eu6 (z_aload_n X 1 dX6_takeAway_32 rfl rfl (z_getR X (k0 := 4) (z_po eao) rfl in_X6_takeAway_X6 (by decide) rfl rfl lk_X6_takeAway_15 dX6_takeAway_33 (z_iload_n X 2 dX6_takeAway_36 rfl rfl (z_iconst X (v := 0) dX6_takeAway_37 (by decide) (z_iast X (z_poU eao) (z_inS b7) dX6_takeAway_38 (z_nm eu8 (z_iconst X (v := 0) dX6_takeAway_39 (by decide) (z_istore_n X [(3, .int 0), (2, .int v3), (0, .ref (z_ad g ao)), (1, .int a1)] dX6_takeAway_40 rfl (by decide) rfl (z_sub [2, 1, 0] [(0, .ref (z_ad g ao)), (2, .int v3), (3, .int 0)] rfl ?_))))))))))))))))))))))))))))
    have hw := z_lp_w (fun q9 kb9 kx9 h1 h2 h3 => wb_X6_takeAway_41 (l := l) (e := e) (below := below) (u := u8) hR X ao v3 eao q9 kb9 kx9 h1 h2 h3) z_F _ _ h
    refine hw (fun t16 h => ?_)
    cases h; exact z_vret X rfl dX6_takeAway_73 ⟨rfl, rfl⟩
  · replace h := z_ip c2 h
    cases h; exact z_vret X rfl dX6_takeAway_8 ⟨rfl, rfl⟩

theorem lk_X6_setTag_18 : (Cond.fieldLink RX6 18 RX6 (TX6 5).2.1 (TX6 5).2.2.1) ∈ wsX6_setTag := by decide +kernel
theorem in_X6_setTag_X6 : ∀ w ∈ u_ws RX6 TX6 6, w ∈ wsX6_setTag := by decide +kernel
def f_X6_setTag (ao : Nat) (a1 : Int32) (a2 : Int32) (a3 : Int32) (u : z_M) : Option (z_M) :=
  z_lt ((a1 * 9) + a2) (fun v1 => if v1 < 0 then (some u) else (if (nI 81) ≤ v1 then (some u) else (z_gd (z_inb v1 81) (z_lt (z_sI u (ao + 3) v1.toNatClampNeg a3) (fun u5 => some u5)))))
set_option maxRecDepth 20000 in
set_option maxHeartbeats 4000000 in
theorem w_X6_setTag (l : Launch) (g : z_G) (ao : Nat) (a1 : Int32) (a2 : Int32) (a3 : Int32) (eao : z_PO ao) (u : z_M) {res : z_M} (h : f_X6_setTag ao a1 a2 a3 u = some res) : z_C l g z_shC yX6_setTag wsX6_setTag 1 [.ref (z_ad g ao), .int a1, .int a2, .int a3] u (fun v u' => v = none ∧ u' = res) := by
  refine z_C.mk (lv := [(0, .ref (z_ad g ao)), (1, .int a1), (2, .int a2), (3, .int a3)]) (cc := cX6_setTag) (nL := 5) (rt := none) rfl (by decide) (Nat.le_of_ble_eq_true rfl) rfl (fun p e R s m args below meth c hR X => ?_)
  unfold f_X6_setTag at h
  obtain ⟨v1, ev1, h⟩ := z_ls h
  refine z_iload_n X 1 dX6_setTag_0 rfl rfl (z_bipush X (v := 9) dX6_setTag_1 (by decide) (z_imul X dX6_setTag_3 (z_iload_n X 2 dX6_setTag_4 rfl rfl (z_iadd X dX6_setTag_5 (z_ti ev1 (z_istore X [(4, .int v1), (0, .ref (z_ad g ao)), (1, .int a1), (2, .int a2), (3, .int a3)] dX6_setTag_6 (by decide) rfl (z_iload X 0 dX6_setTag_8 rfl (z_if_lt X 31 dX6_setTag_10 (by decide) (fun c2 => ?_) (fun c2 => ?_)))))))))
  · replace h := z_ip c2 h
    cases h; exact z_vret X rfl dX6_setTag_31 ⟨rfl, rfl⟩
  · replace h := z_in c2 h
    refine z_iload X 0 dX6_setTag_13 rfl (z_aload_n X 1 dX6_setTag_15 rfl rfl (z_getR X (k0 := 5) (z_po eao) rfl in_X6_setTag_X6 (by decide) rfl rfl lk_X6_setTag_18 dX6_setTag_16 (z_alen X (z_poT eao) (by decide) dX6_setTag_19 (z_icmp_ge X 31 dX6_setTag_20 (by decide) (fun c3 => ?_) (fun c3 => ?_)))))
    · replace h := z_ip c3 h
      cases h; exact z_vret X rfl dX6_setTag_31 ⟨rfl, rfl⟩
    · replace h := z_in c3 h
      obtain ⟨b4, h⟩ := z_gs h
      obtain ⟨u5, eu5, h⟩ := z_ls h
      refine z_aload_n X 1 dX6_setTag_23 rfl rfl (z_getR X (k0 := 5) (z_po eao) rfl in_X6_setTag_X6 (by decide) rfl rfl lk_X6_setTag_18 dX6_setTag_24 (z_iload X 0 dX6_setTag_27 rfl (z_iload_n X 4 dX6_setTag_29 rfl rfl (z_iast X (z_poT eao) (z_inS b4) dX6_setTag_30 (z_nm eu5 ?_)))))
      cases h; exact z_vret X rfl dX6_setTag_31 ⟨rfl, rfl⟩

def f_X6_between (ao : Nat) (a1 : Int32) (a2 : Int32) (u : z_M) : Option (Int32) :=
  Option.bind (f_X6_atLeast ao a1 u) (fun r1 => Option.bind (f_X6_atMost ao a2 u) (fun r2 => some (r1 &&& r2)))
set_option maxRecDepth 20000 in
set_option maxHeartbeats 4000000 in
theorem w_X6_between (l : Launch) (g : z_G) (ao : Nat) (a1 : Int32) (a2 : Int32) (eao : z_PO ao) (u : z_M) {res : Int32} (h : f_X6_between ao a1 a2 u = some res) : z_C l g z_shC yX6_between wsX6_between 4 [.ref (z_ad g ao), .int a1, .int a2] u (fun v u' => v = some (.int res) ∧ u' = u) := by
  refine z_C.mk (lv := [(0, .ref (z_ad g ao)), (1, .int a1), (2, .int a2)]) (cc := cX6_between) (nL := 3) (rt := (some .int)) rfl (by decide) (Nat.le_of_ble_eq_true rfl) rfl (fun p e R s m args below meth c hR X => ?_)
  unfold f_X6_between at h
  obtain ⟨r1, er1, h⟩ := z_bs h
  obtain ⟨r2, er2, h⟩ := z_bs h
  refine z_aload_n X 0 dX6_between_0 rfl rfl (z_iload_n X 1 dX6_between_1 rfl rfl (z_callVi X (r := r1) (u1 := u) [.int a1] [] (w_X6_atLeast l g ao a1 eao u er1) (z_po eao) rfl gX6_between_X6_atLeast hy_X6_atLeast rfl (z_le1 hR (by decide)) (z_le2 hR (by decide) (by decide)) (Nat.le_of_ble_eq_true rfl) dX6_between_2 (z_aload_n X 0 dX6_between_5 rfl rfl (z_iload_n X 2 dX6_between_6 rfl rfl (z_callVi X (r := r2) (u1 := u) [.int a2] [.int r1] (w_X6_atMost l g ao a2 eao u er2) (z_po eao) rfl gX6_between_X6_atMost hy_X6_atMost rfl (z_le1 hR (by decide)) (z_le2 hR (by decide) (by decide)) (Nat.le_of_ble_eq_true rfl) dX6_between_7 (z_iand X dX6_between_10 ?_))))))
  cases h; exact z_iret X rfl dX6_between_11 ⟨rfl, rfl⟩

theorem lk_X6_innerOf_9 : (Cond.fieldLink RX6 9 RX6 (TX6 3).2.1 (TX6 3).2.2.1) ∈ wsX6_innerOf := by decide +kernel
theorem in_X6_innerOf_X6 : ∀ w ∈ u_ws RX6 TX6 6, w ∈ wsX6_innerOf := by decide +kernel
theorem lk_X6_innerOf_15 : (Cond.fieldLink RX6 15 RX6 (TX6 4).2.1 (TX6 4).2.2.1) ∈ wsX6_innerOf := by decide +kernel
def f_X6_innerOf (ao : Nat) (a1 : Int32) (a2 : Int32) (u : z_M) : Option (Int32) :=
  Option.bind (f_X6_has ao a1 u) (fun r1 => if r1 = 0 then (some 0) else (Option.bind (f_X6_has ao a2 u) (fun r3 => if r3 = 0 then (some 0) else (z_gd (z_inb a1 9) (z_gd (z_inb a2 9) (some ((z_gI u (ao + 1) a1.toNatClampNeg) &&& (z_gI u (ao + 2) a2.toNatClampNeg))))))))
set_option maxRecDepth 20000 in
set_option maxHeartbeats 4000000 in
theorem w_X6_innerOf (l : Launch) (g : z_G) (ao : Nat) (a1 : Int32) (a2 : Int32) (eao : z_PO ao) (u : z_M) {res : Int32} (h : f_X6_innerOf ao a1 a2 u = some res) : z_C l g z_shC yX6_innerOf wsX6_innerOf 3 [.ref (z_ad g ao), .int a1, .int a2] u (fun v u' => v = some (.int res) ∧ u' = u) := by
  refine z_C.mk (lv := [(0, .ref (z_ad g ao)), (1, .int a1), (2, .int a2)]) (cc := cX6_innerOf) (nL := 3) (rt := (some .int)) rfl (by decide) (Nat.le_of_ble_eq_true rfl) rfl (fun p e R s m args below meth c hR X => ?_)
  unfold f_X6_innerOf at h
  obtain ⟨r1, er1, h⟩ := z_bs h
  refine z_aload_n X 0 dX6_innerOf_0 rfl rfl (z_iload_n X 1 dX6_innerOf_1 rfl rfl (z_callVi X (r := r1) (u1 := u) [.int a1] [] (w_X6_has l g ao a1 eao u er1) (z_po eao) rfl gX6_innerOf_X6_has hy_X6_has rfl (z_le1 hR (by decide)) (z_le2 hR (by decide) (by decide)) (Nat.le_of_ble_eq_true rfl) dX6_innerOf_2 (z_if_eq X 32 dX6_innerOf_5 (by decide) (fun c2 => ?_) (fun c2 => ?_))))
  · replace h := z_ip c2 h
    refine z_iconst X (v := 0) dX6_innerOf_32 (by decide) ?_
    cases h; exact z_iret X rfl dX6_innerOf_33 ⟨rfl, rfl⟩
  · replace h := z_in c2 h
    obtain ⟨r3, er3, h⟩ := z_bs h
    refine z_aload_n X 0 dX6_innerOf_8 rfl rfl (z_iload_n X 2 dX6_innerOf_9 rfl rfl (z_callVi X (r := r3) (u1 := u) [.int a2] [] (w_X6_has l g ao a2 eao u er3) (z_po eao) rfl gX6_innerOf_X6_has hy_X6_has rfl (z_le1 hR (by decide)) (z_le2 hR (by decide) (by decide)) (Nat.le_of_ble_eq_true rfl) dX6_innerOf_10 (z_if_eq X 32 dX6_innerOf_13 (by decide) (fun c4 => ?_) (fun c4 => ?_))))
    · replace h := z_ip c4 h
      refine z_iconst X (v := 0) dX6_innerOf_32 (by decide) ?_
      cases h; exact z_iret X rfl dX6_innerOf_33 ⟨rfl, rfl⟩
    · replace h := z_in c4 h
      obtain ⟨b5, h⟩ := z_gs h
      obtain ⟨b6, h⟩ := z_gs h
      refine z_aload_n X 0 dX6_innerOf_16 rfl rfl (z_getR X (k0 := 3) (z_po eao) rfl in_X6_innerOf_X6 (by decide) rfl rfl lk_X6_innerOf_9 dX6_innerOf_17 (z_iload_n X 1 dX6_innerOf_20 rfl rfl (z_iald X (z_poA eao) (z_inS b5) dX6_innerOf_21 (z_aload_n X 0 dX6_innerOf_22 rfl rfl (z_getR X (k0 := 4) (z_po eao) rfl in_X6_innerOf_X6 (by decide) rfl rfl lk_X6_innerOf_15 dX6_innerOf_23 (z_iload_n X 2 dX6_innerOf_26 rfl rfl (z_iald X (z_poU eao) (z_inS b6) dX6_innerOf_27 (z_iand X dX6_innerOf_28 (z_goto X 33 dX6_innerOf_29 (by decide) ?_)))))))))
      cases h; exact z_iret X rfl dX6_innerOf_33 ⟨rfl, rfl⟩

theorem lk_X6_covered_15 : (Cond.fieldLink RX6 15 RX6 (TX6 4).2.1 (TX6 4).2.2.1) ∈ wsX6_covered := by decide +kernel
theorem in_X6_covered_X6 : ∀ w ∈ u_ws RX6 TX6 6, w ∈ wsX6_covered := by decide +kernel
theorem lk_X6_covered_9 : (Cond.fieldLink RX6 9 RX6 (TX6 3).2.1 (TX6 3).2.2.1) ∈ wsX6_covered := by decide +kernel
def f_X6_covered (ao : Nat) (a1 : Int32) (a2 : Int32) (u : z_M) : Option (Int32) :=
  Option.bind (f_X6_has ao a1 u) (fun r1 => if r1 = 0 then (some 0) else (z_gd (z_inb a1 9) (Option.bind (f_X6_endsOf ((z_gI u (ao + 2) a1.toNatClampNeg) &&& a2) (ao + 1) 9 u) (fun r4 => some r4))))
set_option maxRecDepth 20000 in
set_option maxHeartbeats 4000000 in
theorem w_X6_covered (l : Launch) (g : z_G) (ao : Nat) (a1 : Int32) (a2 : Int32) (eao : z_PO ao) (u : z_M) {res : Int32} (h : f_X6_covered ao a1 a2 u = some res) : z_C l g z_shC yX6_covered wsX6_covered 3 [.ref (z_ad g ao), .int a1, .int a2] u (fun v u' => v = some (.int res) ∧ u' = u) := by
  refine z_C.mk (lv := [(0, .ref (z_ad g ao)), (1, .int a1), (2, .int a2)]) (cc := cX6_covered) (nL := 3) (rt := (some .int)) rfl (by decide) (Nat.le_of_ble_eq_true rfl) rfl (fun p e R s m args below meth c hR X => ?_)
  unfold f_X6_covered at h
  obtain ⟨r1, er1, h⟩ := z_bs h
  refine z_aload_n X 0 dX6_covered_0 rfl rfl (z_iload_n X 1 dX6_covered_1 rfl rfl (z_callVi X (r := r1) (u1 := u) [.int a1] [] (w_X6_has l g ao a1 eao u er1) (z_po eao) rfl gX6_covered_X6_has hy_X6_has rfl (z_le1 hR (by decide)) (z_le2 hR (by decide) (by decide)) (Nat.le_of_ble_eq_true rfl) dX6_covered_2 (z_if_eq X 26 dX6_covered_5 (by decide) (fun c2 => ?_) (fun c2 => ?_))))
  · replace h := z_ip c2 h
    refine z_iconst X (v := 0) dX6_covered_26 (by decide) ?_
    cases h; exact z_iret X rfl dX6_covered_27 ⟨rfl, rfl⟩
  · replace h := z_in c2 h
    obtain ⟨b3, h⟩ := z_gs h
    obtain ⟨r4, er4, h⟩ := z_bs h
    refine z_aload_n X 0 dX6_covered_8 rfl rfl (z_getR X (k0 := 4) (z_po eao) rfl in_X6_covered_X6 (by decide) rfl rfl lk_X6_covered_15 dX6_covered_9 (z_iload_n X 1 dX6_covered_12 rfl rfl (z_iald X (z_poU eao) (z_inS b3) dX6_covered_13 (z_iload_n X 2 dX6_covered_14 rfl rfl (z_iand X dX6_covered_15 (z_aload_n X 0 dX6_covered_16 rfl rfl (z_getR X (k0 := 3) (z_po eao) rfl in_X6_covered_X6 (by decide) rfl rfl lk_X6_covered_9 dX6_covered_17 (z_callSi X (r := r4) (u1 := u) [.int ((z_gI u (ao + 2) a1.toNatClampNeg) &&& a2), .ref (z_ad g (ao + 1))] [] (w_X6_endsOf l g ((z_gI u (ao + 2) a1.toNatClampNeg) &&& a2) (ao + 1) 9 (z_poA eao) u er4) gX6_covered_X6_endsOf hy_X6_endsOf.2 rfl (z_le1 hR (by decide)) (z_le2 hR (by decide) (by decide)) (Nat.le_of_ble_eq_true rfl) dX6_covered_20 (z_goto X 27 dX6_covered_23 (by decide) ?_)))))))))
    cases h; exact z_iret X rfl dX6_covered_27 ⟨rfl, rfl⟩

theorem hy_X6_innerOf : yX6_innerOf.cls = RX6 ∧ yX6_innerOf.cls ≠ "java/lang/invoke/MethodHandle" ∧ yX6_innerOf.cls ≠ "java/lang/invoke/VarHandle" ∧ (parseMethodDescriptor yX6_innerOf.desc).map (fun d => d.parameters.length) = some 2 := by decide +kernel
def f_X6_isEdge (ao : Nat) (a1 : Int32) (a2 : Int32) (u : z_M) : Option (Int32) :=
  Option.bind (f_X6_isUnder ao a1 a2 u) (fun r1 => if r1 = 0 then (some 0) else (Option.bind (f_X6_innerOf ao a1 a2 u) (fun r3 => if r3 = 0 then (some 1) else (some 0))))
set_option maxRecDepth 20000 in
set_option maxHeartbeats 4000000 in
theorem w_X6_isEdge (l : Launch) (g : z_G) (ao : Nat) (a1 : Int32) (a2 : Int32) (eao : z_PO ao) (u : z_M) {res : Int32} (h : f_X6_isEdge ao a1 a2 u = some res) : z_C l g z_shC yX6_isEdge wsX6_isEdge 4 [.ref (z_ad g ao), .int a1, .int a2] u (fun v u' => v = some (.int res) ∧ u' = u) := by
  refine z_C.mk (lv := [(0, .ref (z_ad g ao)), (1, .int a1), (2, .int a2)]) (cc := cX6_isEdge) (nL := 3) (rt := (some .boolean)) rfl (by decide) (Nat.le_of_ble_eq_true rfl) rfl (fun p e R s m args below meth c hR X => ?_)
  unfold f_X6_isEdge at h
  obtain ⟨r1, er1, h⟩ := z_bs h
  refine z_aload_n X 0 dX6_isEdge_0 rfl rfl (z_iload_n X 1 dX6_isEdge_1 rfl rfl (z_iload_n X 2 dX6_isEdge_2 rfl rfl (z_callVi X (r := r1) (u1 := u) [.int a1, .int a2] [] (w_X6_isUnder l g ao a1 a2 eao u er1) (z_po eao) rfl gX6_isEdge_X6_isUnder hy_X6_isUnder rfl (z_le1 hR (by decide)) (z_le2 hR (by decide) (by decide)) (Nat.le_of_ble_eq_true rfl) dX6_isEdge_3 (z_if_eq X 22 dX6_isEdge_6 (by decide) (fun c2 => ?_) (fun c2 => ?_)))))
  · replace h := z_ip c2 h
    refine z_iconst X (v := 0) dX6_isEdge_22 (by decide) ?_
    cases h; exact z_zret X rfl rfl dX6_isEdge_23 ⟨rfl, rfl⟩
  · replace h := z_in c2 h
    obtain ⟨r3, er3, h⟩ := z_bs h
    refine z_aload_n X 0 dX6_isEdge_9 rfl rfl (z_iload_n X 1 dX6_isEdge_10 rfl rfl (z_iload_n X 2 dX6_isEdge_11 rfl rfl (z_callVi X (r := r3) (u1 := u) [.int a1, .int a2] [] (w_X6_innerOf l g ao a1 a2 eao u er3) (z_po eao) rfl gX6_isEdge_X6_innerOf hy_X6_innerOf rfl (z_le1 hR (by decide)) (z_le2 hR (by decide) (by decide)) (Nat.le_of_ble_eq_true rfl) dX6_isEdge_12 (z_if_ne X 22 dX6_isEdge_15 (by decide) (fun c4 => ?_) (fun c4 => ?_)))))
    · replace h := z_in c4 h
      refine z_iconst X (v := 0) dX6_isEdge_22 (by decide) ?_
      cases h; exact z_zret X rfl rfl dX6_isEdge_23 ⟨rfl, rfl⟩
    · replace h := z_ip c4 h
      refine z_iconst X (v := 1) dX6_isEdge_18 (by decide) (z_goto X 23 dX6_isEdge_19 (by decide) ?_)
      cases h; exact z_zret X rfl rfl dX6_isEdge_23 ⟨rfl, rfl⟩

theorem lk_X6_pairs_9 : (Cond.fieldLink RX6 9 RX6 (TX6 3).2.1 (TX6 3).2.2.1) ∈ wsX6_pairs := by decide +kernel
theorem in_X6_pairs_X6 : ∀ w ∈ u_ws RX6 TX6 6, w ∈ wsX6_pairs := by decide +kernel
def b_X6_pairs_4 (x0 : Nat) (u : z_M) : (Int32 × Int32) → ((Int32 × Int32) → Option (Int32)) → (Int32 → Option (Int32)) → Option (Int32) := fun q kb kx =>
  if 9 ≤ q.2 then (kx q.1) else (z_gd (z_inb q.2 9) (z_lt (q.1 + (z_bitc (z_gI u (x0 + 1) q.2.toNatClampNeg))) (fun v3 => kb (v3, q.2 + 1))))
def f_X6_pairs (ao : Nat) (u : z_M) : Option (Int32) :=
  z_lp (b_X6_pairs_4 ao u) z_F (0, 0) (fun t4 => some t4)
set_option maxRecDepth 20000 in
set_option maxHeartbeats 4000000 in
theorem wb_X6_pairs_4 {p : Program} {l : Launch} {e : Env} {R : Room} {s : State} {m : MethodId} {args : Array Value} {below : List Frame} {meth : Method} {c : Code} {g : z_G} {u : z_M} {res : Int32} (hR : R = z_rm 2) (X : z_X p R s m args meth c cX6_pairs 3 RX6 wsX6_pairs (some .int) g z_shC) (x0 : Nat) (ex0 : z_PO x0) (q : Int32 × Int32) (kb : (Int32 × Int32) → Option (Int32)) (kx : Int32 → Option (Int32)) (hkb : ∀ q, kb q = some res → z_V p l e R s m args below meth c 3 g z_shC (MQ below (z_Qc g z_shC (fun v u' => v = some (.int res) ∧ u' = u)) args s 0 0 (z_A g z_shC)) 4 [(0, .ref (z_ad g x0)), (1, .int q.1), (2, .int q.2)] [] u) (hkx : ∀ t, kx t = some res → z_V p l e R s m args below meth c 3 g z_shC (MQ below (z_Qc g z_shC (fun v u' => v = some (.int res) ∧ u' = u)) args s 0 0 (z_A g z_shC)) 28 [(1, .int t)] [] u) (h : b_X6_pairs_4 x0 u q kb kx = some res) : z_V p l e R s m args below meth c 3 g z_shC (MQ below (z_Qc g z_shC (fun v u' => v = some (.int res) ∧ u' = u)) args s 0 0 (z_A g z_shC)) 4 [(0, .ref (z_ad g x0)), (1, .int q.1), (2, .int q.2)] [] u := by
  unfold b_X6_pairs_4 at h
  refine z_iload_n X 2 dX6_pairs_4 rfl rfl (z_bipush X (v := 9) dX6_pairs_5 (by decide) (z_icmp_ge X 28 dX6_pairs_7 (by decide) (fun c1 => ?_) (fun c1 => ?_)))
  · replace h := z_ip c1 h
    refine z_sub [1] [(1, .int q.1)] rfl ?_
    exact hkx q.1 h
  · replace h := z_in c1 h
    obtain ⟨b2, h⟩ := z_gs h
    obtain ⟨v3, ev3, h⟩ := z_ls h
    refine z_iload_n X 1 dX6_pairs_10 rfl rfl (z_aload_n X 0 dX6_pairs_11 rfl rfl (z_getR X (k0 := 3) (z_po ex0) rfl in_X6_pairs_X6 (by decide) rfl rfl lk_X6_pairs_9 dX6_pairs_12 (z_iload_n X 2 dX6_pairs_15 rfl rfl (z_iald X (z_poA ex0) (z_inS b2) dX6_pairs_16 (z_callSi X (r := z_bitc (z_gI u (x0 + 1) q.2.toNatClampNeg)) (u1 := u) [.int (z_gI u (x0 + 1) q.2.toNatClampNeg)] [.int q.1] (w_bitc l g z_shC (z_gI u (x0 + 1) q.2.toNatClampNeg) u) gX6_pairs_J6_bitCount_0f7a4 hy_J6_bitCount_0f7a4.2 rfl (z_le1 hR (by decide)) (z_le2 hR (by decide) (by decide)) (Nat.le_of_ble_eq_true rfl) dX6_pairs_17 (z_iadd X dX6_pairs_20 (z_ti ev3 (z_istore_n X [(1, .int v3), (0, .ref (z_ad g x0)), (2, .int q.2)] dX6_pairs_21 rfl (by decide) rfl (z_iinc X (v := q.2 + 1) 2 [(2, .int (q.2 + 1)), (1, .int v3), (0, .ref (z_ad g x0))] dX6_pairs_22 rfl rfl (by decide) rfl (z_goto X 4 dX6_pairs_25 (by decide) (z_sub [2, 1, 0] [(0, .ref (z_ad g x0)), (1, .int v3), (2, .int (q.2 + 1))] rfl ?_)))))))))))
    exact hkb (v3, q.2 + 1) h
set_option maxRecDepth 20000 in
set_option maxHeartbeats 4000000 in
theorem w_X6_pairs (l : Launch) (g : z_G) (ao : Nat) (eao : z_PO ao) (u : z_M) {res : Int32} (h : f_X6_pairs ao u = some res) : z_C l g z_shC yX6_pairs wsX6_pairs 2 [.ref (z_ad g ao)] u (fun v u' => v = some (.int res) ∧ u' = u) := by
  refine z_C.mk (lv := [(0, .ref (z_ad g ao))]) (cc := cX6_pairs) (nL := 3) (rt := (some .int)) rfl (by decide) (Nat.le_of_ble_eq_true rfl) rfl (fun p e R s m args below meth c hR X => ?_)
  unfold f_X6_pairs at h
  refine z_iconst X (v := 0) dX6_pairs_0 (by decide) (z_istore_n X [(1, .int 0), (0, .ref (z_ad g ao))] dX6_pairs_1 rfl (by decide) rfl (z_iconst X (v := 0) dX6_pairs_2 (by decide) (z_istore_n X [(2, .int 0), (1, .int 0), (0, .ref (z_ad g ao))] dX6_pairs_3 rfl (by decide) rfl (z_sub [2, 1, 0] [(0, .ref (z_ad g ao)), (1, .int 0), (2, .int 0)] rfl ?_))))
  have hw := z_lp_w (fun q9 kb9 kx9 h1 h2 h3 => wb_X6_pairs_4 (l := l) (e := e) (below := below) (u := u) hR X ao eao q9 kb9 kx9 h1 h2 h3) z_F _ _ h
  refine hw (fun t4 h => ?_)
  refine z_iload_n X 0 dX6_pairs_28 rfl rfl ?_
  cases h; exact z_iret X rfl dX6_pairs_29 ⟨rfl, rfl⟩

theorem lk_X6_edges_25 : (Cond.fieldLink RX6 25 RX6 (TX6 1).2.1 (TX6 1).2.2.1) ∈ wsX6_edges := by decide +kernel
theorem in_X6_edges_X6 : ∀ w ∈ u_ws RX6 TX6 6, w ∈ wsX6_edges := fun _ h => List.mem_cons_of_mem _ (List.mem_append_right _ h)
def b_X6_edges_4 (x0 : Nat) (u : z_M) : (Int32 × Int32) → ((Int32 × Int32) → Option (Int32)) → (Int32 → Option (Int32)) → Option (Int32) := fun q kb kx =>
  if 9 ≤ q.2 then (kx q.1) else (Option.bind (f_X6_coverers x0 q.2 (z_gI u x0 1) u) (fun r2 => z_lt (q.1 + (z_bitc r2)) (fun v3 => kb (v3, q.2 + 1))))
def f_X6_edges (ao : Nat) (u : z_M) : Option (Int32) :=
  z_lp (b_X6_edges_4 ao u) z_F (0, 0) (fun t4 => some t4)
set_option maxRecDepth 20000 in
set_option maxHeartbeats 4000000 in
theorem wb_X6_edges_4 {p : Program} {l : Launch} {e : Env} {R : Room} {s : State} {m : MethodId} {args : Array Value} {below : List Frame} {meth : Method} {c : Code} {g : z_G} {u : z_M} {res : Int32} (hR : R = z_rm 4) (X : z_X p R s m args meth c cX6_edges 3 RX6 wsX6_edges (some .int) g z_shC) (x0 : Nat) (ex0 : z_PO x0) (q : Int32 × Int32) (kb : (Int32 × Int32) → Option (Int32)) (kx : Int32 → Option (Int32)) (hkb : ∀ q, kb q = some res → z_V p l e R s m args below meth c 3 g z_shC (MQ below (z_Qc g z_shC (fun v u' => v = some (.int res) ∧ u' = u)) args s 0 0 (z_A g z_shC)) 4 [(0, .ref (z_ad g x0)), (1, .int q.1), (2, .int q.2)] [] u) (hkx : ∀ t, kx t = some res → z_V p l e R s m args below meth c 3 g z_shC (MQ below (z_Qc g z_shC (fun v u' => v = some (.int res) ∧ u' = u)) args s 0 0 (z_A g z_shC)) 31 [(1, .int t)] [] u) (h : b_X6_edges_4 x0 u q kb kx = some res) : z_V p l e R s m args below meth c 3 g z_shC (MQ below (z_Qc g z_shC (fun v u' => v = some (.int res) ∧ u' = u)) args s 0 0 (z_A g z_shC)) 4 [(0, .ref (z_ad g x0)), (1, .int q.1), (2, .int q.2)] [] u := by
  unfold b_X6_edges_4 at h
  refine z_iload_n X 2 dX6_edges_4 rfl rfl (z_bipush X (v := 9) dX6_edges_5 (by decide) (z_icmp_ge X 31 dX6_edges_7 (by decide) (fun c1 => ?_) (fun c1 => ?_)))
  · replace h := z_ip c1 h
    refine z_sub [1] [(1, .int q.1)] rfl ?_
    exact hkx q.1 h
  · replace h := z_in c1 h
    obtain ⟨r2, er2, h⟩ := z_bs h
    obtain ⟨v3, ev3, h⟩ := z_ls h
    refine z_iload_n X 1 dX6_edges_10 rfl rfl (z_aload_n X 0 dX6_edges_11 rfl rfl (z_iload_n X 2 dX6_edges_12 rfl rfl (z_aload_n X 0 dX6_edges_13 rfl rfl (z_getI X (k0 := 1) (z_po ex0) rfl in_X6_edges_X6 (by decide) rfl rfl lk_X6_edges_25 dX6_edges_14 (z_callVi X (r := r2) (u1 := u) [.int q.2, .int (z_gI u x0 1)] [.int q.1] (w_X6_coverers l g x0 q.2 (z_gI u x0 1) ex0 u er2) (z_po ex0) rfl gX6_edges_X6_coverers hy_X6_coverers rfl (z_le1 hR (by decide)) (z_le2 hR (by decide) (by decide)) (Nat.le_of_ble_eq_true rfl) dX6_edges_17 (z_callSi X (r := z_bitc r2) (u1 := u) [.int r2] [.int q.1] (w_bitc l g z_shC r2 u) gX6_edges_J6_bitCount_0f7a4 hy_J6_bitCount_0f7a4.2 rfl (z_le1 hR (by decide)) (z_le2 hR (by decide) (by decide)) (Nat.le_of_ble_eq_true rfl) dX6_edges_20 (z_iadd X dX6_edges_23 (z_ti ev3 (z_istore_n X [(1, .int v3), (0, .ref (z_ad g x0)), (2, .int q.2)] dX6_edges_24 rfl (by decide) rfl (z_iinc X (v := q.2 + 1) 2 [(2, .int (q.2 + 1)), (1, .int v3), (0, .ref (z_ad g x0))] dX6_edges_25 rfl rfl (by decide) rfl (z_goto X 4 dX6_edges_28 (by decide) (z_sub [2, 1, 0] [(0, .ref (z_ad g x0)), (1, .int v3), (2, .int (q.2 + 1))] rfl ?_))))))))))))
    exact hkb (v3, q.2 + 1) h
set_option maxRecDepth 20000 in
set_option maxHeartbeats 4000000 in
theorem w_X6_edges (l : Launch) (g : z_G) (ao : Nat) (eao : z_PO ao) (u : z_M) {res : Int32} (h : f_X6_edges ao u = some res) : z_C l g z_shC yX6_edges wsX6_edges 4 [.ref (z_ad g ao)] u (fun v u' => v = some (.int res) ∧ u' = u) := by
  refine z_C.mk (lv := [(0, .ref (z_ad g ao))]) (cc := cX6_edges) (nL := 3) (rt := (some .int)) rfl (by decide) (Nat.le_of_ble_eq_true rfl) rfl (fun p e R s m args below meth c hR X => ?_)
  unfold f_X6_edges at h
  refine z_iconst X (v := 0) dX6_edges_0 (by decide) (z_istore_n X [(1, .int 0), (0, .ref (z_ad g ao))] dX6_edges_1 rfl (by decide) rfl (z_iconst X (v := 0) dX6_edges_2 (by decide) (z_istore_n X [(2, .int 0), (1, .int 0), (0, .ref (z_ad g ao))] dX6_edges_3 rfl (by decide) rfl (z_sub [2, 1, 0] [(0, .ref (z_ad g ao)), (1, .int 0), (2, .int 0)] rfl ?_))))
  have hw := z_lp_w (fun q9 kb9 kx9 h1 h2 h3 => wb_X6_edges_4 (l := l) (e := e) (below := below) (u := u) hR X ao eao q9 kb9 kx9 h1 h2 h3) z_F _ _ h
  refine hw (fun t4 h => ?_)
  refine z_iload_n X 0 dX6_edges_31 rfl rfl ?_
  cases h; exact z_iret X rfl dX6_edges_32 ⟨rfl, rfl⟩

theorem ini_X9_isIn_X6_leastFree : Cond.initialized yX9_isIn.cls ∈ wsX6_leastFree := by decide +kernel
theorem sta_X9_isIn_X6_leastFree : Cond.static yX9_isIn ∈ wsX6_leastFree := by decide +kernel
theorem lk_X6_leastFree_15 : (Cond.fieldLink RX6 15 RX6 (TX6 4).2.1 (TX6 4).2.2.1) ∈ wsX6_leastFree := by decide +kernel
theorem in_X6_leastFree_X6 : ∀ w ∈ u_ws RX6 TX6 6, w ∈ wsX6_leastFree := by decide +kernel
def b_X6_leastFree_2 (x0 : Nat) (x1 : Int32) (u : z_M) : Int32 → (Int32 → Option (Int32)) → (Unit → Option (Int32)) → Option (Int32) := fun q kb kx =>
  if 9 ≤ q then (kx ()) else (Option.bind (f_X9_isIn x1 q) (fun r2 => if r2 = 0 then (kb (q + 1)) else (z_gd (z_inb q 9) (if ((z_gI u (x0 + 2) q.toNatClampNeg) &&& x1) = 0 then (some q) else (kb (q + 1))))))
def f_X6_leastFree (ao : Nat) (a1 : Int32) (u : z_M) : Option (Int32) :=
  z_lp (b_X6_leastFree_2 ao a1 u) z_F 0 (fun t6 => some (-1))
set_option maxRecDepth 20000 in
set_option maxHeartbeats 4000000 in
theorem wb_X6_leastFree_2 {p : Program} {l : Launch} {e : Env} {R : Room} {s : State} {m : MethodId} {args : Array Value} {below : List Frame} {meth : Method} {c : Code} {g : z_G} {u : z_M} {res : Int32} (hR : R = z_rm 2) (X : z_X p R s m args meth c cX6_leastFree 3 RX6 wsX6_leastFree (some .int) g z_shC) (x0 : Nat) (x1 : Int32) (ex0 : z_PO x0) (q : Int32) (kb : Int32 → Option (Int32)) (kx : Unit → Option (Int32)) (hkb : ∀ q, kb q = some res → z_V p l e R s m args below meth c 3 g z_shC (MQ below (z_Qc g z_shC (fun v u' => v = some (.int res) ∧ u' = u)) args s 0 0 (z_A g z_shC)) 2 [(0, .ref (z_ad g x0)), (1, .int x1), (2, .int q)] [] u) (hkx : ∀ t, kx t = some res → z_V p l e R s m args below meth c 3 g z_shC (MQ below (z_Qc g z_shC (fun v u' => v = some (.int res) ∧ u' = u)) args s 0 0 (z_A g z_shC)) 35 [] [] u) (h : b_X6_leastFree_2 x0 x1 u q kb kx = some res) : z_V p l e R s m args below meth c 3 g z_shC (MQ below (z_Qc g z_shC (fun v u' => v = some (.int res) ∧ u' = u)) args s 0 0 (z_A g z_shC)) 2 [(0, .ref (z_ad g x0)), (1, .int x1), (2, .int q)] [] u := by
  unfold b_X6_leastFree_2 at h
  refine z_iload_n X 2 dX6_leastFree_2 rfl rfl (z_bipush X (v := 9) dX6_leastFree_3 (by decide) (z_icmp_ge X 35 dX6_leastFree_5 (by decide) (fun c1 => ?_) (fun c1 => ?_)))
  · replace h := z_ip c1 h
    refine z_sub [] [] rfl ?_
    exact hkx () h
  · replace h := z_in c1 h
    obtain ⟨r2, er2, h⟩ := z_bs h
    refine z_iload_n X 1 dX6_leastFree_8 rfl rfl (z_iload_n X 2 dX6_leastFree_9 rfl rfl (z_callNi X (r := r2) (u1 := u) [.int x1, .int q] [] (w_X9_isIn l g x1 q u er2) gX6_leastFree_X9_isIn_n43 nn_X6 ini_X9_isIn_X6_leastFree sta_X9_isIn_X6_leastFree hy_X9_isIn.2 rfl (z_le1 hR (by decide)) (z_le2 hR (by decide) (by decide)) (Nat.le_of_ble_eq_true rfl) dX6_leastFree_10 (z_if_eq X 29 dX6_leastFree_13 (by decide) (fun c3 => ?_) (fun c3 => ?_))))
    · replace h := z_ip c3 h
      refine z_iinc X (v := q + 1) 2 [(2, .int (q + 1)), (0, .ref (z_ad g x0)), (1, .int x1)] dX6_leastFree_29 rfl rfl (by decide) rfl (z_goto X 2 dX6_leastFree_32 (by decide) (z_sub [1, 2, 0] [(0, .ref (z_ad g x0)), (1, .int x1), (2, .int (q + 1))] rfl ?_))
      exact hkb (q + 1) h
    · replace h := z_in c3 h
      obtain ⟨b4, h⟩ := z_gs h
      refine z_aload_n X 0 dX6_leastFree_16 rfl rfl (z_getR X (k0 := 4) (z_po ex0) rfl in_X6_leastFree_X6 (by decide) rfl rfl lk_X6_leastFree_15 dX6_leastFree_17 (z_iload_n X 2 dX6_leastFree_20 rfl rfl (z_iald X (z_poU ex0) (z_inS b4) dX6_leastFree_21 (z_iload_n X 1 dX6_leastFree_22 rfl rfl (z_iand X dX6_leastFree_23 (z_if_ne X 29 dX6_leastFree_24 (by decide) (fun c5 => ?_) (fun c5 => ?_)))))))
      · replace h := z_in c5 h
        refine z_iinc X (v := q + 1) 2 [(2, .int (q + 1)), (0, .ref (z_ad g x0)), (1, .int x1)] dX6_leastFree_29 rfl rfl (by decide) rfl (z_goto X 2 dX6_leastFree_32 (by decide) (z_sub [1, 2, 0] [(0, .ref (z_ad g x0)), (1, .int x1), (2, .int (q + 1))] rfl ?_))
        exact hkb (q + 1) h
      · replace h := z_ip c5 h
        refine z_iload_n X 2 dX6_leastFree_27 rfl rfl ?_
        cases h; exact z_iret X rfl dX6_leastFree_28 ⟨rfl, rfl⟩
set_option maxRecDepth 20000 in
set_option maxHeartbeats 4000000 in
theorem w_X6_leastFree (l : Launch) (g : z_G) (ao : Nat) (a1 : Int32) (eao : z_PO ao) (u : z_M) {res : Int32} (h : f_X6_leastFree ao a1 u = some res) : z_C l g z_shC yX6_leastFree wsX6_leastFree 2 [.ref (z_ad g ao), .int a1] u (fun v u' => v = some (.int res) ∧ u' = u) := by
  refine z_C.mk (lv := [(0, .ref (z_ad g ao)), (1, .int a1)]) (cc := cX6_leastFree) (nL := 3) (rt := (some .int)) rfl (by decide) (Nat.le_of_ble_eq_true rfl) rfl (fun p e R s m args below meth c hR X => ?_)
  unfold f_X6_leastFree at h
  refine z_iconst X (v := 0) dX6_leastFree_0 (by decide) (z_istore_n X [(2, .int 0), (0, .ref (z_ad g ao)), (1, .int a1)] dX6_leastFree_1 rfl (by decide) rfl (z_sub [1, 2, 0] [(0, .ref (z_ad g ao)), (1, .int a1), (2, .int 0)] rfl ?_))
  have hw := z_lp_w (fun q9 kb9 kx9 h1 h2 h3 => wb_X6_leastFree_2 (l := l) (e := e) (below := below) (u := u) hR X ao a1 eao q9 kb9 kx9 h1 h2 h3) z_F _ _ h
  refine hw (fun t6 h => ?_)
  refine z_iconst X (v := (-1)) dX6_leastFree_35 (by decide) ?_
  cases h; exact z_iret X rfl dX6_leastFree_36 ⟨rfl, rfl⟩

theorem lk_X6_leastRow_25 : (Cond.fieldLink RX6 25 RX6 (TX6 1).2.1 (TX6 1).2.2.1) ∈ wsX6_leastRow := by decide +kernel
theorem in_X6_leastRow_X6 : ∀ w ∈ u_ws RX6 TX6 6, w ∈ wsX6_leastRow := by decide +kernel
theorem hy_X6_leastFree : yX6_leastFree.cls = RX6 ∧ yX6_leastFree.cls ≠ "java/lang/invoke/MethodHandle" ∧ yX6_leastFree.cls ≠ "java/lang/invoke/VarHandle" ∧ (parseMethodDescriptor yX6_leastFree.desc).map (fun d => d.parameters.length) = some 1 := by decide +kernel
def b_X6_leastRow_10 (x0 : Nat) (x1 nx1 : Nat) : (Int32 × Int32 × Int32 × z_M) → ((Int32 × Int32 × Int32 × z_M) → Option (Int32 × z_M)) → ((Int32 × z_M) → Option (Int32 × z_M)) → Option (Int32 × z_M) := fun q kb kx =>
  if 9 ≤ q.2.2.1 then (kx (q.2.1, q.2.2.2)) else (if (nI nx1) ≤ q.2.1 then (kx (q.2.1, q.2.2.2)) else (Option.bind (f_X6_leastFree x0 q.1 q.2.2.2) (fun r4 => if r4 = (-1) then (kb (q.1, q.2.1, q.2.2.1 + 1, q.2.2.2)) else (z_gd (z_inb q.2.1 nx1) (z_lt (z_sI q.2.2.2 x1 q.2.1.toNatClampNeg r4) (fun u7 => z_lt (q.1 &&& ((1 <<< (r4 &&& 31)) ^^^ (-1))) (fun v8 => kb (v8, q.2.1 + 1, q.2.2.1 + 1, u7))))))))
def f_X6_leastRow (ao : Nat) (a1 na1 : Nat) (u : z_M) : Option (Int32 × z_M) :=
  z_lt (z_gI u ao 1) (fun v1 => z_lp (b_X6_leastRow_10 ao a1 na1) z_F (v1, 0, 0, u) (fun t9 => some (t9.1, t9.2)))
set_option maxRecDepth 20000 in
set_option maxHeartbeats 4000000 in
theorem wb_X6_leastRow_10 {p : Program} {l : Launch} {e : Env} {R : Room} {s : State} {m : MethodId} {args : Array Value} {below : List Frame} {meth : Method} {c : Code} {g : z_G} {u : z_M} {res : Int32 × z_M} (hR : R = z_rm 3) (X : z_X p R s m args meth c cX6_leastRow 6 RX6 wsX6_leastRow (some .int) g z_shC) (x0 : Nat) (x1 nx1 : Nat) (ex0 : z_PO x0) (ex1 : z_shC[x1]? = some (.inl (0, nx1, none))) (q : Int32 × Int32 × Int32 × z_M) (kb : (Int32 × Int32 × Int32 × z_M) → Option (Int32 × z_M)) (kx : (Int32 × z_M) → Option (Int32 × z_M)) (hkb : ∀ q, kb q = some res → z_V p l e R s m args below meth c 6 g z_shC (MQ below (z_Qc g z_shC (fun v u' => v = some (.int res.1) ∧ u' = res.2)) args s 0 0 (z_A g z_shC)) 10 [(0, .ref (z_ad g x0)), (1, .ref (z_ad g x1)), (2, .int q.1), (3, .int q.2.1), (4, .int q.2.2.1)] [] q.2.2.2) (hkx : ∀ t, kx t = some res → z_V p l e R s m args below meth c 6 g z_shC (MQ below (z_Qc g z_shC (fun v u' => v = some (.int res.1) ∧ u' = res.2)) args s 0 0 (z_A g z_shC)) 59 [(3, .int t.1)] [] t.2) (h : b_X6_leastRow_10 x0 x1 nx1 q kb kx = some res) : z_V p l e R s m args below meth c 6 g z_shC (MQ below (z_Qc g z_shC (fun v u' => v = some (.int res.1) ∧ u' = res.2)) args s 0 0 (z_A g z_shC)) 10 [(0, .ref (z_ad g x0)), (1, .ref (z_ad g x1)), (2, .int q.1), (3, .int q.2.1), (4, .int q.2.2.1)] [] q.2.2.2 := by
  unfold b_X6_leastRow_10 at h
  refine z_iload X 4 dX6_leastRow_10 rfl (z_bipush X (v := 9) dX6_leastRow_12 (by decide) (z_icmp_ge X 59 dX6_leastRow_14 (by decide) (fun c2 => ?_) (fun c2 => ?_)))
  · replace h := z_ip c2 h
    refine z_sub [3] [(3, .int q.2.1)] rfl ?_
    exact hkx (q.2.1, q.2.2.2) h
  · replace h := z_in c2 h
    refine z_iload_n X 3 dX6_leastRow_17 rfl rfl (z_aload_n X 1 dX6_leastRow_18 rfl rfl (z_alen X ex1 (by decide) dX6_leastRow_19 (z_icmp_ge X 59 dX6_leastRow_20 (by decide) (fun c3 => ?_) (fun c3 => ?_))))
    · replace h := z_ip c3 h
      refine z_sub [3] [(3, .int q.2.1)] rfl ?_
      exact hkx (q.2.1, q.2.2.2) h
    · replace h := z_in c3 h
      obtain ⟨r4, er4, h⟩ := z_bs h
      refine z_aload_n X 0 dX6_leastRow_23 rfl rfl (z_iload_n X 2 dX6_leastRow_24 rfl rfl (z_callVi X (r := r4) (u1 := q.2.2.2) [.int q.1] [] (w_X6_leastFree l g x0 q.1 ex0 q.2.2.2 er4) (z_po ex0) rfl gX6_leastRow_X6_leastFree hy_X6_leastFree rfl (z_le1 hR (by decide)) (z_le2 hR (by decide) (by decide)) (Nat.le_of_ble_eq_true rfl) dX6_leastRow_25 (z_istore X [(5, .int r4), (0, .ref (z_ad g x0)), (1, .ref (z_ad g x1)), (2, .int q.1), (3, .int q.2.1), (4, .int q.2.2.1)] dX6_leastRow_28 (by decide) rfl (z_iload X 0 dX6_leastRow_30 rfl (z_iconst X (v := (-1)) dX6_leastRow_32 (by decide) (z_icmp_eq X 53 dX6_leastRow_33 (by decide) (fun c5 => ?_) (fun c5 => ?_)))))))
      · replace h := z_ip c5 h
        refine z_iinc X (v := q.2.2.1 + 1) 5 [(4, .int (q.2.2.1 + 1)), (5, .int r4), (0, .ref (z_ad g x0)), (1, .ref (z_ad g x1)), (2, .int q.1), (3, .int q.2.1)] dX6_leastRow_53 rfl rfl (by decide) rfl (z_goto X 10 dX6_leastRow_56 (by decide) (z_sub [2, 3, 4, 5, 0] [(0, .ref (z_ad g x0)), (1, .ref (z_ad g x1)), (2, .int q.1), (3, .int q.2.1), (4, .int (q.2.2.1 + 1))] rfl ?_))
        exact hkb (q.1, q.2.1, q.2.2.1 + 1, q.2.2.2) h
      · replace h := z_in c5 h
        obtain ⟨b6, h⟩ := z_gs h
        obtain ⟨u7, eu7, h⟩ := z_ls h
        obtain ⟨v8, ev8, h⟩ := z_ls h
        refine z_aload_n X 2 dX6_leastRow_36 rfl rfl (z_iload_n X 4 dX6_leastRow_37 rfl rfl (z_iload X 0 dX6_leastRow_38 rfl (z_iast X ex1 (z_inS b6) dX6_leastRow_40 (z_nm eu7 (z_iinc X (v := q.2.1 + 1) 4 [(3, .int (q.2.1 + 1)), (5, .int r4), (0, .ref (z_ad g x0)), (1, .ref (z_ad g x1)), (2, .int q.1), (4, .int q.2.2.1)] dX6_leastRow_41 rfl rfl (by decide) rfl (z_iload_n X 4 dX6_leastRow_44 rfl rfl (z_iconst X (v := 1) dX6_leastRow_45 (by decide) (z_iload X 1 dX6_leastRow_46 rfl (z_ishl X dX6_leastRow_48 (z_iconst X (v := (-1)) dX6_leastRow_49 (by decide) (z_ixor X dX6_leastRow_50 (z_iand X dX6_leastRow_51 (z_ti ev8 (z_istore_n X [(2, .int v8), (3, .int (q.2.1 + 1)), (5, .int r4), (0, .ref (z_ad g x0)), (1, .ref (z_ad g x1)), (4, .int q.2.2.1)] dX6_leastRow_52 rfl (by decide) rfl (z_iinc X (v := q.2.2.1 + 1) 5 [(4, .int (q.2.2.1 + 1)), (2, .int v8), (3, .int (q.2.1 + 1)), (5, .int r4), (0, .ref (z_ad g x0)), (1, .ref (z_ad g x1))] dX6_leastRow_53 rfl rfl (by decide) rfl (z_goto X 10 dX6_leastRow_56 (by decide) (z_sub [4, 5, 1, 2, 0] [(0, .ref (z_ad g x0)), (1, .ref (z_ad g x1)), (2, .int v8), (3, .int (q.2.1 + 1)), (4, .int (q.2.2.1 + 1))] rfl ?_)))))))))))))))))
        exact hkb (v8, q.2.1 + 1, q.2.2.1 + 1, u7) h
set_option maxRecDepth 20000 in
set_option maxHeartbeats 4000000 in
theorem w_X6_leastRow (l : Launch) (g : z_G) (ao : Nat) (a1 na1 : Nat) (eao : z_PO ao) (ea1 : z_shC[a1]? = some (.inl (0, na1, none))) (u : z_M) {res : Int32 × z_M} (h : f_X6_leastRow ao a1 na1 u = some res) : z_C l g z_shC yX6_leastRow wsX6_leastRow 3 [.ref (z_ad g ao), .ref (z_ad g a1)] u (fun v u' => v = some (.int res.1) ∧ u' = res.2) := by
  refine z_C.mk (lv := [(0, .ref (z_ad g ao)), (1, .ref (z_ad g a1))]) (cc := cX6_leastRow) (nL := 6) (rt := (some .int)) rfl (by decide) (Nat.le_of_ble_eq_true rfl) rfl (fun p e R s m args below meth c hR X => ?_)
  unfold f_X6_leastRow at h
  obtain ⟨v1, ev1, h⟩ := z_ls h
  refine z_aload_n X 0 dX6_leastRow_0 rfl rfl (z_getI X (k0 := 1) (z_po eao) rfl in_X6_leastRow_X6 (by decide) rfl rfl lk_X6_leastRow_25 dX6_leastRow_1 (z_ti ev1 (z_istore_n X [(2, .int v1), (0, .ref (z_ad g ao)), (1, .ref (z_ad g a1))] dX6_leastRow_4 rfl (by decide) rfl (z_iconst X (v := 0) dX6_leastRow_5 (by decide) (z_istore_n X [(3, .int 0), (2, .int v1), (0, .ref (z_ad g ao)), (1, .ref (z_ad g a1))] dX6_leastRow_6 rfl (by decide) rfl (z_iconst X (v := 0) dX6_leastRow_7 (by decide) (z_istore X [(4, .int 0), (3, .int 0), (2, .int v1), (0, .ref (z_ad g ao)), (1, .ref (z_ad g a1))] dX6_leastRow_8 (by decide) rfl (z_sub [3, 4, 2, 1, 0] [(0, .ref (z_ad g ao)), (1, .ref (z_ad g a1)), (2, .int v1), (3, .int 0), (4, .int 0)] rfl ?_))))))))
  have hw := z_lp_w (fun q9 kb9 kx9 h1 h2 h3 => wb_X6_leastRow_10 (l := l) (e := e) (below := below) (u := u) hR X ao a1 na1 eao ea1 q9 kb9 kx9 h1 h2 h3) z_F _ _ h
  refine hw (fun t9 h => ?_)
  refine z_iload_n X 0 dX6_leastRow_59 rfl rfl ?_
  cases h; exact z_iret X rfl dX6_leastRow_60 ⟨rfl, rfl⟩

theorem lk_X6_isSpread_25 : (Cond.fieldLink RX6 25 RX6 (TX6 1).2.1 (TX6 1).2.2.1) ∈ wsX6_isSpread := by decide +kernel
theorem in_X6_isSpread_X6 : ∀ w ∈ u_ws RX6 TX6 6, w ∈ wsX6_isSpread := by decide +kernel
theorem ini_X9_isIn_X6_isSpread : Cond.initialized yX9_isIn.cls ∈ wsX6_isSpread := by decide +kernel
theorem sta_X9_isIn_X6_isSpread : Cond.static yX9_isIn ∈ wsX6_isSpread := by decide +kernel
theorem lk_X6_isSpread_9 : (Cond.fieldLink RX6 9 RX6 (TX6 3).2.1 (TX6 3).2.2.1) ∈ wsX6_isSpread := by decide +kernel
def b_X6_isSpread_15 (x0 : Nat) (x1 : Int32) (u : z_M) : Int32 → (Int32 → Option (Int32)) → (Unit → Option (Int32)) → Option (Int32) := fun q kb kx =>
  if 9 ≤ q then (kx ()) else (Option.bind (f_X9_isIn x1 q) (fun r3 => if r3 = 0 then (kb (q + 1)) else (z_gd (z_inb q 9) (if (x1 &&& (z_gI u (x0 + 1) q.toNatClampNeg)) = 0 then (kb (q + 1)) else (some 0)))))
def f_X6_isSpread (ao : Nat) (a1 : Int32) (u : z_M) : Option (Int32) :=
  if (a1 &&& ((z_gI u ao 1) ^^^ (-1))) = 0 then (z_lp (b_X6_isSpread_15 ao a1 u) z_F 0 (fun t7 => some 1)) else (some 0)
set_option maxRecDepth 20000 in
set_option maxHeartbeats 4000000 in
theorem wb_X6_isSpread_15 {p : Program} {l : Launch} {e : Env} {R : Room} {s : State} {m : MethodId} {args : Array Value} {below : List Frame} {meth : Method} {c : Code} {g : z_G} {u : z_M} {res : Int32} (hR : R = z_rm 2) (X : z_X p R s m args meth c cX6_isSpread 3 RX6 wsX6_isSpread (some .boolean) g z_shC) (x0 : Nat) (x1 : Int32) (ex0 : z_PO x0) (q : Int32) (kb : Int32 → Option (Int32)) (kx : Unit → Option (Int32)) (hkb : ∀ q, kb q = some res → z_V p l e R s m args below meth c 3 g z_shC (MQ below (z_Qc g z_shC (fun v u' => v = some (.int res) ∧ u' = u)) args s 0 0 (z_A g z_shC)) 15 [(0, .ref (z_ad g x0)), (1, .int x1), (2, .int q)] [] u) (hkx : ∀ t, kx t = some res → z_V p l e R s m args below meth c 3 g z_shC (MQ below (z_Qc g z_shC (fun v u' => v = some (.int res) ∧ u' = u)) args s 0 0 (z_A g z_shC)) 48 [] [] u) (h : b_X6_isSpread_15 x0 x1 u q kb kx = some res) : z_V p l e R s m args below meth c 3 g z_shC (MQ below (z_Qc g z_shC (fun v u' => v = some (.int res) ∧ u' = u)) args s 0 0 (z_A g z_shC)) 15 [(0, .ref (z_ad g x0)), (1, .int x1), (2, .int q)] [] u := by
  unfold b_X6_isSpread_15 at h
  refine z_iload_n X 2 dX6_isSpread_15 rfl rfl (z_bipush X (v := 9) dX6_isSpread_16 (by decide) (z_icmp_ge X 48 dX6_isSpread_18 (by decide) (fun c2 => ?_) (fun c2 => ?_)))
  · replace h := z_ip c2 h
    refine z_sub [] [] rfl ?_
    exact hkx () h
  · replace h := z_in c2 h
    obtain ⟨r3, er3, h⟩ := z_bs h
    refine z_iload_n X 1 dX6_isSpread_21 rfl rfl (z_iload_n X 2 dX6_isSpread_22 rfl rfl (z_callNi X (r := r3) (u1 := u) [.int x1, .int q] [] (w_X9_isIn l g x1 q u er3) gX6_isSpread_X9_isIn_n43 nn_X6 ini_X9_isIn_X6_isSpread sta_X9_isIn_X6_isSpread hy_X9_isIn.2 rfl (z_le1 hR (by decide)) (z_le2 hR (by decide) (by decide)) (Nat.le_of_ble_eq_true rfl) dX6_isSpread_23 (z_if_eq X 42 dX6_isSpread_26 (by decide) (fun c4 => ?_) (fun c4 => ?_))))
    · replace h := z_ip c4 h
      refine z_iinc X (v := q + 1) 2 [(2, .int (q + 1)), (0, .ref (z_ad g x0)), (1, .int x1)] dX6_isSpread_42 rfl rfl (by decide) rfl (z_goto X 15 dX6_isSpread_45 (by decide) (z_sub [1, 2, 0] [(0, .ref (z_ad g x0)), (1, .int x1), (2, .int (q + 1))] rfl ?_))
      exact hkb (q + 1) h
    · replace h := z_in c4 h
      obtain ⟨b5, h⟩ := z_gs h
      refine z_iload_n X 1 dX6_isSpread_29 rfl rfl (z_aload_n X 0 dX6_isSpread_30 rfl rfl (z_getR X (k0 := 3) (z_po ex0) rfl in_X6_isSpread_X6 (by decide) rfl rfl lk_X6_isSpread_9 dX6_isSpread_31 (z_iload_n X 2 dX6_isSpread_34 rfl rfl (z_iald X (z_poA ex0) (z_inS b5) dX6_isSpread_35 (z_iand X dX6_isSpread_36 (z_if_eq X 42 dX6_isSpread_37 (by decide) (fun c6 => ?_) (fun c6 => ?_)))))))
      · replace h := z_ip c6 h
        refine z_iinc X (v := q + 1) 2 [(2, .int (q + 1)), (0, .ref (z_ad g x0)), (1, .int x1)] dX6_isSpread_42 rfl rfl (by decide) rfl (z_goto X 15 dX6_isSpread_45 (by decide) (z_sub [1, 2, 0] [(0, .ref (z_ad g x0)), (1, .int x1), (2, .int (q + 1))] rfl ?_))
        exact hkb (q + 1) h
      · replace h := z_in c6 h
        refine z_iconst X (v := 0) dX6_isSpread_40 (by decide) ?_
        cases h; exact z_zret X rfl rfl dX6_isSpread_41 ⟨rfl, rfl⟩
set_option maxRecDepth 20000 in
set_option maxHeartbeats 4000000 in
theorem w_X6_isSpread (l : Launch) (g : z_G) (ao : Nat) (a1 : Int32) (eao : z_PO ao) (u : z_M) {res : Int32} (h : f_X6_isSpread ao a1 u = some res) : z_C l g z_shC yX6_isSpread wsX6_isSpread 2 [.ref (z_ad g ao), .int a1] u (fun v u' => v = some (.int res) ∧ u' = u) := by
  refine z_C.mk (lv := [(0, .ref (z_ad g ao)), (1, .int a1)]) (cc := cX6_isSpread) (nL := 3) (rt := (some .boolean)) rfl (by decide) (Nat.le_of_ble_eq_true rfl) rfl (fun p e R s m args below meth c hR X => ?_)
  unfold f_X6_isSpread at h
  refine z_iload_n X 1 dX6_isSpread_0 rfl rfl (z_aload_n X 0 dX6_isSpread_1 rfl rfl (z_getI X (k0 := 1) (z_po eao) rfl in_X6_isSpread_X6 (by decide) rfl rfl lk_X6_isSpread_25 dX6_isSpread_2 (z_iconst X (v := (-1)) dX6_isSpread_5 (by decide) (z_ixor X dX6_isSpread_6 (z_iand X dX6_isSpread_7 (z_if_eq X 13 dX6_isSpread_8 (by decide) (fun c1 => ?_) (fun c1 => ?_)))))))
  · replace h := z_ip c1 h
    refine z_iconst X (v := 0) dX6_isSpread_13 (by decide) (z_istore_n X [(2, .int 0), (0, .ref (z_ad g ao)), (1, .int a1)] dX6_isSpread_14 rfl (by decide) rfl (z_sub [1, 2, 0] [(0, .ref (z_ad g ao)), (1, .int a1), (2, .int 0)] rfl ?_))
    have hw := z_lp_w (fun q9 kb9 kx9 h1 h2 h3 => wb_X6_isSpread_15 (l := l) (e := e) (below := below) (u := u) hR X ao a1 eao q9 kb9 kx9 h1 h2 h3) z_F _ _ h
    refine hw (fun t7 h => ?_)
    refine z_iconst X (v := 1) dX6_isSpread_48 (by decide) ?_
    cases h; exact z_zret X rfl rfl dX6_isSpread_49 ⟨rfl, rfl⟩
  · replace h := z_in c1 h
    refine z_iconst X (v := 0) dX6_isSpread_11 (by decide) ?_
    cases h; exact z_zret X rfl rfl dX6_isSpread_12 ⟨rfl, rfl⟩

theorem ml69_X6_widest : Cond.methodLink RX6 69 Lib.Math.max.name ∈ wsX6_widest := by decide +kernel
theorem ms_max_X6_widest : Cond.static Lib.Math.max.name ∈ wsX6_widest := by decide +kernel
theorem mi_X6_widest : Cond.initialized "java/lang/Math" ∈ wsX6_widest := by decide +kernel
theorem mc_max_X6_widest : Cond.code Lib.Math.max.name Lib.Math.max.code 2 (some .int) ∈ wsX6_widest := by decide +kernel
theorem hy_X6_isSpread : yX6_isSpread.cls = RX6 ∧ yX6_isSpread.cls ≠ "java/lang/invoke/MethodHandle" ∧ yX6_isSpread.cls ≠ "java/lang/invoke/VarHandle" ∧ (parseMethodDescriptor yX6_isSpread.desc).map (fun d => d.parameters.length) = some 1 := by decide +kernel
def b_X6_widest_4 (x0 : Nat) (u : z_M) : (Int32 × Int32) → ((Int32 × Int32) → Option (Int32)) → (Int32 → Option (Int32)) → Option (Int32) := fun q kb kx =>
  if 512 ≤ q.2 then (kx q.1) else (Option.bind (f_X6_isSpread x0 q.2 u) (fun r2 => if r2 = 0 then (kb (q.1, q.2 + 1)) else (z_lt ((if q.1 < (z_bitc q.2) then z_bitc q.2 else q.1)) (fun v4 => kb (v4, q.2 + 1)))))
def f_X6_widest (ao : Nat) (u : z_M) : Option (Int32) :=
  z_lp (b_X6_widest_4 ao u) z_F (0, 0) (fun t5 => some t5)
set_option maxRecDepth 20000 in
set_option maxHeartbeats 4000000 in
theorem wb_X6_widest_4 {p : Program} {l : Launch} {e : Env} {R : Room} {s : State} {m : MethodId} {args : Array Value} {below : List Frame} {meth : Method} {c : Code} {g : z_G} {u : z_M} {res : Int32} (hR : R = z_rm 3) (X : z_X p R s m args meth c cX6_widest 3 RX6 wsX6_widest (some .int) g z_shC) (x0 : Nat) (ex0 : z_PO x0) (q : Int32 × Int32) (kb : (Int32 × Int32) → Option (Int32)) (kx : Int32 → Option (Int32)) (hkb : ∀ q, kb q = some res → z_V p l e R s m args below meth c 3 g z_shC (MQ below (z_Qc g z_shC (fun v u' => v = some (.int res) ∧ u' = u)) args s 0 0 (z_A g z_shC)) 4 [(0, .ref (z_ad g x0)), (1, .int q.1), (2, .int q.2)] [] u) (hkx : ∀ t, kx t = some res → z_V p l e R s m args below meth c 3 g z_shC (MQ below (z_Qc g z_shC (fun v u' => v = some (.int res) ∧ u' = u)) args s 0 0 (z_A g z_shC)) 34 [(1, .int t)] [] u) (h : b_X6_widest_4 x0 u q kb kx = some res) : z_V p l e R s m args below meth c 3 g z_shC (MQ below (z_Qc g z_shC (fun v u' => v = some (.int res) ∧ u' = u)) args s 0 0 (z_A g z_shC)) 4 [(0, .ref (z_ad g x0)), (1, .int q.1), (2, .int q.2)] [] u := by
  unfold b_X6_widest_4 at h
  refine z_iload_n X 2 dX6_widest_4 rfl rfl (z_sipush X (v := 512) dX6_widest_5 (by decide) (z_icmp_ge X 34 dX6_widest_8 (by decide) (fun c1 => ?_) (fun c1 => ?_)))
  · replace h := z_ip c1 h
    refine z_sub [1] [(1, .int q.1)] rfl ?_
    exact hkx q.1 h
  · replace h := z_in c1 h
    obtain ⟨r2, er2, h⟩ := z_bs h
    refine z_aload_n X 0 dX6_widest_11 rfl rfl (z_iload_n X 2 dX6_widest_12 rfl rfl (z_callVi X (r := r2) (u1 := u) [.int q.2] [] (w_X6_isSpread l g x0 q.2 ex0 u er2) (z_po ex0) rfl gX6_widest_X6_isSpread hy_X6_isSpread rfl (z_le1 hR (by decide)) (z_le2 hR (by decide) (by decide)) (Nat.le_of_ble_eq_true rfl) dX6_widest_13 (z_if_eq X 28 dX6_widest_16 (by decide) (fun c3 => ?_) (fun c3 => ?_))))
    · replace h := z_ip c3 h
      refine z_iinc X (v := q.2 + 1) 2 [(2, .int (q.2 + 1)), (0, .ref (z_ad g x0)), (1, .int q.1)] dX6_widest_28 rfl rfl (by decide) rfl (z_goto X 4 dX6_widest_31 (by decide) (z_sub [1, 2, 0] [(0, .ref (z_ad g x0)), (1, .int q.1), (2, .int (q.2 + 1))] rfl ?_))
      exact hkb (q.1, q.2 + 1) h
    · replace h := z_in c3 h
      obtain ⟨v4, ev4, h⟩ := z_ls h
      refine z_iload_n X 1 dX6_widest_19 rfl rfl (z_iload_n X 2 dX6_widest_20 rfl rfl (z_callSi X (r := z_bitc q.2) (u1 := u) [.int q.2] [.int q.1] (w_bitc l g z_shC q.2 u) gX6_widest_J6_bitCount_0f7a4 hy_J6_bitCount_0f7a4.2 rfl (z_le1 hR (by decide)) (z_le2 hR (by decide) (by decide)) (Nat.le_of_ble_eq_true rfl) dX6_widest_21 (z_mmax X ml69_X6_widest ms_max_X6_widest mi_X6_widest mc_max_X6_widest (z_le3 hR (by decide)) (z_le4 hR (by decide) (Nat.le_of_ble_eq_true rfl) (by decide)) dX6_widest_24 (z_ti ev4 (z_istore_n X [(1, .int v4), (0, .ref (z_ad g x0)), (2, .int q.2)] dX6_widest_27 rfl (by decide) rfl (z_iinc X (v := q.2 + 1) 2 [(2, .int (q.2 + 1)), (1, .int v4), (0, .ref (z_ad g x0))] dX6_widest_28 rfl rfl (by decide) rfl (z_goto X 4 dX6_widest_31 (by decide) (z_sub [2, 1, 0] [(0, .ref (z_ad g x0)), (1, .int v4), (2, .int (q.2 + 1))] rfl ?_))))))))
      exact hkb (v4, q.2 + 1) h
set_option maxRecDepth 20000 in
set_option maxHeartbeats 4000000 in
theorem w_X6_widest (l : Launch) (g : z_G) (ao : Nat) (eao : z_PO ao) (u : z_M) {res : Int32} (h : f_X6_widest ao u = some res) : z_C l g z_shC yX6_widest wsX6_widest 3 [.ref (z_ad g ao)] u (fun v u' => v = some (.int res) ∧ u' = u) := by
  refine z_C.mk (lv := [(0, .ref (z_ad g ao))]) (cc := cX6_widest) (nL := 3) (rt := (some .int)) rfl (by decide) (Nat.le_of_ble_eq_true rfl) rfl (fun p e R s m args below meth c hR X => ?_)
  unfold f_X6_widest at h
  refine z_iconst X (v := 0) dX6_widest_0 (by decide) (z_istore_n X [(1, .int 0), (0, .ref (z_ad g ao))] dX6_widest_1 rfl (by decide) rfl (z_iconst X (v := 0) dX6_widest_2 (by decide) (z_istore_n X [(2, .int 0), (1, .int 0), (0, .ref (z_ad g ao))] dX6_widest_3 rfl (by decide) rfl (z_sub [2, 1, 0] [(0, .ref (z_ad g ao)), (1, .int 0), (2, .int 0)] rfl ?_))))
  have hw := z_lp_w (fun q9 kb9 kx9 h1 h2 h3 => wb_X6_widest_4 (l := l) (e := e) (below := below) (u := u) hR X ao eao q9 kb9 kx9 h1 h2 h3) z_F _ _ h
  refine hw (fun t5 h => ?_)
  refine z_iload_n X 0 dX6_widest_34 rfl rfl ?_
  cases h; exact z_iret X rfl dX6_widest_35 ⟨rfl, rfl⟩

def b_X6_spreadSets_4 (x0 : Nat) (u : z_M) : (Int32 × Int32) → ((Int32 × Int32) → Option (Int32)) → (Int32 → Option (Int32)) → Option (Int32) := fun q kb kx =>
  if 512 ≤ q.2 then (kx q.1) else (Option.bind (f_X6_isSpread x0 q.2 u) (fun r2 => if r2 = 0 then (kb (q.1, q.2 + 1)) else (kb (q.1 + 1, q.2 + 1))))
def f_X6_spreadSets (ao : Nat) (u : z_M) : Option (Int32) :=
  z_lp (b_X6_spreadSets_4 ao u) z_F (0, 0) (fun t4 => some t4)
set_option maxRecDepth 20000 in
set_option maxHeartbeats 4000000 in
theorem wb_X6_spreadSets_4 {p : Program} {l : Launch} {e : Env} {R : Room} {s : State} {m : MethodId} {args : Array Value} {below : List Frame} {meth : Method} {c : Code} {g : z_G} {u : z_M} {res : Int32} (hR : R = z_rm 3) (X : z_X p R s m args meth c cX6_spreadSets 3 RX6 wsX6_spreadSets (some .int) g z_shC) (x0 : Nat) (ex0 : z_PO x0) (q : Int32 × Int32) (kb : (Int32 × Int32) → Option (Int32)) (kx : Int32 → Option (Int32)) (hkb : ∀ q, kb q = some res → z_V p l e R s m args below meth c 3 g z_shC (MQ below (z_Qc g z_shC (fun v u' => v = some (.int res) ∧ u' = u)) args s 0 0 (z_A g z_shC)) 4 [(0, .ref (z_ad g x0)), (1, .int q.1), (2, .int q.2)] [] u) (hkx : ∀ t, kx t = some res → z_V p l e R s m args below meth c 3 g z_shC (MQ below (z_Qc g z_shC (fun v u' => v = some (.int res) ∧ u' = u)) args s 0 0 (z_A g z_shC)) 28 [(1, .int t)] [] u) (h : b_X6_spreadSets_4 x0 u q kb kx = some res) : z_V p l e R s m args below meth c 3 g z_shC (MQ below (z_Qc g z_shC (fun v u' => v = some (.int res) ∧ u' = u)) args s 0 0 (z_A g z_shC)) 4 [(0, .ref (z_ad g x0)), (1, .int q.1), (2, .int q.2)] [] u := by
  unfold b_X6_spreadSets_4 at h
  refine z_iload_n X 2 dX6_spreadSets_4 rfl rfl (z_sipush X (v := 512) dX6_spreadSets_5 (by decide) (z_icmp_ge X 28 dX6_spreadSets_8 (by decide) (fun c1 => ?_) (fun c1 => ?_)))
  · replace h := z_ip c1 h
    refine z_sub [1] [(1, .int q.1)] rfl ?_
    exact hkx q.1 h
  · replace h := z_in c1 h
    obtain ⟨r2, er2, h⟩ := z_bs h
    refine z_aload_n X 0 dX6_spreadSets_11 rfl rfl (z_iload_n X 2 dX6_spreadSets_12 rfl rfl (z_callVi X (r := r2) (u1 := u) [.int q.2] [] (w_X6_isSpread l g x0 q.2 ex0 u er2) (z_po ex0) rfl gX6_spreadSets_X6_isSpread hy_X6_isSpread rfl (z_le1 hR (by decide)) (z_le2 hR (by decide) (by decide)) (Nat.le_of_ble_eq_true rfl) dX6_spreadSets_13 (z_if_eq X 22 dX6_spreadSets_16 (by decide) (fun c3 => ?_) (fun c3 => ?_))))
    · replace h := z_ip c3 h
      refine z_iinc X (v := q.2 + 1) 2 [(2, .int (q.2 + 1)), (0, .ref (z_ad g x0)), (1, .int q.1)] dX6_spreadSets_22 rfl rfl (by decide) rfl (z_goto X 4 dX6_spreadSets_25 (by decide) (z_sub [1, 2, 0] [(0, .ref (z_ad g x0)), (1, .int q.1), (2, .int (q.2 + 1))] rfl ?_))
      exact hkb (q.1, q.2 + 1) h
    · replace h := z_in c3 h
      refine z_iinc X (v := q.1 + 1) 1 [(1, .int (q.1 + 1)), (0, .ref (z_ad g x0)), (2, .int q.2)] dX6_spreadSets_19 rfl rfl (by decide) rfl (z_iinc X (v := q.2 + 1) 2 [(2, .int (q.2 + 1)), (1, .int (q.1 + 1)), (0, .ref (z_ad g x0))] dX6_spreadSets_22 rfl rfl (by decide) rfl (z_goto X 4 dX6_spreadSets_25 (by decide) (z_sub [2, 1, 0] [(0, .ref (z_ad g x0)), (1, .int (q.1 + 1)), (2, .int (q.2 + 1))] rfl ?_)))
      exact hkb (q.1 + 1, q.2 + 1) h
set_option maxRecDepth 20000 in
set_option maxHeartbeats 4000000 in
theorem w_X6_spreadSets (l : Launch) (g : z_G) (ao : Nat) (eao : z_PO ao) (u : z_M) {res : Int32} (h : f_X6_spreadSets ao u = some res) : z_C l g z_shC yX6_spreadSets wsX6_spreadSets 3 [.ref (z_ad g ao)] u (fun v u' => v = some (.int res) ∧ u' = u) := by
  refine z_C.mk (lv := [(0, .ref (z_ad g ao))]) (cc := cX6_spreadSets) (nL := 3) (rt := (some .int)) rfl (by decide) (Nat.le_of_ble_eq_true rfl) rfl (fun p e R s m args below meth c hR X => ?_)
  unfold f_X6_spreadSets at h
  refine z_iconst X (v := 0) dX6_spreadSets_0 (by decide) (z_istore_n X [(1, .int 0), (0, .ref (z_ad g ao))] dX6_spreadSets_1 rfl (by decide) rfl (z_iconst X (v := 0) dX6_spreadSets_2 (by decide) (z_istore_n X [(2, .int 0), (1, .int 0), (0, .ref (z_ad g ao))] dX6_spreadSets_3 rfl (by decide) rfl (z_sub [2, 1, 0] [(0, .ref (z_ad g ao)), (1, .int 0), (2, .int 0)] rfl ?_))))
  have hw := z_lp_w (fun q9 kb9 kx9 h1 h2 h3 => wb_X6_spreadSets_4 (l := l) (e := e) (below := below) (u := u) hR X ao eao q9 kb9 kx9 h1 h2 h3) z_F _ _ h
  refine hw (fun t4 h => ?_)
  refine z_iload_n X 0 dX6_spreadSets_28 rfl rfl ?_
  cases h; exact z_iret X rfl dX6_spreadSets_29 ⟨rfl, rfl⟩

theorem ini_X9_isIn_X6_leastIrreducible : Cond.initialized yX9_isIn.cls ∈ wsX6_leastIrreducible := by decide +kernel
theorem sta_X9_isIn_X6_leastIrreducible : Cond.static yX9_isIn ∈ wsX6_leastIrreducible := by decide +kernel
theorem hy_X6_covered : yX6_covered.cls = RX6 ∧ yX6_covered.cls ≠ "java/lang/invoke/MethodHandle" ∧ yX6_covered.cls ≠ "java/lang/invoke/VarHandle" ∧ (parseMethodDescriptor yX6_covered.desc).map (fun d => d.parameters.length) = some 2 := by decide +kernel
def b_X6_leastIrreducible_2 (x0 : Nat) (x1 : Int32) (u : z_M) : Int32 → (Int32 → Option (Int32)) → (Unit → Option (Int32)) → Option (Int32) := fun q kb kx =>
  if 9 ≤ q then (kx ()) else (Option.bind (f_X9_isIn x1 q) (fun r2 => if r2 = 0 then (kb (q + 1)) else (Option.bind (f_X6_covered x0 q x1 u) (fun r4 => if (z_bitc r4) = 1 then (some q) else (Option.bind (f_X6_coverers x0 q x1 u) (fun r6 => if (z_bitc r6) = 1 then (some q) else (kb (q + 1))))))))
def f_X6_leastIrreducible (ao : Nat) (a1 : Int32) (u : z_M) : Option (Int32) :=
  z_lp (b_X6_leastIrreducible_2 ao a1 u) z_F 0 (fun t8 => some (-1))
set_option maxRecDepth 20000 in
set_option maxHeartbeats 4000000 in
theorem wb_X6_leastIrreducible_2 {p : Program} {l : Launch} {e : Env} {R : Room} {s : State} {m : MethodId} {args : Array Value} {below : List Frame} {meth : Method} {c : Code} {g : z_G} {u : z_M} {res : Int32} (hR : R = z_rm 4) (X : z_X p R s m args meth c cX6_leastIrreducible 3 RX6 wsX6_leastIrreducible (some .int) g z_shC) (x0 : Nat) (x1 : Int32) (ex0 : z_PO x0) (q : Int32) (kb : Int32 → Option (Int32)) (kx : Unit → Option (Int32)) (hkb : ∀ q, kb q = some res → z_V p l e R s m args below meth c 3 g z_shC (MQ below (z_Qc g z_shC (fun v u' => v = some (.int res) ∧ u' = u)) args s 0 0 (z_A g z_shC)) 2 [(0, .ref (z_ad g x0)), (1, .int x1), (2, .int q)] [] u) (hkx : ∀ t, kx t = some res → z_V p l e R s m args below meth c 3 g z_shC (MQ below (z_Qc g z_shC (fun v u' => v = some (.int res) ∧ u' = u)) args s 0 0 (z_A g z_shC)) 50 [] [] u) (h : b_X6_leastIrreducible_2 x0 x1 u q kb kx = some res) : z_V p l e R s m args below meth c 3 g z_shC (MQ below (z_Qc g z_shC (fun v u' => v = some (.int res) ∧ u' = u)) args s 0 0 (z_A g z_shC)) 2 [(0, .ref (z_ad g x0)), (1, .int x1), (2, .int q)] [] u := by
  unfold b_X6_leastIrreducible_2 at h
  refine z_iload_n X 2 dX6_leastIrreducible_2 rfl rfl (z_bipush X (v := 9) dX6_leastIrreducible_3 (by decide) (z_icmp_ge X 50 dX6_leastIrreducible_5 (by decide) (fun c1 => ?_) (fun c1 => ?_)))
  · replace h := z_ip c1 h
    refine z_sub [] [] rfl ?_
    exact hkx () h
  · replace h := z_in c1 h
    obtain ⟨r2, er2, h⟩ := z_bs h
    refine z_iload_n X 1 dX6_leastIrreducible_8 rfl rfl (z_iload_n X 2 dX6_leastIrreducible_9 rfl rfl (z_callNi X (r := r2) (u1 := u) [.int x1, .int q] [] (w_X9_isIn l g x1 q u er2) gX6_leastIrreducible_X9_isIn_n43 nn_X6 ini_X9_isIn_X6_leastIrreducible sta_X9_isIn_X6_leastIrreducible hy_X9_isIn.2 rfl (z_le1 hR (by decide)) (z_le2 hR (by decide) (by decide)) (Nat.le_of_ble_eq_true rfl) dX6_leastIrreducible_10 (z_if_eq X 44 dX6_leastIrreducible_13 (by decide) (fun c3 => ?_) (fun c3 => ?_))))
    · replace h := z_ip c3 h
      refine z_iinc X (v := q + 1) 2 [(2, .int (q + 1)), (0, .ref (z_ad g x0)), (1, .int x1)] dX6_leastIrreducible_44 rfl rfl (by decide) rfl (z_goto X 2 dX6_leastIrreducible_47 (by decide) (z_sub [1, 2, 0] [(0, .ref (z_ad g x0)), (1, .int x1), (2, .int (q + 1))] rfl ?_))
      exact hkb (q + 1) h
    · replace h := z_in c3 h
      obtain ⟨r4, er4, h⟩ := z_bs h
      refine z_aload_n X 0 dX6_leastIrreducible_16 rfl rfl (z_iload_n X 2 dX6_leastIrreducible_17 rfl rfl (z_iload_n X 1 dX6_leastIrreducible_18 rfl rfl (z_callVi X (r := r4) (u1 := u) [.int q, .int x1] [] (w_X6_covered l g x0 q x1 ex0 u er4) (z_po ex0) rfl gX6_leastIrreducible_X6_covered hy_X6_covered rfl (z_le1 hR (by decide)) (z_le2 hR (by decide) (by decide)) (Nat.le_of_ble_eq_true rfl) dX6_leastIrreducible_19 (z_callSi X (r := z_bitc r4) (u1 := u) [.int r4] [] (w_bitc l g z_shC r4 u) gX6_leastIrreducible_J6_bitCount_0f7a4 hy_J6_bitCount_0f7a4.2 rfl (z_le1 hR (by decide)) (z_le2 hR (by decide) (by decide)) (Nat.le_of_ble_eq_true rfl) dX6_leastIrreducible_22 (z_iconst X (v := 1) dX6_leastIrreducible_25 (by decide) (z_icmp_eq X 42 dX6_leastIrreducible_26 (by decide) (fun c5 => ?_) (fun c5 => ?_)))))))
      · replace h := z_ip c5 h
        refine z_iload_n X 2 dX6_leastIrreducible_42 rfl rfl ?_
        cases h; exact z_iret X rfl dX6_leastIrreducible_43 ⟨rfl, rfl⟩
      · replace h := z_in c5 h
        obtain ⟨r6, er6, h⟩ := z_bs h
        refine z_aload_n X 0 dX6_leastIrreducible_29 rfl rfl (z_iload_n X 2 dX6_leastIrreducible_30 rfl rfl (z_iload_n X 1 dX6_leastIrreducible_31 rfl rfl (z_callVi X (r := r6) (u1 := u) [.int q, .int x1] [] (w_X6_coverers l g x0 q x1 ex0 u er6) (z_po ex0) rfl gX6_leastIrreducible_X6_coverers hy_X6_coverers rfl (z_le1 hR (by decide)) (z_le2 hR (by decide) (by decide)) (Nat.le_of_ble_eq_true rfl) dX6_leastIrreducible_32 (z_callSi X (r := z_bitc r6) (u1 := u) [.int r6] [] (w_bitc l g z_shC r6 u) gX6_leastIrreducible_J6_bitCount_0f7a4 hy_J6_bitCount_0f7a4.2 rfl (z_le1 hR (by decide)) (z_le2 hR (by decide) (by decide)) (Nat.le_of_ble_eq_true rfl) dX6_leastIrreducible_35 (z_iconst X (v := 1) dX6_leastIrreducible_38 (by decide) (z_icmp_ne X 44 dX6_leastIrreducible_39 (by decide) (fun c7 => ?_) (fun c7 => ?_)))))))
        · replace h := z_in c7 h
          refine z_iinc X (v := q + 1) 2 [(2, .int (q + 1)), (0, .ref (z_ad g x0)), (1, .int x1)] dX6_leastIrreducible_44 rfl rfl (by decide) rfl (z_goto X 2 dX6_leastIrreducible_47 (by decide) (z_sub [1, 2, 0] [(0, .ref (z_ad g x0)), (1, .int x1), (2, .int (q + 1))] rfl ?_))
          exact hkb (q + 1) h
        · replace h := z_ip c7 h
          refine z_iload_n X 2 dX6_leastIrreducible_42 rfl rfl ?_
          cases h; exact z_iret X rfl dX6_leastIrreducible_43 ⟨rfl, rfl⟩
set_option maxRecDepth 20000 in
set_option maxHeartbeats 4000000 in
theorem w_X6_leastIrreducible (l : Launch) (g : z_G) (ao : Nat) (a1 : Int32) (eao : z_PO ao) (u : z_M) {res : Int32} (h : f_X6_leastIrreducible ao a1 u = some res) : z_C l g z_shC yX6_leastIrreducible wsX6_leastIrreducible 4 [.ref (z_ad g ao), .int a1] u (fun v u' => v = some (.int res) ∧ u' = u) := by
  refine z_C.mk (lv := [(0, .ref (z_ad g ao)), (1, .int a1)]) (cc := cX6_leastIrreducible) (nL := 3) (rt := (some .int)) rfl (by decide) (Nat.le_of_ble_eq_true rfl) rfl (fun p e R s m args below meth c hR X => ?_)
  unfold f_X6_leastIrreducible at h
  refine z_iconst X (v := 0) dX6_leastIrreducible_0 (by decide) (z_istore_n X [(2, .int 0), (0, .ref (z_ad g ao)), (1, .int a1)] dX6_leastIrreducible_1 rfl (by decide) rfl (z_sub [1, 2, 0] [(0, .ref (z_ad g ao)), (1, .int a1), (2, .int 0)] rfl ?_))
  have hw := z_lp_w (fun q9 kb9 kx9 h1 h2 h3 => wb_X6_leastIrreducible_2 (l := l) (e := e) (below := below) (u := u) hR X ao a1 eao q9 kb9 kx9 h1 h2 h3) z_F _ _ h
  refine hw (fun t8 h => ?_)
  refine z_iconst X (v := (-1)) dX6_leastIrreducible_50 (by decide) ?_
  cases h; exact z_iret X rfl dX6_leastIrreducible_51 ⟨rfl, rfl⟩

theorem lk_X7_append_26 : (Cond.fieldLink RX7 26 RX7 (TX7 1).2.1 (TX7 1).2.2.1) ∈ wsX7_append := by decide +kernel
theorem in_X7_append_X7 : ∀ w ∈ u_ws RX7 TX7 11, w ∈ wsX7_append := by decide +kernel
theorem lk_X7_append_9 : (Cond.fieldLink RX7 9 RX7 (TX7 0).2.1 (TX7 0).2.2.1) ∈ wsX7_append := by decide +kernel
def b_X7_append_17 (x1 : Int32) : (Int32 × z_M) → ((Int32 × z_M) → Option (Int32 × z_M)) → (z_M → Option (Int32 × z_M)) → Option (Int32 × z_M) := fun q kb kx =>
  if q.1 < 0 then (kx q.2) else (z_gd (z_inb (z_gI q.2 81 1) 400) (z_lt (z_sI q.2 82 (z_gI q.2 81 1).toNatClampNeg (vp_nar .char (((((x1.toUInt32 >>> (q.1.toUInt32 &&& Int32.toUInt32 31)).toInt32) &&& 255).toUInt32 % 65536).toInt32))) (fun u4 => z_lt (z_sI u4 81 1 ((z_gI u4 81 1) + 1)) (fun u5 => kb (q.1 + (-8), u5)))))
def f_X7_append (a1 : Int32) (u : z_M) : Option (Int32 × z_M) :=
  if ((z_gI u 81 1) + 4) ≤ 400 then (z_lp (b_X7_append_17 a1) z_F (24, u) (fun t6 => some (z_gI t6 81 1, t6))) else (some ((-1), u))
set_option maxRecDepth 20000 in
set_option maxHeartbeats 4000000 in
theorem wb_X7_append_17 {p : Program} {l : Launch} {e : Env} {R : Room} {s : State} {m : MethodId} {args : Array Value} {below : List Frame} {meth : Method} {c : Code} {g : z_G} {u : z_M} {res : Int32 × z_M} (hR : R = z_rm 1) (X : z_X p R s m args meth c cX7_append 3 RX7 wsX7_append (some .int) g z_shC) (x1 : Int32) (q : Int32 × z_M) (kb : (Int32 × z_M) → Option (Int32 × z_M)) (kx : z_M → Option (Int32 × z_M)) (hkb : ∀ q, kb q = some res → z_V p l e R s m args below meth c 3 g z_shC (MQ below (z_Qc g z_shC (fun v u' => v = some (.int res.1) ∧ u' = res.2)) args s 0 0 (z_A g z_shC)) 17 [(0, .ref (z_ad g 81)), (1, .int x1), (2, .int q.1)] [] q.2) (hkx : ∀ t, kx t = some res → z_V p l e R s m args below meth c 3 g z_shC (MQ below (z_Qc g z_shC (fun v u' => v = some (.int res.1) ∧ u' = res.2)) args s 0 0 (z_A g z_shC)) 54 [(0, .ref (z_ad g 81))] [] t) (h : b_X7_append_17 x1 q kb kx = some res) : z_V p l e R s m args below meth c 3 g z_shC (MQ below (z_Qc g z_shC (fun v u' => v = some (.int res.1) ∧ u' = res.2)) args s 0 0 (z_A g z_shC)) 17 [(0, .ref (z_ad g 81)), (1, .int x1), (2, .int q.1)] [] q.2 := by
  unfold b_X7_append_17 at h
  refine z_iload_n X 2 dX7_append_17 rfl rfl (z_if_lt X 54 dX7_append_18 (by decide) (fun c2 => ?_) (fun c2 => ?_))
  · replace h := z_ip c2 h
    refine z_sub [0] [(0, .ref (z_ad g 81))] rfl ?_
    exact hkx q.2 h
  · replace h := z_in c2 h
    obtain ⟨b3, h⟩ := z_gs h
    obtain ⟨u4, eu4, h⟩ := z_ls h
    obtain ⟨u5, eu5, h⟩ := z_ls h
    refine z_aload_n X 0 dX7_append_21 rfl rfl (z_getR X (k0 := 0) z_c81 rfl in_X7_append_X7 (by decide) rfl rfl lk_X7_append_9 dX7_append_22 (z_aload_n X 0 dX7_append_25 rfl rfl (z_getI X (k0 := 1) z_c81 rfl in_X7_append_X7 (by decide) rfl rfl lk_X7_append_26 dX7_append_26 (z_iload_n X 1 dX7_append_29 rfl rfl (z_iload_n X 2 dX7_append_30 rfl rfl (z_iushr X dX7_append_31 (z_sipush X (v := 255) dX7_append_32 (by decide) (z_iand X dX7_append_35 (z_i2c X dX7_append_36 (z_cast X z_c82 (z_inS b3) dX7_append_37 (z_nm eu4 (z_aload_n X 0 dX7_append_38 rfl rfl (z_dup X dX7_append_39 rfl (z_getI X (k0 := 1) z_c81 rfl in_X7_append_X7 (by decide) rfl rfl lk_X7_append_26 dX7_append_40 (z_iconst X (v := 1) dX7_append_43 (by decide) (z_iadd X dX7_append_44 (z_putI X (k0 := 1) (ty0 := tyX7) z_c81 rfl in_X7_append_X7 tyX7_ok nmX7 (by decide) rfl rfl rfl rfl rfl lk_X7_append_26 dX7_append_45 (z_nm eu5 (z_iinc X (v := q.1 + (-8)) 2 [(2, .int (q.1 + (-8))), (0, .ref (z_ad g 81)), (1, .int x1)] dX7_append_48 rfl rfl (by decide) rfl (z_goto X 17 dX7_append_51 (by decide) (z_sub [1, 2, 0] [(0, .ref (z_ad g 81)), (1, .int x1), (2, .int (q.1 + (-8)))] rfl ?_)))))))))))))))))))))
    exact hkb (q.1 + (-8), u5) h
set_option maxRecDepth 20000 in
set_option maxHeartbeats 4000000 in
theorem w_X7_append (l : Launch) (g : z_G) (a1 : Int32) (u : z_M) {res : Int32 × z_M} (h : f_X7_append a1 u = some res) : z_C l g z_shC yX7_append wsX7_append 1 [.ref (z_ad g 81), .int a1] u (fun v u' => v = some (.int res.1) ∧ u' = res.2) := by
  refine z_C.mk (lv := [(0, .ref (z_ad g 81)), (1, .int a1)]) (cc := cX7_append) (nL := 3) (rt := (some .int)) rfl (by decide) (Nat.le_of_ble_eq_true rfl) rfl (fun p e R s m args below meth c hR X => ?_)
  unfold f_X7_append at h
  refine z_aload_n X 0 dX7_append_0 rfl rfl (z_getI X (k0 := 1) z_c81 rfl in_X7_append_X7 (by decide) rfl rfl lk_X7_append_26 dX7_append_1 (z_iconst X (v := 4) dX7_append_4 (by decide) (z_iadd X dX7_append_5 (z_sipush X (v := 400) dX7_append_6 (by decide) (z_icmp_le X 14 dX7_append_9 (by decide) (fun c1 => ?_) (fun c1 => ?_))))))
  · replace h := z_ip c1 h
    refine z_bipush X (v := 24) dX7_append_14 (by decide) (z_istore_n X [(2, .int 24), (0, .ref (z_ad g 81)), (1, .int a1)] dX7_append_16 rfl (by decide) rfl (z_sub [1, 2, 0] [(0, .ref (z_ad g 81)), (1, .int a1), (2, .int 24)] rfl ?_))
    have hw := z_lp_w (fun q9 kb9 kx9 h1 h2 h3 => wb_X7_append_17 (l := l) (e := e) (below := below) (u := u) hR X a1 q9 kb9 kx9 h1 h2 h3) z_F _ _ h
    refine hw (fun t6 h => ?_)
    refine z_aload_n X 0 dX7_append_54 rfl rfl (z_getI X (k0 := 1) z_c81 rfl in_X7_append_X7 (by decide) rfl rfl lk_X7_append_26 dX7_append_55 ?_)
    cases h; exact z_iret X rfl dX7_append_58 ⟨rfl, rfl⟩
  · replace h := z_in c1 h
    refine z_iconst X (v := (-1)) dX7_append_12 (by decide) ?_
    cases h; exact z_iret X rfl dX7_append_13 ⟨rfl, rfl⟩
