/-! Constructors. -/
def z_al (l : List Nat) : Nat → Nat := fun i => l.getD i 0
def z_ia (g : z_G) (n : Nat) : va_E := .inl (z_ct g 0, n, .inl (fun _ => 0))

theorem in_X6_init_X6 : ∀ w ∈ u_ws RX6 TX6 6, w ∈ wsX6_init := by decide +kernel
def z_oP (g : z_G) (ad : Nat → Nat) : va_W := [(ad 0, .inr (6, [.int 0, .int 0, .int 0, .ref (ad 1), .ref (ad 2), .ref (ad 3)])), ((ad 1), .inl (z_ct g 0, 9, .inl (fun _ => 0))), ((ad 2), .inl (z_ct g 0, 9, .inl (fun _ => 0))), ((ad 3), .inl (z_ct g 0, 81, .inl (fun _ => 0)))]
set_option maxRecDepth 20000 in
set_option maxHeartbeats 4000000 in
theorem k_X6_init (l : Launch) (g : z_G) : z_I l g yX6_init wsX6_init 1 3 99 6 [.int 0, .int 0, .int 0, .null, .null, .null] (z_oP g) := by
  refine z_I.mk (cc := cX6_init) (nL := 1) rfl (by decide) (by decide) rfl (fun p e R s m args below meth c h0 sz hR hI X => ?_)
  refine z_kaload_n X 0 dX6_init_0 rfl rfl (z_kobj X (by decide +kernel) (by decide +kernel) (by decide +kernel) (by subst hR; exact Nat.le_of_ble_eq_true rfl) (by subst hR; exact Nat.le_of_ble_eq_true rfl) dX6_init_1 ?_)
  refine z_kaload_n X 0 dX6_init_4 rfl rfl (z_kbipush X (v := 9) dX6_init_5 (by decide) (z_knew_int X (N := 9) (by decide +kernel) (by decide) (by decide) (by decide) (by subst hR; exact Nat.le_of_ble_eq_true rfl) (by subst hR; exact Nat.le_of_ble_eq_true rfl) dX6_init_7 (fun q1 => ?_)))
  refine z_kputF X (k0 := 3) (q0 := 0) (ty0 := tyX6) [(h0, .inr (6, [.int 0, .int 0, .int 0, .ref q1, .null, .null])), (q1, .inl (z_ct g 0, 9, .inl (fun _ => 0)))] hI rfl rfl in_X6_init_X6 tyX6_ok nmX6 (by decide) rfl rfl rfl rfl rfl (Nat.le_of_ble_eq_true rfl) (by decide +kernel) rfl dX6_init_9 ?_
  refine z_kaload_n X 0 dX6_init_12 rfl rfl (z_kbipush X (v := 9) dX6_init_13 (by decide) (z_knew_int X (N := 9) (by decide +kernel) (by decide) (by decide) (by decide) (by subst hR; exact Nat.le_of_ble_eq_true rfl) (by subst hR; exact Nat.le_of_ble_eq_true rfl) dX6_init_15 (fun q2 => ?_)))
  refine z_kputF X (k0 := 4) (q0 := 0) (ty0 := tyX6) [(h0, .inr (6, [.int 0, .int 0, .int 0, .ref q1, .ref q2, .null])), (q1, .inl (z_ct g 0, 9, .inl (fun _ => 0))), (q2, .inl (z_ct g 0, 9, .inl (fun _ => 0)))] hI rfl rfl in_X6_init_X6 tyX6_ok nmX6 (by decide) rfl rfl rfl rfl rfl (Nat.le_of_ble_eq_true rfl) (by decide +kernel) rfl dX6_init_17 ?_
  refine z_kaload_n X 0 dX6_init_20 rfl rfl (z_kbipush X (v := 81) dX6_init_21 (by decide) (z_knew_int X (N := 81) (by decide +kernel) (by decide) (by decide) (by decide) (by subst hR; exact Nat.le_of_ble_eq_true rfl) (by subst hR; exact Nat.le_of_ble_eq_true rfl) dX6_init_23 (fun q3 => ?_)))
  refine z_kputF X (k0 := 5) (q0 := 0) (ty0 := tyX6) [(h0, .inr (6, [.int 0, .int 0, .int 0, .ref q1, .ref q2, .ref q3])), (q1, .inl (z_ct g 0, 9, .inl (fun _ => 0))), (q2, .inl (z_ct g 0, 9, .inl (fun _ => 0))), (q3, .inl (z_ct g 0, 81, .inl (fun _ => 0)))] hI rfl rfl in_X6_init_X6 tyX6_ok nmX6 (by decide) rfl rfl rfl rfl rfl (Nat.le_of_ble_eq_true rfl) (by decide +kernel) rfl dX6_init_25 ?_
  exact z_I.ret X (z_al [h0, q1, q2, q3]) rfl rfl (Nat.le_of_ble_eq_true rfl) (Nat.le_of_ble_eq_true rfl) dX6_init_28
theorem in_X1_init_X1 : ∀ w ∈ u_ws RX1 TX1 4, w ∈ wsX1_init := by decide +kernel
def z_oC (g : z_G) (ad : Nat → Nat) : va_W := [(ad 0, .inr (1, [.int 0, .int 0, .ref (ad 1), .ref (ad 2)])), ((ad 1), .inl (z_ct g 0, 9, .inl (fun _ => 0))), ((ad 2), .inl (z_ct g 0, 8, .inl (fun _ => 0)))]
set_option maxRecDepth 20000 in
set_option maxHeartbeats 4000000 in
theorem k_X1_init (l : Launch) (g : z_G) : z_I l g yX1_init wsX1_init 1 2 17 1 [.int 0, .int 0, .null, .null] (z_oC g) := by
  refine z_I.mk (cc := cX1_init) (nL := 1) rfl (by decide) (by decide) rfl (fun p e R s m args below meth c h0 sz hR hI X => ?_)
  refine z_kaload_n X 0 dX1_init_0 rfl rfl (z_kobj X (by decide +kernel) (by decide +kernel) (by decide +kernel) (by subst hR; exact Nat.le_of_ble_eq_true rfl) (by subst hR; exact Nat.le_of_ble_eq_true rfl) dX1_init_1 ?_)
  refine z_kaload_n X 0 dX1_init_4 rfl rfl (z_kbipush X (v := 9) dX1_init_5 (by decide) (z_knew_int X (N := 9) (by decide +kernel) (by decide) (by decide) (by decide) (by subst hR; exact Nat.le_of_ble_eq_true rfl) (by subst hR; exact Nat.le_of_ble_eq_true rfl) dX1_init_7 (fun q1 => ?_)))
  refine z_kputF X (k0 := 2) (q0 := 0) (ty0 := tyX1) [(h0, .inr (1, [.int 0, .int 0, .ref q1, .null])), (q1, .inl (z_ct g 0, 9, .inl (fun _ => 0)))] hI rfl rfl in_X1_init_X1 tyX1_ok nmX1 (by decide) rfl rfl rfl rfl rfl (Nat.le_of_ble_eq_true rfl) (by decide +kernel) rfl dX1_init_9 ?_
  refine z_kaload_n X 0 dX1_init_12 rfl rfl (z_kbipush X (v := 8) dX1_init_13 (by decide) (z_knew_int X (N := 8) (by decide +kernel) (by decide) (by decide) (by decide) (by subst hR; exact Nat.le_of_ble_eq_true rfl) (by subst hR; exact Nat.le_of_ble_eq_true rfl) dX1_init_15 (fun q2 => ?_)))
  refine z_kputF X (k0 := 3) (q0 := 0) (ty0 := tyX1) [(h0, .inr (1, [.int 0, .int 0, .ref q1, .ref q2])), (q1, .inl (z_ct g 0, 9, .inl (fun _ => 0))), (q2, .inl (z_ct g 0, 8, .inl (fun _ => 0)))] hI rfl rfl in_X1_init_X1 tyX1_ok nmX1 (by decide) rfl rfl rfl rfl rfl (Nat.le_of_ble_eq_true rfl) (by decide +kernel) rfl dX1_init_17 ?_
  exact z_I.ret X (z_al [h0, q1, q2]) rfl rfl (Nat.le_of_ble_eq_true rfl) (Nat.le_of_ble_eq_true rfl) dX1_init_20
theorem in_X8_init_X8 : ∀ w ∈ u_ws RX8 TX8 5, w ∈ wsX8_init := by decide +kernel
def z_oS (g : z_G) (ad : Nat → Nat) : va_W := [(ad 0, .inr (8, [.ref (ad 1), .ref (ad 2), .ref (ad 3), .ref (ad 4), .ref (ad 5)])), ((ad 1), .inl (z_ct g 0, 9, .inl (fun _ => 0))), ((ad 2), .inl (z_ct g 0, 9, .inl (fun _ => 0))), ((ad 3), .inl (z_ct g 0, 9, .inl (fun _ => 0))), ((ad 4), .inl (z_ct g 0, 81, .inl (fun _ => 0))), ((ad 5), .inl (z_ct g 0, 512, .inl (fun _ => 0)))]
set_option maxRecDepth 20000 in
set_option maxHeartbeats 4000000 in
theorem k_X8_init (l : Launch) (g : z_G) : z_I l g yX8_init wsX8_init 1 5 620 8 [.null, .null, .null, .null, .null] (z_oS g) := by
  refine z_I.mk (cc := cX8_init) (nL := 1) rfl (by decide) (by decide) rfl (fun p e R s m args below meth c h0 sz hR hI X => ?_)
  refine z_kaload_n X 0 dX8_init_0 rfl rfl (z_kobj X (by decide +kernel) (by decide +kernel) (by decide +kernel) (by subst hR; exact Nat.le_of_ble_eq_true rfl) (by subst hR; exact Nat.le_of_ble_eq_true rfl) dX8_init_1 ?_)
  refine z_kaload_n X 0 dX8_init_4 rfl rfl (z_kbipush X (v := 9) dX8_init_5 (by decide) (z_knew_int X (N := 9) (by decide +kernel) (by decide) (by decide) (by decide) (by subst hR; exact Nat.le_of_ble_eq_true rfl) (by subst hR; exact Nat.le_of_ble_eq_true rfl) dX8_init_7 (fun q1 => ?_)))
  refine z_kputF X (k0 := 0) (q0 := 0) (ty0 := tyX8) [(h0, .inr (8, [.ref q1, .null, .null, .null, .null])), (q1, .inl (z_ct g 0, 9, .inl (fun _ => 0)))] hI rfl rfl in_X8_init_X8 tyX8_ok nmX8 (by decide) rfl rfl rfl rfl rfl (Nat.le_of_ble_eq_true rfl) (by decide +kernel) rfl dX8_init_9 ?_
  refine z_kaload_n X 0 dX8_init_12 rfl rfl (z_kbipush X (v := 9) dX8_init_13 (by decide) (z_knew_int X (N := 9) (by decide +kernel) (by decide) (by decide) (by decide) (by subst hR; exact Nat.le_of_ble_eq_true rfl) (by subst hR; exact Nat.le_of_ble_eq_true rfl) dX8_init_15 (fun q2 => ?_)))
  refine z_kputF X (k0 := 1) (q0 := 0) (ty0 := tyX8) [(h0, .inr (8, [.ref q1, .ref q2, .null, .null, .null])), (q1, .inl (z_ct g 0, 9, .inl (fun _ => 0))), (q2, .inl (z_ct g 0, 9, .inl (fun _ => 0)))] hI rfl rfl in_X8_init_X8 tyX8_ok nmX8 (by decide) rfl rfl rfl rfl rfl (Nat.le_of_ble_eq_true rfl) (by decide +kernel) rfl dX8_init_17 ?_
  refine z_kaload_n X 0 dX8_init_20 rfl rfl (z_kbipush X (v := 9) dX8_init_21 (by decide) (z_knew_int X (N := 9) (by decide +kernel) (by decide) (by decide) (by decide) (by subst hR; exact Nat.le_of_ble_eq_true rfl) (by subst hR; exact Nat.le_of_ble_eq_true rfl) dX8_init_23 (fun q3 => ?_)))
  refine z_kputF X (k0 := 2) (q0 := 0) (ty0 := tyX8) [(h0, .inr (8, [.ref q1, .ref q2, .ref q3, .null, .null])), (q1, .inl (z_ct g 0, 9, .inl (fun _ => 0))), (q2, .inl (z_ct g 0, 9, .inl (fun _ => 0))), (q3, .inl (z_ct g 0, 9, .inl (fun _ => 0)))] hI rfl rfl in_X8_init_X8 tyX8_ok nmX8 (by decide) rfl rfl rfl rfl rfl (Nat.le_of_ble_eq_true rfl) (by decide +kernel) rfl dX8_init_25 ?_
  refine z_kaload_n X 0 dX8_init_28 rfl rfl (z_kbipush X (v := 81) dX8_init_29 (by decide) (z_knew_int X (N := 81) (by decide +kernel) (by decide) (by decide) (by decide) (by subst hR; exact Nat.le_of_ble_eq_true rfl) (by subst hR; exact Nat.le_of_ble_eq_true rfl) dX8_init_31 (fun q4 => ?_)))
  refine z_kputF X (k0 := 3) (q0 := 0) (ty0 := tyX8) [(h0, .inr (8, [.ref q1, .ref q2, .ref q3, .ref q4, .null])), (q1, .inl (z_ct g 0, 9, .inl (fun _ => 0))), (q2, .inl (z_ct g 0, 9, .inl (fun _ => 0))), (q3, .inl (z_ct g 0, 9, .inl (fun _ => 0))), (q4, .inl (z_ct g 0, 81, .inl (fun _ => 0)))] hI rfl rfl in_X8_init_X8 tyX8_ok nmX8 (by decide) rfl rfl rfl rfl rfl (Nat.le_of_ble_eq_true rfl) (by decide +kernel) rfl dX8_init_33 ?_
  refine z_kaload_n X 0 dX8_init_36 rfl rfl (z_ksipush X (v := 512) dX8_init_37 (by decide) (z_knew_int X (N := 512) (by decide +kernel) (by decide) (by decide) (by decide) (by subst hR; exact Nat.le_of_ble_eq_true rfl) (by subst hR; exact Nat.le_of_ble_eq_true rfl) dX8_init_40 (fun q5 => ?_)))
  refine z_kputF X (k0 := 4) (q0 := 0) (ty0 := tyX8) [(h0, .inr (8, [.ref q1, .ref q2, .ref q3, .ref q4, .ref q5])), (q1, .inl (z_ct g 0, 9, .inl (fun _ => 0))), (q2, .inl (z_ct g 0, 9, .inl (fun _ => 0))), (q3, .inl (z_ct g 0, 9, .inl (fun _ => 0))), (q4, .inl (z_ct g 0, 81, .inl (fun _ => 0))), (q5, .inl (z_ct g 0, 512, .inl (fun _ => 0)))] hI rfl rfl in_X8_init_X8 tyX8_ok nmX8 (by decide) rfl rfl rfl rfl rfl (Nat.le_of_ble_eq_true rfl) (by decide +kernel) rfl dX8_init_42 ?_
  exact z_I.ret X (z_al [h0, q1, q2, q3, q4, q5]) rfl rfl (Nat.le_of_ble_eq_true rfl) (Nat.le_of_ble_eq_true rfl) dX8_init_45
theorem in_X0_init_X0 : ∀ w ∈ u_ws RX0 TX0 2, w ∈ wsX0_init := by decide +kernel
def z_oB (g : z_G) (ad : Nat → Nat) : va_W := [(ad 0, .inr (0, [.ref (ad 1), .ref (ad 2)])), ((ad 1), .inl (z_ct g 0, 81, .inl (fun _ => 0))), ((ad 2), .inl (z_ct g 0, 81, .inl (fun _ => 0)))]
set_option maxRecDepth 20000 in
set_option maxHeartbeats 4000000 in
theorem k_X0_init (l : Launch) (g : z_G) : z_I l g yX0_init wsX0_init 1 2 162 0 [.null, .null] (z_oB g) := by
  refine z_I.mk (cc := cX0_init) (nL := 1) rfl (by decide) (by decide) rfl (fun p e R s m args below meth c h0 sz hR hI X => ?_)
  refine z_kaload_n X 0 dX0_init_0 rfl rfl (z_kobj X (by decide +kernel) (by decide +kernel) (by decide +kernel) (by subst hR; exact Nat.le_of_ble_eq_true rfl) (by subst hR; exact Nat.le_of_ble_eq_true rfl) dX0_init_1 ?_)
  refine z_kaload_n X 0 dX0_init_4 rfl rfl (z_kbipush X (v := 81) dX0_init_5 (by decide) (z_knew_int X (N := 81) (by decide +kernel) (by decide) (by decide) (by decide) (by subst hR; exact Nat.le_of_ble_eq_true rfl) (by subst hR; exact Nat.le_of_ble_eq_true rfl) dX0_init_7 (fun q1 => ?_)))
  refine z_kputF X (k0 := 0) (q0 := 0) (ty0 := tyX0) [(h0, .inr (0, [.ref q1, .null])), (q1, .inl (z_ct g 0, 81, .inl (fun _ => 0)))] hI rfl rfl in_X0_init_X0 tyX0_ok nmX0 (by decide) rfl rfl rfl rfl rfl (Nat.le_of_ble_eq_true rfl) (by decide +kernel) rfl dX0_init_9 ?_
  refine z_kaload_n X 0 dX0_init_12 rfl rfl (z_kbipush X (v := 81) dX0_init_13 (by decide) (z_knew_int X (N := 81) (by decide +kernel) (by decide) (by decide) (by decide) (by subst hR; exact Nat.le_of_ble_eq_true rfl) (by subst hR; exact Nat.le_of_ble_eq_true rfl) dX0_init_15 (fun q2 => ?_)))
  refine z_kputF X (k0 := 1) (q0 := 0) (ty0 := tyX0) [(h0, .inr (0, [.ref q1, .ref q2])), (q1, .inl (z_ct g 0, 81, .inl (fun _ => 0))), (q2, .inl (z_ct g 0, 81, .inl (fun _ => 0)))] hI rfl rfl in_X0_init_X0 tyX0_ok nmX0 (by decide) rfl rfl rfl rfl rfl (Nat.le_of_ble_eq_true rfl) (by decide +kernel) rfl dX0_init_17 ?_
  exact z_I.ret X (z_al [h0, q1, q2]) rfl rfl (Nat.le_of_ble_eq_true rfl) (Nat.le_of_ble_eq_true rfl) dX0_init_20
theorem in_X3_init_X3 : ∀ w ∈ u_ws RX3 TX3 3, w ∈ wsX3_init := by decide +kernel
def z_oX (g : z_G) (ad : Nat → Nat) : va_W := [(ad 0, .inr (3, [.ref (ad 1), .ref (ad 2), .ref (ad 3)])), ((ad 1), .inl (z_ct g 0, 512, .inl (fun _ => 0))), ((ad 2), .inl (z_ct g 0, 1225, .inl (fun _ => 0))), ((ad 3), .inl (z_ct g 0, 35, .inl (fun _ => 0)))]
set_option maxRecDepth 20000 in
set_option maxHeartbeats 4000000 in
theorem k_X3_init (l : Launch) (g : z_G) : z_I l g yX3_init wsX3_init 1 3 1772 3 [.null, .null, .null] (z_oX g) := by
  refine z_I.mk (cc := cX3_init) (nL := 1) rfl (by decide) (by decide) rfl (fun p e R s m args below meth c h0 sz hR hI X => ?_)
  refine z_kaload_n X 0 dX3_init_0 rfl rfl (z_kobj X (by decide +kernel) (by decide +kernel) (by decide +kernel) (by subst hR; exact Nat.le_of_ble_eq_true rfl) (by subst hR; exact Nat.le_of_ble_eq_true rfl) dX3_init_1 ?_)
  refine z_kaload_n X 0 dX3_init_4 rfl rfl (z_ksipush X (v := 512) dX3_init_5 (by decide) (z_knew_int X (N := 512) (by decide +kernel) (by decide) (by decide) (by decide) (by subst hR; exact Nat.le_of_ble_eq_true rfl) (by subst hR; exact Nat.le_of_ble_eq_true rfl) dX3_init_8 (fun q1 => ?_)))
  refine z_kputF X (k0 := 0) (q0 := 0) (ty0 := tyX3) [(h0, .inr (3, [.ref q1, .null, .null])), (q1, .inl (z_ct g 0, 512, .inl (fun _ => 0)))] hI rfl rfl in_X3_init_X3 tyX3_ok nmX3 (by decide) rfl rfl rfl rfl rfl (Nat.le_of_ble_eq_true rfl) (by decide +kernel) rfl dX3_init_10 ?_
  refine z_kaload_n X 0 dX3_init_13 rfl rfl (z_ksipush X (v := 1225) dX3_init_14 (by decide) (z_knew_int X (N := 1225) (by decide +kernel) (by decide) (by decide) (by decide) (by subst hR; exact Nat.le_of_ble_eq_true rfl) (by subst hR; exact Nat.le_of_ble_eq_true rfl) dX3_init_17 (fun q2 => ?_)))
  refine z_kputF X (k0 := 1) (q0 := 0) (ty0 := tyX3) [(h0, .inr (3, [.ref q1, .ref q2, .null])), (q1, .inl (z_ct g 0, 512, .inl (fun _ => 0))), (q2, .inl (z_ct g 0, 1225, .inl (fun _ => 0)))] hI rfl rfl in_X3_init_X3 tyX3_ok nmX3 (by decide) rfl rfl rfl rfl rfl (Nat.le_of_ble_eq_true rfl) (by decide +kernel) rfl dX3_init_19 ?_
  refine z_kaload_n X 0 dX3_init_22 rfl rfl (z_kbipush X (v := 35) dX3_init_23 (by decide) (z_knew_int X (N := 35) (by decide +kernel) (by decide) (by decide) (by decide) (by subst hR; exact Nat.le_of_ble_eq_true rfl) (by subst hR; exact Nat.le_of_ble_eq_true rfl) dX3_init_25 (fun q3 => ?_)))
  refine z_kputF X (k0 := 2) (q0 := 0) (ty0 := tyX3) [(h0, .inr (3, [.ref q1, .ref q2, .ref q3])), (q1, .inl (z_ct g 0, 512, .inl (fun _ => 0))), (q2, .inl (z_ct g 0, 1225, .inl (fun _ => 0))), (q3, .inl (z_ct g 0, 35, .inl (fun _ => 0)))] hI rfl rfl in_X3_init_X3 tyX3_ok nmX3 (by decide) rfl rfl rfl rfl rfl (Nat.le_of_ble_eq_true rfl) (by decide +kernel) rfl dX3_init_27 ?_
  exact z_I.ret X (z_al [h0, q1, q2, q3]) rfl rfl (Nat.le_of_ble_eq_true rfl) (Nat.le_of_ble_eq_true rfl) dX3_init_30
theorem in_X4_init_X4 : ∀ w ∈ u_ws RX4 TX4 3, w ∈ wsX4_init := by decide +kernel
def z_oM (g : z_G) (ad : Nat → Nat) : va_W := [(ad 0, .inr (4, [.ref (ad 1), .ref (ad 2), .int 0])), ((ad 1), .inl (z_ct g 0, 9, .inl (fun _ => 0))), ((ad 2), .inl (z_ct g 0, 9, .inl (fun _ => 0)))]
set_option maxRecDepth 20000 in
set_option maxHeartbeats 4000000 in
theorem k_X4_init (l : Launch) (g : z_G) : z_I l g yX4_init wsX4_init 1 2 18 4 [.null, .null, .int 0] (z_oM g) := by
  refine z_I.mk (cc := cX4_init) (nL := 1) rfl (by decide) (by decide) rfl (fun p e R s m args below meth c h0 sz hR hI X => ?_)
  refine z_kaload_n X 0 dX4_init_0 rfl rfl (z_kobj X (by decide +kernel) (by decide +kernel) (by decide +kernel) (by subst hR; exact Nat.le_of_ble_eq_true rfl) (by subst hR; exact Nat.le_of_ble_eq_true rfl) dX4_init_1 ?_)
  refine z_kaload_n X 0 dX4_init_4 rfl rfl (z_kbipush X (v := 9) dX4_init_5 (by decide) (z_knew_int X (N := 9) (by decide +kernel) (by decide) (by decide) (by decide) (by subst hR; exact Nat.le_of_ble_eq_true rfl) (by subst hR; exact Nat.le_of_ble_eq_true rfl) dX4_init_7 (fun q1 => ?_)))
  refine z_kputF X (k0 := 0) (q0 := 0) (ty0 := tyX4) [(h0, .inr (4, [.ref q1, .null, .int 0])), (q1, .inl (z_ct g 0, 9, .inl (fun _ => 0)))] hI rfl rfl in_X4_init_X4 tyX4_ok nmX4 (by decide) rfl rfl rfl rfl rfl (Nat.le_of_ble_eq_true rfl) (by decide +kernel) rfl dX4_init_9 ?_
  refine z_kaload_n X 0 dX4_init_12 rfl rfl (z_kbipush X (v := 9) dX4_init_13 (by decide) (z_knew_int X (N := 9) (by decide +kernel) (by decide) (by decide) (by decide) (by subst hR; exact Nat.le_of_ble_eq_true rfl) (by subst hR; exact Nat.le_of_ble_eq_true rfl) dX4_init_15 (fun q2 => ?_)))
  refine z_kputF X (k0 := 1) (q0 := 0) (ty0 := tyX4) [(h0, .inr (4, [.ref q1, .ref q2, .int 0])), (q1, .inl (z_ct g 0, 9, .inl (fun _ => 0))), (q2, .inl (z_ct g 0, 9, .inl (fun _ => 0)))] hI rfl rfl in_X4_init_X4 tyX4_ok nmX4 (by decide) rfl rfl rfl rfl rfl (Nat.le_of_ble_eq_true rfl) (by decide +kernel) rfl dX4_init_17 ?_
  exact z_I.ret X (z_al [h0, q1, q2]) rfl rfl (Nat.le_of_ble_eq_true rfl) (Nat.le_of_ble_eq_true rfl) dX4_init_20
theorem in_X10_init_X10 : ∀ w ∈ u_ws RX10 TX10 30, w ∈ wsX10_init := fun _ h => List.mem_cons_of_mem _ (List.mem_append_right _ h)
def z_oR (g : z_G) (ad : Nat → Nat) : va_W := [(ad 0, .inr (10, [.int 0, .ref (ad 1), .ref (ad 2), .ref (ad 3), .int 0, .ref (ad 4), .ref (ad 5), .ref (ad 6), .int 0, .int 0, .int 0, .int (-1), .int 0, .int 0, .ref (ad 7), .ref (ad 8), .ref (ad 9), .ref (ad 10), .int 0, .ref (ad 11), .ref (ad 12), .ref (ad 13), .ref (ad 14), .ref (ad 15), .ref (ad 16), .ref (ad 17), .ref (ad 18), .ref (ad 19), .ref (ad 20), .ref (ad 21)])), ((ad 1), .inl (z_ct g 0, 93, .inl (fun _ => 0))), ((ad 2), .inl (z_ct g 0, 93, .inl (fun _ => 0))), ((ad 3), .inl (z_ct g 0, 1488, .inl (fun _ => 0))), ((ad 4), .inl (z_ct g 0, 186, .inl (fun _ => 0))), ((ad 5), .inl (z_ct g 3, 2, .inl (fun _ => 0))), ((ad 6), .inl (z_ct g 2, 400, .inl (fun _ => 0))), ((ad 7), .inl (z_ct g 0, 9, .inl (fun _ => 0))), ((ad 8), .inl (z_ct g 0, 512, .inl (fun _ => 0))), ((ad 9), .inl (z_ct g 0, 576, .inl (fun _ => 0))), ((ad 10), .inl (z_ct g 0, 64, .inl (fun _ => 0))), ((ad 11), .inl (z_ct g 0, 10, .inl (fun _ => 0))), ((ad 12), .inl (z_ct g 0, 10, .inl (fun _ => 0))), ((ad 13), .inl (z_ct g 0, 9, .inl (fun _ => 0))), ((ad 14), .inl (z_ct g 0, 9, .inl (fun _ => 0))), ((ad 15), .inl (z_ct g 4, 9, .inr (.inl (fun _ => 0)))), ((ad 16), .inl (z_ct g 4, 9, .inr (.inl (fun _ => 0)))), ((ad 17), .inl (z_ct g 0, 128, .inl (fun _ => 0))), ((ad 18), .inl (z_ct g 0, 128, .inl (fun _ => 0))), ((ad 19), .inl (z_ct g 0, 1600, .inl (fun _ => 0))), ((ad 20), .inl (z_ct g 0, 10, .inl (fun _ => 0))), ((ad 21), .inl (z_ct g 0, 9, .inl (fun _ => 0)))]
set_option maxRecDepth 20000 in
set_option maxHeartbeats 4000000 in
theorem k_X10_init (l : Launch) (g : z_G) : z_I l g yX10_init wsX10_init 1 21 5354 10 [.int 0, .null, .null, .null, .int 0, .null, .null, .null, .int 0, .int 0, .int 0, .int 0, .int 0, .int 0, .null, .null, .null, .null, .int 0, .null, .null, .null, .null, .null, .null, .null, .null, .null, .null, .null] (z_oR g) := by
  refine z_I.mk (cc := cX10_init) (nL := 1) rfl (by decide) (by decide) rfl (fun p e R s m args below meth c h0 sz hR hI X => ?_)
  refine z_kaload_n X 0 dX10_init_0 rfl rfl (z_kobj X (by decide +kernel) (by decide +kernel) (by decide +kernel) (by subst hR; exact Nat.le_of_ble_eq_true rfl) (by subst hR; exact Nat.le_of_ble_eq_true rfl) dX10_init_1 ?_)
  refine z_kaload_n X 0 dX10_init_4 rfl rfl (z_kbipush X (v := 93) dX10_init_5 (by decide) (z_knew_int X (N := 93) (by decide +kernel) (by decide) (by decide) (by decide) (by subst hR; exact Nat.le_of_ble_eq_true rfl) (by subst hR; exact Nat.le_of_ble_eq_true rfl) dX10_init_7 (fun q1 => ?_)))
  refine z_kputF X (k0 := 1) (q0 := 0) (ty0 := tyX10) [(h0, .inr (10, [.int 0, .ref q1, .null, .null, .int 0, .null, .null, .null, .int 0, .int 0, .int 0, .int 0, .int 0, .int 0, .null, .null, .null, .null, .int 0, .null, .null, .null, .null, .null, .null, .null, .null, .null, .null, .null])), (q1, .inl (z_ct g 0, 93, .inl (fun _ => 0)))] hI rfl rfl in_X10_init_X10 tyX10_ok nmX10 (by decide) rfl rfl rfl rfl rfl (Nat.le_of_ble_eq_true rfl) (by decide +kernel) rfl dX10_init_9 ?_
  refine z_kaload_n X 0 dX10_init_12 rfl rfl (z_kbipush X (v := 93) dX10_init_13 (by decide) (z_knew_int X (N := 93) (by decide +kernel) (by decide) (by decide) (by decide) (by subst hR; exact Nat.le_of_ble_eq_true rfl) (by subst hR; exact Nat.le_of_ble_eq_true rfl) dX10_init_15 (fun q2 => ?_)))
  refine z_kputF X (k0 := 2) (q0 := 0) (ty0 := tyX10) [(h0, .inr (10, [.int 0, .ref q1, .ref q2, .null, .int 0, .null, .null, .null, .int 0, .int 0, .int 0, .int 0, .int 0, .int 0, .null, .null, .null, .null, .int 0, .null, .null, .null, .null, .null, .null, .null, .null, .null, .null, .null])), (q1, .inl (z_ct g 0, 93, .inl (fun _ => 0))), (q2, .inl (z_ct g 0, 93, .inl (fun _ => 0)))] hI rfl rfl in_X10_init_X10 tyX10_ok nmX10 (by decide) rfl rfl rfl rfl rfl (Nat.le_of_ble_eq_true rfl) (by decide +kernel) rfl dX10_init_17 ?_
  refine z_kaload_n X 0 dX10_init_20 rfl rfl (z_ksipush X (v := 1488) dX10_init_21 (by decide) (z_knew_int X (N := 1488) (by decide +kernel) (by decide) (by decide) (by decide) (by subst hR; exact Nat.le_of_ble_eq_true rfl) (by subst hR; exact Nat.le_of_ble_eq_true rfl) dX10_init_24 (fun q3 => ?_)))
  refine z_kputF X (k0 := 3) (q0 := 0) (ty0 := tyX10) [(h0, .inr (10, [.int 0, .ref q1, .ref q2, .ref q3, .int 0, .null, .null, .null, .int 0, .int 0, .int 0, .int 0, .int 0, .int 0, .null, .null, .null, .null, .int 0, .null, .null, .null, .null, .null, .null, .null, .null, .null, .null, .null])), (q1, .inl (z_ct g 0, 93, .inl (fun _ => 0))), (q2, .inl (z_ct g 0, 93, .inl (fun _ => 0))), (q3, .inl (z_ct g 0, 1488, .inl (fun _ => 0)))] hI rfl rfl in_X10_init_X10 tyX10_ok nmX10 (by decide) rfl rfl rfl rfl rfl (Nat.le_of_ble_eq_true rfl) (by decide +kernel) rfl dX10_init_26 ?_
  refine z_kaload_n X 0 dX10_init_29 rfl rfl (z_ksipush X (v := 186) dX10_init_30 (by decide) (z_knew_int X (N := 186) (by decide +kernel) (by decide) (by decide) (by decide) (by subst hR; exact Nat.le_of_ble_eq_true rfl) (by subst hR; exact Nat.le_of_ble_eq_true rfl) dX10_init_33 (fun q4 => ?_)))
  refine z_kputF X (k0 := 5) (q0 := 0) (ty0 := tyX10) [(h0, .inr (10, [.int 0, .ref q1, .ref q2, .ref q3, .int 0, .ref q4, .null, .null, .int 0, .int 0, .int 0, .int 0, .int 0, .int 0, .null, .null, .null, .null, .int 0, .null, .null, .null, .null, .null, .null, .null, .null, .null, .null, .null])), (q1, .inl (z_ct g 0, 93, .inl (fun _ => 0))), (q2, .inl (z_ct g 0, 93, .inl (fun _ => 0))), (q3, .inl (z_ct g 0, 1488, .inl (fun _ => 0))), (q4, .inl (z_ct g 0, 186, .inl (fun _ => 0)))] hI rfl rfl in_X10_init_X10 tyX10_ok nmX10 (by decide) rfl rfl rfl rfl rfl (Nat.le_of_ble_eq_true rfl) (by decide +kernel) rfl dX10_init_35 ?_
  refine z_kaload_n X 0 dX10_init_38 rfl rfl (z_kiconst X (v := 2) dX10_init_39 (by decide) (z_knew_boolean X (N := 2) (by decide +kernel) (by decide) (by decide) (by decide) (by subst hR; exact Nat.le_of_ble_eq_true rfl) (by subst hR; exact Nat.le_of_ble_eq_true rfl) dX10_init_40 (fun q5 => ?_)))
  refine z_kputF X (k0 := 6) (q0 := 0) (ty0 := tyX10) [(h0, .inr (10, [.int 0, .ref q1, .ref q2, .ref q3, .int 0, .ref q4, .ref q5, .null, .int 0, .int 0, .int 0, .int 0, .int 0, .int 0, .null, .null, .null, .null, .int 0, .null, .null, .null, .null, .null, .null, .null, .null, .null, .null, .null])), (q1, .inl (z_ct g 0, 93, .inl (fun _ => 0))), (q2, .inl (z_ct g 0, 93, .inl (fun _ => 0))), (q3, .inl (z_ct g 0, 1488, .inl (fun _ => 0))), (q4, .inl (z_ct g 0, 186, .inl (fun _ => 0))), (q5, .inl (z_ct g 3, 2, .inl (fun _ => 0)))] hI rfl rfl in_X10_init_X10 tyX10_ok nmX10 (by decide) rfl rfl rfl rfl rfl (Nat.le_of_ble_eq_true rfl) (by decide +kernel) rfl dX10_init_42 ?_
  refine z_kaload_n X 0 dX10_init_45 rfl rfl (z_ksipush X (v := 400) dX10_init_46 (by decide) (z_knew_byte X (N := 400) (by decide +kernel) (by decide) (by decide) (by decide) (by subst hR; exact Nat.le_of_ble_eq_true rfl) (by subst hR; exact Nat.le_of_ble_eq_true rfl) dX10_init_49 (fun q6 => ?_)))
  refine z_kputF X (k0 := 7) (q0 := 0) (ty0 := tyX10) [(h0, .inr (10, [.int 0, .ref q1, .ref q2, .ref q3, .int 0, .ref q4, .ref q5, .ref q6, .int 0, .int 0, .int 0, .int 0, .int 0, .int 0, .null, .null, .null, .null, .int 0, .null, .null, .null, .null, .null, .null, .null, .null, .null, .null, .null])), (q1, .inl (z_ct g 0, 93, .inl (fun _ => 0))), (q2, .inl (z_ct g 0, 93, .inl (fun _ => 0))), (q3, .inl (z_ct g 0, 1488, .inl (fun _ => 0))), (q4, .inl (z_ct g 0, 186, .inl (fun _ => 0))), (q5, .inl (z_ct g 3, 2, .inl (fun _ => 0))), (q6, .inl (z_ct g 2, 400, .inl (fun _ => 0)))] hI rfl rfl in_X10_init_X10 tyX10_ok nmX10 (by decide) rfl rfl rfl rfl rfl (Nat.le_of_ble_eq_true rfl) (by decide +kernel) rfl dX10_init_51 ?_
  refine z_kaload_n X 0 dX10_init_54 rfl rfl (z_kiconst X (v := (-1)) dX10_init_55 (by decide) (z_kput X (k0 := 11) (q0 := 0) (ty0 := tyX10) [(h0, .inr (10, [.int 0, .ref q1, .ref q2, .ref q3, .int 0, .ref q4, .ref q5, .ref q6, .int 0, .int 0, .int 0, .int (-1), .int 0, .int 0, .null, .null, .null, .null, .int 0, .null, .null, .null, .null, .null, .null, .null, .null, .null, .null, .null])), (q1, .inl (z_ct g 0, 93, .inl (fun _ => 0))), (q2, .inl (z_ct g 0, 93, .inl (fun _ => 0))), (q3, .inl (z_ct g 0, 1488, .inl (fun _ => 0))), (q4, .inl (z_ct g 0, 186, .inl (fun _ => 0))), (q5, .inl (z_ct g 3, 2, .inl (fun _ => 0))), (q6, .inl (z_ct g 2, 400, .inl (fun _ => 0)))] rfl rfl in_X10_init_X10 tyX10_ok nmX10 (by decide) rfl rfl rfl rfl (Nat.le_of_ble_eq_true rfl) (by decide +kernel) rfl dX10_init_56 ?_))
  refine z_kaload_n X 0 dX10_init_59 rfl rfl (z_kbipush X (v := 9) dX10_init_60 (by decide) (z_knew_int X (N := 9) (by decide +kernel) (by decide) (by decide) (by decide) (by subst hR; exact Nat.le_of_ble_eq_true rfl) (by subst hR; exact Nat.le_of_ble_eq_true rfl) dX10_init_62 (fun q7 => ?_)))
  refine z_kputF X (k0 := 14) (q0 := 0) (ty0 := tyX10) [(h0, .inr (10, [.int 0, .ref q1, .ref q2, .ref q3, .int 0, .ref q4, .ref q5, .ref q6, .int 0, .int 0, .int 0, .int (-1), .int 0, .int 0, .ref q7, .null, .null, .null, .int 0, .null, .null, .null, .null, .null, .null, .null, .null, .null, .null, .null])), (q1, .inl (z_ct g 0, 93, .inl (fun _ => 0))), (q2, .inl (z_ct g 0, 93, .inl (fun _ => 0))), (q3, .inl (z_ct g 0, 1488, .inl (fun _ => 0))), (q4, .inl (z_ct g 0, 186, .inl (fun _ => 0))), (q5, .inl (z_ct g 3, 2, .inl (fun _ => 0))), (q6, .inl (z_ct g 2, 400, .inl (fun _ => 0))), (q7, .inl (z_ct g 0, 9, .inl (fun _ => 0)))] hI rfl rfl in_X10_init_X10 tyX10_ok nmX10 (by decide) rfl rfl rfl rfl rfl (Nat.le_of_ble_eq_true rfl) (by decide +kernel) rfl dX10_init_64 ?_
  refine z_kaload_n X 0 dX10_init_67 rfl rfl (z_ksipush X (v := 512) dX10_init_68 (by decide) (z_knew_int X (N := 512) (by decide +kernel) (by decide) (by decide) (by decide) (by subst hR; exact Nat.le_of_ble_eq_true rfl) (by subst hR; exact Nat.le_of_ble_eq_true rfl) dX10_init_71 (fun q8 => ?_)))
  refine z_kputF X (k0 := 15) (q0 := 0) (ty0 := tyX10) [(h0, .inr (10, [.int 0, .ref q1, .ref q2, .ref q3, .int 0, .ref q4, .ref q5, .ref q6, .int 0, .int 0, .int 0, .int (-1), .int 0, .int 0, .ref q7, .ref q8, .null, .null, .int 0, .null, .null, .null, .null, .null, .null, .null, .null, .null, .null, .null])), (q1, .inl (z_ct g 0, 93, .inl (fun _ => 0))), (q2, .inl (z_ct g 0, 93, .inl (fun _ => 0))), (q3, .inl (z_ct g 0, 1488, .inl (fun _ => 0))), (q4, .inl (z_ct g 0, 186, .inl (fun _ => 0))), (q5, .inl (z_ct g 3, 2, .inl (fun _ => 0))), (q6, .inl (z_ct g 2, 400, .inl (fun _ => 0))), (q7, .inl (z_ct g 0, 9, .inl (fun _ => 0))), (q8, .inl (z_ct g 0, 512, .inl (fun _ => 0)))] hI rfl rfl in_X10_init_X10 tyX10_ok nmX10 (by decide) rfl rfl rfl rfl rfl (Nat.le_of_ble_eq_true rfl) (by decide +kernel) rfl dX10_init_73 ?_
  refine z_kaload_n X 0 dX10_init_76 rfl rfl (z_ksipush X (v := 576) dX10_init_77 (by decide) (z_knew_int X (N := 576) (by decide +kernel) (by decide) (by decide) (by decide) (by subst hR; exact Nat.le_of_ble_eq_true rfl) (by subst hR; exact Nat.le_of_ble_eq_true rfl) dX10_init_80 (fun q9 => ?_)))
  refine z_kputF X (k0 := 16) (q0 := 0) (ty0 := tyX10) [(h0, .inr (10, [.int 0, .ref q1, .ref q2, .ref q3, .int 0, .ref q4, .ref q5, .ref q6, .int 0, .int 0, .int 0, .int (-1), .int 0, .int 0, .ref q7, .ref q8, .ref q9, .null, .int 0, .null, .null, .null, .null, .null, .null, .null, .null, .null, .null, .null])), (q1, .inl (z_ct g 0, 93, .inl (fun _ => 0))), (q2, .inl (z_ct g 0, 93, .inl (fun _ => 0))), (q3, .inl (z_ct g 0, 1488, .inl (fun _ => 0))), (q4, .inl (z_ct g 0, 186, .inl (fun _ => 0))), (q5, .inl (z_ct g 3, 2, .inl (fun _ => 0))), (q6, .inl (z_ct g 2, 400, .inl (fun _ => 0))), (q7, .inl (z_ct g 0, 9, .inl (fun _ => 0))), (q8, .inl (z_ct g 0, 512, .inl (fun _ => 0))), (q9, .inl (z_ct g 0, 576, .inl (fun _ => 0)))] hI rfl rfl in_X10_init_X10 tyX10_ok nmX10 (by decide) rfl rfl rfl rfl rfl (Nat.le_of_ble_eq_true rfl) (by decide +kernel) rfl dX10_init_82 ?_
  refine z_kaload_n X 0 dX10_init_85 rfl rfl (z_kbipush X (v := 64) dX10_init_86 (by decide) (z_knew_int X (N := 64) (by decide +kernel) (by decide) (by decide) (by decide) (by subst hR; exact Nat.le_of_ble_eq_true rfl) (by subst hR; exact Nat.le_of_ble_eq_true rfl) dX10_init_88 (fun q10 => ?_)))
  refine z_kputF X (k0 := 17) (q0 := 0) (ty0 := tyX10) [(h0, .inr (10, [.int 0, .ref q1, .ref q2, .ref q3, .int 0, .ref q4, .ref q5, .ref q6, .int 0, .int 0, .int 0, .int (-1), .int 0, .int 0, .ref q7, .ref q8, .ref q9, .ref q10, .int 0, .null, .null, .null, .null, .null, .null, .null, .null, .null, .null, .null])), (q1, .inl (z_ct g 0, 93, .inl (fun _ => 0))), (q2, .inl (z_ct g 0, 93, .inl (fun _ => 0))), (q3, .inl (z_ct g 0, 1488, .inl (fun _ => 0))), (q4, .inl (z_ct g 0, 186, .inl (fun _ => 0))), (q5, .inl (z_ct g 3, 2, .inl (fun _ => 0))), (q6, .inl (z_ct g 2, 400, .inl (fun _ => 0))), (q7, .inl (z_ct g 0, 9, .inl (fun _ => 0))), (q8, .inl (z_ct g 0, 512, .inl (fun _ => 0))), (q9, .inl (z_ct g 0, 576, .inl (fun _ => 0))), (q10, .inl (z_ct g 0, 64, .inl (fun _ => 0)))] hI rfl rfl in_X10_init_X10 tyX10_ok nmX10 (by decide) rfl rfl rfl rfl rfl (Nat.le_of_ble_eq_true rfl) (by decide +kernel) rfl dX10_init_90 ?_
  refine z_kaload_n X 0 dX10_init_93 rfl rfl (z_kbipush X (v := 10) dX10_init_94 (by decide) (z_knew_int X (N := 10) (by decide +kernel) (by decide) (by decide) (by decide) (by subst hR; exact Nat.le_of_ble_eq_true rfl) (by subst hR; exact Nat.le_of_ble_eq_true rfl) dX10_init_96 (fun q11 => ?_)))
  refine z_kputF X (k0 := 19) (q0 := 0) (ty0 := tyX10) [(h0, .inr (10, [.int 0, .ref q1, .ref q2, .ref q3, .int 0, .ref q4, .ref q5, .ref q6, .int 0, .int 0, .int 0, .int (-1), .int 0, .int 0, .ref q7, .ref q8, .ref q9, .ref q10, .int 0, .ref q11, .null, .null, .null, .null, .null, .null, .null, .null, .null, .null])), (q1, .inl (z_ct g 0, 93, .inl (fun _ => 0))), (q2, .inl (z_ct g 0, 93, .inl (fun _ => 0))), (q3, .inl (z_ct g 0, 1488, .inl (fun _ => 0))), (q4, .inl (z_ct g 0, 186, .inl (fun _ => 0))), (q5, .inl (z_ct g 3, 2, .inl (fun _ => 0))), (q6, .inl (z_ct g 2, 400, .inl (fun _ => 0))), (q7, .inl (z_ct g 0, 9, .inl (fun _ => 0))), (q8, .inl (z_ct g 0, 512, .inl (fun _ => 0))), (q9, .inl (z_ct g 0, 576, .inl (fun _ => 0))), (q10, .inl (z_ct g 0, 64, .inl (fun _ => 0))), (q11, .inl (z_ct g 0, 10, .inl (fun _ => 0)))] hI rfl rfl in_X10_init_X10 tyX10_ok nmX10 (by decide) rfl rfl rfl rfl rfl (Nat.le_of_ble_eq_true rfl) (by decide +kernel) rfl dX10_init_98 ?_
  refine z_kaload_n X 0 dX10_init_101 rfl rfl (z_kbipush X (v := 10) dX10_init_102 (by decide) (z_knew_int X (N := 10) (by decide +kernel) (by decide) (by decide) (by decide) (by subst hR; exact Nat.le_of_ble_eq_true rfl) (by subst hR; exact Nat.le_of_ble_eq_true rfl) dX10_init_104 (fun q12 => ?_)))
  refine z_kputF X (k0 := 20) (q0 := 0) (ty0 := tyX10) [(h0, .inr (10, [.int 0, .ref q1, .ref q2, .ref q3, .int 0, .ref q4, .ref q5, .ref q6, .int 0, .int 0, .int 0, .int (-1), .int 0, .int 0, .ref q7, .ref q8, .ref q9, .ref q10, .int 0, .ref q11, .ref q12, .null, .null, .null, .null, .null, .null, .null, .null, .null])), (q1, .inl (z_ct g 0, 93, .inl (fun _ => 0))), (q2, .inl (z_ct g 0, 93, .inl (fun _ => 0))), (q3, .inl (z_ct g 0, 1488, .inl (fun _ => 0))), (q4, .inl (z_ct g 0, 186, .inl (fun _ => 0))), (q5, .inl (z_ct g 3, 2, .inl (fun _ => 0))), (q6, .inl (z_ct g 2, 400, .inl (fun _ => 0))), (q7, .inl (z_ct g 0, 9, .inl (fun _ => 0))), (q8, .inl (z_ct g 0, 512, .inl (fun _ => 0))), (q9, .inl (z_ct g 0, 576, .inl (fun _ => 0))), (q10, .inl (z_ct g 0, 64, .inl (fun _ => 0))), (q11, .inl (z_ct g 0, 10, .inl (fun _ => 0))), (q12, .inl (z_ct g 0, 10, .inl (fun _ => 0)))] hI rfl rfl in_X10_init_X10 tyX10_ok nmX10 (by decide) rfl rfl rfl rfl rfl (Nat.le_of_ble_eq_true rfl) (by decide +kernel) rfl dX10_init_106 ?_
  refine z_kaload_n X 0 dX10_init_109 rfl rfl (z_kbipush X (v := 9) dX10_init_110 (by decide) (z_knew_int X (N := 9) (by decide +kernel) (by decide) (by decide) (by decide) (by subst hR; exact Nat.le_of_ble_eq_true rfl) (by subst hR; exact Nat.le_of_ble_eq_true rfl) dX10_init_112 (fun q13 => ?_)))
  refine z_kputF X (k0 := 21) (q0 := 0) (ty0 := tyX10) [(h0, .inr (10, [.int 0, .ref q1, .ref q2, .ref q3, .int 0, .ref q4, .ref q5, .ref q6, .int 0, .int 0, .int 0, .int (-1), .int 0, .int 0, .ref q7, .ref q8, .ref q9, .ref q10, .int 0, .ref q11, .ref q12, .ref q13, .null, .null, .null, .null, .null, .null, .null, .null])), (q1, .inl (z_ct g 0, 93, .inl (fun _ => 0))), (q2, .inl (z_ct g 0, 93, .inl (fun _ => 0))), (q3, .inl (z_ct g 0, 1488, .inl (fun _ => 0))), (q4, .inl (z_ct g 0, 186, .inl (fun _ => 0))), (q5, .inl (z_ct g 3, 2, .inl (fun _ => 0))), (q6, .inl (z_ct g 2, 400, .inl (fun _ => 0))), (q7, .inl (z_ct g 0, 9, .inl (fun _ => 0))), (q8, .inl (z_ct g 0, 512, .inl (fun _ => 0))), (q9, .inl (z_ct g 0, 576, .inl (fun _ => 0))), (q10, .inl (z_ct g 0, 64, .inl (fun _ => 0))), (q11, .inl (z_ct g 0, 10, .inl (fun _ => 0))), (q12, .inl (z_ct g 0, 10, .inl (fun _ => 0))), (q13, .inl (z_ct g 0, 9, .inl (fun _ => 0)))] hI rfl rfl in_X10_init_X10 tyX10_ok nmX10 (by decide) rfl rfl rfl rfl rfl (Nat.le_of_ble_eq_true rfl) (by decide +kernel) rfl dX10_init_114 ?_
  refine z_kaload_n X 0 dX10_init_117 rfl rfl (z_kbipush X (v := 9) dX10_init_118 (by decide) (z_knew_int X (N := 9) (by decide +kernel) (by decide) (by decide) (by decide) (by subst hR; exact Nat.le_of_ble_eq_true rfl) (by subst hR; exact Nat.le_of_ble_eq_true rfl) dX10_init_120 (fun q14 => ?_)))
  refine z_kputF X (k0 := 22) (q0 := 0) (ty0 := tyX10) [(h0, .inr (10, [.int 0, .ref q1, .ref q2, .ref q3, .int 0, .ref q4, .ref q5, .ref q6, .int 0, .int 0, .int 0, .int (-1), .int 0, .int 0, .ref q7, .ref q8, .ref q9, .ref q10, .int 0, .ref q11, .ref q12, .ref q13, .ref q14, .null, .null, .null, .null, .null, .null, .null])), (q1, .inl (z_ct g 0, 93, .inl (fun _ => 0))), (q2, .inl (z_ct g 0, 93, .inl (fun _ => 0))), (q3, .inl (z_ct g 0, 1488, .inl (fun _ => 0))), (q4, .inl (z_ct g 0, 186, .inl (fun _ => 0))), (q5, .inl (z_ct g 3, 2, .inl (fun _ => 0))), (q6, .inl (z_ct g 2, 400, .inl (fun _ => 0))), (q7, .inl (z_ct g 0, 9, .inl (fun _ => 0))), (q8, .inl (z_ct g 0, 512, .inl (fun _ => 0))), (q9, .inl (z_ct g 0, 576, .inl (fun _ => 0))), (q10, .inl (z_ct g 0, 64, .inl (fun _ => 0))), (q11, .inl (z_ct g 0, 10, .inl (fun _ => 0))), (q12, .inl (z_ct g 0, 10, .inl (fun _ => 0))), (q13, .inl (z_ct g 0, 9, .inl (fun _ => 0))), (q14, .inl (z_ct g 0, 9, .inl (fun _ => 0)))] hI rfl rfl in_X10_init_X10 tyX10_ok nmX10 (by decide) rfl rfl rfl rfl rfl (Nat.le_of_ble_eq_true rfl) (by decide +kernel) rfl dX10_init_122 ?_
  refine z_kaload_n X 0 dX10_init_125 rfl rfl (z_kbipush X (v := 9) dX10_init_126 (by decide) (z_knew_long X (N := 9) (by decide +kernel) (by decide) (by decide) (by decide) (by subst hR; exact Nat.le_of_ble_eq_true rfl) (by subst hR; exact Nat.le_of_ble_eq_true rfl) dX10_init_128 (fun q15 => ?_)))
  refine z_kputF X (k0 := 23) (q0 := 0) (ty0 := tyX10) [(h0, .inr (10, [.int 0, .ref q1, .ref q2, .ref q3, .int 0, .ref q4, .ref q5, .ref q6, .int 0, .int 0, .int 0, .int (-1), .int 0, .int 0, .ref q7, .ref q8, .ref q9, .ref q10, .int 0, .ref q11, .ref q12, .ref q13, .ref q14, .ref q15, .null, .null, .null, .null, .null, .null])), (q1, .inl (z_ct g 0, 93, .inl (fun _ => 0))), (q2, .inl (z_ct g 0, 93, .inl (fun _ => 0))), (q3, .inl (z_ct g 0, 1488, .inl (fun _ => 0))), (q4, .inl (z_ct g 0, 186, .inl (fun _ => 0))), (q5, .inl (z_ct g 3, 2, .inl (fun _ => 0))), (q6, .inl (z_ct g 2, 400, .inl (fun _ => 0))), (q7, .inl (z_ct g 0, 9, .inl (fun _ => 0))), (q8, .inl (z_ct g 0, 512, .inl (fun _ => 0))), (q9, .inl (z_ct g 0, 576, .inl (fun _ => 0))), (q10, .inl (z_ct g 0, 64, .inl (fun _ => 0))), (q11, .inl (z_ct g 0, 10, .inl (fun _ => 0))), (q12, .inl (z_ct g 0, 10, .inl (fun _ => 0))), (q13, .inl (z_ct g 0, 9, .inl (fun _ => 0))), (q14, .inl (z_ct g 0, 9, .inl (fun _ => 0))), (q15, .inl (z_ct g 4, 9, .inr (.inl (fun _ => 0))))] hI rfl rfl in_X10_init_X10 tyX10_ok nmX10 (by decide) rfl rfl rfl rfl rfl (Nat.le_of_ble_eq_true rfl) (by decide +kernel) rfl dX10_init_130 ?_
  refine z_kaload_n X 0 dX10_init_133 rfl rfl (z_kbipush X (v := 9) dX10_init_134 (by decide) (z_knew_long X (N := 9) (by decide +kernel) (by decide) (by decide) (by decide) (by subst hR; exact Nat.le_of_ble_eq_true rfl) (by subst hR; exact Nat.le_of_ble_eq_true rfl) dX10_init_136 (fun q16 => ?_)))
  refine z_kputF X (k0 := 24) (q0 := 0) (ty0 := tyX10) [(h0, .inr (10, [.int 0, .ref q1, .ref q2, .ref q3, .int 0, .ref q4, .ref q5, .ref q6, .int 0, .int 0, .int 0, .int (-1), .int 0, .int 0, .ref q7, .ref q8, .ref q9, .ref q10, .int 0, .ref q11, .ref q12, .ref q13, .ref q14, .ref q15, .ref q16, .null, .null, .null, .null, .null])), (q1, .inl (z_ct g 0, 93, .inl (fun _ => 0))), (q2, .inl (z_ct g 0, 93, .inl (fun _ => 0))), (q3, .inl (z_ct g 0, 1488, .inl (fun _ => 0))), (q4, .inl (z_ct g 0, 186, .inl (fun _ => 0))), (q5, .inl (z_ct g 3, 2, .inl (fun _ => 0))), (q6, .inl (z_ct g 2, 400, .inl (fun _ => 0))), (q7, .inl (z_ct g 0, 9, .inl (fun _ => 0))), (q8, .inl (z_ct g 0, 512, .inl (fun _ => 0))), (q9, .inl (z_ct g 0, 576, .inl (fun _ => 0))), (q10, .inl (z_ct g 0, 64, .inl (fun _ => 0))), (q11, .inl (z_ct g 0, 10, .inl (fun _ => 0))), (q12, .inl (z_ct g 0, 10, .inl (fun _ => 0))), (q13, .inl (z_ct g 0, 9, .inl (fun _ => 0))), (q14, .inl (z_ct g 0, 9, .inl (fun _ => 0))), (q15, .inl (z_ct g 4, 9, .inr (.inl (fun _ => 0)))), (q16, .inl (z_ct g 4, 9, .inr (.inl (fun _ => 0))))] hI rfl rfl in_X10_init_X10 tyX10_ok nmX10 (by decide) rfl rfl rfl rfl rfl (Nat.le_of_ble_eq_true rfl) (by decide +kernel) rfl dX10_init_138 ?_
  refine z_kaload_n X 0 dX10_init_141 rfl rfl (z_ksipush X (v := 128) dX10_init_142 (by decide) (z_knew_int X (N := 128) (by decide +kernel) (by decide) (by decide) (by decide) (by subst hR; exact Nat.le_of_ble_eq_true rfl) (by subst hR; exact Nat.le_of_ble_eq_true rfl) dX10_init_145 (fun q17 => ?_)))
  refine z_kputF X (k0 := 25) (q0 := 0) (ty0 := tyX10) [(h0, .inr (10, [.int 0, .ref q1, .ref q2, .ref q3, .int 0, .ref q4, .ref q5, .ref q6, .int 0, .int 0, .int 0, .int (-1), .int 0, .int 0, .ref q7, .ref q8, .ref q9, .ref q10, .int 0, .ref q11, .ref q12, .ref q13, .ref q14, .ref q15, .ref q16, .ref q17, .null, .null, .null, .null])), (q1, .inl (z_ct g 0, 93, .inl (fun _ => 0))), (q2, .inl (z_ct g 0, 93, .inl (fun _ => 0))), (q3, .inl (z_ct g 0, 1488, .inl (fun _ => 0))), (q4, .inl (z_ct g 0, 186, .inl (fun _ => 0))), (q5, .inl (z_ct g 3, 2, .inl (fun _ => 0))), (q6, .inl (z_ct g 2, 400, .inl (fun _ => 0))), (q7, .inl (z_ct g 0, 9, .inl (fun _ => 0))), (q8, .inl (z_ct g 0, 512, .inl (fun _ => 0))), (q9, .inl (z_ct g 0, 576, .inl (fun _ => 0))), (q10, .inl (z_ct g 0, 64, .inl (fun _ => 0))), (q11, .inl (z_ct g 0, 10, .inl (fun _ => 0))), (q12, .inl (z_ct g 0, 10, .inl (fun _ => 0))), (q13, .inl (z_ct g 0, 9, .inl (fun _ => 0))), (q14, .inl (z_ct g 0, 9, .inl (fun _ => 0))), (q15, .inl (z_ct g 4, 9, .inr (.inl (fun _ => 0)))), (q16, .inl (z_ct g 4, 9, .inr (.inl (fun _ => 0)))), (q17, .inl (z_ct g 0, 128, .inl (fun _ => 0)))] hI rfl rfl in_X10_init_X10 tyX10_ok nmX10 (by decide) rfl rfl rfl rfl rfl (Nat.le_of_ble_eq_true rfl) (by decide +kernel) rfl dX10_init_147 ?_
  refine z_kaload_n X 0 dX10_init_150 rfl rfl (z_ksipush X (v := 128) dX10_init_151 (by decide) (z_knew_int X (N := 128) (by decide +kernel) (by decide) (by decide) (by decide) (by subst hR; exact Nat.le_of_ble_eq_true rfl) (by subst hR; exact Nat.le_of_ble_eq_true rfl) dX10_init_154 (fun q18 => ?_)))
  refine z_kputF X (k0 := 26) (q0 := 0) (ty0 := tyX10) [(h0, .inr (10, [.int 0, .ref q1, .ref q2, .ref q3, .int 0, .ref q4, .ref q5, .ref q6, .int 0, .int 0, .int 0, .int (-1), .int 0, .int 0, .ref q7, .ref q8, .ref q9, .ref q10, .int 0, .ref q11, .ref q12, .ref q13, .ref q14, .ref q15, .ref q16, .ref q17, .ref q18, .null, .null, .null])), (q1, .inl (z_ct g 0, 93, .inl (fun _ => 0))), (q2, .inl (z_ct g 0, 93, .inl (fun _ => 0))), (q3, .inl (z_ct g 0, 1488, .inl (fun _ => 0))), (q4, .inl (z_ct g 0, 186, .inl (fun _ => 0))), (q5, .inl (z_ct g 3, 2, .inl (fun _ => 0))), (q6, .inl (z_ct g 2, 400, .inl (fun _ => 0))), (q7, .inl (z_ct g 0, 9, .inl (fun _ => 0))), (q8, .inl (z_ct g 0, 512, .inl (fun _ => 0))), (q9, .inl (z_ct g 0, 576, .inl (fun _ => 0))), (q10, .inl (z_ct g 0, 64, .inl (fun _ => 0))), (q11, .inl (z_ct g 0, 10, .inl (fun _ => 0))), (q12, .inl (z_ct g 0, 10, .inl (fun _ => 0))), (q13, .inl (z_ct g 0, 9, .inl (fun _ => 0))), (q14, .inl (z_ct g 0, 9, .inl (fun _ => 0))), (q15, .inl (z_ct g 4, 9, .inr (.inl (fun _ => 0)))), (q16, .inl (z_ct g 4, 9, .inr (.inl (fun _ => 0)))), (q17, .inl (z_ct g 0, 128, .inl (fun _ => 0))), (q18, .inl (z_ct g 0, 128, .inl (fun _ => 0)))] hI rfl rfl in_X10_init_X10 tyX10_ok nmX10 (by decide) rfl rfl rfl rfl rfl (Nat.le_of_ble_eq_true rfl) (by decide +kernel) rfl dX10_init_156 ?_
  refine z_kaload_n X 0 dX10_init_159 rfl rfl (z_ksipush X (v := 1600) dX10_init_160 (by decide) (z_knew_int X (N := 1600) (by decide +kernel) (by decide) (by decide) (by decide) (by subst hR; exact Nat.le_of_ble_eq_true rfl) (by subst hR; exact Nat.le_of_ble_eq_true rfl) dX10_init_163 (fun q19 => ?_)))
  refine z_kputF X (k0 := 27) (q0 := 0) (ty0 := tyX10) [(h0, .inr (10, [.int 0, .ref q1, .ref q2, .ref q3, .int 0, .ref q4, .ref q5, .ref q6, .int 0, .int 0, .int 0, .int (-1), .int 0, .int 0, .ref q7, .ref q8, .ref q9, .ref q10, .int 0, .ref q11, .ref q12, .ref q13, .ref q14, .ref q15, .ref q16, .ref q17, .ref q18, .ref q19, .null, .null])), (q1, .inl (z_ct g 0, 93, .inl (fun _ => 0))), (q2, .inl (z_ct g 0, 93, .inl (fun _ => 0))), (q3, .inl (z_ct g 0, 1488, .inl (fun _ => 0))), (q4, .inl (z_ct g 0, 186, .inl (fun _ => 0))), (q5, .inl (z_ct g 3, 2, .inl (fun _ => 0))), (q6, .inl (z_ct g 2, 400, .inl (fun _ => 0))), (q7, .inl (z_ct g 0, 9, .inl (fun _ => 0))), (q8, .inl (z_ct g 0, 512, .inl (fun _ => 0))), (q9, .inl (z_ct g 0, 576, .inl (fun _ => 0))), (q10, .inl (z_ct g 0, 64, .inl (fun _ => 0))), (q11, .inl (z_ct g 0, 10, .inl (fun _ => 0))), (q12, .inl (z_ct g 0, 10, .inl (fun _ => 0))), (q13, .inl (z_ct g 0, 9, .inl (fun _ => 0))), (q14, .inl (z_ct g 0, 9, .inl (fun _ => 0))), (q15, .inl (z_ct g 4, 9, .inr (.inl (fun _ => 0)))), (q16, .inl (z_ct g 4, 9, .inr (.inl (fun _ => 0)))), (q17, .inl (z_ct g 0, 128, .inl (fun _ => 0))), (q18, .inl (z_ct g 0, 128, .inl (fun _ => 0))), (q19, .inl (z_ct g 0, 1600, .inl (fun _ => 0)))] hI rfl rfl in_X10_init_X10 tyX10_ok nmX10 (by decide) rfl rfl rfl rfl rfl (Nat.le_of_ble_eq_true rfl) (by decide +kernel) rfl dX10_init_165 ?_
  refine z_kaload_n X 0 dX10_init_168 rfl rfl (z_kbipush X (v := 10) dX10_init_169 (by decide) (z_knew_int X (N := 10) (by decide +kernel) (by decide) (by decide) (by decide) (by subst hR; exact Nat.le_of_ble_eq_true rfl) (by subst hR; exact Nat.le_of_ble_eq_true rfl) dX10_init_171 (fun q20 => ?_)))
  refine z_kputF X (k0 := 28) (q0 := 0) (ty0 := tyX10) [(h0, .inr (10, [.int 0, .ref q1, .ref q2, .ref q3, .int 0, .ref q4, .ref q5, .ref q6, .int 0, .int 0, .int 0, .int (-1), .int 0, .int 0, .ref q7, .ref q8, .ref q9, .ref q10, .int 0, .ref q11, .ref q12, .ref q13, .ref q14, .ref q15, .ref q16, .ref q17, .ref q18, .ref q19, .ref q20, .null])), (q1, .inl (z_ct g 0, 93, .inl (fun _ => 0))), (q2, .inl (z_ct g 0, 93, .inl (fun _ => 0))), (q3, .inl (z_ct g 0, 1488, .inl (fun _ => 0))), (q4, .inl (z_ct g 0, 186, .inl (fun _ => 0))), (q5, .inl (z_ct g 3, 2, .inl (fun _ => 0))), (q6, .inl (z_ct g 2, 400, .inl (fun _ => 0))), (q7, .inl (z_ct g 0, 9, .inl (fun _ => 0))), (q8, .inl (z_ct g 0, 512, .inl (fun _ => 0))), (q9, .inl (z_ct g 0, 576, .inl (fun _ => 0))), (q10, .inl (z_ct g 0, 64, .inl (fun _ => 0))), (q11, .inl (z_ct g 0, 10, .inl (fun _ => 0))), (q12, .inl (z_ct g 0, 10, .inl (fun _ => 0))), (q13, .inl (z_ct g 0, 9, .inl (fun _ => 0))), (q14, .inl (z_ct g 0, 9, .inl (fun _ => 0))), (q15, .inl (z_ct g 4, 9, .inr (.inl (fun _ => 0)))), (q16, .inl (z_ct g 4, 9, .inr (.inl (fun _ => 0)))), (q17, .inl (z_ct g 0, 128, .inl (fun _ => 0))), (q18, .inl (z_ct g 0, 128, .inl (fun _ => 0))), (q19, .inl (z_ct g 0, 1600, .inl (fun _ => 0))), (q20, .inl (z_ct g 0, 10, .inl (fun _ => 0)))] hI rfl rfl in_X10_init_X10 tyX10_ok nmX10 (by decide) rfl rfl rfl rfl rfl (Nat.le_of_ble_eq_true rfl) (by decide +kernel) rfl dX10_init_173 ?_
  refine z_kaload_n X 0 dX10_init_176 rfl rfl (z_kbipush X (v := 9) dX10_init_177 (by decide) (z_knew_int X (N := 9) (by decide +kernel) (by decide) (by decide) (by decide) (by subst hR; exact Nat.le_of_ble_eq_true rfl) (by subst hR; exact Nat.le_of_ble_eq_true rfl) dX10_init_179 (fun q21 => ?_)))
  refine z_kputF X (k0 := 29) (q0 := 0) (ty0 := tyX10) [(h0, .inr (10, [.int 0, .ref q1, .ref q2, .ref q3, .int 0, .ref q4, .ref q5, .ref q6, .int 0, .int 0, .int 0, .int (-1), .int 0, .int 0, .ref q7, .ref q8, .ref q9, .ref q10, .int 0, .ref q11, .ref q12, .ref q13, .ref q14, .ref q15, .ref q16, .ref q17, .ref q18, .ref q19, .ref q20, .ref q21])), (q1, .inl (z_ct g 0, 93, .inl (fun _ => 0))), (q2, .inl (z_ct g 0, 93, .inl (fun _ => 0))), (q3, .inl (z_ct g 0, 1488, .inl (fun _ => 0))), (q4, .inl (z_ct g 0, 186, .inl (fun _ => 0))), (q5, .inl (z_ct g 3, 2, .inl (fun _ => 0))), (q6, .inl (z_ct g 2, 400, .inl (fun _ => 0))), (q7, .inl (z_ct g 0, 9, .inl (fun _ => 0))), (q8, .inl (z_ct g 0, 512, .inl (fun _ => 0))), (q9, .inl (z_ct g 0, 576, .inl (fun _ => 0))), (q10, .inl (z_ct g 0, 64, .inl (fun _ => 0))), (q11, .inl (z_ct g 0, 10, .inl (fun _ => 0))), (q12, .inl (z_ct g 0, 10, .inl (fun _ => 0))), (q13, .inl (z_ct g 0, 9, .inl (fun _ => 0))), (q14, .inl (z_ct g 0, 9, .inl (fun _ => 0))), (q15, .inl (z_ct g 4, 9, .inr (.inl (fun _ => 0)))), (q16, .inl (z_ct g 4, 9, .inr (.inl (fun _ => 0)))), (q17, .inl (z_ct g 0, 128, .inl (fun _ => 0))), (q18, .inl (z_ct g 0, 128, .inl (fun _ => 0))), (q19, .inl (z_ct g 0, 1600, .inl (fun _ => 0))), (q20, .inl (z_ct g 0, 10, .inl (fun _ => 0))), (q21, .inl (z_ct g 0, 9, .inl (fun _ => 0)))] hI rfl rfl in_X10_init_X10 tyX10_ok nmX10 (by decide) rfl rfl rfl rfl rfl (Nat.le_of_ble_eq_true rfl) (by decide +kernel) rfl dX10_init_181 ?_
  exact z_I.ret X (z_al [h0, q1, q2, q3, q4, q5, q6, q7, q8, q9, q10, q11, q12, q13, q14, q15, q16, q17, q18, q19, q20, q21]) rfl rfl (Nat.le_of_ble_eq_true rfl) (Nat.le_of_ble_eq_true rfl) dX10_init_184
theorem in_X7_init_X7 : ∀ w ∈ u_ws RX7 TX7 11, w ∈ wsX7_init := by decide +kernel
theorem in_X7_init_X6 : ∀ w ∈ u_ws RX6 TX6 6, w ∈ wsX7_init := by decide +kernel
theorem in_X5_init_X5 : ∀ w ∈ u_ws RX5 TX5 3, w ∈ wsX5_init := by decide +kernel
theorem in_X5_init_X6 : ∀ w ∈ u_ws RX6 TX6 6, w ∈ wsX5_init := by decide +kernel
theorem in_X2_init_X2 : ∀ w ∈ u_ws RX2 TX2 3, w ∈ wsX2_init := by decide +kernel
theorem in_X2_init_X1 : ∀ w ∈ u_ws RX1 TX1 4, w ∈ wsX2_init := by decide +kernel
theorem in_X9_init_X9 : ∀ w ∈ u_ws RX9 TX9 9, w ∈ wsX9_init := fun _ h => List.mem_cons_of_mem _ (List.mem_append_left _ (List.mem_append_left _ (List.mem_append_left _ (List.mem_append_left _ (List.mem_append_left _ (List.mem_append_left _ (List.mem_append_left _ (List.mem_append_left _ (List.mem_append_right _ h)))))))))
theorem in_X9_init_X7 : ∀ w ∈ u_ws RX7 TX7 11, w ∈ wsX9_init := fun _ h => List.mem_cons_of_mem _ (List.mem_append_left _ (List.mem_append_left _ (List.mem_append_left _ (List.mem_append_left _ (List.mem_append_left _ (List.mem_append_left _ (List.mem_append_left _ (List.mem_append_left _ (List.mem_append_left _ (List.mem_append_right _ h))))))))))
theorem in_X9_init_X6 : ∀ w ∈ u_ws RX6 TX6 6, w ∈ wsX9_init := fun _ h => List.mem_cons_of_mem _ (List.mem_append_left _ (List.mem_append_left _ (List.mem_append_left _ (List.mem_append_left _ (List.mem_append_left _ (List.mem_append_left _ (List.mem_append_left _ (List.mem_append_right _ h))))))))
theorem in_X9_init_X5 : ∀ w ∈ u_ws RX5 TX5 3, w ∈ wsX9_init := fun _ h => List.mem_cons_of_mem _ (List.mem_append_left _ (List.mem_append_left _ (List.mem_append_left _ (List.mem_append_left _ (List.mem_append_left _ (List.mem_append_left _ (List.mem_append_right _ h)))))))
theorem in_X9_init_X2 : ∀ w ∈ u_ws RX2 TX2 3, w ∈ wsX9_init := fun _ h => List.mem_cons_of_mem _ (List.mem_append_left _ (List.mem_append_left _ (List.mem_append_left _ (List.mem_append_left _ (List.mem_append_left _ (List.mem_append_right _ h))))))
theorem in_X9_init_X8 : ∀ w ∈ u_ws RX8 TX8 5, w ∈ wsX9_init := fun _ h => List.mem_cons_of_mem _ (List.mem_append_left _ (List.mem_append_left _ (List.mem_append_left _ (List.mem_append_left _ (List.mem_append_right _ h)))))
theorem in_X9_init_X0 : ∀ w ∈ u_ws RX0 TX0 2, w ∈ wsX9_init := fun _ h => List.mem_cons_of_mem _ (List.mem_append_left _ (List.mem_append_left _ (List.mem_append_left _ (List.mem_append_right _ h))))
theorem in_X9_init_X3 : ∀ w ∈ u_ws RX3 TX3 3, w ∈ wsX9_init := fun _ h => List.mem_cons_of_mem _ (List.mem_append_left _ (List.mem_append_left _ (List.mem_append_right _ h)))
theorem in_X9_init_X4 : ∀ w ∈ u_ws RX4 TX4 3, w ∈ wsX9_init := fun _ h => List.mem_cons_of_mem _ (List.mem_append_left _ (List.mem_append_right _ h))
theorem hk_X6_init : yX6_init.cls ≠ "java/lang/invoke/MethodHandle" ∧ yX6_init.cls ≠ "java/lang/invoke/VarHandle" ∧ (parseMethodDescriptor yX6_init.desc).map (fun d => d.parameters.length) = some 0 := by decide +kernel
theorem hk_X1_init : yX1_init.cls ≠ "java/lang/invoke/MethodHandle" ∧ yX1_init.cls ≠ "java/lang/invoke/VarHandle" ∧ (parseMethodDescriptor yX1_init.desc).map (fun d => d.parameters.length) = some 0 := by decide +kernel
theorem hk_X8_init : yX8_init.cls ≠ "java/lang/invoke/MethodHandle" ∧ yX8_init.cls ≠ "java/lang/invoke/VarHandle" ∧ (parseMethodDescriptor yX8_init.desc).map (fun d => d.parameters.length) = some 0 := by decide +kernel
theorem hk_X0_init : yX0_init.cls ≠ "java/lang/invoke/MethodHandle" ∧ yX0_init.cls ≠ "java/lang/invoke/VarHandle" ∧ (parseMethodDescriptor yX0_init.desc).map (fun d => d.parameters.length) = some 0 := by decide +kernel
theorem hk_X3_init : yX3_init.cls ≠ "java/lang/invoke/MethodHandle" ∧ yX3_init.cls ≠ "java/lang/invoke/VarHandle" ∧ (parseMethodDescriptor yX3_init.desc).map (fun d => d.parameters.length) = some 0 := by decide +kernel
theorem hk_X4_init : yX4_init.cls ≠ "java/lang/invoke/MethodHandle" ∧ yX4_init.cls ≠ "java/lang/invoke/VarHandle" ∧ (parseMethodDescriptor yX4_init.desc).map (fun d => d.parameters.length) = some 0 := by decide +kernel
theorem hk_X7_init : yX7_init.cls ≠ "java/lang/invoke/MethodHandle" ∧ yX7_init.cls ≠ "java/lang/invoke/VarHandle" ∧ (parseMethodDescriptor yX7_init.desc).map (fun d => d.parameters.length) = some 0 := by decide +kernel
theorem hk_X5_init : yX5_init.cls ≠ "java/lang/invoke/MethodHandle" ∧ yX5_init.cls ≠ "java/lang/invoke/VarHandle" ∧ (parseMethodDescriptor yX5_init.desc).map (fun d => d.parameters.length) = some 0 := by decide +kernel
theorem hk_X2_init : yX2_init.cls ≠ "java/lang/invoke/MethodHandle" ∧ yX2_init.cls ≠ "java/lang/invoke/VarHandle" ∧ (parseMethodDescriptor yX2_init.desc).map (fun d => d.parameters.length) = some 0 := by decide +kernel
theorem hk_X9_init : yX9_init.cls ≠ "java/lang/invoke/MethodHandle" ∧ yX9_init.cls ≠ "java/lang/invoke/VarHandle" ∧ (parseMethodDescriptor yX9_init.desc).map (fun d => d.parameters.length) = some 0 := by decide +kernel
theorem hk_X10_init : yX10_init.cls ≠ "java/lang/invoke/MethodHandle" ∧ yX10_init.cls ≠ "java/lang/invoke/VarHandle" ∧ (parseMethodDescriptor yX10_init.desc).map (fun d => d.parameters.length) = some 0 := by decide +kernel
theorem df_X0 : ∀ j, j < 2 → defaultValue (tyX0 j) = vp_V [.null, .null] j := by
  intro j hj
  match j, hj with
  | 0, _ => rfl
  | 1, _ => rfl
  | j + 2, h => omega
theorem df_X1 : ∀ j, j < 4 → defaultValue (tyX1 j) = vp_V [.int 0, .int 0, .null, .null] j := by
  intro j hj
  match j, hj with
  | 0, _ => rfl
  | 1, _ => rfl
  | 2, _ => rfl
  | 3, _ => rfl
  | j + 4, h => omega
theorem df_X2 : ∀ j, j < 3 → defaultValue (tyX2 j) = vp_V [.int 0, .null, .null] j := by
  intro j hj
  match j, hj with
  | 0, _ => rfl
  | 1, _ => rfl
  | 2, _ => rfl
  | j + 3, h => omega
theorem df_X3 : ∀ j, j < 3 → defaultValue (tyX3 j) = vp_V [.null, .null, .null] j := by
  intro j hj
  match j, hj with
  | 0, _ => rfl
  | 1, _ => rfl
  | 2, _ => rfl
  | j + 3, h => omega
theorem df_X4 : ∀ j, j < 3 → defaultValue (tyX4 j) = vp_V [.null, .null, .int 0] j := by
  intro j hj
  match j, hj with
  | 0, _ => rfl
  | 1, _ => rfl
  | 2, _ => rfl
  | j + 3, h => omega
theorem df_X5 : ∀ j, j < 3 → defaultValue (tyX5 j) = vp_V [.null, .int 0, .int 0] j := by
  intro j hj
  match j, hj with
  | 0, _ => rfl
  | 1, _ => rfl
  | 2, _ => rfl
  | j + 3, h => omega
theorem df_X6 : ∀ j, j < 6 → defaultValue (tyX6 j) = vp_V [.int 0, .int 0, .int 0, .null, .null, .null] j := by
  intro j hj
  match j, hj with
  | 0, _ => rfl
  | 1, _ => rfl
  | 2, _ => rfl
  | 3, _ => rfl
  | 4, _ => rfl
  | 5, _ => rfl
  | j + 6, h => omega
theorem df_X7 : ∀ j, j < 11 → defaultValue (tyX7 j) = vp_V [.null, .int 0, .null, .int 0, .int 0, .int 0, .int 0, .int 0, .int 0, .int 0, .int 0] j := by
  intro j hj
  match j, hj with
  | 0, _ => rfl
  | 1, _ => rfl
  | 2, _ => rfl
  | 3, _ => rfl
  | 4, _ => rfl
  | 5, _ => rfl
  | 6, _ => rfl
  | 7, _ => rfl
  | 8, _ => rfl
  | 9, _ => rfl
  | 10, _ => rfl
  | j + 11, h => omega
theorem df_X8 : ∀ j, j < 5 → defaultValue (tyX8 j) = vp_V [.null, .null, .null, .null, .null] j := by
  intro j hj
  match j, hj with
  | 0, _ => rfl
  | 1, _ => rfl
  | 2, _ => rfl
  | 3, _ => rfl
  | 4, _ => rfl
  | j + 5, h => omega
theorem df_X9 : ∀ j, j < 9 → defaultValue (tyX9 j) = vp_V [.null, .null, .null, .null, .null, .null, .null, .null, .null] j := by
  intro j hj
  match j, hj with
  | 0, _ => rfl
  | 1, _ => rfl
  | 2, _ => rfl
  | 3, _ => rfl
  | 4, _ => rfl
  | 5, _ => rfl
  | 6, _ => rfl
  | 7, _ => rfl
  | 8, _ => rfl
  | j + 9, h => omega
theorem df_X10 : ∀ j, j < 30 → defaultValue (tyX10 j) = vp_V [.int 0, .null, .null, .null, .int 0, .null, .null, .null, .int 0, .int 0, .int 0, .int 0, .int 0, .int 0, .null, .null, .null, .null, .int 0, .null, .null, .null, .null, .null, .null, .null, .null, .null, .null, .null] j := by
  intro j hj
  match j, hj with
  | 0, _ => rfl
  | 1, _ => rfl
  | 2, _ => rfl
  | 3, _ => rfl
  | 4, _ => rfl
  | 5, _ => rfl
  | 6, _ => rfl
  | 7, _ => rfl
  | 8, _ => rfl
  | 9, _ => rfl
  | 10, _ => rfl
  | 11, _ => rfl
  | 12, _ => rfl
  | 13, _ => rfl
  | 14, _ => rfl
  | 15, _ => rfl
  | 16, _ => rfl
  | 17, _ => rfl
  | 18, _ => rfl
  | 19, _ => rfl
  | 20, _ => rfl
  | 21, _ => rfl
  | 22, _ => rfl
  | 23, _ => rfl
  | 24, _ => rfl
  | 25, _ => rfl
  | 26, _ => rfl
  | 27, _ => rfl
  | 28, _ => rfl
  | 29, _ => rfl
  | j + 30, h => omega
def z_oRd (g : z_G) (ad : Nat → Nat) : va_W := [(ad 0, .inr (7, [.ref (ad 1), .int 0, .ref (ad 2), .int 0, .int (-1), .int 0, .int 0, .int 0, .int 0, .int 0, .int 0])), (ad 1, .inl (z_ct g 1, 400, .inl (fun _ => 0)))] ++ z_oP g (fun i => ad (2 + i))
set_option maxRecDepth 20000 in
set_option maxHeartbeats 4000000 in
theorem k_X7_init (l : Launch) (g : z_G) : z_I l g yX7_init wsX7_init 2 5 505 7 [.null, .int 0, .null, .int 0, .int 0, .int 0, .int 0, .int 0, .int 0, .int 0, .int 0] (z_oRd g) := by
  refine z_I.mk (cc := cX7_init) (nL := 1) rfl (by decide) (by decide) rfl (fun p e R s m args below meth c h0 sz hR hI X => ?_)
  refine z_kaload_n X 0 dX7_init_0 rfl rfl (z_kobj X (by decide +kernel) (by decide +kernel) (by decide +kernel) (by subst hR; exact Nat.le_of_ble_eq_true rfl) (by subst hR; exact Nat.le_of_ble_eq_true rfl) dX7_init_1 ?_)
  refine z_kaload_n X 0 dX7_init_4 rfl rfl (z_ksipush X (v := 400) dX7_init_5 (by decide) (z_knew_char X (N := 400) (by decide +kernel) (by decide) (by decide) (by decide) (by subst hR; exact Nat.le_of_ble_eq_true rfl) (by subst hR; exact Nat.le_of_ble_eq_true rfl) dX7_init_8 (fun q1 => ?_)))
  refine z_kputF X (k0 := 0) (q0 := 0) (ty0 := tyX7) [(h0, .inr (7, [.ref q1, .int 0, .null, .int 0, .int 0, .int 0, .int 0, .int 0, .int 0, .int 0, .int 0])), (q1, .inl (z_ct g 1, 400, .inl (fun _ => 0)))] hI rfl rfl in_X7_init_X7 tyX7_ok nmX7 (by decide) rfl rfl rfl rfl rfl (Nat.le_of_ble_eq_true rfl) (by decide +kernel) rfl dX7_init_10 ?_
  refine z_kaload_n X 0 dX7_init_13 rfl rfl ?_
  refine z_knewIN X (k_X6_init l g) rfl in_X7_init_X6 tyX6_ok df_X6 (by decide +kernel) (by decide +kernel) (by decide +kernel) (by decide +kernel) gX7_init_X6_init_n17 rfl (by decide +kernel) (by decide +kernel) rfl hk_X6_init (by subst hR; exact Nat.le_of_ble_eq_true rfl) (by subst hR; exact Nat.le_of_ble_eq_true rfl) (by subst hR; exact Nat.le_of_ble_eq_true rfl) (by subst hR; exact Nat.le_of_ble_eq_true rfl) (Nat.le_of_ble_eq_true rfl) dX7_init_14 dX7_init_17 dX7_init_18 (fun r => ?_)
  refine z_kputF X (k0 := 2) (q0 := 0) (ty0 := tyX7) ([(h0, .inr (7, [.ref q1, .int 0, .ref (r 0), .int 0, .int 0, .int 0, .int 0, .int 0, .int 0, .int 0, .int 0])), (q1, .inl (z_ct g 1, 400, .inl (fun _ => 0)))] ++ z_oP g r) hI rfl rfl in_X7_init_X7 tyX7_ok nmX7 (by decide) rfl rfl rfl rfl rfl (Nat.le_of_ble_eq_true rfl) (by decide +kernel) rfl dX7_init_21 ?_
  refine z_kaload_n X 0 dX7_init_24 rfl rfl (z_kiconst X (v := -1) dX7_init_25 (by decide) ?_)
  refine z_kput X (k0 := 4) (q0 := 0) (ty0 := tyX7) ([(h0, .inr (7, [.ref q1, .int 0, .ref (r 0), .int 0, .int (-1), .int 0, .int 0, .int 0, .int 0, .int 0, .int 0])), (q1, .inl (z_ct g 1, 400, .inl (fun _ => 0)))] ++ z_oP g r) rfl rfl in_X7_init_X7 tyX7_ok nmX7 (by decide) rfl rfl rfl rfl (Nat.le_of_ble_eq_true rfl) (by decide +kernel) rfl dX7_init_26 ?_
  exact z_I.ret X (fun i => if i = 0 then h0 else if i = 1 then q1 else r (i - 2)) rfl rfl (Nat.le_of_ble_eq_true rfl) (Nat.le_of_ble_eq_true rfl) dX7_init_29
def z_ps (g : z_G) (AF : Nat → Nat → Nat) (k : Nat) : va_W := (List.range k).flatMap (fun j => z_oP g (AF j))
def z_cs (g : z_G) (AF : Nat → Nat → Nat) (k : Nat) : va_W := (List.range k).flatMap (fun j => z_oC g (AF j))
theorem z_ps_succ (g : z_G) (AF : Nat → Nat → Nat) (k : Nat) : z_ps g AF (k + 1) = z_ps g AF k ++ z_oP g (AF k) := by simp [z_ps, List.range_succ, List.flatMap_append]
theorem z_cs_succ (g : z_G) (AF : Nat → Nat → Nat) (k : Nat) : z_cs g AF (k + 1) = z_cs g AF k ++ z_oC g (AF k) := by simp [z_cs, List.range_succ, List.flatMap_append]
theorem z_ps_congr {g : z_G} {AF AG : Nat → Nat → Nat} : ∀ {k : Nat}, (∀ j, j < k → z_oP g (AF j) = z_oP g (AG j)) → z_ps g AF k = z_ps g AG k
  | 0, _ => rfl
  | k + 1, h => by rw [z_ps_succ, z_ps_succ, z_ps_congr (fun j hj => h j (by omega)), h k (by omega)]
theorem z_cs_congr {g : z_G} {AF AG : Nat → Nat → Nat} : ∀ {k : Nat}, (∀ j, j < k → z_oC g (AF j) = z_oC g (AG j)) → z_cs g AF k = z_cs g AG k
  | 0, _ => rfl
  | k + 1, h => by rw [z_cs_succ, z_cs_succ, z_cs_congr (fun j hj => h j (by omega)), h k (by omega)]
theorem z_vp_congr {cA : ClassId} {n : Nat} {f f' : Nat → Option Nat} (h : ∀ j, j < n → f j = f' j) : vp_cell cA (n, .inr (.inr (.inr (.inr f)))) = vp_cell cA (n, .inr (.inr (.inr (.inr f')))) := by
  rw [vp_cell_q, vp_cell_q]
  unfold arrV
  congr 1
  apply Array.ext
  · simp
  · intro i h1 h2
    simp at h1
    simp [h i h1]
section ZKL
variable {p : Program} {l : Launch} {e : Env} {R : Room} {s : State} {m : MethodId} {args : Array Value} {below : List Frame} {meth : Method} {c : Code} {nL : Nat} {Q : State → Prop} {g : z_G} {A : Nat → Prop}
variable {pc cells slots : Nat} {lv : List (Nat × Value)} {st : List Value} {ws : va_W}
/-- a row of references, told otherwise beyond its end -/
theorem z_krow {q0 a n : Nat} {cA : ClassId} {f : Nat → Option Nat} (f' : Nat → Option Nat) (ws' : va_W) (he : ws[q0]? = some (a, .inl (cA, n, .inr (.inr (.inr (.inr f)))))) (hf : ∀ j, j < n → f j = f' j) (hws : ws.set q0 (a, .inl (cA, n, .inr (.inr (.inr (.inr f'))))) = ws') (k : z_K p l e R s m args below meth c nL g A Q cells slots pc lv st ws') : z_K p l e R s m args below meth c nL g A Q cells slots pc lv st ws := by
  intro H locs ls h1 h2 h3 h4
  subst hws
  refine k H locs ls h1 (h2.set h3 he ?_ (fun _ _ => rfl)) (h3.set he) h4
  show H[a]? = some (vp_cell cA (n, .inr (.inr (.inr (.inr f')))))
  rw [← z_vp_congr hf]
  exact h2 q0 _ he
end ZKL
theorem z_up_row {k : Nat} {x : Int32} (hx : x.toNatClampNeg = k) (AF : Nat → Nat → Nat) (r : Nat → Nat) : va_up (fun j => if j < k then some (AF j 0) else none) x.toNatClampNeg (some (r 0)) = (fun j => if j < k + 1 then some (va_up AF k r j 0) else none) := by
  rw [hx]
  funext j
  by_cases hj : j = k
  · subst hj; simp [va_up]
  · by_cases h2 : j < k
    · simp [va_up, hj, h2, Nat.lt_succ_of_lt h2]
    · have : ¬ j < k + 1 := by omega
      simp [va_up, hj, h2, this]
abbrev z_rf (f : Nat → Option Nat) : (Nat → Int32) ⊕ (Nat → Int64) ⊕ (Nat → UInt32) ⊕ (Nat → UInt64) ⊕ (Nat → Option Nat) := .inr (.inr (.inr (.inr f)))
set_option maxRecDepth 20000 in
set_option maxHeartbeats 4000000 in
theorem k_past_loop {p : Program} {l : Launch} {e : Env} {R : Room} {s : State} {m : MethodId} {args : Array Value} {below : List Frame} {meth : Method} {c : Code} {Q : State → Prop} {g : z_G} {A : Nat → Prop} {h0 q1 : Nat} (hR : R = z_rk 2 65 1696) (X : z_KX p R s m args meth c cX5_init 2 yX5_init.cls wsX5_init none g A)
    (hx : ∀ AF : Nat → Nat → Nat, z_K p l e R s m args below meth c 2 g A Q 65 1696 40 [(0, .ref h0), (1, .int (nI 16))] [] ((h0, .inr (5, [.ref q1, .int 0, .int 0])) :: (q1, .inl (z_ct g 5, 16, z_rf (fun j => if j < 16 then some (AF j 0) else none))) :: z_ps g AF 16)) :
    ∀ (n k : Nat) (AF : Nat → Nat → Nat), k + n = 16 → z_K p l e R s m args below meth c 2 g A Q (1 + 4 * k) (16 + 105 * k) 15 [(0, .ref h0), (1, .int (nI k))] [] ((h0, .inr (5, [.ref q1, .int 0, .int 0])) :: (q1, .inl (z_ct g 5, 16, z_rf (fun j => if j < k then some (AF j 0) else none))) :: z_ps g AF k) := by
  intro n
  induction n with
  | zero =>
    intro k AF hk
    have hk : k = 16 := by omega
    subst hk
    refine z_kiload_n X 1 dX5_init_15 rfl rfl (z_kbipush X (v := 16) dX5_init_16 (by decide) (z_kicmp_ge X 40 dX5_init_18 (by decide) (fun _ => ?_) (fun h => absurd (nI_le (a := 16) (b := 16) (Nat.le_refl _) (by decide)) h)))
    exact hx AF
  | succ n ih =>
    intro k AF hk
    refine z_kiload_n X 1 dX5_init_15 rfl rfl (z_kbipush X (v := 16) dX5_init_16 (by decide) (z_kicmp_ge X 40 dX5_init_18 (by decide) (fun h => absurd h (nI_ge (a := k) (b := 16) (by omega) (by decide))) (fun _ => ?_)))
    refine z_kaload_n X 0 dX5_init_21 rfl rfl (z_kget X (q0 := 0) (k0 := 0) (ci := 5) rfl rfl in_X5_init_X5 (by decide) rfl rfl (by decide +kernel) dX5_init_22 (z_kiload_n X 1 dX5_init_25 rfl rfl ?_))
    refine z_knewIN X (k_X6_init l g) rfl in_X5_init_X6 tyX6_ok df_X6 (by decide +kernel) (by decide +kernel) (by decide +kernel) (by decide +kernel) gX5_init_X6_init_n17 rfl (by decide +kernel) (by decide +kernel) rfl hk_X6_init (by subst hR; exact Nat.le_of_ble_eq_true rfl) (by subst hR; exact Nat.le_of_ble_eq_true rfl) (by subst hR; show 1 + 4 * k + 1 + 3 ≤ 65; omega) (by subst hR; show 16 + 105 * k + 6 + 99 ≤ 1696; omega) (Nat.le_of_ble_eq_true rfl) dX5_init_26 dX5_init_29 dX5_init_30 (fun r => ?_)
    have hcl : (nI k).toNatClampNeg = k := nI_clamp (by omega)
    refine z_kaastP X (q0 := 1) (qk := 2 + (z_ps g AF k).length) (n := 16) (vs := [.int 0, .int 0, .int 0, .ref (r 1), .ref (r 2), .ref (r 3)]) ((h0, .inr (5, [.ref q1, .int 0, .int 0])) :: (q1, .inl (z_ct g 5, 16, z_rf (fun j => if j < k + 1 then some (va_up AF k r j 0) else none))) :: z_ps g (va_up AF k r) (k + 1)) rfl ?_ (vp_in_nI (by omega) (by decide)) ?_ dX5_init_33 ?_
    · rw [show (((h0, (.inr (5, [.ref q1, .int 0, .int 0]) : va_E)) :: (q1, .inl (z_ct g 5, 16, z_rf (fun j => if j < k then some (AF j 0) else none))) :: z_ps g AF k) ++ z_oP g r) = (h0, .inr (5, [.ref q1, .int 0, .int 0])) :: (q1, .inl (z_ct g 5, 16, z_rf (fun j => if j < k then some (AF j 0) else none))) :: (z_ps g AF k ++ z_oP g r) from rfl]
      rw [show 2 + (z_ps g AF k).length = (z_ps g AF k).length + 1 + 1 by omega, List.getElem?_cons_succ, List.getElem?_cons_succ, List.getElem?_append_right (Nat.le_refl _), Nat.sub_self]
      rfl
    · rw [z_up_row hcl, z_ps_succ]
      have e1 : z_ps g (va_up AF k r) k = z_ps g AF k := z_ps_congr (fun j hj => by simp [va_up, Nat.ne_of_lt hj])
      have e2 : va_up AF k r k = r := by simp [va_up]
      rw [e1, e2]
      rfl
    · refine z_kiinc X (v := nI (k + 1)) 1 [(1, .int (nI (k + 1))), (0, .ref h0)] dX5_init_34 rfl (nI_1 k) (by decide) rfl (z_kgoto X 15 dX5_init_37 (by decide) (z_ksub [1, 0] [(0, .ref h0), (1, .int (nI (k + 1)))] rfl ?_))
      exact z_kcs (by omega) (by omega) (ih (k + 1) (va_up AF k r) (by omega))
def z_oPa (g : z_G) (ad : Nat → Nat) : va_W := [(ad 0, .inr (5, [.ref (ad 1), .int 0, .int 0])), (ad 1, .inl (z_ct g 5, 16, z_rf (fun j => some (ad (2 + 4 * j)))))] ++ z_ps g (fun j i => ad (2 + 4 * j + i)) 16
set_option maxRecDepth 20000 in
set_option maxHeartbeats 4000000 in
theorem k_X5_init (l : Launch) (g : z_G) : z_I l g yX5_init wsX5_init 2 65 1696 5 [.null, .int 0, .int 0] (z_oPa g) := by
  refine z_I.mk (cc := cX5_init) (nL := 2) rfl (by decide) (by decide) rfl (fun p e R s m args below meth c h0 sz hR hI X => ?_)
  refine z_kaload_n X 0 dX5_init_0 rfl rfl (z_kobj X (by decide +kernel) (by decide +kernel) (by decide +kernel) (by subst hR; exact Nat.le_of_ble_eq_true rfl) (by subst hR; exact Nat.le_of_ble_eq_true rfl) dX5_init_1 ?_)
  refine z_kaload_n X 0 dX5_init_4 rfl rfl (z_kbipush X (v := 16) dX5_init_5 (by decide) (z_kanewP X (N := 16) (by decide +kernel) (by decide) (by decide) (by decide) (by subst hR; exact Nat.le_of_ble_eq_true rfl) (by subst hR; exact Nat.le_of_ble_eq_true rfl) dX5_init_7 (fun q1 => ?_)))
  refine z_kputF X (k0 := 0) (q0 := 0) (ty0 := tyX5) [(h0, .inr (5, [.ref q1, .int 0, .int 0])), (q1, .inl (z_ct g 5, 16, z_rf (fun _ => none)))] hI rfl rfl in_X5_init_X5 tyX5_ok nmX5 (by decide) rfl rfl rfl rfl rfl (Nat.le_of_ble_eq_true rfl) (by decide +kernel) rfl dX5_init_10 ?_
  refine z_kiconst X (v := 0) dX5_init_13 (by decide) (z_kistore_n X [(1, .int 0), (0, .ref h0)] dX5_init_14 rfl (by decide) rfl (z_ksub [1, 0] [(0, .ref h0), (1, .int (nI 0))] rfl ?_))
  have h := k_past_loop (l := l) (e := e) (below := below) (h0 := h0) (q1 := q1) (Q := (MQ below (fun _ st oc t => (oc = .returned none ∧ ∃ ad : Nat → Nat, ad 0 = h0 ∧ va_P g.1 vwCl (z_oPa g ad) t.heap ∧ va_D (z_A1 h0 sz) (z_oPa g ad)) ∧ va_F (z_A1 h0 sz) st t) args s 65 1696 (z_A1 h0 sz))) hR X ?_ 16 0 (fun _ _ => 0) rfl
  · have e1 : (fun j => if j < 0 then some ((fun (_ _ : Nat) => (0 : Nat)) j 0) else none) = (fun _ : Nat => (none : Option Nat)) := by funext j; simp
    rw [e1] at h
    exact h
  · intro AF
    have had : ∀ j i, i < 4 → (fun i => if i = 0 then h0 else if i = 1 then q1 else AF ((i - 2) / 4) ((i - 2) % 4)) (2 + 4 * j + i) = AF j i := by
      intro j i hi
      have h1 : ¬ 2 + 4 * j + i = 0 := by omega
      have h2 : ¬ 2 + 4 * j + i = 1 := by omega
      have h3 : (2 + 4 * j + i - 2) / 4 = j := by omega
      have h4 : (2 + 4 * j + i - 2) % 4 = i := by omega
      simp [h1, h2, h3, h4]
    refine z_krow (q0 := 1) (fun j => some ((fun i => if i = 0 then h0 else if i = 1 then q1 else AF ((i - 2) / 4) ((i - 2) % 4)) (2 + 4 * j))) ((h0, .inr (5, [.ref q1, .int 0, .int 0])) :: (q1, .inl (z_ct g 5, 16, z_rf (fun j => some ((fun i => if i = 0 then h0 else if i = 1 then q1 else AF ((i - 2) / 4) ((i - 2) % 4)) (2 + 4 * j))))) :: z_ps g AF 16) rfl (fun j hj => ?_) rfl ?_
    · rw [if_pos hj, ← had j 0 (by omega)]
      rfl
    · refine z_I.ret X (fun i => if i = 0 then h0 else if i = 1 then q1 else AF ((i - 2) / 4) ((i - 2) % 4)) rfl ?_ (Nat.le_refl _) (Nat.le_refl _) dX5_init_40
      unfold z_oPa
      rw [z_ps_congr (AG := fun j i => (fun i => if i = 0 then h0 else if i = 1 then q1 else AF ((i - 2) / 4) ((i - 2) % 4)) (2 + 4 * j + i)) (fun j _ => by
        unfold z_oP
        simp only [had j 0 (by omega), had j 1 (by omega), had j 2 (by omega), had j 3 (by omega)])]
      rfl
set_option maxRecDepth 20000 in
set_option maxHeartbeats 4000000 in
theorem k_list_loop {p : Program} {l : Launch} {e : Env} {R : Room} {s : State} {m : MethodId} {args : Array Value} {below : List Frame} {meth : Method} {c : Code} {Q : State → Prop} {g : z_G} {A : Nat → Prop} {h0 q1 q2 : Nat} (hR : R = z_rk 2 38 273) (X : z_KX p R s m args meth c cX2_init 2 yX2_init.cls wsX2_init none g A)
    (hx : ∀ AF : Nat → Nat → Nat, z_K p l e R s m args below meth c 2 g A Q 38 273 48 [(0, .ref h0), (1, .int (nI 12))] [] ((h0, .inr (2, [.int 0, .ref q1, .ref q2])) :: (q1, .inl (z_ct g 6, 12, z_rf (fun j => if j < 12 then some (AF j 0) else none))) :: (q2, .inl (z_ct g 0, 9, .inl (fun _ => 0))) :: z_cs g AF 12)) :
    ∀ (n k : Nat) (AF : Nat → Nat → Nat), k + n = 12 → z_K p l e R s m args below meth c 2 g A Q (2 + 3 * k) (21 + 21 * k) 23 [(0, .ref h0), (1, .int (nI k))] [] ((h0, .inr (2, [.int 0, .ref q1, .ref q2])) :: (q1, .inl (z_ct g 6, 12, z_rf (fun j => if j < k then some (AF j 0) else none))) :: (q2, .inl (z_ct g 0, 9, .inl (fun _ => 0))) :: z_cs g AF k) := by
  intro n
  induction n with
  | zero =>
    intro k AF hk
    have hk : k = 12 := by omega
    subst hk
    refine z_kiload_n X 1 dX2_init_23 rfl rfl (z_kbipush X (v := 12) dX2_init_24 (by decide) (z_kicmp_ge X 48 dX2_init_26 (by decide) (fun _ => ?_) (fun h => absurd (nI_le (a := 12) (b := 12) (Nat.le_refl _) (by decide)) h)))
    exact hx AF
  | succ n ih =>
    intro k AF hk
    refine z_kiload_n X 1 dX2_init_23 rfl rfl (z_kbipush X (v := 12) dX2_init_24 (by decide) (z_kicmp_ge X 48 dX2_init_26 (by decide) (fun h => absurd h (nI_ge (a := k) (b := 12) (by omega) (by decide))) (fun _ => ?_)))
    refine z_kaload_n X 0 dX2_init_29 rfl rfl (z_kget X (q0 := 0) (k0 := 1) (ci := 2) rfl rfl in_X2_init_X2 (by decide) rfl rfl (by decide +kernel) dX2_init_30 (z_kiload_n X 1 dX2_init_33 rfl rfl ?_))
    refine z_knewIN X (k_X1_init l g) rfl in_X2_init_X1 tyX1_ok df_X1 (by decide +kernel) (by decide +kernel) (by decide +kernel) (by decide +kernel) gX2_init_X1_init_n21 rfl (by decide +kernel) (by decide +kernel) rfl hk_X1_init (by subst hR; exact Nat.le_of_ble_eq_true rfl) (by subst hR; exact Nat.le_of_ble_eq_true rfl) (by subst hR; show 2 + 3 * k + 1 + 2 ≤ 38; omega) (by subst hR; show 21 + 21 * k + 4 + 17 ≤ 273; omega) (Nat.le_of_ble_eq_true rfl) dX2_init_34 dX2_init_37 dX2_init_38 (fun r => ?_)
    have hcl : (nI k).toNatClampNeg = k := nI_clamp (by omega)
    refine z_kaastC X (q0 := 1) (qk := 3 + (z_cs g AF k).length) (n := 12) (vs := [.int 0, .int 0, .ref (r 1), .ref (r 2)]) ((h0, .inr (2, [.int 0, .ref q1, .ref q2])) :: (q1, .inl (z_ct g 6, 12, z_rf (fun j => if j < k + 1 then some (va_up AF k r j 0) else none))) :: (q2, .inl (z_ct g 0, 9, .inl (fun _ => 0))) :: z_cs g (va_up AF k r) (k + 1)) rfl ?_ (vp_in_nI (by omega) (by decide)) ?_ dX2_init_41 ?_
    · rw [show (((h0, (.inr (2, [.int 0, .ref q1, .ref q2]) : va_E)) :: (q1, .inl (z_ct g 6, 12, z_rf (fun j => if j < k then some (AF j 0) else none))) :: (q2, .inl (z_ct g 0, 9, .inl (fun _ => 0))) :: z_cs g AF k) ++ z_oC g r) = (h0, .inr (2, [.int 0, .ref q1, .ref q2])) :: (q1, .inl (z_ct g 6, 12, z_rf (fun j => if j < k then some (AF j 0) else none))) :: (q2, .inl (z_ct g 0, 9, .inl (fun _ => 0))) :: (z_cs g AF k ++ z_oC g r) from rfl]
      rw [show 3 + (z_cs g AF k).length = (z_cs g AF k).length + 1 + 1 + 1 by omega, List.getElem?_cons_succ, List.getElem?_cons_succ, List.getElem?_cons_succ, List.getElem?_append_right (Nat.le_refl _), Nat.sub_self]
      rfl
    · rw [z_up_row hcl, z_cs_succ]
      have e1 : z_cs g (va_up AF k r) k = z_cs g AF k := z_cs_congr (fun j hj => by simp [va_up, Nat.ne_of_lt hj])
      have e2 : va_up AF k r k = r := by simp [va_up]
      rw [e1, e2]
      rfl
    · refine z_kiinc X (v := nI (k + 1)) 1 [(1, .int (nI (k + 1))), (0, .ref h0)] dX2_init_42 rfl (nI_1 k) (by decide) rfl (z_kgoto X 23 dX2_init_45 (by decide) (z_ksub [1, 0] [(0, .ref h0), (1, .int (nI (k + 1)))] rfl ?_))
      exact z_kcs (by omega) (by omega) (ih (k + 1) (va_up AF k r) (by omega))
def z_oLi (g : z_G) (ad : Nat → Nat) : va_W := [(ad 0, .inr (2, [.int 0, .ref (ad 1), .ref (ad 2)])), (ad 1, .inl (z_ct g 6, 12, z_rf (fun j => some (ad (3 + 3 * j))))), (ad 2, .inl (z_ct g 0, 9, .inl (fun _ => 0)))] ++ z_cs g (fun j i => ad (3 + 3 * j + i)) 12
set_option maxRecDepth 20000 in
set_option maxHeartbeats 4000000 in
theorem k_X2_init (l : Launch) (g : z_G) : z_I l g yX2_init wsX2_init 2 38 273 2 [.int 0, .null, .null] (z_oLi g) := by
  refine z_I.mk (cc := cX2_init) (nL := 2) rfl (by decide) (by decide) rfl (fun p e R s m args below meth c h0 sz hR hI X => ?_)
  refine z_kaload_n X 0 dX2_init_0 rfl rfl (z_kobj X (by decide +kernel) (by decide +kernel) (by decide +kernel) (by subst hR; exact Nat.le_of_ble_eq_true rfl) (by subst hR; exact Nat.le_of_ble_eq_true rfl) dX2_init_1 ?_)
  refine z_kaload_n X 0 dX2_init_4 rfl rfl (z_kbipush X (v := 12) dX2_init_5 (by decide) (z_kanewC X (N := 12) (by decide +kernel) (by decide) (by decide) (by decide) (by subst hR; exact Nat.le_of_ble_eq_true rfl) (by subst hR; exact Nat.le_of_ble_eq_true rfl) dX2_init_7 (fun q1 => ?_)))
  refine z_kputF X (k0 := 1) (q0 := 0) (ty0 := tyX2) [(h0, .inr (2, [.int 0, .ref q1, .null])), (q1, .inl (z_ct g 6, 12, z_rf (fun _ => none)))] hI rfl rfl in_X2_init_X2 tyX2_ok nmX2 (by decide) rfl rfl rfl rfl rfl (Nat.le_of_ble_eq_true rfl) (by decide +kernel) rfl dX2_init_10 ?_
  refine z_kaload_n X 0 dX2_init_13 rfl rfl (z_kbipush X (v := 9) dX2_init_14 (by decide) (z_knew_int X (N := 9) (by decide +kernel) (by decide) (by decide) (by decide) (by subst hR; exact Nat.le_of_ble_eq_true rfl) (by subst hR; exact Nat.le_of_ble_eq_true rfl) dX2_init_16 (fun q2 => ?_)))
  refine z_kputF X (k0 := 2) (q0 := 0) (ty0 := tyX2) [(h0, .inr (2, [.int 0, .ref q1, .ref q2])), (q1, .inl (z_ct g 6, 12, z_rf (fun _ => none))), (q2, .inl (z_ct g 0, 9, .inl (fun _ => 0)))] hI rfl rfl in_X2_init_X2 tyX2_ok nmX2 (by decide) rfl rfl rfl rfl rfl (Nat.le_of_ble_eq_true rfl) (by decide +kernel) rfl dX2_init_18 ?_
  refine z_kiconst X (v := 0) dX2_init_21 (by decide) (z_kistore_n X [(1, .int 0), (0, .ref h0)] dX2_init_22 rfl (by decide) rfl (z_ksub [1, 0] [(0, .ref h0), (1, .int (nI 0))] rfl ?_))
  have h := k_list_loop (l := l) (e := e) (below := below) (h0 := h0) (q1 := q1) (q2 := q2) (Q := (MQ below (fun _ st oc t => (oc = .returned none ∧ ∃ ad : Nat → Nat, ad 0 = h0 ∧ va_P g.1 vwCl (z_oLi g ad) t.heap ∧ va_D (z_A1 h0 sz) (z_oLi g ad)) ∧ va_F (z_A1 h0 sz) st t) args s 38 273 (z_A1 h0 sz))) hR X ?_ 12 0 (fun _ _ => 0) rfl
  · have e1 : (fun j => if j < 0 then some ((fun (_ _ : Nat) => (0 : Nat)) j 0) else none) = (fun _ : Nat => (none : Option Nat)) := by funext j; simp
    rw [e1] at h
    exact h
  · intro AF
    have had : ∀ j i, i < 3 → (fun i => if i = 0 then h0 else if i = 1 then q1 else if i = 2 then q2 else AF ((i - 3) / 3) ((i - 3) % 3)) (3 + 3 * j + i) = AF j i := by
      intro j i hi
      have h1 : ¬ 3 + 3 * j + i = 0 := by omega
      have h2 : ¬ 3 + 3 * j + i = 1 := by omega
      have h5 : ¬ 3 + 3 * j + i = 2 := by omega
      have h3 : (3 + 3 * j + i - 3) / 3 = j := by omega
      have h4 : (3 + 3 * j + i - 3) % 3 = i := by omega
      simp [h1, h2, h3, h4, h5]
    refine z_krow (q0 := 1) (fun j => some ((fun i => if i = 0 then h0 else if i = 1 then q1 else if i = 2 then q2 else AF ((i - 3) / 3) ((i - 3) % 3)) (3 + 3 * j))) ((h0, .inr (2, [.int 0, .ref q1, .ref q2])) :: (q1, .inl (z_ct g 6, 12, z_rf (fun j => some ((fun i => if i = 0 then h0 else if i = 1 then q1 else if i = 2 then q2 else AF ((i - 3) / 3) ((i - 3) % 3)) (3 + 3 * j))))) :: (q2, .inl (z_ct g 0, 9, .inl (fun _ => 0))) :: z_cs g AF 12) rfl (fun j hj => ?_) rfl ?_
    · rw [if_pos hj, ← had j 0 (by omega)]
      rfl
    · refine z_I.ret X (fun i => if i = 0 then h0 else if i = 1 then q1 else if i = 2 then q2 else AF ((i - 3) / 3) ((i - 3) % 3)) rfl ?_ (Nat.le_refl _) (Nat.le_refl _) dX2_init_48
      unfold z_oLi
      rw [z_cs_congr (AG := fun j i => (fun i => if i = 0 then h0 else if i = 1 then q1 else if i = 2 then q2 else AF ((i - 3) / 3) ((i - 3) % 3)) (3 + 3 * j + i)) (fun j _ => by
        unfold z_oC
        simp only [had j 0 (by omega), had j 1 (by omega), had j 2 (by omega)])]
      rfl

