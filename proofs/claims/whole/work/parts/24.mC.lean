theorem lk_X7_cut_26 : (Cond.fieldLink RX7 26 RX7 (TX7 1).2.1 (TX7 1).2.2.1) ∈ wsX7_cut := by decide +kernel
theorem in_X7_cut_X7 : ∀ w ∈ u_ws RX7 TX7 11, w ∈ wsX7_cut := fun _ h => List.mem_cons_of_mem _ (List.mem_append_right _ h)
def f_X7_cut (a1 : Int32) (u : z_M) : Option (Int32 × z_M) :=
  if a1 < 0 then (some (0, u)) else (if a1 ≤ (z_gI u 81 1) then (z_lt (z_sI u 81 1 a1) (fun u3 => some (1, u3))) else (some (0, u)))
set_option maxRecDepth 20000 in
set_option maxHeartbeats 4000000 in
theorem w_X7_cut (l : Launch) (g : z_G) (a1 : Int32) (u : z_M) {res : Int32 × z_M} (h : f_X7_cut a1 u = some res) : z_C l g z_shC yX7_cut wsX7_cut 1 [.ref (z_ad g 81), .int a1] u (fun v u' => v = some (.int res.1) ∧ u' = res.2) := by
  refine z_C.mk (lv := [(0, .ref (z_ad g 81)), (1, .int a1)]) (cc := cX7_cut) (nL := 2) (rt := (some .boolean)) rfl (by decide) (Nat.le_of_ble_eq_true rfl) rfl (fun p e R s m args below meth c hR X => ?_)
  unfold f_X7_cut at h
  refine z_iload_n X 1 dX7_cut_0 rfl rfl (z_if_lt X 12 dX7_cut_1 (by decide) (fun c1 => ?_) (fun c1 => ?_))
  · replace h := z_ip c1 h
    refine z_iconst X (v := 0) dX7_cut_12 (by decide) ?_
    cases h; exact z_zret X rfl rfl dX7_cut_13 ⟨rfl, rfl⟩
  · replace h := z_in c1 h
    refine z_iload_n X 1 dX7_cut_4 rfl rfl (z_aload_n X 0 dX7_cut_5 rfl rfl (z_getI X (k0 := 1) z_c81 rfl in_X7_cut_X7 (by decide) rfl rfl lk_X7_cut_26 dX7_cut_6 (z_icmp_le X 14 dX7_cut_9 (by decide) (fun c2 => ?_) (fun c2 => ?_))))
    · replace h := z_ip c2 h
      obtain ⟨u3, eu3, h⟩ := z_ls h
      refine z_aload_n X 0 dX7_cut_14 rfl rfl (z_iload_n X 1 dX7_cut_15 rfl rfl (z_putI X (k0 := 1) (ty0 := tyX7) z_c81 rfl in_X7_cut_X7 tyX7_ok nmX7 (by decide) rfl rfl rfl rfl rfl lk_X7_cut_26 dX7_cut_16 (z_nm eu3 (z_iconst X (v := 1) dX7_cut_19 (by decide) ?_))))
      cases h; exact z_zret X rfl rfl dX7_cut_20 ⟨rfl, rfl⟩
    · replace h := z_in c2 h
      refine z_iconst X (v := 0) dX7_cut_12 (by decide) ?_
      cases h; exact z_zret X rfl rfl dX7_cut_13 ⟨rfl, rfl⟩

def f_X7_isLetter (a1 : Int32) : Option (Int32) :=
  if a1 < 97 then (some 0) else (if 122 < a1 then (some 0) else (some 1))
set_option maxRecDepth 20000 in
set_option maxHeartbeats 4000000 in
theorem w_X7_isLetter (l : Launch) (g : z_G) (a1 : Int32) (u : z_M) {res : Int32} (h : f_X7_isLetter a1 = some res) : z_C l g z_shC yX7_isLetter wsX7_isLetter 1 [.int a1] u (fun v u' => v = some (.int res) ∧ u' = u) := by
  refine z_C.mk (lv := [(0, .int a1)]) (cc := cX7_isLetter) (nL := 1) (rt := (some .boolean)) rfl (by decide) (Nat.le_of_ble_eq_true rfl) rfl (fun p e R s m args below meth c hR X => ?_)
  unfold f_X7_isLetter at h
  refine z_iload_n X 0 dX7_isLetter_0 rfl rfl (z_bipush X (v := 97) dX7_isLetter_1 (by decide) (z_icmp_lt X 16 dX7_isLetter_3 (by decide) (fun c1 => ?_) (fun c1 => ?_)))
  · replace h := z_ip c1 h
    refine z_iconst X (v := 0) dX7_isLetter_16 (by decide) ?_
    cases h; exact z_zret X rfl rfl dX7_isLetter_17 ⟨rfl, rfl⟩
  · replace h := z_in c1 h
    refine z_iload_n X 0 dX7_isLetter_6 rfl rfl (z_bipush X (v := 122) dX7_isLetter_7 (by decide) (z_icmp_gt X 16 dX7_isLetter_9 (by decide) (fun c2 => ?_) (fun c2 => ?_)))
    · replace h := z_ip c2 h
      refine z_iconst X (v := 0) dX7_isLetter_16 (by decide) ?_
      cases h; exact z_zret X rfl rfl dX7_isLetter_17 ⟨rfl, rfl⟩
    · replace h := z_in c2 h
      refine z_iconst X (v := 1) dX7_isLetter_12 (by decide) (z_goto X 17 dX7_isLetter_13 (by decide) ?_)
      cases h; exact z_zret X rfl rfl dX7_isLetter_17 ⟨rfl, rfl⟩

theorem lk_X7_isWord_29 : (Cond.fieldLink RX7 29 RX7 (TX7 6).2.1 (TX7 6).2.2.1) ∈ wsX7_isWord := by decide +kernel
theorem in_X7_isWord_X7 : ∀ w ∈ u_ws RX7 TX7 11, w ∈ wsX7_isWord := fun _ h => List.mem_cons_of_mem _ (List.mem_append_right _ h)
theorem lk_X7_isWord_97 : (Cond.fieldLink RX7 97 RX7 (TX7 8).2.1 (TX7 8).2.2.1) ∈ wsX7_isWord := by decide +kernel
theorem lk_X7_isWord_9 : (Cond.fieldLink RX7 9 RX7 (TX7 0).2.1 (TX7 0).2.2.1) ∈ wsX7_isWord := by decide +kernel
theorem hy_J0_charAt_5068e : yJ0_charAt_5068e.cls = RJ0 ∧ yJ0_charAt_5068e.cls ≠ "java/lang/invoke/MethodHandle" ∧ yJ0_charAt_5068e.cls ≠ "java/lang/invoke/VarHandle" ∧ (parseMethodDescriptor yJ0_charAt_5068e.desc).map (fun d => d.parameters.length) = some 1 := by decide +kernel
theorem hy_J0_length_8abf5 : yJ0_length_8abf5.cls = RJ0 ∧ yJ0_length_8abf5.cls ≠ "java/lang/invoke/MethodHandle" ∧ yJ0_length_8abf5.cls ≠ "java/lang/invoke/VarHandle" ∧ (parseMethodDescriptor yJ0_length_8abf5.desc).map (fun d => d.parameters.length) = some 0 := by decide +kernel
def b_X7_isWord_20 (x1 : Nat) (u : z_M) : Int32 → (Int32 → Option (Int32)) → (Unit → Option (Int32)) → Option (Int32) := fun q kb kx =>
  if (z_slen x1) ≤ q then (kx ()) else (z_gd (z_inb ((z_gI u 81 8) + q) 400) (z_gd (z_inb q (z_slenN x1)) (if (z_gI u 82 ((z_gI u 81 8) + q).toNatClampNeg) = (z_chr x1 q) then (kb (q + 1)) else (some 0))))
def f_X7_isWord (a1 : Nat) (u : z_M) : Option (Int32) :=
  if ((z_gI u 81 6) - (z_gI u 81 8)) = (z_slen a1) then (z_lp (b_X7_isWord_20 a1 u) z_F 0 (fun t6 => some 1)) else (some 0)
set_option maxRecDepth 20000 in
set_option maxHeartbeats 4000000 in
theorem wb_X7_isWord_20 {p : Program} {l : Launch} {e : Env} {R : Room} {s : State} {m : MethodId} {args : Array Value} {below : List Frame} {meth : Method} {c : Code} {g : z_G} {u : z_M} {res : Int32} (hR : R = z_rm 7) (X : z_X p R s m args meth c cX7_isWord 3 RX7 wsX7_isWord (some .boolean) g z_shC) (x1 : Nat) (ex1 : x1 < 3) (q : Int32) (kb : Int32 → Option (Int32)) (kx : Unit → Option (Int32)) (hkb : ∀ q, kb q = some res → z_V p l e R s m args below meth c 3 g z_shC (MQ below (z_Qc g z_shC (fun v u' => v = some (.int res) ∧ u' = u)) args s 0 0 (z_A g z_shC)) 20 [(0, .ref (z_ad g 81)), (1, .ref (g.2.2.2.1 x1)), (2, .int q)] [] u) (hkx : ∀ t, kx t = some res → z_V p l e R s m args below meth c 3 g z_shC (MQ below (z_Qc g z_shC (fun v u' => v = some (.int res) ∧ u' = u)) args s 0 0 (z_A g z_shC)) 55 [] [] u) (h : b_X7_isWord_20 x1 u q kb kx = some res) : z_V p l e R s m args below meth c 3 g z_shC (MQ below (z_Qc g z_shC (fun v u' => v = some (.int res) ∧ u' = u)) args s 0 0 (z_A g z_shC)) 20 [(0, .ref (z_ad g 81)), (1, .ref (g.2.2.2.1 x1)), (2, .int q)] [] u := by
  unfold b_X7_isWord_20 at h
  refine z_iload_n X 2 dX7_isWord_20 rfl rfl (z_aload_n X 1 dX7_isWord_21 rfl rfl (z_callTi X (r := z_slen x1) (u1 := u) [] [.int q] (w_slen l g z_shC x1 ex1 u) ex1 gX7_isWord_J0_length_8abf5 hy_J0_length_8abf5 rfl (z_le1 hR (by decide)) (z_le2 hR (by decide) (by decide)) (Nat.le_of_ble_eq_true rfl) dX7_isWord_22 (z_icmp_ge X 55 dX7_isWord_25 (by decide) (fun c2 => ?_) (fun c2 => ?_))))
  · replace h := z_ip c2 h
    refine z_sub [] [] rfl ?_
    exact hkx () h
  · replace h := z_in c2 h
    obtain ⟨b3, h⟩ := z_gs h
    obtain ⟨b4, h⟩ := z_gs h
    refine z_aload_n X 0 dX7_isWord_28 rfl rfl (z_getR X (k0 := 0) z_c81 rfl in_X7_isWord_X7 (by decide) rfl rfl lk_X7_isWord_9 dX7_isWord_29 (z_aload_n X 0 dX7_isWord_32 rfl rfl (z_getI X (k0 := 8) z_c81 rfl in_X7_isWord_X7 (by decide) rfl rfl lk_X7_isWord_97 dX7_isWord_33 (z_iload_n X 2 dX7_isWord_36 rfl rfl (z_iadd X dX7_isWord_37 (z_cald X z_c82 (z_inS b3) dX7_isWord_38 (z_aload_n X 1 dX7_isWord_39 rfl rfl (z_iload_n X 2 dX7_isWord_40 rfl rfl (z_callTi X (r := z_chr x1 q) (u1 := u) [.int q] [.int (z_gI u 82 ((z_gI u 81 8) + q).toNatClampNeg)] (w_schr l g z_shC x1 ex1 q (z_inS b4) u) ex1 gX7_isWord_J0_charAt_5068e hy_J0_charAt_5068e rfl (z_le1 hR (by decide)) (z_le2 hR (by decide) (by decide)) (Nat.le_of_ble_eq_true rfl) dX7_isWord_41 (z_icmp_eq X 49 dX7_isWord_44 (by decide) (fun c5 => ?_) (fun c5 => ?_)))))))))))
    · replace h := z_ip c5 h
      refine z_iinc X (v := q + 1) 2 [(2, .int (q + 1)), (0, .ref (z_ad g 81)), (1, .ref (g.2.2.2.1 x1))] dX7_isWord_49 rfl rfl (by decide) rfl (z_goto X 20 dX7_isWord_52 (by decide) (z_sub [1, 2, 0] [(0, .ref (z_ad g 81)), (1, .ref (g.2.2.2.1 x1)), (2, .int (q + 1))] rfl ?_))
      exact hkb (q + 1) h
    · replace h := z_in c5 h
      refine z_iconst X (v := 0) dX7_isWord_47 (by decide) ?_
      cases h; exact z_zret X rfl rfl dX7_isWord_48 ⟨rfl, rfl⟩
set_option maxRecDepth 20000 in
set_option maxHeartbeats 4000000 in
theorem w_X7_isWord (l : Launch) (g : z_G) (a1 : Nat) (ea1 : a1 < 3) (u : z_M) {res : Int32} (h : f_X7_isWord a1 u = some res) : z_C l g z_shC yX7_isWord wsX7_isWord 7 [.ref (z_ad g 81), .ref (g.2.2.2.1 a1)] u (fun v u' => v = some (.int res) ∧ u' = u) := by
  refine z_C.mk (lv := [(0, .ref (z_ad g 81)), (1, .ref (g.2.2.2.1 a1))]) (cc := cX7_isWord) (nL := 3) (rt := (some .boolean)) rfl (by decide) (Nat.le_of_ble_eq_true rfl) rfl (fun p e R s m args below meth c hR X => ?_)
  unfold f_X7_isWord at h
  refine z_aload_n X 0 dX7_isWord_0 rfl rfl (z_getI X (k0 := 6) z_c81 rfl in_X7_isWord_X7 (by decide) rfl rfl lk_X7_isWord_29 dX7_isWord_1 (z_aload_n X 0 dX7_isWord_4 rfl rfl (z_getI X (k0 := 8) z_c81 rfl in_X7_isWord_X7 (by decide) rfl rfl lk_X7_isWord_97 dX7_isWord_5 (z_isub X dX7_isWord_8 (z_aload_n X 1 dX7_isWord_9 rfl rfl (z_callTi X (r := z_slen a1) (u1 := u) [] [.int ((z_gI u 81 6) - (z_gI u 81 8))] (w_slen l g z_shC a1 ea1 u) ea1 gX7_isWord_J0_length_8abf5 hy_J0_length_8abf5 rfl (z_le1 hR (by decide)) (z_le2 hR (by decide) (by decide)) (Nat.le_of_ble_eq_true rfl) dX7_isWord_10 (z_icmp_eq X 18 dX7_isWord_13 (by decide) (fun c1 => ?_) (fun c1 => ?_))))))))
  · replace h := z_ip c1 h
    refine z_iconst X (v := 0) dX7_isWord_18 (by decide) (z_istore_n X [(2, .int 0), (0, .ref (z_ad g 81)), (1, .ref (g.2.2.2.1 a1))] dX7_isWord_19 rfl (by decide) rfl (z_sub [1, 2, 0] [(0, .ref (z_ad g 81)), (1, .ref (g.2.2.2.1 a1)), (2, .int 0)] rfl ?_))
    have hw := z_lp_w (fun q9 kb9 kx9 h1 h2 h3 => wb_X7_isWord_20 (l := l) (e := e) (below := below) (u := u) hR X a1 ea1 q9 kb9 kx9 h1 h2 h3) z_F _ _ h
    refine hw (fun t6 h => ?_)
    refine z_iconst X (v := 1) dX7_isWord_55 (by decide) ?_
    cases h; exact z_zret X rfl rfl dX7_isWord_56 ⟨rfl, rfl⟩
  · replace h := z_in c1 h
    refine z_iconst X (v := 0) dX7_isWord_16 (by decide) ?_
    cases h; exact z_zret X rfl rfl dX7_isWord_17 ⟨rfl, rfl⟩

theorem lk_X7_takeWord_29 : (Cond.fieldLink RX7 29 RX7 (TX7 6).2.1 (TX7 6).2.2.1) ∈ wsX7_takeWord := by decide +kernel
theorem in_X7_takeWord_X7 : ∀ w ∈ u_ws RX7 TX7 11, w ∈ wsX7_takeWord := fun _ h => List.mem_cons_of_mem _ (List.mem_append_right _ h)
theorem lk_X7_takeWord_26 : (Cond.fieldLink RX7 26 RX7 (TX7 1).2.1 (TX7 1).2.2.1) ∈ wsX7_takeWord := by decide +kernel
theorem lk_X7_takeWord_50 : (Cond.fieldLink RX7 50 RX7 (TX7 7).2.1 (TX7 7).2.2.1) ∈ wsX7_takeWord := by decide +kernel
theorem lk_X7_takeWord_9 : (Cond.fieldLink RX7 9 RX7 (TX7 0).2.1 (TX7 0).2.2.1) ∈ wsX7_takeWord := by decide +kernel
theorem hy_X7_isLetter : yX7_isLetter.cls = RX7 ∧ yX7_isLetter.cls ≠ "java/lang/invoke/MethodHandle" ∧ yX7_isLetter.cls ≠ "java/lang/invoke/VarHandle" ∧ (parseMethodDescriptor yX7_isLetter.desc).map (fun d => d.parameters.length) = some 1 := by decide +kernel
theorem hy_X7_isWord : yX7_isWord.cls = RX7 ∧ yX7_isWord.cls ≠ "java/lang/invoke/MethodHandle" ∧ yX7_isWord.cls ≠ "java/lang/invoke/VarHandle" ∧ (parseMethodDescriptor yX7_isWord.desc).map (fun d => d.parameters.length) = some 1 := by decide +kernel
def b_X7_takeWord_0  : z_M → (z_M → Option (z_M)) → (z_M → Option (z_M)) → Option (z_M) := fun q kb kx =>
  if (z_gI q 81 1) ≤ (z_gI q 81 6) then (kx q) else (z_gd (z_inb (z_gI q 81 6) 400) (Option.bind (f_X7_isLetter (z_gI q 82 (z_gI q 81 6).toNatClampNeg)) (fun r28 => if r28 = 0 then (kx q) else (z_lt (z_sI q 81 6 ((z_gI q 81 6) + 1)) (fun u30 => kb u30)))))
def f_X7_takeWord (u : z_M) : Option (z_M) :=
  if (z_gI u 81 1) ≤ (z_gI u 81 6) then (Option.bind (f_X7_isWord 0 u) (fun r2 => if r2 = 0 then (Option.bind (f_X7_isWord 1 u) (fun r4 => if r4 = 0 then (Option.bind (f_X7_isWord 2 u) (fun r6 => if r6 = 0 then (z_lt (z_sI u 81 7 7) (fun u8 => some u8)) else (z_lt (z_sI u 81 7 3) (fun u9 => some u9)))) else (z_lt (z_sI u 81 7 2) (fun u10 => some u10)))) else (z_lt (z_sI u 81 7 1) (fun u11 => some u11)))) else (z_gd (z_inb (z_gI u 81 6) 400) (Option.bind (f_X7_isLetter (z_gI u 82 (z_gI u 81 6).toNatClampNeg)) (fun r13 => if r13 = 0 then (Option.bind (f_X7_isWord 0 u) (fun r15 => if r15 = 0 then (Option.bind (f_X7_isWord 1 u) (fun r17 => if r17 = 0 then (Option.bind (f_X7_isWord 2 u) (fun r19 => if r19 = 0 then (z_lt (z_sI u 81 7 7) (fun u21 => some u21)) else (z_lt (z_sI u 81 7 3) (fun u22 => some u22)))) else (z_lt (z_sI u 81 7 2) (fun u23 => some u23)))) else (z_lt (z_sI u 81 7 1) (fun u24 => some u24)))) else (z_lt (z_sI u 81 6 ((z_gI u 81 6) + 1)) (fun u25 => z_lp b_X7_takeWord_0 z_F u25 (fun t31 => Option.bind (f_X7_isWord 0 t31) (fun r32 => if r32 = 0 then (Option.bind (f_X7_isWord 1 t31) (fun r34 => if r34 = 0 then (Option.bind (f_X7_isWord 2 t31) (fun r36 => if r36 = 0 then (z_lt (z_sI t31 81 7 7) (fun u38 => some u38)) else (z_lt (z_sI t31 81 7 3) (fun u39 => some u39)))) else (z_lt (z_sI t31 81 7 2) (fun u40 => some u40)))) else (z_lt (z_sI t31 81 7 1) (fun u41 => some u41)))))))))
set_option maxRecDepth 20000 in
set_option maxHeartbeats 4000000 in
theorem wb_X7_takeWord_0 {p : Program} {l : Launch} {e : Env} {R : Room} {s : State} {m : MethodId} {args : Array Value} {below : List Frame} {meth : Method} {c : Code} {g : z_G} {u : z_M} {res : z_M} (hR : R = z_rm 8) (X : z_X p R s m args meth c cX7_takeWord 1 RX7 wsX7_takeWord none g z_shC)  (q : z_M) (kb : z_M → Option (z_M)) (kx : z_M → Option (z_M)) (hkb : ∀ q, kb q = some res → z_V p l e R s m args below meth c 1 g z_shC (MQ below (z_Qc g z_shC (fun v u' => v = none ∧ u' = res)) args s 0 0 (z_A g z_shC)) 0 [(0, .ref (z_ad g 81))] [] q) (hkx : ∀ t, kx t = some res → z_V p l e R s m args below meth c 1 g z_shC (MQ below (z_Qc g z_shC (fun v u' => v = none ∧ u' = res)) args s 0 0 (z_A g z_shC)) 39 [(0, .ref (z_ad g 81))] [] t) (h : b_X7_takeWord_0 q kb kx = some res) : z_V p l e R s m args below meth c 1 g z_shC (MQ below (z_Qc g z_shC (fun v u' => v = none ∧ u' = res)) args s 0 0 (z_A g z_shC)) 0 [(0, .ref (z_ad g 81))] [] q := by
  unfold b_X7_takeWord_0 at h
  refine z_aload_n X 0 dX7_takeWord_0 rfl rfl (z_getI X (k0 := 6) z_c81 rfl in_X7_takeWord_X7 (by decide) rfl rfl lk_X7_takeWord_29 dX7_takeWord_1 (z_aload_n X 0 dX7_takeWord_4 rfl rfl (z_getI X (k0 := 1) z_c81 rfl in_X7_takeWord_X7 (by decide) rfl rfl lk_X7_takeWord_26 dX7_takeWord_5 (z_icmp_ge X 39 dX7_takeWord_8 (by decide) (fun c26 => ?_) (fun c26 => ?_)))))
  · replace h := z_ip c26 h
    exact hkx q h
  · replace h := z_in c26 h
    obtain ⟨b27, h⟩ := z_gs h
    obtain ⟨r28, er28, h⟩ := z_bs h
    refine z_aload_n X 0 dX7_takeWord_11 rfl rfl (z_getR X (k0 := 0) z_c81 rfl in_X7_takeWord_X7 (by decide) rfl rfl lk_X7_takeWord_9 dX7_takeWord_12 (z_aload_n X 0 dX7_takeWord_15 rfl rfl (z_getI X (k0 := 6) z_c81 rfl in_X7_takeWord_X7 (by decide) rfl rfl lk_X7_takeWord_29 dX7_takeWord_16 (z_cald X z_c82 (z_inS b27) dX7_takeWord_19 (z_callSi X (r := r28) (u1 := q) [.int (z_gI q 82 (z_gI q 81 6).toNatClampNeg)] [] (w_X7_isLetter l g (z_gI q 82 (z_gI q 81 6).toNatClampNeg) q er28) gX7_takeWord_X7_isLetter hy_X7_isLetter.2 rfl (z_le1 hR (by decide)) (z_le2 hR (by decide) (by decide)) (Nat.le_of_ble_eq_true rfl) dX7_takeWord_20 (z_if_eq X 39 dX7_takeWord_23 (by decide) (fun c29 => ?_) (fun c29 => ?_)))))))
    · replace h := z_ip c29 h
      exact hkx q h
    · replace h := z_in c29 h
      obtain ⟨u30, eu30, h⟩ := z_ls h
      refine z_aload_n X 0 dX7_takeWord_26 rfl rfl (z_dup X dX7_takeWord_27 rfl (z_getI X (k0 := 6) z_c81 rfl in_X7_takeWord_X7 (by decide) rfl rfl lk_X7_takeWord_29 dX7_takeWord_28 (z_iconst X (v := 1) dX7_takeWord_31 (by decide) (z_iadd X dX7_takeWord_32 (z_putI X (k0 := 6) (ty0 := tyX7) z_c81 rfl in_X7_takeWord_X7 tyX7_ok nmX7 (by decide) rfl rfl rfl rfl rfl lk_X7_takeWord_29 dX7_takeWord_33 (z_nm eu30 (z_goto X 0 dX7_takeWord_36 (by decide) ?_)))))))
      exact hkb u30 h
set_option maxRecDepth 20000 in
set_option maxHeartbeats 4000000 in
theorem w_X7_takeWord (l : Launch) (g : z_G)  (u : z_M) {res : z_M} (h : f_X7_takeWord u = some res) : z_C l g z_shC yX7_takeWord wsX7_takeWord 8 [.ref (z_ad g 81)] u (fun v u' => v = none ∧ u' = res) := by
  refine z_C.mk (lv := [(0, .ref (z_ad g 81))]) (cc := cX7_takeWord) (nL := 1) (rt := none) rfl (by decide) (Nat.le_of_ble_eq_true rfl) rfl (fun p e R s m args below meth c hR X => ?_)
  unfold f_X7_takeWord at h
  refine z_aload_n X 0 dX7_takeWord_0 rfl rfl (z_getI X (k0 := 6) z_c81 rfl in_X7_takeWord_X7 (by decide) rfl rfl lk_X7_takeWord_29 dX7_takeWord_1 (z_aload_n X 0 dX7_takeWord_4 rfl rfl (z_getI X (k0 := 1) z_c81 rfl in_X7_takeWord_X7 (by decide) rfl rfl lk_X7_takeWord_26 dX7_takeWord_5 (z_icmp_ge X 39 dX7_takeWord_8 (by decide) (fun c1 => ?_) (fun c1 => ?_)))))
  · replace h := z_ip c1 h
    obtain ⟨r2, er2, h⟩ := z_bs h
    refine z_aload_n X 0 dX7_takeWord_39 rfl rfl (z_aload_n X 0 dX7_takeWord_40 rfl rfl (z_ldcS0_RX7 X dX7_takeWord_41 (z_callVi X (r := r2) (u1 := u) [.ref (g.2.2.2.1 0)] [.ref (z_ad g 81)] (w_X7_isWord l g 0 (by decide) u er2) z_c81 rfl gX7_takeWord_X7_isWord hy_X7_isWord rfl (z_le1 hR (by decide)) (z_le2 hR (by decide) (by decide)) (Nat.le_of_ble_eq_true rfl) dX7_takeWord_43 (z_if_eq X 53 dX7_takeWord_46 (by decide) (fun c3 => ?_) (fun c3 => ?_)))))
    · replace h := z_ip c3 h
      obtain ⟨r4, er4, h⟩ := z_bs h
      refine z_aload_n X 0 dX7_takeWord_53 rfl rfl (z_ldcS1_RX7 X dX7_takeWord_54 (z_callVi X (r := r4) (u1 := u) [.ref (g.2.2.2.1 1)] [.ref (z_ad g 81)] (w_X7_isWord l g 1 (by decide) u er4) z_c81 rfl gX7_takeWord_X7_isWord hy_X7_isWord rfl (z_le1 hR (by decide)) (z_le2 hR (by decide) (by decide)) (Nat.le_of_ble_eq_true rfl) dX7_takeWord_56 (z_if_eq X 66 dX7_takeWord_59 (by decide) (fun c5 => ?_) (fun c5 => ?_))))
      · replace h := z_ip c5 h
        obtain ⟨r6, er6, h⟩ := z_bs h
        refine z_aload_n X 0 dX7_takeWord_66 rfl rfl (z_ldcS2_RX7 X dX7_takeWord_67 (z_callVi X (r := r6) (u1 := u) [.ref (g.2.2.2.1 2)] [.ref (z_ad g 81)] (w_X7_isWord l g 2 (by decide) u er6) z_c81 rfl gX7_takeWord_X7_isWord hy_X7_isWord rfl (z_le1 hR (by decide)) (z_le2 hR (by decide) (by decide)) (Nat.le_of_ble_eq_true rfl) dX7_takeWord_69 (z_if_eq X 79 dX7_takeWord_72 (by decide) (fun c7 => ?_) (fun c7 => ?_))))
        · replace h := z_ip c7 h
          obtain ⟨u8, eu8, h⟩ := z_ls h
          refine z_bipush X (v := 7) dX7_takeWord_79 (by decide) (z_putI X (k0 := 7) (ty0 := tyX7) z_c81 rfl in_X7_takeWord_X7 tyX7_ok nmX7 (by decide) rfl rfl rfl rfl rfl lk_X7_takeWord_50 dX7_takeWord_81 (z_nm eu8 ?_))
          cases h; exact z_vret X rfl dX7_takeWord_84 ⟨rfl, rfl⟩
        · replace h := z_in c7 h
          obtain ⟨u9, eu9, h⟩ := z_ls h
          refine z_iconst X (v := 3) dX7_takeWord_75 (by decide) (z_goto X 81 dX7_takeWord_76 (by decide) (z_putI X (k0 := 7) (ty0 := tyX7) z_c81 rfl in_X7_takeWord_X7 tyX7_ok nmX7 (by decide) rfl rfl rfl rfl rfl lk_X7_takeWord_50 dX7_takeWord_81 (z_nm eu9 ?_)))
          cases h; exact z_vret X rfl dX7_takeWord_84 ⟨rfl, rfl⟩
      · replace h := z_in c5 h
        obtain ⟨u10, eu10, h⟩ := z_ls h
        refine z_iconst X (v := 2) dX7_takeWord_62 (by decide) (z_goto X 81 dX7_takeWord_63 (by decide) (z_putI X (k0 := 7) (ty0 := tyX7) z_c81 rfl in_X7_takeWord_X7 tyX7_ok nmX7 (by decide) rfl rfl rfl rfl rfl lk_X7_takeWord_50 dX7_takeWord_81 (z_nm eu10 ?_)))
        cases h; exact z_vret X rfl dX7_takeWord_84 ⟨rfl, rfl⟩
    · replace h := z_in c3 h
      obtain ⟨u11, eu11, h⟩ := z_ls h
      refine z_iconst X (v := 1) dX7_takeWord_49 (by decide) (z_goto X 81 dX7_takeWord_50 (by decide) (z_putI X (k0 := 7) (ty0 := tyX7) z_c81 rfl in_X7_takeWord_X7 tyX7_ok nmX7 (by decide) rfl rfl rfl rfl rfl lk_X7_takeWord_50 dX7_takeWord_81 (z_nm eu11 ?_)))
      cases h; exact z_vret X rfl dX7_takeWord_84 ⟨rfl, rfl⟩
  · replace h := z_in c1 h
    obtain ⟨b12, h⟩ := z_gs h
    obtain ⟨r13, er13, h⟩ := z_bs h
    refine z_aload_n X 0 dX7_takeWord_11 rfl rfl (z_getR X (k0 := 0) z_c81 rfl in_X7_takeWord_X7 (by decide) rfl rfl lk_X7_takeWord_9 dX7_takeWord_12 (z_aload_n X 0 dX7_takeWord_15 rfl rfl (z_getI X (k0 := 6) z_c81 rfl in_X7_takeWord_X7 (by decide) rfl rfl lk_X7_takeWord_29 dX7_takeWord_16 (z_cald X z_c82 (z_inS b12) dX7_takeWord_19 (z_callSi X (r := r13) (u1 := u) [.int (z_gI u 82 (z_gI u 81 6).toNatClampNeg)] [] (w_X7_isLetter l g (z_gI u 82 (z_gI u 81 6).toNatClampNeg) u er13) gX7_takeWord_X7_isLetter hy_X7_isLetter.2 rfl (z_le1 hR (by decide)) (z_le2 hR (by decide) (by decide)) (Nat.le_of_ble_eq_true rfl) dX7_takeWord_20 (z_if_eq X 39 dX7_takeWord_23 (by decide) (fun c14 => ?_) (fun c14 => ?_)))))))
    · replace h := z_ip c14 h
      obtain ⟨r15, er15, h⟩ := z_bs h
      refine z_aload_n X 0 dX7_takeWord_39 rfl rfl (z_aload_n X 0 dX7_takeWord_40 rfl rfl (z_ldcS0_RX7 X dX7_takeWord_41 (z_callVi X (r := r15) (u1 := u) [.ref (g.2.2.2.1 0)] [.ref (z_ad g 81)] (w_X7_isWord l g 0 (by decide) u er15) z_c81 rfl gX7_takeWord_X7_isWord hy_X7_isWord rfl (z_le1 hR (by decide)) (z_le2 hR (by decide) (by decide)) (Nat.le_of_ble_eq_true rfl) dX7_takeWord_43 (z_if_eq X 53 dX7_takeWord_46 (by decide) (fun c16 => ?_) (fun c16 => ?_)))))
      · replace h := z_ip c16 h
        obtain ⟨r17, er17, h⟩ := z_bs h
        refine z_aload_n X 0 dX7_takeWord_53 rfl rfl (z_ldcS1_RX7 X dX7_takeWord_54 (z_callVi X (r := r17) (u1 := u) [.ref (g.2.2.2.1 1)] [.ref (z_ad g 81)] (w_X7_isWord l g 1 (by decide) u er17) z_c81 rfl gX7_takeWord_X7_isWord hy_X7_isWord rfl (z_le1 hR (by decide)) (z_le2 hR (by decide) (by decide)) (Nat.le_of_ble_eq_true rfl) dX7_takeWord_56 (z_if_eq X 66 dX7_takeWord_59 (by decide) (fun c18 => ?_) (fun c18 => ?_))))
        · replace h := z_ip c18 h
          obtain ⟨r19, er19, h⟩ := z_bs h
          refine z_aload_n X 0 dX7_takeWord_66 rfl rfl (z_ldcS2_RX7 X dX7_takeWord_67 (z_callVi X (r := r19) (u1 := u) [.ref (g.2.2.2.1 2)] [.ref (z_ad g 81)] (w_X7_isWord l g 2 (by decide) u er19) z_c81 rfl gX7_takeWord_X7_isWord hy_X7_isWord rfl (z_le1 hR (by decide)) (z_le2 hR (by decide) (by decide)) (Nat.le_of_ble_eq_true rfl) dX7_takeWord_69 (z_if_eq X 79 dX7_takeWord_72 (by decide) (fun c20 => ?_) (fun c20 => ?_))))
          · replace h := z_ip c20 h
            obtain ⟨u21, eu21, h⟩ := z_ls h
            refine z_bipush X (v := 7) dX7_takeWord_79 (by decide) (z_putI X (k0 := 7) (ty0 := tyX7) z_c81 rfl in_X7_takeWord_X7 tyX7_ok nmX7 (by decide) rfl rfl rfl rfl rfl lk_X7_takeWord_50 dX7_takeWord_81 (z_nm eu21 ?_))
            cases h; exact z_vret X rfl dX7_takeWord_84 ⟨rfl, rfl⟩
          · replace h := z_in c20 h
            obtain ⟨u22, eu22, h⟩ := z_ls h
            refine z_iconst X (v := 3) dX7_takeWord_75 (by decide) (z_goto X 81 dX7_takeWord_76 (by decide) (z_putI X (k0 := 7) (ty0 := tyX7) z_c81 rfl in_X7_takeWord_X7 tyX7_ok nmX7 (by decide) rfl rfl rfl rfl rfl lk_X7_takeWord_50 dX7_takeWord_81 (z_nm eu22 ?_)))
            cases h; exact z_vret X rfl dX7_takeWord_84 ⟨rfl, rfl⟩
        · replace h := z_in c18 h
          obtain ⟨u23, eu23, h⟩ := z_ls h
          refine z_iconst X (v := 2) dX7_takeWord_62 (by decide) (z_goto X 81 dX7_takeWord_63 (by decide) (z_putI X (k0 := 7) (ty0 := tyX7) z_c81 rfl in_X7_takeWord_X7 tyX7_ok nmX7 (by decide) rfl rfl rfl rfl rfl lk_X7_takeWord_50 dX7_takeWord_81 (z_nm eu23 ?_)))
          cases h; exact z_vret X rfl dX7_takeWord_84 ⟨rfl, rfl⟩
      · replace h := z_in c16 h
        obtain ⟨u24, eu24, h⟩ := z_ls h
        refine z_iconst X (v := 1) dX7_takeWord_49 (by decide) (z_goto X 81 dX7_takeWord_50 (by decide) (z_putI X (k0 := 7) (ty0 := tyX7) z_c81 rfl in_X7_takeWord_X7 tyX7_ok nmX7 (by decide) rfl rfl rfl rfl rfl lk_X7_takeWord_50 dX7_takeWord_81 (z_nm eu24 ?_)))
        cases h; exact z_vret X rfl dX7_takeWord_84 ⟨rfl, rfl⟩
    · replace h := z_in c14 h
      obtain ⟨u25, eu25, h⟩ := z_ls h
      refine z_aload_n X 0 dX7_takeWord_26 rfl rfl (z_dup X dX7_takeWord_27 rfl (z_getI X (k0 := 6) z_c81 rfl in_X7_takeWord_X7 (by decide) rfl rfl lk_X7_takeWord_29 dX7_takeWord_28 (z_iconst X (v := 1) dX7_takeWord_31 (by decide) (z_iadd X dX7_takeWord_32 (z_putI X (k0 := 6) (ty0 := tyX7) z_c81 rfl in_X7_takeWord_X7 tyX7_ok nmX7 (by decide) rfl rfl rfl rfl rfl lk_X7_takeWord_29 dX7_takeWord_33 (z_nm eu25 (z_goto X 0 dX7_takeWord_36 (by decide) ?_)))))))
      have hw := z_lp_w (fun q9 kb9 kx9 h1 h2 h3 => wb_X7_takeWord_0 (l := l) (e := e) (below := below) (u := u25) hR X q9 kb9 kx9 h1 h2 h3) z_F _ _ h
      refine hw (fun t31 h => ?_)
      obtain ⟨r32, er32, h⟩ := z_bs h
      refine z_aload_n X 0 dX7_takeWord_39 rfl rfl (z_aload_n X 0 dX7_takeWord_40 rfl rfl (z_ldcS0_RX7 X dX7_takeWord_41 (z_callVi X (r := r32) (u1 := t31) [.ref (g.2.2.2.1 0)] [.ref (z_ad g 81)] (w_X7_isWord l g 0 (by decide) t31 er32) z_c81 rfl gX7_takeWord_X7_isWord hy_X7_isWord rfl (z_le1 hR (by decide)) (z_le2 hR (by decide) (by decide)) (Nat.le_of_ble_eq_true rfl) dX7_takeWord_43 (z_if_eq X 53 dX7_takeWord_46 (by decide) (fun c33 => ?_) (fun c33 => ?_)))))
      · replace h := z_ip c33 h
        obtain ⟨r34, er34, h⟩ := z_bs h
        refine z_aload_n X 0 dX7_takeWord_53 rfl rfl (z_ldcS1_RX7 X dX7_takeWord_54 (z_callVi X (r := r34) (u1 := t31) [.ref (g.2.2.2.1 1)] [.ref (z_ad g 81)] (w_X7_isWord l g 1 (by decide) t31 er34) z_c81 rfl gX7_takeWord_X7_isWord hy_X7_isWord rfl (z_le1 hR (by decide)) (z_le2 hR (by decide) (by decide)) (Nat.le_of_ble_eq_true rfl) dX7_takeWord_56 (z_if_eq X 66 dX7_takeWord_59 (by decide) (fun c35 => ?_) (fun c35 => ?_))))
        · replace h := z_ip c35 h
          obtain ⟨r36, er36, h⟩ := z_bs h
          refine z_aload_n X 0 dX7_takeWord_66 rfl rfl (z_ldcS2_RX7 X dX7_takeWord_67 (z_callVi X (r := r36) (u1 := t31) [.ref (g.2.2.2.1 2)] [.ref (z_ad g 81)] (w_X7_isWord l g 2 (by decide) t31 er36) z_c81 rfl gX7_takeWord_X7_isWord hy_X7_isWord rfl (z_le1 hR (by decide)) (z_le2 hR (by decide) (by decide)) (Nat.le_of_ble_eq_true rfl) dX7_takeWord_69 (z_if_eq X 79 dX7_takeWord_72 (by decide) (fun c37 => ?_) (fun c37 => ?_))))
          · replace h := z_ip c37 h
            obtain ⟨u38, eu38, h⟩ := z_ls h
            refine z_bipush X (v := 7) dX7_takeWord_79 (by decide) (z_putI X (k0 := 7) (ty0 := tyX7) z_c81 rfl in_X7_takeWord_X7 tyX7_ok nmX7 (by decide) rfl rfl rfl rfl rfl lk_X7_takeWord_50 dX7_takeWord_81 (z_nm eu38 ?_))
            cases h; exact z_vret X rfl dX7_takeWord_84 ⟨rfl, rfl⟩
          · replace h := z_in c37 h
            obtain ⟨u39, eu39, h⟩ := z_ls h
            refine z_iconst X (v := 3) dX7_takeWord_75 (by decide) (z_goto X 81 dX7_takeWord_76 (by decide) (z_putI X (k0 := 7) (ty0 := tyX7) z_c81 rfl in_X7_takeWord_X7 tyX7_ok nmX7 (by decide) rfl rfl rfl rfl rfl lk_X7_takeWord_50 dX7_takeWord_81 (z_nm eu39 ?_)))
            cases h; exact z_vret X rfl dX7_takeWord_84 ⟨rfl, rfl⟩
        · replace h := z_in c35 h
          obtain ⟨u40, eu40, h⟩ := z_ls h
          refine z_iconst X (v := 2) dX7_takeWord_62 (by decide) (z_goto X 81 dX7_takeWord_63 (by decide) (z_putI X (k0 := 7) (ty0 := tyX7) z_c81 rfl in_X7_takeWord_X7 tyX7_ok nmX7 (by decide) rfl rfl rfl rfl rfl lk_X7_takeWord_50 dX7_takeWord_81 (z_nm eu40 ?_)))
          cases h; exact z_vret X rfl dX7_takeWord_84 ⟨rfl, rfl⟩
      · replace h := z_in c33 h
        obtain ⟨u41, eu41, h⟩ := z_ls h
        refine z_iconst X (v := 1) dX7_takeWord_49 (by decide) (z_goto X 81 dX7_takeWord_50 (by decide) (z_putI X (k0 := 7) (ty0 := tyX7) z_c81 rfl in_X7_takeWord_X7 tyX7_ok nmX7 (by decide) rfl rfl rfl rfl rfl lk_X7_takeWord_50 dX7_takeWord_81 (z_nm eu41 ?_)))
        cases h; exact z_vret X rfl dX7_takeWord_84 ⟨rfl, rfl⟩

def f_X7_isDigit (a1 : Int32) : Option (Int32) :=
  if a1 < 48 then (some 0) else (if 57 < a1 then (some 0) else (some 1))
set_option maxRecDepth 20000 in
set_option maxHeartbeats 4000000 in
theorem w_X7_isDigit (l : Launch) (g : z_G) (a1 : Int32) (u : z_M) {res : Int32} (h : f_X7_isDigit a1 = some res) : z_C l g z_shC yX7_isDigit wsX7_isDigit 1 [.int a1] u (fun v u' => v = some (.int res) ∧ u' = u) := by
  refine z_C.mk (lv := [(0, .int a1)]) (cc := cX7_isDigit) (nL := 1) (rt := (some .boolean)) rfl (by decide) (Nat.le_of_ble_eq_true rfl) rfl (fun p e R s m args below meth c hR X => ?_)
  unfold f_X7_isDigit at h
  refine z_iload_n X 0 dX7_isDigit_0 rfl rfl (z_bipush X (v := 48) dX7_isDigit_1 (by decide) (z_icmp_lt X 16 dX7_isDigit_3 (by decide) (fun c1 => ?_) (fun c1 => ?_)))
  · replace h := z_ip c1 h
    refine z_iconst X (v := 0) dX7_isDigit_16 (by decide) ?_
    cases h; exact z_zret X rfl rfl dX7_isDigit_17 ⟨rfl, rfl⟩
  · replace h := z_in c1 h
    refine z_iload_n X 0 dX7_isDigit_6 rfl rfl (z_bipush X (v := 57) dX7_isDigit_7 (by decide) (z_icmp_gt X 16 dX7_isDigit_9 (by decide) (fun c2 => ?_) (fun c2 => ?_)))
    · replace h := z_ip c2 h
      refine z_iconst X (v := 0) dX7_isDigit_16 (by decide) ?_
      cases h; exact z_zret X rfl rfl dX7_isDigit_17 ⟨rfl, rfl⟩
    · replace h := z_in c2 h
      refine z_iconst X (v := 1) dX7_isDigit_12 (by decide) (z_goto X 17 dX7_isDigit_13 (by decide) ?_)
      cases h; exact z_zret X rfl rfl dX7_isDigit_17 ⟨rfl, rfl⟩

theorem lk_X7_takeNumber_50 : (Cond.fieldLink RX7 50 RX7 (TX7 7).2.1 (TX7 7).2.2.1) ∈ wsX7_takeNumber := by decide +kernel
theorem in_X7_takeNumber_X7 : ∀ w ∈ u_ws RX7 TX7 11, w ∈ wsX7_takeNumber := by decide +kernel
theorem lk_X7_takeNumber_94 : (Cond.fieldLink RX7 94 RX7 (TX7 9).2.1 (TX7 9).2.2.1) ∈ wsX7_takeNumber := by decide +kernel
theorem lk_X7_takeNumber_74 : (Cond.fieldLink RX7 74 RX7 (TX7 10).2.1 (TX7 10).2.2.1) ∈ wsX7_takeNumber := by decide +kernel
theorem lk_X7_takeNumber_29 : (Cond.fieldLink RX7 29 RX7 (TX7 6).2.1 (TX7 6).2.2.1) ∈ wsX7_takeNumber := by decide +kernel
theorem lk_X7_takeNumber_26 : (Cond.fieldLink RX7 26 RX7 (TX7 1).2.1 (TX7 1).2.2.1) ∈ wsX7_takeNumber := by decide +kernel
theorem lk_X7_takeNumber_9 : (Cond.fieldLink RX7 9 RX7 (TX7 0).2.1 (TX7 0).2.2.1) ∈ wsX7_takeNumber := by decide +kernel
theorem hy_X7_isDigit : yX7_isDigit.cls = RX7 ∧ yX7_isDigit.cls ≠ "java/lang/invoke/MethodHandle" ∧ yX7_isDigit.cls ≠ "java/lang/invoke/VarHandle" ∧ (parseMethodDescriptor yX7_isDigit.desc).map (fun d => d.parameters.length) = some 1 := by decide +kernel
def j_X7_takeNumber_j73 (w : z_M) (kb : z_M → Option (z_M)) (kx : z_M → Option (z_M)) : Option (z_M) :=
  z_lt (z_sI w 81 9 ((z_gI w 81 9) + 1)) (fun u9 => z_lt (z_sI u9 81 6 ((z_gI u9 81 6) + 1)) (fun u10 => kb u10))
def b_X7_takeNumber_15  : z_M → (z_M → Option (z_M)) → (z_M → Option (z_M)) → Option (z_M) := fun q kb kx =>
  if (z_gI q 81 1) ≤ (z_gI q 81 6) then (kx q) else (z_gd (z_inb (z_gI q 81 6) 400) (Option.bind (f_X7_isDigit (z_gI q 82 (z_gI q 81 6).toNatClampNeg)) (fun r6 => if r6 = 0 then (kx q) else (if 2 ≤ (z_gI q 81 9) then (j_X7_takeNumber_j73 q kb kx) else (z_gd (z_inb (z_gI q 81 6) 400) (z_lt (z_sI q 81 10 ((10 * (z_gI q 81 10)) + ((z_gI q 82 (z_gI q 81 6).toNatClampNeg) - 48))) (fun u12 => j_X7_takeNumber_j73 u12 kb kx)))))))
def f_X7_takeNumber (u : z_M) : Option (z_M) :=
  z_lt (z_sI u 81 7 4) (fun u1 => z_lt (z_sI u1 81 9 0) (fun u2 => z_lt (z_sI u2 81 10 0) (fun u3 => z_lp b_X7_takeNumber_15 z_F u3 (fun t13 => some t13))))
set_option maxRecDepth 20000 in
set_option maxHeartbeats 4000000 in
theorem wj_X7_takeNumber_j73 {p : Program} {l : Launch} {e : Env} {R : Room} {s : State} {m : MethodId} {args : Array Value} {below : List Frame} {meth : Method} {c : Code} {g : z_G} {u : z_M} {res : z_M} (hR : R = z_rm 2) (X : z_X p R s m args meth c cX7_takeNumber 1 RX7 wsX7_takeNumber none g z_shC)  (w : z_M) (kb : z_M → Option (z_M)) (kx : z_M → Option (z_M)) (hkb : ∀ q, kb q = some res → z_V p l e R s m args below meth c 1 g z_shC (MQ below (z_Qc g z_shC (fun v u' => v = none ∧ u' = res)) args s 0 0 (z_A g z_shC)) 15 [(0, .ref (z_ad g 81))] [] q) (hkx : ∀ t, kx t = some res → z_V p l e R s m args below meth c 1 g z_shC (MQ below (z_Qc g z_shC (fun v u' => v = none ∧ u' = res)) args s 0 0 (z_A g z_shC)) 96 [] [] t) (h : j_X7_takeNumber_j73 w kb kx = some res) : z_V p l e R s m args below meth c 1 g z_shC (MQ below (z_Qc g z_shC (fun v u' => v = none ∧ u' = res)) args s 0 0 (z_A g z_shC)) 73 [(0, .ref (z_ad g 81))] [] w := by
  unfold j_X7_takeNumber_j73 at h
  obtain ⟨u9, eu9, h⟩ := z_ls h
  obtain ⟨u10, eu10, h⟩ := z_ls h
  refine z_aload_n X 0 dX7_takeNumber_73 rfl rfl (z_dup X dX7_takeNumber_74 rfl (z_getI X (k0 := 9) z_c81 rfl in_X7_takeNumber_X7 (by decide) rfl rfl lk_X7_takeNumber_94 dX7_takeNumber_75 (z_iconst X (v := 1) dX7_takeNumber_78 (by decide) (z_iadd X dX7_takeNumber_79 (z_putI X (k0 := 9) (ty0 := tyX7) z_c81 rfl in_X7_takeNumber_X7 tyX7_ok nmX7 (by decide) rfl rfl rfl rfl rfl lk_X7_takeNumber_94 dX7_takeNumber_80 (z_nm eu9 (z_aload_n X 0 dX7_takeNumber_83 rfl rfl (z_dup X dX7_takeNumber_84 rfl (z_getI X (k0 := 6) z_c81 rfl in_X7_takeNumber_X7 (by decide) rfl rfl lk_X7_takeNumber_29 dX7_takeNumber_85 (z_iconst X (v := 1) dX7_takeNumber_88 (by decide) (z_iadd X dX7_takeNumber_89 (z_putI X (k0 := 6) (ty0 := tyX7) z_c81 rfl in_X7_takeNumber_X7 tyX7_ok nmX7 (by decide) rfl rfl rfl rfl rfl lk_X7_takeNumber_29 dX7_takeNumber_90 (z_nm eu10 (z_goto X 15 dX7_takeNumber_93 (by decide) ?_))))))))))))))
  exact hkb u10 h
set_option maxRecDepth 20000 in
set_option maxHeartbeats 4000000 in
theorem wb_X7_takeNumber_15 {p : Program} {l : Launch} {e : Env} {R : Room} {s : State} {m : MethodId} {args : Array Value} {below : List Frame} {meth : Method} {c : Code} {g : z_G} {u : z_M} {res : z_M} (hR : R = z_rm 2) (X : z_X p R s m args meth c cX7_takeNumber 1 RX7 wsX7_takeNumber none g z_shC)  (q : z_M) (kb : z_M → Option (z_M)) (kx : z_M → Option (z_M)) (hkb : ∀ q, kb q = some res → z_V p l e R s m args below meth c 1 g z_shC (MQ below (z_Qc g z_shC (fun v u' => v = none ∧ u' = res)) args s 0 0 (z_A g z_shC)) 15 [(0, .ref (z_ad g 81))] [] q) (hkx : ∀ t, kx t = some res → z_V p l e R s m args below meth c 1 g z_shC (MQ below (z_Qc g z_shC (fun v u' => v = none ∧ u' = res)) args s 0 0 (z_A g z_shC)) 96 [] [] t) (h : b_X7_takeNumber_15 q kb kx = some res) : z_V p l e R s m args below meth c 1 g z_shC (MQ below (z_Qc g z_shC (fun v u' => v = none ∧ u' = res)) args s 0 0 (z_A g z_shC)) 15 [(0, .ref (z_ad g 81))] [] q := by
  unfold b_X7_takeNumber_15 at h
  refine z_aload_n X 0 dX7_takeNumber_15 rfl rfl (z_getI X (k0 := 6) z_c81 rfl in_X7_takeNumber_X7 (by decide) rfl rfl lk_X7_takeNumber_29 dX7_takeNumber_16 (z_aload_n X 0 dX7_takeNumber_19 rfl rfl (z_getI X (k0 := 1) z_c81 rfl in_X7_takeNumber_X7 (by decide) rfl rfl lk_X7_takeNumber_26 dX7_takeNumber_20 (z_icmp_ge X 96 dX7_takeNumber_23 (by decide) (fun c4 => ?_) (fun c4 => ?_)))))
  · replace h := z_ip c4 h
    refine z_sub [] [] rfl ?_
    exact hkx q h
  · replace h := z_in c4 h
    obtain ⟨b5, h⟩ := z_gs h
    obtain ⟨r6, er6, h⟩ := z_bs h
    refine z_aload_n X 0 dX7_takeNumber_26 rfl rfl (z_getR X (k0 := 0) z_c81 rfl in_X7_takeNumber_X7 (by decide) rfl rfl lk_X7_takeNumber_9 dX7_takeNumber_27 (z_aload_n X 0 dX7_takeNumber_30 rfl rfl (z_getI X (k0 := 6) z_c81 rfl in_X7_takeNumber_X7 (by decide) rfl rfl lk_X7_takeNumber_29 dX7_takeNumber_31 (z_cald X z_c82 (z_inS b5) dX7_takeNumber_34 (z_callSi X (r := r6) (u1 := q) [.int (z_gI q 82 (z_gI q 81 6).toNatClampNeg)] [] (w_X7_isDigit l g (z_gI q 82 (z_gI q 81 6).toNatClampNeg) q er6) gX7_takeNumber_X7_isDigit hy_X7_isDigit.2 rfl (z_le1 hR (by decide)) (z_le2 hR (by decide) (by decide)) (Nat.le_of_ble_eq_true rfl) dX7_takeNumber_35 (z_if_eq X 96 dX7_takeNumber_38 (by decide) (fun c7 => ?_) (fun c7 => ?_)))))))
    · replace h := z_ip c7 h
      refine z_sub [] [] rfl ?_
      exact hkx q h
    · replace h := z_in c7 h
      refine z_aload_n X 0 dX7_takeNumber_41 rfl rfl (z_getI X (k0 := 9) z_c81 rfl in_X7_takeNumber_X7 (by decide) rfl rfl lk_X7_takeNumber_94 dX7_takeNumber_42 (z_iconst X (v := 2) dX7_takeNumber_45 (by decide) (z_icmp_ge X 73 dX7_takeNumber_46 (by decide) (fun c8 => ?_) (fun c8 => ?_))))
      · replace h := z_ip c8 h
        exact wj_X7_takeNumber_j73 (u := q) hR X q kb kx hkb hkx h
      · replace h := z_in c8 h
        obtain ⟨b11, h⟩ := z_gs h
        obtain ⟨u12, eu12, h⟩ := z_ls h
        refine z_aload_n X 0 dX7_takeNumber_49 rfl rfl (z_bipush X (v := 10) dX7_takeNumber_50 (by decide) (z_aload_n X 0 dX7_takeNumber_52 rfl rfl (z_getI X (k0 := 10) z_c81 rfl in_X7_takeNumber_X7 (by decide) rfl rfl lk_X7_takeNumber_74 dX7_takeNumber_53 (z_imul X dX7_takeNumber_56 (z_aload_n X 0 dX7_takeNumber_57 rfl rfl (z_getR X (k0 := 0) z_c81 rfl in_X7_takeNumber_X7 (by decide) rfl rfl lk_X7_takeNumber_9 dX7_takeNumber_58 (z_aload_n X 0 dX7_takeNumber_61 rfl rfl (z_getI X (k0 := 6) z_c81 rfl in_X7_takeNumber_X7 (by decide) rfl rfl lk_X7_takeNumber_29 dX7_takeNumber_62 (z_cald X z_c82 (z_inS b11) dX7_takeNumber_65 (z_bipush X (v := 48) dX7_takeNumber_66 (by decide) (z_isub X dX7_takeNumber_68 (z_iadd X dX7_takeNumber_69 (z_putI X (k0 := 10) (ty0 := tyX7) z_c81 rfl in_X7_takeNumber_X7 tyX7_ok nmX7 (by decide) rfl rfl rfl rfl rfl lk_X7_takeNumber_74 dX7_takeNumber_70 (z_nm eu12 ?_))))))))))))))
        exact wj_X7_takeNumber_j73 (u := u12) hR X u12 kb kx hkb hkx h
set_option maxRecDepth 20000 in
set_option maxHeartbeats 4000000 in
theorem w_X7_takeNumber (l : Launch) (g : z_G)  (u : z_M) {res : z_M} (h : f_X7_takeNumber u = some res) : z_C l g z_shC yX7_takeNumber wsX7_takeNumber 2 [.ref (z_ad g 81)] u (fun v u' => v = none ∧ u' = res) := by
  refine z_C.mk (lv := [(0, .ref (z_ad g 81))]) (cc := cX7_takeNumber) (nL := 1) (rt := none) rfl (by decide) (Nat.le_of_ble_eq_true rfl) rfl (fun p e R s m args below meth c hR X => ?_)
  unfold f_X7_takeNumber at h
  obtain ⟨u1, eu1, h⟩ := z_ls h
  obtain ⟨u2, eu2, h⟩ := z_ls h
  obtain ⟨u3, eu3, h⟩ := z_ls h
  refine z_aload_n X 0 dX7_takeNumber_0 rfl rfl (z_iconst X (v := 4) dX7_takeNumber_1 (by decide) (z_putI X (k0 := 7) (ty0 := tyX7) z_c81 rfl in_X7_takeNumber_X7 tyX7_ok nmX7 (by decide) rfl rfl rfl rfl rfl lk_X7_takeNumber_50 dX7_takeNumber_2 (z_nm eu1 (z_aload_n X 0 dX7_takeNumber_5 rfl rfl (z_iconst X (v := 0) dX7_takeNumber_6 (by decide) (z_putI X (k0 := 9) (ty0 := tyX7) z_c81 rfl in_X7_takeNumber_X7 tyX7_ok nmX7 (by decide) rfl rfl rfl rfl rfl lk_X7_takeNumber_94 dX7_takeNumber_7 (z_nm eu2 (z_aload_n X 0 dX7_takeNumber_10 rfl rfl (z_iconst X (v := 0) dX7_takeNumber_11 (by decide) (z_putI X (k0 := 10) (ty0 := tyX7) z_c81 rfl in_X7_takeNumber_X7 tyX7_ok nmX7 (by decide) rfl rfl rfl rfl rfl lk_X7_takeNumber_74 dX7_takeNumber_12 (z_nm eu3 ?_)))))))))))
  have hw := z_lp_w (fun q9 kb9 kx9 h1 h2 h3 => wb_X7_takeNumber_15 (l := l) (e := e) (below := below) (u := u3) hR X q9 kb9 kx9 h1 h2 h3) z_F _ _ h
  refine hw (fun t13 h => ?_)
  cases h; exact z_vret X rfl dX7_takeNumber_96 ⟨rfl, rfl⟩

theorem lk_X7_nextToken_29 : (Cond.fieldLink RX7 29 RX7 (TX7 6).2.1 (TX7 6).2.2.1) ∈ wsX7_nextToken := by decide +kernel
theorem in_X7_nextToken_X7 : ∀ w ∈ u_ws RX7 TX7 11, w ∈ wsX7_nextToken := fun _ h => List.mem_cons_of_mem _ (List.mem_append_right _ h)
theorem lk_X7_nextToken_26 : (Cond.fieldLink RX7 26 RX7 (TX7 1).2.1 (TX7 1).2.2.1) ∈ wsX7_nextToken := by decide +kernel
theorem lk_X7_nextToken_97 : (Cond.fieldLink RX7 97 RX7 (TX7 8).2.1 (TX7 8).2.2.1) ∈ wsX7_nextToken := by decide +kernel
theorem lk_X7_nextToken_9 : (Cond.fieldLink RX7 9 RX7 (TX7 0).2.1 (TX7 0).2.2.1) ∈ wsX7_nextToken := by decide +kernel
theorem lk_X7_nextToken_50 : (Cond.fieldLink RX7 50 RX7 (TX7 7).2.1 (TX7 7).2.2.1) ∈ wsX7_nextToken := by decide +kernel
theorem hy_X7_takeNumber : yX7_takeNumber.cls = RX7 ∧ yX7_takeNumber.cls ≠ "java/lang/invoke/MethodHandle" ∧ yX7_takeNumber.cls ≠ "java/lang/invoke/VarHandle" ∧ (parseMethodDescriptor yX7_takeNumber.desc).map (fun d => d.parameters.length) = some 0 := by decide +kernel
theorem hy_X7_takeWord : yX7_takeWord.cls = RX7 ∧ yX7_takeWord.cls ≠ "java/lang/invoke/MethodHandle" ∧ yX7_takeWord.cls ≠ "java/lang/invoke/VarHandle" ∧ (parseMethodDescriptor yX7_takeWord.desc).map (fun d => d.parameters.length) = some 0 := by decide +kernel
def b_X7_nextToken_0  : z_M → (z_M → Option (z_M)) → (z_M → Option (z_M)) → Option (z_M) := fun q kb kx =>
  if (z_gI q 81 1) ≤ (z_gI q 81 6) then (kx q) else (z_gd (z_inb (z_gI q 81 6) 400) (if (z_gI q 82 (z_gI q 81 6).toNatClampNeg) = 32 then (z_lt (z_sI q 81 6 ((z_gI q 81 6) + 1)) (fun u29 => kb u29)) else (z_gd (z_inb (z_gI q 81 6) 400) (if (z_gI q 82 (z_gI q 81 6).toNatClampNeg) = 10 then (z_lt (z_sI q 81 6 ((z_gI q 81 6) + 1)) (fun u32 => kb u32)) else (kx q)))))
def f_X7_nextToken (u : z_M) : Option (z_M) :=
  if (z_gI u 81 1) ≤ (z_gI u 81 6) then (z_lt (z_sI u 81 8 (z_gI u 81 6)) (fun u2 => if (z_gI u2 81 6) < (z_gI u2 81 1) then (z_gd (z_inb (z_gI u2 81 6) 400) (Option.bind (f_X7_isLetter (z_gI u2 82 (z_gI u2 81 6).toNatClampNeg)) (fun r5 => if r5 = 0 then (z_gd (z_inb (z_gI u2 81 6) 400) (Option.bind (f_X7_isDigit (z_gI u2 82 (z_gI u2 81 6).toNatClampNeg)) (fun r8 => if r8 = 0 then (z_gd (z_inb (z_gI u2 81 6) 400) (if (z_gI u2 82 (z_gI u2 81 6).toNatClampNeg) = 59 then (z_lt (z_sI u2 81 7 5) (fun u12 => z_lt (z_sI u12 81 6 ((z_gI u12 81 6) + 1)) (fun u13 => some u13))) else (z_gd (z_inb (z_gI u2 81 6) 400) (if (z_gI u2 82 (z_gI u2 81 6).toNatClampNeg) = 60 then (z_lt (z_sI u2 81 7 6) (fun u16 => z_lt (z_sI u16 81 6 ((z_gI u16 81 6) + 1)) (fun u17 => some u17))) else (z_lt (z_sI u2 81 7 7) (fun u18 => z_lt (z_sI u18 81 6 ((z_gI u18 81 6) + 1)) (fun u19 => some u19))))))) else (Option.bind (f_X7_takeNumber u2) (fun r20 => some r20))))) else (Option.bind (f_X7_takeWord u2) (fun r21 => some r21))))) else (z_lt (z_sI u2 81 7 0) (fun u22 => some u22)))) else (z_gd (z_inb (z_gI u 81 6) 400) (if (z_gI u 82 (z_gI u 81 6).toNatClampNeg) = 32 then (z_lt (z_sI u 81 6 ((z_gI u 81 6) + 1)) (fun u25 => z_lp b_X7_nextToken_0 z_F u25 (fun t33 => z_lt (z_sI t33 81 8 (z_gI t33 81 6)) (fun u34 => if (z_gI u34 81 6) < (z_gI u34 81 1) then (z_gd (z_inb (z_gI u34 81 6) 400) (Option.bind (f_X7_isLetter (z_gI u34 82 (z_gI u34 81 6).toNatClampNeg)) (fun r37 => if r37 = 0 then (z_gd (z_inb (z_gI u34 81 6) 400) (Option.bind (f_X7_isDigit (z_gI u34 82 (z_gI u34 81 6).toNatClampNeg)) (fun r40 => if r40 = 0 then (z_gd (z_inb (z_gI u34 81 6) 400) (if (z_gI u34 82 (z_gI u34 81 6).toNatClampNeg) = 59 then (z_lt (z_sI u34 81 7 5) (fun u44 => z_lt (z_sI u44 81 6 ((z_gI u44 81 6) + 1)) (fun u45 => some u45))) else (z_gd (z_inb (z_gI u34 81 6) 400) (if (z_gI u34 82 (z_gI u34 81 6).toNatClampNeg) = 60 then (z_lt (z_sI u34 81 7 6) (fun u48 => z_lt (z_sI u48 81 6 ((z_gI u48 81 6) + 1)) (fun u49 => some u49))) else (z_lt (z_sI u34 81 7 7) (fun u50 => z_lt (z_sI u50 81 6 ((z_gI u50 81 6) + 1)) (fun u51 => some u51))))))) else (Option.bind (f_X7_takeNumber u34) (fun r52 => some r52))))) else (Option.bind (f_X7_takeWord u34) (fun r53 => some r53))))) else (z_lt (z_sI u34 81 7 0) (fun u54 => some u54)))))) else (z_gd (z_inb (z_gI u 81 6) 400) (if (z_gI u 82 (z_gI u 81 6).toNatClampNeg) = 10 then (z_lt (z_sI u 81 6 ((z_gI u 81 6) + 1)) (fun u57 => z_lp b_X7_nextToken_0 z_F u57 (fun t58 => z_lt (z_sI t58 81 8 (z_gI t58 81 6)) (fun u59 => if (z_gI u59 81 6) < (z_gI u59 81 1) then (z_gd (z_inb (z_gI u59 81 6) 400) (Option.bind (f_X7_isLetter (z_gI u59 82 (z_gI u59 81 6).toNatClampNeg)) (fun r62 => if r62 = 0 then (z_gd (z_inb (z_gI u59 81 6) 400) (Option.bind (f_X7_isDigit (z_gI u59 82 (z_gI u59 81 6).toNatClampNeg)) (fun r65 => if r65 = 0 then (z_gd (z_inb (z_gI u59 81 6) 400) (if (z_gI u59 82 (z_gI u59 81 6).toNatClampNeg) = 59 then (z_lt (z_sI u59 81 7 5) (fun u69 => z_lt (z_sI u69 81 6 ((z_gI u69 81 6) + 1)) (fun u70 => some u70))) else (z_gd (z_inb (z_gI u59 81 6) 400) (if (z_gI u59 82 (z_gI u59 81 6).toNatClampNeg) = 60 then (z_lt (z_sI u59 81 7 6) (fun u73 => z_lt (z_sI u73 81 6 ((z_gI u73 81 6) + 1)) (fun u74 => some u74))) else (z_lt (z_sI u59 81 7 7) (fun u75 => z_lt (z_sI u75 81 6 ((z_gI u75 81 6) + 1)) (fun u76 => some u76))))))) else (Option.bind (f_X7_takeNumber u59) (fun r77 => some r77))))) else (Option.bind (f_X7_takeWord u59) (fun r78 => some r78))))) else (z_lt (z_sI u59 81 7 0) (fun u79 => some u79)))))) else (z_lt (z_sI u 81 8 (z_gI u 81 6)) (fun u80 => if (z_gI u80 81 6) < (z_gI u80 81 1) then (z_gd (z_inb (z_gI u80 81 6) 400) (Option.bind (f_X7_isLetter (z_gI u80 82 (z_gI u80 81 6).toNatClampNeg)) (fun r83 => if r83 = 0 then (z_gd (z_inb (z_gI u80 81 6) 400) (Option.bind (f_X7_isDigit (z_gI u80 82 (z_gI u80 81 6).toNatClampNeg)) (fun r86 => if r86 = 0 then (z_gd (z_inb (z_gI u80 81 6) 400) (if (z_gI u80 82 (z_gI u80 81 6).toNatClampNeg) = 59 then (z_lt (z_sI u80 81 7 5) (fun u90 => z_lt (z_sI u90 81 6 ((z_gI u90 81 6) + 1)) (fun u91 => some u91))) else (z_gd (z_inb (z_gI u80 81 6) 400) (if (z_gI u80 82 (z_gI u80 81 6).toNatClampNeg) = 60 then (z_lt (z_sI u80 81 7 6) (fun u94 => z_lt (z_sI u94 81 6 ((z_gI u94 81 6) + 1)) (fun u95 => some u95))) else (z_lt (z_sI u80 81 7 7) (fun u96 => z_lt (z_sI u96 81 6 ((z_gI u96 81 6) + 1)) (fun u97 => some u97))))))) else (Option.bind (f_X7_takeNumber u80) (fun r98 => some r98))))) else (Option.bind (f_X7_takeWord u80) (fun r99 => some r99))))) else (z_lt (z_sI u80 81 7 0) (fun u100 => some u100))))))))
set_option maxRecDepth 20000 in
set_option maxHeartbeats 4000000 in
theorem wb_X7_nextToken_0 {p : Program} {l : Launch} {e : Env} {R : Room} {s : State} {m : MethodId} {args : Array Value} {below : List Frame} {meth : Method} {c : Code} {g : z_G} {u : z_M} {res : z_M} (hR : R = z_rm 9) (X : z_X p R s m args meth c cX7_nextToken 1 RX7 wsX7_nextToken none g z_shC)  (q : z_M) (kb : z_M → Option (z_M)) (kx : z_M → Option (z_M)) (hkb : ∀ q, kb q = some res → z_V p l e R s m args below meth c 1 g z_shC (MQ below (z_Qc g z_shC (fun v u' => v = none ∧ u' = res)) args s 0 0 (z_A g z_shC)) 0 [(0, .ref (z_ad g 81))] [] q) (hkx : ∀ t, kx t = some res → z_V p l e R s m args below meth c 1 g z_shC (MQ below (z_Qc g z_shC (fun v u' => v = none ∧ u' = res)) args s 0 0 (z_A g z_shC)) 52 [(0, .ref (z_ad g 81))] [] t) (h : b_X7_nextToken_0 q kb kx = some res) : z_V p l e R s m args below meth c 1 g z_shC (MQ below (z_Qc g z_shC (fun v u' => v = none ∧ u' = res)) args s 0 0 (z_A g z_shC)) 0 [(0, .ref (z_ad g 81))] [] q := by
  unfold b_X7_nextToken_0 at h
  refine z_aload_n X 0 dX7_nextToken_0 rfl rfl (z_getI X (k0 := 6) z_c81 rfl in_X7_nextToken_X7 (by decide) rfl rfl lk_X7_nextToken_29 dX7_nextToken_1 (z_aload_n X 0 dX7_nextToken_4 rfl rfl (z_getI X (k0 := 1) z_c81 rfl in_X7_nextToken_X7 (by decide) rfl rfl lk_X7_nextToken_26 dX7_nextToken_5 (z_icmp_ge X 52 dX7_nextToken_8 (by decide) (fun c26 => ?_) (fun c26 => ?_)))))
  · replace h := z_ip c26 h
    exact hkx q h
  · replace h := z_in c26 h
    obtain ⟨b27, h⟩ := z_gs h
    refine z_aload_n X 0 dX7_nextToken_11 rfl rfl (z_getR X (k0 := 0) z_c81 rfl in_X7_nextToken_X7 (by decide) rfl rfl lk_X7_nextToken_9 dX7_nextToken_12 (z_aload_n X 0 dX7_nextToken_15 rfl rfl (z_getI X (k0 := 6) z_c81 rfl in_X7_nextToken_X7 (by decide) rfl rfl lk_X7_nextToken_29 dX7_nextToken_16 (z_cald X z_c82 (z_inS b27) dX7_nextToken_19 (z_bipush X (v := 32) dX7_nextToken_20 (by decide) (z_icmp_eq X 39 dX7_nextToken_22 (by decide) (fun c28 => ?_) (fun c28 => ?_)))))))
    · replace h := z_ip c28 h
      obtain ⟨u29, eu29, h⟩ := z_ls h
      refine z_aload_n X 0 dX7_nextToken_39 rfl rfl (z_dup X dX7_nextToken_40 rfl (z_getI X (k0 := 6) z_c81 rfl in_X7_nextToken_X7 (by decide) rfl rfl lk_X7_nextToken_29 dX7_nextToken_41 (z_iconst X (v := 1) dX7_nextToken_44 (by decide) (z_iadd X dX7_nextToken_45 (z_putI X (k0 := 6) (ty0 := tyX7) z_c81 rfl in_X7_nextToken_X7 tyX7_ok nmX7 (by decide) rfl rfl rfl rfl rfl lk_X7_nextToken_29 dX7_nextToken_46 (z_nm eu29 (z_goto X 0 dX7_nextToken_49 (by decide) ?_)))))))
      exact hkb u29 h
    · replace h := z_in c28 h
      obtain ⟨b30, h⟩ := z_gs h
      refine z_aload_n X 0 dX7_nextToken_25 rfl rfl (z_getR X (k0 := 0) z_c81 rfl in_X7_nextToken_X7 (by decide) rfl rfl lk_X7_nextToken_9 dX7_nextToken_26 (z_aload_n X 0 dX7_nextToken_29 rfl rfl (z_getI X (k0 := 6) z_c81 rfl in_X7_nextToken_X7 (by decide) rfl rfl lk_X7_nextToken_29 dX7_nextToken_30 (z_cald X z_c82 (z_inS b30) dX7_nextToken_33 (z_bipush X (v := 10) dX7_nextToken_34 (by decide) (z_icmp_ne X 52 dX7_nextToken_36 (by decide) (fun c31 => ?_) (fun c31 => ?_)))))))
      · replace h := z_in c31 h
        exact hkx q h
      · replace h := z_ip c31 h
        obtain ⟨u32, eu32, h⟩ := z_ls h
        refine z_aload_n X 0 dX7_nextToken_39 rfl rfl (z_dup X dX7_nextToken_40 rfl (z_getI X (k0 := 6) z_c81 rfl in_X7_nextToken_X7 (by decide) rfl rfl lk_X7_nextToken_29 dX7_nextToken_41 (z_iconst X (v := 1) dX7_nextToken_44 (by decide) (z_iadd X dX7_nextToken_45 (z_putI X (k0 := 6) (ty0 := tyX7) z_c81 rfl in_X7_nextToken_X7 tyX7_ok nmX7 (by decide) rfl rfl rfl rfl rfl lk_X7_nextToken_29 dX7_nextToken_46 (z_nm eu32 (z_goto X 0 dX7_nextToken_49 (by decide) ?_)))))))
        exact hkb u32 h
set_option maxRecDepth 20000 in
set_option maxHeartbeats 4000000 in
theorem w_X7_nextToken (l : Launch) (g : z_G)  (u : z_M) {res : z_M} (h : f_X7_nextToken u = some res) : z_C l g z_shC yX7_nextToken wsX7_nextToken 9 [.ref (z_ad g 81)] u (fun v u' => v = none ∧ u' = res) := by
  refine z_C.mk (lv := [(0, .ref (z_ad g 81))]) (cc := cX7_nextToken) (nL := 1) (rt := none) rfl (by decide) (Nat.le_of_ble_eq_true rfl) rfl (fun p e R s m args below meth c hR X => ?_)
  unfold f_X7_nextToken at h
  refine z_aload_n X 0 dX7_nextToken_0 rfl rfl (z_getI X (k0 := 6) z_c81 rfl in_X7_nextToken_X7 (by decide) rfl rfl lk_X7_nextToken_29 dX7_nextToken_1 (z_aload_n X 0 dX7_nextToken_4 rfl rfl (z_getI X (k0 := 1) z_c81 rfl in_X7_nextToken_X7 (by decide) rfl rfl lk_X7_nextToken_26 dX7_nextToken_5 (z_icmp_ge X 52 dX7_nextToken_8 (by decide) (fun c1 => ?_) (fun c1 => ?_)))))
  · replace h := z_ip c1 h
    obtain ⟨u2, eu2, h⟩ := z_ls h
    refine z_aload_n X 0 dX7_nextToken_52 rfl rfl (z_aload_n X 0 dX7_nextToken_53 rfl rfl (z_getI X (k0 := 6) z_c81 rfl in_X7_nextToken_X7 (by decide) rfl rfl lk_X7_nextToken_29 dX7_nextToken_54 (z_putI X (k0 := 8) (ty0 := tyX7) z_c81 rfl in_X7_nextToken_X7 tyX7_ok nmX7 (by decide) rfl rfl rfl rfl rfl lk_X7_nextToken_97 dX7_nextToken_57 (z_nm eu2 (z_aload_n X 0 dX7_nextToken_60 rfl rfl (z_getI X (k0 := 6) z_c81 rfl in_X7_nextToken_X7 (by decide) rfl rfl lk_X7_nextToken_29 dX7_nextToken_61 (z_aload_n X 0 dX7_nextToken_64 rfl rfl (z_getI X (k0 := 1) z_c81 rfl in_X7_nextToken_X7 (by decide) rfl rfl lk_X7_nextToken_26 dX7_nextToken_65 (z_icmp_lt X 79 dX7_nextToken_68 (by decide) (fun c3 => ?_) (fun c3 => ?_))))))))))
    · replace h := z_ip c3 h
      obtain ⟨b4, h⟩ := z_gs h
      obtain ⟨r5, er5, h⟩ := z_bs h
      refine z_aload_n X 0 dX7_nextToken_79 rfl rfl (z_getR X (k0 := 0) z_c81 rfl in_X7_nextToken_X7 (by decide) rfl rfl lk_X7_nextToken_9 dX7_nextToken_80 (z_aload_n X 0 dX7_nextToken_83 rfl rfl (z_getI X (k0 := 6) z_c81 rfl in_X7_nextToken_X7 (by decide) rfl rfl lk_X7_nextToken_29 dX7_nextToken_84 (z_cald X z_c82 (z_inS b4) dX7_nextToken_87 (z_callSi X (r := r5) (u1 := u2) [.int (z_gI u2 82 (z_gI u2 81 6).toNatClampNeg)] [] (w_X7_isLetter l g (z_gI u2 82 (z_gI u2 81 6).toNatClampNeg) u2 er5) gX7_nextToken_X7_isLetter hy_X7_isLetter.2 rfl (z_le1 hR (by decide)) (z_le2 hR (by decide) (by decide)) (Nat.le_of_ble_eq_true rfl) dX7_nextToken_88 (z_if_eq X 101 dX7_nextToken_91 (by decide) (fun c6 => ?_) (fun c6 => ?_)))))))
      · replace h := z_ip c6 h
        obtain ⟨b7, h⟩ := z_gs h
        obtain ⟨r8, er8, h⟩ := z_bs h
        refine z_aload_n X 0 dX7_nextToken_101 rfl rfl (z_getR X (k0 := 0) z_c81 rfl in_X7_nextToken_X7 (by decide) rfl rfl lk_X7_nextToken_9 dX7_nextToken_102 (z_aload_n X 0 dX7_nextToken_105 rfl rfl (z_getI X (k0 := 6) z_c81 rfl in_X7_nextToken_X7 (by decide) rfl rfl lk_X7_nextToken_29 dX7_nextToken_106 (z_cald X z_c82 (z_inS b7) dX7_nextToken_109 (z_callSi X (r := r8) (u1 := u2) [.int (z_gI u2 82 (z_gI u2 81 6).toNatClampNeg)] [] (w_X7_isDigit l g (z_gI u2 82 (z_gI u2 81 6).toNatClampNeg) u2 er8) gX7_nextToken_X7_isDigit hy_X7_isDigit.2 rfl (z_le1 hR (by decide)) (z_le2 hR (by decide) (by decide)) (Nat.le_of_ble_eq_true rfl) dX7_nextToken_110 (z_if_eq X 123 dX7_nextToken_113 (by decide) (fun c9 => ?_) (fun c9 => ?_)))))))
        · replace h := z_ip c9 h
          obtain ⟨b10, h⟩ := z_gs h
          refine z_aload_n X 0 dX7_nextToken_123 rfl rfl (z_aload_n X 0 dX7_nextToken_124 rfl rfl (z_getR X (k0 := 0) z_c81 rfl in_X7_nextToken_X7 (by decide) rfl rfl lk_X7_nextToken_9 dX7_nextToken_125 (z_aload_n X 0 dX7_nextToken_128 rfl rfl (z_getI X (k0 := 6) z_c81 rfl in_X7_nextToken_X7 (by decide) rfl rfl lk_X7_nextToken_29 dX7_nextToken_129 (z_cald X z_c82 (z_inS b10) dX7_nextToken_132 (z_bipush X (v := 59) dX7_nextToken_133 (by decide) (z_icmp_ne X 142 dX7_nextToken_135 (by decide) (fun c11 => ?_) (fun c11 => ?_))))))))
          · replace h := z_in c11 h
            obtain ⟨b14, h⟩ := z_gs h
            refine z_aload_n X 0 dX7_nextToken_142 rfl rfl (z_getR X (k0 := 0) z_c81 rfl in_X7_nextToken_X7 (by decide) rfl rfl lk_X7_nextToken_9 dX7_nextToken_143 (z_aload_n X 0 dX7_nextToken_146 rfl rfl (z_getI X (k0 := 6) z_c81 rfl in_X7_nextToken_X7 (by decide) rfl rfl lk_X7_nextToken_29 dX7_nextToken_147 (z_cald X z_c82 (z_inS b14) dX7_nextToken_150 (z_bipush X (v := 60) dX7_nextToken_151 (by decide) (z_icmp_ne X 161 dX7_nextToken_153 (by decide) (fun c15 => ?_) (fun c15 => ?_)))))))
            · replace h := z_in c15 h
              obtain ⟨u18, eu18, h⟩ := z_ls h
              obtain ⟨u19, eu19, h⟩ := z_ls h
              refine z_bipush X (v := 7) dX7_nextToken_161 (by decide) (z_putI X (k0 := 7) (ty0 := tyX7) z_c81 rfl in_X7_nextToken_X7 tyX7_ok nmX7 (by decide) rfl rfl rfl rfl rfl lk_X7_nextToken_50 dX7_nextToken_163 (z_nm eu18 (z_aload_n X 0 dX7_nextToken_166 rfl rfl (z_dup X dX7_nextToken_167 rfl (z_getI X (k0 := 6) z_c81 rfl in_X7_nextToken_X7 (by decide) rfl rfl lk_X7_nextToken_29 dX7_nextToken_168 (z_iconst X (v := 1) dX7_nextToken_171 (by decide) (z_iadd X dX7_nextToken_172 (z_putI X (k0 := 6) (ty0 := tyX7) z_c81 rfl in_X7_nextToken_X7 tyX7_ok nmX7 (by decide) rfl rfl rfl rfl rfl lk_X7_nextToken_29 dX7_nextToken_173 (z_nm eu19 ?_)))))))))
              cases h; exact z_vret X rfl dX7_nextToken_176 ⟨rfl, rfl⟩
            · replace h := z_ip c15 h
              obtain ⟨u16, eu16, h⟩ := z_ls h
              obtain ⟨u17, eu17, h⟩ := z_ls h
              refine z_bipush X (v := 6) dX7_nextToken_156 (by decide) (z_goto X 163 dX7_nextToken_158 (by decide) (z_putI X (k0 := 7) (ty0 := tyX7) z_c81 rfl in_X7_nextToken_X7 tyX7_ok nmX7 (by decide) rfl rfl rfl rfl rfl lk_X7_nextToken_50 dX7_nextToken_163 (z_nm eu16 (z_aload_n X 0 dX7_nextToken_166 rfl rfl (z_dup X dX7_nextToken_167 rfl (z_getI X (k0 := 6) z_c81 rfl in_X7_nextToken_X7 (by decide) rfl rfl lk_X7_nextToken_29 dX7_nextToken_168 (z_iconst X (v := 1) dX7_nextToken_171 (by decide) (z_iadd X dX7_nextToken_172 (z_putI X (k0 := 6) (ty0 := tyX7) z_c81 rfl in_X7_nextToken_X7 tyX7_ok nmX7 (by decide) rfl rfl rfl rfl rfl lk_X7_nextToken_29 dX7_nextToken_173 (z_nm eu17 ?_))))))))))
              cases h; exact z_vret X rfl dX7_nextToken_176 ⟨rfl, rfl⟩
          · replace h := z_ip c11 h
            obtain ⟨u12, eu12, h⟩ := z_ls h
            obtain ⟨u13, eu13, h⟩ := z_ls h
            refine z_iconst X (v := 5) dX7_nextToken_138 (by decide) (z_goto X 163 dX7_nextToken_139 (by decide) (z_putI X (k0 := 7) (ty0 := tyX7) z_c81 rfl in_X7_nextToken_X7 tyX7_ok nmX7 (by decide) rfl rfl rfl rfl rfl lk_X7_nextToken_50 dX7_nextToken_163 (z_nm eu12 (z_aload_n X 0 dX7_nextToken_166 rfl rfl (z_dup X dX7_nextToken_167 rfl (z_getI X (k0 := 6) z_c81 rfl in_X7_nextToken_X7 (by decide) rfl rfl lk_X7_nextToken_29 dX7_nextToken_168 (z_iconst X (v := 1) dX7_nextToken_171 (by decide) (z_iadd X dX7_nextToken_172 (z_putI X (k0 := 6) (ty0 := tyX7) z_c81 rfl in_X7_nextToken_X7 tyX7_ok nmX7 (by decide) rfl rfl rfl rfl rfl lk_X7_nextToken_29 dX7_nextToken_173 (z_nm eu13 ?_))))))))))
            cases h; exact z_vret X rfl dX7_nextToken_176 ⟨rfl, rfl⟩
        · replace h := z_in c9 h
          obtain ⟨r20, er20, h⟩ := z_bs h
          refine z_aload_n X 0 dX7_nextToken_116 rfl rfl (z_callVv X (u1 := r20) [] [] (w_X7_takeNumber l g u2 er20) z_c81 rfl gX7_nextToken_X7_takeNumber hy_X7_takeNumber rfl (z_le1 hR (by decide)) (z_le2 hR (by decide) (by decide)) (Nat.le_of_ble_eq_true rfl) dX7_nextToken_117 (z_goto X 176 dX7_nextToken_120 (by decide) ?_))
          cases h; exact z_vret X rfl dX7_nextToken_176 ⟨rfl, rfl⟩
      · replace h := z_in c6 h
        obtain ⟨r21, er21, h⟩ := z_bs h
        refine z_aload_n X 0 dX7_nextToken_94 rfl rfl (z_callVv X (u1 := r21) [] [] (w_X7_takeWord l g u2 er21) z_c81 rfl gX7_nextToken_X7_takeWord hy_X7_takeWord rfl (z_le1 hR (by decide)) (z_le2 hR (by decide) (by decide)) (Nat.le_of_ble_eq_true rfl) dX7_nextToken_95 (z_goto X 176 dX7_nextToken_98 (by decide) ?_))
        cases h; exact z_vret X rfl dX7_nextToken_176 ⟨rfl, rfl⟩
    · replace h := z_in c3 h
      obtain ⟨u22, eu22, h⟩ := z_ls h
      refine z_aload_n X 0 dX7_nextToken_71 rfl rfl (z_iconst X (v := 0) dX7_nextToken_72 (by decide) (z_putI X (k0 := 7) (ty0 := tyX7) z_c81 rfl in_X7_nextToken_X7 tyX7_ok nmX7 (by decide) rfl rfl rfl rfl rfl lk_X7_nextToken_50 dX7_nextToken_73 (z_nm eu22 (z_goto X 176 dX7_nextToken_76 (by decide) ?_))))
      cases h; exact z_vret X rfl dX7_nextToken_176 ⟨rfl, rfl⟩
  · replace h := z_in c1 h
    obtain ⟨b23, h⟩ := z_gs h
    refine z_aload_n X 0 dX7_nextToken_11 rfl rfl (z_getR X (k0 := 0) z_c81 rfl in_X7_nextToken_X7 (by decide) rfl rfl lk_X7_nextToken_9 dX7_nextToken_12 (z_aload_n X 0 dX7_nextToken_15 rfl rfl (z_getI X (k0 := 6) z_c81 rfl in_X7_nextToken_X7 (by decide) rfl rfl lk_X7_nextToken_29 dX7_nextToken_16 (z_cald X z_c82 (z_inS b23) dX7_nextToken_19 (z_bipush X (v := 32) dX7_nextToken_20 (by decide) (z_icmp_eq X 39 dX7_nextToken_22 (by decide) (fun c24 => ?_) (fun c24 => ?_)))))))
    · replace h := z_ip c24 h
      obtain ⟨u25, eu25, h⟩ := z_ls h
      refine z_aload_n X 0 dX7_nextToken_39 rfl rfl (z_dup X dX7_nextToken_40 rfl (z_getI X (k0 := 6) z_c81 rfl in_X7_nextToken_X7 (by decide) rfl rfl lk_X7_nextToken_29 dX7_nextToken_41 (z_iconst X (v := 1) dX7_nextToken_44 (by decide) (z_iadd X dX7_nextToken_45 (z_putI X (k0 := 6) (ty0 := tyX7) z_c81 rfl in_X7_nextToken_X7 tyX7_ok nmX7 (by decide) rfl rfl rfl rfl rfl lk_X7_nextToken_29 dX7_nextToken_46 (z_nm eu25 (z_goto X 0 dX7_nextToken_49 (by decide) ?_)))))))
      have hw := z_lp_w (fun q9 kb9 kx9 h1 h2 h3 => wb_X7_nextToken_0 (l := l) (e := e) (below := below) (u := u25) hR X q9 kb9 kx9 h1 h2 h3) z_F _ _ h
      refine hw (fun t33 h => ?_)
      obtain ⟨u34, eu34, h⟩ := z_ls h
      refine z_aload_n X 0 dX7_nextToken_52 rfl rfl (z_aload_n X 0 dX7_nextToken_53 rfl rfl (z_getI X (k0 := 6) z_c81 rfl in_X7_nextToken_X7 (by decide) rfl rfl lk_X7_nextToken_29 dX7_nextToken_54 (z_putI X (k0 := 8) (ty0 := tyX7) z_c81 rfl in_X7_nextToken_X7 tyX7_ok nmX7 (by decide) rfl rfl rfl rfl rfl lk_X7_nextToken_97 dX7_nextToken_57 (z_nm eu34 (z_aload_n X 0 dX7_nextToken_60 rfl rfl (z_getI X (k0 := 6) z_c81 rfl in_X7_nextToken_X7 (by decide) rfl rfl lk_X7_nextToken_29 dX7_nextToken_61 (z_aload_n X 0 dX7_nextToken_64 rfl rfl (z_getI X (k0 := 1) z_c81 rfl in_X7_nextToken_X7 (by decide) rfl rfl lk_X7_nextToken_26 dX7_nextToken_65 (z_icmp_lt X 79 dX7_nextToken_68 (by decide) (fun c35 => ?_) (fun c35 => ?_))))))))))
      · replace h := z_ip c35 h
        obtain ⟨b36, h⟩ := z_gs h
        obtain ⟨r37, er37, h⟩ := z_bs h
        refine z_aload_n X 0 dX7_nextToken_79 rfl rfl (z_getR X (k0 := 0) z_c81 rfl in_X7_nextToken_X7 (by decide) rfl rfl lk_X7_nextToken_9 dX7_nextToken_80 (z_aload_n X 0 dX7_nextToken_83 rfl rfl (z_getI X (k0 := 6) z_c81 rfl in_X7_nextToken_X7 (by decide) rfl rfl lk_X7_nextToken_29 dX7_nextToken_84 (z_cald X z_c82 (z_inS b36) dX7_nextToken_87 (z_callSi X (r := r37) (u1 := u34) [.int (z_gI u34 82 (z_gI u34 81 6).toNatClampNeg)] [] (w_X7_isLetter l g (z_gI u34 82 (z_gI u34 81 6).toNatClampNeg) u34 er37) gX7_nextToken_X7_isLetter hy_X7_isLetter.2 rfl (z_le1 hR (by decide)) (z_le2 hR (by decide) (by decide)) (Nat.le_of_ble_eq_true rfl) dX7_nextToken_88 (z_if_eq X 101 dX7_nextToken_91 (by decide) (fun c38 => ?_) (fun c38 => ?_)))))))
        · replace h := z_ip c38 h
          obtain ⟨b39, h⟩ := z_gs h
          obtain ⟨r40, er40, h⟩ := z_bs h
          refine z_aload_n X 0 dX7_nextToken_101 rfl rfl (z_getR X (k0 := 0) z_c81 rfl in_X7_nextToken_X7 (by decide) rfl rfl lk_X7_nextToken_9 dX7_nextToken_102 (z_aload_n X 0 dX7_nextToken_105 rfl rfl (z_getI X (k0 := 6) z_c81 rfl in_X7_nextToken_X7 (by decide) rfl rfl lk_X7_nextToken_29 dX7_nextToken_106 (z_cald X z_c82 (z_inS b39) dX7_nextToken_109 (z_callSi X (r := r40) (u1 := u34) [.int (z_gI u34 82 (z_gI u34 81 6).toNatClampNeg)] [] (w_X7_isDigit l g (z_gI u34 82 (z_gI u34 81 6).toNatClampNeg) u34 er40) gX7_nextToken_X7_isDigit hy_X7_isDigit.2 rfl (z_le1 hR (by decide)) (z_le2 hR (by decide) (by decide)) (Nat.le_of_ble_eq_true rfl) dX7_nextToken_110 (z_if_eq X 123 dX7_nextToken_113 (by decide) (fun c41 => ?_) (fun c41 => ?_)))))))
          · replace h := z_ip c41 h
            obtain ⟨b42, h⟩ := z_gs h
            refine z_aload_n X 0 dX7_nextToken_123 rfl rfl (z_aload_n X 0 dX7_nextToken_124 rfl rfl (z_getR X (k0 := 0) z_c81 rfl in_X7_nextToken_X7 (by decide) rfl rfl lk_X7_nextToken_9 dX7_nextToken_125 (z_aload_n X 0 dX7_nextToken_128 rfl rfl (z_getI X (k0 := 6) z_c81 rfl in_X7_nextToken_X7 (by decide) rfl rfl lk_X7_nextToken_29 dX7_nextToken_129 (z_cald X z_c82 (z_inS b42) dX7_nextToken_132 (z_bipush X (v := 59) dX7_nextToken_133 (by decide) (z_icmp_ne X 142 dX7_nextToken_135 (by decide) (fun c43 => ?_) (fun c43 => ?_))))))))
            · replace h := z_in c43 h
              obtain ⟨b46, h⟩ := z_gs h
              refine z_aload_n X 0 dX7_nextToken_142 rfl rfl (z_getR X (k0 := 0) z_c81 rfl in_X7_nextToken_X7 (by decide) rfl rfl lk_X7_nextToken_9 dX7_nextToken_143 (z_aload_n X 0 dX7_nextToken_146 rfl rfl (z_getI X (k0 := 6) z_c81 rfl in_X7_nextToken_X7 (by decide) rfl rfl lk_X7_nextToken_29 dX7_nextToken_147 (z_cald X z_c82 (z_inS b46) dX7_nextToken_150 (z_bipush X (v := 60) dX7_nextToken_151 (by decide) (z_icmp_ne X 161 dX7_nextToken_153 (by decide) (fun c47 => ?_) (fun c47 => ?_)))))))
              · replace h := z_in c47 h
                obtain ⟨u50, eu50, h⟩ := z_ls h
                obtain ⟨u51, eu51, h⟩ := z_ls h
                refine z_bipush X (v := 7) dX7_nextToken_161 (by decide) (z_putI X (k0 := 7) (ty0 := tyX7) z_c81 rfl in_X7_nextToken_X7 tyX7_ok nmX7 (by decide) rfl rfl rfl rfl rfl lk_X7_nextToken_50 dX7_nextToken_163 (z_nm eu50 (z_aload_n X 0 dX7_nextToken_166 rfl rfl (z_dup X dX7_nextToken_167 rfl (z_getI X (k0 := 6) z_c81 rfl in_X7_nextToken_X7 (by decide) rfl rfl lk_X7_nextToken_29 dX7_nextToken_168 (z_iconst X (v := 1) dX7_nextToken_171 (by decide) (z_iadd X dX7_nextToken_172 (z_putI X (k0 := 6) (ty0 := tyX7) z_c81 rfl in_X7_nextToken_X7 tyX7_ok nmX7 (by decide) rfl rfl rfl rfl rfl lk_X7_nextToken_29 dX7_nextToken_173 (z_nm eu51 ?_)))))))))
                cases h; exact z_vret X rfl dX7_nextToken_176 ⟨rfl, rfl⟩
              · replace h := z_ip c47 h
                obtain ⟨u48, eu48, h⟩ := z_ls h
                obtain ⟨u49, eu49, h⟩ := z_ls h
                refine z_bipush X (v := 6) dX7_nextToken_156 (by decide) (z_goto X 163 dX7_nextToken_158 (by decide) (z_putI X (k0 := 7) (ty0 := tyX7) z_c81 rfl in_X7_nextToken_X7 tyX7_ok nmX7 (by decide) rfl rfl rfl rfl rfl lk_X7_nextToken_50 dX7_nextToken_163 (z_nm eu48 (z_aload_n X 0 dX7_nextToken_166 rfl rfl (z_dup X dX7_nextToken_167 rfl (z_getI X (k0 := 6) z_c81 rfl in_X7_nextToken_X7 (by decide) rfl rfl lk_X7_nextToken_29 dX7_nextToken_168 (z_iconst X (v := 1) dX7_nextToken_171 (by decide) (z_iadd X dX7_nextToken_172 (z_putI X (k0 := 6) (ty0 := tyX7) z_c81 rfl in_X7_nextToken_X7 tyX7_ok nmX7 (by decide) rfl rfl rfl rfl rfl lk_X7_nextToken_29 dX7_nextToken_173 (z_nm eu49 ?_))))))))))
                cases h; exact z_vret X rfl dX7_nextToken_176 ⟨rfl, rfl⟩
            · replace h := z_ip c43 h
              obtain ⟨u44, eu44, h⟩ := z_ls h
              obtain ⟨u45, eu45, h⟩ := z_ls h
              refine z_iconst X (v := 5) dX7_nextToken_138 (by decide) (z_goto X 163 dX7_nextToken_139 (by decide) (z_putI X (k0 := 7) (ty0 := tyX7) z_c81 rfl in_X7_nextToken_X7 tyX7_ok nmX7 (by decide) rfl rfl rfl rfl rfl lk_X7_nextToken_50 dX7_nextToken_163 (z_nm eu44 (z_aload_n X 0 dX7_nextToken_166 rfl rfl (z_dup X dX7_nextToken_167 rfl (z_getI X (k0 := 6) z_c81 rfl in_X7_nextToken_X7 (by decide) rfl rfl lk_X7_nextToken_29 dX7_nextToken_168 (z_iconst X (v := 1) dX7_nextToken_171 (by decide) (z_iadd X dX7_nextToken_172 (z_putI X (k0 := 6) (ty0 := tyX7) z_c81 rfl in_X7_nextToken_X7 tyX7_ok nmX7 (by decide) rfl rfl rfl rfl rfl lk_X7_nextToken_29 dX7_nextToken_173 (z_nm eu45 ?_))))))))))
              cases h; exact z_vret X rfl dX7_nextToken_176 ⟨rfl, rfl⟩
          · replace h := z_in c41 h
            obtain ⟨r52, er52, h⟩ := z_bs h
            refine z_aload_n X 0 dX7_nextToken_116 rfl rfl (z_callVv X (u1 := r52) [] [] (w_X7_takeNumber l g u34 er52) z_c81 rfl gX7_nextToken_X7_takeNumber hy_X7_takeNumber rfl (z_le1 hR (by decide)) (z_le2 hR (by decide) (by decide)) (Nat.le_of_ble_eq_true rfl) dX7_nextToken_117 (z_goto X 176 dX7_nextToken_120 (by decide) ?_))
            cases h; exact z_vret X rfl dX7_nextToken_176 ⟨rfl, rfl⟩
        · replace h := z_in c38 h
          obtain ⟨r53, er53, h⟩ := z_bs h
          refine z_aload_n X 0 dX7_nextToken_94 rfl rfl (z_callVv X (u1 := r53) [] [] (w_X7_takeWord l g u34 er53) z_c81 rfl gX7_nextToken_X7_takeWord hy_X7_takeWord rfl (z_le1 hR (by decide)) (z_le2 hR (by decide) (by decide)) (Nat.le_of_ble_eq_true rfl) dX7_nextToken_95 (z_goto X 176 dX7_nextToken_98 (by decide) ?_))
          cases h; exact z_vret X rfl dX7_nextToken_176 ⟨rfl, rfl⟩
      · replace h := z_in c35 h
        obtain ⟨u54, eu54, h⟩ := z_ls h
        refine z_aload_n X 0 dX7_nextToken_71 rfl rfl (z_iconst X (v := 0) dX7_nextToken_72 (by decide) (z_putI X (k0 := 7) (ty0 := tyX7) z_c81 rfl in_X7_nextToken_X7 tyX7_ok nmX7 (by decide) rfl rfl rfl rfl rfl lk_X7_nextToken_50 dX7_nextToken_73 (z_nm eu54 (z_goto X 176 dX7_nextToken_76 (by decide) ?_))))
        cases h; exact z_vret X rfl dX7_nextToken_176 ⟨rfl, rfl⟩
    · replace h := z_in c24 h
      obtain ⟨b55, h⟩ := z_gs h
      refine z_aload_n X 0 dX7_nextToken_25 rfl rfl (z_getR X (k0 := 0) z_c81 rfl in_X7_nextToken_X7 (by decide) rfl rfl lk_X7_nextToken_9 dX7_nextToken_26 (z_aload_n X 0 dX7_nextToken_29 rfl rfl (z_getI X (k0 := 6) z_c81 rfl in_X7_nextToken_X7 (by decide) rfl rfl lk_X7_nextToken_29 dX7_nextToken_30 (z_cald X z_c82 (z_inS b55) dX7_nextToken_33 (z_bipush X (v := 10) dX7_nextToken_34 (by decide) (z_icmp_ne X 52 dX7_nextToken_36 (by decide) (fun c56 => ?_) (fun c56 => ?_)))))))
      · replace h := z_in c56 h
        obtain ⟨u80, eu80, h⟩ := z_ls h
        refine z_aload_n X 0 dX7_nextToken_52 rfl rfl (z_aload_n X 0 dX7_nextToken_53 rfl rfl (z_getI X (k0 := 6) z_c81 rfl in_X7_nextToken_X7 (by decide) rfl rfl lk_X7_nextToken_29 dX7_nextToken_54 (z_putI X (k0 := 8) (ty0 := tyX7) z_c81 rfl in_X7_nextToken_X7 tyX7_ok nmX7 (by decide) rfl rfl rfl rfl rfl lk_X7_nextToken_97 dX7_nextToken_57 (z_nm eu80 (z_aload_n X 0 dX7_nextToken_60 rfl rfl (z_getI X (k0 := 6) z_c81 rfl in_X7_nextToken_X7 (by decide) rfl rfl lk_X7_nextToken_29 dX7_nextToken_61 (z_aload_n X 0 dX7_nextToken_64 rfl rfl (z_getI X (k0 := 1) z_c81 rfl in_X7_nextToken_X7 (by decide) rfl rfl lk_X7_nextToken_26 dX7_nextToken_65 (z_icmp_lt X 79 dX7_nextToken_68 (by decide) (fun c81 => ?_) (fun c81 => ?_))))))))))
        · replace h := z_ip c81 h
          obtain ⟨b82, h⟩ := z_gs h
          obtain ⟨r83, er83, h⟩ := z_bs h
          refine z_aload_n X 0 dX7_nextToken_79 rfl rfl (z_getR X (k0 := 0) z_c81 rfl in_X7_nextToken_X7 (by decide) rfl rfl lk_X7_nextToken_9 dX7_nextToken_80 (z_aload_n X 0 dX7_nextToken_83 rfl rfl (z_getI X (k0 := 6) z_c81 rfl in_X7_nextToken_X7 (by decide) rfl rfl lk_X7_nextToken_29 dX7_nextToken_84 (z_cald X z_c82 (z_inS b82) dX7_nextToken_87 (z_callSi X (r := r83) (u1 := u80) [.int (z_gI u80 82 (z_gI u80 81 6).toNatClampNeg)] [] (w_X7_isLetter l g (z_gI u80 82 (z_gI u80 81 6).toNatClampNeg) u80 er83) gX7_nextToken_X7_isLetter hy_X7_isLetter.2 rfl (z_le1 hR (by decide)) (z_le2 hR (by decide) (by decide)) (Nat.le_of_ble_eq_true rfl) dX7_nextToken_88 (z_if_eq X 101 dX7_nextToken_91 (by decide) (fun c84 => ?_) (fun c84 => ?_)))))))
          · replace h := z_ip c84 h
            obtain ⟨b85, h⟩ := z_gs h
            obtain ⟨r86, er86, h⟩ := z_bs h
            refine z_aload_n X 0 dX7_nextToken_101 rfl rfl (z_getR X (k0 := 0) z_c81 rfl in_X7_nextToken_X7 (by decide) rfl rfl lk_X7_nextToken_9 dX7_nextToken_102 (z_aload_n X 0 dX7_nextToken_105 rfl rfl (z_getI X (k0 := 6) z_c81 rfl in_X7_nextToken_X7 (by decide) rfl rfl lk_X7_nextToken_29 dX7_nextToken_106 (z_cald X z_c82 (z_inS b85) dX7_nextToken_109 (z_callSi X (r := r86) (u1 := u80) [.int (z_gI u80 82 (z_gI u80 81 6).toNatClampNeg)] [] (w_X7_isDigit l g (z_gI u80 82 (z_gI u80 81 6).toNatClampNeg) u80 er86) gX7_nextToken_X7_isDigit hy_X7_isDigit.2 rfl (z_le1 hR (by decide)) (z_le2 hR (by decide) (by decide)) (Nat.le_of_ble_eq_true rfl) dX7_nextToken_110 (z_if_eq X 123 dX7_nextToken_113 (by decide) (fun c87 => ?_) (fun c87 => ?_)))))))
            · replace h := z_ip c87 h
              obtain ⟨b88, h⟩ := z_gs h
              refine z_aload_n X 0 dX7_nextToken_123 rfl rfl (z_aload_n X 0 dX7_nextToken_124 rfl rfl (z_getR X (k0 := 0) z_c81 rfl in_X7_nextToken_X7 (by decide) rfl rfl lk_X7_nextToken_9 dX7_nextToken_125 (z_aload_n X 0 dX7_nextToken_128 rfl rfl (z_getI X (k0 := 6) z_c81 rfl in_X7_nextToken_X7 (by decide) rfl rfl lk_X7_nextToken_29 dX7_nextToken_129 (z_cald X z_c82 (z_inS b88) dX7_nextToken_132 (z_bipush X (v := 59) dX7_nextToken_133 (by decide) (z_icmp_ne X 142 dX7_nextToken_135 (by decide) (fun c89 => ?_) (fun c89 => ?_))))))))
              · replace h := z_in c89 h
                obtain ⟨b92, h⟩ := z_gs h
                refine z_aload_n X 0 dX7_nextToken_142 rfl rfl (z_getR X (k0 := 0) z_c81 rfl in_X7_nextToken_X7 (by decide) rfl rfl lk_X7_nextToken_9 dX7_nextToken_143 (z_aload_n X 0 dX7_nextToken_146 rfl rfl (z_getI X (k0 := 6) z_c81 rfl in_X7_nextToken_X7 (by decide) rfl rfl lk_X7_nextToken_29 dX7_nextToken_147 (z_cald X z_c82 (z_inS b92) dX7_nextToken_150 (z_bipush X (v := 60) dX7_nextToken_151 (by decide) (z_icmp_ne X 161 dX7_nextToken_153 (by decide) (fun c93 => ?_) (fun c93 => ?_)))))))
                · replace h := z_in c93 h
                  obtain ⟨u96, eu96, h⟩ := z_ls h
                  obtain ⟨u97, eu97, h⟩ := z_ls h
                  refine z_bipush X (v := 7) dX7_nextToken_161 (by decide) (z_putI X (k0 := 7) (ty0 := tyX7) z_c81 rfl in_X7_nextToken_X7 tyX7_ok nmX7 (by decide) rfl rfl rfl rfl rfl lk_X7_nextToken_50 dX7_nextToken_163 (z_nm eu96 (z_aload_n X 0 dX7_nextToken_166 rfl rfl (z_dup X dX7_nextToken_167 rfl (z_getI X (k0 := 6) z_c81 rfl in_X7_nextToken_X7 (by decide) rfl rfl lk_X7_nextToken_29 dX7_nextToken_168 (z_iconst X (v := 1) dX7_nextToken_171 (by decide) (z_iadd X dX7_nextToken_172 (z_putI X (k0 := 6) (ty0 := tyX7) z_c81 rfl in_X7_nextToken_X7 tyX7_ok nmX7 (by decide) rfl rfl rfl rfl rfl lk_X7_nextToken_29 dX7_nextToken_173 (z_nm eu97 ?_)))))))))
                  cases h; exact z_vret X rfl dX7_nextToken_176 ⟨rfl, rfl⟩
                · replace h := z_ip c93 h
                  obtain ⟨u94, eu94, h⟩ := z_ls h
                  obtain ⟨u95, eu95, h⟩ := z_ls h
                  refine z_bipush X (v := 6) dX7_nextToken_156 (by decide) (z_goto X 163 dX7_nextToken_158 (by decide) (z_putI X (k0 := 7) (ty0 := tyX7) z_c81 rfl in_X7_nextToken_X7 tyX7_ok nmX7 (by decide) rfl rfl rfl rfl rfl lk_X7_nextToken_50 dX7_nextToken_163 (z_nm eu94 (z_aload_n X 0 dX7_nextToken_166 rfl rfl (z_dup X dX7_nextToken_167 rfl (z_getI X (k0 := 6) z_c81 rfl in_X7_nextToken_X7 (by decide) rfl rfl lk_X7_nextToken_29 dX7_nextToken_168 (z_iconst X (v := 1) dX7_nextToken_171 (by decide) (z_iadd X dX7_nextToken_172 (z_putI X (k0 := 6) (ty0 := tyX7) z_c81 rfl in_X7_nextToken_X7 tyX7_ok nmX7 (by decide) rfl rfl rfl rfl rfl lk_X7_nextToken_29 dX7_nextToken_173 (z_nm eu95 ?_))))))))))
                  cases h; exact z_vret X rfl dX7_nextToken_176 ⟨rfl, rfl⟩
              · replace h := z_ip c89 h
                obtain ⟨u90, eu90, h⟩ := z_ls h
                obtain ⟨u91, eu91, h⟩ := z_ls h
                refine z_iconst X (v := 5) dX7_nextToken_138 (by decide) (z_goto X 163 dX7_nextToken_139 (by decide) (z_putI X (k0 := 7) (ty0 := tyX7) z_c81 rfl in_X7_nextToken_X7 tyX7_ok nmX7 (by decide) rfl rfl rfl rfl rfl lk_X7_nextToken_50 dX7_nextToken_163 (z_nm eu90 (z_aload_n X 0 dX7_nextToken_166 rfl rfl (z_dup X dX7_nextToken_167 rfl (z_getI X (k0 := 6) z_c81 rfl in_X7_nextToken_X7 (by decide) rfl rfl lk_X7_nextToken_29 dX7_nextToken_168 (z_iconst X (v := 1) dX7_nextToken_171 (by decide) (z_iadd X dX7_nextToken_172 (z_putI X (k0 := 6) (ty0 := tyX7) z_c81 rfl in_X7_nextToken_X7 tyX7_ok nmX7 (by decide) rfl rfl rfl rfl rfl lk_X7_nextToken_29 dX7_nextToken_173 (z_nm eu91 ?_))))))))))
                cases h; exact z_vret X rfl dX7_nextToken_176 ⟨rfl, rfl⟩
            · replace h := z_in c87 h
              obtain ⟨r98, er98, h⟩ := z_bs h
              refine z_aload_n X 0 dX7_nextToken_116 rfl rfl (z_callVv X (u1 := r98) [] [] (w_X7_takeNumber l g u80 er98) z_c81 rfl gX7_nextToken_X7_takeNumber hy_X7_takeNumber rfl (z_le1 hR (by decide)) (z_le2 hR (by decide) (by decide)) (Nat.le_of_ble_eq_true rfl) dX7_nextToken_117 (z_goto X 176 dX7_nextToken_120 (by decide) ?_))
              cases h; exact z_vret X rfl dX7_nextToken_176 ⟨rfl, rfl⟩
          · replace h := z_in c84 h
            obtain ⟨r99, er99, h⟩ := z_bs h
            refine z_aload_n X 0 dX7_nextToken_94 rfl rfl (z_callVv X (u1 := r99) [] [] (w_X7_takeWord l g u80 er99) z_c81 rfl gX7_nextToken_X7_takeWord hy_X7_takeWord rfl (z_le1 hR (by decide)) (z_le2 hR (by decide) (by decide)) (Nat.le_of_ble_eq_true rfl) dX7_nextToken_95 (z_goto X 176 dX7_nextToken_98 (by decide) ?_))
            cases h; exact z_vret X rfl dX7_nextToken_176 ⟨rfl, rfl⟩
        · replace h := z_in c81 h
          obtain ⟨u100, eu100, h⟩ := z_ls h
          refine z_aload_n X 0 dX7_nextToken_71 rfl rfl (z_iconst X (v := 0) dX7_nextToken_72 (by decide) (z_putI X (k0 := 7) (ty0 := tyX7) z_c81 rfl in_X7_nextToken_X7 tyX7_ok nmX7 (by decide) rfl rfl rfl rfl rfl lk_X7_nextToken_50 dX7_nextToken_73 (z_nm eu100 (z_goto X 176 dX7_nextToken_76 (by decide) ?_))))
          cases h; exact z_vret X rfl dX7_nextToken_176 ⟨rfl, rfl⟩
      · replace h := z_ip c56 h
        obtain ⟨u57, eu57, h⟩ := z_ls h
        refine z_aload_n X 0 dX7_nextToken_39 rfl rfl (z_dup X dX7_nextToken_40 rfl (z_getI X (k0 := 6) z_c81 rfl in_X7_nextToken_X7 (by decide) rfl rfl lk_X7_nextToken_29 dX7_nextToken_41 (z_iconst X (v := 1) dX7_nextToken_44 (by decide) (z_iadd X dX7_nextToken_45 (z_putI X (k0 := 6) (ty0 := tyX7) z_c81 rfl in_X7_nextToken_X7 tyX7_ok nmX7 (by decide) rfl rfl rfl rfl rfl lk_X7_nextToken_29 dX7_nextToken_46 (z_nm eu57 (z_goto X 0 dX7_nextToken_49 (by decide) ?_)))))))
        have hw := z_lp_w (fun q9 kb9 kx9 h1 h2 h3 => wb_X7_nextToken_0 (l := l) (e := e) (below := below) (u := u57) hR X q9 kb9 kx9 h1 h2 h3) z_F _ _ h
        refine hw (fun t58 h => ?_)
        obtain ⟨u59, eu59, h⟩ := z_ls h
        refine z_aload_n X 0 dX7_nextToken_52 rfl rfl (z_aload_n X 0 dX7_nextToken_53 rfl rfl (z_getI X (k0 := 6) z_c81 rfl in_X7_nextToken_X7 (by decide) rfl rfl lk_X7_nextToken_29 dX7_nextToken_54 (z_putI X (k0 := 8) (ty0 := tyX7) z_c81 rfl in_X7_nextToken_X7 tyX7_ok nmX7 (by decide) rfl rfl rfl rfl rfl lk_X7_nextToken_97 dX7_nextToken_57 (z_nm eu59 (z_aload_n X 0 dX7_nextToken_60 rfl rfl (z_getI X (k0 := 6) z_c81 rfl in_X7_nextToken_X7 (by decide) rfl rfl lk_X7_nextToken_29 dX7_nextToken_61 (z_aload_n X 0 dX7_nextToken_64 rfl rfl (z_getI X (k0 := 1) z_c81 rfl in_X7_nextToken_X7 (by decide) rfl rfl lk_X7_nextToken_26 dX7_nextToken_65 (z_icmp_lt X 79 dX7_nextToken_68 (by decide) (fun c60 => ?_) (fun c60 => ?_))))))))))
        · replace h := z_ip c60 h
          obtain ⟨b61, h⟩ := z_gs h
          obtain ⟨r62, er62, h⟩ := z_bs h
          refine z_aload_n X 0 dX7_nextToken_79 rfl rfl (z_getR X (k0 := 0) z_c81 rfl in_X7_nextToken_X7 (by decide) rfl rfl lk_X7_nextToken_9 dX7_nextToken_80 (z_aload_n X 0 dX7_nextToken_83 rfl rfl (z_getI X (k0 := 6) z_c81 rfl in_X7_nextToken_X7 (by decide) rfl rfl lk_X7_nextToken_29 dX7_nextToken_84 (z_cald X z_c82 (z_inS b61) dX7_nextToken_87 (z_callSi X (r := r62) (u1 := u59) [.int (z_gI u59 82 (z_gI u59 81 6).toNatClampNeg)] [] (w_X7_isLetter l g (z_gI u59 82 (z_gI u59 81 6).toNatClampNeg) u59 er62) gX7_nextToken_X7_isLetter hy_X7_isLetter.2 rfl (z_le1 hR (by decide)) (z_le2 hR (by decide) (by decide)) (Nat.le_of_ble_eq_true rfl) dX7_nextToken_88 (z_if_eq X 101 dX7_nextToken_91 (by decide) (fun c63 => ?_) (fun c63 => ?_)))))))
          · replace h := z_ip c63 h
            obtain ⟨b64, h⟩ := z_gs h
            obtain ⟨r65, er65, h⟩ := z_bs h
            refine z_aload_n X 0 dX7_nextToken_101 rfl rfl (z_getR X (k0 := 0) z_c81 rfl in_X7_nextToken_X7 (by decide) rfl rfl lk_X7_nextToken_9 dX7_nextToken_102 (z_aload_n X 0 dX7_nextToken_105 rfl rfl (z_getI X (k0 := 6) z_c81 rfl in_X7_nextToken_X7 (by decide) rfl rfl lk_X7_nextToken_29 dX7_nextToken_106 (z_cald X z_c82 (z_inS b64) dX7_nextToken_109 (z_callSi X (r := r65) (u1 := u59) [.int (z_gI u59 82 (z_gI u59 81 6).toNatClampNeg)] [] (w_X7_isDigit l g (z_gI u59 82 (z_gI u59 81 6).toNatClampNeg) u59 er65) gX7_nextToken_X7_isDigit hy_X7_isDigit.2 rfl (z_le1 hR (by decide)) (z_le2 hR (by decide) (by decide)) (Nat.le_of_ble_eq_true rfl) dX7_nextToken_110 (z_if_eq X 123 dX7_nextToken_113 (by decide) (fun c66 => ?_) (fun c66 => ?_)))))))
            · replace h := z_ip c66 h
              obtain ⟨b67, h⟩ := z_gs h
              refine z_aload_n X 0 dX7_nextToken_123 rfl rfl (z_aload_n X 0 dX7_nextToken_124 rfl rfl (z_getR X (k0 := 0) z_c81 rfl in_X7_nextToken_X7 (by decide) rfl rfl lk_X7_nextToken_9 dX7_nextToken_125 (z_aload_n X 0 dX7_nextToken_128 rfl rfl (z_getI X (k0 := 6) z_c81 rfl in_X7_nextToken_X7 (by decide) rfl rfl lk_X7_nextToken_29 dX7_nextToken_129 (z_cald X z_c82 (z_inS b67) dX7_nextToken_132 (z_bipush X (v := 59) dX7_nextToken_133 (by decide) (z_icmp_ne X 142 dX7_nextToken_135 (by decide) (fun c68 => ?_) (fun c68 => ?_))))))))
              · replace h := z_in c68 h
                obtain ⟨b71, h⟩ := z_gs h
                refine z_aload_n X 0 dX7_nextToken_142 rfl rfl (z_getR X (k0 := 0) z_c81 rfl in_X7_nextToken_X7 (by decide) rfl rfl lk_X7_nextToken_9 dX7_nextToken_143 (z_aload_n X 0 dX7_nextToken_146 rfl rfl (z_getI X (k0 := 6) z_c81 rfl in_X7_nextToken_X7 (by decide) rfl rfl lk_X7_nextToken_29 dX7_nextToken_147 (z_cald X z_c82 (z_inS b71) dX7_nextToken_150 (z_bipush X (v := 60) dX7_nextToken_151 (by decide) (z_icmp_ne X 161 dX7_nextToken_153 (by decide) (fun c72 => ?_) (fun c72 => ?_)))))))
                · replace h := z_in c72 h
                  obtain ⟨u75, eu75, h⟩ := z_ls h
                  obtain ⟨u76, eu76, h⟩ := z_ls h
                  refine z_bipush X (v := 7) dX7_nextToken_161 (by decide) (z_putI X (k0 := 7) (ty0 := tyX7) z_c81 rfl in_X7_nextToken_X7 tyX7_ok nmX7 (by decide) rfl rfl rfl rfl rfl lk_X7_nextToken_50 dX7_nextToken_163 (z_nm eu75 (z_aload_n X 0 dX7_nextToken_166 rfl rfl (z_dup X dX7_nextToken_167 rfl (z_getI X (k0 := 6) z_c81 rfl in_X7_nextToken_X7 (by decide) rfl rfl lk_X7_nextToken_29 dX7_nextToken_168 (z_iconst X (v := 1) dX7_nextToken_171 (by decide) (z_iadd X dX7_nextToken_172 (z_putI X (k0 := 6) (ty0 := tyX7) z_c81 rfl in_X7_nextToken_X7 tyX7_ok nmX7 (by decide) rfl rfl rfl rfl rfl lk_X7_nextToken_29 dX7_nextToken_173 (z_nm eu76 ?_)))))))))
                  cases h; exact z_vret X rfl dX7_nextToken_176 ⟨rfl, rfl⟩
                · replace h := z_ip c72 h
                  obtain ⟨u73, eu73, h⟩ := z_ls h
                  obtain ⟨u74, eu74, h⟩ := z_ls h
                  refine z_bipush X (v := 6) dX7_nextToken_156 (by decide) (z_goto X 163 dX7_nextToken_158 (by decide) (z_putI X (k0 := 7) (ty0 := tyX7) z_c81 rfl in_X7_nextToken_X7 tyX7_ok nmX7 (by decide) rfl rfl rfl rfl rfl lk_X7_nextToken_50 dX7_nextToken_163 (z_nm eu73 (z_aload_n X 0 dX7_nextToken_166 rfl rfl (z_dup X dX7_nextToken_167 rfl (z_getI X (k0 := 6) z_c81 rfl in_X7_nextToken_X7 (by decide) rfl rfl lk_X7_nextToken_29 dX7_nextToken_168 (z_iconst X (v := 1) dX7_nextToken_171 (by decide) (z_iadd X dX7_nextToken_172 (z_putI X (k0 := 6) (ty0 := tyX7) z_c81 rfl in_X7_nextToken_X7 tyX7_ok nmX7 (by decide) rfl rfl rfl rfl rfl lk_X7_nextToken_29 dX7_nextToken_173 (z_nm eu74 ?_))))))))))
                  cases h; exact z_vret X rfl dX7_nextToken_176 ⟨rfl, rfl⟩
              · replace h := z_ip c68 h
                obtain ⟨u69, eu69, h⟩ := z_ls h
                obtain ⟨u70, eu70, h⟩ := z_ls h
                refine z_iconst X (v := 5) dX7_nextToken_138 (by decide) (z_goto X 163 dX7_nextToken_139 (by decide) (z_putI X (k0 := 7) (ty0 := tyX7) z_c81 rfl in_X7_nextToken_X7 tyX7_ok nmX7 (by decide) rfl rfl rfl rfl rfl lk_X7_nextToken_50 dX7_nextToken_163 (z_nm eu69 (z_aload_n X 0 dX7_nextToken_166 rfl rfl (z_dup X dX7_nextToken_167 rfl (z_getI X (k0 := 6) z_c81 rfl in_X7_nextToken_X7 (by decide) rfl rfl lk_X7_nextToken_29 dX7_nextToken_168 (z_iconst X (v := 1) dX7_nextToken_171 (by decide) (z_iadd X dX7_nextToken_172 (z_putI X (k0 := 6) (ty0 := tyX7) z_c81 rfl in_X7_nextToken_X7 tyX7_ok nmX7 (by decide) rfl rfl rfl rfl rfl lk_X7_nextToken_29 dX7_nextToken_173 (z_nm eu70 ?_))))))))))
                cases h; exact z_vret X rfl dX7_nextToken_176 ⟨rfl, rfl⟩
            · replace h := z_in c66 h
              obtain ⟨r77, er77, h⟩ := z_bs h
              refine z_aload_n X 0 dX7_nextToken_116 rfl rfl (z_callVv X (u1 := r77) [] [] (w_X7_takeNumber l g u59 er77) z_c81 rfl gX7_nextToken_X7_takeNumber hy_X7_takeNumber rfl (z_le1 hR (by decide)) (z_le2 hR (by decide) (by decide)) (Nat.le_of_ble_eq_true rfl) dX7_nextToken_117 (z_goto X 176 dX7_nextToken_120 (by decide) ?_))
              cases h; exact z_vret X rfl dX7_nextToken_176 ⟨rfl, rfl⟩
          · replace h := z_in c63 h
            obtain ⟨r78, er78, h⟩ := z_bs h
            refine z_aload_n X 0 dX7_nextToken_94 rfl rfl (z_callVv X (u1 := r78) [] [] (w_X7_takeWord l g u59 er78) z_c81 rfl gX7_nextToken_X7_takeWord hy_X7_takeWord rfl (z_le1 hR (by decide)) (z_le2 hR (by decide) (by decide)) (Nat.le_of_ble_eq_true rfl) dX7_nextToken_95 (z_goto X 176 dX7_nextToken_98 (by decide) ?_))
            cases h; exact z_vret X rfl dX7_nextToken_176 ⟨rfl, rfl⟩
        · replace h := z_in c60 h
          obtain ⟨u79, eu79, h⟩ := z_ls h
          refine z_aload_n X 0 dX7_nextToken_71 rfl rfl (z_iconst X (v := 0) dX7_nextToken_72 (by decide) (z_putI X (k0 := 7) (ty0 := tyX7) z_c81 rfl in_X7_nextToken_X7 tyX7_ok nmX7 (by decide) rfl rfl rfl rfl rfl lk_X7_nextToken_50 dX7_nextToken_73 (z_nm eu79 (z_goto X 176 dX7_nextToken_76 (by decide) ?_))))
          cases h; exact z_vret X rfl dX7_nextToken_176 ⟨rfl, rfl⟩

theorem lk_X7_refuse_32 : (Cond.fieldLink RX7 32 RX7 (TX7 3).2.1 (TX7 3).2.2.1) ∈ wsX7_refuse := by decide +kernel
theorem in_X7_refuse_X7 : ∀ w ∈ u_ws RX7 TX7 11, w ∈ wsX7_refuse := fun _ h => List.mem_cons_of_mem _ (List.mem_append_right _ h)
theorem lk_X7_refuse_97 : (Cond.fieldLink RX7 97 RX7 (TX7 8).2.1 (TX7 8).2.2.1) ∈ wsX7_refuse := by decide +kernel
theorem lk_X7_refuse_22 : (Cond.fieldLink RX7 22 RX7 (TX7 4).2.1 (TX7 4).2.2.1) ∈ wsX7_refuse := by decide +kernel
def f_X7_refuse (a1 : Int32) (u : z_M) : Option (Int32 × z_M) :=
  z_lt (z_sI u 81 3 a1) (fun u1 => z_lt (z_sI u1 81 4 (z_gI u1 81 8)) (fun u2 => some (0, u2)))
set_option maxRecDepth 20000 in
set_option maxHeartbeats 4000000 in
theorem w_X7_refuse (l : Launch) (g : z_G) (a1 : Int32) (u : z_M) {res : Int32 × z_M} (h : f_X7_refuse a1 u = some res) : z_C l g z_shC yX7_refuse wsX7_refuse 1 [.ref (z_ad g 81), .int a1] u (fun v u' => v = some (.int res.1) ∧ u' = res.2) := by
  refine z_C.mk (lv := [(0, .ref (z_ad g 81)), (1, .int a1)]) (cc := cX7_refuse) (nL := 2) (rt := (some .boolean)) rfl (by decide) (Nat.le_of_ble_eq_true rfl) rfl (fun p e R s m args below meth c hR X => ?_)
  unfold f_X7_refuse at h
  obtain ⟨u1, eu1, h⟩ := z_ls h
  obtain ⟨u2, eu2, h⟩ := z_ls h
  refine z_aload_n X 0 dX7_refuse_0 rfl rfl (z_iload_n X 1 dX7_refuse_1 rfl rfl (z_putI X (k0 := 3) (ty0 := tyX7) z_c81 rfl in_X7_refuse_X7 tyX7_ok nmX7 (by decide) rfl rfl rfl rfl rfl lk_X7_refuse_32 dX7_refuse_2 (z_nm eu1 (z_aload_n X 0 dX7_refuse_5 rfl rfl (z_aload_n X 0 dX7_refuse_6 rfl rfl (z_getI X (k0 := 8) z_c81 rfl in_X7_refuse_X7 (by decide) rfl rfl lk_X7_refuse_97 dX7_refuse_7 (z_putI X (k0 := 4) (ty0 := tyX7) z_c81 rfl in_X7_refuse_X7 tyX7_ok nmX7 (by decide) rfl rfl rfl rfl rfl lk_X7_refuse_22 dX7_refuse_10 (z_nm eu2 (z_iconst X (v := 0) dX7_refuse_13 (by decide) ?_)))))))))
  cases h; exact z_zret X rfl rfl dX7_refuse_14 ⟨rfl, rfl⟩

theorem lk_X7_isNumber_50 : (Cond.fieldLink RX7 50 RX7 (TX7 7).2.1 (TX7 7).2.2.1) ∈ wsX7_isNumber := by decide +kernel
theorem in_X7_isNumber_X7 : ∀ w ∈ u_ws RX7 TX7 11, w ∈ wsX7_isNumber := fun _ h => List.mem_cons_of_mem _ (List.mem_append_right _ h)
theorem lk_X7_isNumber_94 : (Cond.fieldLink RX7 94 RX7 (TX7 9).2.1 (TX7 9).2.2.1) ∈ wsX7_isNumber := by decide +kernel
theorem lk_X7_isNumber_74 : (Cond.fieldLink RX7 74 RX7 (TX7 10).2.1 (TX7 10).2.2.1) ∈ wsX7_isNumber := by decide +kernel
theorem hy_X7_refuse : yX7_refuse.cls = RX7 ∧ yX7_refuse.cls ≠ "java/lang/invoke/MethodHandle" ∧ yX7_refuse.cls ≠ "java/lang/invoke/VarHandle" ∧ (parseMethodDescriptor yX7_refuse.desc).map (fun d => d.parameters.length) = some 1 := by decide +kernel
def f_X7_isNumber (a1 : Int32) (a2 : Int32) (u : z_M) : Option (Int32 × z_M) :=
  if (z_gI u 81 7) = 4 then (if 2 < (z_gI u 81 9) then (z_b2 (f_X7_refuse 2 u) (fun r3 u4 => z_gd (decide (r3 = 0 ∨ r3 = 1)) (some (r3, u4)))) else (if (z_gI u 81 10) < a1 then (z_b2 (f_X7_refuse 2 u) (fun r7 u8 => z_gd (decide (r7 = 0 ∨ r7 = 1)) (some (r7, u8)))) else (if (z_gI u 81 10) ≤ a2 then (some (1, u)) else (z_b2 (f_X7_refuse 2 u) (fun r11 u12 => z_gd (decide (r11 = 0 ∨ r11 = 1)) (some (r11, u12))))))) else (z_b2 (f_X7_refuse 1 u) (fun r14 u15 => z_gd (decide (r14 = 0 ∨ r14 = 1)) (some (r14, u15))))
set_option maxRecDepth 20000 in
set_option maxHeartbeats 4000000 in
theorem w_X7_isNumber (l : Launch) (g : z_G) (a1 : Int32) (a2 : Int32) (u : z_M) {res : Int32 × z_M} (h : f_X7_isNumber a1 a2 u = some res) : z_C l g z_shC yX7_isNumber wsX7_isNumber 2 [.ref (z_ad g 81), .int a1, .int a2] u (fun v u' => v = some (.int res.1) ∧ u' = res.2) := by
  refine z_C.mk (lv := [(0, .ref (z_ad g 81)), (1, .int a1), (2, .int a2)]) (cc := cX7_isNumber) (nL := 3) (rt := (some .boolean)) rfl (by decide) (Nat.le_of_ble_eq_true rfl) rfl (fun p e R s m args below meth c hR X => ?_)
  unfold f_X7_isNumber at h
  refine z_aload_n X 0 dX7_isNumber_0 rfl rfl (z_getI X (k0 := 7) z_c81 rfl in_X7_isNumber_X7 (by decide) rfl rfl lk_X7_isNumber_50 dX7_isNumber_1 (z_iconst X (v := 4) dX7_isNumber_4 (by decide) (z_icmp_eq X 14 dX7_isNumber_5 (by decide) (fun c1 => ?_) (fun c1 => ?_))))
  · replace h := z_ip c1 h
    refine z_aload_n X 0 dX7_isNumber_14 rfl rfl (z_getI X (k0 := 9) z_c81 rfl in_X7_isNumber_X7 (by decide) rfl rfl lk_X7_isNumber_94 dX7_isNumber_15 (z_iconst X (v := 2) dX7_isNumber_18 (by decide) (z_icmp_gt X 38 dX7_isNumber_19 (by decide) (fun c2 => ?_) (fun c2 => ?_))))
    · replace h := z_ip c2 h
      obtain ⟨r3, u4, er3, h⟩ := z_b2s h
      obtain ⟨b5, h⟩ := z_gs h
      refine z_aload_n X 0 dX7_isNumber_38 rfl rfl (z_iconst X (v := 2) dX7_isNumber_39 (by decide) (z_callVi X (r := r3) (u1 := u4) [.int 2] [] (w_X7_refuse l g 2 u er3) z_c81 rfl gX7_isNumber_X7_refuse hy_X7_refuse rfl (z_le1 hR (by decide)) (z_le2 hR (by decide) (by decide)) (Nat.le_of_ble_eq_true rfl) dX7_isNumber_40 ?_))
      cases h; exact z_zret X rfl (z_nz b5) dX7_isNumber_43 ⟨rfl, rfl⟩
    · replace h := z_in c2 h
      refine z_aload_n X 0 dX7_isNumber_22 rfl rfl (z_getI X (k0 := 10) z_c81 rfl in_X7_isNumber_X7 (by decide) rfl rfl lk_X7_isNumber_74 dX7_isNumber_23 (z_iload_n X 1 dX7_isNumber_26 rfl rfl (z_icmp_lt X 38 dX7_isNumber_27 (by decide) (fun c6 => ?_) (fun c6 => ?_))))
      · replace h := z_ip c6 h
        obtain ⟨r7, u8, er7, h⟩ := z_b2s h
        obtain ⟨b9, h⟩ := z_gs h
        refine z_aload_n X 0 dX7_isNumber_38 rfl rfl (z_iconst X (v := 2) dX7_isNumber_39 (by decide) (z_callVi X (r := r7) (u1 := u8) [.int 2] [] (w_X7_refuse l g 2 u er7) z_c81 rfl gX7_isNumber_X7_refuse hy_X7_refuse rfl (z_le1 hR (by decide)) (z_le2 hR (by decide) (by decide)) (Nat.le_of_ble_eq_true rfl) dX7_isNumber_40 ?_))
        cases h; exact z_zret X rfl (z_nz b9) dX7_isNumber_43 ⟨rfl, rfl⟩
      · replace h := z_in c6 h
        refine z_aload_n X 0 dX7_isNumber_30 rfl rfl (z_getI X (k0 := 10) z_c81 rfl in_X7_isNumber_X7 (by decide) rfl rfl lk_X7_isNumber_74 dX7_isNumber_31 (z_iload_n X 2 dX7_isNumber_34 rfl rfl (z_icmp_le X 44 dX7_isNumber_35 (by decide) (fun c10 => ?_) (fun c10 => ?_))))
        · replace h := z_ip c10 h
          refine z_iconst X (v := 1) dX7_isNumber_44 (by decide) ?_
          cases h; exact z_zret X rfl rfl dX7_isNumber_45 ⟨rfl, rfl⟩
        · replace h := z_in c10 h
          obtain ⟨r11, u12, er11, h⟩ := z_b2s h
          obtain ⟨b13, h⟩ := z_gs h
          refine z_aload_n X 0 dX7_isNumber_38 rfl rfl (z_iconst X (v := 2) dX7_isNumber_39 (by decide) (z_callVi X (r := r11) (u1 := u12) [.int 2] [] (w_X7_refuse l g 2 u er11) z_c81 rfl gX7_isNumber_X7_refuse hy_X7_refuse rfl (z_le1 hR (by decide)) (z_le2 hR (by decide) (by decide)) (Nat.le_of_ble_eq_true rfl) dX7_isNumber_40 ?_))
          cases h; exact z_zret X rfl (z_nz b13) dX7_isNumber_43 ⟨rfl, rfl⟩
  · replace h := z_in c1 h
    obtain ⟨r14, u15, er14, h⟩ := z_b2s h
    obtain ⟨b16, h⟩ := z_gs h
    refine z_aload_n X 0 dX7_isNumber_8 rfl rfl (z_iconst X (v := 1) dX7_isNumber_9 (by decide) (z_callVi X (r := r14) (u1 := u15) [.int 1] [] (w_X7_refuse l g 1 u er14) z_c81 rfl gX7_isNumber_X7_refuse hy_X7_refuse rfl (z_le1 hR (by decide)) (z_le2 hR (by decide) (by decide)) (Nat.le_of_ble_eq_true rfl) dX7_isNumber_10 ?_))
    cases h; exact z_zret X rfl (z_nz b16) dX7_isNumber_13 ⟨rfl, rfl⟩

theorem lk_X7_readPoints_18 : (Cond.fieldLink RX7 18 RX7 (TX7 2).2.1 (TX7 2).2.2.1) ∈ wsX7_readPoints := by decide +kernel
theorem in_X7_readPoints_X7 : ∀ w ∈ u_ws RX7 TX7 11, w ∈ wsX7_readPoints := fun _ h => List.mem_cons_of_mem _ (List.mem_append_left _ (List.mem_append_right _ h))
theorem lk_X7_readPoints_74 : (Cond.fieldLink RX7 74 RX7 (TX7 10).2.1 (TX7 10).2.2.1) ∈ wsX7_readPoints := by decide +kernel
theorem hy_X6_begin : yX6_begin.cls = RX6 ∧ yX6_begin.cls ≠ "java/lang/invoke/MethodHandle" ∧ yX6_begin.cls ≠ "java/lang/invoke/VarHandle" ∧ (parseMethodDescriptor yX6_begin.desc).map (fun d => d.parameters.length) = some 1 := by decide +kernel
theorem hy_X7_isNumber : yX7_isNumber.cls = RX7 ∧ yX7_isNumber.cls ≠ "java/lang/invoke/MethodHandle" ∧ yX7_isNumber.cls ≠ "java/lang/invoke/VarHandle" ∧ (parseMethodDescriptor yX7_isNumber.desc).map (fun d => d.parameters.length) = some 2 := by decide +kernel
theorem hy_X7_nextToken : yX7_nextToken.cls = RX7 ∧ yX7_nextToken.cls ≠ "java/lang/invoke/MethodHandle" ∧ yX7_nextToken.cls ≠ "java/lang/invoke/VarHandle" ∧ (parseMethodDescriptor yX7_nextToken.desc).map (fun d => d.parameters.length) = some 0 := by decide +kernel
def f_X7_readPoints (u : z_M) : Option (Int32 × z_M) :=
  Option.bind (f_X7_nextToken u) (fun r1 => z_b2 (f_X7_isNumber 1 9 r1) (fun r2 u3 => if r2 = 0 then (some (0, u3)) else (Option.bind (f_X6_begin 4 (z_gI u3 81 10) u3) (fun r5 => Option.bind (f_X7_nextToken r5) (fun r6 => some (1, r6))))))
set_option maxRecDepth 20000 in
set_option maxHeartbeats 4000000 in
theorem w_X7_readPoints (l : Launch) (g : z_G)  (u : z_M) {res : Int32 × z_M} (h : f_X7_readPoints u = some res) : z_C l g z_shC yX7_readPoints wsX7_readPoints 10 [.ref (z_ad g 81)] u (fun v u' => v = some (.int res.1) ∧ u' = res.2) := by
  refine z_C.mk (lv := [(0, .ref (z_ad g 81))]) (cc := cX7_readPoints) (nL := 1) (rt := (some .boolean)) rfl (by decide) (Nat.le_of_ble_eq_true rfl) rfl (fun p e R s m args below meth c hR X => ?_)
  unfold f_X7_readPoints at h
  obtain ⟨r1, er1, h⟩ := z_bs h
  obtain ⟨r2, u3, er2, h⟩ := z_b2s h
  refine z_aload_n X 0 dX7_readPoints_0 rfl rfl (z_callVv X (u1 := r1) [] [] (w_X7_nextToken l g u er1) z_c81 rfl gX7_readPoints_X7_nextToken hy_X7_nextToken rfl (z_le1 hR (by decide)) (z_le2 hR (by decide) (by decide)) (Nat.le_of_ble_eq_true rfl) dX7_readPoints_1 (z_aload_n X 0 dX7_readPoints_4 rfl rfl (z_iconst X (v := 1) dX7_readPoints_5 (by decide) (z_bipush X (v := 9) dX7_readPoints_6 (by decide) (z_callVi X (r := r2) (u1 := u3) [.int 1, .int 9] [] (w_X7_isNumber l g 1 9 r1 er2) z_c81 rfl gX7_readPoints_X7_isNumber hy_X7_isNumber rfl (z_le1 hR (by decide)) (z_le2 hR (by decide) (by decide)) (Nat.le_of_ble_eq_true rfl) dX7_readPoints_8 (z_if_ne X 16 dX7_readPoints_11 (by decide) (fun c4 => ?_) (fun c4 => ?_)))))))
  · replace h := z_in c4 h
    obtain ⟨r5, er5, h⟩ := z_bs h
    obtain ⟨r6, er6, h⟩ := z_bs h
    refine z_aload_n X 0 dX7_readPoints_16 rfl rfl (z_getR X (k0 := 2) z_c81 rfl in_X7_readPoints_X7 (by decide) rfl rfl lk_X7_readPoints_18 dX7_readPoints_17 (z_aload_n X 0 dX7_readPoints_20 rfl rfl (z_getI X (k0 := 10) z_c81 rfl in_X7_readPoints_X7 (by decide) rfl rfl lk_X7_readPoints_74 dX7_readPoints_21 (z_callVv X (u1 := r5) [.int (z_gI u3 81 10)] [] (w_X6_begin l g 4 (z_gI u3 81 10) z_po_4 u3 er5) (z_po z_po_4) rfl gX7_readPoints_X6_begin hy_X6_begin rfl (z_le1 hR (by decide)) (z_le2 hR (by decide) (by decide)) (Nat.le_of_ble_eq_true rfl) dX7_readPoints_24 (z_aload_n X 0 dX7_readPoints_27 rfl rfl (z_callVv X (u1 := r6) [] [] (w_X7_nextToken l g r5 er6) z_c81 rfl gX7_readPoints_X7_nextToken hy_X7_nextToken rfl (z_le1 hR (by decide)) (z_le2 hR (by decide) (by decide)) (Nat.le_of_ble_eq_true rfl) dX7_readPoints_28 (z_iconst X (v := 1) dX7_readPoints_31 (by decide) ?_)))))))
    cases h; exact z_zret X rfl rfl dX7_readPoints_32 ⟨rfl, rfl⟩
  · replace h := z_ip c4 h
    refine z_iconst X (v := 0) dX7_readPoints_14 (by decide) ?_
    cases h; exact z_zret X rfl rfl dX7_readPoints_15 ⟨rfl, rfl⟩

theorem lk_X7_readRule_18 : (Cond.fieldLink RX7 18 RX7 (TX7 2).2.1 (TX7 2).2.2.1) ∈ wsX7_readRule := by decide +kernel
theorem in_X7_readRule_X7 : ∀ w ∈ u_ws RX7 TX7 11, w ∈ wsX7_readRule := fun _ h => List.mem_cons_of_mem _ (List.mem_append_left _ (List.mem_append_right _ h))
theorem lk_X7_readRule_74 : (Cond.fieldLink RX7 74 RX7 (TX7 10).2.1 (TX7 10).2.2.1) ∈ wsX7_readRule := by decide +kernel
theorem lk_X7_readRule_77 : (Cond.fieldLink RX7 77 RX6 (TX6 2).2.1 (TX6 2).2.2.1) ∈ wsX7_readRule := by decide +kernel
theorem in_X7_readRule_X6 : ∀ w ∈ u_ws RX6 TX6 6, w ∈ wsX7_readRule := fun _ h => List.mem_cons_of_mem _ (List.mem_append_right _ h)
theorem lk_X7_readRule_35 : (Cond.fieldLink RX7 35 RX7 (TX7 5).2.1 (TX7 5).2.2.1) ∈ wsX7_readRule := by decide +kernel
def f_X7_readRule (u : z_M) : Option (Int32 × z_M) :=
  Option.bind (f_X7_nextToken u) (fun r1 => z_b2 (f_X7_isNumber 0 3 r1) (fun r2 u3 => if r2 = 0 then (some (0, u3)) else (z_lt (z_sI u3 4 2 (z_gI u3 81 10)) (fun u5 => z_lt (z_sI u5 81 5 1) (fun u6 => Option.bind (f_X7_nextToken u6) (fun r7 => some (1, r7)))))))
set_option maxRecDepth 20000 in
set_option maxHeartbeats 4000000 in
theorem w_X7_readRule (l : Launch) (g : z_G)  (u : z_M) {res : Int32 × z_M} (h : f_X7_readRule u = some res) : z_C l g z_shC yX7_readRule wsX7_readRule 10 [.ref (z_ad g 81)] u (fun v u' => v = some (.int res.1) ∧ u' = res.2) := by
  refine z_C.mk (lv := [(0, .ref (z_ad g 81))]) (cc := cX7_readRule) (nL := 1) (rt := (some .boolean)) rfl (by decide) (Nat.le_of_ble_eq_true rfl) rfl (fun p e R s m args below meth c hR X => ?_)
  unfold f_X7_readRule at h
  obtain ⟨r1, er1, h⟩ := z_bs h
  obtain ⟨r2, u3, er2, h⟩ := z_b2s h
  refine z_aload_n X 0 dX7_readRule_0 rfl rfl (z_callVv X (u1 := r1) [] [] (w_X7_nextToken l g u er1) z_c81 rfl gX7_readRule_X7_nextToken hy_X7_nextToken rfl (z_le1 hR (by decide)) (z_le2 hR (by decide) (by decide)) (Nat.le_of_ble_eq_true rfl) dX7_readRule_1 (z_aload_n X 0 dX7_readRule_4 rfl rfl (z_iconst X (v := 0) dX7_readRule_5 (by decide) (z_iconst X (v := 3) dX7_readRule_6 (by decide) (z_callVi X (r := r2) (u1 := u3) [.int 0, .int 3] [] (w_X7_isNumber l g 0 3 r1 er2) z_c81 rfl gX7_readRule_X7_isNumber hy_X7_isNumber rfl (z_le1 hR (by decide)) (z_le2 hR (by decide) (by decide)) (Nat.le_of_ble_eq_true rfl) dX7_readRule_7 (z_if_ne X 15 dX7_readRule_10 (by decide) (fun c4 => ?_) (fun c4 => ?_)))))))
  · replace h := z_in c4 h
    obtain ⟨u5, eu5, h⟩ := z_ls h
    obtain ⟨u6, eu6, h⟩ := z_ls h
    obtain ⟨r7, er7, h⟩ := z_bs h
    refine z_aload_n X 0 dX7_readRule_15 rfl rfl (z_getR X (k0 := 2) z_c81 rfl in_X7_readRule_X7 (by decide) rfl rfl lk_X7_readRule_18 dX7_readRule_16 (z_aload_n X 0 dX7_readRule_19 rfl rfl (z_getI X (k0 := 10) z_c81 rfl in_X7_readRule_X7 (by decide) rfl rfl lk_X7_readRule_74 dX7_readRule_20 (z_putI X (k0 := 2) (ty0 := tyX6) (z_po z_po_4) rfl in_X7_readRule_X6 tyX6_ok nmX6 (by decide) rfl rfl rfl rfl rfl lk_X7_readRule_77 dX7_readRule_23 (z_nm eu5 (z_aload_n X 0 dX7_readRule_26 rfl rfl (z_iconst X (v := 1) dX7_readRule_27 (by decide) (z_putI X (k0 := 5) (ty0 := tyX7) z_c81 rfl in_X7_readRule_X7 tyX7_ok nmX7 (by decide) rfl rfl rfl rfl rfl lk_X7_readRule_35 dX7_readRule_28 (z_nm eu6 (z_aload_n X 0 dX7_readRule_31 rfl rfl (z_callVv X (u1 := r7) [] [] (w_X7_nextToken l g u6 er7) z_c81 rfl gX7_readRule_X7_nextToken hy_X7_nextToken rfl (z_le1 hR (by decide)) (z_le2 hR (by decide) (by decide)) (Nat.le_of_ble_eq_true rfl) dX7_readRule_32 (z_iconst X (v := 1) dX7_readRule_35 (by decide) ?_))))))))))))
    cases h; exact z_zret X rfl rfl dX7_readRule_36 ⟨rfl, rfl⟩
  · replace h := z_ip c4 h
    refine z_iconst X (v := 0) dX7_readRule_13 (by decide) ?_
    cases h; exact z_zret X rfl rfl dX7_readRule_14 ⟨rfl, rfl⟩
