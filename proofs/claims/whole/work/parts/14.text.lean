/-! The words' lengths and signs: the JDK's own methods, walked. -/
section ZT
variable {p : Program} {l : Launch} {e : Env} {R : Room} {s : State} {m : MethodId} {args : Array Value} {below : List Frame} {meth : Method} {c : Code} {cc : ByteArray} {nL : Nat} {own : String} {Ts : List Cond} {rt : Option FieldType} {Q : State → Prop} {g : z_G} {sh : List z_S}
variable {pc : Nat} {lv : List (Nat × Value)} {st : List Value} {u : z_M}
theorem z_getsC (X : z_X p R s m args meth c cc nL own Ts rt g sh) {index : Nat} (hl : Cond.fieldLink own index "java/lang/String" "COMPACT_STRINGS" "Z" ∈ Ts) (hd : decode cc pc = .ok (.getstatic index, 3)) (k : z_V p l e R s m args below meth c nL g sh Q (pc + 3) lv (.int 1 :: st) u) : z_V p l e R s m args below meth c nL g sh Q pc lv st u :=
  fun H locs ls h1 h2 h3 h4 => va_gets X.1.1 X.1.2.1 X.2.2.1.2.2.1 h4 X.1.2.2.2.1 (X.1.2.2.2.2 _ hl) (fun _ h => h) hd (k H locs ls h1 h2 h3 h4)
theorem z_getsQ (X : z_X p R s m args meth c cc nL own Ts rt g sh) {index : Nat} (hl : Cond.fieldLink own index "jdk/internal/util/Preconditions" "SIOOBE_FORMATTER" "Ljava/util/function/BiFunction;" ∈ Ts) (hd : decode cc pc = .ok (.getstatic index, 3)) (k : ∀ v : Value, (v = .null ∨ ∃ t, v = .ref t) → z_V p l e R s m args below meth c nL g sh Q (pc + 3) lv (v :: st) u) : z_V p l e R s m args below meth c nL g sh Q pc lv st u := by
  intro H locs ls h1 h2 h3 h4
  rcases X.2.2.1.2.2.2.1 with hz | ⟨t, hz⟩
  · exact va_gets X.1.1 X.1.2.1 hz h4 X.1.2.2.2.1 (X.1.2.2.2.2 _ hl) (fun _ h => h) hd (k .null (Or.inl rfl) H locs ls h1 h2 h3 h4)
  · exact va_gets X.1.1 X.1.2.1 hz h4 X.1.2.2.2.1 (X.1.2.2.2.2 _ hl) (fun _ h => h) hd (k (.ref t) (Or.inr ⟨t, rfl⟩) H locs ls h1 h2 h3 h4)
theorem z_strV (X : z_X p R s m args meth c cc nL own Ts rt g sh) {index w : Nat} (hw : w < 3) (hl : Cond.fieldLink own index "java/lang/String" "value" "[B" ∈ Ts) (hd : decode cc pc = .ok (.getfield index, 3)) (k : z_V p l e R s m args below meth c nL g sh Q (pc + 3) lv (.ref (g.2.2.2.2 w) :: st) u) : z_V p l e R s m args below meth c nL g sh Q pc lv (.ref (g.2.2.2.1 w) :: st) u :=
  fun H locs ls h1 h2 h3 h4 => vk_getf X.1.1 X.1.2.1 (X.2.2.1.2.1.1 w hw).2.2.1 h4 X.1.2.2.2.1 (X.1.2.2.2.2 _ hl) (fun _ h => h) hd (k H locs ls h1 h2 h3 h4)
theorem z_strC (X : z_X p R s m args meth c cc nL own Ts rt g sh) {index w : Nat} (hw : w < 3) (hl : Cond.fieldLink own index "java/lang/String" "coder" "B" ∈ Ts) (hd : decode cc pc = .ok (.getfield index, 3)) (k : z_V p l e R s m args below meth c nL g sh Q (pc + 3) lv (.int 0 :: st) u) : z_V p l e R s m args below meth c nL g sh Q pc lv (.ref (g.2.2.2.1 w) :: st) u :=
  fun H locs ls h1 h2 h3 h4 => vk_getf X.1.1 X.1.2.1 (X.2.2.1.2.1.1 w hw).2.1 h4 X.1.2.2.2.1 (X.1.2.2.2.2 _ hl) (fun _ h => h) hd (k H locs ls h1 h2 h3 h4)
theorem z_strLen (X : z_X p R s m args meth c cc nL own Ts rt g sh) {w : Nat} (hw : w < 3) (hd : decode cc pc = .ok (.arraylength, 1)) (k : z_V p l e R s m args below meth c nL g sh Q (pc + 1) lv (.int (nI (z_slenN w)) :: st) u) : z_V p l e R s m args below meth c nL g sh Q pc lv (.ref (g.2.2.2.2 w) :: st) u :=
  fun H locs ls h1 h2 h3 h4 => va_tlen X.1.1 X.1.2.1 (X.2.2.1.2.1.1 w hw).2.2.2 h4 rfl hd (k H locs ls h1 h2 h3 h4)
theorem z_strB (X : z_X p R s m args meth c cc nL own Ts rt g sh) {w : Nat} {x : Int32} (hw : w < 3) (hx : vp_in x (z_slenN w)) (hd : decode cc pc = .ok (.baload, 1)) (k : z_V p l e R s m args below meth c nL g sh Q (pc + 1) lv (.int (z_chr w x) :: st) u) : z_V p l e R s m args below meth c nL g sh Q pc lv (.int x :: .ref (g.2.2.2.2 w) :: st) u :=
  fun H locs ls h1 h2 h3 h4 => va_tb X.1.1 X.1.2.1 (X.2.2.1.2.1.1 w hw).2.2.2 h4 hx rfl hd (k H locs ls h1 h2 h3 h4)
theorem z_callT (X : z_X p R s m args meth c cc nL own Ts rt g sh) {w : Nat} {y : MethodName} {ws ws' : List Cond} {bytes : ByteArray} {maxL d index : Nat} {ret : Option FieldType} {Rs : Option Value → z_M → Prop} (As rest : List Value) (hM : z_C l g sh y ws d (.ref (g.2.2.2.1 w) :: As) u Rs) (hw3 : w < 3) (hg : GoodIn Ts (wsV own index RJ0 y ws)) (hdy : y.cls = RJ0 ∧ y.cls ≠ "java/lang/invoke/MethodHandle" ∧ y.cls ≠ "java/lang/invoke/VarHandle" ∧ (parseMethodDescriptor y.desc).map (fun d => d.parameters.length) = some As.length) (hw : ws = Cond.code y bytes maxL ret :: ws') (hd1 : (z_rm d).frames + 1 ≤ R.frames) (hd2 : 8 + (maxL + 11) + (z_rm d).locals ≤ R.locals) (hst : (rest.map fun v => v.category).sum ≤ 8) (hd : decode cc pc = .ok (.invokevirtual index, 3)) (k : ∀ (v : Option Value) (u' : z_M), Rs v u' → z_V p l e R s m args below meth c nL g sh Q (pc + 3) lv (v.toList ++ rest) u') : z_V p l e R s m args below meth c nL g sh Q pc lv (As.reverse ++ .ref (g.2.2.2.1 w) :: rest) u :=
  fun H locs ls h1 h2 h3 h4 => z_after (y := y) (d := d) h4 h1 (va_runV (As := As) (rest := rest) X.1 hM (cwV As.length X.1.2.2.2.2 hg hw rfl rfl hdy ⟨hd1, hd2⟩) ⟨(z_pre (av := .ref (g.2.2.2.1 w) :: As) X h2 h3 h4).1, vk_recv X.2.2.1.2.1 hw3 h4, (z_pre X h2 h3 h4).2⟩ rfl rfl h1.1 rfl (lv_room hst) hd ⟨Nat.zero_le _, Nat.zero_le _⟩) k
theorem z_callTi (X : z_X p R s m args meth c cc nL own Ts rt g sh) {w : Nat} {r : Int32} {u1 : z_M} {y : MethodName} {ws ws' : List Cond} {bytes : ByteArray} {maxL d index : Nat} {ret : Option FieldType} (As rest : List Value) (hM : z_C l g sh y ws d (.ref (g.2.2.2.1 w) :: As) u (fun v u' => v = some (.int r) ∧ u' = u1)) (hw3 : w < 3) (hg : GoodIn Ts (wsV own index RJ0 y ws)) (hdy : y.cls = RJ0 ∧ y.cls ≠ "java/lang/invoke/MethodHandle" ∧ y.cls ≠ "java/lang/invoke/VarHandle" ∧ (parseMethodDescriptor y.desc).map (fun d => d.parameters.length) = some As.length) (hw : ws = Cond.code y bytes maxL ret :: ws') (hd1 : (z_rm d).frames + 1 ≤ R.frames) (hd2 : 8 + (maxL + 11) + (z_rm d).locals ≤ R.locals) (hst : (rest.map fun v => v.category).sum ≤ 8) (hd : decode cc pc = .ok (.invokevirtual index, 3)) (k : z_V p l e R s m args below meth c nL g sh Q (pc + 3) lv (.int r :: rest) u1) : z_V p l e R s m args below meth c nL g sh Q pc lv (As.reverse ++ .ref (g.2.2.2.1 w) :: rest) u :=
  z_callT X As rest hM hw3 hg hdy hw hd1 hd2 hst hd (fun v u' hv => by obtain ⟨rfl, rfl⟩ := hv; exact k)
end ZT
theorem hy_J0_coder_7d493 : yJ0_coder_7d493.cls = RJ0 ∧ yJ0_coder_7d493.cls ≠ "java/lang/invoke/MethodHandle" ∧ yJ0_coder_7d493.cls ≠ "java/lang/invoke/VarHandle" ∧ (parseMethodDescriptor yJ0_coder_7d493.desc).map (fun d => d.parameters.length) = some 0 := by decide +kernel
theorem hy_J0_isLatin1_aae02 : yJ0_isLatin1_aae02.cls = RJ0 ∧ yJ0_isLatin1_aae02.cls ≠ "java/lang/invoke/MethodHandle" ∧ yJ0_isLatin1_aae02.cls ≠ "java/lang/invoke/VarHandle" ∧ (parseMethodDescriptor yJ0_isLatin1_aae02.desc).map (fun d => d.parameters.length) = some 0 := by decide +kernel
theorem hy_J1_charAt_3b067 : yJ1_charAt_3b067.cls ≠ "java/lang/invoke/MethodHandle" ∧ yJ1_charAt_3b067.cls ≠ "java/lang/invoke/VarHandle" ∧ (parseMethodDescriptor yJ1_charAt_3b067.desc).map (fun d => d.parameters.length) = some 2 := by decide +kernel
theorem hy_J0_checkIndex_df160 : yJ0_checkIndex_df160.cls ≠ "java/lang/invoke/MethodHandle" ∧ yJ0_checkIndex_df160.cls ≠ "java/lang/invoke/VarHandle" ∧ (parseMethodDescriptor yJ0_checkIndex_df160.desc).map (fun d => d.parameters.length) = some 2 := by decide +kernel
theorem hy_J3_checkIndex_8e157 : yJ3_checkIndex_8e157.cls ≠ "java/lang/invoke/MethodHandle" ∧ yJ3_checkIndex_8e157.cls ≠ "java/lang/invoke/VarHandle" ∧ (parseMethodDescriptor yJ3_checkIndex_8e157.desc).map (fun d => d.parameters.length) = some 3 := by decide +kernel
theorem w_coder (l : Launch) (g : z_G) (sh : List z_S) (w : Nat) (hw : w < 3) (u : z_M) : z_C l g sh yJ0_coder_7d493 wsJ0_coder_7d493 1 [.ref (g.2.2.2.1 w)] u (fun v u' => v = some (.int 0) ∧ u' = u) := by
  refine z_C.mk (lv := [(0, .ref (g.2.2.2.1 w))]) (cc := cJ0_coder_7d493) (nL := 1) (rt := some .byte) rfl (by decide) (Nat.le_of_ble_eq_true rfl) rfl (fun p e R s m args below meth c hR X => ?_)
  refine z_getsC X (by decide +kernel) dJ0_coder_7d493_0 (z_if_eq X 13 dJ0_coder_7d493_3 (by decide) (fun h => absurd h (by decide)) (fun _ => ?_))
  refine z_aload_n X 0 dJ0_coder_7d493_6 rfl rfl (z_strC X hw (by decide +kernel) dJ0_coder_7d493_7 (z_goto X 14 dJ0_coder_7d493_10 (by decide) ?_))
  exact z_zret X rfl rfl dJ0_coder_7d493_14 ⟨rfl, rfl⟩
theorem w_isLatin1 (l : Launch) (g : z_G) (sh : List z_S) (w : Nat) (hw : w < 3) (u : z_M) : z_C l g sh yJ0_isLatin1_aae02 wsJ0_isLatin1_aae02 1 [.ref (g.2.2.2.1 w)] u (fun v u' => v = some (.int 1) ∧ u' = u) := by
  refine z_C.mk (lv := [(0, .ref (g.2.2.2.1 w))]) (cc := cJ0_isLatin1_aae02) (nL := 1) (rt := some .boolean) rfl (by decide) (Nat.le_of_ble_eq_true rfl) rfl (fun p e R s m args below meth c hR X => ?_)
  refine z_getsC X (by decide +kernel) dJ0_isLatin1_aae02_0 (z_if_eq X 17 dJ0_isLatin1_aae02_3 (by decide) (fun h => absurd h (by decide)) (fun _ => ?_))
  refine z_aload_n X 0 dJ0_isLatin1_aae02_6 rfl rfl (z_strC X hw (by decide +kernel) dJ0_isLatin1_aae02_7 (z_if_ne X 17 dJ0_isLatin1_aae02_10 (by decide) (fun h => absurd rfl h) (fun _ => ?_)))
  refine z_iconst X (v := 1) dJ0_isLatin1_aae02_13 (by decide) (z_goto X 18 dJ0_isLatin1_aae02_14 (by decide) ?_)
  exact z_zret X rfl rfl dJ0_isLatin1_aae02_18 ⟨rfl, rfl⟩
theorem w_slen (l : Launch) (g : z_G) (sh : List z_S) (w : Nat) (hw : w < 3) (u : z_M) : z_C l g sh yJ0_length_8abf5 wsJ0_length_8abf5 4 [.ref (g.2.2.2.1 w)] u (fun v u' => v = some (.int (z_slen w)) ∧ u' = u) := by
  refine z_C.mk (lv := [(0, .ref (g.2.2.2.1 w))]) (cc := cJ0_length_8abf5) (nL := 1) (rt := some .int) rfl (by decide) (Nat.le_of_ble_eq_true rfl) rfl (fun p e R s m args below meth c hR X => ?_)
  refine z_aload_n X 0 dJ0_length_8abf5_0 rfl rfl (z_strV X hw (by decide +kernel) dJ0_length_8abf5_1 (z_strLen X hw dJ0_length_8abf5_4 (z_aload_n X 0 dJ0_length_8abf5_5 rfl rfl ?_)))
  refine z_callTi X (r := 0) (u1 := u) [] [.int (nI (z_slenN w))] (w_coder l g sh w hw u) hw gJ0_length_8abf5_J0_coder_7d493 hy_J0_coder_7d493 rfl (z_le1 hR (by decide)) (z_le2 hR (by decide) (by decide)) (Nat.le_of_ble_eq_true rfl) dJ0_length_8abf5_6 (z_ishr X dJ0_length_8abf5_9 ?_)
  rw [sb_shr0]
  exact z_iret X rfl dJ0_length_8abf5_10 ⟨rfl, rfl⟩
theorem w_checkP (l : Launch) (g : z_G) (sh : List z_S) (x n : Int32) (v : Value) (hv : v = .null ∨ ∃ t, v = .ref t) (h0 : ¬ x < 0) (h1 : x < n) (u : z_M) : z_C l g sh yJ3_checkIndex_8e157 wsJ3_checkIndex_8e157 1 [.int x, .int n, v] u (fun v u' => v = some (.int x) ∧ u' = u) := by
  rcases hv with rfl | ⟨t, rfl⟩
  · refine z_C.mk (lv := [(0, .int x), (1, .int n), (2, .null)]) (cc := cJ3_checkIndex_8e157) (nL := 3) (rt := some .int) rfl (by decide) (Nat.le_of_ble_eq_true rfl) rfl (fun p e R s m args below meth c hR X => ?_)
    refine z_iload_n X 0 dJ3_checkIndex_8e157_0 rfl rfl (z_if_lt X 9 dJ3_checkIndex_8e157_1 (by decide) (fun h => absurd h h0) (fun _ => ?_))
    refine z_iload_n X 0 dJ3_checkIndex_8e157_4 rfl rfl (z_iload_n X 1 dJ3_checkIndex_8e157_5 rfl rfl (z_icmp_lt X 16 dJ3_checkIndex_8e157_6 (by decide) (fun _ => ?_) (fun h => absurd h1 h)))
    refine z_iload_n X 0 dJ3_checkIndex_8e157_16 rfl rfl ?_
    exact z_iret X rfl dJ3_checkIndex_8e157_17 ⟨rfl, rfl⟩
  · refine z_C.mk (lv := [(0, .int x), (1, .int n), (2, .ref t)]) (cc := cJ3_checkIndex_8e157) (nL := 3) (rt := some .int) rfl (by decide) (Nat.le_of_ble_eq_true rfl) rfl (fun p e R s m args below meth c hR X => ?_)
    refine z_iload_n X 0 dJ3_checkIndex_8e157_0 rfl rfl (z_if_lt X 9 dJ3_checkIndex_8e157_1 (by decide) (fun h => absurd h h0) (fun _ => ?_))
    refine z_iload_n X 0 dJ3_checkIndex_8e157_4 rfl rfl (z_iload_n X 1 dJ3_checkIndex_8e157_5 rfl rfl (z_icmp_lt X 16 dJ3_checkIndex_8e157_6 (by decide) (fun _ => ?_) (fun h => absurd h1 h)))
    refine z_iload_n X 0 dJ3_checkIndex_8e157_16 rfl rfl ?_
    exact z_iret X rfl dJ3_checkIndex_8e157_17 ⟨rfl, rfl⟩
theorem w_checkS (l : Launch) (g : z_G) (sh : List z_S) (x n : Int32) (h0 : ¬ x < 0) (h1 : x < n) (u : z_M) : z_C l g sh yJ0_checkIndex_df160 wsJ0_checkIndex_df160 2 [.int x, .int n] u (fun v u' => v = none ∧ u' = u) := by
  refine z_C.mk (lv := [(0, .int x), (1, .int n)]) (cc := cJ0_checkIndex_df160) (nL := 2) (rt := none) rfl (by decide) (Nat.le_of_ble_eq_true rfl) rfl (fun p e R s m args below meth c hR X => ?_)
  refine z_iload_n X 0 dJ0_checkIndex_df160_0 rfl rfl (z_iload_n X 1 dJ0_checkIndex_df160_1 rfl rfl (z_getsQ X (by decide +kernel) dJ0_checkIndex_df160_2 (fun v hv => ?_)))
  refine z_callSi X (r := x) (u1 := u) [.int x, .int n, v] [] (w_checkP l g sh x n v hv h0 h1 u) gJ0_checkIndex_df160_J3_checkIndex_8e157 hy_J3_checkIndex_8e157 rfl (z_le1 hR (by decide)) (z_le2 hR (by decide) (by decide)) (Nat.le_of_ble_eq_true rfl) dJ0_checkIndex_df160_5 (z_pop X dJ0_checkIndex_df160_8 rfl ?_)
  exact z_vret X rfl dJ0_checkIndex_df160_9 ⟨rfl, rfl⟩
theorem z_chr_ok : ∀ w, w < 3 → ∀ j, j < 6 → ((((z_byt.getD w []).getD j 0) &&& 255).toUInt32 % 65536).toInt32 = (z_byt.getD w []).getD j 0 ∧ narrow .char (.int ((z_byt.getD w []).getD j 0)) = .int ((z_byt.getD w []).getD j 0) := by
  intro w hw j hj
  match w, hw, j, hj with
  | 0, _, 0, _ => exact ⟨by decide, rfl⟩
  | 0, _, 1, _ => exact ⟨by decide, rfl⟩
  | 0, _, 2, _ => exact ⟨by decide, rfl⟩
  | 0, _, 3, _ => exact ⟨by decide, rfl⟩
  | 0, _, 4, _ => exact ⟨by decide, rfl⟩
  | 0, _, 5, _ => exact ⟨by decide, rfl⟩
  | 1, _, 0, _ => exact ⟨by decide, rfl⟩
  | 1, _, 1, _ => exact ⟨by decide, rfl⟩
  | 1, _, 2, _ => exact ⟨by decide, rfl⟩
  | 1, _, 3, _ => exact ⟨by decide, rfl⟩
  | 1, _, 4, _ => exact ⟨by decide, rfl⟩
  | 1, _, 5, _ => exact ⟨by decide, rfl⟩
  | 2, _, 0, _ => exact ⟨by decide, rfl⟩
  | 2, _, 1, _ => exact ⟨by decide, rfl⟩
  | 2, _, 2, _ => exact ⟨by decide, rfl⟩
  | 2, _, 3, _ => exact ⟨by decide, rfl⟩
  | 2, _, 4, _ => exact ⟨by decide, rfl⟩
  | 2, _, 5, _ => exact ⟨by decide, rfl⟩
  | w + 3, h, _, _ => exact absurd h (by omega)
  | _, _, j + 6, h => exact absurd h (by omega)
theorem z_slenN_le (w : Nat) : z_slenN w ≤ 6 := by
  match w with
  | 0 => decide
  | 1 => decide
  | 2 => decide
  | w + 3 => simp [z_slenN, z_len]
theorem z_in_lt {x : Int32} {n : Nat} (h : vp_in x n) (hn : n < 2 ^ 31) : ¬ x < 0 ∧ x < nI n := by
  obtain ⟨j, hj, rfl⟩ := vp_in_of h hn
  exact ⟨nI_pos (by omega), nI_lt hj hn⟩
theorem w_chr1 (l : Launch) (g : z_G) (sh : List z_S) (w : Nat) (hw : w < 3) (x : Int32) (hx : vp_in x (z_slenN w)) (u : z_M) : z_C l g sh yJ1_charAt_3b067 wsJ1_charAt_3b067 3 [.ref (g.2.2.2.2 w), .int x] u (fun v u' => v = some (.int (z_chr w x)) ∧ u' = u) := by
  have hn : z_slenN w < 2 ^ 31 := by have := z_slenN_le w; omega
  obtain ⟨q0, q1⟩ := z_in_lt hx hn
  have hj : x.toNatClampNeg < 6 := by have := z_clampLt hx; have := z_slenN_le w; omega
  refine z_C.mk (lv := [(0, .ref (g.2.2.2.2 w)), (1, .int x)]) (cc := cJ1_charAt_3b067) (nL := 2) (rt := some .char) rfl (by decide) (Nat.le_of_ble_eq_true rfl) rfl (fun p e R s m args below meth c hR X => ?_)
  refine z_iload_n X 1 dJ1_charAt_3b067_0 rfl rfl (z_aload_n X 0 dJ1_charAt_3b067_1 rfl rfl (z_strLen X hw dJ1_charAt_3b067_2 ?_))
  refine z_callSv X (u1 := u) [.int x, .int (nI (z_slenN w))] [] (w_checkS l g sh x (nI (z_slenN w)) q0 q1 u) gJ1_charAt_3b067_J0_checkIndex_df160 hy_J0_checkIndex_df160 rfl (z_le1 hR (by decide)) (z_le2 hR (by decide) (by decide)) (Nat.le_of_ble_eq_true rfl) dJ1_charAt_3b067_3 ?_
  refine z_aload_n X 0 dJ1_charAt_3b067_6 rfl rfl (z_iload_n X 1 dJ1_charAt_3b067_7 rfl rfl (z_strB X hw hx dJ1_charAt_3b067_8 (z_sipush X (v := 255) dJ1_charAt_3b067_9 (by decide) (z_iand X dJ1_charAt_3b067_12 (z_i2c X dJ1_charAt_3b067_13 ?_)))))
  rw [show (((z_chr w x) &&& 255).toUInt32 % 65536).toInt32 = z_chr w x from (z_chr_ok w hw _ hj).1]
  exact z_zret X rfl (z_chr_ok w hw _ hj).2 dJ1_charAt_3b067_14 ⟨rfl, rfl⟩
theorem w_schr (l : Launch) (g : z_G) (sh : List z_S) (w : Nat) (hw : w < 3) (x : Int32) (hx : vp_in x (z_slenN w)) (u : z_M) : z_C l g sh yJ0_charAt_5068e wsJ0_charAt_5068e 6 [.ref (g.2.2.2.1 w), .int x] u (fun v u' => v = some (.int (z_chr w x)) ∧ u' = u) := by
  have hj : x.toNatClampNeg < 6 := by have := z_clampLt hx; have := z_slenN_le w; omega
  refine z_C.mk (lv := [(0, .ref (g.2.2.2.1 w)), (1, .int x)]) (cc := cJ0_charAt_5068e) (nL := 2) (rt := some .char) rfl (by decide) (Nat.le_of_ble_eq_true rfl) rfl (fun p e R s m args below meth c hR X => ?_)
  refine z_aload_n X 0 dJ0_charAt_5068e_0 rfl rfl (z_callTi X (r := 1) (u1 := u) [] [] (w_isLatin1 l g sh w hw u) hw gJ0_charAt_5068e_J0_isLatin1_aae02 hy_J0_isLatin1_aae02 rfl (z_le1 hR (by decide)) (z_le2 hR (by decide) (by decide)) (Nat.le_of_ble_eq_true rfl) dJ0_charAt_5068e_1 (z_if_eq X 16 dJ0_charAt_5068e_4 (by decide) (fun h => absurd h (by decide)) (fun _ => ?_)))
  refine z_aload_n X 0 dJ0_charAt_5068e_7 rfl rfl (z_strV X hw (by decide +kernel) dJ0_charAt_5068e_8 (z_iload_n X 1 dJ0_charAt_5068e_11 rfl rfl ?_))
  refine z_callSi X (r := z_chr w x) (u1 := u) [.ref (g.2.2.2.2 w), .int x] [] (w_chr1 l g sh w hw x hx u) gJ0_charAt_5068e_J1_charAt_3b067 hy_J1_charAt_3b067 rfl (z_le1 hR (by decide)) (z_le2 hR (by decide) (by decide)) (Nat.le_of_ble_eq_true rfl) dJ0_charAt_5068e_12 ?_
  exact z_zret X rfl (z_chr_ok w hw _ hj).2 dJ0_charAt_5068e_15 ⟨rfl, rfl⟩
