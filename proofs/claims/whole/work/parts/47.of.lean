section
/-! The call that throws. -/
def z_BW : List Cond := [Cond.declares (Bundle.init0 "java/lang/RuntimeException"), Cond.declares (Bundle.init0 "java/lang/Exception"), Cond.declares (Bundle.init0 "java/lang/Throwable"), Cond.castable "java/util/NoSuchElementException" "java/util/NoSuchElementException"]
def z_T (A : Nat → Prop) (U : State) (H : Heap) : Prop := (∀ w ∈ z_BW, va_Nw w U) ∧ vx_Zq Bundle.tN "UNASSIGNED_STACK" Bundle.steD A U H ∧ vx_Zq Bundle.tN "SUPPRESSED_SENTINEL" Bundle.listD A U H
theorem z_BW_warm {s U : State} (hW : s.WarmedH U.vm) (h : ∀ w ∈ z_BW, va_Nw w s) : ∀ w ∈ z_BW, va_Nw w U := by
  intro w hw
  have h1 := h w hw
  simp only [z_BW, List.mem_cons, List.not_mem_nil, or_false] at hw
  rcases hw with rfl | rfl | rfl | rfl
  · exact va_Nw.warmD hW h1
  · exact va_Nw.warmD hW h1
  · exact va_Nw.warmD hW h1
  · exact va_Nw.warmC hW h1
theorem z_BW_same {s U : State} (hv : U.vm = s.vm) (h : ∀ w ∈ z_BW, va_Nw w s) : ∀ w ∈ z_BW, va_Nw w U := by
  intro w hw
  have h1 := h w hw
  simp only [z_BW, List.mem_cons, List.not_mem_nil, or_false] at hw
  rcases hw with rfl | rfl | rfl | rfl <;> exact va_Nw.same rfl hv.symm h1
theorem z_BW_tab : ∀ w ∈ z_BW, w.onTables = true := by
  intro w hw
  simp only [z_BW, List.mem_cons, List.not_mem_nil, or_false] at hw
  rcases hw with rfl | rfl | rfl | rfl <;> rfl
theorem z_T_same {A : Nat → Prop} {s U : State} (hv : U.vm = s.vm) (hh : U.heap = s.heap) (h : z_T A s s.heap) : z_T A U U.heap := by
  have ha : s.vm.Alike U.vm := by rw [hv]; exact Vm.Alike.refl _
  rw [hh]
  exact ⟨z_BW_same hv h.1, h.2.1.moved ha, h.2.2.moved ha⟩
theorem z_T.go {A : Nat → Prop} {s U : State} {H : Heap} {locs : List Loc} (h : z_T A s s.heap) (hS : va_S A s.heap H locs) (hW : s.WarmedH U.vm) : z_T A U H :=
  ⟨z_BW_warm hW h.1, vx_Zq.moved hW.alike (h.2.1.kept hS.2.1), vx_Zq.moved hW.alike (h.2.2.kept hS.2.1)⟩
theorem z_T.narrow {A B : Nat → Prop} {U : State} {H : Heap} (h : z_T A U H) (hAB : ∀ q, B q → A q) : z_T B U H := ⟨h.1, h.2.1.narrow hAB, h.2.2.narrow hAB⟩
abbrev z_L0 : List Cond := vx_at0 RX9 157 "java/util/NoSuchElementException" ["java/lang/RuntimeException", "java/lang/Exception"]
theorem z_L0_bad : ∀ w ∈ z_L0.filter (fun w => !goodWord w), w ∈ z_BW := by
  have h : (z_L0.filter (fun w => !goodWord w)).all (fun w => decide (w ∈ z_BW)) = true := by decide +kernel
  intro w hw
  exact of_decide_eq_true (List.all_eq_true.mp h w hw)
theorem z_L0_ot : ∀ w ∈ Cond.classLink RX9 155 "java/util/NoSuchElementException" :: Cond.initialized "java/util/NoSuchElementException" :: z_L0, vx_ot w = true := by
  have h : (Cond.classLink RX9 155 "java/util/NoSuchElementException" :: Cond.initialized "java/util/NoSuchElementException" :: z_L0).all vx_ot = true := by decide +kernel
  exact fun w hw => List.all_eq_true.mp h w hw
theorem z_L0_good : ∀ w ∈ z_L0.filter goodWord, w ∈ wsX9_of := fun w hw => List.mem_cons_of_mem _ (List.mem_append_right _ hw)
theorem z_ok1 : Cond.classLink RX9 155 "java/util/NoSuchElementException" ∈ wsX9_of := by decide +kernel
theorem z_ok2 : Cond.initialized "java/util/NoSuchElementException" ∈ wsX9_of := by decide +kernel
def z_xX (g : z_G) (u : z_M) (res : Option Int32) : String → State → State → Prop := vx_X (fun v : z_M => v = u ∧ res = none) (fun E v t => E = "java/util/NoSuchElementException" ∧ va_P g.1 vwCl (z_wd g z_shC v) t.heap) (z_A g z_shC)
def z_xQ (g : z_G) (u : z_M) (res : Option Int32) : Array Value → State → Outcome → State → Prop := va_Qi (fun r (v : z_M) => res = some r ∧ v = u) (fun v t => z_H g z_shC v t) (z_A g z_shC)
def z_O (l : Launch) (g : z_G) (a1 a2 : Int32) (u : z_M) (res : Option Int32) : Prop :=
  vx_Met l yX9_of wsX9_of (z_rk 8 1 6) (fun a U => a = ([.ref (z_ad g 80), .int a1, .int a2] : List Value).toArray ∧ z_H g z_shC u U ∧ z_T (z_A g z_shC) U U.heap) (z_xQ g u res) (z_xX g u res) 1 6 (z_A g z_shC)
theorem z_le1o {R : Room} {D d a b : Nat} (h : R = z_rk D a b) (hd : d + 1 ≤ D) : (z_rm d).frames + 1 ≤ R.frames := by subst h; exact hd
theorem z_le2o {R : Room} {D d maxL a b : Nat} (h : R = z_rk D a b) (hd : d + 1 ≤ D) (hm : maxL ≤ 21) : 8 + (maxL + 11) + (z_rm d).locals ≤ R.locals := by
  subst h
  show 8 + (maxL + 11) + 40 * d ≤ 40 * D
  omega
theorem z_O.mk {l : Launch} {g : z_G} {a1 a2 : Int32} {u : z_M} {res : Option Int32}
    (body : ∀ p e R s m args below meth c, R = z_rk 8 1 6 → z_X p R s m args meth c cX9_of 3 RX9 wsX9_of (some .int) g z_shC → z_T (z_A g z_shC) s s.heap → (∀ x ∈ c.exceptionTable.toList, False) → z_V p l e R s m args below meth c 3 g z_shC (vx_MQ below (z_xQ g u res) (z_xX g u res) args s 1 6 (z_A g z_shC)) 0 [(0, .ref (z_ad g 80)), (1, .int a1), (2, .int a2)] [] u) : z_O l g a1 a2 u res := by
  refine vx_ofW (cc := cX9_of) (maxL := 3) (ret := some .int) (by decide) rfl ?_
  intro p e s m args below meth c s₁ B hml ht hv
  obtain ⟨rfl, ⟨hK, hE, hP, hD⟩, hT⟩ := hv
  have hown : s.vm.findClass yX9_of.cls = some m.cls := findClass_of_methodNamed B.named
  have hts := atoms_spec (ws := wsX9_of) B.pre
  have h := body p e (z_rk 8 1 6) s m ([.ref (z_ad g 80), .int a1, .int a2] : List Value).toArray below meth c rfl ⟨⟨B.exec, B.bytes, hml, hown, hts⟩, hK, hE, B.returns, B.notSynchronized⟩ hT ht
  have hl2 := lv_entry ([.ref (z_ad g 80), .int a1, .int a2] : List Value) (n := 3) (Nat.le_of_ble_eq_true rfl)
  rw [lg_entry_eq]
  exact h s.heap [] _ hl2 hP hD va_S.rf
section ZO
variable {p : Program} {l : Launch} {e : Env} {R : Room} {s : State} {m : MethodId} {args : Array Value} {below : List Frame} {meth : Method} {c : Code} {g : z_G} {u : z_M} {pc : Nat} {lv : List (Nat × Value)}
theorem z_oiret (X : z_X p R s m args meth c cX9_of 3 RX9 wsX9_of (some .int) g z_shC) {v : Int32} {res : Option Int32} (hd : decode cX9_of pc = .ok (.ireturn, 1)) (k : res = some v) : z_V p l e R s m args below meth c 3 g z_shC (vx_MQ below (z_xQ g u res) (z_xX g u res) args s 1 6 (z_A g z_shC)) pc lv [.int v] u :=
  fun H locs ls h1 h2 h3 h4 => vx_ret (W.widen (Nat.zero_le 1) (Nat.zero_le 6) (W.iret X.1.1 X.1.2.1 X.2.2.2.1 (fun t ht hW => ⟨⟨v, u, rfl, ⟨k, rfl⟩, va_K.moved hW.alike X.2.1, by rw [ht]; exact X.2.2.1.go h4 hW, by rw [ht]; exact h2, h3⟩, h4.F ht⟩) h4.2.2 hd X.2.2.2.2))
theorem z_othr (hR : R = z_rk 8 1 6) (X : z_X p R s m args meth c cX9_of 3 RX9 wsX9_of (some .int) g z_shC) (hT : z_T (z_A g z_shC) s s.heap) (hst : l.stackTraces = false) (ht : ∀ x ∈ c.exceptionTable.toList, False) : z_V p l e R s m args below meth c 3 g z_shC (vx_MQ below (z_xQ g u none) (z_xX g u none) args s 1 6 (z_A g z_shC)) 20 lv [] u := by
  intro H locs ls h1 h2 h3 h4
  have hw := X.1.2.2.2.2
  refine vx_throw0 (own := RX9) (cls := "java/util/NoSuchElementException") (names := ["java/lang/RuntimeException", "java/lang/Exception"]) (ik := 155) (ic := 157) (mc := 1) (ms := 6) (A := z_A g z_shC) X.1.1 X.1.2.1 hst X.1.2.2.2.1 (by decide) (by decide) (hw _ z_ok1) (hw _ z_ok2) (vx_hat (B := z_BW) (fun w h => hw w (z_L0_good w h)) z_L0_bad (fun w h => va_Nw.use (z_BW_tab w h) (hT.1 w h))) z_L0_ot hT.2.1 hT.2.2 h4 (h1.1.trans X.1.2.2.1.symm) dX9_of_20 dX9_of_23 dX9_of_24 dX9_of_27 (fun x hx => (ht x hx).elim) ?_ ?_ ?_ ?_ X.2.2.2.2 ?_ h4.2.2 (by decide) (by decide)
  · rw [hR]; decide
  · rw [hR]; decide
  · rw [hR]; decide
  · rw [hR]; decide
  · intro t _ hz hk
    have hP : va_P g.1 vwCl (z_wd g z_shC u) t.heap := h2.kept (fun k0 x hx => hk x.1 ((h2 k0 x hx).lt))
    exact ⟨u, ⟨rfl, rfl⟩, ⟨rfl, hP⟩, Nat.le_trans h4.1 hz, fun q r1 r2 => by rw [hk q (Nat.lt_of_lt_of_le r1 h4.1)]; exact h4.2.1 q r1 r2⟩
end ZO
theorem lk_X9_of_21 : (Cond.fieldLink RX9 21 RX9 (TX9 1).2.1 (TX9 1).2.2.1) ∈ wsX9_of := by decide +kernel
theorem in_X9_of_X9 : ∀ w ∈ u_ws RX9 TX9 9, w ∈ wsX9_of := fun _ h => List.mem_cons_of_mem _ (List.mem_append_left _ (List.mem_append_left _ (List.mem_append_right _ h)))
theorem lk_X9_of_158 : (Cond.fieldLink RX9 158 RX6 (TX6 3).2.1 (TX6 3).2.2.1) ∈ wsX9_of := by decide +kernel
theorem in_X9_of_X6 : ∀ w ∈ u_ws RX6 TX6 6, w ∈ wsX9_of := fun _ h => List.mem_cons_of_mem _ (List.mem_append_left _ (List.mem_append_right _ h))
theorem lk_X9_of_162 : (Cond.fieldLink RX9 162 RX6 (TX6 4).2.1 (TX6 4).2.2.1) ∈ wsX9_of := by decide +kernel
theorem lk_X9_of_136 : (Cond.fieldLink RX9 136 RX6 (TX6 1).2.1 (TX6 1).2.2.1) ∈ wsX9_of := by decide +kernel
def f_X9_of (a1 : Int32) (a2 : Int32) (u : z_M) : Option (Option Int32) :=
  Option.bind (f_X6_has 0 a1 u) (fun r1 => if r1 = 0 then (some none) else (if a2 < 0 then (some none) else (if a2 ≤ 3 then (if a2 = 0 then (z_gd (z_inb a1 9) (some (some (z_gI u (0 + 1) a1.toNatClampNeg)))) else (if a2 = 1 then (z_gd (z_inb a1 9) (some (some (z_gI u (0 + 2) a1.toNatClampNeg)))) else (if a2 = 2 then (Option.bind (f_X6_coverers 0 a1 (z_gI u 0 1) u) (fun r7 => some (some r7))) else (Option.bind (f_X6_covered 0 a1 (z_gI u 0 1) u) (fun r8 => some (some r8)))))) else (some none))))

set_option maxRecDepth 20000 in
set_option maxHeartbeats 4000000 in
theorem w_X9_of (l : Launch) (hst : l.stackTraces = false) (g : z_G) (a1 : Int32) (a2 : Int32) (u : z_M) {res : Option Int32} (h : f_X9_of a1 a2 u = some res) : z_O l g a1 a2 u res := by
  refine z_O.mk (fun p e R s m args below meth c hR X hT ht => ?_)
  unfold f_X9_of at h
  obtain ⟨r1, er1, h⟩ := z_bs h
  refine z_aload_n X 0 dX9_of_0 rfl rfl (z_getR X (k0 := 1) z_c80 rfl in_X9_of_X9 (by decide) rfl rfl lk_X9_of_21 dX9_of_1 (z_iload_n X 1 dX9_of_4 rfl rfl (z_callVi X (r := r1) (u1 := u) [.int a1] [] (w_X6_has l g 0 a1 z_po_0 u er1) (z_po z_po_0) rfl gX9_of_X6_has hy_X6_has rfl (z_le1o hR (by decide)) (z_le2o hR (by decide) (by decide)) (Nat.le_of_ble_eq_true rfl) dX9_of_5 (z_if_eq X 20 dX9_of_8 (by decide) (fun c2 => ?_) (fun c2 => ?_)))))
  · replace h := z_ip c2 h
    cases h; exact z_othr hR X hT hst ht
  · replace h := z_in c2 h
    refine z_iload_n X 2 dX9_of_11 rfl rfl (z_if_lt X 20 dX9_of_12 (by decide) (fun c3 => ?_) (fun c3 => ?_))
    · replace h := z_ip c3 h
      cases h; exact z_othr hR X hT hst ht
    · replace h := z_in c3 h
      refine z_iload_n X 2 dX9_of_15 rfl rfl (z_iconst X (v := 3) dX9_of_16 (by decide) (z_icmp_le X 28 dX9_of_17 (by decide) (fun c4 => ?_) (fun c4 => ?_)))
      · replace h := z_ip c4 h
        refine z_iload_n X 2 dX9_of_28 rfl rfl ?_
        by_cases c9 : a2 = 0
        · replace h := z_ip c9 h
          refine z_tabIn X 56 dX9_of_29 (by rw [c9]; decide) (by rw [c9]; decide) (by rw [c9]; rfl) (by decide) ?_
          obtain ⟨b5, h⟩ := z_gs h
          refine z_aload_n X 0 dX9_of_56 rfl rfl (z_getR X (k0 := 1) z_c80 rfl in_X9_of_X9 (by decide) rfl rfl lk_X9_of_21 dX9_of_57 (z_getR X (k0 := 3) (z_po z_po_0) rfl in_X9_of_X6 (by decide) rfl rfl lk_X9_of_158 dX9_of_60 (z_iload_n X 1 dX9_of_63 rfl rfl (z_iald X (z_poA z_po_0) (z_inS b5) dX9_of_64 ?_))))
          cases h; exact z_oiret X dX9_of_65 rfl
        replace h := z_in c9 h
        by_cases c10 : a2 = 1
        · replace h := z_ip c10 h
          refine z_tabIn X 66 dX9_of_29 (by rw [c10]; decide) (by rw [c10]; decide) (by rw [c10]; rfl) (by decide) ?_
          obtain ⟨b6, h⟩ := z_gs h
          refine z_aload_n X 0 dX9_of_66 rfl rfl (z_getR X (k0 := 1) z_c80 rfl in_X9_of_X9 (by decide) rfl rfl lk_X9_of_21 dX9_of_67 (z_getR X (k0 := 4) (z_po z_po_0) rfl in_X9_of_X6 (by decide) rfl rfl lk_X9_of_162 dX9_of_70 (z_iload_n X 1 dX9_of_73 rfl rfl (z_iald X (z_poU z_po_0) (z_inS b6) dX9_of_74 ?_))))
          cases h; exact z_oiret X dX9_of_75 rfl
        replace h := z_in c10 h
        by_cases c11 : a2 = 2
        · replace h := z_ip c11 h
          refine z_tabIn X 76 dX9_of_29 (by rw [c11]; decide) (by rw [c11]; decide) (by rw [c11]; rfl) (by decide) ?_
          obtain ⟨r7, er7, h⟩ := z_bs h
          refine z_aload_n X 0 dX9_of_76 rfl rfl (z_getR X (k0 := 1) z_c80 rfl in_X9_of_X9 (by decide) rfl rfl lk_X9_of_21 dX9_of_77 (z_iload_n X 1 dX9_of_80 rfl rfl (z_aload_n X 0 dX9_of_81 rfl rfl (z_getR X (k0 := 1) z_c80 rfl in_X9_of_X9 (by decide) rfl rfl lk_X9_of_21 dX9_of_82 (z_getI X (k0 := 1) (z_po z_po_0) rfl in_X9_of_X6 (by decide) rfl rfl lk_X9_of_136 dX9_of_85 (z_callVi X (r := r7) (u1 := u) [.int a1, .int (z_gI u 0 1)] [] (w_X6_coverers l g 0 a1 (z_gI u 0 1) z_po_0 u er7) (z_po z_po_0) rfl gX9_of_X6_coverers hy_X6_coverers rfl (z_le1o hR (by decide)) (z_le2o hR (by decide) (by decide)) (Nat.le_of_ble_eq_true rfl) dX9_of_88 ?_))))))
          cases h; exact z_oiret X dX9_of_91 rfl
        replace h := z_in c11 h
        refine z_tabOut X 92 dX9_of_29 (by have kc9 := lv_neT (a := 0) c9 (by decide); have kc10 := lv_neT (a := 1) c10 (by decide); have kc11 := lv_neT (a := 2) c11 (by decide); omega) (by decide) ?_
        obtain ⟨r8, er8, h⟩ := z_bs h
        refine z_aload_n X 0 dX9_of_92 rfl rfl (z_getR X (k0 := 1) z_c80 rfl in_X9_of_X9 (by decide) rfl rfl lk_X9_of_21 dX9_of_93 (z_iload_n X 1 dX9_of_96 rfl rfl (z_aload_n X 0 dX9_of_97 rfl rfl (z_getR X (k0 := 1) z_c80 rfl in_X9_of_X9 (by decide) rfl rfl lk_X9_of_21 dX9_of_98 (z_getI X (k0 := 1) (z_po z_po_0) rfl in_X9_of_X6 (by decide) rfl rfl lk_X9_of_136 dX9_of_101 (z_callVi X (r := r8) (u1 := u) [.int a1, .int (z_gI u 0 1)] [] (w_X6_covered l g 0 a1 (z_gI u 0 1) z_po_0 u er8) (z_po z_po_0) rfl gX9_of_X6_covered hy_X6_covered rfl (z_le1o hR (by decide)) (z_le2o hR (by decide) (by decide)) (Nat.le_of_ble_eq_true rfl) dX9_of_104 ?_))))))
        cases h; exact z_oiret X dX9_of_107 rfl
      · replace h := z_in c4 h
        cases h; exact z_othr hR X hT hst ht
end
