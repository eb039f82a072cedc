section
/-! The law's own call that catches. -/
def z_A9 (g : z_G) (qo : Nat) : Nat → Prop := fun q => z_A g z_shC q ∨ q = qo
def z_ofk (res : Option Int32) : Int32 := match res with
  | none => 1
  | some _ => 0
def z_ofo (res : Option Int32) (o : Nat → Int64) : Nat → Int64 := match res with
  | none => o
  | some r => vp_updL o 0 r.toInt64
theorem ggL_of_X9_of : GoodIn wsL_of wsX9_of := goodIn_sub (by
  have h : wsX9_of.all (fun w => decide (w ∈ wsL_of)) = true := by decide +kernel
  exact fun w hw => of_decide_eq_true (List.all_eq_true.mp h w hw)) (by decide +kernel)
theorem gL_of_X9_of : GoodIn wsL_of (wsV RL 7 RX9 yX9_of wsX9_of) := goodIn_app (goodIn_of _ (by decide +kernel)) ggL_of_X9_of
theorem hl_X9_of : yX9_of.cls = RX9 ∧ yX9_of.cls ≠ "java/lang/invoke/MethodHandle" ∧ yX9_of.cls ≠ "java/lang/invoke/VarHandle" ∧ (parseMethodDescriptor yX9_of.desc).map (fun d => d.parameters.length) = some 2 := by decide +kernel
theorem z_lok1 : Cond.classLink RL 13 "java/util/NoSuchElementException" ∈ wsL_of := by decide +kernel
theorem z_lok2 : Cond.codeWith yL_of cL_of 5 (some .int) [(0, 10, 13, 13)] ∈ wsL_of := List.mem_cons_self
def z_xP (g : z_G) (qo : Nat) (a1 a2 : Int32) (u : z_M) (o : Nat → Int64) : Array Value → State → Prop := fun a U => a = ([.ref (z_ad g 80), .int a1, .int a2, .ref qo] : List Value).toArray ∧ z_H g z_shC u U ∧ z_T (z_A g z_shC) U U.heap ∧ va_P g.1 vwCl [(qo, .inl (z_ct g 4, 1, .inr (.inl o)))] U.heap
def z_xZ (g : z_G) (qo : Nat) (u : z_M) (o : Nat → Int64) (res : Option Int32) : Array Value → State → Outcome → State → Prop := va_Qi (fun r (v : Nat → Int64) => r = z_ofk res ∧ v = z_ofo res o) (fun v t => va_P g.1 vwCl (z_wd g z_shC u) t.heap ∧ va_P g.1 vwCl [(qo, .inl (z_ct g 4, 1, .inr (.inl v)))] t.heap) (z_A9 g qo)
theorem z_Oblind {g : z_G} {v : z_M} {av : List Value} : FrameBlind (fun a U => a = av.toArray ∧ z_H g z_shC v U ∧ z_T (z_A g z_shC) U U.heap) :=
  fun a U g1 mk q => ⟨q.1, ⟨va_K.moved (u := U) (U := U.calling g1 mk a) (Vm.Alike.refl U.vm) q.2.1.1, z_E_same (s := U) rfl rfl q.2.1.2.1, q.2.1.2.2⟩, z_T_same (s := U) rfl rfl q.2.2⟩
theorem z_Pcons {D : va_G} {cl : List vw_C} {x : Nat × va_E} {ws : va_W} {H : Heap} (h1 : va_P D cl [x] H) (h2 : va_P D cl ws H) : va_P D cl (x :: ws) H := by
  intro k q hk
  cases k with
  | zero => exact h1 0 q hk
  | succ k => exact h2 k q hk
theorem z_Pun {D : va_G} {cl : List vw_C} {x : Nat × va_E} {ws : va_W} {H : Heap} (h : va_P D cl (x :: ws) H) : va_P D cl [x] H ∧ va_P D cl ws H := by
  refine ⟨fun k q hk => ?_, fun k q hk => h (k + 1) q hk⟩
  cases k with
  | zero => exact h 0 q hk
  | succ k => cases hk
theorem z_Dcons {g : z_G} {qo : Nat} {y : va_E} {v : z_M} (hD : va_D (z_A g z_shC) (z_wd g z_shC v)) (hA : ¬ z_A g z_shC qo) : va_D (z_A9 g qo) ((qo, y) :: z_wd g z_shC v) := by
  refine ⟨fun i j p q hi hj e => ?_, fun k q hk => ?_⟩
  · cases i with
    | zero =>
      cases hi
      cases j with
      | zero => rfl
      | succ j => exact absurd (by rw [show qo = q.1 from e]; exact hD.2 j q hj) hA
    | succ i =>
      cases j with
      | zero =>
        cases hj
        exact absurd (by rw [show qo = p.1 from e.symm]; exact hD.2 i p hi) hA
      | succ j => rw [hD.1 i j p q hi hj e]
  · cases k with
    | zero => cases hk; exact Or.inr rfl
    | succ k => exact Or.inl (hD.2 k q hk)
set_option maxRecDepth 20000 in
set_option maxHeartbeats 4000000 in
theorem w_L_of (l : Launch) (hst : l.stackTraces = false) (g : z_G) (qo : Nat) (a1 a2 : Int32) (u : z_M) (o : Nat → Int64) {res : Option Int32} (h : f_X9_of a1 a2 u = some res) (hA : ¬ z_A g z_shC qo) :
    Met l yL_of wsL_of (z_rk 12 1 6) (z_xP g qo a1 a2 u o) (z_xZ g qo u o res) 1 6 (z_A9 g qo) := by
  refine va_MetW (cc := cL_of) (maxL := 5) (ret := some .int) (hh := [(0, 10, 13, 13)]) (by decide) rfl ?_
  intro p e s m args below meth c s₁ B hml hv
  obtain ⟨rfl, ⟨hK, hE, hP, hD⟩, hT, hO⟩ := hv
  have hown : s.vm.findClass RL = some m.cls := findClass_of_methodNamed B.named
  have hts := atoms_spec (ws := wsL_of) B.pre
  have htab := vx_table (x := yL_of) B (hts _ z_lok2)
  have hl2 := lv_entry ([.ref (z_ad g 80), .int a1, .int a2, .ref qo] : List Value) (n := 5) (Nat.le_of_ble_eq_true rfl)
  rw [lg_entry_eq]
  have hx := B.exec
  have hb := B.bytes
  refine lv_aload_n hx hb dL_of_0 rfl (lv_at hl2 3 rfl) (lv_iconst (v := 0) hx hb dL_of_1 (by decide) (lv_aload_n hx hb dL_of_2 rfl (lv_at hl2 0 rfl) (lv_iload_n hx hb dL_of_3 rfl (lv_at hl2 1 rfl) (lv_iload_n hx hb dL_of_4 rfl (lv_at hl2 2 rfl) ?_))))
  have S : CallFix p m c cL_of 5 s ([.ref (z_ad g 80), .int a1, .int a2, .ref qo] : List Value).toArray wsL_of RL := ⟨hx, hb, hml, hown, hts⟩
  have hr := vx_runV (R := z_rk 12 1 6) (H := s.heap) (locs := []) (cells := 0) (slots := 0) (e := e) (below := below) (meth := meth) (As := [.int a1, .int a2]) (rest := [.int 0, .ref qo]) (g := F0 m 5 _ [.int a2, .int a1, .ref (z_ad g 80), .int 0, .ref qo]) S (w_X9_of l hst g a1 a2 u h) (cwV 2 hts gL_of_X9_of rfl rfl rfl hl_X9_of ⟨by decide, by decide⟩) ⟨z_Oblind, va_recv hK hP (show vwCl[9]? = _ from rfl) (z_wd_get z_c80), fun U hU hW => ⟨rfl, ⟨va_K.moved hW.alike hK, by rw [hU]; exact hE.go va_S.rf hW, by rw [hU]; exact hP, hD⟩, by rw [hU]; exact hT.go va_S.rf hW⟩⟩ rfl rfl hl2.1 rfl (lv_room (Nat.le_of_ble_eq_true rfl)) dL_of_5 ⟨by decide, by decide⟩
  refine vx_calli (A0 := z_A9 g qo) (H0 := s.heap) hr va_S.rf (fun q _ z => Or.inl z) (fun q z => Or.inl z) (fun q _ z => Or.inl z) ?_ ?_
  · intro E ce q9 v t H1 locs1 ht _ hp hB hz hk hS hce hcv hcl
    obtain ⟨rfl, hres⟩ := hp
    obtain ⟨rfl, hP1⟩ := hB
    subst hres
    refine vx_catch hown [] _ [] htab (fun z hz => by cases hz) (by decide) (by decide) (hts _ z_lok1) (va_Nw.use (z_BW_tab _ (by simp [z_BW])) (hT.1 _ (by simp [z_BW]))) hce hcv hcl ?_
    have hO1 : va_P g.1 vwCl [(qo, .inl (z_ct g 4, 1, .inr (.inl o)))] H1 := hO.kept (fun k0 x hx => hk x.1 ((hO k0 x hx).lt) (by
      have hz : k0 < 1 := (List.getElem?_eq_some_iff.mp hx).1
      rw [show k0 = 0 by omega] at hx
      cases hx
      exact hA))
    rw [ht] at hP1
    refine lv_astore hx hb dL_of_13 hl2 (by decide) rfl (fun ls' h1 => lv_iconst (v := 1) hx hb dL_of_15 (by decide) (W.iret hx hb B.returns (fun t9 ht9 hW => ⟨⟨1, o, rfl, ⟨rfl, rfl⟩, by dsimp only; rw [ht9]; exact ⟨hP1, hO1⟩⟩, hS.F ht9⟩) hS.2.2 dL_of_16 B.notSynchronized))
  · intro r v t H1 locs1 ht _ hp hB hz hk hS
    obtain ⟨hres, rfl⟩ := hp
    subst hres
    have hO1 : va_P g.1 vwCl [(qo, .inl (z_ct g 4, 1, .inr (.inl o)))] H1 := hO.kept (fun k0 x hx => hk x.1 ((hO k0 x hx).lt) (by
      have hz : k0 < 1 := (List.getElem?_eq_some_iff.mp hx).1
      rw [show k0 = 0 by omega] at hx
      cases hx
      exact hA))
    have hP1 := hB.2.2.1
    rw [ht] at hP1
    have hPO : va_P g.1 vwCl ((qo, .inl (z_ct g 4, 1, .inr (.inl o))) :: z_wd g z_shC v) H1 := z_Pcons hO1 hP1
    have hDO : va_D (z_A9 g qo) ((qo, .inl (z_ct g 4, 1, .inr (.inl o))) :: z_wd g z_shC v) := z_Dcons hD hA
    refine lv_i2l hx hb dL_of_8 rfl (va_last hx hb hK hPO hDO hS 0 4 rfl rfl (vp_in_nI (n := 0) (by decide) (by decide)) dL_of_9 (fun H2 locs2 hO2 hD2 hS2 => lv_goto hx hb dL_of_10 (by decide) (lv_iconst (v := 0) hx hb dL_of_17 (by decide) (W.iret hx hb B.returns (fun t9 ht9 hW => ⟨⟨0, _, rfl, ⟨rfl, rfl⟩, by dsimp only; rw [ht9]; exact ⟨(z_Pun hO2).2, (z_Pun hO2).1⟩⟩, hS2.F ht9⟩) hS2.2.2 dL_of_18 B.notSynchronized))))
end
