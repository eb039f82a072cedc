/-! The layer over the kit: a memory of numbers, a world of cells at fixed places, one judgement for a method's walk. -/
abbrev z_M : Type := (Nat → Nat → Int32) × (Nat → Nat → Int64)
abbrev z_S : Type := (Nat × Nat × Option (Nat × Nat)) ⊕ (Nat × List (Option Nat))
abbrev z_G : Type := va_G × (Nat → Nat) × (Nat → ClassId) × (Nat → Nat) × (Nat → Nat)
def z_gI (u : z_M) (i k : Nat) : Int32 := u.1 i k
def z_gL (u : z_M) (i k : Nat) : Int64 := u.2 i k
def z_sA (u : z_M) (i : Nat) (f : Nat → Int32) : z_M := (va_up u.1 i f, u.2)
def z_sI (u : z_M) (i k : Nat) (v : Int32) : z_M := z_sA u i (upd (u.1 i) k v)
def z_sL (u : z_M) (i k : Nat) (v : Int64) : z_M := (u.1, va_up u.2 i (vp_updL (u.2 i) k v))
abbrev z_ad (g : z_G) : Nat → Nat := g.2.1
abbrev z_ct (g : z_G) : Nat → ClassId := g.2.2.1
def z_tys (g : z_G) : List (ClassId × FieldType) := [(z_ct g 0, .int), (z_ct g 1, .char), (z_ct g 2, .byte), (z_ct g 3, .boolean), (z_ct g 4, .long), (z_ct g 5, .object RX6), (z_ct g 6, .object RX1)]
def z_fv (g : z_G) (u : z_M) (i : Nat) (q : Option Nat × Nat) : Value := match q.1 with
  | none => .int (u.1 i q.2)
  | some j => .ref (z_ad g j)
def z_ce (g : z_G) (x : z_S) (u : z_M) (i : Nat) : va_E := match x with
  | .inl (t, n, none) => .inl (z_ct g t, n, if t = 4 then .inr (.inl (u.2 i)) else if t = 6 then .inr (.inr (.inr (.inr (fun k => some (z_ad g (u.1 i k).toNatClampNeg))))) else .inl (u.1 i))
  | .inl (t, n, some q) => .inl (z_ct g t, n, .inr (.inr (.inr (.inr (fun k => some (z_ad g (q.1 + q.2 * k)))))))
  | .inr (c, sl) => .inr (c, sl.zipIdx.map (z_fv g u i))
def z_wd (g : z_G) (sh : List z_S) (u : z_M) : va_W := sh.zipIdx.map (fun q => (z_ad g q.2, z_ce g q.1 u q.2))
/-- the cells of the world -/
def z_A (g : z_G) (sh : List z_S) : Nat → Prop := fun q => ∃ i, i < sh.length ∧ q = z_ad g i
theorem z_wd_get {g : z_G} {sh : List z_S} {u : z_M} {i : Nat} {x : z_S} (h : sh[i]? = some x) : (z_wd g sh u)[i]? = some (z_ad g i, z_ce g x u i) := by
  simp [z_wd, List.getElem?_map, List.getElem?_zipIdx, h]
theorem z_wd_len {g : z_G} {sh : List z_S} {u : z_M} : (z_wd g sh u).length = sh.length := by simp [z_wd]
theorem z_fv_ne {g : z_G} {u v : z_M} {i : Nat} (h : v.1 i = u.1 i) (q : Option Nat × Nat) : z_fv g v i q = z_fv g u i q := by
  unfold z_fv
  rw [h]
theorem z_ce_ne {g : z_G} {x : z_S} {u v : z_M} {i : Nat} (h1 : v.1 i = u.1 i) (h2 : v.2 i = u.2 i) : z_ce g x v i = z_ce g x u i := by
  unfold z_ce
  rw [h1, h2]
  split
  · rfl
  · rfl
  · rename_i c sl
    rw [List.map_congr_left (fun q _ => z_fv_ne h1 q)]
theorem z_wd_set {g : z_G} {sh : List z_S} {u v : z_M} {i : Nat} {x : z_S} (h : sh[i]? = some x) (h1 : ∀ j, j ≠ i → v.1 j = u.1 j) (h2 : ∀ j, j ≠ i → v.2 j = u.2 j) :
    (z_wd g sh u).set i (z_ad g i, z_ce g x v i) = z_wd g sh v := by
  have hl : i < sh.length := (List.getElem?_eq_some_iff.mp h).1
  apply List.ext_getElem?
  intro j
  by_cases hj : i = j
  · subst hj
    rw [List.getElem?_set_self (by rw [z_wd_len]; exact hl), z_wd_get h]
  · rw [List.getElem?_set_ne hj]
    cases hs : sh[j]? with
    | none =>
      have hn : sh.length ≤ j := by simpa using hs
      rw [List.getElem?_eq_none (by rw [z_wd_len]; exact hn), List.getElem?_eq_none (by rw [z_wd_len]; exact hn)]
    | some y => rw [z_wd_get hs, z_wd_get hs, z_ce_ne (h1 j (Ne.symm hj)) (h2 j (Ne.symm hj))]
theorem z_sA_ne {u : z_M} {i j : Nat} {f : Nat → Int32} (h : j ≠ i) : (z_sA u i f).1 j = u.1 j := by simp [z_sA, va_up, h]
theorem z_sA_eq {u : z_M} {i : Nat} {f : Nat → Int32} : (z_sA u i f).1 i = f := by simp [z_sA, va_up]
theorem z_sL_ne {u : z_M} {i j : Nat} {k : Nat} {v : Int64} (h : j ≠ i) : (z_sL u i k v).2 j = u.2 j := by simp [z_sL, va_up, h]
theorem z_sL_eq {u : z_M} {i k : Nat} {v : Int64} : (z_sL u i k v).2 i = vp_updL (u.2 i) k v := by simp [z_sL, va_up]
theorem z_fs_set {g : z_G} {sl : List (Option Nat)} {u : z_M} {i k : Nat} {v : Int32} (h : sl[k]? = some none) :
    (sl.zipIdx.map (z_fv g u i)).set k (.int v) = sl.zipIdx.map (z_fv g (z_sI u i k v) i) := by
  have hl : k < sl.length := (List.getElem?_eq_some_iff.mp h).1
  apply List.ext_getElem?
  intro j
  by_cases hj : k = j
  · subst hj
    rw [List.getElem?_set_self (by simp; exact hl)]
    simp [List.getElem?_map, List.getElem?_zipIdx, h, z_fv, z_sI, z_sA_eq, upd]
  · rw [List.getElem?_set_ne hj]
    simp only [List.getElem?_map, List.getElem?_zipIdx, Nat.zero_add]
    cases hs : sl[j]? with
    | none => rfl
    | some y =>
      cases y with
      | none => simp [z_fv, z_sI, z_sA_eq, upd, Ne.symm hj]
      | some q => simp [z_fv]
/-- what stands outside the world and stays -/
def z_N : List Cond := [.methodLinkNest RX0 37 yX9_isIn "LabelOrder", .methodLinkNest RX2 44 yX9_isIn "LabelOrder", .methodLinkNest RX3 61 yX9_isIn "LabelOrder", .methodLinkNest RX4 49 yX9_isIn "LabelOrder", .methodLinkNest RX6 43 yX9_isIn "LabelOrder", .methodLinkNest RX8 33 yX9_isIn "LabelOrder"]
def z_len : List Nat := [6, 4, 5]
def z_byt : List (List Int32) := [[112, 111, 105, 110, 116, 115], [114, 117, 108, 101], [108, 97, 98, 101, 108]]
def z_E (g : z_G) (A : Nat → Prop) (U : State) (H : Heap) : Prop := (∀ w ∈ z_N, va_Nw w U) ∧ vk_S 3 z_len z_byt g.2.2.2.1 g.2.2.2.2 A U H ∧ va_Z "java/lang/String" "COMPACT_STRINGS" "Z" (.int 1) A U H ∧ va_Zq "jdk/internal/util/Preconditions" "SIOOBE_FORMATTER" "Ljava/util/function/BiFunction;" A U H ∧
  vk_R RX7 113 "points" (g.2.2.2.1 0) U ∧ vk_R RX7 119 "rule" (g.2.2.2.1 1) U ∧ vk_R RX7 121 "label" (g.2.2.2.1 2) U ∧ vk_R RX10 171 "points" (g.2.2.2.1 0) U ∧ vk_R RX10 173 "rule" (g.2.2.2.1 1) U ∧ vk_R RX10 175 "label" (g.2.2.2.1 2) U
theorem z_N_warm {s U : State} (hW : s.WarmedH U.vm) (h : ∀ w ∈ z_N, va_Nw w s) : ∀ w ∈ z_N, va_Nw w U := by
  intro w hw
  have h1 := h w hw
  simp only [z_N, List.mem_cons, List.not_mem_nil, or_false] at hw
  rcases hw with rfl | rfl | rfl | rfl | rfl | rfl <;> exact va_Nw.warmM hW h1
theorem z_N_same {s U : State} (hv : U.vm = s.vm) (h : ∀ w ∈ z_N, va_Nw w s) : ∀ w ∈ z_N, va_Nw w U := by
  intro w hw
  have h1 := h w hw
  simp only [z_N, List.mem_cons, List.not_mem_nil, or_false] at hw
  rcases hw with rfl | rfl | rfl | rfl | rfl | rfl <;> exact va_Nw.same rfl hv.symm h1
theorem z_E_same {g : z_G} {A : Nat → Prop} {s U : State} (hv : U.vm = s.vm) (hh : U.heap = s.heap) (h : z_E g A s s.heap) : z_E g A U U.heap := by
  obtain ⟨h1, h2, h3, h0, h4, h5, h6, h7, h8, h9⟩ := h
  have ha : s.vm.Alike U.vm := by rw [hv]; exact Vm.Alike.refl _
  rw [hh]
  exact ⟨z_N_same hv h1, h2.moved ha, h3.moved ha, h0.moved ha, h4.same hv, h5.same hv, h6.same hv, h7.same hv, h8.same hv, h9.same hv⟩
theorem z_E.go {g : z_G} {A : Nat → Prop} {s U : State} {H : Heap} {locs : List Loc} (h : z_E g A s s.heap) (hS : va_S A s.heap H locs) (hW : s.WarmedH U.vm) : z_E g A U H := by
  obtain ⟨h1, h2, h3, h0, h4, h5, h6, h7, h8, h9⟩ := h
  exact ⟨z_N_warm hW h1, (h2.kept hS.2.1).moved hW.alike, (h3.kept hS.2.1).moved hW.alike, (h0.kept hS.2.1).moved hW.alike, h4.warm hW, h5.warm hW, h6.warm hW, h7.warm hW, h8.warm hW, h9.warm hW⟩
/-- what a state holds: the tables' part, what is outside, the world with the memory u -/
def z_H (g : z_G) (sh : List z_S) (u : z_M) (U : State) : Prop := va_K g.1 vwCl (z_tys g) U ∧ z_E g (z_A g sh) U U.heap ∧ va_P g.1 vwCl (z_wd g sh u) U.heap ∧ va_D (z_A g sh) (z_wd g sh u)
def z_rm (d : Nat) : Room := { frames := d, cells := 0, slots := 0, locals := 40 * d }
def z_Qc (g : z_G) (sh : List z_S) (Rs : Option Value → z_M → Prop) : Array Value → State → Outcome → State → Prop := fun _ st oc t => (∃ (v : Option Value) (u : z_M), oc = .returned v ∧ Rs v u ∧ z_H g sh u t) ∧ va_F (z_A g sh) st t
/-- a method's contract: from memory u, with these arguments, it returns v and the memory that Rs tells -/
def z_C (l : Launch) (g : z_G) (sh : List z_S) (y : MethodName) (ws : List Cond) (d : Nat) (av : List Value) (u : z_M) (Rs : Option Value → z_M → Prop) : Prop :=
  Met l y ws (z_rm d) (fun a U => a = av.toArray ∧ z_H g sh u U) (z_Qc g sh Rs) 0 0 (z_A g sh)
section ZV
variable {p : Program} {l : Launch} {e : Env} {R : Room} {s : State} {m : MethodId} {args : Array Value} {below : List Frame} {meth : Method} {c : Code} {cc : ByteArray} {nL : Nat} {own : String} {Ts : List Cond} {rt : Option FieldType} {Q : State → Prop} {g : z_G} {sh : List z_S}
/-- the judgement: the machine, at pc with these variables, this stack and this memory, comes to Q -/
def z_V (p : Program) (l : Launch) (e : Env) (R : Room) (s : State) (m : MethodId) (args : Array Value) (below : List Frame) (meth : Method) (c : Code) (nL : Nat) (g : z_G) (sh : List z_S) (Q : State → Prop) (pc : Nat) (lv : List (Nat × Value)) (st : List Value) (u : z_M) : Prop :=
  ∀ (H : Heap) (locs : List Loc) (ls : Array Slot), lv_has ls nL lv → va_P g.1 vwCl (z_wd g sh u) H → va_D (z_A g sh) (z_wd g sh u) → va_S (z_A g sh) s.heap H locs → W p l e R s m args below meth c H locs 0 0 Q (F0 m pc ls st)
/-- what is known all along a method's walk -/
def z_X (p : Program) (R : Room) (s : State) (m : MethodId) (args : Array Value) (meth : Method) (c : Code) (cc : ByteArray) (nL : Nat) (own : String) (Ts : List Cond) (rt : Option FieldType) (g : z_G) (sh : List z_S) : Prop :=
  CallFix p m c cc nL s args Ts own ∧ va_K g.1 vwCl (z_tys g) s ∧ z_E g (z_A g sh) s s.heap ∧ meth.sig.returnType = rt ∧ meth.locks = false
theorem z_C.mk {y : MethodName} {ws ws' : List Cond} {d : Nat} {av : List Value} {u : z_M} {Rs : Option Value → z_M → Prop} {lv : List (Nat × Value)} (hw : ws = Cond.code y cc nL rt :: ws') (hy : plainName y.cls = true) (hl : (lg_sl av).length ≤ nL) (hlv : lv_args 0 av = lv)
    (body : ∀ p e R s m args below meth c, R = z_rm d → z_X p R s m args meth c cc nL y.cls ws rt g sh → z_V p l e R s m args below meth c nL g sh (MQ below (z_Qc g sh Rs) args s 0 0 (z_A g sh)) 0 lv [] u) : z_C l g sh y ws d av u Rs := by
  refine Met.ofW (cc := cc) (maxL := nL) (ret := rt) hy hw ?_
  intro p e s m args below meth c s₁ B hml hv
  obtain ⟨rfl, hK, hE, hP, hD⟩ := hv
  have hown : s.vm.findClass y.cls = some m.cls := findClass_of_methodNamed B.named
  have hts := atoms_spec (ws := ws) B.pre
  have h := body p e (z_rm d) s m av.toArray below meth c rfl ⟨⟨B.exec, B.bytes, hml, hown, hts⟩, hK, hE, B.returns, B.notSynchronized⟩
  have hl2 := lv_entry av (n := nL) hl
  rw [lg_entry_eq]
  subst hlv
  exact h s.heap [] _ hl2 hP hD va_S.rf
end ZV
