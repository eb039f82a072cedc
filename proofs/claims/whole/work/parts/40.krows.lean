/-! Walks that make cells: the world is a list that grows. -/
def z_NK : List Cond := [.methodLinkNest RX9 13 yX7_init "LabelOrder", .methodLinkNest RX9 20 yX6_init "LabelOrder", .methodLinkNest RX9 45 yX8_init "LabelOrder", .methodLinkNest RX9 52 yX0_init "LabelOrder", .methodLinkNest RX9 59 yX3_init "LabelOrder", .methodLinkNest RX9 66 yX4_init "LabelOrder", .methodLinkNest RX2 21 yX1_init "LabelOrder", .methodLinkNest RX5 17 yX6_init "LabelOrder", .methodLinkNest RX7 17 yX6_init "LabelOrder"]
def z_KE (U : State) : Prop := (∀ w ∈ z_NK, va_Nw w U) ∧ va_AO RX6 U ∧ va_AO RX1 U
theorem z_NK_warm {s U : State} (hW : s.WarmedH U.vm) (h : ∀ w ∈ z_NK, va_Nw w s) : ∀ w ∈ z_NK, va_Nw w U := by
  intro w hw
  have h1 := h w hw
  simp only [z_NK, List.mem_cons, List.not_mem_nil, or_false] at hw
  rcases hw with rfl | rfl | rfl | rfl | rfl | rfl | rfl | rfl | rfl <;> exact va_Nw.warmM hW h1
theorem z_NK_same {s U : State} (hv : U.vm = s.vm) (h : ∀ w ∈ z_NK, va_Nw w s) : ∀ w ∈ z_NK, va_Nw w U := by
  intro w hw
  have h1 := h w hw
  simp only [z_NK, List.mem_cons, List.not_mem_nil, or_false] at hw
  rcases hw with rfl | rfl | rfl | rfl | rfl | rfl | rfl | rfl | rfl <;> exact va_Nw.same rfl hv.symm h1
theorem z_KE.warm {s U : State} (hW : s.WarmedH U.vm) (h : z_KE s) : z_KE U := ⟨z_NK_warm hW h.1, h.2.1.moved hW.alike, h.2.2.moved hW.alike⟩
theorem z_KE.same {s U : State} (hv : U.vm = s.vm) (h : z_KE s) : z_KE U := by
  have ha : s.vm.Alike U.vm := by rw [hv]; exact Vm.Alike.refl _
  exact ⟨z_NK_same hv h.1, h.2.1.moved ha, h.2.2.moved ha⟩
def z_rk (d mc ms : Nat) : Room := { frames := d, cells := mc, slots := ms, locals := 40 * d }
def z_A1 (h0 sz : Nat) : Nat → Prop := fun q => q = h0 ∨ sz ≤ q
/-- a constructor's contract: the cell h0 as it was made becomes the cells that out tells, the first of them h0 -/
def z_I (l : Launch) (g : z_G) (y : MethodName) (ws : List Cond) (d mc ms ci : Nat) (fs : List Value) (out : (Nat → Nat) → va_W) : Prop :=
  ∀ h0 sz : Nat, Met l y ws (z_rk d mc ms) (fun a U => a = ([.ref h0] : List Value).toArray ∧ U.heap.size = sz ∧ va_K g.1 vwCl (z_tys g) U ∧ z_KE U ∧ va_P g.1 vwCl [(h0, .inr (ci, fs))] U.heap)
    (fun _ st oc t => (oc = .returned none ∧ ∃ ad : Nat → Nat, ad 0 = h0 ∧ va_P g.1 vwCl (out ad) t.heap ∧ va_D (z_A1 h0 sz) (out ad)) ∧ va_F (z_A1 h0 sz) st t) mc ms (z_A1 h0 sz)
section ZK
variable {p : Program} {l : Launch} {e : Env} {R : Room} {s : State} {m : MethodId} {args : Array Value} {below : List Frame} {meth : Method} {c : Code} {cc : ByteArray} {nL : Nat} {own : String} {Ts : List Cond} {rt : Option FieldType} {Q : State → Prop} {g : z_G} {A : Nat → Prop}
variable {pc cells slots : Nat} {lv : List (Nat × Value)} {st : List Value} {ws : va_W}
def z_K (p : Program) (l : Launch) (e : Env) (R : Room) (s : State) (m : MethodId) (args : Array Value) (below : List Frame) (meth : Method) (c : Code) (nL : Nat) (g : z_G) (A : Nat → Prop) (Q : State → Prop) (cells slots pc : Nat) (lv : List (Nat × Value)) (st : List Value) (ws : va_W) : Prop :=
  ∀ (H : Heap) (locs : List Loc) (ls : Array Slot), lv_has ls nL lv → va_P g.1 vwCl ws H → va_D A ws → va_S A s.heap H locs → W p l e R s m args below meth c H locs cells slots Q (F0 m pc ls st)
def z_KX (p : Program) (R : Room) (s : State) (m : MethodId) (args : Array Value) (meth : Method) (c : Code) (cc : ByteArray) (nL : Nat) (own : String) (Ts : List Cond) (rt : Option FieldType) (g : z_G) (A : Nat → Prop) : Prop :=
  CallFix p m c cc nL s args Ts own ∧ va_K g.1 vwCl (z_tys g) s ∧ z_KE s ∧ meth.sig.returnType = rt ∧ meth.locks = false ∧ (∀ q, s.heap.size ≤ q → A q)
theorem z_kiconst (X : z_KX p R s m args meth c cc nL own Ts rt g A) {n : Int} {v : Int32} (hd : decode cc pc = .ok (.iconst n, 1)) (hv : Int32.ofInt n = v) (k : z_K p l e R s m args below meth c nL g A Q cells slots (pc + 1) lv (.int v :: st) ws) : z_K p l e R s m args below meth c nL g A Q cells slots pc lv (st) ws :=
  fun H locs ls h1 h2 h3 h4 => lv_iconst X.1.1 X.1.2.1 hd hv (k H locs ls h1 h2 h3 h4)
theorem z_kbipush (X : z_KX p R s m args meth c cc nL own Ts rt g A) {n : Int} {v : Int32} (hd : decode cc pc = .ok (.bipush n, 2)) (hv : (Int8.ofInt n).toInt32 = v) (k : z_K p l e R s m args below meth c nL g A Q cells slots (pc + 2) lv (.int v :: st) ws) : z_K p l e R s m args below meth c nL g A Q cells slots pc lv (st) ws :=
  fun H locs ls h1 h2 h3 h4 => lv_bipush X.1.1 X.1.2.1 hd hv (k H locs ls h1 h2 h3 h4)
theorem z_ksipush (X : z_KX p R s m args meth c cc nL own Ts rt g A) {n : Int} {v : Int32} (hd : decode cc pc = .ok (.sipush n, 3)) (hv : (Int16.ofInt n).toInt32 = v) (k : z_K p l e R s m args below meth c nL g A Q cells slots (pc + 3) lv (.int v :: st) ws) : z_K p l e R s m args below meth c nL g A Q cells slots pc lv (st) ws :=
  fun H locs ls h1 h2 h3 h4 => lv_sipush X.1.1 X.1.2.1 hd hv (k H locs ls h1 h2 h3 h4)
theorem z_kiload_n (X : z_KX p R s m args meth c cc nL own Ts rt g A) {k0 : Fin 4} {i : Nat} {x : Int32} (j : Nat) (hd : decode cc pc = .ok (.iload_n k0, 1)) (hi : (k0 : Nat) = i) (hl : lv[j]? = some (i, .int x)) (k : z_K p l e R s m args below meth c nL g A Q cells slots (pc + 1) lv (.int x :: st) ws) : z_K p l e R s m args below meth c nL g A Q cells slots pc lv (st) ws :=
  fun H locs ls h1 h2 h3 h4 => lv_iload_n X.1.1 X.1.2.1 hd hi (lv_at h1 j hl) (k H locs ls h1 h2 h3 h4)
theorem z_kiload (X : z_KX p R s m args meth c cc nL own Ts rt g A) {i : Nat} {x : Int32} (j : Nat) (hd : decode cc pc = .ok (.iload i, 2)) (hl : lv[j]? = some (i, .int x)) (k : z_K p l e R s m args below meth c nL g A Q cells slots (pc + 2) lv (.int x :: st) ws) : z_K p l e R s m args below meth c nL g A Q cells slots pc lv (st) ws :=
  fun H locs ls h1 h2 h3 h4 => lv_iload X.1.1 X.1.2.1 hd (lv_at h1 j hl) (k H locs ls h1 h2 h3 h4)
theorem z_kistore_n (X : z_KX p R s m args meth c cc nL own Ts rt g A) {k0 : Fin 4} {i : Nat} {x : Int32} (lv' : List (Nat × Value)) (hd : decode cc pc = .ok (.istore_n k0, 1)) (hi : (k0 : Nat) = i) (hn : i < nL) (hl : (i, Value.int x) :: lv.filter (fun q => !(q.1 == i) && !(q.1 + 1 == i && q.2.category == 2)) = lv') (k : z_K p l e R s m args below meth c nL g A Q cells slots (pc + 1) lv' st ws) : z_K p l e R s m args below meth c nL g A Q cells slots pc lv (.int x :: st) ws :=
  fun H locs ls h1 h2 h3 h4 => lv_istore_n X.1.1 X.1.2.1 hd hi h1 hn hl (fun ls' h1 => k H locs ls' h1 h2 h3 h4)
theorem z_kistore (X : z_KX p R s m args meth c cc nL own Ts rt g A) {i : Nat} {x : Int32} (lv' : List (Nat × Value)) (hd : decode cc pc = .ok (.istore i, 2)) (hn : i < nL) (hl : (i, Value.int x) :: lv.filter (fun q => !(q.1 == i) && !(q.1 + 1 == i && q.2.category == 2)) = lv') (k : z_K p l e R s m args below meth c nL g A Q cells slots (pc + 2) lv' st ws) : z_K p l e R s m args below meth c nL g A Q cells slots pc lv (.int x :: st) ws :=
  fun H locs ls h1 h2 h3 h4 => lv_istore X.1.1 X.1.2.1 hd h1 hn hl (fun ls' h1 => k H locs ls' h1 h2 h3 h4)
theorem z_klload_n (X : z_KX p R s m args meth c cc nL own Ts rt g A) {k0 : Fin 4} {i : Nat} {x : Int64} (j : Nat) (hd : decode cc pc = .ok (.lload_n k0, 1)) (hi : (k0 : Nat) = i) (hl : lv[j]? = some (i, .long x)) (k : z_K p l e R s m args below meth c nL g A Q cells slots (pc + 1) lv (.long x :: st) ws) : z_K p l e R s m args below meth c nL g A Q cells slots pc lv (st) ws :=
  fun H locs ls h1 h2 h3 h4 => lv_lload_n X.1.1 X.1.2.1 hd hi (lv_at h1 j hl) (k H locs ls h1 h2 h3 h4)
theorem z_klload (X : z_KX p R s m args meth c cc nL own Ts rt g A) {i : Nat} {x : Int64} (j : Nat) (hd : decode cc pc = .ok (.lload i, 2)) (hl : lv[j]? = some (i, .long x)) (k : z_K p l e R s m args below meth c nL g A Q cells slots (pc + 2) lv (.long x :: st) ws) : z_K p l e R s m args below meth c nL g A Q cells slots pc lv (st) ws :=
  fun H locs ls h1 h2 h3 h4 => lv_lload X.1.1 X.1.2.1 hd (lv_at h1 j hl) (k H locs ls h1 h2 h3 h4)
theorem z_klstore_n (X : z_KX p R s m args meth c cc nL own Ts rt g A) {k0 : Fin 4} {i : Nat} {x : Int64} (lv' : List (Nat × Value)) (hd : decode cc pc = .ok (.lstore_n k0, 1)) (hi : (k0 : Nat) = i) (hn : i + 1 < nL) (hl : (i, Value.long x) :: lv.filter (fun q => !(q.1 == i) && (!(q.1 == i + 1) && !(q.1 + 1 == i && q.2.category == 2))) = lv') (k : z_K p l e R s m args below meth c nL g A Q cells slots (pc + 1) lv' st ws) : z_K p l e R s m args below meth c nL g A Q cells slots pc lv (.long x :: st) ws :=
  fun H locs ls h1 h2 h3 h4 => lv_lstore_n X.1.1 X.1.2.1 hd hi h1 hn hl (fun ls' h1 => k H locs ls' h1 h2 h3 h4)
theorem z_klstore (X : z_KX p R s m args meth c cc nL own Ts rt g A) {i : Nat} {x : Int64} (lv' : List (Nat × Value)) (hd : decode cc pc = .ok (.lstore i, 2)) (hn : i + 1 < nL) (hl : (i, Value.long x) :: lv.filter (fun q => !(q.1 == i) && (!(q.1 == i + 1) && !(q.1 + 1 == i && q.2.category == 2))) = lv') (k : z_K p l e R s m args below meth c nL g A Q cells slots (pc + 2) lv' st ws) : z_K p l e R s m args below meth c nL g A Q cells slots pc lv (.long x :: st) ws :=
  fun H locs ls h1 h2 h3 h4 => lv_lstore X.1.1 X.1.2.1 hd h1 hn hl (fun ls' h1 => k H locs ls' h1 h2 h3 h4)
theorem z_kaload_n (X : z_KX p R s m args meth c cc nL own Ts rt g A) {k0 : Fin 4} {i : Nat} {x : Nat} (j : Nat) (hd : decode cc pc = .ok (.aload_n k0, 1)) (hi : (k0 : Nat) = i) (hl : lv[j]? = some (i, .ref x)) (k : z_K p l e R s m args below meth c nL g A Q cells slots (pc + 1) lv (.ref x :: st) ws) : z_K p l e R s m args below meth c nL g A Q cells slots pc lv (st) ws :=
  fun H locs ls h1 h2 h3 h4 => lv_aload_n X.1.1 X.1.2.1 hd hi (lv_at h1 j hl) (k H locs ls h1 h2 h3 h4)
theorem z_kaload (X : z_KX p R s m args meth c cc nL own Ts rt g A) {i : Nat} {x : Nat} (j : Nat) (hd : decode cc pc = .ok (.aload i, 2)) (hl : lv[j]? = some (i, .ref x)) (k : z_K p l e R s m args below meth c nL g A Q cells slots (pc + 2) lv (.ref x :: st) ws) : z_K p l e R s m args below meth c nL g A Q cells slots pc lv (st) ws :=
  fun H locs ls h1 h2 h3 h4 => lv_aload X.1.1 X.1.2.1 hd (lv_at h1 j hl) (k H locs ls h1 h2 h3 h4)
theorem z_kastore_n (X : z_KX p R s m args meth c cc nL own Ts rt g A) {k0 : Fin 4} {i : Nat} {x : Nat} (lv' : List (Nat × Value)) (hd : decode cc pc = .ok (.astore_n k0, 1)) (hi : (k0 : Nat) = i) (hn : i < nL) (hl : (i, Value.ref x) :: lv.filter (fun q => !(q.1 == i) && !(q.1 + 1 == i && q.2.category == 2)) = lv') (k : z_K p l e R s m args below meth c nL g A Q cells slots (pc + 1) lv' st ws) : z_K p l e R s m args below meth c nL g A Q cells slots pc lv (.ref x :: st) ws :=
  fun H locs ls h1 h2 h3 h4 => lv_astore_n X.1.1 X.1.2.1 hd hi h1 hn hl (fun ls' h1 => k H locs ls' h1 h2 h3 h4)
theorem z_kastore (X : z_KX p R s m args meth c cc nL own Ts rt g A) {i : Nat} {x : Nat} (lv' : List (Nat × Value)) (hd : decode cc pc = .ok (.astore i, 2)) (hn : i < nL) (hl : (i, Value.ref x) :: lv.filter (fun q => !(q.1 == i) && !(q.1 + 1 == i && q.2.category == 2)) = lv') (k : z_K p l e R s m args below meth c nL g A Q cells slots (pc + 2) lv' st ws) : z_K p l e R s m args below meth c nL g A Q cells slots pc lv (.ref x :: st) ws :=
  fun H locs ls h1 h2 h3 h4 => lv_astore X.1.1 X.1.2.1 hd h1 hn hl (fun ls' h1 => k H locs ls' h1 h2 h3 h4)
theorem z_kiinc (X : z_KX p R s m args meth c cc nL own Ts rt g A) {i : Nat} {n : Int} {x v : Int32} (j : Nat) (lv' : List (Nat × Value)) (hd : decode cc pc = .ok (.iinc i n, 3)) (hk : lv[j]? = some (i, .int x)) (hv : x + Int32.ofInt n = v) (hn : i < nL) (hl : (i, Value.int v) :: lv.filter (fun q => !(q.1 == i) && !(q.1 + 1 == i && q.2.category == 2)) = lv') (k : z_K p l e R s m args below meth c nL g A Q cells slots (pc + 3) lv' st ws) : z_K p l e R s m args below meth c nL g A Q cells slots pc lv st ws :=
  fun H locs ls h1 h2 h3 h4 => lv_iinc X.1.1 X.1.2.1 hd h1 hk hv hn hl (fun ls' h1 => k H locs ls' h1 h2 h3 h4)
theorem z_kiadd (X : z_KX p R s m args meth c cc nL own Ts rt g A) {x y : Int32} (hd : decode cc pc = .ok (.iadd, 1)) (k : z_K p l e R s m args below meth c nL g A Q cells slots (pc + 1) lv (.int (x + y) :: st) ws) : z_K p l e R s m args below meth c nL g A Q cells slots pc lv (.int y :: .int x :: st) ws :=
  fun H locs ls h1 h2 h3 h4 => lv_iadd X.1.1 X.1.2.1 hd (k H locs ls h1 h2 h3 h4)
theorem z_kisub (X : z_KX p R s m args meth c cc nL own Ts rt g A) {x y : Int32} (hd : decode cc pc = .ok (.isub, 1)) (k : z_K p l e R s m args below meth c nL g A Q cells slots (pc + 1) lv (.int (x - y) :: st) ws) : z_K p l e R s m args below meth c nL g A Q cells slots pc lv (.int y :: .int x :: st) ws :=
  fun H locs ls h1 h2 h3 h4 => lv_isub X.1.1 X.1.2.1 hd (k H locs ls h1 h2 h3 h4)
theorem z_kiand (X : z_KX p R s m args meth c cc nL own Ts rt g A) {x y : Int32} (hd : decode cc pc = .ok (.iand, 1)) (k : z_K p l e R s m args below meth c nL g A Q cells slots (pc + 1) lv (.int (x &&& y) :: st) ws) : z_K p l e R s m args below meth c nL g A Q cells slots pc lv (.int y :: .int x :: st) ws :=
  fun H locs ls h1 h2 h3 h4 => lv_iand X.1.1 X.1.2.1 hd (k H locs ls h1 h2 h3 h4)
theorem z_ki2l (X : z_KX p R s m args meth c cc nL own Ts rt g A) {x : Int32} (hd : decode cc pc = .ok (.i2l, 1)) (k : z_K p l e R s m args below meth c nL g A Q cells slots (pc + 1) lv (.long x.toInt64 :: st) ws) : z_K p l e R s m args below meth c nL g A Q cells slots pc lv (.int x :: st) ws :=
  fun H locs ls h1 h2 h3 h4 => lv_i2l X.1.1 X.1.2.1 hd rfl (k H locs ls h1 h2 h3 h4)
theorem z_klcmp (X : z_KX p R s m args meth c cc nL own Ts rt g A) {x y : Int64} (hd : decode cc pc = .ok (.lcmp, 1)) (k : z_K p l e R s m args below meth c nL g A Q cells slots (pc + 1) lv (.int (lg_cmp x y) :: st) ws) : z_K p l e R s m args below meth c nL g A Q cells slots pc lv (.long y :: .long x :: st) ws :=
  fun H locs ls h1 h2 h3 h4 => W.lcmp X.1.1 X.1.2.1 hd (k H locs ls h1 h2 h3 h4)
theorem z_kdup (X : z_KX p R s m args meth c cc nL own Ts rt g A) {va : Value} (hd : decode cc pc = .ok (.dup, 1)) (hva : va.category = 1) (k : z_K p l e R s m args below meth c nL g A Q cells slots (pc + 1) lv (va :: va :: st) ws) : z_K p l e R s m args below meth c nL g A Q cells slots pc lv (va :: st) ws :=
  fun H locs ls h1 h2 h3 h4 => lv_dup X.1.1 X.1.2.1 hd hva (k H locs ls h1 h2 h3 h4)
theorem z_kif_eq (X : z_KX p R s m args meth c cc nL own Ts rt g A) {x : Int32} {off : Int} (tgt : Nat) (hd : decode cc pc = .ok (.ifCond .eq off, 3)) (ht : (pc : Int) + off = (tgt : Int)) (kt : x = 0 → z_K p l e R s m args below meth c nL g A Q cells slots tgt lv st ws) (kf : ¬ x = 0 → z_K p l e R s m args below meth c nL g A Q cells slots (pc + 3) lv st ws) : z_K p l e R s m args below meth c nL g A Q cells slots pc lv (.int x :: st) ws :=
  fun H locs ls h1 h2 h3 h4 => lv_if_eq X.1.1 X.1.2.1 hd ht (fun q => kt q H locs ls h1 h2 h3 h4) (fun q => kf q H locs ls h1 h2 h3 h4)
theorem z_kif_ne (X : z_KX p R s m args meth c cc nL own Ts rt g A) {x : Int32} {off : Int} (tgt : Nat) (hd : decode cc pc = .ok (.ifCond .ne off, 3)) (ht : (pc : Int) + off = (tgt : Int)) (kt : ¬ x = 0 → z_K p l e R s m args below meth c nL g A Q cells slots tgt lv st ws) (kf : x = 0 → z_K p l e R s m args below meth c nL g A Q cells slots (pc + 3) lv st ws) : z_K p l e R s m args below meth c nL g A Q cells slots pc lv (.int x :: st) ws :=
  fun H locs ls h1 h2 h3 h4 => lv_if_ne X.1.1 X.1.2.1 hd ht (fun q => kt q H locs ls h1 h2 h3 h4) (fun q => kf q H locs ls h1 h2 h3 h4)
theorem z_kicmp_eq (X : z_KX p R s m args meth c cc nL own Ts rt g A) {x y : Int32} {off : Int} (tgt : Nat) (hd : decode cc pc = .ok (.if_icmp .eq off, 3)) (ht : (pc : Int) + off = (tgt : Int)) (kt : x = y → z_K p l e R s m args below meth c nL g A Q cells slots tgt lv st ws) (kf : ¬ x = y → z_K p l e R s m args below meth c nL g A Q cells slots (pc + 3) lv st ws) : z_K p l e R s m args below meth c nL g A Q cells slots pc lv (.int y :: .int x :: st) ws :=
  fun H locs ls h1 h2 h3 h4 => lv_icmp_eq X.1.1 X.1.2.1 hd ht (fun q => kt q H locs ls h1 h2 h3 h4) (fun q => kf q H locs ls h1 h2 h3 h4)
theorem z_kicmp_ne (X : z_KX p R s m args meth c cc nL own Ts rt g A) {x y : Int32} {off : Int} (tgt : Nat) (hd : decode cc pc = .ok (.if_icmp .ne off, 3)) (ht : (pc : Int) + off = (tgt : Int)) (kt : ¬ x = y → z_K p l e R s m args below meth c nL g A Q cells slots tgt lv st ws) (kf : x = y → z_K p l e R s m args below meth c nL g A Q cells slots (pc + 3) lv st ws) : z_K p l e R s m args below meth c nL g A Q cells slots pc lv (.int y :: .int x :: st) ws :=
  fun H locs ls h1 h2 h3 h4 => lv_icmp_ne X.1.1 X.1.2.1 hd ht (fun q => kt q H locs ls h1 h2 h3 h4) (fun q => kf q H locs ls h1 h2 h3 h4)
theorem z_kicmp_ge (X : z_KX p R s m args meth c cc nL own Ts rt g A) {x y : Int32} {off : Int} (tgt : Nat) (hd : decode cc pc = .ok (.if_icmp .ge off, 3)) (ht : (pc : Int) + off = (tgt : Int)) (kt : y ≤ x → z_K p l e R s m args below meth c nL g A Q cells slots tgt lv st ws) (kf : ¬ y ≤ x → z_K p l e R s m args below meth c nL g A Q cells slots (pc + 3) lv st ws) : z_K p l e R s m args below meth c nL g A Q cells slots pc lv (.int y :: .int x :: st) ws :=
  fun H locs ls h1 h2 h3 h4 => lv_icmp_ge X.1.1 X.1.2.1 hd ht (fun q => kt q H locs ls h1 h2 h3 h4) (fun q => kf q H locs ls h1 h2 h3 h4)
theorem z_kicmp_gt (X : z_KX p R s m args meth c cc nL own Ts rt g A) {x y : Int32} {off : Int} (tgt : Nat) (hd : decode cc pc = .ok (.if_icmp .gt off, 3)) (ht : (pc : Int) + off = (tgt : Int)) (kt : y < x → z_K p l e R s m args below meth c nL g A Q cells slots tgt lv st ws) (kf : ¬ y < x → z_K p l e R s m args below meth c nL g A Q cells slots (pc + 3) lv st ws) : z_K p l e R s m args below meth c nL g A Q cells slots pc lv (.int y :: .int x :: st) ws :=
  fun H locs ls h1 h2 h3 h4 => lv_icmp_gt X.1.1 X.1.2.1 hd ht (fun q => kt q H locs ls h1 h2 h3 h4) (fun q => kf q H locs ls h1 h2 h3 h4)
theorem z_kicmp_lt (X : z_KX p R s m args meth c cc nL own Ts rt g A) {x y : Int32} {off : Int} (tgt : Nat) (hd : decode cc pc = .ok (.if_icmp .lt off, 3)) (ht : (pc : Int) + off = (tgt : Int)) (kt : x < y → z_K p l e R s m args below meth c nL g A Q cells slots tgt lv st ws) (kf : ¬ x < y → z_K p l e R s m args below meth c nL g A Q cells slots (pc + 3) lv st ws) : z_K p l e R s m args below meth c nL g A Q cells slots pc lv (.int y :: .int x :: st) ws :=
  fun H locs ls h1 h2 h3 h4 => lv_icmp_lt X.1.1 X.1.2.1 hd ht (fun q => kt q H locs ls h1 h2 h3 h4) (fun q => kf q H locs ls h1 h2 h3 h4)
theorem z_kicmp_le (X : z_KX p R s m args meth c cc nL own Ts rt g A) {x y : Int32} {off : Int} (tgt : Nat) (hd : decode cc pc = .ok (.if_icmp .le off, 3)) (ht : (pc : Int) + off = (tgt : Int)) (kt : x ≤ y → z_K p l e R s m args below meth c nL g A Q cells slots tgt lv st ws) (kf : ¬ x ≤ y → z_K p l e R s m args below meth c nL g A Q cells slots (pc + 3) lv st ws) : z_K p l e R s m args below meth c nL g A Q cells slots pc lv (.int y :: .int x :: st) ws :=
  fun H locs ls h1 h2 h3 h4 => lv_icmp_le X.1.1 X.1.2.1 hd ht (fun q => kt q H locs ls h1 h2 h3 h4) (fun q => kf q H locs ls h1 h2 h3 h4)
theorem z_kgoto (X : z_KX p R s m args meth c cc nL own Ts rt g A) {off : Int} (tgt : Nat) (hd : decode cc pc = .ok (.goto off, 3)) (ht : (pc : Int) + off = (tgt : Int)) (k : z_K p l e R s m args below meth c nL g A Q cells slots tgt lv st ws) : z_K p l e R s m args below meth c nL g A Q cells slots pc lv st ws :=
  fun H locs ls h1 h2 h3 h4 => lv_goto X.1.1 X.1.2.1 hd ht (k H locs ls h1 h2 h3 h4)
theorem z_ktabOut (X : z_KX p R s m args meth c cc nL own Ts rt g A) {x : Int32} {dflt lo hi : Int} {offs : Array Int} {len : Nat} (tgt : Nat) (hd : decode cc pc = .ok (.tableswitch dflt lo hi offs, len)) (h : x.toInt < lo ∨ hi < x.toInt) (ht : (pc : Int) + dflt = (tgt : Int)) (k : z_K p l e R s m args below meth c nL g A Q cells slots tgt lv st ws) : z_K p l e R s m args below meth c nL g A Q cells slots pc lv (.int x :: st) ws :=
  fun H locs ls h1 h2 h3 h4 => lv_tableOut X.1.1 X.1.2.1 hd h ht (k H locs ls h1 h2 h3 h4)
theorem z_ktabIn (X : z_KX p R s m args meth c cc nL own Ts rt g A) {x : Int32} {dflt lo hi off : Int} {offs : Array Int} {len : Nat} (tgt : Nat) (hd : decode cc pc = .ok (.tableswitch dflt lo hi offs, len)) (q1 : ¬ x.toInt < lo) (q2 : ¬ hi < x.toInt) (ho : offs[(x.toInt - lo).toNat]? = some off) (ht : (pc : Int) + off = (tgt : Int)) (k : z_K p l e R s m args below meth c nL g A Q cells slots tgt lv st ws) : z_K p l e R s m args below meth c nL g A Q cells slots pc lv (.int x :: st) ws :=
  fun H locs ls h1 h2 h3 h4 => lv_tableIn X.1.1 X.1.2.1 hd q1 q2 ho ht (k H locs ls h1 h2 h3 h4)
theorem z_ksub (ks : List Nat) (lv' : List (Nat × Value)) (hl : lv_pick lv ks = lv') (k : z_K p l e R s m args below meth c nL g A Q cells slots pc lv' st ws) : z_K p l e R s m args below meth c nL g A Q cells slots pc lv st ws :=
  fun H locs ls h1 h2 h3 h4 => k H locs ls (lv_sub h1 ks hl) h2 h3 h4
theorem z_kw {ws' : va_W} (hw : ws = ws') (k : z_K p l e R s m args below meth c nL g A Q cells slots pc lv st ws') : z_K p l e R s m args below meth c nL g A Q cells slots pc lv st ws := hw ▸ k
theorem z_kcs {c' s' : Nat} (hc : cells ≤ c') (hs : slots ≤ s') (k : z_K p l e R s m args below meth c nL g A Q c' s' pc lv st ws) : z_K p l e R s m args below meth c nL g A Q cells slots pc lv st ws :=
  fun H locs ls h1 h2 h3 h4 => W.widen hc hs (k H locs ls h1 h2 h3 h4)
theorem z_kobj (X : z_KX p R s m args meth c cc nL own Ts rt g A) {idx a : Nat} (q1 : Cond.methodLink own idx objectInit ∈ Ts) (q2 : Cond.instanceMethod objectInit ∈ Ts) (q3 : Cond.code objectInit ⟨#[0xb1]⟩ 1 none ∈ Ts) (hf : 1 ≤ R.frames) (hlo : (st.map fun v => v.category).sum + 12 ≤ R.locals) (hd : decode cc pc = .ok (.invokespecial idx, 3)) (k : z_K p l e R s m args below meth c nL g A Q cells slots (pc + 3) lv st ws) : z_K p l e R s m args below meth c nL g A Q cells slots pc lv (.ref a :: st) ws :=
  fun H locs ls h1 h2 h3 h4 => W.objInit X.1.1 X.1.2.1 X.1.2.2.2.1 (X.1.2.2.2.2 _ q1) (X.1.2.2.2.2 _ q2) (X.1.2.2.2.2 _ q3) rfl (by rw [X.1.2.2.1]; exact h1.1) rfl hd hf (by show 2 * 0 + _ + 12 ≤ _; omega) (k H locs ls h1 h2 h3 h4)
theorem z_knew_int (X : z_KX p R s m args meth c cc nL own Ts rt g A) {n : Int32} {N : Nat} (ha : Cond.arrayClass .int ∈ Ts) (hn : ¬ n < 0) (hN : n.toNatClampNeg = N) (hb : N * componentBytes .int ≤ 536870912) (hc : cells + 1 ≤ R.cells) (hs : slots + N ≤ R.slots) (hd : decode cc pc = .ok (.newarray .int, 2)) (k : ∀ q : Nat, z_K p l e R s m args below meth c nL g A Q (cells + 1) (slots + N) (pc + 2) lv (.ref q :: st) (ws ++ [(q, .inl (z_ct g 0, N, .inl (fun _ => 0)))])) : z_K p l e R s m args below meth c nL g A Q cells slots pc lv (.int n :: st) ws := by
  intro H locs ls h1 h2 h3 h4
  refine va_newa (D := g.1) (atype := .int) (ty := .int) (a0 := (N, .inl (fun _ => 0))) X.1.1 X.1.2.1 (X.1.2.2.2.2 _ ha) rfl X.2.1 h2 h3 h4 X.2.2.2.2.2 (fun cA => rfl) hn hN hb hc hs hd (fun q cA H1 hK h2 h3 h4 => ?_)
  have e1 : s.vm.findClass ("[" ++ (.int : FieldType).toString) = some (z_ct g 0) := (X.2.1.2 0 _ rfl).2
  have e2 : s.vm.findClass ("[" ++ (.int : FieldType).toString) = some cA := (hK.2 7 (cA, .int) rfl).2
  have e : cA = z_ct g 0 := Option.some.inj (e2.symm.trans e1)
  subst e
  exact k q H1 _ ls h1 h2 h3 h4
theorem z_knew_char (X : z_KX p R s m args meth c cc nL own Ts rt g A) {n : Int32} {N : Nat} (ha : Cond.arrayClass .char ∈ Ts) (hn : ¬ n < 0) (hN : n.toNatClampNeg = N) (hb : N * componentBytes .char ≤ 536870912) (hc : cells + 1 ≤ R.cells) (hs : slots + N ≤ R.slots) (hd : decode cc pc = .ok (.newarray .char, 2)) (k : ∀ q : Nat, z_K p l e R s m args below meth c nL g A Q (cells + 1) (slots + N) (pc + 2) lv (.ref q :: st) (ws ++ [(q, .inl (z_ct g 1, N, .inl (fun _ => 0)))])) : z_K p l e R s m args below meth c nL g A Q cells slots pc lv (.int n :: st) ws := by
  intro H locs ls h1 h2 h3 h4
  refine va_newa (D := g.1) (atype := .char) (ty := .char) (a0 := (N, .inl (fun _ => 0))) X.1.1 X.1.2.1 (X.1.2.2.2.2 _ ha) rfl X.2.1 h2 h3 h4 X.2.2.2.2.2 (fun cA => rfl) hn hN hb hc hs hd (fun q cA H1 hK h2 h3 h4 => ?_)
  have e1 : s.vm.findClass ("[" ++ (.char : FieldType).toString) = some (z_ct g 1) := (X.2.1.2 1 _ rfl).2
  have e2 : s.vm.findClass ("[" ++ (.char : FieldType).toString) = some cA := (hK.2 7 (cA, .char) rfl).2
  have e : cA = z_ct g 1 := Option.some.inj (e2.symm.trans e1)
  subst e
  exact k q H1 _ ls h1 h2 h3 h4
theorem z_knew_byte (X : z_KX p R s m args meth c cc nL own Ts rt g A) {n : Int32} {N : Nat} (ha : Cond.arrayClass .byte ∈ Ts) (hn : ¬ n < 0) (hN : n.toNatClampNeg = N) (hb : N * componentBytes .byte ≤ 536870912) (hc : cells + 1 ≤ R.cells) (hs : slots + N ≤ R.slots) (hd : decode cc pc = .ok (.newarray .byte, 2)) (k : ∀ q : Nat, z_K p l e R s m args below meth c nL g A Q (cells + 1) (slots + N) (pc + 2) lv (.ref q :: st) (ws ++ [(q, .inl (z_ct g 2, N, .inl (fun _ => 0)))])) : z_K p l e R s m args below meth c nL g A Q cells slots pc lv (.int n :: st) ws := by
  intro H locs ls h1 h2 h3 h4
  refine va_newa (D := g.1) (atype := .byte) (ty := .byte) (a0 := (N, .inl (fun _ => 0))) X.1.1 X.1.2.1 (X.1.2.2.2.2 _ ha) rfl X.2.1 h2 h3 h4 X.2.2.2.2.2 (fun cA => rfl) hn hN hb hc hs hd (fun q cA H1 hK h2 h3 h4 => ?_)
  have e1 : s.vm.findClass ("[" ++ (.byte : FieldType).toString) = some (z_ct g 2) := (X.2.1.2 2 _ rfl).2
  have e2 : s.vm.findClass ("[" ++ (.byte : FieldType).toString) = some cA := (hK.2 7 (cA, .byte) rfl).2
  have e : cA = z_ct g 2 := Option.some.inj (e2.symm.trans e1)
  subst e
  exact k q H1 _ ls h1 h2 h3 h4
theorem z_knew_boolean (X : z_KX p R s m args meth c cc nL own Ts rt g A) {n : Int32} {N : Nat} (ha : Cond.arrayClass .boolean ∈ Ts) (hn : ¬ n < 0) (hN : n.toNatClampNeg = N) (hb : N * componentBytes .boolean ≤ 536870912) (hc : cells + 1 ≤ R.cells) (hs : slots + N ≤ R.slots) (hd : decode cc pc = .ok (.newarray .boolean, 2)) (k : ∀ q : Nat, z_K p l e R s m args below meth c nL g A Q (cells + 1) (slots + N) (pc + 2) lv (.ref q :: st) (ws ++ [(q, .inl (z_ct g 3, N, .inl (fun _ => 0)))])) : z_K p l e R s m args below meth c nL g A Q cells slots pc lv (.int n :: st) ws := by
  intro H locs ls h1 h2 h3 h4
  refine va_newa (D := g.1) (atype := .boolean) (ty := .boolean) (a0 := (N, .inl (fun _ => 0))) X.1.1 X.1.2.1 (X.1.2.2.2.2 _ ha) rfl X.2.1 h2 h3 h4 X.2.2.2.2.2 (fun cA => rfl) hn hN hb hc hs hd (fun q cA H1 hK h2 h3 h4 => ?_)
  have e1 : s.vm.findClass ("[" ++ (.boolean : FieldType).toString) = some (z_ct g 3) := (X.2.1.2 3 _ rfl).2
  have e2 : s.vm.findClass ("[" ++ (.boolean : FieldType).toString) = some cA := (hK.2 7 (cA, .boolean) rfl).2
  have e : cA = z_ct g 3 := Option.some.inj (e2.symm.trans e1)
  subst e
  exact k q H1 _ ls h1 h2 h3 h4
theorem z_knew_long (X : z_KX p R s m args meth c cc nL own Ts rt g A) {n : Int32} {N : Nat} (ha : Cond.arrayClass .long ∈ Ts) (hn : ¬ n < 0) (hN : n.toNatClampNeg = N) (hb : N * componentBytes .long ≤ 536870912) (hc : cells + 1 ≤ R.cells) (hs : slots + N ≤ R.slots) (hd : decode cc pc = .ok (.newarray .long, 2)) (k : ∀ q : Nat, z_K p l e R s m args below meth c nL g A Q (cells + 1) (slots + N) (pc + 2) lv (.ref q :: st) (ws ++ [(q, .inl (z_ct g 4, N, .inr (.inl (fun _ => 0))))])) : z_K p l e R s m args below meth c nL g A Q cells slots pc lv (.int n :: st) ws := by
  intro H locs ls h1 h2 h3 h4
  refine va_newa (D := g.1) (atype := .long) (ty := .long) (a0 := (N, .inr (.inl (fun _ => 0)))) X.1.1 X.1.2.1 (X.1.2.2.2.2 _ ha) rfl X.2.1 h2 h3 h4 X.2.2.2.2.2 (fun cA => rfl) hn hN hb hc hs hd (fun q cA H1 hK h2 h3 h4 => ?_)
  have e1 : s.vm.findClass ("[" ++ (.long : FieldType).toString) = some (z_ct g 4) := (X.2.1.2 4 _ rfl).2
  have e2 : s.vm.findClass ("[" ++ (.long : FieldType).toString) = some cA := (hK.2 7 (cA, .long) rfl).2
  have e : cA = z_ct g 4 := Option.some.inj (e2.symm.trans e1)
  subst e
  exact k q H1 _ ls h1 h2 h3 h4
theorem z_kanewP (X : z_KX p R s m args meth c cc nL own Ts rt g A) {index : Nat} {n : Int32} {N : Nat} (hl : Cond.classLink own index RX6 ∈ Ts) (hn : ¬ n < 0) (hN : n.toNatClampNeg = N) (hb : N * 4 ≤ 536870912) (hc : cells + 1 ≤ R.cells) (hs : slots + N ≤ R.slots) (hd : decode cc pc = .ok (.anewarray index, 3)) (k : ∀ q : Nat, z_K p l e R s m args below meth c nL g A Q (cells + 1) (slots + N) (pc + 3) lv (.ref q :: st) (ws ++ [(q, .inl (z_ct g 5, N, .inr (.inr (.inr (.inr (fun _ => none))))))])) : z_K p l e R s m args below meth c nL g A Q cells slots pc lv (.int n :: st) ws := by
  intro H locs ls h1 h2 h3 h4
  refine va_newq (D := g.1) (C := RX6) X.1.1 X.1.2.1 X.1.2.2.2.1 (X.1.2.2.2.2 _ hl) X.2.2.1.2.1 X.2.1 h2 h3 h4 X.2.2.2.2.2 hn hN hb hc hs hd (fun q cA H1 hK h2 h3 h4 => ?_)
  obtain ⟨-, -, -, -, -, e1⟩ := (X.2.1.2 5 _ rfl).2
  obtain ⟨-, -, -, -, -, e2⟩ := (hK.2 7 (cA, .object RX6) rfl).2
  have e : cA = z_ct g 5 := Option.some.inj (e2.symm.trans e1)
  subst e
  exact k q H1 _ ls h1 h2 h3 h4
theorem z_kanewC (X : z_KX p R s m args meth c cc nL own Ts rt g A) {index : Nat} {n : Int32} {N : Nat} (hl : Cond.classLink own index RX1 ∈ Ts) (hn : ¬ n < 0) (hN : n.toNatClampNeg = N) (hb : N * 4 ≤ 536870912) (hc : cells + 1 ≤ R.cells) (hs : slots + N ≤ R.slots) (hd : decode cc pc = .ok (.anewarray index, 3)) (k : ∀ q : Nat, z_K p l e R s m args below meth c nL g A Q (cells + 1) (slots + N) (pc + 3) lv (.ref q :: st) (ws ++ [(q, .inl (z_ct g 6, N, .inr (.inr (.inr (.inr (fun _ => none))))))])) : z_K p l e R s m args below meth c nL g A Q cells slots pc lv (.int n :: st) ws := by
  intro H locs ls h1 h2 h3 h4
  refine va_newq (D := g.1) (C := RX1) X.1.1 X.1.2.1 X.1.2.2.2.1 (X.1.2.2.2.2 _ hl) X.2.2.1.2.2 X.2.1 h2 h3 h4 X.2.2.2.2.2 hn hN hb hc hs hd (fun q cA H1 hK h2 h3 h4 => ?_)
  obtain ⟨-, -, -, -, -, e1⟩ := (X.2.1.2 6 _ rfl).2
  obtain ⟨-, -, -, -, -, e2⟩ := (hK.2 7 (cA, .object RX1) rfl).2
  have e : cA = z_ct g 6 := Option.some.inj (e2.symm.trans e1)
  subst e
  exact k q H1 _ ls h1 h2 h3 h4
theorem z_kputF (X : z_KX p R s m args meth c cc nL own Ts rt g A) {C : String} {T : u_T} {N ci index q0 k0 a : Nat} {fs : List Value} {ty0 : Nat → FieldType} {v : Value} (ws' : va_W) (hin2 : meth.name = "<init>") (he : ws[q0]? = some (a, .inr (ci, fs))) (hc : vwCl[ci]? = some (C, T, N)) (hin : ∀ w ∈ u_ws C T N, w ∈ Ts) (hty : ∀ k, k < N → parseFieldDescriptor (T k).2.2.1 = some (ty0 k)) (hnm : ∀ a, a < N → ∀ b, b < N → a ≠ b → (T a).2.1 ≠ (T b).2.1) (hk : k0 < N) (hT : (T k0).1 = C) (hCo : C = own) (hfin : (T k0).2.2.2 = true) (hn : narrow (ty0 k0) v = v) (hfit : fits (ty0 k0) v = true) (hl : k0 < fs.length) (hlink : (Cond.fieldLink own index C (T k0).2.1 (T k0).2.2.1) ∈ Ts) (hws : ws.set q0 (a, .inr (ci, fs.set k0 v)) = ws') (hd : decode cc pc = .ok (.putfield index, 3)) (k : z_K p l e R s m args below meth c nL g A Q cells slots (pc + 3) lv st ws') : z_K p l e R s m args below meth c nL g A Q cells slots pc lv (v :: .ref a :: st) ws := by
  intro H locs ls h1 h2 h3 h4
  refine va_putF (D := g.1) (ci := ci) (v := v) (ty := ty0 k0) (C := C) (T := T) (N := N) (ref := C) X.1.1 X.1.2.1 X.1.2.2.2.2 hin ty0 hty hnm X.1.2.2.2.1 X.2.1 h2 h3 h4 q0 he hc k0 hk (X.1.2.2.2.2 _ hlink) (fun x hx => by rw [hT] at hx; exact hx) hfin hin2 (hT.trans hCo) (hty k0 hk) hn hfit hl hd (fun H1 locs1 h2 h3 h4 => ?_)
  rw [hws] at h2 h3
  exact k H1 locs1 ls h1 h2 h3 h4
theorem z_kput (X : z_KX p R s m args meth c cc nL own Ts rt g A) {C : String} {T : u_T} {N ci index q0 k0 a : Nat} {fs : List Value} {ty0 : Nat → FieldType} {v : Value} (ws' : va_W) (he : ws[q0]? = some (a, .inr (ci, fs))) (hc : vwCl[ci]? = some (C, T, N)) (hin : ∀ w ∈ u_ws C T N, w ∈ Ts) (hty : ∀ k, k < N → parseFieldDescriptor (T k).2.2.1 = some (ty0 k)) (hnm : ∀ a, a < N → ∀ b, b < N → a ≠ b → (T a).2.1 ≠ (T b).2.1) (hk : k0 < N) (hT : (T k0).1 = C) (hfin : (T k0).2.2.2 = false) (hn : narrow (ty0 k0) v = v) (hfit : fits (ty0 k0) v = true) (hl : k0 < fs.length) (hlink : (Cond.fieldLink own index C (T k0).2.1 (T k0).2.2.1) ∈ Ts) (hws : ws.set q0 (a, .inr (ci, fs.set k0 v)) = ws') (hd : decode cc pc = .ok (.putfield index, 3)) (k : z_K p l e R s m args below meth c nL g A Q cells slots (pc + 3) lv st ws') : z_K p l e R s m args below meth c nL g A Q cells slots pc lv (v :: .ref a :: st) ws := by
  intro H locs ls h1 h2 h3 h4
  refine va_put (D := g.1) (ci := ci) (v := v) (ty := ty0 k0) (C := C) (T := T) (N := N) (ref := C) X.1.1 X.1.2.1 X.1.2.2.2.2 hin ty0 hty hnm X.1.2.2.2.1 X.2.1 h2 h3 h4 q0 he hc k0 hk (X.1.2.2.2.2 _ hlink) (fun x hx => by rw [hT] at hx; exact hx) hfin (hty k0 hk) hn hfit hl hd (fun H1 locs1 h2 h3 h4 => ?_)
  rw [hws] at h2 h3
  exact k H1 locs1 ls h1 h2 h3 h4
theorem z_kget (X : z_KX p R s m args meth c cc nL own Ts rt g A) {C : String} {T : u_T} {N ci index q0 k0 a : Nat} {fs : List Value} {v : Value} (he : ws[q0]? = some (a, .inr (ci, fs))) (hc : vwCl[ci]? = some (C, T, N)) (hin : ∀ w ∈ u_ws C T N, w ∈ Ts) (hk : k0 < N) (hT : (T k0).1 = C) (hv : fs[k0]? = some v) (hlink : (Cond.fieldLink own index C (T k0).2.1 (T k0).2.2.1) ∈ Ts) (hd : decode cc pc = .ok (.getfield index, 3)) (k : z_K p l e R s m args below meth c nL g A Q cells slots (pc + 3) lv (v :: st) ws) : z_K p l e R s m args below meth c nL g A Q cells slots pc lv (.ref a :: st) ws :=
  fun H locs ls h1 h2 h3 h4 => va_get (D := g.1) (ci := ci) (v := v) (C := C) (T := T) (N := N) (ref := C) X.1.1 X.1.2.1 X.1.2.2.2.2 hin X.1.2.2.2.1 X.2.1 h2 q0 he hc k0 hk (X.1.2.2.2.2 _ hlink) (fun x hx => by rw [hT] at hx; exact hx) hv hd (k H locs ls h1 h2 h3 h4)
theorem z_kaastP (X : z_KX p R s m args meth c cc nL own Ts rt g A) {q0 qk n a b : Nat} {x : Int32} {f : Nat → Option Nat} {vs : List Value} (ws' : va_W) (ha : ws[q0]? = some (a, .inl (z_ct g 5, n, .inr (.inr (.inr (.inr f)))))) (hv : ws[qk]? = some (b, .inr (6, vs))) (hin : vp_in x n) (hws : ws.set q0 (a, .inl (z_ct g 5, n, .inr (.inr (.inr (.inr (va_up f x.toNatClampNeg (some b))))))) = ws') (hd : decode cc pc = .ok (.aastore, 1)) (k : z_K p l e R s m args below meth c nL g A Q cells slots (pc + 1) lv st ws') : z_K p l e R s m args below meth c nL g A Q cells slots pc lv (.ref b :: .int x :: .ref a :: st) ws := by
  intro H locs ls h1 h2 h3 h4
  refine va_astq (D := g.1) (r := (RX6, TX6, 6)) X.1.1 X.1.2.1 X.2.1 h2 h3 h4 q0 5 qk 6 ha rfl hv rfl hin hd (fun H1 locs1 h2 h3 h4 => ?_)
  rw [hws] at h2 h3
  exact k H1 locs1 ls h1 h2 h3 h4
theorem z_kaastC (X : z_KX p R s m args meth c cc nL own Ts rt g A) {q0 qk n a b : Nat} {x : Int32} {f : Nat → Option Nat} {vs : List Value} (ws' : va_W) (ha : ws[q0]? = some (a, .inl (z_ct g 6, n, .inr (.inr (.inr (.inr f)))))) (hv : ws[qk]? = some (b, .inr (1, vs))) (hin : vp_in x n) (hws : ws.set q0 (a, .inl (z_ct g 6, n, .inr (.inr (.inr (.inr (va_up f x.toNatClampNeg (some b))))))) = ws') (hd : decode cc pc = .ok (.aastore, 1)) (k : z_K p l e R s m args below meth c nL g A Q cells slots (pc + 1) lv st ws') : z_K p l e R s m args below meth c nL g A Q cells slots pc lv (.ref b :: .int x :: .ref a :: st) ws := by
  intro H locs ls h1 h2 h3 h4
  refine va_astq (D := g.1) (r := (RX1, TX1, 4)) X.1.1 X.1.2.1 X.2.1 h2 h3 h4 q0 6 qk 1 ha rfl hv rfl hin hd (fun H1 locs1 h2 h3 h4 => ?_)
  rw [hws] at h2 h3
  exact k H1 locs1 ls h1 h2 h3 h4
theorem z_knewI (X : z_KX p R s m args meth c cc nL own Ts rt g A) {C : String} {T : u_T} {ty0 : Nat → FieldType} {y : MethodName} {wy wy' : List Cond} {bytes : ByteArray} {N ci idx idx2 maxL d mc ms : Nat} {fs : List Value} {out : (Nat → Nat) → va_W} (hM : z_I l g y wy d mc ms ci fs out) (hc : vwCl[ci]? = some (C, T, N)) (hin : ∀ w ∈ u_ws C T N, w ∈ Ts) (hty : ∀ k, k < N → parseFieldDescriptor (T k).2.2.1 = some (ty0 k)) (hfs : ∀ j, j < N → defaultValue (ty0 j) = vp_V fs j) (hcl : Cond.classLink own idx C ∈ Ts) (hins : Cond.instantiable C N ∈ Ts) (hini : Cond.initialized C ∈ Ts) (hl : Cond.methodLink own idx2 y ∈ Ts) (hg : GoodIn Ts wy) (hw : wy = Cond.code y bytes maxL none :: wy') (hy0 : Cond.initialized y.cls ∈ Ts) (hy2 : Cond.instanceMethod y ∈ Ts) (hyn : y.name = "<init>") (hdy : y.cls ≠ "java/lang/invoke/MethodHandle" ∧ y.cls ≠ "java/lang/invoke/VarHandle" ∧ (parseMethodDescriptor y.desc).map (fun d => d.parameters.length) = some 0) (hd1 : d + 1 ≤ R.frames) (hd2 : 8 + (maxL + 11) + 40 * d ≤ R.locals) (hcc : cells + 1 + mc ≤ R.cells) (hss : slots + N + ms ≤ R.slots) (hst : (st.map fun v => v.category).sum ≤ 7) (q1 : decode cc pc = .ok (.new idx, 3)) (q2 : decode cc (pc + 3) = .ok (.dup, 1)) (q3 : decode cc (pc + 3 + 1) = .ok (.invokespecial idx2, 3)) (k : ∀ ad : Nat → Nat, z_K p l e R s m args below meth c nL g A Q (cells + 1 + mc) (slots + N + ms) (pc + 3 + 1 + 3) lv (.ref (ad 0) :: st) (ws ++ out ad)) : z_K p l e R s m args below meth c nL g A Q cells slots pc lv st ws := by
  intro H locs ls h1 h2 h3 h4
  refine va_new (D := g.1) (ci := ci) (fs := fs) (C := C) (T := T) (N := N) X.1.1 X.1.2.1 X.1.2.2.2.2 hin ty0 hty X.1.2.2.2.1 (X.1.2.2.2.2 _ hcl) (X.1.2.2.2.2 _ hins) (X.1.2.2.2.2 _ hini) X.2.1 h2 h3 h4 X.2.2.2.2.2 hc hfs (by omega) (by omega) q1 (fun q H1 h2 h3 h4 => ?_)
  refine lv_dup X.1.1 X.1.2.1 q2 rfl ?_
  have hcat : ((Value.ref q :: st).map fun v => v.category).sum ≤ 8 := by
    simp only [List.map_cons, List.sum_cons]
    show 1 + _ ≤ 8
    omega
  have hlast : (ws ++ [(q, (.inr (ci, fs) : va_E))])[ws.length]? = some (q, .inr (ci, fs)) := by simp
  have hPq : va_P g.1 vwCl [(q, .inr (ci, fs))] H1 := fun k0 x hx => by
    have hz : k0 < 1 := (List.getElem?_eq_some_iff.mp hx).1
    rw [show k0 = 0 by omega] at hx
    cases hx
    exact h2 ws.length _ hlast
  have hpre : PreS s H1 (fun a U => a = ([.ref q] : List Value).toArray ∧ U.heap.size = H1.size ∧ va_K g.1 vwCl (z_tys g) U ∧ z_KE U ∧ va_P g.1 vwCl [(q, .inr (ci, fs))] U.heap) [.ref q] :=
    ⟨fun a U g1 mk h => ⟨h.1, h.2.1, va_K.moved (u := U) (U := U.calling g1 mk a) (Vm.Alike.refl U.vm) h.2.2.1, z_KE.same (s := U) rfl h.2.2.2.1, h.2.2.2.2⟩, fun U hU hW => ⟨rfl, by rw [hU], va_K.moved hW.alike X.2.1, X.2.2.1.warm hW, by rw [hU]; exact hPq⟩⟩
  have hr : va_Run p l e R s m args below meth c H1 locs (cells + 1) (slots + N) mc ms (F0 m (pc + 3 + 1) ls (.ref q :: .ref q :: st)) (.ref q :: st) _ _ := va_runI (As := []) (rest := .ref q :: st) X.1 (hM q H1.size) (cwI 0 X.1.2.2.2.2 hg hw rfl rfl (X.1.2.2.2.2 _ hy0) (X.1.2.2.2.2 _ hl) (X.1.2.2.2.2 _ hy2) hyn hdy ⟨hd1, hd2⟩) hpre rfl rfl h1.1 rfl (lv_room hcat) q3 ⟨hcc, hss⟩
  have hqA : A q := h3.2 ws.length _ hlast
  intro T0 hT X0
  obtain ⟨v, st₀, t, T', L, g0, X', hL, e1, e2, ⟨⟨hv, ad, had, hP, hD⟩, hz, hk⟩, stp⟩ := hr T0 hT X0
  cases hv
  rw [g0] at hz hk
  have hold : ∀ (k0 : Nat) (x : Nat × va_E), ws[k0]? = some x → x.1 < H1.size ∧ x.1 ≠ q := by
    intro k0 x hx
    have hl0 : k0 < ws.length := (List.getElem?_eq_some_iff.mp hx).1
    have hx' : (ws ++ [(q, (.inr (ci, fs) : va_E))])[k0]? = some x := by rw [List.getElem?_append_left hl0]; exact hx
    refine ⟨(h2 k0 x hx').lt, fun hq => ?_⟩
    have := h3.1 k0 ws.length x (q, .inr (ci, fs)) hx' hlast hq
    omega
  have hkeep : ∀ (k0 : Nat) (x : Nat × va_E), ws[k0]? = some x → t.heap[x.1]? = H1[x.1]? := by
    intro k0 x hx
    obtain ⟨a1, a2⟩ := hold k0 x hx
    exact hk x.1 a1 (fun z => by rcases z with z | z <;> omega)
  have hPw : va_P g.1 vwCl ws H1 := fun k0 x hx => h2 k0 x (by rw [List.getElem?_append_left (List.getElem?_eq_some_iff.mp hx).1]; exact hx)
  have hDw : va_D A ws := ⟨fun i j x y hi hj hxy => h3.1 i j x y (by rw [List.getElem?_append_left (List.getElem?_eq_some_iff.mp hi).1]; exact hi) (by rw [List.getElem?_append_left (List.getElem?_eq_some_iff.mp hj).1]; exact hj) hxy, fun k0 x hx => h3.2 k0 x (by rw [List.getElem?_append_left (List.getElem?_eq_some_iff.mp hx).1]; exact hx)⟩
  have hAA : ∀ z, z_A1 q H1.size z → A z := fun z hz0 => hz0.elim (fun e0 => by rw [e0]; exact hqA) (fun e0 => X.2.2.2.2.2 z (Nat.le_trans h4.1 e0))
  obtain ⟨t2, a1, b1⟩ := k ad T'.heap (locs ++ L) ls h1 (by rw [e1]; exact (hPw.kept hkeep).app hP)
    (hDw.app (hD.weaken (fun k0 x _ hx => hAA _ hx)) (fun i j x y hx hy hxy => by
      obtain ⟨a1, a2⟩ := hold i x hx
      rcases hD.2 j y hy with z | z <;> omega))
    ⟨Nat.le_trans h4.1 (by rw [e1]; exact hz), fun z r1 r2 => by
      rw [e1, hk z (Nat.lt_of_lt_of_le r1 h4.1) (fun y => r2 (hAA z y))]
      exact h4.2.1 z r1 r2, fun z hz0 => by
      rcases List.mem_append.mp hz0 with y | y
      · exact h4.2.2 z y
      · exact hAA _ (hL z y)⟩ T' rfl X'
  rw [had] at a1
  exact ⟨t2, stp t2 a1, b1⟩
theorem z_knewIN (X : z_KX p R s m args meth c cc nL own Ts rt g A) {C : String} {T : u_T} {ty0 : Nat → FieldType} {y : MethodName} {wy wy' : List Cond} {bytes : ByteArray} {N ci idx idx2 maxL d mc ms : Nat} {fs : List Value} {out : (Nat → Nat) → va_W} (hM : z_I l g y wy d mc ms ci fs out) (hc : vwCl[ci]? = some (C, T, N)) (hin : ∀ w ∈ u_ws C T N, w ∈ Ts) (hty : ∀ k, k < N → parseFieldDescriptor (T k).2.2.1 = some (ty0 k)) (hfs : ∀ j, j < N → defaultValue (ty0 j) = vp_V fs j) (hcl : Cond.classLink own idx C ∈ Ts) (hins : Cond.instantiable C N ∈ Ts) (hini : Cond.initialized C ∈ Ts) (hl : Cond.methodLinkNest own idx2 y "LabelOrder" ∈ z_NK) (hg : GoodIn Ts wy) (hw : wy = Cond.code y bytes maxL none :: wy') (hy0 : Cond.initialized y.cls ∈ Ts) (hy2 : Cond.instanceMethod y ∈ Ts) (hyn : y.name = "<init>") (hdy : y.cls ≠ "java/lang/invoke/MethodHandle" ∧ y.cls ≠ "java/lang/invoke/VarHandle" ∧ (parseMethodDescriptor y.desc).map (fun d => d.parameters.length) = some 0) (hd1 : d + 1 ≤ R.frames) (hd2 : 8 + (maxL + 11) + 40 * d ≤ R.locals) (hcc : cells + 1 + mc ≤ R.cells) (hss : slots + N + ms ≤ R.slots) (hst : (st.map fun v => v.category).sum ≤ 7) (q1 : decode cc pc = .ok (.new idx, 3)) (q2 : decode cc (pc + 3) = .ok (.dup, 1)) (q3 : decode cc (pc + 3 + 1) = .ok (.invokespecial idx2, 3)) (k : ∀ ad : Nat → Nat, z_K p l e R s m args below meth c nL g A Q (cells + 1 + mc) (slots + N + ms) (pc + 3 + 1 + 3) lv (.ref (ad 0) :: st) (ws ++ out ad)) : z_K p l e R s m args below meth c nL g A Q cells slots pc lv st ws := by
  intro H locs ls h1 h2 h3 h4
  refine va_new (D := g.1) (ci := ci) (fs := fs) (C := C) (T := T) (N := N) X.1.1 X.1.2.1 X.1.2.2.2.2 hin ty0 hty X.1.2.2.2.1 (X.1.2.2.2.2 _ hcl) (X.1.2.2.2.2 _ hins) (X.1.2.2.2.2 _ hini) X.2.1 h2 h3 h4 X.2.2.2.2.2 hc hfs (by omega) (by omega) q1 (fun q H1 h2 h3 h4 => ?_)
  refine lv_dup X.1.1 X.1.2.1 q2 rfl ?_
  have hcat : ((Value.ref q :: st).map fun v => v.category).sum ≤ 8 := by
    simp only [List.map_cons, List.sum_cons]
    show 1 + _ ≤ 8
    omega
  have hlast : (ws ++ [(q, (.inr (ci, fs) : va_E))])[ws.length]? = some (q, .inr (ci, fs)) := by simp
  have hPq : va_P g.1 vwCl [(q, .inr (ci, fs))] H1 := fun k0 x hx => by
    have hz : k0 < 1 := (List.getElem?_eq_some_iff.mp hx).1
    rw [show k0 = 0 by omega] at hx
    cases hx
    exact h2 ws.length _ hlast
  have hpre : PreS s H1 (fun a U => a = ([.ref q] : List Value).toArray ∧ U.heap.size = H1.size ∧ va_K g.1 vwCl (z_tys g) U ∧ z_KE U ∧ va_P g.1 vwCl [(q, .inr (ci, fs))] U.heap) [.ref q] :=
    ⟨fun a U g1 mk h => ⟨h.1, h.2.1, va_K.moved (u := U) (U := U.calling g1 mk a) (Vm.Alike.refl U.vm) h.2.2.1, z_KE.same (s := U) rfl h.2.2.2.1, h.2.2.2.2⟩, fun U hU hW => ⟨rfl, by rw [hU], va_K.moved hW.alike X.2.1, X.2.2.1.warm hW, by rw [hU]; exact hPq⟩⟩
  have hr : va_Run p l e R s m args below meth c H1 locs (cells + 1) (slots + N) mc ms (F0 m (pc + 3 + 1) ls (.ref q :: .ref q :: st)) (.ref q :: st) _ _ := va_runIN (As := []) (rest := .ref q :: st) X.1 (hM q H1.size) ⟨va_cnB 0 X.1.2.2.2.2 hg hw rfl rfl (X.2.2.1.1 _ hl) (X.1.2.2.2.2 _ hy0) hdy ⟨hd1, hd2⟩, hyn, X.1.2.2.2.2 _ hy2⟩ hpre rfl rfl h1.1 rfl (lv_room hcat) q3 ⟨hcc, hss⟩
  have hqA : A q := h3.2 ws.length _ hlast
  intro T0 hT X0
  obtain ⟨v, st₀, t, T', L, g0, X', hL, e1, e2, ⟨⟨hv, ad, had, hP, hD⟩, hz, hk⟩, stp⟩ := hr T0 hT X0
  cases hv
  rw [g0] at hz hk
  have hold : ∀ (k0 : Nat) (x : Nat × va_E), ws[k0]? = some x → x.1 < H1.size ∧ x.1 ≠ q := by
    intro k0 x hx
    have hl0 : k0 < ws.length := (List.getElem?_eq_some_iff.mp hx).1
    have hx' : (ws ++ [(q, (.inr (ci, fs) : va_E))])[k0]? = some x := by rw [List.getElem?_append_left hl0]; exact hx
    refine ⟨(h2 k0 x hx').lt, fun hq => ?_⟩
    have := h3.1 k0 ws.length x (q, .inr (ci, fs)) hx' hlast hq
    omega
  have hkeep : ∀ (k0 : Nat) (x : Nat × va_E), ws[k0]? = some x → t.heap[x.1]? = H1[x.1]? := by
    intro k0 x hx
    obtain ⟨a1, a2⟩ := hold k0 x hx
    exact hk x.1 a1 (fun z => by rcases z with z | z <;> omega)
  have hPw : va_P g.1 vwCl ws H1 := fun k0 x hx => h2 k0 x (by rw [List.getElem?_append_left (List.getElem?_eq_some_iff.mp hx).1]; exact hx)
  have hDw : va_D A ws := ⟨fun i j x y hi hj hxy => h3.1 i j x y (by rw [List.getElem?_append_left (List.getElem?_eq_some_iff.mp hi).1]; exact hi) (by rw [List.getElem?_append_left (List.getElem?_eq_some_iff.mp hj).1]; exact hj) hxy, fun k0 x hx => h3.2 k0 x (by rw [List.getElem?_append_left (List.getElem?_eq_some_iff.mp hx).1]; exact hx)⟩
  have hAA : ∀ z, z_A1 q H1.size z → A z := fun z hz0 => hz0.elim (fun e0 => by rw [e0]; exact hqA) (fun e0 => X.2.2.2.2.2 z (Nat.le_trans h4.1 e0))
  obtain ⟨t2, a1, b1⟩ := k ad T'.heap (locs ++ L) ls h1 (by rw [e1]; exact (hPw.kept hkeep).app hP)
    (hDw.app (hD.weaken (fun k0 x _ hx => hAA _ hx)) (fun i j x y hx hy hxy => by
      obtain ⟨a1, a2⟩ := hold i x hx
      rcases hD.2 j y hy with z | z <;> omega))
    ⟨Nat.le_trans h4.1 (by rw [e1]; exact hz), fun z r1 r2 => by
      rw [e1, hk z (Nat.lt_of_lt_of_le r1 h4.1) (fun y => r2 (hAA z y))]
      exact h4.2.1 z r1 r2, fun z hz0 => by
      rcases List.mem_append.mp hz0 with y | y
      · exact h4.2.2 z y
      · exact hAA _ (hL z y)⟩ T' rfl X'
  rw [had] at a1
  exact ⟨t2, stp t2 a1, b1⟩
theorem z_ksubw (is : List Nat) (ws' : va_W) (hn : va_nd is = true) (hm : is.map (fun i => ws[i]?) = ws'.map some) (k : z_K p l e R s m args below meth c nL g A Q cells slots pc lv st ws') : z_K p l e R s m args below meth c nL g A Q cells slots pc lv st ws := by
  intro H locs ls h1 h2 h3 h4
  refine k H locs ls h1 (fun k0 q hq => ?_) (h3.sub is hn hm) h4
  have e1 : (is.map (fun i => ws[i]?))[k0]? = some (some q) := by rw [hm, List.getElem?_map, hq]; rfl
  rw [List.getElem?_map] at e1
  cases hi : is[k0]? with
  | none => rw [hi] at e1; cases e1
  | some i => rw [hi] at e1; exact h2 i q (Option.some.inj e1)
end ZK
theorem z_I.mk {l : Launch} {g : z_G} {y : MethodName} {ws ws' : List Cond} {d mc ms ci : Nat} {fs : List Value} {out : (Nat → Nat) → va_W} {cc : ByteArray} {nL : Nat} (hw : ws = Cond.code y cc nL none :: ws') (hy : plainName y.cls = true) (hl : 1 ≤ nL)  (hyn : y.name = "<init>")
    (body : ∀ p e R s m args below meth c h0 sz, R = z_rk d mc ms → meth.name = "<init>" → z_KX p R s m args meth c cc nL y.cls ws none g (z_A1 h0 sz) → z_K p l e R s m args below meth c nL g (z_A1 h0 sz) (MQ below (fun _ st oc t => (oc = .returned none ∧ ∃ ad : Nat → Nat, ad 0 = h0 ∧ va_P g.1 vwCl (out ad) t.heap ∧ va_D (z_A1 h0 sz) (out ad)) ∧ va_F (z_A1 h0 sz) st t) args s mc ms (z_A1 h0 sz)) 0 0 0 [(0, .ref h0)] [] [(h0, .inr (ci, fs))]) : z_I l g y ws d mc ms ci fs out := by
  intro h0 sz
  refine Met.ofW (cc := cc) (maxL := nL) (ret := none) hy hw ?_
  intro p e s m args below meth c s₁ B hml hv
  obtain ⟨rfl, hsz, hK, hE, hP⟩ := hv
  have hown : s.vm.findClass y.cls = some m.cls := findClass_of_methodNamed B.named
  have hts := atoms_spec (ws := ws) B.pre
  have hin : meth.name = "<init>" := (name_of_methodNamed B.named B.method).1.trans hyn
  have h := body p e (z_rk d mc ms) s m ([.ref h0] : List Value).toArray below meth c h0 sz rfl hin ⟨⟨B.exec, B.bytes, hml, hown, hts⟩, hK, hE, B.returns, B.notSynchronized, fun q hq => Or.inr (by rw [← hsz]; exact hq)⟩
  have hl2 := lv_entry ([.ref h0]) (n := nL) hl
  rw [lg_entry_eq]
  refine h s.heap [] _ hl2 hP ⟨fun i j x y hi hj hxy => ?_, fun k x hx => ?_⟩ va_S.rf
  · have := (List.getElem?_eq_some_iff.mp hi).1
    have := (List.getElem?_eq_some_iff.mp hj).1
    simp at *
    omega
  · have hz : k < 1 := (List.getElem?_eq_some_iff.mp hx).1
    rw [show k = 0 by omega] at hx
    cases hx
    exact Or.inl rfl
/-- the end of a constructor -/
theorem z_I.ret {p : Program} {l : Launch} {e : Env} {R : Room} {s : State} {m : MethodId} {args : Array Value} {below : List Frame} {meth : Method} {c : Code} {cc : ByteArray} {nL : Nat} {own : String} {Ts : List Cond} {g : z_G} {h0 sz mc ms pc cells slots : Nat} {lv : List (Nat × Value)} {ws : va_W} {out : (Nat → Nat) → va_W} (X : z_KX p R s m args meth c cc nL own Ts none g (z_A1 h0 sz)) (ad : Nat → Nat) (had : ad 0 = h0) (hw : ws = out ad) (hc : cells ≤ mc) (hs : slots ≤ ms) (hd : decode cc pc = .ok (.return_, 1)) :
    z_K p l e R s m args below meth c nL g (z_A1 h0 sz) (MQ below (fun _ st oc t => (oc = .returned none ∧ ∃ ad : Nat → Nat, ad 0 = h0 ∧ va_P g.1 vwCl (out ad) t.heap ∧ va_D (z_A1 h0 sz) (out ad)) ∧ va_F (z_A1 h0 sz) st t) args s mc ms (z_A1 h0 sz)) cells slots pc lv [] ws := by
  intro H locs ls h1 h2 h3 h4
  subst hw
  refine W.widen (k := mc) (n := ms) hc hs ?_
  exact W.vret X.1.1 X.1.2.1 X.2.2.2.1 (fun t ht hW => ⟨⟨rfl, ad, had, by rw [ht]; exact h2, h3⟩, h4.F ht⟩) h4.2.2 hd X.2.2.2.2.1
