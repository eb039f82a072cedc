/-! Words of the functions that say what a method answers, and the rows that take them apart. -/
def z_F : Nat := 1099511627776
def z_lt {α β : Type} (v : α) (f : α → β) : β := f v
theorem z_ls {α β : Type} {v : α} {f : α → β} {r : β} (h : z_lt v f = r) : ∃ z, z = v ∧ f z = r := ⟨v, rfl, h⟩
def z_gd {β : Type} (b : Bool) (x : Option β) : Option β := if b = true then x else none
theorem z_gs {β : Type} {b : Bool} {x : Option β} {r : β} (h : z_gd b x = some r) : b = true ∧ x = some r := by
  cases b with
  | false => simp [z_gd] at h
  | true => exact ⟨rfl, by simpa [z_gd] using h⟩
def z_inb (x : Int32) (n : Nat) : Bool := decide (¬ (x < 0 ∨ n ≤ x.toNatClampNeg))
theorem z_inS {x : Int32} {n : Nat} (h : z_inb x n = true) : vp_in x n := by
  unfold z_inb at h
  show ¬ (x < 0 ∨ n ≤ x.toNatClampNeg)
  exact of_decide_eq_true h
theorem z_bs {α β : Type} {x : Option α} {f : α → Option β} {r : β} (h : Option.bind x f = some r) : ∃ y, x = some y ∧ f y = some r := by
  cases x with
  | none => simp at h
  | some y => exact ⟨y, rfl, h⟩
def z_b2 {α β γ : Type} (x : Option (α × β)) (f : α → β → Option γ) : Option γ := Option.bind x (fun q => f q.1 q.2)
theorem z_b2s {α β γ : Type} {x : Option (α × β)} {f : α → β → Option γ} {r : γ} (h : z_b2 x f = some r) : ∃ a b, x = some (a, b) ∧ f a b = some r := by
  obtain ⟨⟨a, b⟩, h1, h2⟩ := z_bs h
  exact ⟨a, b, h1, h2⟩
theorem z_ip {c : Prop} [Decidable c] {α : Type} {a b r : α} (hc : c) (h : (if c then a else b) = r) : a = r := by rwa [if_pos hc] at h
theorem z_in {c : Prop} [Decidable c] {α : Type} {a b r : α} (hc : ¬ c) (h : (if c then a else b) = r) : b = r := by rwa [if_neg hc] at h
def z_lp {σ τ β : Type} (b : σ → (σ → Option β) → (τ → Option β) → Option β) : Nat → σ → (τ → Option β) → Option β
  | 0, _, _ => none
  | n + 1, q, kx => b q (fun q' => z_lp b n q' kx) kx
theorem z_lp_w {σ τ β : Type} {b : σ → (σ → Option β) → (τ → Option β) → Option β} {P : σ → Prop} {E : τ → Prop} {res : β}
    (hb : ∀ (q : σ) (kb : σ → Option β) (kx : τ → Option β), (∀ q, kb q = some res → P q) → (∀ t, kx t = some res → E t) → b q kb kx = some res → P q) :
    ∀ (n : Nat) (q : σ) (kx : τ → Option β), z_lp b n q kx = some res → (∀ t, kx t = some res → E t) → P q
  | 0, _, _, h, _ => by cases h
  | n + 1, q, kx, h, hx => hb q _ kx (fun q' h' => z_lp_w hb n q' kx h' hx) hx h
theorem z_nz {v : Int32} (h : decide (v = 0 ∨ v = 1) = true) : narrow .boolean (.int v) = .int v := by
  rcases of_decide_eq_true h with rfl | rfl <;> rfl
theorem z_le1 {R : Room} {D d : Nat} (h : R = z_rm D) (hd : d + 1 ≤ D) : (z_rm d).frames + 1 ≤ R.frames := by subst h; exact hd
theorem z_le2 {R : Room} {D d maxL : Nat} (h : R = z_rm D) (hd : d + 1 ≤ D) (hm : maxL ≤ 21) : 8 + (maxL + 11) + (z_rm d).locals ≤ R.locals := by
  subst h
  show 8 + (maxL + 11) + 40 * d ≤ 40 * D
  omega
theorem z_le3 {R : Room} {D : Nat} (h : R = z_rm D) (hd : 1 ≤ D) : 1 ≤ R.frames := by subst h; exact hd
theorem z_le4 {R : Room} {D k : Nat} {st : List Value} (h : R = z_rm D) (hd : 2 ≤ D) (hs : (st.map fun v => v.category).sum ≤ 8) (hk : k ≤ 70) : (st.map fun v => v.category).sum + k ≤ R.locals := by
  subst h
  show _ ≤ 40 * D
  omega
def z_slenN (w : Nat) : Nat := z_len.getD w 0
def z_slen (w : Nat) : Int32 := nI (z_slenN w)
def z_chr (w : Nat) (x : Int32) : Int32 := ((z_byt.getD w []).getD x.toNatClampNeg 0)
def z_bitc (x : Int32) : Int32 :=
  let a := x - ((x.toUInt32 >>> ((1 : Int32).toUInt32 &&& Int32.toUInt32 31)).toInt32 &&& 1431655765)
  let b := (a &&& 858993459) + ((a.toUInt32 >>> ((2 : Int32).toUInt32 &&& Int32.toUInt32 31)).toInt32 &&& 858993459)
  let c := (b + (b.toUInt32 >>> ((4 : Int32).toUInt32 &&& Int32.toUInt32 31)).toInt32) &&& 252645135
  let d := c + (c.toUInt32 >>> ((8 : Int32).toUInt32 &&& Int32.toUInt32 31)).toInt32
  (d + (d.toUInt32 >>> ((16 : Int32).toUInt32 &&& Int32.toUInt32 31)).toInt32) &&& 63
def z_fill (u : z_M) (i n : Nat) (v : Int32) : z_M := z_sA u i (fun k => if k < n then v else u.1 i k)
section ZB
variable {p : Program} {l : Launch} {e : Env} {R : Room} {s : State} {m : MethodId} {args : Array Value} {below : List Frame} {meth : Method} {c : Code} {cc : ByteArray} {nL : Nat} {own : String} {Ts : List Cond} {rt : Option FieldType} {Q : State → Prop} {g : z_G} {sh : List z_S}
variable {pc : Nat} {lv : List (Nat × Value)} {st : List Value} {u : z_M}
theorem z_nm {w v : z_M} (hw : w = v) (k : z_V p l e R s m args below meth c nL g sh Q pc lv st w) : z_V p l e R s m args below meth c nL g sh Q pc lv st v := hw ▸ k
theorem z_ti {w v : Int32} (hw : w = v) (k : z_V p l e R s m args below meth c nL g sh Q pc lv (.int w :: st) u) : z_V p l e R s m args below meth c nL g sh Q pc lv (.int v :: st) u := hw ▸ k
theorem z_tl {w v : Int64} (hw : w = v) (k : z_V p l e R s m args below meth c nL g sh Q pc lv (.long w :: st) u) : z_V p l e R s m args below meth c nL g sh Q pc lv (.long v :: st) u := hw ▸ k
theorem z_callVi (X : z_X p R s m args meth c cc nL own Ts rt g sh) {C : String} {i ci : Nat} {sl : List (Option Nat)} {T : u_T} {N : Nat} {r : Int32} {u1 : z_M} {y : MethodName} {ws ws' : List Cond} {bytes : ByteArray} {maxL d index : Nat} {ret : Option FieldType} (As rest : List Value) (hM : z_C l g sh y ws d (.ref (z_ad g i) :: As) u (fun v u' => v = some (.int r) ∧ u' = u1)) (hi : sh[i]? = some (.inr (ci, sl))) (hc : vwCl[ci]? = some (C, T, N)) (hg : GoodIn Ts (wsV own index C y ws)) (hdy : y.cls = C ∧ y.cls ≠ "java/lang/invoke/MethodHandle" ∧ y.cls ≠ "java/lang/invoke/VarHandle" ∧ (parseMethodDescriptor y.desc).map (fun d => d.parameters.length) = some As.length) (hw : ws = Cond.code y bytes maxL ret :: ws') (hd1 : (z_rm d).frames + 1 ≤ R.frames) (hd2 : 8 + (maxL + 11) + (z_rm d).locals ≤ R.locals) (hst : (rest.map fun v => v.category).sum ≤ 8) (hd : decode cc pc = .ok (.invokevirtual index, 3)) (k : z_V p l e R s m args below meth c nL g sh Q (pc + 3) lv (.int r :: rest) u1) : z_V p l e R s m args below meth c nL g sh Q pc lv (As.reverse ++ .ref (z_ad g i) :: rest) u :=
  z_callV X As rest hM hi hc hg hdy hw hd1 hd2 hst hd (fun v u' hv => by obtain ⟨rfl, rfl⟩ := hv; exact k)
theorem z_callVl (X : z_X p R s m args meth c cc nL own Ts rt g sh) {C : String} {i ci : Nat} {sl : List (Option Nat)} {T : u_T} {N : Nat} {r : Int64} {u1 : z_M} {y : MethodName} {ws ws' : List Cond} {bytes : ByteArray} {maxL d index : Nat} {ret : Option FieldType} (As rest : List Value) (hM : z_C l g sh y ws d (.ref (z_ad g i) :: As) u (fun v u' => v = some (.long r) ∧ u' = u1)) (hi : sh[i]? = some (.inr (ci, sl))) (hc : vwCl[ci]? = some (C, T, N)) (hg : GoodIn Ts (wsV own index C y ws)) (hdy : y.cls = C ∧ y.cls ≠ "java/lang/invoke/MethodHandle" ∧ y.cls ≠ "java/lang/invoke/VarHandle" ∧ (parseMethodDescriptor y.desc).map (fun d => d.parameters.length) = some As.length) (hw : ws = Cond.code y bytes maxL ret :: ws') (hd1 : (z_rm d).frames + 1 ≤ R.frames) (hd2 : 8 + (maxL + 11) + (z_rm d).locals ≤ R.locals) (hst : (rest.map fun v => v.category).sum ≤ 8) (hd : decode cc pc = .ok (.invokevirtual index, 3)) (k : z_V p l e R s m args below meth c nL g sh Q (pc + 3) lv (.long r :: rest) u1) : z_V p l e R s m args below meth c nL g sh Q pc lv (As.reverse ++ .ref (z_ad g i) :: rest) u :=
  z_callV X As rest hM hi hc hg hdy hw hd1 hd2 hst hd (fun v u' hv => by obtain ⟨rfl, rfl⟩ := hv; exact k)
theorem z_callVv (X : z_X p R s m args meth c cc nL own Ts rt g sh) {C : String} {i ci : Nat} {sl : List (Option Nat)} {T : u_T} {N : Nat} {u1 : z_M} {y : MethodName} {ws ws' : List Cond} {bytes : ByteArray} {maxL d index : Nat} {ret : Option FieldType} (As rest : List Value) (hM : z_C l g sh y ws d (.ref (z_ad g i) :: As) u (fun v u' => v = none ∧ u' = u1)) (hi : sh[i]? = some (.inr (ci, sl))) (hc : vwCl[ci]? = some (C, T, N)) (hg : GoodIn Ts (wsV own index C y ws)) (hdy : y.cls = C ∧ y.cls ≠ "java/lang/invoke/MethodHandle" ∧ y.cls ≠ "java/lang/invoke/VarHandle" ∧ (parseMethodDescriptor y.desc).map (fun d => d.parameters.length) = some As.length) (hw : ws = Cond.code y bytes maxL ret :: ws') (hd1 : (z_rm d).frames + 1 ≤ R.frames) (hd2 : 8 + (maxL + 11) + (z_rm d).locals ≤ R.locals) (hst : (rest.map fun v => v.category).sum ≤ 8) (hd : decode cc pc = .ok (.invokevirtual index, 3)) (k : z_V p l e R s m args below meth c nL g sh Q (pc + 3) lv (rest) u1) : z_V p l e R s m args below meth c nL g sh Q pc lv (As.reverse ++ .ref (z_ad g i) :: rest) u :=
  z_callV X As rest hM hi hc hg hdy hw hd1 hd2 hst hd (fun v u' hv => by obtain ⟨rfl, rfl⟩ := hv; exact k)
theorem z_callSi (X : z_X p R s m args meth c cc nL own Ts rt g sh) {r : Int32} {u1 : z_M} {y : MethodName} {ws ws' : List Cond} {bytes : ByteArray} {maxL d index : Nat} {ret : Option FieldType} (As rest : List Value) (hM : z_C l g sh y ws d (As) u (fun v u' => v = some (.int r) ∧ u' = u1)) (hg : GoodIn Ts (va_wsS own index y ws)) (hdy : y.cls ≠ "java/lang/invoke/MethodHandle" ∧ y.cls ≠ "java/lang/invoke/VarHandle" ∧ (parseMethodDescriptor y.desc).map (fun d => d.parameters.length) = some As.length) (hw : ws = Cond.code y bytes maxL ret :: ws') (hd1 : (z_rm d).frames + 1 ≤ R.frames) (hd2 : 8 + (maxL + 11) + (z_rm d).locals ≤ R.locals) (hst : (rest.map fun v => v.category).sum ≤ 8) (hd : decode cc pc = .ok (.invokestatic index, 3)) (k : z_V p l e R s m args below meth c nL g sh Q (pc + 3) lv (.int r :: rest) u1) : z_V p l e R s m args below meth c nL g sh Q pc lv (As.reverse ++ rest) u :=
  z_callS X As rest hM hg hdy hw hd1 hd2 hst hd (fun v u' hv => by obtain ⟨rfl, rfl⟩ := hv; exact k)
theorem z_callSl (X : z_X p R s m args meth c cc nL own Ts rt g sh) {r : Int64} {u1 : z_M} {y : MethodName} {ws ws' : List Cond} {bytes : ByteArray} {maxL d index : Nat} {ret : Option FieldType} (As rest : List Value) (hM : z_C l g sh y ws d (As) u (fun v u' => v = some (.long r) ∧ u' = u1)) (hg : GoodIn Ts (va_wsS own index y ws)) (hdy : y.cls ≠ "java/lang/invoke/MethodHandle" ∧ y.cls ≠ "java/lang/invoke/VarHandle" ∧ (parseMethodDescriptor y.desc).map (fun d => d.parameters.length) = some As.length) (hw : ws = Cond.code y bytes maxL ret :: ws') (hd1 : (z_rm d).frames + 1 ≤ R.frames) (hd2 : 8 + (maxL + 11) + (z_rm d).locals ≤ R.locals) (hst : (rest.map fun v => v.category).sum ≤ 8) (hd : decode cc pc = .ok (.invokestatic index, 3)) (k : z_V p l e R s m args below meth c nL g sh Q (pc + 3) lv (.long r :: rest) u1) : z_V p l e R s m args below meth c nL g sh Q pc lv (As.reverse ++ rest) u :=
  z_callS X As rest hM hg hdy hw hd1 hd2 hst hd (fun v u' hv => by obtain ⟨rfl, rfl⟩ := hv; exact k)
theorem z_callSv (X : z_X p R s m args meth c cc nL own Ts rt g sh) {u1 : z_M} {y : MethodName} {ws ws' : List Cond} {bytes : ByteArray} {maxL d index : Nat} {ret : Option FieldType} (As rest : List Value) (hM : z_C l g sh y ws d (As) u (fun v u' => v = none ∧ u' = u1)) (hg : GoodIn Ts (va_wsS own index y ws)) (hdy : y.cls ≠ "java/lang/invoke/MethodHandle" ∧ y.cls ≠ "java/lang/invoke/VarHandle" ∧ (parseMethodDescriptor y.desc).map (fun d => d.parameters.length) = some As.length) (hw : ws = Cond.code y bytes maxL ret :: ws') (hd1 : (z_rm d).frames + 1 ≤ R.frames) (hd2 : 8 + (maxL + 11) + (z_rm d).locals ≤ R.locals) (hst : (rest.map fun v => v.category).sum ≤ 8) (hd : decode cc pc = .ok (.invokestatic index, 3)) (k : z_V p l e R s m args below meth c nL g sh Q (pc + 3) lv (rest) u1) : z_V p l e R s m args below meth c nL g sh Q pc lv (As.reverse ++ rest) u :=
  z_callS X As rest hM hg hdy hw hd1 hd2 hst hd (fun v u' hv => by obtain ⟨rfl, rfl⟩ := hv; exact k)
theorem z_callNi (X : z_X p R s m args meth c cc nL own Ts rt g sh) {host : String} {r : Int32} {u1 : z_M} {y : MethodName} {ws ws' : List Cond} {bytes : ByteArray} {maxL d index : Nat} {ret : Option FieldType} (As rest : List Value) (hM : z_C l g sh y ws d (As) u (fun v u' => v = some (.int r) ∧ u' = u1)) (hg : GoodIn Ts ws) (hn : (Cond.methodLinkNest own index y host) ∈ z_N) (hini : (Cond.initialized y.cls) ∈ Ts) (hsta : (Cond.static y) ∈ Ts) (hdy : y.cls ≠ "java/lang/invoke/MethodHandle" ∧ y.cls ≠ "java/lang/invoke/VarHandle" ∧ (parseMethodDescriptor y.desc).map (fun d => d.parameters.length) = some As.length) (hw : ws = Cond.code y bytes maxL ret :: ws') (hd1 : (z_rm d).frames + 1 ≤ R.frames) (hd2 : 8 + (maxL + 11) + (z_rm d).locals ≤ R.locals) (hst : (rest.map fun v => v.category).sum ≤ 8) (hd : decode cc pc = .ok (.invokestatic index, 3)) (k : z_V p l e R s m args below meth c nL g sh Q (pc + 3) lv (.int r :: rest) u1) : z_V p l e R s m args below meth c nL g sh Q pc lv (As.reverse ++ rest) u :=
  z_callN X As rest hM hg hn hini hsta hdy hw hd1 hd2 hst hd (fun v u' hv => by obtain ⟨rfl, rfl⟩ := hv; exact k)
theorem z_callNl (X : z_X p R s m args meth c cc nL own Ts rt g sh) {host : String} {r : Int64} {u1 : z_M} {y : MethodName} {ws ws' : List Cond} {bytes : ByteArray} {maxL d index : Nat} {ret : Option FieldType} (As rest : List Value) (hM : z_C l g sh y ws d (As) u (fun v u' => v = some (.long r) ∧ u' = u1)) (hg : GoodIn Ts ws) (hn : (Cond.methodLinkNest own index y host) ∈ z_N) (hini : (Cond.initialized y.cls) ∈ Ts) (hsta : (Cond.static y) ∈ Ts) (hdy : y.cls ≠ "java/lang/invoke/MethodHandle" ∧ y.cls ≠ "java/lang/invoke/VarHandle" ∧ (parseMethodDescriptor y.desc).map (fun d => d.parameters.length) = some As.length) (hw : ws = Cond.code y bytes maxL ret :: ws') (hd1 : (z_rm d).frames + 1 ≤ R.frames) (hd2 : 8 + (maxL + 11) + (z_rm d).locals ≤ R.locals) (hst : (rest.map fun v => v.category).sum ≤ 8) (hd : decode cc pc = .ok (.invokestatic index, 3)) (k : z_V p l e R s m args below meth c nL g sh Q (pc + 3) lv (.long r :: rest) u1) : z_V p l e R s m args below meth c nL g sh Q pc lv (As.reverse ++ rest) u :=
  z_callN X As rest hM hg hn hini hsta hdy hw hd1 hd2 hst hd (fun v u' hv => by obtain ⟨rfl, rfl⟩ := hv; exact k)
theorem z_callNv (X : z_X p R s m args meth c cc nL own Ts rt g sh) {host : String} {u1 : z_M} {y : MethodName} {ws ws' : List Cond} {bytes : ByteArray} {maxL d index : Nat} {ret : Option FieldType} (As rest : List Value) (hM : z_C l g sh y ws d (As) u (fun v u' => v = none ∧ u' = u1)) (hg : GoodIn Ts ws) (hn : (Cond.methodLinkNest own index y host) ∈ z_N) (hini : (Cond.initialized y.cls) ∈ Ts) (hsta : (Cond.static y) ∈ Ts) (hdy : y.cls ≠ "java/lang/invoke/MethodHandle" ∧ y.cls ≠ "java/lang/invoke/VarHandle" ∧ (parseMethodDescriptor y.desc).map (fun d => d.parameters.length) = some As.length) (hw : ws = Cond.code y bytes maxL ret :: ws') (hd1 : (z_rm d).frames + 1 ≤ R.frames) (hd2 : 8 + (maxL + 11) + (z_rm d).locals ≤ R.locals) (hst : (rest.map fun v => v.category).sum ≤ 8) (hd : decode cc pc = .ok (.invokestatic index, 3)) (k : z_V p l e R s m args below meth c nL g sh Q (pc + 3) lv (rest) u1) : z_V p l e R s m args below meth c nL g sh Q pc lv (As.reverse ++ rest) u :=
  z_callN X As rest hM hg hn hini hsta hdy hw hd1 hd2 hst hd (fun v u' hv => by obtain ⟨rfl, rfl⟩ := hv; exact k)
theorem z_mmax (X : z_X p R s m args meth c cc nL own Ts rt g sh) {index : Nat} {x y : Int32} (q1 : Cond.methodLink own index Lib.Math.max.name ∈ Ts) (q2 : Cond.static Lib.Math.max.name ∈ Ts) (q3 : Cond.initialized "java/lang/Math" ∈ Ts) (q4 : Cond.code Lib.Math.max.name Lib.Math.max.code 2 (some .int) ∈ Ts) (hf : 1 ≤ R.frames) (hlo : (st.map fun v => v.category).sum + 13 ≤ R.locals) (hd : decode cc pc = .ok (.invokestatic index, 3)) (k : z_V p l e R s m args below meth c nL g sh Q (pc + 3) lv (.int (if x < y then y else x) :: st) u) : z_V p l e R s m args below meth c nL g sh Q pc lv (.int y :: .int x :: st) u :=
  fun H locs ls h1 h2 h3 h4 => va_mmax X.1.1 X.1.2.1 (X.1.2.2.1.trans h1.1.symm) X.1.2.2.2.1 (X.1.2.2.2.2 _ q1) (X.1.2.2.2.2 _ q2) (X.1.2.2.2.2 _ q3) (X.1.2.2.2.2 _ q4) hf hlo (Nat.zero_le _) (Nat.zero_le _) hd (k H locs ls h1 h2 h3 h4)
theorem z_mmin (X : z_X p R s m args meth c cc nL own Ts rt g sh) {index : Nat} {x y : Int32} (q1 : Cond.methodLink own index Lib.Math.min.name ∈ Ts) (q2 : Cond.static Lib.Math.min.name ∈ Ts) (q3 : Cond.initialized "java/lang/Math" ∈ Ts) (q4 : Cond.code Lib.Math.min.name Lib.Math.min.code 2 (some .int) ∈ Ts) (hf : 1 ≤ R.frames) (hlo : (st.map fun v => v.category).sum + 13 ≤ R.locals) (hd : decode cc pc = .ok (.invokestatic index, 3)) (k : z_V p l e R s m args below meth c nL g sh Q (pc + 3) lv (.int (if y < x then y else x) :: st) u) : z_V p l e R s m args below meth c nL g sh Q pc lv (.int y :: .int x :: st) u :=
  fun H locs ls h1 h2 h3 h4 => va_mmin X.1.1 X.1.2.1 (X.1.2.2.1.trans h1.1.symm) X.1.2.2.2.1 (X.1.2.2.2.2 _ q1) (X.1.2.2.2.2 _ q2) (X.1.2.2.2.2 _ q3) (X.1.2.2.2.2 _ q4) hf hlo (Nat.zero_le _) (Nat.zero_le _) hd (k H locs ls h1 h2 h3 h4)
theorem z_mabs (X : z_X p R s m args meth c cc nL own Ts rt g sh) {index : Nat} {x : Int32} (q1 : Cond.methodLink own index Lib.Math.abs.name ∈ Ts) (q2 : Cond.static Lib.Math.abs.name ∈ Ts) (q3 : Cond.initialized "java/lang/Math" ∈ Ts) (q4 : Cond.code Lib.Math.abs.name Lib.Math.abs.code 1 (some .int) ∈ Ts) (hf : 1 ≤ R.frames) (hlo : (st.map fun v => v.category).sum + 13 ≤ R.locals) (hd : decode cc pc = .ok (.invokestatic index, 3)) (k : z_V p l e R s m args below meth c nL g sh Q (pc + 3) lv (.int (if 0 ≤ x then x else 0 - x) :: st) u) : z_V p l e R s m args below meth c nL g sh Q pc lv (.int x :: st) u :=
  fun H locs ls h1 h2 h3 h4 => va_mabs X.1.1 X.1.2.1 (X.1.2.2.1.trans h1.1.symm) X.1.2.2.2.1 (X.1.2.2.2.2 _ q1) (X.1.2.2.2.2 _ q2) (X.1.2.2.2.2 _ q3) (X.1.2.2.2.2 _ q4) hf hlo (Nat.zero_le _) (Nat.zero_le _) hd (k H locs ls h1 h2 h3 h4)
theorem z_copy (X : z_X p R s m args meth c cc nL own Ts rt g sh) {index i j n : Nat} {nn : Int32} (q1 : Cond.methodLink own index arraycopyName ∈ Ts) (q2 : Cond.native arraycopyName ∈ Ts) (q3 : Cond.static arraycopyName ∈ Ts) (q4 : Cond.initialized "java/lang/System" ∈ Ts) (hi : sh[i]? = some (.inl (0, n, none))) (hj : sh[j]? = some (.inl (0, n, none))) (hn0 : ¬ nn < 0) (hn : nn.toNatClampNeg = n) (hf : 1 ≤ R.frames) (hlo : (st.map fun v => v.category).sum + (nativeFrameWords "java/lang/System" "arraycopy" 5 + 11) ≤ R.locals) (hd : decode cc pc = .ok (.invokestatic index, 3)) (k : z_V p l e R s m args below meth c nL g sh Q (pc + 3) lv st (z_sA u j (va_cpy (u.1 i) (u.1 j) 0 0 n))) : z_V p l e R s m args below meth c nL g sh Q pc lv (.int nn :: .int 0 :: .ref (z_ad g j) :: .int 0 :: .ref (z_ad g i) :: st) u := by
  intro H locs ls h1 h2 h3 h4
  have e0 : (0 : Int32).toNatClampNeg = 0 := by decide
  refine va_copyi (D := g.1) (ty := .int) X.1.1 X.1.2.1 (X.1.2.2.1.trans h1.1.symm) X.1.2.2.2.1 (X.1.2.2.2.2 _ q1) (X.1.2.2.2.2 _ q2) (X.1.2.2.2.2 _ q3) (X.1.2.2.2.2 _ q4) X.2.1 h2 h3 h4 i j 0 0 (z_wd_get hi) (z_wd_get hj) rfl rfl rfl (by decide) (by decide) hn0 (by rw [hn, e0]; omega) (by rw [hn, e0]; omega) (fun _ _ => rfl) hf hlo hd (fun H1 locs1 h2 h3 h4 => ?_)
  rw [hn, e0] at h2 h3
  have e : (z_wd g sh u).set j (z_ad g j, .inl (z_ct g 0, n, .inl (va_cpy (u.1 i) (u.1 j) 0 0 n))) = z_wd g sh (z_sA u j (va_cpy (u.1 i) (u.1 j) 0 0 n)) := by
    rw [← z_wd_set (u := u) (v := z_sA u j (va_cpy (u.1 i) (u.1 j) 0 0 n)) hj (fun q hq => z_sA_ne hq) (fun q _ => rfl)]
    simp [z_ce, z_sA_eq]
  rw [show (z_wd g sh u).set j _ = _ from e] at h2 h3
  exact k H1 locs1 ls h1 h2 h3 h4
theorem z_ldcS0_RX7 (X : z_X p R s m args meth c cc nL RX7 Ts rt g sh) (hd : decode cc pc = .ok (.ldc 113, 2)) (k : z_V p l e R s m args below meth c nL g sh Q (pc + 2) lv (.ref (g.2.2.2.1 0) :: st) u) : z_V p l e R s m args below meth c nL g sh Q pc lv st u :=
  fun H locs ls h1 h2 h3 h4 => va_ldcS X.1.1 X.1.2.1 X.1.2.2.2.1 X.2.2.1.2.2.2.2.1 hd (k H locs ls h1 h2 h3 h4)
theorem z_ldcS1_RX7 (X : z_X p R s m args meth c cc nL RX7 Ts rt g sh) (hd : decode cc pc = .ok (.ldc 119, 2)) (k : z_V p l e R s m args below meth c nL g sh Q (pc + 2) lv (.ref (g.2.2.2.1 1) :: st) u) : z_V p l e R s m args below meth c nL g sh Q pc lv st u :=
  fun H locs ls h1 h2 h3 h4 => va_ldcS X.1.1 X.1.2.1 X.1.2.2.2.1 X.2.2.1.2.2.2.2.2.1 hd (k H locs ls h1 h2 h3 h4)
theorem z_ldcS2_RX7 (X : z_X p R s m args meth c cc nL RX7 Ts rt g sh) (hd : decode cc pc = .ok (.ldc 121, 2)) (k : z_V p l e R s m args below meth c nL g sh Q (pc + 2) lv (.ref (g.2.2.2.1 2) :: st) u) : z_V p l e R s m args below meth c nL g sh Q pc lv st u :=
  fun H locs ls h1 h2 h3 h4 => va_ldcS X.1.1 X.1.2.1 X.1.2.2.2.1 X.2.2.1.2.2.2.2.2.2.1 hd (k H locs ls h1 h2 h3 h4)
theorem z_ldcS0_RX10 (X : z_X p R s m args meth c cc nL RX10 Ts rt g sh) (hd : decode cc pc = .ok (.ldc 171, 2)) (k : z_V p l e R s m args below meth c nL g sh Q (pc + 2) lv (.ref (g.2.2.2.1 0) :: st) u) : z_V p l e R s m args below meth c nL g sh Q pc lv st u :=
  fun H locs ls h1 h2 h3 h4 => va_ldcS X.1.1 X.1.2.1 X.1.2.2.2.1 X.2.2.1.2.2.2.2.2.2.2.1 hd (k H locs ls h1 h2 h3 h4)
theorem z_ldcS1_RX10 (X : z_X p R s m args meth c cc nL RX10 Ts rt g sh) (hd : decode cc pc = .ok (.ldc 173, 2)) (k : z_V p l e R s m args below meth c nL g sh Q (pc + 2) lv (.ref (g.2.2.2.1 1) :: st) u) : z_V p l e R s m args below meth c nL g sh Q pc lv st u :=
  fun H locs ls h1 h2 h3 h4 => va_ldcS X.1.1 X.1.2.1 X.1.2.2.2.1 X.2.2.1.2.2.2.2.2.2.2.2.1 hd (k H locs ls h1 h2 h3 h4)
theorem z_ldcS2_RX10 (X : z_X p R s m args meth c cc nL RX10 Ts rt g sh) (hd : decode cc pc = .ok (.ldc 175, 2)) (k : z_V p l e R s m args below meth c nL g sh Q (pc + 2) lv (.ref (g.2.2.2.1 2) :: st) u) : z_V p l e R s m args below meth c nL g sh Q pc lv st u :=
  fun H locs ls h1 h2 h3 h4 => va_ldcS X.1.1 X.1.2.1 X.1.2.2.2.1 X.2.2.1.2.2.2.2.2.2.2.2.2 hd (k H locs ls h1 h2 h3 h4)
end ZB
