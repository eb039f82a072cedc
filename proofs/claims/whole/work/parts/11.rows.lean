section ZR
variable {p : Program} {l : Launch} {e : Env} {R : Room} {s : State} {m : MethodId} {args : Array Value} {below : List Frame} {meth : Method} {c : Code} {cc : ByteArray} {nL : Nat} {own : String} {Ts : List Cond} {rt : Option FieldType} {Q : State → Prop} {g : z_G} {sh : List z_S}
variable {pc : Nat} {lv : List (Nat × Value)} {st : List Value} {u : z_M}
theorem z_iconst (X : z_X p R s m args meth c cc nL own Ts rt g sh) {n : Int} {v : Int32} (hd : decode cc pc = .ok (.iconst n, 1)) (hv : Int32.ofInt n = v) (k : z_V p l e R s m args below meth c nL g sh Q (pc + 1) lv (.int v :: st) u) : z_V p l e R s m args below meth c nL g sh Q pc lv (st) u :=
  fun H locs ls h1 h2 h3 h4 => lv_iconst X.1.1 X.1.2.1 hd hv (k H locs ls h1 h2 h3 h4)
theorem z_bipush (X : z_X p R s m args meth c cc nL own Ts rt g sh) {n : Int} {v : Int32} (hd : decode cc pc = .ok (.bipush n, 2)) (hv : (Int8.ofInt n).toInt32 = v) (k : z_V p l e R s m args below meth c nL g sh Q (pc + 2) lv (.int v :: st) u) : z_V p l e R s m args below meth c nL g sh Q pc lv (st) u :=
  fun H locs ls h1 h2 h3 h4 => lv_bipush X.1.1 X.1.2.1 hd hv (k H locs ls h1 h2 h3 h4)
theorem z_sipush (X : z_X p R s m args meth c cc nL own Ts rt g sh) {n : Int} {v : Int32} (hd : decode cc pc = .ok (.sipush n, 3)) (hv : (Int16.ofInt n).toInt32 = v) (k : z_V p l e R s m args below meth c nL g sh Q (pc + 3) lv (.int v :: st) u) : z_V p l e R s m args below meth c nL g sh Q pc lv (st) u :=
  fun H locs ls h1 h2 h3 h4 => lv_sipush X.1.1 X.1.2.1 hd hv (k H locs ls h1 h2 h3 h4)
theorem z_lconst (X : z_X p R s m args meth c cc nL own Ts rt g sh) {n : Fin 2} {v : Int64} (hd : decode cc pc = .ok (.lconst n, 1)) (hv : Int64.ofNat (n : Nat) = v) (k : z_V p l e R s m args below meth c nL g sh Q (pc + 1) lv (.long v :: st) u) : z_V p l e R s m args below meth c nL g sh Q pc lv (st) u :=
  fun H locs ls h1 h2 h3 h4 => lv_lconst X.1.1 X.1.2.1 hd hv (k H locs ls h1 h2 h3 h4)
theorem z_iload_n (X : z_X p R s m args meth c cc nL own Ts rt g sh) {k0 : Fin 4} {i : Nat} {x : Int32} (j : Nat) (hd : decode cc pc = .ok (.iload_n k0, 1)) (hi : (k0 : Nat) = i) (hl : lv[j]? = some (i, .int x)) (k : z_V p l e R s m args below meth c nL g sh Q (pc + 1) lv (.int x :: st) u) : z_V p l e R s m args below meth c nL g sh Q pc lv (st) u :=
  fun H locs ls h1 h2 h3 h4 => lv_iload_n X.1.1 X.1.2.1 hd hi (lv_at h1 j hl) (k H locs ls h1 h2 h3 h4)
theorem z_iload (X : z_X p R s m args meth c cc nL own Ts rt g sh) {i : Nat} {x : Int32} (j : Nat) (hd : decode cc pc = .ok (.iload i, 2)) (hl : lv[j]? = some (i, .int x)) (k : z_V p l e R s m args below meth c nL g sh Q (pc + 2) lv (.int x :: st) u) : z_V p l e R s m args below meth c nL g sh Q pc lv (st) u :=
  fun H locs ls h1 h2 h3 h4 => lv_iload X.1.1 X.1.2.1 hd (lv_at h1 j hl) (k H locs ls h1 h2 h3 h4)
theorem z_istore_n (X : z_X p R s m args meth c cc nL own Ts rt g sh) {k0 : Fin 4} {i : Nat} {x : Int32} (lv' : List (Nat × Value)) (hd : decode cc pc = .ok (.istore_n k0, 1)) (hi : (k0 : Nat) = i) (hn : i < nL) (hl : (i, Value.int x) :: lv.filter (fun q => !(q.1 == i) && !(q.1 + 1 == i && q.2.category == 2)) = lv') (k : z_V p l e R s m args below meth c nL g sh Q (pc + 1) lv' st u) : z_V p l e R s m args below meth c nL g sh Q pc lv (.int x :: st) u :=
  fun H locs ls h1 h2 h3 h4 => lv_istore_n X.1.1 X.1.2.1 hd hi h1 hn hl (fun ls' h1 => k H locs ls' h1 h2 h3 h4)
theorem z_istore (X : z_X p R s m args meth c cc nL own Ts rt g sh) {i : Nat} {x : Int32} (lv' : List (Nat × Value)) (hd : decode cc pc = .ok (.istore i, 2)) (hn : i < nL) (hl : (i, Value.int x) :: lv.filter (fun q => !(q.1 == i) && !(q.1 + 1 == i && q.2.category == 2)) = lv') (k : z_V p l e R s m args below meth c nL g sh Q (pc + 2) lv' st u) : z_V p l e R s m args below meth c nL g sh Q pc lv (.int x :: st) u :=
  fun H locs ls h1 h2 h3 h4 => lv_istore X.1.1 X.1.2.1 hd h1 hn hl (fun ls' h1 => k H locs ls' h1 h2 h3 h4)
theorem z_lload_n (X : z_X p R s m args meth c cc nL own Ts rt g sh) {k0 : Fin 4} {i : Nat} {x : Int64} (j : Nat) (hd : decode cc pc = .ok (.lload_n k0, 1)) (hi : (k0 : Nat) = i) (hl : lv[j]? = some (i, .long x)) (k : z_V p l e R s m args below meth c nL g sh Q (pc + 1) lv (.long x :: st) u) : z_V p l e R s m args below meth c nL g sh Q pc lv (st) u :=
  fun H locs ls h1 h2 h3 h4 => lv_lload_n X.1.1 X.1.2.1 hd hi (lv_at h1 j hl) (k H locs ls h1 h2 h3 h4)
theorem z_lload (X : z_X p R s m args meth c cc nL own Ts rt g sh) {i : Nat} {x : Int64} (j : Nat) (hd : decode cc pc = .ok (.lload i, 2)) (hl : lv[j]? = some (i, .long x)) (k : z_V p l e R s m args below meth c nL g sh Q (pc + 2) lv (.long x :: st) u) : z_V p l e R s m args below meth c nL g sh Q pc lv (st) u :=
  fun H locs ls h1 h2 h3 h4 => lv_lload X.1.1 X.1.2.1 hd (lv_at h1 j hl) (k H locs ls h1 h2 h3 h4)
theorem z_lstore_n (X : z_X p R s m args meth c cc nL own Ts rt g sh) {k0 : Fin 4} {i : Nat} {x : Int64} (lv' : List (Nat × Value)) (hd : decode cc pc = .ok (.lstore_n k0, 1)) (hi : (k0 : Nat) = i) (hn : i + 1 < nL) (hl : (i, Value.long x) :: lv.filter (fun q => !(q.1 == i) && (!(q.1 == i + 1) && !(q.1 + 1 == i && q.2.category == 2))) = lv') (k : z_V p l e R s m args below meth c nL g sh Q (pc + 1) lv' st u) : z_V p l e R s m args below meth c nL g sh Q pc lv (.long x :: st) u :=
  fun H locs ls h1 h2 h3 h4 => lv_lstore_n X.1.1 X.1.2.1 hd hi h1 hn hl (fun ls' h1 => k H locs ls' h1 h2 h3 h4)
theorem z_lstore (X : z_X p R s m args meth c cc nL own Ts rt g sh) {i : Nat} {x : Int64} (lv' : List (Nat × Value)) (hd : decode cc pc = .ok (.lstore i, 2)) (hn : i + 1 < nL) (hl : (i, Value.long x) :: lv.filter (fun q => !(q.1 == i) && (!(q.1 == i + 1) && !(q.1 + 1 == i && q.2.category == 2))) = lv') (k : z_V p l e R s m args below meth c nL g sh Q (pc + 2) lv' st u) : z_V p l e R s m args below meth c nL g sh Q pc lv (.long x :: st) u :=
  fun H locs ls h1 h2 h3 h4 => lv_lstore X.1.1 X.1.2.1 hd h1 hn hl (fun ls' h1 => k H locs ls' h1 h2 h3 h4)
theorem z_aload_n (X : z_X p R s m args meth c cc nL own Ts rt g sh) {k0 : Fin 4} {i : Nat} {x : Nat} (j : Nat) (hd : decode cc pc = .ok (.aload_n k0, 1)) (hi : (k0 : Nat) = i) (hl : lv[j]? = some (i, .ref x)) (k : z_V p l e R s m args below meth c nL g sh Q (pc + 1) lv (.ref x :: st) u) : z_V p l e R s m args below meth c nL g sh Q pc lv (st) u :=
  fun H locs ls h1 h2 h3 h4 => lv_aload_n X.1.1 X.1.2.1 hd hi (lv_at h1 j hl) (k H locs ls h1 h2 h3 h4)
theorem z_aload (X : z_X p R s m args meth c cc nL own Ts rt g sh) {i : Nat} {x : Nat} (j : Nat) (hd : decode cc pc = .ok (.aload i, 2)) (hl : lv[j]? = some (i, .ref x)) (k : z_V p l e R s m args below meth c nL g sh Q (pc + 2) lv (.ref x :: st) u) : z_V p l e R s m args below meth c nL g sh Q pc lv (st) u :=
  fun H locs ls h1 h2 h3 h4 => lv_aload X.1.1 X.1.2.1 hd (lv_at h1 j hl) (k H locs ls h1 h2 h3 h4)
theorem z_astore_n (X : z_X p R s m args meth c cc nL own Ts rt g sh) {k0 : Fin 4} {i : Nat} {x : Nat} (lv' : List (Nat × Value)) (hd : decode cc pc = .ok (.astore_n k0, 1)) (hi : (k0 : Nat) = i) (hn : i < nL) (hl : (i, Value.ref x) :: lv.filter (fun q => !(q.1 == i) && !(q.1 + 1 == i && q.2.category == 2)) = lv') (k : z_V p l e R s m args below meth c nL g sh Q (pc + 1) lv' st u) : z_V p l e R s m args below meth c nL g sh Q pc lv (.ref x :: st) u :=
  fun H locs ls h1 h2 h3 h4 => lv_astore_n X.1.1 X.1.2.1 hd hi h1 hn hl (fun ls' h1 => k H locs ls' h1 h2 h3 h4)
theorem z_astore (X : z_X p R s m args meth c cc nL own Ts rt g sh) {i : Nat} {x : Nat} (lv' : List (Nat × Value)) (hd : decode cc pc = .ok (.astore i, 2)) (hn : i < nL) (hl : (i, Value.ref x) :: lv.filter (fun q => !(q.1 == i) && !(q.1 + 1 == i && q.2.category == 2)) = lv') (k : z_V p l e R s m args below meth c nL g sh Q (pc + 2) lv' st u) : z_V p l e R s m args below meth c nL g sh Q pc lv (.ref x :: st) u :=
  fun H locs ls h1 h2 h3 h4 => lv_astore X.1.1 X.1.2.1 hd h1 hn hl (fun ls' h1 => k H locs ls' h1 h2 h3 h4)
theorem z_iinc (X : z_X p R s m args meth c cc nL own Ts rt g sh) {i : Nat} {n : Int} {x v : Int32} (j : Nat) (lv' : List (Nat × Value)) (hd : decode cc pc = .ok (.iinc i n, 3)) (hk : lv[j]? = some (i, .int x)) (hv : x + Int32.ofInt n = v) (hn : i < nL) (hl : (i, Value.int v) :: lv.filter (fun q => !(q.1 == i) && !(q.1 + 1 == i && q.2.category == 2)) = lv') (k : z_V p l e R s m args below meth c nL g sh Q (pc + 3) lv' st u) : z_V p l e R s m args below meth c nL g sh Q pc lv st u :=
  fun H locs ls h1 h2 h3 h4 => lv_iinc X.1.1 X.1.2.1 hd h1 hk hv hn hl (fun ls' h1 => k H locs ls' h1 h2 h3 h4)
theorem z_iadd (X : z_X p R s m args meth c cc nL own Ts rt g sh) {x y : Int32} (hd : decode cc pc = .ok (.iadd, 1)) (k : z_V p l e R s m args below meth c nL g sh Q (pc + 1) lv (.int (x + y) :: st) u) : z_V p l e R s m args below meth c nL g sh Q pc lv (.int y :: .int x :: st) u :=
  fun H locs ls h1 h2 h3 h4 => lv_iadd X.1.1 X.1.2.1 hd (k H locs ls h1 h2 h3 h4)
theorem z_isub (X : z_X p R s m args meth c cc nL own Ts rt g sh) {x y : Int32} (hd : decode cc pc = .ok (.isub, 1)) (k : z_V p l e R s m args below meth c nL g sh Q (pc + 1) lv (.int (x - y) :: st) u) : z_V p l e R s m args below meth c nL g sh Q pc lv (.int y :: .int x :: st) u :=
  fun H locs ls h1 h2 h3 h4 => lv_isub X.1.1 X.1.2.1 hd (k H locs ls h1 h2 h3 h4)
theorem z_imul (X : z_X p R s m args meth c cc nL own Ts rt g sh) {x y : Int32} (hd : decode cc pc = .ok (.imul, 1)) (k : z_V p l e R s m args below meth c nL g sh Q (pc + 1) lv (.int (x * y) :: st) u) : z_V p l e R s m args below meth c nL g sh Q pc lv (.int y :: .int x :: st) u :=
  fun H locs ls h1 h2 h3 h4 => lv_imul X.1.1 X.1.2.1 hd (k H locs ls h1 h2 h3 h4)
theorem z_iand (X : z_X p R s m args meth c cc nL own Ts rt g sh) {x y : Int32} (hd : decode cc pc = .ok (.iand, 1)) (k : z_V p l e R s m args below meth c nL g sh Q (pc + 1) lv (.int (x &&& y) :: st) u) : z_V p l e R s m args below meth c nL g sh Q pc lv (.int y :: .int x :: st) u :=
  fun H locs ls h1 h2 h3 h4 => lv_iand X.1.1 X.1.2.1 hd (k H locs ls h1 h2 h3 h4)
theorem z_ior (X : z_X p R s m args meth c cc nL own Ts rt g sh) {x y : Int32} (hd : decode cc pc = .ok (.ior, 1)) (k : z_V p l e R s m args below meth c nL g sh Q (pc + 1) lv (.int (x ||| y) :: st) u) : z_V p l e R s m args below meth c nL g sh Q pc lv (.int y :: .int x :: st) u :=
  fun H locs ls h1 h2 h3 h4 => lv_ior X.1.1 X.1.2.1 hd (k H locs ls h1 h2 h3 h4)
theorem z_ixor (X : z_X p R s m args meth c cc nL own Ts rt g sh) {x y : Int32} (hd : decode cc pc = .ok (.ixor, 1)) (k : z_V p l e R s m args below meth c nL g sh Q (pc + 1) lv (.int (x ^^^ y) :: st) u) : z_V p l e R s m args below meth c nL g sh Q pc lv (.int y :: .int x :: st) u :=
  fun H locs ls h1 h2 h3 h4 => lv_ixor X.1.1 X.1.2.1 hd (k H locs ls h1 h2 h3 h4)
theorem z_ishl (X : z_X p R s m args meth c cc nL own Ts rt g sh) {x y : Int32} (hd : decode cc pc = .ok (.ishl, 1)) (k : z_V p l e R s m args below meth c nL g sh Q (pc + 1) lv (.int (x <<< (y &&& 31)) :: st) u) : z_V p l e R s m args below meth c nL g sh Q pc lv (.int y :: .int x :: st) u :=
  fun H locs ls h1 h2 h3 h4 => lv_ishl X.1.1 X.1.2.1 hd (k H locs ls h1 h2 h3 h4)
theorem z_ishr (X : z_X p R s m args meth c cc nL own Ts rt g sh) {x y : Int32} (hd : decode cc pc = .ok (.ishr, 1)) (k : z_V p l e R s m args below meth c nL g sh Q (pc + 1) lv (.int (x >>> (y &&& 31)) :: st) u) : z_V p l e R s m args below meth c nL g sh Q pc lv (.int y :: .int x :: st) u :=
  fun H locs ls h1 h2 h3 h4 => lv_ishr X.1.1 X.1.2.1 hd (k H locs ls h1 h2 h3 h4)
theorem z_idiv (X : z_X p R s m args meth c cc nL own Ts rt g sh) {x y : Int32} (hd : decode cc pc = .ok (.idiv, 1)) (hne : ¬ y = 0) (k : z_V p l e R s m args below meth c nL g sh Q (pc + 1) lv (.int (x / y) :: st) u) : z_V p l e R s m args below meth c nL g sh Q pc lv (.int y :: .int x :: st) u :=
  fun H locs ls h1 h2 h3 h4 => lv_idiv X.1.1 X.1.2.1 hd hne (k H locs ls h1 h2 h3 h4)
theorem z_irem (X : z_X p R s m args meth c cc nL own Ts rt g sh) {x y : Int32} (hd : decode cc pc = .ok (.irem, 1)) (hne : ¬ y = 0) (k : z_V p l e R s m args below meth c nL g sh Q (pc + 1) lv (.int (x - x / y * y) :: st) u) : z_V p l e R s m args below meth c nL g sh Q pc lv (.int y :: .int x :: st) u :=
  fun H locs ls h1 h2 h3 h4 => lv_irem X.1.1 X.1.2.1 hd hne (k H locs ls h1 h2 h3 h4)
theorem z_ineg (X : z_X p R s m args meth c cc nL own Ts rt g sh) {x : Int32} (hd : decode cc pc = .ok (.ineg, 1)) (k : z_V p l e R s m args below meth c nL g sh Q (pc + 1) lv (.int (-x) :: st) u) : z_V p l e R s m args below meth c nL g sh Q pc lv (.int x :: st) u :=
  fun H locs ls h1 h2 h3 h4 => lv_ineg X.1.1 X.1.2.1 hd (k H locs ls h1 h2 h3 h4)
theorem z_ladd (X : z_X p R s m args meth c cc nL own Ts rt g sh) {x y : Int64} (hd : decode cc pc = .ok (.ladd, 1)) (k : z_V p l e R s m args below meth c nL g sh Q (pc + 1) lv (.long (x + y) :: st) u) : z_V p l e R s m args below meth c nL g sh Q pc lv (.long y :: .long x :: st) u :=
  fun H locs ls h1 h2 h3 h4 => lv_ladd X.1.1 X.1.2.1 hd (k H locs ls h1 h2 h3 h4)
theorem z_lsub (X : z_X p R s m args meth c cc nL own Ts rt g sh) {x y : Int64} (hd : decode cc pc = .ok (.lsub, 1)) (k : z_V p l e R s m args below meth c nL g sh Q (pc + 1) lv (.long (x - y) :: st) u) : z_V p l e R s m args below meth c nL g sh Q pc lv (.long y :: .long x :: st) u :=
  fun H locs ls h1 h2 h3 h4 => lv_lsub X.1.1 X.1.2.1 hd (k H locs ls h1 h2 h3 h4)
theorem z_lmul (X : z_X p R s m args meth c cc nL own Ts rt g sh) {x y : Int64} (hd : decode cc pc = .ok (.lmul, 1)) (k : z_V p l e R s m args below meth c nL g sh Q (pc + 1) lv (.long (x * y) :: st) u) : z_V p l e R s m args below meth c nL g sh Q pc lv (.long y :: .long x :: st) u :=
  fun H locs ls h1 h2 h3 h4 => lv_lmul X.1.1 X.1.2.1 hd (k H locs ls h1 h2 h3 h4)
theorem z_ldiv (X : z_X p R s m args meth c cc nL own Ts rt g sh) {x y : Int64} (hd : decode cc pc = .ok (.ldiv, 1)) (hne : ¬ y = 0) (k : z_V p l e R s m args below meth c nL g sh Q (pc + 1) lv (.long (x / y) :: st) u) : z_V p l e R s m args below meth c nL g sh Q pc lv (.long y :: .long x :: st) u :=
  fun H locs ls h1 h2 h3 h4 => lv_ldiv X.1.1 X.1.2.1 hd hne (k H locs ls h1 h2 h3 h4)
theorem z_lrem (X : z_X p R s m args meth c cc nL own Ts rt g sh) {x y : Int64} (hd : decode cc pc = .ok (.lrem, 1)) (hne : ¬ y = 0) (k : z_V p l e R s m args below meth c nL g sh Q (pc + 1) lv (.long (x - x / y * y) :: st) u) : z_V p l e R s m args below meth c nL g sh Q pc lv (.long y :: .long x :: st) u :=
  fun H locs ls h1 h2 h3 h4 => lv_lrem X.1.1 X.1.2.1 hd hne (k H locs ls h1 h2 h3 h4)
theorem z_iushr (X : z_X p R s m args meth c cc nL own Ts rt g sh) {x y : Int32} (hd : decode cc pc = .ok (.iushr, 1)) (k : z_V p l e R s m args below meth c nL g sh Q (pc + 1) lv (.int ((x.toUInt32 >>> (y.toUInt32 &&& Int32.toUInt32 31)).toInt32) :: st) u) : z_V p l e R s m args below meth c nL g sh Q pc lv (.int y :: .int x :: st) u :=
  fun H locs ls h1 h2 h3 h4 => lv_iushr X.1.1 X.1.2.1 hd rfl (k H locs ls h1 h2 h3 h4)
theorem z_i2l (X : z_X p R s m args meth c cc nL own Ts rt g sh) {x : Int32} (hd : decode cc pc = .ok (.i2l, 1)) (k : z_V p l e R s m args below meth c nL g sh Q (pc + 1) lv (.long x.toInt64 :: st) u) : z_V p l e R s m args below meth c nL g sh Q pc lv (.int x :: st) u :=
  fun H locs ls h1 h2 h3 h4 => lv_i2l X.1.1 X.1.2.1 hd rfl (k H locs ls h1 h2 h3 h4)
theorem z_i2b (X : z_X p R s m args meth c cc nL own Ts rt g sh) {x : Int32} (hd : decode cc pc = .ok (.i2b, 1)) (k : z_V p l e R s m args below meth c nL g sh Q (pc + 1) lv (.int x.toInt8.toInt32 :: st) u) : z_V p l e R s m args below meth c nL g sh Q pc lv (.int x :: st) u :=
  fun H locs ls h1 h2 h3 h4 => lv_i2b X.1.1 X.1.2.1 hd rfl (k H locs ls h1 h2 h3 h4)
theorem z_i2c (X : z_X p R s m args meth c cc nL own Ts rt g sh) {x : Int32} (hd : decode cc pc = .ok (.i2c, 1)) (k : z_V p l e R s m args below meth c nL g sh Q (pc + 1) lv (.int (x.toUInt32 % 65536).toInt32 :: st) u) : z_V p l e R s m args below meth c nL g sh Q pc lv (.int x :: st) u :=
  fun H locs ls h1 h2 h3 h4 => lv_i2c X.1.1 X.1.2.1 hd rfl (k H locs ls h1 h2 h3 h4)
theorem z_lcmp (X : z_X p R s m args meth c cc nL own Ts rt g sh) {x y : Int64} (hd : decode cc pc = .ok (.lcmp, 1)) (k : z_V p l e R s m args below meth c nL g sh Q (pc + 1) lv (.int (lg_cmp x y) :: st) u) : z_V p l e R s m args below meth c nL g sh Q pc lv (.long y :: .long x :: st) u :=
  fun H locs ls h1 h2 h3 h4 => W.lcmp X.1.1 X.1.2.1 hd (k H locs ls h1 h2 h3 h4)
theorem z_dup (X : z_X p R s m args meth c cc nL own Ts rt g sh) {va : Value} (hd : decode cc pc = .ok (.dup, 1)) (hva : va.category = 1) (k : z_V p l e R s m args below meth c nL g sh Q (pc + 1) lv (va :: va :: st) u) : z_V p l e R s m args below meth c nL g sh Q pc lv (va :: st) u :=
  fun H locs ls h1 h2 h3 h4 => lv_dup X.1.1 X.1.2.1 hd hva (k H locs ls h1 h2 h3 h4)
theorem z_pop (X : z_X p R s m args meth c cc nL own Ts rt g sh) {va : Value} (hd : decode cc pc = .ok (.pop, 1)) (hva : va.category = 1) (k : z_V p l e R s m args below meth c nL g sh Q (pc + 1) lv (st) u) : z_V p l e R s m args below meth c nL g sh Q pc lv (va :: st) u :=
  fun H locs ls h1 h2 h3 h4 => lv_pop X.1.1 X.1.2.1 hd hva (k H locs ls h1 h2 h3 h4)
theorem z_dup2 (X : z_X p R s m args meth c cc nL own Ts rt g sh) {va vb : Value} (hd : decode cc pc = .ok (.dup2, 1)) (hva : va.category = 1) (hvb : vb.category = 1) (k : z_V p l e R s m args below meth c nL g sh Q (pc + 1) lv (va :: vb :: va :: vb :: st) u) : z_V p l e R s m args below meth c nL g sh Q pc lv (va :: vb :: st) u :=
  fun H locs ls h1 h2 h3 h4 => lv_dup2_11 X.1.1 X.1.2.1 hd hva hvb (k H locs ls h1 h2 h3 h4)
theorem z_ldc (X : z_X p R s m args meth c cc nL own Ts rt g sh) {index : Nat} {v : Int32} (hd : decode cc pc = .ok (.ldc index, 2)) (hc : Cond.constant own index v ∈ Ts) (k : z_V p l e R s m args below meth c nL g sh Q (pc + 2) lv (.int v :: st) u) : z_V p l e R s m args below meth c nL g sh Q pc lv (st) u :=
  fun H locs ls h1 h2 h3 h4 => lv_ldc X.1.1 X.1.2.1 X.1.2.2.2.1 (X.1.2.2.2.2 _ hc) hd (k H locs ls h1 h2 h3 h4)
theorem z_ldcw (X : z_X p R s m args meth c cc nL own Ts rt g sh) {index : Nat} {v : Int32} (hd : decode cc pc = .ok (.ldc_w index, 3)) (hc : Cond.constant own index v ∈ Ts) (k : z_V p l e R s m args below meth c nL g sh Q (pc + 3) lv (.int v :: st) u) : z_V p l e R s m args below meth c nL g sh Q pc lv (st) u :=
  fun H locs ls h1 h2 h3 h4 => lv_ldcw X.1.1 X.1.2.1 X.1.2.2.2.1 (X.1.2.2.2.2 _ hc) hd (k H locs ls h1 h2 h3 h4)
theorem z_ldc2 (X : z_X p R s m args meth c cc nL own Ts rt g sh) {index : Nat} {v : Int64} (hd : decode cc pc = .ok (.ldc2_w index, 3)) (hc : Cond.constantLong own index v ∈ Ts) (k : z_V p l e R s m args below meth c nL g sh Q (pc + 3) lv (.long v :: st) u) : z_V p l e R s m args below meth c nL g sh Q pc lv (st) u :=
  fun H locs ls h1 h2 h3 h4 => lv_ldc2 X.1.1 X.1.2.1 X.1.2.2.2.1 (X.1.2.2.2.2 _ hc) hd (k H locs ls h1 h2 h3 h4)
theorem z_if_eq (X : z_X p R s m args meth c cc nL own Ts rt g sh) {x : Int32} {off : Int} (tgt : Nat) (hd : decode cc pc = .ok (.ifCond .eq off, 3)) (ht : (pc : Int) + off = (tgt : Int)) (kt : x = 0 → z_V p l e R s m args below meth c nL g sh Q tgt lv st u) (kf : ¬ x = 0 → z_V p l e R s m args below meth c nL g sh Q (pc + 3) lv st u) : z_V p l e R s m args below meth c nL g sh Q pc lv (.int x :: st) u :=
  fun H locs ls h1 h2 h3 h4 => lv_if_eq X.1.1 X.1.2.1 hd ht (fun q => kt q H locs ls h1 h2 h3 h4) (fun q => kf q H locs ls h1 h2 h3 h4)
theorem z_if_ne (X : z_X p R s m args meth c cc nL own Ts rt g sh) {x : Int32} {off : Int} (tgt : Nat) (hd : decode cc pc = .ok (.ifCond .ne off, 3)) (ht : (pc : Int) + off = (tgt : Int)) (kt : ¬ x = 0 → z_V p l e R s m args below meth c nL g sh Q tgt lv st u) (kf : x = 0 → z_V p l e R s m args below meth c nL g sh Q (pc + 3) lv st u) : z_V p l e R s m args below meth c nL g sh Q pc lv (.int x :: st) u :=
  fun H locs ls h1 h2 h3 h4 => lv_if_ne X.1.1 X.1.2.1 hd ht (fun q => kt q H locs ls h1 h2 h3 h4) (fun q => kf q H locs ls h1 h2 h3 h4)
theorem z_if_lt (X : z_X p R s m args meth c cc nL own Ts rt g sh) {x : Int32} {off : Int} (tgt : Nat) (hd : decode cc pc = .ok (.ifCond .lt off, 3)) (ht : (pc : Int) + off = (tgt : Int)) (kt : x < 0 → z_V p l e R s m args below meth c nL g sh Q tgt lv st u) (kf : ¬ x < 0 → z_V p l e R s m args below meth c nL g sh Q (pc + 3) lv st u) : z_V p l e R s m args below meth c nL g sh Q pc lv (.int x :: st) u :=
  fun H locs ls h1 h2 h3 h4 => lv_if_lt X.1.1 X.1.2.1 hd ht (fun q => kt q H locs ls h1 h2 h3 h4) (fun q => kf q H locs ls h1 h2 h3 h4)
theorem z_if_ge (X : z_X p R s m args meth c cc nL own Ts rt g sh) {x : Int32} {off : Int} (tgt : Nat) (hd : decode cc pc = .ok (.ifCond .ge off, 3)) (ht : (pc : Int) + off = (tgt : Int)) (kt : 0 ≤ x → z_V p l e R s m args below meth c nL g sh Q tgt lv st u) (kf : ¬ 0 ≤ x → z_V p l e R s m args below meth c nL g sh Q (pc + 3) lv st u) : z_V p l e R s m args below meth c nL g sh Q pc lv (.int x :: st) u :=
  fun H locs ls h1 h2 h3 h4 => lv_if_ge X.1.1 X.1.2.1 hd ht (fun q => kt q H locs ls h1 h2 h3 h4) (fun q => kf q H locs ls h1 h2 h3 h4)
theorem z_if_gt (X : z_X p R s m args meth c cc nL own Ts rt g sh) {x : Int32} {off : Int} (tgt : Nat) (hd : decode cc pc = .ok (.ifCond .gt off, 3)) (ht : (pc : Int) + off = (tgt : Int)) (kt : 0 < x → z_V p l e R s m args below meth c nL g sh Q tgt lv st u) (kf : ¬ 0 < x → z_V p l e R s m args below meth c nL g sh Q (pc + 3) lv st u) : z_V p l e R s m args below meth c nL g sh Q pc lv (.int x :: st) u :=
  fun H locs ls h1 h2 h3 h4 => lv_if_gt X.1.1 X.1.2.1 hd ht (fun q => kt q H locs ls h1 h2 h3 h4) (fun q => kf q H locs ls h1 h2 h3 h4)
theorem z_if_le (X : z_X p R s m args meth c cc nL own Ts rt g sh) {x : Int32} {off : Int} (tgt : Nat) (hd : decode cc pc = .ok (.ifCond .le off, 3)) (ht : (pc : Int) + off = (tgt : Int)) (kt : x ≤ 0 → z_V p l e R s m args below meth c nL g sh Q tgt lv st u) (kf : ¬ x ≤ 0 → z_V p l e R s m args below meth c nL g sh Q (pc + 3) lv st u) : z_V p l e R s m args below meth c nL g sh Q pc lv (.int x :: st) u :=
  fun H locs ls h1 h2 h3 h4 => lv_if_le X.1.1 X.1.2.1 hd ht (fun q => kt q H locs ls h1 h2 h3 h4) (fun q => kf q H locs ls h1 h2 h3 h4)
theorem z_icmp_eq (X : z_X p R s m args meth c cc nL own Ts rt g sh) {x y : Int32} {off : Int} (tgt : Nat) (hd : decode cc pc = .ok (.if_icmp .eq off, 3)) (ht : (pc : Int) + off = (tgt : Int)) (kt : x = y → z_V p l e R s m args below meth c nL g sh Q tgt lv st u) (kf : ¬ x = y → z_V p l e R s m args below meth c nL g sh Q (pc + 3) lv st u) : z_V p l e R s m args below meth c nL g sh Q pc lv (.int y :: .int x :: st) u :=
  fun H locs ls h1 h2 h3 h4 => lv_icmp_eq X.1.1 X.1.2.1 hd ht (fun q => kt q H locs ls h1 h2 h3 h4) (fun q => kf q H locs ls h1 h2 h3 h4)
theorem z_icmp_ne (X : z_X p R s m args meth c cc nL own Ts rt g sh) {x y : Int32} {off : Int} (tgt : Nat) (hd : decode cc pc = .ok (.if_icmp .ne off, 3)) (ht : (pc : Int) + off = (tgt : Int)) (kt : ¬ x = y → z_V p l e R s m args below meth c nL g sh Q tgt lv st u) (kf : x = y → z_V p l e R s m args below meth c nL g sh Q (pc + 3) lv st u) : z_V p l e R s m args below meth c nL g sh Q pc lv (.int y :: .int x :: st) u :=
  fun H locs ls h1 h2 h3 h4 => lv_icmp_ne X.1.1 X.1.2.1 hd ht (fun q => kt q H locs ls h1 h2 h3 h4) (fun q => kf q H locs ls h1 h2 h3 h4)
theorem z_icmp_lt (X : z_X p R s m args meth c cc nL own Ts rt g sh) {x y : Int32} {off : Int} (tgt : Nat) (hd : decode cc pc = .ok (.if_icmp .lt off, 3)) (ht : (pc : Int) + off = (tgt : Int)) (kt : x < y → z_V p l e R s m args below meth c nL g sh Q tgt lv st u) (kf : ¬ x < y → z_V p l e R s m args below meth c nL g sh Q (pc + 3) lv st u) : z_V p l e R s m args below meth c nL g sh Q pc lv (.int y :: .int x :: st) u :=
  fun H locs ls h1 h2 h3 h4 => lv_icmp_lt X.1.1 X.1.2.1 hd ht (fun q => kt q H locs ls h1 h2 h3 h4) (fun q => kf q H locs ls h1 h2 h3 h4)
theorem z_icmp_ge (X : z_X p R s m args meth c cc nL own Ts rt g sh) {x y : Int32} {off : Int} (tgt : Nat) (hd : decode cc pc = .ok (.if_icmp .ge off, 3)) (ht : (pc : Int) + off = (tgt : Int)) (kt : y ≤ x → z_V p l e R s m args below meth c nL g sh Q tgt lv st u) (kf : ¬ y ≤ x → z_V p l e R s m args below meth c nL g sh Q (pc + 3) lv st u) : z_V p l e R s m args below meth c nL g sh Q pc lv (.int y :: .int x :: st) u :=
  fun H locs ls h1 h2 h3 h4 => lv_icmp_ge X.1.1 X.1.2.1 hd ht (fun q => kt q H locs ls h1 h2 h3 h4) (fun q => kf q H locs ls h1 h2 h3 h4)
theorem z_icmp_gt (X : z_X p R s m args meth c cc nL own Ts rt g sh) {x y : Int32} {off : Int} (tgt : Nat) (hd : decode cc pc = .ok (.if_icmp .gt off, 3)) (ht : (pc : Int) + off = (tgt : Int)) (kt : y < x → z_V p l e R s m args below meth c nL g sh Q tgt lv st u) (kf : ¬ y < x → z_V p l e R s m args below meth c nL g sh Q (pc + 3) lv st u) : z_V p l e R s m args below meth c nL g sh Q pc lv (.int y :: .int x :: st) u :=
  fun H locs ls h1 h2 h3 h4 => lv_icmp_gt X.1.1 X.1.2.1 hd ht (fun q => kt q H locs ls h1 h2 h3 h4) (fun q => kf q H locs ls h1 h2 h3 h4)
theorem z_icmp_le (X : z_X p R s m args meth c cc nL own Ts rt g sh) {x y : Int32} {off : Int} (tgt : Nat) (hd : decode cc pc = .ok (.if_icmp .le off, 3)) (ht : (pc : Int) + off = (tgt : Int)) (kt : x ≤ y → z_V p l e R s m args below meth c nL g sh Q tgt lv st u) (kf : ¬ x ≤ y → z_V p l e R s m args below meth c nL g sh Q (pc + 3) lv st u) : z_V p l e R s m args below meth c nL g sh Q pc lv (.int y :: .int x :: st) u :=
  fun H locs ls h1 h2 h3 h4 => lv_icmp_le X.1.1 X.1.2.1 hd ht (fun q => kt q H locs ls h1 h2 h3 h4) (fun q => kf q H locs ls h1 h2 h3 h4)
theorem z_goto (X : z_X p R s m args meth c cc nL own Ts rt g sh) {off : Int} (tgt : Nat) (hd : decode cc pc = .ok (.goto off, 3)) (ht : (pc : Int) + off = (tgt : Int)) (k : z_V p l e R s m args below meth c nL g sh Q tgt lv st u) : z_V p l e R s m args below meth c nL g sh Q pc lv st u :=
  fun H locs ls h1 h2 h3 h4 => lv_goto X.1.1 X.1.2.1 hd ht (k H locs ls h1 h2 h3 h4)
theorem z_tabOut (X : z_X p R s m args meth c cc nL own Ts rt g sh) {x : Int32} {dflt lo hi : Int} {offs : Array Int} {len : Nat} (tgt : Nat) (hd : decode cc pc = .ok (.tableswitch dflt lo hi offs, len)) (h : x.toInt < lo ∨ hi < x.toInt) (ht : (pc : Int) + dflt = (tgt : Int)) (k : z_V p l e R s m args below meth c nL g sh Q tgt lv st u) : z_V p l e R s m args below meth c nL g sh Q pc lv (.int x :: st) u :=
  fun H locs ls h1 h2 h3 h4 => lv_tableOut X.1.1 X.1.2.1 hd h ht (k H locs ls h1 h2 h3 h4)
theorem z_tabIn (X : z_X p R s m args meth c cc nL own Ts rt g sh) {x : Int32} {dflt lo hi off : Int} {offs : Array Int} {len : Nat} (tgt : Nat) (hd : decode cc pc = .ok (.tableswitch dflt lo hi offs, len)) (q1 : ¬ x.toInt < lo) (q2 : ¬ hi < x.toInt) (ho : offs[(x.toInt - lo).toNat]? = some off) (ht : (pc : Int) + off = (tgt : Int)) (k : z_V p l e R s m args below meth c nL g sh Q tgt lv st u) : z_V p l e R s m args below meth c nL g sh Q pc lv (.int x :: st) u :=
  fun H locs ls h1 h2 h3 h4 => lv_tableIn X.1.1 X.1.2.1 hd q1 q2 ho ht (k H locs ls h1 h2 h3 h4)
theorem z_lookup (X : z_X p R s m args meth c cc nL own Ts rt g sh) {x : Int32} {dflt off : Int} {ps : Array (Int × Int)} {len : Nat} (tgt : Nat) (hd : decode cc pc = .ok (.lookupswitch dflt ps, len)) (hp : (ps.toList.zip (ps.toList.drop 1)).all (fun (a, next) => a.1 < next.1) = true) (ho : Op.lookupswitch.offset ps.toList dflt x.toInt = off) (ht : (pc : Int) + off = (tgt : Int)) (k : z_V p l e R s m args below meth c nL g sh Q tgt lv st u) : z_V p l e R s m args below meth c nL g sh Q pc lv (.int x :: st) u :=
  fun H locs ls h1 h2 h3 h4 => lv_lookup X.1.1 X.1.2.1 hd hp ho ht (k H locs ls h1 h2 h3 h4)
theorem z_if_eqT (X : z_X p R s m args meth c cc nL own Ts rt g sh) {x : Int32} {off : Int} (tgt : Nat) (hd : decode cc pc = .ok (.ifCond .eq off, 3)) (ht : (pc : Int) + off = (tgt : Int)) (hc : x = 0) (k : z_V p l e R s m args below meth c nL g sh Q tgt lv st u) : z_V p l e R s m args below meth c nL g sh Q pc lv (.int x :: st) u := z_if_eq X tgt hd ht (fun _ => k) (fun q => absurd hc q)
theorem z_if_eqF (X : z_X p R s m args meth c cc nL own Ts rt g sh) {x : Int32} {off : Int} (tgt : Nat) (hd : decode cc pc = .ok (.ifCond .eq off, 3)) (ht : (pc : Int) + off = (tgt : Int)) (hc : ¬ x = 0) (k : z_V p l e R s m args below meth c nL g sh Q (pc + 3) lv st u) : z_V p l e R s m args below meth c nL g sh Q pc lv (.int x :: st) u := z_if_eq X tgt hd ht (fun q => absurd q hc) (fun _ => k)
theorem z_if_neT (X : z_X p R s m args meth c cc nL own Ts rt g sh) {x : Int32} {off : Int} (tgt : Nat) (hd : decode cc pc = .ok (.ifCond .ne off, 3)) (ht : (pc : Int) + off = (tgt : Int)) (hc : ¬ x = 0) (k : z_V p l e R s m args below meth c nL g sh Q tgt lv st u) : z_V p l e R s m args below meth c nL g sh Q pc lv (.int x :: st) u := z_if_ne X tgt hd ht (fun _ => k) (fun q => absurd q hc)
theorem z_if_neF (X : z_X p R s m args meth c cc nL own Ts rt g sh) {x : Int32} {off : Int} (tgt : Nat) (hd : decode cc pc = .ok (.ifCond .ne off, 3)) (ht : (pc : Int) + off = (tgt : Int)) (hc : x = 0) (k : z_V p l e R s m args below meth c nL g sh Q (pc + 3) lv st u) : z_V p l e R s m args below meth c nL g sh Q pc lv (.int x :: st) u := z_if_ne X tgt hd ht (fun q => absurd hc q) (fun _ => k)
theorem z_sub (ks : List Nat) (lv' : List (Nat × Value)) (hl : lv_pick lv ks = lv') (k : z_V p l e R s m args below meth c nL g sh Q pc lv' st u) : z_V p l e R s m args below meth c nL g sh Q pc lv st u :=
  fun H locs ls h1 h2 h3 h4 => k H locs ls (lv_sub h1 ks hl) h2 h3 h4
theorem z_getI (X : z_X p R s m args meth c cc nL own Ts rt g sh) {C : String} {T : u_T} {N ci index i k0 : Nat} {sl : List (Option Nat)} (hi : sh[i]? = some (.inr (ci, sl))) (hc : vwCl[ci]? = some (C, T, N)) (hin : ∀ w ∈ u_ws C T N, w ∈ Ts) (hk : k0 < N) (hs : sl[k0]? = some none) (hT : (T k0).1 = C) (hlink : (Cond.fieldLink own index C (T k0).2.1 (T k0).2.2.1) ∈ Ts) (hd : decode cc pc = .ok (.getfield index, 3)) (k : z_V p l e R s m args below meth c nL g sh Q (pc + 3) lv (.int (z_gI u i k0) :: st) u) : z_V p l e R s m args below meth c nL g sh Q pc lv (.ref (z_ad g i) :: st) u := by
  intro H locs ls h1 h2 h3 h4
  refine va_get (D := g.1) (ci := ci) (v := .int (z_gI u i k0)) (C := C) (T := T) (N := N) (ref := C) X.1.1 X.1.2.1 X.1.2.2.2.2 hin X.1.2.2.2.1 X.2.1 h2 i (z_wd_get hi) hc k0 hk (X.1.2.2.2.2 _ hlink) (fun x hx => by rw [hT] at hx; exact hx) ?_ hd (k H locs ls h1 h2 h3 h4)
  simp [List.getElem?_map, List.getElem?_zipIdx, hs, z_fv, z_gI]
theorem z_getR (X : z_X p R s m args meth c cc nL own Ts rt g sh) {C : String} {T : u_T} {N ci index i k0 : Nat} {sl : List (Option Nat)} {j : Nat} (hi : sh[i]? = some (.inr (ci, sl))) (hc : vwCl[ci]? = some (C, T, N)) (hin : ∀ w ∈ u_ws C T N, w ∈ Ts) (hk : k0 < N) (hs : sl[k0]? = some (some j)) (hT : (T k0).1 = C) (hlink : (Cond.fieldLink own index C (T k0).2.1 (T k0).2.2.1) ∈ Ts) (hd : decode cc pc = .ok (.getfield index, 3)) (k : z_V p l e R s m args below meth c nL g sh Q (pc + 3) lv (.ref (z_ad g j) :: st) u) : z_V p l e R s m args below meth c nL g sh Q pc lv (.ref (z_ad g i) :: st) u := by
  intro H locs ls h1 h2 h3 h4
  refine va_get (D := g.1) (ci := ci) (v := .ref (z_ad g j)) (C := C) (T := T) (N := N) (ref := C) X.1.1 X.1.2.1 X.1.2.2.2.2 hin X.1.2.2.2.1 X.2.1 h2 i (z_wd_get hi) hc k0 hk (X.1.2.2.2.2 _ hlink) (fun x hx => by rw [hT] at hx; exact hx) ?_ hd (k H locs ls h1 h2 h3 h4)
  simp [List.getElem?_map, List.getElem?_zipIdx, hs, z_fv, z_gI]
theorem z_putI (X : z_X p R s m args meth c cc nL own Ts rt g sh) {C : String} {T : u_T} {N ci index i k0 : Nat} {sl : List (Option Nat)} {ty0 : Nat → FieldType} {v : Int32} (hi : sh[i]? = some (.inr (ci, sl))) (hc : vwCl[ci]? = some (C, T, N)) (hin : ∀ w ∈ u_ws C T N, w ∈ Ts) (hty : ∀ k, k < N → parseFieldDescriptor (T k).2.2.1 = some (ty0 k)) (hnm : ∀ a, a < N → ∀ b, b < N → a ≠ b → (T a).2.1 ≠ (T b).2.1) (hk : k0 < N) (hs : sl[k0]? = some none) (hT : (T k0).1 = C) (hfin : (T k0).2.2.2 = false) (hn : narrow (ty0 k0) (.int v) = .int v) (hfit : fits (ty0 k0) (.int v) = true) (hlink : (Cond.fieldLink own index C (T k0).2.1 (T k0).2.2.1) ∈ Ts) (hd : decode cc pc = .ok (.putfield index, 3)) (k : z_V p l e R s m args below meth c nL g sh Q (pc + 3) lv st (z_sI u i k0 v)) : z_V p l e R s m args below meth c nL g sh Q pc lv (.int v :: .ref (z_ad g i) :: st) u := by
  intro H locs ls h1 h2 h3 h4
  have hl : k0 < sl.length := (List.getElem?_eq_some_iff.mp hs).1
  refine va_put (D := g.1) (ci := ci) (v := .int v) (ty := ty0 k0) (C := C) (T := T) (N := N) (ref := C) X.1.1 X.1.2.1 X.1.2.2.2.2 hin ty0 hty hnm X.1.2.2.2.1 X.2.1 h2 h3 h4 i (z_wd_get hi) hc k0 hk (X.1.2.2.2.2 _ hlink) (fun x hx => by rw [hT] at hx; exact hx) hfin (hty k0 hk) hn hfit (by simp; exact hl) hd (fun H1 locs1 h2 h3 h4 => ?_)
  rw [z_fs_set hs] at h2 h3
  have e : (z_wd g sh u).set i (z_ad g i, .inr (ci, sl.zipIdx.map (z_fv g (z_sI u i k0 v) i))) = z_wd g sh (z_sI u i k0 v) := z_wd_set (x := .inr (ci, sl)) hi (fun j hj => z_sA_ne hj) (fun j _ => rfl)
  rw [e] at h2 h3
  exact k H1 locs1 ls h1 h2 h3 h4
theorem z_iald (X : z_X p R s m args meth c cc nL own Ts rt g sh) {i n : Nat} {x : Int32} (hi : sh[i]? = some (.inl (0, n, none))) (hin : vp_in x n) (hd : decode cc pc = .ok (.iaload, 1)) (k : z_V p l e R s m args below meth c nL g sh Q (pc + 1) lv (.int (z_gI u i x.toNatClampNeg) :: st) u) : z_V p l e R s m args below meth c nL g sh Q pc lv (.int x :: .ref (z_ad g i) :: st) u :=
  fun H locs ls h1 h2 h3 h4 => va_iald (D := g.1) X.1.1 X.1.2.1 X.2.1 h2 i 0 (z_wd_get hi) rfl hin hd (k H locs ls h1 h2 h3 h4)
theorem z_iast (X : z_X p R s m args meth c cc nL own Ts rt g sh) {i n : Nat} {x v : Int32} (hi : sh[i]? = some (.inl (0, n, none))) (hin : vp_in x n) (hd : decode cc pc = .ok (.iastore, 1)) (k : z_V p l e R s m args below meth c nL g sh Q (pc + 1) lv st (z_sI u i x.toNatClampNeg v)) : z_V p l e R s m args below meth c nL g sh Q pc lv (.int v :: .int x :: .ref (z_ad g i) :: st) u := by
  intro H locs ls h1 h2 h3 h4
  refine va_iast (D := g.1) X.1.1 X.1.2.1 X.2.1 h2 h3 h4 i 0 (z_wd_get hi) rfl hin hd (fun H1 locs1 h2 h3 h4 => ?_)
  have e : (z_wd g sh u).set i (z_ad g i, .inl (z_ct g 0, n, .inl (upd (u.1 i) x.toNatClampNeg v))) = z_wd g sh (z_sI u i x.toNatClampNeg v) := by
    rw [← z_wd_set (u := u) (v := z_sI u i x.toNatClampNeg v) hi (fun j hj => z_sA_ne hj) (fun j _ => rfl)]
    simp [z_ce, z_sI, z_sA_eq]
  rw [e] at h2 h3
  exact k H1 locs1 ls h1 h2 h3 h4
theorem z_cald (X : z_X p R s m args meth c cc nL own Ts rt g sh) {i n : Nat} {x : Int32} (hi : sh[i]? = some (.inl (1, n, none))) (hin : vp_in x n) (hd : decode cc pc = .ok (.caload, 1)) (k : z_V p l e R s m args below meth c nL g sh Q (pc + 1) lv (.int (z_gI u i x.toNatClampNeg) :: st) u) : z_V p l e R s m args below meth c nL g sh Q pc lv (.int x :: .ref (z_ad g i) :: st) u :=
  fun H locs ls h1 h2 h3 h4 => va_cald (D := g.1) X.1.1 X.1.2.1 X.2.1 h2 i 1 (z_wd_get hi) rfl hin hd (k H locs ls h1 h2 h3 h4)
theorem z_cast (X : z_X p R s m args meth c cc nL own Ts rt g sh) {i n : Nat} {x v : Int32} (hi : sh[i]? = some (.inl (1, n, none))) (hin : vp_in x n) (hd : decode cc pc = .ok (.castore, 1)) (k : z_V p l e R s m args below meth c nL g sh Q (pc + 1) lv st (z_sI u i x.toNatClampNeg (vp_nar .char v))) : z_V p l e R s m args below meth c nL g sh Q pc lv (.int v :: .int x :: .ref (z_ad g i) :: st) u := by
  intro H locs ls h1 h2 h3 h4
  refine va_cast (D := g.1) X.1.1 X.1.2.1 X.2.1 h2 h3 h4 i 1 (z_wd_get hi) rfl hin hd (fun H1 locs1 h2 h3 h4 => ?_)
  have e : (z_wd g sh u).set i (z_ad g i, .inl (z_ct g 1, n, .inl (upd (u.1 i) x.toNatClampNeg (vp_nar .char v)))) = z_wd g sh (z_sI u i x.toNatClampNeg (vp_nar .char v)) := by
    rw [← z_wd_set (u := u) (v := z_sI u i x.toNatClampNeg (vp_nar .char v)) hi (fun j hj => z_sA_ne hj) (fun j _ => rfl)]
    simp [z_ce, z_sI, z_sA_eq]
  rw [e] at h2 h3
  exact k H1 locs1 ls h1 h2 h3 h4
theorem z_bald (X : z_X p R s m args meth c cc nL own Ts rt g sh) {i n : Nat} {x : Int32} (hi : sh[i]? = some (.inl (2, n, none))) (hin : vp_in x n) (hd : decode cc pc = .ok (.baload, 1)) (k : z_V p l e R s m args below meth c nL g sh Q (pc + 1) lv (.int (z_gI u i x.toNatClampNeg) :: st) u) : z_V p l e R s m args below meth c nL g sh Q pc lv (.int x :: .ref (z_ad g i) :: st) u :=
  fun H locs ls h1 h2 h3 h4 => va_bald (D := g.1) X.1.1 X.1.2.1 X.2.1 h2 i 2 (z_wd_get hi) rfl hin hd (k H locs ls h1 h2 h3 h4)
theorem z_bast (X : z_X p R s m args meth c cc nL own Ts rt g sh) {i n : Nat} {x v : Int32} (hi : sh[i]? = some (.inl (2, n, none))) (hin : vp_in x n) (hd : decode cc pc = .ok (.bastore, 1)) (k : z_V p l e R s m args below meth c nL g sh Q (pc + 1) lv st (z_sI u i x.toNatClampNeg (vp_nar .byte v))) : z_V p l e R s m args below meth c nL g sh Q pc lv (.int v :: .int x :: .ref (z_ad g i) :: st) u := by
  intro H locs ls h1 h2 h3 h4
  refine va_bast (D := g.1) X.1.1 X.1.2.1 X.2.1 h2 h3 h4 i 2 (z_wd_get hi) rfl hin hd (fun H1 locs1 h2 h3 h4 => ?_)
  have e : (z_wd g sh u).set i (z_ad g i, .inl (z_ct g 2, n, .inl (upd (u.1 i) x.toNatClampNeg (vp_nar .byte v)))) = z_wd g sh (z_sI u i x.toNatClampNeg (vp_nar .byte v)) := by
    rw [← z_wd_set (u := u) (v := z_sI u i x.toNatClampNeg (vp_nar .byte v)) hi (fun j hj => z_sA_ne hj) (fun j _ => rfl)]
    simp [z_ce, z_sI, z_sA_eq]
  rw [e] at h2 h3
  exact k H1 locs1 ls h1 h2 h3 h4
theorem z_zald (X : z_X p R s m args meth c cc nL own Ts rt g sh) {i n : Nat} {x : Int32} (hi : sh[i]? = some (.inl (3, n, none))) (hin : vp_in x n) (hd : decode cc pc = .ok (.baload, 1)) (k : z_V p l e R s m args below meth c nL g sh Q (pc + 1) lv (.int (z_gI u i x.toNatClampNeg) :: st) u) : z_V p l e R s m args below meth c nL g sh Q pc lv (.int x :: .ref (z_ad g i) :: st) u :=
  fun H locs ls h1 h2 h3 h4 => va_zald (D := g.1) X.1.1 X.1.2.1 X.2.1 h2 i 3 (z_wd_get hi) rfl hin hd (k H locs ls h1 h2 h3 h4)
theorem z_zast (X : z_X p R s m args meth c cc nL own Ts rt g sh) {i n : Nat} {x v : Int32} (hi : sh[i]? = some (.inl (3, n, none))) (hin : vp_in x n) (hd : decode cc pc = .ok (.bastore, 1)) (k : z_V p l e R s m args below meth c nL g sh Q (pc + 1) lv st (z_sI u i x.toNatClampNeg (vp_nar .boolean v))) : z_V p l e R s m args below meth c nL g sh Q pc lv (.int v :: .int x :: .ref (z_ad g i) :: st) u := by
  intro H locs ls h1 h2 h3 h4
  refine va_zast (D := g.1) X.1.1 X.1.2.1 X.2.1 h2 h3 h4 i 3 (z_wd_get hi) rfl hin hd (fun H1 locs1 h2 h3 h4 => ?_)
  have e : (z_wd g sh u).set i (z_ad g i, .inl (z_ct g 3, n, .inl (upd (u.1 i) x.toNatClampNeg (vp_nar .boolean v)))) = z_wd g sh (z_sI u i x.toNatClampNeg (vp_nar .boolean v)) := by
    rw [← z_wd_set (u := u) (v := z_sI u i x.toNatClampNeg (vp_nar .boolean v)) hi (fun j hj => z_sA_ne hj) (fun j _ => rfl)]
    simp [z_ce, z_sI, z_sA_eq]
  rw [e] at h2 h3
  exact k H1 locs1 ls h1 h2 h3 h4
theorem z_lald (X : z_X p R s m args meth c cc nL own Ts rt g sh) {i n : Nat} {x : Int32} (hi : sh[i]? = some (.inl (4, n, none))) (hin : vp_in x n) (hd : decode cc pc = .ok (.laload, 1)) (k : z_V p l e R s m args below meth c nL g sh Q (pc + 1) lv (.long (z_gL u i x.toNatClampNeg) :: st) u) : z_V p l e R s m args below meth c nL g sh Q pc lv (.int x :: .ref (z_ad g i) :: st) u :=
  fun H locs ls h1 h2 h3 h4 => va_lald (D := g.1) X.1.1 X.1.2.1 X.2.1 h2 i 4 (z_wd_get hi) rfl hin hd (k H locs ls h1 h2 h3 h4)
theorem z_last (X : z_X p R s m args meth c cc nL own Ts rt g sh) {i n : Nat} {x : Int32} {v : Int64} (hi : sh[i]? = some (.inl (4, n, none))) (hin : vp_in x n) (hd : decode cc pc = .ok (.lastore, 1)) (k : z_V p l e R s m args below meth c nL g sh Q (pc + 1) lv st (z_sL u i x.toNatClampNeg v)) : z_V p l e R s m args below meth c nL g sh Q pc lv (.long v :: .int x :: .ref (z_ad g i) :: st) u := by
  intro H locs ls h1 h2 h3 h4
  refine va_last (D := g.1) X.1.1 X.1.2.1 X.2.1 h2 h3 h4 i 4 (z_wd_get hi) rfl hin hd (fun H1 locs1 h2 h3 h4 => ?_)
  have e : (z_wd g sh u).set i (z_ad g i, .inl (z_ct g 4, n, .inr (.inl (vp_updL (u.2 i) x.toNatClampNeg v)))) = z_wd g sh (z_sL u i x.toNatClampNeg v) := by
    rw [← z_wd_set (u := u) (v := z_sL u i x.toNatClampNeg v) hi (fun j _ => rfl) (fun j hj => z_sL_ne hj)]
    simp [z_ce, z_sL_eq]
  rw [e] at h2 h3
  exact k H1 locs1 ls h1 h2 h3 h4
theorem z_alen (X : z_X p R s m args meth c cc nL own Ts rt g sh) {i t n : Nat} {o : Option (Nat × Nat)} (hi : sh[i]? = some (.inl (t, n, o))) (ht : t < 7) (hd : decode cc pc = .ok (.arraylength, 1)) (k : z_V p l e R s m args below meth c nL g sh Q (pc + 1) lv (.int (nI n) :: st) u) : z_V p l e R s m args below meth c nL g sh Q pc lv (.ref (z_ad g i) :: st) u := by
  intro H locs ls h1 h2 h3 h4
  have ht2 : ∃ ty, (z_tys g)[t]? = some (z_ct g t, ty) := by
    match t, ht with
    | 0, _ => exact ⟨_, rfl⟩
    | 1, _ => exact ⟨_, rfl⟩
    | 2, _ => exact ⟨_, rfl⟩
    | 3, _ => exact ⟨_, rfl⟩
    | 4, _ => exact ⟨_, rfl⟩
    | 5, _ => exact ⟨_, rfl⟩
    | 6, _ => exact ⟨_, rfl⟩
  obtain ⟨ty, hty⟩ := ht2
  cases o with
  | none => exact va_alen (D := g.1) X.1.1 X.1.2.1 X.2.1 h2 i t (z_wd_get hi) hty rfl hd (k H locs ls h1 h2 h3 h4)
  | some q => exact va_alen (D := g.1) X.1.1 X.1.2.1 X.2.1 h2 i t (z_wd_get hi) hty rfl hd (k H locs ls h1 h2 h3 h4)
theorem z_aalP (X : z_X p R s m args meth c cc nL own Ts rt g sh) {i n b0 q0 : Nat} {x : Int32} (hi : sh[i]? = some (.inl (5, n, some (b0, q0)))) (hin : vp_in x n) (hd : decode cc pc = .ok (.aaload, 1)) (k : z_V p l e R s m args below meth c nL g sh Q (pc + 1) lv (.ref (z_ad g (b0 + q0 * x.toNatClampNeg)) :: st) u) : z_V p l e R s m args below meth c nL g sh Q pc lv (.int x :: .ref (z_ad g i) :: st) u :=
  fun H locs ls h1 h2 h3 h4 => va_aldq (D := g.1) (C := RX6) X.1.1 X.1.2.1 X.2.1 h2 i 5 (z_wd_get hi) rfl hin hd (k H locs ls h1 h2 h3 h4)
theorem z_aalC (X : z_X p R s m args meth c cc nL own Ts rt g sh) {i n : Nat} {x : Int32} (hi : sh[i]? = some (.inl (6, n, none))) (hin : vp_in x n) (hd : decode cc pc = .ok (.aaload, 1)) (k : z_V p l e R s m args below meth c nL g sh Q (pc + 1) lv (.ref (z_ad g (z_gI u i x.toNatClampNeg).toNatClampNeg) :: st) u) : z_V p l e R s m args below meth c nL g sh Q pc lv (.int x :: .ref (z_ad g i) :: st) u :=
  fun H locs ls h1 h2 h3 h4 => va_aldq (D := g.1) (C := RX1) X.1.1 X.1.2.1 X.2.1 h2 i 6 (z_wd_get hi) rfl hin hd (k H locs ls h1 h2 h3 h4)
theorem z_aasC (X : z_X p R s m args meth c cc nL own Ts rt g sh) {i n j : Nat} {x : Int32} {sl : List (Option Nat)} (hi : sh[i]? = some (.inl (6, n, none))) (hj : sh[j]? = some (.inr (1, sl))) (hjl : j < 2 ^ 31) (hin : vp_in x n) (hd : decode cc pc = .ok (.aastore, 1)) (k : z_V p l e R s m args below meth c nL g sh Q (pc + 1) lv st (z_sI u i x.toNatClampNeg (nI j))) : z_V p l e R s m args below meth c nL g sh Q pc lv (.ref (z_ad g j) :: .int x :: .ref (z_ad g i) :: st) u := by
  intro H locs ls h1 h2 h3 h4
  refine va_astq (D := g.1) (r := (RX1, TX1, 4)) X.1.1 X.1.2.1 X.2.1 h2 h3 h4 i 6 j 1 (z_wd_get hi) rfl (z_wd_get hj) rfl hin hd (fun H1 locs1 h2 h3 h4 => ?_)
  have ef : va_up (fun k => some (z_ad g (u.1 i k).toNatClampNeg)) x.toNatClampNeg (some (z_ad g j)) = (fun k => some (z_ad g (upd (u.1 i) x.toNatClampNeg (nI j) k).toNatClampNeg)) := by
    funext k
    by_cases hk : k = x.toNatClampNeg
    · simp [va_up, upd, hk, nI_clamp hjl]
    · simp [va_up, upd, hk]
  have e : (z_wd g sh u).set i (z_ad g i, .inl (z_ct g 6, n, .inr (.inr (.inr (.inr (va_up (fun k => some (z_ad g (u.1 i k).toNatClampNeg)) x.toNatClampNeg (some (z_ad g j)))))))) = z_wd g sh (z_sI u i x.toNatClampNeg (nI j)) := by
    rw [← z_wd_set (u := u) (v := z_sI u i x.toNatClampNeg (nI j)) hi (fun j hj => z_sA_ne hj) (fun j _ => rfl), ef]
    simp [z_ce, z_sI, z_sA_eq]
  have h2' := h2
  rw [show (z_wd g sh u).set i _ = _ from e] at h2 h3
  exact k H1 locs1 ls h1 h2 h3 h4
theorem z_iret (X : z_X p R s m args meth c cc nL own Ts rt g sh) {Rs : Option Value → z_M → Prop} {v : Int32} (hr : rt = some .int) (hd : decode cc pc = .ok (.ireturn, 1)) (k : Rs (some (.int v)) u) : z_V p l e R s m args below meth c nL g sh (MQ below (z_Qc g sh Rs) args s 0 0 (z_A g sh)) pc lv [.int v] u :=
  fun H locs ls h1 h2 h3 h4 => W.iret X.1.1 X.1.2.1 (X.2.2.2.1.trans hr) (fun t ht hW => ⟨⟨_, u, rfl, k, va_K.moved hW.alike X.2.1, by rw [ht]; exact X.2.2.1.go h4 hW, by rw [ht]; exact h2, h3⟩, h4.F ht⟩) h4.2.2 hd X.2.2.2.2
theorem z_lret (X : z_X p R s m args meth c cc nL own Ts rt g sh) {Rs : Option Value → z_M → Prop} {v : Int64} (hr : rt = some .long) (hd : decode cc pc = .ok (.lreturn, 1)) (k : Rs (some (.long v)) u) : z_V p l e R s m args below meth c nL g sh (MQ below (z_Qc g sh Rs) args s 0 0 (z_A g sh)) pc lv [.long v] u :=
  fun H locs ls h1 h2 h3 h4 => W.lret X.1.1 X.1.2.1 (X.2.2.2.1.trans hr) (fun t ht hW => ⟨⟨_, u, rfl, k, va_K.moved hW.alike X.2.1, by rw [ht]; exact X.2.2.1.go h4 hW, by rw [ht]; exact h2, h3⟩, h4.F ht⟩) h4.2.2 hd X.2.2.2.2
theorem z_zret (X : z_X p R s m args meth c cc nL own Ts rt g sh) {Rs : Option Value → z_M → Prop} {v : Int32} {ty : FieldType} (hr : rt = some ty) (hn : narrow ty (.int v) = .int v) (hd : decode cc pc = .ok (.ireturn, 1)) (k : Rs (some (.int v)) u) : z_V p l e R s m args below meth c nL g sh (MQ below (z_Qc g sh Rs) args s 0 0 (z_A g sh)) pc lv [.int v] u :=
  fun H locs ls h1 h2 h3 h4 => W.zret X.1.1 X.1.2.1 (X.2.2.2.1.trans hr) hn (fun t ht hW => ⟨⟨_, u, rfl, k, va_K.moved hW.alike X.2.1, by rw [ht]; exact X.2.2.1.go h4 hW, by rw [ht]; exact h2, h3⟩, h4.F ht⟩) h4.2.2 hd X.2.2.2.2
theorem z_vret (X : z_X p R s m args meth c cc nL own Ts rt g sh) {Rs : Option Value → z_M → Prop} (hr : rt = none) (hd : decode cc pc = .ok (.return_, 1)) (k : Rs none u) : z_V p l e R s m args below meth c nL g sh (MQ below (z_Qc g sh Rs) args s 0 0 (z_A g sh)) pc lv [] u :=
  fun H locs ls h1 h2 h3 h4 => W.vret X.1.1 X.1.2.1 (X.2.2.2.1.trans hr) (fun t ht hW => ⟨⟨_, u, rfl, k, va_K.moved hW.alike X.2.1, by rw [ht]; exact X.2.2.1.go h4 hW, by rw [ht]; exact h2, h3⟩, h4.F ht⟩) h4.2.2 hd X.2.2.2.2
theorem z_after {y : MethodName} {d : Nat} {av : List Value} {Rs : Option Value → z_M → Prop} {rest st0 : List Value} {H : Heap} {locs : List Loc} {ls : Array Slot} (hS : va_S (z_A g sh) s.heap H locs) (hl : lv_has ls nL lv)
    (hr : va_Run p l e R s m args below meth c H locs 0 0 0 0 (F0 m pc ls st0) rest (z_Qc g sh Rs av.toArray) (z_A g sh)) (k : ∀ (v : Option Value) (u' : z_M), Rs v u' → z_V p l e R s m args below meth c nL g sh Q (pc + 3) lv (v.toList ++ rest) u') :
    W p l e R s m args below meth c H locs 0 0 Q (F0 m pc ls st0) := by
  intro T hT X
  obtain ⟨v, st₀, t, T', L, h0, X', hL, e1, e2, ⟨⟨r, u', hv, hp, hK, hE, hP, hD⟩, hz, hk⟩, st⟩ := hr T hT X
  cases hv
  rw [h0] at hz hk
  obtain ⟨t2, a1, b1⟩ := k _ u' hp T'.heap (locs ++ L) ls hl (by rw [e1]; exact hP) hD ⟨Nat.le_trans hS.1 (by rw [e1]; exact hz), fun q g1 g2 => by
      rw [e1, hk q (Nat.lt_of_lt_of_le g1 hS.1) g2]
      exact hS.2.1 q g1 g2, fun q hq => by
      rcases List.mem_append.mp hq with h | h
      · exact hS.2.2 q h
      · exact hL q h⟩ T' rfl X'
  exact ⟨t2, st t2 a1, b1⟩
theorem z_pre {av : List Value} {H : Heap} {locs : List Loc} (X : z_X p R s m args meth c cc nL own Ts rt g sh) (h2 : va_P g.1 vwCl (z_wd g sh u) H) (h3 : va_D (z_A g sh) (z_wd g sh u)) (h4 : va_S (z_A g sh) s.heap H locs) :
    PreS s H (fun a U => a = av.toArray ∧ z_H g sh u U) av :=
  ⟨fun a U g1 mk q => ⟨q.1, va_K.moved (u := U) (U := U.calling g1 mk a) (Vm.Alike.refl U.vm) q.2.1, z_E_same (s := U) rfl rfl q.2.2.1, q.2.2.2⟩, fun U hU hW => ⟨rfl, va_K.moved hW.alike X.2.1, by rw [hU]; exact X.2.2.1.go h4 hW, by rw [hU]; exact h2, h3⟩⟩
theorem z_callV (X : z_X p R s m args meth c cc nL own Ts rt g sh) {C : String} {i ci : Nat} {sl : List (Option Nat)} {T : u_T} {N : Nat} {y : MethodName} {ws ws' : List Cond} {bytes : ByteArray} {maxL d index : Nat} {ret : Option FieldType} {Rs : Option Value → z_M → Prop} (As rest : List Value) (hM : z_C l g sh y ws d (.ref (z_ad g i) :: As) u Rs) (hi : sh[i]? = some (.inr (ci, sl))) (hc : vwCl[ci]? = some (C, T, N)) (hg : GoodIn Ts (wsV own index C y ws)) (hdy : y.cls = C ∧ y.cls ≠ "java/lang/invoke/MethodHandle" ∧ y.cls ≠ "java/lang/invoke/VarHandle" ∧ (parseMethodDescriptor y.desc).map (fun d => d.parameters.length) = some As.length) (hw : ws = Cond.code y bytes maxL ret :: ws') (hd1 : (z_rm d).frames + 1 ≤ R.frames) (hd2 : 8 + (maxL + 11) + (z_rm d).locals ≤ R.locals) (hst : (rest.map fun v => v.category).sum ≤ 8) (hd : decode cc pc = .ok (.invokevirtual index, 3)) (k : ∀ (v : Option Value) (u' : z_M), Rs v u' → z_V p l e R s m args below meth c nL g sh Q (pc + 3) lv (v.toList ++ rest) u') : z_V p l e R s m args below meth c nL g sh Q pc lv (As.reverse ++ .ref (z_ad g i) :: rest) u :=
  fun H locs ls h1 h2 h3 h4 => z_after (y := y) (d := d) h4 h1 (va_runV (As := As) (rest := rest) X.1 hM (cwV As.length X.1.2.2.2.2 hg hw rfl rfl hdy ⟨hd1, hd2⟩) ⟨(z_pre (av := .ref (z_ad g i) :: As) X h2 h3 h4).1, va_recv X.2.1 h2 hc (z_wd_get hi), (z_pre X h2 h3 h4).2⟩ rfl rfl h1.1 rfl (lv_room hst) hd ⟨Nat.zero_le _, Nat.zero_le _⟩) k
theorem z_callS (X : z_X p R s m args meth c cc nL own Ts rt g sh) {y : MethodName} {ws ws' : List Cond} {bytes : ByteArray} {maxL d index : Nat} {ret : Option FieldType} {Rs : Option Value → z_M → Prop} (As rest : List Value) (hM : z_C l g sh y ws d (As) u Rs) (hg : GoodIn Ts (va_wsS own index y ws)) (hdy : y.cls ≠ "java/lang/invoke/MethodHandle" ∧ y.cls ≠ "java/lang/invoke/VarHandle" ∧ (parseMethodDescriptor y.desc).map (fun d => d.parameters.length) = some As.length) (hw : ws = Cond.code y bytes maxL ret :: ws') (hd1 : (z_rm d).frames + 1 ≤ R.frames) (hd2 : 8 + (maxL + 11) + (z_rm d).locals ≤ R.locals) (hst : (rest.map fun v => v.category).sum ≤ 8) (hd : decode cc pc = .ok (.invokestatic index, 3)) (k : ∀ (v : Option Value) (u' : z_M), Rs v u' → z_V p l e R s m args below meth c nL g sh Q (pc + 3) lv (v.toList ++ rest) u') : z_V p l e R s m args below meth c nL g sh Q pc lv (As.reverse ++ rest) u :=
  fun H locs ls h1 h2 h3 h4 => z_after (y := y) (d := d) h4 h1 (va_runS (As := As) (rest := rest) X.1 hM (va_cwS As.length X.1.2.2.2.2 hg hw rfl rfl hdy ⟨hd1, hd2⟩) (z_pre X h2 h3 h4) rfl rfl h1.1 rfl (lv_room hst) hd ⟨Nat.zero_le _, Nat.zero_le _⟩) k
theorem z_callN (X : z_X p R s m args meth c cc nL own Ts rt g sh) {host : String} {y : MethodName} {ws ws' : List Cond} {bytes : ByteArray} {maxL d index : Nat} {ret : Option FieldType} {Rs : Option Value → z_M → Prop} (As rest : List Value) (hM : z_C l g sh y ws d (As) u Rs) (hg : GoodIn Ts ws) (hn : (Cond.methodLinkNest own index y host) ∈ z_N) (hini : (Cond.initialized y.cls) ∈ Ts) (hsta : (Cond.static y) ∈ Ts) (hdy : y.cls ≠ "java/lang/invoke/MethodHandle" ∧ y.cls ≠ "java/lang/invoke/VarHandle" ∧ (parseMethodDescriptor y.desc).map (fun d => d.parameters.length) = some As.length) (hw : ws = Cond.code y bytes maxL ret :: ws') (hd1 : (z_rm d).frames + 1 ≤ R.frames) (hd2 : 8 + (maxL + 11) + (z_rm d).locals ≤ R.locals) (hst : (rest.map fun v => v.category).sum ≤ 8) (hd : decode cc pc = .ok (.invokestatic index, 3)) (k : ∀ (v : Option Value) (u' : z_M), Rs v u' → z_V p l e R s m args below meth c nL g sh Q (pc + 3) lv (v.toList ++ rest) u') : z_V p l e R s m args below meth c nL g sh Q pc lv (As.reverse ++ rest) u :=
  fun H locs ls h1 h2 h3 h4 => z_after (y := y) (d := d) h4 h1 (va_runSN (As := As) (rest := rest) X.1 hM ⟨va_cnB As.length X.1.2.2.2.2 hg hw rfl rfl (X.2.2.1.1 _ hn) (X.1.2.2.2.2 _ hini) hdy ⟨hd1, hd2⟩, X.1.2.2.2.2 _ hsta, trivial⟩ (z_pre X h2 h3 h4) rfl rfl h1.1 rfl (lv_room hst) hd ⟨Nat.zero_le _, Nat.zero_le _⟩) k
end ZR
