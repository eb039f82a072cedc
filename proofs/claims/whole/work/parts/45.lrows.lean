/-! The law's own walk: the class's world, the reference's world, the law's own cell. -/
def z_AL (s : State) : Nat → Prop := fun q => s.heap.size ≤ q
def z_LW (gC gR : z_G) (qo : Nat) (u w : z_M) (o : Nat → Int64) (H : Heap) : Prop :=
  va_P gC.1 vwCl (z_wd gC z_shC u) H ∧ va_P gC.1 vwCl (z_wd gR z_shR w) H ∧ va_P gC.1 vwCl [(qo, .inl (z_ct gC 4, 1, .inr (.inl o)))] H
/-- the three are apart, and all of them new -/
def z_LD (gC gR : z_G) (qo : Nat) (s : State) : Prop :=
  (∀ u, va_D (z_A gC z_shC) (z_wd gC z_shC u)) ∧ (∀ w, va_D (z_A gR z_shR) (z_wd gR z_shR w)) ∧ (∀ q, z_A gC z_shC q → z_AL s q) ∧ (∀ q, z_A gR z_shR q → z_AL s q) ∧ z_AL s qo ∧ (∀ q, z_A gC z_shC q → ¬ z_A gR z_shR q) ∧ ¬ z_A gC z_shC qo ∧ ¬ z_A gR z_shR qo
def z_LE (s : State) : Prop := vx_Zq Bundle.tN "UNASSIGNED_STACK" Bundle.steD (z_AL s) s s.heap ∧ vx_Zq Bundle.tN "SUPPRESSED_SENTINEL" Bundle.listD (z_AL s) s s.heap
theorem z_E.narrow {g : z_G} {A B : Nat → Prop} {U : State} {H : Heap} (h : z_E g A U H) (hAB : ∀ q, B q → A q) : z_E g B U H :=
  ⟨h.1, h.2.1.narrow hAB, h.2.2.1.narrow hAB, h.2.2.2.1.narrow hAB, h.2.2.2.2⟩
section ZL
variable {p : Program} {l : Launch} {e : Env} {R : Room} {s : State} {m : MethodId} {args : Array Value} {below : List Frame} {meth : Method} {c : Code} {cc : ByteArray} {own : String} {Ts : List Cond} {Q : State → Prop} {gC gR : z_G} {qo b L : Nat} {xs : Nat → Int32}
variable {pc cells slots : Nat} {lv : List (Nat × Value)} {st : List Value} {u w : z_M} {o : Nat → Int64}
def z_L (p : Program) (l : Launch) (e : Env) (R : Room) (s : State) (m : MethodId) (args : Array Value) (below : List Frame) (meth : Method) (c : Code) (gC gR : z_G) (qo : Nat) (Q : State → Prop) (cells slots pc : Nat) (lv : List (Nat × Value)) (st : List Value) (u w : z_M) (o : Nat → Int64) : Prop :=
  ∀ (H : Heap) (locs : List Loc) (ls : Array Slot), lv_has ls 7 lv → z_LW gC gR qo u w o H → va_S (z_AL s) s.heap H locs → W p l e R s m args below meth c H locs cells slots Q (F0 m pc ls st)
def z_LX (p : Program) (l : Launch) (R : Room) (s : State) (m : MethodId) (args : Array Value) (meth : Method) (c : Code) (cc : ByteArray) (own : String) (Ts : List Cond) (gC gR : z_G) (qo b L : Nat) (xs : Nat → Int32) : Prop :=
  CallFix p m c cc 7 s args Ts own ∧ va_K gC.1 vwCl (z_tys gC) s ∧ z_E gC (z_AL s) s s.heap ∧ (va_X b L xs s s.heap ∧ b < s.heap.size) ∧ z_LD gC gR qo s ∧ gR = z_gw gC (z_ad gR) ∧ R = room_1 ∧ z_LE s ∧ l.stackTraces = false
theorem z_liconst (X : z_LX p l R s m args meth c cc own Ts gC gR qo b L xs) {n : Int} {v : Int32} (hd : decode cc pc = .ok (.iconst n, 1)) (hv : Int32.ofInt n = v) (k : z_L p l e R s m args below meth c gC gR qo Q cells slots (pc + 1) lv (.int v :: st) u w o) : z_L p l e R s m args below meth c gC gR qo Q cells slots pc lv (st) u w o :=
  fun H locs ls h1 h2 h3 => lv_iconst X.1.1 X.1.2.1 hd hv (k H locs ls h1 h2 h3)
theorem z_lbipush (X : z_LX p l R s m args meth c cc own Ts gC gR qo b L xs) {n : Int} {v : Int32} (hd : decode cc pc = .ok (.bipush n, 2)) (hv : (Int8.ofInt n).toInt32 = v) (k : z_L p l e R s m args below meth c gC gR qo Q cells slots (pc + 2) lv (.int v :: st) u w o) : z_L p l e R s m args below meth c gC gR qo Q cells slots pc lv (st) u w o :=
  fun H locs ls h1 h2 h3 => lv_bipush X.1.1 X.1.2.1 hd hv (k H locs ls h1 h2 h3)
theorem z_liload_n (X : z_LX p l R s m args meth c cc own Ts gC gR qo b L xs) {k0 : Fin 4} {i : Nat} {x : Int32} (j : Nat) (hd : decode cc pc = .ok (.iload_n k0, 1)) (hi : (k0 : Nat) = i) (hl : lv[j]? = some (i, .int x)) (k : z_L p l e R s m args below meth c gC gR qo Q cells slots (pc + 1) lv (.int x :: st) u w o) : z_L p l e R s m args below meth c gC gR qo Q cells slots pc lv (st) u w o :=
  fun H locs ls h1 h2 h3 => lv_iload_n X.1.1 X.1.2.1 hd hi (lv_at h1 j hl) (k H locs ls h1 h2 h3)
theorem z_liload (X : z_LX p l R s m args meth c cc own Ts gC gR qo b L xs) {i : Nat} {x : Int32} (j : Nat) (hd : decode cc pc = .ok (.iload i, 2)) (hl : lv[j]? = some (i, .int x)) (k : z_L p l e R s m args below meth c gC gR qo Q cells slots (pc + 2) lv (.int x :: st) u w o) : z_L p l e R s m args below meth c gC gR qo Q cells slots pc lv (st) u w o :=
  fun H locs ls h1 h2 h3 => lv_iload X.1.1 X.1.2.1 hd (lv_at h1 j hl) (k H locs ls h1 h2 h3)
theorem z_listore (X : z_LX p l R s m args meth c cc own Ts gC gR qo b L xs) {i : Nat} {x : Int32} (lv' : List (Nat × Value)) (hd : decode cc pc = .ok (.istore i, 2)) (hn : i < 7) (hl : (i, Value.int x) :: lv.filter (fun q => !(q.1 == i) && !(q.1 + 1 == i && q.2.category == 2)) = lv') (k : z_L p l e R s m args below meth c gC gR qo Q cells slots (pc + 2) lv' st u w o) : z_L p l e R s m args below meth c gC gR qo Q cells slots pc lv (.int x :: st) u w o :=
  fun H locs ls h1 h2 h3 => lv_istore X.1.1 X.1.2.1 hd h1 hn hl (fun ls' h1 => k H locs ls' h1 h2 h3)
theorem z_laload_n (X : z_LX p l R s m args meth c cc own Ts gC gR qo b L xs) {k0 : Fin 4} {i : Nat} {x : Nat} (j : Nat) (hd : decode cc pc = .ok (.aload_n k0, 1)) (hi : (k0 : Nat) = i) (hl : lv[j]? = some (i, .ref x)) (k : z_L p l e R s m args below meth c gC gR qo Q cells slots (pc + 1) lv (.ref x :: st) u w o) : z_L p l e R s m args below meth c gC gR qo Q cells slots pc lv (st) u w o :=
  fun H locs ls h1 h2 h3 => lv_aload_n X.1.1 X.1.2.1 hd hi (lv_at h1 j hl) (k H locs ls h1 h2 h3)
theorem z_laload (X : z_LX p l R s m args meth c cc own Ts gC gR qo b L xs) {i : Nat} {x : Nat} (j : Nat) (hd : decode cc pc = .ok (.aload i, 2)) (hl : lv[j]? = some (i, .ref x)) (k : z_L p l e R s m args below meth c gC gR qo Q cells slots (pc + 2) lv (.ref x :: st) u w o) : z_L p l e R s m args below meth c gC gR qo Q cells slots pc lv (st) u w o :=
  fun H locs ls h1 h2 h3 => lv_aload X.1.1 X.1.2.1 hd (lv_at h1 j hl) (k H locs ls h1 h2 h3)
theorem z_lastore (X : z_LX p l R s m args meth c cc own Ts gC gR qo b L xs) {i : Nat} {x : Nat} (lv' : List (Nat × Value)) (hd : decode cc pc = .ok (.astore i, 2)) (hn : i < 7) (hl : (i, Value.ref x) :: lv.filter (fun q => !(q.1 == i) && !(q.1 + 1 == i && q.2.category == 2)) = lv') (k : z_L p l e R s m args below meth c gC gR qo Q cells slots (pc + 2) lv' st u w o) : z_L p l e R s m args below meth c gC gR qo Q cells slots pc lv (.ref x :: st) u w o :=
  fun H locs ls h1 h2 h3 => lv_astore X.1.1 X.1.2.1 hd h1 hn hl (fun ls' h1 => k H locs ls' h1 h2 h3)
theorem z_liinc (X : z_LX p l R s m args meth c cc own Ts gC gR qo b L xs) {i : Nat} {n : Int} {x v : Int32} (j : Nat) (lv' : List (Nat × Value)) (hd : decode cc pc = .ok (.iinc i n, 3)) (hk : lv[j]? = some (i, .int x)) (hv : x + Int32.ofInt n = v) (hn : i < 7) (hl : (i, Value.int v) :: lv.filter (fun q => !(q.1 == i) && !(q.1 + 1 == i && q.2.category == 2)) = lv') (k : z_L p l e R s m args below meth c gC gR qo Q cells slots (pc + 3) lv' st u w o) : z_L p l e R s m args below meth c gC gR qo Q cells slots pc lv st u w o :=
  fun H locs ls h1 h2 h3 => lv_iinc X.1.1 X.1.2.1 hd h1 hk hv hn hl (fun ls' h1 => k H locs ls' h1 h2 h3)
theorem z_liadd (X : z_LX p l R s m args meth c cc own Ts gC gR qo b L xs) {x y : Int32} (hd : decode cc pc = .ok (.iadd, 1)) (k : z_L p l e R s m args below meth c gC gR qo Q cells slots (pc + 1) lv (.int (x + y) :: st) u w o) : z_L p l e R s m args below meth c gC gR qo Q cells slots pc lv (.int y :: .int x :: st) u w o :=
  fun H locs ls h1 h2 h3 => lv_iadd X.1.1 X.1.2.1 hd (k H locs ls h1 h2 h3)
theorem z_lisub (X : z_LX p l R s m args meth c cc own Ts gC gR qo b L xs) {x y : Int32} (hd : decode cc pc = .ok (.isub, 1)) (k : z_L p l e R s m args below meth c gC gR qo Q cells slots (pc + 1) lv (.int (x - y) :: st) u w o) : z_L p l e R s m args below meth c gC gR qo Q cells slots pc lv (.int y :: .int x :: st) u w o :=
  fun H locs ls h1 h2 h3 => lv_isub X.1.1 X.1.2.1 hd (k H locs ls h1 h2 h3)
theorem z_liand (X : z_LX p l R s m args meth c cc own Ts gC gR qo b L xs) {x y : Int32} (hd : decode cc pc = .ok (.iand, 1)) (k : z_L p l e R s m args below meth c gC gR qo Q cells slots (pc + 1) lv (.int (x &&& y) :: st) u w o) : z_L p l e R s m args below meth c gC gR qo Q cells slots pc lv (.int y :: .int x :: st) u w o :=
  fun H locs ls h1 h2 h3 => lv_iand X.1.1 X.1.2.1 hd (k H locs ls h1 h2 h3)
theorem z_li2l (X : z_LX p l R s m args meth c cc own Ts gC gR qo b L xs) {x : Int32} (hd : decode cc pc = .ok (.i2l, 1)) (k : z_L p l e R s m args below meth c gC gR qo Q cells slots (pc + 1) lv (.long x.toInt64 :: st) u w o) : z_L p l e R s m args below meth c gC gR qo Q cells slots pc lv (.int x :: st) u w o :=
  fun H locs ls h1 h2 h3 => lv_i2l X.1.1 X.1.2.1 hd rfl (k H locs ls h1 h2 h3)
theorem z_llcmp (X : z_LX p l R s m args meth c cc own Ts gC gR qo b L xs) {x y : Int64} (hd : decode cc pc = .ok (.lcmp, 1)) (k : z_L p l e R s m args below meth c gC gR qo Q cells slots (pc + 1) lv (.int (lg_cmp x y) :: st) u w o) : z_L p l e R s m args below meth c gC gR qo Q cells slots pc lv (.long y :: .long x :: st) u w o :=
  fun H locs ls h1 h2 h3 => W.lcmp X.1.1 X.1.2.1 hd (k H locs ls h1 h2 h3)
theorem z_lif_eq (X : z_LX p l R s m args meth c cc own Ts gC gR qo b L xs) {x : Int32} {off : Int} (tgt : Nat) (hd : decode cc pc = .ok (.ifCond .eq off, 3)) (ht : (pc : Int) + off = (tgt : Int)) (kt : x = 0 → z_L p l e R s m args below meth c gC gR qo Q cells slots tgt lv st u w o) (kf : ¬ x = 0 → z_L p l e R s m args below meth c gC gR qo Q cells slots (pc + 3) lv st u w o) : z_L p l e R s m args below meth c gC gR qo Q cells slots pc lv (.int x :: st) u w o :=
  fun H locs ls h1 h2 h3 => lv_if_eq X.1.1 X.1.2.1 hd ht (fun q => kt q H locs ls h1 h2 h3) (fun q => kf q H locs ls h1 h2 h3)
theorem z_lif_ne (X : z_LX p l R s m args meth c cc own Ts gC gR qo b L xs) {x : Int32} {off : Int} (tgt : Nat) (hd : decode cc pc = .ok (.ifCond .ne off, 3)) (ht : (pc : Int) + off = (tgt : Int)) (kt : ¬ x = 0 → z_L p l e R s m args below meth c gC gR qo Q cells slots tgt lv st u w o) (kf : x = 0 → z_L p l e R s m args below meth c gC gR qo Q cells slots (pc + 3) lv st u w o) : z_L p l e R s m args below meth c gC gR qo Q cells slots pc lv (.int x :: st) u w o :=
  fun H locs ls h1 h2 h3 => lv_if_ne X.1.1 X.1.2.1 hd ht (fun q => kt q H locs ls h1 h2 h3) (fun q => kf q H locs ls h1 h2 h3)
theorem z_licmp_eq (X : z_LX p l R s m args meth c cc own Ts gC gR qo b L xs) {x y : Int32} {off : Int} (tgt : Nat) (hd : decode cc pc = .ok (.if_icmp .eq off, 3)) (ht : (pc : Int) + off = (tgt : Int)) (kt : x = y → z_L p l e R s m args below meth c gC gR qo Q cells slots tgt lv st u w o) (kf : ¬ x = y → z_L p l e R s m args below meth c gC gR qo Q cells slots (pc + 3) lv st u w o) : z_L p l e R s m args below meth c gC gR qo Q cells slots pc lv (.int y :: .int x :: st) u w o :=
  fun H locs ls h1 h2 h3 => lv_icmp_eq X.1.1 X.1.2.1 hd ht (fun q => kt q H locs ls h1 h2 h3) (fun q => kf q H locs ls h1 h2 h3)
theorem z_licmp_ne (X : z_LX p l R s m args meth c cc own Ts gC gR qo b L xs) {x y : Int32} {off : Int} (tgt : Nat) (hd : decode cc pc = .ok (.if_icmp .ne off, 3)) (ht : (pc : Int) + off = (tgt : Int)) (kt : ¬ x = y → z_L p l e R s m args below meth c gC gR qo Q cells slots tgt lv st u w o) (kf : x = y → z_L p l e R s m args below meth c gC gR qo Q cells slots (pc + 3) lv st u w o) : z_L p l e R s m args below meth c gC gR qo Q cells slots pc lv (.int y :: .int x :: st) u w o :=
  fun H locs ls h1 h2 h3 => lv_icmp_ne X.1.1 X.1.2.1 hd ht (fun q => kt q H locs ls h1 h2 h3) (fun q => kf q H locs ls h1 h2 h3)
theorem z_licmp_gt (X : z_LX p l R s m args meth c cc own Ts gC gR qo b L xs) {x y : Int32} {off : Int} (tgt : Nat) (hd : decode cc pc = .ok (.if_icmp .gt off, 3)) (ht : (pc : Int) + off = (tgt : Int)) (kt : y < x → z_L p l e R s m args below meth c gC gR qo Q cells slots tgt lv st u w o) (kf : ¬ y < x → z_L p l e R s m args below meth c gC gR qo Q cells slots (pc + 3) lv st u w o) : z_L p l e R s m args below meth c gC gR qo Q cells slots pc lv (.int y :: .int x :: st) u w o :=
  fun H locs ls h1 h2 h3 => lv_icmp_gt X.1.1 X.1.2.1 hd ht (fun q => kt q H locs ls h1 h2 h3) (fun q => kf q H locs ls h1 h2 h3)
theorem z_lsame (X : z_LX p l R s m args meth c cc own Ts gC gR qo b L xs) {x : Int32} {off : Int} (tgt : Nat) (hd : decode cc pc = .ok (.if_icmp .eq off, 3)) (ht : (pc : Int) + off = (tgt : Int)) (k : z_L p l e R s m args below meth c gC gR qo Q cells slots tgt lv st u w o) : z_L p l e R s m args below meth c gC gR qo Q cells slots pc lv (.int x :: .int x :: st) u w o :=
  z_licmp_eq X tgt hd ht (fun _ => k) (fun h => absurd rfl h)
theorem z_lsameL (X : z_LX p l R s m args meth c cc own Ts gC gR qo b L xs) {x : Int64} {off : Int} (tgt : Nat) (hd0 : decode cc pc = .ok (.lcmp, 1)) (hd : decode cc (pc + 1) = .ok (.ifCond .eq off, 3)) (ht : ((pc + 1 : Nat) : Int) + off = (tgt : Int)) (k : z_L p l e R s m args below meth c gC gR qo Q cells slots tgt lv st u w o) : z_L p l e R s m args below meth c gC gR qo Q cells slots pc lv (.long x :: .long x :: st) u w o :=
  z_llcmp X hd0 (z_lif_eq X tgt hd ht (fun _ => k) (fun h => absurd (show lg_cmp x x = 0 by simp [lg_cmp]) h))
theorem z_lgoto (X : z_LX p l R s m args meth c cc own Ts gC gR qo b L xs) {off : Int} (tgt : Nat) (hd : decode cc pc = .ok (.goto off, 3)) (ht : (pc : Int) + off = (tgt : Int)) (k : z_L p l e R s m args below meth c gC gR qo Q cells slots tgt lv st u w o) : z_L p l e R s m args below meth c gC gR qo Q cells slots pc lv st u w o :=
  fun H locs ls h1 h2 h3 => lv_goto X.1.1 X.1.2.1 hd ht (k H locs ls h1 h2 h3)
theorem z_ltabOut (X : z_LX p l R s m args meth c cc own Ts gC gR qo b L xs) {x : Int32} {dflt lo hi : Int} {offs : Array Int} {len : Nat} (tgt : Nat) (hd : decode cc pc = .ok (.tableswitch dflt lo hi offs, len)) (h : x.toInt < lo ∨ hi < x.toInt) (ht : (pc : Int) + dflt = (tgt : Int)) (k : z_L p l e R s m args below meth c gC gR qo Q cells slots tgt lv st u w o) : z_L p l e R s m args below meth c gC gR qo Q cells slots pc lv (.int x :: st) u w o :=
  fun H locs ls h1 h2 h3 => lv_tableOut X.1.1 X.1.2.1 hd h ht (k H locs ls h1 h2 h3)
theorem z_ltabIn (X : z_LX p l R s m args meth c cc own Ts gC gR qo b L xs) {x : Int32} {dflt lo hi off : Int} {offs : Array Int} {len : Nat} (tgt : Nat) (hd : decode cc pc = .ok (.tableswitch dflt lo hi offs, len)) (q1 : ¬ x.toInt < lo) (q2 : ¬ hi < x.toInt) (ho : offs[(x.toInt - lo).toNat]? = some off) (ht : (pc : Int) + off = (tgt : Int)) (k : z_L p l e R s m args below meth c gC gR qo Q cells slots tgt lv st u w o) : z_L p l e R s m args below meth c gC gR qo Q cells slots pc lv (.int x :: st) u w o :=
  fun H locs ls h1 h2 h3 => lv_tableIn X.1.1 X.1.2.1 hd q1 q2 ho ht (k H locs ls h1 h2 h3)
theorem z_lpick (ks : List Nat) (lv' : List (Nat × Value)) (hl : lv_pick lv ks = lv') (k : z_L p l e R s m args below meth c gC gR qo Q cells slots pc lv' st u w o) : z_L p l e R s m args below meth c gC gR qo Q cells slots pc lv st u w o :=
  fun H locs ls h1 h2 h3 => k H locs ls (lv_sub h1 ks hl) h2 h3
theorem z_lcs {c' s' : Nat} (hc : cells ≤ c') (hs : slots ≤ s') (k : z_L p l e R s m args below meth c gC gR qo Q c' s' pc lv st u w o) : z_L p l e R s m args below meth c gC gR qo Q cells slots pc lv st u w o :=
  fun H locs ls h1 h2 h3 => W.widen hc hs (k H locs ls h1 h2 h3)
theorem z_lti {x y : Int32} (hx : x = y) (k : z_L p l e R s m args below meth c gC gR qo Q cells slots pc lv (.int y :: st) u w o) : z_L p l e R s m args below meth c gC gR qo Q cells slots pc lv (.int x :: st) u w o := hx ▸ k
theorem z_lsld (X : z_LX p l R s m args meth c cc own Ts gC gR qo b L xs) {i : Int32} (hin : vp_in i L) (hd : decode cc pc = .ok (.iaload, 1)) (k : z_L p l e R s m args below meth c gC gR qo Q cells slots (pc + 1) lv (.int (xs i.toNatClampNeg) :: st) u w o) : z_L p l e R s m args below meth c gC gR qo Q cells slots pc lv (.int i :: .ref b :: st) u w o :=
  fun H locs ls h1 h2 h3 => va_sld X.1.1 X.1.2.1 X.2.2.2.1.1 X.2.2.2.1.2 (Nat.not_le.mpr X.2.2.2.1.2) h3 hin hd (k H locs ls h1 h2 h3)
theorem z_lslen (X : z_LX p l R s m args meth c cc own Ts gC gR qo b L xs) (hd : decode cc pc = .ok (.arraylength, 1)) (k : z_L p l e R s m args below meth c gC gR qo Q cells slots (pc + 1) lv (.int (nI L) :: st) u w o) : z_L p l e R s m args below meth c gC gR qo Q cells slots pc lv (.ref b :: st) u w o :=
  fun H locs ls h1 h2 h3 => va_slen X.1.1 X.1.2.1 X.2.2.2.1.1 X.2.2.2.1.2 (Nat.not_le.mpr X.2.2.2.1.2) h3 hd (k H locs ls h1 h2 h3)
theorem z_lget (X : z_LX p l R s m args meth c cc own Ts gC gR qo b L xs) (j0 j4 n j : Nat) {v : Int32} (hn : n + j < L) (hL : L ≤ 2560) (hl0 : lv[j0]? = some (0, .ref b)) (hl4 : lv[j4]? = some (4, .int (nI n))) (hv : Int32.ofInt (j : Int) = v) (hvj : v = nI j) (d0 : decode cc pc = .ok (.aload_n 0, 1)) (d1 : decode cc (pc + 1) = .ok (.iload 4, 2)) (d2 : decode cc (pc + 1 + 2) = .ok (.iconst (j : Int), 1)) (d3 : decode cc (pc + 1 + 2 + 1) = .ok (.iadd, 1)) (d4 : decode cc (pc + 1 + 2 + 1 + 1) = .ok (.iaload, 1)) (k : z_L p l e R s m args below meth c gC gR qo Q cells slots (pc + 1 + 2 + 1 + 1 + 1) lv (.int (xs (n + j)) :: st) u w o) : z_L p l e R s m args below meth c gC gR qo Q cells slots pc lv st u w o := by
  refine z_laload_n X j0 d0 rfl hl0 (z_liload X j4 d1 hl4 (z_liconst X (v := v) d2 hv (z_liadd X d3 (z_lti (show nI n + v = nI (n + j) by rw [hvj, nI_add]) (z_lsld X (vp_in_nI hn (by omega)) d4 ?_)))))
  rw [nI_clamp (by omega)]
  exact k
theorem z_llald (X : z_LX p l R s m args meth c cc own Ts gC gR qo b L xs) (hd : decode cc pc = .ok (.laload, 1)) (k : z_L p l e R s m args below meth c gC gR qo Q cells slots (pc + 1) lv (.long (o 0) :: st) u w o) : z_L p l e R s m args below meth c gC gR qo Q cells slots pc lv (.int 0 :: .ref qo :: st) u w o :=
  fun H locs ls h1 h2 h3 => va_lald (D := gC.1) X.1.1 X.1.2.1 X.2.1 h2.2.2 0 4 rfl rfl (vp_in_nI (n := 0) (by decide) (by decide)) hd (k H locs ls h1 h2 h3)
theorem z_lH {g : z_G} {sh : List z_S} {v : z_M} {H : Heap} {locs : List Loc} {U : State} (hK : va_K gC.1 vwCl (z_tys gC) s) (hE : z_E gC (z_AL s) s s.heap) (h3 : va_S (z_AL s) s.heap H locs) (hg : g = z_gw gC (z_ad g)) (hA : ∀ q, z_A g sh q → z_AL s q) (hP : va_P gC.1 vwCl (z_wd g sh v) H) (hD : va_D (z_A g sh) (z_wd g sh v)) (hU : U.heap = H) (hW : s.WarmedH U.vm) : z_H g sh v U := by
  have hE2 : z_E gC (z_A g sh) U H := (hE.go h3 hW).narrow hA
  rw [← hU] at hE2 hP
  rw [hg] at hE2 hP hD ⊢
  exact ⟨va_K.moved hW.alike hK, hE2, hP, hD⟩
theorem z_lblind {g : z_G} {sh : List z_S} {v : z_M} {av : List Value} : FrameBlind (fun a U => a = av.toArray ∧ z_H g sh v U) :=
  fun a U g1 mk q => ⟨q.1, va_K.moved (u := U) (U := U.calling g1 mk a) (Vm.Alike.refl U.vm) q.2.1, z_E_same (s := U) rfl rfl q.2.2.1, q.2.2.2⟩
theorem z_lcallCi (X : z_LX p l R s m args meth c cc own Ts gC gR qo b L xs) {r : Int32} {u1 : z_M} {y : MethodName} {ws ws' : List Cond} {bytes : ByteArray} {maxL d index : Nat} {ret : Option FieldType} (As rest : List Value) (hM : z_C l gC z_shC y ws d (.ref (z_ad gC 80) :: As) u (fun v u' => v = some (.int r) ∧ u' = u1)) (hg : GoodIn Ts (wsV own index RX9 y ws)) (hdy : y.cls = RX9 ∧ y.cls ≠ "java/lang/invoke/MethodHandle" ∧ y.cls ≠ "java/lang/invoke/VarHandle" ∧ (parseMethodDescriptor y.desc).map (fun d => d.parameters.length) = some As.length) (hw : ws = Cond.code y bytes maxL ret :: ws') (hcc : cells ≤ 601024) (hss : slots ≤ 7293034) (hd1 : d ≤ 100) (hm : maxL ≤ 21) (hst : (rest.map fun v => v.category).sum ≤ 8) (hd : decode cc pc = .ok (.invokevirtual index, 3)) (k : z_L p l e R s m args below meth c gC gR qo Q cells slots (pc + 3) lv (.int r :: rest) u1 w o) : z_L p l e R s m args below meth c gC gR qo Q cells slots pc lv (As.reverse ++ .ref (z_ad gC 80) :: rest) u w o := by
  intro H locs ls h1 h2 h3
  have hR := X.2.2.2.2.2.2.1
  have hr := va_runV (R := R) (As := As) (rest := rest) (locs := locs) (cells := cells) (slots := slots) (e := e) (below := below) (meth := meth) (g := F0 m pc ls (As.reverse ++ .ref (z_ad gC 80) :: rest)) X.1 hM (cwV As.length X.1.2.2.2.2 hg hw rfl rfl hdy ⟨by rw [hR]; show d + 1 ≤ 2048; omega, by rw [hR]; show 8 + (maxL + 11) + 40 * d ≤ 84000; omega⟩) (H := H) ⟨z_lblind, va_recv X.2.1 h2.1 (show vwCl[9]? = _ from rfl) (z_wd_get z_c80), fun U hU hW => ⟨rfl, z_lH X.2.1 X.2.2.1 h3 rfl (X.2.2.2.2.1.2.2.1) h2.1 (X.2.2.2.2.1.1 u) hU hW⟩⟩ rfl rfl h1.1 rfl (lv_room hst) hd
  intro T0 hT X0
  have hcs : cells + 0 ≤ R.cells ∧ slots + 0 ≤ R.slots := by rw [hR]; exact ⟨hcc, hss⟩
  · obtain ⟨v, st₀, t, T', LS, g0, X', hLS, e1, e2, ⟨⟨r0, u', hv, ⟨hv1, hu⟩, hK, hE, hP, hD⟩, hz, hk⟩, stp⟩ := hr hcs T0 hT X0
    cases hv
    subst hv1
    rw [g0] at hz hk
    have k1 : va_P gC.1 vwCl (z_wd gR z_shR w) t.heap := h2.2.1.kept (fun k0 x hx => hk x.1 ((h2.2.1 k0 x hx).lt) (fun z => X.2.2.2.2.1.2.2.2.2.2.1 _ z ((X.2.2.2.2.1.2.1 w).2 k0 x hx)))
    have kO : va_P gC.1 vwCl [(qo, .inl (z_ct gC 4, 1, .inr (.inl o)))] t.heap := h2.2.2.kept (fun k0 x hx => hk x.1 ((h2.2.2 k0 x hx).lt) (by
      have hz : k0 < 1 := (List.getElem?_eq_some_iff.mp hx).1
      rw [show k0 = 0 by omega] at hx
      cases hx
      exact X.2.2.2.2.1.2.2.2.2.2.2.1))
    subst hu
    obtain ⟨t2, a1, b1⟩ := k T'.heap (locs ++ LS) ls h1 ⟨by rw [e1]; exact hP, by rw [e1]; exact k1, by rw [e1]; exact kO⟩ ⟨Nat.le_trans h3.1 (by rw [e1]; exact hz), fun z r1 r2 => by
        rw [e1, hk z (Nat.lt_of_lt_of_le r1 h3.1) (fun y => r2 (X.2.2.2.2.1.2.2.1 z y))]
        exact h3.2.1 z r1 r2, fun z hz0 => by
        rcases List.mem_append.mp hz0 with y | y
        · exact h3.2.2 z y
        · exact X.2.2.2.2.1.2.2.1 _ (hLS z y)⟩ T' rfl X'
    exact ⟨t2, stp t2 a1, b1⟩
theorem z_lcallCl (X : z_LX p l R s m args meth c cc own Ts gC gR qo b L xs) {r : Int64} {u1 : z_M} {y : MethodName} {ws ws' : List Cond} {bytes : ByteArray} {maxL d index : Nat} {ret : Option FieldType} (As rest : List Value) (hM : z_C l gC z_shC y ws d (.ref (z_ad gC 80) :: As) u (fun v u' => v = some (.long r) ∧ u' = u1)) (hg : GoodIn Ts (wsV own index RX9 y ws)) (hdy : y.cls = RX9 ∧ y.cls ≠ "java/lang/invoke/MethodHandle" ∧ y.cls ≠ "java/lang/invoke/VarHandle" ∧ (parseMethodDescriptor y.desc).map (fun d => d.parameters.length) = some As.length) (hw : ws = Cond.code y bytes maxL ret :: ws') (hcc : cells ≤ 601024) (hss : slots ≤ 7293034) (hd1 : d ≤ 100) (hm : maxL ≤ 21) (hst : (rest.map fun v => v.category).sum ≤ 8) (hd : decode cc pc = .ok (.invokevirtual index, 3)) (k : z_L p l e R s m args below meth c gC gR qo Q cells slots (pc + 3) lv (.long r :: rest) u1 w o) : z_L p l e R s m args below meth c gC gR qo Q cells slots pc lv (As.reverse ++ .ref (z_ad gC 80) :: rest) u w o := by
  intro H locs ls h1 h2 h3
  have hR := X.2.2.2.2.2.2.1
  have hr := va_runV (R := R) (As := As) (rest := rest) (locs := locs) (cells := cells) (slots := slots) (e := e) (below := below) (meth := meth) (g := F0 m pc ls (As.reverse ++ .ref (z_ad gC 80) :: rest)) X.1 hM (cwV As.length X.1.2.2.2.2 hg hw rfl rfl hdy ⟨by rw [hR]; show d + 1 ≤ 2048; omega, by rw [hR]; show 8 + (maxL + 11) + 40 * d ≤ 84000; omega⟩) (H := H) ⟨z_lblind, va_recv X.2.1 h2.1 (show vwCl[9]? = _ from rfl) (z_wd_get z_c80), fun U hU hW => ⟨rfl, z_lH X.2.1 X.2.2.1 h3 rfl (X.2.2.2.2.1.2.2.1) h2.1 (X.2.2.2.2.1.1 u) hU hW⟩⟩ rfl rfl h1.1 rfl (lv_room hst) hd
  intro T0 hT X0
  have hcs : cells + 0 ≤ R.cells ∧ slots + 0 ≤ R.slots := by rw [hR]; exact ⟨hcc, hss⟩
  · obtain ⟨v, st₀, t, T', LS, g0, X', hLS, e1, e2, ⟨⟨r0, u', hv, ⟨hv1, hu⟩, hK, hE, hP, hD⟩, hz, hk⟩, stp⟩ := hr hcs T0 hT X0
    cases hv
    subst hv1
    rw [g0] at hz hk
    have k1 : va_P gC.1 vwCl (z_wd gR z_shR w) t.heap := h2.2.1.kept (fun k0 x hx => hk x.1 ((h2.2.1 k0 x hx).lt) (fun z => X.2.2.2.2.1.2.2.2.2.2.1 _ z ((X.2.2.2.2.1.2.1 w).2 k0 x hx)))
    have kO : va_P gC.1 vwCl [(qo, .inl (z_ct gC 4, 1, .inr (.inl o)))] t.heap := h2.2.2.kept (fun k0 x hx => hk x.1 ((h2.2.2 k0 x hx).lt) (by
      have hz : k0 < 1 := (List.getElem?_eq_some_iff.mp hx).1
      rw [show k0 = 0 by omega] at hx
      cases hx
      exact X.2.2.2.2.1.2.2.2.2.2.2.1))
    subst hu
    obtain ⟨t2, a1, b1⟩ := k T'.heap (locs ++ LS) ls h1 ⟨by rw [e1]; exact hP, by rw [e1]; exact k1, by rw [e1]; exact kO⟩ ⟨Nat.le_trans h3.1 (by rw [e1]; exact hz), fun z r1 r2 => by
        rw [e1, hk z (Nat.lt_of_lt_of_le r1 h3.1) (fun y => r2 (X.2.2.2.2.1.2.2.1 z y))]
        exact h3.2.1 z r1 r2, fun z hz0 => by
        rcases List.mem_append.mp hz0 with y | y
        · exact h3.2.2 z y
        · exact X.2.2.2.2.1.2.2.1 _ (hLS z y)⟩ T' rfl X'
    exact ⟨t2, stp t2 a1, b1⟩
theorem z_lcallRi (X : z_LX p l R s m args meth c cc own Ts gC gR qo b L xs) {r : Int32} {u1 : z_M} {y : MethodName} {ws ws' : List Cond} {bytes : ByteArray} {maxL d index : Nat} {ret : Option FieldType} (As rest : List Value) (hM : z_C l gR z_shR y ws d (.ref (z_ad gR 0) :: As) w (fun v u' => v = some (.int r) ∧ u' = u1)) (hg : GoodIn Ts (wsV own index RX10 y ws)) (hdy : y.cls = RX10 ∧ y.cls ≠ "java/lang/invoke/MethodHandle" ∧ y.cls ≠ "java/lang/invoke/VarHandle" ∧ (parseMethodDescriptor y.desc).map (fun d => d.parameters.length) = some As.length) (hw : ws = Cond.code y bytes maxL ret :: ws') (hcc : cells ≤ 601024) (hss : slots ≤ 7293034) (hd1 : d ≤ 100) (hm : maxL ≤ 21) (hst : (rest.map fun v => v.category).sum ≤ 8) (hd : decode cc pc = .ok (.invokevirtual index, 3)) (k : z_L p l e R s m args below meth c gC gR qo Q cells slots (pc + 3) lv (.int r :: rest) u u1 o) : z_L p l e R s m args below meth c gC gR qo Q cells slots pc lv (As.reverse ++ .ref (z_ad gR 0) :: rest) u w o := by
  intro H locs ls h1 h2 h3
  have hR := X.2.2.2.2.2.2.1
  have hr := va_runV (R := R) (As := As) (rest := rest) (locs := locs) (cells := cells) (slots := slots) (e := e) (below := below) (meth := meth) (g := F0 m pc ls (As.reverse ++ .ref (z_ad gR 0) :: rest)) X.1 hM (cwV As.length X.1.2.2.2.2 hg hw rfl rfl hdy ⟨by rw [hR]; show d + 1 ≤ 2048; omega, by rw [hR]; show 8 + (maxL + 11) + 40 * d ≤ 84000; omega⟩) (H := H) ⟨z_lblind, va_recv X.2.1 h2.2.1 (show vwCl[10]? = _ from rfl) (z_wd_get z_r0), fun U hU hW => ⟨rfl, z_lH X.2.1 X.2.2.1 h3 X.2.2.2.2.2.1 (X.2.2.2.2.1.2.2.2.1) h2.2.1 (X.2.2.2.2.1.2.1 w) hU hW⟩⟩ rfl rfl h1.1 rfl (lv_room hst) hd
  intro T0 hT X0
  have hcs : cells + 0 ≤ R.cells ∧ slots + 0 ≤ R.slots := by rw [hR]; exact ⟨hcc, hss⟩
  · obtain ⟨v, st₀, t, T', LS, g0, X', hLS, e1, e2, ⟨⟨r0, u', hv, ⟨hv1, hu⟩, hK, hE, hP, hD⟩, hz, hk⟩, stp⟩ := hr hcs T0 hT X0
    cases hv
    subst hv1
    rw [g0] at hz hk
    have k1 : va_P gC.1 vwCl (z_wd gC z_shC u) t.heap := h2.1.kept (fun k0 x hx => hk x.1 ((h2.1 k0 x hx).lt) (fun z => X.2.2.2.2.1.2.2.2.2.2.1 _ ((X.2.2.2.2.1.1 u).2 k0 x hx) z))
    have kO : va_P gC.1 vwCl [(qo, .inl (z_ct gC 4, 1, .inr (.inl o)))] t.heap := h2.2.2.kept (fun k0 x hx => hk x.1 ((h2.2.2 k0 x hx).lt) (by
      have hz : k0 < 1 := (List.getElem?_eq_some_iff.mp hx).1
      rw [show k0 = 0 by omega] at hx
      cases hx
      exact X.2.2.2.2.1.2.2.2.2.2.2.2))
    have hP2 : va_P gC.1 vwCl (z_wd gR z_shR u') t.heap := by rw [X.2.2.2.2.2.1] at hP ⊢; exact hP
    subst hu
    obtain ⟨t2, a1, b1⟩ := k T'.heap (locs ++ LS) ls h1 ⟨by rw [e1]; exact k1, by rw [e1]; exact hP2, by rw [e1]; exact kO⟩ ⟨Nat.le_trans h3.1 (by rw [e1]; exact hz), fun z r1 r2 => by
        rw [e1, hk z (Nat.lt_of_lt_of_le r1 h3.1) (fun y => r2 (X.2.2.2.2.1.2.2.2.1 z y))]
        exact h3.2.1 z r1 r2, fun z hz0 => by
        rcases List.mem_append.mp hz0 with y | y
        · exact h3.2.2 z y
        · exact X.2.2.2.2.1.2.2.2.1 _ (hLS z y)⟩ T' rfl X'
    exact ⟨t2, stp t2 a1, b1⟩
theorem z_lcallRl (X : z_LX p l R s m args meth c cc own Ts gC gR qo b L xs) {r : Int64} {u1 : z_M} {y : MethodName} {ws ws' : List Cond} {bytes : ByteArray} {maxL d index : Nat} {ret : Option FieldType} (As rest : List Value) (hM : z_C l gR z_shR y ws d (.ref (z_ad gR 0) :: As) w (fun v u' => v = some (.long r) ∧ u' = u1)) (hg : GoodIn Ts (wsV own index RX10 y ws)) (hdy : y.cls = RX10 ∧ y.cls ≠ "java/lang/invoke/MethodHandle" ∧ y.cls ≠ "java/lang/invoke/VarHandle" ∧ (parseMethodDescriptor y.desc).map (fun d => d.parameters.length) = some As.length) (hw : ws = Cond.code y bytes maxL ret :: ws') (hcc : cells ≤ 601024) (hss : slots ≤ 7293034) (hd1 : d ≤ 100) (hm : maxL ≤ 21) (hst : (rest.map fun v => v.category).sum ≤ 8) (hd : decode cc pc = .ok (.invokevirtual index, 3)) (k : z_L p l e R s m args below meth c gC gR qo Q cells slots (pc + 3) lv (.long r :: rest) u u1 o) : z_L p l e R s m args below meth c gC gR qo Q cells slots pc lv (As.reverse ++ .ref (z_ad gR 0) :: rest) u w o := by
  intro H locs ls h1 h2 h3
  have hR := X.2.2.2.2.2.2.1
  have hr := va_runV (R := R) (As := As) (rest := rest) (locs := locs) (cells := cells) (slots := slots) (e := e) (below := below) (meth := meth) (g := F0 m pc ls (As.reverse ++ .ref (z_ad gR 0) :: rest)) X.1 hM (cwV As.length X.1.2.2.2.2 hg hw rfl rfl hdy ⟨by rw [hR]; show d + 1 ≤ 2048; omega, by rw [hR]; show 8 + (maxL + 11) + 40 * d ≤ 84000; omega⟩) (H := H) ⟨z_lblind, va_recv X.2.1 h2.2.1 (show vwCl[10]? = _ from rfl) (z_wd_get z_r0), fun U hU hW => ⟨rfl, z_lH X.2.1 X.2.2.1 h3 X.2.2.2.2.2.1 (X.2.2.2.2.1.2.2.2.1) h2.2.1 (X.2.2.2.2.1.2.1 w) hU hW⟩⟩ rfl rfl h1.1 rfl (lv_room hst) hd
  intro T0 hT X0
  have hcs : cells + 0 ≤ R.cells ∧ slots + 0 ≤ R.slots := by rw [hR]; exact ⟨hcc, hss⟩
  · obtain ⟨v, st₀, t, T', LS, g0, X', hLS, e1, e2, ⟨⟨r0, u', hv, ⟨hv1, hu⟩, hK, hE, hP, hD⟩, hz, hk⟩, stp⟩ := hr hcs T0 hT X0
    cases hv
    subst hv1
    rw [g0] at hz hk
    have k1 : va_P gC.1 vwCl (z_wd gC z_shC u) t.heap := h2.1.kept (fun k0 x hx => hk x.1 ((h2.1 k0 x hx).lt) (fun z => X.2.2.2.2.1.2.2.2.2.2.1 _ ((X.2.2.2.2.1.1 u).2 k0 x hx) z))
    have kO : va_P gC.1 vwCl [(qo, .inl (z_ct gC 4, 1, .inr (.inl o)))] t.heap := h2.2.2.kept (fun k0 x hx => hk x.1 ((h2.2.2 k0 x hx).lt) (by
      have hz : k0 < 1 := (List.getElem?_eq_some_iff.mp hx).1
      rw [show k0 = 0 by omega] at hx
      cases hx
      exact X.2.2.2.2.1.2.2.2.2.2.2.2))
    have hP2 : va_P gC.1 vwCl (z_wd gR z_shR u') t.heap := by rw [X.2.2.2.2.2.1] at hP ⊢; exact hP
    subst hu
    obtain ⟨t2, a1, b1⟩ := k T'.heap (locs ++ LS) ls h1 ⟨by rw [e1]; exact k1, by rw [e1]; exact hP2, by rw [e1]; exact kO⟩ ⟨Nat.le_trans h3.1 (by rw [e1]; exact hz), fun z r1 r2 => by
        rw [e1, hk z (Nat.lt_of_lt_of_le r1 h3.1) (fun y => r2 (X.2.2.2.2.1.2.2.2.1 z y))]
        exact h3.2.1 z r1 r2, fun z hz0 => by
        rcases List.mem_append.mp hz0 with y | y
        · exact h3.2.2 z y
        · exact X.2.2.2.2.1.2.2.2.1 _ (hLS z y)⟩ T' rfl X'
    exact ⟨t2, stp t2 a1, b1⟩
end ZL
