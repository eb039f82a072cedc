section
def z_SA (Inv : z_M → z_M → Prop) : Prop := z_S_sign Inv ∧ z_S_end Inv ∧ z_S_order Inv ∧ z_S_fault Inv ∧ z_S_relate Inv ∧ z_S_lift Inv ∧ z_S_rule Inv ∧ z_S_drop Inv ∧ z_S_undo Inv ∧ z_S_keep Inv ∧ z_S_again Inv ∧ z_S_of Inv ∧ z_S_label Inv ∧ z_S_height Inv ∧ z_S_join Inv ∧ z_S_meet Inv ∧ z_S_kind Inv ∧ z_S_width Inv ∧ z_S_ideals Inv ∧ z_S_extensions Inv ∧ z_S_extension Inv ∧ z_S_interval Inv ∧ z_S_chains Inv ∧ z_S_point Inv ∧ z_S_labelOf Inv ∧ z_S_falls Inv ∧ z_S_falling Inv ∧ z_S_flag Inv ∧ z_S_lexed Inv ∧ z_S_moebius Inv ∧ z_S_whitney Inv ∧ z_S_zeta Inv ∧ z_S_steps Inv ∧ z_S_faces Inv ∧ z_S_holes Inv ∧ z_S_shelled Inv ∧ z_S_crease Inv ∧ z_S_creased Inv ∧ z_S_without Inv ∧ z_S_counted Inv ∧ z_S_core Inv ∧ z_S_selves Inv ∧ z_S_like Inv ∧ z_S_count Inv
set_option maxRecDepth 20000 in
set_option maxHeartbeats 4000000 in
theorem law_switch {p : Program} {l : Launch} {e : Env} {R : Room} {s : State} {m : MethodId} {args : Array Value} {below : List Frame} {meth : Method} {c : Code} {Q : State → Prop} {gC gR : z_G} {qo b L : Nat} {xs : Nat → Int32} {n k : Nat} {u w : z_M} {o : Nat → Int64} (X : z_LX p l R s m args meth c cL_law RL lw_tbl gC gR qo b L xs) (hL : L ≤ 2560) (hn : n + 5 ≤ L) (hk : k ≤ 512) {Inv : z_M → z_M → Prop} (hI : Inv u w) (hS : z_SA Inv) (hc : ∀ u w o, Inv u w → z_L p l e R s m args below meth c gC gR qo Q (200 + (k + 1)) (20000 + 6 * (k + 1)) 1808 [(0, .ref b), (1, .ref (z_ad gC 80)), (2, .ref (z_ad gR 0)), (3, .ref qo), (4, .int (nI n))] [] u w o) {x : Int32} : z_L p l e R s m args below meth c gC gR qo Q (200 + k) (20000 + 6 * k) 39 [(0, .ref b), (1, .ref (z_ad gC 80)), (2, .ref (z_ad gR 0)), (3, .ref qo), (4, .int (nI n))] [.int x] u w o := by
  obtain ⟨s0, s1, s2, s3, s4, s5, s6, s7, s8, s9, s10, s11, s12, s13, s14, s15, s16, s17, s18, s19, s20, s21, s22, s23, s24, s25, s26, s27, s28, s29, s30, s31, s32, s33, s34, s35, s36, s37, s38, s39, s40, s41, s42, s43⟩ := hS
  by_cases c0 : x = 0
  · refine z_ltabIn X 228 dL_law_39 (by rw [c0]; decide) (by rw [c0]; decide) (by rw [c0]; rfl) (by decide) ?_
    exact law_sign X hL hn hk hI s0 hc
  by_cases c1 : x = 1
  · refine z_ltabIn X 253 dL_law_39 (by rw [c1]; decide) (by rw [c1]; decide) (by rw [c1]; rfl) (by decide) ?_
    exact law_end X hL hn hk hI s1 hc
  by_cases c2 : x = 2
  · refine z_ltabIn X 278 dL_law_39 (by rw [c2]; decide) (by rw [c2]; decide) (by rw [c2]; rfl) (by decide) ?_
    exact law_order X hL hn hk hI s2 hc
  by_cases c3 : x = 3
  · refine z_ltabIn X 291 dL_law_39 (by rw [c3]; decide) (by rw [c3]; decide) (by rw [c3]; rfl) (by decide) ?_
    exact law_fault X hL hn hk hI s3 hc
  by_cases c4 : x = 4
  · refine z_ltabIn X 316 dL_law_39 (by rw [c4]; decide) (by rw [c4]; decide) (by rw [c4]; rfl) (by decide) ?_
    exact law_relate X hL hn hk hI s4 hc
  by_cases c5 : x = 5
  · refine z_ltabIn X 353 dL_law_39 (by rw [c5]; decide) (by rw [c5]; decide) (by rw [c5]; rfl) (by decide) ?_
    exact law_lift X hL hn hk hI s5 hc
  by_cases c6 : x = 6
  · refine z_ltabIn X 402 dL_law_39 (by rw [c6]; decide) (by rw [c6]; decide) (by rw [c6]; rfl) (by decide) ?_
    exact law_rule X hL hn hk hI s6 hc
  by_cases c7 : x = 7
  · refine z_ltabIn X 427 dL_law_39 (by rw [c7]; decide) (by rw [c7]; decide) (by rw [c7]; rfl) (by decide) ?_
    exact law_drop X hL hn hk hI s7 hc
  by_cases c8 : x = 8
  · refine z_ltabIn X 452 dL_law_39 (by rw [c8]; decide) (by rw [c8]; decide) (by rw [c8]; rfl) (by decide) ?_
    exact law_undo X hL hn hk hI s8 hc
  by_cases c9 : x = 9
  · refine z_ltabIn X 465 dL_law_39 (by rw [c9]; decide) (by rw [c9]; decide) (by rw [c9]; rfl) (by decide) ?_
    exact law_keep X hL hn hk hI s9 hc
  by_cases c10 : x = 10
  · refine z_ltabIn X 490 dL_law_39 (by rw [c10]; decide) (by rw [c10]; decide) (by rw [c10]; rfl) (by decide) ?_
    exact law_again X hL hn hk hI s10 hc
  by_cases c11 : x = 11
  · refine z_ltabIn X 515 dL_law_39 (by rw [c11]; decide) (by rw [c11]; decide) (by rw [c11]; rfl) (by decide) ?_
    exact law_of X hL hn hk hI s11 hc
  by_cases c12 : x = 12
  · refine z_ltabIn X 583 dL_law_39 (by rw [c12]; decide) (by rw [c12]; decide) (by rw [c12]; rfl) (by decide) ?_
    exact law_label X hL hn hk hI s12 hc
  by_cases c13 : x = 13
  · refine z_ltabIn X 620 dL_law_39 (by rw [c13]; decide) (by rw [c13]; decide) (by rw [c13]; rfl) (by decide) ?_
    exact law_height X hL hn hk hI s13 hc
  by_cases c14 : x = 14
  · refine z_ltabIn X 645 dL_law_39 (by rw [c14]; decide) (by rw [c14]; decide) (by rw [c14]; rfl) (by decide) ?_
    exact law_join X hL hn hk hI s14 hc
  by_cases c15 : x = 15
  · refine z_ltabIn X 682 dL_law_39 (by rw [c15]; decide) (by rw [c15]; decide) (by rw [c15]; rfl) (by decide) ?_
    exact law_meet X hL hn hk hI s15 hc
  by_cases c16 : x = 16
  · refine z_ltabIn X 719 dL_law_39 (by rw [c16]; decide) (by rw [c16]; decide) (by rw [c16]; rfl) (by decide) ?_
    exact law_kind X hL hn hk hI s16 hc
  by_cases c17 : x = 17
  · refine z_ltabIn X 744 dL_law_39 (by rw [c17]; decide) (by rw [c17]; decide) (by rw [c17]; rfl) (by decide) ?_
    exact law_width X hL hn hk hI s17 hc
  by_cases c18 : x = 18
  · refine z_ltabIn X 757 dL_law_39 (by rw [c18]; decide) (by rw [c18]; decide) (by rw [c18]; rfl) (by decide) ?_
    exact law_ideals X hL hn hk hI s18 hc
  by_cases c19 : x = 19
  · refine z_ltabIn X 770 dL_law_39 (by rw [c19]; decide) (by rw [c19]; decide) (by rw [c19]; rfl) (by decide) ?_
    exact law_extensions X hL hn hk hI s19 hc
  by_cases c20 : x = 20
  · refine z_ltabIn X 783 dL_law_39 (by rw [c20]; decide) (by rw [c20]; decide) (by rw [c20]; rfl) (by decide) ?_
    exact law_extension X hL hn hk hI s20 hc
  by_cases c21 : x = 21
  · refine z_ltabIn X 808 dL_law_39 (by rw [c21]; decide) (by rw [c21]; decide) (by rw [c21]; rfl) (by decide) ?_
    exact law_interval X hL hn hk hI s21 hc
  by_cases c22 : x = 22
  · refine z_ltabIn X 845 dL_law_39 (by rw [c22]; decide) (by rw [c22]; decide) (by rw [c22]; rfl) (by decide) ?_
    exact law_chains X hL hn hk hI s22 hc
  by_cases c23 : x = 23
  · refine z_ltabIn X 894 dL_law_39 (by rw [c23]; decide) (by rw [c23]; decide) (by rw [c23]; rfl) (by decide) ?_
    exact law_point X hL hn hk hI s23 hc
  by_cases c24 : x = 24
  · refine z_ltabIn X 955 dL_law_39 (by rw [c24]; decide) (by rw [c24]; decide) (by rw [c24]; rfl) (by decide) ?_
    exact law_labelOf X hL hn hk hI s24 hc
  by_cases c25 : x = 25
  · refine z_ltabIn X 1016 dL_law_39 (by rw [c25]; decide) (by rw [c25]; decide) (by rw [c25]; rfl) (by decide) ?_
    exact law_falls X hL hn hk hI s25 hc
  by_cases c26 : x = 26
  · refine z_ltabIn X 1065 dL_law_39 (by rw [c26]; decide) (by rw [c26]; decide) (by rw [c26]; rfl) (by decide) ?_
    exact law_falling X hL hn hk hI s26 hc
  by_cases c27 : x = 27
  · refine z_ltabIn X 1114 dL_law_39 (by rw [c27]; decide) (by rw [c27]; decide) (by rw [c27]; rfl) (by decide) ?_
    exact law_flag X hL hn hk hI s27 hc
  by_cases c28 : x = 28
  · refine z_ltabIn X 1191 dL_law_39 (by rw [c28]; decide) (by rw [c28]; decide) (by rw [c28]; rfl) (by decide) ?_
    exact law_lexed X hL hn hk hI s28 hc
  by_cases c29 : x = 29
  · refine z_ltabIn X 1204 dL_law_39 (by rw [c29]; decide) (by rw [c29]; decide) (by rw [c29]; rfl) (by decide) ?_
    exact law_moebius X hL hn hk hI s29 hc
  by_cases c30 : x = 30
  · refine z_ltabIn X 1241 dL_law_39 (by rw [c30]; decide) (by rw [c30]; decide) (by rw [c30]; rfl) (by decide) ?_
    exact law_whitney X hL hn hk hI s30 hc
  by_cases c31 : x = 31
  · refine z_ltabIn X 1290 dL_law_39 (by rw [c31]; decide) (by rw [c31]; decide) (by rw [c31]; rfl) (by decide) ?_
    exact law_zeta X hL hn hk hI s31 hc
  by_cases c32 : x = 32
  · refine z_ltabIn X 1340 dL_law_39 (by rw [c32]; decide) (by rw [c32]; decide) (by rw [c32]; rfl) (by decide) ?_
    exact law_steps X hL hn hk hI s32 hc
  by_cases c33 : x = 33
  · refine z_ltabIn X 1389 dL_law_39 (by rw [c33]; decide) (by rw [c33]; decide) (by rw [c33]; rfl) (by decide) ?_
    exact law_faces X hL hn hk hI s33 hc
  by_cases c34 : x = 34
  · refine z_ltabIn X 1438 dL_law_39 (by rw [c34]; decide) (by rw [c34]; decide) (by rw [c34]; rfl) (by decide) ?_
    exact law_holes X hL hn hk hI s34 hc
  by_cases c35 : x = 35
  · refine z_ltabIn X 1499 dL_law_39 (by rw [c35]; decide) (by rw [c35]; decide) (by rw [c35]; rfl) (by decide) ?_
    exact law_shelled X hL hn hk hI s35 hc
  by_cases c36 : x = 36
  · refine z_ltabIn X 1536 dL_law_39 (by rw [c36]; decide) (by rw [c36]; decide) (by rw [c36]; rfl) (by decide) ?_
    exact law_crease X hL hn hk hI s36 hc
  by_cases c37 : x = 37
  · refine z_ltabIn X 1585 dL_law_39 (by rw [c37]; decide) (by rw [c37]; decide) (by rw [c37]; rfl) (by decide) ?_
    exact law_creased X hL hn hk hI s37 hc
  by_cases c38 : x = 38
  · refine z_ltabIn X 1634 dL_law_39 (by rw [c38]; decide) (by rw [c38]; decide) (by rw [c38]; rfl) (by decide) ?_
    exact law_without X hL hn hk hI s38 hc
  by_cases c39 : x = 39
  · refine z_ltabIn X 1683 dL_law_39 (by rw [c39]; decide) (by rw [c39]; decide) (by rw [c39]; rfl) (by decide) ?_
    exact law_counted X hL hn hk hI s39 hc
  by_cases c40 : x = 40
  · refine z_ltabIn X 1720 dL_law_39 (by rw [c40]; decide) (by rw [c40]; decide) (by rw [c40]; rfl) (by decide) ?_
    exact law_core X hL hn hk hI s40 hc
  by_cases c41 : x = 41
  · refine z_ltabIn X 1745 dL_law_39 (by rw [c41]; decide) (by rw [c41]; decide) (by rw [c41]; rfl) (by decide) ?_
    exact law_selves X hL hn hk hI s41 hc
  by_cases c42 : x = 42
  · refine z_ltabIn X 1758 dL_law_39 (by rw [c42]; decide) (by rw [c42]; decide) (by rw [c42]; rfl) (by decide) ?_
    exact law_like X hL hn hk hI s42 hc
  by_cases c43 : x = 43
  · refine z_ltabIn X 1783 dL_law_39 (by rw [c43]; decide) (by rw [c43]; decide) (by rw [c43]; rfl) (by decide) ?_
    exact law_count X hL hn hk hI s43 hc
  refine z_ltabOut X 1808 dL_law_39 ?_ (by decide) (z_lcs (by omega) (by omega) (hc u w o hI))
  have k0 := lv_neT (a := 0) c0 (by decide)
  have k1 := lv_neT (a := 1) c1 (by decide)
  have k2 := lv_neT (a := 2) c2 (by decide)
  have k3 := lv_neT (a := 3) c3 (by decide)
  have k4 := lv_neT (a := 4) c4 (by decide)
  have k5 := lv_neT (a := 5) c5 (by decide)
  have k6 := lv_neT (a := 6) c6 (by decide)
  have k7 := lv_neT (a := 7) c7 (by decide)
  have k8 := lv_neT (a := 8) c8 (by decide)
  have k9 := lv_neT (a := 9) c9 (by decide)
  have k10 := lv_neT (a := 10) c10 (by decide)
  have k11 := lv_neT (a := 11) c11 (by decide)
  have k12 := lv_neT (a := 12) c12 (by decide)
  have k13 := lv_neT (a := 13) c13 (by decide)
  have k14 := lv_neT (a := 14) c14 (by decide)
  have k15 := lv_neT (a := 15) c15 (by decide)
  have k16 := lv_neT (a := 16) c16 (by decide)
  have k17 := lv_neT (a := 17) c17 (by decide)
  have k18 := lv_neT (a := 18) c18 (by decide)
  have k19 := lv_neT (a := 19) c19 (by decide)
  have k20 := lv_neT (a := 20) c20 (by decide)
  have k21 := lv_neT (a := 21) c21 (by decide)
  have k22 := lv_neT (a := 22) c22 (by decide)
  have k23 := lv_neT (a := 23) c23 (by decide)
  have k24 := lv_neT (a := 24) c24 (by decide)
  have k25 := lv_neT (a := 25) c25 (by decide)
  have k26 := lv_neT (a := 26) c26 (by decide)
  have k27 := lv_neT (a := 27) c27 (by decide)
  have k28 := lv_neT (a := 28) c28 (by decide)
  have k29 := lv_neT (a := 29) c29 (by decide)
  have k30 := lv_neT (a := 30) c30 (by decide)
  have k31 := lv_neT (a := 31) c31 (by decide)
  have k32 := lv_neT (a := 32) c32 (by decide)
  have k33 := lv_neT (a := 33) c33 (by decide)
  have k34 := lv_neT (a := 34) c34 (by decide)
  have k35 := lv_neT (a := 35) c35 (by decide)
  have k36 := lv_neT (a := 36) c36 (by decide)
  have k37 := lv_neT (a := 37) c37 (by decide)
  have k38 := lv_neT (a := 38) c38 (by decide)
  have k39 := lv_neT (a := 39) c39 (by decide)
  have k40 := lv_neT (a := 40) c40 (by decide)
  have k41 := lv_neT (a := 41) c41 (by decide)
  have k42 := lv_neT (a := 42) c42 (by decide)
  have k43 := lv_neT (a := 43) c43 (by decide)
  omega
theorem z_tail {L n : Nat} (h : L < n + 5) (hL : L ≤ 2560) (hn : n ≤ 2565) : nI L - 5 < nI n := by
  apply Int32.lt_iff_toInt_lt.mpr
  have h1 : (nI L).toInt = L := nI_toInt (by omega)
  have h2 : (nI n).toInt = n := nI_toInt (by omega)
  have h5 : (nI L - 5).toInt = (L : Int) - 5 := by
    rw [Int32.toInt_sub, h1]
    show Int.bmod ((L : Int) - 5) (2 ^ 32) = _
    rw [Int.bmod_eq_of_le] <;> omega
  omega
set_option maxRecDepth 20000 in
set_option maxHeartbeats 4000000 in
theorem law_loop {p : Program} {l : Launch} {e : Env} {R : Room} {s : State} {m : MethodId} {args : Array Value} {below : List Frame} {meth : Method} {c : Code} {Q : State → Prop} {gC gR : z_G} {qo b L : Nat} {xs : Nat → Int32} (X : z_LX p l R s m args meth c cL_law RL lw_tbl gC gR qo b L xs) (hL : L ≤ 2560) {Inv : z_M → z_M → Prop} (hS : z_SA Inv) (hend : ∀ cells slots lv u w o, cells ≤ 713 → slots ≤ 23078 → z_L p l e R s m args below meth c gC gR qo Q cells slots 1814 lv [] u w o) : ∀ (f k : Nat) (u w : z_M) (o : Nat → Int64), k + f = 513 → 5 * k ≤ 2565 → Inv u w → z_L p l e R s m args below meth c gC gR qo Q (200 + k) (20000 + 6 * k) 23 [(0, .ref b), (1, .ref (z_ad gC 80)), (2, .ref (z_ad gR 0)), (3, .ref qo), (4, .int (nI (5 * k)))] [] u w o := by
  intro f
  induction f with
  | zero =>
    intro k u w o hk _ hI
    refine z_liload X 4 dL_law_23 rfl (z_laload_n X 0 dL_law_25 rfl rfl (z_lslen X dL_law_26 (z_liconst X (v := 5) dL_law_27 (by decide) (z_lisub X dL_law_28 (z_licmp_gt X 1814 dL_law_29 (by decide) (fun _ => hend _ _ _ u w o (by omega) (by omega)) (fun h => absurd (z_tail (by omega) (by omega) (by omega)) h))))))
  | succ f ih =>
    intro k u w o hk hk5 hI
    refine z_liload X 4 dL_law_23 rfl (z_laload_n X 0 dL_law_25 rfl rfl (z_lslen X dL_law_26 (z_liconst X (v := 5) dL_law_27 (by decide) (z_lisub X dL_law_28 (z_licmp_gt X 1814 dL_law_29 (by decide) (fun _ => hend _ _ _ u w o (by omega) (by omega)) (fun h => ?_))))))
    have hn : 5 * k + 5 ≤ L := by
      rcases Nat.lt_or_ge L (5 * k + 5) with h1 | h1
      · exact absurd (z_tail h1 hL (by omega)) h
      · exact h1
    refine z_laload_n X 0 dL_law_32 rfl rfl (z_liload X 4 dL_law_33 rfl (z_lsld X (vp_in_nI (by omega) (by omega)) dL_law_35 (z_lbipush X (v := 63) dL_law_36 (by decide) (z_liand X dL_law_38 ?_))))
    refine law_switch X hL hn (by omega) hI hS (fun u w o hI => ?_)
    refine z_liinc X (v := nI (5 * (k + 1))) 4 [(4, .int (nI (5 * (k + 1)))), (0, .ref b), (1, .ref (z_ad gC 80)), (2, .ref (z_ad gR 0)), (3, .ref qo)] dL_law_1808 rfl ?_ (by decide) rfl (z_lgoto X 23 dL_law_1811 (by decide) (z_lpick [1, 2, 3, 4, 0] [(0, .ref b), (1, .ref (z_ad gC 80)), (2, .ref (z_ad gR 0)), (3, .ref qo), (4, .int (nI (5 * (k + 1))))] rfl (ih (k + 1) u w o (by omega) (by omega) hI)))
    rw [show (Int32.ofInt 5) = nI 5 from rfl, nI_add]
    rfl
end
