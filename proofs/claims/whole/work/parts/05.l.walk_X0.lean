set_option maxRecDepth 100000 in
set_option maxHeartbeats 4000000 in
theorem wX0_spread {h : zMm} {K : zMm → Prop} {v2 : Int} {v3 : Int} (w : ((0 ≤ v2 ∧ v2 < 2147483648) ∧ zCi mX3_ahead [.ref 10, .int (zI (v2 / 4)), .int (zI (v2 % 4))] zS0 h (fun x2 h2 => (zR x2 ∧ (zR v3 ∧ ((¬ x2 = v3 → ((x2 < 0 → RR mX0_spread 0 0 84 [some (.ref 48), none, some (.int (zI v2)), none, none, some (.int (zI (v2 / 4))), none, some (.int (zI 0))] [] zS0 h2 (zQv zS0 K)) ∧ (¬ x2 < 0 → ((0 ≤ ((x2 * 4) + (v2 % 4)) ∧ ((x2 * 4) + (v2 % 4)) < 144) ∧ ((0 ≤ v2 ∧ v2 < 144) ∧ K (zU h2 50 ((x2 * 4) + (v2 % 4)) ((h2 50 ((x2 * 4) + (v2 % 4))) + (4 * (h2 49 v2))))))))) ∧ (x2 = v3 → ((0 ≤ v2 ∧ v2 < 144) ∧ K (zU h2 48 2 ((h2 48 2) + (4 * (h2 49 v2)))))))))))) : zCv mX0_spread [.ref 48, .ref 10, .int (zI v2), .int (zI v3)] zS0 h K := by
  show RR mX0_spread 0 0 0 [some (.ref 48), some (.ref 10), some (.int (zI v2)), some (.int (zI v3)), none, none, none, none] [] zS0 h (zQv zS0 K)
  refine r_iload_n (pc := 0) (x := v2) dX0_spread_0 rfl ?_
  refine r_iconst (pc := 1) dX0_spread_1 ?_
  obtain ⟨hx1, w⟩ := w
  refine r_irem (pc := 2) (x := v2) (y := 4) dX0_spread_2 hx1 (by decide) ?_
  refine r_istore (pc := 3) (L' := [some (.ref 48), some (.ref 10), some (.int (zI v2)), some (.int (zI v3)), some (.int (zI (v2 % 4))), none, none, none]) dX0_spread_3 (by decide) rfl ?_
  refine r_iload_n (pc := 5) (x := v2) dX0_spread_5 rfl ?_
  refine r_iconst (pc := 6) dX0_spread_6 ?_
  refine r_idiv (pc := 7) (x := v2) (y := 4) dX0_spread_7 ⟨by omega, by omega⟩ (by decide) ?_
  refine r_istore (pc := 8) (L' := [some (.ref 48), some (.ref 10), some (.int (zI v2)), some (.int (zI v3)), some (.int (zI (v2 % 4))), some (.int (zI (v2 / 4))), none, none]) dX0_spread_8 (by decide) rfl ?_
  refine r_aload_n (pc := 10) (a := 10) dX0_spread_10 rfl ?_
  refine r_iload (pc := 11) (x := (v2 / 4)) dX0_spread_11 rfl ?_
  refine r_iload (pc := 13) (x := (v2 % 4)) dX0_spread_13 rfl ?_
  refine r_callV (μ2 := mX3_ahead) (pc := 15) (as := [.int (zI (v2 / 4)), .int (zI (v2 % 4))]) (st := []) rfl s0_10 ml_X0_52 im_X3_ahead se_X3_ahead okX3_ahead ⟨by decide, by decide⟩ dX0_spread_15 (Nat.le_of_ble_eq_true rfl) rfl (Nat.le_of_ble_eq_true rfl) (by decide) (by decide) (zCC.mono w ?_)
  rintro r S' h2 ⟨rfl, x2, hr, w⟩
  subst hr
  show RR mX0_spread 0 0 18 [some (.ref 48), some (.ref 10), some (.int (zI v2)), some (.int (zI v3)), some (.int (zI (v2 % 4))), some (.int (zI (v2 / 4))), none, none] [.int (zI x2)] zS0 h2 (zQv zS0 K)
  refine r_istore (pc := 18) (L' := [some (.ref 48), some (.ref 10), some (.int (zI v2)), some (.int (zI v3)), some (.int (zI (v2 % 4))), some (.int (zI (v2 / 4))), some (.int (zI x2)), none]) dX0_spread_18 (by decide) rfl ?_
  refine r_iload (pc := 20) (x := x2) dX0_spread_20 rfl ?_
  refine r_iload_n (pc := 22) (x := v3) dX0_spread_22 rfl ?_
  obtain ⟨hr3, w⟩ := w
  obtain ⟨hr4, w⟩ := w
  refine r_icmp_ne (pc := 23) (x := x2) (y := v3) (tgt := 48) dX0_spread_23 (by decide) hr3 hr4 (fun c => ?_) (fun c => ?_)
  · have w := w.1 (c)
    refine r_iload (pc := 48) (x := x2) dX0_spread_48 rfl ?_
    refine r_if_lt (pc := 50) (x := x2) (tgt := 81) dX0_spread_50 (by decide) hr3 (fun c => ?_) (fun c => ?_)
    · have w := w.1 (c)
      refine r_iconst (pc := 81) dX0_spread_81 ?_
      refine r_istore (pc := 82) (L' := [some (.ref 48), some (.ref 10), some (.int (zI v2)), some (.int (zI v3)), some (.int (zI (v2 % 4))), some (.int (zI (v2 / 4))), some (.int (zI x2)), some (.int (zI 0))]) dX0_spread_82 (by decide) rfl ?_
      exact RR.sub (L' := [some (.ref 48), none, some (.int (zI v2)), none, none, some (.int (zI (v2 / 4))), none, some (.int (zI 0))]) (zSb_of (⟨rfl, ⟨rfl, ⟨rfl, ⟨rfl, trivial⟩⟩⟩⟩)) w
    · have w := w.2 (c)
      refine r_aload_n (pc := 53) (a := 48) dX0_spread_53 rfl ?_
      refine r_getR (pc := 54) (b := 50) fl_X0_15 dX0_spread_54 s0_48 rfl ?_
      refine r_iload (pc := 57) (x := x2) dX0_spread_57 rfl ?_
      refine r_iconst (pc := 59) dX0_spread_59 ?_
      refine r_imul (pc := 60) (x := x2) (y := 4) dX0_spread_60 ?_
      refine r_iload (pc := 61) (x := (v2 % 4)) dX0_spread_61 rfl ?_
      refine r_iadd (pc := 63) (x := (x2 * 4)) (y := (v2 % 4)) dX0_spread_63 ?_
      refine r_dup2 (pc := 64) rfl rfl dX0_spread_64 ?_
      obtain ⟨hb6, w⟩ := w
      refine r_lald (pc := 65) (i := ((x2 * 4) + (v2 % 4))) (x := (h2 50 ((x2 * 4) + (v2 % 4)))) dX0_spread_65 s0_50 ⟨hb6.1, hb6.2, (by decide)⟩ (rfl) ?_
      refine r_ldcL (pc := 66) (x := 4) dX0_spread_66 kl_X0_35 ?_
      refine r_aload_n (pc := 69) (a := 48) dX0_spread_69 rfl ?_
      refine r_getR (pc := 70) (b := 49) fl_X0_9 dX0_spread_70 s0_48 rfl ?_
      refine r_iload_n (pc := 73) (x := v2) dX0_spread_73 rfl ?_
      obtain ⟨hb7, w⟩ := w
      refine r_lald (pc := 74) (i := v2) (x := (h2 49 v2)) dX0_spread_74 s0_49 ⟨hb7.1, hb7.2, (by decide)⟩ (rfl) ?_
      refine r_lmul (pc := 75) (x := 4) (y := (h2 49 v2)) dX0_spread_75 ?_
      refine r_ladd (pc := 76) (x := (h2 50 ((x2 * 4) + (v2 % 4)))) (y := (4 * (h2 49 v2))) dX0_spread_76 ?_
      refine r_last (pc := 77) (i := ((x2 * 4) + (v2 % 4))) (x := ((h2 50 ((x2 * 4) + (v2 % 4))) + (4 * (h2 49 v2)))) dX0_spread_77 s0_50 ⟨by omega, by omega, (by decide)⟩  ?_
      refine r_goto (pc := 78) (tgt := 117) dX0_spread_78 (by decide) ?_
      exact r_ret (st := []) (pc := 117) dX0_spread_117 rfl rfl (by decide) ⟨rfl, rfl, w⟩
  · have w := w.2 (c)
    refine r_aload_n (pc := 26) (a := 48) dX0_spread_26 rfl ?_
    refine r_dup (pc := 27) rfl dX0_spread_27 ?_
    refine r_getJ (pc := 28) (fi := 2) (x := (h2 48 2)) fl_X0_24 dX0_spread_28 s0_48 rfl (rfl) ?_
    refine r_ldcL (pc := 31) (x := 4) dX0_spread_31 kl_X0_35 ?_
    refine r_aload_n (pc := 34) (a := 48) dX0_spread_34 rfl ?_
    refine r_getR (pc := 35) (b := 49) fl_X0_9 dX0_spread_35 s0_48 rfl ?_
    refine r_iload_n (pc := 38) (x := v2) dX0_spread_38 rfl ?_
    obtain ⟨hb8, w⟩ := w
    refine r_lald (pc := 39) (i := v2) (x := (h2 49 v2)) dX0_spread_39 s0_49 ⟨hb8.1, hb8.2, (by decide)⟩ (rfl) ?_
    refine r_lmul (pc := 40) (x := 4) (y := (h2 49 v2)) dX0_spread_40 ?_
    refine r_ladd (pc := 41) (x := (h2 48 2)) (y := (4 * (h2 49 v2))) dX0_spread_41 ?_
    refine r_putJ (pc := 42) (fi := 2) (x := ((h2 48 2) + (4 * (h2 49 v2)))) fl_X0_24 dX0_spread_42 s0_48 rfl ?_
    refine r_goto (pc := 45) (tgt := 117) dX0_spread_45 (by decide) ?_
    exact r_ret (st := []) (pc := 117) dX0_spread_117 rfl rfl (by decide) ⟨rfl, rfl, w⟩

set_option maxRecDepth 100000 in
set_option maxHeartbeats 4000000 in
theorem bX0_spread_84 {h : zMm} {K : zMm → Prop} {v2 : Int} {v5 : Int} {v7 : Int} (w : (zR v7 ∧ ((4 ≤ v7 → K h) ∧ (¬ 4 ≤ v7 → ((0 ≤ ((v5 * 4) + v7) ∧ ((v5 * 4) + v7) < 144) ∧ ((0 ≤ v2 ∧ v2 < 144) ∧ RR mX0_spread 0 0 84 [some (.ref 48), none, some (.int (zI v2)), none, none, some (.int (zI v5)), none, some (.int (zI (v7 + 1)))] [] zS0 (zU h 50 ((v5 * 4) + v7) ((h 50 ((v5 * 4) + v7)) + (h 49 v2))) (zQv zS0 K))))))) : RR mX0_spread 0 0 84 [some (.ref 48), none, some (.int (zI v2)), none, none, some (.int (zI v5)), none, some (.int (zI v7))] [] zS0 h (zQv zS0 K) := by
  refine r_iload (pc := 84) (x := v7) dX0_spread_84 rfl ?_
  refine r_iconst (pc := 86) dX0_spread_86 ?_
  obtain ⟨hr9, w⟩ := w
  refine r_icmp_ge (pc := 87) (x := v7) (y := 4) (tgt := 117) dX0_spread_87 (by decide) hr9 (by decide) (fun c => ?_) (fun c => ?_)
  · have w := w.1 (c)
    exact r_ret (st := []) (pc := 117) dX0_spread_117 rfl rfl (by decide) ⟨rfl, rfl, w⟩
  · have w := w.2 (c)
    refine r_aload_n (pc := 90) (a := 48) dX0_spread_90 rfl ?_
    refine r_getR (pc := 91) (b := 50) fl_X0_15 dX0_spread_91 s0_48 rfl ?_
    refine r_iload (pc := 94) (x := v5) dX0_spread_94 rfl ?_
    refine r_iconst (pc := 96) dX0_spread_96 ?_
    refine r_imul (pc := 97) (x := v5) (y := 4) dX0_spread_97 ?_
    refine r_iload (pc := 98) (x := v7) dX0_spread_98 rfl ?_
    refine r_iadd (pc := 100) (x := (v5 * 4)) (y := v7) dX0_spread_100 ?_
    refine r_dup2 (pc := 101) rfl rfl dX0_spread_101 ?_
    obtain ⟨hb10, w⟩ := w
    refine r_lald (pc := 102) (i := ((v5 * 4) + v7)) (x := (h 50 ((v5 * 4) + v7))) dX0_spread_102 s0_50 ⟨hb10.1, hb10.2, (by decide)⟩ (rfl) ?_
    refine r_aload_n (pc := 103) (a := 48) dX0_spread_103 rfl ?_
    refine r_getR (pc := 104) (b := 49) fl_X0_9 dX0_spread_104 s0_48 rfl ?_
    refine r_iload_n (pc := 107) (x := v2) dX0_spread_107 rfl ?_
    obtain ⟨hb11, w⟩ := w
    refine r_lald (pc := 108) (i := v2) (x := (h 49 v2)) dX0_spread_108 s0_49 ⟨hb11.1, hb11.2, (by decide)⟩ (rfl) ?_
    refine r_ladd (pc := 109) (x := (h 50 ((v5 * 4) + v7))) (y := (h 49 v2)) dX0_spread_109 ?_
    refine r_last (pc := 110) (i := ((v5 * 4) + v7)) (x := ((h 50 ((v5 * 4) + v7)) + (h 49 v2))) dX0_spread_110 s0_50 ⟨by omega, by omega, (by decide)⟩  ?_
    refine r_iinc (pc := 111) (x := v7) (L' := [some (.ref 48), none, some (.int (zI v2)), none, none, some (.int (zI v5)), none, some (.int (zI (v7 + 1)))]) dX0_spread_111 rfl (by decide) rfl ?_
    refine r_goto (pc := 114) (tgt := 84) dX0_spread_114 (by decide) ?_
    exact w

set_option maxRecDepth 100000 in
set_option maxHeartbeats 4000000 in
theorem wX0_goStep {h : zMm} {K : zMm → Prop} {v2 : Int} (w : zCv mJ7_fill_d0a16 [.ref 50, .long (zJ 0)] zS0 h (fun h1 => RR mX0_goStep 0 0 22 [some (.ref 48), some (.ref 10), some (.int (zI v2)), some (.int (zI 0))] [] zS0 (zU h1 48 2 ((h1 48 2) * 4)) (zQv zS0 K))) : zCv mX0_goStep [.ref 48, .ref 10, .int (zI v2)] zS0 h K := by
  show RR mX0_goStep 0 0 0 [some (.ref 48), some (.ref 10), some (.int (zI v2)), none] [] zS0 h (zQv zS0 K)
  refine r_aload_n (pc := 0) (a := 48) dX0_goStep_0 rfl ?_
  refine r_getR (pc := 1) (b := 50) fl_X0_15 dX0_goStep_1 s0_48 rfl ?_
  refine r_lconst (pc := 4) (x := 0) dX0_goStep_4 rfl ?_
  refine r_callS (μ2 := mJ7_fill_d0a16) (pc := 5) (as := [.ref 50, .long (zJ 0)]) (st := []) ml_X0_18 sm_J7_fill_d0a16 okJ7_fill_d0a16 ⟨by decide, by decide⟩ dX0_goStep_5 (Nat.le_of_ble_eq_true rfl) rfl (Nat.le_of_ble_eq_true rfl) (by decide) (by decide) (zCC.mono w ?_)
  rintro r S' h1 ⟨rfl, hr, w⟩
  subst hr
  show RR mX0_goStep 0 0 8 [some (.ref 48), some (.ref 10), some (.int (zI v2)), none] [] zS0 h1 (zQv zS0 K)
  refine r_aload_n (pc := 8) (a := 48) dX0_goStep_8 rfl ?_
  refine r_dup (pc := 9) rfl dX0_goStep_9 ?_
  refine r_getJ (pc := 10) (fi := 2) (x := (h1 48 2)) fl_X0_24 dX0_goStep_10 s0_48 rfl (rfl) ?_
  refine r_ldcL (pc := 13) (x := 4) dX0_goStep_13 kl_X0_35 ?_
  refine r_lmul (pc := 16) (x := (h1 48 2)) (y := 4) dX0_goStep_16 ?_
  refine r_putJ (pc := 17) (fi := 2) (x := ((h1 48 2) * 4)) fl_X0_24 dX0_goStep_17 s0_48 rfl ?_
  refine r_iconst (pc := 20) dX0_goStep_20 ?_
  refine r_istore_n (pc := 21) (L' := [some (.ref 48), some (.ref 10), some (.int (zI v2)), some (.int (zI 0))]) dX0_goStep_21 (by decide) rfl ?_
  exact w

set_option maxRecDepth 100000 in
set_option maxHeartbeats 4000000 in
theorem bX0_goStep_22 {h : zMm} {K : zMm → Prop} {v2 : Int} {v3 : Int} (w : (zR v3 ∧ ((144 ≤ v3 → K (zCp h 50 49 144)) ∧ (¬ 144 ≤ v3 → ((0 ≤ v3 ∧ v3 < 144) ∧ (zRl (h 49 v3) ∧ (((h 49 v3) ≤ 0 → RR mX0_goStep 0 0 22 [some (.ref 48), some (.ref 10), some (.int (zI v2)), some (.int (zI (v3 + 1)))] [] zS0 h (zQv zS0 K)) ∧ (¬ (h 49 v3) ≤ 0 → zCv mX0_spread [.ref 48, .ref 10, .int (zI v3), .int (zI v2)] zS0 h (fun h5 => RR mX0_goStep 0 0 22 [some (.ref 48), some (.ref 10), some (.int (zI v2)), some (.int (zI (v3 + 1)))] [] zS0 h5 (zQv zS0 K)))))))))) : RR mX0_goStep 0 0 22 [some (.ref 48), some (.ref 10), some (.int (zI v2)), some (.int (zI v3))] [] zS0 h (zQv zS0 K) := by
  refine r_iload_n (pc := 22) (x := v3) dX0_goStep_22 rfl ?_
  refine r_sipush (pc := 23) (x := 144) dX0_goStep_23 (by decide) ?_
  obtain ⟨hr2, w⟩ := w
  refine r_icmp_ge (pc := 26) (x := v3) (y := 144) (tgt := 53) dX0_goStep_26 (by decide) hr2 (by decide) (fun c => ?_) (fun c => ?_)
  · have w := w.1 (c)
    refine r_aload_n (pc := 53) (a := 48) dX0_goStep_53 rfl ?_
    refine r_getR (pc := 54) (b := 50) fl_X0_15 dX0_goStep_54 s0_48 rfl ?_
    refine r_iconst (pc := 57) dX0_goStep_57 ?_
    refine r_aload_n (pc := 58) (a := 48) dX0_goStep_58 rfl ?_
    refine r_getR (pc := 59) (b := 49) fl_X0_9 dX0_goStep_59 s0_48 rfl ?_
    refine r_iconst (pc := 62) dX0_goStep_62 ?_
    refine r_sipush (pc := 63) (x := 144) dX0_goStep_63 (by decide) ?_
    refine r_copy_long (pc := 66) ml_X0_46 mw_native mw_static mw_init dX0_goStep_66 s0_50 s0_49 (by decide) (by decide) (by decide) ?_
    exact r_ret (st := []) (pc := 69) dX0_goStep_69 rfl rfl (by decide) ⟨rfl, rfl, w⟩
  · have w := w.2 (c)
    refine r_aload_n (pc := 29) (a := 48) dX0_goStep_29 rfl ?_
    refine r_getR (pc := 30) (b := 49) fl_X0_9 dX0_goStep_30 s0_48 rfl ?_
    refine r_iload_n (pc := 33) (x := v3) dX0_goStep_33 rfl ?_
    obtain ⟨hb3, w⟩ := w
    refine r_lald (pc := 34) (i := v3) (x := (h 49 v3)) dX0_goStep_34 s0_49 ⟨hb3.1, hb3.2, (by decide)⟩ (rfl) ?_
    refine r_lconst (pc := 35) (x := 0) dX0_goStep_35 rfl ?_
    obtain ⟨hl4, w⟩ := w
    refine r_lcmp (pc := 36) (x := (h 49 v3)) (y := 0) dX0_goStep_36 hl4 (by decide) ?_
    refine r_if_le (pc := 37) (x := (zCmp (h 49 v3) 0)) (tgt := 47) dX0_goStep_37 (by decide) (zCmp_R _ _) (fun c => ?_) (fun c => ?_)
    · have w := w.1 (zCmp_le.mp c)
      refine r_iinc (pc := 47) (x := v3) (L' := [some (.ref 48), some (.ref 10), some (.int (zI v2)), some (.int (zI (v3 + 1)))]) dX0_goStep_47 rfl (by decide) rfl ?_
      refine r_goto (pc := 50) (tgt := 22) dX0_goStep_50 (by decide) ?_
      exact w
    · have w := w.2 (fun z => c (zCmp_le.mpr z))
      refine r_aload_n (pc := 40) (a := 48) dX0_goStep_40 rfl ?_
      refine r_aload_n (pc := 41) (a := 10) dX0_goStep_41 rfl ?_
      refine r_iload_n (pc := 42) (x := v3) dX0_goStep_42 rfl ?_
      refine r_iload_n (pc := 43) (x := v2) dX0_goStep_43 rfl ?_
      refine r_callV (μ2 := mX0_spread) (pc := 44) (as := [.ref 10, .int (zI v3), .int (zI v2)]) (st := []) rfl s0_48 ml_X0_42 im_X0_spread se_X0_spread okX0_spread ⟨by decide, by decide⟩ dX0_goStep_44 (Nat.le_of_ble_eq_true rfl) rfl (Nat.le_of_ble_eq_true rfl) (by decide) (by decide) (zCC.mono w ?_)
      rintro r S' h5 ⟨rfl, hr, w⟩
      subst hr
      show RR mX0_goStep 0 0 47 [some (.ref 48), some (.ref 10), some (.int (zI v2)), some (.int (zI v3))] [] zS0 h5 (zQv zS0 K)
      refine r_iinc (pc := 47) (x := v3) (L' := [some (.ref 48), some (.ref 10), some (.int (zI v2)), some (.int (zI (v3 + 1)))]) dX0_goStep_47 rfl (by decide) rfl ?_
      refine r_goto (pc := 50) (tgt := 22) dX0_goStep_50 (by decide) ?_
      exact w

set_option maxRecDepth 100000 in
set_option maxHeartbeats 4000000 in
theorem wX0_weigh {h : zMm} {K : zMm → Prop} {v2 : Int} {v3 : Int} {v4 : Int} (w : zCv mJ7_fill_d0a16 [.ref 49, .long (zJ 0)] zS0 h (fun h1 => ((0 ≤ v2 ∧ v2 < 2147483648) ∧ (zR (v2 / 4) ∧ (zR v3 ∧ ((¬ (v2 / 4) = v3 → ((0 ≤ v2 ∧ v2 < 144) ∧ RR mX0_weigh 0 0 43 [some (.ref 48), some (.ref 10), none, some (.int (zI v3)), some (.int (zI v4)), some (.int (zI 0))] [] zS0 (zU (zU (zU h1 48 2 0) 48 4 1) 49 v2 1) (zQv zS0 K))) ∧ ((v2 / 4) = v3 → RR mX0_weigh 0 0 43 [some (.ref 48), some (.ref 10), none, some (.int (zI v3)), some (.int (zI v4)), some (.int (zI 0))] [] zS0 (zU (zU (zU h1 48 2 0) 48 4 1) 48 2 1) (zQv zS0 K)))))))) : zCv mX0_weigh [.ref 48, .ref 10, .int (zI v2), .int (zI v3), .int (zI v4)] zS0 h K := by
  show RR mX0_weigh 0 0 0 [some (.ref 48), some (.ref 10), some (.int (zI v2)), some (.int (zI v3)), some (.int (zI v4)), none] [] zS0 h (zQv zS0 K)
  refine r_aload_n (pc := 0) (a := 48) dX0_weigh_0 rfl ?_
  refine r_getR (pc := 1) (b := 49) fl_X0_9 dX0_weigh_1 s0_48 rfl ?_
  refine r_lconst (pc := 4) (x := 0) dX0_weigh_4 rfl ?_
  refine r_callS (μ2 := mJ7_fill_d0a16) (pc := 5) (as := [.ref 49, .long (zJ 0)]) (st := []) ml_X0_18 sm_J7_fill_d0a16 okJ7_fill_d0a16 ⟨by decide, by decide⟩ dX0_weigh_5 (Nat.le_of_ble_eq_true rfl) rfl (Nat.le_of_ble_eq_true rfl) (by decide) (by decide) (zCC.mono w ?_)
  rintro r S' h1 ⟨rfl, hr, w⟩
  subst hr
  show RR mX0_weigh 0 0 8 [some (.ref 48), some (.ref 10), some (.int (zI v2)), some (.int (zI v3)), some (.int (zI v4)), none] [] zS0 h1 (zQv zS0 K)
  refine r_aload_n (pc := 8) (a := 48) dX0_weigh_8 rfl ?_
  refine r_lconst (pc := 9) (x := 0) dX0_weigh_9 rfl ?_
  refine r_putJ (pc := 10) (fi := 2) (x := 0) fl_X0_24 dX0_weigh_10 s0_48 rfl ?_
  refine r_aload_n (pc := 13) (a := 48) dX0_weigh_13 rfl ?_
  refine r_lconst (pc := 14) (x := 1) dX0_weigh_14 rfl ?_
  refine r_putJ (pc := 15) (fi := 4) (x := 1) fl_X0_28 dX0_weigh_15 s0_48 rfl ?_
  refine r_iload_n (pc := 18) (x := v2) dX0_weigh_18 rfl ?_
  refine r_iconst (pc := 19) dX0_weigh_19 ?_
  obtain ⟨hx2, w⟩ := w
  refine r_idiv (pc := 20) (x := v2) (y := 4) dX0_weigh_20 hx2 (by decide) ?_
  refine r_iload_n (pc := 21) (x := v3) dX0_weigh_21 rfl ?_
  obtain ⟨hr3, w⟩ := w
  obtain ⟨hr4, w⟩ := w
  refine r_icmp_ne (pc := 22) (x := (v2 / 4)) (y := v3) (tgt := 33) dX0_weigh_22 (by decide) hr3 hr4 (fun c => ?_) (fun c => ?_)
  · have w := w.1 (c)
    refine r_aload_n (pc := 33) (a := 48) dX0_weigh_33 rfl ?_
    refine r_getR (pc := 34) (b := 49) fl_X0_9 dX0_weigh_34 s0_48 rfl ?_
    refine r_iload_n (pc := 37) (x := v2) dX0_weigh_37 rfl ?_
    refine r_lconst (pc := 38) (x := 1) dX0_weigh_38 rfl ?_
    obtain ⟨hb5, w⟩ := w
    refine r_last (pc := 39) (i := v2) (x := 1) dX0_weigh_39 s0_49 ⟨hb5.1, hb5.2, (by decide)⟩  ?_
    refine r_iconst (pc := 40) dX0_weigh_40 ?_
    refine r_istore (pc := 41) (L' := [some (.ref 48), some (.ref 10), some (.int (zI v2)), some (.int (zI v3)), some (.int (zI v4)), some (.int (zI 0))]) dX0_weigh_41 (by decide) rfl ?_
    exact RR.sub (L' := [some (.ref 48), some (.ref 10), none, some (.int (zI v3)), some (.int (zI v4)), some (.int (zI 0))]) (zSb_of (⟨rfl, ⟨rfl, ⟨rfl, ⟨rfl, ⟨rfl, trivial⟩⟩⟩⟩⟩)) w
  · have w := w.2 (c)
    refine r_aload_n (pc := 25) (a := 48) dX0_weigh_25 rfl ?_
    refine r_lconst (pc := 26) (x := 1) dX0_weigh_26 rfl ?_
    refine r_putJ (pc := 27) (fi := 2) (x := 1) fl_X0_24 dX0_weigh_27 s0_48 rfl ?_
    refine r_goto (pc := 30) (tgt := 40) dX0_weigh_30 (by decide) ?_
    refine r_iconst (pc := 40) dX0_weigh_40 ?_
    refine r_istore (pc := 41) (L' := [some (.ref 48), some (.ref 10), some (.int (zI v2)), some (.int (zI v3)), some (.int (zI v4)), some (.int (zI 0))]) dX0_weigh_41 (by decide) rfl ?_
    exact RR.sub (L' := [some (.ref 48), some (.ref 10), none, some (.int (zI v3)), some (.int (zI v4)), some (.int (zI 0))]) (zSb_of (⟨rfl, ⟨rfl, ⟨rfl, ⟨rfl, ⟨rfl, trivial⟩⟩⟩⟩⟩)) w

set_option maxRecDepth 100000 in
set_option maxHeartbeats 4000000 in
theorem bX0_weigh_43 {h : zMm} {K : zMm → Prop} {v3 : Int} {v4 : Int} {v5 : Int} (w : (zR v5 ∧ (zR v4 ∧ ((v4 ≤ v5 → RR mX0_weigh 0 0 85 [some (.ref 48), none, none, none, some (.int (zI v4)), some (.int (zI 0))] [] zS0 (zU h 48 3 (h 48 2)) (zQv zS0 K)) ∧ (¬ v4 ≤ v5 → zCv mX0_goStep [.ref 48, .ref 10, .int (zI v3)] zS0 h (fun h8 => RR mX0_weigh 0 0 43 [some (.ref 48), some (.ref 10), none, some (.int (zI v3)), some (.int (zI v4)), some (.int (zI (v5 + 1)))] [] zS0 (zU h8 48 4 ((h8 48 4) * 4)) (zQv zS0 K))))))) : RR mX0_weigh 0 0 43 [some (.ref 48), some (.ref 10), none, some (.int (zI v3)), some (.int (zI v4)), some (.int (zI v5))] [] zS0 h (zQv zS0 K) := by
  refine r_iload (pc := 43) (x := v5) dX0_weigh_43 rfl ?_
  refine r_iload (pc := 45) (x := v4) dX0_weigh_45 rfl ?_
  obtain ⟨hr6, w⟩ := w
  obtain ⟨hr7, w⟩ := w
  refine r_icmp_ge (pc := 47) (x := v5) (y := v4) (tgt := 74) dX0_weigh_47 (by decide) hr6 hr7 (fun c => ?_) (fun c => ?_)
  · have w := w.1 (c)
    refine r_aload_n (pc := 74) (a := 48) dX0_weigh_74 rfl ?_
    refine r_aload_n (pc := 75) (a := 48) dX0_weigh_75 rfl ?_
    refine r_getJ (pc := 76) (fi := 2) (x := (h 48 2)) fl_X0_24 dX0_weigh_76 s0_48 rfl (rfl) ?_
    refine r_putJ (pc := 79) (fi := 3) (x := (h 48 2)) fl_X0_37 dX0_weigh_79 s0_48 rfl ?_
    refine r_iconst (pc := 82) dX0_weigh_82 ?_
    refine r_istore (pc := 83) (L' := [some (.ref 48), some (.ref 10), none, some (.int (zI v3)), some (.int (zI v4)), some (.int (zI 0))]) dX0_weigh_83 (by decide) rfl ?_
    exact RR.sub (L' := [some (.ref 48), none, none, none, some (.int (zI v4)), some (.int (zI 0))]) (zSb_of (⟨rfl, ⟨rfl, ⟨rfl, trivial⟩⟩⟩)) w
  · have w := w.2 (c)
    refine r_aload_n (pc := 50) (a := 48) dX0_weigh_50 rfl ?_
    refine r_aload_n (pc := 51) (a := 10) dX0_weigh_51 rfl ?_
    refine r_iload_n (pc := 52) (x := v3) dX0_weigh_52 rfl ?_
    refine r_callV (μ2 := mX0_goStep) (pc := 53) (as := [.ref 10, .int (zI v3)]) (st := []) rfl s0_48 ml_X0_31 im_X0_goStep se_X0_goStep okX0_goStep ⟨by decide, by decide⟩ dX0_weigh_53 (Nat.le_of_ble_eq_true rfl) rfl (Nat.le_of_ble_eq_true rfl) (by decide) (by decide) (zCC.mono w ?_)
    rintro r S' h8 ⟨rfl, hr, w⟩
    subst hr
    show RR mX0_weigh 0 0 56 [some (.ref 48), some (.ref 10), none, some (.int (zI v3)), some (.int (zI v4)), some (.int (zI v5))] [] zS0 h8 (zQv zS0 K)
    refine r_aload_n (pc := 56) (a := 48) dX0_weigh_56 rfl ?_
    refine r_dup (pc := 57) rfl dX0_weigh_57 ?_
    refine r_getJ (pc := 58) (fi := 4) (x := (h8 48 4)) fl_X0_28 dX0_weigh_58 s0_48 rfl (rfl) ?_
    refine r_ldcL (pc := 61) (x := 4) dX0_weigh_61 kl_X0_35 ?_
    refine r_lmul (pc := 64) (x := (h8 48 4)) (y := 4) dX0_weigh_64 ?_
    refine r_putJ (pc := 65) (fi := 4) (x := ((h8 48 4) * 4)) fl_X0_28 dX0_weigh_65 s0_48 rfl ?_
    refine r_iinc (pc := 68) (x := v5) (L' := [some (.ref 48), some (.ref 10), none, some (.int (zI v3)), some (.int (zI v4)), some (.int (zI (v5 + 1)))]) dX0_weigh_68 rfl (by decide) rfl ?_
    refine r_goto (pc := 71) (tgt := 43) dX0_weigh_71 (by decide) ?_
    exact w

set_option maxRecDepth 100000 in
set_option maxHeartbeats 4000000 in
theorem bX0_weigh_85 {h : zMm} {K : zMm → Prop} {v4 : Int} {v5 : Int} (w : (zR v5 ∧ (zR (2 * v4) ∧ (((2 * v4) ≤ v5 → K h) ∧ (¬ (2 * v4) ≤ v5 → ((0 ≤ (h 48 3) ∧ (h 48 3) < 9223372036854775808) ∧ (zRl ((h 48 3) % 2) ∧ ((¬ ((h 48 3) % 2) = 0 → K h) ∧ (((h 48 3) % 2) = 0 → ((0 ≤ (h 48 3) ∧ (h 48 3) < 9223372036854775808) ∧ ((0 ≤ (h 48 4) ∧ (h 48 4) < 9223372036854775808) ∧ RR mX0_weigh 0 0 85 [some (.ref 48), none, none, none, some (.int (zI v4)), some (.int (zI (v5 + 1)))] [] zS0 (zU (zU h 48 3 ((h 48 3) / 2)) 48 4 ((h 48 4) / 2)) (zQv zS0 K)))))))))))) : RR mX0_weigh 0 0 85 [some (.ref 48), none, none, none, some (.int (zI v4)), some (.int (zI v5))] [] zS0 h (zQv zS0 K) := by
  refine r_iload (pc := 85) (x := v5) dX0_weigh_85 rfl ?_
  refine r_iconst (pc := 87) dX0_weigh_87 ?_
  refine r_iload (pc := 88) (x := v4) dX0_weigh_88 rfl ?_
  refine r_imul (pc := 90) (x := 2) (y := v4) dX0_weigh_90 ?_
  obtain ⟨hr9, w⟩ := w
  obtain ⟨hr10, w⟩ := w
  refine r_icmp_ge (pc := 91) (x := v5) (y := (2 * v4)) (tgt := 137) dX0_weigh_91 (by decide) hr9 hr10 (fun c => ?_) (fun c => ?_)
  · have w := w.1 (c)
    exact r_ret (st := []) (pc := 137) dX0_weigh_137 rfl rfl (by decide) ⟨rfl, rfl, w⟩
  · have w := w.2 (c)
    refine r_aload_n (pc := 94) (a := 48) dX0_weigh_94 rfl ?_
    refine r_getJ (pc := 95) (fi := 3) (x := (h 48 3)) fl_X0_37 dX0_weigh_95 s0_48 rfl (rfl) ?_
    refine r_ldcL (pc := 98) (x := 2) dX0_weigh_98 kl_X0_40 ?_
    obtain ⟨hx11, w⟩ := w
    refine r_lrem (pc := 101) (x := (h 48 3)) (y := 2) dX0_weigh_101 hx11 (by decide) ?_
    refine r_lconst (pc := 102) (x := 0) dX0_weigh_102 rfl ?_
    obtain ⟨hl12, w⟩ := w
    refine r_lcmp (pc := 103) (x := ((h 48 3) % 2)) (y := 0) dX0_weigh_103 hl12 (by decide) ?_
    refine r_if_ne (pc := 104) (x := (zCmp ((h 48 3) % 2) 0)) (tgt := 137) dX0_weigh_104 (by decide) (zCmp_R _ _) (fun c => ?_) (fun c => ?_)
    · have w := w.1 (zCmp_ne.mp c)
      exact r_ret (st := []) (pc := 137) dX0_weigh_137 rfl rfl (by decide) ⟨rfl, rfl, w⟩
    · have w := w.2 (zCmp_eq.mp c)
      refine r_aload_n (pc := 107) (a := 48) dX0_weigh_107 rfl ?_
      refine r_dup (pc := 108) rfl dX0_weigh_108 ?_
      refine r_getJ (pc := 109) (fi := 3) (x := (h 48 3)) fl_X0_37 dX0_weigh_109 s0_48 rfl (rfl) ?_
      refine r_ldcL (pc := 112) (x := 2) dX0_weigh_112 kl_X0_40 ?_
      obtain ⟨hx13, w⟩ := w
      refine r_ldiv (pc := 115) (x := (h 48 3)) (y := 2) dX0_weigh_115 hx13 (by decide) ?_
      refine r_putJ (pc := 116) (fi := 3) (x := ((h 48 3) / 2)) fl_X0_37 dX0_weigh_116 s0_48 rfl ?_
      refine r_aload_n (pc := 119) (a := 48) dX0_weigh_119 rfl ?_
      refine r_dup (pc := 120) rfl dX0_weigh_120 ?_
      refine r_getJ (pc := 121) (fi := 4) (x := (h 48 4)) fl_X0_28 dX0_weigh_121 s0_48 rfl (zU_ne (by omega)) ?_
      refine r_ldcL (pc := 124) (x := 2) dX0_weigh_124 kl_X0_40 ?_
      obtain ⟨hx14, w⟩ := w
      refine r_ldiv (pc := 127) (x := (h 48 4)) (y := 2) dX0_weigh_127 hx14 (by decide) ?_
      refine r_putJ (pc := 128) (fi := 4) (x := ((h 48 4) / 2)) fl_X0_28 dX0_weigh_128 s0_48 rfl ?_
      refine r_iinc (pc := 131) (x := v5) (L' := [some (.ref 48), none, none, none, some (.int (zI v4)), some (.int (zI (v5 + 1)))]) dX0_weigh_131 rfl (by decide) rfl ?_
      refine r_goto (pc := 134) (tgt := 85) dX0_weigh_134 (by decide) ?_
      exact w
