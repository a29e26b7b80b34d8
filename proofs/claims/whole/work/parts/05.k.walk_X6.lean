set_option maxRecDepth 100000 in
set_option maxHeartbeats 4000000 in
theorem wX6_standAt {h : zMm} {K : zMm → Prop} {v1 : Int} {v2 : Int} {v3 : Int} (w : K (zU (zU (zU (zU (zU h 47 0 v1) 47 1 v2) 47 2 v3) 47 3 0) 47 4 (lSl 1 v1))) : zCv mX6_standAt [.ref 47, .int (zI v1), .int (zI v2), .int (zI v3)] zS0 h K := by
  show RR mX6_standAt 0 0 0 [some (.ref 47), some (.int (zI v1)), some (.int (zI v2)), some (.int (zI v3))] [] zS0 h (zQv zS0 K)
  refine r_aload_n (pc := 0) (a := 47) dX6_standAt_0 rfl ?_
  refine r_iload_n (pc := 1) (x := v1) dX6_standAt_1 rfl ?_
  refine r_putI (pc := 2) (fi := 0) (x := v1) fl_X6_9 dX6_standAt_2 s0_47 rfl ?_
  refine r_aload_n (pc := 5) (a := 47) dX6_standAt_5 rfl ?_
  refine r_iload_n (pc := 6) (x := v2) dX6_standAt_6 rfl ?_
  refine r_putI (pc := 7) (fi := 1) (x := v2) fl_X6_15 dX6_standAt_7 s0_47 rfl ?_
  refine r_aload_n (pc := 10) (a := 47) dX6_standAt_10 rfl ?_
  refine r_iload_n (pc := 11) (x := v3) dX6_standAt_11 rfl ?_
  refine r_putI (pc := 12) (fi := 2) (x := v3) fl_X6_18 dX6_standAt_12 s0_47 rfl ?_
  refine r_aload_n (pc := 15) (a := 47) dX6_standAt_15 rfl ?_
  refine r_iconst (pc := 16) dX6_standAt_16 ?_
  refine r_putI (pc := 17) (fi := 3) (x := 0) fl_X6_21 dX6_standAt_17 s0_47 rfl ?_
  refine r_aload_n (pc := 20) (a := 47) dX6_standAt_20 rfl ?_
  refine r_lconst (pc := 21) (x := 1) dX6_standAt_21 rfl ?_
  refine r_iload_n (pc := 22) (x := v1) dX6_standAt_22 rfl ?_
  refine r_lshl (pc := 23) (x := 1) (y := v1) dX6_standAt_23 ?_
  refine r_putJ (pc := 24) (fi := 4) (x := (lSl 1 v1)) fl_X6_24 dX6_standAt_24 s0_47 rfl ?_
  exact r_ret (st := []) (pc := 27) dX6_standAt_27 rfl rfl (by decide) ⟨rfl, rfl, w⟩

set_option maxRecDepth 100000 in
set_option maxHeartbeats 4000000 in
theorem wX6_quartersOf {S : zSh} {h : zMm} {K : Int → zMm → Prop} {v0 : Int} (w : (zR v0 ∧ K (if v0 = 0 then (1 : Int) else (if v0 = 1 then (3 : Int) else (2 : Int))) h)) : zCi mX6_quartersOf [.int (zI v0)] S h K := by
  show RR mX6_quartersOf 0 0 0 [some (.int (zI v0))] [] S h (zQi S K)
  refine r_iload_n (pc := 0) (x := v0) dX6_quartersOf_0 rfl ?_
  obtain ⟨hr1, w⟩ := w
  have kk3 : RR mX6_quartersOf 0 0 18 [some (.int (zI v0))] [.int (zI (if v0 = 0 then (1 : Int) else (if v0 = 1 then (3 : Int) else (2 : Int))))] S h (zQi S K) := by
    exact r_iret (st := []) (pc := 18) (x := (if v0 = 0 then (1 : Int) else (if v0 = 1 then (3 : Int) else (2 : Int)))) (ty := .int) dX6_quartersOf_18 rfl rfl rfl (by decide) ⟨rfl, _, rfl, w⟩
  refine r_if_ne (pc := 1) (x := v0) (tgt := 8) dX6_quartersOf_1 (by decide) hr1 (fun c => ?_) (fun c => ?_)
  · refine r_iload_n (pc := 8) (x := v0) dX6_quartersOf_8 rfl ?_
    refine r_iconst (pc := 9) dX6_quartersOf_9 ?_
    refine r_icmp_ne (pc := 10) (x := v0) (y := 1) (tgt := 17) dX6_quartersOf_10 (by decide) hr1 (by decide) (fun c2 => ?_) (fun c2 => ?_)
    · refine r_iconst (pc := 17) dX6_quartersOf_17 ?_
      simp only [if_neg (c), if_neg (c2)] at kk3 ⊢
      exact kk3
    · refine r_iconst (pc := 13) dX6_quartersOf_13 ?_
      refine r_goto (pc := 14) (tgt := 18) dX6_quartersOf_14 (by decide) ?_
      simp only [if_neg (c), if_pos (c2)] at kk3 ⊢
      exact kk3
  · refine r_iconst (pc := 4) dX6_quartersOf_4 ?_
    refine r_goto (pc := 5) (tgt := 18) dX6_quartersOf_5 (by decide) ?_
    simp only [if_pos (c)] at kk3 ⊢
    exact kk3

set_option maxRecDepth 100000 in
set_option maxHeartbeats 4000000 in
theorem wX6_goStep {h : zMm} {K : zMm → Prop} {v2 : Int} (w : zCi mX3_ahead [.ref 10, .int (zI (h 47 0)), .int (zI (h 47 1))] zS0 h (fun x1 h1 => (zR x1 ∧ ((x1 < 0 → (zR v2 ∧ ((¬ v2 = 3 → zCi mX6_quartersOf [.int (zI v2)] zS0 (zU h1 47 3 ((h1 47 3) + 1)) (fun x4 h4 => ((0 ≤ ((h1 47 1) + x4) ∧ ((h1 47 1) + x4) < 2147483648) ∧ K (zU h4 47 1 (((h1 47 1) + x4) % 4))))) ∧ (v2 = 3 → K (zU (zU (zU h1 47 3 ((h1 47 3) + 1)) 47 2 (((h1 47 2) * 1103515245) + 12345)) 47 1 ((iSr (((h1 47 2) * 1103515245) + 12345) 16) % 4)))))) ∧ (¬ x1 < 0 → K (zU (zU h1 47 0 x1) 47 4 (lO (h1 47 4) (lSl 1 x1)))))))) : zCv mX6_goStep [.ref 47, .ref 10, .int (zI v2)] zS0 h K := by
  show RR mX6_goStep 0 0 0 [some (.ref 47), some (.ref 10), some (.int (zI v2)), none] [] zS0 h (zQv zS0 K)
  refine r_aload_n (pc := 0) (a := 10) dX6_goStep_0 rfl ?_
  refine r_aload_n (pc := 1) (a := 47) dX6_goStep_1 rfl ?_
  refine r_getI (pc := 2) (fi := 0) (x := (h 47 0)) fl_X6_9 dX6_goStep_2 s0_47 rfl (rfl) ?_
  refine r_aload_n (pc := 5) (a := 47) dX6_goStep_5 rfl ?_
  refine r_getI (pc := 6) (fi := 1) (x := (h 47 1)) fl_X6_15 dX6_goStep_6 s0_47 rfl (rfl) ?_
  refine r_callV (μ2 := mX3_ahead) (pc := 9) (as := [.int (zI (h 47 0)), .int (zI (h 47 1))]) (st := []) rfl s0_10 ml_X6_32 im_X3_ahead se_X3_ahead okX3_ahead ⟨by decide, by decide⟩ dX6_goStep_9 (Nat.le_of_ble_eq_true rfl) rfl (Nat.le_of_ble_eq_true rfl) (by decide) (by decide) (zCC.mono w ?_)
  rintro r S' h1 ⟨rfl, x1, hr, w⟩
  subst hr
  show RR mX6_goStep 0 0 12 [some (.ref 47), some (.ref 10), some (.int (zI v2)), none] [.int (zI x1)] zS0 h1 (zQv zS0 K)
  refine r_istore_n (pc := 12) (L' := [some (.ref 47), some (.ref 10), some (.int (zI v2)), some (.int (zI x1))]) dX6_goStep_12 (by decide) rfl ?_
  refine r_iload_n (pc := 13) (x := x1) dX6_goStep_13 rfl ?_
  obtain ⟨hr2, w⟩ := w
  refine r_if_lt (pc := 14) (x := x1) (tgt := 35) dX6_goStep_14 (by decide) hr2 (fun c => ?_) (fun c => ?_)
  · have w := w.1 (c)
    refine r_aload_n (pc := 35) (a := 47) dX6_goStep_35 rfl ?_
    refine r_dup (pc := 36) rfl dX6_goStep_36 ?_
    refine r_getI (pc := 37) (fi := 3) (x := (h1 47 3)) fl_X6_21 dX6_goStep_37 s0_47 rfl (rfl) ?_
    refine r_iconst (pc := 40) dX6_goStep_40 ?_
    refine r_iadd (pc := 41) (x := (h1 47 3)) (y := 1) dX6_goStep_41 ?_
    refine r_putI (pc := 42) (fi := 3) (x := ((h1 47 3) + 1)) fl_X6_21 dX6_goStep_42 s0_47 rfl ?_
    refine r_iload_n (pc := 45) (x := v2) dX6_goStep_45 rfl ?_
    refine r_iconst (pc := 46) dX6_goStep_46 ?_
    obtain ⟨hr3, w⟩ := w
    refine r_icmp_ne (pc := 47) (x := v2) (y := 3) (tgt := 81) dX6_goStep_47 (by decide) hr3 (by decide) (fun c => ?_) (fun c => ?_)
    · have w := w.1 (c)
      refine r_aload_n (pc := 81) (a := 47) dX6_goStep_81 rfl ?_
      refine r_aload_n (pc := 82) (a := 47) dX6_goStep_82 rfl ?_
      refine r_getI (pc := 83) (fi := 1) (x := (h1 47 1)) fl_X6_15 dX6_goStep_83 s0_47 rfl (zU_ne (by omega)) ?_
      refine r_iload_n (pc := 86) (x := v2) dX6_goStep_86 rfl ?_
      refine r_callS (μ2 := mX6_quartersOf) (pc := 87) (as := [.int (zI v2)]) (st := [.int (zI (h1 47 1)), .ref 47]) ml_X6_39 sm_X6_quartersOf okX6_quartersOf ⟨by decide, by decide⟩ dX6_goStep_87 (Nat.le_of_ble_eq_true rfl) rfl (Nat.le_of_ble_eq_true rfl) (by decide) (by decide) (zCC.mono w ?_)
      rintro r S' h4 ⟨rfl, x4, hr, w⟩
      subst hr
      show RR mX6_goStep 0 0 90 [some (.ref 47), some (.ref 10), some (.int (zI v2)), some (.int (zI x1))] [.int (zI x4), .int (zI (h1 47 1)), .ref 47] zS0 h4 (zQv zS0 K)
      refine r_iadd (pc := 90) (x := (h1 47 1)) (y := x4) dX6_goStep_90 ?_
      refine r_iconst (pc := 91) dX6_goStep_91 ?_
      obtain ⟨hx5, w⟩ := w
      refine r_irem (pc := 92) (x := ((h1 47 1) + x4)) (y := 4) dX6_goStep_92 hx5 (by decide) ?_
      refine r_putI (pc := 93) (fi := 1) (x := (((h1 47 1) + x4) % 4)) fl_X6_15 dX6_goStep_93 s0_47 rfl ?_
      exact r_ret (st := []) (pc := 96) dX6_goStep_96 rfl rfl (by decide) ⟨rfl, rfl, w⟩
    · have w := w.2 (c)
      refine r_aload_n (pc := 50) (a := 47) dX6_goStep_50 rfl ?_
      refine r_aload_n (pc := 51) (a := 47) dX6_goStep_51 rfl ?_
      refine r_getI (pc := 52) (fi := 2) (x := (h1 47 2)) fl_X6_18 dX6_goStep_52 s0_47 rfl (zU_ne (by omega)) ?_
      refine r_ldcI (pc := 55) (x := 1103515245) dX6_goStep_55 kc_X6_38 ?_
      refine r_imul (pc := 57) (x := (h1 47 2)) (y := 1103515245) dX6_goStep_57 ?_
      refine r_sipush (pc := 58) (x := 12345) dX6_goStep_58 (by decide) ?_
      refine r_iadd (pc := 61) (x := ((h1 47 2) * 1103515245)) (y := 12345) dX6_goStep_61 ?_
      refine r_putI (pc := 62) (fi := 2) (x := (((h1 47 2) * 1103515245) + 12345)) fl_X6_18 dX6_goStep_62 s0_47 rfl ?_
      refine r_aload_n (pc := 65) (a := 47) dX6_goStep_65 rfl ?_
      refine r_aload_n (pc := 66) (a := 47) dX6_goStep_66 rfl ?_
      refine r_getI (pc := 67) (fi := 2) (x := (((h1 47 2) * 1103515245) + 12345)) fl_X6_18 dX6_goStep_67 s0_47 rfl (zU_eq _ _ _ _) ?_
      refine r_bipush (pc := 70) (x := 16) dX6_goStep_70 (by decide) ?_
      refine r_ishr (pc := 72) (x := (((h1 47 2) * 1103515245) + 12345)) (y := 16) dX6_goStep_72 ?_
      refine r_iconst (pc := 73) dX6_goStep_73 ?_
      refine r_iandM (pc := 74) (x := (iSr (((h1 47 2) * 1103515245) + 12345) 16)) (y := 3) (z := ((iSr (((h1 47 2) * 1103515245) + 12345) 16) % 4)) dX6_goStep_74 (zI_mask _ 2 (by decide)) ?_
      refine r_putI (pc := 75) (fi := 1) (x := ((iSr (((h1 47 2) * 1103515245) + 12345) 16) % 4)) fl_X6_15 dX6_goStep_75 s0_47 rfl ?_
      refine r_goto (pc := 78) (tgt := 96) dX6_goStep_78 (by decide) ?_
      exact r_ret (st := []) (pc := 96) dX6_goStep_96 rfl rfl (by decide) ⟨rfl, rfl, w⟩
  · have w := w.2 (c)
    refine r_aload_n (pc := 17) (a := 47) dX6_goStep_17 rfl ?_
    refine r_iload_n (pc := 18) (x := x1) dX6_goStep_18 rfl ?_
    refine r_putI (pc := 19) (fi := 0) (x := x1) fl_X6_9 dX6_goStep_19 s0_47 rfl ?_
    refine r_aload_n (pc := 22) (a := 47) dX6_goStep_22 rfl ?_
    refine r_dup (pc := 23) rfl dX6_goStep_23 ?_
    refine r_getJ (pc := 24) (fi := 4) (x := (h1 47 4)) fl_X6_24 dX6_goStep_24 s0_47 rfl (zU_ne (by omega)) ?_
    refine r_lconst (pc := 27) (x := 1) dX6_goStep_27 rfl ?_
    refine r_iload_n (pc := 28) (x := x1) dX6_goStep_28 rfl ?_
    refine r_lshl (pc := 29) (x := 1) (y := x1) dX6_goStep_29 ?_
    refine r_lor (pc := 30) (x := (h1 47 4)) (y := (lSl 1 x1)) dX6_goStep_30 ?_
    refine r_putJ (pc := 31) (fi := 4) (x := (lO (h1 47 4) (lSl 1 x1))) fl_X6_24 dX6_goStep_31 s0_47 rfl ?_
    exact r_ret (st := []) (pc := 34) dX6_goStep_34 rfl rfl (by decide) ⟨rfl, rfl, w⟩

set_option maxRecDepth 100000 in
set_option maxHeartbeats 4000000 in
theorem wX6_goSteps {h : zMm} {K : zMm → Prop} {v2 : Int} {v3 : Int} (w : RR mX6_goSteps 0 0 3 [some (.ref 47), some (.ref 10), some (.int (zI v2)), some (.int (zI v3)), some (.int (zI 0))] [] zS0 h (zQv zS0 K)) : zCv mX6_goSteps [.ref 47, .ref 10, .int (zI v2), .int (zI v3)] zS0 h K := by
  show RR mX6_goSteps 0 0 0 [some (.ref 47), some (.ref 10), some (.int (zI v2)), some (.int (zI v3)), none] [] zS0 h (zQv zS0 K)
  refine r_iconst (pc := 0) dX6_goSteps_0 ?_
  refine r_istore (pc := 1) (L' := [some (.ref 47), some (.ref 10), some (.int (zI v2)), some (.int (zI v3)), some (.int (zI 0))]) dX6_goSteps_1 (by decide) rfl ?_
  exact w

set_option maxRecDepth 100000 in
set_option maxHeartbeats 4000000 in
theorem bX6_goSteps_3 {h : zMm} {K : zMm → Prop} {v2 : Int} {v3 : Int} {v4 : Int} (w : (zR v4 ∧ (zR v3 ∧ ((v3 ≤ v4 → K h) ∧ (¬ v3 ≤ v4 → zCv mX6_goStep [.ref 47, .ref 10, .int (zI v2)] zS0 h (fun h3 => RR mX6_goSteps 0 0 3 [some (.ref 47), some (.ref 10), some (.int (zI v2)), some (.int (zI v3)), some (.int (zI (v4 + 1)))] [] zS0 h3 (zQv zS0 K))))))) : RR mX6_goSteps 0 0 3 [some (.ref 47), some (.ref 10), some (.int (zI v2)), some (.int (zI v3)), some (.int (zI v4))] [] zS0 h (zQv zS0 K) := by
  refine r_iload (pc := 3) (x := v4) dX6_goSteps_3 rfl ?_
  refine r_iload_n (pc := 5) (x := v3) dX6_goSteps_5 rfl ?_
  obtain ⟨hr1, w⟩ := w
  obtain ⟨hr2, w⟩ := w
  refine r_icmp_ge (pc := 6) (x := v4) (y := v3) (tgt := 21) dX6_goSteps_6 (by decide) hr1 hr2 (fun c => ?_) (fun c => ?_)
  · have w := w.1 (c)
    exact r_ret (st := []) (pc := 21) dX6_goSteps_21 rfl rfl (by decide) ⟨rfl, rfl, w⟩
  · have w := w.2 (c)
    refine r_aload_n (pc := 9) (a := 47) dX6_goSteps_9 rfl ?_
    refine r_aload_n (pc := 10) (a := 10) dX6_goSteps_10 rfl ?_
    refine r_iload_n (pc := 11) (x := v2) dX6_goSteps_11 rfl ?_
    refine r_callV (μ2 := mX6_goStep) (pc := 12) (as := [.ref 10, .int (zI v2)]) (st := []) rfl s0_47 ml_X6_28 im_X6_goStep se_X6_goStep okX6_goStep ⟨by decide, by decide⟩ dX6_goSteps_12 (Nat.le_of_ble_eq_true rfl) rfl (Nat.le_of_ble_eq_true rfl) (by decide) (by decide) (zCC.mono w ?_)
    rintro r S' h3 ⟨rfl, hr, w⟩
    subst hr
    show RR mX6_goSteps 0 0 15 [some (.ref 47), some (.ref 10), some (.int (zI v2)), some (.int (zI v3)), some (.int (zI v4))] [] zS0 h3 (zQv zS0 K)
    refine r_iinc (pc := 15) (x := v4) (L' := [some (.ref 47), some (.ref 10), some (.int (zI v2)), some (.int (zI v3)), some (.int (zI (v4 + 1)))]) dX6_goSteps_15 rfl (by decide) rfl ?_
    refine r_goto (pc := 18) (tgt := 3) dX6_goSteps_18 (by decide) ?_
    exact w
