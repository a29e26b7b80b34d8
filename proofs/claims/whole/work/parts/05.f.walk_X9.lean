set_option maxRecDepth 100000 in
set_option maxHeartbeats 4000000 in
theorem wX9_refuse {h : zMm} {K : Bool → zMm → Prop} {v1 : Int} {v2 : Int} (w : K false (zU (zU h 3 1 v1) 3 2 v2)) : zCb mX9_refuse [.ref 3, .int (zI v1), .int (zI v2)] zS0 h K := by
  show RR mX9_refuse 0 0 0 [some (.ref 3), some (.int (zI v1)), some (.int (zI v2))] [] zS0 h (zQb zS0 K)
  refine r_aload_n (pc := 0) (a := 3) dX9_refuse_0 rfl ?_
  refine r_iload_n (pc := 1) (x := v1) dX9_refuse_1 rfl ?_
  refine r_putI (pc := 2) (fi := 1) (x := v1) fl_X9_18 dX9_refuse_2 s0_3 rfl ?_
  refine r_aload_n (pc := 5) (a := 3) dX9_refuse_5 rfl ?_
  refine r_iload_n (pc := 6) (x := v2) dX9_refuse_6 rfl ?_
  refine r_putI (pc := 7) (fi := 2) (x := v2) fl_X9_22 dX9_refuse_7 s0_3 rfl ?_
  refine r_iconst (pc := 10) dX9_refuse_10 ?_
  exact r_iret (st := []) (pc := 11) (x := 0) (ty := .boolean) dX9_refuse_11 rfl (rfl) rfl (by decide) ⟨rfl, false, rfl, w⟩

set_option maxRecDepth 100000 in
set_option maxHeartbeats 4000000 in
theorem wX9_startAnew {h : zMm} {K : zMm → Prop} (w : zCv mX3_startAnew [.ref 4] zS0 h (fun h1 => zCv mX8_rewind [.ref 1] zS0 h1 (fun h2 => K (zU (zU (zU (zU (zU (zU h2 3 1 0) 3 2 0) 3 3 0) 3 4 0) 3 5 0) 3 6 0)))) : zCv mX9_startAnew [.ref 3, .ref 1] zS0 h K := by
  show RR mX9_startAnew 0 0 0 [some (.ref 3), some (.ref 1)] [] zS0 h (zQv zS0 K)
  refine r_aload_n (pc := 0) (a := 3) dX9_startAnew_0 rfl ?_
  refine r_getR (pc := 1) (b := 4) fl_X9_12 dX9_startAnew_1 s0_3 rfl ?_
  refine r_callV (μ2 := mX3_startAnew) (pc := 4) (as := []) (st := []) rfl s0_4 ml_X9_71 im_X3_startAnew se_X3_startAnew okX3_startAnew ⟨by decide, by decide⟩ dX9_startAnew_4 (Nat.le_of_ble_eq_true rfl) rfl (Nat.le_of_ble_eq_true rfl) (by decide) (by decide) (zCC.mono w ?_)
  rintro r S' h1 ⟨rfl, hr, w⟩
  subst hr
  show RR mX9_startAnew 0 0 7 [some (.ref 3), some (.ref 1)] [] zS0 h1 (zQv zS0 K)
  refine r_aload_n (pc := 7) (a := 1) dX9_startAnew_7 rfl ?_
  refine r_callV (μ2 := mX8_rewind) (pc := 8) (as := []) (st := []) rfl s0_1 ml_X9_73 im_X8_rewind se_X8_rewind okX8_rewind ⟨by decide, by decide⟩ dX9_startAnew_8 (Nat.le_of_ble_eq_true rfl) rfl (Nat.le_of_ble_eq_true rfl) (by decide) (by decide) (zCC.mono w ?_)
  rintro r S' h2 ⟨rfl, hr, w⟩
  subst hr
  show RR mX9_startAnew 0 0 11 [some (.ref 3), some (.ref 1)] [] zS0 h2 (zQv zS0 K)
  refine r_aload_n (pc := 11) (a := 3) dX9_startAnew_11 rfl ?_
  refine r_iconst (pc := 12) dX9_startAnew_12 ?_
  refine r_putI (pc := 13) (fi := 1) (x := 0) fl_X9_18 dX9_startAnew_13 s0_3 rfl ?_
  refine r_aload_n (pc := 16) (a := 3) dX9_startAnew_16 rfl ?_
  refine r_iconst (pc := 17) dX9_startAnew_17 ?_
  refine r_putI (pc := 18) (fi := 2) (x := 0) fl_X9_22 dX9_startAnew_18 s0_3 rfl ?_
  refine r_aload_n (pc := 21) (a := 3) dX9_startAnew_21 rfl ?_
  refine r_iconst (pc := 22) dX9_startAnew_22 ?_
  refine r_putI (pc := 23) (fi := 3) (x := 0) fl_X9_25 dX9_startAnew_23 s0_3 rfl ?_
  refine r_aload_n (pc := 26) (a := 3) dX9_startAnew_26 rfl ?_
  refine r_iconst (pc := 27) dX9_startAnew_27 ?_
  refine r_putI (pc := 28) (fi := 4) (x := 0) fl_X9_28 dX9_startAnew_28 s0_3 rfl ?_
  refine r_aload_n (pc := 31) (a := 3) dX9_startAnew_31 rfl ?_
  refine r_iconst (pc := 32) dX9_startAnew_32 ?_
  refine r_putI (pc := 33) (fi := 5) (x := 0) fl_X9_31 dX9_startAnew_33 s0_3 rfl ?_
  refine r_aload_n (pc := 36) (a := 3) dX9_startAnew_36 rfl ?_
  refine r_lconst (pc := 37) (x := 0) dX9_startAnew_37 rfl ?_
  refine r_putJ (pc := 38) (fi := 6) (x := 0) fl_X9_34 dX9_startAnew_38 s0_3 rfl ?_
  exact r_ret (st := []) (pc := 41) dX9_startAnew_41 rfl rfl (by decide) ⟨rfl, rfl, w⟩

set_option maxRecDepth 100000 in
set_option maxHeartbeats 4000000 in
theorem wX9_isDue {h : zMm} {K : Bool → zMm → Prop} {v2 : Int} (w : (zR (h 1 2) ∧ ((¬ (h 1 2) = 0 → (zR v2 ∧ (((h 1 2) = v2 → K true h) ∧ (¬ (h 1 2) = v2 → zCb mX9_refuse [.ref 3, .int (zI 2), .int (zI (h 1 3))] zS0 h (fun b3 h3 => K (if b3 = true then true else false) h3))))) ∧ ((h 1 2) = 0 → zCb mX9_refuse [.ref 3, .int (zI 1), .int (zI (h 1 3))] zS0 h (fun b5 h5 => K b5 h5))))) : zCb mX9_isDue [.ref 3, .ref 1, .int (zI v2)] zS0 h K := by
  show RR mX9_isDue 0 0 0 [some (.ref 3), some (.ref 1), some (.int (zI v2))] [] zS0 h (zQb zS0 K)
  refine r_aload_n (pc := 0) (a := 1) dX9_isDue_0 rfl ?_
  refine r_getI (pc := 1) (fi := 2) (x := (h 1 2)) fl_X9_47 dX9_isDue_1 s0_1 rfl (rfl) ?_
  obtain ⟨hr1, w⟩ := w
  refine r_if_ne (pc := 4) (x := (h 1 2)) (tgt := 17) dX9_isDue_4 (by decide) hr1 (fun c => ?_) (fun c => ?_)
  · have w := w.1 (c)
    refine r_aload_n (pc := 17) (a := 1) dX9_isDue_17 rfl ?_
    refine r_getI (pc := 18) (fi := 2) (x := (h 1 2)) fl_X9_47 dX9_isDue_18 s0_1 rfl (rfl) ?_
    refine r_iload_n (pc := 21) (x := v2) dX9_isDue_21 rfl ?_
    obtain ⟨hr2, w⟩ := w
    refine r_icmp_eq (pc := 22) (x := (h 1 2)) (y := v2) (tgt := 37) dX9_isDue_22 (by decide) hr1 hr2 (fun c => ?_) (fun c => ?_)
    · have w := w.1 (c)
      refine r_iconst (pc := 37) dX9_isDue_37 ?_
      refine r_goto (pc := 38) (tgt := 42) dX9_isDue_38 (by decide) ?_
      exact r_iret (st := []) (pc := 42) (x := 1) (ty := .boolean) dX9_isDue_42 rfl (rfl) rfl (by decide) ⟨rfl, true, rfl, w⟩
    · have w := w.2 (c)
      refine r_aload_n (pc := 25) (a := 3) dX9_isDue_25 rfl ?_
      refine r_iconst (pc := 26) dX9_isDue_26 ?_
      refine r_aload_n (pc := 27) (a := 1) dX9_isDue_27 rfl ?_
      refine r_getI (pc := 28) (fi := 3) (x := (h 1 3)) fl_X9_76 dX9_isDue_28 s0_1 rfl (rfl) ?_
      refine r_callV (μ2 := mX9_refuse) (pc := 31) (as := [.int (zI 2), .int (zI (h 1 3))]) (st := []) rfl s0_3 ml_X9_67 im_X9_refuse se_X9_refuse okX9_refuse ⟨by decide, by decide⟩ dX9_isDue_31 (Nat.le_of_ble_eq_true rfl) rfl (Nat.le_of_ble_eq_true rfl) (by decide) (by decide) (zCC.mono w ?_)
      rintro r S' h3 ⟨rfl, b3, hr, w⟩
      subst hr
      show RR mX9_isDue 0 0 34 [some (.ref 3), some (.ref 1), some (.int (zI v2))] [.int (zI (bI b3))] zS0 h3 (zQb zS0 K)
      have kk4 : RR mX9_isDue 0 0 42 [some (.ref 3), some (.ref 1), some (.int (zI v2))] [.int (zI (bI (if b3 = true then true else false)))] zS0 h3 (zQb zS0 K) := by
        exact r_iret (st := []) (pc := 42) (x := (bI (if b3 = true then true else false))) (ty := .boolean) dX9_isDue_42 rfl (bI_nar _) rfl (by decide) ⟨rfl, (if b3 = true then true else false), rfl, w⟩
      refine r_if_eq (pc := 34) (x := (bI b3)) (tgt := 41) dX9_isDue_34 (by decide) (bI_R _) (fun c => ?_) (fun c => ?_)
      · refine r_iconst (pc := 41) dX9_isDue_41 ?_
        simp only [if_neg (bI_ft (bI_0.mp c))] at kk4 ⊢
        exact kk4
      · refine r_iconst (pc := 37) dX9_isDue_37 ?_
        refine r_goto (pc := 38) (tgt := 42) dX9_isDue_38 (by decide) ?_
        simp only [if_pos (bI_n.mp c)] at kk4 ⊢
        exact kk4
  · have w := w.2 (c)
    refine r_aload_n (pc := 7) (a := 3) dX9_isDue_7 rfl ?_
    refine r_iconst (pc := 8) dX9_isDue_8 ?_
    refine r_aload_n (pc := 9) (a := 1) dX9_isDue_9 rfl ?_
    refine r_getI (pc := 10) (fi := 3) (x := (h 1 3)) fl_X9_76 dX9_isDue_10 s0_1 rfl (rfl) ?_
    refine r_callV (μ2 := mX9_refuse) (pc := 13) (as := [.int (zI 1), .int (zI (h 1 3))]) (st := []) rfl s0_3 ml_X9_67 im_X9_refuse se_X9_refuse okX9_refuse ⟨by decide, by decide⟩ dX9_isDue_13 (Nat.le_of_ble_eq_true rfl) rfl (Nat.le_of_ble_eq_true rfl) (by decide) (by decide) (zCC.mono w ?_)
    rintro r S' h5 ⟨rfl, b5, hr, w⟩
    subst hr
    show RR mX9_isDue 0 0 16 [some (.ref 3), some (.ref 1), some (.int (zI v2))] [.int (zI (bI b5))] zS0 h5 (zQb zS0 K)
    exact r_iret (st := []) (pc := 16) (x := (bI b5)) (ty := .boolean) dX9_isDue_16 rfl (bI_nar _) rfl (by decide) ⟨rfl, b5, rfl, w⟩

set_option maxRecDepth 100000 in
set_option maxHeartbeats 4000000 in
theorem wX9_nameOf {S : zSh} {h : zMm} {K : Nat → zMm → Prop} {v0 : Int} (w : (zR v0 ∧ ((v0 = 0 → K (1000 + 0) h) ∧ (v0 = 1 → K (1000 + 1) h) ∧ (v0 = 2 → K (1000 + 2) h) ∧ (v0 = 3 → K (1000 + 3) h) ∧ (v0 = 4 → K (1000 + 4) h) ∧ (v0 = 5 → K (1000 + 5) h) ∧ (v0 = 6 → K (1000 + 6) h) ∧ (v0 = 7 → K (1000 + 7) h) ∧ (v0 = 8 → K (1000 + 8) h) ∧ (v0 < 0 ∨ 8 < v0 → K (1000 + 9) h)))) : zCr mX9_nameOf [.int (zI v0)] S h K := by
  show RR mX9_nameOf 0 0 0 [some (.int (zI v0))] [] S h (zQr S K)
  refine r_iload_n (pc := 0) (x := v0) dX9_nameOf_0 rfl ?_
  obtain ⟨hr1, w⟩ := w
  rcases (show v0 = 0 ∨ v0 = 1 ∨ v0 = 2 ∨ v0 = 3 ∨ v0 = 4 ∨ v0 = 5 ∨ v0 = 6 ∨ v0 = 7 ∨ v0 = 8 ∨ (v0 < 0 ∨ 8 < v0) by omega) with hcs | hcs | hcs | hcs | hcs | hcs | hcs | hcs | hcs | hcs
  · have w := w.1 hcs
    refine r_tswIn (pc := 1) (x := v0) (tgt := 52) dX9_nameOf_1 hr1 (by omega) (by omega) (by rw [hcs]; rfl) (by decide) ?_
    refine r_ldcS (pc := 52) (q := (104, "row", 0)) dX9_nameOf_52 (by decide) rfl rfl ?_
    exact r_aret (st := []) (pc := 54) (C := "java/lang/String") dX9_nameOf_54 rfl rfl (by decide) ⟨rfl, _, rfl, w⟩
  · have w := w.2.1 hcs
    refine r_tswIn (pc := 1) (x := v0) (tgt := 55) dX9_nameOf_1 hr1 (by omega) (by omega) (by rw [hcs]; rfl) (by decide) ?_
    refine r_ldcS (pc := 55) (q := (106, "socket", 1)) dX9_nameOf_55 (by decide) rfl rfl ?_
    exact r_aret (st := []) (pc := 57) (C := "java/lang/String") dX9_nameOf_57 rfl rfl (by decide) ⟨rfl, _, rfl, w⟩
  · have w := w.2.2.1 hcs
    refine r_tswIn (pc := 1) (x := v0) (tgt := 58) dX9_nameOf_1 hr1 (by omega) (by omega) (by rw [hcs]; rfl) (by decide) ?_
    refine r_ldcS (pc := 58) (q := (108, "turn", 2)) dX9_nameOf_58 (by decide) rfl rfl ?_
    exact r_aret (st := []) (pc := 60) (C := "java/lang/String") dX9_nameOf_60 rfl rfl (by decide) ⟨rfl, _, rfl, w⟩
  · have w := w.2.2.2.1 hcs
    refine r_tswIn (pc := 1) (x := v0) (tgt := 61) dX9_nameOf_1 hr1 (by omega) (by omega) (by rw [hcs]; rfl) (by decide) ?_
    refine r_ldcS (pc := 61) (q := (110, "climb", 3)) dX9_nameOf_61 (by decide) rfl rfl ?_
    exact r_aret (st := []) (pc := 63) (C := "java/lang/String") dX9_nameOf_63 rfl rfl (by decide) ⟨rfl, _, rfl, w⟩
  · have w := w.2.2.2.2.1 hcs
    refine r_tswIn (pc := 1) (x := v0) (tgt := 64) dX9_nameOf_1 hr1 (by omega) (by omega) (by rw [hcs]; rfl) (by decide) ?_
    refine r_ldcS (pc := 64) (q := (112, "bag", 4)) dX9_nameOf_64 (by decide) rfl rfl ?_
    exact r_aret (st := []) (pc := 66) (C := "java/lang/String") dX9_nameOf_66 rfl rfl (by decide) ⟨rfl, _, rfl, w⟩
  · have w := w.2.2.2.2.2.1 hcs
    refine r_tswIn (pc := 1) (x := v0) (tgt := 67) dX9_nameOf_1 hr1 (by omega) (by omega) (by rw [hcs]; rfl) (by decide) ?_
    refine r_ldcS (pc := 67) (q := (114, "empty", 5)) dX9_nameOf_67 (by decide) rfl rfl ?_
    exact r_aret (st := []) (pc := 69) (C := "java/lang/String") dX9_nameOf_69 rfl rfl (by decide) ⟨rfl, _, rfl, w⟩
  · have w := w.2.2.2.2.2.2.1 hcs
    refine r_tswIn (pc := 1) (x := v0) (tgt := 70) dX9_nameOf_1 hr1 (by omega) (by omega) (by rw [hcs]; rfl) (by decide) ?_
    refine r_ldcS (pc := 70) (q := (116, "cord", 6)) dX9_nameOf_70 (by decide) rfl rfl ?_
    exact r_aret (st := []) (pc := 72) (C := "java/lang/String") dX9_nameOf_72 rfl rfl (by decide) ⟨rfl, _, rfl, w⟩
  · have w := w.2.2.2.2.2.2.2.1 hcs
    refine r_tswIn (pc := 1) (x := v0) (tgt := 73) dX9_nameOf_1 hr1 (by omega) (by omega) (by rw [hcs]; rfl) (by decide) ?_
    refine r_ldcS (pc := 73) (q := (118, "dew", 7)) dX9_nameOf_73 (by decide) rfl rfl ?_
    exact r_aret (st := []) (pc := 75) (C := "java/lang/String") dX9_nameOf_75 rfl rfl (by decide) ⟨rfl, _, rfl, w⟩
  · have w := w.2.2.2.2.2.2.2.2.1 hcs
    refine r_tswIn (pc := 1) (x := v0) (tgt := 76) dX9_nameOf_1 hr1 (by omega) (by omega) (by rw [hcs]; rfl) (by decide) ?_
    refine r_ldcS (pc := 76) (q := (120, "high", 8)) dX9_nameOf_76 (by decide) rfl rfl ?_
    exact r_aret (st := []) (pc := 78) (C := "java/lang/String") dX9_nameOf_78 rfl rfl (by decide) ⟨rfl, _, rfl, w⟩
  · have w := w.2.2.2.2.2.2.2.2.2 hcs
    refine r_tswOut (pc := 1) (x := v0) (tgt := 79) dX9_nameOf_1 hr1 (by omega) (by decide) ?_
    refine r_ldcS (pc := 79) (q := (122, "sun", 9)) dX9_nameOf_79 (by decide) rfl rfl ?_
    exact r_aret (st := []) (pc := 81) (C := "java/lang/String") dX9_nameOf_81 rfl rfl (by decide) ⟨rfl, _, rfl, w⟩

set_option maxRecDepth 100000 in
set_option maxHeartbeats 4000000 in
theorem wX9_kindOfLine {h : zMm} {K : Int → zMm → Prop} (w : RR mX9_kindOfLine 0 0 2 [none, some (.ref 1), some (.int (zI 0))] [] zS0 h (zQi zS0 K)) : zCi mX9_kindOfLine [.ref 3, .ref 1] zS0 h K := by
  show RR mX9_kindOfLine 0 0 0 [some (.ref 3), some (.ref 1), none] [] zS0 h (zQi zS0 K)
  refine r_iconst (pc := 0) dX9_kindOfLine_0 ?_
  refine r_istore_n (pc := 1) (L' := [some (.ref 3), some (.ref 1), some (.int (zI 0))]) dX9_kindOfLine_1 (by decide) rfl ?_
  exact RR.sub (L' := [none, some (.ref 1), some (.int (zI 0))]) (zSb_of (⟨rfl, ⟨rfl, trivial⟩⟩)) w

set_option maxRecDepth 100000 in
set_option maxHeartbeats 4000000 in
theorem bX9_kindOfLine_2 {h : zMm} {K : Int → zMm → Prop} {v2 : Int} (w : (zR v2 ∧ ((10 ≤ v2 → K (-1) h) ∧ (¬ 10 ≤ v2 → zCr mX9_nameOf [.int (zI v2)] zS0 h (fun rj2 h2 => ∃ j2 : Nat, rj2 = 1000 + j2 ∧ j2 < 11 ∧ zCb mX8_spells [.ref 1, .ref (1000 + j2)] zS0 h2 (fun b3 h3 => ((b3 = false → RR mX9_kindOfLine 0 0 2 [none, some (.ref 1), some (.int (zI (v2 + 1)))] [] zS0 h3 (zQi zS0 K)) ∧ (b3 = true → K v2 h3)))))))) : RR mX9_kindOfLine 0 0 2 [none, some (.ref 1), some (.int (zI v2))] [] zS0 h (zQi zS0 K) := by
  refine r_iload_n (pc := 2) (x := v2) dX9_kindOfLine_2 rfl ?_
  refine r_bipush (pc := 3) (x := 10) dX9_kindOfLine_3 (by decide) ?_
  obtain ⟨hr1, w⟩ := w
  refine r_icmp_ge (pc := 5) (x := v2) (y := 10) (tgt := 27) dX9_kindOfLine_5 (by decide) hr1 (by decide) (fun c => ?_) (fun c => ?_)
  · have w := w.1 (c)
    refine r_iconst (pc := 27) dX9_kindOfLine_27 ?_
    exact r_iret (st := []) (pc := 28) (x := (-1)) (ty := .int) dX9_kindOfLine_28 rfl rfl rfl (by decide) ⟨rfl, _, rfl, w⟩
  · have w := w.2 (c)
    refine r_aload_n (pc := 8) (a := 1) dX9_kindOfLine_8 rfl ?_
    refine r_iload_n (pc := 9) (x := v2) dX9_kindOfLine_9 rfl ?_
    refine r_callS (μ2 := mX9_nameOf) (pc := 10) (as := [.int (zI v2)]) (st := [.ref 1]) ml_X9_96 sm_X9_nameOf okX9_nameOf ⟨by decide, by decide⟩ dX9_kindOfLine_10 (Nat.le_of_ble_eq_true rfl) rfl (Nat.le_of_ble_eq_true rfl) (by decide) (by decide) (zCC.mono w ?_)
    rintro r S' h2 ⟨rfl, rj2, hr, j2, rfl, hj2, w⟩
    subst hr
    show RR mX9_kindOfLine 0 0 13 [none, some (.ref 1), some (.int (zI v2))] [.ref (1000 + j2), .ref 1] zS0 h2 (zQi zS0 K)
    refine r_callV (μ2 := mX8_spells) (pc := 13) (as := [.ref (1000 + j2)]) (st := []) rfl s0_1 ml_X9_100 im_X8_spells se_X8_spells okX8_spells ⟨by decide, by decide⟩ dX9_kindOfLine_13 (Nat.le_of_ble_eq_true rfl) rfl (Nat.le_of_ble_eq_true rfl) (by decide) (by decide) (zCC.mono w ?_)
    rintro r S' h3 ⟨rfl, b3, hr, w⟩
    subst hr
    show RR mX9_kindOfLine 0 0 16 [none, some (.ref 1), some (.int (zI v2))] [.int (zI (bI b3))] zS0 h3 (zQi zS0 K)
    refine r_if_eq (pc := 16) (x := (bI b3)) (tgt := 21) dX9_kindOfLine_16 (by decide) (bI_R _) (fun c => ?_) (fun c => ?_)
    · have w := w.1 (bI_0.mp c)
      refine r_iinc (pc := 21) (x := v2) (L' := [none, some (.ref 1), some (.int (zI (v2 + 1)))]) dX9_kindOfLine_21 rfl (by decide) rfl ?_
      refine r_goto (pc := 24) (tgt := 2) dX9_kindOfLine_24 (by decide) ?_
      exact w
    · have w := w.2 (bI_n.mp c)
      refine r_iload_n (pc := 19) (x := v2) dX9_kindOfLine_19 rfl ?_
      exact r_iret (st := []) (pc := 20) (x := v2) (ty := .int) dX9_kindOfLine_20 rfl rfl rfl (by decide) ⟨rfl, _, rfl, w⟩

set_option maxRecDepth 100000 in
set_option maxHeartbeats 4000000 in
theorem wX9_takeRow {h : zMm} {K : Bool → zMm → Prop} (w : zCv mX8_readToken [.ref 1] zS0 h (fun h1 => zCb mX9_isDue [.ref 3, .ref 1, .int (zI 1)] zS0 h1 (fun b2 h2 => ((b2 = true → (zR ((h2 1 4) - (h2 1 3)) ∧ ((((h2 1 4) - (h2 1 3)) = 6 → RR mX9_takeRow 0 0 41 [some (.ref 3), some (.ref 1), some (.int (zI 0)), none] [] zS0 h2 (zQb zS0 K)) ∧ (¬ ((h2 1 4) - (h2 1 3)) = 6 → zCb mX9_refuse [.ref 3, .int (zI 3), .int (zI (h2 1 3))] zS0 h2 (fun b4 h4 => K b4 h4))))) ∧ (b2 = false → K false h2))))) : zCb mX9_takeRow [.ref 3, .ref 1] zS0 h K := by
  show RR mX9_takeRow 0 0 0 [some (.ref 3), some (.ref 1), none, none] [] zS0 h (zQb zS0 K)
  refine r_aload_n (pc := 0) (a := 1) dX9_takeRow_0 rfl ?_
  refine r_callV (μ2 := mX8_readToken) (pc := 1) (as := []) (st := []) rfl s0_1 ml_X9_42 im_X8_readToken se_X8_readToken okX8_readToken ⟨by decide, by decide⟩ dX9_takeRow_1 (Nat.le_of_ble_eq_true rfl) rfl (Nat.le_of_ble_eq_true rfl) (by decide) (by decide) (zCC.mono w ?_)
  rintro r S' h1 ⟨rfl, hr, w⟩
  subst hr
  show RR mX9_takeRow 0 0 4 [some (.ref 3), some (.ref 1), none, none] [] zS0 h1 (zQb zS0 K)
  refine r_aload_n (pc := 4) (a := 3) dX9_takeRow_4 rfl ?_
  refine r_aload_n (pc := 5) (a := 1) dX9_takeRow_5 rfl ?_
  refine r_iconst (pc := 6) dX9_takeRow_6 ?_
  refine r_callV (μ2 := mX9_isDue) (pc := 7) (as := [.ref 1, .int (zI 1)]) (st := []) rfl s0_3 ml_X9_79 im_X9_isDue se_X9_isDue okX9_isDue ⟨by decide, by decide⟩ dX9_takeRow_7 (Nat.le_of_ble_eq_true rfl) rfl (Nat.le_of_ble_eq_true rfl) (by decide) (by decide) (zCC.mono w ?_)
  rintro r S' h2 ⟨rfl, b2, hr, w⟩
  subst hr
  show RR mX9_takeRow 0 0 10 [some (.ref 3), some (.ref 1), none, none] [.int (zI (bI b2))] zS0 h2 (zQb zS0 K)
  refine r_if_ne (pc := 10) (x := (bI b2)) (tgt := 15) dX9_takeRow_10 (by decide) (bI_R _) (fun c => ?_) (fun c => ?_)
  · have w := w.1 (bI_n.mp c)
    refine r_aload_n (pc := 15) (a := 1) dX9_takeRow_15 rfl ?_
    refine r_getI (pc := 16) (fi := 4) (x := (h2 1 4)) fl_X9_124 dX9_takeRow_16 s0_1 rfl (rfl) ?_
    refine r_aload_n (pc := 19) (a := 1) dX9_takeRow_19 rfl ?_
    refine r_getI (pc := 20) (fi := 3) (x := (h2 1 3)) fl_X9_76 dX9_takeRow_20 s0_1 rfl (rfl) ?_
    refine r_isub (pc := 23) (x := (h2 1 4)) (y := (h2 1 3)) dX9_takeRow_23 ?_
    refine r_bipush (pc := 24) (x := 6) dX9_takeRow_24 (by decide) ?_
    obtain ⟨hr3, w⟩ := w
    refine r_icmp_eq (pc := 26) (x := ((h2 1 4) - (h2 1 3))) (y := 6) (tgt := 39) dX9_takeRow_26 (by decide) hr3 (by decide) (fun c => ?_) (fun c => ?_)
    · have w := w.1 (c)
      refine r_iconst (pc := 39) dX9_takeRow_39 ?_
      refine r_istore_n (pc := 40) (L' := [some (.ref 3), some (.ref 1), some (.int (zI 0)), none]) dX9_takeRow_40 (by decide) rfl ?_
      exact w
    · have w := w.2 (c)
      refine r_aload_n (pc := 29) (a := 3) dX9_takeRow_29 rfl ?_
      refine r_iconst (pc := 30) dX9_takeRow_30 ?_
      refine r_aload_n (pc := 31) (a := 1) dX9_takeRow_31 rfl ?_
      refine r_getI (pc := 32) (fi := 3) (x := (h2 1 3)) fl_X9_76 dX9_takeRow_32 s0_1 rfl (rfl) ?_
      refine r_callV (μ2 := mX9_refuse) (pc := 35) (as := [.int (zI 3), .int (zI (h2 1 3))]) (st := []) rfl s0_3 ml_X9_67 im_X9_refuse se_X9_refuse okX9_refuse ⟨by decide, by decide⟩ dX9_takeRow_35 (Nat.le_of_ble_eq_true rfl) rfl (Nat.le_of_ble_eq_true rfl) (by decide) (by decide) (zCC.mono w ?_)
      rintro r S' h4 ⟨rfl, b4, hr, w⟩
      subst hr
      show RR mX9_takeRow 0 0 38 [some (.ref 3), some (.ref 1), none, none] [.int (zI (bI b4))] zS0 h4 (zQb zS0 K)
      exact r_iret (st := []) (pc := 38) (x := (bI b4)) (ty := .boolean) dX9_takeRow_38 rfl (bI_nar _) rfl (by decide) ⟨rfl, b4, rfl, w⟩
  · have w := w.2 (bI_0.mp c)
    refine r_iconst (pc := 13) dX9_takeRow_13 ?_
    exact r_iret (st := []) (pc := 14) (x := 0) (ty := .boolean) dX9_takeRow_14 rfl (rfl) rfl (by decide) ⟨rfl, false, rfl, w⟩

set_option maxRecDepth 100000 in
set_option maxHeartbeats 4000000 in
theorem bX9_takeRow_41 {h : zMm} {K : Bool → zMm → Prop} {v2 : Int} (w : (zR v2 ∧ ((6 ≤ v2 → K true (zU h 3 4 ((h 3 4) + 1))) ∧ (¬ 6 ≤ v2 → zCi mX8_letterOf [.ref 1, .int (zI v2)] zS0 h (fun x6 h6 => zCi mJ0_indexOf_0f7a4 [.ref (1000 + 10), .int (zI x6)] zS0 h6 (fun x7 h7 => (zR x7 ∧ ((0 ≤ x7 → ((0 ≤ (((h7 3 4) * 6) + v2) ∧ (((h7 3 4) * 6) + v2) < 36) ∧ RR mX9_takeRow 0 0 41 [some (.ref 3), some (.ref 1), some (.int (zI (v2 + 1))), none] [] zS0 (zU h7 5 (((h7 3 4) * 6) + v2) x7) (zQb zS0 K))) ∧ (¬ 0 ≤ x7 → zCb mX9_refuse [.ref 3, .int (zI 3), .int (zI (h7 1 3))] zS0 h7 (fun b10 h10 => K b10 h10)))))))))) : RR mX9_takeRow 0 0 41 [some (.ref 3), some (.ref 1), some (.int (zI v2)), none] [] zS0 h (zQb zS0 K) := by
  refine r_iload_n (pc := 41) (x := v2) dX9_takeRow_41 rfl ?_
  refine r_bipush (pc := 42) (x := 6) dX9_takeRow_42 (by decide) ?_
  obtain ⟨hr5, w⟩ := w
  refine r_icmp_ge (pc := 44) (x := v2) (y := 6) (tgt := 96) dX9_takeRow_44 (by decide) hr5 (by decide) (fun c => ?_) (fun c => ?_)
  · have w := w.1 (c)
    refine r_aload_n (pc := 96) (a := 3) dX9_takeRow_96 rfl ?_
    refine r_dup (pc := 97) rfl dX9_takeRow_97 ?_
    refine r_getI (pc := 98) (fi := 4) (x := (h 3 4)) fl_X9_28 dX9_takeRow_98 s0_3 rfl (rfl) ?_
    refine r_iconst (pc := 101) dX9_takeRow_101 ?_
    refine r_iadd (pc := 102) (x := (h 3 4)) (y := 1) dX9_takeRow_102 ?_
    refine r_putI (pc := 103) (fi := 4) (x := ((h 3 4) + 1)) fl_X9_28 dX9_takeRow_103 s0_3 rfl ?_
    refine r_iconst (pc := 106) dX9_takeRow_106 ?_
    exact r_iret (st := []) (pc := 107) (x := 1) (ty := .boolean) dX9_takeRow_107 rfl (rfl) rfl (by decide) ⟨rfl, true, rfl, w⟩
  · have w := w.2 (c)
    refine r_ldcS (pc := 47) (q := (127, "glxbh", 10)) dX9_takeRow_47 (by decide) rfl rfl ?_
    refine r_aload_n (pc := 49) (a := 1) dX9_takeRow_49 rfl ?_
    refine r_iload_n (pc := 50) (x := v2) dX9_takeRow_50 rfl ?_
    refine r_callV (μ2 := mX8_letterOf) (pc := 51) (as := [.int (zI v2)]) (st := [.ref (1000 + 10)]) rfl s0_1 ml_X9_129 im_X8_letterOf se_X8_letterOf okX8_letterOf ⟨by decide, by decide⟩ dX9_takeRow_51 (Nat.le_of_ble_eq_true rfl) rfl (Nat.le_of_ble_eq_true rfl) (by decide) (by decide) (zCC.mono w ?_)
    rintro r S' h6 ⟨rfl, x6, hr, w⟩
    subst hr
    show RR mX9_takeRow 0 0 54 [some (.ref 3), some (.ref 1), some (.int (zI v2)), none] [.int (zI x6), .ref (1000 + 10)] zS0 h6 (zQb zS0 K)
    refine r_callStr (μ2 := mJ0_indexOf_0f7a4) (pc := 54) (as := [.int (zI x6)]) (st := []) (by decide) ml_X9_133 im_J0_indexOf_0f7a4 se_J0_indexOf_0f7a4 okJ0_indexOf_0f7a4 ⟨by decide, by decide⟩ dX9_takeRow_54 (Nat.le_of_ble_eq_true rfl) rfl (Nat.le_of_ble_eq_true rfl) (by decide) (by decide) (zCC.mono w ?_)
    rintro r S' h7 ⟨rfl, x7, hr, w⟩
    subst hr
    show RR mX9_takeRow 0 0 57 [some (.ref 3), some (.ref 1), some (.int (zI v2)), none] [.int (zI x7)] zS0 h7 (zQb zS0 K)
    refine r_istore_n (pc := 57) (L' := [some (.ref 3), some (.ref 1), some (.int (zI v2)), some (.int (zI x7))]) dX9_takeRow_57 (by decide) rfl ?_
    refine r_iload_n (pc := 58) (x := x7) dX9_takeRow_58 rfl ?_
    obtain ⟨hr8, w⟩ := w
    refine r_if_ge (pc := 59) (x := x7) (tgt := 72) dX9_takeRow_59 (by decide) hr8 (fun c => ?_) (fun c => ?_)
    · have w := w.1 (c)
      refine r_aload_n (pc := 72) (a := 3) dX9_takeRow_72 rfl ?_
      refine r_getR (pc := 73) (b := 4) fl_X9_12 dX9_takeRow_73 s0_3 rfl ?_
      refine r_getR (pc := 76) (b := 5) fl_X9_138 dX9_takeRow_76 s0_4 rfl ?_
      refine r_aload_n (pc := 79) (a := 3) dX9_takeRow_79 rfl ?_
      refine r_getI (pc := 80) (fi := 4) (x := (h7 3 4)) fl_X9_28 dX9_takeRow_80 s0_3 rfl (rfl) ?_
      refine r_bipush (pc := 83) (x := 6) dX9_takeRow_83 (by decide) ?_
      refine r_imul (pc := 85) (x := (h7 3 4)) (y := 6) dX9_takeRow_85 ?_
      refine r_iload_n (pc := 86) (x := v2) dX9_takeRow_86 rfl ?_
      refine r_iadd (pc := 87) (x := ((h7 3 4) * 6)) (y := v2) dX9_takeRow_87 ?_
      refine r_iload_n (pc := 88) (x := x7) dX9_takeRow_88 rfl ?_
      obtain ⟨hb9, w⟩ := w
      refine r_iast (pc := 89) (i := (((h7 3 4) * 6) + v2)) (x := x7) dX9_takeRow_89 s0_5 ⟨hb9.1, hb9.2, (by decide)⟩  ?_
      refine r_iinc (pc := 90) (x := v2) (L' := [some (.ref 3), some (.ref 1), some (.int (zI (v2 + 1))), some (.int (zI x7))]) dX9_takeRow_90 rfl (by decide) rfl ?_
      refine r_goto (pc := 93) (tgt := 41) dX9_takeRow_93 (by decide) ?_
      exact RR.sub (L' := [some (.ref 3), some (.ref 1), some (.int (zI (v2 + 1))), none]) (zSb_of (⟨rfl, ⟨rfl, ⟨rfl, trivial⟩⟩⟩)) w
    · have w := w.2 (c)
      refine r_aload_n (pc := 62) (a := 3) dX9_takeRow_62 rfl ?_
      refine r_iconst (pc := 63) dX9_takeRow_63 ?_
      refine r_aload_n (pc := 64) (a := 1) dX9_takeRow_64 rfl ?_
      refine r_getI (pc := 65) (fi := 3) (x := (h7 1 3)) fl_X9_76 dX9_takeRow_65 s0_1 rfl (rfl) ?_
      refine r_callV (μ2 := mX9_refuse) (pc := 68) (as := [.int (zI 3), .int (zI (h7 1 3))]) (st := []) rfl s0_3 ml_X9_67 im_X9_refuse se_X9_refuse okX9_refuse ⟨by decide, by decide⟩ dX9_takeRow_68 (Nat.le_of_ble_eq_true rfl) rfl (Nat.le_of_ble_eq_true rfl) (by decide) (by decide) (zCC.mono w ?_)
      rintro r S' h10 ⟨rfl, b10, hr, w⟩
      subst hr
      show RR mX9_takeRow 0 0 71 [some (.ref 3), some (.ref 1), some (.int (zI v2)), some (.int (zI x7))] [.int (zI (bI b10))] zS0 h10 (zQb zS0 K)
      exact r_iret (st := []) (pc := 71) (x := (bI b10)) (ty := .boolean) dX9_takeRow_71 rfl (bI_nar _) rfl (by decide) ⟨rfl, b10, rfl, w⟩

set_option maxRecDepth 100000 in
set_option maxHeartbeats 4000000 in
theorem wX9_takeNumber {h : zMm} {K : Bool → zMm → Prop} {v2 : Int} {v3 : Int} (w : zCv mX8_readToken [.ref 1] zS0 h (fun h1 => zCb mX9_isDue [.ref 3, .ref 1, .int (zI 2)] zS0 h1 (fun b2 h2 => ((b2 = true → zCb mX11_isWithin [.int (zI (h2 1 5)), .int (zI v2), .int (zI v3)] zS0 h2 (fun b3 h3 => ((b3 = true → K true h3) ∧ (b3 = false → zCb mX9_refuse [.ref 3, .int (zI 3), .int (zI (h3 1 3))] zS0 h3 (fun b4 h4 => K (if b4 = true then true else false) h4))))) ∧ (b2 = false → K false h2))))) : zCb mX9_takeNumber [.ref 3, .ref 1, .int (zI v2), .int (zI v3)] zS0 h K := by
  show RR mX9_takeNumber 0 0 0 [some (.ref 3), some (.ref 1), some (.int (zI v2)), some (.int (zI v3))] [] zS0 h (zQb zS0 K)
  refine r_aload_n (pc := 0) (a := 1) dX9_takeNumber_0 rfl ?_
  refine r_callV (μ2 := mX8_readToken) (pc := 1) (as := []) (st := []) rfl s0_1 ml_X9_42 im_X8_readToken se_X8_readToken okX8_readToken ⟨by decide, by decide⟩ dX9_takeNumber_1 (Nat.le_of_ble_eq_true rfl) rfl (Nat.le_of_ble_eq_true rfl) (by decide) (by decide) (zCC.mono w ?_)
  rintro r S' h1 ⟨rfl, hr, w⟩
  subst hr
  show RR mX9_takeNumber 0 0 4 [some (.ref 3), some (.ref 1), some (.int (zI v2)), some (.int (zI v3))] [] zS0 h1 (zQb zS0 K)
  refine r_aload_n (pc := 4) (a := 3) dX9_takeNumber_4 rfl ?_
  refine r_aload_n (pc := 5) (a := 1) dX9_takeNumber_5 rfl ?_
  refine r_iconst (pc := 6) dX9_takeNumber_6 ?_
  refine r_callV (μ2 := mX9_isDue) (pc := 7) (as := [.ref 1, .int (zI 2)]) (st := []) rfl s0_3 ml_X9_79 im_X9_isDue se_X9_isDue okX9_isDue ⟨by decide, by decide⟩ dX9_takeNumber_7 (Nat.le_of_ble_eq_true rfl) rfl (Nat.le_of_ble_eq_true rfl) (by decide) (by decide) (zCC.mono w ?_)
  rintro r S' h2 ⟨rfl, b2, hr, w⟩
  subst hr
  show RR mX9_takeNumber 0 0 10 [some (.ref 3), some (.ref 1), some (.int (zI v2)), some (.int (zI v3))] [.int (zI (bI b2))] zS0 h2 (zQb zS0 K)
  refine r_if_ne (pc := 10) (x := (bI b2)) (tgt := 15) dX9_takeNumber_10 (by decide) (bI_R _) (fun c => ?_) (fun c => ?_)
  · have w := w.1 (bI_n.mp c)
    refine r_aload_n (pc := 15) (a := 1) dX9_takeNumber_15 rfl ?_
    refine r_getI (pc := 16) (fi := 5) (x := (h2 1 5)) fl_X9_142 dX9_takeNumber_16 s0_1 rfl (rfl) ?_
    refine r_iload_n (pc := 19) (x := v2) dX9_takeNumber_19 rfl ?_
    refine r_iload_n (pc := 20) (x := v3) dX9_takeNumber_20 rfl ?_
    refine r_callSN (μ2 := mX11_isWithin) (pc := 21) (as := [.int (zI (h2 1 5)), .int (zI v2), .int (zI v3)]) (st := []) mn_X9_145 sm_X11_isWithin okX11_isWithin ⟨by decide, by decide⟩ dX9_takeNumber_21 (Nat.le_of_ble_eq_true rfl) rfl (Nat.le_of_ble_eq_true rfl) (by decide) (by decide) (zCC.mono w ?_)
    rintro r S' h3 ⟨rfl, b3, hr, w⟩
    subst hr
    show RR mX9_takeNumber 0 0 24 [some (.ref 3), some (.ref 1), some (.int (zI v2)), some (.int (zI v3))] [.int (zI (bI b3))] zS0 h3 (zQb zS0 K)
    refine r_if_ne (pc := 24) (x := (bI b3)) (tgt := 39) dX9_takeNumber_24 (by decide) (bI_R _) (fun c => ?_) (fun c => ?_)
    · have w := w.1 (bI_n.mp c)
      refine r_iconst (pc := 39) dX9_takeNumber_39 ?_
      refine r_goto (pc := 40) (tgt := 44) dX9_takeNumber_40 (by decide) ?_
      exact r_iret (st := []) (pc := 44) (x := 1) (ty := .boolean) dX9_takeNumber_44 rfl (rfl) rfl (by decide) ⟨rfl, true, rfl, w⟩
    · have w := w.2 (bI_0.mp c)
      refine r_aload_n (pc := 27) (a := 3) dX9_takeNumber_27 rfl ?_
      refine r_iconst (pc := 28) dX9_takeNumber_28 ?_
      refine r_aload_n (pc := 29) (a := 1) dX9_takeNumber_29 rfl ?_
      refine r_getI (pc := 30) (fi := 3) (x := (h3 1 3)) fl_X9_76 dX9_takeNumber_30 s0_1 rfl (rfl) ?_
      refine r_callV (μ2 := mX9_refuse) (pc := 33) (as := [.int (zI 3), .int (zI (h3 1 3))]) (st := []) rfl s0_3 ml_X9_67 im_X9_refuse se_X9_refuse okX9_refuse ⟨by decide, by decide⟩ dX9_takeNumber_33 (Nat.le_of_ble_eq_true rfl) rfl (Nat.le_of_ble_eq_true rfl) (by decide) (by decide) (zCC.mono w ?_)
      rintro r S' h4 ⟨rfl, b4, hr, w⟩
      subst hr
      show RR mX9_takeNumber 0 0 36 [some (.ref 3), some (.ref 1), some (.int (zI v2)), some (.int (zI v3))] [.int (zI (bI b4))] zS0 h4 (zQb zS0 K)
      have kk5 : RR mX9_takeNumber 0 0 44 [some (.ref 3), some (.ref 1), some (.int (zI v2)), some (.int (zI v3))] [.int (zI (bI (if b4 = true then true else false)))] zS0 h4 (zQb zS0 K) := by
        exact r_iret (st := []) (pc := 44) (x := (bI (if b4 = true then true else false))) (ty := .boolean) dX9_takeNumber_44 rfl (bI_nar _) rfl (by decide) ⟨rfl, (if b4 = true then true else false), rfl, w⟩
      refine r_if_eq (pc := 36) (x := (bI b4)) (tgt := 43) dX9_takeNumber_36 (by decide) (bI_R _) (fun c => ?_) (fun c => ?_)
      · refine r_iconst (pc := 43) dX9_takeNumber_43 ?_
        simp only [if_neg (bI_ft (bI_0.mp c))] at kk5 ⊢
        exact kk5
      · refine r_iconst (pc := 39) dX9_takeNumber_39 ?_
        refine r_goto (pc := 40) (tgt := 44) dX9_takeNumber_40 (by decide) ?_
        simp only [if_pos (bI_n.mp c)] at kk5 ⊢
        exact kk5
  · have w := w.2 (bI_0.mp c)
    refine r_iconst (pc := 13) dX9_takeNumber_13 ?_
    exact r_iret (st := []) (pc := 14) (x := 0) (ty := .boolean) dX9_takeNumber_14 rfl (rfl) rfl (by decide) ⟨rfl, false, rfl, w⟩

set_option maxRecDepth 100000 in
set_option maxHeartbeats 4000000 in
theorem wX9_takeRule {h : zMm} {K : Bool → zMm → Prop} {v2 : Int} (w : zCb mX11_isWithin [.int (zI v2), .int (zI 0), .int (zI 7)] zS0 h (fun b1 h1 => ((b1 = false → K false h1) ∧ (b1 = true → ((0 ≤ v2 ∧ v2 < 8) ∧ ((0 ≤ v2 ∧ v2 < 8) ∧ zCb mX9_takeNumber [.ref 3, .ref 1, .int (zI (zSt0.2.2.getD (v2).toNat 0)), .int (zI (zSt1.2.2.getD (v2).toNat 0))] zS0 h1 (fun b4 h4 => ((b4 = true → K true (zU h4 9 v2 (h4 1 5))) ∧ (b4 = false → K false h4))))))))) : zCb mX9_takeRule [.ref 3, .ref 1, .int (zI v2)] zS0 h K := by
  show RR mX9_takeRule 0 0 0 [some (.ref 3), some (.ref 1), some (.int (zI v2))] [] zS0 h (zQb zS0 K)
  refine r_iload_n (pc := 0) (x := v2) dX9_takeRule_0 rfl ?_
  refine r_iconst (pc := 1) dX9_takeRule_1 ?_
  refine r_bipush (pc := 2) (x := 7) dX9_takeRule_2 (by decide) ?_
  refine r_callSN (μ2 := mX11_isWithin) (pc := 4) (as := [.int (zI v2), .int (zI 0), .int (zI 7)]) (st := []) mn_X9_145 sm_X11_isWithin okX11_isWithin ⟨by decide, by decide⟩ dX9_takeRule_4 (Nat.le_of_ble_eq_true rfl) rfl (Nat.le_of_ble_eq_true rfl) (by decide) (by decide) (zCC.mono w ?_)
  rintro r S' h1 ⟨rfl, b1, hr, w⟩
  subst hr
  show RR mX9_takeRule 0 0 7 [some (.ref 3), some (.ref 1), some (.int (zI v2))] [.int (zI (bI b1))] zS0 h1 (zQb zS0 K)
  refine r_if_eq (pc := 7) (x := (bI b1)) (tgt := 28) dX9_takeRule_7 (by decide) (bI_R _) (fun c => ?_) (fun c => ?_)
  · have w := w.1 (bI_0.mp c)
    refine r_iconst (pc := 28) dX9_takeRule_28 ?_
    exact r_iret (st := []) (pc := 29) (x := 0) (ty := .boolean) dX9_takeRule_29 rfl (rfl) rfl (by decide) ⟨rfl, false, rfl, w⟩
  · have w := w.2 (bI_n.mp c)
    refine r_aload_n (pc := 10) (a := 3) dX9_takeRule_10 rfl ?_
    refine r_aload_n (pc := 11) (a := 1) dX9_takeRule_11 rfl ?_
    refine r_getsN (pc := 12) (q := zSt0) zSt_0 fn_X9_149 dX9_takeRule_12 ?_
    refine r_iload_n (pc := 15) (x := v2) dX9_takeRule_15 rfl ?_
    obtain ⟨hb2, w⟩ := w
    refine r_stald (pc := 16) (q := zSt0) (i := v2) (x := (zSt0.2.2.getD (v2).toNat 0)) zSt_0 dX9_takeRule_16 hb2 rfl ?_
    refine r_getsN (pc := 17) (q := zSt1) zSt_1 fn_X9_152 dX9_takeRule_17 ?_
    refine r_iload_n (pc := 20) (x := v2) dX9_takeRule_20 rfl ?_
    obtain ⟨hb3, w⟩ := w
    refine r_stald (pc := 21) (q := zSt1) (i := v2) (x := (zSt1.2.2.getD (v2).toNat 0)) zSt_1 dX9_takeRule_21 hb3 rfl ?_
    refine r_callV (μ2 := mX9_takeNumber) (pc := 22) (as := [.ref 1, .int (zI (zSt0.2.2.getD (v2).toNat 0)), .int (zI (zSt1.2.2.getD (v2).toNat 0))]) (st := []) rfl s0_3 ml_X9_155 im_X9_takeNumber se_X9_takeNumber okX9_takeNumber ⟨by decide, by decide⟩ dX9_takeRule_22 (Nat.le_of_ble_eq_true rfl) rfl (Nat.le_of_ble_eq_true rfl) (by decide) (by decide) (zCC.mono w ?_)
    rintro r S' h4 ⟨rfl, b4, hr, w⟩
    subst hr
    show RR mX9_takeRule 0 0 25 [some (.ref 3), some (.ref 1), some (.int (zI v2))] [.int (zI (bI b4))] zS0 h4 (zQb zS0 K)
    refine r_if_ne (pc := 25) (x := (bI b4)) (tgt := 30) dX9_takeRule_25 (by decide) (bI_R _) (fun c => ?_) (fun c => ?_)
    · have w := w.1 (bI_n.mp c)
      refine r_aload_n (pc := 30) (a := 3) dX9_takeRule_30 rfl ?_
      refine r_getR (pc := 31) (b := 4) fl_X9_12 dX9_takeRule_31 s0_3 rfl ?_
      refine r_getR (pc := 34) (b := 9) fl_X9_159 dX9_takeRule_34 s0_4 rfl ?_
      refine r_iload_n (pc := 37) (x := v2) dX9_takeRule_37 rfl ?_
      refine r_aload_n (pc := 38) (a := 1) dX9_takeRule_38 rfl ?_
      refine r_getI (pc := 39) (fi := 5) (x := (h4 1 5)) fl_X9_142 dX9_takeRule_39 s0_1 rfl (rfl) ?_
      refine r_iast (pc := 42) (i := v2) (x := (h4 1 5)) dX9_takeRule_42 s0_9 ⟨by omega, by omega, (by decide)⟩  ?_
      refine r_iconst (pc := 43) dX9_takeRule_43 ?_
      exact r_iret (st := []) (pc := 44) (x := 1) (ty := .boolean) dX9_takeRule_44 rfl (rfl) rfl (by decide) ⟨rfl, true, rfl, w⟩
    · have w := w.2 (bI_0.mp c)
      refine r_iconst (pc := 28) dX9_takeRule_28 ?_
      exact r_iret (st := []) (pc := 29) (x := 0) (ty := .boolean) dX9_takeRule_29 rfl (rfl) rfl (by decide) ⟨rfl, false, rfl, w⟩

set_option maxRecDepth 100000 in
set_option maxHeartbeats 4000000 in
theorem wX9_takeSun {h : zMm} {K : Bool → zMm → Prop} (w : zCb mX9_takeNumber [.ref 3, .ref 1, .int (zI 0), .int (zI 35)] zS0 h (fun b1 h1 => ((b1 = true → (zRl (lA (lSr (h1 3 6) (h1 1 5)) 1) ∧ ((¬ (lA (lSr (h1 3 6) (h1 1 5)) 1) = 1 → zCb mX9_takeNumber [.ref 3, .ref 1, .int (zI 0), .int (zI 9)] zS0 (zU h1 3 6 (lO (h1 3 6) (lSl 1 (h1 1 5)))) (fun b3 h3 => ((b3 = true → ((0 ≤ (h1 1 5) ∧ (h1 1 5) < 36) ∧ K true (zU h3 7 (h1 1 5) (h3 1 5)))) ∧ (b3 = false → K false h3)))) ∧ ((lA (lSr (h1 3 6) (h1 1 5)) 1) = 1 → zCb mX9_refuse [.ref 3, .int (zI 4), .int (zI (h1 1 3))] zS0 h1 (fun b5 h5 => K b5 h5))))) ∧ (b1 = false → K false h1)))) : zCb mX9_takeSun [.ref 3, .ref 1] zS0 h K := by
  show RR mX9_takeSun 0 0 0 [some (.ref 3), some (.ref 1), none] [] zS0 h (zQb zS0 K)
  refine r_aload_n (pc := 0) (a := 3) dX9_takeSun_0 rfl ?_
  refine r_aload_n (pc := 1) (a := 1) dX9_takeSun_1 rfl ?_
  refine r_iconst (pc := 2) dX9_takeSun_2 ?_
  refine r_bipush (pc := 3) (x := 35) dX9_takeSun_3 (by decide) ?_
  refine r_callV (μ2 := mX9_takeNumber) (pc := 5) (as := [.ref 1, .int (zI 0), .int (zI 35)]) (st := []) rfl s0_3 ml_X9_155 im_X9_takeNumber se_X9_takeNumber okX9_takeNumber ⟨by decide, by decide⟩ dX9_takeSun_5 (Nat.le_of_ble_eq_true rfl) rfl (Nat.le_of_ble_eq_true rfl) (by decide) (by decide) (zCC.mono w ?_)
  rintro r S' h1 ⟨rfl, b1, hr, w⟩
  subst hr
  show RR mX9_takeSun 0 0 8 [some (.ref 3), some (.ref 1), none] [.int (zI (bI b1))] zS0 h1 (zQb zS0 K)
  refine r_if_ne (pc := 8) (x := (bI b1)) (tgt := 13) dX9_takeSun_8 (by decide) (bI_R _) (fun c => ?_) (fun c => ?_)
  · have w := w.1 (bI_n.mp c)
    refine r_aload_n (pc := 13) (a := 1) dX9_takeSun_13 rfl ?_
    refine r_getI (pc := 14) (fi := 5) (x := (h1 1 5)) fl_X9_142 dX9_takeSun_14 s0_1 rfl (rfl) ?_
    refine r_istore_n (pc := 17) (L' := [some (.ref 3), some (.ref 1), some (.int (zI (h1 1 5)))]) dX9_takeSun_17 (by decide) rfl ?_
    refine r_aload_n (pc := 18) (a := 3) dX9_takeSun_18 rfl ?_
    refine r_getJ (pc := 19) (fi := 6) (x := (h1 3 6)) fl_X9_34 dX9_takeSun_19 s0_3 rfl (rfl) ?_
    refine r_iload_n (pc := 22) (x := (h1 1 5)) dX9_takeSun_22 rfl ?_
    refine r_lshr (pc := 23) (x := (h1 3 6)) (y := (h1 1 5)) dX9_takeSun_23 ?_
    refine r_lconst (pc := 24) (x := 1) dX9_takeSun_24 rfl ?_
    refine r_land (pc := 25) (x := (lSr (h1 3 6) (h1 1 5))) (y := 1) dX9_takeSun_25 ?_
    refine r_lconst (pc := 26) (x := 1) dX9_takeSun_26 rfl ?_
    obtain ⟨hl2, w⟩ := w
    refine r_lcmp (pc := 27) (x := (lA (lSr (h1 3 6) (h1 1 5)) 1)) (y := 1) dX9_takeSun_27 hl2 (by decide) ?_
    refine r_if_ne (pc := 28) (x := (zCmp (lA (lSr (h1 3 6) (h1 1 5)) 1) 1)) (tgt := 41) dX9_takeSun_28 (by decide) (zCmp_R _ _) (fun c => ?_) (fun c => ?_)
    · have w := w.1 (zCmp_ne.mp c)
      refine r_aload_n (pc := 41) (a := 3) dX9_takeSun_41 rfl ?_
      refine r_dup (pc := 42) rfl dX9_takeSun_42 ?_
      refine r_getJ (pc := 43) (fi := 6) (x := (h1 3 6)) fl_X9_34 dX9_takeSun_43 s0_3 rfl (rfl) ?_
      refine r_lconst (pc := 46) (x := 1) dX9_takeSun_46 rfl ?_
      refine r_iload_n (pc := 47) (x := (h1 1 5)) dX9_takeSun_47 rfl ?_
      refine r_lshl (pc := 48) (x := 1) (y := (h1 1 5)) dX9_takeSun_48 ?_
      refine r_lor (pc := 49) (x := (h1 3 6)) (y := (lSl 1 (h1 1 5))) dX9_takeSun_49 ?_
      refine r_putJ (pc := 50) (fi := 6) (x := (lO (h1 3 6) (lSl 1 (h1 1 5)))) fl_X9_34 dX9_takeSun_50 s0_3 rfl ?_
      refine r_aload_n (pc := 53) (a := 3) dX9_takeSun_53 rfl ?_
      refine r_aload_n (pc := 54) (a := 1) dX9_takeSun_54 rfl ?_
      refine r_iconst (pc := 55) dX9_takeSun_55 ?_
      refine r_bipush (pc := 56) (x := 9) dX9_takeSun_56 (by decide) ?_
      refine r_callV (μ2 := mX9_takeNumber) (pc := 58) (as := [.ref 1, .int (zI 0), .int (zI 9)]) (st := []) rfl s0_3 ml_X9_155 im_X9_takeNumber se_X9_takeNumber okX9_takeNumber ⟨by decide, by decide⟩ dX9_takeSun_58 (Nat.le_of_ble_eq_true rfl) rfl (Nat.le_of_ble_eq_true rfl) (by decide) (by decide) (zCC.mono w ?_)
      rintro r S' h3 ⟨rfl, b3, hr, w⟩
      subst hr
      show RR mX9_takeSun 0 0 61 [some (.ref 3), some (.ref 1), some (.int (zI (h1 1 5)))] [.int (zI (bI b3))] zS0 h3 (zQb zS0 K)
      refine r_if_ne (pc := 61) (x := (bI b3)) (tgt := 66) dX9_takeSun_61 (by decide) (bI_R _) (fun c => ?_) (fun c => ?_)
      · have w := w.1 (bI_n.mp c)
        refine r_aload_n (pc := 66) (a := 3) dX9_takeSun_66 rfl ?_
        refine r_getR (pc := 67) (b := 4) fl_X9_12 dX9_takeSun_67 s0_3 rfl ?_
        refine r_getR (pc := 70) (b := 7) fl_X9_162 dX9_takeSun_70 s0_4 rfl ?_
        refine r_iload_n (pc := 73) (x := (h1 1 5)) dX9_takeSun_73 rfl ?_
        refine r_aload_n (pc := 74) (a := 1) dX9_takeSun_74 rfl ?_
        refine r_getI (pc := 75) (fi := 5) (x := (h3 1 5)) fl_X9_142 dX9_takeSun_75 s0_1 rfl (rfl) ?_
        obtain ⟨hb4, w⟩ := w
        refine r_iast (pc := 78) (i := (h1 1 5)) (x := (h3 1 5)) dX9_takeSun_78 s0_7 ⟨hb4.1, hb4.2, (by decide)⟩  ?_
        refine r_iconst (pc := 79) dX9_takeSun_79 ?_
        exact r_iret (st := []) (pc := 80) (x := 1) (ty := .boolean) dX9_takeSun_80 rfl (rfl) rfl (by decide) ⟨rfl, true, rfl, w⟩
      · have w := w.2 (bI_0.mp c)
        refine r_iconst (pc := 64) dX9_takeSun_64 ?_
        exact r_iret (st := []) (pc := 65) (x := 0) (ty := .boolean) dX9_takeSun_65 rfl (rfl) rfl (by decide) ⟨rfl, false, rfl, w⟩
    · have w := w.2 (zCmp_eq.mp c)
      refine r_aload_n (pc := 31) (a := 3) dX9_takeSun_31 rfl ?_
      refine r_iconst (pc := 32) dX9_takeSun_32 ?_
      refine r_aload_n (pc := 33) (a := 1) dX9_takeSun_33 rfl ?_
      refine r_getI (pc := 34) (fi := 3) (x := (h1 1 3)) fl_X9_76 dX9_takeSun_34 s0_1 rfl (rfl) ?_
      refine r_callV (μ2 := mX9_refuse) (pc := 37) (as := [.int (zI 4), .int (zI (h1 1 3))]) (st := []) rfl s0_3 ml_X9_67 im_X9_refuse se_X9_refuse okX9_refuse ⟨by decide, by decide⟩ dX9_takeSun_37 (Nat.le_of_ble_eq_true rfl) rfl (Nat.le_of_ble_eq_true rfl) (by decide) (by decide) (zCC.mono w ?_)
      rintro r S' h5 ⟨rfl, b5, hr, w⟩
      subst hr
      show RR mX9_takeSun 0 0 40 [some (.ref 3), some (.ref 1), some (.int (zI (h1 1 5)))] [.int (zI (bI b5))] zS0 h5 (zQb zS0 K)
      exact r_iret (st := []) (pc := 40) (x := (bI b5)) (ty := .boolean) dX9_takeSun_40 rfl (bI_nar _) rfl (by decide) ⟨rfl, b5, rfl, w⟩
  · have w := w.2 (bI_0.mp c)
    refine r_iconst (pc := 11) dX9_takeSun_11 ?_
    exact r_iret (st := []) (pc := 12) (x := 0) (ty := .boolean) dX9_takeSun_12 rfl (rfl) rfl (by decide) ⟨rfl, false, rfl, w⟩

set_option maxRecDepth 100000 in
set_option maxHeartbeats 4000000 in
theorem wX9_takeLine {h : zMm} {K : Bool → zMm → Prop} (w : zCb mX9_isDue [.ref 3, .ref 1, .int (zI 1)] zS0 h (fun b1 h1 => ((b1 = true → zCi mX9_kindOfLine [.ref 3, .ref 1] zS0 h1 (fun x2 h2 => (zR x2 ∧ ((¬ x2 = (-1) → ((¬ x2 = 0 → ((x2 = 0 → ((¬ x2 = 0 → ((¬ x2 = 9 → zCb mX9_takeRule [.ref 3, .ref 1, .int (zI (x2 - 1))] zS0 (zU h2 3 5 (iO (h2 3 5) (iSl 1 x2))) (fun b5 h5 => ((b5 = true → zCv mX8_readToken [.ref 1] zS0 h5 (fun h6 => zCb mX9_isDue [.ref 3, .ref 1, .int (zI 3)] zS0 h6 (fun b7 h7 => K b7 h7))) ∧ (b5 = false → K false h5)))) ∧ (x2 = 9 → zCb mX9_takeSun [.ref 3, .ref 1] zS0 (zU h2 3 5 (iO (h2 3 5) (iSl 1 x2))) (fun b8 h8 => ((b8 = true → zCv mX8_readToken [.ref 1] zS0 h8 (fun h9 => zCb mX9_isDue [.ref 3, .ref 1, .int (zI 3)] zS0 h9 (fun b10 h10 => K b10 h10))) ∧ (b8 = false → K false h8)))))) ∧ (x2 = 0 → zCb mX9_takeRow [.ref 3, .ref 1] zS0 (zU h2 3 5 (iO (h2 3 5) (iSl 1 x2))) (fun b11 h11 => ((b11 = true → zCv mX8_readToken [.ref 1] zS0 h11 (fun h12 => zCb mX9_isDue [.ref 3, .ref 1, .int (zI 3)] zS0 h12 (fun b13 h13 => K b13 h13))) ∧ (b11 = false → K false h11)))))) ∧ (¬ x2 = 0 → ((x2 = 9 → ((¬ x2 = 0 → ((¬ x2 = 9 → zCb mX9_takeRule [.ref 3, .ref 1, .int (zI (x2 - 1))] zS0 (zU h2 3 5 (iO (h2 3 5) (iSl 1 x2))) (fun b15 h15 => ((b15 = true → zCv mX8_readToken [.ref 1] zS0 h15 (fun h16 => zCb mX9_isDue [.ref 3, .ref 1, .int (zI 3)] zS0 h16 (fun b17 h17 => K b17 h17))) ∧ (b15 = false → K false h15)))) ∧ (x2 = 9 → zCb mX9_takeSun [.ref 3, .ref 1] zS0 (zU h2 3 5 (iO (h2 3 5) (iSl 1 x2))) (fun b18 h18 => ((b18 = true → zCv mX8_readToken [.ref 1] zS0 h18 (fun h19 => zCb mX9_isDue [.ref 3, .ref 1, .int (zI 3)] zS0 h19 (fun b20 h20 => K b20 h20))) ∧ (b18 = false → K false h18)))))) ∧ (x2 = 0 → zCb mX9_takeRow [.ref 3, .ref 1] zS0 (zU h2 3 5 (iO (h2 3 5) (iSl 1 x2))) (fun b21 h21 => ((b21 = true → zCv mX8_readToken [.ref 1] zS0 h21 (fun h22 => zCb mX9_isDue [.ref 3, .ref 1, .int (zI 3)] zS0 h22 (fun b23 h23 => K b23 h23))) ∧ (b21 = false → K false h21)))))) ∧ (¬ x2 = 9 → (zR ((iSr (h2 3 5) x2) % 2) ∧ ((¬ ((iSr (h2 3 5) x2) % 2) = 1 → ((¬ x2 = 0 → ((¬ x2 = 9 → zCb mX9_takeRule [.ref 3, .ref 1, .int (zI (x2 - 1))] zS0 (zU h2 3 5 (iO (h2 3 5) (iSl 1 x2))) (fun b26 h26 => ((b26 = true → zCv mX8_readToken [.ref 1] zS0 h26 (fun h27 => zCb mX9_isDue [.ref 3, .ref 1, .int (zI 3)] zS0 h27 (fun b28 h28 => K b28 h28))) ∧ (b26 = false → K false h26)))) ∧ (x2 = 9 → zCb mX9_takeSun [.ref 3, .ref 1] zS0 (zU h2 3 5 (iO (h2 3 5) (iSl 1 x2))) (fun b29 h29 => ((b29 = true → zCv mX8_readToken [.ref 1] zS0 h29 (fun h30 => zCb mX9_isDue [.ref 3, .ref 1, .int (zI 3)] zS0 h30 (fun b31 h31 => K b31 h31))) ∧ (b29 = false → K false h29)))))) ∧ (x2 = 0 → zCb mX9_takeRow [.ref 3, .ref 1] zS0 (zU h2 3 5 (iO (h2 3 5) (iSl 1 x2))) (fun b32 h32 => ((b32 = true → zCv mX8_readToken [.ref 1] zS0 h32 (fun h33 => zCb mX9_isDue [.ref 3, .ref 1, .int (zI 3)] zS0 h33 (fun b34 h34 => K b34 h34))) ∧ (b32 = false → K false h32)))))) ∧ (((iSr (h2 3 5) x2) % 2) = 1 → zCb mX9_refuse [.ref 3, .int (zI 4), .int (zI (h2 1 3))] zS0 h2 (fun b35 h35 => K b35 h35))))))))) ∧ (x2 = 0 → (zR (h2 3 4) ∧ ((¬ (h2 3 4) = 6 → ((x2 = 0 → ((¬ x2 = 0 → ((¬ x2 = 9 → zCb mX9_takeRule [.ref 3, .ref 1, .int (zI (x2 - 1))] zS0 (zU h2 3 5 (iO (h2 3 5) (iSl 1 x2))) (fun b38 h38 => ((b38 = true → zCv mX8_readToken [.ref 1] zS0 h38 (fun h39 => zCb mX9_isDue [.ref 3, .ref 1, .int (zI 3)] zS0 h39 (fun b40 h40 => K b40 h40))) ∧ (b38 = false → K false h38)))) ∧ (x2 = 9 → zCb mX9_takeSun [.ref 3, .ref 1] zS0 (zU h2 3 5 (iO (h2 3 5) (iSl 1 x2))) (fun b41 h41 => ((b41 = true → zCv mX8_readToken [.ref 1] zS0 h41 (fun h42 => zCb mX9_isDue [.ref 3, .ref 1, .int (zI 3)] zS0 h42 (fun b43 h43 => K b43 h43))) ∧ (b41 = false → K false h41)))))) ∧ (x2 = 0 → zCb mX9_takeRow [.ref 3, .ref 1] zS0 (zU h2 3 5 (iO (h2 3 5) (iSl 1 x2))) (fun b44 h44 => ((b44 = true → zCv mX8_readToken [.ref 1] zS0 h44 (fun h45 => zCb mX9_isDue [.ref 3, .ref 1, .int (zI 3)] zS0 h45 (fun b46 h46 => K b46 h46))) ∧ (b44 = false → K false h44)))))) ∧ (¬ x2 = 0 → ((x2 = 9 → ((¬ x2 = 0 → ((¬ x2 = 9 → zCb mX9_takeRule [.ref 3, .ref 1, .int (zI (x2 - 1))] zS0 (zU h2 3 5 (iO (h2 3 5) (iSl 1 x2))) (fun b48 h48 => ((b48 = true → zCv mX8_readToken [.ref 1] zS0 h48 (fun h49 => zCb mX9_isDue [.ref 3, .ref 1, .int (zI 3)] zS0 h49 (fun b50 h50 => K b50 h50))) ∧ (b48 = false → K false h48)))) ∧ (x2 = 9 → zCb mX9_takeSun [.ref 3, .ref 1] zS0 (zU h2 3 5 (iO (h2 3 5) (iSl 1 x2))) (fun b51 h51 => ((b51 = true → zCv mX8_readToken [.ref 1] zS0 h51 (fun h52 => zCb mX9_isDue [.ref 3, .ref 1, .int (zI 3)] zS0 h52 (fun b53 h53 => K b53 h53))) ∧ (b51 = false → K false h51)))))) ∧ (x2 = 0 → zCb mX9_takeRow [.ref 3, .ref 1] zS0 (zU h2 3 5 (iO (h2 3 5) (iSl 1 x2))) (fun b54 h54 => ((b54 = true → zCv mX8_readToken [.ref 1] zS0 h54 (fun h55 => zCb mX9_isDue [.ref 3, .ref 1, .int (zI 3)] zS0 h55 (fun b56 h56 => K b56 h56))) ∧ (b54 = false → K false h54)))))) ∧ (¬ x2 = 9 → (zR ((iSr (h2 3 5) x2) % 2) ∧ ((¬ ((iSr (h2 3 5) x2) % 2) = 1 → ((¬ x2 = 0 → ((¬ x2 = 9 → zCb mX9_takeRule [.ref 3, .ref 1, .int (zI (x2 - 1))] zS0 (zU h2 3 5 (iO (h2 3 5) (iSl 1 x2))) (fun b59 h59 => ((b59 = true → zCv mX8_readToken [.ref 1] zS0 h59 (fun h60 => zCb mX9_isDue [.ref 3, .ref 1, .int (zI 3)] zS0 h60 (fun b61 h61 => K b61 h61))) ∧ (b59 = false → K false h59)))) ∧ (x2 = 9 → zCb mX9_takeSun [.ref 3, .ref 1] zS0 (zU h2 3 5 (iO (h2 3 5) (iSl 1 x2))) (fun b62 h62 => ((b62 = true → zCv mX8_readToken [.ref 1] zS0 h62 (fun h63 => zCb mX9_isDue [.ref 3, .ref 1, .int (zI 3)] zS0 h63 (fun b64 h64 => K b64 h64))) ∧ (b62 = false → K false h62)))))) ∧ (x2 = 0 → zCb mX9_takeRow [.ref 3, .ref 1] zS0 (zU h2 3 5 (iO (h2 3 5) (iSl 1 x2))) (fun b65 h65 => ((b65 = true → zCv mX8_readToken [.ref 1] zS0 h65 (fun h66 => zCb mX9_isDue [.ref 3, .ref 1, .int (zI 3)] zS0 h66 (fun b67 h67 => K b67 h67))) ∧ (b65 = false → K false h65)))))) ∧ (((iSr (h2 3 5) x2) % 2) = 1 → zCb mX9_refuse [.ref 3, .int (zI 4), .int (zI (h2 1 3))] zS0 h2 (fun b68 h68 => K b68 h68))))))))) ∧ ((h2 3 4) = 6 → zCb mX9_refuse [.ref 3, .int (zI 5), .int (zI (h2 1 3))] zS0 h2 (fun b69 h69 => K b69 h69))))))) ∧ (x2 = (-1) → zCb mX9_refuse [.ref 3, .int (zI 2), .int (zI (h2 1 3))] zS0 h2 (fun b70 h70 => K b70 h70)))))) ∧ (b1 = false → K false h1)))) : zCb mX9_takeLine [.ref 3, .ref 1] zS0 h K := by
  show RR mX9_takeLine 0 0 0 [some (.ref 3), some (.ref 1), none, none] [] zS0 h (zQb zS0 K)
  refine r_aload_n (pc := 0) (a := 3) dX9_takeLine_0 rfl ?_
  refine r_aload_n (pc := 1) (a := 1) dX9_takeLine_1 rfl ?_
  refine r_iconst (pc := 2) dX9_takeLine_2 ?_
  refine r_callV (μ2 := mX9_isDue) (pc := 3) (as := [.ref 1, .int (zI 1)]) (st := []) rfl s0_3 ml_X9_79 im_X9_isDue se_X9_isDue okX9_isDue ⟨by decide, by decide⟩ dX9_takeLine_3 (Nat.le_of_ble_eq_true rfl) rfl (Nat.le_of_ble_eq_true rfl) (by decide) (by decide) (zCC.mono w ?_)
  rintro r S' h1 ⟨rfl, b1, hr, w⟩
  subst hr
  show RR mX9_takeLine 0 0 6 [some (.ref 3), some (.ref 1), none, none] [.int (zI (bI b1))] zS0 h1 (zQb zS0 K)
  refine r_if_ne (pc := 6) (x := (bI b1)) (tgt := 11) dX9_takeLine_6 (by decide) (bI_R _) (fun c => ?_) (fun c => ?_)
  · have w := w.1 (bI_n.mp c)
    refine r_aload_n (pc := 11) (a := 3) dX9_takeLine_11 rfl ?_
    refine r_aload_n (pc := 12) (a := 1) dX9_takeLine_12 rfl ?_
    refine r_callV (μ2 := mX9_kindOfLine) (pc := 13) (as := [.ref 1]) (st := []) rfl s0_3 ml_X9_83 im_X9_kindOfLine se_X9_kindOfLine okX9_kindOfLine ⟨by decide, by decide⟩ dX9_takeLine_13 (Nat.le_of_ble_eq_true rfl) rfl (Nat.le_of_ble_eq_true rfl) (by decide) (by decide) (zCC.mono w ?_)
    rintro r S' h2 ⟨rfl, x2, hr, w⟩
    subst hr
    show RR mX9_takeLine 0 0 16 [some (.ref 3), some (.ref 1), none, none] [.int (zI x2)] zS0 h2 (zQb zS0 K)
    refine r_istore_n (pc := 16) (L' := [some (.ref 3), some (.ref 1), some (.int (zI x2)), none]) dX9_takeLine_16 (by decide) rfl ?_
    refine r_iload_n (pc := 17) (x := x2) dX9_takeLine_17 rfl ?_
    refine r_iconst (pc := 18) dX9_takeLine_18 ?_
    obtain ⟨hr3, w⟩ := w
    refine r_icmp_ne (pc := 19) (x := x2) (y := (-1)) (tgt := 32) dX9_takeLine_19 (by decide) hr3 (by decide) (fun c => ?_) (fun c => ?_)
    · have w := w.1 (c)
      refine r_iload_n (pc := 32) (x := x2) dX9_takeLine_32 rfl ?_
      refine r_if_ne (pc := 33) (x := x2) (tgt := 55) dX9_takeLine_33 (by decide) hr3 (fun c => ?_) (fun c => ?_)
      · have w := w.1 (c)
        refine r_iload_n (pc := 55) (x := x2) dX9_takeLine_55 rfl ?_
        refine r_if_eq (pc := 56) (x := x2) (tgt := 87) dX9_takeLine_56 (by decide) hr3 (fun c => ?_) (fun c => ?_)
        · have w := w.1 (c)
          refine r_aload_n (pc := 87) (a := 3) dX9_takeLine_87 rfl ?_
          refine r_dup (pc := 88) rfl dX9_takeLine_88 ?_
          refine r_getI (pc := 89) (fi := 5) (x := (h2 3 5)) fl_X9_31 dX9_takeLine_89 s0_3 rfl (rfl) ?_
          refine r_iconst (pc := 92) dX9_takeLine_92 ?_
          refine r_iload_n (pc := 93) (x := x2) dX9_takeLine_93 rfl ?_
          refine r_ishl (pc := 94) (x := 1) (y := x2) dX9_takeLine_94 ?_
          refine r_ior (pc := 95) (x := (h2 3 5)) (y := (iSl 1 x2)) dX9_takeLine_95 ?_
          refine r_putI (pc := 96) (fi := 5) (x := (iO (h2 3 5) (iSl 1 x2))) fl_X9_31 dX9_takeLine_96 s0_3 rfl ?_
          refine r_iload_n (pc := 99) (x := x2) dX9_takeLine_99 rfl ?_
          refine r_if_ne (pc := 100) (x := x2) (tgt := 111) dX9_takeLine_100 (by decide) hr3 (fun c => ?_) (fun c => ?_)
          · have w := w.1 (c)
            refine r_iload_n (pc := 111) (x := x2) dX9_takeLine_111 rfl ?_
            refine r_bipush (pc := 112) (x := 9) dX9_takeLine_112 (by decide) ?_
            refine r_icmp_ne (pc := 114) (x := x2) (y := 9) (tgt := 125) dX9_takeLine_114 (by decide) hr3 (by decide) (fun c => ?_) (fun c => ?_)
            · have w := w.1 (c)
              refine r_aload_n (pc := 125) (a := 3) dX9_takeLine_125 rfl ?_
              refine r_aload_n (pc := 126) (a := 1) dX9_takeLine_126 rfl ?_
              refine r_iload_n (pc := 127) (x := x2) dX9_takeLine_127 rfl ?_
              refine r_iconst (pc := 128) dX9_takeLine_128 ?_
              refine r_isub (pc := 129) (x := x2) (y := 1) dX9_takeLine_129 ?_
              refine r_callV (μ2 := mX9_takeRule) (pc := 130) (as := [.ref 1, .int (zI (x2 - 1))]) (st := []) rfl s0_3 ml_X9_93 im_X9_takeRule se_X9_takeRule okX9_takeRule ⟨by decide, by decide⟩ dX9_takeLine_130 (Nat.le_of_ble_eq_true rfl) rfl (Nat.le_of_ble_eq_true rfl) (by decide) (by decide) (zCC.mono w ?_)
              rintro r S' h5 ⟨rfl, b5, hr, w⟩
              subst hr
              show RR mX9_takeLine 0 0 133 [some (.ref 3), some (.ref 1), some (.int (zI x2)), none] [.int (zI (bI b5))] zS0 h5 (zQb zS0 K)
              refine r_istore_n (pc := 133) (L' := [some (.ref 3), some (.ref 1), some (.int (zI x2)), some (.int (zI (bI b5)))]) dX9_takeLine_133 (by decide) rfl ?_
              refine r_iload_n (pc := 134) (x := (bI b5)) dX9_takeLine_134 rfl ?_
              refine r_if_ne (pc := 135) (x := (bI b5)) (tgt := 140) dX9_takeLine_135 (by decide) (bI_R _) (fun c => ?_) (fun c => ?_)
              · have w := w.1 (bI_n.mp c)
                refine r_aload_n (pc := 140) (a := 1) dX9_takeLine_140 rfl ?_
                refine r_callV (μ2 := mX8_readToken) (pc := 141) (as := []) (st := []) rfl s0_1 ml_X9_42 im_X8_readToken se_X8_readToken okX8_readToken ⟨by decide, by decide⟩ dX9_takeLine_141 (Nat.le_of_ble_eq_true rfl) rfl (Nat.le_of_ble_eq_true rfl) (by decide) (by decide) (zCC.mono w ?_)
                rintro r S' h6 ⟨rfl, hr, w⟩
                subst hr
                show RR mX9_takeLine 0 0 144 [some (.ref 3), some (.ref 1), some (.int (zI x2)), some (.int (zI (bI b5)))] [] zS0 h6 (zQb zS0 K)
                refine r_aload_n (pc := 144) (a := 3) dX9_takeLine_144 rfl ?_
                refine r_aload_n (pc := 145) (a := 1) dX9_takeLine_145 rfl ?_
                refine r_iconst (pc := 146) dX9_takeLine_146 ?_
                refine r_callV (μ2 := mX9_isDue) (pc := 147) (as := [.ref 1, .int (zI 3)]) (st := []) rfl s0_3 ml_X9_79 im_X9_isDue se_X9_isDue okX9_isDue ⟨by decide, by decide⟩ dX9_takeLine_147 (Nat.le_of_ble_eq_true rfl) rfl (Nat.le_of_ble_eq_true rfl) (by decide) (by decide) (zCC.mono w ?_)
                rintro r S' h7 ⟨rfl, b7, hr, w⟩
                subst hr
                show RR mX9_takeLine 0 0 150 [some (.ref 3), some (.ref 1), some (.int (zI x2)), some (.int (zI (bI b5)))] [.int (zI (bI b7))] zS0 h7 (zQb zS0 K)
                exact r_iret (st := []) (pc := 150) (x := (bI b7)) (ty := .boolean) dX9_takeLine_150 rfl (bI_nar _) rfl (by decide) ⟨rfl, b7, rfl, w⟩
              · have w := w.2 (bI_0.mp c)
                refine r_iconst (pc := 138) dX9_takeLine_138 ?_
                exact r_iret (st := []) (pc := 139) (x := 0) (ty := .boolean) dX9_takeLine_139 rfl (rfl) rfl (by decide) ⟨rfl, false, rfl, w⟩
            · have w := w.2 (c)
              refine r_aload_n (pc := 117) (a := 3) dX9_takeLine_117 rfl ?_
              refine r_aload_n (pc := 118) (a := 1) dX9_takeLine_118 rfl ?_
              refine r_callV (μ2 := mX9_takeSun) (pc := 119) (as := [.ref 1]) (st := []) rfl s0_3 ml_X9_90 im_X9_takeSun se_X9_takeSun okX9_takeSun ⟨by decide, by decide⟩ dX9_takeLine_119 (Nat.le_of_ble_eq_true rfl) rfl (Nat.le_of_ble_eq_true rfl) (by decide) (by decide) (zCC.mono w ?_)
              rintro r S' h8 ⟨rfl, b8, hr, w⟩
              subst hr
              show RR mX9_takeLine 0 0 122 [some (.ref 3), some (.ref 1), some (.int (zI x2)), none] [.int (zI (bI b8))] zS0 h8 (zQb zS0 K)
              refine r_goto (pc := 122) (tgt := 133) dX9_takeLine_122 (by decide) ?_
              refine r_istore_n (pc := 133) (L' := [some (.ref 3), some (.ref 1), some (.int (zI x2)), some (.int (zI (bI b8)))]) dX9_takeLine_133 (by decide) rfl ?_
              refine r_iload_n (pc := 134) (x := (bI b8)) dX9_takeLine_134 rfl ?_
              refine r_if_ne (pc := 135) (x := (bI b8)) (tgt := 140) dX9_takeLine_135 (by decide) (bI_R _) (fun c => ?_) (fun c => ?_)
              · have w := w.1 (bI_n.mp c)
                refine r_aload_n (pc := 140) (a := 1) dX9_takeLine_140 rfl ?_
                refine r_callV (μ2 := mX8_readToken) (pc := 141) (as := []) (st := []) rfl s0_1 ml_X9_42 im_X8_readToken se_X8_readToken okX8_readToken ⟨by decide, by decide⟩ dX9_takeLine_141 (Nat.le_of_ble_eq_true rfl) rfl (Nat.le_of_ble_eq_true rfl) (by decide) (by decide) (zCC.mono w ?_)
                rintro r S' h9 ⟨rfl, hr, w⟩
                subst hr
                show RR mX9_takeLine 0 0 144 [some (.ref 3), some (.ref 1), some (.int (zI x2)), some (.int (zI (bI b8)))] [] zS0 h9 (zQb zS0 K)
                refine r_aload_n (pc := 144) (a := 3) dX9_takeLine_144 rfl ?_
                refine r_aload_n (pc := 145) (a := 1) dX9_takeLine_145 rfl ?_
                refine r_iconst (pc := 146) dX9_takeLine_146 ?_
                refine r_callV (μ2 := mX9_isDue) (pc := 147) (as := [.ref 1, .int (zI 3)]) (st := []) rfl s0_3 ml_X9_79 im_X9_isDue se_X9_isDue okX9_isDue ⟨by decide, by decide⟩ dX9_takeLine_147 (Nat.le_of_ble_eq_true rfl) rfl (Nat.le_of_ble_eq_true rfl) (by decide) (by decide) (zCC.mono w ?_)
                rintro r S' h10 ⟨rfl, b10, hr, w⟩
                subst hr
                show RR mX9_takeLine 0 0 150 [some (.ref 3), some (.ref 1), some (.int (zI x2)), some (.int (zI (bI b8)))] [.int (zI (bI b10))] zS0 h10 (zQb zS0 K)
                exact r_iret (st := []) (pc := 150) (x := (bI b10)) (ty := .boolean) dX9_takeLine_150 rfl (bI_nar _) rfl (by decide) ⟨rfl, b10, rfl, w⟩
              · have w := w.2 (bI_0.mp c)
                refine r_iconst (pc := 138) dX9_takeLine_138 ?_
                exact r_iret (st := []) (pc := 139) (x := 0) (ty := .boolean) dX9_takeLine_139 rfl (rfl) rfl (by decide) ⟨rfl, false, rfl, w⟩
          · have w := w.2 (c)
            refine r_aload_n (pc := 103) (a := 3) dX9_takeLine_103 rfl ?_
            refine r_aload_n (pc := 104) (a := 1) dX9_takeLine_104 rfl ?_
            refine r_callV (μ2 := mX9_takeRow) (pc := 105) (as := [.ref 1]) (st := []) rfl s0_3 ml_X9_87 im_X9_takeRow se_X9_takeRow okX9_takeRow ⟨by decide, by decide⟩ dX9_takeLine_105 (Nat.le_of_ble_eq_true rfl) rfl (Nat.le_of_ble_eq_true rfl) (by decide) (by decide) (zCC.mono w ?_)
            rintro r S' h11 ⟨rfl, b11, hr, w⟩
            subst hr
            show RR mX9_takeLine 0 0 108 [some (.ref 3), some (.ref 1), some (.int (zI x2)), none] [.int (zI (bI b11))] zS0 h11 (zQb zS0 K)
            refine r_goto (pc := 108) (tgt := 133) dX9_takeLine_108 (by decide) ?_
            refine r_istore_n (pc := 133) (L' := [some (.ref 3), some (.ref 1), some (.int (zI x2)), some (.int (zI (bI b11)))]) dX9_takeLine_133 (by decide) rfl ?_
            refine r_iload_n (pc := 134) (x := (bI b11)) dX9_takeLine_134 rfl ?_
            refine r_if_ne (pc := 135) (x := (bI b11)) (tgt := 140) dX9_takeLine_135 (by decide) (bI_R _) (fun c => ?_) (fun c => ?_)
            · have w := w.1 (bI_n.mp c)
              refine r_aload_n (pc := 140) (a := 1) dX9_takeLine_140 rfl ?_
              refine r_callV (μ2 := mX8_readToken) (pc := 141) (as := []) (st := []) rfl s0_1 ml_X9_42 im_X8_readToken se_X8_readToken okX8_readToken ⟨by decide, by decide⟩ dX9_takeLine_141 (Nat.le_of_ble_eq_true rfl) rfl (Nat.le_of_ble_eq_true rfl) (by decide) (by decide) (zCC.mono w ?_)
              rintro r S' h12 ⟨rfl, hr, w⟩
              subst hr
              show RR mX9_takeLine 0 0 144 [some (.ref 3), some (.ref 1), some (.int (zI x2)), some (.int (zI (bI b11)))] [] zS0 h12 (zQb zS0 K)
              refine r_aload_n (pc := 144) (a := 3) dX9_takeLine_144 rfl ?_
              refine r_aload_n (pc := 145) (a := 1) dX9_takeLine_145 rfl ?_
              refine r_iconst (pc := 146) dX9_takeLine_146 ?_
              refine r_callV (μ2 := mX9_isDue) (pc := 147) (as := [.ref 1, .int (zI 3)]) (st := []) rfl s0_3 ml_X9_79 im_X9_isDue se_X9_isDue okX9_isDue ⟨by decide, by decide⟩ dX9_takeLine_147 (Nat.le_of_ble_eq_true rfl) rfl (Nat.le_of_ble_eq_true rfl) (by decide) (by decide) (zCC.mono w ?_)
              rintro r S' h13 ⟨rfl, b13, hr, w⟩
              subst hr
              show RR mX9_takeLine 0 0 150 [some (.ref 3), some (.ref 1), some (.int (zI x2)), some (.int (zI (bI b11)))] [.int (zI (bI b13))] zS0 h13 (zQb zS0 K)
              exact r_iret (st := []) (pc := 150) (x := (bI b13)) (ty := .boolean) dX9_takeLine_150 rfl (bI_nar _) rfl (by decide) ⟨rfl, b13, rfl, w⟩
            · have w := w.2 (bI_0.mp c)
              refine r_iconst (pc := 138) dX9_takeLine_138 ?_
              exact r_iret (st := []) (pc := 139) (x := 0) (ty := .boolean) dX9_takeLine_139 rfl (rfl) rfl (by decide) ⟨rfl, false, rfl, w⟩
        · have w := w.2 (c)
          refine r_iload_n (pc := 59) (x := x2) dX9_takeLine_59 rfl ?_
          refine r_bipush (pc := 60) (x := 9) dX9_takeLine_60 (by decide) ?_
          refine r_icmp_eq (pc := 62) (x := x2) (y := 9) (tgt := 87) dX9_takeLine_62 (by decide) hr3 (by decide) (fun c => ?_) (fun c => ?_)
          · have w := w.1 (c)
            refine r_aload_n (pc := 87) (a := 3) dX9_takeLine_87 rfl ?_
            refine r_dup (pc := 88) rfl dX9_takeLine_88 ?_
            refine r_getI (pc := 89) (fi := 5) (x := (h2 3 5)) fl_X9_31 dX9_takeLine_89 s0_3 rfl (rfl) ?_
            refine r_iconst (pc := 92) dX9_takeLine_92 ?_
            refine r_iload_n (pc := 93) (x := x2) dX9_takeLine_93 rfl ?_
            refine r_ishl (pc := 94) (x := 1) (y := x2) dX9_takeLine_94 ?_
            refine r_ior (pc := 95) (x := (h2 3 5)) (y := (iSl 1 x2)) dX9_takeLine_95 ?_
            refine r_putI (pc := 96) (fi := 5) (x := (iO (h2 3 5) (iSl 1 x2))) fl_X9_31 dX9_takeLine_96 s0_3 rfl ?_
            refine r_iload_n (pc := 99) (x := x2) dX9_takeLine_99 rfl ?_
            refine r_if_ne (pc := 100) (x := x2) (tgt := 111) dX9_takeLine_100 (by decide) hr3 (fun c => ?_) (fun c => ?_)
            · have w := w.1 (c)
              refine r_iload_n (pc := 111) (x := x2) dX9_takeLine_111 rfl ?_
              refine r_bipush (pc := 112) (x := 9) dX9_takeLine_112 (by decide) ?_
              refine r_icmp_ne (pc := 114) (x := x2) (y := 9) (tgt := 125) dX9_takeLine_114 (by decide) hr3 (by decide) (fun c => ?_) (fun c => ?_)
              · have w := w.1 (c)
                refine r_aload_n (pc := 125) (a := 3) dX9_takeLine_125 rfl ?_
                refine r_aload_n (pc := 126) (a := 1) dX9_takeLine_126 rfl ?_
                refine r_iload_n (pc := 127) (x := x2) dX9_takeLine_127 rfl ?_
                refine r_iconst (pc := 128) dX9_takeLine_128 ?_
                refine r_isub (pc := 129) (x := x2) (y := 1) dX9_takeLine_129 ?_
                refine r_callV (μ2 := mX9_takeRule) (pc := 130) (as := [.ref 1, .int (zI (x2 - 1))]) (st := []) rfl s0_3 ml_X9_93 im_X9_takeRule se_X9_takeRule okX9_takeRule ⟨by decide, by decide⟩ dX9_takeLine_130 (Nat.le_of_ble_eq_true rfl) rfl (Nat.le_of_ble_eq_true rfl) (by decide) (by decide) (zCC.mono w ?_)
                rintro r S' h15 ⟨rfl, b15, hr, w⟩
                subst hr
                show RR mX9_takeLine 0 0 133 [some (.ref 3), some (.ref 1), some (.int (zI x2)), none] [.int (zI (bI b15))] zS0 h15 (zQb zS0 K)
                refine r_istore_n (pc := 133) (L' := [some (.ref 3), some (.ref 1), some (.int (zI x2)), some (.int (zI (bI b15)))]) dX9_takeLine_133 (by decide) rfl ?_
                refine r_iload_n (pc := 134) (x := (bI b15)) dX9_takeLine_134 rfl ?_
                refine r_if_ne (pc := 135) (x := (bI b15)) (tgt := 140) dX9_takeLine_135 (by decide) (bI_R _) (fun c => ?_) (fun c => ?_)
                · have w := w.1 (bI_n.mp c)
                  refine r_aload_n (pc := 140) (a := 1) dX9_takeLine_140 rfl ?_
                  refine r_callV (μ2 := mX8_readToken) (pc := 141) (as := []) (st := []) rfl s0_1 ml_X9_42 im_X8_readToken se_X8_readToken okX8_readToken ⟨by decide, by decide⟩ dX9_takeLine_141 (Nat.le_of_ble_eq_true rfl) rfl (Nat.le_of_ble_eq_true rfl) (by decide) (by decide) (zCC.mono w ?_)
                  rintro r S' h16 ⟨rfl, hr, w⟩
                  subst hr
                  show RR mX9_takeLine 0 0 144 [some (.ref 3), some (.ref 1), some (.int (zI x2)), some (.int (zI (bI b15)))] [] zS0 h16 (zQb zS0 K)
                  refine r_aload_n (pc := 144) (a := 3) dX9_takeLine_144 rfl ?_
                  refine r_aload_n (pc := 145) (a := 1) dX9_takeLine_145 rfl ?_
                  refine r_iconst (pc := 146) dX9_takeLine_146 ?_
                  refine r_callV (μ2 := mX9_isDue) (pc := 147) (as := [.ref 1, .int (zI 3)]) (st := []) rfl s0_3 ml_X9_79 im_X9_isDue se_X9_isDue okX9_isDue ⟨by decide, by decide⟩ dX9_takeLine_147 (Nat.le_of_ble_eq_true rfl) rfl (Nat.le_of_ble_eq_true rfl) (by decide) (by decide) (zCC.mono w ?_)
                  rintro r S' h17 ⟨rfl, b17, hr, w⟩
                  subst hr
                  show RR mX9_takeLine 0 0 150 [some (.ref 3), some (.ref 1), some (.int (zI x2)), some (.int (zI (bI b15)))] [.int (zI (bI b17))] zS0 h17 (zQb zS0 K)
                  exact r_iret (st := []) (pc := 150) (x := (bI b17)) (ty := .boolean) dX9_takeLine_150 rfl (bI_nar _) rfl (by decide) ⟨rfl, b17, rfl, w⟩
                · have w := w.2 (bI_0.mp c)
                  refine r_iconst (pc := 138) dX9_takeLine_138 ?_
                  exact r_iret (st := []) (pc := 139) (x := 0) (ty := .boolean) dX9_takeLine_139 rfl (rfl) rfl (by decide) ⟨rfl, false, rfl, w⟩
              · have w := w.2 (c)
                refine r_aload_n (pc := 117) (a := 3) dX9_takeLine_117 rfl ?_
                refine r_aload_n (pc := 118) (a := 1) dX9_takeLine_118 rfl ?_
                refine r_callV (μ2 := mX9_takeSun) (pc := 119) (as := [.ref 1]) (st := []) rfl s0_3 ml_X9_90 im_X9_takeSun se_X9_takeSun okX9_takeSun ⟨by decide, by decide⟩ dX9_takeLine_119 (Nat.le_of_ble_eq_true rfl) rfl (Nat.le_of_ble_eq_true rfl) (by decide) (by decide) (zCC.mono w ?_)
                rintro r S' h18 ⟨rfl, b18, hr, w⟩
                subst hr
                show RR mX9_takeLine 0 0 122 [some (.ref 3), some (.ref 1), some (.int (zI x2)), none] [.int (zI (bI b18))] zS0 h18 (zQb zS0 K)
                refine r_goto (pc := 122) (tgt := 133) dX9_takeLine_122 (by decide) ?_
                refine r_istore_n (pc := 133) (L' := [some (.ref 3), some (.ref 1), some (.int (zI x2)), some (.int (zI (bI b18)))]) dX9_takeLine_133 (by decide) rfl ?_
                refine r_iload_n (pc := 134) (x := (bI b18)) dX9_takeLine_134 rfl ?_
                refine r_if_ne (pc := 135) (x := (bI b18)) (tgt := 140) dX9_takeLine_135 (by decide) (bI_R _) (fun c => ?_) (fun c => ?_)
                · have w := w.1 (bI_n.mp c)
                  refine r_aload_n (pc := 140) (a := 1) dX9_takeLine_140 rfl ?_
                  refine r_callV (μ2 := mX8_readToken) (pc := 141) (as := []) (st := []) rfl s0_1 ml_X9_42 im_X8_readToken se_X8_readToken okX8_readToken ⟨by decide, by decide⟩ dX9_takeLine_141 (Nat.le_of_ble_eq_true rfl) rfl (Nat.le_of_ble_eq_true rfl) (by decide) (by decide) (zCC.mono w ?_)
                  rintro r S' h19 ⟨rfl, hr, w⟩
                  subst hr
                  show RR mX9_takeLine 0 0 144 [some (.ref 3), some (.ref 1), some (.int (zI x2)), some (.int (zI (bI b18)))] [] zS0 h19 (zQb zS0 K)
                  refine r_aload_n (pc := 144) (a := 3) dX9_takeLine_144 rfl ?_
                  refine r_aload_n (pc := 145) (a := 1) dX9_takeLine_145 rfl ?_
                  refine r_iconst (pc := 146) dX9_takeLine_146 ?_
                  refine r_callV (μ2 := mX9_isDue) (pc := 147) (as := [.ref 1, .int (zI 3)]) (st := []) rfl s0_3 ml_X9_79 im_X9_isDue se_X9_isDue okX9_isDue ⟨by decide, by decide⟩ dX9_takeLine_147 (Nat.le_of_ble_eq_true rfl) rfl (Nat.le_of_ble_eq_true rfl) (by decide) (by decide) (zCC.mono w ?_)
                  rintro r S' h20 ⟨rfl, b20, hr, w⟩
                  subst hr
                  show RR mX9_takeLine 0 0 150 [some (.ref 3), some (.ref 1), some (.int (zI x2)), some (.int (zI (bI b18)))] [.int (zI (bI b20))] zS0 h20 (zQb zS0 K)
                  exact r_iret (st := []) (pc := 150) (x := (bI b20)) (ty := .boolean) dX9_takeLine_150 rfl (bI_nar _) rfl (by decide) ⟨rfl, b20, rfl, w⟩
                · have w := w.2 (bI_0.mp c)
                  refine r_iconst (pc := 138) dX9_takeLine_138 ?_
                  exact r_iret (st := []) (pc := 139) (x := 0) (ty := .boolean) dX9_takeLine_139 rfl (rfl) rfl (by decide) ⟨rfl, false, rfl, w⟩
            · have w := w.2 (c)
              refine r_aload_n (pc := 103) (a := 3) dX9_takeLine_103 rfl ?_
              refine r_aload_n (pc := 104) (a := 1) dX9_takeLine_104 rfl ?_
              refine r_callV (μ2 := mX9_takeRow) (pc := 105) (as := [.ref 1]) (st := []) rfl s0_3 ml_X9_87 im_X9_takeRow se_X9_takeRow okX9_takeRow ⟨by decide, by decide⟩ dX9_takeLine_105 (Nat.le_of_ble_eq_true rfl) rfl (Nat.le_of_ble_eq_true rfl) (by decide) (by decide) (zCC.mono w ?_)
              rintro r S' h21 ⟨rfl, b21, hr, w⟩
              subst hr
              show RR mX9_takeLine 0 0 108 [some (.ref 3), some (.ref 1), some (.int (zI x2)), none] [.int (zI (bI b21))] zS0 h21 (zQb zS0 K)
              refine r_goto (pc := 108) (tgt := 133) dX9_takeLine_108 (by decide) ?_
              refine r_istore_n (pc := 133) (L' := [some (.ref 3), some (.ref 1), some (.int (zI x2)), some (.int (zI (bI b21)))]) dX9_takeLine_133 (by decide) rfl ?_
              refine r_iload_n (pc := 134) (x := (bI b21)) dX9_takeLine_134 rfl ?_
              refine r_if_ne (pc := 135) (x := (bI b21)) (tgt := 140) dX9_takeLine_135 (by decide) (bI_R _) (fun c => ?_) (fun c => ?_)
              · have w := w.1 (bI_n.mp c)
                refine r_aload_n (pc := 140) (a := 1) dX9_takeLine_140 rfl ?_
                refine r_callV (μ2 := mX8_readToken) (pc := 141) (as := []) (st := []) rfl s0_1 ml_X9_42 im_X8_readToken se_X8_readToken okX8_readToken ⟨by decide, by decide⟩ dX9_takeLine_141 (Nat.le_of_ble_eq_true rfl) rfl (Nat.le_of_ble_eq_true rfl) (by decide) (by decide) (zCC.mono w ?_)
                rintro r S' h22 ⟨rfl, hr, w⟩
                subst hr
                show RR mX9_takeLine 0 0 144 [some (.ref 3), some (.ref 1), some (.int (zI x2)), some (.int (zI (bI b21)))] [] zS0 h22 (zQb zS0 K)
                refine r_aload_n (pc := 144) (a := 3) dX9_takeLine_144 rfl ?_
                refine r_aload_n (pc := 145) (a := 1) dX9_takeLine_145 rfl ?_
                refine r_iconst (pc := 146) dX9_takeLine_146 ?_
                refine r_callV (μ2 := mX9_isDue) (pc := 147) (as := [.ref 1, .int (zI 3)]) (st := []) rfl s0_3 ml_X9_79 im_X9_isDue se_X9_isDue okX9_isDue ⟨by decide, by decide⟩ dX9_takeLine_147 (Nat.le_of_ble_eq_true rfl) rfl (Nat.le_of_ble_eq_true rfl) (by decide) (by decide) (zCC.mono w ?_)
                rintro r S' h23 ⟨rfl, b23, hr, w⟩
                subst hr
                show RR mX9_takeLine 0 0 150 [some (.ref 3), some (.ref 1), some (.int (zI x2)), some (.int (zI (bI b21)))] [.int (zI (bI b23))] zS0 h23 (zQb zS0 K)
                exact r_iret (st := []) (pc := 150) (x := (bI b23)) (ty := .boolean) dX9_takeLine_150 rfl (bI_nar _) rfl (by decide) ⟨rfl, b23, rfl, w⟩
              · have w := w.2 (bI_0.mp c)
                refine r_iconst (pc := 138) dX9_takeLine_138 ?_
                exact r_iret (st := []) (pc := 139) (x := 0) (ty := .boolean) dX9_takeLine_139 rfl (rfl) rfl (by decide) ⟨rfl, false, rfl, w⟩
          · have w := w.2 (c)
            refine r_aload_n (pc := 65) (a := 3) dX9_takeLine_65 rfl ?_
            refine r_getI (pc := 66) (fi := 5) (x := (h2 3 5)) fl_X9_31 dX9_takeLine_66 s0_3 rfl (rfl) ?_
            refine r_iload_n (pc := 69) (x := x2) dX9_takeLine_69 rfl ?_
            refine r_ishr (pc := 70) (x := (h2 3 5)) (y := x2) dX9_takeLine_70 ?_
            refine r_iconst (pc := 71) dX9_takeLine_71 ?_
            refine r_iandM (pc := 72) (x := (iSr (h2 3 5) x2)) (y := 1) (z := ((iSr (h2 3 5) x2) % 2)) dX9_takeLine_72 (zI_mask _ 1 (by decide)) ?_
            refine r_iconst (pc := 73) dX9_takeLine_73 ?_
            obtain ⟨hr24, w⟩ := w
            refine r_icmp_ne (pc := 74) (x := ((iSr (h2 3 5) x2) % 2)) (y := 1) (tgt := 87) dX9_takeLine_74 (by decide) hr24 (by decide) (fun c => ?_) (fun c => ?_)
            · have w := w.1 (c)
              refine r_aload_n (pc := 87) (a := 3) dX9_takeLine_87 rfl ?_
              refine r_dup (pc := 88) rfl dX9_takeLine_88 ?_
              refine r_getI (pc := 89) (fi := 5) (x := (h2 3 5)) fl_X9_31 dX9_takeLine_89 s0_3 rfl (rfl) ?_
              refine r_iconst (pc := 92) dX9_takeLine_92 ?_
              refine r_iload_n (pc := 93) (x := x2) dX9_takeLine_93 rfl ?_
              refine r_ishl (pc := 94) (x := 1) (y := x2) dX9_takeLine_94 ?_
              refine r_ior (pc := 95) (x := (h2 3 5)) (y := (iSl 1 x2)) dX9_takeLine_95 ?_
              refine r_putI (pc := 96) (fi := 5) (x := (iO (h2 3 5) (iSl 1 x2))) fl_X9_31 dX9_takeLine_96 s0_3 rfl ?_
              refine r_iload_n (pc := 99) (x := x2) dX9_takeLine_99 rfl ?_
              refine r_if_ne (pc := 100) (x := x2) (tgt := 111) dX9_takeLine_100 (by decide) hr3 (fun c => ?_) (fun c => ?_)
              · have w := w.1 (c)
                refine r_iload_n (pc := 111) (x := x2) dX9_takeLine_111 rfl ?_
                refine r_bipush (pc := 112) (x := 9) dX9_takeLine_112 (by decide) ?_
                refine r_icmp_ne (pc := 114) (x := x2) (y := 9) (tgt := 125) dX9_takeLine_114 (by decide) hr3 (by decide) (fun c => ?_) (fun c => ?_)
                · have w := w.1 (c)
                  refine r_aload_n (pc := 125) (a := 3) dX9_takeLine_125 rfl ?_
                  refine r_aload_n (pc := 126) (a := 1) dX9_takeLine_126 rfl ?_
                  refine r_iload_n (pc := 127) (x := x2) dX9_takeLine_127 rfl ?_
                  refine r_iconst (pc := 128) dX9_takeLine_128 ?_
                  refine r_isub (pc := 129) (x := x2) (y := 1) dX9_takeLine_129 ?_
                  refine r_callV (μ2 := mX9_takeRule) (pc := 130) (as := [.ref 1, .int (zI (x2 - 1))]) (st := []) rfl s0_3 ml_X9_93 im_X9_takeRule se_X9_takeRule okX9_takeRule ⟨by decide, by decide⟩ dX9_takeLine_130 (Nat.le_of_ble_eq_true rfl) rfl (Nat.le_of_ble_eq_true rfl) (by decide) (by decide) (zCC.mono w ?_)
                  rintro r S' h26 ⟨rfl, b26, hr, w⟩
                  subst hr
                  show RR mX9_takeLine 0 0 133 [some (.ref 3), some (.ref 1), some (.int (zI x2)), none] [.int (zI (bI b26))] zS0 h26 (zQb zS0 K)
                  refine r_istore_n (pc := 133) (L' := [some (.ref 3), some (.ref 1), some (.int (zI x2)), some (.int (zI (bI b26)))]) dX9_takeLine_133 (by decide) rfl ?_
                  refine r_iload_n (pc := 134) (x := (bI b26)) dX9_takeLine_134 rfl ?_
                  refine r_if_ne (pc := 135) (x := (bI b26)) (tgt := 140) dX9_takeLine_135 (by decide) (bI_R _) (fun c => ?_) (fun c => ?_)
                  · have w := w.1 (bI_n.mp c)
                    refine r_aload_n (pc := 140) (a := 1) dX9_takeLine_140 rfl ?_
                    refine r_callV (μ2 := mX8_readToken) (pc := 141) (as := []) (st := []) rfl s0_1 ml_X9_42 im_X8_readToken se_X8_readToken okX8_readToken ⟨by decide, by decide⟩ dX9_takeLine_141 (Nat.le_of_ble_eq_true rfl) rfl (Nat.le_of_ble_eq_true rfl) (by decide) (by decide) (zCC.mono w ?_)
                    rintro r S' h27 ⟨rfl, hr, w⟩
                    subst hr
                    show RR mX9_takeLine 0 0 144 [some (.ref 3), some (.ref 1), some (.int (zI x2)), some (.int (zI (bI b26)))] [] zS0 h27 (zQb zS0 K)
                    refine r_aload_n (pc := 144) (a := 3) dX9_takeLine_144 rfl ?_
                    refine r_aload_n (pc := 145) (a := 1) dX9_takeLine_145 rfl ?_
                    refine r_iconst (pc := 146) dX9_takeLine_146 ?_
                    refine r_callV (μ2 := mX9_isDue) (pc := 147) (as := [.ref 1, .int (zI 3)]) (st := []) rfl s0_3 ml_X9_79 im_X9_isDue se_X9_isDue okX9_isDue ⟨by decide, by decide⟩ dX9_takeLine_147 (Nat.le_of_ble_eq_true rfl) rfl (Nat.le_of_ble_eq_true rfl) (by decide) (by decide) (zCC.mono w ?_)
                    rintro r S' h28 ⟨rfl, b28, hr, w⟩
                    subst hr
                    show RR mX9_takeLine 0 0 150 [some (.ref 3), some (.ref 1), some (.int (zI x2)), some (.int (zI (bI b26)))] [.int (zI (bI b28))] zS0 h28 (zQb zS0 K)
                    exact r_iret (st := []) (pc := 150) (x := (bI b28)) (ty := .boolean) dX9_takeLine_150 rfl (bI_nar _) rfl (by decide) ⟨rfl, b28, rfl, w⟩
                  · have w := w.2 (bI_0.mp c)
                    refine r_iconst (pc := 138) dX9_takeLine_138 ?_
                    exact r_iret (st := []) (pc := 139) (x := 0) (ty := .boolean) dX9_takeLine_139 rfl (rfl) rfl (by decide) ⟨rfl, false, rfl, w⟩
                · have w := w.2 (c)
                  refine r_aload_n (pc := 117) (a := 3) dX9_takeLine_117 rfl ?_
                  refine r_aload_n (pc := 118) (a := 1) dX9_takeLine_118 rfl ?_
                  refine r_callV (μ2 := mX9_takeSun) (pc := 119) (as := [.ref 1]) (st := []) rfl s0_3 ml_X9_90 im_X9_takeSun se_X9_takeSun okX9_takeSun ⟨by decide, by decide⟩ dX9_takeLine_119 (Nat.le_of_ble_eq_true rfl) rfl (Nat.le_of_ble_eq_true rfl) (by decide) (by decide) (zCC.mono w ?_)
                  rintro r S' h29 ⟨rfl, b29, hr, w⟩
                  subst hr
                  show RR mX9_takeLine 0 0 122 [some (.ref 3), some (.ref 1), some (.int (zI x2)), none] [.int (zI (bI b29))] zS0 h29 (zQb zS0 K)
                  refine r_goto (pc := 122) (tgt := 133) dX9_takeLine_122 (by decide) ?_
                  refine r_istore_n (pc := 133) (L' := [some (.ref 3), some (.ref 1), some (.int (zI x2)), some (.int (zI (bI b29)))]) dX9_takeLine_133 (by decide) rfl ?_
                  refine r_iload_n (pc := 134) (x := (bI b29)) dX9_takeLine_134 rfl ?_
                  refine r_if_ne (pc := 135) (x := (bI b29)) (tgt := 140) dX9_takeLine_135 (by decide) (bI_R _) (fun c => ?_) (fun c => ?_)
                  · have w := w.1 (bI_n.mp c)
                    refine r_aload_n (pc := 140) (a := 1) dX9_takeLine_140 rfl ?_
                    refine r_callV (μ2 := mX8_readToken) (pc := 141) (as := []) (st := []) rfl s0_1 ml_X9_42 im_X8_readToken se_X8_readToken okX8_readToken ⟨by decide, by decide⟩ dX9_takeLine_141 (Nat.le_of_ble_eq_true rfl) rfl (Nat.le_of_ble_eq_true rfl) (by decide) (by decide) (zCC.mono w ?_)
                    rintro r S' h30 ⟨rfl, hr, w⟩
                    subst hr
                    show RR mX9_takeLine 0 0 144 [some (.ref 3), some (.ref 1), some (.int (zI x2)), some (.int (zI (bI b29)))] [] zS0 h30 (zQb zS0 K)
                    refine r_aload_n (pc := 144) (a := 3) dX9_takeLine_144 rfl ?_
                    refine r_aload_n (pc := 145) (a := 1) dX9_takeLine_145 rfl ?_
                    refine r_iconst (pc := 146) dX9_takeLine_146 ?_
                    refine r_callV (μ2 := mX9_isDue) (pc := 147) (as := [.ref 1, .int (zI 3)]) (st := []) rfl s0_3 ml_X9_79 im_X9_isDue se_X9_isDue okX9_isDue ⟨by decide, by decide⟩ dX9_takeLine_147 (Nat.le_of_ble_eq_true rfl) rfl (Nat.le_of_ble_eq_true rfl) (by decide) (by decide) (zCC.mono w ?_)
                    rintro r S' h31 ⟨rfl, b31, hr, w⟩
                    subst hr
                    show RR mX9_takeLine 0 0 150 [some (.ref 3), some (.ref 1), some (.int (zI x2)), some (.int (zI (bI b29)))] [.int (zI (bI b31))] zS0 h31 (zQb zS0 K)
                    exact r_iret (st := []) (pc := 150) (x := (bI b31)) (ty := .boolean) dX9_takeLine_150 rfl (bI_nar _) rfl (by decide) ⟨rfl, b31, rfl, w⟩
                  · have w := w.2 (bI_0.mp c)
                    refine r_iconst (pc := 138) dX9_takeLine_138 ?_
                    exact r_iret (st := []) (pc := 139) (x := 0) (ty := .boolean) dX9_takeLine_139 rfl (rfl) rfl (by decide) ⟨rfl, false, rfl, w⟩
              · have w := w.2 (c)
                refine r_aload_n (pc := 103) (a := 3) dX9_takeLine_103 rfl ?_
                refine r_aload_n (pc := 104) (a := 1) dX9_takeLine_104 rfl ?_
                refine r_callV (μ2 := mX9_takeRow) (pc := 105) (as := [.ref 1]) (st := []) rfl s0_3 ml_X9_87 im_X9_takeRow se_X9_takeRow okX9_takeRow ⟨by decide, by decide⟩ dX9_takeLine_105 (Nat.le_of_ble_eq_true rfl) rfl (Nat.le_of_ble_eq_true rfl) (by decide) (by decide) (zCC.mono w ?_)
                rintro r S' h32 ⟨rfl, b32, hr, w⟩
                subst hr
                show RR mX9_takeLine 0 0 108 [some (.ref 3), some (.ref 1), some (.int (zI x2)), none] [.int (zI (bI b32))] zS0 h32 (zQb zS0 K)
                refine r_goto (pc := 108) (tgt := 133) dX9_takeLine_108 (by decide) ?_
                refine r_istore_n (pc := 133) (L' := [some (.ref 3), some (.ref 1), some (.int (zI x2)), some (.int (zI (bI b32)))]) dX9_takeLine_133 (by decide) rfl ?_
                refine r_iload_n (pc := 134) (x := (bI b32)) dX9_takeLine_134 rfl ?_
                refine r_if_ne (pc := 135) (x := (bI b32)) (tgt := 140) dX9_takeLine_135 (by decide) (bI_R _) (fun c => ?_) (fun c => ?_)
                · have w := w.1 (bI_n.mp c)
                  refine r_aload_n (pc := 140) (a := 1) dX9_takeLine_140 rfl ?_
                  refine r_callV (μ2 := mX8_readToken) (pc := 141) (as := []) (st := []) rfl s0_1 ml_X9_42 im_X8_readToken se_X8_readToken okX8_readToken ⟨by decide, by decide⟩ dX9_takeLine_141 (Nat.le_of_ble_eq_true rfl) rfl (Nat.le_of_ble_eq_true rfl) (by decide) (by decide) (zCC.mono w ?_)
                  rintro r S' h33 ⟨rfl, hr, w⟩
                  subst hr
                  show RR mX9_takeLine 0 0 144 [some (.ref 3), some (.ref 1), some (.int (zI x2)), some (.int (zI (bI b32)))] [] zS0 h33 (zQb zS0 K)
                  refine r_aload_n (pc := 144) (a := 3) dX9_takeLine_144 rfl ?_
                  refine r_aload_n (pc := 145) (a := 1) dX9_takeLine_145 rfl ?_
                  refine r_iconst (pc := 146) dX9_takeLine_146 ?_
                  refine r_callV (μ2 := mX9_isDue) (pc := 147) (as := [.ref 1, .int (zI 3)]) (st := []) rfl s0_3 ml_X9_79 im_X9_isDue se_X9_isDue okX9_isDue ⟨by decide, by decide⟩ dX9_takeLine_147 (Nat.le_of_ble_eq_true rfl) rfl (Nat.le_of_ble_eq_true rfl) (by decide) (by decide) (zCC.mono w ?_)
                  rintro r S' h34 ⟨rfl, b34, hr, w⟩
                  subst hr
                  show RR mX9_takeLine 0 0 150 [some (.ref 3), some (.ref 1), some (.int (zI x2)), some (.int (zI (bI b32)))] [.int (zI (bI b34))] zS0 h34 (zQb zS0 K)
                  exact r_iret (st := []) (pc := 150) (x := (bI b34)) (ty := .boolean) dX9_takeLine_150 rfl (bI_nar _) rfl (by decide) ⟨rfl, b34, rfl, w⟩
                · have w := w.2 (bI_0.mp c)
                  refine r_iconst (pc := 138) dX9_takeLine_138 ?_
                  exact r_iret (st := []) (pc := 139) (x := 0) (ty := .boolean) dX9_takeLine_139 rfl (rfl) rfl (by decide) ⟨rfl, false, rfl, w⟩
            · have w := w.2 (c)
              refine r_aload_n (pc := 77) (a := 3) dX9_takeLine_77 rfl ?_
              refine r_iconst (pc := 78) dX9_takeLine_78 ?_
              refine r_aload_n (pc := 79) (a := 1) dX9_takeLine_79 rfl ?_
              refine r_getI (pc := 80) (fi := 3) (x := (h2 1 3)) fl_X9_76 dX9_takeLine_80 s0_1 rfl (rfl) ?_
              refine r_callV (μ2 := mX9_refuse) (pc := 83) (as := [.int (zI 4), .int (zI (h2 1 3))]) (st := []) rfl s0_3 ml_X9_67 im_X9_refuse se_X9_refuse okX9_refuse ⟨by decide, by decide⟩ dX9_takeLine_83 (Nat.le_of_ble_eq_true rfl) rfl (Nat.le_of_ble_eq_true rfl) (by decide) (by decide) (zCC.mono w ?_)
              rintro r S' h35 ⟨rfl, b35, hr, w⟩
              subst hr
              show RR mX9_takeLine 0 0 86 [some (.ref 3), some (.ref 1), some (.int (zI x2)), none] [.int (zI (bI b35))] zS0 h35 (zQb zS0 K)
              exact r_iret (st := []) (pc := 86) (x := (bI b35)) (ty := .boolean) dX9_takeLine_86 rfl (bI_nar _) rfl (by decide) ⟨rfl, b35, rfl, w⟩
      · have w := w.2 (c)
        refine r_aload_n (pc := 36) (a := 3) dX9_takeLine_36 rfl ?_
        refine r_getI (pc := 37) (fi := 4) (x := (h2 3 4)) fl_X9_28 dX9_takeLine_37 s0_3 rfl (rfl) ?_
        refine r_bipush (pc := 40) (x := 6) dX9_takeLine_40 (by decide) ?_
        obtain ⟨hr36, w⟩ := w
        refine r_icmp_ne (pc := 42) (x := (h2 3 4)) (y := 6) (tgt := 55) dX9_takeLine_42 (by decide) hr36 (by decide) (fun c => ?_) (fun c => ?_)
        · have w := w.1 (c)
          refine r_iload_n (pc := 55) (x := x2) dX9_takeLine_55 rfl ?_
          refine r_if_eq (pc := 56) (x := x2) (tgt := 87) dX9_takeLine_56 (by decide) hr3 (fun c => ?_) (fun c => ?_)
          · have w := w.1 (c)
            refine r_aload_n (pc := 87) (a := 3) dX9_takeLine_87 rfl ?_
            refine r_dup (pc := 88) rfl dX9_takeLine_88 ?_
            refine r_getI (pc := 89) (fi := 5) (x := (h2 3 5)) fl_X9_31 dX9_takeLine_89 s0_3 rfl (rfl) ?_
            refine r_iconst (pc := 92) dX9_takeLine_92 ?_
            refine r_iload_n (pc := 93) (x := x2) dX9_takeLine_93 rfl ?_
            refine r_ishl (pc := 94) (x := 1) (y := x2) dX9_takeLine_94 ?_
            refine r_ior (pc := 95) (x := (h2 3 5)) (y := (iSl 1 x2)) dX9_takeLine_95 ?_
            refine r_putI (pc := 96) (fi := 5) (x := (iO (h2 3 5) (iSl 1 x2))) fl_X9_31 dX9_takeLine_96 s0_3 rfl ?_
            refine r_iload_n (pc := 99) (x := x2) dX9_takeLine_99 rfl ?_
            refine r_if_ne (pc := 100) (x := x2) (tgt := 111) dX9_takeLine_100 (by decide) hr3 (fun c => ?_) (fun c => ?_)
            · have w := w.1 (c)
              refine r_iload_n (pc := 111) (x := x2) dX9_takeLine_111 rfl ?_
              refine r_bipush (pc := 112) (x := 9) dX9_takeLine_112 (by decide) ?_
              refine r_icmp_ne (pc := 114) (x := x2) (y := 9) (tgt := 125) dX9_takeLine_114 (by decide) hr3 (by decide) (fun c => ?_) (fun c => ?_)
              · have w := w.1 (c)
                refine r_aload_n (pc := 125) (a := 3) dX9_takeLine_125 rfl ?_
                refine r_aload_n (pc := 126) (a := 1) dX9_takeLine_126 rfl ?_
                refine r_iload_n (pc := 127) (x := x2) dX9_takeLine_127 rfl ?_
                refine r_iconst (pc := 128) dX9_takeLine_128 ?_
                refine r_isub (pc := 129) (x := x2) (y := 1) dX9_takeLine_129 ?_
                refine r_callV (μ2 := mX9_takeRule) (pc := 130) (as := [.ref 1, .int (zI (x2 - 1))]) (st := []) rfl s0_3 ml_X9_93 im_X9_takeRule se_X9_takeRule okX9_takeRule ⟨by decide, by decide⟩ dX9_takeLine_130 (Nat.le_of_ble_eq_true rfl) rfl (Nat.le_of_ble_eq_true rfl) (by decide) (by decide) (zCC.mono w ?_)
                rintro r S' h38 ⟨rfl, b38, hr, w⟩
                subst hr
                show RR mX9_takeLine 0 0 133 [some (.ref 3), some (.ref 1), some (.int (zI x2)), none] [.int (zI (bI b38))] zS0 h38 (zQb zS0 K)
                refine r_istore_n (pc := 133) (L' := [some (.ref 3), some (.ref 1), some (.int (zI x2)), some (.int (zI (bI b38)))]) dX9_takeLine_133 (by decide) rfl ?_
                refine r_iload_n (pc := 134) (x := (bI b38)) dX9_takeLine_134 rfl ?_
                refine r_if_ne (pc := 135) (x := (bI b38)) (tgt := 140) dX9_takeLine_135 (by decide) (bI_R _) (fun c => ?_) (fun c => ?_)
                · have w := w.1 (bI_n.mp c)
                  refine r_aload_n (pc := 140) (a := 1) dX9_takeLine_140 rfl ?_
                  refine r_callV (μ2 := mX8_readToken) (pc := 141) (as := []) (st := []) rfl s0_1 ml_X9_42 im_X8_readToken se_X8_readToken okX8_readToken ⟨by decide, by decide⟩ dX9_takeLine_141 (Nat.le_of_ble_eq_true rfl) rfl (Nat.le_of_ble_eq_true rfl) (by decide) (by decide) (zCC.mono w ?_)
                  rintro r S' h39 ⟨rfl, hr, w⟩
                  subst hr
                  show RR mX9_takeLine 0 0 144 [some (.ref 3), some (.ref 1), some (.int (zI x2)), some (.int (zI (bI b38)))] [] zS0 h39 (zQb zS0 K)
                  refine r_aload_n (pc := 144) (a := 3) dX9_takeLine_144 rfl ?_
                  refine r_aload_n (pc := 145) (a := 1) dX9_takeLine_145 rfl ?_
                  refine r_iconst (pc := 146) dX9_takeLine_146 ?_
                  refine r_callV (μ2 := mX9_isDue) (pc := 147) (as := [.ref 1, .int (zI 3)]) (st := []) rfl s0_3 ml_X9_79 im_X9_isDue se_X9_isDue okX9_isDue ⟨by decide, by decide⟩ dX9_takeLine_147 (Nat.le_of_ble_eq_true rfl) rfl (Nat.le_of_ble_eq_true rfl) (by decide) (by decide) (zCC.mono w ?_)
                  rintro r S' h40 ⟨rfl, b40, hr, w⟩
                  subst hr
                  show RR mX9_takeLine 0 0 150 [some (.ref 3), some (.ref 1), some (.int (zI x2)), some (.int (zI (bI b38)))] [.int (zI (bI b40))] zS0 h40 (zQb zS0 K)
                  exact r_iret (st := []) (pc := 150) (x := (bI b40)) (ty := .boolean) dX9_takeLine_150 rfl (bI_nar _) rfl (by decide) ⟨rfl, b40, rfl, w⟩
                · have w := w.2 (bI_0.mp c)
                  refine r_iconst (pc := 138) dX9_takeLine_138 ?_
                  exact r_iret (st := []) (pc := 139) (x := 0) (ty := .boolean) dX9_takeLine_139 rfl (rfl) rfl (by decide) ⟨rfl, false, rfl, w⟩
              · have w := w.2 (c)
                refine r_aload_n (pc := 117) (a := 3) dX9_takeLine_117 rfl ?_
                refine r_aload_n (pc := 118) (a := 1) dX9_takeLine_118 rfl ?_
                refine r_callV (μ2 := mX9_takeSun) (pc := 119) (as := [.ref 1]) (st := []) rfl s0_3 ml_X9_90 im_X9_takeSun se_X9_takeSun okX9_takeSun ⟨by decide, by decide⟩ dX9_takeLine_119 (Nat.le_of_ble_eq_true rfl) rfl (Nat.le_of_ble_eq_true rfl) (by decide) (by decide) (zCC.mono w ?_)
                rintro r S' h41 ⟨rfl, b41, hr, w⟩
                subst hr
                show RR mX9_takeLine 0 0 122 [some (.ref 3), some (.ref 1), some (.int (zI x2)), none] [.int (zI (bI b41))] zS0 h41 (zQb zS0 K)
                refine r_goto (pc := 122) (tgt := 133) dX9_takeLine_122 (by decide) ?_
                refine r_istore_n (pc := 133) (L' := [some (.ref 3), some (.ref 1), some (.int (zI x2)), some (.int (zI (bI b41)))]) dX9_takeLine_133 (by decide) rfl ?_
                refine r_iload_n (pc := 134) (x := (bI b41)) dX9_takeLine_134 rfl ?_
                refine r_if_ne (pc := 135) (x := (bI b41)) (tgt := 140) dX9_takeLine_135 (by decide) (bI_R _) (fun c => ?_) (fun c => ?_)
                · have w := w.1 (bI_n.mp c)
                  refine r_aload_n (pc := 140) (a := 1) dX9_takeLine_140 rfl ?_
                  refine r_callV (μ2 := mX8_readToken) (pc := 141) (as := []) (st := []) rfl s0_1 ml_X9_42 im_X8_readToken se_X8_readToken okX8_readToken ⟨by decide, by decide⟩ dX9_takeLine_141 (Nat.le_of_ble_eq_true rfl) rfl (Nat.le_of_ble_eq_true rfl) (by decide) (by decide) (zCC.mono w ?_)
                  rintro r S' h42 ⟨rfl, hr, w⟩
                  subst hr
                  show RR mX9_takeLine 0 0 144 [some (.ref 3), some (.ref 1), some (.int (zI x2)), some (.int (zI (bI b41)))] [] zS0 h42 (zQb zS0 K)
                  refine r_aload_n (pc := 144) (a := 3) dX9_takeLine_144 rfl ?_
                  refine r_aload_n (pc := 145) (a := 1) dX9_takeLine_145 rfl ?_
                  refine r_iconst (pc := 146) dX9_takeLine_146 ?_
                  refine r_callV (μ2 := mX9_isDue) (pc := 147) (as := [.ref 1, .int (zI 3)]) (st := []) rfl s0_3 ml_X9_79 im_X9_isDue se_X9_isDue okX9_isDue ⟨by decide, by decide⟩ dX9_takeLine_147 (Nat.le_of_ble_eq_true rfl) rfl (Nat.le_of_ble_eq_true rfl) (by decide) (by decide) (zCC.mono w ?_)
                  rintro r S' h43 ⟨rfl, b43, hr, w⟩
                  subst hr
                  show RR mX9_takeLine 0 0 150 [some (.ref 3), some (.ref 1), some (.int (zI x2)), some (.int (zI (bI b41)))] [.int (zI (bI b43))] zS0 h43 (zQb zS0 K)
                  exact r_iret (st := []) (pc := 150) (x := (bI b43)) (ty := .boolean) dX9_takeLine_150 rfl (bI_nar _) rfl (by decide) ⟨rfl, b43, rfl, w⟩
                · have w := w.2 (bI_0.mp c)
                  refine r_iconst (pc := 138) dX9_takeLine_138 ?_
                  exact r_iret (st := []) (pc := 139) (x := 0) (ty := .boolean) dX9_takeLine_139 rfl (rfl) rfl (by decide) ⟨rfl, false, rfl, w⟩
            · have w := w.2 (c)
              refine r_aload_n (pc := 103) (a := 3) dX9_takeLine_103 rfl ?_
              refine r_aload_n (pc := 104) (a := 1) dX9_takeLine_104 rfl ?_
              refine r_callV (μ2 := mX9_takeRow) (pc := 105) (as := [.ref 1]) (st := []) rfl s0_3 ml_X9_87 im_X9_takeRow se_X9_takeRow okX9_takeRow ⟨by decide, by decide⟩ dX9_takeLine_105 (Nat.le_of_ble_eq_true rfl) rfl (Nat.le_of_ble_eq_true rfl) (by decide) (by decide) (zCC.mono w ?_)
              rintro r S' h44 ⟨rfl, b44, hr, w⟩
              subst hr
              show RR mX9_takeLine 0 0 108 [some (.ref 3), some (.ref 1), some (.int (zI x2)), none] [.int (zI (bI b44))] zS0 h44 (zQb zS0 K)
              refine r_goto (pc := 108) (tgt := 133) dX9_takeLine_108 (by decide) ?_
              refine r_istore_n (pc := 133) (L' := [some (.ref 3), some (.ref 1), some (.int (zI x2)), some (.int (zI (bI b44)))]) dX9_takeLine_133 (by decide) rfl ?_
              refine r_iload_n (pc := 134) (x := (bI b44)) dX9_takeLine_134 rfl ?_
              refine r_if_ne (pc := 135) (x := (bI b44)) (tgt := 140) dX9_takeLine_135 (by decide) (bI_R _) (fun c => ?_) (fun c => ?_)
              · have w := w.1 (bI_n.mp c)
                refine r_aload_n (pc := 140) (a := 1) dX9_takeLine_140 rfl ?_
                refine r_callV (μ2 := mX8_readToken) (pc := 141) (as := []) (st := []) rfl s0_1 ml_X9_42 im_X8_readToken se_X8_readToken okX8_readToken ⟨by decide, by decide⟩ dX9_takeLine_141 (Nat.le_of_ble_eq_true rfl) rfl (Nat.le_of_ble_eq_true rfl) (by decide) (by decide) (zCC.mono w ?_)
                rintro r S' h45 ⟨rfl, hr, w⟩
                subst hr
                show RR mX9_takeLine 0 0 144 [some (.ref 3), some (.ref 1), some (.int (zI x2)), some (.int (zI (bI b44)))] [] zS0 h45 (zQb zS0 K)
                refine r_aload_n (pc := 144) (a := 3) dX9_takeLine_144 rfl ?_
                refine r_aload_n (pc := 145) (a := 1) dX9_takeLine_145 rfl ?_
                refine r_iconst (pc := 146) dX9_takeLine_146 ?_
                refine r_callV (μ2 := mX9_isDue) (pc := 147) (as := [.ref 1, .int (zI 3)]) (st := []) rfl s0_3 ml_X9_79 im_X9_isDue se_X9_isDue okX9_isDue ⟨by decide, by decide⟩ dX9_takeLine_147 (Nat.le_of_ble_eq_true rfl) rfl (Nat.le_of_ble_eq_true rfl) (by decide) (by decide) (zCC.mono w ?_)
                rintro r S' h46 ⟨rfl, b46, hr, w⟩
                subst hr
                show RR mX9_takeLine 0 0 150 [some (.ref 3), some (.ref 1), some (.int (zI x2)), some (.int (zI (bI b44)))] [.int (zI (bI b46))] zS0 h46 (zQb zS0 K)
                exact r_iret (st := []) (pc := 150) (x := (bI b46)) (ty := .boolean) dX9_takeLine_150 rfl (bI_nar _) rfl (by decide) ⟨rfl, b46, rfl, w⟩
              · have w := w.2 (bI_0.mp c)
                refine r_iconst (pc := 138) dX9_takeLine_138 ?_
                exact r_iret (st := []) (pc := 139) (x := 0) (ty := .boolean) dX9_takeLine_139 rfl (rfl) rfl (by decide) ⟨rfl, false, rfl, w⟩
          · have w := w.2 (c)
            refine r_iload_n (pc := 59) (x := x2) dX9_takeLine_59 rfl ?_
            refine r_bipush (pc := 60) (x := 9) dX9_takeLine_60 (by decide) ?_
            refine r_icmp_eq (pc := 62) (x := x2) (y := 9) (tgt := 87) dX9_takeLine_62 (by decide) hr3 (by decide) (fun c => ?_) (fun c => ?_)
            · have w := w.1 (c)
              refine r_aload_n (pc := 87) (a := 3) dX9_takeLine_87 rfl ?_
              refine r_dup (pc := 88) rfl dX9_takeLine_88 ?_
              refine r_getI (pc := 89) (fi := 5) (x := (h2 3 5)) fl_X9_31 dX9_takeLine_89 s0_3 rfl (rfl) ?_
              refine r_iconst (pc := 92) dX9_takeLine_92 ?_
              refine r_iload_n (pc := 93) (x := x2) dX9_takeLine_93 rfl ?_
              refine r_ishl (pc := 94) (x := 1) (y := x2) dX9_takeLine_94 ?_
              refine r_ior (pc := 95) (x := (h2 3 5)) (y := (iSl 1 x2)) dX9_takeLine_95 ?_
              refine r_putI (pc := 96) (fi := 5) (x := (iO (h2 3 5) (iSl 1 x2))) fl_X9_31 dX9_takeLine_96 s0_3 rfl ?_
              refine r_iload_n (pc := 99) (x := x2) dX9_takeLine_99 rfl ?_
              refine r_if_ne (pc := 100) (x := x2) (tgt := 111) dX9_takeLine_100 (by decide) hr3 (fun c => ?_) (fun c => ?_)
              · have w := w.1 (c)
                refine r_iload_n (pc := 111) (x := x2) dX9_takeLine_111 rfl ?_
                refine r_bipush (pc := 112) (x := 9) dX9_takeLine_112 (by decide) ?_
                refine r_icmp_ne (pc := 114) (x := x2) (y := 9) (tgt := 125) dX9_takeLine_114 (by decide) hr3 (by decide) (fun c => ?_) (fun c => ?_)
                · have w := w.1 (c)
                  refine r_aload_n (pc := 125) (a := 3) dX9_takeLine_125 rfl ?_
                  refine r_aload_n (pc := 126) (a := 1) dX9_takeLine_126 rfl ?_
                  refine r_iload_n (pc := 127) (x := x2) dX9_takeLine_127 rfl ?_
                  refine r_iconst (pc := 128) dX9_takeLine_128 ?_
                  refine r_isub (pc := 129) (x := x2) (y := 1) dX9_takeLine_129 ?_
                  refine r_callV (μ2 := mX9_takeRule) (pc := 130) (as := [.ref 1, .int (zI (x2 - 1))]) (st := []) rfl s0_3 ml_X9_93 im_X9_takeRule se_X9_takeRule okX9_takeRule ⟨by decide, by decide⟩ dX9_takeLine_130 (Nat.le_of_ble_eq_true rfl) rfl (Nat.le_of_ble_eq_true rfl) (by decide) (by decide) (zCC.mono w ?_)
                  rintro r S' h48 ⟨rfl, b48, hr, w⟩
                  subst hr
                  show RR mX9_takeLine 0 0 133 [some (.ref 3), some (.ref 1), some (.int (zI x2)), none] [.int (zI (bI b48))] zS0 h48 (zQb zS0 K)
                  refine r_istore_n (pc := 133) (L' := [some (.ref 3), some (.ref 1), some (.int (zI x2)), some (.int (zI (bI b48)))]) dX9_takeLine_133 (by decide) rfl ?_
                  refine r_iload_n (pc := 134) (x := (bI b48)) dX9_takeLine_134 rfl ?_
                  refine r_if_ne (pc := 135) (x := (bI b48)) (tgt := 140) dX9_takeLine_135 (by decide) (bI_R _) (fun c => ?_) (fun c => ?_)
                  · have w := w.1 (bI_n.mp c)
                    refine r_aload_n (pc := 140) (a := 1) dX9_takeLine_140 rfl ?_
                    refine r_callV (μ2 := mX8_readToken) (pc := 141) (as := []) (st := []) rfl s0_1 ml_X9_42 im_X8_readToken se_X8_readToken okX8_readToken ⟨by decide, by decide⟩ dX9_takeLine_141 (Nat.le_of_ble_eq_true rfl) rfl (Nat.le_of_ble_eq_true rfl) (by decide) (by decide) (zCC.mono w ?_)
                    rintro r S' h49 ⟨rfl, hr, w⟩
                    subst hr
                    show RR mX9_takeLine 0 0 144 [some (.ref 3), some (.ref 1), some (.int (zI x2)), some (.int (zI (bI b48)))] [] zS0 h49 (zQb zS0 K)
                    refine r_aload_n (pc := 144) (a := 3) dX9_takeLine_144 rfl ?_
                    refine r_aload_n (pc := 145) (a := 1) dX9_takeLine_145 rfl ?_
                    refine r_iconst (pc := 146) dX9_takeLine_146 ?_
                    refine r_callV (μ2 := mX9_isDue) (pc := 147) (as := [.ref 1, .int (zI 3)]) (st := []) rfl s0_3 ml_X9_79 im_X9_isDue se_X9_isDue okX9_isDue ⟨by decide, by decide⟩ dX9_takeLine_147 (Nat.le_of_ble_eq_true rfl) rfl (Nat.le_of_ble_eq_true rfl) (by decide) (by decide) (zCC.mono w ?_)
                    rintro r S' h50 ⟨rfl, b50, hr, w⟩
                    subst hr
                    show RR mX9_takeLine 0 0 150 [some (.ref 3), some (.ref 1), some (.int (zI x2)), some (.int (zI (bI b48)))] [.int (zI (bI b50))] zS0 h50 (zQb zS0 K)
                    exact r_iret (st := []) (pc := 150) (x := (bI b50)) (ty := .boolean) dX9_takeLine_150 rfl (bI_nar _) rfl (by decide) ⟨rfl, b50, rfl, w⟩
                  · have w := w.2 (bI_0.mp c)
                    refine r_iconst (pc := 138) dX9_takeLine_138 ?_
                    exact r_iret (st := []) (pc := 139) (x := 0) (ty := .boolean) dX9_takeLine_139 rfl (rfl) rfl (by decide) ⟨rfl, false, rfl, w⟩
                · have w := w.2 (c)
                  refine r_aload_n (pc := 117) (a := 3) dX9_takeLine_117 rfl ?_
                  refine r_aload_n (pc := 118) (a := 1) dX9_takeLine_118 rfl ?_
                  refine r_callV (μ2 := mX9_takeSun) (pc := 119) (as := [.ref 1]) (st := []) rfl s0_3 ml_X9_90 im_X9_takeSun se_X9_takeSun okX9_takeSun ⟨by decide, by decide⟩ dX9_takeLine_119 (Nat.le_of_ble_eq_true rfl) rfl (Nat.le_of_ble_eq_true rfl) (by decide) (by decide) (zCC.mono w ?_)
                  rintro r S' h51 ⟨rfl, b51, hr, w⟩
                  subst hr
                  show RR mX9_takeLine 0 0 122 [some (.ref 3), some (.ref 1), some (.int (zI x2)), none] [.int (zI (bI b51))] zS0 h51 (zQb zS0 K)
                  refine r_goto (pc := 122) (tgt := 133) dX9_takeLine_122 (by decide) ?_
                  refine r_istore_n (pc := 133) (L' := [some (.ref 3), some (.ref 1), some (.int (zI x2)), some (.int (zI (bI b51)))]) dX9_takeLine_133 (by decide) rfl ?_
                  refine r_iload_n (pc := 134) (x := (bI b51)) dX9_takeLine_134 rfl ?_
                  refine r_if_ne (pc := 135) (x := (bI b51)) (tgt := 140) dX9_takeLine_135 (by decide) (bI_R _) (fun c => ?_) (fun c => ?_)
                  · have w := w.1 (bI_n.mp c)
                    refine r_aload_n (pc := 140) (a := 1) dX9_takeLine_140 rfl ?_
                    refine r_callV (μ2 := mX8_readToken) (pc := 141) (as := []) (st := []) rfl s0_1 ml_X9_42 im_X8_readToken se_X8_readToken okX8_readToken ⟨by decide, by decide⟩ dX9_takeLine_141 (Nat.le_of_ble_eq_true rfl) rfl (Nat.le_of_ble_eq_true rfl) (by decide) (by decide) (zCC.mono w ?_)
                    rintro r S' h52 ⟨rfl, hr, w⟩
                    subst hr
                    show RR mX9_takeLine 0 0 144 [some (.ref 3), some (.ref 1), some (.int (zI x2)), some (.int (zI (bI b51)))] [] zS0 h52 (zQb zS0 K)
                    refine r_aload_n (pc := 144) (a := 3) dX9_takeLine_144 rfl ?_
                    refine r_aload_n (pc := 145) (a := 1) dX9_takeLine_145 rfl ?_
                    refine r_iconst (pc := 146) dX9_takeLine_146 ?_
                    refine r_callV (μ2 := mX9_isDue) (pc := 147) (as := [.ref 1, .int (zI 3)]) (st := []) rfl s0_3 ml_X9_79 im_X9_isDue se_X9_isDue okX9_isDue ⟨by decide, by decide⟩ dX9_takeLine_147 (Nat.le_of_ble_eq_true rfl) rfl (Nat.le_of_ble_eq_true rfl) (by decide) (by decide) (zCC.mono w ?_)
                    rintro r S' h53 ⟨rfl, b53, hr, w⟩
                    subst hr
                    show RR mX9_takeLine 0 0 150 [some (.ref 3), some (.ref 1), some (.int (zI x2)), some (.int (zI (bI b51)))] [.int (zI (bI b53))] zS0 h53 (zQb zS0 K)
                    exact r_iret (st := []) (pc := 150) (x := (bI b53)) (ty := .boolean) dX9_takeLine_150 rfl (bI_nar _) rfl (by decide) ⟨rfl, b53, rfl, w⟩
                  · have w := w.2 (bI_0.mp c)
                    refine r_iconst (pc := 138) dX9_takeLine_138 ?_
                    exact r_iret (st := []) (pc := 139) (x := 0) (ty := .boolean) dX9_takeLine_139 rfl (rfl) rfl (by decide) ⟨rfl, false, rfl, w⟩
              · have w := w.2 (c)
                refine r_aload_n (pc := 103) (a := 3) dX9_takeLine_103 rfl ?_
                refine r_aload_n (pc := 104) (a := 1) dX9_takeLine_104 rfl ?_
                refine r_callV (μ2 := mX9_takeRow) (pc := 105) (as := [.ref 1]) (st := []) rfl s0_3 ml_X9_87 im_X9_takeRow se_X9_takeRow okX9_takeRow ⟨by decide, by decide⟩ dX9_takeLine_105 (Nat.le_of_ble_eq_true rfl) rfl (Nat.le_of_ble_eq_true rfl) (by decide) (by decide) (zCC.mono w ?_)
                rintro r S' h54 ⟨rfl, b54, hr, w⟩
                subst hr
                show RR mX9_takeLine 0 0 108 [some (.ref 3), some (.ref 1), some (.int (zI x2)), none] [.int (zI (bI b54))] zS0 h54 (zQb zS0 K)
                refine r_goto (pc := 108) (tgt := 133) dX9_takeLine_108 (by decide) ?_
                refine r_istore_n (pc := 133) (L' := [some (.ref 3), some (.ref 1), some (.int (zI x2)), some (.int (zI (bI b54)))]) dX9_takeLine_133 (by decide) rfl ?_
                refine r_iload_n (pc := 134) (x := (bI b54)) dX9_takeLine_134 rfl ?_
                refine r_if_ne (pc := 135) (x := (bI b54)) (tgt := 140) dX9_takeLine_135 (by decide) (bI_R _) (fun c => ?_) (fun c => ?_)
                · have w := w.1 (bI_n.mp c)
                  refine r_aload_n (pc := 140) (a := 1) dX9_takeLine_140 rfl ?_
                  refine r_callV (μ2 := mX8_readToken) (pc := 141) (as := []) (st := []) rfl s0_1 ml_X9_42 im_X8_readToken se_X8_readToken okX8_readToken ⟨by decide, by decide⟩ dX9_takeLine_141 (Nat.le_of_ble_eq_true rfl) rfl (Nat.le_of_ble_eq_true rfl) (by decide) (by decide) (zCC.mono w ?_)
                  rintro r S' h55 ⟨rfl, hr, w⟩
                  subst hr
                  show RR mX9_takeLine 0 0 144 [some (.ref 3), some (.ref 1), some (.int (zI x2)), some (.int (zI (bI b54)))] [] zS0 h55 (zQb zS0 K)
                  refine r_aload_n (pc := 144) (a := 3) dX9_takeLine_144 rfl ?_
                  refine r_aload_n (pc := 145) (a := 1) dX9_takeLine_145 rfl ?_
                  refine r_iconst (pc := 146) dX9_takeLine_146 ?_
                  refine r_callV (μ2 := mX9_isDue) (pc := 147) (as := [.ref 1, .int (zI 3)]) (st := []) rfl s0_3 ml_X9_79 im_X9_isDue se_X9_isDue okX9_isDue ⟨by decide, by decide⟩ dX9_takeLine_147 (Nat.le_of_ble_eq_true rfl) rfl (Nat.le_of_ble_eq_true rfl) (by decide) (by decide) (zCC.mono w ?_)
                  rintro r S' h56 ⟨rfl, b56, hr, w⟩
                  subst hr
                  show RR mX9_takeLine 0 0 150 [some (.ref 3), some (.ref 1), some (.int (zI x2)), some (.int (zI (bI b54)))] [.int (zI (bI b56))] zS0 h56 (zQb zS0 K)
                  exact r_iret (st := []) (pc := 150) (x := (bI b56)) (ty := .boolean) dX9_takeLine_150 rfl (bI_nar _) rfl (by decide) ⟨rfl, b56, rfl, w⟩
                · have w := w.2 (bI_0.mp c)
                  refine r_iconst (pc := 138) dX9_takeLine_138 ?_
                  exact r_iret (st := []) (pc := 139) (x := 0) (ty := .boolean) dX9_takeLine_139 rfl (rfl) rfl (by decide) ⟨rfl, false, rfl, w⟩
            · have w := w.2 (c)
              refine r_aload_n (pc := 65) (a := 3) dX9_takeLine_65 rfl ?_
              refine r_getI (pc := 66) (fi := 5) (x := (h2 3 5)) fl_X9_31 dX9_takeLine_66 s0_3 rfl (rfl) ?_
              refine r_iload_n (pc := 69) (x := x2) dX9_takeLine_69 rfl ?_
              refine r_ishr (pc := 70) (x := (h2 3 5)) (y := x2) dX9_takeLine_70 ?_
              refine r_iconst (pc := 71) dX9_takeLine_71 ?_
              refine r_iandM (pc := 72) (x := (iSr (h2 3 5) x2)) (y := 1) (z := ((iSr (h2 3 5) x2) % 2)) dX9_takeLine_72 (zI_mask _ 1 (by decide)) ?_
              refine r_iconst (pc := 73) dX9_takeLine_73 ?_
              obtain ⟨hr57, w⟩ := w
              refine r_icmp_ne (pc := 74) (x := ((iSr (h2 3 5) x2) % 2)) (y := 1) (tgt := 87) dX9_takeLine_74 (by decide) hr57 (by decide) (fun c => ?_) (fun c => ?_)
              · have w := w.1 (c)
                refine r_aload_n (pc := 87) (a := 3) dX9_takeLine_87 rfl ?_
                refine r_dup (pc := 88) rfl dX9_takeLine_88 ?_
                refine r_getI (pc := 89) (fi := 5) (x := (h2 3 5)) fl_X9_31 dX9_takeLine_89 s0_3 rfl (rfl) ?_
                refine r_iconst (pc := 92) dX9_takeLine_92 ?_
                refine r_iload_n (pc := 93) (x := x2) dX9_takeLine_93 rfl ?_
                refine r_ishl (pc := 94) (x := 1) (y := x2) dX9_takeLine_94 ?_
                refine r_ior (pc := 95) (x := (h2 3 5)) (y := (iSl 1 x2)) dX9_takeLine_95 ?_
                refine r_putI (pc := 96) (fi := 5) (x := (iO (h2 3 5) (iSl 1 x2))) fl_X9_31 dX9_takeLine_96 s0_3 rfl ?_
                refine r_iload_n (pc := 99) (x := x2) dX9_takeLine_99 rfl ?_
                refine r_if_ne (pc := 100) (x := x2) (tgt := 111) dX9_takeLine_100 (by decide) hr3 (fun c => ?_) (fun c => ?_)
                · have w := w.1 (c)
                  refine r_iload_n (pc := 111) (x := x2) dX9_takeLine_111 rfl ?_
                  refine r_bipush (pc := 112) (x := 9) dX9_takeLine_112 (by decide) ?_
                  refine r_icmp_ne (pc := 114) (x := x2) (y := 9) (tgt := 125) dX9_takeLine_114 (by decide) hr3 (by decide) (fun c => ?_) (fun c => ?_)
                  · have w := w.1 (c)
                    refine r_aload_n (pc := 125) (a := 3) dX9_takeLine_125 rfl ?_
                    refine r_aload_n (pc := 126) (a := 1) dX9_takeLine_126 rfl ?_
                    refine r_iload_n (pc := 127) (x := x2) dX9_takeLine_127 rfl ?_
                    refine r_iconst (pc := 128) dX9_takeLine_128 ?_
                    refine r_isub (pc := 129) (x := x2) (y := 1) dX9_takeLine_129 ?_
                    refine r_callV (μ2 := mX9_takeRule) (pc := 130) (as := [.ref 1, .int (zI (x2 - 1))]) (st := []) rfl s0_3 ml_X9_93 im_X9_takeRule se_X9_takeRule okX9_takeRule ⟨by decide, by decide⟩ dX9_takeLine_130 (Nat.le_of_ble_eq_true rfl) rfl (Nat.le_of_ble_eq_true rfl) (by decide) (by decide) (zCC.mono w ?_)
                    rintro r S' h59 ⟨rfl, b59, hr, w⟩
                    subst hr
                    show RR mX9_takeLine 0 0 133 [some (.ref 3), some (.ref 1), some (.int (zI x2)), none] [.int (zI (bI b59))] zS0 h59 (zQb zS0 K)
                    refine r_istore_n (pc := 133) (L' := [some (.ref 3), some (.ref 1), some (.int (zI x2)), some (.int (zI (bI b59)))]) dX9_takeLine_133 (by decide) rfl ?_
                    refine r_iload_n (pc := 134) (x := (bI b59)) dX9_takeLine_134 rfl ?_
                    refine r_if_ne (pc := 135) (x := (bI b59)) (tgt := 140) dX9_takeLine_135 (by decide) (bI_R _) (fun c => ?_) (fun c => ?_)
                    · have w := w.1 (bI_n.mp c)
                      refine r_aload_n (pc := 140) (a := 1) dX9_takeLine_140 rfl ?_
                      refine r_callV (μ2 := mX8_readToken) (pc := 141) (as := []) (st := []) rfl s0_1 ml_X9_42 im_X8_readToken se_X8_readToken okX8_readToken ⟨by decide, by decide⟩ dX9_takeLine_141 (Nat.le_of_ble_eq_true rfl) rfl (Nat.le_of_ble_eq_true rfl) (by decide) (by decide) (zCC.mono w ?_)
                      rintro r S' h60 ⟨rfl, hr, w⟩
                      subst hr
                      show RR mX9_takeLine 0 0 144 [some (.ref 3), some (.ref 1), some (.int (zI x2)), some (.int (zI (bI b59)))] [] zS0 h60 (zQb zS0 K)
                      refine r_aload_n (pc := 144) (a := 3) dX9_takeLine_144 rfl ?_
                      refine r_aload_n (pc := 145) (a := 1) dX9_takeLine_145 rfl ?_
                      refine r_iconst (pc := 146) dX9_takeLine_146 ?_
                      refine r_callV (μ2 := mX9_isDue) (pc := 147) (as := [.ref 1, .int (zI 3)]) (st := []) rfl s0_3 ml_X9_79 im_X9_isDue se_X9_isDue okX9_isDue ⟨by decide, by decide⟩ dX9_takeLine_147 (Nat.le_of_ble_eq_true rfl) rfl (Nat.le_of_ble_eq_true rfl) (by decide) (by decide) (zCC.mono w ?_)
                      rintro r S' h61 ⟨rfl, b61, hr, w⟩
                      subst hr
                      show RR mX9_takeLine 0 0 150 [some (.ref 3), some (.ref 1), some (.int (zI x2)), some (.int (zI (bI b59)))] [.int (zI (bI b61))] zS0 h61 (zQb zS0 K)
                      exact r_iret (st := []) (pc := 150) (x := (bI b61)) (ty := .boolean) dX9_takeLine_150 rfl (bI_nar _) rfl (by decide) ⟨rfl, b61, rfl, w⟩
                    · have w := w.2 (bI_0.mp c)
                      refine r_iconst (pc := 138) dX9_takeLine_138 ?_
                      exact r_iret (st := []) (pc := 139) (x := 0) (ty := .boolean) dX9_takeLine_139 rfl (rfl) rfl (by decide) ⟨rfl, false, rfl, w⟩
                  · have w := w.2 (c)
                    refine r_aload_n (pc := 117) (a := 3) dX9_takeLine_117 rfl ?_
                    refine r_aload_n (pc := 118) (a := 1) dX9_takeLine_118 rfl ?_
                    refine r_callV (μ2 := mX9_takeSun) (pc := 119) (as := [.ref 1]) (st := []) rfl s0_3 ml_X9_90 im_X9_takeSun se_X9_takeSun okX9_takeSun ⟨by decide, by decide⟩ dX9_takeLine_119 (Nat.le_of_ble_eq_true rfl) rfl (Nat.le_of_ble_eq_true rfl) (by decide) (by decide) (zCC.mono w ?_)
                    rintro r S' h62 ⟨rfl, b62, hr, w⟩
                    subst hr
                    show RR mX9_takeLine 0 0 122 [some (.ref 3), some (.ref 1), some (.int (zI x2)), none] [.int (zI (bI b62))] zS0 h62 (zQb zS0 K)
                    refine r_goto (pc := 122) (tgt := 133) dX9_takeLine_122 (by decide) ?_
                    refine r_istore_n (pc := 133) (L' := [some (.ref 3), some (.ref 1), some (.int (zI x2)), some (.int (zI (bI b62)))]) dX9_takeLine_133 (by decide) rfl ?_
                    refine r_iload_n (pc := 134) (x := (bI b62)) dX9_takeLine_134 rfl ?_
                    refine r_if_ne (pc := 135) (x := (bI b62)) (tgt := 140) dX9_takeLine_135 (by decide) (bI_R _) (fun c => ?_) (fun c => ?_)
                    · have w := w.1 (bI_n.mp c)
                      refine r_aload_n (pc := 140) (a := 1) dX9_takeLine_140 rfl ?_
                      refine r_callV (μ2 := mX8_readToken) (pc := 141) (as := []) (st := []) rfl s0_1 ml_X9_42 im_X8_readToken se_X8_readToken okX8_readToken ⟨by decide, by decide⟩ dX9_takeLine_141 (Nat.le_of_ble_eq_true rfl) rfl (Nat.le_of_ble_eq_true rfl) (by decide) (by decide) (zCC.mono w ?_)
                      rintro r S' h63 ⟨rfl, hr, w⟩
                      subst hr
                      show RR mX9_takeLine 0 0 144 [some (.ref 3), some (.ref 1), some (.int (zI x2)), some (.int (zI (bI b62)))] [] zS0 h63 (zQb zS0 K)
                      refine r_aload_n (pc := 144) (a := 3) dX9_takeLine_144 rfl ?_
                      refine r_aload_n (pc := 145) (a := 1) dX9_takeLine_145 rfl ?_
                      refine r_iconst (pc := 146) dX9_takeLine_146 ?_
                      refine r_callV (μ2 := mX9_isDue) (pc := 147) (as := [.ref 1, .int (zI 3)]) (st := []) rfl s0_3 ml_X9_79 im_X9_isDue se_X9_isDue okX9_isDue ⟨by decide, by decide⟩ dX9_takeLine_147 (Nat.le_of_ble_eq_true rfl) rfl (Nat.le_of_ble_eq_true rfl) (by decide) (by decide) (zCC.mono w ?_)
                      rintro r S' h64 ⟨rfl, b64, hr, w⟩
                      subst hr
                      show RR mX9_takeLine 0 0 150 [some (.ref 3), some (.ref 1), some (.int (zI x2)), some (.int (zI (bI b62)))] [.int (zI (bI b64))] zS0 h64 (zQb zS0 K)
                      exact r_iret (st := []) (pc := 150) (x := (bI b64)) (ty := .boolean) dX9_takeLine_150 rfl (bI_nar _) rfl (by decide) ⟨rfl, b64, rfl, w⟩
                    · have w := w.2 (bI_0.mp c)
                      refine r_iconst (pc := 138) dX9_takeLine_138 ?_
                      exact r_iret (st := []) (pc := 139) (x := 0) (ty := .boolean) dX9_takeLine_139 rfl (rfl) rfl (by decide) ⟨rfl, false, rfl, w⟩
                · have w := w.2 (c)
                  refine r_aload_n (pc := 103) (a := 3) dX9_takeLine_103 rfl ?_
                  refine r_aload_n (pc := 104) (a := 1) dX9_takeLine_104 rfl ?_
                  refine r_callV (μ2 := mX9_takeRow) (pc := 105) (as := [.ref 1]) (st := []) rfl s0_3 ml_X9_87 im_X9_takeRow se_X9_takeRow okX9_takeRow ⟨by decide, by decide⟩ dX9_takeLine_105 (Nat.le_of_ble_eq_true rfl) rfl (Nat.le_of_ble_eq_true rfl) (by decide) (by decide) (zCC.mono w ?_)
                  rintro r S' h65 ⟨rfl, b65, hr, w⟩
                  subst hr
                  show RR mX9_takeLine 0 0 108 [some (.ref 3), some (.ref 1), some (.int (zI x2)), none] [.int (zI (bI b65))] zS0 h65 (zQb zS0 K)
                  refine r_goto (pc := 108) (tgt := 133) dX9_takeLine_108 (by decide) ?_
                  refine r_istore_n (pc := 133) (L' := [some (.ref 3), some (.ref 1), some (.int (zI x2)), some (.int (zI (bI b65)))]) dX9_takeLine_133 (by decide) rfl ?_
                  refine r_iload_n (pc := 134) (x := (bI b65)) dX9_takeLine_134 rfl ?_
                  refine r_if_ne (pc := 135) (x := (bI b65)) (tgt := 140) dX9_takeLine_135 (by decide) (bI_R _) (fun c => ?_) (fun c => ?_)
                  · have w := w.1 (bI_n.mp c)
                    refine r_aload_n (pc := 140) (a := 1) dX9_takeLine_140 rfl ?_
                    refine r_callV (μ2 := mX8_readToken) (pc := 141) (as := []) (st := []) rfl s0_1 ml_X9_42 im_X8_readToken se_X8_readToken okX8_readToken ⟨by decide, by decide⟩ dX9_takeLine_141 (Nat.le_of_ble_eq_true rfl) rfl (Nat.le_of_ble_eq_true rfl) (by decide) (by decide) (zCC.mono w ?_)
                    rintro r S' h66 ⟨rfl, hr, w⟩
                    subst hr
                    show RR mX9_takeLine 0 0 144 [some (.ref 3), some (.ref 1), some (.int (zI x2)), some (.int (zI (bI b65)))] [] zS0 h66 (zQb zS0 K)
                    refine r_aload_n (pc := 144) (a := 3) dX9_takeLine_144 rfl ?_
                    refine r_aload_n (pc := 145) (a := 1) dX9_takeLine_145 rfl ?_
                    refine r_iconst (pc := 146) dX9_takeLine_146 ?_
                    refine r_callV (μ2 := mX9_isDue) (pc := 147) (as := [.ref 1, .int (zI 3)]) (st := []) rfl s0_3 ml_X9_79 im_X9_isDue se_X9_isDue okX9_isDue ⟨by decide, by decide⟩ dX9_takeLine_147 (Nat.le_of_ble_eq_true rfl) rfl (Nat.le_of_ble_eq_true rfl) (by decide) (by decide) (zCC.mono w ?_)
                    rintro r S' h67 ⟨rfl, b67, hr, w⟩
                    subst hr
                    show RR mX9_takeLine 0 0 150 [some (.ref 3), some (.ref 1), some (.int (zI x2)), some (.int (zI (bI b65)))] [.int (zI (bI b67))] zS0 h67 (zQb zS0 K)
                    exact r_iret (st := []) (pc := 150) (x := (bI b67)) (ty := .boolean) dX9_takeLine_150 rfl (bI_nar _) rfl (by decide) ⟨rfl, b67, rfl, w⟩
                  · have w := w.2 (bI_0.mp c)
                    refine r_iconst (pc := 138) dX9_takeLine_138 ?_
                    exact r_iret (st := []) (pc := 139) (x := 0) (ty := .boolean) dX9_takeLine_139 rfl (rfl) rfl (by decide) ⟨rfl, false, rfl, w⟩
              · have w := w.2 (c)
                refine r_aload_n (pc := 77) (a := 3) dX9_takeLine_77 rfl ?_
                refine r_iconst (pc := 78) dX9_takeLine_78 ?_
                refine r_aload_n (pc := 79) (a := 1) dX9_takeLine_79 rfl ?_
                refine r_getI (pc := 80) (fi := 3) (x := (h2 1 3)) fl_X9_76 dX9_takeLine_80 s0_1 rfl (rfl) ?_
                refine r_callV (μ2 := mX9_refuse) (pc := 83) (as := [.int (zI 4), .int (zI (h2 1 3))]) (st := []) rfl s0_3 ml_X9_67 im_X9_refuse se_X9_refuse okX9_refuse ⟨by decide, by decide⟩ dX9_takeLine_83 (Nat.le_of_ble_eq_true rfl) rfl (Nat.le_of_ble_eq_true rfl) (by decide) (by decide) (zCC.mono w ?_)
                rintro r S' h68 ⟨rfl, b68, hr, w⟩
                subst hr
                show RR mX9_takeLine 0 0 86 [some (.ref 3), some (.ref 1), some (.int (zI x2)), none] [.int (zI (bI b68))] zS0 h68 (zQb zS0 K)
                exact r_iret (st := []) (pc := 86) (x := (bI b68)) (ty := .boolean) dX9_takeLine_86 rfl (bI_nar _) rfl (by decide) ⟨rfl, b68, rfl, w⟩
        · have w := w.2 (c)
          refine r_aload_n (pc := 45) (a := 3) dX9_takeLine_45 rfl ?_
          refine r_iconst (pc := 46) dX9_takeLine_46 ?_
          refine r_aload_n (pc := 47) (a := 1) dX9_takeLine_47 rfl ?_
          refine r_getI (pc := 48) (fi := 3) (x := (h2 1 3)) fl_X9_76 dX9_takeLine_48 s0_1 rfl (rfl) ?_
          refine r_callV (μ2 := mX9_refuse) (pc := 51) (as := [.int (zI 5), .int (zI (h2 1 3))]) (st := []) rfl s0_3 ml_X9_67 im_X9_refuse se_X9_refuse okX9_refuse ⟨by decide, by decide⟩ dX9_takeLine_51 (Nat.le_of_ble_eq_true rfl) rfl (Nat.le_of_ble_eq_true rfl) (by decide) (by decide) (zCC.mono w ?_)
          rintro r S' h69 ⟨rfl, b69, hr, w⟩
          subst hr
          show RR mX9_takeLine 0 0 54 [some (.ref 3), some (.ref 1), some (.int (zI x2)), none] [.int (zI (bI b69))] zS0 h69 (zQb zS0 K)
          exact r_iret (st := []) (pc := 54) (x := (bI b69)) (ty := .boolean) dX9_takeLine_54 rfl (bI_nar _) rfl (by decide) ⟨rfl, b69, rfl, w⟩
    · have w := w.2 (c)
      refine r_aload_n (pc := 22) (a := 3) dX9_takeLine_22 rfl ?_
      refine r_iconst (pc := 23) dX9_takeLine_23 ?_
      refine r_aload_n (pc := 24) (a := 1) dX9_takeLine_24 rfl ?_
      refine r_getI (pc := 25) (fi := 3) (x := (h2 1 3)) fl_X9_76 dX9_takeLine_25 s0_1 rfl (rfl) ?_
      refine r_callV (μ2 := mX9_refuse) (pc := 28) (as := [.int (zI 2), .int (zI (h2 1 3))]) (st := []) rfl s0_3 ml_X9_67 im_X9_refuse se_X9_refuse okX9_refuse ⟨by decide, by decide⟩ dX9_takeLine_28 (Nat.le_of_ble_eq_true rfl) rfl (Nat.le_of_ble_eq_true rfl) (by decide) (by decide) (zCC.mono w ?_)
      rintro r S' h70 ⟨rfl, b70, hr, w⟩
      subst hr
      show RR mX9_takeLine 0 0 31 [some (.ref 3), some (.ref 1), some (.int (zI x2)), none] [.int (zI (bI b70))] zS0 h70 (zQb zS0 K)
      exact r_iret (st := []) (pc := 31) (x := (bI b70)) (ty := .boolean) dX9_takeLine_31 rfl (bI_nar _) rfl (by decide) ⟨rfl, b70, rfl, w⟩
  · have w := w.2 (bI_0.mp c)
    refine r_iconst (pc := 9) dX9_takeLine_9 ?_
    exact r_iret (st := []) (pc := 10) (x := 0) (ty := .boolean) dX9_takeLine_10 rfl (rfl) rfl (by decide) ⟨rfl, false, rfl, w⟩

set_option maxRecDepth 100000 in
set_option maxHeartbeats 4000000 in
theorem wX9_readText {h : zMm} {K : Bool → zMm → Prop} (w : zCv mX9_startAnew [.ref 3, .ref 1] zS0 h (fun h1 => RR mX9_readText 0 0 7 [some (.ref 3), some (.ref 1), some (.int (zI 0))] [] zS0 h1 (zQb zS0 K))) : zCb mX9_readText [.ref 3, .ref 1] zS0 h K := by
  show RR mX9_readText 0 0 0 [some (.ref 3), some (.ref 1), none] [] zS0 h (zQb zS0 K)
  refine r_aload_n (pc := 0) (a := 3) dX9_readText_0 rfl ?_
  refine r_aload_n (pc := 1) (a := 1) dX9_readText_1 rfl ?_
  refine r_callV (μ2 := mX9_startAnew) (pc := 2) (as := [.ref 1]) (st := []) rfl s0_3 ml_X9_38 im_X9_startAnew se_X9_startAnew okX9_startAnew ⟨by decide, by decide⟩ dX9_readText_2 (Nat.le_of_ble_eq_true rfl) rfl (Nat.le_of_ble_eq_true rfl) (by decide) (by decide) (zCC.mono w ?_)
  rintro r S' h1 ⟨rfl, hr, w⟩
  subst hr
  show RR mX9_readText 0 0 5 [some (.ref 3), some (.ref 1), none] [] zS0 h1 (zQb zS0 K)
  refine r_iconst (pc := 5) dX9_readText_5 ?_
  refine r_istore_n (pc := 6) (L' := [some (.ref 3), some (.ref 1), some (.int (zI 0))]) dX9_readText_6 (by decide) rfl ?_
  exact w

set_option maxRecDepth 100000 in
set_option maxHeartbeats 4000000 in
theorem bX9_readText_7 {h : zMm} {K : Bool → zMm → Prop} {v2 : Int} (w : (zR v2 ∧ ((320 < v2 → zCv mX3_growToTold [.ref 4] zS0 h (fun h3 => zCi mX3_told [.ref 4, .int (zI 0)] zS0 h3 (fun x4 h4 => zCb mX3_isOpen [.ref 4, .int (zI x4)] zS0 h4 (fun b5 h5 => ((b5 = true → K true h5) ∧ (b5 = false → zCb mX9_refuse [.ref 3, .int (zI 6), .int (zI (h5 1 1))] zS0 h5 (fun b6 h6 => K (if b6 = true then true else false) h6))))))) ∧ (¬ 320 < v2 → zCv mX8_readToken [.ref 1] zS0 h (fun h8 => (zR (h8 1 2) ∧ ((¬ (h8 1 2) = 5 → zCb mX9_takeLine [.ref 3, .ref 1] zS0 h8 (fun b10 h10 => ((b10 = true → RR mX9_readText 0 0 7 [some (.ref 3), some (.ref 1), some (.int (zI (v2 + 1)))] [] zS0 (zU h10 3 3 ((h10 3 3) + 1)) (zQb zS0 K)) ∧ (b10 = false → K false h10)))) ∧ ((h8 1 2) = 5 → zCv mX3_growToTold [.ref 4] zS0 h8 (fun h11 => zCi mX3_told [.ref 4, .int (zI 0)] zS0 h11 (fun x12 h12 => zCb mX3_isOpen [.ref 4, .int (zI x12)] zS0 h12 (fun b13 h13 => ((b13 = true → K true h13) ∧ (b13 = false → zCb mX9_refuse [.ref 3, .int (zI 6), .int (zI (h13 1 1))] zS0 h13 (fun b14 h14 => K (if b14 = true then true else false) h14)))))))))))))) : RR mX9_readText 0 0 7 [some (.ref 3), some (.ref 1), some (.int (zI v2))] [] zS0 h (zQb zS0 K) := by
  refine r_iload_n (pc := 7) (x := v2) dX9_readText_7 rfl ?_
  refine r_sipush (pc := 8) (x := 320) dX9_readText_8 (by decide) ?_
  obtain ⟨hr2, w⟩ := w
  refine r_icmp_gt (pc := 11) (x := v2) (y := 320) (tgt := 55) dX9_readText_11 (by decide) hr2 (by decide) (fun c => ?_) (fun c => ?_)
  · have w := w.1 (c)
    refine r_aload_n (pc := 55) (a := 3) dX9_readText_55 rfl ?_
    refine r_getR (pc := 56) (b := 4) fl_X9_12 dX9_readText_56 s0_3 rfl ?_
    refine r_callV (μ2 := mX3_growToTold) (pc := 59) (as := []) (st := []) rfl s0_4 ml_X9_54 im_X3_growToTold se_X3_growToTold okX3_growToTold ⟨by decide, by decide⟩ dX9_readText_59 (Nat.le_of_ble_eq_true rfl) rfl (Nat.le_of_ble_eq_true rfl) (by decide) (by decide) (zCC.mono w ?_)
    rintro r S' h3 ⟨rfl, hr, w⟩
    subst hr
    show RR mX9_readText 0 0 62 [some (.ref 3), some (.ref 1), some (.int (zI v2))] [] zS0 h3 (zQb zS0 K)
    refine r_aload_n (pc := 62) (a := 3) dX9_readText_62 rfl ?_
    refine r_getR (pc := 63) (b := 4) fl_X9_12 dX9_readText_63 s0_3 rfl ?_
    refine r_aload_n (pc := 66) (a := 3) dX9_readText_66 rfl ?_
    refine r_getR (pc := 67) (b := 4) fl_X9_12 dX9_readText_67 s0_3 rfl ?_
    refine r_iconst (pc := 70) dX9_readText_70 ?_
    refine r_callV (μ2 := mX3_told) (pc := 71) (as := [.int (zI 0)]) (st := [.ref 4]) rfl s0_4 ml_X9_57 im_X3_told se_X3_told okX3_told ⟨by decide, by decide⟩ dX9_readText_71 (Nat.le_of_ble_eq_true rfl) rfl (Nat.le_of_ble_eq_true rfl) (by decide) (by decide) (zCC.mono w ?_)
    rintro r S' h4 ⟨rfl, x4, hr, w⟩
    subst hr
    show RR mX9_readText 0 0 74 [some (.ref 3), some (.ref 1), some (.int (zI v2))] [.int (zI x4), .ref 4] zS0 h4 (zQb zS0 K)
    refine r_callV (μ2 := mX3_isOpen) (pc := 74) (as := [.int (zI x4)]) (st := []) rfl s0_4 ml_X9_60 im_X3_isOpen se_X3_isOpen okX3_isOpen ⟨by decide, by decide⟩ dX9_readText_74 (Nat.le_of_ble_eq_true rfl) rfl (Nat.le_of_ble_eq_true rfl) (by decide) (by decide) (zCC.mono w ?_)
    rintro r S' h5 ⟨rfl, b5, hr, w⟩
    subst hr
    show RR mX9_readText 0 0 77 [some (.ref 3), some (.ref 1), some (.int (zI v2))] [.int (zI (bI b5))] zS0 h5 (zQb zS0 K)
    refine r_if_ne (pc := 77) (x := (bI b5)) (tgt := 93) dX9_readText_77 (by decide) (bI_R _) (fun c => ?_) (fun c => ?_)
    · have w := w.1 (bI_n.mp c)
      refine r_iconst (pc := 93) dX9_readText_93 ?_
      refine r_goto (pc := 94) (tgt := 98) dX9_readText_94 (by decide) ?_
      exact r_iret (st := []) (pc := 98) (x := 1) (ty := .boolean) dX9_readText_98 rfl (rfl) rfl (by decide) ⟨rfl, true, rfl, w⟩
    · have w := w.2 (bI_0.mp c)
      refine r_aload_n (pc := 80) (a := 3) dX9_readText_80 rfl ?_
      refine r_bipush (pc := 81) (x := 6) dX9_readText_81 (by decide) ?_
      refine r_aload_n (pc := 83) (a := 1) dX9_readText_83 rfl ?_
      refine r_getI (pc := 84) (fi := 1) (x := (h5 1 1)) fl_X9_64 dX9_readText_84 s0_1 rfl (rfl) ?_
      refine r_callV (μ2 := mX9_refuse) (pc := 87) (as := [.int (zI 6), .int (zI (h5 1 1))]) (st := []) rfl s0_3 ml_X9_67 im_X9_refuse se_X9_refuse okX9_refuse ⟨by decide, by decide⟩ dX9_readText_87 (Nat.le_of_ble_eq_true rfl) rfl (Nat.le_of_ble_eq_true rfl) (by decide) (by decide) (zCC.mono w ?_)
      rintro r S' h6 ⟨rfl, b6, hr, w⟩
      subst hr
      show RR mX9_readText 0 0 90 [some (.ref 3), some (.ref 1), some (.int (zI v2))] [.int (zI (bI b6))] zS0 h6 (zQb zS0 K)
      have kk7 : RR mX9_readText 0 0 98 [some (.ref 3), some (.ref 1), some (.int (zI v2))] [.int (zI (bI (if b6 = true then true else false)))] zS0 h6 (zQb zS0 K) := by
        exact r_iret (st := []) (pc := 98) (x := (bI (if b6 = true then true else false))) (ty := .boolean) dX9_readText_98 rfl (bI_nar _) rfl (by decide) ⟨rfl, (if b6 = true then true else false), rfl, w⟩
      refine r_if_eq (pc := 90) (x := (bI b6)) (tgt := 97) dX9_readText_90 (by decide) (bI_R _) (fun c => ?_) (fun c => ?_)
      · refine r_iconst (pc := 97) dX9_readText_97 ?_
        simp only [if_neg (bI_ft (bI_0.mp c))] at kk7 ⊢
        exact kk7
      · refine r_iconst (pc := 93) dX9_readText_93 ?_
        refine r_goto (pc := 94) (tgt := 98) dX9_readText_94 (by decide) ?_
        simp only [if_pos (bI_n.mp c)] at kk7 ⊢
        exact kk7
  · have w := w.2 (c)
    refine r_aload_n (pc := 14) (a := 1) dX9_readText_14 rfl ?_
    refine r_callV (μ2 := mX8_readToken) (pc := 15) (as := []) (st := []) rfl s0_1 ml_X9_42 im_X8_readToken se_X8_readToken okX8_readToken ⟨by decide, by decide⟩ dX9_readText_15 (Nat.le_of_ble_eq_true rfl) rfl (Nat.le_of_ble_eq_true rfl) (by decide) (by decide) (zCC.mono w ?_)
    rintro r S' h8 ⟨rfl, hr, w⟩
    subst hr
    show RR mX9_readText 0 0 18 [some (.ref 3), some (.ref 1), some (.int (zI v2))] [] zS0 h8 (zQb zS0 K)
    refine r_aload_n (pc := 18) (a := 1) dX9_readText_18 rfl ?_
    refine r_getI (pc := 19) (fi := 2) (x := (h8 1 2)) fl_X9_47 dX9_readText_19 s0_1 rfl (rfl) ?_
    refine r_iconst (pc := 22) dX9_readText_22 ?_
    obtain ⟨hr9, w⟩ := w
    refine r_icmp_ne (pc := 23) (x := (h8 1 2)) (y := 5) (tgt := 29) dX9_readText_23 (by decide) hr9 (by decide) (fun c => ?_) (fun c => ?_)
    · have w := w.1 (c)
      refine r_aload_n (pc := 29) (a := 3) dX9_readText_29 rfl ?_
      refine r_aload_n (pc := 30) (a := 1) dX9_readText_30 rfl ?_
      refine r_callV (μ2 := mX9_takeLine) (pc := 31) (as := [.ref 1]) (st := []) rfl s0_3 ml_X9_50 im_X9_takeLine se_X9_takeLine okX9_takeLine ⟨by decide, by decide⟩ dX9_readText_31 (Nat.le_of_ble_eq_true rfl) rfl (Nat.le_of_ble_eq_true rfl) (by decide) (by decide) (zCC.mono w ?_)
      rintro r S' h10 ⟨rfl, b10, hr, w⟩
      subst hr
      show RR mX9_readText 0 0 34 [some (.ref 3), some (.ref 1), some (.int (zI v2))] [.int (zI (bI b10))] zS0 h10 (zQb zS0 K)
      refine r_if_ne (pc := 34) (x := (bI b10)) (tgt := 39) dX9_readText_34 (by decide) (bI_R _) (fun c => ?_) (fun c => ?_)
      · have w := w.1 (bI_n.mp c)
        refine r_aload_n (pc := 39) (a := 3) dX9_readText_39 rfl ?_
        refine r_dup (pc := 40) rfl dX9_readText_40 ?_
        refine r_getI (pc := 41) (fi := 3) (x := (h10 3 3)) fl_X9_25 dX9_readText_41 s0_3 rfl (rfl) ?_
        refine r_iconst (pc := 44) dX9_readText_44 ?_
        refine r_iadd (pc := 45) (x := (h10 3 3)) (y := 1) dX9_readText_45 ?_
        refine r_putI (pc := 46) (fi := 3) (x := ((h10 3 3) + 1)) fl_X9_25 dX9_readText_46 s0_3 rfl ?_
        refine r_iinc (pc := 49) (x := v2) (L' := [some (.ref 3), some (.ref 1), some (.int (zI (v2 + 1)))]) dX9_readText_49 rfl (by decide) rfl ?_
        refine r_goto (pc := 52) (tgt := 7) dX9_readText_52 (by decide) ?_
        exact w
      · have w := w.2 (bI_0.mp c)
        refine r_iconst (pc := 37) dX9_readText_37 ?_
        exact r_iret (st := []) (pc := 38) (x := 0) (ty := .boolean) dX9_readText_38 rfl (rfl) rfl (by decide) ⟨rfl, false, rfl, w⟩
    · have w := w.2 (c)
      refine r_goto (pc := 26) (tgt := 55) dX9_readText_26 (by decide) ?_
      refine r_aload_n (pc := 55) (a := 3) dX9_readText_55 rfl ?_
      refine r_getR (pc := 56) (b := 4) fl_X9_12 dX9_readText_56 s0_3 rfl ?_
      refine r_callV (μ2 := mX3_growToTold) (pc := 59) (as := []) (st := []) rfl s0_4 ml_X9_54 im_X3_growToTold se_X3_growToTold okX3_growToTold ⟨by decide, by decide⟩ dX9_readText_59 (Nat.le_of_ble_eq_true rfl) rfl (Nat.le_of_ble_eq_true rfl) (by decide) (by decide) (zCC.mono w ?_)
      rintro r S' h11 ⟨rfl, hr, w⟩
      subst hr
      show RR mX9_readText 0 0 62 [some (.ref 3), some (.ref 1), some (.int (zI v2))] [] zS0 h11 (zQb zS0 K)
      refine r_aload_n (pc := 62) (a := 3) dX9_readText_62 rfl ?_
      refine r_getR (pc := 63) (b := 4) fl_X9_12 dX9_readText_63 s0_3 rfl ?_
      refine r_aload_n (pc := 66) (a := 3) dX9_readText_66 rfl ?_
      refine r_getR (pc := 67) (b := 4) fl_X9_12 dX9_readText_67 s0_3 rfl ?_
      refine r_iconst (pc := 70) dX9_readText_70 ?_
      refine r_callV (μ2 := mX3_told) (pc := 71) (as := [.int (zI 0)]) (st := [.ref 4]) rfl s0_4 ml_X9_57 im_X3_told se_X3_told okX3_told ⟨by decide, by decide⟩ dX9_readText_71 (Nat.le_of_ble_eq_true rfl) rfl (Nat.le_of_ble_eq_true rfl) (by decide) (by decide) (zCC.mono w ?_)
      rintro r S' h12 ⟨rfl, x12, hr, w⟩
      subst hr
      show RR mX9_readText 0 0 74 [some (.ref 3), some (.ref 1), some (.int (zI v2))] [.int (zI x12), .ref 4] zS0 h12 (zQb zS0 K)
      refine r_callV (μ2 := mX3_isOpen) (pc := 74) (as := [.int (zI x12)]) (st := []) rfl s0_4 ml_X9_60 im_X3_isOpen se_X3_isOpen okX3_isOpen ⟨by decide, by decide⟩ dX9_readText_74 (Nat.le_of_ble_eq_true rfl) rfl (Nat.le_of_ble_eq_true rfl) (by decide) (by decide) (zCC.mono w ?_)
      rintro r S' h13 ⟨rfl, b13, hr, w⟩
      subst hr
      show RR mX9_readText 0 0 77 [some (.ref 3), some (.ref 1), some (.int (zI v2))] [.int (zI (bI b13))] zS0 h13 (zQb zS0 K)
      refine r_if_ne (pc := 77) (x := (bI b13)) (tgt := 93) dX9_readText_77 (by decide) (bI_R _) (fun c => ?_) (fun c => ?_)
      · have w := w.1 (bI_n.mp c)
        refine r_iconst (pc := 93) dX9_readText_93 ?_
        refine r_goto (pc := 94) (tgt := 98) dX9_readText_94 (by decide) ?_
        exact r_iret (st := []) (pc := 98) (x := 1) (ty := .boolean) dX9_readText_98 rfl (rfl) rfl (by decide) ⟨rfl, true, rfl, w⟩
      · have w := w.2 (bI_0.mp c)
        refine r_aload_n (pc := 80) (a := 3) dX9_readText_80 rfl ?_
        refine r_bipush (pc := 81) (x := 6) dX9_readText_81 (by decide) ?_
        refine r_aload_n (pc := 83) (a := 1) dX9_readText_83 rfl ?_
        refine r_getI (pc := 84) (fi := 1) (x := (h13 1 1)) fl_X9_64 dX9_readText_84 s0_1 rfl (rfl) ?_
        refine r_callV (μ2 := mX9_refuse) (pc := 87) (as := [.int (zI 6), .int (zI (h13 1 1))]) (st := []) rfl s0_3 ml_X9_67 im_X9_refuse se_X9_refuse okX9_refuse ⟨by decide, by decide⟩ dX9_readText_87 (Nat.le_of_ble_eq_true rfl) rfl (Nat.le_of_ble_eq_true rfl) (by decide) (by decide) (zCC.mono w ?_)
        rintro r S' h14 ⟨rfl, b14, hr, w⟩
        subst hr
        show RR mX9_readText 0 0 90 [some (.ref 3), some (.ref 1), some (.int (zI v2))] [.int (zI (bI b14))] zS0 h14 (zQb zS0 K)
        have kk15 : RR mX9_readText 0 0 98 [some (.ref 3), some (.ref 1), some (.int (zI v2))] [.int (zI (bI (if b14 = true then true else false)))] zS0 h14 (zQb zS0 K) := by
          exact r_iret (st := []) (pc := 98) (x := (bI (if b14 = true then true else false))) (ty := .boolean) dX9_readText_98 rfl (bI_nar _) rfl (by decide) ⟨rfl, (if b14 = true then true else false), rfl, w⟩
        refine r_if_eq (pc := 90) (x := (bI b14)) (tgt := 97) dX9_readText_90 (by decide) (bI_R _) (fun c => ?_) (fun c => ?_)
        · refine r_iconst (pc := 97) dX9_readText_97 ?_
          simp only [if_neg (bI_ft (bI_0.mp c))] at kk15 ⊢
          exact kk15
        · refine r_iconst (pc := 93) dX9_readText_93 ?_
          refine r_goto (pc := 94) (tgt := 98) dX9_readText_94 (by decide) ?_
          simp only [if_pos (bI_n.mp c)] at kk15 ⊢
          exact kk15
