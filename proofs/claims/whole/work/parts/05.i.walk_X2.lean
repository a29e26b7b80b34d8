set_option maxRecDepth 100000 in
set_option maxHeartbeats 4000000 in
theorem wX2_measure {h : zMm} {K : zMm → Prop} {v2 : Int} (w : zCv mJ7_fill_53178 [.ref 29, .int (zI (-4))] zS0 h (fun h1 => zCb mX3_isOpen [.ref 10, .int (zI v2)] zS0 h1 (fun b2 h2 => ((b2 = true → ((0 ≤ v2 ∧ v2 < 36) ∧ RR mX2_measure 0 0 37 [some (.ref 28), some (.ref 10), none, some (.int (zI 1)), some (.int (zI 0)), none, none] [] zS0 (zU (zU h2 29 v2 0) 30 0 v2) (zQv zS0 K))) ∧ (b2 = false → K h2))))) : zCv mX2_measure [.ref 28, .ref 10, .int (zI v2)] zS0 h K := by
  show RR mX2_measure 0 0 0 [some (.ref 28), some (.ref 10), some (.int (zI v2)), none, none, none, none] [] zS0 h (zQv zS0 K)
  refine r_aload_n (pc := 0) (a := 28) dX2_measure_0 rfl ?_
  refine r_getR (pc := 1) (b := 29) fl_X2_9 dX2_measure_1 s0_28 rfl ?_
  refine r_bipush (pc := 4) (x := (-4)) dX2_measure_4 (by decide) ?_
  refine r_callS (μ2 := mJ7_fill_53178) (pc := 6) (as := [.ref 29, .int (zI (-4))]) (st := []) ml_X2_18 sm_J7_fill_53178 okJ7_fill_53178 ⟨by decide, by decide⟩ dX2_measure_6 (Nat.le_of_ble_eq_true rfl) rfl (Nat.le_of_ble_eq_true rfl) (by decide) (by decide) (zCC.mono w ?_)
  rintro r S' h1 ⟨rfl, hr, w⟩
  subst hr
  show RR mX2_measure 0 0 9 [some (.ref 28), some (.ref 10), some (.int (zI v2)), none, none, none, none] [] zS0 h1 (zQv zS0 K)
  refine r_aload_n (pc := 9) (a := 10) dX2_measure_9 rfl ?_
  refine r_iload_n (pc := 10) (x := v2) dX2_measure_10 rfl ?_
  refine r_callV (μ2 := mX3_isOpen) (pc := 11) (as := [.int (zI v2)]) (st := []) rfl s0_10 ml_X2_24 im_X3_isOpen se_X3_isOpen okX3_isOpen ⟨by decide, by decide⟩ dX2_measure_11 (Nat.le_of_ble_eq_true rfl) rfl (Nat.le_of_ble_eq_true rfl) (by decide) (by decide) (zCC.mono w ?_)
  rintro r S' h2 ⟨rfl, b2, hr, w⟩
  subst hr
  show RR mX2_measure 0 0 14 [some (.ref 28), some (.ref 10), some (.int (zI v2)), none, none, none, none] [.int (zI (bI b2))] zS0 h2 (zQv zS0 K)
  refine r_if_ne (pc := 14) (x := (bI b2)) (tgt := 18) dX2_measure_14 (by decide) (bI_R _) (fun c => ?_) (fun c => ?_)
  · have w := w.1 (bI_n.mp c)
    refine r_aload_n (pc := 18) (a := 28) dX2_measure_18 rfl ?_
    refine r_getR (pc := 19) (b := 29) fl_X2_9 dX2_measure_19 s0_28 rfl ?_
    refine r_iload_n (pc := 22) (x := v2) dX2_measure_22 rfl ?_
    refine r_iconst (pc := 23) dX2_measure_23 ?_
    obtain ⟨hb3, w⟩ := w
    refine r_iast (pc := 24) (i := v2) (x := 0) dX2_measure_24 s0_29 ⟨hb3.1, hb3.2, (by decide)⟩  ?_
    refine r_aload_n (pc := 25) (a := 28) dX2_measure_25 rfl ?_
    refine r_getR (pc := 26) (b := 30) fl_X2_15 dX2_measure_26 s0_28 rfl ?_
    refine r_iconst (pc := 29) dX2_measure_29 ?_
    refine r_iload_n (pc := 30) (x := v2) dX2_measure_30 rfl ?_
    refine r_iast (pc := 31) (i := 0) (x := v2) dX2_measure_31 s0_30 (by decide)  ?_
    refine r_iconst (pc := 32) dX2_measure_32 ?_
    refine r_istore_n (pc := 33) (L' := [some (.ref 28), some (.ref 10), some (.int (zI v2)), some (.int (zI 1)), none, none, none]) dX2_measure_33 (by decide) rfl ?_
    refine r_iconst (pc := 34) dX2_measure_34 ?_
    refine r_istore (pc := 35) (L' := [some (.ref 28), some (.ref 10), some (.int (zI v2)), some (.int (zI 1)), some (.int (zI 0)), none, none]) dX2_measure_35 (by decide) rfl ?_
    exact RR.sub (L' := [some (.ref 28), some (.ref 10), none, some (.int (zI 1)), some (.int (zI 0)), none, none]) (zSb_of (⟨rfl, ⟨rfl, ⟨rfl, ⟨rfl, trivial⟩⟩⟩⟩)) w
  · have w := w.2 (bI_0.mp c)
    exact r_ret (st := []) (pc := 17) dX2_measure_17 rfl rfl (by decide) ⟨rfl, rfl, w⟩

set_option maxRecDepth 100000 in
set_option maxHeartbeats 4000000 in
theorem bX2_measure_37 {h : zMm} {K : zMm → Prop} {v3 : Int} {v4 : Int} (w : (zR v4 ∧ (zR v3 ∧ ((v3 ≤ v4 → K h) ∧ (¬ v3 ≤ v4 → ((36 ≤ v4 → K h) ∧ (¬ 36 ≤ v4 → RR mX2_measure 0 0 53 [some (.ref 28), some (.ref 10), none, some (.int (zI v3)), some (.int (zI v4)), some (.int (zI 0)), none] [] zS0 h (zQv zS0 K)))))))) : RR mX2_measure 0 0 37 [some (.ref 28), some (.ref 10), none, some (.int (zI v3)), some (.int (zI v4)), none, none] [] zS0 h (zQv zS0 K) := by
  refine r_iload (pc := 37) (x := v4) dX2_measure_37 rfl ?_
  refine r_iload_n (pc := 39) (x := v3) dX2_measure_39 rfl ?_
  obtain ⟨hr4, w⟩ := w
  obtain ⟨hr5, w⟩ := w
  refine r_icmp_ge (pc := 40) (x := v4) (y := v3) (tgt := 139) dX2_measure_40 (by decide) hr4 hr5 (fun c => ?_) (fun c => ?_)
  · have w := w.1 (c)
    exact r_ret (st := []) (pc := 139) dX2_measure_139 rfl rfl (by decide) ⟨rfl, rfl, w⟩
  · have w := w.2 (c)
    refine r_iload (pc := 43) (x := v4) dX2_measure_43 rfl ?_
    refine r_bipush (pc := 45) (x := 36) dX2_measure_45 (by decide) ?_
    refine r_icmp_ge (pc := 47) (x := v4) (y := 36) (tgt := 139) dX2_measure_47 (by decide) hr4 (by decide) (fun c => ?_) (fun c => ?_)
    · have w := w.1 (c)
      exact r_ret (st := []) (pc := 139) dX2_measure_139 rfl rfl (by decide) ⟨rfl, rfl, w⟩
    · have w := w.2 (c)
      refine r_iconst (pc := 50) dX2_measure_50 ?_
      refine r_istore (pc := 51) (L' := [some (.ref 28), some (.ref 10), none, some (.int (zI v3)), some (.int (zI v4)), some (.int (zI 0)), none]) dX2_measure_51 (by decide) rfl ?_
      exact w

set_option maxRecDepth 100000 in
set_option maxHeartbeats 4000000 in
theorem bX2_measure_53 {h : zMm} {K : zMm → Prop} {v3 : Int} {v4 : Int} {v5 : Int} (w : (zR v5 ∧ ((4 ≤ v5 → RR mX2_measure 0 0 37 [some (.ref 28), some (.ref 10), none, some (.int (zI v3)), some (.int (zI (v4 + 1))), none, none] [] zS0 h (zQv zS0 K)) ∧ (¬ 4 ≤ v5 → ((0 ≤ v4 ∧ v4 < 36) ∧ zCi mX3_ahead [.ref 10, .int (zI (h 30 v4)), .int (zI v5)] zS0 h (fun x9 h9 => (zR x9 ∧ ((x9 < 0 → RR mX2_measure 0 0 53 [some (.ref 28), some (.ref 10), none, some (.int (zI v3)), some (.int (zI v4)), some (.int (zI (v5 + 1))), none] [] zS0 h9 (zQv zS0 K)) ∧ (¬ x9 < 0 → ((0 ≤ x9 ∧ x9 < 36) ∧ (zR (h9 29 x9) ∧ (zR v3 ∧ ((0 ≤ (h9 29 x9) → RR mX2_measure 0 0 53 [some (.ref 28), some (.ref 10), none, some (.int (zI v3)), some (.int (zI v4)), some (.int (zI (v5 + 1))), none] [] zS0 h9 (zQv zS0 K)) ∧ (¬ 0 ≤ (h9 29 x9) → ((36 ≤ v3 → RR mX2_measure 0 0 53 [some (.ref 28), some (.ref 10), none, some (.int (zI v3)), some (.int (zI v4)), some (.int (zI (v5 + 1))), none] [] zS0 h9 (zQv zS0 K)) ∧ (¬ 36 ≤ v3 → ((0 ≤ (h9 30 v4) ∧ (h9 30 v4) < 36) ∧ ((0 ≤ v3 ∧ v3 < 36) ∧ RR mX2_measure 0 0 53 [some (.ref 28), some (.ref 10), none, some (.int (zI (v3 + 1))), some (.int (zI v4)), some (.int (zI (v5 + 1))), none] [] zS0 (zU (zU h9 29 x9 ((h9 29 (h9 30 v4)) + 1)) 30 v3 x9) (zQv zS0 K))))))))))))))))))) : RR mX2_measure 0 0 53 [some (.ref 28), some (.ref 10), none, some (.int (zI v3)), some (.int (zI v4)), some (.int (zI v5)), none] [] zS0 h (zQv zS0 K) := by
  refine r_iload (pc := 53) (x := v5) dX2_measure_53 rfl ?_
  refine r_iconst (pc := 55) dX2_measure_55 ?_
  obtain ⟨hr7, w⟩ := w
  refine r_icmp_ge (pc := 56) (x := v5) (y := 4) (tgt := 133) dX2_measure_56 (by decide) hr7 (by decide) (fun c => ?_) (fun c => ?_)
  · have w := w.1 (c)
    refine r_iinc (pc := 133) (x := v4) (L' := [some (.ref 28), some (.ref 10), none, some (.int (zI v3)), some (.int (zI (v4 + 1))), some (.int (zI v5)), none]) dX2_measure_133 rfl (by decide) rfl ?_
    refine r_goto (pc := 136) (tgt := 37) dX2_measure_136 (by decide) ?_
    exact RR.sub (L' := [some (.ref 28), some (.ref 10), none, some (.int (zI v3)), some (.int (zI (v4 + 1))), none, none]) (zSb_of (⟨rfl, ⟨rfl, ⟨rfl, ⟨rfl, trivial⟩⟩⟩⟩)) w
  · have w := w.2 (c)
    refine r_aload_n (pc := 59) (a := 10) dX2_measure_59 rfl ?_
    refine r_aload_n (pc := 60) (a := 28) dX2_measure_60 rfl ?_
    refine r_getR (pc := 61) (b := 30) fl_X2_15 dX2_measure_61 s0_28 rfl ?_
    refine r_iload (pc := 64) (x := v4) dX2_measure_64 rfl ?_
    obtain ⟨hb8, w⟩ := w
    refine r_iald (pc := 66) (i := v4) (x := (h 30 v4)) dX2_measure_66 s0_30 ⟨hb8.1, hb8.2, (by decide)⟩ (rfl) ?_
    refine r_iload (pc := 67) (x := v5) dX2_measure_67 rfl ?_
    refine r_callV (μ2 := mX3_ahead) (pc := 69) (as := [.int (zI (h 30 v4)), .int (zI v5)]) (st := []) rfl s0_10 ml_X2_30 im_X3_ahead se_X3_ahead okX3_ahead ⟨by decide, by decide⟩ dX2_measure_69 (Nat.le_of_ble_eq_true rfl) rfl (Nat.le_of_ble_eq_true rfl) (by decide) (by decide) (zCC.mono w ?_)
    rintro r S' h9 ⟨rfl, x9, hr, w⟩
    subst hr
    show RR mX2_measure 0 0 72 [some (.ref 28), some (.ref 10), none, some (.int (zI v3)), some (.int (zI v4)), some (.int (zI v5)), none] [.int (zI x9)] zS0 h9 (zQv zS0 K)
    refine r_istore (pc := 72) (L' := [some (.ref 28), some (.ref 10), none, some (.int (zI v3)), some (.int (zI v4)), some (.int (zI v5)), some (.int (zI x9))]) dX2_measure_72 (by decide) rfl ?_
    refine r_iload (pc := 74) (x := x9) dX2_measure_74 rfl ?_
    obtain ⟨hr10, w⟩ := w
    refine r_if_lt (pc := 76) (x := x9) (tgt := 127) dX2_measure_76 (by decide) hr10 (fun c => ?_) (fun c => ?_)
    · have w := w.1 (c)
      refine r_iinc (pc := 127) (x := v5) (L' := [some (.ref 28), some (.ref 10), none, some (.int (zI v3)), some (.int (zI v4)), some (.int (zI (v5 + 1))), some (.int (zI x9))]) dX2_measure_127 rfl (by decide) rfl ?_
      refine r_goto (pc := 130) (tgt := 53) dX2_measure_130 (by decide) ?_
      exact RR.sub (L' := [some (.ref 28), some (.ref 10), none, some (.int (zI v3)), some (.int (zI v4)), some (.int (zI (v5 + 1))), none]) (zSb_of (⟨rfl, ⟨rfl, ⟨rfl, ⟨rfl, ⟨rfl, trivial⟩⟩⟩⟩⟩)) w
    · have w := w.2 (c)
      refine r_aload_n (pc := 79) (a := 28) dX2_measure_79 rfl ?_
      refine r_getR (pc := 80) (b := 29) fl_X2_9 dX2_measure_80 s0_28 rfl ?_
      refine r_iload (pc := 83) (x := x9) dX2_measure_83 rfl ?_
      obtain ⟨hb11, w⟩ := w
      refine r_iald (pc := 85) (i := x9) (x := (h9 29 x9)) dX2_measure_85 s0_29 ⟨hb11.1, hb11.2, (by decide)⟩ (rfl) ?_
      obtain ⟨hr12, w⟩ := w
      obtain ⟨hr14, w⟩ := w
      refine r_if_ge (pc := 86) (x := (h9 29 x9)) (tgt := 127) dX2_measure_86 (by decide) hr12 (fun c => ?_) (fun c => ?_)
      · have w := w.1 (c)
        refine r_iinc (pc := 127) (x := v5) (L' := [some (.ref 28), some (.ref 10), none, some (.int (zI v3)), some (.int (zI v4)), some (.int (zI (v5 + 1))), some (.int (zI x9))]) dX2_measure_127 rfl (by decide) rfl ?_
        refine r_goto (pc := 130) (tgt := 53) dX2_measure_130 (by decide) ?_
        exact RR.sub (L' := [some (.ref 28), some (.ref 10), none, some (.int (zI v3)), some (.int (zI v4)), some (.int (zI (v5 + 1))), none]) (zSb_of (⟨rfl, ⟨rfl, ⟨rfl, ⟨rfl, ⟨rfl, trivial⟩⟩⟩⟩⟩)) w
      · have w := w.2 (c)
        refine r_iload_n (pc := 89) (x := v3) dX2_measure_89 rfl ?_
        refine r_bipush (pc := 90) (x := 36) dX2_measure_90 (by decide) ?_
        refine r_icmp_ge (pc := 92) (x := v3) (y := 36) (tgt := 127) dX2_measure_92 (by decide) hr14 (by decide) (fun c => ?_) (fun c => ?_)
        · have w := w.1 (c)
          refine r_iinc (pc := 127) (x := v5) (L' := [some (.ref 28), some (.ref 10), none, some (.int (zI v3)), some (.int (zI v4)), some (.int (zI (v5 + 1))), some (.int (zI x9))]) dX2_measure_127 rfl (by decide) rfl ?_
          refine r_goto (pc := 130) (tgt := 53) dX2_measure_130 (by decide) ?_
          exact RR.sub (L' := [some (.ref 28), some (.ref 10), none, some (.int (zI v3)), some (.int (zI v4)), some (.int (zI (v5 + 1))), none]) (zSb_of (⟨rfl, ⟨rfl, ⟨rfl, ⟨rfl, ⟨rfl, trivial⟩⟩⟩⟩⟩)) w
        · have w := w.2 (c)
          refine r_aload_n (pc := 95) (a := 28) dX2_measure_95 rfl ?_
          refine r_getR (pc := 96) (b := 29) fl_X2_9 dX2_measure_96 s0_28 rfl ?_
          refine r_iload (pc := 99) (x := x9) dX2_measure_99 rfl ?_
          refine r_aload_n (pc := 101) (a := 28) dX2_measure_101 rfl ?_
          refine r_getR (pc := 102) (b := 29) fl_X2_9 dX2_measure_102 s0_28 rfl ?_
          refine r_aload_n (pc := 105) (a := 28) dX2_measure_105 rfl ?_
          refine r_getR (pc := 106) (b := 30) fl_X2_15 dX2_measure_106 s0_28 rfl ?_
          refine r_iload (pc := 109) (x := v4) dX2_measure_109 rfl ?_
          refine r_iald (pc := 111) (i := v4) (x := (h9 30 v4)) dX2_measure_111 s0_30 ⟨by omega, by omega, (by decide)⟩ (rfl) ?_
          obtain ⟨hb16, w⟩ := w
          refine r_iald (pc := 112) (i := (h9 30 v4)) (x := (h9 29 (h9 30 v4))) dX2_measure_112 s0_29 ⟨hb16.1, hb16.2, (by decide)⟩ (rfl) ?_
          refine r_iconst (pc := 113) dX2_measure_113 ?_
          refine r_iadd (pc := 114) (x := (h9 29 (h9 30 v4))) (y := 1) dX2_measure_114 ?_
          refine r_iast (pc := 115) (i := x9) (x := ((h9 29 (h9 30 v4)) + 1)) dX2_measure_115 s0_29 ⟨by omega, by omega, (by decide)⟩  ?_
          refine r_aload_n (pc := 116) (a := 28) dX2_measure_116 rfl ?_
          refine r_getR (pc := 117) (b := 30) fl_X2_15 dX2_measure_117 s0_28 rfl ?_
          refine r_iload_n (pc := 120) (x := v3) dX2_measure_120 rfl ?_
          refine r_iload (pc := 121) (x := x9) dX2_measure_121 rfl ?_
          obtain ⟨hb17, w⟩ := w
          refine r_iast (pc := 123) (i := v3) (x := x9) dX2_measure_123 s0_30 ⟨hb17.1, hb17.2, (by decide)⟩  ?_
          refine r_iinc (pc := 124) (x := v3) (L' := [some (.ref 28), some (.ref 10), none, some (.int (zI (v3 + 1))), some (.int (zI v4)), some (.int (zI v5)), some (.int (zI x9))]) dX2_measure_124 rfl (by decide) rfl ?_
          refine r_iinc (pc := 127) (x := v5) (L' := [some (.ref 28), some (.ref 10), none, some (.int (zI (v3 + 1))), some (.int (zI v4)), some (.int (zI (v5 + 1))), some (.int (zI x9))]) dX2_measure_127 rfl (by decide) rfl ?_
          refine r_goto (pc := 130) (tgt := 53) dX2_measure_130 (by decide) ?_
          exact RR.sub (L' := [some (.ref 28), some (.ref 10), none, some (.int (zI (v3 + 1))), some (.int (zI v4)), some (.int (zI (v5 + 1))), none]) (zSb_of (⟨rfl, ⟨rfl, ⟨rfl, ⟨rfl, ⟨rfl, trivial⟩⟩⟩⟩⟩)) w

set_option maxRecDepth 100000 in
set_option maxHeartbeats 4000000 in
theorem wX2_toFarthestGrass {h : zMm} {K : Int → zMm → Prop} {v2 : Int} (w : zCv mX2_measure [.ref 28, .ref 10, .int (zI v2)] zS0 h (fun h1 => RR mX2_toFarthestGrass 0 0 12 [some (.ref 28), some (.ref 10), none, some (.int (zI (-4))), some (.int (zI 0))] [] zS0 h1 (zQi zS0 K))) : zCi mX2_toFarthestGrass [.ref 28, .ref 10, .int (zI v2)] zS0 h K := by
  show RR mX2_toFarthestGrass 0 0 0 [some (.ref 28), some (.ref 10), some (.int (zI v2)), none, none] [] zS0 h (zQi zS0 K)
  refine r_aload_n (pc := 0) (a := 28) dX2_toFarthestGrass_0 rfl ?_
  refine r_aload_n (pc := 1) (a := 10) dX2_toFarthestGrass_1 rfl ?_
  refine r_iload_n (pc := 2) (x := v2) dX2_toFarthestGrass_2 rfl ?_
  refine r_callV (μ2 := mX2_measure) (pc := 3) (as := [.ref 10, .int (zI v2)]) (st := []) rfl s0_28 ml_X2_34 im_X2_measure se_X2_measure okX2_measure ⟨by decide, by decide⟩ dX2_toFarthestGrass_3 (Nat.le_of_ble_eq_true rfl) rfl (Nat.le_of_ble_eq_true rfl) (by decide) (by decide) (zCC.mono w ?_)
  rintro r S' h1 ⟨rfl, hr, w⟩
  subst hr
  show RR mX2_toFarthestGrass 0 0 6 [some (.ref 28), some (.ref 10), some (.int (zI v2)), none, none] [] zS0 h1 (zQi zS0 K)
  refine r_bipush (pc := 6) (x := (-4)) dX2_toFarthestGrass_6 (by decide) ?_
  refine r_istore_n (pc := 8) (L' := [some (.ref 28), some (.ref 10), some (.int (zI v2)), some (.int (zI (-4))), none]) dX2_toFarthestGrass_8 (by decide) rfl ?_
  refine r_iconst (pc := 9) dX2_toFarthestGrass_9 ?_
  refine r_istore (pc := 10) (L' := [some (.ref 28), some (.ref 10), some (.int (zI v2)), some (.int (zI (-4))), some (.int (zI 0))]) dX2_toFarthestGrass_10 (by decide) rfl ?_
  exact RR.sub (L' := [some (.ref 28), some (.ref 10), none, some (.int (zI (-4))), some (.int (zI 0))]) (zSb_of (⟨rfl, ⟨rfl, ⟨rfl, ⟨rfl, trivial⟩⟩⟩⟩)) w

set_option maxRecDepth 100000 in
set_option maxHeartbeats 4000000 in
theorem bX2_toFarthestGrass_12 {h : zMm} {K : Int → zMm → Prop} {v3 : Int} {v4 : Int} (w : (zR v4 ∧ ((36 ≤ v4 → K v3 h) ∧ (¬ 36 ≤ v4 → zCb mX3_isGrass [.ref 10, .int (zI v4)] zS0 h (fun b3 h3 => ((b3 = false → RR mX2_toFarthestGrass 0 0 12 [some (.ref 28), some (.ref 10), none, some (.int (zI v3)), some (.int (zI (v4 + 1)))] [] zS0 h3 (zQi zS0 K)) ∧ (b3 = true → ((0 ≤ v4 ∧ v4 < 36) ∧ (zR (h3 29 v4) ∧ ((0 ≤ (h3 29 v4) → (zR v3 ∧ RR mX2_toFarthestGrass 0 0 12 [some (.ref 28), some (.ref 10), none, some (.int (zI (max v3 (h3 29 v4)))), some (.int (zI (v4 + 1)))] [] zS0 h3 (zQi zS0 K))) ∧ (¬ 0 ≤ (h3 29 v4) → K (-4) h3))))))))))) : RR mX2_toFarthestGrass 0 0 12 [some (.ref 28), some (.ref 10), none, some (.int (zI v3)), some (.int (zI v4))] [] zS0 h (zQi zS0 K) := by
  refine r_iload (pc := 12) (x := v4) dX2_toFarthestGrass_12 rfl ?_
  refine r_bipush (pc := 14) (x := 36) dX2_toFarthestGrass_14 (by decide) ?_
  obtain ⟨hr2, w⟩ := w
  refine r_icmp_ge (pc := 16) (x := v4) (y := 36) (tgt := 59) dX2_toFarthestGrass_16 (by decide) hr2 (by decide) (fun c => ?_) (fun c => ?_)
  · have w := w.1 (c)
    refine r_iload_n (pc := 59) (x := v3) dX2_toFarthestGrass_59 rfl ?_
    exact r_iret (st := []) (pc := 60) (x := v3) (ty := .int) dX2_toFarthestGrass_60 rfl rfl rfl (by decide) ⟨rfl, _, rfl, w⟩
  · have w := w.2 (c)
    refine r_aload_n (pc := 19) (a := 10) dX2_toFarthestGrass_19 rfl ?_
    refine r_iload (pc := 20) (x := v4) dX2_toFarthestGrass_20 rfl ?_
    refine r_callV (μ2 := mX3_isGrass) (pc := 22) (as := [.int (zI v4)]) (st := []) rfl s0_10 ml_X2_38 im_X3_isGrass se_X3_isGrass okX3_isGrass ⟨by decide, by decide⟩ dX2_toFarthestGrass_22 (Nat.le_of_ble_eq_true rfl) rfl (Nat.le_of_ble_eq_true rfl) (by decide) (by decide) (zCC.mono w ?_)
    rintro r S' h3 ⟨rfl, b3, hr, w⟩
    subst hr
    show RR mX2_toFarthestGrass 0 0 25 [some (.ref 28), some (.ref 10), none, some (.int (zI v3)), some (.int (zI v4))] [.int (zI (bI b3))] zS0 h3 (zQi zS0 K)
    refine r_if_eq (pc := 25) (x := (bI b3)) (tgt := 53) dX2_toFarthestGrass_25 (by decide) (bI_R _) (fun c => ?_) (fun c => ?_)
    · have w := w.1 (bI_0.mp c)
      refine r_iinc (pc := 53) (x := v4) (L' := [some (.ref 28), some (.ref 10), none, some (.int (zI v3)), some (.int (zI (v4 + 1)))]) dX2_toFarthestGrass_53 rfl (by decide) rfl ?_
      refine r_goto (pc := 56) (tgt := 12) dX2_toFarthestGrass_56 (by decide) ?_
      exact w
    · have w := w.2 (bI_n.mp c)
      refine r_aload_n (pc := 28) (a := 28) dX2_toFarthestGrass_28 rfl ?_
      refine r_getR (pc := 29) (b := 29) fl_X2_9 dX2_toFarthestGrass_29 s0_28 rfl ?_
      refine r_iload (pc := 32) (x := v4) dX2_toFarthestGrass_32 rfl ?_
      obtain ⟨hb4, w⟩ := w
      refine r_iald (pc := 34) (i := v4) (x := (h3 29 v4)) dX2_toFarthestGrass_34 s0_29 ⟨hb4.1, hb4.2, (by decide)⟩ (rfl) ?_
      obtain ⟨hr5, w⟩ := w
      refine r_if_ge (pc := 35) (x := (h3 29 v4)) (tgt := 41) dX2_toFarthestGrass_35 (by decide) hr5 (fun c => ?_) (fun c => ?_)
      · have w := w.1 (c)
        refine r_iload_n (pc := 41) (x := v3) dX2_toFarthestGrass_41 rfl ?_
        refine r_aload_n (pc := 42) (a := 28) dX2_toFarthestGrass_42 rfl ?_
        refine r_getR (pc := 43) (b := 29) fl_X2_9 dX2_toFarthestGrass_43 s0_28 rfl ?_
        refine r_iload (pc := 46) (x := v4) dX2_toFarthestGrass_46 rfl ?_
        refine r_iald (pc := 48) (i := v4) (x := (h3 29 v4)) dX2_toFarthestGrass_48 s0_29 ⟨by omega, by omega, (by decide)⟩ (rfl) ?_
        obtain ⟨hr6, w⟩ := w
        refine r_max (pc := 49) (x := v3) (y := (h3 29 v4)) ml_X2_41 mm_max_s it_J9 mm_max_c dX2_toFarthestGrass_49 (by decide) (by decide) (by decide) (by decide) hr6 hr5 ?_
        refine r_istore_n (pc := 52) (L' := [some (.ref 28), some (.ref 10), none, some (.int (zI (max v3 (h3 29 v4)))), some (.int (zI v4))]) dX2_toFarthestGrass_52 (by decide) rfl ?_
        refine r_iinc (pc := 53) (x := v4) (L' := [some (.ref 28), some (.ref 10), none, some (.int (zI (max v3 (h3 29 v4)))), some (.int (zI (v4 + 1)))]) dX2_toFarthestGrass_53 rfl (by decide) rfl ?_
        refine r_goto (pc := 56) (tgt := 12) dX2_toFarthestGrass_56 (by decide) ?_
        exact w
      · have w := w.2 (c)
        refine r_bipush (pc := 38) (x := (-4)) dX2_toFarthestGrass_38 (by decide) ?_
        exact r_iret (st := []) (pc := 40) (x := (-4)) (ty := .int) dX2_toFarthestGrass_40 rfl rfl rfl (by decide) ⟨rfl, _, rfl, w⟩
