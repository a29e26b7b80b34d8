set_option maxRecDepth 100000 in
set_option maxHeartbeats 4000000 in
theorem wX12_least {h : zMm} {K : Int → zMm → Prop} {v1 : Int} (w : zCv mX12_awake [.ref 81] zS0 h (fun h1 => (zR v1 ∧ zCb mX12_in [.long (zJ v1), .long (zJ 0), .long (zJ 2)] zS0 h1 (fun b3 h3 => ((b3 = true → zCi mX12_hinders [.ref 81] zS0 h3 (fun x4 h4 => (zR x4 ∧ ((x4 = 0 → ((0 ≤ (h4 88 0) ∧ (h4 88 0) < 36) ∧ ((0 ≤ ((144 * (h4 98 (h4 88 0))) + (4 * (h4 88 0))) ∧ ((144 * (h4 98 (h4 88 0))) + (4 * (h4 88 0))) < 18432) ∧ zCv mX12_layWay [.ref 81] zS0 h4 (fun h8 => (zR (v1 - 10) ∧ (zR (h8 81 36) ∧ ((¬ v1 = 0 → ((¬ v1 = 1 → ((¬ v1 = 2 → (((h8 81 36) ≤ (v1 - 10) → K (-1) h8) ∧ (¬ (h8 81 36) ≤ (v1 - 10) → ((0 ≤ (v1 - 10) ∧ (v1 - 10) < 1000) ∧ K (h8 100 (v1 - 10)) h8)))) ∧ (v1 = 2 → K (h8 81 37) h8))) ∧ (v1 = 1 → K (h8 81 36) h8))) ∧ (v1 = 0 → K (h4 99 ((144 * (h4 98 (h4 88 0))) + (4 * (h4 88 0)))) h8)))))))) ∧ (¬ x4 = 0 → K x4 h4))))) ∧ (b3 = false → ((10 ≤ v1 → zCi mX12_hinders [.ref 81] zS0 h3 (fun x24 h24 => (zR x24 ∧ ((x24 = 0 → ((0 ≤ (h24 88 0) ∧ (h24 88 0) < 36) ∧ ((0 ≤ ((144 * (h24 98 (h24 88 0))) + (4 * (h24 88 0))) ∧ ((144 * (h24 98 (h24 88 0))) + (4 * (h24 88 0))) < 18432) ∧ zCv mX12_layWay [.ref 81] zS0 h24 (fun h28 => (zR (v1 - 10) ∧ (zR (h28 81 36) ∧ ((¬ v1 = 0 → ((¬ v1 = 1 → ((¬ v1 = 2 → (((h28 81 36) ≤ (v1 - 10) → K (-1) h28) ∧ (¬ (h28 81 36) ≤ (v1 - 10) → ((0 ≤ (v1 - 10) ∧ (v1 - 10) < 1000) ∧ K (h28 100 (v1 - 10)) h28)))) ∧ (v1 = 2 → K (h28 81 37) h28))) ∧ (v1 = 1 → K (h28 81 36) h28))) ∧ (v1 = 0 → K (h24 99 ((144 * (h24 98 (h24 88 0))) + (4 * (h24 88 0)))) h28)))))))) ∧ (¬ x24 = 0 → K x24 h24))))) ∧ (¬ 10 ≤ v1 → K (-1) h3)))))))) : zCi mX12_least [.ref 81, .int (zI v1)] zS0 h K := by
  show RR mX12_least 0 0 0 [some (.ref 81), some (.int (zI v1)), none, none] [] zS0 h (zQi zS0 K)
  refine r_aload_n (pc := 0) (a := 81) dX12_least_0 rfl ?_
  refine r_callV (μ2 := mX12_awake) (pc := 1) (as := []) (st := []) rfl s0_81 ml_X12_175 im_X12_awake se_X12_awake okX12_awake ⟨by decide, by decide⟩ dX12_least_1 (Nat.le_of_ble_eq_true rfl) rfl (Nat.le_of_ble_eq_true rfl) (by decide) (by decide) (zCC.mono w ?_)
  rintro r S' h1 ⟨rfl, hr, w⟩
  subst hr
  show RR mX12_least 0 0 4 [some (.ref 81), some (.int (zI v1)), none, none] [] zS0 h1 (zQi zS0 K)
  refine r_iload_n (pc := 4) (x := v1) dX12_least_4 rfl ?_
  obtain ⟨hr2, w⟩ := w
  refine r_i2l (pc := 5) (x := v1) dX12_least_5 hr2 ?_
  refine r_lconst (pc := 6) (x := 0) dX12_least_6 rfl ?_
  refine r_ldcL (pc := 7) (x := 2) dX12_least_7 kl_X12_268 ?_
  refine r_callS (μ2 := mX12_in) (pc := 10) (as := [.long (zJ v1), .long (zJ 0), .long (zJ 2)]) (st := []) ml_X12_94 sm_X12_in okX12_in ⟨by decide, by decide⟩ dX12_least_10 (Nat.le_of_ble_eq_true rfl) rfl (Nat.le_of_ble_eq_true rfl) (by decide) (by decide) (zCC.mono w ?_)
  rintro r S' h3 ⟨rfl, b3, hr, w⟩
  subst hr
  show RR mX12_least 0 0 13 [some (.ref 81), some (.int (zI v1)), none, none] [.int (zI (bI b3))] zS0 h3 (zQi zS0 K)
  refine r_if_ne (pc := 13) (x := (bI b3)) (tgt := 24) dX12_least_13 (by decide) (bI_R _) (fun c => ?_) (fun c => ?_)
  · have w := w.1 (bI_n.mp c)
    refine r_aload_n (pc := 24) (a := 81) dX12_least_24 rfl ?_
    refine r_callV (μ2 := mX12_hinders) (pc := 25) (as := []) (st := []) rfl s0_81 ml_X12_270 im_X12_hinders se_X12_hinders okX12_hinders ⟨by decide, by decide⟩ dX12_least_25 (Nat.le_of_ble_eq_true rfl) rfl (Nat.le_of_ble_eq_true rfl) (by decide) (by decide) (zCC.mono w ?_)
    rintro r S' h4 ⟨rfl, x4, hr, w⟩
    subst hr
    show RR mX12_least 0 0 28 [some (.ref 81), some (.int (zI v1)), none, none] [.int (zI x4)] zS0 h4 (zQi zS0 K)
    refine r_istore_n (pc := 28) (L' := [some (.ref 81), some (.int (zI v1)), some (.int (zI x4)), none]) dX12_least_28 (by decide) rfl ?_
    refine r_iload_n (pc := 29) (x := x4) dX12_least_29 rfl ?_
    obtain ⟨hr5, w⟩ := w
    refine r_if_eq (pc := 30) (x := x4) (tgt := 35) dX12_least_30 (by decide) hr5 (fun c => ?_) (fun c => ?_)
    · have w := w.1 (c)
      refine r_aload_n (pc := 35) (a := 81) dX12_least_35 rfl ?_
      refine r_getR (pc := 36) (b := 99) fl_X12_61 dX12_least_36 s0_81 rfl ?_
      refine r_sipush (pc := 39) (x := 144) dX12_least_39 (by decide) ?_
      refine r_aload_n (pc := 42) (a := 81) dX12_least_42 rfl ?_
      refine r_getR (pc := 43) (b := 98) fl_X12_58 dX12_least_43 s0_81 rfl ?_
      refine r_aload_n (pc := 46) (a := 81) dX12_least_46 rfl ?_
      refine r_getR (pc := 47) (b := 88) fl_X12_28 dX12_least_47 s0_81 rfl ?_
      refine r_iconst (pc := 50) dX12_least_50 ?_
      refine r_iald (pc := 51) (i := 0) (x := (h4 88 0)) dX12_least_51 s0_88 (by decide) (rfl) ?_
      obtain ⟨hb6, w⟩ := w
      refine r_iald (pc := 52) (i := (h4 88 0)) (x := (h4 98 (h4 88 0))) dX12_least_52 s0_98 ⟨hb6.1, hb6.2, (by decide)⟩ (rfl) ?_
      refine r_imul (pc := 53) (x := 144) (y := (h4 98 (h4 88 0))) dX12_least_53 ?_
      refine r_iconst (pc := 54) dX12_least_54 ?_
      refine r_aload_n (pc := 55) (a := 81) dX12_least_55 rfl ?_
      refine r_getR (pc := 56) (b := 88) fl_X12_28 dX12_least_56 s0_81 rfl ?_
      refine r_iconst (pc := 59) dX12_least_59 ?_
      refine r_iald (pc := 60) (i := 0) (x := (h4 88 0)) dX12_least_60 s0_88 (by decide) (rfl) ?_
      refine r_imul (pc := 61) (x := 4) (y := (h4 88 0)) dX12_least_61 ?_
      refine r_iadd (pc := 62) (x := (144 * (h4 98 (h4 88 0)))) (y := (4 * (h4 88 0))) dX12_least_62 ?_
      obtain ⟨hb7, w⟩ := w
      refine r_iald (pc := 63) (i := ((144 * (h4 98 (h4 88 0))) + (4 * (h4 88 0)))) (x := (h4 99 ((144 * (h4 98 (h4 88 0))) + (4 * (h4 88 0))))) dX12_least_63 s0_99 ⟨hb7.1, hb7.2, (by decide)⟩ (rfl) ?_
      refine r_istore_n (pc := 64) (L' := [some (.ref 81), some (.int (zI v1)), some (.int (zI x4)), some (.int (zI (h4 99 ((144 * (h4 98 (h4 88 0))) + (4 * (h4 88 0))))))]) dX12_least_64 (by decide) rfl ?_
      refine r_aload_n (pc := 65) (a := 81) dX12_least_65 rfl ?_
      refine r_callV (μ2 := mX12_layWay) (pc := 66) (as := []) (st := []) rfl s0_81 ml_X12_273 im_X12_layWay se_X12_layWay okX12_layWay ⟨by decide, by decide⟩ dX12_least_66 (Nat.le_of_ble_eq_true rfl) rfl (Nat.le_of_ble_eq_true rfl) (by decide) (by decide) (zCC.mono w ?_)
      rintro r S' h8 ⟨rfl, hr, w⟩
      subst hr
      show RR mX12_least 0 0 69 [some (.ref 81), some (.int (zI v1)), some (.int (zI x4)), some (.int (zI (h4 99 ((144 * (h4 98 (h4 88 0))) + (4 * (h4 88 0))))))] [] zS0 h8 (zQi zS0 K)
      refine r_iload_n (pc := 69) (x := v1) dX12_least_69 rfl ?_
      obtain ⟨hr12, w⟩ := w
      obtain ⟨hr16, w⟩ := w
      refine r_if_ne (pc := 70) (x := v1) (tgt := 77) dX12_least_70 (by decide) hr2 (fun c => ?_) (fun c => ?_)
      · have w := w.1 (c)
        refine r_iload_n (pc := 77) (x := v1) dX12_least_77 rfl ?_
        refine r_iconst (pc := 78) dX12_least_78 ?_
        refine r_icmp_ne (pc := 79) (x := v1) (y := 1) (tgt := 89) dX12_least_79 (by decide) hr2 (by decide) (fun c => ?_) (fun c => ?_)
        · have w := w.1 (c)
          refine r_iload_n (pc := 89) (x := v1) dX12_least_89 rfl ?_
          refine r_iconst (pc := 90) dX12_least_90 ?_
          refine r_icmp_ne (pc := 91) (x := v1) (y := 2) (tgt := 101) dX12_least_91 (by decide) hr2 (by decide) (fun c => ?_) (fun c => ?_)
          · have w := w.1 (c)
            refine r_iload_n (pc := 101) (x := v1) dX12_least_101 rfl ?_
            refine r_bipush (pc := 102) (x := 10) dX12_least_102 (by decide) ?_
            refine r_isub (pc := 104) (x := v1) (y := 10) dX12_least_104 ?_
            refine r_aload_n (pc := 105) (a := 81) dX12_least_105 rfl ?_
            refine r_getI (pc := 106) (fi := 36) (x := (h8 81 36)) fl_X12_256 dX12_least_106 s0_81 rfl (rfl) ?_
            refine r_icmp_ge (pc := 109) (x := (v1 - 10)) (y := (h8 81 36)) (tgt := 124) dX12_least_109 (by decide) hr12 hr16 (fun c => ?_) (fun c => ?_)
            · have w := w.1 (c)
              refine r_iconst (pc := 124) dX12_least_124 ?_
              exact r_iret (st := []) (pc := 125) (x := (-1)) (ty := .int) dX12_least_125 rfl rfl rfl (by decide) ⟨rfl, _, rfl, w⟩
            · have w := w.2 (c)
              refine r_aload_n (pc := 112) (a := 81) dX12_least_112 rfl ?_
              refine r_getR (pc := 113) (b := 100) fl_X12_64 dX12_least_113 s0_81 rfl ?_
              refine r_iload_n (pc := 116) (x := v1) dX12_least_116 rfl ?_
              refine r_bipush (pc := 117) (x := 10) dX12_least_117 (by decide) ?_
              refine r_isub (pc := 119) (x := v1) (y := 10) dX12_least_119 ?_
              obtain ⟨hb23, w⟩ := w
              refine r_iald (pc := 120) (i := (v1 - 10)) (x := (h8 100 (v1 - 10))) dX12_least_120 s0_100 ⟨hb23.1, hb23.2, (by decide)⟩ (rfl) ?_
              refine r_goto (pc := 121) (tgt := 125) dX12_least_121 (by decide) ?_
              exact r_iret (st := []) (pc := 125) (x := (h8 100 (v1 - 10))) (ty := .int) dX12_least_125 rfl rfl rfl (by decide) ⟨rfl, _, rfl, w⟩
          · have w := w.2 (c)
            refine r_aload_n (pc := 94) (a := 81) dX12_least_94 rfl ?_
            refine r_getI (pc := 95) (fi := 37) (x := (h8 81 37)) fl_X12_259 dX12_least_95 s0_81 rfl (rfl) ?_
            refine r_goto (pc := 98) (tgt := 125) dX12_least_98 (by decide) ?_
            exact r_iret (st := []) (pc := 125) (x := (h8 81 37)) (ty := .int) dX12_least_125 rfl rfl rfl (by decide) ⟨rfl, _, rfl, w⟩
        · have w := w.2 (c)
          refine r_aload_n (pc := 82) (a := 81) dX12_least_82 rfl ?_
          refine r_getI (pc := 83) (fi := 36) (x := (h8 81 36)) fl_X12_256 dX12_least_83 s0_81 rfl (rfl) ?_
          refine r_goto (pc := 86) (tgt := 125) dX12_least_86 (by decide) ?_
          exact r_iret (st := []) (pc := 125) (x := (h8 81 36)) (ty := .int) dX12_least_125 rfl rfl rfl (by decide) ⟨rfl, _, rfl, w⟩
      · have w := w.2 (c)
        refine r_iload_n (pc := 73) (x := (h4 99 ((144 * (h4 98 (h4 88 0))) + (4 * (h4 88 0))))) dX12_least_73 rfl ?_
        refine r_goto (pc := 74) (tgt := 125) dX12_least_74 (by decide) ?_
        exact r_iret (st := []) (pc := 125) (x := (h4 99 ((144 * (h4 98 (h4 88 0))) + (4 * (h4 88 0))))) (ty := .int) dX12_least_125 rfl rfl rfl (by decide) ⟨rfl, _, rfl, w⟩
    · have w := w.2 (c)
      refine r_iload_n (pc := 33) (x := x4) dX12_least_33 rfl ?_
      exact r_iret (st := []) (pc := 34) (x := x4) (ty := .int) dX12_least_34 rfl rfl rfl (by decide) ⟨rfl, _, rfl, w⟩
  · have w := w.2 (bI_0.mp c)
    refine r_iload_n (pc := 16) (x := v1) dX12_least_16 rfl ?_
    refine r_bipush (pc := 17) (x := 10) dX12_least_17 (by decide) ?_
    refine r_icmp_ge (pc := 19) (x := v1) (y := 10) (tgt := 24) dX12_least_19 (by decide) hr2 (by decide) (fun c => ?_) (fun c => ?_)
    · have w := w.1 (c)
      refine r_aload_n (pc := 24) (a := 81) dX12_least_24 rfl ?_
      refine r_callV (μ2 := mX12_hinders) (pc := 25) (as := []) (st := []) rfl s0_81 ml_X12_270 im_X12_hinders se_X12_hinders okX12_hinders ⟨by decide, by decide⟩ dX12_least_25 (Nat.le_of_ble_eq_true rfl) rfl (Nat.le_of_ble_eq_true rfl) (by decide) (by decide) (zCC.mono w ?_)
      rintro r S' h24 ⟨rfl, x24, hr, w⟩
      subst hr
      show RR mX12_least 0 0 28 [some (.ref 81), some (.int (zI v1)), none, none] [.int (zI x24)] zS0 h24 (zQi zS0 K)
      refine r_istore_n (pc := 28) (L' := [some (.ref 81), some (.int (zI v1)), some (.int (zI x24)), none]) dX12_least_28 (by decide) rfl ?_
      refine r_iload_n (pc := 29) (x := x24) dX12_least_29 rfl ?_
      obtain ⟨hr25, w⟩ := w
      refine r_if_eq (pc := 30) (x := x24) (tgt := 35) dX12_least_30 (by decide) hr25 (fun c => ?_) (fun c => ?_)
      · have w := w.1 (c)
        refine r_aload_n (pc := 35) (a := 81) dX12_least_35 rfl ?_
        refine r_getR (pc := 36) (b := 99) fl_X12_61 dX12_least_36 s0_81 rfl ?_
        refine r_sipush (pc := 39) (x := 144) dX12_least_39 (by decide) ?_
        refine r_aload_n (pc := 42) (a := 81) dX12_least_42 rfl ?_
        refine r_getR (pc := 43) (b := 98) fl_X12_58 dX12_least_43 s0_81 rfl ?_
        refine r_aload_n (pc := 46) (a := 81) dX12_least_46 rfl ?_
        refine r_getR (pc := 47) (b := 88) fl_X12_28 dX12_least_47 s0_81 rfl ?_
        refine r_iconst (pc := 50) dX12_least_50 ?_
        refine r_iald (pc := 51) (i := 0) (x := (h24 88 0)) dX12_least_51 s0_88 (by decide) (rfl) ?_
        obtain ⟨hb26, w⟩ := w
        refine r_iald (pc := 52) (i := (h24 88 0)) (x := (h24 98 (h24 88 0))) dX12_least_52 s0_98 ⟨hb26.1, hb26.2, (by decide)⟩ (rfl) ?_
        refine r_imul (pc := 53) (x := 144) (y := (h24 98 (h24 88 0))) dX12_least_53 ?_
        refine r_iconst (pc := 54) dX12_least_54 ?_
        refine r_aload_n (pc := 55) (a := 81) dX12_least_55 rfl ?_
        refine r_getR (pc := 56) (b := 88) fl_X12_28 dX12_least_56 s0_81 rfl ?_
        refine r_iconst (pc := 59) dX12_least_59 ?_
        refine r_iald (pc := 60) (i := 0) (x := (h24 88 0)) dX12_least_60 s0_88 (by decide) (rfl) ?_
        refine r_imul (pc := 61) (x := 4) (y := (h24 88 0)) dX12_least_61 ?_
        refine r_iadd (pc := 62) (x := (144 * (h24 98 (h24 88 0)))) (y := (4 * (h24 88 0))) dX12_least_62 ?_
        obtain ⟨hb27, w⟩ := w
        refine r_iald (pc := 63) (i := ((144 * (h24 98 (h24 88 0))) + (4 * (h24 88 0)))) (x := (h24 99 ((144 * (h24 98 (h24 88 0))) + (4 * (h24 88 0))))) dX12_least_63 s0_99 ⟨hb27.1, hb27.2, (by decide)⟩ (rfl) ?_
        refine r_istore_n (pc := 64) (L' := [some (.ref 81), some (.int (zI v1)), some (.int (zI x24)), some (.int (zI (h24 99 ((144 * (h24 98 (h24 88 0))) + (4 * (h24 88 0))))))]) dX12_least_64 (by decide) rfl ?_
        refine r_aload_n (pc := 65) (a := 81) dX12_least_65 rfl ?_
        refine r_callV (μ2 := mX12_layWay) (pc := 66) (as := []) (st := []) rfl s0_81 ml_X12_273 im_X12_layWay se_X12_layWay okX12_layWay ⟨by decide, by decide⟩ dX12_least_66 (Nat.le_of_ble_eq_true rfl) rfl (Nat.le_of_ble_eq_true rfl) (by decide) (by decide) (zCC.mono w ?_)
        rintro r S' h28 ⟨rfl, hr, w⟩
        subst hr
        show RR mX12_least 0 0 69 [some (.ref 81), some (.int (zI v1)), some (.int (zI x24)), some (.int (zI (h24 99 ((144 * (h24 98 (h24 88 0))) + (4 * (h24 88 0))))))] [] zS0 h28 (zQi zS0 K)
        refine r_iload_n (pc := 69) (x := v1) dX12_least_69 rfl ?_
        obtain ⟨hr32, w⟩ := w
        obtain ⟨hr36, w⟩ := w
        refine r_if_ne (pc := 70) (x := v1) (tgt := 77) dX12_least_70 (by decide) hr2 (fun c => ?_) (fun c => ?_)
        · have w := w.1 (c)
          refine r_iload_n (pc := 77) (x := v1) dX12_least_77 rfl ?_
          refine r_iconst (pc := 78) dX12_least_78 ?_
          refine r_icmp_ne (pc := 79) (x := v1) (y := 1) (tgt := 89) dX12_least_79 (by decide) hr2 (by decide) (fun c => ?_) (fun c => ?_)
          · have w := w.1 (c)
            refine r_iload_n (pc := 89) (x := v1) dX12_least_89 rfl ?_
            refine r_iconst (pc := 90) dX12_least_90 ?_
            refine r_icmp_ne (pc := 91) (x := v1) (y := 2) (tgt := 101) dX12_least_91 (by decide) hr2 (by decide) (fun c => ?_) (fun c => ?_)
            · have w := w.1 (c)
              refine r_iload_n (pc := 101) (x := v1) dX12_least_101 rfl ?_
              refine r_bipush (pc := 102) (x := 10) dX12_least_102 (by decide) ?_
              refine r_isub (pc := 104) (x := v1) (y := 10) dX12_least_104 ?_
              refine r_aload_n (pc := 105) (a := 81) dX12_least_105 rfl ?_
              refine r_getI (pc := 106) (fi := 36) (x := (h28 81 36)) fl_X12_256 dX12_least_106 s0_81 rfl (rfl) ?_
              refine r_icmp_ge (pc := 109) (x := (v1 - 10)) (y := (h28 81 36)) (tgt := 124) dX12_least_109 (by decide) hr32 hr36 (fun c => ?_) (fun c => ?_)
              · have w := w.1 (c)
                refine r_iconst (pc := 124) dX12_least_124 ?_
                exact r_iret (st := []) (pc := 125) (x := (-1)) (ty := .int) dX12_least_125 rfl rfl rfl (by decide) ⟨rfl, _, rfl, w⟩
              · have w := w.2 (c)
                refine r_aload_n (pc := 112) (a := 81) dX12_least_112 rfl ?_
                refine r_getR (pc := 113) (b := 100) fl_X12_64 dX12_least_113 s0_81 rfl ?_
                refine r_iload_n (pc := 116) (x := v1) dX12_least_116 rfl ?_
                refine r_bipush (pc := 117) (x := 10) dX12_least_117 (by decide) ?_
                refine r_isub (pc := 119) (x := v1) (y := 10) dX12_least_119 ?_
                obtain ⟨hb43, w⟩ := w
                refine r_iald (pc := 120) (i := (v1 - 10)) (x := (h28 100 (v1 - 10))) dX12_least_120 s0_100 ⟨hb43.1, hb43.2, (by decide)⟩ (rfl) ?_
                refine r_goto (pc := 121) (tgt := 125) dX12_least_121 (by decide) ?_
                exact r_iret (st := []) (pc := 125) (x := (h28 100 (v1 - 10))) (ty := .int) dX12_least_125 rfl rfl rfl (by decide) ⟨rfl, _, rfl, w⟩
            · have w := w.2 (c)
              refine r_aload_n (pc := 94) (a := 81) dX12_least_94 rfl ?_
              refine r_getI (pc := 95) (fi := 37) (x := (h28 81 37)) fl_X12_259 dX12_least_95 s0_81 rfl (rfl) ?_
              refine r_goto (pc := 98) (tgt := 125) dX12_least_98 (by decide) ?_
              exact r_iret (st := []) (pc := 125) (x := (h28 81 37)) (ty := .int) dX12_least_125 rfl rfl rfl (by decide) ⟨rfl, _, rfl, w⟩
          · have w := w.2 (c)
            refine r_aload_n (pc := 82) (a := 81) dX12_least_82 rfl ?_
            refine r_getI (pc := 83) (fi := 36) (x := (h28 81 36)) fl_X12_256 dX12_least_83 s0_81 rfl (rfl) ?_
            refine r_goto (pc := 86) (tgt := 125) dX12_least_86 (by decide) ?_
            exact r_iret (st := []) (pc := 125) (x := (h28 81 36)) (ty := .int) dX12_least_125 rfl rfl rfl (by decide) ⟨rfl, _, rfl, w⟩
        · have w := w.2 (c)
          refine r_iload_n (pc := 73) (x := (h24 99 ((144 * (h24 98 (h24 88 0))) + (4 * (h24 88 0))))) dX12_least_73 rfl ?_
          refine r_goto (pc := 74) (tgt := 125) dX12_least_74 (by decide) ?_
          exact r_iret (st := []) (pc := 125) (x := (h24 99 ((144 * (h24 98 (h24 88 0))) + (4 * (h24 88 0))))) (ty := .int) dX12_least_125 rfl rfl rfl (by decide) ⟨rfl, _, rfl, w⟩
      · have w := w.2 (c)
        refine r_iload_n (pc := 33) (x := x24) dX12_least_33 rfl ?_
        exact r_iret (st := []) (pc := 34) (x := x24) (ty := .int) dX12_least_34 rfl rfl rfl (by decide) ⟨rfl, _, rfl, w⟩
    · have w := w.2 (c)
      refine r_iconst (pc := 22) dX12_least_22 ?_
      exact r_iret (st := []) (pc := 23) (x := (-1)) (ty := .int) dX12_least_23 rfl rfl rfl (by decide) ⟨rfl, _, rfl, w⟩

set_option maxRecDepth 100000 in
set_option maxHeartbeats 4000000 in
theorem wX12_withoutTree {h : zMm} {K : Int → zMm → Prop} {v1 : Int} (w : ((0 ≤ v1 ∧ v1 < 600) ∧ zCi mX12_layLeast [.ref 81] zS0 (zU h 92 v1 3) (fun x2 h2 => K x2 (zU h2 92 v1 2)))) : zCi mX12_withoutTree [.ref 81, .int (zI v1)] zS0 h K := by
  show RR mX12_withoutTree 0 0 0 [some (.ref 81), some (.int (zI v1)), none] [] zS0 h (zQi zS0 K)
  refine r_aload_n (pc := 0) (a := 81) dX12_withoutTree_0 rfl ?_
  refine r_getR (pc := 1) (b := 92) fl_X12_40 dX12_withoutTree_1 s0_81 rfl ?_
  refine r_iload_n (pc := 4) (x := v1) dX12_withoutTree_4 rfl ?_
  refine r_iconst (pc := 5) dX12_withoutTree_5 ?_
  obtain ⟨hb1, w⟩ := w
  refine r_iast (pc := 6) (i := v1) (x := 3) dX12_withoutTree_6 s0_92 ⟨hb1.1, hb1.2, (by decide)⟩  ?_
  refine r_aload_n (pc := 7) (a := 81) dX12_withoutTree_7 rfl ?_
  refine r_callV (μ2 := mX12_layLeast) (pc := 8) (as := []) (st := []) rfl s0_81 ml_X12_265 im_X12_layLeast se_X12_layLeast okX12_layLeast ⟨by decide, by decide⟩ dX12_withoutTree_8 (Nat.le_of_ble_eq_true rfl) rfl (Nat.le_of_ble_eq_true rfl) (by decide) (by decide) (zCC.mono w ?_)
  rintro r S' h2 ⟨rfl, x2, hr, w⟩
  subst hr
  show RR mX12_withoutTree 0 0 11 [some (.ref 81), some (.int (zI v1)), none] [.int (zI x2)] zS0 h2 (zQi zS0 K)
  refine r_istore_n (pc := 11) (L' := [some (.ref 81), some (.int (zI v1)), some (.int (zI x2))]) dX12_withoutTree_11 (by decide) rfl ?_
  refine r_aload_n (pc := 12) (a := 81) dX12_withoutTree_12 rfl ?_
  refine r_getR (pc := 13) (b := 92) fl_X12_40 dX12_withoutTree_13 s0_81 rfl ?_
  refine r_iload_n (pc := 16) (x := v1) dX12_withoutTree_16 rfl ?_
  refine r_iconst (pc := 17) dX12_withoutTree_17 ?_
  refine r_iast (pc := 18) (i := v1) (x := 2) dX12_withoutTree_18 s0_92 ⟨by omega, by omega, (by decide)⟩  ?_
  refine r_iload_n (pc := 19) (x := x2) dX12_withoutTree_19 rfl ?_
  exact r_iret (st := []) (pc := 20) (x := x2) (ty := .int) dX12_withoutTree_20 rfl rfl rfl (by decide) ⟨rfl, _, rfl, w⟩

set_option maxRecDepth 100000 in
set_option maxHeartbeats 4000000 in
theorem wX12_tree {h : zMm} {K : Int → zMm → Prop} {v1 : Int} (w : zCv mX12_awake [.ref 81] zS0 h (fun h1 => zCb mX12_isCell [.int (zI v1)] zS0 h1 (fun b2 h2 => ((b2 = false → K (-1) h2) ∧ (b2 = true → ((0 ≤ v1 ∧ v1 < 600) ∧ (zR (h2 92 v1) ∧ (((h2 92 v1) = 2 → zCi mX12_hinders [.ref 81] zS0 h2 (fun x5 h5 => (zR x5 ∧ ((x5 = 0 → zCi mX12_layLeast [.ref 81] zS0 h5 (fun x7 h7 => zCi mX12_withoutTree [.ref 81, .int (zI v1)] zS0 h7 (fun x8 h8 => K (x7 - x8) h8))) ∧ (¬ x5 = 0 → K x5 h5))))) ∧ (¬ (h2 92 v1) = 2 → K (-1) h2))))))))) : zCi mX12_tree [.ref 81, .int (zI v1)] zS0 h K := by
  show RR mX12_tree 0 0 0 [some (.ref 81), some (.int (zI v1)), none, none] [] zS0 h (zQi zS0 K)
  refine r_aload_n (pc := 0) (a := 81) dX12_tree_0 rfl ?_
  refine r_callV (μ2 := mX12_awake) (pc := 1) (as := []) (st := []) rfl s0_81 ml_X12_175 im_X12_awake se_X12_awake okX12_awake ⟨by decide, by decide⟩ dX12_tree_1 (Nat.le_of_ble_eq_true rfl) rfl (Nat.le_of_ble_eq_true rfl) (by decide) (by decide) (zCC.mono w ?_)
  rintro r S' h1 ⟨rfl, hr, w⟩
  subst hr
  show RR mX12_tree 0 0 4 [some (.ref 81), some (.int (zI v1)), none, none] [] zS0 h1 (zQi zS0 K)
  refine r_iload_n (pc := 4) (x := v1) dX12_tree_4 rfl ?_
  refine r_callS (μ2 := mX12_isCell) (pc := 5) (as := [.int (zI v1)]) (st := []) ml_X12_178 sm_X12_isCell okX12_isCell ⟨by decide, by decide⟩ dX12_tree_5 (Nat.le_of_ble_eq_true rfl) rfl (Nat.le_of_ble_eq_true rfl) (by decide) (by decide) (zCC.mono w ?_)
  rintro r S' h2 ⟨rfl, b2, hr, w⟩
  subst hr
  show RR mX12_tree 0 0 8 [some (.ref 81), some (.int (zI v1)), none, none] [.int (zI (bI b2))] zS0 h2 (zQi zS0 K)
  refine r_if_eq (pc := 8) (x := (bI b2)) (tgt := 21) dX12_tree_8 (by decide) (bI_R _) (fun c => ?_) (fun c => ?_)
  · have w := w.1 (bI_0.mp c)
    refine r_iconst (pc := 21) dX12_tree_21 ?_
    exact r_iret (st := []) (pc := 22) (x := (-1)) (ty := .int) dX12_tree_22 rfl rfl rfl (by decide) ⟨rfl, _, rfl, w⟩
  · have w := w.2 (bI_n.mp c)
    refine r_aload_n (pc := 11) (a := 81) dX12_tree_11 rfl ?_
    refine r_getR (pc := 12) (b := 92) fl_X12_40 dX12_tree_12 s0_81 rfl ?_
    refine r_iload_n (pc := 15) (x := v1) dX12_tree_15 rfl ?_
    obtain ⟨hb3, w⟩ := w
    refine r_iald (pc := 16) (i := v1) (x := (h2 92 v1)) dX12_tree_16 s0_92 ⟨hb3.1, hb3.2, (by decide)⟩ (rfl) ?_
    refine r_iconst (pc := 17) dX12_tree_17 ?_
    obtain ⟨hr4, w⟩ := w
    refine r_icmp_eq (pc := 18) (x := (h2 92 v1)) (y := 2) (tgt := 23) dX12_tree_18 (by decide) hr4 (by decide) (fun c => ?_) (fun c => ?_)
    · have w := w.1 (c)
      refine r_aload_n (pc := 23) (a := 81) dX12_tree_23 rfl ?_
      refine r_callV (μ2 := mX12_hinders) (pc := 24) (as := []) (st := []) rfl s0_81 ml_X12_270 im_X12_hinders se_X12_hinders okX12_hinders ⟨by decide, by decide⟩ dX12_tree_24 (Nat.le_of_ble_eq_true rfl) rfl (Nat.le_of_ble_eq_true rfl) (by decide) (by decide) (zCC.mono w ?_)
      rintro r S' h5 ⟨rfl, x5, hr, w⟩
      subst hr
      show RR mX12_tree 0 0 27 [some (.ref 81), some (.int (zI v1)), none, none] [.int (zI x5)] zS0 h5 (zQi zS0 K)
      refine r_istore_n (pc := 27) (L' := [some (.ref 81), some (.int (zI v1)), some (.int (zI x5)), none]) dX12_tree_27 (by decide) rfl ?_
      refine r_iload_n (pc := 28) (x := x5) dX12_tree_28 rfl ?_
      obtain ⟨hr6, w⟩ := w
      refine r_if_eq (pc := 29) (x := x5) (tgt := 34) dX12_tree_29 (by decide) hr6 (fun c => ?_) (fun c => ?_)
      · have w := w.1 (c)
        refine r_aload_n (pc := 34) (a := 81) dX12_tree_34 rfl ?_
        refine r_callV (μ2 := mX12_layLeast) (pc := 35) (as := []) (st := []) rfl s0_81 ml_X12_265 im_X12_layLeast se_X12_layLeast okX12_layLeast ⟨by decide, by decide⟩ dX12_tree_35 (Nat.le_of_ble_eq_true rfl) rfl (Nat.le_of_ble_eq_true rfl) (by decide) (by decide) (zCC.mono w ?_)
        rintro r S' h7 ⟨rfl, x7, hr, w⟩
        subst hr
        show RR mX12_tree 0 0 38 [some (.ref 81), some (.int (zI v1)), some (.int (zI x5)), none] [.int (zI x7)] zS0 h7 (zQi zS0 K)
        refine r_istore_n (pc := 38) (L' := [some (.ref 81), some (.int (zI v1)), some (.int (zI x5)), some (.int (zI x7))]) dX12_tree_38 (by decide) rfl ?_
        refine r_iload_n (pc := 39) (x := x7) dX12_tree_39 rfl ?_
        refine r_aload_n (pc := 40) (a := 81) dX12_tree_40 rfl ?_
        refine r_iload_n (pc := 41) (x := v1) dX12_tree_41 rfl ?_
        refine r_callV (μ2 := mX12_withoutTree) (pc := 42) (as := [.int (zI v1)]) (st := [.int (zI x7)]) rfl s0_81 ml_X12_276 im_X12_withoutTree se_X12_withoutTree okX12_withoutTree ⟨by decide, by decide⟩ dX12_tree_42 (Nat.le_of_ble_eq_true rfl) rfl (Nat.le_of_ble_eq_true rfl) (by decide) (by decide) (zCC.mono w ?_)
        rintro r S' h8 ⟨rfl, x8, hr, w⟩
        subst hr
        show RR mX12_tree 0 0 45 [some (.ref 81), some (.int (zI v1)), some (.int (zI x5)), some (.int (zI x7))] [.int (zI x8), .int (zI x7)] zS0 h8 (zQi zS0 K)
        refine r_isub (pc := 45) (x := x7) (y := x8) dX12_tree_45 ?_
        exact r_iret (st := []) (pc := 46) (x := (x7 - x8)) (ty := .int) dX12_tree_46 rfl rfl rfl (by decide) ⟨rfl, _, rfl, w⟩
      · have w := w.2 (c)
        refine r_iload_n (pc := 32) (x := x5) dX12_tree_32 rfl ?_
        exact r_iret (st := []) (pc := 33) (x := x5) (ty := .int) dX12_tree_33 rfl rfl rfl (by decide) ⟨rfl, _, rfl, w⟩
    · have w := w.2 (c)
      refine r_iconst (pc := 21) dX12_tree_21 ?_
      exact r_iret (st := []) (pc := 22) (x := (-1)) (ty := .int) dX12_tree_22 rfl rfl rfl (by decide) ⟨rfl, _, rfl, w⟩

set_option maxRecDepth 100000 in
set_option maxHeartbeats 4000000 in
theorem wX12_dearest {h : zMm} {K : Int → zMm → Prop} {v1 : Int} (w : zCv mX12_awake [.ref 81] zS0 h (fun h1 => (zR v1 ∧ zCb mX12_in [.long (zJ v1), .long (zJ 0), .long (zJ 1)] zS0 h1 (fun b3 h3 => ((b3 = true → zCi mX12_hinders [.ref 81] zS0 h3 (fun x4 h4 => (zR x4 ∧ ((x4 = 0 → zCi mX12_layLeast [.ref 81] zS0 h4 (fun x6 h6 => RR mX12_dearest 0 0 42 [some (.ref 81), some (.int (zI v1)), none, some (.int (zI x6)), some (.int (zI (-4))), some (.int (zI 0)), some (.int (zI 0)), none] [] zS0 h6 (zQi zS0 K))) ∧ (¬ x4 = 0 → K x4 h4))))) ∧ (b3 = false → K (-1) h3)))))) : zCi mX12_dearest [.ref 81, .int (zI v1)] zS0 h K := by
  show RR mX12_dearest 0 0 0 [some (.ref 81), some (.int (zI v1)), none, none, none, none, none, none] [] zS0 h (zQi zS0 K)
  refine r_aload_n (pc := 0) (a := 81) dX12_dearest_0 rfl ?_
  refine r_callV (μ2 := mX12_awake) (pc := 1) (as := []) (st := []) rfl s0_81 ml_X12_175 im_X12_awake se_X12_awake okX12_awake ⟨by decide, by decide⟩ dX12_dearest_1 (Nat.le_of_ble_eq_true rfl) rfl (Nat.le_of_ble_eq_true rfl) (by decide) (by decide) (zCC.mono w ?_)
  rintro r S' h1 ⟨rfl, hr, w⟩
  subst hr
  show RR mX12_dearest 0 0 4 [some (.ref 81), some (.int (zI v1)), none, none, none, none, none, none] [] zS0 h1 (zQi zS0 K)
  refine r_iload_n (pc := 4) (x := v1) dX12_dearest_4 rfl ?_
  obtain ⟨hr2, w⟩ := w
  refine r_i2l (pc := 5) (x := v1) dX12_dearest_5 hr2 ?_
  refine r_lconst (pc := 6) (x := 0) dX12_dearest_6 rfl ?_
  refine r_lconst (pc := 7) (x := 1) dX12_dearest_7 rfl ?_
  refine r_callS (μ2 := mX12_in) (pc := 8) (as := [.long (zJ v1), .long (zJ 0), .long (zJ 1)]) (st := []) ml_X12_94 sm_X12_in okX12_in ⟨by decide, by decide⟩ dX12_dearest_8 (Nat.le_of_ble_eq_true rfl) rfl (Nat.le_of_ble_eq_true rfl) (by decide) (by decide) (zCC.mono w ?_)
  rintro r S' h3 ⟨rfl, b3, hr, w⟩
  subst hr
  show RR mX12_dearest 0 0 11 [some (.ref 81), some (.int (zI v1)), none, none, none, none, none, none] [.int (zI (bI b3))] zS0 h3 (zQi zS0 K)
  refine r_if_ne (pc := 11) (x := (bI b3)) (tgt := 16) dX12_dearest_11 (by decide) (bI_R _) (fun c => ?_) (fun c => ?_)
  · have w := w.1 (bI_n.mp c)
    refine r_aload_n (pc := 16) (a := 81) dX12_dearest_16 rfl ?_
    refine r_callV (μ2 := mX12_hinders) (pc := 17) (as := []) (st := []) rfl s0_81 ml_X12_270 im_X12_hinders se_X12_hinders okX12_hinders ⟨by decide, by decide⟩ dX12_dearest_17 (Nat.le_of_ble_eq_true rfl) rfl (Nat.le_of_ble_eq_true rfl) (by decide) (by decide) (zCC.mono w ?_)
    rintro r S' h4 ⟨rfl, x4, hr, w⟩
    subst hr
    show RR mX12_dearest 0 0 20 [some (.ref 81), some (.int (zI v1)), none, none, none, none, none, none] [.int (zI x4)] zS0 h4 (zQi zS0 K)
    refine r_istore_n (pc := 20) (L' := [some (.ref 81), some (.int (zI v1)), some (.int (zI x4)), none, none, none, none, none]) dX12_dearest_20 (by decide) rfl ?_
    refine r_iload_n (pc := 21) (x := x4) dX12_dearest_21 rfl ?_
    obtain ⟨hr5, w⟩ := w
    refine r_if_eq (pc := 22) (x := x4) (tgt := 27) dX12_dearest_22 (by decide) hr5 (fun c => ?_) (fun c => ?_)
    · have w := w.1 (c)
      refine r_aload_n (pc := 27) (a := 81) dX12_dearest_27 rfl ?_
      refine r_callV (μ2 := mX12_layLeast) (pc := 28) (as := []) (st := []) rfl s0_81 ml_X12_265 im_X12_layLeast se_X12_layLeast okX12_layLeast ⟨by decide, by decide⟩ dX12_dearest_28 (Nat.le_of_ble_eq_true rfl) rfl (Nat.le_of_ble_eq_true rfl) (by decide) (by decide) (zCC.mono w ?_)
      rintro r S' h6 ⟨rfl, x6, hr, w⟩
      subst hr
      show RR mX12_dearest 0 0 31 [some (.ref 81), some (.int (zI v1)), some (.int (zI x4)), none, none, none, none, none] [.int (zI x6)] zS0 h6 (zQi zS0 K)
      refine r_istore_n (pc := 31) (L' := [some (.ref 81), some (.int (zI v1)), some (.int (zI x4)), some (.int (zI x6)), none, none, none, none]) dX12_dearest_31 (by decide) rfl ?_
      refine r_bipush (pc := 32) (x := (-4)) dX12_dearest_32 (by decide) ?_
      refine r_istore (pc := 34) (L' := [some (.ref 81), some (.int (zI v1)), some (.int (zI x4)), some (.int (zI x6)), some (.int (zI (-4))), none, none, none]) dX12_dearest_34 (by decide) rfl ?_
      refine r_iconst (pc := 36) dX12_dearest_36 ?_
      refine r_istore (pc := 37) (L' := [some (.ref 81), some (.int (zI v1)), some (.int (zI x4)), some (.int (zI x6)), some (.int (zI (-4))), some (.int (zI 0)), none, none]) dX12_dearest_37 (by decide) rfl ?_
      refine r_iconst (pc := 39) dX12_dearest_39 ?_
      refine r_istore (pc := 40) (L' := [some (.ref 81), some (.int (zI v1)), some (.int (zI x4)), some (.int (zI x6)), some (.int (zI (-4))), some (.int (zI 0)), some (.int (zI 0)), none]) dX12_dearest_40 (by decide) rfl ?_
      exact RR.sub (L' := [some (.ref 81), some (.int (zI v1)), none, some (.int (zI x6)), some (.int (zI (-4))), some (.int (zI 0)), some (.int (zI 0)), none]) (zSb_of (⟨rfl, ⟨rfl, ⟨rfl, ⟨rfl, ⟨rfl, ⟨rfl, trivial⟩⟩⟩⟩⟩⟩)) w
    · have w := w.2 (c)
      refine r_iload_n (pc := 25) (x := x4) dX12_dearest_25 rfl ?_
      exact r_iret (st := []) (pc := 26) (x := x4) (ty := .int) dX12_dearest_26 rfl rfl rfl (by decide) ⟨rfl, _, rfl, w⟩
  · have w := w.2 (bI_0.mp c)
    refine r_iconst (pc := 14) dX12_dearest_14 ?_
    exact r_iret (st := []) (pc := 15) (x := (-1)) (ty := .int) dX12_dearest_15 rfl rfl rfl (by decide) ⟨rfl, _, rfl, w⟩

set_option maxRecDepth 100000 in
set_option maxHeartbeats 4000000 in
theorem bX12_dearest_42 {h : zMm} {K : Int → zMm → Prop} {v1 : Int} {v3 : Int} {v4 : Int} {v5 : Int} {v6 : Int} (w : (zR v6 ∧ ((36 ≤ v6 → (zR v4 ∧ (zR v1 ∧ K (if v4 = (-4) then ((-4) : Int) else (if v1 = 0 then v4 else v5)) h))) ∧ (¬ 36 ≤ v6 → ((0 ≤ v6 ∧ v6 < 600) ∧ (zR (h 92 v6) ∧ ((¬ (h 92 v6) = 2 → RR mX12_dearest 0 0 42 [some (.ref 81), some (.int (zI v1)), none, some (.int (zI v3)), some (.int (zI v4)), some (.int (zI v5)), some (.int (zI (v6 + 1))), none] [] zS0 h (zQi zS0 K)) ∧ ((h 92 v6) = 2 → zCi mX12_withoutTree [.ref 81, .int (zI v6)] zS0 h (fun x15 h15 => (zR (v3 - x15) ∧ (zR v5 ∧ RR mX12_dearest 0 0 42 [some (.ref 81), some (.int (zI v1)), none, some (.int (zI v3)), some (.int (zI (if (v3 - x15) ≤ v5 then v4 else v6))), some (.int (zI (if (v3 - x15) ≤ v5 then v5 else (v3 - x15)))), some (.int (zI (v6 + 1))), none] [] zS0 h15 (zQi zS0 K)))))))))))) : RR mX12_dearest 0 0 42 [some (.ref 81), some (.int (zI v1)), none, some (.int (zI v3)), some (.int (zI v4)), some (.int (zI v5)), some (.int (zI v6)), none] [] zS0 h (zQi zS0 K) := by
  refine r_iload (pc := 42) (x := v6) dX12_dearest_42 rfl ?_
  refine r_bipush (pc := 44) (x := 36) dX12_dearest_44 (by decide) ?_
  obtain ⟨hr7, w⟩ := w
  refine r_icmp_ge (pc := 46) (x := v6) (y := 36) (tgt := 108) dX12_dearest_46 (by decide) hr7 (by decide) (fun c => ?_) (fun c => ?_)
  · have w := w.1 (c)
    refine r_iload (pc := 108) (x := v4) dX12_dearest_108 rfl ?_
    refine r_bipush (pc := 110) (x := (-4)) dX12_dearest_110 (by decide) ?_
    obtain ⟨hr8, w⟩ := w
    obtain ⟨hr10, w⟩ := w
    have kk12 : RR mX12_dearest 0 0 131 [some (.ref 81), some (.int (zI v1)), none, some (.int (zI v3)), some (.int (zI v4)), some (.int (zI v5)), some (.int (zI v6)), none] [.int (zI (if v4 = (-4) then ((-4) : Int) else (if v1 = 0 then v4 else v5)))] zS0 h (zQi zS0 K) := by
      exact r_iret (st := []) (pc := 131) (x := (if v4 = (-4) then ((-4) : Int) else (if v1 = 0 then v4 else v5))) (ty := .int) dX12_dearest_131 rfl rfl rfl (by decide) ⟨rfl, _, rfl, w⟩
    refine r_icmp_ne (pc := 112) (x := v4) (y := (-4)) (tgt := 120) dX12_dearest_112 (by decide) hr8 (by decide) (fun c => ?_) (fun c => ?_)
    · refine r_iload_n (pc := 120) (x := v1) dX12_dearest_120 rfl ?_
      refine r_if_ne (pc := 121) (x := v1) (tgt := 129) dX12_dearest_121 (by decide) hr10 (fun c11 => ?_) (fun c11 => ?_)
      · refine r_iload (pc := 129) (x := v5) dX12_dearest_129 rfl ?_
        simp only [if_neg (c), if_neg (c11)] at kk12 ⊢
        exact kk12
      · refine r_iload (pc := 124) (x := v4) dX12_dearest_124 rfl ?_
        refine r_goto (pc := 126) (tgt := 131) dX12_dearest_126 (by decide) ?_
        simp only [if_neg (c), if_pos (c11)] at kk12 ⊢
        exact kk12
    · refine r_bipush (pc := 115) (x := (-4)) dX12_dearest_115 (by decide) ?_
      refine r_goto (pc := 117) (tgt := 131) dX12_dearest_117 (by decide) ?_
      simp only [if_pos (c)] at kk12 ⊢
      exact kk12
  · have w := w.2 (c)
    refine r_aload_n (pc := 49) (a := 81) dX12_dearest_49 rfl ?_
    refine r_getR (pc := 50) (b := 92) fl_X12_40 dX12_dearest_50 s0_81 rfl ?_
    refine r_iload (pc := 53) (x := v6) dX12_dearest_53 rfl ?_
    obtain ⟨hb13, w⟩ := w
    refine r_iald (pc := 55) (i := v6) (x := (h 92 v6)) dX12_dearest_55 s0_92 ⟨hb13.1, hb13.2, (by decide)⟩ (rfl) ?_
    refine r_iconst (pc := 56) dX12_dearest_56 ?_
    obtain ⟨hr14, w⟩ := w
    refine r_icmp_ne (pc := 57) (x := (h 92 v6)) (y := 2) (tgt := 102) dX12_dearest_57 (by decide) hr14 (by decide) (fun c => ?_) (fun c => ?_)
    · have w := w.1 (c)
      refine r_iinc (pc := 102) (x := v6) (L' := [some (.ref 81), some (.int (zI v1)), none, some (.int (zI v3)), some (.int (zI v4)), some (.int (zI v5)), some (.int (zI (v6 + 1))), none]) dX12_dearest_102 rfl (by decide) rfl ?_
      refine r_goto (pc := 105) (tgt := 42) dX12_dearest_105 (by decide) ?_
      exact w
    · have w := w.2 (c)
      refine r_iload_n (pc := 60) (x := v3) dX12_dearest_60 rfl ?_
      refine r_aload_n (pc := 61) (a := 81) dX12_dearest_61 rfl ?_
      refine r_iload (pc := 62) (x := v6) dX12_dearest_62 rfl ?_
      refine r_callV (μ2 := mX12_withoutTree) (pc := 64) (as := [.int (zI v6)]) (st := [.int (zI v3)]) rfl s0_81 ml_X12_276 im_X12_withoutTree se_X12_withoutTree okX12_withoutTree ⟨by decide, by decide⟩ dX12_dearest_64 (Nat.le_of_ble_eq_true rfl) rfl (Nat.le_of_ble_eq_true rfl) (by decide) (by decide) (zCC.mono w ?_)
      rintro r S' h15 ⟨rfl, x15, hr, w⟩
      subst hr
      show RR mX12_dearest 0 0 67 [some (.ref 81), some (.int (zI v1)), none, some (.int (zI v3)), some (.int (zI v4)), some (.int (zI v5)), some (.int (zI v6)), none] [.int (zI x15), .int (zI v3)] zS0 h15 (zQi zS0 K)
      refine r_isub (pc := 67) (x := v3) (y := x15) dX12_dearest_67 ?_
      refine r_istore (pc := 68) (L' := [some (.ref 81), some (.int (zI v1)), none, some (.int (zI v3)), some (.int (zI v4)), some (.int (zI v5)), some (.int (zI v6)), some (.int (zI (v3 - x15)))]) dX12_dearest_68 (by decide) rfl ?_
      refine r_iload (pc := 70) (x := (v3 - x15)) dX12_dearest_70 rfl ?_
      refine r_iload (pc := 72) (x := v5) dX12_dearest_72 rfl ?_
      obtain ⟨hr16, w⟩ := w
      obtain ⟨hr17, w⟩ := w
      have kk19 : RR mX12_dearest 0 0 84 [some (.ref 81), some (.int (zI v1)), none, some (.int (zI v3)), some (.int (zI v4)), some (.int (zI v5)), some (.int (zI v6)), some (.int (zI (v3 - x15)))] [.int (zI (if (v3 - x15) ≤ v5 then v4 else v6))] zS0 h15 (zQi zS0 K) := by
        refine r_istore (pc := 84) (L' := [some (.ref 81), some (.int (zI v1)), none, some (.int (zI v3)), some (.int (zI (if (v3 - x15) ≤ v5 then v4 else v6))), some (.int (zI v5)), some (.int (zI v6)), some (.int (zI (v3 - x15)))]) dX12_dearest_84 (by decide) rfl ?_
        refine r_iload (pc := 86) (x := (v3 - x15)) dX12_dearest_86 rfl ?_
        refine r_iload (pc := 88) (x := v5) dX12_dearest_88 rfl ?_
        have kk18 : RR mX12_dearest 0 0 100 [some (.ref 81), some (.int (zI v1)), none, some (.int (zI v3)), some (.int (zI (if (v3 - x15) ≤ v5 then v4 else v6))), some (.int (zI v5)), some (.int (zI v6)), some (.int (zI (v3 - x15)))] [.int (zI (if (v3 - x15) ≤ v5 then v5 else (v3 - x15)))] zS0 h15 (zQi zS0 K) := by
          refine r_istore (pc := 100) (L' := [some (.ref 81), some (.int (zI v1)), none, some (.int (zI v3)), some (.int (zI (if (v3 - x15) ≤ v5 then v4 else v6))), some (.int (zI (if (v3 - x15) ≤ v5 then v5 else (v3 - x15)))), some (.int (zI v6)), some (.int (zI (v3 - x15)))]) dX12_dearest_100 (by decide) rfl ?_
          refine r_iinc (pc := 102) (x := v6) (L' := [some (.ref 81), some (.int (zI v1)), none, some (.int (zI v3)), some (.int (zI (if (v3 - x15) ≤ v5 then v4 else v6))), some (.int (zI (if (v3 - x15) ≤ v5 then v5 else (v3 - x15)))), some (.int (zI (v6 + 1))), some (.int (zI (v3 - x15)))]) dX12_dearest_102 rfl (by decide) rfl ?_
          refine r_goto (pc := 105) (tgt := 42) dX12_dearest_105 (by decide) ?_
          exact RR.sub (L' := [some (.ref 81), some (.int (zI v1)), none, some (.int (zI v3)), some (.int (zI (if (v3 - x15) ≤ v5 then v4 else v6))), some (.int (zI (if (v3 - x15) ≤ v5 then v5 else (v3 - x15)))), some (.int (zI (v6 + 1))), none]) (zSb_of (⟨rfl, ⟨rfl, ⟨rfl, ⟨rfl, ⟨rfl, ⟨rfl, trivial⟩⟩⟩⟩⟩⟩)) w
        refine r_icmp_le (pc := 90) (x := (v3 - x15)) (y := v5) (tgt := 98) dX12_dearest_90 (by decide) hr16 hr17 (fun c => ?_) (fun c => ?_)
        · refine r_iload (pc := 98) (x := v5) dX12_dearest_98 rfl ?_
          simp only [if_pos (c)] at kk18 ⊢
          exact kk18
        · refine r_iload (pc := 93) (x := (v3 - x15)) dX12_dearest_93 rfl ?_
          refine r_goto (pc := 95) (tgt := 100) dX12_dearest_95 (by decide) ?_
          simp only [if_neg (c)] at kk18 ⊢
          exact kk18
      refine r_icmp_le (pc := 74) (x := (v3 - x15)) (y := v5) (tgt := 82) dX12_dearest_74 (by decide) hr16 hr17 (fun c => ?_) (fun c => ?_)
      · refine r_iload (pc := 82) (x := v4) dX12_dearest_82 rfl ?_
        simp only [if_pos (c)] at kk19 ⊢
        exact kk19
      · refine r_iload (pc := 77) (x := v6) dX12_dearest_77 rfl ?_
        refine r_goto (pc := 79) (tgt := 84) dX12_dearest_79 (by decide) ?_
        simp only [if_neg (c)] at kk19 ⊢
        exact kk19

set_option maxRecDepth 100000 in
set_option maxHeartbeats 4000000 in
theorem wX12_adopt {h : zMm} {K : Int → zMm → Prop} (w : zCv mX12_awake [.ref 81] zS0 h (fun h1 => zCi mX12_hinders [.ref 81] zS0 h1 (fun x2 h2 => (zR x2 ∧ ((x2 = 0 → zCv mX12_layWay [.ref 81] zS0 h2 (fun h4 => RR mX12_adopt 0 0 26 [some (.ref 81), none, some (.int (zI 0)), some (.int (zI 0)), some (.int (zI 0)), none] [] zS0 h4 (zQi zS0 K))) ∧ (¬ x2 = 0 → K x2 h2)))))) : zCi mX12_adopt [.ref 81] zS0 h K := by
  show RR mX12_adopt 0 0 0 [some (.ref 81), none, none, none, none, none] [] zS0 h (zQi zS0 K)
  refine r_aload_n (pc := 0) (a := 81) dX12_adopt_0 rfl ?_
  refine r_callV (μ2 := mX12_awake) (pc := 1) (as := []) (st := []) rfl s0_81 ml_X12_175 im_X12_awake se_X12_awake okX12_awake ⟨by decide, by decide⟩ dX12_adopt_1 (Nat.le_of_ble_eq_true rfl) rfl (Nat.le_of_ble_eq_true rfl) (by decide) (by decide) (zCC.mono w ?_)
  rintro r S' h1 ⟨rfl, hr, w⟩
  subst hr
  show RR mX12_adopt 0 0 4 [some (.ref 81), none, none, none, none, none] [] zS0 h1 (zQi zS0 K)
  refine r_aload_n (pc := 4) (a := 81) dX12_adopt_4 rfl ?_
  refine r_callV (μ2 := mX12_hinders) (pc := 5) (as := []) (st := []) rfl s0_81 ml_X12_270 im_X12_hinders se_X12_hinders okX12_hinders ⟨by decide, by decide⟩ dX12_adopt_5 (Nat.le_of_ble_eq_true rfl) rfl (Nat.le_of_ble_eq_true rfl) (by decide) (by decide) (zCC.mono w ?_)
  rintro r S' h2 ⟨rfl, x2, hr, w⟩
  subst hr
  show RR mX12_adopt 0 0 8 [some (.ref 81), none, none, none, none, none] [.int (zI x2)] zS0 h2 (zQi zS0 K)
  refine r_istore_n (pc := 8) (L' := [some (.ref 81), some (.int (zI x2)), none, none, none, none]) dX12_adopt_8 (by decide) rfl ?_
  refine r_iload_n (pc := 9) (x := x2) dX12_adopt_9 rfl ?_
  obtain ⟨hr3, w⟩ := w
  refine r_if_eq (pc := 10) (x := x2) (tgt := 15) dX12_adopt_10 (by decide) hr3 (fun c => ?_) (fun c => ?_)
  · have w := w.1 (c)
    refine r_aload_n (pc := 15) (a := 81) dX12_adopt_15 rfl ?_
    refine r_callV (μ2 := mX12_layWay) (pc := 16) (as := []) (st := []) rfl s0_81 ml_X12_273 im_X12_layWay se_X12_layWay okX12_layWay ⟨by decide, by decide⟩ dX12_adopt_16 (Nat.le_of_ble_eq_true rfl) rfl (Nat.le_of_ble_eq_true rfl) (by decide) (by decide) (zCC.mono w ?_)
    rintro r S' h4 ⟨rfl, hr, w⟩
    subst hr
    show RR mX12_adopt 0 0 19 [some (.ref 81), some (.int (zI x2)), none, none, none, none] [] zS0 h4 (zQi zS0 K)
    refine r_iconst (pc := 19) dX12_adopt_19 ?_
    refine r_istore_n (pc := 20) (L' := [some (.ref 81), some (.int (zI x2)), some (.int (zI 0)), none, none, none]) dX12_adopt_20 (by decide) rfl ?_
    refine r_iconst (pc := 21) dX12_adopt_21 ?_
    refine r_istore_n (pc := 22) (L' := [some (.ref 81), some (.int (zI x2)), some (.int (zI 0)), some (.int (zI 0)), none, none]) dX12_adopt_22 (by decide) rfl ?_
    refine r_iconst (pc := 23) dX12_adopt_23 ?_
    refine r_istore (pc := 24) (L' := [some (.ref 81), some (.int (zI x2)), some (.int (zI 0)), some (.int (zI 0)), some (.int (zI 0)), none]) dX12_adopt_24 (by decide) rfl ?_
    exact RR.sub (L' := [some (.ref 81), none, some (.int (zI 0)), some (.int (zI 0)), some (.int (zI 0)), none]) (zSb_of (⟨rfl, ⟨rfl, ⟨rfl, ⟨rfl, trivial⟩⟩⟩⟩)) w
  · have w := w.2 (c)
    refine r_iload_n (pc := 13) (x := x2) dX12_adopt_13 rfl ?_
    exact r_iret (st := []) (pc := 14) (x := x2) (ty := .int) dX12_adopt_14 rfl rfl rfl (by decide) ⟨rfl, _, rfl, w⟩

set_option maxRecDepth 100000 in
set_option maxHeartbeats 4000000 in
theorem bX12_adopt_26 {h : zMm} {K : Int → zMm → Prop} {v2 : Int} {v3 : Int} {v4 : Int} (w : (zR v4 ∧ (zR (h 81 36) ∧ (((h 81 36) ≤ v4 → (zR v2 ∧ ((v2 ≤ 24 → RR mX12_adopt 0 0 124 [some (.ref 81), none, some (.int (zI v2)), none, some (.int (zI 0)), none] [] zS0 (zU h 92 192 0) (zQi zS0 K)) ∧ (¬ v2 ≤ 24 → K (-3) h)))) ∧ (¬ (h 81 36) ≤ v4 → ((v4 ≤ 0 → RR mX12_adopt 0 0 26 [some (.ref 81), none, some (.int (zI (v2 + 1))), some (.int (zI 1)), some (.int (zI (v4 + 1))), none] [] zS0 h (zQi zS0 K)) ∧ (¬ v4 ≤ 0 → ((0 ≤ v4 ∧ v4 < 1000) ∧ ((0 ≤ (v4 - 1) ∧ (v4 - 1) < 1000) ∧ (zR (h 100 v4) ∧ (zR (h 100 (v4 - 1)) ∧ (zR v3 ∧ RR mX12_adopt 0 0 26 [some (.ref 81), none, some (.int (zI (v2 + (bI (if (if (h 100 v4) = (h 100 (v4 - 1)) then (if 5 ≤ v3 then false else true) else false) = true then false else true))))), some (.int (zI (if (if (h 100 v4) = (h 100 (v4 - 1)) then (if 5 ≤ v3 then false else true) else false) = true then (v3 + 1) else (1 : Int)))), some (.int (zI (v4 + 1))), none] [] zS0 h (zQi zS0 K))))))))))))) : RR mX12_adopt 0 0 26 [some (.ref 81), none, some (.int (zI v2)), some (.int (zI v3)), some (.int (zI v4)), none] [] zS0 h (zQi zS0 K) := by
  refine r_iload (pc := 26) (x := v4) dX12_adopt_26 rfl ?_
  refine r_aload_n (pc := 28) (a := 81) dX12_adopt_28 rfl ?_
  refine r_getI (pc := 29) (fi := 36) (x := (h 81 36)) fl_X12_256 dX12_adopt_29 s0_81 rfl (rfl) ?_
  obtain ⟨hr5, w⟩ := w
  obtain ⟨hr6, w⟩ := w
  refine r_icmp_ge (pc := 32) (x := v4) (y := (h 81 36)) (tgt := 103) dX12_adopt_32 (by decide) hr5 hr6 (fun c => ?_) (fun c => ?_)
  · have w := w.1 (c)
    refine r_iload_n (pc := 103) (x := v2) dX12_adopt_103 rfl ?_
    refine r_bipush (pc := 104) (x := 24) dX12_adopt_104 (by decide) ?_
    obtain ⟨hr10, w⟩ := w
    refine r_icmp_le (pc := 106) (x := v2) (y := 24) (tgt := 112) dX12_adopt_106 (by decide) hr10 (by decide) (fun c => ?_) (fun c => ?_)
    · have w := w.1 (c)
      refine r_aload_n (pc := 112) (a := 81) dX12_adopt_112 rfl ?_
      refine r_getR (pc := 113) (b := 92) fl_X12_40 dX12_adopt_113 s0_81 rfl ?_
      refine r_sipush (pc := 116) (x := 192) dX12_adopt_116 (by decide) ?_
      refine r_iconst (pc := 119) dX12_adopt_119 ?_
      refine r_iast (pc := 120) (i := 192) (x := 0) dX12_adopt_120 s0_92 (by decide)  ?_
      refine r_iconst (pc := 121) dX12_adopt_121 ?_
      refine r_istore (pc := 122) (L' := [some (.ref 81), none, some (.int (zI v2)), some (.int (zI v3)), some (.int (zI 0)), none]) dX12_adopt_122 (by decide) rfl ?_
      exact RR.sub (L' := [some (.ref 81), none, some (.int (zI v2)), none, some (.int (zI 0)), none]) (zSb_of (⟨rfl, ⟨rfl, ⟨rfl, trivial⟩⟩⟩)) w
    · have w := w.2 (c)
      refine r_bipush (pc := 109) (x := (-3)) dX12_adopt_109 (by decide) ?_
      exact r_iret (st := []) (pc := 111) (x := (-3)) (ty := .int) dX12_adopt_111 rfl rfl rfl (by decide) ⟨rfl, _, rfl, w⟩
  · have w := w.2 (c)
    refine r_iload (pc := 35) (x := v4) dX12_adopt_35 rfl ?_
    refine r_if_le (pc := 37) (x := v4) (tgt := 68) dX12_adopt_37 (by decide) hr5 (fun c => ?_) (fun c => ?_)
    · have w := w.1 (c)
      refine r_iconst (pc := 68) dX12_adopt_68 ?_
      refine r_istore (pc := 69) (L' := [some (.ref 81), none, some (.int (zI v2)), some (.int (zI v3)), some (.int (zI v4)), some (.int (zI 0))]) dX12_adopt_69 (by decide) rfl ?_
      refine r_iload_n (pc := 71) (x := v2) dX12_adopt_71 rfl ?_
      refine r_iload (pc := 72) (x := 0) dX12_adopt_72 rfl ?_
      refine r_if_eq (pc := 74) (x := 0) (tgt := 81) dX12_adopt_74 (by decide) (by decide) (fun c => ?_) (fun c => ?_)
      · refine r_iconst (pc := 81) dX12_adopt_81 ?_
        refine r_iadd (pc := 82) (x := v2) (y := 1) dX12_adopt_82 ?_
        refine r_istore_n (pc := 83) (L' := [some (.ref 81), none, some (.int (zI (v2 + 1))), some (.int (zI v3)), some (.int (zI v4)), some (.int (zI 0))]) dX12_adopt_83 (by decide) rfl ?_
        refine r_iload (pc := 84) (x := 0) dX12_adopt_84 rfl ?_
        refine r_if_eq (pc := 86) (x := 0) (tgt := 95) dX12_adopt_86 (by decide) (by decide) (fun c => ?_) (fun c => ?_)
        · refine r_iconst (pc := 95) dX12_adopt_95 ?_
          refine r_istore_n (pc := 96) (L' := [some (.ref 81), none, some (.int (zI (v2 + 1))), some (.int (zI 1)), some (.int (zI v4)), some (.int (zI 0))]) dX12_adopt_96 (by decide) rfl ?_
          refine r_iinc (pc := 97) (x := v4) (L' := [some (.ref 81), none, some (.int (zI (v2 + 1))), some (.int (zI 1)), some (.int (zI (v4 + 1))), some (.int (zI 0))]) dX12_adopt_97 rfl (by decide) rfl ?_
          refine r_goto (pc := 100) (tgt := 26) dX12_adopt_100 (by decide) ?_
          exact RR.sub (L' := [some (.ref 81), none, some (.int (zI (v2 + 1))), some (.int (zI 1)), some (.int (zI (v4 + 1))), none]) (zSb_of (⟨rfl, ⟨rfl, ⟨rfl, ⟨rfl, trivial⟩⟩⟩⟩)) w
        · exact absurd c (by decide)
      · exact absurd c (by decide)
    · have w := w.2 (c)
      refine r_aload_n (pc := 40) (a := 81) dX12_adopt_40 rfl ?_
      refine r_getR (pc := 41) (b := 100) fl_X12_64 dX12_adopt_41 s0_81 rfl ?_
      refine r_iload (pc := 44) (x := v4) dX12_adopt_44 rfl ?_
      obtain ⟨hb11, w⟩ := w
      refine r_iald (pc := 46) (i := v4) (x := (h 100 v4)) dX12_adopt_46 s0_100 ⟨hb11.1, hb11.2, (by decide)⟩ (rfl) ?_
      refine r_aload_n (pc := 47) (a := 81) dX12_adopt_47 rfl ?_
      refine r_getR (pc := 48) (b := 100) fl_X12_64 dX12_adopt_48 s0_81 rfl ?_
      refine r_iload (pc := 51) (x := v4) dX12_adopt_51 rfl ?_
      refine r_iconst (pc := 53) dX12_adopt_53 ?_
      refine r_isub (pc := 54) (x := v4) (y := 1) dX12_adopt_54 ?_
      obtain ⟨hb12, w⟩ := w
      refine r_iald (pc := 55) (i := (v4 - 1)) (x := (h 100 (v4 - 1))) dX12_adopt_55 s0_100 ⟨hb12.1, hb12.2, (by decide)⟩ (rfl) ?_
      obtain ⟨hr13, w⟩ := w
      obtain ⟨hr14, w⟩ := w
      obtain ⟨hr16, w⟩ := w
      have kk20 : RR mX12_adopt 0 0 69 [some (.ref 81), none, some (.int (zI v2)), some (.int (zI v3)), some (.int (zI v4)), none] [.int (zI (bI (if (h 100 v4) = (h 100 (v4 - 1)) then (if 5 ≤ v3 then false else true) else false)))] zS0 h (zQi zS0 K) := by
        refine r_istore (pc := 69) (L' := [some (.ref 81), none, some (.int (zI v2)), some (.int (zI v3)), some (.int (zI v4)), some (.int (zI (bI (if (h 100 v4) = (h 100 (v4 - 1)) then (if 5 ≤ v3 then false else true) else false))))]) dX12_adopt_69 (by decide) rfl ?_
        refine r_iload_n (pc := 71) (x := v2) dX12_adopt_71 rfl ?_
        refine r_iload (pc := 72) (x := (bI (if (h 100 v4) = (h 100 (v4 - 1)) then (if 5 ≤ v3 then false else true) else false))) dX12_adopt_72 rfl ?_
        have kk19 : RR mX12_adopt 0 0 82 [some (.ref 81), none, some (.int (zI v2)), some (.int (zI v3)), some (.int (zI v4)), some (.int (zI (bI (if (h 100 v4) = (h 100 (v4 - 1)) then (if 5 ≤ v3 then false else true) else false))))] [.int (zI (bI (if (if (h 100 v4) = (h 100 (v4 - 1)) then (if 5 ≤ v3 then false else true) else false) = true then false else true))), .int (zI v2)] zS0 h (zQi zS0 K) := by
          refine r_iadd (pc := 82) (x := v2) (y := (bI (if (if (h 100 v4) = (h 100 (v4 - 1)) then (if 5 ≤ v3 then false else true) else false) = true then false else true))) dX12_adopt_82 ?_
          refine r_istore_n (pc := 83) (L' := [some (.ref 81), none, some (.int (zI (v2 + (bI (if (if (h 100 v4) = (h 100 (v4 - 1)) then (if 5 ≤ v3 then false else true) else false) = true then false else true))))), some (.int (zI v3)), some (.int (zI v4)), some (.int (zI (bI (if (h 100 v4) = (h 100 (v4 - 1)) then (if 5 ≤ v3 then false else true) else false))))]) dX12_adopt_83 (by decide) rfl ?_
          refine r_iload (pc := 84) (x := (bI (if (h 100 v4) = (h 100 (v4 - 1)) then (if 5 ≤ v3 then false else true) else false))) dX12_adopt_84 rfl ?_
          have kk18 : RR mX12_adopt 0 0 96 [some (.ref 81), none, some (.int (zI (v2 + (bI (if (if (h 100 v4) = (h 100 (v4 - 1)) then (if 5 ≤ v3 then false else true) else false) = true then false else true))))), some (.int (zI v3)), some (.int (zI v4)), some (.int (zI (bI (if (h 100 v4) = (h 100 (v4 - 1)) then (if 5 ≤ v3 then false else true) else false))))] [.int (zI (if (if (h 100 v4) = (h 100 (v4 - 1)) then (if 5 ≤ v3 then false else true) else false) = true then (v3 + 1) else (1 : Int)))] zS0 h (zQi zS0 K) := by
            refine r_istore_n (pc := 96) (L' := [some (.ref 81), none, some (.int (zI (v2 + (bI (if (if (h 100 v4) = (h 100 (v4 - 1)) then (if 5 ≤ v3 then false else true) else false) = true then false else true))))), some (.int (zI (if (if (h 100 v4) = (h 100 (v4 - 1)) then (if 5 ≤ v3 then false else true) else false) = true then (v3 + 1) else (1 : Int)))), some (.int (zI v4)), some (.int (zI (bI (if (h 100 v4) = (h 100 (v4 - 1)) then (if 5 ≤ v3 then false else true) else false))))]) dX12_adopt_96 (by decide) rfl ?_
            refine r_iinc (pc := 97) (x := v4) (L' := [some (.ref 81), none, some (.int (zI (v2 + (bI (if (if (h 100 v4) = (h 100 (v4 - 1)) then (if 5 ≤ v3 then false else true) else false) = true then false else true))))), some (.int (zI (if (if (h 100 v4) = (h 100 (v4 - 1)) then (if 5 ≤ v3 then false else true) else false) = true then (v3 + 1) else (1 : Int)))), some (.int (zI (v4 + 1))), some (.int (zI (bI (if (h 100 v4) = (h 100 (v4 - 1)) then (if 5 ≤ v3 then false else true) else false))))]) dX12_adopt_97 rfl (by decide) rfl ?_
            refine r_goto (pc := 100) (tgt := 26) dX12_adopt_100 (by decide) ?_
            exact RR.sub (L' := [some (.ref 81), none, some (.int (zI (v2 + (bI (if (if (h 100 v4) = (h 100 (v4 - 1)) then (if 5 ≤ v3 then false else true) else false) = true then false else true))))), some (.int (zI (if (if (h 100 v4) = (h 100 (v4 - 1)) then (if 5 ≤ v3 then false else true) else false) = true then (v3 + 1) else (1 : Int)))), some (.int (zI (v4 + 1))), none]) (zSb_of (⟨rfl, ⟨rfl, ⟨rfl, ⟨rfl, trivial⟩⟩⟩⟩)) w
          refine r_if_eq (pc := 86) (x := (bI (if (h 100 v4) = (h 100 (v4 - 1)) then (if 5 ≤ v3 then false else true) else false))) (tgt := 95) dX12_adopt_86 (by decide) (bI_R _) (fun c => ?_) (fun c => ?_)
          · refine r_iconst (pc := 95) dX12_adopt_95 ?_
            simp only [if_neg (bI_ft (bI_0.mp c))] at kk18 ⊢
            exact kk18
          · refine r_iload_n (pc := 89) (x := v3) dX12_adopt_89 rfl ?_
            refine r_iconst (pc := 90) dX12_adopt_90 ?_
            refine r_iadd (pc := 91) (x := v3) (y := 1) dX12_adopt_91 ?_
            refine r_goto (pc := 92) (tgt := 96) dX12_adopt_92 (by decide) ?_
            simp only [if_pos (bI_n.mp c)] at kk18 ⊢
            exact kk18
        refine r_if_eq (pc := 74) (x := (bI (if (h 100 v4) = (h 100 (v4 - 1)) then (if 5 ≤ v3 then false else true) else false))) (tgt := 81) dX12_adopt_74 (by decide) (bI_R _) (fun c => ?_) (fun c => ?_)
        · refine r_iconst (pc := 81) dX12_adopt_81 ?_
          simp only [if_neg (bI_ft (bI_0.mp c))] at kk19 ⊢
          exact kk19
        · refine r_iconst (pc := 77) dX12_adopt_77 ?_
          refine r_goto (pc := 78) (tgt := 82) dX12_adopt_78 (by decide) ?_
          simp only [if_pos (bI_n.mp c)] at kk19 ⊢
          exact kk19
      refine r_icmp_ne (pc := 56) (x := (h 100 v4)) (y := (h 100 (v4 - 1))) (tgt := 68) dX12_adopt_56 (by decide) hr13 hr14 (fun c => ?_) (fun c => ?_)
      · refine r_iconst (pc := 68) dX12_adopt_68 ?_
        simp only [if_neg (c)] at kk20 ⊢
        exact kk20
      · refine r_iload_n (pc := 59) (x := v3) dX12_adopt_59 rfl ?_
        refine r_iconst (pc := 60) dX12_adopt_60 ?_
        refine r_icmp_ge (pc := 61) (x := v3) (y := 5) (tgt := 68) dX12_adopt_61 (by decide) hr16 (by decide) (fun c17 => ?_) (fun c17 => ?_)
        · refine r_iconst (pc := 68) dX12_adopt_68 ?_
          simp only [if_pos (c), if_pos (c17)] at kk20 ⊢
          exact kk20
        · refine r_iconst (pc := 64) dX12_adopt_64 ?_
          refine r_goto (pc := 65) (tgt := 69) dX12_adopt_65 (by decide) ?_
          simp only [if_pos (c), if_neg (c17)] at kk20 ⊢
          exact kk20

set_option maxRecDepth 100000 in
set_option maxHeartbeats 4000000 in
theorem bX12_adopt_124 {h : zMm} {K : Int → zMm → Prop} {v2 : Int} {v4 : Int} (w : (zR v4 ∧ (zR (h 81 36) ∧ (((h 81 36) ≤ v4 → K v2 h) ∧ (¬ (h 81 36) ≤ v4 → ((v4 ≤ 0 → ((0 ≤ v4 ∧ v4 < 1000) ∧ zCv mX12_addMove [.ref 81, .int (zI (h 100 v4)), .int (zI 1)] zS0 h (fun h24 => RR mX12_adopt 0 0 124 [some (.ref 81), none, some (.int (zI v2)), none, some (.int (zI (v4 + 1))), none] [] zS0 h24 (zQi zS0 K)))) ∧ (¬ v4 ≤ 0 → ((0 ≤ v4 ∧ v4 < 1000) ∧ ((0 ≤ (v4 - 1) ∧ (v4 - 1) < 1000) ∧ (zR (h 100 v4) ∧ (zR (h 100 (v4 - 1)) ∧ ((¬ (h 100 v4) = (h 100 (v4 - 1)) → zCv mX12_addMove [.ref 81, .int (zI (h 100 v4)), .int (zI 1)] zS0 h (fun h29 => RR mX12_adopt 0 0 124 [some (.ref 81), none, some (.int (zI v2)), none, some (.int (zI (v4 + 1))), none] [] zS0 h29 (zQi zS0 K))) ∧ ((h 100 v4) = (h 100 (v4 - 1)) → ((0 ≤ ((144 + (2 * (h 92 192))) - 1) ∧ ((144 + (2 * (h 92 192))) - 1) < 600) ∧ (zR (h 92 ((144 + (2 * (h 92 192))) - 1)) ∧ ((5 ≤ (h 92 ((144 + (2 * (h 92 192))) - 1)) → zCv mX12_addMove [.ref 81, .int (zI (h 100 v4)), .int (zI 1)] zS0 h (fun h32 => RR mX12_adopt 0 0 124 [some (.ref 81), none, some (.int (zI v2)), none, some (.int (zI (v4 + 1))), none] [] zS0 h32 (zQi zS0 K))) ∧ (¬ 5 ≤ (h 92 ((144 + (2 * (h 92 192))) - 1)) → RR mX12_adopt 0 0 124 [some (.ref 81), none, some (.int (zI v2)), none, some (.int (zI (v4 + 1))), none] [] zS0 (zU h 92 ((144 + (2 * (h 92 192))) - 1) ((h 92 ((144 + (2 * (h 92 192))) - 1)) + 1)) (zQi zS0 K)))))))))))))))))) : RR mX12_adopt 0 0 124 [some (.ref 81), none, some (.int (zI v2)), none, some (.int (zI v4)), none] [] zS0 h (zQi zS0 K) := by
  refine r_iload (pc := 124) (x := v4) dX12_adopt_124 rfl ?_
  refine r_aload_n (pc := 126) (a := 81) dX12_adopt_126 rfl ?_
  refine r_getI (pc := 127) (fi := 36) (x := (h 81 36)) fl_X12_256 dX12_adopt_127 s0_81 rfl (rfl) ?_
  obtain ⟨hr21, w⟩ := w
  obtain ⟨hr22, w⟩ := w
  refine r_icmp_ge (pc := 130) (x := v4) (y := (h 81 36)) (tgt := 218) dX12_adopt_130 (by decide) hr21 hr22 (fun c => ?_) (fun c => ?_)
  · have w := w.1 (c)
    refine r_iload_n (pc := 218) (x := v2) dX12_adopt_218 rfl ?_
    exact r_iret (st := []) (pc := 219) (x := v2) (ty := .int) dX12_adopt_219 rfl rfl rfl (by decide) ⟨rfl, _, rfl, w⟩
  · have w := w.2 (c)
    refine r_sipush (pc := 133) (x := 144) dX12_adopt_133 (by decide) ?_
    refine r_iconst (pc := 136) dX12_adopt_136 ?_
    refine r_aload_n (pc := 137) (a := 81) dX12_adopt_137 rfl ?_
    refine r_getR (pc := 138) (b := 92) fl_X12_40 dX12_adopt_138 s0_81 rfl ?_
    refine r_sipush (pc := 141) (x := 192) dX12_adopt_141 (by decide) ?_
    refine r_iald (pc := 144) (i := 192) (x := (h 92 192)) dX12_adopt_144 s0_92 (by decide) (rfl) ?_
    refine r_imul (pc := 145) (x := 2) (y := (h 92 192)) dX12_adopt_145 ?_
    refine r_iadd (pc := 146) (x := 144) (y := (2 * (h 92 192))) dX12_adopt_146 ?_
    refine r_iconst (pc := 147) dX12_adopt_147 ?_
    refine r_isub (pc := 148) (x := (144 + (2 * (h 92 192)))) (y := 1) dX12_adopt_148 ?_
    refine r_istore (pc := 149) (L' := [some (.ref 81), none, some (.int (zI v2)), none, some (.int (zI v4)), some (.int (zI ((144 + (2 * (h 92 192))) - 1)))]) dX12_adopt_149 (by decide) rfl ?_
    refine r_iload (pc := 151) (x := v4) dX12_adopt_151 rfl ?_
    refine r_if_le (pc := 153) (x := v4) (tgt := 200) dX12_adopt_153 (by decide) hr21 (fun c => ?_) (fun c => ?_)
    · have w := w.1 (c)
      refine r_aload_n (pc := 200) (a := 81) dX12_adopt_200 rfl ?_
      refine r_aload_n (pc := 201) (a := 81) dX12_adopt_201 rfl ?_
      refine r_getR (pc := 202) (b := 100) fl_X12_64 dX12_adopt_202 s0_81 rfl ?_
      refine r_iload (pc := 205) (x := v4) dX12_adopt_205 rfl ?_
      obtain ⟨hb23, w⟩ := w
      refine r_iald (pc := 207) (i := v4) (x := (h 100 v4)) dX12_adopt_207 s0_100 ⟨hb23.1, hb23.2, (by decide)⟩ (rfl) ?_
      refine r_iconst (pc := 208) dX12_adopt_208 ?_
      refine r_callV (μ2 := mX12_addMove) (pc := 209) (as := [.int (zI (h 100 v4)), .int (zI 1)]) (st := []) rfl s0_81 ml_X12_192 im_X12_addMove se_X12_addMove okX12_addMove ⟨by decide, by decide⟩ dX12_adopt_209 (Nat.le_of_ble_eq_true rfl) rfl (Nat.le_of_ble_eq_true rfl) (by decide) (by decide) (zCC.mono w ?_)
      rintro r S' h24 ⟨rfl, hr, w⟩
      subst hr
      show RR mX12_adopt 0 0 212 [some (.ref 81), none, some (.int (zI v2)), none, some (.int (zI v4)), some (.int (zI ((144 + (2 * (h 92 192))) - 1)))] [] zS0 h24 (zQi zS0 K)
      refine r_iinc (pc := 212) (x := v4) (L' := [some (.ref 81), none, some (.int (zI v2)), none, some (.int (zI (v4 + 1))), some (.int (zI ((144 + (2 * (h 92 192))) - 1)))]) dX12_adopt_212 rfl (by decide) rfl ?_
      refine r_goto (pc := 215) (tgt := 124) dX12_adopt_215 (by decide) ?_
      exact RR.sub (L' := [some (.ref 81), none, some (.int (zI v2)), none, some (.int (zI (v4 + 1))), none]) (zSb_of (⟨rfl, ⟨rfl, ⟨rfl, trivial⟩⟩⟩)) w
    · have w := w.2 (c)
      refine r_aload_n (pc := 156) (a := 81) dX12_adopt_156 rfl ?_
      refine r_getR (pc := 157) (b := 100) fl_X12_64 dX12_adopt_157 s0_81 rfl ?_
      refine r_iload (pc := 160) (x := v4) dX12_adopt_160 rfl ?_
      obtain ⟨hb25, w⟩ := w
      refine r_iald (pc := 162) (i := v4) (x := (h 100 v4)) dX12_adopt_162 s0_100 ⟨hb25.1, hb25.2, (by decide)⟩ (rfl) ?_
      refine r_aload_n (pc := 163) (a := 81) dX12_adopt_163 rfl ?_
      refine r_getR (pc := 164) (b := 100) fl_X12_64 dX12_adopt_164 s0_81 rfl ?_
      refine r_iload (pc := 167) (x := v4) dX12_adopt_167 rfl ?_
      refine r_iconst (pc := 169) dX12_adopt_169 ?_
      refine r_isub (pc := 170) (x := v4) (y := 1) dX12_adopt_170 ?_
      obtain ⟨hb26, w⟩ := w
      refine r_iald (pc := 171) (i := (v4 - 1)) (x := (h 100 (v4 - 1))) dX12_adopt_171 s0_100 ⟨hb26.1, hb26.2, (by decide)⟩ (rfl) ?_
      obtain ⟨hr27, w⟩ := w
      obtain ⟨hr28, w⟩ := w
      refine r_icmp_ne (pc := 172) (x := (h 100 v4)) (y := (h 100 (v4 - 1))) (tgt := 200) dX12_adopt_172 (by decide) hr27 hr28 (fun c => ?_) (fun c => ?_)
      · have w := w.1 (c)
        refine r_aload_n (pc := 200) (a := 81) dX12_adopt_200 rfl ?_
        refine r_aload_n (pc := 201) (a := 81) dX12_adopt_201 rfl ?_
        refine r_getR (pc := 202) (b := 100) fl_X12_64 dX12_adopt_202 s0_81 rfl ?_
        refine r_iload (pc := 205) (x := v4) dX12_adopt_205 rfl ?_
        refine r_iald (pc := 207) (i := v4) (x := (h 100 v4)) dX12_adopt_207 s0_100 ⟨by omega, by omega, (by decide)⟩ (rfl) ?_
        refine r_iconst (pc := 208) dX12_adopt_208 ?_
        refine r_callV (μ2 := mX12_addMove) (pc := 209) (as := [.int (zI (h 100 v4)), .int (zI 1)]) (st := []) rfl s0_81 ml_X12_192 im_X12_addMove se_X12_addMove okX12_addMove ⟨by decide, by decide⟩ dX12_adopt_209 (Nat.le_of_ble_eq_true rfl) rfl (Nat.le_of_ble_eq_true rfl) (by decide) (by decide) (zCC.mono w ?_)
        rintro r S' h29 ⟨rfl, hr, w⟩
        subst hr
        show RR mX12_adopt 0 0 212 [some (.ref 81), none, some (.int (zI v2)), none, some (.int (zI v4)), some (.int (zI ((144 + (2 * (h 92 192))) - 1)))] [] zS0 h29 (zQi zS0 K)
        refine r_iinc (pc := 212) (x := v4) (L' := [some (.ref 81), none, some (.int (zI v2)), none, some (.int (zI (v4 + 1))), some (.int (zI ((144 + (2 * (h 92 192))) - 1)))]) dX12_adopt_212 rfl (by decide) rfl ?_
        refine r_goto (pc := 215) (tgt := 124) dX12_adopt_215 (by decide) ?_
        exact RR.sub (L' := [some (.ref 81), none, some (.int (zI v2)), none, some (.int (zI (v4 + 1))), none]) (zSb_of (⟨rfl, ⟨rfl, ⟨rfl, trivial⟩⟩⟩)) w
      · have w := w.2 (c)
        refine r_aload_n (pc := 175) (a := 81) dX12_adopt_175 rfl ?_
        refine r_getR (pc := 176) (b := 92) fl_X12_40 dX12_adopt_176 s0_81 rfl ?_
        refine r_iload (pc := 179) (x := ((144 + (2 * (h 92 192))) - 1)) dX12_adopt_179 rfl ?_
        obtain ⟨hb30, w⟩ := w
        refine r_iald (pc := 181) (i := ((144 + (2 * (h 92 192))) - 1)) (x := (h 92 ((144 + (2 * (h 92 192))) - 1))) dX12_adopt_181 s0_92 ⟨hb30.1, hb30.2, (by decide)⟩ (rfl) ?_
        refine r_iconst (pc := 182) dX12_adopt_182 ?_
        obtain ⟨hr31, w⟩ := w
        refine r_icmp_ge (pc := 183) (x := (h 92 ((144 + (2 * (h 92 192))) - 1))) (y := 5) (tgt := 200) dX12_adopt_183 (by decide) hr31 (by decide) (fun c => ?_) (fun c => ?_)
        · have w := w.1 (c)
          refine r_aload_n (pc := 200) (a := 81) dX12_adopt_200 rfl ?_
          refine r_aload_n (pc := 201) (a := 81) dX12_adopt_201 rfl ?_
          refine r_getR (pc := 202) (b := 100) fl_X12_64 dX12_adopt_202 s0_81 rfl ?_
          refine r_iload (pc := 205) (x := v4) dX12_adopt_205 rfl ?_
          refine r_iald (pc := 207) (i := v4) (x := (h 100 v4)) dX12_adopt_207 s0_100 ⟨by omega, by omega, (by decide)⟩ (rfl) ?_
          refine r_iconst (pc := 208) dX12_adopt_208 ?_
          refine r_callV (μ2 := mX12_addMove) (pc := 209) (as := [.int (zI (h 100 v4)), .int (zI 1)]) (st := []) rfl s0_81 ml_X12_192 im_X12_addMove se_X12_addMove okX12_addMove ⟨by decide, by decide⟩ dX12_adopt_209 (Nat.le_of_ble_eq_true rfl) rfl (Nat.le_of_ble_eq_true rfl) (by decide) (by decide) (zCC.mono w ?_)
          rintro r S' h32 ⟨rfl, hr, w⟩
          subst hr
          show RR mX12_adopt 0 0 212 [some (.ref 81), none, some (.int (zI v2)), none, some (.int (zI v4)), some (.int (zI ((144 + (2 * (h 92 192))) - 1)))] [] zS0 h32 (zQi zS0 K)
          refine r_iinc (pc := 212) (x := v4) (L' := [some (.ref 81), none, some (.int (zI v2)), none, some (.int (zI (v4 + 1))), some (.int (zI ((144 + (2 * (h 92 192))) - 1)))]) dX12_adopt_212 rfl (by decide) rfl ?_
          refine r_goto (pc := 215) (tgt := 124) dX12_adopt_215 (by decide) ?_
          exact RR.sub (L' := [some (.ref 81), none, some (.int (zI v2)), none, some (.int (zI (v4 + 1))), none]) (zSb_of (⟨rfl, ⟨rfl, ⟨rfl, trivial⟩⟩⟩)) w
        · have w := w.2 (c)
          refine r_aload_n (pc := 186) (a := 81) dX12_adopt_186 rfl ?_
          refine r_getR (pc := 187) (b := 92) fl_X12_40 dX12_adopt_187 s0_81 rfl ?_
          refine r_iload (pc := 190) (x := ((144 + (2 * (h 92 192))) - 1)) dX12_adopt_190 rfl ?_
          refine r_dup2 (pc := 192) rfl rfl dX12_adopt_192 ?_
          refine r_iald (pc := 193) (i := ((144 + (2 * (h 92 192))) - 1)) (x := (h 92 ((144 + (2 * (h 92 192))) - 1))) dX12_adopt_193 s0_92 ⟨by omega, by omega, (by decide)⟩ (rfl) ?_
          refine r_iconst (pc := 194) dX12_adopt_194 ?_
          refine r_iadd (pc := 195) (x := (h 92 ((144 + (2 * (h 92 192))) - 1))) (y := 1) dX12_adopt_195 ?_
          refine r_iast (pc := 196) (i := ((144 + (2 * (h 92 192))) - 1)) (x := ((h 92 ((144 + (2 * (h 92 192))) - 1)) + 1)) dX12_adopt_196 s0_92 ⟨by omega, by omega, (by decide)⟩  ?_
          refine r_goto (pc := 197) (tgt := 212) dX12_adopt_197 (by decide) ?_
          refine r_iinc (pc := 212) (x := v4) (L' := [some (.ref 81), none, some (.int (zI v2)), none, some (.int (zI (v4 + 1))), some (.int (zI ((144 + (2 * (h 92 192))) - 1)))]) dX12_adopt_212 rfl (by decide) rfl ?_
          refine r_goto (pc := 215) (tgt := 124) dX12_adopt_215 (by decide) ?_
          exact RR.sub (L' := [some (.ref 81), none, some (.int (zI v2)), none, some (.int (zI (v4 + 1))), none]) (zSb_of (⟨rfl, ⟨rfl, ⟨rfl, trivial⟩⟩⟩)) w

set_option maxRecDepth 100000 in
set_option maxHeartbeats 4000000 in
theorem wX12_laySteps {h : zMm} {K : zMm → Prop} {v1 : Int} (w : RR mX12_laySteps 0 0 2 [some (.ref 81), some (.int (zI v1)), some (.int (zI 0)), none, none] [] zS0 h (zQv zS0 K)) : zCv mX12_laySteps [.ref 81, .int (zI v1)] zS0 h K := by
  show RR mX12_laySteps 0 0 0 [some (.ref 81), some (.int (zI v1)), none, none, none] [] zS0 h (zQv zS0 K)
  refine r_iconst (pc := 0) dX12_laySteps_0 ?_
  refine r_istore_n (pc := 1) (L' := [some (.ref 81), some (.int (zI v1)), some (.int (zI 0)), none, none]) dX12_laySteps_1 (by decide) rfl ?_
  exact w

set_option maxRecDepth 100000 in
set_option maxHeartbeats 4000000 in
theorem bX12_laySteps_2 {h : zMm} {K : zMm → Prop} {v1 : Int} {v2 : Int} (w : (zR v2 ∧ (zR v1 ∧ ((36 ≤ v2 → RR mX12_laySteps 0 0 43 [some (.ref 81), none, some (.int (zI 1)), none, none] [] zS0 h (zQv zS0 K)) ∧ (¬ 36 ≤ v2 → ((¬ v2 = v1 → ((0 ≤ v2 ∧ v2 < 36) ∧ RR mX12_laySteps 0 0 2 [some (.ref 81), some (.int (zI v1)), some (.int (zI (v2 + 1))), none, none] [] zS0 (zU h 101 v2 1000000) (zQv zS0 K))) ∧ (v2 = v1 → ((0 ≤ v1 ∧ v1 < 600) ∧ (zR (h 92 v1) ∧ ((0 ≤ v2 ∧ v2 < 36) ∧ RR mX12_laySteps 0 0 2 [some (.ref 81), some (.int (zI v1)), some (.int (zI (v2 + 1))), none, none] [] zS0 (zU h 101 v2 (if (h 92 v1) = 2 then (1000000 : Int) else (0 : Int))) (zQv zS0 K))))))))))) : RR mX12_laySteps 0 0 2 [some (.ref 81), some (.int (zI v1)), some (.int (zI v2)), none, none] [] zS0 h (zQv zS0 K) := by
  refine r_iload_n (pc := 2) (x := v2) dX12_laySteps_2 rfl ?_
  refine r_bipush (pc := 3) (x := 36) dX12_laySteps_3 (by decide) ?_
  obtain ⟨hr1, w⟩ := w
  obtain ⟨hr3, w⟩ := w
  refine r_icmp_ge (pc := 5) (x := v2) (y := 36) (tgt := 41) dX12_laySteps_5 (by decide) hr1 (by decide) (fun c => ?_) (fun c => ?_)
  · have w := w.1 (c)
    refine r_iconst (pc := 41) dX12_laySteps_41 ?_
    refine r_istore_n (pc := 42) (L' := [some (.ref 81), some (.int (zI v1)), some (.int (zI 1)), none, none]) dX12_laySteps_42 (by decide) rfl ?_
    exact RR.sub (L' := [some (.ref 81), none, some (.int (zI 1)), none, none]) (zSb_of (⟨rfl, ⟨rfl, trivial⟩⟩)) w
  · have w := w.2 (c)
    refine r_aload_n (pc := 8) (a := 81) dX12_laySteps_8 rfl ?_
    refine r_getR (pc := 9) (b := 101) fl_X12_67 dX12_laySteps_9 s0_81 rfl ?_
    refine r_iload_n (pc := 12) (x := v2) dX12_laySteps_12 rfl ?_
    refine r_iload_n (pc := 13) (x := v2) dX12_laySteps_13 rfl ?_
    refine r_iload_n (pc := 14) (x := v1) dX12_laySteps_14 rfl ?_
    refine r_icmp_ne (pc := 15) (x := v2) (y := v1) (tgt := 32) dX12_laySteps_15 (by decide) hr1 hr3 (fun c => ?_) (fun c => ?_)
    · have w := w.1 (c)
      refine r_ldcI (pc := 32) (x := 1000000) dX12_laySteps_32 kc_X12_252 ?_
      obtain ⟨hb5, w⟩ := w
      refine r_iast (pc := 34) (i := v2) (x := 1000000) dX12_laySteps_34 s0_101 ⟨hb5.1, hb5.2, (by decide)⟩  ?_
      refine r_iinc (pc := 35) (x := v2) (L' := [some (.ref 81), some (.int (zI v1)), some (.int (zI (v2 + 1))), none, none]) dX12_laySteps_35 rfl (by decide) rfl ?_
      refine r_goto (pc := 38) (tgt := 2) dX12_laySteps_38 (by decide) ?_
      exact w
    · have w := w.2 (c)
      refine r_aload_n (pc := 18) (a := 81) dX12_laySteps_18 rfl ?_
      refine r_getR (pc := 19) (b := 92) fl_X12_40 dX12_laySteps_19 s0_81 rfl ?_
      refine r_iload_n (pc := 22) (x := v1) dX12_laySteps_22 rfl ?_
      obtain ⟨hb6, w⟩ := w
      refine r_iald (pc := 23) (i := v1) (x := (h 92 v1)) dX12_laySteps_23 s0_92 ⟨hb6.1, hb6.2, (by decide)⟩ (rfl) ?_
      refine r_iconst (pc := 24) dX12_laySteps_24 ?_
      obtain ⟨hr7, w⟩ := w
      have kk9 : RR mX12_laySteps 0 0 34 [some (.ref 81), some (.int (zI v1)), some (.int (zI v2)), none, none] [.int (zI (if (h 92 v1) = 2 then (1000000 : Int) else (0 : Int))), .int (zI v2), .ref 101] zS0 h (zQv zS0 K) := by
        obtain ⟨hb8, w⟩ := w
        refine r_iast (pc := 34) (i := v2) (x := (if (h 92 v1) = 2 then (1000000 : Int) else (0 : Int))) dX12_laySteps_34 s0_101 ⟨hb8.1, hb8.2, (by decide)⟩  ?_
        refine r_iinc (pc := 35) (x := v2) (L' := [some (.ref 81), some (.int (zI v1)), some (.int (zI (v2 + 1))), none, none]) dX12_laySteps_35 rfl (by decide) rfl ?_
        refine r_goto (pc := 38) (tgt := 2) dX12_laySteps_38 (by decide) ?_
        exact w
      refine r_icmp_eq (pc := 25) (x := (h 92 v1)) (y := 2) (tgt := 32) dX12_laySteps_25 (by decide) hr7 (by decide) (fun c => ?_) (fun c => ?_)
      · refine r_ldcI (pc := 32) (x := 1000000) dX12_laySteps_32 kc_X12_252 ?_
        simp only [if_pos (c)] at kk9 ⊢
        exact kk9
      · refine r_iconst (pc := 28) dX12_laySteps_28 ?_
        refine r_goto (pc := 29) (tgt := 34) dX12_laySteps_29 (by decide) ?_
        simp only [if_neg (c)] at kk9 ⊢
        exact kk9

set_option maxRecDepth 100000 in
set_option maxHeartbeats 4000000 in
theorem bX12_laySteps_43 {h : zMm} {K : zMm → Prop} {v2 : Int} (w : (zR v2 ∧ ((v2 = 0 → K h) ∧ (¬ v2 = 0 → RR mX12_laySteps 0 0 51 [some (.ref 81), none, some (.int (zI 0)), some (.int (zI 0)), none] [] zS0 h (zQv zS0 K))))) : RR mX12_laySteps 0 0 43 [some (.ref 81), none, some (.int (zI v2)), none, none] [] zS0 h (zQv zS0 K) := by
  refine r_iload_n (pc := 43) (x := v2) dX12_laySteps_43 rfl ?_
  obtain ⟨hr10, w⟩ := w
  refine r_if_eq (pc := 44) (x := v2) (tgt := 125) dX12_laySteps_44 (by decide) hr10 (fun c => ?_) (fun c => ?_)
  · have w := w.1 (c)
    exact r_ret (st := []) (pc := 125) dX12_laySteps_125 rfl rfl (by decide) ⟨rfl, rfl, w⟩
  · have w := w.2 (c)
    refine r_iconst (pc := 47) dX12_laySteps_47 ?_
    refine r_istore_n (pc := 48) (L' := [some (.ref 81), none, some (.int (zI 0)), none, none]) dX12_laySteps_48 (by decide) rfl ?_
    refine r_iconst (pc := 49) dX12_laySteps_49 ?_
    refine r_istore_n (pc := 50) (L' := [some (.ref 81), none, some (.int (zI 0)), some (.int (zI 0)), none]) dX12_laySteps_50 (by decide) rfl ?_
    exact w

set_option maxRecDepth 100000 in
set_option maxHeartbeats 4000000 in
theorem bX12_laySteps_51 {h : zMm} {K : zMm → Prop} {v2 : Int} {v3 : Int} (w : (zR v3 ∧ ((144 ≤ v3 → RR mX12_laySteps 0 0 43 [some (.ref 81), none, some (.int (zI v2)), none, none] [] zS0 h (zQv zS0 K)) ∧ (¬ 144 ≤ v3 → ((0 ≤ v3 ∧ v3 < 2147483648) ∧ zCi mX12_nextOf [.ref 81, .int (zI (v3 / 4)), .int (zI (v3 % 4))] zS0 h (fun x13 h13 => (zR x13 ∧ ((x13 = (-4) → RR mX12_laySteps 0 0 51 [some (.ref 81), none, some (.int (zI v2)), some (.int (zI (v3 + 1))), none] [] zS0 h13 (zQv zS0 K)) ∧ (¬ x13 = (-4) → ((0 ≤ (v3 / 4) ∧ (v3 / 4) < 36) ∧ ((0 ≤ x13 ∧ x13 < 36) ∧ (zR ((h13 101 (v3 / 4)) + 1) ∧ (zR (h13 101 x13) ∧ (((h13 101 x13) ≤ ((h13 101 (v3 / 4)) + 1) → RR mX12_laySteps 0 0 51 [some (.ref 81), none, some (.int (zI v2)), some (.int (zI (v3 + 1))), none] [] zS0 h13 (zQv zS0 K)) ∧ (¬ (h13 101 x13) ≤ ((h13 101 (v3 / 4)) + 1) → RR mX12_laySteps 0 0 51 [some (.ref 81), none, some (.int (zI 1)), some (.int (zI (v3 + 1))), none] [] zS0 (zU h13 101 x13 ((h13 101 (v3 / 4)) + 1)) (zQv zS0 K)))))))))))))))) : RR mX12_laySteps 0 0 51 [some (.ref 81), none, some (.int (zI v2)), some (.int (zI v3)), none] [] zS0 h (zQv zS0 K) := by
  refine r_iload_n (pc := 51) (x := v3) dX12_laySteps_51 rfl ?_
  refine r_sipush (pc := 52) (x := 144) dX12_laySteps_52 (by decide) ?_
  obtain ⟨hr11, w⟩ := w
  refine r_icmp_ge (pc := 55) (x := v3) (y := 144) (tgt := 122) dX12_laySteps_55 (by decide) hr11 (by decide) (fun c => ?_) (fun c => ?_)
  · have w := w.1 (c)
    refine r_goto (pc := 122) (tgt := 43) dX12_laySteps_122 (by decide) ?_
    exact RR.sub (L' := [some (.ref 81), none, some (.int (zI v2)), none, none]) (zSb_of (⟨rfl, ⟨rfl, trivial⟩⟩)) w
  · have w := w.2 (c)
    refine r_aload_n (pc := 58) (a := 81) dX12_laySteps_58 rfl ?_
    refine r_iload_n (pc := 59) (x := v3) dX12_laySteps_59 rfl ?_
    refine r_iconst (pc := 60) dX12_laySteps_60 ?_
    obtain ⟨hx12, w⟩ := w
    refine r_idiv (pc := 61) (x := v3) (y := 4) dX12_laySteps_61 hx12 (by decide) ?_
    refine r_iload_n (pc := 62) (x := v3) dX12_laySteps_62 rfl ?_
    refine r_iconst (pc := 63) dX12_laySteps_63 ?_
    refine r_irem (pc := 64) (x := v3) (y := 4) dX12_laySteps_64 ⟨by omega, by omega⟩ (by decide) ?_
    refine r_callV (μ2 := mX12_nextOf) (pc := 65) (as := [.int (zI (v3 / 4)), .int (zI (v3 % 4))]) (st := []) rfl s0_81 ml_X12_202 im_X12_nextOf se_X12_nextOf okX12_nextOf ⟨by decide, by decide⟩ dX12_laySteps_65 (Nat.le_of_ble_eq_true rfl) rfl (Nat.le_of_ble_eq_true rfl) (by decide) (by decide) (zCC.mono w ?_)
    rintro r S' h13 ⟨rfl, x13, hr, w⟩
    subst hr
    show RR mX12_laySteps 0 0 68 [some (.ref 81), none, some (.int (zI v2)), some (.int (zI v3)), none] [.int (zI x13)] zS0 h13 (zQv zS0 K)
    refine r_istore (pc := 68) (L' := [some (.ref 81), none, some (.int (zI v2)), some (.int (zI v3)), some (.int (zI x13))]) dX12_laySteps_68 (by decide) rfl ?_
    refine r_iload (pc := 70) (x := x13) dX12_laySteps_70 rfl ?_
    refine r_bipush (pc := 72) (x := (-4)) dX12_laySteps_72 (by decide) ?_
    obtain ⟨hr14, w⟩ := w
    refine r_icmp_eq (pc := 74) (x := x13) (y := (-4)) (tgt := 116) dX12_laySteps_74 (by decide) hr14 (by decide) (fun c => ?_) (fun c => ?_)
    · have w := w.1 (c)
      refine r_iinc (pc := 116) (x := v3) (L' := [some (.ref 81), none, some (.int (zI v2)), some (.int (zI (v3 + 1))), some (.int (zI x13))]) dX12_laySteps_116 rfl (by decide) rfl ?_
      refine r_goto (pc := 119) (tgt := 51) dX12_laySteps_119 (by decide) ?_
      exact RR.sub (L' := [some (.ref 81), none, some (.int (zI v2)), some (.int (zI (v3 + 1))), none]) (zSb_of (⟨rfl, ⟨rfl, ⟨rfl, trivial⟩⟩⟩)) w
    · have w := w.2 (c)
      refine r_aload_n (pc := 77) (a := 81) dX12_laySteps_77 rfl ?_
      refine r_getR (pc := 78) (b := 101) fl_X12_67 dX12_laySteps_78 s0_81 rfl ?_
      refine r_iload_n (pc := 81) (x := v3) dX12_laySteps_81 rfl ?_
      refine r_iconst (pc := 82) dX12_laySteps_82 ?_
      refine r_idiv (pc := 83) (x := v3) (y := 4) dX12_laySteps_83 ⟨by omega, by omega⟩ (by decide) ?_
      obtain ⟨hb15, w⟩ := w
      refine r_iald (pc := 84) (i := (v3 / 4)) (x := (h13 101 (v3 / 4))) dX12_laySteps_84 s0_101 ⟨hb15.1, hb15.2, (by decide)⟩ (rfl) ?_
      refine r_iconst (pc := 85) dX12_laySteps_85 ?_
      refine r_iadd (pc := 86) (x := (h13 101 (v3 / 4))) (y := 1) dX12_laySteps_86 ?_
      refine r_aload_n (pc := 87) (a := 81) dX12_laySteps_87 rfl ?_
      refine r_getR (pc := 88) (b := 101) fl_X12_67 dX12_laySteps_88 s0_81 rfl ?_
      refine r_iload (pc := 91) (x := x13) dX12_laySteps_91 rfl ?_
      obtain ⟨hb16, w⟩ := w
      refine r_iald (pc := 93) (i := x13) (x := (h13 101 x13)) dX12_laySteps_93 s0_101 ⟨hb16.1, hb16.2, (by decide)⟩ (rfl) ?_
      obtain ⟨hr17, w⟩ := w
      obtain ⟨hr18, w⟩ := w
      refine r_icmp_ge (pc := 94) (x := ((h13 101 (v3 / 4)) + 1)) (y := (h13 101 x13)) (tgt := 116) dX12_laySteps_94 (by decide) hr17 hr18 (fun c => ?_) (fun c => ?_)
      · have w := w.1 (c)
        refine r_iinc (pc := 116) (x := v3) (L' := [some (.ref 81), none, some (.int (zI v2)), some (.int (zI (v3 + 1))), some (.int (zI x13))]) dX12_laySteps_116 rfl (by decide) rfl ?_
        refine r_goto (pc := 119) (tgt := 51) dX12_laySteps_119 (by decide) ?_
        exact RR.sub (L' := [some (.ref 81), none, some (.int (zI v2)), some (.int (zI (v3 + 1))), none]) (zSb_of (⟨rfl, ⟨rfl, ⟨rfl, trivial⟩⟩⟩)) w
      · have w := w.2 (c)
        refine r_aload_n (pc := 97) (a := 81) dX12_laySteps_97 rfl ?_
        refine r_getR (pc := 98) (b := 101) fl_X12_67 dX12_laySteps_98 s0_81 rfl ?_
        refine r_iload (pc := 101) (x := x13) dX12_laySteps_101 rfl ?_
        refine r_aload_n (pc := 103) (a := 81) dX12_laySteps_103 rfl ?_
        refine r_getR (pc := 104) (b := 101) fl_X12_67 dX12_laySteps_104 s0_81 rfl ?_
        refine r_iload_n (pc := 107) (x := v3) dX12_laySteps_107 rfl ?_
        refine r_iconst (pc := 108) dX12_laySteps_108 ?_
        refine r_idiv (pc := 109) (x := v3) (y := 4) dX12_laySteps_109 ⟨by omega, by omega⟩ (by decide) ?_
        refine r_iald (pc := 110) (i := (v3 / 4)) (x := (h13 101 (v3 / 4))) dX12_laySteps_110 s0_101 ⟨by omega, by omega, (by decide)⟩ (rfl) ?_
        refine r_iconst (pc := 111) dX12_laySteps_111 ?_
        refine r_iadd (pc := 112) (x := (h13 101 (v3 / 4))) (y := 1) dX12_laySteps_112 ?_
        refine r_iast (pc := 113) (i := x13) (x := ((h13 101 (v3 / 4)) + 1)) dX12_laySteps_113 s0_101 ⟨by omega, by omega, (by decide)⟩  ?_
        refine r_iconst (pc := 114) dX12_laySteps_114 ?_
        refine r_istore_n (pc := 115) (L' := [some (.ref 81), none, some (.int (zI 1)), some (.int (zI v3)), some (.int (zI x13))]) dX12_laySteps_115 (by decide) rfl ?_
        refine r_iinc (pc := 116) (x := v3) (L' := [some (.ref 81), none, some (.int (zI 1)), some (.int (zI (v3 + 1))), some (.int (zI x13))]) dX12_laySteps_116 rfl (by decide) rfl ?_
        refine r_goto (pc := 119) (tgt := 51) dX12_laySteps_119 (by decide) ?_
        exact RR.sub (L' := [some (.ref 81), none, some (.int (zI 1)), some (.int (zI (v3 + 1))), none]) (zSb_of (⟨rfl, ⟨rfl, ⟨rfl, trivial⟩⟩⟩)) w

set_option maxRecDepth 100000 in
set_option maxHeartbeats 4000000 in
theorem wX12_steps {h : zMm} {K : Int → zMm → Prop} {v1 : Int} {v2 : Int} (w : zCv mX12_awake [.ref 81] zS0 h (fun h1 => zCb mX12_isCell [.int (zI v1)] zS0 h1 (fun b2 h2 => ((b2 = false → K (-1) h2) ∧ (b2 = true → zCb mX12_isCell [.int (zI v2)] zS0 h2 (fun b3 h3 => ((b3 = true → zCv mX12_laySteps [.ref 81, .int (zI v1)] zS0 h3 (fun h4 => ((0 ≤ v2 ∧ v2 < 36) ∧ (zR (h4 101 v2) ∧ (((h4 101 v2) < 1000000 → K (h4 101 v2) h4) ∧ (¬ (h4 101 v2) < 1000000 → K (-4) h4)))))) ∧ (b3 = false → K (-1) h3)))))))) : zCi mX12_steps [.ref 81, .int (zI v1), .int (zI v2)] zS0 h K := by
  show RR mX12_steps 0 0 0 [some (.ref 81), some (.int (zI v1)), some (.int (zI v2))] [] zS0 h (zQi zS0 K)
  refine r_aload_n (pc := 0) (a := 81) dX12_steps_0 rfl ?_
  refine r_callV (μ2 := mX12_awake) (pc := 1) (as := []) (st := []) rfl s0_81 ml_X12_175 im_X12_awake se_X12_awake okX12_awake ⟨by decide, by decide⟩ dX12_steps_1 (Nat.le_of_ble_eq_true rfl) rfl (Nat.le_of_ble_eq_true rfl) (by decide) (by decide) (zCC.mono w ?_)
  rintro r S' h1 ⟨rfl, hr, w⟩
  subst hr
  show RR mX12_steps 0 0 4 [some (.ref 81), some (.int (zI v1)), some (.int (zI v2))] [] zS0 h1 (zQi zS0 K)
  refine r_iload_n (pc := 4) (x := v1) dX12_steps_4 rfl ?_
  refine r_callS (μ2 := mX12_isCell) (pc := 5) (as := [.int (zI v1)]) (st := []) ml_X12_178 sm_X12_isCell okX12_isCell ⟨by decide, by decide⟩ dX12_steps_5 (Nat.le_of_ble_eq_true rfl) rfl (Nat.le_of_ble_eq_true rfl) (by decide) (by decide) (zCC.mono w ?_)
  rintro r S' h2 ⟨rfl, b2, hr, w⟩
  subst hr
  show RR mX12_steps 0 0 8 [some (.ref 81), some (.int (zI v1)), some (.int (zI v2))] [.int (zI (bI b2))] zS0 h2 (zQi zS0 K)
  refine r_if_eq (pc := 8) (x := (bI b2)) (tgt := 18) dX12_steps_8 (by decide) (bI_R _) (fun c => ?_) (fun c => ?_)
  · have w := w.1 (bI_0.mp c)
    refine r_iconst (pc := 18) dX12_steps_18 ?_
    exact r_iret (st := []) (pc := 19) (x := (-1)) (ty := .int) dX12_steps_19 rfl rfl rfl (by decide) ⟨rfl, _, rfl, w⟩
  · have w := w.2 (bI_n.mp c)
    refine r_iload_n (pc := 11) (x := v2) dX12_steps_11 rfl ?_
    refine r_callS (μ2 := mX12_isCell) (pc := 12) (as := [.int (zI v2)]) (st := []) ml_X12_178 sm_X12_isCell okX12_isCell ⟨by decide, by decide⟩ dX12_steps_12 (Nat.le_of_ble_eq_true rfl) rfl (Nat.le_of_ble_eq_true rfl) (by decide) (by decide) (zCC.mono w ?_)
    rintro r S' h3 ⟨rfl, b3, hr, w⟩
    subst hr
    show RR mX12_steps 0 0 15 [some (.ref 81), some (.int (zI v1)), some (.int (zI v2))] [.int (zI (bI b3))] zS0 h3 (zQi zS0 K)
    refine r_if_ne (pc := 15) (x := (bI b3)) (tgt := 20) dX12_steps_15 (by decide) (bI_R _) (fun c => ?_) (fun c => ?_)
    · have w := w.1 (bI_n.mp c)
      refine r_aload_n (pc := 20) (a := 81) dX12_steps_20 rfl ?_
      refine r_iload_n (pc := 21) (x := v1) dX12_steps_21 rfl ?_
      refine r_callV (μ2 := mX12_laySteps) (pc := 22) (as := [.int (zI v1)]) (st := []) rfl s0_81 ml_X12_279 im_X12_laySteps se_X12_laySteps okX12_laySteps ⟨by decide, by decide⟩ dX12_steps_22 (Nat.le_of_ble_eq_true rfl) rfl (Nat.le_of_ble_eq_true rfl) (by decide) (by decide) (zCC.mono w ?_)
      rintro r S' h4 ⟨rfl, hr, w⟩
      subst hr
      show RR mX12_steps 0 0 25 [some (.ref 81), some (.int (zI v1)), some (.int (zI v2))] [] zS0 h4 (zQi zS0 K)
      refine r_aload_n (pc := 25) (a := 81) dX12_steps_25 rfl ?_
      refine r_getR (pc := 26) (b := 101) fl_X12_67 dX12_steps_26 s0_81 rfl ?_
      refine r_iload_n (pc := 29) (x := v2) dX12_steps_29 rfl ?_
      obtain ⟨hb5, w⟩ := w
      refine r_iald (pc := 30) (i := v2) (x := (h4 101 v2)) dX12_steps_30 s0_101 ⟨hb5.1, hb5.2, (by decide)⟩ (rfl) ?_
      refine r_ldcI (pc := 31) (x := 1000000) dX12_steps_31 kc_X12_252 ?_
      obtain ⟨hr6, w⟩ := w
      refine r_icmp_lt (pc := 33) (x := (h4 101 v2)) (y := 1000000) (tgt := 41) dX12_steps_33 (by decide) hr6 (by decide) (fun c => ?_) (fun c => ?_)
      · have w := w.1 (c)
        refine r_aload_n (pc := 41) (a := 81) dX12_steps_41 rfl ?_
        refine r_getR (pc := 42) (b := 101) fl_X12_67 dX12_steps_42 s0_81 rfl ?_
        refine r_iload_n (pc := 45) (x := v2) dX12_steps_45 rfl ?_
        refine r_iald (pc := 46) (i := v2) (x := (h4 101 v2)) dX12_steps_46 s0_101 ⟨by omega, by omega, (by decide)⟩ (rfl) ?_
        exact r_iret (st := []) (pc := 47) (x := (h4 101 v2)) (ty := .int) dX12_steps_47 rfl rfl rfl (by decide) ⟨rfl, _, rfl, w⟩
      · have w := w.2 (c)
        refine r_bipush (pc := 36) (x := (-4)) dX12_steps_36 (by decide) ?_
        refine r_goto (pc := 38) (tgt := 47) dX12_steps_38 (by decide) ?_
        exact r_iret (st := []) (pc := 47) (x := (-4)) (ty := .int) dX12_steps_47 rfl rfl rfl (by decide) ⟨rfl, _, rfl, w⟩
    · have w := w.2 (bI_0.mp c)
      refine r_iconst (pc := 18) dX12_steps_18 ?_
      exact r_iret (st := []) (pc := 19) (x := (-1)) (ty := .int) dX12_steps_19 rfl rfl rfl (by decide) ⟨rfl, _, rfl, w⟩

set_option maxRecDepth 100000 in
set_option maxHeartbeats 4000000 in
theorem wX12_beyond {h : zMm} {K : Int → zMm → Prop} (w : zCv mX12_awake [.ref 81] zS0 h (fun h1 => zCv mX12_laySteps [.ref 81, .int (zI (h1 88 0))] zS0 h1 (fun h2 => RR mX12_beyond 0 0 18 [some (.ref 81), some (.long (zJ 0)), none, some (.int (zI 0))] [] zS0 h2 (zQl zS0 K)))) : zCl mX12_beyond [.ref 81] zS0 h K := by
  show RR mX12_beyond 0 0 0 [some (.ref 81), none, none, none] [] zS0 h (zQl zS0 K)
  refine r_aload_n (pc := 0) (a := 81) dX12_beyond_0 rfl ?_
  refine r_callV (μ2 := mX12_awake) (pc := 1) (as := []) (st := []) rfl s0_81 ml_X12_175 im_X12_awake se_X12_awake okX12_awake ⟨by decide, by decide⟩ dX12_beyond_1 (Nat.le_of_ble_eq_true rfl) rfl (Nat.le_of_ble_eq_true rfl) (by decide) (by decide) (zCC.mono w ?_)
  rintro r S' h1 ⟨rfl, hr, w⟩
  subst hr
  show RR mX12_beyond 0 0 4 [some (.ref 81), none, none, none] [] zS0 h1 (zQl zS0 K)
  refine r_aload_n (pc := 4) (a := 81) dX12_beyond_4 rfl ?_
  refine r_aload_n (pc := 5) (a := 81) dX12_beyond_5 rfl ?_
  refine r_getR (pc := 6) (b := 88) fl_X12_28 dX12_beyond_6 s0_81 rfl ?_
  refine r_iconst (pc := 9) dX12_beyond_9 ?_
  refine r_iald (pc := 10) (i := 0) (x := (h1 88 0)) dX12_beyond_10 s0_88 (by decide) (rfl) ?_
  refine r_callV (μ2 := mX12_laySteps) (pc := 11) (as := [.int (zI (h1 88 0))]) (st := []) rfl s0_81 ml_X12_279 im_X12_laySteps se_X12_laySteps okX12_laySteps ⟨by decide, by decide⟩ dX12_beyond_11 (Nat.le_of_ble_eq_true rfl) rfl (Nat.le_of_ble_eq_true rfl) (by decide) (by decide) (zCC.mono w ?_)
  rintro r S' h2 ⟨rfl, hr, w⟩
  subst hr
  show RR mX12_beyond 0 0 14 [some (.ref 81), none, none, none] [] zS0 h2 (zQl zS0 K)
  refine r_lconst (pc := 14) (x := 0) dX12_beyond_14 rfl ?_
  refine r_lstore_n (pc := 15) (L' := [some (.ref 81), some (.long (zJ 0)), none, none]) dX12_beyond_15 (by decide) rfl ?_
  refine r_iconst (pc := 16) dX12_beyond_16 ?_
  refine r_istore_n (pc := 17) (L' := [some (.ref 81), some (.long (zJ 0)), none, some (.int (zI 0))]) dX12_beyond_17 (by decide) rfl ?_
  exact w

set_option maxRecDepth 100000 in
set_option maxHeartbeats 4000000 in
theorem bX12_beyond_18 {h : zMm} {K : Int → zMm → Prop} {v1 : Int} {v3 : Int} (w : (zR v3 ∧ ((36 ≤ v3 → K v1 h) ∧ (¬ 36 ≤ v3 → zCb mX12_isGrass [.ref 81, .int (zI v3)] zS0 h (fun b4 h4 => ((b4 = false → RR mX12_beyond 0 0 18 [some (.ref 81), some (.long (zJ (lO v1 0))), none, some (.int (zI (v3 + 1)))] [] zS0 h4 (zQl zS0 K)) ∧ (b4 = true → ((0 ≤ v3 ∧ v3 < 36) ∧ (zR (h4 101 v3) ∧ (zR (h4 88 5) ∧ RR mX12_beyond 0 0 18 [some (.ref 81), some (.long (zJ (lO v1 (if (h4 101 v3) ≤ (h4 88 5) then 0 else (lSl 1 v3))))), none, some (.int (zI (v3 + 1)))] [] zS0 h4 (zQl zS0 K))))))))))) : RR mX12_beyond 0 0 18 [some (.ref 81), some (.long (zJ v1)), none, some (.int (zI v3))] [] zS0 h (zQl zS0 K) := by
  refine r_iload_n (pc := 18) (x := v3) dX12_beyond_18 rfl ?_
  refine r_bipush (pc := 19) (x := 36) dX12_beyond_19 (by decide) ?_
  obtain ⟨hr3, w⟩ := w
  refine r_icmp_ge (pc := 21) (x := v3) (y := 36) (tgt := 63) dX12_beyond_21 (by decide) hr3 (by decide) (fun c => ?_) (fun c => ?_)
  · have w := w.1 (c)
    refine r_lload_n (pc := 63) (x := v1) dX12_beyond_63 rfl ?_
    exact r_lret (st := []) (pc := 64) (x := v1) dX12_beyond_64 rfl rfl (by decide) ⟨rfl, _, rfl, w⟩
  · have w := w.2 (c)
    refine r_lload_n (pc := 24) (x := v1) dX12_beyond_24 rfl ?_
    refine r_aload_n (pc := 25) (a := 81) dX12_beyond_25 rfl ?_
    refine r_iload_n (pc := 26) (x := v3) dX12_beyond_26 rfl ?_
    refine r_callV (μ2 := mX12_isGrass) (pc := 27) (as := [.int (zI v3)]) (st := [.long (zJ v1)]) rfl s0_81 ml_X12_196 im_X12_isGrass se_X12_isGrass okX12_isGrass ⟨by decide, by decide⟩ dX12_beyond_27 (Nat.le_of_ble_eq_true rfl) rfl (Nat.le_of_ble_eq_true rfl) (by decide) (by decide) (zCC.mono w ?_)
    rintro r S' h4 ⟨rfl, b4, hr, w⟩
    subst hr
    show RR mX12_beyond 0 0 30 [some (.ref 81), some (.long (zJ v1)), none, some (.int (zI v3))] [.int (zI (bI b4)), .long (zJ v1)] zS0 h4 (zQl zS0 K)
    refine r_if_eq (pc := 30) (x := (bI b4)) (tgt := 54) dX12_beyond_30 (by decide) (bI_R _) (fun c => ?_) (fun c => ?_)
    · have w := w.1 (bI_0.mp c)
      refine r_lconst (pc := 54) (x := 0) dX12_beyond_54 rfl ?_
      refine r_lor (pc := 55) (x := v1) (y := 0) dX12_beyond_55 ?_
      refine r_lstore_n (pc := 56) (L' := [some (.ref 81), some (.long (zJ (lO v1 0))), none, some (.int (zI v3))]) dX12_beyond_56 (by decide) rfl ?_
      refine r_iinc (pc := 57) (x := v3) (L' := [some (.ref 81), some (.long (zJ (lO v1 0))), none, some (.int (zI (v3 + 1)))]) dX12_beyond_57 rfl (by decide) rfl ?_
      refine r_goto (pc := 60) (tgt := 18) dX12_beyond_60 (by decide) ?_
      exact w
    · have w := w.2 (bI_n.mp c)
      refine r_aload_n (pc := 33) (a := 81) dX12_beyond_33 rfl ?_
      refine r_getR (pc := 34) (b := 101) fl_X12_67 dX12_beyond_34 s0_81 rfl ?_
      refine r_iload_n (pc := 37) (x := v3) dX12_beyond_37 rfl ?_
      obtain ⟨hb5, w⟩ := w
      refine r_iald (pc := 38) (i := v3) (x := (h4 101 v3)) dX12_beyond_38 s0_101 ⟨hb5.1, hb5.2, (by decide)⟩ (rfl) ?_
      refine r_aload_n (pc := 39) (a := 81) dX12_beyond_39 rfl ?_
      refine r_getR (pc := 40) (b := 88) fl_X12_28 dX12_beyond_40 s0_81 rfl ?_
      refine r_iconst (pc := 43) dX12_beyond_43 ?_
      refine r_iald (pc := 44) (i := 5) (x := (h4 88 5)) dX12_beyond_44 s0_88 (by decide) (rfl) ?_
      obtain ⟨hr6, w⟩ := w
      obtain ⟨hr7, w⟩ := w
      have kk8 : RR mX12_beyond 0 0 55 [some (.ref 81), some (.long (zJ v1)), none, some (.int (zI v3))] [.long (zJ (if (h4 101 v3) ≤ (h4 88 5) then 0 else (lSl 1 v3))), .long (zJ v1)] zS0 h4 (zQl zS0 K) := by
        refine r_lor (pc := 55) (x := v1) (y := (if (h4 101 v3) ≤ (h4 88 5) then 0 else (lSl 1 v3))) dX12_beyond_55 ?_
        refine r_lstore_n (pc := 56) (L' := [some (.ref 81), some (.long (zJ (lO v1 (if (h4 101 v3) ≤ (h4 88 5) then 0 else (lSl 1 v3))))), none, some (.int (zI v3))]) dX12_beyond_56 (by decide) rfl ?_
        refine r_iinc (pc := 57) (x := v3) (L' := [some (.ref 81), some (.long (zJ (lO v1 (if (h4 101 v3) ≤ (h4 88 5) then 0 else (lSl 1 v3))))), none, some (.int (zI (v3 + 1)))]) dX12_beyond_57 rfl (by decide) rfl ?_
        refine r_goto (pc := 60) (tgt := 18) dX12_beyond_60 (by decide) ?_
        exact w
      refine r_icmp_le (pc := 45) (x := (h4 101 v3)) (y := (h4 88 5)) (tgt := 54) dX12_beyond_45 (by decide) hr6 hr7 (fun c => ?_) (fun c => ?_)
      · refine r_lconst (pc := 54) (x := 0) dX12_beyond_54 rfl ?_
        simp only [if_pos (c)] at kk8 ⊢
        exact kk8
      · refine r_lconst (pc := 48) (x := 1) dX12_beyond_48 rfl ?_
        refine r_iload_n (pc := 49) (x := v3) dX12_beyond_49 rfl ?_
        refine r_lshl (pc := 50) (x := 1) (y := v3) dX12_beyond_50 ?_
        refine r_goto (pc := 51) (tgt := 55) dX12_beyond_51 (by decide) ?_
        simp only [if_neg (c)] at kk8 ⊢
        exact kk8

set_option maxRecDepth 100000 in
set_option maxHeartbeats 4000000 in
theorem wX12_middle {h : zMm} {K : Int → zMm → Prop} {v1 : Int} (w : zCv mX12_awake [.ref 81] zS0 h (fun h1 => (zR v1 ∧ zCb mX12_in [.long (zJ v1), .long (zJ 0), .long (zJ 1)] zS0 h1 (fun b3 h3 => ((b3 = true → RR mX12_middle 0 0 25 [some (.ref 81), some (.int (zI v1)), some (.int (zI (-4))), some (.int (zI 1000000)), some (.int (zI 0)), none, none] [] zS0 h3 (zQi zS0 K)) ∧ (b3 = false → K (-1) h3)))))) : zCi mX12_middle [.ref 81, .int (zI v1)] zS0 h K := by
  show RR mX12_middle 0 0 0 [some (.ref 81), some (.int (zI v1)), none, none, none, none, none] [] zS0 h (zQi zS0 K)
  refine r_aload_n (pc := 0) (a := 81) dX12_middle_0 rfl ?_
  refine r_callV (μ2 := mX12_awake) (pc := 1) (as := []) (st := []) rfl s0_81 ml_X12_175 im_X12_awake se_X12_awake okX12_awake ⟨by decide, by decide⟩ dX12_middle_1 (Nat.le_of_ble_eq_true rfl) rfl (Nat.le_of_ble_eq_true rfl) (by decide) (by decide) (zCC.mono w ?_)
  rintro r S' h1 ⟨rfl, hr, w⟩
  subst hr
  show RR mX12_middle 0 0 4 [some (.ref 81), some (.int (zI v1)), none, none, none, none, none] [] zS0 h1 (zQi zS0 K)
  refine r_iload_n (pc := 4) (x := v1) dX12_middle_4 rfl ?_
  obtain ⟨hr2, w⟩ := w
  refine r_i2l (pc := 5) (x := v1) dX12_middle_5 hr2 ?_
  refine r_lconst (pc := 6) (x := 0) dX12_middle_6 rfl ?_
  refine r_lconst (pc := 7) (x := 1) dX12_middle_7 rfl ?_
  refine r_callS (μ2 := mX12_in) (pc := 8) (as := [.long (zJ v1), .long (zJ 0), .long (zJ 1)]) (st := []) ml_X12_94 sm_X12_in okX12_in ⟨by decide, by decide⟩ dX12_middle_8 (Nat.le_of_ble_eq_true rfl) rfl (Nat.le_of_ble_eq_true rfl) (by decide) (by decide) (zCC.mono w ?_)
  rintro r S' h3 ⟨rfl, b3, hr, w⟩
  subst hr
  show RR mX12_middle 0 0 11 [some (.ref 81), some (.int (zI v1)), none, none, none, none, none] [.int (zI (bI b3))] zS0 h3 (zQi zS0 K)
  refine r_if_ne (pc := 11) (x := (bI b3)) (tgt := 16) dX12_middle_11 (by decide) (bI_R _) (fun c => ?_) (fun c => ?_)
  · have w := w.1 (bI_n.mp c)
    refine r_bipush (pc := 16) (x := (-4)) dX12_middle_16 (by decide) ?_
    refine r_istore_n (pc := 18) (L' := [some (.ref 81), some (.int (zI v1)), some (.int (zI (-4))), none, none, none, none]) dX12_middle_18 (by decide) rfl ?_
    refine r_ldcI (pc := 19) (x := 1000000) dX12_middle_19 kc_X12_252 ?_
    refine r_istore_n (pc := 21) (L' := [some (.ref 81), some (.int (zI v1)), some (.int (zI (-4))), some (.int (zI 1000000)), none, none, none]) dX12_middle_21 (by decide) rfl ?_
    refine r_iconst (pc := 22) dX12_middle_22 ?_
    refine r_istore (pc := 23) (L' := [some (.ref 81), some (.int (zI v1)), some (.int (zI (-4))), some (.int (zI 1000000)), some (.int (zI 0)), none, none]) dX12_middle_23 (by decide) rfl ?_
    exact w
  · have w := w.2 (bI_0.mp c)
    refine r_iconst (pc := 14) dX12_middle_14 ?_
    exact r_iret (st := []) (pc := 15) (x := (-1)) (ty := .int) dX12_middle_15 rfl rfl rfl (by decide) ⟨rfl, _, rfl, w⟩

set_option maxRecDepth 100000 in
set_option maxHeartbeats 4000000 in
theorem bX12_middle_25 {h : zMm} {K : Int → zMm → Prop} {v1 : Int} {v2 : Int} {v3 : Int} {v4 : Int} (w : (zR v4 ∧ ((36 ≤ v4 → (zR v2 ∧ (zR v1 ∧ K (if v2 = (-4) then v2 else (if v1 = 0 then v2 else v3)) h))) ∧ (¬ 36 ≤ v4 → zCv mX12_laySteps [.ref 81, .int (zI v4)] zS0 h (fun h10 => RR mX12_middle 0 0 44 [some (.ref 81), some (.int (zI v1)), some (.int (zI v2)), some (.int (zI v3)), some (.int (zI v4)), some (.int (zI (-1))), some (.int (zI 0))] [] zS0 h10 (zQi zS0 K)))))) : RR mX12_middle 0 0 25 [some (.ref 81), some (.int (zI v1)), some (.int (zI v2)), some (.int (zI v3)), some (.int (zI v4)), none, none] [] zS0 h (zQi zS0 K) := by
  refine r_iload (pc := 25) (x := v4) dX12_middle_25 rfl ?_
  refine r_bipush (pc := 27) (x := 36) dX12_middle_27 (by decide) ?_
  obtain ⟨hr4, w⟩ := w
  refine r_icmp_ge (pc := 29) (x := v4) (y := 36) (tgt := 151) dX12_middle_29 (by decide) hr4 (by decide) (fun c => ?_) (fun c => ?_)
  · have w := w.1 (c)
    refine r_iload_n (pc := 151) (x := v2) dX12_middle_151 rfl ?_
    refine r_bipush (pc := 152) (x := (-4)) dX12_middle_152 (by decide) ?_
    obtain ⟨hr5, w⟩ := w
    obtain ⟨hr7, w⟩ := w
    have kk9 : RR mX12_middle 0 0 166 [some (.ref 81), some (.int (zI v1)), some (.int (zI v2)), some (.int (zI v3)), some (.int (zI v4)), none, none] [.int (zI (if v2 = (-4) then v2 else (if v1 = 0 then v2 else v3)))] zS0 h (zQi zS0 K) := by
      exact r_iret (st := []) (pc := 166) (x := (if v2 = (-4) then v2 else (if v1 = 0 then v2 else v3))) (ty := .int) dX12_middle_166 rfl rfl rfl (by decide) ⟨rfl, _, rfl, w⟩
    refine r_icmp_eq (pc := 154) (x := v2) (y := (-4)) (tgt := 161) dX12_middle_154 (by decide) hr5 (by decide) (fun c => ?_) (fun c => ?_)
    · refine r_iload_n (pc := 161) (x := v2) dX12_middle_161 rfl ?_
      refine r_goto (pc := 162) (tgt := 166) dX12_middle_162 (by decide) ?_
      simp only [if_pos (c)] at kk9 ⊢
      exact kk9
    · refine r_iload_n (pc := 157) (x := v1) dX12_middle_157 rfl ?_
      refine r_if_ne (pc := 158) (x := v1) (tgt := 165) dX12_middle_158 (by decide) hr7 (fun c8 => ?_) (fun c8 => ?_)
      · refine r_iload_n (pc := 165) (x := v3) dX12_middle_165 rfl ?_
        simp only [if_neg (c), if_neg (c8)] at kk9 ⊢
        exact kk9
      · refine r_iload_n (pc := 161) (x := v2) dX12_middle_161 rfl ?_
        refine r_goto (pc := 162) (tgt := 166) dX12_middle_162 (by decide) ?_
        simp only [if_neg (c), if_pos (c8)] at kk9 ⊢
        exact kk9
  · have w := w.2 (c)
    refine r_aload_n (pc := 32) (a := 81) dX12_middle_32 rfl ?_
    refine r_iload (pc := 33) (x := v4) dX12_middle_33 rfl ?_
    refine r_callV (μ2 := mX12_laySteps) (pc := 35) (as := [.int (zI v4)]) (st := []) rfl s0_81 ml_X12_279 im_X12_laySteps se_X12_laySteps okX12_laySteps ⟨by decide, by decide⟩ dX12_middle_35 (Nat.le_of_ble_eq_true rfl) rfl (Nat.le_of_ble_eq_true rfl) (by decide) (by decide) (zCC.mono w ?_)
    rintro r S' h10 ⟨rfl, hr, w⟩
    subst hr
    show RR mX12_middle 0 0 38 [some (.ref 81), some (.int (zI v1)), some (.int (zI v2)), some (.int (zI v3)), some (.int (zI v4)), none, none] [] zS0 h10 (zQi zS0 K)
    refine r_iconst (pc := 38) dX12_middle_38 ?_
    refine r_istore (pc := 39) (L' := [some (.ref 81), some (.int (zI v1)), some (.int (zI v2)), some (.int (zI v3)), some (.int (zI v4)), some (.int (zI (-1))), none]) dX12_middle_39 (by decide) rfl ?_
    refine r_iconst (pc := 41) dX12_middle_41 ?_
    refine r_istore (pc := 42) (L' := [some (.ref 81), some (.int (zI v1)), some (.int (zI v2)), some (.int (zI v3)), some (.int (zI v4)), some (.int (zI (-1))), some (.int (zI 0))]) dX12_middle_42 (by decide) rfl ?_
    exact w

set_option maxRecDepth 100000 in
set_option maxHeartbeats 4000000 in
theorem bX12_middle_44 {h : zMm} {K : Int → zMm → Prop} {v1 : Int} {v2 : Int} {v3 : Int} {v4 : Int} {v5 : Int} {v6 : Int} (w : (zR v6 ∧ ((36 ≤ v6 → ((0 ≤ v4 ∧ v4 < 600) ∧ (zR (h 92 v4) ∧ (zR v5 ∧ (zR v3 ∧ RR mX12_middle 0 0 25 [some (.ref 81), some (.int (zI v1)), some (.int (zI (if (if (h 92 v4) = 2 then false else (if v5 < 0 then false else (if v3 ≤ v5 then false else true))) = true then v4 else v2))), some (.int (zI (if (if (h 92 v4) = 2 then false else (if v5 < 0 then false else (if v3 ≤ v5 then false else true))) = true then v5 else v3))), some (.int (zI (v4 + 1))), none, none] [] zS0 h (zQi zS0 K)))))) ∧ (¬ 36 ≤ v6 → zCb mX12_isGrass [.ref 81, .int (zI v6)] zS0 h (fun b24 h24 => ((b24 = false → RR mX12_middle 0 0 44 [some (.ref 81), some (.int (zI v1)), some (.int (zI v2)), some (.int (zI v3)), some (.int (zI v4)), some (.int (zI v5)), some (.int (zI (v6 + 1)))] [] zS0 h24 (zQi zS0 K)) ∧ (b24 = true → ((0 ≤ v6 ∧ v6 < 36) ∧ (zR (h24 101 v6) ∧ (zR v5 ∧ (((h24 101 v6) ≤ v5 → RR mX12_middle 0 0 44 [some (.ref 81), some (.int (zI v1)), some (.int (zI v2)), some (.int (zI v3)), some (.int (zI v4)), some (.int (zI v5)), some (.int (zI (v6 + 1)))] [] zS0 h24 (zQi zS0 K)) ∧ (¬ (h24 101 v6) ≤ v5 → RR mX12_middle 0 0 44 [some (.ref 81), some (.int (zI v1)), some (.int (zI v2)), some (.int (zI v3)), some (.int (zI v4)), some (.int (zI (h24 101 v6))), some (.int (zI (v6 + 1)))] [] zS0 h24 (zQi zS0 K))))))))))))) : RR mX12_middle 0 0 44 [some (.ref 81), some (.int (zI v1)), some (.int (zI v2)), some (.int (zI v3)), some (.int (zI v4)), some (.int (zI v5)), some (.int (zI v6))] [] zS0 h (zQi zS0 K) := by
  refine r_iload (pc := 44) (x := v6) dX12_middle_44 rfl ?_
  refine r_bipush (pc := 46) (x := 36) dX12_middle_46 (by decide) ?_
  obtain ⟨hr11, w⟩ := w
  refine r_icmp_ge (pc := 48) (x := v6) (y := 36) (tgt := 92) dX12_middle_48 (by decide) hr11 (by decide) (fun c => ?_) (fun c => ?_)
  · have w := w.1 (c)
    refine r_aload_n (pc := 92) (a := 81) dX12_middle_92 rfl ?_
    refine r_getR (pc := 93) (b := 92) fl_X12_40 dX12_middle_93 s0_81 rfl ?_
    refine r_iload (pc := 96) (x := v4) dX12_middle_96 rfl ?_
    obtain ⟨hb12, w⟩ := w
    refine r_iald (pc := 98) (i := v4) (x := (h 92 v4)) dX12_middle_98 s0_92 ⟨hb12.1, hb12.2, (by decide)⟩ (rfl) ?_
    refine r_iconst (pc := 99) dX12_middle_99 ?_
    obtain ⟨hr13, w⟩ := w
    obtain ⟨hr15, w⟩ := w
    obtain ⟨hr18, w⟩ := w
    have kk23 : RR mX12_middle 0 0 119 [some (.ref 81), some (.int (zI v1)), some (.int (zI v2)), some (.int (zI v3)), some (.int (zI v4)), some (.int (zI v5)), some (.int (zI v6))] [.int (zI (bI (if (h 92 v4) = 2 then false else (if v5 < 0 then false else (if v3 ≤ v5 then false else true)))))] zS0 h (zQi zS0 K) := by
      refine r_istore (pc := 119) (L' := [some (.ref 81), some (.int (zI v1)), some (.int (zI v2)), some (.int (zI v3)), some (.int (zI v4)), some (.int (zI v5)), some (.int (zI (bI (if (h 92 v4) = 2 then false else (if v5 < 0 then false else (if v3 ≤ v5 then false else true))))))]) dX12_middle_119 (by decide) rfl ?_
      refine r_iload (pc := 121) (x := (bI (if (h 92 v4) = 2 then false else (if v5 < 0 then false else (if v3 ≤ v5 then false else true))))) dX12_middle_121 rfl ?_
      have kk22 : RR mX12_middle 0 0 132 [some (.ref 81), some (.int (zI v1)), some (.int (zI v2)), some (.int (zI v3)), some (.int (zI v4)), some (.int (zI v5)), some (.int (zI (bI (if (h 92 v4) = 2 then false else (if v5 < 0 then false else (if v3 ≤ v5 then false else true))))))] [.int (zI (if (if (h 92 v4) = 2 then false else (if v5 < 0 then false else (if v3 ≤ v5 then false else true))) = true then v4 else v2))] zS0 h (zQi zS0 K) := by
        refine r_istore_n (pc := 132) (L' := [some (.ref 81), some (.int (zI v1)), some (.int (zI (if (if (h 92 v4) = 2 then false else (if v5 < 0 then false else (if v3 ≤ v5 then false else true))) = true then v4 else v2))), some (.int (zI v3)), some (.int (zI v4)), some (.int (zI v5)), some (.int (zI (bI (if (h 92 v4) = 2 then false else (if v5 < 0 then false else (if v3 ≤ v5 then false else true))))))]) dX12_middle_132 (by decide) rfl ?_
        refine r_iload (pc := 133) (x := (bI (if (h 92 v4) = 2 then false else (if v5 < 0 then false else (if v3 ≤ v5 then false else true))))) dX12_middle_133 rfl ?_
        have kk21 : RR mX12_middle 0 0 144 [some (.ref 81), some (.int (zI v1)), some (.int (zI (if (if (h 92 v4) = 2 then false else (if v5 < 0 then false else (if v3 ≤ v5 then false else true))) = true then v4 else v2))), some (.int (zI v3)), some (.int (zI v4)), some (.int (zI v5)), some (.int (zI (bI (if (h 92 v4) = 2 then false else (if v5 < 0 then false else (if v3 ≤ v5 then false else true))))))] [.int (zI (if (if (h 92 v4) = 2 then false else (if v5 < 0 then false else (if v3 ≤ v5 then false else true))) = true then v5 else v3))] zS0 h (zQi zS0 K) := by
          refine r_istore_n (pc := 144) (L' := [some (.ref 81), some (.int (zI v1)), some (.int (zI (if (if (h 92 v4) = 2 then false else (if v5 < 0 then false else (if v3 ≤ v5 then false else true))) = true then v4 else v2))), some (.int (zI (if (if (h 92 v4) = 2 then false else (if v5 < 0 then false else (if v3 ≤ v5 then false else true))) = true then v5 else v3))), some (.int (zI v4)), some (.int (zI v5)), some (.int (zI (bI (if (h 92 v4) = 2 then false else (if v5 < 0 then false else (if v3 ≤ v5 then false else true))))))]) dX12_middle_144 (by decide) rfl ?_
          refine r_iinc (pc := 145) (x := v4) (L' := [some (.ref 81), some (.int (zI v1)), some (.int (zI (if (if (h 92 v4) = 2 then false else (if v5 < 0 then false else (if v3 ≤ v5 then false else true))) = true then v4 else v2))), some (.int (zI (if (if (h 92 v4) = 2 then false else (if v5 < 0 then false else (if v3 ≤ v5 then false else true))) = true then v5 else v3))), some (.int (zI (v4 + 1))), some (.int (zI v5)), some (.int (zI (bI (if (h 92 v4) = 2 then false else (if v5 < 0 then false else (if v3 ≤ v5 then false else true))))))]) dX12_middle_145 rfl (by decide) rfl ?_
          refine r_goto (pc := 148) (tgt := 25) dX12_middle_148 (by decide) ?_
          exact RR.sub (L' := [some (.ref 81), some (.int (zI v1)), some (.int (zI (if (if (h 92 v4) = 2 then false else (if v5 < 0 then false else (if v3 ≤ v5 then false else true))) = true then v4 else v2))), some (.int (zI (if (if (h 92 v4) = 2 then false else (if v5 < 0 then false else (if v3 ≤ v5 then false else true))) = true then v5 else v3))), some (.int (zI (v4 + 1))), none, none]) (zSb_of (⟨rfl, ⟨rfl, ⟨rfl, ⟨rfl, ⟨rfl, trivial⟩⟩⟩⟩⟩)) w
        refine r_if_eq (pc := 135) (x := (bI (if (h 92 v4) = 2 then false else (if v5 < 0 then false else (if v3 ≤ v5 then false else true))))) (tgt := 143) dX12_middle_135 (by decide) (bI_R _) (fun c => ?_) (fun c => ?_)
        · refine r_iload_n (pc := 143) (x := v3) dX12_middle_143 rfl ?_
          simp only [if_neg (bI_ft (bI_0.mp c))] at kk21 ⊢
          exact kk21
        · refine r_iload (pc := 138) (x := v5) dX12_middle_138 rfl ?_
          refine r_goto (pc := 140) (tgt := 144) dX12_middle_140 (by decide) ?_
          simp only [if_pos (bI_n.mp c)] at kk21 ⊢
          exact kk21
      refine r_if_eq (pc := 123) (x := (bI (if (h 92 v4) = 2 then false else (if v5 < 0 then false else (if v3 ≤ v5 then false else true))))) (tgt := 131) dX12_middle_123 (by decide) (bI_R _) (fun c => ?_) (fun c => ?_)
      · refine r_iload_n (pc := 131) (x := v2) dX12_middle_131 rfl ?_
        simp only [if_neg (bI_ft (bI_0.mp c))] at kk22 ⊢
        exact kk22
      · refine r_iload (pc := 126) (x := v4) dX12_middle_126 rfl ?_
        refine r_goto (pc := 128) (tgt := 132) dX12_middle_128 (by decide) ?_
        simp only [if_pos (bI_n.mp c)] at kk22 ⊢
        exact kk22
    refine r_icmp_eq (pc := 100) (x := (h 92 v4)) (y := 2) (tgt := 118) dX12_middle_100 (by decide) hr13 (by decide) (fun c => ?_) (fun c => ?_)
    · refine r_iconst (pc := 118) dX12_middle_118 ?_
      simp only [if_pos (c)] at kk23 ⊢
      exact kk23
    · refine r_iload (pc := 103) (x := v5) dX12_middle_103 rfl ?_
      refine r_if_lt (pc := 105) (x := v5) (tgt := 118) dX12_middle_105 (by decide) hr15 (fun c19 => ?_) (fun c19 => ?_)
      · refine r_iconst (pc := 118) dX12_middle_118 ?_
        simp only [if_neg (c), if_pos (c19)] at kk23 ⊢
        exact kk23
      · refine r_iload (pc := 108) (x := v5) dX12_middle_108 rfl ?_
        refine r_iload_n (pc := 110) (x := v3) dX12_middle_110 rfl ?_
        refine r_icmp_ge (pc := 111) (x := v5) (y := v3) (tgt := 118) dX12_middle_111 (by decide) hr15 hr18 (fun c20 => ?_) (fun c20 => ?_)
        · refine r_iconst (pc := 118) dX12_middle_118 ?_
          simp only [if_neg (c), if_neg (c19), if_pos (c20)] at kk23 ⊢
          exact kk23
        · refine r_iconst (pc := 114) dX12_middle_114 ?_
          refine r_goto (pc := 115) (tgt := 119) dX12_middle_115 (by decide) ?_
          simp only [if_neg (c), if_neg (c19), if_neg (c20)] at kk23 ⊢
          exact kk23
  · have w := w.2 (c)
    refine r_aload_n (pc := 51) (a := 81) dX12_middle_51 rfl ?_
    refine r_iload (pc := 52) (x := v6) dX12_middle_52 rfl ?_
    refine r_callV (μ2 := mX12_isGrass) (pc := 54) (as := [.int (zI v6)]) (st := []) rfl s0_81 ml_X12_196 im_X12_isGrass se_X12_isGrass okX12_isGrass ⟨by decide, by decide⟩ dX12_middle_54 (Nat.le_of_ble_eq_true rfl) rfl (Nat.le_of_ble_eq_true rfl) (by decide) (by decide) (zCC.mono w ?_)
    rintro r S' h24 ⟨rfl, b24, hr, w⟩
    subst hr
    show RR mX12_middle 0 0 57 [some (.ref 81), some (.int (zI v1)), some (.int (zI v2)), some (.int (zI v3)), some (.int (zI v4)), some (.int (zI v5)), some (.int (zI v6))] [.int (zI (bI b24))] zS0 h24 (zQi zS0 K)
    refine r_if_eq (pc := 57) (x := (bI b24)) (tgt := 82) dX12_middle_57 (by decide) (bI_R _) (fun c => ?_) (fun c => ?_)
    · have w := w.1 (bI_0.mp c)
      refine r_iload (pc := 82) (x := v5) dX12_middle_82 rfl ?_
      refine r_istore (pc := 84) (L' := [some (.ref 81), some (.int (zI v1)), some (.int (zI v2)), some (.int (zI v3)), some (.int (zI v4)), some (.int (zI v5)), some (.int (zI v6))]) dX12_middle_84 (by decide) rfl ?_
      refine r_iinc (pc := 86) (x := v6) (L' := [some (.ref 81), some (.int (zI v1)), some (.int (zI v2)), some (.int (zI v3)), some (.int (zI v4)), some (.int (zI v5)), some (.int (zI (v6 + 1)))]) dX12_middle_86 rfl (by decide) rfl ?_
      refine r_goto (pc := 89) (tgt := 44) dX12_middle_89 (by decide) ?_
      exact w
    · have w := w.2 (bI_n.mp c)
      refine r_aload_n (pc := 60) (a := 81) dX12_middle_60 rfl ?_
      refine r_getR (pc := 61) (b := 101) fl_X12_67 dX12_middle_61 s0_81 rfl ?_
      refine r_iload (pc := 64) (x := v6) dX12_middle_64 rfl ?_
      obtain ⟨hb25, w⟩ := w
      refine r_iald (pc := 66) (i := v6) (x := (h24 101 v6)) dX12_middle_66 s0_101 ⟨hb25.1, hb25.2, (by decide)⟩ (rfl) ?_
      refine r_iload (pc := 67) (x := v5) dX12_middle_67 rfl ?_
      obtain ⟨hr26, w⟩ := w
      obtain ⟨hr27, w⟩ := w
      refine r_icmp_le (pc := 69) (x := (h24 101 v6)) (y := v5) (tgt := 82) dX12_middle_69 (by decide) hr26 hr27 (fun c => ?_) (fun c => ?_)
      · have w := w.1 (c)
        refine r_iload (pc := 82) (x := v5) dX12_middle_82 rfl ?_
        refine r_istore (pc := 84) (L' := [some (.ref 81), some (.int (zI v1)), some (.int (zI v2)), some (.int (zI v3)), some (.int (zI v4)), some (.int (zI v5)), some (.int (zI v6))]) dX12_middle_84 (by decide) rfl ?_
        refine r_iinc (pc := 86) (x := v6) (L' := [some (.ref 81), some (.int (zI v1)), some (.int (zI v2)), some (.int (zI v3)), some (.int (zI v4)), some (.int (zI v5)), some (.int (zI (v6 + 1)))]) dX12_middle_86 rfl (by decide) rfl ?_
        refine r_goto (pc := 89) (tgt := 44) dX12_middle_89 (by decide) ?_
        exact w
      · have w := w.2 (c)
        refine r_aload_n (pc := 72) (a := 81) dX12_middle_72 rfl ?_
        refine r_getR (pc := 73) (b := 101) fl_X12_67 dX12_middle_73 s0_81 rfl ?_
        refine r_iload (pc := 76) (x := v6) dX12_middle_76 rfl ?_
        refine r_iald (pc := 78) (i := v6) (x := (h24 101 v6)) dX12_middle_78 s0_101 ⟨by omega, by omega, (by decide)⟩ (rfl) ?_
        refine r_goto (pc := 79) (tgt := 84) dX12_middle_79 (by decide) ?_
        refine r_istore (pc := 84) (L' := [some (.ref 81), some (.int (zI v1)), some (.int (zI v2)), some (.int (zI v3)), some (.int (zI v4)), some (.int (zI (h24 101 v6))), some (.int (zI v6))]) dX12_middle_84 (by decide) rfl ?_
        refine r_iinc (pc := 86) (x := v6) (L' := [some (.ref 81), some (.int (zI v1)), some (.int (zI v2)), some (.int (zI v3)), some (.int (zI v4)), some (.int (zI (h24 101 v6))), some (.int (zI (v6 + 1)))]) dX12_middle_86 rfl (by decide) rfl ?_
        refine r_goto (pc := 89) (tgt := 44) dX12_middle_89 (by decide) ?_
        exact w

set_option maxRecDepth 100000 in
set_option maxHeartbeats 4000000 in
theorem wX12_begins {h : zMm} {K : zMm → Prop} {v1 : Int} {v2 : Int} {v3 : Int} (w : K (zU (zU (zU (zU (zU h 81 39 v1) 81 40 v2) 81 41 v3) 81 42 0) 81 43 (lSl 1 v1))) : zCv mX12_begins [.ref 81, .int (zI v1), .int (zI v2), .int (zI v3)] zS0 h K := by
  show RR mX12_begins 0 0 0 [some (.ref 81), some (.int (zI v1)), some (.int (zI v2)), some (.int (zI v3))] [] zS0 h (zQv zS0 K)
  refine r_aload_n (pc := 0) (a := 81) dX12_begins_0 rfl ?_
  refine r_iload_n (pc := 1) (x := v1) dX12_begins_1 rfl ?_
  refine r_putI (pc := 2) (fi := 39) (x := v1) fl_X12_282 dX12_begins_2 s0_81 rfl ?_
  refine r_aload_n (pc := 5) (a := 81) dX12_begins_5 rfl ?_
  refine r_iload_n (pc := 6) (x := v2) dX12_begins_6 rfl ?_
  refine r_putI (pc := 7) (fi := 40) (x := v2) fl_X12_285 dX12_begins_7 s0_81 rfl ?_
  refine r_aload_n (pc := 10) (a := 81) dX12_begins_10 rfl ?_
  refine r_iload_n (pc := 11) (x := v3) dX12_begins_11 rfl ?_
  refine r_putI (pc := 12) (fi := 41) (x := v3) fl_X12_288 dX12_begins_12 s0_81 rfl ?_
  refine r_aload_n (pc := 15) (a := 81) dX12_begins_15 rfl ?_
  refine r_iconst (pc := 16) dX12_begins_16 ?_
  refine r_putI (pc := 17) (fi := 42) (x := 0) fl_X12_291 dX12_begins_17 s0_81 rfl ?_
  refine r_aload_n (pc := 20) (a := 81) dX12_begins_20 rfl ?_
  refine r_lconst (pc := 21) (x := 1) dX12_begins_21 rfl ?_
  refine r_iload_n (pc := 22) (x := v1) dX12_begins_22 rfl ?_
  refine r_lshl (pc := 23) (x := 1) (y := v1) dX12_begins_23 ?_
  refine r_putJ (pc := 24) (fi := 43) (x := (lSl 1 v1)) fl_X12_294 dX12_begins_24 s0_81 rfl ?_
  exact r_ret (st := []) (pc := 27) dX12_begins_27 rfl rfl (by decide) ⟨rfl, rfl, w⟩

set_option maxRecDepth 100000 in
set_option maxHeartbeats 4000000 in
theorem wX12_robotStep {h : zMm} {K : zMm → Prop} {v1 : Int} (w : zCi mX12_nextOf [.ref 81, .int (zI (h 81 39)), .int (zI (h 81 40))] zS0 h (fun x1 h1 => (zR x1 ∧ ((x1 = (-4) → (zR v1 ∧ ((¬ v1 = 3 → K (zU (zU h1 81 42 ((h1 81 42) + 1)) 81 40 (((h1 81 40) + (if v1 = 0 then (1 : Int) else (if v1 = 1 then (3 : Int) else (2 : Int)))) % 4))) ∧ (v1 = 3 → K (zU (zU (zU h1 81 42 ((h1 81 42) + 1)) 81 41 (((h1 81 41) * 1103515245) + 12345)) 81 40 ((iSr (((h1 81 41) * 1103515245) + 12345) 16) % 4)))))) ∧ (¬ x1 = (-4) → K (zU (zU h1 81 39 x1) 81 43 (lO (h1 81 43) (lSl 1 x1)))))))) : zCv mX12_robotStep [.ref 81, .int (zI v1)] zS0 h K := by
  show RR mX12_robotStep 0 0 0 [some (.ref 81), some (.int (zI v1)), none] [] zS0 h (zQv zS0 K)
  refine r_aload_n (pc := 0) (a := 81) dX12_robotStep_0 rfl ?_
  refine r_aload_n (pc := 1) (a := 81) dX12_robotStep_1 rfl ?_
  refine r_getI (pc := 2) (fi := 39) (x := (h 81 39)) fl_X12_282 dX12_robotStep_2 s0_81 rfl (rfl) ?_
  refine r_aload_n (pc := 5) (a := 81) dX12_robotStep_5 rfl ?_
  refine r_getI (pc := 6) (fi := 40) (x := (h 81 40)) fl_X12_285 dX12_robotStep_6 s0_81 rfl (rfl) ?_
  refine r_callV (μ2 := mX12_nextOf) (pc := 9) (as := [.int (zI (h 81 39)), .int (zI (h 81 40))]) (st := []) rfl s0_81 ml_X12_202 im_X12_nextOf se_X12_nextOf okX12_nextOf ⟨by decide, by decide⟩ dX12_robotStep_9 (Nat.le_of_ble_eq_true rfl) rfl (Nat.le_of_ble_eq_true rfl) (by decide) (by decide) (zCC.mono w ?_)
  rintro r S' h1 ⟨rfl, x1, hr, w⟩
  subst hr
  show RR mX12_robotStep 0 0 12 [some (.ref 81), some (.int (zI v1)), none] [.int (zI x1)] zS0 h1 (zQv zS0 K)
  refine r_istore_n (pc := 12) (L' := [some (.ref 81), some (.int (zI v1)), some (.int (zI x1))]) dX12_robotStep_12 (by decide) rfl ?_
  refine r_iload_n (pc := 13) (x := x1) dX12_robotStep_13 rfl ?_
  refine r_bipush (pc := 14) (x := (-4)) dX12_robotStep_14 (by decide) ?_
  obtain ⟨hr2, w⟩ := w
  refine r_icmp_eq (pc := 16) (x := x1) (y := (-4)) (tgt := 37) dX12_robotStep_16 (by decide) hr2 (by decide) (fun c => ?_) (fun c => ?_)
  · have w := w.1 (c)
    refine r_aload_n (pc := 37) (a := 81) dX12_robotStep_37 rfl ?_
    refine r_dup (pc := 38) rfl dX12_robotStep_38 ?_
    refine r_getI (pc := 39) (fi := 42) (x := (h1 81 42)) fl_X12_291 dX12_robotStep_39 s0_81 rfl (rfl) ?_
    refine r_iconst (pc := 42) dX12_robotStep_42 ?_
    refine r_iadd (pc := 43) (x := (h1 81 42)) (y := 1) dX12_robotStep_43 ?_
    refine r_putI (pc := 44) (fi := 42) (x := ((h1 81 42) + 1)) fl_X12_291 dX12_robotStep_44 s0_81 rfl ?_
    refine r_iload_n (pc := 47) (x := v1) dX12_robotStep_47 rfl ?_
    refine r_iconst (pc := 48) dX12_robotStep_48 ?_
    obtain ⟨hr3, w⟩ := w
    refine r_icmp_ne (pc := 49) (x := v1) (y := 3) (tgt := 84) dX12_robotStep_49 (by decide) hr3 (by decide) (fun c => ?_) (fun c => ?_)
    · have w := w.1 (c)
      refine r_aload_n (pc := 84) (a := 81) dX12_robotStep_84 rfl ?_
      refine r_aload_n (pc := 85) (a := 81) dX12_robotStep_85 rfl ?_
      refine r_getI (pc := 86) (fi := 40) (x := (h1 81 40)) fl_X12_285 dX12_robotStep_86 s0_81 rfl (zU_ne (by omega)) ?_
      refine r_iload_n (pc := 89) (x := v1) dX12_robotStep_89 rfl ?_
      have kk7 : RR mX12_robotStep 0 0 107 [some (.ref 81), some (.int (zI v1)), some (.int (zI x1))] [.int (zI (if v1 = 0 then (1 : Int) else (if v1 = 1 then (3 : Int) else (2 : Int)))), .int (zI (h1 81 40)), .ref 81] zS0 (zU h1 81 42 ((h1 81 42) + 1)) (zQv zS0 K) := by
        refine r_iadd (pc := 107) (x := (h1 81 40)) (y := (if v1 = 0 then (1 : Int) else (if v1 = 1 then (3 : Int) else (2 : Int)))) dX12_robotStep_107 ?_
        refine r_iconst (pc := 108) dX12_robotStep_108 ?_
        refine r_iandM (pc := 109) (x := ((h1 81 40) + (if v1 = 0 then (1 : Int) else (if v1 = 1 then (3 : Int) else (2 : Int))))) (y := 3) (z := (((h1 81 40) + (if v1 = 0 then (1 : Int) else (if v1 = 1 then (3 : Int) else (2 : Int)))) % 4)) dX12_robotStep_109 (zI_mask _ 2 (by decide)) ?_
        refine r_putI (pc := 110) (fi := 40) (x := (((h1 81 40) + (if v1 = 0 then (1 : Int) else (if v1 = 1 then (3 : Int) else (2 : Int)))) % 4)) fl_X12_285 dX12_robotStep_110 s0_81 rfl ?_
        exact r_ret (st := []) (pc := 113) dX12_robotStep_113 rfl rfl (by decide) ⟨rfl, rfl, w⟩
      refine r_if_ne (pc := 90) (x := v1) (tgt := 97) dX12_robotStep_90 (by decide) hr3 (fun c => ?_) (fun c => ?_)
      · refine r_iload_n (pc := 97) (x := v1) dX12_robotStep_97 rfl ?_
        refine r_iconst (pc := 98) dX12_robotStep_98 ?_
        refine r_icmp_ne (pc := 99) (x := v1) (y := 1) (tgt := 106) dX12_robotStep_99 (by decide) hr3 (by decide) (fun c6 => ?_) (fun c6 => ?_)
        · refine r_iconst (pc := 106) dX12_robotStep_106 ?_
          simp only [if_neg (c), if_neg (c6)] at kk7 ⊢
          exact kk7
        · refine r_iconst (pc := 102) dX12_robotStep_102 ?_
          refine r_goto (pc := 103) (tgt := 107) dX12_robotStep_103 (by decide) ?_
          simp only [if_neg (c), if_pos (c6)] at kk7 ⊢
          exact kk7
      · refine r_iconst (pc := 93) dX12_robotStep_93 ?_
        refine r_goto (pc := 94) (tgt := 107) dX12_robotStep_94 (by decide) ?_
        simp only [if_pos (c)] at kk7 ⊢
        exact kk7
    · have w := w.2 (c)
      refine r_aload_n (pc := 52) (a := 81) dX12_robotStep_52 rfl ?_
      refine r_aload_n (pc := 53) (a := 81) dX12_robotStep_53 rfl ?_
      refine r_getI (pc := 54) (fi := 41) (x := (h1 81 41)) fl_X12_288 dX12_robotStep_54 s0_81 rfl (zU_ne (by omega)) ?_
      refine r_ldcW (pc := 57) (x := 1103515245) dX12_robotStep_57 kc_X12_298 ?_
      refine r_imul (pc := 60) (x := (h1 81 41)) (y := 1103515245) dX12_robotStep_60 ?_
      refine r_sipush (pc := 61) (x := 12345) dX12_robotStep_61 (by decide) ?_
      refine r_iadd (pc := 64) (x := ((h1 81 41) * 1103515245)) (y := 12345) dX12_robotStep_64 ?_
      refine r_putI (pc := 65) (fi := 41) (x := (((h1 81 41) * 1103515245) + 12345)) fl_X12_288 dX12_robotStep_65 s0_81 rfl ?_
      refine r_aload_n (pc := 68) (a := 81) dX12_robotStep_68 rfl ?_
      refine r_aload_n (pc := 69) (a := 81) dX12_robotStep_69 rfl ?_
      refine r_getI (pc := 70) (fi := 41) (x := (((h1 81 41) * 1103515245) + 12345)) fl_X12_288 dX12_robotStep_70 s0_81 rfl (zU_eq _ _ _ _) ?_
      refine r_bipush (pc := 73) (x := 16) dX12_robotStep_73 (by decide) ?_
      refine r_ishr (pc := 75) (x := (((h1 81 41) * 1103515245) + 12345)) (y := 16) dX12_robotStep_75 ?_
      refine r_iconst (pc := 76) dX12_robotStep_76 ?_
      refine r_iandM (pc := 77) (x := (iSr (((h1 81 41) * 1103515245) + 12345) 16)) (y := 3) (z := ((iSr (((h1 81 41) * 1103515245) + 12345) 16) % 4)) dX12_robotStep_77 (zI_mask _ 2 (by decide)) ?_
      refine r_putI (pc := 78) (fi := 40) (x := ((iSr (((h1 81 41) * 1103515245) + 12345) 16) % 4)) fl_X12_285 dX12_robotStep_78 s0_81 rfl ?_
      refine r_goto (pc := 81) (tgt := 113) dX12_robotStep_81 (by decide) ?_
      exact r_ret (st := []) (pc := 113) dX12_robotStep_113 rfl rfl (by decide) ⟨rfl, rfl, w⟩
  · have w := w.2 (c)
    refine r_aload_n (pc := 19) (a := 81) dX12_robotStep_19 rfl ?_
    refine r_iload_n (pc := 20) (x := x1) dX12_robotStep_20 rfl ?_
    refine r_putI (pc := 21) (fi := 39) (x := x1) fl_X12_282 dX12_robotStep_21 s0_81 rfl ?_
    refine r_aload_n (pc := 24) (a := 81) dX12_robotStep_24 rfl ?_
    refine r_dup (pc := 25) rfl dX12_robotStep_25 ?_
    refine r_getJ (pc := 26) (fi := 43) (x := (h1 81 43)) fl_X12_294 dX12_robotStep_26 s0_81 rfl (zU_ne (by omega)) ?_
    refine r_lconst (pc := 29) (x := 1) dX12_robotStep_29 rfl ?_
    refine r_iload_n (pc := 30) (x := x1) dX12_robotStep_30 rfl ?_
    refine r_lshl (pc := 31) (x := 1) (y := x1) dX12_robotStep_31 ?_
    refine r_lor (pc := 32) (x := (h1 81 43)) (y := (lSl 1 x1)) dX12_robotStep_32 ?_
    refine r_putJ (pc := 33) (fi := 43) (x := (lO (h1 81 43) (lSl 1 x1))) fl_X12_294 dX12_robotStep_33 s0_81 rfl ?_
    exact r_ret (st := []) (pc := 36) dX12_robotStep_36 rfl rfl (by decide) ⟨rfl, rfl, w⟩

set_option maxRecDepth 100000 in
set_option maxHeartbeats 4000000 in
theorem wX12_isRobot {S : zSh} {h : zMm} {K : Bool → zMm → Prop} {v0 : Int} {v1 : Int} (w : zCb mX12_isCell [.int (zI v0)] S h (fun b1 h1 => ((b1 = false → K false h1) ∧ (b1 = true → (zR v1 ∧ zCb mX12_in [.long (zJ v1), .long (zJ 0), .long (zJ 3)] S h1 (fun b3 h3 => K (if b3 = true then true else false) h3)))))) : zCb mX12_isRobot [.int (zI v0), .int (zI v1)] S h K := by
  show RR mX12_isRobot 0 0 0 [some (.int (zI v0)), some (.int (zI v1))] [] S h (zQb S K)
  refine r_iload_n (pc := 0) (x := v0) dX12_isRobot_0 rfl ?_
  refine r_callS (μ2 := mX12_isCell) (pc := 1) (as := [.int (zI v0)]) (st := []) ml_X12_178 sm_X12_isCell okX12_isCell ⟨by decide, by decide⟩ dX12_isRobot_1 (Nat.le_of_ble_eq_true rfl) rfl (Nat.le_of_ble_eq_true rfl) (by decide) (by decide) (zCC.mono w ?_)
  rintro r S' h1 ⟨rfl, b1, hr, w⟩
  subst hr
  show RR mX12_isRobot 0 0 4 [some (.int (zI v0)), some (.int (zI v1))] [.int (zI (bI b1))] S h1 (zQb S K)
  refine r_if_eq (pc := 4) (x := (bI b1)) (tgt := 23) dX12_isRobot_4 (by decide) (bI_R _) (fun c => ?_) (fun c => ?_)
  · have w := w.1 (bI_0.mp c)
    refine r_iconst (pc := 23) dX12_isRobot_23 ?_
    exact r_iret (st := []) (pc := 24) (x := 0) (ty := .boolean) dX12_isRobot_24 rfl (rfl) rfl (by decide) ⟨rfl, false, rfl, w⟩
  · have w := w.2 (bI_n.mp c)
    refine r_iload_n (pc := 7) (x := v1) dX12_isRobot_7 rfl ?_
    obtain ⟨hr2, w⟩ := w
    refine r_i2l (pc := 8) (x := v1) dX12_isRobot_8 hr2 ?_
    refine r_lconst (pc := 9) (x := 0) dX12_isRobot_9 rfl ?_
    refine r_ldcL (pc := 10) (x := 3) dX12_isRobot_10 kl_X12_182 ?_
    refine r_callS (μ2 := mX12_in) (pc := 13) (as := [.long (zJ v1), .long (zJ 0), .long (zJ 3)]) (st := []) ml_X12_94 sm_X12_in okX12_in ⟨by decide, by decide⟩ dX12_isRobot_13 (Nat.le_of_ble_eq_true rfl) rfl (Nat.le_of_ble_eq_true rfl) (by decide) (by decide) (zCC.mono w ?_)
    rintro r S' h3 ⟨rfl, b3, hr, w⟩
    subst hr
    show RR mX12_isRobot 0 0 16 [some (.int (zI v0)), some (.int (zI v1))] [.int (zI (bI b3))] S h3 (zQb S K)
    have kk4 : RR mX12_isRobot 0 0 24 [some (.int (zI v0)), some (.int (zI v1))] [.int (zI (bI (if b3 = true then true else false)))] S h3 (zQb S K) := by
      exact r_iret (st := []) (pc := 24) (x := (bI (if b3 = true then true else false))) (ty := .boolean) dX12_isRobot_24 rfl (bI_nar _) rfl (by decide) ⟨rfl, (if b3 = true then true else false), rfl, w⟩
    refine r_if_eq (pc := 16) (x := (bI b3)) (tgt := 23) dX12_isRobot_16 (by decide) (bI_R _) (fun c => ?_) (fun c => ?_)
    · refine r_iconst (pc := 23) dX12_isRobot_23 ?_
      simp only [if_neg (bI_ft (bI_0.mp c))] at kk4 ⊢
      exact kk4
    · refine r_iconst (pc := 19) dX12_isRobot_19 ?_
      refine r_goto (pc := 20) (tgt := 24) dX12_isRobot_20 (by decide) ?_
      simp only [if_pos (bI_n.mp c)] at kk4 ⊢
      exact kk4

set_option maxRecDepth 100000 in
set_option maxHeartbeats 4000000 in
theorem wX12_bitsOf {S : zSh} {h : zMm} {K : Int → zMm → Prop} {v0 : Int} (w : RR mX12_bitsOf 0 0 4 [some (.long (zJ v0)), none, some (.int (zI 0)), some (.int (zI 0))] [] S h (zQi S K)) : zCi mX12_bitsOf [.long (zJ v0)] S h K := by
  show RR mX12_bitsOf 0 0 0 [some (.long (zJ v0)), none, none, none] [] S h (zQi S K)
  refine r_iconst (pc := 0) dX12_bitsOf_0 ?_
  refine r_istore_n (pc := 1) (L' := [some (.long (zJ v0)), none, some (.int (zI 0)), none]) dX12_bitsOf_1 (by decide) rfl ?_
  refine r_iconst (pc := 2) dX12_bitsOf_2 ?_
  refine r_istore_n (pc := 3) (L' := [some (.long (zJ v0)), none, some (.int (zI 0)), some (.int (zI 0))]) dX12_bitsOf_3 (by decide) rfl ?_
  exact w

set_option maxRecDepth 100000 in
set_option maxHeartbeats 4000000 in
theorem bX12_bitsOf_4 {S : zSh} {h : zMm} {K : Int → zMm → Prop} {v0 : Int} {v2 : Int} {v3 : Int} (w : (zR v3 ∧ ((36 ≤ v3 → K v2 h) ∧ (¬ 36 ≤ v3 → (zR v2 ∧ RR mX12_bitsOf 0 0 4 [some (.long (zJ v0)), none, some (.int (zI (v2 + (lA (lSr v0 v3) 1)))), some (.int (zI (v3 + 1)))] [] S h (zQi S K)))))) : RR mX12_bitsOf 0 0 4 [some (.long (zJ v0)), none, some (.int (zI v2)), some (.int (zI v3))] [] S h (zQi S K) := by
  refine r_iload_n (pc := 4) (x := v3) dX12_bitsOf_4 rfl ?_
  refine r_bipush (pc := 5) (x := 36) dX12_bitsOf_5 (by decide) ?_
  obtain ⟨hr1, w⟩ := w
  refine r_icmp_ge (pc := 7) (x := v3) (y := 36) (tgt := 26) dX12_bitsOf_7 (by decide) hr1 (by decide) (fun c => ?_) (fun c => ?_)
  · have w := w.1 (c)
    refine r_iload_n (pc := 26) (x := v2) dX12_bitsOf_26 rfl ?_
    exact r_iret (st := []) (pc := 27) (x := v2) (ty := .int) dX12_bitsOf_27 rfl rfl rfl (by decide) ⟨rfl, _, rfl, w⟩
  · have w := w.2 (c)
    refine r_iload_n (pc := 10) (x := v2) dX12_bitsOf_10 rfl ?_
    obtain ⟨hr2, w⟩ := w
    refine r_i2l (pc := 11) (x := v2) dX12_bitsOf_11 hr2 ?_
    refine r_lload_n (pc := 12) (x := v0) dX12_bitsOf_12 rfl ?_
    refine r_iload_n (pc := 13) (x := v3) dX12_bitsOf_13 rfl ?_
    refine r_lshr (pc := 14) (x := v0) (y := v3) dX12_bitsOf_14 ?_
    refine r_lconst (pc := 15) (x := 1) dX12_bitsOf_15 rfl ?_
    refine r_land (pc := 16) (x := (lSr v0 v3)) (y := 1) dX12_bitsOf_16 ?_
    refine r_ladd (pc := 17) (x := v2) (y := (lA (lSr v0 v3) 1)) dX12_bitsOf_17 ?_
    refine r_l2i (pc := 18) (x := (v2 + (lA (lSr v0 v3) 1))) dX12_bitsOf_18 ?_
    refine r_istore_n (pc := 19) (L' := [some (.long (zJ v0)), none, some (.int (zI (v2 + (lA (lSr v0 v3) 1)))), some (.int (zI v3))]) dX12_bitsOf_19 (by decide) rfl ?_
    refine r_iinc (pc := 20) (x := v3) (L' := [some (.long (zJ v0)), none, some (.int (zI (v2 + (lA (lSr v0 v3) 1)))), some (.int (zI (v3 + 1)))]) dX12_bitsOf_20 rfl (by decide) rfl ?_
    refine r_goto (pc := 23) (tgt := 4) dX12_bitsOf_23 (by decide) ?_
    exact w

set_option maxRecDepth 100000 in
set_option maxHeartbeats 4000000 in
theorem wX12_grass {h : zMm} {K : Int → zMm → Prop} (w : RR mX12_grass 0 0 4 [some (.ref 81), some (.long (zJ 0)), none, some (.int (zI 0))] [] zS0 h (zQl zS0 K)) : zCl mX12_grass [.ref 81] zS0 h K := by
  show RR mX12_grass 0 0 0 [some (.ref 81), none, none, none] [] zS0 h (zQl zS0 K)
  refine r_lconst (pc := 0) (x := 0) dX12_grass_0 rfl ?_
  refine r_lstore_n (pc := 1) (L' := [some (.ref 81), some (.long (zJ 0)), none, none]) dX12_grass_1 (by decide) rfl ?_
  refine r_iconst (pc := 2) dX12_grass_2 ?_
  refine r_istore_n (pc := 3) (L' := [some (.ref 81), some (.long (zJ 0)), none, some (.int (zI 0))]) dX12_grass_3 (by decide) rfl ?_
  exact w

set_option maxRecDepth 100000 in
set_option maxHeartbeats 4000000 in
theorem bX12_grass_4 {h : zMm} {K : Int → zMm → Prop} {v1 : Int} {v3 : Int} (w : (zR v3 ∧ ((36 ≤ v3 → K v1 h) ∧ (¬ 36 ≤ v3 → zCb mX12_isGrass [.ref 81, .int (zI v3)] zS0 h (fun b2 h2 => RR mX12_grass 0 0 4 [some (.ref 81), some (.long (zJ (lO v1 (if b2 = true then (lSl 1 v3) else 0)))), none, some (.int (zI (v3 + 1)))] [] zS0 h2 (zQl zS0 K)))))) : RR mX12_grass 0 0 4 [some (.ref 81), some (.long (zJ v1)), none, some (.int (zI v3))] [] zS0 h (zQl zS0 K) := by
  refine r_iload_n (pc := 4) (x := v3) dX12_grass_4 rfl ?_
  refine r_bipush (pc := 5) (x := 36) dX12_grass_5 (by decide) ?_
  obtain ⟨hr1, w⟩ := w
  refine r_icmp_ge (pc := 7) (x := v3) (y := 36) (tgt := 34) dX12_grass_7 (by decide) hr1 (by decide) (fun c => ?_) (fun c => ?_)
  · have w := w.1 (c)
    refine r_lload_n (pc := 34) (x := v1) dX12_grass_34 rfl ?_
    exact r_lret (st := []) (pc := 35) (x := v1) dX12_grass_35 rfl rfl (by decide) ⟨rfl, _, rfl, w⟩
  · have w := w.2 (c)
    refine r_lload_n (pc := 10) (x := v1) dX12_grass_10 rfl ?_
    refine r_aload_n (pc := 11) (a := 81) dX12_grass_11 rfl ?_
    refine r_iload_n (pc := 12) (x := v3) dX12_grass_12 rfl ?_
    refine r_callV (μ2 := mX12_isGrass) (pc := 13) (as := [.int (zI v3)]) (st := [.long (zJ v1)]) rfl s0_81 ml_X12_196 im_X12_isGrass se_X12_isGrass okX12_isGrass ⟨by decide, by decide⟩ dX12_grass_13 (Nat.le_of_ble_eq_true rfl) rfl (Nat.le_of_ble_eq_true rfl) (by decide) (by decide) (zCC.mono w ?_)
    rintro r S' h2 ⟨rfl, b2, hr, w⟩
    subst hr
    show RR mX12_grass 0 0 16 [some (.ref 81), some (.long (zJ v1)), none, some (.int (zI v3))] [.int (zI (bI b2)), .long (zJ v1)] zS0 h2 (zQl zS0 K)
    have kk3 : RR mX12_grass 0 0 26 [some (.ref 81), some (.long (zJ v1)), none, some (.int (zI v3))] [.long (zJ (if b2 = true then (lSl 1 v3) else 0)), .long (zJ v1)] zS0 h2 (zQl zS0 K) := by
      refine r_lor (pc := 26) (x := v1) (y := (if b2 = true then (lSl 1 v3) else 0)) dX12_grass_26 ?_
      refine r_lstore_n (pc := 27) (L' := [some (.ref 81), some (.long (zJ (lO v1 (if b2 = true then (lSl 1 v3) else 0)))), none, some (.int (zI v3))]) dX12_grass_27 (by decide) rfl ?_
      refine r_iinc (pc := 28) (x := v3) (L' := [some (.ref 81), some (.long (zJ (lO v1 (if b2 = true then (lSl 1 v3) else 0)))), none, some (.int (zI (v3 + 1)))]) dX12_grass_28 rfl (by decide) rfl ?_
      refine r_goto (pc := 31) (tgt := 4) dX12_grass_31 (by decide) ?_
      exact w
    refine r_if_eq (pc := 16) (x := (bI b2)) (tgt := 25) dX12_grass_16 (by decide) (bI_R _) (fun c => ?_) (fun c => ?_)
    · refine r_lconst (pc := 25) (x := 0) dX12_grass_25 rfl ?_
      simp only [if_neg (bI_ft (bI_0.mp c))] at kk3 ⊢
      exact kk3
    · refine r_lconst (pc := 19) (x := 1) dX12_grass_19 rfl ?_
      refine r_iload_n (pc := 20) (x := v3) dX12_grass_20 rfl ?_
      refine r_lshl (pc := 21) (x := 1) (y := v3) dX12_grass_21 ?_
      refine r_goto (pc := 22) (tgt := 26) dX12_grass_22 (by decide) ?_
      simp only [if_pos (bI_n.mp c)] at kk3 ⊢
      exact kk3

set_option maxRecDepth 100000 in
set_option maxHeartbeats 4000000 in
theorem wX12_robot {h : zMm} {K : Int → zMm → Prop} {v1 : Int} {v2 : Int} {v3 : Int} {v4 : Int} {v5 : Int} {v6 : Int} (w : zCv mX12_awake [.ref 81] zS0 h (fun h1 => zCb mX12_isRobot [.int (zI v1), .int (zI v2)] zS0 h1 (fun b2 h2 => ((b2 = false → K (-1) h2) ∧ (b2 = true → (zR v3 ∧ zCb mX12_in [.long (zJ v3), .long (zJ 0), .long (zJ 3)] zS0 h2 (fun b4 h4 => ((b4 = false → K (-1) h4) ∧ (b4 = true → zCb mX12_isMinute [.int (zI v5)] zS0 h4 (fun b5 h5 => ((b5 = false → K (-1) h5) ∧ (b5 = true → (zR v6 ∧ zCb mX12_in [.long (zJ v6), .long (zJ 0), .long (zJ 5)] zS0 h5 (fun b7 h7 => ((b7 = true → ((0 ≤ v1 ∧ v1 < 600) ∧ (zR (h7 92 v1) ∧ ((¬ (h7 92 v1) = 2 → zCv mX12_begins [.ref 81, .int (zI v1), .int (zI v2), .int (zI v4)] zS0 h7 (fun h10 => RR mX12_robot 0 0 74 [some (.ref 81), none, none, some (.int (zI v3)), none, some (.int (zI v5)), some (.int (zI v6)), some (.int (zI 0))] [] zS0 h10 (zQl zS0 K))) ∧ ((h7 92 v1) = 2 → K (-2) h7))))) ∧ (b7 = false → K (-1) h7)))))))))))))))) : zCl mX12_robot [.ref 81, .int (zI v1), .int (zI v2), .int (zI v3), .int (zI v4), .int (zI v5), .int (zI v6)] zS0 h K := by
  show RR mX12_robot 0 0 0 [some (.ref 81), some (.int (zI v1)), some (.int (zI v2)), some (.int (zI v3)), some (.int (zI v4)), some (.int (zI v5)), some (.int (zI v6)), none] [] zS0 h (zQl zS0 K)
  refine r_aload_n (pc := 0) (a := 81) dX12_robot_0 rfl ?_
  refine r_callV (μ2 := mX12_awake) (pc := 1) (as := []) (st := []) rfl s0_81 ml_X12_175 im_X12_awake se_X12_awake okX12_awake ⟨by decide, by decide⟩ dX12_robot_1 (Nat.le_of_ble_eq_true rfl) rfl (Nat.le_of_ble_eq_true rfl) (by decide) (by decide) (zCC.mono w ?_)
  rintro r S' h1 ⟨rfl, hr, w⟩
  subst hr
  show RR mX12_robot 0 0 4 [some (.ref 81), some (.int (zI v1)), some (.int (zI v2)), some (.int (zI v3)), some (.int (zI v4)), some (.int (zI v5)), some (.int (zI v6)), none] [] zS0 h1 (zQl zS0 K)
  refine r_iload_n (pc := 4) (x := v1) dX12_robot_4 rfl ?_
  refine r_iload_n (pc := 5) (x := v2) dX12_robot_5 rfl ?_
  refine r_callS (μ2 := mX12_isRobot) (pc := 6) (as := [.int (zI v1), .int (zI v2)]) (st := []) ml_X12_299 sm_X12_isRobot okX12_isRobot ⟨by decide, by decide⟩ dX12_robot_6 (Nat.le_of_ble_eq_true rfl) rfl (Nat.le_of_ble_eq_true rfl) (by decide) (by decide) (zCC.mono w ?_)
  rintro r S' h2 ⟨rfl, b2, hr, w⟩
  subst hr
  show RR mX12_robot 0 0 9 [some (.ref 81), some (.int (zI v1)), some (.int (zI v2)), some (.int (zI v3)), some (.int (zI v4)), some (.int (zI v5)), some (.int (zI v6)), none] [.int (zI (bI b2))] zS0 h2 (zQl zS0 K)
  refine r_if_eq (pc := 9) (x := (bI b2)) (tgt := 45) dX12_robot_9 (by decide) (bI_R _) (fun c => ?_) (fun c => ?_)
  · have w := w.1 (bI_0.mp c)
    refine r_ldcL (pc := 45) (x := (-1)) dX12_robot_45 kl_X12_237 ?_
    exact r_lret (st := []) (pc := 48) (x := (-1)) dX12_robot_48 rfl rfl (by decide) ⟨rfl, _, rfl, w⟩
  · have w := w.2 (bI_n.mp c)
    refine r_iload_n (pc := 12) (x := v3) dX12_robot_12 rfl ?_
    obtain ⟨hr3, w⟩ := w
    refine r_i2l (pc := 13) (x := v3) dX12_robot_13 hr3 ?_
    refine r_lconst (pc := 14) (x := 0) dX12_robot_14 rfl ?_
    refine r_ldcL (pc := 15) (x := 3) dX12_robot_15 kl_X12_182 ?_
    refine r_callS (μ2 := mX12_in) (pc := 18) (as := [.long (zJ v3), .long (zJ 0), .long (zJ 3)]) (st := []) ml_X12_94 sm_X12_in okX12_in ⟨by decide, by decide⟩ dX12_robot_18 (Nat.le_of_ble_eq_true rfl) rfl (Nat.le_of_ble_eq_true rfl) (by decide) (by decide) (zCC.mono w ?_)
    rintro r S' h4 ⟨rfl, b4, hr, w⟩
    subst hr
    show RR mX12_robot 0 0 21 [some (.ref 81), some (.int (zI v1)), some (.int (zI v2)), some (.int (zI v3)), some (.int (zI v4)), some (.int (zI v5)), some (.int (zI v6)), none] [.int (zI (bI b4))] zS0 h4 (zQl zS0 K)
    refine r_if_eq (pc := 21) (x := (bI b4)) (tgt := 45) dX12_robot_21 (by decide) (bI_R _) (fun c => ?_) (fun c => ?_)
    · have w := w.1 (bI_0.mp c)
      refine r_ldcL (pc := 45) (x := (-1)) dX12_robot_45 kl_X12_237 ?_
      exact r_lret (st := []) (pc := 48) (x := (-1)) dX12_robot_48 rfl rfl (by decide) ⟨rfl, _, rfl, w⟩
    · have w := w.2 (bI_n.mp c)
      refine r_iload (pc := 24) (x := v5) dX12_robot_24 rfl ?_
      refine r_callS (μ2 := mX12_isMinute) (pc := 26) (as := [.int (zI v5)]) (st := []) ml_X12_214 sm_X12_isMinute okX12_isMinute ⟨by decide, by decide⟩ dX12_robot_26 (Nat.le_of_ble_eq_true rfl) rfl (Nat.le_of_ble_eq_true rfl) (by decide) (by decide) (zCC.mono w ?_)
      rintro r S' h5 ⟨rfl, b5, hr, w⟩
      subst hr
      show RR mX12_robot 0 0 29 [some (.ref 81), some (.int (zI v1)), some (.int (zI v2)), some (.int (zI v3)), some (.int (zI v4)), some (.int (zI v5)), some (.int (zI v6)), none] [.int (zI (bI b5))] zS0 h5 (zQl zS0 K)
      refine r_if_eq (pc := 29) (x := (bI b5)) (tgt := 45) dX12_robot_29 (by decide) (bI_R _) (fun c => ?_) (fun c => ?_)
      · have w := w.1 (bI_0.mp c)
        refine r_ldcL (pc := 45) (x := (-1)) dX12_robot_45 kl_X12_237 ?_
        exact r_lret (st := []) (pc := 48) (x := (-1)) dX12_robot_48 rfl rfl (by decide) ⟨rfl, _, rfl, w⟩
      · have w := w.2 (bI_n.mp c)
        refine r_iload (pc := 32) (x := v6) dX12_robot_32 rfl ?_
        obtain ⟨hr6, w⟩ := w
        refine r_i2l (pc := 34) (x := v6) dX12_robot_34 hr6 ?_
        refine r_lconst (pc := 35) (x := 0) dX12_robot_35 rfl ?_
        refine r_ldcL (pc := 36) (x := 5) dX12_robot_36 kl_X12_186 ?_
        refine r_callS (μ2 := mX12_in) (pc := 39) (as := [.long (zJ v6), .long (zJ 0), .long (zJ 5)]) (st := []) ml_X12_94 sm_X12_in okX12_in ⟨by decide, by decide⟩ dX12_robot_39 (Nat.le_of_ble_eq_true rfl) rfl (Nat.le_of_ble_eq_true rfl) (by decide) (by decide) (zCC.mono w ?_)
        rintro r S' h7 ⟨rfl, b7, hr, w⟩
        subst hr
        show RR mX12_robot 0 0 42 [some (.ref 81), some (.int (zI v1)), some (.int (zI v2)), some (.int (zI v3)), some (.int (zI v4)), some (.int (zI v5)), some (.int (zI v6)), none] [.int (zI (bI b7))] zS0 h7 (zQl zS0 K)
        refine r_if_ne (pc := 42) (x := (bI b7)) (tgt := 49) dX12_robot_42 (by decide) (bI_R _) (fun c => ?_) (fun c => ?_)
        · have w := w.1 (bI_n.mp c)
          refine r_aload_n (pc := 49) (a := 81) dX12_robot_49 rfl ?_
          refine r_getR (pc := 50) (b := 92) fl_X12_40 dX12_robot_50 s0_81 rfl ?_
          refine r_iload_n (pc := 53) (x := v1) dX12_robot_53 rfl ?_
          obtain ⟨hb8, w⟩ := w
          refine r_iald (pc := 54) (i := v1) (x := (h7 92 v1)) dX12_robot_54 s0_92 ⟨hb8.1, hb8.2, (by decide)⟩ (rfl) ?_
          refine r_iconst (pc := 55) dX12_robot_55 ?_
          obtain ⟨hr9, w⟩ := w
          refine r_icmp_ne (pc := 56) (x := (h7 92 v1)) (y := 2) (tgt := 63) dX12_robot_56 (by decide) hr9 (by decide) (fun c => ?_) (fun c => ?_)
          · have w := w.1 (c)
            refine r_aload_n (pc := 63) (a := 81) dX12_robot_63 rfl ?_
            refine r_iload_n (pc := 64) (x := v1) dX12_robot_64 rfl ?_
            refine r_iload_n (pc := 65) (x := v2) dX12_robot_65 rfl ?_
            refine r_iload (pc := 66) (x := v4) dX12_robot_66 rfl ?_
            refine r_callV (μ2 := mX12_begins) (pc := 68) (as := [.int (zI v1), .int (zI v2), .int (zI v4)]) (st := []) rfl s0_81 ml_X12_304 im_X12_begins se_X12_begins okX12_begins ⟨by decide, by decide⟩ dX12_robot_68 (Nat.le_of_ble_eq_true rfl) rfl (Nat.le_of_ble_eq_true rfl) (by decide) (by decide) (zCC.mono w ?_)
            rintro r S' h10 ⟨rfl, hr, w⟩
            subst hr
            show RR mX12_robot 0 0 71 [some (.ref 81), some (.int (zI v1)), some (.int (zI v2)), some (.int (zI v3)), some (.int (zI v4)), some (.int (zI v5)), some (.int (zI v6)), none] [] zS0 h10 (zQl zS0 K)
            refine r_iconst (pc := 71) dX12_robot_71 ?_
            refine r_istore (pc := 72) (L' := [some (.ref 81), some (.int (zI v1)), some (.int (zI v2)), some (.int (zI v3)), some (.int (zI v4)), some (.int (zI v5)), some (.int (zI v6)), some (.int (zI 0))]) dX12_robot_72 (by decide) rfl ?_
            exact RR.sub (L' := [some (.ref 81), none, none, some (.int (zI v3)), none, some (.int (zI v5)), some (.int (zI v6)), some (.int (zI 0))]) (zSb_of (⟨rfl, ⟨rfl, ⟨rfl, ⟨rfl, ⟨rfl, trivial⟩⟩⟩⟩⟩)) w
          · have w := w.2 (c)
            refine r_ldcL (pc := 59) (x := (-2)) dX12_robot_59 kl_X12_302 ?_
            exact r_lret (st := []) (pc := 62) (x := (-2)) dX12_robot_62 rfl rfl (by decide) ⟨rfl, _, rfl, w⟩
        · have w := w.2 (bI_0.mp c)
          refine r_ldcL (pc := 45) (x := (-1)) dX12_robot_45 kl_X12_237 ?_
          exact r_lret (st := []) (pc := 48) (x := (-1)) dX12_robot_48 rfl rfl (by decide) ⟨rfl, _, rfl, w⟩

set_option maxRecDepth 100000 in
set_option maxHeartbeats 4000000 in
theorem bX12_robot_74 {h : zMm} {K : Int → zMm → Prop} {v3 : Int} {v5 : Int} {v6 : Int} {v7 : Int} (w : (zR v7 ∧ (zR v5 ∧ ((v5 ≤ v7 → (zR v6 ∧ ((¬ v6 = 0 → ((¬ v6 = 1 → ((¬ v6 = 2 → ((¬ v6 = 3 → ((¬ v6 = 4 → (zR (h 81 41) ∧ K (h 81 41) h)) ∧ (v6 = 4 → (zR (h 81 42) ∧ K (h 81 42) h)))) ∧ (v6 = 3 → K (h 81 43) h))) ∧ (v6 = 2 → zCi mX12_bitsOf [.long (zJ (h 81 43))] zS0 h (fun x26 h26 => (zR x26 ∧ K x26 h26))))) ∧ (v6 = 1 → (zR (h 81 40) ∧ K (h 81 40) h)))) ∧ (v6 = 0 → (zR (h 81 39) ∧ K (h 81 39) h))))) ∧ (¬ v5 ≤ v7 → zCv mX12_robotStep [.ref 81, .int (zI v3)] zS0 h (fun h30 => RR mX12_robot 0 0 74 [some (.ref 81), none, none, some (.int (zI v3)), none, some (.int (zI v5)), some (.int (zI v6)), some (.int (zI (v7 + 1)))] [] zS0 h30 (zQl zS0 K))))))) : RR mX12_robot 0 0 74 [some (.ref 81), none, none, some (.int (zI v3)), none, some (.int (zI v5)), some (.int (zI v6)), some (.int (zI v7))] [] zS0 h (zQl zS0 K) := by
  refine r_iload (pc := 74) (x := v7) dX12_robot_74 rfl ?_
  refine r_iload (pc := 76) (x := v5) dX12_robot_76 rfl ?_
  obtain ⟨hr11, w⟩ := w
  obtain ⟨hr12, w⟩ := w
  refine r_icmp_ge (pc := 78) (x := v7) (y := v5) (tgt := 92) dX12_robot_78 (by decide) hr11 hr12 (fun c => ?_) (fun c => ?_)
  · have w := w.1 (c)
    refine r_iload (pc := 92) (x := v6) dX12_robot_92 rfl ?_
    obtain ⟨hr13, w⟩ := w
    refine r_if_ne (pc := 94) (x := v6) (tgt := 105) dX12_robot_94 (by decide) hr13 (fun c => ?_) (fun c => ?_)
    · have w := w.1 (c)
      refine r_iload (pc := 105) (x := v6) dX12_robot_105 rfl ?_
      refine r_iconst (pc := 107) dX12_robot_107 ?_
      refine r_icmp_ne (pc := 108) (x := v6) (y := 1) (tgt := 119) dX12_robot_108 (by decide) hr13 (by decide) (fun c => ?_) (fun c => ?_)
      · have w := w.1 (c)
        refine r_iload (pc := 119) (x := v6) dX12_robot_119 rfl ?_
        refine r_iconst (pc := 121) dX12_robot_121 ?_
        refine r_icmp_ne (pc := 122) (x := v6) (y := 2) (tgt := 136) dX12_robot_122 (by decide) hr13 (by decide) (fun c => ?_) (fun c => ?_)
        · have w := w.1 (c)
          refine r_iload (pc := 136) (x := v6) dX12_robot_136 rfl ?_
          refine r_iconst (pc := 138) dX12_robot_138 ?_
          refine r_icmp_ne (pc := 139) (x := v6) (y := 3) (tgt := 149) dX12_robot_139 (by decide) hr13 (by decide) (fun c => ?_) (fun c => ?_)
          · have w := w.1 (c)
            refine r_iload (pc := 149) (x := v6) dX12_robot_149 rfl ?_
            refine r_iconst (pc := 151) dX12_robot_151 ?_
            refine r_icmp_ne (pc := 152) (x := v6) (y := 4) (tgt := 163) dX12_robot_152 (by decide) hr13 (by decide) (fun c => ?_) (fun c => ?_)
            · have w := w.1 (c)
              refine r_aload_n (pc := 163) (a := 81) dX12_robot_163 rfl ?_
              refine r_getI (pc := 164) (fi := 41) (x := (h 81 41)) fl_X12_288 dX12_robot_164 s0_81 rfl (rfl) ?_
              obtain ⟨hr24, w⟩ := w
              refine r_i2l (pc := 167) (x := (h 81 41)) dX12_robot_167 hr24 ?_
              exact r_lret (st := []) (pc := 168) (x := (h 81 41)) dX12_robot_168 rfl rfl (by decide) ⟨rfl, _, rfl, w⟩
            · have w := w.2 (c)
              refine r_aload_n (pc := 155) (a := 81) dX12_robot_155 rfl ?_
              refine r_getI (pc := 156) (fi := 42) (x := (h 81 42)) fl_X12_291 dX12_robot_156 s0_81 rfl (rfl) ?_
              obtain ⟨hr25, w⟩ := w
              refine r_i2l (pc := 159) (x := (h 81 42)) dX12_robot_159 hr25 ?_
              refine r_goto (pc := 160) (tgt := 168) dX12_robot_160 (by decide) ?_
              exact r_lret (st := []) (pc := 168) (x := (h 81 42)) dX12_robot_168 rfl rfl (by decide) ⟨rfl, _, rfl, w⟩
          · have w := w.2 (c)
            refine r_aload_n (pc := 142) (a := 81) dX12_robot_142 rfl ?_
            refine r_getJ (pc := 143) (fi := 43) (x := (h 81 43)) fl_X12_294 dX12_robot_143 s0_81 rfl (rfl) ?_
            refine r_goto (pc := 146) (tgt := 168) dX12_robot_146 (by decide) ?_
            exact r_lret (st := []) (pc := 168) (x := (h 81 43)) dX12_robot_168 rfl rfl (by decide) ⟨rfl, _, rfl, w⟩
        · have w := w.2 (c)
          refine r_aload_n (pc := 125) (a := 81) dX12_robot_125 rfl ?_
          refine r_getJ (pc := 126) (fi := 43) (x := (h 81 43)) fl_X12_294 dX12_robot_126 s0_81 rfl (rfl) ?_
          refine r_callS (μ2 := mX12_bitsOf) (pc := 129) (as := [.long (zJ (h 81 43))]) (st := []) ml_X12_311 sm_X12_bitsOf okX12_bitsOf ⟨by decide, by decide⟩ dX12_robot_129 (Nat.le_of_ble_eq_true rfl) rfl (Nat.le_of_ble_eq_true rfl) (by decide) (by decide) (zCC.mono w ?_)
          rintro r S' h26 ⟨rfl, x26, hr, w⟩
          subst hr
          show RR mX12_robot 0 0 132 [some (.ref 81), none, none, some (.int (zI v3)), none, some (.int (zI v5)), some (.int (zI v6)), some (.int (zI v7))] [.int (zI x26)] zS0 h26 (zQl zS0 K)
          obtain ⟨hr27, w⟩ := w
          refine r_i2l (pc := 132) (x := x26) dX12_robot_132 hr27 ?_
          refine r_goto (pc := 133) (tgt := 168) dX12_robot_133 (by decide) ?_
          exact r_lret (st := []) (pc := 168) (x := x26) dX12_robot_168 rfl rfl (by decide) ⟨rfl, _, rfl, w⟩
      · have w := w.2 (c)
        refine r_aload_n (pc := 111) (a := 81) dX12_robot_111 rfl ?_
        refine r_getI (pc := 112) (fi := 40) (x := (h 81 40)) fl_X12_285 dX12_robot_112 s0_81 rfl (rfl) ?_
        obtain ⟨hr28, w⟩ := w
        refine r_i2l (pc := 115) (x := (h 81 40)) dX12_robot_115 hr28 ?_
        refine r_goto (pc := 116) (tgt := 168) dX12_robot_116 (by decide) ?_
        exact r_lret (st := []) (pc := 168) (x := (h 81 40)) dX12_robot_168 rfl rfl (by decide) ⟨rfl, _, rfl, w⟩
    · have w := w.2 (c)
      refine r_aload_n (pc := 97) (a := 81) dX12_robot_97 rfl ?_
      refine r_getI (pc := 98) (fi := 39) (x := (h 81 39)) fl_X12_282 dX12_robot_98 s0_81 rfl (rfl) ?_
      obtain ⟨hr29, w⟩ := w
      refine r_i2l (pc := 101) (x := (h 81 39)) dX12_robot_101 hr29 ?_
      refine r_goto (pc := 102) (tgt := 168) dX12_robot_102 (by decide) ?_
      exact r_lret (st := []) (pc := 168) (x := (h 81 39)) dX12_robot_168 rfl rfl (by decide) ⟨rfl, _, rfl, w⟩
  · have w := w.2 (c)
    refine r_aload_n (pc := 81) (a := 81) dX12_robot_81 rfl ?_
    refine r_iload_n (pc := 82) (x := v3) dX12_robot_82 rfl ?_
    refine r_callV (μ2 := mX12_robotStep) (pc := 83) (as := [.int (zI v3)]) (st := []) rfl s0_81 ml_X12_308 im_X12_robotStep se_X12_robotStep okX12_robotStep ⟨by decide, by decide⟩ dX12_robot_83 (Nat.le_of_ble_eq_true rfl) rfl (Nat.le_of_ble_eq_true rfl) (by decide) (by decide) (zCC.mono w ?_)
    rintro r S' h30 ⟨rfl, hr, w⟩
    subst hr
    show RR mX12_robot 0 0 86 [some (.ref 81), none, none, some (.int (zI v3)), none, some (.int (zI v5)), some (.int (zI v6)), some (.int (zI v7))] [] zS0 h30 (zQl zS0 K)
    refine r_iinc (pc := 86) (x := v7) (L' := [some (.ref 81), none, none, some (.int (zI v3)), none, some (.int (zI v5)), some (.int (zI v6)), some (.int (zI (v7 + 1)))]) dX12_robot_86 rfl (by decide) rfl ?_
    refine r_goto (pc := 89) (tgt := 74) dX12_robot_89 (by decide) ?_
    exact w

set_option maxRecDepth 100000 in
set_option maxHeartbeats 4000000 in
theorem wX12_until {h : zMm} {K : Int → zMm → Prop} {v1 : Int} {v2 : Int} {v3 : Int} {v4 : Int} {v5 : Int} {v6 : Int} (w : zCv mX12_awake [.ref 81] zS0 h (fun h1 => zCb mX12_isRobot [.int (zI v1), .int (zI v2)] zS0 h1 (fun b2 h2 => ((b2 = false → K (-1) h2) ∧ (b2 = true → (zR v3 ∧ zCb mX12_in [.long (zJ v3), .long (zJ 0), .long (zJ 3)] zS0 h2 (fun b4 h4 => ((b4 = false → K (-1) h4) ∧ (b4 = true → (zR v6 ∧ zCb mX12_in [.long (zJ v6), .long (zJ 1), .long (zJ 99)] zS0 h4 (fun b6 h6 => ((b6 = false → K (-1) h6) ∧ (b6 = true → (zR v5 ∧ zCb mX12_in [.long (zJ v5), .long (zJ 0), .long (zJ v6)] zS0 h6 (fun b8 h8 => ((b8 = true → ((0 ≤ v1 ∧ v1 < 600) ∧ (zR (h8 92 v1) ∧ ((¬ (h8 92 v1) = 2 → zCv mX12_begins [.ref 81, .int (zI v1), .int (zI v2), .int (zI v4)] zS0 h8 (fun h11 => zCl mX12_grass [.ref 81] zS0 h11 (fun x12 h12 => RR mX12_until 0 0 82 [some (.ref 81), none, none, some (.int (zI v3)), none, some (.int (zI v5)), some (.int (zI v6)), some (.long (zJ x12)), none, some (.int (zI 0))] [] zS0 h12 (zQi zS0 K)))) ∧ ((h8 92 v1) = 2 → K (-2) h8))))) ∧ (b8 = false → K (-1) h8))))))))))))))))) : zCi mX12_until [.ref 81, .int (zI v1), .int (zI v2), .int (zI v3), .int (zI v4), .int (zI v5), .int (zI v6)] zS0 h K := by
  show RR mX12_until 0 0 0 [some (.ref 81), some (.int (zI v1)), some (.int (zI v2)), some (.int (zI v3)), some (.int (zI v4)), some (.int (zI v5)), some (.int (zI v6)), none, none, none] [] zS0 h (zQi zS0 K)
  refine r_aload_n (pc := 0) (a := 81) dX12_until_0 rfl ?_
  refine r_callV (μ2 := mX12_awake) (pc := 1) (as := []) (st := []) rfl s0_81 ml_X12_175 im_X12_awake se_X12_awake okX12_awake ⟨by decide, by decide⟩ dX12_until_1 (Nat.le_of_ble_eq_true rfl) rfl (Nat.le_of_ble_eq_true rfl) (by decide) (by decide) (zCC.mono w ?_)
  rintro r S' h1 ⟨rfl, hr, w⟩
  subst hr
  show RR mX12_until 0 0 4 [some (.ref 81), some (.int (zI v1)), some (.int (zI v2)), some (.int (zI v3)), some (.int (zI v4)), some (.int (zI v5)), some (.int (zI v6)), none, none, none] [] zS0 h1 (zQi zS0 K)
  refine r_iload_n (pc := 4) (x := v1) dX12_until_4 rfl ?_
  refine r_iload_n (pc := 5) (x := v2) dX12_until_5 rfl ?_
  refine r_callS (μ2 := mX12_isRobot) (pc := 6) (as := [.int (zI v1), .int (zI v2)]) (st := []) ml_X12_299 sm_X12_isRobot okX12_isRobot ⟨by decide, by decide⟩ dX12_until_6 (Nat.le_of_ble_eq_true rfl) rfl (Nat.le_of_ble_eq_true rfl) (by decide) (by decide) (zCC.mono w ?_)
  rintro r S' h2 ⟨rfl, b2, hr, w⟩
  subst hr
  show RR mX12_until 0 0 9 [some (.ref 81), some (.int (zI v1)), some (.int (zI v2)), some (.int (zI v3)), some (.int (zI v4)), some (.int (zI v5)), some (.int (zI v6)), none, none, none] [.int (zI (bI b2))] zS0 h2 (zQi zS0 K)
  refine r_if_eq (pc := 9) (x := (bI b2)) (tgt := 50) dX12_until_9 (by decide) (bI_R _) (fun c => ?_) (fun c => ?_)
  · have w := w.1 (bI_0.mp c)
    refine r_iconst (pc := 50) dX12_until_50 ?_
    exact r_iret (st := []) (pc := 51) (x := (-1)) (ty := .int) dX12_until_51 rfl rfl rfl (by decide) ⟨rfl, _, rfl, w⟩
  · have w := w.2 (bI_n.mp c)
    refine r_iload_n (pc := 12) (x := v3) dX12_until_12 rfl ?_
    obtain ⟨hr3, w⟩ := w
    refine r_i2l (pc := 13) (x := v3) dX12_until_13 hr3 ?_
    refine r_lconst (pc := 14) (x := 0) dX12_until_14 rfl ?_
    refine r_ldcL (pc := 15) (x := 3) dX12_until_15 kl_X12_182 ?_
    refine r_callS (μ2 := mX12_in) (pc := 18) (as := [.long (zJ v3), .long (zJ 0), .long (zJ 3)]) (st := []) ml_X12_94 sm_X12_in okX12_in ⟨by decide, by decide⟩ dX12_until_18 (Nat.le_of_ble_eq_true rfl) rfl (Nat.le_of_ble_eq_true rfl) (by decide) (by decide) (zCC.mono w ?_)
    rintro r S' h4 ⟨rfl, b4, hr, w⟩
    subst hr
    show RR mX12_until 0 0 21 [some (.ref 81), some (.int (zI v1)), some (.int (zI v2)), some (.int (zI v3)), some (.int (zI v4)), some (.int (zI v5)), some (.int (zI v6)), none, none, none] [.int (zI (bI b4))] zS0 h4 (zQi zS0 K)
    refine r_if_eq (pc := 21) (x := (bI b4)) (tgt := 50) dX12_until_21 (by decide) (bI_R _) (fun c => ?_) (fun c => ?_)
    · have w := w.1 (bI_0.mp c)
      refine r_iconst (pc := 50) dX12_until_50 ?_
      exact r_iret (st := []) (pc := 51) (x := (-1)) (ty := .int) dX12_until_51 rfl rfl rfl (by decide) ⟨rfl, _, rfl, w⟩
    · have w := w.2 (bI_n.mp c)
      refine r_iload (pc := 24) (x := v6) dX12_until_24 rfl ?_
      obtain ⟨hr5, w⟩ := w
      refine r_i2l (pc := 26) (x := v6) dX12_until_26 hr5 ?_
      refine r_lconst (pc := 27) (x := 1) dX12_until_27 rfl ?_
      refine r_ldcL (pc := 28) (x := 99) dX12_until_28 kl_X12_315 ?_
      refine r_callS (μ2 := mX12_in) (pc := 31) (as := [.long (zJ v6), .long (zJ 1), .long (zJ 99)]) (st := []) ml_X12_94 sm_X12_in okX12_in ⟨by decide, by decide⟩ dX12_until_31 (Nat.le_of_ble_eq_true rfl) rfl (Nat.le_of_ble_eq_true rfl) (by decide) (by decide) (zCC.mono w ?_)
      rintro r S' h6 ⟨rfl, b6, hr, w⟩
      subst hr
      show RR mX12_until 0 0 34 [some (.ref 81), some (.int (zI v1)), some (.int (zI v2)), some (.int (zI v3)), some (.int (zI v4)), some (.int (zI v5)), some (.int (zI v6)), none, none, none] [.int (zI (bI b6))] zS0 h6 (zQi zS0 K)
      refine r_if_eq (pc := 34) (x := (bI b6)) (tgt := 50) dX12_until_34 (by decide) (bI_R _) (fun c => ?_) (fun c => ?_)
      · have w := w.1 (bI_0.mp c)
        refine r_iconst (pc := 50) dX12_until_50 ?_
        exact r_iret (st := []) (pc := 51) (x := (-1)) (ty := .int) dX12_until_51 rfl rfl rfl (by decide) ⟨rfl, _, rfl, w⟩
      · have w := w.2 (bI_n.mp c)
        refine r_iload (pc := 37) (x := v5) dX12_until_37 rfl ?_
        obtain ⟨hr7, w⟩ := w
        refine r_i2l (pc := 39) (x := v5) dX12_until_39 hr7 ?_
        refine r_lconst (pc := 40) (x := 0) dX12_until_40 rfl ?_
        refine r_iload (pc := 41) (x := v6) dX12_until_41 rfl ?_
        refine r_i2l (pc := 43) (x := v6) dX12_until_43 hr5 ?_
        refine r_callS (μ2 := mX12_in) (pc := 44) (as := [.long (zJ v5), .long (zJ 0), .long (zJ v6)]) (st := []) ml_X12_94 sm_X12_in okX12_in ⟨by decide, by decide⟩ dX12_until_44 (Nat.le_of_ble_eq_true rfl) rfl (Nat.le_of_ble_eq_true rfl) (by decide) (by decide) (zCC.mono w ?_)
        rintro r S' h8 ⟨rfl, b8, hr, w⟩
        subst hr
        show RR mX12_until 0 0 47 [some (.ref 81), some (.int (zI v1)), some (.int (zI v2)), some (.int (zI v3)), some (.int (zI v4)), some (.int (zI v5)), some (.int (zI v6)), none, none, none] [.int (zI (bI b8))] zS0 h8 (zQi zS0 K)
        refine r_if_ne (pc := 47) (x := (bI b8)) (tgt := 52) dX12_until_47 (by decide) (bI_R _) (fun c => ?_) (fun c => ?_)
        · have w := w.1 (bI_n.mp c)
          refine r_aload_n (pc := 52) (a := 81) dX12_until_52 rfl ?_
          refine r_getR (pc := 53) (b := 92) fl_X12_40 dX12_until_53 s0_81 rfl ?_
          refine r_iload_n (pc := 56) (x := v1) dX12_until_56 rfl ?_
          obtain ⟨hb9, w⟩ := w
          refine r_iald (pc := 57) (i := v1) (x := (h8 92 v1)) dX12_until_57 s0_92 ⟨hb9.1, hb9.2, (by decide)⟩ (rfl) ?_
          refine r_iconst (pc := 58) dX12_until_58 ?_
          obtain ⟨hr10, w⟩ := w
          refine r_icmp_ne (pc := 59) (x := (h8 92 v1)) (y := 2) (tgt := 65) dX12_until_59 (by decide) hr10 (by decide) (fun c => ?_) (fun c => ?_)
          · have w := w.1 (c)
            refine r_aload_n (pc := 65) (a := 81) dX12_until_65 rfl ?_
            refine r_iload_n (pc := 66) (x := v1) dX12_until_66 rfl ?_
            refine r_iload_n (pc := 67) (x := v2) dX12_until_67 rfl ?_
            refine r_iload (pc := 68) (x := v4) dX12_until_68 rfl ?_
            refine r_callV (μ2 := mX12_begins) (pc := 70) (as := [.int (zI v1), .int (zI v2), .int (zI v4)]) (st := []) rfl s0_81 ml_X12_304 im_X12_begins se_X12_begins okX12_begins ⟨by decide, by decide⟩ dX12_until_70 (Nat.le_of_ble_eq_true rfl) rfl (Nat.le_of_ble_eq_true rfl) (by decide) (by decide) (zCC.mono w ?_)
            rintro r S' h11 ⟨rfl, hr, w⟩
            subst hr
            show RR mX12_until 0 0 73 [some (.ref 81), some (.int (zI v1)), some (.int (zI v2)), some (.int (zI v3)), some (.int (zI v4)), some (.int (zI v5)), some (.int (zI v6)), none, none, none] [] zS0 h11 (zQi zS0 K)
            refine r_aload_n (pc := 73) (a := 81) dX12_until_73 rfl ?_
            refine r_callV (μ2 := mX12_grass) (pc := 74) (as := []) (st := []) rfl s0_81 ml_X12_317 im_X12_grass se_X12_grass okX12_grass ⟨by decide, by decide⟩ dX12_until_74 (Nat.le_of_ble_eq_true rfl) rfl (Nat.le_of_ble_eq_true rfl) (by decide) (by decide) (zCC.mono w ?_)
            rintro r S' h12 ⟨rfl, x12, hr, w⟩
            subst hr
            show RR mX12_until 0 0 77 [some (.ref 81), some (.int (zI v1)), some (.int (zI v2)), some (.int (zI v3)), some (.int (zI v4)), some (.int (zI v5)), some (.int (zI v6)), none, none, none] [.long (zJ x12)] zS0 h12 (zQi zS0 K)
            refine r_lstore (pc := 77) (L' := [some (.ref 81), some (.int (zI v1)), some (.int (zI v2)), some (.int (zI v3)), some (.int (zI v4)), some (.int (zI v5)), some (.int (zI v6)), some (.long (zJ x12)), none, none]) dX12_until_77 (by decide) rfl ?_
            refine r_iconst (pc := 79) dX12_until_79 ?_
            refine r_istore (pc := 80) (L' := [some (.ref 81), some (.int (zI v1)), some (.int (zI v2)), some (.int (zI v3)), some (.int (zI v4)), some (.int (zI v5)), some (.int (zI v6)), some (.long (zJ x12)), none, some (.int (zI 0))]) dX12_until_80 (by decide) rfl ?_
            exact RR.sub (L' := [some (.ref 81), none, none, some (.int (zI v3)), none, some (.int (zI v5)), some (.int (zI v6)), some (.long (zJ x12)), none, some (.int (zI 0))]) (zSb_of (⟨rfl, ⟨rfl, ⟨rfl, ⟨rfl, ⟨rfl, ⟨rfl, trivial⟩⟩⟩⟩⟩⟩)) w
          · have w := w.2 (c)
            refine r_bipush (pc := 62) (x := (-2)) dX12_until_62 (by decide) ?_
            exact r_iret (st := []) (pc := 64) (x := (-2)) (ty := .int) dX12_until_64 rfl rfl rfl (by decide) ⟨rfl, _, rfl, w⟩
        · have w := w.2 (bI_0.mp c)
          refine r_iconst (pc := 50) dX12_until_50 ?_
          exact r_iret (st := []) (pc := 51) (x := (-1)) (ty := .int) dX12_until_51 rfl rfl rfl (by decide) ⟨rfl, _, rfl, w⟩

set_option maxRecDepth 100000 in
set_option maxHeartbeats 4000000 in
theorem bX12_until_82 {h : zMm} {K : Int → zMm → Prop} {v3 : Int} {v5 : Int} {v6 : Int} {v7 : Int} {v9 : Int} (w : (zR v9 ∧ ((999 < v9 → K (-4) h) ∧ (¬ 999 < v9 → zCi mX12_bitsOf [.long (zJ (lA (h 81 43) v7))] zS0 h (fun x14 h14 => zCi mX12_bitsOf [.long (zJ v7)] zS0 h14 (fun x15 h15 => (zR (x14 * v6) ∧ (zR (v5 * x15) ∧ (((x14 * v6) < (v5 * x15) → zCv mX12_robotStep [.ref 81, .int (zI v3)] zS0 h15 (fun h18 => RR mX12_until 0 0 82 [some (.ref 81), none, none, some (.int (zI v3)), none, some (.int (zI v5)), some (.int (zI v6)), some (.long (zJ v7)), none, some (.int (zI (v9 + 1)))] [] zS0 h18 (zQi zS0 K))) ∧ (¬ (x14 * v6) < (v5 * x15) → K v9 h15)))))))))) : RR mX12_until 0 0 82 [some (.ref 81), none, none, some (.int (zI v3)), none, some (.int (zI v5)), some (.int (zI v6)), some (.long (zJ v7)), none, some (.int (zI v9))] [] zS0 h (zQi zS0 K) := by
  refine r_iload (pc := 82) (x := v9) dX12_until_82 rfl ?_
  refine r_sipush (pc := 84) (x := 999) dX12_until_84 (by decide) ?_
  obtain ⟨hr13, w⟩ := w
  refine r_icmp_gt (pc := 87) (x := v9) (y := 999) (tgt := 128) dX12_until_87 (by decide) hr13 (by decide) (fun c => ?_) (fun c => ?_)
  · have w := w.1 (c)
    refine r_bipush (pc := 128) (x := (-4)) dX12_until_128 (by decide) ?_
    exact r_iret (st := []) (pc := 130) (x := (-4)) (ty := .int) dX12_until_130 rfl rfl rfl (by decide) ⟨rfl, _, rfl, w⟩
  · have w := w.2 (c)
    refine r_aload_n (pc := 90) (a := 81) dX12_until_90 rfl ?_
    refine r_getJ (pc := 91) (fi := 43) (x := (h 81 43)) fl_X12_294 dX12_until_91 s0_81 rfl (rfl) ?_
    refine r_lload (pc := 94) (x := v7) dX12_until_94 rfl ?_
    refine r_land (pc := 96) (x := (h 81 43)) (y := v7) dX12_until_96 ?_
    refine r_callS (μ2 := mX12_bitsOf) (pc := 97) (as := [.long (zJ (lA (h 81 43) v7))]) (st := []) ml_X12_311 sm_X12_bitsOf okX12_bitsOf ⟨by decide, by decide⟩ dX12_until_97 (Nat.le_of_ble_eq_true rfl) rfl (Nat.le_of_ble_eq_true rfl) (by decide) (by decide) (zCC.mono w ?_)
    rintro r S' h14 ⟨rfl, x14, hr, w⟩
    subst hr
    show RR mX12_until 0 0 100 [some (.ref 81), none, none, some (.int (zI v3)), none, some (.int (zI v5)), some (.int (zI v6)), some (.long (zJ v7)), none, some (.int (zI v9))] [.int (zI x14)] zS0 h14 (zQi zS0 K)
    refine r_iload (pc := 100) (x := v6) dX12_until_100 rfl ?_
    refine r_imul (pc := 102) (x := x14) (y := v6) dX12_until_102 ?_
    refine r_iload (pc := 103) (x := v5) dX12_until_103 rfl ?_
    refine r_lload (pc := 105) (x := v7) dX12_until_105 rfl ?_
    refine r_callS (μ2 := mX12_bitsOf) (pc := 107) (as := [.long (zJ v7)]) (st := [.int (zI v5), .int (zI (x14 * v6))]) ml_X12_311 sm_X12_bitsOf okX12_bitsOf ⟨by decide, by decide⟩ dX12_until_107 (Nat.le_of_ble_eq_true rfl) rfl (Nat.le_of_ble_eq_true rfl) (by decide) (by decide) (zCC.mono w ?_)
    rintro r S' h15 ⟨rfl, x15, hr, w⟩
    subst hr
    show RR mX12_until 0 0 110 [some (.ref 81), none, none, some (.int (zI v3)), none, some (.int (zI v5)), some (.int (zI v6)), some (.long (zJ v7)), none, some (.int (zI v9))] [.int (zI x15), .int (zI v5), .int (zI (x14 * v6))] zS0 h15 (zQi zS0 K)
    refine r_imul (pc := 110) (x := v5) (y := x15) dX12_until_110 ?_
    obtain ⟨hr16, w⟩ := w
    obtain ⟨hr17, w⟩ := w
    refine r_icmp_lt (pc := 111) (x := (x14 * v6)) (y := (v5 * x15)) (tgt := 117) dX12_until_111 (by decide) hr16 hr17 (fun c => ?_) (fun c => ?_)
    · have w := w.1 (c)
      refine r_aload_n (pc := 117) (a := 81) dX12_until_117 rfl ?_
      refine r_iload_n (pc := 118) (x := v3) dX12_until_118 rfl ?_
      refine r_callV (μ2 := mX12_robotStep) (pc := 119) (as := [.int (zI v3)]) (st := []) rfl s0_81 ml_X12_308 im_X12_robotStep se_X12_robotStep okX12_robotStep ⟨by decide, by decide⟩ dX12_until_119 (Nat.le_of_ble_eq_true rfl) rfl (Nat.le_of_ble_eq_true rfl) (by decide) (by decide) (zCC.mono w ?_)
      rintro r S' h18 ⟨rfl, hr, w⟩
      subst hr
      show RR mX12_until 0 0 122 [some (.ref 81), none, none, some (.int (zI v3)), none, some (.int (zI v5)), some (.int (zI v6)), some (.long (zJ v7)), none, some (.int (zI v9))] [] zS0 h18 (zQi zS0 K)
      refine r_iinc (pc := 122) (x := v9) (L' := [some (.ref 81), none, none, some (.int (zI v3)), none, some (.int (zI v5)), some (.int (zI v6)), some (.long (zJ v7)), none, some (.int (zI (v9 + 1)))]) dX12_until_122 rfl (by decide) rfl ?_
      refine r_goto (pc := 125) (tgt := 82) dX12_until_125 (by decide) ?_
      exact w
    · have w := w.2 (c)
      refine r_iload (pc := 114) (x := v9) dX12_until_114 rfl ?_
      exact r_iret (st := []) (pc := 116) (x := v9) (ty := .int) dX12_until_116 rfl rfl rfl (by decide) ⟨rfl, _, rfl, w⟩

set_option maxRecDepth 100000 in
set_option maxHeartbeats 4000000 in
theorem wX12_never {h : zMm} {K : Int → zMm → Prop} {v1 : Int} {v2 : Int} {v3 : Int} (w : zCv mX12_awake [.ref 81] zS0 h (fun h1 => zCb mX12_isRobot [.int (zI v1), .int (zI v2)] zS0 h1 (fun b2 h2 => ((b2 = false → K (-1) h2) ∧ (b2 = true → (zR v3 ∧ zCb mX12_in [.long (zJ v3), .long (zJ 0), .long (zJ 2)] zS0 h2 (fun b4 h4 => ((b4 = true → ((0 ≤ v1 ∧ v1 < 600) ∧ (zR (h4 92 v1) ∧ ((¬ (h4 92 v1) = 2 → zCv mX12_begins [.ref 81, .int (zI v1), .int (zI v2), .int (zI 0)] zS0 h4 (fun h7 => RR mX12_never 0 0 52 [some (.ref 81), none, none, some (.int (zI v3)), some (.int (zI 0))] [] zS0 h7 (zQl zS0 K))) ∧ ((h4 92 v1) = 2 → K (-2) h4))))) ∧ (b4 = false → K (-1) h4))))))))) : zCl mX12_never [.ref 81, .int (zI v1), .int (zI v2), .int (zI v3)] zS0 h K := by
  show RR mX12_never 0 0 0 [some (.ref 81), some (.int (zI v1)), some (.int (zI v2)), some (.int (zI v3)), none] [] zS0 h (zQl zS0 K)
  refine r_aload_n (pc := 0) (a := 81) dX12_never_0 rfl ?_
  refine r_callV (μ2 := mX12_awake) (pc := 1) (as := []) (st := []) rfl s0_81 ml_X12_175 im_X12_awake se_X12_awake okX12_awake ⟨by decide, by decide⟩ dX12_never_1 (Nat.le_of_ble_eq_true rfl) rfl (Nat.le_of_ble_eq_true rfl) (by decide) (by decide) (zCC.mono w ?_)
  rintro r S' h1 ⟨rfl, hr, w⟩
  subst hr
  show RR mX12_never 0 0 4 [some (.ref 81), some (.int (zI v1)), some (.int (zI v2)), some (.int (zI v3)), none] [] zS0 h1 (zQl zS0 K)
  refine r_iload_n (pc := 4) (x := v1) dX12_never_4 rfl ?_
  refine r_iload_n (pc := 5) (x := v2) dX12_never_5 rfl ?_
  refine r_callS (μ2 := mX12_isRobot) (pc := 6) (as := [.int (zI v1), .int (zI v2)]) (st := []) ml_X12_299 sm_X12_isRobot okX12_isRobot ⟨by decide, by decide⟩ dX12_never_6 (Nat.le_of_ble_eq_true rfl) rfl (Nat.le_of_ble_eq_true rfl) (by decide) (by decide) (zCC.mono w ?_)
  rintro r S' h2 ⟨rfl, b2, hr, w⟩
  subst hr
  show RR mX12_never 0 0 9 [some (.ref 81), some (.int (zI v1)), some (.int (zI v2)), some (.int (zI v3)), none] [.int (zI (bI b2))] zS0 h2 (zQl zS0 K)
  refine r_if_eq (pc := 9) (x := (bI b2)) (tgt := 24) dX12_never_9 (by decide) (bI_R _) (fun c => ?_) (fun c => ?_)
  · have w := w.1 (bI_0.mp c)
    refine r_ldcL (pc := 24) (x := (-1)) dX12_never_24 kl_X12_237 ?_
    exact r_lret (st := []) (pc := 27) (x := (-1)) dX12_never_27 rfl rfl (by decide) ⟨rfl, _, rfl, w⟩
  · have w := w.2 (bI_n.mp c)
    refine r_iload_n (pc := 12) (x := v3) dX12_never_12 rfl ?_
    obtain ⟨hr3, w⟩ := w
    refine r_i2l (pc := 13) (x := v3) dX12_never_13 hr3 ?_
    refine r_lconst (pc := 14) (x := 0) dX12_never_14 rfl ?_
    refine r_ldcL (pc := 15) (x := 2) dX12_never_15 kl_X12_268 ?_
    refine r_callS (μ2 := mX12_in) (pc := 18) (as := [.long (zJ v3), .long (zJ 0), .long (zJ 2)]) (st := []) ml_X12_94 sm_X12_in okX12_in ⟨by decide, by decide⟩ dX12_never_18 (Nat.le_of_ble_eq_true rfl) rfl (Nat.le_of_ble_eq_true rfl) (by decide) (by decide) (zCC.mono w ?_)
    rintro r S' h4 ⟨rfl, b4, hr, w⟩
    subst hr
    show RR mX12_never 0 0 21 [some (.ref 81), some (.int (zI v1)), some (.int (zI v2)), some (.int (zI v3)), none] [.int (zI (bI b4))] zS0 h4 (zQl zS0 K)
    refine r_if_ne (pc := 21) (x := (bI b4)) (tgt := 28) dX12_never_21 (by decide) (bI_R _) (fun c => ?_) (fun c => ?_)
    · have w := w.1 (bI_n.mp c)
      refine r_aload_n (pc := 28) (a := 81) dX12_never_28 rfl ?_
      refine r_getR (pc := 29) (b := 92) fl_X12_40 dX12_never_29 s0_81 rfl ?_
      refine r_iload_n (pc := 32) (x := v1) dX12_never_32 rfl ?_
      obtain ⟨hb5, w⟩ := w
      refine r_iald (pc := 33) (i := v1) (x := (h4 92 v1)) dX12_never_33 s0_92 ⟨hb5.1, hb5.2, (by decide)⟩ (rfl) ?_
      refine r_iconst (pc := 34) dX12_never_34 ?_
      obtain ⟨hr6, w⟩ := w
      refine r_icmp_ne (pc := 35) (x := (h4 92 v1)) (y := 2) (tgt := 42) dX12_never_35 (by decide) hr6 (by decide) (fun c => ?_) (fun c => ?_)
      · have w := w.1 (c)
        refine r_aload_n (pc := 42) (a := 81) dX12_never_42 rfl ?_
        refine r_iload_n (pc := 43) (x := v1) dX12_never_43 rfl ?_
        refine r_iload_n (pc := 44) (x := v2) dX12_never_44 rfl ?_
        refine r_iconst (pc := 45) dX12_never_45 ?_
        refine r_callV (μ2 := mX12_begins) (pc := 46) (as := [.int (zI v1), .int (zI v2), .int (zI 0)]) (st := []) rfl s0_81 ml_X12_304 im_X12_begins se_X12_begins okX12_begins ⟨by decide, by decide⟩ dX12_never_46 (Nat.le_of_ble_eq_true rfl) rfl (Nat.le_of_ble_eq_true rfl) (by decide) (by decide) (zCC.mono w ?_)
        rintro r S' h7 ⟨rfl, hr, w⟩
        subst hr
        show RR mX12_never 0 0 49 [some (.ref 81), some (.int (zI v1)), some (.int (zI v2)), some (.int (zI v3)), none] [] zS0 h7 (zQl zS0 K)
        refine r_iconst (pc := 49) dX12_never_49 ?_
        refine r_istore (pc := 50) (L' := [some (.ref 81), some (.int (zI v1)), some (.int (zI v2)), some (.int (zI v3)), some (.int (zI 0))]) dX12_never_50 (by decide) rfl ?_
        exact RR.sub (L' := [some (.ref 81), none, none, some (.int (zI v3)), some (.int (zI 0))]) (zSb_of (⟨rfl, ⟨rfl, ⟨rfl, trivial⟩⟩⟩)) w
      · have w := w.2 (c)
        refine r_ldcL (pc := 38) (x := (-2)) dX12_never_38 kl_X12_302 ?_
        exact r_lret (st := []) (pc := 41) (x := (-2)) dX12_never_41 rfl rfl (by decide) ⟨rfl, _, rfl, w⟩
    · have w := w.2 (bI_0.mp c)
      refine r_ldcL (pc := 24) (x := (-1)) dX12_never_24 kl_X12_237 ?_
      exact r_lret (st := []) (pc := 27) (x := (-1)) dX12_never_27 rfl rfl (by decide) ⟨rfl, _, rfl, w⟩

set_option maxRecDepth 100000 in
set_option maxHeartbeats 4000000 in
theorem bX12_never_52 {h : zMm} {K : Int → zMm → Prop} {v3 : Int} {v4 : Int} (w : (zR v4 ∧ ((200 ≤ v4 → zCl mX12_grass [.ref 81] zS0 h (fun x9 h9 => K (lA x9 (lX (h9 81 43) (-1))) h9)) ∧ (¬ 200 ≤ v4 → zCv mX12_robotStep [.ref 81, .int (zI v3)] zS0 h (fun h10 => RR mX12_never 0 0 52 [some (.ref 81), none, none, some (.int (zI v3)), some (.int (zI (v4 + 1)))] [] zS0 h10 (zQl zS0 K)))))) : RR mX12_never 0 0 52 [some (.ref 81), none, none, some (.int (zI v3)), some (.int (zI v4))] [] zS0 h (zQl zS0 K) := by
  refine r_iload (pc := 52) (x := v4) dX12_never_52 rfl ?_
  refine r_sipush (pc := 54) (x := 200) dX12_never_54 (by decide) ?_
  obtain ⟨hr8, w⟩ := w
  refine r_icmp_ge (pc := 57) (x := v4) (y := 200) (tgt := 71) dX12_never_57 (by decide) hr8 (by decide) (fun c => ?_) (fun c => ?_)
  · have w := w.1 (c)
    refine r_aload_n (pc := 71) (a := 81) dX12_never_71 rfl ?_
    refine r_callV (μ2 := mX12_grass) (pc := 72) (as := []) (st := []) rfl s0_81 ml_X12_317 im_X12_grass se_X12_grass okX12_grass ⟨by decide, by decide⟩ dX12_never_72 (Nat.le_of_ble_eq_true rfl) rfl (Nat.le_of_ble_eq_true rfl) (by decide) (by decide) (zCC.mono w ?_)
    rintro r S' h9 ⟨rfl, x9, hr, w⟩
    subst hr
    show RR mX12_never 0 0 75 [some (.ref 81), none, none, some (.int (zI v3)), some (.int (zI v4))] [.long (zJ x9)] zS0 h9 (zQl zS0 K)
    refine r_aload_n (pc := 75) (a := 81) dX12_never_75 rfl ?_
    refine r_getJ (pc := 76) (fi := 43) (x := (h9 81 43)) fl_X12_294 dX12_never_76 s0_81 rfl (rfl) ?_
    refine r_ldcL (pc := 79) (x := (-1)) dX12_never_79 kl_X12_237 ?_
    refine r_lxor (pc := 82) (x := (h9 81 43)) (y := (-1)) dX12_never_82 ?_
    refine r_land (pc := 83) (x := x9) (y := (lX (h9 81 43) (-1))) dX12_never_83 ?_
    exact r_lret (st := []) (pc := 84) (x := (lA x9 (lX (h9 81 43) (-1)))) dX12_never_84 rfl rfl (by decide) ⟨rfl, _, rfl, w⟩
  · have w := w.2 (c)
    refine r_aload_n (pc := 60) (a := 81) dX12_never_60 rfl ?_
    refine r_iload_n (pc := 61) (x := v3) dX12_never_61 rfl ?_
    refine r_callV (μ2 := mX12_robotStep) (pc := 62) (as := [.int (zI v3)]) (st := []) rfl s0_81 ml_X12_308 im_X12_robotStep se_X12_robotStep okX12_robotStep ⟨by decide, by decide⟩ dX12_never_62 (Nat.le_of_ble_eq_true rfl) rfl (Nat.le_of_ble_eq_true rfl) (by decide) (by decide) (zCC.mono w ?_)
    rintro r S' h10 ⟨rfl, hr, w⟩
    subst hr
    show RR mX12_never 0 0 65 [some (.ref 81), none, none, some (.int (zI v3)), some (.int (zI v4))] [] zS0 h10 (zQl zS0 K)
    refine r_iinc (pc := 65) (x := v4) (L' := [some (.ref 81), none, none, some (.int (zI v3)), some (.int (zI (v4 + 1)))]) dX12_never_65 rfl (by decide) rfl ?_
    refine r_goto (pc := 68) (tgt := 52) dX12_never_68 (by decide) ?_
    exact w

set_option maxRecDepth 100000 in
set_option maxHeartbeats 4000000 in
theorem wX12_best {h : zMm} {K : Int → zMm → Prop} {v1 : Int} {v2 : Int} {v3 : Int} {v4 : Int} {v5 : Int} (w : zCv mX12_awake [.ref 81] zS0 h (fun h1 => zCb mX12_isRobot [.int (zI v1), .int (zI v2)] zS0 h1 (fun b2 h2 => ((b2 = false → K (-1) h2) ∧ (b2 = true → zCb mX12_isMinute [.int (zI v4)] zS0 h2 (fun b3 h3 => ((b3 = false → K (-1) h3) ∧ (b3 = true → (zR v5 ∧ zCb mX12_in [.long (zJ v5), .long (zJ 0), .long (zJ 1)] zS0 h3 (fun b5 h5 => ((b5 = true → ((0 ≤ v1 ∧ v1 < 600) ∧ (zR (h5 92 v1) ∧ ((¬ (h5 92 v1) = 2 → RR mX12_best 0 0 55 [some (.ref 81), some (.int (zI v1)), some (.int (zI v2)), some (.int (zI v3)), some (.int (zI v4)), some (.int (zI v5)), some (.int (zI 0)), some (.int (zI (-1))), some (.int (zI 0)), none] [] zS0 h5 (zQi zS0 K)) ∧ ((h5 92 v1) = 2 → K (-2) h5))))) ∧ (b5 = false → K (-1) h5)))))))))))) : zCi mX12_best [.ref 81, .int (zI v1), .int (zI v2), .int (zI v3), .int (zI v4), .int (zI v5)] zS0 h K := by
  show RR mX12_best 0 0 0 [some (.ref 81), some (.int (zI v1)), some (.int (zI v2)), some (.int (zI v3)), some (.int (zI v4)), some (.int (zI v5)), none, none, none, none] [] zS0 h (zQi zS0 K)
  refine r_aload_n (pc := 0) (a := 81) dX12_best_0 rfl ?_
  refine r_callV (μ2 := mX12_awake) (pc := 1) (as := []) (st := []) rfl s0_81 ml_X12_175 im_X12_awake se_X12_awake okX12_awake ⟨by decide, by decide⟩ dX12_best_1 (Nat.le_of_ble_eq_true rfl) rfl (Nat.le_of_ble_eq_true rfl) (by decide) (by decide) (zCC.mono w ?_)
  rintro r S' h1 ⟨rfl, hr, w⟩
  subst hr
  show RR mX12_best 0 0 4 [some (.ref 81), some (.int (zI v1)), some (.int (zI v2)), some (.int (zI v3)), some (.int (zI v4)), some (.int (zI v5)), none, none, none, none] [] zS0 h1 (zQi zS0 K)
  refine r_iload_n (pc := 4) (x := v1) dX12_best_4 rfl ?_
  refine r_iload_n (pc := 5) (x := v2) dX12_best_5 rfl ?_
  refine r_callS (μ2 := mX12_isRobot) (pc := 6) (as := [.int (zI v1), .int (zI v2)]) (st := []) ml_X12_299 sm_X12_isRobot okX12_isRobot ⟨by decide, by decide⟩ dX12_best_6 (Nat.le_of_ble_eq_true rfl) rfl (Nat.le_of_ble_eq_true rfl) (by decide) (by decide) (zCC.mono w ?_)
  rintro r S' h2 ⟨rfl, b2, hr, w⟩
  subst hr
  show RR mX12_best 0 0 9 [some (.ref 81), some (.int (zI v1)), some (.int (zI v2)), some (.int (zI v3)), some (.int (zI v4)), some (.int (zI v5)), none, none, none, none] [.int (zI (bI b2))] zS0 h2 (zQi zS0 K)
  refine r_if_eq (pc := 9) (x := (bI b2)) (tgt := 31) dX12_best_9 (by decide) (bI_R _) (fun c => ?_) (fun c => ?_)
  · have w := w.1 (bI_0.mp c)
    refine r_iconst (pc := 31) dX12_best_31 ?_
    exact r_iret (st := []) (pc := 32) (x := (-1)) (ty := .int) dX12_best_32 rfl rfl rfl (by decide) ⟨rfl, _, rfl, w⟩
  · have w := w.2 (bI_n.mp c)
    refine r_iload (pc := 12) (x := v4) dX12_best_12 rfl ?_
    refine r_callS (μ2 := mX12_isMinute) (pc := 14) (as := [.int (zI v4)]) (st := []) ml_X12_214 sm_X12_isMinute okX12_isMinute ⟨by decide, by decide⟩ dX12_best_14 (Nat.le_of_ble_eq_true rfl) rfl (Nat.le_of_ble_eq_true rfl) (by decide) (by decide) (zCC.mono w ?_)
    rintro r S' h3 ⟨rfl, b3, hr, w⟩
    subst hr
    show RR mX12_best 0 0 17 [some (.ref 81), some (.int (zI v1)), some (.int (zI v2)), some (.int (zI v3)), some (.int (zI v4)), some (.int (zI v5)), none, none, none, none] [.int (zI (bI b3))] zS0 h3 (zQi zS0 K)
    refine r_if_eq (pc := 17) (x := (bI b3)) (tgt := 31) dX12_best_17 (by decide) (bI_R _) (fun c => ?_) (fun c => ?_)
    · have w := w.1 (bI_0.mp c)
      refine r_iconst (pc := 31) dX12_best_31 ?_
      exact r_iret (st := []) (pc := 32) (x := (-1)) (ty := .int) dX12_best_32 rfl rfl rfl (by decide) ⟨rfl, _, rfl, w⟩
    · have w := w.2 (bI_n.mp c)
      refine r_iload (pc := 20) (x := v5) dX12_best_20 rfl ?_
      obtain ⟨hr4, w⟩ := w
      refine r_i2l (pc := 22) (x := v5) dX12_best_22 hr4 ?_
      refine r_lconst (pc := 23) (x := 0) dX12_best_23 rfl ?_
      refine r_lconst (pc := 24) (x := 1) dX12_best_24 rfl ?_
      refine r_callS (μ2 := mX12_in) (pc := 25) (as := [.long (zJ v5), .long (zJ 0), .long (zJ 1)]) (st := []) ml_X12_94 sm_X12_in okX12_in ⟨by decide, by decide⟩ dX12_best_25 (Nat.le_of_ble_eq_true rfl) rfl (Nat.le_of_ble_eq_true rfl) (by decide) (by decide) (zCC.mono w ?_)
      rintro r S' h5 ⟨rfl, b5, hr, w⟩
      subst hr
      show RR mX12_best 0 0 28 [some (.ref 81), some (.int (zI v1)), some (.int (zI v2)), some (.int (zI v3)), some (.int (zI v4)), some (.int (zI v5)), none, none, none, none] [.int (zI (bI b5))] zS0 h5 (zQi zS0 K)
      refine r_if_ne (pc := 28) (x := (bI b5)) (tgt := 33) dX12_best_28 (by decide) (bI_R _) (fun c => ?_) (fun c => ?_)
      · have w := w.1 (bI_n.mp c)
        refine r_aload_n (pc := 33) (a := 81) dX12_best_33 rfl ?_
        refine r_getR (pc := 34) (b := 92) fl_X12_40 dX12_best_34 s0_81 rfl ?_
        refine r_iload_n (pc := 37) (x := v1) dX12_best_37 rfl ?_
        obtain ⟨hb6, w⟩ := w
        refine r_iald (pc := 38) (i := v1) (x := (h5 92 v1)) dX12_best_38 s0_92 ⟨hb6.1, hb6.2, (by decide)⟩ (rfl) ?_
        refine r_iconst (pc := 39) dX12_best_39 ?_
        obtain ⟨hr7, w⟩ := w
        refine r_icmp_ne (pc := 40) (x := (h5 92 v1)) (y := 2) (tgt := 46) dX12_best_40 (by decide) hr7 (by decide) (fun c => ?_) (fun c => ?_)
        · have w := w.1 (c)
          refine r_iconst (pc := 46) dX12_best_46 ?_
          refine r_istore (pc := 47) (L' := [some (.ref 81), some (.int (zI v1)), some (.int (zI v2)), some (.int (zI v3)), some (.int (zI v4)), some (.int (zI v5)), some (.int (zI 0)), none, none, none]) dX12_best_47 (by decide) rfl ?_
          refine r_iconst (pc := 49) dX12_best_49 ?_
          refine r_istore (pc := 50) (L' := [some (.ref 81), some (.int (zI v1)), some (.int (zI v2)), some (.int (zI v3)), some (.int (zI v4)), some (.int (zI v5)), some (.int (zI 0)), some (.int (zI (-1))), none, none]) dX12_best_50 (by decide) rfl ?_
          refine r_iconst (pc := 52) dX12_best_52 ?_
          refine r_istore (pc := 53) (L' := [some (.ref 81), some (.int (zI v1)), some (.int (zI v2)), some (.int (zI v3)), some (.int (zI v4)), some (.int (zI v5)), some (.int (zI 0)), some (.int (zI (-1))), some (.int (zI 0)), none]) dX12_best_53 (by decide) rfl ?_
          exact w
        · have w := w.2 (c)
          refine r_bipush (pc := 43) (x := (-2)) dX12_best_43 (by decide) ?_
          exact r_iret (st := []) (pc := 45) (x := (-2)) (ty := .int) dX12_best_45 rfl rfl rfl (by decide) ⟨rfl, _, rfl, w⟩
      · have w := w.2 (bI_0.mp c)
        refine r_iconst (pc := 31) dX12_best_31 ?_
        exact r_iret (st := []) (pc := 32) (x := (-1)) (ty := .int) dX12_best_32 rfl rfl rfl (by decide) ⟨rfl, _, rfl, w⟩

set_option maxRecDepth 100000 in
set_option maxHeartbeats 4000000 in
theorem bX12_best_55 {h : zMm} {K : Int → zMm → Prop} {v1 : Int} {v2 : Int} {v3 : Int} {v4 : Int} {v5 : Int} {v6 : Int} {v7 : Int} {v8 : Int} (w : (zR v8 ∧ ((4 ≤ v8 → (zR v5 ∧ K (if v5 = 0 then v6 else v7) h)) ∧ (¬ 4 ≤ v8 → zCv mX12_begins [.ref 81, .int (zI v1), .int (zI v2), .int (zI v3)] zS0 h (fun h11 => RR mX12_best 0 0 71 [some (.ref 81), some (.int (zI v1)), some (.int (zI v2)), some (.int (zI v3)), some (.int (zI v4)), some (.int (zI v5)), some (.int (zI v6)), some (.int (zI v7)), some (.int (zI v8)), some (.int (zI 0))] [] zS0 h11 (zQi zS0 K)))))) : RR mX12_best 0 0 55 [some (.ref 81), some (.int (zI v1)), some (.int (zI v2)), some (.int (zI v3)), some (.int (zI v4)), some (.int (zI v5)), some (.int (zI v6)), some (.int (zI v7)), some (.int (zI v8)), none] [] zS0 h (zQi zS0 K) := by
  refine r_iload (pc := 55) (x := v8) dX12_best_55 rfl ?_
  refine r_iconst (pc := 57) dX12_best_57 ?_
  obtain ⟨hr8, w⟩ := w
  refine r_icmp_ge (pc := 58) (x := v8) (y := 4) (tgt := 142) dX12_best_58 (by decide) hr8 (by decide) (fun c => ?_) (fun c => ?_)
  · have w := w.1 (c)
    refine r_iload (pc := 142) (x := v5) dX12_best_142 rfl ?_
    obtain ⟨hr9, w⟩ := w
    have kk10 : RR mX12_best 0 0 154 [some (.ref 81), some (.int (zI v1)), some (.int (zI v2)), some (.int (zI v3)), some (.int (zI v4)), some (.int (zI v5)), some (.int (zI v6)), some (.int (zI v7)), some (.int (zI v8)), none] [.int (zI (if v5 = 0 then v6 else v7))] zS0 h (zQi zS0 K) := by
      exact r_iret (st := []) (pc := 154) (x := (if v5 = 0 then v6 else v7)) (ty := .int) dX12_best_154 rfl rfl rfl (by decide) ⟨rfl, _, rfl, w⟩
    refine r_if_ne (pc := 144) (x := v5) (tgt := 152) dX12_best_144 (by decide) hr9 (fun c => ?_) (fun c => ?_)
    · refine r_iload (pc := 152) (x := v7) dX12_best_152 rfl ?_
      simp only [if_neg (c)] at kk10 ⊢
      exact kk10
    · refine r_iload (pc := 147) (x := v6) dX12_best_147 rfl ?_
      refine r_goto (pc := 149) (tgt := 154) dX12_best_149 (by decide) ?_
      simp only [if_pos (c)] at kk10 ⊢
      exact kk10
  · have w := w.2 (c)
    refine r_aload_n (pc := 61) (a := 81) dX12_best_61 rfl ?_
    refine r_iload_n (pc := 62) (x := v1) dX12_best_62 rfl ?_
    refine r_iload_n (pc := 63) (x := v2) dX12_best_63 rfl ?_
    refine r_iload_n (pc := 64) (x := v3) dX12_best_64 rfl ?_
    refine r_callV (μ2 := mX12_begins) (pc := 65) (as := [.int (zI v1), .int (zI v2), .int (zI v3)]) (st := []) rfl s0_81 ml_X12_304 im_X12_begins se_X12_begins okX12_begins ⟨by decide, by decide⟩ dX12_best_65 (Nat.le_of_ble_eq_true rfl) rfl (Nat.le_of_ble_eq_true rfl) (by decide) (by decide) (zCC.mono w ?_)
    rintro r S' h11 ⟨rfl, hr, w⟩
    subst hr
    show RR mX12_best 0 0 68 [some (.ref 81), some (.int (zI v1)), some (.int (zI v2)), some (.int (zI v3)), some (.int (zI v4)), some (.int (zI v5)), some (.int (zI v6)), some (.int (zI v7)), some (.int (zI v8)), none] [] zS0 h11 (zQi zS0 K)
    refine r_iconst (pc := 68) dX12_best_68 ?_
    refine r_istore (pc := 69) (L' := [some (.ref 81), some (.int (zI v1)), some (.int (zI v2)), some (.int (zI v3)), some (.int (zI v4)), some (.int (zI v5)), some (.int (zI v6)), some (.int (zI v7)), some (.int (zI v8)), some (.int (zI 0))]) dX12_best_69 (by decide) rfl ?_
    exact w

set_option maxRecDepth 100000 in
set_option maxHeartbeats 4000000 in
theorem bX12_best_71 {h : zMm} {K : Int → zMm → Prop} {v1 : Int} {v2 : Int} {v3 : Int} {v4 : Int} {v5 : Int} {v6 : Int} {v7 : Int} {v8 : Int} {v9 : Int} (w : (zR v9 ∧ (zR v4 ∧ ((v4 ≤ v9 → zCl mX12_grass [.ref 81] zS0 h (fun x14 h14 => zCi mX12_bitsOf [.long (zJ (lA (h 81 43) x14))] zS0 h14 (fun x15 h15 => (zR x15 ∧ (zR v7 ∧ RR mX12_best 0 0 55 [some (.ref 81), some (.int (zI v1)), some (.int (zI v2)), some (.int (zI v3)), some (.int (zI v4)), some (.int (zI v5)), some (.int (zI (if x15 ≤ v7 then v6 else v8))), some (.int (zI (if x15 ≤ v7 then v7 else x15))), some (.int (zI (v8 + 1))), none] [] zS0 h15 (zQi zS0 K)))))) ∧ (¬ v4 ≤ v9 → zCv mX12_robotStep [.ref 81, .int (zI v8)] zS0 h (fun h20 => RR mX12_best 0 0 71 [some (.ref 81), some (.int (zI v1)), some (.int (zI v2)), some (.int (zI v3)), some (.int (zI v4)), some (.int (zI v5)), some (.int (zI v6)), some (.int (zI v7)), some (.int (zI v8)), some (.int (zI (v9 + 1)))] [] zS0 h20 (zQi zS0 K))))))) : RR mX12_best 0 0 71 [some (.ref 81), some (.int (zI v1)), some (.int (zI v2)), some (.int (zI v3)), some (.int (zI v4)), some (.int (zI v5)), some (.int (zI v6)), some (.int (zI v7)), some (.int (zI v8)), some (.int (zI v9))] [] zS0 h (zQi zS0 K) := by
  refine r_iload (pc := 71) (x := v9) dX12_best_71 rfl ?_
  refine r_iload (pc := 73) (x := v4) dX12_best_73 rfl ?_
  obtain ⟨hr12, w⟩ := w
  obtain ⟨hr13, w⟩ := w
  refine r_icmp_ge (pc := 75) (x := v9) (y := v4) (tgt := 90) dX12_best_75 (by decide) hr12 hr13 (fun c => ?_) (fun c => ?_)
  · have w := w.1 (c)
    refine r_aload_n (pc := 90) (a := 81) dX12_best_90 rfl ?_
    refine r_getJ (pc := 91) (fi := 43) (x := (h 81 43)) fl_X12_294 dX12_best_91 s0_81 rfl (rfl) ?_
    refine r_aload_n (pc := 94) (a := 81) dX12_best_94 rfl ?_
    refine r_callV (μ2 := mX12_grass) (pc := 95) (as := []) (st := [.long (zJ (h 81 43))]) rfl s0_81 ml_X12_317 im_X12_grass se_X12_grass okX12_grass ⟨by decide, by decide⟩ dX12_best_95 (Nat.le_of_ble_eq_true rfl) rfl (Nat.le_of_ble_eq_true rfl) (by decide) (by decide) (zCC.mono w ?_)
    rintro r S' h14 ⟨rfl, x14, hr, w⟩
    subst hr
    show RR mX12_best 0 0 98 [some (.ref 81), some (.int (zI v1)), some (.int (zI v2)), some (.int (zI v3)), some (.int (zI v4)), some (.int (zI v5)), some (.int (zI v6)), some (.int (zI v7)), some (.int (zI v8)), some (.int (zI v9))] [.long (zJ x14), .long (zJ (h 81 43))] zS0 h14 (zQi zS0 K)
    refine r_land (pc := 98) (x := (h 81 43)) (y := x14) dX12_best_98 ?_
    refine r_callS (μ2 := mX12_bitsOf) (pc := 99) (as := [.long (zJ (lA (h 81 43) x14))]) (st := []) ml_X12_311 sm_X12_bitsOf okX12_bitsOf ⟨by decide, by decide⟩ dX12_best_99 (Nat.le_of_ble_eq_true rfl) rfl (Nat.le_of_ble_eq_true rfl) (by decide) (by decide) (zCC.mono w ?_)
    rintro r S' h15 ⟨rfl, x15, hr, w⟩
    subst hr
    show RR mX12_best 0 0 102 [some (.ref 81), some (.int (zI v1)), some (.int (zI v2)), some (.int (zI v3)), some (.int (zI v4)), some (.int (zI v5)), some (.int (zI v6)), some (.int (zI v7)), some (.int (zI v8)), some (.int (zI v9))] [.int (zI x15)] zS0 h15 (zQi zS0 K)
    refine r_istore (pc := 102) (L' := [some (.ref 81), some (.int (zI v1)), some (.int (zI v2)), some (.int (zI v3)), some (.int (zI v4)), some (.int (zI v5)), some (.int (zI v6)), some (.int (zI v7)), some (.int (zI v8)), some (.int (zI x15))]) dX12_best_102 (by decide) rfl ?_
    refine r_iload (pc := 104) (x := x15) dX12_best_104 rfl ?_
    refine r_iload (pc := 106) (x := v7) dX12_best_106 rfl ?_
    obtain ⟨hr16, w⟩ := w
    obtain ⟨hr17, w⟩ := w
    have kk19 : RR mX12_best 0 0 118 [some (.ref 81), some (.int (zI v1)), some (.int (zI v2)), some (.int (zI v3)), some (.int (zI v4)), some (.int (zI v5)), some (.int (zI v6)), some (.int (zI v7)), some (.int (zI v8)), some (.int (zI x15))] [.int (zI (if x15 ≤ v7 then v6 else v8))] zS0 h15 (zQi zS0 K) := by
      refine r_istore (pc := 118) (L' := [some (.ref 81), some (.int (zI v1)), some (.int (zI v2)), some (.int (zI v3)), some (.int (zI v4)), some (.int (zI v5)), some (.int (zI (if x15 ≤ v7 then v6 else v8))), some (.int (zI v7)), some (.int (zI v8)), some (.int (zI x15))]) dX12_best_118 (by decide) rfl ?_
      refine r_iload (pc := 120) (x := x15) dX12_best_120 rfl ?_
      refine r_iload (pc := 122) (x := v7) dX12_best_122 rfl ?_
      have kk18 : RR mX12_best 0 0 134 [some (.ref 81), some (.int (zI v1)), some (.int (zI v2)), some (.int (zI v3)), some (.int (zI v4)), some (.int (zI v5)), some (.int (zI (if x15 ≤ v7 then v6 else v8))), some (.int (zI v7)), some (.int (zI v8)), some (.int (zI x15))] [.int (zI (if x15 ≤ v7 then v7 else x15))] zS0 h15 (zQi zS0 K) := by
        refine r_istore (pc := 134) (L' := [some (.ref 81), some (.int (zI v1)), some (.int (zI v2)), some (.int (zI v3)), some (.int (zI v4)), some (.int (zI v5)), some (.int (zI (if x15 ≤ v7 then v6 else v8))), some (.int (zI (if x15 ≤ v7 then v7 else x15))), some (.int (zI v8)), some (.int (zI x15))]) dX12_best_134 (by decide) rfl ?_
        refine r_iinc (pc := 136) (x := v8) (L' := [some (.ref 81), some (.int (zI v1)), some (.int (zI v2)), some (.int (zI v3)), some (.int (zI v4)), some (.int (zI v5)), some (.int (zI (if x15 ≤ v7 then v6 else v8))), some (.int (zI (if x15 ≤ v7 then v7 else x15))), some (.int (zI (v8 + 1))), some (.int (zI x15))]) dX12_best_136 rfl (by decide) rfl ?_
        refine r_goto (pc := 139) (tgt := 55) dX12_best_139 (by decide) ?_
        exact RR.sub (L' := [some (.ref 81), some (.int (zI v1)), some (.int (zI v2)), some (.int (zI v3)), some (.int (zI v4)), some (.int (zI v5)), some (.int (zI (if x15 ≤ v7 then v6 else v8))), some (.int (zI (if x15 ≤ v7 then v7 else x15))), some (.int (zI (v8 + 1))), none]) (zSb_of (⟨rfl, ⟨rfl, ⟨rfl, ⟨rfl, ⟨rfl, ⟨rfl, ⟨rfl, ⟨rfl, ⟨rfl, trivial⟩⟩⟩⟩⟩⟩⟩⟩⟩)) w
      refine r_icmp_le (pc := 124) (x := x15) (y := v7) (tgt := 132) dX12_best_124 (by decide) hr16 hr17 (fun c => ?_) (fun c => ?_)
      · refine r_iload (pc := 132) (x := v7) dX12_best_132 rfl ?_
        simp only [if_pos (c)] at kk18 ⊢
        exact kk18
      · refine r_iload (pc := 127) (x := x15) dX12_best_127 rfl ?_
        refine r_goto (pc := 129) (tgt := 134) dX12_best_129 (by decide) ?_
        simp only [if_neg (c)] at kk18 ⊢
        exact kk18
    refine r_icmp_le (pc := 108) (x := x15) (y := v7) (tgt := 116) dX12_best_108 (by decide) hr16 hr17 (fun c => ?_) (fun c => ?_)
    · refine r_iload (pc := 116) (x := v6) dX12_best_116 rfl ?_
      simp only [if_pos (c)] at kk19 ⊢
      exact kk19
    · refine r_iload (pc := 111) (x := v8) dX12_best_111 rfl ?_
      refine r_goto (pc := 113) (tgt := 118) dX12_best_113 (by decide) ?_
      simp only [if_neg (c)] at kk19 ⊢
      exact kk19
  · have w := w.2 (c)
    refine r_aload_n (pc := 78) (a := 81) dX12_best_78 rfl ?_
    refine r_iload (pc := 79) (x := v8) dX12_best_79 rfl ?_
    refine r_callV (μ2 := mX12_robotStep) (pc := 81) (as := [.int (zI v8)]) (st := []) rfl s0_81 ml_X12_308 im_X12_robotStep se_X12_robotStep okX12_robotStep ⟨by decide, by decide⟩ dX12_best_81 (Nat.le_of_ble_eq_true rfl) rfl (Nat.le_of_ble_eq_true rfl) (by decide) (by decide) (zCC.mono w ?_)
    rintro r S' h20 ⟨rfl, hr, w⟩
    subst hr
    show RR mX12_best 0 0 84 [some (.ref 81), some (.int (zI v1)), some (.int (zI v2)), some (.int (zI v3)), some (.int (zI v4)), some (.int (zI v5)), some (.int (zI v6)), some (.int (zI v7)), some (.int (zI v8)), some (.int (zI v9))] [] zS0 h20 (zQi zS0 K)
    refine r_iinc (pc := 84) (x := v9) (L' := [some (.ref 81), some (.int (zI v1)), some (.int (zI v2)), some (.int (zI v3)), some (.int (zI v4)), some (.int (zI v5)), some (.int (zI v6)), some (.int (zI v7)), some (.int (zI v8)), some (.int (zI (v9 + 1)))]) dX12_best_84 rfl (by decide) rfl ?_
    refine r_goto (pc := 87) (tgt := 71) dX12_best_87 (by decide) ?_
    exact w

set_option maxRecDepth 100000 in
set_option maxHeartbeats 4000000 in
theorem wX12_odds {h : zMm} {K : Int → zMm → Prop} {v1 : Int} {v2 : Int} {v3 : Int} {v4 : Int} {v5 : Int} (w : zCv mX12_awake [.ref 81] zS0 h (fun h1 => zCb mX12_isRobot [.int (zI v1), .int (zI v2)] zS0 h1 (fun b2 h2 => ((b2 = false → K (-1) h2) ∧ (b2 = true → zCb mX12_isCell [.int (zI v3)] zS0 h2 (fun b3 h3 => ((b3 = false → K (-1) h3) ∧ (b3 = true → (zR v4 ∧ zCb mX12_in [.long (zJ v4), .long (zJ 0), .long (zJ 20)] zS0 h3 (fun b5 h5 => ((b5 = false → K (-1) h5) ∧ (b5 = true → (zR v5 ∧ zCb mX12_in [.long (zJ v5), .long (zJ 0), .long (zJ 1)] zS0 h5 (fun b7 h7 => ((b7 = true → ((0 ≤ v1 ∧ v1 < 600) ∧ (zR (h7 92 v1) ∧ ((¬ (h7 92 v1) = 2 → RR mX12_odds 0 0 64 [some (.ref 81), some (.int (zI v1)), some (.int (zI v2)), some (.int (zI v3)), some (.int (zI v4)), some (.int (zI v5)), some (.int (zI 0)), none, none, none, none, none, none, none] [] zS0 h7 (zQl zS0 K)) ∧ ((h7 92 v1) = 2 → K (-2) h7))))) ∧ (b7 = false → K (-1) h7)))))))))))))))) : zCl mX12_odds [.ref 81, .int (zI v1), .int (zI v2), .int (zI v3), .int (zI v4), .int (zI v5)] zS0 h K := by
  show RR mX12_odds 0 0 0 [some (.ref 81), some (.int (zI v1)), some (.int (zI v2)), some (.int (zI v3)), some (.int (zI v4)), some (.int (zI v5)), none, none, none, none, none, none, none, none] [] zS0 h (zQl zS0 K)
  refine r_aload_n (pc := 0) (a := 81) dX12_odds_0 rfl ?_
  refine r_callV (μ2 := mX12_awake) (pc := 1) (as := []) (st := []) rfl s0_81 ml_X12_175 im_X12_awake se_X12_awake okX12_awake ⟨by decide, by decide⟩ dX12_odds_1 (Nat.le_of_ble_eq_true rfl) rfl (Nat.le_of_ble_eq_true rfl) (by decide) (by decide) (zCC.mono w ?_)
  rintro r S' h1 ⟨rfl, hr, w⟩
  subst hr
  show RR mX12_odds 0 0 4 [some (.ref 81), some (.int (zI v1)), some (.int (zI v2)), some (.int (zI v3)), some (.int (zI v4)), some (.int (zI v5)), none, none, none, none, none, none, none, none] [] zS0 h1 (zQl zS0 K)
  refine r_iload_n (pc := 4) (x := v1) dX12_odds_4 rfl ?_
  refine r_iload_n (pc := 5) (x := v2) dX12_odds_5 rfl ?_
  refine r_callS (μ2 := mX12_isRobot) (pc := 6) (as := [.int (zI v1), .int (zI v2)]) (st := []) ml_X12_299 sm_X12_isRobot okX12_isRobot ⟨by decide, by decide⟩ dX12_odds_6 (Nat.le_of_ble_eq_true rfl) rfl (Nat.le_of_ble_eq_true rfl) (by decide) (by decide) (zCC.mono w ?_)
  rintro r S' h2 ⟨rfl, b2, hr, w⟩
  subst hr
  show RR mX12_odds 0 0 9 [some (.ref 81), some (.int (zI v1)), some (.int (zI v2)), some (.int (zI v3)), some (.int (zI v4)), some (.int (zI v5)), none, none, none, none, none, none, none, none] [.int (zI (bI b2))] zS0 h2 (zQl zS0 K)
  refine r_if_eq (pc := 9) (x := (bI b2)) (tgt := 43) dX12_odds_9 (by decide) (bI_R _) (fun c => ?_) (fun c => ?_)
  · have w := w.1 (bI_0.mp c)
    refine r_ldcL (pc := 43) (x := (-1)) dX12_odds_43 kl_X12_237 ?_
    exact r_lret (st := []) (pc := 46) (x := (-1)) dX12_odds_46 rfl rfl (by decide) ⟨rfl, _, rfl, w⟩
  · have w := w.2 (bI_n.mp c)
    refine r_iload_n (pc := 12) (x := v3) dX12_odds_12 rfl ?_
    refine r_callS (μ2 := mX12_isCell) (pc := 13) (as := [.int (zI v3)]) (st := []) ml_X12_178 sm_X12_isCell okX12_isCell ⟨by decide, by decide⟩ dX12_odds_13 (Nat.le_of_ble_eq_true rfl) rfl (Nat.le_of_ble_eq_true rfl) (by decide) (by decide) (zCC.mono w ?_)
    rintro r S' h3 ⟨rfl, b3, hr, w⟩
    subst hr
    show RR mX12_odds 0 0 16 [some (.ref 81), some (.int (zI v1)), some (.int (zI v2)), some (.int (zI v3)), some (.int (zI v4)), some (.int (zI v5)), none, none, none, none, none, none, none, none] [.int (zI (bI b3))] zS0 h3 (zQl zS0 K)
    refine r_if_eq (pc := 16) (x := (bI b3)) (tgt := 43) dX12_odds_16 (by decide) (bI_R _) (fun c => ?_) (fun c => ?_)
    · have w := w.1 (bI_0.mp c)
      refine r_ldcL (pc := 43) (x := (-1)) dX12_odds_43 kl_X12_237 ?_
      exact r_lret (st := []) (pc := 46) (x := (-1)) dX12_odds_46 rfl rfl (by decide) ⟨rfl, _, rfl, w⟩
    · have w := w.2 (bI_n.mp c)
      refine r_iload (pc := 19) (x := v4) dX12_odds_19 rfl ?_
      obtain ⟨hr4, w⟩ := w
      refine r_i2l (pc := 21) (x := v4) dX12_odds_21 hr4 ?_
      refine r_lconst (pc := 22) (x := 0) dX12_odds_22 rfl ?_
      refine r_ldcL (pc := 23) (x := 20) dX12_odds_23 kl_X12_321 ?_
      refine r_callS (μ2 := mX12_in) (pc := 26) (as := [.long (zJ v4), .long (zJ 0), .long (zJ 20)]) (st := []) ml_X12_94 sm_X12_in okX12_in ⟨by decide, by decide⟩ dX12_odds_26 (Nat.le_of_ble_eq_true rfl) rfl (Nat.le_of_ble_eq_true rfl) (by decide) (by decide) (zCC.mono w ?_)
      rintro r S' h5 ⟨rfl, b5, hr, w⟩
      subst hr
      show RR mX12_odds 0 0 29 [some (.ref 81), some (.int (zI v1)), some (.int (zI v2)), some (.int (zI v3)), some (.int (zI v4)), some (.int (zI v5)), none, none, none, none, none, none, none, none] [.int (zI (bI b5))] zS0 h5 (zQl zS0 K)
      refine r_if_eq (pc := 29) (x := (bI b5)) (tgt := 43) dX12_odds_29 (by decide) (bI_R _) (fun c => ?_) (fun c => ?_)
      · have w := w.1 (bI_0.mp c)
        refine r_ldcL (pc := 43) (x := (-1)) dX12_odds_43 kl_X12_237 ?_
        exact r_lret (st := []) (pc := 46) (x := (-1)) dX12_odds_46 rfl rfl (by decide) ⟨rfl, _, rfl, w⟩
      · have w := w.2 (bI_n.mp c)
        refine r_iload (pc := 32) (x := v5) dX12_odds_32 rfl ?_
        obtain ⟨hr6, w⟩ := w
        refine r_i2l (pc := 34) (x := v5) dX12_odds_34 hr6 ?_
        refine r_lconst (pc := 35) (x := 0) dX12_odds_35 rfl ?_
        refine r_lconst (pc := 36) (x := 1) dX12_odds_36 rfl ?_
        refine r_callS (μ2 := mX12_in) (pc := 37) (as := [.long (zJ v5), .long (zJ 0), .long (zJ 1)]) (st := []) ml_X12_94 sm_X12_in okX12_in ⟨by decide, by decide⟩ dX12_odds_37 (Nat.le_of_ble_eq_true rfl) rfl (Nat.le_of_ble_eq_true rfl) (by decide) (by decide) (zCC.mono w ?_)
        rintro r S' h7 ⟨rfl, b7, hr, w⟩
        subst hr
        show RR mX12_odds 0 0 40 [some (.ref 81), some (.int (zI v1)), some (.int (zI v2)), some (.int (zI v3)), some (.int (zI v4)), some (.int (zI v5)), none, none, none, none, none, none, none, none] [.int (zI (bI b7))] zS0 h7 (zQl zS0 K)
        refine r_if_ne (pc := 40) (x := (bI b7)) (tgt := 47) dX12_odds_40 (by decide) (bI_R _) (fun c => ?_) (fun c => ?_)
        · have w := w.1 (bI_n.mp c)
          refine r_aload_n (pc := 47) (a := 81) dX12_odds_47 rfl ?_
          refine r_getR (pc := 48) (b := 92) fl_X12_40 dX12_odds_48 s0_81 rfl ?_
          refine r_iload_n (pc := 51) (x := v1) dX12_odds_51 rfl ?_
          obtain ⟨hb8, w⟩ := w
          refine r_iald (pc := 52) (i := v1) (x := (h7 92 v1)) dX12_odds_52 s0_92 ⟨hb8.1, hb8.2, (by decide)⟩ (rfl) ?_
          refine r_iconst (pc := 53) dX12_odds_53 ?_
          obtain ⟨hr9, w⟩ := w
          refine r_icmp_ne (pc := 54) (x := (h7 92 v1)) (y := 2) (tgt := 61) dX12_odds_54 (by decide) hr9 (by decide) (fun c => ?_) (fun c => ?_)
          · have w := w.1 (c)
            refine r_iconst (pc := 61) dX12_odds_61 ?_
            refine r_istore (pc := 62) (L' := [some (.ref 81), some (.int (zI v1)), some (.int (zI v2)), some (.int (zI v3)), some (.int (zI v4)), some (.int (zI v5)), some (.int (zI 0)), none, none, none, none, none, none, none]) dX12_odds_62 (by decide) rfl ?_
            exact w
          · have w := w.2 (c)
            refine r_ldcL (pc := 57) (x := (-2)) dX12_odds_57 kl_X12_302 ?_
            exact r_lret (st := []) (pc := 60) (x := (-2)) dX12_odds_60 rfl rfl (by decide) ⟨rfl, _, rfl, w⟩
        · have w := w.2 (bI_0.mp c)
          refine r_ldcL (pc := 43) (x := (-1)) dX12_odds_43 kl_X12_237 ?_
          exact r_lret (st := []) (pc := 46) (x := (-1)) dX12_odds_46 rfl rfl (by decide) ⟨rfl, _, rfl, w⟩

set_option maxRecDepth 100000 in
set_option maxHeartbeats 4000000 in
theorem bX12_odds_64 {h : zMm} {K : Int → zMm → Prop} {v1 : Int} {v2 : Int} {v3 : Int} {v4 : Int} {v5 : Int} {v6 : Int} (w : (zR v6 ∧ (zR ((4 * v1) + v2) ∧ ((144 ≤ v6 → RR mX12_odds 0 0 103 [some (.ref 81), none, none, some (.int (zI v3)), some (.int (zI v4)), some (.int (zI v5)), some (.int (zI 0)), none, none, none, none, none, none, none] [] zS0 h (zQl zS0 K)) ∧ (¬ 144 ≤ v6 → ((0 ≤ v6 ∧ v6 < 144) ∧ RR mX12_odds 0 0 64 [some (.ref 81), some (.int (zI v1)), some (.int (zI v2)), some (.int (zI v3)), some (.int (zI v4)), some (.int (zI v5)), some (.int (zI (v6 + 1))), none, none, none, none, none, none, none] [] zS0 (zU h 102 v6 (if v6 = ((4 * v1) + v2) then 1 else 0)) (zQl zS0 K))))))) : RR mX12_odds 0 0 64 [some (.ref 81), some (.int (zI v1)), some (.int (zI v2)), some (.int (zI v3)), some (.int (zI v4)), some (.int (zI v5)), some (.int (zI v6)), none, none, none, none, none, none, none] [] zS0 h (zQl zS0 K) := by
  refine r_iload (pc := 64) (x := v6) dX12_odds_64 rfl ?_
  refine r_sipush (pc := 66) (x := 144) dX12_odds_66 (by decide) ?_
  obtain ⟨hr10, w⟩ := w
  obtain ⟨hr12, w⟩ := w
  refine r_icmp_ge (pc := 69) (x := v6) (y := 144) (tgt := 100) dX12_odds_69 (by decide) hr10 (by decide) (fun c => ?_) (fun c => ?_)
  · have w := w.1 (c)
    refine r_iconst (pc := 100) dX12_odds_100 ?_
    refine r_istore (pc := 101) (L' := [some (.ref 81), some (.int (zI v1)), some (.int (zI v2)), some (.int (zI v3)), some (.int (zI v4)), some (.int (zI v5)), some (.int (zI 0)), none, none, none, none, none, none, none]) dX12_odds_101 (by decide) rfl ?_
    exact RR.sub (L' := [some (.ref 81), none, none, some (.int (zI v3)), some (.int (zI v4)), some (.int (zI v5)), some (.int (zI 0)), none, none, none, none, none, none, none]) (zSb_of (⟨rfl, ⟨rfl, ⟨rfl, ⟨rfl, ⟨rfl, trivial⟩⟩⟩⟩⟩)) w
  · have w := w.2 (c)
    refine r_aload_n (pc := 72) (a := 81) dX12_odds_72 rfl ?_
    refine r_getR (pc := 73) (b := 102) fl_X12_70 dX12_odds_73 s0_81 rfl ?_
    refine r_iload (pc := 76) (x := v6) dX12_odds_76 rfl ?_
    refine r_iload (pc := 78) (x := v6) dX12_odds_78 rfl ?_
    refine r_iconst (pc := 80) dX12_odds_80 ?_
    refine r_iload_n (pc := 81) (x := v1) dX12_odds_81 rfl ?_
    refine r_imul (pc := 82) (x := 4) (y := v1) dX12_odds_82 ?_
    refine r_iload_n (pc := 83) (x := v2) dX12_odds_83 rfl ?_
    refine r_iadd (pc := 84) (x := (4 * v1)) (y := v2) dX12_odds_84 ?_
    have kk15 : RR mX12_odds 0 0 93 [some (.ref 81), some (.int (zI v1)), some (.int (zI v2)), some (.int (zI v3)), some (.int (zI v4)), some (.int (zI v5)), some (.int (zI v6)), none, none, none, none, none, none, none] [.long (zJ (if v6 = ((4 * v1) + v2) then 1 else 0)), .int (zI v6), .ref 102] zS0 h (zQl zS0 K) := by
      obtain ⟨hb14, w⟩ := w
      refine r_last (pc := 93) (i := v6) (x := (if v6 = ((4 * v1) + v2) then 1 else 0)) dX12_odds_93 s0_102 ⟨hb14.1, hb14.2, (by decide)⟩  ?_
      refine r_iinc (pc := 94) (x := v6) (L' := [some (.ref 81), some (.int (zI v1)), some (.int (zI v2)), some (.int (zI v3)), some (.int (zI v4)), some (.int (zI v5)), some (.int (zI (v6 + 1))), none, none, none, none, none, none, none]) dX12_odds_94 rfl (by decide) rfl ?_
      refine r_goto (pc := 97) (tgt := 64) dX12_odds_97 (by decide) ?_
      exact w
    refine r_icmp_ne (pc := 85) (x := v6) (y := ((4 * v1) + v2)) (tgt := 92) dX12_odds_85 (by decide) hr10 hr12 (fun c => ?_) (fun c => ?_)
    · refine r_lconst (pc := 92) (x := 0) dX12_odds_92 rfl ?_
      simp only [if_neg (c)] at kk15 ⊢
      exact kk15
    · refine r_lconst (pc := 88) (x := 1) dX12_odds_88 rfl ?_
      refine r_goto (pc := 89) (tgt := 93) dX12_odds_89 (by decide) ?_
      simp only [if_pos (c)] at kk15 ⊢
      exact kk15

set_option maxRecDepth 100000 in
set_option maxHeartbeats 4000000 in
theorem bX12_odds_103 {h : zMm} {K : Int → zMm → Prop} {v3 : Int} {v4 : Int} {v5 : Int} {v6 : Int} (w : (zR v6 ∧ (zR v4 ∧ ((v4 ≤ v6 → RR mX12_odds 0 0 280 [some (.ref 81), none, none, some (.int (zI v3)), some (.int (zI v4)), some (.int (zI v5)), some (.long (zJ 0)), none, some (.int (zI 0)), none, none, none, none, none] [] zS0 h (zQl zS0 K)) ∧ (¬ v4 ≤ v6 → RR mX12_odds 0 0 113 [some (.ref 81), none, none, some (.int (zI v3)), some (.int (zI v4)), some (.int (zI v5)), some (.int (zI v6)), some (.int (zI 0)), none, none, none, none, none, none] [] zS0 h (zQl zS0 K)))))) : RR mX12_odds 0 0 103 [some (.ref 81), none, none, some (.int (zI v3)), some (.int (zI v4)), some (.int (zI v5)), some (.int (zI v6)), none, none, none, none, none, none, none] [] zS0 h (zQl zS0 K) := by
  refine r_iload (pc := 103) (x := v6) dX12_odds_103 rfl ?_
  refine r_iload (pc := 105) (x := v4) dX12_odds_105 rfl ?_
  obtain ⟨hr16, w⟩ := w
  obtain ⟨hr17, w⟩ := w
  refine r_icmp_ge (pc := 107) (x := v6) (y := v4) (tgt := 274) dX12_odds_107 (by decide) hr16 hr17 (fun c => ?_) (fun c => ?_)
  · have w := w.1 (c)
    refine r_lconst (pc := 274) (x := 0) dX12_odds_274 rfl ?_
    refine r_lstore (pc := 275) (L' := [some (.ref 81), none, none, some (.int (zI v3)), some (.int (zI v4)), some (.int (zI v5)), some (.long (zJ 0)), none, none, none, none, none, none, none]) dX12_odds_275 (by decide) rfl ?_
    refine r_iconst (pc := 277) dX12_odds_277 ?_
    refine r_istore (pc := 278) (L' := [some (.ref 81), none, none, some (.int (zI v3)), some (.int (zI v4)), some (.int (zI v5)), some (.long (zJ 0)), none, some (.int (zI 0)), none, none, none, none, none]) dX12_odds_278 (by decide) rfl ?_
    exact w
  · have w := w.2 (c)
    refine r_iconst (pc := 110) dX12_odds_110 ?_
    refine r_istore (pc := 111) (L' := [some (.ref 81), none, none, some (.int (zI v3)), some (.int (zI v4)), some (.int (zI v5)), some (.int (zI v6)), some (.int (zI 0)), none, none, none, none, none, none]) dX12_odds_111 (by decide) rfl ?_
    exact w

set_option maxRecDepth 100000 in
set_option maxHeartbeats 4000000 in
theorem bX12_odds_113 {h : zMm} {K : Int → zMm → Prop} {v3 : Int} {v4 : Int} {v5 : Int} {v6 : Int} {v7 : Int} (w : (zR v7 ∧ ((144 ≤ v7 → RR mX12_odds 0 0 138 [some (.ref 81), none, none, some (.int (zI v3)), some (.int (zI v4)), some (.int (zI v5)), some (.int (zI v6)), some (.int (zI 0)), none, none, none, none, none, none] [] zS0 h (zQl zS0 K)) ∧ (¬ 144 ≤ v7 → ((0 ≤ v7 ∧ v7 < 144) ∧ RR mX12_odds 0 0 113 [some (.ref 81), none, none, some (.int (zI v3)), some (.int (zI v4)), some (.int (zI v5)), some (.int (zI v6)), some (.int (zI (v7 + 1))), none, none, none, none, none, none] [] zS0 (zU h 103 v7 0) (zQl zS0 K)))))) : RR mX12_odds 0 0 113 [some (.ref 81), none, none, some (.int (zI v3)), some (.int (zI v4)), some (.int (zI v5)), some (.int (zI v6)), some (.int (zI v7)), none, none, none, none, none, none] [] zS0 h (zQl zS0 K) := by
  refine r_iload (pc := 113) (x := v7) dX12_odds_113 rfl ?_
  refine r_sipush (pc := 115) (x := 144) dX12_odds_115 (by decide) ?_
  obtain ⟨hr18, w⟩ := w
  refine r_icmp_ge (pc := 118) (x := v7) (y := 144) (tgt := 135) dX12_odds_118 (by decide) hr18 (by decide) (fun c => ?_) (fun c => ?_)
  · have w := w.1 (c)
    refine r_iconst (pc := 135) dX12_odds_135 ?_
    refine r_istore (pc := 136) (L' := [some (.ref 81), none, none, some (.int (zI v3)), some (.int (zI v4)), some (.int (zI v5)), some (.int (zI v6)), some (.int (zI 0)), none, none, none, none, none, none]) dX12_odds_136 (by decide) rfl ?_
    exact w
  · have w := w.2 (c)
    refine r_aload_n (pc := 121) (a := 81) dX12_odds_121 rfl ?_
    refine r_getR (pc := 122) (b := 103) fl_X12_74 dX12_odds_122 s0_81 rfl ?_
    refine r_iload (pc := 125) (x := v7) dX12_odds_125 rfl ?_
    refine r_lconst (pc := 127) (x := 0) dX12_odds_127 rfl ?_
    obtain ⟨hb19, w⟩ := w
    refine r_last (pc := 128) (i := v7) (x := 0) dX12_odds_128 s0_103 ⟨hb19.1, hb19.2, (by decide)⟩  ?_
    refine r_iinc (pc := 129) (x := v7) (L' := [some (.ref 81), none, none, some (.int (zI v3)), some (.int (zI v4)), some (.int (zI v5)), some (.int (zI v6)), some (.int (zI (v7 + 1))), none, none, none, none, none, none]) dX12_odds_129 rfl (by decide) rfl ?_
    refine r_goto (pc := 132) (tgt := 113) dX12_odds_132 (by decide) ?_
    exact w

set_option maxRecDepth 100000 in
set_option maxHeartbeats 4000000 in
theorem bX12_odds_138 {h : zMm} {K : Int → zMm → Prop} {v3 : Int} {v4 : Int} {v5 : Int} {v6 : Int} {v7 : Int} (w : (zR v7 ∧ ((144 ≤ v7 → RR mX12_odds 0 0 240 [some (.ref 81), none, none, some (.int (zI v3)), some (.int (zI v4)), some (.int (zI v5)), some (.int (zI v6)), some (.int (zI 0)), none, none, none, none, none, none] [] zS0 h (zQl zS0 K)) ∧ (¬ 144 ≤ v7 → ((0 ≤ v7 ∧ v7 < 2147483648) ∧ (zR (v7 / 4) ∧ (zR v3 ∧ ((¬ (v7 / 4) = v3 → zCi mX12_nextOf [.ref 81, .int (zI (v7 / 4)), .int (zI (v7 % 4))] zS0 h (fun x24 h24 => RR mX12_odds 0 0 175 [some (.ref 81), none, none, some (.int (zI v3)), some (.int (zI v4)), some (.int (zI v5)), some (.int (zI v6)), some (.int (zI v7)), some (.int (zI x24)), some (.int (zI 0)), none, none, none, none] [] zS0 h24 (zQl zS0 K))) ∧ ((v7 / 4) = v3 → RR mX12_odds 0 0 175 [some (.ref 81), none, none, some (.int (zI v3)), some (.int (zI v4)), some (.int (zI v5)), some (.int (zI v6)), some (.int (zI v7)), some (.int (zI v3)), some (.int (zI 0)), none, none, none, none] [] zS0 h (zQl zS0 K)))))))))) : RR mX12_odds 0 0 138 [some (.ref 81), none, none, some (.int (zI v3)), some (.int (zI v4)), some (.int (zI v5)), some (.int (zI v6)), some (.int (zI v7)), none, none, none, none, none, none] [] zS0 h (zQl zS0 K) := by
  refine r_iload (pc := 138) (x := v7) dX12_odds_138 rfl ?_
  refine r_sipush (pc := 140) (x := 144) dX12_odds_140 (by decide) ?_
  obtain ⟨hr20, w⟩ := w
  refine r_icmp_ge (pc := 143) (x := v7) (y := 144) (tgt := 237) dX12_odds_143 (by decide) hr20 (by decide) (fun c => ?_) (fun c => ?_)
  · have w := w.1 (c)
    refine r_iconst (pc := 237) dX12_odds_237 ?_
    refine r_istore (pc := 238) (L' := [some (.ref 81), none, none, some (.int (zI v3)), some (.int (zI v4)), some (.int (zI v5)), some (.int (zI v6)), some (.int (zI 0)), none, none, none, none, none, none]) dX12_odds_238 (by decide) rfl ?_
    exact w
  · have w := w.2 (c)
    refine r_iload (pc := 146) (x := v7) dX12_odds_146 rfl ?_
    refine r_iconst (pc := 148) dX12_odds_148 ?_
    obtain ⟨hx21, w⟩ := w
    refine r_idiv (pc := 149) (x := v7) (y := 4) dX12_odds_149 hx21 (by decide) ?_
    refine r_iload_n (pc := 150) (x := v3) dX12_odds_150 rfl ?_
    obtain ⟨hr22, w⟩ := w
    obtain ⟨hr23, w⟩ := w
    refine r_icmp_ne (pc := 151) (x := (v7 / 4)) (y := v3) (tgt := 158) dX12_odds_151 (by decide) hr22 hr23 (fun c => ?_) (fun c => ?_)
    · have w := w.1 (c)
      refine r_aload_n (pc := 158) (a := 81) dX12_odds_158 rfl ?_
      refine r_iload (pc := 159) (x := v7) dX12_odds_159 rfl ?_
      refine r_iconst (pc := 161) dX12_odds_161 ?_
      refine r_idiv (pc := 162) (x := v7) (y := 4) dX12_odds_162 ⟨by omega, by omega⟩ (by decide) ?_
      refine r_iload (pc := 163) (x := v7) dX12_odds_163 rfl ?_
      refine r_iconst (pc := 165) dX12_odds_165 ?_
      refine r_irem (pc := 166) (x := v7) (y := 4) dX12_odds_166 ⟨by omega, by omega⟩ (by decide) ?_
      refine r_callV (μ2 := mX12_nextOf) (pc := 167) (as := [.int (zI (v7 / 4)), .int (zI (v7 % 4))]) (st := []) rfl s0_81 ml_X12_202 im_X12_nextOf se_X12_nextOf okX12_nextOf ⟨by decide, by decide⟩ dX12_odds_167 (Nat.le_of_ble_eq_true rfl) rfl (Nat.le_of_ble_eq_true rfl) (by decide) (by decide) (zCC.mono w ?_)
      rintro r S' h24 ⟨rfl, x24, hr, w⟩
      subst hr
      show RR mX12_odds 0 0 170 [some (.ref 81), none, none, some (.int (zI v3)), some (.int (zI v4)), some (.int (zI v5)), some (.int (zI v6)), some (.int (zI v7)), none, none, none, none, none, none] [.int (zI x24)] zS0 h24 (zQl zS0 K)
      refine r_istore (pc := 170) (L' := [some (.ref 81), none, none, some (.int (zI v3)), some (.int (zI v4)), some (.int (zI v5)), some (.int (zI v6)), some (.int (zI v7)), some (.int (zI x24)), none, none, none, none, none]) dX12_odds_170 (by decide) rfl ?_
      refine r_iconst (pc := 172) dX12_odds_172 ?_
      refine r_istore (pc := 173) (L' := [some (.ref 81), none, none, some (.int (zI v3)), some (.int (zI v4)), some (.int (zI v5)), some (.int (zI v6)), some (.int (zI v7)), some (.int (zI x24)), some (.int (zI 0)), none, none, none, none]) dX12_odds_173 (by decide) rfl ?_
      exact w
    · have w := w.2 (c)
      refine r_iload_n (pc := 154) (x := v3) dX12_odds_154 rfl ?_
      refine r_goto (pc := 155) (tgt := 170) dX12_odds_155 (by decide) ?_
      refine r_istore (pc := 170) (L' := [some (.ref 81), none, none, some (.int (zI v3)), some (.int (zI v4)), some (.int (zI v5)), some (.int (zI v6)), some (.int (zI v7)), some (.int (zI v3)), none, none, none, none, none]) dX12_odds_170 (by decide) rfl ?_
      refine r_iconst (pc := 172) dX12_odds_172 ?_
      refine r_istore (pc := 173) (L' := [some (.ref 81), none, none, some (.int (zI v3)), some (.int (zI v4)), some (.int (zI v5)), some (.int (zI v6)), some (.int (zI v7)), some (.int (zI v3)), some (.int (zI 0)), none, none, none, none]) dX12_odds_173 (by decide) rfl ?_
      exact w

set_option maxRecDepth 100000 in
set_option maxHeartbeats 4000000 in
theorem bX12_odds_175 {h : zMm} {K : Int → zMm → Prop} {v3 : Int} {v4 : Int} {v5 : Int} {v6 : Int} {v7 : Int} {v8 : Int} {v9 : Int} (w : (zR v9 ∧ (zR v8 ∧ ((4 ≤ v9 → RR mX12_odds 0 0 138 [some (.ref 81), none, none, some (.int (zI v3)), some (.int (zI v4)), some (.int (zI v5)), some (.int (zI v6)), some (.int (zI (v7 + 1))), none, none, none, none, none, none] [] zS0 h (zQl zS0 K)) ∧ (¬ 4 ≤ v9 → ((¬ v8 = (-4) → ((0 ≤ v7 ∧ v7 < 2147483648) ∧ ((0 ≤ ((4 * v8) + (v7 % 4)) ∧ ((4 * v8) + (v7 % 4)) < 144) ∧ ((0 ≤ v7 ∧ v7 < 144) ∧ RR mX12_odds 0 0 175 [some (.ref 81), none, none, some (.int (zI v3)), some (.int (zI v4)), some (.int (zI v5)), some (.int (zI v6)), some (.int (zI v7)), some (.int (zI v8)), some (.int (zI (v9 + 1))), none, none, none, none] [] zS0 (zU h 103 ((4 * v8) + (v7 % 4)) ((h 103 ((4 * v8) + (v7 % 4))) + (h 102 v7))) (zQl zS0 K))))) ∧ (v8 = (-4) → ((0 ≤ v7 ∧ v7 < 2147483648) ∧ ((0 ≤ ((v7 - (v7 % 4)) + v9) ∧ ((v7 - (v7 % 4)) + v9) < 144) ∧ ((0 ≤ v7 ∧ v7 < 144) ∧ RR mX12_odds 0 0 175 [some (.ref 81), none, none, some (.int (zI v3)), some (.int (zI v4)), some (.int (zI v5)), some (.int (zI v6)), some (.int (zI v7)), some (.int (zI v8)), some (.int (zI (v9 + 1))), none, none, none, none] [] zS0 (zU h 103 ((v7 - (v7 % 4)) + v9) ((h 103 ((v7 - (v7 % 4)) + v9)) + (h 102 v7))) (zQl zS0 K))))))))))) : RR mX12_odds 0 0 175 [some (.ref 81), none, none, some (.int (zI v3)), some (.int (zI v4)), some (.int (zI v5)), some (.int (zI v6)), some (.int (zI v7)), some (.int (zI v8)), some (.int (zI v9)), none, none, none, none] [] zS0 h (zQl zS0 K) := by
  refine r_iload (pc := 175) (x := v9) dX12_odds_175 rfl ?_
  refine r_iconst (pc := 177) dX12_odds_177 ?_
  obtain ⟨hr25, w⟩ := w
  obtain ⟨hr27, w⟩ := w
  refine r_icmp_ge (pc := 178) (x := v9) (y := 4) (tgt := 231) dX12_odds_178 (by decide) hr25 (by decide) (fun c => ?_) (fun c => ?_)
  · have w := w.1 (c)
    refine r_iinc (pc := 231) (x := v7) (L' := [some (.ref 81), none, none, some (.int (zI v3)), some (.int (zI v4)), some (.int (zI v5)), some (.int (zI v6)), some (.int (zI (v7 + 1))), some (.int (zI v8)), some (.int (zI v9)), none, none, none, none]) dX12_odds_231 rfl (by decide) rfl ?_
    refine r_goto (pc := 234) (tgt := 138) dX12_odds_234 (by decide) ?_
    exact RR.sub (L' := [some (.ref 81), none, none, some (.int (zI v3)), some (.int (zI v4)), some (.int (zI v5)), some (.int (zI v6)), some (.int (zI (v7 + 1))), none, none, none, none, none, none]) (zSb_of (⟨rfl, ⟨rfl, ⟨rfl, ⟨rfl, ⟨rfl, ⟨rfl, trivial⟩⟩⟩⟩⟩⟩)) w
  · have w := w.2 (c)
    refine r_aload_n (pc := 181) (a := 81) dX12_odds_181 rfl ?_
    refine r_getR (pc := 182) (b := 103) fl_X12_74 dX12_odds_182 s0_81 rfl ?_
    refine r_iload (pc := 185) (x := v8) dX12_odds_185 rfl ?_
    refine r_bipush (pc := 187) (x := (-4)) dX12_odds_187 (by decide) ?_
    refine r_icmp_ne (pc := 189) (x := v8) (y := (-4)) (tgt := 205) dX12_odds_189 (by decide) hr27 (by decide) (fun c => ?_) (fun c => ?_)
    · have w := w.1 (c)
      refine r_iconst (pc := 205) dX12_odds_205 ?_
      refine r_iload (pc := 206) (x := v8) dX12_odds_206 rfl ?_
      refine r_imul (pc := 208) (x := 4) (y := v8) dX12_odds_208 ?_
      refine r_iload (pc := 209) (x := v7) dX12_odds_209 rfl ?_
      refine r_iconst (pc := 211) dX12_odds_211 ?_
      obtain ⟨hx29, w⟩ := w
      refine r_irem (pc := 212) (x := v7) (y := 4) dX12_odds_212 hx29 (by decide) ?_
      refine r_iadd (pc := 213) (x := (4 * v8)) (y := (v7 % 4)) dX12_odds_213 ?_
      refine r_dup2 (pc := 214) rfl rfl dX12_odds_214 ?_
      obtain ⟨hb30, w⟩ := w
      refine r_lald (pc := 215) (i := ((4 * v8) + (v7 % 4))) (x := (h 103 ((4 * v8) + (v7 % 4)))) dX12_odds_215 s0_103 ⟨hb30.1, hb30.2, (by decide)⟩ (rfl) ?_
      refine r_aload_n (pc := 216) (a := 81) dX12_odds_216 rfl ?_
      refine r_getR (pc := 217) (b := 102) fl_X12_70 dX12_odds_217 s0_81 rfl ?_
      refine r_iload (pc := 220) (x := v7) dX12_odds_220 rfl ?_
      obtain ⟨hb31, w⟩ := w
      refine r_lald (pc := 222) (i := v7) (x := (h 102 v7)) dX12_odds_222 s0_102 ⟨hb31.1, hb31.2, (by decide)⟩ (rfl) ?_
      refine r_ladd (pc := 223) (x := (h 103 ((4 * v8) + (v7 % 4)))) (y := (h 102 v7)) dX12_odds_223 ?_
      refine r_last (pc := 224) (i := ((4 * v8) + (v7 % 4))) (x := ((h 103 ((4 * v8) + (v7 % 4))) + (h 102 v7))) dX12_odds_224 s0_103 ⟨by omega, by omega, (by decide)⟩  ?_
      refine r_iinc (pc := 225) (x := v9) (L' := [some (.ref 81), none, none, some (.int (zI v3)), some (.int (zI v4)), some (.int (zI v5)), some (.int (zI v6)), some (.int (zI v7)), some (.int (zI v8)), some (.int (zI (v9 + 1))), none, none, none, none]) dX12_odds_225 rfl (by decide) rfl ?_
      refine r_goto (pc := 228) (tgt := 175) dX12_odds_228 (by decide) ?_
      exact w
    · have w := w.2 (c)
      refine r_iload (pc := 192) (x := v7) dX12_odds_192 rfl ?_
      refine r_iload (pc := 194) (x := v7) dX12_odds_194 rfl ?_
      refine r_iconst (pc := 196) dX12_odds_196 ?_
      obtain ⟨hx32, w⟩ := w
      refine r_irem (pc := 197) (x := v7) (y := 4) dX12_odds_197 hx32 (by decide) ?_
      refine r_isub (pc := 198) (x := v7) (y := (v7 % 4)) dX12_odds_198 ?_
      refine r_iload (pc := 199) (x := v9) dX12_odds_199 rfl ?_
      refine r_iadd (pc := 201) (x := (v7 - (v7 % 4))) (y := v9) dX12_odds_201 ?_
      refine r_goto (pc := 202) (tgt := 214) dX12_odds_202 (by decide) ?_
      refine r_dup2 (pc := 214) rfl rfl dX12_odds_214 ?_
      obtain ⟨hb33, w⟩ := w
      refine r_lald (pc := 215) (i := ((v7 - (v7 % 4)) + v9)) (x := (h 103 ((v7 - (v7 % 4)) + v9))) dX12_odds_215 s0_103 ⟨hb33.1, hb33.2, (by decide)⟩ (rfl) ?_
      refine r_aload_n (pc := 216) (a := 81) dX12_odds_216 rfl ?_
      refine r_getR (pc := 217) (b := 102) fl_X12_70 dX12_odds_217 s0_81 rfl ?_
      refine r_iload (pc := 220) (x := v7) dX12_odds_220 rfl ?_
      obtain ⟨hb34, w⟩ := w
      refine r_lald (pc := 222) (i := v7) (x := (h 102 v7)) dX12_odds_222 s0_102 ⟨hb34.1, hb34.2, (by decide)⟩ (rfl) ?_
      refine r_ladd (pc := 223) (x := (h 103 ((v7 - (v7 % 4)) + v9))) (y := (h 102 v7)) dX12_odds_223 ?_
      refine r_last (pc := 224) (i := ((v7 - (v7 % 4)) + v9)) (x := ((h 103 ((v7 - (v7 % 4)) + v9)) + (h 102 v7))) dX12_odds_224 s0_103 ⟨by omega, by omega, (by decide)⟩  ?_
      refine r_iinc (pc := 225) (x := v9) (L' := [some (.ref 81), none, none, some (.int (zI v3)), some (.int (zI v4)), some (.int (zI v5)), some (.int (zI v6)), some (.int (zI v7)), some (.int (zI v8)), some (.int (zI (v9 + 1))), none, none, none, none]) dX12_odds_225 rfl (by decide) rfl ?_
      refine r_goto (pc := 228) (tgt := 175) dX12_odds_228 (by decide) ?_
      exact w

set_option maxRecDepth 100000 in
set_option maxHeartbeats 4000000 in
theorem bX12_odds_240 {h : zMm} {K : Int → zMm → Prop} {v3 : Int} {v4 : Int} {v5 : Int} {v6 : Int} {v7 : Int} (w : (zR v7 ∧ ((144 ≤ v7 → RR mX12_odds 0 0 103 [some (.ref 81), none, none, some (.int (zI v3)), some (.int (zI v4)), some (.int (zI v5)), some (.int (zI (v6 + 1))), none, none, none, none, none, none, none] [] zS0 h (zQl zS0 K)) ∧ (¬ 144 ≤ v7 → ((0 ≤ v7 ∧ v7 < 144) ∧ RR mX12_odds 0 0 240 [some (.ref 81), none, none, some (.int (zI v3)), some (.int (zI v4)), some (.int (zI v5)), some (.int (zI v6)), some (.int (zI (v7 + 1))), none, none, none, none, none, none] [] zS0 (zU h 102 v7 (h 103 v7)) (zQl zS0 K)))))) : RR mX12_odds 0 0 240 [some (.ref 81), none, none, some (.int (zI v3)), some (.int (zI v4)), some (.int (zI v5)), some (.int (zI v6)), some (.int (zI v7)), none, none, none, none, none, none] [] zS0 h (zQl zS0 K) := by
  refine r_iload (pc := 240) (x := v7) dX12_odds_240 rfl ?_
  refine r_sipush (pc := 242) (x := 144) dX12_odds_242 (by decide) ?_
  obtain ⟨hr35, w⟩ := w
  refine r_icmp_ge (pc := 245) (x := v7) (y := 144) (tgt := 268) dX12_odds_245 (by decide) hr35 (by decide) (fun c => ?_) (fun c => ?_)
  · have w := w.1 (c)
    refine r_iinc (pc := 268) (x := v6) (L' := [some (.ref 81), none, none, some (.int (zI v3)), some (.int (zI v4)), some (.int (zI v5)), some (.int (zI (v6 + 1))), some (.int (zI v7)), none, none, none, none, none, none]) dX12_odds_268 rfl (by decide) rfl ?_
    refine r_goto (pc := 271) (tgt := 103) dX12_odds_271 (by decide) ?_
    exact RR.sub (L' := [some (.ref 81), none, none, some (.int (zI v3)), some (.int (zI v4)), some (.int (zI v5)), some (.int (zI (v6 + 1))), none, none, none, none, none, none, none]) (zSb_of (⟨rfl, ⟨rfl, ⟨rfl, ⟨rfl, ⟨rfl, trivial⟩⟩⟩⟩⟩)) w
  · have w := w.2 (c)
    refine r_aload_n (pc := 248) (a := 81) dX12_odds_248 rfl ?_
    refine r_getR (pc := 249) (b := 102) fl_X12_70 dX12_odds_249 s0_81 rfl ?_
    refine r_iload (pc := 252) (x := v7) dX12_odds_252 rfl ?_
    refine r_aload_n (pc := 254) (a := 81) dX12_odds_254 rfl ?_
    refine r_getR (pc := 255) (b := 103) fl_X12_74 dX12_odds_255 s0_81 rfl ?_
    refine r_iload (pc := 258) (x := v7) dX12_odds_258 rfl ?_
    obtain ⟨hb36, w⟩ := w
    refine r_lald (pc := 260) (i := v7) (x := (h 103 v7)) dX12_odds_260 s0_103 ⟨hb36.1, hb36.2, (by decide)⟩ (rfl) ?_
    refine r_last (pc := 261) (i := v7) (x := (h 103 v7)) dX12_odds_261 s0_102 ⟨by omega, by omega, (by decide)⟩  ?_
    refine r_iinc (pc := 262) (x := v7) (L' := [some (.ref 81), none, none, some (.int (zI v3)), some (.int (zI v4)), some (.int (zI v5)), some (.int (zI v6)), some (.int (zI (v7 + 1))), none, none, none, none, none, none]) dX12_odds_262 rfl (by decide) rfl ?_
    refine r_goto (pc := 265) (tgt := 240) dX12_odds_265 (by decide) ?_
    exact w

set_option maxRecDepth 100000 in
set_option maxHeartbeats 4000000 in
theorem bX12_odds_280 {h : zMm} {K : Int → zMm → Prop} {v3 : Int} {v4 : Int} {v5 : Int} {v6 : Int} {v8 : Int} (w : (zR v8 ∧ ((4 ≤ v8 → RR mX12_odds 0 0 320 [none, none, none, none, some (.int (zI v4)), some (.int (zI v5)), some (.long (zJ v6)), none, some (.long (zJ v6)), none, some (.long (zJ (lSl 1 (2 * v4)))), none, none, none] [] zS0 h (zQl zS0 K)) ∧ (¬ 4 ≤ v8 → ((0 ≤ ((4 * v3) + v8) ∧ ((4 * v3) + v8) < 144) ∧ RR mX12_odds 0 0 280 [some (.ref 81), none, none, some (.int (zI v3)), some (.int (zI v4)), some (.int (zI v5)), some (.long (zJ (v6 + (h 102 ((4 * v3) + v8))))), none, some (.int (zI (v8 + 1))), none, none, none, none, none] [] zS0 h (zQl zS0 K)))))) : RR mX12_odds 0 0 280 [some (.ref 81), none, none, some (.int (zI v3)), some (.int (zI v4)), some (.int (zI v5)), some (.long (zJ v6)), none, some (.int (zI v8)), none, none, none, none, none] [] zS0 h (zQl zS0 K) := by
  refine r_iload (pc := 280) (x := v8) dX12_odds_280 rfl ?_
  refine r_iconst (pc := 282) dX12_odds_282 ?_
  obtain ⟨hr37, w⟩ := w
  refine r_icmp_ge (pc := 283) (x := v8) (y := 4) (tgt := 308) dX12_odds_283 (by decide) hr37 (by decide) (fun c => ?_) (fun c => ?_)
  · have w := w.1 (c)
    refine r_lload (pc := 308) (x := v6) dX12_odds_308 rfl ?_
    refine r_lstore (pc := 310) (L' := [some (.ref 81), none, none, some (.int (zI v3)), some (.int (zI v4)), some (.int (zI v5)), some (.long (zJ v6)), none, some (.long (zJ v6)), none, none, none, none, none]) dX12_odds_310 (by decide) rfl ?_
    refine r_lconst (pc := 312) (x := 1) dX12_odds_312 rfl ?_
    refine r_iconst (pc := 313) dX12_odds_313 ?_
    refine r_iload (pc := 314) (x := v4) dX12_odds_314 rfl ?_
    refine r_imul (pc := 316) (x := 2) (y := v4) dX12_odds_316 ?_
    refine r_lshl (pc := 317) (x := 1) (y := (2 * v4)) dX12_odds_317 ?_
    refine r_lstore (pc := 318) (L' := [some (.ref 81), none, none, some (.int (zI v3)), some (.int (zI v4)), some (.int (zI v5)), some (.long (zJ v6)), none, some (.long (zJ v6)), none, some (.long (zJ (lSl 1 (2 * v4)))), none, none, none]) dX12_odds_318 (by decide) rfl ?_
    exact RR.sub (L' := [none, none, none, none, some (.int (zI v4)), some (.int (zI v5)), some (.long (zJ v6)), none, some (.long (zJ v6)), none, some (.long (zJ (lSl 1 (2 * v4)))), none, none, none]) (zSb_of (⟨rfl, ⟨rfl, ⟨rfl, ⟨rfl, ⟨rfl, trivial⟩⟩⟩⟩⟩)) w
  · have w := w.2 (c)
    refine r_lload (pc := 286) (x := v6) dX12_odds_286 rfl ?_
    refine r_aload_n (pc := 288) (a := 81) dX12_odds_288 rfl ?_
    refine r_getR (pc := 289) (b := 102) fl_X12_70 dX12_odds_289 s0_81 rfl ?_
    refine r_iconst (pc := 292) dX12_odds_292 ?_
    refine r_iload_n (pc := 293) (x := v3) dX12_odds_293 rfl ?_
    refine r_imul (pc := 294) (x := 4) (y := v3) dX12_odds_294 ?_
    refine r_iload (pc := 295) (x := v8) dX12_odds_295 rfl ?_
    refine r_iadd (pc := 297) (x := (4 * v3)) (y := v8) dX12_odds_297 ?_
    obtain ⟨hb38, w⟩ := w
    refine r_lald (pc := 298) (i := ((4 * v3) + v8)) (x := (h 102 ((4 * v3) + v8))) dX12_odds_298 s0_102 ⟨hb38.1, hb38.2, (by decide)⟩ (rfl) ?_
    refine r_ladd (pc := 299) (x := v6) (y := (h 102 ((4 * v3) + v8))) dX12_odds_299 ?_
    refine r_lstore (pc := 300) (L' := [some (.ref 81), none, none, some (.int (zI v3)), some (.int (zI v4)), some (.int (zI v5)), some (.long (zJ (v6 + (h 102 ((4 * v3) + v8))))), none, some (.int (zI v8)), none, none, none, none, none]) dX12_odds_300 (by decide) rfl ?_
    refine r_iinc (pc := 302) (x := v8) (L' := [some (.ref 81), none, none, some (.int (zI v3)), some (.int (zI v4)), some (.int (zI v5)), some (.long (zJ (v6 + (h 102 ((4 * v3) + v8))))), none, some (.int (zI (v8 + 1))), none, none, none, none, none]) dX12_odds_302 rfl (by decide) rfl ?_
    refine r_goto (pc := 305) (tgt := 280) dX12_odds_305 (by decide) ?_
    exact w

set_option maxRecDepth 100000 in
set_option maxHeartbeats 4000000 in
theorem bX12_odds_320 {h : zMm} {K : Int → zMm → Prop} {v4 : Int} {v5 : Int} {v6 : Int} {v8 : Int} {v10 : Int} (w : (zRl v10 ∧ ((v10 = 0 → (zR v5 ∧ ((0 ≤ (if v5 = 0 then v6 else (lSl 1 (2 * v4))) ∧ (if v5 = 0 then v6 else (lSl 1 (2 * v4))) < 9223372036854775808) ∧ ((0 < v8 ∧ v8 < 9223372036854775808) ∧ K ((if v5 = 0 then v6 else (lSl 1 (2 * v4))) / v8) h)))) ∧ (¬ v10 = 0 → ((0 ≤ v8 ∧ v8 < 9223372036854775808) ∧ ((0 < v10 ∧ v10 < 9223372036854775808) ∧ RR mX12_odds 0 0 320 [none, none, none, none, some (.int (zI v4)), some (.int (zI v5)), some (.long (zJ v6)), none, some (.long (zJ v10)), none, some (.long (zJ (v8 % v10))), none, none, none] [] zS0 h (zQl zS0 K))))))) : RR mX12_odds 0 0 320 [none, none, none, none, some (.int (zI v4)), some (.int (zI v5)), some (.long (zJ v6)), none, some (.long (zJ v8)), none, some (.long (zJ v10)), none, none, none] [] zS0 h (zQl zS0 K) := by
  refine r_lload (pc := 320) (x := v10) dX12_odds_320 rfl ?_
  refine r_lconst (pc := 322) (x := 0) dX12_odds_322 rfl ?_
  obtain ⟨hl39, w⟩ := w
  refine r_lcmp (pc := 323) (x := v10) (y := 0) dX12_odds_323 hl39 (by decide) ?_
  refine r_if_eq (pc := 324) (x := (zCmp v10 0)) (tgt := 345) dX12_odds_324 (by decide) (zCmp_R _ _) (fun c => ?_) (fun c => ?_)
  · have w := w.1 (zCmp_eq.mp c)
    refine r_iload (pc := 345) (x := v5) dX12_odds_345 rfl ?_
    obtain ⟨hr40, w⟩ := w
    have kk43 : RR mX12_odds 0 0 361 [none, none, none, none, some (.int (zI v4)), some (.int (zI v5)), some (.long (zJ v6)), none, some (.long (zJ v8)), none, some (.long (zJ v10)), none, none, none] [.long (zJ (if v5 = 0 then v6 else (lSl 1 (2 * v4))))] zS0 h (zQl zS0 K) := by
      refine r_lload (pc := 361) (x := v8) dX12_odds_361 rfl ?_
      obtain ⟨hx41, w⟩ := w
      obtain ⟨hy42, w⟩ := w
      refine r_ldiv (pc := 363) (x := (if v5 = 0 then v6 else (lSl 1 (2 * v4)))) (y := v8) dX12_odds_363 hx41 hy42 ?_
      exact r_lret (st := []) (pc := 364) (x := ((if v5 = 0 then v6 else (lSl 1 (2 * v4))) / v8)) dX12_odds_364 rfl rfl (by decide) ⟨rfl, _, rfl, w⟩
    refine r_if_ne (pc := 347) (x := v5) (tgt := 355) dX12_odds_347 (by decide) hr40 (fun c => ?_) (fun c => ?_)
    · refine r_lconst (pc := 355) (x := 1) dX12_odds_355 rfl ?_
      refine r_iconst (pc := 356) dX12_odds_356 ?_
      refine r_iload (pc := 357) (x := v4) dX12_odds_357 rfl ?_
      refine r_imul (pc := 359) (x := 2) (y := v4) dX12_odds_359 ?_
      refine r_lshl (pc := 360) (x := 1) (y := (2 * v4)) dX12_odds_360 ?_
      simp only [if_neg (c)] at kk43 ⊢
      exact kk43
    · refine r_lload (pc := 350) (x := v6) dX12_odds_350 rfl ?_
      refine r_goto (pc := 352) (tgt := 361) dX12_odds_352 (by decide) ?_
      simp only [if_pos (c)] at kk43 ⊢
      exact kk43
  · have w := w.2 (fun z => c (zCmp_eq.mpr z))
    refine r_lload (pc := 327) (x := v8) dX12_odds_327 rfl ?_
    refine r_lload (pc := 329) (x := v10) dX12_odds_329 rfl ?_
    obtain ⟨hx44, w⟩ := w
    obtain ⟨hy45, w⟩ := w
    refine r_lrem (pc := 331) (x := v8) (y := v10) dX12_odds_331 hx44 hy45 ?_
    refine r_lstore (pc := 332) (L' := [none, none, none, none, some (.int (zI v4)), some (.int (zI v5)), some (.long (zJ v6)), none, some (.long (zJ v8)), none, some (.long (zJ v10)), none, some (.long (zJ (v8 % v10))), none]) dX12_odds_332 (by decide) rfl ?_
    refine r_lload (pc := 334) (x := v10) dX12_odds_334 rfl ?_
    refine r_lstore (pc := 336) (L' := [none, none, none, none, some (.int (zI v4)), some (.int (zI v5)), some (.long (zJ v6)), none, some (.long (zJ v10)), none, some (.long (zJ v10)), none, some (.long (zJ (v8 % v10))), none]) dX12_odds_336 (by decide) rfl ?_
    refine r_lload (pc := 338) (x := (v8 % v10)) dX12_odds_338 rfl ?_
    refine r_lstore (pc := 340) (L' := [none, none, none, none, some (.int (zI v4)), some (.int (zI v5)), some (.long (zJ v6)), none, some (.long (zJ v10)), none, some (.long (zJ (v8 % v10))), none, some (.long (zJ (v8 % v10))), none]) dX12_odds_340 (by decide) rfl ?_
    refine r_goto (pc := 342) (tgt := 320) dX12_odds_342 (by decide) ?_
    exact RR.sub (L' := [none, none, none, none, some (.int (zI v4)), some (.int (zI v5)), some (.long (zJ v6)), none, some (.long (zJ v10)), none, some (.long (zJ (v8 % v10))), none, none, none]) (zSb_of (⟨rfl, ⟨rfl, ⟨rfl, ⟨rfl, ⟨rfl, trivial⟩⟩⟩⟩⟩)) w

set_option maxRecDepth 100000 in
set_option maxHeartbeats 4000000 in
theorem wX12_grownTo {h : zMm} {K : Int → zMm → Prop} {v1 : Int} (w : ((0 ≤ (36 + v1) ∧ (36 + v1) < 600) ∧ ((0 ≤ (108 + v1) ∧ (108 + v1) < 600) ∧ (zR ((h 92 (36 + v1)) + (h 92 (108 + v1))) ∧ K (if ((h 92 (36 + v1)) + (h 92 (108 + v1))) ≤ 60 then ((h 92 (36 + v1)) + (h 92 (108 + v1))) else (60 : Int)) h)))) : zCi mX12_grownTo [.ref 81, .int (zI v1)] zS0 h K := by
  show RR mX12_grownTo 0 0 0 [some (.ref 81), some (.int (zI v1)), none] [] zS0 h (zQi zS0 K)
  refine r_aload_n (pc := 0) (a := 81) dX12_grownTo_0 rfl ?_
  refine r_getR (pc := 1) (b := 92) fl_X12_40 dX12_grownTo_1 s0_81 rfl ?_
  refine r_bipush (pc := 4) (x := 36) dX12_grownTo_4 (by decide) ?_
  refine r_iload_n (pc := 6) (x := v1) dX12_grownTo_6 rfl ?_
  refine r_iadd (pc := 7) (x := 36) (y := v1) dX12_grownTo_7 ?_
  obtain ⟨hb1, w⟩ := w
  refine r_iald (pc := 8) (i := (36 + v1)) (x := (h 92 (36 + v1))) dX12_grownTo_8 s0_92 ⟨hb1.1, hb1.2, (by decide)⟩ (rfl) ?_
  refine r_aload_n (pc := 9) (a := 81) dX12_grownTo_9 rfl ?_
  refine r_getR (pc := 10) (b := 92) fl_X12_40 dX12_grownTo_10 s0_81 rfl ?_
  refine r_bipush (pc := 13) (x := 108) dX12_grownTo_13 (by decide) ?_
  refine r_iload_n (pc := 15) (x := v1) dX12_grownTo_15 rfl ?_
  refine r_iadd (pc := 16) (x := 108) (y := v1) dX12_grownTo_16 ?_
  obtain ⟨hb2, w⟩ := w
  refine r_iald (pc := 17) (i := (108 + v1)) (x := (h 92 (108 + v1))) dX12_grownTo_17 s0_92 ⟨hb2.1, hb2.2, (by decide)⟩ (rfl) ?_
  refine r_iadd (pc := 18) (x := (h 92 (36 + v1))) (y := (h 92 (108 + v1))) dX12_grownTo_18 ?_
  refine r_istore_n (pc := 19) (L' := [some (.ref 81), some (.int (zI v1)), some (.int (zI ((h 92 (36 + v1)) + (h 92 (108 + v1)))))]) dX12_grownTo_19 (by decide) rfl ?_
  refine r_iload_n (pc := 20) (x := ((h 92 (36 + v1)) + (h 92 (108 + v1)))) dX12_grownTo_20 rfl ?_
  refine r_bipush (pc := 21) (x := 60) dX12_grownTo_21 (by decide) ?_
  obtain ⟨hr3, w⟩ := w
  have kk4 : RR mX12_grownTo 0 0 32 [some (.ref 81), some (.int (zI v1)), some (.int (zI ((h 92 (36 + v1)) + (h 92 (108 + v1)))))] [.int (zI (if ((h 92 (36 + v1)) + (h 92 (108 + v1))) ≤ 60 then ((h 92 (36 + v1)) + (h 92 (108 + v1))) else (60 : Int)))] zS0 h (zQi zS0 K) := by
    exact r_iret (st := []) (pc := 32) (x := (if ((h 92 (36 + v1)) + (h 92 (108 + v1))) ≤ 60 then ((h 92 (36 + v1)) + (h 92 (108 + v1))) else (60 : Int))) (ty := .int) dX12_grownTo_32 rfl rfl rfl (by decide) ⟨rfl, _, rfl, w⟩
  refine r_icmp_le (pc := 23) (x := ((h 92 (36 + v1)) + (h 92 (108 + v1)))) (y := 60) (tgt := 31) dX12_grownTo_23 (by decide) hr3 (by decide) (fun c => ?_) (fun c => ?_)
  · refine r_iload_n (pc := 31) (x := ((h 92 (36 + v1)) + (h 92 (108 + v1)))) dX12_grownTo_31 rfl ?_
    simp only [if_pos (c)] at kk4 ⊢
    exact kk4
  · refine r_bipush (pc := 26) (x := 60) dX12_grownTo_26 (by decide) ?_
    refine r_goto (pc := 28) (tgt := 32) dX12_grownTo_28 (by decide) ?_
    simp only [if_neg (c)] at kk4 ⊢
    exact kk4

set_option maxRecDepth 100000 in
set_option maxHeartbeats 4000000 in
theorem wX12_week {h : zMm} {K : Int → zMm → Prop} {v1 : Int} (w : zCv mX12_awake [.ref 81] zS0 h (fun h1 => (zR v1 ∧ zCb mX12_in [.long (zJ v1), .long (zJ 1), .long (zJ 99)] zS0 h1 (fun b3 h3 => ((b3 = true → RR mX12_week 0 0 22 [some (.ref 81), some (.int (zI v1)), some (.int (zI 0)), some (.int (zI 0)), none] [] zS0 h3 (zQi zS0 K)) ∧ (b3 = false → K (-1) h3)))))) : zCi mX12_week [.ref 81, .int (zI v1)] zS0 h K := by
  show RR mX12_week 0 0 0 [some (.ref 81), some (.int (zI v1)), none, none, none] [] zS0 h (zQi zS0 K)
  refine r_aload_n (pc := 0) (a := 81) dX12_week_0 rfl ?_
  refine r_callV (μ2 := mX12_awake) (pc := 1) (as := []) (st := []) rfl s0_81 ml_X12_175 im_X12_awake se_X12_awake okX12_awake ⟨by decide, by decide⟩ dX12_week_1 (Nat.le_of_ble_eq_true rfl) rfl (Nat.le_of_ble_eq_true rfl) (by decide) (by decide) (zCC.mono w ?_)
  rintro r S' h1 ⟨rfl, hr, w⟩
  subst hr
  show RR mX12_week 0 0 4 [some (.ref 81), some (.int (zI v1)), none, none, none] [] zS0 h1 (zQi zS0 K)
  refine r_iload_n (pc := 4) (x := v1) dX12_week_4 rfl ?_
  obtain ⟨hr2, w⟩ := w
  refine r_i2l (pc := 5) (x := v1) dX12_week_5 hr2 ?_
  refine r_lconst (pc := 6) (x := 1) dX12_week_6 rfl ?_
  refine r_ldcL (pc := 7) (x := 99) dX12_week_7 kl_X12_315 ?_
  refine r_callS (μ2 := mX12_in) (pc := 10) (as := [.long (zJ v1), .long (zJ 1), .long (zJ 99)]) (st := []) ml_X12_94 sm_X12_in okX12_in ⟨by decide, by decide⟩ dX12_week_10 (Nat.le_of_ble_eq_true rfl) rfl (Nat.le_of_ble_eq_true rfl) (by decide) (by decide) (zCC.mono w ?_)
  rintro r S' h3 ⟨rfl, b3, hr, w⟩
  subst hr
  show RR mX12_week 0 0 13 [some (.ref 81), some (.int (zI v1)), none, none, none] [.int (zI (bI b3))] zS0 h3 (zQi zS0 K)
  refine r_if_ne (pc := 13) (x := (bI b3)) (tgt := 18) dX12_week_13 (by decide) (bI_R _) (fun c => ?_) (fun c => ?_)
  · have w := w.1 (bI_n.mp c)
    refine r_iconst (pc := 18) dX12_week_18 ?_
    refine r_istore_n (pc := 19) (L' := [some (.ref 81), some (.int (zI v1)), some (.int (zI 0)), none, none]) dX12_week_19 (by decide) rfl ?_
    refine r_iconst (pc := 20) dX12_week_20 ?_
    refine r_istore_n (pc := 21) (L' := [some (.ref 81), some (.int (zI v1)), some (.int (zI 0)), some (.int (zI 0)), none]) dX12_week_21 (by decide) rfl ?_
    exact w
  · have w := w.2 (bI_0.mp c)
    refine r_iconst (pc := 16) dX12_week_16 ?_
    exact r_iret (st := []) (pc := 17) (x := (-1)) (ty := .int) dX12_week_17 rfl rfl rfl (by decide) ⟨rfl, _, rfl, w⟩

set_option maxRecDepth 100000 in
set_option maxHeartbeats 4000000 in
theorem bX12_week_22 {h : zMm} {K : Int → zMm → Prop} {v1 : Int} {v2 : Int} {v3 : Int} (w : (zR v3 ∧ (zR v1 ∧ ((v1 ≤ v3 → K v2 h) ∧ (¬ v1 ≤ v3 → RR mX12_week 0 0 32 [some (.ref 81), some (.int (zI v1)), some (.int (zI 0)), some (.int (zI v3)), some (.int (zI 0))] [] zS0 h (zQi zS0 K)))))) : RR mX12_week 0 0 22 [some (.ref 81), some (.int (zI v1)), some (.int (zI v2)), some (.int (zI v3)), none] [] zS0 h (zQi zS0 K) := by
  refine r_iload_n (pc := 22) (x := v3) dX12_week_22 rfl ?_
  refine r_iload_n (pc := 23) (x := v1) dX12_week_23 rfl ?_
  obtain ⟨hr4, w⟩ := w
  obtain ⟨hr5, w⟩ := w
  refine r_icmp_ge (pc := 24) (x := v3) (y := v1) (tgt := 109) dX12_week_24 (by decide) hr4 hr5 (fun c => ?_) (fun c => ?_)
  · have w := w.1 (c)
    refine r_iload_n (pc := 109) (x := v2) dX12_week_109 rfl ?_
    exact r_iret (st := []) (pc := 110) (x := v2) (ty := .int) dX12_week_110 rfl rfl rfl (by decide) ⟨rfl, _, rfl, w⟩
  · have w := w.2 (c)
    refine r_iconst (pc := 27) dX12_week_27 ?_
    refine r_istore_n (pc := 28) (L' := [some (.ref 81), some (.int (zI v1)), some (.int (zI 0)), some (.int (zI v3)), none]) dX12_week_28 (by decide) rfl ?_
    refine r_iconst (pc := 29) dX12_week_29 ?_
    refine r_istore (pc := 30) (L' := [some (.ref 81), some (.int (zI v1)), some (.int (zI 0)), some (.int (zI v3)), some (.int (zI 0))]) dX12_week_30 (by decide) rfl ?_
    exact w

set_option maxRecDepth 100000 in
set_option maxHeartbeats 4000000 in
theorem bX12_week_32 {h : zMm} {K : Int → zMm → Prop} {v1 : Int} {v2 : Int} {v3 : Int} {v4 : Int} (w : (zR v4 ∧ ((36 ≤ v4 → RR mX12_week 0 0 22 [some (.ref 81), some (.int (zI v1)), some (.int (zI v2)), some (.int (zI (v3 + 1))), none] [] zS0 h (zQi zS0 K)) ∧ (¬ 36 ≤ v4 → zCb mX12_isGrass [.ref 81, .int (zI v4)] zS0 h (fun b7 h7 => ((b7 = false → ((0 ≤ (36 + v4) ∧ (36 + v4) < 600) ∧ (zR v2 ∧ ((0 ≤ v2 → RR mX12_week 0 0 32 [some (.ref 81), some (.int (zI v1)), some (.int (zI v2)), some (.int (zI v3)), some (.int (zI (v4 + 1)))] [] zS0 (zU h7 92 (36 + v4) 0) (zQi zS0 K)) ∧ (¬ 0 ≤ v2 → RR mX12_week 0 0 32 [some (.ref 81), some (.int (zI v1)), some (.int (zI 0)), some (.int (zI v3)), some (.int (zI (v4 + 1)))] [] zS0 (zU h7 92 (36 + v4) 0) (zQi zS0 K)))))) ∧ (b7 = true → zCi mX12_grownTo [.ref 81, .int (zI v4)] zS0 h7 (fun x10 h10 => ((0 ≤ (36 + v4) ∧ (36 + v4) < 600) ∧ (zR x10 ∧ (zR v2 ∧ ((x10 ≤ v2 → RR mX12_week 0 0 32 [some (.ref 81), some (.int (zI v1)), some (.int (zI v2)), some (.int (zI v3)), some (.int (zI (v4 + 1)))] [] zS0 (zU h10 92 (36 + v4) x10) (zQi zS0 K)) ∧ (¬ x10 ≤ v2 → RR mX12_week 0 0 32 [some (.ref 81), some (.int (zI v1)), some (.int (zI x10)), some (.int (zI v3)), some (.int (zI (v4 + 1)))] [] zS0 (zU h10 92 (36 + v4) x10) (zQi zS0 K)))))))))))))) : RR mX12_week 0 0 32 [some (.ref 81), some (.int (zI v1)), some (.int (zI v2)), some (.int (zI v3)), some (.int (zI v4))] [] zS0 h (zQi zS0 K) := by
  refine r_iload (pc := 32) (x := v4) dX12_week_32 rfl ?_
  refine r_bipush (pc := 34) (x := 36) dX12_week_34 (by decide) ?_
  obtain ⟨hr6, w⟩ := w
  refine r_icmp_ge (pc := 36) (x := v4) (y := 36) (tgt := 103) dX12_week_36 (by decide) hr6 (by decide) (fun c => ?_) (fun c => ?_)
  · have w := w.1 (c)
    refine r_iinc (pc := 103) (x := v3) (L' := [some (.ref 81), some (.int (zI v1)), some (.int (zI v2)), some (.int (zI (v3 + 1))), some (.int (zI v4))]) dX12_week_103 rfl (by decide) rfl ?_
    refine r_goto (pc := 106) (tgt := 22) dX12_week_106 (by decide) ?_
    exact RR.sub (L' := [some (.ref 81), some (.int (zI v1)), some (.int (zI v2)), some (.int (zI (v3 + 1))), none]) (zSb_of (⟨rfl, ⟨rfl, ⟨rfl, ⟨rfl, trivial⟩⟩⟩⟩)) w
  · have w := w.2 (c)
    refine r_aload_n (pc := 39) (a := 81) dX12_week_39 rfl ?_
    refine r_getR (pc := 40) (b := 92) fl_X12_40 dX12_week_40 s0_81 rfl ?_
    refine r_bipush (pc := 43) (x := 36) dX12_week_43 (by decide) ?_
    refine r_iload (pc := 45) (x := v4) dX12_week_45 rfl ?_
    refine r_iadd (pc := 47) (x := 36) (y := v4) dX12_week_47 ?_
    refine r_aload_n (pc := 48) (a := 81) dX12_week_48 rfl ?_
    refine r_iload (pc := 49) (x := v4) dX12_week_49 rfl ?_
    refine r_callV (μ2 := mX12_isGrass) (pc := 51) (as := [.int (zI v4)]) (st := [.int (zI (36 + v4)), .ref 92]) rfl s0_81 ml_X12_196 im_X12_isGrass se_X12_isGrass okX12_isGrass ⟨by decide, by decide⟩ dX12_week_51 (Nat.le_of_ble_eq_true rfl) rfl (Nat.le_of_ble_eq_true rfl) (by decide) (by decide) (zCC.mono w ?_)
    rintro r S' h7 ⟨rfl, b7, hr, w⟩
    subst hr
    show RR mX12_week 0 0 54 [some (.ref 81), some (.int (zI v1)), some (.int (zI v2)), some (.int (zI v3)), some (.int (zI v4))] [.int (zI (bI b7)), .int (zI (36 + v4)), .ref 92] zS0 h7 (zQi zS0 K)
    refine r_if_eq (pc := 54) (x := (bI b7)) (tgt := 66) dX12_week_54 (by decide) (bI_R _) (fun c => ?_) (fun c => ?_)
    · have w := w.1 (bI_0.mp c)
      refine r_iconst (pc := 66) dX12_week_66 ?_
      obtain ⟨hb8, w⟩ := w
      refine r_iast (pc := 67) (i := (36 + v4)) (x := 0) dX12_week_67 s0_92 ⟨hb8.1, hb8.2, (by decide)⟩  ?_
      refine r_aload_n (pc := 68) (a := 81) dX12_week_68 rfl ?_
      refine r_getR (pc := 69) (b := 92) fl_X12_40 dX12_week_69 s0_81 rfl ?_
      refine r_bipush (pc := 72) (x := 36) dX12_week_72 (by decide) ?_
      refine r_iload (pc := 74) (x := v4) dX12_week_74 rfl ?_
      refine r_iadd (pc := 76) (x := 36) (y := v4) dX12_week_76 ?_
      refine r_iald (pc := 77) (i := (36 + v4)) (x := 0) dX12_week_77 s0_92 ⟨by omega, by omega, (by decide)⟩ (zU_eq _ _ _ _) ?_
      refine r_iload_n (pc := 78) (x := v2) dX12_week_78 rfl ?_
      obtain ⟨hr9, w⟩ := w
      refine r_icmp_le (pc := 79) (x := 0) (y := v2) (tgt := 95) dX12_week_79 (by decide) (by decide) hr9 (fun c => ?_) (fun c => ?_)
      · have w := w.1 (c)
        refine r_iload_n (pc := 95) (x := v2) dX12_week_95 rfl ?_
        refine r_istore_n (pc := 96) (L' := [some (.ref 81), some (.int (zI v1)), some (.int (zI v2)), some (.int (zI v3)), some (.int (zI v4))]) dX12_week_96 (by decide) rfl ?_
        refine r_iinc (pc := 97) (x := v4) (L' := [some (.ref 81), some (.int (zI v1)), some (.int (zI v2)), some (.int (zI v3)), some (.int (zI (v4 + 1)))]) dX12_week_97 rfl (by decide) rfl ?_
        refine r_goto (pc := 100) (tgt := 32) dX12_week_100 (by decide) ?_
        exact w
      · have w := w.2 (c)
        refine r_aload_n (pc := 82) (a := 81) dX12_week_82 rfl ?_
        refine r_getR (pc := 83) (b := 92) fl_X12_40 dX12_week_83 s0_81 rfl ?_
        refine r_bipush (pc := 86) (x := 36) dX12_week_86 (by decide) ?_
        refine r_iload (pc := 88) (x := v4) dX12_week_88 rfl ?_
        refine r_iadd (pc := 90) (x := 36) (y := v4) dX12_week_90 ?_
        refine r_iald (pc := 91) (i := (36 + v4)) (x := 0) dX12_week_91 s0_92 ⟨by omega, by omega, (by decide)⟩ (zU_eq _ _ _ _) ?_
        refine r_goto (pc := 92) (tgt := 96) dX12_week_92 (by decide) ?_
        refine r_istore_n (pc := 96) (L' := [some (.ref 81), some (.int (zI v1)), some (.int (zI 0)), some (.int (zI v3)), some (.int (zI v4))]) dX12_week_96 (by decide) rfl ?_
        refine r_iinc (pc := 97) (x := v4) (L' := [some (.ref 81), some (.int (zI v1)), some (.int (zI 0)), some (.int (zI v3)), some (.int (zI (v4 + 1)))]) dX12_week_97 rfl (by decide) rfl ?_
        refine r_goto (pc := 100) (tgt := 32) dX12_week_100 (by decide) ?_
        exact w
    · have w := w.2 (bI_n.mp c)
      refine r_aload_n (pc := 57) (a := 81) dX12_week_57 rfl ?_
      refine r_iload (pc := 58) (x := v4) dX12_week_58 rfl ?_
      refine r_callV (μ2 := mX12_grownTo) (pc := 60) (as := [.int (zI v4)]) (st := [.int (zI (36 + v4)), .ref 92]) rfl s0_81 ml_X12_323 im_X12_grownTo se_X12_grownTo okX12_grownTo ⟨by decide, by decide⟩ dX12_week_60 (Nat.le_of_ble_eq_true rfl) rfl (Nat.le_of_ble_eq_true rfl) (by decide) (by decide) (zCC.mono w ?_)
      rintro r S' h10 ⟨rfl, x10, hr, w⟩
      subst hr
      show RR mX12_week 0 0 63 [some (.ref 81), some (.int (zI v1)), some (.int (zI v2)), some (.int (zI v3)), some (.int (zI v4))] [.int (zI x10), .int (zI (36 + v4)), .ref 92] zS0 h10 (zQi zS0 K)
      refine r_goto (pc := 63) (tgt := 67) dX12_week_63 (by decide) ?_
      obtain ⟨hb11, w⟩ := w
      refine r_iast (pc := 67) (i := (36 + v4)) (x := x10) dX12_week_67 s0_92 ⟨hb11.1, hb11.2, (by decide)⟩  ?_
      refine r_aload_n (pc := 68) (a := 81) dX12_week_68 rfl ?_
      refine r_getR (pc := 69) (b := 92) fl_X12_40 dX12_week_69 s0_81 rfl ?_
      refine r_bipush (pc := 72) (x := 36) dX12_week_72 (by decide) ?_
      refine r_iload (pc := 74) (x := v4) dX12_week_74 rfl ?_
      refine r_iadd (pc := 76) (x := 36) (y := v4) dX12_week_76 ?_
      refine r_iald (pc := 77) (i := (36 + v4)) (x := x10) dX12_week_77 s0_92 ⟨by omega, by omega, (by decide)⟩ (zU_eq _ _ _ _) ?_
      refine r_iload_n (pc := 78) (x := v2) dX12_week_78 rfl ?_
      obtain ⟨hr12, w⟩ := w
      obtain ⟨hr13, w⟩ := w
      refine r_icmp_le (pc := 79) (x := x10) (y := v2) (tgt := 95) dX12_week_79 (by decide) hr12 hr13 (fun c => ?_) (fun c => ?_)
      · have w := w.1 (c)
        refine r_iload_n (pc := 95) (x := v2) dX12_week_95 rfl ?_
        refine r_istore_n (pc := 96) (L' := [some (.ref 81), some (.int (zI v1)), some (.int (zI v2)), some (.int (zI v3)), some (.int (zI v4))]) dX12_week_96 (by decide) rfl ?_
        refine r_iinc (pc := 97) (x := v4) (L' := [some (.ref 81), some (.int (zI v1)), some (.int (zI v2)), some (.int (zI v3)), some (.int (zI (v4 + 1)))]) dX12_week_97 rfl (by decide) rfl ?_
        refine r_goto (pc := 100) (tgt := 32) dX12_week_100 (by decide) ?_
        exact w
      · have w := w.2 (c)
        refine r_aload_n (pc := 82) (a := 81) dX12_week_82 rfl ?_
        refine r_getR (pc := 83) (b := 92) fl_X12_40 dX12_week_83 s0_81 rfl ?_
        refine r_bipush (pc := 86) (x := 36) dX12_week_86 (by decide) ?_
        refine r_iload (pc := 88) (x := v4) dX12_week_88 rfl ?_
        refine r_iadd (pc := 90) (x := 36) (y := v4) dX12_week_90 ?_
        refine r_iald (pc := 91) (i := (36 + v4)) (x := x10) dX12_week_91 s0_92 ⟨by omega, by omega, (by decide)⟩ (zU_eq _ _ _ _) ?_
        refine r_goto (pc := 92) (tgt := 96) dX12_week_92 (by decide) ?_
        refine r_istore_n (pc := 96) (L' := [some (.ref 81), some (.int (zI v1)), some (.int (zI x10)), some (.int (zI v3)), some (.int (zI v4))]) dX12_week_96 (by decide) rfl ?_
        refine r_iinc (pc := 97) (x := v4) (L' := [some (.ref 81), some (.int (zI v1)), some (.int (zI x10)), some (.int (zI v3)), some (.int (zI (v4 + 1)))]) dX12_week_97 rfl (by decide) rfl ?_
        refine r_goto (pc := 100) (tgt := 32) dX12_week_100 (by decide) ?_
        exact w

set_option maxRecDepth 100000 in
set_option maxHeartbeats 4000000 in
theorem wX12_high {h : zMm} {K : Int → zMm → Prop} {v1 : Int} {v2 : Int} (w : zCv mX12_awake [.ref 81] zS0 h (fun h1 => (zR v1 ∧ zCb mX12_in [.long (zJ v1), .long (zJ 0), .long (zJ 60)] zS0 h1 (fun b3 h3 => ((b3 = false → K (-1) h3) ∧ (b3 = true → (zR v2 ∧ zCb mX12_in [.long (zJ v2), .long (zJ 0), .long (zJ 1)] zS0 h3 (fun b5 h5 => ((b5 = true → RR mX12_high 0 0 35 [some (.ref 81), some (.int (zI v1)), some (.int (zI v2)), some (.long (zJ 0)), none, some (.int (zI 0)), none, none] [] zS0 h5 (zQl zS0 K)) ∧ (b5 = false → K (-1) h5)))))))))) : zCl mX12_high [.ref 81, .int (zI v1), .int (zI v2)] zS0 h K := by
  show RR mX12_high 0 0 0 [some (.ref 81), some (.int (zI v1)), some (.int (zI v2)), none, none, none, none, none] [] zS0 h (zQl zS0 K)
  refine r_aload_n (pc := 0) (a := 81) dX12_high_0 rfl ?_
  refine r_callV (μ2 := mX12_awake) (pc := 1) (as := []) (st := []) rfl s0_81 ml_X12_175 im_X12_awake se_X12_awake okX12_awake ⟨by decide, by decide⟩ dX12_high_1 (Nat.le_of_ble_eq_true rfl) rfl (Nat.le_of_ble_eq_true rfl) (by decide) (by decide) (zCC.mono w ?_)
  rintro r S' h1 ⟨rfl, hr, w⟩
  subst hr
  show RR mX12_high 0 0 4 [some (.ref 81), some (.int (zI v1)), some (.int (zI v2)), none, none, none, none, none] [] zS0 h1 (zQl zS0 K)
  refine r_iload_n (pc := 4) (x := v1) dX12_high_4 rfl ?_
  obtain ⟨hr2, w⟩ := w
  refine r_i2l (pc := 5) (x := v1) dX12_high_5 hr2 ?_
  refine r_lconst (pc := 6) (x := 0) dX12_high_6 rfl ?_
  refine r_ldcL (pc := 7) (x := 60) dX12_high_7 kl_X12_326 ?_
  refine r_callS (μ2 := mX12_in) (pc := 10) (as := [.long (zJ v1), .long (zJ 0), .long (zJ 60)]) (st := []) ml_X12_94 sm_X12_in okX12_in ⟨by decide, by decide⟩ dX12_high_10 (Nat.le_of_ble_eq_true rfl) rfl (Nat.le_of_ble_eq_true rfl) (by decide) (by decide) (zCC.mono w ?_)
  rintro r S' h3 ⟨rfl, b3, hr, w⟩
  subst hr
  show RR mX12_high 0 0 13 [some (.ref 81), some (.int (zI v1)), some (.int (zI v2)), none, none, none, none, none] [.int (zI (bI b3))] zS0 h3 (zQl zS0 K)
  refine r_if_eq (pc := 13) (x := (bI b3)) (tgt := 26) dX12_high_13 (by decide) (bI_R _) (fun c => ?_) (fun c => ?_)
  · have w := w.1 (bI_0.mp c)
    refine r_ldcL (pc := 26) (x := (-1)) dX12_high_26 kl_X12_237 ?_
    exact r_lret (st := []) (pc := 29) (x := (-1)) dX12_high_29 rfl rfl (by decide) ⟨rfl, _, rfl, w⟩
  · have w := w.2 (bI_n.mp c)
    refine r_iload_n (pc := 16) (x := v2) dX12_high_16 rfl ?_
    obtain ⟨hr4, w⟩ := w
    refine r_i2l (pc := 17) (x := v2) dX12_high_17 hr4 ?_
    refine r_lconst (pc := 18) (x := 0) dX12_high_18 rfl ?_
    refine r_lconst (pc := 19) (x := 1) dX12_high_19 rfl ?_
    refine r_callS (μ2 := mX12_in) (pc := 20) (as := [.long (zJ v2), .long (zJ 0), .long (zJ 1)]) (st := []) ml_X12_94 sm_X12_in okX12_in ⟨by decide, by decide⟩ dX12_high_20 (Nat.le_of_ble_eq_true rfl) rfl (Nat.le_of_ble_eq_true rfl) (by decide) (by decide) (zCC.mono w ?_)
    rintro r S' h5 ⟨rfl, b5, hr, w⟩
    subst hr
    show RR mX12_high 0 0 23 [some (.ref 81), some (.int (zI v1)), some (.int (zI v2)), none, none, none, none, none] [.int (zI (bI b5))] zS0 h5 (zQl zS0 K)
    refine r_if_ne (pc := 23) (x := (bI b5)) (tgt := 30) dX12_high_23 (by decide) (bI_R _) (fun c => ?_) (fun c => ?_)
    · have w := w.1 (bI_n.mp c)
      refine r_lconst (pc := 30) (x := 0) dX12_high_30 rfl ?_
      refine r_lstore_n (pc := 31) (L' := [some (.ref 81), some (.int (zI v1)), some (.int (zI v2)), some (.long (zJ 0)), none, none, none, none]) dX12_high_31 (by decide) rfl ?_
      refine r_iconst (pc := 32) dX12_high_32 ?_
      refine r_istore (pc := 33) (L' := [some (.ref 81), some (.int (zI v1)), some (.int (zI v2)), some (.long (zJ 0)), none, some (.int (zI 0)), none, none]) dX12_high_33 (by decide) rfl ?_
      exact w
    · have w := w.2 (bI_0.mp c)
      refine r_ldcL (pc := 26) (x := (-1)) dX12_high_26 kl_X12_237 ?_
      exact r_lret (st := []) (pc := 29) (x := (-1)) dX12_high_29 rfl rfl (by decide) ⟨rfl, _, rfl, w⟩

set_option maxRecDepth 100000 in
set_option maxHeartbeats 4000000 in
theorem bX12_high_35 {h : zMm} {K : Int → zMm → Prop} {v1 : Int} {v2 : Int} {v3 : Int} {v5 : Int} (w : (zR v5 ∧ ((36 ≤ v5 → K v3 h) ∧ (¬ 36 ≤ v5 → ((0 ≤ (36 + v5) ∧ (36 + v5) < 600) ∧ (zR (h 92 (36 + v5)) ∧ (zR v1 ∧ (zR v2 ∧ ((¬ v2 = 0 → (((if (h 92 (36 + v5)) ≤ v1 then false else true) = true → zCb mX12_isGrass [.ref 81, .int (zI v5)] zS0 h (fun b12 h12 => RR mX12_high 0 0 35 [some (.ref 81), some (.int (zI v1)), some (.int (zI v2)), some (.long (zJ (lO v3 0))), none, some (.int (zI (v5 + 1))), none, none] [] zS0 h12 (zQl zS0 K))) ∧ ((if (h 92 (36 + v5)) ≤ v1 then false else true) = false → zCi mX12_grownTo [.ref 81, .int (zI v5)] zS0 h (fun x15 h15 => (zR x15 ∧ zCb mX12_isGrass [.ref 81, .int (zI v5)] zS0 h15 (fun b17 h17 => RR mX12_high 0 0 35 [some (.ref 81), some (.int (zI v1)), some (.int (zI v2)), some (.long (zJ (lO v3 (if b17 = true then (if (if x15 ≤ v1 then false else true) = true then (lSl 1 v5) else 0) else 0)))), none, some (.int (zI (v5 + 1))), none, none] [] zS0 h17 (zQl zS0 K))))))) ∧ (v2 = 0 → zCb mX12_isGrass [.ref 81, .int (zI v5)] zS0 h (fun b21 h21 => RR mX12_high 0 0 35 [some (.ref 81), some (.int (zI v1)), some (.int (zI v2)), some (.long (zJ (lO v3 (if b21 = true then (if (if (h 92 (36 + v5)) ≤ v1 then false else true) = true then (lSl 1 v5) else 0) else 0)))), none, some (.int (zI (v5 + 1))), none, none] [] zS0 h21 (zQl zS0 K)))))))))))) : RR mX12_high 0 0 35 [some (.ref 81), some (.int (zI v1)), some (.int (zI v2)), some (.long (zJ v3)), none, some (.int (zI v5)), none, none] [] zS0 h (zQl zS0 K) := by
  refine r_iload (pc := 35) (x := v5) dX12_high_35 rfl ?_
  refine r_bipush (pc := 37) (x := 36) dX12_high_37 (by decide) ?_
  obtain ⟨hr6, w⟩ := w
  refine r_icmp_ge (pc := 39) (x := v5) (y := 36) (tgt := 125) dX12_high_39 (by decide) hr6 (by decide) (fun c => ?_) (fun c => ?_)
  · have w := w.1 (c)
    refine r_lload_n (pc := 125) (x := v3) dX12_high_125 rfl ?_
    exact r_lret (st := []) (pc := 126) (x := v3) dX12_high_126 rfl rfl (by decide) ⟨rfl, _, rfl, w⟩
  · have w := w.2 (c)
    refine r_aload_n (pc := 42) (a := 81) dX12_high_42 rfl ?_
    refine r_getR (pc := 43) (b := 92) fl_X12_40 dX12_high_43 s0_81 rfl ?_
    refine r_bipush (pc := 46) (x := 36) dX12_high_46 (by decide) ?_
    refine r_iload (pc := 48) (x := v5) dX12_high_48 rfl ?_
    refine r_iadd (pc := 50) (x := 36) (y := v5) dX12_high_50 ?_
    obtain ⟨hb7, w⟩ := w
    refine r_iald (pc := 51) (i := (36 + v5)) (x := (h 92 (36 + v5))) dX12_high_51 s0_92 ⟨hb7.1, hb7.2, (by decide)⟩ (rfl) ?_
    refine r_iload_n (pc := 52) (x := v1) dX12_high_52 rfl ?_
    obtain ⟨hr8, w⟩ := w
    obtain ⟨hr9, w⟩ := w
    have kk24 : RR mX12_high 0 0 61 [some (.ref 81), some (.int (zI v1)), some (.int (zI v2)), some (.long (zJ v3)), none, some (.int (zI v5)), none, none] [.int (zI (bI (if (h 92 (36 + v5)) ≤ v1 then false else true)))] zS0 h (zQl zS0 K) := by
      refine r_istore (pc := 61) (L' := [some (.ref 81), some (.int (zI v1)), some (.int (zI v2)), some (.long (zJ v3)), none, some (.int (zI v5)), some (.int (zI (bI (if (h 92 (36 + v5)) ≤ v1 then false else true)))), none]) dX12_high_61 (by decide) rfl ?_
      refine r_iload_n (pc := 63) (x := v2) dX12_high_63 rfl ?_
      obtain ⟨hr10, w⟩ := w
      refine r_if_ne (pc := 64) (x := v2) (tgt := 72) dX12_high_64 (by decide) hr10 (fun c => ?_) (fun c => ?_)
      · have w := w.1 (c)
        refine r_iload (pc := 72) (x := (bI (if (h 92 (36 + v5)) ≤ v1 then false else true))) dX12_high_72 rfl ?_
        refine r_if_ne (pc := 74) (x := (bI (if (h 92 (36 + v5)) ≤ v1 then false else true))) (tgt := 91) dX12_high_74 (by decide) (bI_R _) (fun c => ?_) (fun c => ?_)
        · have w := w.1 (bI_n.mp c)
          refine r_iconst (pc := 91) dX12_high_91 ?_
          refine r_istore (pc := 92) (L' := [some (.ref 81), some (.int (zI v1)), some (.int (zI v2)), some (.long (zJ v3)), none, some (.int (zI v5)), some (.int (zI (bI (if (h 92 (36 + v5)) ≤ v1 then false else true)))), some (.int (zI 0))]) dX12_high_92 (by decide) rfl ?_
          refine r_lload_n (pc := 94) (x := v3) dX12_high_94 rfl ?_
          refine r_aload_n (pc := 95) (a := 81) dX12_high_95 rfl ?_
          refine r_iload (pc := 96) (x := v5) dX12_high_96 rfl ?_
          refine r_callV (μ2 := mX12_isGrass) (pc := 98) (as := [.int (zI v5)]) (st := [.long (zJ v3)]) rfl s0_81 ml_X12_196 im_X12_isGrass se_X12_isGrass okX12_isGrass ⟨by decide, by decide⟩ dX12_high_98 (Nat.le_of_ble_eq_true rfl) rfl (Nat.le_of_ble_eq_true rfl) (by decide) (by decide) (zCC.mono w ?_)
          rintro r S' h12 ⟨rfl, b12, hr, w⟩
          subst hr
          show RR mX12_high 0 0 101 [some (.ref 81), some (.int (zI v1)), some (.int (zI v2)), some (.long (zJ v3)), none, some (.int (zI v5)), some (.int (zI (bI (if (h 92 (36 + v5)) ≤ v1 then false else true)))), some (.int (zI 0))] [.int (zI (bI b12)), .long (zJ v3)] zS0 h12 (zQl zS0 K)
          have kk14 : RR mX12_high 0 0 117 [some (.ref 81), some (.int (zI v1)), some (.int (zI v2)), some (.long (zJ v3)), none, some (.int (zI v5)), some (.int (zI (bI (if (h 92 (36 + v5)) ≤ v1 then false else true)))), some (.int (zI 0))] [.long (zJ 0), .long (zJ v3)] zS0 h12 (zQl zS0 K) := by
            refine r_lor (pc := 117) (x := v3) (y := 0) dX12_high_117 ?_
            refine r_lstore_n (pc := 118) (L' := [some (.ref 81), some (.int (zI v1)), some (.int (zI v2)), some (.long (zJ (lO v3 0))), none, some (.int (zI v5)), some (.int (zI (bI (if (h 92 (36 + v5)) ≤ v1 then false else true)))), some (.int (zI 0))]) dX12_high_118 (by decide) rfl ?_
            refine r_iinc (pc := 119) (x := v5) (L' := [some (.ref 81), some (.int (zI v1)), some (.int (zI v2)), some (.long (zJ (lO v3 0))), none, some (.int (zI (v5 + 1))), some (.int (zI (bI (if (h 92 (36 + v5)) ≤ v1 then false else true)))), some (.int (zI 0))]) dX12_high_119 rfl (by decide) rfl ?_
            refine r_goto (pc := 122) (tgt := 35) dX12_high_122 (by decide) ?_
            exact RR.sub (L' := [some (.ref 81), some (.int (zI v1)), some (.int (zI v2)), some (.long (zJ (lO v3 0))), none, some (.int (zI (v5 + 1))), none, none]) (zSb_of (⟨rfl, ⟨rfl, ⟨rfl, ⟨rfl, ⟨rfl, trivial⟩⟩⟩⟩⟩)) w
          refine r_if_eq (pc := 101) (x := (bI b12)) (tgt := 116) dX12_high_101 (by decide) (bI_R _) (fun c => ?_) (fun c => ?_)
          · refine r_lconst (pc := 116) (x := 0) dX12_high_116 rfl ?_
            exact kk14
          · refine r_iload (pc := 104) (x := 0) dX12_high_104 rfl ?_
            refine r_if_eq (pc := 106) (x := 0) (tgt := 116) dX12_high_106 (by decide) (by decide) (fun c13 => ?_) (fun c13 => ?_)
            · refine r_lconst (pc := 116) (x := 0) dX12_high_116 rfl ?_
              exact kk14
            · exact absurd c13 (by decide)
        · have w := w.2 (bI_0.mp c)
          refine r_aload_n (pc := 77) (a := 81) dX12_high_77 rfl ?_
          refine r_iload (pc := 78) (x := v5) dX12_high_78 rfl ?_
          refine r_callV (μ2 := mX12_grownTo) (pc := 80) (as := [.int (zI v5)]) (st := []) rfl s0_81 ml_X12_323 im_X12_grownTo se_X12_grownTo okX12_grownTo ⟨by decide, by decide⟩ dX12_high_80 (Nat.le_of_ble_eq_true rfl) rfl (Nat.le_of_ble_eq_true rfl) (by decide) (by decide) (zCC.mono w ?_)
          rintro r S' h15 ⟨rfl, x15, hr, w⟩
          subst hr
          show RR mX12_high 0 0 83 [some (.ref 81), some (.int (zI v1)), some (.int (zI v2)), some (.long (zJ v3)), none, some (.int (zI v5)), some (.int (zI (bI (if (h 92 (36 + v5)) ≤ v1 then false else true)))), none] [.int (zI x15)] zS0 h15 (zQl zS0 K)
          refine r_iload_n (pc := 83) (x := v1) dX12_high_83 rfl ?_
          obtain ⟨hr16, w⟩ := w
          have kk20 : RR mX12_high 0 0 92 [some (.ref 81), some (.int (zI v1)), some (.int (zI v2)), some (.long (zJ v3)), none, some (.int (zI v5)), some (.int (zI (bI (if (h 92 (36 + v5)) ≤ v1 then false else true)))), none] [.int (zI (bI (if x15 ≤ v1 then false else true)))] zS0 h15 (zQl zS0 K) := by
            refine r_istore (pc := 92) (L' := [some (.ref 81), some (.int (zI v1)), some (.int (zI v2)), some (.long (zJ v3)), none, some (.int (zI v5)), some (.int (zI (bI (if (h 92 (36 + v5)) ≤ v1 then false else true)))), some (.int (zI (bI (if x15 ≤ v1 then false else true))))]) dX12_high_92 (by decide) rfl ?_
            refine r_lload_n (pc := 94) (x := v3) dX12_high_94 rfl ?_
            refine r_aload_n (pc := 95) (a := 81) dX12_high_95 rfl ?_
            refine r_iload (pc := 96) (x := v5) dX12_high_96 rfl ?_
            refine r_callV (μ2 := mX12_isGrass) (pc := 98) (as := [.int (zI v5)]) (st := [.long (zJ v3)]) rfl s0_81 ml_X12_196 im_X12_isGrass se_X12_isGrass okX12_isGrass ⟨by decide, by decide⟩ dX12_high_98 (Nat.le_of_ble_eq_true rfl) rfl (Nat.le_of_ble_eq_true rfl) (by decide) (by decide) (zCC.mono w ?_)
            rintro r S' h17 ⟨rfl, b17, hr, w⟩
            subst hr
            show RR mX12_high 0 0 101 [some (.ref 81), some (.int (zI v1)), some (.int (zI v2)), some (.long (zJ v3)), none, some (.int (zI v5)), some (.int (zI (bI (if (h 92 (36 + v5)) ≤ v1 then false else true)))), some (.int (zI (bI (if x15 ≤ v1 then false else true))))] [.int (zI (bI b17)), .long (zJ v3)] zS0 h17 (zQl zS0 K)
            have kk19 : RR mX12_high 0 0 117 [some (.ref 81), some (.int (zI v1)), some (.int (zI v2)), some (.long (zJ v3)), none, some (.int (zI v5)), some (.int (zI (bI (if (h 92 (36 + v5)) ≤ v1 then false else true)))), some (.int (zI (bI (if x15 ≤ v1 then false else true))))] [.long (zJ (if b17 = true then (if (if x15 ≤ v1 then false else true) = true then (lSl 1 v5) else 0) else 0)), .long (zJ v3)] zS0 h17 (zQl zS0 K) := by
              refine r_lor (pc := 117) (x := v3) (y := (if b17 = true then (if (if x15 ≤ v1 then false else true) = true then (lSl 1 v5) else 0) else 0)) dX12_high_117 ?_
              refine r_lstore_n (pc := 118) (L' := [some (.ref 81), some (.int (zI v1)), some (.int (zI v2)), some (.long (zJ (lO v3 (if b17 = true then (if (if x15 ≤ v1 then false else true) = true then (lSl 1 v5) else 0) else 0)))), none, some (.int (zI v5)), some (.int (zI (bI (if (h 92 (36 + v5)) ≤ v1 then false else true)))), some (.int (zI (bI (if x15 ≤ v1 then false else true))))]) dX12_high_118 (by decide) rfl ?_
              refine r_iinc (pc := 119) (x := v5) (L' := [some (.ref 81), some (.int (zI v1)), some (.int (zI v2)), some (.long (zJ (lO v3 (if b17 = true then (if (if x15 ≤ v1 then false else true) = true then (lSl 1 v5) else 0) else 0)))), none, some (.int (zI (v5 + 1))), some (.int (zI (bI (if (h 92 (36 + v5)) ≤ v1 then false else true)))), some (.int (zI (bI (if x15 ≤ v1 then false else true))))]) dX12_high_119 rfl (by decide) rfl ?_
              refine r_goto (pc := 122) (tgt := 35) dX12_high_122 (by decide) ?_
              exact RR.sub (L' := [some (.ref 81), some (.int (zI v1)), some (.int (zI v2)), some (.long (zJ (lO v3 (if b17 = true then (if (if x15 ≤ v1 then false else true) = true then (lSl 1 v5) else 0) else 0)))), none, some (.int (zI (v5 + 1))), none, none]) (zSb_of (⟨rfl, ⟨rfl, ⟨rfl, ⟨rfl, ⟨rfl, trivial⟩⟩⟩⟩⟩)) w
            refine r_if_eq (pc := 101) (x := (bI b17)) (tgt := 116) dX12_high_101 (by decide) (bI_R _) (fun c => ?_) (fun c => ?_)
            · refine r_lconst (pc := 116) (x := 0) dX12_high_116 rfl ?_
              simp only [if_neg (bI_ft (bI_0.mp c))] at kk19 ⊢
              exact kk19
            · refine r_iload (pc := 104) (x := (bI (if x15 ≤ v1 then false else true))) dX12_high_104 rfl ?_
              refine r_if_eq (pc := 106) (x := (bI (if x15 ≤ v1 then false else true))) (tgt := 116) dX12_high_106 (by decide) (bI_R _) (fun c18 => ?_) (fun c18 => ?_)
              · refine r_lconst (pc := 116) (x := 0) dX12_high_116 rfl ?_
                simp only [if_pos (bI_n.mp c), if_neg (bI_ft (bI_0.mp c18))] at kk19 ⊢
                exact kk19
              · refine r_lconst (pc := 109) (x := 1) dX12_high_109 rfl ?_
                refine r_iload (pc := 110) (x := v5) dX12_high_110 rfl ?_
                refine r_lshl (pc := 112) (x := 1) (y := v5) dX12_high_112 ?_
                refine r_goto (pc := 113) (tgt := 117) dX12_high_113 (by decide) ?_
                simp only [if_pos (bI_n.mp c), if_pos (bI_n.mp c18)] at kk19 ⊢
                exact kk19
          refine r_icmp_le (pc := 84) (x := x15) (y := v1) (tgt := 91) dX12_high_84 (by decide) hr16 hr9 (fun c => ?_) (fun c => ?_)
          · refine r_iconst (pc := 91) dX12_high_91 ?_
            simp only [if_pos (c)] at kk20 ⊢
            exact kk20
          · refine r_iconst (pc := 87) dX12_high_87 ?_
            refine r_goto (pc := 88) (tgt := 92) dX12_high_88 (by decide) ?_
            simp only [if_neg (c)] at kk20 ⊢
            exact kk20
      · have w := w.2 (c)
        refine r_iload (pc := 67) (x := (bI (if (h 92 (36 + v5)) ≤ v1 then false else true))) dX12_high_67 rfl ?_
        refine r_goto (pc := 69) (tgt := 92) dX12_high_69 (by decide) ?_
        refine r_istore (pc := 92) (L' := [some (.ref 81), some (.int (zI v1)), some (.int (zI v2)), some (.long (zJ v3)), none, some (.int (zI v5)), some (.int (zI (bI (if (h 92 (36 + v5)) ≤ v1 then false else true)))), some (.int (zI (bI (if (h 92 (36 + v5)) ≤ v1 then false else true))))]) dX12_high_92 (by decide) rfl ?_
        refine r_lload_n (pc := 94) (x := v3) dX12_high_94 rfl ?_
        refine r_aload_n (pc := 95) (a := 81) dX12_high_95 rfl ?_
        refine r_iload (pc := 96) (x := v5) dX12_high_96 rfl ?_
        refine r_callV (μ2 := mX12_isGrass) (pc := 98) (as := [.int (zI v5)]) (st := [.long (zJ v3)]) rfl s0_81 ml_X12_196 im_X12_isGrass se_X12_isGrass okX12_isGrass ⟨by decide, by decide⟩ dX12_high_98 (Nat.le_of_ble_eq_true rfl) rfl (Nat.le_of_ble_eq_true rfl) (by decide) (by decide) (zCC.mono w ?_)
        rintro r S' h21 ⟨rfl, b21, hr, w⟩
        subst hr
        show RR mX12_high 0 0 101 [some (.ref 81), some (.int (zI v1)), some (.int (zI v2)), some (.long (zJ v3)), none, some (.int (zI v5)), some (.int (zI (bI (if (h 92 (36 + v5)) ≤ v1 then false else true)))), some (.int (zI (bI (if (h 92 (36 + v5)) ≤ v1 then false else true))))] [.int (zI (bI b21)), .long (zJ v3)] zS0 h21 (zQl zS0 K)
        have kk23 : RR mX12_high 0 0 117 [some (.ref 81), some (.int (zI v1)), some (.int (zI v2)), some (.long (zJ v3)), none, some (.int (zI v5)), some (.int (zI (bI (if (h 92 (36 + v5)) ≤ v1 then false else true)))), some (.int (zI (bI (if (h 92 (36 + v5)) ≤ v1 then false else true))))] [.long (zJ (if b21 = true then (if (if (h 92 (36 + v5)) ≤ v1 then false else true) = true then (lSl 1 v5) else 0) else 0)), .long (zJ v3)] zS0 h21 (zQl zS0 K) := by
          refine r_lor (pc := 117) (x := v3) (y := (if b21 = true then (if (if (h 92 (36 + v5)) ≤ v1 then false else true) = true then (lSl 1 v5) else 0) else 0)) dX12_high_117 ?_
          refine r_lstore_n (pc := 118) (L' := [some (.ref 81), some (.int (zI v1)), some (.int (zI v2)), some (.long (zJ (lO v3 (if b21 = true then (if (if (h 92 (36 + v5)) ≤ v1 then false else true) = true then (lSl 1 v5) else 0) else 0)))), none, some (.int (zI v5)), some (.int (zI (bI (if (h 92 (36 + v5)) ≤ v1 then false else true)))), some (.int (zI (bI (if (h 92 (36 + v5)) ≤ v1 then false else true))))]) dX12_high_118 (by decide) rfl ?_
          refine r_iinc (pc := 119) (x := v5) (L' := [some (.ref 81), some (.int (zI v1)), some (.int (zI v2)), some (.long (zJ (lO v3 (if b21 = true then (if (if (h 92 (36 + v5)) ≤ v1 then false else true) = true then (lSl 1 v5) else 0) else 0)))), none, some (.int (zI (v5 + 1))), some (.int (zI (bI (if (h 92 (36 + v5)) ≤ v1 then false else true)))), some (.int (zI (bI (if (h 92 (36 + v5)) ≤ v1 then false else true))))]) dX12_high_119 rfl (by decide) rfl ?_
          refine r_goto (pc := 122) (tgt := 35) dX12_high_122 (by decide) ?_
          exact RR.sub (L' := [some (.ref 81), some (.int (zI v1)), some (.int (zI v2)), some (.long (zJ (lO v3 (if b21 = true then (if (if (h 92 (36 + v5)) ≤ v1 then false else true) = true then (lSl 1 v5) else 0) else 0)))), none, some (.int (zI (v5 + 1))), none, none]) (zSb_of (⟨rfl, ⟨rfl, ⟨rfl, ⟨rfl, ⟨rfl, trivial⟩⟩⟩⟩⟩)) w
        refine r_if_eq (pc := 101) (x := (bI b21)) (tgt := 116) dX12_high_101 (by decide) (bI_R _) (fun c => ?_) (fun c => ?_)
        · refine r_lconst (pc := 116) (x := 0) dX12_high_116 rfl ?_
          simp only [if_neg (bI_ft (bI_0.mp c))] at kk23 ⊢
          exact kk23
        · refine r_iload (pc := 104) (x := (bI (if (h 92 (36 + v5)) ≤ v1 then false else true))) dX12_high_104 rfl ?_
          refine r_if_eq (pc := 106) (x := (bI (if (h 92 (36 + v5)) ≤ v1 then false else true))) (tgt := 116) dX12_high_106 (by decide) (bI_R _) (fun c22 => ?_) (fun c22 => ?_)
          · refine r_lconst (pc := 116) (x := 0) dX12_high_116 rfl ?_
            simp only [if_pos (bI_n.mp c), if_neg (bI_ft (bI_0.mp c22))] at kk23 ⊢
            exact kk23
          · refine r_lconst (pc := 109) (x := 1) dX12_high_109 rfl ?_
            refine r_iload (pc := 110) (x := v5) dX12_high_110 rfl ?_
            refine r_lshl (pc := 112) (x := 1) (y := v5) dX12_high_112 ?_
            refine r_goto (pc := 113) (tgt := 117) dX12_high_113 (by decide) ?_
            simp only [if_pos (bI_n.mp c), if_pos (bI_n.mp c22)] at kk23 ⊢
            exact kk23
    refine r_icmp_le (pc := 53) (x := (h 92 (36 + v5))) (y := v1) (tgt := 60) dX12_high_53 (by decide) hr8 hr9 (fun c => ?_) (fun c => ?_)
    · refine r_iconst (pc := 60) dX12_high_60 ?_
      simp only [if_pos (c)] at kk24 ⊢
      exact kk24
    · refine r_iconst (pc := 56) dX12_high_56 ?_
      refine r_goto (pc := 57) (tgt := 61) dX12_high_57 (by decide) ?_
      simp only [if_neg (c)] at kk24 ⊢
      exact kk24

set_option maxRecDepth 100000 in
set_option maxHeartbeats 4000000 in
theorem wX12_weeks {h : zMm} {K : Int → zMm → Prop} {v1 : Int} (w : zCv mX12_awake [.ref 81] zS0 h (fun h1 => (zR v1 ∧ zCb mX12_in [.long (zJ v1), .long (zJ 0), .long (zJ 60)] zS0 h1 (fun b3 h3 => ((b3 = true → RR mX12_weeks 0 0 23 [some (.ref 81), some (.int (zI v1)), some (.int (zI (-4))), some (.int (zI 0)), none, none, none, none] [] zS0 h3 (zQi zS0 K)) ∧ (b3 = false → K (-1) h3)))))) : zCi mX12_weeks [.ref 81, .int (zI v1)] zS0 h K := by
  show RR mX12_weeks 0 0 0 [some (.ref 81), some (.int (zI v1)), none, none, none, none, none, none] [] zS0 h (zQi zS0 K)
  refine r_aload_n (pc := 0) (a := 81) dX12_weeks_0 rfl ?_
  refine r_callV (μ2 := mX12_awake) (pc := 1) (as := []) (st := []) rfl s0_81 ml_X12_175 im_X12_awake se_X12_awake okX12_awake ⟨by decide, by decide⟩ dX12_weeks_1 (Nat.le_of_ble_eq_true rfl) rfl (Nat.le_of_ble_eq_true rfl) (by decide) (by decide) (zCC.mono w ?_)
  rintro r S' h1 ⟨rfl, hr, w⟩
  subst hr
  show RR mX12_weeks 0 0 4 [some (.ref 81), some (.int (zI v1)), none, none, none, none, none, none] [] zS0 h1 (zQi zS0 K)
  refine r_iload_n (pc := 4) (x := v1) dX12_weeks_4 rfl ?_
  obtain ⟨hr2, w⟩ := w
  refine r_i2l (pc := 5) (x := v1) dX12_weeks_5 hr2 ?_
  refine r_lconst (pc := 6) (x := 0) dX12_weeks_6 rfl ?_
  refine r_ldcL (pc := 7) (x := 60) dX12_weeks_7 kl_X12_326 ?_
  refine r_callS (μ2 := mX12_in) (pc := 10) (as := [.long (zJ v1), .long (zJ 0), .long (zJ 60)]) (st := []) ml_X12_94 sm_X12_in okX12_in ⟨by decide, by decide⟩ dX12_weeks_10 (Nat.le_of_ble_eq_true rfl) rfl (Nat.le_of_ble_eq_true rfl) (by decide) (by decide) (zCC.mono w ?_)
  rintro r S' h3 ⟨rfl, b3, hr, w⟩
  subst hr
  show RR mX12_weeks 0 0 13 [some (.ref 81), some (.int (zI v1)), none, none, none, none, none, none] [.int (zI (bI b3))] zS0 h3 (zQi zS0 K)
  refine r_if_ne (pc := 13) (x := (bI b3)) (tgt := 18) dX12_weeks_13 (by decide) (bI_R _) (fun c => ?_) (fun c => ?_)
  · have w := w.1 (bI_n.mp c)
    refine r_bipush (pc := 18) (x := (-4)) dX12_weeks_18 (by decide) ?_
    refine r_istore_n (pc := 20) (L' := [some (.ref 81), some (.int (zI v1)), some (.int (zI (-4))), none, none, none, none, none]) dX12_weeks_20 (by decide) rfl ?_
    refine r_iconst (pc := 21) dX12_weeks_21 ?_
    refine r_istore_n (pc := 22) (L' := [some (.ref 81), some (.int (zI v1)), some (.int (zI (-4))), some (.int (zI 0)), none, none, none, none]) dX12_weeks_22 (by decide) rfl ?_
    exact w
  · have w := w.2 (bI_0.mp c)
    refine r_iconst (pc := 16) dX12_weeks_16 ?_
    exact r_iret (st := []) (pc := 17) (x := (-1)) (ty := .int) dX12_weeks_17 rfl rfl rfl (by decide) ⟨rfl, _, rfl, w⟩

set_option maxRecDepth 100000 in
set_option maxHeartbeats 4000000 in
theorem bX12_weeks_23 {h : zMm} {K : Int → zMm → Prop} {v1 : Int} {v2 : Int} {v3 : Int} (w : (zR v3 ∧ ((36 ≤ v3 → K v2 h) ∧ (¬ 36 ≤ v3 → ((0 ≤ (36 + v3) ∧ (36 + v3) < 600) ∧ ((0 ≤ (108 + v3) ∧ (108 + v3) < 600) ∧ zCb mX12_isGrass [.ref 81, .int (zI v3)] zS0 h (fun b7 h7 => (zR v1 ∧ (zR ((v1 + 1) - (h 92 (36 + v3))) ∧ (zR (h 92 (108 + v3)) ∧ (((if b7 = true then (if 60 ≤ v1 then false else (if ((v1 + 1) - (h 92 (36 + v3))) ≤ 0 then true else (if (h 92 (108 + v3)) ≤ 0 then false else true))) else false) = true → ((0 < ((v1 + 1) - (h 92 (36 + v3))) → ((0 ≤ ((((v1 + 1) - (h 92 (36 + v3))) + (h 92 (108 + v3))) - 1) ∧ ((((v1 + 1) - (h 92 (36 + v3))) + (h 92 (108 + v3))) - 1) < 2147483648) ∧ ((0 < (h 92 (108 + v3)) ∧ (h 92 (108 + v3)) < 2147483648) ∧ (zR v2 ∧ (zR (((((v1 + 1) - (h 92 (36 + v3))) + (h 92 (108 + v3))) - 1) / (h 92 (108 + v3))) ∧ RR mX12_weeks 0 0 23 [some (.ref 81), some (.int (zI v1)), some (.int (zI (if (if b7 = true then (if 60 ≤ v1 then false else (if ((v1 + 1) - (h 92 (36 + v3))) ≤ 0 then true else (if (h 92 (108 + v3)) ≤ 0 then false else true))) else false) = true then (if v2 = (-4) then (((((v1 + 1) - (h 92 (36 + v3))) + (h 92 (108 + v3))) - 1) / (h 92 (108 + v3))) else (if v2 ≤ (((((v1 + 1) - (h 92 (36 + v3))) + (h 92 (108 + v3))) - 1) / (h 92 (108 + v3))) then v2 else (((((v1 + 1) - (h 92 (36 + v3))) + (h 92 (108 + v3))) - 1) / (h 92 (108 + v3))))) else v2))), some (.int (zI (v3 + 1))), none, none, none, none] [] zS0 h7 (zQi zS0 K)))))) ∧ (¬ 0 < ((v1 + 1) - (h 92 (36 + v3))) → (zR v2 ∧ RR mX12_weeks 0 0 23 [some (.ref 81), some (.int (zI v1)), some (.int (zI (if (if b7 = true then (if 60 ≤ v1 then false else (if ((v1 + 1) - (h 92 (36 + v3))) ≤ 0 then true else (if (h 92 (108 + v3)) ≤ 0 then false else true))) else false) = true then (if v2 = (-4) then (0 : Int) else (if v2 ≤ 0 then v2 else (0 : Int))) else v2))), some (.int (zI (v3 + 1))), none, none, none, none] [] zS0 h7 (zQi zS0 K))))) ∧ ((if b7 = true then (if 60 ≤ v1 then false else (if ((v1 + 1) - (h 92 (36 + v3))) ≤ 0 then true else (if (h 92 (108 + v3)) ≤ 0 then false else true))) else false) = false → (zR v2 ∧ RR mX12_weeks 0 0 23 [some (.ref 81), some (.int (zI v1)), some (.int (zI (if (if b7 = true then (if 60 ≤ v1 then false else (if ((v1 + 1) - (h 92 (36 + v3))) ≤ 0 then true else (if (h 92 (108 + v3)) ≤ 0 then false else true))) else false) = true then (if v2 = (-4) then (0 : Int) else (if v2 ≤ 0 then v2 else (0 : Int))) else v2))), some (.int (zI (v3 + 1))), none, none, none, none] [] zS0 h7 (zQi zS0 K)))))))))))))) : RR mX12_weeks 0 0 23 [some (.ref 81), some (.int (zI v1)), some (.int (zI v2)), some (.int (zI v3)), none, none, none, none] [] zS0 h (zQi zS0 K) := by
  refine r_iload_n (pc := 23) (x := v3) dX12_weeks_23 rfl ?_
  refine r_bipush (pc := 24) (x := 36) dX12_weeks_24 (by decide) ?_
  obtain ⟨hr4, w⟩ := w
  refine r_icmp_ge (pc := 26) (x := v3) (y := 36) (tgt := 146) dX12_weeks_26 (by decide) hr4 (by decide) (fun c => ?_) (fun c => ?_)
  · have w := w.1 (c)
    refine r_iload_n (pc := 146) (x := v2) dX12_weeks_146 rfl ?_
    exact r_iret (st := []) (pc := 147) (x := v2) (ty := .int) dX12_weeks_147 rfl rfl rfl (by decide) ⟨rfl, _, rfl, w⟩
  · have w := w.2 (c)
    refine r_iload_n (pc := 29) (x := v1) dX12_weeks_29 rfl ?_
    refine r_iconst (pc := 30) dX12_weeks_30 ?_
    refine r_iadd (pc := 31) (x := v1) (y := 1) dX12_weeks_31 ?_
    refine r_aload_n (pc := 32) (a := 81) dX12_weeks_32 rfl ?_
    refine r_getR (pc := 33) (b := 92) fl_X12_40 dX12_weeks_33 s0_81 rfl ?_
    refine r_bipush (pc := 36) (x := 36) dX12_weeks_36 (by decide) ?_
    refine r_iload_n (pc := 38) (x := v3) dX12_weeks_38 rfl ?_
    refine r_iadd (pc := 39) (x := 36) (y := v3) dX12_weeks_39 ?_
    obtain ⟨hb5, w⟩ := w
    refine r_iald (pc := 40) (i := (36 + v3)) (x := (h 92 (36 + v3))) dX12_weeks_40 s0_92 ⟨hb5.1, hb5.2, (by decide)⟩ (rfl) ?_
    refine r_isub (pc := 41) (x := (v1 + 1)) (y := (h 92 (36 + v3))) dX12_weeks_41 ?_
    refine r_istore (pc := 42) (L' := [some (.ref 81), some (.int (zI v1)), some (.int (zI v2)), some (.int (zI v3)), some (.int (zI ((v1 + 1) - (h 92 (36 + v3))))), none, none, none]) dX12_weeks_42 (by decide) rfl ?_
    refine r_aload_n (pc := 44) (a := 81) dX12_weeks_44 rfl ?_
    refine r_getR (pc := 45) (b := 92) fl_X12_40 dX12_weeks_45 s0_81 rfl ?_
    refine r_bipush (pc := 48) (x := 108) dX12_weeks_48 (by decide) ?_
    refine r_iload_n (pc := 50) (x := v3) dX12_weeks_50 rfl ?_
    refine r_iadd (pc := 51) (x := 108) (y := v3) dX12_weeks_51 ?_
    obtain ⟨hb6, w⟩ := w
    refine r_iald (pc := 52) (i := (108 + v3)) (x := (h 92 (108 + v3))) dX12_weeks_52 s0_92 ⟨hb6.1, hb6.2, (by decide)⟩ (rfl) ?_
    refine r_istore (pc := 53) (L' := [some (.ref 81), some (.int (zI v1)), some (.int (zI v2)), some (.int (zI v3)), some (.int (zI ((v1 + 1) - (h 92 (36 + v3))))), some (.int (zI (h 92 (108 + v3)))), none, none]) dX12_weeks_53 (by decide) rfl ?_
    refine r_aload_n (pc := 55) (a := 81) dX12_weeks_55 rfl ?_
    refine r_iload_n (pc := 56) (x := v3) dX12_weeks_56 rfl ?_
    refine r_callV (μ2 := mX12_isGrass) (pc := 57) (as := [.int (zI v3)]) (st := []) rfl s0_81 ml_X12_196 im_X12_isGrass se_X12_isGrass okX12_isGrass ⟨by decide, by decide⟩ dX12_weeks_57 (Nat.le_of_ble_eq_true rfl) rfl (Nat.le_of_ble_eq_true rfl) (by decide) (by decide) (zCC.mono w ?_)
    rintro r S' h7 ⟨rfl, b7, hr, w⟩
    subst hr
    show RR mX12_weeks 0 0 60 [some (.ref 81), some (.int (zI v1)), some (.int (zI v2)), some (.int (zI v3)), some (.int (zI ((v1 + 1) - (h 92 (36 + v3))))), some (.int (zI (h 92 (108 + v3)))), none, none] [.int (zI (bI b7))] zS0 h7 (zQi zS0 K)
    obtain ⟨hr9, w⟩ := w
    obtain ⟨hr12, w⟩ := w
    obtain ⟨hr16, w⟩ := w
    have kk41 : RR mX12_weeks 0 0 84 [some (.ref 81), some (.int (zI v1)), some (.int (zI v2)), some (.int (zI v3)), some (.int (zI ((v1 + 1) - (h 92 (36 + v3))))), some (.int (zI (h 92 (108 + v3)))), none, none] [.int (zI (bI (if b7 = true then (if 60 ≤ v1 then false else (if ((v1 + 1) - (h 92 (36 + v3))) ≤ 0 then true else (if (h 92 (108 + v3)) ≤ 0 then false else true))) else false)))] zS0 h7 (zQi zS0 K) := by
      refine r_istore (pc := 84) (L' := [some (.ref 81), some (.int (zI v1)), some (.int (zI v2)), some (.int (zI v3)), some (.int (zI ((v1 + 1) - (h 92 (36 + v3))))), some (.int (zI (h 92 (108 + v3)))), some (.int (zI (bI (if b7 = true then (if 60 ≤ v1 then false else (if ((v1 + 1) - (h 92 (36 + v3))) ≤ 0 then true else (if (h 92 (108 + v3)) ≤ 0 then false else true))) else false)))), none]) dX12_weeks_84 (by decide) rfl ?_
      refine r_iload (pc := 86) (x := (bI (if b7 = true then (if 60 ≤ v1 then false else (if ((v1 + 1) - (h 92 (36 + v3))) ≤ 0 then true else (if (h 92 (108 + v3)) ≤ 0 then false else true))) else false))) dX12_weeks_86 rfl ?_
      refine r_if_ne (pc := 88) (x := (bI (if b7 = true then (if 60 ≤ v1 then false else (if ((v1 + 1) - (h 92 (36 + v3))) ≤ 0 then true else (if (h 92 (108 + v3)) ≤ 0 then false else true))) else false))) (tgt := 95) dX12_weeks_88 (by decide) (bI_R _) (fun c => ?_) (fun c => ?_)
      · have w := w.1 (bI_n.mp c)
        refine r_iload (pc := 95) (x := ((v1 + 1) - (h 92 (36 + v3)))) dX12_weeks_95 rfl ?_
        refine r_if_gt (pc := 97) (x := ((v1 + 1) - (h 92 (36 + v3)))) (tgt := 104) dX12_weeks_97 (by decide) hr12 (fun c => ?_) (fun c => ?_)
        · have w := w.1 (c)
          refine r_iload (pc := 104) (x := ((v1 + 1) - (h 92 (36 + v3)))) dX12_weeks_104 rfl ?_
          refine r_iload (pc := 106) (x := (h 92 (108 + v3))) dX12_weeks_106 rfl ?_
          refine r_iadd (pc := 108) (x := ((v1 + 1) - (h 92 (36 + v3)))) (y := (h 92 (108 + v3))) dX12_weeks_108 ?_
          refine r_iconst (pc := 109) dX12_weeks_109 ?_
          refine r_isub (pc := 110) (x := (((v1 + 1) - (h 92 (36 + v3))) + (h 92 (108 + v3)))) (y := 1) dX12_weeks_110 ?_
          refine r_iload (pc := 111) (x := (h 92 (108 + v3))) dX12_weeks_111 rfl ?_
          obtain ⟨hx21, w⟩ := w
          obtain ⟨hy22, w⟩ := w
          refine r_idiv (pc := 113) (x := ((((v1 + 1) - (h 92 (36 + v3))) + (h 92 (108 + v3))) - 1)) (y := (h 92 (108 + v3))) dX12_weeks_113 hx21 hy22 ?_
          refine r_istore (pc := 114) (L' := [some (.ref 81), some (.int (zI v1)), some (.int (zI v2)), some (.int (zI v3)), some (.int (zI ((v1 + 1) - (h 92 (36 + v3))))), some (.int (zI (h 92 (108 + v3)))), some (.int (zI (bI (if b7 = true then (if 60 ≤ v1 then false else (if ((v1 + 1) - (h 92 (36 + v3))) ≤ 0 then true else (if (h 92 (108 + v3)) ≤ 0 then false else true))) else false)))), some (.int (zI (((((v1 + 1) - (h 92 (36 + v3))) + (h 92 (108 + v3))) - 1) / (h 92 (108 + v3)))))]) dX12_weeks_114 (by decide) rfl ?_
          refine r_iload (pc := 116) (x := (bI (if b7 = true then (if 60 ≤ v1 then false else (if ((v1 + 1) - (h 92 (36 + v3))) ≤ 0 then true else (if (h 92 (108 + v3)) ≤ 0 then false else true))) else false))) dX12_weeks_116 rfl ?_
          obtain ⟨hr24, w⟩ := w
          obtain ⟨hr27, w⟩ := w
          have kk30 : RR mX12_weeks 0 0 139 [some (.ref 81), some (.int (zI v1)), some (.int (zI v2)), some (.int (zI v3)), some (.int (zI ((v1 + 1) - (h 92 (36 + v3))))), some (.int (zI (h 92 (108 + v3)))), some (.int (zI (bI (if b7 = true then (if 60 ≤ v1 then false else (if ((v1 + 1) - (h 92 (36 + v3))) ≤ 0 then true else (if (h 92 (108 + v3)) ≤ 0 then false else true))) else false)))), some (.int (zI (((((v1 + 1) - (h 92 (36 + v3))) + (h 92 (108 + v3))) - 1) / (h 92 (108 + v3)))))] [.int (zI (if (if b7 = true then (if 60 ≤ v1 then false else (if ((v1 + 1) - (h 92 (36 + v3))) ≤ 0 then true else (if (h 92 (108 + v3)) ≤ 0 then false else true))) else false) = true then (if v2 = (-4) then (((((v1 + 1) - (h 92 (36 + v3))) + (h 92 (108 + v3))) - 1) / (h 92 (108 + v3))) else (if v2 ≤ (((((v1 + 1) - (h 92 (36 + v3))) + (h 92 (108 + v3))) - 1) / (h 92 (108 + v3))) then v2 else (((((v1 + 1) - (h 92 (36 + v3))) + (h 92 (108 + v3))) - 1) / (h 92 (108 + v3))))) else v2))] zS0 h7 (zQi zS0 K) := by
            refine r_istore_n (pc := 139) (L' := [some (.ref 81), some (.int (zI v1)), some (.int (zI (if (if b7 = true then (if 60 ≤ v1 then false else (if ((v1 + 1) - (h 92 (36 + v3))) ≤ 0 then true else (if (h 92 (108 + v3)) ≤ 0 then false else true))) else false) = true then (if v2 = (-4) then (((((v1 + 1) - (h 92 (36 + v3))) + (h 92 (108 + v3))) - 1) / (h 92 (108 + v3))) else (if v2 ≤ (((((v1 + 1) - (h 92 (36 + v3))) + (h 92 (108 + v3))) - 1) / (h 92 (108 + v3))) then v2 else (((((v1 + 1) - (h 92 (36 + v3))) + (h 92 (108 + v3))) - 1) / (h 92 (108 + v3))))) else v2))), some (.int (zI v3)), some (.int (zI ((v1 + 1) - (h 92 (36 + v3))))), some (.int (zI (h 92 (108 + v3)))), some (.int (zI (bI (if b7 = true then (if 60 ≤ v1 then false else (if ((v1 + 1) - (h 92 (36 + v3))) ≤ 0 then true else (if (h 92 (108 + v3)) ≤ 0 then false else true))) else false)))), some (.int (zI (((((v1 + 1) - (h 92 (36 + v3))) + (h 92 (108 + v3))) - 1) / (h 92 (108 + v3)))))]) dX12_weeks_139 (by decide) rfl ?_
            refine r_iinc (pc := 140) (x := v3) (L' := [some (.ref 81), some (.int (zI v1)), some (.int (zI (if (if b7 = true then (if 60 ≤ v1 then false else (if ((v1 + 1) - (h 92 (36 + v3))) ≤ 0 then true else (if (h 92 (108 + v3)) ≤ 0 then false else true))) else false) = true then (if v2 = (-4) then (((((v1 + 1) - (h 92 (36 + v3))) + (h 92 (108 + v3))) - 1) / (h 92 (108 + v3))) else (if v2 ≤ (((((v1 + 1) - (h 92 (36 + v3))) + (h 92 (108 + v3))) - 1) / (h 92 (108 + v3))) then v2 else (((((v1 + 1) - (h 92 (36 + v3))) + (h 92 (108 + v3))) - 1) / (h 92 (108 + v3))))) else v2))), some (.int (zI (v3 + 1))), some (.int (zI ((v1 + 1) - (h 92 (36 + v3))))), some (.int (zI (h 92 (108 + v3)))), some (.int (zI (bI (if b7 = true then (if 60 ≤ v1 then false else (if ((v1 + 1) - (h 92 (36 + v3))) ≤ 0 then true else (if (h 92 (108 + v3)) ≤ 0 then false else true))) else false)))), some (.int (zI (((((v1 + 1) - (h 92 (36 + v3))) + (h 92 (108 + v3))) - 1) / (h 92 (108 + v3)))))]) dX12_weeks_140 rfl (by decide) rfl ?_
            refine r_goto (pc := 143) (tgt := 23) dX12_weeks_143 (by decide) ?_
            exact RR.sub (L' := [some (.ref 81), some (.int (zI v1)), some (.int (zI (if (if b7 = true then (if 60 ≤ v1 then false else (if ((v1 + 1) - (h 92 (36 + v3))) ≤ 0 then true else (if (h 92 (108 + v3)) ≤ 0 then false else true))) else false) = true then (if v2 = (-4) then (((((v1 + 1) - (h 92 (36 + v3))) + (h 92 (108 + v3))) - 1) / (h 92 (108 + v3))) else (if v2 ≤ (((((v1 + 1) - (h 92 (36 + v3))) + (h 92 (108 + v3))) - 1) / (h 92 (108 + v3))) then v2 else (((((v1 + 1) - (h 92 (36 + v3))) + (h 92 (108 + v3))) - 1) / (h 92 (108 + v3))))) else v2))), some (.int (zI (v3 + 1))), none, none, none, none]) (zSb_of (⟨rfl, ⟨rfl, ⟨rfl, ⟨rfl, trivial⟩⟩⟩⟩)) w
          refine r_if_eq (pc := 118) (x := (bI (if b7 = true then (if 60 ≤ v1 then false else (if ((v1 + 1) - (h 92 (36 + v3))) ≤ 0 then true else (if (h 92 (108 + v3)) ≤ 0 then false else true))) else false))) (tgt := 138) dX12_weeks_118 (by decide) (bI_R _) (fun c => ?_) (fun c => ?_)
          · refine r_iload_n (pc := 138) (x := v2) dX12_weeks_138 rfl ?_
            simp only [if_neg (bI_ft (bI_0.mp c))] at kk30 ⊢
            exact kk30
          · refine r_iload_n (pc := 121) (x := v2) dX12_weeks_121 rfl ?_
            refine r_bipush (pc := 122) (x := (-4)) dX12_weeks_122 (by decide) ?_
            refine r_icmp_eq (pc := 124) (x := v2) (y := (-4)) (tgt := 133) dX12_weeks_124 (by decide) hr24 (by decide) (fun c28 => ?_) (fun c28 => ?_)
            · refine r_iload (pc := 133) (x := (((((v1 + 1) - (h 92 (36 + v3))) + (h 92 (108 + v3))) - 1) / (h 92 (108 + v3)))) dX12_weeks_133 rfl ?_
              refine r_goto (pc := 135) (tgt := 139) dX12_weeks_135 (by decide) ?_
              simp only [if_pos (bI_n.mp c), if_pos (c28)] at kk30 ⊢
              exact kk30
            · refine r_iload (pc := 127) (x := (((((v1 + 1) - (h 92 (36 + v3))) + (h 92 (108 + v3))) - 1) / (h 92 (108 + v3)))) dX12_weeks_127 rfl ?_
              refine r_iload_n (pc := 129) (x := v2) dX12_weeks_129 rfl ?_
              refine r_icmp_ge (pc := 130) (x := (((((v1 + 1) - (h 92 (36 + v3))) + (h 92 (108 + v3))) - 1) / (h 92 (108 + v3)))) (y := v2) (tgt := 138) dX12_weeks_130 (by decide) hr27 hr24 (fun c29 => ?_) (fun c29 => ?_)
              · refine r_iload_n (pc := 138) (x := v2) dX12_weeks_138 rfl ?_
                simp only [if_pos (bI_n.mp c), if_neg (c28), if_pos (c29)] at kk30 ⊢
                exact kk30
              · refine r_iload (pc := 133) (x := (((((v1 + 1) - (h 92 (36 + v3))) + (h 92 (108 + v3))) - 1) / (h 92 (108 + v3)))) dX12_weeks_133 rfl ?_
                refine r_goto (pc := 135) (tgt := 139) dX12_weeks_135 (by decide) ?_
                simp only [if_pos (bI_n.mp c), if_neg (c28), if_neg (c29)] at kk30 ⊢
                exact kk30
        · have w := w.2 (c)
          refine r_iconst (pc := 100) dX12_weeks_100 ?_
          refine r_goto (pc := 101) (tgt := 114) dX12_weeks_101 (by decide) ?_
          refine r_istore (pc := 114) (L' := [some (.ref 81), some (.int (zI v1)), some (.int (zI v2)), some (.int (zI v3)), some (.int (zI ((v1 + 1) - (h 92 (36 + v3))))), some (.int (zI (h 92 (108 + v3)))), some (.int (zI (bI (if b7 = true then (if 60 ≤ v1 then false else (if ((v1 + 1) - (h 92 (36 + v3))) ≤ 0 then true else (if (h 92 (108 + v3)) ≤ 0 then false else true))) else false)))), some (.int (zI 0))]) dX12_weeks_114 (by decide) rfl ?_
          refine r_iload (pc := 116) (x := (bI (if b7 = true then (if 60 ≤ v1 then false else (if ((v1 + 1) - (h 92 (36 + v3))) ≤ 0 then true else (if (h 92 (108 + v3)) ≤ 0 then false else true))) else false))) dX12_weeks_116 rfl ?_
          obtain ⟨hr32, w⟩ := w
          have kk35 : RR mX12_weeks 0 0 139 [some (.ref 81), some (.int (zI v1)), some (.int (zI v2)), some (.int (zI v3)), some (.int (zI ((v1 + 1) - (h 92 (36 + v3))))), some (.int (zI (h 92 (108 + v3)))), some (.int (zI (bI (if b7 = true then (if 60 ≤ v1 then false else (if ((v1 + 1) - (h 92 (36 + v3))) ≤ 0 then true else (if (h 92 (108 + v3)) ≤ 0 then false else true))) else false)))), some (.int (zI 0))] [.int (zI (if (if b7 = true then (if 60 ≤ v1 then false else (if ((v1 + 1) - (h 92 (36 + v3))) ≤ 0 then true else (if (h 92 (108 + v3)) ≤ 0 then false else true))) else false) = true then (if v2 = (-4) then (0 : Int) else (if v2 ≤ 0 then v2 else (0 : Int))) else v2))] zS0 h7 (zQi zS0 K) := by
            refine r_istore_n (pc := 139) (L' := [some (.ref 81), some (.int (zI v1)), some (.int (zI (if (if b7 = true then (if 60 ≤ v1 then false else (if ((v1 + 1) - (h 92 (36 + v3))) ≤ 0 then true else (if (h 92 (108 + v3)) ≤ 0 then false else true))) else false) = true then (if v2 = (-4) then (0 : Int) else (if v2 ≤ 0 then v2 else (0 : Int))) else v2))), some (.int (zI v3)), some (.int (zI ((v1 + 1) - (h 92 (36 + v3))))), some (.int (zI (h 92 (108 + v3)))), some (.int (zI (bI (if b7 = true then (if 60 ≤ v1 then false else (if ((v1 + 1) - (h 92 (36 + v3))) ≤ 0 then true else (if (h 92 (108 + v3)) ≤ 0 then false else true))) else false)))), some (.int (zI 0))]) dX12_weeks_139 (by decide) rfl ?_
            refine r_iinc (pc := 140) (x := v3) (L' := [some (.ref 81), some (.int (zI v1)), some (.int (zI (if (if b7 = true then (if 60 ≤ v1 then false else (if ((v1 + 1) - (h 92 (36 + v3))) ≤ 0 then true else (if (h 92 (108 + v3)) ≤ 0 then false else true))) else false) = true then (if v2 = (-4) then (0 : Int) else (if v2 ≤ 0 then v2 else (0 : Int))) else v2))), some (.int (zI (v3 + 1))), some (.int (zI ((v1 + 1) - (h 92 (36 + v3))))), some (.int (zI (h 92 (108 + v3)))), some (.int (zI (bI (if b7 = true then (if 60 ≤ v1 then false else (if ((v1 + 1) - (h 92 (36 + v3))) ≤ 0 then true else (if (h 92 (108 + v3)) ≤ 0 then false else true))) else false)))), some (.int (zI 0))]) dX12_weeks_140 rfl (by decide) rfl ?_
            refine r_goto (pc := 143) (tgt := 23) dX12_weeks_143 (by decide) ?_
            exact RR.sub (L' := [some (.ref 81), some (.int (zI v1)), some (.int (zI (if (if b7 = true then (if 60 ≤ v1 then false else (if ((v1 + 1) - (h 92 (36 + v3))) ≤ 0 then true else (if (h 92 (108 + v3)) ≤ 0 then false else true))) else false) = true then (if v2 = (-4) then (0 : Int) else (if v2 ≤ 0 then v2 else (0 : Int))) else v2))), some (.int (zI (v3 + 1))), none, none, none, none]) (zSb_of (⟨rfl, ⟨rfl, ⟨rfl, ⟨rfl, trivial⟩⟩⟩⟩)) w
          refine r_if_eq (pc := 118) (x := (bI (if b7 = true then (if 60 ≤ v1 then false else (if ((v1 + 1) - (h 92 (36 + v3))) ≤ 0 then true else (if (h 92 (108 + v3)) ≤ 0 then false else true))) else false))) (tgt := 138) dX12_weeks_118 (by decide) (bI_R _) (fun c => ?_) (fun c => ?_)
          · refine r_iload_n (pc := 138) (x := v2) dX12_weeks_138 rfl ?_
            simp only [if_neg (bI_ft (bI_0.mp c))] at kk35 ⊢
            exact kk35
          · refine r_iload_n (pc := 121) (x := v2) dX12_weeks_121 rfl ?_
            refine r_bipush (pc := 122) (x := (-4)) dX12_weeks_122 (by decide) ?_
            refine r_icmp_eq (pc := 124) (x := v2) (y := (-4)) (tgt := 133) dX12_weeks_124 (by decide) hr32 (by decide) (fun c33 => ?_) (fun c33 => ?_)
            · refine r_iload (pc := 133) (x := 0) dX12_weeks_133 rfl ?_
              refine r_goto (pc := 135) (tgt := 139) dX12_weeks_135 (by decide) ?_
              simp only [if_pos (bI_n.mp c), if_pos (c33)] at kk35 ⊢
              exact kk35
            · refine r_iload (pc := 127) (x := 0) dX12_weeks_127 rfl ?_
              refine r_iload_n (pc := 129) (x := v2) dX12_weeks_129 rfl ?_
              refine r_icmp_ge (pc := 130) (x := 0) (y := v2) (tgt := 138) dX12_weeks_130 (by decide) (by decide) hr32 (fun c34 => ?_) (fun c34 => ?_)
              · refine r_iload_n (pc := 138) (x := v2) dX12_weeks_138 rfl ?_
                simp only [if_pos (bI_n.mp c), if_neg (c33), if_pos (c34)] at kk35 ⊢
                exact kk35
              · refine r_iload (pc := 133) (x := 0) dX12_weeks_133 rfl ?_
                refine r_goto (pc := 135) (tgt := 139) dX12_weeks_135 (by decide) ?_
                simp only [if_pos (bI_n.mp c), if_neg (c33), if_neg (c34)] at kk35 ⊢
                exact kk35
      · have w := w.2 (bI_0.mp c)
        refine r_iconst (pc := 91) dX12_weeks_91 ?_
        refine r_goto (pc := 92) (tgt := 114) dX12_weeks_92 (by decide) ?_
        refine r_istore (pc := 114) (L' := [some (.ref 81), some (.int (zI v1)), some (.int (zI v2)), some (.int (zI v3)), some (.int (zI ((v1 + 1) - (h 92 (36 + v3))))), some (.int (zI (h 92 (108 + v3)))), some (.int (zI (bI (if b7 = true then (if 60 ≤ v1 then false else (if ((v1 + 1) - (h 92 (36 + v3))) ≤ 0 then true else (if (h 92 (108 + v3)) ≤ 0 then false else true))) else false)))), some (.int (zI 0))]) dX12_weeks_114 (by decide) rfl ?_
        refine r_iload (pc := 116) (x := (bI (if b7 = true then (if 60 ≤ v1 then false else (if ((v1 + 1) - (h 92 (36 + v3))) ≤ 0 then true else (if (h 92 (108 + v3)) ≤ 0 then false else true))) else false))) dX12_weeks_116 rfl ?_
        obtain ⟨hr37, w⟩ := w
        have kk40 : RR mX12_weeks 0 0 139 [some (.ref 81), some (.int (zI v1)), some (.int (zI v2)), some (.int (zI v3)), some (.int (zI ((v1 + 1) - (h 92 (36 + v3))))), some (.int (zI (h 92 (108 + v3)))), some (.int (zI (bI (if b7 = true then (if 60 ≤ v1 then false else (if ((v1 + 1) - (h 92 (36 + v3))) ≤ 0 then true else (if (h 92 (108 + v3)) ≤ 0 then false else true))) else false)))), some (.int (zI 0))] [.int (zI (if (if b7 = true then (if 60 ≤ v1 then false else (if ((v1 + 1) - (h 92 (36 + v3))) ≤ 0 then true else (if (h 92 (108 + v3)) ≤ 0 then false else true))) else false) = true then (if v2 = (-4) then (0 : Int) else (if v2 ≤ 0 then v2 else (0 : Int))) else v2))] zS0 h7 (zQi zS0 K) := by
          refine r_istore_n (pc := 139) (L' := [some (.ref 81), some (.int (zI v1)), some (.int (zI (if (if b7 = true then (if 60 ≤ v1 then false else (if ((v1 + 1) - (h 92 (36 + v3))) ≤ 0 then true else (if (h 92 (108 + v3)) ≤ 0 then false else true))) else false) = true then (if v2 = (-4) then (0 : Int) else (if v2 ≤ 0 then v2 else (0 : Int))) else v2))), some (.int (zI v3)), some (.int (zI ((v1 + 1) - (h 92 (36 + v3))))), some (.int (zI (h 92 (108 + v3)))), some (.int (zI (bI (if b7 = true then (if 60 ≤ v1 then false else (if ((v1 + 1) - (h 92 (36 + v3))) ≤ 0 then true else (if (h 92 (108 + v3)) ≤ 0 then false else true))) else false)))), some (.int (zI 0))]) dX12_weeks_139 (by decide) rfl ?_
          refine r_iinc (pc := 140) (x := v3) (L' := [some (.ref 81), some (.int (zI v1)), some (.int (zI (if (if b7 = true then (if 60 ≤ v1 then false else (if ((v1 + 1) - (h 92 (36 + v3))) ≤ 0 then true else (if (h 92 (108 + v3)) ≤ 0 then false else true))) else false) = true then (if v2 = (-4) then (0 : Int) else (if v2 ≤ 0 then v2 else (0 : Int))) else v2))), some (.int (zI (v3 + 1))), some (.int (zI ((v1 + 1) - (h 92 (36 + v3))))), some (.int (zI (h 92 (108 + v3)))), some (.int (zI (bI (if b7 = true then (if 60 ≤ v1 then false else (if ((v1 + 1) - (h 92 (36 + v3))) ≤ 0 then true else (if (h 92 (108 + v3)) ≤ 0 then false else true))) else false)))), some (.int (zI 0))]) dX12_weeks_140 rfl (by decide) rfl ?_
          refine r_goto (pc := 143) (tgt := 23) dX12_weeks_143 (by decide) ?_
          exact RR.sub (L' := [some (.ref 81), some (.int (zI v1)), some (.int (zI (if (if b7 = true then (if 60 ≤ v1 then false else (if ((v1 + 1) - (h 92 (36 + v3))) ≤ 0 then true else (if (h 92 (108 + v3)) ≤ 0 then false else true))) else false) = true then (if v2 = (-4) then (0 : Int) else (if v2 ≤ 0 then v2 else (0 : Int))) else v2))), some (.int (zI (v3 + 1))), none, none, none, none]) (zSb_of (⟨rfl, ⟨rfl, ⟨rfl, ⟨rfl, trivial⟩⟩⟩⟩)) w
        refine r_if_eq (pc := 118) (x := (bI (if b7 = true then (if 60 ≤ v1 then false else (if ((v1 + 1) - (h 92 (36 + v3))) ≤ 0 then true else (if (h 92 (108 + v3)) ≤ 0 then false else true))) else false))) (tgt := 138) dX12_weeks_118 (by decide) (bI_R _) (fun c => ?_) (fun c => ?_)
        · refine r_iload_n (pc := 138) (x := v2) dX12_weeks_138 rfl ?_
          simp only [if_neg (bI_ft (bI_0.mp c))] at kk40 ⊢
          exact kk40
        · refine r_iload_n (pc := 121) (x := v2) dX12_weeks_121 rfl ?_
          refine r_bipush (pc := 122) (x := (-4)) dX12_weeks_122 (by decide) ?_
          refine r_icmp_eq (pc := 124) (x := v2) (y := (-4)) (tgt := 133) dX12_weeks_124 (by decide) hr37 (by decide) (fun c38 => ?_) (fun c38 => ?_)
          · refine r_iload (pc := 133) (x := 0) dX12_weeks_133 rfl ?_
            refine r_goto (pc := 135) (tgt := 139) dX12_weeks_135 (by decide) ?_
            simp only [if_pos (bI_n.mp c), if_pos (c38)] at kk40 ⊢
            exact kk40
          · refine r_iload (pc := 127) (x := 0) dX12_weeks_127 rfl ?_
            refine r_iload_n (pc := 129) (x := v2) dX12_weeks_129 rfl ?_
            refine r_icmp_ge (pc := 130) (x := 0) (y := v2) (tgt := 138) dX12_weeks_130 (by decide) (by decide) hr37 (fun c39 => ?_) (fun c39 => ?_)
            · refine r_iload_n (pc := 138) (x := v2) dX12_weeks_138 rfl ?_
              simp only [if_pos (bI_n.mp c), if_neg (c38), if_pos (c39)] at kk40 ⊢
              exact kk40
            · refine r_iload (pc := 133) (x := 0) dX12_weeks_133 rfl ?_
              refine r_goto (pc := 135) (tgt := 139) dX12_weeks_135 (by decide) ?_
              simp only [if_pos (bI_n.mp c), if_neg (c38), if_neg (c39)] at kk40 ⊢
              exact kk40
    refine r_if_eq (pc := 60) (x := (bI b7)) (tgt := 83) dX12_weeks_60 (by decide) (bI_R _) (fun c => ?_) (fun c => ?_)
    · refine r_iconst (pc := 83) dX12_weeks_83 ?_
      simp only [if_neg (bI_ft (bI_0.mp c))] at kk41 ⊢
      exact kk41
    · refine r_iload_n (pc := 63) (x := v1) dX12_weeks_63 rfl ?_
      refine r_bipush (pc := 64) (x := 60) dX12_weeks_64 (by decide) ?_
      refine r_icmp_ge (pc := 66) (x := v1) (y := 60) (tgt := 83) dX12_weeks_66 (by decide) hr9 (by decide) (fun c17 => ?_) (fun c17 => ?_)
      · refine r_iconst (pc := 83) dX12_weeks_83 ?_
        simp only [if_pos (bI_n.mp c), if_pos (c17)] at kk41 ⊢
        exact kk41
      · refine r_iload (pc := 69) (x := ((v1 + 1) - (h 92 (36 + v3)))) dX12_weeks_69 rfl ?_
        refine r_if_le (pc := 71) (x := ((v1 + 1) - (h 92 (36 + v3)))) (tgt := 79) dX12_weeks_71 (by decide) hr12 (fun c18 => ?_) (fun c18 => ?_)
        · refine r_iconst (pc := 79) dX12_weeks_79 ?_
          refine r_goto (pc := 80) (tgt := 84) dX12_weeks_80 (by decide) ?_
          simp only [if_pos (bI_n.mp c), if_neg (c17), if_pos (c18)] at kk41 ⊢
          exact kk41
        · refine r_iload (pc := 74) (x := (h 92 (108 + v3))) dX12_weeks_74 rfl ?_
          refine r_if_le (pc := 76) (x := (h 92 (108 + v3))) (tgt := 83) dX12_weeks_76 (by decide) hr16 (fun c19 => ?_) (fun c19 => ?_)
          · refine r_iconst (pc := 83) dX12_weeks_83 ?_
            simp only [if_pos (bI_n.mp c), if_neg (c17), if_neg (c18), if_pos (c19)] at kk41 ⊢
            exact kk41
          · refine r_iconst (pc := 79) dX12_weeks_79 ?_
            refine r_goto (pc := 80) (tgt := 84) dX12_weeks_80 (by decide) ?_
            simp only [if_pos (bI_n.mp c), if_neg (c17), if_neg (c18), if_neg (c19)] at kk41 ⊢
            exact kk41

set_option maxRecDepth 100000 in
set_option maxHeartbeats 4000000 in
theorem wX12_stripes {h : zMm} {K : Int → zMm → Prop} {v1 : Int} (w : zCv mX12_awake [.ref 81] zS0 h (fun h1 => (zR v1 ∧ zCb mX12_in [.long (zJ v1), .long (zJ 0), .long (zJ 2)] zS0 h1 (fun b3 h3 => ((b3 = true → RR mX12_stripes 0 0 22 [some (.ref 81), some (.int (zI v1)), some (.int (zI 0)), some (.int (zI 0)), none, none, none] [] zS0 h3 (zQi zS0 K)) ∧ (b3 = false → K (-1) h3)))))) : zCi mX12_stripes [.ref 81, .int (zI v1)] zS0 h K := by
  show RR mX12_stripes 0 0 0 [some (.ref 81), some (.int (zI v1)), none, none, none, none, none] [] zS0 h (zQi zS0 K)
  refine r_aload_n (pc := 0) (a := 81) dX12_stripes_0 rfl ?_
  refine r_callV (μ2 := mX12_awake) (pc := 1) (as := []) (st := []) rfl s0_81 ml_X12_175 im_X12_awake se_X12_awake okX12_awake ⟨by decide, by decide⟩ dX12_stripes_1 (Nat.le_of_ble_eq_true rfl) rfl (Nat.le_of_ble_eq_true rfl) (by decide) (by decide) (zCC.mono w ?_)
  rintro r S' h1 ⟨rfl, hr, w⟩
  subst hr
  show RR mX12_stripes 0 0 4 [some (.ref 81), some (.int (zI v1)), none, none, none, none, none] [] zS0 h1 (zQi zS0 K)
  refine r_iload_n (pc := 4) (x := v1) dX12_stripes_4 rfl ?_
  obtain ⟨hr2, w⟩ := w
  refine r_i2l (pc := 5) (x := v1) dX12_stripes_5 hr2 ?_
  refine r_lconst (pc := 6) (x := 0) dX12_stripes_6 rfl ?_
  refine r_ldcL (pc := 7) (x := 2) dX12_stripes_7 kl_X12_268 ?_
  refine r_callS (μ2 := mX12_in) (pc := 10) (as := [.long (zJ v1), .long (zJ 0), .long (zJ 2)]) (st := []) ml_X12_94 sm_X12_in okX12_in ⟨by decide, by decide⟩ dX12_stripes_10 (Nat.le_of_ble_eq_true rfl) rfl (Nat.le_of_ble_eq_true rfl) (by decide) (by decide) (zCC.mono w ?_)
  rintro r S' h3 ⟨rfl, b3, hr, w⟩
  subst hr
  show RR mX12_stripes 0 0 13 [some (.ref 81), some (.int (zI v1)), none, none, none, none, none] [.int (zI (bI b3))] zS0 h3 (zQi zS0 K)
  refine r_if_ne (pc := 13) (x := (bI b3)) (tgt := 18) dX12_stripes_13 (by decide) (bI_R _) (fun c => ?_) (fun c => ?_)
  · have w := w.1 (bI_n.mp c)
    refine r_iconst (pc := 18) dX12_stripes_18 ?_
    refine r_istore_n (pc := 19) (L' := [some (.ref 81), some (.int (zI v1)), some (.int (zI 0)), none, none, none, none]) dX12_stripes_19 (by decide) rfl ?_
    refine r_iconst (pc := 20) dX12_stripes_20 ?_
    refine r_istore_n (pc := 21) (L' := [some (.ref 81), some (.int (zI v1)), some (.int (zI 0)), some (.int (zI 0)), none, none, none]) dX12_stripes_21 (by decide) rfl ?_
    exact w
  · have w := w.2 (bI_0.mp c)
    refine r_iconst (pc := 16) dX12_stripes_16 ?_
    exact r_iret (st := []) (pc := 17) (x := (-1)) (ty := .int) dX12_stripes_17 rfl rfl rfl (by decide) ⟨rfl, _, rfl, w⟩

set_option maxRecDepth 100000 in
set_option maxHeartbeats 4000000 in
theorem bX12_stripes_22 {h : zMm} {K : Int → zMm → Prop} {v1 : Int} {v2 : Int} {v3 : Int} (w : (zR v3 ∧ ((36 ≤ v3 → K v2 h) ∧ (¬ 36 ≤ v3 → ((0 ≤ v3 ∧ v3 < 2147483648) ∧ ((0 ≤ (72 + v3) ∧ (72 + v3) < 600) ∧ (zR (h 92 (72 + v3)) ∧ (zR (if (v3 % 2) = 0 then (1 : Int) else (3 : Int)) ∧ zCb mX12_isGrass [.ref 81, .int (zI v3)] zS0 h (fun b11 h11 => (zR (if (h 92 (72 + v3)) = 0 then (2 : Int) else (if (h 92 (72 + v3)) = (if (v3 % 2) = 0 then (1 : Int) else (3 : Int)) then (0 : Int) else (1 : Int))) ∧ (zR v1 ∧ RR mX12_stripes 0 0 22 [some (.ref 81), some (.int (zI v1)), some (.int (zI (v2 + (bI (if b11 = true then (if (if (h 92 (72 + v3)) = 0 then (2 : Int) else (if (h 92 (72 + v3)) = (if (v3 % 2) = 0 then (1 : Int) else (3 : Int)) then (0 : Int) else (1 : Int))) = v1 then true else false) else false))))), some (.int (zI (v3 + 1))), none, none, none] [] zS0 h11 (zQi zS0 K)))))))))))) : RR mX12_stripes 0 0 22 [some (.ref 81), some (.int (zI v1)), some (.int (zI v2)), some (.int (zI v3)), none, none, none] [] zS0 h (zQi zS0 K) := by
  refine r_iload_n (pc := 22) (x := v3) dX12_stripes_22 rfl ?_
  refine r_bipush (pc := 23) (x := 36) dX12_stripes_23 (by decide) ?_
  obtain ⟨hr4, w⟩ := w
  refine r_icmp_ge (pc := 25) (x := v3) (y := 36) (tgt := 103) dX12_stripes_25 (by decide) hr4 (by decide) (fun c => ?_) (fun c => ?_)
  · have w := w.1 (c)
    refine r_iload_n (pc := 103) (x := v2) dX12_stripes_103 rfl ?_
    exact r_iret (st := []) (pc := 104) (x := v2) (ty := .int) dX12_stripes_104 rfl rfl rfl (by decide) ⟨rfl, _, rfl, w⟩
  · have w := w.2 (c)
    refine r_iload_n (pc := 28) (x := v3) dX12_stripes_28 rfl ?_
    refine r_iconst (pc := 29) dX12_stripes_29 ?_
    obtain ⟨hx5, w⟩ := w
    refine r_irem (pc := 30) (x := v3) (y := 2) dX12_stripes_30 hx5 (by decide) ?_
    have kk19 : RR mX12_stripes 0 0 39 [some (.ref 81), some (.int (zI v1)), some (.int (zI v2)), some (.int (zI v3)), none, none, none] [.int (zI (if (v3 % 2) = 0 then (1 : Int) else (3 : Int)))] zS0 h (zQi zS0 K) := by
      refine r_istore (pc := 39) (L' := [some (.ref 81), some (.int (zI v1)), some (.int (zI v2)), some (.int (zI v3)), some (.int (zI (if (v3 % 2) = 0 then (1 : Int) else (3 : Int)))), none, none]) dX12_stripes_39 (by decide) rfl ?_
      refine r_aload_n (pc := 41) (a := 81) dX12_stripes_41 rfl ?_
      refine r_getR (pc := 42) (b := 92) fl_X12_40 dX12_stripes_42 s0_81 rfl ?_
      refine r_bipush (pc := 45) (x := 72) dX12_stripes_45 (by decide) ?_
      refine r_iload_n (pc := 47) (x := v3) dX12_stripes_47 rfl ?_
      refine r_iadd (pc := 48) (x := 72) (y := v3) dX12_stripes_48 ?_
      obtain ⟨hb6, w⟩ := w
      refine r_iald (pc := 49) (i := (72 + v3)) (x := (h 92 (72 + v3))) dX12_stripes_49 s0_92 ⟨hb6.1, hb6.2, (by decide)⟩ (rfl) ?_
      refine r_istore (pc := 50) (L' := [some (.ref 81), some (.int (zI v1)), some (.int (zI v2)), some (.int (zI v3)), some (.int (zI (if (v3 % 2) = 0 then (1 : Int) else (3 : Int)))), some (.int (zI (h 92 (72 + v3)))), none]) dX12_stripes_50 (by decide) rfl ?_
      refine r_iload (pc := 52) (x := (h 92 (72 + v3))) dX12_stripes_52 rfl ?_
      obtain ⟨hr7, w⟩ := w
      obtain ⟨hr9, w⟩ := w
      have kk18 : RR mX12_stripes 0 0 73 [some (.ref 81), some (.int (zI v1)), some (.int (zI v2)), some (.int (zI v3)), some (.int (zI (if (v3 % 2) = 0 then (1 : Int) else (3 : Int)))), some (.int (zI (h 92 (72 + v3)))), none] [.int (zI (if (h 92 (72 + v3)) = 0 then (2 : Int) else (if (h 92 (72 + v3)) = (if (v3 % 2) = 0 then (1 : Int) else (3 : Int)) then (0 : Int) else (1 : Int))))] zS0 h (zQi zS0 K) := by
        refine r_istore (pc := 73) (L' := [some (.ref 81), some (.int (zI v1)), some (.int (zI v2)), some (.int (zI v3)), some (.int (zI (if (v3 % 2) = 0 then (1 : Int) else (3 : Int)))), some (.int (zI (h 92 (72 + v3)))), some (.int (zI (if (h 92 (72 + v3)) = 0 then (2 : Int) else (if (h 92 (72 + v3)) = (if (v3 % 2) = 0 then (1 : Int) else (3 : Int)) then (0 : Int) else (1 : Int)))))]) dX12_stripes_73 (by decide) rfl ?_
        refine r_iload_n (pc := 75) (x := v2) dX12_stripes_75 rfl ?_
        refine r_aload_n (pc := 76) (a := 81) dX12_stripes_76 rfl ?_
        refine r_iload_n (pc := 77) (x := v3) dX12_stripes_77 rfl ?_
        refine r_callV (μ2 := mX12_isGrass) (pc := 78) (as := [.int (zI v3)]) (st := [.int (zI v2)]) rfl s0_81 ml_X12_196 im_X12_isGrass se_X12_isGrass okX12_isGrass ⟨by decide, by decide⟩ dX12_stripes_78 (Nat.le_of_ble_eq_true rfl) rfl (Nat.le_of_ble_eq_true rfl) (by decide) (by decide) (zCC.mono w ?_)
        rintro r S' h11 ⟨rfl, b11, hr, w⟩
        subst hr
        show RR mX12_stripes 0 0 81 [some (.ref 81), some (.int (zI v1)), some (.int (zI v2)), some (.int (zI v3)), some (.int (zI (if (v3 % 2) = 0 then (1 : Int) else (3 : Int)))), some (.int (zI (h 92 (72 + v3)))), some (.int (zI (if (h 92 (72 + v3)) = 0 then (2 : Int) else (if (h 92 (72 + v3)) = (if (v3 % 2) = 0 then (1 : Int) else (3 : Int)) then (0 : Int) else (1 : Int)))))] [.int (zI (bI b11)), .int (zI v2)] zS0 h11 (zQi zS0 K)
        obtain ⟨hr13, w⟩ := w
        obtain ⟨hr15, w⟩ := w
        have kk17 : RR mX12_stripes 0 0 95 [some (.ref 81), some (.int (zI v1)), some (.int (zI v2)), some (.int (zI v3)), some (.int (zI (if (v3 % 2) = 0 then (1 : Int) else (3 : Int)))), some (.int (zI (h 92 (72 + v3)))), some (.int (zI (if (h 92 (72 + v3)) = 0 then (2 : Int) else (if (h 92 (72 + v3)) = (if (v3 % 2) = 0 then (1 : Int) else (3 : Int)) then (0 : Int) else (1 : Int)))))] [.int (zI (bI (if b11 = true then (if (if (h 92 (72 + v3)) = 0 then (2 : Int) else (if (h 92 (72 + v3)) = (if (v3 % 2) = 0 then (1 : Int) else (3 : Int)) then (0 : Int) else (1 : Int))) = v1 then true else false) else false))), .int (zI v2)] zS0 h11 (zQi zS0 K) := by
          refine r_iadd (pc := 95) (x := v2) (y := (bI (if b11 = true then (if (if (h 92 (72 + v3)) = 0 then (2 : Int) else (if (h 92 (72 + v3)) = (if (v3 % 2) = 0 then (1 : Int) else (3 : Int)) then (0 : Int) else (1 : Int))) = v1 then true else false) else false))) dX12_stripes_95 ?_
          refine r_istore_n (pc := 96) (L' := [some (.ref 81), some (.int (zI v1)), some (.int (zI (v2 + (bI (if b11 = true then (if (if (h 92 (72 + v3)) = 0 then (2 : Int) else (if (h 92 (72 + v3)) = (if (v3 % 2) = 0 then (1 : Int) else (3 : Int)) then (0 : Int) else (1 : Int))) = v1 then true else false) else false))))), some (.int (zI v3)), some (.int (zI (if (v3 % 2) = 0 then (1 : Int) else (3 : Int)))), some (.int (zI (h 92 (72 + v3)))), some (.int (zI (if (h 92 (72 + v3)) = 0 then (2 : Int) else (if (h 92 (72 + v3)) = (if (v3 % 2) = 0 then (1 : Int) else (3 : Int)) then (0 : Int) else (1 : Int)))))]) dX12_stripes_96 (by decide) rfl ?_
          refine r_iinc (pc := 97) (x := v3) (L' := [some (.ref 81), some (.int (zI v1)), some (.int (zI (v2 + (bI (if b11 = true then (if (if (h 92 (72 + v3)) = 0 then (2 : Int) else (if (h 92 (72 + v3)) = (if (v3 % 2) = 0 then (1 : Int) else (3 : Int)) then (0 : Int) else (1 : Int))) = v1 then true else false) else false))))), some (.int (zI (v3 + 1))), some (.int (zI (if (v3 % 2) = 0 then (1 : Int) else (3 : Int)))), some (.int (zI (h 92 (72 + v3)))), some (.int (zI (if (h 92 (72 + v3)) = 0 then (2 : Int) else (if (h 92 (72 + v3)) = (if (v3 % 2) = 0 then (1 : Int) else (3 : Int)) then (0 : Int) else (1 : Int)))))]) dX12_stripes_97 rfl (by decide) rfl ?_
          refine r_goto (pc := 100) (tgt := 22) dX12_stripes_100 (by decide) ?_
          exact RR.sub (L' := [some (.ref 81), some (.int (zI v1)), some (.int (zI (v2 + (bI (if b11 = true then (if (if (h 92 (72 + v3)) = 0 then (2 : Int) else (if (h 92 (72 + v3)) = (if (v3 % 2) = 0 then (1 : Int) else (3 : Int)) then (0 : Int) else (1 : Int))) = v1 then true else false) else false))))), some (.int (zI (v3 + 1))), none, none, none]) (zSb_of (⟨rfl, ⟨rfl, ⟨rfl, ⟨rfl, trivial⟩⟩⟩⟩)) w
        refine r_if_eq (pc := 81) (x := (bI b11)) (tgt := 94) dX12_stripes_81 (by decide) (bI_R _) (fun c => ?_) (fun c => ?_)
        · refine r_iconst (pc := 94) dX12_stripes_94 ?_
          simp only [if_neg (bI_ft (bI_0.mp c))] at kk17 ⊢
          exact kk17
        · refine r_iload (pc := 84) (x := (if (h 92 (72 + v3)) = 0 then (2 : Int) else (if (h 92 (72 + v3)) = (if (v3 % 2) = 0 then (1 : Int) else (3 : Int)) then (0 : Int) else (1 : Int)))) dX12_stripes_84 rfl ?_
          refine r_iload_n (pc := 86) (x := v1) dX12_stripes_86 rfl ?_
          refine r_icmp_ne (pc := 87) (x := (if (h 92 (72 + v3)) = 0 then (2 : Int) else (if (h 92 (72 + v3)) = (if (v3 % 2) = 0 then (1 : Int) else (3 : Int)) then (0 : Int) else (1 : Int)))) (y := v1) (tgt := 94) dX12_stripes_87 (by decide) hr13 hr15 (fun c16 => ?_) (fun c16 => ?_)
          · refine r_iconst (pc := 94) dX12_stripes_94 ?_
            simp only [if_pos (bI_n.mp c), if_neg (c16)] at kk17 ⊢
            exact kk17
          · refine r_iconst (pc := 90) dX12_stripes_90 ?_
            refine r_goto (pc := 91) (tgt := 95) dX12_stripes_91 (by decide) ?_
            simp only [if_pos (bI_n.mp c), if_pos (c16)] at kk17 ⊢
            exact kk17
      refine r_if_ne (pc := 54) (x := (h 92 (72 + v3))) (tgt := 61) dX12_stripes_54 (by decide) hr7 (fun c => ?_) (fun c => ?_)
      · refine r_iload (pc := 61) (x := (h 92 (72 + v3))) dX12_stripes_61 rfl ?_
        refine r_iload (pc := 63) (x := (if (v3 % 2) = 0 then (1 : Int) else (3 : Int))) dX12_stripes_63 rfl ?_
        refine r_icmp_ne (pc := 65) (x := (h 92 (72 + v3))) (y := (if (v3 % 2) = 0 then (1 : Int) else (3 : Int))) (tgt := 72) dX12_stripes_65 (by decide) hr7 hr9 (fun c10 => ?_) (fun c10 => ?_)
        · refine r_iconst (pc := 72) dX12_stripes_72 ?_
          simp only [if_neg (c), if_neg (c10)] at kk18 ⊢
          exact kk18
        · refine r_iconst (pc := 68) dX12_stripes_68 ?_
          refine r_goto (pc := 69) (tgt := 73) dX12_stripes_69 (by decide) ?_
          simp only [if_neg (c), if_pos (c10)] at kk18 ⊢
          exact kk18
      · refine r_iconst (pc := 57) dX12_stripes_57 ?_
        refine r_goto (pc := 58) (tgt := 73) dX12_stripes_58 (by decide) ?_
        simp only [if_pos (c)] at kk18 ⊢
        exact kk18
    refine r_if_ne (pc := 31) (x := (v3 % 2)) (tgt := 38) dX12_stripes_31 (by decide) ⟨by omega, by omega⟩ (fun c => ?_) (fun c => ?_)
    · refine r_iconst (pc := 38) dX12_stripes_38 ?_
      simp only [if_neg (c)] at kk19 ⊢
      exact kk19
    · refine r_iconst (pc := 34) dX12_stripes_34 ?_
      refine r_goto (pc := 35) (tgt := 39) dX12_stripes_35 (by decide) ?_
      simp only [if_pos (c)] at kk19 ⊢
      exact kk19

set_option maxRecDepth 100000 in
set_option maxHeartbeats 4000000 in
theorem wX12_keep {h : zMm} {K : Int → zMm → Prop} {v1 : Int} (w : zCv mX12_awake [.ref 81] zS0 h (fun h1 => (zR v1 ∧ zCb mX12_in [.long (zJ v1), .long (zJ 0), .long (zJ 1)] zS0 h1 (fun b3 h3 => ((b3 = true → RR mX12_keep 0 0 18 [some (.ref 81), some (.int (zI v1)), some (.int (zI 0))] [] zS0 h3 (zQi zS0 K)) ∧ (b3 = false → K (-1) h3)))))) : zCi mX12_keep [.ref 81, .int (zI v1)] zS0 h K := by
  show RR mX12_keep 0 0 0 [some (.ref 81), some (.int (zI v1)), none] [] zS0 h (zQi zS0 K)
  refine r_aload_n (pc := 0) (a := 81) dX12_keep_0 rfl ?_
  refine r_callV (μ2 := mX12_awake) (pc := 1) (as := []) (st := []) rfl s0_81 ml_X12_175 im_X12_awake se_X12_awake okX12_awake ⟨by decide, by decide⟩ dX12_keep_1 (Nat.le_of_ble_eq_true rfl) rfl (Nat.le_of_ble_eq_true rfl) (by decide) (by decide) (zCC.mono w ?_)
  rintro r S' h1 ⟨rfl, hr, w⟩
  subst hr
  show RR mX12_keep 0 0 4 [some (.ref 81), some (.int (zI v1)), none] [] zS0 h1 (zQi zS0 K)
  refine r_iload_n (pc := 4) (x := v1) dX12_keep_4 rfl ?_
  obtain ⟨hr2, w⟩ := w
  refine r_i2l (pc := 5) (x := v1) dX12_keep_5 hr2 ?_
  refine r_lconst (pc := 6) (x := 0) dX12_keep_6 rfl ?_
  refine r_lconst (pc := 7) (x := 1) dX12_keep_7 rfl ?_
  refine r_callS (μ2 := mX12_in) (pc := 8) (as := [.long (zJ v1), .long (zJ 0), .long (zJ 1)]) (st := []) ml_X12_94 sm_X12_in okX12_in ⟨by decide, by decide⟩ dX12_keep_8 (Nat.le_of_ble_eq_true rfl) rfl (Nat.le_of_ble_eq_true rfl) (by decide) (by decide) (zCC.mono w ?_)
  rintro r S' h3 ⟨rfl, b3, hr, w⟩
  subst hr
  show RR mX12_keep 0 0 11 [some (.ref 81), some (.int (zI v1)), none] [.int (zI (bI b3))] zS0 h3 (zQi zS0 K)
  refine r_if_ne (pc := 11) (x := (bI b3)) (tgt := 16) dX12_keep_11 (by decide) (bI_R _) (fun c => ?_) (fun c => ?_)
  · have w := w.1 (bI_n.mp c)
    refine r_iconst (pc := 16) dX12_keep_16 ?_
    refine r_istore_n (pc := 17) (L' := [some (.ref 81), some (.int (zI v1)), some (.int (zI 0))]) dX12_keep_17 (by decide) rfl ?_
    exact w
  · have w := w.2 (bI_0.mp c)
    refine r_iconst (pc := 14) dX12_keep_14 ?_
    exact r_iret (st := []) (pc := 15) (x := (-1)) (ty := .int) dX12_keep_15 rfl rfl rfl (by decide) ⟨rfl, _, rfl, w⟩

set_option maxRecDepth 100000 in
set_option maxHeartbeats 4000000 in
theorem bX12_keep_18 {h : zMm} {K : Int → zMm → Prop} {v1 : Int} {v2 : Int} (w : (zR v2 ∧ ((200 ≤ v2 → ((0 ≤ v1 ∧ v1 < 2) ∧ (zR (h 104 v1) ∧ K (bI (if (h 104 v1) = 0 then false else true)) (zU h 104 v1 1)))) ∧ (¬ 200 ≤ v2 → ((0 ≤ v2 ∧ v2 < 600) ∧ ((0 ≤ ((200 * (v1 + 1)) + v2) ∧ ((200 * (v1 + 1)) + v2) < 600) ∧ RR mX12_keep 0 0 18 [some (.ref 81), some (.int (zI v1)), some (.int (zI (v2 + 1)))] [] zS0 (zU h 92 ((200 * (v1 + 1)) + v2) (h 92 v2)) (zQi zS0 K))))))) : RR mX12_keep 0 0 18 [some (.ref 81), some (.int (zI v1)), some (.int (zI v2))] [] zS0 h (zQi zS0 K) := by
  refine r_iload_n (pc := 18) (x := v2) dX12_keep_18 rfl ?_
  refine r_sipush (pc := 19) (x := 200) dX12_keep_19 (by decide) ?_
  obtain ⟨hr4, w⟩ := w
  refine r_icmp_ge (pc := 22) (x := v2) (y := 200) (tgt := 51) dX12_keep_22 (by decide) hr4 (by decide) (fun c => ?_) (fun c => ?_)
  · have w := w.1 (c)
    refine r_aload_n (pc := 51) (a := 81) dX12_keep_51 rfl ?_
    refine r_getR (pc := 52) (b := 104) fl_X12_77 dX12_keep_52 s0_81 rfl ?_
    refine r_iload_n (pc := 55) (x := v1) dX12_keep_55 rfl ?_
    obtain ⟨hb5, w⟩ := w
    refine r_zald (pc := 56) (i := v1) (x := (h 104 v1)) dX12_keep_56 s0_104 ⟨hb5.1, hb5.2, (by decide)⟩ (rfl) ?_
    obtain ⟨hr6, w⟩ := w
    have kk7 : RR mX12_keep 0 0 65 [some (.ref 81), some (.int (zI v1)), some (.int (zI v2))] [.int (zI (bI (if (h 104 v1) = 0 then false else true)))] zS0 h (zQi zS0 K) := by
      refine r_istore_n (pc := 65) (L' := [some (.ref 81), some (.int (zI v1)), some (.int (zI (bI (if (h 104 v1) = 0 then false else true))))]) dX12_keep_65 (by decide) rfl ?_
      refine r_aload_n (pc := 66) (a := 81) dX12_keep_66 rfl ?_
      refine r_getR (pc := 67) (b := 104) fl_X12_77 dX12_keep_67 s0_81 rfl ?_
      refine r_iload_n (pc := 70) (x := v1) dX12_keep_70 rfl ?_
      refine r_iconst (pc := 71) dX12_keep_71 ?_
      refine r_zast (pc := 72) (i := v1) (x := 1) dX12_keep_72 s0_104 ⟨by omega, by omega, (by decide)⟩ (by decide) ?_
      refine r_iload_n (pc := 73) (x := (bI (if (h 104 v1) = 0 then false else true))) dX12_keep_73 rfl ?_
      exact r_iret (st := []) (pc := 74) (x := (bI (if (h 104 v1) = 0 then false else true))) (ty := .int) dX12_keep_74 rfl rfl rfl (by decide) ⟨rfl, _, rfl, w⟩
    refine r_if_eq (pc := 57) (x := (h 104 v1)) (tgt := 64) dX12_keep_57 (by decide) hr6 (fun c => ?_) (fun c => ?_)
    · refine r_iconst (pc := 64) dX12_keep_64 ?_
      simp only [if_pos (c)] at kk7 ⊢
      exact kk7
    · refine r_iconst (pc := 60) dX12_keep_60 ?_
      refine r_goto (pc := 61) (tgt := 65) dX12_keep_61 (by decide) ?_
      simp only [if_neg (c)] at kk7 ⊢
      exact kk7
  · have w := w.2 (c)
    refine r_aload_n (pc := 25) (a := 81) dX12_keep_25 rfl ?_
    refine r_getR (pc := 26) (b := 92) fl_X12_40 dX12_keep_26 s0_81 rfl ?_
    refine r_sipush (pc := 29) (x := 200) dX12_keep_29 (by decide) ?_
    refine r_iload_n (pc := 32) (x := v1) dX12_keep_32 rfl ?_
    refine r_iconst (pc := 33) dX12_keep_33 ?_
    refine r_iadd (pc := 34) (x := v1) (y := 1) dX12_keep_34 ?_
    refine r_imul (pc := 35) (x := 200) (y := (v1 + 1)) dX12_keep_35 ?_
    refine r_iload_n (pc := 36) (x := v2) dX12_keep_36 rfl ?_
    refine r_iadd (pc := 37) (x := (200 * (v1 + 1))) (y := v2) dX12_keep_37 ?_
    refine r_aload_n (pc := 38) (a := 81) dX12_keep_38 rfl ?_
    refine r_getR (pc := 39) (b := 92) fl_X12_40 dX12_keep_39 s0_81 rfl ?_
    refine r_iload_n (pc := 42) (x := v2) dX12_keep_42 rfl ?_
    obtain ⟨hb8, w⟩ := w
    refine r_iald (pc := 43) (i := v2) (x := (h 92 v2)) dX12_keep_43 s0_92 ⟨hb8.1, hb8.2, (by decide)⟩ (rfl) ?_
    obtain ⟨hb9, w⟩ := w
    refine r_iast (pc := 44) (i := ((200 * (v1 + 1)) + v2)) (x := (h 92 v2)) dX12_keep_44 s0_92 ⟨hb9.1, hb9.2, (by decide)⟩  ?_
    refine r_iinc (pc := 45) (x := v2) (L' := [some (.ref 81), some (.int (zI v1)), some (.int (zI (v2 + 1)))]) dX12_keep_45 rfl (by decide) rfl ?_
    refine r_goto (pc := 48) (tgt := 18) dX12_keep_48 (by decide) ?_
    exact w

set_option maxRecDepth 100000 in
set_option maxHeartbeats 4000000 in
theorem wX12_back {h : zMm} {K : Int → zMm → Prop} {v1 : Int} (w : (zR v1 ∧ zCb mX12_in [.long (zJ v1), .long (zJ 0), .long (zJ 1)] zS0 h (fun b2 h2 => ((b2 = true → ((0 ≤ v1 ∧ v1 < 2) ∧ (zR (h2 104 v1) ∧ (((h2 104 v1) = 0 → K (-2) h2) ∧ (¬ (h2 104 v1) = 0 → ((0 ≤ ((200 * (v1 + 1)) + (h2 88 0)) ∧ ((200 * (v1 + 1)) + (h2 88 0)) < 600) ∧ (zR (h2 92 ((200 * (v1 + 1)) + (h2 88 0))) ∧ ((¬ (h2 92 ((200 * (v1 + 1)) + (h2 88 0))) = 2 → zCv mX12_awake [.ref 81] zS0 h2 (fun h7 => RR mX12_back 0 0 53 [some (.ref 81), some (.int (zI v1)), some (.int (zI 0))] [] zS0 h7 (zQi zS0 K))) ∧ ((h2 92 ((200 * (v1 + 1)) + (h2 88 0))) = 2 → K (-2) h2))))))))) ∧ (b2 = false → K (-1) h2))))) : zCi mX12_back [.ref 81, .int (zI v1)] zS0 h K := by
  show RR mX12_back 0 0 0 [some (.ref 81), some (.int (zI v1)), none] [] zS0 h (zQi zS0 K)
  refine r_iload_n (pc := 0) (x := v1) dX12_back_0 rfl ?_
  obtain ⟨hr1, w⟩ := w
  refine r_i2l (pc := 1) (x := v1) dX12_back_1 hr1 ?_
  refine r_lconst (pc := 2) (x := 0) dX12_back_2 rfl ?_
  refine r_lconst (pc := 3) (x := 1) dX12_back_3 rfl ?_
  refine r_callS (μ2 := mX12_in) (pc := 4) (as := [.long (zJ v1), .long (zJ 0), .long (zJ 1)]) (st := []) ml_X12_94 sm_X12_in okX12_in ⟨by decide, by decide⟩ dX12_back_4 (Nat.le_of_ble_eq_true rfl) rfl (Nat.le_of_ble_eq_true rfl) (by decide) (by decide) (zCC.mono w ?_)
  rintro r S' h2 ⟨rfl, b2, hr, w⟩
  subst hr
  show RR mX12_back 0 0 7 [some (.ref 81), some (.int (zI v1)), none] [.int (zI (bI b2))] zS0 h2 (zQi zS0 K)
  refine r_if_ne (pc := 7) (x := (bI b2)) (tgt := 12) dX12_back_7 (by decide) (bI_R _) (fun c => ?_) (fun c => ?_)
  · have w := w.1 (bI_n.mp c)
    refine r_aload_n (pc := 12) (a := 81) dX12_back_12 rfl ?_
    refine r_getR (pc := 13) (b := 104) fl_X12_77 dX12_back_13 s0_81 rfl ?_
    refine r_iload_n (pc := 16) (x := v1) dX12_back_16 rfl ?_
    obtain ⟨hb3, w⟩ := w
    refine r_zald (pc := 17) (i := v1) (x := (h2 104 v1)) dX12_back_17 s0_104 ⟨hb3.1, hb3.2, (by decide)⟩ (rfl) ?_
    obtain ⟨hr4, w⟩ := w
    refine r_if_eq (pc := 18) (x := (h2 104 v1)) (tgt := 44) dX12_back_18 (by decide) hr4 (fun c => ?_) (fun c => ?_)
    · have w := w.1 (c)
      refine r_bipush (pc := 44) (x := (-2)) dX12_back_44 (by decide) ?_
      exact r_iret (st := []) (pc := 46) (x := (-2)) (ty := .int) dX12_back_46 rfl rfl rfl (by decide) ⟨rfl, _, rfl, w⟩
    · have w := w.2 (c)
      refine r_aload_n (pc := 21) (a := 81) dX12_back_21 rfl ?_
      refine r_getR (pc := 22) (b := 92) fl_X12_40 dX12_back_22 s0_81 rfl ?_
      refine r_sipush (pc := 25) (x := 200) dX12_back_25 (by decide) ?_
      refine r_iload_n (pc := 28) (x := v1) dX12_back_28 rfl ?_
      refine r_iconst (pc := 29) dX12_back_29 ?_
      refine r_iadd (pc := 30) (x := v1) (y := 1) dX12_back_30 ?_
      refine r_imul (pc := 31) (x := 200) (y := (v1 + 1)) dX12_back_31 ?_
      refine r_aload_n (pc := 32) (a := 81) dX12_back_32 rfl ?_
      refine r_getR (pc := 33) (b := 88) fl_X12_28 dX12_back_33 s0_81 rfl ?_
      refine r_iconst (pc := 36) dX12_back_36 ?_
      refine r_iald (pc := 37) (i := 0) (x := (h2 88 0)) dX12_back_37 s0_88 (by decide) (rfl) ?_
      refine r_iadd (pc := 38) (x := (200 * (v1 + 1))) (y := (h2 88 0)) dX12_back_38 ?_
      obtain ⟨hb5, w⟩ := w
      refine r_iald (pc := 39) (i := ((200 * (v1 + 1)) + (h2 88 0))) (x := (h2 92 ((200 * (v1 + 1)) + (h2 88 0)))) dX12_back_39 s0_92 ⟨hb5.1, hb5.2, (by decide)⟩ (rfl) ?_
      refine r_iconst (pc := 40) dX12_back_40 ?_
      obtain ⟨hr6, w⟩ := w
      refine r_icmp_ne (pc := 41) (x := (h2 92 ((200 * (v1 + 1)) + (h2 88 0)))) (y := 2) (tgt := 47) dX12_back_41 (by decide) hr6 (by decide) (fun c => ?_) (fun c => ?_)
      · have w := w.1 (c)
        refine r_aload_n (pc := 47) (a := 81) dX12_back_47 rfl ?_
        refine r_callV (μ2 := mX12_awake) (pc := 48) (as := []) (st := []) rfl s0_81 ml_X12_175 im_X12_awake se_X12_awake okX12_awake ⟨by decide, by decide⟩ dX12_back_48 (Nat.le_of_ble_eq_true rfl) rfl (Nat.le_of_ble_eq_true rfl) (by decide) (by decide) (zCC.mono w ?_)
        rintro r S' h7 ⟨rfl, hr, w⟩
        subst hr
        show RR mX12_back 0 0 51 [some (.ref 81), some (.int (zI v1)), none] [] zS0 h7 (zQi zS0 K)
        refine r_iconst (pc := 51) dX12_back_51 ?_
        refine r_istore_n (pc := 52) (L' := [some (.ref 81), some (.int (zI v1)), some (.int (zI 0))]) dX12_back_52 (by decide) rfl ?_
        exact w
      · have w := w.2 (c)
        refine r_bipush (pc := 44) (x := (-2)) dX12_back_44 (by decide) ?_
        exact r_iret (st := []) (pc := 46) (x := (-2)) (ty := .int) dX12_back_46 rfl rfl rfl (by decide) ⟨rfl, _, rfl, w⟩
  · have w := w.2 (bI_0.mp c)
    refine r_iconst (pc := 10) dX12_back_10 ?_
    exact r_iret (st := []) (pc := 11) (x := (-1)) (ty := .int) dX12_back_11 rfl rfl rfl (by decide) ⟨rfl, _, rfl, w⟩

set_option maxRecDepth 100000 in
set_option maxHeartbeats 4000000 in
theorem bX12_back_53 {h : zMm} {K : Int → zMm → Prop} {v1 : Int} {v2 : Int} (w : (zR v2 ∧ ((200 ≤ v2 → K (h 92 192) h) ∧ (¬ 200 ≤ v2 → zCb mX12_in [.long (zJ v2), .long (zJ 108), .long (zJ 143)] zS0 h (fun b9 h9 => ((b9 = false → ((0 ≤ ((200 * (v1 + 1)) + v2) ∧ ((200 * (v1 + 1)) + v2) < 600) ∧ ((0 ≤ v2 ∧ v2 < 600) ∧ RR mX12_back 0 0 53 [some (.ref 81), some (.int (zI v1)), some (.int (zI (v2 + 1)))] [] zS0 (zU h9 92 v2 (h9 92 ((200 * (v1 + 1)) + v2))) (zQi zS0 K)))) ∧ (b9 = true → ((0 ≤ v2 ∧ v2 < 600) ∧ RR mX12_back 0 0 53 [some (.ref 81), some (.int (zI v1)), some (.int (zI (v2 + 1)))] [] zS0 (zU h9 92 v2 (h9 92 v2)) (zQi zS0 K))))))))) : RR mX12_back 0 0 53 [some (.ref 81), some (.int (zI v1)), some (.int (zI v2))] [] zS0 h (zQi zS0 K) := by
  refine r_iload_n (pc := 53) (x := v2) dX12_back_53 rfl ?_
  refine r_sipush (pc := 54) (x := 200) dX12_back_54 (by decide) ?_
  obtain ⟨hr8, w⟩ := w
  refine r_icmp_ge (pc := 57) (x := v2) (y := 200) (tgt := 109) dX12_back_57 (by decide) hr8 (by decide) (fun c => ?_) (fun c => ?_)
  · have w := w.1 (c)
    refine r_aload_n (pc := 109) (a := 81) dX12_back_109 rfl ?_
    refine r_getR (pc := 110) (b := 92) fl_X12_40 dX12_back_110 s0_81 rfl ?_
    refine r_sipush (pc := 113) (x := 192) dX12_back_113 (by decide) ?_
    refine r_iald (pc := 116) (i := 192) (x := (h 92 192)) dX12_back_116 s0_92 (by decide) (rfl) ?_
    exact r_iret (st := []) (pc := 117) (x := (h 92 192)) (ty := .int) dX12_back_117 rfl rfl rfl (by decide) ⟨rfl, _, rfl, w⟩
  · have w := w.2 (c)
    refine r_aload_n (pc := 60) (a := 81) dX12_back_60 rfl ?_
    refine r_getR (pc := 61) (b := 92) fl_X12_40 dX12_back_61 s0_81 rfl ?_
    refine r_iload_n (pc := 64) (x := v2) dX12_back_64 rfl ?_
    refine r_iload_n (pc := 65) (x := v2) dX12_back_65 rfl ?_
    refine r_i2l (pc := 66) (x := v2) dX12_back_66 hr8 ?_
    refine r_ldcL (pc := 67) (x := 108) dX12_back_67 kl_X12_328 ?_
    refine r_ldcL (pc := 70) (x := 143) dX12_back_70 kl_X12_330 ?_
    refine r_callS (μ2 := mX12_in) (pc := 73) (as := [.long (zJ v2), .long (zJ 108), .long (zJ 143)]) (st := [.int (zI v2), .ref 92]) ml_X12_94 sm_X12_in okX12_in ⟨by decide, by decide⟩ dX12_back_73 (Nat.le_of_ble_eq_true rfl) rfl (Nat.le_of_ble_eq_true rfl) (by decide) (by decide) (zCC.mono w ?_)
    rintro r S' h9 ⟨rfl, b9, hr, w⟩
    subst hr
    show RR mX12_back 0 0 76 [some (.ref 81), some (.int (zI v1)), some (.int (zI v2))] [.int (zI (bI b9)), .int (zI v2), .ref 92] zS0 h9 (zQi zS0 K)
    refine r_if_eq (pc := 76) (x := (bI b9)) (tgt := 88) dX12_back_76 (by decide) (bI_R _) (fun c => ?_) (fun c => ?_)
    · have w := w.1 (bI_0.mp c)
      refine r_aload_n (pc := 88) (a := 81) dX12_back_88 rfl ?_
      refine r_getR (pc := 89) (b := 92) fl_X12_40 dX12_back_89 s0_81 rfl ?_
      refine r_sipush (pc := 92) (x := 200) dX12_back_92 (by decide) ?_
      refine r_iload_n (pc := 95) (x := v1) dX12_back_95 rfl ?_
      refine r_iconst (pc := 96) dX12_back_96 ?_
      refine r_iadd (pc := 97) (x := v1) (y := 1) dX12_back_97 ?_
      refine r_imul (pc := 98) (x := 200) (y := (v1 + 1)) dX12_back_98 ?_
      refine r_iload_n (pc := 99) (x := v2) dX12_back_99 rfl ?_
      refine r_iadd (pc := 100) (x := (200 * (v1 + 1))) (y := v2) dX12_back_100 ?_
      obtain ⟨hb10, w⟩ := w
      refine r_iald (pc := 101) (i := ((200 * (v1 + 1)) + v2)) (x := (h9 92 ((200 * (v1 + 1)) + v2))) dX12_back_101 s0_92 ⟨hb10.1, hb10.2, (by decide)⟩ (rfl) ?_
      obtain ⟨hb11, w⟩ := w
      refine r_iast (pc := 102) (i := v2) (x := (h9 92 ((200 * (v1 + 1)) + v2))) dX12_back_102 s0_92 ⟨hb11.1, hb11.2, (by decide)⟩  ?_
      refine r_iinc (pc := 103) (x := v2) (L' := [some (.ref 81), some (.int (zI v1)), some (.int (zI (v2 + 1)))]) dX12_back_103 rfl (by decide) rfl ?_
      refine r_goto (pc := 106) (tgt := 53) dX12_back_106 (by decide) ?_
      exact w
    · have w := w.2 (bI_n.mp c)
      refine r_aload_n (pc := 79) (a := 81) dX12_back_79 rfl ?_
      refine r_getR (pc := 80) (b := 92) fl_X12_40 dX12_back_80 s0_81 rfl ?_
      refine r_iload_n (pc := 83) (x := v2) dX12_back_83 rfl ?_
      obtain ⟨hb12, w⟩ := w
      refine r_iald (pc := 84) (i := v2) (x := (h9 92 v2)) dX12_back_84 s0_92 ⟨hb12.1, hb12.2, (by decide)⟩ (rfl) ?_
      refine r_goto (pc := 85) (tgt := 102) dX12_back_85 (by decide) ?_
      refine r_iast (pc := 102) (i := v2) (x := (h9 92 v2)) dX12_back_102 s0_92 ⟨by omega, by omega, (by decide)⟩  ?_
      refine r_iinc (pc := 103) (x := v2) (L' := [some (.ref 81), some (.int (zI v1)), some (.int (zI (v2 + 1)))]) dX12_back_103 rfl (by decide) rfl ?_
      refine r_goto (pc := 106) (tgt := 53) dX12_back_106 (by decide) ?_
      exact w

set_option maxRecDepth 100000 in
set_option maxHeartbeats 4000000 in
theorem wX12_sheet {h : zMm} {K : Int → zMm → Prop} {v1 : Int} {v2 : Int} {v3 : Int} (w : (zR v1 ∧ zCb mX12_in [.long (zJ v1), .long (zJ 0), .long (zJ 3)] zS0 h (fun b2 h2 => ((b2 = false → K (-1) h2) ∧ (b2 = true → (zR v2 ∧ zCb mX12_in [.long (zJ v2), .long (zJ 0), .long (zJ 2)] zS0 h2 (fun b4 h4 => ((b4 = false → K (-1) h4) ∧ (b4 = true → (zR v3 ∧ ((v3 ≤ 48 → ((0 ≤ v3 → ((0 ≤ v1 ∧ v1 < 4) ∧ RR mX12_sheet 0 0 56 [some (.ref 81), some (.int (zI v1)), none, none, some (.int (zI 0))] [] zS0 (zU (zU h4 105 v1 v2) 106 v1 v3) (zQi zS0 K))) ∧ (¬ 0 ≤ v3 → K (-14) h4))) ∧ (¬ v3 ≤ 48 → K (-1) h4)))))))))))) : zCi mX12_sheet [.ref 81, .int (zI v1), .int (zI v2), .int (zI v3)] zS0 h K := by
  show RR mX12_sheet 0 0 0 [some (.ref 81), some (.int (zI v1)), some (.int (zI v2)), some (.int (zI v3)), none] [] zS0 h (zQi zS0 K)
  refine r_iload_n (pc := 0) (x := v1) dX12_sheet_0 rfl ?_
  obtain ⟨hr1, w⟩ := w
  refine r_i2l (pc := 1) (x := v1) dX12_sheet_1 hr1 ?_
  refine r_lconst (pc := 2) (x := 0) dX12_sheet_2 rfl ?_
  refine r_ldcL (pc := 3) (x := 3) dX12_sheet_3 kl_X12_182 ?_
  refine r_callS (μ2 := mX12_in) (pc := 6) (as := [.long (zJ v1), .long (zJ 0), .long (zJ 3)]) (st := []) ml_X12_94 sm_X12_in okX12_in ⟨by decide, by decide⟩ dX12_sheet_6 (Nat.le_of_ble_eq_true rfl) rfl (Nat.le_of_ble_eq_true rfl) (by decide) (by decide) (zCC.mono w ?_)
  rintro r S' h2 ⟨rfl, b2, hr, w⟩
  subst hr
  show RR mX12_sheet 0 0 9 [some (.ref 81), some (.int (zI v1)), some (.int (zI v2)), some (.int (zI v3)), none] [.int (zI (bI b2))] zS0 h2 (zQi zS0 K)
  refine r_if_eq (pc := 9) (x := (bI b2)) (tgt := 30) dX12_sheet_9 (by decide) (bI_R _) (fun c => ?_) (fun c => ?_)
  · have w := w.1 (bI_0.mp c)
    refine r_iconst (pc := 30) dX12_sheet_30 ?_
    exact r_iret (st := []) (pc := 31) (x := (-1)) (ty := .int) dX12_sheet_31 rfl rfl rfl (by decide) ⟨rfl, _, rfl, w⟩
  · have w := w.2 (bI_n.mp c)
    refine r_iload_n (pc := 12) (x := v2) dX12_sheet_12 rfl ?_
    obtain ⟨hr3, w⟩ := w
    refine r_i2l (pc := 13) (x := v2) dX12_sheet_13 hr3 ?_
    refine r_lconst (pc := 14) (x := 0) dX12_sheet_14 rfl ?_
    refine r_ldcL (pc := 15) (x := 2) dX12_sheet_15 kl_X12_268 ?_
    refine r_callS (μ2 := mX12_in) (pc := 18) (as := [.long (zJ v2), .long (zJ 0), .long (zJ 2)]) (st := []) ml_X12_94 sm_X12_in okX12_in ⟨by decide, by decide⟩ dX12_sheet_18 (Nat.le_of_ble_eq_true rfl) rfl (Nat.le_of_ble_eq_true rfl) (by decide) (by decide) (zCC.mono w ?_)
    rintro r S' h4 ⟨rfl, b4, hr, w⟩
    subst hr
    show RR mX12_sheet 0 0 21 [some (.ref 81), some (.int (zI v1)), some (.int (zI v2)), some (.int (zI v3)), none] [.int (zI (bI b4))] zS0 h4 (zQi zS0 K)
    refine r_if_eq (pc := 21) (x := (bI b4)) (tgt := 30) dX12_sheet_21 (by decide) (bI_R _) (fun c => ?_) (fun c => ?_)
    · have w := w.1 (bI_0.mp c)
      refine r_iconst (pc := 30) dX12_sheet_30 ?_
      exact r_iret (st := []) (pc := 31) (x := (-1)) (ty := .int) dX12_sheet_31 rfl rfl rfl (by decide) ⟨rfl, _, rfl, w⟩
    · have w := w.2 (bI_n.mp c)
      refine r_iload_n (pc := 24) (x := v3) dX12_sheet_24 rfl ?_
      refine r_bipush (pc := 25) (x := 48) dX12_sheet_25 (by decide) ?_
      obtain ⟨hr5, w⟩ := w
      refine r_icmp_le (pc := 27) (x := v3) (y := 48) (tgt := 32) dX12_sheet_27 (by decide) hr5 (by decide) (fun c => ?_) (fun c => ?_)
      · have w := w.1 (c)
        refine r_iload_n (pc := 32) (x := v3) dX12_sheet_32 rfl ?_
        refine r_if_ge (pc := 33) (x := v3) (tgt := 39) dX12_sheet_33 (by decide) hr5 (fun c => ?_) (fun c => ?_)
        · have w := w.1 (c)
          refine r_aload_n (pc := 39) (a := 81) dX12_sheet_39 rfl ?_
          refine r_getR (pc := 40) (b := 105) fl_X12_81 dX12_sheet_40 s0_81 rfl ?_
          refine r_iload_n (pc := 43) (x := v1) dX12_sheet_43 rfl ?_
          refine r_iload_n (pc := 44) (x := v2) dX12_sheet_44 rfl ?_
          obtain ⟨hb6, w⟩ := w
          refine r_iast (pc := 45) (i := v1) (x := v2) dX12_sheet_45 s0_105 ⟨hb6.1, hb6.2, (by decide)⟩  ?_
          refine r_aload_n (pc := 46) (a := 81) dX12_sheet_46 rfl ?_
          refine r_getR (pc := 47) (b := 106) fl_X12_84 dX12_sheet_47 s0_81 rfl ?_
          refine r_iload_n (pc := 50) (x := v1) dX12_sheet_50 rfl ?_
          refine r_iload_n (pc := 51) (x := v3) dX12_sheet_51 rfl ?_
          refine r_iast (pc := 52) (i := v1) (x := v3) dX12_sheet_52 s0_106 ⟨by omega, by omega, (by decide)⟩  ?_
          refine r_iconst (pc := 53) dX12_sheet_53 ?_
          refine r_istore (pc := 54) (L' := [some (.ref 81), some (.int (zI v1)), some (.int (zI v2)), some (.int (zI v3)), some (.int (zI 0))]) dX12_sheet_54 (by decide) rfl ?_
          exact RR.sub (L' := [some (.ref 81), some (.int (zI v1)), none, none, some (.int (zI 0))]) (zSb_of (⟨rfl, ⟨rfl, ⟨rfl, trivial⟩⟩⟩)) w
        · have w := w.2 (c)
          refine r_bipush (pc := 36) (x := (-14)) dX12_sheet_36 (by decide) ?_
          exact r_iret (st := []) (pc := 38) (x := (-14)) (ty := .int) dX12_sheet_38 rfl rfl rfl (by decide) ⟨rfl, _, rfl, w⟩
      · have w := w.2 (c)
        refine r_iconst (pc := 30) dX12_sheet_30 ?_
        exact r_iret (st := []) (pc := 31) (x := (-1)) (ty := .int) dX12_sheet_31 rfl rfl rfl (by decide) ⟨rfl, _, rfl, w⟩

set_option maxRecDepth 100000 in
set_option maxHeartbeats 4000000 in
theorem bX12_sheet_56 {h : zMm} {K : Int → zMm → Prop} {v1 : Int} {v4 : Int} (w : (zR v4 ∧ ((48 ≤ v4 → K 1 h) ∧ (¬ 48 ≤ v4 → ((0 ≤ ((48 * v1) + v4) ∧ ((48 * v1) + v4) < 192) ∧ RR mX12_sheet 0 0 56 [some (.ref 81), some (.int (zI v1)), none, none, some (.int (zI (v4 + 1)))] [] zS0 (zU h 107 ((48 * v1) + v4) 0) (zQi zS0 K)))))) : RR mX12_sheet 0 0 56 [some (.ref 81), some (.int (zI v1)), none, none, some (.int (zI v4))] [] zS0 h (zQi zS0 K) := by
  refine r_iload (pc := 56) (x := v4) dX12_sheet_56 rfl ?_
  refine r_bipush (pc := 58) (x := 48) dX12_sheet_58 (by decide) ?_
  obtain ⟨hr7, w⟩ := w
  refine r_icmp_ge (pc := 60) (x := v4) (y := 48) (tgt := 82) dX12_sheet_60 (by decide) hr7 (by decide) (fun c => ?_) (fun c => ?_)
  · have w := w.1 (c)
    refine r_iconst (pc := 82) dX12_sheet_82 ?_
    exact r_iret (st := []) (pc := 83) (x := 1) (ty := .int) dX12_sheet_83 rfl rfl rfl (by decide) ⟨rfl, _, rfl, w⟩
  · have w := w.2 (c)
    refine r_aload_n (pc := 63) (a := 81) dX12_sheet_63 rfl ?_
    refine r_getR (pc := 64) (b := 107) fl_X12_87 dX12_sheet_64 s0_81 rfl ?_
    refine r_bipush (pc := 67) (x := 48) dX12_sheet_67 (by decide) ?_
    refine r_iload_n (pc := 69) (x := v1) dX12_sheet_69 rfl ?_
    refine r_imul (pc := 70) (x := 48) (y := v1) dX12_sheet_70 ?_
    refine r_iload (pc := 71) (x := v4) dX12_sheet_71 rfl ?_
    refine r_iadd (pc := 73) (x := (48 * v1)) (y := v4) dX12_sheet_73 ?_
    refine r_iconst (pc := 74) dX12_sheet_74 ?_
    obtain ⟨hb8, w⟩ := w
    refine r_iast (pc := 75) (i := ((48 * v1) + v4)) (x := 0) dX12_sheet_75 s0_107 ⟨hb8.1, hb8.2, (by decide)⟩  ?_
    refine r_iinc (pc := 76) (x := v4) (L' := [some (.ref 81), some (.int (zI v1)), none, none, some (.int (zI (v4 + 1)))]) dX12_sheet_76 rfl (by decide) rfl ?_
    refine r_goto (pc := 79) (tgt := 56) dX12_sheet_79 (by decide) ?_
    exact w

set_option maxRecDepth 100000 in
set_option maxHeartbeats 4000000 in
theorem wX12_lay {h : zMm} {K : Int → zMm → Prop} {v1 : Int} {v2 : Int} {v3 : Int} (w : (zR v1 ∧ zCb mX12_in [.long (zJ v1), .long (zJ 0), .long (zJ 3)] zS0 h (fun b2 h2 => ((b2 = true → ((0 ≤ v1 ∧ v1 < 4) ∧ (zR (h2 105 v1) ∧ ((¬ (h2 105 v1) = (-4) → (zR v2 ∧ (zR ((h2 106 v1) - 1) ∧ zCb mX12_in [.long (zJ v2), .long (zJ 0), .long (zJ ((h2 106 v1) - 1))] zS0 h2 (fun b7 h7 => ((b7 = true → (zR (h7 105 v1) ∧ ((¬ (h7 105 v1) = 0 → ((0 ≤ ((48 * v1) + v2) ∧ ((48 * v1) + v2) < 192) ∧ K 1 (zU h7 107 ((48 * v1) + v2) (if (h7 105 v1) = 1 then (iSr (iSl v3 16) 16) else v3)))) ∧ ((h7 105 v1) = 0 → ((0 ≤ ((48 * v1) + v2) ∧ ((48 * v1) + v2) < 192) ∧ K 1 (zU h7 107 ((48 * v1) + v2) (iSr (iSl v3 24) 24))))))) ∧ (b7 = false → K (-12) h7)))))) ∧ ((h2 105 v1) = (-4) → K (-11) h2))))) ∧ (b2 = false → K (-1) h2))))) : zCi mX12_lay [.ref 81, .int (zI v1), .int (zI v2), .int (zI v3)] zS0 h K := by
  show RR mX12_lay 0 0 0 [some (.ref 81), some (.int (zI v1)), some (.int (zI v2)), some (.int (zI v3))] [] zS0 h (zQi zS0 K)
  refine r_iload_n (pc := 0) (x := v1) dX12_lay_0 rfl ?_
  obtain ⟨hr1, w⟩ := w
  refine r_i2l (pc := 1) (x := v1) dX12_lay_1 hr1 ?_
  refine r_lconst (pc := 2) (x := 0) dX12_lay_2 rfl ?_
  refine r_ldcL (pc := 3) (x := 3) dX12_lay_3 kl_X12_182 ?_
  refine r_callS (μ2 := mX12_in) (pc := 6) (as := [.long (zJ v1), .long (zJ 0), .long (zJ 3)]) (st := []) ml_X12_94 sm_X12_in okX12_in ⟨by decide, by decide⟩ dX12_lay_6 (Nat.le_of_ble_eq_true rfl) rfl (Nat.le_of_ble_eq_true rfl) (by decide) (by decide) (zCC.mono w ?_)
  rintro r S' h2 ⟨rfl, b2, hr, w⟩
  subst hr
  show RR mX12_lay 0 0 9 [some (.ref 81), some (.int (zI v1)), some (.int (zI v2)), some (.int (zI v3))] [.int (zI (bI b2))] zS0 h2 (zQi zS0 K)
  refine r_if_ne (pc := 9) (x := (bI b2)) (tgt := 14) dX12_lay_9 (by decide) (bI_R _) (fun c => ?_) (fun c => ?_)
  · have w := w.1 (bI_n.mp c)
    refine r_aload_n (pc := 14) (a := 81) dX12_lay_14 rfl ?_
    refine r_getR (pc := 15) (b := 105) fl_X12_81 dX12_lay_15 s0_81 rfl ?_
    refine r_iload_n (pc := 18) (x := v1) dX12_lay_18 rfl ?_
    obtain ⟨hb3, w⟩ := w
    refine r_iald (pc := 19) (i := v1) (x := (h2 105 v1)) dX12_lay_19 s0_105 ⟨hb3.1, hb3.2, (by decide)⟩ (rfl) ?_
    refine r_bipush (pc := 20) (x := (-4)) dX12_lay_20 (by decide) ?_
    obtain ⟨hr4, w⟩ := w
    refine r_icmp_ne (pc := 22) (x := (h2 105 v1)) (y := (-4)) (tgt := 28) dX12_lay_22 (by decide) hr4 (by decide) (fun c => ?_) (fun c => ?_)
    · have w := w.1 (c)
      refine r_iload_n (pc := 28) (x := v2) dX12_lay_28 rfl ?_
      obtain ⟨hr5, w⟩ := w
      refine r_i2l (pc := 29) (x := v2) dX12_lay_29 hr5 ?_
      refine r_lconst (pc := 30) (x := 0) dX12_lay_30 rfl ?_
      refine r_aload_n (pc := 31) (a := 81) dX12_lay_31 rfl ?_
      refine r_getR (pc := 32) (b := 106) fl_X12_84 dX12_lay_32 s0_81 rfl ?_
      refine r_iload_n (pc := 35) (x := v1) dX12_lay_35 rfl ?_
      refine r_iald (pc := 36) (i := v1) (x := (h2 106 v1)) dX12_lay_36 s0_106 ⟨by omega, by omega, (by decide)⟩ (rfl) ?_
      refine r_iconst (pc := 37) dX12_lay_37 ?_
      refine r_isub (pc := 38) (x := (h2 106 v1)) (y := 1) dX12_lay_38 ?_
      obtain ⟨hr6, w⟩ := w
      refine r_i2l (pc := 39) (x := ((h2 106 v1) - 1)) dX12_lay_39 hr6 ?_
      refine r_callS (μ2 := mX12_in) (pc := 40) (as := [.long (zJ v2), .long (zJ 0), .long (zJ ((h2 106 v1) - 1))]) (st := []) ml_X12_94 sm_X12_in okX12_in ⟨by decide, by decide⟩ dX12_lay_40 (Nat.le_of_ble_eq_true rfl) rfl (Nat.le_of_ble_eq_true rfl) (by decide) (by decide) (zCC.mono w ?_)
      rintro r S' h7 ⟨rfl, b7, hr, w⟩
      subst hr
      show RR mX12_lay 0 0 43 [some (.ref 81), some (.int (zI v1)), some (.int (zI v2)), some (.int (zI v3))] [.int (zI (bI b7))] zS0 h7 (zQi zS0 K)
      refine r_if_ne (pc := 43) (x := (bI b7)) (tgt := 49) dX12_lay_43 (by decide) (bI_R _) (fun c => ?_) (fun c => ?_)
      · have w := w.1 (bI_n.mp c)
        refine r_aload_n (pc := 49) (a := 81) dX12_lay_49 rfl ?_
        refine r_getR (pc := 50) (b := 107) fl_X12_87 dX12_lay_50 s0_81 rfl ?_
        refine r_bipush (pc := 53) (x := 48) dX12_lay_53 (by decide) ?_
        refine r_iload_n (pc := 55) (x := v1) dX12_lay_55 rfl ?_
        refine r_imul (pc := 56) (x := 48) (y := v1) dX12_lay_56 ?_
        refine r_iload_n (pc := 57) (x := v2) dX12_lay_57 rfl ?_
        refine r_iadd (pc := 58) (x := (48 * v1)) (y := v2) dX12_lay_58 ?_
        refine r_aload_n (pc := 59) (a := 81) dX12_lay_59 rfl ?_
        refine r_getR (pc := 60) (b := 105) fl_X12_81 dX12_lay_60 s0_81 rfl ?_
        refine r_iload_n (pc := 63) (x := v1) dX12_lay_63 rfl ?_
        refine r_iald (pc := 64) (i := v1) (x := (h7 105 v1)) dX12_lay_64 s0_105 ⟨by omega, by omega, (by decide)⟩ (rfl) ?_
        obtain ⟨hr8, w⟩ := w
        refine r_if_ne (pc := 65) (x := (h7 105 v1)) (tgt := 78) dX12_lay_65 (by decide) hr8 (fun c => ?_) (fun c => ?_)
        · have w := w.1 (c)
          refine r_aload_n (pc := 78) (a := 81) dX12_lay_78 rfl ?_
          refine r_getR (pc := 79) (b := 105) fl_X12_81 dX12_lay_79 s0_81 rfl ?_
          refine r_iload_n (pc := 82) (x := v1) dX12_lay_82 rfl ?_
          refine r_iald (pc := 83) (i := v1) (x := (h7 105 v1)) dX12_lay_83 s0_105 ⟨by omega, by omega, (by decide)⟩ (rfl) ?_
          refine r_iconst (pc := 84) dX12_lay_84 ?_
          have kk10 : RR mX12_lay 0 0 99 [some (.ref 81), some (.int (zI v1)), some (.int (zI v2)), some (.int (zI v3))] [.int (zI (if (h7 105 v1) = 1 then (iSr (iSl v3 16) 16) else v3)), .int (zI ((48 * v1) + v2)), .ref 107] zS0 h7 (zQi zS0 K) := by
            obtain ⟨hb9, w⟩ := w
            refine r_iast (pc := 99) (i := ((48 * v1) + v2)) (x := (if (h7 105 v1) = 1 then (iSr (iSl v3 16) 16) else v3)) dX12_lay_99 s0_107 ⟨hb9.1, hb9.2, (by decide)⟩  ?_
            refine r_iconst (pc := 100) dX12_lay_100 ?_
            exact r_iret (st := []) (pc := 101) (x := 1) (ty := .int) dX12_lay_101 rfl rfl rfl (by decide) ⟨rfl, _, rfl, w⟩
          refine r_icmp_ne (pc := 85) (x := (h7 105 v1)) (y := 1) (tgt := 98) dX12_lay_85 (by decide) hr8 (by decide) (fun c => ?_) (fun c => ?_)
          · refine r_iload_n (pc := 98) (x := v3) dX12_lay_98 rfl ?_
            simp only [if_neg (c)] at kk10 ⊢
            exact kk10
          · refine r_iload_n (pc := 88) (x := v3) dX12_lay_88 rfl ?_
            refine r_bipush (pc := 89) (x := 16) dX12_lay_89 (by decide) ?_
            refine r_ishl (pc := 91) (x := v3) (y := 16) dX12_lay_91 ?_
            refine r_bipush (pc := 92) (x := 16) dX12_lay_92 (by decide) ?_
            refine r_ishr (pc := 94) (x := (iSl v3 16)) (y := 16) dX12_lay_94 ?_
            refine r_goto (pc := 95) (tgt := 99) dX12_lay_95 (by decide) ?_
            simp only [if_pos (c)] at kk10 ⊢
            exact kk10
        · have w := w.2 (c)
          refine r_iload_n (pc := 68) (x := v3) dX12_lay_68 rfl ?_
          refine r_bipush (pc := 69) (x := 24) dX12_lay_69 (by decide) ?_
          refine r_ishl (pc := 71) (x := v3) (y := 24) dX12_lay_71 ?_
          refine r_bipush (pc := 72) (x := 24) dX12_lay_72 (by decide) ?_
          refine r_ishr (pc := 74) (x := (iSl v3 24)) (y := 24) dX12_lay_74 ?_
          refine r_goto (pc := 75) (tgt := 99) dX12_lay_75 (by decide) ?_
          obtain ⟨hb11, w⟩ := w
          refine r_iast (pc := 99) (i := ((48 * v1) + v2)) (x := (iSr (iSl v3 24) 24)) dX12_lay_99 s0_107 ⟨hb11.1, hb11.2, (by decide)⟩  ?_
          refine r_iconst (pc := 100) dX12_lay_100 ?_
          exact r_iret (st := []) (pc := 101) (x := 1) (ty := .int) dX12_lay_101 rfl rfl rfl (by decide) ⟨rfl, _, rfl, w⟩
      · have w := w.2 (bI_0.mp c)
        refine r_bipush (pc := 46) (x := (-12)) dX12_lay_46 (by decide) ?_
        exact r_iret (st := []) (pc := 48) (x := (-12)) (ty := .int) dX12_lay_48 rfl rfl rfl (by decide) ⟨rfl, _, rfl, w⟩
    · have w := w.2 (c)
      refine r_bipush (pc := 25) (x := (-11)) dX12_lay_25 (by decide) ?_
      exact r_iret (st := []) (pc := 27) (x := (-11)) (ty := .int) dX12_lay_27 rfl rfl rfl (by decide) ⟨rfl, _, rfl, w⟩
  · have w := w.2 (bI_0.mp c)
    refine r_iconst (pc := 12) dX12_lay_12 ?_
    exact r_iret (st := []) (pc := 13) (x := (-1)) (ty := .int) dX12_lay_13 rfl rfl rfl (by decide) ⟨rfl, _, rfl, w⟩

set_option maxRecDepth 100000 in
set_option maxHeartbeats 4000000 in
theorem wX12_read {h : zMm} {K : Int → zMm → Prop} {v1 : Int} {v2 : Int} {v3 : Int} {v4 : Int} (w : (zR v1 ∧ zCb mX12_in [.long (zJ v1), .long (zJ 0), .long (zJ 3)] zS0 h (fun b2 h2 => ((b2 = false → K (-1) h2) ∧ (b2 = true → (zR v2 ∧ zCb mX12_in [.long (zJ v2), .long (zJ 0), .long (zJ 2)] zS0 h2 (fun b4 h4 => ((b4 = false → K (-1) h4) ∧ (b4 = true → (zR v4 ∧ zCb mX12_in [.long (zJ v4), .long (zJ 0), .long (zJ 24)] zS0 h4 (fun b6 h6 => ((b6 = true → RR mX12_read 0 0 48 [some (.ref 81), some (.int (zI v1)), some (.int (zI v2)), some (.int (zI v3)), some (.int (zI v4)), some (.int (zI 0)), some (.int (zI 0)), some (.int (zI 0)), none] [] zS0 h6 (zQi zS0 K)) ∧ (b6 = false → K (-1) h6))))))))))))) : zCi mX12_read [.ref 81, .int (zI v1), .int (zI v2), .int (zI v3), .int (zI v4)] zS0 h K := by
  show RR mX12_read 0 0 0 [some (.ref 81), some (.int (zI v1)), some (.int (zI v2)), some (.int (zI v3)), some (.int (zI v4)), none, none, none, none] [] zS0 h (zQi zS0 K)
  refine r_iload_n (pc := 0) (x := v1) dX12_read_0 rfl ?_
  obtain ⟨hr1, w⟩ := w
  refine r_i2l (pc := 1) (x := v1) dX12_read_1 hr1 ?_
  refine r_lconst (pc := 2) (x := 0) dX12_read_2 rfl ?_
  refine r_ldcL (pc := 3) (x := 3) dX12_read_3 kl_X12_182 ?_
  refine r_callS (μ2 := mX12_in) (pc := 6) (as := [.long (zJ v1), .long (zJ 0), .long (zJ 3)]) (st := []) ml_X12_94 sm_X12_in okX12_in ⟨by decide, by decide⟩ dX12_read_6 (Nat.le_of_ble_eq_true rfl) rfl (Nat.le_of_ble_eq_true rfl) (by decide) (by decide) (zCC.mono w ?_)
  rintro r S' h2 ⟨rfl, b2, hr, w⟩
  subst hr
  show RR mX12_read 0 0 9 [some (.ref 81), some (.int (zI v1)), some (.int (zI v2)), some (.int (zI v3)), some (.int (zI v4)), none, none, none, none] [.int (zI (bI b2))] zS0 h2 (zQi zS0 K)
  refine r_if_eq (pc := 9) (x := (bI b2)) (tgt := 37) dX12_read_9 (by decide) (bI_R _) (fun c => ?_) (fun c => ?_)
  · have w := w.1 (bI_0.mp c)
    refine r_iconst (pc := 37) dX12_read_37 ?_
    exact r_iret (st := []) (pc := 38) (x := (-1)) (ty := .int) dX12_read_38 rfl rfl rfl (by decide) ⟨rfl, _, rfl, w⟩
  · have w := w.2 (bI_n.mp c)
    refine r_iload_n (pc := 12) (x := v2) dX12_read_12 rfl ?_
    obtain ⟨hr3, w⟩ := w
    refine r_i2l (pc := 13) (x := v2) dX12_read_13 hr3 ?_
    refine r_lconst (pc := 14) (x := 0) dX12_read_14 rfl ?_
    refine r_ldcL (pc := 15) (x := 2) dX12_read_15 kl_X12_268 ?_
    refine r_callS (μ2 := mX12_in) (pc := 18) (as := [.long (zJ v2), .long (zJ 0), .long (zJ 2)]) (st := []) ml_X12_94 sm_X12_in okX12_in ⟨by decide, by decide⟩ dX12_read_18 (Nat.le_of_ble_eq_true rfl) rfl (Nat.le_of_ble_eq_true rfl) (by decide) (by decide) (zCC.mono w ?_)
    rintro r S' h4 ⟨rfl, b4, hr, w⟩
    subst hr
    show RR mX12_read 0 0 21 [some (.ref 81), some (.int (zI v1)), some (.int (zI v2)), some (.int (zI v3)), some (.int (zI v4)), none, none, none, none] [.int (zI (bI b4))] zS0 h4 (zQi zS0 K)
    refine r_if_eq (pc := 21) (x := (bI b4)) (tgt := 37) dX12_read_21 (by decide) (bI_R _) (fun c => ?_) (fun c => ?_)
    · have w := w.1 (bI_0.mp c)
      refine r_iconst (pc := 37) dX12_read_37 ?_
      exact r_iret (st := []) (pc := 38) (x := (-1)) (ty := .int) dX12_read_38 rfl rfl rfl (by decide) ⟨rfl, _, rfl, w⟩
    · have w := w.2 (bI_n.mp c)
      refine r_iload (pc := 24) (x := v4) dX12_read_24 rfl ?_
      obtain ⟨hr5, w⟩ := w
      refine r_i2l (pc := 26) (x := v4) dX12_read_26 hr5 ?_
      refine r_lconst (pc := 27) (x := 0) dX12_read_27 rfl ?_
      refine r_ldcL (pc := 28) (x := 24) dX12_read_28 kl_X12_332 ?_
      refine r_callS (μ2 := mX12_in) (pc := 31) (as := [.long (zJ v4), .long (zJ 0), .long (zJ 24)]) (st := []) ml_X12_94 sm_X12_in okX12_in ⟨by decide, by decide⟩ dX12_read_31 (Nat.le_of_ble_eq_true rfl) rfl (Nat.le_of_ble_eq_true rfl) (by decide) (by decide) (zCC.mono w ?_)
      rintro r S' h6 ⟨rfl, b6, hr, w⟩
      subst hr
      show RR mX12_read 0 0 34 [some (.ref 81), some (.int (zI v1)), some (.int (zI v2)), some (.int (zI v3)), some (.int (zI v4)), none, none, none, none] [.int (zI (bI b6))] zS0 h6 (zQi zS0 K)
      refine r_if_ne (pc := 34) (x := (bI b6)) (tgt := 39) dX12_read_34 (by decide) (bI_R _) (fun c => ?_) (fun c => ?_)
      · have w := w.1 (bI_n.mp c)
        refine r_iconst (pc := 39) dX12_read_39 ?_
        refine r_istore (pc := 40) (L' := [some (.ref 81), some (.int (zI v1)), some (.int (zI v2)), some (.int (zI v3)), some (.int (zI v4)), some (.int (zI 0)), none, none, none]) dX12_read_40 (by decide) rfl ?_
        refine r_iconst (pc := 42) dX12_read_42 ?_
        refine r_istore (pc := 43) (L' := [some (.ref 81), some (.int (zI v1)), some (.int (zI v2)), some (.int (zI v3)), some (.int (zI v4)), some (.int (zI 0)), some (.int (zI 0)), none, none]) dX12_read_43 (by decide) rfl ?_
        refine r_iconst (pc := 45) dX12_read_45 ?_
        refine r_istore (pc := 46) (L' := [some (.ref 81), some (.int (zI v1)), some (.int (zI v2)), some (.int (zI v3)), some (.int (zI v4)), some (.int (zI 0)), some (.int (zI 0)), some (.int (zI 0)), none]) dX12_read_46 (by decide) rfl ?_
        exact w
      · have w := w.2 (bI_0.mp c)
        refine r_iconst (pc := 37) dX12_read_37 ?_
        exact r_iret (st := []) (pc := 38) (x := (-1)) (ty := .int) dX12_read_38 rfl rfl rfl (by decide) ⟨rfl, _, rfl, w⟩

set_option maxRecDepth 100000 in
set_option maxHeartbeats 4000000 in
theorem bX12_read_48 {h : zMm} {K : Int → zMm → Prop} {v1 : Int} {v2 : Int} {v3 : Int} {v4 : Int} {v5 : Int} {v6 : Int} {v7 : Int} (w : (zR v7 ∧ (zR (2 * v4) ∧ (((2 * v4) ≤ v7 → RR mX12_read 0 0 205 [some (.ref 81), some (.int (zI v1)), none, some (.int (zI v3)), none, some (.int (zI v5)), some (.int (zI v6)), some (.int (zI 0)), none] [] zS0 h (zQi zS0 K)) ∧ (¬ (2 * v4) ≤ v7 → (zR v5 ∧ ((¬ v5 = 0 → RR mX12_read 0 0 205 [some (.ref 81), some (.int (zI v1)), none, some (.int (zI v3)), none, some (.int (zI v5)), some (.int (zI v6)), some (.int (zI 0)), none] [] zS0 h (zQi zS0 K)) ∧ (v5 = 0 → ((0 ≤ v1 ∧ v1 < 4) ∧ (zR (h 105 v1) ∧ ((¬ (h 105 v1) = (-4) → (zR v2 ∧ (((h 105 v1) = v2 → (zR v3 ∧ (zR ((h 106 v1) - 1) ∧ zCb mX12_in [.long (zJ (v3 + v7)), .long (zJ 0), .long (zJ ((h 106 v1) - 1))] zS0 h (fun b15 h15 => (zR (if b15 = true then (0 : Int) else (2 : Int)) ∧ ((¬ (if b15 = true then (0 : Int) else (2 : Int)) = 0 → RR mX12_read 0 0 48 [some (.ref 81), some (.int (zI v1)), some (.int (zI v2)), some (.int (zI v3)), some (.int (zI v4)), some (.int (zI (if b15 = true then (0 : Int) else (2 : Int)))), some (.int (zI v6)), some (.int (zI (v7 + 1))), none] [] zS0 h15 (zQi zS0 K)) ∧ ((if b15 = true then (0 : Int) else (2 : Int)) = 0 → ((0 ≤ v7 ∧ v7 < 2147483648) ∧ ((¬ (v7 % 2) = 1 → RR mX12_read 0 0 48 [some (.ref 81), some (.int (zI v1)), some (.int (zI v2)), some (.int (zI v3)), some (.int (zI v4)), some (.int (zI (if b15 = true then (0 : Int) else (2 : Int)))), some (.int (zI v6)), some (.int (zI (v7 + 1))), none] [] zS0 h15 (zQi zS0 K)) ∧ ((v7 % 2) = 1 → ((0 ≤ ((((48 * v1) + v3) + v7) - 1) ∧ ((((48 * v1) + v3) + v7) - 1) < 192) ∧ ((0 ≤ (((((48 * v1) + v3) + v7) - 1) + 1) ∧ (((((48 * v1) + v3) + v7) - 1) + 1) < 192) ∧ zCb mX12_isMove [.int (zI (h15 107 ((((48 * v1) + v3) + v7) - 1))), .int (zI (h15 107 (((((48 * v1) + v3) + v7) - 1) + 1)))] zS0 h15 (fun b20 h20 => ((b20 = true → (zR ((h20 92 192) + v6) ∧ ((¬ ((h20 92 192) + v6) = 24 → RR mX12_read 0 0 48 [some (.ref 81), some (.int (zI v1)), some (.int (zI v2)), some (.int (zI v3)), some (.int (zI v4)), some (.int (zI (if b15 = true then (0 : Int) else (2 : Int)))), some (.int (zI (v6 + 1))), some (.int (zI (v7 + 1))), none] [] zS0 h20 (zQi zS0 K)) ∧ (((h20 92 192) + v6) = 24 → K (-3) h20)))) ∧ (b20 = false → K ((-20) - v6) h20))))))))))))))) ∧ (¬ (h 105 v1) = v2 → RR mX12_read 0 0 48 [some (.ref 81), some (.int (zI v1)), some (.int (zI v2)), some (.int (zI v3)), some (.int (zI v4)), some (.int (zI 3)), some (.int (zI v6)), some (.int (zI (v7 + 1))), none] [] zS0 h (zQi zS0 K))))) ∧ ((h 105 v1) = (-4) → RR mX12_read 0 0 48 [some (.ref 81), some (.int (zI v1)), some (.int (zI v2)), some (.int (zI v3)), some (.int (zI v4)), some (.int (zI 1)), some (.int (zI v6)), some (.int (zI (v7 + 1))), none] [] zS0 h (zQi zS0 K))))))))))))) : RR mX12_read 0 0 48 [some (.ref 81), some (.int (zI v1)), some (.int (zI v2)), some (.int (zI v3)), some (.int (zI v4)), some (.int (zI v5)), some (.int (zI v6)), some (.int (zI v7)), none] [] zS0 h (zQi zS0 K) := by
  refine r_iload (pc := 48) (x := v7) dX12_read_48 rfl ?_
  refine r_iconst (pc := 50) dX12_read_50 ?_
  refine r_iload (pc := 51) (x := v4) dX12_read_51 rfl ?_
  refine r_imul (pc := 53) (x := 2) (y := v4) dX12_read_53 ?_
  obtain ⟨hr7, w⟩ := w
  obtain ⟨hr8, w⟩ := w
  refine r_icmp_ge (pc := 54) (x := v7) (y := (2 * v4)) (tgt := 202) dX12_read_54 (by decide) hr7 hr8 (fun c => ?_) (fun c => ?_)
  · have w := w.1 (c)
    refine r_iconst (pc := 202) dX12_read_202 ?_
    refine r_istore (pc := 203) (L' := [some (.ref 81), some (.int (zI v1)), some (.int (zI v2)), some (.int (zI v3)), some (.int (zI v4)), some (.int (zI v5)), some (.int (zI v6)), some (.int (zI 0)), none]) dX12_read_203 (by decide) rfl ?_
    exact RR.sub (L' := [some (.ref 81), some (.int (zI v1)), none, some (.int (zI v3)), none, some (.int (zI v5)), some (.int (zI v6)), some (.int (zI 0)), none]) (zSb_of (⟨rfl, ⟨rfl, ⟨rfl, ⟨rfl, ⟨rfl, ⟨rfl, trivial⟩⟩⟩⟩⟩⟩)) w
  · have w := w.2 (c)
    refine r_iload (pc := 57) (x := v5) dX12_read_57 rfl ?_
    obtain ⟨hr9, w⟩ := w
    refine r_if_ne (pc := 59) (x := v5) (tgt := 202) dX12_read_59 (by decide) hr9 (fun c => ?_) (fun c => ?_)
    · have w := w.1 (c)
      refine r_iconst (pc := 202) dX12_read_202 ?_
      refine r_istore (pc := 203) (L' := [some (.ref 81), some (.int (zI v1)), some (.int (zI v2)), some (.int (zI v3)), some (.int (zI v4)), some (.int (zI v5)), some (.int (zI v6)), some (.int (zI 0)), none]) dX12_read_203 (by decide) rfl ?_
      exact RR.sub (L' := [some (.ref 81), some (.int (zI v1)), none, some (.int (zI v3)), none, some (.int (zI v5)), some (.int (zI v6)), some (.int (zI 0)), none]) (zSb_of (⟨rfl, ⟨rfl, ⟨rfl, ⟨rfl, ⟨rfl, ⟨rfl, trivial⟩⟩⟩⟩⟩⟩)) w
    · have w := w.2 (c)
      refine r_aload_n (pc := 62) (a := 81) dX12_read_62 rfl ?_
      refine r_getR (pc := 63) (b := 105) fl_X12_81 dX12_read_63 s0_81 rfl ?_
      refine r_iload_n (pc := 66) (x := v1) dX12_read_66 rfl ?_
      obtain ⟨hb10, w⟩ := w
      refine r_iald (pc := 67) (i := v1) (x := (h 105 v1)) dX12_read_67 s0_105 ⟨hb10.1, hb10.2, (by decide)⟩ (rfl) ?_
      refine r_bipush (pc := 68) (x := (-4)) dX12_read_68 (by decide) ?_
      obtain ⟨hr11, w⟩ := w
      refine r_icmp_ne (pc := 70) (x := (h 105 v1)) (y := (-4)) (tgt := 77) dX12_read_70 (by decide) hr11 (by decide) (fun c => ?_) (fun c => ?_)
      · have w := w.1 (c)
        refine r_aload_n (pc := 77) (a := 81) dX12_read_77 rfl ?_
        refine r_getR (pc := 78) (b := 105) fl_X12_81 dX12_read_78 s0_81 rfl ?_
        refine r_iload_n (pc := 81) (x := v1) dX12_read_81 rfl ?_
        refine r_iald (pc := 82) (i := v1) (x := (h 105 v1)) dX12_read_82 s0_105 ⟨by omega, by omega, (by decide)⟩ (rfl) ?_
        refine r_iload_n (pc := 83) (x := v2) dX12_read_83 rfl ?_
        obtain ⟨hr12, w⟩ := w
        refine r_icmp_eq (pc := 84) (x := (h 105 v1)) (y := v2) (tgt := 91) dX12_read_84 (by decide) hr11 hr12 (fun c => ?_) (fun c => ?_)
        · have w := w.1 (c)
          refine r_iload_n (pc := 91) (x := v3) dX12_read_91 rfl ?_
          obtain ⟨hr13, w⟩ := w
          refine r_i2l (pc := 92) (x := v3) dX12_read_92 hr13 ?_
          refine r_iload (pc := 93) (x := v7) dX12_read_93 rfl ?_
          refine r_i2l (pc := 95) (x := v7) dX12_read_95 hr7 ?_
          refine r_ladd (pc := 96) (x := v3) (y := v7) dX12_read_96 ?_
          refine r_lconst (pc := 97) (x := 0) dX12_read_97 rfl ?_
          refine r_aload_n (pc := 98) (a := 81) dX12_read_98 rfl ?_
          refine r_getR (pc := 99) (b := 106) fl_X12_84 dX12_read_99 s0_81 rfl ?_
          refine r_iload_n (pc := 102) (x := v1) dX12_read_102 rfl ?_
          refine r_iald (pc := 103) (i := v1) (x := (h 106 v1)) dX12_read_103 s0_106 ⟨by omega, by omega, (by decide)⟩ (rfl) ?_
          refine r_iconst (pc := 104) dX12_read_104 ?_
          refine r_isub (pc := 105) (x := (h 106 v1)) (y := 1) dX12_read_105 ?_
          obtain ⟨hr14, w⟩ := w
          refine r_i2l (pc := 106) (x := ((h 106 v1) - 1)) dX12_read_106 hr14 ?_
          refine r_callS (μ2 := mX12_in) (pc := 107) (as := [.long (zJ (v3 + v7)), .long (zJ 0), .long (zJ ((h 106 v1) - 1))]) (st := []) ml_X12_94 sm_X12_in okX12_in ⟨by decide, by decide⟩ dX12_read_107 (Nat.le_of_ble_eq_true rfl) rfl (Nat.le_of_ble_eq_true rfl) (by decide) (by decide) (zCC.mono w ?_)
          rintro r S' h15 ⟨rfl, b15, hr, w⟩
          subst hr
          show RR mX12_read 0 0 110 [some (.ref 81), some (.int (zI v1)), some (.int (zI v2)), some (.int (zI v3)), some (.int (zI v4)), some (.int (zI v5)), some (.int (zI v6)), some (.int (zI v7)), none] [.int (zI (bI b15))] zS0 h15 (zQi zS0 K)
          have kk22 : RR mX12_read 0 0 118 [some (.ref 81), some (.int (zI v1)), some (.int (zI v2)), some (.int (zI v3)), some (.int (zI v4)), some (.int (zI v5)), some (.int (zI v6)), some (.int (zI v7)), none] [.int (zI (if b15 = true then (0 : Int) else (2 : Int)))] zS0 h15 (zQi zS0 K) := by
            refine r_istore (pc := 118) (L' := [some (.ref 81), some (.int (zI v1)), some (.int (zI v2)), some (.int (zI v3)), some (.int (zI v4)), some (.int (zI (if b15 = true then (0 : Int) else (2 : Int)))), some (.int (zI v6)), some (.int (zI v7)), none]) dX12_read_118 (by decide) rfl ?_
            refine r_iload (pc := 120) (x := (if b15 = true then (0 : Int) else (2 : Int))) dX12_read_120 rfl ?_
            obtain ⟨hr16, w⟩ := w
            refine r_if_ne (pc := 122) (x := (if b15 = true then (0 : Int) else (2 : Int))) (tgt := 196) dX12_read_122 (by decide) hr16 (fun c => ?_) (fun c => ?_)
            · have w := w.1 (c)
              refine r_iinc (pc := 196) (x := v7) (L' := [some (.ref 81), some (.int (zI v1)), some (.int (zI v2)), some (.int (zI v3)), some (.int (zI v4)), some (.int (zI (if b15 = true then (0 : Int) else (2 : Int)))), some (.int (zI v6)), some (.int (zI (v7 + 1))), none]) dX12_read_196 rfl (by decide) rfl ?_
              refine r_goto (pc := 199) (tgt := 48) dX12_read_199 (by decide) ?_
              exact w
            · have w := w.2 (c)
              refine r_iload (pc := 125) (x := v7) dX12_read_125 rfl ?_
              refine r_iconst (pc := 127) dX12_read_127 ?_
              obtain ⟨hx17, w⟩ := w
              refine r_irem (pc := 128) (x := v7) (y := 2) dX12_read_128 hx17 (by decide) ?_
              refine r_iconst (pc := 129) dX12_read_129 ?_
              refine r_icmp_ne (pc := 130) (x := (v7 % 2)) (y := 1) (tgt := 196) dX12_read_130 (by decide) ⟨by omega, by omega⟩ (by decide) (fun c => ?_) (fun c => ?_)
              · have w := w.1 (c)
                refine r_iinc (pc := 196) (x := v7) (L' := [some (.ref 81), some (.int (zI v1)), some (.int (zI v2)), some (.int (zI v3)), some (.int (zI v4)), some (.int (zI (if b15 = true then (0 : Int) else (2 : Int)))), some (.int (zI v6)), some (.int (zI (v7 + 1))), none]) dX12_read_196 rfl (by decide) rfl ?_
                refine r_goto (pc := 199) (tgt := 48) dX12_read_199 (by decide) ?_
                exact w
              · have w := w.2 (c)
                refine r_bipush (pc := 133) (x := 48) dX12_read_133 (by decide) ?_
                refine r_iload_n (pc := 135) (x := v1) dX12_read_135 rfl ?_
                refine r_imul (pc := 136) (x := 48) (y := v1) dX12_read_136 ?_
                refine r_iload_n (pc := 137) (x := v3) dX12_read_137 rfl ?_
                refine r_iadd (pc := 138) (x := (48 * v1)) (y := v3) dX12_read_138 ?_
                refine r_iload (pc := 139) (x := v7) dX12_read_139 rfl ?_
                refine r_iadd (pc := 141) (x := ((48 * v1) + v3)) (y := v7) dX12_read_141 ?_
                refine r_iconst (pc := 142) dX12_read_142 ?_
                refine r_isub (pc := 143) (x := (((48 * v1) + v3) + v7)) (y := 1) dX12_read_143 ?_
                refine r_istore (pc := 144) (L' := [some (.ref 81), some (.int (zI v1)), some (.int (zI v2)), some (.int (zI v3)), some (.int (zI v4)), some (.int (zI (if b15 = true then (0 : Int) else (2 : Int)))), some (.int (zI v6)), some (.int (zI v7)), some (.int (zI ((((48 * v1) + v3) + v7) - 1)))]) dX12_read_144 (by decide) rfl ?_
                refine r_aload_n (pc := 146) (a := 81) dX12_read_146 rfl ?_
                refine r_getR (pc := 147) (b := 107) fl_X12_87 dX12_read_147 s0_81 rfl ?_
                refine r_iload (pc := 150) (x := ((((48 * v1) + v3) + v7) - 1)) dX12_read_150 rfl ?_
                obtain ⟨hb18, w⟩ := w
                refine r_iald (pc := 152) (i := ((((48 * v1) + v3) + v7) - 1)) (x := (h15 107 ((((48 * v1) + v3) + v7) - 1))) dX12_read_152 s0_107 ⟨hb18.1, hb18.2, (by decide)⟩ (rfl) ?_
                refine r_aload_n (pc := 153) (a := 81) dX12_read_153 rfl ?_
                refine r_getR (pc := 154) (b := 107) fl_X12_87 dX12_read_154 s0_81 rfl ?_
                refine r_iload (pc := 157) (x := ((((48 * v1) + v3) + v7) - 1)) dX12_read_157 rfl ?_
                refine r_iconst (pc := 159) dX12_read_159 ?_
                refine r_iadd (pc := 160) (x := ((((48 * v1) + v3) + v7) - 1)) (y := 1) dX12_read_160 ?_
                obtain ⟨hb19, w⟩ := w
                refine r_iald (pc := 161) (i := (((((48 * v1) + v3) + v7) - 1) + 1)) (x := (h15 107 (((((48 * v1) + v3) + v7) - 1) + 1))) dX12_read_161 s0_107 ⟨hb19.1, hb19.2, (by decide)⟩ (rfl) ?_
                refine r_callS (μ2 := mX12_isMove) (pc := 162) (as := [.int (zI (h15 107 ((((48 * v1) + v3) + v7) - 1))), .int (zI (h15 107 (((((48 * v1) + v3) + v7) - 1) + 1)))]) (st := []) ml_X12_188 sm_X12_isMove okX12_isMove ⟨by decide, by decide⟩ dX12_read_162 (Nat.le_of_ble_eq_true rfl) rfl (Nat.le_of_ble_eq_true rfl) (by decide) (by decide) (zCC.mono w ?_)
                rintro r S' h20 ⟨rfl, b20, hr, w⟩
                subst hr
                show RR mX12_read 0 0 165 [some (.ref 81), some (.int (zI v1)), some (.int (zI v2)), some (.int (zI v3)), some (.int (zI v4)), some (.int (zI (if b15 = true then (0 : Int) else (2 : Int)))), some (.int (zI v6)), some (.int (zI v7)), some (.int (zI ((((48 * v1) + v3) + v7) - 1)))] [.int (zI (bI b20))] zS0 h20 (zQi zS0 K)
                refine r_if_ne (pc := 165) (x := (bI b20)) (tgt := 174) dX12_read_165 (by decide) (bI_R _) (fun c => ?_) (fun c => ?_)
                · have w := w.1 (bI_n.mp c)
                  refine r_aload_n (pc := 174) (a := 81) dX12_read_174 rfl ?_
                  refine r_getR (pc := 175) (b := 92) fl_X12_40 dX12_read_175 s0_81 rfl ?_
                  refine r_sipush (pc := 178) (x := 192) dX12_read_178 (by decide) ?_
                  refine r_iald (pc := 181) (i := 192) (x := (h20 92 192)) dX12_read_181 s0_92 (by decide) (rfl) ?_
                  refine r_iload (pc := 182) (x := v6) dX12_read_182 rfl ?_
                  refine r_iadd (pc := 184) (x := (h20 92 192)) (y := v6) dX12_read_184 ?_
                  refine r_bipush (pc := 185) (x := 24) dX12_read_185 (by decide) ?_
                  obtain ⟨hr21, w⟩ := w
                  refine r_icmp_ne (pc := 187) (x := ((h20 92 192) + v6)) (y := 24) (tgt := 193) dX12_read_187 (by decide) hr21 (by decide) (fun c => ?_) (fun c => ?_)
                  · have w := w.1 (c)
                    refine r_iinc (pc := 193) (x := v6) (L' := [some (.ref 81), some (.int (zI v1)), some (.int (zI v2)), some (.int (zI v3)), some (.int (zI v4)), some (.int (zI (if b15 = true then (0 : Int) else (2 : Int)))), some (.int (zI (v6 + 1))), some (.int (zI v7)), some (.int (zI ((((48 * v1) + v3) + v7) - 1)))]) dX12_read_193 rfl (by decide) rfl ?_
                    refine r_iinc (pc := 196) (x := v7) (L' := [some (.ref 81), some (.int (zI v1)), some (.int (zI v2)), some (.int (zI v3)), some (.int (zI v4)), some (.int (zI (if b15 = true then (0 : Int) else (2 : Int)))), some (.int (zI (v6 + 1))), some (.int (zI (v7 + 1))), some (.int (zI ((((48 * v1) + v3) + v7) - 1)))]) dX12_read_196 rfl (by decide) rfl ?_
                    refine r_goto (pc := 199) (tgt := 48) dX12_read_199 (by decide) ?_
                    exact RR.sub (L' := [some (.ref 81), some (.int (zI v1)), some (.int (zI v2)), some (.int (zI v3)), some (.int (zI v4)), some (.int (zI (if b15 = true then (0 : Int) else (2 : Int)))), some (.int (zI (v6 + 1))), some (.int (zI (v7 + 1))), none]) (zSb_of (⟨rfl, ⟨rfl, ⟨rfl, ⟨rfl, ⟨rfl, ⟨rfl, ⟨rfl, ⟨rfl, trivial⟩⟩⟩⟩⟩⟩⟩⟩)) w
                  · have w := w.2 (c)
                    refine r_bipush (pc := 190) (x := (-3)) dX12_read_190 (by decide) ?_
                    exact r_iret (st := []) (pc := 192) (x := (-3)) (ty := .int) dX12_read_192 rfl rfl rfl (by decide) ⟨rfl, _, rfl, w⟩
                · have w := w.2 (bI_0.mp c)
                  refine r_bipush (pc := 168) (x := (-20)) dX12_read_168 (by decide) ?_
                  refine r_iload (pc := 170) (x := v6) dX12_read_170 rfl ?_
                  refine r_isub (pc := 172) (x := (-20)) (y := v6) dX12_read_172 ?_
                  exact r_iret (st := []) (pc := 173) (x := ((-20) - v6)) (ty := .int) dX12_read_173 rfl rfl rfl (by decide) ⟨rfl, _, rfl, w⟩
          refine r_if_ne (pc := 110) (x := (bI b15)) (tgt := 117) dX12_read_110 (by decide) (bI_R _) (fun c => ?_) (fun c => ?_)
          · refine r_iconst (pc := 117) dX12_read_117 ?_
            simp only [if_pos (bI_n.mp c)] at kk22 ⊢
            exact kk22
          · refine r_iconst (pc := 113) dX12_read_113 ?_
            refine r_goto (pc := 114) (tgt := 118) dX12_read_114 (by decide) ?_
            simp only [if_neg (bI_ft (bI_0.mp c))] at kk22 ⊢
            exact kk22
        · have w := w.2 (c)
          refine r_iconst (pc := 87) dX12_read_87 ?_
          refine r_goto (pc := 88) (tgt := 118) dX12_read_88 (by decide) ?_
          refine r_istore (pc := 118) (L' := [some (.ref 81), some (.int (zI v1)), some (.int (zI v2)), some (.int (zI v3)), some (.int (zI v4)), some (.int (zI 3)), some (.int (zI v6)), some (.int (zI v7)), none]) dX12_read_118 (by decide) rfl ?_
          refine r_iload (pc := 120) (x := 3) dX12_read_120 rfl ?_
          refine r_if_ne (pc := 122) (x := 3) (tgt := 196) dX12_read_122 (by decide) (by decide) (fun c => ?_) (fun c => ?_)
          · refine r_iinc (pc := 196) (x := v7) (L' := [some (.ref 81), some (.int (zI v1)), some (.int (zI v2)), some (.int (zI v3)), some (.int (zI v4)), some (.int (zI 3)), some (.int (zI v6)), some (.int (zI (v7 + 1))), none]) dX12_read_196 rfl (by decide) rfl ?_
            refine r_goto (pc := 199) (tgt := 48) dX12_read_199 (by decide) ?_
            exact w
          · exact absurd c (by decide)
      · have w := w.2 (c)
        refine r_iconst (pc := 73) dX12_read_73 ?_
        refine r_goto (pc := 74) (tgt := 118) dX12_read_74 (by decide) ?_
        refine r_istore (pc := 118) (L' := [some (.ref 81), some (.int (zI v1)), some (.int (zI v2)), some (.int (zI v3)), some (.int (zI v4)), some (.int (zI 1)), some (.int (zI v6)), some (.int (zI v7)), none]) dX12_read_118 (by decide) rfl ?_
        refine r_iload (pc := 120) (x := 1) dX12_read_120 rfl ?_
        refine r_if_ne (pc := 122) (x := 1) (tgt := 196) dX12_read_122 (by decide) (by decide) (fun c => ?_) (fun c => ?_)
        · refine r_iinc (pc := 196) (x := v7) (L' := [some (.ref 81), some (.int (zI v1)), some (.int (zI v2)), some (.int (zI v3)), some (.int (zI v4)), some (.int (zI 1)), some (.int (zI v6)), some (.int (zI (v7 + 1))), none]) dX12_read_196 rfl (by decide) rfl ?_
          refine r_goto (pc := 199) (tgt := 48) dX12_read_199 (by decide) ?_
          exact w
        · exact absurd c (by decide)

set_option maxRecDepth 100000 in
set_option maxHeartbeats 4000000 in
theorem bX12_read_205 {h : zMm} {K : Int → zMm → Prop} {v1 : Int} {v3 : Int} {v5 : Int} {v6 : Int} {v7 : Int} (w : (zR v7 ∧ (zR v6 ∧ ((v6 ≤ v7 → K v6 (zU h 81 50 v5)) ∧ (¬ v6 ≤ v7 → ((0 ≤ (((48 * v1) + v3) + (2 * v7)) ∧ (((48 * v1) + v3) + (2 * v7)) < 192) ∧ ((0 ≤ ((((48 * v1) + v3) + (2 * v7)) + 1) ∧ ((((48 * v1) + v3) + (2 * v7)) + 1) < 192) ∧ zCv mX12_addMove [.ref 81, .int (zI (h 107 (((48 * v1) + v3) + (2 * v7)))), .int (zI (h 107 ((((48 * v1) + v3) + (2 * v7)) + 1)))] zS0 h (fun h27 => RR mX12_read 0 0 205 [some (.ref 81), some (.int (zI v1)), none, some (.int (zI v3)), none, some (.int (zI v5)), some (.int (zI v6)), some (.int (zI (v7 + 1))), none] [] zS0 h27 (zQi zS0 K))))))))) : RR mX12_read 0 0 205 [some (.ref 81), some (.int (zI v1)), none, some (.int (zI v3)), none, some (.int (zI v5)), some (.int (zI v6)), some (.int (zI v7)), none] [] zS0 h (zQi zS0 K) := by
  refine r_iload (pc := 205) (x := v7) dX12_read_205 rfl ?_
  refine r_iload (pc := 207) (x := v6) dX12_read_207 rfl ?_
  obtain ⟨hr23, w⟩ := w
  obtain ⟨hr24, w⟩ := w
  refine r_icmp_ge (pc := 209) (x := v7) (y := v6) (tgt := 256) dX12_read_209 (by decide) hr23 hr24 (fun c => ?_) (fun c => ?_)
  · have w := w.1 (c)
    refine r_aload_n (pc := 256) (a := 81) dX12_read_256 rfl ?_
    refine r_iload (pc := 257) (x := v5) dX12_read_257 rfl ?_
    refine r_putI (pc := 259) (fi := 50) (x := v5) fl_X12_334 dX12_read_259 s0_81 rfl ?_
    refine r_iload (pc := 262) (x := v6) dX12_read_262 rfl ?_
    exact r_iret (st := []) (pc := 264) (x := v6) (ty := .int) dX12_read_264 rfl rfl rfl (by decide) ⟨rfl, _, rfl, w⟩
  · have w := w.2 (c)
    refine r_aload_n (pc := 212) (a := 81) dX12_read_212 rfl ?_
    refine r_aload_n (pc := 213) (a := 81) dX12_read_213 rfl ?_
    refine r_getR (pc := 214) (b := 107) fl_X12_87 dX12_read_214 s0_81 rfl ?_
    refine r_bipush (pc := 217) (x := 48) dX12_read_217 (by decide) ?_
    refine r_iload_n (pc := 219) (x := v1) dX12_read_219 rfl ?_
    refine r_imul (pc := 220) (x := 48) (y := v1) dX12_read_220 ?_
    refine r_iload_n (pc := 221) (x := v3) dX12_read_221 rfl ?_
    refine r_iadd (pc := 222) (x := (48 * v1)) (y := v3) dX12_read_222 ?_
    refine r_iconst (pc := 223) dX12_read_223 ?_
    refine r_iload (pc := 224) (x := v7) dX12_read_224 rfl ?_
    refine r_imul (pc := 226) (x := 2) (y := v7) dX12_read_226 ?_
    refine r_iadd (pc := 227) (x := ((48 * v1) + v3)) (y := (2 * v7)) dX12_read_227 ?_
    obtain ⟨hb25, w⟩ := w
    refine r_iald (pc := 228) (i := (((48 * v1) + v3) + (2 * v7))) (x := (h 107 (((48 * v1) + v3) + (2 * v7)))) dX12_read_228 s0_107 ⟨hb25.1, hb25.2, (by decide)⟩ (rfl) ?_
    refine r_aload_n (pc := 229) (a := 81) dX12_read_229 rfl ?_
    refine r_getR (pc := 230) (b := 107) fl_X12_87 dX12_read_230 s0_81 rfl ?_
    refine r_bipush (pc := 233) (x := 48) dX12_read_233 (by decide) ?_
    refine r_iload_n (pc := 235) (x := v1) dX12_read_235 rfl ?_
    refine r_imul (pc := 236) (x := 48) (y := v1) dX12_read_236 ?_
    refine r_iload_n (pc := 237) (x := v3) dX12_read_237 rfl ?_
    refine r_iadd (pc := 238) (x := (48 * v1)) (y := v3) dX12_read_238 ?_
    refine r_iconst (pc := 239) dX12_read_239 ?_
    refine r_iload (pc := 240) (x := v7) dX12_read_240 rfl ?_
    refine r_imul (pc := 242) (x := 2) (y := v7) dX12_read_242 ?_
    refine r_iadd (pc := 243) (x := ((48 * v1) + v3)) (y := (2 * v7)) dX12_read_243 ?_
    refine r_iconst (pc := 244) dX12_read_244 ?_
    refine r_iadd (pc := 245) (x := (((48 * v1) + v3) + (2 * v7))) (y := 1) dX12_read_245 ?_
    obtain ⟨hb26, w⟩ := w
    refine r_iald (pc := 246) (i := ((((48 * v1) + v3) + (2 * v7)) + 1)) (x := (h 107 ((((48 * v1) + v3) + (2 * v7)) + 1))) dX12_read_246 s0_107 ⟨hb26.1, hb26.2, (by decide)⟩ (rfl) ?_
    refine r_callV (μ2 := mX12_addMove) (pc := 247) (as := [.int (zI (h 107 (((48 * v1) + v3) + (2 * v7)))), .int (zI (h 107 ((((48 * v1) + v3) + (2 * v7)) + 1)))]) (st := []) rfl s0_81 ml_X12_192 im_X12_addMove se_X12_addMove okX12_addMove ⟨by decide, by decide⟩ dX12_read_247 (Nat.le_of_ble_eq_true rfl) rfl (Nat.le_of_ble_eq_true rfl) (by decide) (by decide) (zCC.mono w ?_)
    rintro r S' h27 ⟨rfl, hr, w⟩
    subst hr
    show RR mX12_read 0 0 250 [some (.ref 81), some (.int (zI v1)), none, some (.int (zI v3)), none, some (.int (zI v5)), some (.int (zI v6)), some (.int (zI v7)), none] [] zS0 h27 (zQi zS0 K)
    refine r_iinc (pc := 250) (x := v7) (L' := [some (.ref 81), some (.int (zI v1)), none, some (.int (zI v3)), none, some (.int (zI v5)), some (.int (zI v6)), some (.int (zI (v7 + 1))), none]) dX12_read_250 rfl (by decide) rfl ?_
    refine r_goto (pc := 253) (tgt := 205) dX12_read_253 (by decide) ?_
    exact w

set_option maxRecDepth 100000 in
set_option maxHeartbeats 4000000 in
theorem wX12_torn {h : zMm} {K : Int → zMm → Prop} (w : K (h 81 50) h) : zCi mX12_torn [.ref 81] zS0 h K := by
  show RR mX12_torn 0 0 0 [some (.ref 81)] [] zS0 h (zQi zS0 K)
  refine r_aload_n (pc := 0) (a := 81) dX12_torn_0 rfl ?_
  refine r_getI (pc := 1) (fi := 50) (x := (h 81 50)) fl_X12_334 dX12_torn_1 s0_81 rfl (rfl) ?_
  exact r_iret (st := []) (pc := 4) (x := (h 81 50)) (ty := .int) dX12_torn_4 rfl rfl rfl (by decide) ⟨rfl, _, rfl, w⟩

set_option maxRecDepth 100000 in
set_option maxHeartbeats 4000000 in
theorem wX12_count {h : zMm} {K : Int → zMm → Prop} {v1 : Int} (w : zCv mX12_awake [.ref 81] zS0 h (fun h1 => RR mX12_count 0 0 11 [some (.ref 81), some (.int (zI v1)), some (.int (zI 0)), some (.int (zI 0)), some (.int (zI 0))] [] zS0 h1 (zQi zS0 K))) : zCi mX12_count [.ref 81, .int (zI v1)] zS0 h K := by
  show RR mX12_count 0 0 0 [some (.ref 81), some (.int (zI v1)), none, none, none] [] zS0 h (zQi zS0 K)
  refine r_aload_n (pc := 0) (a := 81) dX12_count_0 rfl ?_
  refine r_callV (μ2 := mX12_awake) (pc := 1) (as := []) (st := []) rfl s0_81 ml_X12_175 im_X12_awake se_X12_awake okX12_awake ⟨by decide, by decide⟩ dX12_count_1 (Nat.le_of_ble_eq_true rfl) rfl (Nat.le_of_ble_eq_true rfl) (by decide) (by decide) (zCC.mono w ?_)
  rintro r S' h1 ⟨rfl, hr, w⟩
  subst hr
  show RR mX12_count 0 0 4 [some (.ref 81), some (.int (zI v1)), none, none, none] [] zS0 h1 (zQi zS0 K)
  refine r_iconst (pc := 4) dX12_count_4 ?_
  refine r_istore_n (pc := 5) (L' := [some (.ref 81), some (.int (zI v1)), some (.int (zI 0)), none, none]) dX12_count_5 (by decide) rfl ?_
  refine r_iconst (pc := 6) dX12_count_6 ?_
  refine r_istore_n (pc := 7) (L' := [some (.ref 81), some (.int (zI v1)), some (.int (zI 0)), some (.int (zI 0)), none]) dX12_count_7 (by decide) rfl ?_
  refine r_iconst (pc := 8) dX12_count_8 ?_
  refine r_istore (pc := 9) (L' := [some (.ref 81), some (.int (zI v1)), some (.int (zI 0)), some (.int (zI 0)), some (.int (zI 0))]) dX12_count_9 (by decide) rfl ?_
  exact w

set_option maxRecDepth 100000 in
set_option maxHeartbeats 4000000 in
theorem bX12_count_11 {h : zMm} {K : Int → zMm → Prop} {v1 : Int} {v2 : Int} {v3 : Int} {v4 : Int} (w : (zR v4 ∧ ((36 ≤ v4 → (zR v1 ∧ ((v1 = 0 → zCi mX12_grassMany [.ref 81] zS0 h (fun x4 h4 => K x4 h4)) ∧ (v1 = 1 → K v2 h) ∧ (v1 = 2 → K (h 92 192) h) ∧ (v1 = 3 → (zR (h 104 0) ∧ (zR (h 104 1) ∧ K ((bI (if (h 104 0) = 0 then false else true)) + (bI (if (h 104 1) = 0 then false else true))) h))) ∧ (v1 = 4 → K (h 81 1) h) ∧ (v1 = 5 → (zR (h 105 0) ∧ ((¬ (h 105 0) = (-4) → K (h 106 0) h) ∧ ((h 105 0) = (-4) → K (-4) h)))) ∧ (v1 = 6 → K v3 h) ∧ (v1 < 0 ∨ 6 < v1 → K (-1) h)))) ∧ (¬ 36 ≤ v4 → ((0 ≤ v4 ∧ v4 < 600) ∧ (zR (h 92 v4) ∧ ((0 ≤ (36 + v4) ∧ (36 + v4) < 600) ∧ RR mX12_count 0 0 11 [some (.ref 81), some (.int (zI v1)), some (.int (zI (v2 + (bI (if (h 92 v4) = 2 then true else false))))), some (.int (zI (v3 + (h 92 (36 + v4))))), some (.int (zI (v4 + 1)))] [] zS0 h (zQi zS0 K)))))))) : RR mX12_count 0 0 11 [some (.ref 81), some (.int (zI v1)), some (.int (zI v2)), some (.int (zI v3)), some (.int (zI v4))] [] zS0 h (zQi zS0 K) := by
  refine r_iload (pc := 11) (x := v4) dX12_count_11 rfl ?_
  refine r_bipush (pc := 13) (x := 36) dX12_count_13 (by decide) ?_
  obtain ⟨hr2, w⟩ := w
  refine r_icmp_ge (pc := 15) (x := v4) (y := 36) (tgt := 56) dX12_count_15 (by decide) hr2 (by decide) (fun c => ?_) (fun c => ?_)
  · have w := w.1 (c)
    refine r_iload_n (pc := 56) (x := v1) dX12_count_56 rfl ?_
    obtain ⟨hr3, w⟩ := w
    rcases (show v1 = 0 ∨ v1 = 1 ∨ v1 = 2 ∨ v1 = 3 ∨ v1 = 4 ∨ v1 = 5 ∨ v1 = 6 ∨ (v1 < 0 ∨ 6 < v1) by omega) with hcs | hcs | hcs | hcs | hcs | hcs | hcs | hcs
    · have w := w.1 hcs
      refine r_tswIn (pc := 57) (x := v1) (tgt := 100) dX12_count_57 hr3 (by omega) (by omega) (by rw [hcs]; rfl) (by decide) ?_
      refine r_aload_n (pc := 100) (a := 81) dX12_count_100 rfl ?_
      refine r_callV (μ2 := mX12_grassMany) (pc := 101) (as := []) (st := []) rfl s0_81 ml_X12_262 im_X12_grassMany se_X12_grassMany okX12_grassMany ⟨by decide, by decide⟩ dX12_count_101 (Nat.le_of_ble_eq_true rfl) rfl (Nat.le_of_ble_eq_true rfl) (by decide) (by decide) (zCC.mono w ?_)
      rintro r S' h4 ⟨rfl, x4, hr, w⟩
      subst hr
      show RR mX12_count 0 0 104 [some (.ref 81), some (.int (zI v1)), some (.int (zI v2)), some (.int (zI v3)), some (.int (zI v4))] [.int (zI x4)] zS0 h4 (zQi zS0 K)
      exact r_iret (st := []) (pc := 104) (x := x4) (ty := .int) dX12_count_104 rfl rfl rfl (by decide) ⟨rfl, _, rfl, w⟩
    · have w := w.2.1 hcs
      refine r_tswIn (pc := 57) (x := v1) (tgt := 105) dX12_count_57 hr3 (by omega) (by omega) (by rw [hcs]; rfl) (by decide) ?_
      refine r_iload_n (pc := 105) (x := v2) dX12_count_105 rfl ?_
      exact r_iret (st := []) (pc := 106) (x := v2) (ty := .int) dX12_count_106 rfl rfl rfl (by decide) ⟨rfl, _, rfl, w⟩
    · have w := w.2.2.1 hcs
      refine r_tswIn (pc := 57) (x := v1) (tgt := 107) dX12_count_57 hr3 (by omega) (by omega) (by rw [hcs]; rfl) (by decide) ?_
      refine r_aload_n (pc := 107) (a := 81) dX12_count_107 rfl ?_
      refine r_getR (pc := 108) (b := 92) fl_X12_40 dX12_count_108 s0_81 rfl ?_
      refine r_sipush (pc := 111) (x := 192) dX12_count_111 (by decide) ?_
      refine r_iald (pc := 114) (i := 192) (x := (h 92 192)) dX12_count_114 s0_92 (by decide) (rfl) ?_
      exact r_iret (st := []) (pc := 115) (x := (h 92 192)) (ty := .int) dX12_count_115 rfl rfl rfl (by decide) ⟨rfl, _, rfl, w⟩
    · have w := w.2.2.2.1 hcs
      refine r_tswIn (pc := 57) (x := v1) (tgt := 116) dX12_count_57 hr3 (by omega) (by omega) (by rw [hcs]; rfl) (by decide) ?_
      refine r_aload_n (pc := 116) (a := 81) dX12_count_116 rfl ?_
      refine r_getR (pc := 117) (b := 104) fl_X12_77 dX12_count_117 s0_81 rfl ?_
      refine r_iconst (pc := 120) dX12_count_120 ?_
      refine r_zald (pc := 121) (i := 0) (x := (h 104 0)) dX12_count_121 s0_104 (by decide) (rfl) ?_
      obtain ⟨hr5, w⟩ := w
      have kk8 : RR mX12_count 0 0 130 [some (.ref 81), some (.int (zI v1)), some (.int (zI v2)), some (.int (zI v3)), some (.int (zI v4))] [.int (zI (bI (if (h 104 0) = 0 then false else true)))] zS0 h (zQi zS0 K) := by
        refine r_aload_n (pc := 130) (a := 81) dX12_count_130 rfl ?_
        refine r_getR (pc := 131) (b := 104) fl_X12_77 dX12_count_131 s0_81 rfl ?_
        refine r_iconst (pc := 134) dX12_count_134 ?_
        refine r_zald (pc := 135) (i := 1) (x := (h 104 1)) dX12_count_135 s0_104 (by decide) (rfl) ?_
        obtain ⟨hr6, w⟩ := w
        have kk7 : RR mX12_count 0 0 144 [some (.ref 81), some (.int (zI v1)), some (.int (zI v2)), some (.int (zI v3)), some (.int (zI v4))] [.int (zI (bI (if (h 104 1) = 0 then false else true))), .int (zI (bI (if (h 104 0) = 0 then false else true)))] zS0 h (zQi zS0 K) := by
          refine r_iadd (pc := 144) (x := (bI (if (h 104 0) = 0 then false else true))) (y := (bI (if (h 104 1) = 0 then false else true))) dX12_count_144 ?_
          exact r_iret (st := []) (pc := 145) (x := ((bI (if (h 104 0) = 0 then false else true)) + (bI (if (h 104 1) = 0 then false else true)))) (ty := .int) dX12_count_145 rfl rfl rfl (by decide) ⟨rfl, _, rfl, w⟩
        refine r_if_eq (pc := 136) (x := (h 104 1)) (tgt := 143) dX12_count_136 (by decide) hr6 (fun c => ?_) (fun c => ?_)
        · refine r_iconst (pc := 143) dX12_count_143 ?_
          simp only [if_pos (c)] at kk7 ⊢
          exact kk7
        · refine r_iconst (pc := 139) dX12_count_139 ?_
          refine r_goto (pc := 140) (tgt := 144) dX12_count_140 (by decide) ?_
          simp only [if_neg (c)] at kk7 ⊢
          exact kk7
      refine r_if_eq (pc := 122) (x := (h 104 0)) (tgt := 129) dX12_count_122 (by decide) hr5 (fun c => ?_) (fun c => ?_)
      · refine r_iconst (pc := 129) dX12_count_129 ?_
        simp only [if_pos (c)] at kk8 ⊢
        exact kk8
      · refine r_iconst (pc := 125) dX12_count_125 ?_
        refine r_goto (pc := 126) (tgt := 130) dX12_count_126 (by decide) ?_
        simp only [if_neg (c)] at kk8 ⊢
        exact kk8
    · have w := w.2.2.2.2.1 hcs
      refine r_tswIn (pc := 57) (x := v1) (tgt := 146) dX12_count_57 hr3 (by omega) (by omega) (by rw [hcs]; rfl) (by decide) ?_
      refine r_aload_n (pc := 146) (a := 81) dX12_count_146 rfl ?_
      refine r_getI (pc := 147) (fi := 1) (x := (h 81 1)) fl_X12_90 dX12_count_147 s0_81 rfl (rfl) ?_
      exact r_iret (st := []) (pc := 150) (x := (h 81 1)) (ty := .int) dX12_count_150 rfl rfl rfl (by decide) ⟨rfl, _, rfl, w⟩
    · have w := w.2.2.2.2.2.1 hcs
      refine r_tswIn (pc := 57) (x := v1) (tgt := 151) dX12_count_57 hr3 (by omega) (by omega) (by rw [hcs]; rfl) (by decide) ?_
      refine r_aload_n (pc := 151) (a := 81) dX12_count_151 rfl ?_
      refine r_getR (pc := 152) (b := 105) fl_X12_81 dX12_count_152 s0_81 rfl ?_
      refine r_iconst (pc := 155) dX12_count_155 ?_
      refine r_iald (pc := 156) (i := 0) (x := (h 105 0)) dX12_count_156 s0_105 (by decide) (rfl) ?_
      refine r_bipush (pc := 157) (x := (-4)) dX12_count_157 (by decide) ?_
      obtain ⟨hr9, w⟩ := w
      refine r_icmp_ne (pc := 159) (x := (h 105 0)) (y := (-4)) (tgt := 167) dX12_count_159 (by decide) hr9 (by decide) (fun c => ?_) (fun c => ?_)
      · have w := w.1 (c)
        refine r_aload_n (pc := 167) (a := 81) dX12_count_167 rfl ?_
        refine r_getR (pc := 168) (b := 106) fl_X12_84 dX12_count_168 s0_81 rfl ?_
        refine r_iconst (pc := 171) dX12_count_171 ?_
        refine r_iald (pc := 172) (i := 0) (x := (h 106 0)) dX12_count_172 s0_106 (by decide) (rfl) ?_
        exact r_iret (st := []) (pc := 173) (x := (h 106 0)) (ty := .int) dX12_count_173 rfl rfl rfl (by decide) ⟨rfl, _, rfl, w⟩
      · have w := w.2 (c)
        refine r_bipush (pc := 162) (x := (-4)) dX12_count_162 (by decide) ?_
        refine r_goto (pc := 164) (tgt := 173) dX12_count_164 (by decide) ?_
        exact r_iret (st := []) (pc := 173) (x := (-4)) (ty := .int) dX12_count_173 rfl rfl rfl (by decide) ⟨rfl, _, rfl, w⟩
    · have w := w.2.2.2.2.2.2.1 hcs
      refine r_tswIn (pc := 57) (x := v1) (tgt := 174) dX12_count_57 hr3 (by omega) (by omega) (by rw [hcs]; rfl) (by decide) ?_
      refine r_iload_n (pc := 174) (x := v3) dX12_count_174 rfl ?_
      exact r_iret (st := []) (pc := 175) (x := v3) (ty := .int) dX12_count_175 rfl rfl rfl (by decide) ⟨rfl, _, rfl, w⟩
    · have w := w.2.2.2.2.2.2.2 hcs
      refine r_tswOut (pc := 57) (x := v1) (tgt := 176) dX12_count_57 hr3 (by omega) (by decide) ?_
      refine r_iconst (pc := 176) dX12_count_176 ?_
      exact r_iret (st := []) (pc := 177) (x := (-1)) (ty := .int) dX12_count_177 rfl rfl rfl (by decide) ⟨rfl, _, rfl, w⟩
  · have w := w.2 (c)
    refine r_iload_n (pc := 18) (x := v2) dX12_count_18 rfl ?_
    refine r_aload_n (pc := 19) (a := 81) dX12_count_19 rfl ?_
    refine r_getR (pc := 20) (b := 92) fl_X12_40 dX12_count_20 s0_81 rfl ?_
    refine r_iload (pc := 23) (x := v4) dX12_count_23 rfl ?_
    obtain ⟨hb10, w⟩ := w
    refine r_iald (pc := 25) (i := v4) (x := (h 92 v4)) dX12_count_25 s0_92 ⟨hb10.1, hb10.2, (by decide)⟩ (rfl) ?_
    refine r_iconst (pc := 26) dX12_count_26 ?_
    obtain ⟨hr11, w⟩ := w
    have kk13 : RR mX12_count 0 0 35 [some (.ref 81), some (.int (zI v1)), some (.int (zI v2)), some (.int (zI v3)), some (.int (zI v4))] [.int (zI (bI (if (h 92 v4) = 2 then true else false))), .int (zI v2)] zS0 h (zQi zS0 K) := by
      refine r_iadd (pc := 35) (x := v2) (y := (bI (if (h 92 v4) = 2 then true else false))) dX12_count_35 ?_
      refine r_istore_n (pc := 36) (L' := [some (.ref 81), some (.int (zI v1)), some (.int (zI (v2 + (bI (if (h 92 v4) = 2 then true else false))))), some (.int (zI v3)), some (.int (zI v4))]) dX12_count_36 (by decide) rfl ?_
      refine r_iload_n (pc := 37) (x := v3) dX12_count_37 rfl ?_
      refine r_aload_n (pc := 38) (a := 81) dX12_count_38 rfl ?_
      refine r_getR (pc := 39) (b := 92) fl_X12_40 dX12_count_39 s0_81 rfl ?_
      refine r_bipush (pc := 42) (x := 36) dX12_count_42 (by decide) ?_
      refine r_iload (pc := 44) (x := v4) dX12_count_44 rfl ?_
      refine r_iadd (pc := 46) (x := 36) (y := v4) dX12_count_46 ?_
      obtain ⟨hb12, w⟩ := w
      refine r_iald (pc := 47) (i := (36 + v4)) (x := (h 92 (36 + v4))) dX12_count_47 s0_92 ⟨hb12.1, hb12.2, (by decide)⟩ (rfl) ?_
      refine r_iadd (pc := 48) (x := v3) (y := (h 92 (36 + v4))) dX12_count_48 ?_
      refine r_istore_n (pc := 49) (L' := [some (.ref 81), some (.int (zI v1)), some (.int (zI (v2 + (bI (if (h 92 v4) = 2 then true else false))))), some (.int (zI (v3 + (h 92 (36 + v4))))), some (.int (zI v4))]) dX12_count_49 (by decide) rfl ?_
      refine r_iinc (pc := 50) (x := v4) (L' := [some (.ref 81), some (.int (zI v1)), some (.int (zI (v2 + (bI (if (h 92 v4) = 2 then true else false))))), some (.int (zI (v3 + (h 92 (36 + v4))))), some (.int (zI (v4 + 1)))]) dX12_count_50 rfl (by decide) rfl ?_
      refine r_goto (pc := 53) (tgt := 11) dX12_count_53 (by decide) ?_
      exact w
    refine r_icmp_ne (pc := 27) (x := (h 92 v4)) (y := 2) (tgt := 34) dX12_count_27 (by decide) hr11 (by decide) (fun c => ?_) (fun c => ?_)
    · refine r_iconst (pc := 34) dX12_count_34 ?_
      simp only [if_neg (c)] at kk13 ⊢
      exact kk13
    · refine r_iconst (pc := 30) dX12_count_30 ?_
      refine r_goto (pc := 31) (tgt := 35) dX12_count_31 (by decide) ?_
      simp only [if_pos (c)] at kk13 ⊢
      exact kk13
