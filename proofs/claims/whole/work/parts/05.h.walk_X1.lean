set_option maxRecDepth 100000 in
set_option maxHeartbeats 4000000 in
theorem wX1_layOn {h : zMm} {K : zMm → Prop} {v1 : Int} (w : zCb mX11_isCell [.int (zI v1)] zS0 h (fun b1 h1 => (zR (h1 25 2) ∧ ((b1 = false → K h1) ∧ (b1 = true → ((121 ≤ (h1 25 2) → K h1) ∧ (¬ 121 ≤ (h1 25 2) → ((0 ≤ (h1 25 2) ∧ (h1 25 2) < 121) ∧ ((0 ≤ v1 ∧ v1 < 36) ∧ K (zU (zU (zU h1 26 (h1 25 2) v1) 25 2 ((h1 25 2) + 1)) 27 v1 ((h1 27 v1) + 1))))))))))) : zCv mX1_layOn [.ref 25, .int (zI v1)] zS0 h K := by
  show RR mX1_layOn 0 0 0 [some (.ref 25), some (.int (zI v1))] [] zS0 h (zQv zS0 K)
  refine r_iload_n (pc := 0) (x := v1) dX1_layOn_0 rfl ?_
  refine r_callSN (μ2 := mX11_isCell) (pc := 1) (as := [.int (zI v1)]) (st := []) mn_X1_73 sm_X11_isCell okX11_isCell ⟨by decide, by decide⟩ dX1_layOn_1 (Nat.le_of_ble_eq_true rfl) rfl (Nat.le_of_ble_eq_true rfl) (by decide) (by decide) (zCC.mono w ?_)
  rintro r S' h1 ⟨rfl, b1, hr, w⟩
  subst hr
  show RR mX1_layOn 0 0 4 [some (.ref 25), some (.int (zI v1))] [.int (zI (bI b1))] zS0 h1 (zQv zS0 K)
  obtain ⟨hr3, w⟩ := w
  refine r_if_eq (pc := 4) (x := (bI b1)) (tgt := 49) dX1_layOn_4 (by decide) (bI_R _) (fun c => ?_) (fun c => ?_)
  · have w := w.1 (bI_0.mp c)
    exact r_ret (st := []) (pc := 49) dX1_layOn_49 rfl rfl (by decide) ⟨rfl, rfl, w⟩
  · have w := w.2 (bI_n.mp c)
    refine r_aload_n (pc := 7) (a := 25) dX1_layOn_7 rfl ?_
    refine r_getI (pc := 8) (fi := 2) (x := (h1 25 2)) fl_X1_57 dX1_layOn_8 s0_25 rfl (rfl) ?_
    refine r_aload_n (pc := 11) (a := 25) dX1_layOn_11 rfl ?_
    refine r_getR (pc := 12) (b := 26) fl_X1_9 dX1_layOn_12 s0_25 rfl ?_
    refine r_alen (pc := 15) (t0 := 0) (ty := .int) (x := 121) dX1_layOn_15 s0_26 (by decide) rfl ?_
    refine r_icmp_ge (pc := 16) (x := (h1 25 2)) (y := 121) (tgt := 49) dX1_layOn_16 (by decide) hr3 (by decide) (fun c => ?_) (fun c => ?_)
    · have w := w.1 (c)
      exact r_ret (st := []) (pc := 49) dX1_layOn_49 rfl rfl (by decide) ⟨rfl, rfl, w⟩
    · have w := w.2 (c)
      refine r_aload_n (pc := 19) (a := 25) dX1_layOn_19 rfl ?_
      refine r_getR (pc := 20) (b := 26) fl_X1_9 dX1_layOn_20 s0_25 rfl ?_
      refine r_aload_n (pc := 23) (a := 25) dX1_layOn_23 rfl ?_
      refine r_getI (pc := 24) (fi := 2) (x := (h1 25 2)) fl_X1_57 dX1_layOn_24 s0_25 rfl (rfl) ?_
      refine r_iload_n (pc := 27) (x := v1) dX1_layOn_27 rfl ?_
      obtain ⟨hb5, w⟩ := w
      refine r_iast (pc := 28) (i := (h1 25 2)) (x := v1) dX1_layOn_28 s0_26 ⟨hb5.1, hb5.2, (by decide)⟩  ?_
      refine r_aload_n (pc := 29) (a := 25) dX1_layOn_29 rfl ?_
      refine r_dup (pc := 30) rfl dX1_layOn_30 ?_
      refine r_getI (pc := 31) (fi := 2) (x := (h1 25 2)) fl_X1_57 dX1_layOn_31 s0_25 rfl (zU_ne (by omega)) ?_
      refine r_iconst (pc := 34) dX1_layOn_34 ?_
      refine r_iadd (pc := 35) (x := (h1 25 2)) (y := 1) dX1_layOn_35 ?_
      refine r_putI (pc := 36) (fi := 2) (x := ((h1 25 2) + 1)) fl_X1_57 dX1_layOn_36 s0_25 rfl ?_
      refine r_aload_n (pc := 39) (a := 25) dX1_layOn_39 rfl ?_
      refine r_getR (pc := 40) (b := 27) fl_X1_15 dX1_layOn_40 s0_25 rfl ?_
      refine r_iload_n (pc := 43) (x := v1) dX1_layOn_43 rfl ?_
      refine r_dup2 (pc := 44) rfl rfl dX1_layOn_44 ?_
      obtain ⟨hb6, w⟩ := w
      refine r_iald (pc := 45) (i := v1) (x := (h1 27 v1)) dX1_layOn_45 s0_27 ⟨hb6.1, hb6.2, (by decide)⟩ ((zU_ne (by omega)).trans (zU_ne (by omega))) ?_
      refine r_iconst (pc := 46) dX1_layOn_46 ?_
      refine r_iadd (pc := 47) (x := (h1 27 v1)) (y := 1) dX1_layOn_47 ?_
      refine r_iast (pc := 48) (i := v1) (x := ((h1 27 v1) + 1)) dX1_layOn_48 s0_27 ⟨by omega, by omega, (by decide)⟩  ?_
      exact r_ret (st := []) (pc := 49) dX1_layOn_49 rfl rfl (by decide) ⟨rfl, rfl, w⟩

set_option maxRecDepth 100000 in
set_option maxHeartbeats 4000000 in
theorem wX1_drawTo {h : zMm} {K : zMm → Prop} {v1 : Int} {v2 : Int} (w : (zR (h 25 2) ∧ (((h 25 2) < 2 → ((0 ≤ v1 ∧ v1 < 36) ∧ (zR (h 27 v1) ∧ (((h 27 v1) ≤ 0 → zCv mX1_layOn [.ref 25, .int (zI v1)] zS0 (zU h 25 3 ((h 25 3) + 1)) (fun h4 => (zR (h4 25 5) ∧ (zR ((h4 25 2) - 1) ∧ (zR v2 ∧ (zR (h4 25 7) ∧ ((((h4 25 2) - 1) ≤ v2 → K (zU h4 25 5 (max (h4 25 5) ((h4 25 2) - 1)))) ∧ (¬ ((h4 25 2) - 1) ≤ v2 → ((¬ (h4 25 7) = 0 → K (zU h4 25 5 (max (h4 25 5) ((h4 25 2) - 1)))) ∧ ((h4 25 7) = 0 → K (zU (zU h4 25 5 (max (h4 25 5) ((h4 25 2) - 1))) 25 7 (h4 25 3)))))))))))) ∧ (¬ (h 27 v1) ≤ 0 → (zR (h 25 6) ∧ zCv mX1_layOn [.ref 25, .int (zI v1)] zS0 (zU (zU (zU h 25 3 ((h 25 3) + 1)) 25 4 ((h 25 4) + 1)) 25 6 (if (h 25 6) = 0 then ((h 25 3) + 1) else (h 25 6))) (fun h12 => (zR (h12 25 5) ∧ (zR ((h12 25 2) - 1) ∧ (zR v2 ∧ (zR (h12 25 7) ∧ ((((h12 25 2) - 1) ≤ v2 → K (zU h12 25 5 (max (h12 25 5) ((h12 25 2) - 1)))) ∧ (¬ ((h12 25 2) - 1) ≤ v2 → ((¬ (h12 25 7) = 0 → K (zU h12 25 5 (max (h12 25 5) ((h12 25 2) - 1)))) ∧ ((h12 25 7) = 0 → K (zU (zU h12 25 5 (max (h12 25 5) ((h12 25 2) - 1))) 25 7 (h12 25 3))))))))))))))))) ∧ (¬ (h 25 2) < 2 → ((0 ≤ ((h 25 2) - 2) ∧ ((h 25 2) - 2) < 121) ∧ (zR (h 26 ((h 25 2) - 2)) ∧ (zR v1 ∧ ((¬ (h 26 ((h 25 2) - 2)) = v1 → ((0 ≤ v1 ∧ v1 < 36) ∧ (zR (h 27 v1) ∧ (((h 27 v1) ≤ 0 → zCv mX1_layOn [.ref 25, .int (zI v1)] zS0 (zU h 25 3 ((h 25 3) + 1)) (fun h25 => (zR (h25 25 5) ∧ (zR ((h25 25 2) - 1) ∧ (zR v2 ∧ (zR (h25 25 7) ∧ ((((h25 25 2) - 1) ≤ v2 → K (zU h25 25 5 (max (h25 25 5) ((h25 25 2) - 1)))) ∧ (¬ ((h25 25 2) - 1) ≤ v2 → ((¬ (h25 25 7) = 0 → K (zU h25 25 5 (max (h25 25 5) ((h25 25 2) - 1)))) ∧ ((h25 25 7) = 0 → K (zU (zU h25 25 5 (max (h25 25 5) ((h25 25 2) - 1))) 25 7 (h25 25 3)))))))))))) ∧ (¬ (h 27 v1) ≤ 0 → (zR (h 25 6) ∧ zCv mX1_layOn [.ref 25, .int (zI v1)] zS0 (zU (zU (zU h 25 3 ((h 25 3) + 1)) 25 4 ((h 25 4) + 1)) 25 6 (if (h 25 6) = 0 then ((h 25 3) + 1) else (h 25 6))) (fun h33 => (zR (h33 25 5) ∧ (zR ((h33 25 2) - 1) ∧ (zR v2 ∧ (zR (h33 25 7) ∧ ((((h33 25 2) - 1) ≤ v2 → K (zU h33 25 5 (max (h33 25 5) ((h33 25 2) - 1)))) ∧ (¬ ((h33 25 2) - 1) ≤ v2 → ((¬ (h33 25 7) = 0 → K (zU h33 25 5 (max (h33 25 5) ((h33 25 2) - 1)))) ∧ ((h33 25 7) = 0 → K (zU (zU h33 25 5 (max (h33 25 5) ((h33 25 2) - 1))) 25 7 (h33 25 3))))))))))))))))) ∧ ((h 26 ((h 25 2) - 2)) = v1 → ((0 ≤ ((h 25 2) - 1) ∧ ((h 25 2) - 1) < 121) ∧ ((0 ≤ (h 26 ((h 25 2) - 1)) ∧ (h 26 ((h 25 2) - 1)) < 36) ∧ (zR (h 25 5) ∧ (zR (((h 25 2) - 1) - 1) ∧ (zR v2 ∧ (zR (h 25 7) ∧ (((((h 25 2) - 1) - 1) ≤ v2 → K (zU (zU (zU (zU h 25 3 ((h 25 3) + 1)) 25 2 ((h 25 2) - 1)) 27 (h 26 ((h 25 2) - 1)) ((h 27 (h 26 ((h 25 2) - 1))) - 1)) 25 5 (max (h 25 5) (((h 25 2) - 1) - 1)))) ∧ (¬ (((h 25 2) - 1) - 1) ≤ v2 → ((¬ (h 25 7) = 0 → K (zU (zU (zU (zU h 25 3 ((h 25 3) + 1)) 25 2 ((h 25 2) - 1)) 27 (h 26 ((h 25 2) - 1)) ((h 27 (h 26 ((h 25 2) - 1))) - 1)) 25 5 (max (h 25 5) (((h 25 2) - 1) - 1)))) ∧ ((h 25 7) = 0 → K (zU (zU (zU (zU (zU h 25 3 ((h 25 3) + 1)) 25 2 ((h 25 2) - 1)) 27 (h 26 ((h 25 2) - 1)) ((h 27 (h 26 ((h 25 2) - 1))) - 1)) 25 5 (max (h 25 5) (((h 25 2) - 1) - 1))) 25 7 ((h 25 3) + 1))))))))))))))))))))) : zCv mX1_drawTo [.ref 25, .int (zI v1), .int (zI v2)] zS0 h K := by
  show RR mX1_drawTo 0 0 0 [some (.ref 25), some (.int (zI v1)), some (.int (zI v2))] [] zS0 h (zQv zS0 K)
  refine r_aload_n (pc := 0) (a := 25) dX1_drawTo_0 rfl ?_
  refine r_dup (pc := 1) rfl dX1_drawTo_1 ?_
  refine r_getI (pc := 2) (fi := 3) (x := (h 25 3)) fl_X1_37 dX1_drawTo_2 s0_25 rfl (rfl) ?_
  refine r_iconst (pc := 5) dX1_drawTo_5 ?_
  refine r_iadd (pc := 6) (x := (h 25 3)) (y := 1) dX1_drawTo_6 ?_
  refine r_putI (pc := 7) (fi := 3) (x := ((h 25 3) + 1)) fl_X1_37 dX1_drawTo_7 s0_25 rfl ?_
  refine r_aload_n (pc := 10) (a := 25) dX1_drawTo_10 rfl ?_
  refine r_getI (pc := 11) (fi := 2) (x := (h 25 2)) fl_X1_57 dX1_drawTo_11 s0_25 rfl (zU_ne (by omega)) ?_
  refine r_iconst (pc := 14) dX1_drawTo_14 ?_
  obtain ⟨hr1, w⟩ := w
  refine r_icmp_lt (pc := 15) (x := (h 25 2)) (y := 2) (tgt := 64) dX1_drawTo_15 (by decide) hr1 (by decide) (fun c => ?_) (fun c => ?_)
  · have w := w.1 (c)
    refine r_aload_n (pc := 64) (a := 25) dX1_drawTo_64 rfl ?_
    refine r_getR (pc := 65) (b := 27) fl_X1_15 dX1_drawTo_65 s0_25 rfl ?_
    refine r_iload_n (pc := 68) (x := v1) dX1_drawTo_68 rfl ?_
    obtain ⟨hb2, w⟩ := w
    refine r_iald (pc := 69) (i := v1) (x := (h 27 v1)) dX1_drawTo_69 s0_27 ⟨hb2.1, hb2.2, (by decide)⟩ (zU_ne (by omega)) ?_
    obtain ⟨hr3, w⟩ := w
    refine r_if_le (pc := 70) (x := (h 27 v1)) (tgt := 105) dX1_drawTo_70 (by decide) hr3 (fun c => ?_) (fun c => ?_)
    · have w := w.1 (c)
      refine r_aload_n (pc := 105) (a := 25) dX1_drawTo_105 rfl ?_
      refine r_iload_n (pc := 106) (x := v1) dX1_drawTo_106 rfl ?_
      refine r_callV (μ2 := mX1_layOn) (pc := 107) (as := [.int (zI v1)]) (st := []) rfl s0_25 ml_X1_70 im_X1_layOn se_X1_layOn okX1_layOn ⟨by decide, by decide⟩ dX1_drawTo_107 (Nat.le_of_ble_eq_true rfl) rfl (Nat.le_of_ble_eq_true rfl) (by decide) (by decide) (zCC.mono w ?_)
      rintro r S' h4 ⟨rfl, hr, w⟩
      subst hr
      show RR mX1_drawTo 0 0 110 [some (.ref 25), some (.int (zI v1)), some (.int (zI v2))] [] zS0 h4 (zQv zS0 K)
      refine r_aload_n (pc := 110) (a := 25) dX1_drawTo_110 rfl ?_
      refine r_aload_n (pc := 111) (a := 25) dX1_drawTo_111 rfl ?_
      refine r_getI (pc := 112) (fi := 5) (x := (h4 25 5)) fl_X1_61 dX1_drawTo_112 s0_25 rfl (rfl) ?_
      refine r_aload_n (pc := 115) (a := 25) dX1_drawTo_115 rfl ?_
      refine r_getI (pc := 116) (fi := 2) (x := (h4 25 2)) fl_X1_57 dX1_drawTo_116 s0_25 rfl (rfl) ?_
      refine r_iconst (pc := 119) dX1_drawTo_119 ?_
      refine r_isub (pc := 120) (x := (h4 25 2)) (y := 1) dX1_drawTo_120 ?_
      obtain ⟨hr5, w⟩ := w
      obtain ⟨hr6, w⟩ := w
      refine r_max (pc := 121) (x := (h4 25 5)) (y := ((h4 25 2) - 1)) ml_X1_77 mm_max_s it_J9 mm_max_c dX1_drawTo_121 (by decide) (by decide) (by decide) (by decide) hr5 hr6 ?_
      refine r_putI (pc := 124) (fi := 5) (x := (max (h4 25 5) ((h4 25 2) - 1))) fl_X1_61 dX1_drawTo_124 s0_25 rfl ?_
      refine r_aload_n (pc := 127) (a := 25) dX1_drawTo_127 rfl ?_
      refine r_getI (pc := 128) (fi := 2) (x := (h4 25 2)) fl_X1_57 dX1_drawTo_128 s0_25 rfl (zU_ne (by omega)) ?_
      refine r_iconst (pc := 131) dX1_drawTo_131 ?_
      refine r_isub (pc := 132) (x := (h4 25 2)) (y := 1) dX1_drawTo_132 ?_
      refine r_iload_n (pc := 133) (x := v2) dX1_drawTo_133 rfl ?_
      obtain ⟨hr7, w⟩ := w
      obtain ⟨hr9, w⟩ := w
      refine r_icmp_le (pc := 134) (x := ((h4 25 2) - 1)) (y := v2) (tgt := 152) dX1_drawTo_134 (by decide) hr6 hr7 (fun c => ?_) (fun c => ?_)
      · have w := w.1 (c)
        exact r_ret (st := []) (pc := 152) dX1_drawTo_152 rfl rfl (by decide) ⟨rfl, rfl, w⟩
      · have w := w.2 (c)
        refine r_aload_n (pc := 137) (a := 25) dX1_drawTo_137 rfl ?_
        refine r_getI (pc := 138) (fi := 7) (x := (h4 25 7)) fl_X1_67 dX1_drawTo_138 s0_25 rfl (zU_ne (by omega)) ?_
        refine r_if_ne (pc := 141) (x := (h4 25 7)) (tgt := 152) dX1_drawTo_141 (by decide) hr9 (fun c => ?_) (fun c => ?_)
        · have w := w.1 (c)
          exact r_ret (st := []) (pc := 152) dX1_drawTo_152 rfl rfl (by decide) ⟨rfl, rfl, w⟩
        · have w := w.2 (c)
          refine r_aload_n (pc := 144) (a := 25) dX1_drawTo_144 rfl ?_
          refine r_aload_n (pc := 145) (a := 25) dX1_drawTo_145 rfl ?_
          refine r_getI (pc := 146) (fi := 3) (x := (h4 25 3)) fl_X1_37 dX1_drawTo_146 s0_25 rfl (zU_ne (by omega)) ?_
          refine r_putI (pc := 149) (fi := 7) (x := (h4 25 3)) fl_X1_67 dX1_drawTo_149 s0_25 rfl ?_
          exact r_ret (st := []) (pc := 152) dX1_drawTo_152 rfl rfl (by decide) ⟨rfl, rfl, w⟩
    · have w := w.2 (c)
      refine r_aload_n (pc := 73) (a := 25) dX1_drawTo_73 rfl ?_
      refine r_dup (pc := 74) rfl dX1_drawTo_74 ?_
      refine r_getI (pc := 75) (fi := 4) (x := (h 25 4)) fl_X1_58 dX1_drawTo_75 s0_25 rfl (zU_ne (by omega)) ?_
      refine r_iconst (pc := 78) dX1_drawTo_78 ?_
      refine r_iadd (pc := 79) (x := (h 25 4)) (y := 1) dX1_drawTo_79 ?_
      refine r_putI (pc := 80) (fi := 4) (x := ((h 25 4) + 1)) fl_X1_58 dX1_drawTo_80 s0_25 rfl ?_
      refine r_aload_n (pc := 83) (a := 25) dX1_drawTo_83 rfl ?_
      refine r_aload_n (pc := 84) (a := 25) dX1_drawTo_84 rfl ?_
      refine r_getI (pc := 85) (fi := 6) (x := (h 25 6)) fl_X1_64 dX1_drawTo_85 s0_25 rfl ((zU_ne (by omega)).trans (zU_ne (by omega))) ?_
      obtain ⟨hr11, w⟩ := w
      have kk19 : RR mX1_drawTo 0 0 102 [some (.ref 25), some (.int (zI v1)), some (.int (zI v2))] [.int (zI (if (h 25 6) = 0 then ((h 25 3) + 1) else (h 25 6))), .ref 25] zS0 (zU (zU h 25 3 ((h 25 3) + 1)) 25 4 ((h 25 4) + 1)) (zQv zS0 K) := by
        refine r_putI (pc := 102) (fi := 6) (x := (if (h 25 6) = 0 then ((h 25 3) + 1) else (h 25 6))) fl_X1_64 dX1_drawTo_102 s0_25 rfl ?_
        refine r_aload_n (pc := 105) (a := 25) dX1_drawTo_105 rfl ?_
        refine r_iload_n (pc := 106) (x := v1) dX1_drawTo_106 rfl ?_
        refine r_callV (μ2 := mX1_layOn) (pc := 107) (as := [.int (zI v1)]) (st := []) rfl s0_25 ml_X1_70 im_X1_layOn se_X1_layOn okX1_layOn ⟨by decide, by decide⟩ dX1_drawTo_107 (Nat.le_of_ble_eq_true rfl) rfl (Nat.le_of_ble_eq_true rfl) (by decide) (by decide) (zCC.mono w ?_)
        rintro r S' h12 ⟨rfl, hr, w⟩
        subst hr
        show RR mX1_drawTo 0 0 110 [some (.ref 25), some (.int (zI v1)), some (.int (zI v2))] [] zS0 h12 (zQv zS0 K)
        refine r_aload_n (pc := 110) (a := 25) dX1_drawTo_110 rfl ?_
        refine r_aload_n (pc := 111) (a := 25) dX1_drawTo_111 rfl ?_
        refine r_getI (pc := 112) (fi := 5) (x := (h12 25 5)) fl_X1_61 dX1_drawTo_112 s0_25 rfl (rfl) ?_
        refine r_aload_n (pc := 115) (a := 25) dX1_drawTo_115 rfl ?_
        refine r_getI (pc := 116) (fi := 2) (x := (h12 25 2)) fl_X1_57 dX1_drawTo_116 s0_25 rfl (rfl) ?_
        refine r_iconst (pc := 119) dX1_drawTo_119 ?_
        refine r_isub (pc := 120) (x := (h12 25 2)) (y := 1) dX1_drawTo_120 ?_
        obtain ⟨hr13, w⟩ := w
        obtain ⟨hr14, w⟩ := w
        refine r_max (pc := 121) (x := (h12 25 5)) (y := ((h12 25 2) - 1)) ml_X1_77 mm_max_s it_J9 mm_max_c dX1_drawTo_121 (by decide) (by decide) (by decide) (by decide) hr13 hr14 ?_
        refine r_putI (pc := 124) (fi := 5) (x := (max (h12 25 5) ((h12 25 2) - 1))) fl_X1_61 dX1_drawTo_124 s0_25 rfl ?_
        refine r_aload_n (pc := 127) (a := 25) dX1_drawTo_127 rfl ?_
        refine r_getI (pc := 128) (fi := 2) (x := (h12 25 2)) fl_X1_57 dX1_drawTo_128 s0_25 rfl (zU_ne (by omega)) ?_
        refine r_iconst (pc := 131) dX1_drawTo_131 ?_
        refine r_isub (pc := 132) (x := (h12 25 2)) (y := 1) dX1_drawTo_132 ?_
        refine r_iload_n (pc := 133) (x := v2) dX1_drawTo_133 rfl ?_
        obtain ⟨hr15, w⟩ := w
        obtain ⟨hr17, w⟩ := w
        refine r_icmp_le (pc := 134) (x := ((h12 25 2) - 1)) (y := v2) (tgt := 152) dX1_drawTo_134 (by decide) hr14 hr15 (fun c => ?_) (fun c => ?_)
        · have w := w.1 (c)
          exact r_ret (st := []) (pc := 152) dX1_drawTo_152 rfl rfl (by decide) ⟨rfl, rfl, w⟩
        · have w := w.2 (c)
          refine r_aload_n (pc := 137) (a := 25) dX1_drawTo_137 rfl ?_
          refine r_getI (pc := 138) (fi := 7) (x := (h12 25 7)) fl_X1_67 dX1_drawTo_138 s0_25 rfl (zU_ne (by omega)) ?_
          refine r_if_ne (pc := 141) (x := (h12 25 7)) (tgt := 152) dX1_drawTo_141 (by decide) hr17 (fun c => ?_) (fun c => ?_)
          · have w := w.1 (c)
            exact r_ret (st := []) (pc := 152) dX1_drawTo_152 rfl rfl (by decide) ⟨rfl, rfl, w⟩
          · have w := w.2 (c)
            refine r_aload_n (pc := 144) (a := 25) dX1_drawTo_144 rfl ?_
            refine r_aload_n (pc := 145) (a := 25) dX1_drawTo_145 rfl ?_
            refine r_getI (pc := 146) (fi := 3) (x := (h12 25 3)) fl_X1_37 dX1_drawTo_146 s0_25 rfl (zU_ne (by omega)) ?_
            refine r_putI (pc := 149) (fi := 7) (x := (h12 25 3)) fl_X1_67 dX1_drawTo_149 s0_25 rfl ?_
            exact r_ret (st := []) (pc := 152) dX1_drawTo_152 rfl rfl (by decide) ⟨rfl, rfl, w⟩
      refine r_if_ne (pc := 88) (x := (h 25 6)) (tgt := 98) dX1_drawTo_88 (by decide) hr11 (fun c => ?_) (fun c => ?_)
      · refine r_aload_n (pc := 98) (a := 25) dX1_drawTo_98 rfl ?_
        refine r_getI (pc := 99) (fi := 6) (x := (h 25 6)) fl_X1_64 dX1_drawTo_99 s0_25 rfl ((zU_ne (by omega)).trans (zU_ne (by omega))) ?_
        simp only [if_neg (c)] at kk19 ⊢
        exact kk19
      · refine r_aload_n (pc := 91) (a := 25) dX1_drawTo_91 rfl ?_
        refine r_getI (pc := 92) (fi := 3) (x := ((h 25 3) + 1)) fl_X1_37 dX1_drawTo_92 s0_25 rfl ((zU_ne (by omega)).trans (zU_eq _ _ _ _)) ?_
        refine r_goto (pc := 95) (tgt := 102) dX1_drawTo_95 (by decide) ?_
        simp only [if_pos (c)] at kk19 ⊢
        exact kk19
  · have w := w.2 (c)
    refine r_aload_n (pc := 18) (a := 25) dX1_drawTo_18 rfl ?_
    refine r_getR (pc := 19) (b := 26) fl_X1_9 dX1_drawTo_19 s0_25 rfl ?_
    refine r_aload_n (pc := 22) (a := 25) dX1_drawTo_22 rfl ?_
    refine r_getI (pc := 23) (fi := 2) (x := (h 25 2)) fl_X1_57 dX1_drawTo_23 s0_25 rfl (zU_ne (by omega)) ?_
    refine r_iconst (pc := 26) dX1_drawTo_26 ?_
    refine r_isub (pc := 27) (x := (h 25 2)) (y := 2) dX1_drawTo_27 ?_
    obtain ⟨hb20, w⟩ := w
    refine r_iald (pc := 28) (i := ((h 25 2) - 2)) (x := (h 26 ((h 25 2) - 2))) dX1_drawTo_28 s0_26 ⟨hb20.1, hb20.2, (by decide)⟩ (zU_ne (by omega)) ?_
    refine r_iload_n (pc := 29) (x := v1) dX1_drawTo_29 rfl ?_
    obtain ⟨hr21, w⟩ := w
    obtain ⟨hr22, w⟩ := w
    refine r_icmp_ne (pc := 30) (x := (h 26 ((h 25 2) - 2))) (y := v1) (tgt := 64) dX1_drawTo_30 (by decide) hr21 hr22 (fun c => ?_) (fun c => ?_)
    · have w := w.1 (c)
      refine r_aload_n (pc := 64) (a := 25) dX1_drawTo_64 rfl ?_
      refine r_getR (pc := 65) (b := 27) fl_X1_15 dX1_drawTo_65 s0_25 rfl ?_
      refine r_iload_n (pc := 68) (x := v1) dX1_drawTo_68 rfl ?_
      obtain ⟨hb23, w⟩ := w
      refine r_iald (pc := 69) (i := v1) (x := (h 27 v1)) dX1_drawTo_69 s0_27 ⟨hb23.1, hb23.2, (by decide)⟩ (zU_ne (by omega)) ?_
      obtain ⟨hr24, w⟩ := w
      refine r_if_le (pc := 70) (x := (h 27 v1)) (tgt := 105) dX1_drawTo_70 (by decide) hr24 (fun c => ?_) (fun c => ?_)
      · have w := w.1 (c)
        refine r_aload_n (pc := 105) (a := 25) dX1_drawTo_105 rfl ?_
        refine r_iload_n (pc := 106) (x := v1) dX1_drawTo_106 rfl ?_
        refine r_callV (μ2 := mX1_layOn) (pc := 107) (as := [.int (zI v1)]) (st := []) rfl s0_25 ml_X1_70 im_X1_layOn se_X1_layOn okX1_layOn ⟨by decide, by decide⟩ dX1_drawTo_107 (Nat.le_of_ble_eq_true rfl) rfl (Nat.le_of_ble_eq_true rfl) (by decide) (by decide) (zCC.mono w ?_)
        rintro r S' h25 ⟨rfl, hr, w⟩
        subst hr
        show RR mX1_drawTo 0 0 110 [some (.ref 25), some (.int (zI v1)), some (.int (zI v2))] [] zS0 h25 (zQv zS0 K)
        refine r_aload_n (pc := 110) (a := 25) dX1_drawTo_110 rfl ?_
        refine r_aload_n (pc := 111) (a := 25) dX1_drawTo_111 rfl ?_
        refine r_getI (pc := 112) (fi := 5) (x := (h25 25 5)) fl_X1_61 dX1_drawTo_112 s0_25 rfl (rfl) ?_
        refine r_aload_n (pc := 115) (a := 25) dX1_drawTo_115 rfl ?_
        refine r_getI (pc := 116) (fi := 2) (x := (h25 25 2)) fl_X1_57 dX1_drawTo_116 s0_25 rfl (rfl) ?_
        refine r_iconst (pc := 119) dX1_drawTo_119 ?_
        refine r_isub (pc := 120) (x := (h25 25 2)) (y := 1) dX1_drawTo_120 ?_
        obtain ⟨hr26, w⟩ := w
        obtain ⟨hr27, w⟩ := w
        refine r_max (pc := 121) (x := (h25 25 5)) (y := ((h25 25 2) - 1)) ml_X1_77 mm_max_s it_J9 mm_max_c dX1_drawTo_121 (by decide) (by decide) (by decide) (by decide) hr26 hr27 ?_
        refine r_putI (pc := 124) (fi := 5) (x := (max (h25 25 5) ((h25 25 2) - 1))) fl_X1_61 dX1_drawTo_124 s0_25 rfl ?_
        refine r_aload_n (pc := 127) (a := 25) dX1_drawTo_127 rfl ?_
        refine r_getI (pc := 128) (fi := 2) (x := (h25 25 2)) fl_X1_57 dX1_drawTo_128 s0_25 rfl (zU_ne (by omega)) ?_
        refine r_iconst (pc := 131) dX1_drawTo_131 ?_
        refine r_isub (pc := 132) (x := (h25 25 2)) (y := 1) dX1_drawTo_132 ?_
        refine r_iload_n (pc := 133) (x := v2) dX1_drawTo_133 rfl ?_
        obtain ⟨hr28, w⟩ := w
        obtain ⟨hr30, w⟩ := w
        refine r_icmp_le (pc := 134) (x := ((h25 25 2) - 1)) (y := v2) (tgt := 152) dX1_drawTo_134 (by decide) hr27 hr28 (fun c => ?_) (fun c => ?_)
        · have w := w.1 (c)
          exact r_ret (st := []) (pc := 152) dX1_drawTo_152 rfl rfl (by decide) ⟨rfl, rfl, w⟩
        · have w := w.2 (c)
          refine r_aload_n (pc := 137) (a := 25) dX1_drawTo_137 rfl ?_
          refine r_getI (pc := 138) (fi := 7) (x := (h25 25 7)) fl_X1_67 dX1_drawTo_138 s0_25 rfl (zU_ne (by omega)) ?_
          refine r_if_ne (pc := 141) (x := (h25 25 7)) (tgt := 152) dX1_drawTo_141 (by decide) hr30 (fun c => ?_) (fun c => ?_)
          · have w := w.1 (c)
            exact r_ret (st := []) (pc := 152) dX1_drawTo_152 rfl rfl (by decide) ⟨rfl, rfl, w⟩
          · have w := w.2 (c)
            refine r_aload_n (pc := 144) (a := 25) dX1_drawTo_144 rfl ?_
            refine r_aload_n (pc := 145) (a := 25) dX1_drawTo_145 rfl ?_
            refine r_getI (pc := 146) (fi := 3) (x := (h25 25 3)) fl_X1_37 dX1_drawTo_146 s0_25 rfl (zU_ne (by omega)) ?_
            refine r_putI (pc := 149) (fi := 7) (x := (h25 25 3)) fl_X1_67 dX1_drawTo_149 s0_25 rfl ?_
            exact r_ret (st := []) (pc := 152) dX1_drawTo_152 rfl rfl (by decide) ⟨rfl, rfl, w⟩
      · have w := w.2 (c)
        refine r_aload_n (pc := 73) (a := 25) dX1_drawTo_73 rfl ?_
        refine r_dup (pc := 74) rfl dX1_drawTo_74 ?_
        refine r_getI (pc := 75) (fi := 4) (x := (h 25 4)) fl_X1_58 dX1_drawTo_75 s0_25 rfl (zU_ne (by omega)) ?_
        refine r_iconst (pc := 78) dX1_drawTo_78 ?_
        refine r_iadd (pc := 79) (x := (h 25 4)) (y := 1) dX1_drawTo_79 ?_
        refine r_putI (pc := 80) (fi := 4) (x := ((h 25 4) + 1)) fl_X1_58 dX1_drawTo_80 s0_25 rfl ?_
        refine r_aload_n (pc := 83) (a := 25) dX1_drawTo_83 rfl ?_
        refine r_aload_n (pc := 84) (a := 25) dX1_drawTo_84 rfl ?_
        refine r_getI (pc := 85) (fi := 6) (x := (h 25 6)) fl_X1_64 dX1_drawTo_85 s0_25 rfl ((zU_ne (by omega)).trans (zU_ne (by omega))) ?_
        obtain ⟨hr32, w⟩ := w
        have kk40 : RR mX1_drawTo 0 0 102 [some (.ref 25), some (.int (zI v1)), some (.int (zI v2))] [.int (zI (if (h 25 6) = 0 then ((h 25 3) + 1) else (h 25 6))), .ref 25] zS0 (zU (zU h 25 3 ((h 25 3) + 1)) 25 4 ((h 25 4) + 1)) (zQv zS0 K) := by
          refine r_putI (pc := 102) (fi := 6) (x := (if (h 25 6) = 0 then ((h 25 3) + 1) else (h 25 6))) fl_X1_64 dX1_drawTo_102 s0_25 rfl ?_
          refine r_aload_n (pc := 105) (a := 25) dX1_drawTo_105 rfl ?_
          refine r_iload_n (pc := 106) (x := v1) dX1_drawTo_106 rfl ?_
          refine r_callV (μ2 := mX1_layOn) (pc := 107) (as := [.int (zI v1)]) (st := []) rfl s0_25 ml_X1_70 im_X1_layOn se_X1_layOn okX1_layOn ⟨by decide, by decide⟩ dX1_drawTo_107 (Nat.le_of_ble_eq_true rfl) rfl (Nat.le_of_ble_eq_true rfl) (by decide) (by decide) (zCC.mono w ?_)
          rintro r S' h33 ⟨rfl, hr, w⟩
          subst hr
          show RR mX1_drawTo 0 0 110 [some (.ref 25), some (.int (zI v1)), some (.int (zI v2))] [] zS0 h33 (zQv zS0 K)
          refine r_aload_n (pc := 110) (a := 25) dX1_drawTo_110 rfl ?_
          refine r_aload_n (pc := 111) (a := 25) dX1_drawTo_111 rfl ?_
          refine r_getI (pc := 112) (fi := 5) (x := (h33 25 5)) fl_X1_61 dX1_drawTo_112 s0_25 rfl (rfl) ?_
          refine r_aload_n (pc := 115) (a := 25) dX1_drawTo_115 rfl ?_
          refine r_getI (pc := 116) (fi := 2) (x := (h33 25 2)) fl_X1_57 dX1_drawTo_116 s0_25 rfl (rfl) ?_
          refine r_iconst (pc := 119) dX1_drawTo_119 ?_
          refine r_isub (pc := 120) (x := (h33 25 2)) (y := 1) dX1_drawTo_120 ?_
          obtain ⟨hr34, w⟩ := w
          obtain ⟨hr35, w⟩ := w
          refine r_max (pc := 121) (x := (h33 25 5)) (y := ((h33 25 2) - 1)) ml_X1_77 mm_max_s it_J9 mm_max_c dX1_drawTo_121 (by decide) (by decide) (by decide) (by decide) hr34 hr35 ?_
          refine r_putI (pc := 124) (fi := 5) (x := (max (h33 25 5) ((h33 25 2) - 1))) fl_X1_61 dX1_drawTo_124 s0_25 rfl ?_
          refine r_aload_n (pc := 127) (a := 25) dX1_drawTo_127 rfl ?_
          refine r_getI (pc := 128) (fi := 2) (x := (h33 25 2)) fl_X1_57 dX1_drawTo_128 s0_25 rfl (zU_ne (by omega)) ?_
          refine r_iconst (pc := 131) dX1_drawTo_131 ?_
          refine r_isub (pc := 132) (x := (h33 25 2)) (y := 1) dX1_drawTo_132 ?_
          refine r_iload_n (pc := 133) (x := v2) dX1_drawTo_133 rfl ?_
          obtain ⟨hr36, w⟩ := w
          obtain ⟨hr38, w⟩ := w
          refine r_icmp_le (pc := 134) (x := ((h33 25 2) - 1)) (y := v2) (tgt := 152) dX1_drawTo_134 (by decide) hr35 hr36 (fun c => ?_) (fun c => ?_)
          · have w := w.1 (c)
            exact r_ret (st := []) (pc := 152) dX1_drawTo_152 rfl rfl (by decide) ⟨rfl, rfl, w⟩
          · have w := w.2 (c)
            refine r_aload_n (pc := 137) (a := 25) dX1_drawTo_137 rfl ?_
            refine r_getI (pc := 138) (fi := 7) (x := (h33 25 7)) fl_X1_67 dX1_drawTo_138 s0_25 rfl (zU_ne (by omega)) ?_
            refine r_if_ne (pc := 141) (x := (h33 25 7)) (tgt := 152) dX1_drawTo_141 (by decide) hr38 (fun c => ?_) (fun c => ?_)
            · have w := w.1 (c)
              exact r_ret (st := []) (pc := 152) dX1_drawTo_152 rfl rfl (by decide) ⟨rfl, rfl, w⟩
            · have w := w.2 (c)
              refine r_aload_n (pc := 144) (a := 25) dX1_drawTo_144 rfl ?_
              refine r_aload_n (pc := 145) (a := 25) dX1_drawTo_145 rfl ?_
              refine r_getI (pc := 146) (fi := 3) (x := (h33 25 3)) fl_X1_37 dX1_drawTo_146 s0_25 rfl (zU_ne (by omega)) ?_
              refine r_putI (pc := 149) (fi := 7) (x := (h33 25 3)) fl_X1_67 dX1_drawTo_149 s0_25 rfl ?_
              exact r_ret (st := []) (pc := 152) dX1_drawTo_152 rfl rfl (by decide) ⟨rfl, rfl, w⟩
        refine r_if_ne (pc := 88) (x := (h 25 6)) (tgt := 98) dX1_drawTo_88 (by decide) hr32 (fun c => ?_) (fun c => ?_)
        · refine r_aload_n (pc := 98) (a := 25) dX1_drawTo_98 rfl ?_
          refine r_getI (pc := 99) (fi := 6) (x := (h 25 6)) fl_X1_64 dX1_drawTo_99 s0_25 rfl ((zU_ne (by omega)).trans (zU_ne (by omega))) ?_
          simp only [if_neg (c)] at kk40 ⊢
          exact kk40
        · refine r_aload_n (pc := 91) (a := 25) dX1_drawTo_91 rfl ?_
          refine r_getI (pc := 92) (fi := 3) (x := ((h 25 3) + 1)) fl_X1_37 dX1_drawTo_92 s0_25 rfl ((zU_ne (by omega)).trans (zU_eq _ _ _ _)) ?_
          refine r_goto (pc := 95) (tgt := 102) dX1_drawTo_95 (by decide) ?_
          simp only [if_pos (c)] at kk40 ⊢
          exact kk40
    · have w := w.2 (c)
      refine r_aload_n (pc := 33) (a := 25) dX1_drawTo_33 rfl ?_
      refine r_dup (pc := 34) rfl dX1_drawTo_34 ?_
      refine r_getI (pc := 35) (fi := 2) (x := (h 25 2)) fl_X1_57 dX1_drawTo_35 s0_25 rfl (zU_ne (by omega)) ?_
      refine r_iconst (pc := 38) dX1_drawTo_38 ?_
      refine r_isub (pc := 39) (x := (h 25 2)) (y := 1) dX1_drawTo_39 ?_
      refine r_putI (pc := 40) (fi := 2) (x := ((h 25 2) - 1)) fl_X1_57 dX1_drawTo_40 s0_25 rfl ?_
      refine r_aload_n (pc := 43) (a := 25) dX1_drawTo_43 rfl ?_
      refine r_getR (pc := 44) (b := 27) fl_X1_15 dX1_drawTo_44 s0_25 rfl ?_
      refine r_aload_n (pc := 47) (a := 25) dX1_drawTo_47 rfl ?_
      refine r_getR (pc := 48) (b := 26) fl_X1_9 dX1_drawTo_48 s0_25 rfl ?_
      refine r_aload_n (pc := 51) (a := 25) dX1_drawTo_51 rfl ?_
      refine r_getI (pc := 52) (fi := 2) (x := ((h 25 2) - 1)) fl_X1_57 dX1_drawTo_52 s0_25 rfl (zU_eq _ _ _ _) ?_
      obtain ⟨hb41, w⟩ := w
      refine r_iald (pc := 55) (i := ((h 25 2) - 1)) (x := (h 26 ((h 25 2) - 1))) dX1_drawTo_55 s0_26 ⟨hb41.1, hb41.2, (by decide)⟩ ((zU_ne (by omega)).trans (zU_ne (by omega))) ?_
      refine r_dup2 (pc := 56) rfl rfl dX1_drawTo_56 ?_
      obtain ⟨hb42, w⟩ := w
      refine r_iald (pc := 57) (i := (h 26 ((h 25 2) - 1))) (x := (h 27 (h 26 ((h 25 2) - 1)))) dX1_drawTo_57 s0_27 ⟨hb42.1, hb42.2, (by decide)⟩ ((zU_ne (by omega)).trans (zU_ne (by omega))) ?_
      refine r_iconst (pc := 58) dX1_drawTo_58 ?_
      refine r_isub (pc := 59) (x := (h 27 (h 26 ((h 25 2) - 1)))) (y := 1) dX1_drawTo_59 ?_
      refine r_iast (pc := 60) (i := (h 26 ((h 25 2) - 1))) (x := ((h 27 (h 26 ((h 25 2) - 1))) - 1)) dX1_drawTo_60 s0_27 ⟨by omega, by omega, (by decide)⟩  ?_
      refine r_goto (pc := 61) (tgt := 110) dX1_drawTo_61 (by decide) ?_
      refine r_aload_n (pc := 110) (a := 25) dX1_drawTo_110 rfl ?_
      refine r_aload_n (pc := 111) (a := 25) dX1_drawTo_111 rfl ?_
      refine r_getI (pc := 112) (fi := 5) (x := (h 25 5)) fl_X1_61 dX1_drawTo_112 s0_25 rfl ((zU_ne (by omega)).trans ((zU_ne (by omega)).trans (zU_ne (by omega)))) ?_
      refine r_aload_n (pc := 115) (a := 25) dX1_drawTo_115 rfl ?_
      refine r_getI (pc := 116) (fi := 2) (x := ((h 25 2) - 1)) fl_X1_57 dX1_drawTo_116 s0_25 rfl ((zU_ne (by omega)).trans (zU_eq _ _ _ _)) ?_
      refine r_iconst (pc := 119) dX1_drawTo_119 ?_
      refine r_isub (pc := 120) (x := ((h 25 2) - 1)) (y := 1) dX1_drawTo_120 ?_
      obtain ⟨hr43, w⟩ := w
      obtain ⟨hr44, w⟩ := w
      refine r_max (pc := 121) (x := (h 25 5)) (y := (((h 25 2) - 1) - 1)) ml_X1_77 mm_max_s it_J9 mm_max_c dX1_drawTo_121 (by decide) (by decide) (by decide) (by decide) hr43 hr44 ?_
      refine r_putI (pc := 124) (fi := 5) (x := (max (h 25 5) (((h 25 2) - 1) - 1))) fl_X1_61 dX1_drawTo_124 s0_25 rfl ?_
      refine r_aload_n (pc := 127) (a := 25) dX1_drawTo_127 rfl ?_
      refine r_getI (pc := 128) (fi := 2) (x := ((h 25 2) - 1)) fl_X1_57 dX1_drawTo_128 s0_25 rfl ((zU_ne (by omega)).trans ((zU_ne (by omega)).trans (zU_eq _ _ _ _))) ?_
      refine r_iconst (pc := 131) dX1_drawTo_131 ?_
      refine r_isub (pc := 132) (x := ((h 25 2) - 1)) (y := 1) dX1_drawTo_132 ?_
      refine r_iload_n (pc := 133) (x := v2) dX1_drawTo_133 rfl ?_
      obtain ⟨hr45, w⟩ := w
      obtain ⟨hr47, w⟩ := w
      refine r_icmp_le (pc := 134) (x := (((h 25 2) - 1) - 1)) (y := v2) (tgt := 152) dX1_drawTo_134 (by decide) hr44 hr45 (fun c => ?_) (fun c => ?_)
      · have w := w.1 (c)
        exact r_ret (st := []) (pc := 152) dX1_drawTo_152 rfl rfl (by decide) ⟨rfl, rfl, w⟩
      · have w := w.2 (c)
        refine r_aload_n (pc := 137) (a := 25) dX1_drawTo_137 rfl ?_
        refine r_getI (pc := 138) (fi := 7) (x := (h 25 7)) fl_X1_67 dX1_drawTo_138 s0_25 rfl ((zU_ne (by omega)).trans ((zU_ne (by omega)).trans ((zU_ne (by omega)).trans (zU_ne (by omega))))) ?_
        refine r_if_ne (pc := 141) (x := (h 25 7)) (tgt := 152) dX1_drawTo_141 (by decide) hr47 (fun c => ?_) (fun c => ?_)
        · have w := w.1 (c)
          exact r_ret (st := []) (pc := 152) dX1_drawTo_152 rfl rfl (by decide) ⟨rfl, rfl, w⟩
        · have w := w.2 (c)
          refine r_aload_n (pc := 144) (a := 25) dX1_drawTo_144 rfl ?_
          refine r_aload_n (pc := 145) (a := 25) dX1_drawTo_145 rfl ?_
          refine r_getI (pc := 146) (fi := 3) (x := ((h 25 3) + 1)) fl_X1_37 dX1_drawTo_146 s0_25 rfl ((zU_ne (by omega)).trans ((zU_ne (by omega)).trans ((zU_ne (by omega)).trans (zU_eq _ _ _ _)))) ?_
          refine r_putI (pc := 149) (fi := 7) (x := ((h 25 3) + 1)) fl_X1_67 dX1_drawTo_149 s0_25 rfl ?_
          exact r_ret (st := []) (pc := 152) dX1_drawTo_152 rfl rfl (by decide) ⟨rfl, rfl, w⟩

set_option maxRecDepth 100000 in
set_option maxHeartbeats 4000000 in
theorem wX1_startAt {h : zMm} {K : zMm → Prop} {v1 : Int} (w : zCv mJ7_fill_53178 [.ref 27, .int (zI 0)] zS0 h (fun h1 => zCv mX1_layOn [.ref 25, .int (zI v1)] zS0 (zU (zU (zU (zU (zU (zU h1 25 2 0) 25 3 0) 25 4 0) 25 5 0) 25 6 0) 25 7 0) (fun h2 => K h2))) : zCv mX1_startAt [.ref 25, .int (zI v1)] zS0 h K := by
  show RR mX1_startAt 0 0 0 [some (.ref 25), some (.int (zI v1))] [] zS0 h (zQv zS0 K)
  refine r_aload_n (pc := 0) (a := 25) dX1_startAt_0 rfl ?_
  refine r_getR (pc := 1) (b := 27) fl_X1_15 dX1_startAt_1 s0_25 rfl ?_
  refine r_iconst (pc := 4) dX1_startAt_4 ?_
  refine r_callS (μ2 := mJ7_fill_53178) (pc := 5) (as := [.ref 27, .int (zI 0)]) (st := []) ml_X1_51 sm_J7_fill_53178 okJ7_fill_53178 ⟨by decide, by decide⟩ dX1_startAt_5 (Nat.le_of_ble_eq_true rfl) rfl (Nat.le_of_ble_eq_true rfl) (by decide) (by decide) (zCC.mono w ?_)
  rintro r S' h1 ⟨rfl, hr, w⟩
  subst hr
  show RR mX1_startAt 0 0 8 [some (.ref 25), some (.int (zI v1))] [] zS0 h1 (zQv zS0 K)
  refine r_aload_n (pc := 8) (a := 25) dX1_startAt_8 rfl ?_
  refine r_iconst (pc := 9) dX1_startAt_9 ?_
  refine r_putI (pc := 10) (fi := 2) (x := 0) fl_X1_57 dX1_startAt_10 s0_25 rfl ?_
  refine r_aload_n (pc := 13) (a := 25) dX1_startAt_13 rfl ?_
  refine r_iconst (pc := 14) dX1_startAt_14 ?_
  refine r_putI (pc := 15) (fi := 3) (x := 0) fl_X1_37 dX1_startAt_15 s0_25 rfl ?_
  refine r_aload_n (pc := 18) (a := 25) dX1_startAt_18 rfl ?_
  refine r_iconst (pc := 19) dX1_startAt_19 ?_
  refine r_putI (pc := 20) (fi := 4) (x := 0) fl_X1_58 dX1_startAt_20 s0_25 rfl ?_
  refine r_aload_n (pc := 23) (a := 25) dX1_startAt_23 rfl ?_
  refine r_iconst (pc := 24) dX1_startAt_24 ?_
  refine r_putI (pc := 25) (fi := 5) (x := 0) fl_X1_61 dX1_startAt_25 s0_25 rfl ?_
  refine r_aload_n (pc := 28) (a := 25) dX1_startAt_28 rfl ?_
  refine r_iconst (pc := 29) dX1_startAt_29 ?_
  refine r_putI (pc := 30) (fi := 6) (x := 0) fl_X1_64 dX1_startAt_30 s0_25 rfl ?_
  refine r_aload_n (pc := 33) (a := 25) dX1_startAt_33 rfl ?_
  refine r_iconst (pc := 34) dX1_startAt_34 ?_
  refine r_putI (pc := 35) (fi := 7) (x := 0) fl_X1_67 dX1_startAt_35 s0_25 rfl ?_
  refine r_aload_n (pc := 38) (a := 25) dX1_startAt_38 rfl ?_
  refine r_iload_n (pc := 39) (x := v1) dX1_startAt_39 rfl ?_
  refine r_callV (μ2 := mX1_layOn) (pc := 40) (as := [.int (zI v1)]) (st := []) rfl s0_25 ml_X1_70 im_X1_layOn se_X1_layOn okX1_layOn ⟨by decide, by decide⟩ dX1_startAt_40 (Nat.le_of_ble_eq_true rfl) rfl (Nat.le_of_ble_eq_true rfl) (by decide) (by decide) (zCC.mono w ?_)
  rintro r S' h2 ⟨rfl, hr, w⟩
  subst hr
  show RR mX1_startAt 0 0 43 [some (.ref 25), some (.int (zI v1))] [] zS0 h2 (zQv zS0 K)
  exact r_ret (st := []) (pc := 43) dX1_startAt_43 rfl rfl (by decide) ⟨rfl, rfl, w⟩

set_option maxRecDepth 100000 in
set_option maxHeartbeats 4000000 in
theorem wX1_draw {h : zMm} {K : zMm → Prop} {v3 : Int} (w : zCi mX3_told [.ref 10, .int (zI 0)] zS0 h (fun x1 h1 => zCv mX1_startAt [.ref 25, .int (zI x1)] zS0 h1 (fun h2 => zCi mX3_told [.ref 10, .int (zI 0)] zS0 h2 (fun x3 h3 => RR mX1_draw 0 0 19 [some (.ref 25), some (.ref 10), some (.ref 16), some (.int (zI v3)), some (.int (zI x3)), some (.int (zI 0)), none] [] zS0 h3 (zQv zS0 K))))) : zCv mX1_draw [.ref 25, .ref 10, .ref 16, .int (zI v3)] zS0 h K := by
  show RR mX1_draw 0 0 0 [some (.ref 25), some (.ref 10), some (.ref 16), some (.int (zI v3)), none, none, none] [] zS0 h (zQv zS0 K)
  refine r_aload_n (pc := 0) (a := 25) dX1_draw_0 rfl ?_
  refine r_aload_n (pc := 1) (a := 10) dX1_draw_1 rfl ?_
  refine r_iconst (pc := 2) dX1_draw_2 ?_
  refine r_callV (μ2 := mX3_told) (pc := 3) (as := [.int (zI 0)]) (st := [.ref 25]) rfl s0_10 ml_X1_18 im_X3_told se_X3_told okX3_told ⟨by decide, by decide⟩ dX1_draw_3 (Nat.le_of_ble_eq_true rfl) rfl (Nat.le_of_ble_eq_true rfl) (by decide) (by decide) (zCC.mono w ?_)
  rintro r S' h1 ⟨rfl, x1, hr, w⟩
  subst hr
  show RR mX1_draw 0 0 6 [some (.ref 25), some (.ref 10), some (.ref 16), some (.int (zI v3)), none, none, none] [.int (zI x1), .ref 25] zS0 h1 (zQv zS0 K)
  refine r_callV (μ2 := mX1_startAt) (pc := 6) (as := [.int (zI x1)]) (st := []) rfl s0_25 ml_X1_24 im_X1_startAt se_X1_startAt okX1_startAt ⟨by decide, by decide⟩ dX1_draw_6 (Nat.le_of_ble_eq_true rfl) rfl (Nat.le_of_ble_eq_true rfl) (by decide) (by decide) (zCC.mono w ?_)
  rintro r S' h2 ⟨rfl, hr, w⟩
  subst hr
  show RR mX1_draw 0 0 9 [some (.ref 25), some (.ref 10), some (.ref 16), some (.int (zI v3)), none, none, none] [] zS0 h2 (zQv zS0 K)
  refine r_aload_n (pc := 9) (a := 10) dX1_draw_9 rfl ?_
  refine r_iconst (pc := 10) dX1_draw_10 ?_
  refine r_callV (μ2 := mX3_told) (pc := 11) (as := [.int (zI 0)]) (st := []) rfl s0_10 ml_X1_18 im_X3_told se_X3_told okX3_told ⟨by decide, by decide⟩ dX1_draw_11 (Nat.le_of_ble_eq_true rfl) rfl (Nat.le_of_ble_eq_true rfl) (by decide) (by decide) (zCC.mono w ?_)
  rintro r S' h3 ⟨rfl, x3, hr, w⟩
  subst hr
  show RR mX1_draw 0 0 14 [some (.ref 25), some (.ref 10), some (.ref 16), some (.int (zI v3)), none, none, none] [.int (zI x3)] zS0 h3 (zQv zS0 K)
  refine r_istore (pc := 14) (L' := [some (.ref 25), some (.ref 10), some (.ref 16), some (.int (zI v3)), some (.int (zI x3)), none, none]) dX1_draw_14 (by decide) rfl ?_
  refine r_iconst (pc := 16) dX1_draw_16 ?_
  refine r_istore (pc := 17) (L' := [some (.ref 25), some (.ref 10), some (.ref 16), some (.int (zI v3)), some (.int (zI x3)), some (.int (zI 0)), none]) dX1_draw_17 (by decide) rfl ?_
  exact w

set_option maxRecDepth 100000 in
set_option maxHeartbeats 4000000 in
theorem bX1_draw_19 {h : zMm} {K : zMm → Prop} {v3 : Int} {v4 : Int} {v5 : Int} (w : (zR v5 ∧ (zR (h 16 2) ∧ (((h 16 2) ≤ v5 → K h) ∧ (¬ (h 16 2) ≤ v5 → zCi mX5_stepsOf [.ref 16, .int (zI v5)] zS0 h (fun x6 h6 => RR mX1_draw 0 0 36 [some (.ref 25), some (.ref 10), some (.ref 16), some (.int (zI v3)), some (.int (zI v4)), some (.int (zI v5)), some (.int (zI x6))] [] zS0 h6 (zQv zS0 K))))))) : RR mX1_draw 0 0 19 [some (.ref 25), some (.ref 10), some (.ref 16), some (.int (zI v3)), some (.int (zI v4)), some (.int (zI v5)), none] [] zS0 h (zQv zS0 K) := by
  refine r_iload (pc := 19) (x := v5) dX1_draw_19 rfl ?_
  refine r_aload_n (pc := 21) (a := 16) dX1_draw_21 rfl ?_
  refine r_getI (pc := 22) (fi := 2) (x := (h 16 2)) fl_X1_28 dX1_draw_22 s0_16 rfl (rfl) ?_
  obtain ⟨hr4, w⟩ := w
  obtain ⟨hr5, w⟩ := w
  refine r_icmp_ge (pc := 25) (x := v5) (y := (h 16 2)) (tgt := 97) dX1_draw_25 (by decide) hr4 hr5 (fun c => ?_) (fun c => ?_)
  · have w := w.1 (c)
    exact r_ret (st := []) (pc := 97) dX1_draw_97 rfl rfl (by decide) ⟨rfl, rfl, w⟩
  · have w := w.2 (c)
    refine r_aload_n (pc := 28) (a := 16) dX1_draw_28 rfl ?_
    refine r_iload (pc := 29) (x := v5) dX1_draw_29 rfl ?_
    refine r_callV (μ2 := mX5_stepsOf) (pc := 31) (as := [.int (zI v5)]) (st := []) rfl s0_16 ml_X1_34 im_X5_stepsOf se_X5_stepsOf okX5_stepsOf ⟨by decide, by decide⟩ dX1_draw_31 (Nat.le_of_ble_eq_true rfl) rfl (Nat.le_of_ble_eq_true rfl) (by decide) (by decide) (zCC.mono w ?_)
    rintro r S' h6 ⟨rfl, x6, hr, w⟩
    subst hr
    show RR mX1_draw 0 0 34 [some (.ref 25), some (.ref 10), some (.ref 16), some (.int (zI v3)), some (.int (zI v4)), some (.int (zI v5)), none] [.int (zI x6)] zS0 h6 (zQv zS0 K)
    refine r_istore (pc := 34) (L' := [some (.ref 25), some (.ref 10), some (.ref 16), some (.int (zI v3)), some (.int (zI v4)), some (.int (zI v5)), some (.int (zI x6))]) dX1_draw_34 (by decide) rfl ?_
    exact w

set_option maxRecDepth 100000 in
set_option maxHeartbeats 4000000 in
theorem bX1_draw_36 {h : zMm} {K : zMm → Prop} {v3 : Int} {v4 : Int} {v5 : Int} {v6 : Int} (w : (zR v6 ∧ ((v6 ≤ 0 → RR mX1_draw 0 0 19 [some (.ref 25), some (.ref 10), some (.ref 16), some (.int (zI v3)), some (.int (zI v4)), some (.int (zI (v5 + 1))), none] [] zS0 h (zQv zS0 K)) ∧ (¬ v6 ≤ 0 → (zR (h 25 3) ∧ (zR v3 ∧ ((v3 ≤ (h 25 3) → K h) ∧ (¬ v3 ≤ (h 25 3) → zCi mX5_wayOf [.ref 16, .int (zI v5)] zS0 h (fun x10 h10 => zCi mX3_ahead [.ref 10, .int (zI v4), .int (zI x10)] zS0 h10 (fun x11 h11 => (zR x11 ∧ ((0 ≤ x11 → zCi mX3_told [.ref 10, .int (zI 5)] zS0 h11 (fun x13 h13 => zCv mX1_drawTo [.ref 25, .int (zI x11), .int (zI x13)] zS0 h13 (fun h14 => RR mX1_draw 0 0 36 [some (.ref 25), some (.ref 10), some (.ref 16), some (.int (zI v3)), some (.int (zI x11)), some (.int (zI v5)), some (.int (zI (v6 + (-1))))] [] zS0 h14 (zQv zS0 K)))) ∧ (¬ 0 ≤ x11 → K h11))))))))))))) : RR mX1_draw 0 0 36 [some (.ref 25), some (.ref 10), some (.ref 16), some (.int (zI v3)), some (.int (zI v4)), some (.int (zI v5)), some (.int (zI v6))] [] zS0 h (zQv zS0 K) := by
  refine r_iload (pc := 36) (x := v6) dX1_draw_36 rfl ?_
  obtain ⟨hr7, w⟩ := w
  refine r_if_le (pc := 38) (x := v6) (tgt := 91) dX1_draw_38 (by decide) hr7 (fun c => ?_) (fun c => ?_)
  · have w := w.1 (c)
    refine r_iinc (pc := 91) (x := v5) (L' := [some (.ref 25), some (.ref 10), some (.ref 16), some (.int (zI v3)), some (.int (zI v4)), some (.int (zI (v5 + 1))), some (.int (zI v6))]) dX1_draw_91 rfl (by decide) rfl ?_
    refine r_goto (pc := 94) (tgt := 19) dX1_draw_94 (by decide) ?_
    exact RR.sub (L' := [some (.ref 25), some (.ref 10), some (.ref 16), some (.int (zI v3)), some (.int (zI v4)), some (.int (zI (v5 + 1))), none]) (zSb_of (⟨rfl, ⟨rfl, ⟨rfl, ⟨rfl, ⟨rfl, ⟨rfl, trivial⟩⟩⟩⟩⟩⟩)) w
  · have w := w.2 (c)
    refine r_aload_n (pc := 41) (a := 25) dX1_draw_41 rfl ?_
    refine r_getI (pc := 42) (fi := 3) (x := (h 25 3)) fl_X1_37 dX1_draw_42 s0_25 rfl (rfl) ?_
    refine r_iload_n (pc := 45) (x := v3) dX1_draw_45 rfl ?_
    obtain ⟨hr8, w⟩ := w
    obtain ⟨hr9, w⟩ := w
    refine r_icmp_ge (pc := 46) (x := (h 25 3)) (y := v3) (tgt := 64) dX1_draw_46 (by decide) hr8 hr9 (fun c => ?_) (fun c => ?_)
    · have w := w.1 (c)
      refine r_bipush (pc := 64) (x := (-4)) dX1_draw_64 (by decide) ?_
      refine r_istore (pc := 66) (L' := [some (.ref 25), some (.ref 10), some (.ref 16), some (.int (zI v3)), some (.int (zI (-4))), some (.int (zI v5)), some (.int (zI v6))]) dX1_draw_66 (by decide) rfl ?_
      refine r_iload (pc := 68) (x := (-4)) dX1_draw_68 rfl ?_
      refine r_if_ge (pc := 70) (x := (-4)) (tgt := 74) dX1_draw_70 (by decide) (by decide) (fun c => ?_) (fun c => ?_)
      · exact absurd c (by decide)
      · exact r_ret (st := []) (pc := 73) dX1_draw_73 rfl rfl (by decide) ⟨rfl, rfl, w⟩
    · have w := w.2 (c)
      refine r_aload_n (pc := 49) (a := 10) dX1_draw_49 rfl ?_
      refine r_iload (pc := 50) (x := v4) dX1_draw_50 rfl ?_
      refine r_aload_n (pc := 52) (a := 16) dX1_draw_52 rfl ?_
      refine r_iload (pc := 53) (x := v5) dX1_draw_53 rfl ?_
      refine r_callV (μ2 := mX5_wayOf) (pc := 55) (as := [.int (zI v5)]) (st := [.int (zI v4), .ref 10]) rfl s0_16 ml_X1_40 im_X5_wayOf se_X5_wayOf okX5_wayOf ⟨by decide, by decide⟩ dX1_draw_55 (Nat.le_of_ble_eq_true rfl) rfl (Nat.le_of_ble_eq_true rfl) (by decide) (by decide) (zCC.mono w ?_)
      rintro r S' h10 ⟨rfl, x10, hr, w⟩
      subst hr
      show RR mX1_draw 0 0 58 [some (.ref 25), some (.ref 10), some (.ref 16), some (.int (zI v3)), some (.int (zI v4)), some (.int (zI v5)), some (.int (zI v6))] [.int (zI x10), .int (zI v4), .ref 10] zS0 h10 (zQv zS0 K)
      refine r_callV (μ2 := mX3_ahead) (pc := 58) (as := [.int (zI v4), .int (zI x10)]) (st := []) rfl s0_10 ml_X1_43 im_X3_ahead se_X3_ahead okX3_ahead ⟨by decide, by decide⟩ dX1_draw_58 (Nat.le_of_ble_eq_true rfl) rfl (Nat.le_of_ble_eq_true rfl) (by decide) (by decide) (zCC.mono w ?_)
      rintro r S' h11 ⟨rfl, x11, hr, w⟩
      subst hr
      show RR mX1_draw 0 0 61 [some (.ref 25), some (.ref 10), some (.ref 16), some (.int (zI v3)), some (.int (zI v4)), some (.int (zI v5)), some (.int (zI v6))] [.int (zI x11)] zS0 h11 (zQv zS0 K)
      refine r_goto (pc := 61) (tgt := 66) dX1_draw_61 (by decide) ?_
      refine r_istore (pc := 66) (L' := [some (.ref 25), some (.ref 10), some (.ref 16), some (.int (zI v3)), some (.int (zI x11)), some (.int (zI v5)), some (.int (zI v6))]) dX1_draw_66 (by decide) rfl ?_
      refine r_iload (pc := 68) (x := x11) dX1_draw_68 rfl ?_
      obtain ⟨hr12, w⟩ := w
      refine r_if_ge (pc := 70) (x := x11) (tgt := 74) dX1_draw_70 (by decide) hr12 (fun c => ?_) (fun c => ?_)
      · have w := w.1 (c)
        refine r_aload_n (pc := 74) (a := 25) dX1_draw_74 rfl ?_
        refine r_iload (pc := 75) (x := x11) dX1_draw_75 rfl ?_
        refine r_aload_n (pc := 77) (a := 10) dX1_draw_77 rfl ?_
        refine r_iconst (pc := 78) dX1_draw_78 ?_
        refine r_callV (μ2 := mX3_told) (pc := 79) (as := [.int (zI 5)]) (st := [.int (zI x11), .ref 25]) rfl s0_10 ml_X1_18 im_X3_told se_X3_told okX3_told ⟨by decide, by decide⟩ dX1_draw_79 (Nat.le_of_ble_eq_true rfl) rfl (Nat.le_of_ble_eq_true rfl) (by decide) (by decide) (zCC.mono w ?_)
        rintro r S' h13 ⟨rfl, x13, hr, w⟩
        subst hr
        show RR mX1_draw 0 0 82 [some (.ref 25), some (.ref 10), some (.ref 16), some (.int (zI v3)), some (.int (zI x11)), some (.int (zI v5)), some (.int (zI v6))] [.int (zI x13), .int (zI x11), .ref 25] zS0 h13 (zQv zS0 K)
        refine r_callV (μ2 := mX1_drawTo) (pc := 82) (as := [.int (zI x11), .int (zI x13)]) (st := []) rfl s0_25 ml_X1_47 im_X1_drawTo se_X1_drawTo okX1_drawTo ⟨by decide, by decide⟩ dX1_draw_82 (Nat.le_of_ble_eq_true rfl) rfl (Nat.le_of_ble_eq_true rfl) (by decide) (by decide) (zCC.mono w ?_)
        rintro r S' h14 ⟨rfl, hr, w⟩
        subst hr
        show RR mX1_draw 0 0 85 [some (.ref 25), some (.ref 10), some (.ref 16), some (.int (zI v3)), some (.int (zI x11)), some (.int (zI v5)), some (.int (zI v6))] [] zS0 h14 (zQv zS0 K)
        refine r_iinc (pc := 85) (x := v6) (L' := [some (.ref 25), some (.ref 10), some (.ref 16), some (.int (zI v3)), some (.int (zI x11)), some (.int (zI v5)), some (.int (zI (v6 + (-1))))]) dX1_draw_85 rfl (by decide) rfl ?_
        refine r_goto (pc := 88) (tgt := 36) dX1_draw_88 (by decide) ?_
        exact w
      · have w := w.2 (c)
        exact r_ret (st := []) (pc := 73) dX1_draw_73 rfl rfl (by decide) ⟨rfl, rfl, w⟩

set_option maxRecDepth 100000 in
set_option maxHeartbeats 4000000 in
theorem wX1_bits {h : zMm} {K : Int → zMm → Prop} (w : RR mX1_bits 0 0 4 [some (.ref 25), some (.long (zJ 0)), none, some (.int (zI 0))] [] zS0 h (zQl zS0 K)) : zCl mX1_bits [.ref 25] zS0 h K := by
  show RR mX1_bits 0 0 0 [some (.ref 25), none, none, none] [] zS0 h (zQl zS0 K)
  refine r_lconst (pc := 0) (x := 0) dX1_bits_0 rfl ?_
  refine r_lstore_n (pc := 1) (L' := [some (.ref 25), some (.long (zJ 0)), none, none]) dX1_bits_1 (by decide) rfl ?_
  refine r_iconst (pc := 2) dX1_bits_2 ?_
  refine r_istore_n (pc := 3) (L' := [some (.ref 25), some (.long (zJ 0)), none, some (.int (zI 0))]) dX1_bits_3 (by decide) rfl ?_
  exact w

set_option maxRecDepth 100000 in
set_option maxHeartbeats 4000000 in
theorem bX1_bits_4 {h : zMm} {K : Int → zMm → Prop} {v1 : Int} {v3 : Int} (w : (zR v3 ∧ ((36 ≤ v3 → K v1 h) ∧ (¬ 36 ≤ v3 → ((0 ≤ v3 ∧ v3 < 36) ∧ (zR (h 27 v3) ∧ RR mX1_bits 0 0 4 [some (.ref 25), some (.long (zJ (if (h 27 v3) ≤ 0 then v1 else (lO v1 (lSl 1 v3))))), none, some (.int (zI (v3 + 1)))] [] zS0 h (zQl zS0 K))))))) : RR mX1_bits 0 0 4 [some (.ref 25), some (.long (zJ v1)), none, some (.int (zI v3))] [] zS0 h (zQl zS0 K) := by
  refine r_iload_n (pc := 4) (x := v3) dX1_bits_4 rfl ?_
  refine r_bipush (pc := 5) (x := 36) dX1_bits_5 (by decide) ?_
  obtain ⟨hr1, w⟩ := w
  refine r_icmp_ge (pc := 7) (x := v3) (y := 36) (tgt := 31) dX1_bits_7 (by decide) hr1 (by decide) (fun c => ?_) (fun c => ?_)
  · have w := w.1 (c)
    refine r_lload_n (pc := 31) (x := v1) dX1_bits_31 rfl ?_
    exact r_lret (st := []) (pc := 32) (x := v1) dX1_bits_32 rfl rfl (by decide) ⟨rfl, _, rfl, w⟩
  · have w := w.2 (c)
    refine r_aload_n (pc := 10) (a := 25) dX1_bits_10 rfl ?_
    refine r_getR (pc := 11) (b := 27) fl_X1_15 dX1_bits_11 s0_25 rfl ?_
    refine r_iload_n (pc := 14) (x := v3) dX1_bits_14 rfl ?_
    obtain ⟨hb2, w⟩ := w
    refine r_iald (pc := 15) (i := v3) (x := (h 27 v3)) dX1_bits_15 s0_27 ⟨hb2.1, hb2.2, (by decide)⟩ (rfl) ?_
    obtain ⟨hr3, w⟩ := w
    have kk4 : RR mX1_bits 0 0 25 [some (.ref 25), some (.long (zJ (if (h 27 v3) ≤ 0 then v1 else (lO v1 (lSl 1 v3))))), none, some (.int (zI v3))] [] zS0 h (zQl zS0 K) := by
      refine r_iinc (pc := 25) (x := v3) (L' := [some (.ref 25), some (.long (zJ (if (h 27 v3) ≤ 0 then v1 else (lO v1 (lSl 1 v3))))), none, some (.int (zI (v3 + 1)))]) dX1_bits_25 rfl (by decide) rfl ?_
      refine r_goto (pc := 28) (tgt := 4) dX1_bits_28 (by decide) ?_
      exact w
    refine r_if_le (pc := 16) (x := (h 27 v3)) (tgt := 25) dX1_bits_16 (by decide) hr3 (fun c => ?_) (fun c => ?_)
    · simp only [if_pos (c)] at kk4 ⊢
      exact kk4
    · refine r_lload_n (pc := 19) (x := v1) dX1_bits_19 rfl ?_
      refine r_lconst (pc := 20) (x := 1) dX1_bits_20 rfl ?_
      refine r_iload_n (pc := 21) (x := v3) dX1_bits_21 rfl ?_
      refine r_lshl (pc := 22) (x := 1) (y := v3) dX1_bits_22 ?_
      refine r_lor (pc := 23) (x := v1) (y := (lSl 1 v3)) dX1_bits_23 ?_
      refine r_lstore_n (pc := 24) (L' := [some (.ref 25), some (.long (zJ (lO v1 (lSl 1 v3)))), none, some (.int (zI v3))]) dX1_bits_24 (by decide) rfl ?_
      simp only [if_neg (c)] at kk4 ⊢
      exact kk4
