set_option maxRecDepth 100000 in
set_option maxHeartbeats 4000000 in
theorem wX10_meetGrass {h : zMm} {K : zMm → Prop} {v1 : Int} {v2 : Int} (w : zCb mX11_isCell [.int (zI (h 22 8))] zS0 h (fun b1 h1 => ((b1 = true → (zR (h1 22 13) ∧ ((0 ≤ (h1 22 13) → (zR ((h1 22 14) + (h1 22 2)) ∧ (zR v2 ∧ ((v2 ≤ ((h1 22 14) + (h1 22 2)) → ((0 ≤ (h1 22 8) ∧ (h1 22 8) < 36) ∧ (zR ((h1 22 7) + (h1 23 (h1 22 8))) ∧ (zR (h1 22 15) ∧ (((h1 22 15) < ((h1 22 7) + (h1 23 (h1 22 8))) → K (zU h1 22 11 ((h1 22 11) + 1))) ∧ (¬ (h1 22 15) < ((h1 22 7) + (h1 23 (h1 22 8))) → (zR (h1 22 12) ∧ K (zU (zU (zU (zU (zU h1 22 7 ((h1 22 7) + (h1 23 (h1 22 8)))) 22 12 (max (h1 22 12) ((h1 22 7) + (h1 23 (h1 22 8))))) 23 (h1 22 8) 0) 24 (h1 22 8) v1) 22 3 ((h1 22 3) + 1))))))))) ∧ (¬ v2 ≤ ((h1 22 14) + (h1 22 2)) → K (zU h1 22 10 ((h1 22 10) + 1))))))) ∧ (¬ 0 ≤ (h1 22 13) → (zR ((h1 22 14) + (h1 22 2)) ∧ (zR v2 ∧ ((v2 ≤ ((h1 22 14) + (h1 22 2)) → ((0 ≤ (h1 22 8) ∧ (h1 22 8) < 36) ∧ (zR ((h1 22 7) + (h1 23 (h1 22 8))) ∧ (zR (h1 22 15) ∧ (((h1 22 15) < ((h1 22 7) + (h1 23 (h1 22 8))) → K (zU (zU h1 22 13 (h1 22 2)) 22 11 ((h1 22 11) + 1))) ∧ (¬ (h1 22 15) < ((h1 22 7) + (h1 23 (h1 22 8))) → (zR (h1 22 12) ∧ K (zU (zU (zU (zU (zU (zU h1 22 13 (h1 22 2)) 22 7 ((h1 22 7) + (h1 23 (h1 22 8)))) 22 12 (max (h1 22 12) ((h1 22 7) + (h1 23 (h1 22 8))))) 23 (h1 22 8) 0) 24 (h1 22 8) v1) 22 3 ((h1 22 3) + 1))))))))) ∧ (¬ v2 ≤ ((h1 22 14) + (h1 22 2)) → K (zU (zU h1 22 13 (h1 22 2)) 22 10 ((h1 22 10) + 1)))))))))) ∧ (b1 = false → K h1)))) : zCv mX10_meetGrass [.ref 22, .int (zI v1), .int (zI v2)] zS0 h K := by
  show RR mX10_meetGrass 0 0 0 [some (.ref 22), some (.int (zI v1)), some (.int (zI v2))] [] zS0 h (zQv zS0 K)
  refine r_aload_n (pc := 0) (a := 22) dX10_meetGrass_0 rfl ?_
  refine r_getI (pc := 1) (fi := 8) (x := (h 22 8)) fl_X10_78 dX10_meetGrass_1 s0_22 rfl (rfl) ?_
  refine r_callSN (μ2 := mX11_isCell) (pc := 4) (as := [.int (zI (h 22 8))]) (st := []) mn_X10_112 sm_X11_isCell okX11_isCell ⟨by decide, by decide⟩ dX10_meetGrass_4 (Nat.le_of_ble_eq_true rfl) rfl (Nat.le_of_ble_eq_true rfl) (by decide) (by decide) (zCC.mono w ?_)
  rintro r S' h1 ⟨rfl, b1, hr, w⟩
  subst hr
  show RR mX10_meetGrass 0 0 7 [some (.ref 22), some (.int (zI v1)), some (.int (zI v2))] [.int (zI (bI b1))] zS0 h1 (zQv zS0 K)
  refine r_if_ne (pc := 7) (x := (bI b1)) (tgt := 11) dX10_meetGrass_7 (by decide) (bI_R _) (fun c => ?_) (fun c => ?_)
  · have w := w.1 (bI_n.mp c)
    refine r_aload_n (pc := 11) (a := 22) dX10_meetGrass_11 rfl ?_
    refine r_getI (pc := 12) (fi := 13) (x := (h1 22 13)) fl_X10_90 dX10_meetGrass_12 s0_22 rfl (rfl) ?_
    obtain ⟨hr2, w⟩ := w
    refine r_if_ge (pc := 15) (x := (h1 22 13)) (tgt := 26) dX10_meetGrass_15 (by decide) hr2 (fun c => ?_) (fun c => ?_)
    · have w := w.1 (c)
      refine r_aload_n (pc := 26) (a := 22) dX10_meetGrass_26 rfl ?_
      refine r_getI (pc := 27) (fi := 14) (x := (h1 22 14)) fl_X10_93 dX10_meetGrass_27 s0_22 rfl (rfl) ?_
      refine r_aload_n (pc := 30) (a := 22) dX10_meetGrass_30 rfl ?_
      refine r_getI (pc := 31) (fi := 2) (x := (h1 22 2)) fl_X10_43 dX10_meetGrass_31 s0_22 rfl (rfl) ?_
      refine r_iadd (pc := 34) (x := (h1 22 14)) (y := (h1 22 2)) dX10_meetGrass_34 ?_
      refine r_iload_n (pc := 35) (x := v2) dX10_meetGrass_35 rfl ?_
      obtain ⟨hr3, w⟩ := w
      obtain ⟨hr4, w⟩ := w
      refine r_icmp_ge (pc := 36) (x := ((h1 22 14) + (h1 22 2))) (y := v2) (tgt := 52) dX10_meetGrass_36 (by decide) hr3 hr4 (fun c => ?_) (fun c => ?_)
      · have w := w.1 (c)
        refine r_aload_n (pc := 52) (a := 22) dX10_meetGrass_52 rfl ?_
        refine r_getI (pc := 53) (fi := 7) (x := (h1 22 7)) fl_X10_75 dX10_meetGrass_53 s0_22 rfl (rfl) ?_
        refine r_aload_n (pc := 56) (a := 22) dX10_meetGrass_56 rfl ?_
        refine r_getR (pc := 57) (b := 23) fl_X10_9 dX10_meetGrass_57 s0_22 rfl ?_
        refine r_aload_n (pc := 60) (a := 22) dX10_meetGrass_60 rfl ?_
        refine r_getI (pc := 61) (fi := 8) (x := (h1 22 8)) fl_X10_78 dX10_meetGrass_61 s0_22 rfl (rfl) ?_
        obtain ⟨hb5, w⟩ := w
        refine r_iald (pc := 64) (i := (h1 22 8)) (x := (h1 23 (h1 22 8))) dX10_meetGrass_64 s0_23 ⟨hb5.1, hb5.2, (by decide)⟩ (rfl) ?_
        refine r_iadd (pc := 65) (x := (h1 22 7)) (y := (h1 23 (h1 22 8))) dX10_meetGrass_65 ?_
        refine r_aload_n (pc := 66) (a := 22) dX10_meetGrass_66 rfl ?_
        refine r_getI (pc := 67) (fi := 15) (x := (h1 22 15)) fl_X10_96 dX10_meetGrass_67 s0_22 rfl (rfl) ?_
        obtain ⟨hr6, w⟩ := w
        obtain ⟨hr7, w⟩ := w
        refine r_icmp_gt (pc := 70) (x := ((h1 22 7) + (h1 23 (h1 22 8)))) (y := (h1 22 15)) (tgt := 139) dX10_meetGrass_70 (by decide) hr6 hr7 (fun c => ?_) (fun c => ?_)
        · have w := w.1 (c)
          refine r_aload_n (pc := 139) (a := 22) dX10_meetGrass_139 rfl ?_
          refine r_dup (pc := 140) rfl dX10_meetGrass_140 ?_
          refine r_getI (pc := 141) (fi := 11) (x := (h1 22 11)) fl_X10_84 dX10_meetGrass_141 s0_22 rfl (rfl) ?_
          refine r_iconst (pc := 144) dX10_meetGrass_144 ?_
          refine r_iadd (pc := 145) (x := (h1 22 11)) (y := 1) dX10_meetGrass_145 ?_
          refine r_putI (pc := 146) (fi := 11) (x := ((h1 22 11) + 1)) fl_X10_84 dX10_meetGrass_146 s0_22 rfl ?_
          exact r_ret (st := []) (pc := 149) dX10_meetGrass_149 rfl rfl (by decide) ⟨rfl, rfl, w⟩
        · have w := w.2 (c)
          refine r_aload_n (pc := 73) (a := 22) dX10_meetGrass_73 rfl ?_
          refine r_dup (pc := 74) rfl dX10_meetGrass_74 ?_
          refine r_getI (pc := 75) (fi := 7) (x := (h1 22 7)) fl_X10_75 dX10_meetGrass_75 s0_22 rfl (rfl) ?_
          refine r_aload_n (pc := 78) (a := 22) dX10_meetGrass_78 rfl ?_
          refine r_getR (pc := 79) (b := 23) fl_X10_9 dX10_meetGrass_79 s0_22 rfl ?_
          refine r_aload_n (pc := 82) (a := 22) dX10_meetGrass_82 rfl ?_
          refine r_getI (pc := 83) (fi := 8) (x := (h1 22 8)) fl_X10_78 dX10_meetGrass_83 s0_22 rfl (rfl) ?_
          refine r_iald (pc := 86) (i := (h1 22 8)) (x := (h1 23 (h1 22 8))) dX10_meetGrass_86 s0_23 ⟨by omega, by omega, (by decide)⟩ (rfl) ?_
          refine r_iadd (pc := 87) (x := (h1 22 7)) (y := (h1 23 (h1 22 8))) dX10_meetGrass_87 ?_
          refine r_putI (pc := 88) (fi := 7) (x := ((h1 22 7) + (h1 23 (h1 22 8)))) fl_X10_75 dX10_meetGrass_88 s0_22 rfl ?_
          refine r_aload_n (pc := 91) (a := 22) dX10_meetGrass_91 rfl ?_
          refine r_aload_n (pc := 92) (a := 22) dX10_meetGrass_92 rfl ?_
          refine r_getI (pc := 93) (fi := 12) (x := (h1 22 12)) fl_X10_87 dX10_meetGrass_93 s0_22 rfl (zU_ne (by omega)) ?_
          refine r_aload_n (pc := 96) (a := 22) dX10_meetGrass_96 rfl ?_
          refine r_getI (pc := 97) (fi := 7) (x := ((h1 22 7) + (h1 23 (h1 22 8)))) fl_X10_75 dX10_meetGrass_97 s0_22 rfl (zU_eq _ _ _ _) ?_
          obtain ⟨hr8, w⟩ := w
          refine r_max (pc := 100) (x := (h1 22 12)) (y := ((h1 22 7) + (h1 23 (h1 22 8)))) ml_X10_116 mm_max_s it_J9 mm_max_c dX10_meetGrass_100 (by decide) (by decide) (by decide) (by decide) hr8 hr6 ?_
          refine r_putI (pc := 103) (fi := 12) (x := (max (h1 22 12) ((h1 22 7) + (h1 23 (h1 22 8))))) fl_X10_87 dX10_meetGrass_103 s0_22 rfl ?_
          refine r_aload_n (pc := 106) (a := 22) dX10_meetGrass_106 rfl ?_
          refine r_getR (pc := 107) (b := 23) fl_X10_9 dX10_meetGrass_107 s0_22 rfl ?_
          refine r_aload_n (pc := 110) (a := 22) dX10_meetGrass_110 rfl ?_
          refine r_getI (pc := 111) (fi := 8) (x := (h1 22 8)) fl_X10_78 dX10_meetGrass_111 s0_22 rfl ((zU_ne (by omega)).trans (zU_ne (by omega))) ?_
          refine r_iconst (pc := 114) dX10_meetGrass_114 ?_
          refine r_iast (pc := 115) (i := (h1 22 8)) (x := 0) dX10_meetGrass_115 s0_23 ⟨by omega, by omega, (by decide)⟩  ?_
          refine r_aload_n (pc := 116) (a := 22) dX10_meetGrass_116 rfl ?_
          refine r_getR (pc := 117) (b := 24) fl_X10_15 dX10_meetGrass_117 s0_22 rfl ?_
          refine r_aload_n (pc := 120) (a := 22) dX10_meetGrass_120 rfl ?_
          refine r_getI (pc := 121) (fi := 8) (x := (h1 22 8)) fl_X10_78 dX10_meetGrass_121 s0_22 rfl ((zU_ne (by omega)).trans ((zU_ne (by omega)).trans (zU_ne (by omega)))) ?_
          refine r_iload_n (pc := 124) (x := v1) dX10_meetGrass_124 rfl ?_
          refine r_iast (pc := 125) (i := (h1 22 8)) (x := v1) dX10_meetGrass_125 s0_24 ⟨by omega, by omega, (by decide)⟩  ?_
          refine r_aload_n (pc := 126) (a := 22) dX10_meetGrass_126 rfl ?_
          refine r_dup (pc := 127) rfl dX10_meetGrass_127 ?_
          refine r_getI (pc := 128) (fi := 3) (x := (h1 22 3)) fl_X10_66 dX10_meetGrass_128 s0_22 rfl ((zU_ne (by omega)).trans ((zU_ne (by omega)).trans ((zU_ne (by omega)).trans (zU_ne (by omega))))) ?_
          refine r_iconst (pc := 131) dX10_meetGrass_131 ?_
          refine r_iadd (pc := 132) (x := (h1 22 3)) (y := 1) dX10_meetGrass_132 ?_
          refine r_putI (pc := 133) (fi := 3) (x := ((h1 22 3) + 1)) fl_X10_66 dX10_meetGrass_133 s0_22 rfl ?_
          refine r_goto (pc := 136) (tgt := 149) dX10_meetGrass_136 (by decide) ?_
          exact r_ret (st := []) (pc := 149) dX10_meetGrass_149 rfl rfl (by decide) ⟨rfl, rfl, w⟩
      · have w := w.2 (c)
        refine r_aload_n (pc := 39) (a := 22) dX10_meetGrass_39 rfl ?_
        refine r_dup (pc := 40) rfl dX10_meetGrass_40 ?_
        refine r_getI (pc := 41) (fi := 10) (x := (h1 22 10)) fl_X10_81 dX10_meetGrass_41 s0_22 rfl (rfl) ?_
        refine r_iconst (pc := 44) dX10_meetGrass_44 ?_
        refine r_iadd (pc := 45) (x := (h1 22 10)) (y := 1) dX10_meetGrass_45 ?_
        refine r_putI (pc := 46) (fi := 10) (x := ((h1 22 10) + 1)) fl_X10_81 dX10_meetGrass_46 s0_22 rfl ?_
        refine r_goto (pc := 49) (tgt := 149) dX10_meetGrass_49 (by decide) ?_
        exact r_ret (st := []) (pc := 149) dX10_meetGrass_149 rfl rfl (by decide) ⟨rfl, rfl, w⟩
    · have w := w.2 (c)
      refine r_aload_n (pc := 18) (a := 22) dX10_meetGrass_18 rfl ?_
      refine r_aload_n (pc := 19) (a := 22) dX10_meetGrass_19 rfl ?_
      refine r_getI (pc := 20) (fi := 2) (x := (h1 22 2)) fl_X10_43 dX10_meetGrass_20 s0_22 rfl (rfl) ?_
      refine r_putI (pc := 23) (fi := 13) (x := (h1 22 2)) fl_X10_90 dX10_meetGrass_23 s0_22 rfl ?_
      refine r_aload_n (pc := 26) (a := 22) dX10_meetGrass_26 rfl ?_
      refine r_getI (pc := 27) (fi := 14) (x := (h1 22 14)) fl_X10_93 dX10_meetGrass_27 s0_22 rfl (zU_ne (by omega)) ?_
      refine r_aload_n (pc := 30) (a := 22) dX10_meetGrass_30 rfl ?_
      refine r_getI (pc := 31) (fi := 2) (x := (h1 22 2)) fl_X10_43 dX10_meetGrass_31 s0_22 rfl (zU_ne (by omega)) ?_
      refine r_iadd (pc := 34) (x := (h1 22 14)) (y := (h1 22 2)) dX10_meetGrass_34 ?_
      refine r_iload_n (pc := 35) (x := v2) dX10_meetGrass_35 rfl ?_
      obtain ⟨hr9, w⟩ := w
      obtain ⟨hr10, w⟩ := w
      refine r_icmp_ge (pc := 36) (x := ((h1 22 14) + (h1 22 2))) (y := v2) (tgt := 52) dX10_meetGrass_36 (by decide) hr9 hr10 (fun c => ?_) (fun c => ?_)
      · have w := w.1 (c)
        refine r_aload_n (pc := 52) (a := 22) dX10_meetGrass_52 rfl ?_
        refine r_getI (pc := 53) (fi := 7) (x := (h1 22 7)) fl_X10_75 dX10_meetGrass_53 s0_22 rfl (zU_ne (by omega)) ?_
        refine r_aload_n (pc := 56) (a := 22) dX10_meetGrass_56 rfl ?_
        refine r_getR (pc := 57) (b := 23) fl_X10_9 dX10_meetGrass_57 s0_22 rfl ?_
        refine r_aload_n (pc := 60) (a := 22) dX10_meetGrass_60 rfl ?_
        refine r_getI (pc := 61) (fi := 8) (x := (h1 22 8)) fl_X10_78 dX10_meetGrass_61 s0_22 rfl (zU_ne (by omega)) ?_
        obtain ⟨hb11, w⟩ := w
        refine r_iald (pc := 64) (i := (h1 22 8)) (x := (h1 23 (h1 22 8))) dX10_meetGrass_64 s0_23 ⟨hb11.1, hb11.2, (by decide)⟩ (zU_ne (by omega)) ?_
        refine r_iadd (pc := 65) (x := (h1 22 7)) (y := (h1 23 (h1 22 8))) dX10_meetGrass_65 ?_
        refine r_aload_n (pc := 66) (a := 22) dX10_meetGrass_66 rfl ?_
        refine r_getI (pc := 67) (fi := 15) (x := (h1 22 15)) fl_X10_96 dX10_meetGrass_67 s0_22 rfl (zU_ne (by omega)) ?_
        obtain ⟨hr12, w⟩ := w
        obtain ⟨hr13, w⟩ := w
        refine r_icmp_gt (pc := 70) (x := ((h1 22 7) + (h1 23 (h1 22 8)))) (y := (h1 22 15)) (tgt := 139) dX10_meetGrass_70 (by decide) hr12 hr13 (fun c => ?_) (fun c => ?_)
        · have w := w.1 (c)
          refine r_aload_n (pc := 139) (a := 22) dX10_meetGrass_139 rfl ?_
          refine r_dup (pc := 140) rfl dX10_meetGrass_140 ?_
          refine r_getI (pc := 141) (fi := 11) (x := (h1 22 11)) fl_X10_84 dX10_meetGrass_141 s0_22 rfl (zU_ne (by omega)) ?_
          refine r_iconst (pc := 144) dX10_meetGrass_144 ?_
          refine r_iadd (pc := 145) (x := (h1 22 11)) (y := 1) dX10_meetGrass_145 ?_
          refine r_putI (pc := 146) (fi := 11) (x := ((h1 22 11) + 1)) fl_X10_84 dX10_meetGrass_146 s0_22 rfl ?_
          exact r_ret (st := []) (pc := 149) dX10_meetGrass_149 rfl rfl (by decide) ⟨rfl, rfl, w⟩
        · have w := w.2 (c)
          refine r_aload_n (pc := 73) (a := 22) dX10_meetGrass_73 rfl ?_
          refine r_dup (pc := 74) rfl dX10_meetGrass_74 ?_
          refine r_getI (pc := 75) (fi := 7) (x := (h1 22 7)) fl_X10_75 dX10_meetGrass_75 s0_22 rfl (zU_ne (by omega)) ?_
          refine r_aload_n (pc := 78) (a := 22) dX10_meetGrass_78 rfl ?_
          refine r_getR (pc := 79) (b := 23) fl_X10_9 dX10_meetGrass_79 s0_22 rfl ?_
          refine r_aload_n (pc := 82) (a := 22) dX10_meetGrass_82 rfl ?_
          refine r_getI (pc := 83) (fi := 8) (x := (h1 22 8)) fl_X10_78 dX10_meetGrass_83 s0_22 rfl (zU_ne (by omega)) ?_
          refine r_iald (pc := 86) (i := (h1 22 8)) (x := (h1 23 (h1 22 8))) dX10_meetGrass_86 s0_23 ⟨by omega, by omega, (by decide)⟩ (zU_ne (by omega)) ?_
          refine r_iadd (pc := 87) (x := (h1 22 7)) (y := (h1 23 (h1 22 8))) dX10_meetGrass_87 ?_
          refine r_putI (pc := 88) (fi := 7) (x := ((h1 22 7) + (h1 23 (h1 22 8)))) fl_X10_75 dX10_meetGrass_88 s0_22 rfl ?_
          refine r_aload_n (pc := 91) (a := 22) dX10_meetGrass_91 rfl ?_
          refine r_aload_n (pc := 92) (a := 22) dX10_meetGrass_92 rfl ?_
          refine r_getI (pc := 93) (fi := 12) (x := (h1 22 12)) fl_X10_87 dX10_meetGrass_93 s0_22 rfl ((zU_ne (by omega)).trans (zU_ne (by omega))) ?_
          refine r_aload_n (pc := 96) (a := 22) dX10_meetGrass_96 rfl ?_
          refine r_getI (pc := 97) (fi := 7) (x := ((h1 22 7) + (h1 23 (h1 22 8)))) fl_X10_75 dX10_meetGrass_97 s0_22 rfl (zU_eq _ _ _ _) ?_
          obtain ⟨hr14, w⟩ := w
          refine r_max (pc := 100) (x := (h1 22 12)) (y := ((h1 22 7) + (h1 23 (h1 22 8)))) ml_X10_116 mm_max_s it_J9 mm_max_c dX10_meetGrass_100 (by decide) (by decide) (by decide) (by decide) hr14 hr12 ?_
          refine r_putI (pc := 103) (fi := 12) (x := (max (h1 22 12) ((h1 22 7) + (h1 23 (h1 22 8))))) fl_X10_87 dX10_meetGrass_103 s0_22 rfl ?_
          refine r_aload_n (pc := 106) (a := 22) dX10_meetGrass_106 rfl ?_
          refine r_getR (pc := 107) (b := 23) fl_X10_9 dX10_meetGrass_107 s0_22 rfl ?_
          refine r_aload_n (pc := 110) (a := 22) dX10_meetGrass_110 rfl ?_
          refine r_getI (pc := 111) (fi := 8) (x := (h1 22 8)) fl_X10_78 dX10_meetGrass_111 s0_22 rfl ((zU_ne (by omega)).trans ((zU_ne (by omega)).trans (zU_ne (by omega)))) ?_
          refine r_iconst (pc := 114) dX10_meetGrass_114 ?_
          refine r_iast (pc := 115) (i := (h1 22 8)) (x := 0) dX10_meetGrass_115 s0_23 ⟨by omega, by omega, (by decide)⟩  ?_
          refine r_aload_n (pc := 116) (a := 22) dX10_meetGrass_116 rfl ?_
          refine r_getR (pc := 117) (b := 24) fl_X10_15 dX10_meetGrass_117 s0_22 rfl ?_
          refine r_aload_n (pc := 120) (a := 22) dX10_meetGrass_120 rfl ?_
          refine r_getI (pc := 121) (fi := 8) (x := (h1 22 8)) fl_X10_78 dX10_meetGrass_121 s0_22 rfl ((zU_ne (by omega)).trans ((zU_ne (by omega)).trans ((zU_ne (by omega)).trans (zU_ne (by omega))))) ?_
          refine r_iload_n (pc := 124) (x := v1) dX10_meetGrass_124 rfl ?_
          refine r_iast (pc := 125) (i := (h1 22 8)) (x := v1) dX10_meetGrass_125 s0_24 ⟨by omega, by omega, (by decide)⟩  ?_
          refine r_aload_n (pc := 126) (a := 22) dX10_meetGrass_126 rfl ?_
          refine r_dup (pc := 127) rfl dX10_meetGrass_127 ?_
          refine r_getI (pc := 128) (fi := 3) (x := (h1 22 3)) fl_X10_66 dX10_meetGrass_128 s0_22 rfl ((zU_ne (by omega)).trans ((zU_ne (by omega)).trans ((zU_ne (by omega)).trans ((zU_ne (by omega)).trans (zU_ne (by omega)))))) ?_
          refine r_iconst (pc := 131) dX10_meetGrass_131 ?_
          refine r_iadd (pc := 132) (x := (h1 22 3)) (y := 1) dX10_meetGrass_132 ?_
          refine r_putI (pc := 133) (fi := 3) (x := ((h1 22 3) + 1)) fl_X10_66 dX10_meetGrass_133 s0_22 rfl ?_
          refine r_goto (pc := 136) (tgt := 149) dX10_meetGrass_136 (by decide) ?_
          exact r_ret (st := []) (pc := 149) dX10_meetGrass_149 rfl rfl (by decide) ⟨rfl, rfl, w⟩
      · have w := w.2 (c)
        refine r_aload_n (pc := 39) (a := 22) dX10_meetGrass_39 rfl ?_
        refine r_dup (pc := 40) rfl dX10_meetGrass_40 ?_
        refine r_getI (pc := 41) (fi := 10) (x := (h1 22 10)) fl_X10_81 dX10_meetGrass_41 s0_22 rfl (zU_ne (by omega)) ?_
        refine r_iconst (pc := 44) dX10_meetGrass_44 ?_
        refine r_iadd (pc := 45) (x := (h1 22 10)) (y := 1) dX10_meetGrass_45 ?_
        refine r_putI (pc := 46) (fi := 10) (x := ((h1 22 10) + 1)) fl_X10_81 dX10_meetGrass_46 s0_22 rfl ?_
        refine r_goto (pc := 49) (tgt := 149) dX10_meetGrass_49 (by decide) ?_
        exact r_ret (st := []) (pc := 149) dX10_meetGrass_149 rfl rfl (by decide) ⟨rfl, rfl, w⟩
  · have w := w.2 (bI_0.mp c)
    exact r_ret (st := []) (pc := 10) dX10_meetGrass_10 rfl rfl (by decide) ⟨rfl, rfl, w⟩

set_option maxRecDepth 100000 in
set_option maxHeartbeats 4000000 in
theorem wX10_goStep {h : zMm} {K : zMm → Prop} {v2 : Int} (w : zCi mX3_ahead [.ref 10, .int (zI (h 22 8)), .int (zI v2)] zS0 h (fun x1 h1 => (zR x1 ∧ ((0 ≤ x1 → zCi mX3_minutesOfStep [.ref 10, .int (zI v2), .int (zI x1)] zS0 h1 (fun x3 h3 => ((0 ≤ x1 ∧ x1 < 36) ∧ (zR (h3 11 x1) ∧ (zR (h3 22 7) ∧ ((¬ (h3 11 x1) = 4 → (zR (h3 23 x1) ∧ (((h3 23 x1) ≤ 0 → K (zU (zU (zU h3 22 2 ((h1 22 2) + x3)) 22 8 x1) 22 4 ((h3 22 4) + 1))) ∧ (¬ (h3 23 x1) ≤ 0 → zCi mX3_told [.ref 10, .int (zI 6)] zS0 (zU (zU (zU h3 22 2 ((h1 22 2) + x3)) 22 8 x1) 22 4 ((h3 22 4) + 1)) (fun x10 h10 => zCv mX10_meetGrass [.ref 22, .int (zI v2), .int (zI x10)] zS0 h10 (fun h11 => K h11)))))) ∧ ((h3 11 x1) = 4 → (((h3 22 7) ≤ 0 → (zR (h3 23 x1) ∧ (((h3 23 x1) ≤ 0 → K (zU (zU (zU h3 22 2 ((h1 22 2) + x3)) 22 8 x1) 22 4 ((h3 22 4) + 1))) ∧ (¬ (h3 23 x1) ≤ 0 → zCi mX3_told [.ref 10, .int (zI 6)] zS0 (zU (zU (zU h3 22 2 ((h1 22 2) + x3)) 22 8 x1) 22 4 ((h3 22 4) + 1)) (fun x13 h13 => zCv mX10_meetGrass [.ref 22, .int (zI v2), .int (zI x13)] zS0 h13 (fun h14 => K h14)))))) ∧ (¬ (h3 22 7) ≤ 0 → zCi mX3_told [.ref 10, .int (zI 4)] zS0 (zU (zU (zU (zU (zU h3 22 2 ((h1 22 2) + x3)) 22 8 x1) 22 4 ((h3 22 4) + 1)) 22 7 0) 22 6 ((h3 22 6) + 1)) (fun x15 h15 => (zR (h15 23 x1) ∧ (((h15 23 x1) ≤ 0 → K (zU h15 22 2 (((h1 22 2) + x3) + x15))) ∧ (¬ (h15 23 x1) ≤ 0 → zCi mX3_told [.ref 10, .int (zI 6)] zS0 (zU h15 22 2 (((h1 22 2) + x3) + x15)) (fun x17 h17 => zCv mX10_meetGrass [.ref 22, .int (zI v2), .int (zI x17)] zS0 h17 (fun h18 => K h18))))))))))))))) ∧ (¬ 0 ≤ x1 → K (zU h1 22 5 1)))))) : zCv mX10_goStep [.ref 22, .ref 10, .int (zI v2)] zS0 h K := by
  show RR mX10_goStep 0 0 0 [some (.ref 22), some (.ref 10), some (.int (zI v2)), none] [] zS0 h (zQv zS0 K)
  refine r_aload_n (pc := 0) (a := 10) dX10_goStep_0 rfl ?_
  refine r_aload_n (pc := 1) (a := 22) dX10_goStep_1 rfl ?_
  refine r_getI (pc := 2) (fi := 8) (x := (h 22 8)) fl_X10_78 dX10_goStep_2 s0_22 rfl (rfl) ?_
  refine r_iload_n (pc := 5) (x := v2) dX10_goStep_5 rfl ?_
  refine r_callV (μ2 := mX3_ahead) (pc := 6) (as := [.int (zI (h 22 8)), .int (zI v2)]) (st := []) rfl s0_10 ml_X10_99 im_X3_ahead se_X3_ahead okX3_ahead ⟨by decide, by decide⟩ dX10_goStep_6 (Nat.le_of_ble_eq_true rfl) rfl (Nat.le_of_ble_eq_true rfl) (by decide) (by decide) (zCC.mono w ?_)
  rintro r S' h1 ⟨rfl, x1, hr, w⟩
  subst hr
  show RR mX10_goStep 0 0 9 [some (.ref 22), some (.ref 10), some (.int (zI v2)), none] [.int (zI x1)] zS0 h1 (zQv zS0 K)
  refine r_istore_n (pc := 9) (L' := [some (.ref 22), some (.ref 10), some (.int (zI v2)), some (.int (zI x1))]) dX10_goStep_9 (by decide) rfl ?_
  refine r_iload_n (pc := 10) (x := x1) dX10_goStep_10 rfl ?_
  obtain ⟨hr2, w⟩ := w
  refine r_if_ge (pc := 11) (x := x1) (tgt := 20) dX10_goStep_11 (by decide) hr2 (fun c => ?_) (fun c => ?_)
  · have w := w.1 (c)
    refine r_aload_n (pc := 20) (a := 22) dX10_goStep_20 rfl ?_
    refine r_dup (pc := 21) rfl dX10_goStep_21 ?_
    refine r_getI (pc := 22) (fi := 2) (x := (h1 22 2)) fl_X10_43 dX10_goStep_22 s0_22 rfl (rfl) ?_
    refine r_aload_n (pc := 25) (a := 10) dX10_goStep_25 rfl ?_
    refine r_iload_n (pc := 26) (x := v2) dX10_goStep_26 rfl ?_
    refine r_iload_n (pc := 27) (x := x1) dX10_goStep_27 rfl ?_
    refine r_callV (μ2 := mX3_minutesOfStep) (pc := 28) (as := [.int (zI v2), .int (zI x1)]) (st := [.int (zI (h1 22 2)), .ref 22]) rfl s0_10 ml_X10_102 im_X3_minutesOfStep se_X3_minutesOfStep okX3_minutesOfStep ⟨by decide, by decide⟩ dX10_goStep_28 (Nat.le_of_ble_eq_true rfl) rfl (Nat.le_of_ble_eq_true rfl) (by decide) (by decide) (zCC.mono w ?_)
    rintro r S' h3 ⟨rfl, x3, hr, w⟩
    subst hr
    show RR mX10_goStep 0 0 31 [some (.ref 22), some (.ref 10), some (.int (zI v2)), some (.int (zI x1))] [.int (zI x3), .int (zI (h1 22 2)), .ref 22] zS0 h3 (zQv zS0 K)
    refine r_iadd (pc := 31) (x := (h1 22 2)) (y := x3) dX10_goStep_31 ?_
    refine r_putI (pc := 32) (fi := 2) (x := ((h1 22 2) + x3)) fl_X10_43 dX10_goStep_32 s0_22 rfl ?_
    refine r_aload_n (pc := 35) (a := 22) dX10_goStep_35 rfl ?_
    refine r_iload_n (pc := 36) (x := x1) dX10_goStep_36 rfl ?_
    refine r_putI (pc := 37) (fi := 8) (x := x1) fl_X10_78 dX10_goStep_37 s0_22 rfl ?_
    refine r_aload_n (pc := 40) (a := 22) dX10_goStep_40 rfl ?_
    refine r_dup (pc := 41) rfl dX10_goStep_41 ?_
    refine r_getI (pc := 42) (fi := 4) (x := (h3 22 4)) fl_X10_69 dX10_goStep_42 s0_22 rfl ((zU_ne (by omega)).trans (zU_ne (by omega))) ?_
    refine r_iconst (pc := 45) dX10_goStep_45 ?_
    refine r_iadd (pc := 46) (x := (h3 22 4)) (y := 1) dX10_goStep_46 ?_
    refine r_putI (pc := 47) (fi := 4) (x := ((h3 22 4) + 1)) fl_X10_69 dX10_goStep_47 s0_22 rfl ?_
    refine r_aload_n (pc := 50) (a := 10) dX10_goStep_50 rfl ?_
    refine r_getR (pc := 51) (b := 11) fl_X10_105 dX10_goStep_51 s0_10 rfl ?_
    refine r_iload_n (pc := 54) (x := x1) dX10_goStep_54 rfl ?_
    obtain ⟨hb4, w⟩ := w
    refine r_iald (pc := 55) (i := x1) (x := (h3 11 x1)) dX10_goStep_55 s0_11 ⟨hb4.1, hb4.2, (by decide)⟩ ((zU_ne (by omega)).trans ((zU_ne (by omega)).trans (zU_ne (by omega)))) ?_
    refine r_iconst (pc := 56) dX10_goStep_56 ?_
    obtain ⟨hr5, w⟩ := w
    obtain ⟨hr7, w⟩ := w
    refine r_icmp_ne (pc := 57) (x := (h3 11 x1)) (y := 4) (tgt := 96) dX10_goStep_57 (by decide) hr5 (by decide) (fun c => ?_) (fun c => ?_)
    · have w := w.1 (c)
      refine r_aload_n (pc := 96) (a := 22) dX10_goStep_96 rfl ?_
      refine r_getR (pc := 97) (b := 23) fl_X10_9 dX10_goStep_97 s0_22 rfl ?_
      refine r_iload_n (pc := 100) (x := x1) dX10_goStep_100 rfl ?_
      refine r_iald (pc := 101) (i := x1) (x := (h3 23 x1)) dX10_goStep_101 s0_23 ⟨by omega, by omega, (by decide)⟩ ((zU_ne (by omega)).trans ((zU_ne (by omega)).trans (zU_ne (by omega)))) ?_
      obtain ⟨hr9, w⟩ := w
      refine r_if_le (pc := 102) (x := (h3 23 x1)) (tgt := 116) dX10_goStep_102 (by decide) hr9 (fun c => ?_) (fun c => ?_)
      · have w := w.1 (c)
        exact r_ret (st := []) (pc := 116) dX10_goStep_116 rfl rfl (by decide) ⟨rfl, rfl, w⟩
      · have w := w.2 (c)
        refine r_aload_n (pc := 105) (a := 22) dX10_goStep_105 rfl ?_
        refine r_iload_n (pc := 106) (x := v2) dX10_goStep_106 rfl ?_
        refine r_aload_n (pc := 107) (a := 10) dX10_goStep_107 rfl ?_
        refine r_bipush (pc := 108) (x := 6) dX10_goStep_108 (by decide) ?_
        refine r_callV (μ2 := mX3_told) (pc := 110) (as := [.int (zI 6)]) (st := [.int (zI v2), .ref 22]) rfl s0_10 ml_X10_46 im_X3_told se_X3_told okX3_told ⟨by decide, by decide⟩ dX10_goStep_110 (Nat.le_of_ble_eq_true rfl) rfl (Nat.le_of_ble_eq_true rfl) (by decide) (by decide) (zCC.mono w ?_)
        rintro r S' h10 ⟨rfl, x10, hr, w⟩
        subst hr
        show RR mX10_goStep 0 0 113 [some (.ref 22), some (.ref 10), some (.int (zI v2)), some (.int (zI x1))] [.int (zI x10), .int (zI v2), .ref 22] zS0 h10 (zQv zS0 K)
        refine r_callV (μ2 := mX10_meetGrass) (pc := 113) (as := [.int (zI v2), .int (zI x10)]) (st := []) rfl s0_22 ml_X10_108 im_X10_meetGrass se_X10_meetGrass okX10_meetGrass ⟨by decide, by decide⟩ dX10_goStep_113 (Nat.le_of_ble_eq_true rfl) rfl (Nat.le_of_ble_eq_true rfl) (by decide) (by decide) (zCC.mono w ?_)
        rintro r S' h11 ⟨rfl, hr, w⟩
        subst hr
        show RR mX10_goStep 0 0 116 [some (.ref 22), some (.ref 10), some (.int (zI v2)), some (.int (zI x1))] [] zS0 h11 (zQv zS0 K)
        exact r_ret (st := []) (pc := 116) dX10_goStep_116 rfl rfl (by decide) ⟨rfl, rfl, w⟩
    · have w := w.2 (c)
      refine r_aload_n (pc := 60) (a := 22) dX10_goStep_60 rfl ?_
      refine r_getI (pc := 61) (fi := 7) (x := (h3 22 7)) fl_X10_75 dX10_goStep_61 s0_22 rfl ((zU_ne (by omega)).trans ((zU_ne (by omega)).trans (zU_ne (by omega)))) ?_
      refine r_if_le (pc := 64) (x := (h3 22 7)) (tgt := 96) dX10_goStep_64 (by decide) hr7 (fun c => ?_) (fun c => ?_)
      · have w := w.1 (c)
        refine r_aload_n (pc := 96) (a := 22) dX10_goStep_96 rfl ?_
        refine r_getR (pc := 97) (b := 23) fl_X10_9 dX10_goStep_97 s0_22 rfl ?_
        refine r_iload_n (pc := 100) (x := x1) dX10_goStep_100 rfl ?_
        refine r_iald (pc := 101) (i := x1) (x := (h3 23 x1)) dX10_goStep_101 s0_23 ⟨by omega, by omega, (by decide)⟩ ((zU_ne (by omega)).trans ((zU_ne (by omega)).trans (zU_ne (by omega)))) ?_
        obtain ⟨hr12, w⟩ := w
        refine r_if_le (pc := 102) (x := (h3 23 x1)) (tgt := 116) dX10_goStep_102 (by decide) hr12 (fun c => ?_) (fun c => ?_)
        · have w := w.1 (c)
          exact r_ret (st := []) (pc := 116) dX10_goStep_116 rfl rfl (by decide) ⟨rfl, rfl, w⟩
        · have w := w.2 (c)
          refine r_aload_n (pc := 105) (a := 22) dX10_goStep_105 rfl ?_
          refine r_iload_n (pc := 106) (x := v2) dX10_goStep_106 rfl ?_
          refine r_aload_n (pc := 107) (a := 10) dX10_goStep_107 rfl ?_
          refine r_bipush (pc := 108) (x := 6) dX10_goStep_108 (by decide) ?_
          refine r_callV (μ2 := mX3_told) (pc := 110) (as := [.int (zI 6)]) (st := [.int (zI v2), .ref 22]) rfl s0_10 ml_X10_46 im_X3_told se_X3_told okX3_told ⟨by decide, by decide⟩ dX10_goStep_110 (Nat.le_of_ble_eq_true rfl) rfl (Nat.le_of_ble_eq_true rfl) (by decide) (by decide) (zCC.mono w ?_)
          rintro r S' h13 ⟨rfl, x13, hr, w⟩
          subst hr
          show RR mX10_goStep 0 0 113 [some (.ref 22), some (.ref 10), some (.int (zI v2)), some (.int (zI x1))] [.int (zI x13), .int (zI v2), .ref 22] zS0 h13 (zQv zS0 K)
          refine r_callV (μ2 := mX10_meetGrass) (pc := 113) (as := [.int (zI v2), .int (zI x13)]) (st := []) rfl s0_22 ml_X10_108 im_X10_meetGrass se_X10_meetGrass okX10_meetGrass ⟨by decide, by decide⟩ dX10_goStep_113 (Nat.le_of_ble_eq_true rfl) rfl (Nat.le_of_ble_eq_true rfl) (by decide) (by decide) (zCC.mono w ?_)
          rintro r S' h14 ⟨rfl, hr, w⟩
          subst hr
          show RR mX10_goStep 0 0 116 [some (.ref 22), some (.ref 10), some (.int (zI v2)), some (.int (zI x1))] [] zS0 h14 (zQv zS0 K)
          exact r_ret (st := []) (pc := 116) dX10_goStep_116 rfl rfl (by decide) ⟨rfl, rfl, w⟩
      · have w := w.2 (c)
        refine r_aload_n (pc := 67) (a := 22) dX10_goStep_67 rfl ?_
        refine r_iconst (pc := 68) dX10_goStep_68 ?_
        refine r_putI (pc := 69) (fi := 7) (x := 0) fl_X10_75 dX10_goStep_69 s0_22 rfl ?_
        refine r_aload_n (pc := 72) (a := 22) dX10_goStep_72 rfl ?_
        refine r_dup (pc := 73) rfl dX10_goStep_73 ?_
        refine r_getI (pc := 74) (fi := 6) (x := (h3 22 6)) fl_X10_72 dX10_goStep_74 s0_22 rfl ((zU_ne (by omega)).trans ((zU_ne (by omega)).trans ((zU_ne (by omega)).trans (zU_ne (by omega))))) ?_
        refine r_iconst (pc := 77) dX10_goStep_77 ?_
        refine r_iadd (pc := 78) (x := (h3 22 6)) (y := 1) dX10_goStep_78 ?_
        refine r_putI (pc := 79) (fi := 6) (x := ((h3 22 6) + 1)) fl_X10_72 dX10_goStep_79 s0_22 rfl ?_
        refine r_aload_n (pc := 82) (a := 22) dX10_goStep_82 rfl ?_
        refine r_dup (pc := 83) rfl dX10_goStep_83 ?_
        refine r_getI (pc := 84) (fi := 2) (x := ((h1 22 2) + x3)) fl_X10_43 dX10_goStep_84 s0_22 rfl ((zU_ne (by omega)).trans ((zU_ne (by omega)).trans ((zU_ne (by omega)).trans ((zU_ne (by omega)).trans (zU_eq _ _ _ _))))) ?_
        refine r_aload_n (pc := 87) (a := 10) dX10_goStep_87 rfl ?_
        refine r_iconst (pc := 88) dX10_goStep_88 ?_
        refine r_callV (μ2 := mX3_told) (pc := 89) (as := [.int (zI 4)]) (st := [.int (zI ((h1 22 2) + x3)), .ref 22]) rfl s0_10 ml_X10_46 im_X3_told se_X3_told okX3_told ⟨by decide, by decide⟩ dX10_goStep_89 (Nat.le_of_ble_eq_true rfl) rfl (Nat.le_of_ble_eq_true rfl) (by decide) (by decide) (zCC.mono w ?_)
        rintro r S' h15 ⟨rfl, x15, hr, w⟩
        subst hr
        show RR mX10_goStep 0 0 92 [some (.ref 22), some (.ref 10), some (.int (zI v2)), some (.int (zI x1))] [.int (zI x15), .int (zI ((h1 22 2) + x3)), .ref 22] zS0 h15 (zQv zS0 K)
        refine r_iadd (pc := 92) (x := ((h1 22 2) + x3)) (y := x15) dX10_goStep_92 ?_
        refine r_putI (pc := 93) (fi := 2) (x := (((h1 22 2) + x3) + x15)) fl_X10_43 dX10_goStep_93 s0_22 rfl ?_
        refine r_aload_n (pc := 96) (a := 22) dX10_goStep_96 rfl ?_
        refine r_getR (pc := 97) (b := 23) fl_X10_9 dX10_goStep_97 s0_22 rfl ?_
        refine r_iload_n (pc := 100) (x := x1) dX10_goStep_100 rfl ?_
        refine r_iald (pc := 101) (i := x1) (x := (h15 23 x1)) dX10_goStep_101 s0_23 ⟨by omega, by omega, (by decide)⟩ (zU_ne (by omega)) ?_
        obtain ⟨hr16, w⟩ := w
        refine r_if_le (pc := 102) (x := (h15 23 x1)) (tgt := 116) dX10_goStep_102 (by decide) hr16 (fun c => ?_) (fun c => ?_)
        · have w := w.1 (c)
          exact r_ret (st := []) (pc := 116) dX10_goStep_116 rfl rfl (by decide) ⟨rfl, rfl, w⟩
        · have w := w.2 (c)
          refine r_aload_n (pc := 105) (a := 22) dX10_goStep_105 rfl ?_
          refine r_iload_n (pc := 106) (x := v2) dX10_goStep_106 rfl ?_
          refine r_aload_n (pc := 107) (a := 10) dX10_goStep_107 rfl ?_
          refine r_bipush (pc := 108) (x := 6) dX10_goStep_108 (by decide) ?_
          refine r_callV (μ2 := mX3_told) (pc := 110) (as := [.int (zI 6)]) (st := [.int (zI v2), .ref 22]) rfl s0_10 ml_X10_46 im_X3_told se_X3_told okX3_told ⟨by decide, by decide⟩ dX10_goStep_110 (Nat.le_of_ble_eq_true rfl) rfl (Nat.le_of_ble_eq_true rfl) (by decide) (by decide) (zCC.mono w ?_)
          rintro r S' h17 ⟨rfl, x17, hr, w⟩
          subst hr
          show RR mX10_goStep 0 0 113 [some (.ref 22), some (.ref 10), some (.int (zI v2)), some (.int (zI x1))] [.int (zI x17), .int (zI v2), .ref 22] zS0 h17 (zQv zS0 K)
          refine r_callV (μ2 := mX10_meetGrass) (pc := 113) (as := [.int (zI v2), .int (zI x17)]) (st := []) rfl s0_22 ml_X10_108 im_X10_meetGrass se_X10_meetGrass okX10_meetGrass ⟨by decide, by decide⟩ dX10_goStep_113 (Nat.le_of_ble_eq_true rfl) rfl (Nat.le_of_ble_eq_true rfl) (by decide) (by decide) (zCC.mono w ?_)
          rintro r S' h18 ⟨rfl, hr, w⟩
          subst hr
          show RR mX10_goStep 0 0 116 [some (.ref 22), some (.ref 10), some (.int (zI v2)), some (.int (zI x1))] [] zS0 h18 (zQv zS0 K)
          exact r_ret (st := []) (pc := 116) dX10_goStep_116 rfl rfl (by decide) ⟨rfl, rfl, w⟩
  · have w := w.2 (c)
    refine r_aload_n (pc := 14) (a := 22) dX10_goStep_14 rfl ?_
    refine r_iconst (pc := 15) dX10_goStep_15 ?_
    refine r_putZ (pc := 16) (fi := 5) (x := 1) fl_X10_28 dX10_goStep_16 s0_22 rfl (by decide) ?_
    exact r_ret (st := []) (pc := 19) dX10_goStep_19 rfl rfl (by decide) ⟨rfl, rfl, w⟩

set_option maxRecDepth 100000 in
set_option maxHeartbeats 4000000 in
theorem wX10_startAnew {h : zMm} {K : zMm → Prop} {v2 : Int} {v3 : Int} (w : zCi mX3_told [.ref 10, .int (zI 0)] zS0 (zU (zU (zU (zU (zU (zU (zCp (zCp h 12 23 36) 14 24 36) 22 2 0) 22 3 0) 22 4 0) 22 5 0) 22 6 0) 22 7 0) (fun x1 h1 => K (zU (zU (zU (zU (zU (zU (zU (zU h1 22 8 x1) 22 9 0) 22 10 0) 22 11 0) 22 12 0) 22 13 (-1)) 22 14 v2) 22 15 v3))) : zCv mX10_startAnew [.ref 22, .ref 10, .int (zI v2), .int (zI v3)] zS0 h K := by
  show RR mX10_startAnew 0 0 0 [some (.ref 22), some (.ref 10), some (.int (zI v2)), some (.int (zI v3))] [] zS0 h (zQv zS0 K)
  refine r_aload_n (pc := 0) (a := 10) dX10_startAnew_0 rfl ?_
  refine r_getR (pc := 1) (b := 12) fl_X10_58 dX10_startAnew_1 s0_10 rfl ?_
  refine r_iconst (pc := 4) dX10_startAnew_4 ?_
  refine r_aload_n (pc := 5) (a := 22) dX10_startAnew_5 rfl ?_
  refine r_getR (pc := 6) (b := 23) fl_X10_9 dX10_startAnew_6 s0_22 rfl ?_
  refine r_iconst (pc := 9) dX10_startAnew_9 ?_
  refine r_bipush (pc := 10) (x := 36) dX10_startAnew_10 (by decide) ?_
  refine r_copy_int (pc := 12) ml_X10_59 mw_native mw_static mw_init dX10_startAnew_12 s0_12 s0_23 (by decide) (by decide) (by decide) ?_
  refine r_aload_n (pc := 15) (a := 10) dX10_startAnew_15 rfl ?_
  refine r_getR (pc := 16) (b := 14) fl_X10_65 dX10_startAnew_16 s0_10 rfl ?_
  refine r_iconst (pc := 19) dX10_startAnew_19 ?_
  refine r_aload_n (pc := 20) (a := 22) dX10_startAnew_20 rfl ?_
  refine r_getR (pc := 21) (b := 24) fl_X10_15 dX10_startAnew_21 s0_22 rfl ?_
  refine r_iconst (pc := 24) dX10_startAnew_24 ?_
  refine r_bipush (pc := 25) (x := 36) dX10_startAnew_25 (by decide) ?_
  refine r_copy_int (pc := 27) ml_X10_59 mw_native mw_static mw_init dX10_startAnew_27 s0_14 s0_24 (by decide) (by decide) (by decide) ?_
  refine r_aload_n (pc := 30) (a := 22) dX10_startAnew_30 rfl ?_
  refine r_iconst (pc := 31) dX10_startAnew_31 ?_
  refine r_putI (pc := 32) (fi := 2) (x := 0) fl_X10_43 dX10_startAnew_32 s0_22 rfl ?_
  refine r_aload_n (pc := 35) (a := 22) dX10_startAnew_35 rfl ?_
  refine r_iconst (pc := 36) dX10_startAnew_36 ?_
  refine r_putI (pc := 37) (fi := 3) (x := 0) fl_X10_66 dX10_startAnew_37 s0_22 rfl ?_
  refine r_aload_n (pc := 40) (a := 22) dX10_startAnew_40 rfl ?_
  refine r_iconst (pc := 41) dX10_startAnew_41 ?_
  refine r_putI (pc := 42) (fi := 4) (x := 0) fl_X10_69 dX10_startAnew_42 s0_22 rfl ?_
  refine r_aload_n (pc := 45) (a := 22) dX10_startAnew_45 rfl ?_
  refine r_iconst (pc := 46) dX10_startAnew_46 ?_
  refine r_putZ (pc := 47) (fi := 5) (x := 0) fl_X10_28 dX10_startAnew_47 s0_22 rfl (by decide) ?_
  refine r_aload_n (pc := 50) (a := 22) dX10_startAnew_50 rfl ?_
  refine r_iconst (pc := 51) dX10_startAnew_51 ?_
  refine r_putI (pc := 52) (fi := 6) (x := 0) fl_X10_72 dX10_startAnew_52 s0_22 rfl ?_
  refine r_aload_n (pc := 55) (a := 22) dX10_startAnew_55 rfl ?_
  refine r_iconst (pc := 56) dX10_startAnew_56 ?_
  refine r_putI (pc := 57) (fi := 7) (x := 0) fl_X10_75 dX10_startAnew_57 s0_22 rfl ?_
  refine r_aload_n (pc := 60) (a := 22) dX10_startAnew_60 rfl ?_
  refine r_aload_n (pc := 61) (a := 10) dX10_startAnew_61 rfl ?_
  refine r_iconst (pc := 62) dX10_startAnew_62 ?_
  refine r_callV (μ2 := mX3_told) (pc := 63) (as := [.int (zI 0)]) (st := [.ref 22]) rfl s0_10 ml_X10_46 im_X3_told se_X3_told okX3_told ⟨by decide, by decide⟩ dX10_startAnew_63 (Nat.le_of_ble_eq_true rfl) rfl (Nat.le_of_ble_eq_true rfl) (by decide) (by decide) (zCC.mono w ?_)
  rintro r S' h1 ⟨rfl, x1, hr, w⟩
  subst hr
  show RR mX10_startAnew 0 0 66 [some (.ref 22), some (.ref 10), some (.int (zI v2)), some (.int (zI v3))] [.int (zI x1), .ref 22] zS0 h1 (zQv zS0 K)
  refine r_putI (pc := 66) (fi := 8) (x := x1) fl_X10_78 dX10_startAnew_66 s0_22 rfl ?_
  refine r_aload_n (pc := 69) (a := 22) dX10_startAnew_69 rfl ?_
  refine r_iconst (pc := 70) dX10_startAnew_70 ?_
  refine r_putI (pc := 71) (fi := 9) (x := 0) fl_X10_40 dX10_startAnew_71 s0_22 rfl ?_
  refine r_aload_n (pc := 74) (a := 22) dX10_startAnew_74 rfl ?_
  refine r_iconst (pc := 75) dX10_startAnew_75 ?_
  refine r_putI (pc := 76) (fi := 10) (x := 0) fl_X10_81 dX10_startAnew_76 s0_22 rfl ?_
  refine r_aload_n (pc := 79) (a := 22) dX10_startAnew_79 rfl ?_
  refine r_iconst (pc := 80) dX10_startAnew_80 ?_
  refine r_putI (pc := 81) (fi := 11) (x := 0) fl_X10_84 dX10_startAnew_81 s0_22 rfl ?_
  refine r_aload_n (pc := 84) (a := 22) dX10_startAnew_84 rfl ?_
  refine r_iconst (pc := 85) dX10_startAnew_85 ?_
  refine r_putI (pc := 86) (fi := 12) (x := 0) fl_X10_87 dX10_startAnew_86 s0_22 rfl ?_
  refine r_aload_n (pc := 89) (a := 22) dX10_startAnew_89 rfl ?_
  refine r_iconst (pc := 90) dX10_startAnew_90 ?_
  refine r_putI (pc := 91) (fi := 13) (x := (-1)) fl_X10_90 dX10_startAnew_91 s0_22 rfl ?_
  refine r_aload_n (pc := 94) (a := 22) dX10_startAnew_94 rfl ?_
  refine r_iload_n (pc := 95) (x := v2) dX10_startAnew_95 rfl ?_
  refine r_putI (pc := 96) (fi := 14) (x := v2) fl_X10_93 dX10_startAnew_96 s0_22 rfl ?_
  refine r_aload_n (pc := 99) (a := 22) dX10_startAnew_99 rfl ?_
  refine r_iload_n (pc := 100) (x := v3) dX10_startAnew_100 rfl ?_
  refine r_putI (pc := 101) (fi := 15) (x := v3) fl_X10_96 dX10_startAnew_101 s0_22 rfl ?_
  exact r_ret (st := []) (pc := 104) dX10_startAnew_104 rfl rfl (by decide) ⟨rfl, rfl, w⟩

set_option maxRecDepth 100000 in
set_option maxHeartbeats 4000000 in
theorem wX10_follow {h : zMm} {K : zMm → Prop} {v3 : Int} {v4 : Int} (w : zCv mX10_startAnew [.ref 22, .ref 10, .int (zI v3), .int (zI v4)] zS0 h (fun h1 => RR mX10_follow 0 0 14 [some (.ref 22), some (.ref 10), some (.ref 16), none, none, some (.int (zI 0)), some (.int (zI 0)), none, none, none] [] zS0 h1 (zQv zS0 K))) : zCv mX10_follow [.ref 22, .ref 10, .ref 16, .int (zI v3), .int (zI v4)] zS0 h K := by
  show RR mX10_follow 0 0 0 [some (.ref 22), some (.ref 10), some (.ref 16), some (.int (zI v3)), some (.int (zI v4)), none, none, none, none, none] [] zS0 h (zQv zS0 K)
  refine r_aload_n (pc := 0) (a := 22) dX10_follow_0 rfl ?_
  refine r_aload_n (pc := 1) (a := 10) dX10_follow_1 rfl ?_
  refine r_iload_n (pc := 2) (x := v3) dX10_follow_2 rfl ?_
  refine r_iload (pc := 3) (x := v4) dX10_follow_3 rfl ?_
  refine r_callV (μ2 := mX10_startAnew) (pc := 5) (as := [.ref 10, .int (zI v3), .int (zI v4)]) (st := []) rfl s0_22 ml_X10_18 im_X10_startAnew se_X10_startAnew okX10_startAnew ⟨by decide, by decide⟩ dX10_follow_5 (Nat.le_of_ble_eq_true rfl) rfl (Nat.le_of_ble_eq_true rfl) (by decide) (by decide) (zCC.mono w ?_)
  rintro r S' h1 ⟨rfl, hr, w⟩
  subst hr
  show RR mX10_follow 0 0 8 [some (.ref 22), some (.ref 10), some (.ref 16), some (.int (zI v3)), some (.int (zI v4)), none, none, none, none, none] [] zS0 h1 (zQv zS0 K)
  refine r_iconst (pc := 8) dX10_follow_8 ?_
  refine r_istore (pc := 9) (L' := [some (.ref 22), some (.ref 10), some (.ref 16), some (.int (zI v3)), some (.int (zI v4)), some (.int (zI 0)), none, none, none, none]) dX10_follow_9 (by decide) rfl ?_
  refine r_iconst (pc := 11) dX10_follow_11 ?_
  refine r_istore (pc := 12) (L' := [some (.ref 22), some (.ref 10), some (.ref 16), some (.int (zI v3)), some (.int (zI v4)), some (.int (zI 0)), some (.int (zI 0)), none, none, none]) dX10_follow_12 (by decide) rfl ?_
  exact RR.sub (L' := [some (.ref 22), some (.ref 10), some (.ref 16), none, none, some (.int (zI 0)), some (.int (zI 0)), none, none, none]) (zSb_of (⟨rfl, ⟨rfl, ⟨rfl, ⟨rfl, ⟨rfl, trivial⟩⟩⟩⟩⟩)) w

set_option maxRecDepth 100000 in
set_option maxHeartbeats 4000000 in
theorem bX10_follow_14 {h : zMm} {K : zMm → Prop} {v5 : Int} {v6 : Int} (w : (zR v6 ∧ (zR (h 16 2) ∧ (zR (h 22 5) ∧ (((h 16 2) ≤ v6 → K h) ∧ (¬ (h 16 2) ≤ v6 → ((¬ (h 22 5) = 0 → K h) ∧ ((h 22 5) = 0 → zCi mX5_wayOf [.ref 16, .int (zI v6)] zS0 h (fun x7 h7 => zCi mX11_quartersBetween [.int (zI v5), .int (zI x7)] zS0 h7 (fun x8 h8 => zCi mX3_told [.ref 10, .int (zI 1)] zS0 (zU h8 22 9 ((h8 22 9) + x8)) (fun x9 h9 => zCi mX5_stepsOf [.ref 16, .int (zI v6)] zS0 (zU h9 22 2 ((h8 22 2) + (x8 * x9))) (fun x10 h10 => RR mX10_follow 0 0 87 [some (.ref 22), some (.ref 10), some (.ref 16), none, none, some (.int (zI x7)), some (.int (zI v6)), some (.int (zI x7)), none, some (.int (zI x10))] [] zS0 h10 (zQv zS0 K))))))))))))) : RR mX10_follow 0 0 14 [some (.ref 22), some (.ref 10), some (.ref 16), none, none, some (.int (zI v5)), some (.int (zI v6)), none, none, none] [] zS0 h (zQv zS0 K) := by
  refine r_iload (pc := 14) (x := v6) dX10_follow_14 rfl ?_
  refine r_aload_n (pc := 16) (a := 16) dX10_follow_16 rfl ?_
  refine r_getI (pc := 17) (fi := 2) (x := (h 16 2)) fl_X10_22 dX10_follow_17 s0_16 rfl (rfl) ?_
  obtain ⟨hr2, w⟩ := w
  obtain ⟨hr3, w⟩ := w
  obtain ⟨hr5, w⟩ := w
  refine r_icmp_ge (pc := 20) (x := v6) (y := (h 16 2)) (tgt := 118) dX10_follow_20 (by decide) hr2 hr3 (fun c => ?_) (fun c => ?_)
  · have w := w.1 (c)
    exact r_ret (st := []) (pc := 118) dX10_follow_118 rfl rfl (by decide) ⟨rfl, rfl, w⟩
  · have w := w.2 (c)
    refine r_aload_n (pc := 23) (a := 22) dX10_follow_23 rfl ?_
    refine r_getI (pc := 24) (fi := 5) (x := (h 22 5)) fl_X10_28 dX10_follow_24 s0_22 rfl (rfl) ?_
    refine r_if_ne (pc := 27) (x := (h 22 5)) (tgt := 118) dX10_follow_27 (by decide) hr5 (fun c => ?_) (fun c => ?_)
    · have w := w.1 (c)
      exact r_ret (st := []) (pc := 118) dX10_follow_118 rfl rfl (by decide) ⟨rfl, rfl, w⟩
    · have w := w.2 (c)
      refine r_aload_n (pc := 30) (a := 16) dX10_follow_30 rfl ?_
      refine r_iload (pc := 31) (x := v6) dX10_follow_31 rfl ?_
      refine r_callV (μ2 := mX5_wayOf) (pc := 33) (as := [.int (zI v6)]) (st := []) rfl s0_16 ml_X10_32 im_X5_wayOf se_X5_wayOf okX5_wayOf ⟨by decide, by decide⟩ dX10_follow_33 (Nat.le_of_ble_eq_true rfl) rfl (Nat.le_of_ble_eq_true rfl) (by decide) (by decide) (zCC.mono w ?_)
      rintro r S' h7 ⟨rfl, x7, hr, w⟩
      subst hr
      show RR mX10_follow 0 0 36 [some (.ref 22), some (.ref 10), some (.ref 16), none, none, some (.int (zI v5)), some (.int (zI v6)), none, none, none] [.int (zI x7)] zS0 h7 (zQv zS0 K)
      refine r_istore (pc := 36) (L' := [some (.ref 22), some (.ref 10), some (.ref 16), none, none, some (.int (zI v5)), some (.int (zI v6)), some (.int (zI x7)), none, none]) dX10_follow_36 (by decide) rfl ?_
      refine r_iload (pc := 38) (x := v5) dX10_follow_38 rfl ?_
      refine r_iload (pc := 40) (x := x7) dX10_follow_40 rfl ?_
      refine r_callSN (μ2 := mX11_quartersBetween) (pc := 42) (as := [.int (zI v5), .int (zI x7)]) (st := []) mn_X10_36 sm_X11_quartersBetween okX11_quartersBetween ⟨by decide, by decide⟩ dX10_follow_42 (Nat.le_of_ble_eq_true rfl) rfl (Nat.le_of_ble_eq_true rfl) (by decide) (by decide) (zCC.mono w ?_)
      rintro r S' h8 ⟨rfl, x8, hr, w⟩
      subst hr
      show RR mX10_follow 0 0 45 [some (.ref 22), some (.ref 10), some (.ref 16), none, none, some (.int (zI v5)), some (.int (zI v6)), some (.int (zI x7)), none, none] [.int (zI x8)] zS0 h8 (zQv zS0 K)
      refine r_istore (pc := 45) (L' := [some (.ref 22), some (.ref 10), some (.ref 16), none, none, some (.int (zI v5)), some (.int (zI v6)), some (.int (zI x7)), some (.int (zI x8)), none]) dX10_follow_45 (by decide) rfl ?_
      refine r_aload_n (pc := 47) (a := 22) dX10_follow_47 rfl ?_
      refine r_dup (pc := 48) rfl dX10_follow_48 ?_
      refine r_getI (pc := 49) (fi := 9) (x := (h8 22 9)) fl_X10_40 dX10_follow_49 s0_22 rfl (rfl) ?_
      refine r_iload (pc := 52) (x := x8) dX10_follow_52 rfl ?_
      refine r_iadd (pc := 54) (x := (h8 22 9)) (y := x8) dX10_follow_54 ?_
      refine r_putI (pc := 55) (fi := 9) (x := ((h8 22 9) + x8)) fl_X10_40 dX10_follow_55 s0_22 rfl ?_
      refine r_aload_n (pc := 58) (a := 22) dX10_follow_58 rfl ?_
      refine r_dup (pc := 59) rfl dX10_follow_59 ?_
      refine r_getI (pc := 60) (fi := 2) (x := (h8 22 2)) fl_X10_43 dX10_follow_60 s0_22 rfl (zU_ne (by omega)) ?_
      refine r_iload (pc := 63) (x := x8) dX10_follow_63 rfl ?_
      refine r_aload_n (pc := 65) (a := 10) dX10_follow_65 rfl ?_
      refine r_iconst (pc := 66) dX10_follow_66 ?_
      refine r_callV (μ2 := mX3_told) (pc := 67) (as := [.int (zI 1)]) (st := [.int (zI x8), .int (zI (h8 22 2)), .ref 22]) rfl s0_10 ml_X10_46 im_X3_told se_X3_told okX3_told ⟨by decide, by decide⟩ dX10_follow_67 (Nat.le_of_ble_eq_true rfl) rfl (Nat.le_of_ble_eq_true rfl) (by decide) (by decide) (zCC.mono w ?_)
      rintro r S' h9 ⟨rfl, x9, hr, w⟩
      subst hr
      show RR mX10_follow 0 0 70 [some (.ref 22), some (.ref 10), some (.ref 16), none, none, some (.int (zI v5)), some (.int (zI v6)), some (.int (zI x7)), some (.int (zI x8)), none] [.int (zI x9), .int (zI x8), .int (zI (h8 22 2)), .ref 22] zS0 h9 (zQv zS0 K)
      refine r_imul (pc := 70) (x := x8) (y := x9) dX10_follow_70 ?_
      refine r_iadd (pc := 71) (x := (h8 22 2)) (y := (x8 * x9)) dX10_follow_71 ?_
      refine r_putI (pc := 72) (fi := 2) (x := ((h8 22 2) + (x8 * x9))) fl_X10_43 dX10_follow_72 s0_22 rfl ?_
      refine r_iload (pc := 75) (x := x7) dX10_follow_75 rfl ?_
      refine r_istore (pc := 77) (L' := [some (.ref 22), some (.ref 10), some (.ref 16), none, none, some (.int (zI x7)), some (.int (zI v6)), some (.int (zI x7)), some (.int (zI x8)), none]) dX10_follow_77 (by decide) rfl ?_
      refine r_aload_n (pc := 79) (a := 16) dX10_follow_79 rfl ?_
      refine r_iload (pc := 80) (x := v6) dX10_follow_80 rfl ?_
      refine r_callV (μ2 := mX5_stepsOf) (pc := 82) (as := [.int (zI v6)]) (st := []) rfl s0_16 ml_X10_51 im_X5_stepsOf se_X5_stepsOf okX5_stepsOf ⟨by decide, by decide⟩ dX10_follow_82 (Nat.le_of_ble_eq_true rfl) rfl (Nat.le_of_ble_eq_true rfl) (by decide) (by decide) (zCC.mono w ?_)
      rintro r S' h10 ⟨rfl, x10, hr, w⟩
      subst hr
      show RR mX10_follow 0 0 85 [some (.ref 22), some (.ref 10), some (.ref 16), none, none, some (.int (zI x7)), some (.int (zI v6)), some (.int (zI x7)), some (.int (zI x8)), none] [.int (zI x10)] zS0 h10 (zQv zS0 K)
      refine r_istore (pc := 85) (L' := [some (.ref 22), some (.ref 10), some (.ref 16), none, none, some (.int (zI x7)), some (.int (zI v6)), some (.int (zI x7)), some (.int (zI x8)), some (.int (zI x10))]) dX10_follow_85 (by decide) rfl ?_
      exact RR.sub (L' := [some (.ref 22), some (.ref 10), some (.ref 16), none, none, some (.int (zI x7)), some (.int (zI v6)), some (.int (zI x7)), none, some (.int (zI x10))]) (zSb_of (⟨rfl, ⟨rfl, ⟨rfl, ⟨rfl, ⟨rfl, ⟨rfl, ⟨rfl, trivial⟩⟩⟩⟩⟩⟩⟩)) w

set_option maxRecDepth 100000 in
set_option maxHeartbeats 4000000 in
theorem bX10_follow_87 {h : zMm} {K : zMm → Prop} {v5 : Int} {v6 : Int} {v7 : Int} {v9 : Int} (w : (zR v9 ∧ (zR (h 22 5) ∧ ((v9 ≤ 0 → RR mX10_follow 0 0 14 [some (.ref 22), some (.ref 10), some (.ref 16), none, none, some (.int (zI v5)), some (.int (zI (v6 + 1))), none, none, none] [] zS0 h (zQv zS0 K)) ∧ (¬ v9 ≤ 0 → ((¬ (h 22 5) = 0 → RR mX10_follow 0 0 14 [some (.ref 22), some (.ref 10), some (.ref 16), none, none, some (.int (zI v5)), some (.int (zI (v6 + 1))), none, none, none] [] zS0 h (zQv zS0 K)) ∧ ((h 22 5) = 0 → zCv mX10_goStep [.ref 22, .ref 10, .int (zI v7)] zS0 h (fun h15 => RR mX10_follow 0 0 87 [some (.ref 22), some (.ref 10), some (.ref 16), none, none, some (.int (zI v5)), some (.int (zI v6)), some (.int (zI v7)), none, some (.int (zI (v9 + (-1))))] [] zS0 h15 (zQv zS0 K))))))))) : RR mX10_follow 0 0 87 [some (.ref 22), some (.ref 10), some (.ref 16), none, none, some (.int (zI v5)), some (.int (zI v6)), some (.int (zI v7)), none, some (.int (zI v9))] [] zS0 h (zQv zS0 K) := by
  refine r_iload (pc := 87) (x := v9) dX10_follow_87 rfl ?_
  obtain ⟨hr11, w⟩ := w
  obtain ⟨hr13, w⟩ := w
  refine r_if_le (pc := 89) (x := v9) (tgt := 112) dX10_follow_89 (by decide) hr11 (fun c => ?_) (fun c => ?_)
  · have w := w.1 (c)
    refine r_iinc (pc := 112) (x := v6) (L' := [some (.ref 22), some (.ref 10), some (.ref 16), none, none, some (.int (zI v5)), some (.int (zI (v6 + 1))), some (.int (zI v7)), none, some (.int (zI v9))]) dX10_follow_112 rfl (by decide) rfl ?_
    refine r_goto (pc := 115) (tgt := 14) dX10_follow_115 (by decide) ?_
    exact RR.sub (L' := [some (.ref 22), some (.ref 10), some (.ref 16), none, none, some (.int (zI v5)), some (.int (zI (v6 + 1))), none, none, none]) (zSb_of (⟨rfl, ⟨rfl, ⟨rfl, ⟨rfl, ⟨rfl, trivial⟩⟩⟩⟩⟩)) w
  · have w := w.2 (c)
    refine r_aload_n (pc := 92) (a := 22) dX10_follow_92 rfl ?_
    refine r_getI (pc := 93) (fi := 5) (x := (h 22 5)) fl_X10_28 dX10_follow_93 s0_22 rfl (rfl) ?_
    refine r_if_ne (pc := 96) (x := (h 22 5)) (tgt := 112) dX10_follow_96 (by decide) hr13 (fun c => ?_) (fun c => ?_)
    · have w := w.1 (c)
      refine r_iinc (pc := 112) (x := v6) (L' := [some (.ref 22), some (.ref 10), some (.ref 16), none, none, some (.int (zI v5)), some (.int (zI (v6 + 1))), some (.int (zI v7)), none, some (.int (zI v9))]) dX10_follow_112 rfl (by decide) rfl ?_
      refine r_goto (pc := 115) (tgt := 14) dX10_follow_115 (by decide) ?_
      exact RR.sub (L' := [some (.ref 22), some (.ref 10), some (.ref 16), none, none, some (.int (zI v5)), some (.int (zI (v6 + 1))), none, none, none]) (zSb_of (⟨rfl, ⟨rfl, ⟨rfl, ⟨rfl, ⟨rfl, trivial⟩⟩⟩⟩⟩)) w
    · have w := w.2 (c)
      refine r_aload_n (pc := 99) (a := 22) dX10_follow_99 rfl ?_
      refine r_aload_n (pc := 100) (a := 10) dX10_follow_100 rfl ?_
      refine r_iload (pc := 101) (x := v7) dX10_follow_101 rfl ?_
      refine r_callV (μ2 := mX10_goStep) (pc := 103) (as := [.ref 10, .int (zI v7)]) (st := []) rfl s0_22 ml_X10_54 im_X10_goStep se_X10_goStep okX10_goStep ⟨by decide, by decide⟩ dX10_follow_103 (Nat.le_of_ble_eq_true rfl) rfl (Nat.le_of_ble_eq_true rfl) (by decide) (by decide) (zCC.mono w ?_)
      rintro r S' h15 ⟨rfl, hr, w⟩
      subst hr
      show RR mX10_follow 0 0 106 [some (.ref 22), some (.ref 10), some (.ref 16), none, none, some (.int (zI v5)), some (.int (zI v6)), some (.int (zI v7)), none, some (.int (zI v9))] [] zS0 h15 (zQv zS0 K)
      refine r_iinc (pc := 106) (x := v9) (L' := [some (.ref 22), some (.ref 10), some (.ref 16), none, none, some (.int (zI v5)), some (.int (zI v6)), some (.int (zI v7)), none, some (.int (zI (v9 + (-1))))]) dX10_follow_106 rfl (by decide) rfl ?_
      refine r_goto (pc := 109) (tgt := 87) dX10_follow_109 (by decide) ?_
      exact w
