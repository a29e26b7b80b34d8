set_option maxRecDepth 100000 in
set_option maxHeartbeats 4000000 in
theorem wX4_forget {h : zMm} {K : zMm → Prop} (w : K (zU (zU h 31 13 0) 31 14 0)) : zCv mX4_forget [.ref 31] zS0 h K := by
  show RR mX4_forget 0 0 0 [some (.ref 31)] [] zS0 h (zQv zS0 K)
  refine r_aload_n (pc := 0) (a := 31) dX4_forget_0 rfl ?_
  refine r_iconst (pc := 1) dX4_forget_1 ?_
  refine r_putZ (pc := 2) (fi := 13) (x := 0) fl_X4_47 dX4_forget_2 s0_31 rfl (by decide) ?_
  refine r_aload_n (pc := 5) (a := 31) dX4_forget_5 rfl ?_
  refine r_iconst (pc := 6) dX4_forget_6 ?_
  refine r_putZ (pc := 7) (fi := 14) (x := 0) fl_X4_51 dX4_forget_7 s0_31 rfl (by decide) ?_
  exact r_ret (st := []) (pc := 10) dX4_forget_10 rfl rfl (by decide) ⟨rfl, rfl, w⟩

set_option maxRecDepth 100000 in
set_option maxHeartbeats 4000000 in
theorem wX4_isFound {h : zMm} {K : Bool → zMm → Prop} (w : (zR (h 31 15) ∧ K (if 1000000 ≤ (h 31 15) then false else true) h)) : zCb mX4_isFound [.ref 31] zS0 h K := by
  show RR mX4_isFound 0 0 0 [some (.ref 31)] [] zS0 h (zQb zS0 K)
  refine r_aload_n (pc := 0) (a := 31) dX4_isFound_0 rfl ?_
  refine r_getI (pc := 1) (fi := 15) (x := (h 31 15)) fl_X4_54 dX4_isFound_1 s0_31 rfl (rfl) ?_
  refine r_ldcI (pc := 4) (x := 1000000) dX4_isFound_4 kc_X4_58 ?_
  obtain ⟨hr1, w⟩ := w
  have kk2 : RR mX4_isFound 0 0 14 [some (.ref 31)] [.int (zI (bI (if 1000000 ≤ (h 31 15) then false else true)))] zS0 h (zQb zS0 K) := by
    exact r_iret (st := []) (pc := 14) (x := (bI (if 1000000 ≤ (h 31 15) then false else true))) (ty := .boolean) dX4_isFound_14 rfl (bI_nar _) rfl (by decide) ⟨rfl, (if 1000000 ≤ (h 31 15) then false else true), rfl, w⟩
  refine r_icmp_ge (pc := 6) (x := (h 31 15)) (y := 1000000) (tgt := 13) dX4_isFound_6 (by decide) hr1 (by decide) (fun c => ?_) (fun c => ?_)
  · refine r_iconst (pc := 13) dX4_isFound_13 ?_
    simp only [if_pos (c)] at kk2 ⊢
    exact kk2
  · refine r_iconst (pc := 9) dX4_isFound_9 ?_
    refine r_goto (pc := 10) (tgt := 14) dX4_isFound_10 (by decide) ?_
    simp only [if_neg (c)] at kk2 ⊢
    exact kk2

set_option maxRecDepth 100000 in
set_option maxHeartbeats 4000000 in
theorem wX4_wayOf {h : zMm} {K : Int → zMm → Prop} {v1 : Int} (w : zCb mX11_isWithin [.int (zI v1), .int (zI 0), .int (zI ((h 31 16) - 1))] zS0 h (fun b1 h1 => ((b1 = false → K (-1) h1) ∧ (b1 = true → ((0 ≤ v1 ∧ v1 < 252) ∧ K (h1 46 v1) h1))))) : zCi mX4_wayOf [.ref 31, .int (zI v1)] zS0 h K := by
  show RR mX4_wayOf 0 0 0 [some (.ref 31), some (.int (zI v1))] [] zS0 h (zQi zS0 K)
  refine r_iload_n (pc := 0) (x := v1) dX4_wayOf_0 rfl ?_
  refine r_iconst (pc := 1) dX4_wayOf_1 ?_
  refine r_aload_n (pc := 2) (a := 31) dX4_wayOf_2 rfl ?_
  refine r_getI (pc := 3) (fi := 16) (x := (h 31 16)) fl_X4_59 dX4_wayOf_3 s0_31 rfl (rfl) ?_
  refine r_iconst (pc := 6) dX4_wayOf_6 ?_
  refine r_isub (pc := 7) (x := (h 31 16)) (y := 1) dX4_wayOf_7 ?_
  refine r_callSN (μ2 := mX11_isWithin) (pc := 8) (as := [.int (zI v1), .int (zI 0), .int (zI ((h 31 16) - 1))]) (st := []) mn_X4_62 sm_X11_isWithin okX11_isWithin ⟨by decide, by decide⟩ dX4_wayOf_8 (Nat.le_of_ble_eq_true rfl) rfl (Nat.le_of_ble_eq_true rfl) (by decide) (by decide) (zCC.mono w ?_)
  rintro r S' h1 ⟨rfl, b1, hr, w⟩
  subst hr
  show RR mX4_wayOf 0 0 11 [some (.ref 31), some (.int (zI v1))] [.int (zI (bI b1))] zS0 h1 (zQi zS0 K)
  refine r_if_eq (pc := 11) (x := (bI b1)) (tgt := 23) dX4_wayOf_11 (by decide) (bI_R _) (fun c => ?_) (fun c => ?_)
  · have w := w.1 (bI_0.mp c)
    refine r_iconst (pc := 23) dX4_wayOf_23 ?_
    exact r_iret (st := []) (pc := 24) (x := (-1)) (ty := .int) dX4_wayOf_24 rfl rfl rfl (by decide) ⟨rfl, _, rfl, w⟩
  · have w := w.2 (bI_n.mp c)
    refine r_aload_n (pc := 14) (a := 31) dX4_wayOf_14 rfl ?_
    refine r_getR (pc := 15) (b := 46) fl_X4_44 dX4_wayOf_15 s0_31 rfl ?_
    refine r_iload_n (pc := 18) (x := v1) dX4_wayOf_18 rfl ?_
    obtain ⟨hb2, w⟩ := w
    refine r_iald (pc := 19) (i := v1) (x := (h1 46 v1)) dX4_wayOf_19 s0_46 ⟨hb2.1, hb2.2, (by decide)⟩ (rfl) ?_
    refine r_goto (pc := 20) (tgt := 24) dX4_wayOf_20 (by decide) ?_
    exact r_iret (st := []) (pc := 24) (x := (h1 46 v1)) (ty := .int) dX4_wayOf_24 rfl rfl rfl (by decide) ⟨rfl, _, rfl, w⟩

set_option maxRecDepth 100000 in
set_option maxHeartbeats 4000000 in
theorem wX4_minutesFrom {h : zMm} {K : Int → zMm → Prop} {v1 : Int} {v2 : Int} (w : (zR v2 ∧ (zR (h 31 11) ∧ ((¬ v2 = (h 31 11) → RR mX4_minutesFrom 0 0 16 [some (.ref 31), some (.int (zI v1)), some (.int (zI v2)), some (.int (zI 1000000)), some (.int (zI 0)), none, none, none] [] zS0 h (zQi zS0 K)) ∧ (v2 = (h 31 11) → K 0 h))))) : zCi mX4_minutesFrom [.ref 31, .int (zI v1), .int (zI v2)] zS0 h K := by
  show RR mX4_minutesFrom 0 0 0 [some (.ref 31), some (.int (zI v1)), some (.int (zI v2)), none, none, none, none, none] [] zS0 h (zQi zS0 K)
  refine r_iload_n (pc := 0) (x := v2) dX4_minutesFrom_0 rfl ?_
  refine r_aload_n (pc := 1) (a := 31) dX4_minutesFrom_1 rfl ?_
  refine r_getI (pc := 2) (fi := 11) (x := (h 31 11)) fl_X4_114 dX4_minutesFrom_2 s0_31 rfl (rfl) ?_
  obtain ⟨hr1, w⟩ := w
  obtain ⟨hr2, w⟩ := w
  refine r_icmp_ne (pc := 5) (x := v2) (y := (h 31 11)) (tgt := 10) dX4_minutesFrom_5 (by decide) hr1 hr2 (fun c => ?_) (fun c => ?_)
  · have w := w.1 (c)
    refine r_ldcI (pc := 10) (x := 1000000) dX4_minutesFrom_10 kc_X4_58 ?_
    refine r_istore_n (pc := 12) (L' := [some (.ref 31), some (.int (zI v1)), some (.int (zI v2)), some (.int (zI 1000000)), none, none, none, none]) dX4_minutesFrom_12 (by decide) rfl ?_
    refine r_iconst (pc := 13) dX4_minutesFrom_13 ?_
    refine r_istore (pc := 14) (L' := [some (.ref 31), some (.int (zI v1)), some (.int (zI v2)), some (.int (zI 1000000)), some (.int (zI 0)), none, none, none]) dX4_minutesFrom_14 (by decide) rfl ?_
    exact w
  · have w := w.2 (c)
    refine r_iconst (pc := 8) dX4_minutesFrom_8 ?_
    exact r_iret (st := []) (pc := 9) (x := 0) (ty := .int) dX4_minutesFrom_9 rfl rfl rfl (by decide) ⟨rfl, _, rfl, w⟩

set_option maxRecDepth 100000 in
set_option maxHeartbeats 4000000 in
theorem bX4_minutesFrom_16 {h : zMm} {K : Int → zMm → Prop} {v1 : Int} {v2 : Int} {v3 : Int} {v4 : Int} (w : (zR v4 ∧ (zR (h 31 10) ∧ (((h 31 10) ≤ v4 → K v3 h) ∧ (¬ (h 31 10) ≤ v4 → RR mX4_minutesFrom 0 0 36 [some (.ref 31), some (.int (zI v1)), some (.int (zI v2)), some (.int (zI v3)), some (.int (zI v4)), some (.int (zI (iO v2 (iSl 1 v4)))), some (.int (zI 0)), none] [] zS0 h (zQi zS0 K)))))) : RR mX4_minutesFrom 0 0 16 [some (.ref 31), some (.int (zI v1)), some (.int (zI v2)), some (.int (zI v3)), some (.int (zI v4)), none, none, none] [] zS0 h (zQi zS0 K) := by
  refine r_iload (pc := 16) (x := v4) dX4_minutesFrom_16 rfl ?_
  refine r_aload_n (pc := 18) (a := 31) dX4_minutesFrom_18 rfl ?_
  refine r_getI (pc := 19) (fi := 10) (x := (h 31 10)) fl_X4_103 dX4_minutesFrom_19 s0_31 rfl (rfl) ?_
  obtain ⟨hr3, w⟩ := w
  obtain ⟨hr4, w⟩ := w
  refine r_icmp_ge (pc := 22) (x := v4) (y := (h 31 10)) (tgt := 101) dX4_minutesFrom_22 (by decide) hr3 hr4 (fun c => ?_) (fun c => ?_)
  · have w := w.1 (c)
    refine r_iload_n (pc := 101) (x := v3) dX4_minutesFrom_101 rfl ?_
    exact r_iret (st := []) (pc := 102) (x := v3) (ty := .int) dX4_minutesFrom_102 rfl rfl rfl (by decide) ⟨rfl, _, rfl, w⟩
  · have w := w.2 (c)
    refine r_iload_n (pc := 25) (x := v2) dX4_minutesFrom_25 rfl ?_
    refine r_iconst (pc := 26) dX4_minutesFrom_26 ?_
    refine r_iload (pc := 27) (x := v4) dX4_minutesFrom_27 rfl ?_
    refine r_ishl (pc := 29) (x := 1) (y := v4) dX4_minutesFrom_29 ?_
    refine r_ior (pc := 30) (x := v2) (y := (iSl 1 v4)) dX4_minutesFrom_30 ?_
    refine r_istore (pc := 31) (L' := [some (.ref 31), some (.int (zI v1)), some (.int (zI v2)), some (.int (zI v3)), some (.int (zI v4)), some (.int (zI (iO v2 (iSl 1 v4)))), none, none]) dX4_minutesFrom_31 (by decide) rfl ?_
    refine r_iconst (pc := 33) dX4_minutesFrom_33 ?_
    refine r_istore (pc := 34) (L' := [some (.ref 31), some (.int (zI v1)), some (.int (zI v2)), some (.int (zI v3)), some (.int (zI v4)), some (.int (zI (iO v2 (iSl 1 v4)))), some (.int (zI 0)), none]) dX4_minutesFrom_34 (by decide) rfl ?_
    exact w

set_option maxRecDepth 100000 in
set_option maxHeartbeats 4000000 in
theorem bX4_minutesFrom_36 {h : zMm} {K : Int → zMm → Prop} {v1 : Int} {v2 : Int} {v3 : Int} {v4 : Int} {v5 : Int} {v6 : Int} (w : (zR v6 ∧ (zR v5 ∧ (zR v2 ∧ ((4 ≤ v6 → RR mX4_minutesFrom 0 0 16 [some (.ref 31), some (.int (zI v1)), some (.int (zI v2)), some (.int (zI v3)), some (.int (zI (v4 + 1))), none, none, none] [] zS0 h (zQi zS0 K)) ∧ (¬ 4 ≤ v6 → ((v5 = v2 → RR mX4_minutesFrom 0 0 16 [some (.ref 31), some (.int (zI v1)), some (.int (zI v2)), some (.int (zI v3)), some (.int (zI (v4 + 1))), none, none, none] [] zS0 h (zQi zS0 K)) ∧ (¬ v5 = v2 → ((0 ≤ ((((v4 * 4) + v6) * 144) + v1) ∧ ((((v4 * 4) + v6) * 144) + v1) < 4032) ∧ ((0 ≤ ((v5 * 28) + ((v4 * 4) + v6)) ∧ ((v5 * 28) + ((v4 * 4) + v6)) < 3584) ∧ (zR v3 ∧ (zR ((h 42 ((((v4 * 4) + v6) * 144) + v1)) + (h 43 ((v5 * 28) + ((v4 * 4) + v6)))) ∧ RR mX4_minutesFrom 0 0 36 [some (.ref 31), some (.int (zI v1)), some (.int (zI v2)), some (.int (zI (min v3 ((h 42 ((((v4 * 4) + v6) * 144) + v1)) + (h 43 ((v5 * 28) + ((v4 * 4) + v6))))))), some (.int (zI v4)), some (.int (zI v5)), some (.int (zI (v6 + 1))), none] [] zS0 h (zQi zS0 K))))))))))))) : RR mX4_minutesFrom 0 0 36 [some (.ref 31), some (.int (zI v1)), some (.int (zI v2)), some (.int (zI v3)), some (.int (zI v4)), some (.int (zI v5)), some (.int (zI v6)), none] [] zS0 h (zQi zS0 K) := by
  refine r_iload (pc := 36) (x := v6) dX4_minutesFrom_36 rfl ?_
  refine r_iconst (pc := 38) dX4_minutesFrom_38 ?_
  obtain ⟨hr5, w⟩ := w
  obtain ⟨hr7, w⟩ := w
  obtain ⟨hr9, w⟩ := w
  refine r_icmp_ge (pc := 39) (x := v6) (y := 4) (tgt := 95) dX4_minutesFrom_39 (by decide) hr5 (by decide) (fun c => ?_) (fun c => ?_)
  · have w := w.1 (c)
    refine r_iinc (pc := 95) (x := v4) (L' := [some (.ref 31), some (.int (zI v1)), some (.int (zI v2)), some (.int (zI v3)), some (.int (zI (v4 + 1))), some (.int (zI v5)), some (.int (zI v6)), none]) dX4_minutesFrom_95 rfl (by decide) rfl ?_
    refine r_goto (pc := 98) (tgt := 16) dX4_minutesFrom_98 (by decide) ?_
    exact RR.sub (L' := [some (.ref 31), some (.int (zI v1)), some (.int (zI v2)), some (.int (zI v3)), some (.int (zI (v4 + 1))), none, none, none]) (zSb_of (⟨rfl, ⟨rfl, ⟨rfl, ⟨rfl, ⟨rfl, trivial⟩⟩⟩⟩⟩)) w
  · have w := w.2 (c)
    refine r_iload (pc := 42) (x := v5) dX4_minutesFrom_42 rfl ?_
    refine r_iload_n (pc := 44) (x := v2) dX4_minutesFrom_44 rfl ?_
    refine r_icmp_eq (pc := 45) (x := v5) (y := v2) (tgt := 95) dX4_minutesFrom_45 (by decide) hr7 hr9 (fun c => ?_) (fun c => ?_)
    · have w := w.1 (c)
      refine r_iinc (pc := 95) (x := v4) (L' := [some (.ref 31), some (.int (zI v1)), some (.int (zI v2)), some (.int (zI v3)), some (.int (zI (v4 + 1))), some (.int (zI v5)), some (.int (zI v6)), none]) dX4_minutesFrom_95 rfl (by decide) rfl ?_
      refine r_goto (pc := 98) (tgt := 16) dX4_minutesFrom_98 (by decide) ?_
      exact RR.sub (L' := [some (.ref 31), some (.int (zI v1)), some (.int (zI v2)), some (.int (zI v3)), some (.int (zI (v4 + 1))), none, none, none]) (zSb_of (⟨rfl, ⟨rfl, ⟨rfl, ⟨rfl, ⟨rfl, trivial⟩⟩⟩⟩⟩)) w
    · have w := w.2 (c)
      refine r_iload (pc := 48) (x := v4) dX4_minutesFrom_48 rfl ?_
      refine r_iconst (pc := 50) dX4_minutesFrom_50 ?_
      refine r_imul (pc := 51) (x := v4) (y := 4) dX4_minutesFrom_51 ?_
      refine r_iload (pc := 52) (x := v6) dX4_minutesFrom_52 rfl ?_
      refine r_iadd (pc := 54) (x := (v4 * 4)) (y := v6) dX4_minutesFrom_54 ?_
      refine r_istore (pc := 55) (L' := [some (.ref 31), some (.int (zI v1)), some (.int (zI v2)), some (.int (zI v3)), some (.int (zI v4)), some (.int (zI v5)), some (.int (zI v6)), some (.int (zI ((v4 * 4) + v6)))]) dX4_minutesFrom_55 (by decide) rfl ?_
      refine r_iload_n (pc := 57) (x := v3) dX4_minutesFrom_57 rfl ?_
      refine r_aload_n (pc := 58) (a := 31) dX4_minutesFrom_58 rfl ?_
      refine r_getR (pc := 59) (b := 42) fl_X4_31 dX4_minutesFrom_59 s0_31 rfl ?_
      refine r_iload (pc := 62) (x := ((v4 * 4) + v6)) dX4_minutesFrom_62 rfl ?_
      refine r_sipush (pc := 64) (x := 144) dX4_minutesFrom_64 (by decide) ?_
      refine r_imul (pc := 67) (x := ((v4 * 4) + v6)) (y := 144) dX4_minutesFrom_67 ?_
      refine r_iload_n (pc := 68) (x := v1) dX4_minutesFrom_68 rfl ?_
      refine r_iadd (pc := 69) (x := (((v4 * 4) + v6) * 144)) (y := v1) dX4_minutesFrom_69 ?_
      obtain ⟨hb11, w⟩ := w
      refine r_iald (pc := 70) (i := ((((v4 * 4) + v6) * 144) + v1)) (x := (h 42 ((((v4 * 4) + v6) * 144) + v1))) dX4_minutesFrom_70 s0_42 ⟨hb11.1, hb11.2, (by decide)⟩ (rfl) ?_
      refine r_aload_n (pc := 71) (a := 31) dX4_minutesFrom_71 rfl ?_
      refine r_getR (pc := 72) (b := 43) fl_X4_34 dX4_minutesFrom_72 s0_31 rfl ?_
      refine r_iload (pc := 75) (x := v5) dX4_minutesFrom_75 rfl ?_
      refine r_bipush (pc := 77) (x := 28) dX4_minutesFrom_77 (by decide) ?_
      refine r_imul (pc := 79) (x := v5) (y := 28) dX4_minutesFrom_79 ?_
      refine r_iload (pc := 80) (x := ((v4 * 4) + v6)) dX4_minutesFrom_80 rfl ?_
      refine r_iadd (pc := 82) (x := (v5 * 28)) (y := ((v4 * 4) + v6)) dX4_minutesFrom_82 ?_
      obtain ⟨hb12, w⟩ := w
      refine r_iald (pc := 83) (i := ((v5 * 28) + ((v4 * 4) + v6))) (x := (h 43 ((v5 * 28) + ((v4 * 4) + v6)))) dX4_minutesFrom_83 s0_43 ⟨hb12.1, hb12.2, (by decide)⟩ (rfl) ?_
      refine r_iadd (pc := 84) (x := (h 42 ((((v4 * 4) + v6) * 144) + v1))) (y := (h 43 ((v5 * 28) + ((v4 * 4) + v6)))) dX4_minutesFrom_84 ?_
      obtain ⟨hr13, w⟩ := w
      obtain ⟨hr14, w⟩ := w
      refine r_min (pc := 85) (x := v3) (y := ((h 42 ((((v4 * 4) + v6) * 144) + v1)) + (h 43 ((v5 * 28) + ((v4 * 4) + v6))))) ml_X4_149 mm_min_s it_J9 mm_min_c dX4_minutesFrom_85 (by decide) (by decide) (by decide) (by decide) hr13 hr14 ?_
      refine r_istore_n (pc := 88) (L' := [some (.ref 31), some (.int (zI v1)), some (.int (zI v2)), some (.int (zI (min v3 ((h 42 ((((v4 * 4) + v6) * 144) + v1)) + (h 43 ((v5 * 28) + ((v4 * 4) + v6))))))), some (.int (zI v4)), some (.int (zI v5)), some (.int (zI v6)), some (.int (zI ((v4 * 4) + v6)))]) dX4_minutesFrom_88 (by decide) rfl ?_
      refine r_iinc (pc := 89) (x := v6) (L' := [some (.ref 31), some (.int (zI v1)), some (.int (zI v2)), some (.int (zI (min v3 ((h 42 ((((v4 * 4) + v6) * 144) + v1)) + (h 43 ((v5 * 28) + ((v4 * 4) + v6))))))), some (.int (zI v4)), some (.int (zI v5)), some (.int (zI (v6 + 1))), some (.int (zI ((v4 * 4) + v6)))]) dX4_minutesFrom_89 rfl (by decide) rfl ?_
      refine r_goto (pc := 92) (tgt := 36) dX4_minutesFrom_92 (by decide) ?_
      exact RR.sub (L' := [some (.ref 31), some (.int (zI v1)), some (.int (zI v2)), some (.int (zI (min v3 ((h 42 ((((v4 * 4) + v6) * 144) + v1)) + (h 43 ((v5 * 28) + ((v4 * 4) + v6))))))), some (.int (zI v4)), some (.int (zI v5)), some (.int (zI (v6 + 1))), none]) (zSb_of (⟨rfl, ⟨rfl, ⟨rfl, ⟨rfl, ⟨rfl, ⟨rfl, ⟨rfl, trivial⟩⟩⟩⟩⟩⟩⟩)) w

set_option maxRecDepth 100000 in
set_option maxHeartbeats 4000000 in
theorem wX4_minutesToGo {h : zMm} {K : Int → zMm → Prop} {v1 : Int} {v2 : Int} (w : ((0 ≤ v1 ∧ v1 < 2147483648) ∧ zCi mX11_quartersBetween [.int (zI (v1 % 4)), .int (zI v2)] zS0 h (fun x2 h2 => ((0 ≤ ((v1 - (v1 % 4)) + v2) ∧ ((v1 - (v1 % 4)) + v2) < 144) ∧ K (((h 31 12) * x2) + (h2 39 ((v1 - (v1 % 4)) + v2))) h2)))) : zCi mX4_minutesToGo [.ref 31, .int (zI v1), .int (zI v2)] zS0 h K := by
  show RR mX4_minutesToGo 0 0 0 [some (.ref 31), some (.int (zI v1)), some (.int (zI v2)), none] [] zS0 h (zQi zS0 K)
  refine r_iload_n (pc := 0) (x := v1) dX4_minutesToGo_0 rfl ?_
  refine r_iconst (pc := 1) dX4_minutesToGo_1 ?_
  obtain ⟨hx1, w⟩ := w
  refine r_irem (pc := 2) (x := v1) (y := 4) dX4_minutesToGo_2 hx1 (by decide) ?_
  refine r_istore_n (pc := 3) (L' := [some (.ref 31), some (.int (zI v1)), some (.int (zI v2)), some (.int (zI (v1 % 4)))]) dX4_minutesToGo_3 (by decide) rfl ?_
  refine r_aload_n (pc := 4) (a := 31) dX4_minutesToGo_4 rfl ?_
  refine r_getI (pc := 5) (fi := 12) (x := (h 31 12)) fl_X4_128 dX4_minutesToGo_5 s0_31 rfl (rfl) ?_
  refine r_iload_n (pc := 8) (x := (v1 % 4)) dX4_minutesToGo_8 rfl ?_
  refine r_iload_n (pc := 9) (x := v2) dX4_minutesToGo_9 rfl ?_
  refine r_callSN (μ2 := mX11_quartersBetween) (pc := 10) (as := [.int (zI (v1 % 4)), .int (zI v2)]) (st := [.int (zI (h 31 12))]) mn_X4_146 sm_X11_quartersBetween okX11_quartersBetween ⟨by decide, by decide⟩ dX4_minutesToGo_10 (Nat.le_of_ble_eq_true rfl) rfl (Nat.le_of_ble_eq_true rfl) (by decide) (by decide) (zCC.mono w ?_)
  rintro r S' h2 ⟨rfl, x2, hr, w⟩
  subst hr
  show RR mX4_minutesToGo 0 0 13 [some (.ref 31), some (.int (zI v1)), some (.int (zI v2)), some (.int (zI (v1 % 4)))] [.int (zI x2), .int (zI (h 31 12))] zS0 h2 (zQi zS0 K)
  refine r_imul (pc := 13) (x := (h 31 12)) (y := x2) dX4_minutesToGo_13 ?_
  refine r_aload_n (pc := 14) (a := 31) dX4_minutesToGo_14 rfl ?_
  refine r_getR (pc := 15) (b := 39) fl_X4_22 dX4_minutesToGo_15 s0_31 rfl ?_
  refine r_iload_n (pc := 18) (x := v1) dX4_minutesToGo_18 rfl ?_
  refine r_iload_n (pc := 19) (x := (v1 % 4)) dX4_minutesToGo_19 rfl ?_
  refine r_isub (pc := 20) (x := v1) (y := (v1 % 4)) dX4_minutesToGo_20 ?_
  refine r_iload_n (pc := 21) (x := v2) dX4_minutesToGo_21 rfl ?_
  refine r_iadd (pc := 22) (x := (v1 - (v1 % 4))) (y := v2) dX4_minutesToGo_22 ?_
  obtain ⟨hb3, w⟩ := w
  refine r_iald (pc := 23) (i := ((v1 - (v1 % 4)) + v2)) (x := (h2 39 ((v1 - (v1 % 4)) + v2))) dX4_minutesToGo_23 s0_39 ⟨hb3.1, hb3.2, (by decide)⟩ (rfl) ?_
  refine r_iadd (pc := 24) (x := ((h 31 12) * x2)) (y := (h2 39 ((v1 - (v1 % 4)) + v2))) dX4_minutesToGo_24 ?_
  exact r_iret (st := []) (pc := 25) (x := (((h 31 12) * x2) + (h2 39 ((v1 - (v1 % 4)) + v2)))) (ty := .int) dX4_minutesToGo_25 rfl rfl rfl (by decide) ⟨rfl, _, rfl, w⟩

set_option maxRecDepth 100000 in
set_option maxHeartbeats 4000000 in
theorem wX4_firstWay {h : zMm} {K : Int → zMm → Prop} {v1 : Int} {v2 : Int} (w : zCi mX4_minutesFrom [.ref 31, .int (zI v1), .int (zI v2)] zS0 h (fun x1 h1 => RR mX4_firstWay 0 0 10 [some (.ref 31), some (.int (zI v1)), some (.int (zI v2)), some (.int (zI x1)), some (.int (zI 0)), none, none] [] zS0 h1 (zQi zS0 K))) : zCi mX4_firstWay [.ref 31, .int (zI v1), .int (zI v2)] zS0 h K := by
  show RR mX4_firstWay 0 0 0 [some (.ref 31), some (.int (zI v1)), some (.int (zI v2)), none, none, none, none] [] zS0 h (zQi zS0 K)
  refine r_aload_n (pc := 0) (a := 31) dX4_firstWay_0 rfl ?_
  refine r_iload_n (pc := 1) (x := v1) dX4_firstWay_1 rfl ?_
  refine r_iload_n (pc := 2) (x := v2) dX4_firstWay_2 rfl ?_
  refine r_callV (μ2 := mX4_minutesFrom) (pc := 3) (as := [.int (zI v1), .int (zI v2)]) (st := []) rfl s0_31 ml_X4_125 im_X4_minutesFrom se_X4_minutesFrom okX4_minutesFrom ⟨by decide, by decide⟩ dX4_firstWay_3 (Nat.le_of_ble_eq_true rfl) rfl (Nat.le_of_ble_eq_true rfl) (by decide) (by decide) (zCC.mono w ?_)
  rintro r S' h1 ⟨rfl, x1, hr, w⟩
  subst hr
  show RR mX4_firstWay 0 0 6 [some (.ref 31), some (.int (zI v1)), some (.int (zI v2)), none, none, none, none] [.int (zI x1)] zS0 h1 (zQi zS0 K)
  refine r_istore_n (pc := 6) (L' := [some (.ref 31), some (.int (zI v1)), some (.int (zI v2)), some (.int (zI x1)), none, none, none]) dX4_firstWay_6 (by decide) rfl ?_
  refine r_iconst (pc := 7) dX4_firstWay_7 ?_
  refine r_istore (pc := 8) (L' := [some (.ref 31), some (.int (zI v1)), some (.int (zI v2)), some (.int (zI x1)), some (.int (zI 0)), none, none]) dX4_firstWay_8 (by decide) rfl ?_
  exact w

set_option maxRecDepth 100000 in
set_option maxHeartbeats 4000000 in
theorem bX4_firstWay_10 {h : zMm} {K : Int → zMm → Prop} {v1 : Int} {v2 : Int} {v3 : Int} {v4 : Int} (w : (zR v4 ∧ ((4 ≤ v4 → K (-4) h) ∧ (¬ 4 ≤ v4 → ((0 ≤ v1 ∧ v1 < 2147483648) ∧ ((0 ≤ ((v1 - (v1 % 4)) + v4) ∧ ((v1 - (v1 % 4)) + v4) < 144) ∧ (zR (h 38 ((v1 - (v1 % 4)) + v4)) ∧ (((h 38 ((v1 - (v1 % 4)) + v4)) < 0 → RR mX4_firstWay 0 0 10 [some (.ref 31), some (.int (zI v1)), some (.int (zI v2)), some (.int (zI v3)), some (.int (zI (v4 + 1))), none, none] [] zS0 h (zQi zS0 K)) ∧ (¬ (h 38 ((v1 - (v1 % 4)) + v4)) < 0 → ((0 ≤ (h 38 ((v1 - (v1 % 4)) + v4)) ∧ (h 38 ((v1 - (v1 % 4)) + v4)) < 36) ∧ zCi mX4_minutesFrom [.ref 31, .int (zI (((h 38 ((v1 - (v1 % 4)) + v4)) * 4) + v4)), .int (zI (iO v2 (h 40 (h 38 ((v1 - (v1 % 4)) + v4)))))] zS0 h (fun x7 h7 => zCi mX4_minutesToGo [.ref 31, .int (zI v1), .int (zI v4)] zS0 h7 (fun x8 h8 => (zR (x8 + x7) ∧ (zR v3 ∧ ((¬ (x8 + x7) = v3 → RR mX4_firstWay 0 0 10 [some (.ref 31), some (.int (zI v1)), some (.int (zI v2)), some (.int (zI v3)), some (.int (zI (v4 + 1))), none, none] [] zS0 h8 (zQi zS0 K)) ∧ ((x8 + x7) = v3 → K v4 h8)))))))))))))))) : RR mX4_firstWay 0 0 10 [some (.ref 31), some (.int (zI v1)), some (.int (zI v2)), some (.int (zI v3)), some (.int (zI v4)), none, none] [] zS0 h (zQi zS0 K) := by
  refine r_iload (pc := 10) (x := v4) dX4_firstWay_10 rfl ?_
  refine r_iconst (pc := 12) dX4_firstWay_12 ?_
  obtain ⟨hr2, w⟩ := w
  refine r_icmp_ge (pc := 13) (x := v4) (y := 4) (tgt := 81) dX4_firstWay_13 (by decide) hr2 (by decide) (fun c => ?_) (fun c => ?_)
  · have w := w.1 (c)
    refine r_bipush (pc := 81) (x := (-4)) dX4_firstWay_81 (by decide) ?_
    exact r_iret (st := []) (pc := 83) (x := (-4)) (ty := .int) dX4_firstWay_83 rfl rfl rfl (by decide) ⟨rfl, _, rfl, w⟩
  · have w := w.2 (c)
    refine r_aload_n (pc := 16) (a := 31) dX4_firstWay_16 rfl ?_
    refine r_getR (pc := 17) (b := 38) fl_X4_18 dX4_firstWay_17 s0_31 rfl ?_
    refine r_iload_n (pc := 20) (x := v1) dX4_firstWay_20 rfl ?_
    refine r_iload_n (pc := 21) (x := v1) dX4_firstWay_21 rfl ?_
    refine r_iconst (pc := 22) dX4_firstWay_22 ?_
    obtain ⟨hx3, w⟩ := w
    refine r_irem (pc := 23) (x := v1) (y := 4) dX4_firstWay_23 hx3 (by decide) ?_
    refine r_isub (pc := 24) (x := v1) (y := (v1 % 4)) dX4_firstWay_24 ?_
    refine r_iload (pc := 25) (x := v4) dX4_firstWay_25 rfl ?_
    refine r_iadd (pc := 27) (x := (v1 - (v1 % 4))) (y := v4) dX4_firstWay_27 ?_
    obtain ⟨hb4, w⟩ := w
    refine r_iald (pc := 28) (i := ((v1 - (v1 % 4)) + v4)) (x := (h 38 ((v1 - (v1 % 4)) + v4))) dX4_firstWay_28 s0_38 ⟨hb4.1, hb4.2, (by decide)⟩ (rfl) ?_
    refine r_istore (pc := 29) (L' := [some (.ref 31), some (.int (zI v1)), some (.int (zI v2)), some (.int (zI v3)), some (.int (zI v4)), some (.int (zI (h 38 ((v1 - (v1 % 4)) + v4)))), none]) dX4_firstWay_29 (by decide) rfl ?_
    refine r_iload (pc := 31) (x := (h 38 ((v1 - (v1 % 4)) + v4))) dX4_firstWay_31 rfl ?_
    obtain ⟨hr5, w⟩ := w
    refine r_if_lt (pc := 33) (x := (h 38 ((v1 - (v1 % 4)) + v4))) (tgt := 75) dX4_firstWay_33 (by decide) hr5 (fun c => ?_) (fun c => ?_)
    · have w := w.1 (c)
      refine r_iinc (pc := 75) (x := v4) (L' := [some (.ref 31), some (.int (zI v1)), some (.int (zI v2)), some (.int (zI v3)), some (.int (zI (v4 + 1))), some (.int (zI (h 38 ((v1 - (v1 % 4)) + v4)))), none]) dX4_firstWay_75 rfl (by decide) rfl ?_
      refine r_goto (pc := 78) (tgt := 10) dX4_firstWay_78 (by decide) ?_
      exact RR.sub (L' := [some (.ref 31), some (.int (zI v1)), some (.int (zI v2)), some (.int (zI v3)), some (.int (zI (v4 + 1))), none, none]) (zSb_of (⟨rfl, ⟨rfl, ⟨rfl, ⟨rfl, ⟨rfl, trivial⟩⟩⟩⟩⟩)) w
    · have w := w.2 (c)
      refine r_aload_n (pc := 36) (a := 31) dX4_firstWay_36 rfl ?_
      refine r_iload (pc := 37) (x := (h 38 ((v1 - (v1 % 4)) + v4))) dX4_firstWay_37 rfl ?_
      refine r_iconst (pc := 39) dX4_firstWay_39 ?_
      refine r_imul (pc := 40) (x := (h 38 ((v1 - (v1 % 4)) + v4))) (y := 4) dX4_firstWay_40 ?_
      refine r_iload (pc := 41) (x := v4) dX4_firstWay_41 rfl ?_
      refine r_iadd (pc := 43) (x := ((h 38 ((v1 - (v1 % 4)) + v4)) * 4)) (y := v4) dX4_firstWay_43 ?_
      refine r_iload_n (pc := 44) (x := v2) dX4_firstWay_44 rfl ?_
      refine r_aload_n (pc := 45) (a := 31) dX4_firstWay_45 rfl ?_
      refine r_getR (pc := 46) (b := 40) fl_X4_25 dX4_firstWay_46 s0_31 rfl ?_
      refine r_iload (pc := 49) (x := (h 38 ((v1 - (v1 % 4)) + v4))) dX4_firstWay_49 rfl ?_
      obtain ⟨hb6, w⟩ := w
      refine r_iald (pc := 51) (i := (h 38 ((v1 - (v1 % 4)) + v4))) (x := (h 40 (h 38 ((v1 - (v1 % 4)) + v4)))) dX4_firstWay_51 s0_40 ⟨hb6.1, hb6.2, (by decide)⟩ (rfl) ?_
      refine r_ior (pc := 52) (x := v2) (y := (h 40 (h 38 ((v1 - (v1 % 4)) + v4)))) dX4_firstWay_52 ?_
      refine r_callV (μ2 := mX4_minutesFrom) (pc := 53) (as := [.int (zI (((h 38 ((v1 - (v1 % 4)) + v4)) * 4) + v4)), .int (zI (iO v2 (h 40 (h 38 ((v1 - (v1 % 4)) + v4)))))]) (st := []) rfl s0_31 ml_X4_125 im_X4_minutesFrom se_X4_minutesFrom okX4_minutesFrom ⟨by decide, by decide⟩ dX4_firstWay_53 (Nat.le_of_ble_eq_true rfl) rfl (Nat.le_of_ble_eq_true rfl) (by decide) (by decide) (zCC.mono w ?_)
      rintro r S' h7 ⟨rfl, x7, hr, w⟩
      subst hr
      show RR mX4_firstWay 0 0 56 [some (.ref 31), some (.int (zI v1)), some (.int (zI v2)), some (.int (zI v3)), some (.int (zI v4)), some (.int (zI (h 38 ((v1 - (v1 % 4)) + v4)))), none] [.int (zI x7)] zS0 h7 (zQi zS0 K)
      refine r_istore (pc := 56) (L' := [some (.ref 31), some (.int (zI v1)), some (.int (zI v2)), some (.int (zI v3)), some (.int (zI v4)), some (.int (zI (h 38 ((v1 - (v1 % 4)) + v4)))), some (.int (zI x7))]) dX4_firstWay_56 (by decide) rfl ?_
      refine r_aload_n (pc := 58) (a := 31) dX4_firstWay_58 rfl ?_
      refine r_iload_n (pc := 59) (x := v1) dX4_firstWay_59 rfl ?_
      refine r_iload (pc := 60) (x := v4) dX4_firstWay_60 rfl ?_
      refine r_callV (μ2 := mX4_minutesToGo) (pc := 62) (as := [.int (zI v1), .int (zI v4)]) (st := []) rfl s0_31 ml_X4_143 im_X4_minutesToGo se_X4_minutesToGo okX4_minutesToGo ⟨by decide, by decide⟩ dX4_firstWay_62 (Nat.le_of_ble_eq_true rfl) rfl (Nat.le_of_ble_eq_true rfl) (by decide) (by decide) (zCC.mono w ?_)
      rintro r S' h8 ⟨rfl, x8, hr, w⟩
      subst hr
      show RR mX4_firstWay 0 0 65 [some (.ref 31), some (.int (zI v1)), some (.int (zI v2)), some (.int (zI v3)), some (.int (zI v4)), some (.int (zI (h 38 ((v1 - (v1 % 4)) + v4)))), some (.int (zI x7))] [.int (zI x8)] zS0 h8 (zQi zS0 K)
      refine r_iload (pc := 65) (x := x7) dX4_firstWay_65 rfl ?_
      refine r_iadd (pc := 67) (x := x8) (y := x7) dX4_firstWay_67 ?_
      refine r_iload_n (pc := 68) (x := v3) dX4_firstWay_68 rfl ?_
      obtain ⟨hr9, w⟩ := w
      obtain ⟨hr10, w⟩ := w
      refine r_icmp_ne (pc := 69) (x := (x8 + x7)) (y := v3) (tgt := 75) dX4_firstWay_69 (by decide) hr9 hr10 (fun c => ?_) (fun c => ?_)
      · have w := w.1 (c)
        refine r_iinc (pc := 75) (x := v4) (L' := [some (.ref 31), some (.int (zI v1)), some (.int (zI v2)), some (.int (zI v3)), some (.int (zI (v4 + 1))), some (.int (zI (h 38 ((v1 - (v1 % 4)) + v4)))), some (.int (zI x7))]) dX4_firstWay_75 rfl (by decide) rfl ?_
        refine r_goto (pc := 78) (tgt := 10) dX4_firstWay_78 (by decide) ?_
        exact RR.sub (L' := [some (.ref 31), some (.int (zI v1)), some (.int (zI v2)), some (.int (zI v3)), some (.int (zI (v4 + 1))), none, none]) (zSb_of (⟨rfl, ⟨rfl, ⟨rfl, ⟨rfl, ⟨rfl, trivial⟩⟩⟩⟩⟩)) w
      · have w := w.2 (c)
        refine r_iload (pc := 72) (x := v4) dX4_firstWay_72 rfl ?_
        exact r_iret (st := []) (pc := 74) (x := v4) (ty := .int) dX4_firstWay_74 rfl rfl rfl (by decide) ⟨rfl, _, rfl, w⟩

set_option maxRecDepth 100000 in
set_option maxHeartbeats 4000000 in
theorem wX4_seenAtFirst {h : zMm} {K : Int → zMm → Prop} (w : zCi mX3_told [.ref 32, .int (zI 0)] zS0 h (fun x1 h1 => zCb mX11_isCell [.int (zI x1)] zS0 h1 (fun b2 h2 => ((b2 = false → K 0 h2) ∧ (b2 = true → ((0 ≤ x1 ∧ x1 < 36) ∧ K (h2 40 x1) h2)))))) : zCi mX4_seenAtFirst [.ref 31] zS0 h K := by
  show RR mX4_seenAtFirst 0 0 0 [some (.ref 31), none] [] zS0 h (zQi zS0 K)
  refine r_aload_n (pc := 0) (a := 31) dX4_seenAtFirst_0 rfl ?_
  refine r_getR (pc := 1) (b := 32) fl_X4_12 dX4_seenAtFirst_1 s0_31 rfl ?_
  refine r_iconst (pc := 4) dX4_seenAtFirst_4 ?_
  refine r_callV (μ2 := mX3_told) (pc := 5) (as := [.int (zI 0)]) (st := []) rfl s0_32 ml_X4_121 im_X3_told se_X3_told okX3_told ⟨by decide, by decide⟩ dX4_seenAtFirst_5 (Nat.le_of_ble_eq_true rfl) rfl (Nat.le_of_ble_eq_true rfl) (by decide) (by decide) (zCC.mono w ?_)
  rintro r S' h1 ⟨rfl, x1, hr, w⟩
  subst hr
  show RR mX4_seenAtFirst 0 0 8 [some (.ref 31), none] [.int (zI x1)] zS0 h1 (zQi zS0 K)
  refine r_istore_n (pc := 8) (L' := [some (.ref 31), some (.int (zI x1))]) dX4_seenAtFirst_8 (by decide) rfl ?_
  refine r_iload_n (pc := 9) (x := x1) dX4_seenAtFirst_9 rfl ?_
  refine r_callSN (μ2 := mX11_isCell) (pc := 10) (as := [.int (zI x1)]) (st := []) mn_X4_94 sm_X11_isCell okX11_isCell ⟨by decide, by decide⟩ dX4_seenAtFirst_10 (Nat.le_of_ble_eq_true rfl) rfl (Nat.le_of_ble_eq_true rfl) (by decide) (by decide) (zCC.mono w ?_)
  rintro r S' h2 ⟨rfl, b2, hr, w⟩
  subst hr
  show RR mX4_seenAtFirst 0 0 13 [some (.ref 31), some (.int (zI x1))] [.int (zI (bI b2))] zS0 h2 (zQi zS0 K)
  refine r_if_eq (pc := 13) (x := (bI b2)) (tgt := 25) dX4_seenAtFirst_13 (by decide) (bI_R _) (fun c => ?_) (fun c => ?_)
  · have w := w.1 (bI_0.mp c)
    refine r_iconst (pc := 25) dX4_seenAtFirst_25 ?_
    exact r_iret (st := []) (pc := 26) (x := 0) (ty := .int) dX4_seenAtFirst_26 rfl rfl rfl (by decide) ⟨rfl, _, rfl, w⟩
  · have w := w.2 (bI_n.mp c)
    refine r_aload_n (pc := 16) (a := 31) dX4_seenAtFirst_16 rfl ?_
    refine r_getR (pc := 17) (b := 40) fl_X4_25 dX4_seenAtFirst_17 s0_31 rfl ?_
    refine r_iload_n (pc := 20) (x := x1) dX4_seenAtFirst_20 rfl ?_
    obtain ⟨hb3, w⟩ := w
    refine r_iald (pc := 21) (i := x1) (x := (h2 40 x1)) dX4_seenAtFirst_21 s0_40 ⟨hb3.1, hb3.2, (by decide)⟩ (rfl) ?_
    refine r_goto (pc := 22) (tgt := 26) dX4_seenAtFirst_22 (by decide) ?_
    exact r_iret (st := []) (pc := 26) (x := (h2 40 x1)) (ty := .int) dX4_seenAtFirst_26 rfl rfl rfl (by decide) ⟨rfl, _, rfl, w⟩

set_option maxRecDepth 100000 in
set_option maxHeartbeats 4000000 in
theorem wX4_follow {h : zMm} {K : zMm → Prop} (w : zCi mX3_told [.ref 32, .int (zI 0)] zS0 h (fun x1 h1 => zCi mX4_seenAtFirst [.ref 31] zS0 h1 (fun x2 h2 => zCb mX4_isFound [.ref 31] zS0 (zU (zU h2 31 16 0) 31 17 0) (fun b3 h3 => RR mX4_follow 0 0 48 [some (.ref 31), some (.int (zI ((x1 * 4) + 0))), some (.int (zI x2)), some (.int (zI (if b3 = true then (252 : Int) else (0 : Int)))), some (.int (zI 0)), none, none, none] [] zS0 h3 (zQv zS0 K))))) : zCv mX4_follow [.ref 31] zS0 h K := by
  show RR mX4_follow 0 0 0 [some (.ref 31), none, none, none, none, none, none, none] [] zS0 h (zQv zS0 K)
  refine r_aload_n (pc := 0) (a := 31) dX4_follow_0 rfl ?_
  refine r_getR (pc := 1) (b := 32) fl_X4_12 dX4_follow_1 s0_31 rfl ?_
  refine r_iconst (pc := 4) dX4_follow_4 ?_
  refine r_callV (μ2 := mX3_told) (pc := 5) (as := [.int (zI 0)]) (st := []) rfl s0_32 ml_X4_121 im_X3_told se_X3_told okX3_told ⟨by decide, by decide⟩ dX4_follow_5 (Nat.le_of_ble_eq_true rfl) rfl (Nat.le_of_ble_eq_true rfl) (by decide) (by decide) (zCC.mono w ?_)
  rintro r S' h1 ⟨rfl, x1, hr, w⟩
  subst hr
  show RR mX4_follow 0 0 8 [some (.ref 31), none, none, none, none, none, none, none] [.int (zI x1)] zS0 h1 (zQv zS0 K)
  refine r_iconst (pc := 8) dX4_follow_8 ?_
  refine r_imul (pc := 9) (x := x1) (y := 4) dX4_follow_9 ?_
  refine r_iconst (pc := 10) dX4_follow_10 ?_
  refine r_iadd (pc := 11) (x := (x1 * 4)) (y := 0) dX4_follow_11 ?_
  refine r_istore_n (pc := 12) (L' := [some (.ref 31), some (.int (zI ((x1 * 4) + 0))), none, none, none, none, none, none]) dX4_follow_12 (by decide) rfl ?_
  refine r_aload_n (pc := 13) (a := 31) dX4_follow_13 rfl ?_
  refine r_callV (μ2 := mX4_seenAtFirst) (pc := 14) (as := []) (st := []) rfl s0_31 ml_X4_110 im_X4_seenAtFirst se_X4_seenAtFirst okX4_seenAtFirst ⟨by decide, by decide⟩ dX4_follow_14 (Nat.le_of_ble_eq_true rfl) rfl (Nat.le_of_ble_eq_true rfl) (by decide) (by decide) (zCC.mono w ?_)
  rintro r S' h2 ⟨rfl, x2, hr, w⟩
  subst hr
  show RR mX4_follow 0 0 17 [some (.ref 31), some (.int (zI ((x1 * 4) + 0))), none, none, none, none, none, none] [.int (zI x2)] zS0 h2 (zQv zS0 K)
  refine r_istore_n (pc := 17) (L' := [some (.ref 31), some (.int (zI ((x1 * 4) + 0))), some (.int (zI x2)), none, none, none, none, none]) dX4_follow_17 (by decide) rfl ?_
  refine r_aload_n (pc := 18) (a := 31) dX4_follow_18 rfl ?_
  refine r_iconst (pc := 19) dX4_follow_19 ?_
  refine r_putI (pc := 20) (fi := 16) (x := 0) fl_X4_59 dX4_follow_20 s0_31 rfl ?_
  refine r_aload_n (pc := 23) (a := 31) dX4_follow_23 rfl ?_
  refine r_iconst (pc := 24) dX4_follow_24 ?_
  refine r_putI (pc := 25) (fi := 17) (x := 0) fl_X4_154 dX4_follow_25 s0_31 rfl ?_
  refine r_aload_n (pc := 28) (a := 31) dX4_follow_28 rfl ?_
  refine r_callV (μ2 := mX4_isFound) (pc := 29) (as := []) (st := []) rfl s0_31 ml_X4_157 im_X4_isFound se_X4_isFound okX4_isFound ⟨by decide, by decide⟩ dX4_follow_29 (Nat.le_of_ble_eq_true rfl) rfl (Nat.le_of_ble_eq_true rfl) (by decide) (by decide) (zCC.mono w ?_)
  rintro r S' h3 ⟨rfl, b3, hr, w⟩
  subst hr
  show RR mX4_follow 0 0 32 [some (.ref 31), some (.int (zI ((x1 * 4) + 0))), some (.int (zI x2)), none, none, none, none, none] [.int (zI (bI b3))] zS0 h3 (zQv zS0 K)
  have kk4 : RR mX4_follow 0 0 44 [some (.ref 31), some (.int (zI ((x1 * 4) + 0))), some (.int (zI x2)), none, none, none, none, none] [.int (zI (if b3 = true then (252 : Int) else (0 : Int)))] zS0 h3 (zQv zS0 K) := by
    refine r_istore_n (pc := 44) (L' := [some (.ref 31), some (.int (zI ((x1 * 4) + 0))), some (.int (zI x2)), some (.int (zI (if b3 = true then (252 : Int) else (0 : Int)))), none, none, none, none]) dX4_follow_44 (by decide) rfl ?_
    refine r_iconst (pc := 45) dX4_follow_45 ?_
    refine r_istore (pc := 46) (L' := [some (.ref 31), some (.int (zI ((x1 * 4) + 0))), some (.int (zI x2)), some (.int (zI (if b3 = true then (252 : Int) else (0 : Int)))), some (.int (zI 0)), none, none, none]) dX4_follow_46 (by decide) rfl ?_
    exact w
  refine r_if_eq (pc := 32) (x := (bI b3)) (tgt := 43) dX4_follow_32 (by decide) (bI_R _) (fun c => ?_) (fun c => ?_)
  · refine r_iconst (pc := 43) dX4_follow_43 ?_
    simp only [if_neg (bI_ft (bI_0.mp c))] at kk4 ⊢
    exact kk4
  · refine r_aload_n (pc := 35) (a := 31) dX4_follow_35 rfl ?_
    refine r_getR (pc := 36) (b := 46) fl_X4_44 dX4_follow_36 s0_31 rfl ?_
    refine r_alen (pc := 39) (t0 := 0) (ty := .int) (x := 252) dX4_follow_39 s0_46 (by decide) rfl ?_
    refine r_goto (pc := 40) (tgt := 44) dX4_follow_40 (by decide) ?_
    simp only [if_pos (bI_n.mp c)] at kk4 ⊢
    exact kk4

set_option maxRecDepth 100000 in
set_option maxHeartbeats 4000000 in
theorem bX4_follow_48 {h : zMm} {K : zMm → Prop} {v1 : Int} {v2 : Int} {v3 : Int} {v4 : Int} (w : (zR v4 ∧ (zR v3 ∧ ((v3 ≤ v4 → K h) ∧ (¬ v3 ≤ v4 → (zR v2 ∧ (zR (h 31 11) ∧ ((v2 = (h 31 11) → K h) ∧ (¬ v2 = (h 31 11) → zCi mX4_firstWay [.ref 31, .int (zI v1), .int (zI v2)] zS0 h (fun x9 h9 => (zR x9 ∧ ((0 ≤ x9 → ((0 ≤ v1 ∧ v1 < 2147483648) ∧ ((0 ≤ ((v1 - (v1 % 4)) + x9) ∧ ((v1 - (v1 % 4)) + x9) < 144) ∧ ((0 ≤ v4 ∧ v4 < 252) ∧ zCi mX11_quartersBetween [.int (zI (v1 % 4)), .int (zI x9)] zS0 (zU (zU h9 46 v4 x9) 31 16 (v4 + 1)) (fun x14 h14 => ((0 ≤ (h9 38 ((v1 - (v1 % 4)) + x9)) ∧ (h9 38 ((v1 - (v1 % 4)) + x9)) < 36) ∧ RR mX4_follow 0 0 48 [some (.ref 31), some (.int (zI (((h9 38 ((v1 - (v1 % 4)) + x9)) * 4) + x9))), some (.int (zI (iO v2 (h14 40 (h9 38 ((v1 - (v1 % 4)) + x9)))))), some (.int (zI v3)), some (.int (zI (v4 + 1))), none, none, none] [] zS0 (zU h14 31 17 ((h9 31 17) + x14)) (zQv zS0 K))))))) ∧ (¬ 0 ≤ x9 → K h9))))))))))))) : RR mX4_follow 0 0 48 [some (.ref 31), some (.int (zI v1)), some (.int (zI v2)), some (.int (zI v3)), some (.int (zI v4)), none, none, none] [] zS0 h (zQv zS0 K) := by
  refine r_iload (pc := 48) (x := v4) dX4_follow_48 rfl ?_
  refine r_iload_n (pc := 50) (x := v3) dX4_follow_50 rfl ?_
  obtain ⟨hr5, w⟩ := w
  obtain ⟨hr6, w⟩ := w
  refine r_icmp_ge (pc := 51) (x := v4) (y := v3) (tgt := 152) dX4_follow_51 (by decide) hr5 hr6 (fun c => ?_) (fun c => ?_)
  · have w := w.1 (c)
    exact r_ret (st := []) (pc := 152) dX4_follow_152 rfl rfl (by decide) ⟨rfl, rfl, w⟩
  · have w := w.2 (c)
    refine r_iload_n (pc := 54) (x := v2) dX4_follow_54 rfl ?_
    refine r_aload_n (pc := 55) (a := 31) dX4_follow_55 rfl ?_
    refine r_getI (pc := 56) (fi := 11) (x := (h 31 11)) fl_X4_114 dX4_follow_56 s0_31 rfl (rfl) ?_
    obtain ⟨hr7, w⟩ := w
    obtain ⟨hr8, w⟩ := w
    refine r_icmp_eq (pc := 59) (x := v2) (y := (h 31 11)) (tgt := 152) dX4_follow_59 (by decide) hr7 hr8 (fun c => ?_) (fun c => ?_)
    · have w := w.1 (c)
      exact r_ret (st := []) (pc := 152) dX4_follow_152 rfl rfl (by decide) ⟨rfl, rfl, w⟩
    · have w := w.2 (c)
      refine r_aload_n (pc := 62) (a := 31) dX4_follow_62 rfl ?_
      refine r_iload_n (pc := 63) (x := v1) dX4_follow_63 rfl ?_
      refine r_iload_n (pc := 64) (x := v2) dX4_follow_64 rfl ?_
      refine r_callV (μ2 := mX4_firstWay) (pc := 65) (as := [.int (zI v1), .int (zI v2)]) (st := []) rfl s0_31 ml_X4_161 im_X4_firstWay se_X4_firstWay okX4_firstWay ⟨by decide, by decide⟩ dX4_follow_65 (Nat.le_of_ble_eq_true rfl) rfl (Nat.le_of_ble_eq_true rfl) (by decide) (by decide) (zCC.mono w ?_)
      rintro r S' h9 ⟨rfl, x9, hr, w⟩
      subst hr
      show RR mX4_follow 0 0 68 [some (.ref 31), some (.int (zI v1)), some (.int (zI v2)), some (.int (zI v3)), some (.int (zI v4)), none, none, none] [.int (zI x9)] zS0 h9 (zQv zS0 K)
      refine r_istore (pc := 68) (L' := [some (.ref 31), some (.int (zI v1)), some (.int (zI v2)), some (.int (zI v3)), some (.int (zI v4)), some (.int (zI x9)), none, none]) dX4_follow_68 (by decide) rfl ?_
      refine r_iload (pc := 70) (x := x9) dX4_follow_70 rfl ?_
      obtain ⟨hr10, w⟩ := w
      refine r_if_ge (pc := 72) (x := x9) (tgt := 76) dX4_follow_72 (by decide) hr10 (fun c => ?_) (fun c => ?_)
      · have w := w.1 (c)
        refine r_iload_n (pc := 76) (x := v1) dX4_follow_76 rfl ?_
        refine r_iconst (pc := 77) dX4_follow_77 ?_
        obtain ⟨hx11, w⟩ := w
        refine r_irem (pc := 78) (x := v1) (y := 4) dX4_follow_78 hx11 (by decide) ?_
        refine r_istore (pc := 79) (L' := [some (.ref 31), some (.int (zI v1)), some (.int (zI v2)), some (.int (zI v3)), some (.int (zI v4)), some (.int (zI x9)), some (.int (zI (v1 % 4))), none]) dX4_follow_79 (by decide) rfl ?_
        refine r_aload_n (pc := 81) (a := 31) dX4_follow_81 rfl ?_
        refine r_getR (pc := 82) (b := 38) fl_X4_18 dX4_follow_82 s0_31 rfl ?_
        refine r_iload_n (pc := 85) (x := v1) dX4_follow_85 rfl ?_
        refine r_iload (pc := 86) (x := (v1 % 4)) dX4_follow_86 rfl ?_
        refine r_isub (pc := 88) (x := v1) (y := (v1 % 4)) dX4_follow_88 ?_
        refine r_iload (pc := 89) (x := x9) dX4_follow_89 rfl ?_
        refine r_iadd (pc := 91) (x := (v1 - (v1 % 4))) (y := x9) dX4_follow_91 ?_
        obtain ⟨hb12, w⟩ := w
        refine r_iald (pc := 92) (i := ((v1 - (v1 % 4)) + x9)) (x := (h9 38 ((v1 - (v1 % 4)) + x9))) dX4_follow_92 s0_38 ⟨hb12.1, hb12.2, (by decide)⟩ (rfl) ?_
        refine r_istore (pc := 93) (L' := [some (.ref 31), some (.int (zI v1)), some (.int (zI v2)), some (.int (zI v3)), some (.int (zI v4)), some (.int (zI x9)), some (.int (zI (v1 % 4))), some (.int (zI (h9 38 ((v1 - (v1 % 4)) + x9))))]) dX4_follow_93 (by decide) rfl ?_
        refine r_aload_n (pc := 95) (a := 31) dX4_follow_95 rfl ?_
        refine r_getR (pc := 96) (b := 46) fl_X4_44 dX4_follow_96 s0_31 rfl ?_
        refine r_iload (pc := 99) (x := v4) dX4_follow_99 rfl ?_
        refine r_iload (pc := 101) (x := x9) dX4_follow_101 rfl ?_
        obtain ⟨hb13, w⟩ := w
        refine r_iast (pc := 103) (i := v4) (x := x9) dX4_follow_103 s0_46 ⟨hb13.1, hb13.2, (by decide)⟩  ?_
        refine r_aload_n (pc := 104) (a := 31) dX4_follow_104 rfl ?_
        refine r_iload (pc := 105) (x := v4) dX4_follow_105 rfl ?_
        refine r_iconst (pc := 107) dX4_follow_107 ?_
        refine r_iadd (pc := 108) (x := v4) (y := 1) dX4_follow_108 ?_
        refine r_putI (pc := 109) (fi := 16) (x := (v4 + 1)) fl_X4_59 dX4_follow_109 s0_31 rfl ?_
        refine r_aload_n (pc := 112) (a := 31) dX4_follow_112 rfl ?_
        refine r_dup (pc := 113) rfl dX4_follow_113 ?_
        refine r_getI (pc := 114) (fi := 17) (x := (h9 31 17)) fl_X4_154 dX4_follow_114 s0_31 rfl ((zU_ne (by omega)).trans (zU_ne (by omega))) ?_
        refine r_iload (pc := 117) (x := (v1 % 4)) dX4_follow_117 rfl ?_
        refine r_iload (pc := 119) (x := x9) dX4_follow_119 rfl ?_
        refine r_callSN (μ2 := mX11_quartersBetween) (pc := 121) (as := [.int (zI (v1 % 4)), .int (zI x9)]) (st := [.int (zI (h9 31 17)), .ref 31]) mn_X4_146 sm_X11_quartersBetween okX11_quartersBetween ⟨by decide, by decide⟩ dX4_follow_121 (Nat.le_of_ble_eq_true rfl) rfl (Nat.le_of_ble_eq_true rfl) (by decide) (by decide) (zCC.mono w ?_)
        rintro r S' h14 ⟨rfl, x14, hr, w⟩
        subst hr
        show RR mX4_follow 0 0 124 [some (.ref 31), some (.int (zI v1)), some (.int (zI v2)), some (.int (zI v3)), some (.int (zI v4)), some (.int (zI x9)), some (.int (zI (v1 % 4))), some (.int (zI (h9 38 ((v1 - (v1 % 4)) + x9))))] [.int (zI x14), .int (zI (h9 31 17)), .ref 31] zS0 h14 (zQv zS0 K)
        refine r_iadd (pc := 124) (x := (h9 31 17)) (y := x14) dX4_follow_124 ?_
        refine r_putI (pc := 125) (fi := 17) (x := ((h9 31 17) + x14)) fl_X4_154 dX4_follow_125 s0_31 rfl ?_
        refine r_iload (pc := 128) (x := (h9 38 ((v1 - (v1 % 4)) + x9))) dX4_follow_128 rfl ?_
        refine r_iconst (pc := 130) dX4_follow_130 ?_
        refine r_imul (pc := 131) (x := (h9 38 ((v1 - (v1 % 4)) + x9))) (y := 4) dX4_follow_131 ?_
        refine r_iload (pc := 132) (x := x9) dX4_follow_132 rfl ?_
        refine r_iadd (pc := 134) (x := ((h9 38 ((v1 - (v1 % 4)) + x9)) * 4)) (y := x9) dX4_follow_134 ?_
        refine r_istore_n (pc := 135) (L' := [some (.ref 31), some (.int (zI (((h9 38 ((v1 - (v1 % 4)) + x9)) * 4) + x9))), some (.int (zI v2)), some (.int (zI v3)), some (.int (zI v4)), some (.int (zI x9)), some (.int (zI (v1 % 4))), some (.int (zI (h9 38 ((v1 - (v1 % 4)) + x9))))]) dX4_follow_135 (by decide) rfl ?_
        refine r_iload_n (pc := 136) (x := v2) dX4_follow_136 rfl ?_
        refine r_aload_n (pc := 137) (a := 31) dX4_follow_137 rfl ?_
        refine r_getR (pc := 138) (b := 40) fl_X4_25 dX4_follow_138 s0_31 rfl ?_
        refine r_iload (pc := 141) (x := (h9 38 ((v1 - (v1 % 4)) + x9))) dX4_follow_141 rfl ?_
        obtain ⟨hb15, w⟩ := w
        refine r_iald (pc := 143) (i := (h9 38 ((v1 - (v1 % 4)) + x9))) (x := (h14 40 (h9 38 ((v1 - (v1 % 4)) + x9)))) dX4_follow_143 s0_40 ⟨hb15.1, hb15.2, (by decide)⟩ (zU_ne (by omega)) ?_
        refine r_ior (pc := 144) (x := v2) (y := (h14 40 (h9 38 ((v1 - (v1 % 4)) + x9)))) dX4_follow_144 ?_
        refine r_istore_n (pc := 145) (L' := [some (.ref 31), some (.int (zI (((h9 38 ((v1 - (v1 % 4)) + x9)) * 4) + x9))), some (.int (zI (iO v2 (h14 40 (h9 38 ((v1 - (v1 % 4)) + x9)))))), some (.int (zI v3)), some (.int (zI v4)), some (.int (zI x9)), some (.int (zI (v1 % 4))), some (.int (zI (h9 38 ((v1 - (v1 % 4)) + x9))))]) dX4_follow_145 (by decide) rfl ?_
        refine r_iinc (pc := 146) (x := v4) (L' := [some (.ref 31), some (.int (zI (((h9 38 ((v1 - (v1 % 4)) + x9)) * 4) + x9))), some (.int (zI (iO v2 (h14 40 (h9 38 ((v1 - (v1 % 4)) + x9)))))), some (.int (zI v3)), some (.int (zI (v4 + 1))), some (.int (zI x9)), some (.int (zI (v1 % 4))), some (.int (zI (h9 38 ((v1 - (v1 % 4)) + x9))))]) dX4_follow_146 rfl (by decide) rfl ?_
        refine r_goto (pc := 149) (tgt := 48) dX4_follow_149 (by decide) ?_
        exact RR.sub (L' := [some (.ref 31), some (.int (zI (((h9 38 ((v1 - (v1 % 4)) + x9)) * 4) + x9))), some (.int (zI (iO v2 (h14 40 (h9 38 ((v1 - (v1 % 4)) + x9)))))), some (.int (zI v3)), some (.int (zI (v4 + 1))), none, none, none]) (zSb_of (⟨rfl, ⟨rfl, ⟨rfl, ⟨rfl, ⟨rfl, trivial⟩⟩⟩⟩⟩)) w
      · have w := w.2 (c)
        exact r_ret (st := []) (pc := 75) dX4_follow_75 rfl rfl (by decide) ⟨rfl, rfl, w⟩

set_option maxRecDepth 100000 in
set_option maxHeartbeats 4000000 in
theorem wX4_chart {h : zMm} {K : zMm → Prop} (w : zCi mX3_told [.ref 32, .int (zI 1)] zS0 h (fun x1 h1 => RR mX4_chart 0 0 19 [some (.ref 31), some (.int (zI 0)), none, none] [] zS0 (zU (zU h1 31 12 x1) 31 10 0) (zQv zS0 K))) : zCv mX4_chart [.ref 31] zS0 h K := by
  show RR mX4_chart 0 0 0 [some (.ref 31), none, none, none] [] zS0 h (zQv zS0 K)
  refine r_aload_n (pc := 0) (a := 31) dX4_chart_0 rfl ?_
  refine r_aload_n (pc := 1) (a := 31) dX4_chart_1 rfl ?_
  refine r_getR (pc := 2) (b := 32) fl_X4_12 dX4_chart_2 s0_31 rfl ?_
  refine r_iconst (pc := 5) dX4_chart_5 ?_
  refine r_callV (μ2 := mX3_told) (pc := 6) (as := [.int (zI 1)]) (st := [.ref 31]) rfl s0_32 ml_X4_121 im_X3_told se_X3_told okX3_told ⟨by decide, by decide⟩ dX4_chart_6 (Nat.le_of_ble_eq_true rfl) rfl (Nat.le_of_ble_eq_true rfl) (by decide) (by decide) (zCC.mono w ?_)
  rintro r S' h1 ⟨rfl, x1, hr, w⟩
  subst hr
  show RR mX4_chart 0 0 9 [some (.ref 31), none, none, none] [.int (zI x1), .ref 31] zS0 h1 (zQv zS0 K)
  refine r_putI (pc := 9) (fi := 12) (x := x1) fl_X4_128 dX4_chart_9 s0_31 rfl ?_
  refine r_aload_n (pc := 12) (a := 31) dX4_chart_12 rfl ?_
  refine r_iconst (pc := 13) dX4_chart_13 ?_
  refine r_putI (pc := 14) (fi := 10) (x := 0) fl_X4_103 dX4_chart_14 s0_31 rfl ?_
  refine r_iconst (pc := 17) dX4_chart_17 ?_
  refine r_istore_n (pc := 18) (L' := [some (.ref 31), some (.int (zI 0)), none, none]) dX4_chart_18 (by decide) rfl ?_
  exact w

set_option maxRecDepth 100000 in
set_option maxHeartbeats 4000000 in
theorem bX4_chart_19 {h : zMm} {K : zMm → Prop} {v1 : Int} (w : (zR v1 ∧ ((36 ≤ v1 → zCv mJ7_fill_53178 [.ref 42, .int (zI 1000000)] zS0 (zU h 31 11 ((iSl 1 (h 31 10)) - 1)) (fun h3 => K h3)) ∧ (¬ 36 ≤ v1 → ((0 ≤ v1 ∧ v1 < 36) ∧ zCb mX3_isGrass [.ref 32, .int (zI v1)] zS0 (zU h 40 v1 0) (fun b5 h5 => (zR (h5 31 10) ∧ ((b5 = false → RR mX4_chart 0 0 86 [some (.ref 31), some (.int (zI v1)), some (.int (zI 0)), none] [] zS0 h5 (zQv zS0 K)) ∧ (b5 = true → ((7 ≤ (h5 31 10) → RR mX4_chart 0 0 86 [some (.ref 31), some (.int (zI v1)), some (.int (zI 0)), none] [] zS0 h5 (zQv zS0 K)) ∧ (¬ 7 ≤ (h5 31 10) → ((0 ≤ (h5 31 10) ∧ (h5 31 10) < 7) ∧ RR mX4_chart 0 0 86 [some (.ref 31), some (.int (zI v1)), some (.int (zI 0)), none] [] zS0 (zU (zU (zU h5 40 v1 (iSl 1 (h5 31 10))) 41 (h5 31 10) v1) 31 10 ((h5 31 10) + 1)) (zQv zS0 K))))))))))))) : RR mX4_chart 0 0 19 [some (.ref 31), some (.int (zI v1)), none, none] [] zS0 h (zQv zS0 K) := by
  refine r_iload_n (pc := 19) (x := v1) dX4_chart_19 rfl ?_
  refine r_bipush (pc := 20) (x := 36) dX4_chart_20 (by decide) ?_
  obtain ⟨hr2, w⟩ := w
  refine r_icmp_ge (pc := 22) (x := v1) (y := 36) (tgt := 143) dX4_chart_22 (by decide) hr2 (by decide) (fun c => ?_) (fun c => ?_)
  · have w := w.1 (c)
    refine r_aload_n (pc := 143) (a := 31) dX4_chart_143 rfl ?_
    refine r_iconst (pc := 144) dX4_chart_144 ?_
    refine r_aload_n (pc := 145) (a := 31) dX4_chart_145 rfl ?_
    refine r_getI (pc := 146) (fi := 10) (x := (h 31 10)) fl_X4_103 dX4_chart_146 s0_31 rfl (rfl) ?_
    refine r_ishl (pc := 149) (x := 1) (y := (h 31 10)) dX4_chart_149 ?_
    refine r_iconst (pc := 150) dX4_chart_150 ?_
    refine r_isub (pc := 151) (x := (iSl 1 (h 31 10))) (y := 1) dX4_chart_151 ?_
    refine r_putI (pc := 152) (fi := 11) (x := ((iSl 1 (h 31 10)) - 1)) fl_X4_114 dX4_chart_152 s0_31 rfl ?_
    refine r_aload_n (pc := 155) (a := 31) dX4_chart_155 rfl ?_
    refine r_getR (pc := 156) (b := 42) fl_X4_31 dX4_chart_156 s0_31 rfl ?_
    refine r_ldcI (pc := 159) (x := 1000000) dX4_chart_159 kc_X4_58 ?_
    refine r_callS (μ2 := mJ7_fill_53178) (pc := 161) (as := [.ref 42, .int (zI 1000000)]) (st := []) ml_X4_137 sm_J7_fill_53178 okJ7_fill_53178 ⟨by decide, by decide⟩ dX4_chart_161 (Nat.le_of_ble_eq_true rfl) rfl (Nat.le_of_ble_eq_true rfl) (by decide) (by decide) (zCC.mono w ?_)
    rintro r S' h3 ⟨rfl, hr, w⟩
    subst hr
    show RR mX4_chart 0 0 164 [some (.ref 31), some (.int (zI v1)), none, none] [] zS0 h3 (zQv zS0 K)
    exact r_ret (st := []) (pc := 164) dX4_chart_164 rfl rfl (by decide) ⟨rfl, rfl, w⟩
  · have w := w.2 (c)
    refine r_aload_n (pc := 25) (a := 31) dX4_chart_25 rfl ?_
    refine r_getR (pc := 26) (b := 40) fl_X4_25 dX4_chart_26 s0_31 rfl ?_
    refine r_iload_n (pc := 29) (x := v1) dX4_chart_29 rfl ?_
    refine r_iconst (pc := 30) dX4_chart_30 ?_
    obtain ⟨hb4, w⟩ := w
    refine r_iast (pc := 31) (i := v1) (x := 0) dX4_chart_31 s0_40 ⟨hb4.1, hb4.2, (by decide)⟩  ?_
    refine r_aload_n (pc := 32) (a := 31) dX4_chart_32 rfl ?_
    refine r_getR (pc := 33) (b := 32) fl_X4_12 dX4_chart_33 s0_31 rfl ?_
    refine r_iload_n (pc := 36) (x := v1) dX4_chart_36 rfl ?_
    refine r_callV (μ2 := mX3_isGrass) (pc := 37) (as := [.int (zI v1)]) (st := []) rfl s0_32 ml_X4_131 im_X3_isGrass se_X3_isGrass okX3_isGrass ⟨by decide, by decide⟩ dX4_chart_37 (Nat.le_of_ble_eq_true rfl) rfl (Nat.le_of_ble_eq_true rfl) (by decide) (by decide) (zCC.mono w ?_)
    rintro r S' h5 ⟨rfl, b5, hr, w⟩
    subst hr
    show RR mX4_chart 0 0 40 [some (.ref 31), some (.int (zI v1)), none, none] [.int (zI (bI b5))] zS0 h5 (zQv zS0 K)
    obtain ⟨hr7, w⟩ := w
    refine r_if_eq (pc := 40) (x := (bI b5)) (tgt := 84) dX4_chart_40 (by decide) (bI_R _) (fun c => ?_) (fun c => ?_)
    · have w := w.1 (bI_0.mp c)
      refine r_iconst (pc := 84) dX4_chart_84 ?_
      refine r_istore_n (pc := 85) (L' := [some (.ref 31), some (.int (zI v1)), some (.int (zI 0)), none]) dX4_chart_85 (by decide) rfl ?_
      exact w
    · have w := w.2 (bI_n.mp c)
      refine r_aload_n (pc := 43) (a := 31) dX4_chart_43 rfl ?_
      refine r_getI (pc := 44) (fi := 10) (x := (h5 31 10)) fl_X4_103 dX4_chart_44 s0_31 rfl (rfl) ?_
      refine r_bipush (pc := 47) (x := 7) dX4_chart_47 (by decide) ?_
      refine r_icmp_ge (pc := 49) (x := (h5 31 10)) (y := 7) (tgt := 84) dX4_chart_49 (by decide) hr7 (by decide) (fun c => ?_) (fun c => ?_)
      · have w := w.1 (c)
        refine r_iconst (pc := 84) dX4_chart_84 ?_
        refine r_istore_n (pc := 85) (L' := [some (.ref 31), some (.int (zI v1)), some (.int (zI 0)), none]) dX4_chart_85 (by decide) rfl ?_
        exact w
      · have w := w.2 (c)
        refine r_aload_n (pc := 52) (a := 31) dX4_chart_52 rfl ?_
        refine r_getR (pc := 53) (b := 40) fl_X4_25 dX4_chart_53 s0_31 rfl ?_
        refine r_iload_n (pc := 56) (x := v1) dX4_chart_56 rfl ?_
        refine r_iconst (pc := 57) dX4_chart_57 ?_
        refine r_aload_n (pc := 58) (a := 31) dX4_chart_58 rfl ?_
        refine r_getI (pc := 59) (fi := 10) (x := (h5 31 10)) fl_X4_103 dX4_chart_59 s0_31 rfl (rfl) ?_
        refine r_ishl (pc := 62) (x := 1) (y := (h5 31 10)) dX4_chart_62 ?_
        refine r_iast (pc := 63) (i := v1) (x := (iSl 1 (h5 31 10))) dX4_chart_63 s0_40 ⟨by omega, by omega, (by decide)⟩  ?_
        refine r_aload_n (pc := 64) (a := 31) dX4_chart_64 rfl ?_
        refine r_getR (pc := 65) (b := 41) fl_X4_28 dX4_chart_65 s0_31 rfl ?_
        refine r_aload_n (pc := 68) (a := 31) dX4_chart_68 rfl ?_
        refine r_getI (pc := 69) (fi := 10) (x := (h5 31 10)) fl_X4_103 dX4_chart_69 s0_31 rfl (zU_ne (by omega)) ?_
        refine r_iload_n (pc := 72) (x := v1) dX4_chart_72 rfl ?_
        obtain ⟨hb9, w⟩ := w
        refine r_iast (pc := 73) (i := (h5 31 10)) (x := v1) dX4_chart_73 s0_41 ⟨hb9.1, hb9.2, (by decide)⟩  ?_
        refine r_aload_n (pc := 74) (a := 31) dX4_chart_74 rfl ?_
        refine r_dup (pc := 75) rfl dX4_chart_75 ?_
        refine r_getI (pc := 76) (fi := 10) (x := (h5 31 10)) fl_X4_103 dX4_chart_76 s0_31 rfl ((zU_ne (by omega)).trans (zU_ne (by omega))) ?_
        refine r_iconst (pc := 79) dX4_chart_79 ?_
        refine r_iadd (pc := 80) (x := (h5 31 10)) (y := 1) dX4_chart_80 ?_
        refine r_putI (pc := 81) (fi := 10) (x := ((h5 31 10) + 1)) fl_X4_103 dX4_chart_81 s0_31 rfl ?_
        refine r_iconst (pc := 84) dX4_chart_84 ?_
        refine r_istore_n (pc := 85) (L' := [some (.ref 31), some (.int (zI v1)), some (.int (zI 0)), none]) dX4_chart_85 (by decide) rfl ?_
        exact w

set_option maxRecDepth 100000 in
set_option maxHeartbeats 4000000 in
theorem bX4_chart_86 {h : zMm} {K : zMm → Prop} {v1 : Int} {v2 : Int} (w : (zR v2 ∧ ((4 ≤ v2 → RR mX4_chart 0 0 19 [some (.ref 31), some (.int (zI (v1 + 1))), none, none] [] zS0 h (zQv zS0 K)) ∧ (¬ 4 ≤ v2 → zCi mX3_ahead [.ref 32, .int (zI v1), .int (zI v2)] zS0 h (fun x11 h11 => ((0 ≤ ((v1 * 4) + v2) ∧ ((v1 * 4) + v2) < 144) ∧ zCi mX3_minutesOfStep [.ref 32, .int (zI v2), .int (zI x11)] zS0 (zU h11 38 ((v1 * 4) + v2) x11) (fun x13 h13 => RR mX4_chart 0 0 86 [some (.ref 31), some (.int (zI v1)), some (.int (zI (v2 + 1))), none] [] zS0 (zU h13 39 ((v1 * 4) + v2) x13) (zQv zS0 K)))))))) : RR mX4_chart 0 0 86 [some (.ref 31), some (.int (zI v1)), some (.int (zI v2)), none] [] zS0 h (zQv zS0 K) := by
  refine r_iload_n (pc := 86) (x := v2) dX4_chart_86 rfl ?_
  refine r_iconst (pc := 87) dX4_chart_87 ?_
  obtain ⟨hr10, w⟩ := w
  refine r_icmp_ge (pc := 88) (x := v2) (y := 4) (tgt := 137) dX4_chart_88 (by decide) hr10 (by decide) (fun c => ?_) (fun c => ?_)
  · have w := w.1 (c)
    refine r_iinc (pc := 137) (x := v1) (L' := [some (.ref 31), some (.int (zI (v1 + 1))), some (.int (zI v2)), none]) dX4_chart_137 rfl (by decide) rfl ?_
    refine r_goto (pc := 140) (tgt := 19) dX4_chart_140 (by decide) ?_
    exact RR.sub (L' := [some (.ref 31), some (.int (zI (v1 + 1))), none, none]) (zSb_of (⟨rfl, ⟨rfl, trivial⟩⟩)) w
  · have w := w.2 (c)
    refine r_aload_n (pc := 91) (a := 31) dX4_chart_91 rfl ?_
    refine r_getR (pc := 92) (b := 32) fl_X4_12 dX4_chart_92 s0_31 rfl ?_
    refine r_iload_n (pc := 95) (x := v1) dX4_chart_95 rfl ?_
    refine r_iload_n (pc := 96) (x := v2) dX4_chart_96 rfl ?_
    refine r_callV (μ2 := mX3_ahead) (pc := 97) (as := [.int (zI v1), .int (zI v2)]) (st := []) rfl s0_32 ml_X4_73 im_X3_ahead se_X3_ahead okX3_ahead ⟨by decide, by decide⟩ dX4_chart_97 (Nat.le_of_ble_eq_true rfl) rfl (Nat.le_of_ble_eq_true rfl) (by decide) (by decide) (zCC.mono w ?_)
    rintro r S' h11 ⟨rfl, x11, hr, w⟩
    subst hr
    show RR mX4_chart 0 0 100 [some (.ref 31), some (.int (zI v1)), some (.int (zI v2)), none] [.int (zI x11)] zS0 h11 (zQv zS0 K)
    refine r_istore_n (pc := 100) (L' := [some (.ref 31), some (.int (zI v1)), some (.int (zI v2)), some (.int (zI x11))]) dX4_chart_100 (by decide) rfl ?_
    refine r_aload_n (pc := 101) (a := 31) dX4_chart_101 rfl ?_
    refine r_getR (pc := 102) (b := 38) fl_X4_18 dX4_chart_102 s0_31 rfl ?_
    refine r_iload_n (pc := 105) (x := v1) dX4_chart_105 rfl ?_
    refine r_iconst (pc := 106) dX4_chart_106 ?_
    refine r_imul (pc := 107) (x := v1) (y := 4) dX4_chart_107 ?_
    refine r_iload_n (pc := 108) (x := v2) dX4_chart_108 rfl ?_
    refine r_iadd (pc := 109) (x := (v1 * 4)) (y := v2) dX4_chart_109 ?_
    refine r_iload_n (pc := 110) (x := x11) dX4_chart_110 rfl ?_
    obtain ⟨hb12, w⟩ := w
    refine r_iast (pc := 111) (i := ((v1 * 4) + v2)) (x := x11) dX4_chart_111 s0_38 ⟨hb12.1, hb12.2, (by decide)⟩  ?_
    refine r_aload_n (pc := 112) (a := 31) dX4_chart_112 rfl ?_
    refine r_getR (pc := 113) (b := 39) fl_X4_22 dX4_chart_113 s0_31 rfl ?_
    refine r_iload_n (pc := 116) (x := v1) dX4_chart_116 rfl ?_
    refine r_iconst (pc := 117) dX4_chart_117 ?_
    refine r_imul (pc := 118) (x := v1) (y := 4) dX4_chart_118 ?_
    refine r_iload_n (pc := 119) (x := v2) dX4_chart_119 rfl ?_
    refine r_iadd (pc := 120) (x := (v1 * 4)) (y := v2) dX4_chart_120 ?_
    refine r_aload_n (pc := 121) (a := 31) dX4_chart_121 rfl ?_
    refine r_getR (pc := 122) (b := 32) fl_X4_12 dX4_chart_122 s0_31 rfl ?_
    refine r_iload_n (pc := 125) (x := v2) dX4_chart_125 rfl ?_
    refine r_iload_n (pc := 126) (x := x11) dX4_chart_126 rfl ?_
    refine r_callV (μ2 := mX3_minutesOfStep) (pc := 127) (as := [.int (zI v2), .int (zI x11)]) (st := [.int (zI ((v1 * 4) + v2)), .ref 39]) rfl s0_32 ml_X4_134 im_X3_minutesOfStep se_X3_minutesOfStep okX3_minutesOfStep ⟨by decide, by decide⟩ dX4_chart_127 (Nat.le_of_ble_eq_true rfl) rfl (Nat.le_of_ble_eq_true rfl) (by decide) (by decide) (zCC.mono w ?_)
    rintro r S' h13 ⟨rfl, x13, hr, w⟩
    subst hr
    show RR mX4_chart 0 0 130 [some (.ref 31), some (.int (zI v1)), some (.int (zI v2)), some (.int (zI x11))] [.int (zI x13), .int (zI ((v1 * 4) + v2)), .ref 39] zS0 h13 (zQv zS0 K)
    refine r_iast (pc := 130) (i := ((v1 * 4) + v2)) (x := x13) dX4_chart_130 s0_39 ⟨by omega, by omega, (by decide)⟩  ?_
    refine r_iinc (pc := 131) (x := v2) (L' := [some (.ref 31), some (.int (zI v1)), some (.int (zI (v2 + 1))), some (.int (zI x11))]) dX4_chart_131 rfl (by decide) rfl ?_
    refine r_goto (pc := 134) (tgt := 86) dX4_chart_134 (by decide) ?_
    exact RR.sub (L' := [some (.ref 31), some (.int (zI v1)), some (.int (zI (v2 + 1))), none]) (zSb_of (⟨rfl, ⟨rfl, ⟨rfl, trivial⟩⟩⟩)) w

set_option maxRecDepth 100000 in
set_option maxHeartbeats 4000000 in
theorem wX4_measure {h : zMm} {K : zMm → Prop} {v1 : Int} {v2 : Int} (w : ((0 ≤ v1 ∧ v1 < 7) ∧ ((0 ≤ ((((v1 * 4) + v2) * 144) + (((h 41 v1) * 4) + v2)) ∧ ((((v1 * 4) + v2) * 144) + (((h 41 v1) * 4) + v2)) < 4032) ∧ RR mX4_measure 0 0 49 [some (.ref 31), none, none, some (.int (zI (((v1 * 4) + v2) * 144))), none, some (.int (zI 0)), some (.int (zI 1)), some (.int (zI 0)), none, none, none, none, none, none] [] zS0 (zU (zU h 42 ((((v1 * 4) + v2) * 144) + (((h 41 v1) * 4) + v2)) 0) 44 0 (((h 41 v1) * 4) + v2)) (zQv zS0 K)))) : zCv mX4_measure [.ref 31, .int (zI v1), .int (zI v2)] zS0 h K := by
  show RR mX4_measure 0 0 0 [some (.ref 31), some (.int (zI v1)), some (.int (zI v2)), none, none, none, none, none, none, none, none, none, none, none] [] zS0 h (zQv zS0 K)
  refine r_iload_n (pc := 0) (x := v1) dX4_measure_0 rfl ?_
  refine r_iconst (pc := 1) dX4_measure_1 ?_
  refine r_imul (pc := 2) (x := v1) (y := 4) dX4_measure_2 ?_
  refine r_iload_n (pc := 3) (x := v2) dX4_measure_3 rfl ?_
  refine r_iadd (pc := 4) (x := (v1 * 4)) (y := v2) dX4_measure_4 ?_
  refine r_sipush (pc := 5) (x := 144) dX4_measure_5 (by decide) ?_
  refine r_imul (pc := 8) (x := ((v1 * 4) + v2)) (y := 144) dX4_measure_8 ?_
  refine r_istore_n (pc := 9) (L' := [some (.ref 31), some (.int (zI v1)), some (.int (zI v2)), some (.int (zI (((v1 * 4) + v2) * 144))), none, none, none, none, none, none, none, none, none, none]) dX4_measure_9 (by decide) rfl ?_
  refine r_aload_n (pc := 10) (a := 31) dX4_measure_10 rfl ?_
  refine r_getR (pc := 11) (b := 41) fl_X4_28 dX4_measure_11 s0_31 rfl ?_
  refine r_iload_n (pc := 14) (x := v1) dX4_measure_14 rfl ?_
  obtain ⟨hb1, w⟩ := w
  refine r_iald (pc := 15) (i := v1) (x := (h 41 v1)) dX4_measure_15 s0_41 ⟨hb1.1, hb1.2, (by decide)⟩ (rfl) ?_
  refine r_iconst (pc := 16) dX4_measure_16 ?_
  refine r_imul (pc := 17) (x := (h 41 v1)) (y := 4) dX4_measure_17 ?_
  refine r_iload_n (pc := 18) (x := v2) dX4_measure_18 rfl ?_
  refine r_iadd (pc := 19) (x := ((h 41 v1) * 4)) (y := v2) dX4_measure_19 ?_
  refine r_istore (pc := 20) (L' := [some (.ref 31), some (.int (zI v1)), some (.int (zI v2)), some (.int (zI (((v1 * 4) + v2) * 144))), some (.int (zI (((h 41 v1) * 4) + v2))), none, none, none, none, none, none, none, none, none]) dX4_measure_20 (by decide) rfl ?_
  refine r_aload_n (pc := 22) (a := 31) dX4_measure_22 rfl ?_
  refine r_getR (pc := 23) (b := 42) fl_X4_31 dX4_measure_23 s0_31 rfl ?_
  refine r_iload_n (pc := 26) (x := (((v1 * 4) + v2) * 144)) dX4_measure_26 rfl ?_
  refine r_iload (pc := 27) (x := (((h 41 v1) * 4) + v2)) dX4_measure_27 rfl ?_
  refine r_iadd (pc := 29) (x := (((v1 * 4) + v2) * 144)) (y := (((h 41 v1) * 4) + v2)) dX4_measure_29 ?_
  refine r_iconst (pc := 30) dX4_measure_30 ?_
  obtain ⟨hb2, w⟩ := w
  refine r_iast (pc := 31) (i := ((((v1 * 4) + v2) * 144) + (((h 41 v1) * 4) + v2))) (x := 0) dX4_measure_31 s0_42 ⟨hb2.1, hb2.2, (by decide)⟩  ?_
  refine r_aload_n (pc := 32) (a := 31) dX4_measure_32 rfl ?_
  refine r_getR (pc := 33) (b := 44) fl_X4_37 dX4_measure_33 s0_31 rfl ?_
  refine r_iconst (pc := 36) dX4_measure_36 ?_
  refine r_iload (pc := 37) (x := (((h 41 v1) * 4) + v2)) dX4_measure_37 rfl ?_
  refine r_iast (pc := 39) (i := 0) (x := (((h 41 v1) * 4) + v2)) dX4_measure_39 s0_44 (by decide)  ?_
  refine r_iconst (pc := 40) dX4_measure_40 ?_
  refine r_istore (pc := 41) (L' := [some (.ref 31), some (.int (zI v1)), some (.int (zI v2)), some (.int (zI (((v1 * 4) + v2) * 144))), some (.int (zI (((h 41 v1) * 4) + v2))), some (.int (zI 0)), none, none, none, none, none, none, none, none]) dX4_measure_41 (by decide) rfl ?_
  refine r_iconst (pc := 43) dX4_measure_43 ?_
  refine r_istore (pc := 44) (L' := [some (.ref 31), some (.int (zI v1)), some (.int (zI v2)), some (.int (zI (((v1 * 4) + v2) * 144))), some (.int (zI (((h 41 v1) * 4) + v2))), some (.int (zI 0)), some (.int (zI 1)), none, none, none, none, none, none, none]) dX4_measure_44 (by decide) rfl ?_
  refine r_iconst (pc := 46) dX4_measure_46 ?_
  refine r_istore (pc := 47) (L' := [some (.ref 31), some (.int (zI v1)), some (.int (zI v2)), some (.int (zI (((v1 * 4) + v2) * 144))), some (.int (zI (((h 41 v1) * 4) + v2))), some (.int (zI 0)), some (.int (zI 1)), some (.int (zI 0)), none, none, none, none, none, none]) dX4_measure_47 (by decide) rfl ?_
  exact RR.sub (L' := [some (.ref 31), none, none, some (.int (zI (((v1 * 4) + v2) * 144))), none, some (.int (zI 0)), some (.int (zI 1)), some (.int (zI 0)), none, none, none, none, none, none]) (zSb_of (⟨rfl, ⟨rfl, ⟨rfl, ⟨rfl, ⟨rfl, trivial⟩⟩⟩⟩⟩)) w

set_option maxRecDepth 100000 in
set_option maxHeartbeats 4000000 in
theorem bX4_measure_49 {h : zMm} {K : zMm → Prop} {v3 : Int} {v5 : Int} {v6 : Int} {v7 : Int} (w : (zR v7 ∧ (zR v6 ∧ ((1000000 ≤ v7 → K h) ∧ (¬ 1000000 ≤ v7 → ((v6 ≤ 0 → K h) ∧ (¬ v6 ≤ 0 → ((0 ≤ v5 ∧ v5 < 144) ∧ ((0 ≤ (v5 + 1) ∧ (v5 + 1) < 2147483648) ∧ ((0 ≤ (h 44 v5) ∧ (h 44 v5) < 144) ∧ ((0 ≤ (((h 44 v5) % 4) + 2) ∧ (((h 44 v5) % 4) + 2) < 2147483648) ∧ ((0 ≤ (((h 44 v5) - ((h 44 v5) % 4)) + ((((h 44 v5) % 4) + 2) % 4)) ∧ (((h 44 v5) - ((h 44 v5) % 4)) + ((((h 44 v5) % 4) + 2) % 4)) < 144) ∧ RR mX4_measure 0 0 119 [some (.ref 31), none, none, some (.int (zI v3)), none, some (.int (zI ((v5 + 1) % 144))), some (.int (zI (v6 + (-1)))), some (.int (zI v7)), some (.int (zI (h 44 v5))), some (.int (zI ((h 44 v5) % 4))), some (.int (zI (h 38 (((h 44 v5) - ((h 44 v5) % 4)) + ((((h 44 v5) % 4) + 2) % 4))))), some (.int (zI 0)), none, none] [] zS0 (zU h 45 (h 44 v5) 0) (zQv zS0 K))))))))))))) : RR mX4_measure 0 0 49 [some (.ref 31), none, none, some (.int (zI v3)), none, some (.int (zI v5)), some (.int (zI v6)), some (.int (zI v7)), none, none, none, none, none, none] [] zS0 h (zQv zS0 K) := by
  refine r_iload (pc := 49) (x := v7) dX4_measure_49 rfl ?_
  refine r_ldcI (pc := 51) (x := 1000000) dX4_measure_51 kc_X4_58 ?_
  obtain ⟨hr3, w⟩ := w
  obtain ⟨hr5, w⟩ := w
  refine r_icmp_ge (pc := 53) (x := v7) (y := 1000000) (tgt := 233) dX4_measure_53 (by decide) hr3 (by decide) (fun c => ?_) (fun c => ?_)
  · have w := w.1 (c)
    exact r_ret (st := []) (pc := 233) dX4_measure_233 rfl rfl (by decide) ⟨rfl, rfl, w⟩
  · have w := w.2 (c)
    refine r_iload (pc := 56) (x := v6) dX4_measure_56 rfl ?_
    refine r_if_le (pc := 58) (x := v6) (tgt := 233) dX4_measure_58 (by decide) hr5 (fun c => ?_) (fun c => ?_)
    · have w := w.1 (c)
      exact r_ret (st := []) (pc := 233) dX4_measure_233 rfl rfl (by decide) ⟨rfl, rfl, w⟩
    · have w := w.2 (c)
      refine r_aload_n (pc := 61) (a := 31) dX4_measure_61 rfl ?_
      refine r_getR (pc := 62) (b := 44) fl_X4_37 dX4_measure_62 s0_31 rfl ?_
      refine r_iload (pc := 65) (x := v5) dX4_measure_65 rfl ?_
      obtain ⟨hb7, w⟩ := w
      refine r_iald (pc := 67) (i := v5) (x := (h 44 v5)) dX4_measure_67 s0_44 ⟨hb7.1, hb7.2, (by decide)⟩ (rfl) ?_
      refine r_istore (pc := 68) (L' := [some (.ref 31), none, none, some (.int (zI v3)), none, some (.int (zI v5)), some (.int (zI v6)), some (.int (zI v7)), some (.int (zI (h 44 v5))), none, none, none, none, none]) dX4_measure_68 (by decide) rfl ?_
      refine r_iload (pc := 70) (x := v5) dX4_measure_70 rfl ?_
      refine r_iconst (pc := 72) dX4_measure_72 ?_
      refine r_iadd (pc := 73) (x := v5) (y := 1) dX4_measure_73 ?_
      refine r_sipush (pc := 74) (x := 144) dX4_measure_74 (by decide) ?_
      obtain ⟨hx8, w⟩ := w
      refine r_irem (pc := 77) (x := (v5 + 1)) (y := 144) dX4_measure_77 hx8 (by decide) ?_
      refine r_istore (pc := 78) (L' := [some (.ref 31), none, none, some (.int (zI v3)), none, some (.int (zI ((v5 + 1) % 144))), some (.int (zI v6)), some (.int (zI v7)), some (.int (zI (h 44 v5))), none, none, none, none, none]) dX4_measure_78 (by decide) rfl ?_
      refine r_iinc (pc := 80) (x := v6) (L' := [some (.ref 31), none, none, some (.int (zI v3)), none, some (.int (zI ((v5 + 1) % 144))), some (.int (zI (v6 + (-1)))), some (.int (zI v7)), some (.int (zI (h 44 v5))), none, none, none, none, none]) dX4_measure_80 rfl (by decide) rfl ?_
      refine r_aload_n (pc := 83) (a := 31) dX4_measure_83 rfl ?_
      refine r_getR (pc := 84) (b := 45) fl_X4_40 dX4_measure_84 s0_31 rfl ?_
      refine r_iload (pc := 87) (x := (h 44 v5)) dX4_measure_87 rfl ?_
      refine r_iconst (pc := 89) dX4_measure_89 ?_
      obtain ⟨hb9, w⟩ := w
      refine r_zast (pc := 90) (i := (h 44 v5)) (x := 0) dX4_measure_90 s0_45 ⟨hb9.1, hb9.2, (by decide)⟩ (by decide) ?_
      refine r_iload (pc := 91) (x := (h 44 v5)) dX4_measure_91 rfl ?_
      refine r_iconst (pc := 93) dX4_measure_93 ?_
      refine r_irem (pc := 94) (x := (h 44 v5)) (y := 4) dX4_measure_94 ⟨by omega, by omega⟩ (by decide) ?_
      refine r_istore (pc := 95) (L' := [some (.ref 31), none, none, some (.int (zI v3)), none, some (.int (zI ((v5 + 1) % 144))), some (.int (zI (v6 + (-1)))), some (.int (zI v7)), some (.int (zI (h 44 v5))), some (.int (zI ((h 44 v5) % 4))), none, none, none, none]) dX4_measure_95 (by decide) rfl ?_
      refine r_aload_n (pc := 97) (a := 31) dX4_measure_97 rfl ?_
      refine r_getR (pc := 98) (b := 38) fl_X4_18 dX4_measure_98 s0_31 rfl ?_
      refine r_iload (pc := 101) (x := (h 44 v5)) dX4_measure_101 rfl ?_
      refine r_iload (pc := 103) (x := ((h 44 v5) % 4)) dX4_measure_103 rfl ?_
      refine r_isub (pc := 105) (x := (h 44 v5)) (y := ((h 44 v5) % 4)) dX4_measure_105 ?_
      refine r_iload (pc := 106) (x := ((h 44 v5) % 4)) dX4_measure_106 rfl ?_
      refine r_iconst (pc := 108) dX4_measure_108 ?_
      refine r_iadd (pc := 109) (x := ((h 44 v5) % 4)) (y := 2) dX4_measure_109 ?_
      refine r_iconst (pc := 110) dX4_measure_110 ?_
      obtain ⟨hx10, w⟩ := w
      refine r_irem (pc := 111) (x := (((h 44 v5) % 4) + 2)) (y := 4) dX4_measure_111 hx10 (by decide) ?_
      refine r_iadd (pc := 112) (x := ((h 44 v5) - ((h 44 v5) % 4))) (y := ((((h 44 v5) % 4) + 2) % 4)) dX4_measure_112 ?_
      obtain ⟨hb11, w⟩ := w
      refine r_iald (pc := 113) (i := (((h 44 v5) - ((h 44 v5) % 4)) + ((((h 44 v5) % 4) + 2) % 4))) (x := (h 38 (((h 44 v5) - ((h 44 v5) % 4)) + ((((h 44 v5) % 4) + 2) % 4)))) dX4_measure_113 s0_38 ⟨hb11.1, hb11.2, (by decide)⟩ (zU_ne (by omega)) ?_
      refine r_istore (pc := 114) (L' := [some (.ref 31), none, none, some (.int (zI v3)), none, some (.int (zI ((v5 + 1) % 144))), some (.int (zI (v6 + (-1)))), some (.int (zI v7)), some (.int (zI (h 44 v5))), some (.int (zI ((h 44 v5) % 4))), some (.int (zI (h 38 (((h 44 v5) - ((h 44 v5) % 4)) + ((((h 44 v5) % 4) + 2) % 4))))), none, none, none]) dX4_measure_114 (by decide) rfl ?_
      refine r_iconst (pc := 116) dX4_measure_116 ?_
      refine r_istore (pc := 117) (L' := [some (.ref 31), none, none, some (.int (zI v3)), none, some (.int (zI ((v5 + 1) % 144))), some (.int (zI (v6 + (-1)))), some (.int (zI v7)), some (.int (zI (h 44 v5))), some (.int (zI ((h 44 v5) % 4))), some (.int (zI (h 38 (((h 44 v5) - ((h 44 v5) % 4)) + ((((h 44 v5) % 4) + 2) % 4))))), some (.int (zI 0)), none, none]) dX4_measure_117 (by decide) rfl ?_
      exact w

set_option maxRecDepth 100000 in
set_option maxHeartbeats 4000000 in
theorem bX4_measure_119 {h : zMm} {K : zMm → Prop} {v3 : Int} {v5 : Int} {v6 : Int} {v7 : Int} {v8 : Int} {v9 : Int} {v10 : Int} {v11 : Int} (w : (zR v11 ∧ (zR v10 ∧ ((4 ≤ v11 → RR mX4_measure 0 0 49 [some (.ref 31), none, none, some (.int (zI v3)), none, some (.int (zI v5)), some (.int (zI v6)), some (.int (zI (v7 + 1))), none, none, none, none, none, none] [] zS0 h (zQv zS0 K)) ∧ (¬ 4 ≤ v11 → ((v10 < 0 → RR mX4_measure 0 0 49 [some (.ref 31), none, none, some (.int (zI v3)), none, some (.int (zI v5)), some (.int (zI v6)), some (.int (zI (v7 + 1))), none, none, none, none, none, none] [] zS0 h (zQv zS0 K)) ∧ (¬ v10 < 0 → ((0 ≤ (v3 + v8) ∧ (v3 + v8) < 4032) ∧ zCi mX4_minutesToGo [.ref 31, .int (zI ((v10 * 4) + v11)), .int (zI v9)] zS0 h (fun x17 h17 => ((0 ≤ (v3 + ((v10 * 4) + v11)) ∧ (v3 + ((v10 * 4) + v11)) < 4032) ∧ (zR ((h 42 (v3 + v8)) + x17) ∧ (zR (h17 42 (v3 + ((v10 * 4) + v11))) ∧ (((h17 42 (v3 + ((v10 * 4) + v11))) ≤ ((h 42 (v3 + v8)) + x17) → RR mX4_measure 0 0 119 [some (.ref 31), none, none, some (.int (zI v3)), none, some (.int (zI v5)), some (.int (zI v6)), some (.int (zI v7)), some (.int (zI v8)), some (.int (zI v9)), some (.int (zI v10)), some (.int (zI (v11 + 1))), none, none] [] zS0 h17 (zQv zS0 K)) ∧ (¬ (h17 42 (v3 + ((v10 * 4) + v11))) ≤ ((h 42 (v3 + v8)) + x17) → ((0 ≤ ((v10 * 4) + v11) ∧ ((v10 * 4) + v11) < 144) ∧ (zR (h17 45 ((v10 * 4) + v11)) ∧ ((¬ (h17 45 ((v10 * 4) + v11)) = 0 → RR mX4_measure 0 0 119 [some (.ref 31), none, none, some (.int (zI v3)), none, some (.int (zI v5)), some (.int (zI v6)), some (.int (zI v7)), some (.int (zI v8)), some (.int (zI v9)), some (.int (zI v10)), some (.int (zI (v11 + 1))), none, none] [] zS0 (zU h17 42 (v3 + ((v10 * 4) + v11)) ((h 42 (v3 + v8)) + x17)) (zQv zS0 K)) ∧ ((h17 45 ((v10 * 4) + v11)) = 0 → ((0 ≤ (v5 + v6) ∧ (v5 + v6) < 2147483648) ∧ ((0 ≤ ((v5 + v6) % 144) ∧ ((v5 + v6) % 144) < 144) ∧ RR mX4_measure 0 0 119 [some (.ref 31), none, none, some (.int (zI v3)), none, some (.int (zI v5)), some (.int (zI (v6 + 1))), some (.int (zI v7)), some (.int (zI v8)), some (.int (zI v9)), some (.int (zI v10)), some (.int (zI (v11 + 1))), none, none] [] zS0 (zU (zU (zU h17 42 (v3 + ((v10 * 4) + v11)) ((h 42 (v3 + v8)) + x17)) 45 ((v10 * 4) + v11) 1) 44 ((v5 + v6) % 144) ((v10 * 4) + v11)) (zQv zS0 K))))))))))))))))))))) : RR mX4_measure 0 0 119 [some (.ref 31), none, none, some (.int (zI v3)), none, some (.int (zI v5)), some (.int (zI v6)), some (.int (zI v7)), some (.int (zI v8)), some (.int (zI v9)), some (.int (zI v10)), some (.int (zI v11)), none, none] [] zS0 h (zQv zS0 K) := by
  refine r_iload (pc := 119) (x := v11) dX4_measure_119 rfl ?_
  refine r_iconst (pc := 121) dX4_measure_121 ?_
  obtain ⟨hr12, w⟩ := w
  obtain ⟨hr14, w⟩ := w
  refine r_icmp_ge (pc := 122) (x := v11) (y := 4) (tgt := 227) dX4_measure_122 (by decide) hr12 (by decide) (fun c => ?_) (fun c => ?_)
  · have w := w.1 (c)
    refine r_iinc (pc := 227) (x := v7) (L' := [some (.ref 31), none, none, some (.int (zI v3)), none, some (.int (zI v5)), some (.int (zI v6)), some (.int (zI (v7 + 1))), some (.int (zI v8)), some (.int (zI v9)), some (.int (zI v10)), some (.int (zI v11)), none, none]) dX4_measure_227 rfl (by decide) rfl ?_
    refine r_goto (pc := 230) (tgt := 49) dX4_measure_230 (by decide) ?_
    exact RR.sub (L' := [some (.ref 31), none, none, some (.int (zI v3)), none, some (.int (zI v5)), some (.int (zI v6)), some (.int (zI (v7 + 1))), none, none, none, none, none, none]) (zSb_of (⟨rfl, ⟨rfl, ⟨rfl, ⟨rfl, ⟨rfl, trivial⟩⟩⟩⟩⟩)) w
  · have w := w.2 (c)
    refine r_iload (pc := 125) (x := v10) dX4_measure_125 rfl ?_
    refine r_if_lt (pc := 127) (x := v10) (tgt := 227) dX4_measure_127 (by decide) hr14 (fun c => ?_) (fun c => ?_)
    · have w := w.1 (c)
      refine r_iinc (pc := 227) (x := v7) (L' := [some (.ref 31), none, none, some (.int (zI v3)), none, some (.int (zI v5)), some (.int (zI v6)), some (.int (zI (v7 + 1))), some (.int (zI v8)), some (.int (zI v9)), some (.int (zI v10)), some (.int (zI v11)), none, none]) dX4_measure_227 rfl (by decide) rfl ?_
      refine r_goto (pc := 230) (tgt := 49) dX4_measure_230 (by decide) ?_
      exact RR.sub (L' := [some (.ref 31), none, none, some (.int (zI v3)), none, some (.int (zI v5)), some (.int (zI v6)), some (.int (zI (v7 + 1))), none, none, none, none, none, none]) (zSb_of (⟨rfl, ⟨rfl, ⟨rfl, ⟨rfl, ⟨rfl, trivial⟩⟩⟩⟩⟩)) w
    · have w := w.2 (c)
      refine r_iload (pc := 130) (x := v10) dX4_measure_130 rfl ?_
      refine r_iconst (pc := 132) dX4_measure_132 ?_
      refine r_imul (pc := 133) (x := v10) (y := 4) dX4_measure_133 ?_
      refine r_iload (pc := 134) (x := v11) dX4_measure_134 rfl ?_
      refine r_iadd (pc := 136) (x := (v10 * 4)) (y := v11) dX4_measure_136 ?_
      refine r_istore (pc := 137) (L' := [some (.ref 31), none, none, some (.int (zI v3)), none, some (.int (zI v5)), some (.int (zI v6)), some (.int (zI v7)), some (.int (zI v8)), some (.int (zI v9)), some (.int (zI v10)), some (.int (zI v11)), some (.int (zI ((v10 * 4) + v11))), none]) dX4_measure_137 (by decide) rfl ?_
      refine r_aload_n (pc := 139) (a := 31) dX4_measure_139 rfl ?_
      refine r_getR (pc := 140) (b := 42) fl_X4_31 dX4_measure_140 s0_31 rfl ?_
      refine r_iload_n (pc := 143) (x := v3) dX4_measure_143 rfl ?_
      refine r_iload (pc := 144) (x := v8) dX4_measure_144 rfl ?_
      refine r_iadd (pc := 146) (x := v3) (y := v8) dX4_measure_146 ?_
      obtain ⟨hb16, w⟩ := w
      refine r_iald (pc := 147) (i := (v3 + v8)) (x := (h 42 (v3 + v8))) dX4_measure_147 s0_42 ⟨hb16.1, hb16.2, (by decide)⟩ (rfl) ?_
      refine r_aload_n (pc := 148) (a := 31) dX4_measure_148 rfl ?_
      refine r_iload (pc := 149) (x := ((v10 * 4) + v11)) dX4_measure_149 rfl ?_
      refine r_iload (pc := 151) (x := v9) dX4_measure_151 rfl ?_
      refine r_callV (μ2 := mX4_minutesToGo) (pc := 153) (as := [.int (zI ((v10 * 4) + v11)), .int (zI v9)]) (st := [.int (zI (h 42 (v3 + v8)))]) rfl s0_31 ml_X4_143 im_X4_minutesToGo se_X4_minutesToGo okX4_minutesToGo ⟨by decide, by decide⟩ dX4_measure_153 (Nat.le_of_ble_eq_true rfl) rfl (Nat.le_of_ble_eq_true rfl) (by decide) (by decide) (zCC.mono w ?_)
      rintro r S' h17 ⟨rfl, x17, hr, w⟩
      subst hr
      show RR mX4_measure 0 0 156 [some (.ref 31), none, none, some (.int (zI v3)), none, some (.int (zI v5)), some (.int (zI v6)), some (.int (zI v7)), some (.int (zI v8)), some (.int (zI v9)), some (.int (zI v10)), some (.int (zI v11)), some (.int (zI ((v10 * 4) + v11))), none] [.int (zI x17), .int (zI (h 42 (v3 + v8)))] zS0 h17 (zQv zS0 K)
      refine r_iadd (pc := 156) (x := (h 42 (v3 + v8))) (y := x17) dX4_measure_156 ?_
      refine r_istore (pc := 157) (L' := [some (.ref 31), none, none, some (.int (zI v3)), none, some (.int (zI v5)), some (.int (zI v6)), some (.int (zI v7)), some (.int (zI v8)), some (.int (zI v9)), some (.int (zI v10)), some (.int (zI v11)), some (.int (zI ((v10 * 4) + v11))), some (.int (zI ((h 42 (v3 + v8)) + x17)))]) dX4_measure_157 (by decide) rfl ?_
      refine r_iload (pc := 159) (x := ((h 42 (v3 + v8)) + x17)) dX4_measure_159 rfl ?_
      refine r_aload_n (pc := 161) (a := 31) dX4_measure_161 rfl ?_
      refine r_getR (pc := 162) (b := 42) fl_X4_31 dX4_measure_162 s0_31 rfl ?_
      refine r_iload_n (pc := 165) (x := v3) dX4_measure_165 rfl ?_
      refine r_iload (pc := 166) (x := ((v10 * 4) + v11)) dX4_measure_166 rfl ?_
      refine r_iadd (pc := 168) (x := v3) (y := ((v10 * 4) + v11)) dX4_measure_168 ?_
      obtain ⟨hb18, w⟩ := w
      refine r_iald (pc := 169) (i := (v3 + ((v10 * 4) + v11))) (x := (h17 42 (v3 + ((v10 * 4) + v11)))) dX4_measure_169 s0_42 ⟨hb18.1, hb18.2, (by decide)⟩ (rfl) ?_
      obtain ⟨hr19, w⟩ := w
      obtain ⟨hr20, w⟩ := w
      refine r_icmp_ge (pc := 170) (x := ((h 42 (v3 + v8)) + x17)) (y := (h17 42 (v3 + ((v10 * 4) + v11)))) (tgt := 221) dX4_measure_170 (by decide) hr19 hr20 (fun c => ?_) (fun c => ?_)
      · have w := w.1 (c)
        refine r_iinc (pc := 221) (x := v11) (L' := [some (.ref 31), none, none, some (.int (zI v3)), none, some (.int (zI v5)), some (.int (zI v6)), some (.int (zI v7)), some (.int (zI v8)), some (.int (zI v9)), some (.int (zI v10)), some (.int (zI (v11 + 1))), some (.int (zI ((v10 * 4) + v11))), some (.int (zI ((h 42 (v3 + v8)) + x17)))]) dX4_measure_221 rfl (by decide) rfl ?_
        refine r_goto (pc := 224) (tgt := 119) dX4_measure_224 (by decide) ?_
        exact RR.sub (L' := [some (.ref 31), none, none, some (.int (zI v3)), none, some (.int (zI v5)), some (.int (zI v6)), some (.int (zI v7)), some (.int (zI v8)), some (.int (zI v9)), some (.int (zI v10)), some (.int (zI (v11 + 1))), none, none]) (zSb_of (⟨rfl, ⟨rfl, ⟨rfl, ⟨rfl, ⟨rfl, ⟨rfl, ⟨rfl, ⟨rfl, ⟨rfl, trivial⟩⟩⟩⟩⟩⟩⟩⟩⟩)) w
      · have w := w.2 (c)
        refine r_aload_n (pc := 173) (a := 31) dX4_measure_173 rfl ?_
        refine r_getR (pc := 174) (b := 42) fl_X4_31 dX4_measure_174 s0_31 rfl ?_
        refine r_iload_n (pc := 177) (x := v3) dX4_measure_177 rfl ?_
        refine r_iload (pc := 178) (x := ((v10 * 4) + v11)) dX4_measure_178 rfl ?_
        refine r_iadd (pc := 180) (x := v3) (y := ((v10 * 4) + v11)) dX4_measure_180 ?_
        refine r_iload (pc := 181) (x := ((h 42 (v3 + v8)) + x17)) dX4_measure_181 rfl ?_
        refine r_iast (pc := 183) (i := (v3 + ((v10 * 4) + v11))) (x := ((h 42 (v3 + v8)) + x17)) dX4_measure_183 s0_42 ⟨by omega, by omega, (by decide)⟩  ?_
        refine r_aload_n (pc := 184) (a := 31) dX4_measure_184 rfl ?_
        refine r_getR (pc := 185) (b := 45) fl_X4_40 dX4_measure_185 s0_31 rfl ?_
        refine r_iload (pc := 188) (x := ((v10 * 4) + v11)) dX4_measure_188 rfl ?_
        obtain ⟨hb21, w⟩ := w
        refine r_zald (pc := 190) (i := ((v10 * 4) + v11)) (x := (h17 45 ((v10 * 4) + v11))) dX4_measure_190 s0_45 ⟨hb21.1, hb21.2, (by decide)⟩ (zU_ne (by omega)) ?_
        obtain ⟨hr22, w⟩ := w
        refine r_if_ne (pc := 191) (x := (h17 45 ((v10 * 4) + v11))) (tgt := 221) dX4_measure_191 (by decide) hr22 (fun c => ?_) (fun c => ?_)
        · have w := w.1 (c)
          refine r_iinc (pc := 221) (x := v11) (L' := [some (.ref 31), none, none, some (.int (zI v3)), none, some (.int (zI v5)), some (.int (zI v6)), some (.int (zI v7)), some (.int (zI v8)), some (.int (zI v9)), some (.int (zI v10)), some (.int (zI (v11 + 1))), some (.int (zI ((v10 * 4) + v11))), some (.int (zI ((h 42 (v3 + v8)) + x17)))]) dX4_measure_221 rfl (by decide) rfl ?_
          refine r_goto (pc := 224) (tgt := 119) dX4_measure_224 (by decide) ?_
          exact RR.sub (L' := [some (.ref 31), none, none, some (.int (zI v3)), none, some (.int (zI v5)), some (.int (zI v6)), some (.int (zI v7)), some (.int (zI v8)), some (.int (zI v9)), some (.int (zI v10)), some (.int (zI (v11 + 1))), none, none]) (zSb_of (⟨rfl, ⟨rfl, ⟨rfl, ⟨rfl, ⟨rfl, ⟨rfl, ⟨rfl, ⟨rfl, ⟨rfl, trivial⟩⟩⟩⟩⟩⟩⟩⟩⟩)) w
        · have w := w.2 (c)
          refine r_aload_n (pc := 194) (a := 31) dX4_measure_194 rfl ?_
          refine r_getR (pc := 195) (b := 45) fl_X4_40 dX4_measure_195 s0_31 rfl ?_
          refine r_iload (pc := 198) (x := ((v10 * 4) + v11)) dX4_measure_198 rfl ?_
          refine r_iconst (pc := 200) dX4_measure_200 ?_
          refine r_zast (pc := 201) (i := ((v10 * 4) + v11)) (x := 1) dX4_measure_201 s0_45 ⟨by omega, by omega, (by decide)⟩ (by decide) ?_
          refine r_aload_n (pc := 202) (a := 31) dX4_measure_202 rfl ?_
          refine r_getR (pc := 203) (b := 44) fl_X4_37 dX4_measure_203 s0_31 rfl ?_
          refine r_iload (pc := 206) (x := v5) dX4_measure_206 rfl ?_
          refine r_iload (pc := 208) (x := v6) dX4_measure_208 rfl ?_
          refine r_iadd (pc := 210) (x := v5) (y := v6) dX4_measure_210 ?_
          refine r_sipush (pc := 211) (x := 144) dX4_measure_211 (by decide) ?_
          obtain ⟨hx23, w⟩ := w
          refine r_irem (pc := 214) (x := (v5 + v6)) (y := 144) dX4_measure_214 hx23 (by decide) ?_
          refine r_iload (pc := 215) (x := ((v10 * 4) + v11)) dX4_measure_215 rfl ?_
          obtain ⟨hb24, w⟩ := w
          refine r_iast (pc := 217) (i := ((v5 + v6) % 144)) (x := ((v10 * 4) + v11)) dX4_measure_217 s0_44 ⟨hb24.1, hb24.2, (by decide)⟩  ?_
          refine r_iinc (pc := 218) (x := v6) (L' := [some (.ref 31), none, none, some (.int (zI v3)), none, some (.int (zI v5)), some (.int (zI (v6 + 1))), some (.int (zI v7)), some (.int (zI v8)), some (.int (zI v9)), some (.int (zI v10)), some (.int (zI v11)), some (.int (zI ((v10 * 4) + v11))), some (.int (zI ((h 42 (v3 + v8)) + x17)))]) dX4_measure_218 rfl (by decide) rfl ?_
          refine r_iinc (pc := 221) (x := v11) (L' := [some (.ref 31), none, none, some (.int (zI v3)), none, some (.int (zI v5)), some (.int (zI (v6 + 1))), some (.int (zI v7)), some (.int (zI v8)), some (.int (zI v9)), some (.int (zI v10)), some (.int (zI (v11 + 1))), some (.int (zI ((v10 * 4) + v11))), some (.int (zI ((h 42 (v3 + v8)) + x17)))]) dX4_measure_221 rfl (by decide) rfl ?_
          refine r_goto (pc := 224) (tgt := 119) dX4_measure_224 (by decide) ?_
          exact RR.sub (L' := [some (.ref 31), none, none, some (.int (zI v3)), none, some (.int (zI v5)), some (.int (zI (v6 + 1))), some (.int (zI v7)), some (.int (zI v8)), some (.int (zI v9)), some (.int (zI v10)), some (.int (zI (v11 + 1))), none, none]) (zSb_of (⟨rfl, ⟨rfl, ⟨rfl, ⟨rfl, ⟨rfl, ⟨rfl, ⟨rfl, ⟨rfl, ⟨rfl, trivial⟩⟩⟩⟩⟩⟩⟩⟩⟩)) w

set_option maxRecDepth 100000 in
set_option maxHeartbeats 4000000 in
theorem wX4_weigh {h : zMm} {K : zMm → Prop} {v1 : Int} (w : RR mX4_weigh 0 0 2 [some (.ref 31), some (.int (zI v1)), some (.int (zI 0)), none, none] [] zS0 h (zQv zS0 K)) : zCv mX4_weigh [.ref 31, .int (zI v1)] zS0 h K := by
  show RR mX4_weigh 0 0 0 [some (.ref 31), some (.int (zI v1)), none, none, none] [] zS0 h (zQv zS0 K)
  refine r_iconst (pc := 0) dX4_weigh_0 ?_
  refine r_istore_n (pc := 1) (L' := [some (.ref 31), some (.int (zI v1)), some (.int (zI 0)), none, none]) dX4_weigh_1 (by decide) rfl ?_
  exact w

set_option maxRecDepth 100000 in
set_option maxHeartbeats 4000000 in
theorem bX4_weigh_2 {h : zMm} {K : zMm → Prop} {v1 : Int} {v2 : Int} (w : (zR v2 ∧ (zR (h 31 10) ∧ (((h 31 10) ≤ v2 → K h) ∧ (¬ (h 31 10) ≤ v2 → RR mX4_weigh 0 0 12 [some (.ref 31), some (.int (zI v1)), some (.int (zI v2)), some (.int (zI 0)), none] [] zS0 h (zQv zS0 K)))))) : RR mX4_weigh 0 0 2 [some (.ref 31), some (.int (zI v1)), some (.int (zI v2)), none, none] [] zS0 h (zQv zS0 K) := by
  refine r_iload_n (pc := 2) (x := v2) dX4_weigh_2 rfl ?_
  refine r_aload_n (pc := 3) (a := 31) dX4_weigh_3 rfl ?_
  refine r_getI (pc := 4) (fi := 10) (x := (h 31 10)) fl_X4_103 dX4_weigh_4 s0_31 rfl (rfl) ?_
  obtain ⟨hr1, w⟩ := w
  obtain ⟨hr2, w⟩ := w
  refine r_icmp_ge (pc := 7) (x := v2) (y := (h 31 10)) (tgt := 72) dX4_weigh_7 (by decide) hr1 hr2 (fun c => ?_) (fun c => ?_)
  · have w := w.1 (c)
    exact r_ret (st := []) (pc := 72) dX4_weigh_72 rfl rfl (by decide) ⟨rfl, rfl, w⟩
  · have w := w.2 (c)
    refine r_iconst (pc := 10) dX4_weigh_10 ?_
    refine r_istore_n (pc := 11) (L' := [some (.ref 31), some (.int (zI v1)), some (.int (zI v2)), some (.int (zI 0)), none]) dX4_weigh_11 (by decide) rfl ?_
    exact w

set_option maxRecDepth 100000 in
set_option maxHeartbeats 4000000 in
theorem bX4_weigh_12 {h : zMm} {K : zMm → Prop} {v1 : Int} {v2 : Int} {v3 : Int} (w : (zR v3 ∧ (zR ((iSr v1 v2) % 2) ∧ ((4 ≤ v3 → RR mX4_weigh 0 0 2 [some (.ref 31), some (.int (zI v1)), some (.int (zI (v2 + 1))), none, none] [] zS0 h (zQv zS0 K)) ∧ (¬ 4 ≤ v3 → ((¬ ((iSr v1 v2) % 2) = 1 → RR mX4_weigh 0 0 2 [some (.ref 31), some (.int (zI v1)), some (.int (zI (v2 + 1))), none, none] [] zS0 h (zQv zS0 K)) ∧ (((iSr v1 v2) % 2) = 1 → ((0 ≤ v2 ∧ v2 < 7) ∧ zCi mX4_minutesFrom [.ref 31, .int (zI (((h 41 v2) * 4) + v3)), .int (zI v1)] zS0 h (fun x8 h8 => ((0 ≤ (((v1 * 28) + (v2 * 4)) + v3) ∧ (((v1 * 28) + (v2 * 4)) + v3) < 3584) ∧ RR mX4_weigh 0 0 12 [some (.ref 31), some (.int (zI v1)), some (.int (zI v2)), some (.int (zI (v3 + 1))), none] [] zS0 (zU h8 43 (((v1 * 28) + (v2 * 4)) + v3) x8) (zQv zS0 K))))))))))) : RR mX4_weigh 0 0 12 [some (.ref 31), some (.int (zI v1)), some (.int (zI v2)), some (.int (zI v3)), none] [] zS0 h (zQv zS0 K) := by
  refine r_iload_n (pc := 12) (x := v3) dX4_weigh_12 rfl ?_
  refine r_iconst (pc := 13) dX4_weigh_13 ?_
  obtain ⟨hr3, w⟩ := w
  obtain ⟨hr5, w⟩ := w
  refine r_icmp_ge (pc := 14) (x := v3) (y := 4) (tgt := 66) dX4_weigh_14 (by decide) hr3 (by decide) (fun c => ?_) (fun c => ?_)
  · have w := w.1 (c)
    refine r_iinc (pc := 66) (x := v2) (L' := [some (.ref 31), some (.int (zI v1)), some (.int (zI (v2 + 1))), some (.int (zI v3)), none]) dX4_weigh_66 rfl (by decide) rfl ?_
    refine r_goto (pc := 69) (tgt := 2) dX4_weigh_69 (by decide) ?_
    exact RR.sub (L' := [some (.ref 31), some (.int (zI v1)), some (.int (zI (v2 + 1))), none, none]) (zSb_of (⟨rfl, ⟨rfl, ⟨rfl, trivial⟩⟩⟩)) w
  · have w := w.2 (c)
    refine r_iload_n (pc := 17) (x := v1) dX4_weigh_17 rfl ?_
    refine r_iload_n (pc := 18) (x := v2) dX4_weigh_18 rfl ?_
    refine r_ishr (pc := 19) (x := v1) (y := v2) dX4_weigh_19 ?_
    refine r_iconst (pc := 20) dX4_weigh_20 ?_
    refine r_iandM (pc := 21) (x := (iSr v1 v2)) (y := 1) (z := ((iSr v1 v2) % 2)) dX4_weigh_21 (zI_mask _ 1 (by decide)) ?_
    refine r_iconst (pc := 22) dX4_weigh_22 ?_
    refine r_icmp_ne (pc := 23) (x := ((iSr v1 v2) % 2)) (y := 1) (tgt := 66) dX4_weigh_23 (by decide) hr5 (by decide) (fun c => ?_) (fun c => ?_)
    · have w := w.1 (c)
      refine r_iinc (pc := 66) (x := v2) (L' := [some (.ref 31), some (.int (zI v1)), some (.int (zI (v2 + 1))), some (.int (zI v3)), none]) dX4_weigh_66 rfl (by decide) rfl ?_
      refine r_goto (pc := 69) (tgt := 2) dX4_weigh_69 (by decide) ?_
      exact RR.sub (L' := [some (.ref 31), some (.int (zI v1)), some (.int (zI (v2 + 1))), none, none]) (zSb_of (⟨rfl, ⟨rfl, ⟨rfl, trivial⟩⟩⟩)) w
    · have w := w.2 (c)
      refine r_aload_n (pc := 26) (a := 31) dX4_weigh_26 rfl ?_
      refine r_getR (pc := 27) (b := 41) fl_X4_28 dX4_weigh_27 s0_31 rfl ?_
      refine r_iload_n (pc := 30) (x := v2) dX4_weigh_30 rfl ?_
      obtain ⟨hb7, w⟩ := w
      refine r_iald (pc := 31) (i := v2) (x := (h 41 v2)) dX4_weigh_31 s0_41 ⟨hb7.1, hb7.2, (by decide)⟩ (rfl) ?_
      refine r_iconst (pc := 32) dX4_weigh_32 ?_
      refine r_imul (pc := 33) (x := (h 41 v2)) (y := 4) dX4_weigh_33 ?_
      refine r_iload_n (pc := 34) (x := v3) dX4_weigh_34 rfl ?_
      refine r_iadd (pc := 35) (x := ((h 41 v2) * 4)) (y := v3) dX4_weigh_35 ?_
      refine r_istore (pc := 36) (L' := [some (.ref 31), some (.int (zI v1)), some (.int (zI v2)), some (.int (zI v3)), some (.int (zI (((h 41 v2) * 4) + v3)))]) dX4_weigh_36 (by decide) rfl ?_
      refine r_aload_n (pc := 38) (a := 31) dX4_weigh_38 rfl ?_
      refine r_getR (pc := 39) (b := 43) fl_X4_34 dX4_weigh_39 s0_31 rfl ?_
      refine r_iload_n (pc := 42) (x := v1) dX4_weigh_42 rfl ?_
      refine r_bipush (pc := 43) (x := 28) dX4_weigh_43 (by decide) ?_
      refine r_imul (pc := 45) (x := v1) (y := 28) dX4_weigh_45 ?_
      refine r_iload_n (pc := 46) (x := v2) dX4_weigh_46 rfl ?_
      refine r_iconst (pc := 47) dX4_weigh_47 ?_
      refine r_imul (pc := 48) (x := v2) (y := 4) dX4_weigh_48 ?_
      refine r_iadd (pc := 49) (x := (v1 * 28)) (y := (v2 * 4)) dX4_weigh_49 ?_
      refine r_iload_n (pc := 50) (x := v3) dX4_weigh_50 rfl ?_
      refine r_iadd (pc := 51) (x := ((v1 * 28) + (v2 * 4))) (y := v3) dX4_weigh_51 ?_
      refine r_aload_n (pc := 52) (a := 31) dX4_weigh_52 rfl ?_
      refine r_iload (pc := 53) (x := (((h 41 v2) * 4) + v3)) dX4_weigh_53 rfl ?_
      refine r_iload_n (pc := 55) (x := v1) dX4_weigh_55 rfl ?_
      refine r_callV (μ2 := mX4_minutesFrom) (pc := 56) (as := [.int (zI (((h 41 v2) * 4) + v3)), .int (zI v1)]) (st := [.int (zI (((v1 * 28) + (v2 * 4)) + v3)), .ref 43]) rfl s0_31 ml_X4_125 im_X4_minutesFrom se_X4_minutesFrom okX4_minutesFrom ⟨by decide, by decide⟩ dX4_weigh_56 (Nat.le_of_ble_eq_true rfl) rfl (Nat.le_of_ble_eq_true rfl) (by decide) (by decide) (zCC.mono w ?_)
      rintro r S' h8 ⟨rfl, x8, hr, w⟩
      subst hr
      show RR mX4_weigh 0 0 59 [some (.ref 31), some (.int (zI v1)), some (.int (zI v2)), some (.int (zI v3)), some (.int (zI (((h 41 v2) * 4) + v3)))] [.int (zI x8), .int (zI (((v1 * 28) + (v2 * 4)) + v3)), .ref 43] zS0 h8 (zQv zS0 K)
      obtain ⟨hb9, w⟩ := w
      refine r_iast (pc := 59) (i := (((v1 * 28) + (v2 * 4)) + v3)) (x := x8) dX4_weigh_59 s0_43 ⟨hb9.1, hb9.2, (by decide)⟩  ?_
      refine r_iinc (pc := 60) (x := v3) (L' := [some (.ref 31), some (.int (zI v1)), some (.int (zI v2)), some (.int (zI (v3 + 1))), some (.int (zI (((h 41 v2) * 4) + v3)))]) dX4_weigh_60 rfl (by decide) rfl ?_
      refine r_goto (pc := 63) (tgt := 12) dX4_weigh_63 (by decide) ?_
      exact RR.sub (L' := [some (.ref 31), some (.int (zI v1)), some (.int (zI v2)), some (.int (zI (v3 + 1))), none]) (zSb_of (⟨rfl, ⟨rfl, ⟨rfl, ⟨rfl, trivial⟩⟩⟩⟩)) w

set_option maxRecDepth 100000 in
set_option maxHeartbeats 4000000 in
theorem wX4_minutesWith {h : zMm} {K : Int → zMm → Prop} {v2 : Int} (w : zCv mX3_takeAll [.ref 32, .ref 10] zS0 h (fun h1 => zCb mX11_isCell [.int (zI v2)] zS0 h1 (fun b2 h2 => ((b2 = false → zCv mX4_chart [.ref 31] zS0 h2 (fun h3 => RR mX4_minutesWith 0 0 31 [some (.ref 31), none, none, some (.int (zI 0)), none] [] zS0 h3 (zQi zS0 K))) ∧ (b2 = true → ((0 ≤ v2 ∧ v2 < 36) ∧ zCv mX4_chart [.ref 31] zS0 (zU h2 33 v2 3) (fun h5 => RR mX4_minutesWith 0 0 31 [some (.ref 31), none, none, some (.int (zI 0)), none] [] zS0 h5 (zQi zS0 K)))))))) : zCi mX4_minutesWith [.ref 31, .ref 10, .int (zI v2)] zS0 h K := by
  show RR mX4_minutesWith 0 0 0 [some (.ref 31), some (.ref 10), some (.int (zI v2)), none, none] [] zS0 h (zQi zS0 K)
  refine r_aload_n (pc := 0) (a := 31) dX4_minutesWith_0 rfl ?_
  refine r_getR (pc := 1) (b := 32) fl_X4_12 dX4_minutesWith_1 s0_31 rfl ?_
  refine r_aload_n (pc := 4) (a := 10) dX4_minutesWith_4 rfl ?_
  refine r_callV (μ2 := mX3_takeAll) (pc := 5) (as := [.ref 10]) (st := []) rfl s0_32 ml_X4_90 im_X3_takeAll se_X3_takeAll okX3_takeAll ⟨by decide, by decide⟩ dX4_minutesWith_5 (Nat.le_of_ble_eq_true rfl) rfl (Nat.le_of_ble_eq_true rfl) (by decide) (by decide) (zCC.mono w ?_)
  rintro r S' h1 ⟨rfl, hr, w⟩
  subst hr
  show RR mX4_minutesWith 0 0 8 [some (.ref 31), some (.ref 10), some (.int (zI v2)), none, none] [] zS0 h1 (zQi zS0 K)
  refine r_iload_n (pc := 8) (x := v2) dX4_minutesWith_8 rfl ?_
  refine r_callSN (μ2 := mX11_isCell) (pc := 9) (as := [.int (zI v2)]) (st := []) mn_X4_94 sm_X11_isCell okX11_isCell ⟨by decide, by decide⟩ dX4_minutesWith_9 (Nat.le_of_ble_eq_true rfl) rfl (Nat.le_of_ble_eq_true rfl) (by decide) (by decide) (zCC.mono w ?_)
  rintro r S' h2 ⟨rfl, b2, hr, w⟩
  subst hr
  show RR mX4_minutesWith 0 0 12 [some (.ref 31), some (.ref 10), some (.int (zI v2)), none, none] [.int (zI (bI b2))] zS0 h2 (zQi zS0 K)
  refine r_if_eq (pc := 12) (x := (bI b2)) (tgt := 25) dX4_minutesWith_12 (by decide) (bI_R _) (fun c => ?_) (fun c => ?_)
  · have w := w.1 (bI_0.mp c)
    refine r_aload_n (pc := 25) (a := 31) dX4_minutesWith_25 rfl ?_
    refine r_callV (μ2 := mX4_chart) (pc := 26) (as := []) (st := []) rfl s0_31 ml_X4_100 im_X4_chart se_X4_chart okX4_chart ⟨by decide, by decide⟩ dX4_minutesWith_26 (Nat.le_of_ble_eq_true rfl) rfl (Nat.le_of_ble_eq_true rfl) (by decide) (by decide) (zCC.mono w ?_)
    rintro r S' h3 ⟨rfl, hr, w⟩
    subst hr
    show RR mX4_minutesWith 0 0 29 [some (.ref 31), some (.ref 10), some (.int (zI v2)), none, none] [] zS0 h3 (zQi zS0 K)
    refine r_iconst (pc := 29) dX4_minutesWith_29 ?_
    refine r_istore_n (pc := 30) (L' := [some (.ref 31), some (.ref 10), some (.int (zI v2)), some (.int (zI 0)), none]) dX4_minutesWith_30 (by decide) rfl ?_
    exact RR.sub (L' := [some (.ref 31), none, none, some (.int (zI 0)), none]) (zSb_of (⟨rfl, ⟨rfl, trivial⟩⟩)) w
  · have w := w.2 (bI_n.mp c)
    refine r_aload_n (pc := 15) (a := 31) dX4_minutesWith_15 rfl ?_
    refine r_getR (pc := 16) (b := 32) fl_X4_12 dX4_minutesWith_16 s0_31 rfl ?_
    refine r_getR (pc := 19) (b := 33) fl_X4_97 dX4_minutesWith_19 s0_32 rfl ?_
    refine r_iload_n (pc := 22) (x := v2) dX4_minutesWith_22 rfl ?_
    refine r_iconst (pc := 23) dX4_minutesWith_23 ?_
    obtain ⟨hb4, w⟩ := w
    refine r_iast (pc := 24) (i := v2) (x := 3) dX4_minutesWith_24 s0_33 ⟨hb4.1, hb4.2, (by decide)⟩  ?_
    refine r_aload_n (pc := 25) (a := 31) dX4_minutesWith_25 rfl ?_
    refine r_callV (μ2 := mX4_chart) (pc := 26) (as := []) (st := []) rfl s0_31 ml_X4_100 im_X4_chart se_X4_chart okX4_chart ⟨by decide, by decide⟩ dX4_minutesWith_26 (Nat.le_of_ble_eq_true rfl) rfl (Nat.le_of_ble_eq_true rfl) (by decide) (by decide) (zCC.mono w ?_)
    rintro r S' h5 ⟨rfl, hr, w⟩
    subst hr
    show RR mX4_minutesWith 0 0 29 [some (.ref 31), some (.ref 10), some (.int (zI v2)), none, none] [] zS0 h5 (zQi zS0 K)
    refine r_iconst (pc := 29) dX4_minutesWith_29 ?_
    refine r_istore_n (pc := 30) (L' := [some (.ref 31), some (.ref 10), some (.int (zI v2)), some (.int (zI 0)), none]) dX4_minutesWith_30 (by decide) rfl ?_
    exact RR.sub (L' := [some (.ref 31), none, none, some (.int (zI 0)), none]) (zSb_of (⟨rfl, ⟨rfl, trivial⟩⟩)) w

set_option maxRecDepth 100000 in
set_option maxHeartbeats 4000000 in
theorem bX4_minutesWith_31 {h : zMm} {K : Int → zMm → Prop} {v3 : Int} (w : (zR v3 ∧ (zR (h 31 10) ∧ (((h 31 10) ≤ v3 → zCi mX4_seenAtFirst [.ref 31] zS0 h (fun x8 h8 => RR mX4_minutesWith 0 0 78 [some (.ref 31), none, none, some (.int (zI x8)), some (.int (zI (h8 31 11)))] [] zS0 h8 (zQi zS0 K))) ∧ (¬ (h 31 10) ≤ v3 → RR mX4_minutesWith 0 0 42 [some (.ref 31), none, none, some (.int (zI v3)), some (.int (zI 0))] [] zS0 h (zQi zS0 K)))))) : RR mX4_minutesWith 0 0 31 [some (.ref 31), none, none, some (.int (zI v3)), none] [] zS0 h (zQi zS0 K) := by
  refine r_iload_n (pc := 31) (x := v3) dX4_minutesWith_31 rfl ?_
  refine r_aload_n (pc := 32) (a := 31) dX4_minutesWith_32 rfl ?_
  refine r_getI (pc := 33) (fi := 10) (x := (h 31 10)) fl_X4_103 dX4_minutesWith_33 s0_31 rfl (rfl) ?_
  obtain ⟨hr6, w⟩ := w
  obtain ⟨hr7, w⟩ := w
  refine r_icmp_ge (pc := 36) (x := v3) (y := (h 31 10)) (tgt := 67) dX4_minutesWith_36 (by decide) hr6 hr7 (fun c => ?_) (fun c => ?_)
  · have w := w.1 (c)
    refine r_aload_n (pc := 67) (a := 31) dX4_minutesWith_67 rfl ?_
    refine r_callV (μ2 := mX4_seenAtFirst) (pc := 68) (as := []) (st := []) rfl s0_31 ml_X4_110 im_X4_seenAtFirst se_X4_seenAtFirst okX4_seenAtFirst ⟨by decide, by decide⟩ dX4_minutesWith_68 (Nat.le_of_ble_eq_true rfl) rfl (Nat.le_of_ble_eq_true rfl) (by decide) (by decide) (zCC.mono w ?_)
    rintro r S' h8 ⟨rfl, x8, hr, w⟩
    subst hr
    show RR mX4_minutesWith 0 0 71 [some (.ref 31), none, none, some (.int (zI v3)), none] [.int (zI x8)] zS0 h8 (zQi zS0 K)
    refine r_istore_n (pc := 71) (L' := [some (.ref 31), none, none, some (.int (zI x8)), none]) dX4_minutesWith_71 (by decide) rfl ?_
    refine r_aload_n (pc := 72) (a := 31) dX4_minutesWith_72 rfl ?_
    refine r_getI (pc := 73) (fi := 11) (x := (h8 31 11)) fl_X4_114 dX4_minutesWith_73 s0_31 rfl (rfl) ?_
    refine r_istore (pc := 76) (L' := [some (.ref 31), none, none, some (.int (zI x8)), some (.int (zI (h8 31 11)))]) dX4_minutesWith_76 (by decide) rfl ?_
    exact w
  · have w := w.2 (c)
    refine r_iconst (pc := 39) dX4_minutesWith_39 ?_
    refine r_istore (pc := 40) (L' := [some (.ref 31), none, none, some (.int (zI v3)), some (.int (zI 0))]) dX4_minutesWith_40 (by decide) rfl ?_
    exact w

set_option maxRecDepth 100000 in
set_option maxHeartbeats 4000000 in
theorem bX4_minutesWith_42 {h : zMm} {K : Int → zMm → Prop} {v3 : Int} {v4 : Int} (w : (zR v4 ∧ ((4 ≤ v4 → RR mX4_minutesWith 0 0 31 [some (.ref 31), none, none, some (.int (zI (v3 + 1))), none] [] zS0 h (zQi zS0 K)) ∧ (¬ 4 ≤ v4 → zCv mX4_measure [.ref 31, .int (zI v3), .int (zI v4)] zS0 h (fun h10 => RR mX4_minutesWith 0 0 42 [some (.ref 31), none, none, some (.int (zI v3)), some (.int (zI (v4 + 1)))] [] zS0 h10 (zQi zS0 K)))))) : RR mX4_minutesWith 0 0 42 [some (.ref 31), none, none, some (.int (zI v3)), some (.int (zI v4))] [] zS0 h (zQi zS0 K) := by
  refine r_iload (pc := 42) (x := v4) dX4_minutesWith_42 rfl ?_
  refine r_iconst (pc := 44) dX4_minutesWith_44 ?_
  obtain ⟨hr9, w⟩ := w
  refine r_icmp_ge (pc := 45) (x := v4) (y := 4) (tgt := 61) dX4_minutesWith_45 (by decide) hr9 (by decide) (fun c => ?_) (fun c => ?_)
  · have w := w.1 (c)
    refine r_iinc (pc := 61) (x := v3) (L' := [some (.ref 31), none, none, some (.int (zI (v3 + 1))), some (.int (zI v4))]) dX4_minutesWith_61 rfl (by decide) rfl ?_
    refine r_goto (pc := 64) (tgt := 31) dX4_minutesWith_64 (by decide) ?_
    exact RR.sub (L' := [some (.ref 31), none, none, some (.int (zI (v3 + 1))), none]) (zSb_of (⟨rfl, ⟨rfl, trivial⟩⟩)) w
  · have w := w.2 (c)
    refine r_aload_n (pc := 48) (a := 31) dX4_minutesWith_48 rfl ?_
    refine r_iload_n (pc := 49) (x := v3) dX4_minutesWith_49 rfl ?_
    refine r_iload (pc := 50) (x := v4) dX4_minutesWith_50 rfl ?_
    refine r_callV (μ2 := mX4_measure) (pc := 52) (as := [.int (zI v3), .int (zI v4)]) (st := []) rfl s0_31 ml_X4_106 im_X4_measure se_X4_measure okX4_measure ⟨by decide, by decide⟩ dX4_minutesWith_52 (Nat.le_of_ble_eq_true rfl) rfl (Nat.le_of_ble_eq_true rfl) (by decide) (by decide) (zCC.mono w ?_)
    rintro r S' h10 ⟨rfl, hr, w⟩
    subst hr
    show RR mX4_minutesWith 0 0 55 [some (.ref 31), none, none, some (.int (zI v3)), some (.int (zI v4))] [] zS0 h10 (zQi zS0 K)
    refine r_iinc (pc := 55) (x := v4) (L' := [some (.ref 31), none, none, some (.int (zI v3)), some (.int (zI (v4 + 1)))]) dX4_minutesWith_55 rfl (by decide) rfl ?_
    refine r_goto (pc := 58) (tgt := 42) dX4_minutesWith_58 (by decide) ?_
    exact w

set_option maxRecDepth 100000 in
set_option maxHeartbeats 4000000 in
theorem bX4_minutesWith_78 {h : zMm} {K : Int → zMm → Prop} {v3 : Int} {v4 : Int} (w : (zR v4 ∧ (zR (iA v4 v3) ∧ (zR v3 ∧ ((v4 < 0 → zCi mX3_told [.ref 32, .int (zI 0)] zS0 h (fun x17 h17 => zCi mX4_minutesFrom [.ref 31, .int (zI ((x17 * 4) + 0)), .int (zI v3)] zS0 h17 (fun x18 h18 => K x18 h18))) ∧ (¬ v4 < 0 → ((¬ (iA v4 v3) = v3 → RR mX4_minutesWith 0 0 78 [some (.ref 31), none, none, some (.int (zI v3)), some (.int (zI (v4 + (-1))))] [] zS0 h (zQi zS0 K)) ∧ ((iA v4 v3) = v3 → zCv mX4_weigh [.ref 31, .int (zI v4)] zS0 h (fun h19 => RR mX4_minutesWith 0 0 78 [some (.ref 31), none, none, some (.int (zI v3)), some (.int (zI (v4 + (-1))))] [] zS0 h19 (zQi zS0 K)))))))))) : RR mX4_minutesWith 0 0 78 [some (.ref 31), none, none, some (.int (zI v3)), some (.int (zI v4))] [] zS0 h (zQi zS0 K) := by
  refine r_iload (pc := 78) (x := v4) dX4_minutesWith_78 rfl ?_
  obtain ⟨hr11, w⟩ := w
  obtain ⟨hr13, w⟩ := w
  obtain ⟨hr15, w⟩ := w
  refine r_if_lt (pc := 80) (x := v4) (tgt := 103) dX4_minutesWith_80 (by decide) hr11 (fun c => ?_) (fun c => ?_)
  · have w := w.1 (c)
    refine r_aload_n (pc := 103) (a := 31) dX4_minutesWith_103 rfl ?_
    refine r_aload_n (pc := 104) (a := 31) dX4_minutesWith_104 rfl ?_
    refine r_getR (pc := 105) (b := 32) fl_X4_12 dX4_minutesWith_105 s0_31 rfl ?_
    refine r_iconst (pc := 108) dX4_minutesWith_108 ?_
    refine r_callV (μ2 := mX3_told) (pc := 109) (as := [.int (zI 0)]) (st := [.ref 31]) rfl s0_32 ml_X4_121 im_X3_told se_X3_told okX3_told ⟨by decide, by decide⟩ dX4_minutesWith_109 (Nat.le_of_ble_eq_true rfl) rfl (Nat.le_of_ble_eq_true rfl) (by decide) (by decide) (zCC.mono w ?_)
    rintro r S' h17 ⟨rfl, x17, hr, w⟩
    subst hr
    show RR mX4_minutesWith 0 0 112 [some (.ref 31), none, none, some (.int (zI v3)), some (.int (zI v4))] [.int (zI x17), .ref 31] zS0 h17 (zQi zS0 K)
    refine r_iconst (pc := 112) dX4_minutesWith_112 ?_
    refine r_imul (pc := 113) (x := x17) (y := 4) dX4_minutesWith_113 ?_
    refine r_iconst (pc := 114) dX4_minutesWith_114 ?_
    refine r_iadd (pc := 115) (x := (x17 * 4)) (y := 0) dX4_minutesWith_115 ?_
    refine r_iload_n (pc := 116) (x := v3) dX4_minutesWith_116 rfl ?_
    refine r_callV (μ2 := mX4_minutesFrom) (pc := 117) (as := [.int (zI ((x17 * 4) + 0)), .int (zI v3)]) (st := []) rfl s0_31 ml_X4_125 im_X4_minutesFrom se_X4_minutesFrom okX4_minutesFrom ⟨by decide, by decide⟩ dX4_minutesWith_117 (Nat.le_of_ble_eq_true rfl) rfl (Nat.le_of_ble_eq_true rfl) (by decide) (by decide) (zCC.mono w ?_)
    rintro r S' h18 ⟨rfl, x18, hr, w⟩
    subst hr
    show RR mX4_minutesWith 0 0 120 [some (.ref 31), none, none, some (.int (zI v3)), some (.int (zI v4))] [.int (zI x18)] zS0 h18 (zQi zS0 K)
    exact r_iret (st := []) (pc := 120) (x := x18) (ty := .int) dX4_minutesWith_120 rfl rfl rfl (by decide) ⟨rfl, _, rfl, w⟩
  · have w := w.2 (c)
    refine r_iload (pc := 83) (x := v4) dX4_minutesWith_83 rfl ?_
    refine r_iload_n (pc := 85) (x := v3) dX4_minutesWith_85 rfl ?_
    refine r_iand (pc := 86) (x := v4) (y := v3) dX4_minutesWith_86 ?_
    refine r_iload_n (pc := 87) (x := v3) dX4_minutesWith_87 rfl ?_
    refine r_icmp_ne (pc := 88) (x := (iA v4 v3)) (y := v3) (tgt := 97) dX4_minutesWith_88 (by decide) hr13 hr15 (fun c => ?_) (fun c => ?_)
    · have w := w.1 (c)
      refine r_iinc (pc := 97) (x := v4) (L' := [some (.ref 31), none, none, some (.int (zI v3)), some (.int (zI (v4 + (-1))))]) dX4_minutesWith_97 rfl (by decide) rfl ?_
      refine r_goto (pc := 100) (tgt := 78) dX4_minutesWith_100 (by decide) ?_
      exact w
    · have w := w.2 (c)
      refine r_aload_n (pc := 91) (a := 31) dX4_minutesWith_91 rfl ?_
      refine r_iload (pc := 92) (x := v4) dX4_minutesWith_92 rfl ?_
      refine r_callV (μ2 := mX4_weigh) (pc := 94) (as := [.int (zI v4)]) (st := []) rfl s0_31 ml_X4_117 im_X4_weigh se_X4_weigh okX4_weigh ⟨by decide, by decide⟩ dX4_minutesWith_94 (Nat.le_of_ble_eq_true rfl) rfl (Nat.le_of_ble_eq_true rfl) (by decide) (by decide) (zCC.mono w ?_)
      rintro r S' h19 ⟨rfl, hr, w⟩
      subst hr
      show RR mX4_minutesWith 0 0 97 [some (.ref 31), none, none, some (.int (zI v3)), some (.int (zI v4))] [] zS0 h19 (zQi zS0 K)
      refine r_iinc (pc := 97) (x := v4) (L' := [some (.ref 31), none, none, some (.int (zI v3)), some (.int (zI (v4 + (-1))))]) dX4_minutesWith_97 rfl (by decide) rfl ?_
      refine r_goto (pc := 100) (tgt := 78) dX4_minutesWith_100 (by decide) ?_
      exact w

set_option maxRecDepth 100000 in
set_option maxHeartbeats 4000000 in
theorem wX4_seek {h : zMm} {K : zMm → Prop} (w : (zR (h 31 13) ∧ (((h 31 13) = 0 → zCi mX4_minutesWith [.ref 31, .ref 10, .int (zI (-4))] zS0 h (fun x2 h2 => zCv mX4_follow [.ref 31] zS0 (zU h2 31 15 x2) (fun h3 => K (zU h3 31 13 1)))) ∧ (¬ (h 31 13) = 0 → K h)))) : zCv mX4_seek [.ref 31, .ref 10] zS0 h K := by
  show RR mX4_seek 0 0 0 [some (.ref 31), some (.ref 10)] [] zS0 h (zQv zS0 K)
  refine r_aload_n (pc := 0) (a := 31) dX4_seek_0 rfl ?_
  refine r_getI (pc := 1) (fi := 13) (x := (h 31 13)) fl_X4_47 dX4_seek_1 s0_31 rfl (rfl) ?_
  obtain ⟨hr1, w⟩ := w
  refine r_if_eq (pc := 4) (x := (h 31 13)) (tgt := 8) dX4_seek_4 (by decide) hr1 (fun c => ?_) (fun c => ?_)
  · have w := w.1 (c)
    refine r_aload_n (pc := 8) (a := 31) dX4_seek_8 rfl ?_
    refine r_aload_n (pc := 9) (a := 31) dX4_seek_9 rfl ?_
    refine r_aload_n (pc := 10) (a := 10) dX4_seek_10 rfl ?_
    refine r_bipush (pc := 11) (x := (-4)) dX4_seek_11 (by decide) ?_
    refine r_callV (μ2 := mX4_minutesWith) (pc := 13) (as := [.ref 10, .int (zI (-4))]) (st := [.ref 31]) rfl s0_31 ml_X4_66 im_X4_minutesWith se_X4_minutesWith okX4_minutesWith ⟨by decide, by decide⟩ dX4_seek_13 (Nat.le_of_ble_eq_true rfl) rfl (Nat.le_of_ble_eq_true rfl) (by decide) (by decide) (zCC.mono w ?_)
    rintro r S' h2 ⟨rfl, x2, hr, w⟩
    subst hr
    show RR mX4_seek 0 0 16 [some (.ref 31), some (.ref 10)] [.int (zI x2), .ref 31] zS0 h2 (zQv zS0 K)
    refine r_putI (pc := 16) (fi := 15) (x := x2) fl_X4_54 dX4_seek_16 s0_31 rfl ?_
    refine r_aload_n (pc := 19) (a := 31) dX4_seek_19 rfl ?_
    refine r_callV (μ2 := mX4_follow) (pc := 20) (as := []) (st := []) rfl s0_31 ml_X4_70 im_X4_follow se_X4_follow okX4_follow ⟨by decide, by decide⟩ dX4_seek_20 (Nat.le_of_ble_eq_true rfl) rfl (Nat.le_of_ble_eq_true rfl) (by decide) (by decide) (zCC.mono w ?_)
    rintro r S' h3 ⟨rfl, hr, w⟩
    subst hr
    show RR mX4_seek 0 0 23 [some (.ref 31), some (.ref 10)] [] zS0 h3 (zQv zS0 K)
    refine r_aload_n (pc := 23) (a := 31) dX4_seek_23 rfl ?_
    refine r_iconst (pc := 24) dX4_seek_24 ?_
    refine r_putZ (pc := 25) (fi := 13) (x := 1) fl_X4_47 dX4_seek_25 s0_31 rfl (by decide) ?_
    exact r_ret (st := []) (pc := 28) dX4_seek_28 rfl rfl (by decide) ⟨rfl, rfl, w⟩
  · have w := w.2 (c)
    exact r_ret (st := []) (pc := 7) dX4_seek_7 rfl rfl (by decide) ⟨rfl, rfl, w⟩

set_option maxRecDepth 100000 in
set_option maxHeartbeats 4000000 in
theorem wX4_costOf {h : zMm} {K : Int → zMm → Prop} {v2 : Int} (w : RR mX4_costOf 0 0 5 [some (.ref 31), some (.ref 10), some (.int (zI v2)), some (.int (zI 0)), some (.int (zI 0))] [] zS0 h (zQi zS0 K)) : zCi mX4_costOf [.ref 31, .ref 10, .int (zI v2)] zS0 h K := by
  show RR mX4_costOf 0 0 0 [some (.ref 31), some (.ref 10), some (.int (zI v2)), none, none] [] zS0 h (zQi zS0 K)
  refine r_iconst (pc := 0) dX4_costOf_0 ?_
  refine r_istore_n (pc := 1) (L' := [some (.ref 31), some (.ref 10), some (.int (zI v2)), some (.int (zI 0)), none]) dX4_costOf_1 (by decide) rfl ?_
  refine r_iconst (pc := 2) dX4_costOf_2 ?_
  refine r_istore (pc := 3) (L' := [some (.ref 31), some (.ref 10), some (.int (zI v2)), some (.int (zI 0)), some (.int (zI 0))]) dX4_costOf_3 (by decide) rfl ?_
  exact w

set_option maxRecDepth 100000 in
set_option maxHeartbeats 4000000 in
theorem bX4_costOf_5 {h : zMm} {K : Int → zMm → Prop} {v2 : Int} {v3 : Int} {v4 : Int} (w : (zR v4 ∧ ((4 ≤ v4 → (zR v3 ∧ ((2 ≤ v3 → zCi mX4_minutesWith [.ref 31, .ref 10, .int (zI v2)] zS0 h (fun x3 h3 => K ((h 31 15) - x3) h3)) ∧ (¬ 2 ≤ v3 → K 0 h)))) ∧ (¬ 4 ≤ v4 → zCi mX3_ahead [.ref 10, .int (zI v2), .int (zI v4)] zS0 h (fun x4 h4 => (zR x4 ∧ RR mX4_costOf 0 0 5 [some (.ref 31), some (.ref 10), some (.int (zI v2)), some (.int (zI (v3 + (bI (if x4 < 0 then false else true))))), some (.int (zI (v4 + 1)))] [] zS0 h4 (zQi zS0 K))))))) : RR mX4_costOf 0 0 5 [some (.ref 31), some (.ref 10), some (.int (zI v2)), some (.int (zI v3)), some (.int (zI v4))] [] zS0 h (zQi zS0 K) := by
  refine r_iload (pc := 5) (x := v4) dX4_costOf_5 rfl ?_
  refine r_iconst (pc := 7) dX4_costOf_7 ?_
  obtain ⟨hr1, w⟩ := w
  refine r_icmp_ge (pc := 8) (x := v4) (y := 4) (tgt := 35) dX4_costOf_8 (by decide) hr1 (by decide) (fun c => ?_) (fun c => ?_)
  · have w := w.1 (c)
    refine r_iload_n (pc := 35) (x := v3) dX4_costOf_35 rfl ?_
    refine r_iconst (pc := 36) dX4_costOf_36 ?_
    obtain ⟨hr2, w⟩ := w
    refine r_icmp_ge (pc := 37) (x := v3) (y := 2) (tgt := 44) dX4_costOf_37 (by decide) hr2 (by decide) (fun c => ?_) (fun c => ?_)
    · have w := w.1 (c)
      refine r_aload_n (pc := 44) (a := 31) dX4_costOf_44 rfl ?_
      refine r_getI (pc := 45) (fi := 15) (x := (h 31 15)) fl_X4_54 dX4_costOf_45 s0_31 rfl (rfl) ?_
      refine r_aload_n (pc := 48) (a := 31) dX4_costOf_48 rfl ?_
      refine r_aload_n (pc := 49) (a := 10) dX4_costOf_49 rfl ?_
      refine r_iload_n (pc := 50) (x := v2) dX4_costOf_50 rfl ?_
      refine r_callV (μ2 := mX4_minutesWith) (pc := 51) (as := [.ref 10, .int (zI v2)]) (st := [.int (zI (h 31 15))]) rfl s0_31 ml_X4_66 im_X4_minutesWith se_X4_minutesWith okX4_minutesWith ⟨by decide, by decide⟩ dX4_costOf_51 (Nat.le_of_ble_eq_true rfl) rfl (Nat.le_of_ble_eq_true rfl) (by decide) (by decide) (zCC.mono w ?_)
      rintro r S' h3 ⟨rfl, x3, hr, w⟩
      subst hr
      show RR mX4_costOf 0 0 54 [some (.ref 31), some (.ref 10), some (.int (zI v2)), some (.int (zI v3)), some (.int (zI v4))] [.int (zI x3), .int (zI (h 31 15))] zS0 h3 (zQi zS0 K)
      refine r_isub (pc := 54) (x := (h 31 15)) (y := x3) dX4_costOf_54 ?_
      exact r_iret (st := []) (pc := 55) (x := ((h 31 15) - x3)) (ty := .int) dX4_costOf_55 rfl rfl rfl (by decide) ⟨rfl, _, rfl, w⟩
    · have w := w.2 (c)
      refine r_iconst (pc := 40) dX4_costOf_40 ?_
      refine r_goto (pc := 41) (tgt := 55) dX4_costOf_41 (by decide) ?_
      exact r_iret (st := []) (pc := 55) (x := 0) (ty := .int) dX4_costOf_55 rfl rfl rfl (by decide) ⟨rfl, _, rfl, w⟩
  · have w := w.2 (c)
    refine r_iload_n (pc := 11) (x := v3) dX4_costOf_11 rfl ?_
    refine r_aload_n (pc := 12) (a := 10) dX4_costOf_12 rfl ?_
    refine r_iload_n (pc := 13) (x := v2) dX4_costOf_13 rfl ?_
    refine r_iload (pc := 14) (x := v4) dX4_costOf_14 rfl ?_
    refine r_callV (μ2 := mX3_ahead) (pc := 16) (as := [.int (zI v2), .int (zI v4)]) (st := [.int (zI v3)]) rfl s0_10 ml_X4_73 im_X3_ahead se_X3_ahead okX3_ahead ⟨by decide, by decide⟩ dX4_costOf_16 (Nat.le_of_ble_eq_true rfl) rfl (Nat.le_of_ble_eq_true rfl) (by decide) (by decide) (zCC.mono w ?_)
    rintro r S' h4 ⟨rfl, x4, hr, w⟩
    subst hr
    show RR mX4_costOf 0 0 19 [some (.ref 31), some (.ref 10), some (.int (zI v2)), some (.int (zI v3)), some (.int (zI v4))] [.int (zI x4), .int (zI v3)] zS0 h4 (zQi zS0 K)
    obtain ⟨hr5, w⟩ := w
    have kk6 : RR mX4_costOf 0 0 27 [some (.ref 31), some (.ref 10), some (.int (zI v2)), some (.int (zI v3)), some (.int (zI v4))] [.int (zI (bI (if x4 < 0 then false else true))), .int (zI v3)] zS0 h4 (zQi zS0 K) := by
      refine r_iadd (pc := 27) (x := v3) (y := (bI (if x4 < 0 then false else true))) dX4_costOf_27 ?_
      refine r_istore_n (pc := 28) (L' := [some (.ref 31), some (.ref 10), some (.int (zI v2)), some (.int (zI (v3 + (bI (if x4 < 0 then false else true))))), some (.int (zI v4))]) dX4_costOf_28 (by decide) rfl ?_
      refine r_iinc (pc := 29) (x := v4) (L' := [some (.ref 31), some (.ref 10), some (.int (zI v2)), some (.int (zI (v3 + (bI (if x4 < 0 then false else true))))), some (.int (zI (v4 + 1)))]) dX4_costOf_29 rfl (by decide) rfl ?_
      refine r_goto (pc := 32) (tgt := 5) dX4_costOf_32 (by decide) ?_
      exact w
    refine r_if_lt (pc := 19) (x := x4) (tgt := 26) dX4_costOf_19 (by decide) hr5 (fun c => ?_) (fun c => ?_)
    · refine r_iconst (pc := 26) dX4_costOf_26 ?_
      simp only [if_pos (c)] at kk6 ⊢
      exact kk6
    · refine r_iconst (pc := 22) dX4_costOf_22 ?_
      refine r_goto (pc := 23) (tgt := 27) dX4_costOf_23 (by decide) ?_
      simp only [if_neg (c)] at kk6 ⊢
      exact kk6

set_option maxRecDepth 100000 in
set_option maxHeartbeats 4000000 in
theorem wX4_seekDearest {h : zMm} {K : zMm → Prop} (w : (zR (h 31 14) ∧ (((h 31 14) = 0 → RR mX4_seekDearest 0 0 21 [some (.ref 31), some (.ref 10), some (.int (zI 0)), none] [] zS0 (zU (zU h 31 18 (-4)) 31 19 0) (zQv zS0 K)) ∧ (¬ (h 31 14) = 0 → K h)))) : zCv mX4_seekDearest [.ref 31, .ref 10] zS0 h K := by
  show RR mX4_seekDearest 0 0 0 [some (.ref 31), some (.ref 10), none, none] [] zS0 h (zQv zS0 K)
  refine r_aload_n (pc := 0) (a := 31) dX4_seekDearest_0 rfl ?_
  refine r_getI (pc := 1) (fi := 14) (x := (h 31 14)) fl_X4_51 dX4_seekDearest_1 s0_31 rfl (rfl) ?_
  obtain ⟨hr1, w⟩ := w
  refine r_if_eq (pc := 4) (x := (h 31 14)) (tgt := 8) dX4_seekDearest_4 (by decide) hr1 (fun c => ?_) (fun c => ?_)
  · have w := w.1 (c)
    refine r_aload_n (pc := 8) (a := 31) dX4_seekDearest_8 rfl ?_
    refine r_bipush (pc := 9) (x := (-4)) dX4_seekDearest_9 (by decide) ?_
    refine r_putI (pc := 11) (fi := 18) (x := (-4)) fl_X4_77 dX4_seekDearest_11 s0_31 rfl ?_
    refine r_aload_n (pc := 14) (a := 31) dX4_seekDearest_14 rfl ?_
    refine r_iconst (pc := 15) dX4_seekDearest_15 ?_
    refine r_putI (pc := 16) (fi := 19) (x := 0) fl_X4_80 dX4_seekDearest_16 s0_31 rfl ?_
    refine r_iconst (pc := 19) dX4_seekDearest_19 ?_
    refine r_istore_n (pc := 20) (L' := [some (.ref 31), some (.ref 10), some (.int (zI 0)), none]) dX4_seekDearest_20 (by decide) rfl ?_
    exact w
  · have w := w.2 (c)
    exact r_ret (st := []) (pc := 7) dX4_seekDearest_7 rfl rfl (by decide) ⟨rfl, rfl, w⟩

set_option maxRecDepth 100000 in
set_option maxHeartbeats 4000000 in
theorem bX4_seekDearest_21 {h : zMm} {K : zMm → Prop} {v2 : Int} (w : (zR v2 ∧ ((36 ≤ v2 → K (zU h 31 14 1)) ∧ (¬ 36 ≤ v2 → zCb mX3_isOpen [.ref 10, .int (zI v2)] zS0 h (fun b3 h3 => ((b3 = true → RR mX4_seekDearest 0 0 21 [some (.ref 31), some (.ref 10), some (.int (zI (v2 + 1))), none] [] zS0 h3 (zQv zS0 K)) ∧ (b3 = false → zCi mX4_costOf [.ref 31, .ref 10, .int (zI v2)] zS0 h3 (fun x4 h4 => (zR x4 ∧ (zR (h4 31 19) ∧ ((x4 ≤ (h4 31 19) → RR mX4_seekDearest 0 0 21 [some (.ref 31), some (.ref 10), some (.int (zI (v2 + 1))), none] [] zS0 h4 (zQv zS0 K)) ∧ (¬ x4 ≤ (h4 31 19) → RR mX4_seekDearest 0 0 21 [some (.ref 31), some (.ref 10), some (.int (zI (v2 + 1))), none] [] zS0 (zU (zU h4 31 18 v2) 31 19 x4) (zQv zS0 K))))))))))))) : RR mX4_seekDearest 0 0 21 [some (.ref 31), some (.ref 10), some (.int (zI v2)), none] [] zS0 h (zQv zS0 K) := by
  refine r_iload_n (pc := 21) (x := v2) dX4_seekDearest_21 rfl ?_
  refine r_bipush (pc := 22) (x := 36) dX4_seekDearest_22 (by decide) ?_
  obtain ⟨hr2, w⟩ := w
  refine r_icmp_ge (pc := 24) (x := v2) (y := 36) (tgt := 66) dX4_seekDearest_24 (by decide) hr2 (by decide) (fun c => ?_) (fun c => ?_)
  · have w := w.1 (c)
    refine r_aload_n (pc := 66) (a := 31) dX4_seekDearest_66 rfl ?_
    refine r_iconst (pc := 67) dX4_seekDearest_67 ?_
    refine r_putZ (pc := 68) (fi := 14) (x := 1) fl_X4_51 dX4_seekDearest_68 s0_31 rfl (by decide) ?_
    exact r_ret (st := []) (pc := 71) dX4_seekDearest_71 rfl rfl (by decide) ⟨rfl, rfl, w⟩
  · have w := w.2 (c)
    refine r_aload_n (pc := 27) (a := 10) dX4_seekDearest_27 rfl ?_
    refine r_iload_n (pc := 28) (x := v2) dX4_seekDearest_28 rfl ?_
    refine r_callV (μ2 := mX3_isOpen) (pc := 29) (as := [.int (zI v2)]) (st := []) rfl s0_10 ml_X4_83 im_X3_isOpen se_X3_isOpen okX3_isOpen ⟨by decide, by decide⟩ dX4_seekDearest_29 (Nat.le_of_ble_eq_true rfl) rfl (Nat.le_of_ble_eq_true rfl) (by decide) (by decide) (zCC.mono w ?_)
    rintro r S' h3 ⟨rfl, b3, hr, w⟩
    subst hr
    show RR mX4_seekDearest 0 0 32 [some (.ref 31), some (.ref 10), some (.int (zI v2)), none] [.int (zI (bI b3))] zS0 h3 (zQv zS0 K)
    refine r_if_ne (pc := 32) (x := (bI b3)) (tgt := 60) dX4_seekDearest_32 (by decide) (bI_R _) (fun c => ?_) (fun c => ?_)
    · have w := w.1 (bI_n.mp c)
      refine r_iinc (pc := 60) (x := v2) (L' := [some (.ref 31), some (.ref 10), some (.int (zI (v2 + 1))), none]) dX4_seekDearest_60 rfl (by decide) rfl ?_
      refine r_goto (pc := 63) (tgt := 21) dX4_seekDearest_63 (by decide) ?_
      exact w
    · have w := w.2 (bI_0.mp c)
      refine r_aload_n (pc := 35) (a := 31) dX4_seekDearest_35 rfl ?_
      refine r_aload_n (pc := 36) (a := 10) dX4_seekDearest_36 rfl ?_
      refine r_iload_n (pc := 37) (x := v2) dX4_seekDearest_37 rfl ?_
      refine r_callV (μ2 := mX4_costOf) (pc := 38) (as := [.ref 10, .int (zI v2)]) (st := []) rfl s0_31 ml_X4_87 im_X4_costOf se_X4_costOf okX4_costOf ⟨by decide, by decide⟩ dX4_seekDearest_38 (Nat.le_of_ble_eq_true rfl) rfl (Nat.le_of_ble_eq_true rfl) (by decide) (by decide) (zCC.mono w ?_)
      rintro r S' h4 ⟨rfl, x4, hr, w⟩
      subst hr
      show RR mX4_seekDearest 0 0 41 [some (.ref 31), some (.ref 10), some (.int (zI v2)), none] [.int (zI x4)] zS0 h4 (zQv zS0 K)
      refine r_istore_n (pc := 41) (L' := [some (.ref 31), some (.ref 10), some (.int (zI v2)), some (.int (zI x4))]) dX4_seekDearest_41 (by decide) rfl ?_
      refine r_iload_n (pc := 42) (x := x4) dX4_seekDearest_42 rfl ?_
      refine r_aload_n (pc := 43) (a := 31) dX4_seekDearest_43 rfl ?_
      refine r_getI (pc := 44) (fi := 19) (x := (h4 31 19)) fl_X4_80 dX4_seekDearest_44 s0_31 rfl (rfl) ?_
      obtain ⟨hr5, w⟩ := w
      obtain ⟨hr6, w⟩ := w
      refine r_icmp_le (pc := 47) (x := x4) (y := (h4 31 19)) (tgt := 60) dX4_seekDearest_47 (by decide) hr5 hr6 (fun c => ?_) (fun c => ?_)
      · have w := w.1 (c)
        refine r_iinc (pc := 60) (x := v2) (L' := [some (.ref 31), some (.ref 10), some (.int (zI (v2 + 1))), some (.int (zI x4))]) dX4_seekDearest_60 rfl (by decide) rfl ?_
        refine r_goto (pc := 63) (tgt := 21) dX4_seekDearest_63 (by decide) ?_
        exact RR.sub (L' := [some (.ref 31), some (.ref 10), some (.int (zI (v2 + 1))), none]) (zSb_of (⟨rfl, ⟨rfl, ⟨rfl, trivial⟩⟩⟩)) w
      · have w := w.2 (c)
        refine r_aload_n (pc := 50) (a := 31) dX4_seekDearest_50 rfl ?_
        refine r_iload_n (pc := 51) (x := v2) dX4_seekDearest_51 rfl ?_
        refine r_putI (pc := 52) (fi := 18) (x := v2) fl_X4_77 dX4_seekDearest_52 s0_31 rfl ?_
        refine r_aload_n (pc := 55) (a := 31) dX4_seekDearest_55 rfl ?_
        refine r_iload_n (pc := 56) (x := x4) dX4_seekDearest_56 rfl ?_
        refine r_putI (pc := 57) (fi := 19) (x := x4) fl_X4_80 dX4_seekDearest_57 s0_31 rfl ?_
        refine r_iinc (pc := 60) (x := v2) (L' := [some (.ref 31), some (.ref 10), some (.int (zI (v2 + 1))), some (.int (zI x4))]) dX4_seekDearest_60 rfl (by decide) rfl ?_
        refine r_goto (pc := 63) (tgt := 21) dX4_seekDearest_63 (by decide) ?_
        exact RR.sub (L' := [some (.ref 31), some (.ref 10), some (.int (zI (v2 + 1))), none]) (zSb_of (⟨rfl, ⟨rfl, ⟨rfl, trivial⟩⟩⟩)) w
