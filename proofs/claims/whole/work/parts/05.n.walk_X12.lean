set_option maxRecDepth 100000 in
set_option maxHeartbeats 4000000 in
theorem wX12_in {S : zSh} {h : zMm} {K : Bool → zMm → Prop} {v0 : Int} {v2 : Int} {v4 : Int} (w : (zRl v0 ∧ (zRl v2 ∧ ((v0 < v2 → K false h) ∧ (¬ v0 < v2 → (zRl v4 ∧ K (if v4 < v0 then false else true) h)))))) : zCb mX12_in [.long (zJ v0), .long (zJ v2), .long (zJ v4)] S h K := by
  show RR mX12_in 0 0 0 [some (.long (zJ v0)), none, some (.long (zJ v2)), none, some (.long (zJ v4)), none] [] S h (zQb S K)
  refine r_lload_n (pc := 0) (x := v0) dX12_in_0 rfl ?_
  refine r_lload_n (pc := 1) (x := v2) dX12_in_1 rfl ?_
  obtain ⟨hl1, w⟩ := w
  obtain ⟨hl2, w⟩ := w
  refine r_lcmp (pc := 2) (x := v0) (y := v2) dX12_in_2 hl1 hl2 ?_
  refine r_if_lt (pc := 3) (x := (zCmp v0 v2)) (tgt := 17) dX12_in_3 (by decide) (zCmp_R _ _) (fun c => ?_) (fun c => ?_)
  · have w := w.1 (zCmp_lt.mp c)
    refine r_iconst (pc := 17) dX12_in_17 ?_
    exact r_iret (st := []) (pc := 18) (x := 0) (ty := .boolean) dX12_in_18 rfl (rfl) rfl (by decide) ⟨rfl, false, rfl, w⟩
  · have w := w.2 (fun z => c (zCmp_lt.mpr z))
    refine r_lload_n (pc := 6) (x := v0) dX12_in_6 rfl ?_
    refine r_lload (pc := 7) (x := v4) dX12_in_7 rfl ?_
    obtain ⟨hl3, w⟩ := w
    refine r_lcmp (pc := 9) (x := v0) (y := v4) dX12_in_9 hl1 hl3 ?_
    have kk4 : RR mX12_in 0 0 18 [some (.long (zJ v0)), none, some (.long (zJ v2)), none, some (.long (zJ v4)), none] [.int (zI (bI (if v4 < v0 then false else true)))] S h (zQb S K) := by
      exact r_iret (st := []) (pc := 18) (x := (bI (if v4 < v0 then false else true))) (ty := .boolean) dX12_in_18 rfl (bI_nar _) rfl (by decide) ⟨rfl, (if v4 < v0 then false else true), rfl, w⟩
    refine r_if_gt (pc := 10) (x := (zCmp v0 v4)) (tgt := 17) dX12_in_10 (by decide) (zCmp_R _ _) (fun c => ?_) (fun c => ?_)
    · refine r_iconst (pc := 17) dX12_in_17 ?_
      simp only [if_pos (zCmp_gt.mp c)] at kk4 ⊢
      exact kk4
    · refine r_iconst (pc := 13) dX12_in_13 ?_
      refine r_goto (pc := 14) (tgt := 18) dX12_in_14 (by decide) ?_
      simp only [if_neg (fun z => c (zCmp_gt.mpr z))] at kk4 ⊢
      exact kk4

set_option maxRecDepth 100000 in
set_option maxHeartbeats 4000000 in
theorem wX12_feed {h : zMm} {K : Int → zMm → Prop} {v1 : Int} (w : (zR ((h 81 1) + 8) ∧ ((((h 81 1) + 8) ≤ 320 → RR mX12_feed 0 0 19 [some (.ref 81), some (.long (zJ v1)), none, some (.int (zI 56))] [] zS0 h (zQi zS0 K)) ∧ (¬ ((h 81 1) + 8) ≤ 320 → K (-3) h)))) : zCi mX12_feed [.ref 81, .long (zJ v1)] zS0 h K := by
  show RR mX12_feed 0 0 0 [some (.ref 81), some (.long (zJ v1)), none, none] [] zS0 h (zQi zS0 K)
  refine r_aload_n (pc := 0) (a := 81) dX12_feed_0 rfl ?_
  refine r_getI (pc := 1) (fi := 1) (x := (h 81 1)) fl_X12_90 dX12_feed_1 s0_81 rfl (rfl) ?_
  refine r_bipush (pc := 4) (x := 8) dX12_feed_4 (by decide) ?_
  refine r_iadd (pc := 6) (x := (h 81 1)) (y := 8) dX12_feed_6 ?_
  refine r_sipush (pc := 7) (x := 320) dX12_feed_7 (by decide) ?_
  obtain ⟨hr1, w⟩ := w
  refine r_icmp_le (pc := 10) (x := ((h 81 1) + 8)) (y := 320) (tgt := 16) dX12_feed_10 (by decide) hr1 (by decide) (fun c => ?_) (fun c => ?_)
  · have w := w.1 (c)
    refine r_bipush (pc := 16) (x := 56) dX12_feed_16 (by decide) ?_
    refine r_istore_n (pc := 18) (L' := [some (.ref 81), some (.long (zJ v1)), none, some (.int (zI 56))]) dX12_feed_18 (by decide) rfl ?_
    exact w
  · have w := w.2 (c)
    refine r_bipush (pc := 13) (x := (-3)) dX12_feed_13 (by decide) ?_
    exact r_iret (st := []) (pc := 15) (x := (-3)) (ty := .int) dX12_feed_15 rfl rfl rfl (by decide) ⟨rfl, _, rfl, w⟩

set_option maxRecDepth 100000 in
set_option maxHeartbeats 4000000 in
theorem bX12_feed_19 {h : zMm} {K : Int → zMm → Prop} {v1 : Int} {v3 : Int} (w : (zR v3 ∧ ((v3 < 0 → K (h 81 1) h) ∧ (¬ v3 < 0 → ((0 ≤ (h 81 1) ∧ (h 81 1) < 320) ∧ RR mX12_feed 0 0 19 [some (.ref 81), some (.long (zJ v1)), none, some (.int (zI (v3 + (-8))))] [] zS0 (zU (zU h 82 (h 81 1) ((lSr v1 v3) % 256)) 81 1 ((h 81 1) + 1)) (zQi zS0 K)))))) : RR mX12_feed 0 0 19 [some (.ref 81), some (.long (zJ v1)), none, some (.int (zI v3))] [] zS0 h (zQi zS0 K) := by
  refine r_iload_n (pc := 19) (x := v3) dX12_feed_19 rfl ?_
  obtain ⟨hr2, w⟩ := w
  refine r_if_lt (pc := 20) (x := v3) (tgt := 56) dX12_feed_20 (by decide) hr2 (fun c => ?_) (fun c => ?_)
  · have w := w.1 (c)
    refine r_aload_n (pc := 56) (a := 81) dX12_feed_56 rfl ?_
    refine r_getI (pc := 57) (fi := 1) (x := (h 81 1)) fl_X12_90 dX12_feed_57 s0_81 rfl (rfl) ?_
    exact r_iret (st := []) (pc := 60) (x := (h 81 1)) (ty := .int) dX12_feed_60 rfl rfl rfl (by decide) ⟨rfl, _, rfl, w⟩
  · have w := w.2 (c)
    refine r_aload_n (pc := 23) (a := 81) dX12_feed_23 rfl ?_
    refine r_getR (pc := 24) (b := 82) fl_X12_7 dX12_feed_24 s0_81 rfl ?_
    refine r_aload_n (pc := 27) (a := 81) dX12_feed_27 rfl ?_
    refine r_getI (pc := 28) (fi := 1) (x := (h 81 1)) fl_X12_90 dX12_feed_28 s0_81 rfl (rfl) ?_
    refine r_lload_n (pc := 31) (x := v1) dX12_feed_31 rfl ?_
    refine r_iload_n (pc := 32) (x := v3) dX12_feed_32 rfl ?_
    refine r_lshr (pc := 33) (x := v1) (y := v3) dX12_feed_33 ?_
    refine r_l2i (pc := 34) (x := (lSr v1 v3)) dX12_feed_34 ?_
    refine r_sipush (pc := 35) (x := 255) dX12_feed_35 (by decide) ?_
    refine r_iandM (pc := 38) (x := (lSr v1 v3)) (y := 255) (z := ((lSr v1 v3) % 256)) dX12_feed_38 (zI_mask _ 8 (by decide)) ?_
    obtain ⟨hb3, w⟩ := w
    refine r_iast (pc := 39) (i := (h 81 1)) (x := ((lSr v1 v3) % 256)) dX12_feed_39 s0_82 ⟨hb3.1, hb3.2, (by decide)⟩  ?_
    refine r_aload_n (pc := 40) (a := 81) dX12_feed_40 rfl ?_
    refine r_dup (pc := 41) rfl dX12_feed_41 ?_
    refine r_getI (pc := 42) (fi := 1) (x := (h 81 1)) fl_X12_90 dX12_feed_42 s0_81 rfl (zU_ne (by omega)) ?_
    refine r_iconst (pc := 45) dX12_feed_45 ?_
    refine r_iadd (pc := 46) (x := (h 81 1)) (y := 1) dX12_feed_46 ?_
    refine r_putI (pc := 47) (fi := 1) (x := ((h 81 1) + 1)) fl_X12_90 dX12_feed_47 s0_81 rfl ?_
    refine r_iinc (pc := 50) (x := v3) (L' := [some (.ref 81), some (.long (zJ v1)), none, some (.int (zI (v3 + (-8))))]) dX12_feed_50 rfl (by decide) rfl ?_
    refine r_goto (pc := 53) (tgt := 19) dX12_feed_53 (by decide) ?_
    exact w

set_option maxRecDepth 100000 in
set_option maxHeartbeats 4000000 in
theorem wX12_end {h : zMm} {K : Int → zMm → Prop} {v1 : Int} (w : (zR v1 ∧ (zR (h 81 1) ∧ zCb mX12_in [.long (zJ v1), .long (zJ 0), .long (zJ (h 81 1))] zS0 h (fun b3 h3 => ((b3 = true → K (h3 81 1) (zU h3 81 1 v1)) ∧ (b3 = false → K (-1) h3)))))) : zCi mX12_end [.ref 81, .int (zI v1)] zS0 h K := by
  show RR mX12_end 0 0 0 [some (.ref 81), some (.int (zI v1)), none] [] zS0 h (zQi zS0 K)
  refine r_iload_n (pc := 0) (x := v1) dX12_end_0 rfl ?_
  obtain ⟨hr1, w⟩ := w
  refine r_i2l (pc := 1) (x := v1) dX12_end_1 hr1 ?_
  refine r_lconst (pc := 2) (x := 0) dX12_end_2 rfl ?_
  refine r_aload_n (pc := 3) (a := 81) dX12_end_3 rfl ?_
  refine r_getI (pc := 4) (fi := 1) (x := (h 81 1)) fl_X12_90 dX12_end_4 s0_81 rfl (rfl) ?_
  obtain ⟨hr2, w⟩ := w
  refine r_i2l (pc := 7) (x := (h 81 1)) dX12_end_7 hr2 ?_
  refine r_callS (μ2 := mX12_in) (pc := 8) (as := [.long (zJ v1), .long (zJ 0), .long (zJ (h 81 1))]) (st := []) ml_X12_94 sm_X12_in okX12_in ⟨by decide, by decide⟩ dX12_end_8 (Nat.le_of_ble_eq_true rfl) rfl (Nat.le_of_ble_eq_true rfl) (by decide) (by decide) (zCC.mono w ?_)
  rintro r S' h3 ⟨rfl, b3, hr, w⟩
  subst hr
  show RR mX12_end 0 0 11 [some (.ref 81), some (.int (zI v1)), none] [.int (zI (bI b3))] zS0 h3 (zQi zS0 K)
  refine r_if_ne (pc := 11) (x := (bI b3)) (tgt := 16) dX12_end_11 (by decide) (bI_R _) (fun c => ?_) (fun c => ?_)
  · have w := w.1 (bI_n.mp c)
    refine r_aload_n (pc := 16) (a := 81) dX12_end_16 rfl ?_
    refine r_getI (pc := 17) (fi := 1) (x := (h3 81 1)) fl_X12_90 dX12_end_17 s0_81 rfl (rfl) ?_
    refine r_istore_n (pc := 20) (L' := [some (.ref 81), some (.int (zI v1)), some (.int (zI (h3 81 1)))]) dX12_end_20 (by decide) rfl ?_
    refine r_aload_n (pc := 21) (a := 81) dX12_end_21 rfl ?_
    refine r_iload_n (pc := 22) (x := v1) dX12_end_22 rfl ?_
    refine r_putI (pc := 23) (fi := 1) (x := v1) fl_X12_90 dX12_end_23 s0_81 rfl ?_
    refine r_iload_n (pc := 26) (x := (h3 81 1)) dX12_end_26 rfl ?_
    exact r_iret (st := []) (pc := 27) (x := (h3 81 1)) (ty := .int) dX12_end_27 rfl rfl rfl (by decide) ⟨rfl, _, rfl, w⟩
  · have w := w.2 (bI_0.mp c)
    refine r_iconst (pc := 14) dX12_end_14 ?_
    exact r_iret (st := []) (pc := 15) (x := (-1)) (ty := .int) dX12_end_15 rfl rfl rfl (by decide) ⟨rfl, _, rfl, w⟩

set_option maxRecDepth 100000 in
set_option maxHeartbeats 4000000 in
theorem wX12_byteAt {h : zMm} {K : Int → zMm → Prop} {v1 : Int} (w : (zR v1 ∧ (zR (h 81 1) ∧ (((h 81 1) ≤ v1 → K (-4) h) ∧ (¬ (h 81 1) ≤ v1 → ((0 ≤ v1 ∧ v1 < 320) ∧ K (h 82 v1) h)))))) : zCi mX12_byteAt [.ref 81, .int (zI v1)] zS0 h K := by
  show RR mX12_byteAt 0 0 0 [some (.ref 81), some (.int (zI v1))] [] zS0 h (zQi zS0 K)
  refine r_iload_n (pc := 0) (x := v1) dX12_byteAt_0 rfl ?_
  refine r_aload_n (pc := 1) (a := 81) dX12_byteAt_1 rfl ?_
  refine r_getI (pc := 2) (fi := 1) (x := (h 81 1)) fl_X12_90 dX12_byteAt_2 s0_81 rfl (rfl) ?_
  obtain ⟨hr1, w⟩ := w
  obtain ⟨hr2, w⟩ := w
  refine r_icmp_ge (pc := 5) (x := v1) (y := (h 81 1)) (tgt := 17) dX12_byteAt_5 (by decide) hr1 hr2 (fun c => ?_) (fun c => ?_)
  · have w := w.1 (c)
    refine r_bipush (pc := 17) (x := (-4)) dX12_byteAt_17 (by decide) ?_
    exact r_iret (st := []) (pc := 19) (x := (-4)) (ty := .int) dX12_byteAt_19 rfl rfl rfl (by decide) ⟨rfl, _, rfl, w⟩
  · have w := w.2 (c)
    refine r_aload_n (pc := 8) (a := 81) dX12_byteAt_8 rfl ?_
    refine r_getR (pc := 9) (b := 82) fl_X12_7 dX12_byteAt_9 s0_81 rfl ?_
    refine r_iload_n (pc := 12) (x := v1) dX12_byteAt_12 rfl ?_
    obtain ⟨hb3, w⟩ := w
    refine r_iald (pc := 13) (i := v1) (x := (h 82 v1)) dX12_byteAt_13 s0_82 ⟨hb3.1, hb3.2, (by decide)⟩ (rfl) ?_
    refine r_goto (pc := 14) (tgt := 19) dX12_byteAt_14 (by decide) ?_
    exact r_iret (st := []) (pc := 19) (x := (h 82 v1)) (ty := .int) dX12_byteAt_19 rfl rfl rfl (by decide) ⟨rfl, _, rfl, w⟩

set_option maxRecDepth 100000 in
set_option maxHeartbeats 4000000 in
theorem wX12_fails {h : zMm} {K : zMm → Prop} {v1 : Int} (w : (zR (h 81 3) ∧ ((¬ (h 81 3) = 0 → K h) ∧ ((h 81 3) = 0 → K (zU (zU h 81 3 v1) 81 4 (h 81 6)))))) : zCv mX12_fails [.ref 81, .int (zI v1)] zS0 h K := by
  show RR mX12_fails 0 0 0 [some (.ref 81), some (.int (zI v1))] [] zS0 h (zQv zS0 K)
  refine r_aload_n (pc := 0) (a := 81) dX12_fails_0 rfl ?_
  refine r_getI (pc := 1) (fi := 3) (x := (h 81 3)) fl_X12_98 dX12_fails_1 s0_81 rfl (rfl) ?_
  obtain ⟨hr1, w⟩ := w
  refine r_if_ne (pc := 4) (x := (h 81 3)) (tgt := 20) dX12_fails_4 (by decide) hr1 (fun c => ?_) (fun c => ?_)
  · have w := w.1 (c)
    exact r_ret (st := []) (pc := 20) dX12_fails_20 rfl rfl (by decide) ⟨rfl, rfl, w⟩
  · have w := w.2 (c)
    refine r_aload_n (pc := 7) (a := 81) dX12_fails_7 rfl ?_
    refine r_iload_n (pc := 8) (x := v1) dX12_fails_8 rfl ?_
    refine r_putI (pc := 9) (fi := 3) (x := v1) fl_X12_98 dX12_fails_9 s0_81 rfl ?_
    refine r_aload_n (pc := 12) (a := 81) dX12_fails_12 rfl ?_
    refine r_aload_n (pc := 13) (a := 81) dX12_fails_13 rfl ?_
    refine r_getI (pc := 14) (fi := 6) (x := (h 81 6)) fl_X12_101 dX12_fails_14 s0_81 rfl (zU_ne (by omega)) ?_
    refine r_putI (pc := 17) (fi := 4) (x := (h 81 6)) fl_X12_104 dX12_fails_17 s0_81 rfl ?_
    exact r_ret (st := []) (pc := 20) dX12_fails_20 rfl rfl (by decide) ⟨rfl, rfl, w⟩

set_option maxRecDepth 100000 in
set_option maxHeartbeats 4000000 in
theorem wX12_nameHere {h : zMm} {K : Int → zMm → Prop} (w : RR mX12_nameHere 0 0 2 [some (.ref 81), some (.int (zI 0)), none, none] [] zS0 h (zQi zS0 K)) : zCi mX12_nameHere [.ref 81] zS0 h K := by
  show RR mX12_nameHere 0 0 0 [some (.ref 81), none, none, none] [] zS0 h (zQi zS0 K)
  refine r_iconst (pc := 0) dX12_nameHere_0 ?_
  refine r_istore_n (pc := 1) (L' := [some (.ref 81), some (.int (zI 0)), none, none]) dX12_nameHere_1 (by decide) rfl ?_
  exact w

set_option maxRecDepth 100000 in
set_option maxHeartbeats 4000000 in
theorem bX12_nameHere_2 {h : zMm} {K : Int → zMm → Prop} {v1 : Int} (w : (zR v1 ∧ ((10 ≤ v1 → K (-4) h) ∧ (¬ 10 ≤ v1 → (zR (h 81 7) ∧ ((¬ (h 81 7) = 1 → K (-4) h) ∧ ((h 81 7) = 1 → ((0 ≤ (v1 + 1) ∧ (v1 + 1) < 11) ∧ ((0 ≤ v1 ∧ v1 < 11) ∧ (zR ((h 81 5) - (h 81 6)) ∧ (zR ((h 83 (v1 + 1)) - (h 83 v1)) ∧ RR mX12_nameHere 0 0 51 [some (.ref 81), some (.int (zI v1)), some (.int (zI (bI (if ((h 81 5) - (h 81 6)) = ((h 83 (v1 + 1)) - (h 83 v1)) then true else false)))), some (.int (zI 0))] [] zS0 h (zQi zS0 K)))))))))))) : RR mX12_nameHere 0 0 2 [some (.ref 81), some (.int (zI v1)), none, none] [] zS0 h (zQi zS0 K) := by
  refine r_iload_n (pc := 2) (x := v1) dX12_nameHere_2 rfl ?_
  refine r_bipush (pc := 3) (x := 10) dX12_nameHere_3 (by decide) ?_
  obtain ⟨hr1, w⟩ := w
  refine r_icmp_ge (pc := 5) (x := v1) (y := 10) (tgt := 118) dX12_nameHere_5 (by decide) hr1 (by decide) (fun c => ?_) (fun c => ?_)
  · have w := w.1 (c)
    refine r_bipush (pc := 118) (x := (-4)) dX12_nameHere_118 (by decide) ?_
    exact r_iret (st := []) (pc := 120) (x := (-4)) (ty := .int) dX12_nameHere_120 rfl rfl rfl (by decide) ⟨rfl, _, rfl, w⟩
  · have w := w.2 (c)
    refine r_aload_n (pc := 8) (a := 81) dX12_nameHere_8 rfl ?_
    refine r_getI (pc := 9) (fi := 7) (x := (h 81 7)) fl_X12_107 dX12_nameHere_9 s0_81 rfl (rfl) ?_
    refine r_iconst (pc := 12) dX12_nameHere_12 ?_
    obtain ⟨hr2, w⟩ := w
    refine r_icmp_ne (pc := 13) (x := (h 81 7)) (y := 1) (tgt := 118) dX12_nameHere_13 (by decide) hr2 (by decide) (fun c => ?_) (fun c => ?_)
    · have w := w.1 (c)
      refine r_bipush (pc := 118) (x := (-4)) dX12_nameHere_118 (by decide) ?_
      exact r_iret (st := []) (pc := 120) (x := (-4)) (ty := .int) dX12_nameHere_120 rfl rfl rfl (by decide) ⟨rfl, _, rfl, w⟩
    · have w := w.2 (c)
      refine r_aload_n (pc := 16) (a := 81) dX12_nameHere_16 rfl ?_
      refine r_getI (pc := 17) (fi := 5) (x := (h 81 5)) fl_X12_110 dX12_nameHere_17 s0_81 rfl (rfl) ?_
      refine r_aload_n (pc := 20) (a := 81) dX12_nameHere_20 rfl ?_
      refine r_getI (pc := 21) (fi := 6) (x := (h 81 6)) fl_X12_101 dX12_nameHere_21 s0_81 rfl (rfl) ?_
      refine r_isub (pc := 24) (x := (h 81 5)) (y := (h 81 6)) dX12_nameHere_24 ?_
      refine r_aload_n (pc := 25) (a := 81) dX12_nameHere_25 rfl ?_
      refine r_getR (pc := 26) (b := 83) fl_X12_13 dX12_nameHere_26 s0_81 rfl ?_
      refine r_iload_n (pc := 29) (x := v1) dX12_nameHere_29 rfl ?_
      refine r_iconst (pc := 30) dX12_nameHere_30 ?_
      refine r_iadd (pc := 31) (x := v1) (y := 1) dX12_nameHere_31 ?_
      obtain ⟨hb3, w⟩ := w
      refine r_iald (pc := 32) (i := (v1 + 1)) (x := (h 83 (v1 + 1))) dX12_nameHere_32 s0_83 ⟨hb3.1, hb3.2, (by decide)⟩ (rfl) ?_
      refine r_aload_n (pc := 33) (a := 81) dX12_nameHere_33 rfl ?_
      refine r_getR (pc := 34) (b := 83) fl_X12_13 dX12_nameHere_34 s0_81 rfl ?_
      refine r_iload_n (pc := 37) (x := v1) dX12_nameHere_37 rfl ?_
      obtain ⟨hb4, w⟩ := w
      refine r_iald (pc := 38) (i := v1) (x := (h 83 v1)) dX12_nameHere_38 s0_83 ⟨hb4.1, hb4.2, (by decide)⟩ (rfl) ?_
      refine r_isub (pc := 39) (x := (h 83 (v1 + 1))) (y := (h 83 v1)) dX12_nameHere_39 ?_
      obtain ⟨hr5, w⟩ := w
      obtain ⟨hr6, w⟩ := w
      have kk7 : RR mX12_nameHere 0 0 48 [some (.ref 81), some (.int (zI v1)), none, none] [.int (zI (bI (if ((h 81 5) - (h 81 6)) = ((h 83 (v1 + 1)) - (h 83 v1)) then true else false)))] zS0 h (zQi zS0 K) := by
        refine r_istore_n (pc := 48) (L' := [some (.ref 81), some (.int (zI v1)), some (.int (zI (bI (if ((h 81 5) - (h 81 6)) = ((h 83 (v1 + 1)) - (h 83 v1)) then true else false)))), none]) dX12_nameHere_48 (by decide) rfl ?_
        refine r_iconst (pc := 49) dX12_nameHere_49 ?_
        refine r_istore_n (pc := 50) (L' := [some (.ref 81), some (.int (zI v1)), some (.int (zI (bI (if ((h 81 5) - (h 81 6)) = ((h 83 (v1 + 1)) - (h 83 v1)) then true else false)))), some (.int (zI 0))]) dX12_nameHere_50 (by decide) rfl ?_
        exact w
      refine r_icmp_ne (pc := 40) (x := ((h 81 5) - (h 81 6))) (y := ((h 83 (v1 + 1)) - (h 83 v1))) (tgt := 47) dX12_nameHere_40 (by decide) hr5 hr6 (fun c => ?_) (fun c => ?_)
      · refine r_iconst (pc := 47) dX12_nameHere_47 ?_
        simp only [if_neg (c)] at kk7 ⊢
        exact kk7
      · refine r_iconst (pc := 43) dX12_nameHere_43 ?_
        refine r_goto (pc := 44) (tgt := 48) dX12_nameHere_44 (by decide) ?_
        simp only [if_pos (c)] at kk7 ⊢
        exact kk7

set_option maxRecDepth 100000 in
set_option maxHeartbeats 4000000 in
theorem bX12_nameHere_51 {h : zMm} {K : Int → zMm → Prop} {v1 : Int} {v2 : Int} {v3 : Int} (w : (zR v2 ∧ (zR v3 ∧ (zR ((h 81 5) - (h 81 6)) ∧ ((v2 = 0 → ((v2 = 0 → RR mX12_nameHere 0 0 2 [some (.ref 81), some (.int (zI (v1 + 1))), none, none] [] zS0 h (zQi zS0 K)) ∧ (¬ v2 = 0 → K v1 h))) ∧ (¬ v2 = 0 → ((((h 81 5) - (h 81 6)) ≤ v3 → ((v2 = 0 → RR mX12_nameHere 0 0 2 [some (.ref 81), some (.int (zI (v1 + 1))), none, none] [] zS0 h (zQi zS0 K)) ∧ (¬ v2 = 0 → K v1 h))) ∧ (¬ ((h 81 5) - (h 81 6)) ≤ v3 → zCi mX12_byteAt [.ref 81, .int (zI ((h 81 6) + v3))] zS0 h (fun x14 h14 => ((0 ≤ v1 ∧ v1 < 11) ∧ ((0 ≤ ((h14 83 v1) + v3) ∧ ((h14 83 v1) + v3) < 40) ∧ (zR x14 ∧ (zR (h14 84 ((h14 83 v1) + v3)) ∧ RR mX12_nameHere 0 0 51 [some (.ref 81), some (.int (zI v1)), some (.int (zI (bI (if x14 = (h14 84 ((h14 83 v1) + v3)) then true else false)))), some (.int (zI (v3 + 1)))] [] zS0 h14 (zQi zS0 K)))))))))))))) : RR mX12_nameHere 0 0 51 [some (.ref 81), some (.int (zI v1)), some (.int (zI v2)), some (.int (zI v3))] [] zS0 h (zQi zS0 K) := by
  refine r_iload_n (pc := 51) (x := v2) dX12_nameHere_51 rfl ?_
  obtain ⟨hr8, w⟩ := w
  obtain ⟨hr10, w⟩ := w
  obtain ⟨hr12, w⟩ := w
  refine r_if_eq (pc := 52) (x := v2) (tgt := 106) dX12_nameHere_52 (by decide) hr8 (fun c => ?_) (fun c => ?_)
  · have w := w.1 (c)
    refine r_iload_n (pc := 106) (x := v2) dX12_nameHere_106 rfl ?_
    refine r_if_eq (pc := 107) (x := v2) (tgt := 112) dX12_nameHere_107 (by decide) hr8 (fun c => ?_) (fun c => ?_)
    · have w := w.1 (c)
      refine r_iinc (pc := 112) (x := v1) (L' := [some (.ref 81), some (.int (zI (v1 + 1))), some (.int (zI v2)), some (.int (zI v3))]) dX12_nameHere_112 rfl (by decide) rfl ?_
      refine r_goto (pc := 115) (tgt := 2) dX12_nameHere_115 (by decide) ?_
      exact RR.sub (L' := [some (.ref 81), some (.int (zI (v1 + 1))), none, none]) (zSb_of (⟨rfl, ⟨rfl, trivial⟩⟩)) w
    · have w := w.2 (c)
      refine r_iload_n (pc := 110) (x := v1) dX12_nameHere_110 rfl ?_
      exact r_iret (st := []) (pc := 111) (x := v1) (ty := .int) dX12_nameHere_111 rfl rfl rfl (by decide) ⟨rfl, _, rfl, w⟩
  · have w := w.2 (c)
    refine r_iload_n (pc := 55) (x := v3) dX12_nameHere_55 rfl ?_
    refine r_aload_n (pc := 56) (a := 81) dX12_nameHere_56 rfl ?_
    refine r_getI (pc := 57) (fi := 5) (x := (h 81 5)) fl_X12_110 dX12_nameHere_57 s0_81 rfl (rfl) ?_
    refine r_aload_n (pc := 60) (a := 81) dX12_nameHere_60 rfl ?_
    refine r_getI (pc := 61) (fi := 6) (x := (h 81 6)) fl_X12_101 dX12_nameHere_61 s0_81 rfl (rfl) ?_
    refine r_isub (pc := 64) (x := (h 81 5)) (y := (h 81 6)) dX12_nameHere_64 ?_
    refine r_icmp_ge (pc := 65) (x := v3) (y := ((h 81 5) - (h 81 6))) (tgt := 106) dX12_nameHere_65 (by decide) hr10 hr12 (fun c => ?_) (fun c => ?_)
    · have w := w.1 (c)
      refine r_iload_n (pc := 106) (x := v2) dX12_nameHere_106 rfl ?_
      refine r_if_eq (pc := 107) (x := v2) (tgt := 112) dX12_nameHere_107 (by decide) hr8 (fun c => ?_) (fun c => ?_)
      · have w := w.1 (c)
        refine r_iinc (pc := 112) (x := v1) (L' := [some (.ref 81), some (.int (zI (v1 + 1))), some (.int (zI v2)), some (.int (zI v3))]) dX12_nameHere_112 rfl (by decide) rfl ?_
        refine r_goto (pc := 115) (tgt := 2) dX12_nameHere_115 (by decide) ?_
        exact RR.sub (L' := [some (.ref 81), some (.int (zI (v1 + 1))), none, none]) (zSb_of (⟨rfl, ⟨rfl, trivial⟩⟩)) w
      · have w := w.2 (c)
        refine r_iload_n (pc := 110) (x := v1) dX12_nameHere_110 rfl ?_
        exact r_iret (st := []) (pc := 111) (x := v1) (ty := .int) dX12_nameHere_111 rfl rfl rfl (by decide) ⟨rfl, _, rfl, w⟩
    · have w := w.2 (c)
      refine r_aload_n (pc := 68) (a := 81) dX12_nameHere_68 rfl ?_
      refine r_aload_n (pc := 69) (a := 81) dX12_nameHere_69 rfl ?_
      refine r_getI (pc := 70) (fi := 6) (x := (h 81 6)) fl_X12_101 dX12_nameHere_70 s0_81 rfl (rfl) ?_
      refine r_iload_n (pc := 73) (x := v3) dX12_nameHere_73 rfl ?_
      refine r_iadd (pc := 74) (x := (h 81 6)) (y := v3) dX12_nameHere_74 ?_
      refine r_callV (μ2 := mX12_byteAt) (pc := 75) (as := [.int (zI ((h 81 6) + v3))]) (st := []) rfl s0_81 ml_X12_113 im_X12_byteAt se_X12_byteAt okX12_byteAt ⟨by decide, by decide⟩ dX12_nameHere_75 (Nat.le_of_ble_eq_true rfl) rfl (Nat.le_of_ble_eq_true rfl) (by decide) (by decide) (zCC.mono w ?_)
      rintro r S' h14 ⟨rfl, x14, hr, w⟩
      subst hr
      show RR mX12_nameHere 0 0 78 [some (.ref 81), some (.int (zI v1)), some (.int (zI v2)), some (.int (zI v3))] [.int (zI x14)] zS0 h14 (zQi zS0 K)
      refine r_aload_n (pc := 78) (a := 81) dX12_nameHere_78 rfl ?_
      refine r_getR (pc := 79) (b := 84) fl_X12_16 dX12_nameHere_79 s0_81 rfl ?_
      refine r_aload_n (pc := 82) (a := 81) dX12_nameHere_82 rfl ?_
      refine r_getR (pc := 83) (b := 83) fl_X12_13 dX12_nameHere_83 s0_81 rfl ?_
      refine r_iload_n (pc := 86) (x := v1) dX12_nameHere_86 rfl ?_
      obtain ⟨hb15, w⟩ := w
      refine r_iald (pc := 87) (i := v1) (x := (h14 83 v1)) dX12_nameHere_87 s0_83 ⟨hb15.1, hb15.2, (by decide)⟩ (rfl) ?_
      refine r_iload_n (pc := 88) (x := v3) dX12_nameHere_88 rfl ?_
      refine r_iadd (pc := 89) (x := (h14 83 v1)) (y := v3) dX12_nameHere_89 ?_
      obtain ⟨hb16, w⟩ := w
      refine r_iald (pc := 90) (i := ((h14 83 v1) + v3)) (x := (h14 84 ((h14 83 v1) + v3))) dX12_nameHere_90 s0_84 ⟨hb16.1, hb16.2, (by decide)⟩ (rfl) ?_
      obtain ⟨hr17, w⟩ := w
      obtain ⟨hr18, w⟩ := w
      have kk19 : RR mX12_nameHere 0 0 99 [some (.ref 81), some (.int (zI v1)), some (.int (zI v2)), some (.int (zI v3))] [.int (zI (bI (if x14 = (h14 84 ((h14 83 v1) + v3)) then true else false)))] zS0 h14 (zQi zS0 K) := by
        refine r_istore_n (pc := 99) (L' := [some (.ref 81), some (.int (zI v1)), some (.int (zI (bI (if x14 = (h14 84 ((h14 83 v1) + v3)) then true else false)))), some (.int (zI v3))]) dX12_nameHere_99 (by decide) rfl ?_
        refine r_iinc (pc := 100) (x := v3) (L' := [some (.ref 81), some (.int (zI v1)), some (.int (zI (bI (if x14 = (h14 84 ((h14 83 v1) + v3)) then true else false)))), some (.int (zI (v3 + 1)))]) dX12_nameHere_100 rfl (by decide) rfl ?_
        refine r_goto (pc := 103) (tgt := 51) dX12_nameHere_103 (by decide) ?_
        exact w
      refine r_icmp_ne (pc := 91) (x := x14) (y := (h14 84 ((h14 83 v1) + v3))) (tgt := 98) dX12_nameHere_91 (by decide) hr17 hr18 (fun c => ?_) (fun c => ?_)
      · refine r_iconst (pc := 98) dX12_nameHere_98 ?_
        simp only [if_neg (c)] at kk19 ⊢
        exact kk19
      · refine r_iconst (pc := 94) dX12_nameHere_94 ?_
        refine r_goto (pc := 95) (tgt := 99) dX12_nameHere_95 (by decide) ?_
        simp only [if_pos (c)] at kk19 ⊢
        exact kk19

set_option maxRecDepth 100000 in
set_option maxHeartbeats 4000000 in
theorem wX12_next {h : zMm} {K : zMm → Prop} (w : (zR (h 81 3) ∧ (((h 81 3) ≤ 0 → RR mX12_next 0 0 8 [some (.ref 81), none] [] zS0 h (zQv zS0 K)) ∧ (¬ (h 81 3) ≤ 0 → K h)))) : zCv mX12_next [.ref 81] zS0 h K := by
  show RR mX12_next 0 0 0 [some (.ref 81), none] [] zS0 h (zQv zS0 K)
  refine r_aload_n (pc := 0) (a := 81) dX12_next_0 rfl ?_
  refine r_getI (pc := 1) (fi := 3) (x := (h 81 3)) fl_X12_98 dX12_next_1 s0_81 rfl (rfl) ?_
  obtain ⟨hr1, w⟩ := w
  refine r_if_le (pc := 4) (x := (h 81 3)) (tgt := 8) dX12_next_4 (by decide) hr1 (fun c => ?_) (fun c => ?_)
  · have w := w.1 (c)
    exact w
  · have w := w.2 (c)
    exact r_ret (st := []) (pc := 7) dX12_next_7 rfl rfl (by decide) ⟨rfl, rfl, w⟩

set_option maxRecDepth 100000 in
set_option maxHeartbeats 4000000 in
theorem bX12_next_8 {h : zMm} {K : zMm → Prop} (w : zCi mX12_byteAt [.ref 81, .int (zI (h 81 5))] zS0 h (fun x2 h2 => (zR x2 ∧ ((¬ x2 = 32 → zCi mX12_byteAt [.ref 81, .int (zI (h2 81 5))] zS0 (zU h2 81 6 (h2 81 5)) (fun x4 h4 => (zR x4 ∧ ((¬ x4 = (-4) → zCb mX12_in [.long (zJ x4), .long (zJ 97), .long (zJ 122)] zS0 (zU h4 81 8 0) (fun b6 h6 => ((b6 = false → zCb mX12_in [.long (zJ x4), .long (zJ 48), .long (zJ 57)] zS0 h6 (fun b7 h7 => ((b7 = false → ((x4 = 59 → K (zU (zU h7 81 7 3) 81 5 ((h7 81 5) + 1))) ∧ (¬ x4 = 59 → zCv mX12_fails [.ref 81, .int (zI 1)] zS0 (zU (zU h7 81 7 3) 81 5 ((h7 81 5) + 1)) (fun h8 => K h8)))) ∧ (b7 = true → RR mX12_next 0 0 140 [some (.ref 81), none] [] zS0 h7 (zQv zS0 K))))) ∧ (b6 = true → RR mX12_next 0 0 84 [some (.ref 81), none] [] zS0 h6 (zQv zS0 K))))) ∧ (x4 = (-4) → K (zU (zU h4 81 8 0) 81 7 0)))))) ∧ (x2 = 32 → RR mX12_next 0 0 8 [some (.ref 81), none] [] zS0 (zU h2 81 5 ((h2 81 5) + 1)) (zQv zS0 K)))))) : RR mX12_next 0 0 8 [some (.ref 81), none] [] zS0 h (zQv zS0 K) := by
  refine r_aload_n (pc := 8) (a := 81) dX12_next_8 rfl ?_
  refine r_aload_n (pc := 9) (a := 81) dX12_next_9 rfl ?_
  refine r_getI (pc := 10) (fi := 5) (x := (h 81 5)) fl_X12_110 dX12_next_10 s0_81 rfl (rfl) ?_
  refine r_callV (μ2 := mX12_byteAt) (pc := 13) (as := [.int (zI (h 81 5))]) (st := []) rfl s0_81 ml_X12_113 im_X12_byteAt se_X12_byteAt okX12_byteAt ⟨by decide, by decide⟩ dX12_next_13 (Nat.le_of_ble_eq_true rfl) rfl (Nat.le_of_ble_eq_true rfl) (by decide) (by decide) (zCC.mono w ?_)
  rintro r S' h2 ⟨rfl, x2, hr, w⟩
  subst hr
  show RR mX12_next 0 0 16 [some (.ref 81), none] [.int (zI x2)] zS0 h2 (zQv zS0 K)
  refine r_bipush (pc := 16) (x := 32) dX12_next_16 (by decide) ?_
  obtain ⟨hr3, w⟩ := w
  refine r_icmp_ne (pc := 18) (x := x2) (y := 32) (tgt := 34) dX12_next_18 (by decide) hr3 (by decide) (fun c => ?_) (fun c => ?_)
  · have w := w.1 (c)
    refine r_aload_n (pc := 34) (a := 81) dX12_next_34 rfl ?_
    refine r_aload_n (pc := 35) (a := 81) dX12_next_35 rfl ?_
    refine r_getI (pc := 36) (fi := 5) (x := (h2 81 5)) fl_X12_110 dX12_next_36 s0_81 rfl (rfl) ?_
    refine r_putI (pc := 39) (fi := 6) (x := (h2 81 5)) fl_X12_101 dX12_next_39 s0_81 rfl ?_
    refine r_aload_n (pc := 42) (a := 81) dX12_next_42 rfl ?_
    refine r_aload_n (pc := 43) (a := 81) dX12_next_43 rfl ?_
    refine r_getI (pc := 44) (fi := 5) (x := (h2 81 5)) fl_X12_110 dX12_next_44 s0_81 rfl (zU_ne (by omega)) ?_
    refine r_callV (μ2 := mX12_byteAt) (pc := 47) (as := [.int (zI (h2 81 5))]) (st := []) rfl s0_81 ml_X12_113 im_X12_byteAt se_X12_byteAt okX12_byteAt ⟨by decide, by decide⟩ dX12_next_47 (Nat.le_of_ble_eq_true rfl) rfl (Nat.le_of_ble_eq_true rfl) (by decide) (by decide) (zCC.mono w ?_)
    rintro r S' h4 ⟨rfl, x4, hr, w⟩
    subst hr
    show RR mX12_next 0 0 50 [some (.ref 81), none] [.int (zI x4)] zS0 h4 (zQv zS0 K)
    refine r_istore_n (pc := 50) (L' := [some (.ref 81), some (.int (zI x4))]) dX12_next_50 (by decide) rfl ?_
    refine r_aload_n (pc := 51) (a := 81) dX12_next_51 rfl ?_
    refine r_iconst (pc := 52) dX12_next_52 ?_
    refine r_putI (pc := 53) (fi := 8) (x := 0) fl_X12_117 dX12_next_53 s0_81 rfl ?_
    refine r_iload_n (pc := 56) (x := x4) dX12_next_56 rfl ?_
    refine r_bipush (pc := 57) (x := (-4)) dX12_next_57 (by decide) ?_
    obtain ⟨hr5, w⟩ := w
    refine r_icmp_ne (pc := 59) (x := x4) (y := (-4)) (tgt := 70) dX12_next_59 (by decide) hr5 (by decide) (fun c => ?_) (fun c => ?_)
    · have w := w.1 (c)
      refine r_iload_n (pc := 70) (x := x4) dX12_next_70 rfl ?_
      refine r_i2l (pc := 71) (x := x4) dX12_next_71 hr5 ?_
      refine r_ldcL (pc := 72) (x := 97) dX12_next_72 kl_X12_120 ?_
      refine r_ldcL (pc := 75) (x := 122) dX12_next_75 kl_X12_122 ?_
      refine r_callS (μ2 := mX12_in) (pc := 78) (as := [.long (zJ x4), .long (zJ 97), .long (zJ 122)]) (st := []) ml_X12_94 sm_X12_in okX12_in ⟨by decide, by decide⟩ dX12_next_78 (Nat.le_of_ble_eq_true rfl) rfl (Nat.le_of_ble_eq_true rfl) (by decide) (by decide) (zCC.mono w ?_)
      rintro r S' h6 ⟨rfl, b6, hr, w⟩
      subst hr
      show RR mX12_next 0 0 81 [some (.ref 81), some (.int (zI x4))] [.int (zI (bI b6))] zS0 h6 (zQv zS0 K)
      refine r_if_eq (pc := 81) (x := (bI b6)) (tgt := 126) dX12_next_81 (by decide) (bI_R _) (fun c => ?_) (fun c => ?_)
      · have w := w.1 (bI_0.mp c)
        refine r_iload_n (pc := 126) (x := x4) dX12_next_126 rfl ?_
        refine r_i2l (pc := 127) (x := x4) dX12_next_127 hr5 ?_
        refine r_ldcL (pc := 128) (x := 48) dX12_next_128 kl_X12_124 ?_
        refine r_ldcL (pc := 131) (x := 57) dX12_next_131 kl_X12_126 ?_
        refine r_callS (μ2 := mX12_in) (pc := 134) (as := [.long (zJ x4), .long (zJ 48), .long (zJ 57)]) (st := []) ml_X12_94 sm_X12_in okX12_in ⟨by decide, by decide⟩ dX12_next_134 (Nat.le_of_ble_eq_true rfl) rfl (Nat.le_of_ble_eq_true rfl) (by decide) (by decide) (zCC.mono w ?_)
        rintro r S' h7 ⟨rfl, b7, hr, w⟩
        subst hr
        show RR mX12_next 0 0 137 [some (.ref 81), some (.int (zI x4))] [.int (zI (bI b7))] zS0 h7 (zQv zS0 K)
        refine r_if_eq (pc := 137) (x := (bI b7)) (tgt := 243) dX12_next_137 (by decide) (bI_R _) (fun c => ?_) (fun c => ?_)
        · have w := w.1 (bI_0.mp c)
          refine r_aload_n (pc := 243) (a := 81) dX12_next_243 rfl ?_
          refine r_iconst (pc := 244) dX12_next_244 ?_
          refine r_putI (pc := 245) (fi := 7) (x := 3) fl_X12_107 dX12_next_245 s0_81 rfl ?_
          refine r_aload_n (pc := 248) (a := 81) dX12_next_248 rfl ?_
          refine r_dup (pc := 249) rfl dX12_next_249 ?_
          refine r_getI (pc := 250) (fi := 5) (x := (h7 81 5)) fl_X12_110 dX12_next_250 s0_81 rfl (zU_ne (by omega)) ?_
          refine r_iconst (pc := 253) dX12_next_253 ?_
          refine r_iadd (pc := 254) (x := (h7 81 5)) (y := 1) dX12_next_254 ?_
          refine r_putI (pc := 255) (fi := 5) (x := ((h7 81 5) + 1)) fl_X12_110 dX12_next_255 s0_81 rfl ?_
          refine r_iload_n (pc := 258) (x := x4) dX12_next_258 rfl ?_
          refine r_bipush (pc := 259) (x := 59) dX12_next_259 (by decide) ?_
          refine r_icmp_eq (pc := 261) (x := x4) (y := 59) (tgt := 269) dX12_next_261 (by decide) hr5 (by decide) (fun c => ?_) (fun c => ?_)
          · have w := w.1 (c)
            exact r_ret (st := []) (pc := 269) dX12_next_269 rfl rfl (by decide) ⟨rfl, rfl, w⟩
          · have w := w.2 (c)
            refine r_aload_n (pc := 264) (a := 81) dX12_next_264 rfl ?_
            refine r_iconst (pc := 265) dX12_next_265 ?_
            refine r_callV (μ2 := mX12_fails) (pc := 266) (as := [.int (zI 1)]) (st := []) rfl s0_81 ml_X12_128 im_X12_fails se_X12_fails okX12_fails ⟨by decide, by decide⟩ dX12_next_266 (Nat.le_of_ble_eq_true rfl) rfl (Nat.le_of_ble_eq_true rfl) (by decide) (by decide) (zCC.mono w ?_)
            rintro r S' h8 ⟨rfl, hr, w⟩
            subst hr
            show RR mX12_next 0 0 269 [some (.ref 81), some (.int (zI x4))] [] zS0 h8 (zQv zS0 K)
            exact r_ret (st := []) (pc := 269) dX12_next_269 rfl rfl (by decide) ⟨rfl, rfl, w⟩
        · have w := w.2 (bI_n.mp c)
          exact RR.sub (L' := [some (.ref 81), none]) (zSb_of (⟨rfl, trivial⟩)) w
      · have w := w.2 (bI_n.mp c)
        exact RR.sub (L' := [some (.ref 81), none]) (zSb_of (⟨rfl, trivial⟩)) w
    · have w := w.2 (c)
      refine r_aload_n (pc := 62) (a := 81) dX12_next_62 rfl ?_
      refine r_iconst (pc := 63) dX12_next_63 ?_
      refine r_putI (pc := 64) (fi := 7) (x := 0) fl_X12_107 dX12_next_64 s0_81 rfl ?_
      refine r_goto (pc := 67) (tgt := 269) dX12_next_67 (by decide) ?_
      exact r_ret (st := []) (pc := 269) dX12_next_269 rfl rfl (by decide) ⟨rfl, rfl, w⟩
  · have w := w.2 (c)
    refine r_aload_n (pc := 21) (a := 81) dX12_next_21 rfl ?_
    refine r_dup (pc := 22) rfl dX12_next_22 ?_
    refine r_getI (pc := 23) (fi := 5) (x := (h2 81 5)) fl_X12_110 dX12_next_23 s0_81 rfl (rfl) ?_
    refine r_iconst (pc := 26) dX12_next_26 ?_
    refine r_iadd (pc := 27) (x := (h2 81 5)) (y := 1) dX12_next_27 ?_
    refine r_putI (pc := 28) (fi := 5) (x := ((h2 81 5) + 1)) fl_X12_110 dX12_next_28 s0_81 rfl ?_
    refine r_goto (pc := 31) (tgt := 8) dX12_next_31 (by decide) ?_
    exact w

set_option maxRecDepth 100000 in
set_option maxHeartbeats 4000000 in
theorem bX12_next_84 {h : zMm} {K : zMm → Prop} (w : zCi mX12_byteAt [.ref 81, .int (zI (h 81 5))] zS0 h (fun x9 h9 => (zR x9 ∧ zCb mX12_in [.long (zJ x9), .long (zJ 97), .long (zJ 122)] zS0 h9 (fun b11 h11 => ((b11 = false → K (zU h11 81 7 1)) ∧ (b11 = true → RR mX12_next 0 0 84 [some (.ref 81), none] [] zS0 (zU h11 81 5 ((h11 81 5) + 1)) (zQv zS0 K))))))) : RR mX12_next 0 0 84 [some (.ref 81), none] [] zS0 h (zQv zS0 K) := by
  refine r_aload_n (pc := 84) (a := 81) dX12_next_84 rfl ?_
  refine r_aload_n (pc := 85) (a := 81) dX12_next_85 rfl ?_
  refine r_getI (pc := 86) (fi := 5) (x := (h 81 5)) fl_X12_110 dX12_next_86 s0_81 rfl (rfl) ?_
  refine r_callV (μ2 := mX12_byteAt) (pc := 89) (as := [.int (zI (h 81 5))]) (st := []) rfl s0_81 ml_X12_113 im_X12_byteAt se_X12_byteAt okX12_byteAt ⟨by decide, by decide⟩ dX12_next_89 (Nat.le_of_ble_eq_true rfl) rfl (Nat.le_of_ble_eq_true rfl) (by decide) (by decide) (zCC.mono w ?_)
  rintro r S' h9 ⟨rfl, x9, hr, w⟩
  subst hr
  show RR mX12_next 0 0 92 [some (.ref 81), none] [.int (zI x9)] zS0 h9 (zQv zS0 K)
  obtain ⟨hr10, w⟩ := w
  refine r_i2l (pc := 92) (x := x9) dX12_next_92 hr10 ?_
  refine r_ldcL (pc := 93) (x := 97) dX12_next_93 kl_X12_120 ?_
  refine r_ldcL (pc := 96) (x := 122) dX12_next_96 kl_X12_122 ?_
  refine r_callS (μ2 := mX12_in) (pc := 99) (as := [.long (zJ x9), .long (zJ 97), .long (zJ 122)]) (st := []) ml_X12_94 sm_X12_in okX12_in ⟨by decide, by decide⟩ dX12_next_99 (Nat.le_of_ble_eq_true rfl) rfl (Nat.le_of_ble_eq_true rfl) (by decide) (by decide) (zCC.mono w ?_)
  rintro r S' h11 ⟨rfl, b11, hr, w⟩
  subst hr
  show RR mX12_next 0 0 102 [some (.ref 81), none] [.int (zI (bI b11))] zS0 h11 (zQv zS0 K)
  refine r_if_eq (pc := 102) (x := (bI b11)) (tgt := 118) dX12_next_102 (by decide) (bI_R _) (fun c => ?_) (fun c => ?_)
  · have w := w.1 (bI_0.mp c)
    refine r_aload_n (pc := 118) (a := 81) dX12_next_118 rfl ?_
    refine r_iconst (pc := 119) dX12_next_119 ?_
    refine r_putI (pc := 120) (fi := 7) (x := 1) fl_X12_107 dX12_next_120 s0_81 rfl ?_
    refine r_goto (pc := 123) (tgt := 269) dX12_next_123 (by decide) ?_
    exact r_ret (st := []) (pc := 269) dX12_next_269 rfl rfl (by decide) ⟨rfl, rfl, w⟩
  · have w := w.2 (bI_n.mp c)
    refine r_aload_n (pc := 105) (a := 81) dX12_next_105 rfl ?_
    refine r_dup (pc := 106) rfl dX12_next_106 ?_
    refine r_getI (pc := 107) (fi := 5) (x := (h11 81 5)) fl_X12_110 dX12_next_107 s0_81 rfl (rfl) ?_
    refine r_iconst (pc := 110) dX12_next_110 ?_
    refine r_iadd (pc := 111) (x := (h11 81 5)) (y := 1) dX12_next_111 ?_
    refine r_putI (pc := 112) (fi := 5) (x := ((h11 81 5) + 1)) fl_X12_110 dX12_next_112 s0_81 rfl ?_
    refine r_goto (pc := 115) (tgt := 84) dX12_next_115 (by decide) ?_
    exact w

set_option maxRecDepth 100000 in
set_option maxHeartbeats 4000000 in
theorem bX12_next_140 {h : zMm} {K : zMm → Prop} (w : zCi mX12_byteAt [.ref 81, .int (zI (h 81 5))] zS0 h (fun x12 h12 => (zR x12 ∧ zCb mX12_in [.long (zJ x12), .long (zJ 48), .long (zJ 57)] zS0 h12 (fun b14 h14 => (zR ((h14 81 5) - (h14 81 6)) ∧ ((b14 = false → ((((h14 81 5) - (h14 81 6)) ≤ 3 → K (zU h14 81 7 2)) ∧ (¬ ((h14 81 5) - (h14 81 6)) ≤ 3 → zCv mX12_fails [.ref 81, .int (zI 1)] zS0 (zU h14 81 7 2) (fun h18 => K h18)))) ∧ (b14 = true → ((3 ≤ ((h14 81 5) - (h14 81 6)) → RR mX12_next 0 0 140 [some (.ref 81), none] [] zS0 (zU (zU h14 81 8 (h14 81 8)) 81 5 ((h14 81 5) + 1)) (zQv zS0 K)) ∧ (¬ 3 ≤ ((h14 81 5) - (h14 81 6)) → zCi mX12_byteAt [.ref 81, .int (zI (h14 81 5))] zS0 h14 (fun x19 h19 => RR mX12_next 0 0 140 [some (.ref 81), none] [] zS0 (zU (zU h19 81 8 (((10 * (h14 81 8)) + x19) - 48)) 81 5 ((h19 81 5) + 1)) (zQv zS0 K))))))))))) : RR mX12_next 0 0 140 [some (.ref 81), none] [] zS0 h (zQv zS0 K) := by
  refine r_aload_n (pc := 140) (a := 81) dX12_next_140 rfl ?_
  refine r_aload_n (pc := 141) (a := 81) dX12_next_141 rfl ?_
  refine r_getI (pc := 142) (fi := 5) (x := (h 81 5)) fl_X12_110 dX12_next_142 s0_81 rfl (rfl) ?_
  refine r_callV (μ2 := mX12_byteAt) (pc := 145) (as := [.int (zI (h 81 5))]) (st := []) rfl s0_81 ml_X12_113 im_X12_byteAt se_X12_byteAt okX12_byteAt ⟨by decide, by decide⟩ dX12_next_145 (Nat.le_of_ble_eq_true rfl) rfl (Nat.le_of_ble_eq_true rfl) (by decide) (by decide) (zCC.mono w ?_)
  rintro r S' h12 ⟨rfl, x12, hr, w⟩
  subst hr
  show RR mX12_next 0 0 148 [some (.ref 81), none] [.int (zI x12)] zS0 h12 (zQv zS0 K)
  obtain ⟨hr13, w⟩ := w
  refine r_i2l (pc := 148) (x := x12) dX12_next_148 hr13 ?_
  refine r_ldcL (pc := 149) (x := 48) dX12_next_149 kl_X12_124 ?_
  refine r_ldcL (pc := 152) (x := 57) dX12_next_152 kl_X12_126 ?_
  refine r_callS (μ2 := mX12_in) (pc := 155) (as := [.long (zJ x12), .long (zJ 48), .long (zJ 57)]) (st := []) ml_X12_94 sm_X12_in okX12_in ⟨by decide, by decide⟩ dX12_next_155 (Nat.le_of_ble_eq_true rfl) rfl (Nat.le_of_ble_eq_true rfl) (by decide) (by decide) (zCC.mono w ?_)
  rintro r S' h14 ⟨rfl, b14, hr, w⟩
  subst hr
  show RR mX12_next 0 0 158 [some (.ref 81), none] [.int (zI (bI b14))] zS0 h14 (zQv zS0 K)
  obtain ⟨hr16, w⟩ := w
  refine r_if_eq (pc := 158) (x := (bI b14)) (tgt := 217) dX12_next_158 (by decide) (bI_R _) (fun c => ?_) (fun c => ?_)
  · have w := w.1 (bI_0.mp c)
    refine r_aload_n (pc := 217) (a := 81) dX12_next_217 rfl ?_
    refine r_iconst (pc := 218) dX12_next_218 ?_
    refine r_putI (pc := 219) (fi := 7) (x := 2) fl_X12_107 dX12_next_219 s0_81 rfl ?_
    refine r_aload_n (pc := 222) (a := 81) dX12_next_222 rfl ?_
    refine r_getI (pc := 223) (fi := 5) (x := (h14 81 5)) fl_X12_110 dX12_next_223 s0_81 rfl (zU_ne (by omega)) ?_
    refine r_aload_n (pc := 226) (a := 81) dX12_next_226 rfl ?_
    refine r_getI (pc := 227) (fi := 6) (x := (h14 81 6)) fl_X12_101 dX12_next_227 s0_81 rfl (zU_ne (by omega)) ?_
    refine r_isub (pc := 230) (x := (h14 81 5)) (y := (h14 81 6)) dX12_next_230 ?_
    refine r_iconst (pc := 231) dX12_next_231 ?_
    refine r_icmp_le (pc := 232) (x := ((h14 81 5) - (h14 81 6))) (y := 3) (tgt := 269) dX12_next_232 (by decide) hr16 (by decide) (fun c => ?_) (fun c => ?_)
    · have w := w.1 (c)
      exact r_ret (st := []) (pc := 269) dX12_next_269 rfl rfl (by decide) ⟨rfl, rfl, w⟩
    · have w := w.2 (c)
      refine r_aload_n (pc := 235) (a := 81) dX12_next_235 rfl ?_
      refine r_iconst (pc := 236) dX12_next_236 ?_
      refine r_callV (μ2 := mX12_fails) (pc := 237) (as := [.int (zI 1)]) (st := []) rfl s0_81 ml_X12_128 im_X12_fails se_X12_fails okX12_fails ⟨by decide, by decide⟩ dX12_next_237 (Nat.le_of_ble_eq_true rfl) rfl (Nat.le_of_ble_eq_true rfl) (by decide) (by decide) (zCC.mono w ?_)
      rintro r S' h18 ⟨rfl, hr, w⟩
      subst hr
      show RR mX12_next 0 0 240 [some (.ref 81), none] [] zS0 h18 (zQv zS0 K)
      refine r_goto (pc := 240) (tgt := 269) dX12_next_240 (by decide) ?_
      exact r_ret (st := []) (pc := 269) dX12_next_269 rfl rfl (by decide) ⟨rfl, rfl, w⟩
  · have w := w.2 (bI_n.mp c)
    refine r_aload_n (pc := 161) (a := 81) dX12_next_161 rfl ?_
    refine r_aload_n (pc := 162) (a := 81) dX12_next_162 rfl ?_
    refine r_getI (pc := 163) (fi := 5) (x := (h14 81 5)) fl_X12_110 dX12_next_163 s0_81 rfl (rfl) ?_
    refine r_aload_n (pc := 166) (a := 81) dX12_next_166 rfl ?_
    refine r_getI (pc := 167) (fi := 6) (x := (h14 81 6)) fl_X12_101 dX12_next_167 s0_81 rfl (rfl) ?_
    refine r_isub (pc := 170) (x := (h14 81 5)) (y := (h14 81 6)) dX12_next_170 ?_
    refine r_iconst (pc := 171) dX12_next_171 ?_
    refine r_icmp_ge (pc := 172) (x := ((h14 81 5) - (h14 81 6))) (y := 3) (tgt := 197) dX12_next_172 (by decide) hr16 (by decide) (fun c => ?_) (fun c => ?_)
    · have w := w.1 (c)
      refine r_aload_n (pc := 197) (a := 81) dX12_next_197 rfl ?_
      refine r_getI (pc := 198) (fi := 8) (x := (h14 81 8)) fl_X12_117 dX12_next_198 s0_81 rfl (rfl) ?_
      refine r_putI (pc := 201) (fi := 8) (x := (h14 81 8)) fl_X12_117 dX12_next_201 s0_81 rfl ?_
      refine r_aload_n (pc := 204) (a := 81) dX12_next_204 rfl ?_
      refine r_dup (pc := 205) rfl dX12_next_205 ?_
      refine r_getI (pc := 206) (fi := 5) (x := (h14 81 5)) fl_X12_110 dX12_next_206 s0_81 rfl (zU_ne (by omega)) ?_
      refine r_iconst (pc := 209) dX12_next_209 ?_
      refine r_iadd (pc := 210) (x := (h14 81 5)) (y := 1) dX12_next_210 ?_
      refine r_putI (pc := 211) (fi := 5) (x := ((h14 81 5) + 1)) fl_X12_110 dX12_next_211 s0_81 rfl ?_
      refine r_goto (pc := 214) (tgt := 140) dX12_next_214 (by decide) ?_
      exact w
    · have w := w.2 (c)
      refine r_bipush (pc := 175) (x := 10) dX12_next_175 (by decide) ?_
      refine r_aload_n (pc := 177) (a := 81) dX12_next_177 rfl ?_
      refine r_getI (pc := 178) (fi := 8) (x := (h14 81 8)) fl_X12_117 dX12_next_178 s0_81 rfl (rfl) ?_
      refine r_imul (pc := 181) (x := 10) (y := (h14 81 8)) dX12_next_181 ?_
      refine r_aload_n (pc := 182) (a := 81) dX12_next_182 rfl ?_
      refine r_aload_n (pc := 183) (a := 81) dX12_next_183 rfl ?_
      refine r_getI (pc := 184) (fi := 5) (x := (h14 81 5)) fl_X12_110 dX12_next_184 s0_81 rfl (rfl) ?_
      refine r_callV (μ2 := mX12_byteAt) (pc := 187) (as := [.int (zI (h14 81 5))]) (st := [.int (zI (10 * (h14 81 8))), .ref 81]) rfl s0_81 ml_X12_113 im_X12_byteAt se_X12_byteAt okX12_byteAt ⟨by decide, by decide⟩ dX12_next_187 (Nat.le_of_ble_eq_true rfl) rfl (Nat.le_of_ble_eq_true rfl) (by decide) (by decide) (zCC.mono w ?_)
      rintro r S' h19 ⟨rfl, x19, hr, w⟩
      subst hr
      show RR mX12_next 0 0 190 [some (.ref 81), none] [.int (zI x19), .int (zI (10 * (h14 81 8))), .ref 81] zS0 h19 (zQv zS0 K)
      refine r_iadd (pc := 190) (x := (10 * (h14 81 8))) (y := x19) dX12_next_190 ?_
      refine r_bipush (pc := 191) (x := 48) dX12_next_191 (by decide) ?_
      refine r_isub (pc := 193) (x := ((10 * (h14 81 8)) + x19)) (y := 48) dX12_next_193 ?_
      refine r_goto (pc := 194) (tgt := 201) dX12_next_194 (by decide) ?_
      refine r_putI (pc := 201) (fi := 8) (x := (((10 * (h14 81 8)) + x19) - 48)) fl_X12_117 dX12_next_201 s0_81 rfl ?_
      refine r_aload_n (pc := 204) (a := 81) dX12_next_204 rfl ?_
      refine r_dup (pc := 205) rfl dX12_next_205 ?_
      refine r_getI (pc := 206) (fi := 5) (x := (h19 81 5)) fl_X12_110 dX12_next_206 s0_81 rfl (zU_ne (by omega)) ?_
      refine r_iconst (pc := 209) dX12_next_209 ?_
      refine r_iadd (pc := 210) (x := (h19 81 5)) (y := 1) dX12_next_210 ?_
      refine r_putI (pc := 211) (fi := 5) (x := ((h19 81 5) + 1)) fl_X12_110 dX12_next_211 s0_81 rfl ?_
      refine r_goto (pc := 214) (tgt := 140) dX12_next_214 (by decide) ?_
      exact w

set_option maxRecDepth 100000 in
set_option maxHeartbeats 4000000 in
theorem wX12_here {h : zMm} {K : Int → zMm → Prop} {v1 : Int} {v2 : Int} (w : (zR (h 81 3) ∧ (zR (h 81 7) ∧ ((¬ (h 81 3) = 0 → ((¬ (h 81 3) = 0 → K (if (h 81 3) = 0 then (h 81 8) else (0 : Int)) h) ∧ ((h 81 3) = 0 → (zR (h 81 8) ∧ (zR v1 ∧ (zR v2 ∧ zCb mX12_in [.long (zJ (h 81 8)), .long (zJ v1), .long (zJ v2)] zS0 h (fun b9 h9 => ((b9 = true → (zR (h9 81 3) ∧ K (if (h9 81 3) = 0 then (h9 81 8) else (0 : Int)) h9)) ∧ (b9 = false → zCv mX12_fails [.ref 81, .int (zI 3)] zS0 h9 (fun h12 => (zR (h12 81 3) ∧ K (if (h12 81 3) = 0 then (h12 81 8) else (0 : Int)) h12))))))))))) ∧ ((h 81 3) = 0 → (((h 81 7) = 2 → ((¬ (h 81 3) = 0 → K (if (h 81 3) = 0 then (h 81 8) else (0 : Int)) h) ∧ ((h 81 3) = 0 → (zR (h 81 8) ∧ (zR v1 ∧ (zR v2 ∧ zCb mX12_in [.long (zJ (h 81 8)), .long (zJ v1), .long (zJ v2)] zS0 h (fun b19 h19 => ((b19 = true → (zR (h19 81 3) ∧ K (if (h19 81 3) = 0 then (h19 81 8) else (0 : Int)) h19)) ∧ (b19 = false → zCv mX12_fails [.ref 81, .int (zI 3)] zS0 h19 (fun h22 => (zR (h22 81 3) ∧ K (if (h22 81 3) = 0 then (h22 81 8) else (0 : Int)) h22))))))))))) ∧ (¬ (h 81 7) = 2 → zCv mX12_fails [.ref 81, .int (zI 2)] zS0 h (fun h25 => (zR (h25 81 3) ∧ ((¬ (h25 81 3) = 0 → K (if (h25 81 3) = 0 then (h25 81 8) else (0 : Int)) h25) ∧ ((h25 81 3) = 0 → (zR (h25 81 8) ∧ (zR v1 ∧ (zR v2 ∧ zCb mX12_in [.long (zJ (h25 81 8)), .long (zJ v1), .long (zJ v2)] zS0 h25 (fun b31 h31 => ((b31 = true → (zR (h31 81 3) ∧ K (if (h31 81 3) = 0 then (h31 81 8) else (0 : Int)) h31)) ∧ (b31 = false → zCv mX12_fails [.ref 81, .int (zI 3)] zS0 h31 (fun h34 => (zR (h34 81 3) ∧ K (if (h34 81 3) = 0 then (h34 81 8) else (0 : Int)) h34))))))))))))))))))) : zCi mX12_here [.ref 81, .int (zI v1), .int (zI v2)] zS0 h K := by
  show RR mX12_here 0 0 0 [some (.ref 81), some (.int (zI v1)), some (.int (zI v2))] [] zS0 h (zQi zS0 K)
  refine r_aload_n (pc := 0) (a := 81) dX12_here_0 rfl ?_
  refine r_getI (pc := 1) (fi := 3) (x := (h 81 3)) fl_X12_98 dX12_here_1 s0_81 rfl (rfl) ?_
  obtain ⟨hr1, w⟩ := w
  obtain ⟨hr3, w⟩ := w
  refine r_if_ne (pc := 4) (x := (h 81 3)) (tgt := 20) dX12_here_4 (by decide) hr1 (fun c => ?_) (fun c => ?_)
  · have w := w.1 (c)
    refine r_aload_n (pc := 20) (a := 81) dX12_here_20 rfl ?_
    refine r_getI (pc := 21) (fi := 3) (x := (h 81 3)) fl_X12_98 dX12_here_21 s0_81 rfl (rfl) ?_
    refine r_if_ne (pc := 24) (x := (h 81 3)) (tgt := 47) dX12_here_24 (by decide) hr1 (fun c => ?_) (fun c => ?_)
    · have w := w.1 (c)
      refine r_aload_n (pc := 47) (a := 81) dX12_here_47 rfl ?_
      refine r_getI (pc := 48) (fi := 3) (x := (h 81 3)) fl_X12_98 dX12_here_48 s0_81 rfl (rfl) ?_
      have kk5 : RR mX12_here 0 0 62 [some (.ref 81), some (.int (zI v1)), some (.int (zI v2))] [.int (zI (if (h 81 3) = 0 then (h 81 8) else (0 : Int)))] zS0 h (zQi zS0 K) := by
        exact r_iret (st := []) (pc := 62) (x := (if (h 81 3) = 0 then (h 81 8) else (0 : Int))) (ty := .int) dX12_here_62 rfl rfl rfl (by decide) ⟨rfl, _, rfl, w⟩
      refine r_if_ne (pc := 51) (x := (h 81 3)) (tgt := 61) dX12_here_51 (by decide) hr1 (fun c => ?_) (fun c => ?_)
      · refine r_iconst (pc := 61) dX12_here_61 ?_
        simp only [if_neg (c)] at kk5 ⊢
        exact kk5
      · refine r_aload_n (pc := 54) (a := 81) dX12_here_54 rfl ?_
        refine r_getI (pc := 55) (fi := 8) (x := (h 81 8)) fl_X12_117 dX12_here_55 s0_81 rfl (rfl) ?_
        refine r_goto (pc := 58) (tgt := 62) dX12_here_58 (by decide) ?_
        simp only [if_pos (c)] at kk5 ⊢
        exact kk5
    · have w := w.2 (c)
      refine r_aload_n (pc := 27) (a := 81) dX12_here_27 rfl ?_
      refine r_getI (pc := 28) (fi := 8) (x := (h 81 8)) fl_X12_117 dX12_here_28 s0_81 rfl (rfl) ?_
      obtain ⟨hr6, w⟩ := w
      refine r_i2l (pc := 31) (x := (h 81 8)) dX12_here_31 hr6 ?_
      refine r_iload_n (pc := 32) (x := v1) dX12_here_32 rfl ?_
      obtain ⟨hr7, w⟩ := w
      refine r_i2l (pc := 33) (x := v1) dX12_here_33 hr7 ?_
      refine r_iload_n (pc := 34) (x := v2) dX12_here_34 rfl ?_
      obtain ⟨hr8, w⟩ := w
      refine r_i2l (pc := 35) (x := v2) dX12_here_35 hr8 ?_
      refine r_callS (μ2 := mX12_in) (pc := 36) (as := [.long (zJ (h 81 8)), .long (zJ v1), .long (zJ v2)]) (st := []) ml_X12_94 sm_X12_in okX12_in ⟨by decide, by decide⟩ dX12_here_36 (Nat.le_of_ble_eq_true rfl) rfl (Nat.le_of_ble_eq_true rfl) (by decide) (by decide) (zCC.mono w ?_)
      rintro r S' h9 ⟨rfl, b9, hr, w⟩
      subst hr
      show RR mX12_here 0 0 39 [some (.ref 81), some (.int (zI v1)), some (.int (zI v2))] [.int (zI (bI b9))] zS0 h9 (zQi zS0 K)
      refine r_if_ne (pc := 39) (x := (bI b9)) (tgt := 47) dX12_here_39 (by decide) (bI_R _) (fun c => ?_) (fun c => ?_)
      · have w := w.1 (bI_n.mp c)
        refine r_aload_n (pc := 47) (a := 81) dX12_here_47 rfl ?_
        refine r_getI (pc := 48) (fi := 3) (x := (h9 81 3)) fl_X12_98 dX12_here_48 s0_81 rfl (rfl) ?_
        obtain ⟨hr10, w⟩ := w
        have kk11 : RR mX12_here 0 0 62 [some (.ref 81), some (.int (zI v1)), some (.int (zI v2))] [.int (zI (if (h9 81 3) = 0 then (h9 81 8) else (0 : Int)))] zS0 h9 (zQi zS0 K) := by
          exact r_iret (st := []) (pc := 62) (x := (if (h9 81 3) = 0 then (h9 81 8) else (0 : Int))) (ty := .int) dX12_here_62 rfl rfl rfl (by decide) ⟨rfl, _, rfl, w⟩
        refine r_if_ne (pc := 51) (x := (h9 81 3)) (tgt := 61) dX12_here_51 (by decide) hr10 (fun c => ?_) (fun c => ?_)
        · refine r_iconst (pc := 61) dX12_here_61 ?_
          simp only [if_neg (c)] at kk11 ⊢
          exact kk11
        · refine r_aload_n (pc := 54) (a := 81) dX12_here_54 rfl ?_
          refine r_getI (pc := 55) (fi := 8) (x := (h9 81 8)) fl_X12_117 dX12_here_55 s0_81 rfl (rfl) ?_
          refine r_goto (pc := 58) (tgt := 62) dX12_here_58 (by decide) ?_
          simp only [if_pos (c)] at kk11 ⊢
          exact kk11
      · have w := w.2 (bI_0.mp c)
        refine r_aload_n (pc := 42) (a := 81) dX12_here_42 rfl ?_
        refine r_iconst (pc := 43) dX12_here_43 ?_
        refine r_callV (μ2 := mX12_fails) (pc := 44) (as := [.int (zI 3)]) (st := []) rfl s0_81 ml_X12_128 im_X12_fails se_X12_fails okX12_fails ⟨by decide, by decide⟩ dX12_here_44 (Nat.le_of_ble_eq_true rfl) rfl (Nat.le_of_ble_eq_true rfl) (by decide) (by decide) (zCC.mono w ?_)
        rintro r S' h12 ⟨rfl, hr, w⟩
        subst hr
        show RR mX12_here 0 0 47 [some (.ref 81), some (.int (zI v1)), some (.int (zI v2))] [] zS0 h12 (zQi zS0 K)
        refine r_aload_n (pc := 47) (a := 81) dX12_here_47 rfl ?_
        refine r_getI (pc := 48) (fi := 3) (x := (h12 81 3)) fl_X12_98 dX12_here_48 s0_81 rfl (rfl) ?_
        obtain ⟨hr13, w⟩ := w
        have kk14 : RR mX12_here 0 0 62 [some (.ref 81), some (.int (zI v1)), some (.int (zI v2))] [.int (zI (if (h12 81 3) = 0 then (h12 81 8) else (0 : Int)))] zS0 h12 (zQi zS0 K) := by
          exact r_iret (st := []) (pc := 62) (x := (if (h12 81 3) = 0 then (h12 81 8) else (0 : Int))) (ty := .int) dX12_here_62 rfl rfl rfl (by decide) ⟨rfl, _, rfl, w⟩
        refine r_if_ne (pc := 51) (x := (h12 81 3)) (tgt := 61) dX12_here_51 (by decide) hr13 (fun c => ?_) (fun c => ?_)
        · refine r_iconst (pc := 61) dX12_here_61 ?_
          simp only [if_neg (c)] at kk14 ⊢
          exact kk14
        · refine r_aload_n (pc := 54) (a := 81) dX12_here_54 rfl ?_
          refine r_getI (pc := 55) (fi := 8) (x := (h12 81 8)) fl_X12_117 dX12_here_55 s0_81 rfl (rfl) ?_
          refine r_goto (pc := 58) (tgt := 62) dX12_here_58 (by decide) ?_
          simp only [if_pos (c)] at kk14 ⊢
          exact kk14
  · have w := w.2 (c)
    refine r_aload_n (pc := 7) (a := 81) dX12_here_7 rfl ?_
    refine r_getI (pc := 8) (fi := 7) (x := (h 81 7)) fl_X12_107 dX12_here_8 s0_81 rfl (rfl) ?_
    refine r_iconst (pc := 11) dX12_here_11 ?_
    refine r_icmp_eq (pc := 12) (x := (h 81 7)) (y := 2) (tgt := 20) dX12_here_12 (by decide) hr3 (by decide) (fun c => ?_) (fun c => ?_)
    · have w := w.1 (c)
      refine r_aload_n (pc := 20) (a := 81) dX12_here_20 rfl ?_
      refine r_getI (pc := 21) (fi := 3) (x := (h 81 3)) fl_X12_98 dX12_here_21 s0_81 rfl (rfl) ?_
      refine r_if_ne (pc := 24) (x := (h 81 3)) (tgt := 47) dX12_here_24 (by decide) hr1 (fun c => ?_) (fun c => ?_)
      · have w := w.1 (c)
        refine r_aload_n (pc := 47) (a := 81) dX12_here_47 rfl ?_
        refine r_getI (pc := 48) (fi := 3) (x := (h 81 3)) fl_X12_98 dX12_here_48 s0_81 rfl (rfl) ?_
        have kk15 : RR mX12_here 0 0 62 [some (.ref 81), some (.int (zI v1)), some (.int (zI v2))] [.int (zI (if (h 81 3) = 0 then (h 81 8) else (0 : Int)))] zS0 h (zQi zS0 K) := by
          exact r_iret (st := []) (pc := 62) (x := (if (h 81 3) = 0 then (h 81 8) else (0 : Int))) (ty := .int) dX12_here_62 rfl rfl rfl (by decide) ⟨rfl, _, rfl, w⟩
        refine r_if_ne (pc := 51) (x := (h 81 3)) (tgt := 61) dX12_here_51 (by decide) hr1 (fun c => ?_) (fun c => ?_)
        · refine r_iconst (pc := 61) dX12_here_61 ?_
          simp only [if_neg (c)] at kk15 ⊢
          exact kk15
        · refine r_aload_n (pc := 54) (a := 81) dX12_here_54 rfl ?_
          refine r_getI (pc := 55) (fi := 8) (x := (h 81 8)) fl_X12_117 dX12_here_55 s0_81 rfl (rfl) ?_
          refine r_goto (pc := 58) (tgt := 62) dX12_here_58 (by decide) ?_
          simp only [if_pos (c)] at kk15 ⊢
          exact kk15
      · have w := w.2 (c)
        refine r_aload_n (pc := 27) (a := 81) dX12_here_27 rfl ?_
        refine r_getI (pc := 28) (fi := 8) (x := (h 81 8)) fl_X12_117 dX12_here_28 s0_81 rfl (rfl) ?_
        obtain ⟨hr16, w⟩ := w
        refine r_i2l (pc := 31) (x := (h 81 8)) dX12_here_31 hr16 ?_
        refine r_iload_n (pc := 32) (x := v1) dX12_here_32 rfl ?_
        obtain ⟨hr17, w⟩ := w
        refine r_i2l (pc := 33) (x := v1) dX12_here_33 hr17 ?_
        refine r_iload_n (pc := 34) (x := v2) dX12_here_34 rfl ?_
        obtain ⟨hr18, w⟩ := w
        refine r_i2l (pc := 35) (x := v2) dX12_here_35 hr18 ?_
        refine r_callS (μ2 := mX12_in) (pc := 36) (as := [.long (zJ (h 81 8)), .long (zJ v1), .long (zJ v2)]) (st := []) ml_X12_94 sm_X12_in okX12_in ⟨by decide, by decide⟩ dX12_here_36 (Nat.le_of_ble_eq_true rfl) rfl (Nat.le_of_ble_eq_true rfl) (by decide) (by decide) (zCC.mono w ?_)
        rintro r S' h19 ⟨rfl, b19, hr, w⟩
        subst hr
        show RR mX12_here 0 0 39 [some (.ref 81), some (.int (zI v1)), some (.int (zI v2))] [.int (zI (bI b19))] zS0 h19 (zQi zS0 K)
        refine r_if_ne (pc := 39) (x := (bI b19)) (tgt := 47) dX12_here_39 (by decide) (bI_R _) (fun c => ?_) (fun c => ?_)
        · have w := w.1 (bI_n.mp c)
          refine r_aload_n (pc := 47) (a := 81) dX12_here_47 rfl ?_
          refine r_getI (pc := 48) (fi := 3) (x := (h19 81 3)) fl_X12_98 dX12_here_48 s0_81 rfl (rfl) ?_
          obtain ⟨hr20, w⟩ := w
          have kk21 : RR mX12_here 0 0 62 [some (.ref 81), some (.int (zI v1)), some (.int (zI v2))] [.int (zI (if (h19 81 3) = 0 then (h19 81 8) else (0 : Int)))] zS0 h19 (zQi zS0 K) := by
            exact r_iret (st := []) (pc := 62) (x := (if (h19 81 3) = 0 then (h19 81 8) else (0 : Int))) (ty := .int) dX12_here_62 rfl rfl rfl (by decide) ⟨rfl, _, rfl, w⟩
          refine r_if_ne (pc := 51) (x := (h19 81 3)) (tgt := 61) dX12_here_51 (by decide) hr20 (fun c => ?_) (fun c => ?_)
          · refine r_iconst (pc := 61) dX12_here_61 ?_
            simp only [if_neg (c)] at kk21 ⊢
            exact kk21
          · refine r_aload_n (pc := 54) (a := 81) dX12_here_54 rfl ?_
            refine r_getI (pc := 55) (fi := 8) (x := (h19 81 8)) fl_X12_117 dX12_here_55 s0_81 rfl (rfl) ?_
            refine r_goto (pc := 58) (tgt := 62) dX12_here_58 (by decide) ?_
            simp only [if_pos (c)] at kk21 ⊢
            exact kk21
        · have w := w.2 (bI_0.mp c)
          refine r_aload_n (pc := 42) (a := 81) dX12_here_42 rfl ?_
          refine r_iconst (pc := 43) dX12_here_43 ?_
          refine r_callV (μ2 := mX12_fails) (pc := 44) (as := [.int (zI 3)]) (st := []) rfl s0_81 ml_X12_128 im_X12_fails se_X12_fails okX12_fails ⟨by decide, by decide⟩ dX12_here_44 (Nat.le_of_ble_eq_true rfl) rfl (Nat.le_of_ble_eq_true rfl) (by decide) (by decide) (zCC.mono w ?_)
          rintro r S' h22 ⟨rfl, hr, w⟩
          subst hr
          show RR mX12_here 0 0 47 [some (.ref 81), some (.int (zI v1)), some (.int (zI v2))] [] zS0 h22 (zQi zS0 K)
          refine r_aload_n (pc := 47) (a := 81) dX12_here_47 rfl ?_
          refine r_getI (pc := 48) (fi := 3) (x := (h22 81 3)) fl_X12_98 dX12_here_48 s0_81 rfl (rfl) ?_
          obtain ⟨hr23, w⟩ := w
          have kk24 : RR mX12_here 0 0 62 [some (.ref 81), some (.int (zI v1)), some (.int (zI v2))] [.int (zI (if (h22 81 3) = 0 then (h22 81 8) else (0 : Int)))] zS0 h22 (zQi zS0 K) := by
            exact r_iret (st := []) (pc := 62) (x := (if (h22 81 3) = 0 then (h22 81 8) else (0 : Int))) (ty := .int) dX12_here_62 rfl rfl rfl (by decide) ⟨rfl, _, rfl, w⟩
          refine r_if_ne (pc := 51) (x := (h22 81 3)) (tgt := 61) dX12_here_51 (by decide) hr23 (fun c => ?_) (fun c => ?_)
          · refine r_iconst (pc := 61) dX12_here_61 ?_
            simp only [if_neg (c)] at kk24 ⊢
            exact kk24
          · refine r_aload_n (pc := 54) (a := 81) dX12_here_54 rfl ?_
            refine r_getI (pc := 55) (fi := 8) (x := (h22 81 8)) fl_X12_117 dX12_here_55 s0_81 rfl (rfl) ?_
            refine r_goto (pc := 58) (tgt := 62) dX12_here_58 (by decide) ?_
            simp only [if_pos (c)] at kk24 ⊢
            exact kk24
    · have w := w.2 (c)
      refine r_aload_n (pc := 15) (a := 81) dX12_here_15 rfl ?_
      refine r_iconst (pc := 16) dX12_here_16 ?_
      refine r_callV (μ2 := mX12_fails) (pc := 17) (as := [.int (zI 2)]) (st := []) rfl s0_81 ml_X12_128 im_X12_fails se_X12_fails okX12_fails ⟨by decide, by decide⟩ dX12_here_17 (Nat.le_of_ble_eq_true rfl) rfl (Nat.le_of_ble_eq_true rfl) (by decide) (by decide) (zCC.mono w ?_)
      rintro r S' h25 ⟨rfl, hr, w⟩
      subst hr
      show RR mX12_here 0 0 20 [some (.ref 81), some (.int (zI v1)), some (.int (zI v2))] [] zS0 h25 (zQi zS0 K)
      refine r_aload_n (pc := 20) (a := 81) dX12_here_20 rfl ?_
      refine r_getI (pc := 21) (fi := 3) (x := (h25 81 3)) fl_X12_98 dX12_here_21 s0_81 rfl (rfl) ?_
      obtain ⟨hr26, w⟩ := w
      refine r_if_ne (pc := 24) (x := (h25 81 3)) (tgt := 47) dX12_here_24 (by decide) hr26 (fun c => ?_) (fun c => ?_)
      · have w := w.1 (c)
        refine r_aload_n (pc := 47) (a := 81) dX12_here_47 rfl ?_
        refine r_getI (pc := 48) (fi := 3) (x := (h25 81 3)) fl_X12_98 dX12_here_48 s0_81 rfl (rfl) ?_
        have kk27 : RR mX12_here 0 0 62 [some (.ref 81), some (.int (zI v1)), some (.int (zI v2))] [.int (zI (if (h25 81 3) = 0 then (h25 81 8) else (0 : Int)))] zS0 h25 (zQi zS0 K) := by
          exact r_iret (st := []) (pc := 62) (x := (if (h25 81 3) = 0 then (h25 81 8) else (0 : Int))) (ty := .int) dX12_here_62 rfl rfl rfl (by decide) ⟨rfl, _, rfl, w⟩
        refine r_if_ne (pc := 51) (x := (h25 81 3)) (tgt := 61) dX12_here_51 (by decide) hr26 (fun c => ?_) (fun c => ?_)
        · refine r_iconst (pc := 61) dX12_here_61 ?_
          simp only [if_neg (c)] at kk27 ⊢
          exact kk27
        · refine r_aload_n (pc := 54) (a := 81) dX12_here_54 rfl ?_
          refine r_getI (pc := 55) (fi := 8) (x := (h25 81 8)) fl_X12_117 dX12_here_55 s0_81 rfl (rfl) ?_
          refine r_goto (pc := 58) (tgt := 62) dX12_here_58 (by decide) ?_
          simp only [if_pos (c)] at kk27 ⊢
          exact kk27
      · have w := w.2 (c)
        refine r_aload_n (pc := 27) (a := 81) dX12_here_27 rfl ?_
        refine r_getI (pc := 28) (fi := 8) (x := (h25 81 8)) fl_X12_117 dX12_here_28 s0_81 rfl (rfl) ?_
        obtain ⟨hr28, w⟩ := w
        refine r_i2l (pc := 31) (x := (h25 81 8)) dX12_here_31 hr28 ?_
        refine r_iload_n (pc := 32) (x := v1) dX12_here_32 rfl ?_
        obtain ⟨hr29, w⟩ := w
        refine r_i2l (pc := 33) (x := v1) dX12_here_33 hr29 ?_
        refine r_iload_n (pc := 34) (x := v2) dX12_here_34 rfl ?_
        obtain ⟨hr30, w⟩ := w
        refine r_i2l (pc := 35) (x := v2) dX12_here_35 hr30 ?_
        refine r_callS (μ2 := mX12_in) (pc := 36) (as := [.long (zJ (h25 81 8)), .long (zJ v1), .long (zJ v2)]) (st := []) ml_X12_94 sm_X12_in okX12_in ⟨by decide, by decide⟩ dX12_here_36 (Nat.le_of_ble_eq_true rfl) rfl (Nat.le_of_ble_eq_true rfl) (by decide) (by decide) (zCC.mono w ?_)
        rintro r S' h31 ⟨rfl, b31, hr, w⟩
        subst hr
        show RR mX12_here 0 0 39 [some (.ref 81), some (.int (zI v1)), some (.int (zI v2))] [.int (zI (bI b31))] zS0 h31 (zQi zS0 K)
        refine r_if_ne (pc := 39) (x := (bI b31)) (tgt := 47) dX12_here_39 (by decide) (bI_R _) (fun c => ?_) (fun c => ?_)
        · have w := w.1 (bI_n.mp c)
          refine r_aload_n (pc := 47) (a := 81) dX12_here_47 rfl ?_
          refine r_getI (pc := 48) (fi := 3) (x := (h31 81 3)) fl_X12_98 dX12_here_48 s0_81 rfl (rfl) ?_
          obtain ⟨hr32, w⟩ := w
          have kk33 : RR mX12_here 0 0 62 [some (.ref 81), some (.int (zI v1)), some (.int (zI v2))] [.int (zI (if (h31 81 3) = 0 then (h31 81 8) else (0 : Int)))] zS0 h31 (zQi zS0 K) := by
            exact r_iret (st := []) (pc := 62) (x := (if (h31 81 3) = 0 then (h31 81 8) else (0 : Int))) (ty := .int) dX12_here_62 rfl rfl rfl (by decide) ⟨rfl, _, rfl, w⟩
          refine r_if_ne (pc := 51) (x := (h31 81 3)) (tgt := 61) dX12_here_51 (by decide) hr32 (fun c => ?_) (fun c => ?_)
          · refine r_iconst (pc := 61) dX12_here_61 ?_
            simp only [if_neg (c)] at kk33 ⊢
            exact kk33
          · refine r_aload_n (pc := 54) (a := 81) dX12_here_54 rfl ?_
            refine r_getI (pc := 55) (fi := 8) (x := (h31 81 8)) fl_X12_117 dX12_here_55 s0_81 rfl (rfl) ?_
            refine r_goto (pc := 58) (tgt := 62) dX12_here_58 (by decide) ?_
            simp only [if_pos (c)] at kk33 ⊢
            exact kk33
        · have w := w.2 (bI_0.mp c)
          refine r_aload_n (pc := 42) (a := 81) dX12_here_42 rfl ?_
          refine r_iconst (pc := 43) dX12_here_43 ?_
          refine r_callV (μ2 := mX12_fails) (pc := 44) (as := [.int (zI 3)]) (st := []) rfl s0_81 ml_X12_128 im_X12_fails se_X12_fails okX12_fails ⟨by decide, by decide⟩ dX12_here_44 (Nat.le_of_ble_eq_true rfl) rfl (Nat.le_of_ble_eq_true rfl) (by decide) (by decide) (zCC.mono w ?_)
          rintro r S' h34 ⟨rfl, hr, w⟩
          subst hr
          show RR mX12_here 0 0 47 [some (.ref 81), some (.int (zI v1)), some (.int (zI v2))] [] zS0 h34 (zQi zS0 K)
          refine r_aload_n (pc := 47) (a := 81) dX12_here_47 rfl ?_
          refine r_getI (pc := 48) (fi := 3) (x := (h34 81 3)) fl_X12_98 dX12_here_48 s0_81 rfl (rfl) ?_
          obtain ⟨hr35, w⟩ := w
          have kk36 : RR mX12_here 0 0 62 [some (.ref 81), some (.int (zI v1)), some (.int (zI v2))] [.int (zI (if (h34 81 3) = 0 then (h34 81 8) else (0 : Int)))] zS0 h34 (zQi zS0 K) := by
            exact r_iret (st := []) (pc := 62) (x := (if (h34 81 3) = 0 then (h34 81 8) else (0 : Int))) (ty := .int) dX12_here_62 rfl rfl rfl (by decide) ⟨rfl, _, rfl, w⟩
          refine r_if_ne (pc := 51) (x := (h34 81 3)) (tgt := 61) dX12_here_51 (by decide) hr35 (fun c => ?_) (fun c => ?_)
          · refine r_iconst (pc := 61) dX12_here_61 ?_
            simp only [if_neg (c)] at kk36 ⊢
            exact kk36
          · refine r_aload_n (pc := 54) (a := 81) dX12_here_54 rfl ?_
            refine r_getI (pc := 55) (fi := 8) (x := (h34 81 8)) fl_X12_117 dX12_here_55 s0_81 rfl (rfl) ?_
            refine r_goto (pc := 58) (tgt := 62) dX12_here_58 (by decide) ?_
            simp only [if_pos (c)] at kk36 ⊢
            exact kk36

set_option maxRecDepth 100000 in
set_option maxHeartbeats 4000000 in
theorem wX12_kindOf {S : zSh} {h : zMm} {K : Int → zMm → Prop} {v0 : Int} (w : (zR v0 ∧ ((v0 = 98 → K 3 h) ∧ (v0 = 103 → K 0 h) ∧ (v0 = 104 → K 4 h) ∧ (v0 = 108 → K 1 h) ∧ (v0 = 120 → K 2 h) ∧ ((¬ v0 = 98 ∧ ¬ v0 = 103 ∧ ¬ v0 = 104 ∧ ¬ v0 = 108 ∧ ¬ v0 = 120) → K (-4) h)))) : zCi mX12_kindOf [.int (zI v0)] S h K := by
  show RR mX12_kindOf 0 0 0 [some (.int (zI v0))] [] S h (zQi S K)
  refine r_iload_n (pc := 0) (x := v0) dX12_kindOf_0 rfl ?_
  obtain ⟨hr1, w⟩ := w
  rcases (show v0 = 98 ∨ v0 = 103 ∨ v0 = 104 ∨ v0 = 108 ∨ v0 = 120 ∨ (¬ v0 = 98 ∧ ¬ v0 = 103 ∧ ¬ v0 = 104 ∧ ¬ v0 = 108 ∧ ¬ v0 = 120) by omega) with hcs | hcs | hcs | hcs | hcs | hcs
  · have w := w.1 hcs
    refine r_lsw (pc := 1) (x := v0) (off := 57) (tgt := 58) dX12_kindOf_1 hr1 (by decide) (by rw [hcs]; rfl) (by decide) ?_
    refine r_iconst (pc := 58) dX12_kindOf_58 ?_
    exact r_iret (st := []) (pc := 59) (x := 3) (ty := .int) dX12_kindOf_59 rfl rfl rfl (by decide) ⟨rfl, _, rfl, w⟩
  · have w := w.2.1 hcs
    refine r_lsw (pc := 1) (x := v0) (off := 51) (tgt := 52) dX12_kindOf_1 hr1 (by decide) (by rw [hcs]; rfl) (by decide) ?_
    refine r_iconst (pc := 52) dX12_kindOf_52 ?_
    exact r_iret (st := []) (pc := 53) (x := 0) (ty := .int) dX12_kindOf_53 rfl rfl rfl (by decide) ⟨rfl, _, rfl, w⟩
  · have w := w.2.2.1 hcs
    refine r_lsw (pc := 1) (x := v0) (off := 59) (tgt := 60) dX12_kindOf_1 hr1 (by decide) (by rw [hcs]; rfl) (by decide) ?_
    refine r_iconst (pc := 60) dX12_kindOf_60 ?_
    exact r_iret (st := []) (pc := 61) (x := 4) (ty := .int) dX12_kindOf_61 rfl rfl rfl (by decide) ⟨rfl, _, rfl, w⟩
  · have w := w.2.2.2.1 hcs
    refine r_lsw (pc := 1) (x := v0) (off := 53) (tgt := 54) dX12_kindOf_1 hr1 (by decide) (by rw [hcs]; rfl) (by decide) ?_
    refine r_iconst (pc := 54) dX12_kindOf_54 ?_
    exact r_iret (st := []) (pc := 55) (x := 1) (ty := .int) dX12_kindOf_55 rfl rfl rfl (by decide) ⟨rfl, _, rfl, w⟩
  · have w := w.2.2.2.2.1 hcs
    refine r_lsw (pc := 1) (x := v0) (off := 55) (tgt := 56) dX12_kindOf_1 hr1 (by decide) (by rw [hcs]; rfl) (by decide) ?_
    refine r_iconst (pc := 56) dX12_kindOf_56 ?_
    exact r_iret (st := []) (pc := 57) (x := 2) (ty := .int) dX12_kindOf_57 rfl rfl rfl (by decide) ⟨rfl, _, rfl, w⟩
  · have w := w.2.2.2.2.2 hcs
    refine r_lsw (pc := 1) (x := v0) (off := 61) (tgt := 62) dX12_kindOf_1 hr1 (by decide) (by simp [Op.lookupswitch.offset, List.find?, Ne.symm (hcs.1), Ne.symm (hcs.2.1), Ne.symm (hcs.2.2.1), Ne.symm (hcs.2.2.2.1), Ne.symm (hcs.2.2.2.2)]) (by decide) ?_
    refine r_bipush (pc := 62) (x := (-4)) dX12_kindOf_62 (by decide) ?_
    exact r_iret (st := []) (pc := 64) (x := (-4)) (ty := .int) dX12_kindOf_64 rfl rfl rfl (by decide) ⟨rfl, _, rfl, w⟩

set_option maxRecDepth 100000 in
set_option maxHeartbeats 4000000 in
theorem wX12_readRow {h : zMm} {K : zMm → Prop} (w : (zR (h 81 18) ∧ ((¬ (h 81 18) = 6 → zCv mX12_next [.ref 81] zS0 h (fun h2 => (zR (h2 81 3) ∧ (zR (h2 81 7) ∧ ((¬ (h2 81 3) = 0 → (zR ((h2 81 5) - (h2 81 6)) ∧ RR mX12_readRow 0 0 61 [some (.ref 81), some (.int (zI (bI (if ((h2 81 5) - (h2 81 6)) = 6 then true else false)))), some (.int (zI 0)), none] [] zS0 h2 (zQv zS0 K))) ∧ ((h2 81 3) = 0 → (((h2 81 7) = 1 → (zR ((h2 81 5) - (h2 81 6)) ∧ RR mX12_readRow 0 0 61 [some (.ref 81), some (.int (zI (bI (if ((h2 81 5) - (h2 81 6)) = 6 then true else false)))), some (.int (zI 0)), none] [] zS0 h2 (zQv zS0 K))) ∧ (¬ (h2 81 7) = 1 → zCv mX12_fails [.ref 81, .int (zI 2)] zS0 h2 (fun h11 => (zR ((h11 81 5) - (h11 81 6)) ∧ RR mX12_readRow 0 0 61 [some (.ref 81), some (.int (zI (bI (if ((h11 81 5) - (h11 81 6)) = 6 then true else false)))), some (.int (zI 0)), none] [] zS0 h11 (zQv zS0 K))))))))))) ∧ ((h 81 18) = 6 → zCv mX12_fails [.ref 81, .int (zI 5)] zS0 h (fun h14 => K h14))))) : zCv mX12_readRow [.ref 81] zS0 h K := by
  show RR mX12_readRow 0 0 0 [some (.ref 81), none, none, none] [] zS0 h (zQv zS0 K)
  refine r_aload_n (pc := 0) (a := 81) dX12_readRow_0 rfl ?_
  refine r_getI (pc := 1) (fi := 18) (x := (h 81 18)) fl_X12_132 dX12_readRow_1 s0_81 rfl (rfl) ?_
  refine r_bipush (pc := 4) (x := 6) dX12_readRow_4 (by decide) ?_
  obtain ⟨hr1, w⟩ := w
  refine r_icmp_ne (pc := 6) (x := (h 81 18)) (y := 6) (tgt := 15) dX12_readRow_6 (by decide) hr1 (by decide) (fun c => ?_) (fun c => ?_)
  · have w := w.1 (c)
    refine r_aload_n (pc := 15) (a := 81) dX12_readRow_15 rfl ?_
    refine r_callV (μ2 := mX12_next) (pc := 16) (as := []) (st := []) rfl s0_81 ml_X12_135 im_X12_next se_X12_next okX12_next ⟨by decide, by decide⟩ dX12_readRow_16 (Nat.le_of_ble_eq_true rfl) rfl (Nat.le_of_ble_eq_true rfl) (by decide) (by decide) (zCC.mono w ?_)
    rintro r S' h2 ⟨rfl, hr, w⟩
    subst hr
    show RR mX12_readRow 0 0 19 [some (.ref 81), none, none, none] [] zS0 h2 (zQv zS0 K)
    refine r_aload_n (pc := 19) (a := 81) dX12_readRow_19 rfl ?_
    refine r_getI (pc := 20) (fi := 3) (x := (h2 81 3)) fl_X12_98 dX12_readRow_20 s0_81 rfl (rfl) ?_
    obtain ⟨hr3, w⟩ := w
    obtain ⟨hr5, w⟩ := w
    refine r_if_ne (pc := 23) (x := (h2 81 3)) (tgt := 39) dX12_readRow_23 (by decide) hr3 (fun c => ?_) (fun c => ?_)
    · have w := w.1 (c)
      refine r_aload_n (pc := 39) (a := 81) dX12_readRow_39 rfl ?_
      refine r_getI (pc := 40) (fi := 5) (x := (h2 81 5)) fl_X12_110 dX12_readRow_40 s0_81 rfl (rfl) ?_
      refine r_aload_n (pc := 43) (a := 81) dX12_readRow_43 rfl ?_
      refine r_getI (pc := 44) (fi := 6) (x := (h2 81 6)) fl_X12_101 dX12_readRow_44 s0_81 rfl (rfl) ?_
      refine r_isub (pc := 47) (x := (h2 81 5)) (y := (h2 81 6)) dX12_readRow_47 ?_
      refine r_bipush (pc := 48) (x := 6) dX12_readRow_48 (by decide) ?_
      obtain ⟨hr7, w⟩ := w
      have kk8 : RR mX12_readRow 0 0 58 [some (.ref 81), none, none, none] [.int (zI (bI (if ((h2 81 5) - (h2 81 6)) = 6 then true else false)))] zS0 h2 (zQv zS0 K) := by
        refine r_istore_n (pc := 58) (L' := [some (.ref 81), some (.int (zI (bI (if ((h2 81 5) - (h2 81 6)) = 6 then true else false)))), none, none]) dX12_readRow_58 (by decide) rfl ?_
        refine r_iconst (pc := 59) dX12_readRow_59 ?_
        refine r_istore_n (pc := 60) (L' := [some (.ref 81), some (.int (zI (bI (if ((h2 81 5) - (h2 81 6)) = 6 then true else false)))), some (.int (zI 0)), none]) dX12_readRow_60 (by decide) rfl ?_
        exact w
      refine r_icmp_ne (pc := 50) (x := ((h2 81 5) - (h2 81 6))) (y := 6) (tgt := 57) dX12_readRow_50 (by decide) hr7 (by decide) (fun c => ?_) (fun c => ?_)
      · refine r_iconst (pc := 57) dX12_readRow_57 ?_
        simp only [if_neg (c)] at kk8 ⊢
        exact kk8
      · refine r_iconst (pc := 53) dX12_readRow_53 ?_
        refine r_goto (pc := 54) (tgt := 58) dX12_readRow_54 (by decide) ?_
        simp only [if_pos (c)] at kk8 ⊢
        exact kk8
    · have w := w.2 (c)
      refine r_aload_n (pc := 26) (a := 81) dX12_readRow_26 rfl ?_
      refine r_getI (pc := 27) (fi := 7) (x := (h2 81 7)) fl_X12_107 dX12_readRow_27 s0_81 rfl (rfl) ?_
      refine r_iconst (pc := 30) dX12_readRow_30 ?_
      refine r_icmp_eq (pc := 31) (x := (h2 81 7)) (y := 1) (tgt := 39) dX12_readRow_31 (by decide) hr5 (by decide) (fun c => ?_) (fun c => ?_)
      · have w := w.1 (c)
        refine r_aload_n (pc := 39) (a := 81) dX12_readRow_39 rfl ?_
        refine r_getI (pc := 40) (fi := 5) (x := (h2 81 5)) fl_X12_110 dX12_readRow_40 s0_81 rfl (rfl) ?_
        refine r_aload_n (pc := 43) (a := 81) dX12_readRow_43 rfl ?_
        refine r_getI (pc := 44) (fi := 6) (x := (h2 81 6)) fl_X12_101 dX12_readRow_44 s0_81 rfl (rfl) ?_
        refine r_isub (pc := 47) (x := (h2 81 5)) (y := (h2 81 6)) dX12_readRow_47 ?_
        refine r_bipush (pc := 48) (x := 6) dX12_readRow_48 (by decide) ?_
        obtain ⟨hr9, w⟩ := w
        have kk10 : RR mX12_readRow 0 0 58 [some (.ref 81), none, none, none] [.int (zI (bI (if ((h2 81 5) - (h2 81 6)) = 6 then true else false)))] zS0 h2 (zQv zS0 K) := by
          refine r_istore_n (pc := 58) (L' := [some (.ref 81), some (.int (zI (bI (if ((h2 81 5) - (h2 81 6)) = 6 then true else false)))), none, none]) dX12_readRow_58 (by decide) rfl ?_
          refine r_iconst (pc := 59) dX12_readRow_59 ?_
          refine r_istore_n (pc := 60) (L' := [some (.ref 81), some (.int (zI (bI (if ((h2 81 5) - (h2 81 6)) = 6 then true else false)))), some (.int (zI 0)), none]) dX12_readRow_60 (by decide) rfl ?_
          exact w
        refine r_icmp_ne (pc := 50) (x := ((h2 81 5) - (h2 81 6))) (y := 6) (tgt := 57) dX12_readRow_50 (by decide) hr9 (by decide) (fun c => ?_) (fun c => ?_)
        · refine r_iconst (pc := 57) dX12_readRow_57 ?_
          simp only [if_neg (c)] at kk10 ⊢
          exact kk10
        · refine r_iconst (pc := 53) dX12_readRow_53 ?_
          refine r_goto (pc := 54) (tgt := 58) dX12_readRow_54 (by decide) ?_
          simp only [if_pos (c)] at kk10 ⊢
          exact kk10
      · have w := w.2 (c)
        refine r_aload_n (pc := 34) (a := 81) dX12_readRow_34 rfl ?_
        refine r_iconst (pc := 35) dX12_readRow_35 ?_
        refine r_callV (μ2 := mX12_fails) (pc := 36) (as := [.int (zI 2)]) (st := []) rfl s0_81 ml_X12_128 im_X12_fails se_X12_fails okX12_fails ⟨by decide, by decide⟩ dX12_readRow_36 (Nat.le_of_ble_eq_true rfl) rfl (Nat.le_of_ble_eq_true rfl) (by decide) (by decide) (zCC.mono w ?_)
        rintro r S' h11 ⟨rfl, hr, w⟩
        subst hr
        show RR mX12_readRow 0 0 39 [some (.ref 81), none, none, none] [] zS0 h11 (zQv zS0 K)
        refine r_aload_n (pc := 39) (a := 81) dX12_readRow_39 rfl ?_
        refine r_getI (pc := 40) (fi := 5) (x := (h11 81 5)) fl_X12_110 dX12_readRow_40 s0_81 rfl (rfl) ?_
        refine r_aload_n (pc := 43) (a := 81) dX12_readRow_43 rfl ?_
        refine r_getI (pc := 44) (fi := 6) (x := (h11 81 6)) fl_X12_101 dX12_readRow_44 s0_81 rfl (rfl) ?_
        refine r_isub (pc := 47) (x := (h11 81 5)) (y := (h11 81 6)) dX12_readRow_47 ?_
        refine r_bipush (pc := 48) (x := 6) dX12_readRow_48 (by decide) ?_
        obtain ⟨hr12, w⟩ := w
        have kk13 : RR mX12_readRow 0 0 58 [some (.ref 81), none, none, none] [.int (zI (bI (if ((h11 81 5) - (h11 81 6)) = 6 then true else false)))] zS0 h11 (zQv zS0 K) := by
          refine r_istore_n (pc := 58) (L' := [some (.ref 81), some (.int (zI (bI (if ((h11 81 5) - (h11 81 6)) = 6 then true else false)))), none, none]) dX12_readRow_58 (by decide) rfl ?_
          refine r_iconst (pc := 59) dX12_readRow_59 ?_
          refine r_istore_n (pc := 60) (L' := [some (.ref 81), some (.int (zI (bI (if ((h11 81 5) - (h11 81 6)) = 6 then true else false)))), some (.int (zI 0)), none]) dX12_readRow_60 (by decide) rfl ?_
          exact w
        refine r_icmp_ne (pc := 50) (x := ((h11 81 5) - (h11 81 6))) (y := 6) (tgt := 57) dX12_readRow_50 (by decide) hr12 (by decide) (fun c => ?_) (fun c => ?_)
        · refine r_iconst (pc := 57) dX12_readRow_57 ?_
          simp only [if_neg (c)] at kk13 ⊢
          exact kk13
        · refine r_iconst (pc := 53) dX12_readRow_53 ?_
          refine r_goto (pc := 54) (tgt := 58) dX12_readRow_54 (by decide) ?_
          simp only [if_pos (c)] at kk13 ⊢
          exact kk13
  · have w := w.2 (c)
    refine r_aload_n (pc := 9) (a := 81) dX12_readRow_9 rfl ?_
    refine r_iconst (pc := 10) dX12_readRow_10 ?_
    refine r_callV (μ2 := mX12_fails) (pc := 11) (as := [.int (zI 5)]) (st := []) rfl s0_81 ml_X12_128 im_X12_fails se_X12_fails okX12_fails ⟨by decide, by decide⟩ dX12_readRow_11 (Nat.le_of_ble_eq_true rfl) rfl (Nat.le_of_ble_eq_true rfl) (by decide) (by decide) (zCC.mono w ?_)
    rintro r S' h14 ⟨rfl, hr, w⟩
    subst hr
    show RR mX12_readRow 0 0 14 [some (.ref 81), none, none, none] [] zS0 h14 (zQv zS0 K)
    exact r_ret (st := []) (pc := 14) dX12_readRow_14 rfl rfl (by decide) ⟨rfl, rfl, w⟩

set_option maxRecDepth 100000 in
set_option maxHeartbeats 4000000 in
theorem bX12_readRow_61 {h : zMm} {K : zMm → Prop} {v1 : Int} {v2 : Int} (w : (zR v2 ∧ (zR v1 ∧ (zR (h 81 3) ∧ ((6 ≤ v2 → ((¬ v1 = 0 → zCv mX12_next [.ref 81] zS0 (zU h 81 18 ((h 81 18) + 1)) (fun h23 => K h23)) ∧ (v1 = 0 → zCv mX12_fails [.ref 81, .int (zI 3)] zS0 h (fun h24 => zCv mX12_next [.ref 81] zS0 (zU h24 81 18 ((h24 81 18) + 1)) (fun h25 => K h25))))) ∧ (¬ 6 ≤ v2 → ((v1 = 0 → ((¬ v1 = 0 → zCv mX12_next [.ref 81] zS0 (zU h 81 18 ((h 81 18) + 1)) (fun h27 => K h27)) ∧ (v1 = 0 → zCv mX12_fails [.ref 81, .int (zI 3)] zS0 h (fun h28 => zCv mX12_next [.ref 81] zS0 (zU h28 81 18 ((h28 81 18) + 1)) (fun h29 => K h29))))) ∧ (¬ v1 = 0 → ((¬ (h 81 3) = 0 → ((¬ v1 = 0 → zCv mX12_next [.ref 81] zS0 (zU h 81 18 ((h 81 18) + 1)) (fun h30 => K h30)) ∧ (v1 = 0 → zCv mX12_fails [.ref 81, .int (zI 3)] zS0 h (fun h31 => zCv mX12_next [.ref 81] zS0 (zU h31 81 18 ((h31 81 18) + 1)) (fun h32 => K h32))))) ∧ ((h 81 3) = 0 → zCi mX12_byteAt [.ref 81, .int (zI ((h 81 6) + v2))] zS0 h (fun x33 h33 => zCi mX12_kindOf [.int (zI x33)] zS0 h33 (fun x34 h34 => (zR x34 ∧ ((0 ≤ ((6 * (h34 81 18)) + v2) ∧ ((6 * (h34 81 18)) + v2) < 36) ∧ RR mX12_readRow 0 0 61 [some (.ref 81), some (.int (zI (bI (if x34 = (-4) then false else true)))), some (.int (zI (v2 + 1))), none] [] zS0 (zU h34 90 ((6 * (h34 81 18)) + v2) x34) (zQv zS0 K))))))))))))))) : RR mX12_readRow 0 0 61 [some (.ref 81), some (.int (zI v1)), some (.int (zI v2)), none] [] zS0 h (zQv zS0 K) := by
  refine r_iload_n (pc := 61) (x := v2) dX12_readRow_61 rfl ?_
  refine r_bipush (pc := 62) (x := 6) dX12_readRow_62 (by decide) ?_
  obtain ⟨hr15, w⟩ := w
  obtain ⟨hr17, w⟩ := w
  obtain ⟨hr20, w⟩ := w
  refine r_icmp_ge (pc := 64) (x := v2) (y := 6) (tgt := 125) dX12_readRow_64 (by decide) hr15 (by decide) (fun c => ?_) (fun c => ?_)
  · have w := w.1 (c)
    refine r_iload_n (pc := 125) (x := v1) dX12_readRow_125 rfl ?_
    refine r_if_ne (pc := 126) (x := v1) (tgt := 134) dX12_readRow_126 (by decide) hr17 (fun c => ?_) (fun c => ?_)
    · have w := w.1 (c)
      refine r_aload_n (pc := 134) (a := 81) dX12_readRow_134 rfl ?_
      refine r_dup (pc := 135) rfl dX12_readRow_135 ?_
      refine r_getI (pc := 136) (fi := 18) (x := (h 81 18)) fl_X12_132 dX12_readRow_136 s0_81 rfl (rfl) ?_
      refine r_iconst (pc := 139) dX12_readRow_139 ?_
      refine r_iadd (pc := 140) (x := (h 81 18)) (y := 1) dX12_readRow_140 ?_
      refine r_putI (pc := 141) (fi := 18) (x := ((h 81 18) + 1)) fl_X12_132 dX12_readRow_141 s0_81 rfl ?_
      refine r_aload_n (pc := 144) (a := 81) dX12_readRow_144 rfl ?_
      refine r_callV (μ2 := mX12_next) (pc := 145) (as := []) (st := []) rfl s0_81 ml_X12_135 im_X12_next se_X12_next okX12_next ⟨by decide, by decide⟩ dX12_readRow_145 (Nat.le_of_ble_eq_true rfl) rfl (Nat.le_of_ble_eq_true rfl) (by decide) (by decide) (zCC.mono w ?_)
      rintro r S' h23 ⟨rfl, hr, w⟩
      subst hr
      show RR mX12_readRow 0 0 148 [some (.ref 81), some (.int (zI v1)), some (.int (zI v2)), none] [] zS0 h23 (zQv zS0 K)
      exact r_ret (st := []) (pc := 148) dX12_readRow_148 rfl rfl (by decide) ⟨rfl, rfl, w⟩
    · have w := w.2 (c)
      refine r_aload_n (pc := 129) (a := 81) dX12_readRow_129 rfl ?_
      refine r_iconst (pc := 130) dX12_readRow_130 ?_
      refine r_callV (μ2 := mX12_fails) (pc := 131) (as := [.int (zI 3)]) (st := []) rfl s0_81 ml_X12_128 im_X12_fails se_X12_fails okX12_fails ⟨by decide, by decide⟩ dX12_readRow_131 (Nat.le_of_ble_eq_true rfl) rfl (Nat.le_of_ble_eq_true rfl) (by decide) (by decide) (zCC.mono w ?_)
      rintro r S' h24 ⟨rfl, hr, w⟩
      subst hr
      show RR mX12_readRow 0 0 134 [some (.ref 81), some (.int (zI v1)), some (.int (zI v2)), none] [] zS0 h24 (zQv zS0 K)
      refine r_aload_n (pc := 134) (a := 81) dX12_readRow_134 rfl ?_
      refine r_dup (pc := 135) rfl dX12_readRow_135 ?_
      refine r_getI (pc := 136) (fi := 18) (x := (h24 81 18)) fl_X12_132 dX12_readRow_136 s0_81 rfl (rfl) ?_
      refine r_iconst (pc := 139) dX12_readRow_139 ?_
      refine r_iadd (pc := 140) (x := (h24 81 18)) (y := 1) dX12_readRow_140 ?_
      refine r_putI (pc := 141) (fi := 18) (x := ((h24 81 18) + 1)) fl_X12_132 dX12_readRow_141 s0_81 rfl ?_
      refine r_aload_n (pc := 144) (a := 81) dX12_readRow_144 rfl ?_
      refine r_callV (μ2 := mX12_next) (pc := 145) (as := []) (st := []) rfl s0_81 ml_X12_135 im_X12_next se_X12_next okX12_next ⟨by decide, by decide⟩ dX12_readRow_145 (Nat.le_of_ble_eq_true rfl) rfl (Nat.le_of_ble_eq_true rfl) (by decide) (by decide) (zCC.mono w ?_)
      rintro r S' h25 ⟨rfl, hr, w⟩
      subst hr
      show RR mX12_readRow 0 0 148 [some (.ref 81), some (.int (zI v1)), some (.int (zI v2)), none] [] zS0 h25 (zQv zS0 K)
      exact r_ret (st := []) (pc := 148) dX12_readRow_148 rfl rfl (by decide) ⟨rfl, rfl, w⟩
  · have w := w.2 (c)
    refine r_iload_n (pc := 67) (x := v1) dX12_readRow_67 rfl ?_
    refine r_if_eq (pc := 68) (x := v1) (tgt := 125) dX12_readRow_68 (by decide) hr17 (fun c => ?_) (fun c => ?_)
    · have w := w.1 (c)
      refine r_iload_n (pc := 125) (x := v1) dX12_readRow_125 rfl ?_
      refine r_if_ne (pc := 126) (x := v1) (tgt := 134) dX12_readRow_126 (by decide) hr17 (fun c => ?_) (fun c => ?_)
      · have w := w.1 (c)
        refine r_aload_n (pc := 134) (a := 81) dX12_readRow_134 rfl ?_
        refine r_dup (pc := 135) rfl dX12_readRow_135 ?_
        refine r_getI (pc := 136) (fi := 18) (x := (h 81 18)) fl_X12_132 dX12_readRow_136 s0_81 rfl (rfl) ?_
        refine r_iconst (pc := 139) dX12_readRow_139 ?_
        refine r_iadd (pc := 140) (x := (h 81 18)) (y := 1) dX12_readRow_140 ?_
        refine r_putI (pc := 141) (fi := 18) (x := ((h 81 18) + 1)) fl_X12_132 dX12_readRow_141 s0_81 rfl ?_
        refine r_aload_n (pc := 144) (a := 81) dX12_readRow_144 rfl ?_
        refine r_callV (μ2 := mX12_next) (pc := 145) (as := []) (st := []) rfl s0_81 ml_X12_135 im_X12_next se_X12_next okX12_next ⟨by decide, by decide⟩ dX12_readRow_145 (Nat.le_of_ble_eq_true rfl) rfl (Nat.le_of_ble_eq_true rfl) (by decide) (by decide) (zCC.mono w ?_)
        rintro r S' h27 ⟨rfl, hr, w⟩
        subst hr
        show RR mX12_readRow 0 0 148 [some (.ref 81), some (.int (zI v1)), some (.int (zI v2)), none] [] zS0 h27 (zQv zS0 K)
        exact r_ret (st := []) (pc := 148) dX12_readRow_148 rfl rfl (by decide) ⟨rfl, rfl, w⟩
      · have w := w.2 (c)
        refine r_aload_n (pc := 129) (a := 81) dX12_readRow_129 rfl ?_
        refine r_iconst (pc := 130) dX12_readRow_130 ?_
        refine r_callV (μ2 := mX12_fails) (pc := 131) (as := [.int (zI 3)]) (st := []) rfl s0_81 ml_X12_128 im_X12_fails se_X12_fails okX12_fails ⟨by decide, by decide⟩ dX12_readRow_131 (Nat.le_of_ble_eq_true rfl) rfl (Nat.le_of_ble_eq_true rfl) (by decide) (by decide) (zCC.mono w ?_)
        rintro r S' h28 ⟨rfl, hr, w⟩
        subst hr
        show RR mX12_readRow 0 0 134 [some (.ref 81), some (.int (zI v1)), some (.int (zI v2)), none] [] zS0 h28 (zQv zS0 K)
        refine r_aload_n (pc := 134) (a := 81) dX12_readRow_134 rfl ?_
        refine r_dup (pc := 135) rfl dX12_readRow_135 ?_
        refine r_getI (pc := 136) (fi := 18) (x := (h28 81 18)) fl_X12_132 dX12_readRow_136 s0_81 rfl (rfl) ?_
        refine r_iconst (pc := 139) dX12_readRow_139 ?_
        refine r_iadd (pc := 140) (x := (h28 81 18)) (y := 1) dX12_readRow_140 ?_
        refine r_putI (pc := 141) (fi := 18) (x := ((h28 81 18) + 1)) fl_X12_132 dX12_readRow_141 s0_81 rfl ?_
        refine r_aload_n (pc := 144) (a := 81) dX12_readRow_144 rfl ?_
        refine r_callV (μ2 := mX12_next) (pc := 145) (as := []) (st := []) rfl s0_81 ml_X12_135 im_X12_next se_X12_next okX12_next ⟨by decide, by decide⟩ dX12_readRow_145 (Nat.le_of_ble_eq_true rfl) rfl (Nat.le_of_ble_eq_true rfl) (by decide) (by decide) (zCC.mono w ?_)
        rintro r S' h29 ⟨rfl, hr, w⟩
        subst hr
        show RR mX12_readRow 0 0 148 [some (.ref 81), some (.int (zI v1)), some (.int (zI v2)), none] [] zS0 h29 (zQv zS0 K)
        exact r_ret (st := []) (pc := 148) dX12_readRow_148 rfl rfl (by decide) ⟨rfl, rfl, w⟩
    · have w := w.2 (c)
      refine r_aload_n (pc := 71) (a := 81) dX12_readRow_71 rfl ?_
      refine r_getI (pc := 72) (fi := 3) (x := (h 81 3)) fl_X12_98 dX12_readRow_72 s0_81 rfl (rfl) ?_
      refine r_if_ne (pc := 75) (x := (h 81 3)) (tgt := 125) dX12_readRow_75 (by decide) hr20 (fun c => ?_) (fun c => ?_)
      · have w := w.1 (c)
        refine r_iload_n (pc := 125) (x := v1) dX12_readRow_125 rfl ?_
        refine r_if_ne (pc := 126) (x := v1) (tgt := 134) dX12_readRow_126 (by decide) hr17 (fun c => ?_) (fun c => ?_)
        · have w := w.1 (c)
          refine r_aload_n (pc := 134) (a := 81) dX12_readRow_134 rfl ?_
          refine r_dup (pc := 135) rfl dX12_readRow_135 ?_
          refine r_getI (pc := 136) (fi := 18) (x := (h 81 18)) fl_X12_132 dX12_readRow_136 s0_81 rfl (rfl) ?_
          refine r_iconst (pc := 139) dX12_readRow_139 ?_
          refine r_iadd (pc := 140) (x := (h 81 18)) (y := 1) dX12_readRow_140 ?_
          refine r_putI (pc := 141) (fi := 18) (x := ((h 81 18) + 1)) fl_X12_132 dX12_readRow_141 s0_81 rfl ?_
          refine r_aload_n (pc := 144) (a := 81) dX12_readRow_144 rfl ?_
          refine r_callV (μ2 := mX12_next) (pc := 145) (as := []) (st := []) rfl s0_81 ml_X12_135 im_X12_next se_X12_next okX12_next ⟨by decide, by decide⟩ dX12_readRow_145 (Nat.le_of_ble_eq_true rfl) rfl (Nat.le_of_ble_eq_true rfl) (by decide) (by decide) (zCC.mono w ?_)
          rintro r S' h30 ⟨rfl, hr, w⟩
          subst hr
          show RR mX12_readRow 0 0 148 [some (.ref 81), some (.int (zI v1)), some (.int (zI v2)), none] [] zS0 h30 (zQv zS0 K)
          exact r_ret (st := []) (pc := 148) dX12_readRow_148 rfl rfl (by decide) ⟨rfl, rfl, w⟩
        · have w := w.2 (c)
          refine r_aload_n (pc := 129) (a := 81) dX12_readRow_129 rfl ?_
          refine r_iconst (pc := 130) dX12_readRow_130 ?_
          refine r_callV (μ2 := mX12_fails) (pc := 131) (as := [.int (zI 3)]) (st := []) rfl s0_81 ml_X12_128 im_X12_fails se_X12_fails okX12_fails ⟨by decide, by decide⟩ dX12_readRow_131 (Nat.le_of_ble_eq_true rfl) rfl (Nat.le_of_ble_eq_true rfl) (by decide) (by decide) (zCC.mono w ?_)
          rintro r S' h31 ⟨rfl, hr, w⟩
          subst hr
          show RR mX12_readRow 0 0 134 [some (.ref 81), some (.int (zI v1)), some (.int (zI v2)), none] [] zS0 h31 (zQv zS0 K)
          refine r_aload_n (pc := 134) (a := 81) dX12_readRow_134 rfl ?_
          refine r_dup (pc := 135) rfl dX12_readRow_135 ?_
          refine r_getI (pc := 136) (fi := 18) (x := (h31 81 18)) fl_X12_132 dX12_readRow_136 s0_81 rfl (rfl) ?_
          refine r_iconst (pc := 139) dX12_readRow_139 ?_
          refine r_iadd (pc := 140) (x := (h31 81 18)) (y := 1) dX12_readRow_140 ?_
          refine r_putI (pc := 141) (fi := 18) (x := ((h31 81 18) + 1)) fl_X12_132 dX12_readRow_141 s0_81 rfl ?_
          refine r_aload_n (pc := 144) (a := 81) dX12_readRow_144 rfl ?_
          refine r_callV (μ2 := mX12_next) (pc := 145) (as := []) (st := []) rfl s0_81 ml_X12_135 im_X12_next se_X12_next okX12_next ⟨by decide, by decide⟩ dX12_readRow_145 (Nat.le_of_ble_eq_true rfl) rfl (Nat.le_of_ble_eq_true rfl) (by decide) (by decide) (zCC.mono w ?_)
          rintro r S' h32 ⟨rfl, hr, w⟩
          subst hr
          show RR mX12_readRow 0 0 148 [some (.ref 81), some (.int (zI v1)), some (.int (zI v2)), none] [] zS0 h32 (zQv zS0 K)
          exact r_ret (st := []) (pc := 148) dX12_readRow_148 rfl rfl (by decide) ⟨rfl, rfl, w⟩
      · have w := w.2 (c)
        refine r_aload_n (pc := 78) (a := 81) dX12_readRow_78 rfl ?_
        refine r_aload_n (pc := 79) (a := 81) dX12_readRow_79 rfl ?_
        refine r_getI (pc := 80) (fi := 6) (x := (h 81 6)) fl_X12_101 dX12_readRow_80 s0_81 rfl (rfl) ?_
        refine r_iload_n (pc := 83) (x := v2) dX12_readRow_83 rfl ?_
        refine r_iadd (pc := 84) (x := (h 81 6)) (y := v2) dX12_readRow_84 ?_
        refine r_callV (μ2 := mX12_byteAt) (pc := 85) (as := [.int (zI ((h 81 6) + v2))]) (st := []) rfl s0_81 ml_X12_113 im_X12_byteAt se_X12_byteAt okX12_byteAt ⟨by decide, by decide⟩ dX12_readRow_85 (Nat.le_of_ble_eq_true rfl) rfl (Nat.le_of_ble_eq_true rfl) (by decide) (by decide) (zCC.mono w ?_)
        rintro r S' h33 ⟨rfl, x33, hr, w⟩
        subst hr
        show RR mX12_readRow 0 0 88 [some (.ref 81), some (.int (zI v1)), some (.int (zI v2)), none] [.int (zI x33)] zS0 h33 (zQv zS0 K)
        refine r_callS (μ2 := mX12_kindOf) (pc := 88) (as := [.int (zI x33)]) (st := []) ml_X12_138 sm_X12_kindOf okX12_kindOf ⟨by decide, by decide⟩ dX12_readRow_88 (Nat.le_of_ble_eq_true rfl) rfl (Nat.le_of_ble_eq_true rfl) (by decide) (by decide) (zCC.mono w ?_)
        rintro r S' h34 ⟨rfl, x34, hr, w⟩
        subst hr
        show RR mX12_readRow 0 0 91 [some (.ref 81), some (.int (zI v1)), some (.int (zI v2)), none] [.int (zI x34)] zS0 h34 (zQv zS0 K)
        refine r_istore_n (pc := 91) (L' := [some (.ref 81), some (.int (zI v1)), some (.int (zI v2)), some (.int (zI x34))]) dX12_readRow_91 (by decide) rfl ?_
        refine r_iload_n (pc := 92) (x := x34) dX12_readRow_92 rfl ?_
        refine r_bipush (pc := 93) (x := (-4)) dX12_readRow_93 (by decide) ?_
        obtain ⟨hr35, w⟩ := w
        have kk37 : RR mX12_readRow 0 0 103 [some (.ref 81), some (.int (zI v1)), some (.int (zI v2)), some (.int (zI x34))] [.int (zI (bI (if x34 = (-4) then false else true)))] zS0 h34 (zQv zS0 K) := by
          refine r_istore_n (pc := 103) (L' := [some (.ref 81), some (.int (zI (bI (if x34 = (-4) then false else true)))), some (.int (zI v2)), some (.int (zI x34))]) dX12_readRow_103 (by decide) rfl ?_
          refine r_aload_n (pc := 104) (a := 81) dX12_readRow_104 rfl ?_
          refine r_getR (pc := 105) (b := 90) fl_X12_34 dX12_readRow_105 s0_81 rfl ?_
          refine r_bipush (pc := 108) (x := 6) dX12_readRow_108 (by decide) ?_
          refine r_aload_n (pc := 110) (a := 81) dX12_readRow_110 rfl ?_
          refine r_getI (pc := 111) (fi := 18) (x := (h34 81 18)) fl_X12_132 dX12_readRow_111 s0_81 rfl (rfl) ?_
          refine r_imul (pc := 114) (x := 6) (y := (h34 81 18)) dX12_readRow_114 ?_
          refine r_iload_n (pc := 115) (x := v2) dX12_readRow_115 rfl ?_
          refine r_iadd (pc := 116) (x := (6 * (h34 81 18))) (y := v2) dX12_readRow_116 ?_
          refine r_iload_n (pc := 117) (x := x34) dX12_readRow_117 rfl ?_
          obtain ⟨hb36, w⟩ := w
          refine r_iast (pc := 118) (i := ((6 * (h34 81 18)) + v2)) (x := x34) dX12_readRow_118 s0_90 ⟨hb36.1, hb36.2, (by decide)⟩  ?_
          refine r_iinc (pc := 119) (x := v2) (L' := [some (.ref 81), some (.int (zI (bI (if x34 = (-4) then false else true)))), some (.int (zI (v2 + 1))), some (.int (zI x34))]) dX12_readRow_119 rfl (by decide) rfl ?_
          refine r_goto (pc := 122) (tgt := 61) dX12_readRow_122 (by decide) ?_
          exact RR.sub (L' := [some (.ref 81), some (.int (zI (bI (if x34 = (-4) then false else true)))), some (.int (zI (v2 + 1))), none]) (zSb_of (⟨rfl, ⟨rfl, ⟨rfl, trivial⟩⟩⟩)) w
        refine r_icmp_eq (pc := 95) (x := x34) (y := (-4)) (tgt := 102) dX12_readRow_95 (by decide) hr35 (by decide) (fun c => ?_) (fun c => ?_)
        · refine r_iconst (pc := 102) dX12_readRow_102 ?_
          simp only [if_pos (c)] at kk37 ⊢
          exact kk37
        · refine r_iconst (pc := 98) dX12_readRow_98 ?_
          refine r_goto (pc := 99) (tgt := 103) dX12_readRow_99 (by decide) ?_
          simp only [if_neg (c)] at kk37 ⊢
          exact kk37

set_option maxRecDepth 100000 in
set_option maxHeartbeats 4000000 in
theorem wX12_readSun {h : zMm} {K : zMm → Prop} (w : zCv mX12_next [.ref 81] zS0 h (fun h1 => zCi mX12_here [.ref 81, .int (zI 0), .int (zI 35)] zS0 h1 (fun x2 h2 => (zR (h2 81 3) ∧ ((¬ (h2 81 3) = 0 → zCv mX12_next [.ref 81] zS0 h2 (fun h4 => zCi mX12_here [.ref 81, .int (zI 0), .int (zI 9)] zS0 h4 (fun x5 h5 => (zR (h5 81 3) ∧ ((¬ (h5 81 3) = 0 → zCv mX12_next [.ref 81] zS0 h5 (fun h7 => K h7)) ∧ ((h5 81 3) = 0 → ((0 ≤ x2 ∧ x2 < 36) ∧ zCv mX12_next [.ref 81] zS0 (zU h5 91 x2 ((-1) - x5)) (fun h9 => K h9)))))))) ∧ ((h2 81 3) = 0 → ((0 ≤ x2 ∧ x2 < 36) ∧ (zR (h2 91 x2) ∧ ((0 ≤ (h2 91 x2) → zCv mX12_next [.ref 81] zS0 h2 (fun h12 => zCi mX12_here [.ref 81, .int (zI 0), .int (zI 9)] zS0 h12 (fun x13 h13 => (zR (h13 81 3) ∧ ((¬ (h13 81 3) = 0 → zCv mX12_next [.ref 81] zS0 h13 (fun h15 => K h15)) ∧ ((h13 81 3) = 0 → zCv mX12_next [.ref 81] zS0 (zU h13 91 x2 ((-1) - x13)) (fun h16 => K h16))))))) ∧ (¬ 0 ≤ (h2 91 x2) → zCv mX12_fails [.ref 81, .int (zI 4)] zS0 h2 (fun h17 => zCv mX12_next [.ref 81] zS0 h17 (fun h18 => zCi mX12_here [.ref 81, .int (zI 0), .int (zI 9)] zS0 h18 (fun x19 h19 => (zR (h19 81 3) ∧ ((¬ (h19 81 3) = 0 → zCv mX12_next [.ref 81] zS0 h19 (fun h21 => K h21)) ∧ ((h19 81 3) = 0 → zCv mX12_next [.ref 81] zS0 (zU h19 91 x2 ((-1) - x19)) (fun h22 => K h22))))))))))))))))) : zCv mX12_readSun [.ref 81] zS0 h K := by
  show RR mX12_readSun 0 0 0 [some (.ref 81), none, none] [] zS0 h (zQv zS0 K)
  refine r_aload_n (pc := 0) (a := 81) dX12_readSun_0 rfl ?_
  refine r_callV (μ2 := mX12_next) (pc := 1) (as := []) (st := []) rfl s0_81 ml_X12_135 im_X12_next se_X12_next okX12_next ⟨by decide, by decide⟩ dX12_readSun_1 (Nat.le_of_ble_eq_true rfl) rfl (Nat.le_of_ble_eq_true rfl) (by decide) (by decide) (zCC.mono w ?_)
  rintro r S' h1 ⟨rfl, hr, w⟩
  subst hr
  show RR mX12_readSun 0 0 4 [some (.ref 81), none, none] [] zS0 h1 (zQv zS0 K)
  refine r_aload_n (pc := 4) (a := 81) dX12_readSun_4 rfl ?_
  refine r_iconst (pc := 5) dX12_readSun_5 ?_
  refine r_bipush (pc := 6) (x := 35) dX12_readSun_6 (by decide) ?_
  refine r_callV (μ2 := mX12_here) (pc := 8) (as := [.int (zI 0), .int (zI 35)]) (st := []) rfl s0_81 ml_X12_141 im_X12_here se_X12_here okX12_here ⟨by decide, by decide⟩ dX12_readSun_8 (Nat.le_of_ble_eq_true rfl) rfl (Nat.le_of_ble_eq_true rfl) (by decide) (by decide) (zCC.mono w ?_)
  rintro r S' h2 ⟨rfl, x2, hr, w⟩
  subst hr
  show RR mX12_readSun 0 0 11 [some (.ref 81), none, none] [.int (zI x2)] zS0 h2 (zQv zS0 K)
  refine r_istore_n (pc := 11) (L' := [some (.ref 81), some (.int (zI x2)), none]) dX12_readSun_11 (by decide) rfl ?_
  refine r_aload_n (pc := 12) (a := 81) dX12_readSun_12 rfl ?_
  refine r_getI (pc := 13) (fi := 3) (x := (h2 81 3)) fl_X12_98 dX12_readSun_13 s0_81 rfl (rfl) ?_
  obtain ⟨hr3, w⟩ := w
  refine r_if_ne (pc := 16) (x := (h2 81 3)) (tgt := 33) dX12_readSun_16 (by decide) hr3 (fun c => ?_) (fun c => ?_)
  · have w := w.1 (c)
    refine r_aload_n (pc := 33) (a := 81) dX12_readSun_33 rfl ?_
    refine r_callV (μ2 := mX12_next) (pc := 34) (as := []) (st := []) rfl s0_81 ml_X12_135 im_X12_next se_X12_next okX12_next ⟨by decide, by decide⟩ dX12_readSun_34 (Nat.le_of_ble_eq_true rfl) rfl (Nat.le_of_ble_eq_true rfl) (by decide) (by decide) (zCC.mono w ?_)
    rintro r S' h4 ⟨rfl, hr, w⟩
    subst hr
    show RR mX12_readSun 0 0 37 [some (.ref 81), some (.int (zI x2)), none] [] zS0 h4 (zQv zS0 K)
    refine r_aload_n (pc := 37) (a := 81) dX12_readSun_37 rfl ?_
    refine r_iconst (pc := 38) dX12_readSun_38 ?_
    refine r_bipush (pc := 39) (x := 9) dX12_readSun_39 (by decide) ?_
    refine r_callV (μ2 := mX12_here) (pc := 41) (as := [.int (zI 0), .int (zI 9)]) (st := []) rfl s0_81 ml_X12_141 im_X12_here se_X12_here okX12_here ⟨by decide, by decide⟩ dX12_readSun_41 (Nat.le_of_ble_eq_true rfl) rfl (Nat.le_of_ble_eq_true rfl) (by decide) (by decide) (zCC.mono w ?_)
    rintro r S' h5 ⟨rfl, x5, hr, w⟩
    subst hr
    show RR mX12_readSun 0 0 44 [some (.ref 81), some (.int (zI x2)), none] [.int (zI x5)] zS0 h5 (zQv zS0 K)
    refine r_istore_n (pc := 44) (L' := [some (.ref 81), some (.int (zI x2)), some (.int (zI x5))]) dX12_readSun_44 (by decide) rfl ?_
    refine r_aload_n (pc := 45) (a := 81) dX12_readSun_45 rfl ?_
    refine r_getI (pc := 46) (fi := 3) (x := (h5 81 3)) fl_X12_98 dX12_readSun_46 s0_81 rfl (rfl) ?_
    obtain ⟨hr6, w⟩ := w
    refine r_if_ne (pc := 49) (x := (h5 81 3)) (tgt := 61) dX12_readSun_49 (by decide) hr6 (fun c => ?_) (fun c => ?_)
    · have w := w.1 (c)
      refine r_aload_n (pc := 61) (a := 81) dX12_readSun_61 rfl ?_
      refine r_callV (μ2 := mX12_next) (pc := 62) (as := []) (st := []) rfl s0_81 ml_X12_135 im_X12_next se_X12_next okX12_next ⟨by decide, by decide⟩ dX12_readSun_62 (Nat.le_of_ble_eq_true rfl) rfl (Nat.le_of_ble_eq_true rfl) (by decide) (by decide) (zCC.mono w ?_)
      rintro r S' h7 ⟨rfl, hr, w⟩
      subst hr
      show RR mX12_readSun 0 0 65 [some (.ref 81), some (.int (zI x2)), some (.int (zI x5))] [] zS0 h7 (zQv zS0 K)
      exact r_ret (st := []) (pc := 65) dX12_readSun_65 rfl rfl (by decide) ⟨rfl, rfl, w⟩
    · have w := w.2 (c)
      refine r_aload_n (pc := 52) (a := 81) dX12_readSun_52 rfl ?_
      refine r_getR (pc := 53) (b := 91) fl_X12_37 dX12_readSun_53 s0_81 rfl ?_
      refine r_iload_n (pc := 56) (x := x2) dX12_readSun_56 rfl ?_
      refine r_iconst (pc := 57) dX12_readSun_57 ?_
      refine r_iload_n (pc := 58) (x := x5) dX12_readSun_58 rfl ?_
      refine r_isub (pc := 59) (x := (-1)) (y := x5) dX12_readSun_59 ?_
      obtain ⟨hb8, w⟩ := w
      refine r_iast (pc := 60) (i := x2) (x := ((-1) - x5)) dX12_readSun_60 s0_91 ⟨hb8.1, hb8.2, (by decide)⟩  ?_
      refine r_aload_n (pc := 61) (a := 81) dX12_readSun_61 rfl ?_
      refine r_callV (μ2 := mX12_next) (pc := 62) (as := []) (st := []) rfl s0_81 ml_X12_135 im_X12_next se_X12_next okX12_next ⟨by decide, by decide⟩ dX12_readSun_62 (Nat.le_of_ble_eq_true rfl) rfl (Nat.le_of_ble_eq_true rfl) (by decide) (by decide) (zCC.mono w ?_)
      rintro r S' h9 ⟨rfl, hr, w⟩
      subst hr
      show RR mX12_readSun 0 0 65 [some (.ref 81), some (.int (zI x2)), some (.int (zI x5))] [] zS0 h9 (zQv zS0 K)
      exact r_ret (st := []) (pc := 65) dX12_readSun_65 rfl rfl (by decide) ⟨rfl, rfl, w⟩
  · have w := w.2 (c)
    refine r_aload_n (pc := 19) (a := 81) dX12_readSun_19 rfl ?_
    refine r_getR (pc := 20) (b := 91) fl_X12_37 dX12_readSun_20 s0_81 rfl ?_
    refine r_iload_n (pc := 23) (x := x2) dX12_readSun_23 rfl ?_
    obtain ⟨hb10, w⟩ := w
    refine r_iald (pc := 24) (i := x2) (x := (h2 91 x2)) dX12_readSun_24 s0_91 ⟨hb10.1, hb10.2, (by decide)⟩ (rfl) ?_
    obtain ⟨hr11, w⟩ := w
    refine r_if_ge (pc := 25) (x := (h2 91 x2)) (tgt := 33) dX12_readSun_25 (by decide) hr11 (fun c => ?_) (fun c => ?_)
    · have w := w.1 (c)
      refine r_aload_n (pc := 33) (a := 81) dX12_readSun_33 rfl ?_
      refine r_callV (μ2 := mX12_next) (pc := 34) (as := []) (st := []) rfl s0_81 ml_X12_135 im_X12_next se_X12_next okX12_next ⟨by decide, by decide⟩ dX12_readSun_34 (Nat.le_of_ble_eq_true rfl) rfl (Nat.le_of_ble_eq_true rfl) (by decide) (by decide) (zCC.mono w ?_)
      rintro r S' h12 ⟨rfl, hr, w⟩
      subst hr
      show RR mX12_readSun 0 0 37 [some (.ref 81), some (.int (zI x2)), none] [] zS0 h12 (zQv zS0 K)
      refine r_aload_n (pc := 37) (a := 81) dX12_readSun_37 rfl ?_
      refine r_iconst (pc := 38) dX12_readSun_38 ?_
      refine r_bipush (pc := 39) (x := 9) dX12_readSun_39 (by decide) ?_
      refine r_callV (μ2 := mX12_here) (pc := 41) (as := [.int (zI 0), .int (zI 9)]) (st := []) rfl s0_81 ml_X12_141 im_X12_here se_X12_here okX12_here ⟨by decide, by decide⟩ dX12_readSun_41 (Nat.le_of_ble_eq_true rfl) rfl (Nat.le_of_ble_eq_true rfl) (by decide) (by decide) (zCC.mono w ?_)
      rintro r S' h13 ⟨rfl, x13, hr, w⟩
      subst hr
      show RR mX12_readSun 0 0 44 [some (.ref 81), some (.int (zI x2)), none] [.int (zI x13)] zS0 h13 (zQv zS0 K)
      refine r_istore_n (pc := 44) (L' := [some (.ref 81), some (.int (zI x2)), some (.int (zI x13))]) dX12_readSun_44 (by decide) rfl ?_
      refine r_aload_n (pc := 45) (a := 81) dX12_readSun_45 rfl ?_
      refine r_getI (pc := 46) (fi := 3) (x := (h13 81 3)) fl_X12_98 dX12_readSun_46 s0_81 rfl (rfl) ?_
      obtain ⟨hr14, w⟩ := w
      refine r_if_ne (pc := 49) (x := (h13 81 3)) (tgt := 61) dX12_readSun_49 (by decide) hr14 (fun c => ?_) (fun c => ?_)
      · have w := w.1 (c)
        refine r_aload_n (pc := 61) (a := 81) dX12_readSun_61 rfl ?_
        refine r_callV (μ2 := mX12_next) (pc := 62) (as := []) (st := []) rfl s0_81 ml_X12_135 im_X12_next se_X12_next okX12_next ⟨by decide, by decide⟩ dX12_readSun_62 (Nat.le_of_ble_eq_true rfl) rfl (Nat.le_of_ble_eq_true rfl) (by decide) (by decide) (zCC.mono w ?_)
        rintro r S' h15 ⟨rfl, hr, w⟩
        subst hr
        show RR mX12_readSun 0 0 65 [some (.ref 81), some (.int (zI x2)), some (.int (zI x13))] [] zS0 h15 (zQv zS0 K)
        exact r_ret (st := []) (pc := 65) dX12_readSun_65 rfl rfl (by decide) ⟨rfl, rfl, w⟩
      · have w := w.2 (c)
        refine r_aload_n (pc := 52) (a := 81) dX12_readSun_52 rfl ?_
        refine r_getR (pc := 53) (b := 91) fl_X12_37 dX12_readSun_53 s0_81 rfl ?_
        refine r_iload_n (pc := 56) (x := x2) dX12_readSun_56 rfl ?_
        refine r_iconst (pc := 57) dX12_readSun_57 ?_
        refine r_iload_n (pc := 58) (x := x13) dX12_readSun_58 rfl ?_
        refine r_isub (pc := 59) (x := (-1)) (y := x13) dX12_readSun_59 ?_
        refine r_iast (pc := 60) (i := x2) (x := ((-1) - x13)) dX12_readSun_60 s0_91 ⟨by omega, by omega, (by decide)⟩  ?_
        refine r_aload_n (pc := 61) (a := 81) dX12_readSun_61 rfl ?_
        refine r_callV (μ2 := mX12_next) (pc := 62) (as := []) (st := []) rfl s0_81 ml_X12_135 im_X12_next se_X12_next okX12_next ⟨by decide, by decide⟩ dX12_readSun_62 (Nat.le_of_ble_eq_true rfl) rfl (Nat.le_of_ble_eq_true rfl) (by decide) (by decide) (zCC.mono w ?_)
        rintro r S' h16 ⟨rfl, hr, w⟩
        subst hr
        show RR mX12_readSun 0 0 65 [some (.ref 81), some (.int (zI x2)), some (.int (zI x13))] [] zS0 h16 (zQv zS0 K)
        exact r_ret (st := []) (pc := 65) dX12_readSun_65 rfl rfl (by decide) ⟨rfl, rfl, w⟩
    · have w := w.2 (c)
      refine r_aload_n (pc := 28) (a := 81) dX12_readSun_28 rfl ?_
      refine r_iconst (pc := 29) dX12_readSun_29 ?_
      refine r_callV (μ2 := mX12_fails) (pc := 30) (as := [.int (zI 4)]) (st := []) rfl s0_81 ml_X12_128 im_X12_fails se_X12_fails okX12_fails ⟨by decide, by decide⟩ dX12_readSun_30 (Nat.le_of_ble_eq_true rfl) rfl (Nat.le_of_ble_eq_true rfl) (by decide) (by decide) (zCC.mono w ?_)
      rintro r S' h17 ⟨rfl, hr, w⟩
      subst hr
      show RR mX12_readSun 0 0 33 [some (.ref 81), some (.int (zI x2)), none] [] zS0 h17 (zQv zS0 K)
      refine r_aload_n (pc := 33) (a := 81) dX12_readSun_33 rfl ?_
      refine r_callV (μ2 := mX12_next) (pc := 34) (as := []) (st := []) rfl s0_81 ml_X12_135 im_X12_next se_X12_next okX12_next ⟨by decide, by decide⟩ dX12_readSun_34 (Nat.le_of_ble_eq_true rfl) rfl (Nat.le_of_ble_eq_true rfl) (by decide) (by decide) (zCC.mono w ?_)
      rintro r S' h18 ⟨rfl, hr, w⟩
      subst hr
      show RR mX12_readSun 0 0 37 [some (.ref 81), some (.int (zI x2)), none] [] zS0 h18 (zQv zS0 K)
      refine r_aload_n (pc := 37) (a := 81) dX12_readSun_37 rfl ?_
      refine r_iconst (pc := 38) dX12_readSun_38 ?_
      refine r_bipush (pc := 39) (x := 9) dX12_readSun_39 (by decide) ?_
      refine r_callV (μ2 := mX12_here) (pc := 41) (as := [.int (zI 0), .int (zI 9)]) (st := []) rfl s0_81 ml_X12_141 im_X12_here se_X12_here okX12_here ⟨by decide, by decide⟩ dX12_readSun_41 (Nat.le_of_ble_eq_true rfl) rfl (Nat.le_of_ble_eq_true rfl) (by decide) (by decide) (zCC.mono w ?_)
      rintro r S' h19 ⟨rfl, x19, hr, w⟩
      subst hr
      show RR mX12_readSun 0 0 44 [some (.ref 81), some (.int (zI x2)), none] [.int (zI x19)] zS0 h19 (zQv zS0 K)
      refine r_istore_n (pc := 44) (L' := [some (.ref 81), some (.int (zI x2)), some (.int (zI x19))]) dX12_readSun_44 (by decide) rfl ?_
      refine r_aload_n (pc := 45) (a := 81) dX12_readSun_45 rfl ?_
      refine r_getI (pc := 46) (fi := 3) (x := (h19 81 3)) fl_X12_98 dX12_readSun_46 s0_81 rfl (rfl) ?_
      obtain ⟨hr20, w⟩ := w
      refine r_if_ne (pc := 49) (x := (h19 81 3)) (tgt := 61) dX12_readSun_49 (by decide) hr20 (fun c => ?_) (fun c => ?_)
      · have w := w.1 (c)
        refine r_aload_n (pc := 61) (a := 81) dX12_readSun_61 rfl ?_
        refine r_callV (μ2 := mX12_next) (pc := 62) (as := []) (st := []) rfl s0_81 ml_X12_135 im_X12_next se_X12_next okX12_next ⟨by decide, by decide⟩ dX12_readSun_62 (Nat.le_of_ble_eq_true rfl) rfl (Nat.le_of_ble_eq_true rfl) (by decide) (by decide) (zCC.mono w ?_)
        rintro r S' h21 ⟨rfl, hr, w⟩
        subst hr
        show RR mX12_readSun 0 0 65 [some (.ref 81), some (.int (zI x2)), some (.int (zI x19))] [] zS0 h21 (zQv zS0 K)
        exact r_ret (st := []) (pc := 65) dX12_readSun_65 rfl rfl (by decide) ⟨rfl, rfl, w⟩
      · have w := w.2 (c)
        refine r_aload_n (pc := 52) (a := 81) dX12_readSun_52 rfl ?_
        refine r_getR (pc := 53) (b := 91) fl_X12_37 dX12_readSun_53 s0_81 rfl ?_
        refine r_iload_n (pc := 56) (x := x2) dX12_readSun_56 rfl ?_
        refine r_iconst (pc := 57) dX12_readSun_57 ?_
        refine r_iload_n (pc := 58) (x := x19) dX12_readSun_58 rfl ?_
        refine r_isub (pc := 59) (x := (-1)) (y := x19) dX12_readSun_59 ?_
        refine r_iast (pc := 60) (i := x2) (x := ((-1) - x19)) dX12_readSun_60 s0_91 ⟨by omega, by omega, (by decide)⟩  ?_
        refine r_aload_n (pc := 61) (a := 81) dX12_readSun_61 rfl ?_
        refine r_callV (μ2 := mX12_next) (pc := 62) (as := []) (st := []) rfl s0_81 ml_X12_135 im_X12_next se_X12_next okX12_next ⟨by decide, by decide⟩ dX12_readSun_62 (Nat.le_of_ble_eq_true rfl) rfl (Nat.le_of_ble_eq_true rfl) (by decide) (by decide) (zCC.mono w ?_)
        rintro r S' h22 ⟨rfl, hr, w⟩
        subst hr
        show RR mX12_readSun 0 0 65 [some (.ref 81), some (.int (zI x2)), some (.int (zI x19))] [] zS0 h22 (zQv zS0 K)
        exact r_ret (st := []) (pc := 65) dX12_readSun_65 rfl rfl (by decide) ⟨rfl, rfl, w⟩

set_option maxRecDepth 100000 in
set_option maxHeartbeats 4000000 in
theorem wX12_readLine {h : zMm} {K : zMm → Prop} (w : zCi mX12_nameHere [.ref 81] zS0 h (fun x1 h1 => (zR x1 ∧ ((¬ x1 = (-4) → (zR ((iSr (h1 81 19) x1) % 2) ∧ ((¬ x1 = 8 → ((¬ x1 = 9 → ((¬ ((iSr (h1 81 19) x1) % 2) = 1 → zCv mX12_next [.ref 81] zS0 (zU h1 81 19 (iO (h1 81 19) (iSl 1 x1))) (fun h9 => ((0 ≤ x1 ∧ x1 < 8) ∧ zCi mX12_here [.ref 81, .int (zI (h9 85 x1)), .int (zI (h9 86 x1))] zS0 h9 (fun x11 h11 => zCv mX12_next [.ref 81] zS0 (zU h11 89 x1 x11) (fun h12 => (zR (h12 81 3) ∧ (zR (h12 81 7) ∧ ((¬ (h12 81 3) = 0 → zCv mX12_next [.ref 81] zS0 h12 (fun h17 => K h17)) ∧ ((h12 81 3) = 0 → (((h12 81 7) = 3 → zCv mX12_next [.ref 81] zS0 h12 (fun h18 => K h18)) ∧ (¬ (h12 81 7) = 3 → zCv mX12_fails [.ref 81, .int (zI 2)] zS0 h12 (fun h19 => zCv mX12_next [.ref 81] zS0 h19 (fun h20 => K h20))))))))))))) ∧ (((iSr (h1 81 19) x1) % 2) = 1 → zCv mX12_fails [.ref 81, .int (zI 4)] zS0 h1 (fun h21 => zCv mX12_next [.ref 81] zS0 (zU h21 81 19 (iO (h21 81 19) (iSl 1 x1))) (fun h22 => ((0 ≤ x1 ∧ x1 < 8) ∧ zCi mX12_here [.ref 81, .int (zI (h22 85 x1)), .int (zI (h22 86 x1))] zS0 h22 (fun x24 h24 => zCv mX12_next [.ref 81] zS0 (zU h24 89 x1 x24) (fun h25 => (zR (h25 81 3) ∧ (zR (h25 81 7) ∧ ((¬ (h25 81 3) = 0 → zCv mX12_next [.ref 81] zS0 h25 (fun h30 => K h30)) ∧ ((h25 81 3) = 0 → (((h25 81 7) = 3 → zCv mX12_next [.ref 81] zS0 h25 (fun h31 => K h31)) ∧ (¬ (h25 81 7) = 3 → zCv mX12_fails [.ref 81, .int (zI 2)] zS0 h25 (fun h32 => zCv mX12_next [.ref 81] zS0 h32 (fun h33 => K h33)))))))))))))))) ∧ (x1 = 9 → zCv mX12_readSun [.ref 81] zS0 h1 (fun h34 => (zR (h34 81 3) ∧ (zR (h34 81 7) ∧ ((¬ (h34 81 3) = 0 → zCv mX12_next [.ref 81] zS0 h34 (fun h39 => K h39)) ∧ ((h34 81 3) = 0 → (((h34 81 7) = 3 → zCv mX12_next [.ref 81] zS0 h34 (fun h40 => K h40)) ∧ (¬ (h34 81 7) = 3 → zCv mX12_fails [.ref 81, .int (zI 2)] zS0 h34 (fun h41 => zCv mX12_next [.ref 81] zS0 h41 (fun h42 => K h42)))))))))))) ∧ (x1 = 8 → zCv mX12_readRow [.ref 81] zS0 h1 (fun h43 => (zR (h43 81 3) ∧ (zR (h43 81 7) ∧ ((¬ (h43 81 3) = 0 → zCv mX12_next [.ref 81] zS0 h43 (fun h48 => K h48)) ∧ ((h43 81 3) = 0 → (((h43 81 7) = 3 → zCv mX12_next [.ref 81] zS0 h43 (fun h49 => K h49)) ∧ (¬ (h43 81 7) = 3 → zCv mX12_fails [.ref 81, .int (zI 2)] zS0 h43 (fun h50 => zCv mX12_next [.ref 81] zS0 h50 (fun h51 => K h51))))))))))))) ∧ (x1 = (-4) → zCv mX12_fails [.ref 81, .int (zI 2)] zS0 h1 (fun h52 => K h52)))))) : zCv mX12_readLine [.ref 81] zS0 h K := by
  show RR mX12_readLine 0 0 0 [some (.ref 81), none] [] zS0 h (zQv zS0 K)
  refine r_aload_n (pc := 0) (a := 81) dX12_readLine_0 rfl ?_
  refine r_callV (μ2 := mX12_nameHere) (pc := 1) (as := []) (st := []) rfl s0_81 ml_X12_145 im_X12_nameHere se_X12_nameHere okX12_nameHere ⟨by decide, by decide⟩ dX12_readLine_1 (Nat.le_of_ble_eq_true rfl) rfl (Nat.le_of_ble_eq_true rfl) (by decide) (by decide) (zCC.mono w ?_)
  rintro r S' h1 ⟨rfl, x1, hr, w⟩
  subst hr
  show RR mX12_readLine 0 0 4 [some (.ref 81), none] [.int (zI x1)] zS0 h1 (zQv zS0 K)
  refine r_istore_n (pc := 4) (L' := [some (.ref 81), some (.int (zI x1))]) dX12_readLine_4 (by decide) rfl ?_
  refine r_iload_n (pc := 5) (x := x1) dX12_readLine_5 rfl ?_
  refine r_bipush (pc := 6) (x := (-4)) dX12_readLine_6 (by decide) ?_
  obtain ⟨hr2, w⟩ := w
  refine r_icmp_ne (pc := 8) (x := x1) (y := (-4)) (tgt := 17) dX12_readLine_8 (by decide) hr2 (by decide) (fun c => ?_) (fun c => ?_)
  · have w := w.1 (c)
    refine r_iload_n (pc := 17) (x := x1) dX12_readLine_17 rfl ?_
    refine r_bipush (pc := 18) (x := 8) dX12_readLine_18 (by decide) ?_
    obtain ⟨hr5, w⟩ := w
    refine r_icmp_ne (pc := 20) (x := x1) (y := 8) (tgt := 30) dX12_readLine_20 (by decide) hr2 (by decide) (fun c => ?_) (fun c => ?_)
    · have w := w.1 (c)
      refine r_iload_n (pc := 30) (x := x1) dX12_readLine_30 rfl ?_
      refine r_bipush (pc := 31) (x := 9) dX12_readLine_31 (by decide) ?_
      refine r_icmp_ne (pc := 33) (x := x1) (y := 9) (tgt := 43) dX12_readLine_33 (by decide) hr2 (by decide) (fun c => ?_) (fun c => ?_)
      · have w := w.1 (c)
        refine r_aload_n (pc := 43) (a := 81) dX12_readLine_43 rfl ?_
        refine r_getI (pc := 44) (fi := 19) (x := (h1 81 19)) fl_X12_155 dX12_readLine_44 s0_81 rfl (rfl) ?_
        refine r_iload_n (pc := 47) (x := x1) dX12_readLine_47 rfl ?_
        refine r_ishr (pc := 48) (x := (h1 81 19)) (y := x1) dX12_readLine_48 ?_
        refine r_iconst (pc := 49) dX12_readLine_49 ?_
        refine r_iandM (pc := 50) (x := (iSr (h1 81 19) x1)) (y := 1) (z := ((iSr (h1 81 19) x1) % 2)) dX12_readLine_50 (zI_mask _ 1 (by decide)) ?_
        refine r_iconst (pc := 51) dX12_readLine_51 ?_
        refine r_icmp_ne (pc := 52) (x := ((iSr (h1 81 19) x1) % 2)) (y := 1) (tgt := 60) dX12_readLine_52 (by decide) hr5 (by decide) (fun c => ?_) (fun c => ?_)
        · have w := w.1 (c)
          refine r_aload_n (pc := 60) (a := 81) dX12_readLine_60 rfl ?_
          refine r_dup (pc := 61) rfl dX12_readLine_61 ?_
          refine r_getI (pc := 62) (fi := 19) (x := (h1 81 19)) fl_X12_155 dX12_readLine_62 s0_81 rfl (rfl) ?_
          refine r_iconst (pc := 65) dX12_readLine_65 ?_
          refine r_iload_n (pc := 66) (x := x1) dX12_readLine_66 rfl ?_
          refine r_ishl (pc := 67) (x := 1) (y := x1) dX12_readLine_67 ?_
          refine r_ior (pc := 68) (x := (h1 81 19)) (y := (iSl 1 x1)) dX12_readLine_68 ?_
          refine r_putI (pc := 69) (fi := 19) (x := (iO (h1 81 19) (iSl 1 x1))) fl_X12_155 dX12_readLine_69 s0_81 rfl ?_
          refine r_aload_n (pc := 72) (a := 81) dX12_readLine_72 rfl ?_
          refine r_callV (μ2 := mX12_next) (pc := 73) (as := []) (st := []) rfl s0_81 ml_X12_135 im_X12_next se_X12_next okX12_next ⟨by decide, by decide⟩ dX12_readLine_73 (Nat.le_of_ble_eq_true rfl) rfl (Nat.le_of_ble_eq_true rfl) (by decide) (by decide) (zCC.mono w ?_)
          rintro r S' h9 ⟨rfl, hr, w⟩
          subst hr
          show RR mX12_readLine 0 0 76 [some (.ref 81), some (.int (zI x1))] [] zS0 h9 (zQv zS0 K)
          refine r_aload_n (pc := 76) (a := 81) dX12_readLine_76 rfl ?_
          refine r_getR (pc := 77) (b := 89) fl_X12_31 dX12_readLine_77 s0_81 rfl ?_
          refine r_iload_n (pc := 80) (x := x1) dX12_readLine_80 rfl ?_
          refine r_aload_n (pc := 81) (a := 81) dX12_readLine_81 rfl ?_
          refine r_aload_n (pc := 82) (a := 81) dX12_readLine_82 rfl ?_
          refine r_getR (pc := 83) (b := 85) fl_X12_19 dX12_readLine_83 s0_81 rfl ?_
          refine r_iload_n (pc := 86) (x := x1) dX12_readLine_86 rfl ?_
          obtain ⟨hb10, w⟩ := w
          refine r_iald (pc := 87) (i := x1) (x := (h9 85 x1)) dX12_readLine_87 s0_85 ⟨hb10.1, hb10.2, (by decide)⟩ (rfl) ?_
          refine r_aload_n (pc := 88) (a := 81) dX12_readLine_88 rfl ?_
          refine r_getR (pc := 89) (b := 86) fl_X12_22 dX12_readLine_89 s0_81 rfl ?_
          refine r_iload_n (pc := 92) (x := x1) dX12_readLine_92 rfl ?_
          refine r_iald (pc := 93) (i := x1) (x := (h9 86 x1)) dX12_readLine_93 s0_86 ⟨by omega, by omega, (by decide)⟩ (rfl) ?_
          refine r_callV (μ2 := mX12_here) (pc := 94) (as := [.int (zI (h9 85 x1)), .int (zI (h9 86 x1))]) (st := [.int (zI x1), .ref 89]) rfl s0_81 ml_X12_141 im_X12_here se_X12_here okX12_here ⟨by decide, by decide⟩ dX12_readLine_94 (Nat.le_of_ble_eq_true rfl) rfl (Nat.le_of_ble_eq_true rfl) (by decide) (by decide) (zCC.mono w ?_)
          rintro r S' h11 ⟨rfl, x11, hr, w⟩
          subst hr
          show RR mX12_readLine 0 0 97 [some (.ref 81), some (.int (zI x1))] [.int (zI x11), .int (zI x1), .ref 89] zS0 h11 (zQv zS0 K)
          refine r_iast (pc := 97) (i := x1) (x := x11) dX12_readLine_97 s0_89 ⟨by omega, by omega, (by decide)⟩  ?_
          refine r_aload_n (pc := 98) (a := 81) dX12_readLine_98 rfl ?_
          refine r_callV (μ2 := mX12_next) (pc := 99) (as := []) (st := []) rfl s0_81 ml_X12_135 im_X12_next se_X12_next okX12_next ⟨by decide, by decide⟩ dX12_readLine_99 (Nat.le_of_ble_eq_true rfl) rfl (Nat.le_of_ble_eq_true rfl) (by decide) (by decide) (zCC.mono w ?_)
          rintro r S' h12 ⟨rfl, hr, w⟩
          subst hr
          show RR mX12_readLine 0 0 102 [some (.ref 81), some (.int (zI x1))] [] zS0 h12 (zQv zS0 K)
          refine r_aload_n (pc := 102) (a := 81) dX12_readLine_102 rfl ?_
          refine r_getI (pc := 103) (fi := 3) (x := (h12 81 3)) fl_X12_98 dX12_readLine_103 s0_81 rfl (rfl) ?_
          obtain ⟨hr13, w⟩ := w
          obtain ⟨hr15, w⟩ := w
          refine r_if_ne (pc := 106) (x := (h12 81 3)) (tgt := 122) dX12_readLine_106 (by decide) hr13 (fun c => ?_) (fun c => ?_)
          · have w := w.1 (c)
            refine r_aload_n (pc := 122) (a := 81) dX12_readLine_122 rfl ?_
            refine r_callV (μ2 := mX12_next) (pc := 123) (as := []) (st := []) rfl s0_81 ml_X12_135 im_X12_next se_X12_next okX12_next ⟨by decide, by decide⟩ dX12_readLine_123 (Nat.le_of_ble_eq_true rfl) rfl (Nat.le_of_ble_eq_true rfl) (by decide) (by decide) (zCC.mono w ?_)
            rintro r S' h17 ⟨rfl, hr, w⟩
            subst hr
            show RR mX12_readLine 0 0 126 [some (.ref 81), some (.int (zI x1))] [] zS0 h17 (zQv zS0 K)
            exact r_ret (st := []) (pc := 126) dX12_readLine_126 rfl rfl (by decide) ⟨rfl, rfl, w⟩
          · have w := w.2 (c)
            refine r_aload_n (pc := 109) (a := 81) dX12_readLine_109 rfl ?_
            refine r_getI (pc := 110) (fi := 7) (x := (h12 81 7)) fl_X12_107 dX12_readLine_110 s0_81 rfl (rfl) ?_
            refine r_iconst (pc := 113) dX12_readLine_113 ?_
            refine r_icmp_eq (pc := 114) (x := (h12 81 7)) (y := 3) (tgt := 122) dX12_readLine_114 (by decide) hr15 (by decide) (fun c => ?_) (fun c => ?_)
            · have w := w.1 (c)
              refine r_aload_n (pc := 122) (a := 81) dX12_readLine_122 rfl ?_
              refine r_callV (μ2 := mX12_next) (pc := 123) (as := []) (st := []) rfl s0_81 ml_X12_135 im_X12_next se_X12_next okX12_next ⟨by decide, by decide⟩ dX12_readLine_123 (Nat.le_of_ble_eq_true rfl) rfl (Nat.le_of_ble_eq_true rfl) (by decide) (by decide) (zCC.mono w ?_)
              rintro r S' h18 ⟨rfl, hr, w⟩
              subst hr
              show RR mX12_readLine 0 0 126 [some (.ref 81), some (.int (zI x1))] [] zS0 h18 (zQv zS0 K)
              exact r_ret (st := []) (pc := 126) dX12_readLine_126 rfl rfl (by decide) ⟨rfl, rfl, w⟩
            · have w := w.2 (c)
              refine r_aload_n (pc := 117) (a := 81) dX12_readLine_117 rfl ?_
              refine r_iconst (pc := 118) dX12_readLine_118 ?_
              refine r_callV (μ2 := mX12_fails) (pc := 119) (as := [.int (zI 2)]) (st := []) rfl s0_81 ml_X12_128 im_X12_fails se_X12_fails okX12_fails ⟨by decide, by decide⟩ dX12_readLine_119 (Nat.le_of_ble_eq_true rfl) rfl (Nat.le_of_ble_eq_true rfl) (by decide) (by decide) (zCC.mono w ?_)
              rintro r S' h19 ⟨rfl, hr, w⟩
              subst hr
              show RR mX12_readLine 0 0 122 [some (.ref 81), some (.int (zI x1))] [] zS0 h19 (zQv zS0 K)
              refine r_aload_n (pc := 122) (a := 81) dX12_readLine_122 rfl ?_
              refine r_callV (μ2 := mX12_next) (pc := 123) (as := []) (st := []) rfl s0_81 ml_X12_135 im_X12_next se_X12_next okX12_next ⟨by decide, by decide⟩ dX12_readLine_123 (Nat.le_of_ble_eq_true rfl) rfl (Nat.le_of_ble_eq_true rfl) (by decide) (by decide) (zCC.mono w ?_)
              rintro r S' h20 ⟨rfl, hr, w⟩
              subst hr
              show RR mX12_readLine 0 0 126 [some (.ref 81), some (.int (zI x1))] [] zS0 h20 (zQv zS0 K)
              exact r_ret (st := []) (pc := 126) dX12_readLine_126 rfl rfl (by decide) ⟨rfl, rfl, w⟩
        · have w := w.2 (c)
          refine r_aload_n (pc := 55) (a := 81) dX12_readLine_55 rfl ?_
          refine r_iconst (pc := 56) dX12_readLine_56 ?_
          refine r_callV (μ2 := mX12_fails) (pc := 57) (as := [.int (zI 4)]) (st := []) rfl s0_81 ml_X12_128 im_X12_fails se_X12_fails okX12_fails ⟨by decide, by decide⟩ dX12_readLine_57 (Nat.le_of_ble_eq_true rfl) rfl (Nat.le_of_ble_eq_true rfl) (by decide) (by decide) (zCC.mono w ?_)
          rintro r S' h21 ⟨rfl, hr, w⟩
          subst hr
          show RR mX12_readLine 0 0 60 [some (.ref 81), some (.int (zI x1))] [] zS0 h21 (zQv zS0 K)
          refine r_aload_n (pc := 60) (a := 81) dX12_readLine_60 rfl ?_
          refine r_dup (pc := 61) rfl dX12_readLine_61 ?_
          refine r_getI (pc := 62) (fi := 19) (x := (h21 81 19)) fl_X12_155 dX12_readLine_62 s0_81 rfl (rfl) ?_
          refine r_iconst (pc := 65) dX12_readLine_65 ?_
          refine r_iload_n (pc := 66) (x := x1) dX12_readLine_66 rfl ?_
          refine r_ishl (pc := 67) (x := 1) (y := x1) dX12_readLine_67 ?_
          refine r_ior (pc := 68) (x := (h21 81 19)) (y := (iSl 1 x1)) dX12_readLine_68 ?_
          refine r_putI (pc := 69) (fi := 19) (x := (iO (h21 81 19) (iSl 1 x1))) fl_X12_155 dX12_readLine_69 s0_81 rfl ?_
          refine r_aload_n (pc := 72) (a := 81) dX12_readLine_72 rfl ?_
          refine r_callV (μ2 := mX12_next) (pc := 73) (as := []) (st := []) rfl s0_81 ml_X12_135 im_X12_next se_X12_next okX12_next ⟨by decide, by decide⟩ dX12_readLine_73 (Nat.le_of_ble_eq_true rfl) rfl (Nat.le_of_ble_eq_true rfl) (by decide) (by decide) (zCC.mono w ?_)
          rintro r S' h22 ⟨rfl, hr, w⟩
          subst hr
          show RR mX12_readLine 0 0 76 [some (.ref 81), some (.int (zI x1))] [] zS0 h22 (zQv zS0 K)
          refine r_aload_n (pc := 76) (a := 81) dX12_readLine_76 rfl ?_
          refine r_getR (pc := 77) (b := 89) fl_X12_31 dX12_readLine_77 s0_81 rfl ?_
          refine r_iload_n (pc := 80) (x := x1) dX12_readLine_80 rfl ?_
          refine r_aload_n (pc := 81) (a := 81) dX12_readLine_81 rfl ?_
          refine r_aload_n (pc := 82) (a := 81) dX12_readLine_82 rfl ?_
          refine r_getR (pc := 83) (b := 85) fl_X12_19 dX12_readLine_83 s0_81 rfl ?_
          refine r_iload_n (pc := 86) (x := x1) dX12_readLine_86 rfl ?_
          obtain ⟨hb23, w⟩ := w
          refine r_iald (pc := 87) (i := x1) (x := (h22 85 x1)) dX12_readLine_87 s0_85 ⟨hb23.1, hb23.2, (by decide)⟩ (rfl) ?_
          refine r_aload_n (pc := 88) (a := 81) dX12_readLine_88 rfl ?_
          refine r_getR (pc := 89) (b := 86) fl_X12_22 dX12_readLine_89 s0_81 rfl ?_
          refine r_iload_n (pc := 92) (x := x1) dX12_readLine_92 rfl ?_
          refine r_iald (pc := 93) (i := x1) (x := (h22 86 x1)) dX12_readLine_93 s0_86 ⟨by omega, by omega, (by decide)⟩ (rfl) ?_
          refine r_callV (μ2 := mX12_here) (pc := 94) (as := [.int (zI (h22 85 x1)), .int (zI (h22 86 x1))]) (st := [.int (zI x1), .ref 89]) rfl s0_81 ml_X12_141 im_X12_here se_X12_here okX12_here ⟨by decide, by decide⟩ dX12_readLine_94 (Nat.le_of_ble_eq_true rfl) rfl (Nat.le_of_ble_eq_true rfl) (by decide) (by decide) (zCC.mono w ?_)
          rintro r S' h24 ⟨rfl, x24, hr, w⟩
          subst hr
          show RR mX12_readLine 0 0 97 [some (.ref 81), some (.int (zI x1))] [.int (zI x24), .int (zI x1), .ref 89] zS0 h24 (zQv zS0 K)
          refine r_iast (pc := 97) (i := x1) (x := x24) dX12_readLine_97 s0_89 ⟨by omega, by omega, (by decide)⟩  ?_
          refine r_aload_n (pc := 98) (a := 81) dX12_readLine_98 rfl ?_
          refine r_callV (μ2 := mX12_next) (pc := 99) (as := []) (st := []) rfl s0_81 ml_X12_135 im_X12_next se_X12_next okX12_next ⟨by decide, by decide⟩ dX12_readLine_99 (Nat.le_of_ble_eq_true rfl) rfl (Nat.le_of_ble_eq_true rfl) (by decide) (by decide) (zCC.mono w ?_)
          rintro r S' h25 ⟨rfl, hr, w⟩
          subst hr
          show RR mX12_readLine 0 0 102 [some (.ref 81), some (.int (zI x1))] [] zS0 h25 (zQv zS0 K)
          refine r_aload_n (pc := 102) (a := 81) dX12_readLine_102 rfl ?_
          refine r_getI (pc := 103) (fi := 3) (x := (h25 81 3)) fl_X12_98 dX12_readLine_103 s0_81 rfl (rfl) ?_
          obtain ⟨hr26, w⟩ := w
          obtain ⟨hr28, w⟩ := w
          refine r_if_ne (pc := 106) (x := (h25 81 3)) (tgt := 122) dX12_readLine_106 (by decide) hr26 (fun c => ?_) (fun c => ?_)
          · have w := w.1 (c)
            refine r_aload_n (pc := 122) (a := 81) dX12_readLine_122 rfl ?_
            refine r_callV (μ2 := mX12_next) (pc := 123) (as := []) (st := []) rfl s0_81 ml_X12_135 im_X12_next se_X12_next okX12_next ⟨by decide, by decide⟩ dX12_readLine_123 (Nat.le_of_ble_eq_true rfl) rfl (Nat.le_of_ble_eq_true rfl) (by decide) (by decide) (zCC.mono w ?_)
            rintro r S' h30 ⟨rfl, hr, w⟩
            subst hr
            show RR mX12_readLine 0 0 126 [some (.ref 81), some (.int (zI x1))] [] zS0 h30 (zQv zS0 K)
            exact r_ret (st := []) (pc := 126) dX12_readLine_126 rfl rfl (by decide) ⟨rfl, rfl, w⟩
          · have w := w.2 (c)
            refine r_aload_n (pc := 109) (a := 81) dX12_readLine_109 rfl ?_
            refine r_getI (pc := 110) (fi := 7) (x := (h25 81 7)) fl_X12_107 dX12_readLine_110 s0_81 rfl (rfl) ?_
            refine r_iconst (pc := 113) dX12_readLine_113 ?_
            refine r_icmp_eq (pc := 114) (x := (h25 81 7)) (y := 3) (tgt := 122) dX12_readLine_114 (by decide) hr28 (by decide) (fun c => ?_) (fun c => ?_)
            · have w := w.1 (c)
              refine r_aload_n (pc := 122) (a := 81) dX12_readLine_122 rfl ?_
              refine r_callV (μ2 := mX12_next) (pc := 123) (as := []) (st := []) rfl s0_81 ml_X12_135 im_X12_next se_X12_next okX12_next ⟨by decide, by decide⟩ dX12_readLine_123 (Nat.le_of_ble_eq_true rfl) rfl (Nat.le_of_ble_eq_true rfl) (by decide) (by decide) (zCC.mono w ?_)
              rintro r S' h31 ⟨rfl, hr, w⟩
              subst hr
              show RR mX12_readLine 0 0 126 [some (.ref 81), some (.int (zI x1))] [] zS0 h31 (zQv zS0 K)
              exact r_ret (st := []) (pc := 126) dX12_readLine_126 rfl rfl (by decide) ⟨rfl, rfl, w⟩
            · have w := w.2 (c)
              refine r_aload_n (pc := 117) (a := 81) dX12_readLine_117 rfl ?_
              refine r_iconst (pc := 118) dX12_readLine_118 ?_
              refine r_callV (μ2 := mX12_fails) (pc := 119) (as := [.int (zI 2)]) (st := []) rfl s0_81 ml_X12_128 im_X12_fails se_X12_fails okX12_fails ⟨by decide, by decide⟩ dX12_readLine_119 (Nat.le_of_ble_eq_true rfl) rfl (Nat.le_of_ble_eq_true rfl) (by decide) (by decide) (zCC.mono w ?_)
              rintro r S' h32 ⟨rfl, hr, w⟩
              subst hr
              show RR mX12_readLine 0 0 122 [some (.ref 81), some (.int (zI x1))] [] zS0 h32 (zQv zS0 K)
              refine r_aload_n (pc := 122) (a := 81) dX12_readLine_122 rfl ?_
              refine r_callV (μ2 := mX12_next) (pc := 123) (as := []) (st := []) rfl s0_81 ml_X12_135 im_X12_next se_X12_next okX12_next ⟨by decide, by decide⟩ dX12_readLine_123 (Nat.le_of_ble_eq_true rfl) rfl (Nat.le_of_ble_eq_true rfl) (by decide) (by decide) (zCC.mono w ?_)
              rintro r S' h33 ⟨rfl, hr, w⟩
              subst hr
              show RR mX12_readLine 0 0 126 [some (.ref 81), some (.int (zI x1))] [] zS0 h33 (zQv zS0 K)
              exact r_ret (st := []) (pc := 126) dX12_readLine_126 rfl rfl (by decide) ⟨rfl, rfl, w⟩
      · have w := w.2 (c)
        refine r_aload_n (pc := 36) (a := 81) dX12_readLine_36 rfl ?_
        refine r_callV (μ2 := mX12_readSun) (pc := 37) (as := []) (st := []) rfl s0_81 ml_X12_152 im_X12_readSun se_X12_readSun okX12_readSun ⟨by decide, by decide⟩ dX12_readLine_37 (Nat.le_of_ble_eq_true rfl) rfl (Nat.le_of_ble_eq_true rfl) (by decide) (by decide) (zCC.mono w ?_)
        rintro r S' h34 ⟨rfl, hr, w⟩
        subst hr
        show RR mX12_readLine 0 0 40 [some (.ref 81), some (.int (zI x1))] [] zS0 h34 (zQv zS0 K)
        refine r_goto (pc := 40) (tgt := 102) dX12_readLine_40 (by decide) ?_
        refine r_aload_n (pc := 102) (a := 81) dX12_readLine_102 rfl ?_
        refine r_getI (pc := 103) (fi := 3) (x := (h34 81 3)) fl_X12_98 dX12_readLine_103 s0_81 rfl (rfl) ?_
        obtain ⟨hr35, w⟩ := w
        obtain ⟨hr37, w⟩ := w
        refine r_if_ne (pc := 106) (x := (h34 81 3)) (tgt := 122) dX12_readLine_106 (by decide) hr35 (fun c => ?_) (fun c => ?_)
        · have w := w.1 (c)
          refine r_aload_n (pc := 122) (a := 81) dX12_readLine_122 rfl ?_
          refine r_callV (μ2 := mX12_next) (pc := 123) (as := []) (st := []) rfl s0_81 ml_X12_135 im_X12_next se_X12_next okX12_next ⟨by decide, by decide⟩ dX12_readLine_123 (Nat.le_of_ble_eq_true rfl) rfl (Nat.le_of_ble_eq_true rfl) (by decide) (by decide) (zCC.mono w ?_)
          rintro r S' h39 ⟨rfl, hr, w⟩
          subst hr
          show RR mX12_readLine 0 0 126 [some (.ref 81), some (.int (zI x1))] [] zS0 h39 (zQv zS0 K)
          exact r_ret (st := []) (pc := 126) dX12_readLine_126 rfl rfl (by decide) ⟨rfl, rfl, w⟩
        · have w := w.2 (c)
          refine r_aload_n (pc := 109) (a := 81) dX12_readLine_109 rfl ?_
          refine r_getI (pc := 110) (fi := 7) (x := (h34 81 7)) fl_X12_107 dX12_readLine_110 s0_81 rfl (rfl) ?_
          refine r_iconst (pc := 113) dX12_readLine_113 ?_
          refine r_icmp_eq (pc := 114) (x := (h34 81 7)) (y := 3) (tgt := 122) dX12_readLine_114 (by decide) hr37 (by decide) (fun c => ?_) (fun c => ?_)
          · have w := w.1 (c)
            refine r_aload_n (pc := 122) (a := 81) dX12_readLine_122 rfl ?_
            refine r_callV (μ2 := mX12_next) (pc := 123) (as := []) (st := []) rfl s0_81 ml_X12_135 im_X12_next se_X12_next okX12_next ⟨by decide, by decide⟩ dX12_readLine_123 (Nat.le_of_ble_eq_true rfl) rfl (Nat.le_of_ble_eq_true rfl) (by decide) (by decide) (zCC.mono w ?_)
            rintro r S' h40 ⟨rfl, hr, w⟩
            subst hr
            show RR mX12_readLine 0 0 126 [some (.ref 81), some (.int (zI x1))] [] zS0 h40 (zQv zS0 K)
            exact r_ret (st := []) (pc := 126) dX12_readLine_126 rfl rfl (by decide) ⟨rfl, rfl, w⟩
          · have w := w.2 (c)
            refine r_aload_n (pc := 117) (a := 81) dX12_readLine_117 rfl ?_
            refine r_iconst (pc := 118) dX12_readLine_118 ?_
            refine r_callV (μ2 := mX12_fails) (pc := 119) (as := [.int (zI 2)]) (st := []) rfl s0_81 ml_X12_128 im_X12_fails se_X12_fails okX12_fails ⟨by decide, by decide⟩ dX12_readLine_119 (Nat.le_of_ble_eq_true rfl) rfl (Nat.le_of_ble_eq_true rfl) (by decide) (by decide) (zCC.mono w ?_)
            rintro r S' h41 ⟨rfl, hr, w⟩
            subst hr
            show RR mX12_readLine 0 0 122 [some (.ref 81), some (.int (zI x1))] [] zS0 h41 (zQv zS0 K)
            refine r_aload_n (pc := 122) (a := 81) dX12_readLine_122 rfl ?_
            refine r_callV (μ2 := mX12_next) (pc := 123) (as := []) (st := []) rfl s0_81 ml_X12_135 im_X12_next se_X12_next okX12_next ⟨by decide, by decide⟩ dX12_readLine_123 (Nat.le_of_ble_eq_true rfl) rfl (Nat.le_of_ble_eq_true rfl) (by decide) (by decide) (zCC.mono w ?_)
            rintro r S' h42 ⟨rfl, hr, w⟩
            subst hr
            show RR mX12_readLine 0 0 126 [some (.ref 81), some (.int (zI x1))] [] zS0 h42 (zQv zS0 K)
            exact r_ret (st := []) (pc := 126) dX12_readLine_126 rfl rfl (by decide) ⟨rfl, rfl, w⟩
    · have w := w.2 (c)
      refine r_aload_n (pc := 23) (a := 81) dX12_readLine_23 rfl ?_
      refine r_callV (μ2 := mX12_readRow) (pc := 24) (as := []) (st := []) rfl s0_81 ml_X12_149 im_X12_readRow se_X12_readRow okX12_readRow ⟨by decide, by decide⟩ dX12_readLine_24 (Nat.le_of_ble_eq_true rfl) rfl (Nat.le_of_ble_eq_true rfl) (by decide) (by decide) (zCC.mono w ?_)
      rintro r S' h43 ⟨rfl, hr, w⟩
      subst hr
      show RR mX12_readLine 0 0 27 [some (.ref 81), some (.int (zI x1))] [] zS0 h43 (zQv zS0 K)
      refine r_goto (pc := 27) (tgt := 102) dX12_readLine_27 (by decide) ?_
      refine r_aload_n (pc := 102) (a := 81) dX12_readLine_102 rfl ?_
      refine r_getI (pc := 103) (fi := 3) (x := (h43 81 3)) fl_X12_98 dX12_readLine_103 s0_81 rfl (rfl) ?_
      obtain ⟨hr44, w⟩ := w
      obtain ⟨hr46, w⟩ := w
      refine r_if_ne (pc := 106) (x := (h43 81 3)) (tgt := 122) dX12_readLine_106 (by decide) hr44 (fun c => ?_) (fun c => ?_)
      · have w := w.1 (c)
        refine r_aload_n (pc := 122) (a := 81) dX12_readLine_122 rfl ?_
        refine r_callV (μ2 := mX12_next) (pc := 123) (as := []) (st := []) rfl s0_81 ml_X12_135 im_X12_next se_X12_next okX12_next ⟨by decide, by decide⟩ dX12_readLine_123 (Nat.le_of_ble_eq_true rfl) rfl (Nat.le_of_ble_eq_true rfl) (by decide) (by decide) (zCC.mono w ?_)
        rintro r S' h48 ⟨rfl, hr, w⟩
        subst hr
        show RR mX12_readLine 0 0 126 [some (.ref 81), some (.int (zI x1))] [] zS0 h48 (zQv zS0 K)
        exact r_ret (st := []) (pc := 126) dX12_readLine_126 rfl rfl (by decide) ⟨rfl, rfl, w⟩
      · have w := w.2 (c)
        refine r_aload_n (pc := 109) (a := 81) dX12_readLine_109 rfl ?_
        refine r_getI (pc := 110) (fi := 7) (x := (h43 81 7)) fl_X12_107 dX12_readLine_110 s0_81 rfl (rfl) ?_
        refine r_iconst (pc := 113) dX12_readLine_113 ?_
        refine r_icmp_eq (pc := 114) (x := (h43 81 7)) (y := 3) (tgt := 122) dX12_readLine_114 (by decide) hr46 (by decide) (fun c => ?_) (fun c => ?_)
        · have w := w.1 (c)
          refine r_aload_n (pc := 122) (a := 81) dX12_readLine_122 rfl ?_
          refine r_callV (μ2 := mX12_next) (pc := 123) (as := []) (st := []) rfl s0_81 ml_X12_135 im_X12_next se_X12_next okX12_next ⟨by decide, by decide⟩ dX12_readLine_123 (Nat.le_of_ble_eq_true rfl) rfl (Nat.le_of_ble_eq_true rfl) (by decide) (by decide) (zCC.mono w ?_)
          rintro r S' h49 ⟨rfl, hr, w⟩
          subst hr
          show RR mX12_readLine 0 0 126 [some (.ref 81), some (.int (zI x1))] [] zS0 h49 (zQv zS0 K)
          exact r_ret (st := []) (pc := 126) dX12_readLine_126 rfl rfl (by decide) ⟨rfl, rfl, w⟩
        · have w := w.2 (c)
          refine r_aload_n (pc := 117) (a := 81) dX12_readLine_117 rfl ?_
          refine r_iconst (pc := 118) dX12_readLine_118 ?_
          refine r_callV (μ2 := mX12_fails) (pc := 119) (as := [.int (zI 2)]) (st := []) rfl s0_81 ml_X12_128 im_X12_fails se_X12_fails okX12_fails ⟨by decide, by decide⟩ dX12_readLine_119 (Nat.le_of_ble_eq_true rfl) rfl (Nat.le_of_ble_eq_true rfl) (by decide) (by decide) (zCC.mono w ?_)
          rintro r S' h50 ⟨rfl, hr, w⟩
          subst hr
          show RR mX12_readLine 0 0 122 [some (.ref 81), some (.int (zI x1))] [] zS0 h50 (zQv zS0 K)
          refine r_aload_n (pc := 122) (a := 81) dX12_readLine_122 rfl ?_
          refine r_callV (μ2 := mX12_next) (pc := 123) (as := []) (st := []) rfl s0_81 ml_X12_135 im_X12_next se_X12_next okX12_next ⟨by decide, by decide⟩ dX12_readLine_123 (Nat.le_of_ble_eq_true rfl) rfl (Nat.le_of_ble_eq_true rfl) (by decide) (by decide) (zCC.mono w ?_)
          rintro r S' h51 ⟨rfl, hr, w⟩
          subst hr
          show RR mX12_readLine 0 0 126 [some (.ref 81), some (.int (zI x1))] [] zS0 h51 (zQv zS0 K)
          exact r_ret (st := []) (pc := 126) dX12_readLine_126 rfl rfl (by decide) ⟨rfl, rfl, w⟩
  · have w := w.2 (c)
    refine r_aload_n (pc := 11) (a := 81) dX12_readLine_11 rfl ?_
    refine r_iconst (pc := 12) dX12_readLine_12 ?_
    refine r_callV (μ2 := mX12_fails) (pc := 13) (as := [.int (zI 2)]) (st := []) rfl s0_81 ml_X12_128 im_X12_fails se_X12_fails okX12_fails ⟨by decide, by decide⟩ dX12_readLine_13 (Nat.le_of_ble_eq_true rfl) rfl (Nat.le_of_ble_eq_true rfl) (by decide) (by decide) (zCC.mono w ?_)
    rintro r S' h52 ⟨rfl, hr, w⟩
    subst hr
    show RR mX12_readLine 0 0 16 [some (.ref 81), some (.int (zI x1))] [] zS0 h52 (zQv zS0 K)
    exact r_ret (st := []) (pc := 16) dX12_readLine_16 rfl rfl (by decide) ⟨rfl, rfl, w⟩

set_option maxRecDepth 100000 in
set_option maxHeartbeats 4000000 in
theorem wX12_takeAll {h : zMm} {K : zMm → Prop} (w : RR mX12_takeAll 0 0 2 [some (.ref 81), some (.int (zI 0))] [] zS0 h (zQv zS0 K)) : zCv mX12_takeAll [.ref 81] zS0 h K := by
  show RR mX12_takeAll 0 0 0 [some (.ref 81), none] [] zS0 h (zQv zS0 K)
  refine r_iconst (pc := 0) dX12_takeAll_0 ?_
  refine r_istore_n (pc := 1) (L' := [some (.ref 81), some (.int (zI 0))]) dX12_takeAll_1 (by decide) rfl ?_
  exact w

set_option maxRecDepth 100000 in
set_option maxHeartbeats 4000000 in
theorem bX12_takeAll_2 {h : zMm} {K : zMm → Prop} {v1 : Int} (w : (zR v1 ∧ ((8 ≤ v1 → RR mX12_takeAll 0 0 28 [some (.ref 81), some (.int (zI 0))] [] zS0 h (zQv zS0 K)) ∧ (¬ 8 ≤ v1 → ((0 ≤ v1 ∧ v1 < 8) ∧ RR mX12_takeAll 0 0 2 [some (.ref 81), some (.int (zI (v1 + 1)))] [] zS0 (zU h 88 v1 (h 89 v1)) (zQv zS0 K)))))) : RR mX12_takeAll 0 0 2 [some (.ref 81), some (.int (zI v1))] [] zS0 h (zQv zS0 K) := by
  refine r_iload_n (pc := 2) (x := v1) dX12_takeAll_2 rfl ?_
  refine r_bipush (pc := 3) (x := 8) dX12_takeAll_3 (by decide) ?_
  obtain ⟨hr1, w⟩ := w
  refine r_icmp_ge (pc := 5) (x := v1) (y := 8) (tgt := 26) dX12_takeAll_5 (by decide) hr1 (by decide) (fun c => ?_) (fun c => ?_)
  · have w := w.1 (c)
    refine r_iconst (pc := 26) dX12_takeAll_26 ?_
    refine r_istore_n (pc := 27) (L' := [some (.ref 81), some (.int (zI 0))]) dX12_takeAll_27 (by decide) rfl ?_
    exact w
  · have w := w.2 (c)
    refine r_aload_n (pc := 8) (a := 81) dX12_takeAll_8 rfl ?_
    refine r_getR (pc := 9) (b := 88) fl_X12_28 dX12_takeAll_9 s0_81 rfl ?_
    refine r_iload_n (pc := 12) (x := v1) dX12_takeAll_12 rfl ?_
    refine r_aload_n (pc := 13) (a := 81) dX12_takeAll_13 rfl ?_
    refine r_getR (pc := 14) (b := 89) fl_X12_31 dX12_takeAll_14 s0_81 rfl ?_
    refine r_iload_n (pc := 17) (x := v1) dX12_takeAll_17 rfl ?_
    obtain ⟨hb2, w⟩ := w
    refine r_iald (pc := 18) (i := v1) (x := (h 89 v1)) dX12_takeAll_18 s0_89 ⟨hb2.1, hb2.2, (by decide)⟩ (rfl) ?_
    refine r_iast (pc := 19) (i := v1) (x := (h 89 v1)) dX12_takeAll_19 s0_88 ⟨by omega, by omega, (by decide)⟩  ?_
    refine r_iinc (pc := 20) (x := v1) (L' := [some (.ref 81), some (.int (zI (v1 + 1)))]) dX12_takeAll_20 rfl (by decide) rfl ?_
    refine r_goto (pc := 23) (tgt := 2) dX12_takeAll_23 (by decide) ?_
    exact w

set_option maxRecDepth 100000 in
set_option maxHeartbeats 4000000 in
theorem bX12_takeAll_28 {h : zMm} {K : zMm → Prop} {v1 : Int} (w : (zR v1 ∧ ((36 ≤ v1 → K (zU (zU h 92 192 0) 81 21 1)) ∧ (¬ 36 ≤ v1 → ((0 ≤ v1 ∧ v1 < 36) ∧ (zR (h 90 v1) ∧ ((1 < (h 90 v1) → ((0 ≤ (36 + v1) ∧ (36 + v1) < 600) ∧ ((0 ≤ (72 + v1) ∧ (72 + v1) < 600) ∧ (zR (h 91 v1) ∧ ((0 ≤ (h 91 v1) → ((0 ≤ (108 + v1) ∧ (108 + v1) < 600) ∧ RR mX12_takeAll 0 0 28 [some (.ref 81), some (.int (zI (v1 + 1)))] [] zS0 (zU (zU (zU (zU h 92 v1 (h 90 v1)) 92 (36 + v1) 0) 92 (72 + v1) 0) 92 (108 + v1) (h 91 v1)) (zQv zS0 K))) ∧ (¬ 0 ≤ (h 91 v1) → ((0 ≤ (108 + v1) ∧ (108 + v1) < 600) ∧ RR mX12_takeAll 0 0 28 [some (.ref 81), some (.int (zI (v1 + 1)))] [] zS0 (zU (zU (zU (zU h 92 v1 (h 90 v1)) 92 (36 + v1) 0) 92 (72 + v1) 0) 92 (108 + v1) ((-1) - (h 91 v1))) (zQv zS0 K)))))))) ∧ (¬ 1 < (h 90 v1) → ((0 ≤ (36 + v1) ∧ (36 + v1) < 600) ∧ ((0 ≤ (72 + v1) ∧ (72 + v1) < 600) ∧ (zR (h 91 v1) ∧ ((0 ≤ (h 91 v1) → ((0 ≤ (108 + v1) ∧ (108 + v1) < 600) ∧ RR mX12_takeAll 0 0 28 [some (.ref 81), some (.int (zI (v1 + 1)))] [] zS0 (zU (zU (zU (zU h 92 v1 (h 90 v1)) 92 (36 + v1) (h 88 7)) 92 (72 + v1) 0) 92 (108 + v1) (h 91 v1)) (zQv zS0 K))) ∧ (¬ 0 ≤ (h 91 v1) → ((0 ≤ (108 + v1) ∧ (108 + v1) < 600) ∧ RR mX12_takeAll 0 0 28 [some (.ref 81), some (.int (zI (v1 + 1)))] [] zS0 (zU (zU (zU (zU h 92 v1 (h 90 v1)) 92 (36 + v1) (h 88 7)) 92 (72 + v1) 0) 92 (108 + v1) ((-1) - (h 91 v1))) (zQv zS0 K))))))))))))))) : RR mX12_takeAll 0 0 28 [some (.ref 81), some (.int (zI v1))] [] zS0 h (zQv zS0 K) := by
  refine r_iload_n (pc := 28) (x := v1) dX12_takeAll_28 rfl ?_
  refine r_bipush (pc := 29) (x := 36) dX12_takeAll_29 (by decide) ?_
  obtain ⟨hr3, w⟩ := w
  refine r_icmp_ge (pc := 31) (x := v1) (y := 36) (tgt := 127) dX12_takeAll_31 (by decide) hr3 (by decide) (fun c => ?_) (fun c => ?_)
  · have w := w.1 (c)
    refine r_aload_n (pc := 127) (a := 81) dX12_takeAll_127 rfl ?_
    refine r_getR (pc := 128) (b := 92) fl_X12_40 dX12_takeAll_128 s0_81 rfl ?_
    refine r_sipush (pc := 131) (x := 192) dX12_takeAll_131 (by decide) ?_
    refine r_iconst (pc := 134) dX12_takeAll_134 ?_
    refine r_iast (pc := 135) (i := 192) (x := 0) dX12_takeAll_135 s0_92 (by decide)  ?_
    refine r_aload_n (pc := 136) (a := 81) dX12_takeAll_136 rfl ?_
    refine r_iconst (pc := 137) dX12_takeAll_137 ?_
    refine r_putZ (pc := 138) (fi := 21) (x := 1) fl_X12_158 dX12_takeAll_138 s0_81 rfl (by decide) ?_
    exact r_ret (st := []) (pc := 141) dX12_takeAll_141 rfl rfl (by decide) ⟨rfl, rfl, w⟩
  · have w := w.2 (c)
    refine r_aload_n (pc := 34) (a := 81) dX12_takeAll_34 rfl ?_
    refine r_getR (pc := 35) (b := 92) fl_X12_40 dX12_takeAll_35 s0_81 rfl ?_
    refine r_iload_n (pc := 38) (x := v1) dX12_takeAll_38 rfl ?_
    refine r_aload_n (pc := 39) (a := 81) dX12_takeAll_39 rfl ?_
    refine r_getR (pc := 40) (b := 90) fl_X12_34 dX12_takeAll_40 s0_81 rfl ?_
    refine r_iload_n (pc := 43) (x := v1) dX12_takeAll_43 rfl ?_
    obtain ⟨hb4, w⟩ := w
    refine r_iald (pc := 44) (i := v1) (x := (h 90 v1)) dX12_takeAll_44 s0_90 ⟨hb4.1, hb4.2, (by decide)⟩ (rfl) ?_
    refine r_iast (pc := 45) (i := v1) (x := (h 90 v1)) dX12_takeAll_45 s0_92 ⟨by omega, by omega, (by decide)⟩  ?_
    refine r_aload_n (pc := 46) (a := 81) dX12_takeAll_46 rfl ?_
    refine r_getR (pc := 47) (b := 92) fl_X12_40 dX12_takeAll_47 s0_81 rfl ?_
    refine r_bipush (pc := 50) (x := 36) dX12_takeAll_50 (by decide) ?_
    refine r_iload_n (pc := 52) (x := v1) dX12_takeAll_52 rfl ?_
    refine r_iadd (pc := 53) (x := 36) (y := v1) dX12_takeAll_53 ?_
    refine r_aload_n (pc := 54) (a := 81) dX12_takeAll_54 rfl ?_
    refine r_getR (pc := 55) (b := 90) fl_X12_34 dX12_takeAll_55 s0_81 rfl ?_
    refine r_iload_n (pc := 58) (x := v1) dX12_takeAll_58 rfl ?_
    refine r_iald (pc := 59) (i := v1) (x := (h 90 v1)) dX12_takeAll_59 s0_90 ⟨by omega, by omega, (by decide)⟩ (zU_ne (by omega)) ?_
    refine r_iconst (pc := 60) dX12_takeAll_60 ?_
    obtain ⟨hr5, w⟩ := w
    refine r_icmp_gt (pc := 61) (x := (h 90 v1)) (y := 1) (tgt := 74) dX12_takeAll_61 (by decide) hr5 (by decide) (fun c => ?_) (fun c => ?_)
    · have w := w.1 (c)
      refine r_iconst (pc := 74) dX12_takeAll_74 ?_
      obtain ⟨hb6, w⟩ := w
      refine r_iast (pc := 75) (i := (36 + v1)) (x := 0) dX12_takeAll_75 s0_92 ⟨hb6.1, hb6.2, (by decide)⟩  ?_
      refine r_aload_n (pc := 76) (a := 81) dX12_takeAll_76 rfl ?_
      refine r_getR (pc := 77) (b := 92) fl_X12_40 dX12_takeAll_77 s0_81 rfl ?_
      refine r_bipush (pc := 80) (x := 72) dX12_takeAll_80 (by decide) ?_
      refine r_iload_n (pc := 82) (x := v1) dX12_takeAll_82 rfl ?_
      refine r_iadd (pc := 83) (x := 72) (y := v1) dX12_takeAll_83 ?_
      refine r_iconst (pc := 84) dX12_takeAll_84 ?_
      obtain ⟨hb7, w⟩ := w
      refine r_iast (pc := 85) (i := (72 + v1)) (x := 0) dX12_takeAll_85 s0_92 ⟨hb7.1, hb7.2, (by decide)⟩  ?_
      refine r_aload_n (pc := 86) (a := 81) dX12_takeAll_86 rfl ?_
      refine r_getR (pc := 87) (b := 92) fl_X12_40 dX12_takeAll_87 s0_81 rfl ?_
      refine r_bipush (pc := 90) (x := 108) dX12_takeAll_90 (by decide) ?_
      refine r_iload_n (pc := 92) (x := v1) dX12_takeAll_92 rfl ?_
      refine r_iadd (pc := 93) (x := 108) (y := v1) dX12_takeAll_93 ?_
      refine r_aload_n (pc := 94) (a := 81) dX12_takeAll_94 rfl ?_
      refine r_getR (pc := 95) (b := 91) fl_X12_37 dX12_takeAll_95 s0_81 rfl ?_
      refine r_iload_n (pc := 98) (x := v1) dX12_takeAll_98 rfl ?_
      refine r_iald (pc := 99) (i := v1) (x := (h 91 v1)) dX12_takeAll_99 s0_91 ⟨by omega, by omega, (by decide)⟩ ((zU_ne (by omega)).trans ((zU_ne (by omega)).trans (zU_ne (by omega)))) ?_
      obtain ⟨hr8, w⟩ := w
      refine r_if_ge (pc := 100) (x := (h 91 v1)) (tgt := 114) dX12_takeAll_100 (by decide) hr8 (fun c => ?_) (fun c => ?_)
      · have w := w.1 (c)
        refine r_aload_n (pc := 114) (a := 81) dX12_takeAll_114 rfl ?_
        refine r_getR (pc := 115) (b := 91) fl_X12_37 dX12_takeAll_115 s0_81 rfl ?_
        refine r_iload_n (pc := 118) (x := v1) dX12_takeAll_118 rfl ?_
        refine r_iald (pc := 119) (i := v1) (x := (h 91 v1)) dX12_takeAll_119 s0_91 ⟨by omega, by omega, (by decide)⟩ ((zU_ne (by omega)).trans ((zU_ne (by omega)).trans (zU_ne (by omega)))) ?_
        obtain ⟨hb9, w⟩ := w
        refine r_iast (pc := 120) (i := (108 + v1)) (x := (h 91 v1)) dX12_takeAll_120 s0_92 ⟨hb9.1, hb9.2, (by decide)⟩  ?_
        refine r_iinc (pc := 121) (x := v1) (L' := [some (.ref 81), some (.int (zI (v1 + 1)))]) dX12_takeAll_121 rfl (by decide) rfl ?_
        refine r_goto (pc := 124) (tgt := 28) dX12_takeAll_124 (by decide) ?_
        exact w
      · have w := w.2 (c)
        refine r_iconst (pc := 103) dX12_takeAll_103 ?_
        refine r_aload_n (pc := 104) (a := 81) dX12_takeAll_104 rfl ?_
        refine r_getR (pc := 105) (b := 91) fl_X12_37 dX12_takeAll_105 s0_81 rfl ?_
        refine r_iload_n (pc := 108) (x := v1) dX12_takeAll_108 rfl ?_
        refine r_iald (pc := 109) (i := v1) (x := (h 91 v1)) dX12_takeAll_109 s0_91 ⟨by omega, by omega, (by decide)⟩ ((zU_ne (by omega)).trans ((zU_ne (by omega)).trans (zU_ne (by omega)))) ?_
        refine r_isub (pc := 110) (x := (-1)) (y := (h 91 v1)) dX12_takeAll_110 ?_
        refine r_goto (pc := 111) (tgt := 120) dX12_takeAll_111 (by decide) ?_
        obtain ⟨hb10, w⟩ := w
        refine r_iast (pc := 120) (i := (108 + v1)) (x := ((-1) - (h 91 v1))) dX12_takeAll_120 s0_92 ⟨hb10.1, hb10.2, (by decide)⟩  ?_
        refine r_iinc (pc := 121) (x := v1) (L' := [some (.ref 81), some (.int (zI (v1 + 1)))]) dX12_takeAll_121 rfl (by decide) rfl ?_
        refine r_goto (pc := 124) (tgt := 28) dX12_takeAll_124 (by decide) ?_
        exact w
    · have w := w.2 (c)
      refine r_aload_n (pc := 64) (a := 81) dX12_takeAll_64 rfl ?_
      refine r_getR (pc := 65) (b := 88) fl_X12_28 dX12_takeAll_65 s0_81 rfl ?_
      refine r_bipush (pc := 68) (x := 7) dX12_takeAll_68 (by decide) ?_
      refine r_iald (pc := 70) (i := 7) (x := (h 88 7)) dX12_takeAll_70 s0_88 (by decide) (zU_ne (by omega)) ?_
      refine r_goto (pc := 71) (tgt := 75) dX12_takeAll_71 (by decide) ?_
      obtain ⟨hb11, w⟩ := w
      refine r_iast (pc := 75) (i := (36 + v1)) (x := (h 88 7)) dX12_takeAll_75 s0_92 ⟨hb11.1, hb11.2, (by decide)⟩  ?_
      refine r_aload_n (pc := 76) (a := 81) dX12_takeAll_76 rfl ?_
      refine r_getR (pc := 77) (b := 92) fl_X12_40 dX12_takeAll_77 s0_81 rfl ?_
      refine r_bipush (pc := 80) (x := 72) dX12_takeAll_80 (by decide) ?_
      refine r_iload_n (pc := 82) (x := v1) dX12_takeAll_82 rfl ?_
      refine r_iadd (pc := 83) (x := 72) (y := v1) dX12_takeAll_83 ?_
      refine r_iconst (pc := 84) dX12_takeAll_84 ?_
      obtain ⟨hb12, w⟩ := w
      refine r_iast (pc := 85) (i := (72 + v1)) (x := 0) dX12_takeAll_85 s0_92 ⟨hb12.1, hb12.2, (by decide)⟩  ?_
      refine r_aload_n (pc := 86) (a := 81) dX12_takeAll_86 rfl ?_
      refine r_getR (pc := 87) (b := 92) fl_X12_40 dX12_takeAll_87 s0_81 rfl ?_
      refine r_bipush (pc := 90) (x := 108) dX12_takeAll_90 (by decide) ?_
      refine r_iload_n (pc := 92) (x := v1) dX12_takeAll_92 rfl ?_
      refine r_iadd (pc := 93) (x := 108) (y := v1) dX12_takeAll_93 ?_
      refine r_aload_n (pc := 94) (a := 81) dX12_takeAll_94 rfl ?_
      refine r_getR (pc := 95) (b := 91) fl_X12_37 dX12_takeAll_95 s0_81 rfl ?_
      refine r_iload_n (pc := 98) (x := v1) dX12_takeAll_98 rfl ?_
      refine r_iald (pc := 99) (i := v1) (x := (h 91 v1)) dX12_takeAll_99 s0_91 ⟨by omega, by omega, (by decide)⟩ ((zU_ne (by omega)).trans ((zU_ne (by omega)).trans (zU_ne (by omega)))) ?_
      obtain ⟨hr13, w⟩ := w
      refine r_if_ge (pc := 100) (x := (h 91 v1)) (tgt := 114) dX12_takeAll_100 (by decide) hr13 (fun c => ?_) (fun c => ?_)
      · have w := w.1 (c)
        refine r_aload_n (pc := 114) (a := 81) dX12_takeAll_114 rfl ?_
        refine r_getR (pc := 115) (b := 91) fl_X12_37 dX12_takeAll_115 s0_81 rfl ?_
        refine r_iload_n (pc := 118) (x := v1) dX12_takeAll_118 rfl ?_
        refine r_iald (pc := 119) (i := v1) (x := (h 91 v1)) dX12_takeAll_119 s0_91 ⟨by omega, by omega, (by decide)⟩ ((zU_ne (by omega)).trans ((zU_ne (by omega)).trans (zU_ne (by omega)))) ?_
        obtain ⟨hb14, w⟩ := w
        refine r_iast (pc := 120) (i := (108 + v1)) (x := (h 91 v1)) dX12_takeAll_120 s0_92 ⟨hb14.1, hb14.2, (by decide)⟩  ?_
        refine r_iinc (pc := 121) (x := v1) (L' := [some (.ref 81), some (.int (zI (v1 + 1)))]) dX12_takeAll_121 rfl (by decide) rfl ?_
        refine r_goto (pc := 124) (tgt := 28) dX12_takeAll_124 (by decide) ?_
        exact w
      · have w := w.2 (c)
        refine r_iconst (pc := 103) dX12_takeAll_103 ?_
        refine r_aload_n (pc := 104) (a := 81) dX12_takeAll_104 rfl ?_
        refine r_getR (pc := 105) (b := 91) fl_X12_37 dX12_takeAll_105 s0_81 rfl ?_
        refine r_iload_n (pc := 108) (x := v1) dX12_takeAll_108 rfl ?_
        refine r_iald (pc := 109) (i := v1) (x := (h 91 v1)) dX12_takeAll_109 s0_91 ⟨by omega, by omega, (by decide)⟩ ((zU_ne (by omega)).trans ((zU_ne (by omega)).trans (zU_ne (by omega)))) ?_
        refine r_isub (pc := 110) (x := (-1)) (y := (h 91 v1)) dX12_takeAll_110 ?_
        refine r_goto (pc := 111) (tgt := 120) dX12_takeAll_111 (by decide) ?_
        obtain ⟨hb15, w⟩ := w
        refine r_iast (pc := 120) (i := (108 + v1)) (x := ((-1) - (h 91 v1))) dX12_takeAll_120 s0_92 ⟨hb15.1, hb15.2, (by decide)⟩  ?_
        refine r_iinc (pc := 121) (x := v1) (L' := [some (.ref 81), some (.int (zI (v1 + 1)))]) dX12_takeAll_121 rfl (by decide) rfl ?_
        refine r_goto (pc := 124) (tgt := 28) dX12_takeAll_124 (by decide) ?_
        exact w

set_option maxRecDepth 100000 in
set_option maxHeartbeats 4000000 in
theorem wX12_garden {h : zMm} {K : Int → zMm → Prop} (w : RR mX12_garden 0 0 24 [some (.ref 81), some (.int (zI 0)), some (.int (zI 0))] [] zS0 (zU (zU (zU (zU h 81 3 0) 81 5 0) 81 18 0) 81 19 0) (zQi zS0 K)) : zCi mX12_garden [.ref 81] zS0 h K := by
  show RR mX12_garden 0 0 0 [some (.ref 81), none, none] [] zS0 h (zQi zS0 K)
  refine r_aload_n (pc := 0) (a := 81) dX12_garden_0 rfl ?_
  refine r_iconst (pc := 1) dX12_garden_1 ?_
  refine r_putI (pc := 2) (fi := 3) (x := 0) fl_X12_98 dX12_garden_2 s0_81 rfl ?_
  refine r_aload_n (pc := 5) (a := 81) dX12_garden_5 rfl ?_
  refine r_iconst (pc := 6) dX12_garden_6 ?_
  refine r_putI (pc := 7) (fi := 5) (x := 0) fl_X12_110 dX12_garden_7 s0_81 rfl ?_
  refine r_aload_n (pc := 10) (a := 81) dX12_garden_10 rfl ?_
  refine r_iconst (pc := 11) dX12_garden_11 ?_
  refine r_putI (pc := 12) (fi := 18) (x := 0) fl_X12_132 dX12_garden_12 s0_81 rfl ?_
  refine r_aload_n (pc := 15) (a := 81) dX12_garden_15 rfl ?_
  refine r_iconst (pc := 16) dX12_garden_16 ?_
  refine r_putI (pc := 17) (fi := 19) (x := 0) fl_X12_155 dX12_garden_17 s0_81 rfl ?_
  refine r_iconst (pc := 20) dX12_garden_20 ?_
  refine r_istore_n (pc := 21) (L' := [some (.ref 81), some (.int (zI 0)), none]) dX12_garden_21 (by decide) rfl ?_
  refine r_iconst (pc := 22) dX12_garden_22 ?_
  refine r_istore_n (pc := 23) (L' := [some (.ref 81), some (.int (zI 0)), some (.int (zI 0))]) dX12_garden_23 (by decide) rfl ?_
  exact w

set_option maxRecDepth 100000 in
set_option maxHeartbeats 4000000 in
theorem bX12_garden_24 {h : zMm} {K : Int → zMm → Prop} {v1 : Int} {v2 : Int} (w : (zR v2 ∧ ((8 ≤ v2 → RR mX12_garden 0 0 50 [some (.ref 81), some (.int (zI v1)), some (.int (zI 0))] [] zS0 h (zQi zS0 K)) ∧ (¬ 8 ≤ v2 → ((0 ≤ v2 ∧ v2 < 8) ∧ RR mX12_garden 0 0 24 [some (.ref 81), some (.int (zI v1)), some (.int (zI (v2 + 1)))] [] zS0 (zU h 89 v2 (h 87 v2)) (zQi zS0 K)))))) : RR mX12_garden 0 0 24 [some (.ref 81), some (.int (zI v1)), some (.int (zI v2))] [] zS0 h (zQi zS0 K) := by
  refine r_iload_n (pc := 24) (x := v2) dX12_garden_24 rfl ?_
  refine r_bipush (pc := 25) (x := 8) dX12_garden_25 (by decide) ?_
  obtain ⟨hr1, w⟩ := w
  refine r_icmp_ge (pc := 27) (x := v2) (y := 8) (tgt := 48) dX12_garden_27 (by decide) hr1 (by decide) (fun c => ?_) (fun c => ?_)
  · have w := w.1 (c)
    refine r_iconst (pc := 48) dX12_garden_48 ?_
    refine r_istore_n (pc := 49) (L' := [some (.ref 81), some (.int (zI v1)), some (.int (zI 0))]) dX12_garden_49 (by decide) rfl ?_
    exact w
  · have w := w.2 (c)
    refine r_aload_n (pc := 30) (a := 81) dX12_garden_30 rfl ?_
    refine r_getR (pc := 31) (b := 89) fl_X12_31 dX12_garden_31 s0_81 rfl ?_
    refine r_iload_n (pc := 34) (x := v2) dX12_garden_34 rfl ?_
    refine r_aload_n (pc := 35) (a := 81) dX12_garden_35 rfl ?_
    refine r_getR (pc := 36) (b := 87) fl_X12_25 dX12_garden_36 s0_81 rfl ?_
    refine r_iload_n (pc := 39) (x := v2) dX12_garden_39 rfl ?_
    obtain ⟨hb2, w⟩ := w
    refine r_iald (pc := 40) (i := v2) (x := (h 87 v2)) dX12_garden_40 s0_87 ⟨hb2.1, hb2.2, (by decide)⟩ (rfl) ?_
    refine r_iast (pc := 41) (i := v2) (x := (h 87 v2)) dX12_garden_41 s0_89 ⟨by omega, by omega, (by decide)⟩  ?_
    refine r_iinc (pc := 42) (x := v2) (L' := [some (.ref 81), some (.int (zI v1)), some (.int (zI (v2 + 1)))]) dX12_garden_42 rfl (by decide) rfl ?_
    refine r_goto (pc := 45) (tgt := 24) dX12_garden_45 (by decide) ?_
    exact w

set_option maxRecDepth 100000 in
set_option maxHeartbeats 4000000 in
theorem bX12_garden_50 {h : zMm} {K : Int → zMm → Prop} {v1 : Int} {v2 : Int} (w : (zR v2 ∧ ((36 ≤ v2 → zCv mX12_next [.ref 81] zS0 h (fun h4 => RR mX12_garden 0 0 80 [some (.ref 81), some (.int (zI v1)), none] [] zS0 h4 (zQi zS0 K))) ∧ (¬ 36 ≤ v2 → ((0 ≤ v2 ∧ v2 < 36) ∧ RR mX12_garden 0 0 50 [some (.ref 81), some (.int (zI v1)), some (.int (zI (v2 + 1)))] [] zS0 (zU (zU h 90 v2 0) 91 v2 3) (zQi zS0 K)))))) : RR mX12_garden 0 0 50 [some (.ref 81), some (.int (zI v1)), some (.int (zI v2))] [] zS0 h (zQi zS0 K) := by
  refine r_iload_n (pc := 50) (x := v2) dX12_garden_50 rfl ?_
  refine r_bipush (pc := 51) (x := 36) dX12_garden_51 (by decide) ?_
  obtain ⟨hr3, w⟩ := w
  refine r_icmp_ge (pc := 53) (x := v2) (y := 36) (tgt := 76) dX12_garden_53 (by decide) hr3 (by decide) (fun c => ?_) (fun c => ?_)
  · have w := w.1 (c)
    refine r_aload_n (pc := 76) (a := 81) dX12_garden_76 rfl ?_
    refine r_callV (μ2 := mX12_next) (pc := 77) (as := []) (st := []) rfl s0_81 ml_X12_135 im_X12_next se_X12_next okX12_next ⟨by decide, by decide⟩ dX12_garden_77 (Nat.le_of_ble_eq_true rfl) rfl (Nat.le_of_ble_eq_true rfl) (by decide) (by decide) (zCC.mono w ?_)
    rintro r S' h4 ⟨rfl, hr, w⟩
    subst hr
    show RR mX12_garden 0 0 80 [some (.ref 81), some (.int (zI v1)), some (.int (zI v2))] [] zS0 h4 (zQi zS0 K)
    exact RR.sub (L' := [some (.ref 81), some (.int (zI v1)), none]) (zSb_of (⟨rfl, ⟨rfl, trivial⟩⟩)) w
  · have w := w.2 (c)
    refine r_aload_n (pc := 56) (a := 81) dX12_garden_56 rfl ?_
    refine r_getR (pc := 57) (b := 90) fl_X12_34 dX12_garden_57 s0_81 rfl ?_
    refine r_iload_n (pc := 60) (x := v2) dX12_garden_60 rfl ?_
    refine r_iconst (pc := 61) dX12_garden_61 ?_
    obtain ⟨hb5, w⟩ := w
    refine r_iast (pc := 62) (i := v2) (x := 0) dX12_garden_62 s0_90 ⟨hb5.1, hb5.2, (by decide)⟩  ?_
    refine r_aload_n (pc := 63) (a := 81) dX12_garden_63 rfl ?_
    refine r_getR (pc := 64) (b := 91) fl_X12_37 dX12_garden_64 s0_81 rfl ?_
    refine r_iload_n (pc := 67) (x := v2) dX12_garden_67 rfl ?_
    refine r_iconst (pc := 68) dX12_garden_68 ?_
    refine r_iast (pc := 69) (i := v2) (x := 3) dX12_garden_69 s0_91 ⟨by omega, by omega, (by decide)⟩  ?_
    refine r_iinc (pc := 70) (x := v2) (L' := [some (.ref 81), some (.int (zI v1)), some (.int (zI (v2 + 1)))]) dX12_garden_70 rfl (by decide) rfl ?_
    refine r_goto (pc := 73) (tgt := 50) dX12_garden_73 (by decide) ?_
    exact w

set_option maxRecDepth 100000 in
set_option maxHeartbeats 4000000 in
theorem bX12_garden_80 {h : zMm} {K : Int → zMm → Prop} {v1 : Int} (w : (zR (h 81 3) ∧ (zR (h 81 7) ∧ ((¬ (h 81 3) = 0 → ((0 ≤ (h 89 0) ∧ (h 89 0) < 36) ∧ (zR (h 90 (h 89 0)) ∧ ((¬ (h 90 (h 89 0)) = 2 → (((h 81 3) ≤ 0 → zCv mX12_takeAll [.ref 81] zS0 (zU (zU h 81 1 0) 81 2 (h 81 3)) (fun h12 => K v1 h12)) ∧ (¬ (h 81 3) ≤ 0 → K ((-10) - (h 81 4)) (zU (zU h 81 1 0) 81 2 (h 81 3))))) ∧ ((h 90 (h 89 0)) = 2 → zCv mX12_fails [.ref 81, .int (zI 6)] zS0 h (fun h13 => (zR (h13 81 3) ∧ (((h13 81 3) ≤ 0 → zCv mX12_takeAll [.ref 81] zS0 (zU (zU h13 81 1 0) 81 2 (h13 81 3)) (fun h15 => K v1 h15)) ∧ (¬ (h13 81 3) ≤ 0 → K ((-10) - (h13 81 4)) (zU (zU h13 81 1 0) 81 2 (h13 81 3))))))))))) ∧ ((h 81 3) = 0 → (((h 81 7) = 0 → ((0 ≤ (h 89 0) ∧ (h 89 0) < 36) ∧ (zR (h 90 (h 89 0)) ∧ ((¬ (h 90 (h 89 0)) = 2 → (((h 81 3) ≤ 0 → zCv mX12_takeAll [.ref 81] zS0 (zU (zU h 81 1 0) 81 2 (h 81 3)) (fun h18 => K v1 h18)) ∧ (¬ (h 81 3) ≤ 0 → K ((-10) - (h 81 4)) (zU (zU h 81 1 0) 81 2 (h 81 3))))) ∧ ((h 90 (h 89 0)) = 2 → zCv mX12_fails [.ref 81, .int (zI 6)] zS0 h (fun h19 => (zR (h19 81 3) ∧ (((h19 81 3) ≤ 0 → zCv mX12_takeAll [.ref 81] zS0 (zU (zU h19 81 1 0) 81 2 (h19 81 3)) (fun h21 => K v1 h21)) ∧ (¬ (h19 81 3) ≤ 0 → K ((-10) - (h19 81 4)) (zU (zU h19 81 1 0) 81 2 (h19 81 3))))))))))) ∧ (¬ (h 81 7) = 0 → zCv mX12_readLine [.ref 81] zS0 h (fun h22 => RR mX12_garden 0 0 80 [some (.ref 81), some (.int (zI (v1 + 1))), none] [] zS0 h22 (zQi zS0 K))))))))) : RR mX12_garden 0 0 80 [some (.ref 81), some (.int (zI v1)), none] [] zS0 h (zQi zS0 K) := by
  refine r_aload_n (pc := 80) (a := 81) dX12_garden_80 rfl ?_
  refine r_getI (pc := 81) (fi := 3) (x := (h 81 3)) fl_X12_98 dX12_garden_81 s0_81 rfl (rfl) ?_
  obtain ⟨hr6, w⟩ := w
  obtain ⟨hr8, w⟩ := w
  refine r_if_ne (pc := 84) (x := (h 81 3)) (tgt := 104) dX12_garden_84 (by decide) hr6 (fun c => ?_) (fun c => ?_)
  · have w := w.1 (c)
    refine r_aload_n (pc := 104) (a := 81) dX12_garden_104 rfl ?_
    refine r_getR (pc := 105) (b := 90) fl_X12_34 dX12_garden_105 s0_81 rfl ?_
    refine r_aload_n (pc := 108) (a := 81) dX12_garden_108 rfl ?_
    refine r_getR (pc := 109) (b := 89) fl_X12_31 dX12_garden_109 s0_81 rfl ?_
    refine r_iconst (pc := 112) dX12_garden_112 ?_
    refine r_iald (pc := 113) (i := 0) (x := (h 89 0)) dX12_garden_113 s0_89 (by decide) (rfl) ?_
    obtain ⟨hb10, w⟩ := w
    refine r_iald (pc := 114) (i := (h 89 0)) (x := (h 90 (h 89 0))) dX12_garden_114 s0_90 ⟨hb10.1, hb10.2, (by decide)⟩ (rfl) ?_
    refine r_iconst (pc := 115) dX12_garden_115 ?_
    obtain ⟨hr11, w⟩ := w
    refine r_icmp_ne (pc := 116) (x := (h 90 (h 89 0))) (y := 2) (tgt := 125) dX12_garden_116 (by decide) hr11 (by decide) (fun c => ?_) (fun c => ?_)
    · have w := w.1 (c)
      refine r_aload_n (pc := 125) (a := 81) dX12_garden_125 rfl ?_
      refine r_iconst (pc := 126) dX12_garden_126 ?_
      refine r_putI (pc := 127) (fi := 1) (x := 0) fl_X12_90 dX12_garden_127 s0_81 rfl ?_
      refine r_aload_n (pc := 130) (a := 81) dX12_garden_130 rfl ?_
      refine r_aload_n (pc := 131) (a := 81) dX12_garden_131 rfl ?_
      refine r_getI (pc := 132) (fi := 3) (x := (h 81 3)) fl_X12_98 dX12_garden_132 s0_81 rfl (zU_ne (by omega)) ?_
      refine r_putI (pc := 135) (fi := 2) (x := (h 81 3)) fl_X12_165 dX12_garden_135 s0_81 rfl ?_
      refine r_aload_n (pc := 138) (a := 81) dX12_garden_138 rfl ?_
      refine r_getI (pc := 139) (fi := 3) (x := (h 81 3)) fl_X12_98 dX12_garden_139 s0_81 rfl ((zU_ne (by omega)).trans (zU_ne (by omega))) ?_
      refine r_if_le (pc := 142) (x := (h 81 3)) (tgt := 153) dX12_garden_142 (by decide) hr6 (fun c => ?_) (fun c => ?_)
      · have w := w.1 (c)
        refine r_aload_n (pc := 153) (a := 81) dX12_garden_153 rfl ?_
        refine r_callV (μ2 := mX12_takeAll) (pc := 154) (as := []) (st := []) rfl s0_81 ml_X12_168 im_X12_takeAll se_X12_takeAll okX12_takeAll ⟨by decide, by decide⟩ dX12_garden_154 (Nat.le_of_ble_eq_true rfl) rfl (Nat.le_of_ble_eq_true rfl) (by decide) (by decide) (zCC.mono w ?_)
        rintro r S' h12 ⟨rfl, hr, w⟩
        subst hr
        show RR mX12_garden 0 0 157 [some (.ref 81), some (.int (zI v1)), none] [] zS0 h12 (zQi zS0 K)
        refine r_iload_n (pc := 157) (x := v1) dX12_garden_157 rfl ?_
        exact r_iret (st := []) (pc := 158) (x := v1) (ty := .int) dX12_garden_158 rfl rfl rfl (by decide) ⟨rfl, _, rfl, w⟩
      · have w := w.2 (c)
        refine r_bipush (pc := 145) (x := (-10)) dX12_garden_145 (by decide) ?_
        refine r_aload_n (pc := 147) (a := 81) dX12_garden_147 rfl ?_
        refine r_getI (pc := 148) (fi := 4) (x := (h 81 4)) fl_X12_104 dX12_garden_148 s0_81 rfl ((zU_ne (by omega)).trans (zU_ne (by omega))) ?_
        refine r_isub (pc := 151) (x := (-10)) (y := (h 81 4)) dX12_garden_151 ?_
        exact r_iret (st := []) (pc := 152) (x := ((-10) - (h 81 4))) (ty := .int) dX12_garden_152 rfl rfl rfl (by decide) ⟨rfl, _, rfl, w⟩
    · have w := w.2 (c)
      refine r_aload_n (pc := 119) (a := 81) dX12_garden_119 rfl ?_
      refine r_bipush (pc := 120) (x := 6) dX12_garden_120 (by decide) ?_
      refine r_callV (μ2 := mX12_fails) (pc := 122) (as := [.int (zI 6)]) (st := []) rfl s0_81 ml_X12_128 im_X12_fails se_X12_fails okX12_fails ⟨by decide, by decide⟩ dX12_garden_122 (Nat.le_of_ble_eq_true rfl) rfl (Nat.le_of_ble_eq_true rfl) (by decide) (by decide) (zCC.mono w ?_)
      rintro r S' h13 ⟨rfl, hr, w⟩
      subst hr
      show RR mX12_garden 0 0 125 [some (.ref 81), some (.int (zI v1)), none] [] zS0 h13 (zQi zS0 K)
      refine r_aload_n (pc := 125) (a := 81) dX12_garden_125 rfl ?_
      refine r_iconst (pc := 126) dX12_garden_126 ?_
      refine r_putI (pc := 127) (fi := 1) (x := 0) fl_X12_90 dX12_garden_127 s0_81 rfl ?_
      refine r_aload_n (pc := 130) (a := 81) dX12_garden_130 rfl ?_
      refine r_aload_n (pc := 131) (a := 81) dX12_garden_131 rfl ?_
      refine r_getI (pc := 132) (fi := 3) (x := (h13 81 3)) fl_X12_98 dX12_garden_132 s0_81 rfl (zU_ne (by omega)) ?_
      refine r_putI (pc := 135) (fi := 2) (x := (h13 81 3)) fl_X12_165 dX12_garden_135 s0_81 rfl ?_
      refine r_aload_n (pc := 138) (a := 81) dX12_garden_138 rfl ?_
      refine r_getI (pc := 139) (fi := 3) (x := (h13 81 3)) fl_X12_98 dX12_garden_139 s0_81 rfl ((zU_ne (by omega)).trans (zU_ne (by omega))) ?_
      obtain ⟨hr14, w⟩ := w
      refine r_if_le (pc := 142) (x := (h13 81 3)) (tgt := 153) dX12_garden_142 (by decide) hr14 (fun c => ?_) (fun c => ?_)
      · have w := w.1 (c)
        refine r_aload_n (pc := 153) (a := 81) dX12_garden_153 rfl ?_
        refine r_callV (μ2 := mX12_takeAll) (pc := 154) (as := []) (st := []) rfl s0_81 ml_X12_168 im_X12_takeAll se_X12_takeAll okX12_takeAll ⟨by decide, by decide⟩ dX12_garden_154 (Nat.le_of_ble_eq_true rfl) rfl (Nat.le_of_ble_eq_true rfl) (by decide) (by decide) (zCC.mono w ?_)
        rintro r S' h15 ⟨rfl, hr, w⟩
        subst hr
        show RR mX12_garden 0 0 157 [some (.ref 81), some (.int (zI v1)), none] [] zS0 h15 (zQi zS0 K)
        refine r_iload_n (pc := 157) (x := v1) dX12_garden_157 rfl ?_
        exact r_iret (st := []) (pc := 158) (x := v1) (ty := .int) dX12_garden_158 rfl rfl rfl (by decide) ⟨rfl, _, rfl, w⟩
      · have w := w.2 (c)
        refine r_bipush (pc := 145) (x := (-10)) dX12_garden_145 (by decide) ?_
        refine r_aload_n (pc := 147) (a := 81) dX12_garden_147 rfl ?_
        refine r_getI (pc := 148) (fi := 4) (x := (h13 81 4)) fl_X12_104 dX12_garden_148 s0_81 rfl ((zU_ne (by omega)).trans (zU_ne (by omega))) ?_
        refine r_isub (pc := 151) (x := (-10)) (y := (h13 81 4)) dX12_garden_151 ?_
        exact r_iret (st := []) (pc := 152) (x := ((-10) - (h13 81 4))) (ty := .int) dX12_garden_152 rfl rfl rfl (by decide) ⟨rfl, _, rfl, w⟩
  · have w := w.2 (c)
    refine r_aload_n (pc := 87) (a := 81) dX12_garden_87 rfl ?_
    refine r_getI (pc := 88) (fi := 7) (x := (h 81 7)) fl_X12_107 dX12_garden_88 s0_81 rfl (rfl) ?_
    refine r_if_eq (pc := 91) (x := (h 81 7)) (tgt := 104) dX12_garden_91 (by decide) hr8 (fun c => ?_) (fun c => ?_)
    · have w := w.1 (c)
      refine r_aload_n (pc := 104) (a := 81) dX12_garden_104 rfl ?_
      refine r_getR (pc := 105) (b := 90) fl_X12_34 dX12_garden_105 s0_81 rfl ?_
      refine r_aload_n (pc := 108) (a := 81) dX12_garden_108 rfl ?_
      refine r_getR (pc := 109) (b := 89) fl_X12_31 dX12_garden_109 s0_81 rfl ?_
      refine r_iconst (pc := 112) dX12_garden_112 ?_
      refine r_iald (pc := 113) (i := 0) (x := (h 89 0)) dX12_garden_113 s0_89 (by decide) (rfl) ?_
      obtain ⟨hb16, w⟩ := w
      refine r_iald (pc := 114) (i := (h 89 0)) (x := (h 90 (h 89 0))) dX12_garden_114 s0_90 ⟨hb16.1, hb16.2, (by decide)⟩ (rfl) ?_
      refine r_iconst (pc := 115) dX12_garden_115 ?_
      obtain ⟨hr17, w⟩ := w
      refine r_icmp_ne (pc := 116) (x := (h 90 (h 89 0))) (y := 2) (tgt := 125) dX12_garden_116 (by decide) hr17 (by decide) (fun c => ?_) (fun c => ?_)
      · have w := w.1 (c)
        refine r_aload_n (pc := 125) (a := 81) dX12_garden_125 rfl ?_
        refine r_iconst (pc := 126) dX12_garden_126 ?_
        refine r_putI (pc := 127) (fi := 1) (x := 0) fl_X12_90 dX12_garden_127 s0_81 rfl ?_
        refine r_aload_n (pc := 130) (a := 81) dX12_garden_130 rfl ?_
        refine r_aload_n (pc := 131) (a := 81) dX12_garden_131 rfl ?_
        refine r_getI (pc := 132) (fi := 3) (x := (h 81 3)) fl_X12_98 dX12_garden_132 s0_81 rfl (zU_ne (by omega)) ?_
        refine r_putI (pc := 135) (fi := 2) (x := (h 81 3)) fl_X12_165 dX12_garden_135 s0_81 rfl ?_
        refine r_aload_n (pc := 138) (a := 81) dX12_garden_138 rfl ?_
        refine r_getI (pc := 139) (fi := 3) (x := (h 81 3)) fl_X12_98 dX12_garden_139 s0_81 rfl ((zU_ne (by omega)).trans (zU_ne (by omega))) ?_
        refine r_if_le (pc := 142) (x := (h 81 3)) (tgt := 153) dX12_garden_142 (by decide) hr6 (fun c => ?_) (fun c => ?_)
        · have w := w.1 (c)
          refine r_aload_n (pc := 153) (a := 81) dX12_garden_153 rfl ?_
          refine r_callV (μ2 := mX12_takeAll) (pc := 154) (as := []) (st := []) rfl s0_81 ml_X12_168 im_X12_takeAll se_X12_takeAll okX12_takeAll ⟨by decide, by decide⟩ dX12_garden_154 (Nat.le_of_ble_eq_true rfl) rfl (Nat.le_of_ble_eq_true rfl) (by decide) (by decide) (zCC.mono w ?_)
          rintro r S' h18 ⟨rfl, hr, w⟩
          subst hr
          show RR mX12_garden 0 0 157 [some (.ref 81), some (.int (zI v1)), none] [] zS0 h18 (zQi zS0 K)
          refine r_iload_n (pc := 157) (x := v1) dX12_garden_157 rfl ?_
          exact r_iret (st := []) (pc := 158) (x := v1) (ty := .int) dX12_garden_158 rfl rfl rfl (by decide) ⟨rfl, _, rfl, w⟩
        · have w := w.2 (c)
          refine r_bipush (pc := 145) (x := (-10)) dX12_garden_145 (by decide) ?_
          refine r_aload_n (pc := 147) (a := 81) dX12_garden_147 rfl ?_
          refine r_getI (pc := 148) (fi := 4) (x := (h 81 4)) fl_X12_104 dX12_garden_148 s0_81 rfl ((zU_ne (by omega)).trans (zU_ne (by omega))) ?_
          refine r_isub (pc := 151) (x := (-10)) (y := (h 81 4)) dX12_garden_151 ?_
          exact r_iret (st := []) (pc := 152) (x := ((-10) - (h 81 4))) (ty := .int) dX12_garden_152 rfl rfl rfl (by decide) ⟨rfl, _, rfl, w⟩
      · have w := w.2 (c)
        refine r_aload_n (pc := 119) (a := 81) dX12_garden_119 rfl ?_
        refine r_bipush (pc := 120) (x := 6) dX12_garden_120 (by decide) ?_
        refine r_callV (μ2 := mX12_fails) (pc := 122) (as := [.int (zI 6)]) (st := []) rfl s0_81 ml_X12_128 im_X12_fails se_X12_fails okX12_fails ⟨by decide, by decide⟩ dX12_garden_122 (Nat.le_of_ble_eq_true rfl) rfl (Nat.le_of_ble_eq_true rfl) (by decide) (by decide) (zCC.mono w ?_)
        rintro r S' h19 ⟨rfl, hr, w⟩
        subst hr
        show RR mX12_garden 0 0 125 [some (.ref 81), some (.int (zI v1)), none] [] zS0 h19 (zQi zS0 K)
        refine r_aload_n (pc := 125) (a := 81) dX12_garden_125 rfl ?_
        refine r_iconst (pc := 126) dX12_garden_126 ?_
        refine r_putI (pc := 127) (fi := 1) (x := 0) fl_X12_90 dX12_garden_127 s0_81 rfl ?_
        refine r_aload_n (pc := 130) (a := 81) dX12_garden_130 rfl ?_
        refine r_aload_n (pc := 131) (a := 81) dX12_garden_131 rfl ?_
        refine r_getI (pc := 132) (fi := 3) (x := (h19 81 3)) fl_X12_98 dX12_garden_132 s0_81 rfl (zU_ne (by omega)) ?_
        refine r_putI (pc := 135) (fi := 2) (x := (h19 81 3)) fl_X12_165 dX12_garden_135 s0_81 rfl ?_
        refine r_aload_n (pc := 138) (a := 81) dX12_garden_138 rfl ?_
        refine r_getI (pc := 139) (fi := 3) (x := (h19 81 3)) fl_X12_98 dX12_garden_139 s0_81 rfl ((zU_ne (by omega)).trans (zU_ne (by omega))) ?_
        obtain ⟨hr20, w⟩ := w
        refine r_if_le (pc := 142) (x := (h19 81 3)) (tgt := 153) dX12_garden_142 (by decide) hr20 (fun c => ?_) (fun c => ?_)
        · have w := w.1 (c)
          refine r_aload_n (pc := 153) (a := 81) dX12_garden_153 rfl ?_
          refine r_callV (μ2 := mX12_takeAll) (pc := 154) (as := []) (st := []) rfl s0_81 ml_X12_168 im_X12_takeAll se_X12_takeAll okX12_takeAll ⟨by decide, by decide⟩ dX12_garden_154 (Nat.le_of_ble_eq_true rfl) rfl (Nat.le_of_ble_eq_true rfl) (by decide) (by decide) (zCC.mono w ?_)
          rintro r S' h21 ⟨rfl, hr, w⟩
          subst hr
          show RR mX12_garden 0 0 157 [some (.ref 81), some (.int (zI v1)), none] [] zS0 h21 (zQi zS0 K)
          refine r_iload_n (pc := 157) (x := v1) dX12_garden_157 rfl ?_
          exact r_iret (st := []) (pc := 158) (x := v1) (ty := .int) dX12_garden_158 rfl rfl rfl (by decide) ⟨rfl, _, rfl, w⟩
        · have w := w.2 (c)
          refine r_bipush (pc := 145) (x := (-10)) dX12_garden_145 (by decide) ?_
          refine r_aload_n (pc := 147) (a := 81) dX12_garden_147 rfl ?_
          refine r_getI (pc := 148) (fi := 4) (x := (h19 81 4)) fl_X12_104 dX12_garden_148 s0_81 rfl ((zU_ne (by omega)).trans (zU_ne (by omega))) ?_
          refine r_isub (pc := 151) (x := (-10)) (y := (h19 81 4)) dX12_garden_151 ?_
          exact r_iret (st := []) (pc := 152) (x := ((-10) - (h19 81 4))) (ty := .int) dX12_garden_152 rfl rfl rfl (by decide) ⟨rfl, _, rfl, w⟩
    · have w := w.2 (c)
      refine r_aload_n (pc := 94) (a := 81) dX12_garden_94 rfl ?_
      refine r_callV (μ2 := mX12_readLine) (pc := 95) (as := []) (st := []) rfl s0_81 ml_X12_162 im_X12_readLine se_X12_readLine okX12_readLine ⟨by decide, by decide⟩ dX12_garden_95 (Nat.le_of_ble_eq_true rfl) rfl (Nat.le_of_ble_eq_true rfl) (by decide) (by decide) (zCC.mono w ?_)
      rintro r S' h22 ⟨rfl, hr, w⟩
      subst hr
      show RR mX12_garden 0 0 98 [some (.ref 81), some (.int (zI v1)), none] [] zS0 h22 (zQi zS0 K)
      refine r_iinc (pc := 98) (x := v1) (L' := [some (.ref 81), some (.int (zI (v1 + 1))), none]) dX12_garden_98 rfl (by decide) rfl ?_
      refine r_goto (pc := 101) (tgt := 80) dX12_garden_101 (by decide) ?_
      exact w

set_option maxRecDepth 100000 in
set_option maxHeartbeats 4000000 in
theorem wX12_fault {h : zMm} {K : Int → zMm → Prop} (w : K (h 81 2) h) : zCi mX12_fault [.ref 81] zS0 h K := by
  show RR mX12_fault 0 0 0 [some (.ref 81)] [] zS0 h (zQi zS0 K)
  refine r_aload_n (pc := 0) (a := 81) dX12_fault_0 rfl ?_
  refine r_getI (pc := 1) (fi := 2) (x := (h 81 2)) fl_X12_165 dX12_fault_1 s0_81 rfl (rfl) ?_
  exact r_iret (st := []) (pc := 4) (x := (h 81 2)) (ty := .int) dX12_fault_4 rfl rfl rfl (by decide) ⟨rfl, _, rfl, w⟩

set_option maxRecDepth 100000 in
set_option maxHeartbeats 4000000 in
theorem wX12_rule {h : zMm} {K : Int → zMm → Prop} {v1 : Int} (w : (zR v1 ∧ zCb mX12_in [.long (zJ v1), .long (zJ 0), .long (zJ 6)] zS0 h (fun b2 h2 => ((b2 = false → K (-1) h2) ∧ (b2 = true → ((0 ≤ v1 ∧ v1 < 8) ∧ K (h2 88 v1) h2)))))) : zCi mX12_rule [.ref 81, .int (zI v1)] zS0 h K := by
  show RR mX12_rule 0 0 0 [some (.ref 81), some (.int (zI v1))] [] zS0 h (zQi zS0 K)
  refine r_iload_n (pc := 0) (x := v1) dX12_rule_0 rfl ?_
  obtain ⟨hr1, w⟩ := w
  refine r_i2l (pc := 1) (x := v1) dX12_rule_1 hr1 ?_
  refine r_lconst (pc := 2) (x := 0) dX12_rule_2 rfl ?_
  refine r_ldcL (pc := 3) (x := 6) dX12_rule_3 kl_X12_171 ?_
  refine r_callS (μ2 := mX12_in) (pc := 6) (as := [.long (zJ v1), .long (zJ 0), .long (zJ 6)]) (st := []) ml_X12_94 sm_X12_in okX12_in ⟨by decide, by decide⟩ dX12_rule_6 (Nat.le_of_ble_eq_true rfl) rfl (Nat.le_of_ble_eq_true rfl) (by decide) (by decide) (zCC.mono w ?_)
  rintro r S' h2 ⟨rfl, b2, hr, w⟩
  subst hr
  show RR mX12_rule 0 0 9 [some (.ref 81), some (.int (zI v1))] [.int (zI (bI b2))] zS0 h2 (zQi zS0 K)
  refine r_if_eq (pc := 9) (x := (bI b2)) (tgt := 21) dX12_rule_9 (by decide) (bI_R _) (fun c => ?_) (fun c => ?_)
  · have w := w.1 (bI_0.mp c)
    refine r_iconst (pc := 21) dX12_rule_21 ?_
    exact r_iret (st := []) (pc := 22) (x := (-1)) (ty := .int) dX12_rule_22 rfl rfl rfl (by decide) ⟨rfl, _, rfl, w⟩
  · have w := w.2 (bI_n.mp c)
    refine r_aload_n (pc := 12) (a := 81) dX12_rule_12 rfl ?_
    refine r_getR (pc := 13) (b := 88) fl_X12_28 dX12_rule_13 s0_81 rfl ?_
    refine r_iload_n (pc := 16) (x := v1) dX12_rule_16 rfl ?_
    obtain ⟨hb3, w⟩ := w
    refine r_iald (pc := 17) (i := v1) (x := (h2 88 v1)) dX12_rule_17 s0_88 ⟨hb3.1, hb3.2, (by decide)⟩ (rfl) ?_
    refine r_goto (pc := 18) (tgt := 22) dX12_rule_18 (by decide) ?_
    exact r_iret (st := []) (pc := 22) (x := (h2 88 v1)) (ty := .int) dX12_rule_22 rfl rfl rfl (by decide) ⟨rfl, _, rfl, w⟩

set_option maxRecDepth 100000 in
set_option maxHeartbeats 4000000 in
theorem wX12_awake {h : zMm} {K : zMm → Prop} (w : RR mX12_awake 0 0 2 [some (.ref 81), some (.int (zI 0))] [] zS0 h (zQv zS0 K)) : zCv mX12_awake [.ref 81] zS0 h K := by
  show RR mX12_awake 0 0 0 [some (.ref 81), none] [] zS0 h (zQv zS0 K)
  refine r_iconst (pc := 0) dX12_awake_0 ?_
  refine r_istore_n (pc := 1) (L' := [some (.ref 81), some (.int (zI 0))]) dX12_awake_1 (by decide) rfl ?_
  exact w

set_option maxRecDepth 100000 in
set_option maxHeartbeats 4000000 in
theorem bX12_awake_2 {h : zMm} {K : zMm → Prop} {v1 : Int} (w : (zR v1 ∧ (zR (h 81 21) ∧ ((36 ≤ v1 → K (zU h 81 21 1)) ∧ (¬ 36 ≤ v1 → ((¬ (h 81 21) = 0 → K (zU h 81 21 1)) ∧ ((h 81 21) = 0 → ((0 ≤ (36 + v1) ∧ (36 + v1) < 600) ∧ ((0 ≤ (108 + v1) ∧ (108 + v1) < 600) ∧ RR mX12_awake 0 0 2 [some (.ref 81), some (.int (zI (v1 + 1)))] [] zS0 (zU (zU h 92 (36 + v1) 3) 92 (108 + v1) 3) (zQv zS0 K)))))))))) : RR mX12_awake 0 0 2 [some (.ref 81), some (.int (zI v1))] [] zS0 h (zQv zS0 K) := by
  refine r_iload_n (pc := 2) (x := v1) dX12_awake_2 rfl ?_
  refine r_bipush (pc := 3) (x := 36) dX12_awake_3 (by decide) ?_
  obtain ⟨hr1, w⟩ := w
  obtain ⟨hr3, w⟩ := w
  refine r_icmp_ge (pc := 5) (x := v1) (y := 36) (tgt := 41) dX12_awake_5 (by decide) hr1 (by decide) (fun c => ?_) (fun c => ?_)
  · have w := w.1 (c)
    refine r_aload_n (pc := 41) (a := 81) dX12_awake_41 rfl ?_
    refine r_iconst (pc := 42) dX12_awake_42 ?_
    refine r_putZ (pc := 43) (fi := 21) (x := 1) fl_X12_158 dX12_awake_43 s0_81 rfl (by decide) ?_
    exact r_ret (st := []) (pc := 46) dX12_awake_46 rfl rfl (by decide) ⟨rfl, rfl, w⟩
  · have w := w.2 (c)
    refine r_aload_n (pc := 8) (a := 81) dX12_awake_8 rfl ?_
    refine r_getI (pc := 9) (fi := 21) (x := (h 81 21)) fl_X12_158 dX12_awake_9 s0_81 rfl (rfl) ?_
    refine r_if_ne (pc := 12) (x := (h 81 21)) (tgt := 41) dX12_awake_12 (by decide) hr3 (fun c => ?_) (fun c => ?_)
    · have w := w.1 (c)
      refine r_aload_n (pc := 41) (a := 81) dX12_awake_41 rfl ?_
      refine r_iconst (pc := 42) dX12_awake_42 ?_
      refine r_putZ (pc := 43) (fi := 21) (x := 1) fl_X12_158 dX12_awake_43 s0_81 rfl (by decide) ?_
      exact r_ret (st := []) (pc := 46) dX12_awake_46 rfl rfl (by decide) ⟨rfl, rfl, w⟩
    · have w := w.2 (c)
      refine r_aload_n (pc := 15) (a := 81) dX12_awake_15 rfl ?_
      refine r_getR (pc := 16) (b := 92) fl_X12_40 dX12_awake_16 s0_81 rfl ?_
      refine r_bipush (pc := 19) (x := 36) dX12_awake_19 (by decide) ?_
      refine r_iload_n (pc := 21) (x := v1) dX12_awake_21 rfl ?_
      refine r_iadd (pc := 22) (x := 36) (y := v1) dX12_awake_22 ?_
      refine r_iconst (pc := 23) dX12_awake_23 ?_
      obtain ⟨hb5, w⟩ := w
      refine r_iast (pc := 24) (i := (36 + v1)) (x := 3) dX12_awake_24 s0_92 ⟨hb5.1, hb5.2, (by decide)⟩  ?_
      refine r_aload_n (pc := 25) (a := 81) dX12_awake_25 rfl ?_
      refine r_getR (pc := 26) (b := 92) fl_X12_40 dX12_awake_26 s0_81 rfl ?_
      refine r_bipush (pc := 29) (x := 108) dX12_awake_29 (by decide) ?_
      refine r_iload_n (pc := 31) (x := v1) dX12_awake_31 rfl ?_
      refine r_iadd (pc := 32) (x := 108) (y := v1) dX12_awake_32 ?_
      refine r_iconst (pc := 33) dX12_awake_33 ?_
      obtain ⟨hb6, w⟩ := w
      refine r_iast (pc := 34) (i := (108 + v1)) (x := 3) dX12_awake_34 s0_92 ⟨hb6.1, hb6.2, (by decide)⟩  ?_
      refine r_iinc (pc := 35) (x := v1) (L' := [some (.ref 81), some (.int (zI (v1 + 1)))]) dX12_awake_35 rfl (by decide) rfl ?_
      refine r_goto (pc := 38) (tgt := 2) dX12_awake_38 (by decide) ?_
      exact w

set_option maxRecDepth 100000 in
set_option maxHeartbeats 4000000 in
theorem wX12_isCell {S : zSh} {h : zMm} {K : Bool → zMm → Prop} {v0 : Int} (w : (zR v0 ∧ zCb mX12_in [.long (zJ v0), .long (zJ 0), .long (zJ 35)] S h (fun b2 h2 => K b2 h2))) : zCb mX12_isCell [.int (zI v0)] S h K := by
  show RR mX12_isCell 0 0 0 [some (.int (zI v0))] [] S h (zQb S K)
  refine r_iload_n (pc := 0) (x := v0) dX12_isCell_0 rfl ?_
  obtain ⟨hr1, w⟩ := w
  refine r_i2l (pc := 1) (x := v0) dX12_isCell_1 hr1 ?_
  refine r_lconst (pc := 2) (x := 0) dX12_isCell_2 rfl ?_
  refine r_ldcL (pc := 3) (x := 35) dX12_isCell_3 kl_X12_173 ?_
  refine r_callS (μ2 := mX12_in) (pc := 6) (as := [.long (zJ v0), .long (zJ 0), .long (zJ 35)]) (st := []) ml_X12_94 sm_X12_in okX12_in ⟨by decide, by decide⟩ dX12_isCell_6 (Nat.le_of_ble_eq_true rfl) rfl (Nat.le_of_ble_eq_true rfl) (by decide) (by decide) (zCC.mono w ?_)
  rintro r S' h2 ⟨rfl, b2, hr, w⟩
  subst hr
  show RR mX12_isCell 0 0 9 [some (.int (zI v0))] [.int (zI (bI b2))] S h2 (zQb S K)
  exact r_iret (st := []) (pc := 9) (x := (bI b2)) (ty := .boolean) dX12_isCell_9 rfl (bI_nar _) rfl (by decide) ⟨rfl, b2, rfl, w⟩

set_option maxRecDepth 100000 in
set_option maxHeartbeats 4000000 in
theorem wX12_isGrass {h : zMm} {K : Bool → zMm → Prop} {v1 : Int} (w : ((0 ≤ v1 ∧ v1 < 600) ∧ (zR (h 92 v1) ∧ K (if 1 < (h 92 v1) then false else true) h))) : zCb mX12_isGrass [.ref 81, .int (zI v1)] zS0 h K := by
  show RR mX12_isGrass 0 0 0 [some (.ref 81), some (.int (zI v1))] [] zS0 h (zQb zS0 K)
  refine r_aload_n (pc := 0) (a := 81) dX12_isGrass_0 rfl ?_
  refine r_getR (pc := 1) (b := 92) fl_X12_40 dX12_isGrass_1 s0_81 rfl ?_
  refine r_iload_n (pc := 4) (x := v1) dX12_isGrass_4 rfl ?_
  obtain ⟨hb1, w⟩ := w
  refine r_iald (pc := 5) (i := v1) (x := (h 92 v1)) dX12_isGrass_5 s0_92 ⟨hb1.1, hb1.2, (by decide)⟩ (rfl) ?_
  refine r_iconst (pc := 6) dX12_isGrass_6 ?_
  obtain ⟨hr2, w⟩ := w
  have kk3 : RR mX12_isGrass 0 0 15 [some (.ref 81), some (.int (zI v1))] [.int (zI (bI (if 1 < (h 92 v1) then false else true)))] zS0 h (zQb zS0 K) := by
    exact r_iret (st := []) (pc := 15) (x := (bI (if 1 < (h 92 v1) then false else true))) (ty := .boolean) dX12_isGrass_15 rfl (bI_nar _) rfl (by decide) ⟨rfl, (if 1 < (h 92 v1) then false else true), rfl, w⟩
  refine r_icmp_gt (pc := 7) (x := (h 92 v1)) (y := 1) (tgt := 14) dX12_isGrass_7 (by decide) hr2 (by decide) (fun c => ?_) (fun c => ?_)
  · refine r_iconst (pc := 14) dX12_isGrass_14 ?_
    simp only [if_pos (c)] at kk3 ⊢
    exact kk3
  · refine r_iconst (pc := 10) dX12_isGrass_10 ?_
    refine r_goto (pc := 11) (tgt := 15) dX12_isGrass_11 (by decide) ?_
    simp only [if_neg (c)] at kk3 ⊢
    exact kk3

set_option maxRecDepth 100000 in
set_option maxHeartbeats 4000000 in
theorem wX12_cell {h : zMm} {K : Int → zMm → Prop} {v1 : Int} {v2 : Int} (w : zCv mX12_awake [.ref 81] zS0 h (fun h1 => zCb mX12_isCell [.int (zI v1)] zS0 h1 (fun b2 h2 => ((b2 = false → K (-1) h2) ∧ (b2 = true → (zR v2 ∧ zCb mX12_in [.long (zJ v2), .long (zJ 0), .long (zJ 3)] zS0 h2 (fun b4 h4 => ((b4 = true → ((3 ≤ v2 → ((0 ≤ (72 + v1) ∧ (72 + v1) < 600) ∧ (zR (h4 92 (72 + v1)) ∧ ((¬ (h4 92 (72 + v1)) = 0 → K ((h4 92 (72 + v1)) - 1) h4) ∧ ((h4 92 (72 + v1)) = 0 → K (-4) h4))))) ∧ (¬ 3 ≤ v2 → ((0 ≤ ((36 * (if v2 = 2 then (3 : Int) else v2)) + v1) ∧ ((36 * (if v2 = 2 then (3 : Int) else v2)) + v1) < 600) ∧ K (h4 92 ((36 * (if v2 = 2 then (3 : Int) else v2)) + v1)) h4)))) ∧ (b4 = false → K (-1) h4))))))))) : zCi mX12_cell [.ref 81, .int (zI v1), .int (zI v2)] zS0 h K := by
  show RR mX12_cell 0 0 0 [some (.ref 81), some (.int (zI v1)), some (.int (zI v2))] [] zS0 h (zQi zS0 K)
  refine r_aload_n (pc := 0) (a := 81) dX12_cell_0 rfl ?_
  refine r_callV (μ2 := mX12_awake) (pc := 1) (as := []) (st := []) rfl s0_81 ml_X12_175 im_X12_awake se_X12_awake okX12_awake ⟨by decide, by decide⟩ dX12_cell_1 (Nat.le_of_ble_eq_true rfl) rfl (Nat.le_of_ble_eq_true rfl) (by decide) (by decide) (zCC.mono w ?_)
  rintro r S' h1 ⟨rfl, hr, w⟩
  subst hr
  show RR mX12_cell 0 0 4 [some (.ref 81), some (.int (zI v1)), some (.int (zI v2))] [] zS0 h1 (zQi zS0 K)
  refine r_iload_n (pc := 4) (x := v1) dX12_cell_4 rfl ?_
  refine r_callS (μ2 := mX12_isCell) (pc := 5) (as := [.int (zI v1)]) (st := []) ml_X12_178 sm_X12_isCell okX12_isCell ⟨by decide, by decide⟩ dX12_cell_5 (Nat.le_of_ble_eq_true rfl) rfl (Nat.le_of_ble_eq_true rfl) (by decide) (by decide) (zCC.mono w ?_)
  rintro r S' h2 ⟨rfl, b2, hr, w⟩
  subst hr
  show RR mX12_cell 0 0 8 [some (.ref 81), some (.int (zI v1)), some (.int (zI v2))] [.int (zI (bI b2))] zS0 h2 (zQi zS0 K)
  refine r_if_eq (pc := 8) (x := (bI b2)) (tgt := 23) dX12_cell_8 (by decide) (bI_R _) (fun c => ?_) (fun c => ?_)
  · have w := w.1 (bI_0.mp c)
    refine r_iconst (pc := 23) dX12_cell_23 ?_
    exact r_iret (st := []) (pc := 24) (x := (-1)) (ty := .int) dX12_cell_24 rfl rfl rfl (by decide) ⟨rfl, _, rfl, w⟩
  · have w := w.2 (bI_n.mp c)
    refine r_iload_n (pc := 11) (x := v2) dX12_cell_11 rfl ?_
    obtain ⟨hr3, w⟩ := w
    refine r_i2l (pc := 12) (x := v2) dX12_cell_12 hr3 ?_
    refine r_lconst (pc := 13) (x := 0) dX12_cell_13 rfl ?_
    refine r_ldcL (pc := 14) (x := 3) dX12_cell_14 kl_X12_182 ?_
    refine r_callS (μ2 := mX12_in) (pc := 17) (as := [.long (zJ v2), .long (zJ 0), .long (zJ 3)]) (st := []) ml_X12_94 sm_X12_in okX12_in ⟨by decide, by decide⟩ dX12_cell_17 (Nat.le_of_ble_eq_true rfl) rfl (Nat.le_of_ble_eq_true rfl) (by decide) (by decide) (zCC.mono w ?_)
    rintro r S' h4 ⟨rfl, b4, hr, w⟩
    subst hr
    show RR mX12_cell 0 0 20 [some (.ref 81), some (.int (zI v1)), some (.int (zI v2))] [.int (zI (bI b4))] zS0 h4 (zQi zS0 K)
    refine r_if_ne (pc := 20) (x := (bI b4)) (tgt := 25) dX12_cell_20 (by decide) (bI_R _) (fun c => ?_) (fun c => ?_)
    · have w := w.1 (bI_n.mp c)
      refine r_iload_n (pc := 25) (x := v2) dX12_cell_25 rfl ?_
      refine r_iconst (pc := 26) dX12_cell_26 ?_
      refine r_icmp_ge (pc := 27) (x := v2) (y := 3) (tgt := 53) dX12_cell_27 (by decide) hr3 (by decide) (fun c => ?_) (fun c => ?_)
      · have w := w.1 (c)
        refine r_aload_n (pc := 53) (a := 81) dX12_cell_53 rfl ?_
        refine r_getR (pc := 54) (b := 92) fl_X12_40 dX12_cell_54 s0_81 rfl ?_
        refine r_bipush (pc := 57) (x := 72) dX12_cell_57 (by decide) ?_
        refine r_iload_n (pc := 59) (x := v1) dX12_cell_59 rfl ?_
        refine r_iadd (pc := 60) (x := 72) (y := v1) dX12_cell_60 ?_
        obtain ⟨hb5, w⟩ := w
        refine r_iald (pc := 61) (i := (72 + v1)) (x := (h4 92 (72 + v1))) dX12_cell_61 s0_92 ⟨hb5.1, hb5.2, (by decide)⟩ (rfl) ?_
        obtain ⟨hr6, w⟩ := w
        refine r_if_ne (pc := 62) (x := (h4 92 (72 + v1))) (tgt := 70) dX12_cell_62 (by decide) hr6 (fun c => ?_) (fun c => ?_)
        · have w := w.1 (c)
          refine r_aload_n (pc := 70) (a := 81) dX12_cell_70 rfl ?_
          refine r_getR (pc := 71) (b := 92) fl_X12_40 dX12_cell_71 s0_81 rfl ?_
          refine r_bipush (pc := 74) (x := 72) dX12_cell_74 (by decide) ?_
          refine r_iload_n (pc := 76) (x := v1) dX12_cell_76 rfl ?_
          refine r_iadd (pc := 77) (x := 72) (y := v1) dX12_cell_77 ?_
          refine r_iald (pc := 78) (i := (72 + v1)) (x := (h4 92 (72 + v1))) dX12_cell_78 s0_92 ⟨by omega, by omega, (by decide)⟩ (rfl) ?_
          refine r_iconst (pc := 79) dX12_cell_79 ?_
          refine r_isub (pc := 80) (x := (h4 92 (72 + v1))) (y := 1) dX12_cell_80 ?_
          exact r_iret (st := []) (pc := 81) (x := ((h4 92 (72 + v1)) - 1)) (ty := .int) dX12_cell_81 rfl rfl rfl (by decide) ⟨rfl, _, rfl, w⟩
        · have w := w.2 (c)
          refine r_bipush (pc := 65) (x := (-4)) dX12_cell_65 (by decide) ?_
          refine r_goto (pc := 67) (tgt := 81) dX12_cell_67 (by decide) ?_
          exact r_iret (st := []) (pc := 81) (x := (-4)) (ty := .int) dX12_cell_81 rfl rfl rfl (by decide) ⟨rfl, _, rfl, w⟩
      · have w := w.2 (c)
        refine r_aload_n (pc := 30) (a := 81) dX12_cell_30 rfl ?_
        refine r_getR (pc := 31) (b := 92) fl_X12_40 dX12_cell_31 s0_81 rfl ?_
        refine r_bipush (pc := 34) (x := 36) dX12_cell_34 (by decide) ?_
        refine r_iload_n (pc := 36) (x := v2) dX12_cell_36 rfl ?_
        refine r_iconst (pc := 37) dX12_cell_37 ?_
        have kk8 : RR mX12_cell 0 0 46 [some (.ref 81), some (.int (zI v1)), some (.int (zI v2))] [.int (zI (if v2 = 2 then (3 : Int) else v2)), .int (zI 36), .ref 92] zS0 h4 (zQi zS0 K) := by
          refine r_imul (pc := 46) (x := 36) (y := (if v2 = 2 then (3 : Int) else v2)) dX12_cell_46 ?_
          refine r_iload_n (pc := 47) (x := v1) dX12_cell_47 rfl ?_
          refine r_iadd (pc := 48) (x := (36 * (if v2 = 2 then (3 : Int) else v2))) (y := v1) dX12_cell_48 ?_
          obtain ⟨hb7, w⟩ := w
          refine r_iald (pc := 49) (i := ((36 * (if v2 = 2 then (3 : Int) else v2)) + v1)) (x := (h4 92 ((36 * (if v2 = 2 then (3 : Int) else v2)) + v1))) dX12_cell_49 s0_92 ⟨hb7.1, hb7.2, (by decide)⟩ (rfl) ?_
          refine r_goto (pc := 50) (tgt := 81) dX12_cell_50 (by decide) ?_
          exact r_iret (st := []) (pc := 81) (x := (h4 92 ((36 * (if v2 = 2 then (3 : Int) else v2)) + v1))) (ty := .int) dX12_cell_81 rfl rfl rfl (by decide) ⟨rfl, _, rfl, w⟩
        refine r_icmp_ne (pc := 38) (x := v2) (y := 2) (tgt := 45) dX12_cell_38 (by decide) hr3 (by decide) (fun c => ?_) (fun c => ?_)
        · refine r_iload_n (pc := 45) (x := v2) dX12_cell_45 rfl ?_
          simp only [if_neg (c)] at kk8 ⊢
          exact kk8
        · refine r_iconst (pc := 41) dX12_cell_41 ?_
          refine r_goto (pc := 42) (tgt := 46) dX12_cell_42 (by decide) ?_
          simp only [if_pos (c)] at kk8 ⊢
          exact kk8
    · have w := w.2 (bI_0.mp c)
      refine r_iconst (pc := 23) dX12_cell_23 ?_
      exact r_iret (st := []) (pc := 24) (x := (-1)) (ty := .int) dX12_cell_24 rfl rfl rfl (by decide) ⟨rfl, _, rfl, w⟩

set_option maxRecDepth 100000 in
set_option maxHeartbeats 4000000 in
theorem wX12_put {h : zMm} {K : Int → zMm → Prop} {v1 : Int} {v2 : Int} (w : zCv mX12_awake [.ref 81] zS0 h (fun h1 => zCb mX12_isCell [.int (zI v1)] zS0 h1 (fun b2 h2 => ((b2 = false → K (-1) h2) ∧ (b2 = true → (zR v2 ∧ zCb mX12_in [.long (zJ v2), .long (zJ 0), .long (zJ 4)] zS0 h2 (fun b4 h4 => ((b4 = true → (zR v1 ∧ (zR (h4 88 0) ∧ ((¬ v1 = (h4 88 0) → ((0 ≤ v1 ∧ v1 < 600) ∧ (zR (h4 92 v1) ∧ (((h4 92 v1) = v2 → K (h4 92 v1) h4) ∧ (¬ (h4 92 v1) = v2 → ((0 ≤ (36 + v1) ∧ (36 + v1) < 600) ∧ ((0 ≤ (72 + v1) ∧ (72 + v1) < 600) ∧ K (h4 92 v1) (zU (zU (zU h4 92 v1 v2) 92 (36 + v1) 0) 92 (72 + v1) 0)))))))) ∧ (v1 = (h4 88 0) → ((¬ v2 = 2 → ((0 ≤ v1 ∧ v1 < 600) ∧ (zR (h4 92 v1) ∧ (((h4 92 v1) = v2 → K (h4 92 v1) h4) ∧ (¬ (h4 92 v1) = v2 → ((0 ≤ (36 + v1) ∧ (36 + v1) < 600) ∧ ((0 ≤ (72 + v1) ∧ (72 + v1) < 600) ∧ K (h4 92 v1) (zU (zU (zU h4 92 v1 v2) 92 (36 + v1) 0) 92 (72 + v1) 0)))))))) ∧ (v2 = 2 → K (-2) h4))))))) ∧ (b4 = false → K (-1) h4))))))))) : zCi mX12_put [.ref 81, .int (zI v1), .int (zI v2)] zS0 h K := by
  show RR mX12_put 0 0 0 [some (.ref 81), some (.int (zI v1)), some (.int (zI v2)), none] [] zS0 h (zQi zS0 K)
  refine r_aload_n (pc := 0) (a := 81) dX12_put_0 rfl ?_
  refine r_callV (μ2 := mX12_awake) (pc := 1) (as := []) (st := []) rfl s0_81 ml_X12_175 im_X12_awake se_X12_awake okX12_awake ⟨by decide, by decide⟩ dX12_put_1 (Nat.le_of_ble_eq_true rfl) rfl (Nat.le_of_ble_eq_true rfl) (by decide) (by decide) (zCC.mono w ?_)
  rintro r S' h1 ⟨rfl, hr, w⟩
  subst hr
  show RR mX12_put 0 0 4 [some (.ref 81), some (.int (zI v1)), some (.int (zI v2)), none] [] zS0 h1 (zQi zS0 K)
  refine r_iload_n (pc := 4) (x := v1) dX12_put_4 rfl ?_
  refine r_callS (μ2 := mX12_isCell) (pc := 5) (as := [.int (zI v1)]) (st := []) ml_X12_178 sm_X12_isCell okX12_isCell ⟨by decide, by decide⟩ dX12_put_5 (Nat.le_of_ble_eq_true rfl) rfl (Nat.le_of_ble_eq_true rfl) (by decide) (by decide) (zCC.mono w ?_)
  rintro r S' h2 ⟨rfl, b2, hr, w⟩
  subst hr
  show RR mX12_put 0 0 8 [some (.ref 81), some (.int (zI v1)), some (.int (zI v2)), none] [.int (zI (bI b2))] zS0 h2 (zQi zS0 K)
  refine r_if_eq (pc := 8) (x := (bI b2)) (tgt := 23) dX12_put_8 (by decide) (bI_R _) (fun c => ?_) (fun c => ?_)
  · have w := w.1 (bI_0.mp c)
    refine r_iconst (pc := 23) dX12_put_23 ?_
    exact r_iret (st := []) (pc := 24) (x := (-1)) (ty := .int) dX12_put_24 rfl rfl rfl (by decide) ⟨rfl, _, rfl, w⟩
  · have w := w.2 (bI_n.mp c)
    refine r_iload_n (pc := 11) (x := v2) dX12_put_11 rfl ?_
    obtain ⟨hr3, w⟩ := w
    refine r_i2l (pc := 12) (x := v2) dX12_put_12 hr3 ?_
    refine r_lconst (pc := 13) (x := 0) dX12_put_13 rfl ?_
    refine r_ldcL (pc := 14) (x := 4) dX12_put_14 kl_X12_184 ?_
    refine r_callS (μ2 := mX12_in) (pc := 17) (as := [.long (zJ v2), .long (zJ 0), .long (zJ 4)]) (st := []) ml_X12_94 sm_X12_in okX12_in ⟨by decide, by decide⟩ dX12_put_17 (Nat.le_of_ble_eq_true rfl) rfl (Nat.le_of_ble_eq_true rfl) (by decide) (by decide) (zCC.mono w ?_)
    rintro r S' h4 ⟨rfl, b4, hr, w⟩
    subst hr
    show RR mX12_put 0 0 20 [some (.ref 81), some (.int (zI v1)), some (.int (zI v2)), none] [.int (zI (bI b4))] zS0 h4 (zQi zS0 K)
    refine r_if_ne (pc := 20) (x := (bI b4)) (tgt := 25) dX12_put_20 (by decide) (bI_R _) (fun c => ?_) (fun c => ?_)
    · have w := w.1 (bI_n.mp c)
      refine r_iload_n (pc := 25) (x := v1) dX12_put_25 rfl ?_
      refine r_aload_n (pc := 26) (a := 81) dX12_put_26 rfl ?_
      refine r_getR (pc := 27) (b := 88) fl_X12_28 dX12_put_27 s0_81 rfl ?_
      refine r_iconst (pc := 30) dX12_put_30 ?_
      refine r_iald (pc := 31) (i := 0) (x := (h4 88 0)) dX12_put_31 s0_88 (by decide) (rfl) ?_
      obtain ⟨hr5, w⟩ := w
      obtain ⟨hr6, w⟩ := w
      refine r_icmp_ne (pc := 32) (x := v1) (y := (h4 88 0)) (tgt := 43) dX12_put_32 (by decide) hr5 hr6 (fun c => ?_) (fun c => ?_)
      · have w := w.1 (c)
        refine r_aload_n (pc := 43) (a := 81) dX12_put_43 rfl ?_
        refine r_getR (pc := 44) (b := 92) fl_X12_40 dX12_put_44 s0_81 rfl ?_
        refine r_iload_n (pc := 47) (x := v1) dX12_put_47 rfl ?_
        obtain ⟨hb7, w⟩ := w
        refine r_iald (pc := 48) (i := v1) (x := (h4 92 v1)) dX12_put_48 s0_92 ⟨hb7.1, hb7.2, (by decide)⟩ (rfl) ?_
        refine r_istore_n (pc := 49) (L' := [some (.ref 81), some (.int (zI v1)), some (.int (zI v2)), some (.int (zI (h4 92 v1)))]) dX12_put_49 (by decide) rfl ?_
        refine r_iload_n (pc := 50) (x := (h4 92 v1)) dX12_put_50 rfl ?_
        refine r_iload_n (pc := 51) (x := v2) dX12_put_51 rfl ?_
        obtain ⟨hr8, w⟩ := w
        refine r_icmp_eq (pc := 52) (x := (h4 92 v1)) (y := v2) (tgt := 82) dX12_put_52 (by decide) hr8 hr3 (fun c => ?_) (fun c => ?_)
        · have w := w.1 (c)
          refine r_iload_n (pc := 82) (x := (h4 92 v1)) dX12_put_82 rfl ?_
          exact r_iret (st := []) (pc := 83) (x := (h4 92 v1)) (ty := .int) dX12_put_83 rfl rfl rfl (by decide) ⟨rfl, _, rfl, w⟩
        · have w := w.2 (c)
          refine r_aload_n (pc := 55) (a := 81) dX12_put_55 rfl ?_
          refine r_getR (pc := 56) (b := 92) fl_X12_40 dX12_put_56 s0_81 rfl ?_
          refine r_iload_n (pc := 59) (x := v1) dX12_put_59 rfl ?_
          refine r_iload_n (pc := 60) (x := v2) dX12_put_60 rfl ?_
          refine r_iast (pc := 61) (i := v1) (x := v2) dX12_put_61 s0_92 ⟨by omega, by omega, (by decide)⟩  ?_
          refine r_aload_n (pc := 62) (a := 81) dX12_put_62 rfl ?_
          refine r_getR (pc := 63) (b := 92) fl_X12_40 dX12_put_63 s0_81 rfl ?_
          refine r_bipush (pc := 66) (x := 36) dX12_put_66 (by decide) ?_
          refine r_iload_n (pc := 68) (x := v1) dX12_put_68 rfl ?_
          refine r_iadd (pc := 69) (x := 36) (y := v1) dX12_put_69 ?_
          refine r_iconst (pc := 70) dX12_put_70 ?_
          obtain ⟨hb9, w⟩ := w
          refine r_iast (pc := 71) (i := (36 + v1)) (x := 0) dX12_put_71 s0_92 ⟨hb9.1, hb9.2, (by decide)⟩  ?_
          refine r_aload_n (pc := 72) (a := 81) dX12_put_72 rfl ?_
          refine r_getR (pc := 73) (b := 92) fl_X12_40 dX12_put_73 s0_81 rfl ?_
          refine r_bipush (pc := 76) (x := 72) dX12_put_76 (by decide) ?_
          refine r_iload_n (pc := 78) (x := v1) dX12_put_78 rfl ?_
          refine r_iadd (pc := 79) (x := 72) (y := v1) dX12_put_79 ?_
          refine r_iconst (pc := 80) dX12_put_80 ?_
          obtain ⟨hb10, w⟩ := w
          refine r_iast (pc := 81) (i := (72 + v1)) (x := 0) dX12_put_81 s0_92 ⟨hb10.1, hb10.2, (by decide)⟩  ?_
          refine r_iload_n (pc := 82) (x := (h4 92 v1)) dX12_put_82 rfl ?_
          exact r_iret (st := []) (pc := 83) (x := (h4 92 v1)) (ty := .int) dX12_put_83 rfl rfl rfl (by decide) ⟨rfl, _, rfl, w⟩
      · have w := w.2 (c)
        refine r_iload_n (pc := 35) (x := v2) dX12_put_35 rfl ?_
        refine r_iconst (pc := 36) dX12_put_36 ?_
        refine r_icmp_ne (pc := 37) (x := v2) (y := 2) (tgt := 43) dX12_put_37 (by decide) hr3 (by decide) (fun c => ?_) (fun c => ?_)
        · have w := w.1 (c)
          refine r_aload_n (pc := 43) (a := 81) dX12_put_43 rfl ?_
          refine r_getR (pc := 44) (b := 92) fl_X12_40 dX12_put_44 s0_81 rfl ?_
          refine r_iload_n (pc := 47) (x := v1) dX12_put_47 rfl ?_
          obtain ⟨hb11, w⟩ := w
          refine r_iald (pc := 48) (i := v1) (x := (h4 92 v1)) dX12_put_48 s0_92 ⟨hb11.1, hb11.2, (by decide)⟩ (rfl) ?_
          refine r_istore_n (pc := 49) (L' := [some (.ref 81), some (.int (zI v1)), some (.int (zI v2)), some (.int (zI (h4 92 v1)))]) dX12_put_49 (by decide) rfl ?_
          refine r_iload_n (pc := 50) (x := (h4 92 v1)) dX12_put_50 rfl ?_
          refine r_iload_n (pc := 51) (x := v2) dX12_put_51 rfl ?_
          obtain ⟨hr12, w⟩ := w
          refine r_icmp_eq (pc := 52) (x := (h4 92 v1)) (y := v2) (tgt := 82) dX12_put_52 (by decide) hr12 hr3 (fun c => ?_) (fun c => ?_)
          · have w := w.1 (c)
            refine r_iload_n (pc := 82) (x := (h4 92 v1)) dX12_put_82 rfl ?_
            exact r_iret (st := []) (pc := 83) (x := (h4 92 v1)) (ty := .int) dX12_put_83 rfl rfl rfl (by decide) ⟨rfl, _, rfl, w⟩
          · have w := w.2 (c)
            refine r_aload_n (pc := 55) (a := 81) dX12_put_55 rfl ?_
            refine r_getR (pc := 56) (b := 92) fl_X12_40 dX12_put_56 s0_81 rfl ?_
            refine r_iload_n (pc := 59) (x := v1) dX12_put_59 rfl ?_
            refine r_iload_n (pc := 60) (x := v2) dX12_put_60 rfl ?_
            refine r_iast (pc := 61) (i := v1) (x := v2) dX12_put_61 s0_92 ⟨by omega, by omega, (by decide)⟩  ?_
            refine r_aload_n (pc := 62) (a := 81) dX12_put_62 rfl ?_
            refine r_getR (pc := 63) (b := 92) fl_X12_40 dX12_put_63 s0_81 rfl ?_
            refine r_bipush (pc := 66) (x := 36) dX12_put_66 (by decide) ?_
            refine r_iload_n (pc := 68) (x := v1) dX12_put_68 rfl ?_
            refine r_iadd (pc := 69) (x := 36) (y := v1) dX12_put_69 ?_
            refine r_iconst (pc := 70) dX12_put_70 ?_
            obtain ⟨hb13, w⟩ := w
            refine r_iast (pc := 71) (i := (36 + v1)) (x := 0) dX12_put_71 s0_92 ⟨hb13.1, hb13.2, (by decide)⟩  ?_
            refine r_aload_n (pc := 72) (a := 81) dX12_put_72 rfl ?_
            refine r_getR (pc := 73) (b := 92) fl_X12_40 dX12_put_73 s0_81 rfl ?_
            refine r_bipush (pc := 76) (x := 72) dX12_put_76 (by decide) ?_
            refine r_iload_n (pc := 78) (x := v1) dX12_put_78 rfl ?_
            refine r_iadd (pc := 79) (x := 72) (y := v1) dX12_put_79 ?_
            refine r_iconst (pc := 80) dX12_put_80 ?_
            obtain ⟨hb14, w⟩ := w
            refine r_iast (pc := 81) (i := (72 + v1)) (x := 0) dX12_put_81 s0_92 ⟨hb14.1, hb14.2, (by decide)⟩  ?_
            refine r_iload_n (pc := 82) (x := (h4 92 v1)) dX12_put_82 rfl ?_
            exact r_iret (st := []) (pc := 83) (x := (h4 92 v1)) (ty := .int) dX12_put_83 rfl rfl rfl (by decide) ⟨rfl, _, rfl, w⟩
        · have w := w.2 (c)
          refine r_bipush (pc := 40) (x := (-2)) dX12_put_40 (by decide) ?_
          exact r_iret (st := []) (pc := 42) (x := (-2)) (ty := .int) dX12_put_42 rfl rfl rfl (by decide) ⟨rfl, _, rfl, w⟩
    · have w := w.2 (bI_0.mp c)
      refine r_iconst (pc := 23) dX12_put_23 ?_
      exact r_iret (st := []) (pc := 24) (x := (-1)) (ty := .int) dX12_put_24 rfl rfl rfl (by decide) ⟨rfl, _, rfl, w⟩

set_option maxRecDepth 100000 in
set_option maxHeartbeats 4000000 in
theorem wX12_isMove {S : zSh} {h : zMm} {K : Bool → zMm → Prop} {v0 : Int} {v1 : Int} (w : (zR v0 ∧ zCb mX12_in [.long (zJ v0), .long (zJ 0), .long (zJ 3)] S h (fun b2 h2 => ((b2 = false → K false h2) ∧ (b2 = true → (zR v1 ∧ zCb mX12_in [.long (zJ v1), .long (zJ 1), .long (zJ 5)] S h2 (fun b4 h4 => K (if b4 = true then true else false) h4))))))) : zCb mX12_isMove [.int (zI v0), .int (zI v1)] S h K := by
  show RR mX12_isMove 0 0 0 [some (.int (zI v0)), some (.int (zI v1))] [] S h (zQb S K)
  refine r_iload_n (pc := 0) (x := v0) dX12_isMove_0 rfl ?_
  obtain ⟨hr1, w⟩ := w
  refine r_i2l (pc := 1) (x := v0) dX12_isMove_1 hr1 ?_
  refine r_lconst (pc := 2) (x := 0) dX12_isMove_2 rfl ?_
  refine r_ldcL (pc := 3) (x := 3) dX12_isMove_3 kl_X12_182 ?_
  refine r_callS (μ2 := mX12_in) (pc := 6) (as := [.long (zJ v0), .long (zJ 0), .long (zJ 3)]) (st := []) ml_X12_94 sm_X12_in okX12_in ⟨by decide, by decide⟩ dX12_isMove_6 (Nat.le_of_ble_eq_true rfl) rfl (Nat.le_of_ble_eq_true rfl) (by decide) (by decide) (zCC.mono w ?_)
  rintro r S' h2 ⟨rfl, b2, hr, w⟩
  subst hr
  show RR mX12_isMove 0 0 9 [some (.int (zI v0)), some (.int (zI v1))] [.int (zI (bI b2))] S h2 (zQb S K)
  refine r_if_eq (pc := 9) (x := (bI b2)) (tgt := 28) dX12_isMove_9 (by decide) (bI_R _) (fun c => ?_) (fun c => ?_)
  · have w := w.1 (bI_0.mp c)
    refine r_iconst (pc := 28) dX12_isMove_28 ?_
    exact r_iret (st := []) (pc := 29) (x := 0) (ty := .boolean) dX12_isMove_29 rfl (rfl) rfl (by decide) ⟨rfl, false, rfl, w⟩
  · have w := w.2 (bI_n.mp c)
    refine r_iload_n (pc := 12) (x := v1) dX12_isMove_12 rfl ?_
    obtain ⟨hr3, w⟩ := w
    refine r_i2l (pc := 13) (x := v1) dX12_isMove_13 hr3 ?_
    refine r_lconst (pc := 14) (x := 1) dX12_isMove_14 rfl ?_
    refine r_ldcL (pc := 15) (x := 5) dX12_isMove_15 kl_X12_186 ?_
    refine r_callS (μ2 := mX12_in) (pc := 18) (as := [.long (zJ v1), .long (zJ 1), .long (zJ 5)]) (st := []) ml_X12_94 sm_X12_in okX12_in ⟨by decide, by decide⟩ dX12_isMove_18 (Nat.le_of_ble_eq_true rfl) rfl (Nat.le_of_ble_eq_true rfl) (by decide) (by decide) (zCC.mono w ?_)
    rintro r S' h4 ⟨rfl, b4, hr, w⟩
    subst hr
    show RR mX12_isMove 0 0 21 [some (.int (zI v0)), some (.int (zI v1))] [.int (zI (bI b4))] S h4 (zQb S K)
    have kk5 : RR mX12_isMove 0 0 29 [some (.int (zI v0)), some (.int (zI v1))] [.int (zI (bI (if b4 = true then true else false)))] S h4 (zQb S K) := by
      exact r_iret (st := []) (pc := 29) (x := (bI (if b4 = true then true else false))) (ty := .boolean) dX12_isMove_29 rfl (bI_nar _) rfl (by decide) ⟨rfl, (if b4 = true then true else false), rfl, w⟩
    refine r_if_eq (pc := 21) (x := (bI b4)) (tgt := 28) dX12_isMove_21 (by decide) (bI_R _) (fun c => ?_) (fun c => ?_)
    · refine r_iconst (pc := 28) dX12_isMove_28 ?_
      simp only [if_neg (bI_ft (bI_0.mp c))] at kk5 ⊢
      exact kk5
    · refine r_iconst (pc := 24) dX12_isMove_24 ?_
      refine r_goto (pc := 25) (tgt := 29) dX12_isMove_25 (by decide) ?_
      simp only [if_pos (bI_n.mp c)] at kk5 ⊢
      exact kk5

set_option maxRecDepth 100000 in
set_option maxHeartbeats 4000000 in
theorem wX12_addMove {h : zMm} {K : zMm → Prop} {v1 : Int} {v2 : Int} (w : ((0 ≤ (144 + (2 * (h 92 192))) ∧ (144 + (2 * (h 92 192))) < 600) ∧ ((0 ≤ ((144 + (2 * ((zU h 92 (144 + (2 * (h 92 192))) v1) 92 192))) + 1) ∧ ((144 + (2 * ((zU h 92 (144 + (2 * (h 92 192))) v1) 92 192))) + 1) < 600) ∧ K (zU (zU (zU h 92 (144 + (2 * (h 92 192))) v1) 92 ((144 + (2 * ((zU h 92 (144 + (2 * (h 92 192))) v1) 92 192))) + 1) v2) 92 192 (((zU (zU h 92 (144 + (2 * (h 92 192))) v1) 92 ((144 + (2 * ((zU h 92 (144 + (2 * (h 92 192))) v1) 92 192))) + 1) v2) 92 192) + 1))))) : zCv mX12_addMove [.ref 81, .int (zI v1), .int (zI v2)] zS0 h K := by
  show RR mX12_addMove 0 0 0 [some (.ref 81), some (.int (zI v1)), some (.int (zI v2))] [] zS0 h (zQv zS0 K)
  refine r_aload_n (pc := 0) (a := 81) dX12_addMove_0 rfl ?_
  refine r_getR (pc := 1) (b := 92) fl_X12_40 dX12_addMove_1 s0_81 rfl ?_
  refine r_sipush (pc := 4) (x := 144) dX12_addMove_4 (by decide) ?_
  refine r_iconst (pc := 7) dX12_addMove_7 ?_
  refine r_aload_n (pc := 8) (a := 81) dX12_addMove_8 rfl ?_
  refine r_getR (pc := 9) (b := 92) fl_X12_40 dX12_addMove_9 s0_81 rfl ?_
  refine r_sipush (pc := 12) (x := 192) dX12_addMove_12 (by decide) ?_
  refine r_iald (pc := 15) (i := 192) (x := (h 92 192)) dX12_addMove_15 s0_92 (by decide) (rfl) ?_
  refine r_imul (pc := 16) (x := 2) (y := (h 92 192)) dX12_addMove_16 ?_
  refine r_iadd (pc := 17) (x := 144) (y := (2 * (h 92 192))) dX12_addMove_17 ?_
  refine r_iload_n (pc := 18) (x := v1) dX12_addMove_18 rfl ?_
  obtain ⟨hb1, w⟩ := w
  refine r_iast (pc := 19) (i := (144 + (2 * (h 92 192)))) (x := v1) dX12_addMove_19 s0_92 ⟨hb1.1, hb1.2, (by decide)⟩  ?_
  refine r_aload_n (pc := 20) (a := 81) dX12_addMove_20 rfl ?_
  refine r_getR (pc := 21) (b := 92) fl_X12_40 dX12_addMove_21 s0_81 rfl ?_
  refine r_sipush (pc := 24) (x := 144) dX12_addMove_24 (by decide) ?_
  refine r_iconst (pc := 27) dX12_addMove_27 ?_
  refine r_aload_n (pc := 28) (a := 81) dX12_addMove_28 rfl ?_
  refine r_getR (pc := 29) (b := 92) fl_X12_40 dX12_addMove_29 s0_81 rfl ?_
  refine r_sipush (pc := 32) (x := 192) dX12_addMove_32 (by decide) ?_
  refine r_iald (pc := 35) (i := 192) (x := ((zU h 92 (144 + (2 * (h 92 192))) v1) 92 192)) dX12_addMove_35 s0_92 (by decide) (rfl) ?_
  refine r_imul (pc := 36) (x := 2) (y := ((zU h 92 (144 + (2 * (h 92 192))) v1) 92 192)) dX12_addMove_36 ?_
  refine r_iadd (pc := 37) (x := 144) (y := (2 * ((zU h 92 (144 + (2 * (h 92 192))) v1) 92 192))) dX12_addMove_37 ?_
  refine r_iconst (pc := 38) dX12_addMove_38 ?_
  refine r_iadd (pc := 39) (x := (144 + (2 * ((zU h 92 (144 + (2 * (h 92 192))) v1) 92 192)))) (y := 1) dX12_addMove_39 ?_
  refine r_iload_n (pc := 40) (x := v2) dX12_addMove_40 rfl ?_
  obtain ⟨hb2, w⟩ := w
  refine r_iast (pc := 41) (i := ((144 + (2 * ((zU h 92 (144 + (2 * (h 92 192))) v1) 92 192))) + 1)) (x := v2) dX12_addMove_41 s0_92 ⟨hb2.1, hb2.2, (by decide)⟩  ?_
  refine r_aload_n (pc := 42) (a := 81) dX12_addMove_42 rfl ?_
  refine r_getR (pc := 43) (b := 92) fl_X12_40 dX12_addMove_43 s0_81 rfl ?_
  refine r_sipush (pc := 46) (x := 192) dX12_addMove_46 (by decide) ?_
  refine r_dup2 (pc := 49) rfl rfl dX12_addMove_49 ?_
  refine r_iald (pc := 50) (i := 192) (x := ((zU (zU h 92 (144 + (2 * (h 92 192))) v1) 92 ((144 + (2 * ((zU h 92 (144 + (2 * (h 92 192))) v1) 92 192))) + 1) v2) 92 192)) dX12_addMove_50 s0_92 (by decide) (rfl) ?_
  refine r_iconst (pc := 51) dX12_addMove_51 ?_
  refine r_iadd (pc := 52) (x := ((zU (zU h 92 (144 + (2 * (h 92 192))) v1) 92 ((144 + (2 * ((zU h 92 (144 + (2 * (h 92 192))) v1) 92 192))) + 1) v2) 92 192)) (y := 1) dX12_addMove_52 ?_
  refine r_iast (pc := 53) (i := 192) (x := (((zU (zU h 92 (144 + (2 * (h 92 192))) v1) 92 ((144 + (2 * ((zU h 92 (144 + (2 * (h 92 192))) v1) 92 192))) + 1) v2) 92 192) + 1)) dX12_addMove_53 s0_92 (by decide)  ?_
  exact r_ret (st := []) (pc := 54) dX12_addMove_54 rfl rfl (by decide) ⟨rfl, rfl, w⟩

set_option maxRecDepth 100000 in
set_option maxHeartbeats 4000000 in
theorem wX12_move {h : zMm} {K : Int → zMm → Prop} {v1 : Int} {v2 : Int} (w : zCb mX12_isMove [.int (zI v1), .int (zI v2)] zS0 h (fun b1 h1 => ((b1 = true → (zR (h1 92 192) ∧ ((¬ (h1 92 192) = 24 → zCv mX12_addMove [.ref 81, .int (zI v1), .int (zI v2)] zS0 h1 (fun h3 => K (h3 92 192) h3)) ∧ ((h1 92 192) = 24 → K (-3) h1)))) ∧ (b1 = false → K (-1) h1)))) : zCi mX12_move [.ref 81, .int (zI v1), .int (zI v2)] zS0 h K := by
  show RR mX12_move 0 0 0 [some (.ref 81), some (.int (zI v1)), some (.int (zI v2))] [] zS0 h (zQi zS0 K)
  refine r_iload_n (pc := 0) (x := v1) dX12_move_0 rfl ?_
  refine r_iload_n (pc := 1) (x := v2) dX12_move_1 rfl ?_
  refine r_callS (μ2 := mX12_isMove) (pc := 2) (as := [.int (zI v1), .int (zI v2)]) (st := []) ml_X12_188 sm_X12_isMove okX12_isMove ⟨by decide, by decide⟩ dX12_move_2 (Nat.le_of_ble_eq_true rfl) rfl (Nat.le_of_ble_eq_true rfl) (by decide) (by decide) (zCC.mono w ?_)
  rintro r S' h1 ⟨rfl, b1, hr, w⟩
  subst hr
  show RR mX12_move 0 0 5 [some (.ref 81), some (.int (zI v1)), some (.int (zI v2))] [.int (zI (bI b1))] zS0 h1 (zQi zS0 K)
  refine r_if_ne (pc := 5) (x := (bI b1)) (tgt := 10) dX12_move_5 (by decide) (bI_R _) (fun c => ?_) (fun c => ?_)
  · have w := w.1 (bI_n.mp c)
    refine r_aload_n (pc := 10) (a := 81) dX12_move_10 rfl ?_
    refine r_getR (pc := 11) (b := 92) fl_X12_40 dX12_move_11 s0_81 rfl ?_
    refine r_sipush (pc := 14) (x := 192) dX12_move_14 (by decide) ?_
    refine r_iald (pc := 17) (i := 192) (x := (h1 92 192)) dX12_move_17 s0_92 (by decide) (rfl) ?_
    refine r_bipush (pc := 18) (x := 24) dX12_move_18 (by decide) ?_
    obtain ⟨hr2, w⟩ := w
    refine r_icmp_ne (pc := 20) (x := (h1 92 192)) (y := 24) (tgt := 26) dX12_move_20 (by decide) hr2 (by decide) (fun c => ?_) (fun c => ?_)
    · have w := w.1 (c)
      refine r_aload_n (pc := 26) (a := 81) dX12_move_26 rfl ?_
      refine r_iload_n (pc := 27) (x := v1) dX12_move_27 rfl ?_
      refine r_iload_n (pc := 28) (x := v2) dX12_move_28 rfl ?_
      refine r_callV (μ2 := mX12_addMove) (pc := 29) (as := [.int (zI v1), .int (zI v2)]) (st := []) rfl s0_81 ml_X12_192 im_X12_addMove se_X12_addMove okX12_addMove ⟨by decide, by decide⟩ dX12_move_29 (Nat.le_of_ble_eq_true rfl) rfl (Nat.le_of_ble_eq_true rfl) (by decide) (by decide) (zCC.mono w ?_)
      rintro r S' h3 ⟨rfl, hr, w⟩
      subst hr
      show RR mX12_move 0 0 32 [some (.ref 81), some (.int (zI v1)), some (.int (zI v2))] [] zS0 h3 (zQi zS0 K)
      refine r_aload_n (pc := 32) (a := 81) dX12_move_32 rfl ?_
      refine r_getR (pc := 33) (b := 92) fl_X12_40 dX12_move_33 s0_81 rfl ?_
      refine r_sipush (pc := 36) (x := 192) dX12_move_36 (by decide) ?_
      refine r_iald (pc := 39) (i := 192) (x := (h3 92 192)) dX12_move_39 s0_92 (by decide) (rfl) ?_
      exact r_iret (st := []) (pc := 40) (x := (h3 92 192)) (ty := .int) dX12_move_40 rfl rfl rfl (by decide) ⟨rfl, _, rfl, w⟩
    · have w := w.2 (c)
      refine r_bipush (pc := 23) (x := (-3)) dX12_move_23 (by decide) ?_
      exact r_iret (st := []) (pc := 25) (x := (-3)) (ty := .int) dX12_move_25 rfl rfl rfl (by decide) ⟨rfl, _, rfl, w⟩
  · have w := w.2 (bI_0.mp c)
    refine r_iconst (pc := 8) dX12_move_8 ?_
    exact r_iret (st := []) (pc := 9) (x := (-1)) (ty := .int) dX12_move_9 rfl rfl rfl (by decide) ⟨rfl, _, rfl, w⟩

set_option maxRecDepth 100000 in
set_option maxHeartbeats 4000000 in
theorem wX12_clear {h : zMm} {K : Int → zMm → Prop} (w : K (h 92 192) (zU h 92 192 0)) : zCi mX12_clear [.ref 81] zS0 h K := by
  show RR mX12_clear 0 0 0 [some (.ref 81), none] [] zS0 h (zQi zS0 K)
  refine r_aload_n (pc := 0) (a := 81) dX12_clear_0 rfl ?_
  refine r_getR (pc := 1) (b := 92) fl_X12_40 dX12_clear_1 s0_81 rfl ?_
  refine r_sipush (pc := 4) (x := 192) dX12_clear_4 (by decide) ?_
  refine r_iald (pc := 7) (i := 192) (x := (h 92 192)) dX12_clear_7 s0_92 (by decide) (rfl) ?_
  refine r_istore_n (pc := 8) (L' := [some (.ref 81), some (.int (zI (h 92 192)))]) dX12_clear_8 (by decide) rfl ?_
  refine r_aload_n (pc := 9) (a := 81) dX12_clear_9 rfl ?_
  refine r_getR (pc := 10) (b := 92) fl_X12_40 dX12_clear_10 s0_81 rfl ?_
  refine r_sipush (pc := 13) (x := 192) dX12_clear_13 (by decide) ?_
  refine r_iconst (pc := 16) dX12_clear_16 ?_
  refine r_iast (pc := 17) (i := 192) (x := 0) dX12_clear_17 s0_92 (by decide)  ?_
  refine r_iload_n (pc := 18) (x := (h 92 192)) dX12_clear_18 rfl ?_
  exact r_iret (st := []) (pc := 19) (x := (h 92 192)) (ty := .int) dX12_clear_19 rfl rfl rfl (by decide) ⟨rfl, _, rfl, w⟩

set_option maxRecDepth 100000 in
set_option maxHeartbeats 4000000 in
theorem wX12_moved {h : zMm} {K : Int → zMm → Prop} {v1 : Int} {v2 : Int} (w : (zR v1 ∧ (zR ((h 92 192) - 1) ∧ zCb mX12_in [.long (zJ v1), .long (zJ 0), .long (zJ ((h 92 192) - 1))] zS0 h (fun b3 h3 => ((b3 = false → K (-1) h3) ∧ (b3 = true → (zR v2 ∧ zCb mX12_in [.long (zJ v2), .long (zJ 0), .long (zJ 1)] zS0 h3 (fun b5 h5 => ((b5 = false → K (-1) h5) ∧ (b5 = true → ((0 ≤ ((144 + (2 * v1)) + v2) ∧ ((144 + (2 * v1)) + v2) < 600) ∧ K (h5 92 ((144 + (2 * v1)) + v2)) h5))))))))))) : zCi mX12_moved [.ref 81, .int (zI v1), .int (zI v2)] zS0 h K := by
  show RR mX12_moved 0 0 0 [some (.ref 81), some (.int (zI v1)), some (.int (zI v2))] [] zS0 h (zQi zS0 K)
  refine r_iload_n (pc := 0) (x := v1) dX12_moved_0 rfl ?_
  obtain ⟨hr1, w⟩ := w
  refine r_i2l (pc := 1) (x := v1) dX12_moved_1 hr1 ?_
  refine r_lconst (pc := 2) (x := 0) dX12_moved_2 rfl ?_
  refine r_aload_n (pc := 3) (a := 81) dX12_moved_3 rfl ?_
  refine r_getR (pc := 4) (b := 92) fl_X12_40 dX12_moved_4 s0_81 rfl ?_
  refine r_sipush (pc := 7) (x := 192) dX12_moved_7 (by decide) ?_
  refine r_iald (pc := 10) (i := 192) (x := (h 92 192)) dX12_moved_10 s0_92 (by decide) (rfl) ?_
  refine r_iconst (pc := 11) dX12_moved_11 ?_
  refine r_isub (pc := 12) (x := (h 92 192)) (y := 1) dX12_moved_12 ?_
  obtain ⟨hr2, w⟩ := w
  refine r_i2l (pc := 13) (x := ((h 92 192) - 1)) dX12_moved_13 hr2 ?_
  refine r_callS (μ2 := mX12_in) (pc := 14) (as := [.long (zJ v1), .long (zJ 0), .long (zJ ((h 92 192) - 1))]) (st := []) ml_X12_94 sm_X12_in okX12_in ⟨by decide, by decide⟩ dX12_moved_14 (Nat.le_of_ble_eq_true rfl) rfl (Nat.le_of_ble_eq_true rfl) (by decide) (by decide) (zCC.mono w ?_)
  rintro r S' h3 ⟨rfl, b3, hr, w⟩
  subst hr
  show RR mX12_moved 0 0 17 [some (.ref 81), some (.int (zI v1)), some (.int (zI v2))] [.int (zI (bI b3))] zS0 h3 (zQi zS0 K)
  refine r_if_eq (pc := 17) (x := (bI b3)) (tgt := 47) dX12_moved_17 (by decide) (bI_R _) (fun c => ?_) (fun c => ?_)
  · have w := w.1 (bI_0.mp c)
    refine r_iconst (pc := 47) dX12_moved_47 ?_
    exact r_iret (st := []) (pc := 48) (x := (-1)) (ty := .int) dX12_moved_48 rfl rfl rfl (by decide) ⟨rfl, _, rfl, w⟩
  · have w := w.2 (bI_n.mp c)
    refine r_iload_n (pc := 20) (x := v2) dX12_moved_20 rfl ?_
    obtain ⟨hr4, w⟩ := w
    refine r_i2l (pc := 21) (x := v2) dX12_moved_21 hr4 ?_
    refine r_lconst (pc := 22) (x := 0) dX12_moved_22 rfl ?_
    refine r_lconst (pc := 23) (x := 1) dX12_moved_23 rfl ?_
    refine r_callS (μ2 := mX12_in) (pc := 24) (as := [.long (zJ v2), .long (zJ 0), .long (zJ 1)]) (st := []) ml_X12_94 sm_X12_in okX12_in ⟨by decide, by decide⟩ dX12_moved_24 (Nat.le_of_ble_eq_true rfl) rfl (Nat.le_of_ble_eq_true rfl) (by decide) (by decide) (zCC.mono w ?_)
    rintro r S' h5 ⟨rfl, b5, hr, w⟩
    subst hr
    show RR mX12_moved 0 0 27 [some (.ref 81), some (.int (zI v1)), some (.int (zI v2))] [.int (zI (bI b5))] zS0 h5 (zQi zS0 K)
    refine r_if_eq (pc := 27) (x := (bI b5)) (tgt := 47) dX12_moved_27 (by decide) (bI_R _) (fun c => ?_) (fun c => ?_)
    · have w := w.1 (bI_0.mp c)
      refine r_iconst (pc := 47) dX12_moved_47 ?_
      exact r_iret (st := []) (pc := 48) (x := (-1)) (ty := .int) dX12_moved_48 rfl rfl rfl (by decide) ⟨rfl, _, rfl, w⟩
    · have w := w.2 (bI_n.mp c)
      refine r_aload_n (pc := 30) (a := 81) dX12_moved_30 rfl ?_
      refine r_getR (pc := 31) (b := 92) fl_X12_40 dX12_moved_31 s0_81 rfl ?_
      refine r_sipush (pc := 34) (x := 144) dX12_moved_34 (by decide) ?_
      refine r_iconst (pc := 37) dX12_moved_37 ?_
      refine r_iload_n (pc := 38) (x := v1) dX12_moved_38 rfl ?_
      refine r_imul (pc := 39) (x := 2) (y := v1) dX12_moved_39 ?_
      refine r_iadd (pc := 40) (x := 144) (y := (2 * v1)) dX12_moved_40 ?_
      refine r_iload_n (pc := 41) (x := v2) dX12_moved_41 rfl ?_
      refine r_iadd (pc := 42) (x := (144 + (2 * v1))) (y := v2) dX12_moved_42 ?_
      obtain ⟨hb6, w⟩ := w
      refine r_iald (pc := 43) (i := ((144 + (2 * v1)) + v2)) (x := (h5 92 ((144 + (2 * v1)) + v2))) dX12_moved_43 s0_92 ⟨hb6.1, hb6.2, (by decide)⟩ (rfl) ?_
      refine r_goto (pc := 44) (tgt := 48) dX12_moved_44 (by decide) ?_
      exact r_iret (st := []) (pc := 48) (x := (h5 92 ((144 + (2 * v1)) + v2))) (ty := .int) dX12_moved_48 rfl rfl rfl (by decide) ⟨rfl, _, rfl, w⟩

set_option maxRecDepth 100000 in
set_option maxHeartbeats 4000000 in
theorem wX12_nextOf {h : zMm} {K : Int → zMm → Prop} {v1 : Int} {v2 : Int} (w : ((0 ≤ v1 ∧ v1 < 2147483648) ∧ (zR v2 ∧ (zR ((v1 / 6) + (if v2 = 2 then (1 : Int) else (if v2 = 0 then ((-1) : Int) else (0 : Int)))) ∧ zCb mX12_in [.long (zJ ((v1 / 6) + (if v2 = 2 then (1 : Int) else (if v2 = 0 then ((-1) : Int) else (0 : Int))))), .long (zJ 0), .long (zJ 5)] zS0 h (fun b6 h6 => ((b6 = false → K (-4) h6) ∧ (b6 = true → (zR ((v1 % 6) + (if v2 = 1 then (1 : Int) else (if v2 = 3 then ((-1) : Int) else (0 : Int)))) ∧ zCb mX12_in [.long (zJ ((v1 % 6) + (if v2 = 1 then (1 : Int) else (if v2 = 3 then ((-1) : Int) else (0 : Int))))), .long (zJ 0), .long (zJ 5)] zS0 h6 (fun b8 h8 => ((b8 = false → K (-4) h8) ∧ (b8 = true → ((0 ≤ ((6 * ((v1 / 6) + (if v2 = 2 then (1 : Int) else (if v2 = 0 then ((-1) : Int) else (0 : Int))))) + ((v1 % 6) + (if v2 = 1 then (1 : Int) else (if v2 = 3 then ((-1) : Int) else (0 : Int))))) ∧ ((6 * ((v1 / 6) + (if v2 = 2 then (1 : Int) else (if v2 = 0 then ((-1) : Int) else (0 : Int))))) + ((v1 % 6) + (if v2 = 1 then (1 : Int) else (if v2 = 3 then ((-1) : Int) else (0 : Int))))) < 600) ∧ (zR (h8 92 ((6 * ((v1 / 6) + (if v2 = 2 then (1 : Int) else (if v2 = 0 then ((-1) : Int) else (0 : Int))))) + ((v1 % 6) + (if v2 = 1 then (1 : Int) else (if v2 = 3 then ((-1) : Int) else (0 : Int)))))) ∧ K (if (if (h8 92 ((6 * ((v1 / 6) + (if v2 = 2 then (1 : Int) else (if v2 = 0 then ((-1) : Int) else (0 : Int))))) + ((v1 % 6) + (if v2 = 1 then (1 : Int) else (if v2 = 3 then ((-1) : Int) else (0 : Int)))))) = 2 then false else true) = true then ((6 * ((v1 / 6) + (if v2 = 2 then (1 : Int) else (if v2 = 0 then ((-1) : Int) else (0 : Int))))) + ((v1 % 6) + (if v2 = 1 then (1 : Int) else (if v2 = 3 then ((-1) : Int) else (0 : Int))))) else ((-4) : Int)) h8))))))))))))) : zCi mX12_nextOf [.ref 81, .int (zI v1), .int (zI v2)] zS0 h K := by
  show RR mX12_nextOf 0 0 0 [some (.ref 81), some (.int (zI v1)), some (.int (zI v2)), none, none, none] [] zS0 h (zQi zS0 K)
  refine r_iload_n (pc := 0) (x := v1) dX12_nextOf_0 rfl ?_
  refine r_bipush (pc := 1) (x := 6) dX12_nextOf_1 (by decide) ?_
  obtain ⟨hx1, w⟩ := w
  refine r_idiv (pc := 3) (x := v1) (y := 6) dX12_nextOf_3 hx1 (by decide) ?_
  refine r_iload_n (pc := 4) (x := v2) dX12_nextOf_4 rfl ?_
  refine r_iconst (pc := 5) dX12_nextOf_5 ?_
  obtain ⟨hr2, w⟩ := w
  have kk14 : RR mX12_nextOf 0 0 22 [some (.ref 81), some (.int (zI v1)), some (.int (zI v2)), none, none, none] [.int (zI (if v2 = 2 then (1 : Int) else (if v2 = 0 then ((-1) : Int) else (0 : Int)))), .int (zI (v1 / 6))] zS0 h (zQi zS0 K) := by
    refine r_iadd (pc := 22) (x := (v1 / 6)) (y := (if v2 = 2 then (1 : Int) else (if v2 = 0 then ((-1) : Int) else (0 : Int)))) dX12_nextOf_22 ?_
    refine r_istore_n (pc := 23) (L' := [some (.ref 81), some (.int (zI v1)), some (.int (zI v2)), some (.int (zI ((v1 / 6) + (if v2 = 2 then (1 : Int) else (if v2 = 0 then ((-1) : Int) else (0 : Int)))))), none, none]) dX12_nextOf_23 (by decide) rfl ?_
    refine r_iload_n (pc := 24) (x := v1) dX12_nextOf_24 rfl ?_
    refine r_bipush (pc := 25) (x := 6) dX12_nextOf_25 (by decide) ?_
    refine r_irem (pc := 27) (x := v1) (y := 6) dX12_nextOf_27 ⟨by omega, by omega⟩ (by decide) ?_
    refine r_iload_n (pc := 28) (x := v2) dX12_nextOf_28 rfl ?_
    refine r_iconst (pc := 29) dX12_nextOf_29 ?_
    have kk13 : RR mX12_nextOf 0 0 47 [some (.ref 81), some (.int (zI v1)), some (.int (zI v2)), some (.int (zI ((v1 / 6) + (if v2 = 2 then (1 : Int) else (if v2 = 0 then ((-1) : Int) else (0 : Int)))))), none, none] [.int (zI (if v2 = 1 then (1 : Int) else (if v2 = 3 then ((-1) : Int) else (0 : Int)))), .int (zI (v1 % 6))] zS0 h (zQi zS0 K) := by
      refine r_iadd (pc := 47) (x := (v1 % 6)) (y := (if v2 = 1 then (1 : Int) else (if v2 = 3 then ((-1) : Int) else (0 : Int)))) dX12_nextOf_47 ?_
      refine r_istore (pc := 48) (L' := [some (.ref 81), some (.int (zI v1)), some (.int (zI v2)), some (.int (zI ((v1 / 6) + (if v2 = 2 then (1 : Int) else (if v2 = 0 then ((-1) : Int) else (0 : Int)))))), some (.int (zI ((v1 % 6) + (if v2 = 1 then (1 : Int) else (if v2 = 3 then ((-1) : Int) else (0 : Int)))))), none]) dX12_nextOf_48 (by decide) rfl ?_
      refine r_iload_n (pc := 50) (x := ((v1 / 6) + (if v2 = 2 then (1 : Int) else (if v2 = 0 then ((-1) : Int) else (0 : Int))))) dX12_nextOf_50 rfl ?_
      obtain ⟨hr5, w⟩ := w
      refine r_i2l (pc := 51) (x := ((v1 / 6) + (if v2 = 2 then (1 : Int) else (if v2 = 0 then ((-1) : Int) else (0 : Int))))) dX12_nextOf_51 hr5 ?_
      refine r_lconst (pc := 52) (x := 0) dX12_nextOf_52 rfl ?_
      refine r_ldcL (pc := 53) (x := 5) dX12_nextOf_53 kl_X12_186 ?_
      refine r_callS (μ2 := mX12_in) (pc := 56) (as := [.long (zJ ((v1 / 6) + (if v2 = 2 then (1 : Int) else (if v2 = 0 then ((-1) : Int) else (0 : Int))))), .long (zJ 0), .long (zJ 5)]) (st := []) ml_X12_94 sm_X12_in okX12_in ⟨by decide, by decide⟩ dX12_nextOf_56 (Nat.le_of_ble_eq_true rfl) rfl (Nat.le_of_ble_eq_true rfl) (by decide) (by decide) (zCC.mono w ?_)
      rintro r S' h6 ⟨rfl, b6, hr, w⟩
      subst hr
      show RR mX12_nextOf 0 0 59 [some (.ref 81), some (.int (zI v1)), some (.int (zI v2)), some (.int (zI ((v1 / 6) + (if v2 = 2 then (1 : Int) else (if v2 = 0 then ((-1) : Int) else (0 : Int)))))), some (.int (zI ((v1 % 6) + (if v2 = 1 then (1 : Int) else (if v2 = 3 then ((-1) : Int) else (0 : Int)))))), none] [.int (zI (bI b6))] zS0 h6 (zQi zS0 K)
      refine r_if_eq (pc := 59) (x := (bI b6)) (tgt := 95) dX12_nextOf_59 (by decide) (bI_R _) (fun c => ?_) (fun c => ?_)
      · have w := w.1 (bI_0.mp c)
        refine r_iconst (pc := 95) dX12_nextOf_95 ?_
        refine r_istore (pc := 96) (L' := [some (.ref 81), some (.int (zI v1)), some (.int (zI v2)), some (.int (zI ((v1 / 6) + (if v2 = 2 then (1 : Int) else (if v2 = 0 then ((-1) : Int) else (0 : Int)))))), some (.int (zI ((v1 % 6) + (if v2 = 1 then (1 : Int) else (if v2 = 3 then ((-1) : Int) else (0 : Int)))))), some (.int (zI 0))]) dX12_nextOf_96 (by decide) rfl ?_
        refine r_iload (pc := 98) (x := 0) dX12_nextOf_98 rfl ?_
        refine r_if_eq (pc := 100) (x := 0) (tgt := 113) dX12_nextOf_100 (by decide) (by decide) (fun c => ?_) (fun c => ?_)
        · refine r_bipush (pc := 113) (x := (-4)) dX12_nextOf_113 (by decide) ?_
          exact r_iret (st := []) (pc := 115) (x := (-4)) (ty := .int) dX12_nextOf_115 rfl rfl rfl (by decide) ⟨rfl, _, rfl, w⟩
        · exact absurd c (by decide)
      · have w := w.2 (bI_n.mp c)
        refine r_iload (pc := 62) (x := ((v1 % 6) + (if v2 = 1 then (1 : Int) else (if v2 = 3 then ((-1) : Int) else (0 : Int))))) dX12_nextOf_62 rfl ?_
        obtain ⟨hr7, w⟩ := w
        refine r_i2l (pc := 64) (x := ((v1 % 6) + (if v2 = 1 then (1 : Int) else (if v2 = 3 then ((-1) : Int) else (0 : Int))))) dX12_nextOf_64 hr7 ?_
        refine r_lconst (pc := 65) (x := 0) dX12_nextOf_65 rfl ?_
        refine r_ldcL (pc := 66) (x := 5) dX12_nextOf_66 kl_X12_186 ?_
        refine r_callS (μ2 := mX12_in) (pc := 69) (as := [.long (zJ ((v1 % 6) + (if v2 = 1 then (1 : Int) else (if v2 = 3 then ((-1) : Int) else (0 : Int))))), .long (zJ 0), .long (zJ 5)]) (st := []) ml_X12_94 sm_X12_in okX12_in ⟨by decide, by decide⟩ dX12_nextOf_69 (Nat.le_of_ble_eq_true rfl) rfl (Nat.le_of_ble_eq_true rfl) (by decide) (by decide) (zCC.mono w ?_)
        rintro r S' h8 ⟨rfl, b8, hr, w⟩
        subst hr
        show RR mX12_nextOf 0 0 72 [some (.ref 81), some (.int (zI v1)), some (.int (zI v2)), some (.int (zI ((v1 / 6) + (if v2 = 2 then (1 : Int) else (if v2 = 0 then ((-1) : Int) else (0 : Int)))))), some (.int (zI ((v1 % 6) + (if v2 = 1 then (1 : Int) else (if v2 = 3 then ((-1) : Int) else (0 : Int)))))), none] [.int (zI (bI b8))] zS0 h8 (zQi zS0 K)
        refine r_if_eq (pc := 72) (x := (bI b8)) (tgt := 95) dX12_nextOf_72 (by decide) (bI_R _) (fun c => ?_) (fun c => ?_)
        · have w := w.1 (bI_0.mp c)
          refine r_iconst (pc := 95) dX12_nextOf_95 ?_
          refine r_istore (pc := 96) (L' := [some (.ref 81), some (.int (zI v1)), some (.int (zI v2)), some (.int (zI ((v1 / 6) + (if v2 = 2 then (1 : Int) else (if v2 = 0 then ((-1) : Int) else (0 : Int)))))), some (.int (zI ((v1 % 6) + (if v2 = 1 then (1 : Int) else (if v2 = 3 then ((-1) : Int) else (0 : Int)))))), some (.int (zI 0))]) dX12_nextOf_96 (by decide) rfl ?_
          refine r_iload (pc := 98) (x := 0) dX12_nextOf_98 rfl ?_
          refine r_if_eq (pc := 100) (x := 0) (tgt := 113) dX12_nextOf_100 (by decide) (by decide) (fun c => ?_) (fun c => ?_)
          · refine r_bipush (pc := 113) (x := (-4)) dX12_nextOf_113 (by decide) ?_
            exact r_iret (st := []) (pc := 115) (x := (-4)) (ty := .int) dX12_nextOf_115 rfl rfl rfl (by decide) ⟨rfl, _, rfl, w⟩
          · exact absurd c (by decide)
        · have w := w.2 (bI_n.mp c)
          refine r_aload_n (pc := 75) (a := 81) dX12_nextOf_75 rfl ?_
          refine r_getR (pc := 76) (b := 92) fl_X12_40 dX12_nextOf_76 s0_81 rfl ?_
          refine r_bipush (pc := 79) (x := 6) dX12_nextOf_79 (by decide) ?_
          refine r_iload_n (pc := 81) (x := ((v1 / 6) + (if v2 = 2 then (1 : Int) else (if v2 = 0 then ((-1) : Int) else (0 : Int))))) dX12_nextOf_81 rfl ?_
          refine r_imul (pc := 82) (x := 6) (y := ((v1 / 6) + (if v2 = 2 then (1 : Int) else (if v2 = 0 then ((-1) : Int) else (0 : Int))))) dX12_nextOf_82 ?_
          refine r_iload (pc := 83) (x := ((v1 % 6) + (if v2 = 1 then (1 : Int) else (if v2 = 3 then ((-1) : Int) else (0 : Int))))) dX12_nextOf_83 rfl ?_
          refine r_iadd (pc := 85) (x := (6 * ((v1 / 6) + (if v2 = 2 then (1 : Int) else (if v2 = 0 then ((-1) : Int) else (0 : Int)))))) (y := ((v1 % 6) + (if v2 = 1 then (1 : Int) else (if v2 = 3 then ((-1) : Int) else (0 : Int))))) dX12_nextOf_85 ?_
          obtain ⟨hb9, w⟩ := w
          refine r_iald (pc := 86) (i := ((6 * ((v1 / 6) + (if v2 = 2 then (1 : Int) else (if v2 = 0 then ((-1) : Int) else (0 : Int))))) + ((v1 % 6) + (if v2 = 1 then (1 : Int) else (if v2 = 3 then ((-1) : Int) else (0 : Int)))))) (x := (h8 92 ((6 * ((v1 / 6) + (if v2 = 2 then (1 : Int) else (if v2 = 0 then ((-1) : Int) else (0 : Int))))) + ((v1 % 6) + (if v2 = 1 then (1 : Int) else (if v2 = 3 then ((-1) : Int) else (0 : Int))))))) dX12_nextOf_86 s0_92 ⟨hb9.1, hb9.2, (by decide)⟩ (rfl) ?_
          refine r_iconst (pc := 87) dX12_nextOf_87 ?_
          obtain ⟨hr10, w⟩ := w
          have kk12 : RR mX12_nextOf 0 0 96 [some (.ref 81), some (.int (zI v1)), some (.int (zI v2)), some (.int (zI ((v1 / 6) + (if v2 = 2 then (1 : Int) else (if v2 = 0 then ((-1) : Int) else (0 : Int)))))), some (.int (zI ((v1 % 6) + (if v2 = 1 then (1 : Int) else (if v2 = 3 then ((-1) : Int) else (0 : Int)))))), none] [.int (zI (bI (if (h8 92 ((6 * ((v1 / 6) + (if v2 = 2 then (1 : Int) else (if v2 = 0 then ((-1) : Int) else (0 : Int))))) + ((v1 % 6) + (if v2 = 1 then (1 : Int) else (if v2 = 3 then ((-1) : Int) else (0 : Int)))))) = 2 then false else true)))] zS0 h8 (zQi zS0 K) := by
            refine r_istore (pc := 96) (L' := [some (.ref 81), some (.int (zI v1)), some (.int (zI v2)), some (.int (zI ((v1 / 6) + (if v2 = 2 then (1 : Int) else (if v2 = 0 then ((-1) : Int) else (0 : Int)))))), some (.int (zI ((v1 % 6) + (if v2 = 1 then (1 : Int) else (if v2 = 3 then ((-1) : Int) else (0 : Int)))))), some (.int (zI (bI (if (h8 92 ((6 * ((v1 / 6) + (if v2 = 2 then (1 : Int) else (if v2 = 0 then ((-1) : Int) else (0 : Int))))) + ((v1 % 6) + (if v2 = 1 then (1 : Int) else (if v2 = 3 then ((-1) : Int) else (0 : Int)))))) = 2 then false else true))))]) dX12_nextOf_96 (by decide) rfl ?_
            refine r_iload (pc := 98) (x := (bI (if (h8 92 ((6 * ((v1 / 6) + (if v2 = 2 then (1 : Int) else (if v2 = 0 then ((-1) : Int) else (0 : Int))))) + ((v1 % 6) + (if v2 = 1 then (1 : Int) else (if v2 = 3 then ((-1) : Int) else (0 : Int)))))) = 2 then false else true))) dX12_nextOf_98 rfl ?_
            have kk11 : RR mX12_nextOf 0 0 115 [some (.ref 81), some (.int (zI v1)), some (.int (zI v2)), some (.int (zI ((v1 / 6) + (if v2 = 2 then (1 : Int) else (if v2 = 0 then ((-1) : Int) else (0 : Int)))))), some (.int (zI ((v1 % 6) + (if v2 = 1 then (1 : Int) else (if v2 = 3 then ((-1) : Int) else (0 : Int)))))), some (.int (zI (bI (if (h8 92 ((6 * ((v1 / 6) + (if v2 = 2 then (1 : Int) else (if v2 = 0 then ((-1) : Int) else (0 : Int))))) + ((v1 % 6) + (if v2 = 1 then (1 : Int) else (if v2 = 3 then ((-1) : Int) else (0 : Int)))))) = 2 then false else true))))] [.int (zI (if (if (h8 92 ((6 * ((v1 / 6) + (if v2 = 2 then (1 : Int) else (if v2 = 0 then ((-1) : Int) else (0 : Int))))) + ((v1 % 6) + (if v2 = 1 then (1 : Int) else (if v2 = 3 then ((-1) : Int) else (0 : Int)))))) = 2 then false else true) = true then ((6 * ((v1 / 6) + (if v2 = 2 then (1 : Int) else (if v2 = 0 then ((-1) : Int) else (0 : Int))))) + ((v1 % 6) + (if v2 = 1 then (1 : Int) else (if v2 = 3 then ((-1) : Int) else (0 : Int))))) else ((-4) : Int)))] zS0 h8 (zQi zS0 K) := by
              exact r_iret (st := []) (pc := 115) (x := (if (if (h8 92 ((6 * ((v1 / 6) + (if v2 = 2 then (1 : Int) else (if v2 = 0 then ((-1) : Int) else (0 : Int))))) + ((v1 % 6) + (if v2 = 1 then (1 : Int) else (if v2 = 3 then ((-1) : Int) else (0 : Int)))))) = 2 then false else true) = true then ((6 * ((v1 / 6) + (if v2 = 2 then (1 : Int) else (if v2 = 0 then ((-1) : Int) else (0 : Int))))) + ((v1 % 6) + (if v2 = 1 then (1 : Int) else (if v2 = 3 then ((-1) : Int) else (0 : Int))))) else ((-4) : Int))) (ty := .int) dX12_nextOf_115 rfl rfl rfl (by decide) ⟨rfl, _, rfl, w⟩
            refine r_if_eq (pc := 100) (x := (bI (if (h8 92 ((6 * ((v1 / 6) + (if v2 = 2 then (1 : Int) else (if v2 = 0 then ((-1) : Int) else (0 : Int))))) + ((v1 % 6) + (if v2 = 1 then (1 : Int) else (if v2 = 3 then ((-1) : Int) else (0 : Int)))))) = 2 then false else true))) (tgt := 113) dX12_nextOf_100 (by decide) (bI_R _) (fun c => ?_) (fun c => ?_)
            · refine r_bipush (pc := 113) (x := (-4)) dX12_nextOf_113 (by decide) ?_
              simp only [if_neg (bI_ft (bI_0.mp c))] at kk11 ⊢
              exact kk11
            · refine r_bipush (pc := 103) (x := 6) dX12_nextOf_103 (by decide) ?_
              refine r_iload_n (pc := 105) (x := ((v1 / 6) + (if v2 = 2 then (1 : Int) else (if v2 = 0 then ((-1) : Int) else (0 : Int))))) dX12_nextOf_105 rfl ?_
              refine r_imul (pc := 106) (x := 6) (y := ((v1 / 6) + (if v2 = 2 then (1 : Int) else (if v2 = 0 then ((-1) : Int) else (0 : Int))))) dX12_nextOf_106 ?_
              refine r_iload (pc := 107) (x := ((v1 % 6) + (if v2 = 1 then (1 : Int) else (if v2 = 3 then ((-1) : Int) else (0 : Int))))) dX12_nextOf_107 rfl ?_
              refine r_iadd (pc := 109) (x := (6 * ((v1 / 6) + (if v2 = 2 then (1 : Int) else (if v2 = 0 then ((-1) : Int) else (0 : Int)))))) (y := ((v1 % 6) + (if v2 = 1 then (1 : Int) else (if v2 = 3 then ((-1) : Int) else (0 : Int))))) dX12_nextOf_109 ?_
              refine r_goto (pc := 110) (tgt := 115) dX12_nextOf_110 (by decide) ?_
              simp only [if_pos (bI_n.mp c)] at kk11 ⊢
              exact kk11
          refine r_icmp_eq (pc := 88) (x := (h8 92 ((6 * ((v1 / 6) + (if v2 = 2 then (1 : Int) else (if v2 = 0 then ((-1) : Int) else (0 : Int))))) + ((v1 % 6) + (if v2 = 1 then (1 : Int) else (if v2 = 3 then ((-1) : Int) else (0 : Int))))))) (y := 2) (tgt := 95) dX12_nextOf_88 (by decide) hr10 (by decide) (fun c => ?_) (fun c => ?_)
          · refine r_iconst (pc := 95) dX12_nextOf_95 ?_
            simp only [if_pos (c)] at kk12 ⊢
            exact kk12
          · refine r_iconst (pc := 91) dX12_nextOf_91 ?_
            refine r_goto (pc := 92) (tgt := 96) dX12_nextOf_92 (by decide) ?_
            simp only [if_neg (c)] at kk12 ⊢
            exact kk12
    refine r_icmp_ne (pc := 30) (x := v2) (y := 1) (tgt := 37) dX12_nextOf_30 (by decide) hr2 (by decide) (fun c => ?_) (fun c => ?_)
    · refine r_iload_n (pc := 37) (x := v2) dX12_nextOf_37 rfl ?_
      refine r_iconst (pc := 38) dX12_nextOf_38 ?_
      refine r_icmp_ne (pc := 39) (x := v2) (y := 3) (tgt := 46) dX12_nextOf_39 (by decide) hr2 (by decide) (fun c4 => ?_) (fun c4 => ?_)
      · refine r_iconst (pc := 46) dX12_nextOf_46 ?_
        simp only [if_neg (c), if_neg (c4)] at kk13 ⊢
        exact kk13
      · refine r_iconst (pc := 42) dX12_nextOf_42 ?_
        refine r_goto (pc := 43) (tgt := 47) dX12_nextOf_43 (by decide) ?_
        simp only [if_neg (c), if_pos (c4)] at kk13 ⊢
        exact kk13
    · refine r_iconst (pc := 33) dX12_nextOf_33 ?_
      refine r_goto (pc := 34) (tgt := 47) dX12_nextOf_34 (by decide) ?_
      simp only [if_pos (c)] at kk13 ⊢
      exact kk13
  refine r_icmp_ne (pc := 6) (x := v2) (y := 2) (tgt := 13) dX12_nextOf_6 (by decide) hr2 (by decide) (fun c => ?_) (fun c => ?_)
  · refine r_iload_n (pc := 13) (x := v2) dX12_nextOf_13 rfl ?_
    refine r_if_ne (pc := 14) (x := v2) (tgt := 21) dX12_nextOf_14 (by decide) hr2 (fun c3 => ?_) (fun c3 => ?_)
    · refine r_iconst (pc := 21) dX12_nextOf_21 ?_
      simp only [if_neg (c), if_neg (c3)] at kk14 ⊢
      exact kk14
    · refine r_iconst (pc := 17) dX12_nextOf_17 ?_
      refine r_goto (pc := 18) (tgt := 22) dX12_nextOf_18 (by decide) ?_
      simp only [if_neg (c), if_pos (c3)] at kk14 ⊢
      exact kk14
  · refine r_iconst (pc := 9) dX12_nextOf_9 ?_
    refine r_goto (pc := 10) (tgt := 22) dX12_nextOf_10 (by decide) ?_
    simp only [if_pos (c)] at kk14 ⊢
    exact kk14

set_option maxRecDepth 100000 in
set_option maxHeartbeats 4000000 in
theorem wX12_quarters {S : zSh} {h : zMm} {K : Int → zMm → Prop} {v0 : Int} {v1 : Int} (w : (zR ((v1 - v0) % 4) ∧ K (if ((v1 - v0) % 4) = 3 then (1 : Int) else ((v1 - v0) % 4)) h)) : zCi mX12_quarters [.int (zI v0), .int (zI v1)] S h K := by
  show RR mX12_quarters 0 0 0 [some (.int (zI v0)), some (.int (zI v1)), none] [] S h (zQi S K)
  refine r_iload_n (pc := 0) (x := v1) dX12_quarters_0 rfl ?_
  refine r_iload_n (pc := 1) (x := v0) dX12_quarters_1 rfl ?_
  refine r_isub (pc := 2) (x := v1) (y := v0) dX12_quarters_2 ?_
  refine r_iconst (pc := 3) dX12_quarters_3 ?_
  refine r_iandM (pc := 4) (x := (v1 - v0)) (y := 3) (z := ((v1 - v0) % 4)) dX12_quarters_4 (zI_mask _ 2 (by decide)) ?_
  refine r_istore_n (pc := 5) (L' := [some (.int (zI v0)), some (.int (zI v1)), some (.int (zI ((v1 - v0) % 4)))]) dX12_quarters_5 (by decide) rfl ?_
  refine r_iload_n (pc := 6) (x := ((v1 - v0) % 4)) dX12_quarters_6 rfl ?_
  refine r_iconst (pc := 7) dX12_quarters_7 ?_
  obtain ⟨hr1, w⟩ := w
  have kk2 : RR mX12_quarters 0 0 16 [some (.int (zI v0)), some (.int (zI v1)), some (.int (zI ((v1 - v0) % 4)))] [.int (zI (if ((v1 - v0) % 4) = 3 then (1 : Int) else ((v1 - v0) % 4)))] S h (zQi S K) := by
    exact r_iret (st := []) (pc := 16) (x := (if ((v1 - v0) % 4) = 3 then (1 : Int) else ((v1 - v0) % 4))) (ty := .int) dX12_quarters_16 rfl rfl rfl (by decide) ⟨rfl, _, rfl, w⟩
  refine r_icmp_ne (pc := 8) (x := ((v1 - v0) % 4)) (y := 3) (tgt := 15) dX12_quarters_8 (by decide) hr1 (by decide) (fun c => ?_) (fun c => ?_)
  · refine r_iload_n (pc := 15) (x := ((v1 - v0) % 4)) dX12_quarters_15 rfl ?_
    simp only [if_neg (c)] at kk2 ⊢
    exact kk2
  · refine r_iconst (pc := 11) dX12_quarters_11 ?_
    refine r_goto (pc := 12) (tgt := 16) dX12_quarters_12 (by decide) ?_
    simp only [if_pos (c)] at kk2 ⊢
    exact kk2

set_option maxRecDepth 100000 in
set_option maxHeartbeats 4000000 in
theorem wX12_minutesOf {h : zMm} {K : Int → zMm → Prop} {v1 : Int} {v2 : Int} (w : (zR v2 ∧ ((¬ v2 = 0 → K 1 h) ∧ (v2 = 0 → ((0 ≤ v1 ∧ v1 < 600) ∧ (zR (h 92 v1) ∧ ((¬ (h 92 v1) = 1 → K 1 h) ∧ ((h 92 v1) = 1 → K (h 88 2) h)))))))) : zCi mX12_minutesOf [.ref 81, .int (zI v1), .int (zI v2)] zS0 h K := by
  show RR mX12_minutesOf 0 0 0 [some (.ref 81), some (.int (zI v1)), some (.int (zI v2))] [] zS0 h (zQi zS0 K)
  refine r_iload_n (pc := 0) (x := v2) dX12_minutesOf_0 rfl ?_
  obtain ⟨hr1, w⟩ := w
  refine r_if_ne (pc := 1) (x := v2) (tgt := 23) dX12_minutesOf_1 (by decide) hr1 (fun c => ?_) (fun c => ?_)
  · have w := w.1 (c)
    refine r_iconst (pc := 23) dX12_minutesOf_23 ?_
    exact r_iret (st := []) (pc := 24) (x := 1) (ty := .int) dX12_minutesOf_24 rfl rfl rfl (by decide) ⟨rfl, _, rfl, w⟩
  · have w := w.2 (c)
    refine r_aload_n (pc := 4) (a := 81) dX12_minutesOf_4 rfl ?_
    refine r_getR (pc := 5) (b := 92) fl_X12_40 dX12_minutesOf_5 s0_81 rfl ?_
    refine r_iload_n (pc := 8) (x := v1) dX12_minutesOf_8 rfl ?_
    obtain ⟨hb2, w⟩ := w
    refine r_iald (pc := 9) (i := v1) (x := (h 92 v1)) dX12_minutesOf_9 s0_92 ⟨hb2.1, hb2.2, (by decide)⟩ (rfl) ?_
    refine r_iconst (pc := 10) dX12_minutesOf_10 ?_
    obtain ⟨hr3, w⟩ := w
    refine r_icmp_ne (pc := 11) (x := (h 92 v1)) (y := 1) (tgt := 23) dX12_minutesOf_11 (by decide) hr3 (by decide) (fun c => ?_) (fun c => ?_)
    · have w := w.1 (c)
      refine r_iconst (pc := 23) dX12_minutesOf_23 ?_
      exact r_iret (st := []) (pc := 24) (x := 1) (ty := .int) dX12_minutesOf_24 rfl rfl rfl (by decide) ⟨rfl, _, rfl, w⟩
    · have w := w.2 (c)
      refine r_aload_n (pc := 14) (a := 81) dX12_minutesOf_14 rfl ?_
      refine r_getR (pc := 15) (b := 88) fl_X12_28 dX12_minutesOf_15 s0_81 rfl ?_
      refine r_iconst (pc := 18) dX12_minutesOf_18 ?_
      refine r_iald (pc := 19) (i := 2) (x := (h 88 2)) dX12_minutesOf_19 s0_88 (by decide) (rfl) ?_
      refine r_goto (pc := 20) (tgt := 24) dX12_minutesOf_20 (by decide) ?_
      exact r_iret (st := []) (pc := 24) (x := (h 88 2)) (ty := .int) dX12_minutesOf_24 rfl rfl rfl (by decide) ⟨rfl, _, rfl, w⟩

set_option maxRecDepth 100000 in
set_option maxHeartbeats 4000000 in
theorem wX12_isThere {h : zMm} {K : zMm → Prop} {v1 : Int} {v2 : Int} {v3 : Int} {v4 : Int} (w : ((0 ≤ v1 ∧ v1 < 600) ∧ (zR (h 92 v1) ∧ ((¬ (h 92 v1) = 4 → zCb mX12_isGrass [.ref 81, .int (zI v1)] zS0 h (fun b3 h3 => ((b3 = false → K h3) ∧ (b3 = true → ((0 ≤ v1 ∧ v1 < 36) ∧ (zR (h3 94 v1) ∧ (((h3 94 v1) ≤ 0 → K h3) ∧ (¬ (h3 94 v1) ≤ 0 → (zR v3 ∧ (zR (h3 88 6) ∧ (((h3 88 6) ≤ v3 → (zR ((h3 93 5) + (h3 94 v1)) ∧ (zR v4 ∧ ((v4 < ((h3 93 5) + (h3 94 v1)) → K (zU h3 93 9 ((h3 93 9) + 1))) ∧ (¬ v4 < ((h3 93 5) + (h3 94 v1)) → K (zU (zU (zU (zU h3 93 5 ((h3 93 5) + (h3 94 v1))) 93 1 ((h3 93 1) + 1)) 94 v1 0) 95 v1 (v2 + 1))))))) ∧ (¬ (h3 88 6) ≤ v3 → K (zU h3 93 8 ((h3 93 8) + 1)))))))))))))) ∧ ((h 92 v1) = 4 → (zR (h 93 5) ∧ (((h 93 5) ≤ 0 → zCb mX12_isGrass [.ref 81, .int (zI v1)] zS0 h (fun b11 h11 => ((b11 = false → K h11) ∧ (b11 = true → ((0 ≤ v1 ∧ v1 < 36) ∧ (zR (h11 94 v1) ∧ (((h11 94 v1) ≤ 0 → K h11) ∧ (¬ (h11 94 v1) ≤ 0 → (zR v3 ∧ (zR (h11 88 6) ∧ (((h11 88 6) ≤ v3 → (zR ((h11 93 5) + (h11 94 v1)) ∧ (zR v4 ∧ ((v4 < ((h11 93 5) + (h11 94 v1)) → K (zU h11 93 9 ((h11 93 9) + 1))) ∧ (¬ v4 < ((h11 93 5) + (h11 94 v1)) → K (zU (zU (zU (zU h11 93 5 ((h11 93 5) + (h11 94 v1))) 93 1 ((h11 93 1) + 1)) 94 v1 0) 95 v1 (v2 + 1))))))) ∧ (¬ (h11 88 6) ≤ v3 → K (zU h11 93 8 ((h11 93 8) + 1)))))))))))))) ∧ (¬ (h 93 5) ≤ 0 → K (zU (zU (zU h 93 5 0) 93 4 ((h 93 4) + 1)) 93 0 ((h 93 0) + (h 88 4))))))))))) : zCv mX12_isThere [.ref 81, .int (zI v1), .int (zI v2), .int (zI v3), .int (zI v4)] zS0 h K := by
  show RR mX12_isThere 0 0 0 [some (.ref 81), some (.int (zI v1)), some (.int (zI v2)), some (.int (zI v3)), some (.int (zI v4))] [] zS0 h (zQv zS0 K)
  refine r_aload_n (pc := 0) (a := 81) dX12_isThere_0 rfl ?_
  refine r_getR (pc := 1) (b := 92) fl_X12_40 dX12_isThere_1 s0_81 rfl ?_
  refine r_iload_n (pc := 4) (x := v1) dX12_isThere_4 rfl ?_
  obtain ⟨hb1, w⟩ := w
  refine r_iald (pc := 5) (i := v1) (x := (h 92 v1)) dX12_isThere_5 s0_92 ⟨hb1.1, hb1.2, (by decide)⟩ (rfl) ?_
  refine r_iconst (pc := 6) dX12_isThere_6 ?_
  obtain ⟨hr2, w⟩ := w
  refine r_icmp_ne (pc := 7) (x := (h 92 v1)) (y := 4) (tgt := 54) dX12_isThere_7 (by decide) hr2 (by decide) (fun c => ?_) (fun c => ?_)
  · have w := w.1 (c)
    refine r_aload_n (pc := 54) (a := 81) dX12_isThere_54 rfl ?_
    refine r_iload_n (pc := 55) (x := v1) dX12_isThere_55 rfl ?_
    refine r_callV (μ2 := mX12_isGrass) (pc := 56) (as := [.int (zI v1)]) (st := []) rfl s0_81 ml_X12_196 im_X12_isGrass se_X12_isGrass okX12_isGrass ⟨by decide, by decide⟩ dX12_isThere_56 (Nat.le_of_ble_eq_true rfl) rfl (Nat.le_of_ble_eq_true rfl) (by decide) (by decide) (zCC.mono w ?_)
    rintro r S' h3 ⟨rfl, b3, hr, w⟩
    subst hr
    show RR mX12_isThere 0 0 59 [some (.ref 81), some (.int (zI v1)), some (.int (zI v2)), some (.int (zI v3)), some (.int (zI v4))] [.int (zI (bI b3))] zS0 h3 (zQv zS0 K)
    refine r_if_eq (pc := 59) (x := (bI b3)) (tgt := 169) dX12_isThere_59 (by decide) (bI_R _) (fun c => ?_) (fun c => ?_)
    · have w := w.1 (bI_0.mp c)
      exact r_ret (st := []) (pc := 169) dX12_isThere_169 rfl rfl (by decide) ⟨rfl, rfl, w⟩
    · have w := w.2 (bI_n.mp c)
      refine r_aload_n (pc := 62) (a := 81) dX12_isThere_62 rfl ?_
      refine r_getR (pc := 63) (b := 94) fl_X12_46 dX12_isThere_63 s0_81 rfl ?_
      refine r_iload_n (pc := 66) (x := v1) dX12_isThere_66 rfl ?_
      obtain ⟨hb4, w⟩ := w
      refine r_iald (pc := 67) (i := v1) (x := (h3 94 v1)) dX12_isThere_67 s0_94 ⟨hb4.1, hb4.2, (by decide)⟩ (rfl) ?_
      obtain ⟨hr5, w⟩ := w
      refine r_if_le (pc := 68) (x := (h3 94 v1)) (tgt := 169) dX12_isThere_68 (by decide) hr5 (fun c => ?_) (fun c => ?_)
      · have w := w.1 (c)
        exact r_ret (st := []) (pc := 169) dX12_isThere_169 rfl rfl (by decide) ⟨rfl, rfl, w⟩
      · have w := w.2 (c)
        refine r_iload_n (pc := 71) (x := v3) dX12_isThere_71 rfl ?_
        refine r_aload_n (pc := 72) (a := 81) dX12_isThere_72 rfl ?_
        refine r_getR (pc := 73) (b := 88) fl_X12_28 dX12_isThere_73 s0_81 rfl ?_
        refine r_bipush (pc := 76) (x := 6) dX12_isThere_76 (by decide) ?_
        refine r_iald (pc := 78) (i := 6) (x := (h3 88 6)) dX12_isThere_78 s0_88 (by decide) (rfl) ?_
        obtain ⟨hr6, w⟩ := w
        obtain ⟨hr7, w⟩ := w
        refine r_icmp_ge (pc := 79) (x := v3) (y := (h3 88 6)) (tgt := 96) dX12_isThere_79 (by decide) hr6 hr7 (fun c => ?_) (fun c => ?_)
        · have w := w.1 (c)
          refine r_aload_n (pc := 96) (a := 81) dX12_isThere_96 rfl ?_
          refine r_getR (pc := 97) (b := 93) fl_X12_43 dX12_isThere_97 s0_81 rfl ?_
          refine r_iconst (pc := 100) dX12_isThere_100 ?_
          refine r_iald (pc := 101) (i := 5) (x := (h3 93 5)) dX12_isThere_101 s0_93 (by decide) (rfl) ?_
          refine r_aload_n (pc := 102) (a := 81) dX12_isThere_102 rfl ?_
          refine r_getR (pc := 103) (b := 94) fl_X12_46 dX12_isThere_103 s0_81 rfl ?_
          refine r_iload_n (pc := 106) (x := v1) dX12_isThere_106 rfl ?_
          refine r_iald (pc := 107) (i := v1) (x := (h3 94 v1)) dX12_isThere_107 s0_94 ⟨by omega, by omega, (by decide)⟩ (rfl) ?_
          refine r_iadd (pc := 108) (x := (h3 93 5)) (y := (h3 94 v1)) dX12_isThere_108 ?_
          refine r_iload (pc := 109) (x := v4) dX12_isThere_109 rfl ?_
          obtain ⟨hr8, w⟩ := w
          obtain ⟨hr9, w⟩ := w
          refine r_icmp_gt (pc := 111) (x := ((h3 93 5) + (h3 94 v1))) (y := v4) (tgt := 158) dX12_isThere_111 (by decide) hr8 hr9 (fun c => ?_) (fun c => ?_)
          · have w := w.1 (c)
            refine r_aload_n (pc := 158) (a := 81) dX12_isThere_158 rfl ?_
            refine r_getR (pc := 159) (b := 93) fl_X12_43 dX12_isThere_159 s0_81 rfl ?_
            refine r_bipush (pc := 162) (x := 9) dX12_isThere_162 (by decide) ?_
            refine r_dup2 (pc := 164) rfl rfl dX12_isThere_164 ?_
            refine r_iald (pc := 165) (i := 9) (x := (h3 93 9)) dX12_isThere_165 s0_93 (by decide) (rfl) ?_
            refine r_iconst (pc := 166) dX12_isThere_166 ?_
            refine r_iadd (pc := 167) (x := (h3 93 9)) (y := 1) dX12_isThere_167 ?_
            refine r_iast (pc := 168) (i := 9) (x := ((h3 93 9) + 1)) dX12_isThere_168 s0_93 (by decide)  ?_
            exact r_ret (st := []) (pc := 169) dX12_isThere_169 rfl rfl (by decide) ⟨rfl, rfl, w⟩
          · have w := w.2 (c)
            refine r_aload_n (pc := 114) (a := 81) dX12_isThere_114 rfl ?_
            refine r_getR (pc := 115) (b := 93) fl_X12_43 dX12_isThere_115 s0_81 rfl ?_
            refine r_iconst (pc := 118) dX12_isThere_118 ?_
            refine r_dup2 (pc := 119) rfl rfl dX12_isThere_119 ?_
            refine r_iald (pc := 120) (i := 5) (x := (h3 93 5)) dX12_isThere_120 s0_93 (by decide) (rfl) ?_
            refine r_aload_n (pc := 121) (a := 81) dX12_isThere_121 rfl ?_
            refine r_getR (pc := 122) (b := 94) fl_X12_46 dX12_isThere_122 s0_81 rfl ?_
            refine r_iload_n (pc := 125) (x := v1) dX12_isThere_125 rfl ?_
            refine r_iald (pc := 126) (i := v1) (x := (h3 94 v1)) dX12_isThere_126 s0_94 ⟨by omega, by omega, (by decide)⟩ (rfl) ?_
            refine r_iadd (pc := 127) (x := (h3 93 5)) (y := (h3 94 v1)) dX12_isThere_127 ?_
            refine r_iast (pc := 128) (i := 5) (x := ((h3 93 5) + (h3 94 v1))) dX12_isThere_128 s0_93 (by decide)  ?_
            refine r_aload_n (pc := 129) (a := 81) dX12_isThere_129 rfl ?_
            refine r_getR (pc := 130) (b := 93) fl_X12_43 dX12_isThere_130 s0_81 rfl ?_
            refine r_iconst (pc := 133) dX12_isThere_133 ?_
            refine r_dup2 (pc := 134) rfl rfl dX12_isThere_134 ?_
            refine r_iald (pc := 135) (i := 1) (x := (h3 93 1)) dX12_isThere_135 s0_93 (by decide) (zU_ne (by omega)) ?_
            refine r_iconst (pc := 136) dX12_isThere_136 ?_
            refine r_iadd (pc := 137) (x := (h3 93 1)) (y := 1) dX12_isThere_137 ?_
            refine r_iast (pc := 138) (i := 1) (x := ((h3 93 1) + 1)) dX12_isThere_138 s0_93 (by decide)  ?_
            refine r_aload_n (pc := 139) (a := 81) dX12_isThere_139 rfl ?_
            refine r_getR (pc := 140) (b := 94) fl_X12_46 dX12_isThere_140 s0_81 rfl ?_
            refine r_iload_n (pc := 143) (x := v1) dX12_isThere_143 rfl ?_
            refine r_iconst (pc := 144) dX12_isThere_144 ?_
            refine r_iast (pc := 145) (i := v1) (x := 0) dX12_isThere_145 s0_94 ⟨by omega, by omega, (by decide)⟩  ?_
            refine r_aload_n (pc := 146) (a := 81) dX12_isThere_146 rfl ?_
            refine r_getR (pc := 147) (b := 95) fl_X12_49 dX12_isThere_147 s0_81 rfl ?_
            refine r_iload_n (pc := 150) (x := v1) dX12_isThere_150 rfl ?_
            refine r_iload_n (pc := 151) (x := v2) dX12_isThere_151 rfl ?_
            refine r_iconst (pc := 152) dX12_isThere_152 ?_
            refine r_iadd (pc := 153) (x := v2) (y := 1) dX12_isThere_153 ?_
            refine r_iast (pc := 154) (i := v1) (x := (v2 + 1)) dX12_isThere_154 s0_95 ⟨by omega, by omega, (by decide)⟩  ?_
            refine r_goto (pc := 155) (tgt := 169) dX12_isThere_155 (by decide) ?_
            exact r_ret (st := []) (pc := 169) dX12_isThere_169 rfl rfl (by decide) ⟨rfl, rfl, w⟩
        · have w := w.2 (c)
          refine r_aload_n (pc := 82) (a := 81) dX12_isThere_82 rfl ?_
          refine r_getR (pc := 83) (b := 93) fl_X12_43 dX12_isThere_83 s0_81 rfl ?_
          refine r_bipush (pc := 86) (x := 8) dX12_isThere_86 (by decide) ?_
          refine r_dup2 (pc := 88) rfl rfl dX12_isThere_88 ?_
          refine r_iald (pc := 89) (i := 8) (x := (h3 93 8)) dX12_isThere_89 s0_93 (by decide) (rfl) ?_
          refine r_iconst (pc := 90) dX12_isThere_90 ?_
          refine r_iadd (pc := 91) (x := (h3 93 8)) (y := 1) dX12_isThere_91 ?_
          refine r_iast (pc := 92) (i := 8) (x := ((h3 93 8) + 1)) dX12_isThere_92 s0_93 (by decide)  ?_
          refine r_goto (pc := 93) (tgt := 169) dX12_isThere_93 (by decide) ?_
          exact r_ret (st := []) (pc := 169) dX12_isThere_169 rfl rfl (by decide) ⟨rfl, rfl, w⟩
  · have w := w.2 (c)
    refine r_aload_n (pc := 10) (a := 81) dX12_isThere_10 rfl ?_
    refine r_getR (pc := 11) (b := 93) fl_X12_43 dX12_isThere_11 s0_81 rfl ?_
    refine r_iconst (pc := 14) dX12_isThere_14 ?_
    refine r_iald (pc := 15) (i := 5) (x := (h 93 5)) dX12_isThere_15 s0_93 (by decide) (rfl) ?_
    obtain ⟨hr10, w⟩ := w
    refine r_if_le (pc := 16) (x := (h 93 5)) (tgt := 54) dX12_isThere_16 (by decide) hr10 (fun c => ?_) (fun c => ?_)
    · have w := w.1 (c)
      refine r_aload_n (pc := 54) (a := 81) dX12_isThere_54 rfl ?_
      refine r_iload_n (pc := 55) (x := v1) dX12_isThere_55 rfl ?_
      refine r_callV (μ2 := mX12_isGrass) (pc := 56) (as := [.int (zI v1)]) (st := []) rfl s0_81 ml_X12_196 im_X12_isGrass se_X12_isGrass okX12_isGrass ⟨by decide, by decide⟩ dX12_isThere_56 (Nat.le_of_ble_eq_true rfl) rfl (Nat.le_of_ble_eq_true rfl) (by decide) (by decide) (zCC.mono w ?_)
      rintro r S' h11 ⟨rfl, b11, hr, w⟩
      subst hr
      show RR mX12_isThere 0 0 59 [some (.ref 81), some (.int (zI v1)), some (.int (zI v2)), some (.int (zI v3)), some (.int (zI v4))] [.int (zI (bI b11))] zS0 h11 (zQv zS0 K)
      refine r_if_eq (pc := 59) (x := (bI b11)) (tgt := 169) dX12_isThere_59 (by decide) (bI_R _) (fun c => ?_) (fun c => ?_)
      · have w := w.1 (bI_0.mp c)
        exact r_ret (st := []) (pc := 169) dX12_isThere_169 rfl rfl (by decide) ⟨rfl, rfl, w⟩
      · have w := w.2 (bI_n.mp c)
        refine r_aload_n (pc := 62) (a := 81) dX12_isThere_62 rfl ?_
        refine r_getR (pc := 63) (b := 94) fl_X12_46 dX12_isThere_63 s0_81 rfl ?_
        refine r_iload_n (pc := 66) (x := v1) dX12_isThere_66 rfl ?_
        obtain ⟨hb12, w⟩ := w
        refine r_iald (pc := 67) (i := v1) (x := (h11 94 v1)) dX12_isThere_67 s0_94 ⟨hb12.1, hb12.2, (by decide)⟩ (rfl) ?_
        obtain ⟨hr13, w⟩ := w
        refine r_if_le (pc := 68) (x := (h11 94 v1)) (tgt := 169) dX12_isThere_68 (by decide) hr13 (fun c => ?_) (fun c => ?_)
        · have w := w.1 (c)
          exact r_ret (st := []) (pc := 169) dX12_isThere_169 rfl rfl (by decide) ⟨rfl, rfl, w⟩
        · have w := w.2 (c)
          refine r_iload_n (pc := 71) (x := v3) dX12_isThere_71 rfl ?_
          refine r_aload_n (pc := 72) (a := 81) dX12_isThere_72 rfl ?_
          refine r_getR (pc := 73) (b := 88) fl_X12_28 dX12_isThere_73 s0_81 rfl ?_
          refine r_bipush (pc := 76) (x := 6) dX12_isThere_76 (by decide) ?_
          refine r_iald (pc := 78) (i := 6) (x := (h11 88 6)) dX12_isThere_78 s0_88 (by decide) (rfl) ?_
          obtain ⟨hr14, w⟩ := w
          obtain ⟨hr15, w⟩ := w
          refine r_icmp_ge (pc := 79) (x := v3) (y := (h11 88 6)) (tgt := 96) dX12_isThere_79 (by decide) hr14 hr15 (fun c => ?_) (fun c => ?_)
          · have w := w.1 (c)
            refine r_aload_n (pc := 96) (a := 81) dX12_isThere_96 rfl ?_
            refine r_getR (pc := 97) (b := 93) fl_X12_43 dX12_isThere_97 s0_81 rfl ?_
            refine r_iconst (pc := 100) dX12_isThere_100 ?_
            refine r_iald (pc := 101) (i := 5) (x := (h11 93 5)) dX12_isThere_101 s0_93 (by decide) (rfl) ?_
            refine r_aload_n (pc := 102) (a := 81) dX12_isThere_102 rfl ?_
            refine r_getR (pc := 103) (b := 94) fl_X12_46 dX12_isThere_103 s0_81 rfl ?_
            refine r_iload_n (pc := 106) (x := v1) dX12_isThere_106 rfl ?_
            refine r_iald (pc := 107) (i := v1) (x := (h11 94 v1)) dX12_isThere_107 s0_94 ⟨by omega, by omega, (by decide)⟩ (rfl) ?_
            refine r_iadd (pc := 108) (x := (h11 93 5)) (y := (h11 94 v1)) dX12_isThere_108 ?_
            refine r_iload (pc := 109) (x := v4) dX12_isThere_109 rfl ?_
            obtain ⟨hr16, w⟩ := w
            obtain ⟨hr17, w⟩ := w
            refine r_icmp_gt (pc := 111) (x := ((h11 93 5) + (h11 94 v1))) (y := v4) (tgt := 158) dX12_isThere_111 (by decide) hr16 hr17 (fun c => ?_) (fun c => ?_)
            · have w := w.1 (c)
              refine r_aload_n (pc := 158) (a := 81) dX12_isThere_158 rfl ?_
              refine r_getR (pc := 159) (b := 93) fl_X12_43 dX12_isThere_159 s0_81 rfl ?_
              refine r_bipush (pc := 162) (x := 9) dX12_isThere_162 (by decide) ?_
              refine r_dup2 (pc := 164) rfl rfl dX12_isThere_164 ?_
              refine r_iald (pc := 165) (i := 9) (x := (h11 93 9)) dX12_isThere_165 s0_93 (by decide) (rfl) ?_
              refine r_iconst (pc := 166) dX12_isThere_166 ?_
              refine r_iadd (pc := 167) (x := (h11 93 9)) (y := 1) dX12_isThere_167 ?_
              refine r_iast (pc := 168) (i := 9) (x := ((h11 93 9) + 1)) dX12_isThere_168 s0_93 (by decide)  ?_
              exact r_ret (st := []) (pc := 169) dX12_isThere_169 rfl rfl (by decide) ⟨rfl, rfl, w⟩
            · have w := w.2 (c)
              refine r_aload_n (pc := 114) (a := 81) dX12_isThere_114 rfl ?_
              refine r_getR (pc := 115) (b := 93) fl_X12_43 dX12_isThere_115 s0_81 rfl ?_
              refine r_iconst (pc := 118) dX12_isThere_118 ?_
              refine r_dup2 (pc := 119) rfl rfl dX12_isThere_119 ?_
              refine r_iald (pc := 120) (i := 5) (x := (h11 93 5)) dX12_isThere_120 s0_93 (by decide) (rfl) ?_
              refine r_aload_n (pc := 121) (a := 81) dX12_isThere_121 rfl ?_
              refine r_getR (pc := 122) (b := 94) fl_X12_46 dX12_isThere_122 s0_81 rfl ?_
              refine r_iload_n (pc := 125) (x := v1) dX12_isThere_125 rfl ?_
              refine r_iald (pc := 126) (i := v1) (x := (h11 94 v1)) dX12_isThere_126 s0_94 ⟨by omega, by omega, (by decide)⟩ (rfl) ?_
              refine r_iadd (pc := 127) (x := (h11 93 5)) (y := (h11 94 v1)) dX12_isThere_127 ?_
              refine r_iast (pc := 128) (i := 5) (x := ((h11 93 5) + (h11 94 v1))) dX12_isThere_128 s0_93 (by decide)  ?_
              refine r_aload_n (pc := 129) (a := 81) dX12_isThere_129 rfl ?_
              refine r_getR (pc := 130) (b := 93) fl_X12_43 dX12_isThere_130 s0_81 rfl ?_
              refine r_iconst (pc := 133) dX12_isThere_133 ?_
              refine r_dup2 (pc := 134) rfl rfl dX12_isThere_134 ?_
              refine r_iald (pc := 135) (i := 1) (x := (h11 93 1)) dX12_isThere_135 s0_93 (by decide) (zU_ne (by omega)) ?_
              refine r_iconst (pc := 136) dX12_isThere_136 ?_
              refine r_iadd (pc := 137) (x := (h11 93 1)) (y := 1) dX12_isThere_137 ?_
              refine r_iast (pc := 138) (i := 1) (x := ((h11 93 1) + 1)) dX12_isThere_138 s0_93 (by decide)  ?_
              refine r_aload_n (pc := 139) (a := 81) dX12_isThere_139 rfl ?_
              refine r_getR (pc := 140) (b := 94) fl_X12_46 dX12_isThere_140 s0_81 rfl ?_
              refine r_iload_n (pc := 143) (x := v1) dX12_isThere_143 rfl ?_
              refine r_iconst (pc := 144) dX12_isThere_144 ?_
              refine r_iast (pc := 145) (i := v1) (x := 0) dX12_isThere_145 s0_94 ⟨by omega, by omega, (by decide)⟩  ?_
              refine r_aload_n (pc := 146) (a := 81) dX12_isThere_146 rfl ?_
              refine r_getR (pc := 147) (b := 95) fl_X12_49 dX12_isThere_147 s0_81 rfl ?_
              refine r_iload_n (pc := 150) (x := v1) dX12_isThere_150 rfl ?_
              refine r_iload_n (pc := 151) (x := v2) dX12_isThere_151 rfl ?_
              refine r_iconst (pc := 152) dX12_isThere_152 ?_
              refine r_iadd (pc := 153) (x := v2) (y := 1) dX12_isThere_153 ?_
              refine r_iast (pc := 154) (i := v1) (x := (v2 + 1)) dX12_isThere_154 s0_95 ⟨by omega, by omega, (by decide)⟩  ?_
              refine r_goto (pc := 155) (tgt := 169) dX12_isThere_155 (by decide) ?_
              exact r_ret (st := []) (pc := 169) dX12_isThere_169 rfl rfl (by decide) ⟨rfl, rfl, w⟩
          · have w := w.2 (c)
            refine r_aload_n (pc := 82) (a := 81) dX12_isThere_82 rfl ?_
            refine r_getR (pc := 83) (b := 93) fl_X12_43 dX12_isThere_83 s0_81 rfl ?_
            refine r_bipush (pc := 86) (x := 8) dX12_isThere_86 (by decide) ?_
            refine r_dup2 (pc := 88) rfl rfl dX12_isThere_88 ?_
            refine r_iald (pc := 89) (i := 8) (x := (h11 93 8)) dX12_isThere_89 s0_93 (by decide) (rfl) ?_
            refine r_iconst (pc := 90) dX12_isThere_90 ?_
            refine r_iadd (pc := 91) (x := (h11 93 8)) (y := 1) dX12_isThere_91 ?_
            refine r_iast (pc := 92) (i := 8) (x := ((h11 93 8) + 1)) dX12_isThere_92 s0_93 (by decide)  ?_
            refine r_goto (pc := 93) (tgt := 169) dX12_isThere_93 (by decide) ?_
            exact r_ret (st := []) (pc := 169) dX12_isThere_169 rfl rfl (by decide) ⟨rfl, rfl, w⟩
    · have w := w.2 (c)
      refine r_aload_n (pc := 19) (a := 81) dX12_isThere_19 rfl ?_
      refine r_getR (pc := 20) (b := 93) fl_X12_43 dX12_isThere_20 s0_81 rfl ?_
      refine r_iconst (pc := 23) dX12_isThere_23 ?_
      refine r_iconst (pc := 24) dX12_isThere_24 ?_
      refine r_iast (pc := 25) (i := 5) (x := 0) dX12_isThere_25 s0_93 (by decide)  ?_
      refine r_aload_n (pc := 26) (a := 81) dX12_isThere_26 rfl ?_
      refine r_getR (pc := 27) (b := 93) fl_X12_43 dX12_isThere_27 s0_81 rfl ?_
      refine r_iconst (pc := 30) dX12_isThere_30 ?_
      refine r_dup2 (pc := 31) rfl rfl dX12_isThere_31 ?_
      refine r_iald (pc := 32) (i := 4) (x := (h 93 4)) dX12_isThere_32 s0_93 (by decide) (zU_ne (by omega)) ?_
      refine r_iconst (pc := 33) dX12_isThere_33 ?_
      refine r_iadd (pc := 34) (x := (h 93 4)) (y := 1) dX12_isThere_34 ?_
      refine r_iast (pc := 35) (i := 4) (x := ((h 93 4) + 1)) dX12_isThere_35 s0_93 (by decide)  ?_
      refine r_aload_n (pc := 36) (a := 81) dX12_isThere_36 rfl ?_
      refine r_getR (pc := 37) (b := 93) fl_X12_43 dX12_isThere_37 s0_81 rfl ?_
      refine r_iconst (pc := 40) dX12_isThere_40 ?_
      refine r_dup2 (pc := 41) rfl rfl dX12_isThere_41 ?_
      refine r_iald (pc := 42) (i := 0) (x := (h 93 0)) dX12_isThere_42 s0_93 (by decide) ((zU_ne (by omega)).trans (zU_ne (by omega))) ?_
      refine r_aload_n (pc := 43) (a := 81) dX12_isThere_43 rfl ?_
      refine r_getR (pc := 44) (b := 88) fl_X12_28 dX12_isThere_44 s0_81 rfl ?_
      refine r_iconst (pc := 47) dX12_isThere_47 ?_
      refine r_iald (pc := 48) (i := 4) (x := (h 88 4)) dX12_isThere_48 s0_88 (by decide) ((zU_ne (by omega)).trans (zU_ne (by omega))) ?_
      refine r_iadd (pc := 49) (x := (h 93 0)) (y := (h 88 4)) dX12_isThere_49 ?_
      refine r_iast (pc := 50) (i := 0) (x := ((h 93 0) + (h 88 4))) dX12_isThere_50 s0_93 (by decide)  ?_
      refine r_goto (pc := 51) (tgt := 169) dX12_isThere_51 (by decide) ?_
      exact r_ret (st := []) (pc := 169) dX12_isThere_169 rfl rfl (by decide) ⟨rfl, rfl, w⟩

set_option maxRecDepth 100000 in
set_option maxHeartbeats 4000000 in
theorem wX12_walks {h : zMm} {K : zMm → Prop} {v1 : Int} {v2 : Int} (w : RR mX12_walks 0 0 2 [some (.ref 81), some (.int (zI v1)), some (.int (zI v2)), some (.int (zI 0)), none, none, none, none, none] [] zS0 h (zQv zS0 K)) : zCv mX12_walks [.ref 81, .int (zI v1), .int (zI v2)] zS0 h K := by
  show RR mX12_walks 0 0 0 [some (.ref 81), some (.int (zI v1)), some (.int (zI v2)), none, none, none, none, none, none] [] zS0 h (zQv zS0 K)
  refine r_iconst (pc := 0) dX12_walks_0 ?_
  refine r_istore_n (pc := 1) (L' := [some (.ref 81), some (.int (zI v1)), some (.int (zI v2)), some (.int (zI 0)), none, none, none, none, none]) dX12_walks_1 (by decide) rfl ?_
  exact w

set_option maxRecDepth 100000 in
set_option maxHeartbeats 4000000 in
theorem bX12_walks_2 {h : zMm} {K : zMm → Prop} {v1 : Int} {v2 : Int} {v3 : Int} (w : (zR v3 ∧ ((10 ≤ v3 → RR mX12_walks 0 0 23 [some (.ref 81), some (.int (zI v1)), some (.int (zI v2)), some (.int (zI 0)), none, none, none, none, none] [] zS0 h (zQv zS0 K)) ∧ (¬ 10 ≤ v3 → ((0 ≤ v3 ∧ v3 < 10) ∧ RR mX12_walks 0 0 2 [some (.ref 81), some (.int (zI v1)), some (.int (zI v2)), some (.int (zI (v3 + 1))), none, none, none, none, none] [] zS0 (zU h 93 v3 0) (zQv zS0 K)))))) : RR mX12_walks 0 0 2 [some (.ref 81), some (.int (zI v1)), some (.int (zI v2)), some (.int (zI v3)), none, none, none, none, none] [] zS0 h (zQv zS0 K) := by
  refine r_iload_n (pc := 2) (x := v3) dX12_walks_2 rfl ?_
  refine r_bipush (pc := 3) (x := 10) dX12_walks_3 (by decide) ?_
  obtain ⟨hr1, w⟩ := w
  refine r_icmp_ge (pc := 5) (x := v3) (y := 10) (tgt := 21) dX12_walks_5 (by decide) hr1 (by decide) (fun c => ?_) (fun c => ?_)
  · have w := w.1 (c)
    refine r_iconst (pc := 21) dX12_walks_21 ?_
    refine r_istore_n (pc := 22) (L' := [some (.ref 81), some (.int (zI v1)), some (.int (zI v2)), some (.int (zI 0)), none, none, none, none, none]) dX12_walks_22 (by decide) rfl ?_
    exact w
  · have w := w.2 (c)
    refine r_aload_n (pc := 8) (a := 81) dX12_walks_8 rfl ?_
    refine r_getR (pc := 9) (b := 93) fl_X12_43 dX12_walks_9 s0_81 rfl ?_
    refine r_iload_n (pc := 12) (x := v3) dX12_walks_12 rfl ?_
    refine r_iconst (pc := 13) dX12_walks_13 ?_
    obtain ⟨hb2, w⟩ := w
    refine r_iast (pc := 14) (i := v3) (x := 0) dX12_walks_14 s0_93 ⟨hb2.1, hb2.2, (by decide)⟩  ?_
    refine r_iinc (pc := 15) (x := v3) (L' := [some (.ref 81), some (.int (zI v1)), some (.int (zI v2)), some (.int (zI (v3 + 1))), none, none, none, none, none]) dX12_walks_15 rfl (by decide) rfl ?_
    refine r_goto (pc := 18) (tgt := 2) dX12_walks_18 (by decide) ?_
    exact w

set_option maxRecDepth 100000 in
set_option maxHeartbeats 4000000 in
theorem bX12_walks_23 {h : zMm} {K : zMm → Prop} {v1 : Int} {v2 : Int} {v3 : Int} (w : (zR v3 ∧ ((36 ≤ v3 → RR mX12_walks 0 0 85 [some (.ref 81), some (.int (zI v1)), some (.int (zI v2)), some (.int (zI (h 88 0))), some (.int (zI 0)), some (.int (zI 0)), none, none, none] [] zS0 (zU h 96 0 (h 88 0)) (zQv zS0 K)) ∧ (¬ 36 ≤ v3 → ((0 ≤ (36 + v3) ∧ (36 + v3) < 600) ∧ ((0 ≤ v3 ∧ v3 < 36) ∧ ((0 ≤ (72 + v3) ∧ (72 + v3) < 600) ∧ RR mX12_walks 0 0 23 [some (.ref 81), some (.int (zI v1)), some (.int (zI v2)), some (.int (zI (v3 + 1))), none, none, none, none, none] [] zS0 (zU (zU h 94 v3 (h 92 (36 + v3))) 95 v3 (h 92 (72 + v3))) (zQv zS0 K)))))))) : RR mX12_walks 0 0 23 [some (.ref 81), some (.int (zI v1)), some (.int (zI v2)), some (.int (zI v3)), none, none, none, none, none] [] zS0 h (zQv zS0 K) := by
  refine r_iload_n (pc := 23) (x := v3) dX12_walks_23 rfl ?_
  refine r_bipush (pc := 24) (x := 36) dX12_walks_24 (by decide) ?_
  obtain ⟨hr3, w⟩ := w
  refine r_icmp_ge (pc := 26) (x := v3) (y := 36) (tgt := 65) dX12_walks_26 (by decide) hr3 (by decide) (fun c => ?_) (fun c => ?_)
  · have w := w.1 (c)
    refine r_aload_n (pc := 65) (a := 81) dX12_walks_65 rfl ?_
    refine r_getR (pc := 66) (b := 88) fl_X12_28 dX12_walks_66 s0_81 rfl ?_
    refine r_iconst (pc := 69) dX12_walks_69 ?_
    refine r_iald (pc := 70) (i := 0) (x := (h 88 0)) dX12_walks_70 s0_88 (by decide) (rfl) ?_
    refine r_istore_n (pc := 71) (L' := [some (.ref 81), some (.int (zI v1)), some (.int (zI v2)), some (.int (zI (h 88 0))), none, none, none, none, none]) dX12_walks_71 (by decide) rfl ?_
    refine r_iconst (pc := 72) dX12_walks_72 ?_
    refine r_istore (pc := 73) (L' := [some (.ref 81), some (.int (zI v1)), some (.int (zI v2)), some (.int (zI (h 88 0))), some (.int (zI 0)), none, none, none, none]) dX12_walks_73 (by decide) rfl ?_
    refine r_aload_n (pc := 75) (a := 81) dX12_walks_75 rfl ?_
    refine r_getR (pc := 76) (b := 96) fl_X12_52 dX12_walks_76 s0_81 rfl ?_
    refine r_iconst (pc := 79) dX12_walks_79 ?_
    refine r_iload_n (pc := 80) (x := (h 88 0)) dX12_walks_80 rfl ?_
    refine r_iast (pc := 81) (i := 0) (x := (h 88 0)) dX12_walks_81 s0_96 (by decide)  ?_
    refine r_iconst (pc := 82) dX12_walks_82 ?_
    refine r_istore (pc := 83) (L' := [some (.ref 81), some (.int (zI v1)), some (.int (zI v2)), some (.int (zI (h 88 0))), some (.int (zI 0)), some (.int (zI 0)), none, none, none]) dX12_walks_83 (by decide) rfl ?_
    exact w
  · have w := w.2 (c)
    refine r_aload_n (pc := 29) (a := 81) dX12_walks_29 rfl ?_
    refine r_getR (pc := 30) (b := 94) fl_X12_46 dX12_walks_30 s0_81 rfl ?_
    refine r_iload_n (pc := 33) (x := v3) dX12_walks_33 rfl ?_
    refine r_aload_n (pc := 34) (a := 81) dX12_walks_34 rfl ?_
    refine r_getR (pc := 35) (b := 92) fl_X12_40 dX12_walks_35 s0_81 rfl ?_
    refine r_bipush (pc := 38) (x := 36) dX12_walks_38 (by decide) ?_
    refine r_iload_n (pc := 40) (x := v3) dX12_walks_40 rfl ?_
    refine r_iadd (pc := 41) (x := 36) (y := v3) dX12_walks_41 ?_
    obtain ⟨hb4, w⟩ := w
    refine r_iald (pc := 42) (i := (36 + v3)) (x := (h 92 (36 + v3))) dX12_walks_42 s0_92 ⟨hb4.1, hb4.2, (by decide)⟩ (rfl) ?_
    obtain ⟨hb5, w⟩ := w
    refine r_iast (pc := 43) (i := v3) (x := (h 92 (36 + v3))) dX12_walks_43 s0_94 ⟨hb5.1, hb5.2, (by decide)⟩  ?_
    refine r_aload_n (pc := 44) (a := 81) dX12_walks_44 rfl ?_
    refine r_getR (pc := 45) (b := 95) fl_X12_49 dX12_walks_45 s0_81 rfl ?_
    refine r_iload_n (pc := 48) (x := v3) dX12_walks_48 rfl ?_
    refine r_aload_n (pc := 49) (a := 81) dX12_walks_49 rfl ?_
    refine r_getR (pc := 50) (b := 92) fl_X12_40 dX12_walks_50 s0_81 rfl ?_
    refine r_bipush (pc := 53) (x := 72) dX12_walks_53 (by decide) ?_
    refine r_iload_n (pc := 55) (x := v3) dX12_walks_55 rfl ?_
    refine r_iadd (pc := 56) (x := 72) (y := v3) dX12_walks_56 ?_
    obtain ⟨hb6, w⟩ := w
    refine r_iald (pc := 57) (i := (72 + v3)) (x := (h 92 (72 + v3))) dX12_walks_57 s0_92 ⟨hb6.1, hb6.2, (by decide)⟩ (zU_ne (by omega)) ?_
    refine r_iast (pc := 58) (i := v3) (x := (h 92 (72 + v3))) dX12_walks_58 s0_95 ⟨by omega, by omega, (by decide)⟩  ?_
    refine r_iinc (pc := 59) (x := v3) (L' := [some (.ref 81), some (.int (zI v1)), some (.int (zI v2)), some (.int (zI (v3 + 1))), none, none, none, none, none]) dX12_walks_59 rfl (by decide) rfl ?_
    refine r_goto (pc := 62) (tgt := 23) dX12_walks_62 (by decide) ?_
    exact w

set_option maxRecDepth 100000 in
set_option maxHeartbeats 4000000 in
theorem bX12_walks_85 {h : zMm} {K : zMm → Prop} {v1 : Int} {v2 : Int} {v3 : Int} {v4 : Int} {v5 : Int} (w : (zR v5 ∧ (zR (h 92 192) ∧ (((h 92 192) ≤ v5 → K (zU h 93 6 v3)) ∧ (¬ (h 92 192) ≤ v5 → (zR (h 93 3) ∧ ((¬ (h 93 3) = 0 → K (zU h 93 6 v3)) ∧ ((h 93 3) = 0 → ((0 ≤ (144 + (2 * v5)) ∧ (144 + (2 * v5)) < 600) ∧ zCi mX12_quarters [.int (zI v4), .int (zI (h 92 (144 + (2 * v5))))] zS0 h (fun x11 h11 => zCi mX12_quarters [.int (zI v4), .int (zI (h 92 (144 + (2 * v5))))] zS0 (zU h11 93 7 ((h 93 7) + x11)) (fun x12 h12 => RR mX12_walks 0 0 169 [some (.ref 81), some (.int (zI v1)), some (.int (zI v2)), some (.int (zI v3)), some (.int (zI (h 92 (144 + (2 * v5))))), some (.int (zI v5)), some (.int (zI (h 92 (144 + (2 * v5))))), some (.int (zI 0)), none] [] zS0 (zU h12 93 0 ((h11 93 0) + (x12 * (h12 88 1)))) (zQv zS0 K)))))))))))) : RR mX12_walks 0 0 85 [some (.ref 81), some (.int (zI v1)), some (.int (zI v2)), some (.int (zI v3)), some (.int (zI v4)), some (.int (zI v5)), none, none, none] [] zS0 h (zQv zS0 K) := by
  refine r_iload (pc := 85) (x := v5) dX12_walks_85 rfl ?_
  refine r_aload_n (pc := 87) (a := 81) dX12_walks_87 rfl ?_
  refine r_getR (pc := 88) (b := 92) fl_X12_40 dX12_walks_88 s0_81 rfl ?_
  refine r_sipush (pc := 91) (x := 192) dX12_walks_91 (by decide) ?_
  refine r_iald (pc := 94) (i := 192) (x := (h 92 192)) dX12_walks_94 s0_92 (by decide) (rfl) ?_
  obtain ⟨hr7, w⟩ := w
  obtain ⟨hr8, w⟩ := w
  refine r_icmp_ge (pc := 95) (x := v5) (y := (h 92 192)) (tgt := 294) dX12_walks_95 (by decide) hr7 hr8 (fun c => ?_) (fun c => ?_)
  · have w := w.1 (c)
    refine r_aload_n (pc := 294) (a := 81) dX12_walks_294 rfl ?_
    refine r_getR (pc := 295) (b := 93) fl_X12_43 dX12_walks_295 s0_81 rfl ?_
    refine r_bipush (pc := 298) (x := 6) dX12_walks_298 (by decide) ?_
    refine r_iload_n (pc := 300) (x := v3) dX12_walks_300 rfl ?_
    refine r_iast (pc := 301) (i := 6) (x := v3) dX12_walks_301 s0_93 (by decide)  ?_
    exact r_ret (st := []) (pc := 302) dX12_walks_302 rfl rfl (by decide) ⟨rfl, rfl, w⟩
  · have w := w.2 (c)
    refine r_aload_n (pc := 98) (a := 81) dX12_walks_98 rfl ?_
    refine r_getR (pc := 99) (b := 93) fl_X12_43 dX12_walks_99 s0_81 rfl ?_
    refine r_iconst (pc := 102) dX12_walks_102 ?_
    refine r_iald (pc := 103) (i := 3) (x := (h 93 3)) dX12_walks_103 s0_93 (by decide) (rfl) ?_
    obtain ⟨hr9, w⟩ := w
    refine r_if_ne (pc := 104) (x := (h 93 3)) (tgt := 294) dX12_walks_104 (by decide) hr9 (fun c => ?_) (fun c => ?_)
    · have w := w.1 (c)
      refine r_aload_n (pc := 294) (a := 81) dX12_walks_294 rfl ?_
      refine r_getR (pc := 295) (b := 93) fl_X12_43 dX12_walks_295 s0_81 rfl ?_
      refine r_bipush (pc := 298) (x := 6) dX12_walks_298 (by decide) ?_
      refine r_iload_n (pc := 300) (x := v3) dX12_walks_300 rfl ?_
      refine r_iast (pc := 301) (i := 6) (x := v3) dX12_walks_301 s0_93 (by decide)  ?_
      exact r_ret (st := []) (pc := 302) dX12_walks_302 rfl rfl (by decide) ⟨rfl, rfl, w⟩
    · have w := w.2 (c)
      refine r_aload_n (pc := 107) (a := 81) dX12_walks_107 rfl ?_
      refine r_getR (pc := 108) (b := 92) fl_X12_40 dX12_walks_108 s0_81 rfl ?_
      refine r_sipush (pc := 111) (x := 144) dX12_walks_111 (by decide) ?_
      refine r_iconst (pc := 114) dX12_walks_114 ?_
      refine r_iload (pc := 115) (x := v5) dX12_walks_115 rfl ?_
      refine r_imul (pc := 117) (x := 2) (y := v5) dX12_walks_117 ?_
      refine r_iadd (pc := 118) (x := 144) (y := (2 * v5)) dX12_walks_118 ?_
      obtain ⟨hb10, w⟩ := w
      refine r_iald (pc := 119) (i := (144 + (2 * v5))) (x := (h 92 (144 + (2 * v5)))) dX12_walks_119 s0_92 ⟨hb10.1, hb10.2, (by decide)⟩ (rfl) ?_
      refine r_istore (pc := 120) (L' := [some (.ref 81), some (.int (zI v1)), some (.int (zI v2)), some (.int (zI v3)), some (.int (zI v4)), some (.int (zI v5)), some (.int (zI (h 92 (144 + (2 * v5))))), none, none]) dX12_walks_120 (by decide) rfl ?_
      refine r_aload_n (pc := 122) (a := 81) dX12_walks_122 rfl ?_
      refine r_getR (pc := 123) (b := 93) fl_X12_43 dX12_walks_123 s0_81 rfl ?_
      refine r_bipush (pc := 126) (x := 7) dX12_walks_126 (by decide) ?_
      refine r_dup2 (pc := 128) rfl rfl dX12_walks_128 ?_
      refine r_iald (pc := 129) (i := 7) (x := (h 93 7)) dX12_walks_129 s0_93 (by decide) (rfl) ?_
      refine r_iload (pc := 130) (x := v4) dX12_walks_130 rfl ?_
      refine r_iload (pc := 132) (x := (h 92 (144 + (2 * v5)))) dX12_walks_132 rfl ?_
      refine r_callS (μ2 := mX12_quarters) (pc := 134) (as := [.int (zI v4), .int (zI (h 92 (144 + (2 * v5))))]) (st := [.int (zI (h 93 7)), .int (zI 7), .ref 93]) ml_X12_199 sm_X12_quarters okX12_quarters ⟨by decide, by decide⟩ dX12_walks_134 (Nat.le_of_ble_eq_true rfl) rfl (Nat.le_of_ble_eq_true rfl) (by decide) (by decide) (zCC.mono w ?_)
      rintro r S' h11 ⟨rfl, x11, hr, w⟩
      subst hr
      show RR mX12_walks 0 0 137 [some (.ref 81), some (.int (zI v1)), some (.int (zI v2)), some (.int (zI v3)), some (.int (zI v4)), some (.int (zI v5)), some (.int (zI (h 92 (144 + (2 * v5))))), none, none] [.int (zI x11), .int (zI (h 93 7)), .int (zI 7), .ref 93] zS0 h11 (zQv zS0 K)
      refine r_iadd (pc := 137) (x := (h 93 7)) (y := x11) dX12_walks_137 ?_
      refine r_iast (pc := 138) (i := 7) (x := ((h 93 7) + x11)) dX12_walks_138 s0_93 (by decide)  ?_
      refine r_aload_n (pc := 139) (a := 81) dX12_walks_139 rfl ?_
      refine r_getR (pc := 140) (b := 93) fl_X12_43 dX12_walks_140 s0_81 rfl ?_
      refine r_iconst (pc := 143) dX12_walks_143 ?_
      refine r_dup2 (pc := 144) rfl rfl dX12_walks_144 ?_
      refine r_iald (pc := 145) (i := 0) (x := (h11 93 0)) dX12_walks_145 s0_93 (by decide) (zU_ne (by omega)) ?_
      refine r_iload (pc := 146) (x := v4) dX12_walks_146 rfl ?_
      refine r_iload (pc := 148) (x := (h 92 (144 + (2 * v5)))) dX12_walks_148 rfl ?_
      refine r_callS (μ2 := mX12_quarters) (pc := 150) (as := [.int (zI v4), .int (zI (h 92 (144 + (2 * v5))))]) (st := [.int (zI (h11 93 0)), .int (zI 0), .ref 93]) ml_X12_199 sm_X12_quarters okX12_quarters ⟨by decide, by decide⟩ dX12_walks_150 (Nat.le_of_ble_eq_true rfl) rfl (Nat.le_of_ble_eq_true rfl) (by decide) (by decide) (zCC.mono w ?_)
      rintro r S' h12 ⟨rfl, x12, hr, w⟩
      subst hr
      show RR mX12_walks 0 0 153 [some (.ref 81), some (.int (zI v1)), some (.int (zI v2)), some (.int (zI v3)), some (.int (zI v4)), some (.int (zI v5)), some (.int (zI (h 92 (144 + (2 * v5))))), none, none] [.int (zI x12), .int (zI (h11 93 0)), .int (zI 0), .ref 93] zS0 h12 (zQv zS0 K)
      refine r_aload_n (pc := 153) (a := 81) dX12_walks_153 rfl ?_
      refine r_getR (pc := 154) (b := 88) fl_X12_28 dX12_walks_154 s0_81 rfl ?_
      refine r_iconst (pc := 157) dX12_walks_157 ?_
      refine r_iald (pc := 158) (i := 1) (x := (h12 88 1)) dX12_walks_158 s0_88 (by decide) (rfl) ?_
      refine r_imul (pc := 159) (x := x12) (y := (h12 88 1)) dX12_walks_159 ?_
      refine r_iadd (pc := 160) (x := (h11 93 0)) (y := (x12 * (h12 88 1))) dX12_walks_160 ?_
      refine r_iast (pc := 161) (i := 0) (x := ((h11 93 0) + (x12 * (h12 88 1)))) dX12_walks_161 s0_93 (by decide)  ?_
      refine r_iload (pc := 162) (x := (h 92 (144 + (2 * v5)))) dX12_walks_162 rfl ?_
      refine r_istore (pc := 164) (L' := [some (.ref 81), some (.int (zI v1)), some (.int (zI v2)), some (.int (zI v3)), some (.int (zI (h 92 (144 + (2 * v5))))), some (.int (zI v5)), some (.int (zI (h 92 (144 + (2 * v5))))), none, none]) dX12_walks_164 (by decide) rfl ?_
      refine r_iconst (pc := 166) dX12_walks_166 ?_
      refine r_istore (pc := 167) (L' := [some (.ref 81), some (.int (zI v1)), some (.int (zI v2)), some (.int (zI v3)), some (.int (zI (h 92 (144 + (2 * v5))))), some (.int (zI v5)), some (.int (zI (h 92 (144 + (2 * v5))))), some (.int (zI 0)), none]) dX12_walks_167 (by decide) rfl ?_
      exact w

set_option maxRecDepth 100000 in
set_option maxHeartbeats 4000000 in
theorem bX12_walks_169 {h : zMm} {K : zMm → Prop} {v1 : Int} {v2 : Int} {v3 : Int} {v4 : Int} {v5 : Int} {v6 : Int} {v7 : Int} (w : ((0 ≤ ((144 + (2 * v5)) + 1) ∧ ((144 + (2 * v5)) + 1) < 600) ∧ (zR v7 ∧ (zR (h 92 ((144 + (2 * v5)) + 1)) ∧ (((h 92 ((144 + (2 * v5)) + 1)) ≤ v7 → RR mX12_walks 0 0 85 [some (.ref 81), some (.int (zI v1)), some (.int (zI v2)), some (.int (zI v3)), some (.int (zI v4)), some (.int (zI (v5 + 1))), none, none, none] [] zS0 h (zQv zS0 K)) ∧ (¬ (h 92 ((144 + (2 * v5)) + 1)) ≤ v7 → (zR (h 93 3) ∧ ((¬ (h 93 3) = 0 → RR mX12_walks 0 0 85 [some (.ref 81), some (.int (zI v1)), some (.int (zI v2)), some (.int (zI v3)), some (.int (zI v4)), some (.int (zI (v5 + 1))), none, none, none] [] zS0 h (zQv zS0 K)) ∧ ((h 93 3) = 0 → zCi mX12_nextOf [.ref 81, .int (zI v3), .int (zI v6)] zS0 h (fun x17 h17 => (zR x17 ∧ ((¬ x17 = (-4) → zCi mX12_minutesOf [.ref 81, .int (zI x17), .int (zI v6)] zS0 h17 (fun x19 h19 => ((0 ≤ ((h19 93 2) + 1) ∧ ((h19 93 2) + 1) < 121) ∧ zCv mX12_isThere [.ref 81, .int (zI x17), .int (zI v6), .int (zI (v1 + ((h17 93 0) + x19))), .int (zI v2)] zS0 (zU (zU (zU h19 93 0 ((h17 93 0) + x19)) 93 2 ((h19 93 2) + 1)) 96 ((h19 93 2) + 1) x17) (fun h21 => RR mX12_walks 0 0 169 [some (.ref 81), some (.int (zI v1)), some (.int (zI v2)), some (.int (zI x17)), some (.int (zI v4)), some (.int (zI v5)), some (.int (zI v6)), some (.int (zI (v7 + 1))), none] [] zS0 h21 (zQv zS0 K))))) ∧ (x17 = (-4) → RR mX12_walks 0 0 169 [some (.ref 81), some (.int (zI v1)), some (.int (zI v2)), some (.int (zI v3)), some (.int (zI v4)), some (.int (zI v5)), some (.int (zI v6)), some (.int (zI (v7 + 1))), none] [] zS0 (zU h17 93 3 1) (zQv zS0 K)))))))))))))) : RR mX12_walks 0 0 169 [some (.ref 81), some (.int (zI v1)), some (.int (zI v2)), some (.int (zI v3)), some (.int (zI v4)), some (.int (zI v5)), some (.int (zI v6)), some (.int (zI v7)), none] [] zS0 h (zQv zS0 K) := by
  refine r_iload (pc := 169) (x := v7) dX12_walks_169 rfl ?_
  refine r_aload_n (pc := 171) (a := 81) dX12_walks_171 rfl ?_
  refine r_getR (pc := 172) (b := 92) fl_X12_40 dX12_walks_172 s0_81 rfl ?_
  refine r_sipush (pc := 175) (x := 144) dX12_walks_175 (by decide) ?_
  refine r_iconst (pc := 178) dX12_walks_178 ?_
  refine r_iload (pc := 179) (x := v5) dX12_walks_179 rfl ?_
  refine r_imul (pc := 181) (x := 2) (y := v5) dX12_walks_181 ?_
  refine r_iadd (pc := 182) (x := 144) (y := (2 * v5)) dX12_walks_182 ?_
  refine r_iconst (pc := 183) dX12_walks_183 ?_
  refine r_iadd (pc := 184) (x := (144 + (2 * v5))) (y := 1) dX12_walks_184 ?_
  obtain ⟨hb13, w⟩ := w
  refine r_iald (pc := 185) (i := ((144 + (2 * v5)) + 1)) (x := (h 92 ((144 + (2 * v5)) + 1))) dX12_walks_185 s0_92 ⟨hb13.1, hb13.2, (by decide)⟩ (rfl) ?_
  obtain ⟨hr14, w⟩ := w
  obtain ⟨hr15, w⟩ := w
  refine r_icmp_ge (pc := 186) (x := v7) (y := (h 92 ((144 + (2 * v5)) + 1))) (tgt := 288) dX12_walks_186 (by decide) hr14 hr15 (fun c => ?_) (fun c => ?_)
  · have w := w.1 (c)
    refine r_iinc (pc := 288) (x := v5) (L' := [some (.ref 81), some (.int (zI v1)), some (.int (zI v2)), some (.int (zI v3)), some (.int (zI v4)), some (.int (zI (v5 + 1))), some (.int (zI v6)), some (.int (zI v7)), none]) dX12_walks_288 rfl (by decide) rfl ?_
    refine r_goto (pc := 291) (tgt := 85) dX12_walks_291 (by decide) ?_
    exact RR.sub (L' := [some (.ref 81), some (.int (zI v1)), some (.int (zI v2)), some (.int (zI v3)), some (.int (zI v4)), some (.int (zI (v5 + 1))), none, none, none]) (zSb_of (⟨rfl, ⟨rfl, ⟨rfl, ⟨rfl, ⟨rfl, ⟨rfl, trivial⟩⟩⟩⟩⟩⟩)) w
  · have w := w.2 (c)
    refine r_aload_n (pc := 189) (a := 81) dX12_walks_189 rfl ?_
    refine r_getR (pc := 190) (b := 93) fl_X12_43 dX12_walks_190 s0_81 rfl ?_
    refine r_iconst (pc := 193) dX12_walks_193 ?_
    refine r_iald (pc := 194) (i := 3) (x := (h 93 3)) dX12_walks_194 s0_93 (by decide) (rfl) ?_
    obtain ⟨hr16, w⟩ := w
    refine r_if_ne (pc := 195) (x := (h 93 3)) (tgt := 288) dX12_walks_195 (by decide) hr16 (fun c => ?_) (fun c => ?_)
    · have w := w.1 (c)
      refine r_iinc (pc := 288) (x := v5) (L' := [some (.ref 81), some (.int (zI v1)), some (.int (zI v2)), some (.int (zI v3)), some (.int (zI v4)), some (.int (zI (v5 + 1))), some (.int (zI v6)), some (.int (zI v7)), none]) dX12_walks_288 rfl (by decide) rfl ?_
      refine r_goto (pc := 291) (tgt := 85) dX12_walks_291 (by decide) ?_
      exact RR.sub (L' := [some (.ref 81), some (.int (zI v1)), some (.int (zI v2)), some (.int (zI v3)), some (.int (zI v4)), some (.int (zI (v5 + 1))), none, none, none]) (zSb_of (⟨rfl, ⟨rfl, ⟨rfl, ⟨rfl, ⟨rfl, ⟨rfl, trivial⟩⟩⟩⟩⟩⟩)) w
    · have w := w.2 (c)
      refine r_aload_n (pc := 198) (a := 81) dX12_walks_198 rfl ?_
      refine r_iload_n (pc := 199) (x := v3) dX12_walks_199 rfl ?_
      refine r_iload (pc := 200) (x := v6) dX12_walks_200 rfl ?_
      refine r_callV (μ2 := mX12_nextOf) (pc := 202) (as := [.int (zI v3), .int (zI v6)]) (st := []) rfl s0_81 ml_X12_202 im_X12_nextOf se_X12_nextOf okX12_nextOf ⟨by decide, by decide⟩ dX12_walks_202 (Nat.le_of_ble_eq_true rfl) rfl (Nat.le_of_ble_eq_true rfl) (by decide) (by decide) (zCC.mono w ?_)
      rintro r S' h17 ⟨rfl, x17, hr, w⟩
      subst hr
      show RR mX12_walks 0 0 205 [some (.ref 81), some (.int (zI v1)), some (.int (zI v2)), some (.int (zI v3)), some (.int (zI v4)), some (.int (zI v5)), some (.int (zI v6)), some (.int (zI v7)), none] [.int (zI x17)] zS0 h17 (zQv zS0 K)
      refine r_istore (pc := 205) (L' := [some (.ref 81), some (.int (zI v1)), some (.int (zI v2)), some (.int (zI v3)), some (.int (zI v4)), some (.int (zI v5)), some (.int (zI v6)), some (.int (zI v7)), some (.int (zI x17))]) dX12_walks_205 (by decide) rfl ?_
      refine r_iload (pc := 207) (x := x17) dX12_walks_207 rfl ?_
      refine r_bipush (pc := 209) (x := (-4)) dX12_walks_209 (by decide) ?_
      obtain ⟨hr18, w⟩ := w
      refine r_icmp_ne (pc := 211) (x := x17) (y := (-4)) (tgt := 224) dX12_walks_211 (by decide) hr18 (by decide) (fun c => ?_) (fun c => ?_)
      · have w := w.1 (c)
        refine r_aload_n (pc := 224) (a := 81) dX12_walks_224 rfl ?_
        refine r_getR (pc := 225) (b := 93) fl_X12_43 dX12_walks_225 s0_81 rfl ?_
        refine r_iconst (pc := 228) dX12_walks_228 ?_
        refine r_dup2 (pc := 229) rfl rfl dX12_walks_229 ?_
        refine r_iald (pc := 230) (i := 0) (x := (h17 93 0)) dX12_walks_230 s0_93 (by decide) (rfl) ?_
        refine r_aload_n (pc := 231) (a := 81) dX12_walks_231 rfl ?_
        refine r_iload (pc := 232) (x := x17) dX12_walks_232 rfl ?_
        refine r_iload (pc := 234) (x := v6) dX12_walks_234 rfl ?_
        refine r_callV (μ2 := mX12_minutesOf) (pc := 236) (as := [.int (zI x17), .int (zI v6)]) (st := [.int (zI (h17 93 0)), .int (zI 0), .ref 93]) rfl s0_81 ml_X12_205 im_X12_minutesOf se_X12_minutesOf okX12_minutesOf ⟨by decide, by decide⟩ dX12_walks_236 (Nat.le_of_ble_eq_true rfl) rfl (Nat.le_of_ble_eq_true rfl) (by decide) (by decide) (zCC.mono w ?_)
        rintro r S' h19 ⟨rfl, x19, hr, w⟩
        subst hr
        show RR mX12_walks 0 0 239 [some (.ref 81), some (.int (zI v1)), some (.int (zI v2)), some (.int (zI v3)), some (.int (zI v4)), some (.int (zI v5)), some (.int (zI v6)), some (.int (zI v7)), some (.int (zI x17))] [.int (zI x19), .int (zI (h17 93 0)), .int (zI 0), .ref 93] zS0 h19 (zQv zS0 K)
        refine r_iadd (pc := 239) (x := (h17 93 0)) (y := x19) dX12_walks_239 ?_
        refine r_iast (pc := 240) (i := 0) (x := ((h17 93 0) + x19)) dX12_walks_240 s0_93 (by decide)  ?_
        refine r_aload_n (pc := 241) (a := 81) dX12_walks_241 rfl ?_
        refine r_getR (pc := 242) (b := 93) fl_X12_43 dX12_walks_242 s0_81 rfl ?_
        refine r_iconst (pc := 245) dX12_walks_245 ?_
        refine r_dup2 (pc := 246) rfl rfl dX12_walks_246 ?_
        refine r_iald (pc := 247) (i := 2) (x := (h19 93 2)) dX12_walks_247 s0_93 (by decide) (zU_ne (by omega)) ?_
        refine r_iconst (pc := 248) dX12_walks_248 ?_
        refine r_iadd (pc := 249) (x := (h19 93 2)) (y := 1) dX12_walks_249 ?_
        refine r_iast (pc := 250) (i := 2) (x := ((h19 93 2) + 1)) dX12_walks_250 s0_93 (by decide)  ?_
        refine r_iload (pc := 251) (x := x17) dX12_walks_251 rfl ?_
        refine r_istore_n (pc := 253) (L' := [some (.ref 81), some (.int (zI v1)), some (.int (zI v2)), some (.int (zI x17)), some (.int (zI v4)), some (.int (zI v5)), some (.int (zI v6)), some (.int (zI v7)), some (.int (zI x17))]) dX12_walks_253 (by decide) rfl ?_
        refine r_aload_n (pc := 254) (a := 81) dX12_walks_254 rfl ?_
        refine r_getR (pc := 255) (b := 96) fl_X12_52 dX12_walks_255 s0_81 rfl ?_
        refine r_aload_n (pc := 258) (a := 81) dX12_walks_258 rfl ?_
        refine r_getR (pc := 259) (b := 93) fl_X12_43 dX12_walks_259 s0_81 rfl ?_
        refine r_iconst (pc := 262) dX12_walks_262 ?_
        refine r_iald (pc := 263) (i := 2) (x := ((h19 93 2) + 1)) dX12_walks_263 s0_93 (by decide) (zU_eq _ _ _ _) ?_
        refine r_iload_n (pc := 264) (x := x17) dX12_walks_264 rfl ?_
        obtain ⟨hb20, w⟩ := w
        refine r_iast (pc := 265) (i := ((h19 93 2) + 1)) (x := x17) dX12_walks_265 s0_96 ⟨hb20.1, hb20.2, (by decide)⟩  ?_
        refine r_aload_n (pc := 266) (a := 81) dX12_walks_266 rfl ?_
        refine r_iload_n (pc := 267) (x := x17) dX12_walks_267 rfl ?_
        refine r_iload (pc := 268) (x := v6) dX12_walks_268 rfl ?_
        refine r_iload_n (pc := 270) (x := v1) dX12_walks_270 rfl ?_
        refine r_aload_n (pc := 271) (a := 81) dX12_walks_271 rfl ?_
        refine r_getR (pc := 272) (b := 93) fl_X12_43 dX12_walks_272 s0_81 rfl ?_
        refine r_iconst (pc := 275) dX12_walks_275 ?_
        refine r_iald (pc := 276) (i := 0) (x := ((h17 93 0) + x19)) dX12_walks_276 s0_93 (by decide) ((zU_ne (by omega)).trans ((zU_ne (by omega)).trans (zU_eq _ _ _ _))) ?_
        refine r_iadd (pc := 277) (x := v1) (y := ((h17 93 0) + x19)) dX12_walks_277 ?_
        refine r_iload_n (pc := 278) (x := v2) dX12_walks_278 rfl ?_
        refine r_callV (μ2 := mX12_isThere) (pc := 279) (as := [.int (zI x17), .int (zI v6), .int (zI (v1 + ((h17 93 0) + x19))), .int (zI v2)]) (st := []) rfl s0_81 ml_X12_208 im_X12_isThere se_X12_isThere okX12_isThere ⟨by decide, by decide⟩ dX12_walks_279 (Nat.le_of_ble_eq_true rfl) rfl (Nat.le_of_ble_eq_true rfl) (by decide) (by decide) (zCC.mono w ?_)
        rintro r S' h21 ⟨rfl, hr, w⟩
        subst hr
        show RR mX12_walks 0 0 282 [some (.ref 81), some (.int (zI v1)), some (.int (zI v2)), some (.int (zI x17)), some (.int (zI v4)), some (.int (zI v5)), some (.int (zI v6)), some (.int (zI v7)), some (.int (zI x17))] [] zS0 h21 (zQv zS0 K)
        refine r_iinc (pc := 282) (x := v7) (L' := [some (.ref 81), some (.int (zI v1)), some (.int (zI v2)), some (.int (zI x17)), some (.int (zI v4)), some (.int (zI v5)), some (.int (zI v6)), some (.int (zI (v7 + 1))), some (.int (zI x17))]) dX12_walks_282 rfl (by decide) rfl ?_
        refine r_goto (pc := 285) (tgt := 169) dX12_walks_285 (by decide) ?_
        exact RR.sub (L' := [some (.ref 81), some (.int (zI v1)), some (.int (zI v2)), some (.int (zI x17)), some (.int (zI v4)), some (.int (zI v5)), some (.int (zI v6)), some (.int (zI (v7 + 1))), none]) (zSb_of (⟨rfl, ⟨rfl, ⟨rfl, ⟨rfl, ⟨rfl, ⟨rfl, ⟨rfl, ⟨rfl, trivial⟩⟩⟩⟩⟩⟩⟩⟩)) w
      · have w := w.2 (c)
        refine r_aload_n (pc := 214) (a := 81) dX12_walks_214 rfl ?_
        refine r_getR (pc := 215) (b := 93) fl_X12_43 dX12_walks_215 s0_81 rfl ?_
        refine r_iconst (pc := 218) dX12_walks_218 ?_
        refine r_iconst (pc := 219) dX12_walks_219 ?_
        refine r_iast (pc := 220) (i := 3) (x := 1) dX12_walks_220 s0_93 (by decide)  ?_
        refine r_goto (pc := 221) (tgt := 282) dX12_walks_221 (by decide) ?_
        refine r_iinc (pc := 282) (x := v7) (L' := [some (.ref 81), some (.int (zI v1)), some (.int (zI v2)), some (.int (zI v3)), some (.int (zI v4)), some (.int (zI v5)), some (.int (zI v6)), some (.int (zI (v7 + 1))), some (.int (zI x17))]) dX12_walks_282 rfl (by decide) rfl ?_
        refine r_goto (pc := 285) (tgt := 169) dX12_walks_285 (by decide) ?_
        exact RR.sub (L' := [some (.ref 81), some (.int (zI v1)), some (.int (zI v2)), some (.int (zI v3)), some (.int (zI v4)), some (.int (zI v5)), some (.int (zI v6)), some (.int (zI (v7 + 1))), none]) (zSb_of (⟨rfl, ⟨rfl, ⟨rfl, ⟨rfl, ⟨rfl, ⟨rfl, ⟨rfl, ⟨rfl, trivial⟩⟩⟩⟩⟩⟩⟩⟩)) w

set_option maxRecDepth 100000 in
set_option maxHeartbeats 4000000 in
theorem wX12_isMinute {S : zSh} {h : zMm} {K : Bool → zMm → Prop} {v0 : Int} (w : (zR v0 ∧ zCb mX12_in [.long (zJ v0), .long (zJ 0), .long (zJ 999)] S h (fun b2 h2 => K b2 h2))) : zCb mX12_isMinute [.int (zI v0)] S h K := by
  show RR mX12_isMinute 0 0 0 [some (.int (zI v0))] [] S h (zQb S K)
  refine r_iload_n (pc := 0) (x := v0) dX12_isMinute_0 rfl ?_
  obtain ⟨hr1, w⟩ := w
  refine r_i2l (pc := 1) (x := v0) dX12_isMinute_1 hr1 ?_
  refine r_lconst (pc := 2) (x := 0) dX12_isMinute_2 rfl ?_
  refine r_ldcL (pc := 3) (x := 999) dX12_isMinute_3 kl_X12_212 ?_
  refine r_callS (μ2 := mX12_in) (pc := 6) (as := [.long (zJ v0), .long (zJ 0), .long (zJ 999)]) (st := []) ml_X12_94 sm_X12_in okX12_in ⟨by decide, by decide⟩ dX12_isMinute_6 (Nat.le_of_ble_eq_true rfl) rfl (Nat.le_of_ble_eq_true rfl) (by decide) (by decide) (zCC.mono w ?_)
  rintro r S' h2 ⟨rfl, b2, hr, w⟩
  subst hr
  show RR mX12_isMinute 0 0 9 [some (.int (zI v0))] [.int (zI (bI b2))] S h2 (zQb S K)
  exact r_iret (st := []) (pc := 9) (x := (bI b2)) (ty := .boolean) dX12_isMinute_9 rfl (bI_nar _) rfl (by decide) ⟨rfl, b2, rfl, w⟩

set_option maxRecDepth 100000 in
set_option maxHeartbeats 4000000 in
theorem wX12_run {h : zMm} {K : Int → zMm → Prop} {v1 : Int} {v2 : Int} (w : zCv mX12_awake [.ref 81] zS0 h (fun h1 => zCb mX12_isMinute [.int (zI v1)] zS0 h1 (fun b2 h2 => ((b2 = false → K (-1) h2) ∧ (b2 = true → (zR v2 ∧ zCb mX12_in [.long (zJ v2), .long (zJ 0), .long (zJ 9)] zS0 h2 (fun b4 h4 => ((b4 = true → zCv mX12_walks [.ref 81, .int (zI v1), .int (zI (h4 88 3))] zS0 h4 (fun h5 => ((0 ≤ v2 ∧ v2 < 10) ∧ K (h5 93 v2) h5))) ∧ (b4 = false → K (-1) h4))))))))) : zCi mX12_run [.ref 81, .int (zI v1), .int (zI v2)] zS0 h K := by
  show RR mX12_run 0 0 0 [some (.ref 81), some (.int (zI v1)), some (.int (zI v2))] [] zS0 h (zQi zS0 K)
  refine r_aload_n (pc := 0) (a := 81) dX12_run_0 rfl ?_
  refine r_callV (μ2 := mX12_awake) (pc := 1) (as := []) (st := []) rfl s0_81 ml_X12_175 im_X12_awake se_X12_awake okX12_awake ⟨by decide, by decide⟩ dX12_run_1 (Nat.le_of_ble_eq_true rfl) rfl (Nat.le_of_ble_eq_true rfl) (by decide) (by decide) (zCC.mono w ?_)
  rintro r S' h1 ⟨rfl, hr, w⟩
  subst hr
  show RR mX12_run 0 0 4 [some (.ref 81), some (.int (zI v1)), some (.int (zI v2))] [] zS0 h1 (zQi zS0 K)
  refine r_iload_n (pc := 4) (x := v1) dX12_run_4 rfl ?_
  refine r_callS (μ2 := mX12_isMinute) (pc := 5) (as := [.int (zI v1)]) (st := []) ml_X12_214 sm_X12_isMinute okX12_isMinute ⟨by decide, by decide⟩ dX12_run_5 (Nat.le_of_ble_eq_true rfl) rfl (Nat.le_of_ble_eq_true rfl) (by decide) (by decide) (zCC.mono w ?_)
  rintro r S' h2 ⟨rfl, b2, hr, w⟩
  subst hr
  show RR mX12_run 0 0 8 [some (.ref 81), some (.int (zI v1)), some (.int (zI v2))] [.int (zI (bI b2))] zS0 h2 (zQi zS0 K)
  refine r_if_eq (pc := 8) (x := (bI b2)) (tgt := 23) dX12_run_8 (by decide) (bI_R _) (fun c => ?_) (fun c => ?_)
  · have w := w.1 (bI_0.mp c)
    refine r_iconst (pc := 23) dX12_run_23 ?_
    exact r_iret (st := []) (pc := 24) (x := (-1)) (ty := .int) dX12_run_24 rfl rfl rfl (by decide) ⟨rfl, _, rfl, w⟩
  · have w := w.2 (bI_n.mp c)
    refine r_iload_n (pc := 11) (x := v2) dX12_run_11 rfl ?_
    obtain ⟨hr3, w⟩ := w
    refine r_i2l (pc := 12) (x := v2) dX12_run_12 hr3 ?_
    refine r_lconst (pc := 13) (x := 0) dX12_run_13 rfl ?_
    refine r_ldcL (pc := 14) (x := 9) dX12_run_14 kl_X12_217 ?_
    refine r_callS (μ2 := mX12_in) (pc := 17) (as := [.long (zJ v2), .long (zJ 0), .long (zJ 9)]) (st := []) ml_X12_94 sm_X12_in okX12_in ⟨by decide, by decide⟩ dX12_run_17 (Nat.le_of_ble_eq_true rfl) rfl (Nat.le_of_ble_eq_true rfl) (by decide) (by decide) (zCC.mono w ?_)
    rintro r S' h4 ⟨rfl, b4, hr, w⟩
    subst hr
    show RR mX12_run 0 0 20 [some (.ref 81), some (.int (zI v1)), some (.int (zI v2))] [.int (zI (bI b4))] zS0 h4 (zQi zS0 K)
    refine r_if_ne (pc := 20) (x := (bI b4)) (tgt := 25) dX12_run_20 (by decide) (bI_R _) (fun c => ?_) (fun c => ?_)
    · have w := w.1 (bI_n.mp c)
      refine r_aload_n (pc := 25) (a := 81) dX12_run_25 rfl ?_
      refine r_iload_n (pc := 26) (x := v1) dX12_run_26 rfl ?_
      refine r_aload_n (pc := 27) (a := 81) dX12_run_27 rfl ?_
      refine r_getR (pc := 28) (b := 88) fl_X12_28 dX12_run_28 s0_81 rfl ?_
      refine r_iconst (pc := 31) dX12_run_31 ?_
      refine r_iald (pc := 32) (i := 3) (x := (h4 88 3)) dX12_run_32 s0_88 (by decide) (rfl) ?_
      refine r_callV (μ2 := mX12_walks) (pc := 33) (as := [.int (zI v1), .int (zI (h4 88 3))]) (st := []) rfl s0_81 ml_X12_219 im_X12_walks se_X12_walks okX12_walks ⟨by decide, by decide⟩ dX12_run_33 (Nat.le_of_ble_eq_true rfl) rfl (Nat.le_of_ble_eq_true rfl) (by decide) (by decide) (zCC.mono w ?_)
      rintro r S' h5 ⟨rfl, hr, w⟩
      subst hr
      show RR mX12_run 0 0 36 [some (.ref 81), some (.int (zI v1)), some (.int (zI v2))] [] zS0 h5 (zQi zS0 K)
      refine r_aload_n (pc := 36) (a := 81) dX12_run_36 rfl ?_
      refine r_getR (pc := 37) (b := 93) fl_X12_43 dX12_run_37 s0_81 rfl ?_
      refine r_iload_n (pc := 40) (x := v2) dX12_run_40 rfl ?_
      obtain ⟨hb6, w⟩ := w
      refine r_iald (pc := 41) (i := v2) (x := (h5 93 v2)) dX12_run_41 s0_93 ⟨hb6.1, hb6.2, (by decide)⟩ (rfl) ?_
      exact r_iret (st := []) (pc := 42) (x := (h5 93 v2)) (ty := .int) dX12_run_42 rfl rfl rfl (by decide) ⟨rfl, _, rfl, w⟩
    · have w := w.2 (bI_0.mp c)
      refine r_iconst (pc := 23) dX12_run_23 ?_
      exact r_iret (st := []) (pc := 24) (x := (-1)) (ty := .int) dX12_run_24 rfl rfl rfl (by decide) ⟨rfl, _, rfl, w⟩

set_option maxRecDepth 100000 in
set_option maxHeartbeats 4000000 in
theorem wX12_mow {h : zMm} {K : Int → zMm → Prop} {v1 : Int} (w : zCv mX12_awake [.ref 81] zS0 h (fun h1 => zCb mX12_isMinute [.int (zI v1)] zS0 h1 (fun b2 h2 => ((b2 = true → zCv mX12_walks [.ref 81, .int (zI v1), .int (zI (h2 88 3))] zS0 h2 (fun h3 => RR mX12_mow 0 0 26 [some (.ref 81), none, some (.int (zI 0))] [] zS0 h3 (zQi zS0 K))) ∧ (b2 = false → K (-1) h2))))) : zCi mX12_mow [.ref 81, .int (zI v1)] zS0 h K := by
  show RR mX12_mow 0 0 0 [some (.ref 81), some (.int (zI v1)), none] [] zS0 h (zQi zS0 K)
  refine r_aload_n (pc := 0) (a := 81) dX12_mow_0 rfl ?_
  refine r_callV (μ2 := mX12_awake) (pc := 1) (as := []) (st := []) rfl s0_81 ml_X12_175 im_X12_awake se_X12_awake okX12_awake ⟨by decide, by decide⟩ dX12_mow_1 (Nat.le_of_ble_eq_true rfl) rfl (Nat.le_of_ble_eq_true rfl) (by decide) (by decide) (zCC.mono w ?_)
  rintro r S' h1 ⟨rfl, hr, w⟩
  subst hr
  show RR mX12_mow 0 0 4 [some (.ref 81), some (.int (zI v1)), none] [] zS0 h1 (zQi zS0 K)
  refine r_iload_n (pc := 4) (x := v1) dX12_mow_4 rfl ?_
  refine r_callS (μ2 := mX12_isMinute) (pc := 5) (as := [.int (zI v1)]) (st := []) ml_X12_214 sm_X12_isMinute okX12_isMinute ⟨by decide, by decide⟩ dX12_mow_5 (Nat.le_of_ble_eq_true rfl) rfl (Nat.le_of_ble_eq_true rfl) (by decide) (by decide) (zCC.mono w ?_)
  rintro r S' h2 ⟨rfl, b2, hr, w⟩
  subst hr
  show RR mX12_mow 0 0 8 [some (.ref 81), some (.int (zI v1)), none] [.int (zI (bI b2))] zS0 h2 (zQi zS0 K)
  refine r_if_ne (pc := 8) (x := (bI b2)) (tgt := 13) dX12_mow_8 (by decide) (bI_R _) (fun c => ?_) (fun c => ?_)
  · have w := w.1 (bI_n.mp c)
    refine r_aload_n (pc := 13) (a := 81) dX12_mow_13 rfl ?_
    refine r_iload_n (pc := 14) (x := v1) dX12_mow_14 rfl ?_
    refine r_aload_n (pc := 15) (a := 81) dX12_mow_15 rfl ?_
    refine r_getR (pc := 16) (b := 88) fl_X12_28 dX12_mow_16 s0_81 rfl ?_
    refine r_iconst (pc := 19) dX12_mow_19 ?_
    refine r_iald (pc := 20) (i := 3) (x := (h2 88 3)) dX12_mow_20 s0_88 (by decide) (rfl) ?_
    refine r_callV (μ2 := mX12_walks) (pc := 21) (as := [.int (zI v1), .int (zI (h2 88 3))]) (st := []) rfl s0_81 ml_X12_219 im_X12_walks se_X12_walks okX12_walks ⟨by decide, by decide⟩ dX12_mow_21 (Nat.le_of_ble_eq_true rfl) rfl (Nat.le_of_ble_eq_true rfl) (by decide) (by decide) (zCC.mono w ?_)
    rintro r S' h3 ⟨rfl, hr, w⟩
    subst hr
    show RR mX12_mow 0 0 24 [some (.ref 81), some (.int (zI v1)), none] [] zS0 h3 (zQi zS0 K)
    refine r_iconst (pc := 24) dX12_mow_24 ?_
    refine r_istore_n (pc := 25) (L' := [some (.ref 81), some (.int (zI v1)), some (.int (zI 0))]) dX12_mow_25 (by decide) rfl ?_
    exact RR.sub (L' := [some (.ref 81), none, some (.int (zI 0))]) (zSb_of (⟨rfl, ⟨rfl, trivial⟩⟩)) w
  · have w := w.2 (bI_0.mp c)
    refine r_iconst (pc := 11) dX12_mow_11 ?_
    exact r_iret (st := []) (pc := 12) (x := (-1)) (ty := .int) dX12_mow_12 rfl rfl rfl (by decide) ⟨rfl, _, rfl, w⟩

set_option maxRecDepth 100000 in
set_option maxHeartbeats 4000000 in
theorem bX12_mow_26 {h : zMm} {K : Int → zMm → Prop} {v2 : Int} (w : (zR v2 ∧ ((36 ≤ v2 → K (h 93 1) h) ∧ (¬ 36 ≤ v2 → ((0 ≤ v2 ∧ v2 < 36) ∧ ((0 ≤ (36 + v2) ∧ (36 + v2) < 600) ∧ ((0 ≤ (72 + v2) ∧ (72 + v2) < 600) ∧ RR mX12_mow 0 0 26 [some (.ref 81), none, some (.int (zI (v2 + 1)))] [] zS0 (zU (zU h 92 (36 + v2) (h 94 v2)) 92 (72 + v2) (h 95 v2)) (zQi zS0 K)))))))) : RR mX12_mow 0 0 26 [some (.ref 81), none, some (.int (zI v2))] [] zS0 h (zQi zS0 K) := by
  refine r_iload_n (pc := 26) (x := v2) dX12_mow_26 rfl ?_
  refine r_bipush (pc := 27) (x := 36) dX12_mow_27 (by decide) ?_
  obtain ⟨hr4, w⟩ := w
  refine r_icmp_ge (pc := 29) (x := v2) (y := 36) (tgt := 68) dX12_mow_29 (by decide) hr4 (by decide) (fun c => ?_) (fun c => ?_)
  · have w := w.1 (c)
    refine r_aload_n (pc := 68) (a := 81) dX12_mow_68 rfl ?_
    refine r_getR (pc := 69) (b := 93) fl_X12_43 dX12_mow_69 s0_81 rfl ?_
    refine r_iconst (pc := 72) dX12_mow_72 ?_
    refine r_iald (pc := 73) (i := 1) (x := (h 93 1)) dX12_mow_73 s0_93 (by decide) (rfl) ?_
    exact r_iret (st := []) (pc := 74) (x := (h 93 1)) (ty := .int) dX12_mow_74 rfl rfl rfl (by decide) ⟨rfl, _, rfl, w⟩
  · have w := w.2 (c)
    refine r_aload_n (pc := 32) (a := 81) dX12_mow_32 rfl ?_
    refine r_getR (pc := 33) (b := 92) fl_X12_40 dX12_mow_33 s0_81 rfl ?_
    refine r_bipush (pc := 36) (x := 36) dX12_mow_36 (by decide) ?_
    refine r_iload_n (pc := 38) (x := v2) dX12_mow_38 rfl ?_
    refine r_iadd (pc := 39) (x := 36) (y := v2) dX12_mow_39 ?_
    refine r_aload_n (pc := 40) (a := 81) dX12_mow_40 rfl ?_
    refine r_getR (pc := 41) (b := 94) fl_X12_46 dX12_mow_41 s0_81 rfl ?_
    refine r_iload_n (pc := 44) (x := v2) dX12_mow_44 rfl ?_
    obtain ⟨hb5, w⟩ := w
    refine r_iald (pc := 45) (i := v2) (x := (h 94 v2)) dX12_mow_45 s0_94 ⟨hb5.1, hb5.2, (by decide)⟩ (rfl) ?_
    obtain ⟨hb6, w⟩ := w
    refine r_iast (pc := 46) (i := (36 + v2)) (x := (h 94 v2)) dX12_mow_46 s0_92 ⟨hb6.1, hb6.2, (by decide)⟩  ?_
    refine r_aload_n (pc := 47) (a := 81) dX12_mow_47 rfl ?_
    refine r_getR (pc := 48) (b := 92) fl_X12_40 dX12_mow_48 s0_81 rfl ?_
    refine r_bipush (pc := 51) (x := 72) dX12_mow_51 (by decide) ?_
    refine r_iload_n (pc := 53) (x := v2) dX12_mow_53 rfl ?_
    refine r_iadd (pc := 54) (x := 72) (y := v2) dX12_mow_54 ?_
    refine r_aload_n (pc := 55) (a := 81) dX12_mow_55 rfl ?_
    refine r_getR (pc := 56) (b := 95) fl_X12_49 dX12_mow_56 s0_81 rfl ?_
    refine r_iload_n (pc := 59) (x := v2) dX12_mow_59 rfl ?_
    refine r_iald (pc := 60) (i := v2) (x := (h 95 v2)) dX12_mow_60 s0_95 ⟨by omega, by omega, (by decide)⟩ (zU_ne (by omega)) ?_
    obtain ⟨hb7, w⟩ := w
    refine r_iast (pc := 61) (i := (72 + v2)) (x := (h 95 v2)) dX12_mow_61 s0_92 ⟨hb7.1, hb7.2, (by decide)⟩  ?_
    refine r_iinc (pc := 62) (x := v2) (L' := [some (.ref 81), none, some (.int (zI (v2 + 1)))]) dX12_mow_62 rfl (by decide) rfl ?_
    refine r_goto (pc := 65) (tgt := 26) dX12_mow_65 (by decide) ?_
    exact w

set_option maxRecDepth 100000 in
set_option maxHeartbeats 4000000 in
theorem wX12_layCord {h : zMm} {K : zMm → Prop} {v1 : Int} (w : RR mX12_layCord 0 0 41 [some (.ref 81), some (.int (zI v1)), some (.int (zI 1)), none, none, none] [] zS0 (zU (zU (zU (zU (zU (zU h 97 0 (h 88 0)) 81 27 1) 81 28 0) 81 29 0) 81 30 (-4)) 81 31 (-4)) (zQv zS0 K)) : zCv mX12_layCord [.ref 81, .int (zI v1)] zS0 h K := by
  show RR mX12_layCord 0 0 0 [some (.ref 81), some (.int (zI v1)), none, none, none, none] [] zS0 h (zQv zS0 K)
  refine r_aload_n (pc := 0) (a := 81) dX12_layCord_0 rfl ?_
  refine r_getR (pc := 1) (b := 97) fl_X12_55 dX12_layCord_1 s0_81 rfl ?_
  refine r_iconst (pc := 4) dX12_layCord_4 ?_
  refine r_aload_n (pc := 5) (a := 81) dX12_layCord_5 rfl ?_
  refine r_getR (pc := 6) (b := 88) fl_X12_28 dX12_layCord_6 s0_81 rfl ?_
  refine r_iconst (pc := 9) dX12_layCord_9 ?_
  refine r_iald (pc := 10) (i := 0) (x := (h 88 0)) dX12_layCord_10 s0_88 (by decide) (rfl) ?_
  refine r_iast (pc := 11) (i := 0) (x := (h 88 0)) dX12_layCord_11 s0_97 (by decide)  ?_
  refine r_aload_n (pc := 12) (a := 81) dX12_layCord_12 rfl ?_
  refine r_iconst (pc := 13) dX12_layCord_13 ?_
  refine r_putI (pc := 14) (fi := 27) (x := 1) fl_X12_222 dX12_layCord_14 s0_81 rfl ?_
  refine r_aload_n (pc := 17) (a := 81) dX12_layCord_17 rfl ?_
  refine r_iconst (pc := 18) dX12_layCord_18 ?_
  refine r_putI (pc := 19) (fi := 28) (x := 0) fl_X12_225 dX12_layCord_19 s0_81 rfl ?_
  refine r_aload_n (pc := 22) (a := 81) dX12_layCord_22 rfl ?_
  refine r_iconst (pc := 23) dX12_layCord_23 ?_
  refine r_putI (pc := 24) (fi := 29) (x := 0) fl_X12_228 dX12_layCord_24 s0_81 rfl ?_
  refine r_aload_n (pc := 27) (a := 81) dX12_layCord_27 rfl ?_
  refine r_bipush (pc := 28) (x := (-4)) dX12_layCord_28 (by decide) ?_
  refine r_putI (pc := 30) (fi := 30) (x := (-4)) fl_X12_231 dX12_layCord_30 s0_81 rfl ?_
  refine r_aload_n (pc := 33) (a := 81) dX12_layCord_33 rfl ?_
  refine r_bipush (pc := 34) (x := (-4)) dX12_layCord_34 (by decide) ?_
  refine r_putI (pc := 36) (fi := 31) (x := (-4)) fl_X12_234 dX12_layCord_36 s0_81 rfl ?_
  refine r_iconst (pc := 39) dX12_layCord_39 ?_
  refine r_istore_n (pc := 40) (L' := [some (.ref 81), some (.int (zI v1)), some (.int (zI 1)), none, none, none]) dX12_layCord_40 (by decide) rfl ?_
  exact w

set_option maxRecDepth 100000 in
set_option maxHeartbeats 4000000 in
theorem bX12_layCord_41 {h : zMm} {K : zMm → Prop} {v1 : Int} {v2 : Int} (w : (zR v2 ∧ (zR v1 ∧ ((v1 < v2 → K h) ∧ (¬ v1 < v2 → ((0 ≤ v2 ∧ v2 < 121) ∧ (zR (h 81 27) ∧ (((h 81 27) ≤ 1 → RR mX12_layCord 0 0 95 [some (.ref 81), some (.int (zI v1)), some (.int (zI v2)), some (.int (zI (h 96 v2))), some (.int (zI 0)), some (.int (zI 0))] [] zS0 h (zQv zS0 K)) ∧ (¬ (h 81 27) ≤ 1 → ((0 ≤ ((h 81 27) - 2) ∧ ((h 81 27) - 2) < 121) ∧ (zR (h 97 ((h 81 27) - 2)) ∧ (zR (h 96 v2) ∧ ((¬ (h 97 ((h 81 27) - 2)) = (h 96 v2) → RR mX12_layCord 0 0 95 [some (.ref 81), some (.int (zI v1)), some (.int (zI v2)), some (.int (zI (h 96 v2))), some (.int (zI 0)), some (.int (zI 0))] [] zS0 h (zQv zS0 K)) ∧ ((h 97 ((h 81 27) - 2)) = (h 96 v2) → (zR (((h 81 27) - 1) - 1) ∧ (zR (h 81 29) ∧ (zR (h 88 5) ∧ (zR (h 81 31) ∧ RR mX12_layCord 0 0 41 [some (.ref 81), some (.int (zI v1)), some (.int (zI (v2 + 1))), none, none, none] [] zS0 (zU (zU (zU h 81 27 ((h 81 27) - 1)) 81 29 (if (((h 81 27) - 1) - 1) ≤ (h 81 29) then (h 81 29) else (((h 81 27) - 1) - 1))) 81 31 (if (((h 81 27) - 1) - 1) ≤ (h 88 5) then (h 81 31) else (if (h 81 31) = (-4) then v2 else (h 81 31)))) (zQv zS0 K))))))))))))))))))) : RR mX12_layCord 0 0 41 [some (.ref 81), some (.int (zI v1)), some (.int (zI v2)), none, none, none] [] zS0 h (zQv zS0 K) := by
  refine r_iload_n (pc := 41) (x := v2) dX12_layCord_41 rfl ?_
  refine r_iload_n (pc := 42) (x := v1) dX12_layCord_42 rfl ?_
  obtain ⟨hr1, w⟩ := w
  obtain ⟨hr2, w⟩ := w
  refine r_icmp_gt (pc := 43) (x := v2) (y := v1) (tgt := 270) dX12_layCord_43 (by decide) hr1 hr2 (fun c => ?_) (fun c => ?_)
  · have w := w.1 (c)
    exact r_ret (st := []) (pc := 270) dX12_layCord_270 rfl rfl (by decide) ⟨rfl, rfl, w⟩
  · have w := w.2 (c)
    refine r_aload_n (pc := 46) (a := 81) dX12_layCord_46 rfl ?_
    refine r_getR (pc := 47) (b := 96) fl_X12_52 dX12_layCord_47 s0_81 rfl ?_
    refine r_iload_n (pc := 50) (x := v2) dX12_layCord_50 rfl ?_
    obtain ⟨hb3, w⟩ := w
    refine r_iald (pc := 51) (i := v2) (x := (h 96 v2)) dX12_layCord_51 s0_96 ⟨hb3.1, hb3.2, (by decide)⟩ (rfl) ?_
    refine r_istore_n (pc := 52) (L' := [some (.ref 81), some (.int (zI v1)), some (.int (zI v2)), some (.int (zI (h 96 v2))), none, none]) dX12_layCord_52 (by decide) rfl ?_
    refine r_aload_n (pc := 53) (a := 81) dX12_layCord_53 rfl ?_
    refine r_getI (pc := 54) (fi := 27) (x := (h 81 27)) fl_X12_222 dX12_layCord_54 s0_81 rfl (rfl) ?_
    refine r_iconst (pc := 57) dX12_layCord_57 ?_
    obtain ⟨hr4, w⟩ := w
    refine r_icmp_le (pc := 58) (x := (h 81 27)) (y := 1) (tgt := 89) dX12_layCord_58 (by decide) hr4 (by decide) (fun c => ?_) (fun c => ?_)
    · have w := w.1 (c)
      refine r_iconst (pc := 89) dX12_layCord_89 ?_
      refine r_istore (pc := 90) (L' := [some (.ref 81), some (.int (zI v1)), some (.int (zI v2)), some (.int (zI (h 96 v2))), some (.int (zI 0)), none]) dX12_layCord_90 (by decide) rfl ?_
      refine r_iconst (pc := 92) dX12_layCord_92 ?_
      refine r_istore (pc := 93) (L' := [some (.ref 81), some (.int (zI v1)), some (.int (zI v2)), some (.int (zI (h 96 v2))), some (.int (zI 0)), some (.int (zI 0))]) dX12_layCord_93 (by decide) rfl ?_
      exact w
    · have w := w.2 (c)
      refine r_aload_n (pc := 61) (a := 81) dX12_layCord_61 rfl ?_
      refine r_getR (pc := 62) (b := 97) fl_X12_55 dX12_layCord_62 s0_81 rfl ?_
      refine r_aload_n (pc := 65) (a := 81) dX12_layCord_65 rfl ?_
      refine r_getI (pc := 66) (fi := 27) (x := (h 81 27)) fl_X12_222 dX12_layCord_66 s0_81 rfl (rfl) ?_
      refine r_iconst (pc := 69) dX12_layCord_69 ?_
      refine r_isub (pc := 70) (x := (h 81 27)) (y := 2) dX12_layCord_70 ?_
      obtain ⟨hb5, w⟩ := w
      refine r_iald (pc := 71) (i := ((h 81 27) - 2)) (x := (h 97 ((h 81 27) - 2))) dX12_layCord_71 s0_97 ⟨hb5.1, hb5.2, (by decide)⟩ (rfl) ?_
      refine r_iload_n (pc := 72) (x := (h 96 v2)) dX12_layCord_72 rfl ?_
      obtain ⟨hr6, w⟩ := w
      obtain ⟨hr7, w⟩ := w
      refine r_icmp_ne (pc := 73) (x := (h 97 ((h 81 27) - 2))) (y := (h 96 v2)) (tgt := 89) dX12_layCord_73 (by decide) hr6 hr7 (fun c => ?_) (fun c => ?_)
      · have w := w.1 (c)
        refine r_iconst (pc := 89) dX12_layCord_89 ?_
        refine r_istore (pc := 90) (L' := [some (.ref 81), some (.int (zI v1)), some (.int (zI v2)), some (.int (zI (h 96 v2))), some (.int (zI 0)), none]) dX12_layCord_90 (by decide) rfl ?_
        refine r_iconst (pc := 92) dX12_layCord_92 ?_
        refine r_istore (pc := 93) (L' := [some (.ref 81), some (.int (zI v1)), some (.int (zI v2)), some (.int (zI (h 96 v2))), some (.int (zI 0)), some (.int (zI 0))]) dX12_layCord_93 (by decide) rfl ?_
        exact w
      · have w := w.2 (c)
        refine r_aload_n (pc := 76) (a := 81) dX12_layCord_76 rfl ?_
        refine r_dup (pc := 77) rfl dX12_layCord_77 ?_
        refine r_getI (pc := 78) (fi := 27) (x := (h 81 27)) fl_X12_222 dX12_layCord_78 s0_81 rfl (rfl) ?_
        refine r_iconst (pc := 81) dX12_layCord_81 ?_
        refine r_isub (pc := 82) (x := (h 81 27)) (y := 1) dX12_layCord_82 ?_
        refine r_putI (pc := 83) (fi := 27) (x := ((h 81 27) - 1)) fl_X12_222 dX12_layCord_83 s0_81 rfl ?_
        refine r_goto (pc := 86) (tgt := 198) dX12_layCord_86 (by decide) ?_
        refine r_aload_n (pc := 198) (a := 81) dX12_layCord_198 rfl ?_
        refine r_aload_n (pc := 199) (a := 81) dX12_layCord_199 rfl ?_
        refine r_getI (pc := 200) (fi := 27) (x := ((h 81 27) - 1)) fl_X12_222 dX12_layCord_200 s0_81 rfl (zU_eq _ _ _ _) ?_
        refine r_iconst (pc := 203) dX12_layCord_203 ?_
        refine r_isub (pc := 204) (x := ((h 81 27) - 1)) (y := 1) dX12_layCord_204 ?_
        refine r_aload_n (pc := 205) (a := 81) dX12_layCord_205 rfl ?_
        refine r_getI (pc := 206) (fi := 29) (x := (h 81 29)) fl_X12_228 dX12_layCord_206 s0_81 rfl (zU_ne (by omega)) ?_
        obtain ⟨hr8, w⟩ := w
        obtain ⟨hr9, w⟩ := w
        have kk15 : RR mX12_layCord 0 0 225 [some (.ref 81), some (.int (zI v1)), some (.int (zI v2)), some (.int (zI (h 96 v2))), none, none] [.int (zI (if (((h 81 27) - 1) - 1) ≤ (h 81 29) then (h 81 29) else (((h 81 27) - 1) - 1))), .ref 81] zS0 (zU h 81 27 ((h 81 27) - 1)) (zQv zS0 K) := by
          refine r_putI (pc := 225) (fi := 29) (x := (if (((h 81 27) - 1) - 1) ≤ (h 81 29) then (h 81 29) else (((h 81 27) - 1) - 1))) fl_X12_228 dX12_layCord_225 s0_81 rfl ?_
          refine r_aload_n (pc := 228) (a := 81) dX12_layCord_228 rfl ?_
          refine r_aload_n (pc := 229) (a := 81) dX12_layCord_229 rfl ?_
          refine r_getI (pc := 230) (fi := 27) (x := ((h 81 27) - 1)) fl_X12_222 dX12_layCord_230 s0_81 rfl ((zU_ne (by omega)).trans (zU_eq _ _ _ _)) ?_
          refine r_iconst (pc := 233) dX12_layCord_233 ?_
          refine r_isub (pc := 234) (x := ((h 81 27) - 1)) (y := 1) dX12_layCord_234 ?_
          refine r_aload_n (pc := 235) (a := 81) dX12_layCord_235 rfl ?_
          refine r_getR (pc := 236) (b := 88) fl_X12_28 dX12_layCord_236 s0_81 rfl ?_
          refine r_iconst (pc := 239) dX12_layCord_239 ?_
          refine r_iald (pc := 240) (i := 5) (x := (h 88 5)) dX12_layCord_240 s0_88 (by decide) ((zU_ne (by omega)).trans (zU_ne (by omega))) ?_
          obtain ⟨hr10, w⟩ := w
          obtain ⟨hr12, w⟩ := w
          have kk14 : RR mX12_layCord 0 0 261 [some (.ref 81), some (.int (zI v1)), some (.int (zI v2)), some (.int (zI (h 96 v2))), none, none] [.int (zI (if (((h 81 27) - 1) - 1) ≤ (h 88 5) then (h 81 31) else (if (h 81 31) = (-4) then v2 else (h 81 31)))), .ref 81] zS0 (zU (zU h 81 27 ((h 81 27) - 1)) 81 29 (if (((h 81 27) - 1) - 1) ≤ (h 81 29) then (h 81 29) else (((h 81 27) - 1) - 1))) (zQv zS0 K) := by
            refine r_putI (pc := 261) (fi := 31) (x := (if (((h 81 27) - 1) - 1) ≤ (h 88 5) then (h 81 31) else (if (h 81 31) = (-4) then v2 else (h 81 31)))) fl_X12_234 dX12_layCord_261 s0_81 rfl ?_
            refine r_iinc (pc := 264) (x := v2) (L' := [some (.ref 81), some (.int (zI v1)), some (.int (zI (v2 + 1))), some (.int (zI (h 96 v2))), none, none]) dX12_layCord_264 rfl (by decide) rfl ?_
            refine r_goto (pc := 267) (tgt := 41) dX12_layCord_267 (by decide) ?_
            exact RR.sub (L' := [some (.ref 81), some (.int (zI v1)), some (.int (zI (v2 + 1))), none, none, none]) (zSb_of (⟨rfl, ⟨rfl, ⟨rfl, trivial⟩⟩⟩)) w
          refine r_icmp_le (pc := 241) (x := (((h 81 27) - 1) - 1)) (y := (h 88 5)) (tgt := 257) dX12_layCord_241 (by decide) hr8 hr10 (fun c => ?_) (fun c => ?_)
          · refine r_aload_n (pc := 257) (a := 81) dX12_layCord_257 rfl ?_
            refine r_getI (pc := 258) (fi := 31) (x := (h 81 31)) fl_X12_234 dX12_layCord_258 s0_81 rfl ((zU_ne (by omega)).trans (zU_ne (by omega))) ?_
            simp only [if_pos (c)] at kk14 ⊢
            exact kk14
          · refine r_aload_n (pc := 244) (a := 81) dX12_layCord_244 rfl ?_
            refine r_getI (pc := 245) (fi := 31) (x := (h 81 31)) fl_X12_234 dX12_layCord_245 s0_81 rfl ((zU_ne (by omega)).trans (zU_ne (by omega))) ?_
            refine r_bipush (pc := 248) (x := (-4)) dX12_layCord_248 (by decide) ?_
            refine r_icmp_ne (pc := 250) (x := (h 81 31)) (y := (-4)) (tgt := 257) dX12_layCord_250 (by decide) hr12 (by decide) (fun c13 => ?_) (fun c13 => ?_)
            · refine r_aload_n (pc := 257) (a := 81) dX12_layCord_257 rfl ?_
              refine r_getI (pc := 258) (fi := 31) (x := (h 81 31)) fl_X12_234 dX12_layCord_258 s0_81 rfl ((zU_ne (by omega)).trans (zU_ne (by omega))) ?_
              simp only [if_neg (c), if_neg (c13)] at kk14 ⊢
              exact kk14
            · refine r_iload_n (pc := 253) (x := v2) dX12_layCord_253 rfl ?_
              refine r_goto (pc := 254) (tgt := 261) dX12_layCord_254 (by decide) ?_
              simp only [if_neg (c), if_pos (c13)] at kk14 ⊢
              exact kk14
        refine r_icmp_le (pc := 209) (x := (((h 81 27) - 1) - 1)) (y := (h 81 29)) (tgt := 221) dX12_layCord_209 (by decide) hr8 hr9 (fun c => ?_) (fun c => ?_)
        · refine r_aload_n (pc := 221) (a := 81) dX12_layCord_221 rfl ?_
          refine r_getI (pc := 222) (fi := 29) (x := (h 81 29)) fl_X12_228 dX12_layCord_222 s0_81 rfl (zU_ne (by omega)) ?_
          simp only [if_pos (c)] at kk15 ⊢
          exact kk15
        · refine r_aload_n (pc := 212) (a := 81) dX12_layCord_212 rfl ?_
          refine r_getI (pc := 213) (fi := 27) (x := ((h 81 27) - 1)) fl_X12_222 dX12_layCord_213 s0_81 rfl (zU_eq _ _ _ _) ?_
          refine r_iconst (pc := 216) dX12_layCord_216 ?_
          refine r_isub (pc := 217) (x := ((h 81 27) - 1)) (y := 1) dX12_layCord_217 ?_
          refine r_goto (pc := 218) (tgt := 225) dX12_layCord_218 (by decide) ?_
          simp only [if_neg (c)] at kk15 ⊢
          exact kk15

set_option maxRecDepth 100000 in
set_option maxHeartbeats 4000000 in
theorem bX12_layCord_95 {h : zMm} {K : zMm → Prop} {v1 : Int} {v2 : Int} {v3 : Int} {v4 : Int} {v5 : Int} (w : (zR v5 ∧ (zR (h 81 27) ∧ (zR v4 ∧ (((h 81 27) ≤ v5 → (zR (h 81 30) ∧ ((0 ≤ (h 81 27) ∧ (h 81 27) < 121) ∧ (zR (((h 81 27) + 1) - 1) ∧ (zR (h 81 29) ∧ (zR (h 88 5) ∧ (zR (h 81 31) ∧ RR mX12_layCord 0 0 41 [some (.ref 81), some (.int (zI v1)), some (.int (zI (v2 + 1))), none, none, none] [] zS0 (zU (zU (zU (zU (zU (zU h 81 28 ((h 81 28) + (bI (if v4 = 0 then false else true)))) 81 30 (if v4 = 0 then (h 81 30) else (if (h 81 30) = (-4) then v2 else (h 81 30)))) 97 (h 81 27) v3) 81 27 ((h 81 27) + 1)) 81 29 (if (((h 81 27) + 1) - 1) ≤ (h 81 29) then (h 81 29) else (((h 81 27) + 1) - 1))) 81 31 (if (((h 81 27) + 1) - 1) ≤ (h 88 5) then (h 81 31) else (if (h 81 31) = (-4) then v2 else (h 81 31)))) (zQv zS0 K)))))))) ∧ (¬ (h 81 27) ≤ v5 → ((¬ v4 = 0 → RR mX12_layCord 0 0 95 [some (.ref 81), some (.int (zI v1)), some (.int (zI v2)), some (.int (zI v3)), some (.int (zI 1)), some (.int (zI (v5 + 1)))] [] zS0 h (zQv zS0 K)) ∧ (v4 = 0 → ((0 ≤ v5 ∧ v5 < 121) ∧ (zR (h 97 v5) ∧ (zR v3 ∧ RR mX12_layCord 0 0 95 [some (.ref 81), some (.int (zI v1)), some (.int (zI v2)), some (.int (zI v3)), some (.int (zI (bI (if (h 97 v5) = v3 then true else false)))), some (.int (zI (v5 + 1)))] [] zS0 h (zQv zS0 K)))))))))))) : RR mX12_layCord 0 0 95 [some (.ref 81), some (.int (zI v1)), some (.int (zI v2)), some (.int (zI v3)), some (.int (zI v4)), some (.int (zI v5))] [] zS0 h (zQv zS0 K) := by
  refine r_iload (pc := 95) (x := v5) dX12_layCord_95 rfl ?_
  refine r_aload_n (pc := 97) (a := 81) dX12_layCord_97 rfl ?_
  refine r_getI (pc := 98) (fi := 27) (x := (h 81 27)) fl_X12_222 dX12_layCord_98 s0_81 rfl (rfl) ?_
  obtain ⟨hr16, w⟩ := w
  obtain ⟨hr17, w⟩ := w
  obtain ⟨hr19, w⟩ := w
  refine r_icmp_ge (pc := 101) (x := v5) (y := (h 81 27)) (tgt := 133) dX12_layCord_101 (by decide) hr16 hr17 (fun c => ?_) (fun c => ?_)
  · have w := w.1 (c)
    refine r_aload_n (pc := 133) (a := 81) dX12_layCord_133 rfl ?_
    refine r_dup (pc := 134) rfl dX12_layCord_134 ?_
    refine r_getI (pc := 135) (fi := 28) (x := (h 81 28)) fl_X12_225 dX12_layCord_135 s0_81 rfl (rfl) ?_
    refine r_iload (pc := 138) (x := v4) dX12_layCord_138 rfl ?_
    have kk34 : RR mX12_layCord 0 0 148 [some (.ref 81), some (.int (zI v1)), some (.int (zI v2)), some (.int (zI v3)), some (.int (zI v4)), some (.int (zI v5))] [.int (zI (bI (if v4 = 0 then false else true))), .int (zI (h 81 28)), .ref 81] zS0 h (zQv zS0 K) := by
      refine r_iadd (pc := 148) (x := (h 81 28)) (y := (bI (if v4 = 0 then false else true))) dX12_layCord_148 ?_
      refine r_putI (pc := 149) (fi := 28) (x := ((h 81 28) + (bI (if v4 = 0 then false else true)))) fl_X12_225 dX12_layCord_149 s0_81 rfl ?_
      refine r_aload_n (pc := 152) (a := 81) dX12_layCord_152 rfl ?_
      refine r_iload (pc := 153) (x := v4) dX12_layCord_153 rfl ?_
      obtain ⟨hr22, w⟩ := w
      have kk33 : RR mX12_layCord 0 0 175 [some (.ref 81), some (.int (zI v1)), some (.int (zI v2)), some (.int (zI v3)), some (.int (zI v4)), some (.int (zI v5))] [.int (zI (if v4 = 0 then (h 81 30) else (if (h 81 30) = (-4) then v2 else (h 81 30)))), .ref 81] zS0 (zU h 81 28 ((h 81 28) + (bI (if v4 = 0 then false else true)))) (zQv zS0 K) := by
        refine r_putI (pc := 175) (fi := 30) (x := (if v4 = 0 then (h 81 30) else (if (h 81 30) = (-4) then v2 else (h 81 30)))) fl_X12_231 dX12_layCord_175 s0_81 rfl ?_
        refine r_aload_n (pc := 178) (a := 81) dX12_layCord_178 rfl ?_
        refine r_getR (pc := 179) (b := 97) fl_X12_55 dX12_layCord_179 s0_81 rfl ?_
        refine r_aload_n (pc := 182) (a := 81) dX12_layCord_182 rfl ?_
        refine r_getI (pc := 183) (fi := 27) (x := (h 81 27)) fl_X12_222 dX12_layCord_183 s0_81 rfl ((zU_ne (by omega)).trans (zU_ne (by omega))) ?_
        refine r_iload_n (pc := 186) (x := v3) dX12_layCord_186 rfl ?_
        obtain ⟨hb24, w⟩ := w
        refine r_iast (pc := 187) (i := (h 81 27)) (x := v3) dX12_layCord_187 s0_97 ⟨hb24.1, hb24.2, (by decide)⟩  ?_
        refine r_aload_n (pc := 188) (a := 81) dX12_layCord_188 rfl ?_
        refine r_dup (pc := 189) rfl dX12_layCord_189 ?_
        refine r_getI (pc := 190) (fi := 27) (x := (h 81 27)) fl_X12_222 dX12_layCord_190 s0_81 rfl ((zU_ne (by omega)).trans ((zU_ne (by omega)).trans (zU_ne (by omega)))) ?_
        refine r_iconst (pc := 193) dX12_layCord_193 ?_
        refine r_iadd (pc := 194) (x := (h 81 27)) (y := 1) dX12_layCord_194 ?_
        refine r_putI (pc := 195) (fi := 27) (x := ((h 81 27) + 1)) fl_X12_222 dX12_layCord_195 s0_81 rfl ?_
        refine r_aload_n (pc := 198) (a := 81) dX12_layCord_198 rfl ?_
        refine r_aload_n (pc := 199) (a := 81) dX12_layCord_199 rfl ?_
        refine r_getI (pc := 200) (fi := 27) (x := ((h 81 27) + 1)) fl_X12_222 dX12_layCord_200 s0_81 rfl (zU_eq _ _ _ _) ?_
        refine r_iconst (pc := 203) dX12_layCord_203 ?_
        refine r_isub (pc := 204) (x := ((h 81 27) + 1)) (y := 1) dX12_layCord_204 ?_
        refine r_aload_n (pc := 205) (a := 81) dX12_layCord_205 rfl ?_
        refine r_getI (pc := 206) (fi := 29) (x := (h 81 29)) fl_X12_228 dX12_layCord_206 s0_81 rfl ((zU_ne (by omega)).trans ((zU_ne (by omega)).trans ((zU_ne (by omega)).trans (zU_ne (by omega))))) ?_
        obtain ⟨hr25, w⟩ := w
        obtain ⟨hr26, w⟩ := w
        have kk32 : RR mX12_layCord 0 0 225 [some (.ref 81), some (.int (zI v1)), some (.int (zI v2)), some (.int (zI v3)), some (.int (zI v4)), some (.int (zI v5))] [.int (zI (if (((h 81 27) + 1) - 1) ≤ (h 81 29) then (h 81 29) else (((h 81 27) + 1) - 1))), .ref 81] zS0 (zU (zU (zU (zU h 81 28 ((h 81 28) + (bI (if v4 = 0 then false else true)))) 81 30 (if v4 = 0 then (h 81 30) else (if (h 81 30) = (-4) then v2 else (h 81 30)))) 97 (h 81 27) v3) 81 27 ((h 81 27) + 1)) (zQv zS0 K) := by
          refine r_putI (pc := 225) (fi := 29) (x := (if (((h 81 27) + 1) - 1) ≤ (h 81 29) then (h 81 29) else (((h 81 27) + 1) - 1))) fl_X12_228 dX12_layCord_225 s0_81 rfl ?_
          refine r_aload_n (pc := 228) (a := 81) dX12_layCord_228 rfl ?_
          refine r_aload_n (pc := 229) (a := 81) dX12_layCord_229 rfl ?_
          refine r_getI (pc := 230) (fi := 27) (x := ((h 81 27) + 1)) fl_X12_222 dX12_layCord_230 s0_81 rfl ((zU_ne (by omega)).trans (zU_eq _ _ _ _)) ?_
          refine r_iconst (pc := 233) dX12_layCord_233 ?_
          refine r_isub (pc := 234) (x := ((h 81 27) + 1)) (y := 1) dX12_layCord_234 ?_
          refine r_aload_n (pc := 235) (a := 81) dX12_layCord_235 rfl ?_
          refine r_getR (pc := 236) (b := 88) fl_X12_28 dX12_layCord_236 s0_81 rfl ?_
          refine r_iconst (pc := 239) dX12_layCord_239 ?_
          refine r_iald (pc := 240) (i := 5) (x := (h 88 5)) dX12_layCord_240 s0_88 (by decide) ((zU_ne (by omega)).trans ((zU_ne (by omega)).trans ((zU_ne (by omega)).trans ((zU_ne (by omega)).trans (zU_ne (by omega)))))) ?_
          obtain ⟨hr27, w⟩ := w
          obtain ⟨hr29, w⟩ := w
          have kk31 : RR mX12_layCord 0 0 261 [some (.ref 81), some (.int (zI v1)), some (.int (zI v2)), some (.int (zI v3)), some (.int (zI v4)), some (.int (zI v5))] [.int (zI (if (((h 81 27) + 1) - 1) ≤ (h 88 5) then (h 81 31) else (if (h 81 31) = (-4) then v2 else (h 81 31)))), .ref 81] zS0 (zU (zU (zU (zU (zU h 81 28 ((h 81 28) + (bI (if v4 = 0 then false else true)))) 81 30 (if v4 = 0 then (h 81 30) else (if (h 81 30) = (-4) then v2 else (h 81 30)))) 97 (h 81 27) v3) 81 27 ((h 81 27) + 1)) 81 29 (if (((h 81 27) + 1) - 1) ≤ (h 81 29) then (h 81 29) else (((h 81 27) + 1) - 1))) (zQv zS0 K) := by
            refine r_putI (pc := 261) (fi := 31) (x := (if (((h 81 27) + 1) - 1) ≤ (h 88 5) then (h 81 31) else (if (h 81 31) = (-4) then v2 else (h 81 31)))) fl_X12_234 dX12_layCord_261 s0_81 rfl ?_
            refine r_iinc (pc := 264) (x := v2) (L' := [some (.ref 81), some (.int (zI v1)), some (.int (zI (v2 + 1))), some (.int (zI v3)), some (.int (zI v4)), some (.int (zI v5))]) dX12_layCord_264 rfl (by decide) rfl ?_
            refine r_goto (pc := 267) (tgt := 41) dX12_layCord_267 (by decide) ?_
            exact RR.sub (L' := [some (.ref 81), some (.int (zI v1)), some (.int (zI (v2 + 1))), none, none, none]) (zSb_of (⟨rfl, ⟨rfl, ⟨rfl, trivial⟩⟩⟩)) w
          refine r_icmp_le (pc := 241) (x := (((h 81 27) + 1) - 1)) (y := (h 88 5)) (tgt := 257) dX12_layCord_241 (by decide) hr25 hr27 (fun c => ?_) (fun c => ?_)
          · refine r_aload_n (pc := 257) (a := 81) dX12_layCord_257 rfl ?_
            refine r_getI (pc := 258) (fi := 31) (x := (h 81 31)) fl_X12_234 dX12_layCord_258 s0_81 rfl ((zU_ne (by omega)).trans ((zU_ne (by omega)).trans ((zU_ne (by omega)).trans ((zU_ne (by omega)).trans (zU_ne (by omega)))))) ?_
            simp only [if_pos (c)] at kk31 ⊢
            exact kk31
          · refine r_aload_n (pc := 244) (a := 81) dX12_layCord_244 rfl ?_
            refine r_getI (pc := 245) (fi := 31) (x := (h 81 31)) fl_X12_234 dX12_layCord_245 s0_81 rfl ((zU_ne (by omega)).trans ((zU_ne (by omega)).trans ((zU_ne (by omega)).trans ((zU_ne (by omega)).trans (zU_ne (by omega)))))) ?_
            refine r_bipush (pc := 248) (x := (-4)) dX12_layCord_248 (by decide) ?_
            refine r_icmp_ne (pc := 250) (x := (h 81 31)) (y := (-4)) (tgt := 257) dX12_layCord_250 (by decide) hr29 (by decide) (fun c30 => ?_) (fun c30 => ?_)
            · refine r_aload_n (pc := 257) (a := 81) dX12_layCord_257 rfl ?_
              refine r_getI (pc := 258) (fi := 31) (x := (h 81 31)) fl_X12_234 dX12_layCord_258 s0_81 rfl ((zU_ne (by omega)).trans ((zU_ne (by omega)).trans ((zU_ne (by omega)).trans ((zU_ne (by omega)).trans (zU_ne (by omega)))))) ?_
              simp only [if_neg (c), if_neg (c30)] at kk31 ⊢
              exact kk31
            · refine r_iload_n (pc := 253) (x := v2) dX12_layCord_253 rfl ?_
              refine r_goto (pc := 254) (tgt := 261) dX12_layCord_254 (by decide) ?_
              simp only [if_neg (c), if_pos (c30)] at kk31 ⊢
              exact kk31
        refine r_icmp_le (pc := 209) (x := (((h 81 27) + 1) - 1)) (y := (h 81 29)) (tgt := 221) dX12_layCord_209 (by decide) hr25 hr26 (fun c => ?_) (fun c => ?_)
        · refine r_aload_n (pc := 221) (a := 81) dX12_layCord_221 rfl ?_
          refine r_getI (pc := 222) (fi := 29) (x := (h 81 29)) fl_X12_228 dX12_layCord_222 s0_81 rfl ((zU_ne (by omega)).trans ((zU_ne (by omega)).trans ((zU_ne (by omega)).trans (zU_ne (by omega))))) ?_
          simp only [if_pos (c)] at kk32 ⊢
          exact kk32
        · refine r_aload_n (pc := 212) (a := 81) dX12_layCord_212 rfl ?_
          refine r_getI (pc := 213) (fi := 27) (x := ((h 81 27) + 1)) fl_X12_222 dX12_layCord_213 s0_81 rfl (zU_eq _ _ _ _) ?_
          refine r_iconst (pc := 216) dX12_layCord_216 ?_
          refine r_isub (pc := 217) (x := ((h 81 27) + 1)) (y := 1) dX12_layCord_217 ?_
          refine r_goto (pc := 218) (tgt := 225) dX12_layCord_218 (by decide) ?_
          simp only [if_neg (c)] at kk32 ⊢
          exact kk32
      refine r_if_eq (pc := 155) (x := v4) (tgt := 171) dX12_layCord_155 (by decide) hr19 (fun c => ?_) (fun c => ?_)
      · refine r_aload_n (pc := 171) (a := 81) dX12_layCord_171 rfl ?_
        refine r_getI (pc := 172) (fi := 30) (x := (h 81 30)) fl_X12_231 dX12_layCord_172 s0_81 rfl (zU_ne (by omega)) ?_
        simp only [if_pos (c)] at kk33 ⊢
        exact kk33
      · refine r_aload_n (pc := 158) (a := 81) dX12_layCord_158 rfl ?_
        refine r_getI (pc := 159) (fi := 30) (x := (h 81 30)) fl_X12_231 dX12_layCord_159 s0_81 rfl (zU_ne (by omega)) ?_
        refine r_bipush (pc := 162) (x := (-4)) dX12_layCord_162 (by decide) ?_
        refine r_icmp_ne (pc := 164) (x := (h 81 30)) (y := (-4)) (tgt := 171) dX12_layCord_164 (by decide) hr22 (by decide) (fun c23 => ?_) (fun c23 => ?_)
        · refine r_aload_n (pc := 171) (a := 81) dX12_layCord_171 rfl ?_
          refine r_getI (pc := 172) (fi := 30) (x := (h 81 30)) fl_X12_231 dX12_layCord_172 s0_81 rfl (zU_ne (by omega)) ?_
          simp only [if_neg (c), if_neg (c23)] at kk33 ⊢
          exact kk33
        · refine r_iload_n (pc := 167) (x := v2) dX12_layCord_167 rfl ?_
          refine r_goto (pc := 168) (tgt := 175) dX12_layCord_168 (by decide) ?_
          simp only [if_neg (c), if_pos (c23)] at kk33 ⊢
          exact kk33
    refine r_if_eq (pc := 140) (x := v4) (tgt := 147) dX12_layCord_140 (by decide) hr19 (fun c => ?_) (fun c => ?_)
    · refine r_iconst (pc := 147) dX12_layCord_147 ?_
      simp only [if_pos (c)] at kk34 ⊢
      exact kk34
    · refine r_iconst (pc := 143) dX12_layCord_143 ?_
      refine r_goto (pc := 144) (tgt := 148) dX12_layCord_144 (by decide) ?_
      simp only [if_neg (c)] at kk34 ⊢
      exact kk34
  · have w := w.2 (c)
    refine r_iload (pc := 104) (x := v4) dX12_layCord_104 rfl ?_
    refine r_if_ne (pc := 106) (x := v4) (tgt := 120) dX12_layCord_106 (by decide) hr19 (fun c => ?_) (fun c => ?_)
    · have w := w.1 (c)
      refine r_iconst (pc := 120) dX12_layCord_120 ?_
      refine r_goto (pc := 121) (tgt := 125) dX12_layCord_121 (by decide) ?_
      refine r_istore (pc := 125) (L' := [some (.ref 81), some (.int (zI v1)), some (.int (zI v2)), some (.int (zI v3)), some (.int (zI 1)), some (.int (zI v5))]) dX12_layCord_125 (by decide) rfl ?_
      refine r_iinc (pc := 127) (x := v5) (L' := [some (.ref 81), some (.int (zI v1)), some (.int (zI v2)), some (.int (zI v3)), some (.int (zI 1)), some (.int (zI (v5 + 1)))]) dX12_layCord_127 rfl (by decide) rfl ?_
      refine r_goto (pc := 130) (tgt := 95) dX12_layCord_130 (by decide) ?_
      exact w
    · have w := w.2 (c)
      refine r_aload_n (pc := 109) (a := 81) dX12_layCord_109 rfl ?_
      refine r_getR (pc := 110) (b := 97) fl_X12_55 dX12_layCord_110 s0_81 rfl ?_
      refine r_iload (pc := 113) (x := v5) dX12_layCord_113 rfl ?_
      obtain ⟨hb35, w⟩ := w
      refine r_iald (pc := 115) (i := v5) (x := (h 97 v5)) dX12_layCord_115 s0_97 ⟨hb35.1, hb35.2, (by decide)⟩ (rfl) ?_
      refine r_iload_n (pc := 116) (x := v3) dX12_layCord_116 rfl ?_
      obtain ⟨hr36, w⟩ := w
      obtain ⟨hr37, w⟩ := w
      have kk38 : RR mX12_layCord 0 0 125 [some (.ref 81), some (.int (zI v1)), some (.int (zI v2)), some (.int (zI v3)), some (.int (zI v4)), some (.int (zI v5))] [.int (zI (bI (if (h 97 v5) = v3 then true else false)))] zS0 h (zQv zS0 K) := by
        refine r_istore (pc := 125) (L' := [some (.ref 81), some (.int (zI v1)), some (.int (zI v2)), some (.int (zI v3)), some (.int (zI (bI (if (h 97 v5) = v3 then true else false)))), some (.int (zI v5))]) dX12_layCord_125 (by decide) rfl ?_
        refine r_iinc (pc := 127) (x := v5) (L' := [some (.ref 81), some (.int (zI v1)), some (.int (zI v2)), some (.int (zI v3)), some (.int (zI (bI (if (h 97 v5) = v3 then true else false)))), some (.int (zI (v5 + 1)))]) dX12_layCord_127 rfl (by decide) rfl ?_
        refine r_goto (pc := 130) (tgt := 95) dX12_layCord_130 (by decide) ?_
        exact w
      refine r_icmp_ne (pc := 117) (x := (h 97 v5)) (y := v3) (tgt := 124) dX12_layCord_117 (by decide) hr36 hr37 (fun c => ?_) (fun c => ?_)
      · refine r_iconst (pc := 124) dX12_layCord_124 ?_
        simp only [if_neg (c)] at kk38 ⊢
        exact kk38
      · refine r_iconst (pc := 120) dX12_layCord_120 ?_
        refine r_goto (pc := 121) (tgt := 125) dX12_layCord_121 (by decide) ?_
        simp only [if_pos (c)] at kk38 ⊢
        exact kk38

set_option maxRecDepth 100000 in
set_option maxHeartbeats 4000000 in
theorem wX12_cord {h : zMm} {K : Int → zMm → Prop} {v1 : Int} {v2 : Int} (w : zCv mX12_awake [.ref 81] zS0 h (fun h1 => zCv mX12_walks [.ref 81, .int (zI 0), .int (zI (h1 88 3))] zS0 h1 (fun h2 => (zR v1 ∧ (zR (h2 93 2) ∧ zCb mX12_in [.long (zJ v1), .long (zJ 0), .long (zJ (h2 93 2))] zS0 h2 (fun b5 h5 => ((b5 = false → K (-1) h5) ∧ (b5 = true → (zR v2 ∧ zCb mX12_in [.long (zJ v2), .long (zJ 0), .long (zJ 3)] zS0 h5 (fun b7 h7 => ((b7 = true → zCv mX12_layCord [.ref 81, .int (zI v1)] zS0 h7 (fun h8 => RR mX12_cord 0 0 57 [some (.ref 81), none, some (.int (zI v2)), some (.long (zJ 0)), none, some (.int (zI 0))] [] zS0 h8 (zQl zS0 K))) ∧ (b7 = false → K (-1) h7)))))))))))) : zCl mX12_cord [.ref 81, .int (zI v1), .int (zI v2)] zS0 h K := by
  show RR mX12_cord 0 0 0 [some (.ref 81), some (.int (zI v1)), some (.int (zI v2)), none, none, none] [] zS0 h (zQl zS0 K)
  refine r_aload_n (pc := 0) (a := 81) dX12_cord_0 rfl ?_
  refine r_callV (μ2 := mX12_awake) (pc := 1) (as := []) (st := []) rfl s0_81 ml_X12_175 im_X12_awake se_X12_awake okX12_awake ⟨by decide, by decide⟩ dX12_cord_1 (Nat.le_of_ble_eq_true rfl) rfl (Nat.le_of_ble_eq_true rfl) (by decide) (by decide) (zCC.mono w ?_)
  rintro r S' h1 ⟨rfl, hr, w⟩
  subst hr
  show RR mX12_cord 0 0 4 [some (.ref 81), some (.int (zI v1)), some (.int (zI v2)), none, none, none] [] zS0 h1 (zQl zS0 K)
  refine r_aload_n (pc := 4) (a := 81) dX12_cord_4 rfl ?_
  refine r_iconst (pc := 5) dX12_cord_5 ?_
  refine r_aload_n (pc := 6) (a := 81) dX12_cord_6 rfl ?_
  refine r_getR (pc := 7) (b := 88) fl_X12_28 dX12_cord_7 s0_81 rfl ?_
  refine r_iconst (pc := 10) dX12_cord_10 ?_
  refine r_iald (pc := 11) (i := 3) (x := (h1 88 3)) dX12_cord_11 s0_88 (by decide) (rfl) ?_
  refine r_callV (μ2 := mX12_walks) (pc := 12) (as := [.int (zI 0), .int (zI (h1 88 3))]) (st := []) rfl s0_81 ml_X12_219 im_X12_walks se_X12_walks okX12_walks ⟨by decide, by decide⟩ dX12_cord_12 (Nat.le_of_ble_eq_true rfl) rfl (Nat.le_of_ble_eq_true rfl) (by decide) (by decide) (zCC.mono w ?_)
  rintro r S' h2 ⟨rfl, hr, w⟩
  subst hr
  show RR mX12_cord 0 0 15 [some (.ref 81), some (.int (zI v1)), some (.int (zI v2)), none, none, none] [] zS0 h2 (zQl zS0 K)
  refine r_iload_n (pc := 15) (x := v1) dX12_cord_15 rfl ?_
  obtain ⟨hr3, w⟩ := w
  refine r_i2l (pc := 16) (x := v1) dX12_cord_16 hr3 ?_
  refine r_lconst (pc := 17) (x := 0) dX12_cord_17 rfl ?_
  refine r_aload_n (pc := 18) (a := 81) dX12_cord_18 rfl ?_
  refine r_getR (pc := 19) (b := 93) fl_X12_43 dX12_cord_19 s0_81 rfl ?_
  refine r_iconst (pc := 22) dX12_cord_22 ?_
  refine r_iald (pc := 23) (i := 2) (x := (h2 93 2)) dX12_cord_23 s0_93 (by decide) (rfl) ?_
  obtain ⟨hr4, w⟩ := w
  refine r_i2l (pc := 24) (x := (h2 93 2)) dX12_cord_24 hr4 ?_
  refine r_callS (μ2 := mX12_in) (pc := 25) (as := [.long (zJ v1), .long (zJ 0), .long (zJ (h2 93 2))]) (st := []) ml_X12_94 sm_X12_in okX12_in ⟨by decide, by decide⟩ dX12_cord_25 (Nat.le_of_ble_eq_true rfl) rfl (Nat.le_of_ble_eq_true rfl) (by decide) (by decide) (zCC.mono w ?_)
  rintro r S' h5 ⟨rfl, b5, hr, w⟩
  subst hr
  show RR mX12_cord 0 0 28 [some (.ref 81), some (.int (zI v1)), some (.int (zI v2)), none, none, none] [.int (zI (bI b5))] zS0 h5 (zQl zS0 K)
  refine r_if_eq (pc := 28) (x := (bI b5)) (tgt := 43) dX12_cord_28 (by decide) (bI_R _) (fun c => ?_) (fun c => ?_)
  · have w := w.1 (bI_0.mp c)
    refine r_ldcL (pc := 43) (x := (-1)) dX12_cord_43 kl_X12_237 ?_
    exact r_lret (st := []) (pc := 46) (x := (-1)) dX12_cord_46 rfl rfl (by decide) ⟨rfl, _, rfl, w⟩
  · have w := w.2 (bI_n.mp c)
    refine r_iload_n (pc := 31) (x := v2) dX12_cord_31 rfl ?_
    obtain ⟨hr6, w⟩ := w
    refine r_i2l (pc := 32) (x := v2) dX12_cord_32 hr6 ?_
    refine r_lconst (pc := 33) (x := 0) dX12_cord_33 rfl ?_
    refine r_ldcL (pc := 34) (x := 3) dX12_cord_34 kl_X12_182 ?_
    refine r_callS (μ2 := mX12_in) (pc := 37) (as := [.long (zJ v2), .long (zJ 0), .long (zJ 3)]) (st := []) ml_X12_94 sm_X12_in okX12_in ⟨by decide, by decide⟩ dX12_cord_37 (Nat.le_of_ble_eq_true rfl) rfl (Nat.le_of_ble_eq_true rfl) (by decide) (by decide) (zCC.mono w ?_)
    rintro r S' h7 ⟨rfl, b7, hr, w⟩
    subst hr
    show RR mX12_cord 0 0 40 [some (.ref 81), some (.int (zI v1)), some (.int (zI v2)), none, none, none] [.int (zI (bI b7))] zS0 h7 (zQl zS0 K)
    refine r_if_ne (pc := 40) (x := (bI b7)) (tgt := 47) dX12_cord_40 (by decide) (bI_R _) (fun c => ?_) (fun c => ?_)
    · have w := w.1 (bI_n.mp c)
      refine r_aload_n (pc := 47) (a := 81) dX12_cord_47 rfl ?_
      refine r_iload_n (pc := 48) (x := v1) dX12_cord_48 rfl ?_
      refine r_callV (μ2 := mX12_layCord) (pc := 49) (as := [.int (zI v1)]) (st := []) rfl s0_81 ml_X12_239 im_X12_layCord se_X12_layCord okX12_layCord ⟨by decide, by decide⟩ dX12_cord_49 (Nat.le_of_ble_eq_true rfl) rfl (Nat.le_of_ble_eq_true rfl) (by decide) (by decide) (zCC.mono w ?_)
      rintro r S' h8 ⟨rfl, hr, w⟩
      subst hr
      show RR mX12_cord 0 0 52 [some (.ref 81), some (.int (zI v1)), some (.int (zI v2)), none, none, none] [] zS0 h8 (zQl zS0 K)
      refine r_lconst (pc := 52) (x := 0) dX12_cord_52 rfl ?_
      refine r_lstore_n (pc := 53) (L' := [some (.ref 81), some (.int (zI v1)), some (.int (zI v2)), some (.long (zJ 0)), none, none]) dX12_cord_53 (by decide) rfl ?_
      refine r_iconst (pc := 54) dX12_cord_54 ?_
      refine r_istore (pc := 55) (L' := [some (.ref 81), some (.int (zI v1)), some (.int (zI v2)), some (.long (zJ 0)), none, some (.int (zI 0))]) dX12_cord_55 (by decide) rfl ?_
      exact RR.sub (L' := [some (.ref 81), none, some (.int (zI v2)), some (.long (zJ 0)), none, some (.int (zI 0))]) (zSb_of (⟨rfl, ⟨rfl, ⟨rfl, ⟨rfl, trivial⟩⟩⟩⟩)) w
    · have w := w.2 (bI_0.mp c)
      refine r_ldcL (pc := 43) (x := (-1)) dX12_cord_43 kl_X12_237 ?_
      exact r_lret (st := []) (pc := 46) (x := (-1)) dX12_cord_46 rfl rfl (by decide) ⟨rfl, _, rfl, w⟩

set_option maxRecDepth 100000 in
set_option maxHeartbeats 4000000 in
theorem bX12_cord_57 {h : zMm} {K : Int → zMm → Prop} {v2 : Int} {v3 : Int} {v5 : Int} (w : (zR v5 ∧ (zR (h 81 27) ∧ (((h 81 27) ≤ v5 → (zR v2 ∧ ((¬ v2 = 0 → ((¬ v2 = 1 → ((¬ v2 = 2 → (zR (h 81 29) ∧ K (h 81 29) h)) ∧ (v2 = 2 → (zR (h 81 28) ∧ K (h 81 28) h)))) ∧ (v2 = 1 → K v3 h))) ∧ (v2 = 0 → (zR ((h 81 27) - 1) ∧ K ((h 81 27) - 1) h))))) ∧ (¬ (h 81 27) ≤ v5 → ((0 ≤ v5 ∧ v5 < 121) ∧ RR mX12_cord 0 0 57 [some (.ref 81), none, some (.int (zI v2)), some (.long (zJ (lO v3 (lSl 1 (h 97 v5))))), none, some (.int (zI (v5 + 1)))] [] zS0 h (zQl zS0 K))))))) : RR mX12_cord 0 0 57 [some (.ref 81), none, some (.int (zI v2)), some (.long (zJ v3)), none, some (.int (zI v5))] [] zS0 h (zQl zS0 K) := by
  refine r_iload (pc := 57) (x := v5) dX12_cord_57 rfl ?_
  refine r_aload_n (pc := 59) (a := 81) dX12_cord_59 rfl ?_
  refine r_getI (pc := 60) (fi := 27) (x := (h 81 27)) fl_X12_222 dX12_cord_60 s0_81 rfl (rfl) ?_
  obtain ⟨hr9, w⟩ := w
  obtain ⟨hr10, w⟩ := w
  refine r_icmp_ge (pc := 63) (x := v5) (y := (h 81 27)) (tgt := 84) dX12_cord_63 (by decide) hr9 hr10 (fun c => ?_) (fun c => ?_)
  · have w := w.1 (c)
    refine r_iload_n (pc := 84) (x := v2) dX12_cord_84 rfl ?_
    obtain ⟨hr11, w⟩ := w
    refine r_if_ne (pc := 85) (x := v2) (tgt := 98) dX12_cord_85 (by decide) hr11 (fun c => ?_) (fun c => ?_)
    · have w := w.1 (c)
      refine r_iload_n (pc := 98) (x := v2) dX12_cord_98 rfl ?_
      refine r_iconst (pc := 99) dX12_cord_99 ?_
      refine r_icmp_ne (pc := 100) (x := v2) (y := 1) (tgt := 107) dX12_cord_100 (by decide) hr11 (by decide) (fun c => ?_) (fun c => ?_)
      · have w := w.1 (c)
        refine r_iload_n (pc := 107) (x := v2) dX12_cord_107 rfl ?_
        refine r_iconst (pc := 108) dX12_cord_108 ?_
        refine r_icmp_ne (pc := 109) (x := v2) (y := 2) (tgt := 120) dX12_cord_109 (by decide) hr11 (by decide) (fun c => ?_) (fun c => ?_)
        · have w := w.1 (c)
          refine r_aload_n (pc := 120) (a := 81) dX12_cord_120 rfl ?_
          refine r_getI (pc := 121) (fi := 29) (x := (h 81 29)) fl_X12_228 dX12_cord_121 s0_81 rfl (rfl) ?_
          obtain ⟨hr15, w⟩ := w
          refine r_i2l (pc := 124) (x := (h 81 29)) dX12_cord_124 hr15 ?_
          exact r_lret (st := []) (pc := 125) (x := (h 81 29)) dX12_cord_125 rfl rfl (by decide) ⟨rfl, _, rfl, w⟩
        · have w := w.2 (c)
          refine r_aload_n (pc := 112) (a := 81) dX12_cord_112 rfl ?_
          refine r_getI (pc := 113) (fi := 28) (x := (h 81 28)) fl_X12_225 dX12_cord_113 s0_81 rfl (rfl) ?_
          obtain ⟨hr16, w⟩ := w
          refine r_i2l (pc := 116) (x := (h 81 28)) dX12_cord_116 hr16 ?_
          refine r_goto (pc := 117) (tgt := 125) dX12_cord_117 (by decide) ?_
          exact r_lret (st := []) (pc := 125) (x := (h 81 28)) dX12_cord_125 rfl rfl (by decide) ⟨rfl, _, rfl, w⟩
      · have w := w.2 (c)
        refine r_lload_n (pc := 103) (x := v3) dX12_cord_103 rfl ?_
        refine r_goto (pc := 104) (tgt := 125) dX12_cord_104 (by decide) ?_
        exact r_lret (st := []) (pc := 125) (x := v3) dX12_cord_125 rfl rfl (by decide) ⟨rfl, _, rfl, w⟩
    · have w := w.2 (c)
      refine r_aload_n (pc := 88) (a := 81) dX12_cord_88 rfl ?_
      refine r_getI (pc := 89) (fi := 27) (x := (h 81 27)) fl_X12_222 dX12_cord_89 s0_81 rfl (rfl) ?_
      refine r_iconst (pc := 92) dX12_cord_92 ?_
      refine r_isub (pc := 93) (x := (h 81 27)) (y := 1) dX12_cord_93 ?_
      obtain ⟨hr17, w⟩ := w
      refine r_i2l (pc := 94) (x := ((h 81 27) - 1)) dX12_cord_94 hr17 ?_
      refine r_goto (pc := 95) (tgt := 125) dX12_cord_95 (by decide) ?_
      exact r_lret (st := []) (pc := 125) (x := ((h 81 27) - 1)) dX12_cord_125 rfl rfl (by decide) ⟨rfl, _, rfl, w⟩
  · have w := w.2 (c)
    refine r_lload_n (pc := 66) (x := v3) dX12_cord_66 rfl ?_
    refine r_lconst (pc := 67) (x := 1) dX12_cord_67 rfl ?_
    refine r_aload_n (pc := 68) (a := 81) dX12_cord_68 rfl ?_
    refine r_getR (pc := 69) (b := 97) fl_X12_55 dX12_cord_69 s0_81 rfl ?_
    refine r_iload (pc := 72) (x := v5) dX12_cord_72 rfl ?_
    obtain ⟨hb18, w⟩ := w
    refine r_iald (pc := 74) (i := v5) (x := (h 97 v5)) dX12_cord_74 s0_97 ⟨hb18.1, hb18.2, (by decide)⟩ (rfl) ?_
    refine r_lshl (pc := 75) (x := 1) (y := (h 97 v5)) dX12_cord_75 ?_
    refine r_lor (pc := 76) (x := v3) (y := (lSl 1 (h 97 v5))) dX12_cord_76 ?_
    refine r_lstore_n (pc := 77) (L' := [some (.ref 81), none, some (.int (zI v2)), some (.long (zJ (lO v3 (lSl 1 (h 97 v5))))), none, some (.int (zI v5))]) dX12_cord_77 (by decide) rfl ?_
    refine r_iinc (pc := 78) (x := v5) (L' := [some (.ref 81), none, some (.int (zI v2)), some (.long (zJ (lO v3 (lSl 1 (h 97 v5))))), none, some (.int (zI (v5 + 1)))]) dX12_cord_78 rfl (by decide) rfl ?_
    refine r_goto (pc := 81) (tgt := 57) dX12_cord_81 (by decide) ?_
    exact w

set_option maxRecDepth 100000 in
set_option maxHeartbeats 4000000 in
theorem wX12_trips {h : zMm} {K : Int → zMm → Prop} {v1 : Int} (w : zCv mX12_awake [.ref 81] zS0 h (fun h1 => (zR v1 ∧ zCb mX12_in [.long (zJ v1), .long (zJ 0), .long (zJ 1)] zS0 h1 (fun b3 h3 => ((b3 = true → zCv mX12_walks [.ref 81, .int (zI 0), .int (zI (h3 88 3))] zS0 h3 (fun h4 => zCv mX12_layCord [.ref 81, .int (zI (h4 93 2))] zS0 h4 (fun h5 => K (if v1 = 0 then (h5 81 30) else (h5 81 31)) h5))) ∧ (b3 = false → K (-1) h3)))))) : zCi mX12_trips [.ref 81, .int (zI v1)] zS0 h K := by
  show RR mX12_trips 0 0 0 [some (.ref 81), some (.int (zI v1))] [] zS0 h (zQi zS0 K)
  refine r_aload_n (pc := 0) (a := 81) dX12_trips_0 rfl ?_
  refine r_callV (μ2 := mX12_awake) (pc := 1) (as := []) (st := []) rfl s0_81 ml_X12_175 im_X12_awake se_X12_awake okX12_awake ⟨by decide, by decide⟩ dX12_trips_1 (Nat.le_of_ble_eq_true rfl) rfl (Nat.le_of_ble_eq_true rfl) (by decide) (by decide) (zCC.mono w ?_)
  rintro r S' h1 ⟨rfl, hr, w⟩
  subst hr
  show RR mX12_trips 0 0 4 [some (.ref 81), some (.int (zI v1))] [] zS0 h1 (zQi zS0 K)
  refine r_iload_n (pc := 4) (x := v1) dX12_trips_4 rfl ?_
  obtain ⟨hr2, w⟩ := w
  refine r_i2l (pc := 5) (x := v1) dX12_trips_5 hr2 ?_
  refine r_lconst (pc := 6) (x := 0) dX12_trips_6 rfl ?_
  refine r_lconst (pc := 7) (x := 1) dX12_trips_7 rfl ?_
  refine r_callS (μ2 := mX12_in) (pc := 8) (as := [.long (zJ v1), .long (zJ 0), .long (zJ 1)]) (st := []) ml_X12_94 sm_X12_in okX12_in ⟨by decide, by decide⟩ dX12_trips_8 (Nat.le_of_ble_eq_true rfl) rfl (Nat.le_of_ble_eq_true rfl) (by decide) (by decide) (zCC.mono w ?_)
  rintro r S' h3 ⟨rfl, b3, hr, w⟩
  subst hr
  show RR mX12_trips 0 0 11 [some (.ref 81), some (.int (zI v1))] [.int (zI (bI b3))] zS0 h3 (zQi zS0 K)
  refine r_if_ne (pc := 11) (x := (bI b3)) (tgt := 16) dX12_trips_11 (by decide) (bI_R _) (fun c => ?_) (fun c => ?_)
  · have w := w.1 (bI_n.mp c)
    refine r_aload_n (pc := 16) (a := 81) dX12_trips_16 rfl ?_
    refine r_iconst (pc := 17) dX12_trips_17 ?_
    refine r_aload_n (pc := 18) (a := 81) dX12_trips_18 rfl ?_
    refine r_getR (pc := 19) (b := 88) fl_X12_28 dX12_trips_19 s0_81 rfl ?_
    refine r_iconst (pc := 22) dX12_trips_22 ?_
    refine r_iald (pc := 23) (i := 3) (x := (h3 88 3)) dX12_trips_23 s0_88 (by decide) (rfl) ?_
    refine r_callV (μ2 := mX12_walks) (pc := 24) (as := [.int (zI 0), .int (zI (h3 88 3))]) (st := []) rfl s0_81 ml_X12_219 im_X12_walks se_X12_walks okX12_walks ⟨by decide, by decide⟩ dX12_trips_24 (Nat.le_of_ble_eq_true rfl) rfl (Nat.le_of_ble_eq_true rfl) (by decide) (by decide) (zCC.mono w ?_)
    rintro r S' h4 ⟨rfl, hr, w⟩
    subst hr
    show RR mX12_trips 0 0 27 [some (.ref 81), some (.int (zI v1))] [] zS0 h4 (zQi zS0 K)
    refine r_aload_n (pc := 27) (a := 81) dX12_trips_27 rfl ?_
    refine r_aload_n (pc := 28) (a := 81) dX12_trips_28 rfl ?_
    refine r_getR (pc := 29) (b := 93) fl_X12_43 dX12_trips_29 s0_81 rfl ?_
    refine r_iconst (pc := 32) dX12_trips_32 ?_
    refine r_iald (pc := 33) (i := 2) (x := (h4 93 2)) dX12_trips_33 s0_93 (by decide) (rfl) ?_
    refine r_callV (μ2 := mX12_layCord) (pc := 34) (as := [.int (zI (h4 93 2))]) (st := []) rfl s0_81 ml_X12_239 im_X12_layCord se_X12_layCord okX12_layCord ⟨by decide, by decide⟩ dX12_trips_34 (Nat.le_of_ble_eq_true rfl) rfl (Nat.le_of_ble_eq_true rfl) (by decide) (by decide) (zCC.mono w ?_)
    rintro r S' h5 ⟨rfl, hr, w⟩
    subst hr
    show RR mX12_trips 0 0 37 [some (.ref 81), some (.int (zI v1))] [] zS0 h5 (zQi zS0 K)
    refine r_iload_n (pc := 37) (x := v1) dX12_trips_37 rfl ?_
    have kk6 : RR mX12_trips 0 0 52 [some (.ref 81), some (.int (zI v1))] [.int (zI (if v1 = 0 then (h5 81 30) else (h5 81 31)))] zS0 h5 (zQi zS0 K) := by
      exact r_iret (st := []) (pc := 52) (x := (if v1 = 0 then (h5 81 30) else (h5 81 31))) (ty := .int) dX12_trips_52 rfl rfl rfl (by decide) ⟨rfl, _, rfl, w⟩
    refine r_if_ne (pc := 38) (x := v1) (tgt := 48) dX12_trips_38 (by decide) hr2 (fun c => ?_) (fun c => ?_)
    · refine r_aload_n (pc := 48) (a := 81) dX12_trips_48 rfl ?_
      refine r_getI (pc := 49) (fi := 31) (x := (h5 81 31)) fl_X12_234 dX12_trips_49 s0_81 rfl (rfl) ?_
      simp only [if_neg (c)] at kk6 ⊢
      exact kk6
    · refine r_aload_n (pc := 41) (a := 81) dX12_trips_41 rfl ?_
      refine r_getI (pc := 42) (fi := 30) (x := (h5 81 30)) fl_X12_231 dX12_trips_42 s0_81 rfl (rfl) ?_
      refine r_goto (pc := 45) (tgt := 52) dX12_trips_45 (by decide) ?_
      simp only [if_pos (c)] at kk6 ⊢
      exact kk6
  · have w := w.2 (bI_0.mp c)
    refine r_iconst (pc := 14) dX12_trips_14 ?_
    exact r_iret (st := []) (pc := 15) (x := (-1)) (ty := .int) dX12_trips_15 rfl rfl rfl (by decide) ⟨rfl, _, rfl, w⟩

set_option maxRecDepth 100000 in
set_option maxHeartbeats 4000000 in
theorem wX12_begin {h : zMm} {K : Int → zMm → Prop} (w : zCv mX12_awake [.ref 81] zS0 h (fun h1 => RR mX12_begin 0 0 6 [some (.ref 81), some (.int (zI 0))] [] zS0 h1 (zQi zS0 K))) : zCi mX12_begin [.ref 81] zS0 h K := by
  show RR mX12_begin 0 0 0 [some (.ref 81), none] [] zS0 h (zQi zS0 K)
  refine r_aload_n (pc := 0) (a := 81) dX12_begin_0 rfl ?_
  refine r_callV (μ2 := mX12_awake) (pc := 1) (as := []) (st := []) rfl s0_81 ml_X12_175 im_X12_awake se_X12_awake okX12_awake ⟨by decide, by decide⟩ dX12_begin_1 (Nat.le_of_ble_eq_true rfl) rfl (Nat.le_of_ble_eq_true rfl) (by decide) (by decide) (zCC.mono w ?_)
  rintro r S' h1 ⟨rfl, hr, w⟩
  subst hr
  show RR mX12_begin 0 0 4 [some (.ref 81), none] [] zS0 h1 (zQi zS0 K)
  refine r_iconst (pc := 4) dX12_begin_4 ?_
  refine r_istore_n (pc := 5) (L' := [some (.ref 81), some (.int (zI 0))]) dX12_begin_5 (by decide) rfl ?_
  exact w

set_option maxRecDepth 100000 in
set_option maxHeartbeats 4000000 in
theorem bX12_begin_6 {h : zMm} {K : Int → zMm → Prop} {v1 : Int} (w : (zR v1 ∧ ((999 < v1 → K (-4) h) ∧ (¬ 999 < v1 → zCv mX12_walks [.ref 81, .int (zI v1), .int (zI (h 88 3))] zS0 h (fun h3 => (zR (h3 93 8) ∧ ((¬ (h3 93 8) = 0 → RR mX12_begin 0 0 6 [some (.ref 81), some (.int (zI (v1 + 1)))] [] zS0 h3 (zQi zS0 K)) ∧ ((h3 93 8) = 0 → K v1 h3)))))))) : RR mX12_begin 0 0 6 [some (.ref 81), some (.int (zI v1))] [] zS0 h (zQi zS0 K) := by
  refine r_iload_n (pc := 6) (x := v1) dX12_begin_6 rfl ?_
  refine r_sipush (pc := 7) (x := 999) dX12_begin_7 (by decide) ?_
  obtain ⟨hr2, w⟩ := w
  refine r_icmp_gt (pc := 10) (x := v1) (y := 999) (tgt := 42) dX12_begin_10 (by decide) hr2 (by decide) (fun c => ?_) (fun c => ?_)
  · have w := w.1 (c)
    refine r_bipush (pc := 42) (x := (-4)) dX12_begin_42 (by decide) ?_
    exact r_iret (st := []) (pc := 44) (x := (-4)) (ty := .int) dX12_begin_44 rfl rfl rfl (by decide) ⟨rfl, _, rfl, w⟩
  · have w := w.2 (c)
    refine r_aload_n (pc := 13) (a := 81) dX12_begin_13 rfl ?_
    refine r_iload_n (pc := 14) (x := v1) dX12_begin_14 rfl ?_
    refine r_aload_n (pc := 15) (a := 81) dX12_begin_15 rfl ?_
    refine r_getR (pc := 16) (b := 88) fl_X12_28 dX12_begin_16 s0_81 rfl ?_
    refine r_iconst (pc := 19) dX12_begin_19 ?_
    refine r_iald (pc := 20) (i := 3) (x := (h 88 3)) dX12_begin_20 s0_88 (by decide) (rfl) ?_
    refine r_callV (μ2 := mX12_walks) (pc := 21) (as := [.int (zI v1), .int (zI (h 88 3))]) (st := []) rfl s0_81 ml_X12_219 im_X12_walks se_X12_walks okX12_walks ⟨by decide, by decide⟩ dX12_begin_21 (Nat.le_of_ble_eq_true rfl) rfl (Nat.le_of_ble_eq_true rfl) (by decide) (by decide) (zCC.mono w ?_)
    rintro r S' h3 ⟨rfl, hr, w⟩
    subst hr
    show RR mX12_begin 0 0 24 [some (.ref 81), some (.int (zI v1))] [] zS0 h3 (zQi zS0 K)
    refine r_aload_n (pc := 24) (a := 81) dX12_begin_24 rfl ?_
    refine r_getR (pc := 25) (b := 93) fl_X12_43 dX12_begin_25 s0_81 rfl ?_
    refine r_bipush (pc := 28) (x := 8) dX12_begin_28 (by decide) ?_
    refine r_iald (pc := 30) (i := 8) (x := (h3 93 8)) dX12_begin_30 s0_93 (by decide) (rfl) ?_
    obtain ⟨hr4, w⟩ := w
    refine r_if_ne (pc := 31) (x := (h3 93 8)) (tgt := 36) dX12_begin_31 (by decide) hr4 (fun c => ?_) (fun c => ?_)
    · have w := w.1 (c)
      refine r_iinc (pc := 36) (x := v1) (L' := [some (.ref 81), some (.int (zI (v1 + 1)))]) dX12_begin_36 rfl (by decide) rfl ?_
      refine r_goto (pc := 39) (tgt := 6) dX12_begin_39 (by decide) ?_
      exact w
    · have w := w.2 (c)
      refine r_iload_n (pc := 34) (x := v1) dX12_begin_34 rfl ?_
      exact r_iret (st := []) (pc := 35) (x := v1) (ty := .int) dX12_begin_35 rfl rfl rfl (by decide) ⟨rfl, _, rfl, w⟩

set_option maxRecDepth 100000 in
set_option maxHeartbeats 4000000 in
theorem wX12_need {h : zMm} {K : Int → zMm → Prop} {v1 : Int} (w : zCv mX12_awake [.ref 81] zS0 h (fun h1 => zCb mX12_isMinute [.int (zI v1)] zS0 h1 (fun b2 h2 => ((b2 = true → RR mX12_need 0 0 15 [some (.ref 81), some (.int (zI v1)), some (.int (zI 1))] [] zS0 h2 (zQi zS0 K)) ∧ (b2 = false → K (-1) h2))))) : zCi mX12_need [.ref 81, .int (zI v1)] zS0 h K := by
  show RR mX12_need 0 0 0 [some (.ref 81), some (.int (zI v1)), none] [] zS0 h (zQi zS0 K)
  refine r_aload_n (pc := 0) (a := 81) dX12_need_0 rfl ?_
  refine r_callV (μ2 := mX12_awake) (pc := 1) (as := []) (st := []) rfl s0_81 ml_X12_175 im_X12_awake se_X12_awake okX12_awake ⟨by decide, by decide⟩ dX12_need_1 (Nat.le_of_ble_eq_true rfl) rfl (Nat.le_of_ble_eq_true rfl) (by decide) (by decide) (zCC.mono w ?_)
  rintro r S' h1 ⟨rfl, hr, w⟩
  subst hr
  show RR mX12_need 0 0 4 [some (.ref 81), some (.int (zI v1)), none] [] zS0 h1 (zQi zS0 K)
  refine r_iload_n (pc := 4) (x := v1) dX12_need_4 rfl ?_
  refine r_callS (μ2 := mX12_isMinute) (pc := 5) (as := [.int (zI v1)]) (st := []) ml_X12_214 sm_X12_isMinute okX12_isMinute ⟨by decide, by decide⟩ dX12_need_5 (Nat.le_of_ble_eq_true rfl) rfl (Nat.le_of_ble_eq_true rfl) (by decide) (by decide) (zCC.mono w ?_)
  rintro r S' h2 ⟨rfl, b2, hr, w⟩
  subst hr
  show RR mX12_need 0 0 8 [some (.ref 81), some (.int (zI v1)), none] [.int (zI (bI b2))] zS0 h2 (zQi zS0 K)
  refine r_if_ne (pc := 8) (x := (bI b2)) (tgt := 13) dX12_need_8 (by decide) (bI_R _) (fun c => ?_) (fun c => ?_)
  · have w := w.1 (bI_n.mp c)
    refine r_iconst (pc := 13) dX12_need_13 ?_
    refine r_istore_n (pc := 14) (L' := [some (.ref 81), some (.int (zI v1)), some (.int (zI 1))]) dX12_need_14 (by decide) rfl ?_
    exact w
  · have w := w.2 (bI_0.mp c)
    refine r_iconst (pc := 11) dX12_need_11 ?_
    exact r_iret (st := []) (pc := 12) (x := (-1)) (ty := .int) dX12_need_12 rfl rfl rfl (by decide) ⟨rfl, _, rfl, w⟩

set_option maxRecDepth 100000 in
set_option maxHeartbeats 4000000 in
theorem bX12_need_15 {h : zMm} {K : Int → zMm → Prop} {v1 : Int} {v2 : Int} (w : (zR v2 ∧ ((999 < v2 → K (-4) h) ∧ (¬ 999 < v2 → zCv mX12_walks [.ref 81, .int (zI v1), .int (zI v2)] zS0 h (fun h4 => (zR (h4 93 9) ∧ ((¬ (h4 93 9) = 0 → RR mX12_need 0 0 15 [some (.ref 81), some (.int (zI v1)), some (.int (zI (v2 + 1)))] [] zS0 h4 (zQi zS0 K)) ∧ ((h4 93 9) = 0 → K v2 h4)))))))) : RR mX12_need 0 0 15 [some (.ref 81), some (.int (zI v1)), some (.int (zI v2))] [] zS0 h (zQi zS0 K) := by
  refine r_iload_n (pc := 15) (x := v2) dX12_need_15 rfl ?_
  refine r_sipush (pc := 16) (x := 999) dX12_need_16 (by decide) ?_
  obtain ⟨hr3, w⟩ := w
  refine r_icmp_gt (pc := 19) (x := v2) (y := 999) (tgt := 46) dX12_need_19 (by decide) hr3 (by decide) (fun c => ?_) (fun c => ?_)
  · have w := w.1 (c)
    refine r_bipush (pc := 46) (x := (-4)) dX12_need_46 (by decide) ?_
    exact r_iret (st := []) (pc := 48) (x := (-4)) (ty := .int) dX12_need_48 rfl rfl rfl (by decide) ⟨rfl, _, rfl, w⟩
  · have w := w.2 (c)
    refine r_aload_n (pc := 22) (a := 81) dX12_need_22 rfl ?_
    refine r_iload_n (pc := 23) (x := v1) dX12_need_23 rfl ?_
    refine r_iload_n (pc := 24) (x := v2) dX12_need_24 rfl ?_
    refine r_callV (μ2 := mX12_walks) (pc := 25) (as := [.int (zI v1), .int (zI v2)]) (st := []) rfl s0_81 ml_X12_219 im_X12_walks se_X12_walks okX12_walks ⟨by decide, by decide⟩ dX12_need_25 (Nat.le_of_ble_eq_true rfl) rfl (Nat.le_of_ble_eq_true rfl) (by decide) (by decide) (zCC.mono w ?_)
    rintro r S' h4 ⟨rfl, hr, w⟩
    subst hr
    show RR mX12_need 0 0 28 [some (.ref 81), some (.int (zI v1)), some (.int (zI v2))] [] zS0 h4 (zQi zS0 K)
    refine r_aload_n (pc := 28) (a := 81) dX12_need_28 rfl ?_
    refine r_getR (pc := 29) (b := 93) fl_X12_43 dX12_need_29 s0_81 rfl ?_
    refine r_bipush (pc := 32) (x := 9) dX12_need_32 (by decide) ?_
    refine r_iald (pc := 34) (i := 9) (x := (h4 93 9)) dX12_need_34 s0_93 (by decide) (rfl) ?_
    obtain ⟨hr5, w⟩ := w
    refine r_if_ne (pc := 35) (x := (h4 93 9)) (tgt := 40) dX12_need_35 (by decide) hr5 (fun c => ?_) (fun c => ?_)
    · have w := w.1 (c)
      refine r_iinc (pc := 40) (x := v2) (L' := [some (.ref 81), some (.int (zI v1)), some (.int (zI (v2 + 1)))]) dX12_need_40 rfl (by decide) rfl ?_
      refine r_goto (pc := 43) (tgt := 15) dX12_need_43 (by decide) ?_
      exact w
    · have w := w.2 (c)
      refine r_iload_n (pc := 38) (x := v2) dX12_need_38 rfl ?_
      exact r_iret (st := []) (pc := 39) (x := v2) (ty := .int) dX12_need_39 rfl rfl rfl (by decide) ⟨rfl, _, rfl, w⟩

set_option maxRecDepth 100000 in
set_option maxHeartbeats 4000000 in
theorem wX12_grassMany {h : zMm} {K : Int → zMm → Prop} (w : RR mX12_grassMany 0 0 4 [some (.ref 81), some (.int (zI 0)), some (.int (zI 0))] [] zS0 h (zQi zS0 K)) : zCi mX12_grassMany [.ref 81] zS0 h K := by
  show RR mX12_grassMany 0 0 0 [some (.ref 81), none, none] [] zS0 h (zQi zS0 K)
  refine r_iconst (pc := 0) dX12_grassMany_0 ?_
  refine r_istore_n (pc := 1) (L' := [some (.ref 81), some (.int (zI 0)), none]) dX12_grassMany_1 (by decide) rfl ?_
  refine r_iconst (pc := 2) dX12_grassMany_2 ?_
  refine r_istore_n (pc := 3) (L' := [some (.ref 81), some (.int (zI 0)), some (.int (zI 0))]) dX12_grassMany_3 (by decide) rfl ?_
  exact w

set_option maxRecDepth 100000 in
set_option maxHeartbeats 4000000 in
theorem bX12_grassMany_4 {h : zMm} {K : Int → zMm → Prop} {v1 : Int} {v2 : Int} (w : (zR v2 ∧ ((36 ≤ v2 → K v1 h) ∧ (¬ 36 ≤ v2 → zCb mX12_isGrass [.ref 81, .int (zI v2)] zS0 h (fun b2 h2 => RR mX12_grassMany 0 0 4 [some (.ref 81), some (.int (zI (v1 + (bI (if b2 = true then true else false))))), some (.int (zI (v2 + 1)))] [] zS0 h2 (zQi zS0 K)))))) : RR mX12_grassMany 0 0 4 [some (.ref 81), some (.int (zI v1)), some (.int (zI v2))] [] zS0 h (zQi zS0 K) := by
  refine r_iload_n (pc := 4) (x := v2) dX12_grassMany_4 rfl ?_
  refine r_bipush (pc := 5) (x := 36) dX12_grassMany_5 (by decide) ?_
  obtain ⟨hr1, w⟩ := w
  refine r_icmp_ge (pc := 7) (x := v2) (y := 36) (tgt := 32) dX12_grassMany_7 (by decide) hr1 (by decide) (fun c => ?_) (fun c => ?_)
  · have w := w.1 (c)
    refine r_iload_n (pc := 32) (x := v1) dX12_grassMany_32 rfl ?_
    exact r_iret (st := []) (pc := 33) (x := v1) (ty := .int) dX12_grassMany_33 rfl rfl rfl (by decide) ⟨rfl, _, rfl, w⟩
  · have w := w.2 (c)
    refine r_iload_n (pc := 10) (x := v1) dX12_grassMany_10 rfl ?_
    refine r_aload_n (pc := 11) (a := 81) dX12_grassMany_11 rfl ?_
    refine r_iload_n (pc := 12) (x := v2) dX12_grassMany_12 rfl ?_
    refine r_callV (μ2 := mX12_isGrass) (pc := 13) (as := [.int (zI v2)]) (st := [.int (zI v1)]) rfl s0_81 ml_X12_196 im_X12_isGrass se_X12_isGrass okX12_isGrass ⟨by decide, by decide⟩ dX12_grassMany_13 (Nat.le_of_ble_eq_true rfl) rfl (Nat.le_of_ble_eq_true rfl) (by decide) (by decide) (zCC.mono w ?_)
    rintro r S' h2 ⟨rfl, b2, hr, w⟩
    subst hr
    show RR mX12_grassMany 0 0 16 [some (.ref 81), some (.int (zI v1)), some (.int (zI v2))] [.int (zI (bI b2)), .int (zI v1)] zS0 h2 (zQi zS0 K)
    have kk3 : RR mX12_grassMany 0 0 24 [some (.ref 81), some (.int (zI v1)), some (.int (zI v2))] [.int (zI (bI (if b2 = true then true else false))), .int (zI v1)] zS0 h2 (zQi zS0 K) := by
      refine r_iadd (pc := 24) (x := v1) (y := (bI (if b2 = true then true else false))) dX12_grassMany_24 ?_
      refine r_istore_n (pc := 25) (L' := [some (.ref 81), some (.int (zI (v1 + (bI (if b2 = true then true else false))))), some (.int (zI v2))]) dX12_grassMany_25 (by decide) rfl ?_
      refine r_iinc (pc := 26) (x := v2) (L' := [some (.ref 81), some (.int (zI (v1 + (bI (if b2 = true then true else false))))), some (.int (zI (v2 + 1)))]) dX12_grassMany_26 rfl (by decide) rfl ?_
      refine r_goto (pc := 29) (tgt := 4) dX12_grassMany_29 (by decide) ?_
      exact w
    refine r_if_eq (pc := 16) (x := (bI b2)) (tgt := 23) dX12_grassMany_16 (by decide) (bI_R _) (fun c => ?_) (fun c => ?_)
    · refine r_iconst (pc := 23) dX12_grassMany_23 ?_
      simp only [if_neg (bI_ft (bI_0.mp c))] at kk3 ⊢
      exact kk3
    · refine r_iconst (pc := 19) dX12_grassMany_19 ?_
      refine r_goto (pc := 20) (tgt := 24) dX12_grassMany_20 (by decide) ?_
      simp only [if_pos (bI_n.mp c)] at kk3 ⊢
      exact kk3

set_option maxRecDepth 100000 in
set_option maxHeartbeats 4000000 in
theorem wX12_stepCost {h : zMm} {K : Int → zMm → Prop} {v1 : Int} {v2 : Int} {v3 : Int} (w : zCi mX12_quarters [.int (zI v2), .int (zI v3)] zS0 h (fun x1 h1 => zCi mX12_nextOf [.ref 81, .int (zI v1), .int (zI v3)] zS0 h1 (fun x2 h2 => zCi mX12_minutesOf [.ref 81, .int (zI x2), .int (zI v3)] zS0 h2 (fun x3 h3 => K ((x1 * (h1 88 1)) + x3) h3)))) : zCi mX12_stepCost [.ref 81, .int (zI v1), .int (zI v2), .int (zI v3)] zS0 h K := by
  show RR mX12_stepCost 0 0 0 [some (.ref 81), some (.int (zI v1)), some (.int (zI v2)), some (.int (zI v3))] [] zS0 h (zQi zS0 K)
  refine r_iload_n (pc := 0) (x := v2) dX12_stepCost_0 rfl ?_
  refine r_iload_n (pc := 1) (x := v3) dX12_stepCost_1 rfl ?_
  refine r_callS (μ2 := mX12_quarters) (pc := 2) (as := [.int (zI v2), .int (zI v3)]) (st := []) ml_X12_199 sm_X12_quarters okX12_quarters ⟨by decide, by decide⟩ dX12_stepCost_2 (Nat.le_of_ble_eq_true rfl) rfl (Nat.le_of_ble_eq_true rfl) (by decide) (by decide) (zCC.mono w ?_)
  rintro r S' h1 ⟨rfl, x1, hr, w⟩
  subst hr
  show RR mX12_stepCost 0 0 5 [some (.ref 81), some (.int (zI v1)), some (.int (zI v2)), some (.int (zI v3))] [.int (zI x1)] zS0 h1 (zQi zS0 K)
  refine r_aload_n (pc := 5) (a := 81) dX12_stepCost_5 rfl ?_
  refine r_getR (pc := 6) (b := 88) fl_X12_28 dX12_stepCost_6 s0_81 rfl ?_
  refine r_iconst (pc := 9) dX12_stepCost_9 ?_
  refine r_iald (pc := 10) (i := 1) (x := (h1 88 1)) dX12_stepCost_10 s0_88 (by decide) (rfl) ?_
  refine r_imul (pc := 11) (x := x1) (y := (h1 88 1)) dX12_stepCost_11 ?_
  refine r_aload_n (pc := 12) (a := 81) dX12_stepCost_12 rfl ?_
  refine r_aload_n (pc := 13) (a := 81) dX12_stepCost_13 rfl ?_
  refine r_iload_n (pc := 14) (x := v1) dX12_stepCost_14 rfl ?_
  refine r_iload_n (pc := 15) (x := v3) dX12_stepCost_15 rfl ?_
  refine r_callV (μ2 := mX12_nextOf) (pc := 16) (as := [.int (zI v1), .int (zI v3)]) (st := [.ref 81, .int (zI (x1 * (h1 88 1)))]) rfl s0_81 ml_X12_202 im_X12_nextOf se_X12_nextOf okX12_nextOf ⟨by decide, by decide⟩ dX12_stepCost_16 (Nat.le_of_ble_eq_true rfl) rfl (Nat.le_of_ble_eq_true rfl) (by decide) (by decide) (zCC.mono w ?_)
  rintro r S' h2 ⟨rfl, x2, hr, w⟩
  subst hr
  show RR mX12_stepCost 0 0 19 [some (.ref 81), some (.int (zI v1)), some (.int (zI v2)), some (.int (zI v3))] [.int (zI x2), .ref 81, .int (zI (x1 * (h1 88 1)))] zS0 h2 (zQi zS0 K)
  refine r_iload_n (pc := 19) (x := v3) dX12_stepCost_19 rfl ?_
  refine r_callV (μ2 := mX12_minutesOf) (pc := 20) (as := [.int (zI x2), .int (zI v3)]) (st := [.int (zI (x1 * (h1 88 1)))]) rfl s0_81 ml_X12_205 im_X12_minutesOf se_X12_minutesOf okX12_minutesOf ⟨by decide, by decide⟩ dX12_stepCost_20 (Nat.le_of_ble_eq_true rfl) rfl (Nat.le_of_ble_eq_true rfl) (by decide) (by decide) (zCC.mono w ?_)
  rintro r S' h3 ⟨rfl, x3, hr, w⟩
  subst hr
  show RR mX12_stepCost 0 0 23 [some (.ref 81), some (.int (zI v1)), some (.int (zI v2)), some (.int (zI v3))] [.int (zI x3), .int (zI (x1 * (h1 88 1)))] zS0 h3 (zQi zS0 K)
  refine r_iadd (pc := 23) (x := (x1 * (h1 88 1))) (y := x3) dX12_stepCost_23 ?_
  exact r_iret (st := []) (pc := 24) (x := ((x1 * (h1 88 1)) + x3)) (ty := .int) dX12_stepCost_24 rfl rfl rfl (by decide) ⟨rfl, _, rfl, w⟩

set_option maxRecDepth 100000 in
set_option maxHeartbeats 4000000 in
theorem wX12_behind {h : zMm} {K : Int → zMm → Prop} {v1 : Int} {v2 : Int} {v3 : Int} (w : zCi mX12_nextOf [.ref 81, .int (zI v2), .int (zI v3)] zS0 h (fun x1 h1 => ((0 ≤ x1 ∧ x1 < 36) ∧ K (((144 * (iO v1 (h1 98 x1))) + (4 * x1)) + v3) h1))) : zCi mX12_behind [.ref 81, .int (zI v1), .int (zI v2), .int (zI v3)] zS0 h K := by
  show RR mX12_behind 0 0 0 [some (.ref 81), some (.int (zI v1)), some (.int (zI v2)), some (.int (zI v3)), none] [] zS0 h (zQi zS0 K)
  refine r_aload_n (pc := 0) (a := 81) dX12_behind_0 rfl ?_
  refine r_iload_n (pc := 1) (x := v2) dX12_behind_1 rfl ?_
  refine r_iload_n (pc := 2) (x := v3) dX12_behind_2 rfl ?_
  refine r_callV (μ2 := mX12_nextOf) (pc := 3) (as := [.int (zI v2), .int (zI v3)]) (st := []) rfl s0_81 ml_X12_202 im_X12_nextOf se_X12_nextOf okX12_nextOf ⟨by decide, by decide⟩ dX12_behind_3 (Nat.le_of_ble_eq_true rfl) rfl (Nat.le_of_ble_eq_true rfl) (by decide) (by decide) (zCC.mono w ?_)
  rintro r S' h1 ⟨rfl, x1, hr, w⟩
  subst hr
  show RR mX12_behind 0 0 6 [some (.ref 81), some (.int (zI v1)), some (.int (zI v2)), some (.int (zI v3)), none] [.int (zI x1)] zS0 h1 (zQi zS0 K)
  refine r_istore (pc := 6) (L' := [some (.ref 81), some (.int (zI v1)), some (.int (zI v2)), some (.int (zI v3)), some (.int (zI x1))]) dX12_behind_6 (by decide) rfl ?_
  refine r_sipush (pc := 8) (x := 144) dX12_behind_8 (by decide) ?_
  refine r_iload_n (pc := 11) (x := v1) dX12_behind_11 rfl ?_
  refine r_aload_n (pc := 12) (a := 81) dX12_behind_12 rfl ?_
  refine r_getR (pc := 13) (b := 98) fl_X12_58 dX12_behind_13 s0_81 rfl ?_
  refine r_iload (pc := 16) (x := x1) dX12_behind_16 rfl ?_
  obtain ⟨hb2, w⟩ := w
  refine r_iald (pc := 18) (i := x1) (x := (h1 98 x1)) dX12_behind_18 s0_98 ⟨hb2.1, hb2.2, (by decide)⟩ (rfl) ?_
  refine r_ior (pc := 19) (x := v1) (y := (h1 98 x1)) dX12_behind_19 ?_
  refine r_imul (pc := 20) (x := 144) (y := (iO v1 (h1 98 x1))) dX12_behind_20 ?_
  refine r_iconst (pc := 21) dX12_behind_21 ?_
  refine r_iload (pc := 22) (x := x1) dX12_behind_22 rfl ?_
  refine r_imul (pc := 24) (x := 4) (y := x1) dX12_behind_24 ?_
  refine r_iadd (pc := 25) (x := (144 * (iO v1 (h1 98 x1)))) (y := (4 * x1)) dX12_behind_25 ?_
  refine r_iload_n (pc := 26) (x := v3) dX12_behind_26 rfl ?_
  refine r_iadd (pc := 27) (x := ((144 * (iO v1 (h1 98 x1))) + (4 * x1))) (y := v3) dX12_behind_27 ?_
  exact r_iret (st := []) (pc := 28) (x := (((144 * (iO v1 (h1 98 x1))) + (4 * x1)) + v3)) (ty := .int) dX12_behind_28 rfl rfl rfl (by decide) ⟨rfl, _, rfl, w⟩

set_option maxRecDepth 100000 in
set_option maxHeartbeats 4000000 in
theorem wX12_oneSet {h : zMm} {K : zMm → Prop} {v1 : Int} (w : RR mX12_oneSet 0 0 2 [some (.ref 81), some (.int (zI v1)), some (.int (zI 1)), none, none, none, none, none] [] zS0 h (zQv zS0 K)) : zCv mX12_oneSet [.ref 81, .int (zI v1)] zS0 h K := by
  show RR mX12_oneSet 0 0 0 [some (.ref 81), some (.int (zI v1)), none, none, none, none, none, none] [] zS0 h (zQv zS0 K)
  refine r_iconst (pc := 0) dX12_oneSet_0 ?_
  refine r_istore_n (pc := 1) (L' := [some (.ref 81), some (.int (zI v1)), some (.int (zI 1)), none, none, none, none, none]) dX12_oneSet_1 (by decide) rfl ?_
  exact w

set_option maxRecDepth 100000 in
set_option maxHeartbeats 4000000 in
theorem bX12_oneSet_2 {h : zMm} {K : zMm → Prop} {v1 : Int} {v2 : Int} (w : (zR v2 ∧ ((v2 = 0 → K h) ∧ (¬ v2 = 0 → RR mX12_oneSet 0 0 10 [some (.ref 81), some (.int (zI v1)), some (.int (zI 0)), some (.int (zI 0)), none, none, none, none] [] zS0 h (zQv zS0 K))))) : RR mX12_oneSet 0 0 2 [some (.ref 81), some (.int (zI v1)), some (.int (zI v2)), none, none, none, none, none] [] zS0 h (zQv zS0 K) := by
  refine r_iload_n (pc := 2) (x := v2) dX12_oneSet_2 rfl ?_
  obtain ⟨hr1, w⟩ := w
  refine r_if_eq (pc := 3) (x := v2) (tgt := 169) dX12_oneSet_3 (by decide) hr1 (fun c => ?_) (fun c => ?_)
  · have w := w.1 (c)
    exact r_ret (st := []) (pc := 169) dX12_oneSet_169 rfl rfl (by decide) ⟨rfl, rfl, w⟩
  · have w := w.2 (c)
    refine r_iconst (pc := 6) dX12_oneSet_6 ?_
    refine r_istore_n (pc := 7) (L' := [some (.ref 81), some (.int (zI v1)), some (.int (zI 0)), none, none, none, none, none]) dX12_oneSet_7 (by decide) rfl ?_
    refine r_iconst (pc := 8) dX12_oneSet_8 ?_
    refine r_istore_n (pc := 9) (L' := [some (.ref 81), some (.int (zI v1)), some (.int (zI 0)), some (.int (zI 0)), none, none, none, none]) dX12_oneSet_9 (by decide) rfl ?_
    exact w

set_option maxRecDepth 100000 in
set_option maxHeartbeats 4000000 in
theorem bX12_oneSet_10 {h : zMm} {K : zMm → Prop} {v1 : Int} {v2 : Int} {v3 : Int} (w : (zR v3 ∧ ((144 ≤ v3 → RR mX12_oneSet 0 0 2 [some (.ref 81), some (.int (zI v1)), some (.int (zI v2)), none, none, none, none, none] [] zS0 h (zQv zS0 K)) ∧ (¬ 144 ≤ v3 → ((0 ≤ v3 ∧ v3 < 2147483648) ∧ ((0 ≤ ((144 * v1) + v3) ∧ ((144 * v1) + v3) < 18432) ∧ RR mX12_oneSet 0 0 39 [some (.ref 81), some (.int (zI v1)), some (.int (zI v2)), some (.int (zI v3)), some (.int (zI (v3 / 4))), some (.int (zI (h 99 ((144 * v1) + v3)))), some (.int (zI 0)), none] [] zS0 h (zQv zS0 K))))))) : RR mX12_oneSet 0 0 10 [some (.ref 81), some (.int (zI v1)), some (.int (zI v2)), some (.int (zI v3)), none, none, none, none] [] zS0 h (zQv zS0 K) := by
  refine r_iload_n (pc := 10) (x := v3) dX12_oneSet_10 rfl ?_
  refine r_sipush (pc := 11) (x := 144) dX12_oneSet_11 (by decide) ?_
  obtain ⟨hr2, w⟩ := w
  refine r_icmp_ge (pc := 14) (x := v3) (y := 144) (tgt := 166) dX12_oneSet_14 (by decide) hr2 (by decide) (fun c => ?_) (fun c => ?_)
  · have w := w.1 (c)
    refine r_goto (pc := 166) (tgt := 2) dX12_oneSet_166 (by decide) ?_
    exact RR.sub (L' := [some (.ref 81), some (.int (zI v1)), some (.int (zI v2)), none, none, none, none, none]) (zSb_of (⟨rfl, ⟨rfl, ⟨rfl, trivial⟩⟩⟩)) w
  · have w := w.2 (c)
    refine r_iload_n (pc := 17) (x := v3) dX12_oneSet_17 rfl ?_
    refine r_iconst (pc := 18) dX12_oneSet_18 ?_
    obtain ⟨hx3, w⟩ := w
    refine r_idiv (pc := 19) (x := v3) (y := 4) dX12_oneSet_19 hx3 (by decide) ?_
    refine r_istore (pc := 20) (L' := [some (.ref 81), some (.int (zI v1)), some (.int (zI v2)), some (.int (zI v3)), some (.int (zI (v3 / 4))), none, none, none]) dX12_oneSet_20 (by decide) rfl ?_
    refine r_aload_n (pc := 22) (a := 81) dX12_oneSet_22 rfl ?_
    refine r_getR (pc := 23) (b := 99) fl_X12_61 dX12_oneSet_23 s0_81 rfl ?_
    refine r_sipush (pc := 26) (x := 144) dX12_oneSet_26 (by decide) ?_
    refine r_iload_n (pc := 29) (x := v1) dX12_oneSet_29 rfl ?_
    refine r_imul (pc := 30) (x := 144) (y := v1) dX12_oneSet_30 ?_
    refine r_iload_n (pc := 31) (x := v3) dX12_oneSet_31 rfl ?_
    refine r_iadd (pc := 32) (x := (144 * v1)) (y := v3) dX12_oneSet_32 ?_
    obtain ⟨hb4, w⟩ := w
    refine r_iald (pc := 33) (i := ((144 * v1) + v3)) (x := (h 99 ((144 * v1) + v3))) dX12_oneSet_33 s0_99 ⟨hb4.1, hb4.2, (by decide)⟩ (rfl) ?_
    refine r_istore (pc := 34) (L' := [some (.ref 81), some (.int (zI v1)), some (.int (zI v2)), some (.int (zI v3)), some (.int (zI (v3 / 4))), some (.int (zI (h 99 ((144 * v1) + v3)))), none, none]) dX12_oneSet_34 (by decide) rfl ?_
    refine r_iconst (pc := 36) dX12_oneSet_36 ?_
    refine r_istore (pc := 37) (L' := [some (.ref 81), some (.int (zI v1)), some (.int (zI v2)), some (.int (zI v3)), some (.int (zI (v3 / 4))), some (.int (zI (h 99 ((144 * v1) + v3)))), some (.int (zI 0)), none]) dX12_oneSet_37 (by decide) rfl ?_
    exact w

set_option maxRecDepth 100000 in
set_option maxHeartbeats 4000000 in
theorem bX12_oneSet_39 {h : zMm} {K : zMm → Prop} {v1 : Int} {v2 : Int} {v3 : Int} {v4 : Int} {v5 : Int} {v6 : Int} (w : (zR v6 ∧ ((4 ≤ v6 → (zR v2 ∧ ((¬ v2 = 0 → ((0 ≤ ((144 * v1) + v3) ∧ ((144 * v1) + v3) < 18432) ∧ RR mX12_oneSet 0 0 10 [some (.ref 81), some (.int (zI v1)), some (.int (zI 1)), some (.int (zI (v3 + 1))), none, none, none, none] [] zS0 (zU h 99 ((144 * v1) + v3) v5) (zQv zS0 K))) ∧ (v2 = 0 → ((0 ≤ ((144 * v1) + v3) ∧ ((144 * v1) + v3) < 18432) ∧ (zR v5 ∧ (zR (h 99 ((144 * v1) + v3)) ∧ RR mX12_oneSet 0 0 10 [some (.ref 81), some (.int (zI v1)), some (.int (zI (bI (if (h 99 ((144 * v1) + v3)) ≤ v5 then false else true)))), some (.int (zI (v3 + 1))), none, none, none, none] [] zS0 (zU h 99 ((144 * v1) + v3) v5) (zQv zS0 K)))))))) ∧ (¬ 4 ≤ v6 → ((0 ≤ v4 ∧ v4 < 600) ∧ (zR (h 92 v4) ∧ (((h 92 v4) = 2 → (zR v2 ∧ ((¬ v2 = 0 → ((0 ≤ ((144 * v1) + v3) ∧ ((144 * v1) + v3) < 18432) ∧ RR mX12_oneSet 0 0 10 [some (.ref 81), some (.int (zI v1)), some (.int (zI 1)), some (.int (zI (v3 + 1))), none, none, none, none] [] zS0 (zU h 99 ((144 * v1) + v3) v5) (zQv zS0 K))) ∧ (v2 = 0 → ((0 ≤ ((144 * v1) + v3) ∧ ((144 * v1) + v3) < 18432) ∧ (zR v5 ∧ (zR (h 99 ((144 * v1) + v3)) ∧ RR mX12_oneSet 0 0 10 [some (.ref 81), some (.int (zI v1)), some (.int (zI (bI (if (h 99 ((144 * v1) + v3)) ≤ v5 then false else true)))), some (.int (zI (v3 + 1))), none, none, none, none] [] zS0 (zU h 99 ((144 * v1) + v3) v5) (zQv zS0 K)))))))) ∧ (¬ (h 92 v4) = 2 → zCi mX12_nextOf [.ref 81, .int (zI v4), .int (zI v6)] zS0 h (fun x20 h20 => (zR x20 ∧ ((x20 = (-4) → RR mX12_oneSet 0 0 39 [some (.ref 81), some (.int (zI v1)), some (.int (zI v2)), some (.int (zI v3)), some (.int (zI v4)), some (.int (zI v5)), some (.int (zI (v6 + 1))), none] [] zS0 h20 (zQv zS0 K)) ∧ (¬ x20 = (-4) → ((0 ≤ v3 ∧ v3 < 2147483648) ∧ zCi mX12_stepCost [.ref 81, .int (zI v4), .int (zI (v3 % 4)), .int (zI v6)] zS0 h20 (fun x23 h23 => zCi mX12_behind [.ref 81, .int (zI v1), .int (zI v4), .int (zI v6)] zS0 h23 (fun x24 h24 => ((0 ≤ x24 ∧ x24 < 18432) ∧ (zR (x23 + (h24 99 x24)) ∧ (zR v5 ∧ RR mX12_oneSet 0 0 39 [some (.ref 81), some (.int (zI v1)), some (.int (zI v2)), some (.int (zI v3)), some (.int (zI v4)), some (.int (zI (if v5 ≤ (x23 + (h24 99 x24)) then v5 else (x23 + (h24 99 x24))))), some (.int (zI (v6 + 1))), none] [] zS0 h24 (zQv zS0 K))))))))))))))))))) : RR mX12_oneSet 0 0 39 [some (.ref 81), some (.int (zI v1)), some (.int (zI v2)), some (.int (zI v3)), some (.int (zI v4)), some (.int (zI v5)), some (.int (zI v6)), none] [] zS0 h (zQv zS0 K) := by
  refine r_iload (pc := 39) (x := v6) dX12_oneSet_39 rfl ?_
  refine r_iconst (pc := 41) dX12_oneSet_41 ?_
  obtain ⟨hr5, w⟩ := w
  refine r_icmp_ge (pc := 42) (x := v6) (y := 4) (tgt := 119) dX12_oneSet_42 (by decide) hr5 (by decide) (fun c => ?_) (fun c => ?_)
  · have w := w.1 (c)
    refine r_iload_n (pc := 119) (x := v2) dX12_oneSet_119 rfl ?_
    obtain ⟨hr6, w⟩ := w
    refine r_if_ne (pc := 120) (x := v2) (tgt := 140) dX12_oneSet_120 (by decide) hr6 (fun c => ?_) (fun c => ?_)
    · have w := w.1 (c)
      refine r_iconst (pc := 140) dX12_oneSet_140 ?_
      refine r_goto (pc := 141) (tgt := 145) dX12_oneSet_141 (by decide) ?_
      refine r_istore_n (pc := 145) (L' := [some (.ref 81), some (.int (zI v1)), some (.int (zI 1)), some (.int (zI v3)), some (.int (zI v4)), some (.int (zI v5)), some (.int (zI v6)), none]) dX12_oneSet_145 (by decide) rfl ?_
      refine r_aload_n (pc := 146) (a := 81) dX12_oneSet_146 rfl ?_
      refine r_getR (pc := 147) (b := 99) fl_X12_61 dX12_oneSet_147 s0_81 rfl ?_
      refine r_sipush (pc := 150) (x := 144) dX12_oneSet_150 (by decide) ?_
      refine r_iload_n (pc := 153) (x := v1) dX12_oneSet_153 rfl ?_
      refine r_imul (pc := 154) (x := 144) (y := v1) dX12_oneSet_154 ?_
      refine r_iload_n (pc := 155) (x := v3) dX12_oneSet_155 rfl ?_
      refine r_iadd (pc := 156) (x := (144 * v1)) (y := v3) dX12_oneSet_156 ?_
      refine r_iload (pc := 157) (x := v5) dX12_oneSet_157 rfl ?_
      obtain ⟨hb7, w⟩ := w
      refine r_iast (pc := 159) (i := ((144 * v1) + v3)) (x := v5) dX12_oneSet_159 s0_99 ⟨hb7.1, hb7.2, (by decide)⟩  ?_
      refine r_iinc (pc := 160) (x := v3) (L' := [some (.ref 81), some (.int (zI v1)), some (.int (zI 1)), some (.int (zI (v3 + 1))), some (.int (zI v4)), some (.int (zI v5)), some (.int (zI v6)), none]) dX12_oneSet_160 rfl (by decide) rfl ?_
      refine r_goto (pc := 163) (tgt := 10) dX12_oneSet_163 (by decide) ?_
      exact RR.sub (L' := [some (.ref 81), some (.int (zI v1)), some (.int (zI 1)), some (.int (zI (v3 + 1))), none, none, none, none]) (zSb_of (⟨rfl, ⟨rfl, ⟨rfl, ⟨rfl, trivial⟩⟩⟩⟩)) w
    · have w := w.2 (c)
      refine r_iload (pc := 123) (x := v5) dX12_oneSet_123 rfl ?_
      refine r_aload_n (pc := 125) (a := 81) dX12_oneSet_125 rfl ?_
      refine r_getR (pc := 126) (b := 99) fl_X12_61 dX12_oneSet_126 s0_81 rfl ?_
      refine r_sipush (pc := 129) (x := 144) dX12_oneSet_129 (by decide) ?_
      refine r_iload_n (pc := 132) (x := v1) dX12_oneSet_132 rfl ?_
      refine r_imul (pc := 133) (x := 144) (y := v1) dX12_oneSet_133 ?_
      refine r_iload_n (pc := 134) (x := v3) dX12_oneSet_134 rfl ?_
      refine r_iadd (pc := 135) (x := (144 * v1)) (y := v3) dX12_oneSet_135 ?_
      obtain ⟨hb8, w⟩ := w
      refine r_iald (pc := 136) (i := ((144 * v1) + v3)) (x := (h 99 ((144 * v1) + v3))) dX12_oneSet_136 s0_99 ⟨hb8.1, hb8.2, (by decide)⟩ (rfl) ?_
      obtain ⟨hr9, w⟩ := w
      obtain ⟨hr10, w⟩ := w
      have kk11 : RR mX12_oneSet 0 0 145 [some (.ref 81), some (.int (zI v1)), some (.int (zI v2)), some (.int (zI v3)), some (.int (zI v4)), some (.int (zI v5)), some (.int (zI v6)), none] [.int (zI (bI (if (h 99 ((144 * v1) + v3)) ≤ v5 then false else true)))] zS0 h (zQv zS0 K) := by
        refine r_istore_n (pc := 145) (L' := [some (.ref 81), some (.int (zI v1)), some (.int (zI (bI (if (h 99 ((144 * v1) + v3)) ≤ v5 then false else true)))), some (.int (zI v3)), some (.int (zI v4)), some (.int (zI v5)), some (.int (zI v6)), none]) dX12_oneSet_145 (by decide) rfl ?_
        refine r_aload_n (pc := 146) (a := 81) dX12_oneSet_146 rfl ?_
        refine r_getR (pc := 147) (b := 99) fl_X12_61 dX12_oneSet_147 s0_81 rfl ?_
        refine r_sipush (pc := 150) (x := 144) dX12_oneSet_150 (by decide) ?_
        refine r_iload_n (pc := 153) (x := v1) dX12_oneSet_153 rfl ?_
        refine r_imul (pc := 154) (x := 144) (y := v1) dX12_oneSet_154 ?_
        refine r_iload_n (pc := 155) (x := v3) dX12_oneSet_155 rfl ?_
        refine r_iadd (pc := 156) (x := (144 * v1)) (y := v3) dX12_oneSet_156 ?_
        refine r_iload (pc := 157) (x := v5) dX12_oneSet_157 rfl ?_
        refine r_iast (pc := 159) (i := ((144 * v1) + v3)) (x := v5) dX12_oneSet_159 s0_99 ⟨by omega, by omega, (by decide)⟩  ?_
        refine r_iinc (pc := 160) (x := v3) (L' := [some (.ref 81), some (.int (zI v1)), some (.int (zI (bI (if (h 99 ((144 * v1) + v3)) ≤ v5 then false else true)))), some (.int (zI (v3 + 1))), some (.int (zI v4)), some (.int (zI v5)), some (.int (zI v6)), none]) dX12_oneSet_160 rfl (by decide) rfl ?_
        refine r_goto (pc := 163) (tgt := 10) dX12_oneSet_163 (by decide) ?_
        exact RR.sub (L' := [some (.ref 81), some (.int (zI v1)), some (.int (zI (bI (if (h 99 ((144 * v1) + v3)) ≤ v5 then false else true)))), some (.int (zI (v3 + 1))), none, none, none, none]) (zSb_of (⟨rfl, ⟨rfl, ⟨rfl, ⟨rfl, trivial⟩⟩⟩⟩)) w
      refine r_icmp_ge (pc := 137) (x := v5) (y := (h 99 ((144 * v1) + v3))) (tgt := 144) dX12_oneSet_137 (by decide) hr9 hr10 (fun c => ?_) (fun c => ?_)
      · refine r_iconst (pc := 144) dX12_oneSet_144 ?_
        simp only [if_pos (c)] at kk11 ⊢
        exact kk11
      · refine r_iconst (pc := 140) dX12_oneSet_140 ?_
        refine r_goto (pc := 141) (tgt := 145) dX12_oneSet_141 (by decide) ?_
        simp only [if_neg (c)] at kk11 ⊢
        exact kk11
  · have w := w.2 (c)
    refine r_aload_n (pc := 45) (a := 81) dX12_oneSet_45 rfl ?_
    refine r_getR (pc := 46) (b := 92) fl_X12_40 dX12_oneSet_46 s0_81 rfl ?_
    refine r_iload (pc := 49) (x := v4) dX12_oneSet_49 rfl ?_
    obtain ⟨hb12, w⟩ := w
    refine r_iald (pc := 51) (i := v4) (x := (h 92 v4)) dX12_oneSet_51 s0_92 ⟨hb12.1, hb12.2, (by decide)⟩ (rfl) ?_
    refine r_iconst (pc := 52) dX12_oneSet_52 ?_
    obtain ⟨hr13, w⟩ := w
    refine r_icmp_eq (pc := 53) (x := (h 92 v4)) (y := 2) (tgt := 119) dX12_oneSet_53 (by decide) hr13 (by decide) (fun c => ?_) (fun c => ?_)
    · have w := w.1 (c)
      refine r_iload_n (pc := 119) (x := v2) dX12_oneSet_119 rfl ?_
      obtain ⟨hr14, w⟩ := w
      refine r_if_ne (pc := 120) (x := v2) (tgt := 140) dX12_oneSet_120 (by decide) hr14 (fun c => ?_) (fun c => ?_)
      · have w := w.1 (c)
        refine r_iconst (pc := 140) dX12_oneSet_140 ?_
        refine r_goto (pc := 141) (tgt := 145) dX12_oneSet_141 (by decide) ?_
        refine r_istore_n (pc := 145) (L' := [some (.ref 81), some (.int (zI v1)), some (.int (zI 1)), some (.int (zI v3)), some (.int (zI v4)), some (.int (zI v5)), some (.int (zI v6)), none]) dX12_oneSet_145 (by decide) rfl ?_
        refine r_aload_n (pc := 146) (a := 81) dX12_oneSet_146 rfl ?_
        refine r_getR (pc := 147) (b := 99) fl_X12_61 dX12_oneSet_147 s0_81 rfl ?_
        refine r_sipush (pc := 150) (x := 144) dX12_oneSet_150 (by decide) ?_
        refine r_iload_n (pc := 153) (x := v1) dX12_oneSet_153 rfl ?_
        refine r_imul (pc := 154) (x := 144) (y := v1) dX12_oneSet_154 ?_
        refine r_iload_n (pc := 155) (x := v3) dX12_oneSet_155 rfl ?_
        refine r_iadd (pc := 156) (x := (144 * v1)) (y := v3) dX12_oneSet_156 ?_
        refine r_iload (pc := 157) (x := v5) dX12_oneSet_157 rfl ?_
        obtain ⟨hb15, w⟩ := w
        refine r_iast (pc := 159) (i := ((144 * v1) + v3)) (x := v5) dX12_oneSet_159 s0_99 ⟨hb15.1, hb15.2, (by decide)⟩  ?_
        refine r_iinc (pc := 160) (x := v3) (L' := [some (.ref 81), some (.int (zI v1)), some (.int (zI 1)), some (.int (zI (v3 + 1))), some (.int (zI v4)), some (.int (zI v5)), some (.int (zI v6)), none]) dX12_oneSet_160 rfl (by decide) rfl ?_
        refine r_goto (pc := 163) (tgt := 10) dX12_oneSet_163 (by decide) ?_
        exact RR.sub (L' := [some (.ref 81), some (.int (zI v1)), some (.int (zI 1)), some (.int (zI (v3 + 1))), none, none, none, none]) (zSb_of (⟨rfl, ⟨rfl, ⟨rfl, ⟨rfl, trivial⟩⟩⟩⟩)) w
      · have w := w.2 (c)
        refine r_iload (pc := 123) (x := v5) dX12_oneSet_123 rfl ?_
        refine r_aload_n (pc := 125) (a := 81) dX12_oneSet_125 rfl ?_
        refine r_getR (pc := 126) (b := 99) fl_X12_61 dX12_oneSet_126 s0_81 rfl ?_
        refine r_sipush (pc := 129) (x := 144) dX12_oneSet_129 (by decide) ?_
        refine r_iload_n (pc := 132) (x := v1) dX12_oneSet_132 rfl ?_
        refine r_imul (pc := 133) (x := 144) (y := v1) dX12_oneSet_133 ?_
        refine r_iload_n (pc := 134) (x := v3) dX12_oneSet_134 rfl ?_
        refine r_iadd (pc := 135) (x := (144 * v1)) (y := v3) dX12_oneSet_135 ?_
        obtain ⟨hb16, w⟩ := w
        refine r_iald (pc := 136) (i := ((144 * v1) + v3)) (x := (h 99 ((144 * v1) + v3))) dX12_oneSet_136 s0_99 ⟨hb16.1, hb16.2, (by decide)⟩ (rfl) ?_
        obtain ⟨hr17, w⟩ := w
        obtain ⟨hr18, w⟩ := w
        have kk19 : RR mX12_oneSet 0 0 145 [some (.ref 81), some (.int (zI v1)), some (.int (zI v2)), some (.int (zI v3)), some (.int (zI v4)), some (.int (zI v5)), some (.int (zI v6)), none] [.int (zI (bI (if (h 99 ((144 * v1) + v3)) ≤ v5 then false else true)))] zS0 h (zQv zS0 K) := by
          refine r_istore_n (pc := 145) (L' := [some (.ref 81), some (.int (zI v1)), some (.int (zI (bI (if (h 99 ((144 * v1) + v3)) ≤ v5 then false else true)))), some (.int (zI v3)), some (.int (zI v4)), some (.int (zI v5)), some (.int (zI v6)), none]) dX12_oneSet_145 (by decide) rfl ?_
          refine r_aload_n (pc := 146) (a := 81) dX12_oneSet_146 rfl ?_
          refine r_getR (pc := 147) (b := 99) fl_X12_61 dX12_oneSet_147 s0_81 rfl ?_
          refine r_sipush (pc := 150) (x := 144) dX12_oneSet_150 (by decide) ?_
          refine r_iload_n (pc := 153) (x := v1) dX12_oneSet_153 rfl ?_
          refine r_imul (pc := 154) (x := 144) (y := v1) dX12_oneSet_154 ?_
          refine r_iload_n (pc := 155) (x := v3) dX12_oneSet_155 rfl ?_
          refine r_iadd (pc := 156) (x := (144 * v1)) (y := v3) dX12_oneSet_156 ?_
          refine r_iload (pc := 157) (x := v5) dX12_oneSet_157 rfl ?_
          refine r_iast (pc := 159) (i := ((144 * v1) + v3)) (x := v5) dX12_oneSet_159 s0_99 ⟨by omega, by omega, (by decide)⟩  ?_
          refine r_iinc (pc := 160) (x := v3) (L' := [some (.ref 81), some (.int (zI v1)), some (.int (zI (bI (if (h 99 ((144 * v1) + v3)) ≤ v5 then false else true)))), some (.int (zI (v3 + 1))), some (.int (zI v4)), some (.int (zI v5)), some (.int (zI v6)), none]) dX12_oneSet_160 rfl (by decide) rfl ?_
          refine r_goto (pc := 163) (tgt := 10) dX12_oneSet_163 (by decide) ?_
          exact RR.sub (L' := [some (.ref 81), some (.int (zI v1)), some (.int (zI (bI (if (h 99 ((144 * v1) + v3)) ≤ v5 then false else true)))), some (.int (zI (v3 + 1))), none, none, none, none]) (zSb_of (⟨rfl, ⟨rfl, ⟨rfl, ⟨rfl, trivial⟩⟩⟩⟩)) w
        refine r_icmp_ge (pc := 137) (x := v5) (y := (h 99 ((144 * v1) + v3))) (tgt := 144) dX12_oneSet_137 (by decide) hr17 hr18 (fun c => ?_) (fun c => ?_)
        · refine r_iconst (pc := 144) dX12_oneSet_144 ?_
          simp only [if_pos (c)] at kk19 ⊢
          exact kk19
        · refine r_iconst (pc := 140) dX12_oneSet_140 ?_
          refine r_goto (pc := 141) (tgt := 145) dX12_oneSet_141 (by decide) ?_
          simp only [if_neg (c)] at kk19 ⊢
          exact kk19
    · have w := w.2 (c)
      refine r_aload_n (pc := 56) (a := 81) dX12_oneSet_56 rfl ?_
      refine r_iload (pc := 57) (x := v4) dX12_oneSet_57 rfl ?_
      refine r_iload (pc := 59) (x := v6) dX12_oneSet_59 rfl ?_
      refine r_callV (μ2 := mX12_nextOf) (pc := 61) (as := [.int (zI v4), .int (zI v6)]) (st := []) rfl s0_81 ml_X12_202 im_X12_nextOf se_X12_nextOf okX12_nextOf ⟨by decide, by decide⟩ dX12_oneSet_61 (Nat.le_of_ble_eq_true rfl) rfl (Nat.le_of_ble_eq_true rfl) (by decide) (by decide) (zCC.mono w ?_)
      rintro r S' h20 ⟨rfl, x20, hr, w⟩
      subst hr
      show RR mX12_oneSet 0 0 64 [some (.ref 81), some (.int (zI v1)), some (.int (zI v2)), some (.int (zI v3)), some (.int (zI v4)), some (.int (zI v5)), some (.int (zI v6)), none] [.int (zI x20)] zS0 h20 (zQv zS0 K)
      refine r_bipush (pc := 64) (x := (-4)) dX12_oneSet_64 (by decide) ?_
      obtain ⟨hr21, w⟩ := w
      refine r_icmp_eq (pc := 66) (x := x20) (y := (-4)) (tgt := 113) dX12_oneSet_66 (by decide) hr21 (by decide) (fun c => ?_) (fun c => ?_)
      · have w := w.1 (c)
        refine r_iinc (pc := 113) (x := v6) (L' := [some (.ref 81), some (.int (zI v1)), some (.int (zI v2)), some (.int (zI v3)), some (.int (zI v4)), some (.int (zI v5)), some (.int (zI (v6 + 1))), none]) dX12_oneSet_113 rfl (by decide) rfl ?_
        refine r_goto (pc := 116) (tgt := 39) dX12_oneSet_116 (by decide) ?_
        exact w
      · have w := w.2 (c)
        refine r_aload_n (pc := 69) (a := 81) dX12_oneSet_69 rfl ?_
        refine r_iload (pc := 70) (x := v4) dX12_oneSet_70 rfl ?_
        refine r_iload_n (pc := 72) (x := v3) dX12_oneSet_72 rfl ?_
        refine r_iconst (pc := 73) dX12_oneSet_73 ?_
        obtain ⟨hx22, w⟩ := w
        refine r_irem (pc := 74) (x := v3) (y := 4) dX12_oneSet_74 hx22 (by decide) ?_
        refine r_iload (pc := 75) (x := v6) dX12_oneSet_75 rfl ?_
        refine r_callV (μ2 := mX12_stepCost) (pc := 77) (as := [.int (zI v4), .int (zI (v3 % 4)), .int (zI v6)]) (st := []) rfl s0_81 ml_X12_242 im_X12_stepCost se_X12_stepCost okX12_stepCost ⟨by decide, by decide⟩ dX12_oneSet_77 (Nat.le_of_ble_eq_true rfl) rfl (Nat.le_of_ble_eq_true rfl) (by decide) (by decide) (zCC.mono w ?_)
        rintro r S' h23 ⟨rfl, x23, hr, w⟩
        subst hr
        show RR mX12_oneSet 0 0 80 [some (.ref 81), some (.int (zI v1)), some (.int (zI v2)), some (.int (zI v3)), some (.int (zI v4)), some (.int (zI v5)), some (.int (zI v6)), none] [.int (zI x23)] zS0 h23 (zQv zS0 K)
        refine r_aload_n (pc := 80) (a := 81) dX12_oneSet_80 rfl ?_
        refine r_getR (pc := 81) (b := 99) fl_X12_61 dX12_oneSet_81 s0_81 rfl ?_
        refine r_aload_n (pc := 84) (a := 81) dX12_oneSet_84 rfl ?_
        refine r_iload_n (pc := 85) (x := v1) dX12_oneSet_85 rfl ?_
        refine r_iload (pc := 86) (x := v4) dX12_oneSet_86 rfl ?_
        refine r_iload (pc := 88) (x := v6) dX12_oneSet_88 rfl ?_
        refine r_callV (μ2 := mX12_behind) (pc := 90) (as := [.int (zI v1), .int (zI v4), .int (zI v6)]) (st := [.ref 99, .int (zI x23)]) rfl s0_81 ml_X12_246 im_X12_behind se_X12_behind okX12_behind ⟨by decide, by decide⟩ dX12_oneSet_90 (Nat.le_of_ble_eq_true rfl) rfl (Nat.le_of_ble_eq_true rfl) (by decide) (by decide) (zCC.mono w ?_)
        rintro r S' h24 ⟨rfl, x24, hr, w⟩
        subst hr
        show RR mX12_oneSet 0 0 93 [some (.ref 81), some (.int (zI v1)), some (.int (zI v2)), some (.int (zI v3)), some (.int (zI v4)), some (.int (zI v5)), some (.int (zI v6)), none] [.int (zI x24), .ref 99, .int (zI x23)] zS0 h24 (zQv zS0 K)
        obtain ⟨hb25, w⟩ := w
        refine r_iald (pc := 93) (i := x24) (x := (h24 99 x24)) dX12_oneSet_93 s0_99 ⟨hb25.1, hb25.2, (by decide)⟩ (rfl) ?_
        refine r_iadd (pc := 94) (x := x23) (y := (h24 99 x24)) dX12_oneSet_94 ?_
        refine r_istore (pc := 95) (L' := [some (.ref 81), some (.int (zI v1)), some (.int (zI v2)), some (.int (zI v3)), some (.int (zI v4)), some (.int (zI v5)), some (.int (zI v6)), some (.int (zI (x23 + (h24 99 x24))))]) dX12_oneSet_95 (by decide) rfl ?_
        refine r_iload (pc := 97) (x := (x23 + (h24 99 x24))) dX12_oneSet_97 rfl ?_
        refine r_iload (pc := 99) (x := v5) dX12_oneSet_99 rfl ?_
        obtain ⟨hr26, w⟩ := w
        obtain ⟨hr27, w⟩ := w
        have kk28 : RR mX12_oneSet 0 0 111 [some (.ref 81), some (.int (zI v1)), some (.int (zI v2)), some (.int (zI v3)), some (.int (zI v4)), some (.int (zI v5)), some (.int (zI v6)), some (.int (zI (x23 + (h24 99 x24))))] [.int (zI (if v5 ≤ (x23 + (h24 99 x24)) then v5 else (x23 + (h24 99 x24))))] zS0 h24 (zQv zS0 K) := by
          refine r_istore (pc := 111) (L' := [some (.ref 81), some (.int (zI v1)), some (.int (zI v2)), some (.int (zI v3)), some (.int (zI v4)), some (.int (zI (if v5 ≤ (x23 + (h24 99 x24)) then v5 else (x23 + (h24 99 x24))))), some (.int (zI v6)), some (.int (zI (x23 + (h24 99 x24))))]) dX12_oneSet_111 (by decide) rfl ?_
          refine r_iinc (pc := 113) (x := v6) (L' := [some (.ref 81), some (.int (zI v1)), some (.int (zI v2)), some (.int (zI v3)), some (.int (zI v4)), some (.int (zI (if v5 ≤ (x23 + (h24 99 x24)) then v5 else (x23 + (h24 99 x24))))), some (.int (zI (v6 + 1))), some (.int (zI (x23 + (h24 99 x24))))]) dX12_oneSet_113 rfl (by decide) rfl ?_
          refine r_goto (pc := 116) (tgt := 39) dX12_oneSet_116 (by decide) ?_
          exact RR.sub (L' := [some (.ref 81), some (.int (zI v1)), some (.int (zI v2)), some (.int (zI v3)), some (.int (zI v4)), some (.int (zI (if v5 ≤ (x23 + (h24 99 x24)) then v5 else (x23 + (h24 99 x24))))), some (.int (zI (v6 + 1))), none]) (zSb_of (⟨rfl, ⟨rfl, ⟨rfl, ⟨rfl, ⟨rfl, ⟨rfl, ⟨rfl, trivial⟩⟩⟩⟩⟩⟩⟩)) w
        refine r_icmp_ge (pc := 101) (x := (x23 + (h24 99 x24))) (y := v5) (tgt := 109) dX12_oneSet_101 (by decide) hr26 hr27 (fun c => ?_) (fun c => ?_)
        · refine r_iload (pc := 109) (x := v5) dX12_oneSet_109 rfl ?_
          simp only [if_pos (c)] at kk28 ⊢
          exact kk28
        · refine r_iload (pc := 104) (x := (x23 + (h24 99 x24))) dX12_oneSet_104 rfl ?_
          refine r_goto (pc := 106) (tgt := 111) dX12_oneSet_106 (by decide) ?_
          simp only [if_neg (c)] at kk28 ⊢
          exact kk28

set_option maxRecDepth 100000 in
set_option maxHeartbeats 4000000 in
theorem wX12_layLeast {h : zMm} {K : Int → zMm → Prop} (w : RR mX12_layLeast 0 0 7 [some (.ref 81), some (.int (zI 0)), none, none] [] zS0 (zU h 81 34 0) (zQi zS0 K)) : zCi mX12_layLeast [.ref 81] zS0 h K := by
  show RR mX12_layLeast 0 0 0 [some (.ref 81), none, none, none] [] zS0 h (zQi zS0 K)
  refine r_aload_n (pc := 0) (a := 81) dX12_layLeast_0 rfl ?_
  refine r_iconst (pc := 1) dX12_layLeast_1 ?_
  refine r_putI (pc := 2) (fi := 34) (x := 0) fl_X12_249 dX12_layLeast_2 s0_81 rfl ?_
  refine r_iconst (pc := 5) dX12_layLeast_5 ?_
  refine r_istore_n (pc := 6) (L' := [some (.ref 81), some (.int (zI 0)), none, none]) dX12_layLeast_6 (by decide) rfl ?_
  exact w

set_option maxRecDepth 100000 in
set_option maxHeartbeats 4000000 in
theorem bX12_layLeast_7 {h : zMm} {K : Int → zMm → Prop} {v1 : Int} (w : (zR v1 ∧ ((36 ≤ v1 → RR mX12_layLeast 0 0 76 [some (.ref 81), some (.int (zI ((iSl 1 (h 81 34)) - 1))), some (.int (zI ((iSl 1 (h 81 34)) - 1))), none] [] zS0 h (zQi zS0 K)) ∧ (¬ 36 ≤ v1 → zCb mX12_isGrass [.ref 81, .int (zI v1)] zS0 h (fun b2 h2 => ((0 ≤ v1 ∧ v1 < 36) ∧ zCb mX12_isGrass [.ref 81, .int (zI v1)] zS0 (zU h2 98 v1 (if b2 = true then (iSl 1 (h2 81 34)) else (0 : Int))) (fun b4 h4 => RR mX12_layLeast 0 0 7 [some (.ref 81), some (.int (zI (v1 + 1))), none, none] [] zS0 (zU h4 81 34 ((h2 81 34) + (bI (if b4 = true then true else false)))) (zQi zS0 K)))))))) : RR mX12_layLeast 0 0 7 [some (.ref 81), some (.int (zI v1)), none, none] [] zS0 h (zQi zS0 K) := by
  refine r_iload_n (pc := 7) (x := v1) dX12_layLeast_7 rfl ?_
  refine r_bipush (pc := 8) (x := 36) dX12_layLeast_8 (by decide) ?_
  obtain ⟨hr1, w⟩ := w
  refine r_icmp_ge (pc := 10) (x := v1) (y := 36) (tgt := 65) dX12_layLeast_10 (by decide) hr1 (by decide) (fun c => ?_) (fun c => ?_)
  · have w := w.1 (c)
    refine r_iconst (pc := 65) dX12_layLeast_65 ?_
    refine r_aload_n (pc := 66) (a := 81) dX12_layLeast_66 rfl ?_
    refine r_getI (pc := 67) (fi := 34) (x := (h 81 34)) fl_X12_249 dX12_layLeast_67 s0_81 rfl (rfl) ?_
    refine r_ishl (pc := 70) (x := 1) (y := (h 81 34)) dX12_layLeast_70 ?_
    refine r_iconst (pc := 71) dX12_layLeast_71 ?_
    refine r_isub (pc := 72) (x := (iSl 1 (h 81 34))) (y := 1) dX12_layLeast_72 ?_
    refine r_istore_n (pc := 73) (L' := [some (.ref 81), some (.int (zI ((iSl 1 (h 81 34)) - 1))), none, none]) dX12_layLeast_73 (by decide) rfl ?_
    refine r_iload_n (pc := 74) (x := ((iSl 1 (h 81 34)) - 1)) dX12_layLeast_74 rfl ?_
    refine r_istore_n (pc := 75) (L' := [some (.ref 81), some (.int (zI ((iSl 1 (h 81 34)) - 1))), some (.int (zI ((iSl 1 (h 81 34)) - 1))), none]) dX12_layLeast_75 (by decide) rfl ?_
    exact w
  · have w := w.2 (c)
    refine r_aload_n (pc := 13) (a := 81) dX12_layLeast_13 rfl ?_
    refine r_getR (pc := 14) (b := 98) fl_X12_58 dX12_layLeast_14 s0_81 rfl ?_
    refine r_iload_n (pc := 17) (x := v1) dX12_layLeast_17 rfl ?_
    refine r_aload_n (pc := 18) (a := 81) dX12_layLeast_18 rfl ?_
    refine r_iload_n (pc := 19) (x := v1) dX12_layLeast_19 rfl ?_
    refine r_callV (μ2 := mX12_isGrass) (pc := 20) (as := [.int (zI v1)]) (st := [.int (zI v1), .ref 98]) rfl s0_81 ml_X12_196 im_X12_isGrass se_X12_isGrass okX12_isGrass ⟨by decide, by decide⟩ dX12_layLeast_20 (Nat.le_of_ble_eq_true rfl) rfl (Nat.le_of_ble_eq_true rfl) (by decide) (by decide) (zCC.mono w ?_)
    rintro r S' h2 ⟨rfl, b2, hr, w⟩
    subst hr
    show RR mX12_layLeast 0 0 23 [some (.ref 81), some (.int (zI v1)), none, none] [.int (zI (bI b2)), .int (zI v1), .ref 98] zS0 h2 (zQi zS0 K)
    have kk6 : RR mX12_layLeast 0 0 36 [some (.ref 81), some (.int (zI v1)), none, none] [.int (zI (if b2 = true then (iSl 1 (h2 81 34)) else (0 : Int))), .int (zI v1), .ref 98] zS0 h2 (zQi zS0 K) := by
      obtain ⟨hb3, w⟩ := w
      refine r_iast (pc := 36) (i := v1) (x := (if b2 = true then (iSl 1 (h2 81 34)) else (0 : Int))) dX12_layLeast_36 s0_98 ⟨hb3.1, hb3.2, (by decide)⟩  ?_
      refine r_aload_n (pc := 37) (a := 81) dX12_layLeast_37 rfl ?_
      refine r_dup (pc := 38) rfl dX12_layLeast_38 ?_
      refine r_getI (pc := 39) (fi := 34) (x := (h2 81 34)) fl_X12_249 dX12_layLeast_39 s0_81 rfl (zU_ne (by omega)) ?_
      refine r_aload_n (pc := 42) (a := 81) dX12_layLeast_42 rfl ?_
      refine r_iload_n (pc := 43) (x := v1) dX12_layLeast_43 rfl ?_
      refine r_callV (μ2 := mX12_isGrass) (pc := 44) (as := [.int (zI v1)]) (st := [.int (zI (h2 81 34)), .ref 81]) rfl s0_81 ml_X12_196 im_X12_isGrass se_X12_isGrass okX12_isGrass ⟨by decide, by decide⟩ dX12_layLeast_44 (Nat.le_of_ble_eq_true rfl) rfl (Nat.le_of_ble_eq_true rfl) (by decide) (by decide) (zCC.mono w ?_)
      rintro r S' h4 ⟨rfl, b4, hr, w⟩
      subst hr
      show RR mX12_layLeast 0 0 47 [some (.ref 81), some (.int (zI v1)), none, none] [.int (zI (bI b4)), .int (zI (h2 81 34)), .ref 81] zS0 h4 (zQi zS0 K)
      have kk5 : RR mX12_layLeast 0 0 55 [some (.ref 81), some (.int (zI v1)), none, none] [.int (zI (bI (if b4 = true then true else false))), .int (zI (h2 81 34)), .ref 81] zS0 h4 (zQi zS0 K) := by
        refine r_iadd (pc := 55) (x := (h2 81 34)) (y := (bI (if b4 = true then true else false))) dX12_layLeast_55 ?_
        refine r_putI (pc := 56) (fi := 34) (x := ((h2 81 34) + (bI (if b4 = true then true else false)))) fl_X12_249 dX12_layLeast_56 s0_81 rfl ?_
        refine r_iinc (pc := 59) (x := v1) (L' := [some (.ref 81), some (.int (zI (v1 + 1))), none, none]) dX12_layLeast_59 rfl (by decide) rfl ?_
        refine r_goto (pc := 62) (tgt := 7) dX12_layLeast_62 (by decide) ?_
        exact w
      refine r_if_eq (pc := 47) (x := (bI b4)) (tgt := 54) dX12_layLeast_47 (by decide) (bI_R _) (fun c => ?_) (fun c => ?_)
      · refine r_iconst (pc := 54) dX12_layLeast_54 ?_
        simp only [if_neg (bI_ft (bI_0.mp c))] at kk5 ⊢
        exact kk5
      · refine r_iconst (pc := 50) dX12_layLeast_50 ?_
        refine r_goto (pc := 51) (tgt := 55) dX12_layLeast_51 (by decide) ?_
        simp only [if_pos (bI_n.mp c)] at kk5 ⊢
        exact kk5
    refine r_if_eq (pc := 23) (x := (bI b2)) (tgt := 35) dX12_layLeast_23 (by decide) (bI_R _) (fun c => ?_) (fun c => ?_)
    · refine r_iconst (pc := 35) dX12_layLeast_35 ?_
      simp only [if_neg (bI_ft (bI_0.mp c))] at kk6 ⊢
      exact kk6
    · refine r_iconst (pc := 26) dX12_layLeast_26 ?_
      refine r_aload_n (pc := 27) (a := 81) dX12_layLeast_27 rfl ?_
      refine r_getI (pc := 28) (fi := 34) (x := (h2 81 34)) fl_X12_249 dX12_layLeast_28 s0_81 rfl (rfl) ?_
      refine r_ishl (pc := 31) (x := 1) (y := (h2 81 34)) dX12_layLeast_31 ?_
      refine r_goto (pc := 32) (tgt := 36) dX12_layLeast_32 (by decide) ?_
      simp only [if_pos (bI_n.mp c)] at kk6 ⊢
      exact kk6

set_option maxRecDepth 100000 in
set_option maxHeartbeats 4000000 in
theorem bX12_layLeast_76 {h : zMm} {K : Int → zMm → Prop} {v1 : Int} {v2 : Int} (w : (zR v2 ∧ ((v2 < 0 → ((0 ≤ (h 88 0) ∧ (h 88 0) < 36) ∧ ((0 ≤ ((144 * (h 98 (h 88 0))) + (4 * (h 88 0))) ∧ ((144 * (h 98 (h 88 0))) + (4 * (h 88 0))) < 18432) ∧ K (h 99 ((144 * (h 98 (h 88 0))) + (4 * (h 88 0)))) h))) ∧ (¬ v2 < 0 → RR mX12_layLeast 0 0 82 [some (.ref 81), some (.int (zI v1)), some (.int (zI v2)), some (.int (zI 0))] [] zS0 h (zQi zS0 K))))) : RR mX12_layLeast 0 0 76 [some (.ref 81), some (.int (zI v1)), some (.int (zI v2)), none] [] zS0 h (zQi zS0 K) := by
  refine r_iload_n (pc := 76) (x := v2) dX12_layLeast_76 rfl ?_
  obtain ⟨hr7, w⟩ := w
  refine r_if_lt (pc := 77) (x := v2) (tgt := 134) dX12_layLeast_77 (by decide) hr7 (fun c => ?_) (fun c => ?_)
  · have w := w.1 (c)
    refine r_aload_n (pc := 134) (a := 81) dX12_layLeast_134 rfl ?_
    refine r_getR (pc := 135) (b := 99) fl_X12_61 dX12_layLeast_135 s0_81 rfl ?_
    refine r_sipush (pc := 138) (x := 144) dX12_layLeast_138 (by decide) ?_
    refine r_aload_n (pc := 141) (a := 81) dX12_layLeast_141 rfl ?_
    refine r_getR (pc := 142) (b := 98) fl_X12_58 dX12_layLeast_142 s0_81 rfl ?_
    refine r_aload_n (pc := 145) (a := 81) dX12_layLeast_145 rfl ?_
    refine r_getR (pc := 146) (b := 88) fl_X12_28 dX12_layLeast_146 s0_81 rfl ?_
    refine r_iconst (pc := 149) dX12_layLeast_149 ?_
    refine r_iald (pc := 150) (i := 0) (x := (h 88 0)) dX12_layLeast_150 s0_88 (by decide) (rfl) ?_
    obtain ⟨hb8, w⟩ := w
    refine r_iald (pc := 151) (i := (h 88 0)) (x := (h 98 (h 88 0))) dX12_layLeast_151 s0_98 ⟨hb8.1, hb8.2, (by decide)⟩ (rfl) ?_
    refine r_imul (pc := 152) (x := 144) (y := (h 98 (h 88 0))) dX12_layLeast_152 ?_
    refine r_iconst (pc := 153) dX12_layLeast_153 ?_
    refine r_aload_n (pc := 154) (a := 81) dX12_layLeast_154 rfl ?_
    refine r_getR (pc := 155) (b := 88) fl_X12_28 dX12_layLeast_155 s0_81 rfl ?_
    refine r_iconst (pc := 158) dX12_layLeast_158 ?_
    refine r_iald (pc := 159) (i := 0) (x := (h 88 0)) dX12_layLeast_159 s0_88 (by decide) (rfl) ?_
    refine r_imul (pc := 160) (x := 4) (y := (h 88 0)) dX12_layLeast_160 ?_
    refine r_iadd (pc := 161) (x := (144 * (h 98 (h 88 0)))) (y := (4 * (h 88 0))) dX12_layLeast_161 ?_
    obtain ⟨hb9, w⟩ := w
    refine r_iald (pc := 162) (i := ((144 * (h 98 (h 88 0))) + (4 * (h 88 0)))) (x := (h 99 ((144 * (h 98 (h 88 0))) + (4 * (h 88 0))))) dX12_layLeast_162 s0_99 ⟨hb9.1, hb9.2, (by decide)⟩ (rfl) ?_
    exact r_iret (st := []) (pc := 163) (x := (h 99 ((144 * (h 98 (h 88 0))) + (4 * (h 88 0))))) (ty := .int) dX12_layLeast_163 rfl rfl rfl (by decide) ⟨rfl, _, rfl, w⟩
  · have w := w.2 (c)
    refine r_iconst (pc := 80) dX12_layLeast_80 ?_
    refine r_istore_n (pc := 81) (L' := [some (.ref 81), some (.int (zI v1)), some (.int (zI v2)), some (.int (zI 0))]) dX12_layLeast_81 (by decide) rfl ?_
    exact w

set_option maxRecDepth 100000 in
set_option maxHeartbeats 4000000 in
theorem bX12_layLeast_82 {h : zMm} {K : Int → zMm → Prop} {v1 : Int} {v2 : Int} {v3 : Int} (w : (zR v3 ∧ (zR v2 ∧ (zR v1 ∧ ((144 ≤ v3 → ((v1 ≤ v2 → RR mX12_layLeast 0 0 76 [some (.ref 81), some (.int (zI v1)), some (.int (zI (v2 + (-1)))), none] [] zS0 h (zQi zS0 K)) ∧ (¬ v1 ≤ v2 → zCv mX12_oneSet [.ref 81, .int (zI v2)] zS0 h (fun h16 => RR mX12_layLeast 0 0 76 [some (.ref 81), some (.int (zI v1)), some (.int (zI (v2 + (-1)))), none] [] zS0 h16 (zQi zS0 K))))) ∧ (¬ 144 ≤ v3 → ((0 ≤ ((144 * v2) + v3) ∧ ((144 * v2) + v3) < 18432) ∧ RR mX12_layLeast 0 0 82 [some (.ref 81), some (.int (zI v1)), some (.int (zI v2)), some (.int (zI (v3 + 1)))] [] zS0 (zU h 99 ((144 * v2) + v3) (if v2 = v1 then (0 : Int) else (1000000 : Int))) (zQi zS0 K)))))))) : RR mX12_layLeast 0 0 82 [some (.ref 81), some (.int (zI v1)), some (.int (zI v2)), some (.int (zI v3))] [] zS0 h (zQi zS0 K) := by
  refine r_iload_n (pc := 82) (x := v3) dX12_layLeast_82 rfl ?_
  refine r_sipush (pc := 83) (x := 144) dX12_layLeast_83 (by decide) ?_
  obtain ⟨hr10, w⟩ := w
  obtain ⟨hr12, w⟩ := w
  obtain ⟨hr14, w⟩ := w
  refine r_icmp_ge (pc := 86) (x := v3) (y := 144) (tgt := 118) dX12_layLeast_86 (by decide) hr10 (by decide) (fun c => ?_) (fun c => ?_)
  · have w := w.1 (c)
    refine r_iload_n (pc := 118) (x := v2) dX12_layLeast_118 rfl ?_
    refine r_iload_n (pc := 119) (x := v1) dX12_layLeast_119 rfl ?_
    refine r_icmp_ge (pc := 120) (x := v2) (y := v1) (tgt := 128) dX12_layLeast_120 (by decide) hr12 hr14 (fun c => ?_) (fun c => ?_)
    · have w := w.1 (c)
      refine r_iinc (pc := 128) (x := v2) (L' := [some (.ref 81), some (.int (zI v1)), some (.int (zI (v2 + (-1)))), some (.int (zI v3))]) dX12_layLeast_128 rfl (by decide) rfl ?_
      refine r_goto (pc := 131) (tgt := 76) dX12_layLeast_131 (by decide) ?_
      exact RR.sub (L' := [some (.ref 81), some (.int (zI v1)), some (.int (zI (v2 + (-1)))), none]) (zSb_of (⟨rfl, ⟨rfl, ⟨rfl, trivial⟩⟩⟩)) w
    · have w := w.2 (c)
      refine r_aload_n (pc := 123) (a := 81) dX12_layLeast_123 rfl ?_
      refine r_iload_n (pc := 124) (x := v2) dX12_layLeast_124 rfl ?_
      refine r_callV (μ2 := mX12_oneSet) (pc := 125) (as := [.int (zI v2)]) (st := []) rfl s0_81 ml_X12_253 im_X12_oneSet se_X12_oneSet okX12_oneSet ⟨by decide, by decide⟩ dX12_layLeast_125 (Nat.le_of_ble_eq_true rfl) rfl (Nat.le_of_ble_eq_true rfl) (by decide) (by decide) (zCC.mono w ?_)
      rintro r S' h16 ⟨rfl, hr, w⟩
      subst hr
      show RR mX12_layLeast 0 0 128 [some (.ref 81), some (.int (zI v1)), some (.int (zI v2)), some (.int (zI v3))] [] zS0 h16 (zQi zS0 K)
      refine r_iinc (pc := 128) (x := v2) (L' := [some (.ref 81), some (.int (zI v1)), some (.int (zI (v2 + (-1)))), some (.int (zI v3))]) dX12_layLeast_128 rfl (by decide) rfl ?_
      refine r_goto (pc := 131) (tgt := 76) dX12_layLeast_131 (by decide) ?_
      exact RR.sub (L' := [some (.ref 81), some (.int (zI v1)), some (.int (zI (v2 + (-1)))), none]) (zSb_of (⟨rfl, ⟨rfl, ⟨rfl, trivial⟩⟩⟩)) w
  · have w := w.2 (c)
    refine r_aload_n (pc := 89) (a := 81) dX12_layLeast_89 rfl ?_
    refine r_getR (pc := 90) (b := 99) fl_X12_61 dX12_layLeast_90 s0_81 rfl ?_
    refine r_sipush (pc := 93) (x := 144) dX12_layLeast_93 (by decide) ?_
    refine r_iload_n (pc := 96) (x := v2) dX12_layLeast_96 rfl ?_
    refine r_imul (pc := 97) (x := 144) (y := v2) dX12_layLeast_97 ?_
    refine r_iload_n (pc := 98) (x := v3) dX12_layLeast_98 rfl ?_
    refine r_iadd (pc := 99) (x := (144 * v2)) (y := v3) dX12_layLeast_99 ?_
    refine r_iload_n (pc := 100) (x := v2) dX12_layLeast_100 rfl ?_
    refine r_iload_n (pc := 101) (x := v1) dX12_layLeast_101 rfl ?_
    have kk18 : RR mX12_layLeast 0 0 111 [some (.ref 81), some (.int (zI v1)), some (.int (zI v2)), some (.int (zI v3))] [.int (zI (if v2 = v1 then (0 : Int) else (1000000 : Int))), .int (zI ((144 * v2) + v3)), .ref 99] zS0 h (zQi zS0 K) := by
      obtain ⟨hb17, w⟩ := w
      refine r_iast (pc := 111) (i := ((144 * v2) + v3)) (x := (if v2 = v1 then (0 : Int) else (1000000 : Int))) dX12_layLeast_111 s0_99 ⟨hb17.1, hb17.2, (by decide)⟩  ?_
      refine r_iinc (pc := 112) (x := v3) (L' := [some (.ref 81), some (.int (zI v1)), some (.int (zI v2)), some (.int (zI (v3 + 1)))]) dX12_layLeast_112 rfl (by decide) rfl ?_
      refine r_goto (pc := 115) (tgt := 82) dX12_layLeast_115 (by decide) ?_
      exact w
    refine r_icmp_ne (pc := 102) (x := v2) (y := v1) (tgt := 109) dX12_layLeast_102 (by decide) hr12 hr14 (fun c => ?_) (fun c => ?_)
    · refine r_ldcI (pc := 109) (x := 1000000) dX12_layLeast_109 kc_X12_252 ?_
      simp only [if_neg (c)] at kk18 ⊢
      exact kk18
    · refine r_iconst (pc := 105) dX12_layLeast_105 ?_
      refine r_goto (pc := 106) (tgt := 111) dX12_layLeast_106 (by decide) ?_
      simp only [if_pos (c)] at kk18 ⊢
      exact kk18

set_option maxRecDepth 100000 in
set_option maxHeartbeats 4000000 in
theorem wX12_layWay {h : zMm} {K : zMm → Prop} (w : ((0 ≤ (h 88 0) ∧ (h 88 0) < 36) ∧ RR mX12_layWay 0 0 41 [some (.ref 81), some (.int (zI (h 98 (h 88 0)))), some (.int (zI (h 88 0))), some (.int (zI 0)), some (.int (zI ((iSl 1 (h 81 34)) - 1))), none, none] [] zS0 (zU (zU h 81 36 0) 81 37 0) (zQv zS0 K))) : zCv mX12_layWay [.ref 81] zS0 h K := by
  show RR mX12_layWay 0 0 0 [some (.ref 81), none, none, none, none, none, none] [] zS0 h (zQv zS0 K)
  refine r_aload_n (pc := 0) (a := 81) dX12_layWay_0 rfl ?_
  refine r_getR (pc := 1) (b := 98) fl_X12_58 dX12_layWay_1 s0_81 rfl ?_
  refine r_aload_n (pc := 4) (a := 81) dX12_layWay_4 rfl ?_
  refine r_getR (pc := 5) (b := 88) fl_X12_28 dX12_layWay_5 s0_81 rfl ?_
  refine r_iconst (pc := 8) dX12_layWay_8 ?_
  refine r_iald (pc := 9) (i := 0) (x := (h 88 0)) dX12_layWay_9 s0_88 (by decide) (rfl) ?_
  obtain ⟨hb1, w⟩ := w
  refine r_iald (pc := 10) (i := (h 88 0)) (x := (h 98 (h 88 0))) dX12_layWay_10 s0_98 ⟨hb1.1, hb1.2, (by decide)⟩ (rfl) ?_
  refine r_istore_n (pc := 11) (L' := [some (.ref 81), some (.int (zI (h 98 (h 88 0)))), none, none, none, none, none]) dX12_layWay_11 (by decide) rfl ?_
  refine r_aload_n (pc := 12) (a := 81) dX12_layWay_12 rfl ?_
  refine r_getR (pc := 13) (b := 88) fl_X12_28 dX12_layWay_13 s0_81 rfl ?_
  refine r_iconst (pc := 16) dX12_layWay_16 ?_
  refine r_iald (pc := 17) (i := 0) (x := (h 88 0)) dX12_layWay_17 s0_88 (by decide) (rfl) ?_
  refine r_istore_n (pc := 18) (L' := [some (.ref 81), some (.int (zI (h 98 (h 88 0)))), some (.int (zI (h 88 0))), none, none, none, none]) dX12_layWay_18 (by decide) rfl ?_
  refine r_iconst (pc := 19) dX12_layWay_19 ?_
  refine r_istore_n (pc := 20) (L' := [some (.ref 81), some (.int (zI (h 98 (h 88 0)))), some (.int (zI (h 88 0))), some (.int (zI 0)), none, none, none]) dX12_layWay_20 (by decide) rfl ?_
  refine r_aload_n (pc := 21) (a := 81) dX12_layWay_21 rfl ?_
  refine r_iconst (pc := 22) dX12_layWay_22 ?_
  refine r_putI (pc := 23) (fi := 36) (x := 0) fl_X12_256 dX12_layWay_23 s0_81 rfl ?_
  refine r_aload_n (pc := 26) (a := 81) dX12_layWay_26 rfl ?_
  refine r_iconst (pc := 27) dX12_layWay_27 ?_
  refine r_putI (pc := 28) (fi := 37) (x := 0) fl_X12_259 dX12_layWay_28 s0_81 rfl ?_
  refine r_iconst (pc := 31) dX12_layWay_31 ?_
  refine r_aload_n (pc := 32) (a := 81) dX12_layWay_32 rfl ?_
  refine r_getI (pc := 33) (fi := 34) (x := (h 81 34)) fl_X12_249 dX12_layWay_33 s0_81 rfl ((zU_ne (by omega)).trans (zU_ne (by omega))) ?_
  refine r_ishl (pc := 36) (x := 1) (y := (h 81 34)) dX12_layWay_36 ?_
  refine r_iconst (pc := 37) dX12_layWay_37 ?_
  refine r_isub (pc := 38) (x := (iSl 1 (h 81 34))) (y := 1) dX12_layWay_38 ?_
  refine r_istore (pc := 39) (L' := [some (.ref 81), some (.int (zI (h 98 (h 88 0)))), some (.int (zI (h 88 0))), some (.int (zI 0)), some (.int (zI ((iSl 1 (h 81 34)) - 1))), none, none]) dX12_layWay_39 (by decide) rfl ?_
  exact w

set_option maxRecDepth 100000 in
set_option maxHeartbeats 4000000 in
theorem bX12_layWay_41 {h : zMm} {K : zMm → Prop} {v1 : Int} {v2 : Int} {v3 : Int} {v4 : Int} (w : (zR v1 ∧ (zR v4 ∧ ((v1 = v4 → K h) ∧ (¬ v1 = v4 → RR mX12_layWay 0 0 63 [some (.ref 81), some (.int (zI v1)), some (.int (zI v2)), some (.int (zI v3)), some (.int (zI v4)), some (.int (zI 0)), some (.int (zI (((144 * v1) + (4 * v2)) + v3)))] [] zS0 h (zQv zS0 K)))))) : RR mX12_layWay 0 0 41 [some (.ref 81), some (.int (zI v1)), some (.int (zI v2)), some (.int (zI v3)), some (.int (zI v4)), none, none] [] zS0 h (zQv zS0 K) := by
  refine r_iload_n (pc := 41) (x := v1) dX12_layWay_41 rfl ?_
  refine r_iload (pc := 42) (x := v4) dX12_layWay_42 rfl ?_
  obtain ⟨hr2, w⟩ := w
  obtain ⟨hr3, w⟩ := w
  refine r_icmp_eq (pc := 44) (x := v1) (y := v4) (tgt := 172) dX12_layWay_44 (by decide) hr2 hr3 (fun c => ?_) (fun c => ?_)
  · have w := w.1 (c)
    exact r_ret (st := []) (pc := 172) dX12_layWay_172 rfl rfl (by decide) ⟨rfl, rfl, w⟩
  · have w := w.2 (c)
    refine r_iconst (pc := 47) dX12_layWay_47 ?_
    refine r_istore (pc := 48) (L' := [some (.ref 81), some (.int (zI v1)), some (.int (zI v2)), some (.int (zI v3)), some (.int (zI v4)), some (.int (zI 0)), none]) dX12_layWay_48 (by decide) rfl ?_
    refine r_sipush (pc := 50) (x := 144) dX12_layWay_50 (by decide) ?_
    refine r_iload_n (pc := 53) (x := v1) dX12_layWay_53 rfl ?_
    refine r_imul (pc := 54) (x := 144) (y := v1) dX12_layWay_54 ?_
    refine r_iconst (pc := 55) dX12_layWay_55 ?_
    refine r_iload_n (pc := 56) (x := v2) dX12_layWay_56 rfl ?_
    refine r_imul (pc := 57) (x := 4) (y := v2) dX12_layWay_57 ?_
    refine r_iadd (pc := 58) (x := (144 * v1)) (y := (4 * v2)) dX12_layWay_58 ?_
    refine r_iload_n (pc := 59) (x := v3) dX12_layWay_59 rfl ?_
    refine r_iadd (pc := 60) (x := ((144 * v1) + (4 * v2))) (y := v3) dX12_layWay_60 ?_
    refine r_istore (pc := 61) (L' := [some (.ref 81), some (.int (zI v1)), some (.int (zI v2)), some (.int (zI v3)), some (.int (zI v4)), some (.int (zI 0)), some (.int (zI (((144 * v1) + (4 * v2)) + v3)))]) dX12_layWay_61 (by decide) rfl ?_
    exact w

set_option maxRecDepth 100000 in
set_option maxHeartbeats 4000000 in
theorem bX12_layWay_63 {h : zMm} {K : zMm → Prop} {v1 : Int} {v2 : Int} {v3 : Int} {v4 : Int} {v5 : Int} {v6 : Int} (w : zCi mX12_nextOf [.ref 81, .int (zI v2), .int (zI v5)] zS0 h (fun x4 h4 => (zR x4 ∧ ((x4 = (-4) → RR mX12_layWay 0 0 63 [some (.ref 81), some (.int (zI v1)), some (.int (zI v2)), some (.int (zI v3)), some (.int (zI v4)), some (.int (zI (v5 + 1))), some (.int (zI v6))] [] zS0 h4 (zQv zS0 K)) ∧ (¬ x4 = (-4) → zCi mX12_stepCost [.ref 81, .int (zI v2), .int (zI v3), .int (zI v5)] zS0 h4 (fun x6 h6 => zCi mX12_behind [.ref 81, .int (zI v1), .int (zI v2), .int (zI v5)] zS0 h6 (fun x7 h7 => ((0 ≤ x7 ∧ x7 < 18432) ∧ ((0 ≤ v6 ∧ v6 < 18432) ∧ (zR (x6 + (h7 99 x7)) ∧ (zR (h7 99 v6) ∧ (((x6 + (h7 99 x7)) = (h7 99 v6) → zCi mX12_quarters [.int (zI v3), .int (zI v5)] zS0 h7 (fun x12 h12 => ((0 ≤ (h12 81 36) ∧ (h12 81 36) < 1000) ∧ zCi mX12_nextOf [.ref 81, .int (zI v2), .int (zI v5)] zS0 (zU (zU (zU h12 81 37 ((h7 81 37) + x12)) 100 (h12 81 36) v5) 81 36 ((h12 81 36) + 1)) (fun x14 h14 => ((0 ≤ x14 ∧ x14 < 36) ∧ RR mX12_layWay 0 0 41 [some (.ref 81), some (.int (zI (iO v1 (h14 98 x14)))), some (.int (zI x14)), some (.int (zI v5)), some (.int (zI v4)), none, none] [] zS0 h14 (zQv zS0 K)))))) ∧ (¬ (x6 + (h7 99 x7)) = (h7 99 v6) → RR mX12_layWay 0 0 63 [some (.ref 81), some (.int (zI v1)), some (.int (zI v2)), some (.int (zI v3)), some (.int (zI v4)), some (.int (zI (v5 + 1))), some (.int (zI v6))] [] zS0 h7 (zQv zS0 K)))))))))))))) : RR mX12_layWay 0 0 63 [some (.ref 81), some (.int (zI v1)), some (.int (zI v2)), some (.int (zI v3)), some (.int (zI v4)), some (.int (zI v5)), some (.int (zI v6))] [] zS0 h (zQv zS0 K) := by
  refine r_aload_n (pc := 63) (a := 81) dX12_layWay_63 rfl ?_
  refine r_iload_n (pc := 64) (x := v2) dX12_layWay_64 rfl ?_
  refine r_iload (pc := 65) (x := v5) dX12_layWay_65 rfl ?_
  refine r_callV (μ2 := mX12_nextOf) (pc := 67) (as := [.int (zI v2), .int (zI v5)]) (st := []) rfl s0_81 ml_X12_202 im_X12_nextOf se_X12_nextOf okX12_nextOf ⟨by decide, by decide⟩ dX12_layWay_67 (Nat.le_of_ble_eq_true rfl) rfl (Nat.le_of_ble_eq_true rfl) (by decide) (by decide) (zCC.mono w ?_)
  rintro r S' h4 ⟨rfl, x4, hr, w⟩
  subst hr
  show RR mX12_layWay 0 0 70 [some (.ref 81), some (.int (zI v1)), some (.int (zI v2)), some (.int (zI v3)), some (.int (zI v4)), some (.int (zI v5)), some (.int (zI v6))] [.int (zI x4)] zS0 h4 (zQv zS0 K)
  refine r_bipush (pc := 70) (x := (-4)) dX12_layWay_70 (by decide) ?_
  obtain ⟨hr5, w⟩ := w
  refine r_icmp_eq (pc := 72) (x := x4) (y := (-4)) (tgt := 107) dX12_layWay_72 (by decide) hr5 (by decide) (fun c => ?_) (fun c => ?_)
  · have w := w.1 (c)
    refine r_iinc (pc := 107) (x := v5) (L' := [some (.ref 81), some (.int (zI v1)), some (.int (zI v2)), some (.int (zI v3)), some (.int (zI v4)), some (.int (zI (v5 + 1))), some (.int (zI v6))]) dX12_layWay_107 rfl (by decide) rfl ?_
    refine r_goto (pc := 110) (tgt := 63) dX12_layWay_110 (by decide) ?_
    exact w
  · have w := w.2 (c)
    refine r_aload_n (pc := 75) (a := 81) dX12_layWay_75 rfl ?_
    refine r_iload_n (pc := 76) (x := v2) dX12_layWay_76 rfl ?_
    refine r_iload_n (pc := 77) (x := v3) dX12_layWay_77 rfl ?_
    refine r_iload (pc := 78) (x := v5) dX12_layWay_78 rfl ?_
    refine r_callV (μ2 := mX12_stepCost) (pc := 80) (as := [.int (zI v2), .int (zI v3), .int (zI v5)]) (st := []) rfl s0_81 ml_X12_242 im_X12_stepCost se_X12_stepCost okX12_stepCost ⟨by decide, by decide⟩ dX12_layWay_80 (Nat.le_of_ble_eq_true rfl) rfl (Nat.le_of_ble_eq_true rfl) (by decide) (by decide) (zCC.mono w ?_)
    rintro r S' h6 ⟨rfl, x6, hr, w⟩
    subst hr
    show RR mX12_layWay 0 0 83 [some (.ref 81), some (.int (zI v1)), some (.int (zI v2)), some (.int (zI v3)), some (.int (zI v4)), some (.int (zI v5)), some (.int (zI v6))] [.int (zI x6)] zS0 h6 (zQv zS0 K)
    refine r_aload_n (pc := 83) (a := 81) dX12_layWay_83 rfl ?_
    refine r_getR (pc := 84) (b := 99) fl_X12_61 dX12_layWay_84 s0_81 rfl ?_
    refine r_aload_n (pc := 87) (a := 81) dX12_layWay_87 rfl ?_
    refine r_iload_n (pc := 88) (x := v1) dX12_layWay_88 rfl ?_
    refine r_iload_n (pc := 89) (x := v2) dX12_layWay_89 rfl ?_
    refine r_iload (pc := 90) (x := v5) dX12_layWay_90 rfl ?_
    refine r_callV (μ2 := mX12_behind) (pc := 92) (as := [.int (zI v1), .int (zI v2), .int (zI v5)]) (st := [.ref 99, .int (zI x6)]) rfl s0_81 ml_X12_246 im_X12_behind se_X12_behind okX12_behind ⟨by decide, by decide⟩ dX12_layWay_92 (Nat.le_of_ble_eq_true rfl) rfl (Nat.le_of_ble_eq_true rfl) (by decide) (by decide) (zCC.mono w ?_)
    rintro r S' h7 ⟨rfl, x7, hr, w⟩
    subst hr
    show RR mX12_layWay 0 0 95 [some (.ref 81), some (.int (zI v1)), some (.int (zI v2)), some (.int (zI v3)), some (.int (zI v4)), some (.int (zI v5)), some (.int (zI v6))] [.int (zI x7), .ref 99, .int (zI x6)] zS0 h7 (zQv zS0 K)
    obtain ⟨hb8, w⟩ := w
    refine r_iald (pc := 95) (i := x7) (x := (h7 99 x7)) dX12_layWay_95 s0_99 ⟨hb8.1, hb8.2, (by decide)⟩ (rfl) ?_
    refine r_iadd (pc := 96) (x := x6) (y := (h7 99 x7)) dX12_layWay_96 ?_
    refine r_aload_n (pc := 97) (a := 81) dX12_layWay_97 rfl ?_
    refine r_getR (pc := 98) (b := 99) fl_X12_61 dX12_layWay_98 s0_81 rfl ?_
    refine r_iload (pc := 101) (x := v6) dX12_layWay_101 rfl ?_
    obtain ⟨hb9, w⟩ := w
    refine r_iald (pc := 103) (i := v6) (x := (h7 99 v6)) dX12_layWay_103 s0_99 ⟨hb9.1, hb9.2, (by decide)⟩ (rfl) ?_
    obtain ⟨hr10, w⟩ := w
    obtain ⟨hr11, w⟩ := w
    refine r_icmp_eq (pc := 104) (x := (x6 + (h7 99 x7))) (y := (h7 99 v6)) (tgt := 113) dX12_layWay_104 (by decide) hr10 hr11 (fun c => ?_) (fun c => ?_)
    · have w := w.1 (c)
      refine r_aload_n (pc := 113) (a := 81) dX12_layWay_113 rfl ?_
      refine r_dup (pc := 114) rfl dX12_layWay_114 ?_
      refine r_getI (pc := 115) (fi := 37) (x := (h7 81 37)) fl_X12_259 dX12_layWay_115 s0_81 rfl (rfl) ?_
      refine r_iload_n (pc := 118) (x := v3) dX12_layWay_118 rfl ?_
      refine r_iload (pc := 119) (x := v5) dX12_layWay_119 rfl ?_
      refine r_callS (μ2 := mX12_quarters) (pc := 121) (as := [.int (zI v3), .int (zI v5)]) (st := [.int (zI (h7 81 37)), .ref 81]) ml_X12_199 sm_X12_quarters okX12_quarters ⟨by decide, by decide⟩ dX12_layWay_121 (Nat.le_of_ble_eq_true rfl) rfl (Nat.le_of_ble_eq_true rfl) (by decide) (by decide) (zCC.mono w ?_)
      rintro r S' h12 ⟨rfl, x12, hr, w⟩
      subst hr
      show RR mX12_layWay 0 0 124 [some (.ref 81), some (.int (zI v1)), some (.int (zI v2)), some (.int (zI v3)), some (.int (zI v4)), some (.int (zI v5)), some (.int (zI v6))] [.int (zI x12), .int (zI (h7 81 37)), .ref 81] zS0 h12 (zQv zS0 K)
      refine r_iadd (pc := 124) (x := (h7 81 37)) (y := x12) dX12_layWay_124 ?_
      refine r_putI (pc := 125) (fi := 37) (x := ((h7 81 37) + x12)) fl_X12_259 dX12_layWay_125 s0_81 rfl ?_
      refine r_aload_n (pc := 128) (a := 81) dX12_layWay_128 rfl ?_
      refine r_getR (pc := 129) (b := 100) fl_X12_64 dX12_layWay_129 s0_81 rfl ?_
      refine r_aload_n (pc := 132) (a := 81) dX12_layWay_132 rfl ?_
      refine r_getI (pc := 133) (fi := 36) (x := (h12 81 36)) fl_X12_256 dX12_layWay_133 s0_81 rfl (zU_ne (by omega)) ?_
      refine r_iload (pc := 136) (x := v5) dX12_layWay_136 rfl ?_
      obtain ⟨hb13, w⟩ := w
      refine r_iast (pc := 138) (i := (h12 81 36)) (x := v5) dX12_layWay_138 s0_100 ⟨hb13.1, hb13.2, (by decide)⟩  ?_
      refine r_aload_n (pc := 139) (a := 81) dX12_layWay_139 rfl ?_
      refine r_dup (pc := 140) rfl dX12_layWay_140 ?_
      refine r_getI (pc := 141) (fi := 36) (x := (h12 81 36)) fl_X12_256 dX12_layWay_141 s0_81 rfl ((zU_ne (by omega)).trans (zU_ne (by omega))) ?_
      refine r_iconst (pc := 144) dX12_layWay_144 ?_
      refine r_iadd (pc := 145) (x := (h12 81 36)) (y := 1) dX12_layWay_145 ?_
      refine r_putI (pc := 146) (fi := 36) (x := ((h12 81 36) + 1)) fl_X12_256 dX12_layWay_146 s0_81 rfl ?_
      refine r_aload_n (pc := 149) (a := 81) dX12_layWay_149 rfl ?_
      refine r_iload_n (pc := 150) (x := v2) dX12_layWay_150 rfl ?_
      refine r_iload (pc := 151) (x := v5) dX12_layWay_151 rfl ?_
      refine r_callV (μ2 := mX12_nextOf) (pc := 153) (as := [.int (zI v2), .int (zI v5)]) (st := []) rfl s0_81 ml_X12_202 im_X12_nextOf se_X12_nextOf okX12_nextOf ⟨by decide, by decide⟩ dX12_layWay_153 (Nat.le_of_ble_eq_true rfl) rfl (Nat.le_of_ble_eq_true rfl) (by decide) (by decide) (zCC.mono w ?_)
      rintro r S' h14 ⟨rfl, x14, hr, w⟩
      subst hr
      show RR mX12_layWay 0 0 156 [some (.ref 81), some (.int (zI v1)), some (.int (zI v2)), some (.int (zI v3)), some (.int (zI v4)), some (.int (zI v5)), some (.int (zI v6))] [.int (zI x14)] zS0 h14 (zQv zS0 K)
      refine r_istore_n (pc := 156) (L' := [some (.ref 81), some (.int (zI v1)), some (.int (zI x14)), some (.int (zI v3)), some (.int (zI v4)), some (.int (zI v5)), some (.int (zI v6))]) dX12_layWay_156 (by decide) rfl ?_
      refine r_iload_n (pc := 157) (x := v1) dX12_layWay_157 rfl ?_
      refine r_aload_n (pc := 158) (a := 81) dX12_layWay_158 rfl ?_
      refine r_getR (pc := 159) (b := 98) fl_X12_58 dX12_layWay_159 s0_81 rfl ?_
      refine r_iload_n (pc := 162) (x := x14) dX12_layWay_162 rfl ?_
      obtain ⟨hb15, w⟩ := w
      refine r_iald (pc := 163) (i := x14) (x := (h14 98 x14)) dX12_layWay_163 s0_98 ⟨hb15.1, hb15.2, (by decide)⟩ (rfl) ?_
      refine r_ior (pc := 164) (x := v1) (y := (h14 98 x14)) dX12_layWay_164 ?_
      refine r_istore_n (pc := 165) (L' := [some (.ref 81), some (.int (zI (iO v1 (h14 98 x14)))), some (.int (zI x14)), some (.int (zI v3)), some (.int (zI v4)), some (.int (zI v5)), some (.int (zI v6))]) dX12_layWay_165 (by decide) rfl ?_
      refine r_iload (pc := 166) (x := v5) dX12_layWay_166 rfl ?_
      refine r_istore_n (pc := 168) (L' := [some (.ref 81), some (.int (zI (iO v1 (h14 98 x14)))), some (.int (zI x14)), some (.int (zI v5)), some (.int (zI v4)), some (.int (zI v5)), some (.int (zI v6))]) dX12_layWay_168 (by decide) rfl ?_
      refine r_goto (pc := 169) (tgt := 41) dX12_layWay_169 (by decide) ?_
      exact RR.sub (L' := [some (.ref 81), some (.int (zI (iO v1 (h14 98 x14)))), some (.int (zI x14)), some (.int (zI v5)), some (.int (zI v4)), none, none]) (zSb_of (⟨rfl, ⟨rfl, ⟨rfl, ⟨rfl, ⟨rfl, trivial⟩⟩⟩⟩⟩)) w
    · have w := w.2 (c)
      refine r_iinc (pc := 107) (x := v5) (L' := [some (.ref 81), some (.int (zI v1)), some (.int (zI v2)), some (.int (zI v3)), some (.int (zI v4)), some (.int (zI (v5 + 1))), some (.int (zI v6))]) dX12_layWay_107 rfl (by decide) rfl ?_
      refine r_goto (pc := 110) (tgt := 63) dX12_layWay_110 (by decide) ?_
      exact w

set_option maxRecDepth 100000 in
set_option maxHeartbeats 4000000 in
theorem wX12_hinders {h : zMm} {K : Int → zMm → Prop} (w : zCi mX12_grassMany [.ref 81] zS0 h (fun x1 h1 => (zR x1 ∧ ((x1 ≤ 7 → zCi mX12_layLeast [.ref 81] zS0 h1 (fun x3 h3 => (zR x3 ∧ K (if x3 < 1000000 then (0 : Int) else ((-4) : Int)) h3))) ∧ (¬ x1 ≤ 7 → K (-2) h1))))) : zCi mX12_hinders [.ref 81] zS0 h K := by
  show RR mX12_hinders 0 0 0 [some (.ref 81)] [] zS0 h (zQi zS0 K)
  refine r_aload_n (pc := 0) (a := 81) dX12_hinders_0 rfl ?_
  refine r_callV (μ2 := mX12_grassMany) (pc := 1) (as := []) (st := []) rfl s0_81 ml_X12_262 im_X12_grassMany se_X12_grassMany okX12_grassMany ⟨by decide, by decide⟩ dX12_hinders_1 (Nat.le_of_ble_eq_true rfl) rfl (Nat.le_of_ble_eq_true rfl) (by decide) (by decide) (zCC.mono w ?_)
  rintro r S' h1 ⟨rfl, x1, hr, w⟩
  subst hr
  show RR mX12_hinders 0 0 4 [some (.ref 81)] [.int (zI x1)] zS0 h1 (zQi zS0 K)
  refine r_bipush (pc := 4) (x := 7) dX12_hinders_4 (by decide) ?_
  obtain ⟨hr2, w⟩ := w
  refine r_icmp_le (pc := 6) (x := x1) (y := 7) (tgt := 14) dX12_hinders_6 (by decide) hr2 (by decide) (fun c => ?_) (fun c => ?_)
  · have w := w.1 (c)
    refine r_aload_n (pc := 14) (a := 81) dX12_hinders_14 rfl ?_
    refine r_callV (μ2 := mX12_layLeast) (pc := 15) (as := []) (st := []) rfl s0_81 ml_X12_265 im_X12_layLeast se_X12_layLeast okX12_layLeast ⟨by decide, by decide⟩ dX12_hinders_15 (Nat.le_of_ble_eq_true rfl) rfl (Nat.le_of_ble_eq_true rfl) (by decide) (by decide) (zCC.mono w ?_)
    rintro r S' h3 ⟨rfl, x3, hr, w⟩
    subst hr
    show RR mX12_hinders 0 0 18 [some (.ref 81)] [.int (zI x3)] zS0 h3 (zQi zS0 K)
    refine r_ldcI (pc := 18) (x := 1000000) dX12_hinders_18 kc_X12_252 ?_
    obtain ⟨hr4, w⟩ := w
    have kk5 : RR mX12_hinders 0 0 29 [some (.ref 81)] [.int (zI (if x3 < 1000000 then (0 : Int) else ((-4) : Int)))] zS0 h3 (zQi zS0 K) := by
      exact r_iret (st := []) (pc := 29) (x := (if x3 < 1000000 then (0 : Int) else ((-4) : Int))) (ty := .int) dX12_hinders_29 rfl rfl rfl (by decide) ⟨rfl, _, rfl, w⟩
    refine r_icmp_lt (pc := 20) (x := x3) (y := 1000000) (tgt := 28) dX12_hinders_20 (by decide) hr4 (by decide) (fun c => ?_) (fun c => ?_)
    · refine r_iconst (pc := 28) dX12_hinders_28 ?_
      simp only [if_pos (c)] at kk5 ⊢
      exact kk5
    · refine r_bipush (pc := 23) (x := (-4)) dX12_hinders_23 (by decide) ?_
      refine r_goto (pc := 25) (tgt := 29) dX12_hinders_25 (by decide) ?_
      simp only [if_neg (c)] at kk5 ⊢
      exact kk5
  · have w := w.2 (c)
    refine r_bipush (pc := 9) (x := (-2)) dX12_hinders_9 (by decide) ?_
    refine r_goto (pc := 11) (tgt := 29) dX12_hinders_11 (by decide) ?_
    exact r_iret (st := []) (pc := 29) (x := (-2)) (ty := .int) dX12_hinders_29 rfl rfl rfl (by decide) ⟨rfl, _, rfl, w⟩
