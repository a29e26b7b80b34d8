set_option maxRecDepth 100000 in
set_option maxHeartbeats 4000000 in
theorem wX11_isCell {S : zSh} {h : zMm} {K : Bool → zMm → Prop} {v0 : Int} (w : (zR v0 ∧ K (if v0 < 0 then false else (if 36 ≤ v0 then false else true)) h)) : zCb mX11_isCell [.int (zI v0)] S h K := by
  show RR mX11_isCell 0 0 0 [some (.int (zI v0))] [] S h (zQb S K)
  refine r_iload_n (pc := 0) (x := v0) dX11_isCell_0 rfl ?_
  obtain ⟨hr1, w⟩ := w
  have kk3 : RR mX11_isCell 0 0 15 [some (.int (zI v0))] [.int (zI (bI (if v0 < 0 then false else (if 36 ≤ v0 then false else true))))] S h (zQb S K) := by
    exact r_iret (st := []) (pc := 15) (x := (bI (if v0 < 0 then false else (if 36 ≤ v0 then false else true)))) (ty := .boolean) dX11_isCell_15 rfl (bI_nar _) rfl (by decide) ⟨rfl, (if v0 < 0 then false else (if 36 ≤ v0 then false else true)), rfl, w⟩
  refine r_if_lt (pc := 1) (x := v0) (tgt := 14) dX11_isCell_1 (by decide) hr1 (fun c => ?_) (fun c => ?_)
  · refine r_iconst (pc := 14) dX11_isCell_14 ?_
    simp only [if_pos (c)] at kk3 ⊢
    exact kk3
  · refine r_iload_n (pc := 4) (x := v0) dX11_isCell_4 rfl ?_
    refine r_bipush (pc := 5) (x := 36) dX11_isCell_5 (by decide) ?_
    refine r_icmp_ge (pc := 7) (x := v0) (y := 36) (tgt := 14) dX11_isCell_7 (by decide) hr1 (by decide) (fun c2 => ?_) (fun c2 => ?_)
    · refine r_iconst (pc := 14) dX11_isCell_14 ?_
      simp only [if_neg (c), if_pos (c2)] at kk3 ⊢
      exact kk3
    · refine r_iconst (pc := 10) dX11_isCell_10 ?_
      refine r_goto (pc := 11) (tgt := 15) dX11_isCell_11 (by decide) ?_
      simp only [if_neg (c), if_neg (c2)] at kk3 ⊢
      exact kk3

set_option maxRecDepth 100000 in
set_option maxHeartbeats 4000000 in
theorem wX11_isWithin {S : zSh} {h : zMm} {K : Bool → zMm → Prop} {v0 : Int} {v1 : Int} {v2 : Int} (w : (zR v0 ∧ (zR v1 ∧ (zR v2 ∧ K (if v0 < v1 then false else (if v2 < v0 then false else true)) h)))) : zCb mX11_isWithin [.int (zI v0), .int (zI v1), .int (zI v2)] S h K := by
  show RR mX11_isWithin 0 0 0 [some (.int (zI v0)), some (.int (zI v1)), some (.int (zI v2))] [] S h (zQb S K)
  refine r_iload_n (pc := 0) (x := v0) dX11_isWithin_0 rfl ?_
  refine r_iload_n (pc := 1) (x := v1) dX11_isWithin_1 rfl ?_
  obtain ⟨hr1, w⟩ := w
  obtain ⟨hr2, w⟩ := w
  obtain ⟨hr4, w⟩ := w
  have kk6 : RR mX11_isWithin 0 0 15 [some (.int (zI v0)), some (.int (zI v1)), some (.int (zI v2))] [.int (zI (bI (if v0 < v1 then false else (if v2 < v0 then false else true))))] S h (zQb S K) := by
    exact r_iret (st := []) (pc := 15) (x := (bI (if v0 < v1 then false else (if v2 < v0 then false else true)))) (ty := .boolean) dX11_isWithin_15 rfl (bI_nar _) rfl (by decide) ⟨rfl, (if v0 < v1 then false else (if v2 < v0 then false else true)), rfl, w⟩
  refine r_icmp_lt (pc := 2) (x := v0) (y := v1) (tgt := 14) dX11_isWithin_2 (by decide) hr1 hr2 (fun c => ?_) (fun c => ?_)
  · refine r_iconst (pc := 14) dX11_isWithin_14 ?_
    simp only [if_pos (c)] at kk6 ⊢
    exact kk6
  · refine r_iload_n (pc := 5) (x := v0) dX11_isWithin_5 rfl ?_
    refine r_iload_n (pc := 6) (x := v2) dX11_isWithin_6 rfl ?_
    refine r_icmp_gt (pc := 7) (x := v0) (y := v2) (tgt := 14) dX11_isWithin_7 (by decide) hr1 hr4 (fun c5 => ?_) (fun c5 => ?_)
    · refine r_iconst (pc := 14) dX11_isWithin_14 ?_
      simp only [if_neg (c), if_pos (c5)] at kk6 ⊢
      exact kk6
    · refine r_iconst (pc := 10) dX11_isWithin_10 ?_
      refine r_goto (pc := 11) (tgt := 15) dX11_isWithin_11 (by decide) ?_
      simp only [if_neg (c), if_neg (c5)] at kk6 ⊢
      exact kk6

set_option maxRecDepth 100000 in
set_option maxHeartbeats 4000000 in
theorem wX11_quartersBetween {S : zSh} {h : zMm} {K : Int → zMm → Prop} {v0 : Int} {v1 : Int} (w : (zR ((v1 - v0) % 4) ∧ K (if ((v1 - v0) % 4) = 3 then (1 : Int) else ((v1 - v0) % 4)) h)) : zCi mX11_quartersBetween [.int (zI v0), .int (zI v1)] S h K := by
  show RR mX11_quartersBetween 0 0 0 [some (.int (zI v0)), some (.int (zI v1)), none] [] S h (zQi S K)
  refine r_iload_n (pc := 0) (x := v1) dX11_quartersBetween_0 rfl ?_
  refine r_iload_n (pc := 1) (x := v0) dX11_quartersBetween_1 rfl ?_
  refine r_isub (pc := 2) (x := v1) (y := v0) dX11_quartersBetween_2 ?_
  refine r_iconst (pc := 3) dX11_quartersBetween_3 ?_
  refine r_iandM (pc := 4) (x := (v1 - v0)) (y := 3) (z := ((v1 - v0) % 4)) dX11_quartersBetween_4 (zI_mask _ 2 (by decide)) ?_
  refine r_istore_n (pc := 5) (L' := [some (.int (zI v0)), some (.int (zI v1)), some (.int (zI ((v1 - v0) % 4)))]) dX11_quartersBetween_5 (by decide) rfl ?_
  refine r_iload_n (pc := 6) (x := ((v1 - v0) % 4)) dX11_quartersBetween_6 rfl ?_
  refine r_iconst (pc := 7) dX11_quartersBetween_7 ?_
  obtain ⟨hr1, w⟩ := w
  have kk2 : RR mX11_quartersBetween 0 0 16 [some (.int (zI v0)), some (.int (zI v1)), some (.int (zI ((v1 - v0) % 4)))] [.int (zI (if ((v1 - v0) % 4) = 3 then (1 : Int) else ((v1 - v0) % 4)))] S h (zQi S K) := by
    exact r_iret (st := []) (pc := 16) (x := (if ((v1 - v0) % 4) = 3 then (1 : Int) else ((v1 - v0) % 4))) (ty := .int) dX11_quartersBetween_16 rfl rfl rfl (by decide) ⟨rfl, _, rfl, w⟩
  refine r_icmp_ne (pc := 8) (x := ((v1 - v0) % 4)) (y := 3) (tgt := 15) dX11_quartersBetween_8 (by decide) hr1 (by decide) (fun c => ?_) (fun c => ?_)
  · refine r_iload_n (pc := 15) (x := ((v1 - v0) % 4)) dX11_quartersBetween_15 rfl ?_
    simp only [if_neg (c)] at kk2 ⊢
    exact kk2
  · refine r_iconst (pc := 11) dX11_quartersBetween_11 ?_
    refine r_goto (pc := 12) (tgt := 16) dX11_quartersBetween_12 (by decide) ?_
    simp only [if_pos (c)] at kk2 ⊢
    exact kk2

set_option maxRecDepth 100000 in
set_option maxHeartbeats 4000000 in
theorem wX11_feed {h : zMm} {K : Int → zMm → Prop} {v1 : Int} (w : zCb mX8_append [.ref 1, .long (zJ v1)] zS0 h (fun b1 h1 => K (if b1 = true then (h1 1 1) else ((-3) : Int)) h1)) : zCi mX11_feed [.ref 0, .long (zJ v1)] zS0 h K := by
  show RR mX11_feed 0 0 0 [some (.ref 0), some (.long (zJ v1)), none] [] zS0 h (zQi zS0 K)
  refine r_aload_n (pc := 0) (a := 0) dX11_feed_0 rfl ?_
  refine r_getR (pc := 1) (b := 1) fl_X11_12 dX11_feed_1 s0_0 rfl ?_
  refine r_lload_n (pc := 4) (x := v1) dX11_feed_4 rfl ?_
  refine r_callV (μ2 := mX8_append) (pc := 5) (as := [.long (zJ v1)]) (st := []) rfl s0_1 ml_X11_105 im_X8_append se_X8_append okX8_append ⟨by decide, by decide⟩ dX11_feed_5 (Nat.le_of_ble_eq_true rfl) rfl (Nat.le_of_ble_eq_true rfl) (by decide) (by decide) (zCC.mono w ?_)
  rintro r S' h1 ⟨rfl, b1, hr, w⟩
  subst hr
  show RR mX11_feed 0 0 8 [some (.ref 0), some (.long (zJ v1)), none] [.int (zI (bI b1))] zS0 h1 (zQi zS0 K)
  have kk2 : RR mX11_feed 0 0 23 [some (.ref 0), some (.long (zJ v1)), none] [.int (zI (if b1 = true then (h1 1 1) else ((-3) : Int)))] zS0 h1 (zQi zS0 K) := by
    exact r_iret (st := []) (pc := 23) (x := (if b1 = true then (h1 1 1) else ((-3) : Int))) (ty := .int) dX11_feed_23 rfl rfl rfl (by decide) ⟨rfl, _, rfl, w⟩
  refine r_if_eq (pc := 8) (x := (bI b1)) (tgt := 21) dX11_feed_8 (by decide) (bI_R _) (fun c => ?_) (fun c => ?_)
  · refine r_bipush (pc := 21) (x := (-3)) dX11_feed_21 (by decide) ?_
    simp only [if_neg (bI_ft (bI_0.mp c))] at kk2 ⊢
    exact kk2
  · refine r_aload_n (pc := 11) (a := 0) dX11_feed_11 rfl ?_
    refine r_getR (pc := 12) (b := 1) fl_X11_12 dX11_feed_12 s0_0 rfl ?_
    refine r_getI (pc := 15) (fi := 1) (x := (h1 1 1)) fl_X11_109 dX11_feed_15 s0_1 rfl (rfl) ?_
    refine r_goto (pc := 18) (tgt := 23) dX11_feed_18 (by decide) ?_
    simp only [if_pos (bI_n.mp c)] at kk2 ⊢
    exact kk2

set_option maxRecDepth 100000 in
set_option maxHeartbeats 4000000 in
theorem wX11_end {h : zMm} {K : Int → zMm → Prop} {v1 : Int} (w : (zR v1 ∧ ((v1 < 0 → K (-1) h) ∧ (¬ v1 < 0 → (zR (h 1 1) ∧ ((v1 ≤ (h 1 1) → K (h 1 1) (zU h 1 1 v1)) ∧ (¬ v1 ≤ (h 1 1) → K (-1) h))))))) : zCi mX11_end [.ref 0, .int (zI v1)] zS0 h K := by
  show RR mX11_end 0 0 0 [some (.ref 0), some (.int (zI v1)), none] [] zS0 h (zQi zS0 K)
  refine r_iload_n (pc := 0) (x := v1) dX11_end_0 rfl ?_
  obtain ⟨hr1, w⟩ := w
  refine r_if_lt (pc := 1) (x := v1) (tgt := 15) dX11_end_1 (by decide) hr1 (fun c => ?_) (fun c => ?_)
  · have w := w.1 (c)
    refine r_iconst (pc := 15) dX11_end_15 ?_
    exact r_iret (st := []) (pc := 16) (x := (-1)) (ty := .int) dX11_end_16 rfl rfl rfl (by decide) ⟨rfl, _, rfl, w⟩
  · have w := w.2 (c)
    refine r_iload_n (pc := 4) (x := v1) dX11_end_4 rfl ?_
    refine r_aload_n (pc := 5) (a := 0) dX11_end_5 rfl ?_
    refine r_getR (pc := 6) (b := 1) fl_X11_12 dX11_end_6 s0_0 rfl ?_
    refine r_getI (pc := 9) (fi := 1) (x := (h 1 1)) fl_X11_109 dX11_end_9 s0_1 rfl (rfl) ?_
    obtain ⟨hr2, w⟩ := w
    refine r_icmp_le (pc := 12) (x := v1) (y := (h 1 1)) (tgt := 17) dX11_end_12 (by decide) hr1 hr2 (fun c => ?_) (fun c => ?_)
    · have w := w.1 (c)
      refine r_aload_n (pc := 17) (a := 0) dX11_end_17 rfl ?_
      refine r_getR (pc := 18) (b := 1) fl_X11_12 dX11_end_18 s0_0 rfl ?_
      refine r_getI (pc := 21) (fi := 1) (x := (h 1 1)) fl_X11_109 dX11_end_21 s0_1 rfl (rfl) ?_
      refine r_istore_n (pc := 24) (L' := [some (.ref 0), some (.int (zI v1)), some (.int (zI (h 1 1)))]) dX11_end_24 (by decide) rfl ?_
      refine r_aload_n (pc := 25) (a := 0) dX11_end_25 rfl ?_
      refine r_getR (pc := 26) (b := 1) fl_X11_12 dX11_end_26 s0_0 rfl ?_
      refine r_iload_n (pc := 29) (x := v1) dX11_end_29 rfl ?_
      refine r_putI (pc := 30) (fi := 1) (x := v1) fl_X11_109 dX11_end_30 s0_1 rfl ?_
      refine r_iload_n (pc := 33) (x := (h 1 1)) dX11_end_33 rfl ?_
      exact r_iret (st := []) (pc := 34) (x := (h 1 1)) (ty := .int) dX11_end_34 rfl rfl rfl (by decide) ⟨rfl, _, rfl, w⟩
    · have w := w.2 (c)
      refine r_iconst (pc := 15) dX11_end_15 ?_
      exact r_iret (st := []) (pc := 16) (x := (-1)) (ty := .int) dX11_end_16 rfl rfl rfl (by decide) ⟨rfl, _, rfl, w⟩

set_option maxRecDepth 100000 in
set_option maxHeartbeats 4000000 in
theorem wX11_garden {h : zMm} {K : Int → zMm → Prop} (w : zCb mX9_readText [.ref 3, .ref 1] zS0 h (fun b1 h1 => ((b1 = true → zCv mX3_takeAll [.ref 10, .ref 4] zS0 (zU h1 1 1 0) (fun h2 => zCv mX4_forget [.ref 31] zS0 (zU h2 16 2 0) (fun h3 => K (h3 3 3) h3))) ∧ (b1 = false → K ((-10) - (h1 3 2)) (zU h1 1 1 0))))) : zCi mX11_garden [.ref 0] zS0 h K := by
  show RR mX11_garden 0 0 0 [some (.ref 0), none] [] zS0 h (zQi zS0 K)
  refine r_aload_n (pc := 0) (a := 0) dX11_garden_0 rfl ?_
  refine r_getR (pc := 1) (b := 3) fl_X11_19 dX11_garden_1 s0_0 rfl ?_
  refine r_aload_n (pc := 4) (a := 0) dX11_garden_4 rfl ?_
  refine r_getR (pc := 5) (b := 1) fl_X11_12 dX11_garden_5 s0_0 rfl ?_
  refine r_callV (μ2 := mX9_readText) (pc := 8) (as := [.ref 1]) (st := []) rfl s0_3 ml_X11_112 im_X9_readText se_X9_readText okX9_readText ⟨by decide, by decide⟩ dX11_garden_8 (Nat.le_of_ble_eq_true rfl) rfl (Nat.le_of_ble_eq_true rfl) (by decide) (by decide) (zCC.mono w ?_)
  rintro r S' h1 ⟨rfl, b1, hr, w⟩
  subst hr
  show RR mX11_garden 0 0 11 [some (.ref 0), none] [.int (zI (bI b1))] zS0 h1 (zQi zS0 K)
  refine r_istore_n (pc := 11) (L' := [some (.ref 0), some (.int (zI (bI b1)))]) dX11_garden_11 (by decide) rfl ?_
  refine r_aload_n (pc := 12) (a := 0) dX11_garden_12 rfl ?_
  refine r_getR (pc := 13) (b := 1) fl_X11_12 dX11_garden_13 s0_0 rfl ?_
  refine r_iconst (pc := 16) dX11_garden_16 ?_
  refine r_putI (pc := 17) (fi := 1) (x := 0) fl_X11_109 dX11_garden_17 s0_1 rfl ?_
  refine r_iload_n (pc := 20) (x := (bI b1)) dX11_garden_20 rfl ?_
  refine r_if_ne (pc := 21) (x := (bI b1)) (tgt := 35) dX11_garden_21 (by decide) (bI_R _) (fun c => ?_) (fun c => ?_)
  · have w := w.1 (bI_n.mp c)
    refine r_aload_n (pc := 35) (a := 0) dX11_garden_35 rfl ?_
    refine r_getR (pc := 36) (b := 10) fl_X11_26 dX11_garden_36 s0_0 rfl ?_
    refine r_aload_n (pc := 39) (a := 0) dX11_garden_39 rfl ?_
    refine r_getR (pc := 40) (b := 3) fl_X11_19 dX11_garden_40 s0_0 rfl ?_
    refine r_getR (pc := 43) (b := 4) fl_X11_119 dX11_garden_43 s0_3 rfl ?_
    refine r_callV (μ2 := mX3_takeAll) (pc := 46) (as := [.ref 4]) (st := []) rfl s0_10 ml_X11_122 im_X3_takeAll se_X3_takeAll okX3_takeAll ⟨by decide, by decide⟩ dX11_garden_46 (Nat.le_of_ble_eq_true rfl) rfl (Nat.le_of_ble_eq_true rfl) (by decide) (by decide) (zCC.mono w ?_)
    rintro r S' h2 ⟨rfl, hr, w⟩
    subst hr
    show RR mX11_garden 0 0 49 [some (.ref 0), some (.int (zI (bI b1)))] [] zS0 h2 (zQi zS0 K)
    refine r_aload_n (pc := 49) (a := 0) dX11_garden_49 rfl ?_
    refine r_getR (pc := 50) (b := 16) fl_X11_33 dX11_garden_50 s0_0 rfl ?_
    refine r_iconst (pc := 53) dX11_garden_53 ?_
    refine r_putI (pc := 54) (fi := 2) (x := 0) fl_X11_126 dX11_garden_54 s0_16 rfl ?_
    refine r_aload_n (pc := 57) (a := 0) dX11_garden_57 rfl ?_
    refine r_getR (pc := 58) (b := 31) fl_X11_64 dX11_garden_58 s0_0 rfl ?_
    refine r_callV (μ2 := mX4_forget) (pc := 61) (as := []) (st := []) rfl s0_31 ml_X11_129 im_X4_forget se_X4_forget okX4_forget ⟨by decide, by decide⟩ dX11_garden_61 (Nat.le_of_ble_eq_true rfl) rfl (Nat.le_of_ble_eq_true rfl) (by decide) (by decide) (zCC.mono w ?_)
    rintro r S' h3 ⟨rfl, hr, w⟩
    subst hr
    show RR mX11_garden 0 0 64 [some (.ref 0), some (.int (zI (bI b1)))] [] zS0 h3 (zQi zS0 K)
    refine r_aload_n (pc := 64) (a := 0) dX11_garden_64 rfl ?_
    refine r_getR (pc := 65) (b := 3) fl_X11_19 dX11_garden_65 s0_0 rfl ?_
    refine r_getI (pc := 68) (fi := 3) (x := (h3 3 3)) fl_X11_132 dX11_garden_68 s0_3 rfl (rfl) ?_
    exact r_iret (st := []) (pc := 71) (x := (h3 3 3)) (ty := .int) dX11_garden_71 rfl rfl rfl (by decide) ⟨rfl, _, rfl, w⟩
  · have w := w.2 (bI_0.mp c)
    refine r_bipush (pc := 24) (x := (-10)) dX11_garden_24 (by decide) ?_
    refine r_aload_n (pc := 26) (a := 0) dX11_garden_26 rfl ?_
    refine r_getR (pc := 27) (b := 3) fl_X11_19 dX11_garden_27 s0_0 rfl ?_
    refine r_getI (pc := 30) (fi := 2) (x := (h1 3 2)) fl_X11_116 dX11_garden_30 s0_3 rfl (zU_ne (by omega)) ?_
    refine r_isub (pc := 33) (x := (-10)) (y := (h1 3 2)) dX11_garden_33 ?_
    exact r_iret (st := []) (pc := 34) (x := ((-10) - (h1 3 2))) (ty := .int) dX11_garden_34 rfl rfl rfl (by decide) ⟨rfl, _, rfl, w⟩

set_option maxRecDepth 100000 in
set_option maxHeartbeats 4000000 in
theorem wX11_fault {h : zMm} {K : Int → zMm → Prop} (w : K (h 3 1) h) : zCi mX11_fault [.ref 0] zS0 h K := by
  show RR mX11_fault 0 0 0 [some (.ref 0)] [] zS0 h (zQi zS0 K)
  refine r_aload_n (pc := 0) (a := 0) dX11_fault_0 rfl ?_
  refine r_getR (pc := 1) (b := 3) fl_X11_19 dX11_fault_1 s0_0 rfl ?_
  refine r_getI (pc := 4) (fi := 1) (x := (h 3 1)) fl_X11_135 dX11_fault_4 s0_3 rfl (rfl) ?_
  exact r_iret (st := []) (pc := 7) (x := (h 3 1)) (ty := .int) dX11_fault_7 rfl rfl rfl (by decide) ⟨rfl, _, rfl, w⟩

set_option maxRecDepth 100000 in
set_option maxHeartbeats 4000000 in
theorem wX11_rule {h : zMm} {K : Int → zMm → Prop} {v1 : Int} (w : zCb mX11_isWithin [.int (zI v1), .int (zI 0), .int (zI 6)] zS0 h (fun b1 h1 => ((b1 = false → K (-1) h1) ∧ (b1 = true → zCi mX3_told [.ref 10, .int (zI v1)] zS0 h1 (fun x2 h2 => K x2 h2))))) : zCi mX11_rule [.ref 0, .int (zI v1)] zS0 h K := by
  show RR mX11_rule 0 0 0 [some (.ref 0), some (.int (zI v1))] [] zS0 h (zQi zS0 K)
  refine r_iload_n (pc := 0) (x := v1) dX11_rule_0 rfl ?_
  refine r_iconst (pc := 1) dX11_rule_1 ?_
  refine r_bipush (pc := 2) (x := 6) dX11_rule_2 (by decide) ?_
  refine r_callS (μ2 := mX11_isWithin) (pc := 4) (as := [.int (zI v1), .int (zI 0), .int (zI 6)]) (st := []) ml_X11_138 sm_X11_isWithin okX11_isWithin ⟨by decide, by decide⟩ dX11_rule_4 (Nat.le_of_ble_eq_true rfl) rfl (Nat.le_of_ble_eq_true rfl) (by decide) (by decide) (zCC.mono w ?_)
  rintro r S' h1 ⟨rfl, b1, hr, w⟩
  subst hr
  show RR mX11_rule 0 0 7 [some (.ref 0), some (.int (zI v1))] [.int (zI (bI b1))] zS0 h1 (zQi zS0 K)
  refine r_if_eq (pc := 7) (x := (bI b1)) (tgt := 21) dX11_rule_7 (by decide) (bI_R _) (fun c => ?_) (fun c => ?_)
  · have w := w.1 (bI_0.mp c)
    refine r_iconst (pc := 21) dX11_rule_21 ?_
    exact r_iret (st := []) (pc := 22) (x := (-1)) (ty := .int) dX11_rule_22 rfl rfl rfl (by decide) ⟨rfl, _, rfl, w⟩
  · have w := w.2 (bI_n.mp c)
    refine r_aload_n (pc := 10) (a := 0) dX11_rule_10 rfl ?_
    refine r_getR (pc := 11) (b := 10) fl_X11_26 dX11_rule_11 s0_0 rfl ?_
    refine r_iload_n (pc := 14) (x := v1) dX11_rule_14 rfl ?_
    refine r_callV (μ2 := mX3_told) (pc := 15) (as := [.int (zI v1)]) (st := []) rfl s0_10 ml_X11_142 im_X3_told se_X3_told okX3_told ⟨by decide, by decide⟩ dX11_rule_15 (Nat.le_of_ble_eq_true rfl) rfl (Nat.le_of_ble_eq_true rfl) (by decide) (by decide) (zCC.mono w ?_)
    rintro r S' h2 ⟨rfl, x2, hr, w⟩
    subst hr
    show RR mX11_rule 0 0 18 [some (.ref 0), some (.int (zI v1))] [.int (zI x2)] zS0 h2 (zQi zS0 K)
    refine r_goto (pc := 18) (tgt := 22) dX11_rule_18 (by decide) ?_
    exact r_iret (st := []) (pc := 22) (x := x2) (ty := .int) dX11_rule_22 rfl rfl rfl (by decide) ⟨rfl, _, rfl, w⟩

set_option maxRecDepth 100000 in
set_option maxHeartbeats 4000000 in
theorem wX11_cell {h : zMm} {K : Int → zMm → Prop} {v1 : Int} {v2 : Int} (w : zCb mX11_isCell [.int (zI v1)] zS0 h (fun b1 h1 => ((b1 = true → (zR v2 ∧ ((v2 = 0 → ((0 ≤ v1 ∧ v1 < 36) ∧ K (h1 11 v1) h1)) ∧ (v2 = 1 → ((0 ≤ v1 ∧ v1 < 36) ∧ K (h1 12 v1) h1)) ∧ (v2 = 2 → ((0 ≤ v1 ∧ v1 < 36) ∧ K (h1 13 v1) h1)) ∧ (v2 = 3 → ((0 ≤ v1 ∧ v1 < 36) ∧ K (h1 14 v1) h1)) ∧ (v2 < 0 ∨ 3 < v2 → K (-1) h1)))) ∧ (b1 = false → K (-1) h1)))) : zCi mX11_cell [.ref 0, .int (zI v1), .int (zI v2)] zS0 h K := by
  show RR mX11_cell 0 0 0 [some (.ref 0), some (.int (zI v1)), some (.int (zI v2))] [] zS0 h (zQi zS0 K)
  refine r_iload_n (pc := 0) (x := v1) dX11_cell_0 rfl ?_
  refine r_callS (μ2 := mX11_isCell) (pc := 1) (as := [.int (zI v1)]) (st := []) ml_X11_146 sm_X11_isCell okX11_isCell ⟨by decide, by decide⟩ dX11_cell_1 (Nat.le_of_ble_eq_true rfl) rfl (Nat.le_of_ble_eq_true rfl) (by decide) (by decide) (zCC.mono w ?_)
  rintro r S' h1 ⟨rfl, b1, hr, w⟩
  subst hr
  show RR mX11_cell 0 0 4 [some (.ref 0), some (.int (zI v1)), some (.int (zI v2))] [.int (zI (bI b1))] zS0 h1 (zQi zS0 K)
  refine r_if_ne (pc := 4) (x := (bI b1)) (tgt := 9) dX11_cell_4 (by decide) (bI_R _) (fun c => ?_) (fun c => ?_)
  · have w := w.1 (bI_n.mp c)
    refine r_iload_n (pc := 9) (x := v2) dX11_cell_9 rfl ?_
    obtain ⟨hr2, w⟩ := w
    rcases (show v2 = 0 ∨ v2 = 1 ∨ v2 = 2 ∨ v2 = 3 ∨ (v2 < 0 ∨ 3 < v2) by omega) with hcs | hcs | hcs | hcs | hcs
    · have w := w.1 hcs
      refine r_tswIn (pc := 10) (x := v2) (tgt := 40) dX11_cell_10 hr2 (by omega) (by omega) (by rw [hcs]; rfl) (by decide) ?_
      refine r_aload_n (pc := 40) (a := 0) dX11_cell_40 rfl ?_
      refine r_getR (pc := 41) (b := 10) fl_X11_26 dX11_cell_41 s0_0 rfl ?_
      refine r_getR (pc := 44) (b := 11) fl_X11_150 dX11_cell_44 s0_10 rfl ?_
      refine r_iload_n (pc := 47) (x := v1) dX11_cell_47 rfl ?_
      obtain ⟨hb3, w⟩ := w
      refine r_iald (pc := 48) (i := v1) (x := (h1 11 v1)) dX11_cell_48 s0_11 ⟨hb3.1, hb3.2, (by decide)⟩ (rfl) ?_
      exact r_iret (st := []) (pc := 49) (x := (h1 11 v1)) (ty := .int) dX11_cell_49 rfl rfl rfl (by decide) ⟨rfl, _, rfl, w⟩
    · have w := w.2.1 hcs
      refine r_tswIn (pc := 10) (x := v2) (tgt := 50) dX11_cell_10 hr2 (by omega) (by omega) (by rw [hcs]; rfl) (by decide) ?_
      refine r_aload_n (pc := 50) (a := 0) dX11_cell_50 rfl ?_
      refine r_getR (pc := 51) (b := 10) fl_X11_26 dX11_cell_51 s0_0 rfl ?_
      refine r_getR (pc := 54) (b := 12) fl_X11_154 dX11_cell_54 s0_10 rfl ?_
      refine r_iload_n (pc := 57) (x := v1) dX11_cell_57 rfl ?_
      obtain ⟨hb4, w⟩ := w
      refine r_iald (pc := 58) (i := v1) (x := (h1 12 v1)) dX11_cell_58 s0_12 ⟨hb4.1, hb4.2, (by decide)⟩ (rfl) ?_
      exact r_iret (st := []) (pc := 59) (x := (h1 12 v1)) (ty := .int) dX11_cell_59 rfl rfl rfl (by decide) ⟨rfl, _, rfl, w⟩
    · have w := w.2.2.1 hcs
      refine r_tswIn (pc := 10) (x := v2) (tgt := 60) dX11_cell_10 hr2 (by omega) (by omega) (by rw [hcs]; rfl) (by decide) ?_
      refine r_aload_n (pc := 60) (a := 0) dX11_cell_60 rfl ?_
      refine r_getR (pc := 61) (b := 10) fl_X11_26 dX11_cell_61 s0_0 rfl ?_
      refine r_getR (pc := 64) (b := 13) fl_X11_157 dX11_cell_64 s0_10 rfl ?_
      refine r_iload_n (pc := 67) (x := v1) dX11_cell_67 rfl ?_
      obtain ⟨hb5, w⟩ := w
      refine r_iald (pc := 68) (i := v1) (x := (h1 13 v1)) dX11_cell_68 s0_13 ⟨hb5.1, hb5.2, (by decide)⟩ (rfl) ?_
      exact r_iret (st := []) (pc := 69) (x := (h1 13 v1)) (ty := .int) dX11_cell_69 rfl rfl rfl (by decide) ⟨rfl, _, rfl, w⟩
    · have w := w.2.2.2.1 hcs
      refine r_tswIn (pc := 10) (x := v2) (tgt := 70) dX11_cell_10 hr2 (by omega) (by omega) (by rw [hcs]; rfl) (by decide) ?_
      refine r_aload_n (pc := 70) (a := 0) dX11_cell_70 rfl ?_
      refine r_getR (pc := 71) (b := 10) fl_X11_26 dX11_cell_71 s0_0 rfl ?_
      refine r_getR (pc := 74) (b := 14) fl_X11_160 dX11_cell_74 s0_10 rfl ?_
      refine r_iload_n (pc := 77) (x := v1) dX11_cell_77 rfl ?_
      obtain ⟨hb6, w⟩ := w
      refine r_iald (pc := 78) (i := v1) (x := (h1 14 v1)) dX11_cell_78 s0_14 ⟨hb6.1, hb6.2, (by decide)⟩ (rfl) ?_
      exact r_iret (st := []) (pc := 79) (x := (h1 14 v1)) (ty := .int) dX11_cell_79 rfl rfl rfl (by decide) ⟨rfl, _, rfl, w⟩
    · have w := w.2.2.2.2 hcs
      refine r_tswOut (pc := 10) (x := v2) (tgt := 80) dX11_cell_10 hr2 (by omega) (by decide) ?_
      refine r_iconst (pc := 80) dX11_cell_80 ?_
      exact r_iret (st := []) (pc := 81) (x := (-1)) (ty := .int) dX11_cell_81 rfl rfl rfl (by decide) ⟨rfl, _, rfl, w⟩
  · have w := w.2 (bI_0.mp c)
    refine r_iconst (pc := 7) dX11_cell_7 ?_
    exact r_iret (st := []) (pc := 8) (x := (-1)) (ty := .int) dX11_cell_8 rfl rfl rfl (by decide) ⟨rfl, _, rfl, w⟩

set_option maxRecDepth 100000 in
set_option maxHeartbeats 4000000 in
theorem wX11_put {h : zMm} {K : Int → zMm → Prop} {v1 : Int} {v2 : Int} (w : zCb mX11_isCell [.int (zI v1)] zS0 h (fun b1 h1 => ((b1 = false → K (-1) h1) ∧ (b1 = true → zCb mX11_isWithin [.int (zI v2), .int (zI 0), .int (zI 4)] zS0 h1 (fun b2 h2 => ((b2 = true → (zR v2 ∧ ((¬ v2 = 2 → ((0 ≤ v1 ∧ v1 < 36) ∧ (zR (h2 11 v1) ∧ (((h2 11 v1) = v2 → K (h2 11 v1) h2) ∧ (¬ (h2 11 v1) = v2 → zCv mX4_forget [.ref 31] zS0 (zU (zU (zU h2 11 v1 v2) 12 v1 0) 14 v1 (-4)) (fun h6 => K (h2 11 v1) h6)))))) ∧ (v2 = 2 → zCi mX3_told [.ref 10, .int (zI 0)] zS0 h2 (fun x7 h7 => (zR v1 ∧ (zR x7 ∧ ((¬ v1 = x7 → ((0 ≤ v1 ∧ v1 < 36) ∧ (zR (h7 11 v1) ∧ (((h7 11 v1) = v2 → K (h7 11 v1) h7) ∧ (¬ (h7 11 v1) = v2 → zCv mX4_forget [.ref 31] zS0 (zU (zU (zU h7 11 v1 v2) 12 v1 0) 14 v1 (-4)) (fun h12 => K (h7 11 v1) h12)))))) ∧ (v1 = x7 → K (-2) h7))))))))) ∧ (b2 = false → K (-1) h2))))))) : zCi mX11_put [.ref 0, .int (zI v1), .int (zI v2)] zS0 h K := by
  show RR mX11_put 0 0 0 [some (.ref 0), some (.int (zI v1)), some (.int (zI v2)), none] [] zS0 h (zQi zS0 K)
  refine r_iload_n (pc := 0) (x := v1) dX11_put_0 rfl ?_
  refine r_callS (μ2 := mX11_isCell) (pc := 1) (as := [.int (zI v1)]) (st := []) ml_X11_146 sm_X11_isCell okX11_isCell ⟨by decide, by decide⟩ dX11_put_1 (Nat.le_of_ble_eq_true rfl) rfl (Nat.le_of_ble_eq_true rfl) (by decide) (by decide) (zCC.mono w ?_)
  rintro r S' h1 ⟨rfl, b1, hr, w⟩
  subst hr
  show RR mX11_put 0 0 4 [some (.ref 0), some (.int (zI v1)), some (.int (zI v2)), none] [.int (zI (bI b1))] zS0 h1 (zQi zS0 K)
  refine r_if_eq (pc := 4) (x := (bI b1)) (tgt := 16) dX11_put_4 (by decide) (bI_R _) (fun c => ?_) (fun c => ?_)
  · have w := w.1 (bI_0.mp c)
    refine r_iconst (pc := 16) dX11_put_16 ?_
    exact r_iret (st := []) (pc := 17) (x := (-1)) (ty := .int) dX11_put_17 rfl rfl rfl (by decide) ⟨rfl, _, rfl, w⟩
  · have w := w.2 (bI_n.mp c)
    refine r_iload_n (pc := 7) (x := v2) dX11_put_7 rfl ?_
    refine r_iconst (pc := 8) dX11_put_8 ?_
    refine r_iconst (pc := 9) dX11_put_9 ?_
    refine r_callS (μ2 := mX11_isWithin) (pc := 10) (as := [.int (zI v2), .int (zI 0), .int (zI 4)]) (st := []) ml_X11_138 sm_X11_isWithin okX11_isWithin ⟨by decide, by decide⟩ dX11_put_10 (Nat.le_of_ble_eq_true rfl) rfl (Nat.le_of_ble_eq_true rfl) (by decide) (by decide) (zCC.mono w ?_)
    rintro r S' h2 ⟨rfl, b2, hr, w⟩
    subst hr
    show RR mX11_put 0 0 13 [some (.ref 0), some (.int (zI v1)), some (.int (zI v2)), none] [.int (zI (bI b2))] zS0 h2 (zQi zS0 K)
    refine r_if_ne (pc := 13) (x := (bI b2)) (tgt := 18) dX11_put_13 (by decide) (bI_R _) (fun c => ?_) (fun c => ?_)
    · have w := w.1 (bI_n.mp c)
      refine r_iload_n (pc := 18) (x := v2) dX11_put_18 rfl ?_
      refine r_iconst (pc := 19) dX11_put_19 ?_
      obtain ⟨hr3, w⟩ := w
      refine r_icmp_ne (pc := 20) (x := v2) (y := 2) (tgt := 38) dX11_put_20 (by decide) hr3 (by decide) (fun c => ?_) (fun c => ?_)
      · have w := w.1 (c)
        refine r_aload_n (pc := 38) (a := 0) dX11_put_38 rfl ?_
        refine r_getR (pc := 39) (b := 10) fl_X11_26 dX11_put_39 s0_0 rfl ?_
        refine r_getR (pc := 42) (b := 11) fl_X11_150 dX11_put_42 s0_10 rfl ?_
        refine r_iload_n (pc := 45) (x := v1) dX11_put_45 rfl ?_
        obtain ⟨hb4, w⟩ := w
        refine r_iald (pc := 46) (i := v1) (x := (h2 11 v1)) dX11_put_46 s0_11 ⟨hb4.1, hb4.2, (by decide)⟩ (rfl) ?_
        refine r_istore_n (pc := 47) (L' := [some (.ref 0), some (.int (zI v1)), some (.int (zI v2)), some (.int (zI (h2 11 v1)))]) dX11_put_47 (by decide) rfl ?_
        refine r_iload_n (pc := 48) (x := (h2 11 v1)) dX11_put_48 rfl ?_
        refine r_iload_n (pc := 49) (x := v2) dX11_put_49 rfl ?_
        obtain ⟨hr5, w⟩ := w
        refine r_icmp_eq (pc := 50) (x := (h2 11 v1)) (y := v2) (tgt := 91) dX11_put_50 (by decide) hr5 hr3 (fun c => ?_) (fun c => ?_)
        · have w := w.1 (c)
          refine r_iload_n (pc := 91) (x := (h2 11 v1)) dX11_put_91 rfl ?_
          exact r_iret (st := []) (pc := 92) (x := (h2 11 v1)) (ty := .int) dX11_put_92 rfl rfl rfl (by decide) ⟨rfl, _, rfl, w⟩
        · have w := w.2 (c)
          refine r_aload_n (pc := 53) (a := 0) dX11_put_53 rfl ?_
          refine r_getR (pc := 54) (b := 10) fl_X11_26 dX11_put_54 s0_0 rfl ?_
          refine r_getR (pc := 57) (b := 11) fl_X11_150 dX11_put_57 s0_10 rfl ?_
          refine r_iload_n (pc := 60) (x := v1) dX11_put_60 rfl ?_
          refine r_iload_n (pc := 61) (x := v2) dX11_put_61 rfl ?_
          refine r_iast (pc := 62) (i := v1) (x := v2) dX11_put_62 s0_11 ⟨by omega, by omega, (by decide)⟩  ?_
          refine r_aload_n (pc := 63) (a := 0) dX11_put_63 rfl ?_
          refine r_getR (pc := 64) (b := 10) fl_X11_26 dX11_put_64 s0_0 rfl ?_
          refine r_getR (pc := 67) (b := 12) fl_X11_154 dX11_put_67 s0_10 rfl ?_
          refine r_iload_n (pc := 70) (x := v1) dX11_put_70 rfl ?_
          refine r_iconst (pc := 71) dX11_put_71 ?_
          refine r_iast (pc := 72) (i := v1) (x := 0) dX11_put_72 s0_12 ⟨by omega, by omega, (by decide)⟩  ?_
          refine r_aload_n (pc := 73) (a := 0) dX11_put_73 rfl ?_
          refine r_getR (pc := 74) (b := 10) fl_X11_26 dX11_put_74 s0_0 rfl ?_
          refine r_getR (pc := 77) (b := 14) fl_X11_160 dX11_put_77 s0_10 rfl ?_
          refine r_iload_n (pc := 80) (x := v1) dX11_put_80 rfl ?_
          refine r_bipush (pc := 81) (x := (-4)) dX11_put_81 (by decide) ?_
          refine r_iast (pc := 83) (i := v1) (x := (-4)) dX11_put_83 s0_14 ⟨by omega, by omega, (by decide)⟩  ?_
          refine r_aload_n (pc := 84) (a := 0) dX11_put_84 rfl ?_
          refine r_getR (pc := 85) (b := 31) fl_X11_64 dX11_put_85 s0_0 rfl ?_
          refine r_callV (μ2 := mX4_forget) (pc := 88) (as := []) (st := []) rfl s0_31 ml_X11_129 im_X4_forget se_X4_forget okX4_forget ⟨by decide, by decide⟩ dX11_put_88 (Nat.le_of_ble_eq_true rfl) rfl (Nat.le_of_ble_eq_true rfl) (by decide) (by decide) (zCC.mono w ?_)
          rintro r S' h6 ⟨rfl, hr, w⟩
          subst hr
          show RR mX11_put 0 0 91 [some (.ref 0), some (.int (zI v1)), some (.int (zI v2)), some (.int (zI (h2 11 v1)))] [] zS0 h6 (zQi zS0 K)
          refine r_iload_n (pc := 91) (x := (h2 11 v1)) dX11_put_91 rfl ?_
          exact r_iret (st := []) (pc := 92) (x := (h2 11 v1)) (ty := .int) dX11_put_92 rfl rfl rfl (by decide) ⟨rfl, _, rfl, w⟩
      · have w := w.2 (c)
        refine r_iload_n (pc := 23) (x := v1) dX11_put_23 rfl ?_
        refine r_aload_n (pc := 24) (a := 0) dX11_put_24 rfl ?_
        refine r_getR (pc := 25) (b := 10) fl_X11_26 dX11_put_25 s0_0 rfl ?_
        refine r_iconst (pc := 28) dX11_put_28 ?_
        refine r_callV (μ2 := mX3_told) (pc := 29) (as := [.int (zI 0)]) (st := [.int (zI v1)]) rfl s0_10 ml_X11_142 im_X3_told se_X3_told okX3_told ⟨by decide, by decide⟩ dX11_put_29 (Nat.le_of_ble_eq_true rfl) rfl (Nat.le_of_ble_eq_true rfl) (by decide) (by decide) (zCC.mono w ?_)
        rintro r S' h7 ⟨rfl, x7, hr, w⟩
        subst hr
        show RR mX11_put 0 0 32 [some (.ref 0), some (.int (zI v1)), some (.int (zI v2)), none] [.int (zI x7), .int (zI v1)] zS0 h7 (zQi zS0 K)
        obtain ⟨hr8, w⟩ := w
        obtain ⟨hr9, w⟩ := w
        refine r_icmp_ne (pc := 32) (x := v1) (y := x7) (tgt := 38) dX11_put_32 (by decide) hr8 hr9 (fun c => ?_) (fun c => ?_)
        · have w := w.1 (c)
          refine r_aload_n (pc := 38) (a := 0) dX11_put_38 rfl ?_
          refine r_getR (pc := 39) (b := 10) fl_X11_26 dX11_put_39 s0_0 rfl ?_
          refine r_getR (pc := 42) (b := 11) fl_X11_150 dX11_put_42 s0_10 rfl ?_
          refine r_iload_n (pc := 45) (x := v1) dX11_put_45 rfl ?_
          obtain ⟨hb10, w⟩ := w
          refine r_iald (pc := 46) (i := v1) (x := (h7 11 v1)) dX11_put_46 s0_11 ⟨hb10.1, hb10.2, (by decide)⟩ (rfl) ?_
          refine r_istore_n (pc := 47) (L' := [some (.ref 0), some (.int (zI v1)), some (.int (zI v2)), some (.int (zI (h7 11 v1)))]) dX11_put_47 (by decide) rfl ?_
          refine r_iload_n (pc := 48) (x := (h7 11 v1)) dX11_put_48 rfl ?_
          refine r_iload_n (pc := 49) (x := v2) dX11_put_49 rfl ?_
          obtain ⟨hr11, w⟩ := w
          refine r_icmp_eq (pc := 50) (x := (h7 11 v1)) (y := v2) (tgt := 91) dX11_put_50 (by decide) hr11 hr3 (fun c => ?_) (fun c => ?_)
          · have w := w.1 (c)
            refine r_iload_n (pc := 91) (x := (h7 11 v1)) dX11_put_91 rfl ?_
            exact r_iret (st := []) (pc := 92) (x := (h7 11 v1)) (ty := .int) dX11_put_92 rfl rfl rfl (by decide) ⟨rfl, _, rfl, w⟩
          · have w := w.2 (c)
            refine r_aload_n (pc := 53) (a := 0) dX11_put_53 rfl ?_
            refine r_getR (pc := 54) (b := 10) fl_X11_26 dX11_put_54 s0_0 rfl ?_
            refine r_getR (pc := 57) (b := 11) fl_X11_150 dX11_put_57 s0_10 rfl ?_
            refine r_iload_n (pc := 60) (x := v1) dX11_put_60 rfl ?_
            refine r_iload_n (pc := 61) (x := v2) dX11_put_61 rfl ?_
            refine r_iast (pc := 62) (i := v1) (x := v2) dX11_put_62 s0_11 ⟨by omega, by omega, (by decide)⟩  ?_
            refine r_aload_n (pc := 63) (a := 0) dX11_put_63 rfl ?_
            refine r_getR (pc := 64) (b := 10) fl_X11_26 dX11_put_64 s0_0 rfl ?_
            refine r_getR (pc := 67) (b := 12) fl_X11_154 dX11_put_67 s0_10 rfl ?_
            refine r_iload_n (pc := 70) (x := v1) dX11_put_70 rfl ?_
            refine r_iconst (pc := 71) dX11_put_71 ?_
            refine r_iast (pc := 72) (i := v1) (x := 0) dX11_put_72 s0_12 ⟨by omega, by omega, (by decide)⟩  ?_
            refine r_aload_n (pc := 73) (a := 0) dX11_put_73 rfl ?_
            refine r_getR (pc := 74) (b := 10) fl_X11_26 dX11_put_74 s0_0 rfl ?_
            refine r_getR (pc := 77) (b := 14) fl_X11_160 dX11_put_77 s0_10 rfl ?_
            refine r_iload_n (pc := 80) (x := v1) dX11_put_80 rfl ?_
            refine r_bipush (pc := 81) (x := (-4)) dX11_put_81 (by decide) ?_
            refine r_iast (pc := 83) (i := v1) (x := (-4)) dX11_put_83 s0_14 ⟨by omega, by omega, (by decide)⟩  ?_
            refine r_aload_n (pc := 84) (a := 0) dX11_put_84 rfl ?_
            refine r_getR (pc := 85) (b := 31) fl_X11_64 dX11_put_85 s0_0 rfl ?_
            refine r_callV (μ2 := mX4_forget) (pc := 88) (as := []) (st := []) rfl s0_31 ml_X11_129 im_X4_forget se_X4_forget okX4_forget ⟨by decide, by decide⟩ dX11_put_88 (Nat.le_of_ble_eq_true rfl) rfl (Nat.le_of_ble_eq_true rfl) (by decide) (by decide) (zCC.mono w ?_)
            rintro r S' h12 ⟨rfl, hr, w⟩
            subst hr
            show RR mX11_put 0 0 91 [some (.ref 0), some (.int (zI v1)), some (.int (zI v2)), some (.int (zI (h7 11 v1)))] [] zS0 h12 (zQi zS0 K)
            refine r_iload_n (pc := 91) (x := (h7 11 v1)) dX11_put_91 rfl ?_
            exact r_iret (st := []) (pc := 92) (x := (h7 11 v1)) (ty := .int) dX11_put_92 rfl rfl rfl (by decide) ⟨rfl, _, rfl, w⟩
        · have w := w.2 (c)
          refine r_bipush (pc := 35) (x := (-2)) dX11_put_35 (by decide) ?_
          exact r_iret (st := []) (pc := 37) (x := (-2)) (ty := .int) dX11_put_37 rfl rfl rfl (by decide) ⟨rfl, _, rfl, w⟩
    · have w := w.2 (bI_0.mp c)
      refine r_iconst (pc := 16) dX11_put_16 ?_
      exact r_iret (st := []) (pc := 17) (x := (-1)) (ty := .int) dX11_put_17 rfl rfl rfl (by decide) ⟨rfl, _, rfl, w⟩

set_option maxRecDepth 100000 in
set_option maxHeartbeats 4000000 in
theorem wX11_isWay {S : zSh} {h : zMm} {K : Bool → zMm → Prop} {v0 : Int} (w : zCb mX11_isWithin [.int (zI v0), .int (zI 0), .int (zI 3)] S h (fun b1 h1 => K b1 h1)) : zCb mX11_isWay [.int (zI v0)] S h K := by
  show RR mX11_isWay 0 0 0 [some (.int (zI v0))] [] S h (zQb S K)
  refine r_iload_n (pc := 0) (x := v0) dX11_isWay_0 rfl ?_
  refine r_iconst (pc := 1) dX11_isWay_1 ?_
  refine r_iconst (pc := 2) dX11_isWay_2 ?_
  refine r_callS (μ2 := mX11_isWithin) (pc := 3) (as := [.int (zI v0), .int (zI 0), .int (zI 3)]) (st := []) ml_X11_138 sm_X11_isWithin okX11_isWithin ⟨by decide, by decide⟩ dX11_isWay_3 (Nat.le_of_ble_eq_true rfl) rfl (Nat.le_of_ble_eq_true rfl) (by decide) (by decide) (zCC.mono w ?_)
  rintro r S' h1 ⟨rfl, b1, hr, w⟩
  subst hr
  show RR mX11_isWay 0 0 6 [some (.int (zI v0))] [.int (zI (bI b1))] S h1 (zQb S K)
  exact r_iret (st := []) (pc := 6) (x := (bI b1)) (ty := .boolean) dX11_isWay_6 rfl (bI_nar _) rfl (by decide) ⟨rfl, b1, rfl, w⟩

set_option maxRecDepth 100000 in
set_option maxHeartbeats 4000000 in
theorem wX11_isMove {S : zSh} {h : zMm} {K : Bool → zMm → Prop} {v0 : Int} {v1 : Int} (w : zCb mX11_isWay [.int (zI v0)] S h (fun b1 h1 => ((b1 = false → K false h1) ∧ (b1 = true → zCb mX11_isWithin [.int (zI v1), .int (zI 1), .int (zI 5)] S h1 (fun b2 h2 => K (if b2 = true then true else false) h2))))) : zCb mX11_isMove [.int (zI v0), .int (zI v1)] S h K := by
  show RR mX11_isMove 0 0 0 [some (.int (zI v0)), some (.int (zI v1))] [] S h (zQb S K)
  refine r_iload_n (pc := 0) (x := v0) dX11_isMove_0 rfl ?_
  refine r_callS (μ2 := mX11_isWay) (pc := 1) (as := [.int (zI v0)]) (st := []) ml_X11_360 sm_X11_isWay okX11_isWay ⟨by decide, by decide⟩ dX11_isMove_1 (Nat.le_of_ble_eq_true rfl) rfl (Nat.le_of_ble_eq_true rfl) (by decide) (by decide) (zCC.mono w ?_)
  rintro r S' h1 ⟨rfl, b1, hr, w⟩
  subst hr
  show RR mX11_isMove 0 0 4 [some (.int (zI v0)), some (.int (zI v1))] [.int (zI (bI b1))] S h1 (zQb S K)
  refine r_if_eq (pc := 4) (x := (bI b1)) (tgt := 20) dX11_isMove_4 (by decide) (bI_R _) (fun c => ?_) (fun c => ?_)
  · have w := w.1 (bI_0.mp c)
    refine r_iconst (pc := 20) dX11_isMove_20 ?_
    exact r_iret (st := []) (pc := 21) (x := 0) (ty := .boolean) dX11_isMove_21 rfl (rfl) rfl (by decide) ⟨rfl, false, rfl, w⟩
  · have w := w.2 (bI_n.mp c)
    refine r_iload_n (pc := 7) (x := v1) dX11_isMove_7 rfl ?_
    refine r_iconst (pc := 8) dX11_isMove_8 ?_
    refine r_iconst (pc := 9) dX11_isMove_9 ?_
    refine r_callS (μ2 := mX11_isWithin) (pc := 10) (as := [.int (zI v1), .int (zI 1), .int (zI 5)]) (st := []) ml_X11_138 sm_X11_isWithin okX11_isWithin ⟨by decide, by decide⟩ dX11_isMove_10 (Nat.le_of_ble_eq_true rfl) rfl (Nat.le_of_ble_eq_true rfl) (by decide) (by decide) (zCC.mono w ?_)
    rintro r S' h2 ⟨rfl, b2, hr, w⟩
    subst hr
    show RR mX11_isMove 0 0 13 [some (.int (zI v0)), some (.int (zI v1))] [.int (zI (bI b2))] S h2 (zQb S K)
    have kk3 : RR mX11_isMove 0 0 21 [some (.int (zI v0)), some (.int (zI v1))] [.int (zI (bI (if b2 = true then true else false)))] S h2 (zQb S K) := by
      exact r_iret (st := []) (pc := 21) (x := (bI (if b2 = true then true else false))) (ty := .boolean) dX11_isMove_21 rfl (bI_nar _) rfl (by decide) ⟨rfl, (if b2 = true then true else false), rfl, w⟩
    refine r_if_eq (pc := 13) (x := (bI b2)) (tgt := 20) dX11_isMove_13 (by decide) (bI_R _) (fun c => ?_) (fun c => ?_)
    · refine r_iconst (pc := 20) dX11_isMove_20 ?_
      simp only [if_neg (bI_ft (bI_0.mp c))] at kk3 ⊢
      exact kk3
    · refine r_iconst (pc := 16) dX11_isMove_16 ?_
      refine r_goto (pc := 17) (tgt := 21) dX11_isMove_17 (by decide) ?_
      simp only [if_pos (bI_n.mp c)] at kk3 ⊢
      exact kk3

set_option maxRecDepth 100000 in
set_option maxHeartbeats 4000000 in
theorem wX11_move {h : zMm} {K : Int → zMm → Prop} {v1 : Int} {v2 : Int} (w : zCb mX11_isMove [.int (zI v1), .int (zI v2)] zS0 h (fun b1 h1 => ((b1 = true → zCb mX5_append [.ref 16, .int (zI v1), .int (zI v2)] zS0 h1 (fun b2 h2 => K (if b2 = true then (h2 16 2) else ((-3) : Int)) h2)) ∧ (b1 = false → K (-1) h1)))) : zCi mX11_move [.ref 0, .int (zI v1), .int (zI v2)] zS0 h K := by
  show RR mX11_move 0 0 0 [some (.ref 0), some (.int (zI v1)), some (.int (zI v2))] [] zS0 h (zQi zS0 K)
  refine r_iload_n (pc := 0) (x := v1) dX11_move_0 rfl ?_
  refine r_iload_n (pc := 1) (x := v2) dX11_move_1 rfl ?_
  refine r_callS (μ2 := mX11_isMove) (pc := 2) (as := [.int (zI v1), .int (zI v2)]) (st := []) ml_X11_163 sm_X11_isMove okX11_isMove ⟨by decide, by decide⟩ dX11_move_2 (Nat.le_of_ble_eq_true rfl) rfl (Nat.le_of_ble_eq_true rfl) (by decide) (by decide) (zCC.mono w ?_)
  rintro r S' h1 ⟨rfl, b1, hr, w⟩
  subst hr
  show RR mX11_move 0 0 5 [some (.ref 0), some (.int (zI v1)), some (.int (zI v2))] [.int (zI (bI b1))] zS0 h1 (zQi zS0 K)
  refine r_if_ne (pc := 5) (x := (bI b1)) (tgt := 10) dX11_move_5 (by decide) (bI_R _) (fun c => ?_) (fun c => ?_)
  · have w := w.1 (bI_n.mp c)
    refine r_aload_n (pc := 10) (a := 0) dX11_move_10 rfl ?_
    refine r_getR (pc := 11) (b := 16) fl_X11_33 dX11_move_11 s0_0 rfl ?_
    refine r_iload_n (pc := 14) (x := v1) dX11_move_14 rfl ?_
    refine r_iload_n (pc := 15) (x := v2) dX11_move_15 rfl ?_
    refine r_callV (μ2 := mX5_append) (pc := 16) (as := [.int (zI v1), .int (zI v2)]) (st := []) rfl s0_16 ml_X11_167 im_X5_append se_X5_append okX5_append ⟨by decide, by decide⟩ dX11_move_16 (Nat.le_of_ble_eq_true rfl) rfl (Nat.le_of_ble_eq_true rfl) (by decide) (by decide) (zCC.mono w ?_)
    rintro r S' h2 ⟨rfl, b2, hr, w⟩
    subst hr
    show RR mX11_move 0 0 19 [some (.ref 0), some (.int (zI v1)), some (.int (zI v2))] [.int (zI (bI b2))] zS0 h2 (zQi zS0 K)
    have kk3 : RR mX11_move 0 0 34 [some (.ref 0), some (.int (zI v1)), some (.int (zI v2))] [.int (zI (if b2 = true then (h2 16 2) else ((-3) : Int)))] zS0 h2 (zQi zS0 K) := by
      exact r_iret (st := []) (pc := 34) (x := (if b2 = true then (h2 16 2) else ((-3) : Int))) (ty := .int) dX11_move_34 rfl rfl rfl (by decide) ⟨rfl, _, rfl, w⟩
    refine r_if_eq (pc := 19) (x := (bI b2)) (tgt := 32) dX11_move_19 (by decide) (bI_R _) (fun c => ?_) (fun c => ?_)
    · refine r_bipush (pc := 32) (x := (-3)) dX11_move_32 (by decide) ?_
      simp only [if_neg (bI_ft (bI_0.mp c))] at kk3 ⊢
      exact kk3
    · refine r_aload_n (pc := 22) (a := 0) dX11_move_22 rfl ?_
      refine r_getR (pc := 23) (b := 16) fl_X11_33 dX11_move_23 s0_0 rfl ?_
      refine r_getI (pc := 26) (fi := 2) (x := (h2 16 2)) fl_X11_126 dX11_move_26 s0_16 rfl (rfl) ?_
      refine r_goto (pc := 29) (tgt := 34) dX11_move_29 (by decide) ?_
      simp only [if_pos (bI_n.mp c)] at kk3 ⊢
      exact kk3
  · have w := w.2 (bI_0.mp c)
    refine r_iconst (pc := 8) dX11_move_8 ?_
    exact r_iret (st := []) (pc := 9) (x := (-1)) (ty := .int) dX11_move_9 rfl rfl rfl (by decide) ⟨rfl, _, rfl, w⟩

set_option maxRecDepth 100000 in
set_option maxHeartbeats 4000000 in
theorem wX11_clear {h : zMm} {K : Int → zMm → Prop} (w : K (h 16 2) (zU h 16 2 0)) : zCi mX11_clear [.ref 0] zS0 h K := by
  show RR mX11_clear 0 0 0 [some (.ref 0), none] [] zS0 h (zQi zS0 K)
  refine r_aload_n (pc := 0) (a := 0) dX11_clear_0 rfl ?_
  refine r_getR (pc := 1) (b := 16) fl_X11_33 dX11_clear_1 s0_0 rfl ?_
  refine r_getI (pc := 4) (fi := 2) (x := (h 16 2)) fl_X11_126 dX11_clear_4 s0_16 rfl (rfl) ?_
  refine r_istore_n (pc := 7) (L' := [some (.ref 0), some (.int (zI (h 16 2)))]) dX11_clear_7 (by decide) rfl ?_
  refine r_aload_n (pc := 8) (a := 0) dX11_clear_8 rfl ?_
  refine r_getR (pc := 9) (b := 16) fl_X11_33 dX11_clear_9 s0_0 rfl ?_
  refine r_iconst (pc := 12) dX11_clear_12 ?_
  refine r_putI (pc := 13) (fi := 2) (x := 0) fl_X11_126 dX11_clear_13 s0_16 rfl ?_
  refine r_iload_n (pc := 16) (x := (h 16 2)) dX11_clear_16 rfl ?_
  exact r_iret (st := []) (pc := 17) (x := (h 16 2)) (ty := .int) dX11_clear_17 rfl rfl rfl (by decide) ⟨rfl, _, rfl, w⟩

set_option maxRecDepth 100000 in
set_option maxHeartbeats 4000000 in
theorem wX11_moved {h : zMm} {K : Int → zMm → Prop} {v1 : Int} {v2 : Int} (w : zCb mX11_isWithin [.int (zI v1), .int (zI 0), .int (zI ((h 16 2) - 1))] zS0 h (fun b1 h1 => ((b1 = false → K (-1) h1) ∧ (b1 = true → zCb mX11_isWithin [.int (zI v2), .int (zI 0), .int (zI 1)] zS0 h1 (fun b2 h2 => ((b2 = true → (zR v2 ∧ ((¬ v2 = 0 → zCi mX5_stepsOf [.ref 16, .int (zI v1)] zS0 h2 (fun x4 h4 => K x4 h4)) ∧ (v2 = 0 → zCi mX5_wayOf [.ref 16, .int (zI v1)] zS0 h2 (fun x5 h5 => K x5 h5))))) ∧ (b2 = false → K (-1) h2))))))) : zCi mX11_moved [.ref 0, .int (zI v1), .int (zI v2)] zS0 h K := by
  show RR mX11_moved 0 0 0 [some (.ref 0), some (.int (zI v1)), some (.int (zI v2))] [] zS0 h (zQi zS0 K)
  refine r_iload_n (pc := 0) (x := v1) dX11_moved_0 rfl ?_
  refine r_iconst (pc := 1) dX11_moved_1 ?_
  refine r_aload_n (pc := 2) (a := 0) dX11_moved_2 rfl ?_
  refine r_getR (pc := 3) (b := 16) fl_X11_33 dX11_moved_3 s0_0 rfl ?_
  refine r_getI (pc := 6) (fi := 2) (x := (h 16 2)) fl_X11_126 dX11_moved_6 s0_16 rfl (rfl) ?_
  refine r_iconst (pc := 9) dX11_moved_9 ?_
  refine r_isub (pc := 10) (x := (h 16 2)) (y := 1) dX11_moved_10 ?_
  refine r_callS (μ2 := mX11_isWithin) (pc := 11) (as := [.int (zI v1), .int (zI 0), .int (zI ((h 16 2) - 1))]) (st := []) ml_X11_138 sm_X11_isWithin okX11_isWithin ⟨by decide, by decide⟩ dX11_moved_11 (Nat.le_of_ble_eq_true rfl) rfl (Nat.le_of_ble_eq_true rfl) (by decide) (by decide) (zCC.mono w ?_)
  rintro r S' h1 ⟨rfl, b1, hr, w⟩
  subst hr
  show RR mX11_moved 0 0 14 [some (.ref 0), some (.int (zI v1)), some (.int (zI v2))] [.int (zI (bI b1))] zS0 h1 (zQi zS0 K)
  refine r_if_eq (pc := 14) (x := (bI b1)) (tgt := 26) dX11_moved_14 (by decide) (bI_R _) (fun c => ?_) (fun c => ?_)
  · have w := w.1 (bI_0.mp c)
    refine r_iconst (pc := 26) dX11_moved_26 ?_
    exact r_iret (st := []) (pc := 27) (x := (-1)) (ty := .int) dX11_moved_27 rfl rfl rfl (by decide) ⟨rfl, _, rfl, w⟩
  · have w := w.2 (bI_n.mp c)
    refine r_iload_n (pc := 17) (x := v2) dX11_moved_17 rfl ?_
    refine r_iconst (pc := 18) dX11_moved_18 ?_
    refine r_iconst (pc := 19) dX11_moved_19 ?_
    refine r_callS (μ2 := mX11_isWithin) (pc := 20) (as := [.int (zI v2), .int (zI 0), .int (zI 1)]) (st := []) ml_X11_138 sm_X11_isWithin okX11_isWithin ⟨by decide, by decide⟩ dX11_moved_20 (Nat.le_of_ble_eq_true rfl) rfl (Nat.le_of_ble_eq_true rfl) (by decide) (by decide) (zCC.mono w ?_)
    rintro r S' h2 ⟨rfl, b2, hr, w⟩
    subst hr
    show RR mX11_moved 0 0 23 [some (.ref 0), some (.int (zI v1)), some (.int (zI v2))] [.int (zI (bI b2))] zS0 h2 (zQi zS0 K)
    refine r_if_ne (pc := 23) (x := (bI b2)) (tgt := 28) dX11_moved_23 (by decide) (bI_R _) (fun c => ?_) (fun c => ?_)
    · have w := w.1 (bI_n.mp c)
      refine r_iload_n (pc := 28) (x := v2) dX11_moved_28 rfl ?_
      obtain ⟨hr3, w⟩ := w
      refine r_if_ne (pc := 29) (x := v2) (tgt := 43) dX11_moved_29 (by decide) hr3 (fun c => ?_) (fun c => ?_)
      · have w := w.1 (c)
        refine r_aload_n (pc := 43) (a := 0) dX11_moved_43 rfl ?_
        refine r_getR (pc := 44) (b := 16) fl_X11_33 dX11_moved_44 s0_0 rfl ?_
        refine r_iload_n (pc := 47) (x := v1) dX11_moved_47 rfl ?_
        refine r_callV (μ2 := mX5_stepsOf) (pc := 48) (as := [.int (zI v1)]) (st := []) rfl s0_16 ml_X11_172 im_X5_stepsOf se_X5_stepsOf okX5_stepsOf ⟨by decide, by decide⟩ dX11_moved_48 (Nat.le_of_ble_eq_true rfl) rfl (Nat.le_of_ble_eq_true rfl) (by decide) (by decide) (zCC.mono w ?_)
        rintro r S' h4 ⟨rfl, x4, hr, w⟩
        subst hr
        show RR mX11_moved 0 0 51 [some (.ref 0), some (.int (zI v1)), some (.int (zI v2))] [.int (zI x4)] zS0 h4 (zQi zS0 K)
        exact r_iret (st := []) (pc := 51) (x := x4) (ty := .int) dX11_moved_51 rfl rfl rfl (by decide) ⟨rfl, _, rfl, w⟩
      · have w := w.2 (c)
        refine r_aload_n (pc := 32) (a := 0) dX11_moved_32 rfl ?_
        refine r_getR (pc := 33) (b := 16) fl_X11_33 dX11_moved_33 s0_0 rfl ?_
        refine r_iload_n (pc := 36) (x := v1) dX11_moved_36 rfl ?_
        refine r_callV (μ2 := mX5_wayOf) (pc := 37) (as := [.int (zI v1)]) (st := []) rfl s0_16 ml_X11_169 im_X5_wayOf se_X5_wayOf okX5_wayOf ⟨by decide, by decide⟩ dX11_moved_37 (Nat.le_of_ble_eq_true rfl) rfl (Nat.le_of_ble_eq_true rfl) (by decide) (by decide) (zCC.mono w ?_)
        rintro r S' h5 ⟨rfl, x5, hr, w⟩
        subst hr
        show RR mX11_moved 0 0 40 [some (.ref 0), some (.int (zI v1)), some (.int (zI v2))] [.int (zI x5)] zS0 h5 (zQi zS0 K)
        refine r_goto (pc := 40) (tgt := 51) dX11_moved_40 (by decide) ?_
        exact r_iret (st := []) (pc := 51) (x := x5) (ty := .int) dX11_moved_51 rfl rfl rfl (by decide) ⟨rfl, _, rfl, w⟩
    · have w := w.2 (bI_0.mp c)
      refine r_iconst (pc := 26) dX11_moved_26 ?_
      exact r_iret (st := []) (pc := 27) (x := (-1)) (ty := .int) dX11_moved_27 rfl rfl rfl (by decide) ⟨rfl, _, rfl, w⟩

set_option maxRecDepth 100000 in
set_option maxHeartbeats 4000000 in
theorem wX11_isMinute {S : zSh} {h : zMm} {K : Bool → zMm → Prop} {v0 : Int} (w : zCb mX11_isWithin [.int (zI v0), .int (zI 0), .int (zI 999)] S h (fun b1 h1 => K b1 h1)) : zCb mX11_isMinute [.int (zI v0)] S h K := by
  show RR mX11_isMinute 0 0 0 [some (.int (zI v0))] [] S h (zQb S K)
  refine r_iload_n (pc := 0) (x := v0) dX11_isMinute_0 rfl ?_
  refine r_iconst (pc := 1) dX11_isMinute_1 ?_
  refine r_sipush (pc := 2) (x := 999) dX11_isMinute_2 (by decide) ?_
  refine r_callS (μ2 := mX11_isWithin) (pc := 5) (as := [.int (zI v0), .int (zI 0), .int (zI 999)]) (st := []) ml_X11_138 sm_X11_isWithin okX11_isWithin ⟨by decide, by decide⟩ dX11_isMinute_5 (Nat.le_of_ble_eq_true rfl) rfl (Nat.le_of_ble_eq_true rfl) (by decide) (by decide) (zCC.mono w ?_)
  rintro r S' h1 ⟨rfl, b1, hr, w⟩
  subst hr
  show RR mX11_isMinute 0 0 8 [some (.int (zI v0))] [.int (zI (bI b1))] S h1 (zQb S K)
  exact r_iret (st := []) (pc := 8) (x := (bI b1)) (ty := .boolean) dX11_isMinute_8 rfl (bI_nar _) rfl (by decide) ⟨rfl, b1, rfl, w⟩

set_option maxRecDepth 100000 in
set_option maxHeartbeats 4000000 in
theorem wX11_run {h : zMm} {K : Int → zMm → Prop} {v1 : Int} {v2 : Int} (w : zCb mX11_isMinute [.int (zI v1)] zS0 h (fun b1 h1 => ((b1 = false → K (-1) h1) ∧ (b1 = true → zCb mX11_isWithin [.int (zI v2), .int (zI 0), .int (zI 9)] zS0 h1 (fun b2 h2 => ((b2 = true → zCi mX3_told [.ref 10, .int (zI 3)] zS0 h2 (fun x3 h3 => zCv mX10_follow [.ref 22, .ref 10, .ref 16, .int (zI v1), .int (zI x3)] zS0 h3 (fun h4 => (zR v2 ∧ ((v2 = 0 → K (h4 22 2) h4) ∧ (v2 = 1 → K (h4 22 3) h4) ∧ (v2 = 2 → K (h4 22 4) h4) ∧ (v2 = 3 → (zR (h4 22 5) ∧ K (bI (if (h4 22 5) = 0 then false else true)) h4)) ∧ (v2 = 4 → K (h4 22 6) h4) ∧ (v2 = 5 → K (h4 22 7) h4) ∧ (v2 = 6 → K (h4 22 8) h4) ∧ (v2 = 7 → K (h4 22 9) h4) ∧ (v2 = 8 → K (h4 22 10) h4) ∧ (v2 < 0 ∨ 8 < v2 → K (h4 22 11) h4)))))) ∧ (b2 = false → K (-1) h2))))))) : zCi mX11_run [.ref 0, .int (zI v1), .int (zI v2)] zS0 h K := by
  show RR mX11_run 0 0 0 [some (.ref 0), some (.int (zI v1)), some (.int (zI v2))] [] zS0 h (zQi zS0 K)
  refine r_iload_n (pc := 0) (x := v1) dX11_run_0 rfl ?_
  refine r_callS (μ2 := mX11_isMinute) (pc := 1) (as := [.int (zI v1)]) (st := []) ml_X11_175 sm_X11_isMinute okX11_isMinute ⟨by decide, by decide⟩ dX11_run_1 (Nat.le_of_ble_eq_true rfl) rfl (Nat.le_of_ble_eq_true rfl) (by decide) (by decide) (zCC.mono w ?_)
  rintro r S' h1 ⟨rfl, b1, hr, w⟩
  subst hr
  show RR mX11_run 0 0 4 [some (.ref 0), some (.int (zI v1)), some (.int (zI v2))] [.int (zI (bI b1))] zS0 h1 (zQi zS0 K)
  refine r_if_eq (pc := 4) (x := (bI b1)) (tgt := 17) dX11_run_4 (by decide) (bI_R _) (fun c => ?_) (fun c => ?_)
  · have w := w.1 (bI_0.mp c)
    refine r_iconst (pc := 17) dX11_run_17 ?_
    exact r_iret (st := []) (pc := 18) (x := (-1)) (ty := .int) dX11_run_18 rfl rfl rfl (by decide) ⟨rfl, _, rfl, w⟩
  · have w := w.2 (bI_n.mp c)
    refine r_iload_n (pc := 7) (x := v2) dX11_run_7 rfl ?_
    refine r_iconst (pc := 8) dX11_run_8 ?_
    refine r_bipush (pc := 9) (x := 9) dX11_run_9 (by decide) ?_
    refine r_callS (μ2 := mX11_isWithin) (pc := 11) (as := [.int (zI v2), .int (zI 0), .int (zI 9)]) (st := []) ml_X11_138 sm_X11_isWithin okX11_isWithin ⟨by decide, by decide⟩ dX11_run_11 (Nat.le_of_ble_eq_true rfl) rfl (Nat.le_of_ble_eq_true rfl) (by decide) (by decide) (zCC.mono w ?_)
    rintro r S' h2 ⟨rfl, b2, hr, w⟩
    subst hr
    show RR mX11_run 0 0 14 [some (.ref 0), some (.int (zI v1)), some (.int (zI v2))] [.int (zI (bI b2))] zS0 h2 (zQi zS0 K)
    refine r_if_ne (pc := 14) (x := (bI b2)) (tgt := 19) dX11_run_14 (by decide) (bI_R _) (fun c => ?_) (fun c => ?_)
    · have w := w.1 (bI_n.mp c)
      refine r_aload_n (pc := 19) (a := 0) dX11_run_19 rfl ?_
      refine r_getR (pc := 20) (b := 22) fl_X11_43 dX11_run_20 s0_0 rfl ?_
      refine r_aload_n (pc := 23) (a := 0) dX11_run_23 rfl ?_
      refine r_getR (pc := 24) (b := 10) fl_X11_26 dX11_run_24 s0_0 rfl ?_
      refine r_aload_n (pc := 27) (a := 0) dX11_run_27 rfl ?_
      refine r_getR (pc := 28) (b := 16) fl_X11_33 dX11_run_28 s0_0 rfl ?_
      refine r_iload_n (pc := 31) (x := v1) dX11_run_31 rfl ?_
      refine r_aload_n (pc := 32) (a := 0) dX11_run_32 rfl ?_
      refine r_getR (pc := 33) (b := 10) fl_X11_26 dX11_run_33 s0_0 rfl ?_
      refine r_iconst (pc := 36) dX11_run_36 ?_
      refine r_callV (μ2 := mX3_told) (pc := 37) (as := [.int (zI 3)]) (st := [.int (zI v1), .ref 16, .ref 10, .ref 22]) rfl s0_10 ml_X11_142 im_X3_told se_X3_told okX3_told ⟨by decide, by decide⟩ dX11_run_37 (Nat.le_of_ble_eq_true rfl) rfl (Nat.le_of_ble_eq_true rfl) (by decide) (by decide) (zCC.mono w ?_)
      rintro r S' h3 ⟨rfl, x3, hr, w⟩
      subst hr
      show RR mX11_run 0 0 40 [some (.ref 0), some (.int (zI v1)), some (.int (zI v2))] [.int (zI x3), .int (zI v1), .ref 16, .ref 10, .ref 22] zS0 h3 (zQi zS0 K)
      refine r_callV (μ2 := mX10_follow) (pc := 40) (as := [.ref 10, .ref 16, .int (zI v1), .int (zI x3)]) (st := []) rfl s0_22 ml_X11_178 im_X10_follow se_X10_follow okX10_follow ⟨by decide, by decide⟩ dX11_run_40 (Nat.le_of_ble_eq_true rfl) rfl (Nat.le_of_ble_eq_true rfl) (by decide) (by decide) (zCC.mono w ?_)
      rintro r S' h4 ⟨rfl, hr, w⟩
      subst hr
      show RR mX11_run 0 0 43 [some (.ref 0), some (.int (zI v1)), some (.int (zI v2))] [] zS0 h4 (zQi zS0 K)
      refine r_iload_n (pc := 43) (x := v2) dX11_run_43 rfl ?_
      obtain ⟨hr5, w⟩ := w
      rcases (show v2 = 0 ∨ v2 = 1 ∨ v2 = 2 ∨ v2 = 3 ∨ v2 = 4 ∨ v2 = 5 ∨ v2 = 6 ∨ v2 = 7 ∨ v2 = 8 ∨ (v2 < 0 ∨ 8 < v2) by omega) with hcs | hcs | hcs | hcs | hcs | hcs | hcs | hcs | hcs | hcs
      · have w := w.1 hcs
        refine r_tswIn (pc := 44) (x := v2) (tgt := 96) dX11_run_44 hr5 (by omega) (by omega) (by rw [hcs]; rfl) (by decide) ?_
        refine r_aload_n (pc := 96) (a := 0) dX11_run_96 rfl ?_
        refine r_getR (pc := 97) (b := 22) fl_X11_43 dX11_run_97 s0_0 rfl ?_
        refine r_getI (pc := 100) (fi := 2) (x := (h4 22 2)) fl_X11_182 dX11_run_100 s0_22 rfl (rfl) ?_
        exact r_iret (st := []) (pc := 103) (x := (h4 22 2)) (ty := .int) dX11_run_103 rfl rfl rfl (by decide) ⟨rfl, _, rfl, w⟩
      · have w := w.2.1 hcs
        refine r_tswIn (pc := 44) (x := v2) (tgt := 104) dX11_run_44 hr5 (by omega) (by omega) (by rw [hcs]; rfl) (by decide) ?_
        refine r_aload_n (pc := 104) (a := 0) dX11_run_104 rfl ?_
        refine r_getR (pc := 105) (b := 22) fl_X11_43 dX11_run_105 s0_0 rfl ?_
        refine r_getI (pc := 108) (fi := 3) (x := (h4 22 3)) fl_X11_185 dX11_run_108 s0_22 rfl (rfl) ?_
        exact r_iret (st := []) (pc := 111) (x := (h4 22 3)) (ty := .int) dX11_run_111 rfl rfl rfl (by decide) ⟨rfl, _, rfl, w⟩
      · have w := w.2.2.1 hcs
        refine r_tswIn (pc := 44) (x := v2) (tgt := 112) dX11_run_44 hr5 (by omega) (by omega) (by rw [hcs]; rfl) (by decide) ?_
        refine r_aload_n (pc := 112) (a := 0) dX11_run_112 rfl ?_
        refine r_getR (pc := 113) (b := 22) fl_X11_43 dX11_run_113 s0_0 rfl ?_
        refine r_getI (pc := 116) (fi := 4) (x := (h4 22 4)) fl_X11_188 dX11_run_116 s0_22 rfl (rfl) ?_
        exact r_iret (st := []) (pc := 119) (x := (h4 22 4)) (ty := .int) dX11_run_119 rfl rfl rfl (by decide) ⟨rfl, _, rfl, w⟩
      · have w := w.2.2.2.1 hcs
        refine r_tswIn (pc := 44) (x := v2) (tgt := 120) dX11_run_44 hr5 (by omega) (by omega) (by rw [hcs]; rfl) (by decide) ?_
        refine r_aload_n (pc := 120) (a := 0) dX11_run_120 rfl ?_
        refine r_getR (pc := 121) (b := 22) fl_X11_43 dX11_run_121 s0_0 rfl ?_
        refine r_getI (pc := 124) (fi := 5) (x := (h4 22 5)) fl_X11_191 dX11_run_124 s0_22 rfl (rfl) ?_
        obtain ⟨hr6, w⟩ := w
        have kk7 : RR mX11_run 0 0 135 [some (.ref 0), some (.int (zI v1)), some (.int (zI v2))] [.int (zI (bI (if (h4 22 5) = 0 then false else true)))] zS0 h4 (zQi zS0 K) := by
          exact r_iret (st := []) (pc := 135) (x := (bI (if (h4 22 5) = 0 then false else true))) (ty := .int) dX11_run_135 rfl rfl rfl (by decide) ⟨rfl, _, rfl, w⟩
        refine r_if_eq (pc := 127) (x := (h4 22 5)) (tgt := 134) dX11_run_127 (by decide) hr6 (fun c => ?_) (fun c => ?_)
        · refine r_iconst (pc := 134) dX11_run_134 ?_
          simp only [if_pos (c)] at kk7 ⊢
          exact kk7
        · refine r_iconst (pc := 130) dX11_run_130 ?_
          refine r_goto (pc := 131) (tgt := 135) dX11_run_131 (by decide) ?_
          simp only [if_neg (c)] at kk7 ⊢
          exact kk7
      · have w := w.2.2.2.2.1 hcs
        refine r_tswIn (pc := 44) (x := v2) (tgt := 136) dX11_run_44 hr5 (by omega) (by omega) (by rw [hcs]; rfl) (by decide) ?_
        refine r_aload_n (pc := 136) (a := 0) dX11_run_136 rfl ?_
        refine r_getR (pc := 137) (b := 22) fl_X11_43 dX11_run_137 s0_0 rfl ?_
        refine r_getI (pc := 140) (fi := 6) (x := (h4 22 6)) fl_X11_195 dX11_run_140 s0_22 rfl (rfl) ?_
        exact r_iret (st := []) (pc := 143) (x := (h4 22 6)) (ty := .int) dX11_run_143 rfl rfl rfl (by decide) ⟨rfl, _, rfl, w⟩
      · have w := w.2.2.2.2.2.1 hcs
        refine r_tswIn (pc := 44) (x := v2) (tgt := 144) dX11_run_44 hr5 (by omega) (by omega) (by rw [hcs]; rfl) (by decide) ?_
        refine r_aload_n (pc := 144) (a := 0) dX11_run_144 rfl ?_
        refine r_getR (pc := 145) (b := 22) fl_X11_43 dX11_run_145 s0_0 rfl ?_
        refine r_getI (pc := 148) (fi := 7) (x := (h4 22 7)) fl_X11_198 dX11_run_148 s0_22 rfl (rfl) ?_
        exact r_iret (st := []) (pc := 151) (x := (h4 22 7)) (ty := .int) dX11_run_151 rfl rfl rfl (by decide) ⟨rfl, _, rfl, w⟩
      · have w := w.2.2.2.2.2.2.1 hcs
        refine r_tswIn (pc := 44) (x := v2) (tgt := 152) dX11_run_44 hr5 (by omega) (by omega) (by rw [hcs]; rfl) (by decide) ?_
        refine r_aload_n (pc := 152) (a := 0) dX11_run_152 rfl ?_
        refine r_getR (pc := 153) (b := 22) fl_X11_43 dX11_run_153 s0_0 rfl ?_
        refine r_getI (pc := 156) (fi := 8) (x := (h4 22 8)) fl_X11_201 dX11_run_156 s0_22 rfl (rfl) ?_
        exact r_iret (st := []) (pc := 159) (x := (h4 22 8)) (ty := .int) dX11_run_159 rfl rfl rfl (by decide) ⟨rfl, _, rfl, w⟩
      · have w := w.2.2.2.2.2.2.2.1 hcs
        refine r_tswIn (pc := 44) (x := v2) (tgt := 160) dX11_run_44 hr5 (by omega) (by omega) (by rw [hcs]; rfl) (by decide) ?_
        refine r_aload_n (pc := 160) (a := 0) dX11_run_160 rfl ?_
        refine r_getR (pc := 161) (b := 22) fl_X11_43 dX11_run_161 s0_0 rfl ?_
        refine r_getI (pc := 164) (fi := 9) (x := (h4 22 9)) fl_X11_204 dX11_run_164 s0_22 rfl (rfl) ?_
        exact r_iret (st := []) (pc := 167) (x := (h4 22 9)) (ty := .int) dX11_run_167 rfl rfl rfl (by decide) ⟨rfl, _, rfl, w⟩
      · have w := w.2.2.2.2.2.2.2.2.1 hcs
        refine r_tswIn (pc := 44) (x := v2) (tgt := 168) dX11_run_44 hr5 (by omega) (by omega) (by rw [hcs]; rfl) (by decide) ?_
        refine r_aload_n (pc := 168) (a := 0) dX11_run_168 rfl ?_
        refine r_getR (pc := 169) (b := 22) fl_X11_43 dX11_run_169 s0_0 rfl ?_
        refine r_getI (pc := 172) (fi := 10) (x := (h4 22 10)) fl_X11_207 dX11_run_172 s0_22 rfl (rfl) ?_
        exact r_iret (st := []) (pc := 175) (x := (h4 22 10)) (ty := .int) dX11_run_175 rfl rfl rfl (by decide) ⟨rfl, _, rfl, w⟩
      · have w := w.2.2.2.2.2.2.2.2.2 hcs
        refine r_tswOut (pc := 44) (x := v2) (tgt := 176) dX11_run_44 hr5 (by omega) (by decide) ?_
        refine r_aload_n (pc := 176) (a := 0) dX11_run_176 rfl ?_
        refine r_getR (pc := 177) (b := 22) fl_X11_43 dX11_run_177 s0_0 rfl ?_
        refine r_getI (pc := 180) (fi := 11) (x := (h4 22 11)) fl_X11_210 dX11_run_180 s0_22 rfl (rfl) ?_
        exact r_iret (st := []) (pc := 183) (x := (h4 22 11)) (ty := .int) dX11_run_183 rfl rfl rfl (by decide) ⟨rfl, _, rfl, w⟩
    · have w := w.2 (bI_0.mp c)
      refine r_iconst (pc := 17) dX11_run_17 ?_
      exact r_iret (st := []) (pc := 18) (x := (-1)) (ty := .int) dX11_run_18 rfl rfl rfl (by decide) ⟨rfl, _, rfl, w⟩

set_option maxRecDepth 100000 in
set_option maxHeartbeats 4000000 in
theorem wX11_mow {h : zMm} {K : Int → zMm → Prop} {v1 : Int} (w : zCb mX11_isMinute [.int (zI v1)] zS0 h (fun b1 h1 => ((b1 = true → zCi mX3_told [.ref 10, .int (zI 3)] zS0 h1 (fun x2 h2 => zCv mX10_follow [.ref 22, .ref 10, .ref 16, .int (zI v1), .int (zI x2)] zS0 h2 (fun h3 => K (h3 22 3) (zCp (zCp h3 23 12 36) 24 14 36)))) ∧ (b1 = false → K (-1) h1)))) : zCi mX11_mow [.ref 0, .int (zI v1)] zS0 h K := by
  show RR mX11_mow 0 0 0 [some (.ref 0), some (.int (zI v1))] [] zS0 h (zQi zS0 K)
  refine r_iload_n (pc := 0) (x := v1) dX11_mow_0 rfl ?_
  refine r_callS (μ2 := mX11_isMinute) (pc := 1) (as := [.int (zI v1)]) (st := []) ml_X11_175 sm_X11_isMinute okX11_isMinute ⟨by decide, by decide⟩ dX11_mow_1 (Nat.le_of_ble_eq_true rfl) rfl (Nat.le_of_ble_eq_true rfl) (by decide) (by decide) (zCC.mono w ?_)
  rintro r S' h1 ⟨rfl, b1, hr, w⟩
  subst hr
  show RR mX11_mow 0 0 4 [some (.ref 0), some (.int (zI v1))] [.int (zI (bI b1))] zS0 h1 (zQi zS0 K)
  refine r_if_ne (pc := 4) (x := (bI b1)) (tgt := 9) dX11_mow_4 (by decide) (bI_R _) (fun c => ?_) (fun c => ?_)
  · have w := w.1 (bI_n.mp c)
    refine r_aload_n (pc := 9) (a := 0) dX11_mow_9 rfl ?_
    refine r_getR (pc := 10) (b := 22) fl_X11_43 dX11_mow_10 s0_0 rfl ?_
    refine r_aload_n (pc := 13) (a := 0) dX11_mow_13 rfl ?_
    refine r_getR (pc := 14) (b := 10) fl_X11_26 dX11_mow_14 s0_0 rfl ?_
    refine r_aload_n (pc := 17) (a := 0) dX11_mow_17 rfl ?_
    refine r_getR (pc := 18) (b := 16) fl_X11_33 dX11_mow_18 s0_0 rfl ?_
    refine r_iload_n (pc := 21) (x := v1) dX11_mow_21 rfl ?_
    refine r_aload_n (pc := 22) (a := 0) dX11_mow_22 rfl ?_
    refine r_getR (pc := 23) (b := 10) fl_X11_26 dX11_mow_23 s0_0 rfl ?_
    refine r_iconst (pc := 26) dX11_mow_26 ?_
    refine r_callV (μ2 := mX3_told) (pc := 27) (as := [.int (zI 3)]) (st := [.int (zI v1), .ref 16, .ref 10, .ref 22]) rfl s0_10 ml_X11_142 im_X3_told se_X3_told okX3_told ⟨by decide, by decide⟩ dX11_mow_27 (Nat.le_of_ble_eq_true rfl) rfl (Nat.le_of_ble_eq_true rfl) (by decide) (by decide) (zCC.mono w ?_)
    rintro r S' h2 ⟨rfl, x2, hr, w⟩
    subst hr
    show RR mX11_mow 0 0 30 [some (.ref 0), some (.int (zI v1))] [.int (zI x2), .int (zI v1), .ref 16, .ref 10, .ref 22] zS0 h2 (zQi zS0 K)
    refine r_callV (μ2 := mX10_follow) (pc := 30) (as := [.ref 10, .ref 16, .int (zI v1), .int (zI x2)]) (st := []) rfl s0_22 ml_X11_178 im_X10_follow se_X10_follow okX10_follow ⟨by decide, by decide⟩ dX11_mow_30 (Nat.le_of_ble_eq_true rfl) rfl (Nat.le_of_ble_eq_true rfl) (by decide) (by decide) (zCC.mono w ?_)
    rintro r S' h3 ⟨rfl, hr, w⟩
    subst hr
    show RR mX11_mow 0 0 33 [some (.ref 0), some (.int (zI v1))] [] zS0 h3 (zQi zS0 K)
    refine r_aload_n (pc := 33) (a := 0) dX11_mow_33 rfl ?_
    refine r_getR (pc := 34) (b := 22) fl_X11_43 dX11_mow_34 s0_0 rfl ?_
    refine r_getR (pc := 37) (b := 23) fl_X11_213 dX11_mow_37 s0_22 rfl ?_
    refine r_iconst (pc := 40) dX11_mow_40 ?_
    refine r_aload_n (pc := 41) (a := 0) dX11_mow_41 rfl ?_
    refine r_getR (pc := 42) (b := 10) fl_X11_26 dX11_mow_42 s0_0 rfl ?_
    refine r_getR (pc := 45) (b := 12) fl_X11_154 dX11_mow_45 s0_10 rfl ?_
    refine r_iconst (pc := 48) dX11_mow_48 ?_
    refine r_bipush (pc := 49) (x := 36) dX11_mow_49 (by decide) ?_
    refine r_copy_int (pc := 51) ml_X11_214 mw_native mw_static mw_init dX11_mow_51 s0_23 s0_12 (by decide) (by decide) (by decide) ?_
    refine r_aload_n (pc := 54) (a := 0) dX11_mow_54 rfl ?_
    refine r_getR (pc := 55) (b := 22) fl_X11_43 dX11_mow_55 s0_0 rfl ?_
    refine r_getR (pc := 58) (b := 24) fl_X11_220 dX11_mow_58 s0_22 rfl ?_
    refine r_iconst (pc := 61) dX11_mow_61 ?_
    refine r_aload_n (pc := 62) (a := 0) dX11_mow_62 rfl ?_
    refine r_getR (pc := 63) (b := 10) fl_X11_26 dX11_mow_63 s0_0 rfl ?_
    refine r_getR (pc := 66) (b := 14) fl_X11_160 dX11_mow_66 s0_10 rfl ?_
    refine r_iconst (pc := 69) dX11_mow_69 ?_
    refine r_bipush (pc := 70) (x := 36) dX11_mow_70 (by decide) ?_
    refine r_copy_int (pc := 72) ml_X11_214 mw_native mw_static mw_init dX11_mow_72 s0_24 s0_14 (by decide) (by decide) (by decide) ?_
    refine r_aload_n (pc := 75) (a := 0) dX11_mow_75 rfl ?_
    refine r_getR (pc := 76) (b := 22) fl_X11_43 dX11_mow_76 s0_0 rfl ?_
    refine r_getI (pc := 79) (fi := 3) (x := (h3 22 3)) fl_X11_185 dX11_mow_79 s0_22 rfl ((congrFun (zCp_off 22 (by omega)) _).trans (congrFun (zCp_off 22 (by omega)) _)) ?_
    exact r_iret (st := []) (pc := 82) (x := (h3 22 3)) (ty := .int) dX11_mow_82 rfl rfl rfl (by decide) ⟨rfl, _, rfl, w⟩
  · have w := w.2 (bI_0.mp c)
    refine r_iconst (pc := 7) dX11_mow_7 ?_
    exact r_iret (st := []) (pc := 8) (x := (-1)) (ty := .int) dX11_mow_8 rfl rfl rfl (by decide) ⟨rfl, _, rfl, w⟩

set_option maxRecDepth 100000 in
set_option maxHeartbeats 4000000 in
theorem wX11_cord {h : zMm} {K : Int → zMm → Prop} {v1 : Int} {v2 : Int} (w : (zR v1 ∧ ((v1 < 0 → K (-1) h) ∧ (¬ v1 < 0 → zCb mX11_isWithin [.int (zI v2), .int (zI 0), .int (zI 3)] zS0 h (fun b2 h2 => ((b2 = true → zCv mX1_draw [.ref 25, .ref 10, .ref 16, .int (zI v1)] zS0 h2 (fun h3 => (zR (h3 25 3) ∧ ((v1 ≤ (h3 25 3) → (zR v2 ∧ ((v2 = 0 → (zR ((h3 25 2) - 1) ∧ K ((h3 25 2) - 1) h3)) ∧ (v2 = 1 → zCl mX1_bits [.ref 25] zS0 h3 (fun x7 h7 => K x7 h7)) ∧ (v2 = 2 → (zR (h3 25 4) ∧ K (h3 25 4) h3)) ∧ (v2 < 0 ∨ 2 < v2 → (zR (h3 25 5) ∧ K (h3 25 5) h3))))) ∧ (¬ v1 ≤ (h3 25 3) → K (-1) h3))))) ∧ (b2 = false → K (-1) h2))))))) : zCl mX11_cord [.ref 0, .int (zI v1), .int (zI v2)] zS0 h K := by
  show RR mX11_cord 0 0 0 [some (.ref 0), some (.int (zI v1)), some (.int (zI v2))] [] zS0 h (zQl zS0 K)
  refine r_iload_n (pc := 0) (x := v1) dX11_cord_0 rfl ?_
  obtain ⟨hr1, w⟩ := w
  refine r_if_lt (pc := 1) (x := v1) (tgt := 13) dX11_cord_1 (by decide) hr1 (fun c => ?_) (fun c => ?_)
  · have w := w.1 (c)
    refine r_ldcL (pc := 13) (x := (-1)) dX11_cord_13 kl_X11_221 ?_
    exact r_lret (st := []) (pc := 16) (x := (-1)) dX11_cord_16 rfl rfl (by decide) ⟨rfl, _, rfl, w⟩
  · have w := w.2 (c)
    refine r_iload_n (pc := 4) (x := v2) dX11_cord_4 rfl ?_
    refine r_iconst (pc := 5) dX11_cord_5 ?_
    refine r_iconst (pc := 6) dX11_cord_6 ?_
    refine r_callS (μ2 := mX11_isWithin) (pc := 7) (as := [.int (zI v2), .int (zI 0), .int (zI 3)]) (st := []) ml_X11_138 sm_X11_isWithin okX11_isWithin ⟨by decide, by decide⟩ dX11_cord_7 (Nat.le_of_ble_eq_true rfl) rfl (Nat.le_of_ble_eq_true rfl) (by decide) (by decide) (zCC.mono w ?_)
    rintro r S' h2 ⟨rfl, b2, hr, w⟩
    subst hr
    show RR mX11_cord 0 0 10 [some (.ref 0), some (.int (zI v1)), some (.int (zI v2))] [.int (zI (bI b2))] zS0 h2 (zQl zS0 K)
    refine r_if_ne (pc := 10) (x := (bI b2)) (tgt := 17) dX11_cord_10 (by decide) (bI_R _) (fun c => ?_) (fun c => ?_)
    · have w := w.1 (bI_n.mp c)
      refine r_aload_n (pc := 17) (a := 0) dX11_cord_17 rfl ?_
      refine r_getR (pc := 18) (b := 25) fl_X11_50 dX11_cord_18 s0_0 rfl ?_
      refine r_aload_n (pc := 21) (a := 0) dX11_cord_21 rfl ?_
      refine r_getR (pc := 22) (b := 10) fl_X11_26 dX11_cord_22 s0_0 rfl ?_
      refine r_aload_n (pc := 25) (a := 0) dX11_cord_25 rfl ?_
      refine r_getR (pc := 26) (b := 16) fl_X11_33 dX11_cord_26 s0_0 rfl ?_
      refine r_iload_n (pc := 29) (x := v1) dX11_cord_29 rfl ?_
      refine r_callV (μ2 := mX1_draw) (pc := 30) (as := [.ref 10, .ref 16, .int (zI v1)]) (st := []) rfl s0_25 ml_X11_223 im_X1_draw se_X1_draw okX1_draw ⟨by decide, by decide⟩ dX11_cord_30 (Nat.le_of_ble_eq_true rfl) rfl (Nat.le_of_ble_eq_true rfl) (by decide) (by decide) (zCC.mono w ?_)
      rintro r S' h3 ⟨rfl, hr, w⟩
      subst hr
      show RR mX11_cord 0 0 33 [some (.ref 0), some (.int (zI v1)), some (.int (zI v2))] [] zS0 h3 (zQl zS0 K)
      refine r_aload_n (pc := 33) (a := 0) dX11_cord_33 rfl ?_
      refine r_getR (pc := 34) (b := 25) fl_X11_50 dX11_cord_34 s0_0 rfl ?_
      refine r_getI (pc := 37) (fi := 3) (x := (h3 25 3)) fl_X11_227 dX11_cord_37 s0_25 rfl (rfl) ?_
      refine r_iload_n (pc := 40) (x := v1) dX11_cord_40 rfl ?_
      obtain ⟨hr4, w⟩ := w
      refine r_icmp_ge (pc := 41) (x := (h3 25 3)) (y := v1) (tgt := 48) dX11_cord_41 (by decide) hr4 hr1 (fun c => ?_) (fun c => ?_)
      · have w := w.1 (c)
        refine r_iload_n (pc := 48) (x := v2) dX11_cord_48 rfl ?_
        obtain ⟨hr5, w⟩ := w
        rcases (show v2 = 0 ∨ v2 = 1 ∨ v2 = 2 ∨ (v2 < 0 ∨ 2 < v2) by omega) with hcs | hcs | hcs | hcs
        · have w := w.1 hcs
          refine r_tswIn (pc := 49) (x := v2) (tgt := 76) dX11_cord_49 hr5 (by omega) (by omega) (by rw [hcs]; rfl) (by decide) ?_
          refine r_aload_n (pc := 76) (a := 0) dX11_cord_76 rfl ?_
          refine r_getR (pc := 77) (b := 25) fl_X11_50 dX11_cord_77 s0_0 rfl ?_
          refine r_getI (pc := 80) (fi := 2) (x := (h3 25 2)) fl_X11_228 dX11_cord_80 s0_25 rfl (rfl) ?_
          refine r_iconst (pc := 83) dX11_cord_83 ?_
          refine r_isub (pc := 84) (x := (h3 25 2)) (y := 1) dX11_cord_84 ?_
          obtain ⟨hr6, w⟩ := w
          refine r_i2l (pc := 85) (x := ((h3 25 2) - 1)) dX11_cord_85 hr6 ?_
          exact r_lret (st := []) (pc := 86) (x := ((h3 25 2) - 1)) dX11_cord_86 rfl rfl (by decide) ⟨rfl, _, rfl, w⟩
        · have w := w.2.1 hcs
          refine r_tswIn (pc := 49) (x := v2) (tgt := 87) dX11_cord_49 hr5 (by omega) (by omega) (by rw [hcs]; rfl) (by decide) ?_
          refine r_aload_n (pc := 87) (a := 0) dX11_cord_87 rfl ?_
          refine r_getR (pc := 88) (b := 25) fl_X11_50 dX11_cord_88 s0_0 rfl ?_
          refine r_callV (μ2 := mX1_bits) (pc := 91) (as := []) (st := []) rfl s0_25 ml_X11_229 im_X1_bits se_X1_bits okX1_bits ⟨by decide, by decide⟩ dX11_cord_91 (Nat.le_of_ble_eq_true rfl) rfl (Nat.le_of_ble_eq_true rfl) (by decide) (by decide) (zCC.mono w ?_)
          rintro r S' h7 ⟨rfl, x7, hr, w⟩
          subst hr
          show RR mX11_cord 0 0 94 [some (.ref 0), some (.int (zI v1)), some (.int (zI v2))] [.long (zJ x7)] zS0 h7 (zQl zS0 K)
          exact r_lret (st := []) (pc := 94) (x := x7) dX11_cord_94 rfl rfl (by decide) ⟨rfl, _, rfl, w⟩
        · have w := w.2.2.1 hcs
          refine r_tswIn (pc := 49) (x := v2) (tgt := 95) dX11_cord_49 hr5 (by omega) (by omega) (by rw [hcs]; rfl) (by decide) ?_
          refine r_aload_n (pc := 95) (a := 0) dX11_cord_95 rfl ?_
          refine r_getR (pc := 96) (b := 25) fl_X11_50 dX11_cord_96 s0_0 rfl ?_
          refine r_getI (pc := 99) (fi := 4) (x := (h3 25 4)) fl_X11_233 dX11_cord_99 s0_25 rfl (rfl) ?_
          obtain ⟨hr8, w⟩ := w
          refine r_i2l (pc := 102) (x := (h3 25 4)) dX11_cord_102 hr8 ?_
          exact r_lret (st := []) (pc := 103) (x := (h3 25 4)) dX11_cord_103 rfl rfl (by decide) ⟨rfl, _, rfl, w⟩
        · have w := w.2.2.2 hcs
          refine r_tswOut (pc := 49) (x := v2) (tgt := 104) dX11_cord_49 hr5 (by omega) (by decide) ?_
          refine r_aload_n (pc := 104) (a := 0) dX11_cord_104 rfl ?_
          refine r_getR (pc := 105) (b := 25) fl_X11_50 dX11_cord_105 s0_0 rfl ?_
          refine r_getI (pc := 108) (fi := 5) (x := (h3 25 5)) fl_X11_236 dX11_cord_108 s0_25 rfl (rfl) ?_
          obtain ⟨hr9, w⟩ := w
          refine r_i2l (pc := 111) (x := (h3 25 5)) dX11_cord_111 hr9 ?_
          exact r_lret (st := []) (pc := 112) (x := (h3 25 5)) dX11_cord_112 rfl rfl (by decide) ⟨rfl, _, rfl, w⟩
      · have w := w.2 (c)
        refine r_ldcL (pc := 44) (x := (-1)) dX11_cord_44 kl_X11_221 ?_
        exact r_lret (st := []) (pc := 47) (x := (-1)) dX11_cord_47 rfl rfl (by decide) ⟨rfl, _, rfl, w⟩
    · have w := w.2 (bI_0.mp c)
      refine r_ldcL (pc := 13) (x := (-1)) dX11_cord_13 kl_X11_221 ?_
      exact r_lret (st := []) (pc := 16) (x := (-1)) dX11_cord_16 rfl rfl (by decide) ⟨rfl, _, rfl, w⟩

set_option maxRecDepth 100000 in
set_option maxHeartbeats 4000000 in
theorem wX11_trips {h : zMm} {K : Int → zMm → Prop} {v1 : Int} (w : zCb mX11_isWithin [.int (zI v1), .int (zI 0), .int (zI 1)] zS0 h (fun b1 h1 => ((b1 = true → zCv mX1_draw [.ref 25, .ref 10, .ref 16, .int (zI 120)] zS0 h1 (fun h2 => (zR v1 ∧ (zR (if v1 = 0 then (h2 25 6) else (h2 25 7)) ∧ K (if (if v1 = 0 then (h2 25 6) else (h2 25 7)) ≤ 0 then ((-4) : Int) else (if v1 = 0 then (h2 25 6) else (h2 25 7))) h2)))) ∧ (b1 = false → K (-1) h1)))) : zCi mX11_trips [.ref 0, .int (zI v1)] zS0 h K := by
  show RR mX11_trips 0 0 0 [some (.ref 0), some (.int (zI v1)), none] [] zS0 h (zQi zS0 K)
  refine r_iload_n (pc := 0) (x := v1) dX11_trips_0 rfl ?_
  refine r_iconst (pc := 1) dX11_trips_1 ?_
  refine r_iconst (pc := 2) dX11_trips_2 ?_
  refine r_callS (μ2 := mX11_isWithin) (pc := 3) (as := [.int (zI v1), .int (zI 0), .int (zI 1)]) (st := []) ml_X11_138 sm_X11_isWithin okX11_isWithin ⟨by decide, by decide⟩ dX11_trips_3 (Nat.le_of_ble_eq_true rfl) rfl (Nat.le_of_ble_eq_true rfl) (by decide) (by decide) (zCC.mono w ?_)
  rintro r S' h1 ⟨rfl, b1, hr, w⟩
  subst hr
  show RR mX11_trips 0 0 6 [some (.ref 0), some (.int (zI v1)), none] [.int (zI (bI b1))] zS0 h1 (zQi zS0 K)
  refine r_if_ne (pc := 6) (x := (bI b1)) (tgt := 11) dX11_trips_6 (by decide) (bI_R _) (fun c => ?_) (fun c => ?_)
  · have w := w.1 (bI_n.mp c)
    refine r_aload_n (pc := 11) (a := 0) dX11_trips_11 rfl ?_
    refine r_getR (pc := 12) (b := 25) fl_X11_50 dX11_trips_12 s0_0 rfl ?_
    refine r_aload_n (pc := 15) (a := 0) dX11_trips_15 rfl ?_
    refine r_getR (pc := 16) (b := 10) fl_X11_26 dX11_trips_16 s0_0 rfl ?_
    refine r_aload_n (pc := 19) (a := 0) dX11_trips_19 rfl ?_
    refine r_getR (pc := 20) (b := 16) fl_X11_33 dX11_trips_20 s0_0 rfl ?_
    refine r_bipush (pc := 23) (x := 120) dX11_trips_23 (by decide) ?_
    refine r_callV (μ2 := mX1_draw) (pc := 25) (as := [.ref 10, .ref 16, .int (zI 120)]) (st := []) rfl s0_25 ml_X11_223 im_X1_draw se_X1_draw okX1_draw ⟨by decide, by decide⟩ dX11_trips_25 (Nat.le_of_ble_eq_true rfl) rfl (Nat.le_of_ble_eq_true rfl) (by decide) (by decide) (zCC.mono w ?_)
    rintro r S' h2 ⟨rfl, hr, w⟩
    subst hr
    show RR mX11_trips 0 0 28 [some (.ref 0), some (.int (zI v1)), none] [] zS0 h2 (zQi zS0 K)
    refine r_iload_n (pc := 28) (x := v1) dX11_trips_28 rfl ?_
    obtain ⟨hr3, w⟩ := w
    have kk6 : RR mX11_trips 0 0 49 [some (.ref 0), some (.int (zI v1)), none] [.int (zI (if v1 = 0 then (h2 25 6) else (h2 25 7)))] zS0 h2 (zQi zS0 K) := by
      refine r_istore_n (pc := 49) (L' := [some (.ref 0), some (.int (zI v1)), some (.int (zI (if v1 = 0 then (h2 25 6) else (h2 25 7))))]) dX11_trips_49 (by decide) rfl ?_
      refine r_iload_n (pc := 50) (x := (if v1 = 0 then (h2 25 6) else (h2 25 7))) dX11_trips_50 rfl ?_
      obtain ⟨hr4, w⟩ := w
      have kk5 : RR mX11_trips 0 0 60 [some (.ref 0), some (.int (zI v1)), some (.int (zI (if v1 = 0 then (h2 25 6) else (h2 25 7))))] [.int (zI (if (if v1 = 0 then (h2 25 6) else (h2 25 7)) ≤ 0 then ((-4) : Int) else (if v1 = 0 then (h2 25 6) else (h2 25 7))))] zS0 h2 (zQi zS0 K) := by
        exact r_iret (st := []) (pc := 60) (x := (if (if v1 = 0 then (h2 25 6) else (h2 25 7)) ≤ 0 then ((-4) : Int) else (if v1 = 0 then (h2 25 6) else (h2 25 7)))) (ty := .int) dX11_trips_60 rfl rfl rfl (by decide) ⟨rfl, _, rfl, w⟩
      refine r_if_le (pc := 51) (x := (if v1 = 0 then (h2 25 6) else (h2 25 7))) (tgt := 58) dX11_trips_51 (by decide) hr4 (fun c => ?_) (fun c => ?_)
      · refine r_bipush (pc := 58) (x := (-4)) dX11_trips_58 (by decide) ?_
        simp only [if_pos (c)] at kk5 ⊢
        exact kk5
      · refine r_iload_n (pc := 54) (x := (if v1 = 0 then (h2 25 6) else (h2 25 7))) dX11_trips_54 rfl ?_
        refine r_goto (pc := 55) (tgt := 60) dX11_trips_55 (by decide) ?_
        simp only [if_neg (c)] at kk5 ⊢
        exact kk5
    refine r_if_ne (pc := 29) (x := v1) (tgt := 42) dX11_trips_29 (by decide) hr3 (fun c => ?_) (fun c => ?_)
    · refine r_aload_n (pc := 42) (a := 0) dX11_trips_42 rfl ?_
      refine r_getR (pc := 43) (b := 25) fl_X11_50 dX11_trips_43 s0_0 rfl ?_
      refine r_getI (pc := 46) (fi := 7) (x := (h2 25 7)) fl_X11_242 dX11_trips_46 s0_25 rfl (rfl) ?_
      simp only [if_neg (c)] at kk6 ⊢
      exact kk6
    · refine r_aload_n (pc := 32) (a := 0) dX11_trips_32 rfl ?_
      refine r_getR (pc := 33) (b := 25) fl_X11_50 dX11_trips_33 s0_0 rfl ?_
      refine r_getI (pc := 36) (fi := 6) (x := (h2 25 6)) fl_X11_239 dX11_trips_36 s0_25 rfl (rfl) ?_
      refine r_goto (pc := 39) (tgt := 49) dX11_trips_39 (by decide) ?_
      simp only [if_pos (c)] at kk6 ⊢
      exact kk6
  · have w := w.2 (bI_0.mp c)
    refine r_iconst (pc := 9) dX11_trips_9 ?_
    exact r_iret (st := []) (pc := 10) (x := (-1)) (ty := .int) dX11_trips_10 rfl rfl rfl (by decide) ⟨rfl, _, rfl, w⟩

set_option maxRecDepth 100000 in
set_option maxHeartbeats 4000000 in
theorem wX11_begin {h : zMm} {K : Int → zMm → Prop} (w : zCi mX3_told [.ref 10, .int (zI 3)] zS0 h (fun x1 h1 => zCv mX10_follow [.ref 22, .ref 10, .ref 16, .int (zI 0), .int (zI x1)] zS0 h1 (fun h2 => (zR (h2 22 13) ∧ ((0 ≤ (h2 22 13) → zCi mX3_told [.ref 10, .int (zI 6)] zS0 h2 (fun x4 h4 => (zR (x4 - (h4 22 13)) ∧ K (if 999 < (max 0 (x4 - (h4 22 13))) then ((-4) : Int) else (max 0 (x4 - (h4 22 13)))) h4))) ∧ (¬ 0 ≤ (h2 22 13) → K 0 h2)))))) : zCi mX11_begin [.ref 0] zS0 h K := by
  show RR mX11_begin 0 0 0 [some (.ref 0), none] [] zS0 h (zQi zS0 K)
  refine r_aload_n (pc := 0) (a := 0) dX11_begin_0 rfl ?_
  refine r_getR (pc := 1) (b := 22) fl_X11_43 dX11_begin_1 s0_0 rfl ?_
  refine r_aload_n (pc := 4) (a := 0) dX11_begin_4 rfl ?_
  refine r_getR (pc := 5) (b := 10) fl_X11_26 dX11_begin_5 s0_0 rfl ?_
  refine r_aload_n (pc := 8) (a := 0) dX11_begin_8 rfl ?_
  refine r_getR (pc := 9) (b := 16) fl_X11_33 dX11_begin_9 s0_0 rfl ?_
  refine r_iconst (pc := 12) dX11_begin_12 ?_
  refine r_aload_n (pc := 13) (a := 0) dX11_begin_13 rfl ?_
  refine r_getR (pc := 14) (b := 10) fl_X11_26 dX11_begin_14 s0_0 rfl ?_
  refine r_iconst (pc := 17) dX11_begin_17 ?_
  refine r_callV (μ2 := mX3_told) (pc := 18) (as := [.int (zI 3)]) (st := [.int (zI 0), .ref 16, .ref 10, .ref 22]) rfl s0_10 ml_X11_142 im_X3_told se_X3_told okX3_told ⟨by decide, by decide⟩ dX11_begin_18 (Nat.le_of_ble_eq_true rfl) rfl (Nat.le_of_ble_eq_true rfl) (by decide) (by decide) (zCC.mono w ?_)
  rintro r S' h1 ⟨rfl, x1, hr, w⟩
  subst hr
  show RR mX11_begin 0 0 21 [some (.ref 0), none] [.int (zI x1), .int (zI 0), .ref 16, .ref 10, .ref 22] zS0 h1 (zQi zS0 K)
  refine r_callV (μ2 := mX10_follow) (pc := 21) (as := [.ref 10, .ref 16, .int (zI 0), .int (zI x1)]) (st := []) rfl s0_22 ml_X11_178 im_X10_follow se_X10_follow okX10_follow ⟨by decide, by decide⟩ dX11_begin_21 (Nat.le_of_ble_eq_true rfl) rfl (Nat.le_of_ble_eq_true rfl) (by decide) (by decide) (zCC.mono w ?_)
  rintro r S' h2 ⟨rfl, hr, w⟩
  subst hr
  show RR mX11_begin 0 0 24 [some (.ref 0), none] [] zS0 h2 (zQi zS0 K)
  refine r_aload_n (pc := 24) (a := 0) dX11_begin_24 rfl ?_
  refine r_getR (pc := 25) (b := 22) fl_X11_43 dX11_begin_25 s0_0 rfl ?_
  refine r_getI (pc := 28) (fi := 13) (x := (h2 22 13)) fl_X11_245 dX11_begin_28 s0_22 rfl (rfl) ?_
  obtain ⟨hr3, w⟩ := w
  refine r_if_ge (pc := 31) (x := (h2 22 13)) (tgt := 36) dX11_begin_31 (by decide) hr3 (fun c => ?_) (fun c => ?_)
  · have w := w.1 (c)
    refine r_iconst (pc := 36) dX11_begin_36 ?_
    refine r_aload_n (pc := 37) (a := 0) dX11_begin_37 rfl ?_
    refine r_getR (pc := 38) (b := 10) fl_X11_26 dX11_begin_38 s0_0 rfl ?_
    refine r_bipush (pc := 41) (x := 6) dX11_begin_41 (by decide) ?_
    refine r_callV (μ2 := mX3_told) (pc := 43) (as := [.int (zI 6)]) (st := [.int (zI 0)]) rfl s0_10 ml_X11_142 im_X3_told se_X3_told okX3_told ⟨by decide, by decide⟩ dX11_begin_43 (Nat.le_of_ble_eq_true rfl) rfl (Nat.le_of_ble_eq_true rfl) (by decide) (by decide) (zCC.mono w ?_)
    rintro r S' h4 ⟨rfl, x4, hr, w⟩
    subst hr
    show RR mX11_begin 0 0 46 [some (.ref 0), none] [.int (zI x4), .int (zI 0)] zS0 h4 (zQi zS0 K)
    refine r_aload_n (pc := 46) (a := 0) dX11_begin_46 rfl ?_
    refine r_getR (pc := 47) (b := 22) fl_X11_43 dX11_begin_47 s0_0 rfl ?_
    refine r_getI (pc := 50) (fi := 13) (x := (h4 22 13)) fl_X11_245 dX11_begin_50 s0_22 rfl (rfl) ?_
    refine r_isub (pc := 53) (x := x4) (y := (h4 22 13)) dX11_begin_53 ?_
    obtain ⟨hr5, w⟩ := w
    refine r_max (pc := 54) (x := 0) (y := (x4 - (h4 22 13))) ml_X11_248 mm_max_s it_J9 mm_max_c dX11_begin_54 (by decide) (by decide) (by decide) (by decide) (by decide) hr5 ?_
    refine r_istore_n (pc := 57) (L' := [some (.ref 0), some (.int (zI (max 0 (x4 - (h4 22 13)))))]) dX11_begin_57 (by decide) rfl ?_
    refine r_iload_n (pc := 58) (x := (max 0 (x4 - (h4 22 13)))) dX11_begin_58 rfl ?_
    refine r_sipush (pc := 59) (x := 999) dX11_begin_59 (by decide) ?_
    have kk6 : RR mX11_begin 0 0 71 [some (.ref 0), some (.int (zI (max 0 (x4 - (h4 22 13)))))] [.int (zI (if 999 < (max 0 (x4 - (h4 22 13))) then ((-4) : Int) else (max 0 (x4 - (h4 22 13)))))] zS0 h4 (zQi zS0 K) := by
      exact r_iret (st := []) (pc := 71) (x := (if 999 < (max 0 (x4 - (h4 22 13))) then ((-4) : Int) else (max 0 (x4 - (h4 22 13))))) (ty := .int) dX11_begin_71 rfl rfl rfl (by decide) ⟨rfl, _, rfl, w⟩
    refine r_icmp_gt (pc := 62) (x := (max 0 (x4 - (h4 22 13)))) (y := 999) (tgt := 69) dX11_begin_62 (by decide) ⟨by omega, by omega⟩ (by decide) (fun c => ?_) (fun c => ?_)
    · refine r_bipush (pc := 69) (x := (-4)) dX11_begin_69 (by decide) ?_
      simp only [if_pos (c)] at kk6 ⊢
      exact kk6
    · refine r_iload_n (pc := 65) (x := (max 0 (x4 - (h4 22 13)))) dX11_begin_65 rfl ?_
      refine r_goto (pc := 66) (tgt := 71) dX11_begin_66 (by decide) ?_
      simp only [if_neg (c)] at kk6 ⊢
      exact kk6
  · have w := w.2 (c)
    refine r_iconst (pc := 34) dX11_begin_34 ?_
    exact r_iret (st := []) (pc := 35) (x := 0) (ty := .int) dX11_begin_35 rfl rfl rfl (by decide) ⟨rfl, _, rfl, w⟩

set_option maxRecDepth 100000 in
set_option maxHeartbeats 4000000 in
theorem wX11_need {h : zMm} {K : Int → zMm → Prop} {v1 : Int} (w : zCb mX11_isMinute [.int (zI v1)] zS0 h (fun b1 h1 => ((b1 = true → zCv mX10_follow [.ref 22, .ref 10, .ref 16, .int (zI v1), .int (zI 2160)] zS0 h1 (fun h2 => (zR (h2 22 12) ∧ K (if 999 < (max 1 (h2 22 12)) then ((-4) : Int) else (max 1 (h2 22 12))) h2))) ∧ (b1 = false → K (-1) h1)))) : zCi mX11_need [.ref 0, .int (zI v1)] zS0 h K := by
  show RR mX11_need 0 0 0 [some (.ref 0), some (.int (zI v1)), none] [] zS0 h (zQi zS0 K)
  refine r_iload_n (pc := 0) (x := v1) dX11_need_0 rfl ?_
  refine r_callS (μ2 := mX11_isMinute) (pc := 1) (as := [.int (zI v1)]) (st := []) ml_X11_175 sm_X11_isMinute okX11_isMinute ⟨by decide, by decide⟩ dX11_need_1 (Nat.le_of_ble_eq_true rfl) rfl (Nat.le_of_ble_eq_true rfl) (by decide) (by decide) (zCC.mono w ?_)
  rintro r S' h1 ⟨rfl, b1, hr, w⟩
  subst hr
  show RR mX11_need 0 0 4 [some (.ref 0), some (.int (zI v1)), none] [.int (zI (bI b1))] zS0 h1 (zQi zS0 K)
  refine r_if_ne (pc := 4) (x := (bI b1)) (tgt := 9) dX11_need_4 (by decide) (bI_R _) (fun c => ?_) (fun c => ?_)
  · have w := w.1 (bI_n.mp c)
    refine r_aload_n (pc := 9) (a := 0) dX11_need_9 rfl ?_
    refine r_getR (pc := 10) (b := 22) fl_X11_43 dX11_need_10 s0_0 rfl ?_
    refine r_aload_n (pc := 13) (a := 0) dX11_need_13 rfl ?_
    refine r_getR (pc := 14) (b := 10) fl_X11_26 dX11_need_14 s0_0 rfl ?_
    refine r_aload_n (pc := 17) (a := 0) dX11_need_17 rfl ?_
    refine r_getR (pc := 18) (b := 16) fl_X11_33 dX11_need_18 s0_0 rfl ?_
    refine r_iload_n (pc := 21) (x := v1) dX11_need_21 rfl ?_
    refine r_sipush (pc := 22) (x := 2160) dX11_need_22 (by decide) ?_
    refine r_callV (μ2 := mX10_follow) (pc := 25) (as := [.ref 10, .ref 16, .int (zI v1), .int (zI 2160)]) (st := []) rfl s0_22 ml_X11_178 im_X10_follow se_X10_follow okX10_follow ⟨by decide, by decide⟩ dX11_need_25 (Nat.le_of_ble_eq_true rfl) rfl (Nat.le_of_ble_eq_true rfl) (by decide) (by decide) (zCC.mono w ?_)
    rintro r S' h2 ⟨rfl, hr, w⟩
    subst hr
    show RR mX11_need 0 0 28 [some (.ref 0), some (.int (zI v1)), none] [] zS0 h2 (zQi zS0 K)
    refine r_iconst (pc := 28) dX11_need_28 ?_
    refine r_aload_n (pc := 29) (a := 0) dX11_need_29 rfl ?_
    refine r_getR (pc := 30) (b := 22) fl_X11_43 dX11_need_30 s0_0 rfl ?_
    refine r_getI (pc := 33) (fi := 12) (x := (h2 22 12)) fl_X11_254 dX11_need_33 s0_22 rfl (rfl) ?_
    obtain ⟨hr3, w⟩ := w
    refine r_max (pc := 36) (x := 1) (y := (h2 22 12)) ml_X11_248 mm_max_s it_J9 mm_max_c dX11_need_36 (by decide) (by decide) (by decide) (by decide) (by decide) hr3 ?_
    refine r_istore_n (pc := 39) (L' := [some (.ref 0), some (.int (zI v1)), some (.int (zI (max 1 (h2 22 12))))]) dX11_need_39 (by decide) rfl ?_
    refine r_iload_n (pc := 40) (x := (max 1 (h2 22 12))) dX11_need_40 rfl ?_
    refine r_sipush (pc := 41) (x := 999) dX11_need_41 (by decide) ?_
    have kk4 : RR mX11_need 0 0 53 [some (.ref 0), some (.int (zI v1)), some (.int (zI (max 1 (h2 22 12))))] [.int (zI (if 999 < (max 1 (h2 22 12)) then ((-4) : Int) else (max 1 (h2 22 12))))] zS0 h2 (zQi zS0 K) := by
      exact r_iret (st := []) (pc := 53) (x := (if 999 < (max 1 (h2 22 12)) then ((-4) : Int) else (max 1 (h2 22 12)))) (ty := .int) dX11_need_53 rfl rfl rfl (by decide) ⟨rfl, _, rfl, w⟩
    refine r_icmp_gt (pc := 44) (x := (max 1 (h2 22 12))) (y := 999) (tgt := 51) dX11_need_44 (by decide) ⟨by omega, by omega⟩ (by decide) (fun c => ?_) (fun c => ?_)
    · refine r_bipush (pc := 51) (x := (-4)) dX11_need_51 (by decide) ?_
      simp only [if_pos (c)] at kk4 ⊢
      exact kk4
    · refine r_iload_n (pc := 47) (x := (max 1 (h2 22 12))) dX11_need_47 rfl ?_
      refine r_goto (pc := 48) (tgt := 53) dX11_need_48 (by decide) ?_
      simp only [if_neg (c)] at kk4 ⊢
      exact kk4
  · have w := w.2 (bI_0.mp c)
    refine r_iconst (pc := 7) dX11_need_7 ?_
    exact r_iret (st := []) (pc := 8) (x := (-1)) (ty := .int) dX11_need_8 rfl rfl rfl (by decide) ⟨rfl, _, rfl, w⟩

set_option maxRecDepth 100000 in
set_option maxHeartbeats 4000000 in
theorem wX11_seekLeast {h : zMm} {K : Int → zMm → Prop} (w : zCi mX3_grassCells [.ref 10] zS0 h (fun x1 h1 => (zR x1 ∧ ((x1 ≤ 7 → zCv mX4_seek [.ref 31, .ref 10] zS0 h1 (fun h3 => zCb mX4_isFound [.ref 31] zS0 h3 (fun b4 h4 => K (if b4 = true then (0 : Int) else ((-4) : Int)) h4))) ∧ (¬ x1 ≤ 7 → K (-2) h1))))) : zCi mX11_seekLeast [.ref 0] zS0 h K := by
  show RR mX11_seekLeast 0 0 0 [some (.ref 0)] [] zS0 h (zQi zS0 K)
  refine r_aload_n (pc := 0) (a := 0) dX11_seekLeast_0 rfl ?_
  refine r_getR (pc := 1) (b := 10) fl_X11_26 dX11_seekLeast_1 s0_0 rfl ?_
  refine r_callV (μ2 := mX3_grassCells) (pc := 4) (as := []) (st := []) rfl s0_10 ml_X11_284 im_X3_grassCells se_X3_grassCells okX3_grassCells ⟨by decide, by decide⟩ dX11_seekLeast_4 (Nat.le_of_ble_eq_true rfl) rfl (Nat.le_of_ble_eq_true rfl) (by decide) (by decide) (zCC.mono w ?_)
  rintro r S' h1 ⟨rfl, x1, hr, w⟩
  subst hr
  show RR mX11_seekLeast 0 0 7 [some (.ref 0)] [.int (zI x1)] zS0 h1 (zQi zS0 K)
  refine r_bipush (pc := 7) (x := 7) dX11_seekLeast_7 (by decide) ?_
  obtain ⟨hr2, w⟩ := w
  refine r_icmp_le (pc := 9) (x := x1) (y := 7) (tgt := 15) dX11_seekLeast_9 (by decide) hr2 (by decide) (fun c => ?_) (fun c => ?_)
  · have w := w.1 (c)
    refine r_aload_n (pc := 15) (a := 0) dX11_seekLeast_15 rfl ?_
    refine r_getR (pc := 16) (b := 31) fl_X11_64 dX11_seekLeast_16 s0_0 rfl ?_
    refine r_aload_n (pc := 19) (a := 0) dX11_seekLeast_19 rfl ?_
    refine r_getR (pc := 20) (b := 10) fl_X11_26 dX11_seekLeast_20 s0_0 rfl ?_
    refine r_callV (μ2 := mX4_seek) (pc := 23) (as := [.ref 10]) (st := []) rfl s0_31 ml_X11_287 im_X4_seek se_X4_seek okX4_seek ⟨by decide, by decide⟩ dX11_seekLeast_23 (Nat.le_of_ble_eq_true rfl) rfl (Nat.le_of_ble_eq_true rfl) (by decide) (by decide) (zCC.mono w ?_)
    rintro r S' h3 ⟨rfl, hr, w⟩
    subst hr
    show RR mX11_seekLeast 0 0 26 [some (.ref 0)] [] zS0 h3 (zQi zS0 K)
    refine r_aload_n (pc := 26) (a := 0) dX11_seekLeast_26 rfl ?_
    refine r_getR (pc := 27) (b := 31) fl_X11_64 dX11_seekLeast_27 s0_0 rfl ?_
    refine r_callV (μ2 := mX4_isFound) (pc := 30) (as := []) (st := []) rfl s0_31 ml_X11_290 im_X4_isFound se_X4_isFound okX4_isFound ⟨by decide, by decide⟩ dX11_seekLeast_30 (Nat.le_of_ble_eq_true rfl) rfl (Nat.le_of_ble_eq_true rfl) (by decide) (by decide) (zCC.mono w ?_)
    rintro r S' h4 ⟨rfl, b4, hr, w⟩
    subst hr
    show RR mX11_seekLeast 0 0 33 [some (.ref 0)] [.int (zI (bI b4))] zS0 h4 (zQi zS0 K)
    have kk5 : RR mX11_seekLeast 0 0 42 [some (.ref 0)] [.int (zI (if b4 = true then (0 : Int) else ((-4) : Int)))] zS0 h4 (zQi zS0 K) := by
      exact r_iret (st := []) (pc := 42) (x := (if b4 = true then (0 : Int) else ((-4) : Int))) (ty := .int) dX11_seekLeast_42 rfl rfl rfl (by decide) ⟨rfl, _, rfl, w⟩
    refine r_if_eq (pc := 33) (x := (bI b4)) (tgt := 40) dX11_seekLeast_33 (by decide) (bI_R _) (fun c => ?_) (fun c => ?_)
    · refine r_bipush (pc := 40) (x := (-4)) dX11_seekLeast_40 (by decide) ?_
      simp only [if_neg (bI_ft (bI_0.mp c))] at kk5 ⊢
      exact kk5
    · refine r_iconst (pc := 36) dX11_seekLeast_36 ?_
      refine r_goto (pc := 37) (tgt := 42) dX11_seekLeast_37 (by decide) ?_
      simp only [if_pos (bI_n.mp c)] at kk5 ⊢
      exact kk5
  · have w := w.2 (c)
    refine r_bipush (pc := 12) (x := (-2)) dX11_seekLeast_12 (by decide) ?_
    exact r_iret (st := []) (pc := 14) (x := (-2)) (ty := .int) dX11_seekLeast_14 rfl rfl rfl (by decide) ⟨rfl, _, rfl, w⟩

set_option maxRecDepth 100000 in
set_option maxHeartbeats 4000000 in
theorem wX11_least {h : zMm} {K : Int → zMm → Prop} {v1 : Int} (w : zCb mX11_isWithin [.int (zI v1), .int (zI 0), .int (zI 2)] zS0 h (fun b1 h1 => ((b1 = true → zCi mX11_seekLeast [.ref 0] zS0 h1 (fun x2 h2 => (zR x2 ∧ ((x2 = 0 → (zR v1 ∧ ((v1 = 0 → K (h2 31 15) h2) ∧ (v1 = 1 → K (h2 31 16) h2) ∧ (v1 = 2 → K (h2 31 17) h2) ∧ (v1 < 0 ∨ 2 < v1 → zCi mX4_wayOf [.ref 31, .int (zI (v1 - 10))] zS0 h2 (fun x5 h5 => K x5 h5))))) ∧ (¬ x2 = 0 → K x2 h2))))) ∧ (b1 = false → (zR v1 ∧ ((10 ≤ v1 → zCi mX11_seekLeast [.ref 0] zS0 h1 (fun x7 h7 => (zR x7 ∧ ((x7 = 0 → ((v1 = 0 → K (h7 31 15) h7) ∧ (v1 = 1 → K (h7 31 16) h7) ∧ (v1 = 2 → K (h7 31 17) h7) ∧ (v1 < 0 ∨ 2 < v1 → zCi mX4_wayOf [.ref 31, .int (zI (v1 - 10))] zS0 h7 (fun x9 h9 => K x9 h9)))) ∧ (¬ x7 = 0 → K x7 h7))))) ∧ (¬ 10 ≤ v1 → K (-1) h1))))))) : zCi mX11_least [.ref 0, .int (zI v1)] zS0 h K := by
  show RR mX11_least 0 0 0 [some (.ref 0), some (.int (zI v1)), none] [] zS0 h (zQi zS0 K)
  refine r_iload_n (pc := 0) (x := v1) dX11_least_0 rfl ?_
  refine r_iconst (pc := 1) dX11_least_1 ?_
  refine r_iconst (pc := 2) dX11_least_2 ?_
  refine r_callS (μ2 := mX11_isWithin) (pc := 3) (as := [.int (zI v1), .int (zI 0), .int (zI 2)]) (st := []) ml_X11_138 sm_X11_isWithin okX11_isWithin ⟨by decide, by decide⟩ dX11_least_3 (Nat.le_of_ble_eq_true rfl) rfl (Nat.le_of_ble_eq_true rfl) (by decide) (by decide) (zCC.mono w ?_)
  rintro r S' h1 ⟨rfl, b1, hr, w⟩
  subst hr
  show RR mX11_least 0 0 6 [some (.ref 0), some (.int (zI v1)), none] [.int (zI (bI b1))] zS0 h1 (zQi zS0 K)
  refine r_if_ne (pc := 6) (x := (bI b1)) (tgt := 17) dX11_least_6 (by decide) (bI_R _) (fun c => ?_) (fun c => ?_)
  · have w := w.1 (bI_n.mp c)
    refine r_aload_n (pc := 17) (a := 0) dX11_least_17 rfl ?_
    refine r_callV (μ2 := mX11_seekLeast) (pc := 18) (as := []) (st := []) rfl s0_0 ml_X11_257 im_X11_seekLeast se_X11_seekLeast okX11_seekLeast ⟨by decide, by decide⟩ dX11_least_18 (Nat.le_of_ble_eq_true rfl) rfl (Nat.le_of_ble_eq_true rfl) (by decide) (by decide) (zCC.mono w ?_)
    rintro r S' h2 ⟨rfl, x2, hr, w⟩
    subst hr
    show RR mX11_least 0 0 21 [some (.ref 0), some (.int (zI v1)), none] [.int (zI x2)] zS0 h2 (zQi zS0 K)
    refine r_istore_n (pc := 21) (L' := [some (.ref 0), some (.int (zI v1)), some (.int (zI x2))]) dX11_least_21 (by decide) rfl ?_
    refine r_iload_n (pc := 22) (x := x2) dX11_least_22 rfl ?_
    obtain ⟨hr3, w⟩ := w
    refine r_if_eq (pc := 23) (x := x2) (tgt := 28) dX11_least_23 (by decide) hr3 (fun c => ?_) (fun c => ?_)
    · have w := w.1 (c)
      refine r_iload_n (pc := 28) (x := v1) dX11_least_28 rfl ?_
      obtain ⟨hr4, w⟩ := w
      rcases (show v1 = 0 ∨ v1 = 1 ∨ v1 = 2 ∨ (v1 < 0 ∨ 2 < v1) by omega) with hcs | hcs | hcs | hcs
      · have w := w.1 hcs
        refine r_tswIn (pc := 29) (x := v1) (tgt := 56) dX11_least_29 hr4 (by omega) (by omega) (by rw [hcs]; rfl) (by decide) ?_
        refine r_aload_n (pc := 56) (a := 0) dX11_least_56 rfl ?_
        refine r_getR (pc := 57) (b := 31) fl_X11_64 dX11_least_57 s0_0 rfl ?_
        refine r_getI (pc := 60) (fi := 15) (x := (h2 31 15)) fl_X11_261 dX11_least_60 s0_31 rfl (rfl) ?_
        exact r_iret (st := []) (pc := 63) (x := (h2 31 15)) (ty := .int) dX11_least_63 rfl rfl rfl (by decide) ⟨rfl, _, rfl, w⟩
      · have w := w.2.1 hcs
        refine r_tswIn (pc := 29) (x := v1) (tgt := 64) dX11_least_29 hr4 (by omega) (by omega) (by rw [hcs]; rfl) (by decide) ?_
        refine r_aload_n (pc := 64) (a := 0) dX11_least_64 rfl ?_
        refine r_getR (pc := 65) (b := 31) fl_X11_64 dX11_least_65 s0_0 rfl ?_
        refine r_getI (pc := 68) (fi := 16) (x := (h2 31 16)) fl_X11_262 dX11_least_68 s0_31 rfl (rfl) ?_
        exact r_iret (st := []) (pc := 71) (x := (h2 31 16)) (ty := .int) dX11_least_71 rfl rfl rfl (by decide) ⟨rfl, _, rfl, w⟩
      · have w := w.2.2.1 hcs
        refine r_tswIn (pc := 29) (x := v1) (tgt := 72) dX11_least_29 hr4 (by omega) (by omega) (by rw [hcs]; rfl) (by decide) ?_
        refine r_aload_n (pc := 72) (a := 0) dX11_least_72 rfl ?_
        refine r_getR (pc := 73) (b := 31) fl_X11_64 dX11_least_73 s0_0 rfl ?_
        refine r_getI (pc := 76) (fi := 17) (x := (h2 31 17)) fl_X11_263 dX11_least_76 s0_31 rfl (rfl) ?_
        exact r_iret (st := []) (pc := 79) (x := (h2 31 17)) (ty := .int) dX11_least_79 rfl rfl rfl (by decide) ⟨rfl, _, rfl, w⟩
      · have w := w.2.2.2 hcs
        refine r_tswOut (pc := 29) (x := v1) (tgt := 80) dX11_least_29 hr4 (by omega) (by decide) ?_
        refine r_aload_n (pc := 80) (a := 0) dX11_least_80 rfl ?_
        refine r_getR (pc := 81) (b := 31) fl_X11_64 dX11_least_81 s0_0 rfl ?_
        refine r_iload_n (pc := 84) (x := v1) dX11_least_84 rfl ?_
        refine r_bipush (pc := 85) (x := 10) dX11_least_85 (by decide) ?_
        refine r_isub (pc := 87) (x := v1) (y := 10) dX11_least_87 ?_
        refine r_callV (μ2 := mX4_wayOf) (pc := 88) (as := [.int (zI (v1 - 10))]) (st := []) rfl s0_31 ml_X11_264 im_X4_wayOf se_X4_wayOf okX4_wayOf ⟨by decide, by decide⟩ dX11_least_88 (Nat.le_of_ble_eq_true rfl) rfl (Nat.le_of_ble_eq_true rfl) (by decide) (by decide) (zCC.mono w ?_)
        rintro r S' h5 ⟨rfl, x5, hr, w⟩
        subst hr
        show RR mX11_least 0 0 91 [some (.ref 0), some (.int (zI v1)), some (.int (zI x2))] [.int (zI x5)] zS0 h5 (zQi zS0 K)
        exact r_iret (st := []) (pc := 91) (x := x5) (ty := .int) dX11_least_91 rfl rfl rfl (by decide) ⟨rfl, _, rfl, w⟩
    · have w := w.2 (c)
      refine r_iload_n (pc := 26) (x := x2) dX11_least_26 rfl ?_
      exact r_iret (st := []) (pc := 27) (x := x2) (ty := .int) dX11_least_27 rfl rfl rfl (by decide) ⟨rfl, _, rfl, w⟩
  · have w := w.2 (bI_0.mp c)
    refine r_iload_n (pc := 9) (x := v1) dX11_least_9 rfl ?_
    refine r_bipush (pc := 10) (x := 10) dX11_least_10 (by decide) ?_
    obtain ⟨hr6, w⟩ := w
    refine r_icmp_ge (pc := 12) (x := v1) (y := 10) (tgt := 17) dX11_least_12 (by decide) hr6 (by decide) (fun c => ?_) (fun c => ?_)
    · have w := w.1 (c)
      refine r_aload_n (pc := 17) (a := 0) dX11_least_17 rfl ?_
      refine r_callV (μ2 := mX11_seekLeast) (pc := 18) (as := []) (st := []) rfl s0_0 ml_X11_257 im_X11_seekLeast se_X11_seekLeast okX11_seekLeast ⟨by decide, by decide⟩ dX11_least_18 (Nat.le_of_ble_eq_true rfl) rfl (Nat.le_of_ble_eq_true rfl) (by decide) (by decide) (zCC.mono w ?_)
      rintro r S' h7 ⟨rfl, x7, hr, w⟩
      subst hr
      show RR mX11_least 0 0 21 [some (.ref 0), some (.int (zI v1)), none] [.int (zI x7)] zS0 h7 (zQi zS0 K)
      refine r_istore_n (pc := 21) (L' := [some (.ref 0), some (.int (zI v1)), some (.int (zI x7))]) dX11_least_21 (by decide) rfl ?_
      refine r_iload_n (pc := 22) (x := x7) dX11_least_22 rfl ?_
      obtain ⟨hr8, w⟩ := w
      refine r_if_eq (pc := 23) (x := x7) (tgt := 28) dX11_least_23 (by decide) hr8 (fun c => ?_) (fun c => ?_)
      · have w := w.1 (c)
        refine r_iload_n (pc := 28) (x := v1) dX11_least_28 rfl ?_
        rcases (show v1 = 0 ∨ v1 = 1 ∨ v1 = 2 ∨ (v1 < 0 ∨ 2 < v1) by omega) with hcs | hcs | hcs | hcs
        · have w := w.1 hcs
          refine r_tswIn (pc := 29) (x := v1) (tgt := 56) dX11_least_29 hr6 (by omega) (by omega) (by rw [hcs]; rfl) (by decide) ?_
          refine r_aload_n (pc := 56) (a := 0) dX11_least_56 rfl ?_
          refine r_getR (pc := 57) (b := 31) fl_X11_64 dX11_least_57 s0_0 rfl ?_
          refine r_getI (pc := 60) (fi := 15) (x := (h7 31 15)) fl_X11_261 dX11_least_60 s0_31 rfl (rfl) ?_
          exact r_iret (st := []) (pc := 63) (x := (h7 31 15)) (ty := .int) dX11_least_63 rfl rfl rfl (by decide) ⟨rfl, _, rfl, w⟩
        · have w := w.2.1 hcs
          refine r_tswIn (pc := 29) (x := v1) (tgt := 64) dX11_least_29 hr6 (by omega) (by omega) (by rw [hcs]; rfl) (by decide) ?_
          refine r_aload_n (pc := 64) (a := 0) dX11_least_64 rfl ?_
          refine r_getR (pc := 65) (b := 31) fl_X11_64 dX11_least_65 s0_0 rfl ?_
          refine r_getI (pc := 68) (fi := 16) (x := (h7 31 16)) fl_X11_262 dX11_least_68 s0_31 rfl (rfl) ?_
          exact r_iret (st := []) (pc := 71) (x := (h7 31 16)) (ty := .int) dX11_least_71 rfl rfl rfl (by decide) ⟨rfl, _, rfl, w⟩
        · have w := w.2.2.1 hcs
          refine r_tswIn (pc := 29) (x := v1) (tgt := 72) dX11_least_29 hr6 (by omega) (by omega) (by rw [hcs]; rfl) (by decide) ?_
          refine r_aload_n (pc := 72) (a := 0) dX11_least_72 rfl ?_
          refine r_getR (pc := 73) (b := 31) fl_X11_64 dX11_least_73 s0_0 rfl ?_
          refine r_getI (pc := 76) (fi := 17) (x := (h7 31 17)) fl_X11_263 dX11_least_76 s0_31 rfl (rfl) ?_
          exact r_iret (st := []) (pc := 79) (x := (h7 31 17)) (ty := .int) dX11_least_79 rfl rfl rfl (by decide) ⟨rfl, _, rfl, w⟩
        · have w := w.2.2.2 hcs
          refine r_tswOut (pc := 29) (x := v1) (tgt := 80) dX11_least_29 hr6 (by omega) (by decide) ?_
          refine r_aload_n (pc := 80) (a := 0) dX11_least_80 rfl ?_
          refine r_getR (pc := 81) (b := 31) fl_X11_64 dX11_least_81 s0_0 rfl ?_
          refine r_iload_n (pc := 84) (x := v1) dX11_least_84 rfl ?_
          refine r_bipush (pc := 85) (x := 10) dX11_least_85 (by decide) ?_
          refine r_isub (pc := 87) (x := v1) (y := 10) dX11_least_87 ?_
          refine r_callV (μ2 := mX4_wayOf) (pc := 88) (as := [.int (zI (v1 - 10))]) (st := []) rfl s0_31 ml_X11_264 im_X4_wayOf se_X4_wayOf okX4_wayOf ⟨by decide, by decide⟩ dX11_least_88 (Nat.le_of_ble_eq_true rfl) rfl (Nat.le_of_ble_eq_true rfl) (by decide) (by decide) (zCC.mono w ?_)
          rintro r S' h9 ⟨rfl, x9, hr, w⟩
          subst hr
          show RR mX11_least 0 0 91 [some (.ref 0), some (.int (zI v1)), some (.int (zI x7))] [.int (zI x9)] zS0 h9 (zQi zS0 K)
          exact r_iret (st := []) (pc := 91) (x := x9) (ty := .int) dX11_least_91 rfl rfl rfl (by decide) ⟨rfl, _, rfl, w⟩
      · have w := w.2 (c)
        refine r_iload_n (pc := 26) (x := x7) dX11_least_26 rfl ?_
        exact r_iret (st := []) (pc := 27) (x := x7) (ty := .int) dX11_least_27 rfl rfl rfl (by decide) ⟨rfl, _, rfl, w⟩
    · have w := w.2 (c)
      refine r_iconst (pc := 15) dX11_least_15 ?_
      exact r_iret (st := []) (pc := 16) (x := (-1)) (ty := .int) dX11_least_16 rfl rfl rfl (by decide) ⟨rfl, _, rfl, w⟩

set_option maxRecDepth 100000 in
set_option maxHeartbeats 4000000 in
theorem wX11_tree {h : zMm} {K : Int → zMm → Prop} {v1 : Int} (w : zCb mX11_isCell [.int (zI v1)] zS0 h (fun b1 h1 => ((b1 = false → K (-1) h1) ∧ (b1 = true → ((0 ≤ v1 ∧ v1 < 36) ∧ (zR (h1 11 v1) ∧ (((h1 11 v1) = 2 → zCi mX11_seekLeast [.ref 0] zS0 h1 (fun x4 h4 => (zR x4 ∧ ((x4 = 0 → zCi mX4_costOf [.ref 31, .ref 10, .int (zI v1)] zS0 h4 (fun x6 h6 => K x6 h6)) ∧ (¬ x4 = 0 → K x4 h4))))) ∧ (¬ (h1 11 v1) = 2 → K (-1) h1)))))))) : zCi mX11_tree [.ref 0, .int (zI v1)] zS0 h K := by
  show RR mX11_tree 0 0 0 [some (.ref 0), some (.int (zI v1)), none] [] zS0 h (zQi zS0 K)
  refine r_iload_n (pc := 0) (x := v1) dX11_tree_0 rfl ?_
  refine r_callS (μ2 := mX11_isCell) (pc := 1) (as := [.int (zI v1)]) (st := []) ml_X11_146 sm_X11_isCell okX11_isCell ⟨by decide, by decide⟩ dX11_tree_1 (Nat.le_of_ble_eq_true rfl) rfl (Nat.le_of_ble_eq_true rfl) (by decide) (by decide) (zCC.mono w ?_)
  rintro r S' h1 ⟨rfl, b1, hr, w⟩
  subst hr
  show RR mX11_tree 0 0 4 [some (.ref 0), some (.int (zI v1)), none] [.int (zI (bI b1))] zS0 h1 (zQi zS0 K)
  refine r_if_eq (pc := 4) (x := (bI b1)) (tgt := 20) dX11_tree_4 (by decide) (bI_R _) (fun c => ?_) (fun c => ?_)
  · have w := w.1 (bI_0.mp c)
    refine r_iconst (pc := 20) dX11_tree_20 ?_
    exact r_iret (st := []) (pc := 21) (x := (-1)) (ty := .int) dX11_tree_21 rfl rfl rfl (by decide) ⟨rfl, _, rfl, w⟩
  · have w := w.2 (bI_n.mp c)
    refine r_aload_n (pc := 7) (a := 0) dX11_tree_7 rfl ?_
    refine r_getR (pc := 8) (b := 10) fl_X11_26 dX11_tree_8 s0_0 rfl ?_
    refine r_getR (pc := 11) (b := 11) fl_X11_150 dX11_tree_11 s0_10 rfl ?_
    refine r_iload_n (pc := 14) (x := v1) dX11_tree_14 rfl ?_
    obtain ⟨hb2, w⟩ := w
    refine r_iald (pc := 15) (i := v1) (x := (h1 11 v1)) dX11_tree_15 s0_11 ⟨hb2.1, hb2.2, (by decide)⟩ (rfl) ?_
    refine r_iconst (pc := 16) dX11_tree_16 ?_
    obtain ⟨hr3, w⟩ := w
    refine r_icmp_eq (pc := 17) (x := (h1 11 v1)) (y := 2) (tgt := 22) dX11_tree_17 (by decide) hr3 (by decide) (fun c => ?_) (fun c => ?_)
    · have w := w.1 (c)
      refine r_aload_n (pc := 22) (a := 0) dX11_tree_22 rfl ?_
      refine r_callV (μ2 := mX11_seekLeast) (pc := 23) (as := []) (st := []) rfl s0_0 ml_X11_257 im_X11_seekLeast se_X11_seekLeast okX11_seekLeast ⟨by decide, by decide⟩ dX11_tree_23 (Nat.le_of_ble_eq_true rfl) rfl (Nat.le_of_ble_eq_true rfl) (by decide) (by decide) (zCC.mono w ?_)
      rintro r S' h4 ⟨rfl, x4, hr, w⟩
      subst hr
      show RR mX11_tree 0 0 26 [some (.ref 0), some (.int (zI v1)), none] [.int (zI x4)] zS0 h4 (zQi zS0 K)
      refine r_istore_n (pc := 26) (L' := [some (.ref 0), some (.int (zI v1)), some (.int (zI x4))]) dX11_tree_26 (by decide) rfl ?_
      refine r_iload_n (pc := 27) (x := x4) dX11_tree_27 rfl ?_
      obtain ⟨hr5, w⟩ := w
      refine r_if_eq (pc := 28) (x := x4) (tgt := 35) dX11_tree_28 (by decide) hr5 (fun c => ?_) (fun c => ?_)
      · have w := w.1 (c)
        refine r_aload_n (pc := 35) (a := 0) dX11_tree_35 rfl ?_
        refine r_getR (pc := 36) (b := 31) fl_X11_64 dX11_tree_36 s0_0 rfl ?_
        refine r_aload_n (pc := 39) (a := 0) dX11_tree_39 rfl ?_
        refine r_getR (pc := 40) (b := 10) fl_X11_26 dX11_tree_40 s0_0 rfl ?_
        refine r_iload_n (pc := 43) (x := v1) dX11_tree_43 rfl ?_
        refine r_callV (μ2 := mX4_costOf) (pc := 44) (as := [.ref 10, .int (zI v1)]) (st := []) rfl s0_31 ml_X11_265 im_X4_costOf se_X4_costOf okX4_costOf ⟨by decide, by decide⟩ dX11_tree_44 (Nat.le_of_ble_eq_true rfl) rfl (Nat.le_of_ble_eq_true rfl) (by decide) (by decide) (zCC.mono w ?_)
        rintro r S' h6 ⟨rfl, x6, hr, w⟩
        subst hr
        show RR mX11_tree 0 0 47 [some (.ref 0), some (.int (zI v1)), some (.int (zI x4))] [.int (zI x6)] zS0 h6 (zQi zS0 K)
        exact r_iret (st := []) (pc := 47) (x := x6) (ty := .int) dX11_tree_47 rfl rfl rfl (by decide) ⟨rfl, _, rfl, w⟩
      · have w := w.2 (c)
        refine r_iload_n (pc := 31) (x := x4) dX11_tree_31 rfl ?_
        refine r_goto (pc := 32) (tgt := 47) dX11_tree_32 (by decide) ?_
        exact r_iret (st := []) (pc := 47) (x := x4) (ty := .int) dX11_tree_47 rfl rfl rfl (by decide) ⟨rfl, _, rfl, w⟩
    · have w := w.2 (c)
      refine r_iconst (pc := 20) dX11_tree_20 ?_
      exact r_iret (st := []) (pc := 21) (x := (-1)) (ty := .int) dX11_tree_21 rfl rfl rfl (by decide) ⟨rfl, _, rfl, w⟩

set_option maxRecDepth 100000 in
set_option maxHeartbeats 4000000 in
theorem wX11_dearest {h : zMm} {K : Int → zMm → Prop} {v1 : Int} (w : zCb mX11_isWithin [.int (zI v1), .int (zI 0), .int (zI 1)] zS0 h (fun b1 h1 => ((b1 = true → zCi mX11_seekLeast [.ref 0] zS0 h1 (fun x2 h2 => (zR x2 ∧ ((x2 = 0 → zCv mX4_seekDearest [.ref 31, .ref 10] zS0 h2 (fun h4 => (zR (h4 31 19) ∧ ((0 < (h4 31 19) → (zR v1 ∧ K (if v1 = 0 then (h4 31 18) else (h4 31 19)) h4)) ∧ (¬ 0 < (h4 31 19) → K (-4) h4))))) ∧ (¬ x2 = 0 → K x2 h2))))) ∧ (b1 = false → K (-1) h1)))) : zCi mX11_dearest [.ref 0, .int (zI v1)] zS0 h K := by
  show RR mX11_dearest 0 0 0 [some (.ref 0), some (.int (zI v1)), none] [] zS0 h (zQi zS0 K)
  refine r_iload_n (pc := 0) (x := v1) dX11_dearest_0 rfl ?_
  refine r_iconst (pc := 1) dX11_dearest_1 ?_
  refine r_iconst (pc := 2) dX11_dearest_2 ?_
  refine r_callS (μ2 := mX11_isWithin) (pc := 3) (as := [.int (zI v1), .int (zI 0), .int (zI 1)]) (st := []) ml_X11_138 sm_X11_isWithin okX11_isWithin ⟨by decide, by decide⟩ dX11_dearest_3 (Nat.le_of_ble_eq_true rfl) rfl (Nat.le_of_ble_eq_true rfl) (by decide) (by decide) (zCC.mono w ?_)
  rintro r S' h1 ⟨rfl, b1, hr, w⟩
  subst hr
  show RR mX11_dearest 0 0 6 [some (.ref 0), some (.int (zI v1)), none] [.int (zI (bI b1))] zS0 h1 (zQi zS0 K)
  refine r_if_ne (pc := 6) (x := (bI b1)) (tgt := 11) dX11_dearest_6 (by decide) (bI_R _) (fun c => ?_) (fun c => ?_)
  · have w := w.1 (bI_n.mp c)
    refine r_aload_n (pc := 11) (a := 0) dX11_dearest_11 rfl ?_
    refine r_callV (μ2 := mX11_seekLeast) (pc := 12) (as := []) (st := []) rfl s0_0 ml_X11_257 im_X11_seekLeast se_X11_seekLeast okX11_seekLeast ⟨by decide, by decide⟩ dX11_dearest_12 (Nat.le_of_ble_eq_true rfl) rfl (Nat.le_of_ble_eq_true rfl) (by decide) (by decide) (zCC.mono w ?_)
    rintro r S' h2 ⟨rfl, x2, hr, w⟩
    subst hr
    show RR mX11_dearest 0 0 15 [some (.ref 0), some (.int (zI v1)), none] [.int (zI x2)] zS0 h2 (zQi zS0 K)
    refine r_istore_n (pc := 15) (L' := [some (.ref 0), some (.int (zI v1)), some (.int (zI x2))]) dX11_dearest_15 (by decide) rfl ?_
    refine r_iload_n (pc := 16) (x := x2) dX11_dearest_16 rfl ?_
    obtain ⟨hr3, w⟩ := w
    refine r_if_eq (pc := 17) (x := x2) (tgt := 22) dX11_dearest_17 (by decide) hr3 (fun c => ?_) (fun c => ?_)
    · have w := w.1 (c)
      refine r_aload_n (pc := 22) (a := 0) dX11_dearest_22 rfl ?_
      refine r_getR (pc := 23) (b := 31) fl_X11_64 dX11_dearest_23 s0_0 rfl ?_
      refine r_aload_n (pc := 26) (a := 0) dX11_dearest_26 rfl ?_
      refine r_getR (pc := 27) (b := 10) fl_X11_26 dX11_dearest_27 s0_0 rfl ?_
      refine r_callV (μ2 := mX4_seekDearest) (pc := 30) (as := [.ref 10]) (st := []) rfl s0_31 ml_X11_269 im_X4_seekDearest se_X4_seekDearest okX4_seekDearest ⟨by decide, by decide⟩ dX11_dearest_30 (Nat.le_of_ble_eq_true rfl) rfl (Nat.le_of_ble_eq_true rfl) (by decide) (by decide) (zCC.mono w ?_)
      rintro r S' h4 ⟨rfl, hr, w⟩
      subst hr
      show RR mX11_dearest 0 0 33 [some (.ref 0), some (.int (zI v1)), some (.int (zI x2))] [] zS0 h4 (zQi zS0 K)
      refine r_aload_n (pc := 33) (a := 0) dX11_dearest_33 rfl ?_
      refine r_getR (pc := 34) (b := 31) fl_X11_64 dX11_dearest_34 s0_0 rfl ?_
      refine r_getI (pc := 37) (fi := 19) (x := (h4 31 19)) fl_X11_272 dX11_dearest_37 s0_31 rfl (rfl) ?_
      obtain ⟨hr5, w⟩ := w
      refine r_if_gt (pc := 40) (x := (h4 31 19)) (tgt := 46) dX11_dearest_40 (by decide) hr5 (fun c => ?_) (fun c => ?_)
      · have w := w.1 (c)
        refine r_iload_n (pc := 46) (x := v1) dX11_dearest_46 rfl ?_
        obtain ⟨hr6, w⟩ := w
        have kk7 : RR mX11_dearest 0 0 67 [some (.ref 0), some (.int (zI v1)), some (.int (zI x2))] [.int (zI (if v1 = 0 then (h4 31 18) else (h4 31 19)))] zS0 h4 (zQi zS0 K) := by
          exact r_iret (st := []) (pc := 67) (x := (if v1 = 0 then (h4 31 18) else (h4 31 19))) (ty := .int) dX11_dearest_67 rfl rfl rfl (by decide) ⟨rfl, _, rfl, w⟩
        refine r_if_ne (pc := 47) (x := v1) (tgt := 60) dX11_dearest_47 (by decide) hr6 (fun c => ?_) (fun c => ?_)
        · refine r_aload_n (pc := 60) (a := 0) dX11_dearest_60 rfl ?_
          refine r_getR (pc := 61) (b := 31) fl_X11_64 dX11_dearest_61 s0_0 rfl ?_
          refine r_getI (pc := 64) (fi := 19) (x := (h4 31 19)) fl_X11_272 dX11_dearest_64 s0_31 rfl (rfl) ?_
          simp only [if_neg (c)] at kk7 ⊢
          exact kk7
        · refine r_aload_n (pc := 50) (a := 0) dX11_dearest_50 rfl ?_
          refine r_getR (pc := 51) (b := 31) fl_X11_64 dX11_dearest_51 s0_0 rfl ?_
          refine r_getI (pc := 54) (fi := 18) (x := (h4 31 18)) fl_X11_275 dX11_dearest_54 s0_31 rfl (rfl) ?_
          refine r_goto (pc := 57) (tgt := 67) dX11_dearest_57 (by decide) ?_
          simp only [if_pos (c)] at kk7 ⊢
          exact kk7
      · have w := w.2 (c)
        refine r_bipush (pc := 43) (x := (-4)) dX11_dearest_43 (by decide) ?_
        exact r_iret (st := []) (pc := 45) (x := (-4)) (ty := .int) dX11_dearest_45 rfl rfl rfl (by decide) ⟨rfl, _, rfl, w⟩
    · have w := w.2 (c)
      refine r_iload_n (pc := 20) (x := x2) dX11_dearest_20 rfl ?_
      exact r_iret (st := []) (pc := 21) (x := x2) (ty := .int) dX11_dearest_21 rfl rfl rfl (by decide) ⟨rfl, _, rfl, w⟩
  · have w := w.2 (bI_0.mp c)
    refine r_iconst (pc := 9) dX11_dearest_9 ?_
    exact r_iret (st := []) (pc := 10) (x := (-1)) (ty := .int) dX11_dearest_10 rfl rfl rfl (by decide) ⟨rfl, _, rfl, w⟩

set_option maxRecDepth 100000 in
set_option maxHeartbeats 4000000 in
theorem wX11_adopt {h : zMm} {K : Int → zMm → Prop} (w : zCi mX11_seekLeast [.ref 0] zS0 h (fun x1 h1 => (zR x1 ∧ ((x1 = 0 → RR mX11_adopt 0 0 21 [some (.ref 0), none, some (.int (zI 0))] [] zS0 (zU h1 19 2 0) (zQi zS0 K)) ∧ (¬ x1 = 0 → K x1 h1))))) : zCi mX11_adopt [.ref 0] zS0 h K := by
  show RR mX11_adopt 0 0 0 [some (.ref 0), none, none] [] zS0 h (zQi zS0 K)
  refine r_aload_n (pc := 0) (a := 0) dX11_adopt_0 rfl ?_
  refine r_callV (μ2 := mX11_seekLeast) (pc := 1) (as := []) (st := []) rfl s0_0 ml_X11_257 im_X11_seekLeast se_X11_seekLeast okX11_seekLeast ⟨by decide, by decide⟩ dX11_adopt_1 (Nat.le_of_ble_eq_true rfl) rfl (Nat.le_of_ble_eq_true rfl) (by decide) (by decide) (zCC.mono w ?_)
  rintro r S' h1 ⟨rfl, x1, hr, w⟩
  subst hr
  show RR mX11_adopt 0 0 4 [some (.ref 0), none, none] [.int (zI x1)] zS0 h1 (zQi zS0 K)
  refine r_istore_n (pc := 4) (L' := [some (.ref 0), some (.int (zI x1)), none]) dX11_adopt_4 (by decide) rfl ?_
  refine r_iload_n (pc := 5) (x := x1) dX11_adopt_5 rfl ?_
  obtain ⟨hr2, w⟩ := w
  refine r_if_eq (pc := 6) (x := x1) (tgt := 11) dX11_adopt_6 (by decide) hr2 (fun c => ?_) (fun c => ?_)
  · have w := w.1 (c)
    refine r_aload_n (pc := 11) (a := 0) dX11_adopt_11 rfl ?_
    refine r_getR (pc := 12) (b := 19) fl_X11_37 dX11_adopt_12 s0_0 rfl ?_
    refine r_iconst (pc := 15) dX11_adopt_15 ?_
    refine r_putI (pc := 16) (fi := 2) (x := 0) fl_X11_126 dX11_adopt_16 s0_19 rfl ?_
    refine r_iconst (pc := 19) dX11_adopt_19 ?_
    refine r_istore_n (pc := 20) (L' := [some (.ref 0), some (.int (zI x1)), some (.int (zI 0))]) dX11_adopt_20 (by decide) rfl ?_
    exact RR.sub (L' := [some (.ref 0), none, some (.int (zI 0))]) (zSb_of (⟨rfl, ⟨rfl, trivial⟩⟩)) w
  · have w := w.2 (c)
    refine r_iload_n (pc := 9) (x := x1) dX11_adopt_9 rfl ?_
    exact r_iret (st := []) (pc := 10) (x := x1) (ty := .int) dX11_adopt_10 rfl rfl rfl (by decide) ⟨rfl, _, rfl, w⟩

set_option maxRecDepth 100000 in
set_option maxHeartbeats 4000000 in
theorem bX11_adopt_21 {h : zMm} {K : Int → zMm → Prop} {v2 : Int} (w : (zR v2 ∧ (zR (h 31 16) ∧ (((h 31 16) ≤ v2 → zCv mX5_takeAll [.ref 16, .ref 19] zS0 h (fun h5 => K (h5 16 2) h5)) ∧ (¬ (h 31 16) ≤ v2 → zCi mX4_wayOf [.ref 31, .int (zI v2)] zS0 h (fun x6 h6 => zCb mX5_appendStep [.ref 19, .int (zI x6)] zS0 h6 (fun b7 h7 => ((b7 = true → RR mX11_adopt 0 0 21 [some (.ref 0), none, some (.int (zI (v2 + 1)))] [] zS0 h7 (zQi zS0 K)) ∧ (b7 = false → K (-3) h7))))))))) : RR mX11_adopt 0 0 21 [some (.ref 0), none, some (.int (zI v2))] [] zS0 h (zQi zS0 K) := by
  refine r_iload_n (pc := 21) (x := v2) dX11_adopt_21 rfl ?_
  refine r_aload_n (pc := 22) (a := 0) dX11_adopt_22 rfl ?_
  refine r_getR (pc := 23) (b := 31) fl_X11_64 dX11_adopt_23 s0_0 rfl ?_
  refine r_getI (pc := 26) (fi := 16) (x := (h 31 16)) fl_X11_262 dX11_adopt_26 s0_31 rfl (rfl) ?_
  obtain ⟨hr3, w⟩ := w
  obtain ⟨hr4, w⟩ := w
  refine r_icmp_ge (pc := 29) (x := v2) (y := (h 31 16)) (tgt := 59) dX11_adopt_29 (by decide) hr3 hr4 (fun c => ?_) (fun c => ?_)
  · have w := w.1 (c)
    refine r_aload_n (pc := 59) (a := 0) dX11_adopt_59 rfl ?_
    refine r_getR (pc := 60) (b := 16) fl_X11_33 dX11_adopt_60 s0_0 rfl ?_
    refine r_aload_n (pc := 63) (a := 0) dX11_adopt_63 rfl ?_
    refine r_getR (pc := 64) (b := 19) fl_X11_37 dX11_adopt_64 s0_0 rfl ?_
    refine r_callV (μ2 := mX5_takeAll) (pc := 67) (as := [.ref 19]) (st := []) rfl s0_16 ml_X11_281 im_X5_takeAll se_X5_takeAll okX5_takeAll ⟨by decide, by decide⟩ dX11_adopt_67 (Nat.le_of_ble_eq_true rfl) rfl (Nat.le_of_ble_eq_true rfl) (by decide) (by decide) (zCC.mono w ?_)
    rintro r S' h5 ⟨rfl, hr, w⟩
    subst hr
    show RR mX11_adopt 0 0 70 [some (.ref 0), none, some (.int (zI v2))] [] zS0 h5 (zQi zS0 K)
    refine r_aload_n (pc := 70) (a := 0) dX11_adopt_70 rfl ?_
    refine r_getR (pc := 71) (b := 16) fl_X11_33 dX11_adopt_71 s0_0 rfl ?_
    refine r_getI (pc := 74) (fi := 2) (x := (h5 16 2)) fl_X11_126 dX11_adopt_74 s0_16 rfl (rfl) ?_
    exact r_iret (st := []) (pc := 77) (x := (h5 16 2)) (ty := .int) dX11_adopt_77 rfl rfl rfl (by decide) ⟨rfl, _, rfl, w⟩
  · have w := w.2 (c)
    refine r_aload_n (pc := 32) (a := 0) dX11_adopt_32 rfl ?_
    refine r_getR (pc := 33) (b := 19) fl_X11_37 dX11_adopt_33 s0_0 rfl ?_
    refine r_aload_n (pc := 36) (a := 0) dX11_adopt_36 rfl ?_
    refine r_getR (pc := 37) (b := 31) fl_X11_64 dX11_adopt_37 s0_0 rfl ?_
    refine r_iload_n (pc := 40) (x := v2) dX11_adopt_40 rfl ?_
    refine r_callV (μ2 := mX4_wayOf) (pc := 41) (as := [.int (zI v2)]) (st := [.ref 19]) rfl s0_31 ml_X11_264 im_X4_wayOf se_X4_wayOf okX4_wayOf ⟨by decide, by decide⟩ dX11_adopt_41 (Nat.le_of_ble_eq_true rfl) rfl (Nat.le_of_ble_eq_true rfl) (by decide) (by decide) (zCC.mono w ?_)
    rintro r S' h6 ⟨rfl, x6, hr, w⟩
    subst hr
    show RR mX11_adopt 0 0 44 [some (.ref 0), none, some (.int (zI v2))] [.int (zI x6), .ref 19] zS0 h6 (zQi zS0 K)
    refine r_callV (μ2 := mX5_appendStep) (pc := 44) (as := [.int (zI x6)]) (st := []) rfl s0_19 ml_X11_278 im_X5_appendStep se_X5_appendStep okX5_appendStep ⟨by decide, by decide⟩ dX11_adopt_44 (Nat.le_of_ble_eq_true rfl) rfl (Nat.le_of_ble_eq_true rfl) (by decide) (by decide) (zCC.mono w ?_)
    rintro r S' h7 ⟨rfl, b7, hr, w⟩
    subst hr
    show RR mX11_adopt 0 0 47 [some (.ref 0), none, some (.int (zI v2))] [.int (zI (bI b7))] zS0 h7 (zQi zS0 K)
    refine r_if_ne (pc := 47) (x := (bI b7)) (tgt := 53) dX11_adopt_47 (by decide) (bI_R _) (fun c => ?_) (fun c => ?_)
    · have w := w.1 (bI_n.mp c)
      refine r_iinc (pc := 53) (x := v2) (L' := [some (.ref 0), none, some (.int (zI (v2 + 1)))]) dX11_adopt_53 rfl (by decide) rfl ?_
      refine r_goto (pc := 56) (tgt := 21) dX11_adopt_56 (by decide) ?_
      exact w
    · have w := w.2 (bI_0.mp c)
      refine r_bipush (pc := 50) (x := (-3)) dX11_adopt_50 (by decide) ?_
      exact r_iret (st := []) (pc := 52) (x := (-3)) (ty := .int) dX11_adopt_52 rfl rfl rfl (by decide) ⟨rfl, _, rfl, w⟩

set_option maxRecDepth 100000 in
set_option maxHeartbeats 4000000 in
theorem wX11_steps {h : zMm} {K : Int → zMm → Prop} {v1 : Int} {v2 : Int} (w : zCb mX11_isCell [.int (zI v1)] zS0 h (fun b1 h1 => ((b1 = false → K (-1) h1) ∧ (b1 = true → zCb mX11_isCell [.int (zI v2)] zS0 h1 (fun b2 h2 => ((b2 = true → zCv mX2_measure [.ref 28, .ref 10, .int (zI v1)] zS0 h2 (fun h3 => ((0 ≤ v2 ∧ v2 < 36) ∧ (zR (h3 29 v2) ∧ K (if (h3 29 v2) < 0 then ((-4) : Int) else (h3 29 v2)) h3)))) ∧ (b2 = false → K (-1) h2))))))) : zCi mX11_steps [.ref 0, .int (zI v1), .int (zI v2)] zS0 h K := by
  show RR mX11_steps 0 0 0 [some (.ref 0), some (.int (zI v1)), some (.int (zI v2)), none] [] zS0 h (zQi zS0 K)
  refine r_iload_n (pc := 0) (x := v1) dX11_steps_0 rfl ?_
  refine r_callS (μ2 := mX11_isCell) (pc := 1) (as := [.int (zI v1)]) (st := []) ml_X11_146 sm_X11_isCell okX11_isCell ⟨by decide, by decide⟩ dX11_steps_1 (Nat.le_of_ble_eq_true rfl) rfl (Nat.le_of_ble_eq_true rfl) (by decide) (by decide) (zCC.mono w ?_)
  rintro r S' h1 ⟨rfl, b1, hr, w⟩
  subst hr
  show RR mX11_steps 0 0 4 [some (.ref 0), some (.int (zI v1)), some (.int (zI v2)), none] [.int (zI (bI b1))] zS0 h1 (zQi zS0 K)
  refine r_if_eq (pc := 4) (x := (bI b1)) (tgt := 14) dX11_steps_4 (by decide) (bI_R _) (fun c => ?_) (fun c => ?_)
  · have w := w.1 (bI_0.mp c)
    refine r_iconst (pc := 14) dX11_steps_14 ?_
    exact r_iret (st := []) (pc := 15) (x := (-1)) (ty := .int) dX11_steps_15 rfl rfl rfl (by decide) ⟨rfl, _, rfl, w⟩
  · have w := w.2 (bI_n.mp c)
    refine r_iload_n (pc := 7) (x := v2) dX11_steps_7 rfl ?_
    refine r_callS (μ2 := mX11_isCell) (pc := 8) (as := [.int (zI v2)]) (st := []) ml_X11_146 sm_X11_isCell okX11_isCell ⟨by decide, by decide⟩ dX11_steps_8 (Nat.le_of_ble_eq_true rfl) rfl (Nat.le_of_ble_eq_true rfl) (by decide) (by decide) (zCC.mono w ?_)
    rintro r S' h2 ⟨rfl, b2, hr, w⟩
    subst hr
    show RR mX11_steps 0 0 11 [some (.ref 0), some (.int (zI v1)), some (.int (zI v2)), none] [.int (zI (bI b2))] zS0 h2 (zQi zS0 K)
    refine r_if_ne (pc := 11) (x := (bI b2)) (tgt := 16) dX11_steps_11 (by decide) (bI_R _) (fun c => ?_) (fun c => ?_)
    · have w := w.1 (bI_n.mp c)
      refine r_aload_n (pc := 16) (a := 0) dX11_steps_16 rfl ?_
      refine r_getR (pc := 17) (b := 28) fl_X11_57 dX11_steps_17 s0_0 rfl ?_
      refine r_aload_n (pc := 20) (a := 0) dX11_steps_20 rfl ?_
      refine r_getR (pc := 21) (b := 10) fl_X11_26 dX11_steps_21 s0_0 rfl ?_
      refine r_iload_n (pc := 24) (x := v1) dX11_steps_24 rfl ?_
      refine r_callV (μ2 := mX2_measure) (pc := 25) (as := [.ref 10, .int (zI v1)]) (st := []) rfl s0_28 ml_X11_294 im_X2_measure se_X2_measure okX2_measure ⟨by decide, by decide⟩ dX11_steps_25 (Nat.le_of_ble_eq_true rfl) rfl (Nat.le_of_ble_eq_true rfl) (by decide) (by decide) (zCC.mono w ?_)
      rintro r S' h3 ⟨rfl, hr, w⟩
      subst hr
      show RR mX11_steps 0 0 28 [some (.ref 0), some (.int (zI v1)), some (.int (zI v2)), none] [] zS0 h3 (zQi zS0 K)
      refine r_aload_n (pc := 28) (a := 0) dX11_steps_28 rfl ?_
      refine r_getR (pc := 29) (b := 28) fl_X11_57 dX11_steps_29 s0_0 rfl ?_
      refine r_getR (pc := 32) (b := 29) fl_X11_298 dX11_steps_32 s0_28 rfl ?_
      refine r_iload_n (pc := 35) (x := v2) dX11_steps_35 rfl ?_
      obtain ⟨hb4, w⟩ := w
      refine r_iald (pc := 36) (i := v2) (x := (h3 29 v2)) dX11_steps_36 s0_29 ⟨hb4.1, hb4.2, (by decide)⟩ (rfl) ?_
      refine r_istore_n (pc := 37) (L' := [some (.ref 0), some (.int (zI v1)), some (.int (zI v2)), some (.int (zI (h3 29 v2)))]) dX11_steps_37 (by decide) rfl ?_
      refine r_iload_n (pc := 38) (x := (h3 29 v2)) dX11_steps_38 rfl ?_
      obtain ⟨hr5, w⟩ := w
      have kk6 : RR mX11_steps 0 0 48 [some (.ref 0), some (.int (zI v1)), some (.int (zI v2)), some (.int (zI (h3 29 v2)))] [.int (zI (if (h3 29 v2) < 0 then ((-4) : Int) else (h3 29 v2)))] zS0 h3 (zQi zS0 K) := by
        exact r_iret (st := []) (pc := 48) (x := (if (h3 29 v2) < 0 then ((-4) : Int) else (h3 29 v2))) (ty := .int) dX11_steps_48 rfl rfl rfl (by decide) ⟨rfl, _, rfl, w⟩
      refine r_if_lt (pc := 39) (x := (h3 29 v2)) (tgt := 46) dX11_steps_39 (by decide) hr5 (fun c => ?_) (fun c => ?_)
      · refine r_bipush (pc := 46) (x := (-4)) dX11_steps_46 (by decide) ?_
        simp only [if_pos (c)] at kk6 ⊢
        exact kk6
      · refine r_iload_n (pc := 42) (x := (h3 29 v2)) dX11_steps_42 rfl ?_
        refine r_goto (pc := 43) (tgt := 48) dX11_steps_43 (by decide) ?_
        simp only [if_neg (c)] at kk6 ⊢
        exact kk6
    · have w := w.2 (bI_0.mp c)
      refine r_iconst (pc := 14) dX11_steps_14 ?_
      exact r_iret (st := []) (pc := 15) (x := (-1)) (ty := .int) dX11_steps_15 rfl rfl rfl (by decide) ⟨rfl, _, rfl, w⟩

set_option maxRecDepth 100000 in
set_option maxHeartbeats 4000000 in
theorem wX11_beyond {h : zMm} {K : Int → zMm → Prop} (w : zCi mX3_told [.ref 10, .int (zI 0)] zS0 h (fun x1 h1 => zCv mX2_measure [.ref 28, .ref 10, .int (zI x1)] zS0 h1 (fun h2 => RR mX11_beyond 0 0 23 [some (.ref 0), some (.long (zJ 0)), none, some (.int (zI 0)), none] [] zS0 h2 (zQl zS0 K)))) : zCl mX11_beyond [.ref 0] zS0 h K := by
  show RR mX11_beyond 0 0 0 [some (.ref 0), none, none, none, none] [] zS0 h (zQl zS0 K)
  refine r_aload_n (pc := 0) (a := 0) dX11_beyond_0 rfl ?_
  refine r_getR (pc := 1) (b := 28) fl_X11_57 dX11_beyond_1 s0_0 rfl ?_
  refine r_aload_n (pc := 4) (a := 0) dX11_beyond_4 rfl ?_
  refine r_getR (pc := 5) (b := 10) fl_X11_26 dX11_beyond_5 s0_0 rfl ?_
  refine r_aload_n (pc := 8) (a := 0) dX11_beyond_8 rfl ?_
  refine r_getR (pc := 9) (b := 10) fl_X11_26 dX11_beyond_9 s0_0 rfl ?_
  refine r_iconst (pc := 12) dX11_beyond_12 ?_
  refine r_callV (μ2 := mX3_told) (pc := 13) (as := [.int (zI 0)]) (st := [.ref 10, .ref 28]) rfl s0_10 ml_X11_142 im_X3_told se_X3_told okX3_told ⟨by decide, by decide⟩ dX11_beyond_13 (Nat.le_of_ble_eq_true rfl) rfl (Nat.le_of_ble_eq_true rfl) (by decide) (by decide) (zCC.mono w ?_)
  rintro r S' h1 ⟨rfl, x1, hr, w⟩
  subst hr
  show RR mX11_beyond 0 0 16 [some (.ref 0), none, none, none, none] [.int (zI x1), .ref 10, .ref 28] zS0 h1 (zQl zS0 K)
  refine r_callV (μ2 := mX2_measure) (pc := 16) (as := [.ref 10, .int (zI x1)]) (st := []) rfl s0_28 ml_X11_294 im_X2_measure se_X2_measure okX2_measure ⟨by decide, by decide⟩ dX11_beyond_16 (Nat.le_of_ble_eq_true rfl) rfl (Nat.le_of_ble_eq_true rfl) (by decide) (by decide) (zCC.mono w ?_)
  rintro r S' h2 ⟨rfl, hr, w⟩
  subst hr
  show RR mX11_beyond 0 0 19 [some (.ref 0), none, none, none, none] [] zS0 h2 (zQl zS0 K)
  refine r_lconst (pc := 19) (x := 0) dX11_beyond_19 rfl ?_
  refine r_lstore_n (pc := 20) (L' := [some (.ref 0), some (.long (zJ 0)), none, none, none]) dX11_beyond_20 (by decide) rfl ?_
  refine r_iconst (pc := 21) dX11_beyond_21 ?_
  refine r_istore_n (pc := 22) (L' := [some (.ref 0), some (.long (zJ 0)), none, some (.int (zI 0)), none]) dX11_beyond_22 (by decide) rfl ?_
  exact w

set_option maxRecDepth 100000 in
set_option maxHeartbeats 4000000 in
theorem bX11_beyond_23 {h : zMm} {K : Int → zMm → Prop} {v1 : Int} {v3 : Int} (w : (zR v3 ∧ ((36 ≤ v3 → K v1 h) ∧ (¬ 36 ≤ v3 → ((0 ≤ v3 ∧ v3 < 36) ∧ zCb mX3_isGrass [.ref 10, .int (zI v3)] zS0 h (fun b5 h5 => (zR (h 29 v3) ∧ ((b5 = false → RR mX11_beyond 0 0 23 [some (.ref 0), some (.long (zJ v1)), none, some (.int (zI (v3 + 1))), none] [] zS0 h5 (zQl zS0 K)) ∧ (b5 = true → (((h 29 v3) < 0 → RR mX11_beyond 0 0 23 [some (.ref 0), some (.long (zJ (lO v1 (lSl 1 v3)))), none, some (.int (zI (v3 + 1))), none] [] zS0 h5 (zQl zS0 K)) ∧ (¬ (h 29 v3) < 0 → zCi mX3_told [.ref 10, .int (zI 5)] zS0 h5 (fun x9 h9 => (zR x9 ∧ RR mX11_beyond 0 0 23 [some (.ref 0), some (.long (zJ (if (h 29 v3) ≤ x9 then v1 else (lO v1 (lSl 1 v3))))), none, some (.int (zI (v3 + 1))), none] [] zS0 h9 (zQl zS0 K)))))))))))))) : RR mX11_beyond 0 0 23 [some (.ref 0), some (.long (zJ v1)), none, some (.int (zI v3)), none] [] zS0 h (zQl zS0 K) := by
  refine r_iload_n (pc := 23) (x := v3) dX11_beyond_23 rfl ?_
  refine r_bipush (pc := 24) (x := 36) dX11_beyond_24 (by decide) ?_
  obtain ⟨hr3, w⟩ := w
  refine r_icmp_ge (pc := 26) (x := v3) (y := 36) (tgt := 81) dX11_beyond_26 (by decide) hr3 (by decide) (fun c => ?_) (fun c => ?_)
  · have w := w.1 (c)
    refine r_lload_n (pc := 81) (x := v1) dX11_beyond_81 rfl ?_
    exact r_lret (st := []) (pc := 82) (x := v1) dX11_beyond_82 rfl rfl (by decide) ⟨rfl, _, rfl, w⟩
  · have w := w.2 (c)
    refine r_aload_n (pc := 29) (a := 0) dX11_beyond_29 rfl ?_
    refine r_getR (pc := 30) (b := 28) fl_X11_57 dX11_beyond_30 s0_0 rfl ?_
    refine r_getR (pc := 33) (b := 29) fl_X11_298 dX11_beyond_33 s0_28 rfl ?_
    refine r_iload_n (pc := 36) (x := v3) dX11_beyond_36 rfl ?_
    obtain ⟨hb4, w⟩ := w
    refine r_iald (pc := 37) (i := v3) (x := (h 29 v3)) dX11_beyond_37 s0_29 ⟨hb4.1, hb4.2, (by decide)⟩ (rfl) ?_
    refine r_istore (pc := 38) (L' := [some (.ref 0), some (.long (zJ v1)), none, some (.int (zI v3)), some (.int (zI (h 29 v3)))]) dX11_beyond_38 (by decide) rfl ?_
    refine r_aload_n (pc := 40) (a := 0) dX11_beyond_40 rfl ?_
    refine r_getR (pc := 41) (b := 10) fl_X11_26 dX11_beyond_41 s0_0 rfl ?_
    refine r_iload_n (pc := 44) (x := v3) dX11_beyond_44 rfl ?_
    refine r_callV (μ2 := mX3_isGrass) (pc := 45) (as := [.int (zI v3)]) (st := []) rfl s0_10 ml_X11_301 im_X3_isGrass se_X3_isGrass okX3_isGrass ⟨by decide, by decide⟩ dX11_beyond_45 (Nat.le_of_ble_eq_true rfl) rfl (Nat.le_of_ble_eq_true rfl) (by decide) (by decide) (zCC.mono w ?_)
    rintro r S' h5 ⟨rfl, b5, hr, w⟩
    subst hr
    show RR mX11_beyond 0 0 48 [some (.ref 0), some (.long (zJ v1)), none, some (.int (zI v3)), some (.int (zI (h 29 v3)))] [.int (zI (bI b5))] zS0 h5 (zQl zS0 K)
    obtain ⟨hr7, w⟩ := w
    refine r_if_eq (pc := 48) (x := (bI b5)) (tgt := 75) dX11_beyond_48 (by decide) (bI_R _) (fun c => ?_) (fun c => ?_)
    · have w := w.1 (bI_0.mp c)
      refine r_iinc (pc := 75) (x := v3) (L' := [some (.ref 0), some (.long (zJ v1)), none, some (.int (zI (v3 + 1))), some (.int (zI (h 29 v3)))]) dX11_beyond_75 rfl (by decide) rfl ?_
      refine r_goto (pc := 78) (tgt := 23) dX11_beyond_78 (by decide) ?_
      exact RR.sub (L' := [some (.ref 0), some (.long (zJ v1)), none, some (.int (zI (v3 + 1))), none]) (zSb_of (⟨rfl, ⟨rfl, ⟨rfl, trivial⟩⟩⟩)) w
    · have w := w.2 (bI_n.mp c)
      refine r_iload (pc := 51) (x := (h 29 v3)) dX11_beyond_51 rfl ?_
      refine r_if_lt (pc := 53) (x := (h 29 v3)) (tgt := 69) dX11_beyond_53 (by decide) hr7 (fun c => ?_) (fun c => ?_)
      · have w := w.1 (c)
        refine r_lload_n (pc := 69) (x := v1) dX11_beyond_69 rfl ?_
        refine r_lconst (pc := 70) (x := 1) dX11_beyond_70 rfl ?_
        refine r_iload_n (pc := 71) (x := v3) dX11_beyond_71 rfl ?_
        refine r_lshl (pc := 72) (x := 1) (y := v3) dX11_beyond_72 ?_
        refine r_lor (pc := 73) (x := v1) (y := (lSl 1 v3)) dX11_beyond_73 ?_
        refine r_lstore_n (pc := 74) (L' := [some (.ref 0), some (.long (zJ (lO v1 (lSl 1 v3)))), none, some (.int (zI v3)), some (.int (zI (h 29 v3)))]) dX11_beyond_74 (by decide) rfl ?_
        refine r_iinc (pc := 75) (x := v3) (L' := [some (.ref 0), some (.long (zJ (lO v1 (lSl 1 v3)))), none, some (.int (zI (v3 + 1))), some (.int (zI (h 29 v3)))]) dX11_beyond_75 rfl (by decide) rfl ?_
        refine r_goto (pc := 78) (tgt := 23) dX11_beyond_78 (by decide) ?_
        exact RR.sub (L' := [some (.ref 0), some (.long (zJ (lO v1 (lSl 1 v3)))), none, some (.int (zI (v3 + 1))), none]) (zSb_of (⟨rfl, ⟨rfl, ⟨rfl, trivial⟩⟩⟩)) w
      · have w := w.2 (c)
        refine r_iload (pc := 56) (x := (h 29 v3)) dX11_beyond_56 rfl ?_
        refine r_aload_n (pc := 58) (a := 0) dX11_beyond_58 rfl ?_
        refine r_getR (pc := 59) (b := 10) fl_X11_26 dX11_beyond_59 s0_0 rfl ?_
        refine r_iconst (pc := 62) dX11_beyond_62 ?_
        refine r_callV (μ2 := mX3_told) (pc := 63) (as := [.int (zI 5)]) (st := [.int (zI (h 29 v3))]) rfl s0_10 ml_X11_142 im_X3_told se_X3_told okX3_told ⟨by decide, by decide⟩ dX11_beyond_63 (Nat.le_of_ble_eq_true rfl) rfl (Nat.le_of_ble_eq_true rfl) (by decide) (by decide) (zCC.mono w ?_)
        rintro r S' h9 ⟨rfl, x9, hr, w⟩
        subst hr
        show RR mX11_beyond 0 0 66 [some (.ref 0), some (.long (zJ v1)), none, some (.int (zI v3)), some (.int (zI (h 29 v3)))] [.int (zI x9), .int (zI (h 29 v3))] zS0 h9 (zQl zS0 K)
        obtain ⟨hr10, w⟩ := w
        have kk11 : RR mX11_beyond 0 0 75 [some (.ref 0), some (.long (zJ (if (h 29 v3) ≤ x9 then v1 else (lO v1 (lSl 1 v3))))), none, some (.int (zI v3)), some (.int (zI (h 29 v3)))] [] zS0 h9 (zQl zS0 K) := by
          refine r_iinc (pc := 75) (x := v3) (L' := [some (.ref 0), some (.long (zJ (if (h 29 v3) ≤ x9 then v1 else (lO v1 (lSl 1 v3))))), none, some (.int (zI (v3 + 1))), some (.int (zI (h 29 v3)))]) dX11_beyond_75 rfl (by decide) rfl ?_
          refine r_goto (pc := 78) (tgt := 23) dX11_beyond_78 (by decide) ?_
          exact RR.sub (L' := [some (.ref 0), some (.long (zJ (if (h 29 v3) ≤ x9 then v1 else (lO v1 (lSl 1 v3))))), none, some (.int (zI (v3 + 1))), none]) (zSb_of (⟨rfl, ⟨rfl, ⟨rfl, trivial⟩⟩⟩)) w
        refine r_icmp_le (pc := 66) (x := (h 29 v3)) (y := x9) (tgt := 75) dX11_beyond_66 (by decide) hr7 hr10 (fun c => ?_) (fun c => ?_)
        · simp only [if_pos (c)] at kk11 ⊢
          exact kk11
        · refine r_lload_n (pc := 69) (x := v1) dX11_beyond_69 rfl ?_
          refine r_lconst (pc := 70) (x := 1) dX11_beyond_70 rfl ?_
          refine r_iload_n (pc := 71) (x := v3) dX11_beyond_71 rfl ?_
          refine r_lshl (pc := 72) (x := 1) (y := v3) dX11_beyond_72 ?_
          refine r_lor (pc := 73) (x := v1) (y := (lSl 1 v3)) dX11_beyond_73 ?_
          refine r_lstore_n (pc := 74) (L' := [some (.ref 0), some (.long (zJ (lO v1 (lSl 1 v3)))), none, some (.int (zI v3)), some (.int (zI (h 29 v3)))]) dX11_beyond_74 (by decide) rfl ?_
          simp only [if_neg (c)] at kk11 ⊢
          exact kk11

set_option maxRecDepth 100000 in
set_option maxHeartbeats 4000000 in
theorem wX11_middle {h : zMm} {K : Int → zMm → Prop} {v1 : Int} (w : zCb mX11_isWithin [.int (zI v1), .int (zI 0), .int (zI 1)] zS0 h (fun b1 h1 => ((b1 = true → RR mX11_middle 0 0 20 [some (.ref 0), some (.int (zI v1)), some (.int (zI (-4))), some (.int (zI (-4))), some (.int (zI 0)), none] [] zS0 h1 (zQi zS0 K)) ∧ (b1 = false → K (-1) h1)))) : zCi mX11_middle [.ref 0, .int (zI v1)] zS0 h K := by
  show RR mX11_middle 0 0 0 [some (.ref 0), some (.int (zI v1)), none, none, none, none] [] zS0 h (zQi zS0 K)
  refine r_iload_n (pc := 0) (x := v1) dX11_middle_0 rfl ?_
  refine r_iconst (pc := 1) dX11_middle_1 ?_
  refine r_iconst (pc := 2) dX11_middle_2 ?_
  refine r_callS (μ2 := mX11_isWithin) (pc := 3) (as := [.int (zI v1), .int (zI 0), .int (zI 1)]) (st := []) ml_X11_138 sm_X11_isWithin okX11_isWithin ⟨by decide, by decide⟩ dX11_middle_3 (Nat.le_of_ble_eq_true rfl) rfl (Nat.le_of_ble_eq_true rfl) (by decide) (by decide) (zCC.mono w ?_)
  rintro r S' h1 ⟨rfl, b1, hr, w⟩
  subst hr
  show RR mX11_middle 0 0 6 [some (.ref 0), some (.int (zI v1)), none, none, none, none] [.int (zI (bI b1))] zS0 h1 (zQi zS0 K)
  refine r_if_ne (pc := 6) (x := (bI b1)) (tgt := 11) dX11_middle_6 (by decide) (bI_R _) (fun c => ?_) (fun c => ?_)
  · have w := w.1 (bI_n.mp c)
    refine r_bipush (pc := 11) (x := (-4)) dX11_middle_11 (by decide) ?_
    refine r_istore_n (pc := 13) (L' := [some (.ref 0), some (.int (zI v1)), some (.int (zI (-4))), none, none, none]) dX11_middle_13 (by decide) rfl ?_
    refine r_bipush (pc := 14) (x := (-4)) dX11_middle_14 (by decide) ?_
    refine r_istore_n (pc := 16) (L' := [some (.ref 0), some (.int (zI v1)), some (.int (zI (-4))), some (.int (zI (-4))), none, none]) dX11_middle_16 (by decide) rfl ?_
    refine r_iconst (pc := 17) dX11_middle_17 ?_
    refine r_istore (pc := 18) (L' := [some (.ref 0), some (.int (zI v1)), some (.int (zI (-4))), some (.int (zI (-4))), some (.int (zI 0)), none]) dX11_middle_18 (by decide) rfl ?_
    exact w
  · have w := w.2 (bI_0.mp c)
    refine r_iconst (pc := 9) dX11_middle_9 ?_
    exact r_iret (st := []) (pc := 10) (x := (-1)) (ty := .int) dX11_middle_10 rfl rfl rfl (by decide) ⟨rfl, _, rfl, w⟩

set_option maxRecDepth 100000 in
set_option maxHeartbeats 4000000 in
theorem bX11_middle_20 {h : zMm} {K : Int → zMm → Prop} {v1 : Int} {v2 : Int} {v3 : Int} {v4 : Int} (w : (zR v4 ∧ ((36 ≤ v4 → (zR v1 ∧ K (if v1 = 0 then v2 else v3) h)) ∧ (¬ 36 ≤ v4 → zCi mX2_toFarthestGrass [.ref 28, .ref 10, .int (zI v4)] zS0 h (fun x5 h5 => (zR x5 ∧ (zR v2 ∧ (zR v3 ∧ RR mX11_middle 0 0 20 [some (.ref 0), some (.int (zI v1)), some (.int (zI (if x5 < 0 then v2 else (if v2 < 0 then v4 else (if v3 ≤ x5 then v2 else v4))))), some (.int (zI (if x5 < 0 then v3 else (if v2 < 0 then x5 else (if v3 ≤ x5 then v3 else x5))))), some (.int (zI (v4 + 1))), none] [] zS0 h5 (zQi zS0 K))))))))) : RR mX11_middle 0 0 20 [some (.ref 0), some (.int (zI v1)), some (.int (zI v2)), some (.int (zI v3)), some (.int (zI v4)), none] [] zS0 h (zQi zS0 K) := by
  refine r_iload (pc := 20) (x := v4) dX11_middle_20 rfl ?_
  refine r_bipush (pc := 22) (x := 36) dX11_middle_22 (by decide) ?_
  obtain ⟨hr2, w⟩ := w
  refine r_icmp_ge (pc := 24) (x := v4) (y := 36) (tgt := 69) dX11_middle_24 (by decide) hr2 (by decide) (fun c => ?_) (fun c => ?_)
  · have w := w.1 (c)
    refine r_iload_n (pc := 69) (x := v1) dX11_middle_69 rfl ?_
    obtain ⟨hr3, w⟩ := w
    have kk4 : RR mX11_middle 0 0 78 [some (.ref 0), some (.int (zI v1)), some (.int (zI v2)), some (.int (zI v3)), some (.int (zI v4)), none] [.int (zI (if v1 = 0 then v2 else v3))] zS0 h (zQi zS0 K) := by
      exact r_iret (st := []) (pc := 78) (x := (if v1 = 0 then v2 else v3)) (ty := .int) dX11_middle_78 rfl rfl rfl (by decide) ⟨rfl, _, rfl, w⟩
    refine r_if_ne (pc := 70) (x := v1) (tgt := 77) dX11_middle_70 (by decide) hr3 (fun c => ?_) (fun c => ?_)
    · refine r_iload_n (pc := 77) (x := v3) dX11_middle_77 rfl ?_
      simp only [if_neg (c)] at kk4 ⊢
      exact kk4
    · refine r_iload_n (pc := 73) (x := v2) dX11_middle_73 rfl ?_
      refine r_goto (pc := 74) (tgt := 78) dX11_middle_74 (by decide) ?_
      simp only [if_pos (c)] at kk4 ⊢
      exact kk4
  · have w := w.2 (c)
    refine r_aload_n (pc := 27) (a := 0) dX11_middle_27 rfl ?_
    refine r_getR (pc := 28) (b := 28) fl_X11_57 dX11_middle_28 s0_0 rfl ?_
    refine r_aload_n (pc := 31) (a := 0) dX11_middle_31 rfl ?_
    refine r_getR (pc := 32) (b := 10) fl_X11_26 dX11_middle_32 s0_0 rfl ?_
    refine r_iload (pc := 35) (x := v4) dX11_middle_35 rfl ?_
    refine r_callV (μ2 := mX2_toFarthestGrass) (pc := 37) (as := [.ref 10, .int (zI v4)]) (st := []) rfl s0_28 ml_X11_304 im_X2_toFarthestGrass se_X2_toFarthestGrass okX2_toFarthestGrass ⟨by decide, by decide⟩ dX11_middle_37 (Nat.le_of_ble_eq_true rfl) rfl (Nat.le_of_ble_eq_true rfl) (by decide) (by decide) (zCC.mono w ?_)
    rintro r S' h5 ⟨rfl, x5, hr, w⟩
    subst hr
    show RR mX11_middle 0 0 40 [some (.ref 0), some (.int (zI v1)), some (.int (zI v2)), some (.int (zI v3)), some (.int (zI v4)), none] [.int (zI x5)] zS0 h5 (zQi zS0 K)
    refine r_istore (pc := 40) (L' := [some (.ref 0), some (.int (zI v1)), some (.int (zI v2)), some (.int (zI v3)), some (.int (zI v4)), some (.int (zI x5))]) dX11_middle_40 (by decide) rfl ?_
    refine r_iload (pc := 42) (x := x5) dX11_middle_42 rfl ?_
    obtain ⟨hr6, w⟩ := w
    obtain ⟨hr8, w⟩ := w
    obtain ⟨hr11, w⟩ := w
    have kk14 : RR mX11_middle 0 0 63 [some (.ref 0), some (.int (zI v1)), some (.int (zI (if x5 < 0 then v2 else (if v2 < 0 then v4 else (if v3 ≤ x5 then v2 else v4))))), some (.int (zI (if x5 < 0 then v3 else (if v2 < 0 then x5 else (if v3 ≤ x5 then v3 else x5))))), some (.int (zI v4)), some (.int (zI x5))] [] zS0 h5 (zQi zS0 K) := by
      refine r_iinc (pc := 63) (x := v4) (L' := [some (.ref 0), some (.int (zI v1)), some (.int (zI (if x5 < 0 then v2 else (if v2 < 0 then v4 else (if v3 ≤ x5 then v2 else v4))))), some (.int (zI (if x5 < 0 then v3 else (if v2 < 0 then x5 else (if v3 ≤ x5 then v3 else x5))))), some (.int (zI (v4 + 1))), some (.int (zI x5))]) dX11_middle_63 rfl (by decide) rfl ?_
      refine r_goto (pc := 66) (tgt := 20) dX11_middle_66 (by decide) ?_
      exact RR.sub (L' := [some (.ref 0), some (.int (zI v1)), some (.int (zI (if x5 < 0 then v2 else (if v2 < 0 then v4 else (if v3 ≤ x5 then v2 else v4))))), some (.int (zI (if x5 < 0 then v3 else (if v2 < 0 then x5 else (if v3 ≤ x5 then v3 else x5))))), some (.int (zI (v4 + 1))), none]) (zSb_of (⟨rfl, ⟨rfl, ⟨rfl, ⟨rfl, ⟨rfl, trivial⟩⟩⟩⟩⟩)) w
    refine r_if_lt (pc := 44) (x := x5) (tgt := 63) dX11_middle_44 (by decide) hr6 (fun c => ?_) (fun c => ?_)
    · simp only [if_pos (c)] at kk14 ⊢
      exact kk14
    · refine r_iload_n (pc := 47) (x := v2) dX11_middle_47 rfl ?_
      refine r_if_lt (pc := 48) (x := v2) (tgt := 57) dX11_middle_48 (by decide) hr8 (fun c12 => ?_) (fun c12 => ?_)
      · refine r_iload (pc := 57) (x := v4) dX11_middle_57 rfl ?_
        refine r_istore_n (pc := 59) (L' := [some (.ref 0), some (.int (zI v1)), some (.int (zI v4)), some (.int (zI v3)), some (.int (zI v4)), some (.int (zI x5))]) dX11_middle_59 (by decide) rfl ?_
        refine r_iload (pc := 60) (x := x5) dX11_middle_60 rfl ?_
        refine r_istore_n (pc := 62) (L' := [some (.ref 0), some (.int (zI v1)), some (.int (zI v4)), some (.int (zI x5)), some (.int (zI v4)), some (.int (zI x5))]) dX11_middle_62 (by decide) rfl ?_
        simp only [if_neg (c), if_pos (c12)] at kk14 ⊢
        exact kk14
      · refine r_iload (pc := 51) (x := x5) dX11_middle_51 rfl ?_
        refine r_iload_n (pc := 53) (x := v3) dX11_middle_53 rfl ?_
        refine r_icmp_ge (pc := 54) (x := x5) (y := v3) (tgt := 63) dX11_middle_54 (by decide) hr6 hr11 (fun c13 => ?_) (fun c13 => ?_)
        · simp only [if_neg (c), if_neg (c12), if_pos (c13)] at kk14 ⊢
          exact kk14
        · refine r_iload (pc := 57) (x := v4) dX11_middle_57 rfl ?_
          refine r_istore_n (pc := 59) (L' := [some (.ref 0), some (.int (zI v1)), some (.int (zI v4)), some (.int (zI v3)), some (.int (zI v4)), some (.int (zI x5))]) dX11_middle_59 (by decide) rfl ?_
          refine r_iload (pc := 60) (x := x5) dX11_middle_60 rfl ?_
          refine r_istore_n (pc := 62) (L' := [some (.ref 0), some (.int (zI v1)), some (.int (zI v4)), some (.int (zI x5)), some (.int (zI v4)), some (.int (zI x5))]) dX11_middle_62 (by decide) rfl ?_
          simp only [if_neg (c), if_neg (c12), if_neg (c13)] at kk14 ⊢
          exact kk14

set_option maxRecDepth 100000 in
set_option maxHeartbeats 4000000 in
theorem wX11_isRobot {S : zSh} {h : zMm} {K : Bool → zMm → Prop} {v0 : Int} {v1 : Int} {v2 : Int} {v3 : Int} (w : zCb mX11_isCell [.int (zI v0)] S h (fun b1 h1 => ((b1 = false → K false h1) ∧ (b1 = true → zCb mX11_isWay [.int (zI v1)] S h1 (fun b2 h2 => ((b2 = false → K false h2) ∧ (b2 = true → zCb mX11_isWithin [.int (zI v2), .int (zI 0), .int (zI v3)] S h2 (fun b3 h3 => K (if b3 = true then true else false) h3)))))))) : zCb mX11_isRobot [.int (zI v0), .int (zI v1), .int (zI v2), .int (zI v3)] S h K := by
  show RR mX11_isRobot 0 0 0 [some (.int (zI v0)), some (.int (zI v1)), some (.int (zI v2)), some (.int (zI v3))] [] S h (zQb S K)
  refine r_iload_n (pc := 0) (x := v0) dX11_isRobot_0 rfl ?_
  refine r_callS (μ2 := mX11_isCell) (pc := 1) (as := [.int (zI v0)]) (st := []) ml_X11_146 sm_X11_isCell okX11_isCell ⟨by decide, by decide⟩ dX11_isRobot_1 (Nat.le_of_ble_eq_true rfl) rfl (Nat.le_of_ble_eq_true rfl) (by decide) (by decide) (zCC.mono w ?_)
  rintro r S' h1 ⟨rfl, b1, hr, w⟩
  subst hr
  show RR mX11_isRobot 0 0 4 [some (.int (zI v0)), some (.int (zI v1)), some (.int (zI v2)), some (.int (zI v3))] [.int (zI (bI b1))] S h1 (zQb S K)
  refine r_if_eq (pc := 4) (x := (bI b1)) (tgt := 27) dX11_isRobot_4 (by decide) (bI_R _) (fun c => ?_) (fun c => ?_)
  · have w := w.1 (bI_0.mp c)
    refine r_iconst (pc := 27) dX11_isRobot_27 ?_
    exact r_iret (st := []) (pc := 28) (x := 0) (ty := .boolean) dX11_isRobot_28 rfl (rfl) rfl (by decide) ⟨rfl, false, rfl, w⟩
  · have w := w.2 (bI_n.mp c)
    refine r_iload_n (pc := 7) (x := v1) dX11_isRobot_7 rfl ?_
    refine r_callS (μ2 := mX11_isWay) (pc := 8) (as := [.int (zI v1)]) (st := []) ml_X11_360 sm_X11_isWay okX11_isWay ⟨by decide, by decide⟩ dX11_isRobot_8 (Nat.le_of_ble_eq_true rfl) rfl (Nat.le_of_ble_eq_true rfl) (by decide) (by decide) (zCC.mono w ?_)
    rintro r S' h2 ⟨rfl, b2, hr, w⟩
    subst hr
    show RR mX11_isRobot 0 0 11 [some (.int (zI v0)), some (.int (zI v1)), some (.int (zI v2)), some (.int (zI v3))] [.int (zI (bI b2))] S h2 (zQb S K)
    refine r_if_eq (pc := 11) (x := (bI b2)) (tgt := 27) dX11_isRobot_11 (by decide) (bI_R _) (fun c => ?_) (fun c => ?_)
    · have w := w.1 (bI_0.mp c)
      refine r_iconst (pc := 27) dX11_isRobot_27 ?_
      exact r_iret (st := []) (pc := 28) (x := 0) (ty := .boolean) dX11_isRobot_28 rfl (rfl) rfl (by decide) ⟨rfl, false, rfl, w⟩
    · have w := w.2 (bI_n.mp c)
      refine r_iload_n (pc := 14) (x := v2) dX11_isRobot_14 rfl ?_
      refine r_iconst (pc := 15) dX11_isRobot_15 ?_
      refine r_iload_n (pc := 16) (x := v3) dX11_isRobot_16 rfl ?_
      refine r_callS (μ2 := mX11_isWithin) (pc := 17) (as := [.int (zI v2), .int (zI 0), .int (zI v3)]) (st := []) ml_X11_138 sm_X11_isWithin okX11_isWithin ⟨by decide, by decide⟩ dX11_isRobot_17 (Nat.le_of_ble_eq_true rfl) rfl (Nat.le_of_ble_eq_true rfl) (by decide) (by decide) (zCC.mono w ?_)
      rintro r S' h3 ⟨rfl, b3, hr, w⟩
      subst hr
      show RR mX11_isRobot 0 0 20 [some (.int (zI v0)), some (.int (zI v1)), some (.int (zI v2)), some (.int (zI v3))] [.int (zI (bI b3))] S h3 (zQb S K)
      have kk4 : RR mX11_isRobot 0 0 28 [some (.int (zI v0)), some (.int (zI v1)), some (.int (zI v2)), some (.int (zI v3))] [.int (zI (bI (if b3 = true then true else false)))] S h3 (zQb S K) := by
        exact r_iret (st := []) (pc := 28) (x := (bI (if b3 = true then true else false))) (ty := .boolean) dX11_isRobot_28 rfl (bI_nar _) rfl (by decide) ⟨rfl, (if b3 = true then true else false), rfl, w⟩
      refine r_if_eq (pc := 20) (x := (bI b3)) (tgt := 27) dX11_isRobot_20 (by decide) (bI_R _) (fun c => ?_) (fun c => ?_)
      · refine r_iconst (pc := 27) dX11_isRobot_27 ?_
        simp only [if_neg (bI_ft (bI_0.mp c))] at kk4 ⊢
        exact kk4
      · refine r_iconst (pc := 23) dX11_isRobot_23 ?_
        refine r_goto (pc := 24) (tgt := 28) dX11_isRobot_24 (by decide) ?_
        simp only [if_pos (bI_n.mp c)] at kk4 ⊢
        exact kk4

set_option maxRecDepth 100000 in
set_option maxHeartbeats 4000000 in
theorem wX11_robot {h : zMm} {K : Int → zMm → Prop} {v1 : Int} {v2 : Int} {v3 : Int} {v4 : Int} {v5 : Int} {v6 : Int} (w : zCb mX11_isRobot [.int (zI v1), .int (zI v2), .int (zI v3), .int (zI 3)] zS0 h (fun b1 h1 => ((b1 = false → K (-1) h1) ∧ (b1 = true → zCb mX11_isWithin [.int (zI v5), .int (zI 0), .int (zI 999)] zS0 h1 (fun b2 h2 => ((b2 = false → K (-1) h2) ∧ (b2 = true → zCb mX11_isWithin [.int (zI v6), .int (zI 0), .int (zI 5)] zS0 h2 (fun b3 h3 => ((b3 = true → zCb mX3_isOpen [.ref 10, .int (zI v1)] zS0 h3 (fun b4 h4 => ((b4 = true → zCv mX6_standAt [.ref 47, .int (zI v1), .int (zI v2), .int (zI v4)] zS0 h4 (fun h5 => zCv mX6_goSteps [.ref 47, .ref 10, .int (zI v3), .int (zI v5)] zS0 h5 (fun h6 => (zR v6 ∧ ((v6 = 0 → (zR (h6 47 0) ∧ K (h6 47 0) h6)) ∧ (v6 = 1 → (zR (h6 47 1) ∧ K (h6 47 1) h6)) ∧ (v6 = 2 → zCi mJ13_bitCount_95d88 [.long (zJ (h6 47 4))] zS0 h6 (fun x10 h10 => (zR x10 ∧ K x10 h10))) ∧ (v6 = 3 → K (h6 47 4) h6) ∧ (v6 = 4 → (zR (h6 47 3) ∧ K (h6 47 3) h6)) ∧ (v6 < 0 ∨ 4 < v6 → (zR (h6 47 2) ∧ K (h6 47 2) h6))))))) ∧ (b4 = false → K (-2) h4)))) ∧ (b3 = false → K (-1) h3)))))))))) : zCl mX11_robot [.ref 0, .int (zI v1), .int (zI v2), .int (zI v3), .int (zI v4), .int (zI v5), .int (zI v6)] zS0 h K := by
  show RR mX11_robot 0 0 0 [some (.ref 0), some (.int (zI v1)), some (.int (zI v2)), some (.int (zI v3)), some (.int (zI v4)), some (.int (zI v5)), some (.int (zI v6))] [] zS0 h (zQl zS0 K)
  refine r_iload_n (pc := 0) (x := v1) dX11_robot_0 rfl ?_
  refine r_iload_n (pc := 1) (x := v2) dX11_robot_1 rfl ?_
  refine r_iload_n (pc := 2) (x := v3) dX11_robot_2 rfl ?_
  refine r_iconst (pc := 3) dX11_robot_3 ?_
  refine r_callS (μ2 := mX11_isRobot) (pc := 4) (as := [.int (zI v1), .int (zI v2), .int (zI v3), .int (zI 3)]) (st := []) ml_X11_307 sm_X11_isRobot okX11_isRobot ⟨by decide, by decide⟩ dX11_robot_4 (Nat.le_of_ble_eq_true rfl) rfl (Nat.le_of_ble_eq_true rfl) (by decide) (by decide) (zCC.mono w ?_)
  rintro r S' h1 ⟨rfl, b1, hr, w⟩
  subst hr
  show RR mX11_robot 0 0 7 [some (.ref 0), some (.int (zI v1)), some (.int (zI v2)), some (.int (zI v3)), some (.int (zI v4)), some (.int (zI v5)), some (.int (zI v6))] [.int (zI (bI b1))] zS0 h1 (zQl zS0 K)
  refine r_if_eq (pc := 7) (x := (bI b1)) (tgt := 32) dX11_robot_7 (by decide) (bI_R _) (fun c => ?_) (fun c => ?_)
  · have w := w.1 (bI_0.mp c)
    refine r_ldcL (pc := 32) (x := (-1)) dX11_robot_32 kl_X11_221 ?_
    exact r_lret (st := []) (pc := 35) (x := (-1)) dX11_robot_35 rfl rfl (by decide) ⟨rfl, _, rfl, w⟩
  · have w := w.2 (bI_n.mp c)
    refine r_iload (pc := 10) (x := v5) dX11_robot_10 rfl ?_
    refine r_iconst (pc := 12) dX11_robot_12 ?_
    refine r_sipush (pc := 13) (x := 999) dX11_robot_13 (by decide) ?_
    refine r_callS (μ2 := mX11_isWithin) (pc := 16) (as := [.int (zI v5), .int (zI 0), .int (zI 999)]) (st := []) ml_X11_138 sm_X11_isWithin okX11_isWithin ⟨by decide, by decide⟩ dX11_robot_16 (Nat.le_of_ble_eq_true rfl) rfl (Nat.le_of_ble_eq_true rfl) (by decide) (by decide) (zCC.mono w ?_)
    rintro r S' h2 ⟨rfl, b2, hr, w⟩
    subst hr
    show RR mX11_robot 0 0 19 [some (.ref 0), some (.int (zI v1)), some (.int (zI v2)), some (.int (zI v3)), some (.int (zI v4)), some (.int (zI v5)), some (.int (zI v6))] [.int (zI (bI b2))] zS0 h2 (zQl zS0 K)
    refine r_if_eq (pc := 19) (x := (bI b2)) (tgt := 32) dX11_robot_19 (by decide) (bI_R _) (fun c => ?_) (fun c => ?_)
    · have w := w.1 (bI_0.mp c)
      refine r_ldcL (pc := 32) (x := (-1)) dX11_robot_32 kl_X11_221 ?_
      exact r_lret (st := []) (pc := 35) (x := (-1)) dX11_robot_35 rfl rfl (by decide) ⟨rfl, _, rfl, w⟩
    · have w := w.2 (bI_n.mp c)
      refine r_iload (pc := 22) (x := v6) dX11_robot_22 rfl ?_
      refine r_iconst (pc := 24) dX11_robot_24 ?_
      refine r_iconst (pc := 25) dX11_robot_25 ?_
      refine r_callS (μ2 := mX11_isWithin) (pc := 26) (as := [.int (zI v6), .int (zI 0), .int (zI 5)]) (st := []) ml_X11_138 sm_X11_isWithin okX11_isWithin ⟨by decide, by decide⟩ dX11_robot_26 (Nat.le_of_ble_eq_true rfl) rfl (Nat.le_of_ble_eq_true rfl) (by decide) (by decide) (zCC.mono w ?_)
      rintro r S' h3 ⟨rfl, b3, hr, w⟩
      subst hr
      show RR mX11_robot 0 0 29 [some (.ref 0), some (.int (zI v1)), some (.int (zI v2)), some (.int (zI v3)), some (.int (zI v4)), some (.int (zI v5)), some (.int (zI v6))] [.int (zI (bI b3))] zS0 h3 (zQl zS0 K)
      refine r_if_ne (pc := 29) (x := (bI b3)) (tgt := 36) dX11_robot_29 (by decide) (bI_R _) (fun c => ?_) (fun c => ?_)
      · have w := w.1 (bI_n.mp c)
        refine r_aload_n (pc := 36) (a := 0) dX11_robot_36 rfl ?_
        refine r_getR (pc := 37) (b := 10) fl_X11_26 dX11_robot_37 s0_0 rfl ?_
        refine r_iload_n (pc := 40) (x := v1) dX11_robot_40 rfl ?_
        refine r_callV (μ2 := mX3_isOpen) (pc := 41) (as := [.int (zI v1)]) (st := []) rfl s0_10 ml_X11_311 im_X3_isOpen se_X3_isOpen okX3_isOpen ⟨by decide, by decide⟩ dX11_robot_41 (Nat.le_of_ble_eq_true rfl) rfl (Nat.le_of_ble_eq_true rfl) (by decide) (by decide) (zCC.mono w ?_)
        rintro r S' h4 ⟨rfl, b4, hr, w⟩
        subst hr
        show RR mX11_robot 0 0 44 [some (.ref 0), some (.int (zI v1)), some (.int (zI v2)), some (.int (zI v3)), some (.int (zI v4)), some (.int (zI v5)), some (.int (zI v6))] [.int (zI (bI b4))] zS0 h4 (zQl zS0 K)
        refine r_if_ne (pc := 44) (x := (bI b4)) (tgt := 51) dX11_robot_44 (by decide) (bI_R _) (fun c => ?_) (fun c => ?_)
        · have w := w.1 (bI_n.mp c)
          refine r_aload_n (pc := 51) (a := 0) dX11_robot_51 rfl ?_
          refine r_getR (pc := 52) (b := 47) fl_X11_71 dX11_robot_52 s0_0 rfl ?_
          refine r_iload_n (pc := 55) (x := v1) dX11_robot_55 rfl ?_
          refine r_iload_n (pc := 56) (x := v2) dX11_robot_56 rfl ?_
          refine r_iload (pc := 57) (x := v4) dX11_robot_57 rfl ?_
          refine r_callV (μ2 := mX6_standAt) (pc := 59) (as := [.int (zI v1), .int (zI v2), .int (zI v4)]) (st := []) rfl s0_47 ml_X11_316 im_X6_standAt se_X6_standAt okX6_standAt ⟨by decide, by decide⟩ dX11_robot_59 (Nat.le_of_ble_eq_true rfl) rfl (Nat.le_of_ble_eq_true rfl) (by decide) (by decide) (zCC.mono w ?_)
          rintro r S' h5 ⟨rfl, hr, w⟩
          subst hr
          show RR mX11_robot 0 0 62 [some (.ref 0), some (.int (zI v1)), some (.int (zI v2)), some (.int (zI v3)), some (.int (zI v4)), some (.int (zI v5)), some (.int (zI v6))] [] zS0 h5 (zQl zS0 K)
          refine r_aload_n (pc := 62) (a := 0) dX11_robot_62 rfl ?_
          refine r_getR (pc := 63) (b := 47) fl_X11_71 dX11_robot_63 s0_0 rfl ?_
          refine r_aload_n (pc := 66) (a := 0) dX11_robot_66 rfl ?_
          refine r_getR (pc := 67) (b := 10) fl_X11_26 dX11_robot_67 s0_0 rfl ?_
          refine r_iload_n (pc := 70) (x := v3) dX11_robot_70 rfl ?_
          refine r_iload (pc := 71) (x := v5) dX11_robot_71 rfl ?_
          refine r_callV (μ2 := mX6_goSteps) (pc := 73) (as := [.ref 10, .int (zI v3), .int (zI v5)]) (st := []) rfl s0_47 ml_X11_320 im_X6_goSteps se_X6_goSteps okX6_goSteps ⟨by decide, by decide⟩ dX11_robot_73 (Nat.le_of_ble_eq_true rfl) rfl (Nat.le_of_ble_eq_true rfl) (by decide) (by decide) (zCC.mono w ?_)
          rintro r S' h6 ⟨rfl, hr, w⟩
          subst hr
          show RR mX11_robot 0 0 76 [some (.ref 0), some (.int (zI v1)), some (.int (zI v2)), some (.int (zI v3)), some (.int (zI v4)), some (.int (zI v5)), some (.int (zI v6))] [] zS0 h6 (zQl zS0 K)
          refine r_iload (pc := 76) (x := v6) dX11_robot_76 rfl ?_
          obtain ⟨hr7, w⟩ := w
          rcases (show v6 = 0 ∨ v6 = 1 ∨ v6 = 2 ∨ v6 = 3 ∨ v6 = 4 ∨ (v6 < 0 ∨ 4 < v6) by omega) with hcs | hcs | hcs | hcs | hcs | hcs
          · have w := w.1 hcs
            refine r_tswIn (pc := 78) (x := v6) (tgt := 112) dX11_robot_78 hr7 (by omega) (by omega) (by rw [hcs]; rfl) (by decide) ?_
            refine r_aload_n (pc := 112) (a := 0) dX11_robot_112 rfl ?_
            refine r_getR (pc := 113) (b := 47) fl_X11_71 dX11_robot_113 s0_0 rfl ?_
            refine r_getI (pc := 116) (fi := 0) (x := (h6 47 0)) fl_X11_324 dX11_robot_116 s0_47 rfl (rfl) ?_
            obtain ⟨hr8, w⟩ := w
            refine r_i2l (pc := 119) (x := (h6 47 0)) dX11_robot_119 hr8 ?_
            exact r_lret (st := []) (pc := 120) (x := (h6 47 0)) dX11_robot_120 rfl rfl (by decide) ⟨rfl, _, rfl, w⟩
          · have w := w.2.1 hcs
            refine r_tswIn (pc := 78) (x := v6) (tgt := 121) dX11_robot_78 hr7 (by omega) (by omega) (by rw [hcs]; rfl) (by decide) ?_
            refine r_aload_n (pc := 121) (a := 0) dX11_robot_121 rfl ?_
            refine r_getR (pc := 122) (b := 47) fl_X11_71 dX11_robot_122 s0_0 rfl ?_
            refine r_getI (pc := 125) (fi := 1) (x := (h6 47 1)) fl_X11_325 dX11_robot_125 s0_47 rfl (rfl) ?_
            obtain ⟨hr9, w⟩ := w
            refine r_i2l (pc := 128) (x := (h6 47 1)) dX11_robot_128 hr9 ?_
            exact r_lret (st := []) (pc := 129) (x := (h6 47 1)) dX11_robot_129 rfl rfl (by decide) ⟨rfl, _, rfl, w⟩
          · have w := w.2.2.1 hcs
            refine r_tswIn (pc := 78) (x := v6) (tgt := 130) dX11_robot_78 hr7 (by omega) (by omega) (by rw [hcs]; rfl) (by decide) ?_
            refine r_aload_n (pc := 130) (a := 0) dX11_robot_130 rfl ?_
            refine r_getR (pc := 131) (b := 47) fl_X11_71 dX11_robot_131 s0_0 rfl ?_
            refine r_getJ (pc := 134) (fi := 4) (x := (h6 47 4)) fl_X11_328 dX11_robot_134 s0_47 rfl (rfl) ?_
            refine r_callS (μ2 := mJ13_bitCount_95d88) (pc := 137) (as := [.long (zJ (h6 47 4))]) (st := []) ml_X11_332 sm_J13_bitCount_95d88 okJ13_bitCount_95d88 ⟨by decide, by decide⟩ dX11_robot_137 (Nat.le_of_ble_eq_true rfl) rfl (Nat.le_of_ble_eq_true rfl) (by decide) (by decide) (zCC.mono w ?_)
            rintro r S' h10 ⟨rfl, x10, hr, w⟩
            subst hr
            show RR mX11_robot 0 0 140 [some (.ref 0), some (.int (zI v1)), some (.int (zI v2)), some (.int (zI v3)), some (.int (zI v4)), some (.int (zI v5)), some (.int (zI v6))] [.int (zI x10)] zS0 h10 (zQl zS0 K)
            obtain ⟨hr11, w⟩ := w
            refine r_i2l (pc := 140) (x := x10) dX11_robot_140 hr11 ?_
            exact r_lret (st := []) (pc := 141) (x := x10) dX11_robot_141 rfl rfl (by decide) ⟨rfl, _, rfl, w⟩
          · have w := w.2.2.2.1 hcs
            refine r_tswIn (pc := 78) (x := v6) (tgt := 142) dX11_robot_78 hr7 (by omega) (by omega) (by rw [hcs]; rfl) (by decide) ?_
            refine r_aload_n (pc := 142) (a := 0) dX11_robot_142 rfl ?_
            refine r_getR (pc := 143) (b := 47) fl_X11_71 dX11_robot_143 s0_0 rfl ?_
            refine r_getJ (pc := 146) (fi := 4) (x := (h6 47 4)) fl_X11_328 dX11_robot_146 s0_47 rfl (rfl) ?_
            exact r_lret (st := []) (pc := 149) (x := (h6 47 4)) dX11_robot_149 rfl rfl (by decide) ⟨rfl, _, rfl, w⟩
          · have w := w.2.2.2.2.1 hcs
            refine r_tswIn (pc := 78) (x := v6) (tgt := 150) dX11_robot_78 hr7 (by omega) (by omega) (by rw [hcs]; rfl) (by decide) ?_
            refine r_aload_n (pc := 150) (a := 0) dX11_robot_150 rfl ?_
            refine r_getR (pc := 151) (b := 47) fl_X11_71 dX11_robot_151 s0_0 rfl ?_
            refine r_getI (pc := 154) (fi := 3) (x := (h6 47 3)) fl_X11_338 dX11_robot_154 s0_47 rfl (rfl) ?_
            obtain ⟨hr12, w⟩ := w
            refine r_i2l (pc := 157) (x := (h6 47 3)) dX11_robot_157 hr12 ?_
            exact r_lret (st := []) (pc := 158) (x := (h6 47 3)) dX11_robot_158 rfl rfl (by decide) ⟨rfl, _, rfl, w⟩
          · have w := w.2.2.2.2.2 hcs
            refine r_tswOut (pc := 78) (x := v6) (tgt := 159) dX11_robot_78 hr7 (by omega) (by decide) ?_
            refine r_aload_n (pc := 159) (a := 0) dX11_robot_159 rfl ?_
            refine r_getR (pc := 160) (b := 47) fl_X11_71 dX11_robot_160 s0_0 rfl ?_
            refine r_getI (pc := 163) (fi := 2) (x := (h6 47 2)) fl_X11_341 dX11_robot_163 s0_47 rfl (rfl) ?_
            obtain ⟨hr13, w⟩ := w
            refine r_i2l (pc := 166) (x := (h6 47 2)) dX11_robot_166 hr13 ?_
            exact r_lret (st := []) (pc := 167) (x := (h6 47 2)) dX11_robot_167 rfl rfl (by decide) ⟨rfl, _, rfl, w⟩
        · have w := w.2 (bI_0.mp c)
          refine r_ldcL (pc := 47) (x := (-2)) dX11_robot_47 kl_X11_314 ?_
          exact r_lret (st := []) (pc := 50) (x := (-2)) dX11_robot_50 rfl rfl (by decide) ⟨rfl, _, rfl, w⟩
      · have w := w.2 (bI_0.mp c)
        refine r_ldcL (pc := 32) (x := (-1)) dX11_robot_32 kl_X11_221 ?_
        exact r_lret (st := []) (pc := 35) (x := (-1)) dX11_robot_35 rfl rfl (by decide) ⟨rfl, _, rfl, w⟩

set_option maxRecDepth 100000 in
set_option maxHeartbeats 4000000 in
theorem wX11_until {h : zMm} {K : Int → zMm → Prop} {v1 : Int} {v2 : Int} {v3 : Int} {v4 : Int} {v5 : Int} {v6 : Int} (w : zCb mX11_isRobot [.int (zI v1), .int (zI v2), .int (zI v3), .int (zI 3)] zS0 h (fun b1 h1 => ((b1 = false → K (-1) h1) ∧ (b1 = true → zCb mX11_isWithin [.int (zI v6), .int (zI 1), .int (zI 99)] zS0 h1 (fun b2 h2 => ((b2 = false → K (-1) h2) ∧ (b2 = true → zCb mX11_isWithin [.int (zI v5), .int (zI 0), .int (zI v6)] zS0 h2 (fun b3 h3 => ((b3 = true → zCb mX3_isOpen [.ref 10, .int (zI v1)] zS0 h3 (fun b4 h4 => ((b4 = true → zCl mX3_grassBits [.ref 10] zS0 h4 (fun x5 h5 => zCi mJ13_bitCount_95d88 [.long (zJ x5)] zS0 h5 (fun x6 h6 => zCv mX6_standAt [.ref 47, .int (zI v1), .int (zI v2), .int (zI v4)] zS0 h6 (fun h7 => RR mX11_until 0 0 81 [some (.ref 0), none, none, some (.int (zI v3)), none, none, some (.int (zI v6)), some (.long (zJ x5)), none, some (.int (zI (v5 * x6))), some (.int (zI 0))] [] zS0 h7 (zQi zS0 K))))) ∧ (b4 = false → K (-2) h4)))) ∧ (b3 = false → K (-1) h3)))))))))) : zCi mX11_until [.ref 0, .int (zI v1), .int (zI v2), .int (zI v3), .int (zI v4), .int (zI v5), .int (zI v6)] zS0 h K := by
  show RR mX11_until 0 0 0 [some (.ref 0), some (.int (zI v1)), some (.int (zI v2)), some (.int (zI v3)), some (.int (zI v4)), some (.int (zI v5)), some (.int (zI v6)), none, none, none, none] [] zS0 h (zQi zS0 K)
  refine r_iload_n (pc := 0) (x := v1) dX11_until_0 rfl ?_
  refine r_iload_n (pc := 1) (x := v2) dX11_until_1 rfl ?_
  refine r_iload_n (pc := 2) (x := v3) dX11_until_2 rfl ?_
  refine r_iconst (pc := 3) dX11_until_3 ?_
  refine r_callS (μ2 := mX11_isRobot) (pc := 4) (as := [.int (zI v1), .int (zI v2), .int (zI v3), .int (zI 3)]) (st := []) ml_X11_307 sm_X11_isRobot okX11_isRobot ⟨by decide, by decide⟩ dX11_until_4 (Nat.le_of_ble_eq_true rfl) rfl (Nat.le_of_ble_eq_true rfl) (by decide) (by decide) (zCC.mono w ?_)
  rintro r S' h1 ⟨rfl, b1, hr, w⟩
  subst hr
  show RR mX11_until 0 0 7 [some (.ref 0), some (.int (zI v1)), some (.int (zI v2)), some (.int (zI v3)), some (.int (zI v4)), some (.int (zI v5)), some (.int (zI v6)), none, none, none, none] [.int (zI (bI b1))] zS0 h1 (zQi zS0 K)
  refine r_if_eq (pc := 7) (x := (bI b1)) (tgt := 32) dX11_until_7 (by decide) (bI_R _) (fun c => ?_) (fun c => ?_)
  · have w := w.1 (bI_0.mp c)
    refine r_iconst (pc := 32) dX11_until_32 ?_
    exact r_iret (st := []) (pc := 33) (x := (-1)) (ty := .int) dX11_until_33 rfl rfl rfl (by decide) ⟨rfl, _, rfl, w⟩
  · have w := w.2 (bI_n.mp c)
    refine r_iload (pc := 10) (x := v6) dX11_until_10 rfl ?_
    refine r_iconst (pc := 12) dX11_until_12 ?_
    refine r_bipush (pc := 13) (x := 99) dX11_until_13 (by decide) ?_
    refine r_callS (μ2 := mX11_isWithin) (pc := 15) (as := [.int (zI v6), .int (zI 1), .int (zI 99)]) (st := []) ml_X11_138 sm_X11_isWithin okX11_isWithin ⟨by decide, by decide⟩ dX11_until_15 (Nat.le_of_ble_eq_true rfl) rfl (Nat.le_of_ble_eq_true rfl) (by decide) (by decide) (zCC.mono w ?_)
    rintro r S' h2 ⟨rfl, b2, hr, w⟩
    subst hr
    show RR mX11_until 0 0 18 [some (.ref 0), some (.int (zI v1)), some (.int (zI v2)), some (.int (zI v3)), some (.int (zI v4)), some (.int (zI v5)), some (.int (zI v6)), none, none, none, none] [.int (zI (bI b2))] zS0 h2 (zQi zS0 K)
    refine r_if_eq (pc := 18) (x := (bI b2)) (tgt := 32) dX11_until_18 (by decide) (bI_R _) (fun c => ?_) (fun c => ?_)
    · have w := w.1 (bI_0.mp c)
      refine r_iconst (pc := 32) dX11_until_32 ?_
      exact r_iret (st := []) (pc := 33) (x := (-1)) (ty := .int) dX11_until_33 rfl rfl rfl (by decide) ⟨rfl, _, rfl, w⟩
    · have w := w.2 (bI_n.mp c)
      refine r_iload (pc := 21) (x := v5) dX11_until_21 rfl ?_
      refine r_iconst (pc := 23) dX11_until_23 ?_
      refine r_iload (pc := 24) (x := v6) dX11_until_24 rfl ?_
      refine r_callS (μ2 := mX11_isWithin) (pc := 26) (as := [.int (zI v5), .int (zI 0), .int (zI v6)]) (st := []) ml_X11_138 sm_X11_isWithin okX11_isWithin ⟨by decide, by decide⟩ dX11_until_26 (Nat.le_of_ble_eq_true rfl) rfl (Nat.le_of_ble_eq_true rfl) (by decide) (by decide) (zCC.mono w ?_)
      rintro r S' h3 ⟨rfl, b3, hr, w⟩
      subst hr
      show RR mX11_until 0 0 29 [some (.ref 0), some (.int (zI v1)), some (.int (zI v2)), some (.int (zI v3)), some (.int (zI v4)), some (.int (zI v5)), some (.int (zI v6)), none, none, none, none] [.int (zI (bI b3))] zS0 h3 (zQi zS0 K)
      refine r_if_ne (pc := 29) (x := (bI b3)) (tgt := 34) dX11_until_29 (by decide) (bI_R _) (fun c => ?_) (fun c => ?_)
      · have w := w.1 (bI_n.mp c)
        refine r_aload_n (pc := 34) (a := 0) dX11_until_34 rfl ?_
        refine r_getR (pc := 35) (b := 10) fl_X11_26 dX11_until_35 s0_0 rfl ?_
        refine r_iload_n (pc := 38) (x := v1) dX11_until_38 rfl ?_
        refine r_callV (μ2 := mX3_isOpen) (pc := 39) (as := [.int (zI v1)]) (st := []) rfl s0_10 ml_X11_311 im_X3_isOpen se_X3_isOpen okX3_isOpen ⟨by decide, by decide⟩ dX11_until_39 (Nat.le_of_ble_eq_true rfl) rfl (Nat.le_of_ble_eq_true rfl) (by decide) (by decide) (zCC.mono w ?_)
        rintro r S' h4 ⟨rfl, b4, hr, w⟩
        subst hr
        show RR mX11_until 0 0 42 [some (.ref 0), some (.int (zI v1)), some (.int (zI v2)), some (.int (zI v3)), some (.int (zI v4)), some (.int (zI v5)), some (.int (zI v6)), none, none, none, none] [.int (zI (bI b4))] zS0 h4 (zQi zS0 K)
        refine r_if_ne (pc := 42) (x := (bI b4)) (tgt := 48) dX11_until_42 (by decide) (bI_R _) (fun c => ?_) (fun c => ?_)
        · have w := w.1 (bI_n.mp c)
          refine r_aload_n (pc := 48) (a := 0) dX11_until_48 rfl ?_
          refine r_getR (pc := 49) (b := 10) fl_X11_26 dX11_until_49 s0_0 rfl ?_
          refine r_callV (μ2 := mX3_grassBits) (pc := 52) (as := []) (st := []) rfl s0_10 ml_X11_344 im_X3_grassBits se_X3_grassBits okX3_grassBits ⟨by decide, by decide⟩ dX11_until_52 (Nat.le_of_ble_eq_true rfl) rfl (Nat.le_of_ble_eq_true rfl) (by decide) (by decide) (zCC.mono w ?_)
          rintro r S' h5 ⟨rfl, x5, hr, w⟩
          subst hr
          show RR mX11_until 0 0 55 [some (.ref 0), some (.int (zI v1)), some (.int (zI v2)), some (.int (zI v3)), some (.int (zI v4)), some (.int (zI v5)), some (.int (zI v6)), none, none, none, none] [.long (zJ x5)] zS0 h5 (zQi zS0 K)
          refine r_lstore (pc := 55) (L' := [some (.ref 0), some (.int (zI v1)), some (.int (zI v2)), some (.int (zI v3)), some (.int (zI v4)), some (.int (zI v5)), some (.int (zI v6)), some (.long (zJ x5)), none, none, none]) dX11_until_55 (by decide) rfl ?_
          refine r_iload (pc := 57) (x := v5) dX11_until_57 rfl ?_
          refine r_lload (pc := 59) (x := x5) dX11_until_59 rfl ?_
          refine r_callS (μ2 := mJ13_bitCount_95d88) (pc := 61) (as := [.long (zJ x5)]) (st := [.int (zI v5)]) ml_X11_332 sm_J13_bitCount_95d88 okJ13_bitCount_95d88 ⟨by decide, by decide⟩ dX11_until_61 (Nat.le_of_ble_eq_true rfl) rfl (Nat.le_of_ble_eq_true rfl) (by decide) (by decide) (zCC.mono w ?_)
          rintro r S' h6 ⟨rfl, x6, hr, w⟩
          subst hr
          show RR mX11_until 0 0 64 [some (.ref 0), some (.int (zI v1)), some (.int (zI v2)), some (.int (zI v3)), some (.int (zI v4)), some (.int (zI v5)), some (.int (zI v6)), some (.long (zJ x5)), none, none, none] [.int (zI x6), .int (zI v5)] zS0 h6 (zQi zS0 K)
          refine r_imul (pc := 64) (x := v5) (y := x6) dX11_until_64 ?_
          refine r_istore (pc := 65) (L' := [some (.ref 0), some (.int (zI v1)), some (.int (zI v2)), some (.int (zI v3)), some (.int (zI v4)), some (.int (zI v5)), some (.int (zI v6)), some (.long (zJ x5)), none, some (.int (zI (v5 * x6))), none]) dX11_until_65 (by decide) rfl ?_
          refine r_aload_n (pc := 67) (a := 0) dX11_until_67 rfl ?_
          refine r_getR (pc := 68) (b := 47) fl_X11_71 dX11_until_68 s0_0 rfl ?_
          refine r_iload_n (pc := 71) (x := v1) dX11_until_71 rfl ?_
          refine r_iload_n (pc := 72) (x := v2) dX11_until_72 rfl ?_
          refine r_iload (pc := 73) (x := v4) dX11_until_73 rfl ?_
          refine r_callV (μ2 := mX6_standAt) (pc := 75) (as := [.int (zI v1), .int (zI v2), .int (zI v4)]) (st := []) rfl s0_47 ml_X11_316 im_X6_standAt se_X6_standAt okX6_standAt ⟨by decide, by decide⟩ dX11_until_75 (Nat.le_of_ble_eq_true rfl) rfl (Nat.le_of_ble_eq_true rfl) (by decide) (by decide) (zCC.mono w ?_)
          rintro r S' h7 ⟨rfl, hr, w⟩
          subst hr
          show RR mX11_until 0 0 78 [some (.ref 0), some (.int (zI v1)), some (.int (zI v2)), some (.int (zI v3)), some (.int (zI v4)), some (.int (zI v5)), some (.int (zI v6)), some (.long (zJ x5)), none, some (.int (zI (v5 * x6))), none] [] zS0 h7 (zQi zS0 K)
          refine r_iconst (pc := 78) dX11_until_78 ?_
          refine r_istore (pc := 79) (L' := [some (.ref 0), some (.int (zI v1)), some (.int (zI v2)), some (.int (zI v3)), some (.int (zI v4)), some (.int (zI v5)), some (.int (zI v6)), some (.long (zJ x5)), none, some (.int (zI (v5 * x6))), some (.int (zI 0))]) dX11_until_79 (by decide) rfl ?_
          exact RR.sub (L' := [some (.ref 0), none, none, some (.int (zI v3)), none, none, some (.int (zI v6)), some (.long (zJ x5)), none, some (.int (zI (v5 * x6))), some (.int (zI 0))]) (zSb_of (⟨rfl, ⟨rfl, ⟨rfl, ⟨rfl, ⟨rfl, ⟨rfl, trivial⟩⟩⟩⟩⟩⟩)) w
        · have w := w.2 (bI_0.mp c)
          refine r_bipush (pc := 45) (x := (-2)) dX11_until_45 (by decide) ?_
          exact r_iret (st := []) (pc := 47) (x := (-2)) (ty := .int) dX11_until_47 rfl rfl rfl (by decide) ⟨rfl, _, rfl, w⟩
      · have w := w.2 (bI_0.mp c)
        refine r_iconst (pc := 32) dX11_until_32 ?_
        exact r_iret (st := []) (pc := 33) (x := (-1)) (ty := .int) dX11_until_33 rfl rfl rfl (by decide) ⟨rfl, _, rfl, w⟩

set_option maxRecDepth 100000 in
set_option maxHeartbeats 4000000 in
theorem bX11_until_81 {h : zMm} {K : Int → zMm → Prop} {v3 : Int} {v6 : Int} {v7 : Int} {v9 : Int} {v10 : Int} (w : (zR v10 ∧ ((999 < v10 → K (-4) h) ∧ (¬ 999 < v10 → zCi mJ13_bitCount_95d88 [.long (zJ (lA (h 47 4) v7))] zS0 h (fun x9 h9 => (zR (x9 * v6) ∧ (zR v9 ∧ (((x9 * v6) < v9 → zCv mX6_goStep [.ref 47, .ref 10, .int (zI v3)] zS0 h9 (fun h12 => RR mX11_until 0 0 81 [some (.ref 0), none, none, some (.int (zI v3)), none, none, some (.int (zI v6)), some (.long (zJ v7)), none, some (.int (zI v9)), some (.int (zI (v10 + 1)))] [] zS0 h12 (zQi zS0 K))) ∧ (¬ (x9 * v6) < v9 → K v10 h9))))))))) : RR mX11_until 0 0 81 [some (.ref 0), none, none, some (.int (zI v3)), none, none, some (.int (zI v6)), some (.long (zJ v7)), none, some (.int (zI v9)), some (.int (zI v10))] [] zS0 h (zQi zS0 K) := by
  refine r_iload (pc := 81) (x := v10) dX11_until_81 rfl ?_
  refine r_sipush (pc := 83) (x := 999) dX11_until_83 (by decide) ?_
  obtain ⟨hr8, w⟩ := w
  refine r_icmp_gt (pc := 86) (x := v10) (y := 999) (tgt := 131) dX11_until_86 (by decide) hr8 (by decide) (fun c => ?_) (fun c => ?_)
  · have w := w.1 (c)
    refine r_bipush (pc := 131) (x := (-4)) dX11_until_131 (by decide) ?_
    exact r_iret (st := []) (pc := 133) (x := (-4)) (ty := .int) dX11_until_133 rfl rfl rfl (by decide) ⟨rfl, _, rfl, w⟩
  · have w := w.2 (c)
    refine r_aload_n (pc := 89) (a := 0) dX11_until_89 rfl ?_
    refine r_getR (pc := 90) (b := 47) fl_X11_71 dX11_until_90 s0_0 rfl ?_
    refine r_getJ (pc := 93) (fi := 4) (x := (h 47 4)) fl_X11_328 dX11_until_93 s0_47 rfl (rfl) ?_
    refine r_lload (pc := 96) (x := v7) dX11_until_96 rfl ?_
    refine r_land (pc := 98) (x := (h 47 4)) (y := v7) dX11_until_98 ?_
    refine r_callS (μ2 := mJ13_bitCount_95d88) (pc := 99) (as := [.long (zJ (lA (h 47 4) v7))]) (st := []) ml_X11_332 sm_J13_bitCount_95d88 okJ13_bitCount_95d88 ⟨by decide, by decide⟩ dX11_until_99 (Nat.le_of_ble_eq_true rfl) rfl (Nat.le_of_ble_eq_true rfl) (by decide) (by decide) (zCC.mono w ?_)
    rintro r S' h9 ⟨rfl, x9, hr, w⟩
    subst hr
    show RR mX11_until 0 0 102 [some (.ref 0), none, none, some (.int (zI v3)), none, none, some (.int (zI v6)), some (.long (zJ v7)), none, some (.int (zI v9)), some (.int (zI v10))] [.int (zI x9)] zS0 h9 (zQi zS0 K)
    refine r_iload (pc := 102) (x := v6) dX11_until_102 rfl ?_
    refine r_imul (pc := 104) (x := x9) (y := v6) dX11_until_104 ?_
    refine r_iload (pc := 105) (x := v9) dX11_until_105 rfl ?_
    obtain ⟨hr10, w⟩ := w
    obtain ⟨hr11, w⟩ := w
    refine r_icmp_lt (pc := 107) (x := (x9 * v6)) (y := v9) (tgt := 113) dX11_until_107 (by decide) hr10 hr11 (fun c => ?_) (fun c => ?_)
    · have w := w.1 (c)
      refine r_aload_n (pc := 113) (a := 0) dX11_until_113 rfl ?_
      refine r_getR (pc := 114) (b := 47) fl_X11_71 dX11_until_114 s0_0 rfl ?_
      refine r_aload_n (pc := 117) (a := 0) dX11_until_117 rfl ?_
      refine r_getR (pc := 118) (b := 10) fl_X11_26 dX11_until_118 s0_0 rfl ?_
      refine r_iload_n (pc := 121) (x := v3) dX11_until_121 rfl ?_
      refine r_callV (μ2 := mX6_goStep) (pc := 122) (as := [.ref 10, .int (zI v3)]) (st := []) rfl s0_47 ml_X11_347 im_X6_goStep se_X6_goStep okX6_goStep ⟨by decide, by decide⟩ dX11_until_122 (Nat.le_of_ble_eq_true rfl) rfl (Nat.le_of_ble_eq_true rfl) (by decide) (by decide) (zCC.mono w ?_)
      rintro r S' h12 ⟨rfl, hr, w⟩
      subst hr
      show RR mX11_until 0 0 125 [some (.ref 0), none, none, some (.int (zI v3)), none, none, some (.int (zI v6)), some (.long (zJ v7)), none, some (.int (zI v9)), some (.int (zI v10))] [] zS0 h12 (zQi zS0 K)
      refine r_iinc (pc := 125) (x := v10) (L' := [some (.ref 0), none, none, some (.int (zI v3)), none, none, some (.int (zI v6)), some (.long (zJ v7)), none, some (.int (zI v9)), some (.int (zI (v10 + 1)))]) dX11_until_125 rfl (by decide) rfl ?_
      refine r_goto (pc := 128) (tgt := 81) dX11_until_128 (by decide) ?_
      exact w
    · have w := w.2 (c)
      refine r_iload (pc := 110) (x := v10) dX11_until_110 rfl ?_
      exact r_iret (st := []) (pc := 112) (x := v10) (ty := .int) dX11_until_112 rfl rfl rfl (by decide) ⟨rfl, _, rfl, w⟩

set_option maxRecDepth 100000 in
set_option maxHeartbeats 4000000 in
theorem wX11_never {h : zMm} {K : Int → zMm → Prop} {v1 : Int} {v2 : Int} {v3 : Int} (w : zCb mX11_isRobot [.int (zI v1), .int (zI v2), .int (zI v3), .int (zI 2)] zS0 h (fun b1 h1 => ((b1 = true → zCb mX3_isOpen [.ref 10, .int (zI v1)] zS0 h1 (fun b2 h2 => ((b2 = true → zCv mX6_standAt [.ref 47, .int (zI v1), .int (zI v2), .int (zI 0)] zS0 h2 (fun h3 => zCv mX6_goSteps [.ref 47, .ref 10, .int (zI v3), .int (zI 144)] zS0 h3 (fun h4 => zCl mX3_grassBits [.ref 10] zS0 h4 (fun x5 h5 => K (lA x5 (lX (h5 47 4) (-1))) h5)))) ∧ (b2 = false → K (-2) h2)))) ∧ (b1 = false → K (-1) h1)))) : zCl mX11_never [.ref 0, .int (zI v1), .int (zI v2), .int (zI v3)] zS0 h K := by
  show RR mX11_never 0 0 0 [some (.ref 0), some (.int (zI v1)), some (.int (zI v2)), some (.int (zI v3))] [] zS0 h (zQl zS0 K)
  refine r_iload_n (pc := 0) (x := v1) dX11_never_0 rfl ?_
  refine r_iload_n (pc := 1) (x := v2) dX11_never_1 rfl ?_
  refine r_iload_n (pc := 2) (x := v3) dX11_never_2 rfl ?_
  refine r_iconst (pc := 3) dX11_never_3 ?_
  refine r_callS (μ2 := mX11_isRobot) (pc := 4) (as := [.int (zI v1), .int (zI v2), .int (zI v3), .int (zI 2)]) (st := []) ml_X11_307 sm_X11_isRobot okX11_isRobot ⟨by decide, by decide⟩ dX11_never_4 (Nat.le_of_ble_eq_true rfl) rfl (Nat.le_of_ble_eq_true rfl) (by decide) (by decide) (zCC.mono w ?_)
  rintro r S' h1 ⟨rfl, b1, hr, w⟩
  subst hr
  show RR mX11_never 0 0 7 [some (.ref 0), some (.int (zI v1)), some (.int (zI v2)), some (.int (zI v3))] [.int (zI (bI b1))] zS0 h1 (zQl zS0 K)
  refine r_if_ne (pc := 7) (x := (bI b1)) (tgt := 14) dX11_never_7 (by decide) (bI_R _) (fun c => ?_) (fun c => ?_)
  · have w := w.1 (bI_n.mp c)
    refine r_aload_n (pc := 14) (a := 0) dX11_never_14 rfl ?_
    refine r_getR (pc := 15) (b := 10) fl_X11_26 dX11_never_15 s0_0 rfl ?_
    refine r_iload_n (pc := 18) (x := v1) dX11_never_18 rfl ?_
    refine r_callV (μ2 := mX3_isOpen) (pc := 19) (as := [.int (zI v1)]) (st := []) rfl s0_10 ml_X11_311 im_X3_isOpen se_X3_isOpen okX3_isOpen ⟨by decide, by decide⟩ dX11_never_19 (Nat.le_of_ble_eq_true rfl) rfl (Nat.le_of_ble_eq_true rfl) (by decide) (by decide) (zCC.mono w ?_)
    rintro r S' h2 ⟨rfl, b2, hr, w⟩
    subst hr
    show RR mX11_never 0 0 22 [some (.ref 0), some (.int (zI v1)), some (.int (zI v2)), some (.int (zI v3))] [.int (zI (bI b2))] zS0 h2 (zQl zS0 K)
    refine r_if_ne (pc := 22) (x := (bI b2)) (tgt := 29) dX11_never_22 (by decide) (bI_R _) (fun c => ?_) (fun c => ?_)
    · have w := w.1 (bI_n.mp c)
      refine r_aload_n (pc := 29) (a := 0) dX11_never_29 rfl ?_
      refine r_getR (pc := 30) (b := 47) fl_X11_71 dX11_never_30 s0_0 rfl ?_
      refine r_iload_n (pc := 33) (x := v1) dX11_never_33 rfl ?_
      refine r_iload_n (pc := 34) (x := v2) dX11_never_34 rfl ?_
      refine r_iconst (pc := 35) dX11_never_35 ?_
      refine r_callV (μ2 := mX6_standAt) (pc := 36) (as := [.int (zI v1), .int (zI v2), .int (zI 0)]) (st := []) rfl s0_47 ml_X11_316 im_X6_standAt se_X6_standAt okX6_standAt ⟨by decide, by decide⟩ dX11_never_36 (Nat.le_of_ble_eq_true rfl) rfl (Nat.le_of_ble_eq_true rfl) (by decide) (by decide) (zCC.mono w ?_)
      rintro r S' h3 ⟨rfl, hr, w⟩
      subst hr
      show RR mX11_never 0 0 39 [some (.ref 0), some (.int (zI v1)), some (.int (zI v2)), some (.int (zI v3))] [] zS0 h3 (zQl zS0 K)
      refine r_aload_n (pc := 39) (a := 0) dX11_never_39 rfl ?_
      refine r_getR (pc := 40) (b := 47) fl_X11_71 dX11_never_40 s0_0 rfl ?_
      refine r_aload_n (pc := 43) (a := 0) dX11_never_43 rfl ?_
      refine r_getR (pc := 44) (b := 10) fl_X11_26 dX11_never_44 s0_0 rfl ?_
      refine r_iload_n (pc := 47) (x := v3) dX11_never_47 rfl ?_
      refine r_sipush (pc := 48) (x := 144) dX11_never_48 (by decide) ?_
      refine r_callV (μ2 := mX6_goSteps) (pc := 51) (as := [.ref 10, .int (zI v3), .int (zI 144)]) (st := []) rfl s0_47 ml_X11_320 im_X6_goSteps se_X6_goSteps okX6_goSteps ⟨by decide, by decide⟩ dX11_never_51 (Nat.le_of_ble_eq_true rfl) rfl (Nat.le_of_ble_eq_true rfl) (by decide) (by decide) (zCC.mono w ?_)
      rintro r S' h4 ⟨rfl, hr, w⟩
      subst hr
      show RR mX11_never 0 0 54 [some (.ref 0), some (.int (zI v1)), some (.int (zI v2)), some (.int (zI v3))] [] zS0 h4 (zQl zS0 K)
      refine r_aload_n (pc := 54) (a := 0) dX11_never_54 rfl ?_
      refine r_getR (pc := 55) (b := 10) fl_X11_26 dX11_never_55 s0_0 rfl ?_
      refine r_callV (μ2 := mX3_grassBits) (pc := 58) (as := []) (st := []) rfl s0_10 ml_X11_344 im_X3_grassBits se_X3_grassBits okX3_grassBits ⟨by decide, by decide⟩ dX11_never_58 (Nat.le_of_ble_eq_true rfl) rfl (Nat.le_of_ble_eq_true rfl) (by decide) (by decide) (zCC.mono w ?_)
      rintro r S' h5 ⟨rfl, x5, hr, w⟩
      subst hr
      show RR mX11_never 0 0 61 [some (.ref 0), some (.int (zI v1)), some (.int (zI v2)), some (.int (zI v3))] [.long (zJ x5)] zS0 h5 (zQl zS0 K)
      refine r_aload_n (pc := 61) (a := 0) dX11_never_61 rfl ?_
      refine r_getR (pc := 62) (b := 47) fl_X11_71 dX11_never_62 s0_0 rfl ?_
      refine r_getJ (pc := 65) (fi := 4) (x := (h5 47 4)) fl_X11_328 dX11_never_65 s0_47 rfl (rfl) ?_
      refine r_ldcL (pc := 68) (x := (-1)) dX11_never_68 kl_X11_221 ?_
      refine r_lxor (pc := 71) (x := (h5 47 4)) (y := (-1)) dX11_never_71 ?_
      refine r_land (pc := 72) (x := x5) (y := (lX (h5 47 4) (-1))) dX11_never_72 ?_
      exact r_lret (st := []) (pc := 73) (x := (lA x5 (lX (h5 47 4) (-1)))) dX11_never_73 rfl rfl (by decide) ⟨rfl, _, rfl, w⟩
    · have w := w.2 (bI_0.mp c)
      refine r_ldcL (pc := 25) (x := (-2)) dX11_never_25 kl_X11_314 ?_
      exact r_lret (st := []) (pc := 28) (x := (-2)) dX11_never_28 rfl rfl (by decide) ⟨rfl, _, rfl, w⟩
  · have w := w.2 (bI_0.mp c)
    refine r_ldcL (pc := 10) (x := (-1)) dX11_never_10 kl_X11_221 ?_
    exact r_lret (st := []) (pc := 13) (x := (-1)) dX11_never_13 rfl rfl (by decide) ⟨rfl, _, rfl, w⟩

set_option maxRecDepth 100000 in
set_option maxHeartbeats 4000000 in
theorem wX11_best {h : zMm} {K : Int → zMm → Prop} {v1 : Int} {v2 : Int} {v3 : Int} {v4 : Int} {v5 : Int} (w : zCb mX11_isRobot [.int (zI v1), .int (zI v2), .int (zI 0), .int (zI 3)] zS0 h (fun b1 h1 => ((b1 = false → K (-1) h1) ∧ (b1 = true → zCb mX11_isWithin [.int (zI v4), .int (zI 0), .int (zI 999)] zS0 h1 (fun b2 h2 => ((b2 = false → K (-1) h2) ∧ (b2 = true → zCb mX11_isWithin [.int (zI v5), .int (zI 0), .int (zI 1)] zS0 h2 (fun b3 h3 => ((b3 = true → zCb mX3_isOpen [.ref 10, .int (zI v1)] zS0 h3 (fun b4 h4 => ((b4 = true → RR mX11_best 0 0 57 [some (.ref 0), some (.int (zI v1)), some (.int (zI v2)), some (.int (zI v3)), some (.int (zI v4)), some (.int (zI v5)), some (.int (zI 0)), some (.int (zI (-1))), some (.int (zI 0)), none] [] zS0 h4 (zQi zS0 K)) ∧ (b4 = false → K (-2) h4)))) ∧ (b3 = false → K (-1) h3)))))))))) : zCi mX11_best [.ref 0, .int (zI v1), .int (zI v2), .int (zI v3), .int (zI v4), .int (zI v5)] zS0 h K := by
  show RR mX11_best 0 0 0 [some (.ref 0), some (.int (zI v1)), some (.int (zI v2)), some (.int (zI v3)), some (.int (zI v4)), some (.int (zI v5)), none, none, none, none] [] zS0 h (zQi zS0 K)
  refine r_iload_n (pc := 0) (x := v1) dX11_best_0 rfl ?_
  refine r_iload_n (pc := 1) (x := v2) dX11_best_1 rfl ?_
  refine r_iconst (pc := 2) dX11_best_2 ?_
  refine r_iconst (pc := 3) dX11_best_3 ?_
  refine r_callS (μ2 := mX11_isRobot) (pc := 4) (as := [.int (zI v1), .int (zI v2), .int (zI 0), .int (zI 3)]) (st := []) ml_X11_307 sm_X11_isRobot okX11_isRobot ⟨by decide, by decide⟩ dX11_best_4 (Nat.le_of_ble_eq_true rfl) rfl (Nat.le_of_ble_eq_true rfl) (by decide) (by decide) (zCC.mono w ?_)
  rintro r S' h1 ⟨rfl, b1, hr, w⟩
  subst hr
  show RR mX11_best 0 0 7 [some (.ref 0), some (.int (zI v1)), some (.int (zI v2)), some (.int (zI v3)), some (.int (zI v4)), some (.int (zI v5)), none, none, none, none] [.int (zI (bI b1))] zS0 h1 (zQi zS0 K)
  refine r_if_eq (pc := 7) (x := (bI b1)) (tgt := 32) dX11_best_7 (by decide) (bI_R _) (fun c => ?_) (fun c => ?_)
  · have w := w.1 (bI_0.mp c)
    refine r_iconst (pc := 32) dX11_best_32 ?_
    exact r_iret (st := []) (pc := 33) (x := (-1)) (ty := .int) dX11_best_33 rfl rfl rfl (by decide) ⟨rfl, _, rfl, w⟩
  · have w := w.2 (bI_n.mp c)
    refine r_iload (pc := 10) (x := v4) dX11_best_10 rfl ?_
    refine r_iconst (pc := 12) dX11_best_12 ?_
    refine r_sipush (pc := 13) (x := 999) dX11_best_13 (by decide) ?_
    refine r_callS (μ2 := mX11_isWithin) (pc := 16) (as := [.int (zI v4), .int (zI 0), .int (zI 999)]) (st := []) ml_X11_138 sm_X11_isWithin okX11_isWithin ⟨by decide, by decide⟩ dX11_best_16 (Nat.le_of_ble_eq_true rfl) rfl (Nat.le_of_ble_eq_true rfl) (by decide) (by decide) (zCC.mono w ?_)
    rintro r S' h2 ⟨rfl, b2, hr, w⟩
    subst hr
    show RR mX11_best 0 0 19 [some (.ref 0), some (.int (zI v1)), some (.int (zI v2)), some (.int (zI v3)), some (.int (zI v4)), some (.int (zI v5)), none, none, none, none] [.int (zI (bI b2))] zS0 h2 (zQi zS0 K)
    refine r_if_eq (pc := 19) (x := (bI b2)) (tgt := 32) dX11_best_19 (by decide) (bI_R _) (fun c => ?_) (fun c => ?_)
    · have w := w.1 (bI_0.mp c)
      refine r_iconst (pc := 32) dX11_best_32 ?_
      exact r_iret (st := []) (pc := 33) (x := (-1)) (ty := .int) dX11_best_33 rfl rfl rfl (by decide) ⟨rfl, _, rfl, w⟩
    · have w := w.2 (bI_n.mp c)
      refine r_iload (pc := 22) (x := v5) dX11_best_22 rfl ?_
      refine r_iconst (pc := 24) dX11_best_24 ?_
      refine r_iconst (pc := 25) dX11_best_25 ?_
      refine r_callS (μ2 := mX11_isWithin) (pc := 26) (as := [.int (zI v5), .int (zI 0), .int (zI 1)]) (st := []) ml_X11_138 sm_X11_isWithin okX11_isWithin ⟨by decide, by decide⟩ dX11_best_26 (Nat.le_of_ble_eq_true rfl) rfl (Nat.le_of_ble_eq_true rfl) (by decide) (by decide) (zCC.mono w ?_)
      rintro r S' h3 ⟨rfl, b3, hr, w⟩
      subst hr
      show RR mX11_best 0 0 29 [some (.ref 0), some (.int (zI v1)), some (.int (zI v2)), some (.int (zI v3)), some (.int (zI v4)), some (.int (zI v5)), none, none, none, none] [.int (zI (bI b3))] zS0 h3 (zQi zS0 K)
      refine r_if_ne (pc := 29) (x := (bI b3)) (tgt := 34) dX11_best_29 (by decide) (bI_R _) (fun c => ?_) (fun c => ?_)
      · have w := w.1 (bI_n.mp c)
        refine r_aload_n (pc := 34) (a := 0) dX11_best_34 rfl ?_
        refine r_getR (pc := 35) (b := 10) fl_X11_26 dX11_best_35 s0_0 rfl ?_
        refine r_iload_n (pc := 38) (x := v1) dX11_best_38 rfl ?_
        refine r_callV (μ2 := mX3_isOpen) (pc := 39) (as := [.int (zI v1)]) (st := []) rfl s0_10 ml_X11_311 im_X3_isOpen se_X3_isOpen okX3_isOpen ⟨by decide, by decide⟩ dX11_best_39 (Nat.le_of_ble_eq_true rfl) rfl (Nat.le_of_ble_eq_true rfl) (by decide) (by decide) (zCC.mono w ?_)
        rintro r S' h4 ⟨rfl, b4, hr, w⟩
        subst hr
        show RR mX11_best 0 0 42 [some (.ref 0), some (.int (zI v1)), some (.int (zI v2)), some (.int (zI v3)), some (.int (zI v4)), some (.int (zI v5)), none, none, none, none] [.int (zI (bI b4))] zS0 h4 (zQi zS0 K)
        refine r_if_ne (pc := 42) (x := (bI b4)) (tgt := 48) dX11_best_42 (by decide) (bI_R _) (fun c => ?_) (fun c => ?_)
        · have w := w.1 (bI_n.mp c)
          refine r_iconst (pc := 48) dX11_best_48 ?_
          refine r_istore (pc := 49) (L' := [some (.ref 0), some (.int (zI v1)), some (.int (zI v2)), some (.int (zI v3)), some (.int (zI v4)), some (.int (zI v5)), some (.int (zI 0)), none, none, none]) dX11_best_49 (by decide) rfl ?_
          refine r_iconst (pc := 51) dX11_best_51 ?_
          refine r_istore (pc := 52) (L' := [some (.ref 0), some (.int (zI v1)), some (.int (zI v2)), some (.int (zI v3)), some (.int (zI v4)), some (.int (zI v5)), some (.int (zI 0)), some (.int (zI (-1))), none, none]) dX11_best_52 (by decide) rfl ?_
          refine r_iconst (pc := 54) dX11_best_54 ?_
          refine r_istore (pc := 55) (L' := [some (.ref 0), some (.int (zI v1)), some (.int (zI v2)), some (.int (zI v3)), some (.int (zI v4)), some (.int (zI v5)), some (.int (zI 0)), some (.int (zI (-1))), some (.int (zI 0)), none]) dX11_best_55 (by decide) rfl ?_
          exact w
        · have w := w.2 (bI_0.mp c)
          refine r_bipush (pc := 45) (x := (-2)) dX11_best_45 (by decide) ?_
          exact r_iret (st := []) (pc := 47) (x := (-2)) (ty := .int) dX11_best_47 rfl rfl rfl (by decide) ⟨rfl, _, rfl, w⟩
      · have w := w.2 (bI_0.mp c)
        refine r_iconst (pc := 32) dX11_best_32 ?_
        exact r_iret (st := []) (pc := 33) (x := (-1)) (ty := .int) dX11_best_33 rfl rfl rfl (by decide) ⟨rfl, _, rfl, w⟩

set_option maxRecDepth 100000 in
set_option maxHeartbeats 4000000 in
theorem bX11_best_57 {h : zMm} {K : Int → zMm → Prop} {v1 : Int} {v2 : Int} {v3 : Int} {v4 : Int} {v5 : Int} {v6 : Int} {v7 : Int} {v8 : Int} (w : (zR v8 ∧ ((3 < v8 → (zR v5 ∧ K (if v5 = 0 then v6 else v7) h)) ∧ (¬ 3 < v8 → zCv mX6_standAt [.ref 47, .int (zI v1), .int (zI v2), .int (zI v3)] zS0 h (fun h8 => zCv mX6_goSteps [.ref 47, .ref 10, .int (zI v8), .int (zI v4)] zS0 h8 (fun h9 => zCl mX3_grassBits [.ref 10] zS0 h9 (fun x10 h10 => zCi mJ13_bitCount_95d88 [.long (zJ (lA (h9 47 4) x10))] zS0 h10 (fun x11 h11 => (zR x11 ∧ (zR v7 ∧ RR mX11_best 0 0 57 [some (.ref 0), some (.int (zI v1)), some (.int (zI v2)), some (.int (zI v3)), some (.int (zI v4)), some (.int (zI v5)), some (.int (zI (if x11 ≤ v7 then v6 else v8))), some (.int (zI (if x11 ≤ v7 then v7 else x11))), some (.int (zI (v8 + 1))), none] [] zS0 h11 (zQi zS0 K))))))))))) : RR mX11_best 0 0 57 [some (.ref 0), some (.int (zI v1)), some (.int (zI v2)), some (.int (zI v3)), some (.int (zI v4)), some (.int (zI v5)), some (.int (zI v6)), some (.int (zI v7)), some (.int (zI v8)), none] [] zS0 h (zQi zS0 K) := by
  refine r_iload (pc := 57) (x := v8) dX11_best_57 rfl ?_
  refine r_iconst (pc := 59) dX11_best_59 ?_
  obtain ⟨hr5, w⟩ := w
  refine r_icmp_gt (pc := 60) (x := v8) (y := 3) (tgt := 129) dX11_best_60 (by decide) hr5 (by decide) (fun c => ?_) (fun c => ?_)
  · have w := w.1 (c)
    refine r_iload (pc := 129) (x := v5) dX11_best_129 rfl ?_
    obtain ⟨hr6, w⟩ := w
    have kk7 : RR mX11_best 0 0 141 [some (.ref 0), some (.int (zI v1)), some (.int (zI v2)), some (.int (zI v3)), some (.int (zI v4)), some (.int (zI v5)), some (.int (zI v6)), some (.int (zI v7)), some (.int (zI v8)), none] [.int (zI (if v5 = 0 then v6 else v7))] zS0 h (zQi zS0 K) := by
      exact r_iret (st := []) (pc := 141) (x := (if v5 = 0 then v6 else v7)) (ty := .int) dX11_best_141 rfl rfl rfl (by decide) ⟨rfl, _, rfl, w⟩
    refine r_if_ne (pc := 131) (x := v5) (tgt := 139) dX11_best_131 (by decide) hr6 (fun c => ?_) (fun c => ?_)
    · refine r_iload (pc := 139) (x := v7) dX11_best_139 rfl ?_
      simp only [if_neg (c)] at kk7 ⊢
      exact kk7
    · refine r_iload (pc := 134) (x := v6) dX11_best_134 rfl ?_
      refine r_goto (pc := 136) (tgt := 141) dX11_best_136 (by decide) ?_
      simp only [if_pos (c)] at kk7 ⊢
      exact kk7
  · have w := w.2 (c)
    refine r_aload_n (pc := 63) (a := 0) dX11_best_63 rfl ?_
    refine r_getR (pc := 64) (b := 47) fl_X11_71 dX11_best_64 s0_0 rfl ?_
    refine r_iload_n (pc := 67) (x := v1) dX11_best_67 rfl ?_
    refine r_iload_n (pc := 68) (x := v2) dX11_best_68 rfl ?_
    refine r_iload_n (pc := 69) (x := v3) dX11_best_69 rfl ?_
    refine r_callV (μ2 := mX6_standAt) (pc := 70) (as := [.int (zI v1), .int (zI v2), .int (zI v3)]) (st := []) rfl s0_47 ml_X11_316 im_X6_standAt se_X6_standAt okX6_standAt ⟨by decide, by decide⟩ dX11_best_70 (Nat.le_of_ble_eq_true rfl) rfl (Nat.le_of_ble_eq_true rfl) (by decide) (by decide) (zCC.mono w ?_)
    rintro r S' h8 ⟨rfl, hr, w⟩
    subst hr
    show RR mX11_best 0 0 73 [some (.ref 0), some (.int (zI v1)), some (.int (zI v2)), some (.int (zI v3)), some (.int (zI v4)), some (.int (zI v5)), some (.int (zI v6)), some (.int (zI v7)), some (.int (zI v8)), none] [] zS0 h8 (zQi zS0 K)
    refine r_aload_n (pc := 73) (a := 0) dX11_best_73 rfl ?_
    refine r_getR (pc := 74) (b := 47) fl_X11_71 dX11_best_74 s0_0 rfl ?_
    refine r_aload_n (pc := 77) (a := 0) dX11_best_77 rfl ?_
    refine r_getR (pc := 78) (b := 10) fl_X11_26 dX11_best_78 s0_0 rfl ?_
    refine r_iload (pc := 81) (x := v8) dX11_best_81 rfl ?_
    refine r_iload (pc := 83) (x := v4) dX11_best_83 rfl ?_
    refine r_callV (μ2 := mX6_goSteps) (pc := 85) (as := [.ref 10, .int (zI v8), .int (zI v4)]) (st := []) rfl s0_47 ml_X11_320 im_X6_goSteps se_X6_goSteps okX6_goSteps ⟨by decide, by decide⟩ dX11_best_85 (Nat.le_of_ble_eq_true rfl) rfl (Nat.le_of_ble_eq_true rfl) (by decide) (by decide) (zCC.mono w ?_)
    rintro r S' h9 ⟨rfl, hr, w⟩
    subst hr
    show RR mX11_best 0 0 88 [some (.ref 0), some (.int (zI v1)), some (.int (zI v2)), some (.int (zI v3)), some (.int (zI v4)), some (.int (zI v5)), some (.int (zI v6)), some (.int (zI v7)), some (.int (zI v8)), none] [] zS0 h9 (zQi zS0 K)
    refine r_aload_n (pc := 88) (a := 0) dX11_best_88 rfl ?_
    refine r_getR (pc := 89) (b := 47) fl_X11_71 dX11_best_89 s0_0 rfl ?_
    refine r_getJ (pc := 92) (fi := 4) (x := (h9 47 4)) fl_X11_328 dX11_best_92 s0_47 rfl (rfl) ?_
    refine r_aload_n (pc := 95) (a := 0) dX11_best_95 rfl ?_
    refine r_getR (pc := 96) (b := 10) fl_X11_26 dX11_best_96 s0_0 rfl ?_
    refine r_callV (μ2 := mX3_grassBits) (pc := 99) (as := []) (st := [.long (zJ (h9 47 4))]) rfl s0_10 ml_X11_344 im_X3_grassBits se_X3_grassBits okX3_grassBits ⟨by decide, by decide⟩ dX11_best_99 (Nat.le_of_ble_eq_true rfl) rfl (Nat.le_of_ble_eq_true rfl) (by decide) (by decide) (zCC.mono w ?_)
    rintro r S' h10 ⟨rfl, x10, hr, w⟩
    subst hr
    show RR mX11_best 0 0 102 [some (.ref 0), some (.int (zI v1)), some (.int (zI v2)), some (.int (zI v3)), some (.int (zI v4)), some (.int (zI v5)), some (.int (zI v6)), some (.int (zI v7)), some (.int (zI v8)), none] [.long (zJ x10), .long (zJ (h9 47 4))] zS0 h10 (zQi zS0 K)
    refine r_land (pc := 102) (x := (h9 47 4)) (y := x10) dX11_best_102 ?_
    refine r_callS (μ2 := mJ13_bitCount_95d88) (pc := 103) (as := [.long (zJ (lA (h9 47 4) x10))]) (st := []) ml_X11_332 sm_J13_bitCount_95d88 okJ13_bitCount_95d88 ⟨by decide, by decide⟩ dX11_best_103 (Nat.le_of_ble_eq_true rfl) rfl (Nat.le_of_ble_eq_true rfl) (by decide) (by decide) (zCC.mono w ?_)
    rintro r S' h11 ⟨rfl, x11, hr, w⟩
    subst hr
    show RR mX11_best 0 0 106 [some (.ref 0), some (.int (zI v1)), some (.int (zI v2)), some (.int (zI v3)), some (.int (zI v4)), some (.int (zI v5)), some (.int (zI v6)), some (.int (zI v7)), some (.int (zI v8)), none] [.int (zI x11)] zS0 h11 (zQi zS0 K)
    refine r_istore (pc := 106) (L' := [some (.ref 0), some (.int (zI v1)), some (.int (zI v2)), some (.int (zI v3)), some (.int (zI v4)), some (.int (zI v5)), some (.int (zI v6)), some (.int (zI v7)), some (.int (zI v8)), some (.int (zI x11))]) dX11_best_106 (by decide) rfl ?_
    refine r_iload (pc := 108) (x := x11) dX11_best_108 rfl ?_
    refine r_iload (pc := 110) (x := v7) dX11_best_110 rfl ?_
    obtain ⟨hr12, w⟩ := w
    obtain ⟨hr13, w⟩ := w
    have kk14 : RR mX11_best 0 0 123 [some (.ref 0), some (.int (zI v1)), some (.int (zI v2)), some (.int (zI v3)), some (.int (zI v4)), some (.int (zI v5)), some (.int (zI (if x11 ≤ v7 then v6 else v8))), some (.int (zI (if x11 ≤ v7 then v7 else x11))), some (.int (zI v8)), some (.int (zI x11))] [] zS0 h11 (zQi zS0 K) := by
      refine r_iinc (pc := 123) (x := v8) (L' := [some (.ref 0), some (.int (zI v1)), some (.int (zI v2)), some (.int (zI v3)), some (.int (zI v4)), some (.int (zI v5)), some (.int (zI (if x11 ≤ v7 then v6 else v8))), some (.int (zI (if x11 ≤ v7 then v7 else x11))), some (.int (zI (v8 + 1))), some (.int (zI x11))]) dX11_best_123 rfl (by decide) rfl ?_
      refine r_goto (pc := 126) (tgt := 57) dX11_best_126 (by decide) ?_
      exact RR.sub (L' := [some (.ref 0), some (.int (zI v1)), some (.int (zI v2)), some (.int (zI v3)), some (.int (zI v4)), some (.int (zI v5)), some (.int (zI (if x11 ≤ v7 then v6 else v8))), some (.int (zI (if x11 ≤ v7 then v7 else x11))), some (.int (zI (v8 + 1))), none]) (zSb_of (⟨rfl, ⟨rfl, ⟨rfl, ⟨rfl, ⟨rfl, ⟨rfl, ⟨rfl, ⟨rfl, ⟨rfl, trivial⟩⟩⟩⟩⟩⟩⟩⟩⟩)) w
    refine r_icmp_le (pc := 112) (x := x11) (y := v7) (tgt := 123) dX11_best_112 (by decide) hr12 hr13 (fun c => ?_) (fun c => ?_)
    · simp only [if_pos (c)] at kk14 ⊢
      exact kk14
    · refine r_iload (pc := 115) (x := x11) dX11_best_115 rfl ?_
      refine r_istore (pc := 117) (L' := [some (.ref 0), some (.int (zI v1)), some (.int (zI v2)), some (.int (zI v3)), some (.int (zI v4)), some (.int (zI v5)), some (.int (zI v6)), some (.int (zI x11)), some (.int (zI v8)), some (.int (zI x11))]) dX11_best_117 (by decide) rfl ?_
      refine r_iload (pc := 119) (x := v8) dX11_best_119 rfl ?_
      refine r_istore (pc := 121) (L' := [some (.ref 0), some (.int (zI v1)), some (.int (zI v2)), some (.int (zI v3)), some (.int (zI v4)), some (.int (zI v5)), some (.int (zI v8)), some (.int (zI x11)), some (.int (zI v8)), some (.int (zI x11))]) dX11_best_121 (by decide) rfl ?_
      simp only [if_neg (c)] at kk14 ⊢
      exact kk14

set_option maxRecDepth 100000 in
set_option maxHeartbeats 4000000 in
theorem wX11_odds {h : zMm} {K : Int → zMm → Prop} {v1 : Int} {v2 : Int} {v3 : Int} {v4 : Int} {v5 : Int} (w : zCb mX11_isRobot [.int (zI v1), .int (zI v2), .int (zI 0), .int (zI 3)] zS0 h (fun b1 h1 => ((b1 = false → K (-1) h1) ∧ (b1 = true → zCb mX11_isCell [.int (zI v3)] zS0 h1 (fun b2 h2 => ((b2 = true → zCb mX11_isWithin [.int (zI v4), .int (zI 0), .int (zI 20)] zS0 h2 (fun b3 h3 => ((b3 = false → K (-1) h3) ∧ (b3 = true → zCb mX11_isWithin [.int (zI v5), .int (zI 0), .int (zI 1)] zS0 h3 (fun b4 h4 => ((b4 = true → zCb mX3_isOpen [.ref 10, .int (zI v1)] zS0 h4 (fun b5 h5 => ((b5 = true → zCv mX0_weigh [.ref 48, .ref 10, .int (zI ((v1 * 4) + v2)), .int (zI v3), .int (zI v4)] zS0 h5 (fun h6 => (zR v5 ∧ K (if v5 = 0 then (h6 48 3) else (h6 48 4)) h6))) ∧ (b5 = false → K (-2) h5)))) ∧ (b4 = false → K (-1) h4))))))) ∧ (b2 = false → K (-1) h2))))))) : zCl mX11_odds [.ref 0, .int (zI v1), .int (zI v2), .int (zI v3), .int (zI v4), .int (zI v5)] zS0 h K := by
  show RR mX11_odds 0 0 0 [some (.ref 0), some (.int (zI v1)), some (.int (zI v2)), some (.int (zI v3)), some (.int (zI v4)), some (.int (zI v5))] [] zS0 h (zQl zS0 K)
  refine r_iload_n (pc := 0) (x := v1) dX11_odds_0 rfl ?_
  refine r_iload_n (pc := 1) (x := v2) dX11_odds_1 rfl ?_
  refine r_iconst (pc := 2) dX11_odds_2 ?_
  refine r_iconst (pc := 3) dX11_odds_3 ?_
  refine r_callS (μ2 := mX11_isRobot) (pc := 4) (as := [.int (zI v1), .int (zI v2), .int (zI 0), .int (zI 3)]) (st := []) ml_X11_307 sm_X11_isRobot okX11_isRobot ⟨by decide, by decide⟩ dX11_odds_4 (Nat.le_of_ble_eq_true rfl) rfl (Nat.le_of_ble_eq_true rfl) (by decide) (by decide) (zCC.mono w ?_)
  rintro r S' h1 ⟨rfl, b1, hr, w⟩
  subst hr
  show RR mX11_odds 0 0 7 [some (.ref 0), some (.int (zI v1)), some (.int (zI v2)), some (.int (zI v3)), some (.int (zI v4)), some (.int (zI v5))] [.int (zI (bI b1))] zS0 h1 (zQl zS0 K)
  refine r_if_eq (pc := 7) (x := (bI b1)) (tgt := 17) dX11_odds_7 (by decide) (bI_R _) (fun c => ?_) (fun c => ?_)
  · have w := w.1 (bI_0.mp c)
    refine r_ldcL (pc := 17) (x := (-1)) dX11_odds_17 kl_X11_221 ?_
    exact r_lret (st := []) (pc := 20) (x := (-1)) dX11_odds_20 rfl rfl (by decide) ⟨rfl, _, rfl, w⟩
  · have w := w.2 (bI_n.mp c)
    refine r_iload_n (pc := 10) (x := v3) dX11_odds_10 rfl ?_
    refine r_callS (μ2 := mX11_isCell) (pc := 11) (as := [.int (zI v3)]) (st := []) ml_X11_146 sm_X11_isCell okX11_isCell ⟨by decide, by decide⟩ dX11_odds_11 (Nat.le_of_ble_eq_true rfl) rfl (Nat.le_of_ble_eq_true rfl) (by decide) (by decide) (zCC.mono w ?_)
    rintro r S' h2 ⟨rfl, b2, hr, w⟩
    subst hr
    show RR mX11_odds 0 0 14 [some (.ref 0), some (.int (zI v1)), some (.int (zI v2)), some (.int (zI v3)), some (.int (zI v4)), some (.int (zI v5))] [.int (zI (bI b2))] zS0 h2 (zQl zS0 K)
    refine r_if_ne (pc := 14) (x := (bI b2)) (tgt := 21) dX11_odds_14 (by decide) (bI_R _) (fun c => ?_) (fun c => ?_)
    · have w := w.1 (bI_n.mp c)
      refine r_iload (pc := 21) (x := v4) dX11_odds_21 rfl ?_
      refine r_iconst (pc := 23) dX11_odds_23 ?_
      refine r_bipush (pc := 24) (x := 20) dX11_odds_24 (by decide) ?_
      refine r_callS (μ2 := mX11_isWithin) (pc := 26) (as := [.int (zI v4), .int (zI 0), .int (zI 20)]) (st := []) ml_X11_138 sm_X11_isWithin okX11_isWithin ⟨by decide, by decide⟩ dX11_odds_26 (Nat.le_of_ble_eq_true rfl) rfl (Nat.le_of_ble_eq_true rfl) (by decide) (by decide) (zCC.mono w ?_)
      rintro r S' h3 ⟨rfl, b3, hr, w⟩
      subst hr
      show RR mX11_odds 0 0 29 [some (.ref 0), some (.int (zI v1)), some (.int (zI v2)), some (.int (zI v3)), some (.int (zI v4)), some (.int (zI v5))] [.int (zI (bI b3))] zS0 h3 (zQl zS0 K)
      refine r_if_eq (pc := 29) (x := (bI b3)) (tgt := 42) dX11_odds_29 (by decide) (bI_R _) (fun c => ?_) (fun c => ?_)
      · have w := w.1 (bI_0.mp c)
        refine r_ldcL (pc := 42) (x := (-1)) dX11_odds_42 kl_X11_221 ?_
        exact r_lret (st := []) (pc := 45) (x := (-1)) dX11_odds_45 rfl rfl (by decide) ⟨rfl, _, rfl, w⟩
      · have w := w.2 (bI_n.mp c)
        refine r_iload (pc := 32) (x := v5) dX11_odds_32 rfl ?_
        refine r_iconst (pc := 34) dX11_odds_34 ?_
        refine r_iconst (pc := 35) dX11_odds_35 ?_
        refine r_callS (μ2 := mX11_isWithin) (pc := 36) (as := [.int (zI v5), .int (zI 0), .int (zI 1)]) (st := []) ml_X11_138 sm_X11_isWithin okX11_isWithin ⟨by decide, by decide⟩ dX11_odds_36 (Nat.le_of_ble_eq_true rfl) rfl (Nat.le_of_ble_eq_true rfl) (by decide) (by decide) (zCC.mono w ?_)
        rintro r S' h4 ⟨rfl, b4, hr, w⟩
        subst hr
        show RR mX11_odds 0 0 39 [some (.ref 0), some (.int (zI v1)), some (.int (zI v2)), some (.int (zI v3)), some (.int (zI v4)), some (.int (zI v5))] [.int (zI (bI b4))] zS0 h4 (zQl zS0 K)
        refine r_if_ne (pc := 39) (x := (bI b4)) (tgt := 46) dX11_odds_39 (by decide) (bI_R _) (fun c => ?_) (fun c => ?_)
        · have w := w.1 (bI_n.mp c)
          refine r_aload_n (pc := 46) (a := 0) dX11_odds_46 rfl ?_
          refine r_getR (pc := 47) (b := 10) fl_X11_26 dX11_odds_47 s0_0 rfl ?_
          refine r_iload_n (pc := 50) (x := v1) dX11_odds_50 rfl ?_
          refine r_callV (μ2 := mX3_isOpen) (pc := 51) (as := [.int (zI v1)]) (st := []) rfl s0_10 ml_X11_311 im_X3_isOpen se_X3_isOpen okX3_isOpen ⟨by decide, by decide⟩ dX11_odds_51 (Nat.le_of_ble_eq_true rfl) rfl (Nat.le_of_ble_eq_true rfl) (by decide) (by decide) (zCC.mono w ?_)
          rintro r S' h5 ⟨rfl, b5, hr, w⟩
          subst hr
          show RR mX11_odds 0 0 54 [some (.ref 0), some (.int (zI v1)), some (.int (zI v2)), some (.int (zI v3)), some (.int (zI v4)), some (.int (zI v5))] [.int (zI (bI b5))] zS0 h5 (zQl zS0 K)
          refine r_if_ne (pc := 54) (x := (bI b5)) (tgt := 61) dX11_odds_54 (by decide) (bI_R _) (fun c => ?_) (fun c => ?_)
          · have w := w.1 (bI_n.mp c)
            refine r_aload_n (pc := 61) (a := 0) dX11_odds_61 rfl ?_
            refine r_getR (pc := 62) (b := 48) fl_X11_78 dX11_odds_62 s0_0 rfl ?_
            refine r_aload_n (pc := 65) (a := 0) dX11_odds_65 rfl ?_
            refine r_getR (pc := 66) (b := 10) fl_X11_26 dX11_odds_66 s0_0 rfl ?_
            refine r_iload_n (pc := 69) (x := v1) dX11_odds_69 rfl ?_
            refine r_iconst (pc := 70) dX11_odds_70 ?_
            refine r_imul (pc := 71) (x := v1) (y := 4) dX11_odds_71 ?_
            refine r_iload_n (pc := 72) (x := v2) dX11_odds_72 rfl ?_
            refine r_iadd (pc := 73) (x := (v1 * 4)) (y := v2) dX11_odds_73 ?_
            refine r_iload_n (pc := 74) (x := v3) dX11_odds_74 rfl ?_
            refine r_iload (pc := 75) (x := v4) dX11_odds_75 rfl ?_
            refine r_callV (μ2 := mX0_weigh) (pc := 77) (as := [.ref 10, .int (zI ((v1 * 4) + v2)), .int (zI v3), .int (zI v4)]) (st := []) rfl s0_48 ml_X11_350 im_X0_weigh se_X0_weigh okX0_weigh ⟨by decide, by decide⟩ dX11_odds_77 (Nat.le_of_ble_eq_true rfl) rfl (Nat.le_of_ble_eq_true rfl) (by decide) (by decide) (zCC.mono w ?_)
            rintro r S' h6 ⟨rfl, hr, w⟩
            subst hr
            show RR mX11_odds 0 0 80 [some (.ref 0), some (.int (zI v1)), some (.int (zI v2)), some (.int (zI v3)), some (.int (zI v4)), some (.int (zI v5))] [] zS0 h6 (zQl zS0 K)
            refine r_iload (pc := 80) (x := v5) dX11_odds_80 rfl ?_
            obtain ⟨hr7, w⟩ := w
            have kk8 : RR mX11_odds 0 0 102 [some (.ref 0), some (.int (zI v1)), some (.int (zI v2)), some (.int (zI v3)), some (.int (zI v4)), some (.int (zI v5))] [.long (zJ (if v5 = 0 then (h6 48 3) else (h6 48 4)))] zS0 h6 (zQl zS0 K) := by
              exact r_lret (st := []) (pc := 102) (x := (if v5 = 0 then (h6 48 3) else (h6 48 4))) dX11_odds_102 rfl rfl (by decide) ⟨rfl, _, rfl, w⟩
            refine r_if_ne (pc := 82) (x := v5) (tgt := 95) dX11_odds_82 (by decide) hr7 (fun c => ?_) (fun c => ?_)
            · refine r_aload_n (pc := 95) (a := 0) dX11_odds_95 rfl ?_
              refine r_getR (pc := 96) (b := 48) fl_X11_78 dX11_odds_96 s0_0 rfl ?_
              refine r_getJ (pc := 99) (fi := 4) (x := (h6 48 4)) fl_X11_357 dX11_odds_99 s0_48 rfl (rfl) ?_
              simp only [if_neg (c)] at kk8 ⊢
              exact kk8
            · refine r_aload_n (pc := 85) (a := 0) dX11_odds_85 rfl ?_
              refine r_getR (pc := 86) (b := 48) fl_X11_78 dX11_odds_86 s0_0 rfl ?_
              refine r_getJ (pc := 89) (fi := 3) (x := (h6 48 3)) fl_X11_354 dX11_odds_89 s0_48 rfl (rfl) ?_
              refine r_goto (pc := 92) (tgt := 102) dX11_odds_92 (by decide) ?_
              simp only [if_pos (c)] at kk8 ⊢
              exact kk8
          · have w := w.2 (bI_0.mp c)
            refine r_ldcL (pc := 57) (x := (-2)) dX11_odds_57 kl_X11_314 ?_
            exact r_lret (st := []) (pc := 60) (x := (-2)) dX11_odds_60 rfl rfl (by decide) ⟨rfl, _, rfl, w⟩
        · have w := w.2 (bI_0.mp c)
          refine r_ldcL (pc := 42) (x := (-1)) dX11_odds_42 kl_X11_221 ?_
          exact r_lret (st := []) (pc := 45) (x := (-1)) dX11_odds_45 rfl rfl (by decide) ⟨rfl, _, rfl, w⟩
    · have w := w.2 (bI_0.mp c)
      refine r_ldcL (pc := 17) (x := (-1)) dX11_odds_17 kl_X11_221 ?_
      exact r_lret (st := []) (pc := 20) (x := (-1)) dX11_odds_20 rfl rfl (by decide) ⟨rfl, _, rfl, w⟩

set_option maxRecDepth 100000 in
set_option maxHeartbeats 4000000 in
theorem wX11_week {h : zMm} {K : Int → zMm → Prop} {v1 : Int} (w : zCb mX11_isWithin [.int (zI v1), .int (zI 1), .int (zI 99)] zS0 h (fun b1 h1 => ((b1 = true → RR mX11_week 0 0 16 [some (.ref 0), some (.int (zI v1)), some (.int (zI 0)), some (.int (zI 0))] [] zS0 h1 (zQi zS0 K)) ∧ (b1 = false → K (-1) h1)))) : zCi mX11_week [.ref 0, .int (zI v1)] zS0 h K := by
  show RR mX11_week 0 0 0 [some (.ref 0), some (.int (zI v1)), none, none] [] zS0 h (zQi zS0 K)
  refine r_iload_n (pc := 0) (x := v1) dX11_week_0 rfl ?_
  refine r_iconst (pc := 1) dX11_week_1 ?_
  refine r_bipush (pc := 2) (x := 99) dX11_week_2 (by decide) ?_
  refine r_callS (μ2 := mX11_isWithin) (pc := 4) (as := [.int (zI v1), .int (zI 1), .int (zI 99)]) (st := []) ml_X11_138 sm_X11_isWithin okX11_isWithin ⟨by decide, by decide⟩ dX11_week_4 (Nat.le_of_ble_eq_true rfl) rfl (Nat.le_of_ble_eq_true rfl) (by decide) (by decide) (zCC.mono w ?_)
  rintro r S' h1 ⟨rfl, b1, hr, w⟩
  subst hr
  show RR mX11_week 0 0 7 [some (.ref 0), some (.int (zI v1)), none, none] [.int (zI (bI b1))] zS0 h1 (zQi zS0 K)
  refine r_if_ne (pc := 7) (x := (bI b1)) (tgt := 12) dX11_week_7 (by decide) (bI_R _) (fun c => ?_) (fun c => ?_)
  · have w := w.1 (bI_n.mp c)
    refine r_iconst (pc := 12) dX11_week_12 ?_
    refine r_istore_n (pc := 13) (L' := [some (.ref 0), some (.int (zI v1)), some (.int (zI 0)), none]) dX11_week_13 (by decide) rfl ?_
    refine r_iconst (pc := 14) dX11_week_14 ?_
    refine r_istore_n (pc := 15) (L' := [some (.ref 0), some (.int (zI v1)), some (.int (zI 0)), some (.int (zI 0))]) dX11_week_15 (by decide) rfl ?_
    exact w
  · have w := w.2 (bI_0.mp c)
    refine r_iconst (pc := 10) dX11_week_10 ?_
    exact r_iret (st := []) (pc := 11) (x := (-1)) (ty := .int) dX11_week_11 rfl rfl rfl (by decide) ⟨rfl, _, rfl, w⟩

set_option maxRecDepth 100000 in
set_option maxHeartbeats 4000000 in
theorem bX11_week_16 {h : zMm} {K : Int → zMm → Prop} {v1 : Int} {v2 : Int} {v3 : Int} (w : (zR v3 ∧ ((36 ≤ v3 → K v2 h) ∧ (¬ 36 ≤ v3 → zCi mX3_heightIn [.ref 10, .int (zI v3), .int (zI v1)] zS0 h (fun x3 h3 => ((0 ≤ v3 ∧ v3 < 36) ∧ (zR v2 ∧ (zR x3 ∧ RR mX11_week 0 0 16 [some (.ref 0), some (.int (zI v1)), some (.int (zI (max v2 x3))), some (.int (zI (v3 + 1)))] [] zS0 (zU h3 12 v3 x3) (zQi zS0 K))))))))) : RR mX11_week 0 0 16 [some (.ref 0), some (.int (zI v1)), some (.int (zI v2)), some (.int (zI v3))] [] zS0 h (zQi zS0 K) := by
  refine r_iload_n (pc := 16) (x := v3) dX11_week_16 rfl ?_
  refine r_bipush (pc := 17) (x := 36) dX11_week_17 (by decide) ?_
  obtain ⟨hr2, w⟩ := w
  refine r_icmp_ge (pc := 19) (x := v3) (y := 36) (tgt := 60) dX11_week_19 (by decide) hr2 (by decide) (fun c => ?_) (fun c => ?_)
  · have w := w.1 (c)
    refine r_iload_n (pc := 60) (x := v2) dX11_week_60 rfl ?_
    exact r_iret (st := []) (pc := 61) (x := v2) (ty := .int) dX11_week_61 rfl rfl rfl (by decide) ⟨rfl, _, rfl, w⟩
  · have w := w.2 (c)
    refine r_aload_n (pc := 22) (a := 0) dX11_week_22 rfl ?_
    refine r_getR (pc := 23) (b := 10) fl_X11_26 dX11_week_23 s0_0 rfl ?_
    refine r_getR (pc := 26) (b := 12) fl_X11_154 dX11_week_26 s0_10 rfl ?_
    refine r_iload_n (pc := 29) (x := v3) dX11_week_29 rfl ?_
    refine r_aload_n (pc := 30) (a := 0) dX11_week_30 rfl ?_
    refine r_getR (pc := 31) (b := 10) fl_X11_26 dX11_week_31 s0_0 rfl ?_
    refine r_iload_n (pc := 34) (x := v3) dX11_week_34 rfl ?_
    refine r_iload_n (pc := 35) (x := v1) dX11_week_35 rfl ?_
    refine r_callV (μ2 := mX3_heightIn) (pc := 36) (as := [.int (zI v3), .int (zI v1)]) (st := [.int (zI v3), .ref 12]) rfl s0_10 ml_X11_363 im_X3_heightIn se_X3_heightIn okX3_heightIn ⟨by decide, by decide⟩ dX11_week_36 (Nat.le_of_ble_eq_true rfl) rfl (Nat.le_of_ble_eq_true rfl) (by decide) (by decide) (zCC.mono w ?_)
    rintro r S' h3 ⟨rfl, x3, hr, w⟩
    subst hr
    show RR mX11_week 0 0 39 [some (.ref 0), some (.int (zI v1)), some (.int (zI v2)), some (.int (zI v3))] [.int (zI x3), .int (zI v3), .ref 12] zS0 h3 (zQi zS0 K)
    obtain ⟨hb4, w⟩ := w
    refine r_iast (pc := 39) (i := v3) (x := x3) dX11_week_39 s0_12 ⟨hb4.1, hb4.2, (by decide)⟩  ?_
    refine r_iload_n (pc := 40) (x := v2) dX11_week_40 rfl ?_
    refine r_aload_n (pc := 41) (a := 0) dX11_week_41 rfl ?_
    refine r_getR (pc := 42) (b := 10) fl_X11_26 dX11_week_42 s0_0 rfl ?_
    refine r_getR (pc := 45) (b := 12) fl_X11_154 dX11_week_45 s0_10 rfl ?_
    refine r_iload_n (pc := 48) (x := v3) dX11_week_48 rfl ?_
    refine r_iald (pc := 49) (i := v3) (x := x3) dX11_week_49 s0_12 ⟨by omega, by omega, (by decide)⟩ (zU_eq _ _ _ _) ?_
    obtain ⟨hr5, w⟩ := w
    obtain ⟨hr6, w⟩ := w
    refine r_max (pc := 50) (x := v2) (y := x3) ml_X11_248 mm_max_s it_J9 mm_max_c dX11_week_50 (by decide) (by decide) (by decide) (by decide) hr5 hr6 ?_
    refine r_istore_n (pc := 53) (L' := [some (.ref 0), some (.int (zI v1)), some (.int (zI (max v2 x3))), some (.int (zI v3))]) dX11_week_53 (by decide) rfl ?_
    refine r_iinc (pc := 54) (x := v3) (L' := [some (.ref 0), some (.int (zI v1)), some (.int (zI (max v2 x3))), some (.int (zI (v3 + 1)))]) dX11_week_54 rfl (by decide) rfl ?_
    refine r_goto (pc := 57) (tgt := 16) dX11_week_57 (by decide) ?_
    exact w

set_option maxRecDepth 100000 in
set_option maxHeartbeats 4000000 in
theorem wX11_high {h : zMm} {K : Int → zMm → Prop} {v1 : Int} {v2 : Int} (w : zCb mX11_isWithin [.int (zI v1), .int (zI 0), .int (zI 60)] zS0 h (fun b1 h1 => ((b1 = false → K (-1) h1) ∧ (b1 = true → zCb mX11_isWithin [.int (zI v2), .int (zI 0), .int (zI 1)] zS0 h1 (fun b2 h2 => ((b2 = true → RR mX11_high 0 0 28 [some (.ref 0), some (.int (zI v1)), some (.int (zI v2)), some (.long (zJ 0)), none, some (.int (zI 0)), none, none] [] zS0 h2 (zQl zS0 K)) ∧ (b2 = false → K (-1) h2))))))) : zCl mX11_high [.ref 0, .int (zI v1), .int (zI v2)] zS0 h K := by
  show RR mX11_high 0 0 0 [some (.ref 0), some (.int (zI v1)), some (.int (zI v2)), none, none, none, none, none] [] zS0 h (zQl zS0 K)
  refine r_iload_n (pc := 0) (x := v1) dX11_high_0 rfl ?_
  refine r_iconst (pc := 1) dX11_high_1 ?_
  refine r_bipush (pc := 2) (x := 60) dX11_high_2 (by decide) ?_
  refine r_callS (μ2 := mX11_isWithin) (pc := 4) (as := [.int (zI v1), .int (zI 0), .int (zI 60)]) (st := []) ml_X11_138 sm_X11_isWithin okX11_isWithin ⟨by decide, by decide⟩ dX11_high_4 (Nat.le_of_ble_eq_true rfl) rfl (Nat.le_of_ble_eq_true rfl) (by decide) (by decide) (zCC.mono w ?_)
  rintro r S' h1 ⟨rfl, b1, hr, w⟩
  subst hr
  show RR mX11_high 0 0 7 [some (.ref 0), some (.int (zI v1)), some (.int (zI v2)), none, none, none, none, none] [.int (zI (bI b1))] zS0 h1 (zQl zS0 K)
  refine r_if_eq (pc := 7) (x := (bI b1)) (tgt := 19) dX11_high_7 (by decide) (bI_R _) (fun c => ?_) (fun c => ?_)
  · have w := w.1 (bI_0.mp c)
    refine r_ldcL (pc := 19) (x := (-1)) dX11_high_19 kl_X11_221 ?_
    exact r_lret (st := []) (pc := 22) (x := (-1)) dX11_high_22 rfl rfl (by decide) ⟨rfl, _, rfl, w⟩
  · have w := w.2 (bI_n.mp c)
    refine r_iload_n (pc := 10) (x := v2) dX11_high_10 rfl ?_
    refine r_iconst (pc := 11) dX11_high_11 ?_
    refine r_iconst (pc := 12) dX11_high_12 ?_
    refine r_callS (μ2 := mX11_isWithin) (pc := 13) (as := [.int (zI v2), .int (zI 0), .int (zI 1)]) (st := []) ml_X11_138 sm_X11_isWithin okX11_isWithin ⟨by decide, by decide⟩ dX11_high_13 (Nat.le_of_ble_eq_true rfl) rfl (Nat.le_of_ble_eq_true rfl) (by decide) (by decide) (zCC.mono w ?_)
    rintro r S' h2 ⟨rfl, b2, hr, w⟩
    subst hr
    show RR mX11_high 0 0 16 [some (.ref 0), some (.int (zI v1)), some (.int (zI v2)), none, none, none, none, none] [.int (zI (bI b2))] zS0 h2 (zQl zS0 K)
    refine r_if_ne (pc := 16) (x := (bI b2)) (tgt := 23) dX11_high_16 (by decide) (bI_R _) (fun c => ?_) (fun c => ?_)
    · have w := w.1 (bI_n.mp c)
      refine r_lconst (pc := 23) (x := 0) dX11_high_23 rfl ?_
      refine r_lstore_n (pc := 24) (L' := [some (.ref 0), some (.int (zI v1)), some (.int (zI v2)), some (.long (zJ 0)), none, none, none, none]) dX11_high_24 (by decide) rfl ?_
      refine r_iconst (pc := 25) dX11_high_25 ?_
      refine r_istore (pc := 26) (L' := [some (.ref 0), some (.int (zI v1)), some (.int (zI v2)), some (.long (zJ 0)), none, some (.int (zI 0)), none, none]) dX11_high_26 (by decide) rfl ?_
      exact w
    · have w := w.2 (bI_0.mp c)
      refine r_ldcL (pc := 19) (x := (-1)) dX11_high_19 kl_X11_221 ?_
      exact r_lret (st := []) (pc := 22) (x := (-1)) dX11_high_22 rfl rfl (by decide) ⟨rfl, _, rfl, w⟩

set_option maxRecDepth 100000 in
set_option maxHeartbeats 4000000 in
theorem bX11_high_28 {h : zMm} {K : Int → zMm → Prop} {v1 : Int} {v2 : Int} {v3 : Int} {v5 : Int} (w : (zR v5 ∧ ((36 ≤ v5 → K v3 h) ∧ (¬ 36 ≤ v5 → ((0 ≤ v5 ∧ v5 < 36) ∧ (zR (h 12 v5) ∧ (zR v1 ∧ zCi mX3_heightIn [.ref 10, .int (zI v5), .int (zI 1)] zS0 h (fun x7 h7 => (zR x7 ∧ (zR v2 ∧ RR mX11_high 0 0 28 [some (.ref 0), some (.int (zI v1)), some (.int (zI v2)), some (.long (zJ (if v2 = 0 then (if (if (h 12 v5) ≤ v1 then false else true) = true then (lO v3 (lSl 1 v5)) else v3) else (if (if x7 ≤ v1 then false else true) = true then (if (if (h 12 v5) ≤ v1 then false else true) = true then v3 else (lO v3 (lSl 1 v5))) else v3)))), none, some (.int (zI (v5 + 1))), none, none] [] zS0 h7 (zQl zS0 K))))))))))) : RR mX11_high 0 0 28 [some (.ref 0), some (.int (zI v1)), some (.int (zI v2)), some (.long (zJ v3)), none, some (.int (zI v5)), none, none] [] zS0 h (zQl zS0 K) := by
  refine r_iload (pc := 28) (x := v5) dX11_high_28 rfl ?_
  refine r_bipush (pc := 30) (x := 36) dX11_high_30 (by decide) ?_
  obtain ⟨hr3, w⟩ := w
  refine r_icmp_ge (pc := 32) (x := v5) (y := 36) (tgt := 112) dX11_high_32 (by decide) hr3 (by decide) (fun c => ?_) (fun c => ?_)
  · have w := w.1 (c)
    refine r_lload_n (pc := 112) (x := v3) dX11_high_112 rfl ?_
    exact r_lret (st := []) (pc := 113) (x := v3) dX11_high_113 rfl rfl (by decide) ⟨rfl, _, rfl, w⟩
  · have w := w.2 (c)
    refine r_aload_n (pc := 35) (a := 0) dX11_high_35 rfl ?_
    refine r_getR (pc := 36) (b := 10) fl_X11_26 dX11_high_36 s0_0 rfl ?_
    refine r_getR (pc := 39) (b := 12) fl_X11_154 dX11_high_39 s0_10 rfl ?_
    refine r_iload (pc := 42) (x := v5) dX11_high_42 rfl ?_
    obtain ⟨hb4, w⟩ := w
    refine r_iald (pc := 44) (i := v5) (x := (h 12 v5)) dX11_high_44 s0_12 ⟨hb4.1, hb4.2, (by decide)⟩ (rfl) ?_
    refine r_iload_n (pc := 45) (x := v1) dX11_high_45 rfl ?_
    obtain ⟨hr5, w⟩ := w
    obtain ⟨hr6, w⟩ := w
    have kk15 : RR mX11_high 0 0 54 [some (.ref 0), some (.int (zI v1)), some (.int (zI v2)), some (.long (zJ v3)), none, some (.int (zI v5)), none, none] [.int (zI (bI (if (h 12 v5) ≤ v1 then false else true)))] zS0 h (zQl zS0 K) := by
      refine r_istore (pc := 54) (L' := [some (.ref 0), some (.int (zI v1)), some (.int (zI v2)), some (.long (zJ v3)), none, some (.int (zI v5)), some (.int (zI (bI (if (h 12 v5) ≤ v1 then false else true)))), none]) dX11_high_54 (by decide) rfl ?_
      refine r_aload_n (pc := 56) (a := 0) dX11_high_56 rfl ?_
      refine r_getR (pc := 57) (b := 10) fl_X11_26 dX11_high_57 s0_0 rfl ?_
      refine r_iload (pc := 60) (x := v5) dX11_high_60 rfl ?_
      refine r_iconst (pc := 62) dX11_high_62 ?_
      refine r_callV (μ2 := mX3_heightIn) (pc := 63) (as := [.int (zI v5), .int (zI 1)]) (st := []) rfl s0_10 ml_X11_363 im_X3_heightIn se_X3_heightIn okX3_heightIn ⟨by decide, by decide⟩ dX11_high_63 (Nat.le_of_ble_eq_true rfl) rfl (Nat.le_of_ble_eq_true rfl) (by decide) (by decide) (zCC.mono w ?_)
      rintro r S' h7 ⟨rfl, x7, hr, w⟩
      subst hr
      show RR mX11_high 0 0 66 [some (.ref 0), some (.int (zI v1)), some (.int (zI v2)), some (.long (zJ v3)), none, some (.int (zI v5)), some (.int (zI (bI (if (h 12 v5) ≤ v1 then false else true)))), none] [.int (zI x7)] zS0 h7 (zQl zS0 K)
      refine r_iload_n (pc := 66) (x := v1) dX11_high_66 rfl ?_
      obtain ⟨hr8, w⟩ := w
      have kk14 : RR mX11_high 0 0 75 [some (.ref 0), some (.int (zI v1)), some (.int (zI v2)), some (.long (zJ v3)), none, some (.int (zI v5)), some (.int (zI (bI (if (h 12 v5) ≤ v1 then false else true)))), none] [.int (zI (bI (if x7 ≤ v1 then false else true)))] zS0 h7 (zQl zS0 K) := by
        refine r_istore (pc := 75) (L' := [some (.ref 0), some (.int (zI v1)), some (.int (zI v2)), some (.long (zJ v3)), none, some (.int (zI v5)), some (.int (zI (bI (if (h 12 v5) ≤ v1 then false else true)))), some (.int (zI (bI (if x7 ≤ v1 then false else true))))]) dX11_high_75 (by decide) rfl ?_
        refine r_iload_n (pc := 77) (x := v2) dX11_high_77 rfl ?_
        obtain ⟨hr9, w⟩ := w
        have kk13 : RR mX11_high 0 0 106 [some (.ref 0), some (.int (zI v1)), some (.int (zI v2)), some (.long (zJ (if v2 = 0 then (if (if (h 12 v5) ≤ v1 then false else true) = true then (lO v3 (lSl 1 v5)) else v3) else (if (if x7 ≤ v1 then false else true) = true then (if (if (h 12 v5) ≤ v1 then false else true) = true then v3 else (lO v3 (lSl 1 v5))) else v3)))), none, some (.int (zI v5)), some (.int (zI (bI (if (h 12 v5) ≤ v1 then false else true)))), some (.int (zI (bI (if x7 ≤ v1 then false else true))))] [] zS0 h7 (zQl zS0 K) := by
          refine r_iinc (pc := 106) (x := v5) (L' := [some (.ref 0), some (.int (zI v1)), some (.int (zI v2)), some (.long (zJ (if v2 = 0 then (if (if (h 12 v5) ≤ v1 then false else true) = true then (lO v3 (lSl 1 v5)) else v3) else (if (if x7 ≤ v1 then false else true) = true then (if (if (h 12 v5) ≤ v1 then false else true) = true then v3 else (lO v3 (lSl 1 v5))) else v3)))), none, some (.int (zI (v5 + 1))), some (.int (zI (bI (if (h 12 v5) ≤ v1 then false else true)))), some (.int (zI (bI (if x7 ≤ v1 then false else true))))]) dX11_high_106 rfl (by decide) rfl ?_
          refine r_goto (pc := 109) (tgt := 28) dX11_high_109 (by decide) ?_
          exact RR.sub (L' := [some (.ref 0), some (.int (zI v1)), some (.int (zI v2)), some (.long (zJ (if v2 = 0 then (if (if (h 12 v5) ≤ v1 then false else true) = true then (lO v3 (lSl 1 v5)) else v3) else (if (if x7 ≤ v1 then false else true) = true then (if (if (h 12 v5) ≤ v1 then false else true) = true then v3 else (lO v3 (lSl 1 v5))) else v3)))), none, some (.int (zI (v5 + 1))), none, none]) (zSb_of (⟨rfl, ⟨rfl, ⟨rfl, ⟨rfl, ⟨rfl, trivial⟩⟩⟩⟩⟩)) w
        refine r_if_ne (pc := 78) (x := v2) (tgt := 89) dX11_high_78 (by decide) hr9 (fun c => ?_) (fun c => ?_)
        · refine r_iload (pc := 89) (x := (bI (if x7 ≤ v1 then false else true))) dX11_high_89 rfl ?_
          refine r_if_eq (pc := 91) (x := (bI (if x7 ≤ v1 then false else true))) (tgt := 106) dX11_high_91 (by decide) (bI_R _) (fun c10 => ?_) (fun c10 => ?_)
          · simp only [if_neg (c), if_neg (bI_ft (bI_0.mp c10))] at kk13 ⊢
            exact kk13
          · refine r_iload (pc := 94) (x := (bI (if (h 12 v5) ≤ v1 then false else true))) dX11_high_94 rfl ?_
            refine r_if_ne (pc := 96) (x := (bI (if (h 12 v5) ≤ v1 then false else true))) (tgt := 106) dX11_high_96 (by decide) (bI_R _) (fun c11 => ?_) (fun c11 => ?_)
            · simp only [if_neg (c), if_pos (bI_n.mp c10), if_pos (bI_n.mp c11)] at kk13 ⊢
              exact kk13
            · refine r_lload_n (pc := 99) (x := v3) dX11_high_99 rfl ?_
              refine r_lconst (pc := 100) (x := 1) dX11_high_100 rfl ?_
              refine r_iload (pc := 101) (x := v5) dX11_high_101 rfl ?_
              refine r_lshl (pc := 103) (x := 1) (y := v5) dX11_high_103 ?_
              refine r_lor (pc := 104) (x := v3) (y := (lSl 1 v5)) dX11_high_104 ?_
              refine r_lstore_n (pc := 105) (L' := [some (.ref 0), some (.int (zI v1)), some (.int (zI v2)), some (.long (zJ (lO v3 (lSl 1 v5)))), none, some (.int (zI v5)), some (.int (zI (bI (if (h 12 v5) ≤ v1 then false else true)))), some (.int (zI (bI (if x7 ≤ v1 then false else true))))]) dX11_high_105 (by decide) rfl ?_
              simp only [if_neg (c), if_pos (bI_n.mp c10), if_neg (bI_ft (bI_0.mp c11))] at kk13 ⊢
              exact kk13
        · refine r_iload (pc := 81) (x := (bI (if (h 12 v5) ≤ v1 then false else true))) dX11_high_81 rfl ?_
          refine r_if_eq (pc := 83) (x := (bI (if (h 12 v5) ≤ v1 then false else true))) (tgt := 106) dX11_high_83 (by decide) (bI_R _) (fun c12 => ?_) (fun c12 => ?_)
          · simp only [if_pos (c), if_neg (bI_ft (bI_0.mp c12))] at kk13 ⊢
            exact kk13
          · refine r_goto (pc := 86) (tgt := 99) dX11_high_86 (by decide) ?_
            refine r_lload_n (pc := 99) (x := v3) dX11_high_99 rfl ?_
            refine r_lconst (pc := 100) (x := 1) dX11_high_100 rfl ?_
            refine r_iload (pc := 101) (x := v5) dX11_high_101 rfl ?_
            refine r_lshl (pc := 103) (x := 1) (y := v5) dX11_high_103 ?_
            refine r_lor (pc := 104) (x := v3) (y := (lSl 1 v5)) dX11_high_104 ?_
            refine r_lstore_n (pc := 105) (L' := [some (.ref 0), some (.int (zI v1)), some (.int (zI v2)), some (.long (zJ (lO v3 (lSl 1 v5)))), none, some (.int (zI v5)), some (.int (zI (bI (if (h 12 v5) ≤ v1 then false else true)))), some (.int (zI (bI (if x7 ≤ v1 then false else true))))]) dX11_high_105 (by decide) rfl ?_
            simp only [if_pos (c), if_pos (bI_n.mp c12)] at kk13 ⊢
            exact kk13
      refine r_icmp_le (pc := 67) (x := x7) (y := v1) (tgt := 74) dX11_high_67 (by decide) hr8 hr6 (fun c => ?_) (fun c => ?_)
      · refine r_iconst (pc := 74) dX11_high_74 ?_
        simp only [if_pos (c)] at kk14 ⊢
        exact kk14
      · refine r_iconst (pc := 70) dX11_high_70 ?_
        refine r_goto (pc := 71) (tgt := 75) dX11_high_71 (by decide) ?_
        simp only [if_neg (c)] at kk14 ⊢
        exact kk14
    refine r_icmp_le (pc := 46) (x := (h 12 v5)) (y := v1) (tgt := 53) dX11_high_46 (by decide) hr5 hr6 (fun c => ?_) (fun c => ?_)
    · refine r_iconst (pc := 53) dX11_high_53 ?_
      simp only [if_pos (c)] at kk15 ⊢
      exact kk15
    · refine r_iconst (pc := 49) dX11_high_49 ?_
      refine r_goto (pc := 50) (tgt := 54) dX11_high_50 (by decide) ?_
      simp only [if_neg (c)] at kk15 ⊢
      exact kk15

set_option maxRecDepth 100000 in
set_option maxHeartbeats 4000000 in
theorem wX11_weeks {h : zMm} {K : Int → zMm → Prop} {v1 : Int} (w : zCb mX11_isWithin [.int (zI v1), .int (zI 0), .int (zI 60)] zS0 h (fun b1 h1 => ((b1 = true → RR mX11_weeks 0 0 14 [some (.ref 0), some (.int (zI v1)), some (.int (zI 0)), none] [] zS0 h1 (zQi zS0 K)) ∧ (b1 = false → K (-1) h1)))) : zCi mX11_weeks [.ref 0, .int (zI v1)] zS0 h K := by
  show RR mX11_weeks 0 0 0 [some (.ref 0), some (.int (zI v1)), none, none] [] zS0 h (zQi zS0 K)
  refine r_iload_n (pc := 0) (x := v1) dX11_weeks_0 rfl ?_
  refine r_iconst (pc := 1) dX11_weeks_1 ?_
  refine r_bipush (pc := 2) (x := 60) dX11_weeks_2 (by decide) ?_
  refine r_callS (μ2 := mX11_isWithin) (pc := 4) (as := [.int (zI v1), .int (zI 0), .int (zI 60)]) (st := []) ml_X11_138 sm_X11_isWithin okX11_isWithin ⟨by decide, by decide⟩ dX11_weeks_4 (Nat.le_of_ble_eq_true rfl) rfl (Nat.le_of_ble_eq_true rfl) (by decide) (by decide) (zCC.mono w ?_)
  rintro r S' h1 ⟨rfl, b1, hr, w⟩
  subst hr
  show RR mX11_weeks 0 0 7 [some (.ref 0), some (.int (zI v1)), none, none] [.int (zI (bI b1))] zS0 h1 (zQi zS0 K)
  refine r_if_ne (pc := 7) (x := (bI b1)) (tgt := 12) dX11_weeks_7 (by decide) (bI_R _) (fun c => ?_) (fun c => ?_)
  · have w := w.1 (bI_n.mp c)
    refine r_iconst (pc := 12) dX11_weeks_12 ?_
    refine r_istore_n (pc := 13) (L' := [some (.ref 0), some (.int (zI v1)), some (.int (zI 0)), none]) dX11_weeks_13 (by decide) rfl ?_
    exact w
  · have w := w.2 (bI_0.mp c)
    refine r_iconst (pc := 10) dX11_weeks_10 ?_
    exact r_iret (st := []) (pc := 11) (x := (-1)) (ty := .int) dX11_weeks_11 rfl rfl rfl (by decide) ⟨rfl, _, rfl, w⟩

set_option maxRecDepth 100000 in
set_option maxHeartbeats 4000000 in
theorem bX11_weeks_14 {h : zMm} {K : Int → zMm → Prop} {v1 : Int} {v2 : Int} (w : (zR v2 ∧ ((60 < v2 → K (-4) h) ∧ (¬ 60 < v2 → RR mX11_weeks 0 0 22 [some (.ref 0), some (.int (zI v1)), some (.int (zI v2)), some (.int (zI 0))] [] zS0 h (zQi zS0 K))))) : RR mX11_weeks 0 0 14 [some (.ref 0), some (.int (zI v1)), some (.int (zI v2)), none] [] zS0 h (zQi zS0 K) := by
  refine r_iload_n (pc := 14) (x := v2) dX11_weeks_14 rfl ?_
  refine r_bipush (pc := 15) (x := 60) dX11_weeks_15 (by decide) ?_
  obtain ⟨hr2, w⟩ := w
  refine r_icmp_gt (pc := 17) (x := v2) (y := 60) (tgt := 55) dX11_weeks_17 (by decide) hr2 (by decide) (fun c => ?_) (fun c => ?_)
  · have w := w.1 (c)
    refine r_bipush (pc := 55) (x := (-4)) dX11_weeks_55 (by decide) ?_
    exact r_iret (st := []) (pc := 57) (x := (-4)) (ty := .int) dX11_weeks_57 rfl rfl rfl (by decide) ⟨rfl, _, rfl, w⟩
  · have w := w.2 (c)
    refine r_iconst (pc := 20) dX11_weeks_20 ?_
    refine r_istore_n (pc := 21) (L' := [some (.ref 0), some (.int (zI v1)), some (.int (zI v2)), some (.int (zI 0))]) dX11_weeks_21 (by decide) rfl ?_
    exact w

set_option maxRecDepth 100000 in
set_option maxHeartbeats 4000000 in
theorem bX11_weeks_22 {h : zMm} {K : Int → zMm → Prop} {v1 : Int} {v2 : Int} {v3 : Int} (w : (zR v3 ∧ ((36 ≤ v3 → RR mX11_weeks 0 0 14 [some (.ref 0), some (.int (zI v1)), some (.int (zI (v2 + 1))), none] [] zS0 h (zQi zS0 K)) ∧ (¬ 36 ≤ v3 → zCi mX3_heightIn [.ref 10, .int (zI v3), .int (zI v2)] zS0 h (fun x4 h4 => (zR x4 ∧ (zR v1 ∧ ((x4 ≤ v1 → RR mX11_weeks 0 0 22 [some (.ref 0), some (.int (zI v1)), some (.int (zI v2)), some (.int (zI (v3 + 1)))] [] zS0 h4 (zQi zS0 K)) ∧ (¬ x4 ≤ v1 → K v2 h4))))))))) : RR mX11_weeks 0 0 22 [some (.ref 0), some (.int (zI v1)), some (.int (zI v2)), some (.int (zI v3))] [] zS0 h (zQi zS0 K) := by
  refine r_iload_n (pc := 22) (x := v3) dX11_weeks_22 rfl ?_
  refine r_bipush (pc := 23) (x := 36) dX11_weeks_23 (by decide) ?_
  obtain ⟨hr3, w⟩ := w
  refine r_icmp_ge (pc := 25) (x := v3) (y := 36) (tgt := 49) dX11_weeks_25 (by decide) hr3 (by decide) (fun c => ?_) (fun c => ?_)
  · have w := w.1 (c)
    refine r_iinc (pc := 49) (x := v2) (L' := [some (.ref 0), some (.int (zI v1)), some (.int (zI (v2 + 1))), some (.int (zI v3))]) dX11_weeks_49 rfl (by decide) rfl ?_
    refine r_goto (pc := 52) (tgt := 14) dX11_weeks_52 (by decide) ?_
    exact RR.sub (L' := [some (.ref 0), some (.int (zI v1)), some (.int (zI (v2 + 1))), none]) (zSb_of (⟨rfl, ⟨rfl, ⟨rfl, trivial⟩⟩⟩)) w
  · have w := w.2 (c)
    refine r_aload_n (pc := 28) (a := 0) dX11_weeks_28 rfl ?_
    refine r_getR (pc := 29) (b := 10) fl_X11_26 dX11_weeks_29 s0_0 rfl ?_
    refine r_iload_n (pc := 32) (x := v3) dX11_weeks_32 rfl ?_
    refine r_iload_n (pc := 33) (x := v2) dX11_weeks_33 rfl ?_
    refine r_callV (μ2 := mX3_heightIn) (pc := 34) (as := [.int (zI v3), .int (zI v2)]) (st := []) rfl s0_10 ml_X11_363 im_X3_heightIn se_X3_heightIn okX3_heightIn ⟨by decide, by decide⟩ dX11_weeks_34 (Nat.le_of_ble_eq_true rfl) rfl (Nat.le_of_ble_eq_true rfl) (by decide) (by decide) (zCC.mono w ?_)
    rintro r S' h4 ⟨rfl, x4, hr, w⟩
    subst hr
    show RR mX11_weeks 0 0 37 [some (.ref 0), some (.int (zI v1)), some (.int (zI v2)), some (.int (zI v3))] [.int (zI x4)] zS0 h4 (zQi zS0 K)
    refine r_iload_n (pc := 37) (x := v1) dX11_weeks_37 rfl ?_
    obtain ⟨hr5, w⟩ := w
    obtain ⟨hr6, w⟩ := w
    refine r_icmp_le (pc := 38) (x := x4) (y := v1) (tgt := 43) dX11_weeks_38 (by decide) hr5 hr6 (fun c => ?_) (fun c => ?_)
    · have w := w.1 (c)
      refine r_iinc (pc := 43) (x := v3) (L' := [some (.ref 0), some (.int (zI v1)), some (.int (zI v2)), some (.int (zI (v3 + 1)))]) dX11_weeks_43 rfl (by decide) rfl ?_
      refine r_goto (pc := 46) (tgt := 22) dX11_weeks_46 (by decide) ?_
      exact w
    · have w := w.2 (c)
      refine r_iload_n (pc := 41) (x := v2) dX11_weeks_41 rfl ?_
      exact r_iret (st := []) (pc := 42) (x := v2) (ty := .int) dX11_weeks_42 rfl rfl rfl (by decide) ⟨rfl, _, rfl, w⟩

set_option maxRecDepth 100000 in
set_option maxHeartbeats 4000000 in
theorem wX11_stripes {h : zMm} {K : Int → zMm → Prop} {v1 : Int} (w : zCb mX11_isWithin [.int (zI v1), .int (zI 0), .int (zI 2)] zS0 h (fun b1 h1 => ((b1 = true → RR mX11_stripes 0 0 15 [some (.ref 0), some (.int (zI v1)), some (.int (zI 0)), some (.int (zI 0))] [] zS0 h1 (zQi zS0 K)) ∧ (b1 = false → K (-1) h1)))) : zCi mX11_stripes [.ref 0, .int (zI v1)] zS0 h K := by
  show RR mX11_stripes 0 0 0 [some (.ref 0), some (.int (zI v1)), none, none] [] zS0 h (zQi zS0 K)
  refine r_iload_n (pc := 0) (x := v1) dX11_stripes_0 rfl ?_
  refine r_iconst (pc := 1) dX11_stripes_1 ?_
  refine r_iconst (pc := 2) dX11_stripes_2 ?_
  refine r_callS (μ2 := mX11_isWithin) (pc := 3) (as := [.int (zI v1), .int (zI 0), .int (zI 2)]) (st := []) ml_X11_138 sm_X11_isWithin okX11_isWithin ⟨by decide, by decide⟩ dX11_stripes_3 (Nat.le_of_ble_eq_true rfl) rfl (Nat.le_of_ble_eq_true rfl) (by decide) (by decide) (zCC.mono w ?_)
  rintro r S' h1 ⟨rfl, b1, hr, w⟩
  subst hr
  show RR mX11_stripes 0 0 6 [some (.ref 0), some (.int (zI v1)), none, none] [.int (zI (bI b1))] zS0 h1 (zQi zS0 K)
  refine r_if_ne (pc := 6) (x := (bI b1)) (tgt := 11) dX11_stripes_6 (by decide) (bI_R _) (fun c => ?_) (fun c => ?_)
  · have w := w.1 (bI_n.mp c)
    refine r_iconst (pc := 11) dX11_stripes_11 ?_
    refine r_istore_n (pc := 12) (L' := [some (.ref 0), some (.int (zI v1)), some (.int (zI 0)), none]) dX11_stripes_12 (by decide) rfl ?_
    refine r_iconst (pc := 13) dX11_stripes_13 ?_
    refine r_istore_n (pc := 14) (L' := [some (.ref 0), some (.int (zI v1)), some (.int (zI 0)), some (.int (zI 0))]) dX11_stripes_14 (by decide) rfl ?_
    exact w
  · have w := w.2 (bI_0.mp c)
    refine r_iconst (pc := 9) dX11_stripes_9 ?_
    exact r_iret (st := []) (pc := 10) (x := (-1)) (ty := .int) dX11_stripes_10 rfl rfl rfl (by decide) ⟨rfl, _, rfl, w⟩

set_option maxRecDepth 100000 in
set_option maxHeartbeats 4000000 in
theorem bX11_stripes_15 {h : zMm} {K : Int → zMm → Prop} {v1 : Int} {v2 : Int} {v3 : Int} (w : (zR v3 ∧ ((36 ≤ v3 → K v2 h) ∧ (¬ 36 ≤ v3 → zCb mX3_isGrass [.ref 10, .int (zI v3)] zS0 h (fun b3 h3 => ((b3 = false → RR mX11_stripes 0 0 15 [some (.ref 0), some (.int (zI v1)), some (.int (zI v2)), some (.int (zI (v3 + 1)))] [] zS0 h3 (zQi zS0 K)) ∧ (b3 = true → zCi mX3_stripeOf [.ref 10, .int (zI v3)] zS0 h3 (fun x4 h4 => (zR x4 ∧ (zR v1 ∧ RR mX11_stripes 0 0 15 [some (.ref 0), some (.int (zI v1)), some (.int (zI (if x4 = v1 then (v2 + 1) else v2))), some (.int (zI (v3 + 1)))] [] zS0 h4 (zQi zS0 K))))))))))) : RR mX11_stripes 0 0 15 [some (.ref 0), some (.int (zI v1)), some (.int (zI v2)), some (.int (zI v3))] [] zS0 h (zQi zS0 K) := by
  refine r_iload_n (pc := 15) (x := v3) dX11_stripes_15 rfl ?_
  refine r_bipush (pc := 16) (x := 36) dX11_stripes_16 (by decide) ?_
  obtain ⟨hr2, w⟩ := w
  refine r_icmp_ge (pc := 18) (x := v3) (y := 36) (tgt := 53) dX11_stripes_18 (by decide) hr2 (by decide) (fun c => ?_) (fun c => ?_)
  · have w := w.1 (c)
    refine r_iload_n (pc := 53) (x := v2) dX11_stripes_53 rfl ?_
    exact r_iret (st := []) (pc := 54) (x := v2) (ty := .int) dX11_stripes_54 rfl rfl rfl (by decide) ⟨rfl, _, rfl, w⟩
  · have w := w.2 (c)
    refine r_aload_n (pc := 21) (a := 0) dX11_stripes_21 rfl ?_
    refine r_getR (pc := 22) (b := 10) fl_X11_26 dX11_stripes_22 s0_0 rfl ?_
    refine r_iload_n (pc := 25) (x := v3) dX11_stripes_25 rfl ?_
    refine r_callV (μ2 := mX3_isGrass) (pc := 26) (as := [.int (zI v3)]) (st := []) rfl s0_10 ml_X11_301 im_X3_isGrass se_X3_isGrass okX3_isGrass ⟨by decide, by decide⟩ dX11_stripes_26 (Nat.le_of_ble_eq_true rfl) rfl (Nat.le_of_ble_eq_true rfl) (by decide) (by decide) (zCC.mono w ?_)
    rintro r S' h3 ⟨rfl, b3, hr, w⟩
    subst hr
    show RR mX11_stripes 0 0 29 [some (.ref 0), some (.int (zI v1)), some (.int (zI v2)), some (.int (zI v3))] [.int (zI (bI b3))] zS0 h3 (zQi zS0 K)
    refine r_if_eq (pc := 29) (x := (bI b3)) (tgt := 47) dX11_stripes_29 (by decide) (bI_R _) (fun c => ?_) (fun c => ?_)
    · have w := w.1 (bI_0.mp c)
      refine r_iinc (pc := 47) (x := v3) (L' := [some (.ref 0), some (.int (zI v1)), some (.int (zI v2)), some (.int (zI (v3 + 1)))]) dX11_stripes_47 rfl (by decide) rfl ?_
      refine r_goto (pc := 50) (tgt := 15) dX11_stripes_50 (by decide) ?_
      exact w
    · have w := w.2 (bI_n.mp c)
      refine r_aload_n (pc := 32) (a := 0) dX11_stripes_32 rfl ?_
      refine r_getR (pc := 33) (b := 10) fl_X11_26 dX11_stripes_33 s0_0 rfl ?_
      refine r_iload_n (pc := 36) (x := v3) dX11_stripes_36 rfl ?_
      refine r_callV (μ2 := mX3_stripeOf) (pc := 37) (as := [.int (zI v3)]) (st := []) rfl s0_10 ml_X11_366 im_X3_stripeOf se_X3_stripeOf okX3_stripeOf ⟨by decide, by decide⟩ dX11_stripes_37 (Nat.le_of_ble_eq_true rfl) rfl (Nat.le_of_ble_eq_true rfl) (by decide) (by decide) (zCC.mono w ?_)
      rintro r S' h4 ⟨rfl, x4, hr, w⟩
      subst hr
      show RR mX11_stripes 0 0 40 [some (.ref 0), some (.int (zI v1)), some (.int (zI v2)), some (.int (zI v3))] [.int (zI x4)] zS0 h4 (zQi zS0 K)
      refine r_iload_n (pc := 40) (x := v1) dX11_stripes_40 rfl ?_
      obtain ⟨hr5, w⟩ := w
      obtain ⟨hr6, w⟩ := w
      have kk7 : RR mX11_stripes 0 0 47 [some (.ref 0), some (.int (zI v1)), some (.int (zI (if x4 = v1 then (v2 + 1) else v2))), some (.int (zI v3))] [] zS0 h4 (zQi zS0 K) := by
        refine r_iinc (pc := 47) (x := v3) (L' := [some (.ref 0), some (.int (zI v1)), some (.int (zI (if x4 = v1 then (v2 + 1) else v2))), some (.int (zI (v3 + 1)))]) dX11_stripes_47 rfl (by decide) rfl ?_
        refine r_goto (pc := 50) (tgt := 15) dX11_stripes_50 (by decide) ?_
        exact w
      refine r_icmp_ne (pc := 41) (x := x4) (y := v1) (tgt := 47) dX11_stripes_41 (by decide) hr5 hr6 (fun c => ?_) (fun c => ?_)
      · simp only [if_neg (c)] at kk7 ⊢
        exact kk7
      · refine r_iinc (pc := 44) (x := v2) (L' := [some (.ref 0), some (.int (zI v1)), some (.int (zI (v2 + 1))), some (.int (zI v3))]) dX11_stripes_44 rfl (by decide) rfl ?_
        simp only [if_pos (c)] at kk7 ⊢
        exact kk7

set_option maxRecDepth 100000 in
set_option maxHeartbeats 4000000 in
theorem wX11_keep {h : zMm} {K : Int → zMm → Prop} {v1 : Int} (w : zCb mX11_isWithin [.int (zI v1), .int (zI 0), .int (zI 1)] zS0 h (fun b1 h1 => ((b1 = true → ((0 ≤ v1 ∧ v1 < 2) ∧ zCv mX3_takeCells [.ref (52 + 6 * (v1).toNat), .ref 10] zS0 h1 (fun h4 => zCv mX5_takeAll [.ref (65 + 3 * (v1).toNat), .ref 16] zS0 h4 (fun h6 => (zR (h1 71 v1) ∧ K (bI (if (h1 71 v1) = 0 then false else true)) (zU h6 71 v1 1)))))) ∧ (b1 = false → K (-1) h1)))) : zCi mX11_keep [.ref 0, .int (zI v1)] zS0 h K := by
  show RR mX11_keep 0 0 0 [some (.ref 0), some (.int (zI v1)), none] [] zS0 h (zQi zS0 K)
  refine r_iload_n (pc := 0) (x := v1) dX11_keep_0 rfl ?_
  refine r_iconst (pc := 1) dX11_keep_1 ?_
  refine r_iconst (pc := 2) dX11_keep_2 ?_
  refine r_callS (μ2 := mX11_isWithin) (pc := 3) (as := [.int (zI v1), .int (zI 0), .int (zI 1)]) (st := []) ml_X11_138 sm_X11_isWithin okX11_isWithin ⟨by decide, by decide⟩ dX11_keep_3 (Nat.le_of_ble_eq_true rfl) rfl (Nat.le_of_ble_eq_true rfl) (by decide) (by decide) (zCC.mono w ?_)
  rintro r S' h1 ⟨rfl, b1, hr, w⟩
  subst hr
  show RR mX11_keep 0 0 6 [some (.ref 0), some (.int (zI v1)), none] [.int (zI (bI b1))] zS0 h1 (zQi zS0 K)
  refine r_if_ne (pc := 6) (x := (bI b1)) (tgt := 11) dX11_keep_6 (by decide) (bI_R _) (fun c => ?_) (fun c => ?_)
  · have w := w.1 (bI_n.mp c)
    refine r_aload_n (pc := 11) (a := 0) dX11_keep_11 rfl ?_
    refine r_getR (pc := 12) (b := 71) fl_X11_90 dX11_keep_12 s0_0 rfl ?_
    refine r_iload_n (pc := 15) (x := v1) dX11_keep_15 rfl ?_
    obtain ⟨hb2, w⟩ := w
    refine r_zald (pc := 16) (i := v1) (x := (h1 71 v1)) dX11_keep_16 s0_71 ⟨hb2.1, hb2.2, (by decide)⟩ (rfl) ?_
    refine r_istore_n (pc := 17) (L' := [some (.ref 0), some (.int (zI v1)), some (.int (zI (h1 71 v1)))]) dX11_keep_17 (by decide) rfl ?_
    refine r_aload_n (pc := 18) (a := 0) dX11_keep_18 rfl ?_
    refine r_getR (pc := 19) (b := 51) fl_X11_82 dX11_keep_19 s0_0 rfl ?_
    refine r_iload_n (pc := 22) (x := v1) dX11_keep_22 rfl ?_
    have hg3 := zAr24 (k := v1) ⟨by omega, by omega⟩
    refine r_aald (pc := 23) (b := (52 + 6 * (v1).toNat)) (i := v1) (t0 := 4) (C := "LawnTrees$Garden") dX11_keep_23 s0_51 (by decide) ⟨by omega, by omega, (by decide)⟩ hg3.1 ?_
    have hg3 := hg3.2
    refine r_aload_n (pc := 24) (a := 0) dX11_keep_24 rfl ?_
    refine r_getR (pc := 25) (b := 10) fl_X11_26 dX11_keep_25 s0_0 rfl ?_
    refine r_callV (μ2 := mX3_takeCells) (pc := 28) (as := [.ref 10]) (st := []) rfl hg3.1 ml_X11_369 im_X3_takeCells se_X3_takeCells okX3_takeCells ⟨by decide, by decide⟩ dX11_keep_28 (Nat.le_of_ble_eq_true rfl) rfl (Nat.le_of_ble_eq_true rfl) (by decide) (by decide) (zCC.mono w ?_)
    rintro r S' h4 ⟨rfl, hr, w⟩
    subst hr
    show RR mX11_keep 0 0 31 [some (.ref 0), some (.int (zI v1)), some (.int (zI (h1 71 v1)))] [] zS0 h4 (zQi zS0 K)
    refine r_aload_n (pc := 31) (a := 0) dX11_keep_31 rfl ?_
    refine r_getR (pc := 32) (b := 64) fl_X11_86 dX11_keep_32 s0_0 rfl ?_
    refine r_iload_n (pc := 35) (x := v1) dX11_keep_35 rfl ?_
    have hg5 := zAr25 (k := v1) ⟨by omega, by omega⟩
    refine r_aald (pc := 36) (b := (65 + 3 * (v1).toNat)) (i := v1) (t0 := 5) (C := "LawnTrees$Moves") dX11_keep_36 s0_64 (by decide) ⟨by omega, by omega, (by decide)⟩ hg5.1 ?_
    have hg5 := hg5.2
    refine r_aload_n (pc := 37) (a := 0) dX11_keep_37 rfl ?_
    refine r_getR (pc := 38) (b := 16) fl_X11_33 dX11_keep_38 s0_0 rfl ?_
    refine r_callV (μ2 := mX5_takeAll) (pc := 41) (as := [.ref 16]) (st := []) rfl hg5.1 ml_X11_281 im_X5_takeAll se_X5_takeAll okX5_takeAll ⟨by decide, by decide⟩ dX11_keep_41 (Nat.le_of_ble_eq_true rfl) rfl (Nat.le_of_ble_eq_true rfl) (by decide) (by decide) (zCC.mono w ?_)
    rintro r S' h6 ⟨rfl, hr, w⟩
    subst hr
    show RR mX11_keep 0 0 44 [some (.ref 0), some (.int (zI v1)), some (.int (zI (h1 71 v1)))] [] zS0 h6 (zQi zS0 K)
    refine r_aload_n (pc := 44) (a := 0) dX11_keep_44 rfl ?_
    refine r_getR (pc := 45) (b := 71) fl_X11_90 dX11_keep_45 s0_0 rfl ?_
    refine r_iload_n (pc := 48) (x := v1) dX11_keep_48 rfl ?_
    refine r_iconst (pc := 49) dX11_keep_49 ?_
    refine r_zast (pc := 50) (i := v1) (x := 1) dX11_keep_50 s0_71 ⟨by omega, by omega, (by decide)⟩ (by decide) ?_
    refine r_iload_n (pc := 51) (x := (h1 71 v1)) dX11_keep_51 rfl ?_
    obtain ⟨hr7, w⟩ := w
    have kk8 : RR mX11_keep 0 0 60 [some (.ref 0), some (.int (zI v1)), some (.int (zI (h1 71 v1)))] [.int (zI (bI (if (h1 71 v1) = 0 then false else true)))] zS0 (zU h6 71 v1 1) (zQi zS0 K) := by
      exact r_iret (st := []) (pc := 60) (x := (bI (if (h1 71 v1) = 0 then false else true))) (ty := .int) dX11_keep_60 rfl rfl rfl (by decide) ⟨rfl, _, rfl, w⟩
    refine r_if_eq (pc := 52) (x := (h1 71 v1)) (tgt := 59) dX11_keep_52 (by decide) hr7 (fun c => ?_) (fun c => ?_)
    · refine r_iconst (pc := 59) dX11_keep_59 ?_
      simp only [if_pos (c)] at kk8 ⊢
      exact kk8
    · refine r_iconst (pc := 55) dX11_keep_55 ?_
      refine r_goto (pc := 56) (tgt := 60) dX11_keep_56 (by decide) ?_
      simp only [if_neg (c)] at kk8 ⊢
      exact kk8
  · have w := w.2 (bI_0.mp c)
    refine r_iconst (pc := 9) dX11_keep_9 ?_
    exact r_iret (st := []) (pc := 10) (x := (-1)) (ty := .int) dX11_keep_10 rfl rfl rfl (by decide) ⟨rfl, _, rfl, w⟩

set_option maxRecDepth 100000 in
set_option maxHeartbeats 4000000 in
theorem wX11_back {h : zMm} {K : Int → zMm → Prop} {v1 : Int} (w : zCb mX11_isWithin [.int (zI v1), .int (zI 0), .int (zI 1)] zS0 h (fun b1 h1 => ((b1 = true → ((0 ≤ v1 ∧ v1 < 2) ∧ (zR (h1 71 v1) ∧ (((h1 71 v1) = 0 → K (-2) h1) ∧ (¬ (h1 71 v1) = 0 → zCi mX3_told [.ref 10, .int (zI 0)] zS0 h1 (fun x5 h5 => zCb mX3_isOpen [.ref (52 + 6 * (v1).toNat), .int (zI x5)] zS0 h5 (fun b6 h6 => ((b6 = true → zCv mX3_takeCells [.ref 10, .ref (52 + 6 * (v1).toNat)] zS0 h6 (fun h8 => zCv mX5_takeAll [.ref 16, .ref (65 + 3 * (v1).toNat)] zS0 h8 (fun h10 => zCv mX4_forget [.ref 31] zS0 h10 (fun h11 => K (h11 16 2) h11)))) ∧ (b6 = false → K (-2) h6))))))))) ∧ (b1 = false → K (-1) h1)))) : zCi mX11_back [.ref 0, .int (zI v1)] zS0 h K := by
  show RR mX11_back 0 0 0 [some (.ref 0), some (.int (zI v1))] [] zS0 h (zQi zS0 K)
  refine r_iload_n (pc := 0) (x := v1) dX11_back_0 rfl ?_
  refine r_iconst (pc := 1) dX11_back_1 ?_
  refine r_iconst (pc := 2) dX11_back_2 ?_
  refine r_callS (μ2 := mX11_isWithin) (pc := 3) (as := [.int (zI v1), .int (zI 0), .int (zI 1)]) (st := []) ml_X11_138 sm_X11_isWithin okX11_isWithin ⟨by decide, by decide⟩ dX11_back_3 (Nat.le_of_ble_eq_true rfl) rfl (Nat.le_of_ble_eq_true rfl) (by decide) (by decide) (zCC.mono w ?_)
  rintro r S' h1 ⟨rfl, b1, hr, w⟩
  subst hr
  show RR mX11_back 0 0 6 [some (.ref 0), some (.int (zI v1))] [.int (zI (bI b1))] zS0 h1 (zQi zS0 K)
  refine r_if_ne (pc := 6) (x := (bI b1)) (tgt := 11) dX11_back_6 (by decide) (bI_R _) (fun c => ?_) (fun c => ?_)
  · have w := w.1 (bI_n.mp c)
    refine r_aload_n (pc := 11) (a := 0) dX11_back_11 rfl ?_
    refine r_getR (pc := 12) (b := 71) fl_X11_90 dX11_back_12 s0_0 rfl ?_
    refine r_iload_n (pc := 15) (x := v1) dX11_back_15 rfl ?_
    obtain ⟨hb2, w⟩ := w
    refine r_zald (pc := 16) (i := v1) (x := (h1 71 v1)) dX11_back_16 s0_71 ⟨hb2.1, hb2.2, (by decide)⟩ (rfl) ?_
    obtain ⟨hr3, w⟩ := w
    refine r_if_eq (pc := 17) (x := (h1 71 v1)) (tgt := 40) dX11_back_17 (by decide) hr3 (fun c => ?_) (fun c => ?_)
    · have w := w.1 (c)
      refine r_bipush (pc := 40) (x := (-2)) dX11_back_40 (by decide) ?_
      exact r_iret (st := []) (pc := 42) (x := (-2)) (ty := .int) dX11_back_42 rfl rfl rfl (by decide) ⟨rfl, _, rfl, w⟩
    · have w := w.2 (c)
      refine r_aload_n (pc := 20) (a := 0) dX11_back_20 rfl ?_
      refine r_getR (pc := 21) (b := 51) fl_X11_82 dX11_back_21 s0_0 rfl ?_
      refine r_iload_n (pc := 24) (x := v1) dX11_back_24 rfl ?_
      have hg4 := zAr24 (k := v1) ⟨by omega, by omega⟩
      refine r_aald (pc := 25) (b := (52 + 6 * (v1).toNat)) (i := v1) (t0 := 4) (C := "LawnTrees$Garden") dX11_back_25 s0_51 (by decide) ⟨by omega, by omega, (by decide)⟩ hg4.1 ?_
      have hg4 := hg4.2
      refine r_aload_n (pc := 26) (a := 0) dX11_back_26 rfl ?_
      refine r_getR (pc := 27) (b := 10) fl_X11_26 dX11_back_27 s0_0 rfl ?_
      refine r_iconst (pc := 30) dX11_back_30 ?_
      refine r_callV (μ2 := mX3_told) (pc := 31) (as := [.int (zI 0)]) (st := [.ref (52 + 6 * (v1).toNat)]) rfl s0_10 ml_X11_142 im_X3_told se_X3_told okX3_told ⟨by decide, by decide⟩ dX11_back_31 (Nat.le_of_ble_eq_true rfl) rfl (Nat.le_of_ble_eq_true rfl) (by decide) (by decide) (zCC.mono w ?_)
      rintro r S' h5 ⟨rfl, x5, hr, w⟩
      subst hr
      show RR mX11_back 0 0 34 [some (.ref 0), some (.int (zI v1))] [.int (zI x5), .ref (52 + 6 * (v1).toNat)] zS0 h5 (zQi zS0 K)
      refine r_callV (μ2 := mX3_isOpen) (pc := 34) (as := [.int (zI x5)]) (st := []) rfl hg4.1 ml_X11_311 im_X3_isOpen se_X3_isOpen okX3_isOpen ⟨by decide, by decide⟩ dX11_back_34 (Nat.le_of_ble_eq_true rfl) rfl (Nat.le_of_ble_eq_true rfl) (by decide) (by decide) (zCC.mono w ?_)
      rintro r S' h6 ⟨rfl, b6, hr, w⟩
      subst hr
      show RR mX11_back 0 0 37 [some (.ref 0), some (.int (zI v1))] [.int (zI (bI b6))] zS0 h6 (zQi zS0 K)
      refine r_if_ne (pc := 37) (x := (bI b6)) (tgt := 43) dX11_back_37 (by decide) (bI_R _) (fun c => ?_) (fun c => ?_)
      · have w := w.1 (bI_n.mp c)
        refine r_aload_n (pc := 43) (a := 0) dX11_back_43 rfl ?_
        refine r_getR (pc := 44) (b := 10) fl_X11_26 dX11_back_44 s0_0 rfl ?_
        refine r_aload_n (pc := 47) (a := 0) dX11_back_47 rfl ?_
        refine r_getR (pc := 48) (b := 51) fl_X11_82 dX11_back_48 s0_0 rfl ?_
        refine r_iload_n (pc := 51) (x := v1) dX11_back_51 rfl ?_
        have hg7 := zAr24 (k := v1) ⟨by omega, by omega⟩
        refine r_aald (pc := 52) (b := (52 + 6 * (v1).toNat)) (i := v1) (t0 := 4) (C := "LawnTrees$Garden") dX11_back_52 s0_51 (by decide) ⟨by omega, by omega, (by decide)⟩ hg7.1 ?_
        have hg7 := hg7.2
        refine r_callV (μ2 := mX3_takeCells) (pc := 53) (as := [.ref (52 + 6 * (v1).toNat)]) (st := []) rfl s0_10 ml_X11_369 im_X3_takeCells se_X3_takeCells okX3_takeCells ⟨by decide, by decide⟩ dX11_back_53 (Nat.le_of_ble_eq_true rfl) rfl (Nat.le_of_ble_eq_true rfl) (by decide) (by decide) (zCC.mono w ?_)
        rintro r S' h8 ⟨rfl, hr, w⟩
        subst hr
        show RR mX11_back 0 0 56 [some (.ref 0), some (.int (zI v1))] [] zS0 h8 (zQi zS0 K)
        refine r_aload_n (pc := 56) (a := 0) dX11_back_56 rfl ?_
        refine r_getR (pc := 57) (b := 16) fl_X11_33 dX11_back_57 s0_0 rfl ?_
        refine r_aload_n (pc := 60) (a := 0) dX11_back_60 rfl ?_
        refine r_getR (pc := 61) (b := 64) fl_X11_86 dX11_back_61 s0_0 rfl ?_
        refine r_iload_n (pc := 64) (x := v1) dX11_back_64 rfl ?_
        have hg9 := zAr25 (k := v1) ⟨by omega, by omega⟩
        refine r_aald (pc := 65) (b := (65 + 3 * (v1).toNat)) (i := v1) (t0 := 5) (C := "LawnTrees$Moves") dX11_back_65 s0_64 (by decide) ⟨by omega, by omega, (by decide)⟩ hg9.1 ?_
        have hg9 := hg9.2
        refine r_callV (μ2 := mX5_takeAll) (pc := 66) (as := [.ref (65 + 3 * (v1).toNat)]) (st := []) rfl s0_16 ml_X11_281 im_X5_takeAll se_X5_takeAll okX5_takeAll ⟨by decide, by decide⟩ dX11_back_66 (Nat.le_of_ble_eq_true rfl) rfl (Nat.le_of_ble_eq_true rfl) (by decide) (by decide) (zCC.mono w ?_)
        rintro r S' h10 ⟨rfl, hr, w⟩
        subst hr
        show RR mX11_back 0 0 69 [some (.ref 0), some (.int (zI v1))] [] zS0 h10 (zQi zS0 K)
        refine r_aload_n (pc := 69) (a := 0) dX11_back_69 rfl ?_
        refine r_getR (pc := 70) (b := 31) fl_X11_64 dX11_back_70 s0_0 rfl ?_
        refine r_callV (μ2 := mX4_forget) (pc := 73) (as := []) (st := []) rfl s0_31 ml_X11_129 im_X4_forget se_X4_forget okX4_forget ⟨by decide, by decide⟩ dX11_back_73 (Nat.le_of_ble_eq_true rfl) rfl (Nat.le_of_ble_eq_true rfl) (by decide) (by decide) (zCC.mono w ?_)
        rintro r S' h11 ⟨rfl, hr, w⟩
        subst hr
        show RR mX11_back 0 0 76 [some (.ref 0), some (.int (zI v1))] [] zS0 h11 (zQi zS0 K)
        refine r_aload_n (pc := 76) (a := 0) dX11_back_76 rfl ?_
        refine r_getR (pc := 77) (b := 16) fl_X11_33 dX11_back_77 s0_0 rfl ?_
        refine r_getI (pc := 80) (fi := 2) (x := (h11 16 2)) fl_X11_126 dX11_back_80 s0_16 rfl (rfl) ?_
        exact r_iret (st := []) (pc := 83) (x := (h11 16 2)) (ty := .int) dX11_back_83 rfl rfl rfl (by decide) ⟨rfl, _, rfl, w⟩
      · have w := w.2 (bI_0.mp c)
        refine r_bipush (pc := 40) (x := (-2)) dX11_back_40 (by decide) ?_
        exact r_iret (st := []) (pc := 42) (x := (-2)) (ty := .int) dX11_back_42 rfl rfl rfl (by decide) ⟨rfl, _, rfl, w⟩
  · have w := w.2 (bI_0.mp c)
    refine r_iconst (pc := 9) dX11_back_9 ?_
    exact r_iret (st := []) (pc := 10) (x := (-1)) (ty := .int) dX11_back_10 rfl rfl rfl (by decide) ⟨rfl, _, rfl, w⟩

set_option maxRecDepth 100000 in
set_option maxHeartbeats 4000000 in
theorem wX11_isLane {S : zSh} {h : zMm} {K : Bool → zMm → Prop} {v0 : Int} (w : zCb mX11_isWithin [.int (zI v0), .int (zI 0), .int (zI 2)] S h (fun b1 h1 => K b1 h1)) : zCb mX11_isLane [.int (zI v0)] S h K := by
  show RR mX11_isLane 0 0 0 [some (.int (zI v0))] [] S h (zQb S K)
  refine r_iload_n (pc := 0) (x := v0) dX11_isLane_0 rfl ?_
  refine r_iconst (pc := 1) dX11_isLane_1 ?_
  refine r_iconst (pc := 2) dX11_isLane_2 ?_
  refine r_callS (μ2 := mX11_isWithin) (pc := 3) (as := [.int (zI v0), .int (zI 0), .int (zI 2)]) (st := []) ml_X11_138 sm_X11_isWithin okX11_isWithin ⟨by decide, by decide⟩ dX11_isLane_3 (Nat.le_of_ble_eq_true rfl) rfl (Nat.le_of_ble_eq_true rfl) (by decide) (by decide) (zCC.mono w ?_)
  rintro r S' h1 ⟨rfl, b1, hr, w⟩
  subst hr
  show RR mX11_isLane 0 0 6 [some (.int (zI v0))] [.int (zI (bI b1))] S h1 (zQb S K)
  exact r_iret (st := []) (pc := 6) (x := (bI b1)) (ty := .boolean) dX11_isLane_6 rfl (bI_nar _) rfl (by decide) ⟨rfl, b1, rfl, w⟩

set_option maxRecDepth 100000 in
set_option maxHeartbeats 4000000 in
theorem wX11_isSheet {S : zSh} {h : zMm} {K : Bool → zMm → Prop} {v0 : Int} (w : zCb mX11_isWithin [.int (zI v0), .int (zI 0), .int (zI 3)] S h (fun b1 h1 => K b1 h1)) : zCb mX11_isSheet [.int (zI v0)] S h K := by
  show RR mX11_isSheet 0 0 0 [some (.int (zI v0))] [] S h (zQb S K)
  refine r_iload_n (pc := 0) (x := v0) dX11_isSheet_0 rfl ?_
  refine r_iconst (pc := 1) dX11_isSheet_1 ?_
  refine r_iconst (pc := 2) dX11_isSheet_2 ?_
  refine r_callS (μ2 := mX11_isWithin) (pc := 3) (as := [.int (zI v0), .int (zI 0), .int (zI 3)]) (st := []) ml_X11_138 sm_X11_isWithin okX11_isWithin ⟨by decide, by decide⟩ dX11_isSheet_3 (Nat.le_of_ble_eq_true rfl) rfl (Nat.le_of_ble_eq_true rfl) (by decide) (by decide) (zCC.mono w ?_)
  rintro r S' h1 ⟨rfl, b1, hr, w⟩
  subst hr
  show RR mX11_isSheet 0 0 6 [some (.int (zI v0))] [.int (zI (bI b1))] S h1 (zQb S K)
  exact r_iret (st := []) (pc := 6) (x := (bI b1)) (ty := .boolean) dX11_isSheet_6 rfl (bI_nar _) rfl (by decide) ⟨rfl, b1, rfl, w⟩

set_option maxRecDepth 100000 in
set_option maxHeartbeats 4000000 in
theorem wX11_sheet {h : zMm} {K : Int → zMm → Prop} {v1 : Int} {v2 : Int} {v3 : Int} (w : zCb mX11_isSheet [.int (zI v1)] zS0 h (fun b1 h1 => ((b1 = false → K (-1) h1) ∧ (b1 = true → zCb mX11_isLane [.int (zI v2)] zS0 h1 (fun b2 h2 => ((b2 = false → K (-1) h2) ∧ (b2 = true → (zR v3 ∧ ((v3 ≤ 48 → ((0 ≤ v3 → ((0 ≤ v1 ∧ v1 < 4) ∧ zCv mX7_startAnew [.ref (73 + 2 * (v1).toNat), .int (zI v2), .int (zI v3)] zS0 h2 (fun h6 => K 1 h6))) ∧ (¬ 0 ≤ v3 → K (-14) h2))) ∧ (¬ v3 ≤ 48 → K (-1) h2)))))))))) : zCi mX11_sheet [.ref 0, .int (zI v1), .int (zI v2), .int (zI v3)] zS0 h K := by
  show RR mX11_sheet 0 0 0 [some (.ref 0), some (.int (zI v1)), some (.int (zI v2)), some (.int (zI v3))] [] zS0 h (zQi zS0 K)
  refine r_iload_n (pc := 0) (x := v1) dX11_sheet_0 rfl ?_
  refine r_callS (μ2 := mX11_isSheet) (pc := 1) (as := [.int (zI v1)]) (st := []) ml_X11_372 sm_X11_isSheet okX11_isSheet ⟨by decide, by decide⟩ dX11_sheet_1 (Nat.le_of_ble_eq_true rfl) rfl (Nat.le_of_ble_eq_true rfl) (by decide) (by decide) (zCC.mono w ?_)
  rintro r S' h1 ⟨rfl, b1, hr, w⟩
  subst hr
  show RR mX11_sheet 0 0 4 [some (.ref 0), some (.int (zI v1)), some (.int (zI v2)), some (.int (zI v3))] [.int (zI (bI b1))] zS0 h1 (zQi zS0 K)
  refine r_if_eq (pc := 4) (x := (bI b1)) (tgt := 20) dX11_sheet_4 (by decide) (bI_R _) (fun c => ?_) (fun c => ?_)
  · have w := w.1 (bI_0.mp c)
    refine r_iconst (pc := 20) dX11_sheet_20 ?_
    exact r_iret (st := []) (pc := 21) (x := (-1)) (ty := .int) dX11_sheet_21 rfl rfl rfl (by decide) ⟨rfl, _, rfl, w⟩
  · have w := w.2 (bI_n.mp c)
    refine r_iload_n (pc := 7) (x := v2) dX11_sheet_7 rfl ?_
    refine r_callS (μ2 := mX11_isLane) (pc := 8) (as := [.int (zI v2)]) (st := []) ml_X11_375 sm_X11_isLane okX11_isLane ⟨by decide, by decide⟩ dX11_sheet_8 (Nat.le_of_ble_eq_true rfl) rfl (Nat.le_of_ble_eq_true rfl) (by decide) (by decide) (zCC.mono w ?_)
    rintro r S' h2 ⟨rfl, b2, hr, w⟩
    subst hr
    show RR mX11_sheet 0 0 11 [some (.ref 0), some (.int (zI v1)), some (.int (zI v2)), some (.int (zI v3))] [.int (zI (bI b2))] zS0 h2 (zQi zS0 K)
    refine r_if_eq (pc := 11) (x := (bI b2)) (tgt := 20) dX11_sheet_11 (by decide) (bI_R _) (fun c => ?_) (fun c => ?_)
    · have w := w.1 (bI_0.mp c)
      refine r_iconst (pc := 20) dX11_sheet_20 ?_
      exact r_iret (st := []) (pc := 21) (x := (-1)) (ty := .int) dX11_sheet_21 rfl rfl rfl (by decide) ⟨rfl, _, rfl, w⟩
    · have w := w.2 (bI_n.mp c)
      refine r_iload_n (pc := 14) (x := v3) dX11_sheet_14 rfl ?_
      refine r_bipush (pc := 15) (x := 48) dX11_sheet_15 (by decide) ?_
      obtain ⟨hr3, w⟩ := w
      refine r_icmp_le (pc := 17) (x := v3) (y := 48) (tgt := 22) dX11_sheet_17 (by decide) hr3 (by decide) (fun c => ?_) (fun c => ?_)
      · have w := w.1 (c)
        refine r_iload_n (pc := 22) (x := v3) dX11_sheet_22 rfl ?_
        refine r_if_ge (pc := 23) (x := v3) (tgt := 29) dX11_sheet_23 (by decide) hr3 (fun c => ?_) (fun c => ?_)
        · have w := w.1 (c)
          refine r_aload_n (pc := 29) (a := 0) dX11_sheet_29 rfl ?_
          refine r_getR (pc := 30) (b := 72) fl_X11_97 dX11_sheet_30 s0_0 rfl ?_
          refine r_iload_n (pc := 33) (x := v1) dX11_sheet_33 rfl ?_
          obtain ⟨hb4, w⟩ := w
          have hg5 := zAr26 (k := v1) ⟨by omega, by omega⟩
          refine r_aald (pc := 34) (b := (73 + 2 * (v1).toNat)) (i := v1) (t0 := 6) (C := "LawnTrees$Sheet") dX11_sheet_34 s0_72 (by decide) ⟨hb4.1, hb4.2, (by decide)⟩ hg5.1 ?_
          have hg5 := hg5.2
          refine r_iload_n (pc := 35) (x := v2) dX11_sheet_35 rfl ?_
          refine r_iload_n (pc := 36) (x := v3) dX11_sheet_36 rfl ?_
          refine r_callV (μ2 := mX7_startAnew) (pc := 37) (as := [.int (zI v2), .int (zI v3)]) (st := []) rfl hg5.1 ml_X11_378 im_X7_startAnew se_X7_startAnew okX7_startAnew ⟨by decide, by decide⟩ dX11_sheet_37 (Nat.le_of_ble_eq_true rfl) rfl (Nat.le_of_ble_eq_true rfl) (by decide) (by decide) (zCC.mono w ?_)
          rintro r S' h6 ⟨rfl, hr, w⟩
          subst hr
          show RR mX11_sheet 0 0 40 [some (.ref 0), some (.int (zI v1)), some (.int (zI v2)), some (.int (zI v3))] [] zS0 h6 (zQi zS0 K)
          refine r_iconst (pc := 40) dX11_sheet_40 ?_
          exact r_iret (st := []) (pc := 41) (x := 1) (ty := .int) dX11_sheet_41 rfl rfl rfl (by decide) ⟨rfl, _, rfl, w⟩
        · have w := w.2 (c)
          refine r_bipush (pc := 26) (x := (-14)) dX11_sheet_26 (by decide) ?_
          exact r_iret (st := []) (pc := 28) (x := (-14)) (ty := .int) dX11_sheet_28 rfl rfl rfl (by decide) ⟨rfl, _, rfl, w⟩
      · have w := w.2 (c)
        refine r_iconst (pc := 20) dX11_sheet_20 ?_
        exact r_iret (st := []) (pc := 21) (x := (-1)) (ty := .int) dX11_sheet_21 rfl rfl rfl (by decide) ⟨rfl, _, rfl, w⟩

set_option maxRecDepth 100000 in
set_option maxHeartbeats 4000000 in
theorem wX11_lay {h : zMm} {K : Int → zMm → Prop} {v1 : Int} {v2 : Int} {v3 : Int} (w : zCb mX11_isSheet [.int (zI v1)] zS0 h (fun b1 h1 => ((b1 = true → ((0 ≤ v1 ∧ v1 < 4) ∧ (zR v2 ∧ zCi mX7_faultOf [.ref (73 + 2 * (v1).toNat), .int (zI (h1 (73 + 2 * (v1).toNat) 1)), .long (zJ v2)] zS0 h1 (fun x5 h5 => (zR x5 ∧ ((x5 = 0 → zCv mX7_write [.ref (73 + 2 * (v1).toNat), .int (zI v2), .int (zI v3)] zS0 h5 (fun h7 => K 1 h7)) ∧ (¬ x5 = 0 → K ((-10) - x5) h5))))))) ∧ (b1 = false → K (-1) h1)))) : zCi mX11_lay [.ref 0, .int (zI v1), .int (zI v2), .int (zI v3)] zS0 h K := by
  show RR mX11_lay 0 0 0 [some (.ref 0), some (.int (zI v1)), some (.int (zI v2)), some (.int (zI v3)), none, none] [] zS0 h (zQi zS0 K)
  refine r_iload_n (pc := 0) (x := v1) dX11_lay_0 rfl ?_
  refine r_callS (μ2 := mX11_isSheet) (pc := 1) (as := [.int (zI v1)]) (st := []) ml_X11_372 sm_X11_isSheet okX11_isSheet ⟨by decide, by decide⟩ dX11_lay_1 (Nat.le_of_ble_eq_true rfl) rfl (Nat.le_of_ble_eq_true rfl) (by decide) (by decide) (zCC.mono w ?_)
  rintro r S' h1 ⟨rfl, b1, hr, w⟩
  subst hr
  show RR mX11_lay 0 0 4 [some (.ref 0), some (.int (zI v1)), some (.int (zI v2)), some (.int (zI v3)), none, none] [.int (zI (bI b1))] zS0 h1 (zQi zS0 K)
  refine r_if_ne (pc := 4) (x := (bI b1)) (tgt := 9) dX11_lay_4 (by decide) (bI_R _) (fun c => ?_) (fun c => ?_)
  · have w := w.1 (bI_n.mp c)
    refine r_aload_n (pc := 9) (a := 0) dX11_lay_9 rfl ?_
    refine r_getR (pc := 10) (b := 72) fl_X11_97 dX11_lay_10 s0_0 rfl ?_
    refine r_iload_n (pc := 13) (x := v1) dX11_lay_13 rfl ?_
    obtain ⟨hb2, w⟩ := w
    have hg3 := zAr26 (k := v1) ⟨by omega, by omega⟩
    refine r_aald (pc := 14) (b := (73 + 2 * (v1).toNat)) (i := v1) (t0 := 6) (C := "LawnTrees$Sheet") dX11_lay_14 s0_72 (by decide) ⟨hb2.1, hb2.2, (by decide)⟩ hg3.1 ?_
    have hg3 := hg3.2
    refine r_astore (pc := 15) (L' := [some (.ref 0), some (.int (zI v1)), some (.int (zI v2)), some (.int (zI v3)), some (.ref (73 + 2 * (v1).toNat)), none]) dX11_lay_15 (by decide) rfl ?_
    refine r_aload (pc := 17) (a := (73 + 2 * (v1).toNat)) dX11_lay_17 rfl ?_
    refine r_aload (pc := 19) (a := (73 + 2 * (v1).toNat)) dX11_lay_19 rfl ?_
    refine r_getI (pc := 21) (fi := 1) (x := (h1 (73 + 2 * (v1).toNat) 1)) fl_X11_382 dX11_lay_21 hg3.1 rfl (rfl) ?_
    refine r_iload_n (pc := 24) (x := v2) dX11_lay_24 rfl ?_
    obtain ⟨hr4, w⟩ := w
    refine r_i2l (pc := 25) (x := v2) dX11_lay_25 hr4 ?_
    refine r_callV (μ2 := mX7_faultOf) (pc := 26) (as := [.int (zI (h1 (73 + 2 * (v1).toNat) 1)), .long (zJ v2)]) (st := []) rfl hg3.1 ml_X11_385 im_X7_faultOf se_X7_faultOf okX7_faultOf ⟨by decide, by decide⟩ dX11_lay_26 (Nat.le_of_ble_eq_true rfl) rfl (Nat.le_of_ble_eq_true rfl) (by decide) (by decide) (zCC.mono w ?_)
    rintro r S' h5 ⟨rfl, x5, hr, w⟩
    subst hr
    show RR mX11_lay 0 0 29 [some (.ref 0), some (.int (zI v1)), some (.int (zI v2)), some (.int (zI v3)), some (.ref (73 + 2 * (v1).toNat)), none] [.int (zI x5)] zS0 h5 (zQi zS0 K)
    refine r_istore (pc := 29) (L' := [some (.ref 0), some (.int (zI v1)), some (.int (zI v2)), some (.int (zI v3)), some (.ref (73 + 2 * (v1).toNat)), some (.int (zI x5))]) dX11_lay_29 (by decide) rfl ?_
    refine r_iload (pc := 31) (x := x5) dX11_lay_31 rfl ?_
    obtain ⟨hr6, w⟩ := w
    refine r_if_eq (pc := 33) (x := x5) (tgt := 42) dX11_lay_33 (by decide) hr6 (fun c => ?_) (fun c => ?_)
    · have w := w.1 (c)
      refine r_aload (pc := 42) (a := (73 + 2 * (v1).toNat)) dX11_lay_42 rfl ?_
      refine r_iload_n (pc := 44) (x := v2) dX11_lay_44 rfl ?_
      refine r_iload_n (pc := 45) (x := v3) dX11_lay_45 rfl ?_
      refine r_callV (μ2 := mX7_write) (pc := 46) (as := [.int (zI v2), .int (zI v3)]) (st := []) rfl hg3.1 ml_X11_389 im_X7_write se_X7_write okX7_write ⟨by decide, by decide⟩ dX11_lay_46 (Nat.le_of_ble_eq_true rfl) rfl (Nat.le_of_ble_eq_true rfl) (by decide) (by decide) (zCC.mono w ?_)
      rintro r S' h7 ⟨rfl, hr, w⟩
      subst hr
      show RR mX11_lay 0 0 49 [some (.ref 0), some (.int (zI v1)), some (.int (zI v2)), some (.int (zI v3)), some (.ref (73 + 2 * (v1).toNat)), some (.int (zI x5))] [] zS0 h7 (zQi zS0 K)
      refine r_iconst (pc := 49) dX11_lay_49 ?_
      exact r_iret (st := []) (pc := 50) (x := 1) (ty := .int) dX11_lay_50 rfl rfl rfl (by decide) ⟨rfl, _, rfl, w⟩
    · have w := w.2 (c)
      refine r_bipush (pc := 36) (x := (-10)) dX11_lay_36 (by decide) ?_
      refine r_iload (pc := 38) (x := x5) dX11_lay_38 rfl ?_
      refine r_isub (pc := 40) (x := (-10)) (y := x5) dX11_lay_40 ?_
      exact r_iret (st := []) (pc := 41) (x := ((-10) - x5)) (ty := .int) dX11_lay_41 rfl rfl rfl (by decide) ⟨rfl, _, rfl, w⟩
  · have w := w.2 (bI_0.mp c)
    refine r_iconst (pc := 7) dX11_lay_7 ?_
    exact r_iret (st := []) (pc := 8) (x := (-1)) (ty := .int) dX11_lay_8 rfl rfl rfl (by decide) ⟨rfl, _, rfl, w⟩

set_option maxRecDepth 100000 in
set_option maxHeartbeats 4000000 in
theorem wX11_moveFrom {h : zMm} {K : Int → zMm → Prop} {o1 : Nat} {v2 : Int} {v3 : Int} (hg1 : zS7 zS0 o1) (w : zCi mX7_valueAt [.ref o1, .int (zI v2)] zS0 h (fun x1 h1 => zCi mX7_valueAt [.ref o1, .int (zI (v2 + 1))] zS0 h1 (fun x2 h2 => zCb mX11_isMove [.int (zI x1), .int (zI x2)] zS0 h2 (fun b3 h3 => ((b3 = true → zCb mX5_append [.ref 16, .int (zI x1), .int (zI x2)] zS0 h3 (fun b4 h4 => K (if b4 = true then (0 : Int) else ((-3) : Int)) h4)) ∧ (b3 = false → K ((-20) - v3) h3)))))) : zCi mX11_moveFrom [.ref 0, .ref o1, .int (zI v2), .int (zI v3)] zS0 h K := by
  show RR mX11_moveFrom 0 0 0 [some (.ref 0), some (.ref o1), some (.int (zI v2)), some (.int (zI v3)), none, none] [] zS0 h (zQi zS0 K)
  refine r_aload_n (pc := 0) (a := o1) dX11_moveFrom_0 rfl ?_
  refine r_iload_n (pc := 1) (x := v2) dX11_moveFrom_1 rfl ?_
  refine r_callV (μ2 := mX7_valueAt) (pc := 2) (as := [.int (zI v2)]) (st := []) rfl hg1.1 ml_X11_398 im_X7_valueAt se_X7_valueAt okX7_valueAt ⟨by decide, by decide⟩ dX11_moveFrom_2 (Nat.le_of_ble_eq_true rfl) rfl (Nat.le_of_ble_eq_true rfl) (by decide) (by decide) (zCC.mono w ?_)
  rintro r S' h1 ⟨rfl, x1, hr, w⟩
  subst hr
  show RR mX11_moveFrom 0 0 5 [some (.ref 0), some (.ref o1), some (.int (zI v2)), some (.int (zI v3)), none, none] [.int (zI x1)] zS0 h1 (zQi zS0 K)
  refine r_istore (pc := 5) (L' := [some (.ref 0), some (.ref o1), some (.int (zI v2)), some (.int (zI v3)), some (.int (zI x1)), none]) dX11_moveFrom_5 (by decide) rfl ?_
  refine r_aload_n (pc := 7) (a := o1) dX11_moveFrom_7 rfl ?_
  refine r_iload_n (pc := 8) (x := v2) dX11_moveFrom_8 rfl ?_
  refine r_iconst (pc := 9) dX11_moveFrom_9 ?_
  refine r_iadd (pc := 10) (x := v2) (y := 1) dX11_moveFrom_10 ?_
  refine r_callV (μ2 := mX7_valueAt) (pc := 11) (as := [.int (zI (v2 + 1))]) (st := []) rfl hg1.1 ml_X11_398 im_X7_valueAt se_X7_valueAt okX7_valueAt ⟨by decide, by decide⟩ dX11_moveFrom_11 (Nat.le_of_ble_eq_true rfl) rfl (Nat.le_of_ble_eq_true rfl) (by decide) (by decide) (zCC.mono w ?_)
  rintro r S' h2 ⟨rfl, x2, hr, w⟩
  subst hr
  show RR mX11_moveFrom 0 0 14 [some (.ref 0), some (.ref o1), some (.int (zI v2)), some (.int (zI v3)), some (.int (zI x1)), none] [.int (zI x2)] zS0 h2 (zQi zS0 K)
  refine r_istore (pc := 14) (L' := [some (.ref 0), some (.ref o1), some (.int (zI v2)), some (.int (zI v3)), some (.int (zI x1)), some (.int (zI x2))]) dX11_moveFrom_14 (by decide) rfl ?_
  refine r_iload (pc := 16) (x := x1) dX11_moveFrom_16 rfl ?_
  refine r_iload (pc := 18) (x := x2) dX11_moveFrom_18 rfl ?_
  refine r_callS (μ2 := mX11_isMove) (pc := 20) (as := [.int (zI x1), .int (zI x2)]) (st := []) ml_X11_163 sm_X11_isMove okX11_isMove ⟨by decide, by decide⟩ dX11_moveFrom_20 (Nat.le_of_ble_eq_true rfl) rfl (Nat.le_of_ble_eq_true rfl) (by decide) (by decide) (zCC.mono w ?_)
  rintro r S' h3 ⟨rfl, b3, hr, w⟩
  subst hr
  show RR mX11_moveFrom 0 0 23 [some (.ref 0), some (.ref o1), some (.int (zI v2)), some (.int (zI v3)), some (.int (zI x1)), some (.int (zI x2))] [.int (zI (bI b3))] zS0 h3 (zQi zS0 K)
  refine r_if_ne (pc := 23) (x := (bI b3)) (tgt := 31) dX11_moveFrom_23 (by decide) (bI_R _) (fun c => ?_) (fun c => ?_)
  · have w := w.1 (bI_n.mp c)
    refine r_aload_n (pc := 31) (a := 0) dX11_moveFrom_31 rfl ?_
    refine r_getR (pc := 32) (b := 16) fl_X11_33 dX11_moveFrom_32 s0_0 rfl ?_
    refine r_iload (pc := 35) (x := x1) dX11_moveFrom_35 rfl ?_
    refine r_iload (pc := 37) (x := x2) dX11_moveFrom_37 rfl ?_
    refine r_callV (μ2 := mX5_append) (pc := 39) (as := [.int (zI x1), .int (zI x2)]) (st := []) rfl s0_16 ml_X11_167 im_X5_append se_X5_append okX5_append ⟨by decide, by decide⟩ dX11_moveFrom_39 (Nat.le_of_ble_eq_true rfl) rfl (Nat.le_of_ble_eq_true rfl) (by decide) (by decide) (zCC.mono w ?_)
    rintro r S' h4 ⟨rfl, b4, hr, w⟩
    subst hr
    show RR mX11_moveFrom 0 0 42 [some (.ref 0), some (.ref o1), some (.int (zI v2)), some (.int (zI v3)), some (.int (zI x1)), some (.int (zI x2))] [.int (zI (bI b4))] zS0 h4 (zQi zS0 K)
    have kk5 : RR mX11_moveFrom 0 0 51 [some (.ref 0), some (.ref o1), some (.int (zI v2)), some (.int (zI v3)), some (.int (zI x1)), some (.int (zI x2))] [.int (zI (if b4 = true then (0 : Int) else ((-3) : Int)))] zS0 h4 (zQi zS0 K) := by
      exact r_iret (st := []) (pc := 51) (x := (if b4 = true then (0 : Int) else ((-3) : Int))) (ty := .int) dX11_moveFrom_51 rfl rfl rfl (by decide) ⟨rfl, _, rfl, w⟩
    refine r_if_eq (pc := 42) (x := (bI b4)) (tgt := 49) dX11_moveFrom_42 (by decide) (bI_R _) (fun c => ?_) (fun c => ?_)
    · refine r_bipush (pc := 49) (x := (-3)) dX11_moveFrom_49 (by decide) ?_
      simp only [if_neg (bI_ft (bI_0.mp c))] at kk5 ⊢
      exact kk5
    · refine r_iconst (pc := 45) dX11_moveFrom_45 ?_
      refine r_goto (pc := 46) (tgt := 51) dX11_moveFrom_46 (by decide) ?_
      simp only [if_pos (bI_n.mp c)] at kk5 ⊢
      exact kk5
  · have w := w.2 (bI_0.mp c)
    refine r_bipush (pc := 26) (x := (-20)) dX11_moveFrom_26 (by decide) ?_
    refine r_iload_n (pc := 28) (x := v3) dX11_moveFrom_28 rfl ?_
    refine r_isub (pc := 29) (x := (-20)) (y := v3) dX11_moveFrom_29 ?_
    exact r_iret (st := []) (pc := 30) (x := ((-20) - v3)) (ty := .int) dX11_moveFrom_30 rfl rfl rfl (by decide) ⟨rfl, _, rfl, w⟩

set_option maxRecDepth 100000 in
set_option maxHeartbeats 4000000 in
theorem wX11_read {h : zMm} {K : Int → zMm → Prop} {v1 : Int} {v2 : Int} {v3 : Int} {v4 : Int} (w : zCb mX11_isSheet [.int (zI v1)] zS0 h (fun b1 h1 => ((b1 = false → K (-1) h1) ∧ (b1 = true → zCb mX11_isLane [.int (zI v2)] zS0 h1 (fun b2 h2 => ((b2 = false → K (-1) h2) ∧ (b2 = true → zCb mX11_isWithin [.int (zI v4), .int (zI 0), .int (zI 24)] zS0 h2 (fun b3 h3 => ((b3 = true → ((0 ≤ v1 ∧ v1 < 4) ∧ RR mX11_read 0 0 50 [some (.ref 0), none, some (.int (zI v2)), some (.int (zI v3)), some (.int (zI v4)), some (.ref (73 + 2 * (v1).toNat)), some (.int (zI (h3 16 2))), some (.int (zI 0)), some (.int (zI 0)), none, none, none] [] zS0 h3 (zQi zS0 K))) ∧ (b3 = false → K (-1) h3)))))))))) : zCi mX11_read [.ref 0, .int (zI v1), .int (zI v2), .int (zI v3), .int (zI v4)] zS0 h K := by
  show RR mX11_read 0 0 0 [some (.ref 0), some (.int (zI v1)), some (.int (zI v2)), some (.int (zI v3)), some (.int (zI v4)), none, none, none, none, none, none, none] [] zS0 h (zQi zS0 K)
  refine r_iload_n (pc := 0) (x := v1) dX11_read_0 rfl ?_
  refine r_callS (μ2 := mX11_isSheet) (pc := 1) (as := [.int (zI v1)]) (st := []) ml_X11_372 sm_X11_isSheet okX11_isSheet ⟨by decide, by decide⟩ dX11_read_1 (Nat.le_of_ble_eq_true rfl) rfl (Nat.le_of_ble_eq_true rfl) (by decide) (by decide) (zCC.mono w ?_)
  rintro r S' h1 ⟨rfl, b1, hr, w⟩
  subst hr
  show RR mX11_read 0 0 4 [some (.ref 0), some (.int (zI v1)), some (.int (zI v2)), some (.int (zI v3)), some (.int (zI v4)), none, none, none, none, none, none, none] [.int (zI (bI b1))] zS0 h1 (zQi zS0 K)
  refine r_if_eq (pc := 4) (x := (bI b1)) (tgt := 25) dX11_read_4 (by decide) (bI_R _) (fun c => ?_) (fun c => ?_)
  · have w := w.1 (bI_0.mp c)
    refine r_iconst (pc := 25) dX11_read_25 ?_
    exact r_iret (st := []) (pc := 26) (x := (-1)) (ty := .int) dX11_read_26 rfl rfl rfl (by decide) ⟨rfl, _, rfl, w⟩
  · have w := w.2 (bI_n.mp c)
    refine r_iload_n (pc := 7) (x := v2) dX11_read_7 rfl ?_
    refine r_callS (μ2 := mX11_isLane) (pc := 8) (as := [.int (zI v2)]) (st := []) ml_X11_375 sm_X11_isLane okX11_isLane ⟨by decide, by decide⟩ dX11_read_8 (Nat.le_of_ble_eq_true rfl) rfl (Nat.le_of_ble_eq_true rfl) (by decide) (by decide) (zCC.mono w ?_)
    rintro r S' h2 ⟨rfl, b2, hr, w⟩
    subst hr
    show RR mX11_read 0 0 11 [some (.ref 0), some (.int (zI v1)), some (.int (zI v2)), some (.int (zI v3)), some (.int (zI v4)), none, none, none, none, none, none, none] [.int (zI (bI b2))] zS0 h2 (zQi zS0 K)
    refine r_if_eq (pc := 11) (x := (bI b2)) (tgt := 25) dX11_read_11 (by decide) (bI_R _) (fun c => ?_) (fun c => ?_)
    · have w := w.1 (bI_0.mp c)
      refine r_iconst (pc := 25) dX11_read_25 ?_
      exact r_iret (st := []) (pc := 26) (x := (-1)) (ty := .int) dX11_read_26 rfl rfl rfl (by decide) ⟨rfl, _, rfl, w⟩
    · have w := w.2 (bI_n.mp c)
      refine r_iload (pc := 14) (x := v4) dX11_read_14 rfl ?_
      refine r_iconst (pc := 16) dX11_read_16 ?_
      refine r_bipush (pc := 17) (x := 24) dX11_read_17 (by decide) ?_
      refine r_callS (μ2 := mX11_isWithin) (pc := 19) (as := [.int (zI v4), .int (zI 0), .int (zI 24)]) (st := []) ml_X11_138 sm_X11_isWithin okX11_isWithin ⟨by decide, by decide⟩ dX11_read_19 (Nat.le_of_ble_eq_true rfl) rfl (Nat.le_of_ble_eq_true rfl) (by decide) (by decide) (zCC.mono w ?_)
      rintro r S' h3 ⟨rfl, b3, hr, w⟩
      subst hr
      show RR mX11_read 0 0 22 [some (.ref 0), some (.int (zI v1)), some (.int (zI v2)), some (.int (zI v3)), some (.int (zI v4)), none, none, none, none, none, none, none] [.int (zI (bI b3))] zS0 h3 (zQi zS0 K)
      refine r_if_ne (pc := 22) (x := (bI b3)) (tgt := 27) dX11_read_22 (by decide) (bI_R _) (fun c => ?_) (fun c => ?_)
      · have w := w.1 (bI_n.mp c)
        refine r_aload_n (pc := 27) (a := 0) dX11_read_27 rfl ?_
        refine r_getR (pc := 28) (b := 72) fl_X11_97 dX11_read_28 s0_0 rfl ?_
        refine r_iload_n (pc := 31) (x := v1) dX11_read_31 rfl ?_
        obtain ⟨hb4, w⟩ := w
        have hg5 := zAr26 (k := v1) ⟨by omega, by omega⟩
        refine r_aald (pc := 32) (b := (73 + 2 * (v1).toNat)) (i := v1) (t0 := 6) (C := "LawnTrees$Sheet") dX11_read_32 s0_72 (by decide) ⟨hb4.1, hb4.2, (by decide)⟩ hg5.1 ?_
        have hg5 := hg5.2
        refine r_astore (pc := 33) (L' := [some (.ref 0), some (.int (zI v1)), some (.int (zI v2)), some (.int (zI v3)), some (.int (zI v4)), some (.ref (73 + 2 * (v1).toNat)), none, none, none, none, none, none]) dX11_read_33 (by decide) rfl ?_
        refine r_aload_n (pc := 35) (a := 0) dX11_read_35 rfl ?_
        refine r_getR (pc := 36) (b := 16) fl_X11_33 dX11_read_36 s0_0 rfl ?_
        refine r_getI (pc := 39) (fi := 2) (x := (h3 16 2)) fl_X11_126 dX11_read_39 s0_16 rfl (rfl) ?_
        refine r_istore (pc := 42) (L' := [some (.ref 0), some (.int (zI v1)), some (.int (zI v2)), some (.int (zI v3)), some (.int (zI v4)), some (.ref (73 + 2 * (v1).toNat)), some (.int (zI (h3 16 2))), none, none, none, none, none]) dX11_read_42 (by decide) rfl ?_
        refine r_iconst (pc := 44) dX11_read_44 ?_
        refine r_istore (pc := 45) (L' := [some (.ref 0), some (.int (zI v1)), some (.int (zI v2)), some (.int (zI v3)), some (.int (zI v4)), some (.ref (73 + 2 * (v1).toNat)), some (.int (zI (h3 16 2))), some (.int (zI 0)), none, none, none, none]) dX11_read_45 (by decide) rfl ?_
        refine r_iconst (pc := 47) dX11_read_47 ?_
        refine r_istore (pc := 48) (L' := [some (.ref 0), some (.int (zI v1)), some (.int (zI v2)), some (.int (zI v3)), some (.int (zI v4)), some (.ref (73 + 2 * (v1).toNat)), some (.int (zI (h3 16 2))), some (.int (zI 0)), some (.int (zI 0)), none, none, none]) dX11_read_48 (by decide) rfl ?_
        exact RR.sub (L' := [some (.ref 0), none, some (.int (zI v2)), some (.int (zI v3)), some (.int (zI v4)), some (.ref (73 + 2 * (v1).toNat)), some (.int (zI (h3 16 2))), some (.int (zI 0)), some (.int (zI 0)), none, none, none]) (zSb_of (⟨rfl, ⟨rfl, ⟨rfl, ⟨rfl, ⟨rfl, ⟨rfl, ⟨rfl, ⟨rfl, trivial⟩⟩⟩⟩⟩⟩⟩⟩)) w
      · have w := w.2 (bI_0.mp c)
        refine r_iconst (pc := 25) dX11_read_25 ?_
        exact r_iret (st := []) (pc := 26) (x := (-1)) (ty := .int) dX11_read_26 rfl rfl rfl (by decide) ⟨rfl, _, rfl, w⟩

set_option maxRecDepth 100000 in
set_option maxHeartbeats 4000000 in
theorem bX11_read_50 {h : zMm} {K : Int → zMm → Prop} {v2 : Int} {v3 : Int} {v4 : Int} {q5 : Nat} {v6 : Int} {v7 : Int} {v8 : Int} (hq5 : zS7 zS0 q5) (w : (zR v8 ∧ (zR v4 ∧ ((v4 ≤ v8 → K ((h 16 2) - v6) (zU h 0 15 v7)) ∧ (¬ v4 ≤ v8 → (zR v7 ∧ ((¬ v7 = 0 → K ((h 16 2) - v6) (zU h 0 15 v7)) ∧ (v7 = 0 → (zR v3 ∧ zCi mX7_faultOf [.ref q5, .int (zI v2), .long (zJ (v3 + (2 * v8)))] zS0 h (fun x10 h10 => (zR x10 ∧ ((¬ x10 = 0 → ((¬ x10 = 0 → RR mX11_read 0 0 50 [some (.ref 0), none, some (.int (zI v2)), some (.int (zI v3)), some (.int (zI v4)), some (.ref q5), some (.int (zI v6)), some (.int (zI x10)), some (.int (zI (v8 + 1))), none, none, none] [] zS0 h10 (zQi zS0 K)) ∧ (x10 = 0 → zCi mX11_moveFrom [.ref 0, .ref q5, .int (zI (v3 + (2 * v8))), .int (zI v8)] zS0 h10 (fun x12 h12 => (zR x12 ∧ ((x12 = 0 → RR mX11_read 0 0 50 [some (.ref 0), none, some (.int (zI v2)), some (.int (zI v3)), some (.int (zI v4)), some (.ref q5), some (.int (zI v6)), some (.int (zI x10)), some (.int (zI (v8 + 1))), none, none, none] [] zS0 h12 (zQi zS0 K)) ∧ (¬ x12 = 0 → K x12 (zU h12 16 2 v6)))))))) ∧ (x10 = 0 → zCi mX7_faultOf [.ref q5, .int (zI v2), .long (zJ ((v3 + (2 * v8)) + 1))] zS0 h10 (fun x14 h14 => (zR x14 ∧ ((¬ x14 = 0 → RR mX11_read 0 0 50 [some (.ref 0), none, some (.int (zI v2)), some (.int (zI v3)), some (.int (zI v4)), some (.ref q5), some (.int (zI v6)), some (.int (zI x14)), some (.int (zI (v8 + 1))), none, none, none] [] zS0 h14 (zQi zS0 K)) ∧ (x14 = 0 → zCi mX11_moveFrom [.ref 0, .ref q5, .int (zI (v3 + (2 * v8))), .int (zI v8)] zS0 h14 (fun x16 h16 => (zR x16 ∧ ((x16 = 0 → RR mX11_read 0 0 50 [some (.ref 0), none, some (.int (zI v2)), some (.int (zI v3)), some (.int (zI v4)), some (.ref q5), some (.int (zI v6)), some (.int (zI x14)), some (.int (zI (v8 + 1))), none, none, none] [] zS0 h16 (zQi zS0 K)) ∧ (¬ x16 = 0 → K x16 (zU h16 16 2 v6)))))))))))))))))))))) : RR mX11_read 0 0 50 [some (.ref 0), none, some (.int (zI v2)), some (.int (zI v3)), some (.int (zI v4)), some (.ref q5), some (.int (zI v6)), some (.int (zI v7)), some (.int (zI v8)), none, none, none] [] zS0 h (zQi zS0 K) := by
  refine r_iload (pc := 50) (x := v8) dX11_read_50 rfl ?_
  refine r_iload (pc := 52) (x := v4) dX11_read_52 rfl ?_
  obtain ⟨hr6, w⟩ := w
  obtain ⟨hr7, w⟩ := w
  refine r_icmp_ge (pc := 54) (x := v8) (y := v4) (tgt := 142) dX11_read_54 (by decide) hr6 hr7 (fun c => ?_) (fun c => ?_)
  · have w := w.1 (c)
    refine r_aload_n (pc := 142) (a := 0) dX11_read_142 rfl ?_
    refine r_iload (pc := 143) (x := v7) dX11_read_143 rfl ?_
    refine r_putI (pc := 145) (fi := 15) (x := v7) fl_X11_101 dX11_read_145 s0_0 rfl ?_
    refine r_aload_n (pc := 148) (a := 0) dX11_read_148 rfl ?_
    refine r_getR (pc := 149) (b := 16) fl_X11_33 dX11_read_149 s0_0 rfl ?_
    refine r_getI (pc := 152) (fi := 2) (x := (h 16 2)) fl_X11_126 dX11_read_152 s0_16 rfl (zU_ne (by omega)) ?_
    refine r_iload (pc := 155) (x := v6) dX11_read_155 rfl ?_
    refine r_isub (pc := 157) (x := (h 16 2)) (y := v6) dX11_read_157 ?_
    exact r_iret (st := []) (pc := 158) (x := ((h 16 2) - v6)) (ty := .int) dX11_read_158 rfl rfl rfl (by decide) ⟨rfl, _, rfl, w⟩
  · have w := w.2 (c)
    refine r_iload (pc := 57) (x := v7) dX11_read_57 rfl ?_
    obtain ⟨hr8, w⟩ := w
    refine r_if_ne (pc := 59) (x := v7) (tgt := 142) dX11_read_59 (by decide) hr8 (fun c => ?_) (fun c => ?_)
    · have w := w.1 (c)
      refine r_aload_n (pc := 142) (a := 0) dX11_read_142 rfl ?_
      refine r_iload (pc := 143) (x := v7) dX11_read_143 rfl ?_
      refine r_putI (pc := 145) (fi := 15) (x := v7) fl_X11_101 dX11_read_145 s0_0 rfl ?_
      refine r_aload_n (pc := 148) (a := 0) dX11_read_148 rfl ?_
      refine r_getR (pc := 149) (b := 16) fl_X11_33 dX11_read_149 s0_0 rfl ?_
      refine r_getI (pc := 152) (fi := 2) (x := (h 16 2)) fl_X11_126 dX11_read_152 s0_16 rfl (zU_ne (by omega)) ?_
      refine r_iload (pc := 155) (x := v6) dX11_read_155 rfl ?_
      refine r_isub (pc := 157) (x := (h 16 2)) (y := v6) dX11_read_157 ?_
      exact r_iret (st := []) (pc := 158) (x := ((h 16 2) - v6)) (ty := .int) dX11_read_158 rfl rfl rfl (by decide) ⟨rfl, _, rfl, w⟩
    · have w := w.2 (c)
      refine r_iload_n (pc := 62) (x := v3) dX11_read_62 rfl ?_
      obtain ⟨hr9, w⟩ := w
      refine r_i2l (pc := 63) (x := v3) dX11_read_63 hr9 ?_
      refine r_ldcL (pc := 64) (x := 2) dX11_read_64 kl_X11_392 ?_
      refine r_iload (pc := 67) (x := v8) dX11_read_67 rfl ?_
      refine r_i2l (pc := 69) (x := v8) dX11_read_69 hr6 ?_
      refine r_lmul (pc := 70) (x := 2) (y := v8) dX11_read_70 ?_
      refine r_ladd (pc := 71) (x := v3) (y := (2 * v8)) dX11_read_71 ?_
      refine r_lstore (pc := 72) (L' := [some (.ref 0), none, some (.int (zI v2)), some (.int (zI v3)), some (.int (zI v4)), some (.ref q5), some (.int (zI v6)), some (.int (zI v7)), some (.int (zI v8)), some (.long (zJ (v3 + (2 * v8)))), none, none]) dX11_read_72 (by decide) rfl ?_
      refine r_aload (pc := 74) (a := q5) dX11_read_74 rfl ?_
      refine r_iload_n (pc := 76) (x := v2) dX11_read_76 rfl ?_
      refine r_lload (pc := 77) (x := (v3 + (2 * v8))) dX11_read_77 rfl ?_
      refine r_callV (μ2 := mX7_faultOf) (pc := 79) (as := [.int (zI v2), .long (zJ (v3 + (2 * v8)))]) (st := []) rfl hq5.1 ml_X11_385 im_X7_faultOf se_X7_faultOf okX7_faultOf ⟨by decide, by decide⟩ dX11_read_79 (Nat.le_of_ble_eq_true rfl) rfl (Nat.le_of_ble_eq_true rfl) (by decide) (by decide) (zCC.mono w ?_)
      rintro r S' h10 ⟨rfl, x10, hr, w⟩
      subst hr
      show RR mX11_read 0 0 82 [some (.ref 0), none, some (.int (zI v2)), some (.int (zI v3)), some (.int (zI v4)), some (.ref q5), some (.int (zI v6)), some (.int (zI v7)), some (.int (zI v8)), some (.long (zJ (v3 + (2 * v8)))), none, none] [.int (zI x10)] zS0 h10 (zQi zS0 K)
      refine r_istore (pc := 82) (L' := [some (.ref 0), none, some (.int (zI v2)), some (.int (zI v3)), some (.int (zI v4)), some (.ref q5), some (.int (zI v6)), some (.int (zI x10)), some (.int (zI v8)), some (.long (zJ (v3 + (2 * v8)))), none, none]) dX11_read_82 (by decide) rfl ?_
      refine r_iload (pc := 84) (x := x10) dX11_read_84 rfl ?_
      obtain ⟨hr11, w⟩ := w
      refine r_if_ne (pc := 86) (x := x10) (tgt := 101) dX11_read_86 (by decide) hr11 (fun c => ?_) (fun c => ?_)
      · have w := w.1 (c)
        refine r_iload (pc := 101) (x := x10) dX11_read_101 rfl ?_
        refine r_if_ne (pc := 103) (x := x10) (tgt := 136) dX11_read_103 (by decide) hr11 (fun c => ?_) (fun c => ?_)
        · have w := w.1 (c)
          refine r_iinc (pc := 136) (x := v8) (L' := [some (.ref 0), none, some (.int (zI v2)), some (.int (zI v3)), some (.int (zI v4)), some (.ref q5), some (.int (zI v6)), some (.int (zI x10)), some (.int (zI (v8 + 1))), some (.long (zJ (v3 + (2 * v8)))), none, none]) dX11_read_136 rfl (by decide) rfl ?_
          refine r_goto (pc := 139) (tgt := 50) dX11_read_139 (by decide) ?_
          exact RR.sub (L' := [some (.ref 0), none, some (.int (zI v2)), some (.int (zI v3)), some (.int (zI v4)), some (.ref q5), some (.int (zI v6)), some (.int (zI x10)), some (.int (zI (v8 + 1))), none, none, none]) (zSb_of (⟨rfl, ⟨rfl, ⟨rfl, ⟨rfl, ⟨rfl, ⟨rfl, ⟨rfl, ⟨rfl, trivial⟩⟩⟩⟩⟩⟩⟩⟩)) w
        · have w := w.2 (c)
          refine r_aload_n (pc := 106) (a := 0) dX11_read_106 rfl ?_
          refine r_aload (pc := 107) (a := q5) dX11_read_107 rfl ?_
          refine r_lload (pc := 109) (x := (v3 + (2 * v8))) dX11_read_109 rfl ?_
          refine r_l2i (pc := 111) (x := (v3 + (2 * v8))) dX11_read_111 ?_
          refine r_iload (pc := 112) (x := v8) dX11_read_112 rfl ?_
          refine r_callV (μ2 := mX11_moveFrom) (pc := 114) (as := [.ref q5, .int (zI (v3 + (2 * v8))), .int (zI v8)]) (st := []) rfl s0_0 ml_X11_394 im_X11_moveFrom se_X11_moveFrom okX11_moveFrom ⟨by decide, by decide⟩ dX11_read_114 (Nat.le_of_ble_eq_true rfl) rfl (Nat.le_of_ble_eq_true rfl) (by decide) (by decide) (zCC.mono w ?_)
          rintro r S' h12 ⟨rfl, x12, hr, w⟩
          subst hr
          show RR mX11_read 0 0 117 [some (.ref 0), none, some (.int (zI v2)), some (.int (zI v3)), some (.int (zI v4)), some (.ref q5), some (.int (zI v6)), some (.int (zI x10)), some (.int (zI v8)), some (.long (zJ (v3 + (2 * v8)))), none, none] [.int (zI x12)] zS0 h12 (zQi zS0 K)
          refine r_istore (pc := 117) (L' := [some (.ref 0), none, some (.int (zI v2)), some (.int (zI v3)), some (.int (zI v4)), some (.ref q5), some (.int (zI v6)), some (.int (zI x10)), some (.int (zI v8)), some (.long (zJ (v3 + (2 * v8)))), none, some (.int (zI x12))]) dX11_read_117 (by decide) rfl ?_
          refine r_iload (pc := 119) (x := x12) dX11_read_119 rfl ?_
          obtain ⟨hr13, w⟩ := w
          refine r_if_eq (pc := 121) (x := x12) (tgt := 136) dX11_read_121 (by decide) hr13 (fun c => ?_) (fun c => ?_)
          · have w := w.1 (c)
            refine r_iinc (pc := 136) (x := v8) (L' := [some (.ref 0), none, some (.int (zI v2)), some (.int (zI v3)), some (.int (zI v4)), some (.ref q5), some (.int (zI v6)), some (.int (zI x10)), some (.int (zI (v8 + 1))), some (.long (zJ (v3 + (2 * v8)))), none, some (.int (zI x12))]) dX11_read_136 rfl (by decide) rfl ?_
            refine r_goto (pc := 139) (tgt := 50) dX11_read_139 (by decide) ?_
            exact RR.sub (L' := [some (.ref 0), none, some (.int (zI v2)), some (.int (zI v3)), some (.int (zI v4)), some (.ref q5), some (.int (zI v6)), some (.int (zI x10)), some (.int (zI (v8 + 1))), none, none, none]) (zSb_of (⟨rfl, ⟨rfl, ⟨rfl, ⟨rfl, ⟨rfl, ⟨rfl, ⟨rfl, ⟨rfl, trivial⟩⟩⟩⟩⟩⟩⟩⟩)) w
          · have w := w.2 (c)
            refine r_aload_n (pc := 124) (a := 0) dX11_read_124 rfl ?_
            refine r_getR (pc := 125) (b := 16) fl_X11_33 dX11_read_125 s0_0 rfl ?_
            refine r_iload (pc := 128) (x := v6) dX11_read_128 rfl ?_
            refine r_putI (pc := 130) (fi := 2) (x := v6) fl_X11_126 dX11_read_130 s0_16 rfl ?_
            refine r_iload (pc := 133) (x := x12) dX11_read_133 rfl ?_
            exact r_iret (st := []) (pc := 135) (x := x12) (ty := .int) dX11_read_135 rfl rfl rfl (by decide) ⟨rfl, _, rfl, w⟩
      · have w := w.2 (c)
        refine r_aload (pc := 89) (a := q5) dX11_read_89 rfl ?_
        refine r_iload_n (pc := 91) (x := v2) dX11_read_91 rfl ?_
        refine r_lload (pc := 92) (x := (v3 + (2 * v8))) dX11_read_92 rfl ?_
        refine r_lconst (pc := 94) (x := 1) dX11_read_94 rfl ?_
        refine r_ladd (pc := 95) (x := (v3 + (2 * v8))) (y := 1) dX11_read_95 ?_
        refine r_callV (μ2 := mX7_faultOf) (pc := 96) (as := [.int (zI v2), .long (zJ ((v3 + (2 * v8)) + 1))]) (st := []) rfl hq5.1 ml_X11_385 im_X7_faultOf se_X7_faultOf okX7_faultOf ⟨by decide, by decide⟩ dX11_read_96 (Nat.le_of_ble_eq_true rfl) rfl (Nat.le_of_ble_eq_true rfl) (by decide) (by decide) (zCC.mono w ?_)
        rintro r S' h14 ⟨rfl, x14, hr, w⟩
        subst hr
        show RR mX11_read 0 0 99 [some (.ref 0), none, some (.int (zI v2)), some (.int (zI v3)), some (.int (zI v4)), some (.ref q5), some (.int (zI v6)), some (.int (zI x10)), some (.int (zI v8)), some (.long (zJ (v3 + (2 * v8)))), none, none] [.int (zI x14)] zS0 h14 (zQi zS0 K)
        refine r_istore (pc := 99) (L' := [some (.ref 0), none, some (.int (zI v2)), some (.int (zI v3)), some (.int (zI v4)), some (.ref q5), some (.int (zI v6)), some (.int (zI x14)), some (.int (zI v8)), some (.long (zJ (v3 + (2 * v8)))), none, none]) dX11_read_99 (by decide) rfl ?_
        refine r_iload (pc := 101) (x := x14) dX11_read_101 rfl ?_
        obtain ⟨hr15, w⟩ := w
        refine r_if_ne (pc := 103) (x := x14) (tgt := 136) dX11_read_103 (by decide) hr15 (fun c => ?_) (fun c => ?_)
        · have w := w.1 (c)
          refine r_iinc (pc := 136) (x := v8) (L' := [some (.ref 0), none, some (.int (zI v2)), some (.int (zI v3)), some (.int (zI v4)), some (.ref q5), some (.int (zI v6)), some (.int (zI x14)), some (.int (zI (v8 + 1))), some (.long (zJ (v3 + (2 * v8)))), none, none]) dX11_read_136 rfl (by decide) rfl ?_
          refine r_goto (pc := 139) (tgt := 50) dX11_read_139 (by decide) ?_
          exact RR.sub (L' := [some (.ref 0), none, some (.int (zI v2)), some (.int (zI v3)), some (.int (zI v4)), some (.ref q5), some (.int (zI v6)), some (.int (zI x14)), some (.int (zI (v8 + 1))), none, none, none]) (zSb_of (⟨rfl, ⟨rfl, ⟨rfl, ⟨rfl, ⟨rfl, ⟨rfl, ⟨rfl, ⟨rfl, trivial⟩⟩⟩⟩⟩⟩⟩⟩)) w
        · have w := w.2 (c)
          refine r_aload_n (pc := 106) (a := 0) dX11_read_106 rfl ?_
          refine r_aload (pc := 107) (a := q5) dX11_read_107 rfl ?_
          refine r_lload (pc := 109) (x := (v3 + (2 * v8))) dX11_read_109 rfl ?_
          refine r_l2i (pc := 111) (x := (v3 + (2 * v8))) dX11_read_111 ?_
          refine r_iload (pc := 112) (x := v8) dX11_read_112 rfl ?_
          refine r_callV (μ2 := mX11_moveFrom) (pc := 114) (as := [.ref q5, .int (zI (v3 + (2 * v8))), .int (zI v8)]) (st := []) rfl s0_0 ml_X11_394 im_X11_moveFrom se_X11_moveFrom okX11_moveFrom ⟨by decide, by decide⟩ dX11_read_114 (Nat.le_of_ble_eq_true rfl) rfl (Nat.le_of_ble_eq_true rfl) (by decide) (by decide) (zCC.mono w ?_)
          rintro r S' h16 ⟨rfl, x16, hr, w⟩
          subst hr
          show RR mX11_read 0 0 117 [some (.ref 0), none, some (.int (zI v2)), some (.int (zI v3)), some (.int (zI v4)), some (.ref q5), some (.int (zI v6)), some (.int (zI x14)), some (.int (zI v8)), some (.long (zJ (v3 + (2 * v8)))), none, none] [.int (zI x16)] zS0 h16 (zQi zS0 K)
          refine r_istore (pc := 117) (L' := [some (.ref 0), none, some (.int (zI v2)), some (.int (zI v3)), some (.int (zI v4)), some (.ref q5), some (.int (zI v6)), some (.int (zI x14)), some (.int (zI v8)), some (.long (zJ (v3 + (2 * v8)))), none, some (.int (zI x16))]) dX11_read_117 (by decide) rfl ?_
          refine r_iload (pc := 119) (x := x16) dX11_read_119 rfl ?_
          obtain ⟨hr17, w⟩ := w
          refine r_if_eq (pc := 121) (x := x16) (tgt := 136) dX11_read_121 (by decide) hr17 (fun c => ?_) (fun c => ?_)
          · have w := w.1 (c)
            refine r_iinc (pc := 136) (x := v8) (L' := [some (.ref 0), none, some (.int (zI v2)), some (.int (zI v3)), some (.int (zI v4)), some (.ref q5), some (.int (zI v6)), some (.int (zI x14)), some (.int (zI (v8 + 1))), some (.long (zJ (v3 + (2 * v8)))), none, some (.int (zI x16))]) dX11_read_136 rfl (by decide) rfl ?_
            refine r_goto (pc := 139) (tgt := 50) dX11_read_139 (by decide) ?_
            exact RR.sub (L' := [some (.ref 0), none, some (.int (zI v2)), some (.int (zI v3)), some (.int (zI v4)), some (.ref q5), some (.int (zI v6)), some (.int (zI x14)), some (.int (zI (v8 + 1))), none, none, none]) (zSb_of (⟨rfl, ⟨rfl, ⟨rfl, ⟨rfl, ⟨rfl, ⟨rfl, ⟨rfl, ⟨rfl, trivial⟩⟩⟩⟩⟩⟩⟩⟩)) w
          · have w := w.2 (c)
            refine r_aload_n (pc := 124) (a := 0) dX11_read_124 rfl ?_
            refine r_getR (pc := 125) (b := 16) fl_X11_33 dX11_read_125 s0_0 rfl ?_
            refine r_iload (pc := 128) (x := v6) dX11_read_128 rfl ?_
            refine r_putI (pc := 130) (fi := 2) (x := v6) fl_X11_126 dX11_read_130 s0_16 rfl ?_
            refine r_iload (pc := 133) (x := x16) dX11_read_133 rfl ?_
            exact r_iret (st := []) (pc := 135) (x := x16) (ty := .int) dX11_read_135 rfl rfl rfl (by decide) ⟨rfl, _, rfl, w⟩

set_option maxRecDepth 100000 in
set_option maxHeartbeats 4000000 in
theorem wX11_torn {h : zMm} {K : Int → zMm → Prop} (w : K (h 0 15) h) : zCi mX11_torn [.ref 0] zS0 h K := by
  show RR mX11_torn 0 0 0 [some (.ref 0)] [] zS0 h (zQi zS0 K)
  refine r_aload_n (pc := 0) (a := 0) dX11_torn_0 rfl ?_
  refine r_getI (pc := 1) (fi := 15) (x := (h 0 15)) fl_X11_101 dX11_torn_1 s0_0 rfl (rfl) ?_
  exact r_iret (st := []) (pc := 4) (x := (h 0 15)) (ty := .int) dX11_torn_4 rfl rfl rfl (by decide) ⟨rfl, _, rfl, w⟩

set_option maxRecDepth 100000 in
set_option maxHeartbeats 4000000 in
theorem wX11_count {h : zMm} {K : Int → zMm → Prop} {v1 : Int} (w : (zR v1 ∧ ((v1 = 0 → zCi mX3_grassCells [.ref 10] zS0 h (fun x2 h2 => K x2 h2)) ∧ (v1 = 1 → zCi mX3_barredCells [.ref 10] zS0 h (fun x3 h3 => K x3 h3)) ∧ (v1 = 2 → K (h 16 2) h) ∧ (v1 = 3 → (zR (h 71 0) ∧ (zR (h 71 1) ∧ K ((bI (if (h 71 0) = 0 then false else true)) + (bI (if (h 71 1) = 0 then false else true))) h))) ∧ (v1 = 4 → K (h 1 1) h) ∧ (v1 = 5 → zCb mX7_isNothing [.ref 73] zS0 h (fun b8 h8 => ((b8 = false → K (h8 73 2) h8) ∧ (b8 = true → K (-4) h8)))) ∧ (v1 = 6 → zCi mX3_heightsSummed [.ref 10] zS0 h (fun x9 h9 => K x9 h9)) ∧ (v1 < 0 ∨ 6 < v1 → K (-1) h)))) : zCi mX11_count [.ref 0, .int (zI v1)] zS0 h K := by
  show RR mX11_count 0 0 0 [some (.ref 0), some (.int (zI v1))] [] zS0 h (zQi zS0 K)
  refine r_iload_n (pc := 0) (x := v1) dX11_count_0 rfl ?_
  obtain ⟨hr1, w⟩ := w
  rcases (show v1 = 0 ∨ v1 = 1 ∨ v1 = 2 ∨ v1 = 3 ∨ v1 = 4 ∨ v1 = 5 ∨ v1 = 6 ∨ (v1 < 0 ∨ 6 < v1) by omega) with hcs | hcs | hcs | hcs | hcs | hcs | hcs | hcs
  · have w := w.1 hcs
    refine r_tswIn (pc := 1) (x := v1) (tgt := 44) dX11_count_1 hr1 (by omega) (by omega) (by rw [hcs]; rfl) (by decide) ?_
    refine r_aload_n (pc := 44) (a := 0) dX11_count_44 rfl ?_
    refine r_getR (pc := 45) (b := 10) fl_X11_26 dX11_count_45 s0_0 rfl ?_
    refine r_callV (μ2 := mX3_grassCells) (pc := 48) (as := []) (st := []) rfl s0_10 ml_X11_284 im_X3_grassCells se_X3_grassCells okX3_grassCells ⟨by decide, by decide⟩ dX11_count_48 (Nat.le_of_ble_eq_true rfl) rfl (Nat.le_of_ble_eq_true rfl) (by decide) (by decide) (zCC.mono w ?_)
    rintro r S' h2 ⟨rfl, x2, hr, w⟩
    subst hr
    show RR mX11_count 0 0 51 [some (.ref 0), some (.int (zI v1))] [.int (zI x2)] zS0 h2 (zQi zS0 K)
    exact r_iret (st := []) (pc := 51) (x := x2) (ty := .int) dX11_count_51 rfl rfl rfl (by decide) ⟨rfl, _, rfl, w⟩
  · have w := w.2.1 hcs
    refine r_tswIn (pc := 1) (x := v1) (tgt := 52) dX11_count_1 hr1 (by omega) (by omega) (by rw [hcs]; rfl) (by decide) ?_
    refine r_aload_n (pc := 52) (a := 0) dX11_count_52 rfl ?_
    refine r_getR (pc := 53) (b := 10) fl_X11_26 dX11_count_53 s0_0 rfl ?_
    refine r_callV (μ2 := mX3_barredCells) (pc := 56) (as := []) (st := []) rfl s0_10 ml_X11_401 im_X3_barredCells se_X3_barredCells okX3_barredCells ⟨by decide, by decide⟩ dX11_count_56 (Nat.le_of_ble_eq_true rfl) rfl (Nat.le_of_ble_eq_true rfl) (by decide) (by decide) (zCC.mono w ?_)
    rintro r S' h3 ⟨rfl, x3, hr, w⟩
    subst hr
    show RR mX11_count 0 0 59 [some (.ref 0), some (.int (zI v1))] [.int (zI x3)] zS0 h3 (zQi zS0 K)
    exact r_iret (st := []) (pc := 59) (x := x3) (ty := .int) dX11_count_59 rfl rfl rfl (by decide) ⟨rfl, _, rfl, w⟩
  · have w := w.2.2.1 hcs
    refine r_tswIn (pc := 1) (x := v1) (tgt := 60) dX11_count_1 hr1 (by omega) (by omega) (by rw [hcs]; rfl) (by decide) ?_
    refine r_aload_n (pc := 60) (a := 0) dX11_count_60 rfl ?_
    refine r_getR (pc := 61) (b := 16) fl_X11_33 dX11_count_61 s0_0 rfl ?_
    refine r_getI (pc := 64) (fi := 2) (x := (h 16 2)) fl_X11_126 dX11_count_64 s0_16 rfl (rfl) ?_
    exact r_iret (st := []) (pc := 67) (x := (h 16 2)) (ty := .int) dX11_count_67 rfl rfl rfl (by decide) ⟨rfl, _, rfl, w⟩
  · have w := w.2.2.2.1 hcs
    refine r_tswIn (pc := 1) (x := v1) (tgt := 68) dX11_count_1 hr1 (by omega) (by omega) (by rw [hcs]; rfl) (by decide) ?_
    refine r_aload_n (pc := 68) (a := 0) dX11_count_68 rfl ?_
    refine r_getR (pc := 69) (b := 71) fl_X11_90 dX11_count_69 s0_0 rfl ?_
    refine r_iconst (pc := 72) dX11_count_72 ?_
    refine r_zald (pc := 73) (i := 0) (x := (h 71 0)) dX11_count_73 s0_71 (by decide) (rfl) ?_
    obtain ⟨hr4, w⟩ := w
    have kk7 : RR mX11_count 0 0 82 [some (.ref 0), some (.int (zI v1))] [.int (zI (bI (if (h 71 0) = 0 then false else true)))] zS0 h (zQi zS0 K) := by
      refine r_aload_n (pc := 82) (a := 0) dX11_count_82 rfl ?_
      refine r_getR (pc := 83) (b := 71) fl_X11_90 dX11_count_83 s0_0 rfl ?_
      refine r_iconst (pc := 86) dX11_count_86 ?_
      refine r_zald (pc := 87) (i := 1) (x := (h 71 1)) dX11_count_87 s0_71 (by decide) (rfl) ?_
      obtain ⟨hr5, w⟩ := w
      have kk6 : RR mX11_count 0 0 96 [some (.ref 0), some (.int (zI v1))] [.int (zI (bI (if (h 71 1) = 0 then false else true))), .int (zI (bI (if (h 71 0) = 0 then false else true)))] zS0 h (zQi zS0 K) := by
        refine r_iadd (pc := 96) (x := (bI (if (h 71 0) = 0 then false else true))) (y := (bI (if (h 71 1) = 0 then false else true))) dX11_count_96 ?_
        exact r_iret (st := []) (pc := 97) (x := ((bI (if (h 71 0) = 0 then false else true)) + (bI (if (h 71 1) = 0 then false else true)))) (ty := .int) dX11_count_97 rfl rfl rfl (by decide) ⟨rfl, _, rfl, w⟩
      refine r_if_eq (pc := 88) (x := (h 71 1)) (tgt := 95) dX11_count_88 (by decide) hr5 (fun c => ?_) (fun c => ?_)
      · refine r_iconst (pc := 95) dX11_count_95 ?_
        simp only [if_pos (c)] at kk6 ⊢
        exact kk6
      · refine r_iconst (pc := 91) dX11_count_91 ?_
        refine r_goto (pc := 92) (tgt := 96) dX11_count_92 (by decide) ?_
        simp only [if_neg (c)] at kk6 ⊢
        exact kk6
    refine r_if_eq (pc := 74) (x := (h 71 0)) (tgt := 81) dX11_count_74 (by decide) hr4 (fun c => ?_) (fun c => ?_)
    · refine r_iconst (pc := 81) dX11_count_81 ?_
      simp only [if_pos (c)] at kk7 ⊢
      exact kk7
    · refine r_iconst (pc := 77) dX11_count_77 ?_
      refine r_goto (pc := 78) (tgt := 82) dX11_count_78 (by decide) ?_
      simp only [if_neg (c)] at kk7 ⊢
      exact kk7
  · have w := w.2.2.2.2.1 hcs
    refine r_tswIn (pc := 1) (x := v1) (tgt := 98) dX11_count_1 hr1 (by omega) (by omega) (by rw [hcs]; rfl) (by decide) ?_
    refine r_aload_n (pc := 98) (a := 0) dX11_count_98 rfl ?_
    refine r_getR (pc := 99) (b := 1) fl_X11_12 dX11_count_99 s0_0 rfl ?_
    refine r_getI (pc := 102) (fi := 1) (x := (h 1 1)) fl_X11_109 dX11_count_102 s0_1 rfl (rfl) ?_
    exact r_iret (st := []) (pc := 105) (x := (h 1 1)) (ty := .int) dX11_count_105 rfl rfl rfl (by decide) ⟨rfl, _, rfl, w⟩
  · have w := w.2.2.2.2.2.1 hcs
    refine r_tswIn (pc := 1) (x := v1) (tgt := 106) dX11_count_1 hr1 (by omega) (by omega) (by rw [hcs]; rfl) (by decide) ?_
    refine r_aload_n (pc := 106) (a := 0) dX11_count_106 rfl ?_
    refine r_getR (pc := 107) (b := 72) fl_X11_97 dX11_count_107 s0_0 rfl ?_
    refine r_iconst (pc := 110) dX11_count_110 ?_
    refine r_aald (pc := 111) (b := 73) (i := 0) (t0 := 6) (C := "LawnTrees$Sheet") dX11_count_111 s0_72 (by decide) (by decide) rfl ?_
    refine r_callV (μ2 := mX7_isNothing) (pc := 112) (as := []) (st := []) rfl s0_73 ml_X11_404 im_X7_isNothing se_X7_isNothing okX7_isNothing ⟨by decide, by decide⟩ dX11_count_112 (Nat.le_of_ble_eq_true rfl) rfl (Nat.le_of_ble_eq_true rfl) (by decide) (by decide) (zCC.mono w ?_)
    rintro r S' h8 ⟨rfl, b8, hr, w⟩
    subst hr
    show RR mX11_count 0 0 115 [some (.ref 0), some (.int (zI v1))] [.int (zI (bI b8))] zS0 h8 (zQi zS0 K)
    refine r_if_eq (pc := 115) (x := (bI b8)) (tgt := 123) dX11_count_115 (by decide) (bI_R _) (fun c => ?_) (fun c => ?_)
    · have w := w.1 (bI_0.mp c)
      refine r_aload_n (pc := 123) (a := 0) dX11_count_123 rfl ?_
      refine r_getR (pc := 124) (b := 72) fl_X11_97 dX11_count_124 s0_0 rfl ?_
      refine r_iconst (pc := 127) dX11_count_127 ?_
      refine r_aald (pc := 128) (b := 73) (i := 0) (t0 := 6) (C := "LawnTrees$Sheet") dX11_count_128 s0_72 (by decide) (by decide) rfl ?_
      refine r_getI (pc := 129) (fi := 2) (x := (h8 73 2)) fl_X11_407 dX11_count_129 s0_73 rfl (rfl) ?_
      exact r_iret (st := []) (pc := 132) (x := (h8 73 2)) (ty := .int) dX11_count_132 rfl rfl rfl (by decide) ⟨rfl, _, rfl, w⟩
    · have w := w.2 (bI_n.mp c)
      refine r_bipush (pc := 118) (x := (-4)) dX11_count_118 (by decide) ?_
      refine r_goto (pc := 120) (tgt := 132) dX11_count_120 (by decide) ?_
      exact r_iret (st := []) (pc := 132) (x := (-4)) (ty := .int) dX11_count_132 rfl rfl rfl (by decide) ⟨rfl, _, rfl, w⟩
  · have w := w.2.2.2.2.2.2.1 hcs
    refine r_tswIn (pc := 1) (x := v1) (tgt := 133) dX11_count_1 hr1 (by omega) (by omega) (by rw [hcs]; rfl) (by decide) ?_
    refine r_aload_n (pc := 133) (a := 0) dX11_count_133 rfl ?_
    refine r_getR (pc := 134) (b := 10) fl_X11_26 dX11_count_134 s0_0 rfl ?_
    refine r_callV (μ2 := mX3_heightsSummed) (pc := 137) (as := []) (st := []) rfl s0_10 ml_X11_408 im_X3_heightsSummed se_X3_heightsSummed okX3_heightsSummed ⟨by decide, by decide⟩ dX11_count_137 (Nat.le_of_ble_eq_true rfl) rfl (Nat.le_of_ble_eq_true rfl) (by decide) (by decide) (zCC.mono w ?_)
    rintro r S' h9 ⟨rfl, x9, hr, w⟩
    subst hr
    show RR mX11_count 0 0 140 [some (.ref 0), some (.int (zI v1))] [.int (zI x9)] zS0 h9 (zQi zS0 K)
    exact r_iret (st := []) (pc := 140) (x := x9) (ty := .int) dX11_count_140 rfl rfl rfl (by decide) ⟨rfl, _, rfl, w⟩
  · have w := w.2.2.2.2.2.2.2 hcs
    refine r_tswOut (pc := 1) (x := v1) (tgt := 141) dX11_count_1 hr1 (by omega) (by decide) ?_
    refine r_iconst (pc := 141) dX11_count_141 ?_
    exact r_iret (st := []) (pc := 142) (x := (-1)) (ty := .int) dX11_count_142 rfl rfl rfl (by decide) ⟨rfl, _, rfl, w⟩
