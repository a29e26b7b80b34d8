set_option maxRecDepth 100000 in
set_option maxHeartbeats 4000000 in
theorem wX5_stepsOf {S : zSh} {h : zMm} {K : Int → zMm → Prop} {o0 : Nat} {v1 : Int} (hg0 : zM5 S o0) (w : zCb mX11_isWithin [.int (zI v1), .int (zI 0), .int (zI ((h o0 2) - 1))] S h (fun b1 h1 => ((b1 = false → K (-1) h1) ∧ (b1 = true → ((0 ≤ v1 ∧ v1 < 24) ∧ K (h1 (o0 + 2) v1) h1))))) : zCi mX5_stepsOf [.ref o0, .int (zI v1)] S h K := by
  show RR mX5_stepsOf 0 0 0 [some (.ref o0), some (.int (zI v1))] [] S h (zQi S K)
  refine r_iload_n (pc := 0) (x := v1) dX5_stepsOf_0 rfl ?_
  refine r_iconst (pc := 1) dX5_stepsOf_1 ?_
  refine r_aload_n (pc := 2) (a := o0) dX5_stepsOf_2 rfl ?_
  refine r_getI (pc := 3) (fi := 2) (x := (h o0 2)) fl_X5_18 dX5_stepsOf_3 hg0.1 rfl (rfl) ?_
  refine r_iconst (pc := 6) dX5_stepsOf_6 ?_
  refine r_isub (pc := 7) (x := (h o0 2)) (y := 1) dX5_stepsOf_7 ?_
  refine r_callSN (μ2 := mX11_isWithin) (pc := 8) (as := [.int (zI v1), .int (zI 0), .int (zI ((h o0 2) - 1))]) (st := []) mn_X5_33 sm_X11_isWithin okX11_isWithin ⟨by decide, by decide⟩ dX5_stepsOf_8 (Nat.le_of_ble_eq_true rfl) rfl (Nat.le_of_ble_eq_true rfl) (by decide) (by decide) (zCC.mono w ?_)
  rintro r S' h1 ⟨rfl, b1, hr, w⟩
  subst hr
  show RR mX5_stepsOf 0 0 11 [some (.ref o0), some (.int (zI v1))] [.int (zI (bI b1))] S h1 (zQi S K)
  refine r_if_eq (pc := 11) (x := (bI b1)) (tgt := 23) dX5_stepsOf_11 (by decide) (bI_R _) (fun c => ?_) (fun c => ?_)
  · have w := w.1 (bI_0.mp c)
    refine r_iconst (pc := 23) dX5_stepsOf_23 ?_
    exact r_iret (st := []) (pc := 24) (x := (-1)) (ty := .int) dX5_stepsOf_24 rfl rfl rfl (by decide) ⟨rfl, _, rfl, w⟩
  · have w := w.2 (bI_n.mp c)
    refine r_aload_n (pc := 14) (a := o0) dX5_stepsOf_14 rfl ?_
    refine r_getR (pc := 15) (b := (o0 + 2)) fl_X5_15 dX5_stepsOf_15 hg0.1 rfl ?_
    refine r_iload_n (pc := 18) (x := v1) dX5_stepsOf_18 rfl ?_
    obtain ⟨hb2, w⟩ := w
    refine r_iald (pc := 19) (i := v1) (x := (h1 (o0 + 2) v1)) dX5_stepsOf_19 hg0.2.2 ⟨hb2.1, hb2.2, (by decide)⟩ (rfl) ?_
    refine r_goto (pc := 20) (tgt := 24) dX5_stepsOf_20 (by decide) ?_
    exact r_iret (st := []) (pc := 24) (x := (h1 (o0 + 2) v1)) (ty := .int) dX5_stepsOf_24 rfl rfl rfl (by decide) ⟨rfl, _, rfl, w⟩

set_option maxRecDepth 100000 in
set_option maxHeartbeats 4000000 in
theorem wX5_wayOf {S : zSh} {h : zMm} {K : Int → zMm → Prop} {o0 : Nat} {v1 : Int} (hg0 : zM5 S o0) (w : zCb mX11_isWithin [.int (zI v1), .int (zI 0), .int (zI ((h o0 2) - 1))] S h (fun b1 h1 => ((b1 = false → K (-1) h1) ∧ (b1 = true → ((0 ≤ v1 ∧ v1 < 24) ∧ K (h1 (o0 + 1) v1) h1))))) : zCi mX5_wayOf [.ref o0, .int (zI v1)] S h K := by
  show RR mX5_wayOf 0 0 0 [some (.ref o0), some (.int (zI v1))] [] S h (zQi S K)
  refine r_iload_n (pc := 0) (x := v1) dX5_wayOf_0 rfl ?_
  refine r_iconst (pc := 1) dX5_wayOf_1 ?_
  refine r_aload_n (pc := 2) (a := o0) dX5_wayOf_2 rfl ?_
  refine r_getI (pc := 3) (fi := 2) (x := (h o0 2)) fl_X5_18 dX5_wayOf_3 hg0.1 rfl (rfl) ?_
  refine r_iconst (pc := 6) dX5_wayOf_6 ?_
  refine r_isub (pc := 7) (x := (h o0 2)) (y := 1) dX5_wayOf_7 ?_
  refine r_callSN (μ2 := mX11_isWithin) (pc := 8) (as := [.int (zI v1), .int (zI 0), .int (zI ((h o0 2) - 1))]) (st := []) mn_X5_33 sm_X11_isWithin okX11_isWithin ⟨by decide, by decide⟩ dX5_wayOf_8 (Nat.le_of_ble_eq_true rfl) rfl (Nat.le_of_ble_eq_true rfl) (by decide) (by decide) (zCC.mono w ?_)
  rintro r S' h1 ⟨rfl, b1, hr, w⟩
  subst hr
  show RR mX5_wayOf 0 0 11 [some (.ref o0), some (.int (zI v1))] [.int (zI (bI b1))] S h1 (zQi S K)
  refine r_if_eq (pc := 11) (x := (bI b1)) (tgt := 23) dX5_wayOf_11 (by decide) (bI_R _) (fun c => ?_) (fun c => ?_)
  · have w := w.1 (bI_0.mp c)
    refine r_iconst (pc := 23) dX5_wayOf_23 ?_
    exact r_iret (st := []) (pc := 24) (x := (-1)) (ty := .int) dX5_wayOf_24 rfl rfl rfl (by decide) ⟨rfl, _, rfl, w⟩
  · have w := w.2 (bI_n.mp c)
    refine r_aload_n (pc := 14) (a := o0) dX5_wayOf_14 rfl ?_
    refine r_getR (pc := 15) (b := (o0 + 1)) fl_X5_9 dX5_wayOf_15 hg0.1 rfl ?_
    refine r_iload_n (pc := 18) (x := v1) dX5_wayOf_18 rfl ?_
    obtain ⟨hb2, w⟩ := w
    refine r_iald (pc := 19) (i := v1) (x := (h1 (o0 + 1) v1)) dX5_wayOf_19 hg0.2.1 ⟨hb2.1, hb2.2, (by decide)⟩ (rfl) ?_
    refine r_goto (pc := 20) (tgt := 24) dX5_wayOf_20 (by decide) ?_
    exact r_iret (st := []) (pc := 24) (x := (h1 (o0 + 1) v1)) (ty := .int) dX5_wayOf_24 rfl rfl rfl (by decide) ⟨rfl, _, rfl, w⟩

set_option maxRecDepth 100000 in
set_option maxHeartbeats 4000000 in
theorem wX5_append {S : zSh} {h : zMm} {K : Bool → zMm → Prop} {o0 : Nat} {v1 : Int} {v2 : Int} (hg0 : zM5 S o0) (w : (zR (h o0 2) ∧ (((h o0 2) < 24 → ((0 ≤ (h o0 2) ∧ (h o0 2) < 24) ∧ K true (zU (zU (zU h (o0 + 1) (h o0 2) v1) (o0 + 2) (h o0 2) v2) o0 2 ((h o0 2) + 1)))) ∧ (¬ (h o0 2) < 24 → K false h)))) : zCb mX5_append [.ref o0, .int (zI v1), .int (zI v2)] S h K := by
  show RR mX5_append 0 0 0 [some (.ref o0), some (.int (zI v1)), some (.int (zI v2))] [] S h (zQb S K)
  refine r_aload_n (pc := 0) (a := o0) dX5_append_0 rfl ?_
  refine r_getI (pc := 1) (fi := 2) (x := (h o0 2)) fl_X5_18 dX5_append_1 hg0.1 rfl (rfl) ?_
  refine r_bipush (pc := 4) (x := 24) dX5_append_4 (by decide) ?_
  obtain ⟨hr1, w⟩ := w
  refine r_icmp_lt (pc := 6) (x := (h o0 2)) (y := 24) (tgt := 11) dX5_append_6 (by decide) hr1 (by decide) (fun c => ?_) (fun c => ?_)
  · have w := w.1 (c)
    refine r_aload_n (pc := 11) (a := o0) dX5_append_11 rfl ?_
    refine r_getR (pc := 12) (b := (o0 + 1)) fl_X5_9 dX5_append_12 hg0.1 rfl ?_
    refine r_aload_n (pc := 15) (a := o0) dX5_append_15 rfl ?_
    refine r_getI (pc := 16) (fi := 2) (x := (h o0 2)) fl_X5_18 dX5_append_16 hg0.1 rfl (rfl) ?_
    refine r_iload_n (pc := 19) (x := v1) dX5_append_19 rfl ?_
    obtain ⟨hb2, w⟩ := w
    refine r_iast (pc := 20) (i := (h o0 2)) (x := v1) dX5_append_20 hg0.2.1 ⟨hb2.1, hb2.2, (by decide)⟩  ?_
    refine r_aload_n (pc := 21) (a := o0) dX5_append_21 rfl ?_
    refine r_getR (pc := 22) (b := (o0 + 2)) fl_X5_15 dX5_append_22 hg0.1 rfl ?_
    refine r_aload_n (pc := 25) (a := o0) dX5_append_25 rfl ?_
    refine r_getI (pc := 26) (fi := 2) (x := (h o0 2)) fl_X5_18 dX5_append_26 hg0.1 rfl (zU_ne (by omega)) ?_
    refine r_iload_n (pc := 29) (x := v2) dX5_append_29 rfl ?_
    refine r_iast (pc := 30) (i := (h o0 2)) (x := v2) dX5_append_30 hg0.2.2 ⟨by omega, by omega, (by decide)⟩  ?_
    refine r_aload_n (pc := 31) (a := o0) dX5_append_31 rfl ?_
    refine r_dup (pc := 32) rfl dX5_append_32 ?_
    refine r_getI (pc := 33) (fi := 2) (x := (h o0 2)) fl_X5_18 dX5_append_33 hg0.1 rfl ((zU_ne (by omega)).trans (zU_ne (by omega))) ?_
    refine r_iconst (pc := 36) dX5_append_36 ?_
    refine r_iadd (pc := 37) (x := (h o0 2)) (y := 1) dX5_append_37 ?_
    refine r_putI (pc := 38) (fi := 2) (x := ((h o0 2) + 1)) fl_X5_18 dX5_append_38 hg0.1 rfl ?_
    refine r_iconst (pc := 41) dX5_append_41 ?_
    exact r_iret (st := []) (pc := 42) (x := 1) (ty := .boolean) dX5_append_42 rfl (rfl) rfl (by decide) ⟨rfl, true, rfl, w⟩
  · have w := w.2 (c)
    refine r_iconst (pc := 9) dX5_append_9 ?_
    exact r_iret (st := []) (pc := 10) (x := 0) (ty := .boolean) dX5_append_10 rfl (rfl) rfl (by decide) ⟨rfl, false, rfl, w⟩

set_option maxRecDepth 100000 in
set_option maxHeartbeats 4000000 in
theorem wX5_appendStep {S : zSh} {h : zMm} {K : Bool → zMm → Prop} {o0 : Nat} {v1 : Int} (hg0 : zM5 S o0) (w : zCi mX5_wayOf [.ref o0, .int (zI ((h o0 2) - 1))] S h (fun x1 h1 => (zR x1 ∧ (zR v1 ∧ ((¬ x1 = v1 → zCb mX5_append [.ref o0, .int (zI v1), .int (zI 1)] S h1 (fun b4 h4 => K b4 h4)) ∧ (x1 = v1 → zCi mX5_stepsOf [.ref o0, .int (zI ((h o0 2) - 1))] S h1 (fun x5 h5 => (zR x5 ∧ ((5 ≤ x5 → zCb mX5_append [.ref o0, .int (zI v1), .int (zI 1)] S h5 (fun b7 h7 => K b7 h7)) ∧ (¬ 5 ≤ x5 → ((0 ≤ ((h o0 2) - 1) ∧ ((h o0 2) - 1) < 24) ∧ K true (zU h5 (o0 + 2) ((h o0 2) - 1) ((h5 (o0 + 2) ((h o0 2) - 1)) + 1))))))))))))) : zCb mX5_appendStep [.ref o0, .int (zI v1)] S h K := by
  show RR mX5_appendStep 0 0 0 [some (.ref o0), some (.int (zI v1)), none] [] S h (zQb S K)
  refine r_aload_n (pc := 0) (a := o0) dX5_appendStep_0 rfl ?_
  refine r_getI (pc := 1) (fi := 2) (x := (h o0 2)) fl_X5_18 dX5_appendStep_1 hg0.1 rfl (rfl) ?_
  refine r_iconst (pc := 4) dX5_appendStep_4 ?_
  refine r_isub (pc := 5) (x := (h o0 2)) (y := 1) dX5_appendStep_5 ?_
  refine r_istore_n (pc := 6) (L' := [some (.ref o0), some (.int (zI v1)), some (.int (zI ((h o0 2) - 1)))]) dX5_appendStep_6 (by decide) rfl ?_
  refine r_aload_n (pc := 7) (a := o0) dX5_appendStep_7 rfl ?_
  refine r_iload_n (pc := 8) (x := ((h o0 2) - 1)) dX5_appendStep_8 rfl ?_
  refine r_callV (μ2 := mX5_wayOf) (pc := 9) (as := [.int (zI ((h o0 2) - 1))]) (st := []) rfl hg0.1 ml_X5_22 im_X5_wayOf se_X5_wayOf okX5_wayOf ⟨by decide, by decide⟩ dX5_appendStep_9 (Nat.le_of_ble_eq_true rfl) rfl (Nat.le_of_ble_eq_true rfl) (by decide) (by decide) (zCC.mono w ?_)
  rintro r S' h1 ⟨rfl, x1, hr, w⟩
  subst hr
  show RR mX5_appendStep 0 0 12 [some (.ref o0), some (.int (zI v1)), some (.int (zI ((h o0 2) - 1)))] [.int (zI x1)] S h1 (zQb S K)
  refine r_iload_n (pc := 12) (x := v1) dX5_appendStep_12 rfl ?_
  obtain ⟨hr2, w⟩ := w
  obtain ⟨hr3, w⟩ := w
  refine r_icmp_ne (pc := 13) (x := x1) (y := v1) (tgt := 37) dX5_appendStep_13 (by decide) hr2 hr3 (fun c => ?_) (fun c => ?_)
  · have w := w.1 (c)
    refine r_aload_n (pc := 37) (a := o0) dX5_appendStep_37 rfl ?_
    refine r_iload_n (pc := 38) (x := v1) dX5_appendStep_38 rfl ?_
    refine r_iconst (pc := 39) dX5_appendStep_39 ?_
    refine r_callV (μ2 := mX5_append) (pc := 40) (as := [.int (zI v1), .int (zI 1)]) (st := []) rfl hg0.1 ml_X5_29 im_X5_append se_X5_append okX5_append ⟨by decide, by decide⟩ dX5_appendStep_40 (Nat.le_of_ble_eq_true rfl) rfl (Nat.le_of_ble_eq_true rfl) (by decide) (by decide) (zCC.mono w ?_)
    rintro r S' h4 ⟨rfl, b4, hr, w⟩
    subst hr
    show RR mX5_appendStep 0 0 43 [some (.ref o0), some (.int (zI v1)), some (.int (zI ((h o0 2) - 1)))] [.int (zI (bI b4))] S h4 (zQb S K)
    exact r_iret (st := []) (pc := 43) (x := (bI b4)) (ty := .boolean) dX5_appendStep_43 rfl (bI_nar _) rfl (by decide) ⟨rfl, b4, rfl, w⟩
  · have w := w.2 (c)
    refine r_aload_n (pc := 16) (a := o0) dX5_appendStep_16 rfl ?_
    refine r_iload_n (pc := 17) (x := ((h o0 2) - 1)) dX5_appendStep_17 rfl ?_
    refine r_callV (μ2 := mX5_stepsOf) (pc := 18) (as := [.int (zI ((h o0 2) - 1))]) (st := []) rfl hg0.1 ml_X5_26 im_X5_stepsOf se_X5_stepsOf okX5_stepsOf ⟨by decide, by decide⟩ dX5_appendStep_18 (Nat.le_of_ble_eq_true rfl) rfl (Nat.le_of_ble_eq_true rfl) (by decide) (by decide) (zCC.mono w ?_)
    rintro r S' h5 ⟨rfl, x5, hr, w⟩
    subst hr
    show RR mX5_appendStep 0 0 21 [some (.ref o0), some (.int (zI v1)), some (.int (zI ((h o0 2) - 1)))] [.int (zI x5)] S h5 (zQb S K)
    refine r_iconst (pc := 21) dX5_appendStep_21 ?_
    obtain ⟨hr6, w⟩ := w
    refine r_icmp_ge (pc := 22) (x := x5) (y := 5) (tgt := 37) dX5_appendStep_22 (by decide) hr6 (by decide) (fun c => ?_) (fun c => ?_)
    · have w := w.1 (c)
      refine r_aload_n (pc := 37) (a := o0) dX5_appendStep_37 rfl ?_
      refine r_iload_n (pc := 38) (x := v1) dX5_appendStep_38 rfl ?_
      refine r_iconst (pc := 39) dX5_appendStep_39 ?_
      refine r_callV (μ2 := mX5_append) (pc := 40) (as := [.int (zI v1), .int (zI 1)]) (st := []) rfl hg0.1 ml_X5_29 im_X5_append se_X5_append okX5_append ⟨by decide, by decide⟩ dX5_appendStep_40 (Nat.le_of_ble_eq_true rfl) rfl (Nat.le_of_ble_eq_true rfl) (by decide) (by decide) (zCC.mono w ?_)
      rintro r S' h7 ⟨rfl, b7, hr, w⟩
      subst hr
      show RR mX5_appendStep 0 0 43 [some (.ref o0), some (.int (zI v1)), some (.int (zI ((h o0 2) - 1)))] [.int (zI (bI b7))] S h7 (zQb S K)
      exact r_iret (st := []) (pc := 43) (x := (bI b7)) (ty := .boolean) dX5_appendStep_43 rfl (bI_nar _) rfl (by decide) ⟨rfl, b7, rfl, w⟩
    · have w := w.2 (c)
      refine r_aload_n (pc := 25) (a := o0) dX5_appendStep_25 rfl ?_
      refine r_getR (pc := 26) (b := (o0 + 2)) fl_X5_15 dX5_appendStep_26 hg0.1 rfl ?_
      refine r_iload_n (pc := 29) (x := ((h o0 2) - 1)) dX5_appendStep_29 rfl ?_
      refine r_dup2 (pc := 30) rfl rfl dX5_appendStep_30 ?_
      obtain ⟨hb8, w⟩ := w
      refine r_iald (pc := 31) (i := ((h o0 2) - 1)) (x := (h5 (o0 + 2) ((h o0 2) - 1))) dX5_appendStep_31 hg0.2.2 ⟨hb8.1, hb8.2, (by decide)⟩ (rfl) ?_
      refine r_iconst (pc := 32) dX5_appendStep_32 ?_
      refine r_iadd (pc := 33) (x := (h5 (o0 + 2) ((h o0 2) - 1))) (y := 1) dX5_appendStep_33 ?_
      refine r_iast (pc := 34) (i := ((h o0 2) - 1)) (x := ((h5 (o0 + 2) ((h o0 2) - 1)) + 1)) dX5_appendStep_34 hg0.2.2 ⟨by omega, by omega, (by decide)⟩  ?_
      refine r_iconst (pc := 35) dX5_appendStep_35 ?_
      exact r_iret (st := []) (pc := 36) (x := 1) (ty := .boolean) dX5_appendStep_36 rfl (rfl) rfl (by decide) ⟨rfl, true, rfl, w⟩

set_option maxRecDepth 100000 in
set_option maxHeartbeats 4000000 in
theorem wX5_takeAll {S : zSh} {h : zMm} {K : zMm → Prop} {o0 : Nat} {o1 : Nat} (hg0 : zM5 S o0) (hg1 : zM5 S o1) (w : K (zU (zCp (zCp h (o1 + 1) (o0 + 1) 24) (o1 + 2) (o0 + 2) 24) o0 2 ((zCp (zCp h (o1 + 1) (o0 + 1) 24) (o1 + 2) (o0 + 2) 24) o1 2))) : zCv mX5_takeAll [.ref o0, .ref o1] S h K := by
  show RR mX5_takeAll 0 0 0 [some (.ref o0), some (.ref o1)] [] S h (zQv S K)
  refine r_aload_n (pc := 0) (a := o1) dX5_takeAll_0 rfl ?_
  refine r_getR (pc := 1) (b := (o1 + 1)) fl_X5_9 dX5_takeAll_1 hg1.1 rfl ?_
  refine r_iconst (pc := 4) dX5_takeAll_4 ?_
  refine r_aload_n (pc := 5) (a := o0) dX5_takeAll_5 rfl ?_
  refine r_getR (pc := 6) (b := (o0 + 1)) fl_X5_9 dX5_takeAll_6 hg0.1 rfl ?_
  refine r_iconst (pc := 9) dX5_takeAll_9 ?_
  refine r_bipush (pc := 10) (x := 24) dX5_takeAll_10 (by decide) ?_
  refine r_copy_int (pc := 12) ml_X5_37 mw_native mw_static mw_init dX5_takeAll_12 hg1.2.1 hg0.2.1 (by decide) (by decide) (by decide) ?_
  refine r_aload_n (pc := 15) (a := o1) dX5_takeAll_15 rfl ?_
  refine r_getR (pc := 16) (b := (o1 + 2)) fl_X5_15 dX5_takeAll_16 hg1.1 rfl ?_
  refine r_iconst (pc := 19) dX5_takeAll_19 ?_
  refine r_aload_n (pc := 20) (a := o0) dX5_takeAll_20 rfl ?_
  refine r_getR (pc := 21) (b := (o0 + 2)) fl_X5_15 dX5_takeAll_21 hg0.1 rfl ?_
  refine r_iconst (pc := 24) dX5_takeAll_24 ?_
  refine r_bipush (pc := 25) (x := 24) dX5_takeAll_25 (by decide) ?_
  refine r_copy_int (pc := 27) ml_X5_37 mw_native mw_static mw_init dX5_takeAll_27 hg1.2.2 hg0.2.2 (by decide) (by decide) (by decide) ?_
  refine r_aload_n (pc := 30) (a := o0) dX5_takeAll_30 rfl ?_
  refine r_aload_n (pc := 31) (a := o1) dX5_takeAll_31 rfl ?_
  refine r_getI (pc := 32) (fi := 2) (x := ((zCp (zCp h (o1 + 1) (o0 + 1) 24) (o1 + 2) (o0 + 2) 24) o1 2)) fl_X5_18 dX5_takeAll_32 hg1.1 rfl (rfl) ?_
  refine r_putI (pc := 35) (fi := 2) (x := ((zCp (zCp h (o1 + 1) (o0 + 1) 24) (o1 + 2) (o0 + 2) 24) o1 2)) fl_X5_18 dX5_takeAll_35 hg0.1 rfl ?_
  exact r_ret (st := []) (pc := 38) dX5_takeAll_38 rfl rfl (by decide) ⟨rfl, rfl, w⟩
