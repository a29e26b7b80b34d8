set_option maxRecDepth 100000 in
set_option maxHeartbeats 4000000 in
theorem wX7_startAnew {S : zSh} {h : zMm} {K : zMm → Prop} {o0 : Nat} {v1 : Int} {v2 : Int} (hg0 : zS7 S o0) (w : zCv mJ7_fill_53178 [.ref (o0 + 1), .int (zI 0)] S h (fun h1 => K (zU (zU h1 o0 1 v1) o0 2 v2))) : zCv mX7_startAnew [.ref o0, .int (zI v1), .int (zI v2)] S h K := by
  show RR mX7_startAnew 0 0 0 [some (.ref o0), some (.int (zI v1)), some (.int (zI v2))] [] S h (zQv S K)
  refine r_aload_n (pc := 0) (a := o0) dX7_startAnew_0 rfl ?_
  refine r_getR (pc := 1) (b := (o0 + 1)) fl_X7_9 dX7_startAnew_1 hg0.1 rfl ?_
  refine r_iconst (pc := 4) dX7_startAnew_4 ?_
  refine r_callS (μ2 := mJ7_fill_53178) (pc := 5) (as := [.ref (o0 + 1), .int (zI 0)]) (st := []) ml_X7_22 sm_J7_fill_53178 okJ7_fill_53178 ⟨by decide, by decide⟩ dX7_startAnew_5 (Nat.le_of_ble_eq_true rfl) rfl (Nat.le_of_ble_eq_true rfl) (by decide) (by decide) (zCC.mono w ?_)
  rintro r S' h1 ⟨rfl, hr, w⟩
  subst hr
  show RR mX7_startAnew 0 0 8 [some (.ref o0), some (.int (zI v1)), some (.int (zI v2))] [] S h1 (zQv S K)
  refine r_aload_n (pc := 8) (a := o0) dX7_startAnew_8 rfl ?_
  refine r_iload_n (pc := 9) (x := v1) dX7_startAnew_9 rfl ?_
  refine r_putI (pc := 10) (fi := 1) (x := v1) fl_X7_15 dX7_startAnew_10 hg0.1 rfl ?_
  refine r_aload_n (pc := 13) (a := o0) dX7_startAnew_13 rfl ?_
  refine r_iload_n (pc := 14) (x := v2) dX7_startAnew_14 rfl ?_
  refine r_putI (pc := 15) (fi := 2) (x := v2) fl_X7_19 dX7_startAnew_15 hg0.1 rfl ?_
  exact r_ret (st := []) (pc := 18) dX7_startAnew_18 rfl rfl (by decide) ⟨rfl, rfl, w⟩

set_option maxRecDepth 100000 in
set_option maxHeartbeats 4000000 in
theorem wX7_isNothing {S : zSh} {h : zMm} {K : Bool → zMm → Prop} {o0 : Nat} (hg0 : zS7 S o0) (w : (zR (h o0 1) ∧ K (if (h o0 1) = (-1) then true else false) h)) : zCb mX7_isNothing [.ref o0] S h K := by
  show RR mX7_isNothing 0 0 0 [some (.ref o0)] [] S h (zQb S K)
  refine r_aload_n (pc := 0) (a := o0) dX7_isNothing_0 rfl ?_
  refine r_getI (pc := 1) (fi := 1) (x := (h o0 1)) fl_X7_15 dX7_isNothing_1 hg0.1 rfl (rfl) ?_
  refine r_iconst (pc := 4) dX7_isNothing_4 ?_
  obtain ⟨hr1, w⟩ := w
  have kk2 : RR mX7_isNothing 0 0 13 [some (.ref o0)] [.int (zI (bI (if (h o0 1) = (-1) then true else false)))] S h (zQb S K) := by
    exact r_iret (st := []) (pc := 13) (x := (bI (if (h o0 1) = (-1) then true else false))) (ty := .boolean) dX7_isNothing_13 rfl (bI_nar _) rfl (by decide) ⟨rfl, (if (h o0 1) = (-1) then true else false), rfl, w⟩
  refine r_icmp_ne (pc := 5) (x := (h o0 1)) (y := (-1)) (tgt := 12) dX7_isNothing_5 (by decide) hr1 (by decide) (fun c => ?_) (fun c => ?_)
  · refine r_iconst (pc := 12) dX7_isNothing_12 ?_
    simp only [if_neg (c)] at kk2 ⊢
    exact kk2
  · refine r_iconst (pc := 8) dX7_isNothing_8 ?_
    refine r_goto (pc := 9) (tgt := 13) dX7_isNothing_9 (by decide) ?_
    simp only [if_pos (c)] at kk2 ⊢
    exact kk2

set_option maxRecDepth 100000 in
set_option maxHeartbeats 4000000 in
theorem wX7_faultOf {S : zSh} {h : zMm} {K : Int → zMm → Prop} {o0 : Nat} {v1 : Int} {v2 : Int} (hg0 : zS7 S o0) (w : zCb mX7_isNothing [.ref o0] S h (fun b1 h1 => ((b1 = false → (zR v1 ∧ (zR (h1 o0 1) ∧ ((v1 = (h1 o0 1) → (zRl v2 ∧ ((v2 < 0 → K 2 h1) ∧ (¬ v2 < 0 → (zR (h1 o0 2) ∧ (zRl (h1 o0 2) ∧ K (if (h1 o0 2) ≤ v2 then (2 : Int) else (0 : Int)) h1)))))) ∧ (¬ v1 = (h1 o0 1) → K 3 h1))))) ∧ (b1 = true → K 1 h1)))) : zCi mX7_faultOf [.ref o0, .int (zI v1), .long (zJ v2)] S h K := by
  show RR mX7_faultOf 0 0 0 [some (.ref o0), some (.int (zI v1)), some (.long (zJ v2)), none] [] S h (zQi S K)
  refine r_aload_n (pc := 0) (a := o0) dX7_faultOf_0 rfl ?_
  refine r_callV (μ2 := mX7_isNothing) (pc := 1) (as := []) (st := []) rfl hg0.1 ml_X7_28 im_X7_isNothing se_X7_isNothing okX7_isNothing ⟨by decide, by decide⟩ dX7_faultOf_1 (Nat.le_of_ble_eq_true rfl) rfl (Nat.le_of_ble_eq_true rfl) (by decide) (by decide) (zCC.mono w ?_)
  rintro r S' h1 ⟨rfl, b1, hr, w⟩
  subst hr
  show RR mX7_faultOf 0 0 4 [some (.ref o0), some (.int (zI v1)), some (.long (zJ v2)), none] [.int (zI (bI b1))] S h1 (zQi S K)
  refine r_if_eq (pc := 4) (x := (bI b1)) (tgt := 9) dX7_faultOf_4 (by decide) (bI_R _) (fun c => ?_) (fun c => ?_)
  · have w := w.1 (bI_0.mp c)
    refine r_iload_n (pc := 9) (x := v1) dX7_faultOf_9 rfl ?_
    refine r_aload_n (pc := 10) (a := o0) dX7_faultOf_10 rfl ?_
    refine r_getI (pc := 11) (fi := 1) (x := (h1 o0 1)) fl_X7_15 dX7_faultOf_11 hg0.1 rfl (rfl) ?_
    obtain ⟨hr2, w⟩ := w
    obtain ⟨hr3, w⟩ := w
    refine r_icmp_eq (pc := 14) (x := v1) (y := (h1 o0 1)) (tgt := 19) dX7_faultOf_14 (by decide) hr2 hr3 (fun c => ?_) (fun c => ?_)
    · have w := w.1 (c)
      refine r_lload_n (pc := 19) (x := v2) dX7_faultOf_19 rfl ?_
      refine r_lconst (pc := 20) (x := 0) dX7_faultOf_20 rfl ?_
      obtain ⟨hl4, w⟩ := w
      refine r_lcmp (pc := 21) (x := v2) (y := 0) dX7_faultOf_21 hl4 (by decide) ?_
      refine r_if_lt (pc := 22) (x := (zCmp v2 0)) (tgt := 39) dX7_faultOf_22 (by decide) (zCmp_R _ _) (fun c => ?_) (fun c => ?_)
      · have w := w.1 (zCmp_lt.mp c)
        refine r_iconst (pc := 39) dX7_faultOf_39 ?_
        exact r_iret (st := []) (pc := 40) (x := 2) (ty := .int) dX7_faultOf_40 rfl rfl rfl (by decide) ⟨rfl, _, rfl, w⟩
      · have w := w.2 (fun z => c (zCmp_lt.mpr z))
        refine r_lload_n (pc := 25) (x := v2) dX7_faultOf_25 rfl ?_
        refine r_aload_n (pc := 26) (a := o0) dX7_faultOf_26 rfl ?_
        refine r_getI (pc := 27) (fi := 2) (x := (h1 o0 2)) fl_X7_19 dX7_faultOf_27 hg0.1 rfl (rfl) ?_
        obtain ⟨hr5, w⟩ := w
        refine r_i2l (pc := 30) (x := (h1 o0 2)) dX7_faultOf_30 hr5 ?_
        obtain ⟨hl6, w⟩ := w
        refine r_lcmp (pc := 31) (x := v2) (y := (h1 o0 2)) dX7_faultOf_31 hl4 hl6 ?_
        have kk7 : RR mX7_faultOf 0 0 40 [some (.ref o0), some (.int (zI v1)), some (.long (zJ v2)), none] [.int (zI (if (h1 o0 2) ≤ v2 then (2 : Int) else (0 : Int)))] S h1 (zQi S K) := by
          exact r_iret (st := []) (pc := 40) (x := (if (h1 o0 2) ≤ v2 then (2 : Int) else (0 : Int))) (ty := .int) dX7_faultOf_40 rfl rfl rfl (by decide) ⟨rfl, _, rfl, w⟩
        refine r_if_ge (pc := 32) (x := (zCmp v2 (h1 o0 2))) (tgt := 39) dX7_faultOf_32 (by decide) (zCmp_R _ _) (fun c => ?_) (fun c => ?_)
        · refine r_iconst (pc := 39) dX7_faultOf_39 ?_
          simp only [if_pos (zCmp_ge.mp c)] at kk7 ⊢
          exact kk7
        · refine r_iconst (pc := 35) dX7_faultOf_35 ?_
          refine r_goto (pc := 36) (tgt := 40) dX7_faultOf_36 (by decide) ?_
          simp only [if_neg (fun z => c (zCmp_ge.mpr z))] at kk7 ⊢
          exact kk7
    · have w := w.2 (c)
      refine r_iconst (pc := 17) dX7_faultOf_17 ?_
      exact r_iret (st := []) (pc := 18) (x := 3) (ty := .int) dX7_faultOf_18 rfl rfl rfl (by decide) ⟨rfl, _, rfl, w⟩
  · have w := w.2 (bI_n.mp c)
    refine r_iconst (pc := 7) dX7_faultOf_7 ?_
    exact r_iret (st := []) (pc := 8) (x := 1) (ty := .int) dX7_faultOf_8 rfl rfl rfl (by decide) ⟨rfl, _, rfl, w⟩

set_option maxRecDepth 100000 in
set_option maxHeartbeats 4000000 in
theorem wX7_write {S : zSh} {h : zMm} {K : zMm → Prop} {o0 : Nat} {v1 : Int} {v2 : Int} (hg0 : zS7 S o0) (w : zCb mX11_isWithin [.int (zI v1), .int (zI 0), .int (zI ((h o0 2) - 1))] S h (fun b1 h1 => (zR (h1 o0 1) ∧ ((b1 = false → K h1) ∧ (b1 = true → ((0 ≤ v1 ∧ v1 < 48) ∧ K (zU h1 (o0 + 1) v1 (if (h1 o0 1) = 0 then (iB v2) else (if (h1 o0 1) = 1 then (iT v2) else v2))))))))) : zCv mX7_write [.ref o0, .int (zI v1), .int (zI v2)] S h K := by
  show RR mX7_write 0 0 0 [some (.ref o0), some (.int (zI v1)), some (.int (zI v2))] [] S h (zQv S K)
  refine r_iload_n (pc := 0) (x := v1) dX7_write_0 rfl ?_
  refine r_iconst (pc := 1) dX7_write_1 ?_
  refine r_aload_n (pc := 2) (a := o0) dX7_write_2 rfl ?_
  refine r_getI (pc := 3) (fi := 2) (x := (h o0 2)) fl_X7_19 dX7_write_3 hg0.1 rfl (rfl) ?_
  refine r_iconst (pc := 6) dX7_write_6 ?_
  refine r_isub (pc := 7) (x := (h o0 2)) (y := 1) dX7_write_7 ?_
  refine r_callSN (μ2 := mX11_isWithin) (pc := 8) (as := [.int (zI v1), .int (zI 0), .int (zI ((h o0 2) - 1))]) (st := []) mn_X7_32 sm_X11_isWithin okX11_isWithin ⟨by decide, by decide⟩ dX7_write_8 (Nat.le_of_ble_eq_true rfl) rfl (Nat.le_of_ble_eq_true rfl) (by decide) (by decide) (zCC.mono w ?_)
  rintro r S' h1 ⟨rfl, b1, hr, w⟩
  subst hr
  show RR mX7_write 0 0 11 [some (.ref o0), some (.int (zI v1)), some (.int (zI v2))] [.int (zI (bI b1))] S h1 (zQv S K)
  obtain ⟨hr3, w⟩ := w
  refine r_if_eq (pc := 11) (x := (bI b1)) (tgt := 46) dX7_write_11 (by decide) (bI_R _) (fun c => ?_) (fun c => ?_)
  · have w := w.1 (bI_0.mp c)
    exact r_ret (st := []) (pc := 46) dX7_write_46 rfl rfl (by decide) ⟨rfl, rfl, w⟩
  · have w := w.2 (bI_n.mp c)
    refine r_aload_n (pc := 14) (a := o0) dX7_write_14 rfl ?_
    refine r_getR (pc := 15) (b := (o0 + 1)) fl_X7_9 dX7_write_15 hg0.1 rfl ?_
    refine r_iload_n (pc := 18) (x := v1) dX7_write_18 rfl ?_
    refine r_aload_n (pc := 19) (a := o0) dX7_write_19 rfl ?_
    refine r_getI (pc := 20) (fi := 1) (x := (h1 o0 1)) fl_X7_15 dX7_write_20 hg0.1 rfl (rfl) ?_
    have kk8 : RR mX7_write 0 0 45 [some (.ref o0), some (.int (zI v1)), some (.int (zI v2))] [.int (zI (if (h1 o0 1) = 0 then (iB v2) else (if (h1 o0 1) = 1 then (iT v2) else v2))), .int (zI v1), .ref (o0 + 1)] S h1 (zQv S K) := by
      obtain ⟨hb7, w⟩ := w
      refine r_iast (pc := 45) (i := v1) (x := (if (h1 o0 1) = 0 then (iB v2) else (if (h1 o0 1) = 1 then (iT v2) else v2))) dX7_write_45 hg0.2 ⟨hb7.1, hb7.2, (by decide)⟩  ?_
      exact r_ret (st := []) (pc := 46) dX7_write_46 rfl rfl (by decide) ⟨rfl, rfl, w⟩
    refine r_if_ne (pc := 23) (x := (h1 o0 1)) (tgt := 31) dX7_write_23 (by decide) hr3 (fun c => ?_) (fun c => ?_)
    · refine r_aload_n (pc := 31) (a := o0) dX7_write_31 rfl ?_
      refine r_getI (pc := 32) (fi := 1) (x := (h1 o0 1)) fl_X7_15 dX7_write_32 hg0.1 rfl (rfl) ?_
      refine r_iconst (pc := 35) dX7_write_35 ?_
      refine r_icmp_ne (pc := 36) (x := (h1 o0 1)) (y := 1) (tgt := 44) dX7_write_36 (by decide) hr3 (by decide) (fun c6 => ?_) (fun c6 => ?_)
      · refine r_iload_n (pc := 44) (x := v2) dX7_write_44 rfl ?_
        simp only [if_neg (c), if_neg (c6)] at kk8 ⊢
        exact kk8
      · refine r_iload_n (pc := 39) (x := v2) dX7_write_39 rfl ?_
        refine r_i2s (pc := 40) (x := v2) dX7_write_40 ?_
        refine r_goto (pc := 41) (tgt := 45) dX7_write_41 (by decide) ?_
        simp only [if_neg (c), if_pos (c6)] at kk8 ⊢
        exact kk8
    · refine r_iload_n (pc := 26) (x := v2) dX7_write_26 rfl ?_
      refine r_i2b (pc := 27) (x := v2) dX7_write_27 ?_
      refine r_goto (pc := 28) (tgt := 45) dX7_write_28 (by decide) ?_
      simp only [if_pos (c)] at kk8 ⊢
      exact kk8

set_option maxRecDepth 100000 in
set_option maxHeartbeats 4000000 in
theorem wX7_valueAt {S : zSh} {h : zMm} {K : Int → zMm → Prop} {o0 : Nat} {v1 : Int} (hg0 : zS7 S o0) (w : zCb mX11_isWithin [.int (zI v1), .int (zI 0), .int (zI ((h o0 2) - 1))] S h (fun b1 h1 => ((b1 = false → K 0 h1) ∧ (b1 = true → ((0 ≤ v1 ∧ v1 < 48) ∧ K (h1 (o0 + 1) v1) h1))))) : zCi mX7_valueAt [.ref o0, .int (zI v1)] S h K := by
  show RR mX7_valueAt 0 0 0 [some (.ref o0), some (.int (zI v1))] [] S h (zQi S K)
  refine r_iload_n (pc := 0) (x := v1) dX7_valueAt_0 rfl ?_
  refine r_iconst (pc := 1) dX7_valueAt_1 ?_
  refine r_aload_n (pc := 2) (a := o0) dX7_valueAt_2 rfl ?_
  refine r_getI (pc := 3) (fi := 2) (x := (h o0 2)) fl_X7_19 dX7_valueAt_3 hg0.1 rfl (rfl) ?_
  refine r_iconst (pc := 6) dX7_valueAt_6 ?_
  refine r_isub (pc := 7) (x := (h o0 2)) (y := 1) dX7_valueAt_7 ?_
  refine r_callSN (μ2 := mX11_isWithin) (pc := 8) (as := [.int (zI v1), .int (zI 0), .int (zI ((h o0 2) - 1))]) (st := []) mn_X7_32 sm_X11_isWithin okX11_isWithin ⟨by decide, by decide⟩ dX7_valueAt_8 (Nat.le_of_ble_eq_true rfl) rfl (Nat.le_of_ble_eq_true rfl) (by decide) (by decide) (zCC.mono w ?_)
  rintro r S' h1 ⟨rfl, b1, hr, w⟩
  subst hr
  show RR mX7_valueAt 0 0 11 [some (.ref o0), some (.int (zI v1))] [.int (zI (bI b1))] S h1 (zQi S K)
  refine r_if_eq (pc := 11) (x := (bI b1)) (tgt := 23) dX7_valueAt_11 (by decide) (bI_R _) (fun c => ?_) (fun c => ?_)
  · have w := w.1 (bI_0.mp c)
    refine r_iconst (pc := 23) dX7_valueAt_23 ?_
    exact r_iret (st := []) (pc := 24) (x := 0) (ty := .int) dX7_valueAt_24 rfl rfl rfl (by decide) ⟨rfl, _, rfl, w⟩
  · have w := w.2 (bI_n.mp c)
    refine r_aload_n (pc := 14) (a := o0) dX7_valueAt_14 rfl ?_
    refine r_getR (pc := 15) (b := (o0 + 1)) fl_X7_9 dX7_valueAt_15 hg0.1 rfl ?_
    refine r_iload_n (pc := 18) (x := v1) dX7_valueAt_18 rfl ?_
    obtain ⟨hb2, w⟩ := w
    refine r_iald (pc := 19) (i := v1) (x := (h1 (o0 + 1) v1)) dX7_valueAt_19 hg0.2 ⟨hb2.1, hb2.2, (by decide)⟩ (rfl) ?_
    refine r_goto (pc := 20) (tgt := 24) dX7_valueAt_20 (by decide) ?_
    exact r_iret (st := []) (pc := 24) (x := (h1 (o0 + 1) v1)) (ty := .int) dX7_valueAt_24 rfl rfl rfl (by decide) ⟨rfl, _, rfl, w⟩
