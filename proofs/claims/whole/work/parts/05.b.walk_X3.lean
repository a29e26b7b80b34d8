set_option maxRecDepth 100000 in
set_option maxHeartbeats 4000000 in
theorem wX3_isOpen {S : zSh} {h : zMm} {K : Bool → zMm → Prop} {o0 : Nat} {v1 : Int} (hg0 : zG3 S o0) (w : (zR v1 ∧ ((v1 < 0 → K false h) ∧ (¬ v1 < 0 → ((36 ≤ v1 → K false h) ∧ (¬ 36 ≤ v1 → ((0 ≤ v1 ∧ v1 < 36) ∧ (zR (h (o0 + 1) v1) ∧ K (if (h (o0 + 1) v1) = 2 then false else true) h)))))))) : zCb mX3_isOpen [.ref o0, .int (zI v1)] S h K := by
  show RR mX3_isOpen 0 0 0 [some (.ref o0), some (.int (zI v1))] [] S h (zQb S K)
  refine r_iload_n (pc := 0) (x := v1) dX3_isOpen_0 rfl ?_
  obtain ⟨hr1, w⟩ := w
  refine r_if_lt (pc := 1) (x := v1) (tgt := 24) dX3_isOpen_1 (by decide) hr1 (fun c => ?_) (fun c => ?_)
  · have w := w.1 (c)
    refine r_iconst (pc := 24) dX3_isOpen_24 ?_
    exact r_iret (st := []) (pc := 25) (x := 0) (ty := .boolean) dX3_isOpen_25 rfl (rfl) rfl (by decide) ⟨rfl, false, rfl, w⟩
  · have w := w.2 (c)
    refine r_iload_n (pc := 4) (x := v1) dX3_isOpen_4 rfl ?_
    refine r_bipush (pc := 5) (x := 36) dX3_isOpen_5 (by decide) ?_
    refine r_icmp_ge (pc := 7) (x := v1) (y := 36) (tgt := 24) dX3_isOpen_7 (by decide) hr1 (by decide) (fun c => ?_) (fun c => ?_)
    · have w := w.1 (c)
      refine r_iconst (pc := 24) dX3_isOpen_24 ?_
      exact r_iret (st := []) (pc := 25) (x := 0) (ty := .boolean) dX3_isOpen_25 rfl (rfl) rfl (by decide) ⟨rfl, false, rfl, w⟩
    · have w := w.2 (c)
      refine r_aload_n (pc := 10) (a := o0) dX3_isOpen_10 rfl ?_
      refine r_getR (pc := 11) (b := (o0 + 1)) fl_X3_9 dX3_isOpen_11 hg0.1 rfl ?_
      refine r_iload_n (pc := 14) (x := v1) dX3_isOpen_14 rfl ?_
      obtain ⟨hb3, w⟩ := w
      refine r_iald (pc := 15) (i := v1) (x := (h (o0 + 1) v1)) dX3_isOpen_15 hg0.2.1 ⟨hb3.1, hb3.2, (by decide)⟩ (rfl) ?_
      refine r_iconst (pc := 16) dX3_isOpen_16 ?_
      obtain ⟨hr4, w⟩ := w
      have kk5 : RR mX3_isOpen 0 0 25 [some (.ref o0), some (.int (zI v1))] [.int (zI (bI (if (h (o0 + 1) v1) = 2 then false else true)))] S h (zQb S K) := by
        exact r_iret (st := []) (pc := 25) (x := (bI (if (h (o0 + 1) v1) = 2 then false else true))) (ty := .boolean) dX3_isOpen_25 rfl (bI_nar _) rfl (by decide) ⟨rfl, (if (h (o0 + 1) v1) = 2 then false else true), rfl, w⟩
      refine r_icmp_eq (pc := 17) (x := (h (o0 + 1) v1)) (y := 2) (tgt := 24) dX3_isOpen_17 (by decide) hr4 (by decide) (fun c => ?_) (fun c => ?_)
      · refine r_iconst (pc := 24) dX3_isOpen_24 ?_
        simp only [if_pos (c)] at kk5 ⊢
        exact kk5
      · refine r_iconst (pc := 20) dX3_isOpen_20 ?_
        refine r_goto (pc := 21) (tgt := 25) dX3_isOpen_21 (by decide) ?_
        simp only [if_neg (c)] at kk5 ⊢
        exact kk5

set_option maxRecDepth 100000 in
set_option maxHeartbeats 4000000 in
theorem wX3_ahead {S : zSh} {h : zMm} {K : Int → zMm → Prop} {o0 : Nat} {v1 : Int} {v2 : Int} (hg0 : zG3 S o0) (w : ((0 ≤ v1 ∧ v1 < 2147483648) ∧ (zR v2 ∧ zCb mX3_isOpen [.ref o0, .int (zI (if v2 = 0 then (v1 - 6) else (if v2 = 2 then (v1 + 6) else (if v2 = 1 then (if 5 ≤ (v1 % 6) then ((-4) : Int) else (v1 + 1)) else (if (v1 % 6) = 0 then ((-4) : Int) else (v1 - 1))))))] S h (fun b7 h7 => K (if b7 = true then (if v2 = 0 then (v1 - 6) else (if v2 = 2 then (v1 + 6) else (if v2 = 1 then (if 5 ≤ (v1 % 6) then ((-4) : Int) else (v1 + 1)) else (if (v1 % 6) = 0 then ((-4) : Int) else (v1 - 1))))) else ((-4) : Int)) h7)))) : zCi mX3_ahead [.ref o0, .int (zI v1), .int (zI v2)] S h K := by
  show RR mX3_ahead 0 0 0 [some (.ref o0), some (.int (zI v1)), some (.int (zI v2)), none, none] [] S h (zQi S K)
  refine r_iload_n (pc := 0) (x := v1) dX3_ahead_0 rfl ?_
  refine r_bipush (pc := 1) (x := 6) dX3_ahead_1 (by decide) ?_
  obtain ⟨hx1, w⟩ := w
  refine r_irem (pc := 3) (x := v1) (y := 6) dX3_ahead_3 hx1 (by decide) ?_
  refine r_istore_n (pc := 4) (L' := [some (.ref o0), some (.int (zI v1)), some (.int (zI v2)), some (.int (zI (v1 % 6))), none]) dX3_ahead_4 (by decide) rfl ?_
  refine r_iload_n (pc := 5) (x := v1) dX3_ahead_5 rfl ?_
  refine r_iconst (pc := 6) dX3_ahead_6 ?_
  refine r_isub (pc := 7) (x := v1) (y := 1) dX3_ahead_7 ?_
  refine r_istore (pc := 8) (L' := [some (.ref o0), some (.int (zI v1)), some (.int (zI v2)), some (.int (zI (v1 % 6))), some (.int (zI (v1 - 1)))]) dX3_ahead_8 (by decide) rfl ?_
  refine r_iload_n (pc := 10) (x := v2) dX3_ahead_10 rfl ?_
  obtain ⟨hr2, w⟩ := w
  have kk9 : RR mX3_ahead 0 0 68 [some (.ref o0), some (.int (zI v1)), some (.int (zI v2)), some (.int (zI (v1 % 6))), some (.int (zI (if v2 = 0 then (v1 - 6) else (if v2 = 2 then (v1 + 6) else (if v2 = 1 then (if 5 ≤ (v1 % 6) then ((-4) : Int) else (v1 + 1)) else (if (v1 % 6) = 0 then ((-4) : Int) else (v1 - 1)))))))] [] S h (zQi S K) := by
    refine r_aload_n (pc := 68) (a := o0) dX3_ahead_68 rfl ?_
    refine r_iload (pc := 69) (x := (if v2 = 0 then (v1 - 6) else (if v2 = 2 then (v1 + 6) else (if v2 = 1 then (if 5 ≤ (v1 % 6) then ((-4) : Int) else (v1 + 1)) else (if (v1 % 6) = 0 then ((-4) : Int) else (v1 - 1)))))) dX3_ahead_69 rfl ?_
    refine r_callV (μ2 := mX3_isOpen) (pc := 71) (as := [.int (zI (if v2 = 0 then (v1 - 6) else (if v2 = 2 then (v1 + 6) else (if v2 = 1 then (if 5 ≤ (v1 % 6) then ((-4) : Int) else (v1 + 1)) else (if (v1 % 6) = 0 then ((-4) : Int) else (v1 - 1))))))]) (st := []) rfl hg0.1 ml_X3_63 im_X3_isOpen se_X3_isOpen okX3_isOpen ⟨by decide, by decide⟩ dX3_ahead_71 (Nat.le_of_ble_eq_true rfl) rfl (Nat.le_of_ble_eq_true rfl) (by decide) (by decide) (zCC.mono w ?_)
    rintro r S' h7 ⟨rfl, b7, hr, w⟩
    subst hr
    show RR mX3_ahead 0 0 74 [some (.ref o0), some (.int (zI v1)), some (.int (zI v2)), some (.int (zI (v1 % 6))), some (.int (zI (if v2 = 0 then (v1 - 6) else (if v2 = 2 then (v1 + 6) else (if v2 = 1 then (if 5 ≤ (v1 % 6) then ((-4) : Int) else (v1 + 1)) else (if (v1 % 6) = 0 then ((-4) : Int) else (v1 - 1)))))))] [.int (zI (bI b7))] S h7 (zQi S K)
    have kk8 : RR mX3_ahead 0 0 84 [some (.ref o0), some (.int (zI v1)), some (.int (zI v2)), some (.int (zI (v1 % 6))), some (.int (zI (if v2 = 0 then (v1 - 6) else (if v2 = 2 then (v1 + 6) else (if v2 = 1 then (if 5 ≤ (v1 % 6) then ((-4) : Int) else (v1 + 1)) else (if (v1 % 6) = 0 then ((-4) : Int) else (v1 - 1)))))))] [.int (zI (if b7 = true then (if v2 = 0 then (v1 - 6) else (if v2 = 2 then (v1 + 6) else (if v2 = 1 then (if 5 ≤ (v1 % 6) then ((-4) : Int) else (v1 + 1)) else (if (v1 % 6) = 0 then ((-4) : Int) else (v1 - 1))))) else ((-4) : Int)))] S h7 (zQi S K) := by
      exact r_iret (st := []) (pc := 84) (x := (if b7 = true then (if v2 = 0 then (v1 - 6) else (if v2 = 2 then (v1 + 6) else (if v2 = 1 then (if 5 ≤ (v1 % 6) then ((-4) : Int) else (v1 + 1)) else (if (v1 % 6) = 0 then ((-4) : Int) else (v1 - 1))))) else ((-4) : Int))) (ty := .int) dX3_ahead_84 rfl rfl rfl (by decide) ⟨rfl, _, rfl, w⟩
    refine r_if_eq (pc := 74) (x := (bI b7)) (tgt := 82) dX3_ahead_74 (by decide) (bI_R _) (fun c => ?_) (fun c => ?_)
    · refine r_bipush (pc := 82) (x := (-4)) dX3_ahead_82 (by decide) ?_
      simp only [if_neg (bI_ft (bI_0.mp c))] at kk8 ⊢
      exact kk8
    · refine r_iload (pc := 77) (x := (if v2 = 0 then (v1 - 6) else (if v2 = 2 then (v1 + 6) else (if v2 = 1 then (if 5 ≤ (v1 % 6) then ((-4) : Int) else (v1 + 1)) else (if (v1 % 6) = 0 then ((-4) : Int) else (v1 - 1)))))) dX3_ahead_77 rfl ?_
      refine r_goto (pc := 79) (tgt := 84) dX3_ahead_79 (by decide) ?_
      simp only [if_pos (bI_n.mp c)] at kk8 ⊢
      exact kk8
  refine r_if_ne (pc := 11) (x := v2) (tgt := 23) dX3_ahead_11 (by decide) hr2 (fun c => ?_) (fun c => ?_)
  · refine r_iload_n (pc := 23) (x := v2) dX3_ahead_23 rfl ?_
    refine r_iconst (pc := 24) dX3_ahead_24 ?_
    refine r_icmp_ne (pc := 25) (x := v2) (y := 2) (tgt := 37) dX3_ahead_25 (by decide) hr2 (by decide) (fun c3 => ?_) (fun c3 => ?_)
    · refine r_iload_n (pc := 37) (x := v2) dX3_ahead_37 rfl ?_
      refine r_iconst (pc := 38) dX3_ahead_38 ?_
      refine r_icmp_ne (pc := 39) (x := v2) (y := 1) (tgt := 60) dX3_ahead_39 (by decide) hr2 (by decide) (fun c4 => ?_) (fun c4 => ?_)
      · refine r_iload_n (pc := 60) (x := (v1 % 6)) dX3_ahead_60 rfl ?_
        refine r_if_ne (pc := 61) (x := (v1 % 6)) (tgt := 68) dX3_ahead_61 (by decide) ⟨by omega, by omega⟩ (fun c5 => ?_) (fun c5 => ?_)
        · simp only [if_neg (c), if_neg (c3), if_neg (c4), if_neg (c5)] at kk9 ⊢
          exact kk9
        · refine r_bipush (pc := 64) (x := (-4)) dX3_ahead_64 (by decide) ?_
          refine r_istore (pc := 66) (L' := [some (.ref o0), some (.int (zI v1)), some (.int (zI v2)), some (.int (zI (v1 % 6))), some (.int (zI (-4)))]) dX3_ahead_66 (by decide) rfl ?_
          simp only [if_neg (c), if_neg (c3), if_neg (c4), if_pos (c5)] at kk9 ⊢
          exact kk9
      · refine r_iload_n (pc := 42) (x := (v1 % 6)) dX3_ahead_42 rfl ?_
        refine r_iconst (pc := 43) dX3_ahead_43 ?_
        refine r_icmp_ge (pc := 44) (x := (v1 % 6)) (y := 5) (tgt := 53) dX3_ahead_44 (by decide) ⟨by omega, by omega⟩ (by decide) (fun c6 => ?_) (fun c6 => ?_)
        · refine r_bipush (pc := 53) (x := (-4)) dX3_ahead_53 (by decide) ?_
          refine r_istore (pc := 55) (L' := [some (.ref o0), some (.int (zI v1)), some (.int (zI v2)), some (.int (zI (v1 % 6))), some (.int (zI (-4)))]) dX3_ahead_55 (by decide) rfl ?_
          refine r_goto (pc := 57) (tgt := 68) dX3_ahead_57 (by decide) ?_
          simp only [if_neg (c), if_neg (c3), if_pos (c4), if_pos (c6)] at kk9 ⊢
          exact kk9
        · refine r_iload_n (pc := 47) (x := v1) dX3_ahead_47 rfl ?_
          refine r_iconst (pc := 48) dX3_ahead_48 ?_
          refine r_iadd (pc := 49) (x := v1) (y := 1) dX3_ahead_49 ?_
          refine r_goto (pc := 50) (tgt := 55) dX3_ahead_50 (by decide) ?_
          refine r_istore (pc := 55) (L' := [some (.ref o0), some (.int (zI v1)), some (.int (zI v2)), some (.int (zI (v1 % 6))), some (.int (zI (v1 + 1)))]) dX3_ahead_55 (by decide) rfl ?_
          refine r_goto (pc := 57) (tgt := 68) dX3_ahead_57 (by decide) ?_
          simp only [if_neg (c), if_neg (c3), if_pos (c4), if_neg (c6)] at kk9 ⊢
          exact kk9
    · refine r_iload_n (pc := 28) (x := v1) dX3_ahead_28 rfl ?_
      refine r_bipush (pc := 29) (x := 6) dX3_ahead_29 (by decide) ?_
      refine r_iadd (pc := 31) (x := v1) (y := 6) dX3_ahead_31 ?_
      refine r_istore (pc := 32) (L' := [some (.ref o0), some (.int (zI v1)), some (.int (zI v2)), some (.int (zI (v1 % 6))), some (.int (zI (v1 + 6)))]) dX3_ahead_32 (by decide) rfl ?_
      refine r_goto (pc := 34) (tgt := 68) dX3_ahead_34 (by decide) ?_
      simp only [if_neg (c), if_pos (c3)] at kk9 ⊢
      exact kk9
  · refine r_iload_n (pc := 14) (x := v1) dX3_ahead_14 rfl ?_
    refine r_bipush (pc := 15) (x := 6) dX3_ahead_15 (by decide) ?_
    refine r_isub (pc := 17) (x := v1) (y := 6) dX3_ahead_17 ?_
    refine r_istore (pc := 18) (L' := [some (.ref o0), some (.int (zI v1)), some (.int (zI v2)), some (.int (zI (v1 % 6))), some (.int (zI (v1 - 6)))]) dX3_ahead_18 (by decide) rfl ?_
    refine r_goto (pc := 20) (tgt := 68) dX3_ahead_20 (by decide) ?_
    simp only [if_pos (c)] at kk9 ⊢
    exact kk9

set_option maxRecDepth 100000 in
set_option maxHeartbeats 4000000 in
theorem wX3_told {S : zSh} {h : zMm} {K : Int → zMm → Prop} {o0 : Nat} {v1 : Int} (hg0 : zG3 S o0) (w : zCb mX11_isWithin [.int (zI v1), .int (zI 0), .int (zI 7)] S h (fun b1 h1 => ((b1 = false → K 0 h1) ∧ (b1 = true → ((0 ≤ v1 ∧ v1 < 8) ∧ K (h1 (o0 + 5) v1) h1))))) : zCi mX3_told [.ref o0, .int (zI v1)] S h K := by
  show RR mX3_told 0 0 0 [some (.ref o0), some (.int (zI v1))] [] S h (zQi S K)
  refine r_iload_n (pc := 0) (x := v1) dX3_told_0 rfl ?_
  refine r_iconst (pc := 1) dX3_told_1 ?_
  refine r_bipush (pc := 2) (x := 7) dX3_told_2 (by decide) ?_
  refine r_callSN (μ2 := mX11_isWithin) (pc := 4) (as := [.int (zI v1), .int (zI 0), .int (zI 7)]) (st := []) mn_X3_56 sm_X11_isWithin okX11_isWithin ⟨by decide, by decide⟩ dX3_told_4 (Nat.le_of_ble_eq_true rfl) rfl (Nat.le_of_ble_eq_true rfl) (by decide) (by decide) (zCC.mono w ?_)
  rintro r S' h1 ⟨rfl, b1, hr, w⟩
  subst hr
  show RR mX3_told 0 0 7 [some (.ref o0), some (.int (zI v1))] [.int (zI (bI b1))] S h1 (zQi S K)
  refine r_if_eq (pc := 7) (x := (bI b1)) (tgt := 19) dX3_told_7 (by decide) (bI_R _) (fun c => ?_) (fun c => ?_)
  · have w := w.1 (bI_0.mp c)
    refine r_iconst (pc := 19) dX3_told_19 ?_
    exact r_iret (st := []) (pc := 20) (x := 0) (ty := .int) dX3_told_20 rfl rfl rfl (by decide) ⟨rfl, _, rfl, w⟩
  · have w := w.2 (bI_n.mp c)
    refine r_aload_n (pc := 10) (a := o0) dX3_told_10 rfl ?_
    refine r_getR (pc := 11) (b := (o0 + 5)) fl_X3_24 dX3_told_11 hg0.1 rfl ?_
    refine r_iload_n (pc := 14) (x := v1) dX3_told_14 rfl ?_
    obtain ⟨hb2, w⟩ := w
    refine r_iald (pc := 15) (i := v1) (x := (h1 (o0 + 5) v1)) dX3_told_15 hg0.2.2.2.2.2 ⟨hb2.1, hb2.2, (by decide)⟩ (rfl) ?_
    refine r_goto (pc := 16) (tgt := 20) dX3_told_16 (by decide) ?_
    exact r_iret (st := []) (pc := 20) (x := (h1 (o0 + 5) v1)) (ty := .int) dX3_told_20 rfl rfl rfl (by decide) ⟨rfl, _, rfl, w⟩

set_option maxRecDepth 100000 in
set_option maxHeartbeats 4000000 in
theorem wX3_isGrass {S : zSh} {h : zMm} {K : Bool → zMm → Prop} {o0 : Nat} {v1 : Int} (hg0 : zG3 S o0) (w : zCb mX11_isCell [.int (zI v1)] S h (fun b1 h1 => ((b1 = false → K false h1) ∧ (b1 = true → ((0 ≤ v1 ∧ v1 < 36) ∧ (zR (h1 (o0 + 1) v1) ∧ (((h1 (o0 + 1) v1) = 0 → K true h1) ∧ (¬ (h1 (o0 + 1) v1) = 0 → K (if (h1 (o0 + 1) v1) = 1 then true else false) h1)))))))) : zCb mX3_isGrass [.ref o0, .int (zI v1)] S h K := by
  show RR mX3_isGrass 0 0 0 [some (.ref o0), some (.int (zI v1))] [] S h (zQb S K)
  refine r_iload_n (pc := 0) (x := v1) dX3_isGrass_0 rfl ?_
  refine r_callSN (μ2 := mX11_isCell) (pc := 1) (as := [.int (zI v1)]) (st := []) mn_X3_60 sm_X11_isCell okX11_isCell ⟨by decide, by decide⟩ dX3_isGrass_1 (Nat.le_of_ble_eq_true rfl) rfl (Nat.le_of_ble_eq_true rfl) (by decide) (by decide) (zCC.mono w ?_)
  rintro r S' h1 ⟨rfl, b1, hr, w⟩
  subst hr
  show RR mX3_isGrass 0 0 4 [some (.ref o0), some (.int (zI v1))] [.int (zI (bI b1))] S h1 (zQb S K)
  refine r_if_eq (pc := 4) (x := (bI b1)) (tgt := 30) dX3_isGrass_4 (by decide) (bI_R _) (fun c => ?_) (fun c => ?_)
  · have w := w.1 (bI_0.mp c)
    refine r_iconst (pc := 30) dX3_isGrass_30 ?_
    exact r_iret (st := []) (pc := 31) (x := 0) (ty := .boolean) dX3_isGrass_31 rfl (rfl) rfl (by decide) ⟨rfl, false, rfl, w⟩
  · have w := w.2 (bI_n.mp c)
    refine r_aload_n (pc := 7) (a := o0) dX3_isGrass_7 rfl ?_
    refine r_getR (pc := 8) (b := (o0 + 1)) fl_X3_9 dX3_isGrass_8 hg0.1 rfl ?_
    refine r_iload_n (pc := 11) (x := v1) dX3_isGrass_11 rfl ?_
    obtain ⟨hb2, w⟩ := w
    refine r_iald (pc := 12) (i := v1) (x := (h1 (o0 + 1) v1)) dX3_isGrass_12 hg0.2.1 ⟨hb2.1, hb2.2, (by decide)⟩ (rfl) ?_
    obtain ⟨hr3, w⟩ := w
    refine r_if_eq (pc := 13) (x := (h1 (o0 + 1) v1)) (tgt := 26) dX3_isGrass_13 (by decide) hr3 (fun c => ?_) (fun c => ?_)
    · have w := w.1 (c)
      refine r_iconst (pc := 26) dX3_isGrass_26 ?_
      refine r_goto (pc := 27) (tgt := 31) dX3_isGrass_27 (by decide) ?_
      exact r_iret (st := []) (pc := 31) (x := 1) (ty := .boolean) dX3_isGrass_31 rfl (rfl) rfl (by decide) ⟨rfl, true, rfl, w⟩
    · have w := w.2 (c)
      refine r_aload_n (pc := 16) (a := o0) dX3_isGrass_16 rfl ?_
      refine r_getR (pc := 17) (b := (o0 + 1)) fl_X3_9 dX3_isGrass_17 hg0.1 rfl ?_
      refine r_iload_n (pc := 20) (x := v1) dX3_isGrass_20 rfl ?_
      refine r_iald (pc := 21) (i := v1) (x := (h1 (o0 + 1) v1)) dX3_isGrass_21 hg0.2.1 ⟨by omega, by omega, (by decide)⟩ (rfl) ?_
      refine r_iconst (pc := 22) dX3_isGrass_22 ?_
      have kk4 : RR mX3_isGrass 0 0 31 [some (.ref o0), some (.int (zI v1))] [.int (zI (bI (if (h1 (o0 + 1) v1) = 1 then true else false)))] S h1 (zQb S K) := by
        exact r_iret (st := []) (pc := 31) (x := (bI (if (h1 (o0 + 1) v1) = 1 then true else false))) (ty := .boolean) dX3_isGrass_31 rfl (bI_nar _) rfl (by decide) ⟨rfl, (if (h1 (o0 + 1) v1) = 1 then true else false), rfl, w⟩
      refine r_icmp_ne (pc := 23) (x := (h1 (o0 + 1) v1)) (y := 1) (tgt := 30) dX3_isGrass_23 (by decide) hr3 (by decide) (fun c => ?_) (fun c => ?_)
      · refine r_iconst (pc := 30) dX3_isGrass_30 ?_
        simp only [if_neg (c)] at kk4 ⊢
        exact kk4
      · refine r_iconst (pc := 26) dX3_isGrass_26 ?_
        refine r_goto (pc := 27) (tgt := 31) dX3_isGrass_27 (by decide) ?_
        simp only [if_pos (c)] at kk4 ⊢
        exact kk4

set_option maxRecDepth 100000 in
set_option maxHeartbeats 4000000 in
theorem wX3_growToTold {S : zSh} {h : zMm} {K : zMm → Prop} {o0 : Nat} (hg0 : zG3 S o0) (w : RR mX3_growToTold 0 0 2 [some (.ref o0), some (.int (zI 0))] [] S h (zQv S K)) : zCv mX3_growToTold [.ref o0] S h K := by
  show RR mX3_growToTold 0 0 0 [some (.ref o0), none] [] S h (zQv S K)
  refine r_iconst (pc := 0) dX3_growToTold_0 ?_
  refine r_istore_n (pc := 1) (L' := [some (.ref o0), some (.int (zI 0))]) dX3_growToTold_1 (by decide) rfl ?_
  exact w

set_option maxRecDepth 100000 in
set_option maxHeartbeats 4000000 in
theorem bX3_growToTold_2 {S : zSh} {h : zMm} {K : zMm → Prop} {o0 : Nat} {v1 : Int} (hg0 : zG3 S o0) (w : (zR v1 ∧ ((36 ≤ v1 → K h) ∧ (¬ 36 ≤ v1 → zCb mX3_isGrass [.ref o0, .int (zI v1)] S h (fun b2 h2 => ((b2 = false → ((0 ≤ v1 ∧ v1 < 36) ∧ RR mX3_growToTold 0 0 2 [some (.ref o0), some (.int (zI (v1 + 1)))] [] S (zU h2 (o0 + 2) v1 0) (zQv S K))) ∧ (b2 = true → ((0 ≤ v1 ∧ v1 < 36) ∧ RR mX3_growToTold 0 0 2 [some (.ref o0), some (.int (zI (v1 + 1)))] [] S (zU h2 (o0 + 2) v1 (h2 (o0 + 5) 7)) (zQv S K))))))))) : RR mX3_growToTold 0 0 2 [some (.ref o0), some (.int (zI v1))] [] S h (zQv S K) := by
  refine r_iload_n (pc := 2) (x := v1) dX3_growToTold_2 rfl ?_
  refine r_bipush (pc := 3) (x := 36) dX3_growToTold_3 (by decide) ?_
  obtain ⟨hr1, w⟩ := w
  refine r_icmp_ge (pc := 5) (x := v1) (y := 36) (tgt := 39) dX3_growToTold_5 (by decide) hr1 (by decide) (fun c => ?_) (fun c => ?_)
  · have w := w.1 (c)
    exact r_ret (st := []) (pc := 39) dX3_growToTold_39 rfl rfl (by decide) ⟨rfl, rfl, w⟩
  · have w := w.2 (c)
    refine r_aload_n (pc := 8) (a := o0) dX3_growToTold_8 rfl ?_
    refine r_getR (pc := 9) (b := (o0 + 2)) fl_X3_15 dX3_growToTold_9 hg0.1 rfl ?_
    refine r_iload_n (pc := 12) (x := v1) dX3_growToTold_12 rfl ?_
    refine r_aload_n (pc := 13) (a := o0) dX3_growToTold_13 rfl ?_
    refine r_iload_n (pc := 14) (x := v1) dX3_growToTold_14 rfl ?_
    refine r_callV (μ2 := mX3_isGrass) (pc := 15) (as := [.int (zI v1)]) (st := [.int (zI v1), .ref (o0 + 2)]) rfl hg0.1 ml_X3_48 im_X3_isGrass se_X3_isGrass okX3_isGrass ⟨by decide, by decide⟩ dX3_growToTold_15 (Nat.le_of_ble_eq_true rfl) rfl (Nat.le_of_ble_eq_true rfl) (by decide) (by decide) (zCC.mono w ?_)
    rintro r S' h2 ⟨rfl, b2, hr, w⟩
    subst hr
    show RR mX3_growToTold 0 0 18 [some (.ref o0), some (.int (zI v1))] [.int (zI (bI b2)), .int (zI v1), .ref (o0 + 2)] S h2 (zQv S K)
    refine r_if_eq (pc := 18) (x := (bI b2)) (tgt := 31) dX3_growToTold_18 (by decide) (bI_R _) (fun c => ?_) (fun c => ?_)
    · have w := w.1 (bI_0.mp c)
      refine r_iconst (pc := 31) dX3_growToTold_31 ?_
      obtain ⟨hb3, w⟩ := w
      refine r_iast (pc := 32) (i := v1) (x := 0) dX3_growToTold_32 hg0.2.2.1 ⟨hb3.1, hb3.2, (by decide)⟩  ?_
      refine r_iinc (pc := 33) (x := v1) (L' := [some (.ref o0), some (.int (zI (v1 + 1)))]) dX3_growToTold_33 rfl (by decide) rfl ?_
      refine r_goto (pc := 36) (tgt := 2) dX3_growToTold_36 (by decide) ?_
      exact w
    · have w := w.2 (bI_n.mp c)
      refine r_aload_n (pc := 21) (a := o0) dX3_growToTold_21 rfl ?_
      refine r_getR (pc := 22) (b := (o0 + 5)) fl_X3_24 dX3_growToTold_22 hg0.1 rfl ?_
      refine r_bipush (pc := 25) (x := 7) dX3_growToTold_25 (by decide) ?_
      refine r_iald (pc := 27) (i := 7) (x := (h2 (o0 + 5) 7)) dX3_growToTold_27 hg0.2.2.2.2.2 (by decide) (rfl) ?_
      refine r_goto (pc := 28) (tgt := 32) dX3_growToTold_28 (by decide) ?_
      obtain ⟨hb4, w⟩ := w
      refine r_iast (pc := 32) (i := v1) (x := (h2 (o0 + 5) 7)) dX3_growToTold_32 hg0.2.2.1 ⟨hb4.1, hb4.2, (by decide)⟩  ?_
      refine r_iinc (pc := 33) (x := v1) (L' := [some (.ref o0), some (.int (zI (v1 + 1)))]) dX3_growToTold_33 rfl (by decide) rfl ?_
      refine r_goto (pc := 36) (tgt := 2) dX3_growToTold_36 (by decide) ?_
      exact w

set_option maxRecDepth 100000 in
set_option maxHeartbeats 4000000 in
theorem wX3_startAnew {S : zSh} {h : zMm} {K : zMm → Prop} {o0 : Nat} (hg0 : zG3 S o0) (w : zCv mJ7_fill_53178 [.ref (o0 + 1), .int (zI 0)] S h (fun h1 => zCv mJ7_fill_53178 [.ref (o0 + 3), .int (zI 3)] S h1 (fun h2 => zCv mJ7_fill_53178 [.ref (o0 + 4), .int (zI (-4))] S h2 (fun h3 => zCv mX3_growToTold [.ref o0] S (zCs h3 zSt2.2.2 (o0 + 5)) (fun h4 => K h4))))) : zCv mX3_startAnew [.ref o0] S h K := by
  show RR mX3_startAnew 0 0 0 [some (.ref o0)] [] S h (zQv S K)
  refine r_aload_n (pc := 0) (a := o0) dX3_startAnew_0 rfl ?_
  refine r_getR (pc := 1) (b := (o0 + 1)) fl_X3_9 dX3_startAnew_1 hg0.1 rfl ?_
  refine r_iconst (pc := 4) dX3_startAnew_4 ?_
  refine r_callS (μ2 := mJ7_fill_53178) (pc := 5) (as := [.ref (o0 + 1), .int (zI 0)]) (st := []) ml_X3_30 sm_J7_fill_53178 okJ7_fill_53178 ⟨by decide, by decide⟩ dX3_startAnew_5 (Nat.le_of_ble_eq_true rfl) rfl (Nat.le_of_ble_eq_true rfl) (by decide) (by decide) (zCC.mono w ?_)
  rintro r S' h1 ⟨rfl, hr, w⟩
  subst hr
  show RR mX3_startAnew 0 0 8 [some (.ref o0)] [] S h1 (zQv S K)
  refine r_aload_n (pc := 8) (a := o0) dX3_startAnew_8 rfl ?_
  refine r_getR (pc := 9) (b := (o0 + 3)) fl_X3_18 dX3_startAnew_9 hg0.1 rfl ?_
  refine r_iconst (pc := 12) dX3_startAnew_12 ?_
  refine r_callS (μ2 := mJ7_fill_53178) (pc := 13) (as := [.ref (o0 + 3), .int (zI 3)]) (st := []) ml_X3_30 sm_J7_fill_53178 okJ7_fill_53178 ⟨by decide, by decide⟩ dX3_startAnew_13 (Nat.le_of_ble_eq_true rfl) rfl (Nat.le_of_ble_eq_true rfl) (by decide) (by decide) (zCC.mono w ?_)
  rintro r S' h2 ⟨rfl, hr, w⟩
  subst hr
  show RR mX3_startAnew 0 0 16 [some (.ref o0)] [] S h2 (zQv S K)
  refine r_aload_n (pc := 16) (a := o0) dX3_startAnew_16 rfl ?_
  refine r_getR (pc := 17) (b := (o0 + 4)) fl_X3_21 dX3_startAnew_17 hg0.1 rfl ?_
  refine r_bipush (pc := 20) (x := (-4)) dX3_startAnew_20 (by decide) ?_
  refine r_callS (μ2 := mJ7_fill_53178) (pc := 22) (as := [.ref (o0 + 4), .int (zI (-4))]) (st := []) ml_X3_30 sm_J7_fill_53178 okJ7_fill_53178 ⟨by decide, by decide⟩ dX3_startAnew_22 (Nat.le_of_ble_eq_true rfl) rfl (Nat.le_of_ble_eq_true rfl) (by decide) (by decide) (zCC.mono w ?_)
  rintro r S' h3 ⟨rfl, hr, w⟩
  subst hr
  show RR mX3_startAnew 0 0 25 [some (.ref o0)] [] S h3 (zQv S K)
  refine r_getsN (pc := 25) (q := zSt2) zSt_2 fn_X3_36 dX3_startAnew_25 ?_
  refine r_iconst (pc := 28) dX3_startAnew_28 ?_
  refine r_aload_n (pc := 29) (a := o0) dX3_startAnew_29 rfl ?_
  refine r_getR (pc := 30) (b := (o0 + 5)) fl_X3_24 dX3_startAnew_30 hg0.1 rfl ?_
  refine r_iconst (pc := 33) dX3_startAnew_33 ?_
  refine r_bipush (pc := 34) (x := 8) dX3_startAnew_34 (by decide) ?_
  refine r_copyS (pc := 36) (q := zSt2) zSt_2 ml_X3_39 mw_native mw_static mw_init dX3_startAnew_36 hg0.2.2.2.2.2 (by decide) (by decide) (by decide) ?_
  refine r_aload_n (pc := 39) (a := o0) dX3_startAnew_39 rfl ?_
  refine r_callV (μ2 := mX3_growToTold) (pc := 40) (as := []) (st := []) rfl hg0.1 ml_X3_45 im_X3_growToTold se_X3_growToTold okX3_growToTold ⟨by decide, by decide⟩ dX3_startAnew_40 (Nat.le_of_ble_eq_true rfl) rfl (Nat.le_of_ble_eq_true rfl) (by decide) (by decide) (zCC.mono w ?_)
  rintro r S' h4 ⟨rfl, hr, w⟩
  subst hr
  show RR mX3_startAnew 0 0 43 [some (.ref o0)] [] S h4 (zQv S K)
  exact r_ret (st := []) (pc := 43) dX3_startAnew_43 rfl rfl (by decide) ⟨rfl, rfl, w⟩

set_option maxRecDepth 100000 in
set_option maxHeartbeats 4000000 in
theorem wX3_takeCells {S : zSh} {h : zMm} {K : zMm → Prop} {o0 : Nat} {o1 : Nat} (hg0 : zG3 S o0) (hg1 : zG3 S o1) (w : K (zCp (zCp (zCp h (o1 + 1) (o0 + 1) 36) (o1 + 2) (o0 + 2) 36) (o1 + 4) (o0 + 4) 36)) : zCv mX3_takeCells [.ref o0, .ref o1] S h K := by
  show RR mX3_takeCells 0 0 0 [some (.ref o0), some (.ref o1)] [] S h (zQv S K)
  refine r_aload_n (pc := 0) (a := o1) dX3_takeCells_0 rfl ?_
  refine r_getR (pc := 1) (b := (o1 + 1)) fl_X3_9 dX3_takeCells_1 hg1.1 rfl ?_
  refine r_iconst (pc := 4) dX3_takeCells_4 ?_
  refine r_aload_n (pc := 5) (a := o0) dX3_takeCells_5 rfl ?_
  refine r_getR (pc := 6) (b := (o0 + 1)) fl_X3_9 dX3_takeCells_6 hg0.1 rfl ?_
  refine r_iconst (pc := 9) dX3_takeCells_9 ?_
  refine r_bipush (pc := 10) (x := 36) dX3_takeCells_10 (by decide) ?_
  refine r_copy_int (pc := 12) ml_X3_39 mw_native mw_static mw_init dX3_takeCells_12 hg1.2.1 hg0.2.1 (by decide) (by decide) (by decide) ?_
  refine r_aload_n (pc := 15) (a := o1) dX3_takeCells_15 rfl ?_
  refine r_getR (pc := 16) (b := (o1 + 2)) fl_X3_15 dX3_takeCells_16 hg1.1 rfl ?_
  refine r_iconst (pc := 19) dX3_takeCells_19 ?_
  refine r_aload_n (pc := 20) (a := o0) dX3_takeCells_20 rfl ?_
  refine r_getR (pc := 21) (b := (o0 + 2)) fl_X3_15 dX3_takeCells_21 hg0.1 rfl ?_
  refine r_iconst (pc := 24) dX3_takeCells_24 ?_
  refine r_bipush (pc := 25) (x := 36) dX3_takeCells_25 (by decide) ?_
  refine r_copy_int (pc := 27) ml_X3_39 mw_native mw_static mw_init dX3_takeCells_27 hg1.2.2.1 hg0.2.2.1 (by decide) (by decide) (by decide) ?_
  refine r_aload_n (pc := 30) (a := o1) dX3_takeCells_30 rfl ?_
  refine r_getR (pc := 31) (b := (o1 + 4)) fl_X3_21 dX3_takeCells_31 hg1.1 rfl ?_
  refine r_iconst (pc := 34) dX3_takeCells_34 ?_
  refine r_aload_n (pc := 35) (a := o0) dX3_takeCells_35 rfl ?_
  refine r_getR (pc := 36) (b := (o0 + 4)) fl_X3_21 dX3_takeCells_36 hg0.1 rfl ?_
  refine r_iconst (pc := 39) dX3_takeCells_39 ?_
  refine r_bipush (pc := 40) (x := 36) dX3_takeCells_40 (by decide) ?_
  refine r_copy_int (pc := 42) ml_X3_39 mw_native mw_static mw_init dX3_takeCells_42 hg1.2.2.2.2.1 hg0.2.2.2.2.1 (by decide) (by decide) (by decide) ?_
  exact r_ret (st := []) (pc := 45) dX3_takeCells_45 rfl rfl (by decide) ⟨rfl, rfl, w⟩

set_option maxRecDepth 100000 in
set_option maxHeartbeats 4000000 in
theorem wX3_takeAll {S : zSh} {h : zMm} {K : zMm → Prop} {o0 : Nat} {o1 : Nat} (hg0 : zG3 S o0) (hg1 : zG3 S o1) (w : zCv mX3_takeCells [.ref o0, .ref o1] S h (fun h1 => K (zCp (zCp h1 (o1 + 3) (o0 + 3) 36) (o1 + 5) (o0 + 5) 8))) : zCv mX3_takeAll [.ref o0, .ref o1] S h K := by
  show RR mX3_takeAll 0 0 0 [some (.ref o0), some (.ref o1)] [] S h (zQv S K)
  refine r_aload_n (pc := 0) (a := o0) dX3_takeAll_0 rfl ?_
  refine r_aload_n (pc := 1) (a := o1) dX3_takeAll_1 rfl ?_
  refine r_callV (μ2 := mX3_takeCells) (pc := 2) (as := [.ref o1]) (st := []) rfl hg0.1 ml_X3_52 im_X3_takeCells se_X3_takeCells okX3_takeCells ⟨by decide, by decide⟩ dX3_takeAll_2 (Nat.le_of_ble_eq_true rfl) rfl (Nat.le_of_ble_eq_true rfl) (by decide) (by decide) (zCC.mono w ?_)
  rintro r S' h1 ⟨rfl, hr, w⟩
  subst hr
  show RR mX3_takeAll 0 0 5 [some (.ref o0), some (.ref o1)] [] S h1 (zQv S K)
  refine r_aload_n (pc := 5) (a := o1) dX3_takeAll_5 rfl ?_
  refine r_getR (pc := 6) (b := (o1 + 3)) fl_X3_18 dX3_takeAll_6 hg1.1 rfl ?_
  refine r_iconst (pc := 9) dX3_takeAll_9 ?_
  refine r_aload_n (pc := 10) (a := o0) dX3_takeAll_10 rfl ?_
  refine r_getR (pc := 11) (b := (o0 + 3)) fl_X3_18 dX3_takeAll_11 hg0.1 rfl ?_
  refine r_iconst (pc := 14) dX3_takeAll_14 ?_
  refine r_bipush (pc := 15) (x := 36) dX3_takeAll_15 (by decide) ?_
  refine r_copy_int (pc := 17) ml_X3_39 mw_native mw_static mw_init dX3_takeAll_17 hg1.2.2.2.1 hg0.2.2.2.1 (by decide) (by decide) (by decide) ?_
  refine r_aload_n (pc := 20) (a := o1) dX3_takeAll_20 rfl ?_
  refine r_getR (pc := 21) (b := (o1 + 5)) fl_X3_24 dX3_takeAll_21 hg1.1 rfl ?_
  refine r_iconst (pc := 24) dX3_takeAll_24 ?_
  refine r_aload_n (pc := 25) (a := o0) dX3_takeAll_25 rfl ?_
  refine r_getR (pc := 26) (b := (o0 + 5)) fl_X3_24 dX3_takeAll_26 hg0.1 rfl ?_
  refine r_iconst (pc := 29) dX3_takeAll_29 ?_
  refine r_bipush (pc := 30) (x := 8) dX3_takeAll_30 (by decide) ?_
  refine r_copy_int (pc := 32) ml_X3_39 mw_native mw_static mw_init dX3_takeAll_32 hg1.2.2.2.2.2 hg0.2.2.2.2.2 (by decide) (by decide) (by decide) ?_
  exact r_ret (st := []) (pc := 35) dX3_takeAll_35 rfl rfl (by decide) ⟨rfl, rfl, w⟩

set_option maxRecDepth 100000 in
set_option maxHeartbeats 4000000 in
theorem wX3_minutesOfStep {S : zSh} {h : zMm} {K : Int → zMm → Prop} {o0 : Nat} {v1 : Int} {v2 : Int} (hg0 : zG3 S o0) (w : (zR v1 ∧ ((¬ v1 = 0 → K 1 h) ∧ (v1 = 0 → zCb mX11_isCell [.int (zI v2)] S h (fun b2 h2 => ((b2 = false → K 1 h2) ∧ (b2 = true → ((0 ≤ v2 ∧ v2 < 36) ∧ (zR (h2 (o0 + 1) v2) ∧ ((¬ (h2 (o0 + 1) v2) = 1 → K 1 h2) ∧ ((h2 (o0 + 1) v2) = 1 → K (h2 (o0 + 5) 2) h2))))))))))) : zCi mX3_minutesOfStep [.ref o0, .int (zI v1), .int (zI v2)] S h K := by
  show RR mX3_minutesOfStep 0 0 0 [some (.ref o0), some (.int (zI v1)), some (.int (zI v2))] [] S h (zQi S K)
  refine r_iload_n (pc := 0) (x := v1) dX3_minutesOfStep_0 rfl ?_
  obtain ⟨hr1, w⟩ := w
  refine r_if_ne (pc := 1) (x := v1) (tgt := 30) dX3_minutesOfStep_1 (by decide) hr1 (fun c => ?_) (fun c => ?_)
  · have w := w.1 (c)
    refine r_iconst (pc := 30) dX3_minutesOfStep_30 ?_
    exact r_iret (st := []) (pc := 31) (x := 1) (ty := .int) dX3_minutesOfStep_31 rfl rfl rfl (by decide) ⟨rfl, _, rfl, w⟩
  · have w := w.2 (c)
    refine r_iload_n (pc := 4) (x := v2) dX3_minutesOfStep_4 rfl ?_
    refine r_callSN (μ2 := mX11_isCell) (pc := 5) (as := [.int (zI v2)]) (st := []) mn_X3_60 sm_X11_isCell okX11_isCell ⟨by decide, by decide⟩ dX3_minutesOfStep_5 (Nat.le_of_ble_eq_true rfl) rfl (Nat.le_of_ble_eq_true rfl) (by decide) (by decide) (zCC.mono w ?_)
    rintro r S' h2 ⟨rfl, b2, hr, w⟩
    subst hr
    show RR mX3_minutesOfStep 0 0 8 [some (.ref o0), some (.int (zI v1)), some (.int (zI v2))] [.int (zI (bI b2))] S h2 (zQi S K)
    refine r_if_eq (pc := 8) (x := (bI b2)) (tgt := 30) dX3_minutesOfStep_8 (by decide) (bI_R _) (fun c => ?_) (fun c => ?_)
    · have w := w.1 (bI_0.mp c)
      refine r_iconst (pc := 30) dX3_minutesOfStep_30 ?_
      exact r_iret (st := []) (pc := 31) (x := 1) (ty := .int) dX3_minutesOfStep_31 rfl rfl rfl (by decide) ⟨rfl, _, rfl, w⟩
    · have w := w.2 (bI_n.mp c)
      refine r_aload_n (pc := 11) (a := o0) dX3_minutesOfStep_11 rfl ?_
      refine r_getR (pc := 12) (b := (o0 + 1)) fl_X3_9 dX3_minutesOfStep_12 hg0.1 rfl ?_
      refine r_iload_n (pc := 15) (x := v2) dX3_minutesOfStep_15 rfl ?_
      obtain ⟨hb3, w⟩ := w
      refine r_iald (pc := 16) (i := v2) (x := (h2 (o0 + 1) v2)) dX3_minutesOfStep_16 hg0.2.1 ⟨hb3.1, hb3.2, (by decide)⟩ (rfl) ?_
      refine r_iconst (pc := 17) dX3_minutesOfStep_17 ?_
      obtain ⟨hr4, w⟩ := w
      refine r_icmp_ne (pc := 18) (x := (h2 (o0 + 1) v2)) (y := 1) (tgt := 30) dX3_minutesOfStep_18 (by decide) hr4 (by decide) (fun c => ?_) (fun c => ?_)
      · have w := w.1 (c)
        refine r_iconst (pc := 30) dX3_minutesOfStep_30 ?_
        exact r_iret (st := []) (pc := 31) (x := 1) (ty := .int) dX3_minutesOfStep_31 rfl rfl rfl (by decide) ⟨rfl, _, rfl, w⟩
      · have w := w.2 (c)
        refine r_aload_n (pc := 21) (a := o0) dX3_minutesOfStep_21 rfl ?_
        refine r_getR (pc := 22) (b := (o0 + 5)) fl_X3_24 dX3_minutesOfStep_22 hg0.1 rfl ?_
        refine r_iconst (pc := 25) dX3_minutesOfStep_25 ?_
        refine r_iald (pc := 26) (i := 2) (x := (h2 (o0 + 5) 2)) dX3_minutesOfStep_26 hg0.2.2.2.2.2 (by decide) (rfl) ?_
        refine r_goto (pc := 27) (tgt := 31) dX3_minutesOfStep_27 (by decide) ?_
        exact r_iret (st := []) (pc := 31) (x := (h2 (o0 + 5) 2)) (ty := .int) dX3_minutesOfStep_31 rfl rfl rfl (by decide) ⟨rfl, _, rfl, w⟩

set_option maxRecDepth 100000 in
set_option maxHeartbeats 4000000 in
theorem wX3_grassBits {S : zSh} {h : zMm} {K : Int → zMm → Prop} {o0 : Nat} (hg0 : zG3 S o0) (w : RR mX3_grassBits 0 0 4 [some (.ref o0), some (.long (zJ 0)), none, some (.int (zI 0))] [] S h (zQl S K)) : zCl mX3_grassBits [.ref o0] S h K := by
  show RR mX3_grassBits 0 0 0 [some (.ref o0), none, none, none] [] S h (zQl S K)
  refine r_lconst (pc := 0) (x := 0) dX3_grassBits_0 rfl ?_
  refine r_lstore_n (pc := 1) (L' := [some (.ref o0), some (.long (zJ 0)), none, none]) dX3_grassBits_1 (by decide) rfl ?_
  refine r_iconst (pc := 2) dX3_grassBits_2 ?_
  refine r_istore_n (pc := 3) (L' := [some (.ref o0), some (.long (zJ 0)), none, some (.int (zI 0))]) dX3_grassBits_3 (by decide) rfl ?_
  exact w

set_option maxRecDepth 100000 in
set_option maxHeartbeats 4000000 in
theorem bX3_grassBits_4 {S : zSh} {h : zMm} {K : Int → zMm → Prop} {o0 : Nat} {v1 : Int} {v3 : Int} (hg0 : zG3 S o0) (w : (zR v3 ∧ ((36 ≤ v3 → K v1 h) ∧ (¬ 36 ≤ v3 → zCb mX3_isGrass [.ref o0, .int (zI v3)] S h (fun b2 h2 => RR mX3_grassBits 0 0 4 [some (.ref o0), some (.long (zJ (if b2 = true then (lO v1 (lSl 1 v3)) else v1))), none, some (.int (zI (v3 + 1)))] [] S h2 (zQl S K)))))) : RR mX3_grassBits 0 0 4 [some (.ref o0), some (.long (zJ v1)), none, some (.int (zI v3))] [] S h (zQl S K) := by
  refine r_iload_n (pc := 4) (x := v3) dX3_grassBits_4 rfl ?_
  refine r_bipush (pc := 5) (x := 36) dX3_grassBits_5 (by decide) ?_
  obtain ⟨hr1, w⟩ := w
  refine r_icmp_ge (pc := 7) (x := v3) (y := 36) (tgt := 30) dX3_grassBits_7 (by decide) hr1 (by decide) (fun c => ?_) (fun c => ?_)
  · have w := w.1 (c)
    refine r_lload_n (pc := 30) (x := v1) dX3_grassBits_30 rfl ?_
    exact r_lret (st := []) (pc := 31) (x := v1) dX3_grassBits_31 rfl rfl (by decide) ⟨rfl, _, rfl, w⟩
  · have w := w.2 (c)
    refine r_aload_n (pc := 10) (a := o0) dX3_grassBits_10 rfl ?_
    refine r_iload_n (pc := 11) (x := v3) dX3_grassBits_11 rfl ?_
    refine r_callV (μ2 := mX3_isGrass) (pc := 12) (as := [.int (zI v3)]) (st := []) rfl hg0.1 ml_X3_48 im_X3_isGrass se_X3_isGrass okX3_isGrass ⟨by decide, by decide⟩ dX3_grassBits_12 (Nat.le_of_ble_eq_true rfl) rfl (Nat.le_of_ble_eq_true rfl) (by decide) (by decide) (zCC.mono w ?_)
    rintro r S' h2 ⟨rfl, b2, hr, w⟩
    subst hr
    show RR mX3_grassBits 0 0 15 [some (.ref o0), some (.long (zJ v1)), none, some (.int (zI v3))] [.int (zI (bI b2))] S h2 (zQl S K)
    have kk3 : RR mX3_grassBits 0 0 24 [some (.ref o0), some (.long (zJ (if b2 = true then (lO v1 (lSl 1 v3)) else v1))), none, some (.int (zI v3))] [] S h2 (zQl S K) := by
      refine r_iinc (pc := 24) (x := v3) (L' := [some (.ref o0), some (.long (zJ (if b2 = true then (lO v1 (lSl 1 v3)) else v1))), none, some (.int (zI (v3 + 1)))]) dX3_grassBits_24 rfl (by decide) rfl ?_
      refine r_goto (pc := 27) (tgt := 4) dX3_grassBits_27 (by decide) ?_
      exact w
    refine r_if_eq (pc := 15) (x := (bI b2)) (tgt := 24) dX3_grassBits_15 (by decide) (bI_R _) (fun c => ?_) (fun c => ?_)
    · simp only [if_neg (bI_ft (bI_0.mp c))] at kk3 ⊢
      exact kk3
    · refine r_lload_n (pc := 18) (x := v1) dX3_grassBits_18 rfl ?_
      refine r_lconst (pc := 19) (x := 1) dX3_grassBits_19 rfl ?_
      refine r_iload_n (pc := 20) (x := v3) dX3_grassBits_20 rfl ?_
      refine r_lshl (pc := 21) (x := 1) (y := v3) dX3_grassBits_21 ?_
      refine r_lor (pc := 22) (x := v1) (y := (lSl 1 v3)) dX3_grassBits_22 ?_
      refine r_lstore_n (pc := 23) (L' := [some (.ref o0), some (.long (zJ (lO v1 (lSl 1 v3)))), none, some (.int (zI v3))]) dX3_grassBits_23 (by decide) rfl ?_
      simp only [if_pos (bI_n.mp c)] at kk3 ⊢
      exact kk3

set_option maxRecDepth 100000 in
set_option maxHeartbeats 4000000 in
theorem wX3_grassCells {S : zSh} {h : zMm} {K : Int → zMm → Prop} {o0 : Nat} (hg0 : zG3 S o0) (w : zCl mX3_grassBits [.ref o0] S h (fun x1 h1 => zCi mJ13_bitCount_95d88 [.long (zJ x1)] S h1 (fun x2 h2 => K x2 h2))) : zCi mX3_grassCells [.ref o0] S h K := by
  show RR mX3_grassCells 0 0 0 [some (.ref o0)] [] S h (zQi S K)
  refine r_aload_n (pc := 0) (a := o0) dX3_grassCells_0 rfl ?_
  refine r_callV (μ2 := mX3_grassBits) (pc := 1) (as := []) (st := []) rfl hg0.1 ml_X3_66 im_X3_grassBits se_X3_grassBits okX3_grassBits ⟨by decide, by decide⟩ dX3_grassCells_1 (Nat.le_of_ble_eq_true rfl) rfl (Nat.le_of_ble_eq_true rfl) (by decide) (by decide) (zCC.mono w ?_)
  rintro r S' h1 ⟨rfl, x1, hr, w⟩
  subst hr
  show RR mX3_grassCells 0 0 4 [some (.ref o0)] [.long (zJ x1)] S h1 (zQi S K)
  refine r_callS (μ2 := mJ13_bitCount_95d88) (pc := 4) (as := [.long (zJ x1)]) (st := []) ml_X3_70 sm_J13_bitCount_95d88 okJ13_bitCount_95d88 ⟨by decide, by decide⟩ dX3_grassCells_4 (Nat.le_of_ble_eq_true rfl) rfl (Nat.le_of_ble_eq_true rfl) (by decide) (by decide) (zCC.mono w ?_)
  rintro r S' h2 ⟨rfl, x2, hr, w⟩
  subst hr
  show RR mX3_grassCells 0 0 7 [some (.ref o0)] [.int (zI x2)] S h2 (zQi S K)
  exact r_iret (st := []) (pc := 7) (x := x2) (ty := .int) dX3_grassCells_7 rfl rfl rfl (by decide) ⟨rfl, _, rfl, w⟩

set_option maxRecDepth 100000 in
set_option maxHeartbeats 4000000 in
theorem wX3_barredCells {S : zSh} {h : zMm} {K : Int → zMm → Prop} {o0 : Nat} (hg0 : zG3 S o0) (w : RR mX3_barredCells 0 0 4 [some (.ref o0), some (.int (zI 0)), some (.int (zI 0))] [] S h (zQi S K)) : zCi mX3_barredCells [.ref o0] S h K := by
  show RR mX3_barredCells 0 0 0 [some (.ref o0), none, none] [] S h (zQi S K)
  refine r_iconst (pc := 0) dX3_barredCells_0 ?_
  refine r_istore_n (pc := 1) (L' := [some (.ref o0), some (.int (zI 0)), none]) dX3_barredCells_1 (by decide) rfl ?_
  refine r_iconst (pc := 2) dX3_barredCells_2 ?_
  refine r_istore_n (pc := 3) (L' := [some (.ref o0), some (.int (zI 0)), some (.int (zI 0))]) dX3_barredCells_3 (by decide) rfl ?_
  exact w

set_option maxRecDepth 100000 in
set_option maxHeartbeats 4000000 in
theorem bX3_barredCells_4 {S : zSh} {h : zMm} {K : Int → zMm → Prop} {o0 : Nat} {v1 : Int} {v2 : Int} (hg0 : zG3 S o0) (w : (zR v2 ∧ ((36 ≤ v2 → K v1 h) ∧ (¬ 36 ≤ v2 → zCb mX3_isOpen [.ref o0, .int (zI v2)] S h (fun b2 h2 => RR mX3_barredCells 0 0 4 [some (.ref o0), some (.int (zI (v1 + (bI (if b2 = true then false else true))))), some (.int (zI (v2 + 1)))] [] S h2 (zQi S K)))))) : RR mX3_barredCells 0 0 4 [some (.ref o0), some (.int (zI v1)), some (.int (zI v2))] [] S h (zQi S K) := by
  refine r_iload_n (pc := 4) (x := v2) dX3_barredCells_4 rfl ?_
  refine r_bipush (pc := 5) (x := 36) dX3_barredCells_5 (by decide) ?_
  obtain ⟨hr1, w⟩ := w
  refine r_icmp_ge (pc := 7) (x := v2) (y := 36) (tgt := 32) dX3_barredCells_7 (by decide) hr1 (by decide) (fun c => ?_) (fun c => ?_)
  · have w := w.1 (c)
    refine r_iload_n (pc := 32) (x := v1) dX3_barredCells_32 rfl ?_
    exact r_iret (st := []) (pc := 33) (x := v1) (ty := .int) dX3_barredCells_33 rfl rfl rfl (by decide) ⟨rfl, _, rfl, w⟩
  · have w := w.2 (c)
    refine r_iload_n (pc := 10) (x := v1) dX3_barredCells_10 rfl ?_
    refine r_aload_n (pc := 11) (a := o0) dX3_barredCells_11 rfl ?_
    refine r_iload_n (pc := 12) (x := v2) dX3_barredCells_12 rfl ?_
    refine r_callV (μ2 := mX3_isOpen) (pc := 13) (as := [.int (zI v2)]) (st := [.int (zI v1)]) rfl hg0.1 ml_X3_63 im_X3_isOpen se_X3_isOpen okX3_isOpen ⟨by decide, by decide⟩ dX3_barredCells_13 (Nat.le_of_ble_eq_true rfl) rfl (Nat.le_of_ble_eq_true rfl) (by decide) (by decide) (zCC.mono w ?_)
    rintro r S' h2 ⟨rfl, b2, hr, w⟩
    subst hr
    show RR mX3_barredCells 0 0 16 [some (.ref o0), some (.int (zI v1)), some (.int (zI v2))] [.int (zI (bI b2)), .int (zI v1)] S h2 (zQi S K)
    have kk3 : RR mX3_barredCells 0 0 24 [some (.ref o0), some (.int (zI v1)), some (.int (zI v2))] [.int (zI (bI (if b2 = true then false else true))), .int (zI v1)] S h2 (zQi S K) := by
      refine r_iadd (pc := 24) (x := v1) (y := (bI (if b2 = true then false else true))) dX3_barredCells_24 ?_
      refine r_istore_n (pc := 25) (L' := [some (.ref o0), some (.int (zI (v1 + (bI (if b2 = true then false else true))))), some (.int (zI v2))]) dX3_barredCells_25 (by decide) rfl ?_
      refine r_iinc (pc := 26) (x := v2) (L' := [some (.ref o0), some (.int (zI (v1 + (bI (if b2 = true then false else true))))), some (.int (zI (v2 + 1)))]) dX3_barredCells_26 rfl (by decide) rfl ?_
      refine r_goto (pc := 29) (tgt := 4) dX3_barredCells_29 (by decide) ?_
      exact w
    refine r_if_eq (pc := 16) (x := (bI b2)) (tgt := 23) dX3_barredCells_16 (by decide) (bI_R _) (fun c => ?_) (fun c => ?_)
    · refine r_iconst (pc := 23) dX3_barredCells_23 ?_
      simp only [if_neg (bI_ft (bI_0.mp c))] at kk3 ⊢
      exact kk3
    · refine r_iconst (pc := 19) dX3_barredCells_19 ?_
      refine r_goto (pc := 20) (tgt := 24) dX3_barredCells_20 (by decide) ?_
      simp only [if_pos (bI_n.mp c)] at kk3 ⊢
      exact kk3

set_option maxRecDepth 100000 in
set_option maxHeartbeats 4000000 in
theorem wX3_heightsSummed {S : zSh} {h : zMm} {K : Int → zMm → Prop} {o0 : Nat} (hg0 : zG3 S o0) (w : RR mX3_heightsSummed 0 0 4 [some (.ref o0), some (.int (zI 0)), some (.int (zI 0))] [] S h (zQi S K)) : zCi mX3_heightsSummed [.ref o0] S h K := by
  show RR mX3_heightsSummed 0 0 0 [some (.ref o0), none, none] [] S h (zQi S K)
  refine r_iconst (pc := 0) dX3_heightsSummed_0 ?_
  refine r_istore_n (pc := 1) (L' := [some (.ref o0), some (.int (zI 0)), none]) dX3_heightsSummed_1 (by decide) rfl ?_
  refine r_iconst (pc := 2) dX3_heightsSummed_2 ?_
  refine r_istore_n (pc := 3) (L' := [some (.ref o0), some (.int (zI 0)), some (.int (zI 0))]) dX3_heightsSummed_3 (by decide) rfl ?_
  exact w

set_option maxRecDepth 100000 in
set_option maxHeartbeats 4000000 in
theorem bX3_heightsSummed_4 {S : zSh} {h : zMm} {K : Int → zMm → Prop} {o0 : Nat} {v1 : Int} {v2 : Int} (hg0 : zG3 S o0) (w : (zR v2 ∧ ((36 ≤ v2 → K v1 h) ∧ (¬ 36 ≤ v2 → ((0 ≤ v2 ∧ v2 < 36) ∧ RR mX3_heightsSummed 0 0 4 [some (.ref o0), some (.int (zI (v1 + (h (o0 + 2) v2)))), some (.int (zI (v2 + 1)))] [] S h (zQi S K)))))) : RR mX3_heightsSummed 0 0 4 [some (.ref o0), some (.int (zI v1)), some (.int (zI v2))] [] S h (zQi S K) := by
  refine r_iload_n (pc := 4) (x := v2) dX3_heightsSummed_4 rfl ?_
  refine r_bipush (pc := 5) (x := 36) dX3_heightsSummed_5 (by decide) ?_
  obtain ⟨hr1, w⟩ := w
  refine r_icmp_ge (pc := 7) (x := v2) (y := 36) (tgt := 25) dX3_heightsSummed_7 (by decide) hr1 (by decide) (fun c => ?_) (fun c => ?_)
  · have w := w.1 (c)
    refine r_iload_n (pc := 25) (x := v1) dX3_heightsSummed_25 rfl ?_
    exact r_iret (st := []) (pc := 26) (x := v1) (ty := .int) dX3_heightsSummed_26 rfl rfl rfl (by decide) ⟨rfl, _, rfl, w⟩
  · have w := w.2 (c)
    refine r_iload_n (pc := 10) (x := v1) dX3_heightsSummed_10 rfl ?_
    refine r_aload_n (pc := 11) (a := o0) dX3_heightsSummed_11 rfl ?_
    refine r_getR (pc := 12) (b := (o0 + 2)) fl_X3_15 dX3_heightsSummed_12 hg0.1 rfl ?_
    refine r_iload_n (pc := 15) (x := v2) dX3_heightsSummed_15 rfl ?_
    obtain ⟨hb2, w⟩ := w
    refine r_iald (pc := 16) (i := v2) (x := (h (o0 + 2) v2)) dX3_heightsSummed_16 hg0.2.2.1 ⟨hb2.1, hb2.2, (by decide)⟩ (rfl) ?_
    refine r_iadd (pc := 17) (x := v1) (y := (h (o0 + 2) v2)) dX3_heightsSummed_17 ?_
    refine r_istore_n (pc := 18) (L' := [some (.ref o0), some (.int (zI (v1 + (h (o0 + 2) v2)))), some (.int (zI v2))]) dX3_heightsSummed_18 (by decide) rfl ?_
    refine r_iinc (pc := 19) (x := v2) (L' := [some (.ref o0), some (.int (zI (v1 + (h (o0 + 2) v2)))), some (.int (zI (v2 + 1)))]) dX3_heightsSummed_19 rfl (by decide) rfl ?_
    refine r_goto (pc := 22) (tgt := 4) dX3_heightsSummed_22 (by decide) ?_
    exact w

set_option maxRecDepth 100000 in
set_option maxHeartbeats 4000000 in
theorem wX3_heightIn {S : zSh} {h : zMm} {K : Int → zMm → Prop} {o0 : Nat} {v1 : Int} {v2 : Int} (hg0 : zG3 S o0) (w : zCb mX3_isGrass [.ref o0, .int (zI v1)] S h (fun b1 h1 => ((b1 = false → K 0 h1) ∧ (b1 = true → ((0 ≤ v1 ∧ v1 < 36) ∧ (zR ((h1 (o0 + 2) v1) + (v2 * (h1 (o0 + 3) v1))) ∧ K (min 60 ((h1 (o0 + 2) v1) + (v2 * (h1 (o0 + 3) v1)))) h1)))))) : zCi mX3_heightIn [.ref o0, .int (zI v1), .int (zI v2)] S h K := by
  show RR mX3_heightIn 0 0 0 [some (.ref o0), some (.int (zI v1)), some (.int (zI v2))] [] S h (zQi S K)
  refine r_aload_n (pc := 0) (a := o0) dX3_heightIn_0 rfl ?_
  refine r_iload_n (pc := 1) (x := v1) dX3_heightIn_1 rfl ?_
  refine r_callV (μ2 := mX3_isGrass) (pc := 2) (as := [.int (zI v1)]) (st := []) rfl hg0.1 ml_X3_48 im_X3_isGrass se_X3_isGrass okX3_isGrass ⟨by decide, by decide⟩ dX3_heightIn_2 (Nat.le_of_ble_eq_true rfl) rfl (Nat.le_of_ble_eq_true rfl) (by decide) (by decide) (zCC.mono w ?_)
  rintro r S' h1 ⟨rfl, b1, hr, w⟩
  subst hr
  show RR mX3_heightIn 0 0 5 [some (.ref o0), some (.int (zI v1)), some (.int (zI v2))] [.int (zI (bI b1))] S h1 (zQi S K)
  refine r_if_eq (pc := 5) (x := (bI b1)) (tgt := 31) dX3_heightIn_5 (by decide) (bI_R _) (fun c => ?_) (fun c => ?_)
  · have w := w.1 (bI_0.mp c)
    refine r_iconst (pc := 31) dX3_heightIn_31 ?_
    exact r_iret (st := []) (pc := 32) (x := 0) (ty := .int) dX3_heightIn_32 rfl rfl rfl (by decide) ⟨rfl, _, rfl, w⟩
  · have w := w.2 (bI_n.mp c)
    refine r_bipush (pc := 8) (x := 60) dX3_heightIn_8 (by decide) ?_
    refine r_aload_n (pc := 10) (a := o0) dX3_heightIn_10 rfl ?_
    refine r_getR (pc := 11) (b := (o0 + 2)) fl_X3_15 dX3_heightIn_11 hg0.1 rfl ?_
    refine r_iload_n (pc := 14) (x := v1) dX3_heightIn_14 rfl ?_
    obtain ⟨hb2, w⟩ := w
    refine r_iald (pc := 15) (i := v1) (x := (h1 (o0 + 2) v1)) dX3_heightIn_15 hg0.2.2.1 ⟨hb2.1, hb2.2, (by decide)⟩ (rfl) ?_
    refine r_iload_n (pc := 16) (x := v2) dX3_heightIn_16 rfl ?_
    refine r_aload_n (pc := 17) (a := o0) dX3_heightIn_17 rfl ?_
    refine r_getR (pc := 18) (b := (o0 + 3)) fl_X3_18 dX3_heightIn_18 hg0.1 rfl ?_
    refine r_iload_n (pc := 21) (x := v1) dX3_heightIn_21 rfl ?_
    refine r_iald (pc := 22) (i := v1) (x := (h1 (o0 + 3) v1)) dX3_heightIn_22 hg0.2.2.2.1 ⟨by omega, by omega, (by decide)⟩ (rfl) ?_
    refine r_imul (pc := 23) (x := v2) (y := (h1 (o0 + 3) v1)) dX3_heightIn_23 ?_
    refine r_iadd (pc := 24) (x := (h1 (o0 + 2) v1)) (y := (v2 * (h1 (o0 + 3) v1))) dX3_heightIn_24 ?_
    obtain ⟨hr3, w⟩ := w
    refine r_min (pc := 25) (x := 60) (y := ((h1 (o0 + 2) v1) + (v2 * (h1 (o0 + 3) v1)))) ml_X3_76 mm_min_s it_J9 mm_min_c dX3_heightIn_25 (by decide) (by decide) (by decide) (by decide) (by decide) hr3 ?_
    refine r_goto (pc := 28) (tgt := 32) dX3_heightIn_28 (by decide) ?_
    exact r_iret (st := []) (pc := 32) (x := (min 60 ((h1 (o0 + 2) v1) + (v2 * (h1 (o0 + 3) v1))))) (ty := .int) dX3_heightIn_32 rfl rfl rfl (by decide) ⟨rfl, _, rfl, w⟩

set_option maxRecDepth 100000 in
set_option maxHeartbeats 4000000 in
theorem wX3_stripeOf {S : zSh} {h : zMm} {K : Int → zMm → Prop} {o0 : Nat} {v1 : Int} (hg0 : zG3 S o0) (w : zCb mX11_isCell [.int (zI v1)] S h (fun b1 h1 => ((b1 = false → K 2 h1) ∧ (b1 = true → ((0 ≤ v1 ∧ v1 < 36) ∧ (zR (h1 (o0 + 4) v1) ∧ ((¬ (h1 (o0 + 4) v1) = (-4) → ((0 ≤ (v1 % 6) ∧ (v1 % 6) < 2147483648) ∧ (zR ((v1 % 6) % 2) ∧ (zR (if ((v1 % 6) % 2) = 0 then (0 : Int) else (2 : Int)) ∧ K (bI (if (h1 (o0 + 4) v1) = (if ((v1 % 6) % 2) = 0 then (0 : Int) else (2 : Int)) then false else true)) h1)))) ∧ ((h1 (o0 + 4) v1) = (-4) → K 2 h1)))))))) : zCi mX3_stripeOf [.ref o0, .int (zI v1)] S h K := by
  show RR mX3_stripeOf 0 0 0 [some (.ref o0), some (.int (zI v1)), none] [] S h (zQi S K)
  refine r_iload_n (pc := 0) (x := v1) dX3_stripeOf_0 rfl ?_
  refine r_callSN (μ2 := mX11_isCell) (pc := 1) (as := [.int (zI v1)]) (st := []) mn_X3_60 sm_X11_isCell okX11_isCell ⟨by decide, by decide⟩ dX3_stripeOf_1 (Nat.le_of_ble_eq_true rfl) rfl (Nat.le_of_ble_eq_true rfl) (by decide) (by decide) (zCC.mono w ?_)
  rintro r S' h1 ⟨rfl, b1, hr, w⟩
  subst hr
  show RR mX3_stripeOf 0 0 4 [some (.ref o0), some (.int (zI v1)), none] [.int (zI (bI b1))] S h1 (zQi S K)
  refine r_if_eq (pc := 4) (x := (bI b1)) (tgt := 18) dX3_stripeOf_4 (by decide) (bI_R _) (fun c => ?_) (fun c => ?_)
  · have w := w.1 (bI_0.mp c)
    refine r_iconst (pc := 18) dX3_stripeOf_18 ?_
    exact r_iret (st := []) (pc := 19) (x := 2) (ty := .int) dX3_stripeOf_19 rfl rfl rfl (by decide) ⟨rfl, _, rfl, w⟩
  · have w := w.2 (bI_n.mp c)
    refine r_aload_n (pc := 7) (a := o0) dX3_stripeOf_7 rfl ?_
    refine r_getR (pc := 8) (b := (o0 + 4)) fl_X3_21 dX3_stripeOf_8 hg0.1 rfl ?_
    refine r_iload_n (pc := 11) (x := v1) dX3_stripeOf_11 rfl ?_
    obtain ⟨hb2, w⟩ := w
    refine r_iald (pc := 12) (i := v1) (x := (h1 (o0 + 4) v1)) dX3_stripeOf_12 hg0.2.2.2.2.1 ⟨hb2.1, hb2.2, (by decide)⟩ (rfl) ?_
    refine r_bipush (pc := 13) (x := (-4)) dX3_stripeOf_13 (by decide) ?_
    obtain ⟨hr3, w⟩ := w
    refine r_icmp_ne (pc := 15) (x := (h1 (o0 + 4) v1)) (y := (-4)) (tgt := 20) dX3_stripeOf_15 (by decide) hr3 (by decide) (fun c => ?_) (fun c => ?_)
    · have w := w.1 (c)
      refine r_iload_n (pc := 20) (x := v1) dX3_stripeOf_20 rfl ?_
      refine r_bipush (pc := 21) (x := 6) dX3_stripeOf_21 (by decide) ?_
      refine r_irem (pc := 23) (x := v1) (y := 6) dX3_stripeOf_23 ⟨by omega, by omega⟩ (by decide) ?_
      refine r_iconst (pc := 24) dX3_stripeOf_24 ?_
      obtain ⟨hx4, w⟩ := w
      refine r_irem (pc := 25) (x := (v1 % 6)) (y := 2) dX3_stripeOf_25 hx4 (by decide) ?_
      obtain ⟨hr5, w⟩ := w
      have kk8 : RR mX3_stripeOf 0 0 34 [some (.ref o0), some (.int (zI v1)), none] [.int (zI (if ((v1 % 6) % 2) = 0 then (0 : Int) else (2 : Int)))] S h1 (zQi S K) := by
        refine r_istore_n (pc := 34) (L' := [some (.ref o0), some (.int (zI v1)), some (.int (zI (if ((v1 % 6) % 2) = 0 then (0 : Int) else (2 : Int))))]) dX3_stripeOf_34 (by decide) rfl ?_
        refine r_aload_n (pc := 35) (a := o0) dX3_stripeOf_35 rfl ?_
        refine r_getR (pc := 36) (b := (o0 + 4)) fl_X3_21 dX3_stripeOf_36 hg0.1 rfl ?_
        refine r_iload_n (pc := 39) (x := v1) dX3_stripeOf_39 rfl ?_
        refine r_iald (pc := 40) (i := v1) (x := (h1 (o0 + 4) v1)) dX3_stripeOf_40 hg0.2.2.2.2.1 ⟨by omega, by omega, (by decide)⟩ (rfl) ?_
        refine r_iload_n (pc := 41) (x := (if ((v1 % 6) % 2) = 0 then (0 : Int) else (2 : Int))) dX3_stripeOf_41 rfl ?_
        obtain ⟨hr6, w⟩ := w
        have kk7 : RR mX3_stripeOf 0 0 50 [some (.ref o0), some (.int (zI v1)), some (.int (zI (if ((v1 % 6) % 2) = 0 then (0 : Int) else (2 : Int))))] [.int (zI (bI (if (h1 (o0 + 4) v1) = (if ((v1 % 6) % 2) = 0 then (0 : Int) else (2 : Int)) then false else true)))] S h1 (zQi S K) := by
          exact r_iret (st := []) (pc := 50) (x := (bI (if (h1 (o0 + 4) v1) = (if ((v1 % 6) % 2) = 0 then (0 : Int) else (2 : Int)) then false else true))) (ty := .int) dX3_stripeOf_50 rfl rfl rfl (by decide) ⟨rfl, _, rfl, w⟩
        refine r_icmp_ne (pc := 42) (x := (h1 (o0 + 4) v1)) (y := (if ((v1 % 6) % 2) = 0 then (0 : Int) else (2 : Int))) (tgt := 49) dX3_stripeOf_42 (by decide) hr3 hr6 (fun c => ?_) (fun c => ?_)
        · refine r_iconst (pc := 49) dX3_stripeOf_49 ?_
          simp only [if_neg (c)] at kk7 ⊢
          exact kk7
        · refine r_iconst (pc := 45) dX3_stripeOf_45 ?_
          refine r_goto (pc := 46) (tgt := 50) dX3_stripeOf_46 (by decide) ?_
          simp only [if_pos (c)] at kk7 ⊢
          exact kk7
      refine r_if_ne (pc := 26) (x := ((v1 % 6) % 2)) (tgt := 33) dX3_stripeOf_26 (by decide) hr5 (fun c => ?_) (fun c => ?_)
      · refine r_iconst (pc := 33) dX3_stripeOf_33 ?_
        simp only [if_neg (c)] at kk8 ⊢
        exact kk8
      · refine r_iconst (pc := 29) dX3_stripeOf_29 ?_
        refine r_goto (pc := 30) (tgt := 34) dX3_stripeOf_30 (by decide) ?_
        simp only [if_pos (c)] at kk8 ⊢
        exact kk8
    · have w := w.2 (c)
      refine r_iconst (pc := 18) dX3_stripeOf_18 ?_
      exact r_iret (st := []) (pc := 19) (x := 2) (ty := .int) dX3_stripeOf_19 rfl rfl rfl (by decide) ⟨rfl, _, rfl, w⟩
