set_option maxRecDepth 100000 in
set_option maxHeartbeats 4000000 in
theorem wX8_append {h : zMm} {K : Bool → zMm → Prop} {v1 : Int} (w : (zR ((h 1 1) + 8) ∧ ((((h 1 1) + 8) ≤ 320 → RR mX8_append 0 0 17 [some (.ref 1), some (.long (zJ v1)), none, some (.int (zI 0))] [] zS0 h (zQb zS0 K)) ∧ (¬ ((h 1 1) + 8) ≤ 320 → K false h)))) : zCb mX8_append [.ref 1, .long (zJ v1)] zS0 h K := by
  show RR mX8_append 0 0 0 [some (.ref 1), some (.long (zJ v1)), none, none] [] zS0 h (zQb zS0 K)
  refine r_aload_n (pc := 0) (a := 1) dX8_append_0 rfl ?_
  refine r_getI (pc := 1) (fi := 1) (x := (h 1 1)) fl_X8_15 dX8_append_1 s0_1 rfl (rfl) ?_
  refine r_bipush (pc := 4) (x := 8) dX8_append_4 (by decide) ?_
  refine r_iadd (pc := 6) (x := (h 1 1)) (y := 8) dX8_append_6 ?_
  refine r_sipush (pc := 7) (x := 320) dX8_append_7 (by decide) ?_
  obtain ⟨hr1, w⟩ := w
  refine r_icmp_le (pc := 10) (x := ((h 1 1) + 8)) (y := 320) (tgt := 15) dX8_append_10 (by decide) hr1 (by decide) (fun c => ?_) (fun c => ?_)
  · have w := w.1 (c)
    refine r_iconst (pc := 15) dX8_append_15 ?_
    refine r_istore_n (pc := 16) (L' := [some (.ref 1), some (.long (zJ v1)), none, some (.int (zI 0))]) dX8_append_16 (by decide) rfl ?_
    exact w
  · have w := w.2 (c)
    refine r_iconst (pc := 13) dX8_append_13 ?_
    exact r_iret (st := []) (pc := 14) (x := 0) (ty := .boolean) dX8_append_14 rfl (rfl) rfl (by decide) ⟨rfl, false, rfl, w⟩

set_option maxRecDepth 100000 in
set_option maxHeartbeats 4000000 in
theorem bX8_append_17 {h : zMm} {K : Bool → zMm → Prop} {v1 : Int} {v3 : Int} (w : (zR v3 ∧ ((8 ≤ v3 → K true (zU h 1 1 ((h 1 1) + 8))) ∧ (¬ 8 ≤ v3 → ((0 ≤ ((h 1 1) + v3) ∧ ((h 1 1) + v3) < 320) ∧ RR mX8_append 0 0 17 [some (.ref 1), some (.long (zJ v1)), none, some (.int (zI (v3 + 1)))] [] zS0 (zU h 2 ((h 1 1) + v3) (iB (iB (lUr v1 (8 * (7 - v3)))))) (zQb zS0 K)))))) : RR mX8_append 0 0 17 [some (.ref 1), some (.long (zJ v1)), none, some (.int (zI v3))] [] zS0 h (zQb zS0 K) := by
  refine r_iload_n (pc := 17) (x := v3) dX8_append_17 rfl ?_
  refine r_bipush (pc := 18) (x := 8) dX8_append_18 (by decide) ?_
  obtain ⟨hr2, w⟩ := w
  refine r_icmp_ge (pc := 20) (x := v3) (y := 8) (tgt := 51) dX8_append_20 (by decide) hr2 (by decide) (fun c => ?_) (fun c => ?_)
  · have w := w.1 (c)
    refine r_aload_n (pc := 51) (a := 1) dX8_append_51 rfl ?_
    refine r_dup (pc := 52) rfl dX8_append_52 ?_
    refine r_getI (pc := 53) (fi := 1) (x := (h 1 1)) fl_X8_15 dX8_append_53 s0_1 rfl (rfl) ?_
    refine r_bipush (pc := 56) (x := 8) dX8_append_56 (by decide) ?_
    refine r_iadd (pc := 58) (x := (h 1 1)) (y := 8) dX8_append_58 ?_
    refine r_putI (pc := 59) (fi := 1) (x := ((h 1 1) + 8)) fl_X8_15 dX8_append_59 s0_1 rfl ?_
    refine r_iconst (pc := 62) dX8_append_62 ?_
    exact r_iret (st := []) (pc := 63) (x := 1) (ty := .boolean) dX8_append_63 rfl (rfl) rfl (by decide) ⟨rfl, true, rfl, w⟩
  · have w := w.2 (c)
    refine r_aload_n (pc := 23) (a := 1) dX8_append_23 rfl ?_
    refine r_getR (pc := 24) (b := 2) fl_X8_9 dX8_append_24 s0_1 rfl ?_
    refine r_aload_n (pc := 27) (a := 1) dX8_append_27 rfl ?_
    refine r_getI (pc := 28) (fi := 1) (x := (h 1 1)) fl_X8_15 dX8_append_28 s0_1 rfl (rfl) ?_
    refine r_iload_n (pc := 31) (x := v3) dX8_append_31 rfl ?_
    refine r_iadd (pc := 32) (x := (h 1 1)) (y := v3) dX8_append_32 ?_
    refine r_lload_n (pc := 33) (x := v1) dX8_append_33 rfl ?_
    refine r_bipush (pc := 34) (x := 8) dX8_append_34 (by decide) ?_
    refine r_bipush (pc := 36) (x := 7) dX8_append_36 (by decide) ?_
    refine r_iload_n (pc := 38) (x := v3) dX8_append_38 rfl ?_
    refine r_isub (pc := 39) (x := 7) (y := v3) dX8_append_39 ?_
    refine r_imul (pc := 40) (x := 8) (y := (7 - v3)) dX8_append_40 ?_
    refine r_lushr (pc := 41) (x := v1) (y := (8 * (7 - v3))) dX8_append_41 ?_
    refine r_l2i (pc := 42) (x := (lUr v1 (8 * (7 - v3)))) dX8_append_42 ?_
    refine r_i2b (pc := 43) (x := (lUr v1 (8 * (7 - v3)))) dX8_append_43 ?_
    obtain ⟨hb3, w⟩ := w
    refine r_bast (pc := 44) (i := ((h 1 1) + v3)) (x := (iB (lUr v1 (8 * (7 - v3))))) dX8_append_44 s0_2 ⟨hb3.1, hb3.2, (by decide)⟩  ?_
    refine r_iinc (pc := 45) (x := v3) (L' := [some (.ref 1), some (.long (zJ v1)), none, some (.int (zI (v3 + 1)))]) dX8_append_45 rfl (by decide) rfl ?_
    refine r_goto (pc := 48) (tgt := 17) dX8_append_48 (by decide) ?_
    exact w

set_option maxRecDepth 100000 in
set_option maxHeartbeats 4000000 in
theorem wX8_rewind {h : zMm} {K : zMm → Prop} (w : K (zU h 1 4 0)) : zCv mX8_rewind [.ref 1] zS0 h K := by
  show RR mX8_rewind 0 0 0 [some (.ref 1)] [] zS0 h (zQv zS0 K)
  refine r_aload_n (pc := 0) (a := 1) dX8_rewind_0 rfl ?_
  refine r_iconst (pc := 1) dX8_rewind_1 ?_
  refine r_putI (pc := 2) (fi := 4) (x := 0) fl_X8_25 dX8_rewind_2 s0_1 rfl ?_
  exact r_ret (st := []) (pc := 5) dX8_rewind_5 rfl rfl (by decide) ⟨rfl, rfl, w⟩

set_option maxRecDepth 100000 in
set_option maxHeartbeats 4000000 in
theorem wX8_tokenAt {h : zMm} {K : Int → zMm → Prop} {v1 : Int} (w : (zR v1 ∧ ((v1 < 0 → K 5 h) ∧ (¬ v1 < 0 → (zR (h 1 1) ∧ (((h 1 1) ≤ v1 → K 5 h) ∧ (¬ (h 1 1) ≤ v1 → ((v1 < 320 → ((0 ≤ v1 ∧ v1 < 320) ∧ (zR (h 2 v1) ∧ (((h 2 v1) < 97 → (((h 2 v1) < 48 → K (if (h 2 v1) = 59 then (3 : Int) else (if (h 2 v1) = 32 then (4 : Int) else (0 : Int))) h) ∧ (¬ (h 2 v1) < 48 → ((57 < (h 2 v1) → K (if (h 2 v1) = 59 then (3 : Int) else (if (h 2 v1) = 32 then (4 : Int) else (0 : Int))) h) ∧ (¬ 57 < (h 2 v1) → K 2 h))))) ∧ (¬ (h 2 v1) < 97 → ((122 < (h 2 v1) → (((h 2 v1) < 48 → K (if (h 2 v1) = 59 then (3 : Int) else (if (h 2 v1) = 32 then (4 : Int) else (0 : Int))) h) ∧ (¬ (h 2 v1) < 48 → ((57 < (h 2 v1) → K (if (h 2 v1) = 59 then (3 : Int) else (if (h 2 v1) = 32 then (4 : Int) else (0 : Int))) h) ∧ (¬ 57 < (h 2 v1) → K 2 h))))) ∧ (¬ 122 < (h 2 v1) → K 1 h))))))) ∧ (¬ v1 < 320 → K 5 h))))))))) : zCi mX8_tokenAt [.ref 1, .int (zI v1)] zS0 h K := by
  show RR mX8_tokenAt 0 0 0 [some (.ref 1), some (.int (zI v1)), none] [] zS0 h (zQi zS0 K)
  refine r_iload_n (pc := 0) (x := v1) dX8_tokenAt_0 rfl ?_
  obtain ⟨hr1, w⟩ := w
  refine r_if_lt (pc := 1) (x := v1) (tgt := 19) dX8_tokenAt_1 (by decide) hr1 (fun c => ?_) (fun c => ?_)
  · have w := w.1 (c)
    refine r_iconst (pc := 19) dX8_tokenAt_19 ?_
    exact r_iret (st := []) (pc := 20) (x := 5) (ty := .int) dX8_tokenAt_20 rfl rfl rfl (by decide) ⟨rfl, _, rfl, w⟩
  · have w := w.2 (c)
    refine r_iload_n (pc := 4) (x := v1) dX8_tokenAt_4 rfl ?_
    refine r_aload_n (pc := 5) (a := 1) dX8_tokenAt_5 rfl ?_
    refine r_getI (pc := 6) (fi := 1) (x := (h 1 1)) fl_X8_15 dX8_tokenAt_6 s0_1 rfl (rfl) ?_
    obtain ⟨hr2, w⟩ := w
    refine r_icmp_ge (pc := 9) (x := v1) (y := (h 1 1)) (tgt := 19) dX8_tokenAt_9 (by decide) hr1 hr2 (fun c => ?_) (fun c => ?_)
    · have w := w.1 (c)
      refine r_iconst (pc := 19) dX8_tokenAt_19 ?_
      exact r_iret (st := []) (pc := 20) (x := 5) (ty := .int) dX8_tokenAt_20 rfl rfl rfl (by decide) ⟨rfl, _, rfl, w⟩
    · have w := w.2 (c)
      refine r_iload_n (pc := 12) (x := v1) dX8_tokenAt_12 rfl ?_
      refine r_sipush (pc := 13) (x := 320) dX8_tokenAt_13 (by decide) ?_
      refine r_icmp_lt (pc := 16) (x := v1) (y := 320) (tgt := 21) dX8_tokenAt_16 (by decide) hr1 (by decide) (fun c => ?_) (fun c => ?_)
      · have w := w.1 (c)
        refine r_aload_n (pc := 21) (a := 1) dX8_tokenAt_21 rfl ?_
        refine r_getR (pc := 22) (b := 2) fl_X8_9 dX8_tokenAt_22 s0_1 rfl ?_
        refine r_iload_n (pc := 25) (x := v1) dX8_tokenAt_25 rfl ?_
        obtain ⟨hb3, w⟩ := w
        refine r_bald (pc := 26) (i := v1) (x := (h 2 v1)) dX8_tokenAt_26 s0_2 ⟨hb3.1, hb3.2, (by decide)⟩ (rfl) ?_
        refine r_istore_n (pc := 27) (L' := [some (.ref 1), some (.int (zI v1)), some (.int (zI (h 2 v1)))]) dX8_tokenAt_27 (by decide) rfl ?_
        refine r_iload_n (pc := 28) (x := (h 2 v1)) dX8_tokenAt_28 rfl ?_
        refine r_bipush (pc := 29) (x := 97) dX8_tokenAt_29 (by decide) ?_
        obtain ⟨hr4, w⟩ := w
        refine r_icmp_lt (pc := 31) (x := (h 2 v1)) (y := 97) (tgt := 42) dX8_tokenAt_31 (by decide) hr4 (by decide) (fun c => ?_) (fun c => ?_)
        · have w := w.1 (c)
          refine r_iload_n (pc := 42) (x := (h 2 v1)) dX8_tokenAt_42 rfl ?_
          refine r_bipush (pc := 43) (x := 48) dX8_tokenAt_43 (by decide) ?_
          refine r_icmp_lt (pc := 45) (x := (h 2 v1)) (y := 48) (tgt := 56) dX8_tokenAt_45 (by decide) hr4 (by decide) (fun c => ?_) (fun c => ?_)
          · have w := w.1 (c)
            refine r_iload_n (pc := 56) (x := (h 2 v1)) dX8_tokenAt_56 rfl ?_
            refine r_bipush (pc := 57) (x := 59) dX8_tokenAt_57 (by decide) ?_
            have kk6 : RR mX8_tokenAt 0 0 77 [some (.ref 1), some (.int (zI v1)), some (.int (zI (h 2 v1)))] [.int (zI (if (h 2 v1) = 59 then (3 : Int) else (if (h 2 v1) = 32 then (4 : Int) else (0 : Int))))] zS0 h (zQi zS0 K) := by
              exact r_iret (st := []) (pc := 77) (x := (if (h 2 v1) = 59 then (3 : Int) else (if (h 2 v1) = 32 then (4 : Int) else (0 : Int)))) (ty := .int) dX8_tokenAt_77 rfl rfl rfl (by decide) ⟨rfl, _, rfl, w⟩
            refine r_icmp_ne (pc := 59) (x := (h 2 v1)) (y := 59) (tgt := 66) dX8_tokenAt_59 (by decide) hr4 (by decide) (fun c => ?_) (fun c => ?_)
            · refine r_iload_n (pc := 66) (x := (h 2 v1)) dX8_tokenAt_66 rfl ?_
              refine r_bipush (pc := 67) (x := 32) dX8_tokenAt_67 (by decide) ?_
              refine r_icmp_ne (pc := 69) (x := (h 2 v1)) (y := 32) (tgt := 76) dX8_tokenAt_69 (by decide) hr4 (by decide) (fun c5 => ?_) (fun c5 => ?_)
              · refine r_iconst (pc := 76) dX8_tokenAt_76 ?_
                simp only [if_neg (c), if_neg (c5)] at kk6 ⊢
                exact kk6
              · refine r_iconst (pc := 72) dX8_tokenAt_72 ?_
                refine r_goto (pc := 73) (tgt := 77) dX8_tokenAt_73 (by decide) ?_
                simp only [if_neg (c), if_pos (c5)] at kk6 ⊢
                exact kk6
            · refine r_iconst (pc := 62) dX8_tokenAt_62 ?_
              refine r_goto (pc := 63) (tgt := 77) dX8_tokenAt_63 (by decide) ?_
              simp only [if_pos (c)] at kk6 ⊢
              exact kk6
          · have w := w.2 (c)
            refine r_iload_n (pc := 48) (x := (h 2 v1)) dX8_tokenAt_48 rfl ?_
            refine r_bipush (pc := 49) (x := 57) dX8_tokenAt_49 (by decide) ?_
            refine r_icmp_gt (pc := 51) (x := (h 2 v1)) (y := 57) (tgt := 56) dX8_tokenAt_51 (by decide) hr4 (by decide) (fun c => ?_) (fun c => ?_)
            · have w := w.1 (c)
              refine r_iload_n (pc := 56) (x := (h 2 v1)) dX8_tokenAt_56 rfl ?_
              refine r_bipush (pc := 57) (x := 59) dX8_tokenAt_57 (by decide) ?_
              have kk8 : RR mX8_tokenAt 0 0 77 [some (.ref 1), some (.int (zI v1)), some (.int (zI (h 2 v1)))] [.int (zI (if (h 2 v1) = 59 then (3 : Int) else (if (h 2 v1) = 32 then (4 : Int) else (0 : Int))))] zS0 h (zQi zS0 K) := by
                exact r_iret (st := []) (pc := 77) (x := (if (h 2 v1) = 59 then (3 : Int) else (if (h 2 v1) = 32 then (4 : Int) else (0 : Int)))) (ty := .int) dX8_tokenAt_77 rfl rfl rfl (by decide) ⟨rfl, _, rfl, w⟩
              refine r_icmp_ne (pc := 59) (x := (h 2 v1)) (y := 59) (tgt := 66) dX8_tokenAt_59 (by decide) hr4 (by decide) (fun c => ?_) (fun c => ?_)
              · refine r_iload_n (pc := 66) (x := (h 2 v1)) dX8_tokenAt_66 rfl ?_
                refine r_bipush (pc := 67) (x := 32) dX8_tokenAt_67 (by decide) ?_
                refine r_icmp_ne (pc := 69) (x := (h 2 v1)) (y := 32) (tgt := 76) dX8_tokenAt_69 (by decide) hr4 (by decide) (fun c7 => ?_) (fun c7 => ?_)
                · refine r_iconst (pc := 76) dX8_tokenAt_76 ?_
                  simp only [if_neg (c), if_neg (c7)] at kk8 ⊢
                  exact kk8
                · refine r_iconst (pc := 72) dX8_tokenAt_72 ?_
                  refine r_goto (pc := 73) (tgt := 77) dX8_tokenAt_73 (by decide) ?_
                  simp only [if_neg (c), if_pos (c7)] at kk8 ⊢
                  exact kk8
              · refine r_iconst (pc := 62) dX8_tokenAt_62 ?_
                refine r_goto (pc := 63) (tgt := 77) dX8_tokenAt_63 (by decide) ?_
                simp only [if_pos (c)] at kk8 ⊢
                exact kk8
            · have w := w.2 (c)
              refine r_iconst (pc := 54) dX8_tokenAt_54 ?_
              exact r_iret (st := []) (pc := 55) (x := 2) (ty := .int) dX8_tokenAt_55 rfl rfl rfl (by decide) ⟨rfl, _, rfl, w⟩
        · have w := w.2 (c)
          refine r_iload_n (pc := 34) (x := (h 2 v1)) dX8_tokenAt_34 rfl ?_
          refine r_bipush (pc := 35) (x := 122) dX8_tokenAt_35 (by decide) ?_
          refine r_icmp_gt (pc := 37) (x := (h 2 v1)) (y := 122) (tgt := 42) dX8_tokenAt_37 (by decide) hr4 (by decide) (fun c => ?_) (fun c => ?_)
          · have w := w.1 (c)
            refine r_iload_n (pc := 42) (x := (h 2 v1)) dX8_tokenAt_42 rfl ?_
            refine r_bipush (pc := 43) (x := 48) dX8_tokenAt_43 (by decide) ?_
            refine r_icmp_lt (pc := 45) (x := (h 2 v1)) (y := 48) (tgt := 56) dX8_tokenAt_45 (by decide) hr4 (by decide) (fun c => ?_) (fun c => ?_)
            · have w := w.1 (c)
              refine r_iload_n (pc := 56) (x := (h 2 v1)) dX8_tokenAt_56 rfl ?_
              refine r_bipush (pc := 57) (x := 59) dX8_tokenAt_57 (by decide) ?_
              have kk10 : RR mX8_tokenAt 0 0 77 [some (.ref 1), some (.int (zI v1)), some (.int (zI (h 2 v1)))] [.int (zI (if (h 2 v1) = 59 then (3 : Int) else (if (h 2 v1) = 32 then (4 : Int) else (0 : Int))))] zS0 h (zQi zS0 K) := by
                exact r_iret (st := []) (pc := 77) (x := (if (h 2 v1) = 59 then (3 : Int) else (if (h 2 v1) = 32 then (4 : Int) else (0 : Int)))) (ty := .int) dX8_tokenAt_77 rfl rfl rfl (by decide) ⟨rfl, _, rfl, w⟩
              refine r_icmp_ne (pc := 59) (x := (h 2 v1)) (y := 59) (tgt := 66) dX8_tokenAt_59 (by decide) hr4 (by decide) (fun c => ?_) (fun c => ?_)
              · refine r_iload_n (pc := 66) (x := (h 2 v1)) dX8_tokenAt_66 rfl ?_
                refine r_bipush (pc := 67) (x := 32) dX8_tokenAt_67 (by decide) ?_
                refine r_icmp_ne (pc := 69) (x := (h 2 v1)) (y := 32) (tgt := 76) dX8_tokenAt_69 (by decide) hr4 (by decide) (fun c9 => ?_) (fun c9 => ?_)
                · refine r_iconst (pc := 76) dX8_tokenAt_76 ?_
                  simp only [if_neg (c), if_neg (c9)] at kk10 ⊢
                  exact kk10
                · refine r_iconst (pc := 72) dX8_tokenAt_72 ?_
                  refine r_goto (pc := 73) (tgt := 77) dX8_tokenAt_73 (by decide) ?_
                  simp only [if_neg (c), if_pos (c9)] at kk10 ⊢
                  exact kk10
              · refine r_iconst (pc := 62) dX8_tokenAt_62 ?_
                refine r_goto (pc := 63) (tgt := 77) dX8_tokenAt_63 (by decide) ?_
                simp only [if_pos (c)] at kk10 ⊢
                exact kk10
            · have w := w.2 (c)
              refine r_iload_n (pc := 48) (x := (h 2 v1)) dX8_tokenAt_48 rfl ?_
              refine r_bipush (pc := 49) (x := 57) dX8_tokenAt_49 (by decide) ?_
              refine r_icmp_gt (pc := 51) (x := (h 2 v1)) (y := 57) (tgt := 56) dX8_tokenAt_51 (by decide) hr4 (by decide) (fun c => ?_) (fun c => ?_)
              · have w := w.1 (c)
                refine r_iload_n (pc := 56) (x := (h 2 v1)) dX8_tokenAt_56 rfl ?_
                refine r_bipush (pc := 57) (x := 59) dX8_tokenAt_57 (by decide) ?_
                have kk12 : RR mX8_tokenAt 0 0 77 [some (.ref 1), some (.int (zI v1)), some (.int (zI (h 2 v1)))] [.int (zI (if (h 2 v1) = 59 then (3 : Int) else (if (h 2 v1) = 32 then (4 : Int) else (0 : Int))))] zS0 h (zQi zS0 K) := by
                  exact r_iret (st := []) (pc := 77) (x := (if (h 2 v1) = 59 then (3 : Int) else (if (h 2 v1) = 32 then (4 : Int) else (0 : Int)))) (ty := .int) dX8_tokenAt_77 rfl rfl rfl (by decide) ⟨rfl, _, rfl, w⟩
                refine r_icmp_ne (pc := 59) (x := (h 2 v1)) (y := 59) (tgt := 66) dX8_tokenAt_59 (by decide) hr4 (by decide) (fun c => ?_) (fun c => ?_)
                · refine r_iload_n (pc := 66) (x := (h 2 v1)) dX8_tokenAt_66 rfl ?_
                  refine r_bipush (pc := 67) (x := 32) dX8_tokenAt_67 (by decide) ?_
                  refine r_icmp_ne (pc := 69) (x := (h 2 v1)) (y := 32) (tgt := 76) dX8_tokenAt_69 (by decide) hr4 (by decide) (fun c11 => ?_) (fun c11 => ?_)
                  · refine r_iconst (pc := 76) dX8_tokenAt_76 ?_
                    simp only [if_neg (c), if_neg (c11)] at kk12 ⊢
                    exact kk12
                  · refine r_iconst (pc := 72) dX8_tokenAt_72 ?_
                    refine r_goto (pc := 73) (tgt := 77) dX8_tokenAt_73 (by decide) ?_
                    simp only [if_neg (c), if_pos (c11)] at kk12 ⊢
                    exact kk12
                · refine r_iconst (pc := 62) dX8_tokenAt_62 ?_
                  refine r_goto (pc := 63) (tgt := 77) dX8_tokenAt_63 (by decide) ?_
                  simp only [if_pos (c)] at kk12 ⊢
                  exact kk12
              · have w := w.2 (c)
                refine r_iconst (pc := 54) dX8_tokenAt_54 ?_
                exact r_iret (st := []) (pc := 55) (x := 2) (ty := .int) dX8_tokenAt_55 rfl rfl rfl (by decide) ⟨rfl, _, rfl, w⟩
          · have w := w.2 (c)
            refine r_iconst (pc := 40) dX8_tokenAt_40 ?_
            exact r_iret (st := []) (pc := 41) (x := 1) (ty := .int) dX8_tokenAt_41 rfl rfl rfl (by decide) ⟨rfl, _, rfl, w⟩
      · have w := w.2 (c)
        refine r_iconst (pc := 19) dX8_tokenAt_19 ?_
        exact r_iret (st := []) (pc := 20) (x := 5) (ty := .int) dX8_tokenAt_20 rfl rfl rfl (by decide) ⟨rfl, _, rfl, w⟩

set_option maxRecDepth 100000 in
set_option maxHeartbeats 4000000 in
theorem wX8_takeFigures {h : zMm} {K : zMm → Prop} (w : (zR ((h 1 4) - (h 1 3)) ∧ ((((h 1 4) - (h 1 3)) ≤ 3 → RR mX8_takeFigures 0 0 29 [some (.ref 1), some (.int (zI (h 1 3)))] [] zS0 (zU h 1 5 0) (zQv zS0 K)) ∧ (¬ ((h 1 4) - (h 1 3)) ≤ 3 → K (zU (zU h 1 5 0) 1 2 0))))) : zCv mX8_takeFigures [.ref 1] zS0 h K := by
  show RR mX8_takeFigures 0 0 0 [some (.ref 1), none] [] zS0 h (zQv zS0 K)
  refine r_aload_n (pc := 0) (a := 1) dX8_takeFigures_0 rfl ?_
  refine r_iconst (pc := 1) dX8_takeFigures_1 ?_
  refine r_putI (pc := 2) (fi := 5) (x := 0) fl_X8_28 dX8_takeFigures_2 s0_1 rfl ?_
  refine r_aload_n (pc := 5) (a := 1) dX8_takeFigures_5 rfl ?_
  refine r_getI (pc := 6) (fi := 4) (x := (h 1 4)) fl_X8_25 dX8_takeFigures_6 s0_1 rfl (zU_ne (by omega)) ?_
  refine r_aload_n (pc := 9) (a := 1) dX8_takeFigures_9 rfl ?_
  refine r_getI (pc := 10) (fi := 3) (x := (h 1 3)) fl_X8_22 dX8_takeFigures_10 s0_1 rfl (zU_ne (by omega)) ?_
  refine r_isub (pc := 13) (x := (h 1 4)) (y := (h 1 3)) dX8_takeFigures_13 ?_
  refine r_iconst (pc := 14) dX8_takeFigures_14 ?_
  obtain ⟨hr1, w⟩ := w
  refine r_icmp_le (pc := 15) (x := ((h 1 4) - (h 1 3))) (y := 3) (tgt := 24) dX8_takeFigures_15 (by decide) hr1 (by decide) (fun c => ?_) (fun c => ?_)
  · have w := w.1 (c)
    refine r_aload_n (pc := 24) (a := 1) dX8_takeFigures_24 rfl ?_
    refine r_getI (pc := 25) (fi := 3) (x := (h 1 3)) fl_X8_22 dX8_takeFigures_25 s0_1 rfl (zU_ne (by omega)) ?_
    refine r_istore_n (pc := 28) (L' := [some (.ref 1), some (.int (zI (h 1 3)))]) dX8_takeFigures_28 (by decide) rfl ?_
    exact w
  · have w := w.2 (c)
    refine r_aload_n (pc := 18) (a := 1) dX8_takeFigures_18 rfl ?_
    refine r_iconst (pc := 19) dX8_takeFigures_19 ?_
    refine r_putI (pc := 20) (fi := 2) (x := 0) fl_X8_19 dX8_takeFigures_20 s0_1 rfl ?_
    exact r_ret (st := []) (pc := 23) dX8_takeFigures_23 rfl rfl (by decide) ⟨rfl, rfl, w⟩

set_option maxRecDepth 100000 in
set_option maxHeartbeats 4000000 in
theorem bX8_takeFigures_29 {h : zMm} {K : zMm → Prop} {v1 : Int} (w : (zR v1 ∧ (zR (h 1 4) ∧ (((h 1 4) ≤ v1 → K h) ∧ (¬ (h 1 4) ≤ v1 → ((320 ≤ v1 → K h) ∧ (¬ 320 ≤ v1 → ((0 ≤ v1 ∧ v1 < 320) ∧ RR mX8_takeFigures 0 0 29 [some (.ref 1), some (.int (zI (v1 + 1)))] [] zS0 (zU h 1 5 ((((h 1 5) * 10) + (h 2 v1)) - 48)) (zQv zS0 K))))))))) : RR mX8_takeFigures 0 0 29 [some (.ref 1), some (.int (zI v1))] [] zS0 h (zQv zS0 K) := by
  refine r_iload_n (pc := 29) (x := v1) dX8_takeFigures_29 rfl ?_
  refine r_aload_n (pc := 30) (a := 1) dX8_takeFigures_30 rfl ?_
  refine r_getI (pc := 31) (fi := 4) (x := (h 1 4)) fl_X8_25 dX8_takeFigures_31 s0_1 rfl (rfl) ?_
  obtain ⟨hr2, w⟩ := w
  obtain ⟨hr3, w⟩ := w
  refine r_icmp_ge (pc := 34) (x := v1) (y := (h 1 4)) (tgt := 71) dX8_takeFigures_34 (by decide) hr2 hr3 (fun c => ?_) (fun c => ?_)
  · have w := w.1 (c)
    exact r_ret (st := []) (pc := 71) dX8_takeFigures_71 rfl rfl (by decide) ⟨rfl, rfl, w⟩
  · have w := w.2 (c)
    refine r_iload_n (pc := 37) (x := v1) dX8_takeFigures_37 rfl ?_
    refine r_sipush (pc := 38) (x := 320) dX8_takeFigures_38 (by decide) ?_
    refine r_icmp_ge (pc := 41) (x := v1) (y := 320) (tgt := 71) dX8_takeFigures_41 (by decide) hr2 (by decide) (fun c => ?_) (fun c => ?_)
    · have w := w.1 (c)
      exact r_ret (st := []) (pc := 71) dX8_takeFigures_71 rfl rfl (by decide) ⟨rfl, rfl, w⟩
    · have w := w.2 (c)
      refine r_aload_n (pc := 44) (a := 1) dX8_takeFigures_44 rfl ?_
      refine r_aload_n (pc := 45) (a := 1) dX8_takeFigures_45 rfl ?_
      refine r_getI (pc := 46) (fi := 5) (x := (h 1 5)) fl_X8_28 dX8_takeFigures_46 s0_1 rfl (rfl) ?_
      refine r_bipush (pc := 49) (x := 10) dX8_takeFigures_49 (by decide) ?_
      refine r_imul (pc := 51) (x := (h 1 5)) (y := 10) dX8_takeFigures_51 ?_
      refine r_aload_n (pc := 52) (a := 1) dX8_takeFigures_52 rfl ?_
      refine r_getR (pc := 53) (b := 2) fl_X8_9 dX8_takeFigures_53 s0_1 rfl ?_
      refine r_iload_n (pc := 56) (x := v1) dX8_takeFigures_56 rfl ?_
      obtain ⟨hb5, w⟩ := w
      refine r_bald (pc := 57) (i := v1) (x := (h 2 v1)) dX8_takeFigures_57 s0_2 ⟨hb5.1, hb5.2, (by decide)⟩ (rfl) ?_
      refine r_iadd (pc := 58) (x := ((h 1 5) * 10)) (y := (h 2 v1)) dX8_takeFigures_58 ?_
      refine r_bipush (pc := 59) (x := 48) dX8_takeFigures_59 (by decide) ?_
      refine r_isub (pc := 61) (x := (((h 1 5) * 10) + (h 2 v1))) (y := 48) dX8_takeFigures_61 ?_
      refine r_putI (pc := 62) (fi := 5) (x := ((((h 1 5) * 10) + (h 2 v1)) - 48)) fl_X8_28 dX8_takeFigures_62 s0_1 rfl ?_
      refine r_iinc (pc := 65) (x := v1) (L' := [some (.ref 1), some (.int (zI (v1 + 1)))]) dX8_takeFigures_65 rfl (by decide) rfl ?_
      refine r_goto (pc := 68) (tgt := 29) dX8_takeFigures_68 (by decide) ?_
      exact w

set_option maxRecDepth 100000 in
set_option maxHeartbeats 4000000 in
theorem wX8_readToken {h : zMm} {K : zMm → Prop} (w : RR mX8_readToken 0 0 8 [some (.ref 1), none] [] zS0 (zU h 1 3 (h 1 4)) (zQv zS0 K)) : zCv mX8_readToken [.ref 1] zS0 h K := by
  show RR mX8_readToken 0 0 0 [some (.ref 1), none] [] zS0 h (zQv zS0 K)
  refine r_aload_n (pc := 0) (a := 1) dX8_readToken_0 rfl ?_
  refine r_aload_n (pc := 1) (a := 1) dX8_readToken_1 rfl ?_
  refine r_getI (pc := 2) (fi := 4) (x := (h 1 4)) fl_X8_25 dX8_readToken_2 s0_1 rfl (rfl) ?_
  refine r_putI (pc := 5) (fi := 3) (x := (h 1 4)) fl_X8_22 dX8_readToken_5 s0_1 rfl ?_
  exact w

set_option maxRecDepth 100000 in
set_option maxHeartbeats 4000000 in
theorem bX8_readToken_8 {h : zMm} {K : zMm → Prop} (w : (zR (h 1 3) ∧ (zR (h 1 1) ∧ (((h 1 1) ≤ (h 1 3) → zCi mX8_tokenAt [.ref 1, .int (zI (h 1 3))] zS0 h (fun x3 h3 => (zR (h3 1 3) ∧ (zR (h3 1 1) ∧ (zR x3 ∧ RR mX8_readToken 0 0 106 [some (.ref 1), some (.int (zI (bI (if x3 = 1 then true else (if x3 = 2 then true else false)))))] [] zS0 (zU (zU h3 1 2 x3) 1 4 (if (h3 1 1) ≤ (h3 1 3) then (h3 1 3) else ((h3 1 3) + 1))) (zQv zS0 K)))))) ∧ (¬ (h 1 1) ≤ (h 1 3) → zCi mX8_tokenAt [.ref 1, .int (zI (h 1 3))] zS0 h (fun x10 h10 => (zR x10 ∧ ((¬ x10 = 4 → zCi mX8_tokenAt [.ref 1, .int (zI (h10 1 3))] zS0 h10 (fun x12 h12 => (zR (h12 1 3) ∧ (zR (h12 1 1) ∧ (zR x12 ∧ RR mX8_readToken 0 0 106 [some (.ref 1), some (.int (zI (bI (if x12 = 1 then true else (if x12 = 2 then true else false)))))] [] zS0 (zU (zU h12 1 2 x12) 1 4 (if (h12 1 1) ≤ (h12 1 3) then (h12 1 3) else ((h12 1 3) + 1))) (zQv zS0 K)))))) ∧ (x10 = 4 → RR mX8_readToken 0 0 8 [some (.ref 1), none] [] zS0 (zU h10 1 3 ((h10 1 3) + 1)) (zQv zS0 K)))))))))) : RR mX8_readToken 0 0 8 [some (.ref 1), none] [] zS0 h (zQv zS0 K) := by
  refine r_aload_n (pc := 8) (a := 1) dX8_readToken_8 rfl ?_
  refine r_getI (pc := 9) (fi := 3) (x := (h 1 3)) fl_X8_22 dX8_readToken_9 s0_1 rfl (rfl) ?_
  refine r_aload_n (pc := 12) (a := 1) dX8_readToken_12 rfl ?_
  refine r_getI (pc := 13) (fi := 1) (x := (h 1 1)) fl_X8_15 dX8_readToken_13 s0_1 rfl (rfl) ?_
  obtain ⟨hr1, w⟩ := w
  obtain ⟨hr2, w⟩ := w
  refine r_icmp_ge (pc := 16) (x := (h 1 3)) (y := (h 1 1)) (tgt := 44) dX8_readToken_16 (by decide) hr1 hr2 (fun c => ?_) (fun c => ?_)
  · have w := w.1 (c)
    refine r_aload_n (pc := 44) (a := 1) dX8_readToken_44 rfl ?_
    refine r_aload_n (pc := 45) (a := 1) dX8_readToken_45 rfl ?_
    refine r_aload_n (pc := 46) (a := 1) dX8_readToken_46 rfl ?_
    refine r_getI (pc := 47) (fi := 3) (x := (h 1 3)) fl_X8_22 dX8_readToken_47 s0_1 rfl (rfl) ?_
    refine r_callV (μ2 := mX8_tokenAt) (pc := 50) (as := [.int (zI (h 1 3))]) (st := [.ref 1]) rfl s0_1 ml_X8_31 im_X8_tokenAt se_X8_tokenAt okX8_tokenAt ⟨by decide, by decide⟩ dX8_readToken_50 (Nat.le_of_ble_eq_true rfl) rfl (Nat.le_of_ble_eq_true rfl) (by decide) (by decide) (zCC.mono w ?_)
    rintro r S' h3 ⟨rfl, x3, hr, w⟩
    subst hr
    show RR mX8_readToken 0 0 53 [some (.ref 1), none] [.int (zI x3), .ref 1] zS0 h3 (zQv zS0 K)
    refine r_putI (pc := 53) (fi := 2) (x := x3) fl_X8_19 dX8_readToken_53 s0_1 rfl ?_
    refine r_aload_n (pc := 56) (a := 1) dX8_readToken_56 rfl ?_
    refine r_aload_n (pc := 57) (a := 1) dX8_readToken_57 rfl ?_
    refine r_getI (pc := 58) (fi := 3) (x := (h3 1 3)) fl_X8_22 dX8_readToken_58 s0_1 rfl (zU_ne (by omega)) ?_
    refine r_aload_n (pc := 61) (a := 1) dX8_readToken_61 rfl ?_
    refine r_getI (pc := 62) (fi := 1) (x := (h3 1 1)) fl_X8_15 dX8_readToken_62 s0_1 rfl (zU_ne (by omega)) ?_
    obtain ⟨hr4, w⟩ := w
    obtain ⟨hr5, w⟩ := w
    have kk9 : RR mX8_readToken 0 0 81 [some (.ref 1), none] [.int (zI (if (h3 1 1) ≤ (h3 1 3) then (h3 1 3) else ((h3 1 3) + 1))), .ref 1] zS0 (zU h3 1 2 x3) (zQv zS0 K) := by
      refine r_putI (pc := 81) (fi := 4) (x := (if (h3 1 1) ≤ (h3 1 3) then (h3 1 3) else ((h3 1 3) + 1))) fl_X8_25 dX8_readToken_81 s0_1 rfl ?_
      refine r_aload_n (pc := 84) (a := 1) dX8_readToken_84 rfl ?_
      refine r_getI (pc := 85) (fi := 2) (x := x3) fl_X8_19 dX8_readToken_85 s0_1 rfl ((zU_ne (by omega)).trans (zU_eq _ _ _ _)) ?_
      refine r_iconst (pc := 88) dX8_readToken_88 ?_
      obtain ⟨hr6, w⟩ := w
      have kk8 : RR mX8_readToken 0 0 105 [some (.ref 1), none] [.int (zI (bI (if x3 = 1 then true else (if x3 = 2 then true else false))))] zS0 (zU (zU h3 1 2 x3) 1 4 (if (h3 1 1) ≤ (h3 1 3) then (h3 1 3) else ((h3 1 3) + 1))) (zQv zS0 K) := by
        refine r_istore_n (pc := 105) (L' := [some (.ref 1), some (.int (zI (bI (if x3 = 1 then true else (if x3 = 2 then true else false)))))]) dX8_readToken_105 (by decide) rfl ?_
        exact w
      refine r_icmp_eq (pc := 89) (x := x3) (y := 1) (tgt := 100) dX8_readToken_89 (by decide) hr6 (by decide) (fun c => ?_) (fun c => ?_)
      · refine r_iconst (pc := 100) dX8_readToken_100 ?_
        refine r_goto (pc := 101) (tgt := 105) dX8_readToken_101 (by decide) ?_
        simp only [if_pos (c)] at kk8 ⊢
        exact kk8
      · refine r_aload_n (pc := 92) (a := 1) dX8_readToken_92 rfl ?_
        refine r_getI (pc := 93) (fi := 2) (x := x3) fl_X8_19 dX8_readToken_93 s0_1 rfl ((zU_ne (by omega)).trans (zU_eq _ _ _ _)) ?_
        refine r_iconst (pc := 96) dX8_readToken_96 ?_
        refine r_icmp_ne (pc := 97) (x := x3) (y := 2) (tgt := 104) dX8_readToken_97 (by decide) hr6 (by decide) (fun c7 => ?_) (fun c7 => ?_)
        · refine r_iconst (pc := 104) dX8_readToken_104 ?_
          simp only [if_neg (c), if_neg (c7)] at kk8 ⊢
          exact kk8
        · refine r_iconst (pc := 100) dX8_readToken_100 ?_
          refine r_goto (pc := 101) (tgt := 105) dX8_readToken_101 (by decide) ?_
          simp only [if_neg (c), if_pos (c7)] at kk8 ⊢
          exact kk8
    refine r_icmp_ge (pc := 65) (x := (h3 1 3)) (y := (h3 1 1)) (tgt := 77) dX8_readToken_65 (by decide) hr4 hr5 (fun c => ?_) (fun c => ?_)
    · refine r_aload_n (pc := 77) (a := 1) dX8_readToken_77 rfl ?_
      refine r_getI (pc := 78) (fi := 3) (x := (h3 1 3)) fl_X8_22 dX8_readToken_78 s0_1 rfl (zU_ne (by omega)) ?_
      simp only [if_pos (c)] at kk9 ⊢
      exact kk9
    · refine r_aload_n (pc := 68) (a := 1) dX8_readToken_68 rfl ?_
      refine r_getI (pc := 69) (fi := 3) (x := (h3 1 3)) fl_X8_22 dX8_readToken_69 s0_1 rfl (zU_ne (by omega)) ?_
      refine r_iconst (pc := 72) dX8_readToken_72 ?_
      refine r_iadd (pc := 73) (x := (h3 1 3)) (y := 1) dX8_readToken_73 ?_
      refine r_goto (pc := 74) (tgt := 81) dX8_readToken_74 (by decide) ?_
      simp only [if_neg (c)] at kk9 ⊢
      exact kk9
  · have w := w.2 (c)
    refine r_aload_n (pc := 19) (a := 1) dX8_readToken_19 rfl ?_
    refine r_aload_n (pc := 20) (a := 1) dX8_readToken_20 rfl ?_
    refine r_getI (pc := 21) (fi := 3) (x := (h 1 3)) fl_X8_22 dX8_readToken_21 s0_1 rfl (rfl) ?_
    refine r_callV (μ2 := mX8_tokenAt) (pc := 24) (as := [.int (zI (h 1 3))]) (st := []) rfl s0_1 ml_X8_31 im_X8_tokenAt se_X8_tokenAt okX8_tokenAt ⟨by decide, by decide⟩ dX8_readToken_24 (Nat.le_of_ble_eq_true rfl) rfl (Nat.le_of_ble_eq_true rfl) (by decide) (by decide) (zCC.mono w ?_)
    rintro r S' h10 ⟨rfl, x10, hr, w⟩
    subst hr
    show RR mX8_readToken 0 0 27 [some (.ref 1), none] [.int (zI x10)] zS0 h10 (zQv zS0 K)
    refine r_iconst (pc := 27) dX8_readToken_27 ?_
    obtain ⟨hr11, w⟩ := w
    refine r_icmp_ne (pc := 28) (x := x10) (y := 4) (tgt := 44) dX8_readToken_28 (by decide) hr11 (by decide) (fun c => ?_) (fun c => ?_)
    · have w := w.1 (c)
      refine r_aload_n (pc := 44) (a := 1) dX8_readToken_44 rfl ?_
      refine r_aload_n (pc := 45) (a := 1) dX8_readToken_45 rfl ?_
      refine r_aload_n (pc := 46) (a := 1) dX8_readToken_46 rfl ?_
      refine r_getI (pc := 47) (fi := 3) (x := (h10 1 3)) fl_X8_22 dX8_readToken_47 s0_1 rfl (rfl) ?_
      refine r_callV (μ2 := mX8_tokenAt) (pc := 50) (as := [.int (zI (h10 1 3))]) (st := [.ref 1]) rfl s0_1 ml_X8_31 im_X8_tokenAt se_X8_tokenAt okX8_tokenAt ⟨by decide, by decide⟩ dX8_readToken_50 (Nat.le_of_ble_eq_true rfl) rfl (Nat.le_of_ble_eq_true rfl) (by decide) (by decide) (zCC.mono w ?_)
      rintro r S' h12 ⟨rfl, x12, hr, w⟩
      subst hr
      show RR mX8_readToken 0 0 53 [some (.ref 1), none] [.int (zI x12), .ref 1] zS0 h12 (zQv zS0 K)
      refine r_putI (pc := 53) (fi := 2) (x := x12) fl_X8_19 dX8_readToken_53 s0_1 rfl ?_
      refine r_aload_n (pc := 56) (a := 1) dX8_readToken_56 rfl ?_
      refine r_aload_n (pc := 57) (a := 1) dX8_readToken_57 rfl ?_
      refine r_getI (pc := 58) (fi := 3) (x := (h12 1 3)) fl_X8_22 dX8_readToken_58 s0_1 rfl (zU_ne (by omega)) ?_
      refine r_aload_n (pc := 61) (a := 1) dX8_readToken_61 rfl ?_
      refine r_getI (pc := 62) (fi := 1) (x := (h12 1 1)) fl_X8_15 dX8_readToken_62 s0_1 rfl (zU_ne (by omega)) ?_
      obtain ⟨hr13, w⟩ := w
      obtain ⟨hr14, w⟩ := w
      have kk18 : RR mX8_readToken 0 0 81 [some (.ref 1), none] [.int (zI (if (h12 1 1) ≤ (h12 1 3) then (h12 1 3) else ((h12 1 3) + 1))), .ref 1] zS0 (zU h12 1 2 x12) (zQv zS0 K) := by
        refine r_putI (pc := 81) (fi := 4) (x := (if (h12 1 1) ≤ (h12 1 3) then (h12 1 3) else ((h12 1 3) + 1))) fl_X8_25 dX8_readToken_81 s0_1 rfl ?_
        refine r_aload_n (pc := 84) (a := 1) dX8_readToken_84 rfl ?_
        refine r_getI (pc := 85) (fi := 2) (x := x12) fl_X8_19 dX8_readToken_85 s0_1 rfl ((zU_ne (by omega)).trans (zU_eq _ _ _ _)) ?_
        refine r_iconst (pc := 88) dX8_readToken_88 ?_
        obtain ⟨hr15, w⟩ := w
        have kk17 : RR mX8_readToken 0 0 105 [some (.ref 1), none] [.int (zI (bI (if x12 = 1 then true else (if x12 = 2 then true else false))))] zS0 (zU (zU h12 1 2 x12) 1 4 (if (h12 1 1) ≤ (h12 1 3) then (h12 1 3) else ((h12 1 3) + 1))) (zQv zS0 K) := by
          refine r_istore_n (pc := 105) (L' := [some (.ref 1), some (.int (zI (bI (if x12 = 1 then true else (if x12 = 2 then true else false)))))]) dX8_readToken_105 (by decide) rfl ?_
          exact w
        refine r_icmp_eq (pc := 89) (x := x12) (y := 1) (tgt := 100) dX8_readToken_89 (by decide) hr15 (by decide) (fun c => ?_) (fun c => ?_)
        · refine r_iconst (pc := 100) dX8_readToken_100 ?_
          refine r_goto (pc := 101) (tgt := 105) dX8_readToken_101 (by decide) ?_
          simp only [if_pos (c)] at kk17 ⊢
          exact kk17
        · refine r_aload_n (pc := 92) (a := 1) dX8_readToken_92 rfl ?_
          refine r_getI (pc := 93) (fi := 2) (x := x12) fl_X8_19 dX8_readToken_93 s0_1 rfl ((zU_ne (by omega)).trans (zU_eq _ _ _ _)) ?_
          refine r_iconst (pc := 96) dX8_readToken_96 ?_
          refine r_icmp_ne (pc := 97) (x := x12) (y := 2) (tgt := 104) dX8_readToken_97 (by decide) hr15 (by decide) (fun c16 => ?_) (fun c16 => ?_)
          · refine r_iconst (pc := 104) dX8_readToken_104 ?_
            simp only [if_neg (c), if_neg (c16)] at kk17 ⊢
            exact kk17
          · refine r_iconst (pc := 100) dX8_readToken_100 ?_
            refine r_goto (pc := 101) (tgt := 105) dX8_readToken_101 (by decide) ?_
            simp only [if_neg (c), if_pos (c16)] at kk17 ⊢
            exact kk17
      refine r_icmp_ge (pc := 65) (x := (h12 1 3)) (y := (h12 1 1)) (tgt := 77) dX8_readToken_65 (by decide) hr13 hr14 (fun c => ?_) (fun c => ?_)
      · refine r_aload_n (pc := 77) (a := 1) dX8_readToken_77 rfl ?_
        refine r_getI (pc := 78) (fi := 3) (x := (h12 1 3)) fl_X8_22 dX8_readToken_78 s0_1 rfl (zU_ne (by omega)) ?_
        simp only [if_pos (c)] at kk18 ⊢
        exact kk18
      · refine r_aload_n (pc := 68) (a := 1) dX8_readToken_68 rfl ?_
        refine r_getI (pc := 69) (fi := 3) (x := (h12 1 3)) fl_X8_22 dX8_readToken_69 s0_1 rfl (zU_ne (by omega)) ?_
        refine r_iconst (pc := 72) dX8_readToken_72 ?_
        refine r_iadd (pc := 73) (x := (h12 1 3)) (y := 1) dX8_readToken_73 ?_
        refine r_goto (pc := 74) (tgt := 81) dX8_readToken_74 (by decide) ?_
        simp only [if_neg (c)] at kk18 ⊢
        exact kk18
    · have w := w.2 (c)
      refine r_aload_n (pc := 31) (a := 1) dX8_readToken_31 rfl ?_
      refine r_dup (pc := 32) rfl dX8_readToken_32 ?_
      refine r_getI (pc := 33) (fi := 3) (x := (h10 1 3)) fl_X8_22 dX8_readToken_33 s0_1 rfl (rfl) ?_
      refine r_iconst (pc := 36) dX8_readToken_36 ?_
      refine r_iadd (pc := 37) (x := (h10 1 3)) (y := 1) dX8_readToken_37 ?_
      refine r_putI (pc := 38) (fi := 3) (x := ((h10 1 3) + 1)) fl_X8_22 dX8_readToken_38 s0_1 rfl ?_
      refine r_goto (pc := 41) (tgt := 8) dX8_readToken_41 (by decide) ?_
      exact w

set_option maxRecDepth 100000 in
set_option maxHeartbeats 4000000 in
theorem bX8_readToken_106 {h : zMm} {K : zMm → Prop} {v1 : Int} (w : (zR v1 ∧ (zR (h 1 4) ∧ (zR (h 1 1) ∧ ((v1 = 0 → (zR (h 1 2) ∧ ((¬ (h 1 2) = 2 → K h) ∧ ((h 1 2) = 2 → zCv mX8_takeFigures [.ref 1] zS0 h (fun h26 => K h26))))) ∧ (¬ v1 = 0 → (((h 1 1) ≤ (h 1 4) → (zR (h 1 2) ∧ ((¬ (h 1 2) = 2 → K h) ∧ ((h 1 2) = 2 → zCv mX8_takeFigures [.ref 1] zS0 h (fun h28 => K h28))))) ∧ (¬ (h 1 1) ≤ (h 1 4) → zCi mX8_tokenAt [.ref 1, .int (zI (h 1 4))] zS0 h (fun x29 h29 => (zR x29 ∧ (zR (h29 1 2) ∧ ((¬ x29 = (h29 1 2) → ((¬ (h29 1 2) = 2 → K h29) ∧ ((h29 1 2) = 2 → zCv mX8_takeFigures [.ref 1] zS0 h29 (fun h32 => K h32)))) ∧ (x29 = (h29 1 2) → RR mX8_readToken 0 0 106 [some (.ref 1), some (.int (zI v1))] [] zS0 (zU h29 1 4 ((h29 1 4) + 1)) (zQv zS0 K)))))))))))))) : RR mX8_readToken 0 0 106 [some (.ref 1), some (.int (zI v1))] [] zS0 h (zQv zS0 K) := by
  refine r_iload_n (pc := 106) (x := v1) dX8_readToken_106 rfl ?_
  obtain ⟨hr19, w⟩ := w
  obtain ⟨hr21, w⟩ := w
  obtain ⟨hr23, w⟩ := w
  refine r_if_eq (pc := 107) (x := v1) (tgt := 149) dX8_readToken_107 (by decide) hr19 (fun c => ?_) (fun c => ?_)
  · have w := w.1 (c)
    refine r_aload_n (pc := 149) (a := 1) dX8_readToken_149 rfl ?_
    refine r_getI (pc := 150) (fi := 2) (x := (h 1 2)) fl_X8_19 dX8_readToken_150 s0_1 rfl (rfl) ?_
    refine r_iconst (pc := 153) dX8_readToken_153 ?_
    obtain ⟨hr25, w⟩ := w
    refine r_icmp_ne (pc := 154) (x := (h 1 2)) (y := 2) (tgt := 161) dX8_readToken_154 (by decide) hr25 (by decide) (fun c => ?_) (fun c => ?_)
    · have w := w.1 (c)
      exact r_ret (st := []) (pc := 161) dX8_readToken_161 rfl rfl (by decide) ⟨rfl, rfl, w⟩
    · have w := w.2 (c)
      refine r_aload_n (pc := 157) (a := 1) dX8_readToken_157 rfl ?_
      refine r_callV (μ2 := mX8_takeFigures) (pc := 158) (as := []) (st := []) rfl s0_1 ml_X8_35 im_X8_takeFigures se_X8_takeFigures okX8_takeFigures ⟨by decide, by decide⟩ dX8_readToken_158 (Nat.le_of_ble_eq_true rfl) rfl (Nat.le_of_ble_eq_true rfl) (by decide) (by decide) (zCC.mono w ?_)
      rintro r S' h26 ⟨rfl, hr, w⟩
      subst hr
      show RR mX8_readToken 0 0 161 [some (.ref 1), some (.int (zI v1))] [] zS0 h26 (zQv zS0 K)
      exact r_ret (st := []) (pc := 161) dX8_readToken_161 rfl rfl (by decide) ⟨rfl, rfl, w⟩
  · have w := w.2 (c)
    refine r_aload_n (pc := 110) (a := 1) dX8_readToken_110 rfl ?_
    refine r_getI (pc := 111) (fi := 4) (x := (h 1 4)) fl_X8_25 dX8_readToken_111 s0_1 rfl (rfl) ?_
    refine r_aload_n (pc := 114) (a := 1) dX8_readToken_114 rfl ?_
    refine r_getI (pc := 115) (fi := 1) (x := (h 1 1)) fl_X8_15 dX8_readToken_115 s0_1 rfl (rfl) ?_
    refine r_icmp_ge (pc := 118) (x := (h 1 4)) (y := (h 1 1)) (tgt := 149) dX8_readToken_118 (by decide) hr21 hr23 (fun c => ?_) (fun c => ?_)
    · have w := w.1 (c)
      refine r_aload_n (pc := 149) (a := 1) dX8_readToken_149 rfl ?_
      refine r_getI (pc := 150) (fi := 2) (x := (h 1 2)) fl_X8_19 dX8_readToken_150 s0_1 rfl (rfl) ?_
      refine r_iconst (pc := 153) dX8_readToken_153 ?_
      obtain ⟨hr27, w⟩ := w
      refine r_icmp_ne (pc := 154) (x := (h 1 2)) (y := 2) (tgt := 161) dX8_readToken_154 (by decide) hr27 (by decide) (fun c => ?_) (fun c => ?_)
      · have w := w.1 (c)
        exact r_ret (st := []) (pc := 161) dX8_readToken_161 rfl rfl (by decide) ⟨rfl, rfl, w⟩
      · have w := w.2 (c)
        refine r_aload_n (pc := 157) (a := 1) dX8_readToken_157 rfl ?_
        refine r_callV (μ2 := mX8_takeFigures) (pc := 158) (as := []) (st := []) rfl s0_1 ml_X8_35 im_X8_takeFigures se_X8_takeFigures okX8_takeFigures ⟨by decide, by decide⟩ dX8_readToken_158 (Nat.le_of_ble_eq_true rfl) rfl (Nat.le_of_ble_eq_true rfl) (by decide) (by decide) (zCC.mono w ?_)
        rintro r S' h28 ⟨rfl, hr, w⟩
        subst hr
        show RR mX8_readToken 0 0 161 [some (.ref 1), some (.int (zI v1))] [] zS0 h28 (zQv zS0 K)
        exact r_ret (st := []) (pc := 161) dX8_readToken_161 rfl rfl (by decide) ⟨rfl, rfl, w⟩
    · have w := w.2 (c)
      refine r_aload_n (pc := 121) (a := 1) dX8_readToken_121 rfl ?_
      refine r_aload_n (pc := 122) (a := 1) dX8_readToken_122 rfl ?_
      refine r_getI (pc := 123) (fi := 4) (x := (h 1 4)) fl_X8_25 dX8_readToken_123 s0_1 rfl (rfl) ?_
      refine r_callV (μ2 := mX8_tokenAt) (pc := 126) (as := [.int (zI (h 1 4))]) (st := []) rfl s0_1 ml_X8_31 im_X8_tokenAt se_X8_tokenAt okX8_tokenAt ⟨by decide, by decide⟩ dX8_readToken_126 (Nat.le_of_ble_eq_true rfl) rfl (Nat.le_of_ble_eq_true rfl) (by decide) (by decide) (zCC.mono w ?_)
      rintro r S' h29 ⟨rfl, x29, hr, w⟩
      subst hr
      show RR mX8_readToken 0 0 129 [some (.ref 1), some (.int (zI v1))] [.int (zI x29)] zS0 h29 (zQv zS0 K)
      refine r_aload_n (pc := 129) (a := 1) dX8_readToken_129 rfl ?_
      refine r_getI (pc := 130) (fi := 2) (x := (h29 1 2)) fl_X8_19 dX8_readToken_130 s0_1 rfl (rfl) ?_
      obtain ⟨hr30, w⟩ := w
      obtain ⟨hr31, w⟩ := w
      refine r_icmp_ne (pc := 133) (x := x29) (y := (h29 1 2)) (tgt := 149) dX8_readToken_133 (by decide) hr30 hr31 (fun c => ?_) (fun c => ?_)
      · have w := w.1 (c)
        refine r_aload_n (pc := 149) (a := 1) dX8_readToken_149 rfl ?_
        refine r_getI (pc := 150) (fi := 2) (x := (h29 1 2)) fl_X8_19 dX8_readToken_150 s0_1 rfl (rfl) ?_
        refine r_iconst (pc := 153) dX8_readToken_153 ?_
        refine r_icmp_ne (pc := 154) (x := (h29 1 2)) (y := 2) (tgt := 161) dX8_readToken_154 (by decide) hr31 (by decide) (fun c => ?_) (fun c => ?_)
        · have w := w.1 (c)
          exact r_ret (st := []) (pc := 161) dX8_readToken_161 rfl rfl (by decide) ⟨rfl, rfl, w⟩
        · have w := w.2 (c)
          refine r_aload_n (pc := 157) (a := 1) dX8_readToken_157 rfl ?_
          refine r_callV (μ2 := mX8_takeFigures) (pc := 158) (as := []) (st := []) rfl s0_1 ml_X8_35 im_X8_takeFigures se_X8_takeFigures okX8_takeFigures ⟨by decide, by decide⟩ dX8_readToken_158 (Nat.le_of_ble_eq_true rfl) rfl (Nat.le_of_ble_eq_true rfl) (by decide) (by decide) (zCC.mono w ?_)
          rintro r S' h32 ⟨rfl, hr, w⟩
          subst hr
          show RR mX8_readToken 0 0 161 [some (.ref 1), some (.int (zI v1))] [] zS0 h32 (zQv zS0 K)
          exact r_ret (st := []) (pc := 161) dX8_readToken_161 rfl rfl (by decide) ⟨rfl, rfl, w⟩
      · have w := w.2 (c)
        refine r_aload_n (pc := 136) (a := 1) dX8_readToken_136 rfl ?_
        refine r_dup (pc := 137) rfl dX8_readToken_137 ?_
        refine r_getI (pc := 138) (fi := 4) (x := (h29 1 4)) fl_X8_25 dX8_readToken_138 s0_1 rfl (rfl) ?_
        refine r_iconst (pc := 141) dX8_readToken_141 ?_
        refine r_iadd (pc := 142) (x := (h29 1 4)) (y := 1) dX8_readToken_142 ?_
        refine r_putI (pc := 143) (fi := 4) (x := ((h29 1 4) + 1)) fl_X8_25 dX8_readToken_143 s0_1 rfl ?_
        refine r_goto (pc := 146) (tgt := 106) dX8_readToken_146 (by decide) ?_
        exact w

set_option maxRecDepth 100000 in
set_option maxHeartbeats 4000000 in
theorem wX8_letterOf {h : zMm} {K : Int → zMm → Prop} {v1 : Int} (w : (zR v1 ∧ (zR ((h 1 3) + v1) ∧ (zR (h 1 4) ∧ ((v1 < 0 → K 32 h) ∧ (¬ v1 < 0 → (((h 1 4) ≤ ((h 1 3) + v1) → K 32 h) ∧ (¬ (h 1 4) ≤ ((h 1 3) + v1) → ((320 ≤ ((h 1 3) + v1) → K 32 h) ∧ (¬ 320 ≤ ((h 1 3) + v1) → ((0 ≤ ((h 1 3) + v1) ∧ ((h 1 3) + v1) < 320) ∧ ((0 ≤ ((h 2 ((h 1 3) + v1)) % 256) ∧ ((h 2 ((h 1 3) + v1)) % 256) < 65536) ∧ ((0 ≤ ((h 2 ((h 1 3) + v1)) % 256) ∧ ((h 2 ((h 1 3) + v1)) % 256) < 65536) ∧ K ((h 2 ((h 1 3) + v1)) % 256) h))))))))))))) : zCi mX8_letterOf [.ref 1, .int (zI v1)] zS0 h K := by
  show RR mX8_letterOf 0 0 0 [some (.ref 1), some (.int (zI v1)), none] [] zS0 h (zQi zS0 K)
  refine r_aload_n (pc := 0) (a := 1) dX8_letterOf_0 rfl ?_
  refine r_getI (pc := 1) (fi := 3) (x := (h 1 3)) fl_X8_22 dX8_letterOf_1 s0_1 rfl (rfl) ?_
  refine r_iload_n (pc := 4) (x := v1) dX8_letterOf_4 rfl ?_
  refine r_iadd (pc := 5) (x := (h 1 3)) (y := v1) dX8_letterOf_5 ?_
  refine r_istore_n (pc := 6) (L' := [some (.ref 1), some (.int (zI v1)), some (.int (zI ((h 1 3) + v1)))]) dX8_letterOf_6 (by decide) rfl ?_
  refine r_iload_n (pc := 7) (x := v1) dX8_letterOf_7 rfl ?_
  obtain ⟨hr1, w⟩ := w
  obtain ⟨hr3, w⟩ := w
  obtain ⟨hr5, w⟩ := w
  refine r_if_lt (pc := 8) (x := v1) (tgt := 40) dX8_letterOf_8 (by decide) hr1 (fun c => ?_) (fun c => ?_)
  · have w := w.1 (c)
    refine r_bipush (pc := 40) (x := 32) dX8_letterOf_40 (by decide) ?_
    exact r_iret (st := []) (pc := 42) (x := 32) (ty := .char) dX8_letterOf_42 rfl (zNarC (by decide)) rfl (by decide) ⟨rfl, _, rfl, w⟩
  · have w := w.2 (c)
    refine r_iload_n (pc := 11) (x := ((h 1 3) + v1)) dX8_letterOf_11 rfl ?_
    refine r_aload_n (pc := 12) (a := 1) dX8_letterOf_12 rfl ?_
    refine r_getI (pc := 13) (fi := 4) (x := (h 1 4)) fl_X8_25 dX8_letterOf_13 s0_1 rfl (rfl) ?_
    refine r_icmp_ge (pc := 16) (x := ((h 1 3) + v1)) (y := (h 1 4)) (tgt := 40) dX8_letterOf_16 (by decide) hr3 hr5 (fun c => ?_) (fun c => ?_)
    · have w := w.1 (c)
      refine r_bipush (pc := 40) (x := 32) dX8_letterOf_40 (by decide) ?_
      exact r_iret (st := []) (pc := 42) (x := 32) (ty := .char) dX8_letterOf_42 rfl (zNarC (by decide)) rfl (by decide) ⟨rfl, _, rfl, w⟩
    · have w := w.2 (c)
      refine r_iload_n (pc := 19) (x := ((h 1 3) + v1)) dX8_letterOf_19 rfl ?_
      refine r_sipush (pc := 20) (x := 320) dX8_letterOf_20 (by decide) ?_
      refine r_icmp_ge (pc := 23) (x := ((h 1 3) + v1)) (y := 320) (tgt := 40) dX8_letterOf_23 (by decide) hr3 (by decide) (fun c => ?_) (fun c => ?_)
      · have w := w.1 (c)
        refine r_bipush (pc := 40) (x := 32) dX8_letterOf_40 (by decide) ?_
        exact r_iret (st := []) (pc := 42) (x := 32) (ty := .char) dX8_letterOf_42 rfl (zNarC (by decide)) rfl (by decide) ⟨rfl, _, rfl, w⟩
      · have w := w.2 (c)
        refine r_aload_n (pc := 26) (a := 1) dX8_letterOf_26 rfl ?_
        refine r_getR (pc := 27) (b := 2) fl_X8_9 dX8_letterOf_27 s0_1 rfl ?_
        refine r_iload_n (pc := 30) (x := ((h 1 3) + v1)) dX8_letterOf_30 rfl ?_
        obtain ⟨hb9, w⟩ := w
        refine r_bald (pc := 31) (i := ((h 1 3) + v1)) (x := (h 2 ((h 1 3) + v1))) dX8_letterOf_31 s0_2 ⟨hb9.1, hb9.2, (by decide)⟩ (rfl) ?_
        refine r_sipush (pc := 32) (x := 255) dX8_letterOf_32 (by decide) ?_
        refine r_iandM (pc := 35) (x := (h 2 ((h 1 3) + v1))) (y := 255) (z := ((h 2 ((h 1 3) + v1)) % 256)) dX8_letterOf_35 (zI_mask _ 8 (by decide)) ?_
        obtain ⟨hc10, w⟩ := w
        refine r_i2c (pc := 36) (x := ((h 2 ((h 1 3) + v1)) % 256)) dX8_letterOf_36 hc10 ?_
        refine r_goto (pc := 37) (tgt := 42) dX8_letterOf_37 (by decide) ?_
        exact r_iret (st := []) (pc := 42) (x := ((h 2 ((h 1 3) + v1)) % 256)) (ty := .char) dX8_letterOf_42 rfl (zNarC w.1) rfl (by decide) ⟨rfl, _, rfl, w.2⟩

set_option maxRecDepth 100000 in
set_option maxHeartbeats 4000000 in
theorem wX8_spells {h : zMm} {K : Bool → zMm → Prop} {j1 : Nat} (hj1 : j1 < 11) (w : zCi mJ0_length_8abf5 [.ref (1000 + j1)] zS0 h (fun x1 h1 => (zR ((h 1 4) - (h 1 3)) ∧ (zR x1 ∧ ((((h 1 4) - (h 1 3)) = x1 → RR mX8_spells 0 0 20 [some (.ref 1), some (.ref (1000 + j1)), some (.int (zI 0))] [] zS0 h1 (zQb zS0 K)) ∧ (¬ ((h 1 4) - (h 1 3)) = x1 → K false h1)))))) : zCb mX8_spells [.ref 1, .ref (1000 + j1)] zS0 h K := by
  show RR mX8_spells 0 0 0 [some (.ref 1), some (.ref (1000 + j1)), none] [] zS0 h (zQb zS0 K)
  refine r_aload_n (pc := 0) (a := 1) dX8_spells_0 rfl ?_
  refine r_getI (pc := 1) (fi := 4) (x := (h 1 4)) fl_X8_25 dX8_spells_1 s0_1 rfl (rfl) ?_
  refine r_aload_n (pc := 4) (a := 1) dX8_spells_4 rfl ?_
  refine r_getI (pc := 5) (fi := 3) (x := (h 1 3)) fl_X8_22 dX8_spells_5 s0_1 rfl (rfl) ?_
  refine r_isub (pc := 8) (x := (h 1 4)) (y := (h 1 3)) dX8_spells_8 ?_
  refine r_aload_n (pc := 9) (a := (1000 + j1)) dX8_spells_9 rfl ?_
  refine r_callStr (μ2 := mJ0_length_8abf5) (pc := 10) (as := []) (st := [.int (zI ((h 1 4) - (h 1 3)))]) hj1 ml_X8_38 im_J0_length_8abf5 se_J0_length_8abf5 okJ0_length_8abf5 ⟨by decide, by decide⟩ dX8_spells_10 (Nat.le_of_ble_eq_true rfl) rfl (Nat.le_of_ble_eq_true rfl) (by decide) (by decide) (zCC.mono w ?_)
  rintro r S' h1 ⟨rfl, x1, hr, w⟩
  subst hr
  show RR mX8_spells 0 0 13 [some (.ref 1), some (.ref (1000 + j1)), none] [.int (zI x1), .int (zI ((h 1 4) - (h 1 3)))] zS0 h1 (zQb zS0 K)
  obtain ⟨hr2, w⟩ := w
  obtain ⟨hr3, w⟩ := w
  refine r_icmp_eq (pc := 13) (x := ((h 1 4) - (h 1 3))) (y := x1) (tgt := 18) dX8_spells_13 (by decide) hr2 hr3 (fun c => ?_) (fun c => ?_)
  · have w := w.1 (c)
    refine r_iconst (pc := 18) dX8_spells_18 ?_
    refine r_istore_n (pc := 19) (L' := [some (.ref 1), some (.ref (1000 + j1)), some (.int (zI 0))]) dX8_spells_19 (by decide) rfl ?_
    exact w
  · have w := w.2 (c)
    refine r_iconst (pc := 16) dX8_spells_16 ?_
    exact r_iret (st := []) (pc := 17) (x := 0) (ty := .boolean) dX8_spells_17 rfl (rfl) rfl (by decide) ⟨rfl, false, rfl, w⟩

set_option maxRecDepth 100000 in
set_option maxHeartbeats 4000000 in
theorem bX8_spells_20 {h : zMm} {K : Bool → zMm → Prop} {j1 : Nat} {v2 : Int} (hj1 : j1 < 11) (w : zCi mJ0_length_8abf5 [.ref (1000 + j1)] zS0 h (fun x4 h4 => (zR v2 ∧ (zR x4 ∧ ((x4 ≤ v2 → K true h4) ∧ (¬ x4 ≤ v2 → zCi mJ0_charAt_5068e [.ref (1000 + j1), .int (zI v2)] zS0 h4 (fun x7 h7 => zCi mX8_letterOf [.ref 1, .int (zI v2)] zS0 h7 (fun x8 h8 => (zR x7 ∧ (zR x8 ∧ ((x7 = x8 → RR mX8_spells 0 0 20 [some (.ref 1), some (.ref (1000 + j1)), some (.int (zI (v2 + 1)))] [] zS0 h8 (zQb zS0 K)) ∧ (¬ x7 = x8 → K false h8)))))))))))) : RR mX8_spells 0 0 20 [some (.ref 1), some (.ref (1000 + j1)), some (.int (zI v2))] [] zS0 h (zQb zS0 K) := by
  refine r_iload_n (pc := 20) (x := v2) dX8_spells_20 rfl ?_
  refine r_aload_n (pc := 21) (a := (1000 + j1)) dX8_spells_21 rfl ?_
  refine r_callStr (μ2 := mJ0_length_8abf5) (pc := 22) (as := []) (st := [.int (zI v2)]) hj1 ml_X8_38 im_J0_length_8abf5 se_J0_length_8abf5 okJ0_length_8abf5 ⟨by decide, by decide⟩ dX8_spells_22 (Nat.le_of_ble_eq_true rfl) rfl (Nat.le_of_ble_eq_true rfl) (by decide) (by decide) (zCC.mono w ?_)
  rintro r S' h4 ⟨rfl, x4, hr, w⟩
  subst hr
  show RR mX8_spells 0 0 25 [some (.ref 1), some (.ref (1000 + j1)), some (.int (zI v2))] [.int (zI x4), .int (zI v2)] zS0 h4 (zQb zS0 K)
  obtain ⟨hr5, w⟩ := w
  obtain ⟨hr6, w⟩ := w
  refine r_icmp_ge (pc := 25) (x := v2) (y := x4) (tgt := 49) dX8_spells_25 (by decide) hr5 hr6 (fun c => ?_) (fun c => ?_)
  · have w := w.1 (c)
    refine r_iconst (pc := 49) dX8_spells_49 ?_
    exact r_iret (st := []) (pc := 50) (x := 1) (ty := .boolean) dX8_spells_50 rfl (rfl) rfl (by decide) ⟨rfl, true, rfl, w⟩
  · have w := w.2 (c)
    refine r_aload_n (pc := 28) (a := (1000 + j1)) dX8_spells_28 rfl ?_
    refine r_iload_n (pc := 29) (x := v2) dX8_spells_29 rfl ?_
    refine r_callStr (μ2 := mJ0_charAt_5068e) (pc := 30) (as := [.int (zI v2)]) (st := []) hj1 ml_X8_43 im_J0_charAt_5068e se_J0_charAt_5068e okJ0_charAt_5068e ⟨by decide, by decide⟩ dX8_spells_30 (Nat.le_of_ble_eq_true rfl) rfl (Nat.le_of_ble_eq_true rfl) (by decide) (by decide) (zCC.mono w ?_)
    rintro r S' h7 ⟨rfl, x7, hr, w⟩
    subst hr
    show RR mX8_spells 0 0 33 [some (.ref 1), some (.ref (1000 + j1)), some (.int (zI v2))] [.int (zI x7)] zS0 h7 (zQb zS0 K)
    refine r_aload_n (pc := 33) (a := 1) dX8_spells_33 rfl ?_
    refine r_iload_n (pc := 34) (x := v2) dX8_spells_34 rfl ?_
    refine r_callV (μ2 := mX8_letterOf) (pc := 35) (as := [.int (zI v2)]) (st := [.int (zI x7)]) rfl s0_1 ml_X8_47 im_X8_letterOf se_X8_letterOf okX8_letterOf ⟨by decide, by decide⟩ dX8_spells_35 (Nat.le_of_ble_eq_true rfl) rfl (Nat.le_of_ble_eq_true rfl) (by decide) (by decide) (zCC.mono w ?_)
    rintro r S' h8 ⟨rfl, x8, hr, w⟩
    subst hr
    show RR mX8_spells 0 0 38 [some (.ref 1), some (.ref (1000 + j1)), some (.int (zI v2))] [.int (zI x8), .int (zI x7)] zS0 h8 (zQb zS0 K)
    obtain ⟨hr9, w⟩ := w
    obtain ⟨hr10, w⟩ := w
    refine r_icmp_eq (pc := 38) (x := x7) (y := x8) (tgt := 43) dX8_spells_38 (by decide) hr9 hr10 (fun c => ?_) (fun c => ?_)
    · have w := w.1 (c)
      refine r_iinc (pc := 43) (x := v2) (L' := [some (.ref 1), some (.ref (1000 + j1)), some (.int (zI (v2 + 1)))]) dX8_spells_43 rfl (by decide) rfl ?_
      refine r_goto (pc := 46) (tgt := 20) dX8_spells_46 (by decide) ?_
      exact w
    · have w := w.2 (c)
      refine r_iconst (pc := 41) dX8_spells_41 ?_
      exact r_iret (st := []) (pc := 42) (x := 0) (ty := .boolean) dX8_spells_42 rfl (rfl) rfl (by decide) ⟨rfl, false, rfl, w⟩
