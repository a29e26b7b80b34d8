theorem dfX0 : ∀ j, j < 5 → defaultValue (tyX0 j) = zDv (zTy 0 j) := fun j hj => zDf_ok ((show ∀ j, j < 5 → zDf (tyX0 j) (zTy 0 j) = true by decide +kernel) j hj)
theorem dfX1 : ∀ j, j < 8 → defaultValue (tyX1 j) = zDv (zTy 1 j) := fun j hj => zDf_ok ((show ∀ j, j < 8 → zDf (tyX1 j) (zTy 1 j) = true by decide +kernel) j hj)
theorem dfX2 : ∀ j, j < 2 → defaultValue (tyX2 j) = zDv (zTy 2 j) := fun j hj => zDf_ok ((show ∀ j, j < 2 → zDf (tyX2 j) (zTy 2 j) = true by decide +kernel) j hj)
theorem dfX3 : ∀ j, j < 5 → defaultValue (tyX3 j) = zDv (zTy 3 j) := fun j hj => zDf_ok ((show ∀ j, j < 5 → zDf (tyX3 j) (zTy 3 j) = true by decide +kernel) j hj)
theorem dfX4 : ∀ j, j < 20 → defaultValue (tyX4 j) = zDv (zTy 4 j) := fun j hj => zDf_ok ((show ∀ j, j < 20 → zDf (tyX4 j) (zTy 4 j) = true by decide +kernel) j hj)
theorem dfX5 : ∀ j, j < 3 → defaultValue (tyX5 j) = zDv (zTy 5 j) := fun j hj => zDf_ok ((show ∀ j, j < 3 → zDf (tyX5 j) (zTy 5 j) = true by decide +kernel) j hj)
theorem dfX6 : ∀ j, j < 5 → defaultValue (tyX6 j) = zDv (zTy 6 j) := fun j hj => zDf_ok ((show ∀ j, j < 5 → zDf (tyX6 j) (zTy 6 j) = true by decide +kernel) j hj)
theorem dfX7 : ∀ j, j < 3 → defaultValue (tyX7 j) = zDv (zTy 7 j) := fun j hj => zDf_ok ((show ∀ j, j < 3 → zDf (tyX7 j) (zTy 7 j) = true by decide +kernel) j hj)
theorem dfX8 : ∀ j, j < 6 → defaultValue (tyX8 j) = zDv (zTy 8 j) := fun j hj => zDf_ok ((show ∀ j, j < 6 → zDf (tyX8 j) (zTy 8 j) = true by decide +kernel) j hj)
theorem dfX9 : ∀ j, j < 7 → defaultValue (tyX9 j) = zDv (zTy 9 j) := fun j hj => zDf_ok ((show ∀ j, j < 7 → zDf (tyX9 j) (zTy 9 j) = true by decide +kernel) j hj)
theorem dfX10 : ∀ j, j < 16 → defaultValue (tyX10 j) = zDv (zTy 10 j) := fun j hj => zDf_ok ((show ∀ j, j < 16 → zDf (tyX10 j) (zTy 10 j) = true by decide +kernel) j hj)
theorem dfX11 : ∀ j, j < 16 → defaultValue (tyX11 j) = zDv (zTy 11 j) := fun j hj => zDf_ok ((show ∀ j, j < 16 → zDf (tyX11 j) (zTy 11 j) = true by decide +kernel) j hj)
theorem dfX12 : ∀ j, j < 51 → defaultValue (tyX12 j) = zDv (zTy 12 j) := fun j hj => zDf_ok ((show ∀ j, j < 51 → zDf (tyX12 j) (zTy 12 j) = true by decide +kernel) j hj)
abbrev mX3_init : zMi := (yX3_init, cX3_init, 1, none, { frames := 4, cells := 5, slots := 152, locals := 82 }, none)
set_option maxRecDepth 100000 in
theorem wX3_code : lw_tbl[133]? = some (Cond.code yX3_init cX3_init 1 none) := rfl
theorem okX3_init : zOK mX3_init 0 := ⟨by decide +kernel, zmem 133 wX3_code rfl, zmem 64 (by decide +kernel) rfl, ⟨by decide +kernel, by decide +kernel, by decide +kernel⟩, rfl⟩
def zNewX3 (o : Nat) (h h' : zMm) : Prop := (∀ a, a < o → h' a = h a) ∧ (∀ i : Int, 0 ≤ i → i < 36 → h' (o + 1) i = 0 ∧ h' (o + 2) i = 3 ∧ h' (o + 3) i = 3 ∧ h' (o + 4) i = -4) ∧ ∀ r : Int, 0 ≤ r → r ≤ 7 → h' (o + 5) r = ([0, 1, 2, 30, 2, 20, 0, 3] : List Int).getD r.toNat 0

set_option maxRecDepth 100000 in
set_option maxHeartbeats 4000000 in
theorem iX3 {P : zSh} {o : Nat} {h : zMm} {K : zMm → Prop} (hP : P.length = o) (ho : o < 900) (hK : ∀ h', zNewX3 o h h' → K h') : zCC mX3_init [.ref o] (P ++ [(3, 5, [none, none, none, none, none])]) h (zQv (P ++ [(3, 5, [some (o + 1), some (o + 2), some (o + 3), some (o + 4), some (o + 5)]), (20, 36, []), (20, 36, []), (20, 36, []), (20, 36, []), (20, 8, [])]) K) := by
  show RR mX3_init 0 0 0 [some (.ref o)] [] (P ++ [(3, 5, [none, none, none, none, none])]) h _
  refine r_aload_n (pc := 0) (a := o) dX3_init_0 rfl ?_
  refine r_objInit (pc := 1) ml_X3_3 obj_i obj_c dX3_init_1 (by decide) (by decide) ?_
  refine r_aload_n (pc := 4) (a := o) dX3_init_4 rfl ?_
  refine r_bipush (pc := 5) (x := 36) dX3_init_5 (by decide) ?_
  refine q_newa_int (pc := 7) (x := 36) (N := 36) ac_int dX3_init_7 rfl (by decide) (S' := (P ++ [(3, 5, [none, none, none, none, none]), (20, 36, [])])) (by subst hP; simp [List.set_append]) (a := (o + 1)) (by subst hP; simp) (by omega) (by decide) (by decide) ?_
  refine q_putR (pc := 9) (o := o) (b := (o + 1)) (ci := 3) (f := 0) (N := 5) (rf := [none, none, none, none, none]) fl_X3_9 (Or.inr ⟨_, rfl⟩) ⟨_, _, _, rfl, rfl⟩ rfl dX3_init_9 (by subst hP; simp) (Nat.le_of_ble_eq_true rfl) (S' := (P ++ [(3, 5, [some (o + 1), none, none, none, none]), (20, 36, [])])) (by subst hP; simp [List.set_append]) ?_
  refine r_aload_n (pc := 12) (a := o) dX3_init_12 rfl ?_
  refine r_bipush (pc := 13) (x := 36) dX3_init_13 (by decide) ?_
  refine q_newa_int (pc := 15) (x := 36) (N := 36) ac_int dX3_init_15 rfl (by decide) (S' := (P ++ [(3, 5, [some (o + 1), none, none, none, none]), (20, 36, []), (20, 36, [])])) (by subst hP; simp [List.set_append]) (a := (o + 2)) (by subst hP; simp) (by omega) (by decide) (by decide) ?_
  refine q_putR (pc := 17) (o := o) (b := (o + 2)) (ci := 3) (f := 1) (N := 5) (rf := [some (o + 1), none, none, none, none]) fl_X3_15 (Or.inr ⟨_, rfl⟩) ⟨_, _, _, rfl, rfl⟩ rfl dX3_init_17 (by subst hP; simp) (Nat.le_of_ble_eq_true rfl) (S' := (P ++ [(3, 5, [some (o + 1), some (o + 2), none, none, none]), (20, 36, []), (20, 36, [])])) (by subst hP; simp [List.set_append]) ?_
  refine r_aload_n (pc := 20) (a := o) dX3_init_20 rfl ?_
  refine r_bipush (pc := 21) (x := 36) dX3_init_21 (by decide) ?_
  refine q_newa_int (pc := 23) (x := 36) (N := 36) ac_int dX3_init_23 rfl (by decide) (S' := (P ++ [(3, 5, [some (o + 1), some (o + 2), none, none, none]), (20, 36, []), (20, 36, []), (20, 36, [])])) (by subst hP; simp [List.set_append]) (a := (o + 3)) (by subst hP; simp) (by omega) (by decide) (by decide) ?_
  refine q_putR (pc := 25) (o := o) (b := (o + 3)) (ci := 3) (f := 2) (N := 5) (rf := [some (o + 1), some (o + 2), none, none, none]) fl_X3_18 (Or.inr ⟨_, rfl⟩) ⟨_, _, _, rfl, rfl⟩ rfl dX3_init_25 (by subst hP; simp) (Nat.le_of_ble_eq_true rfl) (S' := (P ++ [(3, 5, [some (o + 1), some (o + 2), some (o + 3), none, none]), (20, 36, []), (20, 36, []), (20, 36, [])])) (by subst hP; simp [List.set_append]) ?_
  refine r_aload_n (pc := 28) (a := o) dX3_init_28 rfl ?_
  refine r_bipush (pc := 29) (x := 36) dX3_init_29 (by decide) ?_
  refine q_newa_int (pc := 31) (x := 36) (N := 36) ac_int dX3_init_31 rfl (by decide) (S' := (P ++ [(3, 5, [some (o + 1), some (o + 2), some (o + 3), none, none]), (20, 36, []), (20, 36, []), (20, 36, []), (20, 36, [])])) (by subst hP; simp [List.set_append]) (a := (o + 4)) (by subst hP; simp) (by omega) (by decide) (by decide) ?_
  refine q_putR (pc := 33) (o := o) (b := (o + 4)) (ci := 3) (f := 3) (N := 5) (rf := [some (o + 1), some (o + 2), some (o + 3), none, none]) fl_X3_21 (Or.inr ⟨_, rfl⟩) ⟨_, _, _, rfl, rfl⟩ rfl dX3_init_33 (by subst hP; simp) (Nat.le_of_ble_eq_true rfl) (S' := (P ++ [(3, 5, [some (o + 1), some (o + 2), some (o + 3), some (o + 4), none]), (20, 36, []), (20, 36, []), (20, 36, []), (20, 36, [])])) (by subst hP; simp [List.set_append]) ?_
  refine r_aload_n (pc := 36) (a := o) dX3_init_36 rfl ?_
  refine r_bipush (pc := 37) (x := 8) dX3_init_37 (by decide) ?_
  refine q_newa_int (pc := 39) (x := 8) (N := 8) ac_int dX3_init_39 rfl (by decide) (S' := (P ++ [(3, 5, [some (o + 1), some (o + 2), some (o + 3), some (o + 4), none]), (20, 36, []), (20, 36, []), (20, 36, []), (20, 36, []), (20, 8, [])])) (by subst hP; simp [List.set_append]) (a := (o + 5)) (by subst hP; simp) (by omega) (by decide) (by decide) ?_
  refine q_putR (pc := 41) (o := o) (b := (o + 5)) (ci := 3) (f := 4) (N := 5) (rf := [some (o + 1), some (o + 2), some (o + 3), some (o + 4), none]) fl_X3_24 (Or.inr ⟨_, rfl⟩) ⟨_, _, _, rfl, rfl⟩ rfl dX3_init_41 (by subst hP; simp) (Nat.le_of_ble_eq_true rfl) (S' := (P ++ [(3, 5, [some (o + 1), some (o + 2), some (o + 3), some (o + 4), some (o + 5)]), (20, 36, []), (20, 36, []), (20, 36, []), (20, 36, []), (20, 8, [])])) (by subst hP; simp [List.set_append]) ?_
  refine r_aload_n (pc := 44) (a := o) dX3_init_44 rfl ?_
  refine r_callV (μ2 := mX3_startAnew) (pc := 45) (as := []) (st := []) (ci := 3) (M := 5) (rf := [some (o + 1), some (o + 2), some (o + 3), some (o + 4), some (o + 5)]) rfl (by subst hP; simp) ml_X3_27 im_X3_startAnew se_X3_startAnew okX3_startAnew ⟨by decide, by decide⟩ dX3_init_45 (Nat.le_of_ble_eq_true rfl) rfl (Nat.le_of_ble_eq_true rfl) (by decide) (by decide) (zCC.mono (sX3_startAnew0 (o0 := o) (by subst hP; exact ⟨by simp, by simp, by simp, by simp, by simp, by simp⟩) (K := zNewG o (zN (zN (zN (zN (zN h (o + 1)) (o + 2)) (o + 3)) (o + 4)) (o + 5))) (fun _ z => z)) ?_)
  rintro r S' h1 ⟨rfl, hr, w1⟩
  subst hr
  show RR mX3_init 5 152 48 [some (.ref o)] [] (P ++ [(3, 5, [some (o + 1), some (o + 2), some (o + 3), some (o + 4), some (o + 5)]), (20, 36, []), (20, 36, []), (20, 36, []), (20, 36, []), (20, 8, [])]) h1 _
  refine r_ret (st := []) (pc := 48) dX3_init_48 rfl rfl (by decide) ⟨rfl, rfl, ?_⟩
  refine hK _ ⟨fun a ha => (w1.1 a (Or.inl ha)).trans ?_, w1.2⟩
  rw [zN_off a (by omega), zN_off a (by omega), zN_off a (by omega), zN_off a (by omega), zN_off a (by omega)]
abbrev mX5_init : zMi := (yX5_init, cX5_init, 1, none, { frames := 1, cells := 2, slots := 48, locals := 20 }, none)
set_option maxRecDepth 100000 in
theorem wX5_code : lw_tbl[218]? = some (Cond.code yX5_init cX5_init 1 none) := rfl
theorem okX5_init : zOK mX5_init 0 := ⟨by decide +kernel, zmem 218 wX5_code rfl, zmem 67 (by decide +kernel) rfl, ⟨by decide +kernel, by decide +kernel, by decide +kernel⟩, rfl⟩
def zNewX5 (o : Nat) (h h' : zMm) : Prop := (∀ a, a < o → h' a = h a) ∧ h' o 2 = 0

set_option maxRecDepth 100000 in
set_option maxHeartbeats 4000000 in
theorem iX5 {P : zSh} {o : Nat} {h : zMm} {K : zMm → Prop} (hP : P.length = o) (ho : o < 900) (hK : ∀ h', zNewX5 o h h' → K h') : zCC mX5_init [.ref o] (P ++ [(5, 3, [none, none, none])]) h (zQv (P ++ [(5, 3, [some (o + 1), some (o + 2), none]), (20, 24, []), (20, 24, [])]) K) := by
  show RR mX5_init 0 0 0 [some (.ref o)] [] (P ++ [(5, 3, [none, none, none])]) h _
  refine r_aload_n (pc := 0) (a := o) dX5_init_0 rfl ?_
  refine r_objInit (pc := 1) ml_X5_3 obj_i obj_c dX5_init_1 (by decide) (by decide) ?_
  refine r_aload_n (pc := 4) (a := o) dX5_init_4 rfl ?_
  refine r_bipush (pc := 5) (x := 24) dX5_init_5 (by decide) ?_
  refine q_newa_int (pc := 7) (x := 24) (N := 24) ac_int dX5_init_7 rfl (by decide) (S' := (P ++ [(5, 3, [none, none, none]), (20, 24, [])])) (by subst hP; simp [List.set_append]) (a := (o + 1)) (by subst hP; simp) (by omega) (by decide) (by decide) ?_
  refine q_putR (pc := 9) (o := o) (b := (o + 1)) (ci := 5) (f := 0) (N := 3) (rf := [none, none, none]) fl_X5_9 (Or.inr ⟨_, rfl⟩) ⟨_, _, _, rfl, rfl⟩ rfl dX5_init_9 (by subst hP; simp) (Nat.le_of_ble_eq_true rfl) (S' := (P ++ [(5, 3, [some (o + 1), none, none]), (20, 24, [])])) (by subst hP; simp [List.set_append]) ?_
  refine r_aload_n (pc := 12) (a := o) dX5_init_12 rfl ?_
  refine r_bipush (pc := 13) (x := 24) dX5_init_13 (by decide) ?_
  refine q_newa_int (pc := 15) (x := 24) (N := 24) ac_int dX5_init_15 rfl (by decide) (S' := (P ++ [(5, 3, [some (o + 1), none, none]), (20, 24, []), (20, 24, [])])) (by subst hP; simp [List.set_append]) (a := (o + 2)) (by subst hP; simp) (by omega) (by decide) (by decide) ?_
  refine q_putR (pc := 17) (o := o) (b := (o + 2)) (ci := 5) (f := 1) (N := 3) (rf := [some (o + 1), none, none]) fl_X5_15 (Or.inr ⟨_, rfl⟩) ⟨_, _, _, rfl, rfl⟩ rfl dX5_init_17 (by subst hP; simp) (Nat.le_of_ble_eq_true rfl) (S' := (P ++ [(5, 3, [some (o + 1), some (o + 2), none]), (20, 24, []), (20, 24, [])])) (by subst hP; simp [List.set_append]) ?_
  refine r_aload_n (pc := 20) (a := o) dX5_init_20 rfl ?_
  refine r_iconst (pc := 21) dX5_init_21 ?_
  refine r_putI (pc := 22) (ci := 5) (N := 3) (rf := [some (o + 1), some (o + 2), none]) (fi := 2) (x := 0) fl_X5_18 dX5_init_22 (by subst hP; simp) rfl ?_
  refine r_ret (st := []) (pc := 25) dX5_init_25 rfl rfl (by decide) ⟨rfl, rfl, ?_⟩
  refine hK _ ⟨fun a ha => ?_, zU_eq _ _ _ _⟩
  rw [zU_off a (by omega), zN_off a (by omega), zN_off a (by omega)]
abbrev mX7_init : zMi := (yX7_init, cX7_init, 1, none, { frames := 1, cells := 1, slots := 48, locals := 20 }, none)
set_option maxRecDepth 100000 in
theorem wX7_code : lw_tbl[487]? = some (Cond.code yX7_init cX7_init 1 none) := rfl
theorem okX7_init : zOK mX7_init 0 := ⟨by decide +kernel, zmem 487 wX7_code rfl, zmem 74 (by decide +kernel) rfl, ⟨by decide +kernel, by decide +kernel, by decide +kernel⟩, rfl⟩
def zNewX7 (o : Nat) (h h' : zMm) : Prop := (∀ a, a < o → h' a = h a) ∧ h' o 1 = -1 ∧ h' o 2 = 0 ∧ ∀ i : Int, h' (o + 1) i = 0

set_option maxRecDepth 100000 in
set_option maxHeartbeats 4000000 in
theorem iX7 {P : zSh} {o : Nat} {h : zMm} {K : zMm → Prop} (hP : P.length = o) (ho : o < 900) (hK : ∀ h', zNewX7 o h h' → K h') : zCC mX7_init [.ref o] (P ++ [(7, 3, [none, none, none])]) h (zQv (P ++ [(7, 3, [some (o + 1), none, none]), (20, 48, [])]) K) := by
  show RR mX7_init 0 0 0 [some (.ref o)] [] (P ++ [(7, 3, [none, none, none])]) h _
  refine r_aload_n (pc := 0) (a := o) dX7_init_0 rfl ?_
  refine r_objInit (pc := 1) ml_X7_3 obj_i obj_c dX7_init_1 (by decide) (by decide) ?_
  refine r_aload_n (pc := 4) (a := o) dX7_init_4 rfl ?_
  refine r_bipush (pc := 5) (x := 48) dX7_init_5 (by decide) ?_
  refine q_newa_int (pc := 7) (x := 48) (N := 48) ac_int dX7_init_7 rfl (by decide) (S' := (P ++ [(7, 3, [none, none, none]), (20, 48, [])])) (by subst hP; simp [List.set_append]) (a := (o + 1)) (by subst hP; simp) (by omega) (by decide) (by decide) ?_
  refine q_putR (pc := 9) (o := o) (b := (o + 1)) (ci := 7) (f := 0) (N := 3) (rf := [none, none, none]) fl_X7_9 (Or.inr ⟨_, rfl⟩) ⟨_, _, _, rfl, rfl⟩ rfl dX7_init_9 (by subst hP; simp) (Nat.le_of_ble_eq_true rfl) (S' := (P ++ [(7, 3, [some (o + 1), none, none]), (20, 48, [])])) (by subst hP; simp [List.set_append]) ?_
  refine r_aload_n (pc := 12) (a := o) dX7_init_12 rfl ?_
  refine r_iconst (pc := 13) dX7_init_13 ?_
  refine r_putI (pc := 14) (ci := 7) (N := 3) (rf := [some (o + 1), none, none]) (fi := 1) (x := (-1)) fl_X7_15 dX7_init_14 (by subst hP; simp) rfl ?_
  refine r_aload_n (pc := 17) (a := o) dX7_init_17 rfl ?_
  refine r_iconst (pc := 18) dX7_init_18 ?_
  refine r_putI (pc := 19) (ci := 7) (N := 3) (rf := [some (o + 1), none, none]) (fi := 2) (x := 0) fl_X7_19 dX7_init_19 (by subst hP; simp) rfl ?_
  refine r_ret (st := []) (pc := 22) dX7_init_22 rfl rfl (by decide) ⟨rfl, rfl, ?_⟩
  refine hK _ ⟨fun a ha => ?_, ?_, zU_eq _ _ _ _, fun i => ?_⟩
  · rw [zU_off a (by omega), zU_off a (by omega), zN_off a (by omega)]
  · rw [zU_ne (by omega), zU_eq]
  · rw [zU_off (o + 1) (by omega), zU_off (o + 1) (by omega), zN_at]
def zc_0 : zSh := [(11, 16, List.replicate 16 none)]
def zc_1 : zSh := zc_0 ++ [(8, 6, List.replicate 6 none)]
def zc_2 : zSh := zc_0 ++ [(8, 6, List.replicate 6 none)]
def zc_3 : zSh := zc_2 ++ [(22, 320, [])]
def zc_4 : zSh := zc_3.set 1 (8, 6, [some 2, none, none, none, none, none])
abbrev mX8_init : zMi := (yX8_init, cX8_init, 1, none, { frames := 1, cells := 1, slots := 320, locals := 20 }, none)
set_option maxRecDepth 100000 in
theorem wX8_code : lw_tbl[95]? = some (Cond.code yX8_init cX8_init 1 none) := rfl
theorem okX8_init : zOK mX8_init 0 := ⟨by decide +kernel, zmem 95 wX8_code rfl, zmem 62 (by decide +kernel) rfl, ⟨by decide +kernel, by decide +kernel, by decide +kernel⟩, rfl⟩
def zNewX8 (h h' : zMm) : Prop := (∀ a, a < 1 → h' a = h a) ∧ h' 1 1 = 0

set_option maxRecDepth 100000 in
set_option maxHeartbeats 4000000 in
theorem iX8 {h : zMm} {K : zMm → Prop} (hK : ∀ h', zNewX8 h h' → K h') : zCC mX8_init [.ref 1] zc_2 h (zQv zc_4 K) := by
  show RR mX8_init 0 0 0 [some (.ref 1)] [] zc_2 h _
  refine r_aload_n (pc := 0) (a := 1) dX8_init_0 rfl ?_
  refine r_objInit (pc := 1) ml_X8_3 obj_i obj_c dX8_init_1 (by decide) (by decide) ?_
  refine r_aload_n (pc := 4) (a := 1) dX8_init_4 rfl ?_
  refine r_sipush (pc := 5) (x := 320) dX8_init_5 (by decide) ?_
  refine q_newa_byte (pc := 8) (x := 320) (N := 320) ac_byte dX8_init_8 rfl (by decide) (S' := zc_3) rfl (a := 2) (by decide +kernel) (by decide) (by decide) (by decide) ?_
  refine q_putR (pc := 10) (o := 1) (b := 2) (ci := 8) (f := 0) (N := 6) (rf := [none, none, none, none, none, none]) fl_X8_9 (Or.inr ⟨_, rfl⟩) ⟨_, _, _, rfl, rfl⟩ rfl dX8_init_10 (by decide +kernel) (Nat.le_of_ble_eq_true rfl) (S' := zc_4) rfl ?_
  refine r_aload_n (pc := 13) (a := 1) dX8_init_13 rfl ?_
  refine r_iconst (pc := 14) dX8_init_14 ?_
  refine r_putI (pc := 15) (ci := 8) (N := 6) (rf := [some 2, none, none, none, none, none]) (fi := 1) (x := 0) fl_X8_15 dX8_init_15 (by decide +kernel) rfl ?_
  refine r_aload_n (pc := 18) (a := 1) dX8_init_18 rfl ?_
  refine r_iconst (pc := 19) dX8_init_19 ?_
  refine r_putI (pc := 20) (ci := 8) (N := 6) (rf := [some 2, none, none, none, none, none]) (fi := 2) (x := 5) fl_X8_19 dX8_init_20 (by decide +kernel) rfl ?_
  refine r_aload_n (pc := 23) (a := 1) dX8_init_23 rfl ?_
  refine r_iconst (pc := 24) dX8_init_24 ?_
  refine r_putI (pc := 25) (ci := 8) (N := 6) (rf := [some 2, none, none, none, none, none]) (fi := 3) (x := 0) fl_X8_22 dX8_init_25 (by decide +kernel) rfl ?_
  refine r_aload_n (pc := 28) (a := 1) dX8_init_28 rfl ?_
  refine r_iconst (pc := 29) dX8_init_29 ?_
  refine r_putI (pc := 30) (ci := 8) (N := 6) (rf := [some 2, none, none, none, none, none]) (fi := 4) (x := 0) fl_X8_25 dX8_init_30 (by decide +kernel) rfl ?_
  refine r_aload_n (pc := 33) (a := 1) dX8_init_33 rfl ?_
  refine r_iconst (pc := 34) dX8_init_34 ?_
  refine r_putI (pc := 35) (ci := 8) (N := 6) (rf := [some 2, none, none, none, none, none]) (fi := 5) (x := 0) fl_X8_28 dX8_init_35 (by decide +kernel) rfl ?_
  refine r_ret (st := []) (pc := 38) dX8_init_38 rfl rfl (by decide) ⟨rfl, rfl, ?_⟩
  refine hK _ ⟨fun a ha => ?_, rfl⟩
  rw [zU_off a (by omega), zU_off a (by omega), zU_off a (by omega), zU_off a (by omega), zU_off a (by omega), zN_off a (by omega)]
def zc_5 : zSh := zc_4.set 0 (11, 16, [some 1, none, none, none, none, none, none, none, none, none, none, none, none, none, none, none])
def zc_6 : zSh := zc_5 ++ [(9, 7, List.replicate 7 none)]
def zc_7 : zSh := zc_5 ++ [(9, 7, List.replicate 7 none)]
def zc_8 : zSh := zc_7 ++ [(3, 5, List.replicate 5 none)]
def zc_9 : zSh := zc_7 ++ [(3, 5, [some 5, some 6, some 7, some 8, some 9]), (20, 36, []), (20, 36, []), (20, 36, []), (20, 36, []), (20, 8, [])]
def zc_10 : zSh := zc_9.set 3 (9, 7, [some 4, none, none, none, none, none, none])
abbrev mX9_init : zMi := (yX9_init, cX9_init, 1, none, { frames := 5, cells := 6, slots := 157, locals := 102 }, none)
set_option maxRecDepth 100000 in
theorem wX9_code : lw_tbl[127]? = some (Cond.code yX9_init cX9_init 1 none) := rfl
theorem okX9_init : zOK mX9_init 0 := ⟨by decide +kernel, zmem 127 wX9_code rfl, zmem 63 (by decide +kernel) rfl, ⟨by decide +kernel, by decide +kernel, by decide +kernel⟩, rfl⟩
def zNewX9 (h h' : zMm) : Prop := (∀ a, a < 3 → h' a = h a) ∧ h' 3 1 = 0

set_option maxRecDepth 100000 in
set_option maxHeartbeats 4000000 in
theorem iX9 {h : zMm} {K : zMm → Prop} (hK : ∀ h', zNewX9 h h' → K h') : zCC mX9_init [.ref 3] zc_7 h (zQv zc_10 K) := by
  show RR mX9_init 0 0 0 [some (.ref 3)] [] zc_7 h _
  refine r_aload_n (pc := 0) (a := 3) dX9_init_0 rfl ?_
  refine r_objInit (pc := 1) ml_X9_3 obj_i obj_c dX9_init_1 (by decide) (by decide) ?_
  refine r_aload_n (pc := 4) (a := 3) dX9_init_4 rfl ?_
  refine q_new (pc := 5) (ci := 3) (N := 5) (C := "LawnTrees$Garden") rfl zCl3_in tyX3 tyX3_ok dfX3 cl_X9_9 in_X3 it_X3 dX9_init_5 (S' := zc_8) rfl (a := 4) (by decide +kernel) (by decide) (by decide) (by decide) ?_
  refine r_dup (pc := 8) rfl dX9_init_8 ?_
  refine r_callI (μ2 := mX3_init) (pc := 9) (o := 4) (as := []) (st := [.ref 4, .ref 3]) ml_X9_11 im_X3_init rfl rfl okX3_init ⟨by decide, by decide⟩ dX9_init_9 (Nat.le_of_ble_eq_true rfl) rfl (Nat.le_of_ble_eq_true rfl) (by decide) (by decide) (zCC.mono (iX3 (P := zc_7) (o := 4) (by decide +kernel) (by decide) (K := zNewX3 4 (zN h 4)) (fun _ z => z)) ?_)
  rintro r S' h1 ⟨rfl, hr, w1⟩
  subst hr
  show RR mX9_init 6 157 12 [some (.ref 3)] [.ref 4, .ref 3] zc_9 h1 _
  refine q_putR (pc := 12) (o := 3) (b := 4) (ci := 9) (f := 0) (N := 7) (rf := [none, none, none, none, none, none, none]) fl_X9_12 (Or.inl ⟨_, rfl⟩) ⟨_, _, _, rfl, rfl⟩ rfl dX9_init_12 (by decide +kernel) (Nat.le_of_ble_eq_true rfl) (S' := zc_10) rfl ?_
  refine r_aload_n (pc := 15) (a := 3) dX9_init_15 rfl ?_
  refine r_iconst (pc := 16) dX9_init_16 ?_
  refine r_putI (pc := 17) (ci := 9) (N := 7) (rf := [some 4, none, none, none, none, none, none]) (fi := 1) (x := 0) fl_X9_18 dX9_init_17 (by decide +kernel) rfl ?_
  refine r_aload_n (pc := 20) (a := 3) dX9_init_20 rfl ?_
  refine r_iconst (pc := 21) dX9_init_21 ?_
  refine r_putI (pc := 22) (ci := 9) (N := 7) (rf := [some 4, none, none, none, none, none, none]) (fi := 2) (x := 0) fl_X9_22 dX9_init_22 (by decide +kernel) rfl ?_
  refine r_aload_n (pc := 25) (a := 3) dX9_init_25 rfl ?_
  refine r_iconst (pc := 26) dX9_init_26 ?_
  refine r_putI (pc := 27) (ci := 9) (N := 7) (rf := [some 4, none, none, none, none, none, none]) (fi := 3) (x := 0) fl_X9_25 dX9_init_27 (by decide +kernel) rfl ?_
  refine r_aload_n (pc := 30) (a := 3) dX9_init_30 rfl ?_
  refine r_iconst (pc := 31) dX9_init_31 ?_
  refine r_putI (pc := 32) (ci := 9) (N := 7) (rf := [some 4, none, none, none, none, none, none]) (fi := 4) (x := 0) fl_X9_28 dX9_init_32 (by decide +kernel) rfl ?_
  refine r_aload_n (pc := 35) (a := 3) dX9_init_35 rfl ?_
  refine r_iconst (pc := 36) dX9_init_36 ?_
  refine r_putI (pc := 37) (ci := 9) (N := 7) (rf := [some 4, none, none, none, none, none, none]) (fi := 5) (x := 0) fl_X9_31 dX9_init_37 (by decide +kernel) rfl ?_
  refine r_aload_n (pc := 40) (a := 3) dX9_init_40 rfl ?_
  refine r_lconst (pc := 41) (x := 0) dX9_init_41 rfl ?_
  refine r_putJ (pc := 42) (ci := 9) (N := 7) (rf := [some 4, none, none, none, none, none, none]) (fi := 6) (x := 0) fl_X9_34 dX9_init_42 (by decide +kernel) rfl ?_
  refine r_ret (st := []) (pc := 45) dX9_init_45 rfl rfl (by decide) ⟨rfl, rfl, ?_⟩
  refine hK _ ⟨fun a ha => ?_, rfl⟩
  rw [zU_off a (by omega), zU_off a (by omega), zU_off a (by omega), zU_off a (by omega), zU_off a (by omega), zU_off a (by omega), w1.1 a (by omega), zN_off a (by omega)]
def zc_11 : zSh := zc_10.set 0 (11, 16, [some 1, some 3, none, none, none, none, none, none, none, none, none, none, none, none, none, none])
def zc_12 : zSh := zc_11 ++ [(3, 5, List.replicate 5 none)]
def zc_13 : zSh := zc_11 ++ [(3, 5, [some 11, some 12, some 13, some 14, some 15]), (20, 36, []), (20, 36, []), (20, 36, []), (20, 36, []), (20, 8, [])]
def zc_14 : zSh := zc_13.set 0 (11, 16, [some 1, some 3, some 10, none, none, none, none, none, none, none, none, none, none, none, none, none])
def zc_15 : zSh := zc_14 ++ [(5, 3, List.replicate 3 none)]
def zc_16 : zSh := zc_14 ++ [(5, 3, [some 17, some 18, none]), (20, 24, []), (20, 24, [])]
def zc_17 : zSh := zc_16.set 0 (11, 16, [some 1, some 3, some 10, some 16, none, none, none, none, none, none, none, none, none, none, none, none])
def zc_18 : zSh := zc_17 ++ [(5, 3, List.replicate 3 none)]
def zc_19 : zSh := zc_17 ++ [(5, 3, [some 20, some 21, none]), (20, 24, []), (20, 24, [])]
def zc_20 : zSh := zc_19.set 0 (11, 16, [some 1, some 3, some 10, some 16, some 19, none, none, none, none, none, none, none, none, none, none, none])
def zc_21 : zSh := zc_20 ++ [(10, 16, List.replicate 16 none)]
def zc_22 : zSh := zc_20 ++ [(10, 16, List.replicate 16 none)]
def zc_23 : zSh := zc_22 ++ [(20, 36, [])]
def zc_24 : zSh := zc_23.set 22 (10, 16, [some 23, none, none, none, none, none, none, none, none, none, none, none, none, none, none, none])
def zc_25 : zSh := zc_24 ++ [(20, 36, [])]
def zc_26 : zSh := zc_25.set 22 (10, 16, [some 23, some 24, none, none, none, none, none, none, none, none, none, none, none, none, none, none])
abbrev mX10_init : zMi := (yX10_init, cX10_init, 1, none, { frames := 1, cells := 2, slots := 72, locals := 20 }, none)
set_option maxRecDepth 100000 in
theorem wX10_code : lw_tbl[237]? = some (Cond.code yX10_init cX10_init 1 none) := rfl
theorem okX10_init : zOK mX10_init 0 := ⟨by decide +kernel, zmem 237 wX10_code rfl, zmem 68 (by decide +kernel) rfl, ⟨by decide +kernel, by decide +kernel, by decide +kernel⟩, rfl⟩
def zNewX10 (h h' : zMm) : Prop := (∀ a, a < 22 → h' a = h a) ∧ True

set_option maxRecDepth 100000 in
set_option maxHeartbeats 4000000 in
theorem iX10 {h : zMm} {K : zMm → Prop} (hK : ∀ h', zNewX10 h h' → K h') : zCC mX10_init [.ref 22] zc_22 h (zQv zc_26 K) := by
  show RR mX10_init 0 0 0 [some (.ref 22)] [] zc_22 h _
  refine r_aload_n (pc := 0) (a := 22) dX10_init_0 rfl ?_
  refine r_objInit (pc := 1) ml_X10_3 obj_i obj_c dX10_init_1 (by decide) (by decide) ?_
  refine r_aload_n (pc := 4) (a := 22) dX10_init_4 rfl ?_
  refine r_bipush (pc := 5) (x := 36) dX10_init_5 (by decide) ?_
  refine q_newa_int (pc := 7) (x := 36) (N := 36) ac_int dX10_init_7 rfl (by decide) (S' := zc_23) rfl (a := 23) (by decide +kernel) (by decide) (by decide) (by decide) ?_
  refine q_putR (pc := 9) (o := 22) (b := 23) (ci := 10) (f := 0) (N := 16) (rf := [none, none, none, none, none, none, none, none, none, none, none, none, none, none, none, none]) fl_X10_9 (Or.inr ⟨_, rfl⟩) ⟨_, _, _, rfl, rfl⟩ rfl dX10_init_9 (by decide +kernel) (Nat.le_of_ble_eq_true rfl) (S' := zc_24) rfl ?_
  refine r_aload_n (pc := 12) (a := 22) dX10_init_12 rfl ?_
  refine r_bipush (pc := 13) (x := 36) dX10_init_13 (by decide) ?_
  refine q_newa_int (pc := 15) (x := 36) (N := 36) ac_int dX10_init_15 rfl (by decide) (S' := zc_25) rfl (a := 24) (by decide +kernel) (by decide) (by decide) (by decide) ?_
  refine q_putR (pc := 17) (o := 22) (b := 24) (ci := 10) (f := 1) (N := 16) (rf := [some 23, none, none, none, none, none, none, none, none, none, none, none, none, none, none, none]) fl_X10_15 (Or.inr ⟨_, rfl⟩) ⟨_, _, _, rfl, rfl⟩ rfl dX10_init_17 (by decide +kernel) (Nat.le_of_ble_eq_true rfl) (S' := zc_26) rfl ?_
  refine r_ret (st := []) (pc := 20) dX10_init_20 rfl rfl (by decide) ⟨rfl, rfl, ?_⟩
  refine hK _ ⟨fun a ha => ?_, trivial⟩
  rw [zN_off a (by omega), zN_off a (by omega)]
def zc_27 : zSh := zc_26.set 0 (11, 16, [some 1, some 3, some 10, some 16, some 19, some 22, none, none, none, none, none, none, none, none, none, none])
def zc_28 : zSh := zc_27 ++ [(1, 8, List.replicate 8 none)]
def zc_29 : zSh := zc_27 ++ [(1, 8, List.replicate 8 none)]
def zc_30 : zSh := zc_29 ++ [(20, 121, [])]
def zc_31 : zSh := zc_30.set 25 (1, 8, [some 26, none, none, none, none, none, none, none])
def zc_32 : zSh := zc_31 ++ [(20, 36, [])]
def zc_33 : zSh := zc_32.set 25 (1, 8, [some 26, some 27, none, none, none, none, none, none])
abbrev mX1_init : zMi := (yX1_init, cX1_init, 1, none, { frames := 1, cells := 2, slots := 157, locals := 20 }, none)
set_option maxRecDepth 100000 in
theorem wX1_code : lw_tbl[306]? = some (Cond.code yX1_init cX1_init 1 none) := rfl
theorem okX1_init : zOK mX1_init 0 := ⟨by decide +kernel, zmem 306 wX1_code rfl, zmem 69 (by decide +kernel) rfl, ⟨by decide +kernel, by decide +kernel, by decide +kernel⟩, rfl⟩
def zNewX1 (h h' : zMm) : Prop := (∀ a, a < 25 → h' a = h a) ∧ True

set_option maxRecDepth 100000 in
set_option maxHeartbeats 4000000 in
theorem iX1 {h : zMm} {K : zMm → Prop} (hK : ∀ h', zNewX1 h h' → K h') : zCC mX1_init [.ref 25] zc_29 h (zQv zc_33 K) := by
  show RR mX1_init 0 0 0 [some (.ref 25)] [] zc_29 h _
  refine r_aload_n (pc := 0) (a := 25) dX1_init_0 rfl ?_
  refine r_objInit (pc := 1) ml_X1_3 obj_i obj_c dX1_init_1 (by decide) (by decide) ?_
  refine r_aload_n (pc := 4) (a := 25) dX1_init_4 rfl ?_
  refine r_bipush (pc := 5) (x := 121) dX1_init_5 (by decide) ?_
  refine q_newa_int (pc := 7) (x := 121) (N := 121) ac_int dX1_init_7 rfl (by decide) (S' := zc_30) rfl (a := 26) (by decide +kernel) (by decide) (by decide) (by decide) ?_
  refine q_putR (pc := 9) (o := 25) (b := 26) (ci := 1) (f := 0) (N := 8) (rf := [none, none, none, none, none, none, none, none]) fl_X1_9 (Or.inr ⟨_, rfl⟩) ⟨_, _, _, rfl, rfl⟩ rfl dX1_init_9 (by decide +kernel) (Nat.le_of_ble_eq_true rfl) (S' := zc_31) rfl ?_
  refine r_aload_n (pc := 12) (a := 25) dX1_init_12 rfl ?_
  refine r_bipush (pc := 13) (x := 36) dX1_init_13 (by decide) ?_
  refine q_newa_int (pc := 15) (x := 36) (N := 36) ac_int dX1_init_15 rfl (by decide) (S' := zc_32) rfl (a := 27) (by decide +kernel) (by decide) (by decide) (by decide) ?_
  refine q_putR (pc := 17) (o := 25) (b := 27) (ci := 1) (f := 1) (N := 8) (rf := [some 26, none, none, none, none, none, none, none]) fl_X1_15 (Or.inr ⟨_, rfl⟩) ⟨_, _, _, rfl, rfl⟩ rfl dX1_init_17 (by decide +kernel) (Nat.le_of_ble_eq_true rfl) (S' := zc_33) rfl ?_
  refine r_ret (st := []) (pc := 20) dX1_init_20 rfl rfl (by decide) ⟨rfl, rfl, ?_⟩
  refine hK _ ⟨fun a ha => ?_, trivial⟩
  rw [zN_off a (by omega), zN_off a (by omega)]
def zc_34 : zSh := zc_33.set 0 (11, 16, [some 1, some 3, some 10, some 16, some 19, some 22, some 25, none, none, none, none, none, none, none, none, none])
def zc_35 : zSh := zc_34 ++ [(2, 2, List.replicate 2 none)]
def zc_36 : zSh := zc_34 ++ [(2, 2, List.replicate 2 none)]
def zc_37 : zSh := zc_36 ++ [(20, 36, [])]
def zc_38 : zSh := zc_37.set 28 (2, 2, [some 29, none])
def zc_39 : zSh := zc_38 ++ [(20, 36, [])]
def zc_40 : zSh := zc_39.set 28 (2, 2, [some 29, some 30])
abbrev mX2_init : zMi := (yX2_init, cX2_init, 1, none, { frames := 1, cells := 2, slots := 72, locals := 20 }, none)
set_option maxRecDepth 100000 in
theorem wX2_code : lw_tbl[343]? = some (Cond.code yX2_init cX2_init 1 none) := rfl
theorem okX2_init : zOK mX2_init 0 := ⟨by decide +kernel, zmem 343 wX2_code rfl, zmem 70 (by decide +kernel) rfl, ⟨by decide +kernel, by decide +kernel, by decide +kernel⟩, rfl⟩
def zNewX2 (h h' : zMm) : Prop := (∀ a, a < 28 → h' a = h a) ∧ True

set_option maxRecDepth 100000 in
set_option maxHeartbeats 4000000 in
theorem iX2 {h : zMm} {K : zMm → Prop} (hK : ∀ h', zNewX2 h h' → K h') : zCC mX2_init [.ref 28] zc_36 h (zQv zc_40 K) := by
  show RR mX2_init 0 0 0 [some (.ref 28)] [] zc_36 h _
  refine r_aload_n (pc := 0) (a := 28) dX2_init_0 rfl ?_
  refine r_objInit (pc := 1) ml_X2_3 obj_i obj_c dX2_init_1 (by decide) (by decide) ?_
  refine r_aload_n (pc := 4) (a := 28) dX2_init_4 rfl ?_
  refine r_bipush (pc := 5) (x := 36) dX2_init_5 (by decide) ?_
  refine q_newa_int (pc := 7) (x := 36) (N := 36) ac_int dX2_init_7 rfl (by decide) (S' := zc_37) rfl (a := 29) (by decide +kernel) (by decide) (by decide) (by decide) ?_
  refine q_putR (pc := 9) (o := 28) (b := 29) (ci := 2) (f := 0) (N := 2) (rf := [none, none]) fl_X2_9 (Or.inr ⟨_, rfl⟩) ⟨_, _, _, rfl, rfl⟩ rfl dX2_init_9 (by decide +kernel) (Nat.le_of_ble_eq_true rfl) (S' := zc_38) rfl ?_
  refine r_aload_n (pc := 12) (a := 28) dX2_init_12 rfl ?_
  refine r_bipush (pc := 13) (x := 36) dX2_init_13 (by decide) ?_
  refine q_newa_int (pc := 15) (x := 36) (N := 36) ac_int dX2_init_15 rfl (by decide) (S' := zc_39) rfl (a := 30) (by decide +kernel) (by decide) (by decide) (by decide) ?_
  refine q_putR (pc := 17) (o := 28) (b := 30) (ci := 2) (f := 1) (N := 2) (rf := [some 29, none]) fl_X2_15 (Or.inr ⟨_, rfl⟩) ⟨_, _, _, rfl, rfl⟩ rfl dX2_init_17 (by decide +kernel) (Nat.le_of_ble_eq_true rfl) (S' := zc_40) rfl ?_
  refine r_ret (st := []) (pc := 20) dX2_init_20 rfl rfl (by decide) ⟨rfl, rfl, ?_⟩
  refine hK _ ⟨fun a ha => ?_, trivial⟩
  rw [zN_off a (by omega), zN_off a (by omega)]
def zc_41 : zSh := zc_40.set 0 (11, 16, [some 1, some 3, some 10, some 16, some 19, some 22, some 25, some 28, none, none, none, none, none, none, none, none])
def zc_42 : zSh := zc_41 ++ [(4, 20, List.replicate 20 none)]
def zc_43 : zSh := zc_41 ++ [(4, 20, List.replicate 20 none)]
def zc_44 : zSh := zc_43 ++ [(3, 5, List.replicate 5 none)]
def zc_45 : zSh := zc_43 ++ [(3, 5, [some 33, some 34, some 35, some 36, some 37]), (20, 36, []), (20, 36, []), (20, 36, []), (20, 36, []), (20, 8, [])]
def zc_46 : zSh := zc_45.set 31 (4, 20, [some 32, none, none, none, none, none, none, none, none, none, none, none, none, none, none, none, none, none, none, none])
def zc_47 : zSh := zc_46 ++ [(20, 144, [])]
def zc_48 : zSh := zc_47.set 31 (4, 20, [some 32, some 38, none, none, none, none, none, none, none, none, none, none, none, none, none, none, none, none, none, none])
def zc_49 : zSh := zc_48 ++ [(20, 144, [])]
def zc_50 : zSh := zc_49.set 31 (4, 20, [some 32, some 38, some 39, none, none, none, none, none, none, none, none, none, none, none, none, none, none, none, none, none])
def zc_51 : zSh := zc_50 ++ [(20, 36, [])]
def zc_52 : zSh := zc_51.set 31 (4, 20, [some 32, some 38, some 39, some 40, none, none, none, none, none, none, none, none, none, none, none, none, none, none, none, none])
def zc_53 : zSh := zc_52 ++ [(20, 7, [])]
def zc_54 : zSh := zc_53.set 31 (4, 20, [some 32, some 38, some 39, some 40, some 41, none, none, none, none, none, none, none, none, none, none, none, none, none, none, none])
def zc_55 : zSh := zc_54 ++ [(20, 4032, [])]
def zc_56 : zSh := zc_55.set 31 (4, 20, [some 32, some 38, some 39, some 40, some 41, some 42, none, none, none, none, none, none, none, none, none, none, none, none, none, none])
def zc_57 : zSh := zc_56 ++ [(20, 3584, [])]
def zc_58 : zSh := zc_57.set 31 (4, 20, [some 32, some 38, some 39, some 40, some 41, some 42, some 43, none, none, none, none, none, none, none, none, none, none, none, none, none])
def zc_59 : zSh := zc_58 ++ [(20, 144, [])]
def zc_60 : zSh := zc_59.set 31 (4, 20, [some 32, some 38, some 39, some 40, some 41, some 42, some 43, some 44, none, none, none, none, none, none, none, none, none, none, none, none])
def zc_61 : zSh := zc_60 ++ [(23, 144, [])]
def zc_62 : zSh := zc_61.set 31 (4, 20, [some 32, some 38, some 39, some 40, some 41, some 42, some 43, some 44, some 45, none, none, none, none, none, none, none, none, none, none, none])
def zc_63 : zSh := zc_62 ++ [(20, 252, [])]
def zc_64 : zSh := zc_63.set 31 (4, 20, [some 32, some 38, some 39, some 40, some 41, some 42, some 43, some 44, some 45, some 46, none, none, none, none, none, none, none, none, none, none])
abbrev mX4_init : zMi := (yX4_init, cX4_init, 1, none, { frames := 5, cells := 15, slots := 8644, locals := 102 }, none)
set_option maxRecDepth 100000 in
theorem wX4_code : lw_tbl[357]? = some (Cond.code yX4_init cX4_init 1 none) := rfl
theorem okX4_init : zOK mX4_init 0 := ⟨by decide +kernel, zmem 357 wX4_code rfl, zmem 71 (by decide +kernel) rfl, ⟨by decide +kernel, by decide +kernel, by decide +kernel⟩, rfl⟩
def zNewX4 (h h' : zMm) : Prop := (∀ a, a < 31 → h' a = h a) ∧ h' 31 13 = 0 ∧ h' 31 14 = 0 ∧ ∀ i : Int, h' 45 i = 0

set_option maxRecDepth 100000 in
set_option maxHeartbeats 4000000 in
theorem iX4 {h : zMm} {K : zMm → Prop} (hK : ∀ h', zNewX4 h h' → K h') : zCC mX4_init [.ref 31] zc_43 h (zQv zc_64 K) := by
  show RR mX4_init 0 0 0 [some (.ref 31)] [] zc_43 h _
  refine r_aload_n (pc := 0) (a := 31) dX4_init_0 rfl ?_
  refine r_objInit (pc := 1) ml_X4_3 obj_i obj_c dX4_init_1 (by decide) (by decide) ?_
  refine r_aload_n (pc := 4) (a := 31) dX4_init_4 rfl ?_
  refine q_new (pc := 5) (ci := 3) (N := 5) (C := "LawnTrees$Garden") rfl zCl3_in tyX3 tyX3_ok dfX3 cl_X4_9 in_X3 it_X3 dX4_init_5 (S' := zc_44) rfl (a := 32) (by decide +kernel) (by decide) (by decide) (by decide) ?_
  refine r_dup (pc := 8) rfl dX4_init_8 ?_
  refine r_callI (μ2 := mX3_init) (pc := 9) (o := 32) (as := []) (st := [.ref 32, .ref 31]) ml_X4_11 im_X3_init rfl rfl okX3_init ⟨by decide, by decide⟩ dX4_init_9 (Nat.le_of_ble_eq_true rfl) rfl (Nat.le_of_ble_eq_true rfl) (by decide) (by decide) (zCC.mono (iX3 (P := zc_43) (o := 32) (by decide +kernel) (by decide) (K := zNewX3 32 (zN h 32)) (fun _ z => z)) ?_)
  rintro r S' h1 ⟨rfl, hr, w1⟩
  subst hr
  show RR mX4_init 6 157 12 [some (.ref 31)] [.ref 32, .ref 31] zc_45 h1 _
  refine q_putR (pc := 12) (o := 31) (b := 32) (ci := 4) (f := 0) (N := 20) (rf := [none, none, none, none, none, none, none, none, none, none, none, none, none, none, none, none, none, none, none, none]) fl_X4_12 (Or.inl ⟨_, rfl⟩) ⟨_, _, _, rfl, rfl⟩ rfl dX4_init_12 (by decide +kernel) (Nat.le_of_ble_eq_true rfl) (S' := zc_46) rfl ?_
  refine r_aload_n (pc := 15) (a := 31) dX4_init_15 rfl ?_
  refine r_sipush (pc := 16) (x := 144) dX4_init_16 (by decide) ?_
  refine q_newa_int (pc := 19) (x := 144) (N := 144) ac_int dX4_init_19 rfl (by decide) (S' := zc_47) rfl (a := 38) (by decide +kernel) (by decide) (by decide) (by decide) ?_
  refine q_putR (pc := 21) (o := 31) (b := 38) (ci := 4) (f := 1) (N := 20) (rf := [some 32, none, none, none, none, none, none, none, none, none, none, none, none, none, none, none, none, none, none, none]) fl_X4_18 (Or.inr ⟨_, rfl⟩) ⟨_, _, _, rfl, rfl⟩ rfl dX4_init_21 (by decide +kernel) (Nat.le_of_ble_eq_true rfl) (S' := zc_48) rfl ?_
  refine r_aload_n (pc := 24) (a := 31) dX4_init_24 rfl ?_
  refine r_sipush (pc := 25) (x := 144) dX4_init_25 (by decide) ?_
  refine q_newa_int (pc := 28) (x := 144) (N := 144) ac_int dX4_init_28 rfl (by decide) (S' := zc_49) rfl (a := 39) (by decide +kernel) (by decide) (by decide) (by decide) ?_
  refine q_putR (pc := 30) (o := 31) (b := 39) (ci := 4) (f := 2) (N := 20) (rf := [some 32, some 38, none, none, none, none, none, none, none, none, none, none, none, none, none, none, none, none, none, none]) fl_X4_22 (Or.inr ⟨_, rfl⟩) ⟨_, _, _, rfl, rfl⟩ rfl dX4_init_30 (by decide +kernel) (Nat.le_of_ble_eq_true rfl) (S' := zc_50) rfl ?_
  refine r_aload_n (pc := 33) (a := 31) dX4_init_33 rfl ?_
  refine r_bipush (pc := 34) (x := 36) dX4_init_34 (by decide) ?_
  refine q_newa_int (pc := 36) (x := 36) (N := 36) ac_int dX4_init_36 rfl (by decide) (S' := zc_51) rfl (a := 40) (by decide +kernel) (by decide) (by decide) (by decide) ?_
  refine q_putR (pc := 38) (o := 31) (b := 40) (ci := 4) (f := 3) (N := 20) (rf := [some 32, some 38, some 39, none, none, none, none, none, none, none, none, none, none, none, none, none, none, none, none, none]) fl_X4_25 (Or.inr ⟨_, rfl⟩) ⟨_, _, _, rfl, rfl⟩ rfl dX4_init_38 (by decide +kernel) (Nat.le_of_ble_eq_true rfl) (S' := zc_52) rfl ?_
  refine r_aload_n (pc := 41) (a := 31) dX4_init_41 rfl ?_
  refine r_bipush (pc := 42) (x := 7) dX4_init_42 (by decide) ?_
  refine q_newa_int (pc := 44) (x := 7) (N := 7) ac_int dX4_init_44 rfl (by decide) (S' := zc_53) rfl (a := 41) (by decide +kernel) (by decide) (by decide) (by decide) ?_
  refine q_putR (pc := 46) (o := 31) (b := 41) (ci := 4) (f := 4) (N := 20) (rf := [some 32, some 38, some 39, some 40, none, none, none, none, none, none, none, none, none, none, none, none, none, none, none, none]) fl_X4_28 (Or.inr ⟨_, rfl⟩) ⟨_, _, _, rfl, rfl⟩ rfl dX4_init_46 (by decide +kernel) (Nat.le_of_ble_eq_true rfl) (S' := zc_54) rfl ?_
  refine r_aload_n (pc := 49) (a := 31) dX4_init_49 rfl ?_
  refine r_sipush (pc := 50) (x := 4032) dX4_init_50 (by decide) ?_
  refine q_newa_int (pc := 53) (x := 4032) (N := 4032) ac_int dX4_init_53 rfl (by decide) (S' := zc_55) rfl (a := 42) (by decide +kernel) (by decide) (by decide) (by decide) ?_
  refine q_putR (pc := 55) (o := 31) (b := 42) (ci := 4) (f := 5) (N := 20) (rf := [some 32, some 38, some 39, some 40, some 41, none, none, none, none, none, none, none, none, none, none, none, none, none, none, none]) fl_X4_31 (Or.inr ⟨_, rfl⟩) ⟨_, _, _, rfl, rfl⟩ rfl dX4_init_55 (by decide +kernel) (Nat.le_of_ble_eq_true rfl) (S' := zc_56) rfl ?_
  refine r_aload_n (pc := 58) (a := 31) dX4_init_58 rfl ?_
  refine r_sipush (pc := 59) (x := 3584) dX4_init_59 (by decide) ?_
  refine q_newa_int (pc := 62) (x := 3584) (N := 3584) ac_int dX4_init_62 rfl (by decide) (S' := zc_57) rfl (a := 43) (by decide +kernel) (by decide) (by decide) (by decide) ?_
  refine q_putR (pc := 64) (o := 31) (b := 43) (ci := 4) (f := 6) (N := 20) (rf := [some 32, some 38, some 39, some 40, some 41, some 42, none, none, none, none, none, none, none, none, none, none, none, none, none, none]) fl_X4_34 (Or.inr ⟨_, rfl⟩) ⟨_, _, _, rfl, rfl⟩ rfl dX4_init_64 (by decide +kernel) (Nat.le_of_ble_eq_true rfl) (S' := zc_58) rfl ?_
  refine r_aload_n (pc := 67) (a := 31) dX4_init_67 rfl ?_
  refine r_sipush (pc := 68) (x := 144) dX4_init_68 (by decide) ?_
  refine q_newa_int (pc := 71) (x := 144) (N := 144) ac_int dX4_init_71 rfl (by decide) (S' := zc_59) rfl (a := 44) (by decide +kernel) (by decide) (by decide) (by decide) ?_
  refine q_putR (pc := 73) (o := 31) (b := 44) (ci := 4) (f := 7) (N := 20) (rf := [some 32, some 38, some 39, some 40, some 41, some 42, some 43, none, none, none, none, none, none, none, none, none, none, none, none, none]) fl_X4_37 (Or.inr ⟨_, rfl⟩) ⟨_, _, _, rfl, rfl⟩ rfl dX4_init_73 (by decide +kernel) (Nat.le_of_ble_eq_true rfl) (S' := zc_60) rfl ?_
  refine r_aload_n (pc := 76) (a := 31) dX4_init_76 rfl ?_
  refine r_sipush (pc := 77) (x := 144) dX4_init_77 (by decide) ?_
  refine q_newa_boolean (pc := 80) (x := 144) (N := 144) ac_boolean dX4_init_80 rfl (by decide) (S' := zc_61) rfl (a := 45) (by decide +kernel) (by decide) (by decide) (by decide) ?_
  refine q_putR (pc := 82) (o := 31) (b := 45) (ci := 4) (f := 8) (N := 20) (rf := [some 32, some 38, some 39, some 40, some 41, some 42, some 43, some 44, none, none, none, none, none, none, none, none, none, none, none, none]) fl_X4_40 (Or.inr ⟨_, rfl⟩) ⟨_, _, _, rfl, rfl⟩ rfl dX4_init_82 (by decide +kernel) (Nat.le_of_ble_eq_true rfl) (S' := zc_62) rfl ?_
  refine r_aload_n (pc := 85) (a := 31) dX4_init_85 rfl ?_
  refine r_sipush (pc := 86) (x := 252) dX4_init_86 (by decide) ?_
  refine q_newa_int (pc := 89) (x := 252) (N := 252) ac_int dX4_init_89 rfl (by decide) (S' := zc_63) rfl (a := 46) (by decide +kernel) (by decide) (by decide) (by decide) ?_
  refine q_putR (pc := 91) (o := 31) (b := 46) (ci := 4) (f := 9) (N := 20) (rf := [some 32, some 38, some 39, some 40, some 41, some 42, some 43, some 44, some 45, none, none, none, none, none, none, none, none, none, none, none]) fl_X4_44 (Or.inr ⟨_, rfl⟩) ⟨_, _, _, rfl, rfl⟩ rfl dX4_init_91 (by decide +kernel) (Nat.le_of_ble_eq_true rfl) (S' := zc_64) rfl ?_
  refine r_aload_n (pc := 94) (a := 31) dX4_init_94 rfl ?_
  refine r_iconst (pc := 95) dX4_init_95 ?_
  refine r_putZ (pc := 96) (ci := 4) (N := 20) (rf := [some 32, some 38, some 39, some 40, some 41, some 42, some 43, some 44, some 45, some 46, none, none, none, none, none, none, none, none, none, none]) (fi := 13) (x := 0) fl_X4_47 dX4_init_96 (by decide +kernel) rfl (by decide) ?_
  refine r_aload_n (pc := 99) (a := 31) dX4_init_99 rfl ?_
  refine r_iconst (pc := 100) dX4_init_100 ?_
  refine r_putZ (pc := 101) (ci := 4) (N := 20) (rf := [some 32, some 38, some 39, some 40, some 41, some 42, some 43, some 44, some 45, some 46, none, none, none, none, none, none, none, none, none, none]) (fi := 14) (x := 0) fl_X4_51 dX4_init_101 (by decide +kernel) rfl (by decide) ?_
  refine r_ret (st := []) (pc := 104) dX4_init_104 rfl rfl (by decide) ⟨rfl, rfl, ?_⟩
  refine hK _ ⟨fun a ha => ?_, rfl, rfl, fun i => ?_⟩
  · rw [zU_off a (by omega), zU_off a (by omega), zN_off a (by omega), zN_off a (by omega), zN_off a (by omega), zN_off a (by omega), zN_off a (by omega), zN_off a (by omega), zN_off a (by omega), zN_off a (by omega), zN_off a (by omega), w1.1 a (by omega), zN_off a (by omega)]
  · rw [zU_off 45 (by omega), zU_off 45 (by omega), zN_off 45 (by omega), zN_at]
def zc_65 : zSh := zc_64.set 0 (11, 16, [some 1, some 3, some 10, some 16, some 19, some 22, some 25, some 28, some 31, none, none, none, none, none, none, none])
def zc_66 : zSh := zc_65 ++ [(6, 5, List.replicate 5 none)]
def zc_67 : zSh := zc_65 ++ [(6, 5, List.replicate 5 none)]
abbrev mX6_init : zMi := (yX6_init, cX6_init, 1, none, { frames := 1, cells := 0, slots := 0, locals := 20 }, none)
set_option maxRecDepth 100000 in
theorem wX6_code : lw_tbl[432]? = some (Cond.code yX6_init cX6_init 1 none) := rfl
theorem okX6_init : zOK mX6_init 0 := ⟨by decide +kernel, zmem 432 wX6_code rfl, zmem 72 (by decide +kernel) rfl, ⟨by decide +kernel, by decide +kernel, by decide +kernel⟩, rfl⟩
def zNewX6 (h h' : zMm) : Prop := (∀ a, a < 47 → h' a = h a) ∧ True

set_option maxRecDepth 100000 in
set_option maxHeartbeats 4000000 in
theorem iX6 {h : zMm} {K : zMm → Prop} (hK : ∀ h', zNewX6 h h' → K h') : zCC mX6_init [.ref 47] zc_67 h (zQv zc_67 K) := by
  show RR mX6_init 0 0 0 [some (.ref 47)] [] zc_67 h _
  refine r_aload_n (pc := 0) (a := 47) dX6_init_0 rfl ?_
  refine r_objInit (pc := 1) ml_X6_3 obj_i obj_c dX6_init_1 (by decide) (by decide) ?_
  refine r_ret (st := []) (pc := 4) dX6_init_4 rfl rfl (by decide) ⟨rfl, rfl, ?_⟩
  exact hK _ ⟨fun a ha => rfl, trivial⟩
def zc_68 : zSh := zc_67.set 0 (11, 16, [some 1, some 3, some 10, some 16, some 19, some 22, some 25, some 28, some 31, some 47, none, none, none, none, none, none])
def zc_69 : zSh := zc_68 ++ [(0, 5, List.replicate 5 none)]
def zc_70 : zSh := zc_68 ++ [(0, 5, List.replicate 5 none)]
def zc_71 : zSh := zc_70 ++ [(21, 144, [])]
def zc_72 : zSh := zc_71.set 48 (0, 5, [some 49, none, none, none, none])
def zc_73 : zSh := zc_72 ++ [(21, 144, [])]
def zc_74 : zSh := zc_73.set 48 (0, 5, [some 49, some 50, none, none, none])
abbrev mX0_init : zMi := (yX0_init, cX0_init, 1, none, { frames := 1, cells := 2, slots := 288, locals := 20 }, none)
set_option maxRecDepth 100000 in
theorem wX0_code : lw_tbl[459]? = some (Cond.code yX0_init cX0_init 1 none) := rfl
theorem okX0_init : zOK mX0_init 0 := ⟨by decide +kernel, zmem 459 wX0_code rfl, zmem 73 (by decide +kernel) rfl, ⟨by decide +kernel, by decide +kernel, by decide +kernel⟩, rfl⟩
def zNewX0 (h h' : zMm) : Prop := (∀ a, a < 48 → h' a = h a) ∧ True

set_option maxRecDepth 100000 in
set_option maxHeartbeats 4000000 in
theorem iX0 {h : zMm} {K : zMm → Prop} (hK : ∀ h', zNewX0 h h' → K h') : zCC mX0_init [.ref 48] zc_70 h (zQv zc_74 K) := by
  show RR mX0_init 0 0 0 [some (.ref 48)] [] zc_70 h _
  refine r_aload_n (pc := 0) (a := 48) dX0_init_0 rfl ?_
  refine r_objInit (pc := 1) ml_X0_3 obj_i obj_c dX0_init_1 (by decide) (by decide) ?_
  refine r_aload_n (pc := 4) (a := 48) dX0_init_4 rfl ?_
  refine r_sipush (pc := 5) (x := 144) dX0_init_5 (by decide) ?_
  refine q_newa_long (pc := 8) (x := 144) (N := 144) ac_long dX0_init_8 rfl (by decide) (S' := zc_71) rfl (a := 49) (by decide +kernel) (by decide) (by decide) (by decide) ?_
  refine q_putR (pc := 10) (o := 48) (b := 49) (ci := 0) (f := 0) (N := 5) (rf := [none, none, none, none, none]) fl_X0_9 (Or.inr ⟨_, rfl⟩) ⟨_, _, _, rfl, rfl⟩ rfl dX0_init_10 (by decide +kernel) (Nat.le_of_ble_eq_true rfl) (S' := zc_72) rfl ?_
  refine r_aload_n (pc := 13) (a := 48) dX0_init_13 rfl ?_
  refine r_sipush (pc := 14) (x := 144) dX0_init_14 (by decide) ?_
  refine q_newa_long (pc := 17) (x := 144) (N := 144) ac_long dX0_init_17 rfl (by decide) (S' := zc_73) rfl (a := 50) (by decide +kernel) (by decide) (by decide) (by decide) ?_
  refine q_putR (pc := 19) (o := 48) (b := 50) (ci := 0) (f := 1) (N := 5) (rf := [some 49, none, none, none, none]) fl_X0_15 (Or.inr ⟨_, rfl⟩) ⟨_, _, _, rfl, rfl⟩ rfl dX0_init_19 (by decide +kernel) (Nat.le_of_ble_eq_true rfl) (S' := zc_74) rfl ?_
  refine r_ret (st := []) (pc := 22) dX0_init_22 rfl rfl (by decide) ⟨rfl, rfl, ?_⟩
  refine hK _ ⟨fun a ha => ?_, trivial⟩
  rw [zN_off a (by omega), zN_off a (by omega)]
def zc_75 : zSh := zc_74.set 0 (11, 16, [some 1, some 3, some 10, some 16, some 19, some 22, some 25, some 28, some 31, some 47, some 48, none, none, none, none, none])
def zc_76 : zSh := zc_75 ++ [(24, 2, List.replicate 2 none)]
def zc_77 : zSh := zc_76 ++ [(3, 5, List.replicate 5 none)]
def zc_78 : zSh := zc_76 ++ [(3, 5, [some 53, some 54, some 55, some 56, some 57]), (20, 36, []), (20, 36, []), (20, 36, []), (20, 36, []), (20, 8, [])]
def zc_79 : zSh := zc_78.set 51 (24, 2, [some 52, none])
def zc_80 : zSh := zc_79 ++ [(3, 5, List.replicate 5 none)]
def zc_81 : zSh := zc_79 ++ [(3, 5, [some 59, some 60, some 61, some 62, some 63]), (20, 36, []), (20, 36, []), (20, 36, []), (20, 36, []), (20, 8, [])]
def zc_82 : zSh := zc_81.set 51 (24, 2, [some 52, some 58])
def zc_83 : zSh := zc_82.set 0 (11, 16, [some 1, some 3, some 10, some 16, some 19, some 22, some 25, some 28, some 31, some 47, some 48, some 51, none, none, none, none])
def zc_84 : zSh := zc_83 ++ [(25, 2, List.replicate 2 none)]
def zc_85 : zSh := zc_84 ++ [(5, 3, List.replicate 3 none)]
def zc_86 : zSh := zc_84 ++ [(5, 3, [some 66, some 67, none]), (20, 24, []), (20, 24, [])]
def zc_87 : zSh := zc_86.set 64 (25, 2, [some 65, none])
def zc_88 : zSh := zc_87 ++ [(5, 3, List.replicate 3 none)]
def zc_89 : zSh := zc_87 ++ [(5, 3, [some 69, some 70, none]), (20, 24, []), (20, 24, [])]
def zc_90 : zSh := zc_89.set 64 (25, 2, [some 65, some 68])
def zc_91 : zSh := zc_90.set 0 (11, 16, [some 1, some 3, some 10, some 16, some 19, some 22, some 25, some 28, some 31, some 47, some 48, some 51, some 64, none, none, none])
def zc_92 : zSh := zc_91 ++ [(23, 2, [])]
def zc_93 : zSh := zc_92.set 0 (11, 16, [some 1, some 3, some 10, some 16, some 19, some 22, some 25, some 28, some 31, some 47, some 48, some 51, some 64, some 71, none, none])
def zc_94 : zSh := zc_93 ++ [(26, 4, List.replicate 4 none)]
def zc_95 : zSh := zc_94 ++ [(7, 3, List.replicate 3 none)]
def zc_96 : zSh := zc_94 ++ [(7, 3, [some 74, none, none]), (20, 48, [])]
def zc_97 : zSh := zc_96.set 72 (26, 4, [some 73, none, none, none])
def zc_98 : zSh := zc_97 ++ [(7, 3, List.replicate 3 none)]
def zc_99 : zSh := zc_97 ++ [(7, 3, [some 76, none, none]), (20, 48, [])]
def zc_100 : zSh := zc_99.set 72 (26, 4, [some 73, some 75, none, none])
def zc_101 : zSh := zc_100 ++ [(7, 3, List.replicate 3 none)]
def zc_102 : zSh := zc_100 ++ [(7, 3, [some 78, none, none]), (20, 48, [])]
def zc_103 : zSh := zc_102.set 72 (26, 4, [some 73, some 75, some 77, none])
def zc_104 : zSh := zc_103 ++ [(7, 3, List.replicate 3 none)]
def zc_105 : zSh := zc_103 ++ [(7, 3, [some 80, none, none]), (20, 48, [])]
def zc_106 : zSh := zc_105.set 72 (26, 4, [some 73, some 75, some 77, some 79])
def zc_107 : zSh := zc_106.set 0 (11, 16, [some 1, some 3, some 10, some 16, some 19, some 22, some 25, some 28, some 31, some 47, some 48, some 51, some 64, some 71, some 72, none])
abbrev mX11_init : zMi := (yX11_init, cX11_init, 1, none, { frames := 6, cells := 80, slots := 10668, locals := 122 }, none)
set_option maxRecDepth 100000 in
theorem wX11_code : lw_tbl[87]? = some (Cond.code yX11_init cX11_init 1 none) := rfl
theorem okX11_init : zOK mX11_init 0 := ⟨by decide +kernel, zmem 87 wX11_code rfl, zmem 61 (by decide +kernel) rfl, ⟨by decide +kernel, by decide +kernel, by decide +kernel⟩, rfl⟩
def zNewX11 (h' : zMm) : Prop := h' 0 15 = 0 ∧ h' 1 1 = 0 ∧ h' 3 1 = 0 ∧ ((∀ i : Int, 0 ≤ i → i < 36 → h' 11 i = 0 ∧ h' 12 i = 3 ∧ h' 13 i = 3 ∧ h' 14 i = -4) ∧ ∀ r : Int, 0 ≤ r → r ≤ 7 → h' 15 r = ([0, 1, 2, 30, 2, 20, 0, 3] : List Int).getD r.toNat 0) ∧ h' 16 2 = 0 ∧ (h' 31 13 = 0 ∧ h' 31 14 = 0 ∧ ∀ i : Int, h' 45 i = 0) ∧ (∀ i : Int, h' 71 i = 0) ∧ ∀ k : Nat, k < 4 → h' (73 + 2 * k) 1 = -1 ∧ h' (73 + 2 * k) 2 = 0 ∧ ∀ i : Int, h' (74 + 2 * k) i = 0

set_option maxRecDepth 100000 in
set_option maxHeartbeats 4000000 in
theorem iX11 {h : zMm} {K : zMm → Prop} (hK : ∀ h', zNewX11 h' → K h') : zCC mX11_init [.ref 0] zc_0 h (zQv zc_107 K) := by
  show RR mX11_init 0 0 0 [some (.ref 0)] [] zc_0 h _
  refine r_aload_n (pc := 0) (a := 0) dX11_init_0 rfl ?_
  refine r_objInit (pc := 1) ml_X11_3 obj_i obj_c dX11_init_1 (by decide) (by decide) ?_
  refine r_aload_n (pc := 4) (a := 0) dX11_init_4 rfl ?_
  refine q_new (pc := 5) (ci := 8) (N := 6) (C := "LawnTrees$Tape") rfl zCl8_in tyX8 tyX8_ok dfX8 cl_X11_9 in_X8 it_X8 dX11_init_5 (S' := zc_1) rfl (a := 1) (by decide +kernel) (by decide) (by decide) (by decide) ?_
  refine r_dup (pc := 8) rfl dX11_init_8 ?_
  refine r_callIN (μ2 := mX8_init) (pc := 9) (o := 1) (as := []) (st := [.ref 1, .ref 0]) mn_X11_11 im_X8_init rfl rfl okX8_init ⟨by decide, by decide⟩ dX11_init_9 (Nat.le_of_ble_eq_true rfl) rfl (Nat.le_of_ble_eq_true rfl) (by decide) (by decide) (zCC.mono (iX8 (h := (zN h 1)) (K := zNewX8 (zN h 1)) (fun _ z => z)) ?_)
  rintro r S' h1 ⟨rfl, hr, w1⟩
  subst hr
  show RR mX11_init 2 326 12 [some (.ref 0)] [.ref 1, .ref 0] zc_4 h1 _
  refine q_putR (pc := 12) (o := 0) (b := 1) (ci := 11) (f := 0) (N := 16) (rf := [none, none, none, none, none, none, none, none, none, none, none, none, none, none, none, none]) fl_X11_12 (Or.inl ⟨_, rfl⟩) ⟨_, _, _, rfl, rfl⟩ rfl dX11_init_12 (by decide +kernel) (Nat.le_of_ble_eq_true rfl) (S' := zc_5) rfl ?_
  refine r_aload_n (pc := 15) (a := 0) dX11_init_15 rfl ?_
  refine q_new (pc := 16) (ci := 9) (N := 7) (C := "LawnTrees$TextReader") rfl zCl9_in tyX9 tyX9_ok dfX9 cl_X11_16 in_X9 it_X9 dX11_init_16 (S' := zc_6) rfl (a := 3) (by decide +kernel) (by decide) (by decide) (by decide) ?_
  refine r_dup (pc := 19) rfl dX11_init_19 ?_
  refine r_callIN (μ2 := mX9_init) (pc := 20) (o := 3) (as := []) (st := [.ref 3, .ref 0]) mn_X11_18 im_X9_init rfl rfl okX9_init ⟨by decide, by decide⟩ dX11_init_20 (Nat.le_of_ble_eq_true rfl) rfl (Nat.le_of_ble_eq_true rfl) (by decide) (by decide) (zCC.mono (iX9 (h := (zN h1 3)) (K := zNewX9 (zN h1 3)) (fun _ z => z)) ?_)
  rintro r S' h2 ⟨rfl, hr, w2⟩
  subst hr
  show RR mX11_init 9 490 23 [some (.ref 0)] [.ref 3, .ref 0] zc_10 h2 _
  refine q_putR (pc := 23) (o := 0) (b := 3) (ci := 11) (f := 1) (N := 16) (rf := [some 1, none, none, none, none, none, none, none, none, none, none, none, none, none, none, none]) fl_X11_19 (Or.inl ⟨_, rfl⟩) ⟨_, _, _, rfl, rfl⟩ rfl dX11_init_23 (by decide +kernel) (Nat.le_of_ble_eq_true rfl) (S' := zc_11) rfl ?_
  refine r_aload_n (pc := 26) (a := 0) dX11_init_26 rfl ?_
  refine q_new (pc := 27) (ci := 3) (N := 5) (C := "LawnTrees$Garden") rfl zCl3_in tyX3 tyX3_ok dfX3 cl_X11_23 in_X3 it_X3 dX11_init_27 (S' := zc_12) rfl (a := 10) (by decide +kernel) (by decide) (by decide) (by decide) ?_
  refine r_dup (pc := 30) rfl dX11_init_30 ?_
  refine r_callI (μ2 := mX3_init) (pc := 31) (o := 10) (as := []) (st := [.ref 10, .ref 0]) ml_X11_25 im_X3_init rfl rfl okX3_init ⟨by decide, by decide⟩ dX11_init_31 (Nat.le_of_ble_eq_true rfl) rfl (Nat.le_of_ble_eq_true rfl) (by decide) (by decide) (zCC.mono (iX3 (P := zc_11) (o := 10) (by decide +kernel) (by decide) (K := zNewX3 10 (zN h2 10)) (fun _ z => z)) ?_)
  rintro r S' h3 ⟨rfl, hr, w3⟩
  subst hr
  show RR mX11_init 15 647 34 [some (.ref 0)] [.ref 10, .ref 0] zc_13 h3 _
  refine q_putR (pc := 34) (o := 0) (b := 10) (ci := 11) (f := 2) (N := 16) (rf := [some 1, some 3, none, none, none, none, none, none, none, none, none, none, none, none, none, none]) fl_X11_26 (Or.inl ⟨_, rfl⟩) ⟨_, _, _, rfl, rfl⟩ rfl dX11_init_34 (by decide +kernel) (Nat.le_of_ble_eq_true rfl) (S' := zc_14) rfl ?_
  refine r_aload_n (pc := 37) (a := 0) dX11_init_37 rfl ?_
  refine q_new (pc := 38) (ci := 5) (N := 3) (C := "LawnTrees$Moves") rfl zCl5_in tyX5 tyX5_ok dfX5 cl_X11_30 in_X5 it_X5 dX11_init_38 (S' := zc_15) rfl (a := 16) (by decide +kernel) (by decide) (by decide) (by decide) ?_
  refine r_dup (pc := 41) rfl dX11_init_41 ?_
  refine r_callIN (μ2 := mX5_init) (pc := 42) (o := 16) (as := []) (st := [.ref 16, .ref 0]) mn_X11_32 im_X5_init rfl rfl okX5_init ⟨by decide, by decide⟩ dX11_init_42 (Nat.le_of_ble_eq_true rfl) rfl (Nat.le_of_ble_eq_true rfl) (by decide) (by decide) (zCC.mono (iX5 (P := zc_14) (o := 16) (by decide +kernel) (by decide) (K := zNewX5 16 (zN h3 16)) (fun _ z => z)) ?_)
  rintro r S' h4 ⟨rfl, hr, w4⟩
  subst hr
  show RR mX11_init 18 698 45 [some (.ref 0)] [.ref 16, .ref 0] zc_16 h4 _
  refine q_putR (pc := 45) (o := 0) (b := 16) (ci := 11) (f := 3) (N := 16) (rf := [some 1, some 3, some 10, none, none, none, none, none, none, none, none, none, none, none, none, none]) fl_X11_33 (Or.inl ⟨_, rfl⟩) ⟨_, _, _, rfl, rfl⟩ rfl dX11_init_45 (by decide +kernel) (Nat.le_of_ble_eq_true rfl) (S' := zc_17) rfl ?_
  refine r_aload_n (pc := 48) (a := 0) dX11_init_48 rfl ?_
  refine q_new (pc := 49) (ci := 5) (N := 3) (C := "LawnTrees$Moves") rfl zCl5_in tyX5 tyX5_ok dfX5 cl_X11_30 in_X5 it_X5 dX11_init_49 (S' := zc_18) rfl (a := 19) (by decide +kernel) (by decide) (by decide) (by decide) ?_
  refine r_dup (pc := 52) rfl dX11_init_52 ?_
  refine r_callIN (μ2 := mX5_init) (pc := 53) (o := 19) (as := []) (st := [.ref 19, .ref 0]) mn_X11_32 im_X5_init rfl rfl okX5_init ⟨by decide, by decide⟩ dX11_init_53 (Nat.le_of_ble_eq_true rfl) rfl (Nat.le_of_ble_eq_true rfl) (by decide) (by decide) (zCC.mono (iX5 (P := zc_17) (o := 19) (by decide +kernel) (by decide) (K := zNewX5 19 (zN h4 19)) (fun _ z => z)) ?_)
  rintro r S' h5 ⟨rfl, hr, w5⟩
  subst hr
  show RR mX11_init 21 749 56 [some (.ref 0)] [.ref 19, .ref 0] zc_19 h5 _
  refine q_putR (pc := 56) (o := 0) (b := 19) (ci := 11) (f := 4) (N := 16) (rf := [some 1, some 3, some 10, some 16, none, none, none, none, none, none, none, none, none, none, none, none]) fl_X11_37 (Or.inl ⟨_, rfl⟩) ⟨_, _, _, rfl, rfl⟩ rfl dX11_init_56 (by decide +kernel) (Nat.le_of_ble_eq_true rfl) (S' := zc_20) rfl ?_
  refine r_aload_n (pc := 59) (a := 0) dX11_init_59 rfl ?_
  refine q_new (pc := 60) (ci := 10) (N := 16) (C := "LawnTrees$Walk") rfl zCl10_in tyX10 tyX10_ok dfX10 cl_X11_40 in_X10 it_X10 dX11_init_60 (S' := zc_21) rfl (a := 22) (by decide +kernel) (by decide) (by decide) (by decide) ?_
  refine r_dup (pc := 63) rfl dX11_init_63 ?_
  refine r_callIN (μ2 := mX10_init) (pc := 64) (o := 22) (as := []) (st := [.ref 22, .ref 0]) mn_X11_42 im_X10_init rfl rfl okX10_init ⟨by decide, by decide⟩ dX11_init_64 (Nat.le_of_ble_eq_true rfl) rfl (Nat.le_of_ble_eq_true rfl) (by decide) (by decide) (zCC.mono (iX10 (h := (zN h5 22)) (K := zNewX10 (zN h5 22)) (fun _ z => z)) ?_)
  rintro r S' h6 ⟨rfl, hr, w6⟩
  subst hr
  show RR mX11_init 24 837 67 [some (.ref 0)] [.ref 22, .ref 0] zc_26 h6 _
  refine q_putR (pc := 67) (o := 0) (b := 22) (ci := 11) (f := 5) (N := 16) (rf := [some 1, some 3, some 10, some 16, some 19, none, none, none, none, none, none, none, none, none, none, none]) fl_X11_43 (Or.inl ⟨_, rfl⟩) ⟨_, _, _, rfl, rfl⟩ rfl dX11_init_67 (by decide +kernel) (Nat.le_of_ble_eq_true rfl) (S' := zc_27) rfl ?_
  refine r_aload_n (pc := 70) (a := 0) dX11_init_70 rfl ?_
  refine q_new (pc := 71) (ci := 1) (N := 8) (C := "LawnTrees$Cord") rfl zCl1_in tyX1 tyX1_ok dfX1 cl_X11_47 in_X1 it_X1 dX11_init_71 (S' := zc_28) rfl (a := 25) (by decide +kernel) (by decide) (by decide) (by decide) ?_
  refine r_dup (pc := 74) rfl dX11_init_74 ?_
  refine r_callIN (μ2 := mX1_init) (pc := 75) (o := 25) (as := []) (st := [.ref 25, .ref 0]) mn_X11_49 im_X1_init rfl rfl okX1_init ⟨by decide, by decide⟩ dX11_init_75 (Nat.le_of_ble_eq_true rfl) rfl (Nat.le_of_ble_eq_true rfl) (by decide) (by decide) (zCC.mono (iX1 (h := (zN h6 25)) (K := zNewX1 (zN h6 25)) (fun _ z => z)) ?_)
  rintro r S' h7 ⟨rfl, hr, w7⟩
  subst hr
  show RR mX11_init 27 1002 78 [some (.ref 0)] [.ref 25, .ref 0] zc_33 h7 _
  refine q_putR (pc := 78) (o := 0) (b := 25) (ci := 11) (f := 6) (N := 16) (rf := [some 1, some 3, some 10, some 16, some 19, some 22, none, none, none, none, none, none, none, none, none, none]) fl_X11_50 (Or.inl ⟨_, rfl⟩) ⟨_, _, _, rfl, rfl⟩ rfl dX11_init_78 (by decide +kernel) (Nat.le_of_ble_eq_true rfl) (S' := zc_34) rfl ?_
  refine r_aload_n (pc := 81) (a := 0) dX11_init_81 rfl ?_
  refine q_new (pc := 82) (ci := 2) (N := 2) (C := "LawnTrees$Distances") rfl zCl2_in tyX2 tyX2_ok dfX2 cl_X11_54 in_X2 it_X2 dX11_init_82 (S' := zc_35) rfl (a := 28) (by decide +kernel) (by decide) (by decide) (by decide) ?_
  refine r_dup (pc := 85) rfl dX11_init_85 ?_
  refine r_callIN (μ2 := mX2_init) (pc := 86) (o := 28) (as := []) (st := [.ref 28, .ref 0]) mn_X11_56 im_X2_init rfl rfl okX2_init ⟨by decide, by decide⟩ dX11_init_86 (Nat.le_of_ble_eq_true rfl) rfl (Nat.le_of_ble_eq_true rfl) (by decide) (by decide) (zCC.mono (iX2 (h := (zN h7 28)) (K := zNewX2 (zN h7 28)) (fun _ z => z)) ?_)
  rintro r S' h8 ⟨rfl, hr, w8⟩
  subst hr
  show RR mX11_init 30 1076 89 [some (.ref 0)] [.ref 28, .ref 0] zc_40 h8 _
  refine q_putR (pc := 89) (o := 0) (b := 28) (ci := 11) (f := 7) (N := 16) (rf := [some 1, some 3, some 10, some 16, some 19, some 22, some 25, none, none, none, none, none, none, none, none, none]) fl_X11_57 (Or.inl ⟨_, rfl⟩) ⟨_, _, _, rfl, rfl⟩ rfl dX11_init_89 (by decide +kernel) (Nat.le_of_ble_eq_true rfl) (S' := zc_41) rfl ?_
  refine r_aload_n (pc := 92) (a := 0) dX11_init_92 rfl ?_
  refine q_new (pc := 93) (ci := 4) (N := 20) (C := "LawnTrees$LeastWay") rfl zCl4_in tyX4 tyX4_ok dfX4 cl_X11_61 in_X4 it_X4 dX11_init_93 (S' := zc_42) rfl (a := 31) (by decide +kernel) (by decide) (by decide) (by decide) ?_
  refine r_dup (pc := 96) rfl dX11_init_96 ?_
  refine r_callIN (μ2 := mX4_init) (pc := 97) (o := 31) (as := []) (st := [.ref 31, .ref 0]) mn_X11_63 im_X4_init rfl rfl okX4_init ⟨by decide, by decide⟩ dX11_init_97 (Nat.le_of_ble_eq_true rfl) rfl (Nat.le_of_ble_eq_true rfl) (by decide) (by decide) (zCC.mono (iX4 (h := (zN h8 31)) (K := zNewX4 (zN h8 31)) (fun _ z => z)) ?_)
  rintro r S' h9 ⟨rfl, hr, w9⟩
  subst hr
  show RR mX11_init 46 9740 100 [some (.ref 0)] [.ref 31, .ref 0] zc_64 h9 _
  refine q_putR (pc := 100) (o := 0) (b := 31) (ci := 11) (f := 8) (N := 16) (rf := [some 1, some 3, some 10, some 16, some 19, some 22, some 25, some 28, none, none, none, none, none, none, none, none]) fl_X11_64 (Or.inl ⟨_, rfl⟩) ⟨_, _, _, rfl, rfl⟩ rfl dX11_init_100 (by decide +kernel) (Nat.le_of_ble_eq_true rfl) (S' := zc_65) rfl ?_
  refine r_aload_n (pc := 103) (a := 0) dX11_init_103 rfl ?_
  refine q_new (pc := 104) (ci := 6) (N := 5) (C := "LawnTrees$Robot") rfl zCl6_in tyX6 tyX6_ok dfX6 cl_X11_68 in_X6 it_X6 dX11_init_104 (S' := zc_66) rfl (a := 47) (by decide +kernel) (by decide) (by decide) (by decide) ?_
  refine r_dup (pc := 107) rfl dX11_init_107 ?_
  refine r_callIN (μ2 := mX6_init) (pc := 108) (o := 47) (as := []) (st := [.ref 47, .ref 0]) mn_X11_70 im_X6_init rfl rfl okX6_init ⟨by decide, by decide⟩ dX11_init_108 (Nat.le_of_ble_eq_true rfl) rfl (Nat.le_of_ble_eq_true rfl) (by decide) (by decide) (zCC.mono (iX6 (h := (zN h9 47)) (K := zNewX6 (zN h9 47)) (fun _ z => z)) ?_)
  rintro r S' h10 ⟨rfl, hr, w10⟩
  subst hr
  show RR mX11_init 47 9745 111 [some (.ref 0)] [.ref 47, .ref 0] zc_67 h10 _
  refine q_putR (pc := 111) (o := 0) (b := 47) (ci := 11) (f := 9) (N := 16) (rf := [some 1, some 3, some 10, some 16, some 19, some 22, some 25, some 28, some 31, none, none, none, none, none, none, none]) fl_X11_71 (Or.inl ⟨_, rfl⟩) ⟨_, _, _, rfl, rfl⟩ rfl dX11_init_111 (by decide +kernel) (Nat.le_of_ble_eq_true rfl) (S' := zc_68) rfl ?_
  refine r_aload_n (pc := 114) (a := 0) dX11_init_114 rfl ?_
  refine q_new (pc := 115) (ci := 0) (N := 5) (C := "LawnTrees$Chance") rfl zCl0_in tyX0 tyX0_ok dfX0 cl_X11_75 in_X0 it_X0 dX11_init_115 (S' := zc_69) rfl (a := 48) (by decide +kernel) (by decide) (by decide) (by decide) ?_
  refine r_dup (pc := 118) rfl dX11_init_118 ?_
  refine r_callIN (μ2 := mX0_init) (pc := 119) (o := 48) (as := []) (st := [.ref 48, .ref 0]) mn_X11_77 im_X0_init rfl rfl okX0_init ⟨by decide, by decide⟩ dX11_init_119 (Nat.le_of_ble_eq_true rfl) rfl (Nat.le_of_ble_eq_true rfl) (by decide) (by decide) (zCC.mono (iX0 (h := (zN h10 48)) (K := zNewX0 (zN h10 48)) (fun _ z => z)) ?_)
  rintro r S' h11 ⟨rfl, hr, w11⟩
  subst hr
  show RR mX11_init 50 10038 122 [some (.ref 0)] [.ref 48, .ref 0] zc_74 h11 _
  refine q_putR (pc := 122) (o := 0) (b := 48) (ci := 11) (f := 10) (N := 16) (rf := [some 1, some 3, some 10, some 16, some 19, some 22, some 25, some 28, some 31, some 47, none, none, none, none, none, none]) fl_X11_78 (Or.inl ⟨_, rfl⟩) ⟨_, _, _, rfl, rfl⟩ rfl dX11_init_122 (by decide +kernel) (Nat.le_of_ble_eq_true rfl) (S' := zc_75) rfl ?_
  refine r_aload_n (pc := 125) (a := 0) dX11_init_125 rfl ?_
  refine r_iconst (pc := 126) dX11_init_126 ?_
  refine q_anewa (pc := 127) (x := 2) (N := 2) (kd := 24) (t0 := 4) (C := "LawnTrees$Garden") cl_X11_23 (by decide) (by decide) dX11_init_127 rfl (by decide) (S' := zc_76) rfl (a := 51) (by decide +kernel) (by decide) (by decide) (by decide) ?_
  refine r_dup (pc := 130) rfl dX11_init_130 ?_
  refine r_iconst (pc := 131) dX11_init_131 ?_
  refine q_new (pc := 132) (ci := 3) (N := 5) (C := "LawnTrees$Garden") rfl zCl3_in tyX3 tyX3_ok dfX3 cl_X11_23 in_X3 it_X3 dX11_init_132 (S' := zc_77) rfl (a := 52) (by decide +kernel) (by decide) (by decide) (by decide) ?_
  refine r_dup (pc := 135) rfl dX11_init_135 ?_
  refine r_callI (μ2 := mX3_init) (pc := 136) (o := 52) (as := []) (st := [.ref 52, .int (zI 0), .ref 51, .ref 51, .ref 0]) ml_X11_25 im_X3_init rfl rfl okX3_init ⟨by decide, by decide⟩ dX11_init_136 (Nat.le_of_ble_eq_true rfl) rfl (Nat.le_of_ble_eq_true rfl) (by decide) (by decide) (zCC.mono (iX3 (P := zc_76) (o := 52) (by decide +kernel) (by decide) (K := zNewX3 52 (zN (zN h11 51) 52)) (fun _ z => z)) ?_)
  rintro r S' h12 ⟨rfl, hr, w12⟩
  subst hr
  show RR mX11_init 57 10197 139 [some (.ref 0)] [.ref 52, .int (zI 0), .ref 51, .ref 51, .ref 0] zc_78 h12 _
  refine q_aast (pc := 139) (a := 51) (b := 52) (N := 2) (kd := 24) (t0 := 4) (C := "LawnTrees$Garden") (ci := 3) (M := 5) (rf := [none, none]) (rb := [some 53, some 54, some 55, some 56, some 57]) (i := 0) dX11_init_139 (by decide +kernel) (by decide) (by decide) (by decide +kernel) rfl (by decide) (S' := zc_79) rfl ?_
  refine r_dup (pc := 140) rfl dX11_init_140 ?_
  refine r_iconst (pc := 141) dX11_init_141 ?_
  refine q_new (pc := 142) (ci := 3) (N := 5) (C := "LawnTrees$Garden") rfl zCl3_in tyX3 tyX3_ok dfX3 cl_X11_23 in_X3 it_X3 dX11_init_142 (S' := zc_80) rfl (a := 58) (by decide +kernel) (by decide) (by decide) (by decide) ?_
  refine r_dup (pc := 145) rfl dX11_init_145 ?_
  refine r_callI (μ2 := mX3_init) (pc := 146) (o := 58) (as := []) (st := [.ref 58, .int (zI 1), .ref 51, .ref 51, .ref 0]) ml_X11_25 im_X3_init rfl rfl okX3_init ⟨by decide, by decide⟩ dX11_init_146 (Nat.le_of_ble_eq_true rfl) rfl (Nat.le_of_ble_eq_true rfl) (by decide) (by decide) (zCC.mono (iX3 (P := zc_79) (o := 58) (by decide +kernel) (by decide) (K := zNewX3 58 (zN h12 58)) (fun _ z => z)) ?_)
  rintro r S' h13 ⟨rfl, hr, w13⟩
  subst hr
  show RR mX11_init 63 10354 149 [some (.ref 0)] [.ref 58, .int (zI 1), .ref 51, .ref 51, .ref 0] zc_81 h13 _
  refine q_aast (pc := 149) (a := 51) (b := 58) (N := 2) (kd := 24) (t0 := 4) (C := "LawnTrees$Garden") (ci := 3) (M := 5) (rf := [some 52, none]) (rb := [some 59, some 60, some 61, some 62, some 63]) (i := 1) dX11_init_149 (by decide +kernel) (by decide) (by decide) (by decide +kernel) rfl (by decide) (S' := zc_82) rfl ?_
  refine q_putR (pc := 150) (o := 0) (b := 51) (ci := 11) (f := 11) (N := 16) (rf := [some 1, some 3, some 10, some 16, some 19, some 22, some 25, some 28, some 31, some 47, some 48, none, none, none, none, none]) fl_X11_82 (Or.inr ⟨_, rfl⟩) ⟨_, _, _, rfl, rfl⟩ rfl dX11_init_150 (by decide +kernel) (Nat.le_of_ble_eq_true rfl) (S' := zc_83) rfl ?_
  refine r_aload_n (pc := 153) (a := 0) dX11_init_153 rfl ?_
  refine r_iconst (pc := 154) dX11_init_154 ?_
  refine q_anewa (pc := 155) (x := 2) (N := 2) (kd := 25) (t0 := 5) (C := "LawnTrees$Moves") cl_X11_30 (by decide) (by decide) dX11_init_155 rfl (by decide) (S' := zc_84) rfl (a := 64) (by decide +kernel) (by decide) (by decide) (by decide) ?_
  refine r_dup (pc := 158) rfl dX11_init_158 ?_
  refine r_iconst (pc := 159) dX11_init_159 ?_
  refine q_new (pc := 160) (ci := 5) (N := 3) (C := "LawnTrees$Moves") rfl zCl5_in tyX5 tyX5_ok dfX5 cl_X11_30 in_X5 it_X5 dX11_init_160 (S' := zc_85) rfl (a := 65) (by decide +kernel) (by decide) (by decide) (by decide) ?_
  refine r_dup (pc := 163) rfl dX11_init_163 ?_
  refine r_callIN (μ2 := mX5_init) (pc := 164) (o := 65) (as := []) (st := [.ref 65, .int (zI 0), .ref 64, .ref 64, .ref 0]) mn_X11_32 im_X5_init rfl rfl okX5_init ⟨by decide, by decide⟩ dX11_init_164 (Nat.le_of_ble_eq_true rfl) rfl (Nat.le_of_ble_eq_true rfl) (by decide) (by decide) (zCC.mono (iX5 (P := zc_84) (o := 65) (by decide +kernel) (by decide) (K := zNewX5 65 (zN (zN h13 64) 65)) (fun _ z => z)) ?_)
  rintro r S' h14 ⟨rfl, hr, w14⟩
  subst hr
  show RR mX11_init 67 10407 167 [some (.ref 0)] [.ref 65, .int (zI 0), .ref 64, .ref 64, .ref 0] zc_86 h14 _
  refine q_aast (pc := 167) (a := 64) (b := 65) (N := 2) (kd := 25) (t0 := 5) (C := "LawnTrees$Moves") (ci := 5) (M := 3) (rf := [none, none]) (rb := [some 66, some 67, none]) (i := 0) dX11_init_167 (by decide +kernel) (by decide) (by decide) (by decide +kernel) rfl (by decide) (S' := zc_87) rfl ?_
  refine r_dup (pc := 168) rfl dX11_init_168 ?_
  refine r_iconst (pc := 169) dX11_init_169 ?_
  refine q_new (pc := 170) (ci := 5) (N := 3) (C := "LawnTrees$Moves") rfl zCl5_in tyX5 tyX5_ok dfX5 cl_X11_30 in_X5 it_X5 dX11_init_170 (S' := zc_88) rfl (a := 68) (by decide +kernel) (by decide) (by decide) (by decide) ?_
  refine r_dup (pc := 173) rfl dX11_init_173 ?_
  refine r_callIN (μ2 := mX5_init) (pc := 174) (o := 68) (as := []) (st := [.ref 68, .int (zI 1), .ref 64, .ref 64, .ref 0]) mn_X11_32 im_X5_init rfl rfl okX5_init ⟨by decide, by decide⟩ dX11_init_174 (Nat.le_of_ble_eq_true rfl) rfl (Nat.le_of_ble_eq_true rfl) (by decide) (by decide) (zCC.mono (iX5 (P := zc_87) (o := 68) (by decide +kernel) (by decide) (K := zNewX5 68 (zN h14 68)) (fun _ z => z)) ?_)
  rintro r S' h15 ⟨rfl, hr, w15⟩
  subst hr
  show RR mX11_init 70 10458 177 [some (.ref 0)] [.ref 68, .int (zI 1), .ref 64, .ref 64, .ref 0] zc_89 h15 _
  refine q_aast (pc := 177) (a := 64) (b := 68) (N := 2) (kd := 25) (t0 := 5) (C := "LawnTrees$Moves") (ci := 5) (M := 3) (rf := [some 65, none]) (rb := [some 69, some 70, none]) (i := 1) dX11_init_177 (by decide +kernel) (by decide) (by decide) (by decide +kernel) rfl (by decide) (S' := zc_90) rfl ?_
  refine q_putR (pc := 178) (o := 0) (b := 64) (ci := 11) (f := 12) (N := 16) (rf := [some 1, some 3, some 10, some 16, some 19, some 22, some 25, some 28, some 31, some 47, some 48, some 51, none, none, none, none]) fl_X11_86 (Or.inr ⟨_, rfl⟩) ⟨_, _, _, rfl, rfl⟩ rfl dX11_init_178 (by decide +kernel) (Nat.le_of_ble_eq_true rfl) (S' := zc_91) rfl ?_
  refine r_aload_n (pc := 181) (a := 0) dX11_init_181 rfl ?_
  refine r_iconst (pc := 182) dX11_init_182 ?_
  refine q_newa_boolean (pc := 183) (x := 2) (N := 2) ac_boolean dX11_init_183 rfl (by decide) (S' := zc_92) rfl (a := 71) (by decide +kernel) (by decide) (by decide) (by decide) ?_
  refine q_putR (pc := 185) (o := 0) (b := 71) (ci := 11) (f := 13) (N := 16) (rf := [some 1, some 3, some 10, some 16, some 19, some 22, some 25, some 28, some 31, some 47, some 48, some 51, some 64, none, none, none]) fl_X11_90 (Or.inr ⟨_, rfl⟩) ⟨_, _, _, rfl, rfl⟩ rfl dX11_init_185 (by decide +kernel) (Nat.le_of_ble_eq_true rfl) (S' := zc_93) rfl ?_
  refine r_aload_n (pc := 188) (a := 0) dX11_init_188 rfl ?_
  refine r_iconst (pc := 189) dX11_init_189 ?_
  refine q_anewa (pc := 190) (x := 4) (N := 4) (kd := 26) (t0 := 6) (C := "LawnTrees$Sheet") cl_X11_94 (by decide) (by decide) dX11_init_190 rfl (by decide) (S' := zc_94) rfl (a := 72) (by decide +kernel) (by decide) (by decide) (by decide) ?_
  refine r_dup (pc := 193) rfl dX11_init_193 ?_
  refine r_iconst (pc := 194) dX11_init_194 ?_
  refine q_new (pc := 195) (ci := 7) (N := 3) (C := "LawnTrees$Sheet") rfl zCl7_in tyX7 tyX7_ok dfX7 cl_X11_94 in_X7 it_X7 dX11_init_195 (S' := zc_95) rfl (a := 73) (by decide +kernel) (by decide) (by decide) (by decide) ?_
  refine r_dup (pc := 198) rfl dX11_init_198 ?_
  refine r_callIN (μ2 := mX7_init) (pc := 199) (o := 73) (as := []) (st := [.ref 73, .int (zI 0), .ref 72, .ref 72, .ref 0]) mn_X11_96 im_X7_init rfl rfl okX7_init ⟨by decide, by decide⟩ dX11_init_199 (Nat.le_of_ble_eq_true rfl) rfl (Nat.le_of_ble_eq_true rfl) (by decide) (by decide) (zCC.mono (iX7 (P := zc_94) (o := 73) (by decide +kernel) (by decide) (K := zNewX7 73 (zN (zN (zN h15 71) 72) 73)) (fun _ z => z)) ?_)
  rintro r S' h16 ⟨rfl, hr, w16⟩
  subst hr
  show RR mX11_init 74 10515 202 [some (.ref 0)] [.ref 73, .int (zI 0), .ref 72, .ref 72, .ref 0] zc_96 h16 _
  refine q_aast (pc := 202) (a := 72) (b := 73) (N := 4) (kd := 26) (t0 := 6) (C := "LawnTrees$Sheet") (ci := 7) (M := 3) (rf := [none, none, none, none]) (rb := [some 74, none, none]) (i := 0) dX11_init_202 (by decide +kernel) (by decide) (by decide) (by decide +kernel) rfl (by decide) (S' := zc_97) rfl ?_
  refine r_dup (pc := 203) rfl dX11_init_203 ?_
  refine r_iconst (pc := 204) dX11_init_204 ?_
  refine q_new (pc := 205) (ci := 7) (N := 3) (C := "LawnTrees$Sheet") rfl zCl7_in tyX7 tyX7_ok dfX7 cl_X11_94 in_X7 it_X7 dX11_init_205 (S' := zc_98) rfl (a := 75) (by decide +kernel) (by decide) (by decide) (by decide) ?_
  refine r_dup (pc := 208) rfl dX11_init_208 ?_
  refine r_callIN (μ2 := mX7_init) (pc := 209) (o := 75) (as := []) (st := [.ref 75, .int (zI 1), .ref 72, .ref 72, .ref 0]) mn_X11_96 im_X7_init rfl rfl okX7_init ⟨by decide, by decide⟩ dX11_init_209 (Nat.le_of_ble_eq_true rfl) rfl (Nat.le_of_ble_eq_true rfl) (by decide) (by decide) (zCC.mono (iX7 (P := zc_97) (o := 75) (by decide +kernel) (by decide) (K := zNewX7 75 (zN h16 75)) (fun _ z => z)) ?_)
  rintro r S' h17 ⟨rfl, hr, w17⟩
  subst hr
  show RR mX11_init 76 10566 212 [some (.ref 0)] [.ref 75, .int (zI 1), .ref 72, .ref 72, .ref 0] zc_99 h17 _
  refine q_aast (pc := 212) (a := 72) (b := 75) (N := 4) (kd := 26) (t0 := 6) (C := "LawnTrees$Sheet") (ci := 7) (M := 3) (rf := [some 73, none, none, none]) (rb := [some 76, none, none]) (i := 1) dX11_init_212 (by decide +kernel) (by decide) (by decide) (by decide +kernel) rfl (by decide) (S' := zc_100) rfl ?_
  refine r_dup (pc := 213) rfl dX11_init_213 ?_
  refine r_iconst (pc := 214) dX11_init_214 ?_
  refine q_new (pc := 215) (ci := 7) (N := 3) (C := "LawnTrees$Sheet") rfl zCl7_in tyX7 tyX7_ok dfX7 cl_X11_94 in_X7 it_X7 dX11_init_215 (S' := zc_101) rfl (a := 77) (by decide +kernel) (by decide) (by decide) (by decide) ?_
  refine r_dup (pc := 218) rfl dX11_init_218 ?_
  refine r_callIN (μ2 := mX7_init) (pc := 219) (o := 77) (as := []) (st := [.ref 77, .int (zI 2), .ref 72, .ref 72, .ref 0]) mn_X11_96 im_X7_init rfl rfl okX7_init ⟨by decide, by decide⟩ dX11_init_219 (Nat.le_of_ble_eq_true rfl) rfl (Nat.le_of_ble_eq_true rfl) (by decide) (by decide) (zCC.mono (iX7 (P := zc_100) (o := 77) (by decide +kernel) (by decide) (K := zNewX7 77 (zN h17 77)) (fun _ z => z)) ?_)
  rintro r S' h18 ⟨rfl, hr, w18⟩
  subst hr
  show RR mX11_init 78 10617 222 [some (.ref 0)] [.ref 77, .int (zI 2), .ref 72, .ref 72, .ref 0] zc_102 h18 _
  refine q_aast (pc := 222) (a := 72) (b := 77) (N := 4) (kd := 26) (t0 := 6) (C := "LawnTrees$Sheet") (ci := 7) (M := 3) (rf := [some 73, some 75, none, none]) (rb := [some 78, none, none]) (i := 2) dX11_init_222 (by decide +kernel) (by decide) (by decide) (by decide +kernel) rfl (by decide) (S' := zc_103) rfl ?_
  refine r_dup (pc := 223) rfl dX11_init_223 ?_
  refine r_iconst (pc := 224) dX11_init_224 ?_
  refine q_new (pc := 225) (ci := 7) (N := 3) (C := "LawnTrees$Sheet") rfl zCl7_in tyX7 tyX7_ok dfX7 cl_X11_94 in_X7 it_X7 dX11_init_225 (S' := zc_104) rfl (a := 79) (by decide +kernel) (by decide) (by decide) (by decide) ?_
  refine r_dup (pc := 228) rfl dX11_init_228 ?_
  refine r_callIN (μ2 := mX7_init) (pc := 229) (o := 79) (as := []) (st := [.ref 79, .int (zI 3), .ref 72, .ref 72, .ref 0]) mn_X11_96 im_X7_init rfl rfl okX7_init ⟨by decide, by decide⟩ dX11_init_229 (Nat.le_of_ble_eq_true rfl) rfl (Nat.le_of_ble_eq_true rfl) (by decide) (by decide) (zCC.mono (iX7 (P := zc_103) (o := 79) (by decide +kernel) (by decide) (K := zNewX7 79 (zN h18 79)) (fun _ z => z)) ?_)
  rintro r S' h19 ⟨rfl, hr, w19⟩
  subst hr
  show RR mX11_init 80 10668 232 [some (.ref 0)] [.ref 79, .int (zI 3), .ref 72, .ref 72, .ref 0] zc_105 h19 _
  refine q_aast (pc := 232) (a := 72) (b := 79) (N := 4) (kd := 26) (t0 := 6) (C := "LawnTrees$Sheet") (ci := 7) (M := 3) (rf := [some 73, some 75, some 77, none]) (rb := [some 80, none, none]) (i := 3) dX11_init_232 (by decide +kernel) (by decide) (by decide) (by decide +kernel) rfl (by decide) (S' := zc_106) rfl ?_
  refine q_putR (pc := 233) (o := 0) (b := 72) (ci := 11) (f := 14) (N := 16) (rf := [some 1, some 3, some 10, some 16, some 19, some 22, some 25, some 28, some 31, some 47, some 48, some 51, some 64, some 71, none, none]) fl_X11_97 (Or.inr ⟨_, rfl⟩) ⟨_, _, _, rfl, rfl⟩ rfl dX11_init_233 (by decide +kernel) (Nat.le_of_ble_eq_true rfl) (S' := zc_107) rfl ?_
  refine r_aload_n (pc := 236) (a := 0) dX11_init_236 rfl ?_
  refine r_iconst (pc := 237) dX11_init_237 ?_
  refine r_putI (pc := 238) (ci := 11) (N := 16) (rf := [some 1, some 3, some 10, some 16, some 19, some 22, some 25, some 28, some 31, some 47, some 48, some 51, some 64, some 71, some 72, none]) (fi := 15) (x := 0) fl_X11_101 dX11_init_238 (by decide +kernel) rfl ?_
  refine r_ret (st := []) (pc := 241) dX11_init_241 rfl rfl (by decide) ⟨rfl, rfl, ?_⟩
  have g1 : ∀ a, a < 1 → h1 a = h a := fun a ha => ((w1.1 a (by omega)).trans (zN_off a (by omega)))
  have g2 : ∀ a, a < 3 → h2 a = h1 a := fun a ha => ((w2.1 a (by omega)).trans (zN_off a (by omega)))
  have g3 : ∀ a, a < 10 → h3 a = h2 a := fun a ha => ((w3.1 a (by omega)).trans (zN_off a (by omega)))
  have g4 : ∀ a, a < 16 → h4 a = h3 a := fun a ha => ((w4.1 a (by omega)).trans (zN_off a (by omega)))
  have g5 : ∀ a, a < 19 → h5 a = h4 a := fun a ha => ((w5.1 a (by omega)).trans (zN_off a (by omega)))
  have g6 : ∀ a, a < 22 → h6 a = h5 a := fun a ha => ((w6.1 a (by omega)).trans (zN_off a (by omega)))
  have g7 : ∀ a, a < 25 → h7 a = h6 a := fun a ha => ((w7.1 a (by omega)).trans (zN_off a (by omega)))
  have g8 : ∀ a, a < 28 → h8 a = h7 a := fun a ha => ((w8.1 a (by omega)).trans (zN_off a (by omega)))
  have g9 : ∀ a, a < 31 → h9 a = h8 a := fun a ha => ((w9.1 a (by omega)).trans (zN_off a (by omega)))
  have g10 : ∀ a, a < 47 → h10 a = h9 a := fun a ha => ((w10.1 a (by omega)).trans (zN_off a (by omega)))
  have g11 : ∀ a, a < 48 → h11 a = h10 a := fun a ha => ((w11.1 a (by omega)).trans (zN_off a (by omega)))
  have g12 : ∀ a, a < 51 → h12 a = h11 a := fun a ha => ((w12.1 a (by omega)).trans ((zN_off a (by omega)).trans (zN_off a (by omega))))
  have g13 : ∀ a, a < 58 → h13 a = h12 a := fun a ha => ((w13.1 a (by omega)).trans (zN_off a (by omega)))
  have g14 : ∀ a, a < 64 → h14 a = h13 a := fun a ha => ((w14.1 a (by omega)).trans ((zN_off a (by omega)).trans (zN_off a (by omega))))
  have g15 : ∀ a, a < 68 → h15 a = h14 a := fun a ha => ((w15.1 a (by omega)).trans (zN_off a (by omega)))
  have g16 : ∀ a, a < 71 → h16 a = h15 a := fun a ha => ((w16.1 a (by omega)).trans ((zN_off a (by omega)).trans ((zN_off a (by omega)).trans (zN_off a (by omega)))))
  have g17 : ∀ a, a < 75 → h17 a = h16 a := fun a ha => ((w17.1 a (by omega)).trans (zN_off a (by omega)))
  have g18 : ∀ a, a < 77 → h18 a = h17 a := fun a ha => ((w18.1 a (by omega)).trans (zN_off a (by omega)))
  have g19 : ∀ a, a < 79 → h19 a = h18 a := fun a ha => ((w19.1 a (by omega)).trans (zN_off a (by omega)))
  have c1 : h19 1 = h1 1 := (g19 1 (by decide)).trans ((g18 1 (by decide)).trans ((g17 1 (by decide)).trans ((g16 1 (by decide)).trans ((g15 1 (by decide)).trans ((g14 1 (by decide)).trans ((g13 1 (by decide)).trans ((g12 1 (by decide)).trans ((g11 1 (by decide)).trans ((g10 1 (by decide)).trans ((g9 1 (by decide)).trans ((g8 1 (by decide)).trans ((g7 1 (by decide)).trans ((g6 1 (by decide)).trans ((g5 1 (by decide)).trans ((g4 1 (by decide)).trans ((g3 1 (by decide)).trans ((g2 1 (by decide)).trans (rfl))))))))))))))))))
  have c3 : h19 3 = h2 3 := (g19 3 (by decide)).trans ((g18 3 (by decide)).trans ((g17 3 (by decide)).trans ((g16 3 (by decide)).trans ((g15 3 (by decide)).trans ((g14 3 (by decide)).trans ((g13 3 (by decide)).trans ((g12 3 (by decide)).trans ((g11 3 (by decide)).trans ((g10 3 (by decide)).trans ((g9 3 (by decide)).trans ((g8 3 (by decide)).trans ((g7 3 (by decide)).trans ((g6 3 (by decide)).trans ((g5 3 (by decide)).trans ((g4 3 (by decide)).trans ((g3 3 (by decide)).trans (rfl)))))))))))))))))
  have c11 : h19 11 = h3 11 := (g19 11 (by decide)).trans ((g18 11 (by decide)).trans ((g17 11 (by decide)).trans ((g16 11 (by decide)).trans ((g15 11 (by decide)).trans ((g14 11 (by decide)).trans ((g13 11 (by decide)).trans ((g12 11 (by decide)).trans ((g11 11 (by decide)).trans ((g10 11 (by decide)).trans ((g9 11 (by decide)).trans ((g8 11 (by decide)).trans ((g7 11 (by decide)).trans ((g6 11 (by decide)).trans ((g5 11 (by decide)).trans ((g4 11 (by decide)).trans (rfl))))))))))))))))
  have c12 : h19 12 = h3 12 := (g19 12 (by decide)).trans ((g18 12 (by decide)).trans ((g17 12 (by decide)).trans ((g16 12 (by decide)).trans ((g15 12 (by decide)).trans ((g14 12 (by decide)).trans ((g13 12 (by decide)).trans ((g12 12 (by decide)).trans ((g11 12 (by decide)).trans ((g10 12 (by decide)).trans ((g9 12 (by decide)).trans ((g8 12 (by decide)).trans ((g7 12 (by decide)).trans ((g6 12 (by decide)).trans ((g5 12 (by decide)).trans ((g4 12 (by decide)).trans (rfl))))))))))))))))
  have c13 : h19 13 = h3 13 := (g19 13 (by decide)).trans ((g18 13 (by decide)).trans ((g17 13 (by decide)).trans ((g16 13 (by decide)).trans ((g15 13 (by decide)).trans ((g14 13 (by decide)).trans ((g13 13 (by decide)).trans ((g12 13 (by decide)).trans ((g11 13 (by decide)).trans ((g10 13 (by decide)).trans ((g9 13 (by decide)).trans ((g8 13 (by decide)).trans ((g7 13 (by decide)).trans ((g6 13 (by decide)).trans ((g5 13 (by decide)).trans ((g4 13 (by decide)).trans (rfl))))))))))))))))
  have c14 : h19 14 = h3 14 := (g19 14 (by decide)).trans ((g18 14 (by decide)).trans ((g17 14 (by decide)).trans ((g16 14 (by decide)).trans ((g15 14 (by decide)).trans ((g14 14 (by decide)).trans ((g13 14 (by decide)).trans ((g12 14 (by decide)).trans ((g11 14 (by decide)).trans ((g10 14 (by decide)).trans ((g9 14 (by decide)).trans ((g8 14 (by decide)).trans ((g7 14 (by decide)).trans ((g6 14 (by decide)).trans ((g5 14 (by decide)).trans ((g4 14 (by decide)).trans (rfl))))))))))))))))
  have c15 : h19 15 = h3 15 := (g19 15 (by decide)).trans ((g18 15 (by decide)).trans ((g17 15 (by decide)).trans ((g16 15 (by decide)).trans ((g15 15 (by decide)).trans ((g14 15 (by decide)).trans ((g13 15 (by decide)).trans ((g12 15 (by decide)).trans ((g11 15 (by decide)).trans ((g10 15 (by decide)).trans ((g9 15 (by decide)).trans ((g8 15 (by decide)).trans ((g7 15 (by decide)).trans ((g6 15 (by decide)).trans ((g5 15 (by decide)).trans ((g4 15 (by decide)).trans (rfl))))))))))))))))
  have c16 : h19 16 = h4 16 := (g19 16 (by decide)).trans ((g18 16 (by decide)).trans ((g17 16 (by decide)).trans ((g16 16 (by decide)).trans ((g15 16 (by decide)).trans ((g14 16 (by decide)).trans ((g13 16 (by decide)).trans ((g12 16 (by decide)).trans ((g11 16 (by decide)).trans ((g10 16 (by decide)).trans ((g9 16 (by decide)).trans ((g8 16 (by decide)).trans ((g7 16 (by decide)).trans ((g6 16 (by decide)).trans ((g5 16 (by decide)).trans (rfl)))))))))))))))
  have c31 : h19 31 = h9 31 := (g19 31 (by decide)).trans ((g18 31 (by decide)).trans ((g17 31 (by decide)).trans ((g16 31 (by decide)).trans ((g15 31 (by decide)).trans ((g14 31 (by decide)).trans ((g13 31 (by decide)).trans ((g12 31 (by decide)).trans ((g11 31 (by decide)).trans ((g10 31 (by decide)).trans (rfl))))))))))
  have c45 : h19 45 = h9 45 := (g19 45 (by decide)).trans ((g18 45 (by decide)).trans ((g17 45 (by decide)).trans ((g16 45 (by decide)).trans ((g15 45 (by decide)).trans ((g14 45 (by decide)).trans ((g13 45 (by decide)).trans ((g12 45 (by decide)).trans ((g11 45 (by decide)).trans ((g10 45 (by decide)).trans (rfl))))))))))
  have c73 : h19 73 = h16 73 := (g19 73 (by decide)).trans ((g18 73 (by decide)).trans ((g17 73 (by decide)).trans (rfl)))
  have c74 : h19 74 = h16 74 := (g19 74 (by decide)).trans ((g18 74 (by decide)).trans ((g17 74 (by decide)).trans (rfl)))
  have c75 : h19 75 = h17 75 := (g19 75 (by decide)).trans ((g18 75 (by decide)).trans (rfl))
  have c76 : h19 76 = h17 76 := (g19 76 (by decide)).trans ((g18 76 (by decide)).trans (rfl))
  have c77 : h19 77 = h18 77 := (g19 77 (by decide)).trans (rfl)
  have c78 : h19 78 = h18 78 := (g19 78 (by decide)).trans (rfl)
  have c79 : h19 79 = h19 79 := rfl
  have c80 : h19 80 = h19 80 := rfl
-- FRAMES [(1, '(zN h 1)', 'h1', 'X8'), (3, '(zN h1 3)', 'h2', 'X9'), (10, '(zN h2 10)', 'h3', 'X3'), (16, '(zN h3 16)', 'h4', 'X5'), (19, '(zN h4 19)', 'h5', 'X5'), (22, '(zN h5 22)', 'h6', 'X10'), (25, '(zN h6 25)', 'h7', 'X1'), (28, '(zN h7 28)', 'h8', 'X2'), (31, '(zN h8 31)', 'h9', 'X4'), (47, '(zN h9 47)', 'h10', 'X6'), (48, '(zN h10 48)', 'h11', 'X0'), (52, '(zN (zN h11 51) 52)', 'h12', 'X3'), (58, '(zN h12 58)', 'h13', 'X3'), (65, '(zN (zN h13 64) 65)', 'h14', 'X5'), (68, '(zN h14 68)', 'h15', 'X5'), (73, '(zN (zN (zN h15 71) 72) 73)', 'h16', 'X7'), (75, '(zN h16 75)', 'h17', 'X7'), (77, '(zN h17 77)', 'h18', 'X7'), (79, '(zN h18 79)', 'h19', 'X7')]
-- END (zU h19 0 15 0)
  have c71 : ∀ i : Int, h19 71 i = 0 := fun i => by
    rw [g19 71 (by decide), g18 71 (by decide), g17 71 (by decide), w16.1 71 (by decide)]
    rfl
  refine hK _ ⟨rfl, ?_, ?_, ⟨?_, ?_⟩, ?_, ⟨?_, ?_, ?_⟩, ?_, ?_⟩
  · rw [zU_off 1 (by decide), c1]; exact w1.2
  · rw [zU_off 3 (by decide), c3]; exact w2.2
  · rw [zU_off 11 (by decide), zU_off 12 (by decide), zU_off 13 (by decide), zU_off 14 (by decide), c11, c12, c13, c14]; exact w3.2.1
  · rw [zU_off 15 (by decide), c15]; exact w3.2.2
  · rw [zU_off 16 (by decide), c16]; exact w4.2
  · rw [zU_off 31 (by decide), c31]; exact w9.2.1
  · rw [zU_off 31 (by decide), c31]; exact w9.2.2.1
  · rw [zU_off 45 (by decide), c45]; exact w9.2.2.2
  · rw [zU_off 71 (by decide)]; exact c71
  · intro k hk
    rw [zU_off (73 + 2 * k) (by omega), zU_off (74 + 2 * k) (by omega)]
    rcases (show k = 0 ∨ k = 1 ∨ k = 2 ∨ k = 3 by omega) with rfl | rfl | rfl | rfl
    · show h19 73 1 = -1 ∧ h19 73 2 = 0 ∧ ∀ i : Int, h19 74 i = 0
      rw [c73, c74]; exact w16.2
    · show h19 75 1 = -1 ∧ h19 75 2 = 0 ∧ ∀ i : Int, h19 76 i = 0
      rw [c75, c76]; exact w17.2
    · show h19 77 1 = -1 ∧ h19 77 2 = 0 ∧ ∀ i : Int, h19 78 i = 0
      rw [c77, c78]; exact w18.2
    · show h19 79 1 = -1 ∧ h19 79 2 = 0 ∧ ∀ i : Int, h19 80 i = 0
      rw [c79, c80]; exact w19.2
def zc_109 : zSh := zc_107 ++ [(12, 51, List.replicate 51 none)]
abbrev mX12_init : zMi := (yX12_init, cX12_init, 1, none, { frames := 1, cells := 26, slots := 21401, locals := 20 }, none)
set_option maxRecDepth 100000 in
theorem wX12_code : lw_tbl[1230]? = some (Cond.code yX12_init cX12_init 1 none) := rfl
theorem okX12_init : zOK mX12_init 0 := ⟨by decide +kernel, zmem 1230 wX12_code rfl, zmem 75 (by decide +kernel) rfl, ⟨by decide +kernel, by decide +kernel, by decide +kernel⟩, rfl⟩
