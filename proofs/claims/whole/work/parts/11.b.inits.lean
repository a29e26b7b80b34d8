theorem dfX0 : ∀ j, j < 5 → defaultValue (tyX0 j) = zDv (zTy 0 j) := fun j hj => zDf_ok ((show ∀ j, j < 5 → zDf (tyX0 j) (zTy 0 j) = true by decide +kernel) j hj)
theorem dfX1 : ∀ j, j < 8 → defaultValue (tyX1 j) = zDv (zTy 1 j) := fun j hj => zDf_ok ((show ∀ j, j < 8 → zDf (tyX1 j) (zTy 1 j) = true by decide +kernel) j hj)
theorem dfX2 : ∀ j, j < 2 → defaultValue (tyX2 j) = zDv (zTy 2 j) := fun j hj => zDf_ok ((show ∀ j, j < 2 → zDf (tyX2 j) (zTy 2 j) = true by decide +kernel) j hj)
theorem dfX3 : ∀ j, j < 5 → defaultValue (tyX3 j) = zDv (zTy 3 j) := fun j hj => zDf_ok ((show ∀ j, j < 5 → zDf (tyX3 j) (zTy 3 j) = true by decide +kernel) j hj)
theorem dfX4 : ∀ j, j < 20 → defaultValue (tyX4 j) = zDv (zTy 4 j) := fun j hj => zDf_ok ((show ∀ j, j < 20 → zDf (tyX4 j) (zTy 4 j) = true by decide +kernel) j hj)
theorem dfX5 : ∀ j, j < 3 → defaultValue (tyX5 j) = zDv (zTy 5 j) := fun j hj => zDf_ok ((show ∀ j, j < 3 → zDf (tyX5 j) (zTy 5 j) = true by decide +kernel) j hj)
theorem dfX6 : ∀ j, j < 5 → defaultValue (tyX6 j) = zDv (zTy 6 j) := fun j hj => zDf_ok ((show ∀ j, j < 5 → zDf (tyX6 j) (zTy 6 j) = true by decide +kernel) j hj)
theorem dfX7 : ∀ j, j < 3 → defaultValue (tyX7 j) = zDv (zTy 7 j) := fun j hj => zDf_ok ((show ∀ j, j < 3 → zDf (tyX7 j) (zTy 7 j) = true by decide +kernel) j hj)
theorem dfX8 : ∀ j, j < 6 → defaultValue (tyX8 j) = zDv (zTy 8 j) := fun j hj => zDf_ok ((show ∀ j, j < 6 → zDf (tyX8 j) (zTy 8 j) = true by decide +kernel) j hj)
theorem dfX9 : ∀ j, j < 7 → defaultValue (tyX9 j) = zDv (zTy 9 j) := fun j hj => zDf_ok ((show ∀ j, j < 7 → zDf (tyX9 j) (zTy 9 j) = true by decide +kernel) j hj)
theorem dfX10 : ∀ j, j < 16 → defaultValue (tyX10 j) = zDv (zTy 10 j) := fun j hj => zDf_ok ((show ∀ j, j < 16 → zDf (tyX10 j) (zTy 10 j) = true by decide +kernel) j hj)
theorem dfX11 : ∀ j, j < 16 → defaultValue (tyX11 j) = zDv (zTy 11 j) := fun j hj => zDf_ok ((show ∀ j, j < 16 → zDf (tyX11 j) (zTy 11 j) = true by decide +kernel) j hj)
theorem dfX12 : ∀ j, j < 51 → defaultValue (tyX12 j) = zDv (zTy 12 j) := fun j hj => zDf_ok ((show ∀ j, j < 51 → zDf (tyX12 j) (zTy 12 j) = true by decide +kernel) j hj)
abbrev mX3_init : zMi := (yX3_init, cX3_init, 1, none, { frames := 4, cells := 5, slots := 152, locals := 82 }, none)
theorem okX3_init : zOK mX3_init 0 := ⟨by decide +kernel, zmem 133 (by decide +kernel) rfl, zmem 64 (by decide +kernel) rfl, ⟨by decide +kernel, by decide +kernel, by decide +kernel⟩, rfl⟩
def zNewX3 (o : Nat) (h h' : zMm) : Prop := (∀ a, a < o → h' a = h a) ∧ (∀ i : Int, 0 ≤ i → i < 36 → h' (o + 1) i = 0 ∧ h' (o + 2) i = 3 ∧ h' (o + 3) i = 3 ∧ h' (o + 4) i = -4) ∧ ∀ r : Int, 0 ≤ r → r ≤ 7 → h' (o + 5) r = ([0, 1, 2, 30, 2, 20, 0, 3] : List Int).getD r.toNat 0

set_option maxRecDepth 100000 in
set_option maxHeartbeats 4000000 in
theorem iX3 {P : zSh} {o : Nat} {h : zMm} {K : zMm → Prop} (hP : P.length = o) (ho : o < 900) (hK : ∀ h', zNewX3 o h h' → K h') : zCC mX3_init [.ref o] (P ++ [(3, 5, [none, none, none, none, none])]) h (zQv (P ++ [(3, 5, [some (o + 1), some (o + 2), some (o + 3), some (o + 4), some (o + 5)]), (20, 36, []), (20, 36, []), (20, 36, []), (20, 36, []), (20, 8, [])]) K) := by
  show RR mX3_init 0 0 0 [some (.ref o)] [] (P ++ [(3, 5, [none, none, none, none, none])]) h _
  refine r_aload_n (pc := 0) (a := o) dX3_init_0 rfl ?_
  refine r_objInit (pc := 1) ml_X3_3 obj_i obj_c dX3_init_1 (by decide) (by decide) ?_
  refine r_aload_n (pc := 4) (a := o) dX3_init_4 rfl ?_
  refine r_bipush (pc := 5) (x := 36) dX3_init_5 (by decide) ?_
  refine q_newa_int (pc := 7) (x := 36) (N := 36) ac_int dX3_init_7 rfl (by decide) (S' := (P ++ [(3, 5, [none, none, none, none, none]), (20, 36, [])])) (by subst hP; simp [List.set_append]) (a := (o + 1)) (by subst hP; simp) (by omega) (by decide) (by decide) ?_
  refine q_putR (pc := 9) (o := o) (b := (o + 1)) (ci := 3) (f := 0) (N := 5) (rf := [none, none, none, none, none]) fl_X3_9 (Or.inr ⟨_, rfl⟩) ⟨_, _, _, rfl, rfl⟩ rfl dX3_init_9 (by subst hP; simp) (Nat.le_of_ble_eq_true rfl) (S' := (P ++ [(3, 5, [some (o + 1), none, none, none, none]), (20, 36, [])])) (by subst hP; simp [List.set_append]) ?_
  refine r_aload_n (pc := 12) (a := o) dX3_init_12 rfl ?_
  refine r_bipush (pc := 13) (x := 36) dX3_init_13 (by decide) ?_
  refine q_newa_int (pc := 15) (x := 36) (N := 36) ac_int dX3_init_15 rfl (by decide) (S' := (P ++ [(3, 5, [some (o + 1), none, none, none, none]), (20, 36, []), (20, 36, [])])) (by subst hP; simp [List.set_append]) (a := (o + 2)) (by subst hP; simp) (by omega) (by decide) (by decide) ?_
  refine q_putR (pc := 17) (o := o) (b := (o + 2)) (ci := 3) (f := 1) (N := 5) (rf := [some (o + 1), none, none, none, none]) fl_X3_15 (Or.inr ⟨_, rfl⟩) ⟨_, _, _, rfl, rfl⟩ rfl dX3_init_17 (by subst hP; simp) (Nat.le_of_ble_eq_true rfl) (S' := (P ++ [(3, 5, [some (o + 1), some (o + 2), none, none, none]), (20, 36, []), (20, 36, [])])) (by subst hP; simp [List.set_append]) ?_
  refine r_aload_n (pc := 20) (a := o) dX3_init_20 rfl ?_
  refine r_bipush (pc := 21) (x := 36) dX3_init_21 (by decide) ?_
  refine q_newa_int (pc := 23) (x := 36) (N := 36) ac_int dX3_init_23 rfl (by decide) (S' := (P ++ [(3, 5, [some (o + 1), some (o + 2), none, none, none]), (20, 36, []), (20, 36, []), (20, 36, [])])) (by subst hP; simp [List.set_append]) (a := (o + 3)) (by subst hP; simp) (by omega) (by decide) (by decide) ?_
  refine q_putR (pc := 25) (o := o) (b := (o + 3)) (ci := 3) (f := 2) (N := 5) (rf := [some (o + 1), some (o + 2), none, none, none]) fl_X3_18 (Or.inr ⟨_, rfl⟩) ⟨_, _, _, rfl, rfl⟩ rfl dX3_init_25 (by subst hP; simp) (Nat.le_of_ble_eq_true rfl) (S' := (P ++ [(3, 5, [some (o + 1), some (o + 2), some (o + 3), none, none]), (20, 36, []), (20, 36, []), (20, 36, [])])) (by subst hP; simp [List.set_append]) ?_
  refine r_aload_n (pc := 28) (a := o) dX3_init_28 rfl ?_
  refine r_bipush (pc := 29) (x := 36) dX3_init_29 (by decide) ?_
  refine q_newa_int (pc := 31) (x := 36) (N := 36) ac_int dX3_init_31 rfl (by decide) (S' := (P ++ [(3, 5, [some (o + 1), some (o + 2), some (o + 3), none, none]), (20, 36, []), (20, 36, []), (20, 36, []), (20, 36, [])])) (by subst hP; simp [List.set_append]) (a := (o + 4)) (by subst hP; simp) (by omega) (by decide) (by decide) ?_
  refine q_putR (pc := 33) (o := o) (b := (o + 4)) (ci := 3) (f := 3) (N := 5) (rf := [some (o + 1), some (o + 2), some (o + 3), none, none]) fl_X3_21 (Or.inr ⟨_, rfl⟩) ⟨_, _, _, rfl, rfl⟩ rfl dX3_init_33 (by subst hP; simp) (Nat.le_of_ble_eq_true rfl) (S' := (P ++ [(3, 5, [some (o + 1), some (o + 2), some (o + 3), some (o + 4), none]), (20, 36, []), (20, 36, []), (20, 36, []), (20, 36, [])])) (by subst hP; simp [List.set_append]) ?_
  refine r_aload_n (pc := 36) (a := o) dX3_init_36 rfl ?_
  refine r_bipush (pc := 37) (x := 8) dX3_init_37 (by decide) ?_
  refine q_newa_int (pc := 39) (x := 8) (N := 8) ac_int dX3_init_39 rfl (by decide) (S' := (P ++ [(3, 5, [some (o + 1), some (o + 2), some (o + 3), some (o + 4), none]), (20, 36, []), (20, 36, []), (20, 36, []), (20, 36, []), (20, 8, [])])) (by subst hP; simp [List.set_append]) (a := (o + 5)) (by subst hP; simp) (by omega) (by decide) (by decide) ?_
  refine q_putR (pc := 41) (o := o) (b := (o + 5)) (ci := 3) (f := 4) (N := 5) (rf := [some (o + 1), some (o + 2), some (o + 3), some (o + 4), none]) fl_X3_24 (Or.inr ⟨_, rfl⟩) ⟨_, _, _, rfl, rfl⟩ rfl dX3_init_41 (by subst hP; simp) (Nat.le_of_ble_eq_true rfl) (S' := (P ++ [(3, 5, [some (o + 1), some (o + 2), some (o + 3), some (o + 4), some (o + 5)]), (20, 36, []), (20, 36, []), (20, 36, []), (20, 36, []), (20, 8, [])])) (by subst hP; simp [List.set_append]) ?_
  refine r_aload_n (pc := 44) (a := o) dX3_init_44 rfl ?_
  refine r_callV (μ2 := mX3_startAnew) (pc := 45) (as := []) (st := []) (ci := 3) (M := 5) (rf := [some (o + 1), some (o + 2), some (o + 3), some (o + 4), some (o + 5)]) rfl (by subst hP; simp) ml_X3_27 im_X3_startAnew se_X3_startAnew okX3_startAnew ⟨by decide, by decide⟩ dX3_init_45 (Nat.le_of_ble_eq_true rfl) rfl (Nat.le_of_ble_eq_true rfl) (by decide) (by decide) (zCC.mono (sX3_startAnew0 (o0 := o) (by subst hP; exact ⟨by simp, by simp, by simp, by simp, by simp, by simp⟩) (K := zNewG o (zN (zN (zN (zN (zN h (o + 1)) (o + 2)) (o + 3)) (o + 4)) (o + 5))) (fun _ z => z)) ?_)
  rintro r S' h1 ⟨rfl, hr, w1⟩
  subst hr
  show RR mX3_init 5 152 48 [some (.ref o)] [] (P ++ [(3, 5, [some (o + 1), some (o + 2), some (o + 3), some (o + 4), some (o + 5)]), (20, 36, []), (20, 36, []), (20, 36, []), (20, 36, []), (20, 8, [])]) h1 _
  refine r_ret (st := []) (pc := 48) dX3_init_48 rfl rfl (by decide) ⟨rfl, rfl, ?_⟩
  refine hK _ ⟨fun a ha => (w1.1 a (Or.inl ha)).trans ?_, w1.2⟩
  rw [zN_off a (by omega), zN_off a (by omega), zN_off a (by omega), zN_off a (by omega), zN_off a (by omega)]
abbrev mX5_init : zMi := (yX5_init, cX5_init, 1, none, { frames := 1, cells := 2, slots := 48, locals := 20 }, none)
theorem okX5_init : zOK mX5_init 0 := ⟨by decide +kernel, zmem 218 (by decide +kernel) rfl, zmem 67 (by decide +kernel) rfl, ⟨by decide +kernel, by decide +kernel, by decide +kernel⟩, rfl⟩
def zNewX5 (o : Nat) (h h' : zMm) : Prop := (∀ a, a < o → h' a = h a) ∧ h' o 2 = 0

set_option maxRecDepth 100000 in
set_option maxHeartbeats 4000000 in
theorem iX5 {P : zSh} {o : Nat} {h : zMm} {K : zMm → Prop} (hP : P.length = o) (ho : o < 900) (hK : ∀ h', zNewX5 o h h' → K h') : zCC mX5_init [.ref o] (P ++ [(5, 3, [none, none, none])]) h (zQv (P ++ [(5, 3, [some (o + 1), some (o + 2), none]), (20, 24, []), (20, 24, [])]) K) := by
  show RR mX5_init 0 0 0 [some (.ref o)] [] (P ++ [(5, 3, [none, none, none])]) h _
  refine r_aload_n (pc := 0) (a := o) dX5_init_0 rfl ?_
  refine r_objInit (pc := 1) ml_X5_3 obj_i obj_c dX5_init_1 (by decide) (by decide) ?_
  refine r_aload_n (pc := 4) (a := o) dX5_init_4 rfl ?_
  refine r_bipush (pc := 5) (x := 24) dX5_init_5 (by decide) ?_
  refine q_newa_int (pc := 7) (x := 24) (N := 24) ac_int dX5_init_7 rfl (by decide) (S' := (P ++ [(5, 3, [none, none, none]), (20, 24, [])])) (by subst hP; simp [List.set_append]) (a := (o + 1)) (by subst hP; simp) (by omega) (by decide) (by decide) ?_
  refine q_putR (pc := 9) (o := o) (b := (o + 1)) (ci := 5) (f := 0) (N := 3) (rf := [none, none, none]) fl_X5_9 (Or.inr ⟨_, rfl⟩) ⟨_, _, _, rfl, rfl⟩ rfl dX5_init_9 (by subst hP; simp) (Nat.le_of_ble_eq_true rfl) (S' := (P ++ [(5, 3, [some (o + 1), none, none]), (20, 24, [])])) (by subst hP; simp [List.set_append]) ?_
  refine r_aload_n (pc := 12) (a := o) dX5_init_12 rfl ?_
  refine r_bipush (pc := 13) (x := 24) dX5_init_13 (by decide) ?_
  refine q_newa_int (pc := 15) (x := 24) (N := 24) ac_int dX5_init_15 rfl (by decide) (S' := (P ++ [(5, 3, [some (o + 1), none, none]), (20, 24, []), (20, 24, [])])) (by subst hP; simp [List.set_append]) (a := (o + 2)) (by subst hP; simp) (by omega) (by decide) (by decide) ?_
  refine q_putR (pc := 17) (o := o) (b := (o + 2)) (ci := 5) (f := 1) (N := 3) (rf := [some (o + 1), none, none]) fl_X5_15 (Or.inr ⟨_, rfl⟩) ⟨_, _, _, rfl, rfl⟩ rfl dX5_init_17 (by subst hP; simp) (Nat.le_of_ble_eq_true rfl) (S' := (P ++ [(5, 3, [some (o + 1), some (o + 2), none]), (20, 24, []), (20, 24, [])])) (by subst hP; simp [List.set_append]) ?_
  refine r_aload_n (pc := 20) (a := o) dX5_init_20 rfl ?_
  refine r_iconst (pc := 21) dX5_init_21 ?_
  refine r_putI (pc := 22) (ci := 5) (N := 3) (rf := [some (o + 1), some (o + 2), none]) (fi := 2) (x := 0) fl_X5_18 dX5_init_22 (by subst hP; simp) rfl ?_
  refine r_ret (st := []) (pc := 25) dX5_init_25 rfl rfl (by decide) ⟨rfl, rfl, ?_⟩
  refine hK _ ⟨fun a ha => ?_, zU_eq _ _ _ _⟩
  rw [zU_off a (by omega), zN_off a (by omega), zN_off a (by omega)]
abbrev mX7_init : zMi := (yX7_init, cX7_init, 1, none, { frames := 1, cells := 1, slots := 48, locals := 20 }, none)
theorem okX7_init : zOK mX7_init 0 := ⟨by decide +kernel, zmem 487 (by decide +kernel) rfl, zmem 74 (by decide +kernel) rfl, ⟨by decide +kernel, by decide +kernel, by decide +kernel⟩, rfl⟩
def zNewX7 (o : Nat) (h h' : zMm) : Prop := (∀ a, a < o → h' a = h a) ∧ h' o 1 = -1 ∧ h' o 2 = 0 ∧ ∀ i : Int, h' (o + 1) i = 0

set_option maxRecDepth 100000 in
set_option maxHeartbeats 4000000 in
theorem iX7 {P : zSh} {o : Nat} {h : zMm} {K : zMm → Prop} (hP : P.length = o) (ho : o < 900) (hK : ∀ h', zNewX7 o h h' → K h') : zCC mX7_init [.ref o] (P ++ [(7, 3, [none, none, none])]) h (zQv (P ++ [(7, 3, [some (o + 1), none, none]), (20, 48, [])]) K) := by
  show RR mX7_init 0 0 0 [some (.ref o)] [] (P ++ [(7, 3, [none, none, none])]) h _
  refine r_aload_n (pc := 0) (a := o) dX7_init_0 rfl ?_
  refine r_objInit (pc := 1) ml_X7_3 obj_i obj_c dX7_init_1 (by decide) (by decide) ?_
  refine r_aload_n (pc := 4) (a := o) dX7_init_4 rfl ?_
  refine r_bipush (pc := 5) (x := 48) dX7_init_5 (by decide) ?_
  refine q_newa_int (pc := 7) (x := 48) (N := 48) ac_int dX7_init_7 rfl (by decide) (S' := (P ++ [(7, 3, [none, none, none]), (20, 48, [])])) (by subst hP; simp [List.set_append]) (a := (o + 1)) (by subst hP; simp) (by omega) (by decide) (by decide) ?_
  refine q_putR (pc := 9) (o := o) (b := (o + 1)) (ci := 7) (f := 0) (N := 3) (rf := [none, none, none]) fl_X7_9 (Or.inr ⟨_, rfl⟩) ⟨_, _, _, rfl, rfl⟩ rfl dX7_init_9 (by subst hP; simp) (Nat.le_of_ble_eq_true rfl) (S' := (P ++ [(7, 3, [some (o + 1), none, none]), (20, 48, [])])) (by subst hP; simp [List.set_append]) ?_
  refine r_aload_n (pc := 12) (a := o) dX7_init_12 rfl ?_
  refine r_iconst (pc := 13) dX7_init_13 ?_
  refine r_putI (pc := 14) (ci := 7) (N := 3) (rf := [some (o + 1), none, none]) (fi := 1) (x := (-1)) fl_X7_15 dX7_init_14 (by subst hP; simp) rfl ?_
  refine r_aload_n (pc := 17) (a := o) dX7_init_17 rfl ?_
  refine r_iconst (pc := 18) dX7_init_18 ?_
  refine r_putI (pc := 19) (ci := 7) (N := 3) (rf := [some (o + 1), none, none]) (fi := 2) (x := 0) fl_X7_19 dX7_init_19 (by subst hP; simp) rfl ?_
  refine r_ret (st := []) (pc := 22) dX7_init_22 rfl rfl (by decide) ⟨rfl, rfl, ?_⟩
  refine hK _ ⟨fun a ha => ?_, ?_, zU_eq _ _ _ _, fun i => ?_⟩
  · rw [zU_off a (by omega), zU_off a (by omega), zN_off a (by omega)]
  · rw [zU_ne (by omega), zU_eq]
  · rw [zU_off (o + 1) (by omega), zU_off (o + 1) (by omega), zN_at]
