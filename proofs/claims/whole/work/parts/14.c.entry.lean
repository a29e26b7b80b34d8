/-! THE LAW from its entry: what the walk comes to -/
set_option maxRecDepth 100000 in
set_option maxHeartbeats 4000000 in
theorem lFirst {ξ : Nat × (Nat → Int)} (hL : ξ.1 ≤ 3584) (hx : ∀ j : Nat, zR (ξ.2 j)) (h : zMm) : zCC (mL ξ) [.ref 1300] [] h (zQb zS0 fun b _ => b = true) := by
  show RR (mL ξ) 0 0 0 [some (.ref 1300), none, none, none] [] [] h (zQb zS0 fun b _ => b = true)
  refine q_new (pc := 0) (ci := 11) (N := 16) (C := "LawnTrees") rfl zCl11_in tyX11 tyX11_ok dfX11 cl_L_7 in_X11 it_X11 dL_law_0 (S' := zc_0) rfl (a := 0) rfl (by decide) (Nat.le_of_ble_eq_true rfl) (Nat.le_of_ble_eq_true rfl) ?_
  refine r_dup (pc := 3) rfl dL_law_3 ?_
  refine r_callI (μ2 := mX11_init) (pc := 4) (o := 0) (as := []) (st := [.ref 0]) ml_L_9 im_X11_init rfl rfl okX11_init ⟨Nat.le_of_ble_eq_true rfl, Nat.le_of_ble_eq_true rfl⟩ dL_law_4 (Nat.le_of_ble_eq_true rfl) rfl (Nat.le_of_ble_eq_true rfl) (Nat.le_of_ble_eq_true rfl) (Nat.le_of_ble_eq_true rfl) (zCC.mono (iX11 (K := fun h' => zNewX11 h') (fun _ z => z)) ?_)
  rintro r S' h1 ⟨rfl, hr, w1⟩
  subst hr
  show RR (mL ξ) 81 10684 7 [some (.ref 1300), none, none, none] [.ref 0] zc_107 h1 _
  refine r_astore_n (pc := 7) (L' := [some (.ref 1300), some (.ref 0), none, none]) dL_law_7 (Nat.le_of_ble_eq_true rfl) rfl ?_
  refine q_new (pc := 8) (ci := 12) (N := 51) (C := "LawnTreesModel") rfl zCl12_in tyX12 tyX12_ok dfX12 cl_L_10 in_X12 it_X12 dL_law_8 (S' := zc_109) rfl (a := 81) (by decide +kernel) (by decide) (Nat.le_of_ble_eq_true rfl) (Nat.le_of_ble_eq_true rfl) ?_
  refine r_dup (pc := 11) rfl dL_law_11 ?_
  refine r_callI (μ2 := mX12_init) (pc := 12) (o := 81) (as := []) (st := [.ref 81]) ml_L_12 im_X12_init rfl rfl okX12_init ⟨Nat.le_of_ble_eq_true rfl, Nat.le_of_ble_eq_true rfl⟩ dL_law_12 (Nat.le_of_ble_eq_true rfl) rfl (Nat.le_of_ble_eq_true rfl) (Nat.le_of_ble_eq_true rfl) (Nat.le_of_ble_eq_true rfl) (zCC.mono (iX12 (K := fun h' => zNewX12 (zN h1 81) h') (fun _ z => z)) ?_)
  rintro r S' h2 ⟨rfl, hr, w2⟩
  subst hr
  rw [zc_end]
  show RR (mL ξ) 108 32136 15 [some (.ref 1300), some (.ref 0), none, none] [.ref 81] zS0 h2 _
  refine r_astore_n (pc := 15) (L' := [some (.ref 1300), some (.ref 0), some (.ref 81), none]) dL_law_15 (Nat.le_of_ble_eq_true rfl) rfl ?_
  refine r_iconst (pc := 16) dL_law_16 ?_
  refine r_istore_n (pc := 17) (L' := [some (.ref 1300), some (.ref 0), some (.ref 81), some (.int (zI 0))]) dL_law_17 (Nat.le_of_ble_eq_true rfl) rfl ?_
  have f : zLo81 h1 h2 := fun o ho => (w2.1 o (by omega)).trans (zN_off o (by omega))
  exact lLoop hL hx ξ.1 0 a00 h2 wf00 ((cr00 w1).lo f) (mr00 (zN_at h1 81) w2) (by decide) (by decide) (by omega)
