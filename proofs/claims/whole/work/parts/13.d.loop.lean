/-! THE LAW's loop -/
set_option maxRecDepth 100000 in
set_option maxHeartbeats 4000000 in
theorem lLoop {ξ : Nat × (Nat → Int)} (hL : ξ.1 ≤ 3584) (hx : ∀ j : Nat, zR (ξ.2 j)) : ∀ (n : Nat) (i : Int) (a h : zMm), WF a → CR a h → MR a h → 0 ≤ i → i ≤ 100000 → (ξ.1 : Int) - i ≤ n → RR (mL ξ) 108 32136 18 [some (.ref 1300), some (.ref 0), some (.ref 81), some (.int (zI i))] [] zS0 h (zQb zS0 fun b _ => b = true) := by
  intro n
  induction n with
  | zero =>
    intro i a h W C M i0 i1 hn
    refine r_iload_n (pc := 18) (x := i) dL_law_18 rfl ?_
    refine r_aload_n (pc := 19) (a := 1300) dL_law_19 rfl ?_
    refine r_xlen (pc := 20) (ξ := ξ) (x := (ξ.1 : Int)) rfl dL_law_20 rfl ?_
    refine r_bipush (pc := 21) (x := 7) dL_law_21 (by decide) ?_
    refine r_isub (pc := 23) (x := (ξ.1 : Int)) (y := 7) dL_law_23 ?_
    refine r_icmp_gt (pc := 24) (x := i) (y := ((ξ.1 : Int) - 7)) (tgt := 1427) dL_law_24 (by decide) ⟨by omega, by omega⟩ ⟨by omega, by omega⟩ (fun _ => ?_) (fun c => absurd (show (ξ.1 : Int) - 7 < i by omega) c)
    refine r_iconst (pc := 1427) dL_law_1427 ?_
    exact r_iret (st := []) (pc := 1428) (x := 1) (ty := .boolean) dL_law_1428 rfl rfl rfl (Nat.le_of_ble_eq_true rfl) ⟨rfl, true, rfl, rfl⟩
  | succ n ih =>
    intro i a h W C M i0 i1 hn
    refine r_iload_n (pc := 18) (x := i) dL_law_18 rfl ?_
    refine r_aload_n (pc := 19) (a := 1300) dL_law_19 rfl ?_
    refine r_xlen (pc := 20) (ξ := ξ) (x := (ξ.1 : Int)) rfl dL_law_20 rfl ?_
    refine r_bipush (pc := 21) (x := 7) dL_law_21 (by decide) ?_
    refine r_isub (pc := 23) (x := (ξ.1 : Int)) (y := 7) dL_law_23 ?_
    refine r_icmp_gt (pc := 24) (x := i) (y := ((ξ.1 : Int) - 7)) (tgt := 1427) dL_law_24 (by decide) ⟨by omega, by omega⟩ ⟨by omega, by omega⟩ (fun _ => ?_) (fun c => ?_)
    · refine r_iconst (pc := 1427) dL_law_1427 ?_
      exact r_iret (st := []) (pc := 1428) (x := 1) (ty := .boolean) dL_law_1428 rfl rfl rfl (Nat.le_of_ble_eq_true rfl) ⟨rfl, true, rfl, rfl⟩
    · refine r_aload_n (pc := 27) (a := 1300) dL_law_27 rfl ?_
      refine r_iload_n (pc := 28) (x := i) dL_law_28 rfl ?_
      refine r_xald (pc := 29) (ξ := ξ) (i := i) (x := ξ.2 i.toNat) rfl dL_law_29 ⟨by omega, by omega, by omega⟩ rfl ?_
      refine r_bipush (pc := 30) (x := 63) dL_law_30 (by decide) ?_
      refine r_iandM (pc := 32) (x := ξ.2 i.toNat) (y := 63) (z := (ξ.2 i.toNat % 64)) dL_law_32 (zI_mask _ 6 (by decide)) ?_
      refine lSw W C M ⟨by omega, by omega, hL⟩ hx (fun a' h' W' C' M' => ?_) ⟨by omega, by omega⟩ ⟨by omega, by omega⟩
      refine r_iinc (pc := 1421) (x := i) (L' := [some (.ref 1300), some (.ref 0), some (.ref 81), some (.int (zI (i + 7)))]) dL_law_1421 rfl (Nat.le_of_ble_eq_true rfl) rfl ?_
      refine r_goto (pc := 1424) (tgt := 18) dL_law_1424 (by decide) ?_
      exact ih (i + 7) a' h' W' C' M' (by omega) (by omega) (by omega)
