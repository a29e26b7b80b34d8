/-! THE LAW: its method, what a case comes to -/
abbrev mL (ξ : Nat × (Nat → Int)) : zMi := (x, cL_law, 4, ret, room_1, some ξ)
theorem q_icmp {μ : zMi} {k n pc : Nat} {L : List (Option Value)} {st : List Value} {S : zSh} {h : zMm} {Q : Option Value → zSh → zMm → Prop} {x off : Int} {tgt : Nat} (hd : decode μ.2.1 pc = .ok (.if_icmp .eq off, 3)) (ht : (pc : Int) + off = (tgt : Int)) (kt : RR μ k n tgt L st S h Q) : RR μ k n pc L (.int (zI x) :: .int (zI x) :: st) S h Q := by
  rw [← zI_of (zI x)]
  exact r_icmp_eq hd ht (zR_to _) (zR_to _) (fun _ => kt) (fun c => absurd rfl c)
theorem zRl_O (x y : Int) : zRl (lO x y) := zRl_to _
theorem q_lcmp {μ : zMi} {k n pc : Nat} {L : List (Option Value)} {st : List Value} {S : zSh} {h : zMm} {Q : Option Value → zSh → zMm → Prop} {x : Int} (hd : decode μ.2.1 pc = .ok (.lcmp, 1)) (kk : RR μ k n (pc + 1) L (.int (zI 0) :: st) S h Q) : RR μ k n pc L (.long (zJ x) :: .long (zJ x) :: st) S h Q := by
  rw [← zJ_of (zJ x)]
  refine r_lcmp hd (zRl_to _) (zRl_to _) ?_
  rw [zCmp_eq.mpr rfl]
  exact kk
/-- what stands behind a case -/
def lGo (ξ : Nat × (Nat → Int)) (i : Int) : Prop := ∀ a h : zMm, WF a → CR a h → MR a h → RR (mL ξ) 108 32136 1421 [some (.ref 1300), some (.ref 0), some (.ref 81), some (.int (zI i))] [] zS0 h (zQb zS0 fun b _ => b = true)
/-- a case by its place -/
def lMs (ξ : Nat × (Nat → Int)) (pc : Nat) : Prop := ∀ (a h : zMm) (i : Int), WF a → CR a h → MR a h → (0 ≤ i ∧ i + 7 ≤ (ξ.1 : Int) ∧ ξ.1 ≤ 3584) → (∀ j : Nat, zR (ξ.2 j)) → lGo ξ i → RR (mL ξ) 108 32136 pc [some (.ref 1300), some (.ref 0), some (.ref 81), some (.int (zI i))] [] zS0 h (zQb zS0 fun b _ => b = true)
