theorem r_max {μ : zMi} {k n pc : Nat} {L : List (Option Value)} {st : List Value} {S : zSh} {h : zMm} {Q : Option Value → zSh → zMm → Prop} {idx : Nat} {x y : Int} (hl : Cond.methodLink μ.1.cls idx Lib.Math.max.name ∈ zTb) (hs : Cond.static Lib.Math.max.name ∈ zTb) (hi : Cond.initialized "java/lang/Math" ∈ zTb) (hc : Cond.code Lib.Math.max.name Lib.Math.max.code 2 (some .int) ∈ zTb) (hd : decode μ.2.1 pc = .ok (.invokestatic idx, 3)) (hf : 1 ≤ μ.2.2.2.2.1.frames) (hlo : (st.map fun v => v.category).sum + 13 ≤ μ.2.2.2.2.1.locals) (hk : k ≤ μ.2.2.2.2.1.cells) (hn : n ≤ μ.2.2.2.2.1.slots) (hx : zR x) (hy : zR y) (kk : RR μ k n (pc + 3) L (.int (zI (max x y)) :: st) S h Q) : RR μ k n pc L (.int (zI y) :: .int (zI x) :: st) S h Q := by
  intro p l e s m args below meth c dC dI ca ρ B A Z H locs ls hC hG hN hH hL
  have hcat : ((st.map (zV ρ)).map fun v => v.category).sum = (st.map fun v => v.category).sum := by
    rw [List.map_map]
    congr 1
    exact List.map_congr_left (fun v _ => zV_cat ρ v)
  refine va_mmax hC.1 hC.2.1 (by rw [hC.2.2.2.1]; exact hL.1.symm) hC.2.2.2.2.1 (hC.2.2.2.2.2.1 _ hl) (hC.2.2.2.2.2.1 _ hs) (hC.2.2.2.2.2.1 _ hi) (hC.2.2.2.2.2.1 _ hc) hf (by rw [hcat]; exact hlo) hk hn hd ?_
  have ez : (if zI x < zI y then zI y else zI x) = zI (max x y) := by
    split
    · rename_i c0
      rw [zI_lt (by assumption) (by assumption)] at c0
      congr 1
      omega
    · rename_i c0
      rw [zI_lt (by assumption) (by assumption)] at c0
      congr 1
      omega
  rw [ez]
  exact (kk p l e s m args below meth c dC dI ca ρ B A Z H locs ls hC hG hN hH hL)
theorem r_min {μ : zMi} {k n pc : Nat} {L : List (Option Value)} {st : List Value} {S : zSh} {h : zMm} {Q : Option Value → zSh → zMm → Prop} {idx : Nat} {x y : Int} (hl : Cond.methodLink μ.1.cls idx Lib.Math.min.name ∈ zTb) (hs : Cond.static Lib.Math.min.name ∈ zTb) (hi : Cond.initialized "java/lang/Math" ∈ zTb) (hc : Cond.code Lib.Math.min.name Lib.Math.min.code 2 (some .int) ∈ zTb) (hd : decode μ.2.1 pc = .ok (.invokestatic idx, 3)) (hf : 1 ≤ μ.2.2.2.2.1.frames) (hlo : (st.map fun v => v.category).sum + 13 ≤ μ.2.2.2.2.1.locals) (hk : k ≤ μ.2.2.2.2.1.cells) (hn : n ≤ μ.2.2.2.2.1.slots) (hx : zR x) (hy : zR y) (kk : RR μ k n (pc + 3) L (.int (zI (min x y)) :: st) S h Q) : RR μ k n pc L (.int (zI y) :: .int (zI x) :: st) S h Q := by
  intro p l e s m args below meth c dC dI ca ρ B A Z H locs ls hC hG hN hH hL
  have hcat : ((st.map (zV ρ)).map fun v => v.category).sum = (st.map fun v => v.category).sum := by
    rw [List.map_map]
    congr 1
    exact List.map_congr_left (fun v _ => zV_cat ρ v)
  refine va_mmin hC.1 hC.2.1 (by rw [hC.2.2.2.1]; exact hL.1.symm) hC.2.2.2.2.1 (hC.2.2.2.2.2.1 _ hl) (hC.2.2.2.2.2.1 _ hs) (hC.2.2.2.2.2.1 _ hi) (hC.2.2.2.2.2.1 _ hc) hf (by rw [hcat]; exact hlo) hk hn hd ?_
  have ez : (if zI y < zI x then zI y else zI x) = zI (min x y) := by
    split
    · rename_i c0
      rw [zI_lt (by assumption) (by assumption)] at c0
      congr 1
      omega
    · rename_i c0
      rw [zI_lt (by assumption) (by assumption)] at c0
      congr 1
      omega
  rw [ez]
  exact (kk p l e s m args below meth c dC dI ca ρ B A Z H locs ls hC hG hN hH hL)
theorem mm_max_s : Cond.static Lib.Math.max.name ∈ zTb := sm_J9_max_7cf53
theorem mm_min_s : Cond.static Lib.Math.min.name ∈ zTb := sm_J9_min_7cf53
theorem mm_max_c : Cond.code Lib.Math.max.name Lib.Math.max.code 2 (some .int) ∈ zTb := zmem 699 (by decide +kernel) rfl
theorem mm_min_c : Cond.code Lib.Math.min.name Lib.Math.min.code 2 (some .int) ∈ zTb := zmem 702 (by decide +kernel) rfl
