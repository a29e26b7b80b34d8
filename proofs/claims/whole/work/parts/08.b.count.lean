/-! GRASS, counted -/
def gGr (Kd : Int → Int) : Int → Bool := fun k => decide (Kd k ≤ 1)
def gBr (Kd : Int → Int) : Int → Bool := fun k => decide (Kd k = 2)
def zSm (f : Int → Int) : Nat → Int
  | 0 => 0
  | n + 1 => zSm f n + f (n : Int)
theorem lRk_is (Kd : Int → Int) : ∀ n, lRk Kd n = zN36 (gGr Kd) n := by
  intro n
  induction n with
  | zero => rfl
  | succ n ih =>
    unfold lRk zN36
    rw [ih]
    by_cases c : Kd (n : Int) ≤ 1
    · rw [if_pos c, if_pos (show gGr Kd (n : Int) = true from decide_eq_true c)]
    · rw [if_neg c, if_neg (show ¬ gGr Kd (n : Int) = true from fun z => c (of_decide_eq_true z))]
theorem gB_R (Kd : Int → Int) : 0 ≤ zB (gGr Kd) 36 ∧ zB (gGr Kd) 36 < 68719476736 := zB_R (by decide)
theorem sX3_grassBits {S : zSh} {h : zMm} {K : Int → zMm → Prop} {o0 : Nat} {Kd : Int → Int} (hg0 : zG3 S o0) (hK : zKd (h (o0 + 1)) Kd) (w : K (zB (gGr Kd) 36) h) : zCl mX3_grassBits [.ref o0] S h K := by
  refine wX3_grassBits hg0 ?_
  have key : ∀ (n k : Nat), k + n = 36 → RR mX3_grassBits 0 0 4 [some (.ref o0), some (.long (zJ (zB (gGr Kd) k))), none, some (.int (zI (k : Int)))] [] S h (zQl S K) := by
    intro n
    induction n with
    | zero =>
      intro k hk
      refine bX3_grassBits_4 hg0 ⟨⟨by omega, by omega⟩, fun _ => ?_, fun c => absurd (by omega) c⟩
      rw [show k = 36 by omega]
      exact w
    | succ n ih =>
      intro k hk
      refine bX3_grassBits_4 hg0 ⟨⟨by omega, by omega⟩, fun c => absurd c (by omega), fun _ => sX3_isGrass' hg0 hK ⟨by omega, by omega⟩ ?_⟩
      have e : (if decide (Kd (k : Int) ≤ 1) = true then lO (zB (gGr Kd) k) (lSl 1 (k : Int)) else zB (gGr Kd) k) = zB (gGr Kd) (k + 1) := by
        by_cases c : Kd (k : Int) ≤ 1
        · rw [if_pos (decide_eq_true c)]
          exact zB_on (by omega) (decide_eq_true c)
        · rw [if_neg (fun z => c (of_decide_eq_true z))]
          exact (zB_off (decide_eq_false c)).symm
      rw [e, show (k : Int) + 1 = ((k + 1 : Nat) : Int) by omega]
      exact ih (k + 1) (by omega)
  exact key 36 0 (by omega)
theorem sX3_grassCells {S : zSh} {h : zMm} {K : Int → zMm → Prop} {o0 : Nat} {Kd : Int → Int} (hg0 : zG3 S o0) (hK : zKd (h (o0 + 1)) Kd) (w : K (zN36 (gGr Kd) 36) h) : zCi mX3_grassCells [.ref o0] S h K := by
  refine wX3_grassCells hg0 (sX3_grassBits hg0 hK (sJ13_bitCount (gB_R Kd) ?_))
  rw [lPc_zB]
  exact w
theorem sX12_grass {h : zMm} {K : Int → zMm → Prop} {Kd : Int → Int} (hK : zKd (h 92) Kd) (w : K (zB (gGr Kd) 36) h) : zCl mX12_grass [.ref 81] zS0 h K := by
  refine wX12_grass ?_
  have key : ∀ (n k : Nat), k + n = 36 → RR mX12_grass 0 0 4 [some (.ref 81), some (.long (zJ (zB (gGr Kd) k))), none, some (.int (zI (k : Int)))] [] zS0 h (zQl zS0 K) := by
    intro n
    induction n with
    | zero =>
      intro k hk
      refine bX12_grass_4 ⟨⟨by omega, by omega⟩, fun _ => ?_, fun c => absurd (by omega) c⟩
      rw [show k = 36 by omega]
      exact w
    | succ n ih =>
      intro k hk
      refine bX12_grass_4 ⟨⟨by omega, by omega⟩, fun c => absurd c (by omega), fun _ => sX12_isGrass hK ⟨by omega, by omega⟩ ?_⟩
      have e : lO (zB (gGr Kd) k) (if decide (Kd (k : Int) ≤ 1) = true then lSl 1 (k : Int) else 0) = zB (gGr Kd) (k + 1) := by
        by_cases c : Kd (k : Int) ≤ 1
        · rw [if_pos (decide_eq_true c)]
          exact zB_on (by omega) (decide_eq_true c)
        · have hr := zB_R (P := gGr Kd) (n := k) (by omega)
          rw [if_neg (fun z => c (of_decide_eq_true z)), lO_0 ⟨by omega, by omega⟩]
          exact (zB_off (decide_eq_false c)).symm
      rw [e, show (k : Int) + 1 = ((k + 1 : Nat) : Int) by omega]
      exact ih (k + 1) (by omega)
  exact key 36 0 (by omega)
theorem sX12_grassMany {h : zMm} {K : Int → zMm → Prop} {Kd : Int → Int} (hK : zKd (h 92) Kd) (w : K (zN36 (gGr Kd) 36) h) : zCi mX12_grassMany [.ref 81] zS0 h K := by
  refine wX12_grassMany ?_
  have key : ∀ (n k : Nat), k + n = 36 → RR mX12_grassMany 0 0 4 [some (.ref 81), some (.int (zI (zN36 (gGr Kd) k))), some (.int (zI (k : Int)))] [] zS0 h (zQi zS0 K) := by
    intro n
    induction n with
    | zero =>
      intro k hk
      refine bX12_grassMany_4 ⟨⟨by omega, by omega⟩, fun _ => ?_, fun c => absurd (by omega) c⟩
      rw [show k = 36 by omega]
      exact w
    | succ n ih =>
      intro k hk
      refine bX12_grassMany_4 ⟨⟨by omega, by omega⟩, fun c => absurd c (by omega), fun _ => sX12_isGrass hK ⟨by omega, by omega⟩ ?_⟩
      have e : zN36 (gGr Kd) k + bI (if decide (Kd (k : Int) ≤ 1) = true then true else false) = zN36 (gGr Kd) (k + 1) := by
        show _ = if gGr Kd (k : Int) = true then zN36 (gGr Kd) k + 1 else zN36 (gGr Kd) k
        by_cases c : Kd (k : Int) ≤ 1
        · rw [if_pos (decide_eq_true c), if_pos (show gGr Kd (k : Int) = true from decide_eq_true c)]
          rfl
        · rw [if_neg (fun z => c (of_decide_eq_true z)), if_neg (show ¬ gGr Kd (k : Int) = true from fun z => c (of_decide_eq_true z))]
          exact Int.add_zero _
      rw [e, show (k : Int) + 1 = ((k + 1 : Nat) : Int) by omega]
      exact ih (k + 1) (by omega)
  exact key 36 0 (by omega)
theorem sX3_barredCells {S : zSh} {h : zMm} {K : Int → zMm → Prop} {o0 : Nat} {Kd : Int → Int} (hg0 : zG3 S o0) (hK : zKd (h (o0 + 1)) Kd) (w : K (zN36 (gBr Kd) 36) h) : zCi mX3_barredCells [.ref o0] S h K := by
  refine wX3_barredCells hg0 ?_
  have key : ∀ (n k : Nat), k + n = 36 → RR mX3_barredCells 0 0 4 [some (.ref o0), some (.int (zI (zN36 (gBr Kd) k))), some (.int (zI (k : Int)))] [] S h (zQi S K) := by
    intro n
    induction n with
    | zero =>
      intro k hk
      refine bX3_barredCells_4 hg0 ⟨⟨by omega, by omega⟩, fun _ => ?_, fun c => absurd (by omega) c⟩
      rw [show k = 36 by omega]
      exact w
    | succ n ih =>
      intro k hk
      refine bX3_barredCells_4 hg0 ⟨⟨by omega, by omega⟩, fun c => absurd c (by omega), fun _ => sX3_isOpen' hg0 hK ⟨by omega, by omega⟩ ?_⟩
      have e : zN36 (gBr Kd) k + bI (if decide (¬ Kd (k : Int) = 2) = true then false else true) = zN36 (gBr Kd) (k + 1) := by
        show _ = if gBr Kd (k : Int) = true then zN36 (gBr Kd) k + 1 else zN36 (gBr Kd) k
        by_cases c : Kd (k : Int) = 2
        · rw [if_neg (fun z => (of_decide_eq_true z) c), if_pos (show gBr Kd (k : Int) = true from decide_eq_true c)]
          rfl
        · rw [if_pos (decide_eq_true c), if_neg (show ¬ gBr Kd (k : Int) = true from fun z => c (of_decide_eq_true z))]
          exact Int.add_zero _
      rw [e, show (k : Int) + 1 = ((k + 1 : Nat) : Int) by omega]
      exact ih (k + 1) (by omega)
  exact key 36 0 (by omega)
theorem sX3_heightsSummed {h : zMm} {K : Int → zMm → Prop} {a : zMm} (hH : zHA a h) (w : K (zSm (a 1) 36) h) : zCi mX3_heightsSummed [.ref 10] zS0 h K := by
  refine wX3_heightsSummed g0_10 ?_
  have key : ∀ (n k : Nat), k + n = 36 → RR mX3_heightsSummed 0 0 4 [some (.ref 10), some (.int (zI (zSm (a 1) k))), some (.int (zI (k : Int)))] [] zS0 h (zQi zS0 K) := by
    intro n
    induction n with
    | zero =>
      intro k hk
      refine bX3_heightsSummed_4 g0_10 ⟨⟨by omega, by omega⟩, fun _ => ?_, fun c => absurd (by omega) c⟩
      rw [show k = 36 by omega]
      exact w
    | succ n ih =>
      intro k hk
      refine bX3_heightsSummed_4 g0_10 ⟨⟨by omega, by omega⟩, fun c => absurd c (by omega), fun _ => ⟨⟨by omega, by omega⟩, ?_⟩⟩
      have e : zSm (a 1) k + h (10 + 2) (k : Int) = zSm (a 1) (k + 1) := by
        rw [show h (10 + 2) (k : Int) = a 1 (k : Int) from (hH (k : Int) (by omega) (by omega)).1]
        rfl
      rw [e, show (k : Int) + 1 = ((k + 1 : Nat) : Int) by omega]
      exact ih (k + 1) (by omega)
  exact key 36 0 (by omega)
/-! count -/
def fCount (a : zMm) (w : Int) : Int :=
  if w = 0 then zN36 (gGr (a 0)) 36 else if w = 1 then zN36 (gBr (a 0)) 36 else if w = 2 then a 7 0 else if w = 3 then a 7 4 + a 7 5 else if w = 4 then a 7 1 else if w = 5 then (if a 30 0 = -1 then -4 else a 31 0) else if w = 6 then zSm (a 1) 36 else -1
theorem WF.im {a : zMm} (W : WF a) : (a 7 4 = 0 ∨ a 7 4 = 1) ∧ (a 7 5 = 0 ∨ a 7 5 = 1) := ⟨W.2.2.2.2.2.2.1.1, W.2.2.2.2.2.2.1.2.1⟩
theorem bI_im {x : Int} (h : x = 0 ∨ x = 1) : bI (if x = 0 then false else true) = x := by
  rcases h with h | h <;> rw [h] <;> rfl
theorem cCount {a h : zMm} {v1 : Int} {K : Int → zMm → Prop} (W : WF a) (C : CR a h) (r1 : zR v1) (hK : K (fCount a v1) h) : zCi mX11_count [.ref 0, .int (zI v1)] zS0 h K := by
  obtain ⟨i1, i2⟩ := W.im
  obtain ⟨s1, s2, s3⟩ := W.2.2.2.2.2.2.2 0 (by decide)
  unfold fCount at hK
  have e4 : h 71 0 = a 7 4 := C.2.2.2.1.1
  have e5 : h 71 1 = a 7 5 := C.2.2.2.1.2.1
  obtain ⟨q1, q2, q3⟩ := C.2.2.2.2.1 0 (by decide)
  refine wX11_count ⟨r1, fun c => sX3_grassCells g0_10 C.1.1.1 ?_, fun c => sX3_barredCells g0_10 C.1.1.1 ?_, fun c => ?_, fun c => ?_, fun c => ?_, fun c => wX7_isNothing q0_73 ?_, fun c => sX3_heightsSummed (a := a) C.1.2.1 ?_, fun c => ?_⟩
  · rw [if_pos c] at hK
    exact hK
  · rw [if_neg (by omega), if_pos c] at hK
    exact hK
  · rw [if_neg (by omega), if_neg (by omega), if_pos c] at hK
    rw [show h 16 2 = a 7 0 from C.2.1.1]
    exact hK
  · rw [if_neg (by omega), if_neg (by omega), if_neg (by omega), if_pos c] at hK
    rw [e4, e5, bI_im i1, bI_im i2]
    exact ⟨⟨by omega, by omega⟩, ⟨by omega, by omega⟩, hK⟩
  · rw [if_neg (by omega), if_neg (by omega), if_neg (by omega), if_neg (by omega), if_pos c] at hK
    rw [show h 1 1 = a 7 1 from C.2.2.1.1]
    exact hK
  · rw [if_neg (by omega), if_neg (by omega), if_neg (by omega), if_neg (by omega), if_neg (by omega), if_pos c] at hK
    have q1' : h 73 1 = a 30 0 := q1
    have q2' : h 73 2 = a 31 0 := q2
    have s1' : -1 ≤ a 30 0 ∧ a 30 0 ≤ 2 := s1
    rw [q1', q2']
    refine ⟨⟨by omega, by omega⟩, fun d => ?_, fun d => ?_⟩
    · rw [if_neg (fun z => by rw [if_pos z] at d; cases d)] at hK
      exact hK
    · by_cases z : a 30 0 = -1
      · rw [if_pos z] at hK
        exact hK
      · rw [if_neg z] at d
        cases d
  · rw [if_neg (by omega), if_neg (by omega), if_neg (by omega), if_neg (by omega), if_neg (by omega), if_neg (by omega), if_pos c] at hK
    exact hK
  · rw [if_neg (by omega), if_neg (by omega), if_neg (by omega), if_neg (by omega), if_neg (by omega), if_neg (by omega), if_neg (by omega)] at hK
    exact hK
theorem mCount {a h : zMm} {v1 : Int} {K : Int → zMm → Prop} (W : WF a) (M : MR a h) (r1 : zR v1) (hK : ∀ h', MR a h' → zLo81 h h' → K (fCount a v1) h') : zCi mX12_count [.ref 81, .int (zI v1)] zS0 h K := by
  refine wX12_count (sX12_awake M ?_)
  intro h1 M1 A1 L1
  have hK := hK h1 M1 L1
  obtain ⟨i1, i2⟩ := W.im
  obtain ⟨s1, s2, s3⟩ := W.2.2.2.2.2.2.2 0 (by decide)
  unfold fCount at hK
  have e4 : h1 104 0 = a 7 4 := M1.2.2.1.1
  have e5 : h1 104 1 = a 7 5 := M1.2.2.1.2.1
  obtain ⟨q1, q2, q3⟩ := M1.2.2.2.1 0 (by decide)
  have key : ∀ (n k : Nat), k + n = 36 → RR mX12_count 0 0 11 [some (.ref 81), some (.int (zI v1)), some (.int (zI (zN36 (gBr (a 0)) k))), some (.int (zI (zSm (a 1) k))), some (.int (zI (k : Int)))] [] zS0 h1 (zQi zS0 K) := by
    intro n
    induction n with
    | zero =>
      intro k hk
      rw [show k = 36 by omega]
      refine bX12_count_11 ⟨⟨by omega, by omega⟩, fun _ => ⟨r1, fun c => sX12_grassMany A1.1.1 ?_, fun c => ?_, fun c => ?_, fun c => ?_, fun c => ?_, fun c => ?_, fun c => ?_, fun c => ?_⟩, fun c => absurd (by omega) c⟩
      · rw [if_pos c] at hK
        exact hK
      · rw [if_neg (by omega), if_pos c] at hK
        exact hK
      · rw [if_neg (by omega), if_neg (by omega), if_pos c] at hK
        rw [M1.size]
        exact hK
      · rw [if_neg (by omega), if_neg (by omega), if_neg (by omega), if_pos c] at hK
        rw [e4, e5, bI_im i1, bI_im i2]
        exact ⟨⟨by omega, by omega⟩, ⟨by omega, by omega⟩, hK⟩
      · rw [if_neg (by omega), if_neg (by omega), if_neg (by omega), if_neg (by omega), if_pos c] at hK
        rw [show h1 81 1 = a 7 1 from M1.2.1.1]
        exact hK
      · rw [if_neg (by omega), if_neg (by omega), if_neg (by omega), if_neg (by omega), if_neg (by omega), if_pos c] at hK
        have q1' : h1 105 0 = (if a 30 0 = -1 then -4 else a 30 0) := q1
        have q2' : h1 106 0 = a 31 0 := q2
        have s1' : -1 ≤ a 30 0 ∧ a 30 0 ≤ 2 := s1
        rw [q1', q2']
        by_cases z : a 30 0 = -1
        · rw [if_pos z] at hK ⊢
          exact ⟨by decide, fun d => absurd rfl d, fun _ => hK⟩
        · rw [if_neg z] at hK ⊢
          exact ⟨⟨by omega, by omega⟩, fun _ => hK, fun d => by omega⟩
      · rw [if_neg (by omega), if_neg (by omega), if_neg (by omega), if_neg (by omega), if_neg (by omega), if_neg (by omega), if_pos c] at hK
        exact hK
      · rw [if_neg (by omega), if_neg (by omega), if_neg (by omega), if_neg (by omega), if_neg (by omega), if_neg (by omega), if_neg (by omega)] at hK
        exact hK
    | succ n ih =>
      intro k hk
      obtain ⟨g1, g2, g3⟩ := A1.1.1 (k : Int) (by omega) (by omega)
      refine bX12_count_11 ⟨⟨by omega, by omega⟩, fun c => absurd c (by omega), fun _ => ⟨⟨by omega, by omega⟩, ?_⟩⟩
      rw [g1, (A1.1.2.2.2.2 (k : Int) (by omega) (by omega)).1]
      refine ⟨⟨by omega, by omega⟩, ⟨by omega, by omega⟩, ?_⟩
      have e : zN36 (gBr (a 0)) k + bI (if a 0 (k : Int) = 2 then true else false) = zN36 (gBr (a 0)) (k + 1) := by
        show _ = if gBr (a 0) (k : Int) = true then zN36 (gBr (a 0)) k + 1 else zN36 (gBr (a 0)) k
        by_cases c : a 0 (k : Int) = 2
        · rw [if_pos c, if_pos (show gBr (a 0) (k : Int) = true from decide_eq_true c)]
          rfl
        · rw [if_neg c, if_neg (show ¬ gBr (a 0) (k : Int) = true from fun z => c (of_decide_eq_true z))]
          exact Int.add_zero _
      rw [e, show (k : Int) + 1 = ((k + 1 : Nat) : Int) by omega]
      exact ih (k + 1) (by omega)
  exact key 36 0 (by omega)
