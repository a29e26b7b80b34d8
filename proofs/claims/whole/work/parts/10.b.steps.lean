/-! steps, beyond, middle -/
noncomputable def fStp (a : zMm) (x y : Int) : Int := if (0 ≤ x ∧ x < 36) ∧ (0 ≤ y ∧ y < 36) then dS (a 0) x y else -1
theorem cSteps {a h : zMm} {v1 v2 : Int} {K : Int → zMm → Prop} (C : CR a h) (r1 : zR v1) (r2 : zR v2) (hK : ∀ h', CR a h' → zHi81 h h' → K (fStp a v1 v2) h') : zCi mX11_steps [.ref 0, .int (zI v1), .int (zI v2)] zS0 h K := by
  unfold fStp at hK
  refine wX11_steps (sX11_isCell r1 ?_)
  simp only [decide_eq_true_eq, decide_eq_false_iff_not]
  refine ⟨fun c => ?_, fun c => sX11_isCell r2 ?_⟩
  · rw [if_neg (fun z => c z.1)] at hK
    exact hK h C (fun _ _ => rfl)
  simp only [decide_eq_true_eq, decide_eq_false_iff_not]
  refine ⟨fun d => sX2_measure C c (fun h' Z F => ⟨d, ?_⟩), fun d => ?_⟩
  · rw [if_pos ⟨c, d⟩] at hK
    have key := hK h' (F.CR C) F.hi
    have e := dS_eq Z d.1 d.2
    have b := (Z v2 d.1 d.2).1
    rw [← e] at key
    refine ⟨by rcases b with z | z <;> exact ⟨by omega, by omega⟩, ?_⟩
    rcases b with z | z
    · rw [if_pos (by omega)]
      rw [z] at key
      exact key
    · rw [if_neg (by omega)]
      exact key
  · rw [if_neg (fun z => d z.2)] at hK
    exact hK h C (fun _ _ => rfl)
theorem mSteps {a h : zMm} {v1 v2 : Int} {K : Int → zMm → Prop} (M : MR a h) (r1 : zR v1) (r2 : zR v2) (hK : ∀ h', MR a h' → zLo81 h h' → K (fStp a v1 v2) h') : zCi mX12_steps [.ref 81, .int (zI v1), .int (zI v2)] zS0 h K := by
  unfold fStp at hK
  refine wX12_steps (sX12_awake M ?_)
  intro h1 M1 A1 L1
  refine sX12_isCell r1 ?_
  simp only [decide_eq_true_eq, decide_eq_false_iff_not]
  refine ⟨fun c => ?_, fun c => sX12_isCell r2 ?_⟩
  · rw [if_neg (fun z => c z.1)] at hK
    exact hK h1 M1 L1
  simp only [decide_eq_true_eq, decide_eq_false_iff_not]
  refine ⟨fun d => sX12_laySteps A1 c (fun h' E Z F => ⟨d, ?_⟩), fun d => ?_⟩
  · rw [if_pos ⟨c, d⟩] at hK
    have key := hK h' (F.MR M1) (L1.trans F.lo)
    have e := E v2 d.1 d.2
    have b := (Z v2 d.1 d.2).1
    rw [e]
    rcases b with z | z
    · rw [if_pos z]
      rw [z] at key
      exact ⟨by decide, fun y => absurd y (by decide), fun _ => key⟩
    · rw [if_neg (by omega)]
      exact ⟨⟨by omega, by omega⟩, fun _ => key, fun y => absurd z.2 y⟩
  · rw [if_neg (fun z => d z.2)] at hK
    exact hK h1 M1 L1
noncomputable def gBy (a : zMm) : Int → Bool := fun c => decide (a 0 c ≤ 1 ∧ (dS (a 0) (a 4 0) c < 0 ∨ a 4 5 < dS (a 0) (a 4 0) c))
theorem cBeyond {a h : zMm} {K : Int → zMm → Prop} (W : WF a) (C : CR a h) (hK : ∀ h', CR a h' → zHi81 h h' → K (zB (gBy a) 36) h') : zCl mX11_beyond [.ref 0] zS0 h K := by
  have W0 := W.2.1.1
  have R5 : 1 ≤ a 4 5 ∧ a 4 5 ≤ 99 := W.2.1.2.2.2.2.2.1
  refine wX11_beyond (sX3_told g0_10 (by omega) ?_)
  rw [show h (10 + 5) 0 = a 4 0 from C.1.1.2 0 (by decide) (by decide)]
  refine sX2_measure C ⟨by omega, by omega⟩ (fun h1 Z F => ?_)
  have C1 := F.CR C
  have key := hK h1 C1 F.hi
  have loop : ∀ (n k : Nat), k + n = 36 → RR mX11_beyond 0 0 23 [some (.ref 0), some (.long (zJ (zB (gBy a) k))), none, some (.int (zI (k : Int))), none] [] zS0 h1 (zQl zS0 K) := by
    intro n
    induction n with
    | zero =>
      intro k hk
      refine bX11_beyond_23 ⟨⟨by omega, by omega⟩, fun _ => ?_, fun d => absurd (by omega) d⟩
      rw [show k = 36 by omega]
      exact key
    | succ n ih =>
      intro k hk
      have this := ih (k + 1) (by omega)
      rw [show ((k + 1 : Nat) : Int) = (k : Int) + 1 by omega] at this
      have e : ∀ y, y = zB (gBy a) (k + 1) → RR mX11_beyond 0 0 23 [some (.ref 0), some (.long (zJ y)), none, some (.int (zI ((k : Int) + 1))), none] [] zS0 h1 (zQl zS0 K) := by
        intro y ey
        rw [ey]
        exact this
      have ed := dS_eq Z (c := (k : Int)) (by omega) (by omega)
      have b := (Z (k : Int) (by omega) (by omega)).1
      have on : (a 0 (k : Int) ≤ 1 ∧ (dS (a 0) (a 4 0) (k : Int) < 0 ∨ a 4 5 < dS (a 0) (a 4 0) (k : Int))) → lO (zB (gBy a) k) (lSl 1 (k : Int)) = zB (gBy a) (k + 1) := fun z => zB_on (by omega) (decide_eq_true z)
      have off : ¬ (a 0 (k : Int) ≤ 1 ∧ (dS (a 0) (a 4 0) (k : Int) < 0 ∨ a 4 5 < dS (a 0) (a 4 0) (k : Int))) → zB (gBy a) k = zB (gBy a) (k + 1) := fun z => (zB_off (decide_eq_false z)).symm
      refine bX11_beyond_23 ⟨⟨by omega, by omega⟩, fun d => absurd d (by omega), fun _ => ⟨⟨by omega, by omega⟩, sX3_isGrass' g0_10 C1.1.1.1 ⟨by omega, by omega⟩ ?_⟩⟩
      simp only [decide_eq_true_eq, decide_eq_false_iff_not]
      refine ⟨by rcases b with z | z <;> exact ⟨by omega, by omega⟩, fun d => e _ (off (fun z => d z.1)), fun d => ⟨fun f => e _ (on ⟨d, Or.inl (by omega)⟩), fun f => sX3_told g0_10 (by omega) ?_⟩⟩
      rw [show h1 (10 + 5) 5 = a 4 5 from C1.1.1.2 5 (by decide) (by decide)]
      refine ⟨⟨by omega, by omega⟩, e _ ?_⟩
      by_cases g : h1 29 (k : Int) ≤ a 4 5
      · rw [if_pos g]
        exact off (fun z => by omega)
      · rw [if_neg g]
        exact on ⟨d, Or.inr (by omega)⟩
  exact loop 36 0 (by decide)
theorem mBeyond {a h : zMm} {K : Int → zMm → Prop} (W : WF a) (M : MR a h) (hK : ∀ h', MR a h' → zLo81 h h' → K (zB (gBy a) 36) h') : zCl mX12_beyond [.ref 81] zS0 h K := by
  have W0 := W.2.1.1
  have R5 : 1 ≤ a 4 5 ∧ a 4 5 ≤ 99 := W.2.1.2.2.2.2.2.1
  refine wX12_beyond (sX12_awake M ?_)
  intro h0 M0 A0 L0
  rw [show h0 88 0 = a 4 0 from A0.1.2.1 0 (by decide) (by decide)]
  refine sX12_laySteps A0 ⟨by omega, by omega⟩ (fun h1 E Z F => ?_)
  have M1 := F.MR M0
  have A1 := F.mA A0
  have key := hK h1 M1 (L0.trans F.lo)
  have loop : ∀ (n k : Nat), k + n = 36 → RR mX12_beyond 0 0 18 [some (.ref 81), some (.long (zJ (zB (gBy a) k))), none, some (.int (zI (k : Int)))] [] zS0 h1 (zQl zS0 K) := by
    intro n
    induction n with
    | zero =>
      intro k hk
      refine bX12_beyond_18 ⟨⟨by omega, by omega⟩, fun _ => ?_, fun d => absurd (by omega) d⟩
      rw [show k = 36 by omega]
      exact key
    | succ n ih =>
      intro k hk
      have this := ih (k + 1) (by omega)
      rw [show ((k + 1 : Nat) : Int) = (k : Int) + 1 by omega] at this
      have e : ∀ y, y = zB (gBy a) (k + 1) → RR mX12_beyond 0 0 18 [some (.ref 81), some (.long (zJ y)), none, some (.int (zI ((k : Int) + 1)))] [] zS0 h1 (zQl zS0 K) := by
        intro y ey
        rw [ey]
        exact this
      have ed := E (k : Int) (by omega) (by omega)
      have b := (Z (k : Int) (by omega) (by omega)).1
      have hB := zB_R (P := gBy a) (n := k) (by omega)
      have on : (a 0 (k : Int) ≤ 1 ∧ (dS (a 0) (a 4 0) (k : Int) < 0 ∨ a 4 5 < dS (a 0) (a 4 0) (k : Int))) → lO (zB (gBy a) k) (lSl 1 (k : Int)) = zB (gBy a) (k + 1) := fun z => zB_on (by omega) (decide_eq_true z)
      have off : ¬ (a 0 (k : Int) ≤ 1 ∧ (dS (a 0) (a 4 0) (k : Int) < 0 ∨ a 4 5 < dS (a 0) (a 4 0) (k : Int))) → lO (zB (gBy a) k) 0 = zB (gBy a) (k + 1) := fun z => by rw [lO_0 ⟨by omega, by omega⟩]; exact (zB_off (decide_eq_false z)).symm
      refine bX12_beyond_18 ⟨⟨by omega, by omega⟩, fun d => absurd d (by omega), fun _ => sX12_isGrass A1.1.1 ⟨by omega, by omega⟩ ?_⟩
      simp only [decide_eq_true_eq, decide_eq_false_iff_not]
      rw [ed, show h1 88 5 = a 4 5 from A1.1.2.1 5 (by decide) (by decide)]
      refine ⟨fun d => e _ (off (fun z => d z.1)), fun d => ⟨⟨by omega, by omega⟩, ?_⟩⟩
      generalize hd : dS (a 0) (a 4 0) (k : Int) = x at *
      rcases b with z | z
      · rw [if_pos z]
        refine ⟨by decide, ⟨by omega, by omega⟩, e _ ?_⟩
        rw [if_neg (by omega)]
        exact on ⟨d, Or.inl (by omega)⟩
      · rw [if_neg (by omega)]
        refine ⟨⟨by omega, by omega⟩, ⟨by omega, by omega⟩, e _ ?_⟩
        by_cases g : x ≤ a 4 5
        · rw [if_pos g]
          exact off (fun z => by omega)
        · rw [if_neg g]
          exact on ⟨d, Or.inr (by omega)⟩
  exact loop 36 0 (by decide)
/-- the farthest grass of the first n; -4: none; -5: some is not reached -/
def gFg (Kd d : Int → Int) : Nat → Int
  | 0 => -4
  | n + 1 => if Kd (n : Int) ≤ 1 then (if gFg Kd d n = -5 ∨ d (n : Int) < 0 then -5 else max (gFg Kd d n) (d (n : Int))) else gFg Kd d n
theorem gFg_R {Kd d : Int → Int} : ∀ n : Nat, (∀ c : Int, 0 ≤ c → c < n → d c = -4 ∨ (0 ≤ d c ∧ d c < 1000000)) → -5 ≤ gFg Kd d n ∧ gFg Kd d n < 1000000 ∧ (gFg Kd d n < 0 → gFg Kd d n = -4 ∨ gFg Kd d n = -5) := by
  intro n
  induction n with
  | zero => intro _; exact ⟨by show (-5 : Int) ≤ -4; decide, by show (-4 : Int) < 1000000; decide, fun _ => Or.inl rfl⟩
  | succ n ih =>
    intro h
    have h1 := ih (fun c c0 c1 => h c c0 (by omega))
    have h2 := h (n : Int) (by omega) (by omega)
    unfold gFg
    split
    · split <;> omega
    · exact h1
noncomputable def dFg (a : zMm) (c : Int) : Int := gFg (a 0) (dS (a 0) c) 36
theorem dFg_R {a : zMm} {c : Int} (Z : zDi (a 0) c (dS (a 0) c)) : -5 ≤ dFg a c ∧ dFg a c < 1000000 ∧ (dFg a c < 0 → dFg a c = -4 ∨ dFg a c = -5) := gFg_R 36 (fun x x0 x1 => (Z x x0 (by omega)).1)
theorem sX2_toFarthestGrass {a h : zMm} {s : Int} {K : Int → zMm → Prop} (C : CR a h) (hs : 0 ≤ s ∧ s < 36) (hK : ∀ h', zDi (a 0) s (dS (a 0) s) → dF h h' → K (if dFg a s < 0 then -4 else dFg a s) h') : zCi mX2_toFarthestGrass [.ref 28, .ref 10, .int (zI s)] zS0 h K := by
  refine wX2_toFarthestGrass (sX2_measure C hs (fun h1 Z F => ?_))
  have C1 := F.CR C
  have key := hK h1 (dS_is Z) F
  have Z2 := dS_is Z
  unfold dFg at key
  have stay : ∀ (n k : Nat), k + n = 36 → gFg (a 0) (dS (a 0) s) k = -5 → gFg (a 0) (dS (a 0) s) 36 = -5 := by
    intro n
    induction n with
    | zero => intro k hk z; rw [show 36 = k by omega]; exact z
    | succ n ih =>
      intro k hk z
      refine ih (k + 1) (by omega) ?_
      unfold gFg
      rw [z]
      split <;> simp
  have loop : ∀ (n k : Nat), k + n = 36 → ¬ gFg (a 0) (dS (a 0) s) k = -5 → RR mX2_toFarthestGrass 0 0 12 [some (.ref 28), some (.ref 10), none, some (.int (zI (gFg (a 0) (dS (a 0) s) k))), some (.int (zI (k : Int)))] [] zS0 h1 (zQi zS0 K) := by
    intro n
    induction n with
    | zero =>
      intro k hk z
      refine bX2_toFarthestGrass_12 ⟨⟨by omega, by omega⟩, fun _ => ?_, fun d => absurd (by omega) d⟩
      have e36 : k = 36 := by omega
      subst e36
      have r := gFg_R (Kd := a 0) (d := dS (a 0) s) 36 (fun x x0 x1 => (Z2 x x0 (by omega)).1)
      by_cases c : gFg (a 0) (dS (a 0) s) 36 < 0
      · rw [if_pos c] at key
        rw [show gFg (a 0) (dS (a 0) s) 36 = -4 by omega]
        exact key
      · rw [if_neg c] at key
        exact key
    | succ n ih =>
      intro k hk z
      have r := gFg_R (Kd := a 0) (d := dS (a 0) s) k (fun x x0 x1 => (Z2 x x0 (by omega)).1)
      have ed := dS_eq Z (c := (k : Int)) (by omega) (by omega)
      have b := (Z2 (k : Int) (by omega) (by omega)).1
      have es : gFg (a 0) (dS (a 0) s) (k + 1) = if a 0 (k : Int) ≤ 1 then (if gFg (a 0) (dS (a 0) s) k = -5 ∨ dS (a 0) s (k : Int) < 0 then -5 else max (gFg (a 0) (dS (a 0) s) k) (dS (a 0) s (k : Int))) else gFg (a 0) (dS (a 0) s) k := rfl
      have ih1 := ih (k + 1) (by omega)
      rw [show ((k + 1 : Nat) : Int) = (k : Int) + 1 by omega] at ih1
      refine bX2_toFarthestGrass_12 ⟨⟨by omega, by omega⟩, fun d => absurd d (by omega), fun _ => sX3_isGrass' g0_10 C1.1.1.1 ⟨by omega, by omega⟩ ?_⟩
      simp only [decide_eq_true_eq, decide_eq_false_iff_not]
      rw [ed]
      refine ⟨fun d => ?_, fun d => ⟨⟨by omega, by omega⟩, by rcases b with y | y <;> exact ⟨by omega, by omega⟩, fun f => ⟨⟨by omega, by omega⟩, ?_⟩, fun f => ?_⟩⟩
      · rw [if_neg d] at es
        rw [es] at ih1
        exact ih1 z
      · rw [if_pos d, if_neg (by omega)] at es
        rw [es] at ih1
        exact ih1 (by omega)
      · rw [if_pos d, if_pos (by omega)] at es
        rw [stay n (k + 1) (by omega) es, if_pos (by decide)] at key
        exact key
  exact loop 36 0 (by decide) (by show ¬ (-4 : Int) = -5; decide)
/-- the middle of the first n: its cell, how far -/
noncomputable def gMi (a : zMm) : Nat → Int × Int
  | 0 => (-4, -4)
  | n + 1 => if 0 ≤ dFg a (n : Int) ∧ ((gMi a n).1 < 0 ∨ dFg a (n : Int) < (gMi a n).2) then ((n : Int), dFg a (n : Int)) else gMi a n
theorem gMi_R {a : zMm} : ∀ n : Nat, (∀ c : Int, 0 ≤ c → c < n → dFg a c < 1000000) → ((gMi a n).1 = -4 ∧ (gMi a n).2 = -4) ∨ (0 ≤ (gMi a n).1 ∧ (gMi a n).1 < n ∧ 0 ≤ (gMi a n).2 ∧ (gMi a n).2 < 1000000) := by
  intro n
  induction n with
  | zero => intro _; exact Or.inl ⟨rfl, rfl⟩
  | succ n ih =>
    intro h
    have h1 := ih (fun c c0 c1 => h c c0 (by omega))
    have h2 := h (n : Int) (by omega) (by omega)
    unfold gMi
    split
    · rename_i c
      refine Or.inr ⟨?_, ?_, c.1, h2⟩
      · show 0 ≤ (n : Int); omega
      · show (n : Int) < ((n + 1 : Nat) : Int); omega
    · omega
noncomputable def fMiddle (a : zMm) (w : Int) : Int := if 0 ≤ w ∧ w ≤ 1 then (if w = 0 then (gMi a 36).1 else (gMi a 36).2) else -1
/-- every cell has its distances -/
def dAll (a : zMm) : Prop := ∀ c : Int, 0 ≤ c → c < 36 → zDi (a 0) c (dS (a 0) c)
theorem cMiddle {a h : zMm} {v1 : Int} {K : Int → zMm → Prop} (C : CR a h) (r1 : zR v1) (hK : ∀ h', CR a h' → zHi81 h h' → K (fMiddle a v1) h') : zCi mX11_middle [.ref 0, .int (zI v1)] zS0 h K := by
  unfold fMiddle at hK
  refine wX11_middle (sX11_isWithin r1 (by decide) (by decide) ?_)
  simp only [decide_eq_true_eq, decide_eq_false_iff_not]
  refine ⟨fun c => ?_, fun c => ?_⟩
  · rw [if_pos c] at hK
    have loop : ∀ (n k : Nat) (h' : zMm), k + n = 36 → dF h h' → (∀ x : Int, 0 ≤ x → x < k → zDi (a 0) x (dS (a 0) x)) → RR mX11_middle 0 0 20 [some (.ref 0), some (.int (zI v1)), some (.int (zI (gMi a k).1)), some (.int (zI (gMi a k).2)), some (.int (zI (k : Int))), none] [] zS0 h' (zQi zS0 K) := by
      intro n
      induction n with
      | zero =>
        intro k h' hk F Z
        refine bX11_middle_20 ⟨⟨by omega, by omega⟩, fun _ => ⟨r1, ?_⟩, fun d => absurd (by omega) d⟩
        rw [show k = 36 by omega]
        exact hK h' (F.CR C) F.hi
      | succ n ih =>
        intro k h' hk F Z
        have g := gMi_R (a := a) k (fun x x0 x1 => (dFg_R (Z x x0 x1)).2.1)
        refine bX11_middle_20 ⟨⟨by omega, by omega⟩, fun d => absurd d (by omega), fun _ => sX2_toFarthestGrass (F.CR C) ⟨by omega, by omega⟩ (fun h2 Z2 F2 => ?_)⟩
        have r := dFg_R Z2
        have next := ih (k + 1) h2 (by omega) (F.trans F2) (fun x x0 x1 => by
          by_cases e : x = (k : Int)
          · rw [e]; exact Z2
          · exact Z x x0 (by omega))
        rw [show ((k + 1 : Nat) : Int) = (k : Int) + 1 by omega] at next
        have es : gMi a (k + 1) = if 0 ≤ dFg a (k : Int) ∧ ((gMi a k).1 < 0 ∨ dFg a (k : Int) < (gMi a k).2) then ((k : Int), dFg a (k : Int)) else gMi a k := rfl
        rw [es] at next
        refine ⟨by split <;> exact ⟨by omega, by omega⟩, by rcases g with z | z <;> exact ⟨by omega, by omega⟩, by rcases g with z | z <;> exact ⟨by omega, by omega⟩, ?_⟩
        have fin : ∀ x y : Int, x = (if 0 ≤ dFg a (k : Int) ∧ ((gMi a k).1 < 0 ∨ dFg a (k : Int) < (gMi a k).2) then ((k : Int), dFg a (k : Int)) else gMi a k).1 → y = (if 0 ≤ dFg a (k : Int) ∧ ((gMi a k).1 < 0 ∨ dFg a (k : Int) < (gMi a k).2) then ((k : Int), dFg a (k : Int)) else gMi a k).2 → RR mX11_middle 0 0 20 [some (.ref 0), some (.int (zI v1)), some (.int (zI x)), some (.int (zI y)), some (.int (zI ((k : Int) + 1))), none] [] zS0 h2 (zQi zS0 K) := by
          intro x y ex ey
          rw [ex, ey]
          exact next
        by_cases c1 : dFg a (k : Int) < 0
        · rw [if_pos c1]
          refine fin _ _ ?_ ?_
          · rw [if_pos (by decide), if_neg (by omega)]
          · rw [if_pos (by decide), if_neg (by omega)]
        · rw [if_neg c1, if_neg c1, if_neg c1]
          by_cases c2 : (gMi a k).1 < 0
          · refine fin _ _ ?_ ?_
            · rw [if_pos c2, if_pos (by omega)]
            · rw [if_pos c2, if_pos (by omega)]
          · by_cases c3 : (gMi a k).2 ≤ dFg a (k : Int)
            · refine fin _ _ ?_ ?_
              · rw [if_neg c2, if_pos c3, if_neg (by omega)]
              · rw [if_neg c2, if_pos c3, if_neg (by omega)]
            · refine fin _ _ ?_ ?_
              · rw [if_neg c2, if_neg c3, if_pos (by omega)]
              · rw [if_neg c2, if_neg c3, if_pos (by omega)]
    exact loop 36 0 h (by decide) (fun _ _ _ => rfl) (fun x x0 x1 => absurd x1 (by omega))
  · rw [if_neg c] at hK
    exact hK h C (fun _ _ => rfl)
/-- the model's farthest: -1 no grass, 1000000 some is not reached -/
def gMf (x : Int) : Int := if x = -4 then -1 else if x = -5 then 1000000 else x
theorem mMiddle {a h : zMm} {v1 : Int} {K : Int → zMm → Prop} (M : MR a h) (r1 : zR v1) (hK : ∀ h', MR a h' → zLo81 h h' → K (fMiddle a v1) h') : zCi mX12_middle [.ref 81, .int (zI v1)] zS0 h K := by
  unfold fMiddle at hK
  refine wX12_middle (sX12_awake M ?_)
  intro h0 M0 A0 L0
  refine ⟨r1, sX12_in r1 (by decide) (by decide) ?_⟩
  simp only [decide_eq_true_eq, decide_eq_false_iff_not]
  refine ⟨fun c => ?_, fun c => ?_⟩
  · rw [if_pos c] at hK
    have eT : ∀ {h1 h2 h3 : zMm}, eF h1 h2 → eF h2 h3 → eF h1 h3 := fun p q o c1 => (q o c1).trans (p o c1)
    have loop : ∀ (n k : Nat) (h' : zMm), k + n = 36 → eF h0 h' → (∀ x : Int, 0 ≤ x → x < k → zDi (a 0) x (dS (a 0) x)) → RR mX12_middle 0 0 25 [some (.ref 81), some (.int (zI v1)), some (.int (zI (gMi a k).1)), some (.int (zI (if (gMi a k).1 < 0 then 1000000 else (gMi a k).2))), some (.int (zI (k : Int))), none, none] [] zS0 h' (zQi zS0 K) := by
      intro n
      induction n with
      | zero =>
        intro k h' hk F Z
        have g := gMi_R (a := a) k (fun x x0 x1 => (dFg_R (Z x x0 x1)).2.1)
        refine bX12_middle_25 ⟨⟨by omega, by omega⟩, fun _ => ⟨by rcases g with z | z <;> exact ⟨by omega, by omega⟩, r1, ?_⟩, fun d => absurd (by omega) d⟩
        have key := hK h' (F.MR M0) (L0.trans F.lo)
        rw [show k = 36 by omega] at g ⊢
        rcases g with z | z
        · rw [if_pos z.1]
          rw [z.1, z.2] at key
          rw [z.1]
          split at key <;> exact key
        · rw [if_neg (by omega)]
          by_cases d : v1 = 0
          · rw [if_pos d] at key ⊢
            exact key
          · rw [if_neg d] at key ⊢
            rw [if_neg (by omega)]
            exact key
      | succ n ih =>
        intro k h' hk F Z
        have g := gMi_R (a := a) k (fun x x0 x1 => (dFg_R (Z x x0 x1)).2.1)
        refine bX12_middle_25 ⟨⟨by omega, by omega⟩, fun d => absurd d (by omega), fun _ => sX12_laySteps (F.mA A0) ⟨by omega, by omega⟩ (fun h2 E Z2 F2 => ?_)⟩
        have F3 := eT F F2
        have A3 := F3.mA A0
        have r := dFg_R Z2
        have next := ih (k + 1) h2 (by omega) F3 (fun x x0 x1 => by
          by_cases e : x = (k : Int)
          · rw [e]; exact Z2
          · exact Z x x0 (by omega))
        rw [show ((k + 1 : Nat) : Int) = (k : Int) + 1 by omega] at next
        have es : gMi a (k + 1) = if 0 ≤ dFg a (k : Int) ∧ ((gMi a k).1 < 0 ∨ dFg a (k : Int) < (gMi a k).2) then ((k : Int), dFg a (k : Int)) else gMi a k := rfl
        -- a barred cell reaches no grass
        have barred : a 0 (k : Int) = 2 → dFg a (k : Int) < 0 := by
          intro hb
          have no : ∀ x : Int, 0 ≤ x → x < 36 → dS (a 0) (k : Int) x < 0 := by
            intro x x0 x1
            by_cases y : 0 ≤ dS (a 0) (k : Int) x
            · exfalso
              have hr := (Z2 x x0 x1).2.1 y
              have : ∀ (n : Nat) (x : Int), ¬ rB (a 0) (k : Int) n x := by
                intro n
                induction n with
                | zero => intro x hx; exact hx.2 hb
                | succ n ih => intro x hx; obtain ⟨p, way, _, hp, _⟩ := hx; exact ih p hp
              exact this _ x hr
            · omega
          have : ∀ n : Nat, n ≤ 36 → gFg (a 0) (dS (a 0) (k : Int)) n < 0 := by
            intro n
            induction n with
            | zero => intro _; show (-4 : Int) < 0; decide
            | succ n ih =>
              intro hn
              unfold gFg
              have := no (n : Int) (by omega) (by omega)
              split
              · rw [if_pos (Or.inr this)]
                decide
              · exact ih (by omega)
          exact this 36 (by decide)
        have inner : ∀ (m j : Nat), j + m = 36 → RR mX12_middle 0 0 44 [some (.ref 81), some (.int (zI v1)), some (.int (zI (gMi a k).1)), some (.int (zI (if (gMi a k).1 < 0 then 1000000 else (gMi a k).2))), some (.int (zI (k : Int))), some (.int (zI (gMf (gFg (a 0) (dS (a 0) (k : Int)) j)))), some (.int (zI (j : Int)))] [] zS0 h2 (zQi zS0 K) := by
          intro m
          induction m with
          | zero =>
            intro j hj
            have k92 := A3.1.1 (k : Int) (by omega) (by omega)
            rw [show j = 36 by omega]
            have eg : gMf (gFg (a 0) (dS (a 0) (k : Int)) 36) = gMf (dFg a (k : Int)) := rfl
            rw [eg]
            have gr : -1 ≤ gMf (dFg a (k : Int)) ∧ gMf (dFg a (k : Int)) ≤ 1000000 := by
              unfold gMf
              split
              · omega
              · split <;> omega
            have best : ∀ v5 : Int, v5 = gMf (dFg a (k : Int)) → ((if a 0 (k : Int) = 2 then false else (if v5 < 0 then false else (if (if (gMi a k).1 < 0 then 1000000 else (gMi a k).2) ≤ v5 then false else true))) = true ↔ (0 ≤ dFg a (k : Int) ∧ ((gMi a k).1 < 0 ∨ dFg a (k : Int) < (gMi a k).2))) := by
              intro v5 e5
              by_cases c1 : a 0 (k : Int) = 2
              · rw [if_pos c1]
                have := barred c1
                exact ⟨fun z => (by cases z), fun z => absurd z.1 (by omega)⟩
              · rw [if_neg c1]
                by_cases c2 : dFg a (k : Int) < 0
                · rcases r.2.2 c2 with z | z
                  · have : v5 = -1 := by rw [e5, z]; rfl
                    rw [if_pos (by omega)]
                    exact ⟨fun z => (by cases z), fun z => absurd z.1 (by omega)⟩
                  · have : v5 = 1000000 := by rw [e5, z]; rfl
                    rw [if_neg (by omega), if_pos (by rcases g with y | y <;> split <;> omega)]
                    exact ⟨fun z => (by cases z), fun z => absurd z.1 (by omega)⟩
                · have : v5 = dFg a (k : Int) := by
                    rw [e5]
                    unfold gMf
                    rw [if_neg (by omega), if_neg (by omega)]
                  rw [if_neg (by omega)]
                  by_cases c3 : (gMi a k).1 < 0
                  · rw [if_pos c3, if_neg (by omega)]
                    exact ⟨fun _ => ⟨by omega, Or.inl c3⟩, fun _ => rfl⟩
                  · rw [if_neg c3]
                    by_cases c4 : (gMi a k).2 ≤ v5
                    · rw [if_pos c4]
                      exact ⟨fun z => (by cases z), fun z => absurd z.2 (by omega)⟩
                    · rw [if_neg c4]
                      exact ⟨fun _ => ⟨by omega, Or.inr (by omega)⟩, fun _ => rfl⟩
            refine bX12_middle_44 ⟨by decide, fun _ => ⟨⟨by omega, by omega⟩, ?_⟩, fun d => absurd (by decide) d⟩
            rw [k92.1]
            refine ⟨⟨by omega, by omega⟩, ⟨by omega, by omega⟩, by rcases g with y | y <;> split <;> exact ⟨by omega, by omega⟩, ?_⟩
            have bb := best _ rfl
            by_cases q : 0 ≤ dFg a (k : Int) ∧ ((gMi a k).1 < 0 ∨ dFg a (k : Int) < (gMi a k).2)
            · rw [if_pos (bb.2 q), if_pos (bb.2 q)]
              rw [if_pos q] at es
              rw [es] at next
              have e5 : gMf (dFg a (k : Int)) = dFg a (k : Int) := by
                unfold gMf
                rw [if_neg (by omega), if_neg (by omega)]
              rw [e5]
              have : ¬ ((k : Int), dFg a (k : Int)).1 < 0 := by show ¬ (k : Int) < 0; omega
              rw [if_neg this] at next
              exact next
            · rw [if_neg (fun z => q (bb.1 z)), if_neg (fun z => q (bb.1 z))]
              rw [if_neg q] at es
              rw [es] at next
              exact next
          | succ m ihm =>
            intro j hj
            have rj := gFg_R (Kd := a 0) (d := dS (a 0) (k : Int)) j (fun x x0 x1 => (Z2 x x0 (by omega)).1)
            have ed := E (j : Int) (by omega) (by omega)
            have b := (Z2 (j : Int) (by omega) (by omega)).1
            have ej : gFg (a 0) (dS (a 0) (k : Int)) (j + 1) = if a 0 (j : Int) ≤ 1 then (if gFg (a 0) (dS (a 0) (k : Int)) j = -5 ∨ dS (a 0) (k : Int) (j : Int) < 0 then -5 else max (gFg (a 0) (dS (a 0) (k : Int)) j) (dS (a 0) (k : Int) (j : Int))) else gFg (a 0) (dS (a 0) (k : Int)) j := rfl
            have ih1 := ihm (j + 1) (by omega)
            rw [show ((j + 1 : Nat) : Int) = (j : Int) + 1 by omega] at ih1
            generalize gFg (a 0) (dS (a 0) (k : Int)) j = x at *
            generalize dS (a 0) (k : Int) (j : Int) = y at *
            have xr : -1 ≤ gMf x ∧ gMf x ≤ 1000000 := by
              unfold gMf
              split
              · omega
              · split <;> omega
            refine bX12_middle_44 ⟨⟨by omega, by omega⟩, fun d => absurd d (by omega), fun _ => sX12_isGrass A3.1.1 ⟨by omega, by omega⟩ ?_⟩
            simp only [decide_eq_true_eq, decide_eq_false_iff_not]
            rw [ed]
            refine ⟨fun d => ?_, fun d => ⟨⟨by omega, by omega⟩, by split <;> exact ⟨by omega, by omega⟩, ⟨by omega, by omega⟩, fun f => ?_, fun f => ?_⟩⟩
            · rw [if_neg d] at ej
              rw [ej] at ih1
              exact ih1
            · rw [if_pos d] at ej
              have : gMf (gFg (a 0) (dS (a 0) (k : Int)) (j + 1)) = gMf x := by
                rw [ej]
                by_cases c5 : x = -5
                · rw [if_pos (Or.inl c5), c5]
                · by_cases c6 : y < 0
                  · exfalso
                    rw [if_pos (by omega)] at f
                    unfold gMf at f
                    (repeat' split at f) <;> omega
                  · rw [if_neg (by omega)]
                    rw [if_neg (by omega)] at f
                    have : max x y = x := by
                      unfold gMf at f
                      (repeat' split at f) <;> omega
                    rw [this]
              rw [this] at ih1
              exact ih1
            · rw [if_pos d] at ej
              have : gMf (gFg (a 0) (dS (a 0) (k : Int)) (j + 1)) = (if y = -4 then 1000000 else y) := by
                rw [ej]
                by_cases c5 : x = -5
                · exfalso
                  rw [c5] at f
                  have : gMf (-5) = 1000000 := rfl
                  rw [this] at f
                  split at f <;> omega
                · by_cases c6 : y < 0
                  · rw [if_pos (Or.inr c6), if_pos (by omega)]
                    rfl
                  · rw [if_neg (by omega), if_neg (by omega)]
                    rw [if_neg (by omega)] at f
                    have : max x y = y := by
                      unfold gMf at f
                      (repeat' split at f) <;> omega
                    rw [this]
                    unfold gMf
                    rw [if_neg (by omega), if_neg (by omega)]
              rw [this] at ih1
              exact ih1
        exact inner 36 0 (by decide)
    exact loop 36 0 h0 (by decide) (fun _ _ => rfl) (fun x x0 x1 => absurd x1 (by omega))
  · rw [if_neg c] at hK
    exact hK h0 M0 L0
