/-! CELLS: kinds, what is ahead -/
def zKd (f Kd : Int → Int) : Prop := ∀ i : Int, 0 ≤ i → i < 36 → f i = Kd i ∧ 0 ≤ Kd i ∧ Kd i ≤ 4
/-- the cell a way on; -4: it is barred -/
def zNx (Kd : Int → Int) (c way : Int) : Int :=
  if way = 0 then (if 6 ≤ c ∧ ¬ Kd (c - 6) = 2 then c - 6 else -4)
  else if way = 1 then (if c % 6 < 5 ∧ ¬ Kd (c + 1) = 2 then c + 1 else -4)
  else if way = 2 then (if c < 30 ∧ ¬ Kd (c + 6) = 2 then c + 6 else -4)
  else (if 0 < c % 6 ∧ ¬ Kd (c - 1) = 2 then c - 1 else -4)
theorem zNx_R {Kd : Int → Int} {c way : Int} (hc : 0 ≤ c ∧ c < 36) : zNx Kd c way = -4 ∨ (0 ≤ zNx Kd c way ∧ zNx Kd c way < 36 ∧ ¬ Kd (zNx Kd c way) = 2) := by
  unfold zNx
  split
  · split
    · right; exact ⟨by omega, by omega, by rename_i z; exact z.2⟩
    · left; rfl
  · split
    · split
      · right; exact ⟨by omega, by omega, by rename_i z; exact z.2⟩
      · left; rfl
    · split
      · split
        · right; exact ⟨by omega, by omega, by rename_i z; exact z.2⟩
        · left; rfl
      · split
        · right; exact ⟨by omega, by omega, by rename_i z; exact z.2⟩
        · left; rfl
theorem sX3_told {S : zSh} {h : zMm} {K : Int → zMm → Prop} {o0 : Nat} {v1 : Int} (hg0 : zG3 S o0) (r1 : 0 ≤ v1 ∧ v1 ≤ 7) (w : K (h (o0 + 5) v1) h) : zCi mX3_told [.ref o0, .int (zI v1)] S h K := by
  refine wX3_told hg0 (sX11_isWithin ⟨by omega, by omega⟩ (by decide) (by decide) ?_)
  simp only [decide_eq_true_eq, decide_eq_false_iff_not]
  exact ⟨fun c => absurd r1 c, fun c => ⟨⟨by omega, by omega⟩, w⟩⟩
theorem sX3_isOpen {S : zSh} {h : zMm} {K : Bool → zMm → Prop} {o0 : Nat} {v1 : Int} {Kd : Int → Int} (hg0 : zG3 S o0) (hK : zKd (h (o0 + 1)) Kd) (r1 : zR v1) (w : K (decide (0 ≤ v1 ∧ v1 < 36 ∧ ¬ Kd v1 = 2)) h) : zCb mX3_isOpen [.ref o0, .int (zI v1)] S h K := by
  refine wX3_isOpen hg0 ⟨r1, fun c => ?_, fun c => ⟨fun c2 => ?_, fun c2 => ⟨⟨by omega, by omega⟩, ?_⟩⟩⟩
  · rw [decide_eq_false (by omega)] at w; exact w
  · rw [decide_eq_false (by omega)] at w; exact w
  · obtain ⟨h1, h2, h3⟩ := hK v1 (by omega) (by omega)
    rw [h1]
    refine ⟨⟨by omega, by omega⟩, ?_⟩
    have e : (if Kd v1 = 2 then false else true) = decide (0 ≤ v1 ∧ v1 < 36 ∧ ¬ Kd v1 = 2) := by
      rw [Bool.eq_iff_iff]
      simp
      omega
    rw [e]
    exact w
theorem sX3_isGrass {S : zSh} {h : zMm} {K : Bool → zMm → Prop} {o0 : Nat} {v1 : Int} {Kd : Int → Int} (hg0 : zG3 S o0) (hK : zKd (h (o0 + 1)) Kd) (r1 : zR v1) (w : K (decide (0 ≤ v1 ∧ v1 < 36 ∧ Kd v1 ≤ 1)) h) : zCb mX3_isGrass [.ref o0, .int (zI v1)] S h K := by
  refine wX3_isGrass hg0 (sX11_isCell r1 ?_)
  simp only [decide_eq_true_eq, decide_eq_false_iff_not]
  refine ⟨fun c => ?_, fun c => ⟨by omega, ?_⟩⟩
  · rw [decide_eq_false (by omega)] at w; exact w
  · obtain ⟨h1, h2, h3⟩ := hK v1 (by omega) (by omega)
    rw [h1]
    refine ⟨⟨by omega, by omega⟩, fun c2 => ?_, fun c2 => ?_⟩
    · rw [decide_eq_true (by omega)] at w; exact w
    · have e : (if Kd v1 = 1 then true else false) = decide (0 ≤ v1 ∧ v1 < 36 ∧ Kd v1 ≤ 1) := by
        rw [Bool.eq_iff_iff]
        simp
        omega
      rw [e]
      exact w
/-- isGrass of a cell -/
theorem sX3_isGrass' {S : zSh} {h : zMm} {K : Bool → zMm → Prop} {o0 : Nat} {v1 : Int} {Kd : Int → Int} (hg0 : zG3 S o0) (hK : zKd (h (o0 + 1)) Kd) (r1 : 0 ≤ v1 ∧ v1 < 36) (w : K (decide (Kd v1 ≤ 1)) h) : zCb mX3_isGrass [.ref o0, .int (zI v1)] S h K := by
  refine sX3_isGrass hg0 hK ⟨by omega, by omega⟩ ?_
  have e : decide (0 ≤ v1 ∧ v1 < 36 ∧ Kd v1 ≤ 1) = decide (Kd v1 ≤ 1) := by
    rw [Bool.eq_iff_iff]
    simp
    omega
  rw [e]
  exact w
theorem sX3_isOpen' {S : zSh} {h : zMm} {K : Bool → zMm → Prop} {o0 : Nat} {v1 : Int} {Kd : Int → Int} (hg0 : zG3 S o0) (hK : zKd (h (o0 + 1)) Kd) (r1 : 0 ≤ v1 ∧ v1 < 36) (w : K (decide (¬ Kd v1 = 2)) h) : zCb mX3_isOpen [.ref o0, .int (zI v1)] S h K := by
  refine sX3_isOpen hg0 hK ⟨by omega, by omega⟩ ?_
  have e : decide (0 ≤ v1 ∧ v1 < 36 ∧ ¬ Kd v1 = 2) = decide (¬ Kd v1 = 2) := by
    rw [Bool.eq_iff_iff]
    simp
    omega
  rw [e]
  exact w
theorem sX3_ahead {S : zSh} {h : zMm} {K : Int → zMm → Prop} {o0 : Nat} {v1 v2 : Int} {Kd : Int → Int} (hg0 : zG3 S o0) (hK : zKd (h (o0 + 1)) Kd) (r1 : 0 ≤ v1 ∧ v1 < 36) (r2 : 0 ≤ v2 ∧ v2 ≤ 3) (w : K (zNx Kd v1 v2) h) : zCi mX3_ahead [.ref o0, .int (zI v1), .int (zI v2)] S h K := by
  refine wX3_ahead hg0 ⟨⟨by omega, by omega⟩, ⟨by omega, by omega⟩, ?_⟩
  generalize hx : (if v2 = 0 then (v1 - 6) else (if v2 = 2 then (v1 + 6) else (if v2 = 1 then (if 5 ≤ (v1 % 6) then ((-4) : Int) else (v1 + 1)) else (if (v1 % 6) = 0 then ((-4) : Int) else (v1 - 1))))) = x
  have hx2 := hx.symm
  have hway : (v2 = 0 ∧ x = v1 - 6) ∨ (v2 = 1 ∧ x = if 5 ≤ v1 % 6 then -4 else v1 + 1) ∨ (v2 = 2 ∧ x = v1 + 6) ∨ (v2 = 3 ∧ x = if v1 % 6 = 0 then -4 else v1 - 1) := by
    rcases (show v2 = 0 ∨ v2 = 1 ∨ v2 = 2 ∨ v2 = 3 by omega) with c | c | c | c
    · exact Or.inl ⟨c, by rw [hx2, if_pos c]⟩
    · exact Or.inr (Or.inl ⟨c, by rw [hx2, if_neg (by omega), if_neg (by omega), if_pos c]⟩)
    · exact Or.inr (Or.inr (Or.inl ⟨c, by rw [hx2, if_neg (by omega), if_pos c]⟩))
    · exact Or.inr (Or.inr (Or.inr ⟨c, by rw [hx2, if_neg (by omega), if_neg (by omega), if_neg (by omega)]⟩))
  clear hx hx2
  have e : zNx Kd v1 v2 = if 0 ≤ x ∧ x < 36 ∧ ¬ Kd x = 2 then x else -4 := by
    unfold zNx
    rcases hway with ⟨rfl, a⟩ | ⟨rfl, a⟩ | ⟨rfl, a⟩ | ⟨rfl, a⟩
    · subst a
      by_cases c : Kd (v1 - 6) = 2
      · simp [c]
      · simp [c]
        split <;> split <;> omega
    · by_cases c5 : 5 ≤ v1 % 6
      · rw [if_pos c5] at a
        subst a
        simp; omega
      · rw [if_neg c5] at a
        subst a
        by_cases c : Kd (v1 + 1) = 2
        · simp [c]
        · simp [c]
          split <;> split <;> omega
    · subst a
      by_cases c : Kd (v1 + 6) = 2
      · simp [c]
      · simp [c]
        split <;> split <;> omega
    · by_cases c5 : v1 % 6 = 0
      · rw [if_pos c5] at a
        subst a
        simp; omega
      · rw [if_neg c5] at a
        subst a
        by_cases c : Kd (v1 - 1) = 2
        · simp [c]
        · simp [c]
          split <;> split <;> omega
  rw [e] at w
  refine sX3_isOpen hg0 hK ?_ ?_
  · rcases hway with ⟨rfl, a⟩ | ⟨rfl, a⟩ | ⟨rfl, a⟩ | ⟨rfl, a⟩ <;> (try split at a) <;> exact ⟨by omega, by omega⟩
  · simpa using w
theorem sX3_minutesOfStep {S : zSh} {h : zMm} {K : Int → zMm → Prop} {o0 : Nat} {v1 v2 : Int} {Kd : Int → Int} (hg0 : zG3 S o0) (hK : zKd (h (o0 + 1)) Kd) (r1 : 0 ≤ v1 ∧ v1 ≤ 3) (r2 : 0 ≤ v2 ∧ v2 < 36) (w : K (if v1 = 0 ∧ Kd v2 = 1 then h (o0 + 5) 2 else 1) h) : zCi mX3_minutesOfStep [.ref o0, .int (zI v1), .int (zI v2)] S h K := by
  refine wX3_minutesOfStep hg0 ⟨⟨by omega, by omega⟩, fun c => ?_, fun c => sX11_isCell ⟨by omega, by omega⟩ ?_⟩
  · rw [if_neg (by omega)] at w; exact w
  · simp only [decide_eq_true_eq, decide_eq_false_iff_not]
    obtain ⟨h1, h2, h3⟩ := hK v2 r2.1 r2.2
    rw [h1]
    refine ⟨fun c2 => absurd r2 c2, fun c2 => ⟨r2, ⟨by omega, by omega⟩, fun c3 => ?_, fun c3 => ?_⟩⟩
    · rw [if_neg (by omega)] at w; exact w
    · rw [if_pos ⟨c, c3⟩] at w; exact w
/-- minutes of a step on -/
def zMn (Kd R : Int → Int) (way to : Int) : Int := if way = 0 ∧ Kd to = 1 then R 2 else 1
/-! the model's -/
theorem sX12_isGrass {h : zMm} {K : Bool → zMm → Prop} {v1 : Int} {Kd : Int → Int} (hK : zKd (h 92) Kd) (r1 : 0 ≤ v1 ∧ v1 < 36) (w : K (decide (Kd v1 ≤ 1)) h) : zCb mX12_isGrass [.ref 81, .int (zI v1)] zS0 h K := by
  obtain ⟨h1, h2, h3⟩ := hK v1 r1.1 r1.2
  refine wX12_isGrass ⟨⟨by omega, by omega⟩, ?_⟩
  rw [h1]
  refine ⟨⟨by omega, by omega⟩, ?_⟩
  have e : (if 1 < Kd v1 then false else true) = decide (Kd v1 ≤ 1) := by
    rw [Bool.eq_iff_iff]
    simp
  rw [e]
  exact w
theorem sX12_minutesOf {h : zMm} {K : Int → zMm → Prop} {v1 v2 : Int} {Kd : Int → Int} (hK : zKd (h 92) Kd) (r1 : 0 ≤ v1 ∧ v1 < 36) (r2 : 0 ≤ v2 ∧ v2 ≤ 3) (w : K (if v2 = 0 ∧ Kd v1 = 1 then h 88 2 else 1) h) : zCi mX12_minutesOf [.ref 81, .int (zI v1), .int (zI v2)] zS0 h K := by
  obtain ⟨h1, h2, h3⟩ := hK v1 r1.1 r1.2
  refine wX12_minutesOf ⟨⟨by omega, by omega⟩, fun c => ?_, fun c => ⟨⟨by omega, by omega⟩, ?_⟩⟩
  · rw [if_neg (by omega)] at w; exact w
  · rw [h1]
    refine ⟨⟨by omega, by omega⟩, fun c3 => ?_, fun c3 => ?_⟩
    · rw [if_neg (by omega)] at w; exact w
    · rw [if_pos ⟨c, c3⟩] at w; exact w
theorem sX12_nextOf {h : zMm} {K : Int → zMm → Prop} {v1 v2 : Int} {Kd : Int → Int} (hK : zKd (h 92) Kd) (r1 : 0 ≤ v1 ∧ v1 < 36) (r2 : 0 ≤ v2 ∧ v2 ≤ 3) (w : K (zNx Kd v1 v2) h) : zCi mX12_nextOf [.ref 81, .int (zI v1), .int (zI v2)] zS0 h K := by
  refine wX12_nextOf ⟨⟨by omega, by omega⟩, ⟨by omega, by omega⟩, ?_⟩
  generalize hrw : (v1 / 6) + (if v2 = 2 then (1 : Int) else (if v2 = 0 then (-1 : Int) else (0 : Int))) = rw0
  have e1 : rw0 = v1 / 6 + (if v2 = 2 then 1 else if v2 = 0 then -1 else 0) := hrw.symm
  refine ⟨⟨by split at e1 <;> (try split at e1) <;> omega, by split at e1 <;> (try split at e1) <;> omega⟩, sX12_in ⟨by split at e1 <;> (try split at e1) <;> omega, by split at e1 <;> (try split at e1) <;> omega⟩ (by decide) (by decide) ?_⟩
  simp only [decide_eq_true_eq, decide_eq_false_iff_not]
  generalize hcl : (v1 % 6) + (if v2 = 1 then (1 : Int) else (if v2 = 3 then (-1 : Int) else (0 : Int))) = cl0
  have e2 : cl0 = v1 % 6 + (if v2 = 1 then 1 else if v2 = 3 then -1 else 0) := hcl.symm
  have hway : (v2 = 0 ∧ rw0 = v1 / 6 - 1 ∧ cl0 = v1 % 6) ∨ (v2 = 1 ∧ rw0 = v1 / 6 ∧ cl0 = v1 % 6 + 1) ∨ (v2 = 2 ∧ rw0 = v1 / 6 + 1 ∧ cl0 = v1 % 6) ∨ (v2 = 3 ∧ rw0 = v1 / 6 ∧ cl0 = v1 % 6 - 1) := by
    split at e1 <;> split at e2 <;> (try split at e1) <;> (try split at e2) <;> omega
  clear e1 e2 hrw hcl
  have nx : ∀ y : Int, (0 ≤ rw0 ∧ rw0 ≤ 5 ∧ 0 ≤ cl0 ∧ cl0 ≤ 5 → zNx Kd v1 v2 = if Kd (6 * rw0 + cl0) = 2 then -4 else 6 * rw0 + cl0) ∧ (¬ (0 ≤ rw0 ∧ rw0 ≤ 5 ∧ 0 ≤ cl0 ∧ cl0 ≤ 5) → zNx Kd v1 v2 = -4) := by
    intro _
    unfold zNx
    rcases hway with ⟨rfl, a, b⟩ | ⟨rfl, a, b⟩ | ⟨rfl, a, b⟩ | ⟨rfl, a, b⟩
    · have e3 : 6 * rw0 + cl0 = v1 - 6 := by omega
      rw [e3]
      refine ⟨fun z => ?_, fun z => ?_⟩
      · by_cases c : Kd (v1 - 6) = 2
        · simp [c]
        · simp [c]; omega
      · simp; omega
    · have e3 : 6 * rw0 + cl0 = v1 + 1 := by omega
      rw [e3]
      refine ⟨fun z => ?_, fun z => ?_⟩
      · by_cases c : Kd (v1 + 1) = 2
        · simp [c]
        · simp [c]; omega
      · simp; omega
    · have e3 : 6 * rw0 + cl0 = v1 + 6 := by omega
      rw [e3]
      refine ⟨fun z => ?_, fun z => ?_⟩
      · by_cases c : Kd (v1 + 6) = 2
        · simp [c]
        · simp [c]; omega
      · simp; omega
    · have e3 : 6 * rw0 + cl0 = v1 - 1 := by omega
      rw [e3]
      refine ⟨fun z => ?_, fun z => ?_⟩
      · by_cases c : Kd (v1 - 1) = 2
        · simp [c]
        · simp [c]; omega
      · simp; omega
  refine ⟨fun c => ?_, fun c => ⟨⟨by omega, by omega⟩, sX12_in ⟨by omega, by omega⟩ (by decide) (by decide) ?_⟩⟩
  · rw [(nx 0).2 (by omega)] at w; exact w
  simp only [decide_eq_true_eq, decide_eq_false_iff_not]
  refine ⟨fun c2 => ?_, fun c2 => ⟨⟨by omega, by omega⟩, ?_⟩⟩
  · rw [(nx 0).2 (by omega)] at w; exact w
  obtain ⟨h1, h2, h3⟩ := hK (6 * rw0 + cl0) (by omega) (by omega)
  rw [h1]
  rw [(nx 0).1 (by omega)] at w
  refine ⟨⟨by omega, by omega⟩, ?_⟩
  by_cases c3 : Kd (6 * rw0 + cl0) = 2
  · simpa [c3] using w
  · simpa [c3] using w
