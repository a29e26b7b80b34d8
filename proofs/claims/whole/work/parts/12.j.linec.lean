/-! TEXT: the class takes a line -/
def yFr (h h' : zMm) : Prop := ∀ o, ¬ (o = 1 ∨ o = 3 ∨ o = 5 ∨ o = 7 ∨ o = 9) → h' o = h o
theorem yFr.trans {h g k : zMm} (f : yFr h g) (f2 : yFr g k) : yFr h k := fun o ho => (f2 o ho).trans (f o ho)
theorem yFr.up {h g : zMm} (f : yFr h g) {o : Nat} {i x : Int} (ho : o = 1 ∨ o = 3 ∨ o = 5 ∨ o = 7 ∨ o = 9) : yFr h (zU g o i x) := fun q hq => (zU_off q (fun z => hq (by rw [z]; exact ho))).trans (f q hq)
theorem yFr.rd {a h g k : zMm} {s : Int} (f : yFr h g) (R : gRd a g s k) : yFr h k := fun o ho => (R.1 o (fun z => ho (Or.inl z))).trans (f o ho)
/-- what is read, in the class's cells -/
def yC (d h : zMm) : Prop := (∀ i : Int, 0 ≤ i → i < 36 → h 5 i = d 0 i) ∧ (∀ r : Int, 0 ≤ r → r ≤ 7 → h 9 r = d 1 r) ∧ (∀ i : Int, 0 ≤ i → i < 36 → h 7 i = d 2 i) ∧ h 3 4 = d 5 0 ∧ (∃ P : Int → Bool, h 3 5 = zB P 10 ∧ ∀ m : Int, 0 ≤ m → m ≤ 7 → P (m + 1) = decide (d 3 m = 1)) ∧ ∃ P : Int → Bool, h 3 6 = zB P 36 ∧ ∀ c : Int, 0 ≤ c → c < 36 → P c = decide (d 4 c = 1)
theorem yC.rd {a d g k : zMm} {s : Int} (D : yC d g) (R : gRd a g s k) : yC d k := by
  have e : ∀ o : Nat, o ≠ 1 → k o = g o := R.1
  unfold yC at D ⊢
  rw [e 5 (by decide), e 9 (by decide), e 7 (by decide), e 3 (by decide)]
  exact D
theorem sX9_sign {a d h g : zMm} {K : Bool → zMm → Prop} {s s' : Int} (T : gTa a) (C : cT a g) (s0 : 0 ≤ s' ∧ s' ≤ a 7 1) (g4 : g 1 4 = s') (f : yFr h g) (g3 : g 3 3 = h 3 3) (g31 : g 3 1 = h 3 1) (hL : ¬ yDue a s 1 = 0 → False) (hN : ¬ gNm a s = -4) {d' : zMm} (hB : yBody a d s = (0, 0, s', d')) (D : yC d' g)
    (w1 : (yLine a d s).1 = 0 → ∀ h', yFr h h' → cT a h' → h' 1 4 = (yLine a d s).2.2.1 → yC (yLine a d s).2.2.2 h' → h' 3 3 = h 3 3 → h' 3 1 = h 3 1 → K true h')
    (w0 : ¬ (yLine a d s).1 = 0 → ∀ h', yFr h h' → cT a h' → h' 3 1 = (yLine a d s).1 → h' 3 2 = (yLine a d s).2.1 → K false h') : zCv mX8_readToken [.ref 1] zS0 g (fun h6 => zCb mX9_isDue [.ref 3, .ref 1, .int (zI 3)] zS0 h6 (fun b7 h7 => K b7 h7)) := by
  have eL : yLine a d s = if ¬ yDue a s' 3 = 0 then (yDue a s' 3, gSb a s', s, d) else (0, 0, gEn a s', d') := by
    unfold yLine
    rw [if_neg hL, if_neg hN, hB]
    rfl
  refine sX8_readToken T C g4 s0 (fun h6 R => ?_)
  have R2 := R
  obtain ⟨r1, r2, r3, r4, r5, r6⟩ := R2
  have C6 := gRd.C C R
  refine sX9_isDue ⟨by decide, by decide⟩ r3 r4 (fun c => ?_) (fun c => ?_)
  · rw [if_neg (fun z => z c)] at eL
    rw [eL] at w1
    exact w1 rfl h6 (f.rd R) C6 r5 (D.rd R) (by rw [r1 3 (by decide)]; exact g3) (by rw [r1 3 (by decide)]; exact g31)
  · rw [if_pos c] at eL
    rw [eL] at w0
    refine w0 c _ (((f.rd R).up (Or.inr (Or.inl rfl))).up (Or.inr (Or.inl rfl))) ⟨?_, ?_⟩ ?_ (zU_eq _ _ _ _)
    · rw [zU_off 1 (by decide), zU_off 1 (by decide)]; exact C6.1
    · rw [zU_off 2 (by decide), zU_off 2 (by decide)]; exact C6.2
    · rw [zU_ne (by omega), zU_eq]
