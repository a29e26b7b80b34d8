/-! TEXT: what garden() comes to, by numbers -/
theorem yDue_R (a : zMm) (s k : Int) : 0 ≤ yDue a s k ∧ yDue a s k ≤ 2 := by
  unfold yDue
  repeat' split
  all_goals exact ⟨by decide, by decide⟩
theorem yNum_R (a : zMm) (s lo hi : Int) : 0 ≤ yNum a s lo hi ∧ yNum a s lo hi ≤ 3 := by
  have := yDue_R a s 2
  unfold yNum
  repeat' split
  all_goals omega
theorem yBody_R (a d : zMm) (s : Int) : 0 ≤ (yBody a d s).1 ∧ (yBody a d s).1 ≤ 5 := by
  have h1 := yDue_R a (gEn a s) 1
  have h2 := yNum_R a (gEn a s) 0 35
  have h3 := yNum_R a (gEn a (gEn a s)) 0 9
  have h4 := yNum_R a (gEn a s) (yLo (gNm a s)) (yHi (gNm a s))
  unfold yBody
  repeat' split
  all_goals (dsimp only; omega)
theorem yLine_R (a d : zMm) (s : Int) : 0 ≤ (yLine a d s).1 ∧ (yLine a d s).1 ≤ 5 := by
  have h1 := yDue_R a s 1
  have h2 := yBody_R a d s
  have h3 := yDue_R a (yBody a d s).2.2.1 3
  unfold yLine
  repeat' split
  all_goals first | (dsimp only; omega) | omega
theorem yText_R (a : zMm) : ∀ (r : Nat) (d : zMm) (s l : Int), 0 ≤ (yText a r d s l).1 ∧ (yText a r d s l).1 ≤ 6 := by
  intro r
  induction r with
  | zero => intro d s l; exact ⟨Int.le_refl 0, (by decide : (0 : Int) ≤ 6)⟩
  | succ r ih =>
    intro d s l
    have h1 := yLine_R a d s
    have h2 := ih (yLine a d s).2.2.2 (yLine a d s).2.2.1 (l + 1)
    unfold yText
    repeat' split
    all_goals first | (dsimp only; omega) | omega
theorem yText_ok {a : zMm} (T : gTa a) : ∀ (r i : Nat) (d : zMm) (s l : Int), i + r = 322 → (i : Int) ≤ s → s ≤ a 7 1 → yOk d → (yText a r d s l).1 = 0 → yOk (yText a r d s l).2.2.2 ∧ ¬ (yText a r d s l).2.2.2 0 ((yText a r d s l).2.2.2 1 0) = 2 := by
  have hn := T.1
  intro r
  induction r with
  | zero => intro i d s l hi his hs; exact absurd his (by omega)
  | succ r ih =>
    intro i d s l hi his hs O h0
    by_cases c5 : gTk a s = 5
    · have eT : yText a (r + 1) d s l = if d 0 (d 1 0) = 2 then (6, a 7 1, l, d) else (0, 0, l, d) := if_pos c5
      by_cases c2 : d 0 (d 1 0) = 2
      · rw [eT, if_pos c2] at h0; exact absurd (show (6 : Int) = 0 from h0) (by decide)
      · rw [eT, if_neg c2]; exact ⟨O, c2⟩
    · have eT : yText a (r + 1) d s l = if ¬ (yLine a d s).1 = 0 then ((yLine a d s).1, (yLine a d s).2.1, l, d) else yText a r (yLine a d s).2.2.2 (yLine a d s).2.2.1 (l + 1) := if_neg c5
      by_cases z : (yLine a d s).1 = 0
      · rw [if_neg (fun y => y z)] at eT
        obtain ⟨O', up, le⟩ := yLine_ok T ⟨by omega, hs⟩ O z
        rw [eT] at h0 ⊢
        exact ih (i + 1) _ _ _ (by omega) (by omega) le O' h0
      · rw [eT, if_pos z] at h0; exact absurd h0 z
theorem yTx_ok {a : zMm} (T : gTa a) (h0 : (yTx a).1 = 0) : yOk (yTx a).2.2.2 ∧ ¬ (yTx a).2.2.2 0 ((yTx a).2.2.2 1 0) = 2 := yText_ok T 322 0 d00 0 0 rfl (Int.le_refl _) T.1.1 d00_ok h0
def aGarden (a : zMm) : zMm :=
  if (yTx a).1 = 0 then fun o i => if o = 0 then (yTx a).2.2.2 0 i else if o = 1 then (if (yTx a).2.2.2 0 i ≤ 1 then (yTx a).2.2.2 1 7 else 0) else if o = 2 then (yTx a).2.2.2 2 i else if o = 3 then -4 else if o = 4 then (yTx a).2.2.2 1 i else if o = 7 ∧ (i = 0 ∨ i = 1 ∨ i = 2) then 0 else a o i
  else fun o i => if o = 7 ∧ i = 1 then 0 else if o = 7 ∧ i = 2 then (yTx a).1 else a o i
def fGarden (a : zMm) : Int := if (yTx a).1 = 0 then (yTx a).2.2.1 else -10 - (yTx a).2.1
