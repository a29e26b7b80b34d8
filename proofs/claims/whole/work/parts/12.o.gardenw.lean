/-! TEXT: what is read is a garden -/
theorem aG_ok {a : zMm} (c : (yTx a).1 = 0) : (∀ i : Int, aGarden a 0 i = (yTx a).2.2.2 0 i ∧ aGarden a 1 i = (if (yTx a).2.2.2 0 i ≤ 1 then (yTx a).2.2.2 1 7 else 0) ∧ aGarden a 2 i = (yTx a).2.2.2 2 i ∧ aGarden a 3 i = -4 ∧ aGarden a 4 i = (yTx a).2.2.2 1 i) ∧ (aGarden a 7 0 = 0 ∧ aGarden a 7 1 = 0 ∧ aGarden a 7 2 = 0) ∧ (∀ i : Int, ¬ (i = 0 ∨ i = 1 ∨ i = 2) → aGarden a 7 i = a 7 i) ∧ ∀ o : Nat, 4 < o → o ≠ 7 → aGarden a o = a o := by
  unfold aGarden
  rw [if_pos c]
  refine ⟨fun i => ⟨rfl, rfl, rfl, rfl, rfl⟩, ⟨rfl, rfl, rfl⟩, fun i hi => ?_, fun o h4 h7 => ?_⟩
  · show (if 7 = 0 then _ else if 7 = 1 then _ else if 7 = 2 then _ else if 7 = 3 then _ else if 7 = 4 then _ else if 7 = 7 ∧ (i = 0 ∨ i = 1 ∨ i = 2) then (0 : Int) else a 7 i) = a 7 i
    rw [if_neg (by decide), if_neg (by decide), if_neg (by decide), if_neg (by decide), if_neg (by decide), if_neg (fun z => hi z.2)]
  · funext i
    show (if o = 0 then _ else if o = 1 then _ else if o = 2 then _ else if o = 3 then _ else if o = 4 then _ else if o = 7 ∧ (i = 0 ∨ i = 1 ∨ i = 2) then (0 : Int) else a o i) = a o i
    rw [if_neg (by omega), if_neg (by omega), if_neg (by omega), if_neg (by omega), if_neg (by omega), if_neg (fun z => h7 z.1)]
theorem aG_no {a : zMm} (c : ¬ (yTx a).1 = 0) : (aGarden a 7 1 = 0 ∧ aGarden a 7 2 = (yTx a).1) ∧ (∀ i : Int, ¬ (i = 1 ∨ i = 2) → aGarden a 7 i = a 7 i) ∧ ∀ o : Nat, o ≠ 7 → aGarden a o = a o := by
  unfold aGarden
  rw [if_neg c]
  refine ⟨⟨rfl, rfl⟩, fun i hi => ?_, fun o h7 => ?_⟩
  · show (if 7 = 7 ∧ i = 1 then (0 : Int) else if 7 = 7 ∧ i = 2 then _ else a 7 i) = a 7 i
    rw [if_neg (fun z => hi (Or.inl z.2)), if_neg (fun z => hi (Or.inr z.2))]
  · funext i
    show (if o = 7 ∧ i = 1 then (0 : Int) else if o = 7 ∧ i = 2 then _ else a o i) = a o i
    rw [if_neg (fun z => h7 z.1), if_neg (fun z => h7 z.1)]
theorem wGarden {a : zMm} (W : WF a) : WF (aGarden a) := by
  obtain ⟨W1, W2, W3, W4, W5, W6, W7, W8⟩ := W
  by_cases c : (yTx a).1 = 0
  · obtain ⟨O, o2⟩ := yTx_ok W5 c
    obtain ⟨g1, ⟨g70, g71, g72⟩, g7, go⟩ := aG_ok c
    have O7 : (0 : Int) ≤ (yTx a).2.2.2 1 7 ∧ (yTx a).2.2.2 1 7 ≤ 60 := O.2.1 7 (by decide) (by decide)
    refine ⟨fun i i0 i1 => ?_, ?_, ?_, ⟨?_, fun i i0 i1 => ?_⟩, ⟨?_, fun i i0 i1 => ?_⟩, ⟨?_, ?_⟩, ?_, fun k hk => ?_⟩
    · obtain ⟨q0, q1, q2, q3, q4⟩ := g1 i
      rw [q0, q1, q2, q3]
      refine ⟨(O.1 i i0 i1).1, ?_, (O.1 i i0 i1).2, Or.inl rfl, fun z => ⟨if_neg (by omega), rfl⟩⟩
      split
      · exact O7
      · exact ⟨by decide, by decide⟩
    · have q : ∀ r : Int, aGarden a 4 r = (yTx a).2.2.2 1 r := fun r => (g1 r).2.2.2.2
      unfold zRu
      rw [q, q, q, q, q, q, q, q]
      exact ⟨O.2.1 0 (by decide) (by decide), O.2.1 1 (by decide) (by decide), O.2.1 2 (by decide) (by decide), O.2.1 3 (by decide) (by decide), O.2.1 4 (by decide) (by decide), O.2.1 5 (by decide) (by decide), O.2.1 6 (by decide) (by decide), O7⟩
    · rw [(g1 0).2.2.2.2, (g1 _).1]; exact o2
    · rw [g70]; exact ⟨by decide, by decide⟩
    · rw [g70] at i1; exact absurd i1 (by omega)
    · rw [g71]; exact ⟨by decide, by decide⟩
    · rw [g71] at i1; exact absurd i1 (by omega)
    · rw [g72]; exact ⟨by decide, by decide⟩
    · rw [g7 3 (by decide)]; exact W6.2
    · rw [g7 4 (by decide), g7 5 (by decide)]
      unfold zWi at W7 ⊢
      rw [go 10 (by decide) (by decide), go (10 + 1) (by decide) (by decide), go (10 + 2) (by decide) (by decide), go (10 + 3) (by decide) (by decide), go (10 + 4) (by decide) (by decide), go (10 + 5) (by decide) (by decide), go 20 (by decide) (by decide), go (20 + 1) (by decide) (by decide), go (20 + 2) (by decide) (by decide), go (20 + 3) (by decide) (by decide), go (20 + 4) (by decide) (by decide), go (20 + 5) (by decide) (by decide)]
      exact W7
    · rw [go 30 (by decide) (by decide), go 31 (by decide) (by decide), go (32 + k) (by omega) (by omega)]
      exact W8 k hk
  · obtain ⟨⟨g71, g72⟩, g7, go⟩ := aG_no c
    have hR := yText_R a 322 d00 0 0
    refine ⟨?_, ?_, ?_, ?_, ⟨?_, fun i i0 i1 => ?_⟩, ⟨?_, ?_⟩, ?_, fun k hk => ?_⟩
    · rw [go 0 (by decide), go 1 (by decide), go 2 (by decide), go 3 (by decide)]; exact W1
    · rw [go 4 (by decide)]; exact W2
    · rw [go 4 (by decide), go 0 (by decide)]; exact W3
    · unfold zMW at W4 ⊢
      rw [g7 0 (by decide), go 5 (by decide), go 6 (by decide)]; exact W4
    · rw [g71]; exact ⟨by decide, by decide⟩
    · rw [g71] at i1; exact absurd i1 (by omega)
    · rw [g72]; exact hR
    · rw [g7 3 (by decide)]; exact W6.2
    · rw [g7 4 (by decide), g7 5 (by decide)]
      unfold zWi at W7 ⊢
      rw [go 10 (by decide), go (10 + 1) (by decide), go (10 + 2) (by decide), go (10 + 3) (by decide), go (10 + 4) (by decide), go (10 + 5) (by decide), go 20 (by decide), go (20 + 1) (by decide), go (20 + 2) (by decide), go (20 + 3) (by decide), go (20 + 4) (by decide), go (20 + 5) (by decide)]
      exact W7
    · rw [go 30 (by decide), go 31 (by decide), go (32 + k) (by omega)]
      exact W8 k hk
