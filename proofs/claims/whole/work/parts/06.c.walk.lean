/-! THE WALK, as numbers: 'w 22' the walk's fields (2 minutes, 3 cut, 4 went, 5 stopped, 6 emptied, 7 load, 8 place, 9 quarters, 10 wet, 11 left, 12 fullest, 13 first grass, 14 beginning, 15 room), 'w 23' heights, 'w 24' pictures, 'w 96' the cells gone -/
def gMeet (dew way : Int) (w : zMm) : zMm :=
  if dew ≤ w 22 14 + w 22 2 then
    (if w 22 15 < w 22 7 + w 23 (w 22 8) then zU (if 0 ≤ w 22 13 then w else zU w 22 13 (w 22 2)) 22 11 (w 22 11 + 1)
    else zU (zU (zU (zU (zU (if 0 ≤ w 22 13 then w else zU w 22 13 (w 22 2)) 22 7 (w 22 7 + w 23 (w 22 8))) 22 12 (max (w 22 12) (w 22 7 + w 23 (w 22 8)))) 23 (w 22 8) 0) 24 (w 22 8) way) 22 3 (w 22 3 + 1))
  else zU (if 0 ≤ w 22 13 then w else zU w 22 13 (w 22 2)) 22 10 (w 22 10 + 1)
def gGo (Kd R : Int → Int) (way x : Int) (w : zMm) : zMm :=
  if Kd x = 4 ∧ 0 < w 22 7 then zU (zU (zU (zU (zU (zU (zU w 22 2 (w 22 2 + zMn Kd R way x)) 22 8 x) 22 4 (w 22 4 + 1)) 96 (w 22 4 + 1) x) 22 7 0) 22 6 (w 22 6 + 1)) 22 2 (w 22 2 + zMn Kd R way x + R 4)
  else zU (zU (zU (zU w 22 2 (w 22 2 + zMn Kd R way x)) 22 8 x) 22 4 (w 22 4 + 1)) 96 (w 22 4 + 1) x
def gStep (Kd R : Int → Int) (way : Int) (w : zMm) : zMm :=
  if 0 ≤ zNx Kd (w 22 8) way then
    (if 0 < w 23 (zNx Kd (w 22 8) way) then gMeet (R 6) way (gGo Kd R way (zNx Kd (w 22 8) way) w) else gGo Kd R way (zNx Kd (w 22 8) way) w)
  else zU w 22 5 1
def gSteps (Kd R : Int → Int) (way : Int) : Nat → zMm → zMm
  | 0, w => w
  | n + 1, w => if w 22 5 = 0 then gSteps Kd R way n (gStep Kd R way w) else w
def gTurn (R : Int → Int) (look way : Int) (w : zMm) : zMm := zU (zU w 22 9 (w 22 9 + zQ look way)) 22 2 (w 22 2 + zQ look way * R 1)
def gMoves (Kd R Wy Ln : Int → Int) : Nat → Int → Int → zMm → zMm
  | 0, _, _, w => w
  | n + 1, i, look, w => if w 22 5 = 0 then gMoves Kd R Wy Ln n (i + 1) (Wy i) (gSteps Kd R (Wy i) (Ln i).toNat (gTurn R look (Wy i) w)) else w
def gW0 (a : zMm) (minute bag : Int) : zMm := fun o i => if o = 23 then a 1 i else if o = 24 then a 3 i else if o = 96 then a 4 0 else if i = 8 then a 4 0 else if i = 13 then -1 else if i = 14 then minute else if i = 15 then bag else 0
def gW (a : zMm) (minute bag : Int) : zMm := gMoves (a 0) (a 4) (a 5) (a 6) (a 7 0).toNat 0 0 (gW0 a minute bag)
/-- the rules' bounds -/
def zRu (R : Int → Int) : Prop := (0 ≤ R 0 ∧ R 0 ≤ 35) ∧ (0 ≤ R 1 ∧ R 1 ≤ 3) ∧ (1 ≤ R 2 ∧ R 2 ≤ 4) ∧ (1 ≤ R 3 ∧ R 3 ≤ 200) ∧ (0 ≤ R 4 ∧ R 4 ≤ 9) ∧ (1 ≤ R 5 ∧ R 5 ≤ 99) ∧ (0 ≤ R 6 ∧ R 6 ≤ 999) ∧ (0 ≤ R 7 ∧ R 7 ≤ 60)
def gOk (T G : Int) (w : zMm) : Prop := (0 ≤ w 22 8 ∧ w 22 8 < 36) ∧ (0 ≤ w 22 2 ∧ w 22 2 ≤ 20 * T) ∧ (0 ≤ w 22 3 ∧ w 22 3 ≤ T) ∧ (0 ≤ w 22 4 ∧ w 22 4 ≤ G) ∧ (w 22 5 = 0 ∨ w 22 5 = 1) ∧ (0 ≤ w 22 6 ∧ w 22 6 ≤ T) ∧ (0 ≤ w 22 7 ∧ w 22 7 ≤ 2160) ∧ (0 ≤ w 22 9 ∧ w 22 9 ≤ 2 * T) ∧ (0 ≤ w 22 10 ∧ w 22 10 ≤ T) ∧ (0 ≤ w 22 11 ∧ w 22 11 ≤ T) ∧ (0 ≤ w 22 12 ∧ w 22 12 ≤ 2160) ∧ (-1 ≤ w 22 13 ∧ w 22 13 ≤ 20 * T) ∧ (0 ≤ w 22 14 ∧ w 22 14 ≤ 999) ∧ (0 ≤ w 22 15 ∧ w 22 15 ≤ 2160) ∧ (∀ i : Int, 0 ≤ i → i < 36 → 0 ≤ w 23 i ∧ w 23 i ≤ 60)
theorem zMn_R {Kd R : Int → Int} (hR : zRu R) (way x : Int) : 1 ≤ zMn Kd R way x ∧ zMn Kd R way x ≤ 4 := by
  unfold zMn
  obtain ⟨-, -, h2, -⟩ := hR
  split <;> omega
theorem gOk.mono {T T' G G' : Int} {w : zMm} (h : gOk T G w) (h1 : T ≤ T') (h2 : G ≤ G') : gOk T' G' w := by
  obtain ⟨a1, a2, a3, a4, a5, a6, a7, a8, a9, a10, a11, a12, a13, a14, a15⟩ := h
  exact ⟨a1, by omega, by omega, by omega, a5, by omega, a7, by omega, by omega, by omega, a11, by omega, a13, a14, a15⟩
/-- updates that keep the bounds -/
theorem gOk_meet {T G dew way : Int} {w : zMm} (h : gOk T G w) : gOk (T + 1) G (gMeet dew way w) := by
  obtain ⟨a1, a2, a3, a4, a5, a6, a7, a8, a9, a10, a11, a12, a13, a14, a15⟩ := h
  have hp := a15 (w 22 8) a1.1 a1.2
  unfold gMeet
  by_cases c0 : 0 ≤ w 22 13
  · rw [if_pos c0]
    by_cases c1 : dew ≤ w 22 14 + w 22 2
    · rw [if_pos c1]
      by_cases c2 : w 22 15 < w 22 7 + w 23 (w 22 8)
      · rw [if_pos c2]
        refine ⟨?_, ?_, ?_, ?_, ?_, ?_, ?_, ?_, ?_, ?_, ?_, ?_, ?_, ?_, ?_⟩
        all_goals first | (simp [zU]; done) | (simp [zU]; omega) | skip
      · rw [if_neg c2]
        refine ⟨?_, ?_, ?_, ?_, ?_, ?_, ?_, ?_, ?_, ?_, ?_, ?_, ?_, ?_, ?_⟩
        all_goals first | (simp [zU]; done) | (simp [zU]; omega) | skip
        intro i hi0 hi1
        have := a15 i hi0 hi1
        by_cases ci : i = w 22 8
        · simp [zU, ci]
        · simpa [zU, ci] using this
    · rw [if_neg c1]
      refine ⟨?_, ?_, ?_, ?_, ?_, ?_, ?_, ?_, ?_, ?_, ?_, ?_, ?_, ?_, ?_⟩
      all_goals first | (simp [zU]; done) | (simp [zU]; omega) | skip
  · rw [if_neg c0]
    by_cases c1 : dew ≤ w 22 14 + w 22 2
    · rw [if_pos c1]
      by_cases c2 : w 22 15 < w 22 7 + w 23 (w 22 8)
      · rw [if_pos c2]
        refine ⟨?_, ?_, ?_, ?_, ?_, ?_, ?_, ?_, ?_, ?_, ?_, ?_, ?_, ?_, ?_⟩
        all_goals first | (simp [zU]; done) | (simp [zU]; omega) | skip
      · rw [if_neg c2]
        refine ⟨?_, ?_, ?_, ?_, ?_, ?_, ?_, ?_, ?_, ?_, ?_, ?_, ?_, ?_, ?_⟩
        all_goals first | (simp [zU]; done) | (simp [zU]; omega) | skip
        intro i hi0 hi1
        have := a15 i hi0 hi1
        by_cases ci : i = w 22 8
        · simp [zU, ci]
        · simpa [zU, ci] using this
    · rw [if_neg c1]
      refine ⟨?_, ?_, ?_, ?_, ?_, ?_, ?_, ?_, ?_, ?_, ?_, ?_, ?_, ?_, ?_⟩
      all_goals first | (simp [zU]; done) | (simp [zU]; omega) | skip
theorem gOk_go {T G way x : Int} {Kd R : Int → Int} {w : zMm} (hR : zRu R) (h : gOk T G w) (hx : 0 ≤ x ∧ x < 36) : gOk (T + 1) (G + 1) (gGo Kd R way x w) := by
  obtain ⟨a1, a2, a3, a4, a5, a6, a7, a8, a9, a10, a11, a12, a13, a14, a15⟩ := h
  have hm := zMn_R (Kd := Kd) hR way x
  obtain ⟨-, -, -, -, h4, -⟩ := hR
  unfold gGo
  by_cases c1 : Kd x = 4 ∧ 0 < w 22 7
  · rw [if_pos c1]
    refine ⟨?_, ?_, ?_, ?_, ?_, ?_, ?_, ?_, ?_, ?_, ?_, ?_, ?_, ?_, ?_⟩
    all_goals first | (simp [zU]; done) | (simp [zU]; omega) | skip
  · rw [if_neg c1]
    refine ⟨?_, ?_, ?_, ?_, ?_, ?_, ?_, ?_, ?_, ?_, ?_, ?_, ?_, ?_, ?_⟩
    all_goals first | (simp [zU]; done) | (simp [zU]; omega) | skip
theorem gOk_step {T G way : Int} {Kd R : Int → Int} {w : zMm} (hR : zRu R) (h : gOk T G w) : gOk (T + 2) (G + 1) (gStep Kd R way w) := by
  unfold gStep
  by_cases c1 : 0 ≤ zNx Kd (w 22 8) way
  · rw [if_pos c1]
    have hx : 0 ≤ zNx Kd (w 22 8) way ∧ zNx Kd (w 22 8) way < 36 := by
      rcases zNx_R (Kd := Kd) (way := way) h.1 with z | z <;> omega
    split
    · exact (gOk_meet (gOk_go hR h hx)).mono (by omega) (by omega)
    · exact (gOk_go hR h hx).mono (by omega) (by omega)
  · rw [if_neg c1]
    obtain ⟨a1, a2, a3, a4, a5, a6, a7, a8, a9, a10, a11, a12, a13, a14, a15⟩ := h
    refine ⟨?_, ?_, ?_, ?_, ?_, ?_, ?_, ?_, ?_, ?_, ?_, ?_, ?_, ?_, ?_⟩
    all_goals first | (simp [zU]; done) | (simp [zU]; omega) | skip
theorem gOk_turn {T G look way : Int} {R : Int → Int} {w : zMm} (hR : zRu R) (h : gOk T G w) : gOk (T + 1) G (gTurn R look way w) := by
  obtain ⟨a1, a2, a3, a4, a5, a6, a7, a8, a9, a10, a11, a12, a13, a14, a15⟩ := h
  have hq := zQ_R look way
  have hm : 0 ≤ zQ look way * R 1 ∧ zQ look way * R 1 ≤ 6 := by
    obtain ⟨-, h1, -⟩ := hR
    rcases (show zQ look way = 0 ∨ zQ look way = 1 ∨ zQ look way = 2 by omega) with z | z | z <;> rw [z] <;> omega
  unfold gTurn
  refine ⟨?_, ?_, ?_, ?_, ?_, ?_, ?_, ?_, ?_, ?_, ?_, ?_, ?_, ?_, ?_⟩
  all_goals first | (simp [zU]; done) | (simp [zU]; omega) | skip
theorem gOk_steps {way : Int} {Kd R : Int → Int} (hR : zRu R) : ∀ (n : Nat) (T G : Int) (w : zMm), gOk T G w → gOk (T + 2 * n) (G + n) (gSteps Kd R way n w) := by
  intro n
  induction n with
  | zero => intro T G w h; exact h.mono (by omega) (by omega)
  | succ n ih =>
    intro T G w h
    unfold gSteps
    split
    · exact (ih _ _ _ (gOk_step hR h)).mono (by omega) (by omega)
    · exact h.mono (by omega) (by omega)
