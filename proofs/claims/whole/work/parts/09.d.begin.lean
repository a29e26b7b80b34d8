/-! begin, need: two walks beside each other -/
theorem gMeet_f {dew way : Int} {w : zMm} : (gMeet dew way w) 22 13 = (if 0 ≤ w 22 13 then w 22 13 else w 22 2) ∧ (gMeet dew way w) 22 10 = (if dew ≤ w 22 14 + w 22 2 then w 22 10 else w 22 10 + 1) ∧ (gMeet dew way w) 22 11 = (if dew ≤ w 22 14 + w 22 2 ∧ w 22 15 < w 22 7 + w 23 (w 22 8) then w 22 11 + 1 else w 22 11) ∧ (gMeet dew way w) 22 12 = (if dew ≤ w 22 14 + w 22 2 ∧ ¬ w 22 15 < w 22 7 + w 23 (w 22 8) then max (w 22 12) (w 22 7 + w 23 (w 22 8)) else w 22 12) ∧ (gMeet dew way w) 22 7 = (if dew ≤ w 22 14 + w 22 2 ∧ ¬ w 22 15 < w 22 7 + w 23 (w 22 8) then w 22 7 + w 23 (w 22 8) else w 22 7) ∧ (gMeet dew way w) 22 2 = w 22 2 ∧ (gMeet dew way w) 22 14 = w 22 14 ∧ (gMeet dew way w) 22 15 = w 22 15 ∧ (gMeet dew way w) 22 8 = w 22 8 ∧ (gMeet dew way w) 22 5 = w 22 5 ∧ ∀ i, (gMeet dew way w) 23 i = if (dew ≤ w 22 14 + w 22 2 ∧ ¬ w 22 15 < w 22 7 + w 23 (w 22 8)) ∧ i = w 22 8 then 0 else w 23 i := by
  unfold gMeet
  by_cases c1 : dew ≤ w 22 14 + w 22 2
  · by_cases c2 : w 22 15 < w 22 7 + w 23 (w 22 8)
    · rw [if_pos c1, if_pos c2]
      by_cases c3 : 0 ≤ w 22 13
      · rw [if_pos c3]
        refine ⟨?_, ?_, ?_, ?_, ?_, ?_, ?_, ?_, ?_, ?_, fun i => ?_⟩ <;> simp [zU, c1, c2, c3]
      · rw [if_neg c3]
        refine ⟨?_, ?_, ?_, ?_, ?_, ?_, ?_, ?_, ?_, ?_, fun i => ?_⟩ <;> simp [zU, c1, c2, c3]
    · rw [if_pos c1, if_neg c2]
      by_cases c3 : 0 ≤ w 22 13
      · rw [if_pos c3]
        refine ⟨?_, ?_, ?_, ?_, ?_, ?_, ?_, ?_, ?_, ?_, fun i => ?_⟩ <;> simp [zU, c1, c2, c3]
      · rw [if_neg c3]
        refine ⟨?_, ?_, ?_, ?_, ?_, ?_, ?_, ?_, ?_, ?_, fun i => ?_⟩ <;> simp [zU, c1, c2, c3]
  · rw [if_neg c1]
    by_cases c3 : 0 ≤ w 22 13
    · rw [if_pos c3]
      refine ⟨?_, ?_, ?_, ?_, ?_, ?_, ?_, ?_, ?_, ?_, fun i => ?_⟩ <;> simp [zU, c1, c3]
    · rw [if_neg c3]
      refine ⟨?_, ?_, ?_, ?_, ?_, ?_, ?_, ?_, ?_, ?_, fun i => ?_⟩ <;> simp [zU, c1, c3]
theorem gGo_f {Kd R : Int → Int} {way x : Int} {w : zMm} : (gGo Kd R way x w) 22 2 = (if Kd x = 4 ∧ 0 < w 22 7 then w 22 2 + zMn Kd R way x + R 4 else w 22 2 + zMn Kd R way x) ∧ (gGo Kd R way x w) 22 7 = (if Kd x = 4 ∧ 0 < w 22 7 then 0 else w 22 7) ∧ (gGo Kd R way x w) 22 5 = w 22 5 ∧ (∀ f : Int, 10 ≤ f → (gGo Kd R way x w) 22 f = w 22 f) ∧ (gGo Kd R way x w) 22 8 = x := by
  unfold gGo
  by_cases c : Kd x = 4 ∧ 0 < w 22 7
  · rw [if_pos c, if_pos c, if_pos c]
    refine ⟨?_, ?_, ?_, fun f hf => ?_, ?_⟩
    · simp [zU]
    · simp [zU]
    · simp [zU]
    · rw [zU_ne (by omega), zU_ne (by omega), zU_ne (by omega), zU_off 22 (by decide), zU_ne (by omega), zU_ne (by omega), zU_ne (by omega)]
    · simp [zU]
  · rw [if_neg c, if_neg c, if_neg c]
    refine ⟨?_, ?_, ?_, fun f hf => ?_, ?_⟩
    · simp [zU]
    · simp [zU]
    · simp [zU]
    · rw [zU_off 22 (by decide), zU_ne (by omega), zU_ne (by omega), zU_ne (by omega)]
    · simp [zU]
/-- the first grass and what is wet -/
def bI1 (t D : Int) (w : zMm) : Prop := w 22 14 = t ∧ (w 22 13 < 0 → w 22 10 = 0) ∧ (0 ≤ w 22 13 → w 22 13 ≤ w 22 2 ∧ (w 22 10 = 0 ↔ D ≤ t + w 22 13)) ∧ 0 ≤ w 22 10 ∧ 0 ≤ w 22 2
theorem bI1_step {Kd R : Int → Int} {t way : Int} {w : zMm} (hR : zRu R) (h : bI1 t (R 6) w) : bI1 t (R 6) (gStep Kd R way w) := by
  obtain ⟨h1, h2, h3, h4, h5⟩ := h
  by_cases c : 0 ≤ zNx Kd (w 22 8) way
  · unfold gStep
    rw [if_pos c]
    generalize zNx Kd (w 22 8) way = x
    have hm := zMn_R (Kd := Kd) hR way x
    have hR4 : 0 ≤ R 4 ∧ R 4 ≤ 9 := hR.2.2.2.2.1
    obtain ⟨g2, g7, g5, gf, g8⟩ := gGo_f (Kd := Kd) (R := R) (way := way) (x := x) (w := w)
    have gm : w 22 2 ≤ (gGo Kd R way x w) 22 2 := by
      rw [g2]
      split <;> omega
    have g13 := gf 13 (by decide)
    have g10 := gf 10 (by decide)
    have g14 := gf 14 (by decide)
    by_cases d : 0 < w 23 x
    · rw [if_pos d]
      obtain ⟨m13, m10, -, -, -, m2, m14, -⟩ := gMeet_f (dew := R 6) (way := way) (w := gGo Kd R way x w)
      rw [g13] at m13
      rw [g10, g14, h1] at m10
      refine ⟨by rw [m14, g14]; exact h1, fun z => ?_, fun z => ?_, ?_, by rw [m2]; omega⟩
      · rw [m13] at z
        split at z <;> omega
      · rw [m2, m13, m10]
        by_cases e : 0 ≤ w 22 13
        · rw [if_pos e]
          obtain ⟨k1, k2⟩ := h3 e
          refine ⟨by omega, ?_⟩
          split <;> omega
        · rw [if_neg e]
          have := h2 (by omega)
          refine ⟨Int.le_refl _, ?_⟩
          split <;> omega
      · rw [m10]
        split <;> omega
    · rw [if_neg d]
      refine ⟨by rw [g14]; exact h1, fun z => ?_, fun z => ?_, ?_, by omega⟩
      · rw [g13] at z
        rw [g10]
        exact h2 z
      · rw [g13] at z ⊢
        rw [g10]
        obtain ⟨k1, k2⟩ := h3 z
        exact ⟨by omega, k2⟩
      · rw [g10]
        exact h4
  · rw [gStep_off c]
    refine ⟨?_, ?_, ?_, ?_, ?_⟩
    · rw [zU_ne (by omega)]; exact h1
    · rw [zU_ne (by omega), zU_ne (by omega)]; exact h2
    · rw [zU_ne (by omega), zU_ne (by omega), zU_ne (by omega)]; exact h3
    · rw [zU_ne (by omega)]; exact h4
    · rw [zU_ne (by omega)]; exact h5
theorem bI1_steps {Kd R : Int → Int} {t way : Int} (hR : zRu R) : ∀ (n : Nat) (w : zMm), bI1 t (R 6) w → bI1 t (R 6) (gSteps Kd R way n w) := by
  intro n
  induction n with
  | zero => intro w h; exact h
  | succ n ih =>
    intro w h
    unfold gSteps
    split
    · exact ih _ (bI1_step hR h)
    · exact h
theorem gTurn_f {R : Int → Int} {look way : Int} {w : zMm} : (gTurn R look way w) 22 2 = w 22 2 + zQ look way * R 1 ∧ (∀ f : Int, f ≠ 2 → f ≠ 9 → (gTurn R look way w) 22 f = w 22 f) ∧ (gTurn R look way w) 23 = w 23 := by
  unfold gTurn
  refine ⟨zU_eq _ _ _ _, fun f c1 c2 => ?_, ?_⟩
  · rw [zU_ne (by omega), zU_ne (by omega)]
  · rw [zU_off 23 (by decide), zU_off 23 (by decide)]
theorem gTurn_R {R : Int → Int} {look way : Int} (hR : zRu R) : 0 ≤ zQ look way * R 1 := Int.mul_nonneg (zQ_R look way).1 hR.2.1.1
theorem bI1_turn {R : Int → Int} {t look way : Int} {w : zMm} (hR : zRu R) (h : bI1 t (R 6) w) : bI1 t (R 6) (gTurn R look way w) := by
  obtain ⟨h1, h2, h3, h4, h5⟩ := h
  obtain ⟨e1, e2, e3⟩ := gTurn_f (R := R) (look := look) (way := way) (w := w)
  have := gTurn_R (look := look) (way := way) hR
  unfold bI1
  rw [e1, e2 14 (by decide) (by decide), e2 13 (by decide) (by decide), e2 10 (by decide) (by decide)]
  exact ⟨h1, h2, fun z => ⟨by have := (h3 z).1; omega, (h3 z).2⟩, h4, by omega⟩
theorem bI1_moves {Kd R Wy Ln : Int → Int} {t : Int} (hR : zRu R) : ∀ (n : Nat) (i look : Int) (w : zMm), bI1 t (R 6) w → bI1 t (R 6) (gMoves Kd R Wy Ln n i look w) := by
  intro n
  induction n with
  | zero => intro i look w h; exact h
  | succ n ih =>
    intro i look w h
    unfold gMoves
    split
    · exact ih _ _ _ (bI1_steps hR _ _ (bI1_turn hR h))
    · exact h
theorem bI1_W {a : zMm} {t b : Int} (W : WF a) : bI1 t (a 4 6) (gW a t b) := by
  refine bI1_moves W.2.1 _ _ _ _ ⟨?_, fun _ => ?_, fun z => ?_, ?_, ?_⟩
  · simp [gW0]
  · simp [gW0]
  · simp [gW0] at z
  · simp [gW0]
  · simp [gW0]
/-- two walks that begin at two minutes -/
def bR (w w' : zMm) : Prop := w 22 8 = w' 22 8 ∧ w 22 5 = w' 22 5 ∧ w 22 13 = w' 22 13 ∧ (w 22 13 < 0 → w 22 2 = w' 22 2 ∧ w 22 7 = 0 ∧ w' 22 7 = 0 ∧ w 23 = w' 23) ∧ 0 ≤ w 22 2 ∧ 0 ≤ w' 22 2
theorem bR_step {Kd R : Int → Int} {way : Int} {w w' : zMm} (hR : zRu R) (h : bR w w') : bR (gStep Kd R way w) (gStep Kd R way w') := by
  obtain ⟨h1, h2, h3, h4, h5, h6⟩ := h
  by_cases c : 0 ≤ zNx Kd (w 22 8) way
  · have c' : 0 ≤ zNx Kd (w' 22 8) way := by rw [← h1]; exact c
    unfold gStep
    rw [if_pos c, if_pos c', ← h1]
    generalize zNx Kd (w 22 8) way = x
    have hm := zMn_R (Kd := Kd) hR way x
    have hR4 : 0 ≤ R 4 ∧ R 4 ≤ 9 := hR.2.2.2.2.1
    obtain ⟨g2, g7, g5, gf, g8⟩ := gGo_f (Kd := Kd) (R := R) (way := way) (x := x) (w := w)
    obtain ⟨g2', g7', g5', gf', g8'⟩ := gGo_f (Kd := Kd) (R := R) (way := way) (x := x) (w := w')
    have g13 := gf 13 (by decide)
    have g13' := gf' 13 (by decide)
    have gm : 0 ≤ (gGo Kd R way x w) 22 2 := by
      rw [g2]
      split <;> omega
    have gm' : 0 ≤ (gGo Kd R way x w') 22 2 := by
      rw [g2']
      split <;> omega
    -- what the meeting leaves of place, stopped, first grass
    have P : ∀ v : zMm, ∀ b : Bool, ((if b = true then gMeet (R 6) way v else v) 22 8 = v 22 8 ∧ (if b = true then gMeet (R 6) way v else v) 22 5 = v 22 5 ∧ (if b = true then gMeet (R 6) way v else v) 22 2 = v 22 2 ∧ (0 ≤ v 22 13 → (if b = true then gMeet (R 6) way v else v) 22 13 = v 22 13)) := by
      intro v b
      obtain ⟨m13, m10, m11, m12, m7, m2, m14, m15, m8, m5, m23⟩ := gMeet_f (dew := R 6) (way := way) (w := v)
      by_cases cb : b = true
      · rw [if_pos cb]
        exact ⟨m8, m5, m2, fun z => by rw [m13, if_pos z]⟩
      · rw [if_neg cb]
        exact ⟨rfl, rfl, rfl, fun _ => rfl⟩
    by_cases e : 0 ≤ w 22 13
    · obtain ⟨p1, p2, p3, p4⟩ := P (gGo Kd R way x w) (decide (0 < w 23 x))
      obtain ⟨q1, q2, q3, q4⟩ := P (gGo Kd R way x w') (decide (0 < w' 23 x))
      simp only [decide_eq_true_eq] at p1 p2 p3 p4 q1 q2 q3 q4
      have p4 := p4 (by rw [g13]; exact e)
      have q4 := q4 (by rw [g13', ← h3]; exact e)
      refine ⟨?_, ?_, ?_, fun z => ?_, ?_, ?_⟩
      · rw [p1, q1, g8, g8']
      · rw [p2, q2, g5, g5']; exact h2
      · rw [p4, q4, g13, g13']; exact h3
      · rw [p4, g13] at z
        omega
      · rw [p3]; exact gm
      · rw [q3]; exact gm'
    · obtain ⟨k1, k2, k3, k4⟩ := h4 (by omega)
      have e2 : (gGo Kd R way x w) 22 2 = (gGo Kd R way x w') 22 2 := by
        rw [g2, g2', if_neg (by omega), if_neg (by omega), k1]
      by_cases d : 0 < w 23 x
      · have d' : 0 < w' 23 x := by rw [← k4]; exact d
        rw [if_pos d, if_pos d']
        obtain ⟨m13, m10, m11, m12, m7, m2, m14, m15, m8, m5, m23⟩ := gMeet_f (dew := R 6) (way := way) (w := gGo Kd R way x w)
        obtain ⟨n13, n10, n11, n12, n7, n2, n14, n15, n8, n5, n23⟩ := gMeet_f (dew := R 6) (way := way) (w := gGo Kd R way x w')
        rw [g13, if_neg e] at m13
        rw [g13', if_neg (by omega)] at n13
        refine ⟨?_, ?_, ?_, fun z => ?_, ?_, ?_⟩
        · rw [m8, n8, g8, g8']
        · rw [m5, n5, g5, g5']; exact h2
        · rw [m13, n13]; exact e2
        · rw [m13] at z
          omega
        · rw [m2]; exact gm
        · rw [n2]; exact gm'
      · have d' : ¬ 0 < w' 23 x := by rw [← k4]; exact d
        rw [if_neg d, if_neg d']
        refine ⟨by rw [g8, g8'], by rw [g5, g5']; exact h2, by rw [g13, g13']; exact h3, fun _ => ⟨e2, ?_, ?_, ?_⟩, gm, gm'⟩
        · rw [g7, k2]; split <;> rfl
        · rw [g7', k3]; split <;> rfl
        · rw [gGo_23, gGo_23]; exact k4
  · have c' : ¬ 0 ≤ zNx Kd (w' 22 8) way := by rw [← h1]; exact c
    rw [gStep_off c, gStep_off c']
    unfold bR
    rw [zU_ne (by omega), zU_ne (by omega), zU_eq, zU_eq, zU_ne (by omega), zU_ne (by omega), zU_ne (by omega), zU_ne (by omega), zU_ne (by omega), zU_ne (by omega), zU_off 23 (by decide), zU_off 23 (by decide)]
    exact ⟨h1, rfl, h3, h4, h5, h6⟩
theorem bR_steps {Kd R : Int → Int} {way : Int} (hR : zRu R) : ∀ (n : Nat) (w w' : zMm), bR w w' → bR (gSteps Kd R way n w) (gSteps Kd R way n w') := by
  intro n
  induction n with
  | zero => intro w w' h; exact h
  | succ n ih =>
    intro w w' h
    unfold gSteps
    by_cases c : w 22 5 = 0
    · rw [if_pos c, if_pos (by rw [← h.2.1]; exact c)]
      exact ih _ _ (bR_step hR h)
    · rw [if_neg c, if_neg (by rw [← h.2.1]; exact c)]
      exact h
theorem bR_turn {R : Int → Int} {look way : Int} {w w' : zMm} (hR : zRu R) (h : bR w w') : bR (gTurn R look way w) (gTurn R look way w') := by
  obtain ⟨h1, h2, h3, h4, h5, h6⟩ := h
  obtain ⟨e1, e2, e3⟩ := gTurn_f (R := R) (look := look) (way := way) (w := w)
  obtain ⟨f1, f2, f3⟩ := gTurn_f (R := R) (look := look) (way := way) (w := w')
  have := gTurn_R (look := look) (way := way) hR
  unfold bR
  rw [e1, f1, e2 8 (by decide) (by decide), f2 8 (by decide) (by decide), e2 5 (by decide) (by decide), f2 5 (by decide) (by decide), e2 13 (by decide) (by decide), f2 13 (by decide) (by decide), e2 7 (by decide) (by decide), f2 7 (by decide) (by decide), e3, f3]
  exact ⟨h1, h2, h3, fun z => ⟨by have := (h4 z).1; omega, (h4 z).2⟩, by omega, by omega⟩
theorem bR_moves {Kd R Wy Ln : Int → Int} (hR : zRu R) : ∀ (n : Nat) (i look : Int) (w w' : zMm), bR w w' → bR (gMoves Kd R Wy Ln n i look w) (gMoves Kd R Wy Ln n i look w') := by
  intro n
  induction n with
  | zero => intro i look w w' h; exact h
  | succ n ih =>
    intro i look w w' h
    unfold gMoves
    by_cases c : w 22 5 = 0
    · rw [if_pos c, if_pos (by rw [← h.2.1]; exact c)]
      exact ih _ _ _ _ (bR_steps hR _ _ _ (bR_turn hR h))
    · rw [if_neg c, if_neg (by rw [← h.2.1]; exact c)]
      exact h
theorem bR_W {a : zMm} {t t' b : Int} (W : WF a) : bR (gW a t b) (gW a t' b) := by
  refine bR_moves W.2.1 _ _ _ _ _ ⟨?_, ?_, ?_, fun _ => ⟨?_, ?_, ?_, ?_⟩, ?_, ?_⟩
  · simp [gW0]
  · simp [gW0]
  · simp [gW0]
  · simp [gW0]
  · simp [gW0]
  · simp [gW0]
  · funext i; simp [gW0]
  · simp [gW0]
  · simp [gW0]
def fBegin (a : zMm) : Int := if gW a 0 (a 4 3) 22 13 < 0 then 0 else max 0 (a 4 6 - gW a 0 (a 4 3) 22 13)
theorem cBegin {a h : zMm} {K : Int → zMm → Prop} (W : WF a) (C : CR a h) (hK : ∀ h', CR a h' → zHi81 h h' → K (fBegin a) h') : zCi mX11_begin [.ref 0] zS0 h K := by
  unfold fBegin at hK
  have hb := W.rb
  have R6 : 0 ≤ a 4 6 ∧ a 4 6 ≤ 999 := W.2.1.2.2.2.2.2.2.1
  refine wX11_begin (sX3_told g0_10 (by omega) ?_)
  rw [show h (10 + 5) 3 = a 4 3 from C.1.1.2 3 (by decide) (by decide)]
  refine cWalk W C (by decide) (by omega) (fun h' g1 g2 g3 => ?_)
  have key := hK h' g3 g2.hi
  have ok := W.ok (t := 0) (b := a 4 3) (by decide) (by omega)
  have o13 : -1 ≤ gW a 0 (a 4 3) 22 13 ∧ gW a 0 (a 4 3) 22 13 ≤ 20 * 264 := ok.2.2.2.2.2.2.2.2.2.2.2.1
  rw [g1.1 13 (by decide) (by decide)]
  refine ⟨⟨by omega, by omega⟩, fun c => sX3_told g0_10 (by omega) ?_, fun c => ?_⟩
  · rw [if_neg (by omega)] at key
    rw [show h' (10 + 5) 6 = a 4 6 from g3.1.1.2 6 (by decide) (by decide), g1.1 13 (by decide) (by decide), if_neg (by omega)]
    exact ⟨⟨by omega, by omega⟩, key⟩
  · rw [if_pos (by omega)] at key
    exact key
theorem mBegin {a h : zMm} {K : Int → zMm → Prop} (W : WF a) (M : MR a h) (hK : ∀ h', MR a h' → zLo81 h h' → K (fBegin a) h') : zCi mX12_begin [.ref 81] zS0 h K := by
  unfold fBegin at hK
  have hb := W.rb
  have R6 : 0 ≤ a 4 6 ∧ a 4 6 ≤ 999 := W.2.1.2.2.2.2.2.2.1
  have ok := W.ok (t := 0) (b := a 4 3) (by decide) (by omega)
  have o13 : -1 ≤ gW a 0 (a 4 3) 22 13 ∧ gW a 0 (a 4 3) 22 13 ≤ 20 * 264 := ok.2.2.2.2.2.2.2.2.2.2.2.1
  have wet : ∀ t : Int, 0 ≤ t → (gW a t (a 4 3) 22 10 = 0 ↔ (gW a 0 (a 4 3) 22 13 < 0 ∨ a 4 6 ≤ t + gW a 0 (a 4 3) 22 13)) := by
    intro t t0
    obtain ⟨i1, i2, i3, i4, i5⟩ := bI1_W (t := t) (b := a 4 3) W
    have e := (bR_W (t := 0) (t' := t) (b := a 4 3) W).2.2.1
    rw [e]
    by_cases c : gW a t (a 4 3) 22 13 < 0
    · exact ⟨fun _ => Or.inl c, fun _ => i2 c⟩
    · have := (i3 (by omega)).2
      omega
  generalize hf : gW a 0 (a 4 3) 22 13 = f at *
  refine wX12_begin (sX12_awake M ?_)
  intro h1 M1 A1 L1
  have loop : ∀ (n : Nat) (t : Int) (h2 : zMm), 0 ≤ t → t + n = 1000 → MR a h2 → mA a h2 → zLo81 h h2 → t ≤ (if f < 0 then 0 else max 0 (a 4 6 - f)) → RR mX12_begin 0 0 6 [some (.ref 81), some (.int (zI t))] [] zS0 h2 (zQi zS0 K) := by
    intro n
    induction n with
    | zero =>
      intro t h2 t0 tn M2 A2 L2 ht
      exfalso
      split at ht <;> omega
    | succ n ih =>
      intro t h2 t0 tn M2 A2 L2 ht
      refine bX12_begin_6 ⟨⟨by omega, by omega⟩, fun d => absurd d (by omega), fun _ => ?_⟩
      rw [show h2 88 3 = a 4 3 from A2.1.2.1 3 (by decide) (by decide)]
      refine mWalk W M2 A2 ⟨t0, by omega⟩ (by omega) (fun h3 g1 g2 g3 g4 g5 => ?_)
      have L3 := L2.trans g3.lo
      rw [show h3 93 8 = gW a t (a 4 3) 22 10 from g1.2.2.2.2.2.2.2.1]
      have okt := W.ok (t := t) (b := a 4 3) ⟨t0, by omega⟩ (by omega)
      have o10 : 0 ≤ gW a t (a 4 3) 22 10 ∧ gW a t (a 4 3) 22 10 ≤ 264 := okt.2.2.2.2.2.2.2.2.1
      have wt := wet t t0
      refine ⟨⟨by omega, by omega⟩, fun d => ih (t + 1) h3 (by omega) (by omega) g4 g5 L3 ?_, fun d => ?_⟩
      · rw [wt] at d
        rw [if_neg (by omega)] at ht ⊢
        omega
      · have key := hK h3 g4 L3
        have := wt.1 d
        by_cases c : f < 0
        · rw [if_pos c] at key ht
          rw [show t = 0 by omega]
          exact key
        · rw [if_neg c] at key ht
          rw [show t = max 0 (a 4 6 - f) by omega]
          exact key
  exact loop 1000 0 h1 (by decide) (by decide) M1 A1 L1 (by split <;> omega)
/-- two walks with two bags, the second one big -/
def nR (b : Int) (w w' : zMm) : Prop := w 22 8 = w' 22 8 ∧ w 22 5 = w' 22 5 ∧ w 22 15 = b ∧ w' 22 15 = 2160 ∧ ((w 22 11 = 0 ∧ (∀ f : Int, f ≠ 15 → w 22 f = w' 22 f) ∧ w 23 = w' 23 ∧ w' 22 7 ≤ w' 22 12 ∧ w' 22 12 ≤ b ∧ (∀ i : Int, 0 ≤ i → i < 36 → 0 ≤ w' 23 i ∧ w' 23 i ≤ 60) ∧ 0 ≤ w' 22 7) ∨ (0 < w 22 11 ∧ b < w' 22 12))
theorem nR_step {Kd R : Int → Int} {way b : Int} {w w' : zMm} (hb : 1 ≤ b ∧ b ≤ 999) (h8 : 0 ≤ w 22 8 ∧ w 22 8 < 36) (h : nR b w w') : nR b (gStep Kd R way w) (gStep Kd R way w') := by
  obtain ⟨h1, h2, h3, h3', h4⟩ := h
  by_cases c : 0 ≤ zNx Kd (w 22 8) way
  · have c' : 0 ≤ zNx Kd (w' 22 8) way := by rw [← h1]; exact c
    have hx36 : zNx Kd (w 22 8) way < 36 := by
      rcases zNx_R (Kd := Kd) (way := way) h8 with z | z <;> omega
    unfold gStep
    rw [if_pos c, if_pos c', ← h1]
    generalize zNx Kd (w 22 8) way = x at *
    obtain ⟨g2, g7, g5, gf, g8⟩ := gGo_f (Kd := Kd) (R := R) (way := way) (x := x) (w := w)
    obtain ⟨g2', g7', g5', gf', g8'⟩ := gGo_f (Kd := Kd) (R := R) (way := way) (x := x) (w := w')
    have g23 := gGo_23 (Kd := Kd) (R := R) (way := way) (x := x) (w := w)
    have g23' := gGo_23 (Kd := Kd) (R := R) (way := way) (x := x) (w := w')
    obtain ⟨m13, m10, m11, m12, m7, m2, m14, m15, m8, m5, m23⟩ := gMeet_f (dew := R 6) (way := way) (w := gGo Kd R way x w)
    obtain ⟨n13, n10, n11, n12, n7, n2, n14, n15, n8, n5, n23⟩ := gMeet_f (dew := R 6) (way := way) (w := gGo Kd R way x w')
    rcases h4 with ⟨k1, k2, k3, k4, k5, k6, k7⟩ | ⟨k1, k2⟩
    · have goE : ∀ f : Int, f ≠ 15 → (gGo Kd R way x w) 22 f = (gGo Kd R way x w') 22 f := by
        intro f hf
        have a2 := k2 2 (by decide)
        have a7 := k2 7 (by decide)
        have a4 := k2 4 (by decide)
        have a6 := k2 6 (by decide)
        have af := k2 f hf
        unfold gGo
        rw [a7, a2, a4, a6]
        split
        · simp only [zU_at]
          rw [af]
        · simp only [zU_at]
          rw [af]
      have g7R : 0 ≤ (gGo Kd R way x w') 22 7 ∧ (gGo Kd R way x w') 22 7 ≤ w' 22 7 := by
        rw [g7']
        split <;> omega
      have hx23 := k6 x c hx36
      have g11 := gf 11 (by decide)
      have g11' := gf' 11 (by decide)
      have g12' := gf' 12 (by decide)
      have g15 := gf 15 (by decide)
      have g15' := gf' 15 (by decide)
      by_cases d : 0 < w 23 x
      · have d' : 0 < w' 23 x := by rw [← k3]; exact d
        rw [if_pos d, if_pos d']
        have e14 := goE 14 (by decide)
        have e2 := goE 2 (by decide)
        have e7 := goE 7 (by decide)
        rw [g8, g15, h3, e14, e2, e7, g23, k3, g11] at m11
        rw [g8', g15', h3', g23', g12'] at n12
        rw [g8', g15', h3', g23'] at n7
        refine ⟨by rw [m8, n8, g8, g8'], by rw [m5, n5, g5, g5']; exact h2, by rw [m15, g15]; exact h3, by rw [n15, g15']; exact h3', ?_⟩
        by_cases c1 : R 6 ≤ (gGo Kd R way x w') 22 14 + (gGo Kd R way x w') 22 2
        · by_cases c2 : b < (gGo Kd R way x w') 22 7 + w' 23 x
          · right
            rw [if_pos ⟨c1, c2⟩] at m11
            rw [if_pos ⟨c1, by omega⟩] at n12
            exact ⟨by omega, by omega⟩
          · left
            rw [if_neg (fun z => c2 z.2)] at m11
            rw [if_pos ⟨c1, by omega⟩] at n12 n7
            refine ⟨by omega, fun f hf => ?_, ?_, by omega, by omega, fun i i0 i1 => ?_, by omega⟩
            · have u : ∀ v : zMm, R 6 ≤ v 22 14 + v 22 2 → ¬ v 22 15 < v 22 7 + v 23 (v 22 8) → gMeet (R 6) way v = zU (zU (zU (zU (zU (if 0 ≤ v 22 13 then v else zU v 22 13 (v 22 2)) 22 7 (v 22 7 + v 23 (v 22 8))) 22 12 (max (v 22 12) (v 22 7 + v 23 (v 22 8)))) 23 (v 22 8) 0) 24 (v 22 8) way) 22 3 (v 22 3 + 1) := by
                intro v z1 z2
                unfold gMeet
                rw [if_pos z1, if_neg z2]
              rw [u (gGo Kd R way x w) (by rw [e14, e2]; exact c1) (by rw [g15, h3, e7, g8, g23, k3]; exact c2), u (gGo Kd R way x w') c1 (by rw [g15', h3', g8', g23']; omega)]
              have e3 := goE 3 (by decide)
              have e12 := goE 12 (by decide)
              have e13 := goE 13 (by decide)
              have ef := goE f hf
              rw [e7, e12, e13, e2, e3, g8, g8', g23, g23', k3]
              simp only [zU_at]
              split
              · rfl
              · simp only [show ¬ ((22 : Nat) = 24) by decide, show ¬ ((22 : Nat) = 23) by decide, false_and, if_false]
                split
                · rfl
                · split
                  · rfl
                  · split
                    · exact ef
                    · rw [zU_at, zU_at]
                      split
                      · rfl
                      · exact ef
            · funext i
              rw [m23, n23, e14, e2, e7, g15, h3, g15', h3', g8, g8', g23, g23', k3]
              by_cases ci : i = x
              · rw [if_pos ⟨⟨c1, c2⟩, ci⟩, if_pos ⟨⟨c1, by omega⟩, ci⟩]
              · rw [if_neg (fun z => ci z.2), if_neg (fun z => ci z.2)]
            · rw [n23, g23']
              split
              · exact ⟨by decide, by decide⟩
              · exact k6 i i0 i1
        · left
          rw [if_neg (fun z => c1 z.1)] at m11 n12 n7
          refine ⟨by omega, fun f hf => ?_, ?_, by omega, by omega, fun i i0 i1 => ?_, by omega⟩
          · have u : ∀ v : zMm, ¬ R 6 ≤ v 22 14 + v 22 2 → gMeet (R 6) way v = zU (if 0 ≤ v 22 13 then v else zU v 22 13 (v 22 2)) 22 10 (v 22 10 + 1) := by
              intro v z1
              unfold gMeet
              rw [if_neg z1]
            rw [u (gGo Kd R way x w) (by rw [e14, e2]; exact c1), u (gGo Kd R way x w') c1]
            have e10 := goE 10 (by decide)
            have e13 := goE 13 (by decide)
            have ef := goE f hf
            rw [e10, e13, e2]
            simp only [zU_at]
            split
            · rfl
            · split
              · exact ef
              · rw [zU_at, zU_at]
                split
                · rfl
                · exact ef
          · funext i
            rw [m23, n23, e14, e2, if_neg (fun z => c1 z.1.1), if_neg (fun z => c1 z.1.1), g23, g23', k3]
          · rw [n23, if_neg (fun z => c1 z.1.1), g23']
            exact k6 i i0 i1
      · have d' : ¬ 0 < w' 23 x := by rw [← k3]; exact d
        rw [if_neg d, if_neg d']
        exact ⟨by rw [g8, g8'], by rw [g5, g5']; exact h2, by rw [g15]; exact h3, by rw [g15']; exact h3', Or.inl ⟨by rw [g11]; exact k1, goE, by rw [g23, g23']; exact k3, by rw [g12']; omega, by rw [g12']; exact k5, by rw [g23']; exact k6, g7R.1⟩⟩
    · have P : ∀ v : zMm, ∀ e : Bool, ((if e = true then gMeet (R 6) way v else v) 22 8 = v 22 8 ∧ (if e = true then gMeet (R 6) way v else v) 22 5 = v 22 5 ∧ (if e = true then gMeet (R 6) way v else v) 22 15 = v 22 15 ∧ v 22 11 ≤ (if e = true then gMeet (R 6) way v else v) 22 11 ∧ v 22 12 ≤ (if e = true then gMeet (R 6) way v else v) 22 12) := by
        intro v e
        obtain ⟨m13, m10, m11, m12, m7, m2, m14, m15, m8, m5, m23⟩ := gMeet_f (dew := R 6) (way := way) (w := v)
        by_cases cb : e = true
        · rw [if_pos cb]
          refine ⟨m8, m5, m15, ?_, ?_⟩
          · rw [m11]; split <;> omega
          · rw [m12]; split <;> omega
        · rw [if_neg cb]
          exact ⟨rfl, rfl, rfl, Int.le_refl _, Int.le_refl _⟩
      obtain ⟨p1, p2, p3, p4, p5⟩ := P (gGo Kd R way x w) (decide (0 < w 23 x))
      obtain ⟨q1, q2, q3, q4, q5⟩ := P (gGo Kd R way x w') (decide (0 < w' 23 x))
      simp only [decide_eq_true_eq] at p1 p2 p3 p4 p5 q1 q2 q3 q4 q5
      rw [gf 11 (by decide)] at p4
      rw [gf' 12 (by decide)] at q5
      exact ⟨by rw [p1, q1, g8, g8'], by rw [p2, q2, g5, g5']; exact h2, by rw [p3, gf 15 (by decide)]; exact h3, by rw [q3, gf' 15 (by decide)]; exact h3', Or.inr ⟨by omega, by omega⟩⟩
  · have c' : ¬ 0 ≤ zNx Kd (w' 22 8) way := by rw [← h1]; exact c
    rw [gStep_off c, gStep_off c']
    refine ⟨by rw [zU_ne (by omega), zU_ne (by omega)]; exact h1, by rw [zU_eq, zU_eq], by rw [zU_ne (by omega)]; exact h3, by rw [zU_ne (by omega)]; exact h3', ?_⟩
    rcases h4 with ⟨k1, k2, k3, k4, k5, k6, k7⟩ | ⟨k1, k2⟩
    · left
      refine ⟨by rw [zU_ne (by omega)]; exact k1, fun f hf => ?_, by rw [zU_off 23 (by decide), zU_off 23 (by decide)]; exact k3, by rw [zU_ne (by omega), zU_ne (by omega)]; exact k4, by rw [zU_ne (by omega)]; exact k5, by rw [zU_off 23 (by decide)]; exact k6, by rw [zU_ne (by omega)]; exact k7⟩
      rw [zU_at, zU_at]
      split
      · rfl
      · exact k2 f hf
    · exact Or.inr ⟨by rw [zU_ne (by omega)]; exact k1, by rw [zU_ne (by omega)]; exact k2⟩
theorem nR_steps {Kd R : Int → Int} {way b : Int} (hb : 1 ≤ b ∧ b ≤ 999) : ∀ (n : Nat) (w w' : zMm), kPa w → nR b w w' → nR b (gSteps Kd R way n w) (gSteps Kd R way n w') := by
  intro n
  induction n with
  | zero => intro w w' p h; exact h
  | succ n ih =>
    intro w w' p h
    unfold gSteps
    by_cases c : w 22 5 = 0
    · rw [if_pos c, if_pos (by rw [← h.2.1]; exact c)]
      exact ih _ _ (kPa_step p) (nR_step hb ⟨p.2.2.1, p.2.2.2⟩ h)
    · rw [if_neg c, if_neg (by rw [← h.2.1]; exact c)]
      exact h
theorem nR_turn {R : Int → Int} {look way b : Int} {w w' : zMm} (h : nR b w w') : nR b (gTurn R look way w) (gTurn R look way w') := by
  obtain ⟨h1, h2, h3, h3', h4⟩ := h
  obtain ⟨e1, e2, e3⟩ := gTurn_f (R := R) (look := look) (way := way) (w := w)
  obtain ⟨f1, f2, f3⟩ := gTurn_f (R := R) (look := look) (way := way) (w := w')
  refine ⟨by rw [e2 8 (by decide) (by decide), f2 8 (by decide) (by decide)]; exact h1, by rw [e2 5 (by decide) (by decide), f2 5 (by decide) (by decide)]; exact h2, by rw [e2 15 (by decide) (by decide)]; exact h3, by rw [f2 15 (by decide) (by decide)]; exact h3', ?_⟩
  rcases h4 with ⟨k1, k2, k3, k4, k5, k6, k7⟩ | ⟨k1, k2⟩
  · left
    refine ⟨by rw [e2 11 (by decide) (by decide)]; exact k1, fun f hf => ?_, by rw [e3, f3]; exact k3, by rw [f2 7 (by decide) (by decide), f2 12 (by decide) (by decide)]; exact k4, by rw [f2 12 (by decide) (by decide)]; exact k5, by rw [f3]; exact k6, by rw [f2 7 (by decide) (by decide)]; exact k7⟩
    have a2 := k2 2 (by decide)
    have a9 := k2 9 (by decide)
    have af := k2 f hf
    unfold gTurn
    rw [a9, a2]
    simp only [zU_at]
    rw [af]
  · exact Or.inr ⟨by rw [e2 11 (by decide) (by decide)]; exact k1, by rw [f2 12 (by decide) (by decide)]; exact k2⟩
theorem nR_moves {Kd R Wy Ln : Int → Int} {b : Int} (hb : 1 ≤ b ∧ b ≤ 999) : ∀ (n : Nat) (i look : Int) (w w' : zMm), kPa w → nR b w w' → nR b (gMoves Kd R Wy Ln n i look w) (gMoves Kd R Wy Ln n i look w') := by
  intro n
  induction n with
  | zero => intro i look w w' p h; exact h
  | succ n ih =>
    intro i look w w' p h
    unfold gMoves
    by_cases c : w 22 5 = 0
    · rw [if_pos c, if_pos (by rw [← h.2.1]; exact c)]
      have pT : kPa (gTurn R look (Wy i) w) := by
        obtain ⟨t1, t2, t3, t4⟩ := kEx_turn (R := R) (look := look) (way := Wy i) (w := w)
        unfold kPa
        rw [t1, t3, t4]
        exact p
      exact ih _ _ _ _ (kPa_steps _ _ pT) (nR_steps hb _ _ _ pT (nR_turn h))
    · rw [if_neg c, if_neg (by rw [← h.2.1]; exact c)]
      exact h
theorem nR_W {a : zMm} {t b : Int} (W : WF a) (hb : 1 ≤ b ∧ b ≤ 999) : nR b (gW a t b) (gW a t 2160) := by
  have W0 := W.2.1.1
  refine nR_moves hb _ _ _ _ _ ⟨fun j j0 j1 => ?_, ?_, ?_, ?_⟩ ⟨?_, ?_, ?_, ?_, Or.inl ⟨?_, fun f hf => ?_, ?_, ?_, ?_, fun i i0 i1 => ?_, ?_⟩⟩
  · have : (gW0 a t b) 96 j = a 4 0 := by simp [gW0]
    omega
  · simp [gW0]
  · have : (gW0 a t b) 22 8 = a 4 0 := by simp [gW0]
    omega
  · have : (gW0 a t b) 22 8 = a 4 0 := by simp [gW0]
    omega
  · simp [gW0]
  · simp [gW0]
  · simp [gW0]
  · simp [gW0]
  · simp [gW0]
  · simp [gW0, hf]
  · funext i; simp [gW0]
  · simp [gW0]
  · have : (gW0 a t 2160) 22 12 = 0 := by simp [gW0]
    omega
  · have : (gW0 a t 2160) 23 i = a 1 i := by simp [gW0]
    rw [this]
    exact W.hw i i0 i1
  · simp [gW0]
def fNeed (a : zMm) (t : Int) : Int := if 0 ≤ t ∧ t ≤ 999 then (if 999 < max 1 (gW a t 2160 22 12) then -4 else max 1 (gW a t 2160 22 12)) else -1
theorem cNeed {a h : zMm} {v1 : Int} {K : Int → zMm → Prop} (W : WF a) (C : CR a h) (r1 : zR v1) (hK : ∀ h', CR a h' → zHi81 h h' → K (fNeed a v1) h') : zCi mX11_need [.ref 0, .int (zI v1)] zS0 h K := by
  unfold fNeed at hK
  refine wX11_need (sX11_isMinute r1 ?_)
  simp only [decide_eq_true_eq, decide_eq_false_iff_not]
  refine ⟨fun c => cWalk W C c (by decide) (fun h' g1 g2 g3 => ?_), fun c => ?_⟩
  · rw [if_pos c] at hK
    have key := hK h' g3 g2.hi
    have ok := W.ok (t := v1) (b := 2160) c (by decide)
    have o12 : 0 ≤ gW a v1 2160 22 12 ∧ gW a v1 2160 22 12 ≤ 2160 := ok.2.2.2.2.2.2.2.2.2.2.1
    rw [g1.1 12 (by decide) (by decide)]
    exact ⟨⟨by omega, by omega⟩, key⟩
  · rw [if_neg c] at hK
    exact hK h C (fun _ _ => rfl)
theorem mNeed {a h : zMm} {v1 : Int} {K : Int → zMm → Prop} (W : WF a) (M : MR a h) (r1 : zR v1) (hK : ∀ h', MR a h' → zLo81 h h' → K (fNeed a v1) h') : zCi mX12_need [.ref 81, .int (zI v1)] zS0 h K := by
  unfold fNeed at hK
  refine wX12_need (sX12_awake M ?_)
  intro h1 M1 A1 L1
  refine sX12_isMinute r1 ?_
  simp only [decide_eq_true_eq, decide_eq_false_iff_not]
  refine ⟨fun c => ?_, fun c => ?_⟩
  · rw [if_pos c] at hK
    have ok := W.ok (t := v1) (b := 2160) c (by decide)
    have o12 : 0 ≤ gW a v1 2160 22 12 ∧ gW a v1 2160 22 12 ≤ 2160 := ok.2.2.2.2.2.2.2.2.2.2.1
    have left : ∀ b : Int, 1 ≤ b → b ≤ 999 → (gW a v1 b 22 11 = 0 ↔ gW a v1 2160 22 12 ≤ b) := by
      intro b b0 b1
      rcases (nR_W (t := v1) W ⟨b0, b1⟩).2.2.2.2 with ⟨k1, k2, k3, k4, k5, k6, k7⟩ | ⟨k1, k2⟩
      · exact ⟨fun _ => k5, fun _ => k1⟩
      · exact ⟨fun z => by omega, fun z => by omega⟩
    generalize gW a v1 2160 22 12 = f at *
    have loop : ∀ (n : Nat) (b : Int) (h2 : zMm), 1 ≤ b → b + n = 1000 → MR a h2 → mA a h2 → zLo81 h h2 → b ≤ max 1 f → RR mX12_need 0 0 15 [some (.ref 81), some (.int (zI v1)), some (.int (zI b))] [] zS0 h2 (zQi zS0 K) := by
      intro n
      induction n with
      | zero =>
        intro b h2 b0 bn M2 A2 L2 hb
        refine bX12_need_15 ⟨⟨by omega, by omega⟩, fun _ => ?_, fun d => absurd (by omega) d⟩
        rw [if_pos (by omega)] at hK
        exact hK h2 M2 L2
      | succ n ih =>
        intro b h2 b0 bn M2 A2 L2 hb
        refine bX12_need_15 ⟨⟨by omega, by omega⟩, fun d => absurd d (by omega), fun _ => mWalk W M2 A2 c ⟨by omega, by omega⟩ (fun h3 g1 g2 g3 g4 g5 => ?_)⟩
        have L3 := L2.trans g3.lo
        rw [show h3 93 9 = gW a v1 b 22 11 from g1.2.2.2.2.2.2.2.2.1]
        have okb := W.ok (t := v1) (b := b) c ⟨by omega, by omega⟩
        have o11 : 0 ≤ gW a v1 b 22 11 ∧ gW a v1 b 22 11 ≤ 264 := okb.2.2.2.2.2.2.2.2.2.1
        have lb := left b b0 (by omega)
        refine ⟨⟨by omega, by omega⟩, fun d => ih (b + 1) h3 (by omega) (by omega) g4 g5 L3 (by omega), fun d => ?_⟩
        have := lb.1 d
        rw [if_neg (by omega)] at hK
        rw [show b = max 1 f by omega]
        exact hK h3 g4 L3
    exact loop 999 1 h1 (by decide) (by decide) M1 A1 L1 (by omega)
  · rw [if_neg c] at hK
    exact hK h1 M1 L1
