/-! THE WALK, the model's -/
def zPi (p : Int) : Int := if p = -4 then 0 else p + 1
def gMG (h w : zMm) : Prop := h 93 0 = w 22 2 ∧ h 93 1 = w 22 3 ∧ h 93 2 = w 22 4 ∧ h 93 3 = w 22 5 ∧ h 93 4 = w 22 6 ∧ h 93 5 = w 22 7 ∧ h 93 7 = w 22 9 ∧ h 93 8 = w 22 10 ∧ h 93 9 = w 22 11 ∧ (∀ i : Int, 0 ≤ i → i < 36 → h 94 i = w 23 i ∧ h 95 i = zPi (w 24 i)) ∧ (∀ i : Int, 0 ≤ i → i ≤ w 22 4 → h 96 i = w 96 i)
def gFm (h h' : zMm) : Prop := ∀ o : Nat, o ≠ 93 → o ≠ 94 → o ≠ 95 → o ≠ 96 → h' o = h o
theorem gFm.rf (h : zMm) : gFm h h := fun _ _ _ _ _ => rfl
theorem gFm.trans {h h1 h2 : zMm} (a : gFm h h1) (b : gFm h1 h2) : gFm h h2 := fun o c1 c2 c3 c4 => (b o c1 c2 c3 c4).trans (a o c1 c2 c3 c4)
theorem gFm.up {h h1 : zMm} {o : Nat} {k x : Int} (a : gFm h h1) (ho : o = 93 ∨ o = 94 ∨ o = 95 ∨ o = 96) : gFm h (zU h1 o k x) := fun q c1 c2 c3 c4 => (zU_off q (by omega)).trans (a q c1 c2 c3 c4)
/-- the garden, as the model has it -/
def zGm (a h : zMm) : Prop := zKd (h 92) (a 0) ∧ (∀ r : Int, 0 ≤ r → r ≤ 7 → h 88 r = a 4 r) ∧ h 92 192 = a 7 0 ∧ (∀ i : Int, 0 ≤ i → i < a 7 0 → h 92 (144 + 2 * i) = a 5 i ∧ h 92 (144 + 2 * i + 1) = a 6 i) ∧ (∀ i : Int, 0 ≤ i → i < 36 → h 92 (36 + i) = a 1 i ∧ h 92 (72 + i) = zPi (a 3 i))
theorem zGm.fr {a h h' : zMm} (hG : zGm a h) (hF : gFm h h') : zGm a h' := by
  unfold zGm
  rw [hF 92 (by decide) (by decide) (by decide) (by decide), hF 88 (by decide) (by decide) (by decide) (by decide)]
  exact hG
def zHN (Kd : Int → Int) (w : zMm) : Prop := ∀ i : Int, 0 ≤ i → i < 36 → 1 < Kd i → w 23 i = 0
/-- what a cell does to the walker -/
def gThere (Kd R : Int → Int) (way x : Int) (w : zMm) : zMm :=
  if Kd x = 4 ∧ 0 < w 22 7 then zU (zU (zU w 22 7 0) 22 6 (w 22 6 + 1)) 22 2 (w 22 2 + R 4)
  else if 0 < w 23 x then gMeet (R 6) way w else w
def gOn (Kd R : Int → Int) (way x : Int) (w : zMm) : zMm := zU (zU (zU (zU w 22 2 (w 22 2 + zMn Kd R way x)) 22 8 x) 22 4 (w 22 4 + 1)) 96 (w 22 4 + 1) x
theorem gStep_is {Kd R : Int → Int} {way : Int} {w : zMm} (hp : 0 ≤ w 22 8 ∧ w 22 8 < 36) (hN : zHN Kd w) : gStep Kd R way w = if 0 ≤ zNx Kd (w 22 8) way then gThere Kd R way (zNx Kd (w 22 8) way) (gOn Kd R way (zNx Kd (w 22 8) way) w) else zU w 22 5 1 := by
  unfold gStep
  have hx := zNx_R (Kd := Kd) (way := way) hp
  generalize zNx Kd (w 22 8) way = x at hx ⊢
  by_cases c0 : 0 ≤ x
  · rw [if_pos c0, if_pos c0]
    have h7 : (gOn Kd R way x w) 22 7 = w 22 7 := by simp [gOn, zU]
    have h6 : (gOn Kd R way x w) 22 6 = w 22 6 := by simp [gOn, zU]
    have h2 : (gOn Kd R way x w) 22 2 = w 22 2 + zMn Kd R way x := by simp [gOn, zU]
    have h23 : (gOn Kd R way x w) 23 x = w 23 x := by simp [gOn, zU]
    unfold gThere gGo
    rw [h7, h6, h2, h23]
    by_cases c1 : Kd x = 4 ∧ 0 < w 22 7
    · rw [if_pos c1, if_pos c1]
      have : w 23 x = 0 := hN x (by omega) (by omega) (by omega)
      rw [if_neg (by omega)]
      rfl
    · rw [if_neg c1, if_neg c1]
      rfl
  · rw [if_neg c0, if_neg c0]
theorem zHN_step {Kd R : Int → Int} {way : Int} {w : zMm} (hp : 0 ≤ w 22 8 ∧ w 22 8 < 36) (hN : zHN Kd w) : zHN Kd (gStep Kd R way w) := by
  intro i h0 h1 h2
  have := hN i h0 h1 h2
  rw [gStep_is hp hN]
  split
  · unfold gThere
    split
    · simpa [gOn, zU] using this
    · split
      · unfold gMeet
        split
        · split
          · split <;> simpa [gOn, zU] using this
          · split <;> (simp [gOn, zU]; intro; exact this)
        · split <;> simpa [gOn, zU] using this
      · simpa [gOn, zU] using this
  · simpa [zU] using this
theorem gMG.meet {h w : zMm} {way x dew : Int} (hM : gMG h w) (hx : w 22 8 = x) (h0 : 0 ≤ x ∧ x < 36) (hw : 0 ≤ way ∧ way ≤ 3) :
    (dew ≤ w 22 14 + w 22 2 → w 22 15 < w 22 7 + w 23 x → gMG (zU h 93 9 (h 93 9 + 1)) (gMeet dew way w)) ∧
    (dew ≤ w 22 14 + w 22 2 → ¬ w 22 15 < w 22 7 + w 23 x → gMG (zU (zU (zU (zU h 93 5 (h 93 5 + h 94 x)) 93 1 (h 93 1 + 1)) 94 x 0) 95 x (way + 1)) (gMeet dew way w)) ∧
    (¬ dew ≤ w 22 14 + w 22 2 → gMG (zU h 93 8 (h 93 8 + 1)) (gMeet dew way w)) := by
  obtain ⟨m0, m1, m2, m3, m4, m5, m7, m8, m9, mh, mp⟩ := hM
  refine ⟨fun c1 c2 => ?_, fun c1 c2 => ?_, fun c1 => ?_⟩
  · unfold gMeet
    rw [if_pos c1, hx, if_pos c2]
    split <;> (refine ⟨?_, ?_, ?_, ?_, ?_, ?_, ?_, ?_, ?_, ?_, ?_⟩ <;> first | (simp [zU, *]; done) | (intro i hi0 hi1; have := mh i hi0 hi1; simpa [zU] using this) | (intro i hi0 hi1; have := mp i hi0 (by simpa [zU] using hi1); simpa [zU] using this))
  · unfold gMeet
    rw [if_pos c1, hx, if_neg c2]
    have hxx := mh x h0.1 h0.2
    split <;> (refine ⟨?_, ?_, ?_, ?_, ?_, ?_, ?_, ?_, ?_, ?_, ?_⟩ <;> first | (simp [zU, *]; done) | (intro i hi0 hi1; have := mh i hi0 hi1; by_cases ci : i = x <;> simp [zU, ci, this, zPi] <;> omega) | (intro i hi0 hi1; have := mp i hi0 (by simpa [zU] using hi1); simpa [zU] using this))
  · unfold gMeet
    rw [if_neg c1]
    split <;> (refine ⟨?_, ?_, ?_, ?_, ?_, ?_, ?_, ?_, ?_, ?_, ?_⟩ <;> first | (simp [zU, *]; done) | (intro i hi0 hi1; have := mh i hi0 hi1; simpa [zU] using this) | (intro i hi0 hi1; have := mp i hi0 (by simpa [zU] using hi1); simpa [zU] using this))
theorem sX12_isThere {a h w : zMm} {K : zMm → Prop} {x way v3 v4 T G : Int} (hG : zGm a h) (hR : zRu (a 4)) (hM : gMG h w) (ok : gOk T G w) (hT : T ≤ 1000) (hw : 0 ≤ way ∧ way ≤ 3) (hx : w 22 8 = x) (hN : zHN (a 0) w) (e3 : v3 = w 22 14 + w 22 2) (e4 : v4 = w 22 15) (hK : ∀ h', gMG h' (gThere (a 0) (a 4) way x w) → gFm h h' → K h') : zCv mX12_isThere [.ref 81, .int (zI x), .int (zI way), .int (zI v3), .int (zI v4)] zS0 h K := by
  subst e3 e4
  have hM0 := hM
  obtain ⟨m0, m1, m2, m3, m4, m5, m7, m8, m9, mh, mp⟩ := hM
  obtain ⟨a1, a2, a3, a4, a5, a6, a7, a8, a9, a10, a11, a12, a13, a14, a15⟩ := ok
  have hx36 : 0 ≤ x ∧ x < 36 := by omega
  obtain ⟨k1, k2, k3⟩ := hG.1 x hx36.1 hx36.2
  have r6 := hG.2.1 6 (by omega) (by omega)
  have r4 := hG.2.1 4 (by omega) (by omega)
  have hR6 : 0 ≤ (a 4) 6 ∧ (a 4) 6 ≤ 999 := hR.2.2.2.2.2.2.1
  have hp := a15 x hx36.1 hx36.2
  have eh := (mh x hx36.1 hx36.2).1
  have hF := gFm.rf h
  obtain ⟨q1, q2, q3⟩ := gMG.meet (way := way) (dew := (a 4) 6) hM0 hx hx36 hw
  unfold gThere at hK
  have grass : ¬ ((a 0) x = 4 ∧ 0 < w 22 7) → zCb mX12_isGrass [.ref 81, .int (zI x)] zS0 h (fun b3 h3 => ((b3 = false → K h3) ∧ (b3 = true → ((0 ≤ x ∧ x < 36) ∧ (zR (h3 94 x) ∧ (((h3 94 x) ≤ 0 → K h3) ∧ (¬ (h3 94 x) ≤ 0 → (zR (w 22 14 + w 22 2) ∧ (zR (h3 88 6) ∧ (((h3 88 6) ≤ (w 22 14 + w 22 2) → (zR ((h3 93 5) + (h3 94 x)) ∧ (zR (w 22 15) ∧ ((w 22 15 < ((h3 93 5) + (h3 94 x)) → K (zU h3 93 9 ((h3 93 9) + 1))) ∧ (¬ w 22 15 < ((h3 93 5) + (h3 94 x)) → K (zU (zU (zU (zU h3 93 5 ((h3 93 5) + (h3 94 x))) 93 1 ((h3 93 1) + 1)) 94 x 0) 95 x (way + 1))))))) ∧ (¬ (h3 88 6) ≤ (w 22 14 + w 22 2) → K (zU h3 93 8 ((h3 93 8) + 1))))))))))))) := by
    intro c
    rw [if_neg c] at hK
    refine sX12_isGrass hG.1 hx36 ?_
    simp only [decide_eq_true_eq, decide_eq_false_iff_not]
    refine ⟨fun c1 => ?_, fun c1 => ⟨hx36, ?_⟩⟩
    · have := hN x hx36.1 hx36.2 (by omega)
      rw [if_neg (by omega)] at hK
      exact hK _ hM0 hF
    · rw [eh, r6, m5]
      refine ⟨⟨by omega, by omega⟩, fun c2 => ?_, fun c2 => ⟨⟨by omega, by omega⟩, ⟨by omega, by omega⟩, fun c3 => ⟨⟨by omega, by omega⟩, ⟨by omega, by omega⟩, fun c4 => ?_, fun c4 => ?_⟩, fun c3 => ?_⟩⟩
      · rw [if_neg (by omega)] at hK
        exact hK _ hM0 hF
      · rw [if_pos (by omega)] at hK
        exact hK _ (q1 c3 c4) (hF.up (Or.inl rfl))
      · rw [if_pos (by omega)] at hK
        have := q2 c3 c4
        rw [eh, m5] at this
        exact hK _ this ((((hF.up (Or.inl rfl)).up (Or.inl rfl)).up (Or.inr (Or.inl rfl))).up (Or.inr (Or.inr (Or.inl rfl))))
      · rw [if_pos (by omega)] at hK
        exact hK _ (q3 c3) (hF.up (Or.inl rfl))
  refine wX12_isThere ⟨⟨by omega, by omega⟩, ?_⟩
  rw [k1]
  refine ⟨⟨by omega, by omega⟩, fun c => grass (fun z => c z.1), fun c => ?_⟩
  have m5' : h 93 5 = w 22 7 := m5
  rw [m5]
  refine ⟨⟨by omega, by omega⟩, fun c2 => ?_, fun c2 => ?_⟩
  · exact grass (fun z => by omega)
  · rw [if_pos ⟨c, by omega⟩] at hK
    refine hK _ ?_ (((hF.up (Or.inl rfl)).up (Or.inl rfl)).up (Or.inl rfl))
    refine ⟨?_, ?_, ?_, ?_, ?_, ?_, ?_, ?_, ?_, ?_, ?_⟩ <;> first | (simp [zU, *]; done) | (intro i hi0 hi1; have := mh i hi0 hi1; simpa [zU] using this) | (intro i hi0 hi1; have := mp i hi0 (by simpa [zU] using hi1); simpa [zU] using this)
