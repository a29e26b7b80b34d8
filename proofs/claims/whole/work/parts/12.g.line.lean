/-! TEXT: a line, told by numbers: d 0 kinds, d 1 rules, d 2 suns, d 3 rules told, d 4 suns told, d 5 0 rows -/
def yDue (a : zMm) (s k : Int) : Int := if gTk a s = 0 then 1 else if gTk a s = k then 0 else 2
def yNum (a : zMm) (s lo hi : Int) : Int := if ¬ yDue a s 2 = 0 then yDue a s 2 else if lo ≤ gNu a s ∧ gNu a s ≤ hi then 0 else 3
def yLo (m : Int) : Int := ([0, 0, 1, 1, 0, 1, 0, 0] : List Int).getD m.toNat 0
def yHi (m : Int) : Int := ([35, 3, 4, 200, 9, 99, 999, 60] : List Int).getD m.toNat 0
def yKi (b : Int) : Int := if b = 98 then 3 else if b = 103 then 0 else if b = 104 then 4 else if b = 108 then 1 else if b = 120 then 2 else -4
def yRw (a d : zMm) (s : Int) : zMm := fun o i => if o = 0 ∧ 6 * d 5 0 ≤ i ∧ i < 6 * d 5 0 + 6 then yKi (gB a (gSb a s + (i - 6 * d 5 0))) else if o = 5 ∧ i = 0 then d 5 0 + 1 else d o i
/-- what a line's body comes to: a fault's number (0: none) and place, the spot behind, what is read -/
def yBody (a d : zMm) (s : Int) : Int × Int × Int × zMm :=
  if gNm a s = 8 then
    if d 5 0 = 6 then (5, gSb a s, s, d)
    else if ¬ yDue a (gEn a s) 1 = 0 then (yDue a (gEn a s) 1, gSb a (gEn a s), s, d)
    else if gEn a (gEn a s) - gSb a (gEn a s) = 6 ∧ ∀ k : Nat, k < 6 → 0 ≤ yKi (gB a (gSb a (gEn a s) + (k : Int))) then (0, 0, gEn a (gEn a s), yRw a d (gEn a s)) else (3, gSb a (gEn a s), s, d)
  else if gNm a s = 9 then
    if ¬ yNum a (gEn a s) 0 35 = 0 then (yNum a (gEn a s) 0 35, gSb a (gEn a s), s, d)
    else if d 4 (gNu a (gEn a s)) = 1 then (4, gSb a (gEn a s), s, d)
    else if ¬ yNum a (gEn a (gEn a s)) 0 9 = 0 then (yNum a (gEn a (gEn a s)) 0 9, gSb a (gEn a (gEn a s)), s, d)
    else (0, 0, gEn a (gEn a (gEn a s)), zU (zU d 2 (gNu a (gEn a s)) (gNu a (gEn a (gEn a s)))) 4 (gNu a (gEn a s)) 1)
  else
    if d 3 (gNm a s) = 1 then (4, gSb a s, s, d)
    else if ¬ yNum a (gEn a s) (yLo (gNm a s)) (yHi (gNm a s)) = 0 then (yNum a (gEn a s) (yLo (gNm a s)) (yHi (gNm a s)), gSb a (gEn a s), s, d)
    else (0, 0, gEn a (gEn a s), zU (zU d 1 (gNm a s) (gNu a (gEn a s))) 3 (gNm a s) 1)
def yLine (a d : zMm) (s : Int) : Int × Int × Int × zMm :=
  if ¬ yDue a s 1 = 0 then (yDue a s 1, gSb a s, s, d)
  else if gNm a s = -4 then (2, gSb a s, s, d)
  else if ¬ (yBody a d s).1 = 0 then yBody a d s
  else if ¬ yDue a (yBody a d s).2.2.1 3 = 0 then (yDue a (yBody a d s).2.2.1 3, gSb a (yBody a d s).2.2.1, s, d)
  else (0, 0, gEn a (yBody a d s).2.2.1, (yBody a d s).2.2.2)
/-- the text from a spot on, r lines at most: a fault's number and place, the lines, what is read -/
def yText (a : zMm) : Nat → zMm → Int → Int → Int × Int × Int × zMm
  | 0, d, _, l => (0, 0, l, d)
  | r + 1, d, s, l => if gTk a s = 5 then (if d 0 (d 1 0) = 2 then (6, a 7 1, l, d) else (0, 0, l, d)) else if ¬ (yLine a d s).1 = 0 then ((yLine a d s).1, (yLine a d s).2.1, l, d) else yText a r (yLine a d s).2.2.2 (yLine a d s).2.2.1 (l + 1)
theorem gTk_R (a : zMm) (s : Int) : 0 ≤ gTk a s ∧ gTk a s ≤ 5 := by
  unfold gTk
  split
  · exact ⟨by decide, by decide⟩
  · exact gK_R _
theorem sX9_isDue {a h : zMm} {K : Bool → zMm → Prop} {s k : Int} (hk : 0 < k ∧ k < 10) (h2 : h 1 2 = gTk a s) (h3 : h 1 3 = gSb a s) (w1 : yDue a s k = 0 → K true h) (w0 : ¬ yDue a s k = 0 → K false (zU (zU h 3 1 (yDue a s k)) 3 2 (gSb a s))) : zCb mX9_isDue [.ref 3, .ref 1, .int (zI k)] zS0 h K := by
  have ht := gTk_R a s
  refine wX9_isDue ?_
  rw [h2, h3]
  refine ⟨⟨by omega, by omega⟩, fun c => ⟨⟨by omega, by omega⟩, fun c2 => ?_, fun c2 => ?_⟩, fun c => ?_⟩
  · exact w1 (by unfold yDue; rw [if_neg c, if_pos c2])
  · have e : yDue a s k = 2 := by unfold yDue; rw [if_neg c, if_neg c2]
    rw [e] at w0
    exact wX9_refuse (w0 (by decide))
  · have e : yDue a s k = 1 := by unfold yDue; rw [if_pos c]
    rw [e] at w0
    exact wX9_refuse (w0 (by decide))
theorem gNv_R {a : zMm} {st : Int} (n : Nat) (hd : ∀ j : Int, st ≤ j → j < st + (n : Int) → gK (gB a j) = 2) (hn : n ≤ 3) : 0 ≤ gNv a st n ∧ gNv a st n < 1000 := by
  have key : ∀ m : Nat, m ≤ n → 0 ≤ gNv a st m ∧ gNv a st m < 10 ^ m := by
    intro m
    induction m with
    | zero => intro _; exact ⟨Int.le_refl _, by show (0 : Int) < 1; decide⟩
    | succ m ih =>
      intro hm
      have q := ih (by omega)
      have b := gK_2 (hd (st + (m : Int)) (by omega) (by omega))
      have e : gNv a st (m + 1) = gNv a st m * 10 + gB a (st + (m : Int)) - 48 := rfl
      have e2 : (10 : Int) ^ (m + 1) = 10 ^ m * 10 := Int.pow_succ _ _
      rw [e, e2]
      generalize (10 : Int) ^ m = z at q ⊢
      omega
  have q := key n (Nat.le_refl _)
  rcases (show n = 0 ∨ n = 1 ∨ n = 2 ∨ n = 3 by omega) with rfl | rfl | rfl | rfl
  · exact ⟨q.1, Int.lt_trans q.2 (by decide)⟩
  · exact ⟨q.1, Int.lt_trans q.2 (by decide)⟩
  · exact ⟨q.1, Int.lt_trans q.2 (by decide)⟩
  · exact ⟨q.1, Int.lt_of_lt_of_le q.2 (by decide)⟩
theorem gNu_R {a : zMm} (T : gTa a) {s : Int} (s0 : 0 ≤ s ∧ s ≤ a 7 1) (h2 : gTk a s = 2) : 0 ≤ gNu a s ∧ gNu a s < 1000 := by
  obtain ⟨e1, e2, e3, e4⟩ := gEn_in T s0.1 s0.2
  have c : ¬ (gC a s = 2 ∧ 3 < gEn a s - gSb a s) := fun z => by
    have : gTk a s = 0 := if_pos z
    omega
  have c2 : gC a s = 2 := by
    have : gTk a s = gC a s := if_neg c
    omega
  exact gNv_R _ (fun j j0 j1 => (e4 (Or.inr c2) j j0 (by omega)).trans c2) (by omega)
/-- a frame: only the tape's tokens and the fault of the reader are other -/
theorem sX9_takeNumber {a h : zMm} {K : Bool → zMm → Prop} {s lo hi : Int} (T : gTa a) (C : cT a h) (hs : h 1 4 = s) (s0 : 0 ≤ s ∧ s ≤ a 7 1) (rl : zR lo) (rh : zR hi) (w1 : yNum a s lo hi = 0 → ∀ h', gRd a h s h' → K true h') (w0 : ¬ yNum a s lo hi = 0 → ∀ h', gRd a h s h' → K false (zU (zU h' 3 1 (yNum a s lo hi)) 3 2 (gSb a s))) : zCb mX9_takeNumber [.ref 3, .ref 1, .int (zI lo), .int (zI hi)] zS0 h K := by
  refine wX9_takeNumber (sX8_readToken T C hs s0 (fun h1 R => ?_))
  have R2 := R
  obtain ⟨r1, r2, r3, r4, r5, r6⟩ := R2
  refine sX9_isDue ⟨by decide, by decide⟩ r3 r4 (fun c => ⟨fun _ => ?_, fun z => absurd z (by decide)⟩) (fun c => ⟨fun z => absurd z (by decide), fun _ => ?_⟩)
  · have t2 : gTk a s = 2 := by
      unfold yDue at c
      split at c
      · exact absurd c (by decide)
      · split at c
        · assumption
        · exact absurd c (by decide)
    have hr := gNu_R T s0 t2
    rw [r6 t2]
    refine sX11_isWithin ⟨by omega, by omega⟩ rl rh ?_
    simp only [decide_eq_true_eq, decide_eq_false_iff_not]
    refine ⟨fun q => w1 (by unfold yNum; rw [if_neg (fun z => z c), if_pos q]) h1 R, fun q => ?_⟩
    have e : yNum a s lo hi = 3 := by unfold yNum; rw [if_neg (fun z => z c), if_neg q]
    rw [e] at w0
    rw [r4]
    exact wX9_refuse (w0 (by decide) h1 R)
  · have e : yNum a s lo hi = yDue a s 2 := if_pos c
    rw [e] at w0
    exact w0 c h1 R
