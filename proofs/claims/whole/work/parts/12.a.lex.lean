/-! TEXT: tokens of the tape, as numbers; the class reads one -/
def gB (a : zMm) (i : Int) : Int := if 0 ≤ i ∧ i < a 7 1 then a 8 i else -4
def gK (b : Int) : Int := if 97 ≤ b ∧ b ≤ 122 then 1 else if 48 ≤ b ∧ b ≤ 57 then 2 else if b = 59 then 3 else if b = 32 then 4 else if b = -4 then 5 else 0
def yGo (a : zMm) (k : Int) : Nat → Int → Int
  | 0, i => i
  | m + 1, i => if gK (gB a i) = k then yGo a k m (i + 1) else i
def gRn (a : zMm) (k i : Int) : Int := yGo a k (a 7 1 - i).toNat i
def gTa (a : zMm) : Prop := (0 ≤ a 7 1 ∧ a 7 1 ≤ 320) ∧ ∀ i : Int, 0 ≤ i → i < a 7 1 → 0 ≤ a 8 i ∧ a 8 i ≤ 255
theorem gRn_go {a : zMm} {k i : Int} (hi : i < a 7 1) (hk : gK (gB a i) = k) : gRn a k i = gRn a k (i + 1) := by
  unfold gRn
  rw [show (a 7 1 - i).toNat = (a 7 1 - (i + 1)).toNat + 1 by omega]
  show (if gK (gB a i) = k then yGo a k _ (i + 1) else i) = _
  rw [if_pos hk]
theorem gRn_no {a : zMm} {k i : Int} (hk : ¬ gK (gB a i) = k) : gRn a k i = i := by
  unfold gRn
  cases (a 7 1 - i).toNat with
  | zero => rfl
  | succ m => exact if_neg hk
theorem gRn_end {a : zMm} {k i : Int} (hi : a 7 1 ≤ i) : gRn a k i = i := by
  unfold gRn
  rw [show (a 7 1 - i).toNat = 0 by omega]
  rfl
theorem yGo_in (a : zMm) (k : Int) : ∀ (m : Nat) (i : Int), i ≤ yGo a k m i ∧ yGo a k m i ≤ i + m ∧ (∀ j : Int, i ≤ j → j < yGo a k m i → gK (gB a j) = k) ∧ (yGo a k m i < i + m → ¬ gK (gB a (yGo a k m i)) = k) := by
  intro m
  induction m with
  | zero => intro i; exact ⟨Int.le_refl _, by show i ≤ i + ((0 : Nat) : Int); omega, fun j j0 j1 => absurd j1 (by show ¬ j < i; omega), fun c => absurd c (by show ¬ i < i + ((0 : Nat) : Int); omega)⟩
  | succ m ih =>
    intro i
    by_cases hk : gK (gB a i) = k
    · have e : yGo a k (m + 1) i = yGo a k m (i + 1) := if_pos hk
      obtain ⟨h1, h2, h3, h4⟩ := ih (i + 1)
      rw [e]
      refine ⟨by omega, by omega, fun j j0 j1 => ?_, fun c => h4 (by omega)⟩
      by_cases hj : j = i
      · rw [hj]; exact hk
      · exact h3 j (by omega) j1
    · have e : yGo a k (m + 1) i = i := if_neg hk
      rw [e]
      exact ⟨Int.le_refl _, by omega, fun j j0 j1 => absurd j1 (by omega), fun _ => hk⟩
theorem gRn_in {a : zMm} {k i : Int} (hi : i ≤ a 7 1) : i ≤ gRn a k i ∧ gRn a k i ≤ a 7 1 ∧ (∀ j : Int, i ≤ j → j < gRn a k i → gK (gB a j) = k) ∧ (gRn a k i < a 7 1 → ¬ gK (gB a (gRn a k i)) = k) := by
  obtain ⟨h1, h2, h3, h4⟩ := yGo_in a k (a 7 1 - i).toNat i
  exact ⟨h1, by show yGo a k _ i ≤ _; omega, h3, fun c => h4 (by have : yGo a k (a 7 1 - i).toNat i < a 7 1 := c; omega)⟩
def gSb (a : zMm) (s : Int) : Int := gRn a 4 s
def gC (a : zMm) (s : Int) : Int := gK (gB a (gSb a s))
def gEn (a : zMm) (s : Int) : Int := if gC a s = 5 then gSb a s else if gC a s = 1 ∨ gC a s = 2 then gRn a (gC a s) (gSb a s + 1) else gSb a s + 1
def gTk (a : zMm) (s : Int) : Int := if gC a s = 2 ∧ 3 < gEn a s - gSb a s then 0 else gC a s
def gNv (a : zMm) (st : Int) : Nat → Int
  | 0 => 0
  | m + 1 => gNv a st m * 10 + gB a (st + m) - 48
def gNu (a : zMm) (s : Int) : Int := gNv a (gSb a s) (gEn a s - gSb a s).toNat
theorem gK_R (b : Int) : 0 ≤ gK b ∧ gK b ≤ 5 := by
  unfold gK
  repeat' split
  all_goals exact ⟨by decide, by decide⟩
theorem gB_in {a : zMm} {i : Int} (h0 : 0 ≤ i) (h1 : i < a 7 1) : gB a i = a 8 i := if_pos ⟨h0, h1⟩
theorem gB_out {a : zMm} {i : Int} (h1 : a 7 1 ≤ i) : gB a i = -4 := if_neg (by omega)
theorem gK_out {a : zMm} {i : Int} (h1 : a 7 1 ≤ i) : gK (gB a i) = 5 := by rw [gB_out h1]; rfl
theorem gK_5 {a : zMm} (T : gTa a) {i : Int} (h0 : 0 ≤ i) (h1 : i < a 7 1) : ¬ gK (gB a i) = 5 := by
  rw [gB_in h0 h1]
  have := T.2 i h0 h1
  unfold gK
  repeat' split
  all_goals omega
theorem gK_2 {b : Int} (h : gK b = 2) : 48 ≤ b ∧ b ≤ 57 := by
  unfold gK at h
  split at h
  · exact absurd h (by decide)
  · split at h
    · assumption
    · split at h
      · exact absurd h (by decide)
      · split at h
        · exact absurd h (by decide)
        · split at h <;> exact absurd h (by decide)
theorem gSb_in {a : zMm} {s : Int} (h1 : s ≤ a 7 1) : s ≤ gSb a s ∧ gSb a s ≤ a 7 1 := ⟨(gRn_in h1).1, (gRn_in h1).2.1⟩
theorem gEn_in {a : zMm} (T : gTa a) {s : Int} (h0 : 0 ≤ s) (h1 : s ≤ a 7 1) : gSb a s ≤ gEn a s ∧ gEn a s ≤ a 7 1 ∧ (¬ gC a s = 5 → gSb a s < gEn a s ∧ gSb a s < a 7 1) ∧ ((gC a s = 1 ∨ gC a s = 2) → ∀ j : Int, gSb a s ≤ j → j < gEn a s → gK (gB a j) = gC a s) := by
  obtain ⟨h2, h3⟩ := gSb_in h1
  by_cases c5 : gC a s = 5
  · have e : gEn a s = gSb a s := if_pos c5
    rw [e]
    exact ⟨Int.le_refl _, h3, fun c => absurd c5 c, fun c => absurd c5 (by omega)⟩
  · have hl : gSb a s < a 7 1 := by
      refine Int.not_le.mp (fun c => c5 ?_)
      exact gK_out c
    by_cases c12 : gC a s = 1 ∨ gC a s = 2
    · have e : gEn a s = gRn a (gC a s) (gSb a s + 1) := by unfold gEn; rw [if_neg c5, if_pos c12]
      obtain ⟨q1, q2, q3, -⟩ := gRn_in (a := a) (k := gC a s) (i := gSb a s + 1) (by omega)
      rw [e]
      refine ⟨by omega, q2, fun _ => ⟨by omega, hl⟩, fun _ j j0 j1 => ?_⟩
      by_cases hj : j = gSb a s
      · rw [hj]; rfl
      · exact q3 j (by omega) j1
    · have e : gEn a s = gSb a s + 1 := by unfold gEn; rw [if_neg c5, if_neg c12]
      rw [e]
      exact ⟨by omega, by omega, fun _ => ⟨by omega, hl⟩, fun c => absurd c c12⟩
theorem sX8_tokenAt {a h : zMm} {v1 : Int} {K : Int → zMm → Prop} (T : gTa a) (C : cT a h) (r1 : 0 ≤ v1 ∧ v1 < 1000) (w : K (gK (gB a v1)) h) : zCi mX8_tokenAt [.ref 1, .int (zI v1)] zS0 h K := by
  have hn : h 1 1 = a 7 1 := C.1
  have h0 := T.1
  refine wX8_tokenAt ⟨⟨by omega, by omega⟩, fun c => absurd c (by omega), fun _ => ?_⟩
  rw [hn]
  refine ⟨⟨by omega, by omega⟩, fun c => ?_, fun c => ⟨fun _ => ?_, fun c2 => absurd (show v1 < 320 by omega) c2⟩⟩
  · rw [gK_out c] at w; exact w
  · have h1 := C.2 v1 r1.1 (by omega)
    have h2 := T.2 v1 r1.1 (by omega)
    rw [gB_in r1.1 (by omega)] at w
    have key : ∀ x : Int, x = gK (a 8 v1) → K x h := fun x hx => by rw [hx]; exact w
    have e3 : (if h 2 v1 = 59 then (3 : Int) else (if h 2 v1 = 32 then (4 : Int) else (0 : Int))) = (if a 8 v1 = 59 then (3 : Int) else (if a 8 v1 = 32 then (4 : Int) else (0 : Int))) := by
      repeat' split
      all_goals omega
    have e4 : ∀ q : ¬ (97 ≤ a 8 v1 ∧ a 8 v1 ≤ 122), ∀ q2 : ¬ (48 ≤ a 8 v1 ∧ a 8 v1 ≤ 57), (if a 8 v1 = 59 then (3 : Int) else (if a 8 v1 = 32 then (4 : Int) else (0 : Int))) = gK (a 8 v1) := by
      intro q q2
      unfold gK
      rw [if_neg q, if_neg q2, if_neg (show ¬ a 8 v1 = -4 by omega)]
    rw [e3]
    refine ⟨⟨by omega, by omega⟩, ⟨by omega, by omega⟩, fun c1 => ⟨fun c2 => ?_, fun c2 => ⟨fun c3 => ?_, fun c3 => ?_⟩⟩, fun c1 => ⟨fun c2 => ⟨fun c3 => ?_, fun c3 => ⟨fun c4 => ?_, fun c4 => ?_⟩⟩, fun c2 => ?_⟩⟩
    · exact key _ (e4 (by omega) (by omega))
    · exact key _ (e4 (by omega) (by omega))
    · exact key _ (by unfold gK; rw [if_neg (by omega), if_pos (by omega)])
    · exact key _ (e4 (by omega) (by omega))
    · exact key _ (e4 (by omega) (by omega))
    · exact absurd c4 (by omega)
    · exact key _ (by unfold gK; rw [if_pos (by omega)])
