/-! WHAT BOTH SIDES ARE TIED TO: 'a' holds kinds (a 0), heights (a 1), suns (a 2), pictures (a 3), rules (a 4), MOVES (a 5, a 6, their number a 7 0), the tape (a 8, its length a 7 1), the fault (a 7 2), torn (a 7 3), images (a 7 4, a 7 5; a 10 .. a 15, a 20 .. a 25), sheets (a 30 lanes, a 31 lengths, a 32 .. a 35) -/
/-- LEAST: bits of grass, by their order -/
def lRk (Kd : Int → Int) : Nat → Int
  | 0 => 0
  | n + 1 => if Kd (n : Int) ≤ 1 then lRk Kd n + 1 else lRk Kd n
def lBt (Kd : Int → Int) (c : Int) : Int := if Kd c ≤ 1 then iSl 1 (lRk Kd c.toNat) else 0
def lAll (Kd : Int → Int) : Int := iSl 1 (lRk Kd 36) - 1
def lCo (Kd R : Int → Int) (c look way : Int) : Int := zQ look way * R 1 + zMn Kd R way (zNx Kd c way)
/-- one step's worth -/
def lAt (Kd R : Int → Int) (f : Int → Int → Int → Int) (mask c look way : Int) : Int := if 0 ≤ zNx Kd c way then lCo Kd R c look way + f (iO mask (lBt Kd (zNx Kd c way))) (zNx Kd c way) way else 1000000
def lV (Kd R : Int → Int) : Nat → Int → Int → Int → Int
  | 0, mask, _, _ => if mask = lAll Kd then 0 else 1000000
  | n + 1, mask, c, look => if mask = lAll Kd then 0 else min 1000000 (min (lAt Kd R (lV Kd R n) mask c look 0) (min (lAt Kd R (lV Kd R n) mask c look 1) (min (lAt Kd R (lV Kd R n) mask c look 2) (lAt Kd R (lV Kd R n) mask c look 3))))
/-- the least minutes from a stand on; 1000000: none -/
def lM (Kd R : Int → Int) (mask c look : Int) : Int := lV Kd R 1000000 mask c look
def lFw (Kd R : Int → Int) (mask c look : Int) : Int :=
  if 0 ≤ zNx Kd c 0 ∧ lAt Kd R (lM Kd R) mask c look 0 = lM Kd R mask c look then 0
  else if 0 ≤ zNx Kd c 1 ∧ lAt Kd R (lM Kd R) mask c look 1 = lM Kd R mask c look then 1
  else if 0 ≤ zNx Kd c 2 ∧ lAt Kd R (lM Kd R) mask c look 2 = lM Kd R mask c look then 2
  else if 0 ≤ zNx Kd c 3 ∧ lAt Kd R (lM Kd R) mask c look 3 = lM Kd R mask c look then 3 else -4
/-- the stand behind s steps of LEAST: mask, cell, look, quarters -/
def lSt (Kd R : Int → Int) : Nat → Int × Int × Int × Int
  | 0 => (lBt Kd (R 0), R 0, 0, 0)
  | n + 1 => if (lSt Kd R n).1 = lAll Kd then lSt Kd R n else
      (iO (lSt Kd R n).1 (lBt Kd (zNx Kd (lSt Kd R n).2.1 (lFw Kd R (lSt Kd R n).1 (lSt Kd R n).2.1 (lSt Kd R n).2.2.1))), zNx Kd (lSt Kd R n).2.1 (lFw Kd R (lSt Kd R n).1 (lSt Kd R n).2.1 (lSt Kd R n).2.2.1), lFw Kd R (lSt Kd R n).1 (lSt Kd R n).2.1 (lSt Kd R n).2.2.1, (lSt Kd R n).2.2.2 + zQ (lSt Kd R n).2.2.1 (lFw Kd R (lSt Kd R n).1 (lSt Kd R n).2.1 (lSt Kd R n).2.2.1))
def lWy (Kd R : Int → Int) (s : Nat) : Int := lFw Kd R (lSt Kd R s).1 (lSt Kd R s).2.1 (lSt Kd R s).2.2.1
/-- how many steps LEAST has: the first behind which all is done, 252 at most -/
def lLn (Kd R : Int → Int) : Nat → Nat → Nat
  | 0, s => s
  | n + 1, s => if (lSt Kd R s).1 = lAll Kd then s else lLn Kd R n (s + 1)
def lLen (Kd R : Int → Int) : Nat := lLn Kd R 252 0
def lMin (Kd R : Int → Int) : Int := lM Kd R (lBt Kd (R 0)) (R 0) 0
def lUp (Kd : Int → Int) (c : Int) : Int → Int := fun i => if i = c then 3 else Kd i
def lCs (Kd R : Int → Int) (c : Int) : Int := lMin Kd R - lMin (lUp Kd c) R
/-- the dearest of the barred cells below n: its cell (-4: none), its cost -/
def lDr (Kd R : Int → Int) : Nat → Int × Int
  | 0 => (-4, 0)
  | n + 1 => if Kd (n : Int) = 2 ∧ (lDr Kd R n).2 < lCs Kd R (n : Int) then ((n : Int), lCs Kd R (n : Int)) else lDr Kd R n
/-- what the class keeps of LEAST -/
def cL (a h : zMm) : Prop := (∀ i : Int, 0 ≤ i → i < 144 → h 45 i = 0) ∧ (h 31 13 = 0 ∨ (h 31 13 = 1 ∧ lRk (a 0) 36 ≤ 7 ∧ h 31 15 = lMin (a 0) (a 4) ∧ (lMin (a 0) (a 4) < 1000000 → h 31 16 = (lLen (a 0) (a 4) : Nat) ∧ h 31 17 = (lSt (a 0) (a 4) (lLen (a 0) (a 4))).2.2.2 ∧ ∀ s : Nat, s < lLen (a 0) (a 4) → h 46 (s : Int) = lWy (a 0) (a 4) s))) ∧ (h 31 14 = 0 ∨ (h 31 14 = 1 ∧ h 31 18 = (lDr (a 0) (a 4) 36).1 ∧ h 31 19 = (lDr (a 0) (a 4) 36).2))
/-! what is told is as it may be -/
def zWi (a : zMm) (b : Nat) : Prop := (∀ i : Int, 0 ≤ i → i < 36 → (0 ≤ a b i ∧ a b i ≤ 4) ∧ (0 ≤ a (b + 1) i ∧ a (b + 1) i ≤ 60) ∧ (a (b + 2) i = -4 ∨ (0 ≤ a (b + 2) i ∧ a (b + 2) i ≤ 3)) ∧ (1 < a b i → a (b + 1) i = 0 ∧ a (b + 2) i = -4)) ∧ (0 ≤ a (b + 5) 0 ∧ a (b + 5) 0 ≤ 24) ∧ ∀ i : Int, 0 ≤ i → i < a (b + 5) 0 → (0 ≤ a (b + 3) i ∧ a (b + 3) i ≤ 3) ∧ (1 ≤ a (b + 4) i ∧ a (b + 4) i ≤ 5)
def WF (a : zMm) : Prop :=
  (∀ i : Int, 0 ≤ i → i < 36 → (0 ≤ a 0 i ∧ a 0 i ≤ 4) ∧ (0 ≤ a 1 i ∧ a 1 i ≤ 60) ∧ (0 ≤ a 2 i ∧ a 2 i ≤ 9) ∧ (a 3 i = -4 ∨ (0 ≤ a 3 i ∧ a 3 i ≤ 3)) ∧ (1 < a 0 i → a 1 i = 0 ∧ a 3 i = -4)) ∧
  zRu (a 4) ∧ ¬ a 0 (a 4 0) = 2 ∧ zMW a ∧
  ((0 ≤ a 7 1 ∧ a 7 1 ≤ 320) ∧ ∀ i : Int, 0 ≤ i → i < a 7 1 → 0 ≤ a 8 i ∧ a 8 i ≤ 255) ∧
  ((0 ≤ a 7 2 ∧ a 7 2 ≤ 6) ∧ (0 ≤ a 7 3 ∧ a 7 3 ≤ 3)) ∧
  ((a 7 4 = 0 ∨ a 7 4 = 1) ∧ (a 7 5 = 0 ∨ a 7 5 = 1) ∧ (a 7 4 = 1 → zWi a 10) ∧ (a 7 5 = 1 → zWi a 20)) ∧
  (∀ k : Nat, k < 4 → (-1 ≤ a 30 k ∧ a 30 k ≤ 2) ∧ (0 ≤ a 31 k ∧ a 31 k ≤ 48) ∧ ∀ i : Int, 0 ≤ i → i < 48 → zR (a (32 + k) i))
/-- the class's cells -/
def cG (a h : zMm) : Prop := zGA a h ∧ zHA a h ∧ ∀ i : Int, 0 ≤ i → i < 36 → h 13 i = a 2 i
def cT (a h : zMm) : Prop := h 1 1 = a 7 1 ∧ ∀ i : Int, 0 ≤ i → i < a 7 1 → h 2 i % 256 = a 8 i ∧ -128 ≤ h 2 i ∧ h 2 i < 128
def cI1 (a h : zMm) (b g m : Nat) : Prop := (∀ i : Int, 0 ≤ i → i < 36 → h (g + 1) i = a b i ∧ h (g + 2) i = a (b + 1) i ∧ h (g + 4) i = a (b + 2) i) ∧ h m 2 = a (b + 5) 0 ∧ ∀ i : Int, 0 ≤ i → i < a (b + 5) 0 → h (m + 1) i = a (b + 3) i ∧ h (m + 2) i = a (b + 4) i
def cI (a h : zMm) : Prop := h 71 0 = a 7 4 ∧ h 71 1 = a 7 5 ∧ (a 7 4 = 1 → cI1 a h 10 52 65) ∧ (a 7 5 = 1 → cI1 a h 20 58 68)
def cS (a h : zMm) : Prop := ∀ k : Nat, k < 4 → h (73 + 2 * k) 1 = a 30 k ∧ h (73 + 2 * k) 2 = a 31 k ∧ ∀ i : Int, 0 ≤ i → i < 48 → h (74 + 2 * k) i = a (32 + k) i
def cO (a h : zMm) : Prop := h 3 1 = a 7 2 ∧ h 0 15 = a 7 3
def CR (a h : zMm) : Prop := cG a h ∧ zMA a h ∧ cT a h ∧ cI a h ∧ cS a h ∧ cO a h ∧ cL a h
/-- the model's cells -/
def mA (a h : zMm) : Prop := zGm a h ∧ ∀ i : Int, 0 ≤ i → i < 36 → h 92 (108 + i) = a 2 i
def mZ (a h : zMm) : Prop := zKd (h 92) (a 0) ∧ (∀ r : Int, 0 ≤ r → r ≤ 7 → h 88 r = a 4 r) ∧ h 92 192 = a 7 0 ∧ (∀ i : Int, 0 ≤ i → i < a 7 0 → h 92 (144 + 2 * i) = a 5 i ∧ h 92 (144 + 2 * i + 1) = a 6 i) ∧ (∀ i : Int, 0 ≤ i → i < 36 → a 0 i = 0 ∧ a 1 i = 3 ∧ a 2 i = 3 ∧ a 3 i = -4 ∧ h 92 (36 + i) = 0 ∧ h 92 (72 + i) = 0 ∧ h 92 (108 + i) = 0)
def mG (a h : zMm) : Prop := (h 81 21 = 1 ∧ mA a h) ∨ (h 81 21 = 0 ∧ mZ a h ∧ a 7 4 = 0 ∧ a 7 5 = 0)
def mT (a h : zMm) : Prop := h 81 1 = a 7 1 ∧ ∀ i : Int, 0 ≤ i → i < a 7 1 → h 82 i = a 8 i
def mI1 (a h : zMm) (b : Nat) (p : Int) : Prop := (∀ i : Int, 0 ≤ i → i < 36 → h 92 (p + i) = a b i ∧ h 92 (p + 36 + i) = a (b + 1) i ∧ h 92 (p + 72 + i) = zPi (a (b + 2) i)) ∧ h 92 (p + 192) = a (b + 5) 0 ∧ ∀ i : Int, 0 ≤ i → i < a (b + 5) 0 → h 92 (p + 144 + 2 * i) = a (b + 3) i ∧ h 92 (p + 144 + 2 * i + 1) = a (b + 4) i
def mI (a h : zMm) : Prop := h 104 0 = a 7 4 ∧ h 104 1 = a 7 5 ∧ (a 7 4 = 1 → mI1 a h 10 200) ∧ (a 7 5 = 1 → mI1 a h 20 400)
def mS (a h : zMm) : Prop := ∀ k : Nat, k < 4 → h 105 k = (if a 30 k = -1 then -4 else a 30 k) ∧ h 106 k = a 31 k ∧ ∀ i : Int, 0 ≤ i → i < 48 → h 107 (48 * k + i) = a (32 + k) i
def mO (a h : zMm) : Prop := h 81 2 = a 7 2 ∧ h 81 50 = a 7 3
/-- the constant rows of the model -/
def mC (h : zMm) : Prop := (∀ i : Int, 0 ≤ i → i < 11 → h 83 i = ([0, 6, 10, 15, 18, 23, 27, 30, 34, 37, 40] : List Int).getD i.toNat 0) ∧ (∀ i : Int, 0 ≤ i → i < 40 → h 84 i = ([115, 111, 99, 107, 101, 116, 116, 117, 114, 110, 99, 108, 105, 109, 98, 98, 97, 103, 101, 109, 112, 116, 121, 99, 111, 114, 100, 100, 101, 119, 104, 105, 103, 104, 114, 111, 119, 115, 117, 110] : List Int).getD i.toNat 0) ∧ (∀ i : Int, 0 ≤ i → i < 8 → h 85 i = ([0, 0, 1, 1, 0, 1, 0, 0] : List Int).getD i.toNat 0 ∧ h 86 i = ([35, 3, 4, 200, 9, 99, 999, 60] : List Int).getD i.toNat 0 ∧ h 87 i = ([0, 1, 2, 30, 2, 20, 0, 3] : List Int).getD i.toNat 0)
def MR (a h : zMm) : Prop := mG a h ∧ mT a h ∧ mI a h ∧ mS a h ∧ mO a h ∧ mC h
def zHi81 (h h' : zMm) : Prop := ∀ o : Nat, 81 ≤ o → h' o = h o
def zLo81 (h h' : zMm) : Prop := ∀ o : Nat, o < 81 → h' o = h o
theorem MR.hi {a h h' : zMm} (hM : MR a h) (hF : zHi81 h h') : MR a h' := by
  unfold MR mG mA mZ zGm mT mI mI1 mS mO mC at hM ⊢
  rw [hF 81 (by decide), hF 82 (by decide), hF 83 (by decide), hF 84 (by decide), hF 85 (by decide), hF 86 (by decide), hF 87 (by decide), hF 88 (by decide), hF 92 (by decide), hF 104 (by decide), hF 105 (by decide), hF 106 (by decide), hF 107 (by decide)]
  exact hM
theorem CR.lo {a h h' : zMm} (hC : CR a h) (hF : zLo81 h h') : CR a h' := by
  obtain ⟨h1, h2, h3, h4, h5, h6, h7⟩ := hC
  have e : ∀ o : Nat, o < 81 → h' o = h o := hF
  refine ⟨?_, ?_, ?_, ?_, ?_, ?_, ?_⟩
  · unfold cG zGA zHA at h1 ⊢
    rw [e 11 (by decide), e 12 (by decide), e 13 (by decide), e 14 (by decide), e 15 (by decide)]
    exact h1
  · unfold zMA at h2 ⊢
    rw [e 16 (by decide), e 17 (by decide), e 18 (by decide)]
    exact h2
  · unfold cT at h3 ⊢
    rw [e 1 (by decide), e 2 (by decide)]
    exact h3
  · unfold cI cI1 at h4 ⊢
    rw [e 71 (by decide), e (52 + 1) (by decide), e (52 + 2) (by decide), e (52 + 4) (by decide), e 65 (by decide), e (65 + 1) (by decide), e (65 + 2) (by decide), e (58 + 1) (by decide), e (58 + 2) (by decide), e (58 + 4) (by decide), e 68 (by decide), e (68 + 1) (by decide), e (68 + 2) (by decide)]
    exact h4
  · intro k hk
    rw [e (73 + 2 * k) (by omega), e (74 + 2 * k) (by omega)]
    exact h5 k hk
  · unfold cO at h6 ⊢
    rw [e 3 (by decide), e 0 (by decide)]
    exact h6
  · unfold cL at h7 ⊢
    rw [e 31 (by decide), e 45 (by decide), e 46 (by decide)]
    exact h7
/-- the class's scratch: cells that nothing of CR stands in -/
theorem CR.scr {a h h' : zMm} (hC : CR a h) (hF : ∀ o : Nat, (o < 4 ∨ (10 ≤ o ∧ o ≤ 18) ∨ (o = 31 ∨ o = 45 ∨ o = 46) ∨ (51 ≤ o ∧ o ≤ 80)) → h' o = h o) : CR a h' := by
  obtain ⟨h1, h2, h3, h4, h5, h6, h7⟩ := hC
  refine ⟨?_, ?_, ?_, ?_, ?_, ?_, ?_⟩
  · unfold cG zGA zHA at h1 ⊢
    rw [hF 11 (by decide), hF 12 (by decide), hF 13 (by decide), hF 14 (by decide), hF 15 (by decide)]
    exact h1
  · unfold zMA at h2 ⊢
    rw [hF 16 (by decide), hF 17 (by decide), hF 18 (by decide)]
    exact h2
  · unfold cT at h3 ⊢
    rw [hF 1 (by decide), hF 2 (by decide)]
    exact h3
  · unfold cI cI1 at h4 ⊢
    rw [hF 71 (by decide), hF (52 + 1) (by decide), hF (52 + 2) (by decide), hF (52 + 4) (by decide), hF 65 (by decide), hF (65 + 1) (by decide), hF (65 + 2) (by decide), hF (58 + 1) (by decide), hF (58 + 2) (by decide), hF (58 + 4) (by decide), hF 68 (by decide), hF (68 + 1) (by decide), hF (68 + 2) (by decide)]
    exact h4
  · intro k hk
    rw [hF (73 + 2 * k) (by omega), hF (74 + 2 * k) (by omega)]
    exact h5 k hk
  · unfold cO at h6 ⊢
    rw [hF 3 (by decide), hF 0 (by decide)]
    exact h6
  · unfold cL at h7 ⊢
    rw [hF 31 (by decide), hF 45 (by decide), hF 46 (by decide)]
    exact h7
theorem MR.scr {a h h' : zMm} (hM : MR a h) (h81 : h' 81 1 = h 81 1 ∧ h' 81 2 = h 81 2 ∧ h' 81 21 = h 81 21 ∧ h' 81 50 = h 81 50) (hF : ∀ o : Nat, (82 ≤ o ∧ o ≤ 88) ∨ o = 92 ∨ (104 ≤ o ∧ o ≤ 107) → h' o = h o) : MR a h' := by
  obtain ⟨e1, e2, e3, e4⟩ := h81
  unfold MR mG mA mZ zGm mT mI mI1 mS mO mC at hM ⊢
  rw [e1, e2, e3, e4, hF 82 (by decide), hF 83 (by decide), hF 84 (by decide), hF 85 (by decide), hF 86 (by decide), hF 87 (by decide), hF 88 (by decide), hF 92 (by decide), hF 104 (by decide), hF 105 (by decide), hF 106 (by decide), hF 107 (by decide)]
  exact hM
