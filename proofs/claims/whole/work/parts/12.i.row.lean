/-! TEXT: the class takes a row -/
theorem zBy_10 : zByt.getD 10 [] = [103, 108, 120, 98, 104] := rfl
theorem yKi_of : ∀ b : Nat, b < 256 → (iB (b : Int) = 103 ↔ b = 103) ∧ (iB (b : Int) = 108 ↔ b = 108) ∧ (iB (b : Int) = 120 ↔ b = 120) ∧ (iB (b : Int) = 98 ↔ b = 98) ∧ (iB (b : Int) = 104 ↔ b = 104) ∧ -128 ≤ iB (b : Int) ∧ iB (b : Int) < 128 := by decide +kernel
theorem sJ0_indexOf {S : zSh} {h : zMm} {K : Int → zMm → Prop} {b : Int} (hb : 0 ≤ b ∧ b < 256) (w : K (if yKi b = -4 then -1 else yKi b) h) : zCi mJ0_indexOf_0f7a4 [.ref (1000 + 10), .int (zI b)] S h K := by
  obtain ⟨c, rfl⟩ := Int.eq_ofNat_of_zero_le hb.1
  obtain ⟨o1, o2, o3, o4, o5, o6, o7⟩ := yKi_of c (by omega)
  refine wJ0_indexOf_0f7a4 (by decide) (wJ0_indexOf_7cf53 (by decide) (wJ0_isLatin1_aae02 (by decide) ⟨rfl, sJ0_length (by decide) (wJ1_indexOf_4cfef (by decide) (wJ1_canEncode_9a6ad ⟨⟨by omega, by omega⟩, ?_⟩))⟩))
  rw [if_neg (show ¬ (c : Int) < 0 by omega), if_neg (show ¬ 255 < (c : Int) by omega)]
  refine ⟨fun _ => ⟨by decide, by decide, by decide, fun _ => ?_, fun z => absurd (show max (0 : Int) 0 < min ((zLen.getD 10 0 : Nat) : Int) ((zLen.getD 10 0 : Nat) : Int) by decide) z⟩, fun z => absurd z (by decide)⟩
  refine wJ1_indexOfChar_4cfef (by decide) ?_
  show RR mJ1_indexOfChar_4cfef 0 0 7 [some (.ref (1100 + 10)), none, none, some (.int (zI 5)), some (.int (zI (iB (c : Int)))), some (.int (zI 0))] [] S h (zQi S K)
  have step : ∀ (k : Nat) (L : Int), k < 5 → ((zByt.getD 10 []).getD k 0).toInt = L → zR L → (¬ L = iB (c : Int) → RR mJ1_indexOfChar_4cfef 0 0 7 [some (.ref (1100 + 10)), none, none, some (.int (zI 5)), some (.int (zI (iB (c : Int)))), some (.int (zI ((k + 1 : Nat) : Int)))] [] S h (zQi S K)) → (L = iB (c : Int) → K (k : Int) h) → RR mJ1_indexOfChar_4cfef 0 0 7 [some (.ref (1100 + 10)), none, none, some (.int (zI 5)), some (.int (zI (iB (c : Int)))), some (.int (zI (k : Int)))] [] S h (zQi S K) := by
    intro k L hk hL hr n y
    refine bJ1_indexOfChar_4cfef_7 (by decide) ⟨⟨by omega, by omega⟩, by decide, fun z => absurd z (by omega), fun _ => ⟨⟨by omega, by show (k : Int) < 5; omega⟩, fun x4 r4 e4 => ?_⟩⟩
    have ex : x4 = L := by
      rw [← hL, show k = ((k : Int)).toNat by omega, e4, zI_to r4]
    rw [ex]
    exact ⟨hr, ⟨by omega, by omega⟩, n, y⟩
  have g : ∀ v : Int, v = (if yKi (c : Int) = -4 then -1 else yKi (c : Int)) → K v h := fun v e => by rw [e]; exact w
  refine step 0 103 (by decide) (by decide +kernel) (by decide) (fun n0 => step 1 108 (by decide) (by decide +kernel) (by decide) (fun n1 => step 2 120 (by decide) (by decide +kernel) (by decide) (fun n2 => step 3 98 (by decide) (by decide +kernel) (by decide) (fun n3 => step 4 104 (by decide) (by decide +kernel) (by decide) (fun n4 => ?_) (fun e => ?_)) (fun e => ?_)) (fun e => ?_)) (fun e => ?_)) (fun e => ?_)
  · refine bJ1_indexOfChar_4cfef_7 (by decide) ⟨by decide, by decide, fun _ => ?_, fun z => absurd (show (5 : Int) ≤ ((4 + 1 : Nat) : Int) by decide) z⟩
    have e : yKi (c : Int) = -4 := by
      unfold yKi
      rw [if_neg (fun z => n3 (o4.mpr (by omega)).symm), if_neg (fun z => n0 (o1.mpr (by omega)).symm), if_neg (fun z => n4 (o5.mpr (by omega)).symm), if_neg (fun z => n1 (o2.mpr (by omega)).symm), if_neg (fun z => n2 (o3.mpr (by omega)).symm)]
    exact g (-1) (by rw [e]; rfl)
  · have := o5.mp e.symm; subst this; exact g 4 rfl
  · have := o4.mp e.symm; subst this; exact g 3 rfl
  · have := o3.mp e.symm; subst this; exact g 2 rfl
  · have := o2.mp e.symm; subst this; exact g 1 rfl
  · have := o1.mp e.symm; subst this; exact g 0 rfl
theorem yKi_R (b : Int) : yKi b = -4 ∨ (0 ≤ yKi b ∧ yKi b ≤ 4) := by
  unfold yKi
  repeat' split
  all_goals first | exact Or.inl rfl | exact Or.inr ⟨by decide, by decide⟩
/-- row: n letters taken -/
def yRn (a h : zMm) (s r : Int) (n : Nat) : zMm := fun o i => if o = 5 ∧ 6 * r ≤ i ∧ i < 6 * r + (n : Int) then yKi (gB a (gSb a s + (i - 6 * r))) else h o i
theorem yRn_0 (a h : zMm) (s r : Int) : yRn a h s r 0 = h := by
  funext o i
  unfold yRn
  rw [if_neg (by omega)]
theorem yRn_s (a h : zMm) (s r : Int) (n : Nat) : zU (yRn a h s r n) 5 (r * 6 + (n : Int)) (yKi (gB a (gSb a s + (n : Int)))) = yRn a h s r (n + 1) := by
  funext o i
  rw [zU_at]
  by_cases c : o = 5 ∧ i = r * 6 + (n : Int)
  · rw [if_pos c]
    unfold yRn
    rw [if_pos (by omega), show i - 6 * r = (n : Int) by omega]
  · rw [if_neg c]
    unfold yRn
    by_cases q : o = 5 ∧ 6 * r ≤ i ∧ i < 6 * r + (n : Int)
    · rw [if_pos q, if_pos (by omega)]
    · rw [if_neg q, if_neg (by omega)]
theorem yRn_off {a h : zMm} {s r : Int} {n o : Nat} (ho : o ≠ 5) : yRn a h s r n o = h o := by
  funext i
  unfold yRn
  rw [if_neg (fun z => ho z.1)]
theorem sX9_takeRow {a h : zMm} {K : Bool → zMm → Prop} {s r : Int} (T : gTa a) (C : cT a h) (hs : h 1 4 = s) (s0 : 0 ≤ s ∧ s ≤ a 7 1) (h4 : h 3 4 = r) (hr : 0 ≤ r ∧ r < 6)
    (w1 : yDue a s 1 = 0 → gEn a s - gSb a s = 6 → (∀ k : Nat, k < 6 → 0 ≤ yKi (gB a (gSb a s + (k : Int)))) → ∀ h', gRd a h s h' → K true (zU (yRn a h' s r 6) 3 4 (r + 1)))
    (w0 : ¬ yDue a s 1 = 0 → ∀ h', gRd a h s h' → K false (zU (zU h' 3 1 (yDue a s 1)) 3 2 (gSb a s)))
    (w3 : yDue a s 1 = 0 → ¬ (gEn a s - gSb a s = 6 ∧ ∀ k : Nat, k < 6 → 0 ≤ yKi (gB a (gSb a s + (k : Int)))) → ∀ (n : Nat) (h' : zMm), gRd a h s h' → K false (zU (zU (yRn a h' s r n) 3 1 3) 3 2 (gSb a s))) : zCb mX9_takeRow [.ref 3, .ref 1] zS0 h K := by
  obtain ⟨e1, e2, -, -⟩ := gEn_in T s0.1 s0.2
  have e3 := gSb_in s0.2
  have hn := T.1
  refine wX9_takeRow (sX8_readToken T C hs s0 (fun h1 R => ?_))
  have R2 := R
  obtain ⟨r1, r2, r3, r4, r5, r6⟩ := R2
  have C1 := gRd.C C R
  refine sX9_isDue ⟨by decide, by decide⟩ r3 r4 (fun c => ⟨fun _ => ?_, fun z => absurd z (by decide)⟩) (fun c => ⟨fun z => absurd z (by decide), fun _ => w0 c h1 R⟩)
  rw [r4, r5]
  refine ⟨⟨by omega, by omega⟩, fun c6 => ?_, fun c6 => ?_⟩
  · have lp : ∀ (q n : Nat), n + q = 6 → (∀ k : Nat, k < n → 0 ≤ yKi (gB a (gSb a s + (k : Int)))) → RR mX9_takeRow 0 0 41 [some (.ref 3), some (.ref 1), some (.int (zI (n : Int))), none] [] zS0 (yRn a h1 s r n) (zQb zS0 K) := by
      intro q
      induction q with
      | zero =>
        intro n hn6 hk
        obtain rfl : n = 6 := by omega
        refine bX9_takeRow_41 ⟨by decide, fun _ => ?_, fun z => absurd (show (6 : Int) ≤ ((6 : Nat) : Int) by decide) z⟩
        rw [show yRn a h1 s r 6 3 4 = r by rw [yRn_off (by decide), r1 3 (by decide)]; exact h4]
        exact w1 c c6 hk h1 R
      | succ q iq =>
        intro n hn6 hk
        have Cn : cT a (yRn a h1 s r n) := ⟨by rw [yRn_off (by decide)]; exact C1.1, by rw [yRn_off (by decide)]; exact C1.2⟩
        have n3 : yRn a h1 s r n 3 4 = r := by rw [yRn_off (by decide), r1 3 (by decide)]; exact h4
        have n13 : yRn a h1 s r n 1 3 = gSb a s := by rw [yRn_off (by decide)]; exact r4
        have n14 : yRn a h1 s r n 1 4 = gEn a s := by rw [yRn_off (by decide)]; exact r5
        have hb := gBt_R T (gSb a s + (n : Int))
        have hb0 : 0 ≤ gB a (gSb a s + (n : Int)) := by
          rw [gB_in (by omega) (by omega)]
          exact (T.2 _ (by omega) (by omega)).1
        refine bX9_takeRow_41 ⟨⟨by omega, by omega⟩, fun z => absurd z (by omega), fun _ => sX8_letterOf T Cn n13 n14 ⟨by omega, e2⟩ ⟨by omega, by omega⟩ (sJ0_indexOf ⟨hb0, by omega⟩ ?_)⟩
        rw [n3, n13]
        have hki := yKi_R (gB a (gSb a s + (n : Int)))
        by_cases z : yKi (gB a (gSb a s + (n : Int))) = -4
        · rw [if_pos z]
          refine ⟨by decide, fun y => absurd y (by decide), fun _ => wX9_refuse ?_⟩
          exact w3 c (fun y => by have := y.2 n (by omega); omega) n h1 R
        · rw [if_neg z]
          refine ⟨⟨by omega, by omega⟩, fun y => ⟨⟨by omega, by omega⟩, ?_⟩, fun y => absurd y (by omega)⟩
          rw [yRn_s, show (n : Int) + 1 = ((n + 1 : Nat) : Int) by omega]
          refine iq (n + 1) (by omega) (fun k hk2 => ?_)
          by_cases hkn : k = n
          · rw [hkn]; omega
          · exact hk k (by omega)
    have z := lp 6 0 rfl (fun k hk => absurd hk (by omega))
    rw [yRn_0] at z
    exact z
  · refine wX9_refuse ?_
    have z := w3 c (fun y => c6 y.1) 0 h1 R
    rw [yRn_0] at z
    exact z
