/-! TEXT: names, the class's -/
def gJm (j : Nat) : Nat := if j = 0 then 8 else if j = 9 then 9 else j - 1
def gKn (m : Int) : Int := if m = -4 then -1 else if m = 8 then 0 else if m = 9 then 9 else m + 1
theorem gJm_ok : ∀ j : Nat, j < 10 → gJm j < 10 ∧ zLen.getD j 0 = (gWl.getD (gJm j) []).length ∧ (zLen.getD j 0 < 10) ∧ gKn (gJm j : Nat) = (j : Int) ∧ (∀ i : Nat, i < zLen.getD j 0 → ((zByt.getD j []).getD i 0).toInt = (gWl.getD (gJm j) []).getD i 0 ∧ 0 ≤ (gWl.getD (gJm j) []).getD i 0 ∧ (gWl.getD (gJm j) []).getD i 0 < 256) := by decide +kernel
theorem gJm_on : ∀ m : Nat, m < 10 → ∃ j : Nat, j < 10 ∧ gJm j = m := by
  intro m hm
  by_cases c8 : m = 8
  · exact ⟨0, by omega, c8.symm⟩
  · by_cases c9 : m = 9
    · exact ⟨9, by omega, c9.symm⟩
    · refine ⟨m + 1, by omega, ?_⟩
      unfold gJm
      rw [if_neg (by omega), if_neg (by omega)]
      omega
theorem gWl_ne : ∀ m : Nat, m < 10 → ∀ k : Nat, k < 10 → m ≠ k → (gWl.getD m []).length ≠ (gWl.getD k []).length ∨ ∃ i : Nat, i < (gWl.getD m []).length ∧ (gWl.getD m []).getD i 0 ≠ (gWl.getD k []).getD i 0 := by
  intro m hm k hk hn
  have h : ∀ m : Nat, m < 10 → ∀ k : Nat, k < 10 → m ≠ k → (gWl.getD m []).length ≠ (gWl.getD k []).length ∨ (gWl.getD m []).getD 0 0 ≠ (gWl.getD k []).getD 0 0 ∨ (gWl.getD m []).getD 1 0 ≠ (gWl.getD k []).getD 1 0 ∨ (gWl.getD m []).getD 2 0 ≠ (gWl.getD k []).getD 2 0 := by decide +kernel
  have hl : ∀ m : Nat, m < 10 → 3 ≤ (gWl.getD m []).length := by decide
  have := hl m hm
  rcases h m hm k hk hn with q | q | q | q
  · exact Or.inl q
  · exact Or.inr ⟨0, by omega, q⟩
  · exact Or.inr ⟨1, by omega, q⟩
  · exact Or.inr ⟨2, by omega, q⟩
theorem yW_one {a : zMm} {st en : Int} {m k : Nat} (hm : m < 10) (hk : k < 10) (h1 : yW a st en m) (h2 : yW a st en k) : m = k := by
  refine Classical.byContradiction (fun hn => ?_)
  have hl : (gWl.getD m []).length = (gWl.getD k []).length := by have := h1.1; have := h2.1; omega
  rcases gWl_ne m hm k hk hn with q | ⟨i, hi, q⟩
  · exact q hl
  · exact q ((h1.2 i hi).symm.trans (h2.2 i (by omega)))
theorem gNf_yes {a : zMm} {st en : Int} {m : Nat} (hm : m < 10) (h : yW a st en m) : ∀ r k : Nat, r + k = 10 → k ≤ m → gNf a st en r k = (m : Int) := by
  intro r
  induction r with
  | zero => intro k hk hkm; omega
  | succ r ih =>
    intro k hk hkm
    by_cases c : yW a st en k
    · rw [show gNf a st en (r + 1) k = (k : Int) from if_pos c, yW_one (by omega) hm c h]
    · rw [show gNf a st en (r + 1) k = gNf a st en r (k + 1) from if_neg c]
      refine ih (k + 1) (by omega) ?_
      have : k ≠ m := fun z => c (by rw [z]; exact h)
      omega
theorem gNf_no {a : zMm} {st en : Int} (h : ∀ m : Nat, m < 10 → ¬ yW a st en m) : ∀ r k : Nat, r + k = 10 → gNf a st en r k = -4 := by
  intro r
  induction r with
  | zero => intro k _; rfl
  | succ r ih =>
    intro k hk
    rw [show gNf a st en (r + 1) k = gNf a st en r (k + 1) from if_neg (h k (by omega))]
    exact ih (k + 1) (by omega)
theorem zLen_sr : ∀ j : Nat, j < 11 → iSr ((zLen.getD j 0 : Nat) : Int) 0 = ((zLen.getD j 0 : Nat) : Int) := by decide +kernel
theorem sJ0_length {S : zSh} {h : zMm} {K : Int → zMm → Prop} {j : Nat} (hj : j < 11) (w : K ((zLen.getD j 0 : Nat) : Int) h) : zCi mJ0_length_8abf5 [.ref (1000 + j)] S h K := by
  refine wJ0_length_8abf5 hj (wJ0_coder_7d493 hj ?_)
  rw [zLen_sr j hj]
  exact w
theorem sJ0_charAt {S : zSh} {h : zMm} {K : Int → zMm → Prop} {j : Nat} {v : Int} (hj : j < 11) (hv : 0 ≤ v ∧ v < ((zLen.getD j 0 : Nat) : Int)) (w : K (((zByt.getD j []).getD v.toNat 0).toInt % 256) h) : zCi mJ0_charAt_5068e [.ref (1000 + j), .int (zI v)] S h K := by
  have hl := zLen_s hj
  refine wJ0_charAt_5068e hj (wJ0_isLatin1_aae02 hj ⟨rfl, wJ1_charAt_3b067 hj ?_⟩)
  have k : (0 ≤ v ∧ v < ((zLen.getD j 0 : Nat) : Int)) ∧ (∀ x3 : Int, zR x3 → (zByt.getD j []).getD (v).toNat 0 = zI x3 → ((0 ≤ (x3 % 256) ∧ (x3 % 256) < 65536) ∧ ((0 ≤ (x3 % 256) ∧ (x3 % 256) < 65536) ∧ ((0 ≤ (x3 % 256) ∧ (x3 % 256) < 65536) ∧ K (x3 % 256) h)))) := by
    refine ⟨hv, fun x3 r3 e3 => ⟨⟨by omega, by omega⟩, ⟨by omega, by omega⟩, ⟨by omega, by omega⟩, ?_⟩⟩
    rw [e3, zI_to r3] at w
    exact w
  exact wJ0_checkIndex_df160 ⟨wJ3_checkIndex_8e157 ⟨⟨by omega, by omega⟩, fun c => absurd c (by omega), fun _ => ⟨⟨by omega, by omega⟩, fun _ => k, fun c => absurd hv.2 c⟩⟩, wJ3_checkIndex_8e157r ⟨⟨by omega, by omega⟩, fun c => absurd c (by omega), fun _ => ⟨⟨by omega, by omega⟩, fun _ => k, fun c => absurd hv.2 c⟩⟩⟩
theorem sX8_letterOf {a h : zMm} {K : Int → zMm → Prop} {v : Int} (T : gTa a) (C : cT a h) {st en : Int} (h3 : h 1 3 = st) (h4 : h 1 4 = en) (b0 : 0 ≤ st ∧ en ≤ a 7 1) (hv : 0 ≤ v ∧ v < en - st) (w : K (gB a (st + v)) h) : zCi mX8_letterOf [.ref 1, .int (zI v)] zS0 h K := by
  have hn := T.1
  have q := C.2 (st + v) (by omega) (by omega)
  refine wX8_letterOf ?_
  rw [h3, h4]
  refine ⟨⟨by omega, by omega⟩, ⟨by omega, by omega⟩, ⟨by omega, by omega⟩, fun c => absurd c (by omega), fun _ => ⟨fun c => absurd c (by omega), fun _ => ⟨fun c => absurd c (by omega), fun _ => ⟨⟨by omega, by omega⟩, ⟨by omega, by omega⟩, ⟨by omega, by omega⟩, ?_⟩⟩⟩⟩
  rw [q.1]
  rw [gB_in (by omega) (by omega)] at w
  exact w
theorem sX8_spells {a h : zMm} {K : Bool → zMm → Prop} {j : Nat} (T : gTa a) (C : cT a h) {st en : Int} (h3 : h 1 3 = st) (h4 : h 1 4 = en) (b0 : 0 ≤ st ∧ st ≤ en ∧ en ≤ a 7 1) (hj : j < 10) (w1 : yW a st en (gJm j) → K true h) (w0 : ¬ yW a st en (gJm j) → K false h) : zCb mX8_spells [.ref 1, .ref (1000 + j)] zS0 h K := by
  have hn := T.1
  obtain ⟨o1, o2, o3, o4, o5⟩ := gJm_ok j hj
  have lp : ∀ (q k : Nat), k + q = zLen.getD j 0 → en - st = ((zLen.getD j 0 : Nat) : Int) → (∀ i : Nat, i < k → gB a (st + (i : Int)) = (gWl.getD (gJm j) []).getD i 0) → RR mX8_spells 0 0 20 [some (.ref 1), some (.ref (1000 + j)), some (.int (zI (k : Int)))] [] zS0 h (zQb zS0 K) := by
    intro q
    induction q with
    | zero =>
      intro k hk hl hm
      exact bX8_spells_20 (by omega) (sJ0_length (by omega) ⟨⟨by omega, by omega⟩, ⟨by omega, by omega⟩, fun _ => w1 ⟨by omega, fun i hi => hm i (by omega)⟩, fun c => absurd (show ((zLen.getD j 0 : Nat) : Int) ≤ k by omega) c⟩)
    | succ q iq =>
      intro k hk hl hm
      have ok := o5 k (by omega)
      refine bX8_spells_20 (by omega) (sJ0_length (by omega) ⟨⟨by omega, by omega⟩, ⟨by omega, by omega⟩, fun c => absurd c (by omega), fun _ => ?_⟩)
      refine sJ0_charAt (by omega) ⟨by omega, by omega⟩ (sX8_letterOf T C h3 h4 ⟨b0.1, b0.2.2⟩ ⟨by omega, by omega⟩ ?_)
      have hb := gBt_R T (st + (k : Int))
      rw [show ((k : Int)).toNat = k by omega, ok.1, show (gWl.getD (gJm j) []).getD k 0 % 256 = (gWl.getD (gJm j) []).getD k 0 by omega]
      refine ⟨⟨by omega, by omega⟩, ⟨by omega, by omega⟩, fun c => ?_, fun c => w0 (fun z => c (z.2 k (by omega)).symm)⟩
      rw [show (k : Int) + 1 = ((k + 1 : Nat) : Int) by omega]
      refine iq (k + 1) (by omega) hl (fun i hi => ?_)
      by_cases hi2 : i = k
      · rw [hi2]; exact c.symm
      · exact hm i (by omega)
  refine wX8_spells (by omega) (sJ0_length (by omega) ?_)
  rw [h3, h4]
  refine ⟨⟨by omega, by omega⟩, ⟨by omega, by omega⟩, fun c => lp _ 0 (Nat.zero_add _) c (fun i hi => absurd hi (by omega)), fun c => w0 (fun z => c (by have := z.1; omega))⟩
theorem sX9_nameOf {S : zSh} {h : zMm} {K : Nat → zMm → Prop} {k : Nat} (hk : k < 10) (w : K (1000 + k) h) : zCr mX9_nameOf [.int (zI (k : Int))] S h K := by
  have g : ∀ j : Nat, k = j → K (1000 + j) h := fun j e => by rw [← e]; exact w
  exact wX9_nameOf ⟨⟨by omega, by omega⟩, fun c => g 0 (by omega), fun c => g 1 (by omega), fun c => g 2 (by omega), fun c => g 3 (by omega), fun c => g 4 (by omega), fun c => g 5 (by omega), fun c => g 6 (by omega), fun c => g 7 (by omega), fun c => g 8 (by omega), fun c => g 9 (by omega)⟩
theorem sX9_kindOfLine {a h : zMm} {K : Int → zMm → Prop} (T : gTa a) (C : cT a h) {s : Int} (s0 : 0 ≤ s ∧ s ≤ a 7 1) (h3 : h 1 3 = gSb a s) (h4 : h 1 4 = gEn a s) (w : K (gKn (gNm a s)) h) : zCi mX9_kindOfLine [.ref 3, .ref 1] zS0 h K := by
  obtain ⟨e1, e2, -, -⟩ := gEn_in T s0.1 s0.2
  have e3 := gSb_in s0.2
  have lp : ∀ (r k : Nat), k + r = 10 → (∀ j : Nat, j < k → ¬ yW a (gSb a s) (gEn a s) (gJm j)) → RR mX9_kindOfLine 0 0 2 [none, some (.ref 1), some (.int (zI (k : Int)))] [] zS0 h (zQi zS0 K) := by
    intro r
    induction r with
    | zero =>
      intro k hk hno
      refine bX9_kindOfLine_2 ⟨⟨by omega, by omega⟩, fun _ => ?_, fun c => absurd (show (10 : Int) ≤ k by omega) c⟩
      have e : gNm a s = -4 := gNf_no (fun m hm z => by
        obtain ⟨j, hj, ej⟩ := gJm_on m hm
        exact hno j (by omega) (by rw [ej]; exact z)) 10 0 rfl
      rw [e] at w
      exact w
    | succ r ih =>
      intro k hk hno
      refine bX9_kindOfLine_2 ⟨⟨by omega, by omega⟩, fun c => absurd c (by omega), fun _ => sX9_nameOf (by omega) ⟨k, rfl, by omega, ?_⟩⟩
      refine sX8_spells T C h3 h4 ⟨by omega, e1, e2⟩ (by omega) (fun z => ⟨fun c => absurd c (by decide), fun _ => ?_⟩) (fun z => ⟨fun _ => ?_, fun c => absurd c (by decide)⟩)
      · have e : gNm a s = (gJm k : Nat) := gNf_yes (gJm_ok k (by omega)).1 z 10 0 rfl (by omega)
        rw [e, (gJm_ok k (by omega)).2.2.2.1] at w
        exact w
      · rw [show (k : Int) + 1 = ((k + 1 : Nat) : Int) by omega]
        refine ih (k + 1) (by omega) (fun j hj => ?_)
        by_cases hj2 : j = k
        · rw [hj2]; exact z
        · exact hno j (by omega)
  exact wX9_kindOfLine (lp 10 0 rfl (fun j hj => absurd hj (by omega)))
