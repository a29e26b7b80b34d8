/-! TEXT: names -/
def gWl : List (List Int) := [[115, 111, 99, 107, 101, 116], [116, 117, 114, 110], [99, 108, 105, 109, 98], [98, 97, 103], [101, 109, 112, 116, 121], [99, 111, 114, 100], [100, 101, 119], [104, 105, 103, 104], [114, 111, 119], [115, 117, 110]]
abbrev yWw (a : zMm) (st en : Int) (w : List Int) : Prop := en - st = (w.length : Int) ∧ ∀ i : Nat, i < w.length → gB a (st + (i : Int)) = w.getD i 0
abbrev yW (a : zMm) (st en : Int) (m : Nat) : Prop := yWw a st en (gWl.getD m [])
def gNf (a : zMm) (st en : Int) : Nat → Nat → Int
  | 0, _ => -4
  | r + 1, m => if yW a st en m then (m : Int) else gNf a st en r (m + 1)
/-- the name at a token: 0 to 7 a rule, 8 row, 9 sun, -4 none -/
def gNm (a : zMm) (s : Int) : Int := gNf a (gSb a s) (gEn a s) 10 0
theorem gNf_R (a : zMm) (st en : Int) : ∀ r m : Nat, r + m = 10 → gNf a st en r m = -4 ∨ ((m : Int) ≤ gNf a st en r m ∧ gNf a st en r m < 10) := by
  intro r
  induction r with
  | zero => intro m _; exact Or.inl rfl
  | succ r ih =>
    intro m hm
    by_cases c : yW a st en m
    · rw [show gNf a st en (r + 1) m = (m : Int) from if_pos c]; right; omega
    · rw [show gNf a st en (r + 1) m = gNf a st en r (m + 1) from if_neg c]
      rcases ih (m + 1) (by omega) with q | q
      · exact Or.inl q
      · right; omega
theorem gNm_R (a : zMm) (s : Int) : gNm a s = -4 ∨ (0 ≤ gNm a s ∧ gNm a s < 10) := by
  rcases gNf_R a (gSb a s) (gEn a s) 10 0 rfl with q | q
  · exact Or.inl q
  · exact Or.inr ⟨q.1, q.2⟩
def gCu : List Int := [0, 6, 10, 15, 18, 23, 27, 30, 34, 37, 40]
def gLe : List Int := [115, 111, 99, 107, 101, 116, 116, 117, 114, 110, 99, 108, 105, 109, 98, 98, 97, 103, 101, 109, 112, 116, 121, 99, 111, 114, 100, 100, 101, 119, 104, 105, 103, 104, 114, 111, 119, 115, 117, 110]
theorem gCu_ok : ∀ m : Nat, m < 10 → gCu.getD (m + 1) 0 - gCu.getD m 0 = ((gWl.getD m []).length : Int) ∧ 0 ≤ gCu.getD m 0 ∧ gCu.getD (m + 1) 0 ≤ 40 ∧ ∀ k : Nat, k < (gWl.getD m []).length → gLe.getD (gCu.getD m 0 + (k : Int)).toNat 0 = (gWl.getD m []).getD k 0 := by decide
theorem gLe_R : ∀ k : Nat, k < 40 → 0 ≤ gLe.getD k 0 ∧ gLe.getD k 0 ≤ 255 := by decide
theorem sX12_nameHere {a h : zMm} {K : Int → zMm → Prop} (T : gTa a) (M : mT a h) (hC : mC h) {s : Int} (s0 : 0 ≤ s ∧ s ≤ a 7 1) (h5 : h 81 5 = gEn a s) (h6 : h 81 6 = gSb a s) (h7 : h 81 7 = 1) (hK : K (gNm a s) h) : zCi mX12_nameHere [.ref 81] zS0 h K := by
  have hn := T.1
  obtain ⟨e1, e2, -, -⟩ := gEn_in T s0.1 s0.2
  have e3 := gSb_in s0.2
  have cu : ∀ m : Nat, m < 11 → h 83 (m : Int) = gCu.getD m 0 := fun m hm => hC.1 m (by omega) (by omega)
  have le : ∀ i : Int, 0 ≤ i → i < 40 → h 84 i = gLe.getD i.toNat 0 := fun i i0 i1 => hC.2.1 i i0 i1
  have lp : ∀ r m : Nat, r + m = 10 → K (gNf a (gSb a s) (gEn a s) r m) h → RR mX12_nameHere 0 0 2 [some (.ref 81), some (.int (zI (m : Int))), none, none] [] zS0 h (zQi zS0 K) := by
    intro r
    induction r with
    | zero =>
      intro m hm w
      exact bX12_nameHere_2 ⟨⟨by omega, by omega⟩, fun _ => w, fun c => absurd (show (10 : Int) ≤ m by omega) c⟩
    | succ r ih =>
      intro m hm w
      have c1 := cu m (by omega)
      have c2 := cu (m + 1) (by omega)
      have hcast : ((m : Int) + 1) = ((m + 1 : Nat) : Int) := by omega
      obtain ⟨o1, o2, o3, o4⟩ := gCu_ok m (by omega)
      have nx : ¬ yW a (gSb a s) (gEn a s) m → RR mX12_nameHere 0 0 2 [some (.ref 81), some (.int (zI ((m : Int) + 1))), none, none] [] zS0 h (zQi zS0 K) := by
        intro c
        rw [show gNf a (gSb a s) (gEn a s) (r + 1) m = gNf a (gSb a s) (gEn a s) r (m + 1) from if_neg c] at w
        rw [hcast]
        exact ih (m + 1) (by omega) w
      have yes : yW a (gSb a s) (gEn a s) m → K (m : Int) h := by
        intro c
        rw [show gNf a (gSb a s) (gEn a s) (r + 1) m = (m : Int) from if_pos c] at w
        exact w
      have l51 : ∀ (q k : Nat) (b : Bool), (gWl.getD m []).length = k + q → (b = true → gEn a s - gSb a s = ((gWl.getD m []).length : Int) ∧ ∀ i : Nat, i < k → gB a (gSb a s + (i : Int)) = (gWl.getD m []).getD i 0) → (b = false → ¬ yW a (gSb a s) (gEn a s) m) → RR mX12_nameHere 0 0 51 [some (.ref 81), some (.int (zI (m : Int))), some (.int (zI (bI b))), some (.int (zI (k : Int)))] [] zS0 h (zQi zS0 K) := by
        intro q
        induction q with
        | zero =>
          intro k b hq hb1 hb0
          refine bX12_nameHere_51 ?_
          rw [h5, h6]
          have hL : k ≤ 40 := by omega
          cases b with
          | false =>
            refine ⟨by decide, ⟨by omega, by omega⟩, ⟨by omega, by omega⟩, fun _ => ⟨fun _ => nx (hb0 rfl), fun c => absurd rfl c⟩, fun c => absurd rfl c⟩
          | true =>
            obtain ⟨b1, b2⟩ := hb1 rfl
            refine ⟨by decide, ⟨by omega, by omega⟩, ⟨by omega, by omega⟩, fun c => absurd c (by decide), fun _ => ⟨fun _ => ⟨fun c => absurd c (by decide), fun _ => yes ⟨b1, fun i hi => b2 i (by omega)⟩⟩, fun c => absurd (show gEn a s - gSb a s ≤ (k : Int) by omega) c⟩⟩
        | succ q iq =>
          intro k b hq hb1 hb0
          refine bX12_nameHere_51 ?_
          rw [h5, h6]
          have hL : k ≤ 40 := by omega
          cases b with
          | false =>
            refine ⟨by decide, ⟨by omega, by omega⟩, ⟨by omega, by omega⟩, fun _ => ⟨fun _ => nx (hb0 rfl), fun c => absurd rfl c⟩, fun c => absurd rfl c⟩
          | true =>
            obtain ⟨b1, b2⟩ := hb1 rfl
            refine ⟨by decide, ⟨by omega, by omega⟩, ⟨by omega, by omega⟩, fun c => absurd c (by decide), fun _ => ⟨fun c => absurd c (by omega), fun _ => sX12_byteAt T M ⟨by omega, by omega⟩ ?_⟩⟩
            rw [c1]
            have hb := gBt_R T (gSb a s + (k : Int))
            have hl := le (gCu.getD m 0 + (k : Int)) (by omega) (by omega)
            have hl2 := gLe_R (gCu.getD m 0 + (k : Int)).toNat (by omega)
            have hl3 := o4 k (by omega)
            rw [hl]
            refine ⟨⟨by omega, by omega⟩, ⟨by omega, by omega⟩, ⟨by omega, by omega⟩, ⟨by omega, by omega⟩, ?_⟩
            rw [hl3, show (k : Int) + 1 = ((k + 1 : Nat) : Int) by omega]
            by_cases c : gB a (gSb a s + (k : Int)) = (gWl.getD m []).getD k 0
            · rw [if_pos c]
              refine iq (k + 1) true (by omega) (fun _ => ⟨b1, fun i hi => ?_⟩) (fun z => absurd z (by decide))
              by_cases hi2 : i = k
              · rw [hi2]; exact c
              · exact b2 i (by omega)
            · rw [if_neg c]
              exact iq (k + 1) false (by omega) (fun z => absurd z (by decide)) (fun _ z => c (z.2 k (by omega)))
      refine bX12_nameHere_2 ?_
      rw [h5, h6, h7, hcast, c1, c2, ← hcast]
      refine ⟨⟨by omega, by omega⟩, fun c => absurd c (by omega), fun _ => ⟨by decide, fun c => absurd rfl c, fun _ => ⟨⟨by omega, by omega⟩, ⟨by omega, by omega⟩, ⟨by omega, by omega⟩, ⟨by omega, by omega⟩, ?_⟩⟩⟩
      rw [o1]
      by_cases c : gEn a s - gSb a s = ((gWl.getD m []).length : Int)
      · rw [if_pos c]
        exact l51 (gWl.getD m []).length 0 true (by omega) (fun _ => ⟨c, fun i hi => absurd hi (by omega)⟩) (fun z => absurd z (by decide))
      · rw [if_neg c]
        exact l51 (gWl.getD m []).length 0 false (by omega) (fun z => absurd z (by decide)) (fun _ z => c z.1)
  exact wX12_nameHere (lp 10 0 rfl hK)
