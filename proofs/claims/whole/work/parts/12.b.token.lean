/-! TEXT: the class reads a token -/
theorem sX8_takeFigures {a h : zMm} {K : zMm → Prop} (T : gTa a) (C : cT a h) {st en : Int} (h2 : h 1 2 = 2) (h3 : h 1 3 = st) (h4 : h 1 4 = en) (b0 : 0 ≤ st ∧ st ≤ en ∧ en ≤ a 7 1) (hd : ∀ j : Int, st ≤ j → j < en → gK (gB a j) = 2)
    (hK : ∀ h', (∀ o, o ≠ 1 → h' o = h o) → h' 1 1 = a 7 1 → h' 1 3 = st → h' 1 4 = en → (en - st ≤ 3 → h' 1 2 = 2 ∧ h' 1 5 = gNv a st (en - st).toNat) → (¬ en - st ≤ 3 → h' 1 2 = 0) → K h') : zCv mX8_takeFigures [.ref 1] zS0 h K := by
  have hn := T.1
  have h1 : h 1 1 = a 7 1 := C.1
  refine wX8_takeFigures ?_
  rw [h3, h4]
  refine ⟨⟨by omega, by omega⟩, fun c => ?_, fun c => ?_⟩
  · have lp : ∀ (n k : Nat), k + n = (en - st).toNat → ∀ g : zMm, (∀ o, o ≠ 1 → g o = h o) → g 1 1 = a 7 1 → g 1 2 = 2 → g 1 3 = st → g 1 4 = en → g 1 5 = gNv a st k → RR mX8_takeFigures 0 0 29 [some (.ref 1), some (.int (zI (st + k)))] [] zS0 g (zQv zS0 K) := by
      intro n
      induction n with
      | zero =>
        intro k hk g f1 g1 g2 g3 g4 g5
        refine bX8_takeFigures_29 ?_
        rw [g4]
        refine ⟨⟨by omega, by omega⟩, ⟨by omega, by omega⟩, fun _ => ?_, fun c2 => absurd (show en ≤ st + k by omega) c2⟩
        exact hK g f1 g1 g3 g4 (fun _ => ⟨g2, by rw [g5, show (en - st).toNat = k by omega]⟩) (fun q => absurd c q)
      | succ n ih =>
        intro k hk g f1 g1 g2 g3 g4 g5
        refine bX8_takeFigures_29 ?_
        rw [g4]
        refine ⟨⟨by omega, by omega⟩, ⟨by omega, by omega⟩, fun c2 => absurd c2 (by omega), fun _ => ⟨fun c2 => absurd c2 (by omega), fun _ => ⟨⟨by omega, by omega⟩, ?_⟩⟩⟩
        have hb : g 2 (st + k) = gB a (st + k) := by
          have q1 := C.2 (st + k) (by omega) (by omega)
          have q2 := gK_2 (hd (st + k) (by omega) (by omega))
          rw [f1 2 (by decide)]
          rw [gB_in (by omega) (by omega)] at q2 ⊢
          omega
        rw [show st + (k : Int) + 1 = st + ((k + 1 : Nat) : Int) by omega]
        refine ih (k + 1) (by omega) _ (fun o ho => (zU_off o ho).trans (f1 o ho)) ?_ ?_ ?_ ?_ ?_
        · rw [zU_ne (by omega)]; exact g1
        · rw [zU_ne (by omega)]; exact g2
        · rw [zU_ne (by omega)]; exact g3
        · rw [zU_ne (by omega)]; exact g4
        · rw [zU_eq, g5, hb]
          rfl
    have h0 := lp (en - st).toNat 0 (by omega) (zU h 1 5 0) (fun o ho => zU_off o ho) (by rw [zU_ne (by omega)]; exact h1) (by rw [zU_ne (by omega)]; exact h2) (by rw [zU_ne (by omega)]; exact h3) (by rw [zU_ne (by omega)]; exact h4) (zU_eq _ _ _ _)
    rw [show st + ((0 : Nat) : Int) = st by omega] at h0
    exact h0
  · refine hK _ (fun o ho => (zU_off o ho).trans (zU_off o ho)) ?_ ?_ ?_ (fun q => absurd q c) (fun _ => zU_eq _ _ _ _)
    · rw [zU_ne (by omega), zU_ne (by omega)]; exact h1
    · rw [zU_ne (by omega), zU_ne (by omega)]; exact h3
    · rw [zU_ne (by omega), zU_ne (by omega)]; exact h4
/-- what reading a token leaves -/
def gRd (a h : zMm) (s : Int) (h' : zMm) : Prop := (∀ o, o ≠ 1 → h' o = h o) ∧ h' 1 1 = a 7 1 ∧ h' 1 2 = gTk a s ∧ h' 1 3 = gSb a s ∧ h' 1 4 = gEn a s ∧ (gTk a s = 2 → h' 1 5 = gNu a s)
theorem cT_of {a h h' : zMm} (C : cT a h) (f : ∀ o, o ≠ 1 → h' o = h o) (h1 : h' 1 1 = a 7 1) : cT a h' := ⟨h1, by rw [f 2 (by decide)]; exact C.2⟩
theorem sX8_fin {a h : zMm} {K : zMm → Prop} (T : gTa a) (C : cT a h) {s : Int} (s0 : 0 ≤ s ∧ s ≤ a 7 1) (h2 : h 1 2 = gC a s) (h3 : h 1 3 = gSb a s) (h4 : h 1 4 = gEn a s) (hK : ∀ h', gRd a h s h' → K h') : zR (h 1 2) ∧ ((¬ h 1 2 = 2 → K h) ∧ (h 1 2 = 2 → zCv mX8_takeFigures [.ref 1] zS0 h (fun g => K g))) := by
  obtain ⟨e1, e2, e3, e4⟩ := gEn_in T s0.1 s0.2
  have e5 := gSb_in s0.2
  have e6 := gK_R (gB a (gSb a s))
  have e7 : gC a s = gK (gB a (gSb a s)) := rfl
  rw [h2]
  refine ⟨⟨by omega, by omega⟩, fun c => ?_, fun c => ?_⟩
  · have e : gTk a s = gC a s := if_neg (fun z => c z.1)
    exact hK h ⟨fun _ _ => rfl, C.1, by rw [h2, e], h3, h4, fun z => absurd (e.symm.trans z) c⟩
  · refine sX8_takeFigures T C (h2.trans c) h3 h4 ⟨by omega, e1, e2⟩ (fun j j0 j1 => (e4 (Or.inr c) j j0 j1).trans c) (fun h' f g1 g3 g4 q1 q2 => hK h' ⟨f, g1, ?_, g3, g4, fun z => ?_⟩)
    · by_cases q : gEn a s - gSb a s ≤ 3
      · rw [(q1 q).1]
        have : gTk a s = gC a s := if_neg (fun z => by omega)
        rw [this, c]
      · rw [q2 q]
        exact (if_pos ⟨c, by omega⟩).symm
    · refine (q1 ?_).2
      refine Int.not_lt.mp (fun q => ?_)
      have : gTk a s = 0 := if_pos ⟨c, q⟩
      omega
theorem sX8_106 {a h : zMm} {K : zMm → Prop} (T : gTa a) {s : Int} (s0 : 0 ≤ s ∧ s ≤ a 7 1) (hK : ∀ h', gRd a h s h' → K h') : ∀ (m : Nat) (j : Int) (g : zMm), (a 7 1 - j).toNat = m → 0 ≤ j → j ≤ a 7 1 → cT a g → (∀ o, o ≠ 1 → g o = h o) → g 1 2 = gC a s → g 1 3 = gSb a s → g 1 4 = j → ((gC a s = 1 ∨ gC a s = 2) → gRn a (gC a s) j = gEn a s) → (¬ (gC a s = 1 ∨ gC a s = 2) → j = gEn a s) → RR mX8_readToken 0 0 106 [some (.ref 1), some (.int (zI (bI (if gC a s = 1 then true else (if gC a s = 2 then true else false)))))] [] zS0 g (zQv zS0 K) := by
  intro m
  induction m with
  | zero =>
    intro j g hm j0 j1 C f g2 g3 g4 q1 q2
    have fin : j = gEn a s → _ := fun e => sX8_fin (K := K) T C s0 g2 g3 (g4.trans e) (fun h' z => hK h' ⟨fun o ho => (z.1 o ho).trans (f o ho), z.2⟩)
    have ej : j = gEn a s := by
      by_cases c : gC a s = 1 ∨ gC a s = 2
      · rw [← q1 c]; exact (gRn_end (by omega)).symm
      · exact q2 c
    have g1 : g 1 1 = a 7 1 := C.1
    refine bX8_readToken_106 ?_
    rw [g4, g1]
    refine ⟨bI_R _, ⟨by have := T.1; omega, by have := T.1; omega⟩, ⟨by have := T.1; omega, by have := T.1; omega⟩, fun _ => fin ej, fun _ => ⟨fun _ => fin ej, fun c => absurd (show a 7 1 ≤ j by omega) c⟩⟩
  | succ m ih =>
    intro j g hm j0 j1 C f g2 g3 g4 q1 q2
    have fin : j = gEn a s → _ := fun e => sX8_fin (K := K) T C s0 g2 g3 (g4.trans e) (fun h' z => hK h' ⟨fun o ho => (z.1 o ho).trans (f o ho), z.2⟩)
    have g1 : g 1 1 = a 7 1 := C.1
    have hn := T.1
    refine bX8_readToken_106 ?_
    rw [g4, g1]
    refine ⟨bI_R _, ⟨by omega, by omega⟩, ⟨by omega, by omega⟩, fun c => fin (q2 ?_), fun c => ⟨fun c2 => absurd c2 (by omega), fun _ => sX8_tokenAt T C ⟨by omega, by omega⟩ ?_⟩⟩
    · intro z
      refine absurd (bI_0.mp c) ?_
      rcases z with z | z
      · rw [if_pos z]; decide
      · rw [z]; decide
    · have hc : gC a s = 1 ∨ gC a s = 2 := by
        refine Classical.byContradiction (fun z => c ?_)
        rw [if_neg (fun y => z (Or.inl y)), if_neg (fun y => z (Or.inr y))]
        rfl
      have e6 := gK_R (gB a j)
      have e7 := gK_R (gB a (gSb a s))
      have e8 : gC a s = gK (gB a (gSb a s)) := rfl
      rw [g2, g4]
      refine ⟨⟨by omega, by omega⟩, ⟨by omega, by omega⟩, fun c2 => ?_, fun c2 => ?_⟩
      · have z := fin (by rw [← q1 hc]; exact (gRn_no c2).symm)
        rw [g2] at z
        exact z.2
      · refine ih (j + 1) _ (by omega) (by omega) (by omega) ⟨?_, ?_⟩ (fun o ho => (zU_off o ho).trans (f o ho)) ?_ ?_ (zU_eq _ _ _ _) (fun _ => ?_) (fun z => absurd hc z)
        · rw [zU_ne (by omega)]; exact g1
        · rw [zU_off 2 (by decide)]; exact C.2
        · rw [zU_ne (by omega)]; exact g2
        · rw [zU_ne (by omega)]; exact g3
        · rw [← q1 hc]; exact (gRn_go (by omega) c2).symm
theorem sX8_readToken {a h : zMm} {K : zMm → Prop} (T : gTa a) (C : cT a h) {s : Int} (hs : h 1 4 = s) (s0 : 0 ≤ s ∧ s ≤ a 7 1) (hK : ∀ h', gRd a h s h' → K h') : zCv mX8_readToken [.ref 1] zS0 h K := by
  have hn := T.1
  have key : ∀ (i : Int) (g : zMm), 0 ≤ i → i ≤ a 7 1 → cT a g → (∀ o, o ≠ 1 → g o = h o) → g 1 3 = i → gSb a s = i → ∀ x : Int, x = gK (gB a i) → (zR (g 1 3) ∧ (zR (g 1 1) ∧ (zR x ∧ RR mX8_readToken 0 0 106 [some (.ref 1), some (.int (zI (bI (if x = 1 then true else (if x = 2 then true else false)))))] [] zS0 (zU (zU g 1 2 x) 1 4 (if (g 1 1) ≤ (g 1 3) then (g 1 3) else ((g 1 3) + 1))) (zQv zS0 K)))) := by
    intro i g i0 i1 C f g3 e x hx
    have g1 : g 1 1 = a 7 1 := C.1
    have ec : gC a s = gK (gB a i) := by unfold gC; rw [e]
    have e6 := gK_R (gB a i)
    rw [g3, g1, hx, ← ec]
    refine ⟨⟨by omega, by omega⟩, ⟨by omega, by omega⟩, ⟨by omega, by omega⟩, ?_⟩
    have hj : (if a 7 1 ≤ i then i else i + 1) = (if gC a s = 5 then i else i + 1) := by
      by_cases c : a 7 1 ≤ i
      · rw [if_pos c, if_pos (by rw [ec]; exact gK_out c)]
      · rw [if_neg c, if_neg (by rw [ec]; exact gK_5 T i0 (by omega))]
    have hj2 : 0 ≤ (if gC a s = 5 then i else i + 1) ∧ (if gC a s = 5 then i else i + 1) ≤ a 7 1 := by
      rw [← hj]
      split <;> omega
    rw [hj]
    refine sX8_106 T s0 (h := h) hK _ (if gC a s = 5 then i else i + 1) _ rfl hj2.1 hj2.2 ⟨?_, ?_⟩ (fun o ho => ((zU_off o ho).trans (zU_off o ho)).trans (f o ho)) ?_ ?_ (zU_eq _ _ _ _) (fun c => ?_) (fun c => ?_)
    · rw [zU_ne (by omega), zU_ne (by omega)]; exact g1
    · rw [zU_off 2 (by decide), zU_off 2 (by decide)]; exact C.2
    · rw [zU_ne (by omega), zU_eq]
    · rw [zU_ne (by omega), zU_ne (by omega)]; rw [e]; exact g3
    · have c5 : ¬ gC a s = 5 := by omega
      unfold gEn
      rw [if_neg c5, if_neg c5, if_pos c, e]
    · unfold gEn
      by_cases c5 : gC a s = 5
      · rw [if_pos c5, if_pos c5, e]
      · rw [if_neg c5, if_neg c5, if_neg c, e]
  have lp : ∀ (m : Nat) (i : Int) (g : zMm), (a 7 1 - i).toNat = m → 0 ≤ i → i ≤ a 7 1 → cT a g → (∀ o, o ≠ 1 → g o = h o) → g 1 3 = i → gRn a 4 i = gSb a s → RR mX8_readToken 0 0 8 [some (.ref 1), none] [] zS0 g (zQv zS0 K) := by
    intro m
    induction m with
    | zero =>
      intro i g hm i0 i1 C f g3 e
      have g1 : g 1 1 = a 7 1 := C.1
      refine bX8_readToken_8 ?_
      rw [g3, g1]
      refine ⟨⟨by omega, by omega⟩, ⟨by omega, by omega⟩, fun _ => sX8_tokenAt T C ⟨by omega, by omega⟩ (key i g i0 i1 C f g3 (by rw [← e]; exact gRn_end (by omega)) _ rfl), fun c => absurd (show a 7 1 ≤ i by omega) c⟩
    | succ m ih =>
      intro i g hm i0 i1 C f g3 e
      have g1 : g 1 1 = a 7 1 := C.1
      have e6 := gK_R (gB a i)
      refine bX8_readToken_8 ?_
      rw [g3, g1]
      refine ⟨⟨by omega, by omega⟩, ⟨by omega, by omega⟩, fun c => absurd c (by omega), fun _ => sX8_tokenAt T C ⟨by omega, by omega⟩ ⟨⟨by omega, by omega⟩, fun c => ?_, fun c => ?_⟩⟩
      · rw [g3]
        exact sX8_tokenAt T C ⟨by omega, by omega⟩ (key i g i0 i1 C f g3 (by rw [← e]; exact gRn_no c) _ rfl)
      · rw [g3]
        refine ih (i + 1) _ (by omega) (by omega) (by omega) ⟨?_, ?_⟩ (fun o ho => (zU_off o ho).trans (f o ho)) (zU_eq _ _ _ _) (by rw [← e]; exact (gRn_go (by omega) c).symm)
        · rw [zU_ne (by omega)]; exact g1
        · rw [zU_off 2 (by decide)]; exact C.2
  refine wX8_readToken ?_
  rw [hs]
  refine lp _ s _ rfl s0.1 s0.2 ⟨?_, ?_⟩ (fun o ho => zU_off o ho) (zU_eq _ _ _ _) rfl
  · rw [zU_ne (by omega)]; exact C.1
  · rw [zU_off 2 (by decide)]; exact C.2
