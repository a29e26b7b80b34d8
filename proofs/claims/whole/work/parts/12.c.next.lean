/-! TEXT: the model reads a token -/
theorem gK_1i {b : Int} : gK b = 1 ↔ 97 ≤ b ∧ b ≤ 122 := by
  unfold gK
  repeat' split
  all_goals omega
theorem gK_2i {b : Int} : gK b = 2 ↔ 48 ≤ b ∧ b ≤ 57 := by
  unfold gK
  repeat' split
  all_goals omega
theorem gK_3i {b : Int} : gK b = 3 ↔ b = 59 := by
  unfold gK
  repeat' split
  all_goals omega
theorem gK_4i {b : Int} : gK b = 4 ↔ b = 32 := by
  unfold gK
  repeat' split
  all_goals omega
theorem gK_5i {b : Int} : gK b = 5 ↔ b = -4 := by
  unfold gK
  repeat' split
  all_goals omega
theorem gC_4 {a : zMm} {s : Int} (h1 : s ≤ a 7 1) : ¬ gC a s = 4 := by
  obtain ⟨e1, e2, -, e4⟩ := gRn_in (a := a) (k := 4) h1
  by_cases c : gRn a 4 s < a 7 1
  · exact e4 c
  · intro z
    have : gC a s = 5 := gK_out (by show a 7 1 ≤ gRn a 4 s; omega)
    omega
theorem gBt_R {a : zMm} (T : gTa a) (i : Int) : -4 ≤ gB a i ∧ gB a i ≤ 255 := by
  unfold gB
  split
  · rename_i c
    have := T.2 i c.1 c.2
    omega
  · omega
theorem sX12_byteAt {a h : zMm} {v1 : Int} {K : Int → zMm → Prop} (T : gTa a) (M : mT a h) (r1 : 0 ≤ v1 ∧ v1 < 1000) (w : K (gB a v1) h) : zCi mX12_byteAt [.ref 81, .int (zI v1)] zS0 h K := by
  have h0 := T.1
  refine wX12_byteAt ?_
  rw [M.1]
  refine ⟨⟨by omega, by omega⟩, ⟨by omega, by omega⟩, fun c => ?_, fun c => ⟨⟨by omega, by omega⟩, ?_⟩⟩
  · rw [gB_out c] at w; exact w
  · rw [gB_in r1.1 (by omega)] at w
    rw [M.2 v1 r1.1 (by omega)]; exact w
theorem sX12_fails {h : zMm} {v1 : Int} {K : zMm → Prop} (r : zR (h 81 3)) (w0 : h 81 3 = 0 → K (zU (zU h 81 3 v1) 81 4 (h 81 6))) (w1 : ¬ h 81 3 = 0 → K h) : zCv mX12_fails [.ref 81, .int (zI v1)] zS0 h K := wX12_fails ⟨r, w1, w0⟩
def mRd (a h : zMm) (s : Int) (h' : zMm) : Prop := (∀ o, o ≠ 81 → h' o = h o) ∧ (∀ i : Int, ¬ (3 ≤ i ∧ i ≤ 8) → h' 81 i = h 81 i) ∧ h' 81 6 = gSb a s ∧ h' 81 5 = gEn a s ∧ (gTk a s = 0 → h' 81 3 = 1 ∧ h' 81 4 = gSb a s ∧ (h' 81 7 = 2 ∨ h' 81 7 = 3)) ∧ (¬ gTk a s = 0 → h' 81 3 = 0 ∧ h' 81 7 = (if gTk a s = 5 then 0 else gTk a s)) ∧ (gTk a s = 2 → h' 81 8 = gNu a s)
theorem mT_of {a h h' : zMm} (M : mT a h) (f : ∀ o, o ≠ 81 → h' o = h o) (f1 : h' 81 1 = h 81 1) : mT a h' := ⟨f1.trans M.1, by rw [f 82 (by decide)]; exact M.2⟩
theorem zU_81 {h : zMm} {k x i : Int} (hk : ¬ i = k) : zU h 81 k x 81 i = h 81 i := zU_ne (fun z => hk z.2)
def mFx (h g : zMm) : Prop := (∀ o, o ≠ 81 → g o = h o) ∧ (∀ i : Int, ¬ (3 ≤ i ∧ i ≤ 8) → g 81 i = h 81 i)
theorem mFx.up {h g : zMm} (F : mFx h g) {k x : Int} (hk : 3 ≤ k ∧ k ≤ 8) : mFx h (zU g 81 k x) := ⟨fun o ho => (zU_off o ho).trans (F.1 o ho), fun i hi => (zU_81 (by omega)).trans (F.2 i hi)⟩
theorem mFx.mT {a h g : zMm} (F : mFx h g) (M : mT a h) : mT a g := mT_of M F.1 (F.2 1 (by decide))
theorem sX12_84 {a h : zMm} {K : zMm → Prop} (T : gTa a) (M : mT a h) {s : Int} (s0 : 0 ≤ s ∧ s ≤ a 7 1) (c1 : gC a s = 1) (hK : ∀ h', mRd a h s h' → K h') : ∀ (m : Nat) (j : Int) (g : zMm), (a 7 1 - j).toNat < m → 0 ≤ j → j ≤ a 7 1 → mFx h g → g 81 3 = 0 → g 81 6 = gSb a s → g 81 5 = j → gRn a 1 j = gEn a s → RR mX12_next 0 0 84 [some (.ref 81), none] [] zS0 g (zQv zS0 K) := by
  intro m
  have hn := T.1
  induction m with
  | zero => intro j g hm; exact absurd hm (by omega)
  | succ m ih =>
    intro j g hm j0 j1 F g3 g6 g5 e
    have hb := gBt_R T j
    refine bX12_next_84 ?_
    rw [g5]
    refine sX12_byteAt T (F.mT M) ⟨by omega, by omega⟩ ⟨⟨by omega, by omega⟩, sX12_in ⟨by omega, by omega⟩ (by decide) (by decide) ?_⟩
    simp only [decide_eq_true_eq, decide_eq_false_iff_not]
    refine ⟨fun c => ?_, fun c => ?_⟩
    · have ej : j = gEn a s := by rw [← e]; exact (gRn_no (fun z => c (gK_1i.mp z))).symm
      have F' := F.up (k := 7) (x := 1) (by decide)
      have et : gTk a s = 1 := by unfold gTk; rw [if_neg (fun z => by omega)]; exact c1
      refine hK _ ⟨F'.1, F'.2, ?_, ?_, fun z => absurd z (by omega), fun _ => ⟨?_, ?_⟩, fun z => absurd z (by omega)⟩
      · rw [zU_81 (by decide)]; exact g6
      · rw [zU_81 (by decide), g5]; exact ej
      · rw [zU_81 (by decide)]; exact g3
      · rw [zU_eq, et]; rfl
    · have hk : gK (gB a j) = 1 := gK_1i.mpr c
      have hj : j < a 7 1 := by
        refine Int.not_le.mp (fun z => ?_)
        have := gK_out z
        omega
      rw [g5]
      refine ih (j + 1) _ (by omega) (by omega) (by omega) (F.up (by decide)) ?_ ?_ (zU_eq _ _ _ _) (by rw [← e]; exact (gRn_go hj hk).symm)
      · rw [zU_81 (by decide)]; exact g3
      · rw [zU_81 (by decide)]; exact g6
theorem sX12_140 {a h : zMm} {K : zMm → Prop} (T : gTa a) (M : mT a h) {s : Int} (s0 : 0 ≤ s ∧ s ≤ a 7 1) (c1 : gC a s = 2) (hK : ∀ h', mRd a h s h' → K h') : ∀ (m : Nat) (j : Int) (g : zMm), (a 7 1 - j).toNat < m → gSb a s ≤ j → j ≤ a 7 1 → mFx h g → g 81 3 = 0 → g 81 6 = gSb a s → g 81 5 = j → g 81 8 = gNv a (gSb a s) (min 3 (j - gSb a s)).toNat → gRn a 2 j = gEn a s → RR mX12_next 0 0 140 [some (.ref 81), none] [] zS0 g (zQv zS0 K) := by
  intro m
  have hn := T.1
  have hst := gSb_in s0.2
  induction m with
  | zero => intro j g hm; exact absurd hm (by omega)
  | succ m ih =>
    intro j g hm j0 j1 F g3 g6 g5 g8 e
    have hb := gBt_R T j
    refine bX12_next_140 ?_
    rw [g5]
    refine sX12_byteAt T (F.mT M) ⟨by omega, by omega⟩ ⟨⟨by omega, by omega⟩, sX12_in ⟨by omega, by omega⟩ (by decide) (by decide) ?_⟩
    simp only [decide_eq_true_eq, decide_eq_false_iff_not]
    rw [g5, g6]
    refine ⟨⟨by omega, by omega⟩, fun c => ⟨fun c3 => ?_, fun c3 => ?_⟩, fun c => ⟨fun c3 => ?_, fun c3 => ?_⟩⟩
    · have ej : j = gEn a s := by rw [← e]; exact (gRn_no (fun z => c (gK_2i.mp z))).symm
      have F' := F.up (k := 7) (x := 2) (by decide)
      have et : gTk a s = 2 := by unfold gTk; rw [if_neg (fun z => by omega)]; exact c1
      refine hK _ ⟨F'.1, F'.2, ?_, ?_, fun z => absurd z (by omega), fun _ => ⟨?_, ?_⟩, fun _ => ?_⟩
      · rw [zU_81 (by decide)]; exact g6
      · rw [zU_81 (by decide), g5]; exact ej
      · rw [zU_81 (by decide)]; exact g3
      · rw [zU_eq, et]; rfl
      · rw [zU_81 (by decide), g8]
        unfold gNu
        rw [← ej, show min 3 (j - gSb a s) = j - gSb a s by omega]
    · have ej : j = gEn a s := by rw [← e]; exact (gRn_no (fun z => c (gK_2i.mp z))).symm
      have et : gTk a s = 0 := if_pos ⟨c1, by omega⟩
      have e3 : zU g 81 7 2 81 3 = 0 := (zU_81 (by decide)).trans g3
      refine sX12_fails (by rw [e3]; exact ⟨by decide, by decide⟩) (fun _ => ?_) (fun z => absurd e3 z)
      have F' := (((F.up (k := 7) (x := 2) (by decide)).up (k := 3) (x := 1) (by decide)).up (k := 4) (x := zU g 81 7 2 81 6) (by decide))
      refine hK _ ⟨F'.1, F'.2, ?_, ?_, fun _ => ⟨?_, ?_, Or.inl ?_⟩, fun z => absurd et z, fun z => absurd z (by omega)⟩
      · rw [zU_81 (by decide), zU_81 (by decide), zU_81 (by decide)]; exact g6
      · rw [zU_81 (by decide), zU_81 (by decide), zU_81 (by decide), g5]; exact ej
      · rw [zU_81 (by decide), zU_eq]
      · rw [zU_eq, zU_81 (by decide)]; exact g6
      · rw [zU_81 (by decide), zU_81 (by decide), zU_eq]
    · have hk : gK (gB a j) = 2 := gK_2i.mpr c
      have hj : j < a 7 1 := by
        refine Int.not_le.mp (fun z => ?_)
        have := gK_out z
        omega
      refine ih (j + 1) _ (by omega) (by omega) (by omega) ((F.up (by decide)).up (by decide)) ?_ ?_ (zU_eq _ _ _ _) ?_ (by rw [← e]; exact (gRn_go hj hk).symm)
      · rw [zU_81 (by decide), zU_81 (by decide)]; exact g3
      · rw [zU_81 (by decide), zU_81 (by decide)]; exact g6
      · rw [zU_81 (by decide), zU_eq, g8, show min 3 (j + 1 - gSb a s) = min 3 (j - gSb a s) by omega]
    · have hk : gK (gB a j) = 2 := gK_2i.mpr c
      have hj : j < a 7 1 := by
        refine Int.not_le.mp (fun z => ?_)
        have := gK_out z
        omega
      refine sX12_byteAt T (F.mT M) ⟨by omega, by omega⟩ ?_
      rw [g5]
      refine ih (j + 1) _ (by omega) (by omega) (by omega) ((F.up (by decide)).up (by decide)) ?_ ?_ (zU_eq _ _ _ _) ?_ (by rw [← e]; exact (gRn_go hj hk).symm)
      · rw [zU_81 (by decide), zU_81 (by decide)]; exact g3
      · rw [zU_81 (by decide), zU_81 (by decide)]; exact g6
      · rw [zU_81 (by decide), zU_eq, g8, show (min 3 (j + 1 - gSb a s)).toNat = (min 3 (j - gSb a s)).toNat + 1 by omega]
        show _ = gNv a (gSb a s) _ * 10 + gB a (gSb a s + ((min 3 (j - gSb a s)).toNat : Int)) - 48
        rw [show gSb a s + ((min 3 (j - gSb a s)).toNat : Int) = j by omega]
        omega
theorem sX12_next {a h : zMm} {K : zMm → Prop} (T : gTa a) (M : mT a h) {s : Int} (w0 : h 81 3 = 0) (hs : h 81 5 = s) (s0 : 0 ≤ s ∧ s ≤ a 7 1) (hK : ∀ h', mRd a h s h' → K h') : zCv mX12_next [.ref 81] zS0 h K := by
  have hn := T.1
  have hst := gSb_in s0.2
  have lp : ∀ (m : Nat) (i : Int) (g : zMm), (a 7 1 - i).toNat < m → 0 ≤ i → i ≤ a 7 1 → mFx h g → g 81 3 = 0 → g 81 5 = i → gRn a 4 i = gSb a s → RR mX12_next 0 0 8 [some (.ref 81), none] [] zS0 g (zQv zS0 K) := by
    intro m
    induction m with
    | zero => intro i g hm; exact absurd hm (by omega)
    | succ m ih =>
      intro i g hm i0 i1 F g3 g5 e
      have hb := gBt_R T i
      refine bX12_next_8 ?_
      rw [g5]
      refine sX12_byteAt T (F.mT M) ⟨by omega, by omega⟩ ⟨⟨by omega, by omega⟩, fun c => ?_, fun c => ?_⟩
      · have ei : gSb a s = i := by rw [← e]; exact gRn_no (fun z => c (gK_4i.mp z))
        have ec : gC a s = gK (gB a i) := by unfold gC; rw [ei]
        rw [g5]
        have F6 := F.up (k := 6) (x := i) (by decide)
        have F8 := F6.up (k := 8) (x := 0) (by decide)
        have e3 : zU (zU g 81 6 i) 81 8 0 81 3 = 0 := by rw [zU_81 (by decide), zU_81 (by decide)]; exact g3
        have e5 : zU (zU g 81 6 i) 81 8 0 81 5 = i := by rw [zU_81 (by decide), zU_81 (by decide)]; exact g5
        have e6 : zU (zU g 81 6 i) 81 8 0 81 6 = i := by rw [zU_81 (by decide), zU_eq]
        have e8 : zU (zU g 81 6 i) 81 8 0 81 8 = 0 := zU_eq _ _ _ _
        refine sX12_byteAt T (F6.mT M) ⟨by omega, by omega⟩ ⟨⟨by omega, by omega⟩, fun c5 => ?_, fun c5 => ?_⟩
        · refine sX12_in ⟨by omega, by omega⟩ (by decide) (by decide) ?_
          simp only [decide_eq_true_eq, decide_eq_false_iff_not]
          have hk5 : ¬ gK (gB a i) = 5 := fun z => c5 (gK_5i.mp z)
          have hi : i < a 7 1 := Int.not_le.mp (fun z => hk5 (gK_out z))
          refine ⟨fun c1 => sX12_in ⟨by omega, by omega⟩ (by decide) (by decide) ?_, fun c1 => ?_⟩
          · simp only [decide_eq_true_eq, decide_eq_false_iff_not]
            have hk1 : ¬ gC a s = 1 := fun z => c1 (gK_1i.mp (ec.symm.trans z))
            refine ⟨fun c2 => ?_, fun c2 => ?_⟩
            · have hk2 : ¬ gC a s = 2 := fun z => c2 (gK_2i.mp (ec.symm.trans z))
              have een : gEn a s = i + 1 := by
                unfold gEn
                rw [if_neg (by rw [ec]; exact hk5), if_neg (by omega), ei]
              have etk : gTk a s = gC a s := if_neg (fun z => hk2 z.1)
              have F9 := (F8.up (k := 7) (x := 3) (by decide)).up (k := 5) (x := i + 1) (by decide)
              rw [e5]
              refine ⟨fun c3 => ?_, fun c3 => ?_⟩
              · have h3 : gTk a s = 3 := by rw [etk, ec]; exact gK_3i.mpr c3
                refine hK _ ⟨F9.1, F9.2, ?_, ?_, fun z => absurd z (by omega), fun _ => ⟨?_, ?_⟩, fun z => absurd z (by omega)⟩
                · rw [zU_81 (by decide), zU_81 (by decide), e6, ei]
                · rw [zU_eq, een]
                · rw [zU_81 (by decide), zU_81 (by decide), e3]
                · rw [zU_81 (by decide), zU_eq, h3]; rfl
              · have h3 : ¬ gK (gB a i) = 3 := fun z => c3 (gK_3i.mp z)
                have h4 := gC_4 (a := a) s0.2
                have h6 := gK_R (gB a i)
                have h0 : gTk a s = 0 := by rw [etk]; omega
                have x3 : zU (zU (zU (zU g 81 6 i) 81 8 0) 81 7 3) 81 5 (i + 1) 81 3 = 0 := by rw [zU_81 (by decide), zU_81 (by decide), e3]
                have x6 : zU (zU (zU (zU g 81 6 i) 81 8 0) 81 7 3) 81 5 (i + 1) 81 6 = i := by rw [zU_81 (by decide), zU_81 (by decide), e6]
                refine sX12_fails (by rw [x3]; exact ⟨by decide, by decide⟩) (fun _ => ?_) (fun z => absurd x3 z)
                rw [x6]
                have F10 := (F9.up (k := 3) (x := 1) (by decide)).up (k := 4) (x := i) (by decide)
                refine hK _ ⟨F10.1, F10.2, ?_, ?_, fun _ => ⟨?_, ?_, Or.inr ?_⟩, fun z => absurd h0 z, fun z => absurd z (by omega)⟩
                · rw [zU_81 (by decide), zU_81 (by decide), x6, ei]
                · rw [zU_81 (by decide), zU_81 (by decide), zU_eq, een]
                · rw [zU_81 (by decide), zU_eq]
                · rw [zU_eq, ei]
                · rw [zU_81 (by decide), zU_81 (by decide), zU_81 (by decide), zU_eq]
            · have hk2 : gC a s = 2 := by rw [ec]; exact gK_2i.mpr c2
              have een : gEn a s = gRn a 2 i := by
                unfold gEn
                rw [if_neg (by omega), if_pos (Or.inr hk2), hk2, ei]
                exact (gRn_go hi (ec.symm.trans hk2)).symm
              refine sX12_140 T M s0 hk2 hK _ i _ (Nat.lt_succ_self _) (by omega) i1 F8 e3 (e6.trans ei.symm) e5 ?_ een.symm
              rw [e8, ei, show (min 3 (i - i)).toNat = 0 by omega]
              rfl
          · have hk1 : gC a s = 1 := by rw [ec]; exact gK_1i.mpr c1
            have een : gEn a s = gRn a 1 i := by
              unfold gEn
              rw [if_neg (by omega), if_pos (Or.inl hk1), hk1, ei]
              exact (gRn_go hi (ec.symm.trans hk1)).symm
            exact sX12_84 T M s0 hk1 hK _ i _ (Nat.lt_succ_self _) i0 i1 F8 e3 (e6.trans ei.symm) e5 een.symm
        · have h5 : gC a s = 5 := by rw [ec]; exact gK_5i.mpr c5
          have etk : gTk a s = 5 := by unfold gTk; rw [if_neg (by omega)]; exact h5
          have een : gEn a s = i := by unfold gEn; rw [if_pos h5, ei]
          have F9 := F8.up (k := 7) (x := 0) (by decide)
          refine hK _ ⟨F9.1, F9.2, ?_, ?_, fun z => absurd z (by omega), fun _ => ⟨?_, ?_⟩, fun z => absurd z (by omega)⟩
          · rw [zU_81 (by decide), e6, ei]
          · rw [zU_81 (by decide), e5, een]
          · rw [zU_81 (by decide), e3]
          · rw [zU_eq, etk]; rfl
      · have hk : gK (gB a i) = 4 := gK_4i.mpr c
        have hi : i < a 7 1 := by
          refine Int.not_le.mp (fun z => ?_)
          have := gK_out z
          omega
        rw [g5]
        refine ih (i + 1) _ (by omega) (by omega) (by omega) (F.up (by decide)) ?_ (zU_eq _ _ _ _) (by rw [← e]; exact (gRn_go hi hk).symm)
        rw [zU_81 (by decide)]; exact g3
  refine wX12_next ?_
  rw [w0]
  exact ⟨⟨by decide, by decide⟩, fun _ => lp _ s h (Nat.lt_succ_self _) s0.1 s0.2 ⟨fun _ _ => rfl, fun _ _ => rfl⟩ w0 hs rfl, fun c => absurd (show (0 : Int) ≤ 0 by decide) c⟩
theorem sX12_next1 {h : zMm} {K : zMm → Prop} (w0 : 0 < h 81 3 ∧ h 81 3 < 100) (hK : K h) : zCv mX12_next [.ref 81] zS0 h K := wX12_next ⟨⟨by omega, by omega⟩, fun c => absurd c (by omega), fun _ => hK⟩
