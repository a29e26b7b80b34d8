/-! THE WALK, the class's -/
def gAG (h w : zMm) : Prop := (∀ f : Int, 2 ≤ f → f ≤ 15 → h 22 f = w 22 f) ∧ ∀ i : Int, 0 ≤ i → i < 36 → h 23 i = w 23 i ∧ h 24 i = w 24 i
def gFr (h h' : zMm) : Prop := ∀ o : Nat, o ≠ 22 → o ≠ 23 → o ≠ 24 → h' o = h o
theorem gFr.rf (h : zMm) : gFr h h := fun _ _ _ _ => rfl
theorem gFr.trans {h h1 h2 : zMm} (a : gFr h h1) (b : gFr h1 h2) : gFr h h2 := fun o c1 c2 c3 => (b o c1 c2 c3).trans (a o c1 c2 c3)
theorem gFr.up {h h1 : zMm} {o : Nat} {k x : Int} (a : gFr h h1) (ho : o = 22 ∨ o = 23 ∨ o = 24) : gFr h (zU h1 o k x) := fun q c1 c2 c3 => (zU_off q (by omega)).trans (a q c1 c2 c3)
theorem gAG.f {h w : zMm} (hA : gAG h w) (k x : Int) : gAG (zU h 22 k x) (zU w 22 k x) := by
  refine ⟨fun f h1 h2 => ?_, fun i h1 h2 => ?_⟩
  · simp only [zU_at]
    split
    · rfl
    · exact hA.1 f h1 h2
  · simp only [zU_at]
    rw [if_neg (by omega), if_neg (by omega), if_neg (by omega), if_neg (by omega)]
    exact hA.2 i h1 h2
theorem gAG.g {h w : zMm} (hA : gAG h w) (k x : Int) : gAG (zU h 23 k x) (zU w 23 k x) := by
  refine ⟨fun f h1 h2 => ?_, fun i h1 h2 => ⟨?_, ?_⟩⟩
  · simp only [zU_at]
    rw [if_neg (by omega), if_neg (by omega)]
    exact hA.1 f h1 h2
  · simp only [zU_at]
    split
    · rfl
    · exact (hA.2 i h1 h2).1
  · simp only [zU_at]
    rw [if_neg (by omega), if_neg (by omega)]
    exact (hA.2 i h1 h2).2
theorem gAG.p {h w : zMm} (hA : gAG h w) (k x : Int) : gAG (zU h 24 k x) (zU w 24 k x) := by
  refine ⟨fun f h1 h2 => ?_, fun i h1 h2 => ⟨?_, ?_⟩⟩
  · simp only [zU_at]
    rw [if_neg (by omega), if_neg (by omega)]
    exact hA.1 f h1 h2
  · simp only [zU_at]
    rw [if_neg (by omega), if_neg (by omega)]
    exact (hA.2 i h1 h2).1
  · simp only [zU_at]
    split
    · rfl
    · exact (hA.2 i h1 h2).2
theorem gAG.w {h w : zMm} (hA : gAG h w) (k x : Int) : gAG h (zU w 96 k x) := by
  refine ⟨fun f h1 h2 => ?_, fun i h1 h2 => ?_⟩
  · simp only [zU_at]
    rw [if_neg (by omega)]
    exact hA.1 f h1 h2
  · simp only [zU_at]
    rw [if_neg (by omega), if_neg (by omega)]
    exact hA.2 i h1 h2
/-- the garden's kinds and rules -/
def zGA (a h : zMm) : Prop := zKd (h 11) (a 0) ∧ ∀ r : Int, 0 ≤ r → r ≤ 7 → h 15 r = a 4 r
theorem zGA.fr {a h h' : zMm} (hG : zGA a h) (hF : gFr h h') : zGA a h' := by
  unfold zGA
  rw [hF 11 (by decide) (by decide) (by decide), hF 15 (by decide) (by decide) (by decide)]
  exact hG
theorem sX10_meetGrass {h w : zMm} {K : zMm → Prop} {way dew T G : Int} (hA : gAG h w) (ok : gOk T G w) (hT : T ≤ 1000) (hd : 0 ≤ dew ∧ dew ≤ 999) (hK : ∀ h', gAG h' (gMeet dew way w) → gFr h h' → K h') : zCv mX10_meetGrass [.ref 22, .int (zI way), .int (zI dew)] zS0 h K := by
  obtain ⟨a1, a2, a3, a4, a5, a6, a7, a8, a9, a10, a11, a12, a13, a14, a15⟩ := ok
  have e2 := hA.1 2 (by omega) (by omega)
  have e3 := hA.1 3 (by omega) (by omega)
  have e7 := hA.1 7 (by omega) (by omega)
  have e8 := hA.1 8 (by omega) (by omega)
  have e10 := hA.1 10 (by omega) (by omega)
  have e11 := hA.1 11 (by omega) (by omega)
  have e12 := hA.1 12 (by omega) (by omega)
  have e13 := hA.1 13 (by omega) (by omega)
  have e14 := hA.1 14 (by omega) (by omega)
  have e15 := hA.1 15 (by omega) (by omega)
  have eh := (hA.2 (w 22 8) a1.1 a1.2).1
  have hp := a15 (w 22 8) a1.1 a1.2
  have hF := gFr.rf h
  unfold gMeet at hK
  refine wX10_meetGrass ?_
  simp only [e2, e3, e7, e8, e10, e11, e12, e13, e14, e15, eh]
  refine sX11_isCell ⟨by omega, by omega⟩ ?_
  simp only [e2, e3, e7, e8, e10, e11, e12, e13, e14, e15, eh, decide_eq_true_eq, decide_eq_false_iff_not]
  refine ⟨fun _ => ⟨⟨by omega, by omega⟩, fun c0 => ⟨⟨by omega, by omega⟩, ⟨by omega, by omega⟩, fun c1 => ⟨by omega, ⟨by omega, by omega⟩, ⟨by omega, by omega⟩, fun c2 => ?_, fun c2 => ⟨⟨by omega, by omega⟩, ?_⟩⟩, fun c1 => ?_⟩, fun c0 => ⟨⟨by omega, by omega⟩, ⟨by omega, by omega⟩, fun c1 => ⟨by omega, ⟨by omega, by omega⟩, ⟨by omega, by omega⟩, fun c2 => ?_, fun c2 => ⟨⟨by omega, by omega⟩, ?_⟩⟩, fun c1 => ?_⟩⟩, fun c => absurd a1 c⟩
  · rw [if_pos c1, if_pos c2, if_pos c0] at hK
    exact hK _ (hA.f _ _) (hF.up (Or.inl rfl))
  · rw [if_pos c1, if_neg c2, if_pos c0] at hK
    exact hK _ (((((hA.f _ _).f _ _).g _ _).p _ _).f _ _) (((((hF.up (Or.inl rfl)).up (Or.inl rfl)).up (Or.inr (Or.inl rfl))).up (Or.inr (Or.inr rfl))).up (Or.inl rfl))
  · rw [if_neg c1, if_pos c0] at hK
    exact hK _ (hA.f _ _) (hF.up (Or.inl rfl))
  · rw [if_pos c1, if_pos c2, if_neg c0] at hK
    exact hK _ ((hA.f _ _).f _ _) ((hF.up (Or.inl rfl)).up (Or.inl rfl))
  · rw [if_pos c1, if_neg c2, if_neg c0] at hK
    exact hK _ ((((((hA.f _ _).f _ _).f _ _).g _ _).p _ _).f _ _) ((((((hF.up (Or.inl rfl)).up (Or.inl rfl)).up (Or.inl rfl)).up (Or.inr (Or.inl rfl))).up (Or.inr (Or.inr rfl))).up (Or.inl rfl))
  · rw [if_neg c1, if_neg c0] at hK
    exact hK _ ((hA.f _ _).f _ _) ((hF.up (Or.inl rfl)).up (Or.inl rfl))
theorem gGo_23 {Kd R : Int → Int} {way x : Int} {w : zMm} : (gGo Kd R way x w) 23 = w 23 := by
  unfold gGo
  split <;> (funext i; simp [zU])
theorem sX10_goStep {h w a : zMm} {K : zMm → Prop} {way T G : Int} (hG : zGA a h) (hR : zRu (a 4)) (hA : gAG h w) (ok : gOk T G w) (hT : T ≤ 900) (hw : 0 ≤ way ∧ way ≤ 3) (hK : ∀ h', gAG h' (gStep (a 0) (a 4) way w) → gFr h h' → K h') : zCv mX10_goStep [.ref 22, .ref 10, .int (zI way)] zS0 h K := by
  have ok0 := ok
  obtain ⟨a1, a2, a3, a4, a5, a6, a7, a8, a9, a10, a11, a12, a13, a14, a15⟩ := ok
  have e2 := hA.1 2 (by omega) (by omega)
  have e4 := hA.1 4 (by omega) (by omega)
  have e6 := hA.1 6 (by omega) (by omega)
  have e7 := hA.1 7 (by omega) (by omega)
  have e8 := hA.1 8 (by omega) (by omega)
  have r2 := hG.2 2 (by omega) (by omega)
  have r4 := hG.2 4 (by omega) (by omega)
  have r6 := hG.2 6 (by omega) (by omega)
  have hF := gFr.rf h
  refine wX10_goStep ?_
  rw [e8]
  refine sX3_ahead g0_10 hG.1 a1 hw ?_
  generalize hx : zNx (a 0) (w 22 8) way = x
  have hxR : x = -4 ∨ (0 ≤ x ∧ x < 36) := by
    rcases zNx_R (Kd := a 0) (way := way) a1 with z | z <;> omega
  unfold gStep at hK
  rw [hx] at hK
  refine ⟨⟨by omega, by omega⟩, fun c0 => sX3_minutesOfStep g0_10 hG.1 hw (by omega) ?_, fun c0 => ?_⟩
  rotate_left
  · rw [if_neg c0] at hK
    exact hK _ (hA.f _ _) (hF.up (Or.inl rfl))
  rw [if_pos c0] at hK
  have hx36 : 0 ≤ x ∧ x < 36 := by omega
  have hm : (if way = 0 ∧ (a 0) x = 1 then h (10 + 5) 2 else 1) = zMn (a 0) (a 4) way x := by
    unfold zMn
    rw [show (10 : Nat) + 5 = 15 from rfl, r2]
  rw [hm]
  obtain ⟨k1, k2, k3⟩ := hG.1 x hx36.1 hx36.2
  have eh := (hA.2 x hx36.1 hx36.2).1
  have hp := a15 x hx36.1 hx36.2
  simp only [k1, e2, e4, e6, e7, eh]
  have ok1 := gOk_go (way := way) (Kd := a 0) hR ok0 hx36
  unfold gGo at ok1
  have hR6 : 0 ≤ (a 4) 6 ∧ (a 4) 6 ≤ 999 := hR.2.2.2.2.2.2.1
  unfold gGo at hK
  have hg1 : gAG (zU (zU (zU h 22 2 (w 22 2 + zMn (a 0) (a 4) way x)) 22 8 x) 22 4 (w 22 4 + 1)) (zU (zU (zU (zU w 22 2 (w 22 2 + zMn (a 0) (a 4) way x)) 22 8 x) 22 4 (w 22 4 + 1)) 96 (w 22 4 + 1) x) := (((hA.f _ _).f _ _).f _ _).w _ _
  have hf1 : gFr h (zU (zU (zU h 22 2 (w 22 2 + zMn (a 0) (a 4) way x)) 22 8 x) 22 4 (w 22 4 + 1)) := ((hF.up (Or.inl rfl)).up (Or.inl rfl)).up (Or.inl rfl)
  have plain : ∀ (h1 : zMm), h1 = (zU (zU (zU h 22 2 (w 22 2 + zMn (a 0) (a 4) way x)) 22 8 x) 22 4 (w 22 4 + 1)) → ¬ ((a 0) x = 4 ∧ 0 < w 22 7) → 0 < w 23 x → zCi mX3_told [.ref 10, .int (zI 6)] zS0 h1 (fun x10 h10 => zCv mX10_meetGrass [.ref 22, .int (zI way), .int (zI x10)] zS0 h10 (fun h11 => K h11)) := by
    intro h1 e1 c1 c2
    subst e1
    rw [if_pos c2, if_neg c1] at hK
    rw [if_neg c1] at ok1
    refine sX3_told g0_10 (by omega) ?_
    rw [show (zU (zU (zU h 22 2 (w 22 2 + zMn (a 0) (a 4) way x)) 22 8 x) 22 4 (w 22 4 + 1)) (10 + 5) 6 = (a 4) 6 from (congrFun (hf1 15 (by decide) (by decide) (by decide)) 6).trans r6]
    exact sX10_meetGrass hg1 ok1 (by omega) hR6 (fun h' z1 z2 => hK h' z1 (hf1.trans z2))
  refine ⟨hx36, ⟨by omega, by omega⟩, ⟨by omega, by omega⟩, fun c1 => ⟨⟨by omega, by omega⟩, fun c2 => ?_, fun c2 => plain _ rfl (fun z => c1 z.1) (by omega)⟩, fun c1 => ⟨fun c3 => ⟨⟨by omega, by omega⟩, fun c2 => ?_, fun c2 => plain _ rfl (fun z => by omega) (by omega)⟩, fun c3 => ?_⟩⟩
  · rw [if_neg (by omega), if_neg (fun z => c1 z.1)] at hK
    exact hK _ hg1 hf1
  · rw [if_neg (by omega), if_neg (fun z => by omega)] at hK
    exact hK _ hg1 hf1
  · have c4 : (a 0) x = 4 ∧ 0 < w 22 7 := ⟨c1, by omega⟩
    rw [if_pos c4] at hK ok1
    have hg2 := (hg1.f 7 0).f 6 (w 22 6 + 1)
    have hf2 := (hf1.up (o := 22) (k := 7) (x := 0) (Or.inl rfl)).up (o := 22) (k := 6) (x := w 22 6 + 1) (Or.inl rfl)
    refine sX3_told g0_10 (by omega) ?_
    generalize (zU (zU (zU (zU (zU h 22 2 (w 22 2 + zMn (a 0) (a 4) way x)) 22 8 x) 22 4 (w 22 4 + 1)) 22 7 0) 22 6 (w 22 6 + 1)) = h5 at hg2 hf2 ⊢
    rw [show h5 (10 + 5) 4 = (a 4) 4 from (congrFun (hf2 15 (by decide) (by decide) (by decide)) 4).trans r4]
    have eh5 : h5 23 x = w 23 x := by
      rw [(hg2.2 x hx36.1 hx36.2).1]
      simp [zU]
    rw [eh5]
    have hg3 := hg2.f 2 (w 22 2 + zMn (a 0) (a 4) way x + (a 4) 4)
    have hf3 := hf2.up (o := 22) (k := 2) (x := w 22 2 + zMn (a 0) (a 4) way x + (a 4) 4) (Or.inl rfl)
    refine ⟨⟨by omega, by omega⟩, fun c2 => ?_, fun c2 => sX3_told g0_10 (by omega) ?_⟩
    · rw [if_neg (by omega)] at hK
      exact hK _ hg3 hf3
    · rw [if_pos (by omega)] at hK
      rw [show (zU h5 22 2 (w 22 2 + zMn (a 0) (a 4) way x + (a 4) 4)) (10 + 5) 6 = (a 4) 6 from (congrFun (hf3 15 (by decide) (by decide) (by decide)) 6).trans r6]
      exact sX10_meetGrass hg3 ok1 (by omega) hR6 (fun h' z1 z2 => hK h' z1 (hf3.trans z2))
