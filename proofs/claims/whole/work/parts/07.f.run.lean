/-! run, mow -/
theorem WF.hw {a : zMm} (W : WF a) : zHW a := fun i i0 i1 => (W.1 i i0 i1).2.1
theorem WF.hn {a : zMm} (W : WF a) : ∀ i : Int, 0 ≤ i → i < 36 → 1 < a 0 i → a 1 i = 0 := fun i i0 i1 c => ((W.1 i i0 i1).2.2.2.2 c).1
theorem WF.rb {a : zMm} (W : WF a) : 1 ≤ a 4 3 ∧ a 4 3 ≤ 200 := W.2.1.2.2.2.1
theorem WF.ok {a : zMm} {t b : Int} (W : WF a) (hm : 0 ≤ t ∧ t ≤ 999) (hb : 0 ≤ b ∧ b ≤ 2160) : gOk 264 120 (gW a t b) := gOk_W W.2.1 W.2.2.2.1 W.hw hm hb
theorem gFr.CR {a h h' : zMm} (F : gFr h h') (C : CR a h) : CR a h' := C.scr (fun o ho => F o (by omega) (by omega) (by omega))
theorem gFr.hi {h h' : zMm} (F : gFr h h') : zHi81 h h' := fun o ho => F o (by omega) (by omega) (by omega)
theorem gFm.MR {a h h' : zMm} (F : gFm h h') (M : MR a h) : MR a h' := by
  have e := F 81 (by decide) (by decide) (by decide) (by decide)
  exact M.scr (by rw [e]; exact ⟨rfl, rfl, rfl, rfl⟩) (fun o ho => F o (by omega) (by omega) (by omega) (by omega))
theorem gFm.mA {a h h' : zMm} (F : gFm h h') (A : mA a h) : mA a h' := A.to (zAll_rf a) (F 92 (by decide) (by decide) (by decide) (by decide)) (F 88 (by decide) (by decide) (by decide) (by decide))
theorem gFm.lo {h h' : zMm} (F : gFm h h') : zLo81 h h' := fun o ho => F o (by omega) (by omega) (by omega) (by omega)
theorem zLo81.trans {h h1 h2 : zMm} (p : zLo81 h h1) (q : zLo81 h1 h2) : zLo81 h h2 := fun o ho => (q o ho).trans (p o ho)
theorem zHi81.trans {h h1 h2 : zMm} (p : zHi81 h h1) (q : zHi81 h1 h2) : zHi81 h h2 := fun o ho => (q o ho).trans (p o ho)
/-- the class's walk -/
theorem cWalk {a h : zMm} {t b : Int} {K : zMm → Prop} (W : WF a) (C : CR a h) (hm : 0 ≤ t ∧ t ≤ 999) (hb : 0 ≤ b ∧ b ≤ 2160) (hK : ∀ h', gAG h' (gW a t b) → gFr h h' → CR a h' → K h') : zCv mX10_follow [.ref 22, .ref 10, .ref 16, .int (zI t), .int (zI b)] zS0 h K :=
  sX10_follow W.2.1 W.2.2.2.1 W.hw C.1.1 C.2.1 C.1.2.1 hm hb (fun h' z1 z2 => hK h' z1 z2 (z2.CR C))
/-- the model's -/
theorem mWalk {a h : zMm} {t b : Int} {K : zMm → Prop} (W : WF a) (M : MR a h) (A : mA a h) (hm : 0 ≤ t ∧ t ≤ 999) (hb : 0 ≤ b ∧ b ≤ 2160) (hK : ∀ h', gMG h' (gW a t b) → h' 93 6 = gW a t b 22 8 → gFm h h' → MR a h' → mA a h' → K h') : zCv mX12_walks [.ref 81, .int (zI t), .int (zI b)] zS0 h K :=
  sX12_walks W.2.1 W.2.2.2.1 W.hw W.hn A.1 hm hb (fun h' z1 z2 z3 => hK h' z1 z2 z3 (z3.MR M) (z3.mA A))
def fRun (a : zMm) (t w : Int) : Int := if (0 ≤ t ∧ t ≤ 999) ∧ (0 ≤ w ∧ w ≤ 9) then gW a t (a 4 3) 22 (w + 2) else -1
theorem cRun {a h : zMm} {v1 v2 : Int} {K : Int → zMm → Prop} (W : WF a) (C : CR a h) (r1 : zR v1) (r2 : zR v2) (hK : ∀ h', CR a h' → zHi81 h h' → K (fRun a v1 v2) h') : zCi mX11_run [.ref 0, .int (zI v1), .int (zI v2)] zS0 h K := by
  unfold fRun at hK
  have hb := W.rb
  refine wX11_run (sX11_isMinute r1 ?_)
  simp only [decide_eq_true_eq, decide_eq_false_iff_not]
  refine ⟨fun c => ?_, fun c => sX11_isWithin r2 (by decide) (by decide) ?_⟩
  · rw [if_neg (fun z => c z.1)] at hK
    exact hK h C (fun _ _ => rfl)
  simp only [decide_eq_true_eq, decide_eq_false_iff_not]
  refine ⟨fun d => sX3_told g0_10 (by omega) ?_, fun d => ?_⟩
  · rw [if_pos ⟨c, d⟩] at hK
    rw [show h (10 + 5) 3 = a 4 3 from C.1.1.2 3 (by decide) (by decide)]
    refine cWalk W C c (by omega) (fun h' g1 g2 g3 => ?_)
    have key := hK h' g3 g2.hi
    have e : ∀ f : Int, 2 ≤ f → f ≤ 15 → h' 22 f = gW a v1 (a 4 3) 22 f := g1.1
    refine ⟨r2, fun f => ?_, fun f => ?_, fun f => ?_, fun f => ?_, fun f => ?_, fun f => ?_, fun f => ?_, fun f => ?_, fun f => ?_, fun f => ?_⟩
    · rw [e 2 (by decide) (by decide)]; rw [f] at key; exact key
    · rw [e 3 (by decide) (by decide)]; rw [f] at key; exact key
    · rw [e 4 (by decide) (by decide)]; rw [f] at key; exact key
    · have h5 := (W.ok (t := v1) (b := a 4 3) c (by omega)).2.2.2.2.1
      rw [e 5 (by decide) (by decide)]; rw [f] at key
      rcases h5 with h5 | h5
      · rw [h5]
        rw [show (3 : Int) + 2 = 5 from rfl, h5] at key
        exact ⟨by decide, key⟩
      · rw [h5]
        rw [show (3 : Int) + 2 = 5 from rfl, h5] at key
        exact ⟨by decide, key⟩
    · rw [e 6 (by decide) (by decide)]; rw [f] at key; exact key
    · rw [e 7 (by decide) (by decide)]; rw [f] at key; exact key
    · rw [e 8 (by decide) (by decide)]; rw [f] at key; exact key
    · rw [e 9 (by decide) (by decide)]; rw [f] at key; exact key
    · rw [e 10 (by decide) (by decide)]; rw [f] at key; exact key
    · rw [e 11 (by decide) (by decide)]; rw [show v2 = 9 by omega] at key; exact key
  · rw [if_neg (fun z => d z.2)] at hK
    exact hK h C (fun _ _ => rfl)
theorem mRun {a h : zMm} {v1 v2 : Int} {K : Int → zMm → Prop} (W : WF a) (M : MR a h) (r1 : zR v1) (r2 : zR v2) (hK : ∀ h', MR a h' → zLo81 h h' → K (fRun a v1 v2) h') : zCi mX12_run [.ref 81, .int (zI v1), .int (zI v2)] zS0 h K := by
  unfold fRun at hK
  have hb := W.rb
  refine wX12_run (sX12_awake M ?_)
  intro h1 M1 A1 L1
  refine sX12_isMinute r1 ?_
  simp only [decide_eq_true_eq, decide_eq_false_iff_not]
  refine ⟨fun c => ?_, fun c => ⟨r2, sX12_in r2 (by decide) (by decide) ?_⟩⟩
  · rw [if_neg (fun z => c z.1)] at hK
    exact hK h1 M1 L1
  simp only [decide_eq_true_eq, decide_eq_false_iff_not]
  refine ⟨fun d => ?_, fun d => ?_⟩
  · rw [if_pos ⟨c, d⟩] at hK
    rw [show h1 88 3 = a 4 3 from A1.1.2.1 3 (by decide) (by decide)]
    refine mWalk W M1 A1 c (by omega) (fun h' g1 g2 g3 g4 g5 => ?_)
    have key := hK h' g4 (L1.trans g3.lo)
    refine ⟨⟨by omega, by omega⟩, ?_⟩
    obtain ⟨m0, m1, m2, m3, m4, m5, m7, m8, m9, mh, mp⟩ := g1
    rcases (show v2 = 0 ∨ v2 = 1 ∨ v2 = 2 ∨ v2 = 3 ∨ v2 = 4 ∨ v2 = 5 ∨ v2 = 6 ∨ v2 = 7 ∨ v2 = 8 ∨ v2 = 9 by omega) with e | e | e | e | e | e | e | e | e | e
    · rw [e] at key ⊢; rw [m0]; exact key
    · rw [e] at key ⊢; rw [m1]; exact key
    · rw [e] at key ⊢; rw [m2]; exact key
    · rw [e] at key ⊢; rw [m3]; exact key
    · rw [e] at key ⊢; rw [m4]; exact key
    · rw [e] at key ⊢; rw [m5]; exact key
    · rw [e] at key ⊢; rw [g2]; exact key
    · rw [e] at key ⊢; rw [m7]; exact key
    · rw [e] at key ⊢; rw [m8]; exact key
    · rw [e] at key ⊢; rw [m9]; exact key
  · rw [if_neg (fun z => d z.2)] at hK
    exact hK h1 M1 L1
def zMo (a w : zMm) : zMm := fun o i => if o = 1 ∧ 0 ≤ i ∧ i < 36 then w 23 i else if o = 3 ∧ 0 ≤ i ∧ i < 36 then w 24 i else a o i
def aMow (a : zMm) (t : Int) : zMm := if 0 ≤ t ∧ t ≤ 999 then zMo a (gW a t (a 4 3)) else a
def fMow (a : zMm) (t : Int) : Int := if 0 ≤ t ∧ t ≤ 999 then gW a t (a 4 3) 22 3 else -1
theorem zMo_at (a w : zMm) : (∀ i : Int, 0 ≤ i → i < 36 → zMo a w 1 i = w 23 i ∧ zMo a w 3 i = w 24 i) ∧ ∀ o : Nat, o ≠ 1 → o ≠ 3 → zMo a w o = a o := by
  refine ⟨fun i i0 i1 => ⟨?_, ?_⟩, fun o c1 c2 => ?_⟩
  · unfold zMo
    rw [if_pos ⟨rfl, i0, i1⟩]
  · unfold zMo
    rw [if_neg (by omega), if_pos ⟨rfl, i0, i1⟩]
  · funext i
    unfold zMo
    rw [if_neg (fun z => c1 z.1), if_neg (fun z => c2 z.1)]
/-- pictures: what the walk leaves of them -/
def gPo (Kd : Int → Int) (w : zMm) : Prop := ∀ i : Int, 0 ≤ i → i < 36 → (w 24 i = -4 ∨ (0 ≤ w 24 i ∧ w 24 i ≤ 3)) ∧ (1 < Kd i → w 23 i = 0 ∧ w 24 i = -4)
theorem gPo_meet {Kd : Int → Int} {dew way : Int} {w : zMm} (hw : 0 ≤ way ∧ way ≤ 3) (hp : 0 < w 23 (w 22 8)) (hq : 0 ≤ w 22 8 ∧ w 22 8 < 36) (P : gPo Kd w) : gPo Kd (gMeet dew way w) := by
  have hk : ¬ 1 < Kd (w 22 8) := fun z => by
    have := ((P (w 22 8) hq.1 hq.2).2 z).1
    omega
  have g : ∀ w1 : zMm, w1 23 = w 23 → w1 24 = w 24 → gPo Kd w1 := by
    intro w1 e1 e2
    unfold gPo
    rw [e1, e2]
    exact P
  unfold gMeet
  by_cases c1 : dew ≤ w 22 14 + w 22 2
  · rw [if_pos c1]
    by_cases c2 : w 22 15 < w 22 7 + w 23 (w 22 8)
    · rw [if_pos c2]
      refine g _ ?_ ?_
      · rw [zU_off 23 (by decide)]
        split
        · rfl
        · exact zU_off 23 (by decide)
      · rw [zU_off 24 (by decide)]
        split
        · rfl
        · exact zU_off 24 (by decide)
    · rw [if_neg c2]
      intro i i0 i1
      obtain ⟨p1, p2⟩ := P i i0 i1
      have e23 : ∀ w1 : zMm, w1 23 = w 23 → (zU (zU (zU (zU (zU w1 22 7 (w 22 7 + w 23 (w 22 8))) 22 12 (max (w 22 12) (w 22 7 + w 23 (w 22 8)))) 23 (w 22 8) 0) 24 (w 22 8) way) 22 3 (w 22 3 + 1)) 23 i = if i = w 22 8 then 0 else w 23 i := by
        intro w1 e1
        rw [zU_off 23 (by decide), zU_off 23 (by decide), zU_at, zU_off 23 (by decide), zU_off 23 (by decide), e1]
        simp only [true_and]
      have e24 : ∀ w1 : zMm, w1 24 = w 24 → (zU (zU (zU (zU (zU w1 22 7 (w 22 7 + w 23 (w 22 8))) 22 12 (max (w 22 12) (w 22 7 + w 23 (w 22 8)))) 23 (w 22 8) 0) 24 (w 22 8) way) 22 3 (w 22 3 + 1)) 24 i = if i = w 22 8 then way else w 24 i := by
        intro w1 e1
        rw [zU_off 24 (by decide), zU_at, zU_off 24 (by decide), zU_off 24 (by decide), zU_off 24 (by decide), e1]
        simp only [true_and]
      have f23 : (if 0 ≤ w 22 13 then w else zU w 22 13 (w 22 2)) 23 = w 23 := by
        split
        · rfl
        · exact zU_off 23 (by decide)
      have f24 : (if 0 ≤ w 22 13 then w else zU w 22 13 (w 22 2)) 24 = w 24 := by
        split
        · rfl
        · exact zU_off 24 (by decide)
      rw [e23 _ f23, e24 _ f24]
      by_cases ci : i = w 22 8
      · rw [if_pos ci, if_pos ci]
        exact ⟨Or.inr hw, fun z => absurd (by rw [← ci]; exact z) hk⟩
      · rw [if_neg ci, if_neg ci]
        exact ⟨p1, p2⟩
  · rw [if_neg c1]
    refine g _ ?_ ?_
    · rw [zU_off 23 (by decide)]
      split
      · rfl
      · exact zU_off 23 (by decide)
    · rw [zU_off 24 (by decide)]
      split
      · rfl
      · exact zU_off 24 (by decide)
theorem gGo_24 {Kd R : Int → Int} {way x : Int} {w : zMm} : (gGo Kd R way x w) 24 = w 24 ∧ (gGo Kd R way x w) 22 8 = x := by
  unfold gGo
  constructor
  · split <;> (funext i; simp [zU])
  · split <;> simp [zU]
theorem gPo_step {Kd R : Int → Int} {way : Int} {w : zMm} (hw : 0 ≤ way ∧ way ≤ 3) (hq : 0 ≤ w 22 8 ∧ w 22 8 < 36) (P : gPo Kd w) : gPo Kd (gStep Kd R way w) := by
  unfold gStep
  by_cases c0 : 0 ≤ zNx Kd (w 22 8) way
  · rw [if_pos c0]
    have hx : 0 ≤ zNx Kd (w 22 8) way ∧ zNx Kd (w 22 8) way < 36 := by
      rcases zNx_R (Kd := Kd) (way := way) hq with z | z <;> omega
    generalize zNx Kd (w 22 8) way = x at hx c0
    have P1 : gPo Kd (gGo Kd R way x w) := by
      unfold gPo
      rw [gGo_24.1, gGo_23]
      exact P
    by_cases c1 : 0 < w 23 x
    · rw [if_pos c1]
      exact gPo_meet hw (by rw [gGo_23, gGo_24.2]; exact c1) (by rw [gGo_24.2]; exact hx) P1
    · rw [if_neg c1]
      exact P1
  · rw [if_neg c0]
    unfold gPo
    rw [zU_off 23 (by decide), zU_off 24 (by decide)]
    exact P
theorem gPo_steps {way : Int} {Kd R : Int → Int} (hR : zRu R) (hw : 0 ≤ way ∧ way ≤ 3) : ∀ (n : Nat) (T G : Int) (w : zMm), gOk T G w → gPo Kd w → gPo Kd (gSteps Kd R way n w) := by
  intro n
  induction n with
  | zero => intro T G w h P; exact P
  | succ n ih =>
    intro T G w h P
    unfold gSteps
    split
    · exact ih _ _ _ (gOk_step hR h) (gPo_step hw h.1 P)
    · exact P
theorem gPo_moves {a : zMm} (hR : zRu (a 4)) (hW : zMW a) : ∀ (n : Nat) (i look : Int) (w : zMm), 0 ≤ i → i + n = a 7 0 → gOk (11 * i) (5 * i) w → gPo (a 0) w → gPo (a 0) (gMoves (a 0) (a 4) (a 5) (a 6) n i look w) := by
  intro n
  induction n with
  | zero => intro i look w hi hn ok P; exact P
  | succ n ih =>
    intro i look w hi hn ok P
    obtain ⟨n1, n2⟩ := hW.2 i hi (by omega)
    have okT : gOk (11 * i + 1) (5 * i) (gTurn (a 4) look (a 5 i) w) := gOk_turn hR ok
    have P1 : gPo (a 0) (gTurn (a 4) look (a 5 i) w) := by
      unfold gPo gTurn
      rw [zU_off 23 (by decide), zU_off 24 (by decide), zU_off 23 (by decide), zU_off 24 (by decide)]
      exact P
    unfold gMoves
    split
    · exact ih (i + 1) _ _ (by omega) (by omega) ((gOk_steps hR _ _ _ _ okT).mono (by omega) (by omega)) (gPo_steps hR n1 _ _ _ _ okT P1)
    · exact P
theorem gPo_W {a : zMm} {t b : Int} (W : WF a) (hm : 0 ≤ t ∧ t ≤ 999) (hb : 0 ≤ b ∧ b ≤ 2160) : gPo (a 0) (gW a t b) := by
  have hz := W.2.2.2.1.1
  refine gPo_moves W.2.1 W.2.2.2.1 _ _ _ _ (by omega) (by omega) ((gOk_0 W.2.1 W.hw hm hb).mono (by omega) (by omega)) (fun i i0 i1 => ?_)
  obtain ⟨w0, w1, w2, w3, w4⟩ := W.1 i i0 i1
  have e1 : gW0 a t b 23 i = a 1 i := by simp [gW0]
  have e2 : gW0 a t b 24 i = a 3 i := by simp [gW0]
  rw [e1, e2]
  exact ⟨w3, w4⟩
theorem wMow {a : zMm} {t : Int} (W : WF a) : WF (aMow a t) := by
  unfold aMow
  by_cases c : 0 ≤ t ∧ t ≤ 999
  · rw [if_pos c]
    have hb := W.rb
    have P := gPo_W (b := a 4 3) W c (by omega)
    have ok := W.ok (b := a 4 3) c (by omega)
    obtain ⟨e1, e2⟩ := zMo_at a (gW a t (a 4 3))
    refine W.cells (fun o ho => e2 o (by omega) (by omega)) (fun i i0 i1 => ?_) ?_ ?_
    · rw [e2 0 (by decide) (by decide), e2 2 (by decide) (by decide), (e1 i i0 i1).1, (e1 i i0 i1).2]
      obtain ⟨w0, w1, w2, w3, w4⟩ := W.1 i i0 i1
      obtain ⟨p1, p2⟩ := P i i0 i1
      exact ⟨w0, ok.2.2.2.2.2.2.2.2.2.2.2.2.2.2 i i0 i1, w2, p1, p2⟩
    · rw [e2 4 (by decide) (by decide)]
      exact W.2.1
    · rw [e2 4 (by decide) (by decide), e2 0 (by decide) (by decide)]
      exact W.2.2.1
  · rw [if_neg c]
    exact W
theorem cMow {a h : zMm} {v1 : Int} {K : Int → zMm → Prop} (W : WF a) (C : CR a h) (r1 : zR v1) (hK : ∀ h', CR (aMow a v1) h' → zHi81 h h' → K (fMow a v1) h') : zCi mX11_mow [.ref 0, .int (zI v1)] zS0 h K := by
  unfold fMow aMow at hK
  have hb := W.rb
  refine wX11_mow (sX11_isMinute r1 ?_)
  simp only [decide_eq_true_eq, decide_eq_false_iff_not]
  refine ⟨fun c => sX3_told g0_10 (by omega) ?_, fun c => ?_⟩
  · rw [if_pos c, if_pos c] at hK
    rw [show h (10 + 5) 3 = a 4 3 from C.1.1.2 3 (by decide) (by decide)]
    refine cWalk W C c (by omega) (fun h' g1 g2 g3 => ?_)
    rw [g1.1 3 (by decide) (by decide)]
    obtain ⟨e1, e2⟩ := zMo_at a (gW a v1 (a 4 3))
    obtain ⟨⟨q1, q2⟩, q3, q4⟩ := g3.1
    have ez : ∀ o : Nat, o ≠ 12 → o ≠ 14 → (zCp (zCp h' 23 12 36) 24 14 36) o = h' o := fun o c1 c2 => by rw [zCp_off o c2, zCp_off o c1]
    refine hK _ (g3.cells (fun o ho => e2 o (by omega) (by omega)) (fun o c1 _ => ez o (by omega) (by omega)) ⟨⟨fun i i0 i1 => ?_, fun r r0 r1 => ?_⟩, fun i i0 i1 => ?_, fun i i0 i1 => ?_⟩ (g3.2.2.2.2.2.2.to ⟨e2 0 (by decide) (by decide), e2 4 (by decide) (by decide)⟩ ⟨ez _ (by decide) (by decide), ez _ (by decide) (by decide), ez _ (by decide) (by decide)⟩)) (g2.hi.trans (fun o ho => ez o (by omega) (by omega)))
    · rw [ez 11 (by decide) (by decide), e2 0 (by decide) (by decide)]
      exact q1 i i0 i1
    · rw [ez 15 (by decide) (by decide), e2 4 (by decide) (by decide)]
      exact q2 r r0 r1
    · rw [(e1 i i0 i1).1, (e1 i i0 i1).2, ← (g1.2 i i0 i1).1, ← (g1.2 i i0 i1).2]
      simp [zCp, i0, i1]
    · rw [ez 13 (by decide) (by decide), e2 2 (by decide) (by decide)]
      exact q4 i i0 i1
  · rw [if_neg c, if_neg c] at hK
    exact hK h C (fun _ _ => rfl)
/-- the first n cells are taken over -/
def zTk (h : zMm) (n : Int) : zMm := fun o i => if o = 92 ∧ 36 ≤ i ∧ i < 36 + n then h 94 (i - 36) else if o = 92 ∧ 72 ≤ i ∧ i < 72 + n then h 95 (i - 72) else h o i
theorem zTk_step (h : zMm) (n : Int) (hn : 0 ≤ n ∧ n < 36) : zU (zU (zTk h n) 92 (36 + n) ((zTk h n) 94 n)) 92 (72 + n) ((zTk h n) 95 n) = zTk h (n + 1) := by
  have e4 : (zTk h n) 94 n = h 94 n := by simp [zTk]
  have e5 : (zTk h n) 95 n = h 95 n := by simp [zTk]
  rw [e4, e5]
  funext o i
  unfold zTk
  simp only [zU_at]
  by_cases co : o = 92
  · simp only [co, true_and]
    by_cases c1 : i = 72 + n
    · rw [if_pos c1, if_neg (by omega), if_pos (by omega), show i - 72 = n by omega]
    · rw [if_neg c1]
      by_cases c2 : i = 36 + n
      · rw [if_pos c2, if_pos (by omega), show i - 36 = n by omega]
      · rw [if_neg c2]
        by_cases c3 : 36 ≤ i ∧ i < 36 + n
        · rw [if_pos c3, if_pos (by omega)]
        · rw [if_neg c3]
          by_cases c4 : 72 ≤ i ∧ i < 72 + n
          · rw [if_pos c4, if_neg (by omega), if_pos (by omega)]
          · rw [if_neg c4, if_neg (by omega), if_neg (by omega)]
  · simp [co]
theorem mow_in {h : zMm} {K : Int → zMm → Prop} (hK : K (h 93 1) (zTk h 36)) : ∀ (n : Nat) (v : Int), 0 ≤ v → v + n = 36 → RR mX12_mow 0 0 26 [some (.ref 81), none, some (.int (zI v))] [] zS0 (zTk h v) (zQi zS0 K) := by
  intro n
  induction n with
  | zero =>
    intro v c0 c1
    have e1 : v = 36 := by omega
    refine bX12_mow_26 ⟨⟨by omega, by omega⟩, fun _ => ?_, fun c => absurd (by omega) c⟩
    rw [e1, show (zTk h 36) 93 1 = h 93 1 by simp [zTk]]
    exact hK
  | succ n ih =>
    intro v c0 c1
    refine bX12_mow_26 ⟨⟨by omega, by omega⟩, fun c => absurd c (by omega), fun _ => ⟨⟨by omega, by omega⟩, ⟨by omega, by omega⟩, ⟨by omega, by omega⟩, ?_⟩⟩
    rw [zTk_step h v ⟨c0, by omega⟩]
    exact ih (v + 1) (by omega) (by omega)
theorem mMow {a h : zMm} {v1 : Int} {K : Int → zMm → Prop} (W : WF a) (M : MR a h) (r1 : zR v1) (hK : ∀ h', MR (aMow a v1) h' → zLo81 h h' → K (fMow a v1) h') : zCi mX12_mow [.ref 81, .int (zI v1)] zS0 h K := by
  unfold fMow aMow at hK
  have hb := W.rb
  refine wX12_mow (sX12_awake M ?_)
  intro h1 M1 A1 L1
  refine sX12_isMinute r1 ?_
  simp only [decide_eq_true_eq, decide_eq_false_iff_not]
  refine ⟨fun c => ?_, fun c => ?_⟩
  · rw [if_pos c, if_pos c] at hK
    rw [show h1 88 3 = a 4 3 from A1.1.2.1 3 (by decide) (by decide)]
    refine mWalk W M1 A1 c (by omega) (fun h' g1 g2 g3 g4 g5 => ?_)
    have e0 : zTk h' 0 = h' := by
      funext o i
      unfold zTk
      rw [if_neg (by omega), if_neg (by omega)]
    have key := mow_in (h := h') (K := K) ?_ 36 0 (by decide) (by decide)
    · rw [e0] at key
      exact key
    obtain ⟨m0, m1, m2, m3, m4, m5, m7, m8, m9, mh, mp⟩ := g1
    rw [m1]
    obtain ⟨e1, e2⟩ := zMo_at a (gW a v1 (a 4 3))
    obtain ⟨⟨q1, q2, q3, q4, q5⟩, q6⟩ := g5
    have ez : ∀ o : Nat, o ≠ 92 → (zTk h' 36) o = h' o := by
      intro o ho
      funext i
      unfold zTk
      rw [if_neg (fun z => ho z.1), if_neg (fun z => ho z.1)]
    have e9 : ∀ i : Int, (i < 36 ∨ 108 ≤ i) → (zTk h' 36) 92 i = h' 92 i := by
      intro i hi
      unfold zTk
      rw [if_neg (by omega), if_neg (by omega)]
    refine hK _ (g4.state (fun o ho => e2 o (by omega) (by omega)) (fun i _ => congrFun (e2 7 (by decide) (by decide)) i) (fun o c1 _ => ez o c1) (fun i ci => e9 i (by omega)) (Or.inl ⟨?_, ⟨fun i i0 i1 => ?_, fun r r0 r1 => ?_, ?_, fun i i0 i1 => ?_, fun i i0 i1 => ?_⟩, fun i i0 i1 => ?_⟩)) ((L1.trans g3.lo).trans (fun o ho => ez o (by omega)))
    · rw [ez 81 (by decide)]
      exact mA.on g4 ⟨⟨q1, q2, q3, q4, q5⟩, q6⟩
    · rw [e9 i (by omega), e2 0 (by decide) (by decide)]
      exact q1 i i0 i1
    · rw [ez 88 (by decide), e2 4 (by decide) (by decide)]
      exact q2 r r0 r1
    · rw [e9 192 (by omega), e2 7 (by decide) (by decide)]
      exact q3
    · rw [e2 7 (by decide) (by decide)] at i1
      rw [e9 _ (by omega), e9 _ (by omega), e2 5 (by decide) (by decide), e2 6 (by decide) (by decide)]
      exact q4 i i0 i1
    · rw [(e1 i i0 i1).1, (e1 i i0 i1).2, ← (mh i i0 i1).1, ← (mh i i0 i1).2]
      constructor
      · unfold zTk
        rw [if_pos (by omega), show 36 + i - 36 = i by omega]
      · unfold zTk
        rw [if_neg (by omega), if_pos (by omega), show 72 + i - 72 = i by omega]
    · rw [e9 _ (by omega), e2 2 (by decide) (by decide)]
      exact q6 i i0 i1
  · rw [if_neg c, if_neg c] at hK
    exact hK h1 M1 L1
