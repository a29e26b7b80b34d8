/-! THE CORD: the way that it is drawn along -/
theorem gMeet_pa {dew way : Int} {w : zMm} : (gMeet dew way w) 22 4 = w 22 4 ∧ (gMeet dew way w) 22 5 = w 22 5 ∧ (gMeet dew way w) 22 8 = w 22 8 ∧ (gMeet dew way w) 96 = w 96 := by
  unfold gMeet
  refine ⟨?_, ?_, ?_, ?_⟩
  · (repeat' split) <;> simp [zU]
  · (repeat' split) <;> simp [zU]
  · (repeat' split) <;> simp [zU]
  · (repeat' split) <;> (funext i; simp [zU])
theorem gGo_pa {Kd R : Int → Int} {way x : Int} {w : zMm} : (gGo Kd R way x w) 22 4 = w 22 4 + 1 ∧ (gGo Kd R way x w) 22 5 = w 22 5 ∧ (gGo Kd R way x w) 22 8 = x ∧ ∀ j, (gGo Kd R way x w) 96 j = if j = w 22 4 + 1 then x else w 96 j := by
  unfold gGo
  refine ⟨?_, ?_, ?_, fun j => ?_⟩
  · split <;> simp [zU]
  · split <;> simp [zU]
  · split <;> simp [zU]
  · split <;> simp [zU]
theorem gStep_on {Kd R : Int → Int} {way : Int} {w : zMm} (c : 0 ≤ zNx Kd (w 22 8) way) : (gStep Kd R way w) 22 4 = w 22 4 + 1 ∧ (gStep Kd R way w) 22 5 = w 22 5 ∧ (gStep Kd R way w) 22 8 = zNx Kd (w 22 8) way ∧ ∀ j, (gStep Kd R way w) 96 j = if j = w 22 4 + 1 then zNx Kd (w 22 8) way else w 96 j := by
  unfold gStep
  rw [if_pos c]
  have g := gGo_pa (Kd := Kd) (R := R) (way := way) (x := zNx Kd (w 22 8) way) (w := w)
  split
  · have m := gMeet_pa (dew := R 6) (way := way) (w := gGo Kd R way (zNx Kd (w 22 8) way) w)
    rw [m.1, m.2.1, m.2.2.1, m.2.2.2]
    exact g
  · exact g
theorem gStep_off {Kd R : Int → Int} {way : Int} {w : zMm} (c : ¬ 0 ≤ zNx Kd (w 22 8) way) : gStep Kd R way w = zU w 22 5 1 := by
  unfold gStep
  rw [if_neg c]
theorem gSteps_stop {Kd R : Int → Int} {way : Int} {w : zMm} (c : ¬ w 22 5 = 0) : ∀ n, gSteps Kd R way n w = w := by
  intro n
  cases n with
  | zero => rfl
  | succ n => unfold gSteps; rw [if_neg c]
theorem gMoves_stop {Kd R Wy Ln : Int → Int} {w : zMm} (c : ¬ w 22 5 = 0) : ∀ (n : Nat) (i look : Int), gMoves Kd R Wy Ln n i look w = w := by
  intro n i look
  cases n with
  | zero => rfl
  | succ n => unfold gMoves; rw [if_neg c]
def kEx (w w' : zMm) : Prop := (∀ j : Int, j ≤ w 22 4 → w' 96 j = w 96 j) ∧ w 22 4 ≤ w' 22 4
theorem kEx.rf (w : zMm) : kEx w w := ⟨fun _ _ => rfl, Int.le_refl _⟩
theorem kEx.trans {w w1 w2 : zMm} (a : kEx w w1) (b : kEx w1 w2) : kEx w w2 := ⟨fun j hj => (b.1 j (by have := a.2; omega)).trans (a.1 j hj), by have := a.2; have := b.2; omega⟩
theorem kEx_step {Kd R : Int → Int} {way : Int} {w : zMm} : kEx w (gStep Kd R way w) := by
  by_cases c : 0 ≤ zNx Kd (w 22 8) way
  · obtain ⟨g1, g2, g3, g4⟩ := gStep_on (R := R) c
    exact ⟨fun j hj => by rw [g4, if_neg (by omega)], by omega⟩
  · rw [gStep_off c]
    exact ⟨fun j hj => by rw [zU_off 96 (by decide)], by rw [zU_ne (by omega)]; exact Int.le_refl _⟩
theorem kEx_steps {Kd R : Int → Int} {way : Int} : ∀ (n : Nat) (w : zMm), kEx w (gSteps Kd R way n w) := by
  intro n
  induction n with
  | zero => intro w; exact kEx.rf w
  | succ n ih =>
    intro w
    unfold gSteps
    split
    · exact kEx_step.trans (ih _)
    · exact kEx.rf w
theorem kEx_turn {R : Int → Int} {look way : Int} {w : zMm} : (gTurn R look way w) 22 4 = w 22 4 ∧ (gTurn R look way w) 22 5 = w 22 5 ∧ (gTurn R look way w) 22 8 = w 22 8 ∧ (gTurn R look way w) 96 = w 96 := by
  unfold gTurn
  refine ⟨by simp [zU], by simp [zU], by simp [zU], by rw [zU_off 96 (by decide), zU_off 96 (by decide)]⟩
theorem kEx_moves {Kd R Wy Ln : Int → Int} : ∀ (n : Nat) (i look : Int) (w : zMm), kEx w (gMoves Kd R Wy Ln n i look w) := by
  intro n
  induction n with
  | zero => intro i look w; exact kEx.rf w
  | succ n ih =>
    intro i look w
    unfold gMoves
    split
    · obtain ⟨t1, t2, t3, t4⟩ := kEx_turn (R := R) (look := look) (way := Wy i) (w := w)
      have k1 : kEx w (gTurn R look (Wy i) w) := ⟨fun j _ => by rw [t4], by omega⟩
      exact (k1.trans (kEx_steps _ _)).trans (ih _ _ _)
    · exact kEx.rf w
/-- the cells of the path are cells -/
def kPa (w : zMm) : Prop := (∀ j : Int, 0 ≤ j → j ≤ w 22 4 → 0 ≤ w 96 j ∧ w 96 j < 36) ∧ 0 ≤ w 22 4 ∧ 0 ≤ w 22 8 ∧ w 22 8 < 36
theorem kPa_step {Kd R : Int → Int} {way : Int} {w : zMm} (h : kPa w) : kPa (gStep Kd R way w) := by
  obtain ⟨h1, h2, h3, h4⟩ := h
  by_cases c : 0 ≤ zNx Kd (w 22 8) way
  · have hx : 0 ≤ zNx Kd (w 22 8) way ∧ zNx Kd (w 22 8) way < 36 := by
      rcases zNx_R (Kd := Kd) (way := way) ⟨h3, h4⟩ with z | z <;> omega
    obtain ⟨g1, g2, g3, g4⟩ := gStep_on (R := R) c
    refine ⟨fun j j0 j1 => ?_, by omega, by omega, by omega⟩
    rw [g4]
    split
    · exact hx
    · exact h1 j j0 (by omega)
  · rw [gStep_off c]
    refine ⟨fun j j0 j1 => ?_, ?_, ?_, ?_⟩
    · rw [zU_ne (by omega)] at j1
      rw [zU_off 96 (by decide)]
      exact h1 j j0 j1
    · rw [zU_ne (by omega)]; exact h2
    · rw [zU_ne (by omega)]; exact h3
    · rw [zU_ne (by omega)]; exact h4
theorem kPa_steps {Kd R : Int → Int} {way : Int} : ∀ (n : Nat) (w : zMm), kPa w → kPa (gSteps Kd R way n w) := by
  intro n
  induction n with
  | zero => intro w h; exact h
  | succ n ih =>
    intro w h
    unfold gSteps
    split
    · exact ih _ (kPa_step h)
    · exact h
theorem kPa_moves {Kd R Wy Ln : Int → Int} : ∀ (n : Nat) (i look : Int) (w : zMm), kPa w → kPa (gMoves Kd R Wy Ln n i look w) := by
  intro n
  induction n with
  | zero => intro i look w h; exact h
  | succ n ih =>
    intro i look w h
    unfold gMoves
    split
    · obtain ⟨t1, t2, t3, t4⟩ := kEx_turn (R := R) (look := look) (way := Wy i) (w := w)
      refine ih _ _ _ (kPa_steps _ _ ?_)
      unfold kPa
      rw [t1, t3, t4]
      exact h
    · exact h
theorem kPa_W {a : zMm} {t b : Int} (W : WF a) : kPa (gW a t b) := by
  have := W.2.1.1
  refine kPa_moves _ _ _ _ ⟨fun j j0 j1 => ?_, ?_, ?_, ?_⟩
  · have : (gW0 a t b) 96 j = a 4 0 := by simp [gW0]
    omega
  · simp [gW0]
  · have : (gW0 a t b) 22 8 = a 4 0 := by simp [gW0]
    omega
  · have : (gW0 a t b) 22 8 = a 4 0 := by simp [gW0]
    omega
theorem kF.GA {a h h' : zMm} (F : kF h h') (G : zGA a h) : zGA a h' := by
  unfold zGA
  rw [F 11 (by decide) (by decide) (by decide), F 15 (by decide) (by decide) (by decide)]
  exact G
theorem kF.MA {a h h' : zMm} (F : kF h h') (G : zMA a h) : zMA a h' := by
  unfold zMA
  rw [F 16 (by decide) (by decide) (by decide), F 17 (by decide) (by decide) (by decide), F 18 (by decide) (by decide) (by decide)]
  exact G
theorem draw_in {a h0 wf : zMm} {K : zMm → Prop} {way i most m s : Int} (hR : zRu (a 4)) (hM : zMW a) (em : m = a 4 5) (hi : 0 ≤ i ∧ i < a 7 0) (ew : way = a 5 i) (hs : 0 ≤ s ∧ s < 36) (hp : kPa wf) (hmo : zR most) (hmx : wf 22 4 ≤ 120)
    (hD : ∀ (t : Int) (h' : zMm), t = min most (wf 22 4) → kC t (kSt m s (wf 96) t.toNat) h' → kF h0 h' → K h') : ∀ (n : Nat) (h w : zMm), zGA a h → zMA a h → kF h0 h → n ≤ 5 → w 22 5 = 0 → 0 ≤ w 22 4 → w 22 4 ≤ most → 0 ≤ w 22 8 ∧ w 22 8 < 36 → kC (w 22 4) (kSt m s (wf 96) (w 22 4).toNat) h → kEx (gSteps (a 0) (a 4) way n w) wf → (¬ (gSteps (a 0) (a 4) way n w) 22 5 = 0 → wf 22 4 = (gSteps (a 0) (a 4) way n w) 22 4) → ((gSteps (a 0) (a 4) way n w) 22 5 = 0 → ∀ h', (gSteps (a 0) (a 4) way n w) 22 4 ≤ most → kC ((gSteps (a 0) (a 4) way n w) 22 4) (kSt m s (wf 96) ((gSteps (a 0) (a 4) way n w) 22 4).toNat) h' → kF h0 h' → RR mX1_draw 0 0 19 [some (.ref 25), some (.ref 10), some (.ref 16), some (.int (zI most)), some (.int (zI ((gSteps (a 0) (a 4) way n w) 22 8))), some (.int (zI (i + 1))), none] [] zS0 h' (zQv zS0 K)) → RR mX1_draw 0 0 36 [some (.ref 25), some (.ref 10), some (.ref 16), some (.int (zI most)), some (.int (zI (w 22 8))), some (.int (zI i)), some (.int (zI (n : Int)))] [] zS0 h (zQv zS0 K) := by
  intro n
  induction n with
  | zero =>
    intro h w G M F hn h5 h4 hm4 h8 C ex st kk
    refine bX1_draw_36 ⟨⟨by omega, by omega⟩, fun _ => kk h5 h hm4 C F, fun c => absurd (by omega) c⟩
  | succ n ih =>
    intro h w G M F hn h5 h4 hm4 h8 C ex st kk
    have hz := hM.1
    obtain ⟨n1, n2⟩ := hM.2 i hi.1 hi.2
    obtain ⟨m1, m2⟩ := M.2 i hi.1 hi.2
    have exw : kEx w wf := (kEx_steps _ _).trans ex
    have ok : kOk (w 22 4) (kSt m s (wf 96) (w 22 4).toNat) := by
      have := kSt_ok (m := m) hs (p := wf 96) (w 22 4).toNat (fun j j0 j1 => hp.1 j j0 (by have := exw.2; omega))
      rw [show (((w 22 4).toNat : Nat) : Int) = w 22 4 by omega] at this
      exact this
    have e3 : h 25 3 = w 22 4 := C.2.1
    have t0 := exw.2
    unfold gSteps at ex st kk
    rw [if_pos h5] at ex st kk
    refine bX1_draw_36 ⟨⟨by omega, by omega⟩, fun c => absurd c (by omega), fun _ => ?_⟩
    rw [e3]
    refine ⟨⟨by omega, by omega⟩, hmo, fun c => hD (w 22 4) h (by omega) C F, fun c => sX5_wayOf m0_16 (by rw [M.1]; exact hz) ⟨by omega, by omega⟩ ?_⟩
    rw [M.1, if_pos hi, show h (16 + 1) i = a 5 i from m1, ← ew]
    refine sX3_ahead g0_10 G.1 h8 (by omega) ?_
    have hx := zNx_R (Kd := a 0) (way := way) h8
    refine ⟨⟨by omega, by omega⟩, fun c1 => sX3_told g0_10 (by omega) ?_, fun c1 => ?_⟩
    · rw [show h (10 + 5) 5 = m from (G.2 5 (by decide) (by decide)).trans em.symm]
      obtain ⟨g1, g2, g3, g4⟩ := gStep_on (R := a 4) c1
      have ex1 : kEx (gStep (a 0) (a 4) way w) wf := (kEx_steps _ _).trans ex
      have px : wf 96 (w 22 4 + 1) = zNx (a 0) (w 22 8) way := by
        rw [ex1.1 _ (by omega), g4, if_pos rfl]
      have t1 := ex1.2
      have hR5 : 1 ≤ a 4 5 ∧ a 4 5 ≤ 99 := hR.2.2.2.2.2.1
      refine sX1_drawTo (m := m) C ok ⟨h4, by omega⟩ (by omega) ⟨c1, by omega⟩ (fun h' C' F' => ?_)
      have C2 : kC ((gStep (a 0) (a 4) way w) 22 4) (kSt m s (wf 96) ((gStep (a 0) (a 4) way w) 22 4).toNat) h' := by
        rw [g1, show (w 22 4 + 1).toNat = (w 22 4).toNat + 1 by omega]
        show kC (w 22 4 + 1) (kOne m ((((w 22 4).toNat : Nat) : Int) + 1) (wf 96 ((((w 22 4).toNat : Nat) : Int) + 1)) (kSt m s (wf 96) (w 22 4).toNat)) h'
        rw [show (((w 22 4).toNat : Nat) : Int) = w 22 4 by omega, px]
        exact C'
      rw [show ((n + 1 : Nat) : Int) + (-1) = (n : Int) by omega, ← g3]
      exact ih h' _ (F'.GA G) (F'.MA M) (F.trans F') (by omega) (by rw [g2]; exact h5) (by omega) (by omega) (by rw [g3]; omega) C2 ex st kk
    · rw [gStep_off c1] at st
      have c5 : ¬ (zU w 22 5 1) 22 5 = 0 := by rw [zU_eq]; decide
      rw [gSteps_stop c5] at st
      have := st c5
      rw [zU_ne (by omega)] at this
      exact hD (w 22 4) h (by omega) C F
theorem draw_out {a h0 wf : zMm} {K : zMm → Prop} {most m s : Int} (hR : zRu (a 4)) (hM : zMW a) (em : m = a 4 5) (hs : 0 ≤ s ∧ s < 36) (hp : kPa wf) (hmo : zR most) (hmx : wf 22 4 ≤ 120)
    (hD : ∀ (t : Int) (h' : zMm), t = min most (wf 22 4) → kC t (kSt m s (wf 96) t.toNat) h' → kF h0 h' → K h') : ∀ (n : Nat) (i look : Int) (h w : zMm), 0 ≤ i → i + n = a 7 0 → zGA a h0 → zMA a h0 → kF h0 h → w 22 5 = 0 → kPa w → w 22 4 ≤ most → kC (w 22 4) (kSt m s (wf 96) (w 22 4).toNat) h → wf = gMoves (a 0) (a 4) (a 5) (a 6) n i look w → RR mX1_draw 0 0 19 [some (.ref 25), some (.ref 10), some (.ref 16), some (.int (zI most)), some (.int (zI (w 22 8))), some (.int (zI i)), none] [] zS0 h (zQv zS0 K) := by
  intro n
  induction n with
  | zero =>
    intro i look h w hi hn G M F h5 pw hm4 C ef
    have hz := hM.1
    have e : wf = w := ef
    have M1 := F.MA M
    refine bX1_draw_19 ⟨⟨by omega, by omega⟩, by rw [M1.1]; exact ⟨by omega, by omega⟩, fun _ => hD (w 22 4) h ?_ C F, fun c => absurd (by rw [M1.1]; omega) c⟩
    rw [e]
    omega
  | succ n ih =>
    intro i look h w hi hn G M F h5 pw hm4 C ef
    have hz := hM.1
    have G1 := F.GA G
    have M1 := F.MA M
    obtain ⟨n1, n2⟩ := hM.2 i hi (by omega)
    obtain ⟨m1, m2⟩ := M1.2 i hi (by omega)
    unfold gMoves at ef
    rw [if_pos h5] at ef
    obtain ⟨t1, t2, t3, t4⟩ := kEx_turn (R := a 4) (look := look) (way := a 5 i) (w := w)
    refine bX1_draw_19 ⟨⟨by omega, by omega⟩, by rw [M1.1]; exact ⟨by omega, by omega⟩, fun c => absurd c (by rw [M1.1]; omega), fun _ => sX5_stepsOf m0_16 (by rw [M1.1]; exact hz) ⟨by omega, by omega⟩ ?_⟩
    rw [M1.1, if_pos ⟨hi, by omega⟩, show h (16 + 2) i = a 6 i from m2]
    have pT : kPa (gTurn (a 4) look (a 5 i) w) := by
      unfold kPa
      rw [t1, t3, t4]
      exact pw
    have key := draw_in (K := K) (h0 := h0) (way := a 5 i) (i := i) hR hM em ⟨hi, by omega⟩ rfl hs hp hmo hmx hD (a 6 i).toNat h (gTurn (a 4) look (a 5 i) w) G1 M1 F (by omega) (by rw [t2]; exact h5) (by rw [t1]; exact pw.2.1) (by rw [t1]; exact hm4) (by rw [t3]; exact pw.2.2) (by rw [t1]; exact C) (by rw [ef]; exact kEx_moves _ _ _ _) (fun c => by rw [ef, gMoves_stop c]) (fun c5 h' cm C' F' => ih (i + 1) (a 5 i) h' _ (by omega) (by omega) G M F' c5 (kPa_steps _ _ pT) cm C' ef)
    rw [t3, show (((a 6 i).toNat : Nat) : Int) = a 6 i by omega] at key
    exact key
theorem sX1_draw {a h : zMm} {K : zMm → Prop} {most b : Int} (W : WF a) (C : CR a h) (hmo : 0 ≤ most ∧ most < 2147483648) (hb : 0 ≤ b ∧ b ≤ 2160)
    (hK : ∀ (t : Int) (h' : zMm), t = min most (gW a 0 b 22 4) → kC t (kSt (a 4 5) (a 4 0) (gW a 0 b 96) t.toNat) h' → kF h h' → K h') : zCv mX1_draw [.ref 25, .ref 10, .ref 16, .int (zI most)] zS0 h K := by
  have W0 := W.2.1.1
  have ok := W.ok (t := 0) (b := b) (by decide) hb
  have h4 := ok.2.2.2.1
  have kf : kF h h := fun _ _ _ _ => rfl
  refine wX1_draw (sX3_told g0_10 (by omega) ?_)
  rw [show h (10 + 5) 0 = a 4 0 from C.1.1.2 0 (by decide) (by decide)]
  refine wX1_startAt (sJ7_fill_i s0_27 (by decide) ?_)
  have c0 : kC 0 (fun _ _ => 0) (zU (zU (zU (zU (zU (zU (zFi h 27 ((36 : Nat) : Int) 0) 25 2 0) 25 3 0) 25 4 0) 25 5 0) 25 6 0) 25 7 0) := by
    refine ⟨?_, ?_, ?_, ?_, ?_, ?_, fun j j0 j1 => absurd j1 (by show ¬ j < (0 : Int); omega), fun x x0 x1 => ?_⟩
    · simp [zU]
    · simp [zU]
    · simp [zU]
    · simp [zU]
    · simp [zU]
    · simp [zU]
    · rw [zU_off 27 (by decide), zU_off 27 (by decide), zU_off 27 (by decide), zU_off 27 (by decide), zU_off 27 (by decide), zU_off 27 (by decide)]
      exact zFi_in x0 x1
  have f0 : kF h (zU (zU (zU (zU (zU (zU (zFi h 27 ((36 : Nat) : Int) 0) 25 2 0) 25 3 0) 25 4 0) 25 5 0) 25 6 0) 25 7 0) := by
    intro o c1 c2 c3
    rw [zU_off o c1, zU_off o c1, zU_off o c1, zU_off o c1, zU_off o c1, zU_off o c1, zFi_of c3]
  refine sX1_layOn c0 ⟨by show (0 : Int) ≤ 0; decide, by show (0 : Int) ≤ 120; decide⟩ ⟨by omega, by omega⟩ (fun h1 C1 F1 => sX3_told g0_10 (by omega) ?_)
  have F2 := f0.trans F1
  rw [show h1 (10 + 5) 0 = a 4 0 from (congrFun (F2 15 (by decide) (by decide) (by decide)) 0).trans (C.1.1.2 0 (by decide) (by decide))]
  have z4 : gW0 a 0 b 22 4 = 0 := by simp [gW0]
  have z8 : gW0 a 0 b 22 8 = a 4 0 := by simp [gW0]
  have key := draw_out (h0 := h) (K := K) (m := a 4 5) (s := a 4 0) (wf := gW a 0 b) (most := most) W.2.1 W.2.2.2.1 rfl ⟨by omega, by omega⟩ (kPa_W W) ⟨by omega, by omega⟩ (by omega) hK (a 7 0).toNat 0 0 h1 (gW0 a 0 b) (by decide) (by have := W.2.2.2.1.1; omega) C.1.1 C.2.1 F2 (by simp [gW0]) ⟨fun j j0 j1 => ?_, by omega, by omega, by omega⟩ (by omega) ?_ rfl
  · rw [z8] at key
    exact key
  · have : (gW0 a 0 b) 96 j = a 4 0 := by simp [gW0]
    omega
  · rw [z4]
    exact C1
