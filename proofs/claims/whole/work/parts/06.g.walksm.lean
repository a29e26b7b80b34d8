/-! THE WALK, the model's: all MOVES -/
theorem gMeet_14 {dew way : Int} {w : zMm} : (gMeet dew way w) 22 14 = w 22 14 ∧ (gMeet dew way w) 22 15 = w 22 15 := by
  unfold gMeet
  constructor <;> (repeat' split) <;> simp [zU]
theorem gStep_14 {Kd R : Int → Int} {way : Int} {w : zMm} : (gStep Kd R way w) 22 14 = w 22 14 ∧ (gStep Kd R way w) 22 15 = w 22 15 := by
  have g : ∀ x, (gGo Kd R way x w) 22 14 = w 22 14 ∧ (gGo Kd R way x w) 22 15 = w 22 15 := by
    intro x
    unfold gGo
    constructor <;> split <;> simp [zU]
  unfold gStep
  split
  · split
    · rw [gMeet_14.1, gMeet_14.2]; exact g _
    · exact g _
  · simp [zU]
theorem gMG.on {h w : zMm} {x y m : Int} (hM : gMG h w) (hg : 0 ≤ w 22 4) : gMG (zU (zU (zU h 93 0 m) 93 2 (w 22 4 + 1)) 96 (w 22 4 + 1) x) (zU (zU (zU (zU w 22 2 m) 22 8 y) 22 4 (w 22 4 + 1)) 96 (w 22 4 + 1) x) := by
  obtain ⟨m0, m1, m2, m3, m4, m5, m7, m8, m9, mh, mp⟩ := hM
  refine ⟨?_, ?_, ?_, ?_, ?_, ?_, ?_, ?_, ?_, ?_, ?_⟩
  all_goals first
    | (simp [zU, *]; done)
    | (intro i hi0 hi1; have := mh i hi0 hi1; simpa [zU] using this)
    | skip
  intro i hi0 hi1
  by_cases ci : i = w 22 4 + 1
  · simp [zU, ci]
  · have h4 : i ≤ w 22 4 := by
      have : i ≤ w 22 4 + 1 := by simpa [zU] using hi1
      omega
    have := mp i hi0 h4
    simpa [zU, ci] using this
theorem gMG.stop {h w : zMm} (hM : gMG h w) : gMG (zU h 93 3 1) (zU w 22 5 1) := by
  obtain ⟨m0, m1, m2, m3, m4, m5, m7, m8, m9, mh, mp⟩ := hM
  refine ⟨?_, ?_, ?_, ?_, ?_, ?_, ?_, ?_, ?_, ?_, ?_⟩ <;> first | (simp [zU, *]; done) | (intro i hi0 hi1; have := mh i hi0 hi1; simpa [zU] using this) | (intro i hi0 hi1; have := mp i hi0 (by simpa [zU] using hi1); simpa [zU] using this)
theorem gMG.turn {h w : zMm} {R : Int → Int} {look way : Int} (hM : gMG h w) : gMG (zU (zU h 93 7 (w 22 9 + zQ look way)) 93 0 (w 22 2 + zQ look way * R 1)) (gTurn R look way w) := by
  obtain ⟨m0, m1, m2, m3, m4, m5, m7, m8, m9, mh, mp⟩ := hM
  unfold gTurn
  refine ⟨?_, ?_, ?_, ?_, ?_, ?_, ?_, ?_, ?_, ?_, ?_⟩ <;> first | (simp [zU, *]; done) | (intro i hi0 hi1; have := mh i hi0 hi1; simpa [zU] using this) | (intro i hi0 hi1; have := mp i hi0 (by simpa [zU] using hi1); simpa [zU] using this)
theorem walks_in {a : zMm} {K : zMm → Prop} {way i minute bag v4 : Int} (hR : zRu (a 4)) (hW : zMW a) (hw : 0 ≤ way ∧ way ≤ 3) (hi : 0 ≤ i ∧ i < a 7 0) : ∀ (n : Nat) (T G k : Int) (h w : zMm), 0 ≤ k → k + n = a 6 i → T + 2 * n ≤ 800 → G + n ≤ 120 → zGm a h → gMG h w → gOk T G w → zHN (a 0) w → w 22 14 = minute → w 22 15 = bag → (∀ (h' w' : zMm), w' = gSteps (a 0) (a 4) way n w → gMG h' w' → zHN (a 0) w' → w' 22 14 = minute → w' 22 15 = bag → gFm h h' → RR mX12_walks 0 0 85 [some (.ref 81), some (.int (zI minute)), some (.int (zI bag)), some (.int (zI (w' 22 8))), some (.int (zI v4)), some (.int (zI (i + 1))), none, none, none] [] zS0 h' (zQv zS0 K)) → RR mX12_walks 0 0 169 [some (.ref 81), some (.int (zI minute)), some (.int (zI bag)), some (.int (zI (w 22 8))), some (.int (zI v4)), some (.int (zI i)), some (.int (zI way)), some (.int (zI k)), none] [] zS0 h (zQv zS0 K) := by
  intro n
  induction n with
  | zero =>
    intro T G k h w hk hn hT hGn hG hM ok hN w14 w15 kk
    have hz := hW.1
    have n2 := (hW.2 i hi.1 hi.2).2
    have s2 := (hG.2.2.2.1 i hi.1 hi.2).2
    refine bX12_walks_169 ⟨⟨by omega, by omega⟩, ⟨by omega, by omega⟩, ?_⟩
    rw [s2]
    refine ⟨⟨by omega, by omega⟩, fun _ => ?_, fun c => absurd (by omega) c⟩
    exact kk h w rfl hM hN w14 w15 (gFm.rf h)
  | succ n ih =>
    intro T G k h w hk hn hT hGn hG hM ok hN w14 w15 kk
    have hz := hW.1
    have n2 := (hW.2 i hi.1 hi.2).2
    have s2 := (hG.2.2.2.1 i hi.1 hi.2).2
    have hp := ok.1
    have h5 := ok.2.2.2.2.1
    have h4 := ok.2.2.2.1
    have h2 := ok.2.1
    have m3 := hM.2.2.2.1
    have m0 := hM.1
    have m2 := hM.2.2.1
    unfold gSteps at kk
    refine bX12_walks_169 ⟨⟨by omega, by omega⟩, ⟨by omega, by omega⟩, ?_⟩
    rw [s2, m3]
    refine ⟨⟨by omega, by omega⟩, fun c => absurd c (by omega), fun _ => ⟨⟨by omega, by omega⟩, fun c => ?_, fun c => ?_⟩⟩
    · rw [if_neg c] at kk
      exact kk h w rfl hM hN w14 w15 (gFm.rf h)
    · rw [if_pos c] at kk
      refine sX12_nextOf hG.1 hp hw ?_
      have hs := gStep_is (R := a 4) (way := way) hp hN
      have ok2 : gOk (T + 2) (G + 1) (gStep (a 0) (a 4) way w) := gOk_step hR ok
      have hN2 : zHN (a 0) (gStep (a 0) (a 4) way w) := zHN_step hp hN
      have h14 := gStep_14 (Kd := a 0) (R := a 4) (way := way) (w := w)
      generalize hxe : zNx (a 0) (w 22 8) way = x at hs
      have hxR : x = -4 ∨ (0 ≤ x ∧ x < 36) := by
        rcases zNx_R (Kd := a 0) (way := way) hp with z | z <;> omega
      refine ⟨⟨by omega, by omega⟩, fun c1 => ?_, fun c1 => ?_⟩
      · have hx : 0 ≤ x ∧ x < 36 := by omega
        rw [if_pos hx.1] at hs
        refine sX12_minutesOf hG.1 hx hw ?_
        have hm : (if way = 0 ∧ (a 0) x = 1 then h 88 2 else 1) = zMn (a 0) (a 4) way x := by
          unfold zMn
          rw [hG.2.1 2 (by omega) (by omega)]
        rw [hm, m0, m2]
        refine ⟨⟨by omega, by omega⟩, ?_⟩
        have hM1 := hM.on (x := x) (y := x) (m := w 22 2 + zMn (a 0) (a 4) way x) h4.1
        have hF1 := (((gFm.rf h).up (o := 93) (k := 0) (x := w 22 2 + zMn (a 0) (a 4) way x) (Or.inl rfl)).up (o := 93) (k := 2) (x := w 22 4 + 1) (Or.inl rfl)).up (o := 96) (k := w 22 4 + 1) (x := x) (Or.inr (Or.inr (Or.inr rfl)))
        have okOn : gOk (T + 1) (G + 1) (gOn (a 0) (a 4) way x w) := by
          have := gOk_go (way := way) (Kd := fun _ => 0) (R := a 4) (x := x) hR ok hx
          have hmn := zMn_R (Kd := a 0) hR way x
          obtain ⟨b1, b2, b3, b4, b5, b6, b7, b8, b9, b10, b11, b12, b13, b14, b15⟩ := ok
          unfold gOn
          refine ⟨?_, ?_, ?_, ?_, ?_, ?_, ?_, ?_, ?_, ?_, ?_, ?_, ?_, ?_, ?_⟩
          all_goals first | (simp [zU]; done) | (simp [zU]; omega) | skip
          all_goals (intro i hi0 hi1; have := b15 i hi0 hi1; simpa [zU] using this)
        have hNOn : zHN (a 0) (gOn (a 0) (a 4) way x w) := by
          intro j j0 j1 j2
          have := hN j j0 j1 j2
          simpa [gOn, zU] using this
        refine sX12_isThere (w := gOn (a 0) (a 4) way x w) (hG.fr hF1) hR hM1 okOn (by omega) hw (by simp [gOn, zU]) hNOn (by simp [gOn, zU, w14]) (by simp [gOn, zU, w15]) (fun h' hM' hF' => ?_)
        rw [← hs] at hM'
        have hx8 : (gStep (a 0) (a 4) way w) 22 8 = x := by
          rw [hs]
          unfold gThere gMeet
          (repeat' split) <;> simp [gOn, zU]
        have key := ih (T + 2) (G + 1) (k + 1) h' (gStep (a 0) (a 4) way w) (by omega) (by omega) (by omega) (by omega) ((hG.fr hF1).fr hF') hM' ok2 hN2 (by rw [h14.1, w14]) (by rw [h14.2, w15]) (fun h2 w2 z1 z2 z3 z4 z5 z6 => kk h2 w2 z1 z2 z3 z4 z5 ((hF1.trans hF').trans z6))
        rw [hx8] at key
        exact key
      · have hx : ¬ 0 ≤ x := by omega
        rw [if_neg hx] at hs
        have hM1 := hM.stop
        rw [← hs] at hM1
        have hF1 := (gFm.rf h).up (o := 93) (k := 3) (x := 1) (Or.inl rfl)
        have hx8 : (gStep (a 0) (a 4) way w) 22 8 = w 22 8 := by
          rw [hs]
          simp [zU]
        have key := ih (T + 2) (G + 1) (k + 1) _ (gStep (a 0) (a 4) way w) (by omega) (by omega) (by omega) (by omega) (hG.fr hF1) hM1 ok2 hN2 (by rw [h14.1, w14]) (by rw [h14.2, w15]) (fun h2 w2 z1 z2 z3 z4 z5 z6 => kk h2 w2 z1 z2 z3 z4 z5 (hF1.trans z6))
        rw [hx8] at key
        exact key
theorem walks_out {a : zMm} {K : zMm → Prop} {minute bag : Int} (hR : zRu (a 4)) (hW : zMW a) : ∀ (n : Nat) (i look : Int) (h w : zMm), 0 ≤ i → i + n = a 7 0 → zGm a h → gMG h w → gOk (11 * i) (5 * i) w → zHN (a 0) w → w 22 14 = minute → w 22 15 = bag → (∀ (h' w' : zMm), w' = gMoves (a 0) (a 4) (a 5) (a 6) n i look w → gMG h' w' → gFm h h' → K (zU h' 93 6 (w' 22 8))) → RR mX12_walks 0 0 85 [some (.ref 81), some (.int (zI minute)), some (.int (zI bag)), some (.int (zI (w 22 8))), some (.int (zI look)), some (.int (zI i)), none, none, none] [] zS0 h (zQv zS0 K) := by
  intro n
  induction n with
  | zero =>
    intro i look h w hi hn hG hM ok hN w14 w15 kk
    have hz := hW.1
    have hs := hG.2.2.1
    refine bX12_walks_85 ⟨⟨by omega, by omega⟩, ⟨by omega, by omega⟩, fun _ => kk h w rfl hM (gFm.rf h), fun c => absurd (by omega) c⟩
  | succ n ih =>
    intro i look h w hi hn hG hM ok hN w14 w15 kk
    have hz := hW.1
    have hs := hG.2.2.1
    obtain ⟨n1, n2⟩ := hW.2 i hi (by omega)
    obtain ⟨s1, s2⟩ := hG.2.2.2.1 i hi (by omega)
    have h5 := ok.2.2.2.2.1
    have m3 := hM.2.2.2.1
    have m0 := hM.1
    have m7 := hM.2.2.2.2.2.2.1
    unfold gMoves at kk
    refine bX12_walks_85 ⟨⟨by omega, by omega⟩, ⟨by omega, by omega⟩, fun c => absurd c (by omega), fun _ => ⟨⟨by omega, by omega⟩, fun c => ?_, fun c => ⟨⟨by omega, by omega⟩, ?_⟩⟩⟩
    · rw [if_neg (by omega)] at kk
      exact kk h w rfl hM (gFm.rf h)
    · rw [if_pos (by omega)] at kk
      rw [s1, m7]
      refine sX12_quarters (sX12_quarters ?_)
      have e0 : (zU h 93 7 (w 22 9 + zQ look (a 5 i))) 88 1 = a 4 1 := by
        rw [← hG.2.1 1 (by omega) (by omega)]
        simp [zU]
      rw [e0, m0]
      have hF2 := ((gFm.rf h).up (o := 93) (k := 7) (x := w 22 9 + zQ look (a 5 i)) (Or.inl rfl)).up (o := 93) (k := 0) (x := w 22 2 + zQ look (a 5 i) * a 4 1) (Or.inl rfl)
      have hM2 := hM.turn (R := a 4) (look := look) (way := a 5 i)
      have okT : gOk (11 * i + 1) (5 * i) (gTurn (a 4) look (a 5 i) w) := gOk_turn hR ok
      have hNT : zHN (a 0) (gTurn (a 4) look (a 5 i) w) := by
        intro j j0 j1 j2
        have := hN j j0 j1 j2
        simpa [gTurn, zU] using this
      have t8 : (gTurn (a 4) look (a 5 i) w) 22 8 = w 22 8 := by simp [gTurn, zU]
      have key := walks_in (K := K) (v4 := a 5 i) (minute := minute) (bag := bag) hR hW n1 ⟨hi, by omega⟩ (a 6 i).toNat (11 * i + 1) (5 * i) 0 _ (gTurn (a 4) look (a 5 i) w) (by omega) (by omega) (by omega) (by omega) (hG.fr hF2) hM2 okT hNT (by simp [gTurn, zU, w14]) (by simp [gTurn, zU, w15]) (fun h' w' e z1 z2 z3 z4 z5 => by
        have okS : gOk (11 * (i + 1)) (5 * (i + 1)) w' := by
          rw [e]
          exact (gOk_steps hR _ _ _ _ okT).mono (by omega) (by omega)
        exact ih (i + 1) (a 5 i) h' w' (by omega) (by omega) ((hG.fr hF2).fr z5) z1 okS z2 z3 z4 (fun h2 w2 y0 y1 y2 => kk h2 w2 (by rw [y0, e]) y1 ((hF2.trans z5).trans y2)))
      rw [t8] at key
      exact key
def zLd (h : zMm) (n : Int) : zMm := fun o b => if o = 94 ∧ 0 ≤ b ∧ b < n then h 92 (36 + b) else if o = 95 ∧ 0 ≤ b ∧ b < n then h 92 (72 + b) else h o b
theorem zLd_step (h : zMm) (n : Int) (hn : 0 ≤ n) : zU (zU (zLd h n) 94 n ((zLd h n) 92 (36 + n))) 95 n ((zLd h n) 92 (72 + n)) = zLd h (n + 1) := by
  have e : (zLd h n) 92 = h 92 := by
    funext b
    simp [zLd]
  rw [e]
  funext o b
  simp only [zU_at, zLd]
  by_cases c1 : o = 95 ∧ b = n
  · rw [if_pos c1, if_neg (by omega), if_pos (by omega), c1.2]
  · rw [if_neg c1]
    by_cases c2 : o = 94 ∧ b = n
    · rw [if_pos c2, if_pos (by omega), c2.2]
    · rw [if_neg c2]
      by_cases c3 : o = 94 ∧ 0 ≤ b ∧ b < n
      · rw [if_pos c3, if_pos (by omega)]
      · rw [if_neg c3]
        by_cases c4 : o = 95 ∧ 0 ≤ b ∧ b < n
        · rw [if_pos c4, if_neg (by omega), if_pos (by omega)]
        · rw [if_neg c4, if_neg (by omega), if_neg (by omega)]
theorem sX12_walks {a h : zMm} {K : zMm → Prop} {minute bag : Int} (hR : zRu (a 4)) (hW : zMW a) (hHW : zHW a) (hN : ∀ i : Int, 0 ≤ i → i < 36 → 1 < a 0 i → a 1 i = 0) (hG : zGm a h) (hm : 0 ≤ minute ∧ minute ≤ 999) (hb : 0 ≤ bag ∧ bag ≤ 2160) (hK : ∀ h', gMG h' (gW a minute bag) → h' 93 6 = gW a minute bag 22 8 → gFm h h' → K h') : zCv mX12_walks [.ref 81, .int (zI minute), .int (zI bag)] zS0 h K := by
  refine wX12_walks ?_
  have k2 : ∀ (n : Nat) (i : Int), 0 ≤ i → i + n = 36 → RR mX12_walks 0 0 23 [some (.ref 81), some (.int (zI minute)), some (.int (zI bag)), some (.int (zI i)), none, none, none, none, none] [] zS0 (zLd (zFi h 93 10 0) i) (zQv zS0 K) := by
    intro n
    induction n with
    | zero =>
      intro i h0 h1
      have e : i = 36 := by omega
      subst e
      refine bX12_walks_23 ⟨⟨by omega, by omega⟩, fun _ => ?_, fun c => absurd (by omega) c⟩
      have e88 : (zLd (zFi h 93 10 0) 36) 88 0 = a 4 0 := by
        rw [← hG.2.1 0 (by omega) (by omega)]
        simp [zLd, zFi]
      rw [e88]
      have hF : gFm h (zU (zLd (zFi h 93 10 0) 36) 96 0 (a 4 0)) := by
        intro o c1 c2 c3 c4
        funext b
        simp [zU, zLd, zFi, c1, c2, c3, c4]
      have hM : gMG (zU (zLd (zFi h 93 10 0) 36) 96 0 (a 4 0)) (gW0 a minute bag) := by
        refine ⟨?_, ?_, ?_, ?_, ?_, ?_, ?_, ?_, ?_, ?_, ?_⟩
        all_goals first | (simp [zU, zLd, zFi, gW0]; done) | skip
        · intro i hi0 hi1
          obtain ⟨g1, g2⟩ := hG.2.2.2.2 i hi0 hi1
          simp [zU, zLd, zFi, gW0, hi0, hi1, g1, g2]
        · intro i hi0 hi1
          have : i = 0 := by
            have : i ≤ 0 := by simpa [gW0] using hi1
            omega
          subst this
          simp [zU, gW0]
      have ok := gOk_0 (minute := minute) (bag := bag) hR hHW hm hb
      have key := walks_out (K := K) (minute := minute) (bag := bag) hR hW (a 7 0).toNat 0 0 _ (gW0 a minute bag) (by omega) (by have := hW.1; omega) (hG.fr hF) hM (ok.mono (by omega) (by omega)) (by intro i i0 i1 i2; simpa [gW0] using hN i i0 i1 i2) (by simp [gW0]) (by simp [gW0]) (fun h' w' e z1 z2 => by
        have e2 : w' = gW a minute bag := e
        rw [e2] at z1 ⊢
        refine hK _ ?_ (by simp [zU]) ((hF.trans z2).up (Or.inl rfl))
        obtain ⟨m0, m1, m2, m3, m4, m5, m7, m8, m9, mh, mp⟩ := z1
        refine ⟨?_, ?_, ?_, ?_, ?_, ?_, ?_, ?_, ?_, ?_, ?_⟩ <;> first | (simpa [zU] using m0) | (simpa [zU] using m1) | (simpa [zU] using m2) | (simpa [zU] using m3) | (simpa [zU] using m4) | (simpa [zU] using m5) | (simpa [zU] using m7) | (simpa [zU] using m8) | (simpa [zU] using m9) | (simpa [zU] using mh) | (simpa [zU] using mp))
      have e8 : (gW0 a minute bag) 22 8 = a 4 0 := by simp [gW0]
      rw [e8] at key
      exact key
    | succ n ih =>
      intro i h0 h1
      refine bX12_walks_23 ⟨⟨by omega, by omega⟩, fun c => absurd c (by omega), fun _ => ⟨⟨by omega, by omega⟩, ⟨by omega, by omega⟩, ⟨by omega, by omega⟩, ?_⟩⟩
      rw [zLd_step _ _ h0]
      exact ih (i + 1) (by omega) (by omega)
  have k1 : ∀ (n : Nat) (i : Int), 0 ≤ i → i + n = 10 → RR mX12_walks 0 0 2 [some (.ref 81), some (.int (zI minute)), some (.int (zI bag)), some (.int (zI i)), none, none, none, none, none] [] zS0 (zFi h 93 i 0) (zQv zS0 K) := by
    intro n
    induction n with
    | zero =>
      intro i h0 h1
      have e : i = 10 := by omega
      subst e
      refine bX12_walks_2 ⟨⟨by omega, by omega⟩, fun _ => ?_, fun c => absurd (by omega) c⟩
      have e : zLd (zFi h 93 10 0) 0 = zFi h 93 10 0 := by
        funext o b
        unfold zLd
        rw [if_neg (by omega), if_neg (by omega)]
      have := k2 36 0 (by omega) (by omega)
      rw [e] at this
      exact this
    | succ n ih =>
      intro i h0 h1
      refine bX12_walks_2 ⟨⟨by omega, by omega⟩, fun c => absurd c (by omega), fun _ => ⟨⟨by omega, by omega⟩, ?_⟩⟩
      rw [zFi_step _ _ _ _ h0]
      exact ih (i + 1) (by omega) (by omega)
  have := k1 10 0 (by omega) (by omega)
  rw [zFi_0] at this
  exact this
