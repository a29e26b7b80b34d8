/-! THE WALK, the class's: all MOVES -/
def zMA (a h : zMm) : Prop := h 16 2 = a 7 0 ∧ ∀ i : Int, 0 ≤ i → i < a 7 0 → h 17 i = a 5 i ∧ h 18 i = a 6 i
def zMW (a : zMm) : Prop := (0 ≤ a 7 0 ∧ a 7 0 ≤ 24) ∧ ∀ i : Int, 0 ≤ i → i < a 7 0 → (0 ≤ a 5 i ∧ a 5 i ≤ 3) ∧ (1 ≤ a 6 i ∧ a 6 i ≤ 5)
def zHA (a h : zMm) : Prop := ∀ i : Int, 0 ≤ i → i < 36 → h 12 i = a 1 i ∧ h 14 i = a 3 i
def zHW (a : zMm) : Prop := ∀ i : Int, 0 ≤ i → i < 36 → 0 ≤ a 1 i ∧ a 1 i ≤ 60
theorem zMA.fr {a h h' : zMm} (hG : zMA a h) (hF : gFr h h') : zMA a h' := by
  unfold zMA
  rw [hF 16 (by decide) (by decide) (by decide), hF 17 (by decide) (by decide) (by decide), hF 18 (by decide) (by decide) (by decide)]
  exact hG
theorem sX5_wayOf {S : zSh} {h : zMm} {K : Int → zMm → Prop} {o0 : Nat} {v1 : Int} (hg0 : zM5 S o0) (hs : 0 ≤ h o0 2 ∧ h o0 2 ≤ 24) (r1 : zR v1) (w : K (if 0 ≤ v1 ∧ v1 < h o0 2 then h (o0 + 1) v1 else -1) h) : zCi mX5_wayOf [.ref o0, .int (zI v1)] S h K := by
  refine wX5_wayOf hg0 (sX11_isWithin r1 (by decide) ⟨by omega, by omega⟩ ?_)
  simp only [decide_eq_true_eq, decide_eq_false_iff_not]
  refine ⟨fun c => ?_, fun c => ⟨by omega, ?_⟩⟩
  · rw [if_neg (by omega)] at w; exact w
  · rw [if_pos (by omega)] at w; exact w
theorem sX5_stepsOf {S : zSh} {h : zMm} {K : Int → zMm → Prop} {o0 : Nat} {v1 : Int} (hg0 : zM5 S o0) (hs : 0 ≤ h o0 2 ∧ h o0 2 ≤ 24) (r1 : zR v1) (w : K (if 0 ≤ v1 ∧ v1 < h o0 2 then h (o0 + 2) v1 else -1) h) : zCi mX5_stepsOf [.ref o0, .int (zI v1)] S h K := by
  refine wX5_stepsOf hg0 (sX11_isWithin r1 (by decide) ⟨by omega, by omega⟩ ?_)
  simp only [decide_eq_true_eq, decide_eq_false_iff_not]
  refine ⟨fun c => ?_, fun c => ⟨by omega, ?_⟩⟩
  · rw [if_neg (by omega)] at w; exact w
  · rw [if_pos (by omega)] at w; exact w
theorem gAG_0 {a h : zMm} {minute bag : Int} (hG : zGA a h) (hH : zHA a h) {h' : zMm} (e : h' = zU (zU (zU (zU (zU (zU (zU (zU (zU (zU (zU (zU (zU (zCp (zCp h 12 23 36) 14 24 36) 22 2 0) 22 3 0) 22 4 0) 22 5 0) 22 6 0) 22 7 0) 22 8 (a 4 0)) 22 9 0) 22 10 0) 22 11 0) 22 12 0) 22 13 (-1)) 22 14 minute) : gAG (zU h' 22 15 bag) (gW0 a minute bag) ∧ gFr h (zU h' 22 15 bag) := by
  subst e
  refine ⟨⟨fun f h1 h2 => ?_, fun i h1 h2 => ?_⟩, fun o c1 c2 c3 => ?_⟩
  · rcases (show f = 2 ∨ f = 3 ∨ f = 4 ∨ f = 5 ∨ f = 6 ∨ f = 7 ∨ f = 8 ∨ f = 9 ∨ f = 10 ∨ f = 11 ∨ f = 12 ∨ f = 13 ∨ f = 14 ∨ f = 15 by omega) with z | z | z | z | z | z | z | z | z | z | z | z | z | z <;> subst z <;> simp [zU, gW0]
  · obtain ⟨g1, g2⟩ := hH i h1 h2
    simp [zU, zCp, gW0, g1, g2, h1, h2]
  · funext b
    simp [zU, zCp, c1, c2, c3]
theorem gOk_0 {a : zMm} {minute bag : Int} (hR : zRu (a 4)) (hH : zHW a) (hm : 0 ≤ minute ∧ minute ≤ 999) (hb : 0 ≤ bag ∧ bag ≤ 2160) : gOk 0 0 (gW0 a minute bag) := by
  obtain ⟨h0, -⟩ := hR
  unfold gOk gW0
  simp
  exact ⟨by omega, hm, hb, hH⟩
theorem follow_in {a : zMm} {K : zMm → Prop} {way : Int} {v6 : Int} (hR : zRu (a 4)) (hw : 0 ≤ way ∧ way ≤ 3) : ∀ (n : Nat) (T G : Int) (h w : zMm), n ≤ 5 → T + 2 * n ≤ 800 → zGA a h → gAG h w → gOk T G w → (∀ h', gAG h' (gSteps (a 0) (a 4) way n w) → gFr h h' → RR mX10_follow 0 0 14 [some (.ref 22), some (.ref 10), some (.ref 16), none, none, some (.int (zI way)), some (.int (zI (v6 + 1))), none, none, none] [] zS0 h' (zQv zS0 K)) → RR mX10_follow 0 0 87 [some (.ref 22), some (.ref 10), some (.ref 16), none, none, some (.int (zI way)), some (.int (zI v6)), some (.int (zI way)), none, some (.int (zI (n : Int)))] [] zS0 h (zQv zS0 K) := by
  intro n
  induction n with
  | zero =>
    intro T G h w hn hT hG hA ok hk
    have e5 := hA.1 5 (by omega) (by omega)
    have h5 := ok.2.2.2.2.1
    refine bX10_follow_87 ⟨⟨by omega, by omega⟩, ⟨by omega, by omega⟩, fun _ => hk h hA (gFr.rf h), fun c => absurd (by omega) c⟩
  | succ n ih =>
    intro T G h w hn hT hG hA ok hk
    have e5 := hA.1 5 (by omega) (by omega)
    have h5 := ok.2.2.2.2.1
    unfold gSteps at hk
    refine bX10_follow_87 ⟨⟨by omega, by omega⟩, ⟨by omega, by omega⟩, fun c => absurd c (by omega), fun _ => ⟨fun c => ?_, fun c => ?_⟩⟩
    · rw [if_neg (by omega)] at hk
      exact hk h hA (gFr.rf h)
    · rw [if_pos (by omega)] at hk
      refine sX10_goStep hG hR hA ok (by omega) hw (fun h' hA' hF' => ?_)
      have e : (((n + 1 : Nat) : Int) + (-1)) = (n : Int) := by omega
      rw [e]
      exact ih (T + 2) (G + 1) h' _ (by omega) (by omega) (hG.fr hF') hA' (gOk_step hR ok) (fun h2 z1 z2 => hk h2 z1 (hF'.trans z2))
theorem follow_out {a : zMm} {K : zMm → Prop} (hR : zRu (a 4)) (hW : zMW a) : ∀ (n : Nat) (i look : Int) (h w : zMm), 0 ≤ i → i + n = a 7 0 → zGA a h → zMA a h → gAG h w → gOk (11 * i) (5 * i) w → (∀ h', gAG h' (gMoves (a 0) (a 4) (a 5) (a 6) n i look w) → gFr h h' → K h') → RR mX10_follow 0 0 14 [some (.ref 22), some (.ref 10), some (.ref 16), none, none, some (.int (zI look)), some (.int (zI i)), none, none, none] [] zS0 h (zQv zS0 K) := by
  intro n
  induction n with
  | zero =>
    intro i look h w hi hn hG hM hA ok hk
    have e5 := hA.1 5 (by omega) (by omega)
    have h5 := ok.2.2.2.2.1
    have hs := hM.1
    have hz := hW.1
    refine bX10_follow_14 ⟨⟨by omega, by omega⟩, ⟨by omega, by omega⟩, ⟨by omega, by omega⟩, fun _ => hk h hA (gFr.rf h), fun c => absurd (by omega) c⟩
  | succ n ih =>
    intro i look h w hi hn hG hM hA ok hk
    have e5 := hA.1 5 (by omega) (by omega)
    have e9 := hA.1 9 (by omega) (by omega)
    have e2 := hA.1 2 (by omega) (by omega)
    have h5 := ok.2.2.2.2.1
    have hs := hM.1
    have hz := hW.1
    obtain ⟨m1, m2⟩ := hM.2 i hi (by omega)
    obtain ⟨n1, n2⟩ := hW.2 i hi (by omega)
    unfold gMoves at hk
    refine bX10_follow_14 ⟨⟨by omega, by omega⟩, ⟨by omega, by omega⟩, ⟨by omega, by omega⟩, fun c => absurd c (by omega), fun _ => ⟨fun c => ?_, fun c => ?_⟩⟩
    · rw [if_neg (by omega)] at hk
      exact hk h hA (gFr.rf h)
    · rw [if_pos (by omega)] at hk
      refine sX5_wayOf m0_16 (by omega) ⟨by omega, by omega⟩ ?_
      rw [if_pos (by omega), show h (16 + 1) i = a 5 i from m1]
      refine sX11_quartersBetween ?_
      rw [e9, e2]
      have hF1 := (gFr.rf h).up (o := 22) (k := 9) (x := w 22 9 + zQ look (a 5 i)) (Or.inl rfl)
      have hA1 := hA.f 9 (w 22 9 + zQ look (a 5 i))
      refine sX3_told g0_10 (by omega) ?_
      have r1 : (zU h 22 9 (w 22 9 + zQ look (a 5 i))) (10 + 5) 1 = a 4 1 := (congrFun (hF1 15 (by decide) (by decide) (by decide)) 1).trans (hG.2 1 (by omega) (by omega))
      rw [r1]
      have hF2 := hF1.up (o := 22) (k := 2) (x := w 22 2 + zQ look (a 5 i) * a 4 1) (Or.inl rfl)
      have hA2 := hA1.f 2 (w 22 2 + zQ look (a 5 i) * a 4 1)
      have hM2 := hM.fr hF2
      refine sX5_stepsOf m0_16 (by rw [hM2.1]; omega) ⟨by omega, by omega⟩ ?_
      rw [hM2.1, if_pos (by omega), show (zU (zU h 22 9 (w 22 9 + zQ look (a 5 i))) 22 2 (w 22 2 + zQ look (a 5 i) * a 4 1)) (16 + 2) i = a 6 i from (hM2.2 i hi (by omega)).2]
      have en : a 6 i = (((a 6 i).toNat : Nat) : Int) := by omega
      have okT : gOk (11 * i + 1) (5 * i) (gTurn (a 4) look (a 5 i) w) := gOk_turn hR ok
      have key := follow_in (K := K) (v6 := i) hR n1 (a 6 i).toNat (11 * i + 1) (5 * i) _ (gTurn (a 4) look (a 5 i) w) (by omega) (by omega) (hG.fr hF2) hA2 okT (fun h' z1 z2 => ih (i + 1) (a 5 i) h' _ (by omega) (by omega) ((hG.fr hF2).fr z2) (hM2.fr z2) z1 ((gOk_steps hR _ _ _ _ okT).mono (by omega) (by omega)) (fun h2 y1 y2 => hk h2 y1 ((hF2.trans z2).trans y2)))
      rw [← en] at key
      exact key
theorem sX10_follow {a h : zMm} {K : zMm → Prop} {minute bag : Int} (hR : zRu (a 4)) (hW : zMW a) (hHW : zHW a) (hG : zGA a h) (hM : zMA a h) (hH : zHA a h) (hm : 0 ≤ minute ∧ minute ≤ 999) (hb : 0 ≤ bag ∧ bag ≤ 2160) (hK : ∀ h', gAG h' (gW a minute bag) → gFr h h' → K h') : zCv mX10_follow [.ref 22, .ref 10, .ref 16, .int (zI minute), .int (zI bag)] zS0 h K := by
  refine wX10_follow (wX10_startAnew (sX3_told g0_10 (by omega) ?_))
  generalize e0 : (zU (zU (zU (zU (zU (zU (zCp (zCp h 12 23 36) 14 24 36) 22 2 0) 22 3 0) 22 4 0) 22 5 0) 22 6 0) 22 7 0) = h0
  have r0 : h0 (10 + 5) 0 = a 4 0 := by
    rw [← hG.2 0 (by omega) (by omega), ← e0]
    simp [zU, zCp]
  rw [r0]
  obtain ⟨g1, g2⟩ := gAG_0 (minute := minute) (bag := bag) hG hH rfl
  rw [e0] at g1 g2
  exact follow_out hR hW (a 7 0).toNat 0 0 _ (gW0 a minute bag) (by omega) (by have := hW.1; omega) (hG.fr g2) (hM.fr g2) g1 ((gOk_0 hR hHW hm hb).mono (by omega) (by omega)) (fun h' z1 z2 => hK h' z1 (g2.trans z2))
/-- the whole walk's bounds -/
theorem gOk_moves {a : zMm} (hR : zRu (a 4)) (hW : zMW a) : ∀ (n : Nat) (i look : Int) (w : zMm), 0 ≤ i → i + n = a 7 0 → gOk (11 * i) (5 * i) w → gOk 264 120 (gMoves (a 0) (a 4) (a 5) (a 6) n i look w) := by
  intro n
  induction n with
  | zero =>
    intro i look w hi hn ok
    have := hW.1
    exact ok.mono (by omega) (by omega)
  | succ n ih =>
    intro i look w hi hn ok
    have hz := hW.1
    obtain ⟨n1, n2⟩ := hW.2 i hi (by omega)
    unfold gMoves
    split
    · exact ih (i + 1) _ _ (by omega) (by omega) ((gOk_steps hR _ _ _ _ (gOk_turn hR ok)).mono (by omega) (by omega))
    · exact ok.mono (by omega) (by omega)
theorem gOk_W {a : zMm} {minute bag : Int} (hR : zRu (a 4)) (hW : zMW a) (hHW : zHW a) (hm : 0 ≤ minute ∧ minute ≤ 999) (hb : 0 ≤ bag ∧ bag ≤ 2160) : gOk 264 120 (gW a minute bag) := by
  have hz := hW.1
  exact gOk_moves hR hW _ _ _ _ (by omega) (by omega) ((gOk_0 hR hHW hm hb).mono (by omega) (by omega))
