/-! LEAST: the class follows it, keeps it -/
theorem sX4_mF {Kd R : Int → Int} {h : zMm} {K : Int → zMm → Prop} {k : Nat} {c l : Int} (hR : zRu R) (hG : lRk Kd 36 ≤ 7) (L : cLd Kd R h) (hd : lDo Kd (k : Int) c l) (hs : k ||| nb Kd (R 0) = k) (w : K (lM Kd R (k : Int) c l) h) : zCi mX4_minutesFrom [.ref 31, .int (zI (c * 4 + l)), .int (zI (k : Int))] zS0 h K := by
  obtain ⟨P, C, Fa, Re, z⟩ := L
  obtain ⟨k', ek, d2, d3, d4, d5⟩ := id hd
  obtain rfl : k = k' := by omega
  refine sX4_minutesFrom hR hG C Fa hd (fun t t0 t1 q => Re _ (nA_or d2 (nb_le (lTg_of C t t0 t1).1)) ?_) w
  rw [Nat.or_assoc, Nat.or_comm (nb Kd (h 41 t)), ← Nat.or_assoc, hs]
theorem sX4_firstWay {Kd R : Int → Int} {h : zMm} {K : Int → zMm → Prop} {k : Nat} {c l : Int} (hR : zRu R) (hG : lRk Kd 36 ≤ 7) (L : cLd Kd R h) (hd : lDo Kd (k : Int) c l) (hs : k ||| nb Kd (R 0) = k) (hm : ¬ (k : Int) = lAll Kd) (hf : lM Kd R (k : Int) c l < 1000000) (w : K (lFw Kd R (k : Int) c l) h) : zCi mX4_firstWay [.ref 31, .int (zI (c * 4 + l)), .int (zI (k : Int))] zS0 h K := by
  obtain ⟨f1, f2, f3, f4⟩ := lFw_ok hR hm hf
  obtain ⟨k', ek, d2, d3, d4, d5⟩ := id hd
  obtain rfl : k = k' := by omega
  have C := L.2.1
  have m0 := lM_R (Kd := Kd) hR (k : Int) c l
  refine wX4_firstWay (sX4_mF hR hG L hd hs ?_)
  have lp : ∀ (n : Nat) (v : Int), 0 ≤ v → v + (n : Int) = lFw Kd R (k : Int) c l → RR mX4_firstWay 0 0 10 [some (.ref 31), some (.int (zI (c * 4 + l))), some (.int (zI (k : Int))), some (.int (zI (lM Kd R (k : Int) c l))), some (.int (zI v)), none, none] [] zS0 h (zQi zS0 K) := by
    intro n
    induction n with
    | zero =>
      intro v v0 hv
      obtain rfl : v = lFw Kd R (k : Int) c l := by omega
      refine bX4_firstWay_10 ⟨⟨by omega, by omega⟩, fun z => absurd z (by omega), fun _ => ⟨⟨by omega, by omega⟩, ?_⟩⟩
      rw [show (c * 4 + l) % 4 = l by omega, show c * 4 + l - l + lFw Kd R (k : Int) c l = c * 4 + lFw Kd R (k : Int) c l by omega, (C.2.2.1 c _ d3.1 d3.2.1 f1.1 f1.2 (by omega)).1]
      rcases zNx_R (Kd := Kd) (way := lFw Kd R (k : Int) c l) (show 0 ≤ c ∧ c < 36 from ⟨d3.1, d3.2.1⟩) with e | ⟨e1, e2, e3⟩
      · omega
      · have st := hd.m.step hG f1 f2
        rw [nA_bt hG d2 ⟨e1, e2⟩] at st f3
        have m1 := lM_R (Kd := Kd) hR ((k ||| nb Kd (zNx Kd c (lFw Kd R (k : Int) c l)) : Nat) : Int) (zNx Kd c (lFw Kd R (k : Int) c l)) (lFw Kd R (k : Int) c l)
        have hco := lCo_R (Kd := Kd) hR c l (lFw Kd R (k : Int) c l)
        refine ⟨⟨by omega, by omega⟩, ⟨by omega, by omega⟩, fun z => absurd z (by omega), fun _ => ⟨⟨e1, e2⟩, ?_⟩⟩
        rw [C.2.2.2.2.1 _ e1 e2, nA_bt hG d2 ⟨e1, e2⟩]
        refine sX4_mF hR hG L st ?_ (sX4_minutesToGo C ⟨d3.1, d3.2.1⟩ d4 f1 f2 ⟨⟨by omega, by omega⟩, ⟨by omega, by omega⟩, fun z => absurd f3 z, fun _ => w⟩)
        rw [Nat.or_assoc, Nat.or_comm (nb Kd (zNx Kd c _)), ← Nat.or_assoc, hs]
    | succ n ih =>
      intro v v0 hv
      have f4' := f4 v v0 (by omega)
      refine bX4_firstWay_10 ⟨⟨by omega, by omega⟩, fun z => absurd z (by omega), fun _ => ⟨⟨by omega, by omega⟩, ?_⟩⟩
      rw [show (c * 4 + l) % 4 = l by omega, show c * 4 + l - l + v = c * 4 + v by omega, (C.2.2.1 c v d3.1 d3.2.1 v0 (by omega) (by omega)).1]
      rcases zNx_R (Kd := Kd) (way := v) (show 0 ≤ c ∧ c < 36 from ⟨d3.1, d3.2.1⟩) with e | ⟨e1, e2, e3⟩
      · refine ⟨⟨by omega, by omega⟩, ⟨by omega, by omega⟩, fun _ => ih (v + 1) (by omega) (by omega), fun z => absurd z (by omega)⟩
      · have st := hd.m.step hG ⟨v0, by omega⟩ e1
        rw [nA_bt hG d2 ⟨e1, e2⟩] at st f4'
        have m1 := lM_R (Kd := Kd) hR ((k ||| nb Kd (zNx Kd c v) : Nat) : Int) (zNx Kd c v) v
        have hco := lCo_R (Kd := Kd) hR c l v
        refine ⟨⟨by omega, by omega⟩, ⟨by omega, by omega⟩, fun z => absurd z (by omega), fun _ => ⟨⟨e1, e2⟩, ?_⟩⟩
        rw [C.2.2.2.2.1 _ e1 e2, nA_bt hG d2 ⟨e1, e2⟩]
        refine sX4_mF hR hG L st ?_ (sX4_minutesToGo C ⟨d3.1, d3.2.1⟩ d4 ⟨v0, by omega⟩ e1 ⟨⟨by omega, by omega⟩, ⟨by omega, by omega⟩, fun _ => ih (v + 1) (by omega) (by omega), fun z => absurd ⟨e1, z⟩ f4'⟩)
        rw [Nat.or_assoc, Nat.or_comm (nb Kd (zNx Kd c _)), ← Nat.or_assoc, hs]
  exact lp (lFw Kd R (k : Int) c l).toNat 0 (Int.le_refl _) (by omega)
theorem sS_seen {Kd R : Int → Int} (hR : zRu R) (hG : lRk Kd 36 ≤ 7) (h0 : ¬ Kd (R 0) = 2) (hf : lMin Kd R < 1000000) : ∀ s : Nat, ∃ k : Nat, sM Kd R s = (k : Int) ∧ k ||| nb Kd (R 0) = k := by
  have hr0 : 0 ≤ R 0 ∧ R 0 < 36 := ⟨hR.1.1, by have := hR.1.2; omega⟩
  intro s
  induction s with
  | zero => exact ⟨nb Kd (R 0), lBt_n hr0 hG, Nat.or_self _⟩
  | succ s ih =>
    by_cases hm : sM Kd R s = lAll Kd
    · have e := sS_all hm
      unfold sM at ih ⊢
      rw [e]; exact ih
    · obtain ⟨k, e, q⟩ := ih
      obtain ⟨e1, -, -, -⟩ := sS_no hm
      obtain ⟨w1, w2, w3⟩ := sS_way hR hG h0 hf hm
      obtain ⟨d, e', d2, d3, -⟩ := (sS_ok hR hG h0 hf s).1
      obtain rfl : k = d := by omega
      rcases zNx_R (Kd := Kd) (way := lWy Kd R s) (show 0 ≤ sC Kd R s ∧ sC Kd R s < 36 from ⟨d3.1, d3.2.1⟩) with z | ⟨q1, q2, q3⟩
      · omega
      · rw [e1, e, nA_bt hG d2 ⟨q1, q2⟩]
        refine ⟨_, rfl, ?_⟩
        rw [Nat.or_assoc, Nat.or_comm (nb Kd (zNx Kd _ _)), ← Nat.or_assoc, q]
theorem cLd.fr {Kd R : Int → Int} {h g : zMm} (L : cLd Kd R h) (F : ∀ o : Nat, 32 ≤ o → o ≤ 45 → g o = h o) (F1 : ∀ i : Int, 10 ≤ i → i ≤ 12 → g 31 i = h 31 i) : cLd Kd R g := by
  unfold cLd cPl cCh cNx cTg cFa cRe at L ⊢
  rw [F 33 (by decide) (by decide), F 37 (by decide) (by decide), F 38 (by decide) (by decide), F 39 (by decide) (by decide), F 40 (by decide) (by decide), F 41 (by decide) (by decide), F 42 (by decide) (by decide), F 43 (by decide) (by decide), F 45 (by decide) (by decide), F1 10 (by decide) (by decide), F1 11 (by decide) (by decide), F1 12 (by decide) (by decide)]
  exact L
/-- what the class keeps, when it has sought -/
def cKp (Kd R : Int → Int) (h : zMm) : Prop := lMin Kd R < 1000000 → h 31 16 = (lLen Kd R : Nat) ∧ h 31 17 = sQ Kd R (lLen Kd R) ∧ ∀ s : Nat, s < lLen Kd R → h 46 (s : Int) = lWy Kd R s
theorem sX4_follow {Kd R : Int → Int} {h : zMm} {K : zMm → Prop} (hR : zRu R) (hG : lRk Kd 36 ≤ 7) (h0 : ¬ Kd (R 0) = 2) (L : cLd Kd R h) (e15 : h 31 15 = lMin Kd R) (hK : ∀ h', (∀ o : Nat, o ≠ 31 → o ≠ 46 → h' o = h o) → (∀ i : Int, i ≠ 16 → i ≠ 17 → h' 31 i = h 31 i) → cKp Kd R h' → K h') : zCv mX4_follow [.ref 31] zS0 h K := by
  have hr0 : 0 ≤ R 0 ∧ R 0 < 36 := ⟨hR.1.1, by have := hR.1.2; omega⟩
  have mR := lM_R (Kd := Kd) hR (lBt Kd (R 0)) (R 0) 0
  have mR : 0 ≤ lMin Kd R ∧ lMin Kd R ≤ 1000000 := mR
  refine wX4_follow (sX3_told g0_32 (by decide) ?_)
  rw [show h (32 + 5) 0 = R 0 from L.1.2 0 (by decide) (by decide)]
  refine sX4_seenAtFirst L.1 L.2.1 hr0 (wX4_isFound ?_)
  have e15' : zU (zU h 31 16 0) 31 17 0 31 15 = lMin Kd R := by rw [zU_ne (by omega), zU_ne (by omega)]; exact e15
  rw [e15']
  refine ⟨⟨by omega, by omega⟩, ?_⟩
  have F0 : (∀ o : Nat, o ≠ 31 → o ≠ 46 → zU (zU h 31 16 0) 31 17 0 o = h o) ∧ ∀ i : Int, i ≠ 16 → i ≠ 17 → zU (zU h 31 16 0) 31 17 0 31 i = h 31 i := ⟨fun o o1 o2 => by rw [zU_off o o1, zU_off o o1], fun i i1 i2 => by rw [zU_ne (by omega), zU_ne (by omega)]⟩
  by_cases hf : 1000000 ≤ lMin Kd R
  · rw [if_pos hf]
    refine bX4_follow_48 ⟨by decide, by decide, fun _ => hK _ F0.1 F0.2 (fun z => absurd z (by omega)), fun z => absurd (show (if false = true then (252 : Int) else 0) ≤ 0 by decide) z⟩
  · rw [if_neg hf]
    have hf' : lMin Kd R < 1000000 := by omega
    obtain ⟨l1, l2, l3⟩ := lLen_ok hR hG h0 hf'
    have lp : ∀ (n s : Nat) (g : zMm), s + n = lLen Kd R → (∀ o : Nat, o ≠ 31 → o ≠ 46 → g o = h o) → (∀ i : Int, i ≠ 16 → i ≠ 17 → g 31 i = h 31 i) → g 31 16 = (s : Int) → g 31 17 = sQ Kd R s → (∀ t : Nat, t < s → g 46 (t : Int) = lWy Kd R t) → RR mX4_follow 0 0 48 [some (.ref 31), some (.int (zI (sC Kd R s * 4 + sL Kd R s))), some (.int (zI (sM Kd R s))), some (.int (zI 252)), some (.int (zI (s : Int))), none, none, none] [] zS0 g (zQv zS0 K) := by
      intro n
      induction n with
      | zero =>
        intro s g hs F F1 e16 e17 W
        obtain rfl : s = lLen Kd R := by omega
        obtain ⟨d, e, d2, d3, d4, -⟩ := (sS_ok hR hG h0 hf' (lLen Kd R)).1
        have hA := nA_le hG
        have fin := hK g F F1 (fun _ => ⟨e16, e17, W⟩)
        refine bX4_follow_48 ⟨⟨by omega, by omega⟩, by decide, fun _ => fin, fun _ => ⟨⟨by omega, by omega⟩, ⟨?_, ?_⟩, fun _ => fin, fun z => absurd (l2.trans ?_) z⟩⟩
        · rw [F1 11 (by decide) (by decide), L.2.1.2.1, lAll_n hG]; omega
        · rw [F1 11 (by decide) (by decide), L.2.1.2.1, lAll_n hG]; omega
        · rw [F1 11 (by decide) (by decide), L.2.1.2.1]
      | succ n ih =>
        intro s g hs F F1 e16 e17 W
        have hm := l3 s (by omega)
        obtain ⟨dd, hfs⟩ := sS_ok hR hG h0 hf' s
        obtain ⟨k, ek, hs0⟩ := sS_seen hR hG h0 hf' s
        obtain ⟨w1, w2, w3⟩ := sS_way hR hG h0 hf' hm
        obtain ⟨n1, n2, n3, n4⟩ := sS_no hm
        obtain ⟨d, e, d2, d3, d4, -⟩ := id dd
        have hA := nA_le hG
        have Lg : cLd Kd R g := L.fr (fun o o1 o2 => F o (by omega) (by omega)) (fun i i1 i2 => F1 i (by omega) (by omega))
        have e11 : g 31 11 = lAll Kd := Lg.2.1.2.1
        refine bX4_follow_48 ?_
        rw [e11]
        refine ⟨⟨by omega, by omega⟩, by decide, fun z => absurd z (by omega), fun _ => ⟨⟨by omega, by omega⟩, by rw [lAll_n hG]; exact ⟨by omega, by omega⟩, fun z => absurd z hm, fun _ => ?_⟩⟩
        rw [ek] at dd hfs hm ⊢
        refine sX4_firstWay hR hG Lg dd hs0 hm hfs ?_
        have ew : lFw Kd R (k : Int) (sC Kd R s) (sL Kd R s) = lWy Kd R s := by rw [← ek]; rfl
        rw [ew]
        refine ⟨⟨by omega, by omega⟩, fun _ => ⟨⟨by omega, by omega⟩, ?_⟩, fun z => absurd w1.1 z⟩
        rw [show (sC Kd R s * 4 + sL Kd R s) % 4 = sL Kd R s by omega, show sC Kd R s * 4 + sL Kd R s - sL Kd R s + lWy Kd R s = sC Kd R s * 4 + lWy Kd R s by omega, (Lg.2.1.2.2.1 (sC Kd R s) (lWy Kd R s) d3.1 d3.2.1 w1.1 w1.2 (by omega)).1]
        rcases zNx_R (Kd := Kd) (way := lWy Kd R s) (show 0 ≤ sC Kd R s ∧ sC Kd R s < 36 from ⟨d3.1, d3.2.1⟩) with z | ⟨q1, q2, q3⟩
        · omega
        · refine ⟨⟨by omega, by omega⟩, ⟨by omega, by omega⟩, sX11_quartersBetween ⟨⟨q1, q2⟩, ?_⟩⟩
          rw [zU_off 40 (by decide), zU_off 40 (by decide), Lg.2.1.2.2.2.2.1 _ q1 q2, e17]
          rw [ek] at n1
          rw [← n1, ← n2, ← n4, show (s : Int) + 1 = ((s + 1 : Nat) : Int) by omega]
          have e3 : sC Kd R (s + 1) * 4 + lWy Kd R s = sC Kd R (s + 1) * 4 + sL Kd R (s + 1) := by rw [n3]
          rw [e3]
          refine ih (s + 1) _ (by omega) (fun o o1 o2 => by rw [zU_off o o1, zU_off o o1, zU_off o o2]; exact F o o1 o2) (fun i i1 i2 => by rw [zU_ne (by omega), zU_ne (by omega), zU_off 31 (by decide)]; exact F1 i i1 i2) ?_ (zU_eq _ _ _ _) (fun t ht => ?_)
          · rw [zU_ne (by omega), zU_eq]
          · rw [zU_off 46 (by decide), zU_off 46 (by decide)]
            by_cases c : t = s
            · rw [c, zU_eq]
            · rw [zU_ne (by omega)]; exact W t (by omega)
    exact lp (lLen Kd R) 0 _ (by omega) F0.1 F0.2 (by rw [zU_ne (by omega), zU_eq]; rfl) (zU_eq _ _ _ _) (fun t ht => absurd ht (by omega))
/-- the class's cells, with another cache -/
theorem CR.ld {a h h' : zMm} (hC : CR a h) (hF : ∀ o : Nat, (o < 4 ∨ (10 ≤ o ∧ o ≤ 18) ∨ (51 ≤ o ∧ o ≤ 80)) → h' o = h o) (hL : cL a h') : CR a h' := by
  obtain ⟨h1, h2, h3, h4, h5, h6, h7⟩ := hC
  refine ⟨?_, ?_, ?_, ?_, ?_, ?_, hL⟩
  · unfold cG zGA zHA at h1 ⊢
    rw [hF 11 (by decide), hF 12 (by decide), hF 13 (by decide), hF 14 (by decide), hF 15 (by decide)]
    exact h1
  · unfold zMA at h2 ⊢
    rw [hF 16 (by decide), hF 17 (by decide), hF 18 (by decide)]
    exact h2
  · unfold cT at h3 ⊢
    rw [hF 1 (by decide), hF 2 (by decide)]
    exact h3
  · unfold cI cI1 at h4 ⊢
    rw [hF 71 (by decide), hF (52 + 1) (by decide), hF (52 + 2) (by decide), hF (52 + 4) (by decide), hF 65 (by decide), hF (65 + 1) (by decide), hF (65 + 2) (by decide), hF (58 + 1) (by decide), hF (58 + 2) (by decide), hF (58 + 4) (by decide), hF 68 (by decide), hF (68 + 1) (by decide), hF (68 + 2) (by decide)]
    exact h4
  · intro k hk
    rw [hF (73 + 2 * k) (by omega), hF (74 + 2 * k) (by omega)]
    exact h5 k hk
  · unfold cO at h6 ⊢
    rw [hF 3 (by decide), hF 0 (by decide)]
    exact h6
/-- sought: what the class knows -/
def cSo (a h : zMm) : Prop := h 31 13 = 1 ∧ lRk (a 0) 36 ≤ 7 ∧ h 31 15 = lMin (a 0) (a 4) ∧ cKp (a 0) (a 4) h
theorem cL_of {a h : zMm} (z : ∀ y : Int, 0 ≤ y → y < 144 → h 45 y = 0) (S : cSo a h) (D : h 31 14 = 0 ∨ (h 31 14 = 1 ∧ h 31 18 = (lDr (a 0) (a 4) 36).1 ∧ h 31 19 = (lDr (a 0) (a 4) 36).2)) : cL a h := ⟨z, Or.inr ⟨S.1, S.2.1, S.2.2.1, S.2.2.2⟩, D⟩
theorem sX4_seek {a h : zMm} {K : zMm → Prop} (W : WF a) (C : CR a h) (hG : lRk (a 0) 36 ≤ 7) (hK : ∀ h', CR a h' → zHi81 h h' → cSo a h' → K h') : zCv mX4_seek [.ref 31, .ref 10] zS0 h K := by
  have hR := W.2.1
  have h0 := W.2.2.1
  obtain ⟨cGg, -, -, -, -, -, cLe⟩ := id C
  obtain ⟨z45, so, de⟩ := cLe
  have r13 : zR (h 31 13) := by
    rcases so with e | e
    · rw [e]; decide
    · rw [e.1]; decide
  refine wX4_seek ⟨r13, fun _ => ?_, fun c => ?_⟩
  · refine sX4_minutesWith hR hG h0 z45 cGg.1.2 (Or.inl ⟨rfl, cGg.1.1⟩) (fun h1 F1 L1 => ?_)
    have L2 : cLd (a 0) (a 4) (zU h1 31 15 (lMin (a 0) (a 4))) := L1.fr (fun o o1 o2 => zU_off o (by omega)) (fun i i1 i2 => zU_ne (by omega))
    refine sX4_follow hR hG h0 L2 (zU_eq _ _ _ _) (fun h2 F2 F3 Kp => ?_)
    have fo : ∀ o : Nat, ¬ (o = 31 ∨ (33 ≤ o ∧ o ≤ 46)) → zU h2 31 13 1 o = h o := fun o ho => by
      rw [zU_off o (by omega), F2 o (by omega) (by omega), zU_off o (by omega), F1.1 o (by omega)]
    have fi : ∀ i : Int, ¬ (10 ≤ i ∧ i ≤ 13) → i ≠ 15 → i ≠ 16 → i ≠ 17 → zU h2 31 13 1 31 i = h 31 i := fun i i0 i1 i2 i3 => by
      rw [zU_ne (by omega), F3 i i2 i3, zU_ne (by omega), F1.2 i (by omega)]
    have S : cSo a (zU h2 31 13 1) := by
      refine ⟨zU_eq _ _ _ _, hG, ?_, fun hf => ?_⟩
      · rw [zU_ne (by omega), F3 15 (by decide) (by decide), zU_eq]
      · obtain ⟨k1, k2, k3⟩ := Kp hf
        rw [zU_ne (by omega), zU_ne (by omega), zU_off 46 (by decide)]
        exact ⟨k1, k2, k3⟩
    refine hK _ (C.ld (fun o ho => fo o (by omega)) (cL_of (fun y y0 y1 => ?_) S ?_)) (fun o ho => fo o (by omega)) S
    · rw [zU_off 45 (by decide), F2 45 (by decide) (by decide), zU_off 45 (by decide)]
      exact L1.2.2.2.2 y y0 y1
    · rw [fi 14 (by decide) (by decide) (by decide) (by decide), fi 18 (by decide) (by decide) (by decide) (by decide), fi 19 (by decide) (by decide) (by decide) (by decide)]
      exact de
  · rcases so with e | ⟨s1, s2, s3, s4⟩
    · exact absurd e c
    · exact hK h C (fun _ _ => rfl) ⟨s1, s2, s3, s4⟩
def fWhy (a : zMm) : Int := if lRk (a 0) 36 ≤ 7 then (if lMin (a 0) (a 4) < 1000000 then 0 else -4) else -2
theorem sX11_seekLeast {a h : zMm} {K : Int → zMm → Prop} (W : WF a) (C : CR a h) (hK : ∀ h', CR a h' → zHi81 h h' → (fWhy a = 0 → cSo a h' ∧ lMin (a 0) (a 4) < 1000000) → K (fWhy a) h') : zCi mX11_seekLeast [.ref 0] zS0 h K := by
  have hR := W.2.1
  have g0 := lRk_R (a 0) 36
  have mR : 0 ≤ lMin (a 0) (a 4) ∧ lMin (a 0) (a 4) ≤ 1000000 := lM_R (Kd := a 0) hR (lBt (a 0) (a 4 0)) (a 4 0) 0
  refine wX11_seekLeast (sX3_grassCells g0_10 C.1.1.1 ?_)
  rw [← lRk_is]
  refine ⟨⟨by omega, by omega⟩, fun c => sX4_seek W C c (fun h1 C1 F1 S1 => wX4_isFound ?_), fun c => ?_⟩
  · rw [S1.2.2.1]
    refine ⟨⟨by omega, by omega⟩, ?_⟩
    by_cases hf : lMin (a 0) (a 4) < 1000000
    · rw [if_pos (show (if 1000000 ≤ lMin (a 0) (a 4) then false else true) = true by rw [if_neg (by omega)])]
      have e : fWhy a = 0 := by unfold fWhy; rw [if_pos c, if_pos hf]
      have := hK h1 C1 F1 (fun _ => ⟨S1, hf⟩)
      rw [e] at this
      exact this
    · rw [if_neg (show ¬ (if 1000000 ≤ lMin (a 0) (a 4) then false else true) = true by rw [if_pos (by omega)]; decide)]
      have e : fWhy a = -4 := by unfold fWhy; rw [if_pos c, if_neg hf]
      have := hK h1 C1 F1 (fun z => absurd (e.symm.trans z) (by decide))
      rw [e] at this
      exact this
  · have e : fWhy a = -2 := by unfold fWhy; rw [if_neg c]
    have := hK h C (fun _ _ => rfl) (fun z => absurd (e.symm.trans z) (by decide))
    rw [e] at this
    exact this
